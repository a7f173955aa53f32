/-! walks by hand: what an instruction does, numbers as integers -/
def gKs (k : Nat → aK) : Prop := ∀ a, a < 230 → (k a).1 = (gK a).1 ∧ (100 ≤ (gK a).1 → (k a).2.1 = (gK a).2.1) ∧ ∀ j, zAt (gK a).2.2.1 j < 700 → (k a).2.2 j = some (zAt (gK a).2.2.1 j)
theorem gK_lt : ∀ a, a < 230 → (gK a).1 < 900 := by decide +kernel
theorem gKs_of {h : aH} (g : zGK (gP []) (230, 108808, []) h) : gKs h.2.2.1 := by
  intro a ha
  obtain ⟨_, b2, b3, b4⟩ := gKd g ha rfl (gK_lt a ha)
  refine ⟨b2, b3, fun j hj => ?_⟩
  obtain ⟨r, e, hc⟩ := b4 j (by omega)
  rw [e, zGc_ex hc hj]
abbrev gH (k : Nat → aK) (M : Nat → Nat → Int32) : aH := (230, 108808, k, M)
theorem gH_of {h : aH} (g : zGK (gP []) (230, 108808, []) h) : h = gH h.2.2.1 h.2.2.2 := by
  obtain ⟨h1, h2, h3, h4⟩ := h
  have e1 : h1 = 230 := g.1
  have e2 : h2 = 108808 := g.2.1
  subst e1
  subst e2
  rfl
abbrev iv (e : Int) : Value := .int (Int32.ofInt e)
theorem iR {e : Int} (h1 : -2147483648 ≤ e) (h2 : e ≤ 2147483647) : (Int32.ofInt e).toInt = e := by
  rw [Int32.toInt_ofInt]
  exact zWr_id (w := 0) (Or.inl rfl) h1 h2
theorem iE (x : Int32) : x = Int32.ofInt x.toInt := (Int32.ofInt_toInt x).symm
theorem iG (x : Int32) : -2147483648 ≤ x.toInt ∧ x.toInt ≤ 2147483647 := zI32_rg x
def gCr (a K r : Nat) : Bool := Nat.blt a 230 && (Nat.beq (gK a).1 (K / 1000 % 100) && (Nat.beq (K % 4) 2 && (Nat.beq (zAt (gK a).2.2.1 (K % 1000 / 4)) r && (Nat.blt r 230 && Nat.blt (gK a).1 100))))
def gCn (a K f : Nat) : Bool := Nat.blt a 230 && (Nat.beq (gK a).1 (K / 1000 % 100) && (zNo (Nat.beq (K % 4) 2) && (Nat.beq (K % 1000 / 4) f && Nat.blt (gK a).1 100)))
def gCa (a kd l : Nat) : Bool := Nat.blt a 230 && (Nat.beq (gK a).1 kd && (Nat.beq (gK a).2.1 l && Nat.ble l 100000))
section WK
variable {X : aX} {d y b : Nat} {is : List aI} {ls st : List Value} {k : Nat → aK} {M : Nat → Nat → Int32} {Q : Option Value → aH → Prop}
theorem wGetR {a K r : Nat} (hk : gKs k) (hc : gCr a K r = true) (t : zW X d y b is ls (.ref r :: st) (gH k M) Q) : zW X d y b (.getfield K :: is) ls (.ref a :: st) (gH k M) Q := by
  unfold gCr at hc
  obtain ⟨c1, hc⟩ := zAnd hc
  obtain ⟨c2, hc⟩ := zAnd hc
  obtain ⟨c3, hc⟩ := zAnd hc
  obtain ⟨c4, hc⟩ := zAnd hc
  obtain ⟨c5, c6⟩ := zAnd hc
  have c1 := zbt c1
  have c2 := zbe c2
  have c3 := zbe c3
  have c4 := zbe c4
  have c5 := zbt c5
  obtain ⟨k1, _, k3⟩ := hk a c1
  have k3 := k3 (K % 1000 / 4) (by omega)
  refine zW_step (ls' := ls) (st' := .ref r :: st) (h' := gH k M) (by show (1 : Nat) ≠ 4; decide) (fun cal => ?_) t
  show (if a < 230 ∧ (k a).1 = K / 1000 % 100 then some ((if K % 4 = 2 then aRf ((k a).2.2 (K % 1000 / 4)) else _) :: st, _) else none).map _ = _
  rw [if_pos ⟨c1, k1.trans c2⟩, if_pos c3, k3, c4]
  rfl
theorem wGetN {a K f : Nat} {e : Int} (hk : gKs k) (hc : gCn a K f = true) (he : M a f = Int32.ofInt e) (t : zW X d y b is ls (iv e :: st) (gH k M) Q) : zW X d y b (.getfield K :: is) ls (.ref a :: st) (gH k M) Q := by
  unfold gCn at hc
  obtain ⟨c1, hc⟩ := zAnd hc
  obtain ⟨c2, hc⟩ := zAnd hc
  obtain ⟨c3, hc⟩ := zAnd hc
  obtain ⟨c4, c6⟩ := zAnd hc
  have c1 := zbt c1
  have c2 := zbe c2
  have c3 := zbn (zNo_s c3)
  have c4 := zbe c4
  obtain ⟨k1, _, _⟩ := hk a c1
  refine zW_step (ls' := ls) (st' := iv e :: st) (h' := gH k M) (by show (1 : Nat) ≠ 4; decide) (fun cal => ?_) t
  show (if a < 230 ∧ (k a).1 = K / 1000 % 100 then some ((if K % 4 = 2 then _ else Value.int (M a (K % 1000 / 4))) :: st, gH k M) else none).map _ = _
  rw [if_pos ⟨c1, k1.trans c2⟩, if_neg c3, c4, he]
  rfl
theorem wPutN {a K f : Nat} {e : Int} (hk : gKs k) (hc : gCn a K f = true) (h4 : K % 4 = 0 ∨ K % 4 = 1 ∧ (e = 0 ∨ e = 1)) (t : zW X d y b is ls st (gH k (aPut M a f (Int32.ofInt e))) Q) : zW X d y b (.putfield K :: is) ls (iv e :: .ref a :: st) (gH k M) Q := by
  unfold gCn at hc
  obtain ⟨c1, hc⟩ := zAnd hc
  obtain ⟨c2, hc⟩ := zAnd hc
  obtain ⟨c3, hc⟩ := zAnd hc
  obtain ⟨c4, c6⟩ := zAnd hc
  have c1 := zbt c1
  have c2 := zbe c2
  have c4 := zbe c4
  obtain ⟨k1, _, _⟩ := hk a c1
  refine zW_step (ls' := ls) (st' := st) (h' := gH k (aPut M a f (Int32.ofInt e))) (by show (1 : Nat) ≠ 4; decide) (fun cal => ?_) t
  show (if a < 230 ∧ (k a).1 = K / 1000 % 100 ∧ (K % 4 = 0 ∨ K % 4 = 1 ∧ (Int32.ofInt e = 0 ∨ Int32.ofInt e = 1)) then some (st, (230, 108808, k, aPut M a (K % 1000 / 4) (Int32.ofInt e))) else none).map _ = _
  rw [if_pos ⟨c1, k1.trans c2, h4.imp id (fun q => ⟨q.1, q.2.imp (fun z => by rw [z]; rfl) (fun z => by rw [z]; rfl)⟩)⟩, c4]
  rfl
theorem wIx {x : Int} {l : Nat} (h0 : 0 ≤ x) (h1 : x < l) (hl : l ≤ 100000) : aInR (Int32.ofInt x) l = true ∧ (Int32.ofInt x).toNatClampNeg = x.toNat := by
  have e := iR (e := x) (by omega) (by omega)
  refine ⟨decide_eq_true (by rw [e]; exact ⟨h0, h1⟩), ?_⟩
  show (Int32.ofInt x).toInt.toNat = _
  rw [e]
theorem wIld {a l : Nat} {x e : Int} (hk : gKs k) (hc : gCa a 100 l = true) (h0 : 0 ≤ x) (h1 : x < l) (he : M a x.toNat = Int32.ofInt e) (t : zW X d y b is ls (iv e :: st) (gH k M) Q) : zW X d y b (.iaload :: is) ls (iv x :: .ref a :: st) (gH k M) Q := by
  unfold gCa at hc
  obtain ⟨c1, hc⟩ := zAnd hc
  obtain ⟨c2, hc⟩ := zAnd hc
  obtain ⟨c3, c4⟩ := zAnd hc
  have c1 := zbt c1
  have c2 := zbe c2
  have c3 := zbe c3
  have c4 := zbl c4
  obtain ⟨k1, k2, _⟩ := hk a c1
  have k2 := k2 (by omega)
  obtain ⟨i1, i2⟩ := wIx h0 h1 c4
  refine zW_step (ls' := ls) (st' := iv e :: st) (h' := gH k M) (by decide) (fun cal => ?_) t
  show (if a = 90000 then _ else if a < 230 ∧ (k a).1 = 100 ∧ aInR (Int32.ofInt x) (k a).2.1 then some (Value.int (M a (Int32.ofInt x).toNatClampNeg) :: st, gH k M) else none).map _ = _
  rw [if_neg (by omega), if_pos ⟨c1, k1.trans c2, by rw [k2, c3]; exact i1⟩, i2, he]
  rfl
theorem wBld {a l : Nat} {x e : Int} (hk : gKs k) (hc : gCa a 101 l = true) (h0 : 0 ≤ x) (h1 : x < l) (he : M a x.toNat = Int32.ofInt e) (t : zW X d y b is ls (iv e :: st) (gH k M) Q) : zW X d y b (.baload :: is) ls (iv x :: .ref a :: st) (gH k M) Q := by
  unfold gCa at hc
  obtain ⟨c1, hc⟩ := zAnd hc
  obtain ⟨c2, hc⟩ := zAnd hc
  obtain ⟨c3, c4⟩ := zAnd hc
  have c1 := zbt c1
  have c2 := zbe c2
  have c3 := zbe c3
  have c4 := zbl c4
  obtain ⟨k1, k2, _⟩ := hk a c1
  have k2 := k2 (by omega)
  obtain ⟨i1, i2⟩ := wIx h0 h1 c4
  refine zW_step (ls' := ls) (st' := iv e :: st) (h' := gH k M) (by decide) (fun cal => ?_) t
  show (if a < 230 ∧ (k a).1 = 101 ∧ aInR (Int32.ofInt x) (k a).2.1 then some (Value.int (M a (Int32.ofInt x).toNatClampNeg) :: st, gH k M) else none).map _ = _
  rw [if_pos ⟨c1, k1.trans c2, by rw [k2, c3]; exact i1⟩, i2, he]
  rfl
theorem wIst {a l : Nat} {x e : Int} (hk : gKs k) (hc : gCa a 100 l = true) (h0 : 0 ≤ x) (h1 : x < l) (t : zW X d y b is ls st (gH k (aPut M a x.toNat (Int32.ofInt e))) Q) : zW X d y b (.iastore :: is) ls (iv e :: iv x :: .ref a :: st) (gH k M) Q := by
  unfold gCa at hc
  obtain ⟨c1, hc⟩ := zAnd hc
  obtain ⟨c2, hc⟩ := zAnd hc
  obtain ⟨c3, c4⟩ := zAnd hc
  have c1 := zbt c1
  have c2 := zbe c2
  have c3 := zbe c3
  have c4 := zbl c4
  obtain ⟨k1, k2, _⟩ := hk a c1
  have k2 := k2 (by omega)
  obtain ⟨i1, i2⟩ := wIx h0 h1 c4
  refine zW_step (ls' := ls) (st' := st) (h' := gH k (aPut M a x.toNat (Int32.ofInt e))) (by decide) (fun cal => ?_) t
  show (if a < 230 ∧ (k a).1 = 100 ∧ aInR (Int32.ofInt x) (k a).2.1 then some (st, (230, 108808, k, aPut M a (Int32.ofInt x).toNatClampNeg (Int32.ofInt e))) else none).map _ = _
  rw [if_pos ⟨c1, k1.trans c2, by rw [k2, c3]; exact i1⟩, i2]
  rfl
theorem wP {i : aI} {ls' st' : List Value} {h : aH} (hk : aKd i = 0) (hS : aP i ls st = some (ls', st')) (t : zW X d y b is ls' st' h Q) : zW X d y b (i :: is) ls st h Q := by
  refine zW_step (by rw [hk]; decide) (fun cal => ?_) t
  unfold aS
  rw [hk]
  show (aP i ls st).map _ = _
  rw [hS]
  rfl
theorem wAdd {x z : Int} {h : aH} (t : zW X d y b is ls (iv (x + z) :: st) h Q) : zW X d y b (.iadd :: is) ls (iv z :: iv x :: st) h Q :=
  wP rfl (by show some (ls, Value.int (Int32.ofInt x + Int32.ofInt z) :: st) = _; rw [← Int32.ofInt_add]) t
theorem wSub {x z : Int} {h : aH} (t : zW X d y b is ls (iv (x - z) :: st) h Q) : zW X d y b (.isub :: is) ls (iv z :: iv x :: st) h Q :=
  wP rfl (by show some (ls, Value.int (Int32.ofInt x - Int32.ofInt z) :: st) = _; rw [← Int32.ofInt_sub]) t
theorem wMul {x z : Int} {h : aH} (t : zW X d y b is ls (iv (x * z) :: st) h Q) : zW X d y b (.imul :: is) ls (iv z :: iv x :: st) h Q :=
  wP rfl (by show some (ls, Value.int (Int32.ofInt x * Int32.ofInt z) :: st) = _; rw [← Int32.ofInt_mul]) t
theorem wInc {j : Nat} {n x : Int} {ls' : List Value} {h : aH} (h1 : ls[j]? = some (iv x)) (h2 : aSt ls j (iv (x + n)) = ls') (t : zW X d y b is ls' st h Q) : zW X d y b (.iinc j n :: is) ls st h Q := by
  refine wP rfl ?_ t
  show (match ls[j]? with | some (.int x) => if j < ls.length then some (aSt ls j (.int (x + Int32.ofInt n)), st) else none | _ => none) = _
  rw [h1]
  show (if j < ls.length then some (aSt ls j (.int (Int32.ofInt x + Int32.ofInt n)), st) else none) = _
  rw [if_pos (List.getElem?_eq_some_iff.mp h1).1, ← Int32.ofInt_add, h2]
/-- a comparison of integers -/
def gCd (c : Jvm.ClassFile.Cond) (x z : Int) : Prop := match c with
  | .eq => x = z
  | .ne => ¬ x = z
  | .lt => x < z
  | .ge => z ≤ x
  | .gt => z < x
  | .le => x ≤ z
theorem gCd_s {c : Jvm.ClassFile.Cond} {x z : Int} (rx : -2147483648 ≤ x ∧ x ≤ 2147483647) (rz : -2147483648 ≤ z ∧ z ≤ 2147483647) : (aCd c (Int32.ofInt x) (Int32.ofInt z) = true) ↔ gCd c x z := by
  have ex := iR rx.1 rx.2
  have ez := iR rz.1 rz.2
  have inj : Int32.ofInt x = Int32.ofInt z ↔ x = z := ⟨fun h => by have := congrArg Int32.toInt h; rwa [ex, ez] at this, fun h => by rw [h]⟩
  cases c
  · show decide (Int32.ofInt x = Int32.ofInt z) = true ↔ x = z
    rw [decide_eq_true_iff, inj]
  · show decide (¬ Int32.ofInt x = Int32.ofInt z) = true ↔ ¬ x = z
    rw [decide_eq_true_iff, inj]
  · show decide (Int32.ofInt x < Int32.ofInt z) = true ↔ x < z
    rw [decide_eq_true_iff, Int32.lt_iff_toInt_lt, ex, ez]
  · show decide (Int32.ofInt z ≤ Int32.ofInt x) = true ↔ z ≤ x
    rw [decide_eq_true_iff, Int32.le_iff_toInt_le, ex, ez]
  · show decide (Int32.ofInt z < Int32.ofInt x) = true ↔ z < x
    rw [decide_eq_true_iff, Int32.lt_iff_toInt_lt, ex, ez]
  · show decide (Int32.ofInt x ≤ Int32.ofInt z) = true ↔ x ≤ z
    rw [decide_eq_true_iff, Int32.le_iff_toInt_le, ex, ez]
theorem wIfc {c : Jvm.ClassFile.Cond} {n : Int} {n1 : Nat} {x z : Int} {l1 l2 : List aI} {h : aH} (hn : n.toNat = n1) (h1 : (aMC y)[n1]? = some l1) (h2 : (aMC y)[b + 1]? = some l2) (rx : -2147483648 ≤ x ∧ x ≤ 2147483647) (rz : -2147483648 ≤ z ∧ z ≤ 2147483647)
    (p : gCd c x z → zW X d y n1 l1 ls st h Q) (q : ¬ gCd c x z → zW X d y (b + 1) l2 ls st h Q) : zW X d y b (.if_icmp c n :: is) ls (iv z :: iv x :: st) h Q := by
  have e := gCd_s (c := c) rx rz
  by_cases g : gCd c x z
  · refine zW_jump (b' := n1) (t := st) rfl ?_ h1 (p g)
    show some (Sum.inl ((if aCd c (Int32.ofInt x) (Int32.ofInt z) then n.toNat else b + 1), ls, st, h)) = _
    rw [if_pos (e.mpr g), hn]
  · refine zW_jump (b' := b + 1) (t := st) rfl ?_ h2 (q g)
    show some (Sum.inl ((if aCd c (Int32.ofInt x) (Int32.ofInt z) then n.toNat else b + 1), ls, st, h)) = _
    rw [if_neg (fun z => g (e.mp z))]
theorem wIf0 {c : Jvm.ClassFile.Cond} {n : Int} {n1 : Nat} {x : Int} {l1 l2 : List aI} {h : aH} (hn : n.toNat = n1) (h1 : (aMC y)[n1]? = some l1) (h2 : (aMC y)[b + 1]? = some l2) (rx : -2147483648 ≤ x ∧ x ≤ 2147483647)
    (p : gCd c x 0 → zW X d y n1 l1 ls st h Q) (q : ¬ gCd c x 0 → zW X d y (b + 1) l2 ls st h Q) : zW X d y b (.ifCond c n :: is) ls (iv x :: st) h Q := by
  have e := gCd_s (c := c) rx (z := 0) (by omega)
  have e0 : Int32.ofInt 0 = 0 := rfl
  rw [e0] at e
  by_cases g : gCd c x 0
  · refine zW_jump (b' := n1) (t := st) rfl ?_ h1 (p g)
    show some (Sum.inl ((if aCd c (Int32.ofInt x) 0 then n.toNat else b + 1), ls, st, h)) = _
    rw [if_pos (e.mpr g), hn]
  · refine zW_jump (b' := b + 1) (t := st) rfl ?_ h2 (q g)
    show some (Sum.inl ((if aCd c (Int32.ofInt x) 0 then n.toNat else b + 1), ls, st, h)) = _
    rw [if_neg (fun z => g (e.mp z))]
theorem wGoto {n : Int} {n1 : Nat} {l1 : List aI} {h : aH} (hn : n.toNat = n1) (h1 : (aMC y)[n1]? = some l1) (t : zW X d y n1 l1 ls st h Q) : zW X d y b (.goto n :: is) ls st h Q :=
  zW_jump (b' := n1) rfl (by show some (Sum.inl (n.toNat, ls, st, h)) = _; rw [hn]) h1 t
theorem wIret {x : Int} {h : aH} (hr : aRT y = 1 ∨ aRT y = 2 ∧ (x = 0 ∨ x = 1)) (q : Q (some (iv x)) h) : zW X d y b (.ireturn :: is) ls [iv x] h Q := by
  refine zW_ret (rv := some (iv x)) rfl ?_ q
  show (if aRT y = 1 ∨ aRT y = 2 ∧ (Int32.ofInt x = 0 ∨ Int32.ofInt x = 1) then some (Sum.inr (some (Value.int (Int32.ofInt x)), h)) else none) = _
  rw [if_pos (hr.imp id (fun q => ⟨q.1, q.2.imp (fun z => by rw [z]; rfl) (fun z => by rw [z]; rfl)⟩))]
theorem wRet0 {h : aH} (hr : aRT y = 0) (q : Q none h) : zW X d y b (.return_ :: is) ls [] h Q := by
  refine zW_ret (rv := none) rfl ?_ q
  show (if aRT y = 0 then some (Sum.inr (none, h)) else none) = _
  rw [if_pos hr]
/-- a call of a method of an object -/
theorem wCall {K q na a : Nat} {as t : List Value} (hk : gKs k) (hq : K % 1000 = q) (hna : aNA q = na) (h9 : q < 900) (ha : (Nat.blt a 230 && Nat.beq (gK a).1 (aCI q)) = true) (h8 : (t.map fun v => v.category).sum ≤ 8)
    (e1 : st.drop na = .ref a :: t) (e2 : (st.take na).reverse = as)
    (r : zRn X d q (.ref a :: as) (gH k M) (fun rv h' => h'.1 = 230 ∧ zW X d y b is ls (rv.toList ++ t) h' Q)) : zW X d y b (.invokevirtual K :: is) ls st (gH k M) Q := by
  obtain ⟨a1, a2⟩ := zAnd ha
  have a1 := zbt a1
  have a2 := zbe a2
  obtain ⟨k1, _, _⟩ := hk a a1
  refine zW_call (y' := q) (as := .ref a :: as) (t := t) (by show (3 : Nat) ≠ 4; decide) (fun cal => aS3c rfl h8 ?_) (r.mono (fun rv h' z => ⟨Or.inl z.1, z.2⟩))
  show (if K % 1000 = 900 then _ else if K % 1000 = 901 then _ else (match st.drop (aNA (K % 1000)) with
      | .ref a :: t => if a < 230 ∧ (k a).1 = aCI (K % 1000) then aGo cal (K % 1000) (.ref a :: (st.take (aNA (K % 1000))).reverse) t ls (gH k M) else none
      | _ => none)) = _
  rw [hq, hna, if_neg (by omega), if_neg (by omega), e1, e2]
  show (if a < 230 ∧ (k a).1 = aCI q then _ else none) = _
  rw [if_pos ⟨a1, k1.trans a2⟩]
def gNoD : List Value → Bool
  | [] => true
  | v :: r => (match v with
    | .retAddr _ => false
    | _ => true) && gNoD r
theorem gNoD_s {as : List Value} (h : gNoD as = true) : aD ∉ as := by
  induction as with
  | nil => intro h; cases h
  | cons v r ih =>
    unfold gNoD at h
    obtain ⟨h1, h2⟩ := zAnd h
    intro hm
    rcases List.mem_cons.mp hm with e | hm
    · rw [← e] at h1
      cases h1
    · exact ih h2 hm
/-- a method's entry -/
theorem wEnt {q n : Nat} {as ls : List Value} {l : List aI} {h : aH} (hl : (aMC q)[0]? = some l) (hn : aML q = n) (h1 : Nat.ble (aFl as).length n = true) (h2 : gNoD as = true) (h3 : aEn as n = ls) (t : zW X d q 0 l ls [] h Q) : zRn X (d + 1) q as h Q :=
  zRn_of ⟨by rw [hn]; exact Nat.le_of_ble_eq_true h1, gNoD_s h2⟩ hl (by rw [hn, h3]; exact t)
end WK
theorem aPut_o {M : Nat → Nat → Int32} {a b i j : Nat} {x : Int32} (h : b ≠ a) : aPut M a j x b i = M b i := by
  unfold aPut
  rw [if_neg h]
theorem aPut_r {M : Nat → Nat → Int32} {a b j : Nat} {x : Int32} (h : b ≠ a) : aPut M a j x b = M b := by
  funext i
  exact aPut_o h
theorem aPut_f {M : Nat → Nat → Int32} {a i j : Nat} {x : Int32} (h : i ≠ j) : aPut M a j x a i = M a i := by
  unfold aPut
  rw [if_pos rfl, if_neg h]
theorem aPut_e {M : Nat → Nat → Int32} {a j : Nat} {x : Int32} : aPut M a j x a j = x := by
  unfold aPut
  rw [if_pos rfl, if_pos rfl]
theorem wDiv {X : aX} {d y b : Nat} {is : List aI} {ls st : List Value} {Q : Option Value → aH → Prop} {x z : Int} {h : aH} (rz : -2147483648 ≤ z ∧ z ≤ 2147483647) (h0 : z ≠ 0) (t : zW X d y b is ls (iv (Int32.ofInt x / Int32.ofInt z).toInt :: st) h Q) : zW X d y b (.idiv :: is) ls (iv z :: iv x :: st) h Q := by
  refine wP rfl ?_ t
  show (if Int32.ofInt z = 0 then none else some (ls, Value.int (Int32.ofInt x / Int32.ofInt z) :: st)) = _
  rw [if_neg (fun e => h0 (by have := congrArg Int32.toInt e; rw [iR rz.1 rz.2] at this; exact this))]
  show _ = some (ls, Value.int (Int32.ofInt (Int32.ofInt x / Int32.ofInt z).toInt) :: st)
  rw [← iE]
theorem wAddW {X : aX} {d y b : Nat} {is : List aI} {ls st : List Value} {Q : Option Value → aH → Prop} {x z : Int} {h : aH} (t : zW X d y b is ls (iv (Int32.ofInt (x + z)).toInt :: st) h Q) : zW X d y b (.iadd :: is) ls (iv z :: iv x :: st) h Q :=
  wAdd (by
    have e : iv (x + z) = iv (Int32.ofInt (x + z)).toInt := by
      show Value.int (Int32.ofInt (x + z)) = Value.int (Int32.ofInt (Int32.ofInt (x + z)).toInt)
      rw [← iE]
    rw [e]
    exact t)
theorem i0 {x : Int32} {c : Int} (h : x.toInt = c) : x = Int32.ofInt c := by rw [← h]; exact iE x
/-! the ghost, step by step -/
theorem gDep_some {O A : Nat → Int32} {s m d n : Nat} (h : gDep O A s m = some d) (hn : n ≤ m) : ∃ D, gDep O A s n = some D := by
  induction m generalizing d with
  | zero => exact ⟨d, by rw [show n = 0 by omega]; exact h⟩
  | succ m ih =>
    by_cases e : n = m + 1
    · exact ⟨d, by rw [e]; exact h⟩
    · unfold gDep at h
      cases q : gDep O A s m with
      | none => rw [q] at h; cases h
      | some d0 => exact ih q (by omega)
theorem gDep_step {O A : Nat → Int32} {s n D D' : Nat} (h : gDep O A s n = some D) (h' : gDep O A s (n + 1) = some D') :
    (O (s + n) = 0 ∧ D' = D + 1) ∨ (O (s + n) = 1 ∧ 0 ≤ (A (s + n)).toInt ∧ (A (s + n)).toInt < 14 ∧ D' = D + 1) ∨ (O (s + n) = 9 ∧ 1 ≤ D ∧ D' = D) ∨ (O (s + n) ≠ 0 ∧ O (s + n) ≠ 1 ∧ O (s + n) ≠ 9 ∧ 2 ≤ D ∧ D' = D - 1 ∧ (O (s + n) = 5 → 1 ≤ n ∧ O (s + n - 1) = 0 ∧ A (s + n - 1) ≠ 0)) := by
  unfold gDep at h'
  rw [h] at h'
  dsimp only at h'
  by_cases c0 : O (s + n) = 0
  · rw [if_pos c0] at h'
    cases h'
    exact Or.inl ⟨c0, rfl⟩
  · rw [if_neg c0] at h'
    by_cases c1 : O (s + n) = 1
    · rw [if_pos c1] at h'
      by_cases c2 : 0 ≤ (A (s + n)).toInt ∧ (A (s + n)).toInt < 14
      · rw [if_pos c2] at h'
        cases h'
        exact Or.inr (Or.inl ⟨c1, c2.1, c2.2, rfl⟩)
      · rw [if_neg c2] at h'
        cases h'
    · rw [if_neg c1] at h'
      by_cases c9 : O (s + n) = 9
      · rw [if_pos c9] at h'
        by_cases c2 : 1 ≤ D
        · rw [if_pos c2] at h'
          cases h'
          exact Or.inr (Or.inr (Or.inl ⟨c9, c2, rfl⟩))
        · rw [if_neg c2] at h'
          cases h'
      · rw [if_neg c9] at h'
        by_cases c2 : 2 ≤ D ∧ (O (s + n) = 5 → 1 ≤ n ∧ O (s + n - 1) = 0 ∧ A (s + n - 1) ≠ 0)
        · rw [if_pos c2] at h'
          cases h'
          exact Or.inr (Or.inr (Or.inr ⟨c0, c1, c9, c2.1, rfl, c2.2⟩))
        · rw [if_neg c2] at h'
          cases h'
theorem gDep_le {O A : Nat → Int32} {s n D : Nat} (h : gDep O A s n = some D) : D ≤ n := by
  induction n generalizing D with
  | zero => cases h; exact Nat.le_refl _
  | succ n ih =>
    obtain ⟨D0, h0⟩ := gDep_some h (Nat.le_succ n)
    have := ih h0
    rcases gDep_step h0 h with ⟨_, q⟩ | ⟨_, _, _, q⟩ | ⟨_, _, q⟩ | ⟨_, _, _, _, q, _⟩ <;> omega
/-! a contract out of a walk -/
theorem gDone {h : aH} {M' : Nat → Nat → Int32} {md : Nat} (hG : gG h) (hI : zGI (gP []) h) (hR : gRm M') (hch : ∀ a i, M' a i = h.2.2.2 a i ∨ ∃ p, (((h.2.2.1 a).1 < 100 ∧ p = a * 128 + i) ∨ (100 ≤ (h.2.2.1 a).1 ∧ p = a * 128 + 127)) ∧ zBit md p = true ∧ (gF p).1 ≤ (M' a i).toInt ∧ (M' a i).toInt ≤ (gF p).2) :
    zGI (gP []) (h.1, h.2.1, h.2.2.1, M') ∧ gG (h.1, h.2.1, h.2.2.1, M') ∧ zOff md h.2.2.1 h.2.2.2 M' := by
  refine ⟨fun p i hp hi => ?_, ⟨zGK_same ⟨rfl, rfl, rfl⟩ hG.1, hR⟩, fun a => ⟨fun h1 f hf hb => ?_, fun h1 hb => ?_⟩⟩
  · have hi' : p % 128 = 127 → i < (h.2.2.1 (p / 128)).2.1 := hi
    have hp3 := hp.2.2
    have hp3 : if p % 128 = 127 then 100 ≤ (h.2.2.1 (p / 128)).1 else (h.2.2.1 (p / 128)).1 < 100 := hp3
    have hold := hI p i hp hi'
    by_cases q : p % 128 = 127
    · rw [if_pos q] at hp3
      have e : ∀ N : Nat → Nat → Int32, zM (h.1, h.2.1, h.2.2.1, N) p i = N (p / 128) i := fun N => by show N (p / 128) (if p % 128 = 127 then i else p % 128) = _; rw [if_pos q]
      rw [e]
      rcases hch (p / 128) i with z | ⟨p', z1, _, z3, z4⟩
      · rw [z]
        have : zM h p i = h.2.2.2 (p / 128) i := e h.2.2.2
        rw [this] at hold
        exact hold
      · rcases z1 with ⟨z1, _⟩ | ⟨_, z1⟩
        · omega
        · rw [show p' = p by omega] at z3 z4
          exact ⟨z3, z4⟩
    · rw [if_neg q] at hp3
      have e : ∀ N : Nat → Nat → Int32, zM (h.1, h.2.1, h.2.2.1, N) p i = N (p / 128) (p % 128) := fun N => by show N (p / 128) (if p % 128 = 127 then i else p % 128) = _; rw [if_neg q]
      rw [e]
      rcases hch (p / 128) (p % 128) with z | ⟨p', z1, _, z3, z4⟩
      · rw [z]
        have : zM h p i = h.2.2.2 (p / 128) (p % 128) := e h.2.2.2
        rw [this] at hold
        exact hold
      · rcases z1 with ⟨_, z1⟩ | ⟨z1, _⟩
        · rw [show p' = p by omega] at z3 z4
          exact ⟨z3, z4⟩
        · omega
  · rcases hch a f with z | ⟨p', z1, z2, _⟩
    · exact z
    · rcases z1 with ⟨_, z1⟩ | ⟨z1, _⟩
      · rw [z1, hb] at z2
        cases z2
      · omega
  · funext i
    rcases hch a i with z | ⟨p', z1, z2, _⟩
    · exact z
    · rcases z1 with ⟨z1, _⟩ | ⟨_, z1⟩
      · omega
      · rw [z1, hb] at z2
        cases z2
theorem gAr {h : aH} (hG : gG h) {a : Nat} (ha : a < 230) (hc : (gK a).1 = 100 ∨ (gK a).1 = 101) : 100 ≤ (h.2.2.1 a).1 := by
  rw [(gKs_of hG.1 a ha).1]
  omega
theorem gFl {h : aH} (hG : gG h) {a : Nat} (ha : a < 230) (hc : (gK a).1 < 100) : (h.2.2.1 a).1 < 100 := by
  rw [(gKs_of hG.1 a ha).1]
  exact hc
theorem gRefx {P : zP} {ρ : Nat → Int} {n : Nat} {a b : Int} {c : Nat} {u : Value} (h : zG P ρ n (4, a, b, c) u) (hc : c < 700 ∨ 1000 ≤ c) : u = .ref c := by
  obtain ⟨r, e, k⟩ := zG_ref h rfl
  have e2 : r = c := by
    rcases k with ⟨_, k⟩ | ⟨k1, k2, _⟩ | ⟨_, k⟩
    · exact k
    · have k1 : 700 ≤ c := k1
      have k2 : c < 1000 := k2
      omega
    · exact k
  rw [e, e2]
/-- an int argument is the symbol s -/
theorem gIntx {P : zP} {ρ : Nat → Int} {n s : Nat} {u : Value} (h : zG P ρ n (0, .ofNat 0, .ofNat 1, s) u) : u = iv (ρ s) ∧ (Int32.ofInt (ρ s)).toInt = ρ s := by
  obtain ⟨x, e, k⟩ := zG_int h (Or.inl rfl)
  rcases k with ⟨_, _, k⟩ | ⟨k, _⟩
  · have k : x.toInt = 0 + 1 * ρ s := k
    have k2 : x.toInt = ρ s := by omega
    rw [e, ← k2]
    exact ⟨congrArg Value.int (iE x), by rw [← iE]⟩
  · cases k
/-- bounds of a field, of an array's number -/
theorem gBf {h : aH} (hG : gG h) (hI : zGI (gP []) h) {a f : Nat} {lo hi : Int} (ha : a < 230) (hf : f < 127) (hc : (gK a).1 < 100) (e : gF (a * 128 + f) = (lo, hi)) : lo ≤ (h.2.2.2 a f).toInt ∧ (h.2.2.2 a f).toInt ≤ hi := by
  have h1 : h.1 = 230 := hG.1.1
  have := hI (a * 128 + f) 0 (zPlf hf (by omega) (by omega) (gFl hG ha hc)) (fun z => by omega)
  rw [zMf hf] at this
  have e2 : (gP []).zI (a * 128 + f) = (lo, hi) := e
  rw [e2] at this
  exact this
theorem gBa {h : aH} (hG : gG h) (hI : zGI (gP []) h) {a i l : Nat} {lo hi : Int} (ha : a < 230) (hc : (gK a).1 = 100 ∨ (gK a).1 = 101) (hl : (gK a).2.1 = l) (hil : i < l) (e : gF (a * 128 + 127) = (lo, hi)) : lo ≤ (h.2.2.2 a i).toInt ∧ (h.2.2.2 a i).toInt ≤ hi := by
  have h1 : h.1 = 230 := hG.1.1
  obtain ⟨k1, k2, _⟩ := gKs_of hG.1 a ha
  have k2 := k2 (by omega)
  have := hI (a * 128 + 127) i (zPla (by omega) (by omega) (gAr hG ha hc)) (fun _ => by rw [show (a * 128 + 127) / 128 = a by omega, k2, hl]; exact hil)
  rw [zMa'] at this
  have e2 : (gP []).zI (a * 128 + 127) = (lo, hi) := e
  rw [e2] at this
  exact this
