/-! what a run of the abstract machine comes to; what the interpreter's states mean -/
def zBE (X : aX) (cal : Nat → List Value → aH → Option (Option Value × aH)) (rt : Nat) (C : List (List aI)) (f b : Nat) (is : List aI) (ls st : List Value) (h : aH) : Option (Option Value × aH) := match aB X cal rt b is ls st h with
  | some (.inl q) => aE X cal rt C f q.1 q.2.1 q.2.2.1 q.2.2.2
  | some (.inr r) => some r
  | none => none
/-- the rest of a block comes to an end with Q -/
def zW (X : aX) (d y b : Nat) (is : List aI) (ls st : List Value) (h : aH) (Q : Option Value → aH → Prop) : Prop :=
  ∃ rv h', Q rv h' ∧ ∃ F0, ∀ F f, F0 ≤ F → F0 ≤ f → zBE X (aM X F d) (aRT y) (aMC y) f b is ls st h = some (rv, h')
/-- a method comes to an end with Q -/
def zRn (X : aX) (d y : Nat) (as : List Value) (h : aH) (Q : Option Value → aH → Prop) : Prop := ∃ rv h', Q rv h' ∧ ∃ F0, ∀ F, F0 ≤ F → aM X F d y as h = some (rv, h')
section ZW
variable {X : aX} {d y b : Nat} {i : aI} {is : List aI} {ls st ls' st' : List Value} {h h' : aH} {Q Q' : Option Value → aH → Prop}
theorem zW.mono (k : zW X d y b is ls st h Q) (hq : ∀ rv h', Q rv h' → Q' rv h') : zW X d y b is ls st h Q' := by
  obtain ⟨rv, h', q, e⟩ := k
  exact ⟨rv, h', hq _ _ q, e⟩
theorem zRn.mono {as : List Value} (k : zRn X d y as h Q) (hq : ∀ rv h', Q rv h' → Q' rv h') : zRn X d y as h Q' := by
  obtain ⟨rv, h', q, e⟩ := k
  exact ⟨rv, h', hq _ _ q, e⟩
theorem zW_step (hk : aKd i ≠ 4) (hS : ∀ cal, aS X cal i ls st h = some (ls', st', h')) (k : zW X d y b is ls' st' h' Q) : zW X d y b (i :: is) ls st h Q := by
  obtain ⟨rv, hF, q, F0, e⟩ := k
  refine ⟨rv, hF, q, F0, fun F f h1 h2 => ?_⟩
  have := e F f h1 h2
  unfold zBE at this ⊢
  have e2 : aB X (aM X F d) (aRT y) b (i :: is) ls st h = aB X (aM X F d) (aRT y) b is ls' st' h' := by
    conv => lhs; unfold aB
    rw [if_neg hk, hS]
  rw [e2]
  exact this
theorem zW_to {b' : Nat} {l : List aI} {t ls1 : List Value} (hB : ∀ cal, aB X cal (aRT y) b is ls st h = some (.inl (b', ls1, t, h'))) (hb : (aMC y)[b']? = some l) (k : zW X d y b' l ls1 t h' Q) : zW X d y b is ls st h Q := by
  obtain ⟨rv, hF, q, F0, e⟩ := k
  refine ⟨rv, hF, q, F0 + 1, fun F f h1 h2 => ?_⟩
  obtain ⟨f, rfl⟩ : ∃ g, f = g + 1 := ⟨f - 1, by omega⟩
  have := e F f (by omega) (by omega)
  unfold zBE at this ⊢
  rw [hB]
  show aE X (aM X F d) (aRT y) (aMC y) (f + 1) b' ls1 t h' = _
  unfold aE
  rw [hb]
  dsimp only
  split at this
  · rename_i q1 hq1
    rw [hq1]
    exact this
  · rename_i r hr
    rw [hr]
    exact this
  · cases this
theorem zW_jump {b' : Nat} {l : List aI} {t : List Value} (hk : aKd i = 4) (hT : aT (aRT y) b i ls st h = some (.inl (b', ls, t, h))) (hb : (aMC y)[b']? = some l) (k : zW X d y b' l ls t h Q) : zW X d y b (i :: is) ls st h Q :=
  zW_to (fun cal => by unfold aB; rw [if_pos hk, hT]) hb k
theorem zW_fall {l : List aI} (hb : (aMC y)[b + 1]? = some l) (k : zW X d y (b + 1) l ls st h Q) : zW X d y b [] ls st h Q :=
  zW_to (fun _ => rfl) hb k
theorem zW_ret {rv : Option Value} (hk : aKd i = 4) (hT : aT (aRT y) b i ls st h = some (.inr (rv, h))) (q : Q rv h) : zW X d y b (i :: is) ls st h Q :=
  ⟨rv, h, q, 0, fun F f _ _ => by
    unfold zBE aB
    rw [if_pos hk, hT]⟩
theorem zRn_of {as : List Value} {l : List aI} (hlen : (aFl as).length ≤ aML y ∧ aD ∉ as) (hb : (aMC y)[0]? = some l) (k : zW X d y 0 l (aEn as (aML y)) [] h Q) : zRn X (d + 1) y as h Q := by
  obtain ⟨rv, hF, q, F0, e⟩ := k
  refine ⟨rv, hF, q, F0 + 1, fun F h1 => ?_⟩
  obtain ⟨f, rfl⟩ : ∃ g, F = g + 1 := ⟨F - 1, by omega⟩
  have := e (f + 1) f (by omega) (by omega)
  unfold aM
  rw [if_pos hlen]
  unfold aE
  rw [hb]
  dsimp only
  unfold zBE at this
  split at this
  · rename_i q1 hq1
    rw [hq1]
    exact this
  · rename_i r hr
    rw [hr]
    exact this
  · cases this
theorem zW_call {y' : Nat} {as t : List Value} (hk : aKd i ≠ 4) (hS : ∀ cal, aS X cal i ls st h = (match cal y' as h with
    | some (rv, h') => if h'.1 = h.1 ∨ (ls ++ t).all (aOkv h.1) = true then some (ls, rv.toList ++ t, h') else none
    | none => none)) (r : zRn X d y' as h (fun rv h' => (h'.1 = h.1 ∨ (ls ++ t).all (aOkv h.1) = true) ∧ zW X d y b is ls (rv.toList ++ t) h' Q)) : zW X d y b (i :: is) ls st h Q := by
  obtain ⟨rv, h1, ⟨ho, rv2, h2, q, F1, e1⟩, F0, e0⟩ := r
  refine ⟨rv2, h2, q, F0 + F1, fun F f l1 l2 => ?_⟩
  have a := e0 F (by omega)
  have c := e1 F f (by omega) (by omega)
  unfold zBE at c ⊢
  have e2 : aB X (aM X F d) (aRT y) b (i :: is) ls st h = aB X (aM X F d) (aRT y) b is ls (rv.toList ++ t) h1 := by
    conv => lhs; unfold aB
    rw [if_neg hk, hS, a]
    dsimp only
    rw [if_pos ho]
  rw [e2]
  exact c
end ZW
/-! what states mean -/
/-- the cells that a cell of the interpreter stands for -/
def zGc (P : zP) (s r : Nat) : Prop := (s < 700 ∧ r = s) ∨ (700 ≤ s ∧ s < 1000 ∧ r ∈ P.ps s) ∨ (1000 ≤ s ∧ r = s)
def zG (P : zP) (ρ : Nat → Int) (n : Nat) (v : zV) (u : Value) : Prop :=
  (v.1 ≤ 1 ∧ ∃ x : Int32, u = .int x ∧ zN ρ n 0 v x.toInt) ∨ ((v.1 = 2 ∨ v.1 = 3) ∧ ∃ x : Int64, u = .long x ∧ zN ρ n 2 v x.toInt) ∨ (v.1 = 4 ∧ ∃ r : Nat, u = .ref r ∧ zGc P v.2.2.2 r) ∨ (v.1 = 6 ∧ u = aD) ∨ v.1 = 9
def zGl (P : zP) (ρ : Nat → Int) (n : Nat) : List zV → List Value → Prop
  | [], [] => True
  | v :: r, u :: q => zG P ρ n v u ∧ zGl P ρ n r q
  | _, _ => False
/-- the number at a place -/
def zM (h : aH) (p i : Nat) : Int32 := h.2.2.2 (p / 128) (if p % 128 = 127 then i else p % 128)
/-- a place of a cell that is there -/
def zPl (h : aH) (p : Nat) : Prop := p / 128 < h.1 ∧ p < 89600 ∧ (if p % 128 = 127 then 100 ≤ (h.2.2.1 (p / 128)).1 else (h.2.2.1 (p / 128)).1 < 100)
def zGe (X : aX) (ρ : Nat → Int) (n : Nat) (h : aH) (e : zE) : Prop :=
  if e.1 = 11520001 then 0 < n ∧ ∀ i, e.2.1 ≤ i → i < e.2.2.1 → zN ρ n 0 e.2.2.2 (X.2 (ρ 0 + i).toNat).toInt
  else if e.1 = 11520002 then 0 < n ∧ (e.2.2.2.1 = 0 → e.2.2.2.2.2.1 = 0 → ρ 0 + e.2.2.2.2.1 ≤ X.1)
  else zPl h e.1 ∧ ∀ i, e.2.1 ≤ i → i < e.2.2.1 → (e.1 % 128 ≠ 127 → i = 0) → zN ρ n 0 e.2.2.2 (zM h e.1 i).toInt
/-- a cell beside what the interpreter has of it -/
def zGk (P : zP) (h : aH) (b : Nat) (c : zC) : Prop := b < h.1 ∧ b < 700 ∧ (h.2.2.1 b).1 = c.1 ∧ (100 ≤ c.1 → (h.2.2.1 b).2.1 = c.2.1) ∧ (∀ j, zAt c.2.2.1 j < 99999 → ∃ r, (h.2.2.1 b).2.2 j = some r ∧ zGc P (zAt c.2.2.1 j) r) ∧ (700 ≤ c.2.2.2 → ∀ j, j < c.2.1 → ∃ r, (h.2.2.1 b).2.2 j = some r ∧ zGc P c.2.2.2 r)
def zGK (P : zP) (K : zK) (h : aH) : Prop := h.1 = K.1 ∧ h.2.1 = K.2.1 ∧ ∀ s b, zGc P s b → (zCe P K s).1 < 900 → zGk P h b (zCe P K s)
/-- places keep to their bounds -/
def zGI (P : zP) (h : aH) : Prop := ∀ p i, zPl h p → (p % 128 = 127 → i < (h.2.2.1 (p / 128)).2.1) → (P.zI p).1 ≤ (zM h p i).toInt ∧ (zM h p i).toInt ≤ (P.zI p).2
/-- nothing but what m names has changed -/
def zOff (m : Nat) (k : Nat → aK) (M0 M : Nat → Nat → Int32) : Prop := ∀ a, ((k a).1 < 100 → ∀ f, f < 127 → zBit m (a * 128 + f) = false → M a f = M0 a f) ∧ (100 ≤ (k a).1 → zBit m (a * 128 + 127) = false → M a = M0 a)
/-- what the tables must keep to -/
def zVal (P : zP) : Prop := (∀ y, P.bk y = (aMC y).map zEnB) ∧ (∀ s b f, 700 ≤ s → s < 1000 → b ∈ P.ps s → f < 128 → b < 700 ∧ (P.zI (s * 128 + f)).1 ≤ (P.zI (b * 128 + f)).1 ∧ (P.zI (b * 128 + f)).2 ≤ (P.zI (s * 128 + f)).2) ∧ ((P.zI 11520001).1 ≤ zMn 0 ∧ zMx 0 ≤ (P.zI 11520001).2) ∧ (∀ p, zBit P.wm p = true → zBit P.md p = true) ∧ (P.al = true → (∀ s, P.ps s = []) ∧ ∀ p, (P.zI p).1 ≤ zMn 0 ∧ zMx 0 ≤ (P.zI p).2) ∧ (∀ s b, b ∈ P.ps s → 700 ≤ s ∧ s < 1000)
/-- a state: symbols, cells, what is known, bounds; where no cells come, what else holds and what has not changed; symbols that stay -/
def zGa (X : aX) (P : zP) (G : aH → Prop) (pS : Nat) (h0 : aH) (ρ0 ρ : Nat → Int) (n : Nat) (σ : zS) (K : zK) (E : List zE) (h : aH) : Prop :=
  zSok ρ n σ ∧ zGK P K h ∧ (∀ e ∈ E, zGe X ρ n h e) ∧ zGI P h ∧ (P.al = false → G h ∧ zOff P.md h.2.2.1 h0.2.2.2 h.2.2.2 ∧ h.1 = h0.1 ∧ h.2.1 = h0.2.1 ∧ h.2.2.1 = h0.2.2.1) ∧ (∀ i, i < pS → ρ i = ρ0 i) ∧ pS ≤ n
section ZST
variable {X : aX} {P : zP} {G : aH → Prop} {pS : Nat} {h0 h h' : aH} {ρ0 ρ ρ' : Nat → Int} {n n' : Nat} {σ : zS} {K : zK} {E : List zE} {v : zV} {u : Value} {vs : List zV} {us : List Value}
theorem zG.mono (k : zG P ρ n v u) (hn : n ≤ n') (hr : ∀ i, i < n → ρ' i = ρ i) : zG P ρ' n' v u := by
  rcases k with ⟨h1, x, h2, h3⟩ | ⟨h1, x, h2, h3⟩ | k
  · exact Or.inl ⟨h1, x, h2, h3.mono hn hr⟩
  · exact Or.inr (Or.inl ⟨h1, x, h2, h3.mono hn hr⟩)
  · exact Or.inr (Or.inr k)
theorem zGl.mono (k : zGl P ρ n vs us) (hn : n ≤ n') (hr : ∀ i, i < n → ρ' i = ρ i) : zGl P ρ' n' vs us := by
  induction vs generalizing us with
  | nil => cases us <;> exact k
  | cons v r ih =>
    cases us with
    | nil => exact k
    | cons u q => exact ⟨k.1.mono hn hr, ih k.2⟩
theorem zGe.mono {e : zE} (k : zGe X ρ n h e) (hn : n ≤ n') (hr : ∀ i, i < n → ρ' i = ρ i) : zGe X ρ' n' h e := by
  unfold zGe at k ⊢
  split at k
  · rename_i q
    rw [if_pos q]
    refine ⟨by omega, fun i h1 h2 => ?_⟩
    rw [hr 0 k.1]
    exact (k.2 i h1 h2).mono hn hr
  · rename_i q
    rw [if_neg q]
    split at k
    · rename_i q2
      rw [if_pos q2]
      refine ⟨by omega, fun h1 h2 => ?_⟩
      rw [hr 0 k.1]
      exact k.2 h1 h2
    · rename_i q2
      rw [if_neg q2]
      exact ⟨k.1, fun i h1 h2 h3 => (k.2 i h1 h2 h3).mono hn hr⟩
theorem zGl_len (k : zGl P ρ n vs us) : vs.length = us.length := by
  induction vs generalizing us with
  | nil =>
    cases us with
    | nil => rfl
    | cons u q => exact k.elim
  | cons v r ih =>
    cases us with
    | nil => exact k.elim
    | cons u q => rw [List.length_cons, List.length_cons, ih k.2]
theorem zGl_cons {r : List zV} (k : zGl P ρ n (v :: r) us) : ∃ u q, us = u :: q ∧ zG P ρ n v u ∧ zGl P ρ n r q := by
  cases us with
  | nil => exact k.elim
  | cons u q => exact ⟨u, q, rfl, k.1, k.2⟩
theorem zGl_nil (k : zGl P ρ n [] us) : us = [] := by
  cases us with
  | nil => rfl
  | cons u q => exact k.elim
theorem zGl_at {j : Nat} {k : zV → Bool} (hl : zGl P ρ n vs us) (h : zNth vs j k = true) : ∃ v u, us[j]? = some u ∧ zG P ρ n v u ∧ k v = true ∧ j < us.length := by
  induction vs generalizing us j with
  | nil => cases h
  | cons v r ih =>
    obtain ⟨u, q, rfl, h1, h2⟩ := zGl_cons hl
    unfold zNth at h
    rcases zCd h with ⟨c, h⟩ | ⟨c, h⟩
    · rw [zbe c]
      exact ⟨v, u, rfl, h1, h, by rw [List.length_cons]; omega⟩
    · have c := zbn c
      obtain ⟨v', u', h3, h4, h5, h6⟩ := ih h2 h
      obtain ⟨m, rfl⟩ : ∃ m, j = m + 1 := ⟨j - 1, by omega⟩
      exact ⟨v', u', by rw [List.getElem?_cons_succ]; exact h3, h4, h5, by rw [List.length_cons]; omega⟩
theorem zGl_set {j : Nat} (hl : zGl P ρ n vs us) (hv : zG P ρ n v u) : zGl P ρ n (vs.set j v) (us.set j u) := by
  induction vs generalizing us j with
  | nil =>
    rw [zGl_nil hl]
    exact trivial
  | cons a r ih =>
    obtain ⟨w, q, rfl, h1, h2⟩ := zGl_cons hl
    cases j with
    | zero => exact ⟨hv, h2⟩
    | succ j => exact ⟨h1, ih h2⟩
theorem zGl_app {ws : List zV} {xs : List Value} (h1 : zGl P ρ n vs us) (h2 : zGl P ρ n ws xs) : zGl P ρ n (vs ++ ws) (us ++ xs) := by
  induction vs generalizing us with
  | nil =>
    rw [zGl_nil h1]
    exact h2
  | cons a r ih =>
    obtain ⟨w, q, rfl, k1, k2⟩ := zGl_cons h1
    exact ⟨k1, ih k2⟩
theorem zGl_rev (h1 : zGl P ρ n vs us) : zGl P ρ n vs.reverse us.reverse := by
  induction vs generalizing us with
  | nil =>
    rw [zGl_nil h1]
    exact trivial
  | cons a r ih =>
    obtain ⟨w, q, rfl, k1, k2⟩ := zGl_cons h1
    rw [List.reverse_cons, List.reverse_cons]
    exact zGl_app (ih k2) ⟨k1, trivial⟩
theorem zGl_take {m : Nat} (h1 : zGl P ρ n vs us) : zGl P ρ n (vs.take m) (us.take m) := by
  induction vs generalizing us m with
  | nil =>
    rw [zGl_nil h1]
    cases m <;> exact trivial
  | cons a r ih =>
    obtain ⟨w, q, rfl, k1, k2⟩ := zGl_cons h1
    cases m with
    | zero => exact trivial
    | succ m => exact ⟨k1, ih k2⟩
theorem zGl_drop {m : Nat} (h1 : zGl P ρ n vs us) : zGl P ρ n (vs.drop m) (us.drop m) := by
  induction vs generalizing us m with
  | nil =>
    rw [zGl_nil h1]
    cases m <;> exact trivial
  | cons a r ih =>
    obtain ⟨w, q, rfl, k1, k2⟩ := zGl_cons h1
    cases m with
    | zero => exact ⟨k1, k2⟩
    | succ m => exact ih k2
theorem zG_int (k : zG P ρ n v u) (ht : v.1 = 0 ∨ v.1 = 1) : ∃ x : Int32, u = .int x ∧ zN ρ n 0 v x.toInt := by
  rcases k with ⟨-, k⟩ | ⟨h1, -⟩ | ⟨h1, -⟩ | ⟨h1, -⟩ | h1
  · exact k
  · omega
  · omega
  · omega
  · omega
theorem zG_long (k : zG P ρ n v u) (ht : v.1 = 2 ∨ v.1 = 3) : ∃ x : Int64, u = .long x ∧ zN ρ n 2 v x.toInt := by
  rcases k with ⟨h1, -⟩ | ⟨-, k⟩ | ⟨h1, -⟩ | ⟨h1, -⟩ | h1
  · omega
  · exact k
  · omega
  · omega
  · omega
theorem zG_ref (k : zG P ρ n v u) (ht : v.1 = 4) : ∃ r : Nat, u = .ref r ∧ zGc P v.2.2.2 r := by
  rcases k with ⟨h1, -⟩ | ⟨h1, -⟩ | ⟨-, k⟩ | ⟨h1, -⟩ | h1
  · omega
  · omega
  · exact k
  · omega
  · omega
theorem zGi {x : Int32} (hn : zN ρ n 0 v x.toInt) : zG P ρ n v (.int x) := Or.inl ⟨by rcases zTag hn with e | e <;> omega, x, rfl, hn⟩
theorem zGj {x : Int64} (hn : zN ρ n 2 v x.toInt) : zG P ρ n v (.long x) := Or.inr (Or.inl ⟨by rcases zTag hn with e | e <;> omega, x, rfl, hn⟩)
theorem zGr {s r : Nat} (hc : zGc P s r) : zG P ρ n (zcell s) (.ref r) := Or.inr (Or.inr (Or.inl ⟨rfl, r, rfl, hc⟩))
theorem zGd {a b : Int} {s : Nat} : zG P ρ n (6, a, b, s) aD := Or.inr (Or.inr (Or.inr (Or.inl ⟨rfl, rfl⟩)))
theorem zRg_tag {w : Nat} {k : Int → Int → Bool} (h : zRg w σ v k = true) : (v.1 = w ∨ v.1 = w + 1) ∧ ∃ lo hi, k lo hi = true := by
  unfold zRg at h
  cases c1 : Nat.beq v.1 w
  · cases c2 : Nat.beq v.1 (w + 1)
    · rw [c1, c2] at h
      cases h
    · rw [c1, c2] at h
      exact ⟨Or.inr (zbe c2), _, _, h⟩
  · rw [c1] at h
    refine ⟨Or.inl (zbe c1), ?_⟩
    have h : zRgA σ v k = true := h
    have sy : ∀ (σ : zS) (s : Nat) (k : Int → Int → Bool), zSy σ s k = true → ∃ lo hi, k lo hi = true := by
      intro σ
      induction σ with
      | nil => intro s k h; cases h
      | cons e r ih =>
        intro s k h
        unfold zSy at h
        rcases zCd h with ⟨-, h⟩ | ⟨-, h⟩
        · exact ⟨_, _, h⟩
        · exact ih s k h
    unfold zRgA at h
    rcases zCd h with ⟨-, h⟩ | ⟨-, h⟩
    · exact ⟨_, _, h⟩
    · rcases zCd h with ⟨-, h⟩ | ⟨-, h⟩
      · obtain ⟨_, _, h⟩ := sy _ _ _ h
        exact ⟨_, _, h⟩
      · obtain ⟨_, _, h⟩ := sy _ _ _ h
        unfold zAfR at h
        rcases zCd h with ⟨-, h⟩ | ⟨-, h⟩
        · exact ⟨_, _, h⟩
        · exact ⟨_, _, h⟩
theorem zRg2_tag {w : Nat} {x y : zV} {k : Int → Int → Int → Int → Bool} (h : zRg2 w σ x y k = true) : (x.1 = w ∨ x.1 = w + 1) ∧ (y.1 = w ∨ y.1 = w + 1) := by
  unfold zRg2 at h
  obtain ⟨h1, _, _, h⟩ := zRg_tag h
  exact ⟨h1, (zRg_tag h).1⟩
theorem zPr_tag {w : Nat} {x y : zV} {b : Bool} {k : Int → Int → Int → Int → Bool} (h : (bif zPar w x y then b else zRg2 w σ x y k) = true) : (x.1 = w ∨ x.1 = w + 1) ∧ (y.1 = w ∨ y.1 = w + 1) := by
  rcases zCd h with ⟨c, -⟩ | ⟨-, h⟩
  · unfold zPar zSame at c
    obtain ⟨c, -⟩ := zAnd c
    obtain ⟨c1, c⟩ := zAnd c
    obtain ⟨c2, -⟩ := zAnd c
    exact ⟨Or.inl (zbe c1), Or.inl (zbe c2)⟩
  · exact zRg2_tag h
theorem zG_rgi {k : Int → Int → Bool} (hu : zG P ρ n v u) (h : zRg 0 σ v k = true) : ∃ x : Int32, u = .int x ∧ zN ρ n 0 v x.toInt := zG_int hu (zRg_tag h).1
theorem zG_rgl {k : Int → Int → Bool} (hu : zG P ρ n v u) (h : zRg 2 σ v k = true) : ∃ x : Int64, u = .long x ∧ zN ρ n 2 v x.toInt := zG_long hu (zRg_tag h).1
theorem zGa.sym {σ' : zS} (k : zGa X P G pS h0 ρ0 ρ n σ K E h) (hs : zSok ρ n σ') : zGa X P G pS h0 ρ0 ρ n σ' K E h := ⟨hs, k.2⟩
/-- a symbol more -/
theorem zGa.new {z : Int} {lo hi : Int} (k : zGa X P G pS h0 ρ0 ρ n σ K E h) (h1 : lo ≤ z) (h2 : z ≤ hi) : zGa X P G pS h0 ρ0 (fun i => if i = n then z else ρ i) (n + 1) ((n, lo, hi) :: σ) K E h := by
  obtain ⟨k1, k2, k3, k4, k5, k6, k7⟩ := k
  have hr : ∀ i, i < n → (fun i => if i = n then z else ρ i) i = ρ i := fun i hi => if_neg (by omega)
  refine ⟨fun e he => ?_, k2, fun e he => (k3 e he).mono (Nat.le_succ n) hr, k4, k5, fun i hi => ?_, by omega⟩
  · rcases List.mem_cons.mp he with rfl | he
    · refine ⟨Nat.lt_succ_self n, ?_, ?_⟩
      · dsimp only
        rw [if_pos rfl]
        exact h1
      · dsimp only
        rw [if_pos rfl]
        exact h2
    · exact (k1.mono (Nat.le_succ n) hr) e he
  · rw [hr i (by omega)]
    exact k6 i hi
theorem zN_new {z : Int} {w : Nat} : zN (fun i => if i = n then z else ρ i) (n + 1) w (w, z0, z1, n) z := Or.inl ⟨rfl, Or.inr (Nat.lt_succ_self n), by show z = 0 + 1 * (if n = n then z else ρ n); rw [if_pos rfl]; omega⟩
/-- a value gets a symbol -/
theorem zMa_s {k : Nat → zS → zV → Bool} (hg : zGa X P G pS h0 ρ0 ρ n σ K E h) (hu : zG P ρ n v u) (hk : zMa n σ v k = true) : ∃ n' σ' ρ' v', k n' σ' v' = true ∧ n ≤ n' ∧ (∀ i, i < n → ρ' i = ρ i) ∧ zGa X P G pS h0 ρ0 ρ' n' σ' K E h ∧ zG P ρ' n' v' u ∧ (v.1 ≤ 3 → v'.1 / 2 = v.1 / 2) ∧ (3 < v.1 → v' = v) := by
  unfold zMa at hk
  rcases zCd hk with ⟨c, hk⟩ | ⟨c, hk⟩
  · rcases zOr c with c | c
    · have c := zbe c
      obtain ⟨x, rfl, hx⟩ := zG_int hu (Or.inr c)
      rcases hx with ⟨e, -⟩ | ⟨-, h1, h2⟩
      · omega
      · refine ⟨_, _, fun i => if i = n then x.toInt else ρ i, _, hk, Nat.le_succ n, fun i hi => if_neg (by omega), hg.new h1 h2, ?_, ?_, ?_⟩
        · rw [show v.1 - 1 = 0 by omega]
          exact zGi zN_new
        · intro _
          show (v.1 - 1) / 2 = v.1 / 2
          omega
        · intro q
          omega
    · have c := zbe c
      obtain ⟨x, rfl, hx⟩ := zG_long hu (Or.inr c)
      rcases hx with ⟨e, -⟩ | ⟨-, h1, h2⟩
      · omega
      · refine ⟨_, _, fun i => if i = n then x.toInt else ρ i, _, hk, Nat.le_succ n, fun i hi => if_neg (by omega), hg.new h1 h2, ?_, ?_, ?_⟩
        · rw [show v.1 - 1 = 2 by omega]
          exact zGj zN_new
        · intro _
          show (v.1 - 1) / 2 = v.1 / 2
          omega
        · intro q
          omega
  · exact ⟨n, σ, ρ, v, hk, Nat.le_refl n, fun _ _ => rfl, hg, hu, fun _ => rfl, fun _ => rfl⟩
theorem zMas_s {k : Nat → zS → List zV → Bool} (hg : zGa X P G pS h0 ρ0 ρ n σ K E h) (hl : zGl P ρ n vs us) (hk : zMas vs n σ k = true) : ∃ n' σ' ρ' vs', k n' σ' vs' = true ∧ n ≤ n' ∧ (∀ i, i < n → ρ' i = ρ i) ∧ zGa X P G pS h0 ρ0 ρ' n' σ' K E h ∧ zGl P ρ' n' vs' us := by
  induction vs generalizing us n σ ρ k with
  | nil => exact ⟨n, σ, ρ, [], hk, Nat.le_refl n, fun _ _ => rfl, hg, hl⟩
  | cons v r ih =>
    obtain ⟨u, q, rfl, h1, h2⟩ := zGl_cons hl
    unfold zMas at hk
    obtain ⟨n1, σ1, ρ1, v1, hk, l1, r1, g1, u1, -, -⟩ := zMa_s hg h1 hk
    obtain ⟨n2, σ2, ρ2, vs2, hk, l2, r2, g2, u2⟩ := ih g1 (h2.mono l1 r1) hk
    exact ⟨n2, σ2, ρ2, v1 :: vs2, hk, by omega, fun i hi => (r2 i (by omega)).trans (r1 i hi), g2, u1.mono l2 r2, u2⟩
theorem zCat_s (hu : zG P ρ n v u) (h9 : v.1 ≠ 9) : u.category = zCat v := by
  unfold zCat
  rcases hu with ⟨h1, x, rfl, -⟩ | ⟨h1, x, rfl, -⟩ | ⟨h1, r, rfl, -⟩ | ⟨h1, rfl⟩ | h1
  · have a : Nat.beq v.1 2 = false := by cases hb : Nat.beq v.1 2; · rfl
                                         · have := zbe hb; omega
    have b : Nat.beq v.1 3 = false := by cases hb : Nat.beq v.1 3; · rfl
                                         · have := zbe hb; omega
    have c : Nat.beq v.1 9 = false := by cases hb : Nat.beq v.1 9; · rfl
                                         · have := zbe hb; omega
    rw [a, b, c]
    rfl
  · have a : (Nat.beq v.1 2 || Nat.beq v.1 3) = true := by rcases h1 with e | e <;> rw [e] <;> rfl
    rw [a]
    rfl
  · rw [h1]
    rfl
  · rw [h1]
    rfl
  · exact absurd h1 h9
theorem zCats_s (hl : zGl P ρ n vs us) {m : Nat} (hm : zCats vs ≤ m) (h9 : m ≤ 8) : (us.map fun v => v.category).sum ≤ m := by
  have key : ∀ (vs : List zV) (us : List Value), zGl P ρ n vs us → zCats vs ≤ 8 → (us.map fun v => v.category).sum = zCats vs := by
    intro vs
    induction vs with
    | nil =>
      intro us hl _
      rw [zGl_nil hl]
      rfl
    | cons v r ih =>
      intro us hl h8
      obtain ⟨u, q, rfl, h1, h2⟩ := zGl_cons hl
      unfold zCats at h8 ⊢
      have h9 : v.1 ≠ 9 := by
        intro e
        have : zCat v = 9 := by unfold zCat; rw [e]; rfl
        omega
      rw [List.map_cons, List.sum_cons, zCat_s h1 h9, ih q h2 (by omega)]
  rw [key vs us hl (by omega)]
  exact hm
theorem zOkv_s {N : Nat} (hN : N ≤ 700) (hu : zG P ρ n v u) (h : zOkv N v = true) : aOkv N u = true := by
  unfold zOkv at h
  rcases hu with ⟨h1, x, rfl, -⟩ | ⟨h1, x, rfl, -⟩ | ⟨h1, r, rfl, hc⟩ | ⟨h1, rfl⟩ | h1
  · rfl
  · rfl
  · rw [h1] at h
    have h : (Nat.blt v.2.2.2 N || Nat.ble 90000 v.2.2.2) = true := h
    refine decide_eq_true ?_
    rcases zOr h with h | h
    · have h := zbt h
      rcases hc with ⟨_, e⟩ | ⟨e, -⟩ | ⟨e, -⟩
      · exact Or.inl (e ▸ h)
      · exact absurd h (by omega)
      · exact absurd h (by omega)
    · have h := zbl h
      rcases hc with ⟨e, -⟩ | ⟨-, e, -⟩ | ⟨_, e⟩
      · exact absurd h (by omega)
      · exact absurd h (by omega)
      · exact Or.inr (e ▸ h)
  · rfl
  · rw [h1] at h
    cases h
theorem zAll_s {N : Nat} (hN : N ≤ 700) (hl : zGl P ρ n vs us) (h : zAll (zOkv N) vs = true) : us.all (aOkv N) = true := by
  induction vs generalizing us with
  | nil =>
    rw [zGl_nil hl]
    rfl
  | cons v r ih =>
    obtain ⟨u, q, rfl, h1, h2⟩ := zGl_cons hl
    unfold zAll at h
    obtain ⟨ha, hb⟩ := zAnd h
    rw [List.all_cons, zOkv_s hN h1 ha, ih h2 hb]
    rfl
end ZST
