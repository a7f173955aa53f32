/-! contracts out of runs of the interpreter -/
def zEqv (P P' : zP) : Prop := P.kT = P'.kT ∧ P.zI = P'.zI ∧ P.ps = P'.ps
section ZEQ
variable {P P' : zP}
theorem zEqv.symm (e : zEqv P P') : zEqv P' P := ⟨e.1.symm, e.2.1.symm, e.2.2.symm⟩
theorem zIr_eq (e : zEqv P P') : zIr P = zIr P' := by
  funext p
  unfold zIr
  rw [e.2.1]
theorem zFits_eq (e : zEqv P P') : zFits P = zFits P' := by
  funext σ v u
  unfold zFits zFitC
  rw [e.2.2]
theorem zFitL_eq (e : zEqv P P') {σ : zS} {th : List zV} : ∀ vs us, zFitL P σ th vs us = zFitL P' σ th vs us := by
  intro vs
  induction vs with
  | nil => intro us; cases us <;> rfl
  | cons v r ih =>
    intro us
    cases us with
    | nil => rfl
    | cons u q =>
      unfold zFitL
      rw [zFits_eq e, ih q]
theorem zLocOk_eq (e : zEqv P P') : zLocOk P = zLocOk P' := by
  funext p t
  unfold zLocOk
  rw [e.1]
theorem zFldOk_eq (e : zEqv P P') : zFldOk P = zFldOk P' := by
  funext p
  unfold zFldOk
  rw [e.1]
theorem zFitE_eq (e : zEqv P P') {σ : zS} {E : List zE} {th : List zV} : ∀ es, zFitE P σ E th es = zFitE P' σ E th es := by
  intro es
  induction es with
  | nil => rfl
  | cons a r ih =>
    unfold zFitE
    rw [zLocOk_eq e, zFits_eq e, zIr_eq e, ih]
theorem zRd_eq (e : zEqv P P') : zRd P = zRd P' := by
  funext n σ E p k
  unfold zRd
  rw [zIr_eq e]
theorem zFind1_eq (e : zEqv P P') : zFind1 P = zFind1 P' := by
  funext vs q b n σ E k
  unfold zFind1
  rw [zFldOk_eq e, zRd_eq e]
theorem zFind_eq (e : zEqv P P') {vs : List zV} : ∀ qs bs n σ E th k, zFind P vs qs bs n σ E th k = zFind P' vs qs bs n σ E th k := by
  intro qs
  induction qs with
  | nil => intro bs n σ E th k; cases bs <;> rfl
  | cons q r ih =>
    intro bs n σ E th k
    cases bs with
    | nil => rfl
    | cons b bs =>
      unfold zFind
      rw [zFind1_eq e]
      congr 1
      funext n σ E v
      exact ih bs n σ E (th ++ [v]) k
theorem zPostOk_eq (e : zEqv P P') {p0 : Nat} : ∀ ps n σ E rv, zPostOk P p0 ps n σ E rv = zPostOk P' p0 ps n σ E rv := by
  intro ps
  induction ps with
  | nil => intro n σ E rv; rfl
  | cons q r ih =>
    intro n σ E rv
    unfold zPostOk
    rw [zFind_eq e, ih]
    congr 2
    funext n σ E th
    unfold zPost1
    rw [zFitL_eq e, zFitE_eq e]
theorem zGc_eq (e : zEqv P P') : zGc P = zGc P' := by
  funext s r
  unfold zGc
  rw [e.2.2]
theorem zG_eq (e : zEqv P P') : zG P = zG P' := by
  funext ρ n v u
  unfold zG
  rw [zGc_eq e]
theorem zGl_eq (e : zEqv P P') {ρ : Nat → Int} {n : Nat} : ∀ vs us, zGl P ρ n vs us = zGl P' ρ n vs us := by
  intro vs
  induction vs with
  | nil => intro us; cases us <;> rfl
  | cons v r ih =>
    intro us
    cases us with
    | nil => rfl
    | cons u q =>
      unfold zGl
      rw [zG_eq e, ih q]
theorem zGK_eq (e : zEqv P P') : zGK P = zGK P' := by
  funext K h
  unfold zGK zGk zCe
  rw [zGc_eq e, e.1]
theorem zGI_eq (e : zEqv P P') : zGI P = zGI P' := by
  funext h
  unfold zGI
  rw [e.2.1]
theorem zPm_eq (e : zEqv P P') : zPm P = zPm P' := by
  funext ρ m po rv h
  unfold zPm
  simp only [zGl_eq e]
theorem zCk_eq {X : aX} {G : aH → Prop} {q : Nat} {c : zCo} (e : zEqv P P') : zCk X P G q c = zCk X P' G q c := by
  unfold zCk
  simp only [zGl_eq e, zGK_eq e, zGI_eq e, zPm_eq e]
end ZEQ
/-- the tables of P, for a run of a method: loops, what may be written, what may change, symbols, measure, end -/
def zSet (P : zP) (inv : List zIv) (wm md p0 : Nat) (me : List (List zV)) (fin : Nat → zS → zK → List zE → List zV → Bool) : zP := (P.bk, P.kT, P.zI, P.ps, P.con, inv, false, wm, md, p0, me, fin, fun _ _ _ _ _ => true)
theorem zSet_eqv {P : zP} {inv : List zIv} {wm md p0 : Nat} {me : List (List zV)} {fin : Nat → zS → zK → List zE → List zV → Bool} : zEqv (zSet P inv wm md p0 me fin) P := ⟨rfl, rfl, rfl⟩
/-- bounds of the first symbols -/
def zSig : List (Int × Int) → Nat → zS
  | [], _ => []
  | b :: r, i => (i, b.1, b.2) :: zSig r (i + 1)
/-- the run of a method from its entry -/
def zRunE (P : zP) (c : zCo) (q dd f wm N S : Nat) (inv : List zIv) : Prop :=
  (zAll (fun v => Nat.ble v.1 4) c.2.2.2.1 && Nat.ble (zFl c.2.2.2.1).length (aML q)) = true ∧
  zBlk (P.bk q) 0 (fun l => zGoX (zSet P inv wm c.2.2.2.2.2.2 c.2.1.length [] (fun n σ _ E rv => zPostOk P c.2.1.length c.2.2.2.2.2.1 n σ E rv)) f c.2.1.length (zSig c.2.1 0) (N, S, []) c.2.2.2.2.1 ([], dd, q, 0) l (zEnt c.2.2.2.1 (aML q)) []) = true
/-- the run from a loop's head -/
def zRunL (P : zP) (c : zCo) (q dd f wm N S : Nat) (inv : List zIv) (v : zIv) : Prop :=
  zBlk (P.bk q) v.1 (fun l => zGoX (zSet P inv wm c.2.2.2.2.2.2 c.2.1.length [v.2.2.2.2.2] (fun n σ _ E rv => zPostOk P c.2.1.length c.2.2.2.2.2.1 n σ E rv)) f (c.2.1.length + v.2.2.1.length) (zSig (c.2.1 ++ v.2.2.1) 0) (N, S, []) v.2.2.2.2.1 ([], dd, q, v.1) l v.2.2.2.1 []) = true
/-- what falls, as a number -/
def zMe (ρ : Nat → Int) : List zV → Int
  | [] => 0
  | u :: r => (u.2.1 + u.2.2.1 * ρ u.2.2.2) + zMe ρ r
section ZLP
variable {X : aX} {P : zP} {G : aH → Prop} {pS kk dt yt : Nat} {h0 h h' : aH} {ρ0 ρ ρ' : Nat → Int} {n n' : Nat} {σ : zS} {K : zK} {E E' : List zE} {v u : zV} {ls st : List zV} {lsC stC : List Value} {Q : Option Value → aH → Prop} {th : List zV} {r : Nat → Int}
theorem zSig_s {bs : List (Int × Int)} {i N : Nat} (hb : ∀ j b, bs[j]? = some b → i + j < N ∧ b.1 ≤ ρ (i + j) ∧ ρ (i + j) ≤ b.2) : zSok ρ N (zSig bs i) := by
  induction bs generalizing i with
  | nil => intro e he; cases he
  | cons b bs ih =>
    intro e he
    rcases List.mem_cons.mp he with rfl | he
    · exact hb 0 b rfl
    · refine ih (i := i + 1) (fun j b' hj => ?_) e he
      have := hb (j + 1) b' hj
      rwa [show i + (j + 1) = i + 1 + j by omega] at this
theorem zIds_at {m i j : Nat} : (zIds m i)[j]? = if j < m then some (zsy (i + j)) else none := by
  induction m generalizing i j with
  | zero =>
    rw [if_neg (by omega)]
    rfl
  | succ m ih =>
    cases j with
    | zero =>
      rw [if_pos (by omega)]
      rfl
    | succ j =>
      show (zIds m (i + 1))[j]? = _
      rw [ih]
      by_cases q : j < m
      · rw [if_pos q, if_pos (by omega), show i + 1 + j = i + (j + 1) by omega]
      · rw [if_neg q, if_neg (by omega)]
theorem zIds_len {m i : Nat} : (zIds m i).length = m := by
  induction m generalizing i with
  | zero => rfl
  | succ m ih =>
    show (zIds m (i + 1)).length + 1 = _
    rw [ih]
theorem zIds_th {m : Nat} (hm : m ≤ n) : zTh ρ n (zIds m 0) ρ := by
  intro i v h
  rw [zIds_at] at h
  by_cases q : i < m
  · rw [if_pos q] at h
    cases h
    refine ⟨Or.inl rfl, Or.inl ⟨rfl, Or.inr (by show 0 + i < n; omega), ?_⟩⟩
    show ρ i = 0 + 1 * ρ (0 + i)
    rw [Nat.zero_add]
    omega
  · rw [if_neg q] at h
    cases h
/-- terms that are numbers in the known symbols -/
def zTm (n : Nat) (us : List zV) : Prop := ∀ u ∈ us, u.1 = 0 ∧ (u.2.2.1 = 0 ∨ u.2.2.2 < n)
theorem zLowS_s {us : List zV} {m Z : Int} {k : Int → Bool} (hs : zSok ρ n σ) (ht : zTm n us) (hm : m ≤ Z) (h : zLowS σ us m k = true) : ∃ l, l ≤ Z + zMe ρ us ∧ k l = true := by
  induction us generalizing m Z with
  | nil => exact ⟨m, by show m ≤ Z + 0; omega, h⟩
  | cons u q ih =>
    have h : zRg 0 σ u (fun l _ => zLowS σ q (m + l) k) = true := h
    obtain ⟨t1, t2⟩ := ht u List.mem_cons_self
    obtain ⟨lo, hi, z1', z2', h⟩ := zRg_s hs (show zN ρ n 0 u (u.2.1 + u.2.2.1 * ρ u.2.2.2) from Or.inl ⟨t1, t2, rfl⟩) h
    obtain ⟨l, e1, e2⟩ := ih (Z := Z + (u.2.1 + u.2.2.1 * ρ u.2.2.2)) (fun u hu => ht u (List.mem_cons_of_mem _ hu)) (by omega) h
    refine ⟨l, ?_, e2⟩
    show l ≤ Z + ((u.2.1 + u.2.2.1 * ρ u.2.2.2) + zMe ρ q)
    omega
theorem zDiffS_s {us vs : List zV} {m Z : Int} {k : Int → Bool} (hs : zSok ρ n σ) (ht : zTm n us) (ht2 : zTm n vs) (hm : Z ≤ m) (h : zDiffS σ us vs m k = true) : ∃ l, Z + (zMe ρ us - zMe ρ vs) ≤ l ∧ k l = true := by
  induction us generalizing vs m Z with
  | nil =>
    cases vs with
    | nil => exact ⟨m, by show Z + (0 - 0) ≤ m; omega, h⟩
    | cons v w => cases h
  | cons u q ih =>
    cases vs with
    | nil => cases h
    | cons v w =>
      obtain ⟨t1, t2⟩ := ht u List.mem_cons_self
      obtain ⟨t3, t4⟩ := ht2 v List.mem_cons_self
      have tq : zTm n q := fun u hu => ht u (List.mem_cons_of_mem _ hu)
      have tw : zTm n w := fun u hu => ht2 u (List.mem_cons_of_mem _ hu)
      have step : ∀ D : Int, (u.2.1 + u.2.2.1 * ρ u.2.2.2) - (v.2.1 + v.2.2.1 * ρ v.2.2.2) ≤ D → zDiffS σ q w (m + D) k = true → ∃ l, Z + (zMe ρ (u :: q) - zMe ρ (v :: w)) ≤ l ∧ k l = true := by
        intro D hD h
        obtain ⟨l, e1, e2⟩ := ih (Z := Z + ((u.2.1 + u.2.2.1 * ρ u.2.2.2) - (v.2.1 + v.2.2.1 * ρ v.2.2.2))) tq tw (by omega) h
        refine ⟨l, ?_, e2⟩
        show Z + (((u.2.1 + u.2.2.1 * ρ u.2.2.2) + zMe ρ q) - ((v.2.1 + v.2.2.1 * ρ v.2.2.2) + zMe ρ w)) ≤ l
        omega
      unfold zDiffS at h
      rcases zCd h with ⟨c, h⟩ | ⟨-, h⟩
      · obtain ⟨-, c2⟩ := zAnd c
        obtain ⟨c2, c3⟩ := zAnd c2
        refine step _ ?_ h
        rw [zbe c2, ze c3]
        omega
      · obtain ⟨lx, ux, ly, uy, a1, a2, a3, a4, h⟩ := zRg2_s hs (show zN ρ n 0 u (u.2.1 + u.2.2.1 * ρ u.2.2.2) from Or.inl ⟨t1, t2, rfl⟩) (show zN ρ n 0 v (v.2.1 + v.2.2.1 * ρ v.2.2.2) from Or.inl ⟨t3, t4, rfl⟩) h
        exact step (ux - ly) (by omega) h
/-- the terms that fall are told in symbols that there are -/
def zTmB (m : Nat) (us : List zV) : Bool := zAll (fun u => Nat.beq u.1 0 && (zeq u.2.2.1 z0 || Nat.blt u.2.2.2 m)) us
theorem zAll_m {α : Type} {f : α → Bool} {l : List α} (h : zAll f l = true) : ∀ a ∈ l, f a = true := by
  induction l with
  | nil => intro a ha; cases ha
  | cons x r ih =>
    obtain ⟨h1, h2⟩ := zAnd (show (f x && zAll f r) = true from h)
    intro a ha
    rcases List.mem_cons.mp ha with rfl | ha
    · exact h1
    · exact ih h2 a ha
theorem zTmB_s {m : Nat} {us : List zV} (h : zTmB m us = true) : zTm m us := by
  intro u hu
  obtain ⟨h1, h2⟩ := zAnd (zAll_m h u hu)
  refine ⟨zbe h1, ?_⟩
  rcases zOr h2 with h2 | h2
  · exact Or.inl (by rw [ze h2]; rfl)
  · exact Or.inr (zbt h2)
theorem zMe_map {us : List zV} (hth : zTh ρ n th r) (ht : zTm th.length us) : zTm n (us.map (zSubst th)) ∧ zMe ρ (us.map (zSubst th)) = zMe r us := by
  induction us with
  | nil => exact ⟨fun u hu => (by cases hu), rfl⟩
  | cons u q ih =>
    obtain ⟨i1, i2⟩ := ih (fun u hu => ht u (List.mem_cons_of_mem _ hu))
    obtain ⟨t1, t2⟩ := ht u List.mem_cons_self
    have hz : zN r th.length 0 u (u.2.1 + u.2.2.1 * r u.2.2.2) := Or.inl ⟨t1, t2, rfl⟩
    have tag : (zSubst th u).1 = 0 := by
      unfold zSubst
      have c : (Nat.beq u.1 0 || Nat.beq u.1 2) = true := by rw [t1]; rfl
      rw [c]
      cases c2 : zeq u.2.2.1 z0
      · have c2 := zeF c2
        rw [z0_eq] at c2
        show (zSubA u (zThN th u.2.2.2)).1 = 0
        rcases zThN_at (th := th) (j := u.2.2.2) with ⟨v, q1, q2⟩ | ⟨q1, q2⟩
        · rw [q2]
          obtain ⟨hv, -⟩ := hth _ _ q1
          unfold zSubA
          have c3 : (Nat.beq v.1 0 || Nat.beq v.1 2) = true := by rcases hv with e | e <;> rw [e] <;> rfl
          rw [c3]
          show (zAff _ _ _ _).1 = 0
          unfold zAff
          cases zeq (u.2.2.1 * v.2.2.1) z0 <;> exact t1
        · rcases t2 with t2 | t2 <;> omega
      · exact t1
    have e := (zSub_n hth (Or.inl rfl) (Or.inl tag)).mp hz
    rcases e with ⟨e1, e2, e3⟩ | ⟨e1, -⟩
    · refine ⟨fun w hw => ?_, ?_⟩
      · rcases List.mem_cons.mp hw with rfl | hw
        · exact ⟨e1, e2⟩
        · exact i1 w hw
      · show ((zSubst th u).2.1 + (zSubst th u).2.2.1 * ρ (zSubst th u).2.2.2) + zMe ρ (q.map (zSubst th)) = (u.2.1 + u.2.2.1 * r u.2.2.2) + zMe r q
        rw [i2, e3]
    · omega
end ZLP
