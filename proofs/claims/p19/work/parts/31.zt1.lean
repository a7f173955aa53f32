/-! templates: symbols are found, values and places fit -/
section ZTE
variable {X : aX} {P : zP} {G : aH → Prop} {pS : Nat} {h0 h h' : aH} {ρ0 ρ ρ' : Nat → Int} {n n' : Nat} {σ : zS} {K : zK} {E E' : List zE} {v u : zV} {x : Value} {th : List zV} {r : Nat → Int} {vs us : List zV} {xs : List Value}
theorem zTh.mono (k : zTh ρ n th r) (hn : n ≤ n') (hr : ∀ i, i < n → ρ' i = ρ i) : zTh ρ' n' th r := fun i v h => ⟨(k i v h).1, (k i v h).2.mono hn hr⟩
theorem zTh.push {r' : Nat → Int} (k : zTh ρ n th r) (hr : ∀ i, i < th.length → r' i = r i) (hv : (v.1 = 0 ∨ v.1 = 2) ∧ zN ρ n v.1 v (r' th.length)) : zTh ρ n (th ++ [v]) r' := by
  intro i w h
  by_cases q : i < th.length
  · rw [List.getElem?_append_left q] at h
    rw [hr i q]
    exact k i w h
  · rw [List.getElem?_append_right (by omega)] at h
    have e : i - th.length = 0 := by
      have := (List.getElem?_eq_some_iff.mp h).1
      rw [List.length_singleton] at this
      omega
    rw [e] at h
    cases h
    rw [show i = th.length by omega]
    exact hv
/-- what zFind comes to -/
def zFo (X : aX) (P : zP) (G : aH → Prop) (pS : Nat) (h0 : aH) (ρ0 ρ : Nat → Int) (n : Nat) (K : zK) (h : aH) (th : List zV) (r : Nat → Int) (bs : List (Int × Int)) (k : Nat → zS → List zE → List zV → Bool) : Prop :=
  ∃ n' σ' E' ρ' th' r', k n' σ' E' th' = true ∧ n ≤ n' ∧ (∀ i, i < n → ρ' i = ρ i) ∧ zGa X P G pS h0 ρ0 ρ' n' σ' K E' h ∧ zTh ρ' n' th' r' ∧ (∀ i, i < th.length → r' i = r i) ∧ th'.length = th.length + bs.length ∧ (∀ i b, bs[i]? = some b → b.1 ≤ r' (th.length + i) ∧ r' (th.length + i) ≤ b.2)
theorem zFldOk_s {p : Nat} (hK : zGK P (h.1, h.2.1, []) h) (hp : zFldOk P p = true) : zPl h p ∧ p % 128 ≠ 127 := by
  unfold zFldOk at hp
  obtain ⟨h1, h2⟩ := zAnd hp
  obtain ⟨h2, h3⟩ := zAnd h2
  have h1 := zbt h1
  have h2 := zbt h2
  have h3 := zbt h3
  obtain ⟨b1, b2, b3, -⟩ := hK.2.2 (p / 128) (p / 128) (Or.inl ⟨by omega, rfl⟩) (show (zLk [] (p / 128) (P.kT (p / 128))).1 < 900 from by show (P.kT (p / 128)).1 < 900; omega)
  have b3 : (h.2.2.1 (p / 128)).1 = (P.kT (p / 128)).1 := b3
  refine ⟨⟨b1, h1, ?_⟩, by omega⟩
  rw [if_neg (by omega)]
  omega
theorem zKe (hg : zGa X P G pS h0 ρ0 ρ n σ K E h) (hK : K.2.2 = []) : zGK P (h.1, h.2.1, []) h := by
  obtain ⟨-, ⟨k1, k2, k3⟩, -⟩ := hg
  have e : K = (h.1, h.2.1, []) := by
    obtain ⟨a, b, c⟩ := K
    have k1 : h.1 = a := k1
    have k2 : h.2.1 = b := k2
    have hK : c = [] := hK
    rw [k1, k2, hK]
  rw [← e]
  exact ⟨k1, k2, k3⟩
theorem zGetA_x {p j j' : Nat} (hE : ∀ e ∈ E, zGe X ρ n h e) (hp : p < 89600) (hp2 : p % 128 = 127) (hj : j < j') : (zGet E p j j' (8, z0, z0, 0)) = (8, z0, z0, 0) ∨ ∃ Z, zN ρ n 0 (zGet E p j j' (8, z0, z0, 0)) Z := by
  induction E with
  | nil => exact Or.inl rfl
  | cons e r ih =>
    unfold zGet
    cases c : (Nat.beq e.1 p && (Nat.ble e.2.1 j && Nat.ble j' e.2.2.1))
    · exact ih (fun e he => hE e (List.mem_cons_of_mem _ he))
    · obtain ⟨c1, c2⟩ := zAnd c
      obtain ⟨c2, c3⟩ := zAnd c2
      have c1 := zbe c1
      have c2 := zbl c2
      have c3 := zbl c3
      have he := hE e List.mem_cons_self
      unfold zGe at he
      rw [if_neg (by omega), if_neg (by omega)] at he
      exact Or.inr ⟨_, he.2 j c2 (by omega) (fun z => absurd (by rw [c1]; exact hp2) z)⟩
theorem zFind_s {qs : List (Nat × Nat)} {bs : List (Int × Int)} {k : Nat → zS → List zE → List zV → Bool} (hKe : zGK P (h.1, h.2.1, []) h) (hg : zGa X P G pS h0 ρ0 ρ n σ K E h) (hl : zGl P ρ n vs xs) (hth : zTh ρ n th r) (hk : zFind P vs qs bs n σ E th k = true) : zFo X P G pS h0 ρ0 ρ n K h th r bs k := by
  induction qs generalizing bs n σ E th ρ r with
  | nil =>
    cases bs with
    | nil => exact ⟨n, σ, E, ρ, th, r, hk, Nat.le_refl n, fun _ _ => rfl, hg, hth, fun _ _ => rfl, rfl, fun i b h => by cases h⟩
    | cons b bs => cases hk
  | cons q qs ih =>
    cases bs with
    | nil => cases hk
    | cons b bs =>
      unfold zFind at hk
      -- a value that was found
      have go : ∀ (n1 : Nat) (σ1 : zS) (E1 : List zE) (ρ1 : Nat → Int) (v : zV), n ≤ n1 → (∀ i, i < n → ρ1 i = ρ i) → zGa X P G pS h0 ρ0 ρ1 n1 σ1 K E1 h → (v.1 = 0 → ∃ Z, zN ρ1 n1 0 v Z) → (v.1 = 2 → ∃ Z, zN ρ1 n1 2 v Z) → zFindK v b n1 σ1 E1 (fun n σ E v => zFind P vs qs bs n σ E (th ++ [v]) k) = true → zFo X P G pS h0 ρ0 ρ n K h th r (b :: bs) k := by
        intro n1 σ1 E1 ρ1 v l1 r1 g1 hv0 hv2 hk
        have fin : ∀ (w : Nat) (Z lo hi : Int), v.1 = w → (w = 0 ∨ w = 2) → zN ρ1 n1 w v Z → lo ≤ Z → Z ≤ hi → b.1 ≤ lo → hi ≤ b.2 → zFind P vs qs bs n1 σ1 E1 (th ++ [v]) k = true → zFo X P G pS h0 ρ0 ρ n K h th r (b :: bs) k := by
          intro w Z lo hi e1 hw hz z1 z2 z3 z4 hk
          have hth1 : zTh ρ1 n1 (th ++ [v]) (fun i => if i = th.length then Z else r i) := (hth.mono l1 r1).push (fun i hi => if_neg (by omega)) ⟨by omega, by rw [if_pos rfl, e1]; exact hz⟩
          obtain ⟨n2, σ2, E2, ρ2, th2, r2, hk, l2, q2, g2, t2, e2, len2, b2⟩ := ih g1 (hl.mono l1 r1) hth1 hk
          have ll : (th ++ [v]).length = th.length + 1 := by rw [List.length_append]; rfl
          refine ⟨n2, σ2, E2, ρ2, th2, r2, hk, by omega, fun i hi => (q2 i (by omega)).trans (r1 i hi), g2, t2, fun i hi => ?_, by rw [len2, ll, List.length_cons]; omega, fun i b' hb => ?_⟩
          · rw [e2 i (by omega)]
            exact if_neg (by omega)
          · cases i with
            | zero =>
              cases hb
              have := e2 th.length (by omega)
              dsimp only at this
              rw [if_pos rfl] at this
              rw [Nat.add_zero, this]
              exact ⟨by omega, by omega⟩
            | succ i =>
              have := b2 i b' hb
              rw [ll] at this
              rwa [show th.length + (i + 1) = th.length + 1 + i by omega]
        unfold zFindK at hk
        rcases zCd hk with ⟨c, hk⟩ | ⟨-, hk⟩
        · obtain ⟨Z, hz⟩ := hv0 (zbe c)
          obtain ⟨lo, hi, z1, z2, hk⟩ := zRg_s g1.1 hz hk
          rcases zCd hk with ⟨d, hk⟩ | ⟨-, hk⟩
          · obtain ⟨d1, d2⟩ := zAnd d
            exact fin 0 Z lo hi (zbe c) (Or.inl rfl) hz z1 z2 (zl d1) (zl d2) hk
          · cases hk
        · rcases zCd hk with ⟨c, hk⟩ | ⟨-, hk⟩
          · obtain ⟨Z, hz⟩ := hv2 (zbe c)
            obtain ⟨lo, hi, z1, z2, hk⟩ := zRg_s g1.1 hz hk
            rcases zCd hk with ⟨d, hk⟩ | ⟨-, hk⟩
            · obtain ⟨d1, d2⟩ := zAnd d
              exact fin 2 Z lo hi (zbe c) (Or.inr rfl) hz z1 z2 (zl d1) (zl d2) hk
            · cases hk
          · cases hk
      unfold zFind1 at hk
      rcases zCd hk with ⟨-, hk⟩ | ⟨-, hk⟩
      · obtain ⟨v, x, -, h2, hk, -⟩ := zGl_at hl hk
        exact go n σ E ρ v (Nat.le_refl n) (fun _ _ => rfl) hg (fun e => by obtain ⟨z, -, hz⟩ := zG_int h2 (Or.inl e); exact ⟨_, hz⟩) (fun e => by obtain ⟨z, -, hz⟩ := zG_long h2 (Or.inl e); exact ⟨_, hz⟩) hk
      · rcases zCd hk with ⟨c, hk⟩ | ⟨-, hk⟩
        · obtain ⟨c1, c2⟩ := zAnd c
          obtain ⟨c2, c3⟩ := zAnd c2
          have c1 := zbl c1
          have c2 := zbt c2
          have c3 := zbe c3
          have hx := zGetA_x (j := q.1 - 2) (j' := q.1 - 1) hg.2.2.1 c2 c3 (by omega)
          generalize zGet E q.2 (q.1 - 2) (q.1 - 1) (8, z0, z0, 0) = v at hk hx
          exact go n σ E ρ v (Nat.le_refl n) (fun _ _ => rfl) hg (fun e => by
            rcases hx with hx | hx
            · rw [hx] at e
              cases e
            · exact hx) (fun e => by
            rcases hx with hx | ⟨Z, hx⟩
            · rw [hx] at e
              cases e
            · rcases zTag hx with q | q <;> omega) hk
        · rcases zCd hk with ⟨c, hk⟩ | ⟨-, hk⟩
          · obtain ⟨hp, hf⟩ := zFldOk_s hKe c
            obtain ⟨n1, σ1, E1, ρ1, v, hk, l1, r1, g1, u1⟩ := zRd_s hg hp hf hk
            exact go n1 σ1 E1 ρ1 v l1 r1 g1 (fun e => ⟨_, u1⟩) (fun e => by rcases zTag u1 with q | q <;> omega) hk
          · cases hk
theorem zFitL_s (hV : zVal P) (hs : zSok ρ n σ) (hth : zTh ρ n th r) (hl : zGl P ρ n vs xs) (h : zFitL P σ th vs us = true) : zGl P r th.length us xs := by
  induction vs generalizing us xs with
  | nil =>
    cases us with
    | nil =>
      rw [zGl_nil hl]
      exact trivial
    | cons u q => cases h
  | cons v q ih =>
    obtain ⟨x, xq, rfl, h1, h2⟩ := zGl_cons hl
    cases us with
    | nil => cases h
    | cons u uq =>
      unfold zFitL at h
      obtain ⟨ha, hb⟩ := zAnd h
      exact ⟨zG_un hth (zFits_s hV hs h1 ha), ih h2 hb⟩
theorem zLocOk_s {p t : Nat} (hK : zGK P (h.1, h.2.1, []) h) (hp : zLocOk P p t = true) : zPl h p ∧ (p % 128 = 127 → t ≤ (h.2.2.1 (p / 128)).2.1) := by
  unfold zLocOk at hp
  rcases zCd hp with ⟨c, hp⟩ | ⟨-, hp⟩
  · have c := zbt c
    have hlt : (P.kT (p / 128)).1 < 900 := by
      rcases zCd hp with ⟨-, hp⟩ | ⟨-, hp⟩
      · exact zbt (zAnd (zAnd hp).2).1
      · have := zbt hp
        omega
    obtain ⟨b1, b2, b3, b4, -⟩ := hK.2.2 (p / 128) (p / 128) (Or.inl ⟨by omega, rfl⟩) hlt
    have b3 : (h.2.2.1 (p / 128)).1 = (P.kT (p / 128)).1 := b3
    have b4 : 100 ≤ (P.kT (p / 128)).1 → (h.2.2.1 (p / 128)).2.1 = (P.kT (p / 128)).2.1 := b4
    rcases zCd hp with ⟨d, hp⟩ | ⟨d, hp⟩
    · have d := zbe d
      obtain ⟨e1, e2⟩ := zAnd hp
      obtain ⟨e2, e3⟩ := zAnd e2
      have e1 := zbl e1
      have e3 := zbl e3
      refine ⟨⟨b1, c, ?_⟩, fun _ => ?_⟩
      · rw [if_pos d]
        omega
      · rw [b4 e1]
        exact e3
    · have d := zbn d
      have e1 := zbt hp
      refine ⟨⟨b1, c, ?_⟩, fun q => absurd q d⟩
      rw [if_neg d]
      omega
  · cases hp
theorem zFitE_s {ents : List zE} (hV : zVal P) (hKe : zGK P (h.1, h.2.1, []) h) (hg : zGa X P G pS h0 ρ0 ρ n σ K E h) (hth : zTh ρ n th r) (hk : zFitE P σ E th ents = true) : ∀ e ∈ ents, zGp r th.length h e := by
  induction ents with
  | nil => intro e he; cases he
  | cons a q ih =>
    unfold zFitE at hk
    obtain ⟨k1, k2⟩ := zAnd hk
    obtain ⟨k0, k1⟩ := zAnd k1
    obtain ⟨k0, k9⟩ := zAnd k0
    intro e he
    rcases List.mem_cons.mp he with rfl | he
    · obtain ⟨hp, hlen⟩ := zLocOk_s hKe k0
      refine ⟨hp, fun i i1 i2 i3 => ?_⟩
      have hv := zGet_s (X := X) (E := E) (j := e.2.1) (j' := e.2.2.1) (d := zIr P e.1) hg.2.2.1 hp (fun i q1 q2 q3 => zIr_s hg.2.2.2.1 hp (fun q => by have := hlen q; omega)) i i1 i2 i3
      have hz : zG P ρ n (zGet E e.1 e.2.1 e.2.2.1 (zIr P e.1)) (.int (zM h e.1 i)) := zGi hv
      have h2 := zG_un hth (zFits_s hV hg.1 hz k1)
      rcases h2 with ⟨-, x, h3, h4⟩ | ⟨-, x, h3, -⟩ | ⟨-, x, h3, -⟩ | ⟨-, h3⟩ | h3
      · cases h3
        exact h4
      · cases h3
      · cases h3
      · cases h3
      · have := zbl k9
        omega
    · exact ih k2 e he
theorem zHold_s {rng : List (Nat × Int × Int)} (hs : zSok ρ n σ) (hth : zTh ρ n th r) (h : zHold σ th rng = true) : ∀ e ∈ rng, e.1 < th.length ∧ e.2.1 ≤ r e.1 ∧ r e.1 ≤ e.2.2 := by
  induction rng with
  | nil => intro e he; cases he
  | cons a q ih =>
    unfold zHold at h
    obtain ⟨h1, h2⟩ := zAnd h
    intro e he
    rcases List.mem_cons.mp he with rfl | he
    · unfold zHold1 at h1
      rcases zThN_at (th := th) (j := e.1) with ⟨v, q1, q2⟩ | ⟨-, q2⟩
      · rw [q2] at h1
        obtain ⟨hv, hz⟩ := hth _ _ q1
        have ew : (bif Nat.beq v.1 2 then 2 else 0) = v.1 := by rcases hv with e | e <;> rw [e] <;> rfl
        rw [ew] at h1
        obtain ⟨lo, hi, z1, z2, h1⟩ := zRg_s hs hz h1
        obtain ⟨d1, d2⟩ := zAnd h1
        have d1 := zl d1
        have d2 := zl d2
        exact ⟨(List.getElem?_eq_some_iff.mp q1).1, by omega, by omega⟩
      · rw [q2] at h1
        have h1 : zRg 0 σ (8, z0, z0, 0) (fun l h => zle e.2.1 l && zle h e.2.2) = true := h1
        have := (zRg_tag h1).1
        rcases this with q | q
        · cases q
        · cases q
    · exact ih h2 e he
theorem zTake_s {rng : List (Nat × Int × Int)} {k : zS → Bool} (hs : zSok ρ n σ) (hth : zTh ρ n th r) (hr : ∀ e ∈ rng, e.2.1 ≤ r e.1 ∧ r e.1 ≤ e.2.2) (h : zTake th rng σ k = true) : ∃ σ', zSok ρ n σ' ∧ k σ' = true := by
  induction rng generalizing σ with
  | nil => exact ⟨σ, hs, h⟩
  | cons a q ih =>
    unfold zTake at h
    unfold zTake1 at h
    have hra := hr a List.mem_cons_self
    have tg := (zRg_tag h).1
    rcases zThN_at (th := th) (j := a.1) with ⟨v, q1, q2⟩ | ⟨-, q2⟩
    · rw [q2] at h tg
      obtain ⟨hv, hz⟩ := hth _ _ q1
      have hv0 : v.1 = 0 := by omega
      rw [hv0] at hz
      obtain ⟨lo, hi, z1, z2, h⟩ := zRg_s hs hz h
      rcases zCd h with ⟨-, h⟩ | ⟨c, -⟩
      · obtain ⟨σ1, g1, h⟩ := zNr_s hs hz hra.1 hra.2 h
        exact ih g1 (fun e he => hr e (List.mem_cons_of_mem _ he)) h
      · have c := zlF c
        have a1 : zmax lo a.2.1 ≤ r a.1 := zmax_le z1 hra.1
        have a2 : r a.1 ≤ zmin hi a.2.2 := le_zmin z2 hra.2
        omega
    · rw [q2] at tg
      rcases tg with q | q
      · cases q
      · cases q
end ZTE
