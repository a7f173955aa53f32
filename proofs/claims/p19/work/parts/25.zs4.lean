/-! instructions that end no block and call nothing: the machine goes where the interpreter goes -/
def zKp (P : zP) (k : Nat → aK) (M0 M : Nat → Nat → Int32) : Prop := ∀ a i, 100 ≤ (k a).1 → i < zLo P (a * 128 + 127) → M a i = M0 a i
def zHG (P : zP) (G : aH → Prop) : Prop := ∀ (h : aH) (M' : Nat → Nat → Int32), P.al = false → zOff P.wm h.2.2.1 h.2.2.2 M' → zKp P h.2.2.1 h.2.2.2 M' → G h → G (h.1, h.2.1, h.2.2.1, M')
def zNext (X : aX) (P : zP) (G : aH → Prop) (pS : Nat) (h0 : aH) (ρ0 ρ : Nat → Int) (n : Nat) (h : aH) (k : Nat → zS → zK → List zE → List zV → List zV → Bool) (C : List Value → List Value → aH → Prop) : Prop :=
  ∃ n' σ' K' E' ls' st' ρ' h' lsC stC, k n' σ' K' E' ls' st' = true ∧ n ≤ n' ∧ (∀ i, i < n → ρ' i = ρ i) ∧ zGa X P G pS h0 ρ0 ρ' n' σ' K' E' h' ∧ zGl P ρ' n' ls' lsC ∧ zGl P ρ' n' st' stC ∧ h.1 ≤ h'.1 ∧ C lsC stC h'
section ZPA
variable {X : aX} {P : zP} {G : aH → Prop} {pS : Nat} {h0 h h' : aH} {ρ0 ρ ρ' : Nat → Int} {n n' : Nat} {σ : zS} {K : zK} {E E' : List zE} {v : zV} {u : Value} {ls st : List zV} {lsC stC : List Value}
  {k : Nat → zS → zK → List zE → List zV → List zV → Bool} {C : List Value → List Value → aH → Prop}
theorem zNx (hk : k n σ K E ls st = true) (hg : zGa X P G pS h0 ρ0 ρ n σ K E h) (hl : zGl P ρ n ls lsC) (hs : zGl P ρ n st stC) (hC : C lsC stC h) : zNext X P G pS h0 ρ0 ρ n h k C :=
  ⟨n, σ, K, E, ls, st, ρ, h, lsC, stC, hk, Nat.le_refl n, fun _ _ => rfl, hg, hl, hs, Nat.le_refl _, hC⟩
/-- the same with a state reached by new symbols, a new heap -/
theorem zNy (hk : k n' σ K E' ls st = true) (hn : n ≤ n') (hr : ∀ i, i < n → ρ' i = ρ i) (hg : zGa X P G pS h0 ρ0 ρ' n' σ K E' h') (hl : zGl P ρ' n' ls lsC) (hs : zGl P ρ' n' st stC) (hh : h.1 ≤ h'.1) (hC : C lsC stC h') : zNext X P G pS h0 ρ0 ρ n h k C :=
  ⟨n', σ, K, E', ls, st, ρ', h', lsC, stC, hk, hn, hr, hg, hl, hs, hh, hC⟩
theorem zBin_i {f : zS → zV → zV → (zV → Bool) → Bool} (h : zBin f n σ K E ls st k = true) (hs : zGl P ρ n st stC) : ∃ y x t uy ux tC, st = y :: x :: t ∧ stC = uy :: ux :: tC ∧ zG P ρ n y uy ∧ zG P ρ n x ux ∧ zGl P ρ n t tC ∧ f σ x y (fun v => k n σ K E ls (v :: t)) = true := by
  match st, h, hs with
  | [], h, _ => cases h
  | [a], h, _ => cases h
  | y :: x :: t, h, hs =>
    obtain ⟨uy, q, rfl, h1, hs⟩ := zGl_cons hs
    obtain ⟨ux, q, rfl, h2, hs⟩ := zGl_cons hs
    exact ⟨y, x, t, uy, ux, q, rfl, rfl, h1, h2, hs, h⟩
theorem zUn_i {f : zS → zV → (zV → Bool) → Bool} (h : zUn f n σ K E ls st k = true) (hs : zGl P ρ n st stC) : ∃ x t ux tC, st = x :: t ∧ stC = ux :: tC ∧ zG P ρ n x ux ∧ zGl P ρ n t tC ∧ f σ x (fun v => k n σ K E ls (v :: t)) = true := by
  match st, h, hs with
  | [], h, _ => cases h
  | x :: t, h, hs =>
    obtain ⟨ux, q, rfl, h2, hs⟩ := zGl_cons hs
    exact ⟨x, t, ux, q, rfl, rfl, h2, hs, h⟩
/-- of two ints an int -/
theorem zBin_ii {f : zS → zV → zV → (zV → Bool) → Bool} (hf : ∀ x y k, f σ x y k = true → (x.1 = 0 ∨ x.1 = 1) ∧ (y.1 = 0 ∨ y.1 = 1)) (hg : zGa X P G pS h0 ρ0 ρ n σ K E h) (hl : zGl P ρ n ls lsC) (hs : zGl P ρ n st stC)
    (hk : zBin f n σ K E ls st k = true) (hop : ∀ (x y : zV) (a b : Int32) (t : List Value) (kk : zV → Bool), stC = .int b :: .int a :: t → zN ρ n 0 x a.toInt → zN ρ n 0 y b.toInt → f σ x y kk = true → ∃ v c, zN ρ n 0 v (Int32.toInt c) ∧ kk v = true ∧ C lsC (.int c :: t) h) : zNext X P G pS h0 ρ0 ρ n h k C := by
  obtain ⟨y, x, t, uy, ux, tC, rfl, rfl, h1, h2, h3, hk⟩ := zBin_i hk hs
  obtain ⟨t1, t2⟩ := hf _ _ _ hk
  obtain ⟨b, rfl, hb⟩ := zG_int h1 t2
  obtain ⟨a, rfl, ha⟩ := zG_int h2 t1
  obtain ⟨v, c, hv, hk, hC⟩ := hop x y a b tC _ rfl ha hb hk
  exact zNx (stC := .int c :: tC) hk hg hl ⟨zGi hv, h3⟩ hC
theorem zBin_jj {f : zS → zV → zV → (zV → Bool) → Bool} (hf : ∀ x y k, f σ x y k = true → (x.1 = 2 ∨ x.1 = 3) ∧ (y.1 = 2 ∨ y.1 = 3)) (hg : zGa X P G pS h0 ρ0 ρ n σ K E h) (hl : zGl P ρ n ls lsC) (hs : zGl P ρ n st stC)
    (hk : zBin f n σ K E ls st k = true) (hop : ∀ (x y : zV) (a b : Int64) (t : List Value) (kk : zV → Bool), stC = .long b :: .long a :: t → zN ρ n 2 x a.toInt → zN ρ n 2 y b.toInt → f σ x y kk = true → ∃ v c, zN ρ n 2 v (Int64.toInt c) ∧ kk v = true ∧ C lsC (.long c :: t) h) : zNext X P G pS h0 ρ0 ρ n h k C := by
  obtain ⟨y, x, t, uy, ux, tC, rfl, rfl, h1, h2, h3, hk⟩ := zBin_i hk hs
  obtain ⟨t1, t2⟩ := hf _ _ _ hk
  obtain ⟨b, rfl, hb⟩ := zG_long h1 t2
  obtain ⟨a, rfl, ha⟩ := zG_long h2 t1
  obtain ⟨v, c, hv, hk, hC⟩ := hop x y a b tC _ rfl ha hb hk
  exact zNx (stC := .long c :: tC) hk hg hl ⟨zGj hv, h3⟩ hC
theorem zt_rg2 {w : Nat} {f : zS → zV → zV → (zV → Bool) → Bool} {g : (zV → Bool) → zV → zV → Int → Int → Int → Int → Bool} (hf : ∀ σ x y k, f σ x y k = zRg2 w σ x y (g k x y)) : ∀ x y k, f σ x y k = true → (x.1 = w ∨ x.1 = w + 1) ∧ (y.1 = w ∨ y.1 = w + 1) := fun x y k h => by
  rw [hf] at h
  exact zRg2_tag h
theorem zt_sub {w : Nat} : ∀ x y k, zSub w σ x y k = true → (x.1 = w ∨ x.1 = w + 1) ∧ (y.1 = w ∨ y.1 = w + 1) := fun x y k h => by
  unfold zSub at h
  rcases zCd h with ⟨c, h⟩ | ⟨-, h⟩
  · exact ⟨(zRg2_tag h).1, by
      rcases zOr c with c | c
      · exact Or.inl (zbe c)
      · exact Or.inr (zbe c)⟩
  · cases h
/-! the heap -/
theorem zMf {a f : Nat} (hf : f < 127) (i : Nat) : zM h (a * 128 + f) i = h.2.2.2 a f := by
  unfold zM
  rw [show (a * 128 + f) / 128 = a by omega, if_neg (by omega), show (a * 128 + f) % 128 = f by omega]
theorem zMa' {a : Nat} (i : Nat) : zM h (a * 128 + 127) i = h.2.2.2 a i := by
  unfold zM
  rw [show (a * 128 + 127) / 128 = a by omega, if_pos (by omega)]
theorem zPlf {a f : Nat} (hf : f < 127) (ha : a < h.1) (ha2 : a < 700) (hk : (h.2.2.1 a).1 < 100) : zPl h (a * 128 + f) := by
  unfold zPl
  rw [show (a * 128 + f) / 128 = a by omega, if_neg (by omega)]
  exact ⟨ha, by omega, hk⟩
theorem zPla {a : Nat} (ha : a < h.1) (ha2 : a < 700) (hk : 100 ≤ (h.2.2.1 a).1) : zPl h (a * 128 + 127) := by
  unfold zPl
  rw [show (a * 128 + 127) / 128 = a by omega, if_pos (by omega)]
  exact ⟨ha, by omega, hk⟩
theorem zPl_lt {p : Nat} (hp : zPl h p) : p ≠ 11520001 ∧ p ≠ 11520002 := by
  obtain ⟨-, h2, -⟩ := hp
  exact ⟨by omega, by omega⟩
theorem zGe_pl {e : zE} (hp : zPl h e.1) : zGe X ρ n h e ↔ ∀ i, e.2.1 ≤ i → i < e.2.2.1 → (e.1 % 128 ≠ 127 → i = 0) → zN ρ n 0 e.2.2.2 (zM h e.1 i).toInt := by
  unfold zGe
  obtain ⟨h1, h2⟩ := zPl_lt hp
  rw [if_neg h1, if_neg h2]
  exact ⟨fun q => q.2, fun q => ⟨hp, q⟩⟩
theorem zGe_at {e : zE} (k : zGe X ρ n h e) (h1 : e.1 ≠ 11520001) (h2 : e.1 ≠ 11520002) : zPl h e.1 := by
  unfold zGe at k
  rw [if_neg h1, if_neg h2] at k
  exact k.1
theorem zGet_s {p j j' : Nat} {d : zV} (hE : ∀ e ∈ E, zGe X ρ n h e) (hp : zPl h p) (hd : ∀ i, j ≤ i → i < j' → (p % 128 ≠ 127 → i = 0) → zN ρ n 0 d (zM h p i).toInt) : ∀ i, j ≤ i → i < j' → (p % 128 ≠ 127 → i = 0) → zN ρ n 0 (zGet E p j j' d) (zM h p i).toInt := by
  induction E with
  | nil => exact hd
  | cons e r ih =>
    unfold zGet
    cases c : (Nat.beq e.1 p && (Nat.ble e.2.1 j && Nat.ble j' e.2.2.1))
    · exact ih (fun e he => hE e (List.mem_cons_of_mem _ he))
    · obtain ⟨c1, c2⟩ := zAnd c
      obtain ⟨c2, c3⟩ := zAnd c2
      have c1 := zbe c1
      have c2 := zbl c2
      have c3 := zbl c3
      have he := hE e List.mem_cons_self
      intro i h1 h2 h3
      have := (zGe_pl (e := e) (by rw [c1]; exact hp)).mp he i (by omega) (by omega) (by rw [c1]; exact h3)
      rw [c1] at this
      exact this
theorem zIr_s {p i : Nat} (hI : zGI P h) (hp : zPl h p) (hi : p % 128 = 127 → i < (h.2.2.1 (p / 128)).2.1) : zN ρ n 0 (zIr P p) (zM h p i).toInt := by
  obtain ⟨h1, h2⟩ := hI p i hp hi
  exact znZ h1 h2
theorem zRd_s {p : Nat} {kk : Nat → zS → List zE → zV → Bool} (hg : zGa X P G pS h0 ρ0 ρ n σ K E h) (hp : zPl h p) (hf : p % 128 ≠ 127) (hk : zRd P n σ E p kk = true) :
    ∃ n' σ' E' ρ' v, kk n' σ' E' v = true ∧ n ≤ n' ∧ (∀ i, i < n → ρ' i = ρ i) ∧ zGa X P G pS h0 ρ0 ρ' n' σ' K E' h ∧ zN ρ' n' 0 v (zM h p 0).toInt := by
  unfold zRd at hk
  have hv := zGet_s (X := X) (E := E) (j := 0) (j' := 1) (d := zIr P p) hg.2.2.1 hp (fun i _ _ _ => zIr_s hg.2.2.2.1 hp (fun q => absurd q hf)) 0 (Nat.le_refl _) (by omega) (fun _ => rfl)
  generalize zGet E p 0 1 (zIr P p) = v at hk hv
  unfold zRdV at hk
  rcases zCd hk with ⟨c, hk⟩ | ⟨c, hk⟩
  · have c := zbe c
    rcases hv with ⟨e, -⟩ | ⟨-, h1, h2⟩
    · omega
    · have g2 := hg.new h1 h2
      refine ⟨_, _, _, _, _, hk, Nat.le_succ n, fun i hi => if_neg (by omega), ⟨g2.1, g2.2.1, fun e he => ?_, g2.2.2.2⟩, zN_new⟩
      rcases List.mem_cons.mp he with rfl | he
      · refine (zGe_pl hp).mpr (fun i q1 q2 q3 => ?_)
        rw [q3 hf]
        exact zN_new
      · exact g2.2.2.1 e he
  · exact ⟨n, σ, E, ρ, v, hk, Nat.le_refl n, fun _ _ => rfl, hg, hv⟩
/-- numbers are written -/
theorem zGa.wr {M' : Nat → Nat → Int32} (hV : zVal P) (hG : zHG P G) (hg : zGa X P G pS h0 ρ0 ρ n σ K E h) (hE : ∀ e ∈ E', zGe X ρ n (h.1, h.2.1, h.2.2.1, M') e) (hI : zGI P (h.1, h.2.1, h.2.2.1, M')) (ho : zOff P.wm h.2.2.1 h.2.2.2 M') (hkp : zKp P h.2.2.1 h.2.2.2 M') : zGa X P G pS h0 ρ0 ρ n σ K E' (h.1, h.2.1, h.2.2.1, M') := by
  obtain ⟨g1, g2, g3, g4, g5, g6⟩ := hg
  refine ⟨g1, g2, hE, hI, fun al => ?_, g6⟩
  obtain ⟨q1, q2, q3, q4, q5⟩ := g5 al
  have hb : ∀ p, zBit P.md p = false → zBit P.wm p = false := fun p hp => by
    cases hw : zBit P.wm p
    · rfl
    · rw [hV.2.2.2.1 p hw] at hp
      cases hp
  refine ⟨hG h M' al ho hkp q1, fun a => ⟨fun h1 f hf hm => ?_, fun h1 hm => ?_⟩, q3, q4, q5⟩
  · exact ((ho a).1 h1 f hf (hb _ hm)).trans ((q2 a).1 h1 f hf hm)
  · exact ((ho a).2 h1 (hb _ hm)).trans ((q2 a).2 h1 hm)
theorem zTrim_s {p j j' : Nat} {M' : Nat → Nat → Int32} (hE : ∀ e ∈ E, zGe X ρ n h e) (hs : ∀ q i, zPl h q → (q = p → (i < j ∨ j' ≤ i)) → (q % 128 ≠ 127 → i = 0) → zM (h.1, h.2.1, h.2.2.1, M') q i = zM h q i) : ∀ e ∈ zTrim E p j j', zGe X ρ n (h.1, h.2.1, h.2.2.1, M') e := by
  have keep : ∀ e : zE, zGe X ρ n h e → ∀ f t, e.2.1 ≤ f → t ≤ e.2.2.1 → (e.1 = p → ∀ i, f ≤ i → i < t → (i < j ∨ j' ≤ i)) → zGe X ρ n (h.1, h.2.1, h.2.2.1, M') (e.1, f, t, e.2.2.2) := by
    intro e he f t hf ht hov
    by_cases c1 : e.1 = 11520001
    · unfold zGe at he ⊢
      rw [if_pos c1] at he ⊢
      exact ⟨he.1, fun i h1 h2 => he.2 i (by have h1 : f ≤ i := h1; omega) (by have h2 : i < t := h2; omega)⟩
    · by_cases c2 : e.1 = 11520002
      · unfold zGe at he ⊢
        rw [if_neg c1, if_pos c2] at he ⊢
        exact he
      · have hp := zGe_at he c1 c2
        have hp' : zPl (h.1, h.2.1, h.2.2.1, M') e.1 := hp
        refine (zGe_pl (e := (e.1, f, t, e.2.2.2)) hp').mpr (fun i h1 h2 h3 => ?_)
        have h1 : f ≤ i := h1
        have h2 : i < t := h2
        show zN ρ n 0 e.2.2.2 (zM (h.1, h.2.1, h.2.2.1, M') e.1 i).toInt
        rw [hs e.1 i hp (fun q => hov q i h1 h2) h3]
        exact (zGe_pl hp).mp he i (by omega) (by omega) h3
  induction E with
  | nil => intro e he; cases he
  | cons a r ih =>
    intro e he
    have iha := ih (fun e he => hE e (List.mem_cons_of_mem _ he))
    have ha := hE a List.mem_cons_self
    unfold zTrim at he
    cases c : zHit a p j j'
    · rw [c] at he
      rcases List.mem_cons.mp he with rfl | he
      · have k := keep e ha e.2.1 e.2.2.1 (Nat.le_refl _) (Nat.le_refl _) (fun q i h1 h2 => by
          unfold zHit at c
          rcases zAndF c with c | c
          · exact absurd q (zbn c)
          · rcases zAndF c with c | c
            · have := zbtF c
              omega
            · have := zbtF c
              omega)
        exact k
      · exact iha e he
    · rw [c] at he
      have he : e ∈ zCut a j j' (zTrim r p j j') := he
      unfold zCut at he
      cases c2 : Nat.beq a.2.1 j
      · rw [c2] at he
        rcases List.mem_cons.mp he with rfl | he
        · refine keep a ha a.2.1 j (Nat.le_refl _) ?_ (fun q i h1 h2 => Or.inl h2)
          unfold zHit at c
          have := zbt (zAnd (zAnd c).2).2
          omega
        · exact iha e he
      · rw [c2] at he
        have c2 := zbe c2
        cases c3 : Nat.ble a.2.2.1 j'
        · rw [c3] at he
          rcases List.mem_cons.mp he with rfl | he
          · refine keep a ha j' a.2.2.1 ?_ (Nat.le_refl _) (fun q i h1 h2 => Or.inr h1)
            unfold zHit at c
            have := zbt (zAnd (zAnd c).2).1
            omega
          · exact iha e he
        · rw [c3] at he
          exact iha e he
theorem zWeak_s {p j j' : Nat} {lo hi : Int} {M' : Nat → Nat → Int32} (hE : ∀ e ∈ E, zGe X ρ n h e) (hs : ∀ q i, zPl h q → (q % 128 ≠ 127 → i = 0) → zM (h.1, h.2.1, h.2.2.1, M') q i = zM h q i ∨ (q = p ∧ lo ≤ (zM (h.1, h.2.1, h.2.2.1, M') q i).toInt ∧ (zM (h.1, h.2.1, h.2.2.1, M') q i).toInt ≤ hi ∧ j ≤ i ∧ i < j')) : ∀ e ∈ zWeak lo hi E p j j', zGe X ρ n (h.1, h.2.1, h.2.2.1, M') e := by
  induction E with
  | nil => intro e he; cases he
  | cons a r ih =>
    intro e he
    have iha := ih (fun e he => hE e (List.mem_cons_of_mem _ he))
    have ha := hE a List.mem_cons_self
    unfold zWeak at he
    cases c : (zHit a p j j' && (bif zHolds lo hi a.2.2.2 then false else true))
    · rw [c] at he
      rcases List.mem_cons.mp he with rfl | he
      · by_cases c1 : e.1 = 11520001
        · unfold zGe at ha ⊢
          rw [if_pos c1] at ha ⊢
          exact ha
        · by_cases c2 : e.1 = 11520002
          · unfold zGe at ha ⊢
            rw [if_neg c1, if_pos c2] at ha ⊢
            exact ha
          · have hp := zGe_at ha c1 c2
            have hp' : zPl (h.1, h.2.1, h.2.2.1, M') e.1 := hp
            refine (zGe_pl hp').mpr (fun i h1 h2 h3 => ?_)
            have hb := (zGe_pl hp).mp ha i h1 h2 h3
            rcases hs e.1 i hp h3 with q | ⟨q, l1, l2, l3, l4⟩
            · rw [q]
              exact hb
            · rcases zAndF c with c | c
              · unfold zHit at c
                rcases zAndF c with c | c
                · exact absurd q (zbn c)
                · rcases zAndF c with c | c
                  · have := zbtF c
                    omega
                  · have := zbtF c
                    omega
              · cases c3 : zHolds lo hi e.2.2.2
                · rw [c3] at c
                  cases c
                · unfold zHolds at c3
                  rcases zCd c3 with ⟨c4, c5⟩ | ⟨-, c5⟩
                  · obtain ⟨c5, c6⟩ := zAnd c5
                    have := zl c5
                    have := zl c6
                    exact Or.inr ⟨zbe c4, by omega, by omega⟩
                  · obtain ⟨c4, c5⟩ := zAnd c5
                    obtain ⟨c5, c6⟩ := zAnd c5
                    obtain ⟨c6, c7⟩ := zAnd c6
                    have c5 := ze c5
                    have c6 := ze c6
                    have c7 := ze c7
                    refine Or.inl ⟨zbe c4, Or.inl (by rw [c5]; rfl), ?_⟩
                    rw [c5, z0_eq]
                    omega
      · exact iha e he
    · rw [c] at he
      exact iha e he
/-- a number is written to a field, to an array -/
theorem zGI_put {a j : Nat} {x : Int32} (hI : zGI P h) (ha : (h.2.2.1 a).1 < 100 → (P.zI (a * 128 + j)).1 ≤ x.toInt ∧ x.toInt ≤ (P.zI (a * 128 + j)).2) (hb : 100 ≤ (h.2.2.1 a).1 → (P.zI (a * 128 + 127)).1 ≤ x.toInt ∧ x.toInt ≤ (P.zI (a * 128 + 127)).2) : zGI P (h.1, h.2.1, h.2.2.1, aPut h.2.2.2 a j x) := by
  intro p i hp hi
  have h0 := hI p i hp hi
  by_cases q : p / 128 = a ∧ (if p % 128 = 127 then i else p % 128) = j
  · obtain ⟨q1, q2⟩ := q
    have e : zM (h.1, h.2.1, h.2.2.1, aPut h.2.2.2 a j x) p i = x := by
      unfold zM aPut
      dsimp only
      rw [if_pos q1, if_pos q2]
    rw [e]
    obtain ⟨-, -, hp3⟩ := hp
    by_cases c : p % 128 = 127
    · rw [if_pos c, q1] at hp3
      have := hb hp3
      rwa [show a * 128 + 127 = p by omega] at this
    · rw [if_neg c, q1] at hp3
      rw [if_neg c] at q2
      have := ha hp3
      rwa [show a * 128 + j = p by omega] at this
  · have e : zM (h.1, h.2.1, h.2.2.1, aPut h.2.2.2 a j x) p i = zM h p i := by
      unfold zM aPut
      dsimp only
      by_cases q1 : p / 128 = a
      · rw [if_pos q1, if_neg (fun z => q ⟨q1, z⟩)]
      · rw [if_neg q1]
    rw [e]
    exact h0
theorem zM_put {a j : Nat} {x : Int32} {p i : Nat} (hne : ¬ (p / 128 = a ∧ (if p % 128 = 127 then i else p % 128) = j)) : zM (h.1, h.2.1, h.2.2.1, aPut h.2.2.2 a j x) p i = zM h p i := by
  unfold zM aPut
  dsimp only
  by_cases q1 : p / 128 = a
  · rw [if_pos q1, if_neg (fun z => hne ⟨q1, z⟩)]
  · rw [if_neg q1]
theorem zOff_putf {m a f : Nat} {x : Int32} (hk : (h.2.2.1 a).1 < 100) (hb : zBit m (a * 128 + f) = true) : zOff m h.2.2.1 h.2.2.2 (aPut h.2.2.2 a f x) := by
  intro b
  refine ⟨fun h1 g hg hm => ?_, fun h1 hm => ?_⟩
  · unfold aPut
    by_cases e : b = a
    · rw [if_pos e]
      by_cases e2 : g = f
      · rw [e, e2, hb] at hm
        cases hm
      · rw [if_neg e2]
    · rw [if_neg e]
  · funext i
    unfold aPut
    by_cases e : b = a
    · rw [e] at h1
      omega
    · rw [if_neg e]
theorem zKp_putf {P : zP} {a f : Nat} {x : Int32} (hk : (h.2.2.1 a).1 < 100) : zKp P h.2.2.1 h.2.2.2 (aPut h.2.2.2 a f x) := by
  intro b i h1 _
  unfold aPut
  have e : b ≠ a := fun z => by rw [z] at h1; omega
  rw [if_neg e]
theorem zKp_puta {P : zP} {a j : Nat} {x : Int32} (hj : zLo P (a * 128 + 127) ≤ j) : zKp P h.2.2.1 h.2.2.2 (aPut h.2.2.2 a j x) := by
  intro b i h1 h2
  unfold aPut
  by_cases e : b = a
  · rw [if_pos e, if_neg (by rw [e] at h2; omega)]
  · rw [if_neg e]
theorem zLoM_s {P : zP} {a j b : Nat} (h : zLoM P a j = true) (hb : b ∈ P.ps a) : zLo P (b * 128 + 127) ≤ j := by
  unfold zLoM at h
  have key : ∀ l : List Nat, zAll (fun b => Nat.ble (zLo P (b * 128 + 127)) j) l = true → ∀ b ∈ l, zLo P (b * 128 + 127) ≤ j := by
    intro l
    induction l with
    | nil => intro _ b hb; cases hb
    | cons x r ih =>
      intro h b hb
      unfold zAll at h
      obtain ⟨h1, h2⟩ := zAnd h
      rcases List.mem_cons.mp hb with rfl | hb
      · exact zbl h1
      · exact ih h2 b hb
  exact key _ h b hb
theorem zOff_puta {m a j : Nat} {x : Int32} (hk : 100 ≤ (h.2.2.1 a).1) (hb : zBit m (a * 128 + 127) = true) : zOff m h.2.2.1 h.2.2.2 (aPut h.2.2.2 a j x) := by
  intro b
  refine ⟨fun h1 g hg hm => ?_, fun h1 hm => ?_⟩
  · unfold aPut
    by_cases e : b = a
    · rw [e] at h1
      omega
    · rw [if_neg e]
  · funext i
    unfold aPut
    by_cases e : b = a
    · rw [e, hb] at hm
      cases hm
    · rw [if_neg e]
end ZPA
