/-! arrays -/
section ZARR
variable {X : aX} {P : zP} {G : aH → Prop} {pS : Nat} {h0 h h' : aH} {ρ0 ρ ρ' : Nat → Int} {n n' : Nat} {σ : zS} {K : zK} {E E' : List zE} {v : zV} {u : Value} {ls st : List zV} {lsC stC : List Value}
  {k : Nat → zS → zK → List zE → List zV → List zV → Bool} {C : List Value → List Value → aH → Prop}
theorem zIn_s {j : zV} {l : Nat} {kk : Int → Int → Bool} (hs : zSok ρ n σ) (hu : zG P ρ n j u) (h : zIn σ j l kk = true) : ∃ (x : Int32) (lo hi : Int), u = .int x ∧ lo ≤ x.toInt ∧ x.toInt ≤ hi ∧ 0 ≤ lo ∧ hi < l ∧ kk lo hi = true ∧ aInR x l = true ∧ (x.toNatClampNeg : Int) = x.toInt ∧ zN ρ n 0 j x.toInt := by
  unfold zIn at h
  obtain ⟨x, rfl, hx⟩ := zG_rgi hu h
  obtain ⟨lo, hi, h1, h2, h⟩ := zRg_s hs hx h
  rcases zCd h with ⟨c, h⟩ | ⟨-, h⟩
  · obtain ⟨c1, c2⟩ := zAnd c
    have c1 := zl c1
    have c2 := zl c2
    rw [z0_eq] at c1
    rw [z1_eq] at c2
    have e : Int.ofNat l = (l : Int) := rfl
    rw [e] at c2
    refine ⟨x, lo, hi, rfl, h1, h2, c1, by omega, h, decide_eq_true ⟨by omega, by omega⟩, ?_, hx⟩
    show ((x.toInt.toNat : Nat) : Int) = x.toInt
    omega
  · cases h
theorem zClamp {x : Int32} {lo hi : Int} (h1 : lo ≤ x.toInt) (h2 : x.toInt ≤ hi) (h3 : 0 ≤ lo) (h4 : (x.toNatClampNeg : Int) = x.toInt) : lo.toNat ≤ x.toNatClampNeg ∧ x.toNatClampNeg < hi.toNat + 1 := by omega
/-- a number of an array is read -/
theorem zIldA_s {kd a : Nat} {j : zV} {r : List zV} {q : List Value} {ra : Nat} (hV : zVal P) (hkd : kd = 100 ∨ kd = 101) (hg : zGa X P G pS h0 ρ0 ρ n σ K E h) (hl : zGl P ρ n ls lsC) (hs : zGl P ρ n r q) (hc : zGc P a ra) (hu : zG P ρ n j u) (hk : zIldA P kd a j n σ K E ls r k = true)
    (hC : ∀ x : Int32, u = .int x → ra < h.1 → (h.2.2.1 ra).1 = kd → aInR x (h.2.2.1 ra).2.1 = true → C lsC (.int (h.2.2.2 ra x.toNatClampNeg) :: q) h) : zNext X P G pS h0 ρ0 ρ n h k C := by
  unfold zIldA at hk
  rcases zCd hk with ⟨c1, hk⟩ | ⟨-, hk⟩
  · have c1 := zbe c1
    obtain ⟨b1, b2, b3, b4, b5, b6⟩ := hg.2.1.2.2 a ra hc (by omega)
    have b4 := b4 (by omega)
    obtain ⟨x, lo, hi, rfl, x1, x2, x3, x4, hk, x5, x6, x7⟩ := zIn_s hg.1 hu hk
    rw [← b4] at x5
    have hC := hC x rfl b1 (b3.trans c1) x5
    have hp : zPl h (ra * 128 + 127) := zPla b1 b2 (by omega)
    obtain ⟨cl1, cl2⟩ := zClamp x1 x2 x3 x6
    have hb : ∀ i, i < (h.2.2.1 ra).2.1 → zN ρ n 0 (zIr P (a * 128 + 127)) (h.2.2.2 ra i).toInt := fun i hi => by
      have := zIr_c (ρ := ρ) (n := n) (f := 127) (i := i) hV hg.2.2.2.1 hc b2 (by omega) hp (fun _ => hi)
      rwa [zMa'] at this
    have hlen : x.toNatClampNeg < (h.2.2.1 ra).2.1 := by omega
    have hval : zN ρ n 0 (zIldG P a E lo hi) (h.2.2.2 ra x.toNatClampNeg).toInt := by
      unfold zIldG
      cases c2 : Nat.blt a 700
      · exact hb _ hlen
      · have c2 := zbt c2
        have e := zGc_ex hc c2
        show zN ρ n 0 (zIldV P (a * 128 + 127) lo hi (zGet E (a * 128 + 127) lo.toNat (hi.toNat + 1) (zIr P (a * 128 + 127)))) _
        have hv := zGet_s (X := X) (E := E) (j := lo.toNat) (j' := hi.toNat + 1) (d := zIr P (a * 128 + 127)) hg.2.2.1 hp (fun i q1 q2 _ => by
          rw [zMa']
          exact hb i (by omega)) x.toNatClampNeg cl1 cl2 (fun z => absurd (by omega) z)
        rw [zMa', e] at hv
        unfold zIldV
        cases c3 : (zeq lo hi || (Nat.beq (zGet E (a * 128 + 127) lo.toNat (hi.toNat + 1) (zIr P (a * 128 + 127))).1 1 || zeq (zGet E (a * 128 + 127) lo.toNat (hi.toNat + 1) (zIr P (a * 128 + 127))).2.2.1 z0))
        · exact hb _ hlen
        · rw [e]
          exact hv
    generalize zIldG P a E lo hi = v at hk hval
    unfold zIldN at hk
    rcases zCd hk with ⟨c5, hk⟩ | ⟨-, hk⟩
    · obtain ⟨c5, c6⟩ := zAnd c5
      obtain ⟨c6, c7⟩ := zAnd c6
      have c5 := zbt c5
      have c6 := ze c6
      have c7 := zbe c7
      have ea := zGc_ex hc c5
      rcases hval with ⟨e, -⟩ | ⟨-, h1, h2⟩
      · omega
      · have g2 := hg.new h1 h2
        have ex : lo.toNat = x.toNatClampNeg := by omega
        have g3 : zGa X P G pS h0 ρ0 (fun i => if i = n then (h.2.2.2 ra x.toNatClampNeg).toInt else ρ i) (n + 1) ((n, v.2.1, v.2.2.1) :: σ) K ((a * 128 + 127, lo.toNat, lo.toNat + 1, zsy n) :: E) h := by
          refine ⟨g2.1, g2.2.1, fun e he => ?_, g2.2.2.2⟩
          rcases List.mem_cons.mp he with rfl | he
          · rw [← ea]
            refine (zGe_pl (e := (ra * 128 + 127, lo.toNat, lo.toNat + 1, zsy n)) hp).mpr (fun i q1 q2 _ => ?_)
            have q1 : lo.toNat ≤ i := q1
            have q2 : i < lo.toNat + 1 := q2
            have ei : i = x.toNatClampNeg := by omega
            show zN _ _ 0 (zsy n) (zM h (ra * 128 + 127) i).toInt
            rw [ei, zMa']
            exact zN_new
          · exact g2.2.2.1 e he
        have hr : ∀ i, i < n → (fun i => if i = n then (h.2.2.2 ra x.toNatClampNeg).toInt else ρ i) i = ρ i := fun i hi => if_neg (by omega)
        exact zNy (stC := .int (h.2.2.2 ra x.toNatClampNeg) :: q) hk (Nat.le_succ n) hr g3 (hl.mono (Nat.le_succ n) hr) ⟨zGi zN_new, hs.mono (Nat.le_succ n) hr⟩ (Nat.le_refl _) hC
    · exact zNx (stC := .int (h.2.2.2 ra x.toNatClampNeg) :: q) hk hg hl ⟨zGi hval, hs⟩ hC
  · cases hk
theorem zScr_s {j : zV} {kk : Nat → zS → List zE → zV → Bool} (hg : zGa X P G pS h0 ρ0 ρ n σ K E h) (hu : zG P ρ n j u) (hk : zScr n σ E j kk = true) :
    ∃ x : Int32, u = .int x ∧ aInR x X.1 = true ∧ ∃ n' σ' E' ρ' v, kk n' σ' E' v = true ∧ n ≤ n' ∧ (∀ i, i < n → ρ' i = ρ i) ∧ zGa X P G pS h0 ρ0 ρ' n' σ' K E' h ∧ zN ρ' n' 0 v (X.2 x.toNatClampNeg).toInt := by
  unfold zScr at hk
  rcases zCd hk with ⟨c, hk⟩ | ⟨-, hk⟩
  · obtain ⟨c1, c2⟩ := zAnd c
    obtain ⟨c1, c3⟩ := zAnd c1
    obtain ⟨c2, c4⟩ := zAnd c2
    have c1 := zbe c1
    have c2 := ze c2
    have c3 := zl c3
    have c4 := zbe c4
    rw [z0_eq] at c3
    obtain ⟨x, rfl, hx⟩ := zG_rgi hu hk
    obtain ⟨lo, hi, x1, x2, hk⟩ := zRg_s hg.1 hx hk
    rcases zCd hk with ⟨c5, hk⟩ | ⟨-, hk⟩
    · have c5 := zl c5
      rw [z0_eq] at c5
      have hx2 : x.toInt = j.2.1 + ρ 0 := by
        rcases hx with ⟨-, -, e⟩ | ⟨e, -⟩
        · rw [e, c2, c4, z1_eq]
          omega
        · omega
      refine ⟨x, rfl, ?_⟩
      unfold zScrB at hk
      rcases zCd hk with ⟨d, hk⟩ | ⟨-, hk⟩
      · obtain ⟨d1, d2⟩ := zAnd d
        obtain ⟨d2, d3⟩ := zAnd d2
        have d1 := zbe d1
        have d2 := ze d2
        have d3 := zl d3
        rw [z1_eq] at d3
        -- what is told of the script
        have get : ∀ (E : List zE) (p j j' : Nat), (zGet E p j j' (8, z0, z0, 0)).1 ≠ 8 → ∃ e ∈ E, e.1 = p ∧ e.2.1 ≤ j ∧ j' ≤ e.2.2.1 ∧ zGet E p j j' (8, z0, z0, 0) = e.2.2.2 := by
          intro E p j j'
          induction E with
          | nil => intro q; exact absurd rfl q
          | cons e r ih =>
            intro q
            unfold zGet at q ⊢
            cases c : (Nat.beq e.1 p && (Nat.ble e.2.1 j && Nat.ble j' e.2.2.1))
            · rw [c] at q
              obtain ⟨e', h1, h2⟩ := ih q
              exact ⟨e', List.mem_cons_of_mem _ h1, h2⟩
            · obtain ⟨q1, q2⟩ := zAnd c
              obtain ⟨q2, q3⟩ := zAnd q2
              exact ⟨e, List.mem_cons_self, zbe q1, zbl q2, zbl q3, rfl⟩
        obtain ⟨e, he, e1, -, -, e2⟩ := get E 11520002 0 1 (by omega)
        have hL := hg.2.2.1 e he
        unfold zGe at hL
        rw [if_neg (by omega), if_pos e1] at hL
        obtain ⟨hn0, hL⟩ := hL
        rw [← e2] at hL
        have hL := hL d1 (d2.trans z0_eq)
        have hin : aInR x X.1 = true := decide_eq_true ⟨by omega, by omega⟩
        have hcl : (ρ 0 + ((j.2.1.toNat : Nat) : Int)).toNat = x.toNatClampNeg := by
          show _ = x.toInt.toNat
          omega
        refine ⟨hin, ?_⟩
        unfold zScrV at hk
        rcases zCd hk with ⟨d4, hk⟩ | ⟨d4, hk⟩
        · have g2 := hg.new (zI32_rg (X.2 x.toNatClampNeg)).1 (zI32_rg (X.2 x.toNatClampNeg)).2
          refine ⟨_, _, _, _, _, hk, Nat.le_succ n, fun i hi => if_neg (by omega), ⟨g2.1, g2.2.1, fun e he => ?_, g2.2.2.2⟩, zN_new⟩
          rcases List.mem_cons.mp he with rfl | he
          · unfold zGe
            rw [if_pos rfl]
            refine ⟨Nat.succ_pos n, fun i q1 q2 => ?_⟩
            have q1 : j.2.1.toNat ≤ i := q1
            have q2 : i < j.2.1.toNat + 1 := q2
            have ei : i = j.2.1.toNat := by omega
            rw [ei]
            dsimp only
            rw [if_neg (show ¬ 0 = n by omega), hcl]
            exact zN_new
          · exact g2.2.2.1 e he
        · have d4 := zbn d4
          obtain ⟨e3, he3, f1, f2, f3, f4⟩ := get E 11520001 j.2.1.toNat (j.2.1.toNat + 1) d4
          have hv := hg.2.2.1 e3 he3
          unfold zGe at hv
          rw [if_pos f1] at hv
          have hv := hv.2 j.2.1.toNat f2 (by omega)
          rw [← f4, hcl] at hv
          exact ⟨n, σ, E, ρ, _, hk, Nat.le_refl n, fun _ _ => rfl, hg, hv⟩
      · cases hk
    · cases hk
  · cases hk
theorem zS_ild {kd : Nat} (hV : zVal P) (hkd : kd = 100 ∨ kd = 101) (hk : zIld P kd n σ K E ls st k = true) (hg : zGa X P G pS h0 ρ0 ρ n σ K E h) (hl : zGl P ρ n ls lsC) (hs : zGl P ρ n st stC)
    (hC : ∀ (x : Int32) (a : Nat) q, stC = .int x :: .ref a :: q → a ≠ 90000 → a < h.1 → (h.2.2.1 a).1 = kd → aInR x (h.2.2.1 a).2.1 = true → C lsC (.int (h.2.2.2 a x.toNatClampNeg) :: q) h)
    (hX : ∀ (x : Int32) q, stC = .int x :: .ref 90000 :: q → kd = 100 → aInR x X.1 = true → C lsC (.int (X.2 x.toNatClampNeg) :: q) h) : zNext X P G pS h0 ρ0 ρ n h k C := by
  match st, hk, hs with
  | [], hk, _ => cases hk
  | [_], hk, _ => cases hk
  | j :: w :: r, hk, hs =>
    obtain ⟨u, q0, rfl, h1, hs0⟩ := zGl_cons hs
    obtain ⟨u2, q, rfl, h2, hs1⟩ := zGl_cons hs0
    have hk : zRef w (fun a => (bif Nat.beq a 90000 then zIldS else zIldA) P kd a j n σ K E ls r k) = true := hk
    obtain ⟨a, rfl, hca, hk⟩ := zRef_s h2 hk
    cases c : Nat.beq w.2.2.2 90000
    · rw [c] at hk
      have c := zbn c
      refine zIldA_s hV hkd hg hl hs1 hca h1 hk (fun x e b1 b3 b5 => ?_)
      subst e
      refine hC x a q rfl (fun z => ?_) b1 b3 b5
      rcases hca with ⟨p1, p2⟩ | ⟨p1, p2, p3⟩ | ⟨p1, p2⟩
      · rw [p2] at z; omega
      · have := (hV.2.1 _ _ 0 p1 p2 p3 (by omega)).1
        rw [z] at this
        omega
      · exact c (p2 ▸ z)
    · rw [c] at hk
      have c := zbe c
      have ea : a = 90000 := by
        rcases hca with ⟨p1, p2⟩ | ⟨p1, p2, p3⟩ | ⟨p1, p2⟩
        · omega
        · omega
        · exact p2.trans c
      subst ea
      have hk : zIldS P kd w.2.2.2 j n σ K E ls r k = true := hk
      unfold zIldS at hk
      rcases zCd hk with ⟨c2, hk⟩ | ⟨-, hk⟩
      · obtain ⟨x, rfl, hin, n', σ', E', ρ', v, hk, l1, r1, g1, u1⟩ := zScr_s hg h1 hk
        exact zNy (stC := .int (X.2 x.toNatClampNeg) :: q) hk l1 r1 g1 (hl.mono l1 r1) ⟨zGi u1, hs1.mono l1 r1⟩ (Nat.le_refl _) (hX x q rfl (zbe c2) hin)
      · cases hk
theorem zS_ist {kd : Nat} (hV : zVal P) (hG : zHG P G) (hkd : kd = 100 ∨ kd = 101) (hk : zIst P kd n σ K E ls st k = true) (hg : zGa X P G pS h0 ρ0 ρ n σ K E h) (hl : zGl P ρ n ls lsC) (hs : zGl P ρ n st stC)
    (hC : ∀ (y x : Int32) (a : Nat) q, stC = .int y :: .int x :: .ref a :: q → a < h.1 → (h.2.2.1 a).1 = kd → aInR x (h.2.2.1 a).2.1 = true → (kd = 100 ∨ y = 0 ∨ y = 1) → C lsC q (h.1, h.2.1, h.2.2.1, aPut h.2.2.2 a x.toNatClampNeg y)) : zNext X P G pS h0 ρ0 ρ n h k C := by
  match st, hk, hs with
  | [], hk, _ => cases hk
  | [_], hk, _ => cases hk
  | [_, _], hk, _ => cases hk
  | v :: j :: w :: r, hk, hs =>
    obtain ⟨u3, q3, rfl, h3, hs3⟩ := zGl_cons hs
    obtain ⟨u, q0, rfl, h1, hs0⟩ := zGl_cons hs3
    obtain ⟨u2, q, rfl, h2, hs1⟩ := zGl_cons hs0
    have hk : zRef w (fun a => zIstV P kd a v j n σ K E ls r k) = true := hk
    obtain ⟨a, rfl, hca, hk⟩ := zRef_s h2 hk
    unfold zIstV at hk
    rcases zCd hk with ⟨c1, hk⟩ | ⟨-, hk⟩
    · have c1 := zbe c1
      obtain ⟨b1, b2, b3, b4, b5, b6⟩ := hg.2.1.2.2 w.2.2.2 a hca (by omega)
      have b4 := b4 (by omega)
      obtain ⟨x, lo, hi, rfl, x1, x2, x3, x4, hk, x5, x6, x7⟩ := zIn_s hg.1 h1 hk
      rw [← b4] at x5
      obtain ⟨y, rfl, hy⟩ := zG_rgi h3 hk
      obtain ⟨vl, vh, y1, y2, hk⟩ := zRg_s hg.1 hy hk
      unfold zIstN at hk
      rcases zCd hk with ⟨c2, hk⟩ | ⟨-, hk⟩
      · have hy01 : kd = 100 ∨ y = 0 ∨ y = 1 := by
          rcases zOr c2 with c2 | c2
          · exact Or.inl (zbe c2)
          · obtain ⟨d1, d2⟩ := zAnd c2
            have d1 := zl d1
            have d2 := zl d2
            rw [z0_eq] at d1
            rw [z1_eq] at d2
            exact Or.inr (z01 (by omega) (by omega))
        have hkd2 : (h.2.2.1 a).1 = kd := b3.trans c1
        have hC := hC y x a q rfl b1 hkd2 x5 hy01
        have h100 : 100 ≤ (h.2.2.1 a).1 := by omega
        have hp : zPl h (a * 128 + 127) := zPla b1 b2 h100
        obtain ⟨cl1, cl2⟩ := zClamp x1 x2 x3 x6
        have hm : ∀ p i, zPl h p → ¬ (p = a * 128 + 127 ∧ i = x.toNatClampNeg) → zM (h.1, h.2.1, h.2.2.1, aPut h.2.2.2 a x.toNatClampNeg y) p i = zM h p i := by
          intro p i hp2 hne
          refine zM_put (fun z => ?_)
          obtain ⟨z1, z2⟩ := z
          obtain ⟨-, -, hp3⟩ := hp2
          by_cases c7 : p % 128 = 127
          · rw [if_pos c7] at z2
            exact hne ⟨zPl_dm z1 c7, z2⟩
          · rw [if_neg c7, z1] at hp3
            omega
        have hmy : zM (h.1, h.2.1, h.2.2.1, aPut h.2.2.2 a x.toNatClampNeg y) (a * 128 + 127) x.toNatClampNeg = y := by
          rw [zMa']
          show aPut h.2.2.2 a x.toNatClampNeg y a x.toNatClampNeg = y
          unfold aPut
          rw [if_pos rfl, if_pos rfl]
        have weak : ∀ p i, zPl h p → (p % 128 ≠ 127 → i = 0) → zM (h.1, h.2.1, h.2.2.1, aPut h.2.2.2 a x.toNatClampNeg y) p i = zM h p i ∨ (p = a * 128 + 127 ∧ vl ≤ (zM (h.1, h.2.1, h.2.2.1, aPut h.2.2.2 a x.toNatClampNeg y) p i).toInt ∧ (zM (h.1, h.2.1, h.2.2.1, aPut h.2.2.2 a x.toNatClampNeg y) p i).toInt ≤ vh ∧ lo.toNat ≤ i ∧ i < hi.toNat + 1) := by
          intro p i hp2 _
          by_cases z : p = a * 128 + 127 ∧ i = x.toNatClampNeg
          · obtain ⟨z1, z2⟩ := z
            subst z1
            subst z2
            rw [hmy]
            exact Or.inr ⟨rfl, y1, y2, cl1, cl2⟩
          · exact Or.inl (hm p i hp2 z)
        have hI : ∀ lo' hi' : Int, lo' ≤ vl → vh ≤ hi' → (P.zI (a * 128 + 127)).1 ≤ lo' → hi' ≤ (P.zI (a * 128 + 127)).2 → zGI P (h.1, h.2.1, h.2.2.1, aPut h.2.2.2 a x.toNatClampNeg y) := fun lo' hi' l1 l2 l3 l4 => zGI_put hg.2.2.2.1 (fun z => by omega) (fun _ => ⟨by omega, by omega⟩)
        rcases zCd hk with ⟨c5, hk⟩ | ⟨c5, hk⟩
        · have c5 := zbt c5
          have ea := zGc_ex hca c5
          rw [← ea] at hk
          rcases zCd hk with ⟨c6, hk⟩ | ⟨-, hk⟩
          · obtain ⟨c6, c6b⟩ := zAnd c6
            obtain ⟨m1, m2, m3⟩ := zMay1_s c6
            have g' : zGa X P G pS h0 ρ0 ρ n σ K (zIstE P (a * 128 + 127) v E lo hi vl vh) (h.1, h.2.1, h.2.2.1, aPut h.2.2.2 a x.toNatClampNeg y) := by
              refine zGa.wr hV hG hg ?_ (hI _ _ (Int.le_refl _) (Int.le_refl _) m2 m3) (zOff_puta h100 m1) (zKp_puta (Nat.le_trans (zbl c6b) cl1))
              unfold zIstE
              cases c8 : zeq lo hi
              · exact zWeak_s hg.2.2.1 weak
              · have c8 := ze c8
                have ex : lo.toNat = x.toNatClampNeg := by omega
                intro e he
                rcases List.mem_cons.mp he with rfl | he
                · have hp' : zPl (h.1, h.2.1, h.2.2.1, aPut h.2.2.2 a x.toNatClampNeg y) (a * 128 + 127) := hp
                  refine (zGe_pl hp').mpr (fun i q1 q2 _ => ?_)
                  have q1 : lo.toNat ≤ i := q1
                  have q2 : i < lo.toNat + 1 := q2
                  have ei : i = x.toNatClampNeg := by omega
                  show zN ρ n 0 v (zM (h.1, h.2.1, h.2.2.1, aPut h.2.2.2 a x.toNatClampNeg y) (a * 128 + 127) i).toInt
                  rw [ei, hmy]
                  exact hy
                · exact zTrim_s hg.2.2.1 (fun p i hp2 hn _ => hm p i hp2 (fun z => by have := hn z.1; omega)) e he
            exact zNy hk (Nat.le_refl _) (fun _ _ => rfl) g' hl hs1 (Nat.le_refl _) hC
          · cases hk
        · rcases zCd hk with ⟨c6, hk⟩ | ⟨-, hk⟩
          · have c5 : ¬ w.2.2.2 < 700 := by have := zbtF c5; omega
            obtain ⟨p1, p2, p3⟩ := zGc_ps hca c5 b2
            obtain ⟨c6, c6b⟩ := zAnd c6
            obtain ⟨m1, m2, m3⟩ := zMay1_s (zMem_s c6 p3)
            have g' : zGa X P G pS h0 ρ0 ρ n σ K (zDropW vl vh 127 lo.toNat (hi.toNat + 1) (P.ps w.2.2.2) E) (h.1, h.2.1, h.2.2.1, aPut h.2.2.2 a x.toNatClampNeg y) :=
              zGa.wr hV hG hg (zDropW_s hg.2.2.1 p3 weak) (hI _ _ (Int.le_refl _) (Int.le_refl _) m2 m3) (zOff_puta h100 m1) (zKp_puta (Nat.le_trans (zLoM_s c6b p3) cl1))
            exact zNy hk (Nat.le_refl _) (fun _ _ => rfl) g' hl hs1 (Nat.le_refl _) hC
          · cases hk
      · cases hk
    · cases hk
theorem zEach_s {j : zV} {rs : List Nat} {kk : zS → Nat → Bool} {x : Int32} {m i : Nat} (hs : zSok ρ n σ) (hx : zN ρ n 0 j x.toInt) (h1 : (i : Int) ≤ x.toInt) (h2 : x.toInt < i + m) (hk : zEach σ j rs kk m i = true) : ∃ σ', zSok ρ n σ' ∧ kk σ' (zAt rs x.toNatClampNeg) = true ∧ zAt rs x.toNatClampNeg < 99999 := by
  induction m generalizing i with
  | zero => omega
  | succ m ih =>
    unfold zEach at hk
    obtain ⟨k1, k2⟩ := zAnd hk
    by_cases q : x.toInt = i
    · obtain ⟨σ', g, k1⟩ := zEq_s (Y := (i : Int)) hs hx (znC rfl) q k1
      rcases zCd k1 with ⟨c, k1⟩ | ⟨-, k1⟩
      · have e : x.toNatClampNeg = i := by
          show x.toInt.toNat = i
          omega
        rw [e]
        exact ⟨σ', g, k1, zbt c⟩
      · cases k1
    · exact ih (by omega) (by omega) k2
theorem zS_ald (hk : zAld P n σ K E ls st k = true) (hg : zGa X P G pS h0 ρ0 ρ n σ K E h) (hl : zGl P ρ n ls lsC) (hs : zGl P ρ n st stC)
    (hC : ∀ (x : Int32) (a : Nat) q, stC = .int x :: .ref a :: q → a < h.1 → 102 ≤ (h.2.2.1 a).1 ∧ (h.2.2.1 a).1 < 106 → aInR x (h.2.2.1 a).2.1 = true → C lsC (aRf ((h.2.2.1 a).2.2 x.toNatClampNeg) :: q) h) : zNext X P G pS h0 ρ0 ρ n h k C := by
  match st, hk, hs with
  | [], hk, _ => cases hk
  | [_], hk, _ => cases hk
  | j :: w :: r, hk, hs =>
    obtain ⟨u, q0, rfl, h1, hs0⟩ := zGl_cons hs
    obtain ⟨u2, q, rfl, h2, hs1⟩ := zGl_cons hs0
    have hk : zRef w (fun a => zAldC (zCe P K a) j n σ K E ls r k) = true := hk
    obtain ⟨a, rfl, hca, hk⟩ := zRef_s h2 hk
    unfold zAldC at hk
    rcases zCd hk with ⟨c1, hk⟩ | ⟨-, hk⟩
    · obtain ⟨c1, c2⟩ := zAnd c1
      have c1 := zbl c1
      have c2 := zbt c2
      obtain ⟨b1, b2, b3, b4, b5, b6⟩ := hg.2.1.2.2 w.2.2.2 a hca (by omega)
      have b4 := b4 (by omega)
      obtain ⟨x, lo, hi, rfl, x1, x2, x3, x4, hk, x5, x6, x7⟩ := zIn_s hg.1 h1 hk
      rw [← b4] at x5
      have hC := hC x a q rfl b1 ⟨by omega, by omega⟩ x5
      obtain ⟨cl1, cl2⟩ := zClamp x1 x2 x3 x6
      unfold zAldV at hk
      rcases zCd hk with ⟨c3, hk⟩ | ⟨-, hk⟩
      · have c3 := ze c3
        rcases zCd hk with ⟨c4, hk⟩ | ⟨-, hk⟩
        · have ex : lo.toNat = x.toNatClampNeg := by omega
          rw [ex] at c4 hk
          obtain ⟨r', e1, e2⟩ := b5 _ (zbt c4)
          rw [e1] at hC
          exact zNx (stC := .ref r' :: q) hk hg hl ⟨zGr e2, hs1⟩ hC
        · cases hk
      · rcases zCd hk with ⟨c4, hk⟩ | ⟨-, hk⟩
        · obtain ⟨r', e1, e2⟩ := b6 (zbl c4) x.toNatClampNeg (by omega)
          rw [e1] at hC
          exact zNx (stC := .ref r' :: q) hk hg hl ⟨zGr e2, hs1⟩ hC
        · rcases zCd hk with ⟨-, hk⟩ | ⟨-, hk⟩
          · obtain ⟨σ', g, hk, hlt⟩ := zEach_s hg.1 x7 (by omega) (by omega) hk
            obtain ⟨r', e1, e2⟩ := b5 _ hlt
            rw [e1] at hC
            exact zNx (stC := .ref r' :: q) hk (hg.sym g) hl ⟨zGr e2, hs1⟩ hC
          · cases hk
    · cases hk
theorem zS_ast (hV : zVal P) (hk : zAst P n σ K E ls st k = true) (hg : zGa X P G pS h0 ρ0 ρ n σ K E h) (hl : zGl P ρ n ls lsC) (hs : zGl P ρ n st stC)
    (hC : ∀ (r : Nat) (x : Int32) (a : Nat) q, stC = .ref r :: .int x :: .ref a :: q → a < h.1 → r < h.1 → (h.2.2.1 r).1 < 13 → aAT[(h.2.2.1 a).1 - 100]? = (vwCl[(h.2.2.1 r).1]?).map (fun c => FieldType.object c.1) → 102 ≤ (h.2.2.1 a).1 → aInR x (h.2.2.1 a).2.1 = true → C lsC q (h.1, h.2.1, aSetR h.2.2.1 a x.toNatClampNeg (some r), h.2.2.2)) : zNext X P G pS h0 ρ0 ρ n h k C := by
  match st, hk, hs with
  | [], hk, _ => cases hk
  | [_], hk, _ => cases hk
  | [_, _], hk, _ => cases hk
  | v :: j :: w :: r, hk, hs =>
    obtain ⟨u3, q3, rfl, h3, hs3⟩ := zGl_cons hs
    obtain ⟨u, q0, rfl, h1, hs0⟩ := zGl_cons hs3
    obtain ⟨u2, q, rfl, h2, hs1⟩ := zGl_cons hs0
    have hk : zRef v (fun s => zRef w (fun a => bif zMayR P K a s then zIn σ j (zCe P K a).2.1 (zAstV a s (zCe P K a) n σ K E ls r k) else false)) = true := hk
    obtain ⟨s, rfl, hcs, hk⟩ := zRef_s h3 hk
    obtain ⟨a, rfl, hca, hk⟩ := zRef_s h2 hk
    rcases zCd hk with ⟨c, hk⟩ | ⟨-, hk⟩
    · unfold zMayR at c
      obtain ⟨c1, c2⟩ := zAnd c
      obtain ⟨al, c1⟩ := zAnd c1
      obtain ⟨c3, c1⟩ := zAnd c1
      obtain ⟨c4, c5⟩ := zAnd c1
      obtain ⟨c6, c2⟩ := zAnd c2
      obtain ⟨c7, c8⟩ := zAnd c2
      obtain ⟨c7, c9⟩ := zAnd c7
      have c3 := zbl c3
      have c4 := zbt c4
      have c5 := zbt c5
      have c6 := zbt c6
      have c7 := zbl c7
      have c9 := zbt c9
      have c8 := of_decide_eq_true c8
      obtain ⟨b1, b2, b3, b4, b5, b6⟩ := hg.2.1.2.2 w.2.2.2 a hca (by omega)
      obtain ⟨d1, d2, d3, d4, d5, d6⟩ := hg.2.1.2.2 v.2.2.2 s hcs (by omega)
      have b4 := b4 (by omega)
      obtain ⟨x, lo, hi, rfl, x1, x2, x3, x4, hk, x5, x6, x7⟩ := zIn_s hg.1 h1 hk
      rw [← b4] at x5
      rw [← b3, ← d3] at c8
      have hC := hC s x a q rfl b1 d1 (by omega) c8 (by omega) x5
      unfold zAstV at hk
      rcases zCd hk with ⟨c10, hk⟩ | ⟨-, hk⟩
      · have c10 := ze c10
        have ex : lo.toNat = x.toNatClampNeg := by
          have := zClamp x1 x2 x3 x6
          omega
        rw [ex] at hk
        have es := zGc_ex hcs (by omega)
        rw [es] at hC
        exact zNy2 hk (zGa.ref hV hg al hca (by omega) (by omega) (by omega) (Or.inl ⟨rfl, rfl, rfl⟩)) hl hs1 (Nat.le_refl _) hC
      · cases hk
    · cases hk
theorem zS_alen (hk : zAlen P n σ K E ls st k = true) (hV : zVal P) (hg : zGa X P G pS h0 ρ0 ρ n σ K E h) (hl : zGl P ρ n ls lsC) (hs : zGl P ρ n st stC)
    (hC : ∀ (a : Nat) q, stC = .ref a :: q → a ≠ 90000 → a < h.1 → 100 ≤ (h.2.2.1 a).1 ∧ (h.2.2.1 a).1 < 106 → C lsC (.int (Int32.ofNat (h.2.2.1 a).2.1) :: q) h) : zNext X P G pS h0 ρ0 ρ n h k C := by
  match st, hk, hs with
  | [], hk, _ => cases hk
  | w :: r, hk, hs =>
    obtain ⟨u2, q, rfl, h2, hs1⟩ := zGl_cons hs
    have hk : zRef w (fun a => zAlenV (zCe P K a) n σ K E ls r k) = true := hk
    obtain ⟨a, rfl, hca, hk⟩ := zRef_s h2 hk
    unfold zAlenV at hk
    rcases zCd hk with ⟨c, hk⟩ | ⟨-, hk⟩
    · obtain ⟨c1, c2⟩ := zAnd c
      obtain ⟨c1, c3⟩ := zAnd c1
      have c1 := zbl c1
      have c2 := zbt c2
      have c3 := zbt c3
      obtain ⟨b1, b2, b3, b4, b5, b6⟩ := hg.2.1.2.2 w.2.2.2 a hca (by omega)
      have b4 := b4 (by omega)
      have hC := hC a q rfl (fun z => by rw [z] at b2; omega) b1 ⟨by omega, by omega⟩
      rw [b4] at hC
      exact zNx (stC := .int (Int32.ofNat (zCe P K w.2.2.2).2.1) :: q) hk hg hl ⟨zGi (znC (w := 0) (by rw [Int32.toInt_ofNat_of_lt (by omega)]; rfl)), hs1⟩ hC
    · cases hk
end ZARR
