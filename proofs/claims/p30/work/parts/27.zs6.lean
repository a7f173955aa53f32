/-! arrays -/
section ZARR
variable {X : aX} {P : zP} {G : aH → Prop} {pS : Nat} {h0 h h' : aH} {ρ0 ρ ρ' : Nat → Int} {n n' : Nat} {σ : zS} {K : zK} {E E' : List zE} {v : zV} {u : Value} {ls st : List zV} {lsC stC : List Value}
  {k : Nat → zS → zK → List zE → List zV → List zV → Bool} {C : List Value → List Value → aH → Prop}
theorem zIn_s {j : zV} {l : Nat} {kk : Int → Int → Bool} (hs : zSok ρ n σ) (hu : zG P ρ n j u) (h : zIn σ j l kk = true) : ∃ (x : Int32) (lo hi : Int), u = .int x ∧ lo ≤ x.toInt ∧ x.toInt ≤ hi ∧ 0 ≤ lo ∧ hi < l ∧ kk lo hi = true ∧ aInR x l = true ∧ (x.toNatClampNeg : Int) = x.toInt ∧ zN ρ n 0 j x.toInt := by
  unfold zIn at h
  obtain ⟨x, rfl, hx⟩ := zG_rgi hu h
  obtain ⟨lo, hi, h1, h2, h⟩ := zRg_s hs hx h
  rcases zCd h with ⟨c, h⟩ | ⟨-, h⟩
  · obtain ⟨c1, c2⟩ := zAnd c
    have c1 := zl c1
    have c2 := zl c2
    rw [z0_eq] at c1
    rw [z1_eq] at c2
    have e : Int.ofNat l = (l : Int) := rfl
    rw [e] at c2
    refine ⟨x, lo, hi, rfl, h1, h2, c1, by omega, h, decide_eq_true ⟨by omega, by omega⟩, ?_, hx⟩
    show ((x.toInt.toNat : Nat) : Int) = x.toInt
    omega
  · cases h
theorem zClamp {x : Int32} {lo hi : Int} (h1 : lo ≤ x.toInt) (h2 : x.toInt ≤ hi) (h3 : 0 ≤ lo) (h4 : (x.toNatClampNeg : Int) = x.toInt) : lo.toNat ≤ x.toNatClampNeg ∧ x.toNatClampNeg < hi.toNat + 1 := by omega
/-- a number of an array is read -/
theorem zIldA_s {kd a : Nat} {j : zV} {r : List zV} {q : List Value} {ra : Nat} (hV : zVal P) (hkd : kd = 100 ∨ kd = 101) (hg : zGa X P G pS h0 ρ0 ρ n σ K E h) (hl : zGl P ρ n ls lsC) (hs : zGl P ρ n r q) (hc : zGc P a ra) (hu : zG P ρ n j u) (hk : zIldA P kd a j n σ K E ls r k = true)
    (hC : ∀ x : Int32, u = .int x → ra < h.1 → (h.2.2.1 ra).1 = kd → aInR x (h.2.2.1 ra).2.1 = true → C lsC (.int (h.2.2.2 ra x.toNatClampNeg) :: q) h) : zNext X P G pS h0 ρ0 ρ n h k C := by
  unfold zIldA at hk
  rcases zCd hk with ⟨c1, hk⟩ | ⟨-, hk⟩
  · have c1 := zbe c1
    obtain ⟨b1, b2, b3, b4, b5, b6⟩ := hg.2.1.2.2 a ra hc (by omega)
    have b4 := b4 (by omega)
    obtain ⟨x, lo, hi, rfl, x1, x2, x3, x4, hk, x5, x6, x7⟩ := zIn_s hg.1 hu hk
    rw [← b4] at x5
    have hC := hC x rfl b1 (b3.trans c1) x5
    have hp : zPl h (ra * 128 + 127) := zPla b1 b2 (by omega)
    obtain ⟨cl1, cl2⟩ := zClamp x1 x2 x3 x6
    have hb : ∀ i, i < (h.2.2.1 ra).2.1 → zN ρ n 0 (zIr P (a * 128 + 127)) (h.2.2.2 ra i).toInt := fun i hi => by
      have := zIr_c (ρ := ρ) (n := n) (f := 127) (i := i) hV hg.2.2.2.1 hc b2 (by omega) hp (fun _ => hi)
      rwa [zMa'] at this
    have hlen : x.toNatClampNeg < (h.2.2.1 ra).2.1 := by omega
    have hval : zN ρ n 0 (zIldG P a E lo hi) (h.2.2.2 ra x.toNatClampNeg).toInt := by
      unfold zIldG
      cases c2 : Nat.blt a 700
      · exact hb _ hlen
      · have c2 := zbt c2
        have e := zGc_ex hc c2
        show zN ρ n 0 (zIldV P (a * 128 + 127) lo hi (zGet E (a * 128 + 127) lo.toNat (hi.toNat + 1) (zIr P (a * 128 + 127)))) _
        have hv := zGet_s (X := X) (E := E) (j := lo.toNat) (j' := hi.toNat + 1) (d := zIr P (a * 128 + 127)) hg.2.2.1 hp (fun i q1 q2 _ => by
          rw [zMa']
          exact hb i (by omega)) x.toNatClampNeg cl1 cl2 (fun z => absurd (by omega) z)
        rw [zMa', e] at hv
        unfold zIldV
        cases c3 : (zeq lo hi || (Nat.beq (zGet E (a * 128 + 127) lo.toNat (hi.toNat + 1) (zIr P (a * 128 + 127))).1 1 || zeq (zGet E (a * 128 + 127) lo.toNat (hi.toNat + 1) (zIr P (a * 128 + 127))).2.2.1 z0))
        · exact hb _ hlen
        · rw [e]
          exact hv
    generalize zIldG P a E lo hi = v at hk hval
    unfold zIldN at hk
    rcases zCd hk with ⟨c5, hk⟩ | ⟨-, hk⟩
    · obtain ⟨c5, c6⟩ := zAnd c5
      obtain ⟨c6, c7⟩ := zAnd c6
      have c5 := zbt c5
      have c6 := ze c6
      have c7 := zbe c7
      have ea := zGc_ex hc c5
      rcases hval with ⟨e, -⟩ | ⟨-, h1, h2⟩
      · omega
      · have g2 := hg.new h1 h2
        have ex : lo.toNat = x.toNatClampNeg := by omega
        have g3 : zGa X P G pS h0 ρ0 (fun i => if i = n then (h.2.2.2 ra x.toNatClampNeg).toInt else ρ i) (n + 1) ((n, v.2.1, v.2.2.1) :: σ) K ((a * 128 + 127, lo.toNat, lo.toNat + 1, zsy n) :: E) h := by
          refine ⟨g2.1, g2.2.1, fun e he => ?_, g2.2.2.2⟩
          rcases List.mem_cons.mp he with rfl | he
          · rw [← ea]
            refine (zGe_pl (e := (ra * 128 + 127, lo.toNat, lo.toNat + 1, zsy n)) hp).mpr (fun i q1 q2 _ => ?_)
            have q1 : lo.toNat ≤ i := q1
            have q2 : i < lo.toNat + 1 := q2
            have ei : i = x.toNatClampNeg := by omega
            show zN _ _ 0 (zsy n) (zM h (ra * 128 + 127) i).toInt
            rw [ei, zMa']
            exact zN_new
          · exact g2.2.2.1 e he
        have hr : ∀ i, i < n → (fun i => if i = n then (h.2.2.2 ra x.toNatClampNeg).toInt else ρ i) i = ρ i := fun i hi => if_neg (by omega)
        exact zNy (stC := .int (h.2.2.2 ra x.toNatClampNeg) :: q) hk (Nat.le_succ n) hr g3 (hl.mono (Nat.le_succ n) hr) ⟨zGi zN_new, hs.mono (Nat.le_succ n) hr⟩ (Nat.le_refl _) hC
    · exact zNx (stC := .int (h.2.2.2 ra x.toNatClampNeg) :: q) hk hg hl ⟨zGi hval, hs⟩ hC
  · cases hk
theorem zScr_s {j : zV} {kk : Nat → zS → List zE → zV → Bool} (hg : zGa X P G pS h0 ρ0 ρ n σ K E h) (hu : zG P ρ n j u) (hk : zScr n σ E j kk = true) :
    ∃ x : Int32, u = .int x ∧ aInR x X.1 = true ∧ ∃ n' σ' E' ρ' v, kk n' σ' E' v = true ∧ n ≤ n' ∧ (∀ i, i < n → ρ' i = ρ i) ∧ zGa X P G pS h0 ρ0 ρ' n' σ' K E' h ∧ zN ρ' n' 0 v (X.2 x.toNatClampNeg).toInt := by
  unfold zScr at hk
  rcases zCd hk with ⟨c, hk⟩ | ⟨-, hk⟩
  · obtain ⟨c1, c2⟩ := zAnd c
    obtain ⟨c1, c3⟩ := zAnd c1
    obtain ⟨c2, c4⟩ := zAnd c2
    have c1 := zbe c1
    have c2 := ze c2
    have c3 := zl c3
    have c4 := zbe c4
    rw [z0_eq] at c3
    obtain ⟨x, rfl, hx⟩ := zG_rgi hu hk
    obtain ⟨lo, hi, x1, x2, hk⟩ := zRg_s hg.1 hx hk
    rcases zCd hk with ⟨c5, hk⟩ | ⟨-, hk⟩
    · have c5 := zl c5
      rw [z0_eq] at c5
      have hx2 : x.toInt = j.2.1 + ρ 0 := by
        rcases hx with ⟨-, -, e⟩ | ⟨e, -⟩
        · rw [e, c2, c4, z1_eq]
          omega
        · omega
      refine ⟨x, rfl, ?_⟩
      unfold zScrB at hk
      rcases zCd hk with ⟨d, hk⟩ | ⟨-, hk⟩
      · obtain ⟨d1, d2⟩ := zAnd d
        obtain ⟨d2, d3⟩ := zAnd d2
        have d1 := zbe d1
        have d2 := ze d2
        have d3 := zl d3
        rw [z1_eq] at d3
        -- what is told of the script
        have get : ∀ (E : List zE) (p j j' : Nat), (zGet E p j j' (8, z0, z0, 0)).1 ≠ 8 → ∃ e ∈ E, e.1 = p ∧ e.2.1 ≤ j ∧ j' ≤ e.2.2.1 ∧ zGet E p j j' (8, z0, z0, 0) = e.2.2.2 := by
          intro E p j j'
          induction E with
          | nil => intro q; exact absurd rfl q
          | cons e r ih =>
            intro q
            unfold zGet at q ⊢
            cases c : (Nat.beq e.1 p && (Nat.ble e.2.1 j && Nat.ble j' e.2.2.1))
            · rw [c] at q
              obtain ⟨e', h1, h2⟩ := ih q
              exact ⟨e', List.mem_cons_of_mem _ h1, h2⟩
            · obtain ⟨q1, q2⟩ := zAnd c
              obtain ⟨q2, q3⟩ := zAnd q2
              exact ⟨e, List.mem_cons_self, zbe q1, zbl q2, zbl q3, rfl⟩
        obtain ⟨e, he, e1, -, -, e2⟩ := get E 11520002 0 1 (by omega)
        have hL := hg.2.2.1 e he
        unfold zGe at hL
        rw [if_neg (by omega), if_pos e1] at hL
        obtain ⟨hn0, hL⟩ := hL
        rw [← e2] at hL
        have hL := hL d1 (d2.trans z0_eq)
        have hin : aInR x X.1 = true := decide_eq_true ⟨by omega, by omega⟩
        have hcl : (ρ 0 + ((j.2.1.toNat : Nat) : Int)).toNat = x.toNatClampNeg := by
          show _ = x.toInt.toNat
          omega
        refine ⟨hin, ?_⟩
        unfold zScrV at hk
        rcases zCd hk with ⟨d4, hk⟩ | ⟨d4, hk⟩
        · have g2 := hg.new (zI32_rg (X.2 x.toNatClampNeg)).1 (zI32_rg (X.2 x.toNatClampNeg)).2
          refine ⟨_, _, _, _, _, hk, Nat.le_succ n, fun i hi => if_neg (by omega), ⟨g2.1, g2.2.1, fun e he => ?_, g2.2.2.2⟩, zN_new⟩
          rcases List.mem_cons.mp he with rfl | he
          · unfold zGe
            rw [if_pos rfl]
            refine ⟨Nat.succ_pos n, fun i q1 q2 => ?_⟩
            have q1 : j.2.1.toNat ≤ i := q1
            have q2 : i < j.2.1.toNat + 1 := q2
            have ei : i = j.2.1.toNat := by omega
            rw [ei]
            dsimp only
            rw [if_neg (show ¬ 0 = n by omega), hcl]
            exact zN_new
          · exact g2.2.2.1 e he
        · have d4 := zbn d4
          obtain ⟨e3, he3, f1, f2, f3, f4⟩ := get E 11520001 j.2.1.toNat (j.2.1.toNat + 1) d4
          have hv := hg.2.2.1 e3 he3
          unfold zGe at hv
          rw [if_pos f1] at hv
          have hv := hv.2 j.2.1.toNat f2 (by omega)
          rw [← f4, hcl] at hv
          exact ⟨n, σ, E, ρ, _, hk, Nat.le_refl n, fun _ _ => rfl, hg, hv⟩
      · cases hk
    · cases hk
  · cases hk
theorem zS_ild {kd : Nat} (hV : zVal P) (hkd : kd = 100 ∨ kd = 101) (hk : zIld P kd n σ K E ls st k = true) (hg : zGa X P G pS h0 ρ0 ρ n σ K E h) (hl : zGl P ρ n ls lsC) (hs : zGl P ρ n st stC)
    (hC : ∀ (x : Int32) (a : Nat) q, stC = .int x :: .ref a :: q → a ≠ 90000 → a < h.1 → (h.2.2.1 a).1 = kd → aInR x (h.2.2.1 a).2.1 = true → C lsC (.int (h.2.2.2 a x.toNatClampNeg) :: q) h)
    (hX : ∀ (x : Int32) q, stC = .int x :: .ref 90000 :: q → kd = 100 → aInR x X.1 = true → C lsC (.int (X.2 x.toNatClampNeg) :: q) h) : zNext X P G pS h0 ρ0 ρ n h k C := by
  match st, hk, hs with
  | [], hk, _ => cases hk
  | [_], hk, _ => cases hk
  | j :: w :: r, hk, hs =>
    obtain ⟨u, q0, rfl, h1, hs0⟩ := zGl_cons hs
    obtain ⟨u2, q, rfl, h2, hs1⟩ := zGl_cons hs0
    have hk : zRef w (fun a => (bif Nat.beq a 90000 then zIldS else zIldA) P kd a j n σ K E ls r k) = true := hk
    obtain ⟨a, rfl, hca, hk⟩ := zRef_s h2 hk
    cases c : Nat.beq w.2.2.2 90000
    · rw [c] at hk
      have c := zbn c
      refine zIldA_s hV hkd hg hl hs1 hca h1 hk (fun x e b1 b3 b5 => ?_)
      subst e
      refine hC x a q rfl (fun z => ?_) b1 b3 b5
      rcases hca with ⟨p1, p2⟩ | ⟨p1, p2, p3⟩ | ⟨p1, p2⟩
      · rw [p2] at z; omega
      · have := (hV.2.1 _ _ 0 p1 p2 p3 (by omega)).1
        rw [z] at this
        omega
      · exact c (p2 ▸ z)
    · rw [c] at hk
      have c := zbe c
      have ea : a = 90000 := by
        rcases hca with ⟨p1, p2⟩ | ⟨p1, p2, p3⟩ | ⟨p1, p2⟩
        · omega
        · omega
        · exact p2.trans c
      subst ea
      have hk : zIldS P kd w.2.2.2 j n σ K E ls r k = true := hk
      unfold zIldS at hk
      rcases zCd hk with ⟨c2, hk⟩ | ⟨-, hk⟩
      · obtain ⟨x, rfl, hin, n', σ', E', ρ', v, hk, l1, r1, g1, u1⟩ := zScr_s hg h1 hk
        exact zNy (stC := .int (X.2 x.toNatClampNeg) :: q) hk l1 r1 g1 (hl.mono l1 r1) ⟨zGi u1, hs1.mono l1 r1⟩ (Nat.le_refl _) (hX x q rfl (zbe c2) hin)
      · cases hk
theorem zS_ist {kd : Nat} (hV : zVal P) (hG : zHG P G) (hkd : kd = 100 ∨ kd = 101) (hk : zIst P kd n σ K E ls st k = true) (hg : zGa X P G pS h0 ρ0 ρ n σ K E h) (hl : zGl P ρ n ls lsC) (hs : zGl P ρ n st stC)
    (hC : ∀ (y x : Int32) (a : Nat) q, stC = .int y :: .int x :: .ref a :: q → a < h.1 → (h.2.2.1 a).1 = kd → aInR x (h.2.2.1 a).2.1 = true → (kd = 100 ∨ y = 0 ∨ y = 1) → C lsC q (h.1, h.2.1, h.2.2.1, aPut h.2.2.2 a x.toNatClampNeg y)) : zNext X P G pS h0 ρ0 ρ n h k C := by
  match st, hk, hs with
  | [], hk, _ => cases hk
  | [_], hk, _ => cases hk
  | [_, _], hk, _ => cases hk
  | v :: j :: w :: r, hk, hs =>
    obtain ⟨u3, q3, rfl, h3, hs3⟩ := zGl_cons hs
    obtain ⟨u, q0, rfl, h1, hs0⟩ := zGl_cons hs3
    obtain ⟨u2, q, rfl, h2, hs1⟩ := zGl_cons hs0
    have hk : zRef w (fun a => zIstV P kd a v j n σ K E ls r k) = true := hk
    obtain ⟨a, rfl, hca, hk⟩ := zRef_s h2 hk
    unfold zIstV at hk
    rcases zCd hk with ⟨c1, hk⟩ | ⟨-, hk⟩
    · have c1 := zbe c1
      obtain ⟨b1, b2, b3, b4, b5, b6⟩ := hg.2.1.2.2 w.2.2.2 a hca (by omega)
      have b4 := b4 (by omega)
      obtain ⟨x, lo, hi, rfl, x1, x2, x3, x4, hk, x5, x6, x7⟩ := zIn_s hg.1 h1 hk
      rw [← b4] at x5
      obtain ⟨y, rfl, hy⟩ := zG_rgi h3 hk
      obtain ⟨vl, vh, y1, y2, hk⟩ := zRg_s hg.1 hy hk
      unfold zIstN at hk
      rcases zCd hk with ⟨c2, hk⟩ | ⟨-, hk⟩
      · have hy01 : kd = 100 ∨ y = 0 ∨ y = 1 := by
          rcases zOr c2 with c2 | c2
          · exact Or.inl (zbe c2)
          · obtain ⟨d1, d2⟩ := zAnd c2
            have d1 := zl d1
            have d2 := zl d2
            rw [z0_eq] at d1
            rw [z1_eq] at d2
            exact Or.inr (z01 (by omega) (by omega))
        have hkd2 : (h.2.2.1 a).1 = kd := b3.trans c1
        have hC := hC y x a q rfl b1 hkd2 x5 hy01
        have h100 : 100 ≤ (h.2.2.1 a).1 := by omega
        have hp : zPl h (a * 128 + 127) := zPla b1 b2 h100
        obtain ⟨cl1, cl2⟩ := zClamp x1 x2 x3 x6
        have hm : ∀ p i, zPl h p → ¬ (p = a * 128 + 127 ∧ i = x.toNatClampNeg) → zM (h.1, h.2.1, h.2.2.1, aPut h.2.2.2 a x.toNatClampNeg y) p i = zM h p i := by
          intro p i hp2 hne
          refine zM_put (fun z => ?_)
          obtain ⟨z1, z2⟩ := z
          obtain ⟨-, -, hp3⟩ := hp2
          by_cases c7 : p % 128 = 127
          · rw [if_pos c7] at z2
            exact hne ⟨zPl_dm z1 c7, z2⟩
          · rw [if_neg c7, z1] at hp3
            omega
        have hmy : zM (h.1, h.2.1, h.2.2.1, aPut h.2.2.2 a x.toNatClampNeg y) (a * 128 + 127) x.toNatClampNeg = y := by
          rw [zMa']
          show aPut h.2.2.2 a x.toNatClampNeg y a x.toNatClampNeg = y
          unfold aPut
          rw [if_pos rfl, if_pos rfl]
        have weak : ∀ p i, zPl h p → (p % 128 ≠ 127 → i = 0) → zM (h.1, h.2.1, h.2.2.1, aPut h.2.2.2 a x.toNatClampNeg y) p i = zM h p i ∨ (p = a * 128 + 127 ∧ vl ≤ (zM (h.1, h.2.1, h.2.2.1, aPut h.2.2.2 a x.toNatClampNeg y) p i).toInt ∧ (zM (h.1, h.2.1, h.2.2.1, aPut h.2.2.2 a x.toNatClampNeg y) p i).toInt ≤ vh ∧ lo.toNat ≤ i ∧ i < hi.toNat + 1) := by
          intro p i hp2 _
          by_cases z : p = a * 128 + 127 ∧ i = x.toNatClampNeg
          · obtain ⟨z1, z2⟩ := z
            subst z1
            subst z2
            rw [hmy]
            exact Or.inr ⟨rfl, y1, y2, cl1, cl2⟩
          · exact Or.inl (hm p i hp2 z)
        have hI : ∀ lo' hi' : Int, lo' ≤ vl → vh ≤ hi' → (P.zI (a * 128 + 127)).1 ≤ lo' → hi' ≤ (P.zI (a * 128 + 127)).2 → zGI P (h.1, h.2.1, h.2.2.1, aPut h.2.2.2 a x.toNatClampNeg y) := fun lo' hi' l1 l2 l3 l4 => zGI_put hg.2.2.2.1 (fun z => by omega) (fun _ => ⟨by omega, by omega⟩)
        rcases zCd hk with ⟨c5, hk⟩ | ⟨c5, hk⟩
        · have c5 := zbt c5
          have ea := zGc_ex hca c5
          rw [← ea] at hk
          rcases zCd hk with ⟨c6, hk⟩ | ⟨-, hk⟩
          · obtain ⟨c6, c6b⟩ := zAnd c6
            obtain ⟨m1, m2, m3⟩ := zMay1_s c6
            have g' : zGa X P G pS h0 ρ0 ρ n σ K (zIstE P (a * 128 + 127) v E lo hi vl vh) (h.1, h.2.1, h.2.2.1, aPut h.2.2.2 a x.toNatClampNeg y) := by
              refine zGa.wr hV hG hg ?_ (hI _ _ (Int.le_refl _) (Int.le_refl _) m2 m3) (zOff_puta h100 m1) (zKp_puta (Nat.le_trans (zbl c6b) cl1))
              unfold zIstE
              cases c8 : zeq lo hi
              · exact zWeak_s hg.2.2.1 weak
              · have c8 := ze c8
                have ex : lo.toNat = x.toNatClampNeg := by omega
                intro e he
                rcases List.mem_cons.mp he with rfl | he
                · have hp' : zPl (h.1, h.2.1, h.2.2.1, aPut h.2.2.2 a x.toNatClampNeg y) (a * 128 + 127) := hp
                  refine (zGe_pl hp').mpr (fun i q1 q2 _ => ?_)
                  have q1 : lo.toNat ≤ i := q1
                  have q2 : i < lo.toNat + 1 := q2
                  have ei : i = x.toNatClampNeg := by omega
                  show zN ρ n 0 v (zM (h.1, h.2.1, h.2.2.1, aPut h.2.2.2 a x.toNatClampNeg y) (a * 128 + 127) i).toInt
                  rw [ei, hmy]
                  exact hy
                · exact zTrim_s hg.2.2.1 (fun p i hp2 hn _ => hm p i hp2 (fun z => by have := hn z.1; omega)) e he
            exact zNy hk (Nat.le_refl _) (fun _ _ => rfl) g' hl hs1 (Nat.le_refl _) hC
          · cases hk
        · rcases zCd hk with ⟨c6, hk⟩ | ⟨-, hk⟩
          · have c5 : ¬ w.2.2.2 < 700 := by have := zbtF c5; omega
            obtain ⟨p1, p2, p3⟩ := zGc_ps hca c5 b2
            obtain ⟨c6, c6b⟩ := zAnd c6
            obtain ⟨m1, m2, m3⟩ := zMay1_s (zMem_s c6 p3)
            have g' : zGa X P G pS h0 ρ0 ρ n σ K (zDropW vl vh 127 lo.toNat (hi.toNat + 1) (P.ps w.2.2.2) E) (h.1, h.2.1, h.2.2.1, aPut h.2.2.2 a x.toNatClampNeg y) :=
              zGa.wr hV hG hg (zDropW_s hg.2.2.1 p3 weak) (hI _ _ (Int.le_refl _) (Int.le_refl _) m2 m3) (zOff_puta h100 m1) (zKp_puta (Nat.le_trans (zLoM_s c6b p3) cl1))
            exact zNy hk (Nat.le_refl _) (fun _ _ => rfl) g' hl hs1 (Nat.le_refl _) hC
          · cases hk
      · cases hk
    · cases hk
theorem zEach_s {j : zV} {rs : List Nat} {kk : zS → Nat → Bool} {x : Int32} {m i : Nat} (hs : zSok ρ n σ) (hx : zN ρ n 0 j x.toInt) (h1 : (i : Int) ≤ x.toInt) (h2 : x.toInt < i + m) (hk : zEach σ j rs kk m i = true) : ∃ σ', zSok ρ n σ' ∧ kk σ' (zAt rs x.toNatClampNeg) = true ∧ zAt rs x.toNatClampNeg < 99999 := by
  induction m generalizing i with
  | zero => omega
  | succ m ih =>
    unfold zEach at hk
    obtain ⟨k1, k2⟩ := zAnd hk
    by_cases q : x.toInt = i
    · obtain ⟨σ', g, k1⟩ := zEq_s (Y := (i : Int)) hs hx (znC rfl) q k1
      rcases zCd k1 with ⟨c, k1⟩ | ⟨-, k1⟩
      · have e : x.toNatClampNeg = i := by
          show x.toInt.toNat = i
          omega
        rw [e]
        exact ⟨σ', g, k1, zbt c⟩
      · cases k1
    · exact ih (by omega) (by omega) k2
theorem zS_ald (hk : zAld P n σ K E ls st k = true) (hg : zGa X P G pS h0 ρ0 ρ n σ K E h) (hl : zGl P ρ n ls lsC) (hs : zGl P ρ n st stC)
    (hC : ∀ (x : Int32) (a : Nat) q, stC = .int x :: .ref a :: q → a < h.1 → 102 ≤ (h.2.2.1 a).1 ∧ (h.2.2.1 a).1 < 106 → aInR x (h.2.2.1 a).2.1 = true → C lsC (aRf ((h.2.2.1 a).2.2 x.toNatClampNeg) :: q) h) : zNext X P G pS h0 ρ0 ρ n h k C := by
  match st, hk, hs with
  | [], hk, _ => cases hk
  | [_], hk, _ => cases hk
  | j :: w :: r, hk, hs =>
    obtain ⟨u, q0, rfl, h1, hs0⟩ := zGl_cons hs
    obtain ⟨u2, q, rfl, h2, hs1⟩ := zGl_cons hs0
    have hk : zRef w (fun a => zAldC (zCe P K a) j n σ K E ls r k) = true := hk
    obtain ⟨a, rfl, hca, hk⟩ := zRef_s h2 hk
    unfold zAldC at hk
    rcases zCd hk with ⟨c1, hk⟩ | ⟨-, hk⟩
    · obtain ⟨c1, c2⟩ := zAnd c1
      have c1 := zbl c1
      have c2 := zbt c2
      obtain ⟨b1, b2, b3, b4, b5, b6⟩ := hg.2.1.2.2 w.2.2.2 a hca (by omega)
      have b4 := b4 (by omega)
      obtain ⟨x, lo, hi, rfl, x1, x2, x3, x4, hk, x5, x6, x7⟩ := zIn_s hg.1 h1 hk
      rw [← b4] at x5
      have hC := hC x a q rfl b1 ⟨by omega, by omega⟩ x5
      obtain ⟨cl1, cl2⟩ := zClamp x1 x2 x3 x6
      unfold zAldV at hk
      rcases zCd hk with ⟨c3, hk⟩ | ⟨-, hk⟩
      · have c3 := ze c3
        rcases zCd hk with ⟨c4, hk⟩ | ⟨-, hk⟩
        · have ex : lo.toNat = x.toNatClampNeg := by omega
          rw [ex] at c4 hk
          obtain ⟨r', e1, e2⟩ := b5 _ (zbt c4)
          rw [e1] at hC
          exact zNx (stC := .ref r' :: q) hk hg hl ⟨zGr e2, hs1⟩ hC
        · cases hk
      · rcases zCd hk with ⟨c4, hk⟩ | ⟨-, hk⟩
        · obtain ⟨r', e1, e2⟩ := b6 (zbl c4) x.toNatClampNeg (by omega)
          rw [e1] at hC
          exact zNx (stC := .ref r' :: q) hk hg hl ⟨zGr e2, hs1⟩ hC
        · rcases zCd hk with ⟨-, hk⟩ | ⟨-, hk⟩
          · obtain ⟨σ', g, hk, hlt⟩ := zEach_s hg.1 x7 (by omega) (by omega) hk
            obtain ⟨r', e1, e2⟩ := b5 _ hlt
            rw [e1] at hC
            exact zNx (stC := .ref r' :: q) hk (hg.sym g) hl ⟨zGr e2, hs1⟩ hC
          · cases hk
    · cases hk
theorem zS_ast (hV : zVal P) (hk : zAst P n σ K E ls st k = true) (hg : zGa X P G pS h0 ρ0 ρ n σ K E h) (hl : zGl P ρ n ls lsC) (hs : zGl P ρ n st stC)
    (hC : ∀ (r : Nat) (x : Int32) (a : Nat) q, stC = .ref r :: .int x :: .ref a :: q → a < h.1 → r < h.1 → (h.2.2.1 r).1 < 13 → aAT[(h.2.2.1 a).1 - 100]? = (vwCl[(h.2.2.1 r).1]?).map (fun c => FieldType.object c.1) → 102 ≤ (h.2.2.1 a).1 → aInR x (h.2.2.1 a).2.1 = true → C lsC q (h.1, h.2.1, aSetR h.2.2.1 a x.toNatClampNeg (some r), h.2.2.2)) : zNext X P G pS h0 ρ0 ρ n h k C := by
  match st, hk, hs with
  | [], hk, _ => cases hk
  | [_], hk, _ => cases hk
  | [_, _], hk, _ => cases hk
  | v :: j :: w :: r, hk, hs =>
    obtain ⟨u3, q3, rfl, h3, hs3⟩ := zGl_cons hs
    obtain ⟨u, q0, rfl, h1, hs0⟩ := zGl_cons hs3
    obtain ⟨u2, q, rfl, h2, hs1⟩ := zGl_cons hs0
    have hk : zRef v (fun s => zRef w (fun a => bif zMayR P K a s then zIn σ j (zCe P K a).2.1 (zAstV a s (zCe P K a) n σ K E ls r k) else false)) = true := hk
    obtain ⟨s, rfl, hcs, hk⟩ := zRef_s h3 hk
    obtain ⟨a, rfl, hca, hk⟩ := zRef_s h2 hk
    rcases zCd hk with ⟨c, hk⟩ | ⟨-, hk⟩
    · unfold zMayR at c
      obtain ⟨c1, c2⟩ := zAnd c
      obtain ⟨al, c1⟩ := zAnd c1
      obtain ⟨c3, c1⟩ := zAnd c1
      obtain ⟨c4, c5⟩ := zAnd c1
      obtain ⟨c6, c2⟩ := zAnd c2
      obtain ⟨c7, c8⟩ := zAnd c2
      obtain ⟨c7, c9⟩ := zAnd c7
      have c3 := zbl c3
      have c4 := zbt c4
      have c5 := zbt c5
      have c6 := zbt c6
      have c7 := zbl c7
      have c9 := zbt c9
      have c8 := of_decide_eq_true c8
      obtain ⟨b1, b2, b3, b4, b5, b6⟩ := hg.2.1.2.2 w.2.2.2 a hca (by omega)
      obtain ⟨d1, d2, d3, d4, d5, d6⟩ := hg.2.1.2.2 v.2.2.2 s hcs (by omega)
      have b4 := b4 (by omega)
      obtain ⟨x, lo, hi, rfl, x1, x2, x3, x4, hk, x5, x6, x7⟩ := zIn_s hg.1 h1 hk
      rw [← b4] at x5
      rw [← b3, ← d3] at c8
      have hC := hC s x a q rfl b1 d1 (by omega) c8 (by omega) x5
      unfold zAstV at hk
      rcases zCd hk with ⟨c10, hk⟩ | ⟨-, hk⟩
      · have c10 := ze c10
        have ex : lo.toNat = x.toNatClampNeg := by
          have := zClamp x1 x2 x3 x6
          omega
        rw [ex] at hk
        have es := zGc_ex hcs (by omega)
        rw [es] at hC
        exact zNy2 hk (zGa.ref hV hg al hca (by omega) (by omega) (by omega) (Or.inl ⟨rfl, rfl, rfl⟩)) hl hs1 (Nat.le_refl _) hC
      · cases hk
    · cases hk
theorem zS_alen (hk : zAlen P n σ K E ls st k = true) (hV : zVal P) (hg : zGa X P G pS h0 ρ0 ρ n σ K E h) (hl : zGl P ρ n ls lsC) (hs : zGl P ρ n st stC)
    (hC : ∀ (a : Nat) q, stC = .ref a :: q → a ≠ 90000 → a < h.1 → 100 ≤ (h.2.2.1 a).1 ∧ (h.2.2.1 a).1 < 106 → C lsC (.int (Int32.ofNat (h.2.2.1 a).2.1) :: q) h) : zNext X P G pS h0 ρ0 ρ n h k C := by
  match st, hk, hs with
  | [], hk, _ => cases hk
  | w :: r, hk, hs =>
    obtain ⟨u2, q, rfl, h2, hs1⟩ := zGl_cons hs
    have hk : zRef w (fun a => zAlenV (zCe P K a) n σ K E ls r k) = true := hk
    obtain ⟨a, rfl, hca, hk⟩ := zRef_s h2 hk
    unfold zAlenV at hk
    rcases zCd hk with ⟨c, hk⟩ | ⟨-, hk⟩
    · obtain ⟨c1, c2⟩ := zAnd c
      obtain ⟨c1, c3⟩ := zAnd c1
      have c1 := zbl c1
      have c2 := zbt c2
      have c3 := zbt c3
      obtain ⟨b1, b2, b3, b4, b5, b6⟩ := hg.2.1.2.2 w.2.2.2 a hca (by omega)
      have b4 := b4 (by omega)
      have hC := hC a q rfl (fun z => by rw [z] at b2; omega) b1 ⟨by omega, by omega⟩
      rw [b4] at hC
      exact zNx (stC := .int (Int32.ofNat (zCe P K w.2.2.2).2.1) :: q) hk hg hl ⟨zGi (znC (w := 0) (by rw [Int32.toInt_ofNat_of_lt (by omega)]; rfl)), hs1⟩ hC
    · cases hk
end ZARR
/-! new cells; all instructions that end no block and call nothing -/
section ZAL
variable {X : aX} {P : zP} {G : aH → Prop} {pS : Nat} {h0 h h' : aH} {ρ0 ρ ρ' : Nat → Int} {n n' : Nat} {σ : zS} {K : zK} {E E' : List zE} {v : zV} {u : Value} {ls st : List zV} {lsC stC : List Value}
  {k : Nat → zS → zK → List zE → List zV → List zV → Bool} {C : List Value → List Value → aH → Prop}
theorem aNew_old {m sl b : Nat} {f : Nat → aK} (hb : b < h.1) : (aNew h m sl f).2.2.1 b = h.2.2.1 b ∧ (aNew h m sl f).2.2.2 b = h.2.2.2 b := by
  unfold aNew
  dsimp only
  refine ⟨if_neg (by omega), ?_⟩
  funext i
  exact if_neg (by omega)
theorem aNew_new {m sl b : Nat} {f : Nat → aK} (hb : h.1 ≤ b) : (aNew h m sl f).2.2.1 b = f b ∧ ∀ i, (aNew h m sl f).2.2.2 b i = 0 := by
  unfold aNew
  dsimp only
  exact ⟨if_pos hb, fun i => if_pos hb⟩
theorem zGa.alloc {m sl : Nat} {f : Nat → aK} {ov : List (Nat × zC)} (hV : zVal P) (al : P.al = true) (hg : zGa X P G pS h0 ρ0 ρ n σ K E h)
    (hK : ∀ s0, (zCe P (K.1 + m, K.2.1 + sl, ov) s0 = zCe P K s0) ∨ (h.1 ≤ s0 ∧ s0 < h.1 + m ∧ zGk P (aNew h m sl f) s0 (zCe P (K.1 + m, K.2.1 + sl, ov) s0)))
    (hE : ∀ e ∈ E', e ∈ E ∨ (zPl (aNew h m sl f) e.1 ∧ h.1 ≤ e.1 / 128 ∧ e.2.2.2 = zc 0 z0)) : zGa X P G pS h0 ρ0 ρ n σ (K.1 + m, K.2.1 + sl, ov) E' (aNew h m sl f) := by
  obtain ⟨g1, g2, g3, g4, g5, g6⟩ := hg
  refine ⟨g1, ⟨by show h.1 + m = K.1 + m; rw [g2.1], by show h.2.1 + sl = K.2.1 + sl; rw [g2.2.1], fun s0 b hc hlt => ?_⟩, fun e he => ?_, fun p i hp hi => ?_, fun q => (by rw [al] at q; cases q), g6⟩
  · have eb := zNoPs hV al hc
    rcases hK s0 with hs | ⟨h1, h2, hs⟩
    · rw [hs] at hlt ⊢
      obtain ⟨b1, b2, b3, b4, b5, b6⟩ := g2.2.2 s0 b hc hlt
      have e := (aNew_old (m := m) (sl := sl) (f := f) b1).1
      refine ⟨by show b < h.1 + m; omega, b2, ?_, ?_, ?_, ?_⟩
      · rw [e]; exact b3
      · rw [e]; exact b4
      · rw [e]; exact b5
      · rw [e]; exact b6
    · rw [eb]
      exact hs
  · rcases hE e he with h1 | ⟨h1, h2, h3⟩
    · have k0 := g3 e h1
      unfold zGe at k0 ⊢
      by_cases c1 : e.1 = 11520001
      · rw [if_pos c1] at k0 ⊢
        exact k0
      · rw [if_neg c1] at k0 ⊢
        by_cases c2 : e.1 = 11520002
        · rw [if_pos c2] at k0 ⊢
          exact k0
        · rw [if_neg c2] at k0 ⊢
          obtain ⟨⟨p1, p2, p3⟩, k1⟩ := k0
          have e2 := aNew_old (m := m) (sl := sl) (f := f) p1
          refine ⟨⟨by show e.1 / 128 < h.1 + m; omega, p2, by rw [e2.1]; exact p3⟩, fun i q1 q2 q3 => ?_⟩
          have e3 : zM (aNew h m sl f) e.1 i = zM h e.1 i := by
            unfold zM
            rw [e2.2]
          rw [e3]
          exact k1 i q1 q2 q3
    · refine (zGe_pl h1).mpr (fun i _ _ _ => ?_)
      have e3 : zM (aNew h m sl f) e.1 i = 0 := (aNew_new h2).2 _
      rw [e3, h3]
      exact znC rfl
  · have := (hV.2.2.2.2.1 al).2 p
    have r := zI32_rg (zM (aNew h m sl f) p i)
    exact ⟨by omega, by omega⟩
theorem zLk_new {a b : Nat} {c d : zC} {ov : List (Nat × zC)} : zLk ((a, c) :: ov) b d = if a = b then c else zLk ov b d := by
  show (bif Nat.beq a b then c else zLk ov b d) = _
  by_cases e : a = b
  · rw [if_pos e, e, Nat.beq_refl]
    rfl
  · rw [if_neg e]
    have : Nat.beq a b = false := by
      cases hb : Nat.beq a b
      · rfl
      · exact absurd (zbe hb) e
    rw [this]
    rfl
theorem zAt_rep {m j : Nat} : zAt (List.replicate m 99999) j = 99999 := by
  induction m generalizing j with
  | zero => rfl
  | succ m ih =>
    cases j with
    | zero => rfl
    | succ j => exact ih
theorem zMay_s (hg : zGa X P G pS h0 ρ0 ρ n σ K E h) (hl : zGl P ρ n ls lsC) (hs : zGl P ρ n st stC) (hh : zMay P K ls st = true) : P.al = true ∧ h.1 < 690 ∧ ((lsC ++ stC).all (aOkv h.1) && decide (h.1 < 80000)) = true := by
  unfold zMay at hh
  obtain ⟨c1, c2⟩ := zAnd hh
  obtain ⟨c2, c3⟩ := zAnd c2
  obtain ⟨c3, c4⟩ := zAnd c3
  have c2 := zbt c2
  rw [← hg.2.1.1] at c2 c3 c4
  refine ⟨c1, c2, ?_⟩
  rw [List.all_append, zAll_s (by omega) hl c3, zAll_s (by omega) hs c4, decide_eq_true (show h.1 < 80000 by omega)]
  rfl
theorem zZero_m {a m : Nat} {e : zE} (he : e ∈ zZero a m E) : e ∈ E ∨ ∃ f, f < m ∧ e = (a * 128 + f, 0, 1, zc 0 z0) := by
  induction m with
  | zero => exact Or.inl he
  | succ m ih =>
    unfold zZero at he
    rcases List.mem_cons.mp he with rfl | he
    · exact Or.inr ⟨m, Nat.lt_succ_self m, rfl⟩
    · rcases ih he with h1 | ⟨f, h1, h2⟩
      · exact Or.inl h1
      · exact Or.inr ⟨f, by omega, h2⟩
theorem zS_new {c : Nat} (hV : zVal P) (hc : c < 100) (hk : zNew P c n σ K E ls st k = true) (hg : zGa X P G pS h0 ρ0 ρ n σ K E h) (hl : zGl P ρ n ls lsC) (hs : zGl P ρ n st stC)
    (hC : ((lsC ++ stC).all (aOkv h.1) && decide (h.1 < 80000)) = true → C lsC (.ref h.1 :: stC) (aNew h 1 (aNF c) (fun _ => (c, 0, fun _ => none)))) : zNext X P G pS h0 ρ0 ρ n h k C := by
  unfold zNew at hk
  rcases zCd hk with ⟨c1, hk⟩ | ⟨-, hk⟩
  · obtain ⟨c1, c2⟩ := zAnd c1
    have c2 := zbl c2
    obtain ⟨al, hlt, hall⟩ := zMay_s hg hl hs c1
    have e1 : h.1 = K.1 := hg.2.1.1
    refine zNy2 (stC := .ref h.1 :: stC) hk (zGa.alloc (f := fun _ => (c, 0, fun _ => none)) hV al hg (fun s0 => ?_) (fun e he => ?_)) hl ⟨zGr (Or.inl ⟨by omega, e1⟩), hs⟩ (Nat.le_add_right _ _) (hC hall)
    · unfold zCe
      rw [show ((K.1 + 1, K.2.1 + aNF c, (K.1, c, 0, List.replicate (aNF c) 99999, 0) :: K.2.2) : zK).2.2 = (K.1, c, 0, List.replicate (aNF c) 99999, 0) :: K.2.2 from rfl, zLk_new]
      by_cases e : K.1 = s0
      · rw [if_pos e]
        have kn := (aNew_new (h := h) (m := 1) (sl := aNF c) (b := s0) (f := fun _ => (c, 0, fun _ => none)) (by omega)).1
        refine Or.inr ⟨by omega, by omega, by show s0 < h.1 + 1; omega, by omega, by rw [kn], fun _ => by rw [kn], fun j hj => ?_, fun q => absurd q (by show ¬ 700 ≤ 0; omega)⟩
        have hj : zAt (List.replicate (aNF c) 99999) j < 99999 := hj
        rw [zAt_rep] at hj
        omega
      · rw [if_neg e]
        exact Or.inl rfl
    · rcases zZero_m he with h1 | ⟨f, h1, rfl⟩
      · exact Or.inl h1
      · refine Or.inr ⟨?_, by show h.1 ≤ (K.1 * 128 + f) / 128; omega, rfl⟩
        have kn := (aNew_new (h := h) (m := 1) (sl := aNF c) (b := K.1) (f := fun _ => (c, 0, fun _ => none)) (by omega)).1
        exact zPlf (by omega) (by show K.1 < h.1 + 1; omega) (by omega) (by rw [kn]; exact hc)
  · cases hk
theorem zLen_s {kk : Nat → Bool} (hs : zSok ρ n σ) (hu : zG P ρ n v u) (h : zLen σ v kk = true) : ∃ x : Int32, u = .int x ∧ aInR x 100001 = true ∧ kk x.toNatClampNeg = true := by
  unfold zLen at h
  obtain ⟨x, rfl, hx⟩ := zG_rgi hu h
  obtain ⟨lo, hi, h1, h2, h⟩ := zRg_s hs hx h
  rcases zCd h with ⟨c, h⟩ | ⟨-, h⟩
  · obtain ⟨c1, c2⟩ := zAnd c
    obtain ⟨c2, c3⟩ := zAnd c2
    have c1 := ze c1
    have c2 := zl c2
    have c3 := zl c3
    rw [z0_eq] at c2
    have e : Int.ofNat 100000 = 100000 := rfl
    rw [e] at c3
    refine ⟨x, rfl, decide_eq_true ⟨by omega, by omega⟩, ?_⟩
    have : lo.toNat = x.toNatClampNeg := by
      show lo.toNat = x.toInt.toNat
      omega
    rwa [this] at h
  · cases h
theorem zS_newA {kd : Nat} (hV : zVal P) (hkd : 100 ≤ kd) (hk : zNewA P kd n σ K E ls st k = true) (hg : zGa X P G pS h0 ρ0 ρ n σ K E h) (hl : zGl P ρ n ls lsC) (hs : zGl P ρ n st stC)
    (hC : ∀ (x : Int32) q, stC = .int x :: q → ((lsC ++ stC).all (aOkv h.1) && decide (h.1 < 80000)) = true → aInR x 100001 = true → C lsC (.ref h.1 :: q) (aNew h 1 x.toNatClampNeg (fun _ => (kd, x.toNatClampNeg, fun _ => none)))) : zNext X P G pS h0 ρ0 ρ n h k C := by
  match st, hk, hs with
  | [], hk, _ => cases hk
  | v :: t, hk, hs =>
    obtain ⟨u, q, rfl, h1, hs1⟩ := zGl_cons hs
    have hk : (bif zMay P K ls (v :: t) then zLen σ v (zNewV kd n σ K E ls t k) else false) = true := hk
    rcases zCd hk with ⟨c1, hk⟩ | ⟨-, hk⟩
    · obtain ⟨al, hlt, hall⟩ := zMay_s hg hl hs c1
      obtain ⟨x, rfl, x1, hk⟩ := zLen_s hg.1 h1 hk
      unfold zNewV at hk
      have e1 : h.1 = K.1 := hg.2.1.1
      refine zNy2 (stC := .ref h.1 :: q) hk (zGa.alloc (f := fun _ => (kd, x.toNatClampNeg, fun _ => none)) hV al hg (fun s0 => ?_) (fun e he => ?_)) hl ⟨zGr (Or.inl ⟨by omega, e1⟩), hs1⟩ (Nat.le_add_right _ _) (hC x q rfl hall x1)
      · unfold zCe
        dsimp only
        rw [zLk_new]
        by_cases e : K.1 = s0
        · rw [if_pos e]
          have kn := (aNew_new (h := h) (m := 1) (sl := x.toNatClampNeg) (b := s0) (f := fun _ => (kd, x.toNatClampNeg, fun _ => none)) (by omega)).1
          refine Or.inr ⟨by omega, by omega, by show s0 < h.1 + 1; omega, by omega, by rw [kn], fun _ => by rw [kn], fun j hj => ?_, fun q => absurd q (by show ¬ 700 ≤ 0; omega)⟩
          have hj : zAt (List.replicate (bif Nat.ble 102 kd then x.toNatClampNeg else 0) 99999) j < 99999 := hj
          rw [zAt_rep] at hj
          omega
        · rw [if_neg e]
          exact Or.inl rfl
      · rcases List.mem_cons.mp he with rfl | he
        · refine Or.inr ⟨?_, by show h.1 ≤ (K.1 * 128 + 127) / 128; omega, rfl⟩
          have kn := (aNew_new (h := h) (m := 1) (sl := x.toNatClampNeg) (b := K.1) (f := fun _ => (kd, x.toNatClampNeg, fun _ => none)) (by omega)).1
          exact zPla (by show K.1 < h.1 + 1; omega) (by omega) (by rw [kn]; exact hkd)
        · exact Or.inl he
    · cases hk
theorem zSeq_at {i m j : Nat} : zAt (zSeq i m) j = if j < m then i + j else 99999 := by
  induction m generalizing i j with
  | zero =>
    rw [if_neg (by omega)]
    rfl
  | succ m ih =>
    cases j with
    | zero =>
      rw [if_pos (by omega)]
      rfl
    | succ j =>
      show zAt (zSeq (i + 1) m) j = _
      rw [ih]
      by_cases q : j < m
      · rw [if_pos q, if_pos (by omega)]
        omega
      · rw [if_neg q, if_neg (by omega)]
theorem zRows_at {N0 y x b : Nat} {ov : List (Nat × zC)} {d : zC} : zLk (zRows N0 y x ov) b d = if N0 + 1 ≤ b ∧ b < N0 + 1 + x then (100, y, [], 0) else zLk ov b d := by
  induction x with
  | zero =>
    rw [if_neg (by omega)]
    rfl
  | succ x ih =>
    show zLk ((N0 + 1 + x, 100, y, [], 0) :: zRows N0 y x ov) b d = _
    rw [zLk_new, ih]
    by_cases q : N0 + 1 + x = b
    · rw [if_pos q, if_pos (by omega)]
    · rw [if_neg q]
      by_cases q2 : N0 + 1 ≤ b ∧ b < N0 + 1 + x
      · rw [if_pos q2, if_pos (by omega)]
      · rw [if_neg q2, if_neg (by omega)]
theorem zRowE_m {N0 y x : Nat} {e : zE} (he : e ∈ zRowE N0 y x E) : e ∈ E ∨ ∃ j, j < x ∧ e = ((N0 + 1 + j) * 128 + 127, 0, y, zc 0 z0) := by
  induction x with
  | zero => exact Or.inl he
  | succ x ih =>
    unfold zRowE at he
    rcases List.mem_cons.mp he with rfl | he
    · exact Or.inr ⟨x, Nat.lt_succ_self x, rfl⟩
    · rcases ih he with h1 | ⟨j, h1, h2⟩
      · exact Or.inl h1
      · exact Or.inr ⟨j, by omega, h2⟩
theorem zS_newM (hV : zVal P) (hk : zNewM P n σ K E ls st k = true) (hg : zGa X P G pS h0 ρ0 ρ n σ K E h) (hl : zGl P ρ n ls lsC) (hs : zGl P ρ n st stC)
    (hC : ∀ (y x : Int32) q, stC = .int y :: .int x :: q → ((lsC ++ stC).all (aOkv h.1) && decide (h.1 < 80000)) = true → (aInR x 1001 && aInR y 100001) = true → C lsC (.ref h.1 :: q) (aNew h (1 + x.toNatClampNeg) (x.toNatClampNeg + x.toNatClampNeg * y.toNatClampNeg)
        (fun b => if b = h.1 then (105, x.toNatClampNeg, fun j => if j < x.toNatClampNeg then some (h.1 + 1 + j) else none) else (100, y.toNatClampNeg, fun _ => none)))) : zNext X P G pS h0 ρ0 ρ n h k C := by
  match st, hk, hs with
  | [], hk, _ => cases hk
  | [_], hk, _ => cases hk
  | v :: w :: t, hk, hs =>
    obtain ⟨u, q0, rfl, h1, hs0⟩ := zGl_cons hs
    obtain ⟨u2, q, rfl, h2, hs1⟩ := zGl_cons hs0
    have hk : (bif zMay P K ls (v :: w :: t) then zLen σ v fun y => zLen σ w (zNewW n σ K E ls t k y) else false) = true := hk
    rcases zCd hk with ⟨c1, hk⟩ | ⟨-, hk⟩
    · obtain ⟨al, hlt, hall⟩ := zMay_s hg hl hs c1
      obtain ⟨y, rfl, y1, hk⟩ := zLen_s hg.1 h1 hk
      obtain ⟨x, rfl, x1, hk⟩ := zLen_s hg.1 h2 hk
      unfold zNewW at hk
      rcases zCd hk with ⟨c2, hk⟩ | ⟨-, hk⟩
      · have c2 := zbl c2
        have e1 : h.1 = K.1 := hg.2.1.1
        have xr : aInR x 1001 = true := by
          have h9 := of_decide_eq_true x1
          refine decide_eq_true ⟨h9.1, ?_⟩
          have : x.toInt.toNat ≤ 690 := by
            have : x.toInt.toNat = x.toNatClampNeg := rfl
            omega
          omega
        have kn := fun b hb => (aNew_new (h := h) (m := 1 + x.toNatClampNeg) (sl := x.toNatClampNeg + x.toNatClampNeg * y.toNatClampNeg) (b := b) (f := fun b => if b = h.1 then (105, x.toNatClampNeg, fun j => if j < x.toNatClampNeg then some (h.1 + 1 + j) else none) else (100, y.toNatClampNeg, fun _ => none)) hb).1
        refine zNy2 (stC := .ref h.1 :: q) hk (zGa.alloc (f := fun b => if b = h.1 then (105, x.toNatClampNeg, fun j => if j < x.toNatClampNeg then some (h.1 + 1 + j) else none) else (100, y.toNatClampNeg, fun _ => none)) hV al hg (fun s0 => ?_) (fun e he => ?_)) hl ⟨zGr (Or.inl ⟨by omega, e1⟩), hs1⟩ (Nat.le_add_right _ _) (hC y x q rfl hall (by rw [xr, y1]; rfl))
        · unfold zCe
          dsimp only
          rw [zLk_new]
          by_cases e : K.1 = s0
          · rw [if_pos e]
            have kb := kn s0 (by omega)
            rw [if_pos (by omega)] at kb
            refine Or.inr ⟨by omega, by omega, by show s0 < h.1 + (1 + x.toNatClampNeg); omega, by omega, by rw [kb], fun _ => by rw [kb], fun j hj => ?_, fun q => absurd q (by show ¬ 700 ≤ 0; omega)⟩
            have hj : zAt (zSeq (K.1 + 1) x.toNatClampNeg) j < 99999 := hj
            rw [zSeq_at] at hj
            by_cases q : j < x.toNatClampNeg
            · refine ⟨h.1 + 1 + j, by rw [kb]; exact if_pos q, Or.inl ⟨?_, ?_⟩⟩
              · show zAt (zSeq (K.1 + 1) x.toNatClampNeg) j < 700
                rw [zSeq_at, if_pos q]
                omega
              · show h.1 + 1 + j = zAt (zSeq (K.1 + 1) x.toNatClampNeg) j
                rw [zSeq_at, if_pos q]
                omega
            · rw [if_neg q] at hj
              omega
          · rw [if_neg e, zRows_at]
            by_cases q : K.1 + 1 ≤ s0 ∧ s0 < K.1 + 1 + x.toNatClampNeg
            · rw [if_pos q]
              have kb := kn s0 (by omega)
              rw [if_neg (by omega)] at kb
              refine Or.inr ⟨by omega, by omega, by show s0 < h.1 + (1 + x.toNatClampNeg); omega, by omega, by rw [kb], fun _ => by rw [kb], fun j hj => ?_, fun q => absurd q (by show ¬ 700 ≤ 0; omega)⟩
              have hj : zAt [] j < 99999 := hj
              have : zAt [] j = 99999 := rfl
              omega
            · rw [if_neg q]
              exact Or.inl rfl
        · rcases zRowE_m he with h1 | ⟨j, h1, rfl⟩
          · exact Or.inl h1
          · refine Or.inr ⟨?_, by show h.1 ≤ ((K.1 + 1 + j) * 128 + 127) / 128; omega, rfl⟩
            have kb := kn (K.1 + 1 + j) (by omega)
            rw [if_neg (by omega)] at kb
            exact zPla (by show K.1 + 1 + j < h.1 + (1 + x.toNatClampNeg); omega) (by omega) (by rw [kb]; show 100 ≤ 100; omega)
      · cases hk
    · cases hk
end ZAL
/-! all instructions that end no block and call nothing -/
section ZDQ
variable {X : aX} {P : zP} {G : aH → Prop} {pS : Nat} {h0 h h' : aH} {ρ0 ρ ρ' : Nat → Int} {n n' : Nat} {σ : zS} {K : zK} {E E' : List zE} {v : zV} {u : Value} {ls st : List zV} {lsC stC : List Value}
  {k : Nat → zS → zK → List zE → List zV → List zV → Bool}
theorem aS0 {cal : Nat → List Value → aH → Option (Option Value × aH)} {i : aI} {ls st ls' st' : List Value} (hk : aKd i = 0) (e : aP i ls st = some (ls', st')) : aS X cal i ls st h = some (ls', st', h) := by
  unfold aS
  rw [hk]
  show (aP i ls st).map _ = _
  rw [e]
  rfl
theorem aS1 {cal : Nat → List Value → aH → Option (Option Value × aH)} {i : aI} {ls st st' : List Value} (hk : aKd i = 1) (e : aQ X i st h = some (st', h')) : aS X cal i ls st h = some (ls, st', h') := by
  unfold aS
  rw [hk]
  show (aQ X i st h).map _ = _
  rw [e]
  rfl
theorem aS2 {cal : Nat → List Value → aH → Option (Option Value × aH)} {i : aI} {ls st st' : List Value} (hk : aKd i = 2) (e : aA i ls st h = some (st', h')) : aS X cal i ls st h = some (ls, st', h') := by
  unfold aS
  rw [hk]
  show (aA i ls st h).map _ = _
  rw [e]
  rfl
theorem zDq_s {i : aI} (hV : zVal P) (hG : zHG P G) (hk : zDq P (zEn i) n σ K E ls st k = true) (hi : aKd i ≤ 2) (hg : zGa X P G pS h0 ρ0 ρ n σ K E h) (hl : zGl P ρ n ls lsC) (hs : zGl P ρ n st stC) :
    zNext X P G pS h0 ρ0 ρ n h k (fun lsC' stC' h' => ∀ cal, aS X cal i lsC stC h = some (lsC', stC', h')) := by
  cases i with
  | bipush z => exact zS_bi (z := z) hk hg hl hs (fun cal => aS0 rfl rfl)
  | ldc_w z =>
    have hk : zBi (Int32.ofNat (z % 4294967296)).toInt n σ K E ls st k = true := hk
    exact zS_bi hk hg hl hs (fun cal => aS0 rfl (by
      show some (_, Value.int (Int32.ofNat (z % 4294967296)) :: _) = some (_, Value.int (Int32.ofInt (Int32.ofNat (z % 4294967296)).toInt) :: _)
      rw [Int32.ofInt_toInt]))
  | ldc2_w z =>
    have hk : zPush (2, (Int64.ofNat (z % 18446744073709551616)).toInt, z0, 0) n σ K E ls st k = true := hk
    exact zS_push hk hg hl hs (zGj (znC (w := 2) rfl)) (fun cal => aS0 rfl rfl)
  | lconst z =>
    have hk : zPush (2, (Int64.ofNat (z : Nat)).toInt, z0, 0) n σ K E ls st k = true := hk
    exact zS_push hk hg hl hs (zGj (znC (w := 2) rfl)) (fun cal => aS0 rfl rfl)
  | ldc z =>
    have hk : zPush (zcell (90001 + z % 100)) n σ K E ls st k = true := hk
    exact zS_push hk hg hl hs (zGr (Or.inr (Or.inr ⟨by omega, rfl⟩))) (fun cal => aS0 rfl rfl)
  | iload j =>
    have hk : zLoad 0 j n σ K E ls st k = true := hk
    refine zS_load hk hg hl hs (fun v u h1 h2 h3 cal => ?_)
    obtain ⟨x, rfl, -⟩ := zG_int h2 (by rcases zIs_t h3 with e | e <;> omega)
    exact aS0 rfl (by show (match lsC[j]? with | some (.int x) => some (lsC, Value.int x :: stC) | _ => none) = _; rw [h1])
  | lload j =>
    have hk : zLoad 2 j n σ K E ls st k = true := hk
    refine zS_load hk hg hl hs (fun v u h1 h2 h3 cal => ?_)
    obtain ⟨x, rfl, -⟩ := zG_long h2 (by rcases zIs_t h3 with e | e <;> omega)
    exact aS0 rfl (by show (match lsC[j]? with | some (.long x) => some (lsC, Value.long x :: stC) | _ => none) = _; rw [h1])
  | aload j =>
    have hk : zLoad 4 j n σ K E ls st k = true := hk
    refine zS_load hk hg hl hs (fun v u h1 h2 h3 cal => ?_)
    obtain ⟨x, rfl, -⟩ := zG_ref h2 (by rcases zIs_t h3 with e | e <;> omega)
    exact aS0 rfl (by show (match lsC[j]? with | some (.ref x) => some (lsC, Value.ref x :: stC) | _ => none) = _; rw [h1])
  | istore j =>
    have hk : zStore 0 j n σ K E ls st k = true := hk
    refine zS_store hk hg hl hs (fun v u t e h2 h3 h4 h5 cal => ?_)
    obtain ⟨x, rfl, -⟩ := zG_int h2 (by rcases zIs_t h3 with e | e <;> omega)
    subst e
    exact aS0 rfl (by show (if j < lsC.length then some (aSt lsC j (.int x), t) else none) = _; rw [if_pos h4, h5])
  | astore j =>
    have hk : zStore 4 j n σ K E ls st k = true := hk
    refine zS_store hk hg hl hs (fun v u t e h2 h3 h4 h5 cal => ?_)
    obtain ⟨x, rfl, -⟩ := zG_ref h2 (by rcases zIs_t h3 with e | e <;> omega)
    subst e
    exact aS0 rfl (by show (if j < lsC.length then some (aSt lsC j (.ref x), t) else none) = _; rw [if_pos h4, h5])
  | lstore j =>
    have hk : zStoreL j n σ K E ls st k = true := hk
    refine zS_storeL hk hg hl hs (fun v u t e h2 h3 h4 h5 cal => ?_)
    obtain ⟨x, rfl, -⟩ := zG_long h2 (by rcases zIs_t h3 with e | e <;> omega)
    subst e
    exact aS0 rfl (by show (if j + 1 < lsC.length then some ((aSt lsC j (.long x)).set (j + 1) aD, t) else none) = _; rw [if_pos h4, h5])
  | iinc j c =>
    have hk : zInc j c n σ K E ls st k = true := hk
    refine zS_inc hk hg hl hs (fun x h1 h2 h3 cal => ?_)
    exact aS0 rfl (by simp only [aP, h1, if_pos h2, h3])
  | dup =>
    have hk : zDup n σ K E ls st k = true := hk
    refine zS_dup hk hg hl hs (fun u t e h1 cal => ?_)
    subst e
    exact aS0 rfl (by show (if u.category = 1 then some (lsC, u :: u :: t) else none) = _; rw [if_pos h1])
  | pop =>
    have hk : zPop n σ K E ls st k = true := hk
    refine zS_pop hk hg hl hs (fun u t e h1 cal => ?_)
    subst e
    exact aS0 rfl (by show (if u.category = 1 then some (lsC, t) else none) = _; rw [if_pos h1])
  | dup2 =>
    have hk : zDup2 n σ K E ls st k = true := hk
    refine zS_dup2 hk hg hl hs (fun u w t e h1 h2 cal => ?_)
    subst e
    exact aS0 rfl (by show (if u.category = 1 ∧ w.category = 1 then some (lsC, u :: w :: u :: w :: t) else none) = _; rw [if_pos ⟨h1, h2⟩])
  | iadd =>
    have hk : zBin (zAdd 0) n σ K E ls st k = true := hk
    refine zBin_ii (zt_rg2 (fun _ _ _ _ => rfl)) hg hl hs hk (fun x y a b t kk e h1 h2 h3 => ?_)
    obtain ⟨v, hv, hk⟩ := zo_add hg.1 h1 h2 h3
    exact ⟨v, _, hv, hk, fun cal => by subst e; exact aS0 rfl rfl⟩
  | isub =>
    have hk : zBin (zSub 0) n σ K E ls st k = true := hk
    refine zBin_ii zt_sub hg hl hs hk (fun x y a b t kk e h1 h2 h3 => ?_)
    obtain ⟨v, hv, hk⟩ := zo_sub hg.1 h1 h2 h3
    exact ⟨v, _, hv, hk, fun cal => by subst e; exact aS0 rfl rfl⟩
  | imul =>
    have hk : zBin (zMul 0) n σ K E ls st k = true := hk
    refine zBin_ii (zt_rg2 (fun _ _ _ _ => rfl)) hg hl hs hk (fun x y a b t kk e h1 h2 h3 => ?_)
    obtain ⟨v, hv, hk⟩ := zo_mul hg.1 h1 h2 h3
    exact ⟨v, _, hv, hk, fun cal => by subst e; exact aS0 rfl rfl⟩
  | iand =>
    have hk : zBin (zBits (fun x y => x &&& y) zgAnd) n σ K E ls st k = true := hk
    refine zBin_ii (zt_rg2 (fun _ _ _ _ => rfl)) hg hl hs hk (fun x y a b t kk e h1 h2 h3 => ?_)
    obtain ⟨v, hv, hk⟩ := zo_bits (fun lx ux ly uy => zg_and lx ux ly uy) hg.1 h1 h2 h3
    exact ⟨v, _, hv, hk, fun cal => by subst e; exact aS0 rfl rfl⟩
  | ior =>
    have hk : zBin (zBits (fun x y => x ||| y) zgBit) n σ K E ls st k = true := hk
    refine zBin_ii (zt_rg2 (fun _ _ _ _ => rfl)) hg hl hs hk (fun x y a b t kk e h1 h2 h3 => ?_)
    obtain ⟨v, hv, hk⟩ := zo_bits (fun lx ux ly uy => zg_or lx ux ly uy) hg.1 h1 h2 h3
    exact ⟨v, _, hv, hk, fun cal => by subst e; exact aS0 rfl rfl⟩
  | ixor =>
    have hk : zBin (zBits (fun x y => x ^^^ y) zgTop) n σ K E ls st k = true := hk
    refine zBin_ii (zt_rg2 (fun _ _ _ _ => rfl)) hg hl hs hk (fun x y a b t kk e h1 h2 h3 => ?_)
    obtain ⟨v, hv, hk⟩ := zo_bits (fun lx ux ly uy => zg_top lx ux ly uy) hg.1 h1 h2 h3
    exact ⟨v, _, hv, hk, fun cal => by subst e; exact aS0 rfl rfl⟩
  | ishl =>
    have hk : zBin (zBits (fun x y => x <<< (y &&& 31)) zgTop) n σ K E ls st k = true := hk
    refine zBin_ii (zt_rg2 (fun _ _ _ _ => rfl)) hg hl hs hk (fun x y a b t kk e h1 h2 h3 => ?_)
    obtain ⟨v, hv, hk⟩ := zo_bits (f := fun x y => x <<< (y &&& 31)) (fun lx ux ly uy => zg_top (f := fun x y => x <<< (y &&& 31)) lx ux ly uy) hg.1 h1 h2 h3
    exact ⟨v, _, hv, hk, fun cal => by subst e; exact aS0 rfl rfl⟩
  | ishr =>
    have hk : zBin (zBits (fun x y => x >>> (y &&& 31)) zgTop) n σ K E ls st k = true := hk
    refine zBin_ii (zt_rg2 (fun _ _ _ _ => rfl)) hg hl hs hk (fun x y a b t kk e h1 h2 h3 => ?_)
    obtain ⟨v, hv, hk⟩ := zo_bits (f := fun x y => x >>> (y &&& 31)) (fun lx ux ly uy => zg_top (f := fun x y => x >>> (y &&& 31)) lx ux ly uy) hg.1 h1 h2 h3
    exact ⟨v, _, hv, hk, fun cal => by subst e; exact aS0 rfl rfl⟩
  | iushr =>
    have hk : zBin (zBits (fun x y => (x.toUInt32 >>> (y.toUInt32 &&& Int32.toUInt32 31)).toInt32) zgUsh) n σ K E ls st k = true := hk
    refine zBin_ii (zt_rg2 (fun _ _ _ _ => rfl)) hg hl hs hk (fun x y a b t kk e h1 h2 h3 => ?_)
    obtain ⟨v, hv, hk⟩ := zo_bits (f := fun x y => (x.toUInt32 >>> (y.toUInt32 &&& Int32.toUInt32 31)).toInt32) (fun lx ux ly uy => zg_ush lx ux ly uy) hg.1 h1 h2 h3
    exact ⟨v, _, hv, hk, fun cal => by subst e; exact aS0 rfl rfl⟩
  | idiv =>
    have hk : zBin (zDiv 0) n σ K E ls st k = true := hk
    refine zBin_ii (zt_rg2 (fun _ _ _ _ => rfl)) hg hl hs hk (fun x y a b t kk e h1 h2 h3 => ?_)
    obtain ⟨hb, v, hv, hk⟩ := zo_div hg.1 h1 h2 h3
    exact ⟨v, _, hv, hk, fun cal => by subst e; exact aS0 rfl (by show (if b = 0 then none else some (lsC, Value.int (a / b) :: t)) = _; rw [if_neg hb])⟩
  | irem =>
    have hk : zBin zRem n σ K E ls st k = true := hk
    refine zBin_ii (zt_rg2 (fun _ _ _ _ => rfl)) hg hl hs hk (fun x y a b t kk e h1 h2 h3 => ?_)
    obtain ⟨hb, v, hv, hk⟩ := zo_rem hg.1 h1 h2 h3
    exact ⟨v, _, hv, hk, fun cal => by subst e; exact aS0 rfl (by show (if b = 0 then none else some (lsC, Value.int (a - a / b * b) :: t)) = _; rw [if_neg hb])⟩
  | ineg =>
    have hk : zUn (fun σ v => zSub 0 σ (zc 0 z0) v) n σ K E ls st k = true := hk
    obtain ⟨x, t, ux, tC, rfl, rfl, h1, h2, hk⟩ := zUn_i hk hs
    obtain ⟨a, rfl, ha⟩ := zG_int h1 (zt_sub _ _ _ hk).2
    obtain ⟨v, hv, hk⟩ := zo_neg hg.1 ha hk
    exact zNx (stC := .int (-a) :: tC) hk hg hl ⟨zGi hv, h2⟩ (fun cal => aS0 rfl rfl)
  | i2l =>
    have hk : zUn zI2l n σ K E ls st k = true := hk
    obtain ⟨x, t, ux, tC, rfl, rfl, h1, h2, hk⟩ := zUn_i hk hs
    have ht : x.1 ≤ 1 := by
      unfold zI2l at hk
      rcases zCd hk with ⟨c, -⟩ | ⟨-, hk⟩
      · exact zbl c
      · cases hk
    obtain ⟨a, rfl, ha⟩ := zG_int h1 (by omega)
    obtain ⟨v, hv, hk⟩ := zo_i2l ha hk
    exact zNx (stC := .long a.toInt64 :: tC) hk hg hl ⟨zGj hv, h2⟩ (fun cal => aS0 rfl rfl)
  | l2i =>
    have hk : zUn zL2i n σ K E ls st k = true := hk
    obtain ⟨x, t, ux, tC, rfl, rfl, h1, h2, hk⟩ := zUn_i hk hs
    obtain ⟨a, rfl, ha⟩ := zG_rgl h1 hk
    obtain ⟨v, hv, hk⟩ := zo_l2i hg.1 ha hk
    exact zNx (stC := .int a.toInt32 :: tC) hk hg hl ⟨zGi hv, h2⟩ (fun cal => aS0 rfl rfl)
  | ladd =>
    have hk : zBin (zAdd 2) n σ K E ls st k = true := hk
    refine zBin_jj (zt_rg2 (fun _ _ _ _ => rfl)) hg hl hs hk (fun x y a b t kk e h1 h2 h3 => ?_)
    obtain ⟨v, hv, hk⟩ := zo_ladd hg.1 h1 h2 h3
    exact ⟨v, _, hv, hk, fun cal => by subst e; exact aS0 rfl rfl⟩
  | lsub =>
    have hk : zBin (zSub 2) n σ K E ls st k = true := hk
    refine zBin_jj zt_sub hg hl hs hk (fun x y a b t kk e h1 h2 h3 => ?_)
    obtain ⟨v, hv, hk⟩ := zo_lsub hg.1 h1 h2 h3
    exact ⟨v, _, hv, hk, fun cal => by subst e; exact aS0 rfl rfl⟩
  | lmul =>
    have hk : zBin (zMul 2) n σ K E ls st k = true := hk
    refine zBin_jj (zt_rg2 (fun _ _ _ _ => rfl)) hg hl hs hk (fun x y a b t kk e h1 h2 h3 => ?_)
    obtain ⟨v, hv, hk⟩ := zo_lmul hg.1 h1 h2 h3
    exact ⟨v, _, hv, hk, fun cal => by subst e; exact aS0 rfl rfl⟩
  | ldiv =>
    have key : ∀ σ, zGa X P G pS h0 ρ0 ρ n σ K E h → zBin (zDiv 2) n σ K E ls st k = true → zNext X P G pS h0 ρ0 ρ n h k (fun lsC' stC' h' => ∀ cal, aS X cal .ldiv lsC stC h = some (lsC', stC', h')) := by
      intro σ hg hk
      refine zBin_jj (zt_rg2 (fun _ _ _ _ => rfl)) hg hl hs hk (fun x y a b t kk e h1 h2 h3 => ?_)
      obtain ⟨hb, v, hv, hk⟩ := zo_ldiv hg.1 h1 h2 h3
      exact ⟨v, _, hv, hk, fun cal => by subst e; exact aS0 rfl (by show (if b = 0 then none else some (lsC, Value.long (a / b) :: t)) = _; rw [if_neg hb])⟩
    have hk : zLdv n σ K E ls st k = true := hk
    match st, hk, hs, key with
    | [], hk, _, key => exact key σ hg hk
    | [_], hk, _, key => exact key σ hg hk
    | [_, _], hk, _, key => exact key σ hg hk
    | y :: x :: u :: r, hk, hs, key =>
      have hk : zLdvQ y x u n σ K E ls (y :: x :: u :: r) k = true := hk
      unfold zLdvQ at hk
      rcases zCd hk with ⟨c, hk⟩ | ⟨-, hk⟩
      · obtain ⟨k1, k2⟩ := zAnd hk
        unfold zLdvC at c
        obtain ⟨c, -⟩ := zAnd c
        obtain ⟨uY, q0, rfl, h1, hs0⟩ := zGl_cons hs
        obtain ⟨b, rfl, hb⟩ := zG_long h1 (Or.inl (zbe c))
        by_cases q : b.toInt ≤ x.2.1 / u.2.1
        · obtain ⟨s', g', k1⟩ := zLe_s (Y := x.2.1 / u.2.1) hg.1 hb (znC rfl) q k1
          exact key s' (hg.sym g') k1
        · obtain ⟨s', g', k2⟩ := zLt_s (X := x.2.1 / u.2.1) hg.1 (znC rfl) hb (by omega) k2
          exact key s' (hg.sym g') k2
      · exact key σ hg hk
  | lshl =>
    have hk : zBin zLsh n σ K E ls st k = true := hk
    obtain ⟨y, x, t, uy, ux, tC, rfl, rfl, h1, h2, h3, hk⟩ := zBin_i hk hs
    have t1 := zRg_tag hk
    obtain ⟨_, _, hk2⟩ := t1.2
    obtain ⟨a, rfl, ha⟩ := zG_long h2 t1.1
    obtain ⟨b, rfl, hb⟩ := zG_rgi h1 hk2
    obtain ⟨v, hv, hk⟩ := zo_lsh hg.1 ha hb hk
    exact zNx (stC := .long (a <<< (b.toInt64 &&& 63)) :: tC) hk hg hl ⟨zGj hv, h3⟩ (fun cal => aS0 rfl rfl)
  | lcmp =>
    have hk : zLcmp n σ K E ls st k = true := hk
    exact zS_lcmp hk hg hl hs (fun a b t e cal => by subst e; exact aS0 rfl rfl)
  | getfield z =>
    have hk : zGetf P (z / 1000 % 100) (z % 1000 / 4) (z % 4) n σ K E ls st k = true := hk
    refine zS_getf hV hk (Nat.mod_lt _ (by omega)) hg hl hs (fun a q e h1 h2 cal => ?_)
    subst e
    exact aS1 rfl (by show (if a < h.1 ∧ (h.2.2.1 a).1 = z / 1000 % 100 then _ else none) = _; rw [if_pos ⟨h1, h2⟩])
  | putfield z =>
    have hk : zPutf P (z / 1000 % 100) (z % 1000 / 4) (z % 4) n σ K E ls st k = true := hk
    refine zS_putf hV hG hk (Nat.mod_lt _ (by omega)) hg hl hs (fun a x q e h1 h2 h3 cal => ?_) (fun a r q e h1 h2 h3 h4 cal => ?_)
    · subst e
      exact aS1 rfl (by show (if a < h.1 ∧ (h.2.2.1 a).1 = z / 1000 % 100 ∧ _ then _ else none) = _; rw [if_pos ⟨h1, h2, h3⟩])
    · subst e
      exact aS1 rfl (by show (if a < h.1 ∧ (h.2.2.1 a).1 = z / 1000 % 100 ∧ _ then _ else none) = _; rw [if_pos ⟨h1, h2, h3, h4⟩])
  | iaload =>
    have hk : zIld P 100 n σ K E ls st k = true := hk
    refine zS_ild hV (Or.inl rfl) hk hg hl hs (fun x a q e h1 h2 h3 h4 cal => ?_) (fun x q e _ h4 cal => ?_)
    · subst e
      exact aS1 rfl (by show (if a = 90000 then _ else if a < h.1 ∧ (h.2.2.1 a).1 = 100 ∧ _ then _ else none) = _; rw [if_neg h1, if_pos ⟨h2, h3, h4⟩])
    · subst e
      exact aS1 rfl (by unfold aQ; dsimp only; rw [if_pos rfl, if_pos h4])
  | baload =>
    have hk : zIld P 101 n σ K E ls st k = true := hk
    refine zS_ild hV (Or.inr rfl) hk hg hl hs (fun x a q e h1 h2 h3 h4 cal => ?_) (fun x q e c h4 cal => by omega)
    subst e
    exact aS1 rfl (by show (if a < h.1 ∧ (h.2.2.1 a).1 = 101 ∧ _ then _ else none) = _; rw [if_pos ⟨h2, h3, h4⟩])
  | iastore =>
    have hk : zIst P 100 n σ K E ls st k = true := hk
    refine zS_ist hV hG (Or.inl rfl) hk hg hl hs (fun y x a q e h1 h2 h3 _ cal => ?_)
    subst e
    exact aS1 rfl (by show (if a < h.1 ∧ (h.2.2.1 a).1 = 100 ∧ _ then _ else none) = _; rw [if_pos ⟨h1, h2, h3⟩])
  | bastore =>
    have hk : zIst P 101 n σ K E ls st k = true := hk
    refine zS_ist hV hG (Or.inr rfl) hk hg hl hs (fun y x a q e h1 h2 h3 h4 cal => ?_)
    subst e
    exact aS1 rfl (by show (if a < h.1 ∧ (h.2.2.1 a).1 = 101 ∧ _ ∧ (y = 0 ∨ y = 1) then _ else none) = _; rw [if_pos ⟨h1, h2, h3, h4.resolve_left (by omega)⟩])
  | aaload =>
    have hk : zAld P n σ K E ls st k = true := hk
    refine zS_ald hk hg hl hs (fun x a q e h1 h2 h3 cal => ?_)
    subst e
    exact aS1 rfl (by show (if a < h.1 ∧ (102 ≤ (h.2.2.1 a).1 ∧ (h.2.2.1 a).1 < 106) ∧ _ then _ else none) = _; rw [if_pos ⟨h1, h2, h3⟩])
  | aastore =>
    have hk : zAst P n σ K E ls st k = true := hk
    refine zS_ast hV hk hg hl hs (fun r x a q e h1 h2 h3 h4 h5 h6 cal => ?_)
    subst e
    exact aS1 rfl (by show (if a < h.1 ∧ r < h.1 ∧ (h.2.2.1 r).1 < 100 ∧ ((h.2.2.1 r).1 < 13 ∧ _) ∧ 102 ≤ (h.2.2.1 a).1 ∧ _ then _ else none) = _; rw [if_pos ⟨h1, h2, by omega, ⟨h3, h4⟩, h5, h6⟩])
  | arraylength =>
    have hk : zAlen P n σ K E ls st k = true := hk
    refine zS_alen hk hV hg hl hs (fun a q e h1 h2 h3 cal => ?_)
    subst e
    exact aS1 rfl (by show (if a = 90000 then _ else if a < h.1 ∧ (100 ≤ (h.2.2.1 a).1 ∧ (h.2.2.1 a).1 < 106) then _ else none) = _; rw [if_neg h1, if_pos ⟨h2, h3⟩])
  | new z =>
    have hk : zNew P (z % 100) n σ K E ls st k = true := hk
    refine zS_new hV (Nat.mod_lt _ (by omega)) hk hg hl hs (fun e cal => ?_)
    exact aS2 rfl (by unfold aA; rw [if_pos e])
  | newarray t =>
    cases t with
    | int =>
      have hk : zNewA P 100 n σ K E ls st k = true := hk
      refine zS_newA hV (by omega) hk hg hl hs (fun x q e h1 h2 cal => ?_)
      subst e
      exact aS2 rfl (by unfold aA; rw [if_pos h1]; show (if aInR x 100001 = true then _ else none) = _; rw [if_pos h2])
    | boolean =>
      have hk : zNewA P 101 n σ K E ls st k = true := hk
      refine zS_newA hV (by omega) hk hg hl hs (fun x q e h1 h2 cal => ?_)
      subst e
      exact aS2 rfl (by unfold aA; rw [if_pos h1]; show (if aInR x 100001 = true then _ else none) = _; rw [if_pos h2])
    | _ => cases (show false = true from hk)
  | anewarray z =>
    have hk : zNewA P (100 + z % 100) n σ K E ls st k = true := hk
    refine zS_newA hV (by omega) hk hg hl hs (fun x q e h1 h2 cal => ?_)
    subst e
    exact aS2 rfl (by unfold aA; rw [if_pos h1]; show (if aInR x 100001 = true then _ else none) = _; rw [if_pos h2])
  | multianewarray z m =>
    match m, hk with
    | 0, hk => cases (show false = true from hk)
    | 1, hk => cases (show false = true from hk)
    | 2, hk =>
      have hk : zNewM P n σ K E ls st k = true := hk
      refine zS_newM hV hk hg hl hs (fun y x q e h1 h2 cal => ?_)
      subst e
      exact aS2 rfl (by unfold aA; rw [if_pos h1]; show (if (aInR x 1001 && aInR y 100001) = true then _ else none) = _; rw [if_pos h2])
    | m + 3, hk => cases (show false = true from hk)
  | _ => first | cases (show false = true from hk) | (exact absurd hi (by decide)) | (exact absurd hi (by show ¬ (3 ≤ 2); decide)) | (exact absurd hi (by show ¬ (4 ≤ 2); decide))
end ZDQ
/-! what is known against what is asked -/
def zGp (ρ : Nat → Int) (n : Nat) (h : aH) (e : zE) : Prop := zPl h e.1 ∧ ∀ i, e.2.1 ≤ i → i < e.2.2.1 → (e.1 % 128 ≠ 127 → i = 0) → zN ρ n 0 e.2.2.2 (zM h e.1 i).toInt
/-- values of the asked one's symbols, and their numbers -/
def zTh (ρ : Nat → Int) (n : Nat) (th : List zV) (r : Nat → Int) : Prop := ∀ i v, th[i]? = some v → (v.1 = 0 ∨ v.1 = 2) ∧ zN ρ n v.1 v (r i)
section ZFI
variable {X : aX} {P : zP} {G : aH → Prop} {pS : Nat} {h0 h h' : aH} {ρ0 ρ ρ' : Nat → Int} {n n' : Nat} {σ : zS} {K : zK} {E E' : List zE} {v u : zV} {x : Value} {th : List zV} {r : Nat → Int}
theorem zGp_e {e : zE} (k : zGp ρ n h e) : zGe X ρ n h e := (zGe_pl k.1).mpr k.2
theorem zThN_at {j : Nat} : (∃ v, th[j]? = some v ∧ zThN th j = v) ∨ (th.length ≤ j ∧ zThN th j = (8, z0, z0, 0)) := by
  induction th generalizing j with
  | nil => exact Or.inr ⟨Nat.zero_le _, rfl⟩
  | cons a q ih =>
    cases j with
    | zero => exact Or.inl ⟨a, rfl, rfl⟩
    | succ j =>
      rcases ih (j := j) with ⟨v, h1, h2⟩ | ⟨h1, h2⟩
      · exact Or.inl ⟨v, h1, h2⟩
      · exact Or.inr ⟨by rw [List.length_cons]; omega, h2⟩
/-- a number of the asked value, of the value in the known one's symbols -/
theorem zSub_n {w : Nat} {Z : Int} (hth : zTh ρ n th r) (hw : w = 0 ∨ w = 2) (ht : (zSubst th u).1 = w ∨ (zSubst th u).1 = w + 1) : zN r th.length w u Z ↔ zN ρ n w (zSubst th u) Z := by
  unfold zSubst at ht ⊢
  cases c : (Nat.beq u.1 0 || Nat.beq u.1 2)
  · rw [c] at ht
    have ht : u.1 = w ∨ u.1 = w + 1 := ht
    obtain ⟨c1, c2⟩ := zOrF c
    have c1 := zbn c1
    have c2 := zbn c2
    constructor
    · rintro (⟨h1, -⟩ | h1)
      · omega
      · exact Or.inr h1
    · rintro (⟨h1, -⟩ | h1)
      · have h1 : u.1 = w := h1
        omega
      · exact Or.inr h1
  · rw [c] at ht
    have hu : u.1 = 0 ∨ u.1 = 2 := by
      rcases zOr c with c | c
      · exact Or.inl (zbe c)
      · exact Or.inr (zbe c)
    cases c2 : zeq u.2.2.1 z0
    · rw [c2] at ht
      have c2 := zeF c2
      rw [z0_eq] at c2
      have ht : (zSubA u (zThN th u.2.2.2)).1 = w ∨ (zSubA u (zThN th u.2.2.2)).1 = w + 1 := ht
      show zN r th.length w u Z ↔ zN ρ n w (zSubA u (zThN th u.2.2.2)) Z
      rcases zThN_at (th := th) (j := u.2.2.2) with ⟨v, h1, h2⟩ | ⟨h1, h2⟩
      · rw [h2] at ht ⊢
        obtain ⟨hv, hn⟩ := hth _ _ h1
        have hlt : u.2.2.2 < th.length := (List.getElem?_eq_some_iff.mp h1).1
        have hr : r u.2.2.2 = v.2.1 + v.2.2.1 * ρ v.2.2.2 := by
          rcases hn with ⟨-, -, e⟩ | ⟨e, -⟩
          · exact e
          · omega
        have hvs : v.2.2.1 = 0 ∨ v.2.2.2 < n := by
          rcases hn with ⟨-, e, -⟩ | ⟨e, -⟩
          · exact e
          · omega
        unfold zSubA at ht ⊢
        have c3 : (Nat.beq v.1 0 || Nat.beq v.1 2) = true := by rcases hv with e | e <;> rw [e] <;> rfl
        rw [c3] at ht ⊢
        have ht : (zAff u.1 (u.2.1 + u.2.2.1 * v.2.1) (u.2.2.1 * v.2.2.1) v.2.2.2).1 = w ∨ (zAff u.1 (u.2.1 + u.2.2.1 * v.2.1) (u.2.2.1 * v.2.2.1) v.2.2.2).1 = w + 1 := ht
        have et : (zAff u.1 (u.2.1 + u.2.2.1 * v.2.1) (u.2.2.1 * v.2.2.1) v.2.2.2).1 = u.1 := by
          unfold zAff
          cases zeq (u.2.2.1 * v.2.2.1) z0 <;> rfl
        rw [et] at ht
        have huw : u.1 = w := by omega
        have key : u.2.1 + u.2.2.1 * r u.2.2.2 = (u.2.1 + u.2.2.1 * v.2.1) + (u.2.2.1 * v.2.2.1) * ρ v.2.2.2 := by
          rw [hr, Int.mul_add, Int.mul_assoc]
          omega
        show zN r th.length w u Z ↔ zN ρ n w (zAff u.1 (u.2.1 + u.2.2.1 * v.2.1) (u.2.2.1 * v.2.2.1) v.2.2.2) Z
        constructor
        · rintro (⟨-, -, h5⟩ | ⟨h5, -⟩)
          · rw [huw]
            refine zAff_s ?_ (by rw [h5, key])
            rcases hvs with e | e
            · exact Or.inl (by rw [e]; simp)
            · exact Or.inr e
          · omega
        · intro h5
          refine Or.inl ⟨huw, Or.inr hlt, ?_⟩
          rw [key]
          rw [huw] at h5
          unfold zAff at h5
          cases c4 : zeq (u.2.2.1 * v.2.2.1) z0
          · rw [c4] at h5
            rcases h5 with ⟨-, -, e⟩ | ⟨e, -⟩
            · exact e
            · have e : w = w + 1 := e
              omega
          · rw [c4] at h5
            have c4 := ze c4
            rw [z0_eq] at c4
            rcases h5 with ⟨-, -, e⟩ | ⟨e, -⟩
            · have e : Z = (u.2.1 + u.2.2.1 * v.2.1) + z0 * ρ 0 := e
              rw [c4, e, z0_eq]
              simp
            · have e : w = w + 1 := e
              omega
      · rw [h2] at ht
        have : (zSubA u (8, z0, z0, 0)).1 = 8 := rfl
        omega
    · have c2 := ze c2
      rw [z0_eq] at c2
      constructor
      · rintro (⟨h1, -, h5⟩ | h1)
        · exact Or.inl ⟨h1, Or.inl c2, by show Z = u.2.1 + u.2.2.1 * ρ u.2.2.2; rw [h5, c2]; simp⟩
        · exact Or.inr h1
      · rintro (⟨h1, -, h5⟩ | h1)
        · have h5 : Z = u.2.1 + u.2.2.1 * ρ u.2.2.2 := h5
          exact Or.inl ⟨h1, Or.inl c2, by rw [h5, c2]; simp⟩
        · exact Or.inr h1
theorem zSubst_t (h : ¬ (u.1 = 0 ∨ u.1 = 2)) : zSubst th u = u := by
  unfold zSubst
  have c : (Nat.beq u.1 0 || Nat.beq u.1 2) = false := by
    cases c : (Nat.beq u.1 0 || Nat.beq u.1 2)
    · rfl
    · rcases zOr c with c | c
      · exact absurd (Or.inl (zbe c)) h
      · exact absurd (Or.inr (zbe c)) h
  rw [c]
  rfl
theorem zSubst_1 : (zSubst th u).1 = u.1 ∨ (zSubst th u).1 = 8 := by
  by_cases q : u.1 = 0 ∨ u.1 = 2
  · unfold zSubst
    cases (Nat.beq u.1 0 || Nat.beq u.1 2)
    · exact Or.inl rfl
    · cases zeq u.2.2.1 z0
      · show (zSubA u (zThN th u.2.2.2)).1 = u.1 ∨ _
        unfold zSubA
        cases (Nat.beq (zThN th u.2.2.2).1 0 || Nat.beq (zThN th u.2.2.2).1 2)
        · exact Or.inr rfl
        · left
          show (zAff _ _ _ _).1 = _
          unfold zAff
          cases zeq (u.2.2.1 * (zThN th u.2.2.2).2.2.1) z0 <;> rfl
      · exact Or.inl rfl
  · rw [zSubst_t q]
    exact Or.inl rfl
theorem zIn1_s {a : Nat} {l : List Nat} (h : zIn1 a l = true) : a ∈ l := by
  induction l with
  | nil => cases h
  | cons b r ih =>
    rcases zOr h with h | h
    · rw [zbe h]
      exact List.mem_cons_self
    · exact List.mem_cons_of_mem _ (ih h)
/-- of a number -/
theorem zFitN_s {w : Nat} {Z : Int} (hs : zSok ρ n σ) (hw : w = 0 ∨ w = 2) (hv : zN ρ n w v Z) (h : (bif Nat.beq u.1 w then zFitA w σ v u else zFitR w σ v u) = true) (ht : u.1 = w ∨ u.1 = w + 1) (hsym : u.1 = w → u.2.2.1 = 0 ∨ u.2.2.2 < n ∨ zSyn v u = true ∨ True) : zN ρ n w u Z := by
  rcases zCd h with ⟨c, h⟩ | ⟨c, h⟩
  · have c := zbe c
    unfold zFitA at h
    rcases zCd h with ⟨d, -⟩ | ⟨-, h⟩
    · unfold zSyn at d
      obtain ⟨d1, d2⟩ := zAnd d
      obtain ⟨d2, d3⟩ := zAnd d2
      obtain ⟨d3, d4⟩ := zAnd d3
      have d1 := zbe d1
      have d2 := ze d2
      have d3 := ze d3
      rcases hv with ⟨e1, e2, e3⟩ | ⟨e1, -⟩
      · refine Or.inl ⟨c, ?_, ?_⟩
        · rcases zOr d4 with d4 | d4
          · exact Or.inl ((ze d4).trans z0_eq)
          · rw [← d3, ← zbe d4]
            exact e2
        · rcases zOr d4 with d4 | d4
          · have d4 := (ze d4).trans z0_eq
            rw [e3, d2, d3, d4]
            simp
          · rw [e3, d2, d3, zbe d4]
      · omega
    · unfold zRg2 at h
      obtain ⟨lo, hi, h1, h2, h⟩ := zRg_s hs hv h
      -- the bounds of u
      have key : ∀ k : Int → Int → Bool, zRg w σ u k = true → ∃ lo' hi', k lo' hi' = true ∧ (lo' = hi' → zN ρ n w u lo') := by
        intro k hk
        unfold zRg at hk
        rw [c, Nat.beq_refl] at hk
        have hk : zRgA σ u k = true := hk
        unfold zRgA at hk
        rcases zCd hk with ⟨d, hk⟩ | ⟨d, hk⟩
        · exact ⟨_, _, hk, fun _ => Or.inl ⟨c, Or.inl ((ze d).trans z0_eq), by rw [ze d, z0_eq]; simp⟩⟩
        · rcases zCd hk with ⟨d2, hk⟩ | ⟨d2, hk⟩
          · obtain ⟨l, m, q1, q2, q3, hk⟩ := zSy_s hs hk
            refine ⟨_, _, hk, fun e => Or.inl ⟨c, Or.inr q1, ?_⟩⟩
            rw [ze d2, z1_eq]
            omega
          · obtain ⟨l, m, q1, q2, q3, hk⟩ := zSy_s hs hk
            unfold zAfR at hk
            have d := zeF d
            rw [z0_eq] at d
            rcases zCd hk with ⟨d3, hk⟩ | ⟨d3, hk⟩
            · refine ⟨_, _, hk, fun e => Or.inl ⟨c, Or.inr q1, ?_⟩⟩
              have e2 : u.2.2.1 * l = u.2.2.1 * m := by omega
              have e3 := Int.eq_of_mul_eq_mul_left d e2
              rw [show ρ u.2.2.2 = l by omega]
            · refine ⟨_, _, hk, fun e => Or.inl ⟨c, Or.inr q1, ?_⟩⟩
              have e2 : u.2.2.1 * m = u.2.2.1 * l := by omega
              have e3 := Int.eq_of_mul_eq_mul_left d e2
              rw [show ρ u.2.2.2 = m by omega]
      obtain ⟨lo', hi', h, hu⟩ := key _ h
      obtain ⟨f1, f2⟩ := zAnd h
      obtain ⟨f2, f3⟩ := zAnd f2
      have f1 := ze f1
      have f2 := ze f2
      have f3 := ze f3
      rw [show Z = lo' by omega]
      exact hu f2
  · have c := zbn c
    unfold zFitR at h
    obtain ⟨lo, hi, h1, h2, h⟩ := zRg_s hs hv h
    obtain ⟨f1, f2⟩ := zAnd h
    have f1 := zl f1
    have f2 := zl f2
    exact Or.inr ⟨by omega, by omega, by omega⟩
theorem zFits_s (hV : zVal P) (hs : zSok ρ n σ) (hx : zG P ρ n v x) (h : zFits P σ v u = true) : zG P ρ n u x := by
  unfold zFits at h
  rcases zCd h with ⟨c, h⟩ | ⟨c, h⟩
  · have c := zbl c
    rcases zCd h with ⟨c2, h⟩ | ⟨c2, h⟩
    · have c2 := zbl c2
      have ht : v.1 = 0 ∨ v.1 = 1 := by
        rcases zCd h with ⟨c3, h⟩ | ⟨c3, h⟩
        · unfold zFitA at h
          rcases zCd h with ⟨d, -⟩ | ⟨-, h⟩
          · have d1 := zbe (zAnd d).1
            have := zbe c3
            omega
          · exact (zRg2_tag h).1
        · exact (zRg_tag h).1
      obtain ⟨z, rfl, hz⟩ := zG_int hx ht
      exact zGi (zFitN_s hs (Or.inl rfl) hz h (by omega) (fun _ => Or.inr (Or.inr (Or.inr trivial))))
    · have c2 := zblF c2
      have h : (bif Nat.beq u.1 2 then zFitA 2 σ v u else zFitR 2 σ v u) = true := h
      have ht : v.1 = 2 ∨ v.1 = 3 := by
        rcases zCd h with ⟨c3, h⟩ | ⟨c3, h⟩
        · unfold zFitA at h
          rcases zCd h with ⟨d, -⟩ | ⟨-, h⟩
          · have d1 := zbe (zAnd d).1
            have := zbe c3
            omega
          · exact (zRg2_tag h).1
        · exact (zRg_tag h).1
      obtain ⟨z, rfl, hz⟩ := zG_long hx ht
      exact zGj (zFitN_s hs (Or.inr rfl) hz h (by omega) (fun _ => Or.inr (Or.inr (Or.inr trivial))))
  · rcases zCd h with ⟨c2, h⟩ | ⟨c2, h⟩
    · have c2 := zbe c2
      unfold zFitC at h
      obtain ⟨h1, h2⟩ := zAnd h
      obtain ⟨q, rfl, hq⟩ := zG_ref hx (zbe h1)
      refine Or.inr (Or.inr (Or.inl ⟨c2, q, rfl, ?_⟩))
      rcases zOr h2 with h2 | h2
      · rw [← zbe h2]
        exact hq
      · have hm := zIn1_s h2
        by_cases c3 : 700 ≤ u.2.2.2 ∧ u.2.2.2 < 1000
        · have hlt := (hV.2.1 _ _ 0 c3.1 c3.2 hm (by omega)).1
          rw [zGc_ex hq hlt]
          exact Or.inr (Or.inl ⟨c3.1, c3.2, hm⟩)
        · exact absurd hm (by
            intro hm
            exact c3 (hV.2.2.2.2.2 _ _ hm))
    · rcases zCd h with ⟨c3, h⟩ | ⟨c3, h⟩
      · have c3 := zbe c3
        have h := zbe h
        rcases hx with ⟨h1, -⟩ | ⟨h1, -⟩ | ⟨h1, -⟩ | ⟨-, h1⟩ | h1
        · omega
        · omega
        · omega
        · exact Or.inr (Or.inr (Or.inr (Or.inl ⟨c3, h1⟩)))
        · omega
      · exact Or.inr (Or.inr (Or.inr (Or.inr (zbe h))))
/-- what fits in the known one's symbols is so in the asked one's -/
theorem zG_un (hth : zTh ρ n th r) (h : zG P ρ n (zSubst th u) x) : zG P r th.length u x := by
  rcases h with ⟨h1, z, rfl, hz⟩ | ⟨h1, z, rfl, hz⟩ | h
  · exact zGi ((zSub_n hth (Or.inl rfl) (by omega)).mpr hz)
  · exact zGj ((zSub_n hth (Or.inr rfl) (by omega)).mpr hz)
  · have e : u.1 ≠ 0 ∧ u.1 ≠ 2 := by
      have h4 : (zSubst th u).1 ≠ 8 ∧ (zSubst th u).1 ≠ 0 ∧ (zSubst th u).1 ≠ 2 := by
        rcases h with ⟨h1, -⟩ | ⟨h1, -⟩ | h1 <;> omega
      rcases zSubst_1 (th := th) (u := u) with e | e <;> omega
    rw [zSubst_t (by omega)] at h
    exact Or.inr (Or.inr h)
theorem zG_do (hth : zTh ρ n th r) (hm : ∀ w, zN r th.length w u 0 ∨ True) (h : zG P r th.length u x) : zG P ρ n (zSubst th u) x := by
  have tag : ∀ w Z, (w = 0 ∨ w = 2) → zN r th.length w u Z → (zSubst th u).1 = w ∨ (zSubst th u).1 = w + 1 := by
    intro w Z hw hz
    rcases hz with ⟨e1, e2, e3⟩ | ⟨e1, -⟩
    · unfold zSubst
      have c : (Nat.beq u.1 0 || Nat.beq u.1 2) = true := by rcases hw with e | e <;> rw [e1, e] <;> rfl
      rw [c]
      cases c2 : zeq u.2.2.1 z0
      · have c2 := zeF c2
        rw [z0_eq] at c2
        show (zSubA u (zThN th u.2.2.2)).1 = w ∨ _
        rcases zThN_at (th := th) (j := u.2.2.2) with ⟨v, q1, q2⟩ | ⟨q1, q2⟩
        · rw [q2]
          obtain ⟨hv, -⟩ := hth _ _ q1
          unfold zSubA
          have c3 : (Nat.beq v.1 0 || Nat.beq v.1 2) = true := by rcases hv with e | e <;> rw [e] <;> rfl
          rw [c3]
          left
          show (zAff _ _ _ _).1 = _
          unfold zAff
          cases zeq (u.2.2.1 * v.2.2.1) z0 <;> exact e1
        · rcases e2 with e2 | e2 <;> omega
      · exact Or.inl e1
    · rw [zSubst_t (by omega)]
      exact Or.inr e1
  rcases h with ⟨h1, z, rfl, hz⟩ | ⟨h1, z, rfl, hz⟩ | h
  · exact zGi ((zSub_n hth (Or.inl rfl) (tag 0 _ (Or.inl rfl) hz)).mp hz)
  · exact zGj ((zSub_n hth (Or.inr rfl) (tag 2 _ (Or.inr rfl) hz)).mp hz)
  · have e : ¬ (u.1 = 0 ∨ u.1 = 2) := by
      rcases h with ⟨h1, -⟩ | ⟨h1, -⟩ | h1 <;> omega
    rw [zSubst_t e]
    exact Or.inr (Or.inr h)
end ZFI
/-! templates: symbols are found, values and places fit -/
section ZTE
variable {X : aX} {P : zP} {G : aH → Prop} {pS : Nat} {h0 h h' : aH} {ρ0 ρ ρ' : Nat → Int} {n n' : Nat} {σ : zS} {K : zK} {E E' : List zE} {v u : zV} {x : Value} {th : List zV} {r : Nat → Int} {vs us : List zV} {xs : List Value}
theorem zTh.mono (k : zTh ρ n th r) (hn : n ≤ n') (hr : ∀ i, i < n → ρ' i = ρ i) : zTh ρ' n' th r := fun i v h => ⟨(k i v h).1, (k i v h).2.mono hn hr⟩
theorem zTh.push {r' : Nat → Int} (k : zTh ρ n th r) (hr : ∀ i, i < th.length → r' i = r i) (hv : (v.1 = 0 ∨ v.1 = 2) ∧ zN ρ n v.1 v (r' th.length)) : zTh ρ n (th ++ [v]) r' := by
  intro i w h
  by_cases q : i < th.length
  · rw [List.getElem?_append_left q] at h
    rw [hr i q]
    exact k i w h
  · rw [List.getElem?_append_right (by omega)] at h
    have e : i - th.length = 0 := by
      have := (List.getElem?_eq_some_iff.mp h).1
      rw [List.length_singleton] at this
      omega
    rw [e] at h
    cases h
    rw [show i = th.length by omega]
    exact hv
/-- what zFind comes to -/
def zFo (X : aX) (P : zP) (G : aH → Prop) (pS : Nat) (h0 : aH) (ρ0 ρ : Nat → Int) (n : Nat) (K : zK) (h : aH) (th : List zV) (r : Nat → Int) (bs : List (Int × Int)) (k : Nat → zS → List zE → List zV → Bool) : Prop :=
  ∃ n' σ' E' ρ' th' r', k n' σ' E' th' = true ∧ n ≤ n' ∧ (∀ i, i < n → ρ' i = ρ i) ∧ zGa X P G pS h0 ρ0 ρ' n' σ' K E' h ∧ zTh ρ' n' th' r' ∧ (∀ i, i < th.length → r' i = r i) ∧ th'.length = th.length + bs.length ∧ (∀ i b, bs[i]? = some b → b.1 ≤ r' (th.length + i) ∧ r' (th.length + i) ≤ b.2)
theorem zFldOk_s {p : Nat} (hK : zGK P (h.1, h.2.1, []) h) (hp : zFldOk P p = true) : zPl h p ∧ p % 128 ≠ 127 := by
  unfold zFldOk at hp
  obtain ⟨h1, h2⟩ := zAnd hp
  obtain ⟨h2, h3⟩ := zAnd h2
  have h1 := zbt h1
  have h2 := zbt h2
  have h3 := zbt h3
  obtain ⟨b1, b2, b3, -⟩ := hK.2.2 (p / 128) (p / 128) (Or.inl ⟨by omega, rfl⟩) (show (zLk [] (p / 128) (P.kT (p / 128))).1 < 900 from by show (P.kT (p / 128)).1 < 900; omega)
  have b3 : (h.2.2.1 (p / 128)).1 = (P.kT (p / 128)).1 := b3
  refine ⟨⟨b1, h1, ?_⟩, by omega⟩
  rw [if_neg (by omega)]
  omega
theorem zKe (hg : zGa X P G pS h0 ρ0 ρ n σ K E h) (hK : K.2.2 = []) : zGK P (h.1, h.2.1, []) h := by
  obtain ⟨-, ⟨k1, k2, k3⟩, -⟩ := hg
  have e : K = (h.1, h.2.1, []) := by
    obtain ⟨a, b, c⟩ := K
    have k1 : h.1 = a := k1
    have k2 : h.2.1 = b := k2
    have hK : c = [] := hK
    rw [k1, k2, hK]
  rw [← e]
  exact ⟨k1, k2, k3⟩
theorem zGetA_x {p j j' : Nat} (hE : ∀ e ∈ E, zGe X ρ n h e) (hp : p < 89600) (hp2 : p % 128 = 127) (hj : j < j') : (zGet E p j j' (8, z0, z0, 0)) = (8, z0, z0, 0) ∨ ∃ Z, zN ρ n 0 (zGet E p j j' (8, z0, z0, 0)) Z := by
  induction E with
  | nil => exact Or.inl rfl
  | cons e r ih =>
    unfold zGet
    cases c : (Nat.beq e.1 p && (Nat.ble e.2.1 j && Nat.ble j' e.2.2.1))
    · exact ih (fun e he => hE e (List.mem_cons_of_mem _ he))
    · obtain ⟨c1, c2⟩ := zAnd c
      obtain ⟨c2, c3⟩ := zAnd c2
      have c1 := zbe c1
      have c2 := zbl c2
      have c3 := zbl c3
      have he := hE e List.mem_cons_self
      unfold zGe at he
      rw [if_neg (by omega), if_neg (by omega)] at he
      exact Or.inr ⟨_, he.2 j c2 (by omega) (fun z => absurd (by rw [c1]; exact hp2) z)⟩
theorem zFind_s {qs : List (Nat × Nat)} {bs : List (Int × Int)} {k : Nat → zS → List zE → List zV → Bool} (hKe : zGK P (h.1, h.2.1, []) h) (hg : zGa X P G pS h0 ρ0 ρ n σ K E h) (hl : zGl P ρ n vs xs) (hth : zTh ρ n th r) (hk : zFind P vs qs bs n σ E th k = true) : zFo X P G pS h0 ρ0 ρ n K h th r bs k := by
  induction qs generalizing bs n σ E th ρ r with
  | nil =>
    cases bs with
    | nil => exact ⟨n, σ, E, ρ, th, r, hk, Nat.le_refl n, fun _ _ => rfl, hg, hth, fun _ _ => rfl, rfl, fun i b h => by cases h⟩
    | cons b bs => cases hk
  | cons q qs ih =>
    cases bs with
    | nil => cases hk
    | cons b bs =>
      unfold zFind at hk
      -- a value that was found
      have go : ∀ (n1 : Nat) (σ1 : zS) (E1 : List zE) (ρ1 : Nat → Int) (v : zV), n ≤ n1 → (∀ i, i < n → ρ1 i = ρ i) → zGa X P G pS h0 ρ0 ρ1 n1 σ1 K E1 h → (v.1 = 0 → ∃ Z, zN ρ1 n1 0 v Z) → (v.1 = 2 → ∃ Z, zN ρ1 n1 2 v Z) → zFindK v b n1 σ1 E1 (fun n σ E v => zFind P vs qs bs n σ E (th ++ [v]) k) = true → zFo X P G pS h0 ρ0 ρ n K h th r (b :: bs) k := by
        intro n1 σ1 E1 ρ1 v l1 r1 g1 hv0 hv2 hk
        have fin : ∀ (w : Nat) (Z lo hi : Int), v.1 = w → (w = 0 ∨ w = 2) → zN ρ1 n1 w v Z → lo ≤ Z → Z ≤ hi → b.1 ≤ lo → hi ≤ b.2 → zFind P vs qs bs n1 σ1 E1 (th ++ [v]) k = true → zFo X P G pS h0 ρ0 ρ n K h th r (b :: bs) k := by
          intro w Z lo hi e1 hw hz z1 z2 z3 z4 hk
          have hth1 : zTh ρ1 n1 (th ++ [v]) (fun i => if i = th.length then Z else r i) := (hth.mono l1 r1).push (fun i hi => if_neg (by omega)) ⟨by omega, by rw [if_pos rfl, e1]; exact hz⟩
          obtain ⟨n2, σ2, E2, ρ2, th2, r2, hk, l2, q2, g2, t2, e2, len2, b2⟩ := ih g1 (hl.mono l1 r1) hth1 hk
          have ll : (th ++ [v]).length = th.length + 1 := by rw [List.length_append]; rfl
          refine ⟨n2, σ2, E2, ρ2, th2, r2, hk, by omega, fun i hi => (q2 i (by omega)).trans (r1 i hi), g2, t2, fun i hi => ?_, by rw [len2, ll, List.length_cons]; omega, fun i b' hb => ?_⟩
          · rw [e2 i (by omega)]
            exact if_neg (by omega)
          · cases i with
            | zero =>
              cases hb
              have := e2 th.length (by omega)
              dsimp only at this
              rw [if_pos rfl] at this
              rw [Nat.add_zero, this]
              exact ⟨by omega, by omega⟩
            | succ i =>
              have := b2 i b' hb
              rw [ll] at this
              rwa [show th.length + (i + 1) = th.length + 1 + i by omega]
        unfold zFindK at hk
        rcases zCd hk with ⟨c, hk⟩ | ⟨-, hk⟩
        · obtain ⟨Z, hz⟩ := hv0 (zbe c)
          obtain ⟨lo, hi, z1, z2, hk⟩ := zRg_s g1.1 hz hk
          rcases zCd hk with ⟨d, hk⟩ | ⟨-, hk⟩
          · obtain ⟨d1, d2⟩ := zAnd d
            exact fin 0 Z lo hi (zbe c) (Or.inl rfl) hz z1 z2 (zl d1) (zl d2) hk
          · cases hk
        · rcases zCd hk with ⟨c, hk⟩ | ⟨-, hk⟩
          · obtain ⟨Z, hz⟩ := hv2 (zbe c)
            obtain ⟨lo, hi, z1, z2, hk⟩ := zRg_s g1.1 hz hk
            rcases zCd hk with ⟨d, hk⟩ | ⟨-, hk⟩
            · obtain ⟨d1, d2⟩ := zAnd d
              exact fin 2 Z lo hi (zbe c) (Or.inr rfl) hz z1 z2 (zl d1) (zl d2) hk
            · cases hk
          · cases hk
      unfold zFind1 at hk
      rcases zCd hk with ⟨-, hk⟩ | ⟨-, hk⟩
      · obtain ⟨v, x, -, h2, hk, -⟩ := zGl_at hl hk
        exact go n σ E ρ v (Nat.le_refl n) (fun _ _ => rfl) hg (fun e => by obtain ⟨z, -, hz⟩ := zG_int h2 (Or.inl e); exact ⟨_, hz⟩) (fun e => by obtain ⟨z, -, hz⟩ := zG_long h2 (Or.inl e); exact ⟨_, hz⟩) hk
      · rcases zCd hk with ⟨c, hk⟩ | ⟨-, hk⟩
        · obtain ⟨c1, c2⟩ := zAnd c
          obtain ⟨c2, c3⟩ := zAnd c2
          have c1 := zbl c1
          have c2 := zbt c2
          have c3 := zbe c3
          have hx := zGetA_x (j := q.1 - 2) (j' := q.1 - 1) hg.2.2.1 c2 c3 (by omega)
          generalize zGet E q.2 (q.1 - 2) (q.1 - 1) (8, z0, z0, 0) = v at hk hx
          exact go n σ E ρ v (Nat.le_refl n) (fun _ _ => rfl) hg (fun e => by
            rcases hx with hx | hx
            · rw [hx] at e
              cases e
            · exact hx) (fun e => by
            rcases hx with hx | ⟨Z, hx⟩
            · rw [hx] at e
              cases e
            · rcases zTag hx with q | q <;> omega) hk
        · rcases zCd hk with ⟨c, hk⟩ | ⟨-, hk⟩
          · obtain ⟨hp, hf⟩ := zFldOk_s hKe c
            obtain ⟨n1, σ1, E1, ρ1, v, hk, l1, r1, g1, u1⟩ := zRd_s hg hp hf hk
            exact go n1 σ1 E1 ρ1 v l1 r1 g1 (fun e => ⟨_, u1⟩) (fun e => by rcases zTag u1 with q | q <;> omega) hk
          · cases hk
theorem zFitL_s (hV : zVal P) (hs : zSok ρ n σ) (hth : zTh ρ n th r) (hl : zGl P ρ n vs xs) (h : zFitL P σ th vs us = true) : zGl P r th.length us xs := by
  induction vs generalizing us xs with
  | nil =>
    cases us with
    | nil =>
      rw [zGl_nil hl]
      exact trivial
    | cons u q => cases h
  | cons v q ih =>
    obtain ⟨x, xq, rfl, h1, h2⟩ := zGl_cons hl
    cases us with
    | nil => cases h
    | cons u uq =>
      unfold zFitL at h
      obtain ⟨ha, hb⟩ := zAnd h
      exact ⟨zG_un hth (zFits_s hV hs h1 ha), ih h2 hb⟩
theorem zLocOk_s {p t : Nat} (hK : zGK P (h.1, h.2.1, []) h) (hp : zLocOk P p t = true) : zPl h p ∧ (p % 128 = 127 → t ≤ (h.2.2.1 (p / 128)).2.1) := by
  unfold zLocOk at hp
  rcases zCd hp with ⟨c, hp⟩ | ⟨-, hp⟩
  · have c := zbt c
    have hlt : (P.kT (p / 128)).1 < 900 := by
      rcases zCd hp with ⟨-, hp⟩ | ⟨-, hp⟩
      · exact zbt (zAnd (zAnd hp).2).1
      · have := zbt hp
        omega
    obtain ⟨b1, b2, b3, b4, -⟩ := hK.2.2 (p / 128) (p / 128) (Or.inl ⟨by omega, rfl⟩) hlt
    have b3 : (h.2.2.1 (p / 128)).1 = (P.kT (p / 128)).1 := b3
    have b4 : 100 ≤ (P.kT (p / 128)).1 → (h.2.2.1 (p / 128)).2.1 = (P.kT (p / 128)).2.1 := b4
    rcases zCd hp with ⟨d, hp⟩ | ⟨d, hp⟩
    · have d := zbe d
      obtain ⟨e1, e2⟩ := zAnd hp
      obtain ⟨e2, e3⟩ := zAnd e2
      have e1 := zbl e1
      have e3 := zbl e3
      refine ⟨⟨b1, c, ?_⟩, fun _ => ?_⟩
      · rw [if_pos d]
        omega
      · rw [b4 e1]
        exact e3
    · have d := zbn d
      have e1 := zbt hp
      refine ⟨⟨b1, c, ?_⟩, fun q => absurd q d⟩
      rw [if_neg d]
      omega
  · cases hp
theorem zFitE_s {ents : List zE} (hV : zVal P) (hKe : zGK P (h.1, h.2.1, []) h) (hg : zGa X P G pS h0 ρ0 ρ n σ K E h) (hth : zTh ρ n th r) (hk : zFitE P σ E th ents = true) : ∀ e ∈ ents, zGp r th.length h e := by
  induction ents with
  | nil => intro e he; cases he
  | cons a q ih =>
    unfold zFitE at hk
    obtain ⟨k1, k2⟩ := zAnd hk
    obtain ⟨k0, k1⟩ := zAnd k1
    obtain ⟨k0, k9⟩ := zAnd k0
    intro e he
    rcases List.mem_cons.mp he with rfl | he
    · obtain ⟨hp, hlen⟩ := zLocOk_s hKe k0
      refine ⟨hp, fun i i1 i2 i3 => ?_⟩
      have hv := zGet_s (X := X) (E := E) (j := e.2.1) (j' := e.2.2.1) (d := zIr P e.1) hg.2.2.1 hp (fun i q1 q2 q3 => zIr_s hg.2.2.2.1 hp (fun q => by have := hlen q; omega)) i i1 i2 i3
      have hz : zG P ρ n (zGet E e.1 e.2.1 e.2.2.1 (zIr P e.1)) (.int (zM h e.1 i)) := zGi hv
      have h2 := zG_un hth (zFits_s hV hg.1 hz k1)
      rcases h2 with ⟨-, x, h3, h4⟩ | ⟨-, x, h3, -⟩ | ⟨-, x, h3, -⟩ | ⟨-, h3⟩ | h3
      · cases h3
        exact h4
      · cases h3
      · cases h3
      · cases h3
      · have := zbl k9
        omega
    · exact ih k2 e he
theorem zHold_s {rng : List (Nat × Int × Int)} (hs : zSok ρ n σ) (hth : zTh ρ n th r) (h : zHold σ th rng = true) : ∀ e ∈ rng, e.1 < th.length ∧ e.2.1 ≤ r e.1 ∧ r e.1 ≤ e.2.2 := by
  induction rng with
  | nil => intro e he; cases he
  | cons a q ih =>
    unfold zHold at h
    obtain ⟨h1, h2⟩ := zAnd h
    intro e he
    rcases List.mem_cons.mp he with rfl | he
    · unfold zHold1 at h1
      rcases zThN_at (th := th) (j := e.1) with ⟨v, q1, q2⟩ | ⟨-, q2⟩
      · rw [q2] at h1
        obtain ⟨hv, hz⟩ := hth _ _ q1
        have ew : (bif Nat.beq v.1 2 then 2 else 0) = v.1 := by rcases hv with e | e <;> rw [e] <;> rfl
        rw [ew] at h1
        obtain ⟨lo, hi, z1, z2, h1⟩ := zRg_s hs hz h1
        obtain ⟨d1, d2⟩ := zAnd h1
        have d1 := zl d1
        have d2 := zl d2
        exact ⟨(List.getElem?_eq_some_iff.mp q1).1, by omega, by omega⟩
      · rw [q2] at h1
        have h1 : zRg 0 σ (8, z0, z0, 0) (fun l h => zle e.2.1 l && zle h e.2.2) = true := h1
        have := (zRg_tag h1).1
        rcases this with q | q
        · cases q
        · cases q
    · exact ih h2 e he
theorem zTake_s {rng : List (Nat × Int × Int)} {k : zS → Bool} (hs : zSok ρ n σ) (hth : zTh ρ n th r) (hr : ∀ e ∈ rng, e.2.1 ≤ r e.1 ∧ r e.1 ≤ e.2.2) (h : zTake th rng σ k = true) : ∃ σ', zSok ρ n σ' ∧ k σ' = true := by
  induction rng generalizing σ with
  | nil => exact ⟨σ, hs, h⟩
  | cons a q ih =>
    unfold zTake at h
    unfold zTake1 at h
    have hra := hr a List.mem_cons_self
    have tg := (zRg_tag h).1
    rcases zThN_at (th := th) (j := a.1) with ⟨v, q1, q2⟩ | ⟨-, q2⟩
    · rw [q2] at h tg
      obtain ⟨hv, hz⟩ := hth _ _ q1
      have hv0 : v.1 = 0 := by omega
      rw [hv0] at hz
      obtain ⟨lo, hi, z1, z2, h⟩ := zRg_s hs hz h
      rcases zCd h with ⟨-, h⟩ | ⟨c, -⟩
      · obtain ⟨σ1, g1, h⟩ := zNr_s hs hz hra.1 hra.2 h
        exact ih g1 (fun e he => hr e (List.mem_cons_of_mem _ he)) h
      · have c := zlF c
        have a1 : zmax lo a.2.1 ≤ r a.1 := zmax_le z1 hra.1
        have a2 : r a.1 ≤ zmin hi a.2.2 := le_zmin z2 hra.2
        omega
    · rw [q2] at tg
      rcases tg with q | q
      · cases q
      · cases q
end ZTE
/-! contracts -/
/-- an end of a contract is met -/
def zPm (P : zP) (ρ : Nat → Int) (m : Nat) (po : zPo) (rv : Option Value) (h' : aH) : Prop := ∃ r : Nat → Int, (∀ i, i < m → r i = ρ i) ∧ (∀ i b, po.2.2.1[i]? = some b → b.1 ≤ r (m + i) ∧ r (m + i) ≤ b.2) ∧ (∀ e ∈ po.1, e.1 < m + po.2.2.1.length ∧ e.2.1 ≤ r e.1 ∧ r e.1 ≤ e.2.2) ∧ zGl P r (m + po.2.2.1.length) po.2.2.2.1 rv.toList ∧ (∀ e ∈ po.2.2.2.2, zGp r (m + po.2.2.1.length) h' e)
/-- what a contract says of method q -/
def zCk (X : aX) (P : zP) (G : aH → Prop) (q : Nat) (c : zCo) : Prop := ∀ (d : Nat) (ρ : Nat → Int) (as : List Value) (h : aH), c.1 ≤ d → (∀ i b, c.2.1[i]? = some b → b.1 ≤ ρ i ∧ ρ i ≤ b.2) → zGl P ρ c.2.1.length c.2.2.2.1 as → (∀ e ∈ c.2.2.2.2.1, zGp ρ c.2.1.length h e) → zGK P (h.1, h.2.1, []) h → zGI P h → G h →
  zRn X d q as h (fun rv h' => (∃ po ∈ c.2.2.2.2.2.1, zPm P ρ c.2.1.length po rv h') ∧ zGI P h' ∧ G h' ∧ h'.1 = h.1 ∧ h'.2.1 = h.2.1 ∧ h'.2.2.1 = h.2.2.1 ∧ zOff c.2.2.2.2.2.2 h.2.2.1 h.2.2.2 h'.2.2.2)
theorem zBit_t (m j : Nat) : zBit m j = m.testBit j := by
  unfold zBit
  rw [Nat.testBit_eq_decide_div_mod_eq]
  show Nat.beq ((m >>> j) &&& 1) 1 = _
  rw [Nat.shiftRight_eq_div_pow, Nat.and_one_is_mod]
  by_cases q : m / 2 ^ j % 2 = 1
  · rw [q]
    rfl
  · have e : m / 2 ^ j % 2 = 0 := by omega
    rw [e]
    rfl
theorem zBit_sub {a b : Nat} (h : Nat.beq (Nat.lor a b) b = true) (p : Nat) (hp : zBit a p = true) : zBit b p = true := by
  rw [zBit_t] at hp ⊢
  have e : a ||| b = b := zbe h
  rw [← e, Nat.testBit_or, hp]
  rfl
section ZCO
variable {X : aX} {P : zP} {G : aH → Prop} {pS : Nat} {h0 h h' : aH} {ρ0 ρ ρ' : Nat → Int} {n n' : Nat} {σ : zS} {K : zK} {E E' : List zE} {v u : zV} {x : Value} {th : List zV} {r : Nat → Int} {vs us : List zV} {xs : List Value}
theorem zKill_s {m : Nat} (hE : ∀ e ∈ E, zGe X ρ n h e) (hh : h'.1 = h.1 ∧ h'.2.1 = h.2.1 ∧ h'.2.2.1 = h.2.2.1) (ho : zOff m h.2.2.1 h.2.2.2 h'.2.2.2) : ∀ e ∈ zKill m E, zGe X ρ n h' e := by
  induction E with
  | nil => intro e he; cases he
  | cons a q ih =>
    intro e he
    have iha := ih (fun e he => hE e (List.mem_cons_of_mem _ he))
    unfold zKill at he
    cases c : zBit m a.1
    · rw [c] at he
      rcases List.mem_cons.mp he with rfl | he
      · have ha := hE e List.mem_cons_self
        unfold zGe at ha ⊢
        by_cases c1 : e.1 = 11520001
        · rw [if_pos c1] at ha ⊢
          exact ha
        · rw [if_neg c1] at ha ⊢
          by_cases c2 : e.1 = 11520002
          · rw [if_pos c2] at ha ⊢
            exact ha
          · rw [if_neg c2] at ha ⊢
            obtain ⟨⟨p1, p2, p3⟩, k⟩ := ha
            refine ⟨⟨by rw [hh.1]; exact p1, p2, by rw [hh.2.2]; exact p3⟩, fun i i1 i2 i3 => ?_⟩
            have e3 : zM h' e.1 i = zM h e.1 i := by
              unfold zM
              by_cases d : e.1 % 128 = 127
              · rw [if_pos d] at p3
                rw [(ho (e.1 / 128)).2 p3 (by rwa [show e.1 / 128 * 128 + 127 = e.1 by omega])]
              · rw [if_neg d] at p3
                rw [if_neg d]
                exact (ho (e.1 / 128)).1 p3 (e.1 % 128) (by omega) (by rwa [show e.1 / 128 * 128 + e.1 % 128 = e.1 by omega])
            rw [e3]
            exact k i i1 i2 i3
      · exact iha e he
    · rw [c] at he
      exact iha e he
theorem zNewT_e {bs : List (Int × Int)} {i : Nat} : ∀ {th : List zV}, (zNewT n bs i th).length = th.length + bs.length ∧ ∀ j v, (zNewT n bs i th)[j]? = some v → (j < th.length ∧ th[j]? = some v) ∨ (th.length ≤ j ∧ j < th.length + bs.length ∧ v = zsy (n + i + (j - th.length))) := by
  induction bs generalizing i with
  | nil =>
    intro th
    exact ⟨rfl, fun j v h => Or.inl ⟨(List.getElem?_eq_some_iff.mp h).1, h⟩⟩
  | cons b bs ih =>
    intro th
    obtain ⟨h1, h2⟩ := ih (i := i + 1) (th := th ++ [zsy (n + i)])
    have ll : (th ++ [zsy (n + i)]).length = th.length + 1 := by rw [List.length_append]; rfl
    refine ⟨by show (zNewT n bs (i + 1) (th ++ [zsy (n + i)])).length = _; rw [h1, ll, List.length_cons]; omega, fun j v h => ?_⟩
    have h : (zNewT n bs (i + 1) (th ++ [zsy (n + i)]))[j]? = some v := h
    rcases h2 j v h with ⟨q1, q2⟩ | ⟨q1, q2, q3⟩
    · by_cases c : j < th.length
      · rw [List.getElem?_append_left c] at q2
        exact Or.inl ⟨c, q2⟩
      · rw [List.getElem?_append_right (by omega)] at q2
        have e : j - th.length = 0 := by omega
        rw [e] at q2
        cases q2
        exact Or.inr ⟨by omega, by rw [List.length_cons]; omega, by rw [show n + i + (j - th.length) = n + i by omega]⟩
    · rw [ll] at q1 q2 q3
      exact Or.inr ⟨by omega, by rw [List.length_cons]; omega, by rw [q3, show n + (i + 1) + (j - (th.length + 1)) = n + i + (j - th.length) by omega]⟩
theorem zNewG_s {bs : List (Int × Int)} {i N : Nat} : ∀ {σ : zS}, zSok ρ N σ → (∀ j b, bs[j]? = some b → n + i + j < N ∧ b.1 ≤ ρ (n + i + j) ∧ ρ (n + i + j) ≤ b.2) → zSok ρ N (zNewG n bs i σ) := by
  induction bs generalizing i with
  | nil => intro σ h _; exact h
  | cons b bs ih =>
    intro σ h hb
    refine ih (i := i + 1) (fun e he => ?_) (fun j b' hj => ?_)
    · rcases List.mem_cons.mp he with rfl | he
      · have := hb 0 b rfl
        exact this
      · exact h e he
    · have := hb (j + 1) b' hj
      rwa [show n + i + (j + 1) = n + (i + 1) + j by omega] at this
theorem zPosts_m {E1 : List zE} {k : Nat → zS → List zE → List zV → Bool} {posts : List zPo} {po : zPo} (hk : zPosts th E1 n σ k posts = true) (hp : po ∈ posts) : zPostK E1 n k po (zNewG n po.2.2.1 0 σ) (zNewT n po.2.2.1 0 th) = true := by
  induction posts with
  | nil => cases hp
  | cons a q ih =>
    unfold zPosts at hk
    obtain ⟨h1, h2⟩ := zAnd hk
    rcases List.mem_cons.mp hp with rfl | hp
    · exact h1
    · exact ih h2 hp
theorem zSubE_m {ents : List zE} {e : zE} (he : e ∈ zSubE th ents E) : e ∈ E ∨ ∃ a ∈ ents, e = (a.1, a.2.1, a.2.2.1, zSubst th a.2.2.2) := by
  induction ents with
  | nil => exact Or.inl he
  | cons a q ih =>
    rcases List.mem_cons.mp he with rfl | he
    · exact Or.inr ⟨a, List.mem_cons_self, rfl⟩
    · rcases ih he with h1 | ⟨b, h1, h2⟩
      · exact Or.inl h1
      · exact Or.inr ⟨b, List.mem_cons_of_mem _ h1, h2⟩
theorem zGl_do (hth : zTh ρ n th r) {m : Nat} (hm : m = th.length) (hl : zGl P r m us xs) : zGl P ρ n (us.map (zSubst th)) xs := by
  subst hm
  induction us generalizing xs with
  | nil =>
    rw [zGl_nil hl]
    exact trivial
  | cons u q ih =>
    obtain ⟨x, xq, rfl, h1, h2⟩ := zGl_cons hl
    exact ⟨zG_do hth (fun _ => Or.inr trivial) h1, ih h2⟩
theorem zGK_same (hh : h'.1 = h.1 ∧ h'.2.1 = h.2.1 ∧ h'.2.2.1 = h.2.2.1) (k : zGK P K h) : zGK P K h' := by
  obtain ⟨k1, k2, k3⟩ := k
  refine ⟨hh.1.trans k1, hh.2.1.trans k2, fun s b hc hlt => ?_⟩
  have := k3 s b hc hlt
  unfold zGk at this ⊢
  rw [hh.1, hh.2.2]
  exact this
theorem zCon_s {q dd kk : Nat} {c : zCo} {as : List zV} {asC : List Value} {k : Nat → zS → List zE → List zV → Bool} (hV : zVal P) (hck : zCk X P G q c) (al : P.al = false) (hK : K.2.2 = []) (hg : zGa X P G pS h0 ρ0 ρ n σ K E h) (hl : zGl P ρ n as asC) (hk : zCon P c dd n σ E as k = true) :
    zRn X (dd + kk) q asC h (fun rv h' => h'.1 = h.1 ∧ ∃ n' σ' E' rvA ρ', k n' σ' E' rvA = true ∧ n ≤ n' ∧ (∀ i, i < n → ρ' i = ρ i) ∧ zGa X P G pS h0 ρ0 ρ' n' σ' K E' h' ∧ zGl P ρ' n' rvA rv.toList) := by
  unfold zCon at hk
  rcases zCd hk with ⟨c1, hk⟩ | ⟨-, hk⟩
  · obtain ⟨c1, c2⟩ := zAnd c1
    have c1 := zbl c1
    have hKe := zKe hg hK
    obtain ⟨n1, σ1, E1, ρ1, th, r, hk, l1, r1, g1, t1, -, len1, b1⟩ := zFind_s (th := []) (r := fun _ => 0) hKe hg hl (fun i v h => by cases h) hk
    rw [List.length_nil, Nat.zero_add] at len1
    unfold zConF at hk
    rcases zCd hk with ⟨c3, hk⟩ | ⟨-, hk⟩
    · obtain ⟨c3, c4⟩ := zAnd c3
      have hargs := zFitL_s hV g1.1 t1 (hl.mono l1 r1) c3
      have hents := zFitE_s hV hKe g1 t1 c4
      rw [len1] at hargs hents
      have hrun := hck (dd + kk) r asC h (by omega) (fun i b hb => by have := b1 i b hb; rwa [List.length_nil, Nat.zero_add] at this) hargs hents hKe g1.2.2.2.1 (g1.2.2.2.2.1 al).1
      refine hrun.mono (fun rv h' hq => ?_)
      obtain ⟨⟨po, hpo, r2, e2, p1, p2, p3, p4⟩, hI', hG', hh1, hh2, hh3, hoff⟩ := hq
      refine ⟨hh1, ?_⟩
      have hk := zPosts_m hk hpo
      unfold zPostK at hk
      -- the symbols that come
      have hag : ∀ i, i < n1 → (fun j => if j < n1 then ρ1 j else r2 (c.2.1.length + (j - n1))) i = ρ1 i := fun i hi => if_pos hi
      obtain ⟨tl, tv⟩ := zNewT_e (n := n1) (bs := po.2.2.1) (i := 0) (th := th)
      have t2 : zTh (fun j => if j < n1 then ρ1 j else r2 (c.2.1.length + (j - n1))) (n1 + po.2.2.1.length) (zNewT n1 po.2.2.1 0 th) r2 := by
        intro i v hv
        rcases tv i v hv with ⟨q1, q2⟩ | ⟨q1, q2, q3⟩
        · obtain ⟨a1, a2⟩ := t1 i v q2
          refine ⟨a1, ?_⟩
          rw [e2 i (by omega)]
          exact a2.mono (Nat.le_add_right _ _) hag
        · subst q3
          refine ⟨Or.inl rfl, Or.inl ⟨rfl, Or.inr (by show n1 + 0 + (i - th.length) < _; omega), ?_⟩⟩
          show r2 i = 0 + 1 * (if n1 + 0 + (i - th.length) < n1 then _ else r2 (c.2.1.length + (n1 + 0 + (i - th.length) - n1)))
          rw [if_neg (by omega), show c.2.1.length + (n1 + 0 + (i - th.length) - n1) = i by omega]
          omega
      have g2 : zSok (fun j => if j < n1 then ρ1 j else r2 (c.2.1.length + (j - n1))) (n1 + po.2.2.1.length) (zNewG n1 po.2.2.1 0 σ1) := by
        refine zNewG_s (g1.1.mono (Nat.le_add_right _ _) hag) (fun j b hb => ?_)
        have hj := (List.getElem?_eq_some_iff.mp hb).1
        have := p1 j b hb
        rw [if_neg (by omega), show c.2.1.length + (n1 + 0 + j - n1) = c.2.1.length + j by omega]
        exact ⟨by omega, this⟩
      obtain ⟨σ3, g3, hk⟩ := zTake_s g2 t2 (fun e he => (p2 e he).2) hk
      refine ⟨_, _, _, _, _, hk, by omega, fun i hi => (hag i (by omega)).trans (r1 i hi), ⟨g3, zGK_same ⟨hh1, hh2, hh3⟩ g1.2.1, fun e he => ?_, hI', fun _ => ?_, fun i hi => ?_, ?_⟩, zGl_do t2 (by rw [tl, len1]) p3⟩
      · rcases zSubE_m he with h1 | ⟨a, h1, rfl⟩
        · exact (zKill_s g1.2.2.1 ⟨hh1, hh2, hh3⟩ hoff e h1).mono (Nat.le_add_right _ _) hag
        · obtain ⟨a1, a2⟩ := p4 a h1
          refine zGp_e ⟨a1, fun i i1 i2 i3 => ?_⟩
          have hz : zG P r2 (zNewT n1 po.2.2.1 0 th).length a.2.2.2 (.int (zM h' a.1 i)) := by
            rw [tl, len1]
            exact zGi (a2 i i1 i2 i3)
          rcases zG_do t2 (fun _ => Or.inr trivial) hz with ⟨-, y, h3, h4⟩ | ⟨-, y, h3, -⟩ | ⟨-, y, h3, -⟩ | ⟨-, h3⟩ | h3
          · cases h3
            exact h4
          · cases h3
          · cases h3
          · cases h3
          · have := zTag (a2 i i1 i2 i3)
            rcases zSubst_1 (th := zNewT n1 po.2.2.1 0 th) (u := a.2.2.2) with q | q <;> omega
      · obtain ⟨-, o1, o2, o3, o4⟩ := g1.2.2.2.2.1 al
        refine ⟨hG', fun a => ?_, hh1.trans o2, hh2.trans o3, hh3.trans o4⟩
        rw [hh3]
        have nb : ∀ p, zBit P.md p = false → zBit c.2.2.2.2.2.2 p = false := fun p hp => by
          cases hw : zBit c.2.2.2.2.2.2 p
          · rfl
          · rw [zBit_sub c2 p hw] at hp
            cases hp
        exact ⟨fun z1 f z2 z3 => ((hoff a).1 z1 f z2 (nb _ z3)).trans ((o1 a).1 z1 f z2 z3), fun z1 z3 => ((hoff a).2 z1 (nb _ z3)).trans ((o1 a).2 z1 z3)⟩
      · have := g1.2.2.2.2.2
        exact (hag i (by omega)).trans (this.1 i hi)
      · have := g1.2.2.2.2.2.2
        omega
    · cases hk
  · cases hk
end ZCO
