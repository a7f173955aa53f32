/-! a day, the days of a plan: all of it kept, and what day answers -/
theorem cp_r {t : Nat} {M : pMem} : cpC t t M M := cpC_of fun _ _ _ _ _ => rfl
theorem op_day_F {p1 p2 p3 v u : Int32} {M M1 M2 : pMem} (h : rF M) (h1 : D_10 p1 p2 p3 M v M1) (h2 : D_104 p1 p2 p3 M1 u M2) : v = u ∧ rF M2 := by
  have hA := op_day h.1 h1 h2
  obtain ⟨hr, hT, hI⟩ := h
  have f1 := F_10 h1
  have f2 := F_104 h2
  have hI2 := rI_fr f2 (by decide +kernel) (rI_fr f1 (by decide +kernel) hI)
  -- the class's run leaves the reference's places
  have t1 : rT 18 M M1 := rT_mv hT cp_r (kV_s f1 (by decide +kernel))
  obtain ⟨_, ⟨_, n2, _, _, n5⟩, _⟩ := hr
  have m3 : M1 188 3 = M 188 3 := f1 188 3 (by decide) rfl (by simp only [l_10, pOut_cons, pOut_nil, true_or, and_true]; omega)
  obtain ⟨Ma, ea, h2⟩ := D_104_c h2 (by rw [m3, ← n2]; exact n5.2)
  rw [m3, ← n2] at h2
  have back : rT 18 M1 M2 → rT 18 M2 M2 := fun t => rT_mv t (cpC_of (kC_s (Or.inl rfl) f2 (by decide +kernel))) agT_r
  rcases D_10_c h1 with ⟨d1, h30⟩ | ⟨d1, hv, hM⟩
  · rcases h2 with ⟨_, ⟨u', h101⟩, hu⟩ | ⟨d2, _⟩
    · have hs : sc M1 Ma := by
        rw [ea]
        exact sc_s sc_r rfl
      obtain ⟨a1, a2⟩ := day_T t1 (by rw [m3, ← n2]; exact d1.2.2.2.2) (D_101_bo h101) h30 hs h101
      exact ⟨by rw [a2, hu], hA, back a1, hI2⟩
    · exact absurd d1 d2
  · rcases h2 with ⟨d2, _⟩ | ⟨_, hu, hN⟩
    · exact absurd d2 d1
    · refine ⟨by rw [hv, hu], hA, ?_, hI2⟩
      rw [hN, ea, hM]
      exact rT_0 hT
theorem op_plan_F {p1 v u : Int32} {M M1 M2 : pMem} (h : rF M) (h1 : D_11 p1 M v M1) (h2 : D_106 p1 M1 u M2) : rF M2 := by
  have hA := (op_plan h.1 h1 h2).2
  obtain ⟨hr, hT, hI⟩ := h
  have f1 := F_11 h1
  have f2 := F_106 h2
  have hI2 := rI_fr f2 (by decide +kernel) (rI_fr f1 (by decide +kernel) hI)
  have ag := kV_s f1 (by decide +kernel)
  refine ⟨hA, ?_, hI2⟩
  obtain ⟨_, _, _, _, p, _⟩ := hr
  obtain ⟨Ma, ea, h2⟩ := h2
  have a : ∀ b j, ¬ (b = 188 ∧ j = 0) → Ma b j = M1 b j := fun b j hj => by rw [ea]; exact p0_at hj
  by_cases g : 0 ≤ p1.toInt ∧ p1.toInt < 4
  · obtain ⟨q, hq⟩ : ∃ q : Nat, p1.toInt = q := ⟨p1.toInt.toNat, by omega⟩
    have hq4 : q < 4 := by omega
    obtain ⟨_, M3, h105, hu, hN⟩ := tIf_p (f_42_iff.mpr ⟨by rw [i_le, kI0]; exact g.1, by rw [i_le, kI_toInt (by decide) (by decide)]; omega⟩) h2
    obtain ⟨l, l1, l2, l3, l4⟩ := p q hq4
    have hc := D_11_d hq hq4 l4 h1
    rw [dyL_fold (p := kI 1) (by decide), List.nil_append] at hc
    have rr : ∀ b j, (b = 213 ∨ b = 214 ∨ b = 215) → Ma b j = M b j := fun b j hb => by
      rw [a b j (by omega), f1 b j (by omega) (by rcases hb with rfl | rfl | rfl <;> rfl) (by simp only [l_11, pOut_cons, pOut_nil, true_or, and_true]; omega)]
    obtain ⟨M7, _, e7, hd⟩ := D_105_d (l := l) hq (by omega) l1 (by rw [rr 213 q (by omega)]; exact l2) (by
      rw [show Ma 214 = M 214 from funext fun j => rr 214 j (by omega), show Ma 215 = M 215 from funext fun j => rr 215 j (by omega)]
      exact l3) h105
    have t7 : rT 18 M M7 := rT_mv (rT_mv hT cp_r ag) cp_r (agT_of fun b j hp => by
      rw [e7 b j (by unfold plT at hp; omega), a b j (pl_hi hp).2.2.2])
    have t3 := days_T t7 hc hd
    rw [hN] at f2 ⊢
    exact rT_mv t3 (cpC_of (kC_s (Or.inl rfl) f2 (by decide +kernel))) agT_r
  · have n1 : ¬ ¬ f_33 p1 = 0 := fun q => g (f_33_iff.mp q)
    obtain ⟨_, hM⟩ := tIf_n n1 h1
    obtain ⟨_, hN⟩ := tIf_n (fun q => g (by
      have q := f_42_iff.mp q
      rw [i_le, i_le, kI0, kI_toInt (by decide) (by decide)] at q
      omega)) h2
    rw [hN, ea, hM]
    exact rT_0 hT
