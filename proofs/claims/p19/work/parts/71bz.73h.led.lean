/-! led, off, fitting: both sides say the same -/
theorem agV_of {V U : pMem} (h : ∀ a j, plT a j → ¬ (a = 188 ∧ (j = 4 ∨ j = 71)) → U a j = V a j) : agV V U := by
  have e8 : ∀ j, (j = 1 ∨ j = 2 ∨ j = 3 ∨ j = 17 ∨ j = 18 ∨ j = 19 ∨ j = 20 ∨ j = 21) → U 188 j = V 188 j := fun j hj => h 188 j (Or.inl ⟨rfl, by omega⟩) (by omega)
  refine ⟨⟨e8 1 (by omega), e8 2 (by omega), e8 3 (by omega), e8 17 (by omega), e8 18 (by omega), e8 19 (by omega), e8 20 (by omega), e8 21 (by omega)⟩, fun i hi => ⟨?_, ?_, ?_⟩, fun k hk => ⟨?_, ?_⟩, fun l hl => ⟨?_, ?_, ?_, ?_, ?_⟩⟩
  all_goals (refine h _ _ ?_ (by omega); unfold plT; omega)
/-- all that is told, and the plans -/
def rTP (M V : pMem) : Prop := rT 18 M V ∧ ∀ k, k < 4 → rPlan M (37 + 11 * k) (V 213 k) (V 214) (V 215) (24 * k)
/-- where the reference stands, as it begins to think by law kl -/
def thB (V R : pMem) (kl : Nat) : Prop := (∀ a j, 188 ≤ a → a < 230 → pScr a j = false → a ≠ 222 → ¬ (a = 188 ∧ (j = 4 ∨ 60 ≤ j ∧ j ≤ 69)) → R a j = V a j) ∧ (R 188 4).toInt = kl
theorem thB_rows {V R : pMem} {kl : Nat} (h : thB V R kl) {a : Nat} (h1 : 188 < a) (h2 : a < 230) (h3 : pScrA a = false) (h4 : a ≠ 222) : R a = V a := funext fun j => h.1 a j (by omega) h2 (pScr_of h3 (by omega) j) h4 (by omega)
theorem thB_V {V R : pMem} {kl : Nat} (h : thB V R kl) : agV V R := agV_of fun a j hp hn => by
  have q : 188 ≤ a ∧ a < 230 ∧ a ≠ 222 ∧ ¬ (a = 188 ∧ 60 ≤ j ∧ j ≤ 69) := by unfold plT at hp; omega
  rcases plT_in hp with e | ⟨e, e2⟩
  · obtain ⟨c1, c2, c3⟩ := plRows_sc a e
    exact h.1 a j q.1 c1 (pScr_of c2 c3 j) q.2.2.1 (by omega)
  · subst e
    exact h.1 188 j (by decide) (by decide) (pl188_sc j e2) (by decide) (by omega)
/-- the class's wood in thought, the reference where it thinks -/
theorem th_start {M N V R : pMem} {kl : Nat} (hkl : kl < 4) (h : rT 18 M V) (hB : thB V R kl) {v : Unit} (hD : D_207 M v N) : ∃ o L, rTg (30 + 11 * kl) kl o L N R ∧ ∀ b, (b < 143 ∨ 148 ≤ b) → N b = M b := by
  obtain ⟨⟨hV, _, d0, d60⟩, ⟨hW, _⟩, _, hlw, _⟩ := h
  have hW : rW 19 M V := hW
  obtain ⟨_, N', h220, _, hN⟩ := hD
  obtain ⟨c1, c2, c3, c4, c5⟩ := D_220_w (Or.inr (by decide)) h220
  rw [← hN] at c1 c2 c3 c4 c5
  obtain ⟨o, L, c, r, x, y⟩ := hlw kl hkl
  have ag := thB_V hB
  refine ⟨o, L, ⟨rV_cg hV ag, rW_cg (rW_mv hW c1 c2 c3 c4) ag, ⟨clLaw_eq c fun b h1 h2 => c5 b (by omega), y⟩, ⟨⟨?_, x⟩, c.2.1, y, by omega, hB.2⟩⟩, c5⟩
  rw [thB_rows hB (a := 204) (by decide) (by decide) rfl (by decide), thB_rows hB (a := 205) (by decide) (by decide) rfl (by decide), thB_rows hB (a := 206) (by decide) (by decide) rfl (by decide), thB_rows hB (a := 207) (by decide) (by decide) rfl (by decide), thB_rows hB (a := 208) (by decide) (by decide) rfl (by decide), thB_rows hB (a := 209) (by decide) (by decide) rfl (by decide), thB_rows hB (a := 210) (by decide) (by decide) rfl (by decide), thB_rows hB (a := 211) (by decide) (by decide) rfl (by decide)]
  exact r
theorem slD_L {p : Int32} {l : List (Int32 × Int32)} : (l.foldl plDay ([], kI (-1))).1.map (slD p) = dyL p (kI (-1)) l := by
  by_cases c : p = 0
  · have e : slD p = fun d => (d.1, d.2.1, kI (-1)) := funext fun d => by unfold slD; rw [if_pos c]
    have q := dyL_0 (l := l) (a := []) (s := kI (-1))
    rw [e, c]
    exact q
  · have e : slD p = fun d => d := funext fun d => by unfold slD; rw [if_neg c]
    have q := dyL_fold c (l := l) (a := []) (s := kI (-1))
    rw [e, List.map_id']
    exact q
/-- led: at the end -/
theorem lead_v {M N V R Rn : pMem} {kp kl : Nat} (hkp : kp < 4) (hkl : kl < 4) (h : rTP M V) (hB : thB V R kl) {p1 p4 : Int32} (hp1 : p1.toInt = kp) {v u : Unit} (hD : D_208 (37 + 11 * kp) (30 + 11 * kl) p4 M v N) (h105 : D_105 p1 p4 R u Rn) :
    ∃ o L, thJ (30 + 11 * kl) kl o L (f_236 19 (kI 4) M) (f_236 19 (kI 5) M) (f_239 (M 19 2)) (f_238 19 M) (M 19 4) N Rn := by
  obtain ⟨hT, hP⟩ := h
  obtain ⟨l, l1, l2, l3, l4⟩ := hP kp hkp
  have eB : ∀ a, a = 213 ∨ a = 214 ∨ a = 215 → R a = V a := fun a ha => thB_rows hB (by omega) (by omega) (by rcases ha with rfl | rfl | rfl <;> rfl) (by omega)
  obtain ⟨R7, z, q7, hr⟩ := D_105_d hp1 (by omega) l1 (by rw [eB 213 (by omega)]; exact l2) (by rw [eB 214 (by omega), eB 215 (by omega)]; exact l3) h105
  have hB7 : thB V R7 kl := ⟨fun a j h1 h2 h3 h4 h5 => by rw [q7 a j (by omega)]; exact hB.1 a j h1 h2 h3 h4 h5, by rw [q7 188 4 (by omega)]; exact hB.2⟩
  obtain ⟨_, M1, h207, M2, e2, M3, e3, hL⟩ := hD
  obtain ⟨o, L, hg, hM1⟩ := th_start hkl hT hB7 h207
  have m3 : ∀ b, b ≠ 138 → M3 b = M1 b := fun b hb => by rw [e3, apR hb, e2, apR hb]
  have ag := thB_V hB7
  obtain ⟨⟨hV, _, d0, d60⟩, ⟨hW, _⟩, _, _, _, _, hX, _⟩ := id hT
  have hW : rW 19 M V := hW
  have hW7 : rW 19 M R7 := rW_cg hW ag
  refine ⟨o, L, L_208_v hkp hkl hL (D := (l.foldl plDay ([], kI (-1))).1) 0 rfl (Nat.zero_le _) (pdOk_eq l4 ?_ fun i => ⟨?_, ?_, ?_⟩) R7 Rn ⟨⟨hg.1, rW_eq hg.2.1 fun j hj => m3 _ (by omega), cLk_c hg.2.2.1 fun b h1 h2 => m3 b (by omega), hg.2.2.2⟩, ⟨?_, ?_, ?_, ?_, ?_, ?_, ?_⟩, ?_⟩ z.1 ?_ ?_⟩
  · rw [m3 _ (by omega), hM1 _ (by omega)]
  · rw [m3 _ (by omega), hM1 _ (by omega)]
  · rw [m3 _ (by omega), hM1 _ (by omega)]
  · rw [m3 _ (by omega), hM1 _ (by omega)]
  · rw [(f236_V hW7).1, z.2.1, kIz, Int32.add_zero]
  · rw [(f236_V hW7).2, z.2.2.1, kIz, Int32.add_zero]
  · rw [th_cnt (rV_cg hV ag) hW7, z.2.2.2.1, kIz, Int32.add_zero]
  · rw [e3, aPut_at (by decide), e2, aPut_same, z.2.2.2.2.1]
  · rw [f238_V hW7, z.2.2.2.2.2.1, kIz, Int32.add_zero]
  · rw [z.1, kIz, Int32.add_zero]
    exact hW7.2.2.2.2.1.1.symm
  · rw [e3, aPut_same, z.2.2.2.2.2.2]
  · intro i hi
    rw [thB_rows hB7 (a := 226) (by decide) (by decide) rfl (by decide), thB_rows hB7 (a := 227) (by decide) (by decide) rfl (by decide), m3 28 (by decide), hM1 28 (by decide)]
    exact hX i hi
  · rw [ag.1.2.2.1]
    exact ⟨d0, d60⟩
  · rw [List.drop_zero, slD_L]
    exact hr
/-- what is put aside, and where the reference begins -/
theorem thB_of {M V R1 R2 : pMem} {kl : Nat} {p x : Int32} (hp : p.toInt = kl) {u : Unit} (hs : R1 = M ∨ R1 = aPut M 188 0 x) (h : D_108 (kI 1) R1 u R2) (hV : ∀ a j, 188 ≤ a → a < 230 → pScr a j = false → M a j = V a j) : thB V (aPut R2 188 4 p) kl := by
  have q := (D_108_put h (by decide)).2
  refine ⟨fun a j h1 h2 h3 h4 h5 => ?_, by rw [aPut_same]; exact hp⟩
  have e : aPut R2 188 4 p a j = R2 a j := by
    by_cases ea : a = 188
    · subst ea
      exact aPut_at (by omega)
    · exact aPut_cell ea
  rw [e, q a j h4 (by omega), ← hV a j h1 h2 h3]
  rcases hs with e | e
  · rw [e]
  · rw [e]
    by_cases ea : a = 188
    · subst ea
      refine aPut_at fun e0 => ?_
      subst e0
      exact absurd h3 (by decide)
    · exact aPut_cell ea
theorem as_n60 {i : Nat} (h : i < 1122) (j : Nat) (h1 : 60 ≤ j) : ¬ ((asP i).1 = 188 ∧ (asP i).2 = j) := fun q => by
  have ck : (List.range 1122).all (fun i => !(Nat.beq (asP i).1 188 && Nat.ble 60 (asP i).2)) = true := by decide +kernel
  have r := List.all_eq_true.mp ck i (List.mem_range.mpr h)
  rw [q.1, q.2, show Nat.beq 188 188 = true from rfl, show Nat.ble 60 j = true from Nat.ble_eq.mpr h1] at r
  cases r
theorem get_60 {M N : pMem} {u : Unit} (h : D_108 (kI 0) M u N) {j : Nat} (h1 : 60 ≤ j) (h2 : j ≤ 67) : N 188 j = M 188 j := (D_108_get h rfl).2.2 188 j (fun i hi => as_n60 hi j h1) (by omega)
theorem f_109_iff {x : Int32} : ¬ f_109 x = 0 ↔ 0 ≤ x.toInt ∧ x.toInt < 4 := by
  unfold f_109
  rw [f_42_iff, i_le, i_le, kI_toInt (by decide) (by decide), kI_toInt (by decide) (by decide)]
  omega
/-- the class's thought leaves the reference -/
theorem fr_188 {L : List (Nat × Nat)} {M N : pMem} (f : pFr L M N) (k : ((List.range 42).all fun o => pNo L (188 + o)) = true) : ∀ a j, 188 ≤ a → a < 230 → pScr a j = false → N a j = M a j := fun a j h1 h2 h3 => by
  have q := List.all_eq_true.mp k (a - 188) (List.mem_range.mpr (by omega))
  rw [show 188 + (a - 188) = a by omega] at q
  exact f a j h2 h3 (pNo_out q j)
theorem rF_TP {M : pMem} (h : rF M) : rTP M M := ⟨h.2.1, fun k hk => h.1.2.2.2.2.1 k hk⟩
theorem op_led_v {p1 p2 p3 p4 v u : Int32} {M M1 M2 : pMem} (h : rF M) (h1 : D_17 p1 p2 p3 p4 M v M1) (h2 : D_110 p1 p2 p3 p4 M1 u M2) : v = u := by
  have hP := rF_TP h
  have f17 := F_17 h1
  have c8 := fr_188 f17 (by decide +kernel)
  obtain ⟨R0, e0, h2⟩ := h2
  by_cases g1 : 0 ≤ p1.toInt ∧ p1.toInt < 4
  · have h1 := tIf_n (f_33_iff.mpr g1) h1
    have h2 := tIf_n (f_109_iff.mpr g1) h2
    by_cases g2 : 0 ≤ p2.toInt ∧ p2.toInt < 4
    · have h1 := tIf_p (f_33_iff.mpr g2) h1
      have h2 := tIf_n (f_109_iff.mpr g2) h2
      obtain ⟨kp, hkp⟩ : ∃ k : Nat, p1.toInt = k := ⟨p1.toInt.toNat, by omega⟩
      obtain ⟨kl, hkl⟩ : ∃ k : Nat, p2.toInt = k := ⟨p2.toInt.toNat, by omega⟩
      obtain ⟨_, _, _, X, h208, h1⟩ := h1
      rw [ix_of hkp, ix_of hkl] at h208
      have f208 := F_208 (pln_pK (by omega)) (law_pK (by omega)) h208
      have x19 : ∀ b, 19 ≤ b → b < 24 → X b = M b := fun b q1 q2 => funext fun j => f208 b j (by omega) (pScr_of (by
        have e : b = 19 ∨ b = 20 ∨ b = 21 ∨ b = 22 ∨ b = 23 := by omega
        rcases e with rfl | rfl | rfl | rfl | rfl <;> rfl) (by omega) j) (by simp only [l_208, pOut_cons, pOut_nil, true_or, and_true]; omega)
      have s236 : ∀ p, f_236 19 p X = f_236 19 p M := fun p => by unfold f_236; rw [x19 23 (by decide) (by decide)]
      have s238 : f_238 19 X = f_238 19 M := by unfold f_238 f_237; rw [x19 23 (by decide) (by decide)]
      by_cases g3 : 0 ≤ p4.toInt ∧ p4.toInt ≤ 6
      · have h2 := tIf_p (f_42_iff.mpr ⟨by rw [i_le, kI_toInt (by decide) (by decide)]; exact g3.1, by rw [i_le, kI_toInt (by decide) (by decide)]; exact g3.2⟩) h2
        obtain ⟨_, R2, h108, R3, e3, _, R4, h105, v3, R5, h55, _, R6, hget, h2⟩ := h2
        have hB := thB_of (x := kI 0) hkl (Or.inr e0) h108 c8
        rw [← e3] at hB
        obtain ⟨o, L, ⟨hV4, hW4, _⟩, ⟨t1, t2, t3, t4, t5, t6, t7⟩, _⟩ := lead_v (by omega) (by omega) hP hB hkp h208 h105
        obtain ⟨n, hn⟩ := hV4.1
        have e5 : R5 = R4 := (D_55_w hn (fun i hi => (hV4.2.1 i hi).1) h55).2
        have g : ∀ j, 60 ≤ j → j ≤ 67 → R6 188 j = R4 188 j := fun j q1 q2 => by rw [get_60 hget q1 q2, e5]
        obtain ⟨w1, w2⟩ := f236_V hW4
        by_cases c0 : p4 = kI 0
        · obtain ⟨hv, _⟩ := tIf_p c0 h1
          obtain ⟨hu, _⟩ := tIf_n (nn c0) h2
          rw [hv, hu, g 61 (by decide) (by decide), w1, s236, t1]
          exact i_asc
        have h1 := tIf_n c0 h1
        have h2 := tIf_p (show ¬ p4 = 0 from c0) h2
        by_cases c1 : p4 = kI 1
        · obtain ⟨hv, _⟩ := tIf_p c1 h1
          obtain ⟨hu, _⟩ := tIf_n (nn c1) h2
          rw [hv, hu, g 62 (by decide) (by decide), w2, s236, t2]
          exact i_asc
        have h1 := tIf_n c1 h1
        have h2 := tIf_p c1 h2
        by_cases c2 : p4 = kI 2
        · obtain ⟨v2, Y, h230, hv, _⟩ := tIf_p c2 h1
          obtain ⟨hu, _⟩ := tIf_n (nn c2) h2
          rw [hv, hu]
          exact (cross_tg hV4 hW4 h230 h55).1
        have h1 := tIf_n c2 h1
        have h2 := tIf_p c2 h2
        by_cases c3 : p4 = kI 3
        · obtain ⟨hv, _⟩ := tIf_p c3 h1
          obtain ⟨hu, _⟩ := tIf_n (nn c3) h2
          rw [hv, hu, g 63 (by decide) (by decide), th_cnt hV4 hW4, x19 19 (by decide) (by decide), ← t3]
          exact i_asc
        have h1 := tIf_n c3 h1
        have h2 := tIf_p c3 h2
        by_cases c4 : p4 = kI 4
        · obtain ⟨hv, _⟩ := tIf_p c4 h1
          obtain ⟨hu, _⟩ := tIf_n (nn c4) h2
          rw [hv, hu, g 64 (by decide) (by decide), t4]
        have h1 := tIf_n c4 h1
        have h2 := tIf_p c4 h2
        by_cases c5 : p4 = kI 5
        · obtain ⟨hv, _⟩ := tIf_p c5 h1
          obtain ⟨hu, _⟩ := tIf_n (nn c5) h2
          rw [hv, hu, g 65 (by decide) (by decide), f238_V hW4, s238, t5]
          exact i_asc
        have h1 := tIf_n c5 h1
        have h2 := tIf_p c5 h2
        have c6 : p4 = kI 6 := kI_inj (by
          have n0 : p4.toInt ≠ 0 := fun q => c0 (kI_inj q)
          have n1 : p4.toInt ≠ 1 := fun q => c1 (kI_inj q)
          have n2 : p4.toInt ≠ 2 := fun q => c2 (kI_inj q)
          have n3 : p4.toInt ≠ 3 := fun q => c3 (kI_inj q)
          have n4 : p4.toInt ≠ 4 := fun q => c4 (kI_inj q)
          have n5 : p4.toInt ≠ 5 := fun q => c5 (kI_inj q)
          omega)
        obtain ⟨hv, _⟩ := tIf_p c6 h1
        obtain ⟨hu, _⟩ := h2
        have e4 : X 143 4 = R4 188 3 := hW4.2.2.2.2.1.1
        rw [hv, hu, g 60 (by decide) (by decide), e4, x19 19 (by decide) (by decide), t6]
        exact i_asc
      · have h2 := tIf_n (fun q => g3 (by
          obtain ⟨q1, q2⟩ := f_42_iff.mp q
          rw [i_le, kI_toInt (by decide) (by decide)] at q1
          rw [i_le, kI_toInt (by decide) (by decide)] at q2
          exact ⟨q1, q2⟩)) h2
        have nk : ∀ n : Int, 0 ≤ n → n ≤ 6 → ¬ p4 = kI n := fun n q1 q2 e => g3 (by rw [e, kI_toInt (by omega) (by omega)]; exact ⟨q1, q2⟩)
        have h1 := tIf_n (nk 0 (by decide) (by decide)) h1
        have h1 := tIf_n (nk 1 (by decide) (by decide)) h1
        have h1 := tIf_n (nk 2 (by decide) (by decide)) h1
        have h1 := tIf_n (nk 3 (by decide) (by decide)) h1
        have h1 := tIf_n (nk 4 (by decide) (by decide)) h1
        have h1 := tIf_n (nk 5 (by decide) (by decide)) h1
        have h1 := tIf_n (nk 6 (by decide) (by decide)) h1
        rw [h1.1, h2.1]
    · have h1 := tIf_n (fun q => g2 (f_33_iff.mp q)) h1
      have h2 := tIf_p (Classical.not_not.mp fun q => g2 (f_109_iff.mp q)) h2
      rw [h1.1, h2.1]
  · have h1 := tIf_p (Classical.not_not.mp fun q => g1 (f_33_iff.mp q)) h1
    have h2 := tIf_p (Classical.not_not.mp fun q => g1 (f_109_iff.mp q)) h2
    rw [h1.1, h2.1]
/-- off of one law -/
theorem off_v {M N V R V1 : pMem} {kp kl : Nat} (hkp : kp < 4) (hkl : kl < 4) (h : rTP M V) {p1 p2 w x : Int32} (hp1 : p1.toInt = kp) (hp2 : p2.toInt = kl) {v : Unit} (hD : D_208 (37 + 11 * kp) (30 + 11 * kl) (kI 1) M v N) (hV : ∀ a j, 188 ≤ a → a < 230 → pScr a j = false → R a j = V a j) (h118 : D_118 p1 p2 R w V1) : N 138 3 = w := by
  obtain ⟨_, R2, h108, R3, e3, _, R4, h105, _, R5, hget, hw, _⟩ := h118
  have hB := thB_of (x := x) hp2 (Or.inl rfl) h108 hV
  rw [← e3] at hB
  obtain ⟨o, L, _, ⟨_, _, _, _, _, _, t7⟩, _⟩ := lead_v hkp hkl h hB hp1 hD h105
  rw [t7, hw, get_60 hget (by decide) (by decide)]
theorem p0_sc {M : pMem} {x : Int32} : ∀ a j, 188 ≤ a → a < 230 → pScr a j = false → aPut M 188 0 x a j = M a j := fun a j _ _ h3 => by
  by_cases ea : a = 188
  · subst ea
    refine aPut_at fun e0 => ?_
    subst e0
    exact absurd h3 (by decide)
  · exact aPut_cell ea
theorem op_off_v {p1 p2 v u : Int32} {M M1 M2 : pMem} (h : rF M) (h1 : D_23 p1 p2 M v M1) (h2 : D_119 p1 p2 M1 u M2) : v = u := by
  have hP := rF_TP h
  have c8 := fr_188 (F_23 h1) (by decide +kernel)
  obtain ⟨R0, e0, h2⟩ := h2
  by_cases g1 : 0 ≤ p1.toInt ∧ p1.toInt < 4
  · have h1 := tIf_n (f_33_iff.mpr g1) h1
    have h2 := tIf_n (f_109_iff.mpr g1) h2
    by_cases g2 : 0 ≤ p2.toInt ∧ p2.toInt < 4
    · have h1 := tIf_p (f_33_iff.mpr g2) h1
      have h2 := tIf_n (f_109_iff.mpr g2) h2
      obtain ⟨kp, hkp⟩ : ∃ k : Nat, p1.toInt = k := ⟨p1.toInt.toNat, by omega⟩
      obtain ⟨kl, hkl⟩ : ∃ k : Nat, p2.toInt = k := ⟨p2.toInt.toNat, by omega⟩
      obtain ⟨_, _, _, X, h208, hv, _⟩ := h1
      rw [ix_of hkp, ix_of hkl] at h208
      obtain ⟨w, R1, h118, hu, _⟩ := h2
      rw [hv, hu]
      exact off_v (x := 0) (by omega) (by omega) hP hkp hkl h208 (fun a j q1 q2 q3 => by rw [e0, p0_sc a j q1 q2 q3]; exact c8 a j q1 q2 q3) h118
    · have h1 := tIf_n (fun q => g2 (f_33_iff.mp q)) h1
      have h2 := tIf_p (Classical.not_not.mp fun q => g2 (f_109_iff.mp q)) h2
      rw [h1.1, h2.1]
  · have h1 := tIf_p (Classical.not_not.mp fun q => g1 (f_33_iff.mp q)) h1
    have h2 := tIf_p (Classical.not_not.mp fun q => g1 (f_109_iff.mp q)) h2
    rw [h1.1, h2.1]
/-! fitting -/
theorem rTP_c {pl l : Nat} {M N V : pMem} (hpl : pK 3 pl = true) (hl : pK 2 l = true) {p : Int32} {v : Unit} (hD : D_208 pl l p M v N) (h : rTP M V) : rTP N V := by
  have f : pFr l_17 M N := F_208 hpl hl hD
  refine ⟨rT_mv h.1 (cpC_of (kC_s (Or.inl rfl) f (by decide +kernel))) agT_r, fun k hk => ?_⟩
  have c : ∀ o j, o < 4 → N (37 + 11 * k + o) j = M (37 + 11 * k + o) j := fun o j ho => f _ _ (by omega) (pl_scr hk ho) (by simp only [l_17, pOut_cons, pOut_nil, true_or, and_true]; omega)
  exact rPlan_eq (h.2 k hk) rfl (c 0 0 (by decide)) (fun i => ⟨c 1 i (by decide), c 2 i (by decide), c 3 i (by decide)⟩) (fun i _ => ⟨rfl, rfl⟩)
theorem rTP_r {M V U : pMem} {p1 p2 w : Int32} (hD : D_118 p1 p2 V w U) (h : rTP M V) : rTP M U := by
  have f := F_118 hD
  refine ⟨rT_mv h.1 cp_r (kW_s f (by decide +kernel) (D_118_s hD)), fun k hk => ?_⟩
  have c : ∀ a j, a = 213 ∨ a = 214 ∨ a = 215 → U a j = V a j := fun a j ha => f a j (by omega) (by rcases ha with rfl | rfl | rfl <;> rfl) (by rcases ha with rfl | rfl | rfl <;> exact pNo_out (by decide +kernel) j)
  exact rPlan_eq (h.2 k hk) (c 213 k (by omega)) rfl (fun i => ⟨rfl, rfl, rfl⟩) (fun i _ => ⟨c 214 _ (by omega), c 215 _ (by omega)⟩)
/-- the reference's laws, one after another: r are left, the next is j -/
def rFit (p1 : Int32) : Nat → Nat → Int32 → Int32 → pMem → Int32 → Prop
  | 0, _, b, _, _, u => u = b
  | r + 1, j, b, s, V, u => ∃ w V1, D_118 p1 (kI (j : Nat)) V w V1 ∧ ((w < s ∧ rFit p1 r (j + 1) (kI (j : Nat)) w V1 u) ∨ (¬ w < s ∧ rFit p1 r (j + 1) b s V1 u))
theorem L_120_v {p1 x2 x3 x4 : Int32} {V : pMem} {u : Int32} {N : pMem} (h : L_120_3 p1 x2 x3 x4 V u N) : ∀ j : Nat, x4.toInt = j → j ≤ 4 → rFit p1 (4 - j) j x2 x3 V u := by
  refine h (fun x2 x3 x4 V u N => ∀ j : Nat, x4.toInt = j → j ≤ 4 → rFit p1 (4 - j) j x2 x3 V u) ?_
  intro x2 x3 x4 V u N hs j hx hj
  rcases hs with ⟨g, hu, _⟩ | ⟨g, w, V1, h118, hs⟩
  · rw [i_le, hx, kI_toInt (by decide) (by decide)] at g
    rw [show 4 - j = 0 by omega]
    exact hu
  · rw [i_le, hx, kI_toInt (by decide) (by decide)] at g
    rw [show 4 - j = (4 - (j + 1)) + 1 by omega]
    have ex : x4 = kI (j : Nat) := kI_inj hx
    rw [ex] at h118
    refine ⟨w, V1, h118, ?_⟩
    have n1 : (x4 + kI 1).toInt = ((j + 1 : Nat) : Int) := n_add1 hx (by omega)
    rcases hs with ⟨g2, hs⟩ | ⟨g2, hs⟩
    · have r := hs (j + 1) n1 (by omega)
      rw [ex] at r
      exact Or.inl ⟨g2, r⟩
    · exact Or.inr ⟨g2, hs (j + 1) n1 (by omega)⟩
def fitQ (p1 : Int32) (x2 x3 x4 : Int32) (M : pMem) (v : Int32) (_ : pMem) : Prop := ∀ j : Nat, x4.toInt = j → j ≤ 4 → ∀ V u, rTP M V → ((j = 0 ∧ x2 = kI (-1) ∧ ∃ w V0 V1, (∀ a j, 188 ≤ a → a < 230 → pScr a j = false → V0 a j = V a j) ∧ D_118 p1 (kI 0) V0 w V1 ∧ (rTP M V → rTP M V0) ∧ rFit p1 3 1 (kI 0) w V1 u) ∨ (1 ≤ j ∧ ¬ x2 = kI (-1) ∧ rFit p1 (4 - j) j x2 x3 V u)) → v = u
theorem L_24_v {p1 x2 x3 x4 : Int32} {kp : Nat} (hp1 : p1.toInt = kp) (hkp : kp < 4) {M : pMem} {v : Int32} {N : pMem} (h : L_24_3 p1 x2 x3 x4 M v N) : fitQ p1 x2 x3 x4 M v N := by
  refine h (fitQ p1) ?_
  intro x2 x3 x4 M v N hs j hx hj V u hP hr
  rcases hs with ⟨g, hv, _⟩ | ⟨g, _, c4, _, X, h208, hs⟩
  · rw [i_le, hx, kI_toInt (by decide) (by decide)] at g
    have e : j = 4 := by omega
    rcases hr with ⟨q, _⟩ | ⟨_, _, hr⟩
    · omega
    · rw [e] at hr
      have hu : u = x2 := hr
      rw [hv, hu]
  · rw [i_le, hx, kI_toInt (by decide) (by decide)] at g
    rw [ix_of hp1, ix_of hx] at h208
    have ex : x4 = kI (j : Nat) := kI_inj hx
    have n1 : (x4 + kI 1).toInt = ((j + 1 : Nat) : Int) := n_add1 hx (by omega)
    have hP2 : rTP X V := rTP_c (pln_pK hkp) (law_pK (by omega)) h208 hP
    have ne : ¬ x4 = kI (-1) := fun q => by rw [q, kI_toInt (by decide) (by decide)] at hx; omega
    rcases hr with ⟨ej, e2, w, V0, V1, hV0, h118, hP0, hr⟩ | ⟨j1, e2, hr⟩
    · subst ej
      have eo : X 138 3 = w := off_v (x := 0) hkp (by decide) hP hp1 rfl h208 hV0 h118
      have e0 : x4 = kI 0 := kI_inj hx
      rcases hs with ⟨_, hs⟩ | ⟨g2, _⟩
      · refine hs 1 n1 (by decide) V1 u (rTP_r h118 ?_) (Or.inr ⟨Nat.le_refl _, ne, ?_⟩)
        · exact rTP_c (pln_pK hkp) (law_pK (by omega)) h208 (hP0 hP)
        · rw [eo, e0]
          exact hr
      · exact absurd e2 g2
    · rw [show 4 - j = (4 - (j + 1)) + 1 by omega] at hr
      obtain ⟨w, V1, h118, hr⟩ := hr
      have eo : X 138 3 = w := off_v (x := 0) hkp (by omega) hP hp1 (by rw [kI_toInt (by omega) (by omega)]) h208 (fun _ _ _ _ _ => rfl) h118
      have hP3 := rTP_r h118 hP2
      rcases hs with ⟨g2, _⟩ | ⟨_, hs⟩
      · exact absurd g2 e2
      · rcases hs with ⟨g3, hs⟩ | ⟨g3, hs⟩
        · rcases hr with ⟨g4, _⟩ | ⟨_, hr⟩
          · rw [i_le, eo] at g3
            rw [i_lt] at g4
            omega
          · exact hs (j + 1) n1 (by omega) V1 u hP3 (Or.inr ⟨by omega, e2, hr⟩)
        · rcases hr with ⟨_, hr⟩ | ⟨g4, _⟩
          · refine hs (j + 1) n1 (by omega) V1 u hP3 (Or.inr ⟨by omega, ne, ?_⟩)
            rw [eo, ex]
            exact hr
          · rw [i_le, eo] at g3
            rw [i_lt] at g4
            omega
theorem op_fitting_v {p1 v u : Int32} {M M1 M2 : pMem} (h : rF M) (h1 : D_24 p1 M v M1) (h2 : D_120 p1 M1 u M2) : v = u := by
  have hP := rF_TP h
  have f24 := F_24 h1
  have c8 := fr_188 f24 (by decide +kernel)
  obtain ⟨R0, e0, h2⟩ := h2
  by_cases g1 : 0 ≤ p1.toInt ∧ p1.toInt < 4
  · have h1 := tIf_p (f_33_iff.mpr g1) h1
    have h2 := tIf_p (f_109_iff.mpr g1) h2
    obtain ⟨kp, hkp⟩ : ∃ k : Nat, p1.toInt = k := ⟨p1.toInt.toNat, by omega⟩
    obtain ⟨w, R1, h118, h2⟩ := h2
    have hr := L_120_v h2 1 rfl (by decide)
    have q0 : ∀ a j, 188 ≤ a → a < 230 → pScr a j = false → R0 a j = M a j := fun a j q1 q2 q3 => by rw [e0, p0_sc a j q1 q2 q3]; exact c8 a j q1 q2 q3
    have hP0 : rTP M M → rTP M R0 := fun hh => by
      refine ⟨rT_mv hh.1 cp_r (agT_of fun a j hp => ?_), fun k hk => ?_⟩
      · rcases plT_in hp with e | ⟨e, e2⟩
        · obtain ⟨d1, d2, d3⟩ := plRows_sc a e
          exact q0 a j (by unfold plT at hp; omega) d1 (pScr_of d2 d3 j)
        · subst e
          exact q0 188 j (by decide) (by decide) (pl188_sc j e2)
      · have c : ∀ a j, a = 213 ∨ a = 214 ∨ a = 215 → R0 a j = M a j := fun a j ha => q0 a j (by omega) (by omega) (by rcases ha with rfl | rfl | rfl <;> rfl)
        exact rPlan_eq (hh.2 k hk) (c 213 k (by omega)) rfl (fun i => ⟨rfl, rfl, rfl⟩) (fun i _ => ⟨c 214 _ (by omega), c 215 _ (by omega)⟩)
    exact L_24_v hkp (by omega) h1 0 rfl (by decide) M u hP (Or.inl ⟨rfl, rfl, w, R0, R1, q0, h118, hP0, hr⟩)
  · have h1 := tIf_n (fun q => g1 (f_33_iff.mp q)) h1
    have h2 := tIf_n (fun q => g1 (f_109_iff.mp q)) h2
    rw [h1.1, h2.1]
