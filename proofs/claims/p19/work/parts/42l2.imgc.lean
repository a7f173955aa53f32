/-! images of texts: the contracts -/
theorem gPos_in {a i : Nat} (h : gPos a i < 9999) : a = 204 ∧ i < 4 ∨ a = 209 ∨ a = 213 ∧ i < 4 ∨ a = 205 ∨ a = 206 ∨ a = 207 ∨ a = 208 ∨ a = 210 ∨ a = 211 ∨ a = 214 ∨ a = 215 := by
  unfold gPos at h
  by_cases c1 : a = 204 ∧ i < 4
  · exact Or.inl c1
  rw [if_neg c1] at h
  by_cases c2 : a = 209 ∧ i < 4
  · exact Or.inr (Or.inl c2.1)
  rw [if_neg c2] at h
  by_cases c3 : a = 213 ∧ i < 4
  · exact Or.inr (Or.inr (Or.inl c3))
  rw [if_neg c3] at h
  by_cases c4 : a = 205 ∧ i < 64
  · omega
  rw [if_neg c4] at h
  by_cases c5 : a = 206 ∧ i < 64
  · omega
  rw [if_neg c5] at h
  by_cases c6 : a = 207 ∧ i < 64
  · omega
  rw [if_neg c6] at h
  by_cases c7 : a = 208 ∧ i < 64
  · omega
  rw [if_neg c7] at h
  by_cases c8 : a = 210 ∧ i < 2000
  · omega
  rw [if_neg c8] at h
  by_cases c9 : a = 211 ∧ i < 2000
  · omega
  rw [if_neg c9] at h
  by_cases c10 : a = 214 ∧ i < 96
  · omega
  rw [if_neg c10] at h
  by_cases c11 : a = 215 ∧ i < 96
  · omega
  rw [if_neg c11] at h
  omega
/-- an entry of images -/
theorem gIm {ρ : Nat → Int} {n f t : Nat} {v : zV} {h : aH} (hG : gG h) : zGp ρ n h (29439, f, t, v) ↔ ∀ i, f ≤ i → i < t → zN ρ n 0 v (h.2.2.2 229 i).toInt := by
  have hp : zPl h 29439 := zPla (a := 229) (by rw [hG.1.1]; decide) (by decide) (gAr hG (by decide) (Or.inl (by decide +kernel)))
  refine ⟨fun k i h1 h2 => ?_, fun k => ⟨hp, fun i h1 h2 _ => ?_⟩⟩
  · have := k.2 i h1 h2 (fun z => absurd (show (29439 : Nat) % 128 = 127 from rfl) z)
    rwa [show (29439 : Nat) = 229 * 128 + 127 from rfl, zMa'] at this
  · show zN ρ n 0 v (zM h (229 * 128 + 127) i).toInt
    rw [zMa']
    exact k i h1 h2
/-- a field of the reference -/
theorem gFd {ρ : Nat → Int} {n f : Nat} {v : zV} {h : aH} (hG : gG h) (hf : f < 127) : zGp ρ n h (188 * 128 + f, 0, 1, v) ↔ zN ρ n 0 v (h.2.2.2 188 f).toInt := by
  have hp : zPl h (188 * 128 + f) := zPlf hf (by rw [hG.1.1]; decide) (by decide) (gFl hG (by decide) (by decide +kernel))
  refine ⟨fun k => ?_, fun k => ⟨hp, fun i h1 h2 _ => ?_⟩⟩
  · have := k.2 0 (Nat.le_refl _) Nat.zero_lt_one (fun _ => rfl)
    rwa [zMf hf] at this
  · show zN ρ n 0 v (zM h (188 * 128 + f) i).toInt
    rw [zMf hf]
    exact k
theorem zNc {ρ : Nat → Int} {n : Nat} {c : Int} {s : Nat} {x : Int} (h : zN ρ n 0 (0, c, .ofNat 0, s) x) : x = c := by
  rcases h with ⟨_, _, h⟩ | ⟨h, _⟩
  · have h : x = c + 0 * ρ s := h
    omega
  · cases h
theorem zNr' {ρ : Nat → Int} {n : Nat} {lo hi : Int} {s : Nat} {x : Int} (h : zN ρ n 0 (1, lo, hi, s) x) : lo ≤ x ∧ x ≤ hi := by
  rcases h with ⟨h, _⟩ | ⟨_, h⟩
  · cases h
  · exact h
def gLsm : List zE := [(29439, 0, 1, (1, (.ofNat 0), (.ofNat 16), 0)), (29439, 3, 4, (1, (.ofNat 0), (.ofNat 16), 0)), (29439, 6, 7, (1, (.ofNat 0), (.ofNat 16), 0)), (29439, 9, 10, (1, (.ofNat 0), (.ofNat 16), 0)), (29439, 2, 3, (1, (.ofNat 0), (.ofNat 24), 0)), (29439, 5, 6, (1, (.ofNat 0), (.ofNat 24), 0)), (29439, 8, 9, (1, (.ofNat 0), (.ofNat 24), 0)), (29439, 11, 12, (1, (.ofNat 0), (.ofNat 24), 0))]
theorem gLsm_ok {ρ : Nat → Int} {n : Nat} {h : aH} (hG : gG h) (h1 : ∀ k, k < 4 → 0 ≤ (h.2.2.2 229 (3 * k)).toInt ∧ (h.2.2.2 229 (3 * k)).toInt ≤ 16) (h2 : ∀ k, k < 4 → 0 ≤ (h.2.2.2 229 (3 * k + 2)).toInt ∧ (h.2.2.2 229 (3 * k + 2)).toInt ≤ 24) : ∀ e ∈ gLsm, zGp ρ n h e := by
  have a1 : ∀ k, k < 4 → zGp ρ n h (29439, 3 * k, 3 * k + 1, (1, (.ofNat 0), (.ofNat 16), 0)) := fun k hk => (gIm hG).mpr (fun i i1 i2 => by
    rw [show i = 3 * k by omega]
    exact znR (w := 0) (h1 k hk).1 (h1 k hk).2)
  have a2 : ∀ k, k < 4 → zGp ρ n h (29439, 3 * k + 2, 3 * k + 2 + 1, (1, (.ofNat 0), (.ofNat 24), 0)) := fun k hk => (gIm hG).mpr (fun i i1 i2 => by
    rw [show i = 3 * k + 2 by omega]
    exact znR (w := 0) (h2 k hk).1 (h2 k hk).2)
  intro e he
  unfold gLsm at he
  simp only [List.mem_cons, List.not_mem_nil, or_false] at he
  rcases he with rfl | rfl | rfl | rfl | rfl | rfl | rfl | rfl
  · exact a1 0 (by decide)
  · exact a1 1 (by decide)
  · exact a1 2 (by decide)
  · exact a1 3 (by decide)
  · exact a2 0 (by decide)
  · exact a2 1 (by decide)
  · exact a2 2 (by decide)
  · exact a2 3 (by decide)
theorem gLsm_of {ρ : Nat → Int} {n : Nat} {h : aH} (hG : gG h) (hL : ∀ e ∈ gLsm, zGp ρ n h e) : (∀ k, k < 4 → 0 ≤ (h.2.2.2 229 (3 * k)).toInt ∧ (h.2.2.2 229 (3 * k)).toInt ≤ 16) ∧ (∀ k, k < 4 → 0 ≤ (h.2.2.2 229 (3 * k + 2)).toInt ∧ (h.2.2.2 229 (3 * k + 2)).toInt ≤ 24) := by
  have g : ∀ f v, (29439, f, f + 1, v) ∈ gLsm → zN ρ n 0 v (h.2.2.2 229 f).toInt := fun f v hm => (gIm hG).mp (hL _ hm) f (Nat.le_refl _) (Nat.lt_succ_self _)
  refine ⟨fun k hk => ?_, fun k hk => ?_⟩
  · rcases (show k = 0 ∨ k = 1 ∨ k = 2 ∨ k = 3 by omega) with rfl | rfl | rfl | rfl
    · exact zNr' (g 0 (1, (.ofNat 0), (.ofNat 16), 0) (by decide +kernel))
    · exact zNr' (g 3 (1, (.ofNat 0), (.ofNat 16), 0) (by decide +kernel))
    · exact zNr' (g 6 (1, (.ofNat 0), (.ofNat 16), 0) (by decide +kernel))
    · exact zNr' (g 9 (1, (.ofNat 0), (.ofNat 16), 0) (by decide +kernel))
  · rcases (show k = 0 ∨ k = 1 ∨ k = 2 ∨ k = 3 by omega) with rfl | rfl | rfl | rfl
    · exact zNr' (g 2 (1, (.ofNat 0), (.ofNat 24), 0) (by decide +kernel))
    · exact zNr' (g 5 (1, (.ofNat 0), (.ofNat 24), 0) (by decide +kernel))
    · exact zNr' (g 8 (1, (.ofNat 0), (.ofNat 24), 0) (by decide +kernel))
    · exact zNr' (g 11 (1, (.ofNat 0), (.ofNat 24), 0) (by decide +kernel))
def gPut : zE := (188 * 128 + 69, 0, 1, (0, (.ofNat 1), (.ofNat 0), 0))
def gPut0 : zE := (188 * 128 + 69, 0, 1, (0, (.ofNat 0), (.ofNat 0), 0))
def gAt (c : Nat) : zE := (188 * 128 + 79, 0, 1, (0, (.ofNat c), (.ofNat 0), 0))
theorem gh_133_0_ok {X : aX} : zCk X (gP []) gG 133 gh_133_0 := by
  intro d ρ as h hd hb hargs hents hK hI hG
  obtain ⟨u0, q0, rfl, g0, hargs⟩ := zGl_cons hargs
  obtain rfl := zGl_nil hargs
  obtain rfl := gRefx g0 (Or.inl (by decide))
  obtain ⟨dd, rfl⟩ : ∃ dd, d = dd + 1 + 1 := ⟨d - 2, by have hd : 3 ≤ d := hd; omega⟩
  have hP : (h.2.2.2 188 69).toInt = 1 := zNc ((gFd hG (by decide)).mp (hents gPut (by decide +kernel)))
  have hA : (h.2.2.2 188 79).toInt = 0 := zNc ((gFd hG (by decide)).mp (hents (gAt 0) (by decide +kernel)))
  have base := h133_p (X := X) (d := dd) (gKs_of hG.1) (M := h.2.2.2) hP hA
  rw [← gH_of hG.1] at base
  refine base.mono (fun rv h' hq => ?_)
  obtain ⟨M', rfl, rfl, m1, m2, m3, m4, m5⟩ := hq
  have ps : ∀ a i j, gPos a i = j → j < 4460 → M' 229 j = h.2.2.2 a i := fun a i j e hj => by rw [← e]; exact m4 a i (by omega)
  have hR : gRm M' := by
    obtain ⟨r0, r1, r2, r3, r4⟩ := hG.2
    refine ⟨fun j hj => by rw [m1 203 (by decide) (by decide)]; exact r0 j hj, by rw [m1 204 (by decide) (by decide), m1 206 (by decide) (by decide), m1 207 (by decide) (by decide), m1 208 (by decide) (by decide), m1 210 (by decide) (by decide), m1 211 (by decide) (by decide)]; exact r1, by rw [m1 214 (by decide) (by decide), m1 215 (by decide) (by decide)]; exact r2, ?_, ?_⟩
    · exact gRows_eq (fun k hk => ps 204 k _ (gPos_204 hk) (by omega)) (fun l hl => ⟨ps 206 l _ (gPos_206 hl) (by omega), ps 207 l _ (gPos_207 hl) (by omega), ps 208 l _ (gPos_208 hl) (by omega)⟩) (fun i hi => ⟨ps 210 i _ (gPos_210 hi) (by omega), ps 211 i _ (gPos_211 hi) (by omega)⟩) r1
    · exact gSteps_eq (fun i hi => ⟨ps 214 i _ (gPos_214 hi) (by omega), ps 215 i _ (gPos_215 hi) (by omega)⟩) r2
  obtain ⟨d1, d2, d3⟩ := gDone (md := gh_133_0.2.2.2.2.2.2) hG hI hR (fun a i => by
    by_cases q : a = 229
    · subst q
      exact Or.inr ⟨229 * 128 + 127, Or.inr ⟨gAr hG (by decide) (Or.inl (by decide +kernel)), rfl⟩, by decide +kernel, iG _⟩
    · by_cases q2 : a = 188
      · subst q2
        by_cases q3 : i = 79
        · subst q3
          exact Or.inr ⟨188 * 128 + 79, Or.inl ⟨gFl hG (by decide) (by decide +kernel), rfl⟩, by decide +kernel, by rw [show gF (188 * 128 + 79) = (0, 8600) from by decide +kernel, m3]; decide⟩
        · exact Or.inl (m2 i q3)
      · exact Or.inl (by rw [m1 a q2 q]))
  have e1 : h.1 = 230 := hG.1.1
  have e2 : h.2.1 = 108808 := hG.1.2.1
  rw [e1, e2] at d1 d2
  have ep : gh_133_0.2.2.2.2.2.1 = [([], [], [], [], gPut :: gAt 4460 :: (gLsm ++ gh_133_0.2.2.2.2.1.drop 10))] := rfl
  have kp : (gh_133_0.2.2.2.2.1.drop 10).all (fun e => Nat.beq e.1 29439 && Nat.ble 4460 e.2.1) = true := by decide +kernel
  refine ⟨⟨([], [], [], [], gPut :: gAt 4460 :: (gLsm ++ gh_133_0.2.2.2.2.1.drop 10)), by rw [ep]; exact List.mem_singleton.mpr rfl, ρ, fun _ _ => rfl, fun i b h => (by cases h), fun e he => (by cases he), trivial, fun e he => ?_⟩, d1, d2, e1.symm, e2.symm, rfl, d3⟩
  have sp : e = gPut ∨ e = gAt 4460 ∨ e ∈ gLsm ∨ (e ∈ gh_133_0.2.2.2.2.1 ∧ e.1 = 29439 ∧ 4460 ≤ e.2.1) := by
    rcases List.mem_cons.mp he with q | he
    · exact Or.inl q
    rcases List.mem_cons.mp he with q | he
    · exact Or.inr (Or.inl q)
    rcases List.mem_append.mp he with q | q
    · exact Or.inr (Or.inr (Or.inl q))
    · obtain ⟨k1, k2⟩ := zAnd (List.all_eq_true.mp kp e q)
      exact Or.inr (Or.inr (Or.inr ⟨List.mem_of_mem_drop q, zbe k1, zbl k2⟩))
  rcases sp with rfl | rfl | q | ⟨q1, q2, q3⟩
  · exact (gFd d2 (by decide)).mpr (znC (by show (M' 188 69).toInt = _; rw [m2 69 (by decide), hP]; rfl))
  · exact (gFd d2 (by decide)).mpr (znC (by show (M' 188 79).toInt = _; rw [m3]; rfl))
  · refine gLsm_ok d2 (fun k hk => ?_) (fun k hk => ?_) e q
    · show 0 ≤ (M' 229 (3 * k)).toInt ∧ (M' 229 (3 * k)).toInt ≤ 16
      rw [ps 204 k _ (gPos_204 hk) (by omega)]
      exact gBa hG hI (by decide) (Or.inl (by decide +kernel)) (l := 5) (by decide +kernel) (by omega) (by decide +kernel)
    · show 0 ≤ (M' 229 (3 * k + 2)).toInt ∧ (M' 229 (3 * k + 2)).toInt ≤ 24
      rw [ps 213 k _ (gPos_213 hk) (by omega)]
      exact gBa hG hI (by decide) (Or.inl (by decide +kernel)) (l := 5) (by decide +kernel) (by omega) (by decide +kernel)
  · obtain ⟨p, f, t, v⟩ := e
    have q2 : p = 29439 := q2
    subst q2
    have q3 : 4460 ≤ f := q3
    refine (gIm d2).mpr (fun i i1 i2 => ?_)
    show zN ρ _ 0 v (M' 229 i).toInt
    rw [m5 i (by omega)]
    exact (gIm hG).mp (hents _ q1) i i1 i2
theorem gh_133_1_ok {X : aX} : zCk X (gP []) gG 133 gh_133_1 := by
  intro d ρ as h hd hb hargs hents hK hI hG
  obtain ⟨u0, q0, rfl, g0, hargs⟩ := zGl_cons hargs
  obtain rfl := zGl_nil hargs
  obtain rfl := gRefx g0 (Or.inl (by decide))
  obtain ⟨dd, rfl⟩ : ∃ dd, d = dd + 1 + 1 := ⟨d - 2, by have hd : 3 ≤ d := hd; omega⟩
  have hP : (h.2.2.2 188 69).toInt = 0 := zNc ((gFd hG (by decide)).mp (hents gPut0 (by decide +kernel)))
  have hA : (h.2.2.2 188 79).toInt = 0 := zNc ((gFd hG (by decide)).mp (hents (gAt 0) (by decide +kernel)))
  have hLm : ∀ e ∈ gLsm, e ∈ gh_133_1.2.2.2.2.1 := by decide +kernel
  obtain ⟨L1, L2⟩ := gLsm_of hG (fun e he => hents e (hLm e he))
  have base := h133_b (X := X) (d := dd) (gKs_of hG.1) (M := h.2.2.2) hP hA
  rw [← gH_of hG.1] at base
  refine base.mono (fun rv h' hq => ?_)
  obtain ⟨M', rfl, rfl, m1, m2, m3⟩ := hq
  have ps : ∀ a i j, gPos a i = j → j < 4460 → a ≠ 188 → M' a i = h.2.2.2 229 j := fun a i j e hj ha => by rw [m3 a i ha, e, if_pos (by omega)]
  have sm : ∀ a i, a ≠ 188 → 9999 ≤ gPos a i → M' a i = h.2.2.2 a i := fun a i ha hp => by rw [m3 a i ha, if_neg (by omega)]
  have o203 : ∀ i, 9999 ≤ gPos 203 i := fun i => by
    by_cases q : gPos 203 i < 9999
    · rcases gPos_in q with q | q | q | q | q | q | q | q | q | q | q <;> omega
    · omega
  have o229 : ∀ i, 9999 ≤ gPos 229 i := fun i => by
    by_cases q : gPos 229 i < 9999
    · rcases gPos_in q with q | q | q | q | q | q | q | q | q | q | q <;> omega
    · omega
  have hR : gRm M' := by
    obtain ⟨r0, r1, r2, r3, r4⟩ := hG.2
    have e229 : ∀ i, M' 229 i = h.2.2.2 229 i := fun i => sm 229 i (by decide) (o229 i)
    refine ⟨fun j hj => by rw [sm 203 j (by decide) (o203 j)]; exact r0 j hj, ?_, ?_, gRows_eq (fun k _ => e229 _) (fun l _ => ⟨e229 _, e229 _, e229 _⟩) (fun i _ => ⟨e229 _, e229 _⟩) r3, gSteps_eq (fun i _ => ⟨e229 _, e229 _⟩) r4⟩
    · exact gRows_eq (fun k hk => ps 204 k _ (gPos_204 hk) (by omega) (by decide)) (fun l hl => ⟨ps 206 l _ (gPos_206 hl) (by omega) (by decide), ps 207 l _ (gPos_207 hl) (by omega) (by decide), ps 208 l _ (gPos_208 hl) (by omega) (by decide)⟩) (fun i hi => ⟨ps 210 i _ (gPos_210 hi) (by omega) (by decide), ps 211 i _ (gPos_211 hi) (by omega) (by decide)⟩) r3
    · exact gSteps_eq (fun i hi => ⟨ps 214 i _ (gPos_214 hi) (by omega) (by decide), ps 215 i _ (gPos_215 hi) (by omega) (by decide)⟩) r4
  obtain ⟨d1, d2, d3⟩ := gDone (md := gh_133_1.2.2.2.2.2.2) hG hI hR (fun a i => by
    by_cases q2 : a = 188
    · subst q2
      by_cases q3 : i = 79
      · subst q3
        exact Or.inr ⟨188 * 128 + 79, Or.inl ⟨gFl hG (by decide) (by decide +kernel), rfl⟩, by decide +kernel, by rw [show gF (188 * 128 + 79) = (0, 8600) from by decide +kernel, m2]; decide⟩
      · exact Or.inl (m1 i q3)
    · by_cases q : gPos a i < 9999
      · have ar : ∀ b, a = b → b < 230 → (gK b).1 = 100 → zBit gh_133_1.2.2.2.2.2.2 (b * 128 + 127) = true → gF (b * 128 + 127) = (-2147483648, 2147483647) → ∃ p, (((h.2.2.1 a).1 < 100 ∧ p = a * 128 + i) ∨ (100 ≤ (h.2.2.1 a).1 ∧ p = a * 128 + 127)) ∧ zBit gh_133_1.2.2.2.2.2.2 p = true ∧ (gF p).1 ≤ (M' a i).toInt ∧ (M' a i).toInt ≤ (gF p).2 := fun b e b1 b2 b3 b4 => by
          subst e
          exact ⟨a * 128 + 127, Or.inr ⟨gAr hG b1 (Or.inl b2), rfl⟩, b3, by rw [b4]; exact iG _⟩
        rcases gPos_in q with q5 | q5 | q5 | q5 | q5 | q5 | q5 | q5 | q5 | q5 | q5
        · obtain ⟨q5, q6⟩ := q5
          subst q5
          exact Or.inr ⟨204 * 128 + 127, Or.inr ⟨gAr hG (by decide) (Or.inl (by decide +kernel)), rfl⟩, by decide +kernel, by rw [show gF (204 * 128 + 127) = (0, 16) from by decide +kernel, ps 204 i _ (gPos_204 q6) (by omega) (by decide)]; exact L1 i q6⟩
        · exact Or.inr (ar 209 q5 (by decide) (by decide +kernel) (by decide +kernel) (by decide +kernel))
        · obtain ⟨q5, q6⟩ := q5
          subst q5
          exact Or.inr ⟨213 * 128 + 127, Or.inr ⟨gAr hG (by decide) (Or.inl (by decide +kernel)), rfl⟩, by decide +kernel, by rw [show gF (213 * 128 + 127) = (0, 24) from by decide +kernel, ps 213 i _ (gPos_213 q6) (by omega) (by decide)]; exact L2 i q6⟩
        · exact Or.inr (ar 205 q5 (by decide) (by decide +kernel) (by decide +kernel) (by decide +kernel))
        · exact Or.inr (ar 206 q5 (by decide) (by decide +kernel) (by decide +kernel) (by decide +kernel))
        · exact Or.inr (ar 207 q5 (by decide) (by decide +kernel) (by decide +kernel) (by decide +kernel))
        · exact Or.inr (ar 208 q5 (by decide) (by decide +kernel) (by decide +kernel) (by decide +kernel))
        · exact Or.inr (ar 210 q5 (by decide) (by decide +kernel) (by decide +kernel) (by decide +kernel))
        · exact Or.inr (ar 211 q5 (by decide) (by decide +kernel) (by decide +kernel) (by decide +kernel))
        · exact Or.inr (ar 214 q5 (by decide) (by decide +kernel) (by decide +kernel) (by decide +kernel))
        · exact Or.inr (ar 215 q5 (by decide) (by decide +kernel) (by decide +kernel) (by decide +kernel))
      · exact Or.inl (sm a i q2 (by omega)))
  have e1 : h.1 = 230 := hG.1.1
  have e2 : h.2.1 = 108808 := hG.1.2.1
  rw [e1, e2] at d1 d2
  have ep : gh_133_1.2.2.2.2.2.1 = [([], [], [], [], gPut0 :: gAt 4460 :: gLsm)] := rfl
  refine ⟨⟨([], [], [], [], gPut0 :: gAt 4460 :: gLsm), by rw [ep]; exact List.mem_singleton.mpr rfl, ρ, fun _ _ => rfl, fun i b h => (by cases h), fun e he => (by cases he), trivial, fun e he => ?_⟩, d1, d2, e1.symm, e2.symm, rfl, d3⟩
  have sp : e = gPut0 ∨ e = gAt 4460 ∨ e ∈ gLsm := by
    rcases List.mem_cons.mp he with q | he
    · exact Or.inl q
    rcases List.mem_cons.mp he with q | he
    · exact Or.inr (Or.inl q)
    exact Or.inr (Or.inr he)
  rcases sp with rfl | rfl | q
  · exact (gFd d2 (by decide)).mpr (znC (by show (M' 188 69).toInt = _; rw [m1 69 (by decide), hP]; rfl))
  · exact (gFd d2 (by decide)).mpr (znC (by show (M' 188 79).toInt = _; rw [m2]; rfl))
  · refine gLsm_ok d2 (fun k hk => ?_) (fun k hk => ?_) e q
    · show 0 ≤ (M' 229 (3 * k)).toInt ∧ (M' 229 (3 * k)).toInt ≤ 16
      rw [sm 229 _ (by decide) (o229 _)]
      exact L1 k hk
    · show 0 ≤ (M' 229 (3 * k + 2)).toInt ∧ (M' 229 (3 * k + 2)).toInt ≤ 24
      rw [sm 229 _ (by decide) (o229 _)]
      exact L2 k hk
