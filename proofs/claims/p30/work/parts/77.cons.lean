/-! what the constructors leave; the whole run -/
def gFzL : List (Nat × Int × Int) := [(8, (.ofNat 0), (.ofNat 1)), (128, (.ofNat 0), (.ofNat 500)), (129, (.ofNat 0), (.ofNat 500)), (383, (.ofNat 0), (.ofNat 255)), (767, (.negSucc 2147483647), (.ofNat 2147483647)), (896, (.ofNat 0), (.ofNat 16)), (897, (.ofNat 0), (.ofNat 500)), (1792, (.ofNat 0), (.ofNat 24)), (2311, (.ofNat 0), (.ofNat 3)), (2312, (.ofNat 0), (.ofNat 5)), (2432, (.ofNat 0), (.ofNat 24)), (2436, (.ofNat 0), (.ofNat 60)), (2687, (.ofNat 0), (.ofNat 9)), (2943, (.negSucc 49), (.ofNat 50)), (3583, (.ofNat 0), (.ofNat 3)), (3711, (.negSucc 99), (.ofNat 50)), (3839, (.ofNat 0), (.ofNat 99)), (3840, (.ofNat 0), (.ofNat 16)), (3841, (.ofNat 0), (.ofNat 500)), (4736, (.ofNat 0), (.ofNat 24)), (5248, (.ofNat 0), (.ofNat 16)), (5249, (.ofNat 0), (.ofNat 500)), (6144, (.ofNat 0), (.ofNat 24)), (6656, (.ofNat 0), (.ofNat 16)), (6657, (.ofNat 0), (.ofNat 500)), (7552, (.ofNat 0), (.ofNat 24)), (8064, (.ofNat 0), (.ofNat 16)), (8065, (.ofNat 0), (.ofNat 500)), (8960, (.ofNat 0), (.ofNat 24)), (9479, (.ofNat 0), (.ofNat 3)), (9480, (.ofNat 0), (.ofNat 5)), (9600, (.ofNat 0), (.ofNat 24)), (9604, (.ofNat 0), (.ofNat 60)), (9855, (.ofNat 0), (.ofNat 9)), (10111, (.negSucc 49), (.ofNat 50)), (10751, (.ofNat 0), (.ofNat 3)), (10879, (.negSucc 99), (.ofNat 50)), (11007, (.ofNat 0), (.ofNat 99)), (11008, (.ofNat 0), (.ofNat 16)), (11009, (.ofNat 0), (.ofNat 500)), (11904, (.ofNat 0), (.ofNat 24)), (12416, (.ofNat 0), (.ofNat 16)), (12417, (.ofNat 0), (.ofNat 500)), (13312, (.ofNat 0), (.ofNat 24)), (13824, (.ofNat 0), (.ofNat 16)), (13825, (.ofNat 0), (.ofNat 500)), (14720, (.ofNat 0), (.ofNat 24)), (15232, (.ofNat 0), (.ofNat 16)), (15233, (.ofNat 0), (.ofNat 500)), (16128, (.ofNat 0), (.ofNat 24)), (17673, (.ofNat 0), (.ofNat 1)), (18047, (.ofNat 0), (.ofNat 4)), (18175, (.ofNat 0), (.ofNat 4)), (18304, (.ofNat 0), (.ofNat 24)), (18559, (.ofNat 0), (.ofNat 9)), (18815, (.negSucc 49), (.ofNat 50)), (18944, (.ofNat 0), (.ofNat 24)), (19199, (.ofNat 0), (.ofNat 9)), (19455, (.negSucc 49), (.ofNat 50)), (19584, (.ofNat 0), (.ofNat 24)), (19839, (.ofNat 0), (.ofNat 9)), (20095, (.negSucc 49), (.ofNat 50)), (20224, (.ofNat 0), (.ofNat 24)), (20479, (.ofNat 0), (.ofNat 9)), (20735, (.negSucc 49), (.ofNat 50)), (20864, (.ofNat 0), (.ofNat 24)), (21119, (.ofNat 0), (.ofNat 9)), (21375, (.negSucc 49), (.ofNat 50)), (21504, (.ofNat 0), (.ofNat 24)), (21759, (.ofNat 0), (.ofNat 9)), (22015, (.negSucc 49), (.ofNat 50)), (24066, (.ofNat 0), (.ofNat 24)), (24067, (.ofNat 0), (.ofNat 1000)), (24068, (.ofNat 0), (.ofNat 3)), (24088, (.ofNat 0), (.ofNat 500)), (24089, (.ofNat 0), (.ofNat 500)), (24090, (.ofNat 0), (.ofNat 500)), (24091, (.ofNat 0), (.ofNat 4)), (24102, (.ofNat 0), (.ofNat 500)), (24103, (.ofNat 0), (.ofNat 8)), (24105, (.ofNat 0), (.ofNat 40)), (24115, (.ofNat 0), (.ofNat 1)), (24120, (.negSucc 2147483647), (.ofNat 2147483647)), (24132, (.ofNat 0), (.ofNat 1200)), (24133, (.ofNat 0), (.ofNat 1)), (24135, (.ofNat 0), (.ofNat 5)), (24141, (.ofNat 0), (.ofNat 1)), (24143, (.ofNat 0), (.ofNat 8600)), (24831, (.ofNat 0), (.ofNat 99)), (25983, (.ofNat 0), (.ofNat 255)), (26111, (.ofNat 0), (.ofNat 127)), (26239, (.ofNat 0), (.ofNat 16)), (27391, (.ofNat 0), (.ofNat 24)), (28159, (.ofNat 0), (.ofNat 1)), (28415, (.negSucc 0), (.ofNat 23)), (28799, (.ofNat 0), (.ofNat 4)), (28927, (.ofNat 0), (.ofNat 4)), (29055, (.ofNat 0), (.ofNat 1))]
def gOkv (v : zV) (lo hi : Int) : Bool := (Nat.beq v.1 0 && (zeq v.2.2.1 (.ofNat 0) && (zle lo v.2.1 && zle v.2.1 hi))) || (Nat.beq v.1 1 && (zle lo v.2.1 && zle v.2.2.1 hi))
def gAtE (E : List zE) (p i : Nat) (lo hi : Int) : Bool := E.any fun d => Nat.beq d.1 p && (Nat.ble d.2.1 i && (Nat.blt i d.2.2.1 && gOkv d.2.2.2 lo hi))
def gCov (E : List zE) (p l : Nat) (lo hi : Int) : Bool := (E.any fun d => Nat.beq d.1 p && (Nat.beq d.2.1 0 && (Nat.ble l d.2.2.1 && gOkv d.2.2.2 lo hi))) || (List.range l).all fun i => gAtE E p i lo hi
def gMem (u v : Nat) : Bool := (Nat.blt u 700 && Nat.beq v u) || ((Nat.ble 700 u && Nat.blt u 1000) && (gPs u).any (fun b => Nat.beq v b))
def gCellC (e : zC) (s b : Nat) : Bool := (Nat.blt b 230 && Nat.blt e.1 900) && ((Nat.beq e.1 (gK s).1 && (Nat.blt (gK s).1 100 || Nat.beq e.2.1 (gK s).2.1)) && ((List.range (gK s).2.2.1.length).all (fun j => Nat.ble 99999 (zAt (gK s).2.2.1 j) || (Nat.blt (zAt e.2.2.1 j) 700 && gMem (zAt (gK s).2.2.1 j) (zAt e.2.2.1 j))) &&
  (Nat.blt (gK s).2.2.2 700 || (List.range (gK s).2.1).all (fun j => Nat.blt (zAt e.2.2.1 j) 700 && gMem (gK s).2.2.2 (zAt e.2.2.1 j)))))
def gCell (K : zK) (s b : Nat) : Bool := gCellC (zLk K.2.2 b (999, 0, [], 0)) s b
def gKcC0 : Nat → zS → zK → List zE → List zV → Bool := fun _ _ K E _ => (Nat.beq K.1 230 && Nat.beq K.2.1 108808) && (((List.range 230).all (fun a => Nat.ble 900 (gK a).1 || gCell K a a) && gPsL.all (fun q => Nat.ble 900 (gK q.1).1 || q.2.all fun b => gCell K q.1 b)) &&
  (gFzL.all (fun t => gCov E t.1 (bif Nat.beq (t.1 % 128) 127 then (gK (t.1 / 128)).2.1 else 1) t.2.1 t.2.2) && ((List.range 156).all (fun j => gAtE E 26111 j (gWd.getD j 0) (gWd.getD j 0)) && (((List.range 4).all (fun j => gAtE E 26239 j (.ofNat 0) (.ofNat 0) && gAtE E 29439 (3 * j) (.ofNat 0) (.ofNat 0)) &&
  (List.range 96).all (fun j => gAtE E 27519 j (.ofNat 0) (.ofNat 0) && gAtE E 29439 (4268 + 2 * j) (.ofNat 0) (.ofNat 0))) && gEI.all (fun e => (Nat.blt e.1 29440 && Nat.blt e.2.1 e.2.2.1) && ((Nat.beq e.2.2.2.1 0 && (zeq e.2.2.2.2.2.1 (.ofNat 0) || Nat.blt e.2.2.2.2.2.2 10) && (List.range (e.2.2.1 - e.2.1)).all (fun i => gAtE E e.1 (e.2.1 + i) e.2.2.2.2.1 e.2.2.2.2.1)) ||
    (Nat.beq e.2.2.2.1 1 && (List.range (e.2.2.1 - e.2.1)).all (fun i => gAtE E e.1 (e.2.1 + i) e.2.2.2.2.1 e.2.2.2.2.2.1))))))))
def gExC (e : zC) (a : Nat) : Bool := (Nat.beq e.1 (pC a).1 && (Nat.blt (pC a).1 100 || Nat.beq e.2.1 (pC a).2.1)) && (List.range (pC a).2.2.length).all (fun j => Nat.ble 230 ((pC a).2.2.getD j 999) || Nat.beq (zAt e.2.2.1 j) ((pC a).2.2.getD j 999))
def gZr (E : List zE) (p i : Nat) : Bool := gAtE E p i (.ofNat 0) (.ofNat 0)
def gZrF : List Nat := [2432, 2436, 2437, 24065, 24066, 24067, 24088, 24141, 9600, 9604, 9605, 8, 128]
def gKcR (K : zK) (E : List zE) : Bool := (List.range 230).all (fun a => Nat.blt (zLk K.2.2 a (999, 0, [], 0)).1 900 && gExC (zLk K.2.2 a (999, 0, [], 0)) a) && (gZrF.all (fun p => gZr E p 0) && ((gCov E 383 500 (.ofNat 0) (.ofNat 0) && gCov E 25983 500 (.ofNat 0) (.ofNat 0)) &&
  ((List.range 4).all (fun k => gZr E (128 * (37 + 11 * k)) 0 && gZr E (128 * (93 + 11 * k)) 0) && (gCov E 27391 4 (.ofNat 0) (.ofNat 0) && (gCov E 29055 24 (.ofNat 0) (.ofNat 0) && gCov E 29439 8600 (.ofNat 0) (.ofNat 0))))))
def gKf1 : List (Nat × Nat × Int) := [(19, 0, 0), (19, 1, 0), (19, 2, 0), (19, 3, 0), (19, 4, 0), (19, 5, 0), (19, 6, 0), (19, 7, 0), (19, 8, 0), (19, 9, -1), (19, 10, -1), (18, 7, 0), (18, 8, 0), (30, 0, 0), (41, 0, 0), (52, 0, 0), (63, 0, 0), (188, 1, 0), (188, 2, 0), (188, 3, 0), (188, 4, 0), (188, 17, 0), (188, 18, 0), (188, 19, 0), (188, 71, 0), (188, 20, -1), (188, 21, -1), (0, 8, 0)]
def gKf2 : List (Nat × Nat × Int) := [(20, 24, 0), (21, 24, 0), (29, 24, 0), (28, 24, -100), (22, 576, 0), (23, 18, 0), (26, 480, 0), (189, 24, 0), (190, 24, 0), (191, 24, 0), (192, 24, 0), (193, 24, 0), (226, 24, 0), (194, 576, 0), (195, 576, 0), (196, 2, 0), (197, 2, 0), (198, 2, 0), (199, 2, 0), (200, 2, 0), (201, 480, 0), (204, 4, 0), (209, 4, 0)]
def gKcF (E : List zE) : Bool := gKf1.all (fun t => gAtE E (128 * t.1 + t.2.1) 0 t.2.2 t.2.2) && gKf2.all (fun t => gCov E (128 * t.1 + 127) t.2.1 t.2.2 t.2.2)
def gKcC : Nat → zS → zK → List zE → List zV → Bool := fun n σ K E ls => gKcC0 n σ K E ls && (gKcR K E && gKcF E)
def gPA : zP := (zBk, fun _ => (999, 0, [], 0), fun _ => (.negSucc 2147483647, .ofNat 2147483647), fun _ => [], fun _ => [], [(1, [], [], [(4, (.ofNat 0), (.ofNat 0), 90000), (4, (.ofNat 0), (.ofNat 0), 0), (4, (.ofNat 0), (.ofNat 0), 188), (0, (.ofNat 0), (.ofNat 0), 0)], [], [])], true, gAllB, gAllB, 0, [], fun _ _ _ _ _ => false, gKcC)
theorem gR_c : zGoX gPA 10000000 0 [] (0, 0, []) [] ([], 60, 241, 0) ((zBk 241).getD 0 []) [(4, .ofNat 0, .ofNat 0, 90000), (6, .ofNat 0, .ofNat 0, 0), (6, .ofNat 0, .ofNat 0, 0), (6, .ofNat 0, .ofNat 0, 0)] [] = true := by decide +kernel
theorem gFz_ok : ((List.range 29440).all fun p => (zle (gF p).1 (.negSucc 2147483647) && zle (.ofNat 2147483647) (gF p).2) || gFzL.any fun t => Nat.beq t.1 p && (zle (gF p).1 t.2.1 && zle t.2.2 (gF p).2)) = true := by decide +kernel
theorem gOkv_s {v : zV} {lo hi x : Int} {ρ : Nat → Int} {n : Nat} (h : gOkv v lo hi = true) (k : zN ρ n 0 v x) : lo ≤ x ∧ x ≤ hi := by
  unfold gOkv at h
  rcases Bool.or_eq_true _ _ ▸ h with h | h
  · obtain ⟨h1, h⟩ := zAnd h
    obtain ⟨h2, h⟩ := zAnd h
    obtain ⟨h3, h4⟩ := zAnd h
    have h1 := zbe h1
    have h2 : v.2.2.1 = 0 := zeq_iff.mp h2
    rcases k with ⟨_, _, k⟩ | ⟨k, _⟩
    · rw [h2, Int.zero_mul, Int.add_zero] at k
      rw [k]
      exact ⟨zl h3, zl h4⟩
    · omega
  · obtain ⟨h1, h⟩ := zAnd h
    obtain ⟨h3, h4⟩ := zAnd h
    have h1 := zbe h1
    have h3 := zl h3
    have h4 := zl h4
    rcases k with ⟨k, _⟩ | ⟨_, k1, k2⟩
    · omega
    · omega
theorem gAtE_s {X : aX} {ρ : Nat → Int} {n : Nat} {h : aH} {E : List zE} {p i : Nat} {lo hi : Int} (hE : ∀ e ∈ E, zGe X ρ n h e) (hp : p < 29440) (k : gAtE E p i lo hi = true) (hi0 : p % 128 ≠ 127 → i = 0) : zPl h p ∧ lo ≤ (zM h p i).toInt ∧ (zM h p i).toInt ≤ hi := by
  obtain ⟨d, hd, hq⟩ := List.any_eq_true.mp k
  obtain ⟨q1, hq⟩ := zAnd hq
  obtain ⟨q2, hq⟩ := zAnd hq
  obtain ⟨q3, q4⟩ := zAnd hq
  have q1 := zbe q1
  have hh := hE d hd
  unfold zGe at hh
  rw [if_neg (by omega), if_neg (by omega), q1] at hh
  exact ⟨hh.1, gOkv_s q4 (hh.2 i (zbl q2) (zbt q3) hi0)⟩
theorem gCov_s {X : aX} {ρ : Nat → Int} {n : Nat} {h : aH} {E : List zE} {p l i : Nat} {lo hi : Int} (hE : ∀ e ∈ E, zGe X ρ n h e) (hp : p < 29440) (k : gCov E p l lo hi = true) (hi0 : p % 128 ≠ 127 → i = 0) (hil : i < l) : lo ≤ (zM h p i).toInt ∧ (zM h p i).toInt ≤ hi := by
  unfold gCov at k
  rcases Bool.or_eq_true _ _ ▸ k with k | k
  · refine (gAtE_s hE hp (i := i) ?_ hi0).2
    obtain ⟨d, hd, hq⟩ := List.any_eq_true.mp k
    obtain ⟨q1, hq⟩ := zAnd hq
    obtain ⟨q2, hq⟩ := zAnd hq
    obtain ⟨q3, q4⟩ := zAnd hq
    have q2 := zbe q2
    have q3 := zbl q3
    refine List.any_eq_true.mpr ⟨d, hd, ?_⟩
    rw [q1, q4, show Nat.ble d.2.1 i = true from Nat.ble_eq_true_of_le (by omega), show Nat.blt i d.2.2.1 = true from Nat.ble_eq_true_of_le (by omega)]
    rfl
  · exact (gAtE_s hE hp (List.all_eq_true.mp k i (List.mem_range.mpr hil)) hi0).2
theorem gMem_s {u v : Nat} {L : List (Nat × List zCo)} (h : gMem u v = true) : zGc (gP L) u v := by
  unfold gMem at h
  rcases Bool.or_eq_true _ _ ▸ h with h | h
  · obtain ⟨h1, h2⟩ := zAnd h
    exact Or.inl ⟨zbt h1, zbe h2⟩
  · obtain ⟨h1, h2⟩ := zAnd h
    obtain ⟨h3, h4⟩ := zAnd h1
    obtain ⟨b, hb, hq⟩ := List.any_eq_true.mp h2
    have hq : v = b := zbe hq
    exact Or.inr (Or.inl ⟨zbl h3, zbt h4, by rw [hq]; exact hb⟩)
theorem zAt_ge : ∀ {l : List Nat} {j : Nat}, l.length ≤ j → zAt l j = 99999 := by
  intro l
  induction l with
  | nil => intro j _; rfl
  | cons a r ih =>
    intro j h
    rw [List.length_cons] at h
    unfold zAt
    rw [show Nat.beq j 0 = false from by cases j with
      | zero => omega
      | succ j => rfl]
    exact ih (by omega)
theorem gCell_s {h : aH} {e : zC} {s b : Nat} (hk : gCellC e s b = true) (g : zGk gPA h b e) : zGk (gP []) h b (gK s) := by
  unfold gCellC at hk
  obtain ⟨h1, hk⟩ := zAnd hk
  obtain ⟨h1, h2⟩ := zAnd h1
  obtain ⟨h3, hk⟩ := zAnd hk
  obtain ⟨h3, h4⟩ := zAnd h3
  obtain ⟨h5, h6⟩ := zAnd hk
  have h3 := zbe h3
  obtain ⟨g1, g2, g3, g4, g5, g6⟩ := g
  refine ⟨g1, g2, g3.trans h3, fun q => ?_, fun j hj => ?_, fun q j hj => ?_⟩
  · rcases Bool.or_eq_true _ _ ▸ h4 with k | k
    · have := zbt k; omega
    · rw [← zbe k]; exact g4 (by omega)
  · have hl : j < (gK s).2.2.1.length := by
      by_cases c : j < (gK s).2.2.1.length
      · exact c
      · rw [zAt_ge (by omega)] at hj
        omega
    have k := List.all_eq_true.mp h5 j (List.mem_range.mpr hl)
    rcases Bool.or_eq_true _ _ ▸ k with k | k
    · have := zbl k; omega
    · obtain ⟨k1, k2⟩ := zAnd k
      have k1 := zbt k1
      obtain ⟨r, r1, r2⟩ := g5 j (by omega)
      have er : r = zAt e.2.2.1 j := by
        rcases r2 with ⟨_, k⟩ | ⟨k, _⟩ | ⟨k, _⟩
        · exact k
        · omega
        · omega
      exact ⟨r, r1, by rw [er]; exact gMem_s k2⟩
  · rcases Bool.or_eq_true _ _ ▸ h6 with k | k
    · have := zbt k; omega
    · have k := List.all_eq_true.mp k j (List.mem_range.mpr hj)
      obtain ⟨k1, k2⟩ := zAnd k
      have k1 := zbt k1
      obtain ⟨r, r1, r2⟩ := g5 j (by omega)
      have er : r = zAt e.2.2.1 j := by
        rcases r2 with ⟨_, k⟩ | ⟨k, _⟩ | ⟨k, _⟩
        · exact k
        · omega
        · omega
      exact ⟨r, r1, by rw [er]; exact gMem_s k2⟩
theorem gK_out {s : Nat} (h : 1000 ≤ s) : (gK s).1 = 999 := by
  have e : ∀ n, Nat.blt s n = decide (s < n) := fun n => by
    cases c : Nat.blt s n
    · exact (decide_eq_false (by have := zbtF c; omega)).symm
    · exact (decide_eq_true (zbt c)).symm
  unfold gK
  simp only [e]
  repeat (first | rfl | (rw [decide_eq_false (by omega)]; simp only [cond_false]) )
theorem gK_mid : ((List.range 1000).all fun s => Nat.blt s 230 || (Nat.ble 900 (gK s).1 || (Nat.ble 700 s))) = true := by decide +kernel
