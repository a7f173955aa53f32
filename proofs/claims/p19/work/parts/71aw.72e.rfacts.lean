/-! the reference's facts, and what its law tells -/
theorem D_86_w {p1 : Int32} {M v N} (h : D_86 p1 M v N) : (∀ k, k < 14 → N 216 k = FdV M p1 k) ∧ ∀ b, b ≠ 216 → N b = M b := by
  have q := h (fun x2 M' v N => ∀ i : Nat, x2.toInt = i → i ≤ 14 → (∀ k, k < i → M' 216 k = kI 0) → (∀ b, b ≠ 216 → M' b = M b) → (∀ k, k < 14 → N 216 k = FdV M p1 k) ∧ ∀ b, b ≠ 216 → N b = M b) ?_
  · exact q 0 rfl (Nat.zero_le _) (fun k hk => absurd hk (Nat.not_lt_zero k)) (fun _ _ => rfl)
  · intro x2 M' v N hs i hi hi14 hk hb
    rcases hs with ⟨g, _, M1, e1, _, M2, e2, _, M3, e3, hs⟩ | ⟨g, _, M1, e1, hs⟩
    · rw [i_le, hi, kI_toInt (by decide) (by decide)] at g
      have hs := tB hs
      obtain ⟨M4, e4, hs⟩ := hs
      have hs := tB hs
      obtain ⟨M5, e5, hs⟩ := hs
      have hs := tB hs
      obtain ⟨M6, e6, _, hN⟩ := hs
      have c1 : ∀ b, b ≠ 216 → M1 b = M b := fun b h => by rw [← hb b h, e1]; funext j; exact aPut_cell h
      have c2 : ∀ b, b ≠ 216 → M2 b = M b := fun b h => by rw [← c1 b h, e2]; funext j; exact aPut_cell h
      have c3 : ∀ b, b ≠ 216 → M3 b = M b := fun b h => by rw [← c2 b h, e3]; funext j; exact aPut_cell h
      have c4 : ∀ b, b ≠ 216 → M4 b = M b := fun b h => by rw [← c3 b h, e4]; funext j; exact aPut_cell h
      have c5 : ∀ b, b ≠ 216 → M5 b = M b := fun b h => by rw [← c4 b h, e5]; funext j; exact aPut_cell h
      have c6 : ∀ b, b ≠ 216 → M6 b = M b := fun b h => by rw [← c5 b h, e6]; funext j; exact aPut_cell h
      rw [hb 188 (by decide)] at e1
      rw [c1 188 (by decide)] at e2
      rw [c2 188 (by decide)] at e3
      rw [c3 188 (by decide)] at e4
      rw [c4 188 (by decide)] at e5
      rw [c5 188 (by decide)] at e6
      rw [hN]
      refine ⟨fun k hk2 => ?_, c6⟩
      rw [e6, aPut_row, e5, aPut_row, e4, aPut_row, e3, aPut_row, e2, aPut_row, e1, aPut_row, hk k (by omega)]
      rfl
    · rw [i_le, hi, kI_toInt (by decide) (by decide)] at g
      rw [ix_of hi] at e1
      refine hs (i + 1) (n_add1 hi (by omega)) (by omega) (fun k hk2 => ?_) (fun b h => ?_)
      · rw [e1, aPut_row]
        by_cases e : k = i
        · rw [if_pos e]
        · rw [if_neg e]
          exact hk k (by omega)
      · rw [← hb b h, e1]
        funext j
        exact aPut_cell h
/-- what else is as it was: facts, stack and the flag aside -/
def fr87 (M N : pMem) : Prop := (∀ b, b ≠ 216 → b ≠ 217 → b ≠ 188 → N b = M b) ∧ ∀ j, j ≠ 51 → N 188 j = M 188 j
theorem fr87_t {M N K : pMem} (h : fr87 M N) (g : fr87 N K) : fr87 M K := ⟨fun b h1 h2 h3 => (g.1 b h1 h2 h3).trans (h.1 b h1 h2 h3), fun j hj => (g.2 j hj).trans (h.2 j hj)⟩
theorem fr87_c {M N : pMem} (h : ∀ b, b ≠ 216 → N b = M b) : fr87 M N := ⟨fun b h1 _ _ => h b h1, fun j _ => by rw [h 188 (by decide)]⟩
theorem fr87_85 {M N : pMem} (h : fr85 M N) : fr87 M N := ⟨fun b _ h2 h3 => h.1 b h2 h3, h.2⟩
theorem fr87_r {M : pMem} : fr87 M M := ⟨fun _ _ _ _ => rfl, fun _ _ => rfl⟩
/-- the law k of the reference -/
def rLk (M : pMem) (k : Nat) (o : List Cd) (L : List Ln) : Prop := rLR M k o L ∧ L.length ≤ 16 ∧ wfLw o L ∧ k < 5 ∧ (M 188 4).toInt = k
theorem rLk_fr {M N : pMem} {k : Nat} {o : List Cd} {L : List Ln} (h : rLk M k o L) (f : fr87 M N) : rLk N k o L := ⟨rLR_eq h.1 fun b h1 h2 => f.1 b (by omega) (by omega) (by omega), h.2.1, h.2.2.1, h.2.2.2.1, by rw [f.2 4 (by decide)]; exact h.2.2.2.2⟩
theorem rLk_c {M N : pMem} {k : Nat} {o : List Cd} {L : List Ln} (h : rLk M k o L) (f : ∀ b, 204 ≤ b → b ≤ 211 → N b = M b) (f4 : N 188 4 = M 188 4) : rLk N k o L := ⟨rLR_eq h.1 f, h.2.1, h.2.2.1, h.2.2.2.1, by rw [f4]; exact h.2.2.2.2⟩
/-- what a word tells of facts -/
def tl (F : Nat → Int32) (o : List Cd) (w : Int32) (L : List Ln) : Int32 := (teL F o w L).getD 0
def isT (F : Nat → Int32) (o : List Cd) (w : Int32) (L : List Ln) : Int32 := if teL F o w L = none then kI 0 else kI 1
theorem D_85_v {p1 : Int32} {w : Nat} (hw : p1.toInt + 14 = w) (hw2 : w < 30) {k : Nat} {o : List Cd} {L : List Ln} {M : pMem} (hc : rLk M k o L) {F : Nat → Int32} (hF : ∀ k, k < 14 → M 216 k = F k) {v N} (h : D_85 p1 M v N) : v = tl F o (kI (w : Nat)) L ∧ N 188 51 = isT F o (kI (w : Nat)) L ∧ fr85 M N :=
  D_85_w (w := kI (w : Nat)) (by rw [kI_toInt (by omega) (by omega)]; omega) hc.2.2.2.1 hc.2.1 hc.2.2.1 hc.1 hF hc.2.2.2.2 h
theorem D_87_v {p1 p2 p3 : Int32} {w : Nat} (hw : p1.toInt + 14 = w) (hw2 : w < 30) {k : Nat} {o : List Cd} {L : List Ln} {M : pMem} (hc : rLk M k o L) {i j : Nat} (hi : p2.toInt = i) (hj : p3.toInt = j) {v N} (h : D_87 p1 p2 p3 M v N) : i < 24 ∧ j < 24 ∧ v = tl (FcV M i j) o (kI (w : Nat)) L ∧ N 188 51 = isT (FcV M i j) o (kI (w : Nat)) L ∧ fr87 M N := by
  obtain ⟨gi, _, M1, h86, _, gj, h⟩ := h
  have i24 : i < 24 := by have := (ix_in gi); rw [ix_of hi] at this; omega
  have j24 : j < 24 := by have := (ix_in gj); rw [ix_of hj] at this; omega
  rw [ix_of hi] at h86
  obtain ⟨f1, f2⟩ := D_86_w h86
  have h := tB h
  obtain ⟨M2, e2, _, _, M3, e3, _, _, M4, e4, _, _, M5, e5, _, _, M6, e6, v2, M7, h85, hv, hN⟩ := h
  have c2 : ∀ b, b ≠ 216 → M2 b = M b := fun b h => by rw [← f2 b h, e2]; funext j; exact aPut_cell h
  have c3 : ∀ b, b ≠ 216 → M3 b = M b := fun b h => by rw [← c2 b h, e3]; funext j; exact aPut_cell h
  have c4 : ∀ b, b ≠ 216 → M4 b = M b := fun b h => by rw [← c3 b h, e4]; funext j; exact aPut_cell h
  have c5 : ∀ b, b ≠ 216 → M5 b = M b := fun b h => by rw [← c4 b h, e5]; funext j; exact aPut_cell h
  have c6 : ∀ b, b ≠ 216 → M6 b = M b := fun b h => by rw [← c5 b h, e6]; funext j; exact aPut_cell h
  rw [f2 189 (by decide), ix_of hi, ix_of hj] at e2
  rw [c2 195 (by decide), (ix24 hi hj i24 j24).2] at e3
  rw [c3 194 (by decide), (ix24 hi hj i24 j24).2] at e4
  rw [c4 194 (by decide), (ix24 hj hi j24 i24).2] at e5
  rw [c5 190 (by decide), ix_of hj] at e6
  have hF : ∀ k, k < 14 → M6 216 k = FcV M i j k := fun k hk => by
    rw [e6, aPut_row, e5, aPut_row, e4, aPut_row, e3, aPut_row, e2, aPut_row, f1 k hk]
    rfl
  obtain ⟨a1, a2, a3⟩ := D_85_v hw hw2 (rLk_fr hc (fr87_c c6)) hF h85
  rw [hv, hN]
  exact ⟨i24, j24, a1, a2, fr87_t (fr87_c c6) (fr87_85 a3)⟩
/-- places of boys stay -/
theorem rNb_fr {M N : pMem} {n : Nat} (h : rNb M n) (f : fr87 M N) : rNb N n := ⟨h.1, by rw [f.2 2 (by decide)]; exact h.2.1, fun i h1 h2 => by rw [f.1 191 (by decide) (by decide) (by decide)]; exact h.2.2 i h1 h2⟩
theorem inL_c {M N : pMem} (h1 : N 191 = M 191) (h2 : N 189 = M 189) {p : Int32} : inL N p = inL M p := by
  funext i
  unfold inL thV
  rw [h1, h2]
theorem lkV_c {M N : pMem} (h : N 194 = M 194) : lkV N = lkV M := by
  funext i j
  unfold lkV
  rw [h]
theorem D_88_v {p1 p2 : Int32} {w : Nat} (hw : p1.toInt + 14 = w) (hw2 : w < 30) {k : Nat} {o : List Cd} {L : List Ln} {M : pMem} (hc : rLk M k o L) (hV : rV M) {v N} (h : D_88 p1 p2 M v N) : v = tl (FlV M p2) o (kI (w : Nat)) L ∧ fr87 M N := by
  obtain ⟨⟨n, hn⟩, hb, _⟩ := hV
  obtain ⟨_, M1, h86, v2, M2, h54, _, M3, e3, v3, M4, h54b, _, M5, e5, v4, M6, h53, _, M7, e7, v5, M8, h85, hv, hN⟩ := h
  obtain ⟨f1, f2⟩ := D_86_w h86
  have n1 := rNb_fr hn (fr87_c f2)
  obtain ⟨a1, a2⟩ := D_54_w n1 h54
  rw [a2, a1] at e3
  have c3 : ∀ b, b ≠ 216 → M3 b = M b := fun b h => by rw [← f2 b h, e3]; funext j; exact aPut_cell h
  have n3 := rNb_fr hn (fr87_c c3)
  obtain ⟨b1, b2⟩ := D_54_w n3 h54b
  rw [b2, b1] at e5
  have c5 : ∀ b, b ≠ 216 → M5 b = M b := fun b h => by rw [← c3 b h, e5]; funext j; exact aPut_cell h
  have n5 := rNb_fr hn (fr87_c c5)
  obtain ⟨d1, d2⟩ := D_53_w n5 (fun i hi => by rw [c5 191 (by decide)]; exact (hb i hi).2) h53
  rw [d2, d1] at e7
  have c7 : ∀ b, b ≠ 216 → M7 b = M b := fun b h => by rw [← c5 b h, e7]; funext j; exact aPut_cell h
  rw [inL_c (f2 191 (by decide)) (f2 189 (by decide)), lkV_c (f2 194 (by decide))] at e3
  rw [inL_c (c3 191 (by decide)) (c3 189 (by decide)), inL_c (c3 191 (by decide)) (c3 189 (by decide)), lkV_c (c3 194 (by decide))] at e5
  rw [inL_c (c5 191 (by decide)) (c5 189 (by decide))] at e7
  have hF : ∀ k, k < 14 → M7 216 k = FlV M p2 k := fun k hk => by
    rw [e7, aPut_row, e5, aPut_row, e3, aPut_row, f1 k hk]
    rfl
  obtain ⟨z1, z2, z3⟩ := D_85_v hw hw2 (rLk_fr hc (fr87_c c7)) hF h85
  rw [hv, hN]
  exact ⟨z1, fr87_t (fr87_c c7) (fr87_85 z3)⟩
theorem mf56_c {M N : pMem} (h1 : N 191 = M 191) (h2 : N 189 = M 189) (h3 : N 194 = M 194) {b : Nat} {p : Int32} : mf56 N b p = mf56 M b p := by
  unfold mf56 t56 fr56 lk56
  rw [h1, h2, lkV_c h3]
theorem D_89_v {p1 : Int32} {b n : Nat} {k : Nat} {o : List Cd} {L : List Ln} {M : pMem} (hc : rLk M k o L) (hV : rV M) (hn : rNb M n) (hp : p1.toInt = b) (hbn : b < n) {v N} (h : D_89 p1 M v N) : v = tl (FbV M b) o (kI 16) L ∧ fr87 M N := by
  have n24 := hn.1
  have hb := hV.2.1
  obtain ⟨_, _, M1, h86, v2, M2, h56, _, M3, e3, _, _, M4, e4, v3, M5, h56b, _, M6, e6, v4, M7, h56c, _, M8, e8, _, v5, M9, h53, _, M10, e10, v6, M11, h85, hv, hN⟩ := h
  rw [ix_of hp] at h86 e4 h53
  obtain ⟨f1, f2⟩ := D_86_w h86
  obtain ⟨a1, a2⟩ := D_56_w (rNb_fr hn (fr87_c f2)) hp hbn h56
  rw [a2, a1, mf56_c (f2 191 (by decide)) (f2 189 (by decide)) (f2 194 (by decide))] at e3
  have c3 : ∀ b, b ≠ 216 → M3 b = M b := fun b h => by rw [← f2 b h, e3]; funext j; exact aPut_cell h
  rw [c3 190 (by decide)] at e4
  have c4 : ∀ b, b ≠ 216 → M4 b = M b := fun b h => by rw [← c3 b h, e4]; funext j; exact aPut_cell h
  obtain ⟨b1, b2⟩ := D_56_w (rNb_fr hn (fr87_c c4)) hp hbn h56b
  rw [b2, b1, mf56_c (c4 191 (by decide)) (c4 189 (by decide)) (c4 194 (by decide))] at e6
  have c6 : ∀ b, b ≠ 216 → M6 b = M b := fun b h => by rw [← c4 b h, e6]; funext j; exact aPut_cell h
  obtain ⟨d1, d2⟩ := D_56_w (rNb_fr hn (fr87_c c6)) hp hbn h56c
  rw [d2, d1, mf56_c (c6 191 (by decide)) (c6 189 (by decide)) (c6 194 (by decide))] at e8
  have c8 : ∀ b, b ≠ 216 → M8 b = M b := fun b h => by rw [← c6 b h, e8]; funext j; exact aPut_cell h
  rw [c8 189 (by decide)] at h53
  obtain ⟨g1, g2⟩ := D_53_w (rNb_fr hn (fr87_c c8)) (fun i hi => by rw [c8 191 (by decide)]; exact (hb i hi).2) h53
  rw [g2, g1, inL_c (c8 191 (by decide)) (c8 189 (by decide))] at e10
  have c10 : ∀ b, b ≠ 216 → M10 b = M b := fun b h => by rw [← c8 b h, e10]; funext j; exact aPut_cell h
  have b24 : b < 24 := by omega
  rw [mf56_2 b24] at e3
  rw [mf56_0 b24] at e6
  rw [mf56_1 b24 (fun i hi => (hb i hi).1)] at e8
  have hF : ∀ k, k < 14 → M10 216 k = FbV M b k := fun k hk => by
    rw [e10, aPut_row, e8, aPut_row, e6, aPut_row, e4, aPut_row, e3, aPut_row, f1 k hk]
    unfold FbV
    by_cases k13 : k = 13
    · rw [if_pos (show k = ix (kI 13) from k13), if_pos k13]
    · rw [if_neg (show ¬ k = ix (kI 13) from k13), if_neg k13]
      have d10 : k = 12 ∨ k = 11 → ¬ k = 10 := fun q => by omega
      have d8 : k = 12 ∨ k = 11 → ¬ k = 8 := fun q => by omega
      by_cases k12 : k = 12
      · rw [if_pos (show k = ix (kI 12) from k12), if_neg (d10 (Or.inl k12)), if_neg (d8 (Or.inl k12)), if_pos k12]
      · rw [if_neg (show ¬ k = ix (kI 12) from k12)]
        by_cases k11 : k = 11
        · rw [if_pos (show k = ix (kI 11) from k11), if_neg (d10 (Or.inr k11)), if_neg (d8 (Or.inr k11)), if_neg k12, if_pos k11]
        · rw [if_neg (show ¬ k = ix (kI 11) from k11)]
          by_cases k10 : k = 10
          · rw [if_pos (show k = ix (kI 10) from k10), if_pos k10]
          · rw [if_neg (show ¬ k = ix (kI 10) from k10), if_neg k10]
            by_cases k8 : k = 8
            · rw [if_pos (show k = ix (kI 8) from k8), if_pos k8]
            · rw [if_neg (show ¬ k = ix (kI 8) from k8), if_neg k8, if_neg k12, if_neg k11]
  obtain ⟨z1, z2, z3⟩ := D_85_v (w := 16) (by decide) (by decide) (rLk_fr hc (fr87_c c10)) hF h85
  rw [hv, hN]
  exact ⟨z1, fr87_t (fr87_c c10) (fr87_85 z3)⟩
/-! the class's law tells -/
/-- the class's law at l -/
def cLk (M : pMem) (l : Nat) (o : List Cd) (L : List Ln) : Prop := clLaw M l o L ∧ wfLw o L
theorem lCell {l : Nat} (h : pK 2 l = true) : (30 ≤ l ∧ l + 6 < 132) ∨ l + 6 < 19 := by
  obtain ⟨h1, h2⟩ := pKi h
  have c : ∀ a, a < 230 → (pC a).1 = 2 → (30 ≤ a ∧ a + 6 < 132) ∨ a + 6 < 19 := by decide +kernel
  exact c l h1 h2
theorem lwCell {l w : Nat} (hl : pK 2 l = true) (hw : pK 10 w = true) : ∀ i, i < 7 → ∀ j, j < 5 → l + i ≠ w + j := by
  obtain ⟨h1, h2⟩ := pKi hl
  obtain ⟨h3, h4⟩ := pKi hw
  have c : ∀ a, a < 230 → (pC a).1 = 2 → a + 6 < 19 ∨ (24 ≤ a ∧ a + 6 < 75) ∨ (80 ≤ a ∧ a + 6 < 132) := by decide +kernel
  have d : ∀ a, a < 230 → (pC a).1 = 10 → a = 19 ∨ a = 75 ∨ 138 ≤ a := by decide +kernel
  have c := c l h1 h2
  have d := d w h3 h4
  intro i hi j hj
  omega
theorem cLk_c {M N : pMem} {l : Nat} {o : List Cd} {L : List Ln} (h : cLk M l o L) (f : ∀ b, l ≤ b → b ≤ l + 5 → N b = M b) : cLk N l o L := ⟨clLaw_eq h.1 f, h.2⟩
theorem teL_cg {F G : Nat → Int32} (h : F = G) {o : List Cd} {w : Int32} {L : List Ln} : teL F o w L = teL G o w L := by rw [h]
theorem D_157_v {l fa : Nat} (hl : pK 2 l = true) (hfa : 132 ≤ fa) {p1 p3 : Int32} {F : Nat → Int32} {o : List Cd} {L : List Ln} {M : pMem} (hc : cLk M l o L) (hF : ∀ k, k < 14 → M fa k = F k) {v N} (h : D_157 l p1 fa p3 M v N) : v = (teL F o p1 L).getD p3 ∧ ∀ b, b ≠ l + 6 → N b = M b := by
  have := lCell hl
  exact D_157_w (Or.inr (by omega)) hc.2 hc.1 hF h
