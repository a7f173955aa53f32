/-! fights, home, names, against: the reference -/
theorem rLk_v {V U : pMem} {k : Nat} {o : List Cd} {L : List Ln} (h : rLk V k o L) (f : ∀ b, 204 ≤ b → b ≤ 211 → U b = V b) (f4 : U 188 4 = V 188 4) : rLk U k o L := rLk_c h f f4
theorem rLk_fg {V : pMem} {k : Nat} {o : List Cd} {L : List Ln} {l : Nat} (h : rLk V k o L) : rLk (fgV o L l V) k o L := rLk_v h (fun b h1 _ => fgV_v.1 b (by omega) (by omega) (by omega)) (fgV_v.2.1 4 (by decide) (by decide))
theorem rLk_fg0 {V : pMem} {k : Nat} {o : List Cd} {L : List Ln} (h : rLk V k o L) : rLk (fg0 V) k o L := by
  unfold fg0
  exact rLk_v h (fun b h1 _ => by funext j; rw [aPut_cell (by omega), aPut_cell (by omega)]) (by rw [aPut_at (by decide), aPut_at (by decide)])
theorem rLk_lik {V : pMem} {k : Nat} {o : List Cd} {L : List Ln} (h : rLk V k o L) : rLk (likV o L V) k o L := rLk_v h (fun b h1 _ => likV_c (by omega)) (by rw [likV_c (by decide)])
theorem rLk_ho {V : pMem} {k : Nat} {o : List Cd} {L : List Ln} (h : rLk V k o L) : rLk (hoV o L V) k o L := rLk_v h (fun b h1 _ => hoV_v.1 b (by omega) (by omega)) (hoV_v.2.1 4 (by decide))
theorem rLk_na {V : pMem} {k : Nat} {o : List Cd} {L : List Ln} {l : Nat} (h : rLk V k o L) : rLk (naV o L l V) k o L := rLk_v h (fun b h1 _ => naV_v.1 b (by omega) (by omega)) (naV_v.2.1 4 (by decide))
theorem rLk_na0 {V : pMem} {k : Nat} {o : List Cd} {L : List Ln} (h : rLk V k o L) : rLk (na0 V) k o L := by
  unfold na0
  exact rLk_v h (fun b h1 _ => by funext j; rw [aPut_cell (by omega)]) (by rw [aPut_at (by decide)])
theorem rLk_bg {V : pMem} {k : Nat} {o : List Cd} {L : List Ln} {a b c : Int32} (h : rLk V k o L) : rLk (bgV a b c V) k o L := rLk_v h (fun b h1 _ => bgV_v.1 b (by omega) (by omega)) (by rw [bgV_v.2.1, bg0_v.2]; rfl)
theorem rLk_pl {V : pMem} {k : Nat} {o : List Cd} {L : List Ln} (h : rLk V k o L) : rLk (plV V) k o L := rLk_v h (fun b h1 _ => plV_v.1 b (by omega) (by omega)) (by rw [plV_v.2.1]; rfl)
def fgN (o : List Cd) (L : List Ln) : Nat → pMem → pMem
  | 0, V => V
  | n + 1, V => fgV o L n (fgN o L n V)
theorem fgN_ok {o : List Cd} {L : List Ln} {k : Nat} {V : pMem} (hV : rV V) (hc : rLk V k o L) : ∀ {n : Nat}, rV (fgN o L n V) ∧ rLk (fgN o L n V) k o L
  | 0 => ⟨hV, hc⟩
  | n + 1 => ⟨rV_fg (fgN_ok hV hc).1, rLk_fg (fgN_ok hV hc).2⟩
theorem sc_r8 {V N : pMem} (h : sc V N) {j : Nat} (h0 : j ≠ 0) (h1 : j ≠ 51) : N 188 j = V 188 j := (sc_rows h).2.2.2.2.2 j h0 h1
theorem D_93_v {k : Nat} {o : List Cd} {L : List Ln} {M V : pMem} (hs0 : sc V M) (hV : rV V) (hc : rLk V k o L) {v N} (h : D_93 M v N) : sc (fgV o L 1 (fgV o L 0 (fg0 V))) N := by
  obtain ⟨M1, e1, M2, e2, h⟩ := h
  have s2 : sc (fg0 V) M2 := by
    rw [e2, e1]
    exact sc_p (sc_p hs0 rfl) rfl
  have q := h (fun x1 M' v N => ∀ i : Nat, x1.toInt = i → i ≤ 2 → sc (fgN o L i (fg0 V)) M' → sc (fgN o L 2 (fg0 V)) N) ?_
  · exact q 0 rfl (Nat.zero_le _) s2
  · intro x1 M' v N hs i hi hi2 hM
    obtain ⟨iV, iL⟩ := fgN_ok (o := o) (L := L) (n := i) (rV_fg0 hV) (rLk_fg0 hc)
    rcases hs with ⟨g, _, hN⟩ | ⟨g, v1, M1, h88, hs⟩
    · rw [i_le, hi, kI_toInt (by decide) (by decide)] at g
      have e : i = 2 := by omega
      rw [e] at hM
      rw [hN]
      exact hM
    · rw [i_le, hi, kI_toInt (by decide) (by decide)] at g
      obtain ⟨a1, a2⟩ := D_88_v (w := 15) (by decide) (by decide) (rLk_sc hM iL) (rV_sc hM iV) h88
      have s1 := sc_t hM (sc_87 a2)
      have ex : x1 = kI (i : Nat) := kI_inj hi
      rw [FlV_sc hM, ex] at a1
      have tv : v1 = tl (FlV (fgN o L i (fg0 V)) (kI (i : Nat))) o (kI 15) L := a1
      have r7 : M1 197 = fgN o L i (fg0 V) 197 := sc_row s1 (by decide) rfl (by decide)
      have r8 : M1 198 = fgN o L i (fg0 V) 198 := sc_row s1 (by decide) rfl (by decide)
      rw [ix_of hi] at hs
      -- what is counted
      have go : ∀ {z : Int32} {M2 M3 M4 M5 : pMem}, 0 < tl (FlV (fgN o L i (fg0 V)) (kI (i : Nat))) o (kI 15) L → z = h999 v1 → M2 = aPut M1 188 54 (M1 188 54 ||| kI 1 <<< (x1 &&& 31)) → M3 = aPut M2 197 i (M2 197 i + kI 1) → M4 = aPut M3 198 i (M3 198 i + z) → M5 = aPut M4 188 55 (M4 188 55 + z) → sc (fgN o L (i + 1) (fg0 V)) M5 := by
        intro z M2 M3 M4 M5 pg ez e2 e3 e4 e5
        show sc (fgV o L i (fgN o L i (fg0 V))) M5
        unfold fgV
        rw [if_pos pg, ← tv, ← ez]
        have q54 : M1 188 54 = fgN o L i (fg0 V) 188 54 := sc_r8 s1 (by decide) (by decide)
        have q55 : M4 188 55 = fgN o L i (fg0 V) 188 55 := by
          rw [e4, aPut_cell (by decide), e3, aPut_cell (by decide), e2, aPut_at (by decide)]
          exact sc_r8 s1 (by decide) (by decide)
        have q7 : M2 197 i = fgN o L i (fg0 V) 197 i := by rw [e2, aPut_cell (by decide), r7]
        have q8 : M3 198 i = fgN o L i (fg0 V) 198 i := by rw [e3, aPut_cell (by decide), e2, aPut_cell (by decide), r8]
        rw [e5, q55, e4, q8, e3, q7, e2, q54, ex]
        exact sc_p (sc_p (sc_p (sc_p s1 rfl) rfl) rfl) rfl
      rcases hs with ⟨g2, hs⟩ | ⟨g2, hs⟩
      · have pg : 0 < tl (FlV (fgN o L i (fg0 V)) (kI (i : Nat))) o (kI 15) L := by rw [← tv]; exact g2
        rcases hs with ⟨g3, M2, e2, _, _, M3, e3, _, _, M4, e4, M5, e5, hs⟩ | ⟨g3, M2, e2, _, _, M3, e3, _, _, M4, e4, M5, e5, hs⟩
        · exact hs (i + 1) (n_add1 hi (by omega)) (by omega) (go (z := v1) pg (by unfold h999; rw [if_pos g3]) e2 e3 e4 e5)
        · exact hs (i + 1) (n_add1 hi (by omega)) (by omega) (go (z := kI 999) pg (by unfold h999; rw [if_neg g3]) e2 e3 e4 e5)
      · refine hs (i + 1) (n_add1 hi (by omega)) (by omega) ?_
        show sc (fgV o L i (fgN o L i (fg0 V))) M1
        unfold fgV
        rw [if_neg (by rw [← tv]; exact g2)]
        exact s1
/-! home -/
def hoN (o : List Cd) (L : List Ln) (V : pMem) (i : Nat) : pMem := aPut (aRow V 191 fun a => if a < i ∧ goV o L V a = true then kI 0 else V 191 a) 188 57 (kI (cN (goV o L V) i : Nat))
theorem hoN_24 {o : List Cd} {L : List Ln} {V : pMem} {n : Nat} (hn : rNb V n) : hoN o L V n = hoV o L V := by
  have g : ∀ a, n ≤ a → a < 24 → goV o L V a = false := fun a h1 h2 => by
    unfold goV
    rw [thV_0 hn h1 h2]
    rfl
  unfold hoN hoV
  rw [cN_ext hn.1 g]
  congr 2
  funext a
  by_cases h : a < n
  · by_cases q : goV o L V a = true
    · rw [if_pos ⟨h, q⟩, if_pos ⟨by have := hn.1; omega, q⟩]
    · rw [if_neg (fun s => q s.2), if_neg (fun s => q s.2)]
  · rw [if_neg (fun s => h s.1), if_neg]
    rintro ⟨s1, s2⟩
    rw [g a (by omega) s1] at s2
    cases s2
theorem D_94_v {k : Nat} {o : List Cd} {L : List Ln} {M V : pMem} (hs0 : sc V M) (hV : rV V) (hc : rLk V k o L) {v N} (h : D_94 M v N) : sc (hoV o L V) N := by
  obtain ⟨⟨n, hn⟩, hb, hk, hl⟩ := id hV
  obtain ⟨n24, hn2, hn3⟩ := id hn
  obtain ⟨M1, e1, h⟩ := h
  have z : hoN o L V 0 = aPut V 188 57 (kI 0) := by
    have : (aRow V 191 fun a => if a < 0 ∧ goV o L V a = true then kI 0 else V 191 a) = V := by
      funext a j
      by_cases ea : a = 191
      · subst ea
        rw [aRow_same', if_neg (fun s => by omega)]
      · rw [aRow_cell ea]
    unfold hoN
    rw [this]
    rfl
  have s1 : sc (aPut V 188 57 (kI 0)) M1 := by rw [e1]; exact sc_p hs0 rfl
  have V0 : rV (aPut V 188 57 (kI 0)) := rV_188 hV (fun b h1 _ => by funext j; exact aPut_cell (by omega)) (aPut_at (by decide))
  have L0 : rLk (aPut V 188 57 (kI 0)) k o L := rLk_v hc (fun b h1 _ => by funext j; exact aPut_cell (by omega)) (aPut_at (by decide))
  have N0 : rNb (aPut V 188 57 (kI 0)) n := ⟨n24, by rw [aPut_at (by decide)]; exact hn2, fun i h1 h2 => by rw [aPut_cell (by decide)]; exact hn3 i h1 h2⟩
  have F0 : FbV (aPut V 188 57 (kI 0)) = FbV V := by
    have c : ∀ b, b ≠ 188 → aPut V 188 57 (kI 0) b = V b := fun b hb => by funext j; exact aPut_cell hb
    have d : ∀ j, j ≠ 57 → aPut V 188 57 (kI 0) 188 j = V 188 j := fun j hj => aPut_at hj
    have fd : FdV (aPut V 188 57 (kI 0)) = FdV V := by
      funext lot k
      unfold FdV
      rw [d 17 (by decide), d 18 (by decide), d 19 (by decide), d 20 (by decide), d 21 (by decide)]
    have il : inL (aPut V 188 57 (kI 0)) = inL V := funext fun _ => inL_c (c 191 (by decide)) (c 189 (by decide))
    funext b k
    unfold FbV
    rw [il, lkV_c (c 194 (by decide)), fd, c 189 (by decide), c 190 (by decide)]
  have q := h (fun x1 M' v N => ∀ i : Nat, x1.toInt = i → i ≤ n → sc (aPut V 188 57 (kI 0)) M' → (∀ a, a < i → M' 219 a = if goV o L V a = true then kI 1 else kI 0) → sc (hoV o L V) N,
    fun x1 M' v N => ∀ i : Nat, x1.toInt = i → i ≤ n → sc (hoN o L V i) M' → (∀ a, a < n → M' 219 a = if goV o L V a = true then kI 1 else kI 0) → sc (hoV o L V) N) ⟨?_, ?_⟩
  · exact q 0 rfl (Nat.zero_le _) s1 (fun a ha => absurd ha (Nat.not_lt_zero a))
  · intro x1 M' v N hs i hi hin hM hA
    have m2 : M' 188 2 = V 188 2 := by rw [sc_r8 hM (by decide) (by decide), aPut_at (by decide)]
    rcases hs with ⟨g, hs⟩ | ⟨g, _, hs⟩
    · rw [m2, i_le, hi, hn2] at g
      have e : i = n := by omega
      subst e
      exact hs 0 rfl (Nat.zero_le _) (by rw [z]; exact hM) hA
    · rw [m2, i_le, hi, hn2] at g
      have r191 : M' 191 i = V 191 i := by rw [(sc_rows hM).2.2.1, aPut_cell (by decide)]
      rw [ix_of hi, r191] at hs
      have put : ∀ {M1 M2 : pMem} {y : Int32}, sc (aPut V 188 57 (kI 0)) M1 → (∀ a, M1 219 a = M' 219 a) → M2 = aPut M1 219 i y → y = (if goV o L V i = true then kI 1 else kI 0) → sc (aPut V 188 57 (kI 0)) M2 ∧ ∀ a, a < i + 1 → M2 219 a = if goV o L V a = true then kI 1 else kI 0 := by
        intro M1 M2 y s h19 e ey
        refine ⟨by rw [e]; exact sc_s s (by rfl), fun a ha => ?_⟩
        rw [e, aPut_row]
        by_cases q : a = i
        · rw [if_pos q, ey, q]
        · rw [if_neg q, h19]
          exact hA a (by omega)
      rcases hs with ⟨g2, _, M1, e1, hs⟩ | ⟨g2, v1, M1, h89, hs⟩
      · obtain ⟨p1, p2⟩ := put hM (fun _ => rfl) e1 (by
          have e : goV o L V i = false := by
            unfold goV
            rw [thV_y hV (by omega), decide_eq_false g2]
            rfl
          rw [e]
          rfl)
        exact hs (i + 1) (n_add1 hi (by omega)) (by omega) p1 p2
      · obtain ⟨a1, a2⟩ := D_89_v (n := n) (rLk_sc hM L0) (rV_sc hM V0) (rNb_sc hM N0) hi (by omega) h89
        rw [FbV_sc hM, F0] at a1
        have s2 := sc_t hM (sc_87 a2)
        have h19 : ∀ a, M1 219 a = M' 219 a := fun a => by rw [a2.1 219 (by decide) (by decide) (by decide)]
        have th : thV V i = true := by rw [thV_y hV (by omega), decide_eq_true (Classical.not_not.mp g2)]
        rcases hs with ⟨g3, _, M2, e2, hs⟩ | ⟨g3, _, M2, e2, hs⟩
        · obtain ⟨p1, p2⟩ := put s2 h19 e2 (by
            have e : goV o L V i = false := by
              unfold goV
              rw [decide_eq_false, Bool.and_false]
              rw [← a1, i_lt, i_0]
              rw [i_le, i_0] at g3
              omega
            rw [e]
            rfl)
          exact hs (i + 1) (n_add1 hi (by omega)) (by omega) p1 p2
        · obtain ⟨p1, p2⟩ := put s2 h19 e2 (by
            have e : goV o L V i = true := by
              unfold goV
              rw [th, decide_eq_true]
              · rfl
              · rw [← a1, i_lt, i_0]
                rw [i_le, i_0] at g3
                omega
            rw [e, if_pos rfl])
          exact hs (i + 1) (n_add1 hi (by omega)) (by omega) p1 p2
  · intro x1 M' v N hs i hi hin hM hA
    have m2 : M' 188 2 = V 188 2 := by
      rw [sc_r8 hM (by decide) (by decide)]
      unfold hoN
      rw [aPut_at (by decide), aRow_cell (by decide)]
    rcases hs with ⟨g, _, hN⟩ | ⟨g, _, hs⟩
    · rw [m2, i_le, hi, hn2] at g
      have e : i = n := by omega
      rw [e, hoN_24 hn] at hM
      rw [hN]
      exact hM
    · rw [m2, i_le, hi, hn2] at g
      rw [ix_of hi, hA i (by omega)] at hs
      have cs : cN (goV o L V) (i + 1) = cN (goV o L V) i + (if goV o L V i = true then 1 else 0) := rfl
      rcases hs with ⟨g2, _, M1, e1, M2, e2, hs⟩ | ⟨g2, hs⟩
      · have e : goV o L V i = true := Classical.byContradiction fun q => g2 (by rw [if_neg q]; rfl)
        refine hs (i + 1) (n_add1 hi (by omega)) (by omega) ?_ (fun a ha => by rw [e2, aPut_cell (by decide), e1, aPut_cell (by decide)]; exact hA a ha)
        have q57 : M1 188 57 = kI (cN (goV o L V) i : Nat) := by
          rw [e1, aPut_cell (by decide), sc_r8 hM (by decide) (by decide)]
          unfold hoN
          rw [aPut_same]
        have en : hoN o L V (i + 1) = aPut (aPut (hoN o L V i) 191 i (kI 0)) 188 57 (M1 188 57 + kI 1) := by
          funext a j
          unfold hoN
          by_cases a8 : a = 188
          · subst a8
            by_cases j7 : j = 57
            · subst j7
              rw [aPut_same, aPut_same, q57, cs, if_pos e, kI_n1]
              rfl
            · rw [aPut_at j7, aPut_at j7, aPut_cell (by decide), aPut_at j7, aRow_cell (by decide), aRow_cell (by decide)]
          · rw [aPut_cell a8, aPut_cell a8]
            by_cases a1 : a = 191
            · subst a1
              rw [aRow_same', aPut_row, aPut_cell (by decide), aRow_same']
              by_cases q : j = i
              · rw [if_pos q, if_pos ⟨by omega, by rw [q]; exact e⟩]
              · rw [if_neg q]
                by_cases r : j < i ∧ goV o L V j = true
                · rw [if_pos r, if_pos ⟨by omega, r.2⟩]
                · rw [if_neg r, if_neg (fun s => r ⟨by omega, s.2⟩)]
            · rw [aRow_cell a1, aPut_cell a1, aPut_cell a8, aRow_cell a1]
        rw [en, e2]
        refine sc_p ?_ rfl
        rw [e1]
        exact sc_p hM rfl
      · have e : goV o L V i = false := by
          cases q : goV o L V i with
          | false => rfl
          | true =>
            rw [q, if_pos rfl] at g2
            exact absurd (Classical.not_not.mp g2) (by decide)
        refine hs (i + 1) (n_add1 hi (by omega)) (by omega) ?_ hA
        have en : hoN o L V (i + 1) = hoN o L V i := by
          unfold hoN
          rw [cs, e]
          congr 2
          funext a
          by_cases q : a = i
          · rw [q, e, if_neg (fun s => by cases s.2), if_neg (fun s => by cases s.2)]
          · by_cases r : a < i ∧ goV o L V a = true
            · rw [if_pos r, if_pos ⟨by omega, r.2⟩]
            · rw [if_neg r, if_neg (fun s => r ⟨by omega, s.2⟩)]
        rw [en]
        exact hM
/-! names -/
def naN (o : List Cd) (L : List Ln) : Nat → pMem → pMem
  | 0, V => V
  | n + 1, V => naV o L n (naN o L n V)
theorem naN_ok {o : List Cd} {L : List Ln} {k : Nat} {V : pMem} (hV : rV V) (hd : 0 ≤ (V 188 3).toInt ∧ (V 188 3).toInt ≤ 100000) (hc : rLk V k o L) : ∀ {n : Nat}, rV (naN o L n V) ∧ rLk (naN o L n V) k o L ∧ naN o L n V 188 3 = V 188 3
  | 0 => ⟨hV, hc, rfl⟩
  | n + 1 => by
    obtain ⟨a, b, c⟩ := naN_ok (n := n) hV hd hc
    exact ⟨rV_na a (by rw [c]; exact hd), rLk_na b, (naV_v.2.1 3 (by decide)).trans c⟩
theorem D_95_v {k : Nat} {o : List Cd} {L : List Ln} {M V : pMem} (hs0 : sc V M) (hV : rV V) (hd : 0 ≤ (V 188 3).toInt ∧ (V 188 3).toInt ≤ 100000) (hc : rLk V k o L) {v N} (h : D_95 M v N) : sc (naV o L 1 (naV o L 0 (na0 V))) N := by
  obtain ⟨M1, e1, h⟩ := h
  have s1 : sc (na0 V) M1 := by rw [e1]; exact sc_p hs0 rfl
  have V0 := rV_cg hV (aV_na0 (V := V))
  have d0 : na0 V 188 3 = V 188 3 := by unfold na0; rw [aPut_at (by decide)]
  have q := h (fun x1 M' v N => ∀ i : Nat, x1.toInt = i → i ≤ 2 → sc (naN o L i (na0 V)) M' → sc (naN o L 2 (na0 V)) N) ?_
  · exact q 0 rfl (Nat.zero_le _) s1
  · intro x1 M' v N hs i hi hi2 hM
    obtain ⟨iV, iL, id3⟩ := naN_ok (o := o) (L := L) (n := i) V0 (by rw [d0]; exact hd) (rLk_na0 hc)
    rcases hs with ⟨g, _, hN⟩ | ⟨g, _, hs⟩
    · rw [i_le, hi, kI_toInt (by decide) (by decide)] at g
      have e : i = 2 := by omega
      rw [e] at hM
      rw [hN]
      exact hM
    · rw [i_le, hi, kI_toInt (by decide) (by decide)] at g
      have ex : x1 = kI (i : Nat) := kI_inj hi
      have r6 : M' 196 = naN o L i (na0 V) 196 := sc_row hM (by decide) rfl (by decide)
      rw [ix_of hi, r6] at hs
      have stay : ∀ {M1 : pMem}, sc (naN o L i (na0 V)) M1 → ¬ (naN o L i (na0 V) 196 i = 0 ∧ 0 < tl (FlV (naN o L i (na0 V)) (kI (i : Nat))) o (kI 17) L) → sc (naN o L (i + 1) (na0 V)) M1 := fun s hn => by
        show sc (naV o L i (naN o L i (na0 V))) _
        unfold naV
        rw [if_neg hn]
        exact s
      rcases hs with ⟨g2, hs⟩ | ⟨g2, v1, M1, h88, hs⟩
      · exact hs (i + 1) (n_add1 hi (by omega)) (by omega) (stay hM fun q => g2 q.1)
      · obtain ⟨a1, a2⟩ := D_88_v (w := 17) (by decide) (by decide) (rLk_sc hM iL) (rV_sc hM iV) h88
        have s1 := sc_t hM (sc_87 a2)
        rw [FlV_sc hM, ex] at a1
        have tv : v1 = tl (FlV (naN o L i (na0 V)) (kI (i : Nat))) o (kI 17) L := a1
        rcases hs with ⟨g3, _, M2, e2, M3, e3, hs⟩ | ⟨g3, hs⟩
        · refine hs (i + 1) (n_add1 hi (by omega)) (by omega) ?_
          show sc (naV o L i (naN o L i (na0 V))) M3
          unfold naV
          rw [if_pos ⟨Classical.not_not.mp g2, by rw [← tv]; exact g3⟩]
          have q3 : M1 188 3 = naN o L i (na0 V) 188 3 := sc_r8 s1 (by decide) (by decide)
          have q56 : M2 188 56 = naN o L i (na0 V) 188 56 := by rw [e2, aPut_cell (by decide)]; exact sc_r8 s1 (by decide) (by decide)
          rw [e3, q56, e2, q3]
          exact sc_p (sc_p s1 rfl) rfl
        · exact hs (i + 1) (n_add1 hi (by omega)) (by omega) (stay s1 fun q => g3 (by rw [tv]; exact q.2))
/-! against -/
theorem scoV_sc {V N : pMem} (h : sc V N) : scoV N = scoV V := by
  funext p
  unfold scoV
  rw [inL_sc h, lkV_sc h, sc_r8 h (by decide) (by decide), (sc_rows h).2.1]
theorem D_91_v {M V : pMem} (hs0 : sc V M) (hV : rV V) {v N} (h : D_91 M v N) : sc (plV V) N := by
  obtain ⟨⟨n, hn⟩, hb, hk, hl⟩ := id hV
  obtain ⟨v1, M1, ha, v2, M2, hbb, h⟩ := h
  obtain ⟨a1, a2⟩ := D_90_v (rNb_sc hs0 hn) (fun i hi => by rw [(sc_rows hs0).2.2.1]; exact (hb i hi).2) ha
  have sa : v1 = scoV V (kI 0) := by rw [a1, ← scoV_sc hs0]; rfl
  have s1 : sc (drwV V) M1 := by
    rw [a2, sc_r8 hs0 (by decide) (by decide)]
    exact sc_p hs0 rfl
  have V1 := rV_drw hV
  obtain ⟨⟨n1, hn1⟩, hb1, _⟩ := id V1
  obtain ⟨b1, b2⟩ := D_90_v (rNb_sc s1 hn1) (fun i hi => by rw [(sc_rows s1).2.2.1]; exact (hb1 i hi).2) hbb
  have sb : v2 = scoV (drwV V) (kI 1) := by rw [b1, ← scoV_sc s1]; rfl
  have s2 : sc (drwV (drwV V)) M2 := by
    rw [b2, sc_r8 s1 (by decide) (by decide)]
    exact sc_p s1 rfl
  -- who won
  have end_ : ∀ {x : Int32} {M3 : pMem}, x = wonV V → M3 = aPut M2 188 20 x → (tIf ((M3 188 20) = (kI (-1))) (tRet () M3) (tGd (pIn (M3 188 20) 2) <| tGd (pIn (M3 188 20) 2) <| tPut (aPut M3 199 (ix (M3 188 20)) ((M3 199 (ix (M3 188 20))) + (kI 1))) fun M4 => tRet () M4)) v N → sc (plV V) N := by
    intro x M3 ex e3 h
    have q20 : M3 188 20 = wonV V := by rw [e3, aPut_same]; exact ex
    have s3 : sc (plV0 V) M3 := by
      rw [e3]
      exact sc_p s2 ex.symm
    rw [q20] at h
    unfold plV
    rcases h with ⟨g, _, hN⟩ | ⟨g, _, _, M4, e4, _, hN⟩
    · rw [if_pos g, hN]
      exact s3
    · rw [if_neg g, hN, e4]
      refine sc_p s3 ?_
      have r9 : M3 199 = plV0 V 199 := sc_row s3 (by decide) rfl (by decide)
      rw [r9]
      unfold plV0
      rw [aPut_cell (by decide), drwV_v.1 199 (by decide), drwV_v.1 199 (by decide)]
  have le : v1 ≤ v2 ↔ scoV V (kI 0) ≤ scoV (drwV V) (kI 1) := by rw [sa, sb]
  have eq : v1 = v2 ↔ scoV V (kI 0) = scoV (drwV V) (kI 1) := by rw [sa, sb]
  rcases h with ⟨g, h⟩ | ⟨g, M3, e3, h⟩
  · rcases h with ⟨g2, M3, e3, h⟩ | ⟨g2, M3, e3, h⟩
    · refine end_ ?_ e3 h
      unfold wonV
      rw [if_pos]
      rw [← eq, i_eq]
      rw [i_le] at g g2
      omega
    · refine end_ ?_ e3 h
      unfold wonV
      rw [if_neg, if_pos (le.mp g)]
      rw [← eq, i_eq]
      rw [i_le] at g2
      omega
  · refine end_ ?_ e3 h
    unfold wonV
    rw [if_neg, if_neg (fun q => g (le.mpr q))]
    rw [← eq, i_eq]
    rw [i_le] at g
    omega
/-! the whole day -/
/-- but for loyalty and what is kept -/
def sx (V N : pMem) : Prop := ∀ a j, a < 230 → pScr a j = false → a ≠ 192 → a ≠ 201 → N a j = V a j
theorem sx_row {V N : pMem} (h : sx V N) {a : Nat} (ha : a < 230) (hs : pScrA a = false) (h8 : a ≠ 188) (h2 : a ≠ 192) (h3 : a ≠ 201) : N a = V a := funext fun j => h a j ha (pScr_of hs h8 j) h2 h3
theorem sx_8 {V N : pMem} (h : sx V N) {j : Nat} (h0 : j ≠ 0) (h5 : j ≠ 51) : N 188 j = V 188 j := h 188 j (by decide) (by
    unfold pScr
    rw [show Nat.beq j 0 = false from Bool.eq_false_iff.mpr fun q => h0 (Nat.eq_of_beq_eq_true q), show Nat.beq j 51 = false from Bool.eq_false_iff.mpr fun q => h5 (Nat.eq_of_beq_eq_true q)]
    rfl) (by decide) (by decide)
theorem agV_sx {V N : pMem} (h : sx V N) : agV V N := by
  have r : ∀ a, a = 189 ∨ a = 190 ∨ a = 191 ∨ a = 194 ∨ a = 195 ∨ a = 196 ∨ a = 197 ∨ a = 198 ∨ a = 199 ∨ a = 200 → N a = V a := fun a e => by
    rcases e with rfl | rfl | rfl | rfl | rfl | rfl | rfl | rfl | rfl | rfl <;> exact sx_row h (by decide) rfl (by decide) (by decide) (by decide)
  have e : ∀ j, j ≠ 0 → j ≠ 51 → N 188 j = V 188 j := fun j h0 h5 => sx_8 h h0 h5
  refine ⟨⟨e 1 (by decide) (by decide), e 2 (by decide) (by decide), e 3 (by decide) (by decide), e 17 (by decide) (by decide), e 18 (by decide) (by decide), e 19 (by decide) (by decide), e 20 (by decide) (by decide), e 21 (by decide) (by decide)⟩, fun i _ => ?_, fun k _ => ?_, fun l _ => ?_⟩
  · rw [r 189 (by omega), r 190 (by omega), r 191 (by omega)]
    exact ⟨rfl, rfl, rfl⟩
  · rw [r 194 (by omega), r 195 (by omega)]
    exact ⟨rfl, rfl⟩
  · rw [r 196 (by omega), r 197 (by omega), r 198 (by omega), r 199 (by omega), r 200 (by omega)]
    exact ⟨rfl, rfl, rfl, rfl, rfl⟩
theorem aPut_back {M : pMem} {a j : Nat} {x : Int32} : aPut (aPut M a j x) a j (M a j) = M := by
  funext b i
  by_cases e : b = a
  · by_cases e2 : i = j
    · rw [e, e2, aPut_same]
    · rw [e, aPut_at e2, aPut_at e2]
  · rw [aPut_cell e, aPut_cell e]
theorem D_101_v {k : Nat} {o : List Cd} {L : List Ln} {M V : pMem} (hs0 : sc V M) (hV : rV V) (hd : 0 ≤ (V 188 3).toInt ∧ (V 188 3).toInt ≤ 100000) (hc : rLk V k o L) {p1 p2 p3 : Int32} {v N} (h : D_101 p1 p2 p3 M v N) :
    sx (dyV (stV o L p1 p2 p3 V)) N ∧ ∃ M10 M11 u1 u2, sc (stV o L p1 p2 p3 V) M10 ∧ D_99 M10 u1 M11 ∧ D_100 M11 u2 (aPut N 188 3 (M11 188 3)) := by
  obtain ⟨M1, e1, M2, e2, M3, e3, M4, e4, M5, e5, h⟩ := h
  have s5 : sc (bg0 p1 p2 p3 V) M5 := by
    have q3 : M2 188 3 = V 188 3 := by
      rw [e2, aPut_at (by decide), e1, aPut_at (by decide)]
      exact sc_r8 hs0 (by decide) (by decide)
    rw [e5, e4, e3, q3, e2, e1]
    exact sc_p (sc_p (sc_p (sc_p (sc_p hs0 rfl) rfl) rfl) rfl) rfl
  have bV := rV_bg (k := p1) (p := p2) (wr := p3) hV
  have bL := rLk_bg (a := p1) (b := p2) (c := p3) hc
  have b3 : bgV p1 p2 p3 V 188 3 = V 188 3 := by rw [bgV_v.2.1, bg0_v.2]; rfl
  have tail : ∀ {M6 W : pMem}, sc W M6 → rV W → rLk W k o L → W 188 3 = V 188 3 → (tCall (D_92 M6) fun _ M7 => tCall (D_93 M7) fun _ M8 => tCall (D_94 M8) fun _ M9 => tCall (D_95 M9) fun _ M10 => tCall (D_99 M10) fun _ M11 => tCall (D_100 M11) fun _ M12 => tPut (aPut M12 188 3 ((M12 188 3) + (kI 1))) fun M13 => tRet () M13) v N →
      ∀ U, U = naV o L 1 (naV o L 0 (na0 (hoV o L (fgV o L 1 (fgV o L 0 (fg0 (likV o L W))))))) → sx (dyV U) N ∧ ∃ M10 M11 u1 u2, sc U M10 ∧ D_99 M10 u1 M11 ∧ D_100 M11 u2 (aPut N 188 3 (M11 188 3)) := by
    intro M6 W s6 wV wL w3 h U hU
    obtain ⟨_, M7, h92, _, M8, h93, _, M9, h94, _, M10, h95, u1, M11, h99, u2, M12, h100, M13, e13, _, hN⟩ := h
    have s7 := D_92_v s6 wV wL h92
    have s8 := D_93_v s7 (rV_lik wV) (rLk_lik wL) h93
    have V8 := rV_fg (o := o) (L := L) (l := 1) (rV_fg (o := o) (L := L) (l := 0) (rV_fg0 (rV_lik (o := o) (L := L) wV)))
    have L8 := rLk_fg (l := 1) (rLk_fg (l := 0) (rLk_fg0 (rLk_lik wL)))
    have s9 := D_94_v s8 V8 L8 h94
    have d9 : hoV o L (fgV o L 1 (fgV o L 0 (fg0 (likV o L W)))) 188 3 = V 188 3 := by
      rw [hoV_v.2.1 3 (by decide), fgV_v.2.1 3 (by decide) (by decide), fgV_v.2.1 3 (by decide) (by decide)]
      unfold fg0
      rw [aPut_at (by decide), aPut_at (by decide), likV_c (by decide)]
      exact w3
    have s10 := D_95_v s9 (rV_ho V8) (by rw [d9]; exact hd) (rLk_ho L8) h95
    rw [← hU] at s10
    have f11 := F_99 h99
    have f12 := F_100 h100
    have k3 : M12 188 3 = M11 188 3 := f12 188 3 (by decide) rfl (by simp only [l_100, pOut_cons, pOut_nil, true_or, and_true]; omega)
    refine ⟨fun a j h1 h2 h3 h4 => ?_, M10, M11, u1, u2, s10, h99, ?_⟩
    · have t : M12 a j = U a j := by
        rw [f12 a j h1 h2 (by simp only [l_100, pOut_cons, pOut_nil, true_or, and_true]; omega), f11 a j h1 h2 (by simp only [l_99, pOut_cons, pOut_nil, true_or, and_true]; omega)]
        exact s10 a j h1 h2
      have t3 : M12 188 3 = U 188 3 := by
        rw [k3, f11 188 3 (by decide) rfl (by simp only [l_99, pOut_cons, pOut_nil, true_or, and_true]; omega)]
        exact s10 188 3 (by decide) rfl
      rw [hN, e13, t3]
      unfold dyV aPut
      by_cases e : a = 188
      · rw [if_pos e, if_pos e]
        by_cases e3 : j = 3
        · rw [if_pos e3, if_pos e3]
        · rw [if_neg e3, if_neg e3]
          exact t
      · rw [if_neg e, if_neg e]
        exact t
    · have en : aPut N 188 3 (M11 188 3) = M12 := by
        rw [hN, e13, ← k3]
        exact aPut_back
      rw [en]
      exact h100
  -- against, or not
  have both : ∀ {M6 : pMem}, sc (bgV p1 p2 p3 V) M6 → (tIf (¬ p1 = (kI 1)) (tCall (D_92 M6) fun _ M7 => tCall (D_93 M7) fun _ M8 => tCall (D_94 M8) fun _ M9 => tCall (D_95 M9) fun _ M10 => tCall (D_99 M10) fun _ M11 => tCall (D_100 M11) fun _ M12 => tPut (aPut M12 188 3 ((M12 188 3) + (kI 1))) fun M13 => tRet () M13)
      (tCall (D_91 M6) fun _ M6 => tCall (D_92 M6) fun _ M7 => tCall (D_93 M7) fun _ M8 => tCall (D_94 M8) fun _ M9 => tCall (D_95 M9) fun _ M10 => tCall (D_99 M10) fun _ M11 => tCall (D_100 M11) fun _ M12 => tPut (aPut M12 188 3 ((M12 188 3) + (kI 1))) fun M13 => tRet () M13)) v N →
      sx (dyV (stV o L p1 p2 p3 V)) N ∧ ∃ M10 M11 u1 u2, sc (stV o L p1 p2 p3 V) M10 ∧ D_99 M10 u1 M11 ∧ D_100 M11 u2 (aPut N 188 3 (M11 188 3)) := by
    intro M6 s6 h
    rcases h with ⟨g, h⟩ | ⟨g, _, M7, h91, h⟩
    · exact tail s6 bV bL b3 h _ (by unfold stV; rw [if_neg g])
    · have g := Classical.not_not.mp g
      exact tail (D_91_v s6 bV h91) (rV_pl bV) (rLk_pl bL) (by rw [plV_v.2.1]; exact b3) h _ (by unfold stV; rw [if_pos g])
  rcases h with ⟨g, h⟩ | ⟨g, _, _, M6, e6, h⟩
  · refine both ?_ h
    unfold bgV
    rw [if_pos g]
    exact s5
  · refine both ?_ h
    unfold bgV
    rw [if_neg g, e6]
    refine sc_p s5 ?_
    have r : M5 200 = bg0 p1 p2 p3 V 200 := sc_row s5 (by decide) rfl (by decide)
    rw [r, bg0_v.1 200 (by decide)]
