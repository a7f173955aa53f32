/-! what the calls keep of all that is told -/
def skT (o : Nat) : Bool := Nat.beq o 18 || (Nat.beq o 29 || (Nat.beq o 40 || Nat.beq o 51))
theorem skT_n {t a : Nat} (h1 : t ≤ a) (h2 : a < t + 56) (h : ∀ k, k < 4 → a ≠ t + 18 + 11 * k) : skT (a - t) = false := Bool.eq_false_iff.mpr fun q => by
  have k0 := h 0 (by decide)
  have k1 := h 1 (by decide)
  have k2 := h 2 (by decide)
  have k3 := h 3 (by decide)
  unfold skT at q
  simp only [Bool.or_eq_true] at q
  rcases q with q | q | q | q
  · have := Nat.eq_of_beq_eq_true q; omega
  · have := Nat.eq_of_beq_eq_true q; omega
  · have := Nat.eq_of_beq_eq_true q; omega
  · have := Nat.eq_of_beq_eq_true q; omega
theorem scC : ∀ o, o < 56 → skT o = false → pScrA (18 + o) = false ∧ pScrA (74 + o) = false := by decide +kernel
theorem scR {s a : Nat} (hs : s = 18 ∨ s = 74) (h1 : s ≤ a) (h2 : a < s + 56) (h3 : ∀ k, k < 4 → a ≠ s + 18 + 11 * k) (j : Nat) : a < 188 ∧ pScr a j = false := by
  obtain ⟨c1, c2⟩ := scC (a - s) (by omega) (skT_n h1 h2 h3)
  refine ⟨by omega, pScr_of ?_ (by omega) j⟩
  rcases hs with rfl | rfl
  · rw [show 18 + (a - 18) = a by omega] at c1; exact c1
  · rw [show 74 + (a - 74) = a by omega] at c2; exact c2
def kC (s : Nat) (L : List (Nat × Nat)) : Bool := (List.range 56).all fun o => skT o || pNo L (s + o)
theorem kC_s {s : Nat} (hs : s = 18 ∨ s = 74) {L : List (Nat × Nat)} {M N : pMem} (f : pFr L M N) (k : kC s L = true) : ∀ a j, s ≤ a → a < s + 56 → (∀ k, k < 4 → a ≠ s + 18 + 11 * k) → N a j = M a j := by
  intro a j h1 h2 h3
  have q : (skT (a - s) || pNo L (s + (a - s))) = true := List.all_eq_true.mp k (a - s) (List.mem_range.mpr (by omega))
  rw [skT_n h1 h2 h3, Bool.false_or, show s + (a - s) = a by omega] at q
  obtain ⟨c1, c2⟩ := scR hs h1 h2 h3 j
  exact f a j (by omega) c2 (pNo_out q j)
def plRows : List Nat := [189, 190, 191, 192, 193, 194, 195, 196, 197, 198, 199, 200, 201, 204, 205, 206, 207, 208, 209, 210, 211, 226, 227]
def pl188 : List Nat := [1, 2, 3, 4, 17, 18, 19, 20, 21, 71]
theorem plRows_sc : ∀ a, a ∈ plRows → a < 230 ∧ pScrA a = false ∧ a ≠ 188 := by decide +kernel
theorem pl188_sc : ∀ j, j ∈ pl188 → pScr 188 j = false := by decide +kernel
theorem plT_in {a j : Nat} (h : plT a j) : a ∈ plRows ∨ (a = 188 ∧ j ∈ pl188) := by
  unfold plT at h
  unfold plRows pl188
  simp only [List.mem_cons, List.not_mem_nil, or_false]
  rcases h with ⟨h, hj⟩ | ⟨h | h | h, _⟩ | ⟨h | h, _⟩ | ⟨h1, h2, _⟩ | ⟨h, _⟩ | ⟨h | h, _⟩ | ⟨h1, h2, _⟩ | ⟨h | h, _⟩
  · exact Or.inr ⟨h, hj⟩
  all_goals (left; omega)
def kV (L : List (Nat × Nat)) : Bool := plRows.all (fun a => pNo L a) && pl188.all (fun j => pOut L 188 j)
theorem kV_s {L : List (Nat × Nat)} {M N : pMem} (f : pFr L M N) (k : kV L = true) : agT M N := agT_of fun a j h => by
  obtain ⟨k1, k2⟩ := zAnd k
  rcases plT_in h with q | ⟨e, q⟩
  · obtain ⟨c1, c2, c3⟩ := plRows_sc a q
    exact f a j c1 (pScr_of c2 c3 j) (pNo_out (List.all_eq_true.mp k1 a q) j)
  · subst e
    exact f 188 j (by decide) (pl188_sc j q) (List.all_eq_true.mp k2 j q)
def kTd (L : List (Nat × Nat)) : Bool := kC 18 L && kV L
theorem rT_fr {L : List (Nat × Nat)} {M N : pMem} (f : pFr L M N) (k : kTd L = true) (h : rT 18 M M) : rT 18 N N := by
  obtain ⟨k1, k2⟩ := zAnd k
  exact rT_mv h (cpC_of (kC_s (Or.inl rfl) f k1)) (kV_s f k2)
def kIm (L : List (Nat × Nat)) : Bool := pOut L 0 8 && (pNo L 229 && kC 74 L)
theorem rI_fr {L : List (Nat × Nat)} {M N : pMem} (f : pFr L M N) (k : kIm L = true) (h : rI M) : rI N := by
  obtain ⟨k1, k2⟩ := zAnd k
  obtain ⟨k2, k3⟩ := zAnd k2
  exact rI_keep h (f 0 8 (by decide) rfl k1) (funext fun j => f 229 j (by decide) rfl (pNo_out k2 j)) fun a j h1 h2 h3 => kC_s (Or.inr rfl) f k3 a j h1 h2 (fun k hk => by have := h3 k hk; omega)
theorem op_fr_F {L1 L2 : List (Nat × Nat)} {M M1 M2 : pMem} (h : rF M) (hA : rA M2) (f1 : pFr L1 M M1) (f2 : pFr L2 M1 M2) (k1 : (kTd L1 && kIm L1) = true) (k2 : (kTd L2 && kIm L2) = true) : rF M2 :=
  ⟨hA, rT_fr f2 (zAnd k2).1 (rT_fr f1 (zAnd k1).1 h.2.1), rI_fr f2 (zAnd k2).2 (rI_fr f1 (zAnd k1).2 h.2.2)⟩
/-! in thought -/
def imRows : List Nat := [189, 190, 193, 195, 204, 205, 206, 207, 208, 209, 210, 211, 226, 227]
theorem imRows_sc : ∀ a, a ∈ imRows → a < 230 ∧ pScrA a = false ∧ a ≠ 188 := by decide +kernel
theorem plT_im {a j : Nat} (h : plT a j) : isA a j = true ∨ a ∈ imRows ∨ (a = 188 ∧ (j = 2 ∨ j = 71)) := by
  unfold plT at h
  rcases h with ⟨rfl, hj⟩ | ⟨h | h | h, _⟩ | ⟨h | h, _⟩ | ⟨h1, h2, _⟩ | ⟨h, _⟩ | ⟨h | h, _⟩ | ⟨h1, h2, _⟩ | ⟨h | h, _⟩
  · rcases hj with rfl | rfl | rfl | rfl | rfl | rfl | rfl | rfl | rfl | rfl
    · exact Or.inl rfl
    · exact Or.inr (Or.inr ⟨rfl, Or.inl rfl⟩)
    · exact Or.inl rfl
    · exact Or.inl rfl
    · exact Or.inl rfl
    · exact Or.inl rfl
    · exact Or.inl rfl
    · exact Or.inl rfl
    · exact Or.inl rfl
    · exact Or.inr (Or.inr ⟨rfl, Or.inr rfl⟩)
  · have e : a = 189 ∨ a = 190 ∨ a = 191 ∨ a = 192 ∨ a = 193 := by omega
    rcases e with rfl | rfl | rfl | rfl | rfl
    · exact Or.inr (Or.inl (by decide))
    · exact Or.inr (Or.inl (by decide))
    · exact Or.inl rfl
    · exact Or.inl rfl
    · exact Or.inr (Or.inl (by decide))
  · subst h; exact Or.inr (Or.inl (by decide))
  · subst h; exact Or.inr (Or.inl (by decide))
  · subst h; exact Or.inl rfl
  · subst h; exact Or.inr (Or.inl (by decide))
  · have e : a = 196 ∨ a = 197 ∨ a = 198 ∨ a = 199 ∨ a = 200 := by omega
    rcases e with rfl | rfl | rfl | rfl | rfl <;> exact Or.inl rfl
  · subst h; exact Or.inl rfl
  · subst h; exact Or.inr (Or.inl (by decide))
  · subst h; exact Or.inr (Or.inl (by decide))
  · have e : a = 205 ∨ a = 206 ∨ a = 207 ∨ a = 208 := by omega
    rcases e with rfl | rfl | rfl | rfl <;> exact Or.inr (Or.inl (by decide))
  · subst h; exact Or.inr (Or.inl (by decide))
  · subst h; exact Or.inr (Or.inl (by decide))
def kW (L : List (Nat × Nat)) : Bool := imRows.all (fun a => pNo L a) && (pOut L 188 2 && pOut L 188 71)
theorem kW_s {L : List (Nat × Nat)} {M N : pMem} (f : pFr L M N) (k : kW L = true) (s : rS M N) : agT M N := agT_of fun a j h => by
  obtain ⟨k1, k2⟩ := zAnd k
  obtain ⟨k2, k3⟩ := zAnd k2
  rcases plT_im h with e | q | ⟨e, q⟩
  · rcases pl_as h with ⟨_, l, p⟩ | ⟨e2, _, _⟩
    · have q := s _ l
      rw [p] at q
      exact q
    · rw [e] at e2
      cases e2
  · obtain ⟨c1, c2, c3⟩ := imRows_sc a q
    exact f a j c1 (pScr_of c2 c3 j) (pNo_out (List.all_eq_true.mp k1 a q) j)
  · subst e
    rcases q with rfl | rfl
    · exact f 188 2 (by decide) rfl k2
    · exact f 188 71 (by decide) rfl k3
theorem op_th_F {L1 L2 : List (Nat × Nat)} {M M1 M2 : pMem} (h : rF M) (hA : rA M2) (f1 : pFr L1 M M1) (f2 : pFr L2 M1 M2) (k1 : (kTd L1 && kIm L1) = true) (k2 : (kC 18 L2 && (kW L2 && kIm L2)) = true) (s : rS M1 M2) : rF M2 := by
  obtain ⟨q1, q2⟩ := zAnd k2
  obtain ⟨q2, q3⟩ := zAnd q2
  exact ⟨hA, rT_mv (rT_fr f1 (zAnd k1).1 h.2.1) (cpC_of (kC_s (Or.inl rfl) f2 q1)) (kW_s f2 q2 s), rI_fr f2 q3 (rI_fr f1 (zAnd k1).2 h.2.2)⟩
theorem rF_fQ {M N : pMem} (f : fQ M N) (h : rF M) : rF N := by
  have g : ∀ s, (s = 18 ∨ s = 74) → ∀ a j, s ≤ a → a < s + 56 → (∀ k, k < 4 → a ≠ s + 18 + 11 * k) → N a j = M a j := fun s hs a j h1 h2 h3 => by
    obtain ⟨c1, c2⟩ := scR hs h1 h2 h3 j
    exact f a j (by omega) c2 (by omega)
  refine ⟨rA_fQ f h.1, rT_mv h.2.1 (cpC_of (g 18 (Or.inl rfl))) (agT_of fun a j hp => ?_), rI_keep h.2.2 (f 0 8 (by decide) rfl (by decide)) (funext fun j => f 229 j (by decide) rfl (by decide)) fun a j h1 h2 h3 => g 74 (Or.inr rfl) a j h1 h2 (fun k hk => by have := h3 k hk; omega)⟩
  rcases plT_in hp with q | ⟨e, q⟩
  · obtain ⟨c1, c2, c3⟩ := plRows_sc a q
    refine f a j c1 (pScr_of c2 c3 j) (Or.inr ?_)
    unfold plT at hp
    omega
  · subst e
    exact f 188 j (by decide) (pl188_sc j q) (by decide)
theorem op_parts_F {p1 p2 p3 v u : Int32} {M M1 M2 : pMem} (h : rF M) (h1 : D_21 p1 p2 p3 M v M1) (h2 : D_116 p1 p2 p3 M1 u M2) : rF M2 :=
  op_th_F (rF_fQ (D_21_q h1) h) (op_parts h.1 h1 h2) (pFr_refl (L := [])) (F_116 h2) (by decide +kernel) (by decide +kernel) (D_116_s h2)
