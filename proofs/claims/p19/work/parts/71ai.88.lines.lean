/-! lines of a law -/
/-- a line: its word, where its codes begin, where its E and its B end -/
abbrev Ln : Type := Int32 × Nat × Nat × Nat
abbrev Rl : Type := Nat × Nat × List Cd × List Ln
def tailR (T : Nat → Int32) (k2 : Nat) (o2 : List Cd) (ln : Ln) (r : Rl) : Prop := (T k2 = kI 59 ∧ r = (0, k2 + 1, o2, [ln])) ∨ (¬ T k2 = kI 59 ∧ r = (1, k2, o2, []))
def liR (T V : Nat → Int32) (k : Nat) (o : List Cd) (r : Rl) : Prop := ∃ r1, suS T V (k + 1) o r1 ∧ ((r1.1 ≠ 0 ∧ r = (r1.1, r1.2.1, r1.2.2, [])) ∨ (r1.1 = 0 ∧
  ((¬ T r1.2.1 = kI 20 ∧ tailR T r1.2.1 r1.2.2 (T k, o.length, r1.2.2.length, r1.2.2.length) r) ∨
   (T r1.2.1 = kI 20 ∧ ∃ t, sR T V (0, r1.2.1 + 1, [], r1.2.2, 0) t ∧ ((t.1 = 3 ∧ r = (t.2.2.2.2, t.2.1, t.2.2.2.1, [])) ∨ (t.1 = 2 ∧ tailR T t.2.1 t.2.2.2.1 (T k, o.length, r1.2.2.length, t.2.2.2.1.length) r))))))
theorem tailR_det {T : Nat → Int32} {k2 : Nat} {o2 : List Cd} {ln : Ln} {r r' : Rl} (h : tailR T k2 o2 ln r) (h' : tailR T k2 o2 ln r') : r = r' := by
  rcases h with ⟨a, b⟩ | ⟨a, b⟩ <;> rcases h' with ⟨a', b'⟩ | ⟨a', b'⟩
  · rw [b, b']
  · exact absurd a a'
  · exact absurd a' a
  · rw [b, b']
theorem liR_det {T V : Nat → Int32} {k : Nat} {o : List Cd} {r r' : Rl} (h : liR T V k o r) (h' : liR T V k o r') : r = r' := by
  obtain ⟨r1, a1, a2⟩ := h
  obtain ⟨r2, b1, b2⟩ := h'
  obtain rfl := suP_det a1 b1
  rcases a2 with ⟨c1, c2⟩ | ⟨c1, c2⟩ <;> rcases b2 with ⟨d1, d2⟩ | ⟨d1, d2⟩
  · rw [c2, d2]
  · exact absurd d1 c1
  · exact absurd c1 d1
  · rcases c2 with ⟨c2, c3⟩ | ⟨c2, t, c3, c4⟩ <;> rcases d2 with ⟨d2, d3⟩ | ⟨d2, t', d3, d4⟩
    · exact tailR_det c3 d3
    · exact absurd d2 c2
    · exact absurd c2 d2
    · have ft : fin t := c4.elim (fun q => Or.inr q.1) (fun q => Or.inl q.1)
      have ft' : fin t' := d4.elim (fun q => Or.inr q.1) (fun q => Or.inl q.1)
      obtain rfl := sR_det c3 d3 ft ft'
      rcases c4 with ⟨c4, c5⟩ | ⟨c4, c5⟩ <;> rcases d4 with ⟨d4, d5⟩ | ⟨d4, d5⟩
      · rw [c5, d5]
      · omega
      · omega
      · exact tailR_det c5 d5
/-- m lines may still come -/
def laR (T V : Nat → Int32) : Nat → Nat → List Cd → Rl → Prop
  | 0, k, o, r => (T k = kI 101 ∧ r = (0, k, o, [])) ∨ (¬ T k = kI 101 ∧ ((¬ (14 ≤ (T k).toInt ∧ (T k).toInt ≤ 19) ∧ r = (1, k, o, [])) ∨ ((14 ≤ (T k).toInt ∧ (T k).toInt ≤ 19) ∧ r = (3, k, o, []))))
  | m + 1, k, o, r => (T k = kI 101 ∧ r = (0, k, o, [])) ∨ (¬ T k = kI 101 ∧ ((¬ (14 ≤ (T k).toInt ∧ (T k).toInt ≤ 19) ∧ r = (1, k, o, [])) ∨ ((14 ≤ (T k).toInt ∧ (T k).toInt ≤ 19) ∧
      ∃ q, liR T V k o q ∧ ((q.1 ≠ 0 ∧ r = (q.1, q.2.1, q.2.2.1, [])) ∨ (q.1 = 0 ∧ ∃ r', laR T V m q.2.1 q.2.2.1 r' ∧ r = (r'.1, r'.2.1, r'.2.2.1, q.2.2.2 ++ r'.2.2.2))))))
theorem laR_det {T V : Nat → Int32} : ∀ {m k : Nat} {o : List Cd} {r r' : Rl}, laR T V m k o r → laR T V m k o r' → r = r' := by
  intro m
  induction m with
  | zero =>
    intro k o r r' h h'
    rcases h with ⟨a, b⟩ | ⟨a, b⟩ <;> rcases h' with ⟨a', b'⟩ | ⟨a', b'⟩
    · rw [b, b']
    · exact absurd a a'
    · exact absurd a' a
    · rcases b with ⟨c, d⟩ | ⟨c, d⟩ <;> rcases b' with ⟨c', d'⟩ | ⟨c', d'⟩
      · rw [d, d']
      · exact absurd c' c
      · exact absurd c c'
      · rw [d, d']
  | succ m ih =>
    intro k o r r' h h'
    rcases h with ⟨a, b⟩ | ⟨a, b⟩ <;> rcases h' with ⟨a', b'⟩ | ⟨a', b'⟩
    · rw [b, b']
    · exact absurd a a'
    · exact absurd a' a
    · rcases b with ⟨c, d⟩ | ⟨c, q, d, e⟩ <;> rcases b' with ⟨c', d'⟩ | ⟨c', q', d', e'⟩
      · rw [d, d']
      · exact absurd c' c
      · exact absurd c c'
      · obtain rfl := liR_det d d'
        rcases e with ⟨e1, e2⟩ | ⟨e1, r1, e2, e3⟩ <;> rcases e' with ⟨f1, f2⟩ | ⟨f1, r2, f2, f3⟩
        · rw [e2, f2]
        · exact absurd f1 e1
        · exact absurd e1 f1
        · obtain rfl := ih e2 f2
          rw [e3, f3]
/-! the class's lines -/
/-- the draft's lines: words and where steps begin and end -/
def clL (M : pMem) (o : List Cd) (L : List Ln) : Prop := (M 7 0).toInt = L.length ∧ L.length ≤ 16 ∧ ∀ i x, L[i]? = some x → M 8 i = x.1 ∧ (M 9 i).toInt = (stC (o.take x.2.1)).length ∧ (M 10 i).toInt = (stC (o.take x.2.2.1)).length ∧ (M 11 i).toInt = (stC (o.take x.2.2.2)).length ∧ x.2.1 ≤ x.2.2.1 ∧ x.2.2.1 ≤ x.2.2.2 ∧ x.2.2.2 ≤ o.length
theorem clL_more {M : pMem} {o o' : List Cd} {L : List Ln} (h : clL M o L) : clL M (o ++ o') L := by
  obtain ⟨h1, h2, h3⟩ := h
  refine ⟨h1, h2, fun i x hi => ?_⟩
  obtain ⟨a1, a2, a3, a4, a5, a6, a7⟩ := h3 i x hi
  have t : ∀ p, p ≤ o.length → (o ++ o').take p = o.take p := fun p hp => List.take_append_of_le_length hp
  rw [t _ (by omega), t _ (by omega), t _ (by omega), List.length_append]
  exact ⟨a1, a2, a3, a4, a5, a6, by omega⟩
theorem clL_fr {M N : pMem} {o : List Cd} {L : List Ln} {S : List (Nat × Nat)} (h : clL M o L) (f : pFr S M N) (k : (pOut S 7 0 && (pNo S 8 && (pNo S 9 && (pNo S 10 && pNo S 11)))) = true) : clL N o L := by
  simp only [Bool.and_eq_true] at k
  obtain ⟨k0, k1, k2, k3, k4⟩ := k
  obtain ⟨h1, h2, h3⟩ := h
  refine ⟨by rw [f 7 0 (by decide) rfl k0]; exact h1, h2, fun i x hi => ?_⟩
  rw [f 8 i (by decide) rfl (pNo_out k1 i), f 9 i (by decide) rfl (pNo_out k2 i), f 10 i (by decide) rfl (pNo_out k3 i), f 11 i (by decide) rfl (pNo_out k4 i)]
  exact h3 i x hi
theorem D_156_w {M : pMem} {o : List Cd} {L : List Ln} (h : clL M o L) (hl : L.length < 16) {w a b : Int32} {pa pb : Nat} (ha : a.toInt = (stC (o.take pa)).length) (hb : b.toInt = (stC (o.take pb)).length) (hab : pa ≤ pb) (hbo : pb ≤ o.length) (hs : stp M (stC o)) {u : Unit} {N : pMem} (hD : D_156 7 w a b M u N) : clL N o (L ++ [(w, pa, pb, o.length)]) ∧ stp N (stC o) ∧ N 6 = M 6 := by
  obtain ⟨h1, h2, h3⟩ := h
  have hD := tIf_n (show ¬ M 7 0 < 0 by rw [i_lt, h1, i_0]; omega) hD
  have hD := tIf_n (show ¬ kI 16 ≤ M 7 0 by rw [i_le, h1, kI_toInt (by decide) (by decide)]; omega) hD
  obtain ⟨_, M1, e1, _, M2, e2, _, M3, e3, _, M4, e4, M5, e5, _, hN⟩ := hD
  have q1 : M1 7 0 = M 7 0 := by rw [e1, aPut_cell (by decide)]
  have q2 : M2 7 0 = M 7 0 := by rw [e2, aPut_cell (by decide)]; exact q1
  have q3 : M3 7 0 = M 7 0 := by rw [e3, aPut_cell (by decide)]; exact q2
  have q4 : M4 7 0 = M 7 0 := by rw [e4, aPut_cell (by decide)]; exact q3
  have z1 : M3 7 1 = M 7 1 := by rw [e3, aPut_cell (by decide), e2, aPut_cell (by decide), e1, aPut_cell (by decide)]
  rw [ix_of h1] at e1
  rw [q1, ix_of h1] at e2
  rw [q2, ix_of h1] at e3
  rw [q3, ix_of h1, z1] at e4
  rw [hN]
  refine ⟨⟨?_, ?_, fun i x hi => ?_⟩, ?_, ?_⟩
  · rw [e5, aPut_same, q4, i_add1 (by omega), h1, List.length_append, List.length_singleton]
    omega
  · rw [List.length_append, List.length_singleton]
    omega
  · have r8 : M5 8 i = if i = L.length then w else M 8 i := by rw [e5, aPut_cell (by decide), e4, aPut_cell (by decide), e3, aPut_cell (by decide), e2, aPut_cell (by decide), e1, aPut_row]
    have r9 : M5 9 i = if i = L.length then a else M 9 i := by rw [e5, aPut_cell (by decide), e4, aPut_cell (by decide), e3, aPut_cell (by decide), e2, aPut_row, e1, aPut_cell (by decide)]
    have r10 : M5 10 i = if i = L.length then b else M 10 i := by rw [e5, aPut_cell (by decide), e4, aPut_cell (by decide), e3, aPut_row, e2, aPut_cell (by decide), e1, aPut_cell (by decide)]
    have r11 : M5 11 i = if i = L.length then M 7 1 else M 11 i := by rw [e5, aPut_cell (by decide), e4, aPut_row, e3, aPut_cell (by decide), e2, aPut_cell (by decide), e1, aPut_cell (by decide)]
    rw [r8, r9, r10, r11]
    by_cases e : i = L.length
    · rw [if_pos e, if_pos e, if_pos e, if_pos e]
      rw [e, List.getElem?_append_right (Nat.le_refl _), Nat.sub_self] at hi
      have := Option.some.inj hi
      rw [← this]
      exact ⟨rfl, ha, hb, by show (M 7 1).toInt = _; rw [List.take_length]; exact hs.1, hab, hbo, Nat.le_refl _⟩
    · rw [if_neg e, if_neg e, if_neg e, if_neg e]
      have hlt := (List.getElem?_eq_some_iff.mp hi).1
      rw [List.length_append, List.length_singleton] at hlt
      rw [List.getElem?_append_left (by omega)] at hi
      exact h3 i x hi
  · obtain ⟨s1, s2, s3⟩ := hs
    refine ⟨?_, s2, fun i x hi => ?_⟩
    · rw [e5, aPut_at (by decide), e4, aPut_cell (by decide), z1]
      exact s1
    · rw [e5, aPut_cell (by decide), e4, aPut_cell (by decide), e3, aPut_cell (by decide), e2, aPut_cell (by decide), e1, aPut_cell (by decide)]
      exact s3 i x hi
  · funext j
    rw [e5, aPut_cell (by decide), e4, aPut_cell (by decide), e3, aPut_cell (by decide), e2, aPut_cell (by decide), e1, aPut_cell (by decide)]
