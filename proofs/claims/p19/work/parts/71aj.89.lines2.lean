/-! codes only come behind codes -/
theorem unG_pre {T V : Nat → Int32} {d : Prop} [Decidable d] {k : Nat} {o : List Cd} : ∃ e, (unG T V d k o).2.2 = o ++ e := by
  unfold unG
  split
  · split
    · exact ⟨[], (List.append_nil _).symm⟩
    · exact ⟨_, rfl⟩
  · split
    · exact ⟨_, rfl⟩
    · exact ⟨[], (List.append_nil _).symm⟩
theorem suG_pre {T V : Nat → Int32} : ∀ {n : Nat} {w : Int32} {k : Nat} {o : List Cd}, ∃ e, (suG T V n w k o).2.2 = o ++ e := by
  intro n
  induction n with
  | zero => intro w k o; exact ⟨[], (List.append_nil _).symm⟩
  | succ n ih =>
    intro w k o
    unfold suG
    split
    · split
      · obtain ⟨e1, h1⟩ := unG_pre (T := T) (V := V) (d := T k = kI 47) (k := k + 1) (o := o)
        obtain ⟨e2, h2⟩ := ih (w := w) (k := (unG T V (T k = kI 47) (k + 1) o).2.1) (o := (unG T V (T k = kI 47) (k + 1) o).2.2 ++ mC (T k))
        rw [h2, h1]
        exact ⟨e1 ++ mC (T k) ++ e2, by rw [List.append_assoc, List.append_assoc, List.append_assoc]⟩
      · exact unG_pre
    · split
      · split
        · obtain ⟨e1, h1⟩ := unG_pre (T := T) (V := V) (d := T k = kI 47) (k := k + 1) (o := o ++ wqC w)
          obtain ⟨e2, h2⟩ := ih (w := T k) (k := (unG T V (T k = kI 47) (k + 1) (o ++ wqC w)).2.1) (o := (unG T V (T k = kI 47) (k + 1) (o ++ wqC w)).2.2 ++ mC (T k))
          rw [h2, h1]
          exact ⟨wqC w ++ e1 ++ mC (T k) ++ e2, by simp only [List.append_assoc]⟩
        · obtain ⟨e1, h1⟩ := unG_pre (T := T) (V := V) (d := T k = kI 47) (k := k + 1) (o := o ++ wqC w)
          rw [h1]
          exact ⟨wqC w ++ e1, by rw [List.append_assoc]⟩
      · exact ⟨_, rfl⟩
theorem suP_pre {T V : Nat → Int32} {w s : Int32} {k : Nat} {o : List Cd} {r : Rs} (h : suP T V w s k o r) : ∃ e, r.2.2 = o ++ e := by
  rcases h with ⟨_, e⟩ | ⟨_, _, n, e⟩
  · rw [e]
    exact unG_pre
  · obtain ⟨e1, h1⟩ := unG_pre (T := T) (V := V) (d := s = kI 47) (k := k) (o := o)
    obtain ⟨e2, h2⟩ := suG_pre (T := T) (V := V) (n := n) (w := w) (k := (unG T V (s = kI 47) k o).2.1) (o := (unG T V (s = kI 47) k o).2.2 ++ mC s)
    rw [e, h1] at h2
    rw [h2]
    exact ⟨e1 ++ mC s ++ e2, by simp only [List.append_assoc]⟩
theorem cmR_pre {T V : Nat → Int32} {k : Nat} {o : List Cd} {r : Rs} (h : cmR T V k o r) : ∃ e, r.2.2 = o ++ e := by
  obtain ⟨r1, s1, h⟩ := h
  obtain ⟨e1, p1⟩ := suP_pre s1
  rcases h with ⟨_, e⟩ | ⟨_, h⟩
  · rw [e]; exact ⟨e1, p1⟩
  · rcases h with ⟨_, e⟩ | ⟨_, r2, s2, h⟩
    · rw [e]; exact ⟨e1, p1⟩
    · obtain ⟨e2, p2⟩ := suP_pre s2
      rw [p1] at p2
      rcases h with ⟨_, e⟩ | ⟨_, e⟩
      · rw [e, p2]; exact ⟨e1 ++ e2, by rw [List.append_assoc]⟩
      · rw [e]
        refine ⟨e1 ++ e2 ++ [((T r1.2.1).toInt.toNat - 54, kI 0)], ?_⟩
        show r2.2.2 ++ _ = _
        rw [p2]
        simp only [List.append_assoc]
theorem stO_pre {S : List Nat} {o : List Cd} : (∃ e, (stA S o).2 = o ++ e) ∧ ∃ e, (stO S o).2 = o ++ e :=
  ⟨⟨_, rfl⟩, ⟨rep (lead 10 S) 10 ++ rep (lead 11 (stA S o).1) 11, by show o ++ rep (lead 10 S) 10 ++ _ = _; rw [List.append_assoc]⟩⟩
theorem stM_pre {T V : Nat → Int32} {s t : Sm} (h : stM T V s t) : ∃ e, t.2.2.2.1 = s.2.2.2.1 ++ e := by
  rcases h with ⟨_, h⟩ | ⟨_, h⟩
  · rcases h with ⟨_, _, h⟩ | ⟨_, _, h⟩ | ⟨_, r, c, h⟩
    · rw [h]; exact ⟨[], (List.append_nil _).symm⟩
    · rw [h]; exact ⟨[], (List.append_nil _).symm⟩
    · obtain ⟨e, p⟩ := cmR_pre c
      rcases h with ⟨_, h⟩ | ⟨_, h⟩
      · rw [h]; exact ⟨e, p⟩
      · rw [h]
        refine ⟨e ++ nC (lead 9 s.2.2.1), ?_⟩
        show r.2.2 ++ nC (lead 9 s.2.2.1) = _
        rw [p, List.append_assoc]
  · obtain ⟨⟨e1, p1⟩, ⟨e2, p2⟩⟩ := stO_pre (S := s.2.2.1) (o := s.2.2.2.1)
    rw [h]
    split
    · exact ⟨e1, p1⟩
    · split
      · exact ⟨e2, p2⟩
      · split
        · exact ⟨e2, p2⟩
        · split
          · exact ⟨e2, p2⟩
          · refine ⟨e2 ++ nC (lead 9 (stO s.2.2.1 s.2.2.2.1).1.tail), ?_⟩
            show (stO s.2.2.1 s.2.2.2.1).2 ++ nC (lead 9 (stO s.2.2.1 s.2.2.2.1).1.tail) = _
            rw [p2, List.append_assoc]
theorem sR_pre {T V : Nat → Int32} {s t : Sm} (h : sR T V s t) : ∃ e, t.2.2.2.1 = s.2.2.2.1 ++ e := by
  obtain ⟨n, h⟩ := h
  induction n generalizing s with
  | zero =>
    have h : s = t := h
    rw [h]
    exact ⟨[], (List.append_nil _).symm⟩
  | succ n ih =>
    obtain ⟨u, a, b⟩ := h
    obtain ⟨e1, p1⟩ := stM_pre a
    obtain ⟨e2, p2⟩ := ih b
    rw [p2, p1]
    exact ⟨e1 ++ e2, by rw [List.append_assoc]⟩
theorem take_pre {o e : List Cd} : (o ++ e).take o.length = o := List.take_left ..
/-! the class's line, law -/
def cLn (M N : pMem) (B : Nat → Int32) (n c k : Nat) (o : List Cd) (L : List Ln) (v : Int32) (q : Rl) : Prop :=
  (q.1 = 0 → v = kI 1 ∧ N 6 4 = M 6 4 ∧ N 6 5 = M 6 5 ∧ rdR N B n c q.2.1 ∧ stp N (stC q.2.2.1) ∧ (stC q.2.2.1).length + k ≤ (stC o).length + q.2.1 ∧ q.2.1 ≤ 500 ∧ clL N q.2.2.1 (L ++ q.2.2.2) ∧ q.2.2.2.length = 1) ∧ (q.1 ≠ 0 → rdNo B n N v q.1 q.2.1)
theorem D_175_w {M : pMem} {B : Nat → Int32} {n c k : Nat} {o : List Cd} {L : List Ln} (h : cL M B n c k o) (hk : k ≤ 500) (hL : clL M o L) {p1 v : Int32} {N : pMem} (hp : p1.toInt = L.length) (hT : ¬ yT B n k = kI 101) (hD : D_175 p1 M v N) :
    (¬ (14 ≤ (yT B n k).toInt ∧ (yT B n k).toInt ≤ 19) → rdNo B n N v 1 k) ∧ (14 ≤ (yT B n k).toInt ∧ (yT B n k).toInt ≤ 19 → (¬ L.length < 16 → rdNo B n N v 3 k) ∧ (L.length < 16 → ∃ q, liR (yT B n) (yV B n) k o q ∧ cLn M N B n c k o L v q)) := by
  obtain ⟨h1, h2, h3⟩ := h
  obtain ⟨ht, _, _⟩ := zR_t h1
  have fail : ∀ {f : Nat} {v1 : Int32} {M1 : pMem}, D_173 (kI f) M v1 M1 → v = v1 → N = M1 → rdNo B n N v f k := fun hD hv hN => by
    obtain ⟨r1, r2, r3, r4⟩ := D_173_w h1 hD
    rw [hN, hv]
    exact ⟨r1, r3, r4⟩
  unfold D_175 at hD
  rw [ht] at hD
  rcases hD with ⟨g, v1, M1, hD, hv, hN⟩ | ⟨g, hD⟩
  · rw [i_lt, kI_toInt (by decide) (by decide)] at g
    exact ⟨fun _ => fail (f := 1) hD hv hN, fun q => by omega⟩
  · rw [i_lt, kI_toInt (by decide) (by decide)] at g
    rcases hD with ⟨g2, hD⟩ | ⟨g2, v1, M1, hD, hv, hN⟩
    · rw [i_le, kI_toInt (by decide) (by decide)] at g2
      refine ⟨fun q => absurd ⟨by omega, g2⟩ q, fun _ => ?_⟩
      rcases hD with ⟨g3, M1, e1, v1, M2, h179, hs⟩ | ⟨g3, v1, M1, hD, hv, hN⟩
      · rw [i_lt, hp, kI_toInt (by decide) (by decide)] at g3
        refine ⟨fun q => absurd (by omega) q, fun l16 => ?_⟩
        obtain ⟨b1, b2, b3, b4, b5⟩ := cl_adv h1 h2 hT e1
        have f1 : pFr [(6, 3)] M M1 := fun a j _ _ q => by
          simp only [pOut_cons, pOut_nil, true_or, and_true] at q
          rw [e1]
          by_cases ea : a = 6
          · subst ea
            exact aPut_at (by omega)
          · exact aPut_cell ea
        obtain ⟨r1, s1, c1⟩ := D_179_w ⟨b1, b2, by omega⟩ (by omega) h179
        have f2 := F_179 h179
        have L2 : clL M2 o L := clL_fr (clL_fr hL f1 (by decide +kernel)) f2 (by decide +kernel)
        have p71 : (M1 7 1).toInt = (stC o).length := b2.1
        rcases hs with ⟨g4, hs⟩ | ⟨g4, hv, hN⟩
        · have r0 := cX_ok c1 g4
          obtain ⟨a1, a2, a3, a4, a5, a6, a7, a8⟩ := c1.1 r0
          obtain ⟨d1, pre1⟩ := suP_pre s1
          obtain ⟨ht2, _, _⟩ := zR_t a4
          have L2' : clL M2 r1.2.2 L := by rw [pre1]; exact clL_more L2
          have st0 : (stC (r1.2.2.take o.length)).length = (stC o).length := by rw [pre1, take_pre]
          have p72 : (M2 7 1).toInt = (stC r1.2.2).length := a5.1
          -- the end of the line
          have tl : ∀ {k2 : Nat} {o2 : List Cd} {d2 : List Cd} {M3 M4 : pMem} {w : Unit} {v3 : Int32}, rdR M3 B n c k2 → stp M3 (stC o2) → clL M3 o2 L → o2 = r1.2.2 ++ d2 → M3 6 4 = M 6 4 → M3 6 5 = M 6 5 → (stC o2).length + k ≤ (stC o).length + k2 → k2 ≤ 500 → (∀ r, tailR (yT B n) k2 o2 (yT B n k, o.length, r1.2.2.length, o2.length) r → liR (yT B n) (yV B n) k o r) →
              D_156 7 (yT B n k) (M1 7 1) (M2 7 1) M3 w M4 → D_176 (kI 59) (kI 59) M4 v3 N → v = v3 → ∃ q, liR (yT B n) (yV B n) k o q ∧ cLn M N B n c k o L v q := by
            intro k2 o2 d2 M3 M4 w v3 t1 t2 t3 t4 t5 t6 t7 t8 t9 h156 h176 hv
            have pre2 : o2 = o ++ (d1 ++ d2) := by rw [t4, pre1, List.append_assoc]
            obtain ⟨x1, x2, x3⟩ := D_156_w (pa := o.length) (pb := r1.2.2.length) t3 l16 (by rw [p71, pre2, take_pre]) (by rw [p72, t4, take_pre]) (by rw [pre1, List.length_append]; omega) (by rw [t4, List.length_append]; omega) t2 h156
            have f156 := F_156 (show pK 2 7 = true by decide +kernel) h156
            have rd4 : rdR M4 B n c k2 := zR_fr t1 f156 (fun j => rfl) (by rw [x3]; exact t1.2.2.2.2.1)
            obtain ⟨w1, w2⟩ := D_176_w rd4 (b := kI 59) (by decide) h176
            rw [kI_toInt (by decide) (by decide)] at w1 w2
            by_cases sg : yT B n k2 = kI 59
            · have sg' : 59 ≤ (yT B n k2).toInt ∧ (yT B n k2).toInt ≤ 59 := by rw [sg, kI_toInt (by decide) (by decide)]; decide
              obtain ⟨z1, z2, z3, z4⟩ := w1 sg'
              obtain ⟨y1, y2⟩ := D_176_k rd4 x2 h176 z2
              have kk : k2 < 500 := zR_k rd4 (fun e => by rw [e] at sg; exact absurd sg (by decide))
              refine ⟨(0, k2 + 1, o2, [(yT B n k, o.length, r1.2.2.length, o2.length)]), t9 _ (Or.inl ⟨sg, rfl⟩), fun _ => ⟨hv.trans z1, by rw [z3, x3, t5], by rw [z4, x3, t6], y1, y2, by show (stC o2).length + k ≤ (stC o).length + (k2 + 1); omega, by show k2 + 1 ≤ 500; omega, clL_fr x1 (F_176 h176) (by decide +kernel), rfl⟩, fun e => absurd rfl e⟩
            · have sg' : ¬ (59 ≤ (yT B n k2).toInt ∧ (yT B n k2).toInt ≤ 59) := fun q => sg (kI_inj (by omega))
              have no := w2 sg'
              exact ⟨(1, k2, o2, []), t9 _ (Or.inr ⟨sg, rfl⟩), fun e => absurd e (show ¬ (1 : Nat) = 0 by decide), fun _ => ⟨hv.trans no.1, no.2.1, no.2.2⟩⟩
          rw [ht2] at hs
          rcases hs with ⟨g5, w, M3, h156, v3, M4, h176, hv, hN⟩ | ⟨g5, M3, e3, v2, M4, h177, hs⟩
          · subst hN
            refine tl (d2 := []) a4 a5 L2' (List.append_nil _).symm (a2.trans b3) (a3.trans b4) (by omega) a8 (fun r hr => ⟨r1, s1, Or.inr ⟨r0, Or.inl ⟨g5, hr⟩⟩⟩) h156 h176 hv
          · have t20 := Classical.not_not.mp g5
            obtain ⟨c1', c2', c3', c4', c5'⟩ := cl_adv a4 a5 (by rw [t20]; decide) e3
            have f3 : pFr [(6, 3)] M2 M3 := fun a j _ _ q => by
              simp only [pOut_cons, pOut_nil, true_or, and_true] at q
              rw [e3]
              by_cases ea : a = 6
              · subst ea
                exact aPut_at (by omega)
              · exact aPut_cell ea
            have f4 := F_177 h177
            have L4 : clL M4 r1.2.2 L := clL_fr (clL_fr L2' f3 (by decide +kernel)) f4 (by decide +kernel)
            have any := D_177_w (B := B) (n := n) (c := c) h177 (r1.2.1 + 1) r1.2.2 [] c1' c2' (by omega) (by omega) rfl (by decide) (Or.inl rfl)
            rcases any with ⟨k', o', W, hW, m1, m2, m3, q1, q2, q3, q4, q5, q6, q7, q8⟩ | ⟨k', S', o', f, m1, m2, m3⟩
            · have hs := tIf_p (show ¬ v2 = 0 by rw [q1]; decide) hs
              obtain ⟨w, M5, h156, v4, M6, h176, hv, hN⟩ := hs
              subst hN
              have so := stO_W (o := o') hW (Or.inl rfl : top12 [])
              have acc : sR (yT B n) (yV B n) (0, r1.2.1 + 1, [], r1.2.2, 0) (2, k', [], o' ++ sW W, 0) := by
                refine sR_tr m1 (sR_one (Or.inr ⟨rfl, ?_⟩))
                show _ = if yT B n k' = kI 22 then _ else if yT B n k' = kI 21 then _ else if ¬ 12 ∈ (stO (W ++ []) o').1 then _ else _
                rw [if_neg m2, if_neg m3, so, if_pos (List.not_mem_nil)]
              obtain ⟨d2, pre2⟩ := sR_pre acc
              have pre2 : o' ++ sW W = r1.2.2 ++ d2 := pre2
              refine tl (o2 := o' ++ sW W) (d2 := d2) q4 q5 (by rw [pre2]; exact clL_more L4) pre2 (q2.trans (c3'.trans (a2.trans b3))) (q3.trans (c4'.trans (a3.trans b4))) (by omega) (by omega) (fun r hr => ⟨r1, s1, Or.inr ⟨r0, Or.inr ⟨t20, _, acc, Or.inr ⟨rfl, hr⟩⟩⟩⟩) h156 h176 hv
            · obtain ⟨hv, hN⟩ := tIf_n (nn (show v2 = 0 from m3.1)) hs
              exact ⟨(f, k', o', []), ⟨r1, s1, Or.inr ⟨r0, Or.inr ⟨t20, _, m1, Or.inl ⟨rfl, rfl⟩⟩⟩⟩, fun e => absurd e m2, fun _ => ⟨hv, by rw [hN]; exact m3.2.1, by rw [hN]; exact m3.2.2⟩⟩
        · have r1' := cX_no c1 (Classical.not_not.mp g4)
          obtain ⟨d1, d2, d3⟩ := c1.2 r1'
          exact ⟨(r1.1, r1.2.1, r1.2.2, []), ⟨r1, s1, Or.inl ⟨r1', rfl⟩⟩, fun e => absurd e r1', fun _ => ⟨hv, by rw [hN]; exact d2, by rw [hN]; exact d3⟩⟩
      · rw [i_lt, hp, kI_toInt (by decide) (by decide)] at g3
        exact ⟨fun _ => fail (f := 3) hD hv hN, fun q => by omega⟩
    · rw [i_le, kI_toInt (by decide) (by decide)] at g2
      exact ⟨fun _ => fail (f := 1) hD hv hN, fun q => by omega⟩
/-- a law of the class -/
def clLaw (N : pMem) (l : Nat) (o : List Cd) (L : List Ln) : Prop := (N l 0).toInt = L.length ∧ L.length ≤ 16 ∧ (stC o).length ≤ 500 ∧ (∀ i x, (stC o)[i]? = some x → N (l + 5) i = x) ∧
  ∀ i x, L[i]? = some x → N (l + 1) i = x.1 ∧ (N (l + 2) i).toInt = (stC (o.take x.2.1)).length ∧ (N (l + 3) i).toInt = (stC (o.take x.2.2.1)).length ∧ (N (l + 4) i).toInt = (stC (o.take x.2.2.2)).length ∧ x.2.1 ≤ x.2.2.1 ∧ x.2.2.1 ≤ x.2.2.2 ∧ x.2.2.2 ≤ o.length
def q174 (B : Nat → Int32) (n c l : Nat) (x2 : Int32) (M : pMem) (v : Int32) (N : pMem) : Prop := ∀ (m k : Nat) (o : List Cd) (L : List Ln), x2.toInt = L.length → m + L.length = 16 → cL M B n c k o → k ≤ 500 → clL M o L →
  ∃ r, laR (yT B n) (yV B n) m k o r ∧ (r.1 = 0 → v.toInt = ((L ++ r.2.2.2).length : Nat) ∧ N 6 4 = M 6 4 ∧ N 6 5 = M 6 5 ∧ clLaw N l r.2.2.1 (L ++ r.2.2.2)) ∧ (r.1 ≠ 0 → v = kI (-1) ∧ N 6 4 = kI r.1 ∧ N 6 5 = kI (xSt B n r.2.1))
theorem S_174_1w {B : Nat → Int32} {n c l : Nat} (hl : 30 ≤ l) {P1 : Int32 → pMem → pT Int32} (hP : ∀ x2 M v N, P1 x2 M v N → q174 B n c l x2 M v N) {x2 : Int32} {M : pMem} {v : Int32} {N : pMem} (hs : S_174_1 l P1 x2 M v N) : q174 B n c l x2 M v N := by
  intro m k o L hx hm h hk hL
  obtain ⟨ht, _, _⟩ := zR_t h.1
  have hs := tIf_n (show ¬ kI 16 < x2 by rw [i_lt, hx, kI_toInt (by decide) (by decide)]; omega) hs
  rw [ht] at hs
  rcases hs with ⟨g, u, M1, h153, hv, hN⟩ | ⟨g, v1, M1, h175, hs⟩
  · obtain ⟨a1, a2, a3, a4⟩ := D_153_w (by omega) h153
    refine ⟨(0, k, o, []), ?_, fun _ => ⟨?_, ?_, ?_, ?_⟩, fun e => absurd rfl e⟩
    · cases m with
      | zero => exact Or.inl ⟨g, rfl⟩
      | succ m => exact Or.inl ⟨g, rfl⟩
    · rw [hv, a4 7 (by omega), List.append_nil]
      exact hL.1
    · rw [hN, a4 6 (by omega)]
    · rw [hN, a4 6 (by omega)]
    · obtain ⟨b1, b2, b3⟩ := hL
      obtain ⟨s1, s2, s3⟩ := h.2.1
      show clLaw N l o (L ++ [])
      rw [List.append_nil, hN]
      refine ⟨by rw [a1 0 (by omega)]; exact b1, b2, s2, fun i x hi => ?_, fun i x hi => ?_⟩
      · have := (List.getElem?_eq_some_iff.mp hi).1
        rw [a3 i (by omega)]
        exact s3 i x hi
      · have := (List.getElem?_eq_some_iff.mp hi).1
        obtain ⟨c1, c2, c3, c4⟩ := a2 i (by omega)
        rw [c1, c2, c3, c4]
        exact b3 i x hi
  · obtain ⟨w1, w2⟩ := D_175_w h hk hL hx g h175
    have bad : ∀ {f k' : Nat} {o' : List Cd}, rdNo B n M1 v1 f k' → f ≠ 0 → laR (yT B n) (yV B n) m k o (f, k', o', []) → ∃ r, laR (yT B n) (yV B n) m k o r ∧ (r.1 = 0 → v.toInt = ((L ++ r.2.2.2).length : Nat) ∧ N 6 4 = M 6 4 ∧ N 6 5 = M 6 5 ∧ clLaw N l r.2.2.1 (L ++ r.2.2.2)) ∧ (r.1 ≠ 0 → v = kI (-1) ∧ N 6 4 = kI r.1 ∧ N 6 5 = kI (xSt B n r.2.1)) := by
      intro f k' o' hno hf hla
      obtain ⟨hv, hN⟩ := tIf_n (nn (show v1 = 0 from hno.1)) hs
      exact ⟨_, hla, fun e => absurd e hf, fun _ => ⟨hv, by rw [hN]; exact hno.2.1, by rw [hN]; exact hno.2.2⟩⟩
    by_cases wd : 14 ≤ (yT B n k).toInt ∧ (yT B n k).toInt ≤ 19
    · obtain ⟨w3, w4⟩ := w2 wd
      cases m with
      | zero => exact bad (w3 (by omega)) (by decide) (Or.inr ⟨g, Or.inr ⟨wd, rfl⟩⟩)
      | succ m =>
        obtain ⟨q, l1, l2, l3⟩ := w4 (by omega)
        by_cases q0 : q.1 = 0
        · obtain ⟨z1, z2, z3, z4, z5, z6, z7, z8, z9⟩ := l2 q0
          have hs := tIf_p (show ¬ v1 = 0 by rw [z1]; decide) hs
          obtain ⟨r, r1, r2, r3⟩ := hP _ _ _ _ hs m q.2.1 q.2.2.1 (L ++ q.2.2.2) (by rw [i_add1 (by omega), hx, List.length_append, z9]; omega) (by rw [List.length_append, z9]; omega) ⟨z4, z5, by have := h.2.2; omega⟩ z7 z8
          refine ⟨(r.1, r.2.1, r.2.2.1, q.2.2.2 ++ r.2.2.2), Or.inr ⟨g, Or.inr ⟨wd, q, l1, Or.inr ⟨q0, r, r1, rfl⟩⟩⟩, fun e => ?_, r3⟩
          obtain ⟨y1, y2, y3, y4⟩ := r2 e
          rw [← List.append_assoc]
          exact ⟨y1, y2.trans z2, y3.trans z3, y4⟩
        · exact bad (l3 q0) q0 (Or.inr ⟨g, Or.inr ⟨wd, q, l1, Or.inl ⟨q0, rfl⟩⟩⟩)
    · refine bad (o' := o) (w1 wd) (by decide) ?_
      · cases m with
        | zero => exact Or.inr ⟨g, Or.inl ⟨wd, rfl⟩⟩
        | succ m => exact Or.inr ⟨g, Or.inl ⟨wd, rfl⟩⟩
theorem D_174_w {M : pMem} {B : Nat → Int32} {n c l : Nat} (hl : 30 ≤ l) (h : rdR M B n c 0) {v : Int32} {N : pMem} (hD : D_174 l M v N) :
    ∃ r, laR (yT B n) (yV B n) 16 0 [] r ∧ (r.1 = 0 → v.toInt = (r.2.2.2.length : Nat) ∧ N 6 4 = M 6 4 ∧ N 6 5 = M 6 5 ∧ clLaw N l r.2.2.1 r.2.2.2) ∧ (r.1 ≠ 0 → v = kI (-1) ∧ N 6 4 = kI r.1 ∧ N 6 5 = kI (xSt B n r.2.1)) := by
  obtain ⟨_, M1, ⟨Ma, ea, Mb, eb, _, hM⟩, hD⟩ := hD
  have q : q174 B n c l (kI 0) M1 v N := hD (q174 B n c l) (fun _ _ _ _ hs => S_174_1w hl (fun _ _ _ _ h => h) hs)
  have f : pFr [(7, 0), (7, 1)] M M1 := fun a j _ _ q => by
    simp only [pOut_cons, pOut_nil, true_or, and_true] at q
    rw [hM, eb, ea]
    by_cases e7 : a = 7
    · subst e7
      rw [aPut_at (by omega), aPut_at (by omega)]
    · rw [aPut_cell e7, aPut_cell e7]
  have z0 : M1 7 0 = kI 0 := by rw [hM, eb, aPut_at (by decide), ea, aPut_same]
  have z1 : M1 7 1 = kI 0 := by rw [hM, eb, aPut_same]
  have s6 : M1 6 4 = M 6 4 ∧ M1 6 5 = M 6 5 ∧ M1 6 3 = M 6 3 := ⟨f 6 4 (by decide) rfl (by simp only [pOut_cons, pOut_nil, true_or, and_true]; omega), f 6 5 (by decide) rfl (by simp only [pOut_cons, pOut_nil, true_or, and_true]; omega), f 6 3 (by decide) rfl (by simp only [pOut_cons, pOut_nil, true_or, and_true]; omega)⟩
  obtain ⟨r, r1, r2, r3⟩ := q 16 0 [] [] rfl rfl ⟨zR_fr h f (fun j => rfl) (by rw [s6.2.2]; exact h.2.2.2.2.1), ⟨by rw [z1]; rfl, by decide, fun i x hi => by cases hi⟩, by decide⟩ (by decide) ⟨by rw [z0]; rfl, by decide, fun i x hi => by cases hi⟩
  refine ⟨r, r1, fun e => ?_, r3⟩
  obtain ⟨a1, a2, a3, a4⟩ := r2 e
  rw [List.nil_append] at a1 a4
  exact ⟨a1, a2.trans s6.1, a3.trans s6.2.1, a4⟩
