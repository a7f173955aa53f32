/-! general contracts, printed by wip/safe/gen_s.py -/
def gl_105 : List (Nat × List zCo) := [(55, [gc_192]), (101, [gc_208]), (102, [gc_209])]
theorem gl_105_ok {X : aX} : gOk X gl_105 := (gOk_cons (gA_cons gc_192_ok gA_nil) (gOk_cons (gA_cons gc_208_ok gA_nil) (gOk_cons (gA_cons gc_209_ok gA_nil) gOk_nil)))
theorem bk_105_1 : (aMC 105)[1]? = some [.iload 4, .bipush 24, .iload 1, .imul, .aload 0, .getfield 128812186, .iload 1, .iaload, .iadd, .if_icmp .ge 13] := by decide +kernel
theorem bk_105_2 : (aMC 105)[2]? = some [.aload 0, .getfield 128912190, .iload 4, .iaload, .bipush 10, .if_icmp .ne 5] := by decide +kernel
theorem bk_105_3 : (aMC 105)[3]? = some [.iload 2, .ifCond .eq 12] := by decide +kernel
theorem bk_105_4 : (aMC 105)[4]? = some [.aload 0, .getfield 129012194, .iload 4, .iaload, .istore 3, .goto 12] := by decide +kernel
theorem bk_105_5 : (aMC 105)[5]? = some [.aload 0, .getfield 124512012, .bipush 60, .if_icmp .ne 7] := by decide +kernel
theorem bk_105_12 : (aMC 105)[12]? = some [.iinc 4 1, .goto 1] := by decide +kernel
theorem bk_105_13 : (aMC 105)[13]? = some [.return_] := by decide +kernel
def gm5 : Nat := gh_105_0.2.2.2.2.2.2
def gH5 : zIv := (1, [(0, 3), (0, 4), (1, 24124)], [(.negSucc 0, .ofNat 1), (.ofNat 0, .ofNat 96), (.ofNat 0, .ofNat 24)], [(4, (.ofNat 0), (.ofNat 0), 188), (0, (.ofNat 0), (.ofNat 1), 0), (0, (.ofNat 0), (.ofNat 1), 1), (0, (.ofNat 0), (.ofNat 1), 3), (0, (.ofNat 0), (.ofNat 1), 4)], [(24067, 0, 1, (1, (.ofNat 0), (.ofNat 60), 0)), (24124, 0, 1, (0, (.ofNat 0), (.ofNat 1), 5))], [])
def gKc5 (v e : zV) : Nat → zS → zK → List zE → List zV → Bool := fun _ _ _ E ls => (match ls with
  | [_, _, _, _, u] => decide (u = v)
  | _ => false) && E.any (fun x => decide (x = (24124, 0, 1, e)))
def gP5 (v e : zV) : zP := (zBk, gK, gF, gPs, fun q => gAs q gl_105, [gH5], false, gm5, gm5, 3, [], fun n σ _ E rv => zPostOk (gP []) 3 gh_105_0.2.2.2.2.2.1 n σ E rv, gKc5 v e)
def gB5 : List (Int × Int) := [(.ofNat 0, .ofNat 3), (.ofNat 0, .ofNat 1), (.ofNat 0, .ofNat 60), (.negSucc 0, .ofNat 1), (.ofNat 0, .ofNat 95), (.ofNat 0, .ofNat 23)]
theorem g105_a : zGoX (gP5 (0, .ofNat 0, .ofNat 24, 0) (0, .ofNat 0, .ofNat 0, 0)) 10000000 3 (zSig gh_105_0.2.1 0) (230, 108808, []) gh_105_0.2.2.2.2.1 ([], 11, 105, 0) ((zBk 105).getD 0 []) (zEnt gh_105_0.2.2.2.1 (aML 105)) [] = true := by decide +kernel
theorem g105_b : zGoX (gP5 (0, .ofNat 1, .ofNat 1, 4) (0, .ofNat 1, .ofNat 1, 5)) 10000000 6 (zSig gB5 0) (230, 108808, []) gH5.2.2.2.2.1 ([], 11, 105, 5) ((zBk 105).getD 5 []) gH5.2.2.2.1 [] = true := by decide +kernel
theorem gEq5 {v e : zV} : zEqv (gP5 v e) (gP []) := ⟨rfl, rfl, rfl⟩
theorem gVal5 {v e : zV} : zVal (gP5 v e) := ⟨(gB []).1, (gB []).2.1, (gB []).2.2.1, fun _ h => h, fun al => (by cases al), (gB []).2.2.2⟩
theorem gHG5 {v e : zV} : zHG (gP5 v e) gG := fun h M' _ _ k g => gG_keep (L := []) k g
theorem gCo5 {X : aX} {v e : zV} : ∀ q c, c ∈ (gP5 v e).con q → zCk X (gP5 v e) gG q c := by
  intro q c hc
  rw [zCk_eq gEq5]
  obtain ⟨p, h1, h2, h3⟩ := gAs_in (L := gl_105) hc
  subst h2
  exact gl_105_ok p h1 c h3
theorem gGl5 {P : zP} {ρ : Nat → Int} {n : Nat} {a b c d e : zV} {us : List Value} (h : zGl P ρ n [a, b, c, d, e] us) : ∃ u0 u1 u2 u3 u4, us = [u0, u1, u2, u3, u4] ∧ zG P ρ n a u0 ∧ zG P ρ n b u1 ∧ zG P ρ n c u2 ∧ zG P ρ n d u3 ∧ zG P ρ n e u4 := by
  obtain ⟨u0, q0, rfl, g0, h⟩ := zGl_cons h
  obtain ⟨u1, q1, rfl, g1, h⟩ := zGl_cons h
  obtain ⟨u2, q2, rfl, g2, h⟩ := zGl_cons h
  obtain ⟨u3, q3, rfl, g3, h⟩ := zGl_cons h
  obtain ⟨u4, q4, rfl, g4, h⟩ := zGl_cons h
  rw [zGl_nil h]
  exact ⟨u0, u1, u2, u3, u4, rfl, g0, g1, g2, g3, g4⟩
theorem gKc5_s {v e : zV} {n : Nat} {σ : zS} {K : zK} {E : List zE} {ls : List zV} (h : gKc5 v e n σ K E ls = true) : (∃ a b c d, ls = [a, b, c, d, v]) ∧ (24124, 0, 1, e) ∈ E := by
  unfold gKc5 at h
  obtain ⟨h1, h2⟩ := zAnd h
  refine ⟨?_, ?_⟩
  · split at h1
    · rename_i a b c d u
      have h1 : u = v := of_decide_eq_true h1
      subst h1
      exact ⟨a, b, c, d, rfl⟩
    · cases h1
  · obtain ⟨x, hx, hq⟩ := List.any_eq_true.mp h2
    have hq : x = (24124, 0, 1, e) := of_decide_eq_true hq
    rw [← hq]
    exact hx
theorem zN0 {ρ : Nat → Int} {n s : Nat} {a b x : Int} (h : zN ρ n 0 (0, a, b, s) x) : x = a + b * ρ s := by
  rcases h with ⟨_, _, q⟩ | ⟨q, _⟩
  · exact q
  · cases q
theorem zN1 {ρ : Nat → Int} {n s : Nat} {a b x : Int} (h : zN ρ n 0 (1, a, b, s) x) : a ≤ x ∧ x ≤ b := by
  rcases h with ⟨q, _⟩ | ⟨_, q⟩
  · cases q
  · exact q
/-- what holds at the head of the days -/
def gS5 (h0 : aH) (wr i4 led : Int) (M : Nat → Nat → Int32) : Prop := zGI (gP []) (gH h0.2.2.1 M) ∧ gG (gH h0.2.2.1 M) ∧ zOff gm5 h0.2.2.1 h0.2.2.2 M ∧ (0 ≤ (M 188 3).toInt ∧ (M 188 3).toInt ≤ 60) ∧ (M 188 60).toInt = led ∧ -1 ≤ wr ∧ wr ≤ 1
def gQ5 (ρ : Nat → Int) (h0 : aH) (rv : Option Value) (h' : aH) : Prop := (∃ po ∈ gh_105_0.2.2.2.2.2.1, zPm (gP []) ρ 3 po rv h') ∧ zGI (gP []) h' ∧ gG h' ∧ h'.1 = h0.1 ∧ h'.2.1 = h0.2.1 ∧ h'.2.2.1 = h0.2.2.1 ∧ zOff gm5 h0.2.2.1 h0.2.2.2 h'.2.2.2
/-- what a run's end says -/
theorem gHF5 {X : aX} {v e : zV} {pS : Nat} {ρ ρ0 : Nat → Int} {h0 : aH} (h1 : h0.1 = 230) (h2 : h0.2.1 = 108808) (hp : 3 ≤ pS) (hr : ∀ i, i < 3 → ρ0 i = ρ i) : zHF X (gP5 v e) gG pS h0 ρ0 (gQ5 ρ h0) := by
  intro n σ K E rv ρ1 h rvC hk hg hl
  have hk : zPostOk (gP []) 3 gh_105_0.2.2.2.2.2.1 n σ E rv = true := hk
  rw [← zPostOk_eq (gEq5 (v := v) (e := e))] at hk
  obtain ⟨f1, f2, f3⟩ := hg.2.2.2.2.1 rfl
  have hKe : zGK (gP5 v e) (h.1, h.2.1, []) h := by
    rw [zGK_eq gEq5, f3.1, f3.2.1, h1, h2]
    exact f1.1
  obtain ⟨po, p1, p2⟩ := zPostOk_s gVal5 hKe hp hg hl hk
  rw [zPm_eq gEq5] at p2
  obtain ⟨r, p3, p4⟩ := p2
  refine ⟨⟨po, p1, r, fun i hi => (p3 i hi).trans (hr i hi), p4⟩, ?_, f1, f3.1, f3.2.1, f3.2.2, ?_⟩
  · have := hg.2.2.2.1
    rwa [zGI_eq gEq5] at this
  · rw [← f3.2.2]
    exact f2
/-- what a run says at the head -/
theorem gHI5 {X : aX} {d : Nat} {v3 v4 e5 : Int} {s4 s5 : Nat} {a4 b4 a5 b5 : Int} {pS : Nat} {ρ ρ0 : Nat → Int} {h0 : aH} (h1 : h0.1 = 230) (h2 : h0.2.1 = 108808) (hp : 3 ≤ pS) (hr : ∀ i, i < 3 → ρ0 i = ρ i) (hs4 : s4 < pS) (hs5 : s5 < pS)
    (ih : ∀ wr M, gS5 h0 wr (a4 + b4 * ρ0 s4) (a5 + b5 * ρ0 s5) M → zW X (11 + d) 105 1 ((aMC 105)[1]?.getD []) [.ref 188, iv (ρ 0), iv (ρ 1), iv wr, iv (a4 + b4 * ρ0 s4)] [] (gH h0.2.2.1 M) (gQ5 ρ h0)) :
    zHI X (gP5 (0, a4, b4, s4) (0, a5, b5, s5)) gG pS h0 ρ0 d 11 105 (gQ5 ρ h0) := by
  intro v hv n σ K E ls ρ1 h1' lsC hg hl hk hkc
  obtain rfl := List.mem_singleton.mp hv
  obtain ⟨f1, f2, f3⟩ := hg.2.2.2.2.1 rfl
  have hKe : zGK (gP5 (0, a4, b4, s4) (0, a5, b5, s5)) (h1'.1, h1'.2.1, []) h1' := by
    rw [zGK_eq gEq5, f3.1, f3.2.1, h1, h2]
    exact f1.1
  obtain ⟨ρ2, hd, -⟩ := zHead_s (r := ρ) (m := 3) gVal5 hKe rfl rfl hp hr hg hl (fun u hu => by cases hu) hk
  obtain ⟨d1, d2, d3, d4, d5, d6, d7, d8, -⟩ := hd
  have d3 : zGl (gP5 (0, a4, b4, s4) (0, a5, b5, s5)) ρ2 6 [(4, (.ofNat 0), (.ofNat 0), 188), (0, (.ofNat 0), (.ofNat 1), 0), (0, (.ofNat 0), (.ofNat 1), 1), (0, (.ofNat 0), (.ofNat 1), 3), (0, (.ofNat 0), (.ofNat 1), 4)] lsC := d3
  obtain ⟨u0, u1, u2, u3, u4, rfl, g0, g1, g2, g3, g4⟩ := gGl5 d3
  obtain rfl := gRefx g0 (Or.inl (by decide))
  obtain ⟨rfl, hx1⟩ := gIntx g1
  obtain ⟨rfl, hx2⟩ := gIntx g2
  obtain ⟨rfl, hx3⟩ := gIntx g3
  obtain ⟨rfl, hx4⟩ := gIntx g4
  obtain ⟨⟨a, b, c, e, rfl⟩, hE⟩ := gKc5_s (n := n) (σ := σ) (K := K) (E := E) hkc
  obtain ⟨w0, w1, w2, w3, w4, hw, -, -, -, -, k4⟩ := gGl5 hl
  have hw4 : w4 = iv (ρ2 4) := by
    injection hw with _ hw; injection hw with _ hw; injection hw with _ hw; injection hw with _ hw; injection hw with hw _
    exact hw.symm
  obtain ⟨x, hy1, hy2⟩ := zG_int k4 (Or.inl rfl)
  rw [hw4] at hy1
  have hy3 : Int32.ofInt (ρ2 4) = x := by injection hy1
  have hy2 := zN0 hy2
  rw [← hy3, hx4, hg.2.2.2.2.2.1 s4 hs4] at hy2
  have hh := hg.2.2.1 _ hE
  have hh : zGp ρ1 n h1' (188 * 128 + 60, 0, 1, (0, a5, b5, s5)) := by
    unfold zGe at hh
    rwa [if_neg (show ¬ ((24124 : Nat) = 11520001) by decide), if_neg (show ¬ ((24124 : Nat) = 11520002) by decide)] at hh
  have hh := zN0 ((gFd d6 (by decide)).mp hh)
  rw [hg.2.2.2.2.2.1 s5 hs5] at hh
  have hdy := zN1 ((gFd d6 (f := 3) (by decide)).mp (d4 _ List.mem_cons_self))
  have b3 : (-1 : Int) ≤ ρ2 3 ∧ ρ2 3 ≤ 1 := d2 0 _ rfl
  have hM : h1' = gH h0.2.2.1 h1'.2.2.2 := by
    rw [gH_of d6.1, f3.2.2]
  have e0 : ρ2 0 = ρ 0 := d1 0 (by decide)
  have e1 : ρ2 1 = ρ 1 := d1 1 (by decide)
  rw [zGI_eq gEq5, hM] at d5
  have := ih (ρ2 3) h1'.2.2.2 ⟨d5, by rw [← hM]; exact d6, d7, hdy, hh, b3.1, b3.2⟩
  rw [← hM, ← hy2, ← e0, ← e1] at this
  obtain ⟨l, hl1⟩ : ∃ l, (aMC 105)[1]? = some l := ⟨_, List.getElem?_eq_getElem (show 1 < (aMC 105).length by decide +kernel)⟩
  refine ⟨l, hl1, ?_⟩
  rw [hl1] at this
  exact this
theorem g105_r {X : aX} {d : Nat} {ρ : Nat → Int} {h0 : aH} (h1 : h0.1 = 230) (h2 : h0.2.1 = 108808) (hk : gKs h0.2.2.1) (hp : 0 ≤ ρ 0 ∧ ρ 0 ≤ 3) (hw : 0 ≤ ρ 1 ∧ ρ 1 ≤ 1) (h60 : 0 ≤ ρ 2 ∧ ρ 2 ≤ 60) {wr i4 led : Int} {M : Nat → Nat → Int32} (st : gS5 h0 wr i4 led M) (c1 : 24 * ρ 0 ≤ i4) (c2 : i4 < 24 * ρ 0 + 24) (c3 : 0 ≤ led) (c4 : led ≤ i4 - 24 * ρ 0) {r : Nat} (c5 : 24 * ρ 0 + 24 - i4 ≤ r + 1)
    (ih : ∀ (wr i4 led : Int) (M : Nat → Nat → Int32), gS5 h0 wr i4 led M → 24 * ρ 0 ≤ i4 → i4 ≤ 24 * ρ 0 + 24 → 0 ≤ led → led ≤ i4 - 24 * ρ 0 → 24 * ρ 0 + 24 - i4 ≤ r → zW X (11 + d) 105 1 [.iload 4, .bipush 24, .iload 1, .imul, .aload 0, .getfield 128812186, .iload 1, .iaload, .iadd, .if_icmp .ge 13] [.ref 188, iv (ρ 0), iv (ρ 1), iv wr, iv i4] [] (gH h0.2.2.1 M) (gQ5 ρ h0)) {l : List aI} (hl : (aMC 105)[5]? = some l) : zW X (11 + d) 105 5 l [.ref 188, iv (ρ 0), iv (ρ 1), iv wr, iv i4] [] (gH h0.2.2.1 M) (gQ5 ρ h0) := by
  obtain ⟨sI, sG, sO, sd, sl, sw1, sw2⟩ := id st
  have run := g105_b
  have e1 : (zBk 105).getD 5 [] = zEnB l := by
    rw [gBk, List.getD_eq_getElem?_getD, List.getElem?_map, hl]
    rfl
  rw [e1] at run
  let ρ' : Nat → Int := fun j => if j < 3 then ρ j else if j = 3 then wr else if j = 4 then i4 else led
  have r0 : ρ' 0 = ρ 0 := rfl
  have r1 : ρ' 1 = ρ 1 := rfl
  have r2 : ρ' 2 = ρ 2 := rfl
  have r3 : ρ' 3 = wr := rfl
  have r4 : ρ' 4 = i4 := rfl
  have r5 : ρ' 5 = led := rfl
  have bs : ∀ (j : Nat) (b : Int × Int), gB5[j]? = some b → b.1 ≤ ρ' j ∧ ρ' j ≤ b.2 := by
    intro j b hj
    have hlt : j < 6 := (List.getElem?_eq_some_iff.mp hj).1
    have e : j = 0 ∨ j = 1 ∨ j = 2 ∨ j = 3 ∨ j = 4 ∨ j = 5 := by omega
    rcases e with e | e | e | e | e | e <;> subst e <;> cases hj
    · exact ⟨by show (0 : Int) ≤ ρ 0; omega, by show ρ 0 ≤ 3; omega⟩
    · exact ⟨by show (0 : Int) ≤ ρ 1; omega, by show ρ 1 ≤ 1; omega⟩
    · exact ⟨by show (0 : Int) ≤ ρ 2; omega, by show ρ 2 ≤ 60; omega⟩
    · exact ⟨by show (-1 : Int) ≤ wr; omega, by show wr ≤ 1; omega⟩
    · exact ⟨by show (0 : Int) ≤ i4; omega, by show i4 ≤ 95; omega⟩
    · exact ⟨by show (0 : Int) ≤ led; omega, by show led ≤ 23; omega⟩
  have hE : ∀ e ∈ gH5.2.2.2.2.1, zGe X ρ' 6 (gH h0.2.2.1 M) e := fun e he => by
    have he : e ∈ [(188 * 128 + 3, 0, 1, (1, .ofNat 0, .ofNat 60, 0)), (188 * 128 + 60, 0, 1, (0, .ofNat 0, .ofNat 1, 5))] := he
    rcases List.mem_cons.mp he with rfl | he
    · exact zGp_e ((gFd sG (by decide)).mpr (znR (w := 0) sd.1 sd.2))
    · obtain rfl := List.mem_singleton.mp he
      refine zGp_e ((gFd sG (by decide)).mpr (Or.inl ⟨rfl, Or.inr (by decide), ?_⟩))
      show (M 188 60).toInt = 0 + 1 * ρ' 5
      omega
  have hg : zGa X (gP5 (0, .ofNat 1, .ofNat 1, 4) (0, .ofNat 1, .ofNat 1, 5)) gG 6 h0 ρ' ρ' 6 (zSig gB5 0) (230, 108808, []) gH5.2.2.2.2.1 (gH h0.2.2.1 M) := ⟨zSig_s (fun j b hj => by
    rw [Nat.zero_add]
    exact ⟨(List.getElem?_eq_some_iff.mp hj).1, bs j b hj⟩), by rw [zGK_eq gEq5]; exact sG.1, hE, by rw [zGI_eq gEq5]; exact sI, fun _ => ⟨sG, sO, h1.symm, h2.symm, rfl⟩, fun _ _ => rfl, Nat.le_refl _⟩
  have hls : zGl (gP5 (0, .ofNat 1, .ofNat 1, 4) (0, .ofNat 1, .ofNat 1, 5)) ρ' 6 gH5.2.2.2.1 [.ref 188, iv (ρ 0), iv (ρ 1), iv wr, iv i4] := by
    have sy : ∀ (j : Nat), j < 6 → -2147483648 ≤ ρ' j → ρ' j ≤ 2147483647 → zG (gP5 (0, .ofNat 1, .ofNat 1, 4) (0, .ofNat 1, .ofNat 1, 5)) ρ' 6 (0, .ofNat 0, .ofNat 1, j) (iv (ρ' j)) := fun j hj a1 a2 => zGi (Or.inl ⟨rfl, Or.inr hj, by show (Int32.ofInt (ρ' j)).toInt = 0 + 1 * ρ' j; rw [iR a1 a2]; omega⟩)
    exact ⟨zGr (Or.inl ⟨by decide, rfl⟩), sy 0 (by decide) (by omega) (by omega), sy 1 (by decide) (by omega) (by omega), sy 3 (by decide) (by omega) (by omega), sy 4 (by decide) (by omega) (by omega), trivial⟩
  have HI := gHI5 (X := X) (d := d) (v3 := 0) (v4 := 0) (e5 := 0) (s4 := 4) (s5 := 5) (a4 := 1) (b4 := 1) (a5 := 1) (b5 := 1) (pS := 6) (ρ := ρ) (ρ0 := ρ') h1 h2 (by decide) (fun i hi => if_pos hi) (by decide) (by decide) (fun wr2 M2 st2 => by
    have hb : (aMC 105)[1]?.getD [] = [.iload 4, .bipush 24, .iload 1, .imul, .aload 0, .getfield 128812186, .iload 1, .iaload, .iadd, .if_icmp .ge 13] := by rw [bk_105_1]; rfl
    rw [hb]
    exact ih wr2 (1 + 1 * ρ' 4) (1 + 1 * ρ' 5) M2 st2 (by omega) (by omega) (by omega) (by omega) (by omega))
  exact zGoX_s gVal5 gHG5 HI (gHF5 h1 h2 (by decide) (fun i hi => if_pos hi)) gCo5 10000000 6 _ _ _ ([], 11, 105, 5) _ _ [] run ρ' (gH h0.2.2.1 M) [] _ _ [] hg trivial ⟨rfl, rfl⟩ rfl hls trivial
theorem g105_l {X : aX} {d : Nat} {ρ : Nat → Int} {h0 : aH} (h1 : h0.1 = 230) (h2 : h0.2.1 = 108808) (hk : gKs h0.2.2.1) (hp : 0 ≤ ρ 0 ∧ ρ 0 ≤ 3) (hw : 0 ≤ ρ 1 ∧ ρ 1 ≤ 1) (h60 : 0 ≤ ρ 2 ∧ ρ 2 ≤ 60) : ∀ (r : Nat), ∀ (wr i4 led : Int) (M : Nat → Nat → Int32), gS5 h0 wr i4 led M → 24 * ρ 0 ≤ i4 → i4 ≤ 24 * ρ 0 + 24 → 0 ≤ led → led ≤ i4 - 24 * ρ 0 → 24 * ρ 0 + 24 - i4 ≤ r → zW X (11 + d) 105 1 [.iload 4, .bipush 24, .iload 1, .imul, .aload 0, .getfield 128812186, .iload 1, .iaload, .iadd, .if_icmp .ge 13] [.ref 188, iv (ρ 0), iv (ρ 1), iv wr, iv i4] [] (gH h0.2.2.1 M) (gQ5 ρ h0) := by
  intro r
  induction r with
  | zero =>
    intro wr i4 led M hS c1 c2 c3 c4 c5
    obtain ⟨sI, sG, sO, sd, sl, sw1, sw2⟩ := id hS
    have b213 : (0 : Int) ≤ (M 213 (ρ 0).toNat).toInt ∧ (M 213 (ρ 0).toNat).toInt ≤ 24 := gBa sG sI (by decide) (Or.inl (by decide +kernel)) (l := 5) (by decide +kernel) (by omega) (by decide +kernel)
    refine wP (ls' := [.ref 188, iv (ρ 0), iv (ρ 1), iv wr, iv i4]) (st' := [iv i4]) rfl rfl ?_
    refine wP (ls' := [.ref 188, iv (ρ 0), iv (ρ 1), iv wr, iv i4]) (st' := [iv 24, iv i4]) rfl rfl ?_
    refine wP (ls' := [.ref 188, iv (ρ 0), iv (ρ 1), iv wr, iv i4]) (st' := [iv (ρ 0), iv 24, iv i4]) rfl rfl ?_
    refine wMul ?_
    refine wP (ls' := [.ref 188, iv (ρ 0), iv (ρ 1), iv wr, iv i4]) (st' := [.ref 188, iv (24 * (ρ 0)), iv i4]) rfl rfl ?_
    refine wGetR hk (r := 213) (by decide +kernel) ?_
    refine wP (ls' := [.ref 188, iv (ρ 0), iv (ρ 1), iv wr, iv i4]) (st' := [iv (ρ 0), .ref 213, iv (24 * (ρ 0)), iv i4]) rfl rfl ?_
    refine wIld hk (l := 5) (e := (M 213 ((ρ 0)).toNat).toInt) (by decide +kernel) (by omega) (by omega) (iE _) ?_
    refine wAdd ?_
    refine wIfc (n1 := 13) rfl bk_105_13 bk_105_2 (by omega) (by first | exact iG _ | omega) (fun g0 => ?_) (fun g0 => ?_)
    · replace g0 : (((24 * (ρ 0)) + (M 213 ((ρ 0)).toNat).toInt) : Int) ≤ i4 := g0
      refine wRet0 (by decide +kernel) ⟨⟨_, List.mem_singleton.mpr rfl, ρ, fun _ _ => rfl, fun i b h => (by cases h), fun e he => (by cases he), trivial, fun e he => ?_⟩, sI, sG, h1.symm, h2.symm, rfl, sO⟩
      have he : e = (188 * 128 + 3, 0, 1, (1, .ofNat 0, .ofNat 60, 0)) := List.mem_singleton.mp he
      subst he
      exact (gFd sG (by decide)).mpr (znR (w := 0) sd.1 sd.2)
    · replace g0 : ¬ ((((24 * (ρ 0)) + (M 213 ((ρ 0)).toNat).toInt) : Int) ≤ i4) := g0
      refine wP (ls' := [.ref 188, iv (ρ 0), iv (ρ 1), iv wr, iv i4]) (st' := [.ref 188]) rfl rfl ?_
      refine wGetR hk (r := 214) (by decide +kernel) ?_
      refine wP (ls' := [.ref 188, iv (ρ 0), iv (ρ 1), iv wr, iv i4]) (st' := [iv i4, .ref 214]) rfl rfl ?_
      refine wIld hk (l := 120) (e := (M 214 (i4).toNat).toInt) (by decide +kernel) (by omega) (by omega) (iE _) ?_
      refine wP (ls' := [.ref 188, iv (ρ 0), iv (ρ 1), iv wr, iv i4]) (st' := [iv 10, iv (M 214 (i4).toNat).toInt]) rfl rfl ?_
      refine wIfc (n1 := 5) rfl bk_105_5 bk_105_3 (by first | exact iG _ | omega) (by omega) (fun g1 => ?_) (fun g1 => ?_)
      · replace g1 : ¬ ((M 214 (i4).toNat).toInt : Int) = 10 := g1
        exfalso
        omega
      · replace g1 : ¬ (¬ ((M 214 (i4).toNat).toInt : Int) = 10) := g1
        refine wP (ls' := [.ref 188, iv (ρ 0), iv (ρ 1), iv wr, iv i4]) (st' := [iv (ρ 1)]) rfl rfl ?_
        refine wIf0 (n1 := 12) rfl bk_105_12 bk_105_4 (by omega) (fun g2 => ?_) (fun g2 => ?_)
        · replace g2 : ((ρ 1) : Int) = 0 := g2
          refine wInc (ls' := [.ref 188, iv (ρ 0), iv (ρ 1), iv wr, iv (i4 + 1)]) rfl rfl ?_
          refine wGoto (n1 := 1) rfl bk_105_1 ?_
          exfalso
          omega
        · replace g2 : ¬ (((ρ 1) : Int) = 0) := g2
          refine wP (ls' := [.ref 188, iv (ρ 0), iv (ρ 1), iv wr, iv i4]) (st' := [.ref 188]) rfl rfl ?_
          refine wGetR hk (r := 215) (by decide +kernel) ?_
          refine wP (ls' := [.ref 188, iv (ρ 0), iv (ρ 1), iv wr, iv i4]) (st' := [iv i4, .ref 215]) rfl rfl ?_
          refine wIld hk (l := 120) (e := (M 215 (i4).toNat).toInt) (by decide +kernel) (by omega) (by omega) (iE _) ?_
          refine wP (ls' := [.ref 188, iv (ρ 0), iv (ρ 1), iv (M 215 (i4).toNat).toInt, iv i4]) (st' := []) rfl rfl ?_
          refine wGoto (n1 := 12) rfl bk_105_12 ?_
          refine wInc (ls' := [.ref 188, iv (ρ 0), iv (ρ 1), iv (M 215 (i4).toNat).toInt, iv (i4 + 1)]) rfl rfl ?_
          refine wGoto (n1 := 1) rfl bk_105_1 ?_
          exfalso
          omega
  | succ r ih =>
    intro wr i4 led M hS c1 c2 c3 c4 c5
    obtain ⟨sI, sG, sO, sd, sl, sw1, sw2⟩ := id hS
    have b213 : (0 : Int) ≤ (M 213 (ρ 0).toNat).toInt ∧ (M 213 (ρ 0).toNat).toInt ≤ 24 := gBa sG sI (by decide) (Or.inl (by decide +kernel)) (l := 5) (by decide +kernel) (by omega) (by decide +kernel)
    refine wP (ls' := [.ref 188, iv (ρ 0), iv (ρ 1), iv wr, iv i4]) (st' := [iv i4]) rfl rfl ?_
    refine wP (ls' := [.ref 188, iv (ρ 0), iv (ρ 1), iv wr, iv i4]) (st' := [iv 24, iv i4]) rfl rfl ?_
    refine wP (ls' := [.ref 188, iv (ρ 0), iv (ρ 1), iv wr, iv i4]) (st' := [iv (ρ 0), iv 24, iv i4]) rfl rfl ?_
    refine wMul ?_
    refine wP (ls' := [.ref 188, iv (ρ 0), iv (ρ 1), iv wr, iv i4]) (st' := [.ref 188, iv (24 * (ρ 0)), iv i4]) rfl rfl ?_
    refine wGetR hk (r := 213) (by decide +kernel) ?_
    refine wP (ls' := [.ref 188, iv (ρ 0), iv (ρ 1), iv wr, iv i4]) (st' := [iv (ρ 0), .ref 213, iv (24 * (ρ 0)), iv i4]) rfl rfl ?_
    refine wIld hk (l := 5) (e := (M 213 ((ρ 0)).toNat).toInt) (by decide +kernel) (by omega) (by omega) (iE _) ?_
    refine wAdd ?_
    refine wIfc (n1 := 13) rfl bk_105_13 bk_105_2 (by omega) (by first | exact iG _ | omega) (fun g0 => ?_) (fun g0 => ?_)
    · replace g0 : (((24 * (ρ 0)) + (M 213 ((ρ 0)).toNat).toInt) : Int) ≤ i4 := g0
      refine wRet0 (by decide +kernel) ⟨⟨_, List.mem_singleton.mpr rfl, ρ, fun _ _ => rfl, fun i b h => (by cases h), fun e he => (by cases he), trivial, fun e he => ?_⟩, sI, sG, h1.symm, h2.symm, rfl, sO⟩
      have he : e = (188 * 128 + 3, 0, 1, (1, .ofNat 0, .ofNat 60, 0)) := List.mem_singleton.mp he
      subst he
      exact (gFd sG (by decide)).mpr (znR (w := 0) sd.1 sd.2)
    · replace g0 : ¬ ((((24 * (ρ 0)) + (M 213 ((ρ 0)).toNat).toInt) : Int) ≤ i4) := g0
      refine wP (ls' := [.ref 188, iv (ρ 0), iv (ρ 1), iv wr, iv i4]) (st' := [.ref 188]) rfl rfl ?_
      refine wGetR hk (r := 214) (by decide +kernel) ?_
      refine wP (ls' := [.ref 188, iv (ρ 0), iv (ρ 1), iv wr, iv i4]) (st' := [iv i4, .ref 214]) rfl rfl ?_
      refine wIld hk (l := 120) (e := (M 214 (i4).toNat).toInt) (by decide +kernel) (by omega) (by omega) (iE _) ?_
      refine wP (ls' := [.ref 188, iv (ρ 0), iv (ρ 1), iv wr, iv i4]) (st' := [iv 10, iv (M 214 (i4).toNat).toInt]) rfl rfl ?_
      refine wIfc (n1 := 5) rfl bk_105_5 bk_105_3 (by first | exact iG _ | omega) (by omega) (fun g1 => ?_) (fun g1 => ?_)
      · replace g1 : ¬ ((M 214 (i4).toNat).toInt : Int) = 10 := g1
        exact g105_r h1 h2 hk hp hw h60 hS c1 (by omega) c3 c4 (by omega) ih bk_105_5
      · replace g1 : ¬ (¬ ((M 214 (i4).toNat).toInt : Int) = 10) := g1
        refine wP (ls' := [.ref 188, iv (ρ 0), iv (ρ 1), iv wr, iv i4]) (st' := [iv (ρ 1)]) rfl rfl ?_
        refine wIf0 (n1 := 12) rfl bk_105_12 bk_105_4 (by omega) (fun g2 => ?_) (fun g2 => ?_)
        · replace g2 : ((ρ 1) : Int) = 0 := g2
          refine wInc (ls' := [.ref 188, iv (ρ 0), iv (ρ 1), iv wr, iv (i4 + 1)]) rfl rfl ?_
          refine wGoto (n1 := 1) rfl bk_105_1 ?_
          exact ih wr (i4 + 1) led M ⟨sI, sG, sO, sd, sl, sw1, sw2⟩ (by omega) (by omega) c3 (by omega) (by omega)
        · replace g2 : ¬ (((ρ 1) : Int) = 0) := g2
          refine wP (ls' := [.ref 188, iv (ρ 0), iv (ρ 1), iv wr, iv i4]) (st' := [.ref 188]) rfl rfl ?_
          refine wGetR hk (r := 215) (by decide +kernel) ?_
          refine wP (ls' := [.ref 188, iv (ρ 0), iv (ρ 1), iv wr, iv i4]) (st' := [iv i4, .ref 215]) rfl rfl ?_
          refine wIld hk (l := 120) (e := (M 215 (i4).toNat).toInt) (by decide +kernel) (by omega) (by omega) (iE _) ?_
          refine wP (ls' := [.ref 188, iv (ρ 0), iv (ρ 1), iv (M 215 (i4).toNat).toInt, iv i4]) (st' := []) rfl rfl ?_
          refine wGoto (n1 := 12) rfl bk_105_12 ?_
          refine wInc (ls' := [.ref 188, iv (ρ 0), iv (ρ 1), iv (M 215 (i4).toNat).toInt, iv (i4 + 1)]) rfl rfl ?_
          refine wGoto (n1 := 1) rfl bk_105_1 ?_
          have w10 : M 214 i4.toNat = 10 := Int32.toInt_inj.mp (by have y : (10 : Int32).toInt = 10 := rfl; omega)
          have wb : (0 : Int) ≤ (M 215 i4.toNat).toInt ∧ (M 215 i4.toNat).toInt ≤ 1 := sG.2.2.2.1 i4.toNat (by omega) w10
          exact ih (M 215 (i4).toNat).toInt (i4 + 1) led M ⟨sI, sG, sO, sd, sl, by omega, by omega⟩ (by omega) (by omega) c3 (by omega) (by omega)
theorem gh_105_0_ok {X : aX} : zCk X (gP []) gG 105 gh_105_0 := by
  intro d ρ as h hd hb hargs hents hK hI hG
  obtain ⟨kk, rfl⟩ : ∃ kk, d = 11 + kk + 1 := ⟨d - 12, by have hd : 12 ≤ d := hd; omega⟩
  have n1 : h.1 = 230 := hG.1.1
  have n2 : h.2.1 = 108808 := hG.1.2.1
  have ha : (zAll (fun v => Nat.ble v.1 4) gh_105_0.2.2.2.1 && Nat.ble (zFl gh_105_0.2.2.2.1).length (aML 105)) = true := by decide +kernel
  obtain ⟨ha1, ha2⟩ := zAnd ha
  have ha2 := zbl ha2
  obtain ⟨fl1, fl2⟩ := zFl_s hargs ha1
  have p0 : (0 : Int) ≤ ρ 0 ∧ ρ 0 ≤ 3 := hb 0 _ rfl
  have p1 : (0 : Int) ≤ ρ 1 ∧ ρ 1 ≤ 1 := hb 1 _ rfl
  have p2 : (0 : Int) ≤ ρ 2 ∧ ρ 2 ≤ 60 := hb 2 _ rfl
  have hb2 : 0 < (aMC 105).length := by decide +kernel
  have e1 : (aMC 105)[0]? = some ((aMC 105)[0]) := List.getElem?_eq_getElem hb2
  have run := g105_a
  have e2 : (zBk 105).getD 0 [] = zEnB ((aMC 105)[0]) := by
    rw [gBk, List.getD_eq_getElem?_getD, List.getElem?_map, e1]
    rfl
  rw [e2] at run
  have hg : zGa X (gP5 (0, .ofNat 0, .ofNat 24, 0) (0, .ofNat 0, .ofNat 0, 0)) gG 3 h ρ ρ 3 (zSig gh_105_0.2.1 0) (230, 108808, []) gh_105_0.2.2.2.2.1 h := ⟨zSig_s (fun j b hj => by
    rw [Nat.zero_add]
    exact ⟨(List.getElem?_eq_some_iff.mp hj).1, hb j b hj⟩), by rw [zGK_eq gEq5]; exact hG.1, fun e he => zGp_e (hents e he), by rw [zGI_eq gEq5]; exact hI, fun _ => ⟨hG, fun a => ⟨fun _ _ _ _ => rfl, fun _ _ => rfl⟩, rfl, rfl, rfl⟩, fun _ _ => rfl, Nat.le_refl _⟩
  have hent : zGl (gP5 (0, .ofNat 0, .ofNat 24, 0) (0, .ofNat 0, .ofNat 0, 0)) ρ 3 (zEnt gh_105_0.2.2.2.1 (aML 105)) (aEn as (aML 105)) := by
    rw [zGl_eq gEq5]
    unfold zEnt aEn
    rw [zGl_len fl1]
    exact zGl_app fl1 zGl_rep
  have HI := gHI5 (X := X) (d := kk) (v3 := 0) (v4 := 0) (e5 := 0) (s4 := 0) (s5 := 0) (a4 := 0) (b4 := 24) (a5 := 0) (b5 := 0) (pS := 3) (ρ := ρ) (ρ0 := ρ) (h0 := h) n1 n2 (by decide) (fun _ _ => rfl) (by decide) (by decide) (fun wr2 M2 st2 => by
    have hb : (aMC 105)[1]?.getD [] = [.iload 4, .bipush 24, .iload 1, .imul, .aload 0, .getfield 128812186, .iload 1, .iaload, .iadd, .if_icmp .ge 13] := by rw [bk_105_1]; rfl
    rw [hb]
    exact g105_l n1 n2 (gKs_of hG.1) p0 p1 p2 24 wr2 _ _ M2 st2 (by omega) (by omega) (by omega) (by omega) (by omega))
  have := zGoX_s gVal5 gHG5 HI (gHF5 (ρ := ρ) n1 n2 (by decide) (fun _ _ => rfl)) gCo5 10000000 3 _ _ _ ([], 11, 105, 0) _ _ [] run ρ h [] _ (aEn as (aML 105)) [] hg trivial ⟨rfl, rfl⟩ rfl hent trivial
  exact zRn_of ⟨by rw [← zGl_len fl1]; exact ha2, fl2⟩ e1 this

