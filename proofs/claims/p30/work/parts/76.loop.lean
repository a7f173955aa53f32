/-! the law's loop, by hand -/
theorem gLen : (aMC 241).length = 53 := by decide +kernel
theorem gLb1 : (aMC 241)[1]? = some [.iload 3, .aload 0, .arraylength, .bipush 6, .isub, .if_icmp .gt 52] := by decide +kernel
theorem gLb2 : (aMC 241)[2]? = some [.aload 0, .iload 3, .iaload, .bipush 31, .iand, .tableswitch 51 0 28 #[3, 4, 5, 12, 13, 14, 15, 16, 17, 18, 19, 20, 21, 22, 23, 24, 25, 32, 33, 34, 35, 36, 37, 38, 39, 40, 41, 42, 49]] := by decide +kernel
theorem gLbE : (aMC 241)[52]? = some [.bipush 1, .ireturn] := by decide +kernel
theorem gRT : aRT 241 = 2 := by decide +kernel
def gQ (rv : Option Value) (h' : aH) : Prop := (rv = some (.int 1) ∨ rv = some (.int 0)) ∧ h'.1 ≤ 600000 ∧ h'.2.1 ≤ 7302250
theorem gQ_of {h : aH} (hG : gG h) : gQ (some (.int 1)) h := by
  have h1 : h.1 = 230 := hG.1.1
  have h2 : h.2.1 = 108808 := hG.1.2.1
  exact ⟨Or.inl rfl, by rw [h1]; decide, by rw [h2]; decide⟩
theorem gQ_0 {h : aH} (hG : gG h) : gQ (some (.int 0)) h := by
  obtain ⟨_, h1, h2⟩ := gQ_of hG
  exact ⟨Or.inr rfl, h1, h2⟩
theorem gFin_s {n : Nat} {σ : zS} {K : zK} {E : List zE} {rv : List zV} (h : gFin n σ K E rv = true) : rv = [(0, .ofNat 0, .ofNat 0, 0)] := by
  unfold gFin at h
  split at h
  · rename_i v
    obtain ⟨h1, h⟩ := zAnd h
    obtain ⟨h2, h⟩ := zAnd h
    obtain ⟨h3, h4⟩ := zAnd h
    obtain ⟨v1, v2, v3, v4⟩ := v
    have k1 : v1 = 0 := zbe h1
    have k4 : v4 = 0 := zbe h4
    have k2 : v2 = .ofNat 0 := zeq_iff.mp h2
    have k3 : v3 = .ofNat 0 := zeq_iff.mp h3
    rw [k1, k2, k3, k4]
  · cases h
theorem zNc1 {ρ : Nat → Int} {n : Nat} {x : Int} (h : zN ρ n 0 (0, .ofNat 0, .ofNat 0, 0) x) : x = 0 := by
  rcases h with ⟨_, _, q⟩ | ⟨q, _⟩
  · have q : x = 0 + 0 * ρ 0 := q
    omega
  · cases q
theorem gEnd {X : aX} {ls : List Value} {h : aH} (hq : gQ (some (.int 1)) h) : zW X 60 241 52 [.bipush 1, .ireturn] ls [] h gQ := by
  refine zW_step (ls' := ls) (st' := [.int 1]) (h' := h) (by decide) (fun cal => rfl) ?_
  refine zW_ret (rv := some (.int 1)) (by decide) ?_ hq
  rw [gRT]
  rfl
theorem gGl4 {P : zP} {ρ : Nat → Int} {n : Nat} {a b c d : zV} {us : List Value} (h : zGl P ρ n [a, b, c, d] us) : ∃ u0 u1 u2 u3, us = [u0, u1, u2, u3] ∧ zG P ρ n a u0 ∧ zG P ρ n b u1 ∧ zG P ρ n c u2 ∧ zG P ρ n d u3 := by
  obtain ⟨u0, q0, rfl, g0, h⟩ := zGl_cons h
  obtain ⟨u1, q1, rfl, g1, h⟩ := zGl_cons h
  obtain ⟨u2, q2, rfl, g2, h⟩ := zGl_cons h
  obtain ⟨u3, q3, rfl, g3, h⟩ := zGl_cons h
  rw [zGl_nil h]
  exact ⟨u0, u1, u2, u3, rfl, g0, g1, g2, g3⟩
theorem gI32 {x : Int32} {c : Int} (h : x.toInt = c) (y : Int32) (hy : y.toInt = c) : x = y := Int32.toInt_inj.mp (h.trans hy.symm)
theorem gEq : zEqv gLP (gP []) := ⟨rfl, rfl, rfl⟩
theorem gVal : zVal gLP := ⟨(gB []).1, (gB []).2.1, (gB []).2.2.1, fun _ h => h, fun al => (by cases al), (gB []).2.2.2⟩
theorem gHG : zHG gLP gG := fun h M' _ _ k g => gG_keep (L := []) k g
theorem gCo {X : aX} : ∀ q c, c ∈ gLP.con q → zCk X gLP gG q c := by
  intro q c hc
  rw [zCk_eq gEq]
  obtain ⟨p, h1, h2, h3⟩ := gAs_in (L := gLwL) hc
  subst h2
  exact gLwL_ok p h1 c h3
theorem gHF {X : aX} {pS : Nat} {h0 : aH} {ρ0 : Nat → Int} : zHF X gLP gG pS h0 ρ0 gQ := by
  intro n σ K E rv ρ h rvC hk hg hl
  have er : rv = [(0, .ofNat 0, .ofNat 0, 0)] := gFin_s (n := n) (σ := σ) (K := K) (E := E) hk
  rw [er] at hl
  obtain ⟨u, q, e1, g0, hl⟩ := zGl_cons hl
  obtain ⟨x, e2, hx⟩ := zG_int g0 (Or.inl rfl)
  have hx := zNc1 hx
  have eq := zGl_nil hl
  have ex : x = 0 := by
    apply Int32.toInt_inj.mp
    rw [hx]
    rfl
  cases rvC with
  | none => cases e1
  | some w =>
    have e3 : [w] = u :: q := e1
    injection e3 with e4 _
    rw [e4, e2, ex]
    exact gQ_0 (hg.2.2.2.2.1 rfl).1
theorem gKc_s {n : Nat} {σ : zS} {K : zK} {E : List zE} {ls : List zV} (h : gKc n σ K E ls = true) : ∃ a b c, ls = [a, b, c, (0, .ofNat 6, .ofNat 1, 0)] := by
  unfold gKc at h
  split at h
  · rename_i a b c v
    obtain ⟨h1, h⟩ := zAnd h
    obtain ⟨h2, h⟩ := zAnd h
    obtain ⟨h3, h4⟩ := zAnd h
    obtain ⟨v1, v2, v3, v4⟩ := v
    have k1 : v1 = 0 := zbe h1
    have k4 : v4 = 0 := zbe h4
    have k2 : v2 = .ofNat 6 := zeq_iff.mp h2
    have k3 : v3 = .ofNat 1 := zeq_iff.mp h3
    rw [k1, k2, k3, k4]
    exact ⟨a, b, c, rfl⟩
  · cases h
/-- what holds at the loop's head -/
def gHs (ρ : Nat → Int) (i : Int) (h : aH) : Prop := ρ 0 = i ∧ (∀ (j : Nat) (b : Int × Int), gLSg[j]? = some b → b.1 ≤ ρ j ∧ ρ j ≤ b.2) ∧ (∀ e ∈ gEI, zGp ρ 10 h e) ∧ zGI (gP []) h ∧ gG h
theorem gStep {L : Nat} {xs : Nat → Int32} {ρ : Nat → Int} {h : aH} {i : Int} {b : Nat} {bs : List (Int × Int)} (st : gHs ρ i h) (hi : i + 6 ≤ L) (h0 : 0 ≤ i) (hL : L ≤ 3072) (run : zGoX gLP 10000000 10 (zSig bs 0) (230, 108808, []) (gSc :: gEI) ([], 60, 241, b) ((zBk 241).getD b []) [(4, (.ofNat 0), (.ofNat 0), 90000), (4, (.ofNat 0), (.ofNat 0), 0), (4, (.ofNat 0), (.ofNat 0), 188), (0, (.ofNat 0), (.ofNat 1), 0)] [] = true)
    (hbs : ∀ (j : Nat) (c : Int × Int), bs[j]? = some c → c.1 ≤ ρ j ∧ ρ j ≤ c.2) (hlen : bs.length = 10) (hb : b < 53) (ih : ∀ ρ' h', gHs ρ' (i + 6) h' → zW (L, xs) 60 241 1 [.iload 3, .aload 0, .arraylength, .bipush 6, .isub, .if_icmp .gt 52] [.ref 90000, .ref 0, .ref 188, iv (i + 6)] [] h' gQ) :
    ∃ l, (aMC 241)[b]? = some l ∧ zW (L, xs) 60 241 b l [.ref 90000, .ref 0, .ref 188, iv i] [] h gQ := by
  obtain ⟨r0, rb, rE, rI, rG⟩ := st
  have hb2 : b < (aMC 241).length := by rw [gLen]; exact hb
  refine ⟨(aMC 241)[b], List.getElem?_eq_getElem hb2, ?_⟩
  have e1 : (zBk 241).getD b [] = zEnB ((aMC 241)[b]) := by
    rw [gBk, List.getD_eq_getElem?_getD, List.getElem?_map, List.getElem?_eq_getElem hb2]
    rfl
  rw [e1] at run
  have hE : ∀ e ∈ gSc :: gEI, zGe (L, xs) ρ 10 h e := fun e he => by
    rcases List.mem_cons.mp he with rfl | he
    · unfold zGe gSc
      rw [if_neg (by decide), if_pos rfl]
      refine ⟨by decide, fun _ _ => ?_⟩
      show ρ 0 + 6 ≤ (L : Int)
      omega
    · exact zGp_e (rE e he)
  have hg : zGa (L, xs) gLP gG 1 h ρ ρ 10 (zSig bs 0) (230, 108808, []) (gSc :: gEI) h := ⟨zSig_s (fun j c hj => by
    rw [Nat.zero_add]
    exact ⟨by have := (List.getElem?_eq_some_iff.mp hj).1; omega, hbs j c hj⟩), by rw [zGK_eq gEq]; exact rG.1, hE, by rw [zGI_eq gEq]; exact rI, fun _ => ⟨rG, fun a => ⟨fun _ _ _ _ => rfl, fun _ _ => rfl⟩, rfl, rfl, rfl⟩, fun _ _ => rfl, by decide⟩
  have hl : zGl gLP ρ 10 [(4, (.ofNat 0), (.ofNat 0), 90000), (4, (.ofNat 0), (.ofNat 0), 0), (4, (.ofNat 0), (.ofNat 0), 188), (0, (.ofNat 0), (.ofNat 1), 0)] [.ref 90000, .ref 0, .ref 188, iv i] :=
    ⟨zGr (Or.inr (Or.inr ⟨by decide, rfl⟩)), zGr (Or.inl ⟨by decide, rfl⟩), zGr (Or.inl ⟨by decide, rfl⟩), zGi (Or.inl ⟨rfl, Or.inr (by decide), by show (Int32.ofInt i).toInt = 0 + 1 * ρ 0; rw [iR (by omega) (by omega)]; omega⟩), trivial⟩
  have HI : zHI (L, xs) gLP gG 1 h ρ 0 60 241 gQ := by
    intro v hv n σ K E ls ρ1 h1 lsC hg1 hl1 hk hkc
    obtain rfl := List.mem_singleton.mp hv
    have hG1 : gG h1 := (hg1.2.2.2.2.1 rfl).1
    have hKe : zGK gLP (h1.1, h1.2.1, []) h1 := by
      rw [zGK_eq gEq]
      have e1 : h1.1 = 230 := hG1.1.1
      have e2 : h1.2.1 = 108808 := hG1.1.2.1
      rw [e1, e2]
      exact hG1.1
    obtain ⟨ρ2, hd, -⟩ := zHead_s (r := ρ) (m := 0) gVal hKe rfl rfl (Nat.zero_le _) (fun i hi => absurd hi (Nat.not_lt_zero i)) hg1 hl1 (fun u hu => by cases hu) hk
    obtain ⟨-, d2, d3, d4, d5, d6, -, -, -⟩ := hd
    have d3 : zGl gLP ρ2 10 [(4, (.ofNat 0), (.ofNat 0), 90000), (4, (.ofNat 0), (.ofNat 0), 0), (4, (.ofNat 0), (.ofNat 0), 188), (0, (.ofNat 0), (.ofNat 1), 0)] lsC := d3
    obtain ⟨u0, u1, u2, u3, rfl, g0, g1, g2, g3⟩ := gGl4 d3
    obtain rfl := gRefx g0 (Or.inr (by decide))
    obtain rfl := gRefx g1 (Or.inl (by decide))
    obtain rfl := gRefx g2 (Or.inl (by decide))
    obtain ⟨rfl, hx⟩ := gIntx g3
    obtain ⟨a, b', c, rfl⟩ := gKc_s (n := n) (σ := σ) (K := K) (E := E) hkc
    obtain ⟨w0, w1, w2, w3, hw, -, -, -, k3⟩ := gGl4 hl1
    have hw3 : w3 = iv (ρ2 0) := by
      injection hw with _ hw; injection hw with _ hw; injection hw with _ hw; injection hw with hw _
      exact hw.symm
    obtain ⟨x, hx1, hx2⟩ := zG_int k3 (Or.inl rfl)
    rw [hw3] at hx1
    have hx3 : Int32.ofInt (ρ2 0) = x := by injection hx1
    have e6 : ρ2 0 = i + 6 := by
      rcases hx2 with ⟨_, _, q⟩ | ⟨q, _⟩
      · have q : x.toInt = 6 + 1 * ρ1 0 := q
        have e0 : ρ1 0 = ρ 0 := hg1.2.2.2.2.2.1 0 (by decide)
        rw [← hx3, hx] at q
        omega
      · cases q
    refine ⟨_, gLb1, ?_⟩
    rw [e6]
    exact ih ρ2 h1 ⟨e6, fun j c hj => by have := d2 j c hj; rwa [Nat.zero_add] at this, d4, by rw [← zGI_eq gEq]; exact d5, d6⟩
  exact zGoX_s gVal gHG HI gHF gCo 10000000 10 _ _ _ ([], 60, 241, b) _ _ [] run ρ h [] _ _ [] hg trivial ⟨rfl, rfl⟩ rfl hl trivial
theorem gBs_ok {L : Nat} {ρ : Nat → Int} {h : aH} {i : Int} (st : gHs ρ i h) (hi : i + 6 ≤ L) (hL : L ≤ 3072) : ∀ (j : Nat) (c : Int × Int), gLBs[j]? = some c → c.1 ≤ ρ j ∧ ρ j ≤ c.2 := by
  intro j c hj
  have hlt : j < 10 := (List.getElem?_eq_some_iff.mp hj).1
  have k := st.2.1
  by_cases q : j = 0
  · subst q
    cases hj
    have := k 0 _ rfl
    have e := st.1
    exact ⟨this.1, by show ρ 0 ≤ 3066; omega⟩
  · refine k j c ?_
    rw [← hj]
    have e : ∀ j, j < 10 → j ≠ 0 → gLSg[j]? = gLBs[j]? := by decide
    exact e j hlt q
theorem gDo {L : Nat} {xs : Nat → Int32} {ρ : Nat → Int} {h : aH} {i : Int} (st : gHs ρ i h) (hi : i + 6 ≤ L) (h0 : 0 ≤ i) (hL : L ≤ 3072) (ih : ∀ ρ' h', gHs ρ' (i + 6) h' → zW (L, xs) 60 241 1 [.iload 3, .aload 0, .arraylength, .bipush 6, .isub, .if_icmp .gt 52] [.ref 90000, .ref 0, .ref 188, iv (i + 6)] [] h' gQ) {w : Int32} (h1 : 0 ≤ w.toInt) (h2 : w.toInt ≤ 31) {is : List aI} :
    zW (L, xs) 60 241 2 (.tableswitch 51 0 28 #[3, 4, 5, 12, 13, 14, 15, 16, 17, 18, 19, 20, 21, 22, 23, 24, 25, 32, 33, 34, 35, 36, 37, 38, 39, 40, 41, 42, 49] :: is) [.ref 90000, .ref 0, .ref 188, iv i] [.int w] h gQ := by
  have key : ∀ {b : Nat}, (∃ l, (aMC 241)[b]? = some l ∧ zW (L, xs) 60 241 b l [.ref 90000, .ref 0, .ref 188, iv i] [] h gQ) → aT (aRT 241) 2 (.tableswitch 51 0 28 #[3, 4, 5, 12, 13, 14, 15, 16, 17, 18, 19, 20, 21, 22, 23, 24, 25, 32, 33, 34, 35, 36, 37, 38, 39, 40, 41, 42, 49]) [.ref 90000, .ref 0, .ref 188, iv i] [.int w] h = some (.inl (b, [.ref 90000, .ref 0, .ref 188, iv i], [], h)) → zW (L, xs) 60 241 2 (.tableswitch 51 0 28 #[3, 4, 5, 12, 13, 14, 15, 16, 17, 18, 19, 20, 21, 22, 23, 24, 25, 32, 33, 34, 35, 36, 37, 38, 39, 40, 41, 42, 49] :: is) [.ref 90000, .ref 0, .ref 188, iv i] [.int w] h gQ := by
    intro b k hT
    obtain ⟨l, k1, k2⟩ := k
    exact zW_jump (by decide) hT k1 k2
  have e : w.toInt = 0 ∨ w.toInt = 1 ∨ w.toInt = 2 ∨ w.toInt = 3 ∨ w.toInt = 4 ∨ w.toInt = 5 ∨ w.toInt = 6 ∨ w.toInt = 7 ∨ w.toInt = 8 ∨ w.toInt = 9 ∨ w.toInt = 10 ∨ w.toInt = 11 ∨ w.toInt = 12 ∨ w.toInt = 13 ∨ w.toInt = 14 ∨ w.toInt = 15 ∨ w.toInt = 16 ∨ w.toInt = 17 ∨ w.toInt = 18 ∨ w.toInt = 19 ∨ w.toInt = 20 ∨ w.toInt = 21 ∨ w.toInt = 22 ∨ w.toInt = 23 ∨ w.toInt = 24 ∨ w.toInt = 25 ∨ w.toInt = 26 ∨ w.toInt = 27 ∨ w.toInt = 28 ∨ w.toInt = 29 ∨ w.toInt = 30 ∨ w.toInt = 31 := by omega
  rcases e with e | e | e | e | e | e | e | e | e | e | e | e | e | e | e | e | e | e | e | e | e | e | e | e | e | e | e | e | e | e | e | e
  · obtain rfl := gI32 e 0 rfl
    exact key (b := 3) (gStep st hi h0 hL gR_0 (gBs_ok st hi hL) rfl (by decide) ih) rfl
  · obtain rfl := gI32 e 1 rfl
    exact key (b := 4) (gStep st hi h0 hL gR_1 (gBs_ok st hi hL) rfl (by decide) ih) rfl
  · obtain rfl := gI32 e 2 rfl
    exact key (b := 5) (gStep st hi h0 hL gR_2 (gBs_ok st hi hL) rfl (by decide) ih) rfl
  · obtain rfl := gI32 e 3 rfl
    exact key (b := 12) (gStep st hi h0 hL gR_3 (gBs_ok st hi hL) rfl (by decide) ih) rfl
  · obtain rfl := gI32 e 4 rfl
    exact key (b := 13) (gStep st hi h0 hL gR_4 (gBs_ok st hi hL) rfl (by decide) ih) rfl
  · obtain rfl := gI32 e 5 rfl
    exact key (b := 14) (gStep st hi h0 hL gR_5 (gBs_ok st hi hL) rfl (by decide) ih) rfl
  · obtain rfl := gI32 e 6 rfl
    exact key (b := 15) (gStep st hi h0 hL gR_6 (gBs_ok st hi hL) rfl (by decide) ih) rfl
  · obtain rfl := gI32 e 7 rfl
    exact key (b := 16) (gStep st hi h0 hL gR_7 (gBs_ok st hi hL) rfl (by decide) ih) rfl
  · obtain rfl := gI32 e 8 rfl
    exact key (b := 17) (gStep st hi h0 hL gR_8 (gBs_ok st hi hL) rfl (by decide) ih) rfl
  · obtain rfl := gI32 e 9 rfl
    exact key (b := 18) (gStep st hi h0 hL gR_9 (gBs_ok st hi hL) rfl (by decide) ih) rfl
  · obtain rfl := gI32 e 10 rfl
    exact key (b := 19) (gStep st hi h0 hL gR_10 (gBs_ok st hi hL) rfl (by decide) ih) rfl
  · obtain rfl := gI32 e 11 rfl
    exact key (b := 20) (gStep st hi h0 hL gR_11 (gBs_ok st hi hL) rfl (by decide) ih) rfl
  · obtain rfl := gI32 e 12 rfl
    exact key (b := 21) (gStep st hi h0 hL gR_12 (gBs_ok st hi hL) rfl (by decide) ih) rfl
  · obtain rfl := gI32 e 13 rfl
    exact key (b := 22) (gStep st hi h0 hL gR_13 (gBs_ok st hi hL) rfl (by decide) ih) rfl
  · obtain rfl := gI32 e 14 rfl
    exact key (b := 23) (gStep st hi h0 hL gR_14 (gBs_ok st hi hL) rfl (by decide) ih) rfl
  · obtain rfl := gI32 e 15 rfl
    exact key (b := 24) (gStep st hi h0 hL gR_15 (gBs_ok st hi hL) rfl (by decide) ih) rfl
  · obtain rfl := gI32 e 16 rfl
    exact key (b := 25) (gStep st hi h0 hL gR_16 (gBs_ok st hi hL) rfl (by decide) ih) rfl
  · obtain rfl := gI32 e 17 rfl
    exact key (b := 32) (gStep st hi h0 hL gR_17 (gBs_ok st hi hL) rfl (by decide) ih) rfl
  · obtain rfl := gI32 e 18 rfl
    exact key (b := 33) (gStep st hi h0 hL gR_18 (gBs_ok st hi hL) rfl (by decide) ih) rfl
  · obtain rfl := gI32 e 19 rfl
    exact key (b := 34) (gStep st hi h0 hL gR_19 (gBs_ok st hi hL) rfl (by decide) ih) rfl
  · obtain rfl := gI32 e 20 rfl
    exact key (b := 35) (gStep st hi h0 hL gR_20 (gBs_ok st hi hL) rfl (by decide) ih) rfl
  · obtain rfl := gI32 e 21 rfl
    exact key (b := 36) (gStep st hi h0 hL gR_21 (gBs_ok st hi hL) rfl (by decide) ih) rfl
  · obtain rfl := gI32 e 22 rfl
    exact key (b := 37) (gStep st hi h0 hL gR_22 (gBs_ok st hi hL) rfl (by decide) ih) rfl
  · obtain rfl := gI32 e 23 rfl
    exact key (b := 38) (gStep st hi h0 hL gR_23 (gBs_ok st hi hL) rfl (by decide) ih) rfl
  · obtain rfl := gI32 e 24 rfl
    exact key (b := 39) (gStep st hi h0 hL gR_24 (gBs_ok st hi hL) rfl (by decide) ih) rfl
  · obtain rfl := gI32 e 25 rfl
    exact key (b := 40) (gStep st hi h0 hL gR_25 (gBs_ok st hi hL) rfl (by decide) ih) rfl
  · obtain rfl := gI32 e 26 rfl
    exact key (b := 41) (gStep st hi h0 hL gR_26 (gBs_ok st hi hL) rfl (by decide) ih) rfl
  · obtain rfl := gI32 e 27 rfl
    exact key (b := 42) (gStep st hi h0 hL gR_27 (gBs_ok st hi hL) rfl (by decide) ih) rfl
  · obtain rfl := gI32 e 28 rfl
    exact key (b := 49) (gStep st hi h0 hL gR_28 (gBs_ok st hi hL) rfl (by decide) ih) rfl
  · obtain rfl := gI32 e 29 rfl
    exact key (b := 51) (gStep st hi h0 hL gR_29 (gBs_ok st hi hL) rfl (by decide) ih) rfl
  · obtain rfl := gI32 e 30 rfl
    exact key (b := 51) (gStep st hi h0 hL gR_29 (gBs_ok st hi hL) rfl (by decide) ih) rfl
  · obtain rfl := gI32 e 31 rfl
    exact key (b := 51) (gStep st hi h0 hL gR_29 (gBs_ok st hi hL) rfl (by decide) ih) rfl
theorem gLoop {L : Nat} {xs : Nat → Int32} (hL : L ≤ 3072) : ∀ (r : Nat) (ρ : Nat → Int) (i : Int) (h : aH), gHs ρ i h → 0 ≤ i → (L : Int) - i ≤ r → zW (L, xs) 60 241 1 [.iload 3, .aload 0, .arraylength, .bipush 6, .isub, .if_icmp .gt 52] [.ref 90000, .ref 0, .ref 188, iv i] [] h gQ := by
  intro r
  induction r with
  | zero =>
    intro ρ i h st h0 hr
    have b0 : (0 : Int) ≤ ρ 0 ∧ ρ 0 ≤ 3078 := st.2.1 0 _ rfl
    have e0 := st.1
    refine zW_step (ls' := [.ref 90000, .ref 0, .ref 188, iv i]) (st' := [iv i]) (h' := h) (by decide) (fun cal => rfl) ?_
    refine zW_step (ls' := [.ref 90000, .ref 0, .ref 188, iv i]) (st' := [.ref 90000, iv i]) (h' := h) (by decide) (fun cal => rfl) ?_
    refine zW_step (ls' := [.ref 90000, .ref 0, .ref 188, iv i]) (st' := [iv L, iv i]) (h' := h) (by decide) (fun cal => rfl) ?_
    refine wP (ls' := [.ref 90000, .ref 0, .ref 188, iv i]) (st' := [iv 6, iv L, iv i]) rfl rfl ?_
    refine wSub ?_
    refine wIfc (n1 := 52) rfl gLbE gLb2 (by omega) (by omega) (fun g0 => gEnd (gQ_of st.2.2.2.2)) (fun g0 => ?_)
    exact absurd (show (L : Int) - 6 < i by omega) g0
  | succ r ih =>
    intro ρ i h st h0 hr
    have b0 : (0 : Int) ≤ ρ 0 ∧ ρ 0 ≤ 3078 := st.2.1 0 _ rfl
    have e0 := st.1
    refine zW_step (ls' := [.ref 90000, .ref 0, .ref 188, iv i]) (st' := [iv i]) (h' := h) (by decide) (fun cal => rfl) ?_
    refine zW_step (ls' := [.ref 90000, .ref 0, .ref 188, iv i]) (st' := [.ref 90000, iv i]) (h' := h) (by decide) (fun cal => rfl) ?_
    refine zW_step (ls' := [.ref 90000, .ref 0, .ref 188, iv i]) (st' := [iv L, iv i]) (h' := h) (by decide) (fun cal => rfl) ?_
    refine wP (ls' := [.ref 90000, .ref 0, .ref 188, iv i]) (st' := [iv 6, iv L, iv i]) rfl rfl ?_
    refine wSub ?_
    refine wIfc (n1 := 52) rfl gLbE gLb2 (by omega) (by omega) (fun g0 => gEnd (gQ_of st.2.2.2.2)) (fun g0 => ?_)
    replace g0 : ¬ (L : Int) - 6 < i := g0
    refine wP (ls' := [.ref 90000, .ref 0, .ref 188, iv i]) (st' := [.ref 90000]) rfl rfl ?_
    refine wP (ls' := [.ref 90000, .ref 0, .ref 188, iv i]) (st' := [iv i, .ref 90000]) rfl rfl ?_
    obtain ⟨i1, i2⟩ := wIx (x := i) (l := L) h0 (by omega) (by omega)
    refine zW_step (ls' := [.ref 90000, .ref 0, .ref 188, iv i]) (st' := [.int (xs i.toNat)]) (h' := h) (by decide) (fun cal => ?_) ?_
    · have hq : aQ (L, xs) .iaload [iv i, .ref 90000] h = some ([.int (xs i.toNat)], h) := by
        unfold aQ
        dsimp only
        rw [if_pos rfl, if_pos i1, i2]
      show (aQ (L, xs) .iaload [iv i, .ref 90000] h).map _ = _
      rw [hq]
      rfl
    refine wP (ls' := [.ref 90000, .ref 0, .ref 188, iv i]) (st' := [.int 31, .int (xs i.toNat)]) rfl rfl ?_
    refine wP (ls' := [.ref 90000, .ref 0, .ref 188, iv i]) (st' := [.int (xs i.toNat &&& 31)]) rfl rfl ?_
    obtain ⟨w1, w2⟩ := zand2 (a := xs i.toNat) (b := 31) (by decide)
    exact gDo st (by omega) h0 hL (fun ρ' h' st' => ih ρ' (i + 6) h' st' (by omega) (by omega)) w1 w2
