/-! p1: the law's run from its entry; the claim -/
theorem tRef {P : zP} {ρ : Nat → Int} {n : Nat} {a b : Int} {c : Nat} {u : Value} (h : zG P ρ n (4, a, b, c) u) (hc : c < 700 ∨ 1000 ≤ c) : u = .ref c := by
  obtain ⟨r, e, k⟩ := zG_ref h rfl
  have e2 : r = c := by
    rcases k with ⟨_, k⟩ | ⟨k1, k2, _⟩ | ⟨_, k⟩
    · exact k
    · have k1 : 700 ≤ c := k1
      have k2 : c < 1000 := k2
      omega
    · exact k
  rw [e, e2]
theorem tInt {P : zP} {ρ : Nat → Int} {n s : Nat} {c : Int} {u : Value} (h : zG P ρ n (0, c, z0, s) u) : ∃ x : Int32, u = .int x ∧ x.toInt = c := by
  obtain ⟨x, e, k⟩ := zG_int h (Or.inl rfl)
  rcases k with ⟨_, _, k⟩ | ⟨k, _⟩
  · refine ⟨x, e, ?_⟩
    rw [k]
    show c + 0 * _ = c
    omega
  · cases k
theorem tGl4 {P : zP} {ρ : Nat → Int} {n : Nat} {a b c d : zV} {us : List Value} (h : zGl P ρ n [a, b, c, d] us) : ∃ u0 u1 u2 u3, us = [u0, u1, u2, u3] ∧ zG P ρ n a u0 ∧ zG P ρ n b u1 ∧ zG P ρ n c u2 ∧ zG P ρ n d u3 := by
  obtain ⟨u0, q0, rfl, g0, h⟩ := zGl_cons h
  obtain ⟨u1, q1, rfl, g1, h⟩ := zGl_cons h
  obtain ⟨u2, q2, rfl, g2, h⟩ := zGl_cons h
  obtain ⟨u3, q3, rfl, g3, h⟩ := zGl_cons h
  rw [zGl_nil h]
  exact ⟨u0, u1, u2, u3, rfl, g0, g1, g2, g3⟩
theorem tI32 {x : Int32} {c : Int} (h : x.toInt = c) (y : Int32) (hy : y.toInt = c) : x = y := Int32.toInt_inj.mp (h.trans hy.symm)
theorem tQ_of {h : aH} (h1 : h.1 = 230) (h2 : h.2.1 = 108808) : tQ (some (.int 1)) h := ⟨rfl, by rw [h1]; decide, by rw [h2]; decide⟩
theorem tHG : zHG tPL tG := fun h M' _ _ g => g
theorem tHF {X : aX} {pS : Nat} {h0 : aH} {ρ0 : Nat → Int} {Q : Option Value → aH → Prop} : zHF X tPL tG pS h0 ρ0 Q := fun n σ K E rv ρ h rvC hk _ _ => by cases hk
theorem tEq : zEqv tPL (tP []) := ⟨rfl, rfl, rfl⟩
theorem tCo {X : aX} : ∀ q c, c ∈ tPL.con q → zCk X tPL tG q c := by
  intro q c hc
  rw [zCk_eq tEq]
  obtain ⟨p, h1, h2, h3⟩ := tAs_in (L := tL_52) hc
  subst h2
  exact tL_52_ok p h1 c h3
theorem tHI {xs : Nat → Int32} {pS : Nat} {h0 : aH} {ρ0 : Nat → Int} : zHI (6, xs) tPL tG pS h0 ρ0 0 60 241 tQ := by
  intro v hv n σ K E ls ρ h lsC hg hl hk _
  obtain rfl := List.mem_singleton.mp hv
  have hk : zHeadF tPL (1, [], [], [(4, z0, z0, 90000), (9, z0, z0, 0), (9, z0, z0, 0), (0, .ofNat 6, z0, 0)], [], []) ls σ E [] = true := hk
  obtain ⟨k1, -⟩ := zAnd hk
  have a := zFitL_s (r := fun _ => 0) (th := []) tVal hg.1 (fun i v h => by cases h) hl k1
  obtain ⟨u0, u1, u2, u3, rfl, g0, -, -, g3⟩ := tGl4 a
  obtain rfl := tRef g0 (Or.inr (by decide))
  obtain ⟨x, rfl, hx⟩ := tInt g3
  obtain rfl := tI32 hx 6 rfl
  obtain ⟨⟨hG1, hG2⟩, -⟩ := hg.2.2.2.2.1 rfl
  exact ⟨_, tB1, tOut (by decide) (tQ_of hG1 hG2)⟩
theorem tLen : (aMC 241).length = 81 := by decide +kernel
/-- a run of the law from a block on -/
theorem tGo {xs : Nat → Int32} {h : aH} (hF : tFr h) {n b : Nat} {σ : zS} {E : List zE} (run : zGoX tPL 10000000 n σ (230, 108808, []) E ([], 60, 241, b) ((zBk 241).getD b []) [(4, (.ofNat 0), (.ofNat 0), 90000), (4, (.ofNat 0), (.ofNat 0), 0), (4, (.ofNat 0), (.ofNat 0), 188), (0, (.ofNat 0), (.ofNat 1), 0)] [] = true) (hb : b < 81) {ρ : Nat → Int} (hs : zSok ρ n σ) (hE : ∀ e ∈ E, zGe (6, xs) ρ n h e) (hn : 0 < n) (h0 : ρ 0 = 0) :
    ∃ l, (aMC 241)[b]? = some l ∧ zW (6, xs) 60 241 b l [.ref 90000, .ref 0, .ref 188, .int 0] [] h tQ := by
  have hb2 : b < (aMC 241).length := by rw [tLen]; exact hb
  refine ⟨(aMC 241)[b], List.getElem?_eq_getElem hb2, ?_⟩
  have e1 : (zBk 241).getD b [] = zEnB ((aMC 241)[b]) := by
    rw [tBk, List.getD_eq_getElem?_getD, List.getElem?_map, List.getElem?_eq_getElem hb2]
    rfl
  rw [e1] at run
  have hg : zGa (6, xs) tPL tG 0 h (fun _ => 0) ρ n σ (230, 108808, []) E h := ⟨hs, hF.1, hE, tGI rfl h, fun _ => ⟨⟨hF.1.1, hF.1.2.1⟩, fun a => ⟨fun _ _ _ _ => rfl, fun _ _ => rfl⟩, rfl, rfl, rfl⟩, fun i hi => absurd hi (Nat.not_lt_zero i), Nat.zero_le _⟩
  have hl : zGl tPL ρ n [(4, (.ofNat 0), (.ofNat 0), 90000), (4, (.ofNat 0), (.ofNat 0), 0), (4, (.ofNat 0), (.ofNat 0), 188), (0, (.ofNat 0), (.ofNat 1), 0)] [.ref 90000, .ref 0, .ref 188, .int 0] :=
    ⟨zGr (Or.inr (Or.inr ⟨by decide, rfl⟩)), zGr (Or.inl ⟨by decide, rfl⟩), zGr (Or.inl ⟨by decide, rfl⟩), zGi (Or.inl ⟨rfl, Or.inr hn, by show (0 : Int) = 0 + 1 * ρ 0; rw [h0]; rfl⟩), trivial⟩
  exact zGoX_s tVal tHG tHI tHF tCo 10000000 n σ _ E ([], 60, 241, b) _ _ [] run ρ h [] _ _ [] hg trivial ⟨rfl, rfl⟩ rfl hl trivial
/-- the symbols of a run -/
def tRh (a b : Int) (i : Nat) : Int := match i with
  | 0 => 0
  | 1 => a
  | _ => b
theorem tSokA : zSok (tRh 6 0) 2 [(1, (.ofNat 6), (.ofNat 6)), (0, (.ofNat 0), (.ofNat 0))] := fun e he => by
  rcases List.mem_cons.mp he with rfl | he
  · exact ⟨by decide, Int.le_refl _, Int.le_refl _⟩
  · obtain rfl := List.mem_singleton.mp he
    exact ⟨by decide, Int.le_refl _, Int.le_refl _⟩
theorem tSe {xs : Nat → Int32} {ρ : Nat → Int} {n : Nat} {h : aH} (hn : 0 < n) (h0 : ρ 0 = 0) : zGe (6, xs) ρ n h (11520002, 0, 1, (0, (.ofNat 6), (.ofNat 0), 0)) := by
  unfold zGe
  rw [if_neg (by decide), if_pos rfl]
  refine ⟨hn, fun _ _ => ?_⟩
  show ρ 0 + 6 ≤ ((6 : Nat) : Int)
  rw [h0]
  decide
theorem tEa {xs : Nat → Int32} {h : aH} (hF : tFr h) {E : List zE} (hE : ∀ e ∈ E, e ∈ tFa) : ∀ e ∈ tS :: E, zGe (6, xs) (tRh 6 0) 2 h e := fun e he => by
  rcases List.mem_cons.mp he with rfl | he
  · exact tSe (by decide) rfl
  · exact hF.2 _ _ _ e (hE e he)
theorem tSokB {a b a1 a2 b1 b2 : Int} (h1 : a1 ≤ a ∧ a ≤ a2) (h2 : b1 ≤ b ∧ b ≤ b2) : zSok (tRh a b) 3 [(2, b1, b2), (1, a1, a2), (0, (.ofNat 0), (.ofNat 0))] := fun e he => by
  rcases List.mem_cons.mp he with rfl | he
  · exact ⟨by show 2 < 3; decide, h2⟩
  rcases List.mem_cons.mp he with rfl | he
  · exact ⟨by show 1 < 3; decide, h1⟩
  · obtain rfl := List.mem_singleton.mp he
    exact ⟨by decide, Int.le_refl _, Int.le_refl _⟩
theorem tEb {xs : Nat → Int32} {h : aH} : ∀ e ∈ [(11520001, 1, 2, (0, (.ofNat 0), (.ofNat 1), 1)), (11520001, 2, 3, (0, (.ofNat 0), (.ofNat 1), 2)), (11520002, 0, 1, (0, (.ofNat 6), (.ofNat 0), 0))], zGe (6, xs) (tRh (xs 1).toInt (xs 2).toInt) 3 h e := fun e he => by
  rcases List.mem_cons.mp he with rfl | he
  · unfold zGe
    rw [if_pos rfl]
    refine ⟨by decide, fun i h1 h2 => Or.inl ⟨rfl, Or.inr (by decide), ?_⟩⟩
    have h1 : 1 ≤ i := h1
    have h2 : i < 2 := h2
    obtain rfl : i = 1 := by omega
    show (xs 1).toInt = 0 + 1 * (xs 1).toInt
    omega
  rcases List.mem_cons.mp he with rfl | he
  · unfold zGe
    rw [if_pos rfl]
    refine ⟨by decide, fun i h1 h2 => Or.inl ⟨rfl, Or.inr (by decide), ?_⟩⟩
    have h1 : 2 ≤ i := h1
    have h2 : i < 3 := h2
    obtain rfl : i = 2 := by omega
    show (xs 2).toInt = 0 + 1 * (xs 2).toInt
    omega
  · obtain rfl := List.mem_singleton.mp he
    exact tSe (by decide) rfl
theorem tOp26 {xs : Nat → Int32} {h : aH} (hF : tFr h) : ∃ l, (aMC 241)[67]? = some l ∧ zW (6, xs) 60 241 67 l [.ref 90000, .ref 0, .ref 188, .int 0] [] h tQ := by
  obtain ⟨a1, a2⟩ := zI32_rg (xs 1)
  obtain ⟨b1, b2⟩ := zI32_rg (xs 2)
  have a1 : -2147483648 ≤ (xs 1).toInt := a1
  have a2 : (xs 1).toInt ≤ 2147483647 := a2
  have b1 : -2147483648 ≤ (xs 2).toInt := b1
  have b2 : (xs 2).toInt ≤ 2147483647 := b2
  by_cases c1 : (xs 1).toInt < 0
  · exact tGo hF tR_26_0 (by decide) (tSokB ⟨a1, by show _ ≤ (-1 : Int); omega⟩ ⟨b1, b2⟩) tEb (by decide) rfl
  by_cases c2 : 10 ≤ (xs 1).toInt
  · exact tGo hF tR_26_1 (by decide) (tSokB ⟨c2, a2⟩ ⟨b1, b2⟩) tEb (by decide) rfl
  by_cases c3 : (xs 2).toInt ≤ 1
  · exact tGo hF tR_26_2 (by decide) (tSokB ⟨by show (0 : Int) ≤ _; omega, by show _ ≤ (9 : Int); omega⟩ ⟨b1, c3⟩) tEb (by decide) rfl
  by_cases c4 : 100001 ≤ (xs 2).toInt
  · exact tGo hF tR_26_3 (by decide) (tSokB ⟨by show (0 : Int) ≤ _; omega, by show _ ≤ (9 : Int); omega⟩ ⟨c4, b2⟩) tEb (by decide) rfl
  have d : (2 : Int) ≤ (xs 2).toInt ∧ (xs 2).toInt ≤ 100000 := ⟨by omega, by omega⟩
  have e : (xs 1).toInt = 0 ∨ (xs 1).toInt = 1 ∨ (xs 1).toInt = 2 ∨ (xs 1).toInt = 3 ∨ (xs 1).toInt = 4 ∨ (xs 1).toInt = 5 ∨ (xs 1).toInt = 6 ∨ (xs 1).toInt = 7 ∨ (xs 1).toInt = 8 ∨ (xs 1).toInt = 9 := by omega
  rcases e with e | e | e | e | e | e | e | e | e | e
  · exact tGo hF tR_26_4 (by decide) (tSokB (by rw [e]; exact ⟨Int.le_refl _, Int.le_refl _⟩) d) tEb (by decide) rfl
  · exact tGo hF tR_26_5 (by decide) (tSokB (by rw [e]; exact ⟨Int.le_refl _, Int.le_refl _⟩) d) tEb (by decide) rfl
  · exact tGo hF tR_26_6 (by decide) (tSokB (by rw [e]; exact ⟨Int.le_refl _, Int.le_refl _⟩) d) tEb (by decide) rfl
  · exact tGo hF tR_26_7 (by decide) (tSokB (by rw [e]; exact ⟨Int.le_refl _, Int.le_refl _⟩) d) tEb (by decide) rfl
  · exact tGo hF tR_26_8 (by decide) (tSokB (by rw [e]; exact ⟨Int.le_refl _, Int.le_refl _⟩) d) tEb (by decide) rfl
  · exact tGo hF tR_26_9 (by decide) (tSokB (by rw [e]; exact ⟨Int.le_refl _, Int.le_refl _⟩) d) tEb (by decide) rfl
  · exact tGo hF tR_26_10 (by decide) (tSokB (by rw [e]; exact ⟨Int.le_refl _, Int.le_refl _⟩) d) tEb (by decide) rfl
  · exact tGo hF tR_26_11 (by decide) (tSokB (by rw [e]; exact ⟨Int.le_refl _, Int.le_refl _⟩) d) tEb (by decide) rfl
  · exact tGo hF tR_26_12 (by decide) (tSokB (by rw [e]; exact ⟨Int.le_refl _, Int.le_refl _⟩) d) tEb (by decide) rfl
  · exact tGo hF tR_26_13 (by decide) (tSokB (by rw [e]; exact ⟨Int.le_refl _, Int.le_refl _⟩) d) tEb (by decide) rfl
theorem tDo {xs : Nat → Int32} {h : aH} (hF : tFr h) {w : Int32} (h1 : 0 ≤ w.toInt) (h2 : w.toInt ≤ 31) {is : List aI} :
    zW (6, xs) 60 241 2 (.tableswitch 79 0 28 #[3, 5, 7, 15, 17, 19, 21, 23, 25, 27, 29, 31, 33, 35, 37, 39, 41, 49, 51, 53, 55, 57, 59, 61, 63, 65, 67, 69, 77] :: is) [.ref 90000, .ref 0, .ref 188, .int 0] [.int w] h tQ := by
  have key : ∀ {b : Nat}, (∃ l, (aMC 241)[b]? = some l ∧ zW (6, xs) 60 241 b l [.ref 90000, .ref 0, .ref 188, .int 0] [] h tQ) → aT (aRT 241) 2 (.tableswitch 79 0 28 #[3, 5, 7, 15, 17, 19, 21, 23, 25, 27, 29, 31, 33, 35, 37, 39, 41, 49, 51, 53, 55, 57, 59, 61, 63, 65, 67, 69, 77]) [.ref 90000, .ref 0, .ref 188, .int 0] [.int w] h = some (.inl (b, [.ref 90000, .ref 0, .ref 188, .int 0], [], h)) → zW (6, xs) 60 241 2 (.tableswitch 79 0 28 #[3, 5, 7, 15, 17, 19, 21, 23, 25, 27, 29, 31, 33, 35, 37, 39, 41, 49, 51, 53, 55, 57, 59, 61, 63, 65, 67, 69, 77] :: is) [.ref 90000, .ref 0, .ref 188, .int 0] [.int w] h tQ := by
    intro b k hT
    obtain ⟨l, k1, k2⟩ := k
    exact zW_jump (by decide) hT k1 k2
  have e : w.toInt = 0 ∨ w.toInt = 1 ∨ w.toInt = 2 ∨ w.toInt = 3 ∨ w.toInt = 4 ∨ w.toInt = 5 ∨ w.toInt = 6 ∨ w.toInt = 7 ∨ w.toInt = 8 ∨ w.toInt = 9 ∨ w.toInt = 10 ∨ w.toInt = 11 ∨ w.toInt = 12 ∨ w.toInt = 13 ∨ w.toInt = 14 ∨ w.toInt = 15 ∨ w.toInt = 16 ∨ w.toInt = 17 ∨ w.toInt = 18 ∨ w.toInt = 19 ∨ w.toInt = 20 ∨ w.toInt = 21 ∨ w.toInt = 22 ∨ w.toInt = 23 ∨ w.toInt = 24 ∨ w.toInt = 25 ∨ w.toInt = 26 ∨ w.toInt = 27 ∨ w.toInt = 28 ∨ w.toInt = 29 ∨ w.toInt = 30 ∨ w.toInt = 31 := by omega
  rcases e with e | e | e | e | e | e | e | e | e | e | e | e | e | e | e | e | e | e | e | e | e | e | e | e | e | e | e | e | e | e | e | e
  · obtain rfl := tI32 e 0 rfl
    exact key (b := 3) (tGo hF tR_0 (by decide) tSokA (tEa hF tE_0_in) (by decide) rfl) rfl
  · obtain rfl := tI32 e 1 rfl
    exact key (b := 5) (tGo hF tR_1 (by decide) tSokA (tEa hF tE_1_in) (by decide) rfl) rfl
  · obtain rfl := tI32 e 2 rfl
    exact key (b := 7) (tGo hF tR_2 (by decide) tSokA (tEa hF tE_2_in) (by decide) rfl) rfl
  · obtain rfl := tI32 e 3 rfl
    exact key (b := 15) (tGo hF tR_3 (by decide) tSokA (tEa hF tE_3_in) (by decide) rfl) rfl
  · obtain rfl := tI32 e 4 rfl
    exact key (b := 17) (tGo hF tR_4 (by decide) tSokA (tEa hF tE_4_in) (by decide) rfl) rfl
  · obtain rfl := tI32 e 5 rfl
    exact key (b := 19) (tGo hF tR_5 (by decide) tSokA (tEa hF tE_5_in) (by decide) rfl) rfl
  · obtain rfl := tI32 e 6 rfl
    exact key (b := 21) (tGo hF tR_6 (by decide) tSokA (tEa hF tE_6_in) (by decide) rfl) rfl
  · obtain rfl := tI32 e 7 rfl
    exact key (b := 23) (tGo hF tR_7 (by decide) tSokA (tEa hF tE_7_in) (by decide) rfl) rfl
  · obtain rfl := tI32 e 8 rfl
    exact key (b := 25) (tGo hF tR_8 (by decide) tSokA (tEa hF tE_8_in) (by decide) rfl) rfl
  · obtain rfl := tI32 e 9 rfl
    exact key (b := 27) (tGo hF tR_9 (by decide) tSokA (tEa hF tE_9_in) (by decide) rfl) rfl
  · obtain rfl := tI32 e 10 rfl
    exact key (b := 29) (tGo hF tR_10 (by decide) tSokA (tEa hF tE_10_in) (by decide) rfl) rfl
  · obtain rfl := tI32 e 11 rfl
    exact key (b := 31) (tGo hF tR_11 (by decide) tSokA (tEa hF tE_11_in) (by decide) rfl) rfl
  · obtain rfl := tI32 e 12 rfl
    exact key (b := 33) (tGo hF tR_12 (by decide) tSokA (tEa hF tE_12_in) (by decide) rfl) rfl
  · obtain rfl := tI32 e 13 rfl
    exact key (b := 35) (tGo hF tR_13 (by decide) tSokA (tEa hF tE_13_in) (by decide) rfl) rfl
  · obtain rfl := tI32 e 14 rfl
    exact key (b := 37) (tGo hF tR_14 (by decide) tSokA (tEa hF tE_14_in) (by decide) rfl) rfl
  · obtain rfl := tI32 e 15 rfl
    exact key (b := 39) (tGo hF tR_15 (by decide) tSokA (tEa hF tE_15_in) (by decide) rfl) rfl
  · obtain rfl := tI32 e 16 rfl
    exact key (b := 41) (tGo hF tR_16 (by decide) tSokA (tEa hF tE_16_in) (by decide) rfl) rfl
  · obtain rfl := tI32 e 17 rfl
    exact key (b := 49) (tGo hF tR_17 (by decide) tSokA (tEa hF tE_17_in) (by decide) rfl) rfl
  · obtain rfl := tI32 e 18 rfl
    exact key (b := 51) (tGo hF tR_18 (by decide) tSokA (tEa hF tE_18_in) (by decide) rfl) rfl
  · obtain rfl := tI32 e 19 rfl
    exact key (b := 53) (tGo hF tR_19 (by decide) tSokA (tEa hF tE_19_in) (by decide) rfl) rfl
  · obtain rfl := tI32 e 20 rfl
    exact key (b := 55) (tGo hF tR_20 (by decide) tSokA (tEa hF tE_20_in) (by decide) rfl) rfl
  · obtain rfl := tI32 e 21 rfl
    exact key (b := 57) (tGo hF tR_21 (by decide) tSokA (tEa hF tE_21_in) (by decide) rfl) rfl
  · obtain rfl := tI32 e 22 rfl
    exact key (b := 59) (tGo hF tR_22 (by decide) tSokA (tEa hF tE_22_in) (by decide) rfl) rfl
  · obtain rfl := tI32 e 23 rfl
    exact key (b := 61) (tGo hF tR_23 (by decide) tSokA (tEa hF tE_23_in) (by decide) rfl) rfl
  · obtain rfl := tI32 e 24 rfl
    exact key (b := 63) (tGo hF tR_24 (by decide) tSokA (tEa hF tE_24_in) (by decide) rfl) rfl
  · obtain rfl := tI32 e 25 rfl
    exact key (b := 65) (tGo hF tR_25 (by decide) tSokA (tEa hF tE_25_in) (by decide) rfl) rfl
  · obtain rfl := tI32 e 26 rfl
    exact key (b := 67) (tOp26 hF) rfl
  · obtain rfl := tI32 e 27 rfl
    exact key (b := 69) (tGo hF tR_27 (by decide) tSokA (tEa hF tE_27_in) (by decide) rfl) rfl
  · obtain rfl := tI32 e 28 rfl
    exact key (b := 77) (tGo hF tR_28 (by decide) tSokA (tEa hF tE_28_in) (by decide) rfl) rfl
  · obtain rfl := tI32 e 29 rfl
    exact key (b := 79) (tGo hF tR_29 (by decide) tSokA (tEa hF tE_29_in) (by decide) rfl) rfl
  · obtain rfl := tI32 e 30 rfl
    exact key (b := 79) (tGo hF tR_29 (by decide) tSokA (tEa hF tE_29_in) (by decide) rfl) rfl
  · obtain rfl := tI32 e 31 rfl
    exact key (b := 79) (tGo hF tR_29 (by decide) tSokA (tEa hF tE_29_in) (by decide) rfl) rfl
theorem tRun {xs : Nat → Int32} {h : aH} (hF : tFr h) : zW (6, xs) 60 241 1 [.iload 3, .aload 0, .arraylength, .bipush 6, .isub, .if_icmp .gt 80] [.ref 90000, .ref 0, .ref 188, .int 0] [] h tQ := by
  refine zW_step (ls' := [.ref 90000, .ref 0, .ref 188, .int 0]) (st' := [.int 0]) (h' := h) (by decide) (fun cal => rfl) ?_
  refine zW_step (ls' := [.ref 90000, .ref 0, .ref 188, .int 0]) (st' := [.ref 90000, .int 0]) (h' := h) (by decide) (fun cal => rfl) ?_
  refine zW_step (ls' := [.ref 90000, .ref 0, .ref 188, .int 0]) (st' := [.int 6, .int 0]) (h' := h) (by decide) (fun cal => rfl) ?_
  refine zW_step (ls' := [.ref 90000, .ref 0, .ref 188, .int 0]) (st' := [.int 6, .int 6, .int 0]) (h' := h) (by decide) (fun cal => rfl) ?_
  refine zW_step (ls' := [.ref 90000, .ref 0, .ref 188, .int 0]) (st' := [.int 0, .int 0]) (h' := h) (by decide) (fun cal => rfl) ?_
  refine zW_jump (b' := 2) (t := []) (by decide) rfl tB2 ?_
  refine zW_step (ls' := [.ref 90000, .ref 0, .ref 188, .int 0]) (st' := [.ref 90000]) (h' := h) (by decide) (fun cal => rfl) ?_
  refine zW_step (ls' := [.ref 90000, .ref 0, .ref 188, .int 0]) (st' := [.int 0, .ref 90000]) (h' := h) (by decide) (fun cal => rfl) ?_
  refine zW_step (ls' := [.ref 90000, .ref 0, .ref 188, .int 0]) (st' := [.int (xs 0)]) (h' := h) (by decide) (fun cal => rfl) ?_
  refine zW_step (ls' := [.ref 90000, .ref 0, .ref 188, .int 0]) (st' := [.int 31, .int (xs 0)]) (h' := h) (by decide) (fun cal => rfl) ?_
  refine zW_step (ls' := [.ref 90000, .ref 0, .ref 188, .int 0]) (st' := [.int (xs 0 &&& 31)]) (h' := h) (by decide) (fun cal => rfl) ?_
  obtain ⟨w1, w2⟩ := zand2 (a := xs 0) (b := 31) (by decide)
  exact tDo hF w1 w2
/-- what the constructors leave -/
theorem tFr_of {X : aX} {G : aH → Prop} {pS : Nat} {h0 h : aH} {ρ0 ρ : Nat → Int} {n : Nat} {σ : zS} {K : zK} {E : List zE} {ls : List zV} (hg : zGa X tPA G pS h0 ρ0 ρ n σ K E h) (hk : tKc n σ K E ls = true) : tFr h := by
  unfold tKc at hk
  obtain ⟨k1, hk⟩ := zAnd hk
  obtain ⟨k2, hk⟩ := zAnd hk
  obtain ⟨k3, k4⟩ := zAnd hk
  have k1 := zbe k1
  have k2 := zbe k2
  obtain ⟨-, ⟨g1, g2, g3⟩, hE, -⟩ := hg
  refine ⟨⟨g1.trans k1, g2.trans k2, fun s b hc hlt => ?_⟩, fun X' ρ' n' e he => ?_⟩
  · have hs : s < 230 := by
      by_cases q : s < 230
      · exact q
      · have e9 : zCe tPL (230, 108808, []) s = (999, 0, [], 0) := by
          show tK s = _
          unfold tK
          rw [show Nat.blt s 230 = false from by rw [Bool.eq_false_iff]; exact fun q2 => q (Nat.blt_eq ▸ q2)]
          rfl
        rw [e9] at hlt
        exact absurd hlt (by decide)
    have e1 : zCe tPA K s = tK s := of_decide_eq_true (List.all_eq_true.mp k3 s (List.mem_range.mpr hs))
    have := g3 s b hc (by rw [e1]; exact hlt)
    rw [e1] at this
    exact this
  · have k5 := List.all_eq_true.mp k4 e he
    obtain ⟨k5, k6⟩ := zAnd k5
    obtain ⟨k5, k7, k8⟩ := of_decide_eq_true k5
    obtain ⟨d, hd, hq⟩ := List.any_eq_true.mp k6
    obtain ⟨d1, d2, d3, d4⟩ := of_decide_eq_true hq
    have hh := hE d hd
    unfold zGe at hh ⊢
    rw [if_neg (by omega), if_neg (by omega)] at hh
    rw [if_neg (by omega), if_neg (by omega)]
    obtain ⟨p1, p2⟩ := hh
    rw [d1] at p1 p2
    refine ⟨p1, fun i i1 i2 i3 => ?_⟩
    have := p2 i (by omega) (by omega) i3
    rw [d4] at this
    rcases this with ⟨_, _, q⟩ | ⟨q, _⟩
    · refine Or.inl ⟨k7, Or.inl k8, ?_⟩
      rw [q, k8, Int.zero_mul, Int.zero_mul]
    · exact absurd (k7.symm.trans q) (by decide)
theorem tHIA {L : Nat} {xs : Nat → Int32} (hL : L ≤ 6) {pS : Nat} {h0 : aH} {ρ0 : Nat → Int} : zHI (L, xs) tPA (fun _ => True) pS h0 ρ0 0 60 241 tQ := by
  intro v hv n σ K E ls ρ h lsC hg hl hk hc
  obtain rfl := List.mem_singleton.mp hv
  have hF : tFr h := tFr_of (ls := ls) hg hc
  have hk : zHeadF tPA (1, [], [], [(4, z0, z0, 90000), (4, z0, z0, 0), (4, z0, z0, 188), (0, z0, z0, 0)], [], []) ls σ E [] = true := hk
  obtain ⟨k1, -⟩ := zAnd hk
  have a := zFitL_s (r := fun _ => 0) (th := []) tValA hg.1 (fun i v h => by cases h) hl k1
  obtain ⟨u0, u1, u2, u3, rfl, g0, g1, g2, g3⟩ := tGl4 a
  obtain rfl := tRef g0 (Or.inr (by decide))
  obtain rfl := tRef g1 (Or.inl (by decide))
  obtain rfl := tRef g2 (Or.inl (by decide))
  obtain ⟨x, rfl, hx⟩ := tInt g3
  obtain rfl := tI32 hx 0 rfl
  refine ⟨_, tB1, ?_⟩
  by_cases q : L = 6
  · subst q
    exact tRun hF
  · have e : L = 0 ∨ L = 1 ∨ L = 2 ∨ L = 3 ∨ L = 4 ∨ L = 5 := by omega
    rcases e with rfl | rfl | rfl | rfl | rfl | rfl <;> exact tOut (by decide) (tQ_of hF.1.1 hF.1.2.1)
theorem tAll_run {L : Nat} {xs : Nat → Int32} (hL : L ≤ 6) : ∃ F hF, aE (L, xs) (aM (L, xs) F 60) 2 (aMC 241) F 0 (aEn [.ref 90000] 4) [] aH0 = some (some (.int 1), hF) ∧ hF.1 ≤ 600000 ∧ hF.2.1 ≤ 7302250 := by
  have hb2 : 0 < (aMC 241).length := by rw [tLen]; decide
  have e1 : (zBk 241).getD 0 [] = zEnB ((aMC 241)[0]) := by
    rw [tBk, List.getD_eq_getElem?_getD, List.getElem?_map, List.getElem?_eq_getElem hb2]
    rfl
  have run := tR_c
  rw [e1] at run
  have hg : zGa (L, xs) tPA (fun _ => True) 0 aH0 (fun _ => 0) (fun _ => 0) 0 [] (0, 0, []) [] aH0 := ⟨fun e he => (by cases he), ⟨rfl, rfl, fun s b _ hlt => absurd hlt (by show ¬ ((999 : Nat) < 900); decide)⟩, fun e he => (by cases he), tGI rfl _, fun al => (by cases al), fun i hi => rfl, Nat.le_refl _⟩
  have hl : zGl tPA (fun _ => 0) 0 [(4, z0, z0, 90000), (6, z0, z0, 0), (6, z0, z0, 0), (6, z0, z0, 0)] (aEn [.ref 90000] 4) := ⟨zGr (Or.inr (Or.inr ⟨by decide, rfl⟩)), zGd, zGd, zGd, trivial⟩
  have hw : zW (L, xs) 60 241 0 ((aMC 241)[0]) (aEn [.ref 90000] 4) [] aH0 tQ := zGoX_s (G := fun _ => True) tValA (fun h M' al _ _ => trivial) (tHIA hL) (fun n σ K E rv ρ h rvC hk _ _ => (by cases hk)) (fun q c hc => (by cases hc)) 10000000 0 [] _ [] ([], 60, 241, 0) _ _ [] run (fun _ => 0) aH0 [] _ _ [] hg trivial ⟨rfl, rfl⟩ rfl hl trivial
  obtain ⟨rv, hF, ⟨rfl, q1, q2⟩, F0, e⟩ := hw
  refine ⟨F0 + 1, hF, ?_, q1, q2⟩
  have := e (F0 + 1) F0 (by omega) (Nat.le_refl _)
  rw [tRT] at this
  unfold zBE at this
  unfold aE
  rw [List.getElem?_eq_getElem hb2]
  dsimp only
  split at this
  · rename_i q hq
    rw [hq]
    exact this
  · rename_i r hr
    rw [hr]
    exact this
  · cases this
