/-! what runs come to, method by method: printed by wip/pm/pm.py -/
/-- TwoCamps$Tape.isSign(I)Z -/
def f_204 (p0 : Int32) : Int32 := if p0 < (kI 40) then if p0 = (kI 45) then (kI 1) else if p0 = (kI 47) then (kI 1) else if p0 < (kI 59) then (kI 0) else if (kI 62) < p0 then (kI 0) else (kI 1) else if p0 ≤ (kI 43) then (kI 1) else if p0 = (kI 45) then (kI 1) else if p0 = (kI 47) then (kI 1) else if p0 < (kI 59) then (kI 0) else if (kI 62) < p0 then (kI 0) else (kI 1)
theorem f_204_ok {X : aX} {F d : Nat} {K : Nat → aK} (hS : pS K) {p0 : Int32} {M : pMem} {out : Option Value × aH} (H : aM X F d 204 [.int p0] (pH K M) = some out) : out = (some <| Value.int (f_204 p0), pH K M) := by
  obtain ⟨d', g0, _, H⟩ := pEnt (n := 1) (ls := [.int p0]) (mcb_204 rfl) (by decide +kernel) rfl H
  unfold f_204
  replace H := pRun (ls' := [.int p0]) (st' := [.int (kI 40), .int p0]) 2 rfl H
  rcases pIfc (n1 := 2) rfl (mcb_204 rfl) (mcb_204 rfl) H with ⟨g1, g0, _, H⟩ | ⟨g1, g0, _, H⟩
  · rw [if_pos (show p0 < (kI 40) from g1)]
    replace H := pRun (ls' := [.int p0]) (st' := [.int (kI 45), .int p0]) 2 rfl H
    rcases pIfc (n1 := 6) rfl (mcb_204 rfl) (mcb_204 rfl) H with ⟨g2, g0, _, H⟩ | ⟨g2, g0, _, H⟩
    · rw [if_pos (show p0 = (kI 45) from g2)]
      replace H := pRun (ls' := [.int p0]) (st' := [.int (kI 1)]) 1 rfl H
      obtain ⟨g0, _, H⟩ := pGo (n1 := 8) rfl (mcb_204 rfl) H
      exact pRetI H
    · rw [if_neg (show ¬ (p0 = (kI 45)) from g2)]
      replace H := pRun (ls' := [.int p0]) (st' := [.int (kI 47), .int p0]) 2 rfl H
      rcases pIfc (n1 := 6) rfl (mcb_204 rfl) (mcb_204 rfl) H with ⟨g3, g0, _, H⟩ | ⟨g3, g0, _, H⟩
      · rw [if_pos (show p0 = (kI 47) from g3)]
        replace H := pRun (ls' := [.int p0]) (st' := [.int (kI 1)]) 1 rfl H
        obtain ⟨g0, _, H⟩ := pGo (n1 := 8) rfl (mcb_204 rfl) H
        exact pRetI H
      · rw [if_neg (show ¬ (p0 = (kI 47)) from g3)]
        replace H := pRun (ls' := [.int p0]) (st' := [.int (kI 59), .int p0]) 2 rfl H
        rcases pIfc (n1 := 7) rfl (mcb_204 rfl) (mcb_204 rfl) H with ⟨g4, g0, _, H⟩ | ⟨g4, g0, _, H⟩
        · rw [if_pos (show p0 < (kI 59) from g4)]
          replace H := pRun (ls' := [.int p0]) (st' := [.int (kI 0)]) 1 rfl H
          obtain ⟨g0, _, H⟩ := pFall (mcb_204 rfl) H
          exact pRetI H
        · rw [if_neg (show ¬ (p0 < (kI 59)) from g4)]
          replace H := pRun (ls' := [.int p0]) (st' := [.int (kI 62), .int p0]) 2 rfl H
          rcases pIfc (n1 := 7) rfl (mcb_204 rfl) (mcb_204 rfl) H with ⟨g5, g0, _, H⟩ | ⟨g5, g0, _, H⟩
          · rw [if_pos (show (kI 62) < p0 from g5)]
            replace H := pRun (ls' := [.int p0]) (st' := [.int (kI 0)]) 1 rfl H
            obtain ⟨g0, _, H⟩ := pFall (mcb_204 rfl) H
            exact pRetI H
          · rw [if_neg (show ¬ ((kI 62) < p0) from g5)]
            replace H := pRun (ls' := [.int p0]) (st' := [.int (kI 1)]) 1 rfl H
            obtain ⟨g0, _, H⟩ := pGo (n1 := 8) rfl (mcb_204 rfl) H
            exact pRetI H
  · rw [if_neg (show ¬ (p0 < (kI 40)) from g1)]
    replace H := pRun (ls' := [.int p0]) (st' := [.int (kI 43), .int p0]) 2 rfl H
    rcases pIfc (n1 := 6) rfl (mcb_204 rfl) (mcb_204 rfl) H with ⟨g2, g0, _, H⟩ | ⟨g2, g0, _, H⟩
    · rw [if_pos (show p0 ≤ (kI 43) from g2)]
      replace H := pRun (ls' := [.int p0]) (st' := [.int (kI 1)]) 1 rfl H
      obtain ⟨g0, _, H⟩ := pGo (n1 := 8) rfl (mcb_204 rfl) H
      exact pRetI H
    · rw [if_neg (show ¬ (p0 ≤ (kI 43)) from g2)]
      replace H := pRun (ls' := [.int p0]) (st' := [.int (kI 45), .int p0]) 2 rfl H
      rcases pIfc (n1 := 6) rfl (mcb_204 rfl) (mcb_204 rfl) H with ⟨g3, g0, _, H⟩ | ⟨g3, g0, _, H⟩
      · rw [if_pos (show p0 = (kI 45) from g3)]
        replace H := pRun (ls' := [.int p0]) (st' := [.int (kI 1)]) 1 rfl H
        obtain ⟨g0, _, H⟩ := pGo (n1 := 8) rfl (mcb_204 rfl) H
        exact pRetI H
      · rw [if_neg (show ¬ (p0 = (kI 45)) from g3)]
        replace H := pRun (ls' := [.int p0]) (st' := [.int (kI 47), .int p0]) 2 rfl H
        rcases pIfc (n1 := 6) rfl (mcb_204 rfl) (mcb_204 rfl) H with ⟨g4, g0, _, H⟩ | ⟨g4, g0, _, H⟩
        · rw [if_pos (show p0 = (kI 47) from g4)]
          replace H := pRun (ls' := [.int p0]) (st' := [.int (kI 1)]) 1 rfl H
          obtain ⟨g0, _, H⟩ := pGo (n1 := 8) rfl (mcb_204 rfl) H
          exact pRetI H
        · rw [if_neg (show ¬ (p0 = (kI 47)) from g4)]
          replace H := pRun (ls' := [.int p0]) (st' := [.int (kI 59), .int p0]) 2 rfl H
          rcases pIfc (n1 := 7) rfl (mcb_204 rfl) (mcb_204 rfl) H with ⟨g5, g0, _, H⟩ | ⟨g5, g0, _, H⟩
          · rw [if_pos (show p0 < (kI 59) from g5)]
            replace H := pRun (ls' := [.int p0]) (st' := [.int (kI 0)]) 1 rfl H
            obtain ⟨g0, _, H⟩ := pFall (mcb_204 rfl) H
            exact pRetI H
          · rw [if_neg (show ¬ (p0 < (kI 59)) from g5)]
            replace H := pRun (ls' := [.int p0]) (st' := [.int (kI 62), .int p0]) 2 rfl H
            rcases pIfc (n1 := 7) rfl (mcb_204 rfl) (mcb_204 rfl) H with ⟨g6, g0, _, H⟩ | ⟨g6, g0, _, H⟩
            · rw [if_pos (show (kI 62) < p0 from g6)]
              replace H := pRun (ls' := [.int p0]) (st' := [.int (kI 0)]) 1 rfl H
              obtain ⟨g0, _, H⟩ := pFall (mcb_204 rfl) H
              exact pRetI H
            · rw [if_neg (show ¬ ((kI 62) < p0) from g6)]
              replace H := pRun (ls' := [.int p0]) (st' := [.int (kI 1)]) 1 rfl H
              obtain ⟨g0, _, H⟩ := pGo (n1 := 8) rfl (mcb_204 rfl) H
              exact pRetI H
/-- TwoCamps$Tape.spelling(I)Ljava/lang/String; -/
def f_205 (p0 : Int32) : Nat := if p0 = kI 0 then 90001 else if p0 = kI 1 then 90002 else if p0 = kI 2 then 90003 else if p0 = kI 3 then 90004 else if p0 = kI 4 then 90005 else if p0 = kI 5 then 90006 else if p0 = kI 6 then 90007 else if p0 = kI 7 then 90008 else if p0 = kI 8 then 90009 else if p0 = kI 9 then 90010 else if p0 = kI 10 then 90011 else if p0 = kI 11 then 90012 else if p0 = kI 12 then 90013 else if p0 = kI 13 then 90014 else if p0 = kI 14 then 90015 else if p0 = kI 15 then 90016 else if p0 = kI 16 then 90017 else if p0 = kI 17 then 90018 else if p0 = kI 18 then 90019 else if p0 = kI 19 then 90020 else if p0 = kI 20 then 90021 else if p0 = kI 21 then 90022 else if p0 = kI 22 then 90023 else if p0 = kI 23 then 90024 else if p0 = kI 24 then 90025 else if p0 = kI 25 then 90026 else if p0 = kI 26 then 90027 else if p0 = kI 27 then 90028 else if p0 = kI 28 then 90029 else 90030
theorem f_205_ok {X : aX} {F d : Nat} {K : Nat → aK} (hS : pS K) {p0 : Int32} {M : pMem} {out : Option Value × aH} (H : aM X F d 205 [.int p0] (pH K M) = some out) : out = (some <| Value.ref (f_205 p0), pH K M) := by
  obtain ⟨d', g0, _, H⟩ := pEnt (n := 1) (ls := [.int p0]) (mcb_205 rfl) (by decide +kernel) rfl H
  unfold f_205
  replace H := pRun (ls' := [.int p0]) (st' := [.int p0]) 1 rfl H
  by_cases g1 : p0 = kI 0
  · rw [if_pos g1]
    obtain ⟨g0, _, H⟩ := pTsC g1 (by decide) (n1 := 1) rfl (mcb_205 rfl) H
    replace H := pLds (r := 90001) rfl H
    exact pRetR H
  rw [if_neg g1]
  by_cases g2 : p0 = kI 1
  · rw [if_pos g2]
    obtain ⟨g0, _, H⟩ := pTsC g2 (by decide) (n1 := 2) rfl (mcb_205 rfl) H
    replace H := pLds (r := 90002) rfl H
    exact pRetR H
  rw [if_neg g2]
  by_cases g3 : p0 = kI 2
  · rw [if_pos g3]
    obtain ⟨g0, _, H⟩ := pTsC g3 (by decide) (n1 := 3) rfl (mcb_205 rfl) H
    replace H := pLds (r := 90003) rfl H
    exact pRetR H
  rw [if_neg g3]
  by_cases g4 : p0 = kI 3
  · rw [if_pos g4]
    obtain ⟨g0, _, H⟩ := pTsC g4 (by decide) (n1 := 4) rfl (mcb_205 rfl) H
    replace H := pLds (r := 90004) rfl H
    exact pRetR H
  rw [if_neg g4]
  by_cases g5 : p0 = kI 4
  · rw [if_pos g5]
    obtain ⟨g0, _, H⟩ := pTsC g5 (by decide) (n1 := 5) rfl (mcb_205 rfl) H
    replace H := pLds (r := 90005) rfl H
    exact pRetR H
  rw [if_neg g5]
  by_cases g6 : p0 = kI 5
  · rw [if_pos g6]
    obtain ⟨g0, _, H⟩ := pTsC g6 (by decide) (n1 := 6) rfl (mcb_205 rfl) H
    replace H := pLds (r := 90006) rfl H
    exact pRetR H
  rw [if_neg g6]
  by_cases g7 : p0 = kI 6
  · rw [if_pos g7]
    obtain ⟨g0, _, H⟩ := pTsC g7 (by decide) (n1 := 7) rfl (mcb_205 rfl) H
    replace H := pLds (r := 90007) rfl H
    exact pRetR H
  rw [if_neg g7]
  by_cases g8 : p0 = kI 7
  · rw [if_pos g8]
    obtain ⟨g0, _, H⟩ := pTsC g8 (by decide) (n1 := 8) rfl (mcb_205 rfl) H
    replace H := pLds (r := 90008) rfl H
    exact pRetR H
  rw [if_neg g8]
  by_cases g9 : p0 = kI 8
  · rw [if_pos g9]
    obtain ⟨g0, _, H⟩ := pTsC g9 (by decide) (n1 := 9) rfl (mcb_205 rfl) H
    replace H := pLds (r := 90009) rfl H
    exact pRetR H
  rw [if_neg g9]
  by_cases g10 : p0 = kI 9
  · rw [if_pos g10]
    obtain ⟨g0, _, H⟩ := pTsC g10 (by decide) (n1 := 10) rfl (mcb_205 rfl) H
    replace H := pLds (r := 90010) rfl H
    exact pRetR H
  rw [if_neg g10]
  by_cases g11 : p0 = kI 10
  · rw [if_pos g11]
    obtain ⟨g0, _, H⟩ := pTsC g11 (by decide) (n1 := 11) rfl (mcb_205 rfl) H
    replace H := pLds (r := 90011) rfl H
    exact pRetR H
  rw [if_neg g11]
  by_cases g12 : p0 = kI 11
  · rw [if_pos g12]
    obtain ⟨g0, _, H⟩ := pTsC g12 (by decide) (n1 := 12) rfl (mcb_205 rfl) H
    replace H := pLds (r := 90012) rfl H
    exact pRetR H
  rw [if_neg g12]
  by_cases g13 : p0 = kI 12
  · rw [if_pos g13]
    obtain ⟨g0, _, H⟩ := pTsC g13 (by decide) (n1 := 13) rfl (mcb_205 rfl) H
    replace H := pLds (r := 90013) rfl H
    exact pRetR H
  rw [if_neg g13]
  by_cases g14 : p0 = kI 13
  · rw [if_pos g14]
    obtain ⟨g0, _, H⟩ := pTsC g14 (by decide) (n1 := 14) rfl (mcb_205 rfl) H
    replace H := pLds (r := 90014) rfl H
    exact pRetR H
  rw [if_neg g14]
  by_cases g15 : p0 = kI 14
  · rw [if_pos g15]
    obtain ⟨g0, _, H⟩ := pTsC g15 (by decide) (n1 := 15) rfl (mcb_205 rfl) H
    replace H := pLds (r := 90015) rfl H
    exact pRetR H
  rw [if_neg g15]
  by_cases g16 : p0 = kI 15
  · rw [if_pos g16]
    obtain ⟨g0, _, H⟩ := pTsC g16 (by decide) (n1 := 16) rfl (mcb_205 rfl) H
    replace H := pLds (r := 90016) rfl H
    exact pRetR H
  rw [if_neg g16]
  by_cases g17 : p0 = kI 16
  · rw [if_pos g17]
    obtain ⟨g0, _, H⟩ := pTsC g17 (by decide) (n1 := 17) rfl (mcb_205 rfl) H
    replace H := pLds (r := 90017) rfl H
    exact pRetR H
  rw [if_neg g17]
  by_cases g18 : p0 = kI 17
  · rw [if_pos g18]
    obtain ⟨g0, _, H⟩ := pTsC g18 (by decide) (n1 := 18) rfl (mcb_205 rfl) H
    replace H := pLds (r := 90018) rfl H
    exact pRetR H
  rw [if_neg g18]
  by_cases g19 : p0 = kI 18
  · rw [if_pos g19]
    obtain ⟨g0, _, H⟩ := pTsC g19 (by decide) (n1 := 19) rfl (mcb_205 rfl) H
    replace H := pLds (r := 90019) rfl H
    exact pRetR H
  rw [if_neg g19]
  by_cases g20 : p0 = kI 19
  · rw [if_pos g20]
    obtain ⟨g0, _, H⟩ := pTsC g20 (by decide) (n1 := 20) rfl (mcb_205 rfl) H
    replace H := pLds (r := 90020) rfl H
    exact pRetR H
  rw [if_neg g20]
  by_cases g21 : p0 = kI 20
  · rw [if_pos g21]
    obtain ⟨g0, _, H⟩ := pTsC g21 (by decide) (n1 := 21) rfl (mcb_205 rfl) H
    replace H := pLds (r := 90021) rfl H
    exact pRetR H
  rw [if_neg g21]
  by_cases g22 : p0 = kI 21
  · rw [if_pos g22]
    obtain ⟨g0, _, H⟩ := pTsC g22 (by decide) (n1 := 22) rfl (mcb_205 rfl) H
    replace H := pLds (r := 90022) rfl H
    exact pRetR H
  rw [if_neg g22]
  by_cases g23 : p0 = kI 22
  · rw [if_pos g23]
    obtain ⟨g0, _, H⟩ := pTsC g23 (by decide) (n1 := 23) rfl (mcb_205 rfl) H
    replace H := pLds (r := 90023) rfl H
    exact pRetR H
  rw [if_neg g23]
  by_cases g24 : p0 = kI 23
  · rw [if_pos g24]
    obtain ⟨g0, _, H⟩ := pTsC g24 (by decide) (n1 := 24) rfl (mcb_205 rfl) H
    replace H := pLds (r := 90024) rfl H
    exact pRetR H
  rw [if_neg g24]
  by_cases g25 : p0 = kI 24
  · rw [if_pos g25]
    obtain ⟨g0, _, H⟩ := pTsC g25 (by decide) (n1 := 25) rfl (mcb_205 rfl) H
    replace H := pLds (r := 90025) rfl H
    exact pRetR H
  rw [if_neg g25]
  by_cases g26 : p0 = kI 25
  · rw [if_pos g26]
    obtain ⟨g0, _, H⟩ := pTsC g26 (by decide) (n1 := 26) rfl (mcb_205 rfl) H
    replace H := pLds (r := 90026) rfl H
    exact pRetR H
  rw [if_neg g26]
  by_cases g27 : p0 = kI 26
  · rw [if_pos g27]
    obtain ⟨g0, _, H⟩ := pTsC g27 (by decide) (n1 := 27) rfl (mcb_205 rfl) H
    replace H := pLds (r := 90027) rfl H
    exact pRetR H
  rw [if_neg g27]
  by_cases g28 : p0 = kI 27
  · rw [if_pos g28]
    obtain ⟨g0, _, H⟩ := pTsC g28 (by decide) (n1 := 28) rfl (mcb_205 rfl) H
    replace H := pLds (r := 90028) rfl H
    exact pRetR H
  rw [if_neg g28]
  by_cases g29 : p0 = kI 28
  · rw [if_pos g29]
    obtain ⟨g0, _, H⟩ := pTsC g29 (by decide) (n1 := 29) rfl (mcb_205 rfl) H
    replace H := pLds (r := 90029) rfl H
    exact pRetR H
  rw [if_neg g29]
  obtain ⟨g0, _, H⟩ := pTsD (n1 := 30) (fun v h1 h2 => by
    have hv : v = 0 ∨ v = 1 ∨ v = 2 ∨ v = 3 ∨ v = 4 ∨ v = 5 ∨ v = 6 ∨ v = 7 ∨ v = 8 ∨ v = 9 ∨ v = 10 ∨ v = 11 ∨ v = 12 ∨ v = 13 ∨ v = 14 ∨ v = 15 ∨ v = 16 ∨ v = 17 ∨ v = 18 ∨ v = 19 ∨ v = 20 ∨ v = 21 ∨ v = 22 ∨ v = 23 ∨ v = 24 ∨ v = 25 ∨ v = 26 ∨ v = 27 ∨ v = 28 := by omega
    rcases hv with rfl | rfl | rfl | rfl | rfl | rfl | rfl | rfl | rfl | rfl | rfl | rfl | rfl | rfl | rfl | rfl | rfl | rfl | rfl | rfl | rfl | rfl | rfl | rfl | rfl | rfl | rfl | rfl | rfl
    · exact g1
    · exact g2
    · exact g3
    · exact g4
    · exact g5
    · exact g6
    · exact g7
    · exact g8
    · exact g9
    · exact g10
    · exact g11
    · exact g12
    · exact g13
    · exact g14
    · exact g15
    · exact g16
    · exact g17
    · exact g18
    · exact g19
    · exact g20
    · exact g21
    · exact g22
    · exact g23
    · exact g24
    · exact g25
    · exact g26
    · exact g27
    · exact g28
    · exact g29) rfl (mcb_205 rfl) H
  replace H := pLds (r := 90030) rfl H
  exact pRetR H
/-- TwoCamps$Tape.isBetween(Ljava/lang/String;II)Z -/
def S_201_3 (s : Nat) (p2 : Int32) (p3 : Int32) (P3 : Int32 → pMem → pT Int32) (x4 : Int32) (M : pMem) : pT Int32 := tIf ((pSl s) ≤ x4) (tRet (kI 1) M) (tIf ((pSc s x4) = (f_198 (p2 + x4) M)) (P3 (x4 + kI 1) M) (tRet (kI 0) M))
def C_201 (s : Nat) (p2 : Int32) (p3 : Int32) (P3 : Int32 → pMem → pT Int32) : Prop := (∀ (x4 : Int32) M v N, S_201_3 s p2 p3 P3 x4 M v N → P3 x4 M v N)
def L_201_3 (s : Nat) (p2 : Int32) (p3 : Int32) (x4 : Int32) (M : pMem) : pT Int32 := fun v N => ∀ P : (Int32 → pMem → pT Int32), C_201 s p2 p3 P → P x4 M v N
def D_201 (s : Nat) (p2 : Int32) (p3 : Int32) (M : pMem) : pT Int32 := tIf ((pSl s) = (p3 - p2)) (L_201_3 s p2 p3 (kI 0) M) (tRet (kI 0) M)
theorem K_201 {X : aX} {F d : Nat} {K : Nat → aK} (hS : pS K) {s : Nat} {p2 : Int32} {p3 : Int32} {out : Option Value × aH} (P3 : Int32 → pMem → pT Int32) (hC : C_201 s p2 p3 P3) : ∀ f, (∀ (x4 : Int32) M, pm X F d 201 f 3 [.iload 4, .aload 1, .invokevirtual 689900, .if_icmp .ge 7] [.ref 1, .ref s, .int p2, .int p3, .int x4] [] (pH K M) out → pG eI K out (P3 x4 M)) := by
  intro f
  induction f using Nat.strongRecOn with
  | _ f ih =>
    intro x4 M H
    refine pG_mono (fun v N h => hC x4 M v N h) ?_
    unfold S_201_3
    replace H := pRun (ls' := [.ref 1, .ref s, .int p2, .int p3, .int x4]) (st' := [.ref s, .int x4]) 2 rfl H
    replace H := pSln rfl H
    rcases pIfc (n1 := 7) rfl (mcb_201 rfl) (mcb_201 rfl) H with ⟨g1, g0, _, H⟩ | ⟨g1, g0, _, H⟩
    · refine pG_pos (c := (pSl s) ≤ x4) g1 ?_
      replace H := pRun (ls' := [.ref 1, .ref s, .int p2, .int p3, .int x4]) (st' := [.int (kI 1)]) 1 rfl H
      exact pG_ret (pRetI H)
    · refine pG_neg (c := (pSl s) ≤ x4) g1 ?_
      replace H := pRun (ls' := [.ref 1, .ref s, .int p2, .int p3, .int x4]) (st' := [.int x4, .ref s]) 2 rfl H
      replace H := pSch rfl H
      replace H := pRun (ls' := [.ref 1, .ref s, .int p2, .int p3, .int x4]) (st' := [.int (p2 + x4), .ref 1, .int (pSc s x4)]) 4 rfl H
      obtain ⟨rv, h1, hc, H⟩ := pCalV 198 1 1 (as := [.int (p2 + x4)]) (rest := [.int (pSc s x4)]) rfl (by decide) (by decide +kernel) rfl rfl H
      replace H := pUseF (f_198_ok hS hc) H
      rcases pIfc (n1 := 6) rfl (mcb_201 rfl) (mcb_201 rfl) H with ⟨g2, g0, _, H⟩ | ⟨g2, g0, _, H⟩
      · refine pG_pos (c := (pSc s x4) = (f_198 (p2 + x4) M)) g2 ?_
        replace H := pRun (ls' := [.ref 1, .ref s, .int p2, .int p3, .int (x4 + kI 1)]) (st' := []) 1 rfl H
        obtain ⟨g0, _, H⟩ := pGo (n1 := 3) rfl (mcb_201 rfl) H
        exact (ih _ (by omega)) _  _ H
      · refine pG_neg (c := (pSc s x4) = (f_198 (p2 + x4) M)) g2 ?_
        replace H := pRun (ls' := [.ref 1, .ref s, .int p2, .int p3, .int x4]) (st' := [.int (kI 0)]) 1 rfl H
        exact pG_ret (pRetI H)
theorem L_201_3_ok {X : aX} {F d : Nat} {K : Nat → aK} (hS : pS K) {s : Nat} {p2 : Int32} {p3 : Int32} {out : Option Value × aH} {f : Nat} {x4 : Int32} {M : pMem} (H : pm X F d 201 f 3 [.iload 4, .aload 1, .invokevirtual 689900, .if_icmp .ge 7] [.ref 1, .ref s, .int p2, .int p3, .int x4] [] (pH K M) out) : pG eI K out (L_201_3 s p2 p3 x4 M) := by
  refine pG_all (C := fun P : (Int32 → pMem → pT Int32) => C_201 s p2 p3 P) (T := fun P => P x4 M) eI_inj (fun _ _ _ _ => True) ?_ (fun P hP => (K_201 hS P hP f) _ _ H)
  exact (fun _ _ _ _ _ => trivial)
theorem D_201_ok {X : aX} {F d : Nat} {K : Nat → aK} (hS : pS K) {s : Nat} {p2 : Int32} {p3 : Int32} {M : pMem} {out : Option Value × aH} (H : aM X F d 201 [.ref 1, .ref s, .int p2, .int p3] (pH K M) = some out) : pG eI K out (D_201 s p2 p3 M) := by
  obtain ⟨d', g0, _, H⟩ := pEnt (n := 5) (ls := [.ref 1, .ref s, .int p2, .int p3, aD]) (mcb_201 rfl) (by decide +kernel) rfl H
  unfold D_201
  replace H := pRun (ls' := [.ref 1, .ref s, .int p2, .int p3, aD]) (st' := [.ref s]) 1 rfl H
  replace H := pSln rfl H
  replace H := pRun (ls' := [.ref 1, .ref s, .int p2, .int p3, aD]) (st' := [.int (p3 - p2), .int (pSl s)]) 3 rfl H
  rcases pIfc (n1 := 2) rfl (mcb_201 rfl) (mcb_201 rfl) H with ⟨g1, g0, _, H⟩ | ⟨g1, g0, _, H⟩
  · refine pG_pos (c := (pSl s) = (p3 - p2)) g1 ?_
    replace H := pRun (ls' := [.ref 1, .ref s, .int p2, .int p3, .int (kI 0)]) (st' := []) 2 rfl H
    obtain ⟨g0, _, H⟩ := pFall (mcb_201 rfl) H
    exact L_201_3_ok hS  H
  · refine pG_neg (c := (pSl s) = (p3 - p2)) g1 ?_
    replace H := pRun (ls' := [.ref 1, .ref s, .int p2, .int p3, aD]) (st' := [.int (kI 0)]) 1 rfl H
    exact pG_ret (pRetI H)
def l_201 (s : Nat) : List (Nat × Nat) := []
theorem FC_201 {s : Nat} {p2 : Int32} {p3 : Int32} : C_201 s p2 p3 (fun _ M _ N => pFr (l_201 s) M N) := fun x4 M => show pTf (l_201 s) M (S_201_3 s p2 p3 _ x4 M) from (tf_if (tf_ret pFr_refl) (tf_if (tf_jump pFr_refl) (tf_ret pFr_refl)))
theorem F_201 {s : Nat} {p2 : Int32} {p3 : Int32} {M : pMem} {v : Int32} {N : pMem} (h : D_201 s p2 p3 M v N) : pFr (l_201 s) M N :=
  (show pTf (l_201 s) M (D_201 s p2 p3 M) from (tf_if (tf_jumpL (fun _ M _ N => pFr (l_201 s) M N) (FC_201) rfl pFr_refl) (tf_ret pFr_refl))) v N h
/-- TwoCamps$Tape.wordBetween(II)I -/
def S_200_1 (p1 : Int32) (p2 : Int32) (P1 : Int32 → pMem → pT Int32) (x3 : Int32) (M : pMem) : pT Int32 := tIf ((kI 28) < x3) (tRet (kI 102) M) (tCall (D_201 (f_205 x3) p1 p2 M) fun v1 M1 => tIf (v1 = 0) (P1 (x3 + kI 1) M1) (tRet x3 M1))
def C_200 (p1 : Int32) (p2 : Int32) (P1 : Int32 → pMem → pT Int32) : Prop := (∀ (x3 : Int32) M v N, S_200_1 p1 p2 P1 x3 M v N → P1 x3 M v N)
def L_200_1 (p1 : Int32) (p2 : Int32) (x3 : Int32) (M : pMem) : pT Int32 := fun v N => ∀ P : (Int32 → pMem → pT Int32), C_200 p1 p2 P → P x3 M v N
def D_200 (p1 : Int32) (p2 : Int32) (M : pMem) : pT Int32 := L_200_1 p1 p2 (kI 0) M
theorem K_200 {X : aX} {F d : Nat} {K : Nat → aK} (hS : pS K) {p1 : Int32} {p2 : Int32} {out : Option Value × aH} (P1 : Int32 → pMem → pT Int32) (hC : C_200 p1 p2 P1) : ∀ f, (∀ (x3 : Int32) M, pm X F d 200 f 1 [.iload 3, .bipush 28, .if_icmp .gt 5] [.ref 1, .int p1, .int p2, .int x3] [] (pH K M) out → pG eI K out (P1 x3 M)) := by
  intro f
  induction f using Nat.strongRecOn with
  | _ f ih =>
    intro x3 M H
    refine pG_mono (fun v N h => hC x3 M v N h) ?_
    unfold S_200_1
    replace H := pRun (ls' := [.ref 1, .int p1, .int p2, .int x3]) (st' := [.int (kI 28), .int x3]) 2 rfl H
    rcases pIfc (n1 := 5) rfl (mcb_200 rfl) (mcb_200 rfl) H with ⟨g1, g0, _, H⟩ | ⟨g1, g0, _, H⟩
    · refine pG_pos (c := (kI 28) < x3) g1 ?_
      replace H := pRun (ls' := [.ref 1, .int p1, .int p2, .int x3]) (st' := [.int (kI 102)]) 1 rfl H
      exact pG_ret (pRetI H)
    · refine pG_neg (c := (kI 28) < x3) g1 ?_
      replace H := pRun (ls' := [.ref 1, .int p1, .int p2, .int x3]) (st' := [.int x3, .ref 1]) 2 rfl H
      obtain ⟨rv, h1, hc, H⟩ := pCalT 205 1 (as := [.int x3]) (rest := [.ref 1]) rfl (by decide) (by decide +kernel) rfl rfl H
      replace H := pUseF (f_205_ok hS hc) H
      replace H := pRun (ls' := [.ref 1, .int p1, .int p2, .int x3]) (st' := [.int p2, .int p1, .ref (f_205 x3), .ref 1]) 2 rfl H
      obtain ⟨rv, h1, hc, H⟩ := pCalV 201 3 1 (as := [.ref (f_205 x3), .int p1, .int p2]) (rest := []) rfl (by decide) (by decide +kernel) rfl rfl H
      obtain ⟨v1, M1, hD, H⟩ := pUseI (D_201_ok hS hc) H
      refine pG_call (x := v1) (M1 := M1) hD ?_
      rcases pIf0 (n1 := 4) rfl (mcb_200 rfl) (mcb_200 rfl) H with ⟨g2, g0, _, H⟩ | ⟨g2, g0, _, H⟩
      · refine pG_pos (c := v1 = 0) g2 ?_
        replace H := pRun (ls' := [.ref 1, .int p1, .int p2, .int (x3 + kI 1)]) (st' := []) 1 rfl H
        obtain ⟨g0, _, H⟩ := pGo (n1 := 1) rfl (mcb_200 rfl) H
        exact (ih _ (by omega)) _  _ H
      · refine pG_neg (c := v1 = 0) g2 ?_
        replace H := pRun (ls' := [.ref 1, .int p1, .int p2, .int x3]) (st' := [.int x3]) 1 rfl H
        exact pG_ret (pRetI H)
theorem L_200_1_ok {X : aX} {F d : Nat} {K : Nat → aK} (hS : pS K) {p1 : Int32} {p2 : Int32} {out : Option Value × aH} {f : Nat} {x3 : Int32} {M : pMem} (H : pm X F d 200 f 1 [.iload 3, .bipush 28, .if_icmp .gt 5] [.ref 1, .int p1, .int p2, .int x3] [] (pH K M) out) : pG eI K out (L_200_1 p1 p2 x3 M) := by
  refine pG_all (C := fun P : (Int32 → pMem → pT Int32) => C_200 p1 p2 P) (T := fun P => P x3 M) eI_inj (fun _ _ _ _ => True) ?_ (fun P hP => (K_200 hS P hP f) _ _ H)
  exact (fun _ _ _ _ _ => trivial)
theorem D_200_ok {X : aX} {F d : Nat} {K : Nat → aK} (hS : pS K) {p1 : Int32} {p2 : Int32} {M : pMem} {out : Option Value × aH} (H : aM X F d 200 [.ref 1, .int p1, .int p2] (pH K M) = some out) : pG eI K out (D_200 p1 p2 M) := by
  obtain ⟨d', g0, _, H⟩ := pEnt (n := 4) (ls := [.ref 1, .int p1, .int p2, aD]) (mcb_200 rfl) (by decide +kernel) rfl H
  unfold D_200
  replace H := pRun (ls' := [.ref 1, .int p1, .int p2, .int (kI 0)]) (st' := []) 2 rfl H
  obtain ⟨g0, _, H⟩ := pFall (mcb_200 rfl) H
  exact L_200_1_ok hS  H
def l_200 : List (Nat × Nat) := []
theorem FC_200 {p1 : Int32} {p2 : Int32} : C_200 p1 p2 (fun _ M _ N => pFr (l_200) M N) := fun x3 M => show pTf (l_200) M (S_200_1 p1 p2 _ x3 M) from (tf_if (tf_ret pFr_refl) (tf_call pFr_refl (fun _ _ h => F_201 h) [] rfl fun _ M1 f1 => (tf_if (tf_jump f1) (tf_ret f1))))
theorem F_200 {p1 : Int32} {p2 : Int32} {M : pMem} {v : Int32} {N : pMem} (h : D_200 p1 p2 M v N) : pFr (l_200) M N :=
  (show pTf (l_200) M (D_200 p1 p2 M) from (tf_jumpL (fun _ M _ N => pFr (l_200) M N) (FC_200) rfl pFr_refl)) v N h
/-- TwoCamps$Tape.valueBetween(II)I -/
def S_199_1 (p1 : Int32) (p2 : Int32) (P1 : Int32 → Int32 → pMem → pT Int32) (x3 : Int32) (x4 : Int32) (M : pMem) : pT Int32 := tIf (p2 ≤ x4) (tRet x3 M) (P1 (((x3 * (kI 10)) + (f_198 x4 M)) - (kI 48)) (x4 + kI 1) M)
def C_199 (p1 : Int32) (p2 : Int32) (P1 : Int32 → Int32 → pMem → pT Int32) : Prop := (∀ (x3 : Int32) (x4 : Int32) M v N, S_199_1 p1 p2 P1 x3 x4 M v N → P1 x3 x4 M v N)
def L_199_1 (p1 : Int32) (p2 : Int32) (x3 : Int32) (x4 : Int32) (M : pMem) : pT Int32 := fun v N => ∀ P : (Int32 → Int32 → pMem → pT Int32), C_199 p1 p2 P → P x3 x4 M v N
def D_199 (p1 : Int32) (p2 : Int32) (M : pMem) : pT Int32 := L_199_1 p1 p2 (kI 0) p1 M
theorem K_199 {X : aX} {F d : Nat} {K : Nat → aK} (hS : pS K) {p1 : Int32} {p2 : Int32} {out : Option Value × aH} (P1 : Int32 → Int32 → pMem → pT Int32) (hC : C_199 p1 p2 P1) : ∀ f, (∀ (x3 : Int32) (x4 : Int32) M, pm X F d 199 f 1 [.iload 4, .iload 2, .if_icmp .ge 3] [.ref 1, .int p1, .int p2, .int x3, .int x4] [] (pH K M) out → pG eI K out (P1 x3 x4 M)) := by
  intro f
  induction f using Nat.strongRecOn with
  | _ f ih =>
    intro x3 x4 M H
    refine pG_mono (fun v N h => hC x3 x4 M v N h) ?_
    unfold S_199_1
    replace H := pRun (ls' := [.ref 1, .int p1, .int p2, .int x3, .int x4]) (st' := [.int p2, .int x4]) 2 rfl H
    rcases pIfc (n1 := 3) rfl (mcb_199 rfl) (mcb_199 rfl) H with ⟨g1, g0, _, H⟩ | ⟨g1, g0, _, H⟩
    · refine pG_pos (c := p2 ≤ x4) g1 ?_
      replace H := pRun (ls' := [.ref 1, .int p1, .int p2, .int x3, .int x4]) (st' := [.int x3]) 1 rfl H
      exact pG_ret (pRetI H)
    · refine pG_neg (c := p2 ≤ x4) g1 ?_
      replace H := pRun (ls' := [.ref 1, .int p1, .int p2, .int x3, .int x4]) (st' := [.int x4, .ref 1, .int (x3 * (kI 10))]) 5 rfl H
      obtain ⟨rv, h1, hc, H⟩ := pCalV 198 1 1 (as := [.int x4]) (rest := [.int (x3 * (kI 10))]) rfl (by decide) (by decide +kernel) rfl rfl H
      replace H := pUseF (f_198_ok hS hc) H
      replace H := pRun (ls' := [.ref 1, .int p1, .int p2, .int (((x3 * (kI 10)) + (f_198 x4 M)) - (kI 48)), .int (x4 + kI 1)]) (st' := []) 5 rfl H
      obtain ⟨g0, _, H⟩ := pGo (n1 := 1) rfl (mcb_199 rfl) H
      exact (ih _ (by omega)) _ _  _ H
theorem L_199_1_ok {X : aX} {F d : Nat} {K : Nat → aK} (hS : pS K) {p1 : Int32} {p2 : Int32} {out : Option Value × aH} {f : Nat} {x3 : Int32} {x4 : Int32} {M : pMem} (H : pm X F d 199 f 1 [.iload 4, .iload 2, .if_icmp .ge 3] [.ref 1, .int p1, .int p2, .int x3, .int x4] [] (pH K M) out) : pG eI K out (L_199_1 p1 p2 x3 x4 M) := by
  refine pG_all (C := fun P : (Int32 → Int32 → pMem → pT Int32) => C_199 p1 p2 P) (T := fun P => P x3 x4 M) eI_inj (fun _ _ _ _ _ => True) ?_ (fun P hP => (K_199 hS P hP f) _ _ _ H)
  exact (fun _ _ _ _ _ _ => trivial)
theorem D_199_ok {X : aX} {F d : Nat} {K : Nat → aK} (hS : pS K) {p1 : Int32} {p2 : Int32} {M : pMem} {out : Option Value × aH} (H : aM X F d 199 [.ref 1, .int p1, .int p2] (pH K M) = some out) : pG eI K out (D_199 p1 p2 M) := by
  obtain ⟨d', g0, _, H⟩ := pEnt (n := 5) (ls := [.ref 1, .int p1, .int p2, aD, aD]) (mcb_199 rfl) (by decide +kernel) rfl H
  unfold D_199
  replace H := pRun (ls' := [.ref 1, .int p1, .int p2, .int (kI 0), .int p1]) (st' := []) 4 rfl H
  obtain ⟨g0, _, H⟩ := pFall (mcb_199 rfl) H
  exact L_199_1_ok hS  H
def l_199 : List (Nat × Nat) := []
theorem FC_199 {p1 : Int32} {p2 : Int32} : C_199 p1 p2 (fun _ _ M _ N => pFr (l_199) M N) := fun x3 x4 M => show pTf (l_199) M (S_199_1 p1 p2 _ x3 x4 M) from (tf_if (tf_ret pFr_refl) (tf_jump pFr_refl))
theorem F_199 {p1 : Int32} {p2 : Int32} {M : pMem} {v : Int32} {N : pMem} (h : D_199 p1 p2 M v N) : pFr (l_199) M N :=
  (show pTf (l_199) M (D_199 p1 p2 M) from (tf_jumpL (fun _ _ M _ N => pFr (l_199) M N) (FC_199) rfl pFr_refl)) v N h
/-- TwoCamps$Tape.put(III)V -/
def D_197 (p1 : Int32) (p2 : Int32) (p3 : Int32) (M : pMem) : pT Unit := tIf ((M 1 1) < 0) (tRet () M) (tIf ((kI 500) ≤ (M 1 1)) (tRet () M) (tGd (pIn (M 1 1) 500) <| tPut (aPut M 3 (ix (M 1 1)) p1) fun M1 => tGd (pIn (M1 1 1) 500) <| tPut (aPut M1 4 (ix (M1 1 1)) p2) fun M2 => tGd (pIn (M2 1 1) 500) <| tPut (aPut M2 5 (ix (M2 1 1)) p3) fun M3 => tPut (aPut M3 1 1 ((M3 1 1) + (kI 1))) fun M4 => tRet () M4))
theorem D_197_ok {X : aX} {F d : Nat} {K : Nat → aK} (hS : pS K) {p1 : Int32} {p2 : Int32} {p3 : Int32} {M : pMem} {out : Option Value × aH} (H : aM X F d 197 [.ref 1, .int p1, .int p2, .int p3] (pH K M) = some out) : pG eU K out (D_197 p1 p2 p3 M) := by
  obtain ⟨d', g0, _, H⟩ := pEnt (n := 4) (ls := [.ref 1, .int p1, .int p2, .int p3]) (mcb_197 rfl) (by decide +kernel) rfl H
  unfold D_197
  replace H := pRun (ls' := [.ref 1, .int p1, .int p2, .int p3]) (st' := [.ref 1]) 1 rfl H
  replace H := pGetN (v := M 1 1) rfl (by decide) H
  rcases pIf0 (n1 := 3) rfl (mcb_197 rfl) (mcb_197 rfl) H with ⟨g1, g0, _, H⟩ | ⟨g1, g0, _, H⟩
  · refine pG_pos (c := (M 1 1) < 0) g1 ?_
    exact pG_ret (pRetU H)
  · refine pG_neg (c := (M 1 1) < 0) g1 ?_
    replace H := pRun (ls' := [.ref 1, .int p1, .int p2, .int p3]) (st' := [.ref 1]) 1 rfl H
    replace H := pGetN (v := M 1 1) rfl (by decide) H
    replace H := pRun (ls' := [.ref 1, .int p1, .int p2, .int p3]) (st' := [.int (kI 500), .int (M 1 1)]) 1 rfl H
    rcases pIfc (n1 := 3) rfl (mcb_197 rfl) (mcb_197 rfl) H with ⟨g2, g0, _, H⟩ | ⟨g2, g0, _, H⟩
    · refine pG_pos (c := (kI 500) ≤ (M 1 1)) g2 ?_
      exact pG_ret (pRetU H)
    · refine pG_neg (c := (kI 500) ≤ (M 1 1)) g2 ?_
      replace H := pRun (ls' := [.ref 1, .int p1, .int p2, .int p3]) (st' := [.ref 1]) 1 rfl H
      replace H := pGetR (r := 3) (pRf hS (by decide +kernel)) rfl H
      replace H := pRun (ls' := [.ref 1, .int p1, .int p2, .int p3]) (st' := [.ref 1, .ref 3]) 1 rfl H
      replace H := pGetN (v := M 1 1) rfl (by decide) H
      replace H := pRun (ls' := [.ref 1, .int p1, .int p2, .int p3]) (st' := [.int p1, .int (M 1 1), .ref 3]) 1 rfl H
      obtain ⟨g3, M1, eM1, H⟩ := pIst (n := 500) (pLn hS (show pCa 3 500 = true by decide +kernel)) H
      refine pG_gd g3 (pG_put (M2 := M1) eM1 ?_)
      replace H := pRun (ls' := [.ref 1, .int p1, .int p2, .int p3]) (st' := [.ref 1]) 1 rfl H
      replace H := pGetR (r := 4) (pRf hS (by decide +kernel)) rfl H
      replace H := pRun (ls' := [.ref 1, .int p1, .int p2, .int p3]) (st' := [.ref 1, .ref 4]) 1 rfl H
      replace H := pGetN (v := M1 1 1) rfl (by decide) H
      replace H := pRun (ls' := [.ref 1, .int p1, .int p2, .int p3]) (st' := [.int p2, .int (M1 1 1), .ref 4]) 1 rfl H
      obtain ⟨g4, M2, eM2, H⟩ := pIst (n := 500) (pLn hS (show pCa 4 500 = true by decide +kernel)) H
      refine pG_gd g4 (pG_put (M2 := M2) eM2 ?_)
      replace H := pRun (ls' := [.ref 1, .int p1, .int p2, .int p3]) (st' := [.ref 1]) 1 rfl H
      replace H := pGetR (r := 5) (pRf hS (by decide +kernel)) rfl H
      replace H := pRun (ls' := [.ref 1, .int p1, .int p2, .int p3]) (st' := [.ref 1, .ref 5]) 1 rfl H
      replace H := pGetN (v := M2 1 1) rfl (by decide) H
      replace H := pRun (ls' := [.ref 1, .int p1, .int p2, .int p3]) (st' := [.int p3, .int (M2 1 1), .ref 5]) 1 rfl H
      obtain ⟨g5, M3, eM3, H⟩ := pIst (n := 500) (pLn hS (show pCa 5 500 = true by decide +kernel)) H
      refine pG_gd g5 (pG_put (M2 := M3) eM3 ?_)
      replace H := pRun (ls' := [.ref 1, .int p1, .int p2, .int p3]) (st' := [.ref 1, .ref 1]) 2 rfl H
      replace H := pGetN (v := M3 1 1) rfl (by decide) H
      replace H := pRun (ls' := [.ref 1, .int p1, .int p2, .int p3]) (st' := [.int ((M3 1 1) + (kI 1)), .ref 1]) 2 rfl H
      obtain ⟨M4, eM4, H⟩ := pPutN (j := 1) rfl H
      refine pG_put (M2 := M4) eM4 ?_
      obtain ⟨g0, _, H⟩ := pFall (mcb_197 rfl) H
      exact pG_ret (pRetU H)
def l_197 : List (Nat × Nat) := [(3, 999), (4, 999), (5, 999), (1, 1)]
theorem F_197 {p1 : Int32} {p2 : Int32} {p3 : Int32} {M : pMem} {v : Unit} {N : pMem} (h : D_197 p1 p2 p3 M v N) : pFr (l_197) M N :=
  (show pTf (l_197) M (D_197 p1 p2 p3 M) from (tf_if (tf_ret pFr_refl) (tf_if (tf_ret pFr_refl) (tf_gd fun g3 => (tf_putA pFr_refl 0 rfl fun M1 f1 => (tf_gd fun g4 => (tf_putA f1 1 rfl fun M2 f2 => (tf_gd fun g5 => (tf_putA f2 2 rfl fun M3 f3 => (tf_put f3 3 rfl fun M4 f4 => (tf_ret f4))))))))))) v N h
/-- TwoCamps$Tape.findToken(I)I -/
def S_196_1 (p1 : Int32) (P1 : Int32 → pMem → pT Int32) (P6 : Int32 → pMem → pT Int32) (x3 : Int32) (M : pMem) : pT Int32 := tIf ((M 1 0) ≤ x3) (tCall (D_200 p1 x3 M) fun v1 M1 => tCall (D_197 v1 p1 (kI 0) M1) fun _ M2 => tRet x3 M2) (tIf ((f_202 (f_198 x3 M)) = 0) (tCall (D_200 p1 x3 M) fun v1 M1 => tCall (D_197 v1 p1 (kI 0) M1) fun _ M2 => tRet x3 M2) (P1 (x3 + kI 1) M))
def S_196_6 (p1 : Int32) (P1 : Int32 → pMem → pT Int32) (P6 : Int32 → pMem → pT Int32) (x3 : Int32) (M : pMem) : pT Int32 := tIf ((M 1 0) ≤ x3) (tIf ((kI 4) < (x3 - p1)) (tCall (D_199 p1 x3 M) fun v1 M1 => tCall (D_197 (kI 102) p1 v1 M1) fun _ M2 => tRet x3 M2) (tCall (D_199 p1 x3 M) fun v1 M1 => tCall (D_197 (kI 100) p1 v1 M1) fun _ M2 => tRet x3 M2)) (tIf ((f_203 (f_198 x3 M)) = 0) (tIf ((kI 4) < (x3 - p1)) (tCall (D_199 p1 x3 M) fun v1 M1 => tCall (D_197 (kI 102) p1 v1 M1) fun _ M2 => tRet x3 M2) (tCall (D_199 p1 x3 M) fun v1 M1 => tCall (D_197 (kI 100) p1 v1 M1) fun _ M2 => tRet x3 M2)) (P6 (x3 + kI 1) M))
def C_196 (p1 : Int32) (P1 : Int32 → pMem → pT Int32) (P6 : Int32 → pMem → pT Int32) : Prop := (∀ (x3 : Int32) M v N, S_196_1 p1 P1 P6 x3 M v N → P1 x3 M v N) ∧ (∀ (x3 : Int32) M v N, S_196_6 p1 P1 P6 x3 M v N → P6 x3 M v N)
def L_196_1 (p1 : Int32) (x3 : Int32) (M : pMem) : pT Int32 := fun v N => ∀ P : (Int32 → pMem → pT Int32) × (Int32 → pMem → pT Int32), C_196 p1 P.1 P.2 → P.1 x3 M v N
def L_196_6 (p1 : Int32) (x3 : Int32) (M : pMem) : pT Int32 := fun v N => ∀ P : (Int32 → pMem → pT Int32) × (Int32 → pMem → pT Int32), C_196 p1 P.1 P.2 → P.2 x3 M v N
def D_196 (p1 : Int32) (M : pMem) : pT Int32 := tIf ((f_202 (f_198 p1 M)) = 0) (tIf ((f_203 (f_198 p1 M)) = 0) (tIf ((f_198 p1 M) = (kI 32)) (tRet (p1 + (kI 1)) M) (tIf ((f_198 p1 M) = (kI 10)) (tRet (p1 + (kI 1)) M) (tIf ((f_204 (f_198 p1 M)) = 0) (tCall (D_197 (kI 102) p1 (kI 0) M) fun _ M1 => tRet (p1 + (kI 1)) M1) (tCall (D_197 (f_198 p1 M) p1 (kI 0) M) fun _ M1 => tRet (p1 + (kI 1)) M1)))) (L_196_6 p1 (p1 + (kI 1)) M)) (L_196_1 p1 (p1 + (kI 1)) M)
theorem K_196 {X : aX} {F d : Nat} {K : Nat → aK} (hS : pS K) {p1 : Int32} {out : Option Value × aH} (P1 : Int32 → pMem → pT Int32) (P6 : Int32 → pMem → pT Int32) (hC : C_196 p1 P1 P6) : ∀ f, (∀ (x3 : Int32) (u2 : Int32) M, pm X F d 196 f 1 [.iload 3, .aload 0, .getfield 18807000, .if_icmp .ge 4] [.ref 1, .int p1, .int u2, .int x3] [] (pH K M) out → pG eI K out (P1 x3 M)) ∧ (∀ (x3 : Int32) (u2 : Int32) M, pm X F d 196 f 6 [.iload 3, .aload 0, .getfield 18807000, .if_icmp .ge 9] [.ref 1, .int p1, .int u2, .int x3] [] (pH K M) out → pG eI K out (P6 x3 M)) := by
  intro f
  induction f using Nat.strongRecOn with
  | _ f ih =>
    refine ⟨?_, ?_⟩
    · intro x3 u2 M H
      refine pG_mono (fun v N h => hC.1 x3 M v N h) ?_
      unfold S_196_1
      replace H := pRun (ls' := [.ref 1, .int p1, .int u2, .int x3]) (st' := [.ref 1, .int x3]) 2 rfl H
      replace H := pGetN (v := M 1 0) rfl (by decide) H
      rcases pIfc (n1 := 4) rfl (mcb_196 rfl) (mcb_196 rfl) H with ⟨g1, g0, _, H⟩ | ⟨g1, g0, _, H⟩
      · refine pG_pos (c := (M 1 0) ≤ x3) g1 ?_
        replace H := pRun (ls' := [.ref 1, .int p1, .int u2, .int x3]) (st' := [.int x3, .int p1, .ref 1, .ref 1]) 4 rfl H
        obtain ⟨rv, h1, hc, H⟩ := pCalV 200 2 1 (as := [.int p1, .int x3]) (rest := [.ref 1]) rfl (by decide) (by decide +kernel) rfl rfl H
        obtain ⟨v1, M1, hD, H⟩ := pUseI (D_200_ok hS hc) H
        refine pG_call (x := v1) (M1 := M1) hD ?_
        replace H := pRun (ls' := [.ref 1, .int p1, .int u2, .int x3]) (st' := [.int (kI 0), .int p1, .int v1, .ref 1]) 2 rfl H
        obtain ⟨rv, h1, hc, H⟩ := pCalV 197 3 1 (as := [.int v1, .int p1, .int (kI 0)]) (rest := []) rfl (by decide) (by decide +kernel) rfl rfl H
        obtain ⟨v2, M2, hD, H⟩ := pUseU (D_197_ok hS hc) H
        refine pG_call (x := v2) (M1 := M2) hD ?_
        obtain ⟨g0, _, H⟩ := pGo (n1 := 19) rfl (mcb_196 rfl) H
        replace H := pRun (ls' := [.ref 1, .int p1, .int u2, .int x3]) (st' := [.int x3]) 1 rfl H
        exact pG_ret (pRetI H)
      · refine pG_neg (c := (M 1 0) ≤ x3) g1 ?_
        replace H := pRun (ls' := [.ref 1, .int p1, .int u2, .int x3]) (st' := [.int x3, .ref 1]) 2 rfl H
        obtain ⟨rv, h1, hc, H⟩ := pCalV 198 1 1 (as := [.int x3]) (rest := []) rfl (by decide) (by decide +kernel) rfl rfl H
        replace H := pUseF (f_198_ok hS hc) H
        obtain ⟨rv, h1, hc, H⟩ := pCalT 202 1 (as := [.int (f_198 x3 M)]) (rest := []) rfl (by decide) (by decide +kernel) rfl rfl H
        replace H := pUseF (f_202_ok hS hc) H
        rcases pIf0 (n1 := 4) rfl (mcb_196 rfl) (mcb_196 rfl) H with ⟨g2, g0, _, H⟩ | ⟨g2, g0, _, H⟩
        · refine pG_pos (c := (f_202 (f_198 x3 M)) = 0) g2 ?_
          replace H := pRun (ls' := [.ref 1, .int p1, .int u2, .int x3]) (st' := [.int x3, .int p1, .ref 1, .ref 1]) 4 rfl H
          obtain ⟨rv, h1, hc, H⟩ := pCalV 200 2 1 (as := [.int p1, .int x3]) (rest := [.ref 1]) rfl (by decide) (by decide +kernel) rfl rfl H
          obtain ⟨v1, M1, hD, H⟩ := pUseI (D_200_ok hS hc) H
          refine pG_call (x := v1) (M1 := M1) hD ?_
          replace H := pRun (ls' := [.ref 1, .int p1, .int u2, .int x3]) (st' := [.int (kI 0), .int p1, .int v1, .ref 1]) 2 rfl H
          obtain ⟨rv, h1, hc, H⟩ := pCalV 197 3 1 (as := [.int v1, .int p1, .int (kI 0)]) (rest := []) rfl (by decide) (by decide +kernel) rfl rfl H
          obtain ⟨v2, M2, hD, H⟩ := pUseU (D_197_ok hS hc) H
          refine pG_call (x := v2) (M1 := M2) hD ?_
          obtain ⟨g0, _, H⟩ := pGo (n1 := 19) rfl (mcb_196 rfl) H
          replace H := pRun (ls' := [.ref 1, .int p1, .int u2, .int x3]) (st' := [.int x3]) 1 rfl H
          exact pG_ret (pRetI H)
        · refine pG_neg (c := (f_202 (f_198 x3 M)) = 0) g2 ?_
          replace H := pRun (ls' := [.ref 1, .int p1, .int u2, .int (x3 + kI 1)]) (st' := []) 1 rfl H
          obtain ⟨g0, _, H⟩ := pGo (n1 := 1) rfl (mcb_196 rfl) H
          exact (ih _ (by omega)).1 _ _  _ H
    · intro x3 u2 M H
      refine pG_mono (fun v N h => hC.2 x3 M v N h) ?_
      unfold S_196_6
      replace H := pRun (ls' := [.ref 1, .int p1, .int u2, .int x3]) (st' := [.ref 1, .int x3]) 2 rfl H
      replace H := pGetN (v := M 1 0) rfl (by decide) H
      rcases pIfc (n1 := 9) rfl (mcb_196 rfl) (mcb_196 rfl) H with ⟨g1, g0, _, H⟩ | ⟨g1, g0, _, H⟩
      · refine pG_pos (c := (M 1 0) ≤ x3) g1 ?_
        replace H := pRun (ls' := [.ref 1, .int p1, .int u2, .int x3]) (st' := [.int (kI 4), .int (x3 - p1), .ref 1]) 5 rfl H
        rcases pIfc (n1 := 11) rfl (mcb_196 rfl) (mcb_196 rfl) H with ⟨g2, g0, _, H⟩ | ⟨g2, g0, _, H⟩
        · refine pG_pos (c := (kI 4) < (x3 - p1)) g2 ?_
          replace H := pRun (ls' := [.ref 1, .int p1, .int u2, .int x3]) (st' := [.int (kI 102), .ref 1]) 1 rfl H
          obtain ⟨g0, _, H⟩ := pFall (mcb_196 rfl) H
          replace H := pRun (ls' := [.ref 1, .int p1, .int u2, .int x3]) (st' := [.int x3, .int p1, .ref 1, .int p1, .int (kI 102), .ref 1]) 4 rfl H
          obtain ⟨rv, h1, hc, H⟩ := pCalV 199 2 1 (as := [.int p1, .int x3]) (rest := [.int p1, .int (kI 102), .ref 1]) rfl (by decide) (by decide +kernel) rfl rfl H
          obtain ⟨v1, M1, hD, H⟩ := pUseI (D_199_ok hS hc) H
          refine pG_call (x := v1) (M1 := M1) hD ?_
          obtain ⟨rv, h1, hc, H⟩ := pCalV 197 3 1 (as := [.int (kI 102), .int p1, .int v1]) (rest := []) rfl (by decide) (by decide +kernel) rfl rfl H
          obtain ⟨v2, M2, hD, H⟩ := pUseU (D_197_ok hS hc) H
          refine pG_call (x := v2) (M1 := M2) hD ?_
          obtain ⟨g0, _, H⟩ := pGo (n1 := 19) rfl (mcb_196 rfl) H
          replace H := pRun (ls' := [.ref 1, .int p1, .int u2, .int x3]) (st' := [.int x3]) 1 rfl H
          exact pG_ret (pRetI H)
        · refine pG_neg (c := (kI 4) < (x3 - p1)) g2 ?_
          replace H := pRun (ls' := [.ref 1, .int p1, .int u2, .int x3]) (st' := [.int (kI 100), .ref 1]) 1 rfl H
          obtain ⟨g0, _, H⟩ := pGo (n1 := 12) rfl (mcb_196 rfl) H
          replace H := pRun (ls' := [.ref 1, .int p1, .int u2, .int x3]) (st' := [.int x3, .int p1, .ref 1, .int p1, .int (kI 100), .ref 1]) 4 rfl H
          obtain ⟨rv, h1, hc, H⟩ := pCalV 199 2 1 (as := [.int p1, .int x3]) (rest := [.int p1, .int (kI 100), .ref 1]) rfl (by decide) (by decide +kernel) rfl rfl H
          obtain ⟨v1, M1, hD, H⟩ := pUseI (D_199_ok hS hc) H
          refine pG_call (x := v1) (M1 := M1) hD ?_
          obtain ⟨rv, h1, hc, H⟩ := pCalV 197 3 1 (as := [.int (kI 100), .int p1, .int v1]) (rest := []) rfl (by decide) (by decide +kernel) rfl rfl H
          obtain ⟨v2, M2, hD, H⟩ := pUseU (D_197_ok hS hc) H
          refine pG_call (x := v2) (M1 := M2) hD ?_
          obtain ⟨g0, _, H⟩ := pGo (n1 := 19) rfl (mcb_196 rfl) H
          replace H := pRun (ls' := [.ref 1, .int p1, .int u2, .int x3]) (st' := [.int x3]) 1 rfl H
          exact pG_ret (pRetI H)
      · refine pG_neg (c := (M 1 0) ≤ x3) g1 ?_
        replace H := pRun (ls' := [.ref 1, .int p1, .int u2, .int x3]) (st' := [.int x3, .ref 1]) 2 rfl H
        obtain ⟨rv, h1, hc, H⟩ := pCalV 198 1 1 (as := [.int x3]) (rest := []) rfl (by decide) (by decide +kernel) rfl rfl H
        replace H := pUseF (f_198_ok hS hc) H
        obtain ⟨rv, h1, hc, H⟩ := pCalT 203 1 (as := [.int (f_198 x3 M)]) (rest := []) rfl (by decide) (by decide +kernel) rfl rfl H
        replace H := pUseF (f_203_ok hS hc) H
        rcases pIf0 (n1 := 9) rfl (mcb_196 rfl) (mcb_196 rfl) H with ⟨g2, g0, _, H⟩ | ⟨g2, g0, _, H⟩
        · refine pG_pos (c := (f_203 (f_198 x3 M)) = 0) g2 ?_
          replace H := pRun (ls' := [.ref 1, .int p1, .int u2, .int x3]) (st' := [.int (kI 4), .int (x3 - p1), .ref 1]) 5 rfl H
          rcases pIfc (n1 := 11) rfl (mcb_196 rfl) (mcb_196 rfl) H with ⟨g3, g0, _, H⟩ | ⟨g3, g0, _, H⟩
          · refine pG_pos (c := (kI 4) < (x3 - p1)) g3 ?_
            replace H := pRun (ls' := [.ref 1, .int p1, .int u2, .int x3]) (st' := [.int (kI 102), .ref 1]) 1 rfl H
            obtain ⟨g0, _, H⟩ := pFall (mcb_196 rfl) H
            replace H := pRun (ls' := [.ref 1, .int p1, .int u2, .int x3]) (st' := [.int x3, .int p1, .ref 1, .int p1, .int (kI 102), .ref 1]) 4 rfl H
            obtain ⟨rv, h1, hc, H⟩ := pCalV 199 2 1 (as := [.int p1, .int x3]) (rest := [.int p1, .int (kI 102), .ref 1]) rfl (by decide) (by decide +kernel) rfl rfl H
            obtain ⟨v1, M1, hD, H⟩ := pUseI (D_199_ok hS hc) H
            refine pG_call (x := v1) (M1 := M1) hD ?_
            obtain ⟨rv, h1, hc, H⟩ := pCalV 197 3 1 (as := [.int (kI 102), .int p1, .int v1]) (rest := []) rfl (by decide) (by decide +kernel) rfl rfl H
            obtain ⟨v2, M2, hD, H⟩ := pUseU (D_197_ok hS hc) H
            refine pG_call (x := v2) (M1 := M2) hD ?_
            obtain ⟨g0, _, H⟩ := pGo (n1 := 19) rfl (mcb_196 rfl) H
            replace H := pRun (ls' := [.ref 1, .int p1, .int u2, .int x3]) (st' := [.int x3]) 1 rfl H
            exact pG_ret (pRetI H)
          · refine pG_neg (c := (kI 4) < (x3 - p1)) g3 ?_
            replace H := pRun (ls' := [.ref 1, .int p1, .int u2, .int x3]) (st' := [.int (kI 100), .ref 1]) 1 rfl H
            obtain ⟨g0, _, H⟩ := pGo (n1 := 12) rfl (mcb_196 rfl) H
            replace H := pRun (ls' := [.ref 1, .int p1, .int u2, .int x3]) (st' := [.int x3, .int p1, .ref 1, .int p1, .int (kI 100), .ref 1]) 4 rfl H
            obtain ⟨rv, h1, hc, H⟩ := pCalV 199 2 1 (as := [.int p1, .int x3]) (rest := [.int p1, .int (kI 100), .ref 1]) rfl (by decide) (by decide +kernel) rfl rfl H
            obtain ⟨v1, M1, hD, H⟩ := pUseI (D_199_ok hS hc) H
            refine pG_call (x := v1) (M1 := M1) hD ?_
            obtain ⟨rv, h1, hc, H⟩ := pCalV 197 3 1 (as := [.int (kI 100), .int p1, .int v1]) (rest := []) rfl (by decide) (by decide +kernel) rfl rfl H
            obtain ⟨v2, M2, hD, H⟩ := pUseU (D_197_ok hS hc) H
            refine pG_call (x := v2) (M1 := M2) hD ?_
            obtain ⟨g0, _, H⟩ := pGo (n1 := 19) rfl (mcb_196 rfl) H
            replace H := pRun (ls' := [.ref 1, .int p1, .int u2, .int x3]) (st' := [.int x3]) 1 rfl H
            exact pG_ret (pRetI H)
        · refine pG_neg (c := (f_203 (f_198 x3 M)) = 0) g2 ?_
          replace H := pRun (ls' := [.ref 1, .int p1, .int u2, .int (x3 + kI 1)]) (st' := []) 1 rfl H
          obtain ⟨g0, _, H⟩ := pGo (n1 := 6) rfl (mcb_196 rfl) H
          exact (ih _ (by omega)).2 _ _  _ H
theorem L_196_1_ok {X : aX} {F d : Nat} {K : Nat → aK} (hS : pS K) {p1 : Int32} {out : Option Value × aH} {f : Nat} {x3 : Int32} {u2 : Int32} {M : pMem} (H : pm X F d 196 f 1 [.iload 3, .aload 0, .getfield 18807000, .if_icmp .ge 4] [.ref 1, .int p1, .int u2, .int x3] [] (pH K M) out) : pG eI K out (L_196_1 p1 x3 M) := by
  refine pG_all (C := fun P : (Int32 → pMem → pT Int32) × (Int32 → pMem → pT Int32) => C_196 p1 P.1 P.2) (T := fun P => P.1 x3 M) eI_inj ((fun _ _ _ _ => True), (fun _ _ _ _ => True)) ?_ (fun P hP => (K_196 hS P.1 P.2 hP f).1 _ _ _ H)
  exact ⟨(fun _ _ _ _ _ => trivial), (fun _ _ _ _ _ => trivial)⟩
theorem L_196_6_ok {X : aX} {F d : Nat} {K : Nat → aK} (hS : pS K) {p1 : Int32} {out : Option Value × aH} {f : Nat} {x3 : Int32} {u2 : Int32} {M : pMem} (H : pm X F d 196 f 6 [.iload 3, .aload 0, .getfield 18807000, .if_icmp .ge 9] [.ref 1, .int p1, .int u2, .int x3] [] (pH K M) out) : pG eI K out (L_196_6 p1 x3 M) := by
  refine pG_all (C := fun P : (Int32 → pMem → pT Int32) × (Int32 → pMem → pT Int32) => C_196 p1 P.1 P.2) (T := fun P => P.2 x3 M) eI_inj ((fun _ _ _ _ => True), (fun _ _ _ _ => True)) ?_ (fun P hP => (K_196 hS P.1 P.2 hP f).2 _ _ _ H)
  exact ⟨(fun _ _ _ _ _ => trivial), (fun _ _ _ _ _ => trivial)⟩
theorem D_196_ok {X : aX} {F d : Nat} {K : Nat → aK} (hS : pS K) {p1 : Int32} {M : pMem} {out : Option Value × aH} (H : aM X F d 196 [.ref 1, .int p1] (pH K M) = some out) : pG eI K out (D_196 p1 M) := by
  obtain ⟨d', g0, _, H⟩ := pEnt (n := 4) (ls := [.ref 1, .int p1, aD, aD]) (mcb_196 rfl) (by decide +kernel) rfl H
  unfold D_196
  replace H := pRun (ls' := [.ref 1, .int p1, aD, aD]) (st' := [.int p1, .ref 1]) 2 rfl H
  obtain ⟨rv, h1, hc, H⟩ := pCalV 198 1 1 (as := [.int p1]) (rest := []) rfl (by decide) (by decide +kernel) rfl rfl H
  replace H := pUseF (f_198_ok hS hc) H
  replace H := pRun (ls' := [.ref 1, .int p1, .int (f_198 p1 M), .int (p1 + (kI 1))]) (st' := [.int (f_198 p1 M)]) 6 rfl H
  obtain ⟨rv, h1, hc, H⟩ := pCalT 202 1 (as := [.int (f_198 p1 M)]) (rest := []) rfl (by decide) (by decide +kernel) rfl rfl H
  replace H := pUseF (f_202_ok hS hc) H
  rcases pIf0 (n1 := 5) rfl (mcb_196 rfl) (mcb_196 rfl) H with ⟨g1, g0, _, H⟩ | ⟨g1, g0, _, H⟩
  · refine pG_pos (c := (f_202 (f_198 p1 M)) = 0) g1 ?_
    replace H := pRun (ls' := [.ref 1, .int p1, .int (f_198 p1 M), .int (p1 + (kI 1))]) (st' := [.int (f_198 p1 M)]) 1 rfl H
    obtain ⟨rv, h1, hc, H⟩ := pCalT 203 1 (as := [.int (f_198 p1 M)]) (rest := []) rfl (by decide) (by decide +kernel) rfl rfl H
    replace H := pUseF (f_203_ok hS hc) H
    rcases pIf0 (n1 := 13) rfl (mcb_196 rfl) (mcb_196 rfl) H with ⟨g2, g0, _, H⟩ | ⟨g2, g0, _, H⟩
    · refine pG_pos (c := (f_203 (f_198 p1 M)) = 0) g2 ?_
      replace H := pRun (ls' := [.ref 1, .int p1, .int (f_198 p1 M), .int (p1 + (kI 1))]) (st' := [.int (kI 32), .int (f_198 p1 M)]) 2 rfl H
      rcases pIfc (n1 := 19) rfl (mcb_196 rfl) (mcb_196 rfl) H with ⟨g3, g0, _, H⟩ | ⟨g3, g0, _, H⟩
      · refine pG_pos (c := (f_198 p1 M) = (kI 32)) g3 ?_
        replace H := pRun (ls' := [.ref 1, .int p1, .int (f_198 p1 M), .int (p1 + (kI 1))]) (st' := [.int (p1 + (kI 1))]) 1 rfl H
        exact pG_ret (pRetI H)
      · refine pG_neg (c := (f_198 p1 M) = (kI 32)) g3 ?_
        replace H := pRun (ls' := [.ref 1, .int p1, .int (f_198 p1 M), .int (p1 + (kI 1))]) (st' := [.int (kI 10), .int (f_198 p1 M)]) 2 rfl H
        rcases pIfc (n1 := 19) rfl (mcb_196 rfl) (mcb_196 rfl) H with ⟨g4, g0, _, H⟩ | ⟨g4, g0, _, H⟩
        · refine pG_pos (c := (f_198 p1 M) = (kI 10)) g4 ?_
          replace H := pRun (ls' := [.ref 1, .int p1, .int (f_198 p1 M), .int (p1 + (kI 1))]) (st' := [.int (p1 + (kI 1))]) 1 rfl H
          exact pG_ret (pRetI H)
        · refine pG_neg (c := (f_198 p1 M) = (kI 10)) g4 ?_
          replace H := pRun (ls' := [.ref 1, .int p1, .int (f_198 p1 M), .int (p1 + (kI 1))]) (st' := [.int (f_198 p1 M), .ref 1]) 2 rfl H
          obtain ⟨rv, h1, hc, H⟩ := pCalT 204 1 (as := [.int (f_198 p1 M)]) (rest := [.ref 1]) rfl (by decide) (by decide +kernel) rfl rfl H
          replace H := pUseF (f_204_ok hS hc) H
          rcases pIf0 (n1 := 17) rfl (mcb_196 rfl) (mcb_196 rfl) H with ⟨g5, g0, _, H⟩ | ⟨g5, g0, _, H⟩
          · refine pG_pos (c := (f_204 (f_198 p1 M)) = 0) g5 ?_
            replace H := pRun (ls' := [.ref 1, .int p1, .int (f_198 p1 M), .int (p1 + (kI 1))]) (st' := [.int (kI 102), .ref 1]) 1 rfl H
            obtain ⟨g0, _, H⟩ := pFall (mcb_196 rfl) H
            replace H := pRun (ls' := [.ref 1, .int p1, .int (f_198 p1 M), .int (p1 + (kI 1))]) (st' := [.int (kI 0), .int p1, .int (kI 102), .ref 1]) 2 rfl H
            obtain ⟨rv, h1, hc, H⟩ := pCalV 197 3 1 (as := [.int (kI 102), .int p1, .int (kI 0)]) (rest := []) rfl (by decide) (by decide +kernel) rfl rfl H
            obtain ⟨v1, M1, hD, H⟩ := pUseU (D_197_ok hS hc) H
            refine pG_call (x := v1) (M1 := M1) hD ?_
            obtain ⟨g0, _, H⟩ := pFall (mcb_196 rfl) H
            replace H := pRun (ls' := [.ref 1, .int p1, .int (f_198 p1 M), .int (p1 + (kI 1))]) (st' := [.int (p1 + (kI 1))]) 1 rfl H
            exact pG_ret (pRetI H)
          · refine pG_neg (c := (f_204 (f_198 p1 M)) = 0) g5 ?_
            replace H := pRun (ls' := [.ref 1, .int p1, .int (f_198 p1 M), .int (p1 + (kI 1))]) (st' := [.int (f_198 p1 M), .ref 1]) 1 rfl H
            obtain ⟨g0, _, H⟩ := pGo (n1 := 18) rfl (mcb_196 rfl) H
            replace H := pRun (ls' := [.ref 1, .int p1, .int (f_198 p1 M), .int (p1 + (kI 1))]) (st' := [.int (kI 0), .int p1, .int (f_198 p1 M), .ref 1]) 2 rfl H
            obtain ⟨rv, h1, hc, H⟩ := pCalV 197 3 1 (as := [.int (f_198 p1 M), .int p1, .int (kI 0)]) (rest := []) rfl (by decide) (by decide +kernel) rfl rfl H
            obtain ⟨v1, M1, hD, H⟩ := pUseU (D_197_ok hS hc) H
            refine pG_call (x := v1) (M1 := M1) hD ?_
            obtain ⟨g0, _, H⟩ := pFall (mcb_196 rfl) H
            replace H := pRun (ls' := [.ref 1, .int p1, .int (f_198 p1 M), .int (p1 + (kI 1))]) (st' := [.int (p1 + (kI 1))]) 1 rfl H
            exact pG_ret (pRetI H)
    · refine pG_neg (c := (f_203 (f_198 p1 M)) = 0) g2 ?_
      exact L_196_6_ok hS  H
  · refine pG_neg (c := (f_202 (f_198 p1 M)) = 0) g1 ?_
    exact L_196_1_ok hS  H
def l_196 : List (Nat × Nat) := [(3, 999), (4, 999), (5, 999), (1, 1)]
theorem FC_196 {p1 : Int32} : C_196 p1 (fun _ M _ N => pFr (l_196) M N) (fun _ M _ N => pFr (l_196) M N) := ⟨fun x3 M => show pTf (l_196) M (S_196_1 p1 _ _ x3 M) from (tf_if (tf_call pFr_refl (fun _ _ h => F_200 h) [] rfl fun _ M1 f1 => (tf_call f1 (fun _ _ h => F_197 h) [0, 1, 2, 3] rfl fun _ M2 f2 => (tf_ret f2))) (tf_if (tf_call pFr_refl (fun _ _ h => F_200 h) [] rfl fun _ M1 f1 => (tf_call f1 (fun _ _ h => F_197 h) [0, 1, 2, 3] rfl fun _ M2 f2 => (tf_ret f2))) (tf_jump pFr_refl))), fun x3 M => show pTf (l_196) M (S_196_6 p1 _ _ x3 M) from (tf_if (tf_if (tf_call pFr_refl (fun _ _ h => F_199 h) [] rfl fun _ M1 f1 => (tf_call f1 (fun _ _ h => F_197 h) [0, 1, 2, 3] rfl fun _ M2 f2 => (tf_ret f2))) (tf_call pFr_refl (fun _ _ h => F_199 h) [] rfl fun _ M1 f1 => (tf_call f1 (fun _ _ h => F_197 h) [0, 1, 2, 3] rfl fun _ M2 f2 => (tf_ret f2)))) (tf_if (tf_if (tf_call pFr_refl (fun _ _ h => F_199 h) [] rfl fun _ M1 f1 => (tf_call f1 (fun _ _ h => F_197 h) [0, 1, 2, 3] rfl fun _ M2 f2 => (tf_ret f2))) (tf_call pFr_refl (fun _ _ h => F_199 h) [] rfl fun _ M1 f1 => (tf_call f1 (fun _ _ h => F_197 h) [0, 1, 2, 3] rfl fun _ M2 f2 => (tf_ret f2)))) (tf_jump pFr_refl)))⟩
theorem F_196 {p1 : Int32} {M : pMem} {v : Int32} {N : pMem} (h : D_196 p1 M v N) : pFr (l_196) M N :=
  (show pTf (l_196) M (D_196 p1 M) from (tf_if (tf_if (tf_if (tf_ret pFr_refl) (tf_if (tf_ret pFr_refl) (tf_if (tf_call pFr_refl (fun _ _ h => F_197 h) [0, 1, 2, 3] rfl fun _ M1 f1 => (tf_ret f1)) (tf_call pFr_refl (fun _ _ h => F_197 h) [0, 1, 2, 3] rfl fun _ M1 f1 => (tf_ret f1))))) (tf_jumpL (fun _ M _ N => pFr (l_196) M N, fun _ M _ N => pFr (l_196) M N) (FC_196) rfl pFr_refl)) (tf_jumpL (fun _ M _ N => pFr (l_196) M N, fun _ M _ N => pFr (l_196) M N) (FC_196) rfl pFr_refl))) v N h
/-- TwoCamps$Tape.findTokens()V -/
def S_195_1 (P1 : Int32 → Int32 → pMem → pT Unit) (x1 : Int32) (x2 : Int32) (M : pMem) : pT Unit := tIf ((kI 500) ≤ x2) (tRet () M) (tIf ((M 1 0) ≤ x1) (tRet () M) (tCall (D_196 x1 M) fun v1 M1 => P1 v1 (x2 + kI 1) M1))
def C_195 (P1 : Int32 → Int32 → pMem → pT Unit) : Prop := (∀ (x1 : Int32) (x2 : Int32) M v N, S_195_1 P1 x1 x2 M v N → P1 x1 x2 M v N)
def L_195_1 (x1 : Int32) (x2 : Int32) (M : pMem) : pT Unit := fun v N => ∀ P : (Int32 → Int32 → pMem → pT Unit), C_195 P → P x1 x2 M v N
def D_195 (M : pMem) : pT Unit := tPut (aPut M 1 1 (kI 0)) fun M1 => L_195_1 (kI 0) (kI 0) M1
theorem K_195 {X : aX} {F d : Nat} {K : Nat → aK} (hS : pS K) {out : Option Value × aH} (P1 : Int32 → Int32 → pMem → pT Unit) (hC : C_195 P1) : ∀ f, (∀ (x1 : Int32) (x2 : Int32) M, pm X F d 195 f 1 [.iload 2, .bipush 500, .if_icmp .ge 4] [.ref 1, .int x1, .int x2] [] (pH K M) out → pG eU K out (P1 x1 x2 M)) := by
  intro f
  induction f using Nat.strongRecOn with
  | _ f ih =>
    intro x1 x2 M H
    refine pG_mono (fun v N h => hC x1 x2 M v N h) ?_
    unfold S_195_1
    replace H := pRun (ls' := [.ref 1, .int x1, .int x2]) (st' := [.int (kI 500), .int x2]) 2 rfl H
    rcases pIfc (n1 := 4) rfl (mcb_195 rfl) (mcb_195 rfl) H with ⟨g1, g0, _, H⟩ | ⟨g1, g0, _, H⟩
    · refine pG_pos (c := (kI 500) ≤ x2) g1 ?_
      exact pG_ret (pRetU H)
    · refine pG_neg (c := (kI 500) ≤ x2) g1 ?_
      replace H := pRun (ls' := [.ref 1, .int x1, .int x2]) (st' := [.ref 1, .int x1]) 2 rfl H
      replace H := pGetN (v := M 1 0) rfl (by decide) H
      rcases pIfc (n1 := 4) rfl (mcb_195 rfl) (mcb_195 rfl) H with ⟨g2, g0, _, H⟩ | ⟨g2, g0, _, H⟩
      · refine pG_pos (c := (M 1 0) ≤ x1) g2 ?_
        exact pG_ret (pRetU H)
      · refine pG_neg (c := (M 1 0) ≤ x1) g2 ?_
        replace H := pRun (ls' := [.ref 1, .int x1, .int x2]) (st' := [.int x1, .ref 1]) 2 rfl H
        obtain ⟨rv, h1, hc, H⟩ := pCalV 196 1 1 (as := [.int x1]) (rest := []) rfl (by decide) (by decide +kernel) rfl rfl H
        obtain ⟨v1, M1, hD, H⟩ := pUseI (D_196_ok hS hc) H
        refine pG_call (x := v1) (M1 := M1) hD ?_
        replace H := pRun (ls' := [.ref 1, .int v1, .int (x2 + kI 1)]) (st' := []) 2 rfl H
        obtain ⟨g0, _, H⟩ := pGo (n1 := 1) rfl (mcb_195 rfl) H
        exact (ih _ (by omega)) _ _  _ H
theorem L_195_1_ok {X : aX} {F d : Nat} {K : Nat → aK} (hS : pS K) {out : Option Value × aH} {f : Nat} {x1 : Int32} {x2 : Int32} {M : pMem} (H : pm X F d 195 f 1 [.iload 2, .bipush 500, .if_icmp .ge 4] [.ref 1, .int x1, .int x2] [] (pH K M) out) : pG eU K out (L_195_1 x1 x2 M) := by
  refine pG_all (C := fun P : (Int32 → Int32 → pMem → pT Unit) => C_195 P) (T := fun P => P x1 x2 M) eU_inj (fun _ _ _ _ _ => True) ?_ (fun P hP => (K_195 hS P hP f) _ _ _ H)
  exact (fun _ _ _ _ _ _ => trivial)
theorem D_195_ok {X : aX} {F d : Nat} {K : Nat → aK} (hS : pS K) {M : pMem} {out : Option Value × aH} (H : aM X F d 195 [.ref 1] (pH K M) = some out) : pG eU K out (D_195 M) := by
  obtain ⟨d', g0, _, H⟩ := pEnt (n := 3) (ls := [.ref 1, aD, aD]) (mcb_195 rfl) (by decide +kernel) rfl H
  unfold D_195
  replace H := pRun (ls' := [.ref 1, aD, aD]) (st' := [.int (kI 0), .ref 1]) 2 rfl H
  obtain ⟨M1, eM1, H⟩ := pPutN (j := 1) rfl H
  refine pG_put (M2 := M1) eM1 ?_
  replace H := pRun (ls' := [.ref 1, .int (kI 0), .int (kI 0)]) (st' := []) 4 rfl H
  obtain ⟨g0, _, H⟩ := pFall (mcb_195 rfl) H
  exact L_195_1_ok hS  H
def l_195 : List (Nat × Nat) := [(1, 1), (3, 999), (4, 999), (5, 999)]
theorem FC_195 : C_195 (fun _ _ M _ N => pFr (l_195) M N) := fun x1 x2 M => show pTf (l_195) M (S_195_1 _ x1 x2 M) from (tf_if (tf_ret pFr_refl) (tf_if (tf_ret pFr_refl) (tf_call pFr_refl (fun _ _ h => F_196 h) [1, 2, 3, 0] rfl fun _ M1 f1 => (tf_jump f1))))
theorem F_195 {M : pMem} {v : Unit} {N : pMem} (h : D_195 M v N) : pFr (l_195) M N :=
  (show pTf (l_195) M (D_195 M) from (tf_put pFr_refl 0 rfl fun M1 f1 => (tf_jumpL (fun _ _ M _ N => pFr (l_195) M N) (FC_195) rfl f1))) v N h
/-- TwoCamps$Tape.add(I)V -/
def S_194_1 (p1 : Int32) (P1 : Int32 → pMem → pT Unit) (x2 : Int32) (M : pMem) : pT Unit := tIf (x2 < 0) (tRet () M) (tIf ((M 1 0) < 0) (P1 (x2 + kI (-8)) M) (tIf ((kI 500) ≤ (M 1 0)) (P1 (x2 + kI (-8)) M) (tGd (pIn (M 1 0) 500) <| tPut (aPut M 2 (ix (M 1 0)) ((pUsr p1 x2) &&& (kI 255))) fun M1 => tPut (aPut M1 1 0 ((M1 1 0) + (kI 1))) fun M2 => P1 (x2 + kI (-8)) M2)))
def C_194 (p1 : Int32) (P1 : Int32 → pMem → pT Unit) : Prop := (∀ (x2 : Int32) M v N, S_194_1 p1 P1 x2 M v N → P1 x2 M v N)
def L_194_1 (p1 : Int32) (x2 : Int32) (M : pMem) : pT Unit := fun v N => ∀ P : (Int32 → pMem → pT Unit), C_194 p1 P → P x2 M v N
def D_194 (p1 : Int32) (M : pMem) : pT Unit := L_194_1 p1 (kI 24) M
theorem K_194 {X : aX} {F d : Nat} {K : Nat → aK} (hS : pS K) {p1 : Int32} {out : Option Value × aH} (P1 : Int32 → pMem → pT Unit) (hC : C_194 p1 P1) : ∀ f, (∀ (x2 : Int32) M, pm X F d 194 f 1 [.iload 2, .ifCond .lt 6] [.ref 1, .int p1, .int x2] [] (pH K M) out → pG eU K out (P1 x2 M)) := by
  intro f
  induction f using Nat.strongRecOn with
  | _ f ih =>
    intro x2 M H
    refine pG_mono (fun v N h => hC x2 M v N h) ?_
    unfold S_194_1
    replace H := pRun (ls' := [.ref 1, .int p1, .int x2]) (st' := [.int x2]) 1 rfl H
    rcases pIf0 (n1 := 6) rfl (mcb_194 rfl) (mcb_194 rfl) H with ⟨g1, g0, _, H⟩ | ⟨g1, g0, _, H⟩
    · refine pG_pos (c := x2 < 0) g1 ?_
      exact pG_ret (pRetU H)
    · refine pG_neg (c := x2 < 0) g1 ?_
      replace H := pRun (ls' := [.ref 1, .int p1, .int x2]) (st' := [.ref 1]) 1 rfl H
      replace H := pGetN (v := M 1 0) rfl (by decide) H
      rcases pIf0 (n1 := 5) rfl (mcb_194 rfl) (mcb_194 rfl) H with ⟨g2, g0, _, H⟩ | ⟨g2, g0, _, H⟩
      · refine pG_pos (c := (M 1 0) < 0) g2 ?_
        replace H := pRun (ls' := [.ref 1, .int p1, .int (x2 + kI (-8))]) (st' := []) 1 rfl H
        obtain ⟨g0, _, H⟩ := pGo (n1 := 1) rfl (mcb_194 rfl) H
        exact (ih _ (by omega)) _  _ H
      · refine pG_neg (c := (M 1 0) < 0) g2 ?_
        replace H := pRun (ls' := [.ref 1, .int p1, .int x2]) (st' := [.ref 1]) 1 rfl H
        replace H := pGetN (v := M 1 0) rfl (by decide) H
        replace H := pRun (ls' := [.ref 1, .int p1, .int x2]) (st' := [.int (kI 500), .int (M 1 0)]) 1 rfl H
        rcases pIfc (n1 := 5) rfl (mcb_194 rfl) (mcb_194 rfl) H with ⟨g3, g0, _, H⟩ | ⟨g3, g0, _, H⟩
        · refine pG_pos (c := (kI 500) ≤ (M 1 0)) g3 ?_
          replace H := pRun (ls' := [.ref 1, .int p1, .int (x2 + kI (-8))]) (st' := []) 1 rfl H
          obtain ⟨g0, _, H⟩ := pGo (n1 := 1) rfl (mcb_194 rfl) H
          exact (ih _ (by omega)) _  _ H
        · refine pG_neg (c := (kI 500) ≤ (M 1 0)) g3 ?_
          replace H := pRun (ls' := [.ref 1, .int p1, .int x2]) (st' := [.ref 1]) 1 rfl H
          replace H := pGetR (r := 2) (pRf hS (by decide +kernel)) rfl H
          replace H := pRun (ls' := [.ref 1, .int p1, .int x2]) (st' := [.ref 1, .ref 2]) 1 rfl H
          replace H := pGetN (v := M 1 0) rfl (by decide) H
          replace H := pRun (ls' := [.ref 1, .int p1, .int x2]) (st' := [.int ((pUsr p1 x2) &&& (kI 255)), .int (M 1 0), .ref 2]) 5 rfl H
          obtain ⟨g4, M1, eM1, H⟩ := pIst (n := 500) (pLn hS (show pCa 2 500 = true by decide +kernel)) H
          refine pG_gd g4 (pG_put (M2 := M1) eM1 ?_)
          replace H := pRun (ls' := [.ref 1, .int p1, .int x2]) (st' := [.ref 1, .ref 1]) 2 rfl H
          replace H := pGetN (v := M1 1 0) rfl (by decide) H
          replace H := pRun (ls' := [.ref 1, .int p1, .int x2]) (st' := [.int ((M1 1 0) + (kI 1)), .ref 1]) 2 rfl H
          obtain ⟨M2, eM2, H⟩ := pPutN (j := 0) rfl H
          refine pG_put (M2 := M2) eM2 ?_
          obtain ⟨g0, _, H⟩ := pFall (mcb_194 rfl) H
          replace H := pRun (ls' := [.ref 1, .int p1, .int (x2 + kI (-8))]) (st' := []) 1 rfl H
          obtain ⟨g0, _, H⟩ := pGo (n1 := 1) rfl (mcb_194 rfl) H
          exact (ih _ (by omega)) _  _ H
theorem L_194_1_ok {X : aX} {F d : Nat} {K : Nat → aK} (hS : pS K) {p1 : Int32} {out : Option Value × aH} {f : Nat} {x2 : Int32} {M : pMem} (H : pm X F d 194 f 1 [.iload 2, .ifCond .lt 6] [.ref 1, .int p1, .int x2] [] (pH K M) out) : pG eU K out (L_194_1 p1 x2 M) := by
  refine pG_all (C := fun P : (Int32 → pMem → pT Unit) => C_194 p1 P) (T := fun P => P x2 M) eU_inj (fun _ _ _ _ => True) ?_ (fun P hP => (K_194 hS P hP f) _ _ H)
  exact (fun _ _ _ _ _ => trivial)
theorem D_194_ok {X : aX} {F d : Nat} {K : Nat → aK} (hS : pS K) {p1 : Int32} {M : pMem} {out : Option Value × aH} (H : aM X F d 194 [.ref 1, .int p1] (pH K M) = some out) : pG eU K out (D_194 p1 M) := by
  obtain ⟨d', g0, _, H⟩ := pEnt (n := 3) (ls := [.ref 1, .int p1, aD]) (mcb_194 rfl) (by decide +kernel) rfl H
  unfold D_194
  replace H := pRun (ls' := [.ref 1, .int p1, .int (kI 24)]) (st' := []) 2 rfl H
  obtain ⟨g0, _, H⟩ := pFall (mcb_194 rfl) H
  exact L_194_1_ok hS  H
def l_194 : List (Nat × Nat) := [(2, 999), (1, 0)]
theorem FC_194 {p1 : Int32} : C_194 p1 (fun _ M _ N => pFr (l_194) M N) := fun x2 M => show pTf (l_194) M (S_194_1 p1 _ x2 M) from (tf_if (tf_ret pFr_refl) (tf_if (tf_jump pFr_refl) (tf_if (tf_jump pFr_refl) (tf_gd fun g4 => (tf_putA pFr_refl 0 rfl fun M1 f1 => (tf_put f1 1 rfl fun M2 f2 => (tf_jump f2)))))))
theorem F_194 {p1 : Int32} {M : pMem} {v : Unit} {N : pMem} (h : D_194 p1 M v N) : pFr (l_194) M N :=
  (show pTf (l_194) M (D_194 p1 M) from (tf_jumpL (fun _ M _ N => pFr (l_194) M N) (FC_194) rfl pFr_refl)) v N h
/-- TwoCamps$Reader.begin()V -/
def D_170 (M : pMem) : pT Unit := tCall (D_195 M) fun _ M1 => tPut (aPut M1 6 3 (kI 0)) fun M2 => tPut (aPut M2 6 4 (kI 0)) fun M3 => tPut (aPut M3 6 5 (kI (-1))) fun M4 => tRet () M4
theorem D_170_ok {X : aX} {F d : Nat} {K : Nat → aK} (hS : pS K) {M : pMem} {out : Option Value × aH} (H : aM X F d 170 [.ref 6] (pH K M) = some out) : pG eU K out (D_170 M) := by
  obtain ⟨d', g0, _, H⟩ := pEnt (n := 1) (ls := [.ref 6]) (mcb_170 rfl) (by decide +kernel) rfl H
  unfold D_170
  replace H := pRun (ls' := [.ref 6]) (st' := [.ref 6]) 1 rfl H
  replace H := pGetR (r := 1) (pRf hS (by decide +kernel)) rfl H
  obtain ⟨rv, h1, hc, H⟩ := pCalV 195 0 1 (as := []) (rest := []) rfl (by decide) (by decide +kernel) rfl rfl H
  obtain ⟨v1, M1, hD, H⟩ := pUseU (D_195_ok hS hc) H
  refine pG_call (x := v1) (M1 := M1) hD ?_
  replace H := pRun (ls' := [.ref 6]) (st' := [.int (kI 0), .ref 6]) 2 rfl H
  obtain ⟨M2, eM2, H⟩ := pPutN (j := 3) rfl H
  refine pG_put (M2 := M2) eM2 ?_
  replace H := pRun (ls' := [.ref 6]) (st' := [.int (kI 0), .ref 6]) 2 rfl H
  obtain ⟨M3, eM3, H⟩ := pPutN (j := 4) rfl H
  refine pG_put (M2 := M3) eM3 ?_
  replace H := pRun (ls' := [.ref 6]) (st' := [.int (kI (-1)), .ref 6]) 2 rfl H
  obtain ⟨M4, eM4, H⟩ := pPutN (j := 5) rfl H
  refine pG_put (M2 := M4) eM4 ?_
  exact pG_ret (pRetU H)
def l_170 : List (Nat × Nat) := [(1, 1), (3, 999), (4, 999), (5, 999), (6, 3), (6, 4), (6, 5)]
theorem F_170 {M : pMem} {v : Unit} {N : pMem} (h : D_170 M v N) : pFr (l_170) M N :=
  (show pTf (l_170) M (D_170 M) from (tf_call pFr_refl (fun _ _ h => F_195 h) [0, 1, 2, 3] rfl fun _ M1 f1 => (tf_put f1 4 rfl fun M2 f2 => (tf_put f2 5 rfl fun M3 f3 => (tf_put f3 6 rfl fun M4 f4 => (tf_ret f4)))))) v N h
/-- TwoCamps$Reader.token()I -/
def f_171 (M : pMem) : Int32 := if (M 6 3) < 0 then (kI 101) else if (M 1 1) ≤ (M 6 3) then (kI 101) else (M 3 (ix (M 6 3)))
theorem f_171_ok {X : aX} {F d : Nat} {K : Nat → aK} (hS : pS K) {M : pMem} {out : Option Value × aH} (H : aM X F d 171 [.ref 6] (pH K M) = some out) : out = (some <| Value.int (f_171 M), pH K M) := by
  obtain ⟨d', g0, _, H⟩ := pEnt (n := 1) (ls := [.ref 6]) (mcb_171 rfl) (by decide +kernel) rfl H
  unfold f_171
  replace H := pRun (ls' := [.ref 6]) (st' := [.ref 6]) 1 rfl H
  replace H := pGetN (v := M 6 3) rfl (by decide) H
  rcases pIf0 (n1 := 3) rfl (mcb_171 rfl) (mcb_171 rfl) H with ⟨g1, g0, _, H⟩ | ⟨g1, g0, _, H⟩
  · rw [if_pos (show (M 6 3) < 0 from g1)]
    replace H := pRun (ls' := [.ref 6]) (st' := [.int (kI 101)]) 1 rfl H
    obtain ⟨g0, _, H⟩ := pFall (mcb_171 rfl) H
    exact pRetI H
  · rw [if_neg (show ¬ ((M 6 3) < 0) from g1)]
    replace H := pRun (ls' := [.ref 6]) (st' := [.ref 6]) 1 rfl H
    replace H := pGetN (v := M 6 3) rfl (by decide) H
    replace H := pRun (ls' := [.ref 6]) (st' := [.ref 6, .int (M 6 3)]) 1 rfl H
    replace H := pGetR (r := 1) (pRf hS (by decide +kernel)) rfl H
    replace H := pGetN (v := M 1 1) rfl (by decide) H
    rcases pIfc (n1 := 3) rfl (mcb_171 rfl) (mcb_171 rfl) H with ⟨g2, g0, _, H⟩ | ⟨g2, g0, _, H⟩
    · rw [if_pos (show (M 1 1) ≤ (M 6 3) from g2)]
      replace H := pRun (ls' := [.ref 6]) (st' := [.int (kI 101)]) 1 rfl H
      obtain ⟨g0, _, H⟩ := pFall (mcb_171 rfl) H
      exact pRetI H
    · rw [if_neg (show ¬ ((M 1 1) ≤ (M 6 3)) from g2)]
      replace H := pRun (ls' := [.ref 6]) (st' := [.ref 6]) 1 rfl H
      replace H := pGetR (r := 1) (pRf hS (by decide +kernel)) rfl H
      replace H := pGetR (r := 3) (pRf hS (by decide +kernel)) rfl H
      replace H := pRun (ls' := [.ref 6]) (st' := [.ref 6, .ref 3]) 1 rfl H
      replace H := pGetN (v := M 6 3) rfl (by decide) H
      obtain ⟨g3, H⟩ := pIld (n := 500) (pLt (show pCa 3 500 = true by decide +kernel)) (pLn hS (show pCa 3 500 = true by decide +kernel)) H
      obtain ⟨g0, _, H⟩ := pGo (n1 := 4) rfl (mcb_171 rfl) H
      exact pRetI H
/-- TwoCamps$Reader.value()I -/
def f_172 (M : pMem) : Int32 := if (M 6 3) < 0 then (kI 0) else if (M 1 1) ≤ (M 6 3) then (kI 0) else (M 5 (ix (M 6 3)))
theorem f_172_ok {X : aX} {F d : Nat} {K : Nat → aK} (hS : pS K) {M : pMem} {out : Option Value × aH} (H : aM X F d 172 [.ref 6] (pH K M) = some out) : out = (some <| Value.int (f_172 M), pH K M) := by
  obtain ⟨d', g0, _, H⟩ := pEnt (n := 1) (ls := [.ref 6]) (mcb_172 rfl) (by decide +kernel) rfl H
  unfold f_172
  replace H := pRun (ls' := [.ref 6]) (st' := [.ref 6]) 1 rfl H
  replace H := pGetN (v := M 6 3) rfl (by decide) H
  rcases pIf0 (n1 := 3) rfl (mcb_172 rfl) (mcb_172 rfl) H with ⟨g1, g0, _, H⟩ | ⟨g1, g0, _, H⟩
  · rw [if_pos (show (M 6 3) < 0 from g1)]
    replace H := pRun (ls' := [.ref 6]) (st' := [.int (kI 0)]) 1 rfl H
    obtain ⟨g0, _, H⟩ := pFall (mcb_172 rfl) H
    exact pRetI H
  · rw [if_neg (show ¬ ((M 6 3) < 0) from g1)]
    replace H := pRun (ls' := [.ref 6]) (st' := [.ref 6]) 1 rfl H
    replace H := pGetN (v := M 6 3) rfl (by decide) H
    replace H := pRun (ls' := [.ref 6]) (st' := [.ref 6, .int (M 6 3)]) 1 rfl H
    replace H := pGetR (r := 1) (pRf hS (by decide +kernel)) rfl H
    replace H := pGetN (v := M 1 1) rfl (by decide) H
    rcases pIfc (n1 := 3) rfl (mcb_172 rfl) (mcb_172 rfl) H with ⟨g2, g0, _, H⟩ | ⟨g2, g0, _, H⟩
    · rw [if_pos (show (M 1 1) ≤ (M 6 3) from g2)]
      replace H := pRun (ls' := [.ref 6]) (st' := [.int (kI 0)]) 1 rfl H
      obtain ⟨g0, _, H⟩ := pFall (mcb_172 rfl) H
      exact pRetI H
    · rw [if_neg (show ¬ ((M 1 1) ≤ (M 6 3)) from g2)]
      replace H := pRun (ls' := [.ref 6]) (st' := [.ref 6]) 1 rfl H
      replace H := pGetR (r := 1) (pRf hS (by decide +kernel)) rfl H
      replace H := pGetR (r := 5) (pRf hS (by decide +kernel)) rfl H
      replace H := pRun (ls' := [.ref 6]) (st' := [.ref 6, .ref 5]) 1 rfl H
      replace H := pGetN (v := M 6 3) rfl (by decide) H
      obtain ⟨g3, H⟩ := pIld (n := 500) (pLt (show pCa 5 500 = true by decide +kernel)) (pLn hS (show pCa 5 500 = true by decide +kernel)) H
      obtain ⟨g0, _, H⟩ := pGo (n1 := 4) rfl (mcb_172 rfl) H
      exact pRetI H
/-- TwoCamps$Reader.fail(I)Z -/
def D_173 (p1 : Int32) (M : pMem) : pT Int32 := tPut (aPut M 6 4 p1) fun M1 => tIf ((M1 6 3) < 0) (tPut (aPut M1 6 5 (M1 1 0)) fun M2 => tRet (kI 0) M2) (tIf ((M1 1 1) ≤ (M1 6 3)) (tPut (aPut M1 6 5 (M1 1 0)) fun M2 => tRet (kI 0) M2) (tGd (pIn (M1 6 3) 500) <| tPut (aPut M1 6 5 (M1 4 (ix (M1 6 3)))) fun M2 => tRet (kI 0) M2))
theorem D_173_ok {X : aX} {F d : Nat} {K : Nat → aK} (hS : pS K) {p1 : Int32} {M : pMem} {out : Option Value × aH} (H : aM X F d 173 [.ref 6, .int p1] (pH K M) = some out) : pG eI K out (D_173 p1 M) := by
  obtain ⟨d', g0, _, H⟩ := pEnt (n := 2) (ls := [.ref 6, .int p1]) (mcb_173 rfl) (by decide +kernel) rfl H
  unfold D_173
  replace H := pRun (ls' := [.ref 6, .int p1]) (st' := [.int p1, .ref 6]) 2 rfl H
  obtain ⟨M1, eM1, H⟩ := pPutN (j := 4) rfl H
  refine pG_put (M2 := M1) eM1 ?_
  replace H := pRun (ls' := [.ref 6, .int p1]) (st' := [.ref 6, .ref 6]) 2 rfl H
  replace H := pGetN (v := M1 6 3) rfl (by decide) H
  rcases pIf0 (n1 := 3) rfl (mcb_173 rfl) (mcb_173 rfl) H with ⟨g1, g0, _, H⟩ | ⟨g1, g0, _, H⟩
  · refine pG_pos (c := (M1 6 3) < 0) g1 ?_
    replace H := pRun (ls' := [.ref 6, .int p1]) (st' := [.ref 6, .ref 6]) 1 rfl H
    replace H := pGetR (r := 1) (pRf hS (by decide +kernel)) rfl H
    replace H := pGetN (v := M1 1 0) rfl (by decide) H
    obtain ⟨g0, _, H⟩ := pFall (mcb_173 rfl) H
    obtain ⟨M2, eM2, H⟩ := pPutN (j := 5) rfl H
    refine pG_put (M2 := M2) eM2 ?_
    replace H := pRun (ls' := [.ref 6, .int p1]) (st' := [.int (kI 0)]) 1 rfl H
    exact pG_ret (pRetI H)
  · refine pG_neg (c := (M1 6 3) < 0) g1 ?_
    replace H := pRun (ls' := [.ref 6, .int p1]) (st' := [.ref 6, .ref 6]) 1 rfl H
    replace H := pGetN (v := M1 6 3) rfl (by decide) H
    replace H := pRun (ls' := [.ref 6, .int p1]) (st' := [.ref 6, .int (M1 6 3), .ref 6]) 1 rfl H
    replace H := pGetR (r := 1) (pRf hS (by decide +kernel)) rfl H
    replace H := pGetN (v := M1 1 1) rfl (by decide) H
    rcases pIfc (n1 := 3) rfl (mcb_173 rfl) (mcb_173 rfl) H with ⟨g2, g0, _, H⟩ | ⟨g2, g0, _, H⟩
    · refine pG_pos (c := (M1 1 1) ≤ (M1 6 3)) g2 ?_
      replace H := pRun (ls' := [.ref 6, .int p1]) (st' := [.ref 6, .ref 6]) 1 rfl H
      replace H := pGetR (r := 1) (pRf hS (by decide +kernel)) rfl H
      replace H := pGetN (v := M1 1 0) rfl (by decide) H
      obtain ⟨g0, _, H⟩ := pFall (mcb_173 rfl) H
      obtain ⟨M2, eM2, H⟩ := pPutN (j := 5) rfl H
      refine pG_put (M2 := M2) eM2 ?_
      replace H := pRun (ls' := [.ref 6, .int p1]) (st' := [.int (kI 0)]) 1 rfl H
      exact pG_ret (pRetI H)
    · refine pG_neg (c := (M1 1 1) ≤ (M1 6 3)) g2 ?_
      replace H := pRun (ls' := [.ref 6, .int p1]) (st' := [.ref 6, .ref 6]) 1 rfl H
      replace H := pGetR (r := 1) (pRf hS (by decide +kernel)) rfl H
      replace H := pGetR (r := 4) (pRf hS (by decide +kernel)) rfl H
      replace H := pRun (ls' := [.ref 6, .int p1]) (st' := [.ref 6, .ref 4, .ref 6]) 1 rfl H
      replace H := pGetN (v := M1 6 3) rfl (by decide) H
      obtain ⟨g3, H⟩ := pIld (n := 500) (pLt (show pCa 4 500 = true by decide +kernel)) (pLn hS (show pCa 4 500 = true by decide +kernel)) H
      refine pG_gd g3 ?_
      obtain ⟨g0, _, H⟩ := pGo (n1 := 4) rfl (mcb_173 rfl) H
      obtain ⟨M2, eM2, H⟩ := pPutN (j := 5) rfl H
      refine pG_put (M2 := M2) eM2 ?_
      replace H := pRun (ls' := [.ref 6, .int p1]) (st' := [.int (kI 0)]) 1 rfl H
      exact pG_ret (pRetI H)
def l_173 : List (Nat × Nat) := [(6, 4), (6, 5)]
theorem F_173 {p1 : Int32} {M : pMem} {v : Int32} {N : pMem} (h : D_173 p1 M v N) : pFr (l_173) M N :=
  (show pTf (l_173) M (D_173 p1 M) from (tf_put pFr_refl 0 rfl fun M1 f1 => (tf_if (tf_put f1 1 rfl fun M2 f2 => (tf_ret f2)) (tf_if (tf_put f1 1 rfl fun M2 f2 => (tf_ret f2)) (tf_gd fun g3 => (tf_put f1 1 rfl fun M2 f2 => (tf_ret f2))))))) v N h
/-- TwoCamps$Reader.readSign(II)Z -/
def D_176 (p1 : Int32) (p2 : Int32) (M : pMem) : pT Int32 := tIf ((f_171 M) < p1) (tCall (D_173 (kI 1) M) fun v1 M1 => tRet v1 M1) (tIf ((f_171 M) ≤ p2) (tPut (aPut M 6 3 ((M 6 3) + (kI 1))) fun M1 => tRet (kI 1) M1) (tCall (D_173 (kI 1) M) fun v1 M1 => tRet v1 M1))
theorem D_176_ok {X : aX} {F d : Nat} {K : Nat → aK} (hS : pS K) {p1 : Int32} {p2 : Int32} {M : pMem} {out : Option Value × aH} (H : aM X F d 176 [.ref 6, .int p1, .int p2] (pH K M) = some out) : pG eI K out (D_176 p1 p2 M) := by
  obtain ⟨d', g0, _, H⟩ := pEnt (n := 3) (ls := [.ref 6, .int p1, .int p2]) (mcb_176 rfl) (by decide +kernel) rfl H
  unfold D_176
  replace H := pRun (ls' := [.ref 6, .int p1, .int p2]) (st' := [.ref 6]) 1 rfl H
  obtain ⟨rv, h1, hc, H⟩ := pCalV 171 0 6 (as := []) (rest := []) rfl (by decide) (by decide +kernel) rfl rfl H
  replace H := pUseF (f_171_ok hS hc) H
  replace H := pRun (ls' := [.ref 6, .int p1, .int p2]) (st' := [.int p1, .int (f_171 M)]) 1 rfl H
  rcases pIfc (n1 := 2) rfl (mcb_176 rfl) (mcb_176 rfl) H with ⟨g1, g0, _, H⟩ | ⟨g1, g0, _, H⟩
  · refine pG_pos (c := (f_171 M) < p1) g1 ?_
    replace H := pRun (ls' := [.ref 6, .int p1, .int p2]) (st' := [.int (kI 1), .ref 6]) 2 rfl H
    obtain ⟨rv, h1, hc, H⟩ := pCalV 173 1 6 (as := [.int (kI 1)]) (rest := []) rfl (by decide) (by decide +kernel) rfl rfl H
    obtain ⟨v1, M1, hD, H⟩ := pUseI (D_173_ok hS hc) H
    refine pG_call (x := v1) (M1 := M1) hD ?_
    exact pG_ret (pRetI H)
  · refine pG_neg (c := (f_171 M) < p1) g1 ?_
    replace H := pRun (ls' := [.ref 6, .int p1, .int p2]) (st' := [.ref 6]) 1 rfl H
    obtain ⟨rv, h1, hc, H⟩ := pCalV 171 0 6 (as := []) (rest := []) rfl (by decide) (by decide +kernel) rfl rfl H
    replace H := pUseF (f_171_ok hS hc) H
    replace H := pRun (ls' := [.ref 6, .int p1, .int p2]) (st' := [.int p2, .int (f_171 M)]) 1 rfl H
    rcases pIfc (n1 := 3) rfl (mcb_176 rfl) (mcb_176 rfl) H with ⟨g2, g0, _, H⟩ | ⟨g2, g0, _, H⟩
    · refine pG_pos (c := (f_171 M) ≤ p2) g2 ?_
      replace H := pRun (ls' := [.ref 6, .int p1, .int p2]) (st' := [.ref 6, .ref 6]) 2 rfl H
      replace H := pGetN (v := M 6 3) rfl (by decide) H
      replace H := pRun (ls' := [.ref 6, .int p1, .int p2]) (st' := [.int ((M 6 3) + (kI 1)), .ref 6]) 2 rfl H
      obtain ⟨M1, eM1, H⟩ := pPutN (j := 3) rfl H
      refine pG_put (M2 := M1) eM1 ?_
      replace H := pRun (ls' := [.ref 6, .int p1, .int p2]) (st' := [.int (kI 1)]) 1 rfl H
      exact pG_ret (pRetI H)
    · refine pG_neg (c := (f_171 M) ≤ p2) g2 ?_
      replace H := pRun (ls' := [.ref 6, .int p1, .int p2]) (st' := [.int (kI 1), .ref 6]) 2 rfl H
      obtain ⟨rv, h1, hc, H⟩ := pCalV 173 1 6 (as := [.int (kI 1)]) (rest := []) rfl (by decide) (by decide +kernel) rfl rfl H
      obtain ⟨v1, M1, hD, H⟩ := pUseI (D_173_ok hS hc) H
      refine pG_call (x := v1) (M1 := M1) hD ?_
      exact pG_ret (pRetI H)
def l_176 : List (Nat × Nat) := [(6, 4), (6, 5), (6, 3)]
theorem F_176 {p1 : Int32} {p2 : Int32} {M : pMem} {v : Int32} {N : pMem} (h : D_176 p1 p2 M v N) : pFr (l_176) M N :=
  (show pTf (l_176) M (D_176 p1 p2 M) from (tf_if (tf_call pFr_refl (fun _ _ h => F_173 h) [0, 1] rfl fun _ M1 f1 => (tf_ret f1)) (tf_if (tf_put pFr_refl 2 rfl fun M1 f1 => (tf_ret f1)) (tf_call pFr_refl (fun _ _ h => F_173 h) [0, 1] rfl fun _ M1 f1 => (tf_ret f1))))) v N h
/-- TwoCamps$Reader.readUnit(Z)Z -/
def D_180 (p1 : Int32) (M : pMem) : pT Int32 := tIf (¬ (f_171 M) = (kI 100)) (tIf ((f_171 M) < 0) (tCall (D_173 (kI 1) M) fun v1 M1 => tRet v1 M1) (tIf ((kI 13) < (f_171 M)) (tCall (D_173 (kI 1) M) fun v1 M1 => tRet v1 M1) (tIf (¬ p1 = 0) (tCall (D_173 (kI 1) M) fun v1 M1 => tRet v1 M1) (tCall (D_155 7 (((kI 10000) + (f_171 M)) - (kI 0)) M) fun _ M1 => tPut (aPut M1 6 3 ((M1 6 3) + (kI 1))) fun M2 => tRet (kI 1) M2)))) (tIf (p1 = 0) (tCall (D_155 7 (f_172 M) M) fun _ M1 => tPut (aPut M1 6 3 ((M1 6 3) + (kI 1))) fun M2 => tRet (kI 1) M2) (tIf (¬ (f_172 M) = 0) (tCall (D_155 7 (f_172 M) M) fun _ M1 => tPut (aPut M1 6 3 ((M1 6 3) + (kI 1))) fun M2 => tRet (kI 1) M2) (tCall (D_173 (kI 2) M) fun v1 M1 => tRet v1 M1)))
theorem D_180_ok {X : aX} {F d : Nat} {K : Nat → aK} (hS : pS K) {p1 : Int32} {M : pMem} {out : Option Value × aH} (H : aM X F d 180 [.ref 6, .int p1] (pH K M) = some out) : pG eI K out (D_180 p1 M) := by
  obtain ⟨d', g0, _, H⟩ := pEnt (n := 3) (ls := [.ref 6, .int p1, aD]) (mcb_180 rfl) (by decide +kernel) rfl H
  unfold D_180
  replace H := pRun (ls' := [.ref 6, .int p1, aD]) (st' := [.ref 6]) 1 rfl H
  obtain ⟨rv, h1, hc, H⟩ := pCalV 171 0 6 (as := []) (rest := []) rfl (by decide) (by decide +kernel) rfl rfl H
  replace H := pUseF (f_171_ok hS hc) H
  replace H := pRun (ls' := [.ref 6, .int p1, .int (f_171 M)]) (st' := [.int (kI 100), .int (f_171 M)]) 3 rfl H
  rcases pIfc (n1 := 5) rfl (mcb_180 rfl) (mcb_180 rfl) H with ⟨g1, g0, _, H⟩ | ⟨g1, g0, _, H⟩
  · refine pG_pos (c := ¬ (f_171 M) = (kI 100)) g1 ?_
    replace H := pRun (ls' := [.ref 6, .int p1, .int (f_171 M)]) (st' := [.int (f_171 M)]) 1 rfl H
    rcases pIf0 (n1 := 9) rfl (mcb_180 rfl) (mcb_180 rfl) H with ⟨g2, g0, _, H⟩ | ⟨g2, g0, _, H⟩
    · refine pG_pos (c := (f_171 M) < 0) g2 ?_
      replace H := pRun (ls' := [.ref 6, .int p1, .int (f_171 M)]) (st' := [.int (kI 1), .ref 6]) 2 rfl H
      obtain ⟨rv, h1, hc, H⟩ := pCalV 173 1 6 (as := [.int (kI 1)]) (rest := []) rfl (by decide) (by decide +kernel) rfl rfl H
      obtain ⟨v1, M1, hD, H⟩ := pUseI (D_173_ok hS hc) H
      refine pG_call (x := v1) (M1 := M1) hD ?_
      exact pG_ret (pRetI H)
    · refine pG_neg (c := (f_171 M) < 0) g2 ?_
      replace H := pRun (ls' := [.ref 6, .int p1, .int (f_171 M)]) (st' := [.int (kI 13), .int (f_171 M)]) 2 rfl H
      rcases pIfc (n1 := 9) rfl (mcb_180 rfl) (mcb_180 rfl) H with ⟨g3, g0, _, H⟩ | ⟨g3, g0, _, H⟩
      · refine pG_pos (c := (kI 13) < (f_171 M)) g3 ?_
        replace H := pRun (ls' := [.ref 6, .int p1, .int (f_171 M)]) (st' := [.int (kI 1), .ref 6]) 2 rfl H
        obtain ⟨rv, h1, hc, H⟩ := pCalV 173 1 6 (as := [.int (kI 1)]) (rest := []) rfl (by decide) (by decide +kernel) rfl rfl H
        obtain ⟨v1, M1, hD, H⟩ := pUseI (D_173_ok hS hc) H
        refine pG_call (x := v1) (M1 := M1) hD ?_
        exact pG_ret (pRetI H)
      · refine pG_neg (c := (kI 13) < (f_171 M)) g3 ?_
        replace H := pRun (ls' := [.ref 6, .int p1, .int (f_171 M)]) (st' := [.int p1]) 1 rfl H
        rcases pIf0 (n1 := 9) rfl (mcb_180 rfl) (mcb_180 rfl) H with ⟨g4, g0, _, H⟩ | ⟨g4, g0, _, H⟩
        · refine pG_pos (c := ¬ p1 = 0) g4 ?_
          replace H := pRun (ls' := [.ref 6, .int p1, .int (f_171 M)]) (st' := [.int (kI 1), .ref 6]) 2 rfl H
          obtain ⟨rv, h1, hc, H⟩ := pCalV 173 1 6 (as := [.int (kI 1)]) (rest := []) rfl (by decide) (by decide +kernel) rfl rfl H
          obtain ⟨v1, M1, hD, H⟩ := pUseI (D_173_ok hS hc) H
          refine pG_call (x := v1) (M1 := M1) hD ?_
          exact pG_ret (pRetI H)
        · refine pG_neg (c := ¬ p1 = 0) g4 ?_
          replace H := pRun (ls' := [.ref 6, .int p1, .int (f_171 M)]) (st' := [.ref 6]) 1 rfl H
          replace H := pGetR (r := 7) (pRf hS (by decide +kernel)) rfl H
          replace H := pRun (ls' := [.ref 6, .int p1, .int (f_171 M)]) (st' := [.int (((kI 10000) + (f_171 M)) - (kI 0)), .ref 7]) 5 rfl H
          obtain ⟨rv, h1, hc, H⟩ := pCalV 155 1 7 (as := [.int (((kI 10000) + (f_171 M)) - (kI 0))]) (rest := []) rfl (by decide) (by decide +kernel) rfl rfl H
          obtain ⟨v1, M1, hD, H⟩ := pUseU (D_155_ok hS (show pK 2 7 = true by decide +kernel) hc) H
          refine pG_call (x := v1) (M1 := M1) hD ?_
          obtain ⟨g0, _, H⟩ := pGo (n1 := 10) rfl (mcb_180 rfl) H
          replace H := pRun (ls' := [.ref 6, .int p1, .int (f_171 M)]) (st' := [.ref 6, .ref 6]) 2 rfl H
          replace H := pGetN (v := M1 6 3) rfl (by decide) H
          replace H := pRun (ls' := [.ref 6, .int p1, .int (f_171 M)]) (st' := [.int ((M1 6 3) + (kI 1)), .ref 6]) 2 rfl H
          obtain ⟨M2, eM2, H⟩ := pPutN (j := 3) rfl H
          refine pG_put (M2 := M2) eM2 ?_
          replace H := pRun (ls' := [.ref 6, .int p1, .int (f_171 M)]) (st' := [.int (kI 1)]) 1 rfl H
          exact pG_ret (pRetI H)
  · refine pG_neg (c := ¬ (f_171 M) = (kI 100)) g1 ?_
    replace H := pRun (ls' := [.ref 6, .int p1, .int (f_171 M)]) (st' := [.int p1]) 1 rfl H
    rcases pIf0 (n1 := 4) rfl (mcb_180 rfl) (mcb_180 rfl) H with ⟨g2, g0, _, H⟩ | ⟨g2, g0, _, H⟩
    · refine pG_pos (c := p1 = 0) g2 ?_
      replace H := pRun (ls' := [.ref 6, .int p1, .int (f_171 M)]) (st' := [.ref 6]) 1 rfl H
      replace H := pGetR (r := 7) (pRf hS (by decide +kernel)) rfl H
      replace H := pRun (ls' := [.ref 6, .int p1, .int (f_171 M)]) (st' := [.ref 6, .ref 7]) 1 rfl H
      obtain ⟨rv, h1, hc, H⟩ := pCalV 172 0 6 (as := []) (rest := [.ref 7]) rfl (by decide) (by decide +kernel) rfl rfl H
      replace H := pUseF (f_172_ok hS hc) H
      obtain ⟨rv, h1, hc, H⟩ := pCalV 155 1 7 (as := [.int (f_172 M)]) (rest := []) rfl (by decide) (by decide +kernel) rfl rfl H
      obtain ⟨v1, M1, hD, H⟩ := pUseU (D_155_ok hS (show pK 2 7 = true by decide +kernel) hc) H
      refine pG_call (x := v1) (M1 := M1) hD ?_
      obtain ⟨g0, _, H⟩ := pGo (n1 := 10) rfl (mcb_180 rfl) H
      replace H := pRun (ls' := [.ref 6, .int p1, .int (f_171 M)]) (st' := [.ref 6, .ref 6]) 2 rfl H
      replace H := pGetN (v := M1 6 3) rfl (by decide) H
      replace H := pRun (ls' := [.ref 6, .int p1, .int (f_171 M)]) (st' := [.int ((M1 6 3) + (kI 1)), .ref 6]) 2 rfl H
      obtain ⟨M2, eM2, H⟩ := pPutN (j := 3) rfl H
      refine pG_put (M2 := M2) eM2 ?_
      replace H := pRun (ls' := [.ref 6, .int p1, .int (f_171 M)]) (st' := [.int (kI 1)]) 1 rfl H
      exact pG_ret (pRetI H)
    · refine pG_neg (c := p1 = 0) g2 ?_
      replace H := pRun (ls' := [.ref 6, .int p1, .int (f_171 M)]) (st' := [.ref 6]) 1 rfl H
      obtain ⟨rv, h1, hc, H⟩ := pCalV 172 0 6 (as := []) (rest := []) rfl (by decide) (by decide +kernel) rfl rfl H
      replace H := pUseF (f_172_ok hS hc) H
      rcases pIf0 (n1 := 4) rfl (mcb_180 rfl) (mcb_180 rfl) H with ⟨g3, g0, _, H⟩ | ⟨g3, g0, _, H⟩
      · refine pG_pos (c := ¬ (f_172 M) = 0) g3 ?_
        replace H := pRun (ls' := [.ref 6, .int p1, .int (f_171 M)]) (st' := [.ref 6]) 1 rfl H
        replace H := pGetR (r := 7) (pRf hS (by decide +kernel)) rfl H
        replace H := pRun (ls' := [.ref 6, .int p1, .int (f_171 M)]) (st' := [.ref 6, .ref 7]) 1 rfl H
        obtain ⟨rv, h1, hc, H⟩ := pCalV 172 0 6 (as := []) (rest := [.ref 7]) rfl (by decide) (by decide +kernel) rfl rfl H
        replace H := pUseF (f_172_ok hS hc) H
        obtain ⟨rv, h1, hc, H⟩ := pCalV 155 1 7 (as := [.int (f_172 M)]) (rest := []) rfl (by decide) (by decide +kernel) rfl rfl H
        obtain ⟨v1, M1, hD, H⟩ := pUseU (D_155_ok hS (show pK 2 7 = true by decide +kernel) hc) H
        refine pG_call (x := v1) (M1 := M1) hD ?_
        obtain ⟨g0, _, H⟩ := pGo (n1 := 10) rfl (mcb_180 rfl) H
        replace H := pRun (ls' := [.ref 6, .int p1, .int (f_171 M)]) (st' := [.ref 6, .ref 6]) 2 rfl H
        replace H := pGetN (v := M1 6 3) rfl (by decide) H
        replace H := pRun (ls' := [.ref 6, .int p1, .int (f_171 M)]) (st' := [.int ((M1 6 3) + (kI 1)), .ref 6]) 2 rfl H
        obtain ⟨M2, eM2, H⟩ := pPutN (j := 3) rfl H
        refine pG_put (M2 := M2) eM2 ?_
        replace H := pRun (ls' := [.ref 6, .int p1, .int (f_171 M)]) (st' := [.int (kI 1)]) 1 rfl H
        exact pG_ret (pRetI H)
      · refine pG_neg (c := ¬ (f_172 M) = 0) g3 ?_
        replace H := pRun (ls' := [.ref 6, .int p1, .int (f_171 M)]) (st' := [.int (kI 2), .ref 6]) 2 rfl H
        obtain ⟨rv, h1, hc, H⟩ := pCalV 173 1 6 (as := [.int (kI 2)]) (rest := []) rfl (by decide) (by decide +kernel) rfl rfl H
        obtain ⟨v1, M1, hD, H⟩ := pUseI (D_173_ok hS hc) H
        refine pG_call (x := v1) (M1 := M1) hD ?_
        exact pG_ret (pRetI H)
def l_180 : List (Nat × Nat) := [(6, 4), (6, 5), (12, 999), (7, 1), (6, 3)]
theorem F_180 {p1 : Int32} {M : pMem} {v : Int32} {N : pMem} (h : D_180 p1 M v N) : pFr (l_180) M N :=
  (show pTf (l_180) M (D_180 p1 M) from (tf_if (tf_if (tf_call pFr_refl (fun _ _ h => F_173 h) [0, 1] rfl fun _ M1 f1 => (tf_ret f1)) (tf_if (tf_call pFr_refl (fun _ _ h => F_173 h) [0, 1] rfl fun _ M1 f1 => (tf_ret f1)) (tf_if (tf_call pFr_refl (fun _ _ h => F_173 h) [0, 1] rfl fun _ M1 f1 => (tf_ret f1)) (tf_call pFr_refl (fun _ _ h => F_155 (show pK 2 7 = true by decide +kernel) h) [2, 3] rfl fun _ M1 f1 => (tf_put f1 4 rfl fun M2 f2 => (tf_ret f2)))))) (tf_if (tf_call pFr_refl (fun _ _ h => F_155 (show pK 2 7 = true by decide +kernel) h) [2, 3] rfl fun _ M1 f1 => (tf_put f1 4 rfl fun M2 f2 => (tf_ret f2))) (tf_if (tf_call pFr_refl (fun _ _ h => F_155 (show pK 2 7 = true by decide +kernel) h) [2, 3] rfl fun _ M1 f1 => (tf_put f1 4 rfl fun M2 f2 => (tf_ret f2))) (tf_call pFr_refl (fun _ _ h => F_173 h) [0, 1] rfl fun _ M1 f1 => (tf_ret f1)))))) v N h
/-- TwoCamps$Reader.readSum()Z -/
def S_179_1 (P1 : Int32 → Int32 → Int32 → pMem → pT Int32) (P10 : Int32 → Int32 → pMem → pT Int32) (x1 : Int32) (x2 : Int32) (x3 : Int32) (M : pMem) : pT Int32 := tIf ((kI 500) ≤ x3) (tRet (kI 0) M) (tIf (¬ x2 = (kI 47)) (tCall (D_180 (kI 0) M) fun v1 M1 => tIf (¬ v1 = 0) (tIf (x2 = (kI 42)) (tCall (D_155 7 (-x2) M1) fun _ M2 => P10 x1 x3 M2) (tIf (¬ x2 = (kI 47)) (P10 x1 x3 M1) (tCall (D_155 7 (-x2) M1) fun _ M2 => P10 x1 x3 M2))) (tRet (kI 0) M1)) (tCall (D_180 (kI 1) M) fun v1 M1 => tIf (¬ v1 = 0) (tIf (x2 = (kI 42)) (tCall (D_155 7 (-x2) M1) fun _ M2 => P10 x1 x3 M2) (tIf (¬ x2 = (kI 47)) (P10 x1 x3 M1) (tCall (D_155 7 (-x2) M1) fun _ M2 => P10 x1 x3 M2))) (tRet (kI 0) M1)))
def S_179_10 (P1 : Int32 → Int32 → Int32 → pMem → pT Int32) (P10 : Int32 → Int32 → pMem → pT Int32) (x1 : Int32) (x3 : Int32) (M : pMem) : pT Int32 := tIf ((f_171 M) = (kI 42)) (tPut (aPut M 6 3 ((M 6 3) + (kI 1))) fun M1 => P1 x1 (f_171 M) (x3 + kI 1) M1) (tIf ((f_171 M) = (kI 47)) (tPut (aPut M 6 3 ((M 6 3) + (kI 1))) fun M1 => P1 x1 (f_171 M) (x3 + kI 1) M1) (tIf (x1 = (kI 102)) (tIf ((f_171 M) = (kI 43)) (tPut (aPut M 6 3 ((M 6 3) + (kI 1))) fun M1 => P1 (f_171 M) (f_171 M) (x3 + kI 1) M1) (tIf ((f_171 M) = (kI 45)) (tPut (aPut M 6 3 ((M 6 3) + (kI 1))) fun M1 => P1 (f_171 M) (f_171 M) (x3 + kI 1) M1) (tRet (kI 1) M))) (tCall (D_155 7 (-x1) M) fun _ M1 => tIf ((f_171 M) = (kI 43)) (tPut (aPut M1 6 3 ((M1 6 3) + (kI 1))) fun M2 => P1 (f_171 M) (f_171 M) (x3 + kI 1) M2) (tIf ((f_171 M) = (kI 45)) (tPut (aPut M1 6 3 ((M1 6 3) + (kI 1))) fun M2 => P1 (f_171 M) (f_171 M) (x3 + kI 1) M2) (tRet (kI 1) M1)))))
def C_179 (P1 : Int32 → Int32 → Int32 → pMem → pT Int32) (P10 : Int32 → Int32 → pMem → pT Int32) : Prop := (∀ (x1 : Int32) (x2 : Int32) (x3 : Int32) M v N, S_179_1 P1 P10 x1 x2 x3 M v N → P1 x1 x2 x3 M v N) ∧ (∀ (x1 : Int32) (x3 : Int32) M v N, S_179_10 P1 P10 x1 x3 M v N → P10 x1 x3 M v N)
def L_179_1 (x1 : Int32) (x2 : Int32) (x3 : Int32) (M : pMem) : pT Int32 := fun v N => ∀ P : (Int32 → Int32 → Int32 → pMem → pT Int32) × (Int32 → Int32 → pMem → pT Int32), C_179 P.1 P.2 → P.1 x1 x2 x3 M v N
def L_179_10 (x1 : Int32) (x3 : Int32) (M : pMem) : pT Int32 := fun v N => ∀ P : (Int32 → Int32 → Int32 → pMem → pT Int32) × (Int32 → Int32 → pMem → pT Int32), C_179 P.1 P.2 → P.2 x1 x3 M v N
def D_179 (M : pMem) : pT Int32 := L_179_1 (kI 102) (kI 102) (kI 0) M
theorem K_179 {X : aX} {F d : Nat} {K : Nat → aK} (hS : pS K) {out : Option Value × aH} (P1 : Int32 → Int32 → Int32 → pMem → pT Int32) (P10 : Int32 → Int32 → pMem → pT Int32) (hC : C_179 P1 P10) : ∀ f, (∀ (x1 : Int32) (x2 : Int32) (x3 : Int32) M, pm X F d 179 f 1 [.iload 3, .bipush 500, .if_icmp .ge 19] [.ref 6, .int x1, .int x2, .int x3] [] (pH K M) out → pG eI K out (P1 x1 x2 x3 M)) ∧ (∀ (x1 : Int32) (x3 : Int32) (u2 : Int32) M, pm X F d 179 f 10 [.aload 0, .invokevirtual 762171, .istore 2, .iload 2, .bipush 42, .if_icmp .eq 18] [.ref 6, .int x1, .int u2, .int x3] [] (pH K M) out → pG eI K out (P10 x1 x3 M)) := by
  intro f
  induction f using Nat.strongRecOn with
  | _ f ih =>
    refine ⟨?_, ?_⟩
    · intro x1 x2 x3 M H
      refine pG_mono (fun v N h => hC.1 x1 x2 x3 M v N h) ?_
      unfold S_179_1
      replace H := pRun (ls' := [.ref 6, .int x1, .int x2, .int x3]) (st' := [.int (kI 500), .int x3]) 2 rfl H
      rcases pIfc (n1 := 19) rfl (mcb_179 rfl) (mcb_179 rfl) H with ⟨g1, g0, _, H⟩ | ⟨g1, g0, _, H⟩
      · refine pG_pos (c := (kI 500) ≤ x3) g1 ?_
        replace H := pRun (ls' := [.ref 6, .int x1, .int x2, .int x3]) (st' := [.int (kI 0)]) 1 rfl H
        exact pG_ret (pRetI H)
      · refine pG_neg (c := (kI 500) ≤ x3) g1 ?_
        replace H := pRun (ls' := [.ref 6, .int x1, .int x2, .int x3]) (st' := [.int (kI 47), .int x2, .ref 6]) 3 rfl H
        rcases pIfc (n1 := 4) rfl (mcb_179 rfl) (mcb_179 rfl) H with ⟨g2, g0, _, H⟩ | ⟨g2, g0, _, H⟩
        · refine pG_pos (c := ¬ x2 = (kI 47)) g2 ?_
          replace H := pRun (ls' := [.ref 6, .int x1, .int x2, .int x3]) (st' := [.int (kI 0), .ref 6]) 1 rfl H
          obtain ⟨g0, _, H⟩ := pFall (mcb_179 rfl) H
          obtain ⟨rv, h1, hc, H⟩ := pCalV 180 1 6 (as := [.int (kI 0)]) (rest := []) rfl (by decide) (by decide +kernel) rfl rfl H
          obtain ⟨v1, M1, hD, H⟩ := pUseI (D_180_ok hS hc) H
          refine pG_call (x := v1) (M1 := M1) hD ?_
          rcases pIf0 (n1 := 7) rfl (mcb_179 rfl) (mcb_179 rfl) H with ⟨g3, g0, _, H⟩ | ⟨g3, g0, _, H⟩
          · refine pG_pos (c := ¬ v1 = 0) g3 ?_
            replace H := pRun (ls' := [.ref 6, .int x1, .int x2, .int x3]) (st' := [.int (kI 42), .int x2]) 2 rfl H
            rcases pIfc (n1 := 9) rfl (mcb_179 rfl) (mcb_179 rfl) H with ⟨g4, g0, _, H⟩ | ⟨g4, g0, _, H⟩
            · refine pG_pos (c := x2 = (kI 42)) g4 ?_
              replace H := pRun (ls' := [.ref 6, .int x1, .int x2, .int x3]) (st' := [.ref 6]) 1 rfl H
              replace H := pGetR (r := 7) (pRf hS (by decide +kernel)) rfl H
              replace H := pRun (ls' := [.ref 6, .int x1, .int x2, .int x3]) (st' := [.int (-x2), .ref 7]) 2 rfl H
              obtain ⟨rv, h1, hc, H⟩ := pCalV 155 1 7 (as := [.int (-x2)]) (rest := []) rfl (by decide) (by decide +kernel) rfl rfl H
              obtain ⟨v2, M2, hD, H⟩ := pUseU (D_155_ok hS (show pK 2 7 = true by decide +kernel) hc) H
              refine pG_call (x := v2) (M1 := M2) hD ?_
              obtain ⟨g0, _, H⟩ := pFall (mcb_179 rfl) H
              exact (ih _ (by omega)).2 _ _ _  _ H
            · refine pG_neg (c := x2 = (kI 42)) g4 ?_
              replace H := pRun (ls' := [.ref 6, .int x1, .int x2, .int x3]) (st' := [.int (kI 47), .int x2]) 2 rfl H
              rcases pIfc (n1 := 10) rfl (mcb_179 rfl) (mcb_179 rfl) H with ⟨g5, g0, _, H⟩ | ⟨g5, g0, _, H⟩
              · refine pG_pos (c := ¬ x2 = (kI 47)) g5 ?_
                exact (ih _ (by omega)).2 _ _ _  _ H
              · refine pG_neg (c := ¬ x2 = (kI 47)) g5 ?_
                replace H := pRun (ls' := [.ref 6, .int x1, .int x2, .int x3]) (st' := [.ref 6]) 1 rfl H
                replace H := pGetR (r := 7) (pRf hS (by decide +kernel)) rfl H
                replace H := pRun (ls' := [.ref 6, .int x1, .int x2, .int x3]) (st' := [.int (-x2), .ref 7]) 2 rfl H
                obtain ⟨rv, h1, hc, H⟩ := pCalV 155 1 7 (as := [.int (-x2)]) (rest := []) rfl (by decide) (by decide +kernel) rfl rfl H
                obtain ⟨v2, M2, hD, H⟩ := pUseU (D_155_ok hS (show pK 2 7 = true by decide +kernel) hc) H
                refine pG_call (x := v2) (M1 := M2) hD ?_
                obtain ⟨g0, _, H⟩ := pFall (mcb_179 rfl) H
                exact (ih _ (by omega)).2 _ _ _  _ H
          · refine pG_neg (c := ¬ v1 = 0) g3 ?_
            replace H := pRun (ls' := [.ref 6, .int x1, .int x2, .int x3]) (st' := [.int (kI 0)]) 1 rfl H
            exact pG_ret (pRetI H)
        · refine pG_neg (c := ¬ x2 = (kI 47)) g2 ?_
          replace H := pRun (ls' := [.ref 6, .int x1, .int x2, .int x3]) (st' := [.int (kI 1), .ref 6]) 1 rfl H
          obtain ⟨g0, _, H⟩ := pGo (n1 := 5) rfl (mcb_179 rfl) H
          obtain ⟨rv, h1, hc, H⟩ := pCalV 180 1 6 (as := [.int (kI 1)]) (rest := []) rfl (by decide) (by decide +kernel) rfl rfl H
          obtain ⟨v1, M1, hD, H⟩ := pUseI (D_180_ok hS hc) H
          refine pG_call (x := v1) (M1 := M1) hD ?_
          rcases pIf0 (n1 := 7) rfl (mcb_179 rfl) (mcb_179 rfl) H with ⟨g3, g0, _, H⟩ | ⟨g3, g0, _, H⟩
          · refine pG_pos (c := ¬ v1 = 0) g3 ?_
            replace H := pRun (ls' := [.ref 6, .int x1, .int x2, .int x3]) (st' := [.int (kI 42), .int x2]) 2 rfl H
            rcases pIfc (n1 := 9) rfl (mcb_179 rfl) (mcb_179 rfl) H with ⟨g4, g0, _, H⟩ | ⟨g4, g0, _, H⟩
            · refine pG_pos (c := x2 = (kI 42)) g4 ?_
              replace H := pRun (ls' := [.ref 6, .int x1, .int x2, .int x3]) (st' := [.ref 6]) 1 rfl H
              replace H := pGetR (r := 7) (pRf hS (by decide +kernel)) rfl H
              replace H := pRun (ls' := [.ref 6, .int x1, .int x2, .int x3]) (st' := [.int (-x2), .ref 7]) 2 rfl H
              obtain ⟨rv, h1, hc, H⟩ := pCalV 155 1 7 (as := [.int (-x2)]) (rest := []) rfl (by decide) (by decide +kernel) rfl rfl H
              obtain ⟨v2, M2, hD, H⟩ := pUseU (D_155_ok hS (show pK 2 7 = true by decide +kernel) hc) H
              refine pG_call (x := v2) (M1 := M2) hD ?_
              obtain ⟨g0, _, H⟩ := pFall (mcb_179 rfl) H
              exact (ih _ (by omega)).2 _ _ _  _ H
            · refine pG_neg (c := x2 = (kI 42)) g4 ?_
              replace H := pRun (ls' := [.ref 6, .int x1, .int x2, .int x3]) (st' := [.int (kI 47), .int x2]) 2 rfl H
              rcases pIfc (n1 := 10) rfl (mcb_179 rfl) (mcb_179 rfl) H with ⟨g5, g0, _, H⟩ | ⟨g5, g0, _, H⟩
              · refine pG_pos (c := ¬ x2 = (kI 47)) g5 ?_
                exact (ih _ (by omega)).2 _ _ _  _ H
              · refine pG_neg (c := ¬ x2 = (kI 47)) g5 ?_
                replace H := pRun (ls' := [.ref 6, .int x1, .int x2, .int x3]) (st' := [.ref 6]) 1 rfl H
                replace H := pGetR (r := 7) (pRf hS (by decide +kernel)) rfl H
                replace H := pRun (ls' := [.ref 6, .int x1, .int x2, .int x3]) (st' := [.int (-x2), .ref 7]) 2 rfl H
                obtain ⟨rv, h1, hc, H⟩ := pCalV 155 1 7 (as := [.int (-x2)]) (rest := []) rfl (by decide) (by decide +kernel) rfl rfl H
                obtain ⟨v2, M2, hD, H⟩ := pUseU (D_155_ok hS (show pK 2 7 = true by decide +kernel) hc) H
                refine pG_call (x := v2) (M1 := M2) hD ?_
                obtain ⟨g0, _, H⟩ := pFall (mcb_179 rfl) H
                exact (ih _ (by omega)).2 _ _ _  _ H
          · refine pG_neg (c := ¬ v1 = 0) g3 ?_
            replace H := pRun (ls' := [.ref 6, .int x1, .int x2, .int x3]) (st' := [.int (kI 0)]) 1 rfl H
            exact pG_ret (pRetI H)
    · intro x1 x3 u2 M H
      refine pG_mono (fun v N h => hC.2 x1 x3 M v N h) ?_
      unfold S_179_10
      replace H := pRun (ls' := [.ref 6, .int x1, .int u2, .int x3]) (st' := [.ref 6]) 1 rfl H
      obtain ⟨rv, h1, hc, H⟩ := pCalV 171 0 6 (as := []) (rest := []) rfl (by decide) (by decide +kernel) rfl rfl H
      replace H := pUseF (f_171_ok hS hc) H
      replace H := pRun (ls' := [.ref 6, .int x1, .int (f_171 M), .int x3]) (st' := [.int (kI 42), .int (f_171 M)]) 3 rfl H
      rcases pIfc (n1 := 18) rfl (mcb_179 rfl) (mcb_179 rfl) H with ⟨g1, g0, _, H⟩ | ⟨g1, g0, _, H⟩
      · refine pG_pos (c := (f_171 M) = (kI 42)) g1 ?_
        replace H := pRun (ls' := [.ref 6, .int x1, .int (f_171 M), .int x3]) (st' := [.ref 6, .ref 6]) 2 rfl H
        replace H := pGetN (v := M 6 3) rfl (by decide) H
        replace H := pRun (ls' := [.ref 6, .int x1, .int (f_171 M), .int x3]) (st' := [.int ((M 6 3) + (kI 1)), .ref 6]) 2 rfl H
        obtain ⟨M1, eM1, H⟩ := pPutN (j := 3) rfl H
        refine pG_put (M2 := M1) eM1 ?_
        replace H := pRun (ls' := [.ref 6, .int x1, .int (f_171 M), .int (x3 + kI 1)]) (st' := []) 1 rfl H
        obtain ⟨g0, _, H⟩ := pGo (n1 := 1) rfl (mcb_179 rfl) H
        exact (ih _ (by omega)).1 _ _ _  _ H
      · refine pG_neg (c := (f_171 M) = (kI 42)) g1 ?_
        replace H := pRun (ls' := [.ref 6, .int x1, .int (f_171 M), .int x3]) (st' := [.int (kI 47), .int (f_171 M)]) 2 rfl H
        rcases pIfc (n1 := 18) rfl (mcb_179 rfl) (mcb_179 rfl) H with ⟨g2, g0, _, H⟩ | ⟨g2, g0, _, H⟩
        · refine pG_pos (c := (f_171 M) = (kI 47)) g2 ?_
          replace H := pRun (ls' := [.ref 6, .int x1, .int (f_171 M), .int x3]) (st' := [.ref 6, .ref 6]) 2 rfl H
          replace H := pGetN (v := M 6 3) rfl (by decide) H
          replace H := pRun (ls' := [.ref 6, .int x1, .int (f_171 M), .int x3]) (st' := [.int ((M 6 3) + (kI 1)), .ref 6]) 2 rfl H
          obtain ⟨M1, eM1, H⟩ := pPutN (j := 3) rfl H
          refine pG_put (M2 := M1) eM1 ?_
          replace H := pRun (ls' := [.ref 6, .int x1, .int (f_171 M), .int (x3 + kI 1)]) (st' := []) 1 rfl H
          obtain ⟨g0, _, H⟩ := pGo (n1 := 1) rfl (mcb_179 rfl) H
          exact (ih _ (by omega)).1 _ _ _  _ H
        · refine pG_neg (c := (f_171 M) = (kI 47)) g2 ?_
          replace H := pRun (ls' := [.ref 6, .int x1, .int (f_171 M), .int x3]) (st' := [.int (kI 102), .int x1]) 2 rfl H
          rcases pIfc (n1 := 14) rfl (mcb_179 rfl) (mcb_179 rfl) H with ⟨g3, g0, _, H⟩ | ⟨g3, g0, _, H⟩
          · refine pG_pos (c := x1 = (kI 102)) g3 ?_
            replace H := pRun (ls' := [.ref 6, .int x1, .int (f_171 M), .int x3]) (st' := [.int (kI 43), .int (f_171 M)]) 2 rfl H
            rcases pIfc (n1 := 17) rfl (mcb_179 rfl) (mcb_179 rfl) H with ⟨g4, g0, _, H⟩ | ⟨g4, g0, _, H⟩
            · refine pG_pos (c := (f_171 M) = (kI 43)) g4 ?_
              replace H := pRun (ls' := [.ref 6, .int (f_171 M), .int (f_171 M), .int x3]) (st' := []) 2 rfl H
              obtain ⟨g0, _, H⟩ := pFall (mcb_179 rfl) H
              replace H := pRun (ls' := [.ref 6, .int (f_171 M), .int (f_171 M), .int x3]) (st' := [.ref 6, .ref 6]) 2 rfl H
              replace H := pGetN (v := M 6 3) rfl (by decide) H
              replace H := pRun (ls' := [.ref 6, .int (f_171 M), .int (f_171 M), .int x3]) (st' := [.int ((M 6 3) + (kI 1)), .ref 6]) 2 rfl H
              obtain ⟨M1, eM1, H⟩ := pPutN (j := 3) rfl H
              refine pG_put (M2 := M1) eM1 ?_
              replace H := pRun (ls' := [.ref 6, .int (f_171 M), .int (f_171 M), .int (x3 + kI 1)]) (st' := []) 1 rfl H
              obtain ⟨g0, _, H⟩ := pGo (n1 := 1) rfl (mcb_179 rfl) H
              exact (ih _ (by omega)).1 _ _ _  _ H
            · refine pG_neg (c := (f_171 M) = (kI 43)) g4 ?_
              replace H := pRun (ls' := [.ref 6, .int x1, .int (f_171 M), .int x3]) (st' := [.int (kI 45), .int (f_171 M)]) 2 rfl H
              rcases pIfc (n1 := 17) rfl (mcb_179 rfl) (mcb_179 rfl) H with ⟨g5, g0, _, H⟩ | ⟨g5, g0, _, H⟩
              · refine pG_pos (c := (f_171 M) = (kI 45)) g5 ?_
                replace H := pRun (ls' := [.ref 6, .int (f_171 M), .int (f_171 M), .int x3]) (st' := []) 2 rfl H
                obtain ⟨g0, _, H⟩ := pFall (mcb_179 rfl) H
                replace H := pRun (ls' := [.ref 6, .int (f_171 M), .int (f_171 M), .int x3]) (st' := [.ref 6, .ref 6]) 2 rfl H
                replace H := pGetN (v := M 6 3) rfl (by decide) H
                replace H := pRun (ls' := [.ref 6, .int (f_171 M), .int (f_171 M), .int x3]) (st' := [.int ((M 6 3) + (kI 1)), .ref 6]) 2 rfl H
                obtain ⟨M1, eM1, H⟩ := pPutN (j := 3) rfl H
                refine pG_put (M2 := M1) eM1 ?_
                replace H := pRun (ls' := [.ref 6, .int (f_171 M), .int (f_171 M), .int (x3 + kI 1)]) (st' := []) 1 rfl H
                obtain ⟨g0, _, H⟩ := pGo (n1 := 1) rfl (mcb_179 rfl) H
                exact (ih _ (by omega)).1 _ _ _  _ H
              · refine pG_neg (c := (f_171 M) = (kI 45)) g5 ?_
                replace H := pRun (ls' := [.ref 6, .int x1, .int (f_171 M), .int x3]) (st' := [.int (kI 1)]) 1 rfl H
                exact pG_ret (pRetI H)
          · refine pG_neg (c := x1 = (kI 102)) g3 ?_
            replace H := pRun (ls' := [.ref 6, .int x1, .int (f_171 M), .int x3]) (st' := [.ref 6]) 1 rfl H
            replace H := pGetR (r := 7) (pRf hS (by decide +kernel)) rfl H
            replace H := pRun (ls' := [.ref 6, .int x1, .int (f_171 M), .int x3]) (st' := [.int (-x1), .ref 7]) 2 rfl H
            obtain ⟨rv, h1, hc, H⟩ := pCalV 155 1 7 (as := [.int (-x1)]) (rest := []) rfl (by decide) (by decide +kernel) rfl rfl H
            obtain ⟨v1, M1, hD, H⟩ := pUseU (D_155_ok hS (show pK 2 7 = true by decide +kernel) hc) H
            refine pG_call (x := v1) (M1 := M1) hD ?_
            obtain ⟨g0, _, H⟩ := pFall (mcb_179 rfl) H
            replace H := pRun (ls' := [.ref 6, .int x1, .int (f_171 M), .int x3]) (st' := [.int (kI 43), .int (f_171 M)]) 2 rfl H
            rcases pIfc (n1 := 17) rfl (mcb_179 rfl) (mcb_179 rfl) H with ⟨g4, g0, _, H⟩ | ⟨g4, g0, _, H⟩
            · refine pG_pos (c := (f_171 M) = (kI 43)) g4 ?_
              replace H := pRun (ls' := [.ref 6, .int (f_171 M), .int (f_171 M), .int x3]) (st' := []) 2 rfl H
              obtain ⟨g0, _, H⟩ := pFall (mcb_179 rfl) H
              replace H := pRun (ls' := [.ref 6, .int (f_171 M), .int (f_171 M), .int x3]) (st' := [.ref 6, .ref 6]) 2 rfl H
              replace H := pGetN (v := M1 6 3) rfl (by decide) H
              replace H := pRun (ls' := [.ref 6, .int (f_171 M), .int (f_171 M), .int x3]) (st' := [.int ((M1 6 3) + (kI 1)), .ref 6]) 2 rfl H
              obtain ⟨M2, eM2, H⟩ := pPutN (j := 3) rfl H
              refine pG_put (M2 := M2) eM2 ?_
              replace H := pRun (ls' := [.ref 6, .int (f_171 M), .int (f_171 M), .int (x3 + kI 1)]) (st' := []) 1 rfl H
              obtain ⟨g0, _, H⟩ := pGo (n1 := 1) rfl (mcb_179 rfl) H
              exact (ih _ (by omega)).1 _ _ _  _ H
            · refine pG_neg (c := (f_171 M) = (kI 43)) g4 ?_
              replace H := pRun (ls' := [.ref 6, .int x1, .int (f_171 M), .int x3]) (st' := [.int (kI 45), .int (f_171 M)]) 2 rfl H
              rcases pIfc (n1 := 17) rfl (mcb_179 rfl) (mcb_179 rfl) H with ⟨g5, g0, _, H⟩ | ⟨g5, g0, _, H⟩
              · refine pG_pos (c := (f_171 M) = (kI 45)) g5 ?_
                replace H := pRun (ls' := [.ref 6, .int (f_171 M), .int (f_171 M), .int x3]) (st' := []) 2 rfl H
                obtain ⟨g0, _, H⟩ := pFall (mcb_179 rfl) H
                replace H := pRun (ls' := [.ref 6, .int (f_171 M), .int (f_171 M), .int x3]) (st' := [.ref 6, .ref 6]) 2 rfl H
                replace H := pGetN (v := M1 6 3) rfl (by decide) H
                replace H := pRun (ls' := [.ref 6, .int (f_171 M), .int (f_171 M), .int x3]) (st' := [.int ((M1 6 3) + (kI 1)), .ref 6]) 2 rfl H
                obtain ⟨M2, eM2, H⟩ := pPutN (j := 3) rfl H
                refine pG_put (M2 := M2) eM2 ?_
                replace H := pRun (ls' := [.ref 6, .int (f_171 M), .int (f_171 M), .int (x3 + kI 1)]) (st' := []) 1 rfl H
                obtain ⟨g0, _, H⟩ := pGo (n1 := 1) rfl (mcb_179 rfl) H
                exact (ih _ (by omega)).1 _ _ _  _ H
              · refine pG_neg (c := (f_171 M) = (kI 45)) g5 ?_
                replace H := pRun (ls' := [.ref 6, .int x1, .int (f_171 M), .int x3]) (st' := [.int (kI 1)]) 1 rfl H
                exact pG_ret (pRetI H)
theorem L_179_1_ok {X : aX} {F d : Nat} {K : Nat → aK} (hS : pS K) {out : Option Value × aH} {f : Nat} {x1 : Int32} {x2 : Int32} {x3 : Int32} {M : pMem} (H : pm X F d 179 f 1 [.iload 3, .bipush 500, .if_icmp .ge 19] [.ref 6, .int x1, .int x2, .int x3] [] (pH K M) out) : pG eI K out (L_179_1 x1 x2 x3 M) := by
  refine pG_all (C := fun P : (Int32 → Int32 → Int32 → pMem → pT Int32) × (Int32 → Int32 → pMem → pT Int32) => C_179 P.1 P.2) (T := fun P => P.1 x1 x2 x3 M) eI_inj ((fun _ _ _ _ _ _ => True), (fun _ _ _ _ _ => True)) ?_ (fun P hP => (K_179 hS P.1 P.2 hP f).1 _ _ _ _ H)
  exact ⟨(fun _ _ _ _ _ _ _ => trivial), (fun _ _ _ _ _ _ => trivial)⟩
theorem L_179_10_ok {X : aX} {F d : Nat} {K : Nat → aK} (hS : pS K) {out : Option Value × aH} {f : Nat} {x1 : Int32} {x3 : Int32} {u2 : Int32} {M : pMem} (H : pm X F d 179 f 10 [.aload 0, .invokevirtual 762171, .istore 2, .iload 2, .bipush 42, .if_icmp .eq 18] [.ref 6, .int x1, .int u2, .int x3] [] (pH K M) out) : pG eI K out (L_179_10 x1 x3 M) := by
  refine pG_all (C := fun P : (Int32 → Int32 → Int32 → pMem → pT Int32) × (Int32 → Int32 → pMem → pT Int32) => C_179 P.1 P.2) (T := fun P => P.2 x1 x3 M) eI_inj ((fun _ _ _ _ _ _ => True), (fun _ _ _ _ _ => True)) ?_ (fun P hP => (K_179 hS P.1 P.2 hP f).2 _ _ _ _ H)
  exact ⟨(fun _ _ _ _ _ _ _ => trivial), (fun _ _ _ _ _ _ => trivial)⟩
theorem D_179_ok {X : aX} {F d : Nat} {K : Nat → aK} (hS : pS K) {M : pMem} {out : Option Value × aH} (H : aM X F d 179 [.ref 6] (pH K M) = some out) : pG eI K out (D_179 M) := by
  obtain ⟨d', g0, _, H⟩ := pEnt (n := 4) (ls := [.ref 6, aD, aD, aD]) (mcb_179 rfl) (by decide +kernel) rfl H
  unfold D_179
  replace H := pRun (ls' := [.ref 6, .int (kI 102), .int (kI 102), .int (kI 0)]) (st' := []) 6 rfl H
  obtain ⟨g0, _, H⟩ := pFall (mcb_179 rfl) H
  exact L_179_1_ok hS  H
def l_179 : List (Nat × Nat) := [(6, 4), (6, 5), (12, 999), (7, 1), (6, 3)]
theorem FC_179 : C_179 (fun _ _ _ M _ N => pFr (l_179) M N) (fun _ _ M _ N => pFr (l_179) M N) := ⟨fun x1 x2 x3 M => show pTf (l_179) M (S_179_1 _ _ x1 x2 x3 M) from (tf_if (tf_ret pFr_refl) (tf_if (tf_call pFr_refl (fun _ _ h => F_180 h) [0, 1, 2, 3, 4] rfl fun _ M1 f1 => (tf_if (tf_if (tf_call f1 (fun _ _ h => F_155 (show pK 2 7 = true by decide +kernel) h) [2, 3] rfl fun _ M2 f2 => (tf_jump f2)) (tf_if (tf_jump f1) (tf_call f1 (fun _ _ h => F_155 (show pK 2 7 = true by decide +kernel) h) [2, 3] rfl fun _ M2 f2 => (tf_jump f2)))) (tf_ret f1))) (tf_call pFr_refl (fun _ _ h => F_180 h) [0, 1, 2, 3, 4] rfl fun _ M1 f1 => (tf_if (tf_if (tf_call f1 (fun _ _ h => F_155 (show pK 2 7 = true by decide +kernel) h) [2, 3] rfl fun _ M2 f2 => (tf_jump f2)) (tf_if (tf_jump f1) (tf_call f1 (fun _ _ h => F_155 (show pK 2 7 = true by decide +kernel) h) [2, 3] rfl fun _ M2 f2 => (tf_jump f2)))) (tf_ret f1))))), fun x1 x3 M => show pTf (l_179) M (S_179_10 _ _ x1 x3 M) from (tf_if (tf_put pFr_refl 4 rfl fun M1 f1 => (tf_jump f1)) (tf_if (tf_put pFr_refl 4 rfl fun M1 f1 => (tf_jump f1)) (tf_if (tf_if (tf_put pFr_refl 4 rfl fun M1 f1 => (tf_jump f1)) (tf_if (tf_put pFr_refl 4 rfl fun M1 f1 => (tf_jump f1)) (tf_ret pFr_refl))) (tf_call pFr_refl (fun _ _ h => F_155 (show pK 2 7 = true by decide +kernel) h) [2, 3] rfl fun _ M1 f1 => (tf_if (tf_put f1 4 rfl fun M2 f2 => (tf_jump f2)) (tf_if (tf_put f1 4 rfl fun M2 f2 => (tf_jump f2)) (tf_ret f1)))))))⟩
theorem F_179 {M : pMem} {v : Int32} {N : pMem} (h : D_179 M v N) : pFr (l_179) M N :=
  (show pTf (l_179) M (D_179 M) from (tf_jumpL (fun _ _ _ M _ N => pFr (l_179) M N, fun _ _ M _ N => pFr (l_179) M N) (FC_179) rfl pFr_refl)) v N h
