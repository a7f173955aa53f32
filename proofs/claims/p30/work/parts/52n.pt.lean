/-! what runs come to, method by method: printed by wip/pm/pm.py -/
/-- TwoCampsModel.of(II)I -/
def S_121_18 (p1 : Int32) (p2 : Int32) (P18 : Int32 → Int32 → pMem → pT Int32) (x3 : Int32) (x4 : Int32) (M : pMem) : pT Int32 := tIf ((M 188 2) ≤ x4) (tRet x3 M) (tIf (x4 = p1) (P18 x3 (x4 + kI 1) M) (tGd (pIn x4 24) <| tIf (¬ (M 191 (ix x4)) = (kI 1)) (P18 x3 (x4 + kI 1) M) (tCall (D_98 x4 p1 M) fun v1 M1 => tIf (v1 = 0) (P18 x3 (x4 + kI 1) M1) (P18 (x3 + (kI 1)) (x4 + kI 1) M1))))
def C_121 (p1 : Int32) (p2 : Int32) (P18 : Int32 → Int32 → pMem → pT Int32) : Prop := (∀ (x3 : Int32) (x4 : Int32) M v N, S_121_18 p1 p2 P18 x3 x4 M v N → P18 x3 x4 M v N)
def L_121_18 (p1 : Int32) (p2 : Int32) (x3 : Int32) (x4 : Int32) (M : pMem) : pT Int32 := fun v N => ∀ P : (Int32 → Int32 → pMem → pT Int32), C_121 p1 p2 P → P x3 x4 M v N
def D_121 (p1 : Int32) (p2 : Int32) (M : pMem) : pT Int32 := tPut (aPut M 188 0 (kI 0)) fun M1 => tIf (¬ (f_45 p1 M1) = 0) (tIf ((f_42 p2 (kI 100) ((kI 99) + (M1 188 2))) = 0) (tIf (¬ p2 = 0) (tIf (¬ p2 = (kI 1)) (tIf (¬ p2 = (kI 2)) (tIf ((f_42 p2 (kI 3) (kI 5)) = 0) (tIf (¬ p2 = (kI 6)) (tIf (¬ p2 = (kI 7)) (tIf (¬ p2 = (kI 8)) (tIf ((f_42 p2 (kI 9) (kI 11)) = 0) (tRet (kI (-100)) M1) (tCall (D_56 p1 (p2 - (kI 9)) M1) fun v1 M2 => tRet v1 M2)) (L_121_18 p1 p2 (kI 0) (kI 0) M1)) (tGd (pIn p1 24) <| tRet (M1 192 (ix p1)) M1)) (tCall (D_97 p1 M1) fun v1 M2 => tRet v1 M2)) (tCall (D_96 p1 M1) fun _ M2 => tGd (pIn (p2 - (kI 3)) 3) <| tRet (M2 221 (ix (p2 - (kI 3)))) M2)) (tGd (pIn p1 24) <| tRet (M1 191 (ix p1)) M1)) (tGd (pIn p1 24) <| tRet (M1 190 (ix p1)) M1)) (tGd (pIn p1 24) <| tRet (M1 189 (ix p1)) M1)) (tGd (pIn ((((kI 24) * p1) + p2) - (kI 100)) 576) <| tRet (M1 194 (ix ((((kI 24) * p1) + p2) - (kI 100)))) M1)) (tRet (kI (-100)) M1)
theorem K_121 {X : aX} {F d : Nat} {K : Nat → aK} (hS : pS K) {p1 : Int32} {p2 : Int32} {out : Option Value × aH} (P18 : Int32 → Int32 → pMem → pT Int32) (hC : C_121 p1 p2 P18) : ∀ f, (∀ (x3 : Int32) (x4 : Int32) M, pm X F d 121 f 18 [.iload 4, .aload 0, .getfield 124412008, .if_icmp .ge 24] [.ref 188, .int p1, .int p2, .int x3, .int x4] [] (pH K M) out → pG eI K out (P18 x3 x4 M)) := by
  intro f
  induction f using Nat.strongRecOn with
  | _ f ih =>
    intro x3 x4 M H
    refine pG_mono (fun v N h => hC x3 x4 M v N h) ?_
    unfold S_121_18
    replace H := pRun (ls' := [.ref 188, .int p1, .int p2, .int x3, .int x4]) (st' := [.ref 188, .int x4]) 2 rfl H
    replace H := pGetN (v := M 188 2) rfl (by decide) H
    rcases pIfc (n1 := 24) rfl (mcb_121 rfl) (mcb_121 rfl) H with ⟨g1, g0, _, H⟩ | ⟨g1, g0, _, H⟩
    · refine pG_pos (c := (M 188 2) ≤ x4) g1 ?_
      replace H := pRun (ls' := [.ref 188, .int p1, .int p2, .int x3, .int x4]) (st' := [.int x3]) 1 rfl H
      exact pG_ret (pRetI H)
    · refine pG_neg (c := (M 188 2) ≤ x4) g1 ?_
      replace H := pRun (ls' := [.ref 188, .int p1, .int p2, .int x3, .int x4]) (st' := [.int p1, .int x4]) 2 rfl H
      rcases pIfc (n1 := 23) rfl (mcb_121 rfl) (mcb_121 rfl) H with ⟨g2, g0, _, H⟩ | ⟨g2, g0, _, H⟩
      · refine pG_pos (c := x4 = p1) g2 ?_
        replace H := pRun (ls' := [.ref 188, .int p1, .int p2, .int x3, .int (x4 + kI 1)]) (st' := []) 1 rfl H
        obtain ⟨g0, _, H⟩ := pGo (n1 := 18) rfl (mcb_121 rfl) H
        exact (ih _ (by omega)) _ _  _ H
      · refine pG_neg (c := x4 = p1) g2 ?_
        replace H := pRun (ls' := [.ref 188, .int p1, .int p2, .int x3, .int x4]) (st' := [.ref 188]) 1 rfl H
        replace H := pGetR (r := 191) (pRf hS (by decide +kernel)) rfl H
        replace H := pRun (ls' := [.ref 188, .int p1, .int p2, .int x3, .int x4]) (st' := [.int x4, .ref 191]) 1 rfl H
        obtain ⟨g3, H⟩ := pIld (n := 24) (pLt (show pCa 191 24 = true by decide +kernel)) (pLn hS (show pCa 191 24 = true by decide +kernel)) H
        refine pG_gd g3 ?_
        replace H := pRun (ls' := [.ref 188, .int p1, .int p2, .int x3, .int x4]) (st' := [.int (kI 1), .int (M 191 (ix x4))]) 1 rfl H
        rcases pIfc (n1 := 23) rfl (mcb_121 rfl) (mcb_121 rfl) H with ⟨g4, g0, _, H⟩ | ⟨g4, g0, _, H⟩
        · refine pG_pos (c := ¬ (M 191 (ix x4)) = (kI 1)) g4 ?_
          replace H := pRun (ls' := [.ref 188, .int p1, .int p2, .int x3, .int (x4 + kI 1)]) (st' := []) 1 rfl H
          obtain ⟨g0, _, H⟩ := pGo (n1 := 18) rfl (mcb_121 rfl) H
          exact (ih _ (by omega)) _ _  _ H
        · refine pG_neg (c := ¬ (M 191 (ix x4)) = (kI 1)) g4 ?_
          replace H := pRun (ls' := [.ref 188, .int p1, .int p2, .int x3, .int x4]) (st' := [.int p1, .int x4, .ref 188]) 3 rfl H
          obtain ⟨rv, h1, hc, H⟩ := pCalV 98 2 188 (as := [.int x4, .int p1]) (rest := []) rfl (by decide) (by decide +kernel) rfl rfl H
          obtain ⟨v1, M1, hD, H⟩ := pUseI (D_98_ok hS hc) H
          refine pG_call (x := v1) (M1 := M1) hD ?_
          rcases pIf0 (n1 := 23) rfl (mcb_121 rfl) (mcb_121 rfl) H with ⟨g5, g0, _, H⟩ | ⟨g5, g0, _, H⟩
          · refine pG_pos (c := v1 = 0) g5 ?_
            replace H := pRun (ls' := [.ref 188, .int p1, .int p2, .int x3, .int (x4 + kI 1)]) (st' := []) 1 rfl H
            obtain ⟨g0, _, H⟩ := pGo (n1 := 18) rfl (mcb_121 rfl) H
            exact (ih _ (by omega)) _ _  _ H
          · refine pG_neg (c := v1 = 0) g5 ?_
            replace H := pRun (ls' := [.ref 188, .int p1, .int p2, .int (x3 + (kI 1)), .int x4]) (st' := []) 4 rfl H
            obtain ⟨g0, _, H⟩ := pFall (mcb_121 rfl) H
            replace H := pRun (ls' := [.ref 188, .int p1, .int p2, .int (x3 + (kI 1)), .int (x4 + kI 1)]) (st' := []) 1 rfl H
            obtain ⟨g0, _, H⟩ := pGo (n1 := 18) rfl (mcb_121 rfl) H
            exact (ih _ (by omega)) _ _  _ H
theorem L_121_18_ok {X : aX} {F d : Nat} {K : Nat → aK} (hS : pS K) {p1 : Int32} {p2 : Int32} {out : Option Value × aH} {f : Nat} {x3 : Int32} {x4 : Int32} {M : pMem} (H : pm X F d 121 f 18 [.iload 4, .aload 0, .getfield 124412008, .if_icmp .ge 24] [.ref 188, .int p1, .int p2, .int x3, .int x4] [] (pH K M) out) : pG eI K out (L_121_18 p1 p2 x3 x4 M) := by
  refine pG_all (C := fun P : (Int32 → Int32 → pMem → pT Int32) => C_121 p1 p2 P) (T := fun P => P x3 x4 M) eI_inj (fun _ _ _ _ _ => True) ?_ (fun P hP => (K_121 hS P hP f) _ _ _ H)
  exact (fun _ _ _ _ _ _ => trivial)
theorem D_121_ok {X : aX} {F d : Nat} {K : Nat → aK} (hS : pS K) {p1 : Int32} {p2 : Int32} {M : pMem} {out : Option Value × aH} (H : aM X F d 121 [.ref 188, .int p1, .int p2] (pH K M) = some out) : pG eI K out (D_121 p1 p2 M) := by
  obtain ⟨d', g0, _, H⟩ := pEnt (n := 5) (ls := [.ref 188, .int p1, .int p2, aD, aD]) (mcb_121 rfl) (by decide +kernel) rfl H
  unfold D_121
  replace H := pRun (ls' := [.ref 188, .int p1, .int p2, aD, aD]) (st' := [.int (kI 0), .ref 188]) 2 rfl H
  obtain ⟨M1, eM1, H⟩ := pPutN (j := 0) rfl H
  refine pG_put (M2 := M1) eM1 ?_
  replace H := pRun (ls' := [.ref 188, .int p1, .int p2, aD, aD]) (st' := [.int p1, .ref 188]) 2 rfl H
  obtain ⟨rv, h1, hc, H⟩ := pCalV 45 1 188 (as := [.int p1]) (rest := []) rfl (by decide) (by decide +kernel) rfl rfl H
  replace H := pUseF (f_45_ok hS hc) H
  rcases pIf0 (n1 := 2) rfl (mcb_121 rfl) (mcb_121 rfl) H with ⟨g1, g0, _, H⟩ | ⟨g1, g0, _, H⟩
  · refine pG_pos (c := ¬ (f_45 p1 M1) = 0) g1 ?_
    replace H := pRun (ls' := [.ref 188, .int p1, .int p2, aD, aD]) (st' := [.ref 188, .int (kI 99), .int (kI 100), .int p2, .ref 188]) 5 rfl H
    replace H := pGetN (v := M1 188 2) rfl (by decide) H
    replace H := pRun (ls' := [.ref 188, .int p1, .int p2, aD, aD]) (st' := [.int ((kI 99) + (M1 188 2)), .int (kI 100), .int p2, .ref 188]) 1 rfl H
    obtain ⟨rv, h1, hc, H⟩ := pCalV 42 3 188 (as := [.int p2, .int (kI 100), .int ((kI 99) + (M1 188 2))]) (rest := []) rfl (by decide) (by decide +kernel) rfl rfl H
    replace H := pUseF (f_42_ok hS hc) H
    rcases pIf0 (n1 := 4) rfl (mcb_121 rfl) (mcb_121 rfl) H with ⟨g2, g0, _, H⟩ | ⟨g2, g0, _, H⟩
    · refine pG_pos (c := (f_42 p2 (kI 100) ((kI 99) + (M1 188 2))) = 0) g2 ?_
      replace H := pRun (ls' := [.ref 188, .int p1, .int p2, aD, aD]) (st' := [.int p2]) 1 rfl H
      rcases pIf0 (n1 := 6) rfl (mcb_121 rfl) (mcb_121 rfl) H with ⟨g3, g0, _, H⟩ | ⟨g3, g0, _, H⟩
      · refine pG_pos (c := ¬ p2 = 0) g3 ?_
        replace H := pRun (ls' := [.ref 188, .int p1, .int p2, aD, aD]) (st' := [.int (kI 1), .int p2]) 2 rfl H
        rcases pIfc (n1 := 8) rfl (mcb_121 rfl) (mcb_121 rfl) H with ⟨g4, g0, _, H⟩ | ⟨g4, g0, _, H⟩
        · refine pG_pos (c := ¬ p2 = (kI 1)) g4 ?_
          replace H := pRun (ls' := [.ref 188, .int p1, .int p2, aD, aD]) (st' := [.int (kI 2), .int p2]) 2 rfl H
          rcases pIfc (n1 := 10) rfl (mcb_121 rfl) (mcb_121 rfl) H with ⟨g5, g0, _, H⟩ | ⟨g5, g0, _, H⟩
          · refine pG_pos (c := ¬ p2 = (kI 2)) g5 ?_
            replace H := pRun (ls' := [.ref 188, .int p1, .int p2, aD, aD]) (st' := [.int (kI 5), .int (kI 3), .int p2, .ref 188]) 4 rfl H
            obtain ⟨rv, h1, hc, H⟩ := pCalV 42 3 188 (as := [.int p2, .int (kI 3), .int (kI 5)]) (rest := []) rfl (by decide) (by decide +kernel) rfl rfl H
            replace H := pUseF (f_42_ok hS hc) H
            rcases pIf0 (n1 := 12) rfl (mcb_121 rfl) (mcb_121 rfl) H with ⟨g6, g0, _, H⟩ | ⟨g6, g0, _, H⟩
            · refine pG_pos (c := (f_42 p2 (kI 3) (kI 5)) = 0) g6 ?_
              replace H := pRun (ls' := [.ref 188, .int p1, .int p2, aD, aD]) (st' := [.int (kI 6), .int p2]) 2 rfl H
              rcases pIfc (n1 := 14) rfl (mcb_121 rfl) (mcb_121 rfl) H with ⟨g7, g0, _, H⟩ | ⟨g7, g0, _, H⟩
              · refine pG_pos (c := ¬ p2 = (kI 6)) g7 ?_
                replace H := pRun (ls' := [.ref 188, .int p1, .int p2, aD, aD]) (st' := [.int (kI 7), .int p2]) 2 rfl H
                rcases pIfc (n1 := 16) rfl (mcb_121 rfl) (mcb_121 rfl) H with ⟨g8, g0, _, H⟩ | ⟨g8, g0, _, H⟩
                · refine pG_pos (c := ¬ p2 = (kI 7)) g8 ?_
                  replace H := pRun (ls' := [.ref 188, .int p1, .int p2, aD, aD]) (st' := [.int (kI 8), .int p2]) 2 rfl H
                  rcases pIfc (n1 := 25) rfl (mcb_121 rfl) (mcb_121 rfl) H with ⟨g9, g0, _, H⟩ | ⟨g9, g0, _, H⟩
                  · refine pG_pos (c := ¬ p2 = (kI 8)) g9 ?_
                    replace H := pRun (ls' := [.ref 188, .int p1, .int p2, aD, aD]) (st' := [.int (kI 11), .int (kI 9), .int p2, .ref 188]) 4 rfl H
                    obtain ⟨rv, h1, hc, H⟩ := pCalV 42 3 188 (as := [.int p2, .int (kI 9), .int (kI 11)]) (rest := []) rfl (by decide) (by decide +kernel) rfl rfl H
                    replace H := pUseF (f_42_ok hS hc) H
                    rcases pIf0 (n1 := 27) rfl (mcb_121 rfl) (mcb_121 rfl) H with ⟨g10, g0, _, H⟩ | ⟨g10, g0, _, H⟩
                    · refine pG_pos (c := (f_42 p2 (kI 9) (kI 11)) = 0) g10 ?_
                      replace H := pRun (ls' := [.ref 188, .int p1, .int p2, aD, aD]) (st' := [.int (kI (-100))]) 1 rfl H
                      obtain ⟨g0, _, H⟩ := pFall (mcb_121 rfl) H
                      exact pG_ret (pRetI H)
                    · refine pG_neg (c := (f_42 p2 (kI 9) (kI 11)) = 0) g10 ?_
                      replace H := pRun (ls' := [.ref 188, .int p1, .int p2, aD, aD]) (st' := [.int (p2 - (kI 9)), .int p1, .ref 188]) 5 rfl H
                      obtain ⟨rv, h1, hc, H⟩ := pCalV 56 2 188 (as := [.int p1, .int (p2 - (kI 9))]) (rest := []) rfl (by decide) (by decide +kernel) rfl rfl H
                      obtain ⟨v1, M2, hD, H⟩ := pUseI (D_56_ok hS hc) H
                      refine pG_call (x := v1) (M1 := M2) hD ?_
                      obtain ⟨g0, _, H⟩ := pGo (n1 := 28) rfl (mcb_121 rfl) H
                      exact pG_ret (pRetI H)
                  · refine pG_neg (c := ¬ p2 = (kI 8)) g9 ?_
                    replace H := pRun (ls' := [.ref 188, .int p1, .int p2, .int (kI 0), .int (kI 0)]) (st' := []) 4 rfl H
                    obtain ⟨g0, _, H⟩ := pFall (mcb_121 rfl) H
                    exact L_121_18_ok hS  H
                · refine pG_neg (c := ¬ p2 = (kI 7)) g8 ?_
                  replace H := pRun (ls' := [.ref 188, .int p1, .int p2, aD, aD]) (st' := [.ref 188]) 1 rfl H
                  replace H := pGetR (r := 192) (pRf hS (by decide +kernel)) rfl H
                  replace H := pRun (ls' := [.ref 188, .int p1, .int p2, aD, aD]) (st' := [.int p1, .ref 192]) 1 rfl H
                  obtain ⟨g9, H⟩ := pIld (n := 24) (pLt (show pCa 192 24 = true by decide +kernel)) (pLn hS (show pCa 192 24 = true by decide +kernel)) H
                  refine pG_gd g9 ?_
                  exact pG_ret (pRetI H)
              · refine pG_neg (c := ¬ p2 = (kI 6)) g7 ?_
                replace H := pRun (ls' := [.ref 188, .int p1, .int p2, aD, aD]) (st' := [.int p1, .ref 188]) 2 rfl H
                obtain ⟨rv, h1, hc, H⟩ := pCalV 97 1 188 (as := [.int p1]) (rest := []) rfl (by decide) (by decide +kernel) rfl rfl H
                obtain ⟨v1, M2, hD, H⟩ := pUseI (D_97_ok hS hc) H
                refine pG_call (x := v1) (M1 := M2) hD ?_
                exact pG_ret (pRetI H)
            · refine pG_neg (c := (f_42 p2 (kI 3) (kI 5)) = 0) g6 ?_
              replace H := pRun (ls' := [.ref 188, .int p1, .int p2, aD, aD]) (st' := [.int p1, .ref 188]) 2 rfl H
              obtain ⟨rv, h1, hc, H⟩ := pCalV 96 1 188 (as := [.int p1]) (rest := []) rfl (by decide) (by decide +kernel) rfl rfl H
              obtain ⟨v1, M2, hD, H⟩ := pUseU (D_96_ok hS hc) H
              refine pG_call (x := v1) (M1 := M2) hD ?_
              replace H := pRun (ls' := [.ref 188, .int p1, .int p2, aD, aD]) (st' := [.ref 188]) 1 rfl H
              replace H := pGetR (r := 221) (pRf hS (by decide +kernel)) rfl H
              replace H := pRun (ls' := [.ref 188, .int p1, .int p2, aD, aD]) (st' := [.int (p2 - (kI 3)), .ref 221]) 3 rfl H
              obtain ⟨g7, H⟩ := pIld (n := 3) (pLt (show pCa 221 3 = true by decide +kernel)) (pLn hS (show pCa 221 3 = true by decide +kernel)) H
              refine pG_gd g7 ?_
              exact pG_ret (pRetI H)
          · refine pG_neg (c := ¬ p2 = (kI 2)) g5 ?_
            replace H := pRun (ls' := [.ref 188, .int p1, .int p2, aD, aD]) (st' := [.ref 188]) 1 rfl H
            replace H := pGetR (r := 191) (pRf hS (by decide +kernel)) rfl H
            replace H := pRun (ls' := [.ref 188, .int p1, .int p2, aD, aD]) (st' := [.int p1, .ref 191]) 1 rfl H
            obtain ⟨g6, H⟩ := pIld (n := 24) (pLt (show pCa 191 24 = true by decide +kernel)) (pLn hS (show pCa 191 24 = true by decide +kernel)) H
            refine pG_gd g6 ?_
            exact pG_ret (pRetI H)
        · refine pG_neg (c := ¬ p2 = (kI 1)) g4 ?_
          replace H := pRun (ls' := [.ref 188, .int p1, .int p2, aD, aD]) (st' := [.ref 188]) 1 rfl H
          replace H := pGetR (r := 190) (pRf hS (by decide +kernel)) rfl H
          replace H := pRun (ls' := [.ref 188, .int p1, .int p2, aD, aD]) (st' := [.int p1, .ref 190]) 1 rfl H
          obtain ⟨g5, H⟩ := pIld (n := 24) (pLt (show pCa 190 24 = true by decide +kernel)) (pLn hS (show pCa 190 24 = true by decide +kernel)) H
          refine pG_gd g5 ?_
          exact pG_ret (pRetI H)
      · refine pG_neg (c := ¬ p2 = 0) g3 ?_
        replace H := pRun (ls' := [.ref 188, .int p1, .int p2, aD, aD]) (st' := [.ref 188]) 1 rfl H
        replace H := pGetR (r := 189) (pRf hS (by decide +kernel)) rfl H
        replace H := pRun (ls' := [.ref 188, .int p1, .int p2, aD, aD]) (st' := [.int p1, .ref 189]) 1 rfl H
        obtain ⟨g4, H⟩ := pIld (n := 24) (pLt (show pCa 189 24 = true by decide +kernel)) (pLn hS (show pCa 189 24 = true by decide +kernel)) H
        refine pG_gd g4 ?_
        exact pG_ret (pRetI H)
    · refine pG_neg (c := (f_42 p2 (kI 100) ((kI 99) + (M1 188 2))) = 0) g2 ?_
      replace H := pRun (ls' := [.ref 188, .int p1, .int p2, aD, aD]) (st' := [.ref 188]) 1 rfl H
      replace H := pGetR (r := 194) (pRf hS (by decide +kernel)) rfl H
      replace H := pRun (ls' := [.ref 188, .int p1, .int p2, aD, aD]) (st' := [.int ((((kI 24) * p1) + p2) - (kI 100)), .ref 194]) 7 rfl H
      obtain ⟨g3, H⟩ := pIld (n := 576) (pLt (show pCa 194 576 = true by decide +kernel)) (pLn hS (show pCa 194 576 = true by decide +kernel)) H
      refine pG_gd g3 ?_
      exact pG_ret (pRetI H)
  · refine pG_neg (c := ¬ (f_45 p1 M1) = 0) g1 ?_
    replace H := pRun (ls' := [.ref 188, .int p1, .int p2, aD, aD]) (st' := [.int (kI (-100))]) 1 rfl H
    exact pG_ret (pRetI H)
def l_121 : List (Nat × Nat) := []
theorem FC_121 {p1 : Int32} {p2 : Int32} : C_121 p1 p2 (fun _ _ M _ N => pFr (l_121) M N) := fun x3 x4 M => show pTf (l_121) M (S_121_18 p1 p2 _ x3 x4 M) from (tf_if (tf_ret pFr_refl) (tf_if (tf_jump pFr_refl) (tf_gd fun g3 => (tf_if (tf_jump pFr_refl) (tf_call pFr_refl (fun _ _ h => F_98 h) [] rfl fun _ M1 f1 => (tf_if (tf_jump f1) (tf_jump f1)))))))
theorem F_121 {p1 : Int32} {p2 : Int32} {M : pMem} {v : Int32} {N : pMem} (h : D_121 p1 p2 M v N) : pFr (l_121) M N :=
  (show pTf (l_121) M (D_121 p1 p2 M) from (tf_putS1 pFr_refl rfl fun M1 f1 => (tf_if (tf_if (tf_if (tf_if (tf_if (tf_if (tf_if (tf_if (tf_if (tf_if (tf_ret f1) (tf_call f1 (fun _ _ h => F_56 h) [] rfl fun _ M2 f2 => (tf_ret f2))) (tf_jumpL (fun _ _ M _ N => pFr (l_121) M N) (FC_121) rfl f1)) (tf_gd fun g9 => (tf_ret f1))) (tf_call f1 (fun _ _ h => F_97 h) [] rfl fun _ M2 f2 => (tf_ret f2))) (tf_call f1 (fun _ _ h => F_96 h) [] rfl fun _ M2 f2 => (tf_gd fun g7 => (tf_ret f2)))) (tf_gd fun g6 => (tf_ret f1))) (tf_gd fun g5 => (tf_ret f1))) (tf_gd fun g4 => (tf_ret f1))) (tf_gd fun g3 => (tf_ret f1))) (tf_ret f1)))) v N h
/-- TwoCampsModel.lot(II)I -/
def S_122_21 (p1 : Int32) (p2 : Int32) (P21 : Int32 → Int32 → pMem → pT Int32) (x3 : Int32) (x4 : Int32) (M : pMem) : pT Int32 := tIf ((M 188 2) ≤ x4) (tRet x3 M) (tGd (pIn x4 24) <| tIf (¬ (M 191 (ix x4)) = (kI 1)) (P21 x3 (x4 + kI 1) M) (tGd (pIn x4 24) <| tIf (¬ (M 189 (ix x4)) = p1) (P21 x3 (x4 + kI 1) M) (tCall (D_97 x4 M) fun v1 M1 => P21 (x3 + v1) (x4 + kI 1) M1)))
def C_122 (p1 : Int32) (p2 : Int32) (P21 : Int32 → Int32 → pMem → pT Int32) : Prop := (∀ (x3 : Int32) (x4 : Int32) M v N, S_122_21 p1 p2 P21 x3 x4 M v N → P21 x3 x4 M v N)
def L_122_21 (p1 : Int32) (p2 : Int32) (x3 : Int32) (x4 : Int32) (M : pMem) : pT Int32 := fun v N => ∀ P : (Int32 → Int32 → pMem → pT Int32), C_122 p1 p2 P → P x3 x4 M v N
def D_122 (p1 : Int32) (p2 : Int32) (M : pMem) : pT Int32 := tPut (aPut M 188 0 (kI 0)) fun M1 => tIf (¬ (f_46 p1) = 0) (tIf (¬ p2 = 0) (tIf (¬ p2 = (kI 1)) (tIf (¬ p2 = (kI 2)) (tIf (¬ p2 = (kI 3)) (tIf (¬ p2 = (kI 4)) (tIf (¬ p2 = (kI 5)) (tIf (¬ p2 = (kI 6)) (tIf (¬ p2 = (kI 8)) (tIf (p2 = (kI 7)) (L_122_21 p1 p2 (kI 0) (kI 0) M1) (tRet (kI (-100)) M1)) (tGd (pIn p1 2) <| tRet (M1 200 (ix p1)) M1)) (tGd (pIn p1 2) <| tRet (M1 199 (ix p1)) M1)) (tGd (pIn p1 2) <| tRet (M1 198 (ix p1)) M1)) (tGd (pIn p1 2) <| tRet (M1 197 (ix p1)) M1)) (tGd (pIn p1 2) <| tRet (M1 196 (ix p1)) M1)) (tCall (D_54 p1 ((kI 1) - p1) M1) fun v1 M2 => tRet v1 M2)) (tCall (D_54 p1 p1 M1) fun v1 M2 => tRet v1 M2)) (tCall (D_53 p1 M1) fun v1 M2 => tRet v1 M2)) (tRet (kI (-100)) M1)
theorem K_122 {X : aX} {F d : Nat} {K : Nat → aK} (hS : pS K) {p1 : Int32} {p2 : Int32} {out : Option Value × aH} (P21 : Int32 → Int32 → pMem → pT Int32) (hC : C_122 p1 p2 P21) : ∀ f, (∀ (x3 : Int32) (x4 : Int32) M, pm X F d 122 f 21 [.iload 4, .aload 0, .getfield 124412008, .if_icmp .ge 26] [.ref 188, .int p1, .int p2, .int x3, .int x4] [] (pH K M) out → pG eI K out (P21 x3 x4 M)) := by
  intro f
  induction f using Nat.strongRecOn with
  | _ f ih =>
    intro x3 x4 M H
    refine pG_mono (fun v N h => hC x3 x4 M v N h) ?_
    unfold S_122_21
    replace H := pRun (ls' := [.ref 188, .int p1, .int p2, .int x3, .int x4]) (st' := [.ref 188, .int x4]) 2 rfl H
    replace H := pGetN (v := M 188 2) rfl (by decide) H
    rcases pIfc (n1 := 26) rfl (mcb_122 rfl) (mcb_122 rfl) H with ⟨g1, g0, _, H⟩ | ⟨g1, g0, _, H⟩
    · refine pG_pos (c := (M 188 2) ≤ x4) g1 ?_
      replace H := pRun (ls' := [.ref 188, .int p1, .int p2, .int x3, .int x4]) (st' := [.int x3]) 1 rfl H
      exact pG_ret (pRetI H)
    · refine pG_neg (c := (M 188 2) ≤ x4) g1 ?_
      replace H := pRun (ls' := [.ref 188, .int p1, .int p2, .int x3, .int x4]) (st' := [.ref 188]) 1 rfl H
      replace H := pGetR (r := 191) (pRf hS (by decide +kernel)) rfl H
      replace H := pRun (ls' := [.ref 188, .int p1, .int p2, .int x3, .int x4]) (st' := [.int x4, .ref 191]) 1 rfl H
      obtain ⟨g2, H⟩ := pIld (n := 24) (pLt (show pCa 191 24 = true by decide +kernel)) (pLn hS (show pCa 191 24 = true by decide +kernel)) H
      refine pG_gd g2 ?_
      replace H := pRun (ls' := [.ref 188, .int p1, .int p2, .int x3, .int x4]) (st' := [.int (kI 1), .int (M 191 (ix x4))]) 1 rfl H
      rcases pIfc (n1 := 25) rfl (mcb_122 rfl) (mcb_122 rfl) H with ⟨g3, g0, _, H⟩ | ⟨g3, g0, _, H⟩
      · refine pG_pos (c := ¬ (M 191 (ix x4)) = (kI 1)) g3 ?_
        replace H := pRun (ls' := [.ref 188, .int p1, .int p2, .int x3, .int (x4 + kI 1)]) (st' := []) 1 rfl H
        obtain ⟨g0, _, H⟩ := pGo (n1 := 21) rfl (mcb_122 rfl) H
        exact (ih _ (by omega)) _ _  _ H
      · refine pG_neg (c := ¬ (M 191 (ix x4)) = (kI 1)) g3 ?_
        replace H := pRun (ls' := [.ref 188, .int p1, .int p2, .int x3, .int x4]) (st' := [.ref 188]) 1 rfl H
        replace H := pGetR (r := 189) (pRf hS (by decide +kernel)) rfl H
        replace H := pRun (ls' := [.ref 188, .int p1, .int p2, .int x3, .int x4]) (st' := [.int x4, .ref 189]) 1 rfl H
        obtain ⟨g4, H⟩ := pIld (n := 24) (pLt (show pCa 189 24 = true by decide +kernel)) (pLn hS (show pCa 189 24 = true by decide +kernel)) H
        refine pG_gd g4 ?_
        replace H := pRun (ls' := [.ref 188, .int p1, .int p2, .int x3, .int x4]) (st' := [.int p1, .int (M 189 (ix x4))]) 1 rfl H
        rcases pIfc (n1 := 25) rfl (mcb_122 rfl) (mcb_122 rfl) H with ⟨g5, g0, _, H⟩ | ⟨g5, g0, _, H⟩
        · refine pG_pos (c := ¬ (M 189 (ix x4)) = p1) g5 ?_
          replace H := pRun (ls' := [.ref 188, .int p1, .int p2, .int x3, .int (x4 + kI 1)]) (st' := []) 1 rfl H
          obtain ⟨g0, _, H⟩ := pGo (n1 := 21) rfl (mcb_122 rfl) H
          exact (ih _ (by omega)) _ _  _ H
        · refine pG_neg (c := ¬ (M 189 (ix x4)) = p1) g5 ?_
          replace H := pRun (ls' := [.ref 188, .int p1, .int p2, .int x3, .int x4]) (st' := [.int x4, .ref 188, .int x3]) 3 rfl H
          obtain ⟨rv, h1, hc, H⟩ := pCalV 97 1 188 (as := [.int x4]) (rest := [.int x3]) rfl (by decide) (by decide +kernel) rfl rfl H
          obtain ⟨v1, M1, hD, H⟩ := pUseI (D_97_ok hS hc) H
          refine pG_call (x := v1) (M1 := M1) hD ?_
          replace H := pRun (ls' := [.ref 188, .int p1, .int p2, .int (x3 + v1), .int x4]) (st' := []) 2 rfl H
          obtain ⟨g0, _, H⟩ := pFall (mcb_122 rfl) H
          replace H := pRun (ls' := [.ref 188, .int p1, .int p2, .int (x3 + v1), .int (x4 + kI 1)]) (st' := []) 1 rfl H
          obtain ⟨g0, _, H⟩ := pGo (n1 := 21) rfl (mcb_122 rfl) H
          exact (ih _ (by omega)) _ _  _ H
theorem L_122_21_ok {X : aX} {F d : Nat} {K : Nat → aK} (hS : pS K) {p1 : Int32} {p2 : Int32} {out : Option Value × aH} {f : Nat} {x3 : Int32} {x4 : Int32} {M : pMem} (H : pm X F d 122 f 21 [.iload 4, .aload 0, .getfield 124412008, .if_icmp .ge 26] [.ref 188, .int p1, .int p2, .int x3, .int x4] [] (pH K M) out) : pG eI K out (L_122_21 p1 p2 x3 x4 M) := by
  refine pG_all (C := fun P : (Int32 → Int32 → pMem → pT Int32) => C_122 p1 p2 P) (T := fun P => P x3 x4 M) eI_inj (fun _ _ _ _ _ => True) ?_ (fun P hP => (K_122 hS P hP f) _ _ _ H)
  exact (fun _ _ _ _ _ _ => trivial)
theorem D_122_ok {X : aX} {F d : Nat} {K : Nat → aK} (hS : pS K) {p1 : Int32} {p2 : Int32} {M : pMem} {out : Option Value × aH} (H : aM X F d 122 [.ref 188, .int p1, .int p2] (pH K M) = some out) : pG eI K out (D_122 p1 p2 M) := by
  obtain ⟨d', g0, _, H⟩ := pEnt (n := 5) (ls := [.ref 188, .int p1, .int p2, aD, aD]) (mcb_122 rfl) (by decide +kernel) rfl H
  unfold D_122
  replace H := pRun (ls' := [.ref 188, .int p1, .int p2, aD, aD]) (st' := [.int (kI 0), .ref 188]) 2 rfl H
  obtain ⟨M1, eM1, H⟩ := pPutN (j := 0) rfl H
  refine pG_put (M2 := M1) eM1 ?_
  replace H := pRun (ls' := [.ref 188, .int p1, .int p2, aD, aD]) (st' := [.int p1, .ref 188]) 2 rfl H
  obtain ⟨rv, h1, hc, H⟩ := pCalV 46 1 188 (as := [.int p1]) (rest := []) rfl (by decide) (by decide +kernel) rfl rfl H
  replace H := pUseF (f_46_ok hS hc) H
  rcases pIf0 (n1 := 2) rfl (mcb_122 rfl) (mcb_122 rfl) H with ⟨g1, g0, _, H⟩ | ⟨g1, g0, _, H⟩
  · refine pG_pos (c := ¬ (f_46 p1) = 0) g1 ?_
    replace H := pRun (ls' := [.ref 188, .int p1, .int p2, aD, aD]) (st' := [.int p2]) 1 rfl H
    rcases pIf0 (n1 := 4) rfl (mcb_122 rfl) (mcb_122 rfl) H with ⟨g2, g0, _, H⟩ | ⟨g2, g0, _, H⟩
    · refine pG_pos (c := ¬ p2 = 0) g2 ?_
      replace H := pRun (ls' := [.ref 188, .int p1, .int p2, aD, aD]) (st' := [.int (kI 1), .int p2]) 2 rfl H
      rcases pIfc (n1 := 6) rfl (mcb_122 rfl) (mcb_122 rfl) H with ⟨g3, g0, _, H⟩ | ⟨g3, g0, _, H⟩
      · refine pG_pos (c := ¬ p2 = (kI 1)) g3 ?_
        replace H := pRun (ls' := [.ref 188, .int p1, .int p2, aD, aD]) (st' := [.int (kI 2), .int p2]) 2 rfl H
        rcases pIfc (n1 := 8) rfl (mcb_122 rfl) (mcb_122 rfl) H with ⟨g4, g0, _, H⟩ | ⟨g4, g0, _, H⟩
        · refine pG_pos (c := ¬ p2 = (kI 2)) g4 ?_
          replace H := pRun (ls' := [.ref 188, .int p1, .int p2, aD, aD]) (st' := [.int (kI 3), .int p2]) 2 rfl H
          rcases pIfc (n1 := 10) rfl (mcb_122 rfl) (mcb_122 rfl) H with ⟨g5, g0, _, H⟩ | ⟨g5, g0, _, H⟩
          · refine pG_pos (c := ¬ p2 = (kI 3)) g5 ?_
            replace H := pRun (ls' := [.ref 188, .int p1, .int p2, aD, aD]) (st' := [.int (kI 4), .int p2]) 2 rfl H
            rcases pIfc (n1 := 12) rfl (mcb_122 rfl) (mcb_122 rfl) H with ⟨g6, g0, _, H⟩ | ⟨g6, g0, _, H⟩
            · refine pG_pos (c := ¬ p2 = (kI 4)) g6 ?_
              replace H := pRun (ls' := [.ref 188, .int p1, .int p2, aD, aD]) (st' := [.int (kI 5), .int p2]) 2 rfl H
              rcases pIfc (n1 := 14) rfl (mcb_122 rfl) (mcb_122 rfl) H with ⟨g7, g0, _, H⟩ | ⟨g7, g0, _, H⟩
              · refine pG_pos (c := ¬ p2 = (kI 5)) g7 ?_
                replace H := pRun (ls' := [.ref 188, .int p1, .int p2, aD, aD]) (st' := [.int (kI 6), .int p2]) 2 rfl H
                rcases pIfc (n1 := 16) rfl (mcb_122 rfl) (mcb_122 rfl) H with ⟨g8, g0, _, H⟩ | ⟨g8, g0, _, H⟩
                · refine pG_pos (c := ¬ p2 = (kI 6)) g8 ?_
                  replace H := pRun (ls' := [.ref 188, .int p1, .int p2, aD, aD]) (st' := [.int (kI 8), .int p2]) 2 rfl H
                  rcases pIfc (n1 := 18) rfl (mcb_122 rfl) (mcb_122 rfl) H with ⟨g9, g0, _, H⟩ | ⟨g9, g0, _, H⟩
                  · refine pG_pos (c := ¬ p2 = (kI 8)) g9 ?_
                    replace H := pRun (ls' := [.ref 188, .int p1, .int p2, aD, aD]) (st' := [.int (kI 7), .int p2]) 2 rfl H
                    rcases pIfc (n1 := 20) rfl (mcb_122 rfl) (mcb_122 rfl) H with ⟨g10, g0, _, H⟩ | ⟨g10, g0, _, H⟩
                    · refine pG_pos (c := p2 = (kI 7)) g10 ?_
                      replace H := pRun (ls' := [.ref 188, .int p1, .int p2, .int (kI 0), .int (kI 0)]) (st' := []) 4 rfl H
                      obtain ⟨g0, _, H⟩ := pFall (mcb_122 rfl) H
                      exact L_122_21_ok hS  H
                    · refine pG_neg (c := p2 = (kI 7)) g10 ?_
                      replace H := pRun (ls' := [.ref 188, .int p1, .int p2, aD, aD]) (st' := [.int (kI (-100))]) 1 rfl H
                      exact pG_ret (pRetI H)
                  · refine pG_neg (c := ¬ p2 = (kI 8)) g9 ?_
                    replace H := pRun (ls' := [.ref 188, .int p1, .int p2, aD, aD]) (st' := [.ref 188]) 1 rfl H
                    replace H := pGetR (r := 200) (pRf hS (by decide +kernel)) rfl H
                    replace H := pRun (ls' := [.ref 188, .int p1, .int p2, aD, aD]) (st' := [.int p1, .ref 200]) 1 rfl H
                    obtain ⟨g10, H⟩ := pIld (n := 2) (pLt (show pCa 200 2 = true by decide +kernel)) (pLn hS (show pCa 200 2 = true by decide +kernel)) H
                    refine pG_gd g10 ?_
                    exact pG_ret (pRetI H)
                · refine pG_neg (c := ¬ p2 = (kI 6)) g8 ?_
                  replace H := pRun (ls' := [.ref 188, .int p1, .int p2, aD, aD]) (st' := [.ref 188]) 1 rfl H
                  replace H := pGetR (r := 199) (pRf hS (by decide +kernel)) rfl H
                  replace H := pRun (ls' := [.ref 188, .int p1, .int p2, aD, aD]) (st' := [.int p1, .ref 199]) 1 rfl H
                  obtain ⟨g9, H⟩ := pIld (n := 2) (pLt (show pCa 199 2 = true by decide +kernel)) (pLn hS (show pCa 199 2 = true by decide +kernel)) H
                  refine pG_gd g9 ?_
                  exact pG_ret (pRetI H)
              · refine pG_neg (c := ¬ p2 = (kI 5)) g7 ?_
                replace H := pRun (ls' := [.ref 188, .int p1, .int p2, aD, aD]) (st' := [.ref 188]) 1 rfl H
                replace H := pGetR (r := 198) (pRf hS (by decide +kernel)) rfl H
                replace H := pRun (ls' := [.ref 188, .int p1, .int p2, aD, aD]) (st' := [.int p1, .ref 198]) 1 rfl H
                obtain ⟨g8, H⟩ := pIld (n := 2) (pLt (show pCa 198 2 = true by decide +kernel)) (pLn hS (show pCa 198 2 = true by decide +kernel)) H
                refine pG_gd g8 ?_
                exact pG_ret (pRetI H)
            · refine pG_neg (c := ¬ p2 = (kI 4)) g6 ?_
              replace H := pRun (ls' := [.ref 188, .int p1, .int p2, aD, aD]) (st' := [.ref 188]) 1 rfl H
              replace H := pGetR (r := 197) (pRf hS (by decide +kernel)) rfl H
              replace H := pRun (ls' := [.ref 188, .int p1, .int p2, aD, aD]) (st' := [.int p1, .ref 197]) 1 rfl H
              obtain ⟨g7, H⟩ := pIld (n := 2) (pLt (show pCa 197 2 = true by decide +kernel)) (pLn hS (show pCa 197 2 = true by decide +kernel)) H
              refine pG_gd g7 ?_
              exact pG_ret (pRetI H)
          · refine pG_neg (c := ¬ p2 = (kI 3)) g5 ?_
            replace H := pRun (ls' := [.ref 188, .int p1, .int p2, aD, aD]) (st' := [.ref 188]) 1 rfl H
            replace H := pGetR (r := 196) (pRf hS (by decide +kernel)) rfl H
            replace H := pRun (ls' := [.ref 188, .int p1, .int p2, aD, aD]) (st' := [.int p1, .ref 196]) 1 rfl H
            obtain ⟨g6, H⟩ := pIld (n := 2) (pLt (show pCa 196 2 = true by decide +kernel)) (pLn hS (show pCa 196 2 = true by decide +kernel)) H
            refine pG_gd g6 ?_
            exact pG_ret (pRetI H)
        · refine pG_neg (c := ¬ p2 = (kI 2)) g4 ?_
          replace H := pRun (ls' := [.ref 188, .int p1, .int p2, aD, aD]) (st' := [.int ((kI 1) - p1), .int p1, .ref 188]) 5 rfl H
          obtain ⟨rv, h1, hc, H⟩ := pCalV 54 2 188 (as := [.int p1, .int ((kI 1) - p1)]) (rest := []) rfl (by decide) (by decide +kernel) rfl rfl H
          obtain ⟨v1, M2, hD, H⟩ := pUseI (D_54_ok hS hc) H
          refine pG_call (x := v1) (M1 := M2) hD ?_
          exact pG_ret (pRetI H)
      · refine pG_neg (c := ¬ p2 = (kI 1)) g3 ?_
        replace H := pRun (ls' := [.ref 188, .int p1, .int p2, aD, aD]) (st' := [.int p1, .int p1, .ref 188]) 3 rfl H
        obtain ⟨rv, h1, hc, H⟩ := pCalV 54 2 188 (as := [.int p1, .int p1]) (rest := []) rfl (by decide) (by decide +kernel) rfl rfl H
        obtain ⟨v1, M2, hD, H⟩ := pUseI (D_54_ok hS hc) H
        refine pG_call (x := v1) (M1 := M2) hD ?_
        exact pG_ret (pRetI H)
    · refine pG_neg (c := ¬ p2 = 0) g2 ?_
      replace H := pRun (ls' := [.ref 188, .int p1, .int p2, aD, aD]) (st' := [.int p1, .ref 188]) 2 rfl H
      obtain ⟨rv, h1, hc, H⟩ := pCalV 53 1 188 (as := [.int p1]) (rest := []) rfl (by decide) (by decide +kernel) rfl rfl H
      obtain ⟨v1, M2, hD, H⟩ := pUseI (D_53_ok hS hc) H
      refine pG_call (x := v1) (M1 := M2) hD ?_
      exact pG_ret (pRetI H)
  · refine pG_neg (c := ¬ (f_46 p1) = 0) g1 ?_
    replace H := pRun (ls' := [.ref 188, .int p1, .int p2, aD, aD]) (st' := [.int (kI (-100))]) 1 rfl H
    exact pG_ret (pRetI H)
def l_122 : List (Nat × Nat) := []
theorem FC_122 {p1 : Int32} {p2 : Int32} : C_122 p1 p2 (fun _ _ M _ N => pFr (l_122) M N) := fun x3 x4 M => show pTf (l_122) M (S_122_21 p1 p2 _ x3 x4 M) from (tf_if (tf_ret pFr_refl) (tf_gd fun g2 => (tf_if (tf_jump pFr_refl) (tf_gd fun g4 => (tf_if (tf_jump pFr_refl) (tf_call pFr_refl (fun _ _ h => F_97 h) [] rfl fun _ M1 f1 => (tf_jump f1)))))))
theorem F_122 {p1 : Int32} {p2 : Int32} {M : pMem} {v : Int32} {N : pMem} (h : D_122 p1 p2 M v N) : pFr (l_122) M N :=
  (show pTf (l_122) M (D_122 p1 p2 M) from (tf_putS1 pFr_refl rfl fun M1 f1 => (tf_if (tf_if (tf_if (tf_if (tf_if (tf_if (tf_if (tf_if (tf_if (tf_if (tf_jumpL (fun _ _ M _ N => pFr (l_122) M N) (FC_122) rfl f1) (tf_ret f1)) (tf_gd fun g10 => (tf_ret f1))) (tf_gd fun g9 => (tf_ret f1))) (tf_gd fun g8 => (tf_ret f1))) (tf_gd fun g7 => (tf_ret f1))) (tf_gd fun g6 => (tf_ret f1))) (tf_call f1 (fun _ _ h => F_54 h) [] rfl fun _ M2 f2 => (tf_ret f2))) (tf_call f1 (fun _ _ h => F_54 h) [] rfl fun _ M2 f2 => (tf_ret f2))) (tf_call f1 (fun _ _ h => F_53 h) [] rfl fun _ M2 f2 => (tf_ret f2))) (tf_ret f1)))) v N h
/-- TwoCampsModel.kept(II)I -/
def D_123 (p1 : Int32) (p2 : Int32) (M : pMem) : pT Int32 := tPut (aPut M 188 0 (kI 0)) fun M1 => tIf ((f_42 p1 (kI 1) (M1 188 3)) = 0) (tRet (kI (-100)) M1) (tIf ((f_42 p2 (kI 0) (kI 7)) = 0) (tRet (kI (-100)) M1) (tGd (pIn (((kI 8) * (p1 - (kI 1))) + p2) 480) <| tRet (M1 201 (ix (((kI 8) * (p1 - (kI 1))) + p2))) M1))
theorem D_123_ok {X : aX} {F d : Nat} {K : Nat → aK} (hS : pS K) {p1 : Int32} {p2 : Int32} {M : pMem} {out : Option Value × aH} (H : aM X F d 123 [.ref 188, .int p1, .int p2] (pH K M) = some out) : pG eI K out (D_123 p1 p2 M) := by
  obtain ⟨d', g0, _, H⟩ := pEnt (n := 3) (ls := [.ref 188, .int p1, .int p2]) (mcb_123 rfl) (by decide +kernel) rfl H
  unfold D_123
  replace H := pRun (ls' := [.ref 188, .int p1, .int p2]) (st' := [.int (kI 0), .ref 188]) 2 rfl H
  obtain ⟨M1, eM1, H⟩ := pPutN (j := 0) rfl H
  refine pG_put (M2 := M1) eM1 ?_
  replace H := pRun (ls' := [.ref 188, .int p1, .int p2]) (st' := [.ref 188, .int (kI 1), .int p1, .ref 188]) 4 rfl H
  replace H := pGetN (v := M1 188 3) rfl (by decide) H
  obtain ⟨rv, h1, hc, H⟩ := pCalV 42 3 188 (as := [.int p1, .int (kI 1), .int (M1 188 3)]) (rest := []) rfl (by decide) (by decide +kernel) rfl rfl H
  replace H := pUseF (f_42_ok hS hc) H
  rcases pIf0 (n1 := 3) rfl (mcb_123 rfl) (mcb_123 rfl) H with ⟨g1, g0, _, H⟩ | ⟨g1, g0, _, H⟩
  · refine pG_pos (c := (f_42 p1 (kI 1) (M1 188 3)) = 0) g1 ?_
    replace H := pRun (ls' := [.ref 188, .int p1, .int p2]) (st' := [.int (kI (-100))]) 1 rfl H
    obtain ⟨g0, _, H⟩ := pFall (mcb_123 rfl) H
    exact pG_ret (pRetI H)
  · refine pG_neg (c := (f_42 p1 (kI 1) (M1 188 3)) = 0) g1 ?_
    replace H := pRun (ls' := [.ref 188, .int p1, .int p2]) (st' := [.int (kI 7), .int (kI 0), .int p2, .ref 188]) 4 rfl H
    obtain ⟨rv, h1, hc, H⟩ := pCalV 42 3 188 (as := [.int p2, .int (kI 0), .int (kI 7)]) (rest := []) rfl (by decide) (by decide +kernel) rfl rfl H
    replace H := pUseF (f_42_ok hS hc) H
    rcases pIf0 (n1 := 3) rfl (mcb_123 rfl) (mcb_123 rfl) H with ⟨g2, g0, _, H⟩ | ⟨g2, g0, _, H⟩
    · refine pG_pos (c := (f_42 p2 (kI 0) (kI 7)) = 0) g2 ?_
      replace H := pRun (ls' := [.ref 188, .int p1, .int p2]) (st' := [.int (kI (-100))]) 1 rfl H
      obtain ⟨g0, _, H⟩ := pFall (mcb_123 rfl) H
      exact pG_ret (pRetI H)
    · refine pG_neg (c := (f_42 p2 (kI 0) (kI 7)) = 0) g2 ?_
      replace H := pRun (ls' := [.ref 188, .int p1, .int p2]) (st' := [.ref 188]) 1 rfl H
      replace H := pGetR (r := 201) (pRf hS (by decide +kernel)) rfl H
      replace H := pRun (ls' := [.ref 188, .int p1, .int p2]) (st' := [.int (((kI 8) * (p1 - (kI 1))) + p2), .ref 201]) 7 rfl H
      obtain ⟨g3, H⟩ := pIld (n := 480) (pLt (show pCa 201 480 = true by decide +kernel)) (pLn hS (show pCa 201 480 = true by decide +kernel)) H
      refine pG_gd g3 ?_
      obtain ⟨g0, _, H⟩ := pGo (n1 := 4) rfl (mcb_123 rfl) H
      exact pG_ret (pRetI H)
def l_123 : List (Nat × Nat) := []
theorem F_123 {p1 : Int32} {p2 : Int32} {M : pMem} {v : Int32} {N : pMem} (h : D_123 p1 p2 M v N) : pFr (l_123) M N :=
  (show pTf (l_123) M (D_123 p1 p2 M) from (tf_putS1 pFr_refl rfl fun M1 f1 => (tf_if (tf_ret f1) (tf_if (tf_ret f1) (tf_gd fun g3 => (tf_ret f1)))))) v N h
/-- TwoCampsModel.beansOf(III)I -/
def D_124 (p1 : Int32) (p2 : Int32) (p3 : Int32) (M : pMem) : pT Int32 := tCall (D_87 (kI 4) p1 p2 M) fun v1 M1 => tIf (0 ≤ (lg_cmp ((Int32.toInt64 p3) + (Int32.toInt64 v1)) (Int64.ofNat 0))) (tIf ((lg_cmp ((Int32.toInt64 p3) + (Int32.toInt64 v1)) (Int64.ofInt 9999)) ≤ 0) (tRet (Int64.toInt32 ((Int32.toInt64 p3) + (Int32.toInt64 v1))) M1) (tRet (kI 9999) M1)) (tRet (kI 0) M1)
theorem D_124_ok {X : aX} {F d : Nat} {K : Nat → aK} (hS : pS K) {p1 : Int32} {p2 : Int32} {p3 : Int32} {M : pMem} {out : Option Value × aH} (H : aM X F d 124 [.ref 188, .int p1, .int p2, .int p3] (pH K M) = some out) : pG eI K out (D_124 p1 p2 p3 M) := by
  obtain ⟨d', g0, _, H⟩ := pEnt (n := 6) (ls := [.ref 188, .int p1, .int p2, .int p3, aD, aD]) (mcb_124 rfl) (by decide +kernel) rfl H
  unfold D_124
  replace H := pRun (ls' := [.ref 188, .int p1, .int p2, .int p3, aD, aD]) (st' := [.int p2, .int p1, .int (kI 4), .ref 188, .long (Int32.toInt64 p3)]) 6 rfl H
  obtain ⟨rv, h1, hc, H⟩ := pCalV 87 3 188 (as := [.int (kI 4), .int p1, .int p2]) (rest := [.long (Int32.toInt64 p3)]) rfl (by decide) (by decide +kernel) rfl rfl H
  obtain ⟨v1, M1, hD, H⟩ := pUseI (D_87_ok hS hc) H
  refine pG_call (x := v1) (M1 := M1) hD ?_
  replace H := pRun (ls' := [.ref 188, .int p1, .int p2, .int p3, .long ((Int32.toInt64 p3) + (Int32.toInt64 v1)), aD]) (st' := [.int (lg_cmp ((Int32.toInt64 p3) + (Int32.toInt64 v1)) (Int64.ofNat 0))]) 6 rfl H
  rcases pIf0 (n1 := 2) rfl (mcb_124 rfl) (mcb_124 rfl) H with ⟨g1, g0, _, H⟩ | ⟨g1, g0, _, H⟩
  · refine pG_pos (c := 0 ≤ (lg_cmp ((Int32.toInt64 p3) + (Int32.toInt64 v1)) (Int64.ofNat 0))) g1 ?_
    replace H := pRun (ls' := [.ref 188, .int p1, .int p2, .int p3, .long ((Int32.toInt64 p3) + (Int32.toInt64 v1)), aD]) (st' := [.long ((Int32.toInt64 p3) + (Int32.toInt64 v1))]) 1 rfl H
    replace H := pLd2 (x := 9999) (by decide) H
    replace H := pRun (ls' := [.ref 188, .int p1, .int p2, .int p3, .long ((Int32.toInt64 p3) + (Int32.toInt64 v1)), aD]) (st' := [.int (lg_cmp ((Int32.toInt64 p3) + (Int32.toInt64 v1)) (Int64.ofInt 9999))]) 1 rfl H
    rcases pIf0 (n1 := 4) rfl (mcb_124 rfl) (mcb_124 rfl) H with ⟨g2, g0, _, H⟩ | ⟨g2, g0, _, H⟩
    · refine pG_pos (c := (lg_cmp ((Int32.toInt64 p3) + (Int32.toInt64 v1)) (Int64.ofInt 9999)) ≤ 0) g2 ?_
      replace H := pRun (ls' := [.ref 188, .int p1, .int p2, .int p3, .long ((Int32.toInt64 p3) + (Int32.toInt64 v1)), aD]) (st' := [.int (Int64.toInt32 ((Int32.toInt64 p3) + (Int32.toInt64 v1)))]) 2 rfl H
      obtain ⟨g0, _, H⟩ := pFall (mcb_124 rfl) H
      exact pG_ret (pRetI H)
    · refine pG_neg (c := (lg_cmp ((Int32.toInt64 p3) + (Int32.toInt64 v1)) (Int64.ofInt 9999)) ≤ 0) g2 ?_
      replace H := pRun (ls' := [.ref 188, .int p1, .int p2, .int p3, .long ((Int32.toInt64 p3) + (Int32.toInt64 v1)), aD]) (st' := [.int (kI 9999)]) 1 rfl H
      obtain ⟨g0, _, H⟩ := pGo (n1 := 5) rfl (mcb_124 rfl) H
      exact pG_ret (pRetI H)
  · refine pG_neg (c := 0 ≤ (lg_cmp ((Int32.toInt64 p3) + (Int32.toInt64 v1)) (Int64.ofNat 0))) g1 ?_
    replace H := pRun (ls' := [.ref 188, .int p1, .int p2, .int p3, .long ((Int32.toInt64 p3) + (Int32.toInt64 v1)), aD]) (st' := [.int (kI 0)]) 1 rfl H
    obtain ⟨g0, _, H⟩ := pGo (n1 := 5) rfl (mcb_124 rfl) H
    exact pG_ret (pRetI H)
def l_124 : List (Nat × Nat) := []
theorem F_124 {p1 : Int32} {p2 : Int32} {p3 : Int32} {M : pMem} {v : Int32} {N : pMem} (h : D_124 p1 p2 p3 M v N) : pFr (l_124) M N :=
  (show pTf (l_124) M (D_124 p1 p2 p3 M) from (tf_call pFr_refl (fun _ _ h => F_87 h) [] rfl fun _ M1 f1 => (tf_if (tf_if (tf_ret f1) (tf_ret f1)) (tf_ret f1)))) v N h
/-- TwoCampsModel.beans(III)I -/
def D_126 (p1 : Int32) (p2 : Int32) (p3 : Int32) (M : pMem) : pT Int32 := tPut (aPut M 188 0 (kI 0)) fun M1 => tIf ((f_125 p1 M1) = 0) (tRet (kI (-1)) M1) (tIf ((f_125 p2 M1) = 0) (tRet (kI (-1)) M1) (tIf (p1 = p2) (tRet (kI (-1)) M1) (tIf ((f_42 p3 (kI 0) (kI 999)) = 0) (tRet (kI (-1)) M1) (tCall (D_124 p1 p2 p3 M1) fun v1 M2 => tRet v1 M2))))
theorem D_126_ok {X : aX} {F d : Nat} {K : Nat → aK} (hS : pS K) {p1 : Int32} {p2 : Int32} {p3 : Int32} {M : pMem} {out : Option Value × aH} (H : aM X F d 126 [.ref 188, .int p1, .int p2, .int p3] (pH K M) = some out) : pG eI K out (D_126 p1 p2 p3 M) := by
  obtain ⟨d', g0, _, H⟩ := pEnt (n := 4) (ls := [.ref 188, .int p1, .int p2, .int p3]) (mcb_126 rfl) (by decide +kernel) rfl H
  unfold D_126
  replace H := pRun (ls' := [.ref 188, .int p1, .int p2, .int p3]) (st' := [.int (kI 0), .ref 188]) 2 rfl H
  obtain ⟨M1, eM1, H⟩ := pPutN (j := 0) rfl H
  refine pG_put (M2 := M1) eM1 ?_
  replace H := pRun (ls' := [.ref 188, .int p1, .int p2, .int p3]) (st' := [.int p1, .ref 188]) 2 rfl H
  obtain ⟨rv, h1, hc, H⟩ := pCalV 125 1 188 (as := [.int p1]) (rest := []) rfl (by decide) (by decide +kernel) rfl rfl H
  replace H := pUseF (f_125_ok hS hc) H
  rcases pIf0 (n1 := 5) rfl (mcb_126 rfl) (mcb_126 rfl) H with ⟨g1, g0, _, H⟩ | ⟨g1, g0, _, H⟩
  · refine pG_pos (c := (f_125 p1 M1) = 0) g1 ?_
    replace H := pRun (ls' := [.ref 188, .int p1, .int p2, .int p3]) (st' := [.int (kI (-1))]) 1 rfl H
    obtain ⟨g0, _, H⟩ := pFall (mcb_126 rfl) H
    exact pG_ret (pRetI H)
  · refine pG_neg (c := (f_125 p1 M1) = 0) g1 ?_
    replace H := pRun (ls' := [.ref 188, .int p1, .int p2, .int p3]) (st' := [.int p2, .ref 188]) 2 rfl H
    obtain ⟨rv, h1, hc, H⟩ := pCalV 125 1 188 (as := [.int p2]) (rest := []) rfl (by decide) (by decide +kernel) rfl rfl H
    replace H := pUseF (f_125_ok hS hc) H
    rcases pIf0 (n1 := 5) rfl (mcb_126 rfl) (mcb_126 rfl) H with ⟨g2, g0, _, H⟩ | ⟨g2, g0, _, H⟩
    · refine pG_pos (c := (f_125 p2 M1) = 0) g2 ?_
      replace H := pRun (ls' := [.ref 188, .int p1, .int p2, .int p3]) (st' := [.int (kI (-1))]) 1 rfl H
      obtain ⟨g0, _, H⟩ := pFall (mcb_126 rfl) H
      exact pG_ret (pRetI H)
    · refine pG_neg (c := (f_125 p2 M1) = 0) g2 ?_
      replace H := pRun (ls' := [.ref 188, .int p1, .int p2, .int p3]) (st' := [.int p2, .int p1]) 2 rfl H
      rcases pIfc (n1 := 5) rfl (mcb_126 rfl) (mcb_126 rfl) H with ⟨g3, g0, _, H⟩ | ⟨g3, g0, _, H⟩
      · refine pG_pos (c := p1 = p2) g3 ?_
        replace H := pRun (ls' := [.ref 188, .int p1, .int p2, .int p3]) (st' := [.int (kI (-1))]) 1 rfl H
        obtain ⟨g0, _, H⟩ := pFall (mcb_126 rfl) H
        exact pG_ret (pRetI H)
      · refine pG_neg (c := p1 = p2) g3 ?_
        replace H := pRun (ls' := [.ref 188, .int p1, .int p2, .int p3]) (st' := [.int (kI 999), .int (kI 0), .int p3, .ref 188]) 4 rfl H
        obtain ⟨rv, h1, hc, H⟩ := pCalV 42 3 188 (as := [.int p3, .int (kI 0), .int (kI 999)]) (rest := []) rfl (by decide) (by decide +kernel) rfl rfl H
        replace H := pUseF (f_42_ok hS hc) H
        rcases pIf0 (n1 := 5) rfl (mcb_126 rfl) (mcb_126 rfl) H with ⟨g4, g0, _, H⟩ | ⟨g4, g0, _, H⟩
        · refine pG_pos (c := (f_42 p3 (kI 0) (kI 999)) = 0) g4 ?_
          replace H := pRun (ls' := [.ref 188, .int p1, .int p2, .int p3]) (st' := [.int (kI (-1))]) 1 rfl H
          obtain ⟨g0, _, H⟩ := pFall (mcb_126 rfl) H
          exact pG_ret (pRetI H)
        · refine pG_neg (c := (f_42 p3 (kI 0) (kI 999)) = 0) g4 ?_
          replace H := pRun (ls' := [.ref 188, .int p1, .int p2, .int p3]) (st' := [.int p3, .int p2, .int p1, .ref 188]) 4 rfl H
          obtain ⟨rv, h1, hc, H⟩ := pCalV 124 3 188 (as := [.int p1, .int p2, .int p3]) (rest := []) rfl (by decide) (by decide +kernel) rfl rfl H
          obtain ⟨v1, M2, hD, H⟩ := pUseI (D_124_ok hS hc) H
          refine pG_call (x := v1) (M1 := M2) hD ?_
          obtain ⟨g0, _, H⟩ := pGo (n1 := 6) rfl (mcb_126 rfl) H
          exact pG_ret (pRetI H)
def l_126 : List (Nat × Nat) := []
theorem F_126 {p1 : Int32} {p2 : Int32} {p3 : Int32} {M : pMem} {v : Int32} {N : pMem} (h : D_126 p1 p2 p3 M v N) : pFr (l_126) M N :=
  (show pTf (l_126) M (D_126 p1 p2 p3 M) from (tf_putS1 pFr_refl rfl fun M1 f1 => (tf_if (tf_ret f1) (tf_if (tf_ret f1) (tf_if (tf_ret f1) (tf_if (tf_ret f1) (tf_call f1 (fun _ _ h => F_124 h) [] rfl fun _ M2 f2 => (tf_ret f2)))))))) v N h
/-- TwoCampsModel.meanSeen(IZ)I -/
def S_127_1 (p1 : Int32) (p2 : Int32) (P1 : Int32 → Int32 → Int32 → pMem → pT Int32) (P3 : Int32 → Int32 → Int32 → Int32 → pMem → pT Int32) (x3 : Int32) (x4 : Int32) (x5 : Int32) (M : pMem) : pT Int32 := tIf ((M 188 2) ≤ x5) (tRet (f_43 x3 x4) M) (P3 x3 x4 x5 (kI 0) M)
def S_127_3 (p1 : Int32) (p2 : Int32) (P1 : Int32 → Int32 → Int32 → pMem → pT Int32) (P3 : Int32 → Int32 → Int32 → Int32 → pMem → pT Int32) (x3 : Int32) (x4 : Int32) (x5 : Int32) (x6 : Int32) (M : pMem) : pT Int32 := tIf ((M 188 2) ≤ x6) (P1 x3 x4 (x5 + kI 1) M) (tIf (x5 = x6) (P3 x3 x4 x5 (x6 + kI 1) M) (tGd (pIn x5 24) <| tIf ((M 191 (ix x5)) = 0) (P3 x3 x4 x5 (x6 + kI 1) M) (tGd (pIn x6 24) <| tIf ((M 191 (ix x6)) = 0) (P3 x3 x4 x5 (x6 + kI 1) M) (tGd (pIn x5 24) <| tGd (pIn x6 24) <| tIf (¬ (M 189 (ix x5)) = (M 189 (ix x6))) (tIf ((kI 0) = p2) (tCall (D_124 x5 x6 p1 M) fun v1 M1 => P3 (x3 + v1) (x4 + (kI 1)) x5 (x6 + kI 1) M1) (P3 x3 x4 x5 (x6 + kI 1) M)) (tIf ((kI 1) = p2) (tCall (D_124 x5 x6 p1 M) fun v1 M1 => P3 (x3 + v1) (x4 + (kI 1)) x5 (x6 + kI 1) M1) (P3 x3 x4 x5 (x6 + kI 1) M))))))
def C_127 (p1 : Int32) (p2 : Int32) (P1 : Int32 → Int32 → Int32 → pMem → pT Int32) (P3 : Int32 → Int32 → Int32 → Int32 → pMem → pT Int32) : Prop := (∀ (x3 : Int32) (x4 : Int32) (x5 : Int32) M v N, S_127_1 p1 p2 P1 P3 x3 x4 x5 M v N → P1 x3 x4 x5 M v N) ∧ (∀ (x3 : Int32) (x4 : Int32) (x5 : Int32) (x6 : Int32) M v N, S_127_3 p1 p2 P1 P3 x3 x4 x5 x6 M v N → P3 x3 x4 x5 x6 M v N)
def L_127_1 (p1 : Int32) (p2 : Int32) (x3 : Int32) (x4 : Int32) (x5 : Int32) (M : pMem) : pT Int32 := fun v N => ∀ P : (Int32 → Int32 → Int32 → pMem → pT Int32) × (Int32 → Int32 → Int32 → Int32 → pMem → pT Int32), C_127 p1 p2 P.1 P.2 → P.1 x3 x4 x5 M v N
def L_127_3 (p1 : Int32) (p2 : Int32) (x3 : Int32) (x4 : Int32) (x5 : Int32) (x6 : Int32) (M : pMem) : pT Int32 := fun v N => ∀ P : (Int32 → Int32 → Int32 → pMem → pT Int32) × (Int32 → Int32 → Int32 → Int32 → pMem → pT Int32), C_127 p1 p2 P.1 P.2 → P.2 x3 x4 x5 x6 M v N
def D_127 (p1 : Int32) (p2 : Int32) (M : pMem) : pT Int32 := L_127_1 p1 p2 (kI 0) (kI 0) (kI 0) M
theorem K_127 {X : aX} {F d : Nat} {K : Nat → aK} (hS : pS K) {p1 : Int32} {p2 : Int32} {out : Option Value × aH} (P1 : Int32 → Int32 → Int32 → pMem → pT Int32) (P3 : Int32 → Int32 → Int32 → Int32 → pMem → pT Int32) (hC : C_127 p1 p2 P1 P3) : ∀ f, (∀ (x3 : Int32) (x4 : Int32) (x5 : Int32) (u6 : Value) M, pm X F d 127 f 1 [.iload 5, .aload 0, .getfield 124412008, .if_icmp .ge 15] [.ref 188, .int p1, .int p2, .int x3, .int x4, .int x5, u6] [] (pH K M) out → pG eI K out (P1 x3 x4 x5 M)) ∧ (∀ (x3 : Int32) (x4 : Int32) (x5 : Int32) (x6 : Int32) M, pm X F d 127 f 3 [.iload 6, .aload 0, .getfield 124412008, .if_icmp .ge 14] [.ref 188, .int p1, .int p2, .int x3, .int x4, .int x5, .int x6] [] (pH K M) out → pG eI K out (P3 x3 x4 x5 x6 M)) := by
  intro f
  induction f using Nat.strongRecOn with
  | _ f ih =>
    refine ⟨?_, ?_⟩
    · intro x3 x4 x5 u6 M H
      refine pG_mono (fun v N h => hC.1 x3 x4 x5 M v N h) ?_
      unfold S_127_1
      replace H := pRun (ls' := [.ref 188, .int p1, .int p2, .int x3, .int x4, .int x5, u6]) (st' := [.ref 188, .int x5]) 2 rfl H
      replace H := pGetN (v := M 188 2) rfl (by decide) H
      rcases pIfc (n1 := 15) rfl (mcb_127 rfl) (mcb_127 rfl) H with ⟨g1, g0, _, H⟩ | ⟨g1, g0, _, H⟩
      · refine pG_pos (c := (M 188 2) ≤ x5) g1 ?_
        replace H := pRun (ls' := [.ref 188, .int p1, .int p2, .int x3, .int x4, .int x5, u6]) (st' := [.int x4, .int x3, .ref 188]) 3 rfl H
        obtain ⟨rv, h1, hc, H⟩ := pCalV 43 2 188 (as := [.int x3, .int x4]) (rest := []) rfl (by decide) (by decide +kernel) rfl rfl H
        replace H := pUseF (f_43_ok hS hc) H
        exact pG_ret (pRetI H)
      · refine pG_neg (c := (M 188 2) ≤ x5) g1 ?_
        replace H := pRun (ls' := [.ref 188, .int p1, .int p2, .int x3, .int x4, .int x5, .int (kI 0)]) (st' := []) 2 rfl H
        obtain ⟨g0, _, H⟩ := pFall (mcb_127 rfl) H
        exact (ih _ (by omega)).2 _ _ _ _  _ H
    · intro x3 x4 x5 x6 M H
      refine pG_mono (fun v N h => hC.2 x3 x4 x5 x6 M v N h) ?_
      unfold S_127_3
      replace H := pRun (ls' := [.ref 188, .int p1, .int p2, .int x3, .int x4, .int x5, .int x6]) (st' := [.ref 188, .int x6]) 2 rfl H
      replace H := pGetN (v := M 188 2) rfl (by decide) H
      rcases pIfc (n1 := 14) rfl (mcb_127 rfl) (mcb_127 rfl) H with ⟨g1, g0, _, H⟩ | ⟨g1, g0, _, H⟩
      · refine pG_pos (c := (M 188 2) ≤ x6) g1 ?_
        replace H := pRun (ls' := [.ref 188, .int p1, .int p2, .int x3, .int x4, .int (x5 + kI 1), .int x6]) (st' := []) 1 rfl H
        obtain ⟨g0, _, H⟩ := pGo (n1 := 1) rfl (mcb_127 rfl) H
        exact (ih _ (by omega)).1 _ _ _ _  _ H
      · refine pG_neg (c := (M 188 2) ≤ x6) g1 ?_
        replace H := pRun (ls' := [.ref 188, .int p1, .int p2, .int x3, .int x4, .int x5, .int x6]) (st' := [.int x6, .int x5]) 2 rfl H
        rcases pIfc (n1 := 13) rfl (mcb_127 rfl) (mcb_127 rfl) H with ⟨g2, g0, _, H⟩ | ⟨g2, g0, _, H⟩
        · refine pG_pos (c := x5 = x6) g2 ?_
          replace H := pRun (ls' := [.ref 188, .int p1, .int p2, .int x3, .int x4, .int x5, .int (x6 + kI 1)]) (st' := []) 1 rfl H
          obtain ⟨g0, _, H⟩ := pGo (n1 := 3) rfl (mcb_127 rfl) H
          exact (ih _ (by omega)).2 _ _ _ _  _ H
        · refine pG_neg (c := x5 = x6) g2 ?_
          replace H := pRun (ls' := [.ref 188, .int p1, .int p2, .int x3, .int x4, .int x5, .int x6]) (st' := [.ref 188]) 1 rfl H
          replace H := pGetR (r := 191) (pRf hS (by decide +kernel)) rfl H
          replace H := pRun (ls' := [.ref 188, .int p1, .int p2, .int x3, .int x4, .int x5, .int x6]) (st' := [.int x5, .ref 191]) 1 rfl H
          obtain ⟨g3, H⟩ := pIld (n := 24) (pLt (show pCa 191 24 = true by decide +kernel)) (pLn hS (show pCa 191 24 = true by decide +kernel)) H
          refine pG_gd g3 ?_
          rcases pIf0 (n1 := 13) rfl (mcb_127 rfl) (mcb_127 rfl) H with ⟨g4, g0, _, H⟩ | ⟨g4, g0, _, H⟩
          · refine pG_pos (c := (M 191 (ix x5)) = 0) g4 ?_
            replace H := pRun (ls' := [.ref 188, .int p1, .int p2, .int x3, .int x4, .int x5, .int (x6 + kI 1)]) (st' := []) 1 rfl H
            obtain ⟨g0, _, H⟩ := pGo (n1 := 3) rfl (mcb_127 rfl) H
            exact (ih _ (by omega)).2 _ _ _ _  _ H
          · refine pG_neg (c := (M 191 (ix x5)) = 0) g4 ?_
            replace H := pRun (ls' := [.ref 188, .int p1, .int p2, .int x3, .int x4, .int x5, .int x6]) (st' := [.ref 188]) 1 rfl H
            replace H := pGetR (r := 191) (pRf hS (by decide +kernel)) rfl H
            replace H := pRun (ls' := [.ref 188, .int p1, .int p2, .int x3, .int x4, .int x5, .int x6]) (st' := [.int x6, .ref 191]) 1 rfl H
            obtain ⟨g5, H⟩ := pIld (n := 24) (pLt (show pCa 191 24 = true by decide +kernel)) (pLn hS (show pCa 191 24 = true by decide +kernel)) H
            refine pG_gd g5 ?_
            rcases pIf0 (n1 := 13) rfl (mcb_127 rfl) (mcb_127 rfl) H with ⟨g6, g0, _, H⟩ | ⟨g6, g0, _, H⟩
            · refine pG_pos (c := (M 191 (ix x6)) = 0) g6 ?_
              replace H := pRun (ls' := [.ref 188, .int p1, .int p2, .int x3, .int x4, .int x5, .int (x6 + kI 1)]) (st' := []) 1 rfl H
              obtain ⟨g0, _, H⟩ := pGo (n1 := 3) rfl (mcb_127 rfl) H
              exact (ih _ (by omega)).2 _ _ _ _  _ H
            · refine pG_neg (c := (M 191 (ix x6)) = 0) g6 ?_
              replace H := pRun (ls' := [.ref 188, .int p1, .int p2, .int x3, .int x4, .int x5, .int x6]) (st' := [.ref 188]) 1 rfl H
              replace H := pGetR (r := 189) (pRf hS (by decide +kernel)) rfl H
              replace H := pRun (ls' := [.ref 188, .int p1, .int p2, .int x3, .int x4, .int x5, .int x6]) (st' := [.int x5, .ref 189]) 1 rfl H
              obtain ⟨g7, H⟩ := pIld (n := 24) (pLt (show pCa 189 24 = true by decide +kernel)) (pLn hS (show pCa 189 24 = true by decide +kernel)) H
              refine pG_gd g7 ?_
              replace H := pRun (ls' := [.ref 188, .int p1, .int p2, .int x3, .int x4, .int x5, .int x6]) (st' := [.ref 188, .int (M 189 (ix x5))]) 1 rfl H
              replace H := pGetR (r := 189) (pRf hS (by decide +kernel)) rfl H
              replace H := pRun (ls' := [.ref 188, .int p1, .int p2, .int x3, .int x4, .int x5, .int x6]) (st' := [.int x6, .ref 189, .int (M 189 (ix x5))]) 1 rfl H
              obtain ⟨g8, H⟩ := pIld (n := 24) (pLt (show pCa 189 24 = true by decide +kernel)) (pLn hS (show pCa 189 24 = true by decide +kernel)) H
              refine pG_gd g8 ?_
              rcases pIfc (n1 := 9) rfl (mcb_127 rfl) (mcb_127 rfl) H with ⟨g9, g0, _, H⟩ | ⟨g9, g0, _, H⟩
              · refine pG_pos (c := ¬ (M 189 (ix x5)) = (M 189 (ix x6))) g9 ?_
                replace H := pRun (ls' := [.ref 188, .int p1, .int p2, .int x3, .int x4, .int x5, .int x6]) (st' := [.int (kI 0)]) 1 rfl H
                obtain ⟨g0, _, H⟩ := pFall (mcb_127 rfl) H
                replace H := pRun (ls' := [.ref 188, .int p1, .int p2, .int x3, .int x4, .int x5, .int x6]) (st' := [.int p2, .int (kI 0)]) 1 rfl H
                rcases pIfc (n1 := 12) rfl (mcb_127 rfl) (mcb_127 rfl) H with ⟨g10, g0, _, H⟩ | ⟨g10, g0, _, H⟩
                · refine pG_pos (c := (kI 0) = p2) g10 ?_
                  replace H := pRun (ls' := [.ref 188, .int p1, .int p2, .int x3, .int x4, .int x5, .int x6]) (st' := [.int p1, .int x6, .int x5, .ref 188, .int x3]) 5 rfl H
                  obtain ⟨rv, h1, hc, H⟩ := pCalV 124 3 188 (as := [.int x5, .int x6, .int p1]) (rest := [.int x3]) rfl (by decide) (by decide +kernel) rfl rfl H
                  obtain ⟨v1, M1, hD, H⟩ := pUseI (D_124_ok hS hc) H
                  refine pG_call (x := v1) (M1 := M1) hD ?_
                  replace H := pRun (ls' := [.ref 188, .int p1, .int p2, .int (x3 + v1), .int (x4 + (kI 1)), .int x5, .int x6]) (st' := []) 6 rfl H
                  obtain ⟨g0, _, H⟩ := pFall (mcb_127 rfl) H
                  replace H := pRun (ls' := [.ref 188, .int p1, .int p2, .int (x3 + v1), .int (x4 + (kI 1)), .int x5, .int (x6 + kI 1)]) (st' := []) 1 rfl H
                  obtain ⟨g0, _, H⟩ := pGo (n1 := 3) rfl (mcb_127 rfl) H
                  exact (ih _ (by omega)).2 _ _ _ _  _ H
                · refine pG_neg (c := (kI 0) = p2) g10 ?_
                  obtain ⟨g0, _, H⟩ := pGo (n1 := 13) rfl (mcb_127 rfl) H
                  replace H := pRun (ls' := [.ref 188, .int p1, .int p2, .int x3, .int x4, .int x5, .int (x6 + kI 1)]) (st' := []) 1 rfl H
                  obtain ⟨g0, _, H⟩ := pGo (n1 := 3) rfl (mcb_127 rfl) H
                  exact (ih _ (by omega)).2 _ _ _ _  _ H
              · refine pG_neg (c := ¬ (M 189 (ix x5)) = (M 189 (ix x6))) g9 ?_
                replace H := pRun (ls' := [.ref 188, .int p1, .int p2, .int x3, .int x4, .int x5, .int x6]) (st' := [.int (kI 1)]) 1 rfl H
                obtain ⟨g0, _, H⟩ := pGo (n1 := 10) rfl (mcb_127 rfl) H
                replace H := pRun (ls' := [.ref 188, .int p1, .int p2, .int x3, .int x4, .int x5, .int x6]) (st' := [.int p2, .int (kI 1)]) 1 rfl H
                rcases pIfc (n1 := 12) rfl (mcb_127 rfl) (mcb_127 rfl) H with ⟨g10, g0, _, H⟩ | ⟨g10, g0, _, H⟩
                · refine pG_pos (c := (kI 1) = p2) g10 ?_
                  replace H := pRun (ls' := [.ref 188, .int p1, .int p2, .int x3, .int x4, .int x5, .int x6]) (st' := [.int p1, .int x6, .int x5, .ref 188, .int x3]) 5 rfl H
                  obtain ⟨rv, h1, hc, H⟩ := pCalV 124 3 188 (as := [.int x5, .int x6, .int p1]) (rest := [.int x3]) rfl (by decide) (by decide +kernel) rfl rfl H
                  obtain ⟨v1, M1, hD, H⟩ := pUseI (D_124_ok hS hc) H
                  refine pG_call (x := v1) (M1 := M1) hD ?_
                  replace H := pRun (ls' := [.ref 188, .int p1, .int p2, .int (x3 + v1), .int (x4 + (kI 1)), .int x5, .int x6]) (st' := []) 6 rfl H
                  obtain ⟨g0, _, H⟩ := pFall (mcb_127 rfl) H
                  replace H := pRun (ls' := [.ref 188, .int p1, .int p2, .int (x3 + v1), .int (x4 + (kI 1)), .int x5, .int (x6 + kI 1)]) (st' := []) 1 rfl H
                  obtain ⟨g0, _, H⟩ := pGo (n1 := 3) rfl (mcb_127 rfl) H
                  exact (ih _ (by omega)).2 _ _ _ _  _ H
                · refine pG_neg (c := (kI 1) = p2) g10 ?_
                  obtain ⟨g0, _, H⟩ := pGo (n1 := 13) rfl (mcb_127 rfl) H
                  replace H := pRun (ls' := [.ref 188, .int p1, .int p2, .int x3, .int x4, .int x5, .int (x6 + kI 1)]) (st' := []) 1 rfl H
                  obtain ⟨g0, _, H⟩ := pGo (n1 := 3) rfl (mcb_127 rfl) H
                  exact (ih _ (by omega)).2 _ _ _ _  _ H
theorem L_127_1_ok {X : aX} {F d : Nat} {K : Nat → aK} (hS : pS K) {p1 : Int32} {p2 : Int32} {out : Option Value × aH} {f : Nat} {x3 : Int32} {x4 : Int32} {x5 : Int32} {u6 : Value} {M : pMem} (H : pm X F d 127 f 1 [.iload 5, .aload 0, .getfield 124412008, .if_icmp .ge 15] [.ref 188, .int p1, .int p2, .int x3, .int x4, .int x5, u6] [] (pH K M) out) : pG eI K out (L_127_1 p1 p2 x3 x4 x5 M) := by
  refine pG_all (C := fun P : (Int32 → Int32 → Int32 → pMem → pT Int32) × (Int32 → Int32 → Int32 → Int32 → pMem → pT Int32) => C_127 p1 p2 P.1 P.2) (T := fun P => P.1 x3 x4 x5 M) eI_inj ((fun _ _ _ _ _ _ => True), (fun _ _ _ _ _ _ _ => True)) ?_ (fun P hP => (K_127 hS P.1 P.2 hP f).1 _ _ _ _ _ H)
  exact ⟨(fun _ _ _ _ _ _ _ => trivial), (fun _ _ _ _ _ _ _ _ => trivial)⟩
theorem L_127_3_ok {X : aX} {F d : Nat} {K : Nat → aK} (hS : pS K) {p1 : Int32} {p2 : Int32} {out : Option Value × aH} {f : Nat} {x3 : Int32} {x4 : Int32} {x5 : Int32} {x6 : Int32} {M : pMem} (H : pm X F d 127 f 3 [.iload 6, .aload 0, .getfield 124412008, .if_icmp .ge 14] [.ref 188, .int p1, .int p2, .int x3, .int x4, .int x5, .int x6] [] (pH K M) out) : pG eI K out (L_127_3 p1 p2 x3 x4 x5 x6 M) := by
  refine pG_all (C := fun P : (Int32 → Int32 → Int32 → pMem → pT Int32) × (Int32 → Int32 → Int32 → Int32 → pMem → pT Int32) => C_127 p1 p2 P.1 P.2) (T := fun P => P.2 x3 x4 x5 x6 M) eI_inj ((fun _ _ _ _ _ _ => True), (fun _ _ _ _ _ _ _ => True)) ?_ (fun P hP => (K_127 hS P.1 P.2 hP f).2 _ _ _ _ _ H)
  exact ⟨(fun _ _ _ _ _ _ _ => trivial), (fun _ _ _ _ _ _ _ _ => trivial)⟩
theorem D_127_ok {X : aX} {F d : Nat} {K : Nat → aK} (hS : pS K) {p1 : Int32} {p2 : Int32} {M : pMem} {out : Option Value × aH} (H : aM X F d 127 [.ref 188, .int p1, .int p2] (pH K M) = some out) : pG eI K out (D_127 p1 p2 M) := by
  obtain ⟨d', g0, _, H⟩ := pEnt (n := 7) (ls := [.ref 188, .int p1, .int p2, aD, aD, aD, aD]) (mcb_127 rfl) (by decide +kernel) rfl H
  unfold D_127
  replace H := pRun (ls' := [.ref 188, .int p1, .int p2, .int (kI 0), .int (kI 0), .int (kI 0), aD]) (st' := []) 6 rfl H
  obtain ⟨g0, _, H⟩ := pFall (mcb_127 rfl) H
  exact L_127_1_ok hS  H
def l_127 : List (Nat × Nat) := []
theorem FC_127 {p1 : Int32} {p2 : Int32} : C_127 p1 p2 (fun _ _ _ M _ N => pFr (l_127) M N) (fun _ _ _ _ M _ N => pFr (l_127) M N) := ⟨fun x3 x4 x5 M => show pTf (l_127) M (S_127_1 p1 p2 _ _ x3 x4 x5 M) from (tf_if (tf_ret pFr_refl) (tf_jump pFr_refl)), fun x3 x4 x5 x6 M => show pTf (l_127) M (S_127_3 p1 p2 _ _ x3 x4 x5 x6 M) from (tf_if (tf_jump pFr_refl) (tf_if (tf_jump pFr_refl) (tf_gd fun g3 => (tf_if (tf_jump pFr_refl) (tf_gd fun g5 => (tf_if (tf_jump pFr_refl) (tf_gd fun g7 => (tf_gd fun g8 => (tf_if (tf_if (tf_call pFr_refl (fun _ _ h => F_124 h) [] rfl fun _ M1 f1 => (tf_jump f1)) (tf_jump pFr_refl)) (tf_if (tf_call pFr_refl (fun _ _ h => F_124 h) [] rfl fun _ M1 f1 => (tf_jump f1)) (tf_jump pFr_refl)))))))))))⟩
theorem F_127 {p1 : Int32} {p2 : Int32} {M : pMem} {v : Int32} {N : pMem} (h : D_127 p1 p2 M v N) : pFr (l_127) M N :=
  (show pTf (l_127) M (D_127 p1 p2 M) from (tf_jumpL (fun _ _ _ M _ N => pFr (l_127) M N, fun _ _ _ _ M _ N => pFr (l_127) M N) (FC_127) rfl pFr_refl)) v N h
/-- TwoCampsModel.seen(II)I -/
def D_128 (p1 : Int32) (p2 : Int32) (M : pMem) : pT Int32 := tPut (aPut M 188 0 (kI 0)) fun M1 => tIf ((f_42 p1 (kI 0) (kI 999)) = 0) (tRet (kI (-10000)) M1) (tIf (¬ (f_42 p2 (kI 0) (kI 2)) = 0) (tIf (¬ p2 = 0) (tIf (¬ p2 = (kI 1)) (tCall (D_127 p1 (kI 1) M1) fun v1 M2 => tCall (D_127 p1 (kI 0) M2) fun v2 M3 => tRet (v1 - v2) M3) (tCall (D_127 p1 (kI 0) M1) fun v1 M2 => tRet v1 M2)) (tCall (D_127 p1 (kI 1) M1) fun v1 M2 => tRet v1 M2)) (tRet (kI (-10000)) M1))
theorem D_128_ok {X : aX} {F d : Nat} {K : Nat → aK} (hS : pS K) {p1 : Int32} {p2 : Int32} {M : pMem} {out : Option Value × aH} (H : aM X F d 128 [.ref 188, .int p1, .int p2] (pH K M) = some out) : pG eI K out (D_128 p1 p2 M) := by
  obtain ⟨d', g0, _, H⟩ := pEnt (n := 3) (ls := [.ref 188, .int p1, .int p2]) (mcb_128 rfl) (by decide +kernel) rfl H
  unfold D_128
  replace H := pRun (ls' := [.ref 188, .int p1, .int p2]) (st' := [.int (kI 0), .ref 188]) 2 rfl H
  obtain ⟨M1, eM1, H⟩ := pPutN (j := 0) rfl H
  refine pG_put (M2 := M1) eM1 ?_
  replace H := pRun (ls' := [.ref 188, .int p1, .int p2]) (st' := [.int (kI 999), .int (kI 0), .int p1, .ref 188]) 4 rfl H
  obtain ⟨rv, h1, hc, H⟩ := pCalV 42 3 188 (as := [.int p1, .int (kI 0), .int (kI 999)]) (rest := []) rfl (by decide) (by decide +kernel) rfl rfl H
  replace H := pUseF (f_42_ok hS hc) H
  rcases pIf0 (n1 := 2) rfl (mcb_128 rfl) (mcb_128 rfl) H with ⟨g1, g0, _, H⟩ | ⟨g1, g0, _, H⟩
  · refine pG_pos (c := (f_42 p1 (kI 0) (kI 999)) = 0) g1 ?_
    replace H := pRun (ls' := [.ref 188, .int p1, .int p2]) (st' := [.int (kI (-10000))]) 1 rfl H
    exact pG_ret (pRetI H)
  · refine pG_neg (c := (f_42 p1 (kI 0) (kI 999)) = 0) g1 ?_
    replace H := pRun (ls' := [.ref 188, .int p1, .int p2]) (st' := [.int (kI 2), .int (kI 0), .int p2, .ref 188]) 4 rfl H
    obtain ⟨rv, h1, hc, H⟩ := pCalV 42 3 188 (as := [.int p2, .int (kI 0), .int (kI 2)]) (rest := []) rfl (by decide) (by decide +kernel) rfl rfl H
    replace H := pUseF (f_42_ok hS hc) H
    rcases pIf0 (n1 := 3) rfl (mcb_128 rfl) (mcb_128 rfl) H with ⟨g2, g0, _, H⟩ | ⟨g2, g0, _, H⟩
    · refine pG_pos (c := ¬ (f_42 p2 (kI 0) (kI 2)) = 0) g2 ?_
      replace H := pRun (ls' := [.ref 188, .int p1, .int p2]) (st' := [.int p2]) 1 rfl H
      rcases pIf0 (n1 := 5) rfl (mcb_128 rfl) (mcb_128 rfl) H with ⟨g3, g0, _, H⟩ | ⟨g3, g0, _, H⟩
      · refine pG_pos (c := ¬ p2 = 0) g3 ?_
        replace H := pRun (ls' := [.ref 188, .int p1, .int p2]) (st' := [.int (kI 1), .int p2]) 2 rfl H
        rcases pIfc (n1 := 7) rfl (mcb_128 rfl) (mcb_128 rfl) H with ⟨g4, g0, _, H⟩ | ⟨g4, g0, _, H⟩
        · refine pG_pos (c := ¬ p2 = (kI 1)) g4 ?_
          replace H := pRun (ls' := [.ref 188, .int p1, .int p2]) (st' := [.int (kI 1), .int p1, .ref 188]) 3 rfl H
          obtain ⟨rv, h1, hc, H⟩ := pCalV 127 2 188 (as := [.int p1, .int (kI 1)]) (rest := []) rfl (by decide) (by decide +kernel) rfl rfl H
          obtain ⟨v1, M2, hD, H⟩ := pUseI (D_127_ok hS hc) H
          refine pG_call (x := v1) (M1 := M2) hD ?_
          replace H := pRun (ls' := [.ref 188, .int p1, .int p2]) (st' := [.int (kI 0), .int p1, .ref 188, .int v1]) 3 rfl H
          obtain ⟨rv, h1, hc, H⟩ := pCalV 127 2 188 (as := [.int p1, .int (kI 0)]) (rest := [.int v1]) rfl (by decide) (by decide +kernel) rfl rfl H
          obtain ⟨v2, M3, hD, H⟩ := pUseI (D_127_ok hS hc) H
          refine pG_call (x := v2) (M1 := M3) hD ?_
          replace H := pRun (ls' := [.ref 188, .int p1, .int p2]) (st' := [.int (v1 - v2)]) 1 rfl H
          obtain ⟨g0, _, H⟩ := pFall (mcb_128 rfl) H
          exact pG_ret (pRetI H)
        · refine pG_neg (c := ¬ p2 = (kI 1)) g4 ?_
          replace H := pRun (ls' := [.ref 188, .int p1, .int p2]) (st' := [.int (kI 0), .int p1, .ref 188]) 3 rfl H
          obtain ⟨rv, h1, hc, H⟩ := pCalV 127 2 188 (as := [.int p1, .int (kI 0)]) (rest := []) rfl (by decide) (by decide +kernel) rfl rfl H
          obtain ⟨v1, M2, hD, H⟩ := pUseI (D_127_ok hS hc) H
          refine pG_call (x := v1) (M1 := M2) hD ?_
          obtain ⟨g0, _, H⟩ := pGo (n1 := 8) rfl (mcb_128 rfl) H
          exact pG_ret (pRetI H)
      · refine pG_neg (c := ¬ p2 = 0) g3 ?_
        replace H := pRun (ls' := [.ref 188, .int p1, .int p2]) (st' := [.int (kI 1), .int p1, .ref 188]) 3 rfl H
        obtain ⟨rv, h1, hc, H⟩ := pCalV 127 2 188 (as := [.int p1, .int (kI 1)]) (rest := []) rfl (by decide) (by decide +kernel) rfl rfl H
        obtain ⟨v1, M2, hD, H⟩ := pUseI (D_127_ok hS hc) H
        refine pG_call (x := v1) (M1 := M2) hD ?_
        obtain ⟨g0, _, H⟩ := pGo (n1 := 8) rfl (mcb_128 rfl) H
        exact pG_ret (pRetI H)
    · refine pG_neg (c := ¬ (f_42 p2 (kI 0) (kI 2)) = 0) g2 ?_
      replace H := pRun (ls' := [.ref 188, .int p1, .int p2]) (st' := [.int (kI (-10000))]) 1 rfl H
      exact pG_ret (pRetI H)
def l_128 : List (Nat × Nat) := []
theorem F_128 {p1 : Int32} {p2 : Int32} {M : pMem} {v : Int32} {N : pMem} (h : D_128 p1 p2 M v N) : pFr (l_128) M N :=
  (show pTf (l_128) M (D_128 p1 p2 M) from (tf_putS1 pFr_refl rfl fun M1 f1 => (tf_if (tf_ret f1) (tf_if (tf_if (tf_if (tf_call f1 (fun _ _ h => F_127 h) [] rfl fun _ M2 f2 => (tf_call f2 (fun _ _ h => F_127 h) [] rfl fun _ M3 f3 => (tf_ret f3))) (tf_call f1 (fun _ _ h => F_127 h) [] rfl fun _ M2 f2 => (tf_ret f2))) (tf_call f1 (fun _ _ h => F_127 h) [] rfl fun _ M2 f2 => (tf_ret f2))) (tf_ret f1))))) v N h
/-- TwoCampsModel.countsWays()V -/
def S_129_1 (P1 : Int32 → pMem → pT Unit) (P4 : Int32 → Int32 → pMem → pT Unit) (P8 : Int32 → Int32 → Int32 → pMem → pT Unit) (P10 : Int32 → Int32 → Int32 → Int32 → pMem → pT Unit) (x1 : Int32) (M : pMem) : pT Unit := tIf ((kI 59500) ≤ x1) (tGd (pIn (kI 0) 59500) <| tPut (aPut M 228 (ix (kI 0)) (kI 1)) fun M1 => P4 (kI 0) (kI 0) M1) (tGd (pIn x1 59500) <| tPut (aPut M 228 (ix x1) (kI 0)) fun M1 => P1 (x1 + kI 1) M1)
def S_129_4 (P1 : Int32 → pMem → pT Unit) (P4 : Int32 → Int32 → pMem → pT Unit) (P8 : Int32 → Int32 → Int32 → pMem → pT Unit) (P10 : Int32 → Int32 → Int32 → Int32 → pMem → pT Unit) (x1 : Int32) (x2 : Int32) (M : pMem) : pT Unit := tIf ((M 188 2) ≤ x2) (tRet () M) (tGd (pIn x2 24) <| tIf (¬ (M 191 (ix x2)) = 0) (P8 (x1 + (kI 1)) x2 (x1 + (kI 1)) M) (P4 x1 (x2 + kI 1) M))
def S_129_8 (P1 : Int32 → pMem → pT Unit) (P4 : Int32 → Int32 → pMem → pT Unit) (P8 : Int32 → Int32 → Int32 → pMem → pT Unit) (P10 : Int32 → Int32 → Int32 → Int32 → pMem → pT Unit) (x1 : Int32) (x2 : Int32) (x3 : Int32) (M : pMem) : pT Unit := tIf (x3 ≤ 0) (P4 x1 (x2 + kI 1) M) (P10 x1 x2 x3 (kI 2379) M)
def S_129_10 (P1 : Int32 → pMem → pT Unit) (P4 : Int32 → Int32 → pMem → pT Unit) (P8 : Int32 → Int32 → Int32 → pMem → pT Unit) (P10 : Int32 → Int32 → Int32 → Int32 → pMem → pT Unit) (x1 : Int32) (x2 : Int32) (x3 : Int32) (x4 : Int32) (M : pMem) : pT Unit := tGd (pIn x2 24) <| tIf (x4 < (M 193 (ix x2))) (P8 x1 x2 (x3 + kI (-1)) M) (tGd (pIn (((kI 2380) * x3) + x4) 59500) <| tGd (pIn x2 24) <| tGd (pIn ((((kI 2380) * (x3 - (kI 1))) + x4) - (M 193 (ix x2))) 59500) <| tGd (pIn (((kI 2380) * x3) + x4) 59500) <| tPut (aPut M 228 (ix (((kI 2380) * x3) + x4)) ((M 228 (ix (((kI 2380) * x3) + x4))) + (M 228 (ix ((((kI 2380) * (x3 - (kI 1))) + x4) - (M 193 (ix x2))))))) fun M1 => P10 x1 x2 x3 (x4 + kI (-1)) M1)
def C_129 (P1 : Int32 → pMem → pT Unit) (P4 : Int32 → Int32 → pMem → pT Unit) (P8 : Int32 → Int32 → Int32 → pMem → pT Unit) (P10 : Int32 → Int32 → Int32 → Int32 → pMem → pT Unit) : Prop := (∀ (x1 : Int32) M v N, S_129_1 P1 P4 P8 P10 x1 M v N → P1 x1 M v N) ∧ (∀ (x1 : Int32) (x2 : Int32) M v N, S_129_4 P1 P4 P8 P10 x1 x2 M v N → P4 x1 x2 M v N) ∧ (∀ (x1 : Int32) (x2 : Int32) (x3 : Int32) M v N, S_129_8 P1 P4 P8 P10 x1 x2 x3 M v N → P8 x1 x2 x3 M v N) ∧ (∀ (x1 : Int32) (x2 : Int32) (x3 : Int32) (x4 : Int32) M v N, S_129_10 P1 P4 P8 P10 x1 x2 x3 x4 M v N → P10 x1 x2 x3 x4 M v N)
def L_129_1 (x1 : Int32) (M : pMem) : pT Unit := fun v N => ∀ P : (Int32 → pMem → pT Unit) × (Int32 → Int32 → pMem → pT Unit) × (Int32 → Int32 → Int32 → pMem → pT Unit) × (Int32 → Int32 → Int32 → Int32 → pMem → pT Unit), C_129 P.1 P.2.1 P.2.2.1 P.2.2.2 → P.1 x1 M v N
def L_129_4 (x1 : Int32) (x2 : Int32) (M : pMem) : pT Unit := fun v N => ∀ P : (Int32 → pMem → pT Unit) × (Int32 → Int32 → pMem → pT Unit) × (Int32 → Int32 → Int32 → pMem → pT Unit) × (Int32 → Int32 → Int32 → Int32 → pMem → pT Unit), C_129 P.1 P.2.1 P.2.2.1 P.2.2.2 → P.2.1 x1 x2 M v N
def L_129_8 (x1 : Int32) (x2 : Int32) (x3 : Int32) (M : pMem) : pT Unit := fun v N => ∀ P : (Int32 → pMem → pT Unit) × (Int32 → Int32 → pMem → pT Unit) × (Int32 → Int32 → Int32 → pMem → pT Unit) × (Int32 → Int32 → Int32 → Int32 → pMem → pT Unit), C_129 P.1 P.2.1 P.2.2.1 P.2.2.2 → P.2.2.1 x1 x2 x3 M v N
def L_129_10 (x1 : Int32) (x2 : Int32) (x3 : Int32) (x4 : Int32) (M : pMem) : pT Unit := fun v N => ∀ P : (Int32 → pMem → pT Unit) × (Int32 → Int32 → pMem → pT Unit) × (Int32 → Int32 → Int32 → pMem → pT Unit) × (Int32 → Int32 → Int32 → Int32 → pMem → pT Unit), C_129 P.1 P.2.1 P.2.2.1 P.2.2.2 → P.2.2.2 x1 x2 x3 x4 M v N
def D_129 (M : pMem) : pT Unit := L_129_1 (kI 0) M
theorem K_129 {X : aX} {F d : Nat} {K : Nat → aK} (hS : pS K) {out : Option Value × aH} (P1 : Int32 → pMem → pT Unit) (P4 : Int32 → Int32 → pMem → pT Unit) (P8 : Int32 → Int32 → Int32 → pMem → pT Unit) (P10 : Int32 → Int32 → Int32 → Int32 → pMem → pT Unit) (hC : C_129 P1 P4 P8 P10) : ∀ f, (∀ (x1 : Int32) (u2 : Value) (u3 : Value) (u4 : Value) M, pm X F d 129 f 1 [.iload 1, .ldc_w 5330054473836, .if_icmp .ge 3] [.ref 188, .int x1, u2, u3, u4] [] (pH K M) out → pG eU K out (P1 x1 M)) ∧ (∀ (x1 : Int32) (x2 : Int32) (u3 : Value) (u4 : Value) M, pm X F d 129 f 4 [.iload 2, .aload 0, .getfield 124412008, .if_icmp .ge 14] [.ref 188, .int x1, .int x2, u3, u4] [] (pH K M) out → pG eU K out (P4 x1 x2 M)) ∧ (∀ (x1 : Int32) (x2 : Int32) (x3 : Int32) (u4 : Value) M, pm X F d 129 f 8 [.iload 3, .ifCond .le 13] [.ref 188, .int x1, .int x2, .int x3, u4] [] (pH K M) out → pG eU K out (P8 x1 x2 x3 M)) ∧ (∀ (x1 : Int32) (x2 : Int32) (x3 : Int32) (x4 : Int32) M, pm X F d 129 f 10 [.iload 4, .aload 0, .getfield 125112038, .iload 2, .iaload, .if_icmp .lt 12] [.ref 188, .int x1, .int x2, .int x3, .int x4] [] (pH K M) out → pG eU K out (P10 x1 x2 x3 x4 M)) := by
  intro f
  induction f using Nat.strongRecOn with
  | _ f ih =>
    refine ⟨?_, ?_, ?_, ?_⟩
    · intro x1 u2 u3 u4 M H
      refine pG_mono (fun v N h => hC.1 x1 M v N h) ?_
      unfold S_129_1
      replace H := pRun (ls' := [.ref 188, .int x1, u2, u3, u4]) (st' := [.int x1]) 1 rfl H
      replace H := pLdc (x := 59500) (by decide) H
      rcases pIfc (n1 := 3) rfl (mcb_129 rfl) (mcb_129 rfl) H with ⟨g1, g0, _, H⟩ | ⟨g1, g0, _, H⟩
      · refine pG_pos (c := (kI 59500) ≤ x1) g1 ?_
        replace H := pRun (ls' := [.ref 188, .int x1, u2, u3, u4]) (st' := [.ref 188]) 1 rfl H
        replace H := pGetR (r := 228) (pRf hS (by decide +kernel)) rfl H
        replace H := pRun (ls' := [.ref 188, .int x1, u2, u3, u4]) (st' := [.int (kI 1), .int (kI 0), .ref 228]) 2 rfl H
        obtain ⟨g2, M1, eM1, H⟩ := pIst (n := 59500) (pLn hS (show pCa 228 59500 = true by decide +kernel)) H
        refine pG_gd g2 (pG_put (M2 := M1) eM1 ?_)
        replace H := pRun (ls' := [.ref 188, .int (kI 0), .int (kI 0), u3, u4]) (st' := []) 4 rfl H
        obtain ⟨g0, _, H⟩ := pFall (mcb_129 rfl) H
        exact (ih _ (by omega)).2.1 _ _ _ _  _ H
      · refine pG_neg (c := (kI 59500) ≤ x1) g1 ?_
        replace H := pRun (ls' := [.ref 188, .int x1, u2, u3, u4]) (st' := [.ref 188]) 1 rfl H
        replace H := pGetR (r := 228) (pRf hS (by decide +kernel)) rfl H
        replace H := pRun (ls' := [.ref 188, .int x1, u2, u3, u4]) (st' := [.int (kI 0), .int x1, .ref 228]) 2 rfl H
        obtain ⟨g2, M1, eM1, H⟩ := pIst (n := 59500) (pLn hS (show pCa 228 59500 = true by decide +kernel)) H
        refine pG_gd g2 (pG_put (M2 := M1) eM1 ?_)
        replace H := pRun (ls' := [.ref 188, .int (x1 + kI 1), u2, u3, u4]) (st' := []) 1 rfl H
        obtain ⟨g0, _, H⟩ := pGo (n1 := 1) rfl (mcb_129 rfl) H
        exact (ih _ (by omega)).1 _ _ _ _  _ H
    · intro x1 x2 u3 u4 M H
      refine pG_mono (fun v N h => hC.2.1 x1 x2 M v N h) ?_
      unfold S_129_4
      replace H := pRun (ls' := [.ref 188, .int x1, .int x2, u3, u4]) (st' := [.ref 188, .int x2]) 2 rfl H
      replace H := pGetN (v := M 188 2) rfl (by decide) H
      rcases pIfc (n1 := 14) rfl (mcb_129 rfl) (mcb_129 rfl) H with ⟨g1, g0, _, H⟩ | ⟨g1, g0, _, H⟩
      · refine pG_pos (c := (M 188 2) ≤ x2) g1 ?_
        exact pG_ret (pRetU H)
      · refine pG_neg (c := (M 188 2) ≤ x2) g1 ?_
        replace H := pRun (ls' := [.ref 188, .int x1, .int x2, u3, u4]) (st' := [.ref 188]) 1 rfl H
        replace H := pGetR (r := 191) (pRf hS (by decide +kernel)) rfl H
        replace H := pRun (ls' := [.ref 188, .int x1, .int x2, u3, u4]) (st' := [.int x2, .ref 191]) 1 rfl H
        obtain ⟨g2, H⟩ := pIld (n := 24) (pLt (show pCa 191 24 = true by decide +kernel)) (pLn hS (show pCa 191 24 = true by decide +kernel)) H
        refine pG_gd g2 ?_
        rcases pIf0 (n1 := 7) rfl (mcb_129 rfl) (mcb_129 rfl) H with ⟨g3, g0, _, H⟩ | ⟨g3, g0, _, H⟩
        · refine pG_pos (c := ¬ (M 191 (ix x2)) = 0) g3 ?_
          replace H := pRun (ls' := [.ref 188, .int (x1 + (kI 1)), .int x2, .int (x1 + (kI 1)), u4]) (st' := []) 6 rfl H
          obtain ⟨g0, _, H⟩ := pFall (mcb_129 rfl) H
          exact (ih _ (by omega)).2.2.1 _ _ _ _  _ H
        · refine pG_neg (c := ¬ (M 191 (ix x2)) = 0) g3 ?_
          obtain ⟨g0, _, H⟩ := pGo (n1 := 13) rfl (mcb_129 rfl) H
          replace H := pRun (ls' := [.ref 188, .int x1, .int (x2 + kI 1), u3, u4]) (st' := []) 1 rfl H
          obtain ⟨g0, _, H⟩ := pGo (n1 := 4) rfl (mcb_129 rfl) H
          exact (ih _ (by omega)).2.1 _ _ _ _  _ H
    · intro x1 x2 x3 u4 M H
      refine pG_mono (fun v N h => hC.2.2.1 x1 x2 x3 M v N h) ?_
      unfold S_129_8
      replace H := pRun (ls' := [.ref 188, .int x1, .int x2, .int x3, u4]) (st' := [.int x3]) 1 rfl H
      rcases pIf0 (n1 := 13) rfl (mcb_129 rfl) (mcb_129 rfl) H with ⟨g1, g0, _, H⟩ | ⟨g1, g0, _, H⟩
      · refine pG_pos (c := x3 ≤ 0) g1 ?_
        replace H := pRun (ls' := [.ref 188, .int x1, .int (x2 + kI 1), .int x3, u4]) (st' := []) 1 rfl H
        obtain ⟨g0, _, H⟩ := pGo (n1 := 4) rfl (mcb_129 rfl) H
        exact (ih _ (by omega)).2.1 _ _ _ _  _ H
      · refine pG_neg (c := x3 ≤ 0) g1 ?_
        replace H := pRun (ls' := [.ref 188, .int x1, .int x2, .int x3, .int (kI 2379)]) (st' := []) 2 rfl H
        obtain ⟨g0, _, H⟩ := pFall (mcb_129 rfl) H
        exact (ih _ (by omega)).2.2.2 _ _ _ _  _ H
    · intro x1 x2 x3 x4 M H
      refine pG_mono (fun v N h => hC.2.2.2 x1 x2 x3 x4 M v N h) ?_
      unfold S_129_10
      replace H := pRun (ls' := [.ref 188, .int x1, .int x2, .int x3, .int x4]) (st' := [.ref 188, .int x4]) 2 rfl H
      replace H := pGetR (r := 193) (pRf hS (by decide +kernel)) rfl H
      replace H := pRun (ls' := [.ref 188, .int x1, .int x2, .int x3, .int x4]) (st' := [.int x2, .ref 193, .int x4]) 1 rfl H
      obtain ⟨g1, H⟩ := pIld (n := 24) (pLt (show pCa 193 24 = true by decide +kernel)) (pLn hS (show pCa 193 24 = true by decide +kernel)) H
      refine pG_gd g1 ?_
      rcases pIfc (n1 := 12) rfl (mcb_129 rfl) (mcb_129 rfl) H with ⟨g2, g0, _, H⟩ | ⟨g2, g0, _, H⟩
      · refine pG_pos (c := x4 < (M 193 (ix x2))) g2 ?_
        replace H := pRun (ls' := [.ref 188, .int x1, .int x2, .int (x3 + kI (-1)), .int x4]) (st' := []) 1 rfl H
        obtain ⟨g0, _, H⟩ := pGo (n1 := 8) rfl (mcb_129 rfl) H
        exact (ih _ (by omega)).2.2.1 _ _ _ _  _ H
      · refine pG_neg (c := x4 < (M 193 (ix x2))) g2 ?_
        replace H := pRun (ls' := [.ref 188, .int x1, .int x2, .int x3, .int x4]) (st' := [.ref 188]) 1 rfl H
        replace H := pGetR (r := 228) (pRf hS (by decide +kernel)) rfl H
        replace H := pRun (ls' := [.ref 188, .int x1, .int x2, .int x3, .int x4]) (st' := [.ref 188, .int (((kI 2380) * x3) + x4), .ref 228]) 6 rfl H
        replace H := pGetR (r := 228) (pRf hS (by decide +kernel)) rfl H
        replace H := pRun (ls' := [.ref 188, .int x1, .int x2, .int x3, .int x4]) (st' := [.int (((kI 2380) * x3) + x4), .ref 228, .int (((kI 2380) * x3) + x4), .ref 228]) 5 rfl H
        obtain ⟨g3, H⟩ := pIld (n := 59500) (pLt (show pCa 228 59500 = true by decide +kernel)) (pLn hS (show pCa 228 59500 = true by decide +kernel)) H
        refine pG_gd g3 ?_
        replace H := pRun (ls' := [.ref 188, .int x1, .int x2, .int x3, .int x4]) (st' := [.ref 188, .int (M 228 (ix (((kI 2380) * x3) + x4))), .int (((kI 2380) * x3) + x4), .ref 228]) 1 rfl H
        replace H := pGetR (r := 228) (pRf hS (by decide +kernel)) rfl H
        replace H := pRun (ls' := [.ref 188, .int x1, .int x2, .int x3, .int x4]) (st' := [.ref 188, .int (((kI 2380) * (x3 - (kI 1))) + x4), .ref 228, .int (M 228 (ix (((kI 2380) * x3) + x4))), .int (((kI 2380) * x3) + x4), .ref 228]) 8 rfl H
        replace H := pGetR (r := 193) (pRf hS (by decide +kernel)) rfl H
        replace H := pRun (ls' := [.ref 188, .int x1, .int x2, .int x3, .int x4]) (st' := [.int x2, .ref 193, .int (((kI 2380) * (x3 - (kI 1))) + x4), .ref 228, .int (M 228 (ix (((kI 2380) * x3) + x4))), .int (((kI 2380) * x3) + x4), .ref 228]) 1 rfl H
        obtain ⟨g4, H⟩ := pIld (n := 24) (pLt (show pCa 193 24 = true by decide +kernel)) (pLn hS (show pCa 193 24 = true by decide +kernel)) H
        refine pG_gd g4 ?_
        replace H := pRun (ls' := [.ref 188, .int x1, .int x2, .int x3, .int x4]) (st' := [.int ((((kI 2380) * (x3 - (kI 1))) + x4) - (M 193 (ix x2))), .ref 228, .int (M 228 (ix (((kI 2380) * x3) + x4))), .int (((kI 2380) * x3) + x4), .ref 228]) 1 rfl H
        obtain ⟨g5, H⟩ := pIld (n := 59500) (pLt (show pCa 228 59500 = true by decide +kernel)) (pLn hS (show pCa 228 59500 = true by decide +kernel)) H
        refine pG_gd g5 ?_
        replace H := pRun (ls' := [.ref 188, .int x1, .int x2, .int x3, .int x4]) (st' := [.int ((M 228 (ix (((kI 2380) * x3) + x4))) + (M 228 (ix ((((kI 2380) * (x3 - (kI 1))) + x4) - (M 193 (ix x2)))))), .int (((kI 2380) * x3) + x4), .ref 228]) 1 rfl H
        obtain ⟨g6, M1, eM1, H⟩ := pIst (n := 59500) (pLn hS (show pCa 228 59500 = true by decide +kernel)) H
        refine pG_gd g6 (pG_put (M2 := M1) eM1 ?_)
        replace H := pRun (ls' := [.ref 188, .int x1, .int x2, .int x3, .int (x4 + kI (-1))]) (st' := []) 1 rfl H
        obtain ⟨g0, _, H⟩ := pGo (n1 := 10) rfl (mcb_129 rfl) H
        exact (ih _ (by omega)).2.2.2 _ _ _ _  _ H
theorem L_129_1_ok {X : aX} {F d : Nat} {K : Nat → aK} (hS : pS K) {out : Option Value × aH} {f : Nat} {x1 : Int32} {u2 : Value} {u3 : Value} {u4 : Value} {M : pMem} (H : pm X F d 129 f 1 [.iload 1, .ldc_w 5330054473836, .if_icmp .ge 3] [.ref 188, .int x1, u2, u3, u4] [] (pH K M) out) : pG eU K out (L_129_1 x1 M) := by
  refine pG_all (C := fun P : (Int32 → pMem → pT Unit) × (Int32 → Int32 → pMem → pT Unit) × (Int32 → Int32 → Int32 → pMem → pT Unit) × (Int32 → Int32 → Int32 → Int32 → pMem → pT Unit) => C_129 P.1 P.2.1 P.2.2.1 P.2.2.2) (T := fun P => P.1 x1 M) eU_inj ((fun _ _ _ _ => True), (fun _ _ _ _ _ => True), (fun _ _ _ _ _ _ => True), (fun _ _ _ _ _ _ _ => True)) ?_ (fun P hP => (K_129 hS P.1 P.2.1 P.2.2.1 P.2.2.2 hP f).1 _ _ _ _ _ H)
  exact ⟨(fun _ _ _ _ _ => trivial), (fun _ _ _ _ _ _ => trivial), (fun _ _ _ _ _ _ _ => trivial), (fun _ _ _ _ _ _ _ _ => trivial)⟩
theorem L_129_4_ok {X : aX} {F d : Nat} {K : Nat → aK} (hS : pS K) {out : Option Value × aH} {f : Nat} {x1 : Int32} {x2 : Int32} {u3 : Value} {u4 : Value} {M : pMem} (H : pm X F d 129 f 4 [.iload 2, .aload 0, .getfield 124412008, .if_icmp .ge 14] [.ref 188, .int x1, .int x2, u3, u4] [] (pH K M) out) : pG eU K out (L_129_4 x1 x2 M) := by
  refine pG_all (C := fun P : (Int32 → pMem → pT Unit) × (Int32 → Int32 → pMem → pT Unit) × (Int32 → Int32 → Int32 → pMem → pT Unit) × (Int32 → Int32 → Int32 → Int32 → pMem → pT Unit) => C_129 P.1 P.2.1 P.2.2.1 P.2.2.2) (T := fun P => P.2.1 x1 x2 M) eU_inj ((fun _ _ _ _ => True), (fun _ _ _ _ _ => True), (fun _ _ _ _ _ _ => True), (fun _ _ _ _ _ _ _ => True)) ?_ (fun P hP => (K_129 hS P.1 P.2.1 P.2.2.1 P.2.2.2 hP f).2.1 _ _ _ _ _ H)
  exact ⟨(fun _ _ _ _ _ => trivial), (fun _ _ _ _ _ _ => trivial), (fun _ _ _ _ _ _ _ => trivial), (fun _ _ _ _ _ _ _ _ => trivial)⟩
theorem L_129_8_ok {X : aX} {F d : Nat} {K : Nat → aK} (hS : pS K) {out : Option Value × aH} {f : Nat} {x1 : Int32} {x2 : Int32} {x3 : Int32} {u4 : Value} {M : pMem} (H : pm X F d 129 f 8 [.iload 3, .ifCond .le 13] [.ref 188, .int x1, .int x2, .int x3, u4] [] (pH K M) out) : pG eU K out (L_129_8 x1 x2 x3 M) := by
  refine pG_all (C := fun P : (Int32 → pMem → pT Unit) × (Int32 → Int32 → pMem → pT Unit) × (Int32 → Int32 → Int32 → pMem → pT Unit) × (Int32 → Int32 → Int32 → Int32 → pMem → pT Unit) => C_129 P.1 P.2.1 P.2.2.1 P.2.2.2) (T := fun P => P.2.2.1 x1 x2 x3 M) eU_inj ((fun _ _ _ _ => True), (fun _ _ _ _ _ => True), (fun _ _ _ _ _ _ => True), (fun _ _ _ _ _ _ _ => True)) ?_ (fun P hP => (K_129 hS P.1 P.2.1 P.2.2.1 P.2.2.2 hP f).2.2.1 _ _ _ _ _ H)
  exact ⟨(fun _ _ _ _ _ => trivial), (fun _ _ _ _ _ _ => trivial), (fun _ _ _ _ _ _ _ => trivial), (fun _ _ _ _ _ _ _ _ => trivial)⟩
theorem L_129_10_ok {X : aX} {F d : Nat} {K : Nat → aK} (hS : pS K) {out : Option Value × aH} {f : Nat} {x1 : Int32} {x2 : Int32} {x3 : Int32} {x4 : Int32} {M : pMem} (H : pm X F d 129 f 10 [.iload 4, .aload 0, .getfield 125112038, .iload 2, .iaload, .if_icmp .lt 12] [.ref 188, .int x1, .int x2, .int x3, .int x4] [] (pH K M) out) : pG eU K out (L_129_10 x1 x2 x3 x4 M) := by
  refine pG_all (C := fun P : (Int32 → pMem → pT Unit) × (Int32 → Int32 → pMem → pT Unit) × (Int32 → Int32 → Int32 → pMem → pT Unit) × (Int32 → Int32 → Int32 → Int32 → pMem → pT Unit) => C_129 P.1 P.2.1 P.2.2.1 P.2.2.2) (T := fun P => P.2.2.2 x1 x2 x3 x4 M) eU_inj ((fun _ _ _ _ => True), (fun _ _ _ _ _ => True), (fun _ _ _ _ _ _ => True), (fun _ _ _ _ _ _ _ => True)) ?_ (fun P hP => (K_129 hS P.1 P.2.1 P.2.2.1 P.2.2.2 hP f).2.2.2 _ _ _ _ _ H)
  exact ⟨(fun _ _ _ _ _ => trivial), (fun _ _ _ _ _ _ => trivial), (fun _ _ _ _ _ _ _ => trivial), (fun _ _ _ _ _ _ _ _ => trivial)⟩
theorem D_129_ok {X : aX} {F d : Nat} {K : Nat → aK} (hS : pS K) {M : pMem} {out : Option Value × aH} (H : aM X F d 129 [.ref 188] (pH K M) = some out) : pG eU K out (D_129 M) := by
  obtain ⟨d', g0, _, H⟩ := pEnt (n := 5) (ls := [.ref 188, aD, aD, aD, aD]) (mcb_129 rfl) (by decide +kernel) rfl H
  unfold D_129
  replace H := pRun (ls' := [.ref 188, .int (kI 0), aD, aD, aD]) (st' := []) 2 rfl H
  obtain ⟨g0, _, H⟩ := pFall (mcb_129 rfl) H
  exact L_129_1_ok hS  H
def l_129 : List (Nat × Nat) := [(228, 999)]
theorem FC_129 : C_129 (fun _ M _ N => pFr (l_129) M N) (fun _ _ M _ N => pFr (l_129) M N) (fun _ _ _ M _ N => pFr (l_129) M N) (fun _ _ _ _ M _ N => pFr (l_129) M N) := ⟨fun x1 M => show pTf (l_129) M (S_129_1 _ _ _ _ x1 M) from (tf_if (tf_gd fun g2 => (tf_putA pFr_refl 0 rfl fun M1 f1 => (tf_jump f1))) (tf_gd fun g2 => (tf_putA pFr_refl 0 rfl fun M1 f1 => (tf_jump f1)))), fun x1 x2 M => show pTf (l_129) M (S_129_4 _ _ _ _ x1 x2 M) from (tf_if (tf_ret pFr_refl) (tf_gd fun g2 => (tf_if (tf_jump pFr_refl) (tf_jump pFr_refl)))), fun x1 x2 x3 M => show pTf (l_129) M (S_129_8 _ _ _ _ x1 x2 x3 M) from (tf_if (tf_jump pFr_refl) (tf_jump pFr_refl)), fun x1 x2 x3 x4 M => show pTf (l_129) M (S_129_10 _ _ _ _ x1 x2 x3 x4 M) from (tf_gd fun g1 => (tf_if (tf_jump pFr_refl) (tf_gd fun g3 => (tf_gd fun g4 => (tf_gd fun g5 => (tf_gd fun g6 => (tf_putA pFr_refl 0 rfl fun M1 f1 => (tf_jump f1))))))))⟩
theorem F_129 {M : pMem} {v : Unit} {N : pMem} (h : D_129 M v N) : pFr (l_129) M N :=
  (show pTf (l_129) M (D_129 M) from (tf_jumpL (fun _ M _ N => pFr (l_129) M N, fun _ _ M _ N => pFr (l_129) M N, fun _ _ _ M _ N => pFr (l_129) M N, fun _ _ _ _ M _ N => pFr (l_129) M N) (FC_129) rfl pFr_refl)) v N h
/-- TwoCampsModel.cut(I)I -/
def S_130_3 (p1 : Int32) (P3 : Int32 → Int32 → Int32 → pMem → pT Int32) (P9 : Int32 → Int32 → Int32 → Int32 → Int32 → pMem → pT Int32) (x2 : Int32) (x3 : Int32) (x4 : Int32) (M : pMem) : pT Int32 := tIf ((M 188 2) ≤ x4) (P9 x2 x3 (kI 0) (kI 0) (kI 0) M) (tGd (pIn x4 24) <| tIf (¬ (M 191 (ix x4)) = (kI 1)) (P3 x2 x3 (x4 + kI 1) M) (tGd (pIn x4 24) <| tIf (¬ (M 189 (ix x4)) = 0) (P3 x2 x3 (x4 + kI 1) M) (tGd (pIn x4 24) <| P3 x2 (x3 + (M 193 (ix x4))) (x4 + kI 1) M)))
def S_130_9 (p1 : Int32) (P3 : Int32 → Int32 → Int32 → pMem → pT Int32) (P9 : Int32 → Int32 → Int32 → Int32 → Int32 → pMem → pT Int32) (x2 : Int32) (x3 : Int32) (x4 : Int32) (x5 : Int32) (x6 : Int32) (M : pMem) : pT Int32 := tIf ((kI 2380) ≤ x6) (tIf (¬ p1 = 0) (tIf (¬ p1 = (kI 1)) (tGd (¬ (Int32.toInt64 x4) = 0) <| tRet (Int64.toInt32 (((Int64.ofInt 1000) * (Int32.toInt64 x5)) / (Int32.toInt64 x4))) M) (tRet x4 M)) (tRet x5 M)) (tGd (pIn (((kI 2380) * x2) + x6) 59500) <| tIf (x6 < x3) (P9 x2 x3 (x4 + (M 228 (ix (((kI 2380) * x2) + x6)))) x5 (x6 + kI 1) M) (tGd (pIn (((kI 2380) * x2) + x6) 59500) <| P9 x2 x3 (x4 + (M 228 (ix (((kI 2380) * x2) + x6)))) (x5 + (M 228 (ix (((kI 2380) * x2) + x6)))) (x6 + kI 1) M))
def C_130 (p1 : Int32) (P3 : Int32 → Int32 → Int32 → pMem → pT Int32) (P9 : Int32 → Int32 → Int32 → Int32 → Int32 → pMem → pT Int32) : Prop := (∀ (x2 : Int32) (x3 : Int32) (x4 : Int32) M v N, S_130_3 p1 P3 P9 x2 x3 x4 M v N → P3 x2 x3 x4 M v N) ∧ (∀ (x2 : Int32) (x3 : Int32) (x4 : Int32) (x5 : Int32) (x6 : Int32) M v N, S_130_9 p1 P3 P9 x2 x3 x4 x5 x6 M v N → P9 x2 x3 x4 x5 x6 M v N)
def L_130_3 (p1 : Int32) (x2 : Int32) (x3 : Int32) (x4 : Int32) (M : pMem) : pT Int32 := fun v N => ∀ P : (Int32 → Int32 → Int32 → pMem → pT Int32) × (Int32 → Int32 → Int32 → Int32 → Int32 → pMem → pT Int32), C_130 p1 P.1 P.2 → P.1 x2 x3 x4 M v N
def L_130_9 (p1 : Int32) (x2 : Int32) (x3 : Int32) (x4 : Int32) (x5 : Int32) (x6 : Int32) (M : pMem) : pT Int32 := fun v N => ∀ P : (Int32 → Int32 → Int32 → pMem → pT Int32) × (Int32 → Int32 → Int32 → Int32 → Int32 → pMem → pT Int32), C_130 p1 P.1 P.2 → P.2 x2 x3 x4 x5 x6 M v N
def D_130 (p1 : Int32) (M : pMem) : pT Int32 := tPut (aPut M 188 0 (kI 0)) fun M1 => tIf (¬ (f_42 p1 (kI 0) (kI 2)) = 0) (tCall (D_129 M1) fun _ M2 => tCall (D_53 (kI 0) M2) fun v2 M3 => L_130_3 p1 v2 (kI 0) (kI 0) M3) (tRet (kI (-1)) M1)
theorem K_130 {X : aX} {F d : Nat} {K : Nat → aK} (hS : pS K) {p1 : Int32} {out : Option Value × aH} (P3 : Int32 → Int32 → Int32 → pMem → pT Int32) (P9 : Int32 → Int32 → Int32 → Int32 → Int32 → pMem → pT Int32) (hC : C_130 p1 P3 P9) : ∀ f, (∀ (x2 : Int32) (x3 : Int32) (x4 : Int32) (u5 : Value) (u6 : Value) M, pm X F d 130 f 3 [.iload 4, .aload 0, .getfield 124412008, .if_icmp .ge 8] [.ref 188, .int p1, .int x2, .int x3, .int x4, u5, u6] [] (pH K M) out → pG eI K out (P3 x2 x3 x4 M)) ∧ (∀ (x2 : Int32) (x3 : Int32) (x4 : Int32) (x5 : Int32) (x6 : Int32) M, pm X F d 130 f 9 [.iload 6, .bipush 2380, .if_icmp .ge 13] [.ref 188, .int p1, .int x2, .int x3, .int x4, .int x5, .int x6] [] (pH K M) out → pG eI K out (P9 x2 x3 x4 x5 x6 M)) := by
  intro f
  induction f using Nat.strongRecOn with
  | _ f ih =>
    refine ⟨?_, ?_⟩
    · intro x2 x3 x4 u5 u6 M H
      refine pG_mono (fun v N h => hC.1 x2 x3 x4 M v N h) ?_
      unfold S_130_3
      replace H := pRun (ls' := [.ref 188, .int p1, .int x2, .int x3, .int x4, u5, u6]) (st' := [.ref 188, .int x4]) 2 rfl H
      replace H := pGetN (v := M 188 2) rfl (by decide) H
      rcases pIfc (n1 := 8) rfl (mcb_130 rfl) (mcb_130 rfl) H with ⟨g1, g0, _, H⟩ | ⟨g1, g0, _, H⟩
      · refine pG_pos (c := (M 188 2) ≤ x4) g1 ?_
        replace H := pRun (ls' := [.ref 188, .int p1, .int x2, .int x3, .int (kI 0), .int (kI 0), .int (kI 0)]) (st' := []) 6 rfl H
        obtain ⟨g0, _, H⟩ := pFall (mcb_130 rfl) H
        exact (ih _ (by omega)).2 _ _ _ _ _  _ H
      · refine pG_neg (c := (M 188 2) ≤ x4) g1 ?_
        replace H := pRun (ls' := [.ref 188, .int p1, .int x2, .int x3, .int x4, u5, u6]) (st' := [.ref 188]) 1 rfl H
        replace H := pGetR (r := 191) (pRf hS (by decide +kernel)) rfl H
        replace H := pRun (ls' := [.ref 188, .int p1, .int x2, .int x3, .int x4, u5, u6]) (st' := [.int x4, .ref 191]) 1 rfl H
        obtain ⟨g2, H⟩ := pIld (n := 24) (pLt (show pCa 191 24 = true by decide +kernel)) (pLn hS (show pCa 191 24 = true by decide +kernel)) H
        refine pG_gd g2 ?_
        replace H := pRun (ls' := [.ref 188, .int p1, .int x2, .int x3, .int x4, u5, u6]) (st' := [.int (kI 1), .int (M 191 (ix x4))]) 1 rfl H
        rcases pIfc (n1 := 7) rfl (mcb_130 rfl) (mcb_130 rfl) H with ⟨g3, g0, _, H⟩ | ⟨g3, g0, _, H⟩
        · refine pG_pos (c := ¬ (M 191 (ix x4)) = (kI 1)) g3 ?_
          replace H := pRun (ls' := [.ref 188, .int p1, .int x2, .int x3, .int (x4 + kI 1), u5, u6]) (st' := []) 1 rfl H
          obtain ⟨g0, _, H⟩ := pGo (n1 := 3) rfl (mcb_130 rfl) H
          exact (ih _ (by omega)).1 _ _ _ _ _  _ H
        · refine pG_neg (c := ¬ (M 191 (ix x4)) = (kI 1)) g3 ?_
          replace H := pRun (ls' := [.ref 188, .int p1, .int x2, .int x3, .int x4, u5, u6]) (st' := [.ref 188]) 1 rfl H
          replace H := pGetR (r := 189) (pRf hS (by decide +kernel)) rfl H
          replace H := pRun (ls' := [.ref 188, .int p1, .int x2, .int x3, .int x4, u5, u6]) (st' := [.int x4, .ref 189]) 1 rfl H
          obtain ⟨g4, H⟩ := pIld (n := 24) (pLt (show pCa 189 24 = true by decide +kernel)) (pLn hS (show pCa 189 24 = true by decide +kernel)) H
          refine pG_gd g4 ?_
          rcases pIf0 (n1 := 7) rfl (mcb_130 rfl) (mcb_130 rfl) H with ⟨g5, g0, _, H⟩ | ⟨g5, g0, _, H⟩
          · refine pG_pos (c := ¬ (M 189 (ix x4)) = 0) g5 ?_
            replace H := pRun (ls' := [.ref 188, .int p1, .int x2, .int x3, .int (x4 + kI 1), u5, u6]) (st' := []) 1 rfl H
            obtain ⟨g0, _, H⟩ := pGo (n1 := 3) rfl (mcb_130 rfl) H
            exact (ih _ (by omega)).1 _ _ _ _ _  _ H
          · refine pG_neg (c := ¬ (M 189 (ix x4)) = 0) g5 ?_
            replace H := pRun (ls' := [.ref 188, .int p1, .int x2, .int x3, .int x4, u5, u6]) (st' := [.ref 188, .int x3]) 2 rfl H
            replace H := pGetR (r := 193) (pRf hS (by decide +kernel)) rfl H
            replace H := pRun (ls' := [.ref 188, .int p1, .int x2, .int x3, .int x4, u5, u6]) (st' := [.int x4, .ref 193, .int x3]) 1 rfl H
            obtain ⟨g6, H⟩ := pIld (n := 24) (pLt (show pCa 193 24 = true by decide +kernel)) (pLn hS (show pCa 193 24 = true by decide +kernel)) H
            refine pG_gd g6 ?_
            replace H := pRun (ls' := [.ref 188, .int p1, .int x2, .int (x3 + (M 193 (ix x4))), .int x4, u5, u6]) (st' := []) 2 rfl H
            obtain ⟨g0, _, H⟩ := pFall (mcb_130 rfl) H
            replace H := pRun (ls' := [.ref 188, .int p1, .int x2, .int (x3 + (M 193 (ix x4))), .int (x4 + kI 1), u5, u6]) (st' := []) 1 rfl H
            obtain ⟨g0, _, H⟩ := pGo (n1 := 3) rfl (mcb_130 rfl) H
            exact (ih _ (by omega)).1 _ _ _ _ _  _ H
    · intro x2 x3 x4 x5 x6 M H
      refine pG_mono (fun v N h => hC.2 x2 x3 x4 x5 x6 M v N h) ?_
      unfold S_130_9
      replace H := pRun (ls' := [.ref 188, .int p1, .int x2, .int x3, .int x4, .int x5, .int x6]) (st' := [.int (kI 2380), .int x6]) 2 rfl H
      rcases pIfc (n1 := 13) rfl (mcb_130 rfl) (mcb_130 rfl) H with ⟨g1, g0, _, H⟩ | ⟨g1, g0, _, H⟩
      · refine pG_pos (c := (kI 2380) ≤ x6) g1 ?_
        replace H := pRun (ls' := [.ref 188, .int p1, .int x2, .int x3, .int x4, .int x5, .int x6]) (st' := [.int p1]) 1 rfl H
        rcases pIf0 (n1 := 15) rfl (mcb_130 rfl) (mcb_130 rfl) H with ⟨g2, g0, _, H⟩ | ⟨g2, g0, _, H⟩
        · refine pG_pos (c := ¬ p1 = 0) g2 ?_
          replace H := pRun (ls' := [.ref 188, .int p1, .int x2, .int x3, .int x4, .int x5, .int x6]) (st' := [.int (kI 1), .int p1]) 2 rfl H
          rcases pIfc (n1 := 17) rfl (mcb_130 rfl) (mcb_130 rfl) H with ⟨g3, g0, _, H⟩ | ⟨g3, g0, _, H⟩
          · refine pG_pos (c := ¬ p1 = (kI 1)) g3 ?_
            replace H := pLd2 (x := 1000) (by decide) H
            replace H := pRun (ls' := [.ref 188, .int p1, .int x2, .int x3, .int x4, .int x5, .int x6]) (st' := [.long (Int32.toInt64 x4), .long ((Int64.ofInt 1000) * (Int32.toInt64 x5))]) 5 rfl H
            obtain ⟨g4, H⟩ := pLdv H
            refine pG_gd g4 ?_
            replace H := pRun (ls' := [.ref 188, .int p1, .int x2, .int x3, .int x4, .int x5, .int x6]) (st' := [.int (Int64.toInt32 (((Int64.ofInt 1000) * (Int32.toInt64 x5)) / (Int32.toInt64 x4)))]) 1 rfl H
            obtain ⟨g0, _, H⟩ := pFall (mcb_130 rfl) H
            exact pG_ret (pRetI H)
          · refine pG_neg (c := ¬ p1 = (kI 1)) g3 ?_
            replace H := pRun (ls' := [.ref 188, .int p1, .int x2, .int x3, .int x4, .int x5, .int x6]) (st' := [.int x4]) 1 rfl H
            obtain ⟨g0, _, H⟩ := pGo (n1 := 18) rfl (mcb_130 rfl) H
            exact pG_ret (pRetI H)
        · refine pG_neg (c := ¬ p1 = 0) g2 ?_
          replace H := pRun (ls' := [.ref 188, .int p1, .int x2, .int x3, .int x4, .int x5, .int x6]) (st' := [.int x5]) 1 rfl H
          obtain ⟨g0, _, H⟩ := pGo (n1 := 18) rfl (mcb_130 rfl) H
          exact pG_ret (pRetI H)
      · refine pG_neg (c := (kI 2380) ≤ x6) g1 ?_
        replace H := pRun (ls' := [.ref 188, .int p1, .int x2, .int x3, .int x4, .int x5, .int x6]) (st' := [.ref 188, .int x4]) 2 rfl H
        replace H := pGetR (r := 228) (pRf hS (by decide +kernel)) rfl H
        replace H := pRun (ls' := [.ref 188, .int p1, .int x2, .int x3, .int x4, .int x5, .int x6]) (st' := [.int (((kI 2380) * x2) + x6), .ref 228, .int x4]) 5 rfl H
        obtain ⟨g2, H⟩ := pIld (n := 59500) (pLt (show pCa 228 59500 = true by decide +kernel)) (pLn hS (show pCa 228 59500 = true by decide +kernel)) H
        refine pG_gd g2 ?_
        replace H := pRun (ls' := [.ref 188, .int p1, .int x2, .int x3, .int (x4 + (M 228 (ix (((kI 2380) * x2) + x6)))), .int x5, .int x6]) (st' := [.int x3, .int x6]) 4 rfl H
        rcases pIfc (n1 := 12) rfl (mcb_130 rfl) (mcb_130 rfl) H with ⟨g3, g0, _, H⟩ | ⟨g3, g0, _, H⟩
        · refine pG_pos (c := x6 < x3) g3 ?_
          replace H := pRun (ls' := [.ref 188, .int p1, .int x2, .int x3, .int (x4 + (M 228 (ix (((kI 2380) * x2) + x6)))), .int x5, .int (x6 + kI 1)]) (st' := []) 1 rfl H
          obtain ⟨g0, _, H⟩ := pGo (n1 := 9) rfl (mcb_130 rfl) H
          exact (ih _ (by omega)).2 _ _ _ _ _  _ H
        · refine pG_neg (c := x6 < x3) g3 ?_
          replace H := pRun (ls' := [.ref 188, .int p1, .int x2, .int x3, .int (x4 + (M 228 (ix (((kI 2380) * x2) + x6)))), .int x5, .int x6]) (st' := [.ref 188, .int x5]) 2 rfl H
          replace H := pGetR (r := 228) (pRf hS (by decide +kernel)) rfl H
          replace H := pRun (ls' := [.ref 188, .int p1, .int x2, .int x3, .int (x4 + (M 228 (ix (((kI 2380) * x2) + x6)))), .int x5, .int x6]) (st' := [.int (((kI 2380) * x2) + x6), .ref 228, .int x5]) 5 rfl H
          obtain ⟨g4, H⟩ := pIld (n := 59500) (pLt (show pCa 228 59500 = true by decide +kernel)) (pLn hS (show pCa 228 59500 = true by decide +kernel)) H
          refine pG_gd g4 ?_
          replace H := pRun (ls' := [.ref 188, .int p1, .int x2, .int x3, .int (x4 + (M 228 (ix (((kI 2380) * x2) + x6)))), .int (x5 + (M 228 (ix (((kI 2380) * x2) + x6)))), .int x6]) (st' := []) 2 rfl H
          obtain ⟨g0, _, H⟩ := pFall (mcb_130 rfl) H
          replace H := pRun (ls' := [.ref 188, .int p1, .int x2, .int x3, .int (x4 + (M 228 (ix (((kI 2380) * x2) + x6)))), .int (x5 + (M 228 (ix (((kI 2380) * x2) + x6)))), .int (x6 + kI 1)]) (st' := []) 1 rfl H
          obtain ⟨g0, _, H⟩ := pGo (n1 := 9) rfl (mcb_130 rfl) H
          exact (ih _ (by omega)).2 _ _ _ _ _  _ H
theorem L_130_3_ok {X : aX} {F d : Nat} {K : Nat → aK} (hS : pS K) {p1 : Int32} {out : Option Value × aH} {f : Nat} {x2 : Int32} {x3 : Int32} {x4 : Int32} {u5 : Value} {u6 : Value} {M : pMem} (H : pm X F d 130 f 3 [.iload 4, .aload 0, .getfield 124412008, .if_icmp .ge 8] [.ref 188, .int p1, .int x2, .int x3, .int x4, u5, u6] [] (pH K M) out) : pG eI K out (L_130_3 p1 x2 x3 x4 M) := by
  refine pG_all (C := fun P : (Int32 → Int32 → Int32 → pMem → pT Int32) × (Int32 → Int32 → Int32 → Int32 → Int32 → pMem → pT Int32) => C_130 p1 P.1 P.2) (T := fun P => P.1 x2 x3 x4 M) eI_inj ((fun _ _ _ _ _ _ => True), (fun _ _ _ _ _ _ _ _ => True)) ?_ (fun P hP => (K_130 hS P.1 P.2 hP f).1 _ _ _ _ _ _ H)
  exact ⟨(fun _ _ _ _ _ _ _ => trivial), (fun _ _ _ _ _ _ _ _ _ => trivial)⟩
theorem L_130_9_ok {X : aX} {F d : Nat} {K : Nat → aK} (hS : pS K) {p1 : Int32} {out : Option Value × aH} {f : Nat} {x2 : Int32} {x3 : Int32} {x4 : Int32} {x5 : Int32} {x6 : Int32} {M : pMem} (H : pm X F d 130 f 9 [.iload 6, .bipush 2380, .if_icmp .ge 13] [.ref 188, .int p1, .int x2, .int x3, .int x4, .int x5, .int x6] [] (pH K M) out) : pG eI K out (L_130_9 p1 x2 x3 x4 x5 x6 M) := by
  refine pG_all (C := fun P : (Int32 → Int32 → Int32 → pMem → pT Int32) × (Int32 → Int32 → Int32 → Int32 → Int32 → pMem → pT Int32) => C_130 p1 P.1 P.2) (T := fun P => P.2 x2 x3 x4 x5 x6 M) eI_inj ((fun _ _ _ _ _ _ => True), (fun _ _ _ _ _ _ _ _ => True)) ?_ (fun P hP => (K_130 hS P.1 P.2 hP f).2 _ _ _ _ _ _ H)
  exact ⟨(fun _ _ _ _ _ _ _ => trivial), (fun _ _ _ _ _ _ _ _ _ => trivial)⟩
theorem D_130_ok {X : aX} {F d : Nat} {K : Nat → aK} (hS : pS K) {p1 : Int32} {M : pMem} {out : Option Value × aH} (H : aM X F d 130 [.ref 188, .int p1] (pH K M) = some out) : pG eI K out (D_130 p1 M) := by
  obtain ⟨d', g0, _, H⟩ := pEnt (n := 7) (ls := [.ref 188, .int p1, aD, aD, aD, aD, aD]) (mcb_130 rfl) (by decide +kernel) rfl H
  unfold D_130
  replace H := pRun (ls' := [.ref 188, .int p1, aD, aD, aD, aD, aD]) (st' := [.int (kI 0), .ref 188]) 2 rfl H
  obtain ⟨M1, eM1, H⟩ := pPutN (j := 0) rfl H
  refine pG_put (M2 := M1) eM1 ?_
  replace H := pRun (ls' := [.ref 188, .int p1, aD, aD, aD, aD, aD]) (st' := [.int (kI 2), .int (kI 0), .int p1, .ref 188]) 4 rfl H
  obtain ⟨rv, h1, hc, H⟩ := pCalV 42 3 188 (as := [.int p1, .int (kI 0), .int (kI 2)]) (rest := []) rfl (by decide) (by decide +kernel) rfl rfl H
  replace H := pUseF (f_42_ok hS hc) H
  rcases pIf0 (n1 := 2) rfl (mcb_130 rfl) (mcb_130 rfl) H with ⟨g1, g0, _, H⟩ | ⟨g1, g0, _, H⟩
  · refine pG_pos (c := ¬ (f_42 p1 (kI 0) (kI 2)) = 0) g1 ?_
    replace H := pRun (ls' := [.ref 188, .int p1, aD, aD, aD, aD, aD]) (st' := [.ref 188]) 1 rfl H
    obtain ⟨rv, h1, hc, H⟩ := pCalV 129 0 188 (as := []) (rest := []) rfl (by decide) (by decide +kernel) rfl rfl H
    obtain ⟨v1, M2, hD, H⟩ := pUseU (D_129_ok hS hc) H
    refine pG_call (x := v1) (M1 := M2) hD ?_
    replace H := pRun (ls' := [.ref 188, .int p1, aD, aD, aD, aD, aD]) (st' := [.int (kI 0), .ref 188]) 2 rfl H
    obtain ⟨rv, h1, hc, H⟩ := pCalV 53 1 188 (as := [.int (kI 0)]) (rest := []) rfl (by decide) (by decide +kernel) rfl rfl H
    obtain ⟨v2, M3, hD, H⟩ := pUseI (D_53_ok hS hc) H
    refine pG_call (x := v2) (M1 := M3) hD ?_
    replace H := pRun (ls' := [.ref 188, .int p1, .int v2, .int (kI 0), .int (kI 0), aD, aD]) (st' := []) 5 rfl H
    obtain ⟨g0, _, H⟩ := pFall (mcb_130 rfl) H
    exact L_130_3_ok hS  H
  · refine pG_neg (c := ¬ (f_42 p1 (kI 0) (kI 2)) = 0) g1 ?_
    replace H := pRun (ls' := [.ref 188, .int p1, aD, aD, aD, aD, aD]) (st' := [.int (kI (-1))]) 1 rfl H
    exact pG_ret (pRetI H)
def l_130 : List (Nat × Nat) := [(228, 999)]
theorem FC_130 {p1 : Int32} : C_130 p1 (fun _ _ _ M _ N => pFr (l_130) M N) (fun _ _ _ _ _ M _ N => pFr (l_130) M N) := ⟨fun x2 x3 x4 M => show pTf (l_130) M (S_130_3 p1 _ _ x2 x3 x4 M) from (tf_if (tf_jump pFr_refl) (tf_gd fun g2 => (tf_if (tf_jump pFr_refl) (tf_gd fun g4 => (tf_if (tf_jump pFr_refl) (tf_gd fun g6 => (tf_jump pFr_refl))))))), fun x2 x3 x4 x5 x6 M => show pTf (l_130) M (S_130_9 p1 _ _ x2 x3 x4 x5 x6 M) from (tf_if (tf_if (tf_if (tf_gd fun g4 => (tf_ret pFr_refl)) (tf_ret pFr_refl)) (tf_ret pFr_refl)) (tf_gd fun g2 => (tf_if (tf_jump pFr_refl) (tf_gd fun g4 => (tf_jump pFr_refl)))))⟩
theorem F_130 {p1 : Int32} {M : pMem} {v : Int32} {N : pMem} (h : D_130 p1 M v N) : pFr (l_130) M N :=
  (show pTf (l_130) M (D_130 p1 M) from (tf_putS1 pFr_refl rfl fun M1 f1 => (tf_if (tf_call f1 (fun _ _ h => F_129 h) [0] rfl fun _ M2 f2 => (tf_call f2 (fun _ _ h => F_53 h) [] rfl fun _ M3 f3 => (tf_jumpL (fun _ _ _ M _ N => pFr (l_130) M N, fun _ _ _ _ _ M _ N => pFr (l_130) M N) (FC_130) rfl f3))) (tf_ret f1)))) v N h
/-- TwoCampsModel.woods(II)I -/
def S_131_4 (p1 : Int32) (p2 : Int32) (P4 : Int32 → pMem → pT Int32) (P6 : Int32 → Int64 → Int64 → Int32 → pMem → pT Int32) (x3 : Int32) (M : pMem) : pT Int32 := tIf ((kI 60) < x3) (tRet (kI (-1)) M) (P6 x3 (Int64.ofNat 0) (Int64.ofNat 1) (kI 0) M)
def S_131_6 (p1 : Int32) (p2 : Int32) (P4 : Int32 → pMem → pT Int32) (P6 : Int32 → Int64 → Int64 → Int32 → pMem → pT Int32) (x3 : Int32) (x4 : Int64) (x6 : Int64) (x8 : Int32) (M : pMem) : pT Int32 := tIf (p1 < x8) (tGd (¬ (Int32.toInt64 p2) = 0) <| tIf (0 < (lg_cmp x4 ((((Int64.ofNat 1) <<< (Int32.toInt64 x3 &&& 63)) - (Int64.ofNat 1)) / (Int32.toInt64 p2)))) (P4 (x3 + kI 1) M) (tRet x3 M)) (tGd (¬ (Int32.toInt64 (x8 + (kI 1))) = 0) <| P6 x3 (x4 + x6) ((x6 * (Int32.toInt64 (x3 - x8))) / (Int32.toInt64 (x8 + (kI 1)))) (x8 + kI 1) M)
def C_131 (p1 : Int32) (p2 : Int32) (P4 : Int32 → pMem → pT Int32) (P6 : Int32 → Int64 → Int64 → Int32 → pMem → pT Int32) : Prop := (∀ (x3 : Int32) M v N, S_131_4 p1 p2 P4 P6 x3 M v N → P4 x3 M v N) ∧ (∀ (x3 : Int32) (x4 : Int64) (x6 : Int64) (x8 : Int32) M v N, S_131_6 p1 p2 P4 P6 x3 x4 x6 x8 M v N → P6 x3 x4 x6 x8 M v N)
def L_131_4 (p1 : Int32) (p2 : Int32) (x3 : Int32) (M : pMem) : pT Int32 := fun v N => ∀ P : (Int32 → pMem → pT Int32) × (Int32 → Int64 → Int64 → Int32 → pMem → pT Int32), C_131 p1 p2 P.1 P.2 → P.1 x3 M v N
def L_131_6 (p1 : Int32) (p2 : Int32) (x3 : Int32) (x4 : Int64) (x6 : Int64) (x8 : Int32) (M : pMem) : pT Int32 := fun v N => ∀ P : (Int32 → pMem → pT Int32) × (Int32 → Int64 → Int64 → Int32 → pMem → pT Int32), C_131 p1 p2 P.1 P.2 → P.2 x3 x4 x6 x8 M v N
def D_131 (p1 : Int32) (p2 : Int32) (M : pMem) : pT Int32 := tPut (aPut M 188 0 (kI 0)) fun M1 => tIf ((f_42 p1 (kI 0) (kI 9)) = 0) (tRet (kI (-1)) M1) (tIf (¬ (f_42 p2 (kI 2) (kI 100000)) = 0) (L_131_4 p1 p2 (kI 1) M1) (tRet (kI (-1)) M1))
theorem K_131 {X : aX} {F d : Nat} {K : Nat → aK} (hS : pS K) {p1 : Int32} {p2 : Int32} {out : Option Value × aH} (P4 : Int32 → pMem → pT Int32) (P6 : Int32 → Int64 → Int64 → Int32 → pMem → pT Int32) (hC : C_131 p1 p2 P4 P6) : ∀ f, (∀ (x3 : Int32) (u4 : Value) (u5 : Value) (u6 : Value) (u7 : Value) (u8 : Value) M, pm X F d 131 f 4 [.iload 3, .bipush 60, .if_icmp .gt 11] [.ref 188, .int p1, .int p2, .int x3, u4, u5, u6, u7, u8] [] (pH K M) out → pG eI K out (P4 x3 M)) ∧ (∀ (x3 : Int32) (x4 : Int64) (x6 : Int64) (x8 : Int32) M, pm X F d 131 f 6 [.iload 8, .iload 1, .if_icmp .gt 8] [.ref 188, .int p1, .int p2, .int x3, .long x4, aD, .long x6, aD, .int x8] [] (pH K M) out → pG eI K out (P6 x3 x4 x6 x8 M)) := by
  intro f
  induction f using Nat.strongRecOn with
  | _ f ih =>
    refine ⟨?_, ?_⟩
    · intro x3 u4 u5 u6 u7 u8 M H
      refine pG_mono (fun v N h => hC.1 x3 M v N h) ?_
      unfold S_131_4
      replace H := pRun (ls' := [.ref 188, .int p1, .int p2, .int x3, u4, u5, u6, u7, u8]) (st' := [.int (kI 60), .int x3]) 2 rfl H
      rcases pIfc (n1 := 11) rfl (mcb_131 rfl) (mcb_131 rfl) H with ⟨g1, g0, _, H⟩ | ⟨g1, g0, _, H⟩
      · refine pG_pos (c := (kI 60) < x3) g1 ?_
        replace H := pRun (ls' := [.ref 188, .int p1, .int p2, .int x3, u4, u5, u6, u7, u8]) (st' := [.int (kI (-1))]) 1 rfl H
        exact pG_ret (pRetI H)
      · refine pG_neg (c := (kI 60) < x3) g1 ?_
        replace H := pRun (ls' := [.ref 188, .int p1, .int p2, .int x3, .long (Int64.ofNat 0), aD, .long (Int64.ofNat 1), aD, .int (kI 0)]) (st' := []) 6 rfl H
        obtain ⟨g0, _, H⟩ := pFall (mcb_131 rfl) H
        exact (ih _ (by omega)).2 _ _ _ _  _ H
    · intro x3 x4 x6 x8 M H
      refine pG_mono (fun v N h => hC.2 x3 x4 x6 x8 M v N h) ?_
      unfold S_131_6
      replace H := pRun (ls' := [.ref 188, .int p1, .int p2, .int x3, .long x4, aD, .long x6, aD, .int x8]) (st' := [.int p1, .int x8]) 2 rfl H
      rcases pIfc (n1 := 8) rfl (mcb_131 rfl) (mcb_131 rfl) H with ⟨g1, g0, _, H⟩ | ⟨g1, g0, _, H⟩
      · refine pG_pos (c := p1 < x8) g1 ?_
        replace H := pRun (ls' := [.ref 188, .int p1, .int p2, .int x3, .long x4, aD, .long x6, aD, .int x8]) (st' := [.long (Int32.toInt64 p2), .long (((Int64.ofNat 1) <<< (Int32.toInt64 x3 &&& 63)) - (Int64.ofNat 1)), .long x4]) 8 rfl H
        obtain ⟨g2, H⟩ := pLdv H
        refine pG_gd g2 ?_
        replace H := pRun (ls' := [.ref 188, .int p1, .int p2, .int x3, .long x4, aD, .long x6, aD, .int x8]) (st' := [.int (lg_cmp x4 ((((Int64.ofNat 1) <<< (Int32.toInt64 x3 &&& 63)) - (Int64.ofNat 1)) / (Int32.toInt64 p2)))]) 1 rfl H
        rcases pIf0 (n1 := 10) rfl (mcb_131 rfl) (mcb_131 rfl) H with ⟨g3, g0, _, H⟩ | ⟨g3, g0, _, H⟩
        · refine pG_pos (c := 0 < (lg_cmp x4 ((((Int64.ofNat 1) <<< (Int32.toInt64 x3 &&& 63)) - (Int64.ofNat 1)) / (Int32.toInt64 p2)))) g3 ?_
          replace H := pRun (ls' := [.ref 188, .int p1, .int p2, .int (x3 + kI 1), .long x4, aD, .long x6, aD, .int x8]) (st' := []) 1 rfl H
          obtain ⟨g0, _, H⟩ := pGo (n1 := 4) rfl (mcb_131 rfl) H
          exact (ih _ (by omega)).1 _ _ _ _ _ _  _ H
        · refine pG_neg (c := 0 < (lg_cmp x4 ((((Int64.ofNat 1) <<< (Int32.toInt64 x3 &&& 63)) - (Int64.ofNat 1)) / (Int32.toInt64 p2)))) g3 ?_
          replace H := pRun (ls' := [.ref 188, .int p1, .int p2, .int x3, .long x4, aD, .long x6, aD, .int x8]) (st' := [.int x3]) 1 rfl H
          exact pG_ret (pRetI H)
      · refine pG_neg (c := p1 < x8) g1 ?_
        replace H := pRun (ls' := [.ref 188, .int p1, .int p2, .int x3, .long (x4 + x6), aD, .long x6, aD, .int x8]) (st' := [.long (Int32.toInt64 (x8 + (kI 1))), .long (x6 * (Int32.toInt64 (x3 - x8)))]) 14 rfl H
        obtain ⟨g2, H⟩ := pLdv H
        refine pG_gd g2 ?_
        replace H := pRun (ls' := [.ref 188, .int p1, .int p2, .int x3, .long (x4 + x6), aD, .long ((x6 * (Int32.toInt64 (x3 - x8))) / (Int32.toInt64 (x8 + (kI 1)))), aD, .int (x8 + kI 1)]) (st' := []) 2 rfl H
        obtain ⟨g0, _, H⟩ := pGo (n1 := 6) rfl (mcb_131 rfl) H
        exact (ih _ (by omega)).2 _ _ _ _  _ H
theorem L_131_4_ok {X : aX} {F d : Nat} {K : Nat → aK} (hS : pS K) {p1 : Int32} {p2 : Int32} {out : Option Value × aH} {f : Nat} {x3 : Int32} {u4 : Value} {u5 : Value} {u6 : Value} {u7 : Value} {u8 : Value} {M : pMem} (H : pm X F d 131 f 4 [.iload 3, .bipush 60, .if_icmp .gt 11] [.ref 188, .int p1, .int p2, .int x3, u4, u5, u6, u7, u8] [] (pH K M) out) : pG eI K out (L_131_4 p1 p2 x3 M) := by
  refine pG_all (C := fun P : (Int32 → pMem → pT Int32) × (Int32 → Int64 → Int64 → Int32 → pMem → pT Int32) => C_131 p1 p2 P.1 P.2) (T := fun P => P.1 x3 M) eI_inj ((fun _ _ _ _ => True), (fun _ _ _ _ _ _ _ => True)) ?_ (fun P hP => (K_131 hS P.1 P.2 hP f).1 _ _ _ _ _ _ _ H)
  exact ⟨(fun _ _ _ _ _ => trivial), (fun _ _ _ _ _ _ _ _ => trivial)⟩
theorem L_131_6_ok {X : aX} {F d : Nat} {K : Nat → aK} (hS : pS K) {p1 : Int32} {p2 : Int32} {out : Option Value × aH} {f : Nat} {x3 : Int32} {x4 : Int64} {x6 : Int64} {x8 : Int32} {M : pMem} (H : pm X F d 131 f 6 [.iload 8, .iload 1, .if_icmp .gt 8] [.ref 188, .int p1, .int p2, .int x3, .long x4, aD, .long x6, aD, .int x8] [] (pH K M) out) : pG eI K out (L_131_6 p1 p2 x3 x4 x6 x8 M) := by
  refine pG_all (C := fun P : (Int32 → pMem → pT Int32) × (Int32 → Int64 → Int64 → Int32 → pMem → pT Int32) => C_131 p1 p2 P.1 P.2) (T := fun P => P.2 x3 x4 x6 x8 M) eI_inj ((fun _ _ _ _ => True), (fun _ _ _ _ _ _ _ => True)) ?_ (fun P hP => (K_131 hS P.1 P.2 hP f).2 _ _ _ _ _ H)
  exact ⟨(fun _ _ _ _ _ => trivial), (fun _ _ _ _ _ _ _ _ => trivial)⟩
theorem D_131_ok {X : aX} {F d : Nat} {K : Nat → aK} (hS : pS K) {p1 : Int32} {p2 : Int32} {M : pMem} {out : Option Value × aH} (H : aM X F d 131 [.ref 188, .int p1, .int p2] (pH K M) = some out) : pG eI K out (D_131 p1 p2 M) := by
  obtain ⟨d', g0, _, H⟩ := pEnt (n := 9) (ls := [.ref 188, .int p1, .int p2, aD, aD, aD, aD, aD, aD]) (mcb_131 rfl) (by decide +kernel) rfl H
  unfold D_131
  replace H := pRun (ls' := [.ref 188, .int p1, .int p2, aD, aD, aD, aD, aD, aD]) (st' := [.int (kI 0), .ref 188]) 2 rfl H
  obtain ⟨M1, eM1, H⟩ := pPutN (j := 0) rfl H
  refine pG_put (M2 := M1) eM1 ?_
  replace H := pRun (ls' := [.ref 188, .int p1, .int p2, aD, aD, aD, aD, aD, aD]) (st' := [.int (kI 9), .int (kI 0), .int p1, .ref 188]) 4 rfl H
  obtain ⟨rv, h1, hc, H⟩ := pCalV 42 3 188 (as := [.int p1, .int (kI 0), .int (kI 9)]) (rest := []) rfl (by decide) (by decide +kernel) rfl rfl H
  replace H := pUseF (f_42_ok hS hc) H
  rcases pIf0 (n1 := 2) rfl (mcb_131 rfl) (mcb_131 rfl) H with ⟨g1, g0, _, H⟩ | ⟨g1, g0, _, H⟩
  · refine pG_pos (c := (f_42 p1 (kI 0) (kI 9)) = 0) g1 ?_
    replace H := pRun (ls' := [.ref 188, .int p1, .int p2, aD, aD, aD, aD, aD, aD]) (st' := [.int (kI (-1))]) 1 rfl H
    exact pG_ret (pRetI H)
  · refine pG_neg (c := (f_42 p1 (kI 0) (kI 9)) = 0) g1 ?_
    replace H := pRun (ls' := [.ref 188, .int p1, .int p2, aD, aD, aD, aD, aD, aD]) (st' := [.int (kI 2), .int p2, .ref 188]) 3 rfl H
    replace H := pLdc (x := 100000) (by decide) H
    obtain ⟨rv, h1, hc, H⟩ := pCalV 42 3 188 (as := [.int p2, .int (kI 2), .int (kI 100000)]) (rest := []) rfl (by decide) (by decide +kernel) rfl rfl H
    replace H := pUseF (f_42_ok hS hc) H
    rcases pIf0 (n1 := 3) rfl (mcb_131 rfl) (mcb_131 rfl) H with ⟨g2, g0, _, H⟩ | ⟨g2, g0, _, H⟩
    · refine pG_pos (c := ¬ (f_42 p2 (kI 2) (kI 100000)) = 0) g2 ?_
      replace H := pRun (ls' := [.ref 188, .int p1, .int p2, .int (kI 1), aD, aD, aD, aD, aD]) (st' := []) 2 rfl H
      obtain ⟨g0, _, H⟩ := pFall (mcb_131 rfl) H
      exact L_131_4_ok hS  H
    · refine pG_neg (c := ¬ (f_42 p2 (kI 2) (kI 100000)) = 0) g2 ?_
      replace H := pRun (ls' := [.ref 188, .int p1, .int p2, aD, aD, aD, aD, aD, aD]) (st' := [.int (kI (-1))]) 1 rfl H
      exact pG_ret (pRetI H)
def l_131 : List (Nat × Nat) := []
theorem FC_131 {p1 : Int32} {p2 : Int32} : C_131 p1 p2 (fun _ M _ N => pFr (l_131) M N) (fun _ _ _ _ M _ N => pFr (l_131) M N) := ⟨fun x3 M => show pTf (l_131) M (S_131_4 p1 p2 _ _ x3 M) from (tf_if (tf_ret pFr_refl) (tf_jump pFr_refl)), fun x3 x4 x6 x8 M => show pTf (l_131) M (S_131_6 p1 p2 _ _ x3 x4 x6 x8 M) from (tf_if (tf_gd fun g2 => (tf_if (tf_jump pFr_refl) (tf_ret pFr_refl))) (tf_gd fun g2 => (tf_jump pFr_refl)))⟩
theorem F_131 {p1 : Int32} {p2 : Int32} {M : pMem} {v : Int32} {N : pMem} (h : D_131 p1 p2 M v N) : pFr (l_131) M N :=
  (show pTf (l_131) M (D_131 p1 p2 M) from (tf_putS1 pFr_refl rfl fun M1 f1 => (tf_if (tf_ret f1) (tf_if (tf_jumpL (fun _ M _ N => pFr (l_131) M N, fun _ _ _ _ M _ N => pFr (l_131) M N) (FC_131) rfl f1) (tf_ret f1))))) v N h
/-- TwoCampsModel.imaged(I)I -/
def D_132 (p1 : Int32) (M : pMem) : pT Int32 := tPut (aPut M 188 79 ((M 188 79) + (kI 1))) fun M1 => tIf (¬ (M1 188 69) = 0) (tGd (pIn ((M1 188 79) - (kI 1)) 8600) <| tPut (aPut M1 229 (ix ((M1 188 79) - (kI 1))) p1) fun M2 => tRet p1 M2) (tGd (pIn ((M1 188 79) - (kI 1)) 8600) <| tRet (M1 229 (ix ((M1 188 79) - (kI 1)))) M1)
theorem D_132_ok {X : aX} {F d : Nat} {K : Nat → aK} (hS : pS K) {p1 : Int32} {M : pMem} {out : Option Value × aH} (H : aM X F d 132 [.ref 188, .int p1] (pH K M) = some out) : pG eI K out (D_132 p1 M) := by
  obtain ⟨d', g0, _, H⟩ := pEnt (n := 2) (ls := [.ref 188, .int p1]) (mcb_132 rfl) (by decide +kernel) rfl H
  unfold D_132
  replace H := pRun (ls' := [.ref 188, .int p1]) (st' := [.ref 188, .ref 188]) 2 rfl H
  replace H := pGetN (v := M 188 79) rfl (by decide) H
  replace H := pRun (ls' := [.ref 188, .int p1]) (st' := [.int ((M 188 79) + (kI 1)), .ref 188]) 2 rfl H
  obtain ⟨M1, eM1, H⟩ := pPutN (j := 79) rfl H
  refine pG_put (M2 := M1) eM1 ?_
  replace H := pRun (ls' := [.ref 188, .int p1]) (st' := [.ref 188]) 1 rfl H
  replace H := pGetN (v := M1 188 69) rfl (by decide) H
  rcases pIf0 (n1 := 2) rfl (mcb_132 rfl) (mcb_132 rfl) H with ⟨g1, g0, _, H⟩ | ⟨g1, g0, _, H⟩
  · refine pG_pos (c := ¬ (M1 188 69) = 0) g1 ?_
    replace H := pRun (ls' := [.ref 188, .int p1]) (st' := [.ref 188]) 1 rfl H
    replace H := pGetR (r := 229) (pRf hS (by decide +kernel)) rfl H
    replace H := pRun (ls' := [.ref 188, .int p1]) (st' := [.ref 188, .ref 229]) 1 rfl H
    replace H := pGetN (v := M1 188 79) rfl (by decide) H
    replace H := pRun (ls' := [.ref 188, .int p1]) (st' := [.int p1, .int ((M1 188 79) - (kI 1)), .ref 229]) 3 rfl H
    obtain ⟨g2, M2, eM2, H⟩ := pIst (n := 8600) (pLn hS (show pCa 229 8600 = true by decide +kernel)) H
    refine pG_gd g2 (pG_put (M2 := M2) eM2 ?_)
    replace H := pRun (ls' := [.ref 188, .int p1]) (st' := [.int p1]) 1 rfl H
    exact pG_ret (pRetI H)
  · refine pG_neg (c := ¬ (M1 188 69) = 0) g1 ?_
    replace H := pRun (ls' := [.ref 188, .int p1]) (st' := [.ref 188]) 1 rfl H
    replace H := pGetR (r := 229) (pRf hS (by decide +kernel)) rfl H
    replace H := pRun (ls' := [.ref 188, .int p1]) (st' := [.ref 188, .ref 229]) 1 rfl H
    replace H := pGetN (v := M1 188 79) rfl (by decide) H
    replace H := pRun (ls' := [.ref 188, .int p1]) (st' := [.int ((M1 188 79) - (kI 1)), .ref 229]) 2 rfl H
    obtain ⟨g2, H⟩ := pIld (n := 8600) (pLt (show pCa 229 8600 = true by decide +kernel)) (pLn hS (show pCa 229 8600 = true by decide +kernel)) H
    refine pG_gd g2 ?_
    exact pG_ret (pRetI H)
def l_132 : List (Nat × Nat) := [(188, 79), (229, 999)]
theorem F_132 {p1 : Int32} {M : pMem} {v : Int32} {N : pMem} (h : D_132 p1 M v N) : pFr (l_132) M N :=
  (show pTf (l_132) M (D_132 p1 M) from (tf_put pFr_refl 0 rfl fun M1 f1 => (tf_if (tf_gd fun g2 => (tf_putA f1 1 rfl fun M2 f2 => (tf_ret f2))) (tf_gd fun g2 => (tf_ret f1))))) v N h
/-- TwoCampsModel.imagesTexts()V -/
def S_133_1 (P1 : Int32 → pMem → pT Unit) (P4 : Int32 → pMem → pT Unit) (P7 : Int32 → pMem → pT Unit) (P10 : Int32 → pMem → pT Unit) (x1 : Int32) (M : pMem) : pT Unit := tIf ((kI 4) ≤ x1) (P4 (kI 0) M) (tGd (pIn x1 5) <| tCall (D_132 (M 204 (ix x1)) M) fun v1 M1 => tGd (pIn x1 5) <| tPut (aPut M1 204 (ix x1) v1) fun M2 => tGd (pIn x1 5) <| tCall (D_132 (M2 209 (ix x1)) M2) fun v2 M3 => tGd (pIn x1 5) <| tPut (aPut M3 209 (ix x1) v2) fun M4 => tGd (pIn x1 5) <| tCall (D_132 (M4 213 (ix x1)) M4) fun v3 M5 => tGd (pIn x1 5) <| tPut (aPut M5 213 (ix x1) v3) fun M6 => P1 (x1 + kI 1) M6)
def S_133_4 (P1 : Int32 → pMem → pT Unit) (P4 : Int32 → pMem → pT Unit) (P7 : Int32 → pMem → pT Unit) (P10 : Int32 → pMem → pT Unit) (x1 : Int32) (M : pMem) : pT Unit := tIf ((kI 64) ≤ x1) (P7 (kI 0) M) (tGd (pIn x1 80) <| tCall (D_132 (M 205 (ix x1)) M) fun v1 M1 => tGd (pIn x1 80) <| tPut (aPut M1 205 (ix x1) v1) fun M2 => tGd (pIn x1 80) <| tCall (D_132 (M2 206 (ix x1)) M2) fun v2 M3 => tGd (pIn x1 80) <| tPut (aPut M3 206 (ix x1) v2) fun M4 => tGd (pIn x1 80) <| tCall (D_132 (M4 207 (ix x1)) M4) fun v3 M5 => tGd (pIn x1 80) <| tPut (aPut M5 207 (ix x1) v3) fun M6 => tGd (pIn x1 80) <| tCall (D_132 (M6 208 (ix x1)) M6) fun v4 M7 => tGd (pIn x1 80) <| tPut (aPut M7 208 (ix x1) v4) fun M8 => P4 (x1 + kI 1) M8)
def S_133_7 (P1 : Int32 → pMem → pT Unit) (P4 : Int32 → pMem → pT Unit) (P7 : Int32 → pMem → pT Unit) (P10 : Int32 → pMem → pT Unit) (x1 : Int32) (M : pMem) : pT Unit := tIf ((kI 2000) ≤ x1) (P10 (kI 0) M) (tGd (pIn x1 2500) <| tCall (D_132 (M 210 (ix x1)) M) fun v1 M1 => tGd (pIn x1 2500) <| tPut (aPut M1 210 (ix x1) v1) fun M2 => tGd (pIn x1 2500) <| tCall (D_132 (M2 211 (ix x1)) M2) fun v2 M3 => tGd (pIn x1 2500) <| tPut (aPut M3 211 (ix x1) v2) fun M4 => P7 (x1 + kI 1) M4)
def S_133_10 (P1 : Int32 → pMem → pT Unit) (P4 : Int32 → pMem → pT Unit) (P7 : Int32 → pMem → pT Unit) (P10 : Int32 → pMem → pT Unit) (x1 : Int32) (M : pMem) : pT Unit := tIf ((kI 96) ≤ x1) (tRet () M) (tGd (pIn x1 120) <| tCall (D_132 (M 214 (ix x1)) M) fun v1 M1 => tGd (pIn x1 120) <| tPut (aPut M1 214 (ix x1) v1) fun M2 => tGd (pIn x1 120) <| tCall (D_132 (M2 215 (ix x1)) M2) fun v2 M3 => tGd (pIn x1 120) <| tPut (aPut M3 215 (ix x1) v2) fun M4 => P10 (x1 + kI 1) M4)
def C_133 (P1 : Int32 → pMem → pT Unit) (P4 : Int32 → pMem → pT Unit) (P7 : Int32 → pMem → pT Unit) (P10 : Int32 → pMem → pT Unit) : Prop := (∀ (x1 : Int32) M v N, S_133_1 P1 P4 P7 P10 x1 M v N → P1 x1 M v N) ∧ (∀ (x1 : Int32) M v N, S_133_4 P1 P4 P7 P10 x1 M v N → P4 x1 M v N) ∧ (∀ (x1 : Int32) M v N, S_133_7 P1 P4 P7 P10 x1 M v N → P7 x1 M v N) ∧ (∀ (x1 : Int32) M v N, S_133_10 P1 P4 P7 P10 x1 M v N → P10 x1 M v N)
def L_133_1 (x1 : Int32) (M : pMem) : pT Unit := fun v N => ∀ P : (Int32 → pMem → pT Unit) × (Int32 → pMem → pT Unit) × (Int32 → pMem → pT Unit) × (Int32 → pMem → pT Unit), C_133 P.1 P.2.1 P.2.2.1 P.2.2.2 → P.1 x1 M v N
def L_133_4 (x1 : Int32) (M : pMem) : pT Unit := fun v N => ∀ P : (Int32 → pMem → pT Unit) × (Int32 → pMem → pT Unit) × (Int32 → pMem → pT Unit) × (Int32 → pMem → pT Unit), C_133 P.1 P.2.1 P.2.2.1 P.2.2.2 → P.2.1 x1 M v N
def L_133_7 (x1 : Int32) (M : pMem) : pT Unit := fun v N => ∀ P : (Int32 → pMem → pT Unit) × (Int32 → pMem → pT Unit) × (Int32 → pMem → pT Unit) × (Int32 → pMem → pT Unit), C_133 P.1 P.2.1 P.2.2.1 P.2.2.2 → P.2.2.1 x1 M v N
def L_133_10 (x1 : Int32) (M : pMem) : pT Unit := fun v N => ∀ P : (Int32 → pMem → pT Unit) × (Int32 → pMem → pT Unit) × (Int32 → pMem → pT Unit) × (Int32 → pMem → pT Unit), C_133 P.1 P.2.1 P.2.2.1 P.2.2.2 → P.2.2.2 x1 M v N
def D_133 (M : pMem) : pT Unit := L_133_1 (kI 0) M
theorem K_133 {X : aX} {F d : Nat} {K : Nat → aK} (hS : pS K) {out : Option Value × aH} (P1 : Int32 → pMem → pT Unit) (P4 : Int32 → pMem → pT Unit) (P7 : Int32 → pMem → pT Unit) (P10 : Int32 → pMem → pT Unit) (hC : C_133 P1 P4 P7 P10) : ∀ f, (∀ (x1 : Int32) M, pm X F d 133 f 1 [.iload 1, .bipush 4, .if_icmp .ge 3] [.ref 188, .int x1] [] (pH K M) out → pG eU K out (P1 x1 M)) ∧ (∀ (x1 : Int32) M, pm X F d 133 f 4 [.iload 1, .bipush 64, .if_icmp .ge 6] [.ref 188, .int x1] [] (pH K M) out → pG eU K out (P4 x1 M)) ∧ (∀ (x1 : Int32) M, pm X F d 133 f 7 [.iload 1, .bipush 2000, .if_icmp .ge 9] [.ref 188, .int x1] [] (pH K M) out → pG eU K out (P7 x1 M)) ∧ (∀ (x1 : Int32) M, pm X F d 133 f 10 [.iload 1, .bipush 96, .if_icmp .ge 12] [.ref 188, .int x1] [] (pH K M) out → pG eU K out (P10 x1 M)) := by
  intro f
  induction f using Nat.strongRecOn with
  | _ f ih =>
    refine ⟨?_, ?_, ?_, ?_⟩
    · intro x1 M H
      refine pG_mono (fun v N h => hC.1 x1 M v N h) ?_
      unfold S_133_1
      replace H := pRun (ls' := [.ref 188, .int x1]) (st' := [.int (kI 4), .int x1]) 2 rfl H
      rcases pIfc (n1 := 3) rfl (mcb_133 rfl) (mcb_133 rfl) H with ⟨g1, g0, _, H⟩ | ⟨g1, g0, _, H⟩
      · refine pG_pos (c := (kI 4) ≤ x1) g1 ?_
        replace H := pRun (ls' := [.ref 188, .int (kI 0)]) (st' := []) 2 rfl H
        obtain ⟨g0, _, H⟩ := pFall (mcb_133 rfl) H
        exact (ih _ (by omega)).2.1 _  _ H
      · refine pG_neg (c := (kI 4) ≤ x1) g1 ?_
        replace H := pRun (ls' := [.ref 188, .int x1]) (st' := [.ref 188]) 1 rfl H
        replace H := pGetR (r := 204) (pRf hS (by decide +kernel)) rfl H
        replace H := pRun (ls' := [.ref 188, .int x1]) (st' := [.ref 188, .ref 188, .int x1, .ref 204]) 3 rfl H
        replace H := pGetR (r := 204) (pRf hS (by decide +kernel)) rfl H
        replace H := pRun (ls' := [.ref 188, .int x1]) (st' := [.int x1, .ref 204, .ref 188, .int x1, .ref 204]) 1 rfl H
        obtain ⟨g2, H⟩ := pIld (n := 5) (pLt (show pCa 204 5 = true by decide +kernel)) (pLn hS (show pCa 204 5 = true by decide +kernel)) H
        refine pG_gd g2 ?_
        obtain ⟨rv, h1, hc, H⟩ := pCalV 132 1 188 (as := [.int (M 204 (ix x1))]) (rest := [.int x1, .ref 204]) rfl (by decide) (by decide +kernel) rfl rfl H
        obtain ⟨v1, M1, hD, H⟩ := pUseI (D_132_ok hS hc) H
        refine pG_call (x := v1) (M1 := M1) hD ?_
        obtain ⟨g3, M2, eM2, H⟩ := pIst (n := 5) (pLn hS (show pCa 204 5 = true by decide +kernel)) H
        refine pG_gd g3 (pG_put (M2 := M2) eM2 ?_)
        replace H := pRun (ls' := [.ref 188, .int x1]) (st' := [.ref 188]) 1 rfl H
        replace H := pGetR (r := 209) (pRf hS (by decide +kernel)) rfl H
        replace H := pRun (ls' := [.ref 188, .int x1]) (st' := [.ref 188, .ref 188, .int x1, .ref 209]) 3 rfl H
        replace H := pGetR (r := 209) (pRf hS (by decide +kernel)) rfl H
        replace H := pRun (ls' := [.ref 188, .int x1]) (st' := [.int x1, .ref 209, .ref 188, .int x1, .ref 209]) 1 rfl H
        obtain ⟨g4, H⟩ := pIld (n := 5) (pLt (show pCa 209 5 = true by decide +kernel)) (pLn hS (show pCa 209 5 = true by decide +kernel)) H
        refine pG_gd g4 ?_
        obtain ⟨rv, h1, hc, H⟩ := pCalV 132 1 188 (as := [.int (M2 209 (ix x1))]) (rest := [.int x1, .ref 209]) rfl (by decide) (by decide +kernel) rfl rfl H
        obtain ⟨v2, M3, hD, H⟩ := pUseI (D_132_ok hS hc) H
        refine pG_call (x := v2) (M1 := M3) hD ?_
        obtain ⟨g5, M4, eM4, H⟩ := pIst (n := 5) (pLn hS (show pCa 209 5 = true by decide +kernel)) H
        refine pG_gd g5 (pG_put (M2 := M4) eM4 ?_)
        replace H := pRun (ls' := [.ref 188, .int x1]) (st' := [.ref 188]) 1 rfl H
        replace H := pGetR (r := 213) (pRf hS (by decide +kernel)) rfl H
        replace H := pRun (ls' := [.ref 188, .int x1]) (st' := [.ref 188, .ref 188, .int x1, .ref 213]) 3 rfl H
        replace H := pGetR (r := 213) (pRf hS (by decide +kernel)) rfl H
        replace H := pRun (ls' := [.ref 188, .int x1]) (st' := [.int x1, .ref 213, .ref 188, .int x1, .ref 213]) 1 rfl H
        obtain ⟨g6, H⟩ := pIld (n := 5) (pLt (show pCa 213 5 = true by decide +kernel)) (pLn hS (show pCa 213 5 = true by decide +kernel)) H
        refine pG_gd g6 ?_
        obtain ⟨rv, h1, hc, H⟩ := pCalV 132 1 188 (as := [.int (M4 213 (ix x1))]) (rest := [.int x1, .ref 213]) rfl (by decide) (by decide +kernel) rfl rfl H
        obtain ⟨v3, M5, hD, H⟩ := pUseI (D_132_ok hS hc) H
        refine pG_call (x := v3) (M1 := M5) hD ?_
        obtain ⟨g7, M6, eM6, H⟩ := pIst (n := 5) (pLn hS (show pCa 213 5 = true by decide +kernel)) H
        refine pG_gd g7 (pG_put (M2 := M6) eM6 ?_)
        replace H := pRun (ls' := [.ref 188, .int (x1 + kI 1)]) (st' := []) 1 rfl H
        obtain ⟨g0, _, H⟩ := pGo (n1 := 1) rfl (mcb_133 rfl) H
        exact (ih _ (by omega)).1 _  _ H
    · intro x1 M H
      refine pG_mono (fun v N h => hC.2.1 x1 M v N h) ?_
      unfold S_133_4
      replace H := pRun (ls' := [.ref 188, .int x1]) (st' := [.int (kI 64), .int x1]) 2 rfl H
      rcases pIfc (n1 := 6) rfl (mcb_133 rfl) (mcb_133 rfl) H with ⟨g1, g0, _, H⟩ | ⟨g1, g0, _, H⟩
      · refine pG_pos (c := (kI 64) ≤ x1) g1 ?_
        replace H := pRun (ls' := [.ref 188, .int (kI 0)]) (st' := []) 2 rfl H
        obtain ⟨g0, _, H⟩ := pFall (mcb_133 rfl) H
        exact (ih _ (by omega)).2.2.1 _  _ H
      · refine pG_neg (c := (kI 64) ≤ x1) g1 ?_
        replace H := pRun (ls' := [.ref 188, .int x1]) (st' := [.ref 188]) 1 rfl H
        replace H := pGetR (r := 205) (pRf hS (by decide +kernel)) rfl H
        replace H := pRun (ls' := [.ref 188, .int x1]) (st' := [.ref 188, .ref 188, .int x1, .ref 205]) 3 rfl H
        replace H := pGetR (r := 205) (pRf hS (by decide +kernel)) rfl H
        replace H := pRun (ls' := [.ref 188, .int x1]) (st' := [.int x1, .ref 205, .ref 188, .int x1, .ref 205]) 1 rfl H
        obtain ⟨g2, H⟩ := pIld (n := 80) (pLt (show pCa 205 80 = true by decide +kernel)) (pLn hS (show pCa 205 80 = true by decide +kernel)) H
        refine pG_gd g2 ?_
        obtain ⟨rv, h1, hc, H⟩ := pCalV 132 1 188 (as := [.int (M 205 (ix x1))]) (rest := [.int x1, .ref 205]) rfl (by decide) (by decide +kernel) rfl rfl H
        obtain ⟨v1, M1, hD, H⟩ := pUseI (D_132_ok hS hc) H
        refine pG_call (x := v1) (M1 := M1) hD ?_
        obtain ⟨g3, M2, eM2, H⟩ := pIst (n := 80) (pLn hS (show pCa 205 80 = true by decide +kernel)) H
        refine pG_gd g3 (pG_put (M2 := M2) eM2 ?_)
        replace H := pRun (ls' := [.ref 188, .int x1]) (st' := [.ref 188]) 1 rfl H
        replace H := pGetR (r := 206) (pRf hS (by decide +kernel)) rfl H
        replace H := pRun (ls' := [.ref 188, .int x1]) (st' := [.ref 188, .ref 188, .int x1, .ref 206]) 3 rfl H
        replace H := pGetR (r := 206) (pRf hS (by decide +kernel)) rfl H
        replace H := pRun (ls' := [.ref 188, .int x1]) (st' := [.int x1, .ref 206, .ref 188, .int x1, .ref 206]) 1 rfl H
        obtain ⟨g4, H⟩ := pIld (n := 80) (pLt (show pCa 206 80 = true by decide +kernel)) (pLn hS (show pCa 206 80 = true by decide +kernel)) H
        refine pG_gd g4 ?_
        obtain ⟨rv, h1, hc, H⟩ := pCalV 132 1 188 (as := [.int (M2 206 (ix x1))]) (rest := [.int x1, .ref 206]) rfl (by decide) (by decide +kernel) rfl rfl H
        obtain ⟨v2, M3, hD, H⟩ := pUseI (D_132_ok hS hc) H
        refine pG_call (x := v2) (M1 := M3) hD ?_
        obtain ⟨g5, M4, eM4, H⟩ := pIst (n := 80) (pLn hS (show pCa 206 80 = true by decide +kernel)) H
        refine pG_gd g5 (pG_put (M2 := M4) eM4 ?_)
        replace H := pRun (ls' := [.ref 188, .int x1]) (st' := [.ref 188]) 1 rfl H
        replace H := pGetR (r := 207) (pRf hS (by decide +kernel)) rfl H
        replace H := pRun (ls' := [.ref 188, .int x1]) (st' := [.ref 188, .ref 188, .int x1, .ref 207]) 3 rfl H
        replace H := pGetR (r := 207) (pRf hS (by decide +kernel)) rfl H
        replace H := pRun (ls' := [.ref 188, .int x1]) (st' := [.int x1, .ref 207, .ref 188, .int x1, .ref 207]) 1 rfl H
        obtain ⟨g6, H⟩ := pIld (n := 80) (pLt (show pCa 207 80 = true by decide +kernel)) (pLn hS (show pCa 207 80 = true by decide +kernel)) H
        refine pG_gd g6 ?_
        obtain ⟨rv, h1, hc, H⟩ := pCalV 132 1 188 (as := [.int (M4 207 (ix x1))]) (rest := [.int x1, .ref 207]) rfl (by decide) (by decide +kernel) rfl rfl H
        obtain ⟨v3, M5, hD, H⟩ := pUseI (D_132_ok hS hc) H
        refine pG_call (x := v3) (M1 := M5) hD ?_
        obtain ⟨g7, M6, eM6, H⟩ := pIst (n := 80) (pLn hS (show pCa 207 80 = true by decide +kernel)) H
        refine pG_gd g7 (pG_put (M2 := M6) eM6 ?_)
        replace H := pRun (ls' := [.ref 188, .int x1]) (st' := [.ref 188]) 1 rfl H
        replace H := pGetR (r := 208) (pRf hS (by decide +kernel)) rfl H
        replace H := pRun (ls' := [.ref 188, .int x1]) (st' := [.ref 188, .ref 188, .int x1, .ref 208]) 3 rfl H
        replace H := pGetR (r := 208) (pRf hS (by decide +kernel)) rfl H
        replace H := pRun (ls' := [.ref 188, .int x1]) (st' := [.int x1, .ref 208, .ref 188, .int x1, .ref 208]) 1 rfl H
        obtain ⟨g8, H⟩ := pIld (n := 80) (pLt (show pCa 208 80 = true by decide +kernel)) (pLn hS (show pCa 208 80 = true by decide +kernel)) H
        refine pG_gd g8 ?_
        obtain ⟨rv, h1, hc, H⟩ := pCalV 132 1 188 (as := [.int (M6 208 (ix x1))]) (rest := [.int x1, .ref 208]) rfl (by decide) (by decide +kernel) rfl rfl H
        obtain ⟨v4, M7, hD, H⟩ := pUseI (D_132_ok hS hc) H
        refine pG_call (x := v4) (M1 := M7) hD ?_
        obtain ⟨g9, M8, eM8, H⟩ := pIst (n := 80) (pLn hS (show pCa 208 80 = true by decide +kernel)) H
        refine pG_gd g9 (pG_put (M2 := M8) eM8 ?_)
        replace H := pRun (ls' := [.ref 188, .int (x1 + kI 1)]) (st' := []) 1 rfl H
        obtain ⟨g0, _, H⟩ := pGo (n1 := 4) rfl (mcb_133 rfl) H
        exact (ih _ (by omega)).2.1 _  _ H
    · intro x1 M H
      refine pG_mono (fun v N h => hC.2.2.1 x1 M v N h) ?_
      unfold S_133_7
      replace H := pRun (ls' := [.ref 188, .int x1]) (st' := [.int (kI 2000), .int x1]) 2 rfl H
      rcases pIfc (n1 := 9) rfl (mcb_133 rfl) (mcb_133 rfl) H with ⟨g1, g0, _, H⟩ | ⟨g1, g0, _, H⟩
      · refine pG_pos (c := (kI 2000) ≤ x1) g1 ?_
        replace H := pRun (ls' := [.ref 188, .int (kI 0)]) (st' := []) 2 rfl H
        obtain ⟨g0, _, H⟩ := pFall (mcb_133 rfl) H
        exact (ih _ (by omega)).2.2.2 _  _ H
      · refine pG_neg (c := (kI 2000) ≤ x1) g1 ?_
        replace H := pRun (ls' := [.ref 188, .int x1]) (st' := [.ref 188]) 1 rfl H
        replace H := pGetR (r := 210) (pRf hS (by decide +kernel)) rfl H
        replace H := pRun (ls' := [.ref 188, .int x1]) (st' := [.ref 188, .ref 188, .int x1, .ref 210]) 3 rfl H
        replace H := pGetR (r := 210) (pRf hS (by decide +kernel)) rfl H
        replace H := pRun (ls' := [.ref 188, .int x1]) (st' := [.int x1, .ref 210, .ref 188, .int x1, .ref 210]) 1 rfl H
        obtain ⟨g2, H⟩ := pIld (n := 2500) (pLt (show pCa 210 2500 = true by decide +kernel)) (pLn hS (show pCa 210 2500 = true by decide +kernel)) H
        refine pG_gd g2 ?_
        obtain ⟨rv, h1, hc, H⟩ := pCalV 132 1 188 (as := [.int (M 210 (ix x1))]) (rest := [.int x1, .ref 210]) rfl (by decide) (by decide +kernel) rfl rfl H
        obtain ⟨v1, M1, hD, H⟩ := pUseI (D_132_ok hS hc) H
        refine pG_call (x := v1) (M1 := M1) hD ?_
        obtain ⟨g3, M2, eM2, H⟩ := pIst (n := 2500) (pLn hS (show pCa 210 2500 = true by decide +kernel)) H
        refine pG_gd g3 (pG_put (M2 := M2) eM2 ?_)
        replace H := pRun (ls' := [.ref 188, .int x1]) (st' := [.ref 188]) 1 rfl H
        replace H := pGetR (r := 211) (pRf hS (by decide +kernel)) rfl H
        replace H := pRun (ls' := [.ref 188, .int x1]) (st' := [.ref 188, .ref 188, .int x1, .ref 211]) 3 rfl H
        replace H := pGetR (r := 211) (pRf hS (by decide +kernel)) rfl H
        replace H := pRun (ls' := [.ref 188, .int x1]) (st' := [.int x1, .ref 211, .ref 188, .int x1, .ref 211]) 1 rfl H
        obtain ⟨g4, H⟩ := pIld (n := 2500) (pLt (show pCa 211 2500 = true by decide +kernel)) (pLn hS (show pCa 211 2500 = true by decide +kernel)) H
        refine pG_gd g4 ?_
        obtain ⟨rv, h1, hc, H⟩ := pCalV 132 1 188 (as := [.int (M2 211 (ix x1))]) (rest := [.int x1, .ref 211]) rfl (by decide) (by decide +kernel) rfl rfl H
        obtain ⟨v2, M3, hD, H⟩ := pUseI (D_132_ok hS hc) H
        refine pG_call (x := v2) (M1 := M3) hD ?_
        obtain ⟨g5, M4, eM4, H⟩ := pIst (n := 2500) (pLn hS (show pCa 211 2500 = true by decide +kernel)) H
        refine pG_gd g5 (pG_put (M2 := M4) eM4 ?_)
        replace H := pRun (ls' := [.ref 188, .int (x1 + kI 1)]) (st' := []) 1 rfl H
        obtain ⟨g0, _, H⟩ := pGo (n1 := 7) rfl (mcb_133 rfl) H
        exact (ih _ (by omega)).2.2.1 _  _ H
    · intro x1 M H
      refine pG_mono (fun v N h => hC.2.2.2 x1 M v N h) ?_
      unfold S_133_10
      replace H := pRun (ls' := [.ref 188, .int x1]) (st' := [.int (kI 96), .int x1]) 2 rfl H
      rcases pIfc (n1 := 12) rfl (mcb_133 rfl) (mcb_133 rfl) H with ⟨g1, g0, _, H⟩ | ⟨g1, g0, _, H⟩
      · refine pG_pos (c := (kI 96) ≤ x1) g1 ?_
        exact pG_ret (pRetU H)
      · refine pG_neg (c := (kI 96) ≤ x1) g1 ?_
        replace H := pRun (ls' := [.ref 188, .int x1]) (st' := [.ref 188]) 1 rfl H
        replace H := pGetR (r := 214) (pRf hS (by decide +kernel)) rfl H
        replace H := pRun (ls' := [.ref 188, .int x1]) (st' := [.ref 188, .ref 188, .int x1, .ref 214]) 3 rfl H
        replace H := pGetR (r := 214) (pRf hS (by decide +kernel)) rfl H
        replace H := pRun (ls' := [.ref 188, .int x1]) (st' := [.int x1, .ref 214, .ref 188, .int x1, .ref 214]) 1 rfl H
        obtain ⟨g2, H⟩ := pIld (n := 120) (pLt (show pCa 214 120 = true by decide +kernel)) (pLn hS (show pCa 214 120 = true by decide +kernel)) H
        refine pG_gd g2 ?_
        obtain ⟨rv, h1, hc, H⟩ := pCalV 132 1 188 (as := [.int (M 214 (ix x1))]) (rest := [.int x1, .ref 214]) rfl (by decide) (by decide +kernel) rfl rfl H
        obtain ⟨v1, M1, hD, H⟩ := pUseI (D_132_ok hS hc) H
        refine pG_call (x := v1) (M1 := M1) hD ?_
        obtain ⟨g3, M2, eM2, H⟩ := pIst (n := 120) (pLn hS (show pCa 214 120 = true by decide +kernel)) H
        refine pG_gd g3 (pG_put (M2 := M2) eM2 ?_)
        replace H := pRun (ls' := [.ref 188, .int x1]) (st' := [.ref 188]) 1 rfl H
        replace H := pGetR (r := 215) (pRf hS (by decide +kernel)) rfl H
        replace H := pRun (ls' := [.ref 188, .int x1]) (st' := [.ref 188, .ref 188, .int x1, .ref 215]) 3 rfl H
        replace H := pGetR (r := 215) (pRf hS (by decide +kernel)) rfl H
        replace H := pRun (ls' := [.ref 188, .int x1]) (st' := [.int x1, .ref 215, .ref 188, .int x1, .ref 215]) 1 rfl H
        obtain ⟨g4, H⟩ := pIld (n := 120) (pLt (show pCa 215 120 = true by decide +kernel)) (pLn hS (show pCa 215 120 = true by decide +kernel)) H
        refine pG_gd g4 ?_
        obtain ⟨rv, h1, hc, H⟩ := pCalV 132 1 188 (as := [.int (M2 215 (ix x1))]) (rest := [.int x1, .ref 215]) rfl (by decide) (by decide +kernel) rfl rfl H
        obtain ⟨v2, M3, hD, H⟩ := pUseI (D_132_ok hS hc) H
        refine pG_call (x := v2) (M1 := M3) hD ?_
        obtain ⟨g5, M4, eM4, H⟩ := pIst (n := 120) (pLn hS (show pCa 215 120 = true by decide +kernel)) H
        refine pG_gd g5 (pG_put (M2 := M4) eM4 ?_)
        replace H := pRun (ls' := [.ref 188, .int (x1 + kI 1)]) (st' := []) 1 rfl H
        obtain ⟨g0, _, H⟩ := pGo (n1 := 10) rfl (mcb_133 rfl) H
        exact (ih _ (by omega)).2.2.2 _  _ H
theorem L_133_1_ok {X : aX} {F d : Nat} {K : Nat → aK} (hS : pS K) {out : Option Value × aH} {f : Nat} {x1 : Int32} {M : pMem} (H : pm X F d 133 f 1 [.iload 1, .bipush 4, .if_icmp .ge 3] [.ref 188, .int x1] [] (pH K M) out) : pG eU K out (L_133_1 x1 M) := by
  refine pG_all (C := fun P : (Int32 → pMem → pT Unit) × (Int32 → pMem → pT Unit) × (Int32 → pMem → pT Unit) × (Int32 → pMem → pT Unit) => C_133 P.1 P.2.1 P.2.2.1 P.2.2.2) (T := fun P => P.1 x1 M) eU_inj ((fun _ _ _ _ => True), (fun _ _ _ _ => True), (fun _ _ _ _ => True), (fun _ _ _ _ => True)) ?_ (fun P hP => (K_133 hS P.1 P.2.1 P.2.2.1 P.2.2.2 hP f).1 _ _ H)
  exact ⟨(fun _ _ _ _ _ => trivial), (fun _ _ _ _ _ => trivial), (fun _ _ _ _ _ => trivial), (fun _ _ _ _ _ => trivial)⟩
theorem L_133_4_ok {X : aX} {F d : Nat} {K : Nat → aK} (hS : pS K) {out : Option Value × aH} {f : Nat} {x1 : Int32} {M : pMem} (H : pm X F d 133 f 4 [.iload 1, .bipush 64, .if_icmp .ge 6] [.ref 188, .int x1] [] (pH K M) out) : pG eU K out (L_133_4 x1 M) := by
  refine pG_all (C := fun P : (Int32 → pMem → pT Unit) × (Int32 → pMem → pT Unit) × (Int32 → pMem → pT Unit) × (Int32 → pMem → pT Unit) => C_133 P.1 P.2.1 P.2.2.1 P.2.2.2) (T := fun P => P.2.1 x1 M) eU_inj ((fun _ _ _ _ => True), (fun _ _ _ _ => True), (fun _ _ _ _ => True), (fun _ _ _ _ => True)) ?_ (fun P hP => (K_133 hS P.1 P.2.1 P.2.2.1 P.2.2.2 hP f).2.1 _ _ H)
  exact ⟨(fun _ _ _ _ _ => trivial), (fun _ _ _ _ _ => trivial), (fun _ _ _ _ _ => trivial), (fun _ _ _ _ _ => trivial)⟩
theorem L_133_7_ok {X : aX} {F d : Nat} {K : Nat → aK} (hS : pS K) {out : Option Value × aH} {f : Nat} {x1 : Int32} {M : pMem} (H : pm X F d 133 f 7 [.iload 1, .bipush 2000, .if_icmp .ge 9] [.ref 188, .int x1] [] (pH K M) out) : pG eU K out (L_133_7 x1 M) := by
  refine pG_all (C := fun P : (Int32 → pMem → pT Unit) × (Int32 → pMem → pT Unit) × (Int32 → pMem → pT Unit) × (Int32 → pMem → pT Unit) => C_133 P.1 P.2.1 P.2.2.1 P.2.2.2) (T := fun P => P.2.2.1 x1 M) eU_inj ((fun _ _ _ _ => True), (fun _ _ _ _ => True), (fun _ _ _ _ => True), (fun _ _ _ _ => True)) ?_ (fun P hP => (K_133 hS P.1 P.2.1 P.2.2.1 P.2.2.2 hP f).2.2.1 _ _ H)
  exact ⟨(fun _ _ _ _ _ => trivial), (fun _ _ _ _ _ => trivial), (fun _ _ _ _ _ => trivial), (fun _ _ _ _ _ => trivial)⟩
theorem L_133_10_ok {X : aX} {F d : Nat} {K : Nat → aK} (hS : pS K) {out : Option Value × aH} {f : Nat} {x1 : Int32} {M : pMem} (H : pm X F d 133 f 10 [.iload 1, .bipush 96, .if_icmp .ge 12] [.ref 188, .int x1] [] (pH K M) out) : pG eU K out (L_133_10 x1 M) := by
  refine pG_all (C := fun P : (Int32 → pMem → pT Unit) × (Int32 → pMem → pT Unit) × (Int32 → pMem → pT Unit) × (Int32 → pMem → pT Unit) => C_133 P.1 P.2.1 P.2.2.1 P.2.2.2) (T := fun P => P.2.2.2 x1 M) eU_inj ((fun _ _ _ _ => True), (fun _ _ _ _ => True), (fun _ _ _ _ => True), (fun _ _ _ _ => True)) ?_ (fun P hP => (K_133 hS P.1 P.2.1 P.2.2.1 P.2.2.2 hP f).2.2.2 _ _ H)
  exact ⟨(fun _ _ _ _ _ => trivial), (fun _ _ _ _ _ => trivial), (fun _ _ _ _ _ => trivial), (fun _ _ _ _ _ => trivial)⟩
theorem D_133_ok {X : aX} {F d : Nat} {K : Nat → aK} (hS : pS K) {M : pMem} {out : Option Value × aH} (H : aM X F d 133 [.ref 188] (pH K M) = some out) : pG eU K out (D_133 M) := by
  obtain ⟨d', g0, _, H⟩ := pEnt (n := 2) (ls := [.ref 188, aD]) (mcb_133 rfl) (by decide +kernel) rfl H
  unfold D_133
  replace H := pRun (ls' := [.ref 188, .int (kI 0)]) (st' := []) 2 rfl H
  obtain ⟨g0, _, H⟩ := pFall (mcb_133 rfl) H
  exact L_133_1_ok hS  H
def l_133 : List (Nat × Nat) := [(188, 79), (229, 999), (204, 999), (209, 999), (213, 999), (205, 999), (206, 999), (207, 999), (208, 999), (210, 999), (211, 999), (214, 999), (215, 999)]
theorem FC_133 : C_133 (fun _ M _ N => pFr (l_133) M N) (fun _ M _ N => pFr (l_133) M N) (fun _ M _ N => pFr (l_133) M N) (fun _ M _ N => pFr (l_133) M N) := ⟨fun x1 M => show pTf (l_133) M (S_133_1 _ _ _ _ x1 M) from (tf_if (tf_jump pFr_refl) (tf_gd fun g2 => (tf_call pFr_refl (fun _ _ h => F_132 h) [0, 1] rfl fun _ M1 f1 => (tf_gd fun g3 => (tf_putA f1 2 rfl fun M2 f2 => (tf_gd fun g4 => (tf_call f2 (fun _ _ h => F_132 h) [0, 1] rfl fun _ M3 f3 => (tf_gd fun g5 => (tf_putA f3 3 rfl fun M4 f4 => (tf_gd fun g6 => (tf_call f4 (fun _ _ h => F_132 h) [0, 1] rfl fun _ M5 f5 => (tf_gd fun g7 => (tf_putA f5 4 rfl fun M6 f6 => (tf_jump f6)))))))))))))), fun x1 M => show pTf (l_133) M (S_133_4 _ _ _ _ x1 M) from (tf_if (tf_jump pFr_refl) (tf_gd fun g2 => (tf_call pFr_refl (fun _ _ h => F_132 h) [0, 1] rfl fun _ M1 f1 => (tf_gd fun g3 => (tf_putA f1 5 rfl fun M2 f2 => (tf_gd fun g4 => (tf_call f2 (fun _ _ h => F_132 h) [0, 1] rfl fun _ M3 f3 => (tf_gd fun g5 => (tf_putA f3 6 rfl fun M4 f4 => (tf_gd fun g6 => (tf_call f4 (fun _ _ h => F_132 h) [0, 1] rfl fun _ M5 f5 => (tf_gd fun g7 => (tf_putA f5 7 rfl fun M6 f6 => (tf_gd fun g8 => (tf_call f6 (fun _ _ h => F_132 h) [0, 1] rfl fun _ M7 f7 => (tf_gd fun g9 => (tf_putA f7 8 rfl fun M8 f8 => (tf_jump f8)))))))))))))))))), fun x1 M => show pTf (l_133) M (S_133_7 _ _ _ _ x1 M) from (tf_if (tf_jump pFr_refl) (tf_gd fun g2 => (tf_call pFr_refl (fun _ _ h => F_132 h) [0, 1] rfl fun _ M1 f1 => (tf_gd fun g3 => (tf_putA f1 9 rfl fun M2 f2 => (tf_gd fun g4 => (tf_call f2 (fun _ _ h => F_132 h) [0, 1] rfl fun _ M3 f3 => (tf_gd fun g5 => (tf_putA f3 10 rfl fun M4 f4 => (tf_jump f4)))))))))), fun x1 M => show pTf (l_133) M (S_133_10 _ _ _ _ x1 M) from (tf_if (tf_ret pFr_refl) (tf_gd fun g2 => (tf_call pFr_refl (fun _ _ h => F_132 h) [0, 1] rfl fun _ M1 f1 => (tf_gd fun g3 => (tf_putA f1 11 rfl fun M2 f2 => (tf_gd fun g4 => (tf_call f2 (fun _ _ h => F_132 h) [0, 1] rfl fun _ M3 f3 => (tf_gd fun g5 => (tf_putA f3 12 rfl fun M4 f4 => (tf_jump f4))))))))))⟩
theorem F_133 {M : pMem} {v : Unit} {N : pMem} (h : D_133 M v N) : pFr (l_133) M N :=
  (show pTf (l_133) M (D_133 M) from (tf_jumpL (fun _ M _ N => pFr (l_133) M N, fun _ M _ N => pFr (l_133) M N, fun _ M _ N => pFr (l_133) M N, fun _ M _ N => pFr (l_133) M N) (FC_133) rfl pFr_refl)) v N h
