/-! what runs come to, method by method: printed by wip/pm/pm.py -/
/-- TwoCampsModel.readAny()I -/
def S_76_1 (P1 : Int32 → Int32 → pMem → pT Int32) (x1 : Int32) (x2 : Int32) (M : pMem) : pT Int32 := tIf (x2 = 0) (tIf ((f_67 (kI 13) M) = 0) (tIf ((f_67 (kI 12) M) = 0) (tCall (D_75 (kI 10) M) fun _ M1 => tCall (D_75 (kI 11) M1) fun _ M2 => tIf (¬ x1 = 0) (tIf (¬ (f_68 (kI 41) M2) = 0) (tPut (aPut M2 188 41 ((M2 188 41) - (kI 1))) fun M3 => tPut (aPut M3 188 39 ((M3 188 39) - (kI 1))) fun M4 => tCall (D_75 (kI 9) M4) fun _ M5 => tCall (D_65 M5) fun _ M6 => P1 (x1 - (kI 1)) x2 M6) (tCall (D_66 (kI 1) M2) fun v3 M3 => tRet v3 M3)) (tRet (kI 0) M2)) (tCall (D_75 (kI 10) M) fun _ M1 => tCall (D_75 (kI 11) M1) fun _ M2 => tCall (D_74 (kI 11) M2) fun _ M3 => tCall (D_65 M3) fun _ M4 => P1 x1 (kI 1) M4)) (tCall (D_75 (kI 10) M) fun _ M1 => tCall (D_74 (kI 10) M1) fun _ M2 => tCall (D_65 M2) fun _ M3 => P1 x1 (kI 1) M3)) (tIf (¬ (f_67 (kI 14) M) = 0) (tIf (¬ (M 188 39) = (kI 8)) (tPut (aPut M 188 39 ((M 188 39) + (kI 1))) fun M1 => tIf (¬ (f_67 (kI 14) M) = 0) (tIf ((f_67 (kI 14) M) = 0) (tCall (D_74 (kI 12) M1) fun _ M2 => tCall (D_65 M2) fun _ M3 => P1 x1 x2 M3) (tCall (D_74 (kI 9) M1) fun _ M2 => tCall (D_65 M2) fun _ M3 => P1 x1 x2 M3)) (tIf ((f_67 (kI 14) M) = 0) (tCall (D_74 (kI 12) M1) fun _ M2 => tCall (D_65 M2) fun _ M3 => P1 (x1 + (kI 1)) x2 M3) (tCall (D_74 (kI 9) M1) fun _ M2 => tCall (D_65 M2) fun _ M3 => P1 (x1 + (kI 1)) x2 M3))) (tCall (D_66 (kI 3) M) fun v1 M1 => tRet v1 M1)) (tIf ((f_68 (kI 40) M) = 0) (tCall (D_73 M) fun v1 M1 => tIf (¬ v1 = (kI (-1))) (tCall (D_75 (kI 9) M1) fun _ M2 => P1 x1 (kI 0) M2) (tRet (kI (-1)) M1)) (tIf (¬ (M 188 39) = (kI 8)) (tPut (aPut M 188 39 ((M 188 39) + (kI 1))) fun M1 => tIf (¬ (f_67 (kI 14) M) = 0) (tIf ((f_67 (kI 14) M) = 0) (tCall (D_74 (kI 12) M1) fun _ M2 => tCall (D_65 M2) fun _ M3 => P1 x1 x2 M3) (tCall (D_74 (kI 9) M1) fun _ M2 => tCall (D_65 M2) fun _ M3 => P1 x1 x2 M3)) (tIf ((f_67 (kI 14) M) = 0) (tCall (D_74 (kI 12) M1) fun _ M2 => tCall (D_65 M2) fun _ M3 => P1 (x1 + (kI 1)) x2 M3) (tCall (D_74 (kI 9) M1) fun _ M2 => tCall (D_65 M2) fun _ M3 => P1 (x1 + (kI 1)) x2 M3))) (tCall (D_66 (kI 3) M) fun v1 M1 => tRet v1 M1))))
def C_76 (P1 : Int32 → Int32 → pMem → pT Int32) : Prop := (∀ (x1 : Int32) (x2 : Int32) M v N, S_76_1 P1 x1 x2 M v N → P1 x1 x2 M v N)
def L_76_1 (x1 : Int32) (x2 : Int32) (M : pMem) : pT Int32 := fun v N => ∀ P : (Int32 → Int32 → pMem → pT Int32), C_76 P → P x1 x2 M v N
def D_76 (M : pMem) : pT Int32 := tPut (aPut M 188 41 (kI 0)) fun M1 => L_76_1 (kI 0) (kI 1) M1
theorem K_76 {X : aX} {F d : Nat} {K : Nat → aK} (hS : pS K) {out : Option Value × aH} (P1 : Int32 → Int32 → pMem → pT Int32) (hC : C_76 P1) : ∀ f, (∀ (x1 : Int32) (x2 : Int32) (u3 : Value) M, pm X F d 76 f 1 [.iload 2, .ifCond .eq 15] [.ref 188, .int x1, .int x2, u3] [] (pH K M) out → pG eI K out (P1 x1 x2 M)) := by
  intro f
  induction f using Nat.strongRecOn with
  | _ f ih =>
    intro x1 x2 u3 M H
    refine pG_mono (fun v N h => hC x1 x2 M v N h) ?_
    unfold S_76_1
    replace H := pRun (ls' := [.ref 188, .int x1, .int x2, u3]) (st' := [.int x2]) 1 rfl H
    rcases pIf0 (n1 := 15) rfl (mcb_76 rfl) (mcb_76 rfl) H with ⟨g1, g0, _, H⟩ | ⟨g1, g0, _, H⟩
    · refine pG_pos (c := x2 = 0) g1 ?_
      replace H := pRun (ls' := [.ref 188, .int x1, .int x2, u3]) (st' := [.int (kI 13), .ref 188]) 2 rfl H
      obtain ⟨rv, h1, hc, H⟩ := pCalV 67 1 188 (as := [.int (kI 13)]) (rest := []) rfl (by decide) (by decide +kernel) rfl rfl H
      replace H := pUseF (f_67_ok hS hc) H
      rcases pIf0 (n1 := 17) rfl (mcb_76 rfl) (mcb_76 rfl) H with ⟨g2, g0, _, H⟩ | ⟨g2, g0, _, H⟩
      · refine pG_pos (c := (f_67 (kI 13) M) = 0) g2 ?_
        replace H := pRun (ls' := [.ref 188, .int x1, .int x2, u3]) (st' := [.int (kI 12), .ref 188]) 2 rfl H
        obtain ⟨rv, h1, hc, H⟩ := pCalV 67 1 188 (as := [.int (kI 12)]) (rest := []) rfl (by decide) (by decide +kernel) rfl rfl H
        replace H := pUseF (f_67_ok hS hc) H
        rcases pIf0 (n1 := 19) rfl (mcb_76 rfl) (mcb_76 rfl) H with ⟨g3, g0, _, H⟩ | ⟨g3, g0, _, H⟩
        · refine pG_pos (c := (f_67 (kI 12) M) = 0) g3 ?_
          replace H := pRun (ls' := [.ref 188, .int x1, .int x2, u3]) (st' := [.int (kI 10), .ref 188]) 2 rfl H
          obtain ⟨rv, h1, hc, H⟩ := pCalV 75 1 188 (as := [.int (kI 10)]) (rest := []) rfl (by decide) (by decide +kernel) rfl rfl H
          obtain ⟨v1, M1, hD, H⟩ := pUseU (D_75_ok hS hc) H
          refine pG_call (x := v1) (M1 := M1) hD ?_
          replace H := pRun (ls' := [.ref 188, .int x1, .int x2, u3]) (st' := [.int (kI 11), .ref 188]) 2 rfl H
          obtain ⟨rv, h1, hc, H⟩ := pCalV 75 1 188 (as := [.int (kI 11)]) (rest := []) rfl (by decide) (by decide +kernel) rfl rfl H
          obtain ⟨v2, M2, hD, H⟩ := pUseU (D_75_ok hS hc) H
          refine pG_call (x := v2) (M1 := M2) hD ?_
          replace H := pRun (ls' := [.ref 188, .int x1, .int x2, u3]) (st' := [.int x1]) 1 rfl H
          rcases pIf0 (n1 := 21) rfl (mcb_76 rfl) (mcb_76 rfl) H with ⟨g4, g0, _, H⟩ | ⟨g4, g0, _, H⟩
          · refine pG_pos (c := ¬ x1 = 0) g4 ?_
            replace H := pRun (ls' := [.ref 188, .int x1, .int x2, u3]) (st' := [.int (kI 41), .ref 188]) 2 rfl H
            obtain ⟨rv, h1, hc, H⟩ := pCalV 68 1 188 (as := [.int (kI 41)]) (rest := []) rfl (by decide) (by decide +kernel) rfl rfl H
            replace H := pUseF (f_68_ok hS hc) H
            rcases pIf0 (n1 := 23) rfl (mcb_76 rfl) (mcb_76 rfl) H with ⟨g5, g0, _, H⟩ | ⟨g5, g0, _, H⟩
            · refine pG_pos (c := ¬ (f_68 (kI 41) M2) = 0) g5 ?_
              replace H := pRun (ls' := [.ref 188, .int x1, .int x2, u3]) (st' := [.ref 188, .ref 188]) 2 rfl H
              replace H := pGetN (v := M2 188 41) rfl (by decide) H
              replace H := pRun (ls' := [.ref 188, .int x1, .int x2, u3]) (st' := [.int ((M2 188 41) - (kI 1)), .ref 188]) 2 rfl H
              obtain ⟨M3, eM3, H⟩ := pPutN (j := 41) rfl H
              refine pG_put (M2 := M3) eM3 ?_
              replace H := pRun (ls' := [.ref 188, .int (x1 - (kI 1)), .int x2, u3]) (st' := [.ref 188, .ref 188]) 6 rfl H
              replace H := pGetN (v := M3 188 39) rfl (by decide) H
              replace H := pRun (ls' := [.ref 188, .int (x1 - (kI 1)), .int x2, u3]) (st' := [.int ((M3 188 39) - (kI 1)), .ref 188]) 2 rfl H
              obtain ⟨M4, eM4, H⟩ := pPutN (j := 39) rfl H
              refine pG_put (M2 := M4) eM4 ?_
              replace H := pRun (ls' := [.ref 188, .int (x1 - (kI 1)), .int x2, u3]) (st' := [.int (kI 9), .ref 188]) 2 rfl H
              obtain ⟨rv, h1, hc, H⟩ := pCalV 75 1 188 (as := [.int (kI 9)]) (rest := []) rfl (by decide) (by decide +kernel) rfl rfl H
              obtain ⟨v3, M5, hD, H⟩ := pUseU (D_75_ok hS hc) H
              refine pG_call (x := v3) (M1 := M5) hD ?_
              replace H := pRun (ls' := [.ref 188, .int (x1 - (kI 1)), .int x2, u3]) (st' := [.ref 188]) 1 rfl H
              obtain ⟨rv, h1, hc, H⟩ := pCalV 65 0 188 (as := []) (rest := []) rfl (by decide) (by decide +kernel) rfl rfl H
              obtain ⟨v4, M6, hD, H⟩ := pUseU (D_65_ok hS hc) H
              refine pG_call (x := v4) (M1 := M6) hD ?_
              obtain ⟨g0, _, H⟩ := pGo (n1 := 1) rfl (mcb_76 rfl) H
              exact (ih _ (by omega)) _ _ _  _ H
            · refine pG_neg (c := ¬ (f_68 (kI 41) M2) = 0) g5 ?_
              replace H := pRun (ls' := [.ref 188, .int x1, .int x2, u3]) (st' := [.int (kI 1), .ref 188]) 2 rfl H
              obtain ⟨rv, h1, hc, H⟩ := pCalV 66 1 188 (as := [.int (kI 1)]) (rest := []) rfl (by decide) (by decide +kernel) rfl rfl H
              obtain ⟨v3, M3, hD, H⟩ := pUseI (D_66_ok hS hc) H
              refine pG_call (x := v3) (M1 := M3) hD ?_
              exact pG_ret (pRetI H)
          · refine pG_neg (c := ¬ x1 = 0) g4 ?_
            replace H := pRun (ls' := [.ref 188, .int x1, .int x2, u3]) (st' := [.int (kI 0)]) 1 rfl H
            exact pG_ret (pRetI H)
        · refine pG_neg (c := (f_67 (kI 12) M) = 0) g3 ?_
          replace H := pRun (ls' := [.ref 188, .int x1, .int x2, u3]) (st' := [.int (kI 10), .ref 188]) 2 rfl H
          obtain ⟨rv, h1, hc, H⟩ := pCalV 75 1 188 (as := [.int (kI 10)]) (rest := []) rfl (by decide) (by decide +kernel) rfl rfl H
          obtain ⟨v1, M1, hD, H⟩ := pUseU (D_75_ok hS hc) H
          refine pG_call (x := v1) (M1 := M1) hD ?_
          replace H := pRun (ls' := [.ref 188, .int x1, .int x2, u3]) (st' := [.int (kI 11), .ref 188]) 2 rfl H
          obtain ⟨rv, h1, hc, H⟩ := pCalV 75 1 188 (as := [.int (kI 11)]) (rest := []) rfl (by decide) (by decide +kernel) rfl rfl H
          obtain ⟨v2, M2, hD, H⟩ := pUseU (D_75_ok hS hc) H
          refine pG_call (x := v2) (M1 := M2) hD ?_
          replace H := pRun (ls' := [.ref 188, .int x1, .int x2, u3]) (st' := [.int (kI 11), .ref 188]) 2 rfl H
          obtain ⟨rv, h1, hc, H⟩ := pCalV 74 1 188 (as := [.int (kI 11)]) (rest := []) rfl (by decide) (by decide +kernel) rfl rfl H
          obtain ⟨v3, M3, hD, H⟩ := pUseU (D_74_ok hS hc) H
          refine pG_call (x := v3) (M1 := M3) hD ?_
          replace H := pRun (ls' := [.ref 188, .int x1, .int x2, u3]) (st' := [.ref 188]) 1 rfl H
          obtain ⟨rv, h1, hc, H⟩ := pCalV 65 0 188 (as := []) (rest := []) rfl (by decide) (by decide +kernel) rfl rfl H
          obtain ⟨v4, M4, hD, H⟩ := pUseU (D_65_ok hS hc) H
          refine pG_call (x := v4) (M1 := M4) hD ?_
          replace H := pRun (ls' := [.ref 188, .int x1, .int (kI 1), u3]) (st' := []) 2 rfl H
          obtain ⟨g0, _, H⟩ := pGo (n1 := 1) rfl (mcb_76 rfl) H
          exact (ih _ (by omega)) _ _ _  _ H
      · refine pG_neg (c := (f_67 (kI 13) M) = 0) g2 ?_
        replace H := pRun (ls' := [.ref 188, .int x1, .int x2, u3]) (st' := [.int (kI 10), .ref 188]) 2 rfl H
        obtain ⟨rv, h1, hc, H⟩ := pCalV 75 1 188 (as := [.int (kI 10)]) (rest := []) rfl (by decide) (by decide +kernel) rfl rfl H
        obtain ⟨v1, M1, hD, H⟩ := pUseU (D_75_ok hS hc) H
        refine pG_call (x := v1) (M1 := M1) hD ?_
        replace H := pRun (ls' := [.ref 188, .int x1, .int x2, u3]) (st' := [.int (kI 10), .ref 188]) 2 rfl H
        obtain ⟨rv, h1, hc, H⟩ := pCalV 74 1 188 (as := [.int (kI 10)]) (rest := []) rfl (by decide) (by decide +kernel) rfl rfl H
        obtain ⟨v2, M2, hD, H⟩ := pUseU (D_74_ok hS hc) H
        refine pG_call (x := v2) (M1 := M2) hD ?_
        replace H := pRun (ls' := [.ref 188, .int x1, .int x2, u3]) (st' := [.ref 188]) 1 rfl H
        obtain ⟨rv, h1, hc, H⟩ := pCalV 65 0 188 (as := []) (rest := []) rfl (by decide) (by decide +kernel) rfl rfl H
        obtain ⟨v3, M3, hD, H⟩ := pUseU (D_65_ok hS hc) H
        refine pG_call (x := v3) (M1 := M3) hD ?_
        replace H := pRun (ls' := [.ref 188, .int x1, .int (kI 1), u3]) (st' := []) 2 rfl H
        obtain ⟨g0, _, H⟩ := pGo (n1 := 1) rfl (mcb_76 rfl) H
        exact (ih _ (by omega)) _ _ _  _ H
    · refine pG_neg (c := x2 = 0) g1 ?_
      replace H := pRun (ls' := [.ref 188, .int x1, .int x2, u3]) (st' := [.int (kI 14), .ref 188]) 2 rfl H
      obtain ⟨rv, h1, hc, H⟩ := pCalV 67 1 188 (as := [.int (kI 14)]) (rest := []) rfl (by decide) (by decide +kernel) rfl rfl H
      replace H := pUseF (f_67_ok hS hc) H
      replace H := pRun (ls' := [.ref 188, .int x1, .int x2, .int (f_67 (kI 14) M)]) (st' := [.int (f_67 (kI 14) M)]) 2 rfl H
      rcases pIf0 (n1 := 4) rfl (mcb_76 rfl) (mcb_76 rfl) H with ⟨g2, g0, _, H⟩ | ⟨g2, g0, _, H⟩
      · refine pG_pos (c := ¬ (f_67 (kI 14) M) = 0) g2 ?_
        replace H := pRun (ls' := [.ref 188, .int x1, .int x2, .int (f_67 (kI 14) M)]) (st' := [.ref 188]) 1 rfl H
        replace H := pGetN (v := M 188 39) rfl (by decide) H
        replace H := pRun (ls' := [.ref 188, .int x1, .int x2, .int (f_67 (kI 14) M)]) (st' := [.int (kI 8), .int (M 188 39)]) 1 rfl H
        rcases pIfc (n1 := 6) rfl (mcb_76 rfl) (mcb_76 rfl) H with ⟨g3, g0, _, H⟩ | ⟨g3, g0, _, H⟩
        · refine pG_pos (c := ¬ (M 188 39) = (kI 8)) g3 ?_
          replace H := pRun (ls' := [.ref 188, .int x1, .int x2, .int (f_67 (kI 14) M)]) (st' := [.ref 188, .ref 188]) 2 rfl H
          replace H := pGetN (v := M 188 39) rfl (by decide) H
          replace H := pRun (ls' := [.ref 188, .int x1, .int x2, .int (f_67 (kI 14) M)]) (st' := [.int ((M 188 39) + (kI 1)), .ref 188]) 2 rfl H
          obtain ⟨M1, eM1, H⟩ := pPutN (j := 39) rfl H
          refine pG_put (M2 := M1) eM1 ?_
          replace H := pRun (ls' := [.ref 188, .int x1, .int x2, .int (f_67 (kI 14) M)]) (st' := [.int (f_67 (kI 14) M)]) 1 rfl H
          rcases pIf0 (n1 := 8) rfl (mcb_76 rfl) (mcb_76 rfl) H with ⟨g4, g0, _, H⟩ | ⟨g4, g0, _, H⟩
          · refine pG_pos (c := ¬ (f_67 (kI 14) M) = 0) g4 ?_
            replace H := pRun (ls' := [.ref 188, .int x1, .int x2, .int (f_67 (kI 14) M)]) (st' := [.int (f_67 (kI 14) M), .ref 188]) 2 rfl H
            rcases pIf0 (n1 := 10) rfl (mcb_76 rfl) (mcb_76 rfl) H with ⟨g5, g0, _, H⟩ | ⟨g5, g0, _, H⟩
            · refine pG_pos (c := (f_67 (kI 14) M) = 0) g5 ?_
              replace H := pRun (ls' := [.ref 188, .int x1, .int x2, .int (f_67 (kI 14) M)]) (st' := [.int (kI 12), .ref 188]) 1 rfl H
              obtain ⟨g0, _, H⟩ := pFall (mcb_76 rfl) H
              obtain ⟨rv, h1, hc, H⟩ := pCalV 74 1 188 (as := [.int (kI 12)]) (rest := []) rfl (by decide) (by decide +kernel) rfl rfl H
              obtain ⟨v1, M2, hD, H⟩ := pUseU (D_74_ok hS hc) H
              refine pG_call (x := v1) (M1 := M2) hD ?_
              replace H := pRun (ls' := [.ref 188, .int x1, .int x2, .int (f_67 (kI 14) M)]) (st' := [.ref 188]) 1 rfl H
              obtain ⟨rv, h1, hc, H⟩ := pCalV 65 0 188 (as := []) (rest := []) rfl (by decide) (by decide +kernel) rfl rfl H
              obtain ⟨v2, M3, hD, H⟩ := pUseU (D_65_ok hS hc) H
              refine pG_call (x := v2) (M1 := M3) hD ?_
              obtain ⟨g0, _, H⟩ := pGo (n1 := 1) rfl (mcb_76 rfl) H
              exact (ih _ (by omega)) _ _ _  _ H
            · refine pG_neg (c := (f_67 (kI 14) M) = 0) g5 ?_
              replace H := pRun (ls' := [.ref 188, .int x1, .int x2, .int (f_67 (kI 14) M)]) (st' := [.int (kI 9), .ref 188]) 1 rfl H
              obtain ⟨g0, _, H⟩ := pGo (n1 := 11) rfl (mcb_76 rfl) H
              obtain ⟨rv, h1, hc, H⟩ := pCalV 74 1 188 (as := [.int (kI 9)]) (rest := []) rfl (by decide) (by decide +kernel) rfl rfl H
              obtain ⟨v1, M2, hD, H⟩ := pUseU (D_74_ok hS hc) H
              refine pG_call (x := v1) (M1 := M2) hD ?_
              replace H := pRun (ls' := [.ref 188, .int x1, .int x2, .int (f_67 (kI 14) M)]) (st' := [.ref 188]) 1 rfl H
              obtain ⟨rv, h1, hc, H⟩ := pCalV 65 0 188 (as := []) (rest := []) rfl (by decide) (by decide +kernel) rfl rfl H
              obtain ⟨v2, M3, hD, H⟩ := pUseU (D_65_ok hS hc) H
              refine pG_call (x := v2) (M1 := M3) hD ?_
              obtain ⟨g0, _, H⟩ := pGo (n1 := 1) rfl (mcb_76 rfl) H
              exact (ih _ (by omega)) _ _ _  _ H
          · refine pG_neg (c := ¬ (f_67 (kI 14) M) = 0) g4 ?_
            replace H := pRun (ls' := [.ref 188, .int (x1 + (kI 1)), .int x2, .int (f_67 (kI 14) M)]) (st' := []) 4 rfl H
            obtain ⟨g0, _, H⟩ := pFall (mcb_76 rfl) H
            replace H := pRun (ls' := [.ref 188, .int (x1 + (kI 1)), .int x2, .int (f_67 (kI 14) M)]) (st' := [.int (f_67 (kI 14) M), .ref 188]) 2 rfl H
            rcases pIf0 (n1 := 10) rfl (mcb_76 rfl) (mcb_76 rfl) H with ⟨g5, g0, _, H⟩ | ⟨g5, g0, _, H⟩
            · refine pG_pos (c := (f_67 (kI 14) M) = 0) g5 ?_
              replace H := pRun (ls' := [.ref 188, .int (x1 + (kI 1)), .int x2, .int (f_67 (kI 14) M)]) (st' := [.int (kI 12), .ref 188]) 1 rfl H
              obtain ⟨g0, _, H⟩ := pFall (mcb_76 rfl) H
              obtain ⟨rv, h1, hc, H⟩ := pCalV 74 1 188 (as := [.int (kI 12)]) (rest := []) rfl (by decide) (by decide +kernel) rfl rfl H
              obtain ⟨v1, M2, hD, H⟩ := pUseU (D_74_ok hS hc) H
              refine pG_call (x := v1) (M1 := M2) hD ?_
              replace H := pRun (ls' := [.ref 188, .int (x1 + (kI 1)), .int x2, .int (f_67 (kI 14) M)]) (st' := [.ref 188]) 1 rfl H
              obtain ⟨rv, h1, hc, H⟩ := pCalV 65 0 188 (as := []) (rest := []) rfl (by decide) (by decide +kernel) rfl rfl H
              obtain ⟨v2, M3, hD, H⟩ := pUseU (D_65_ok hS hc) H
              refine pG_call (x := v2) (M1 := M3) hD ?_
              obtain ⟨g0, _, H⟩ := pGo (n1 := 1) rfl (mcb_76 rfl) H
              exact (ih _ (by omega)) _ _ _  _ H
            · refine pG_neg (c := (f_67 (kI 14) M) = 0) g5 ?_
              replace H := pRun (ls' := [.ref 188, .int (x1 + (kI 1)), .int x2, .int (f_67 (kI 14) M)]) (st' := [.int (kI 9), .ref 188]) 1 rfl H
              obtain ⟨g0, _, H⟩ := pGo (n1 := 11) rfl (mcb_76 rfl) H
              obtain ⟨rv, h1, hc, H⟩ := pCalV 74 1 188 (as := [.int (kI 9)]) (rest := []) rfl (by decide) (by decide +kernel) rfl rfl H
              obtain ⟨v1, M2, hD, H⟩ := pUseU (D_74_ok hS hc) H
              refine pG_call (x := v1) (M1 := M2) hD ?_
              replace H := pRun (ls' := [.ref 188, .int (x1 + (kI 1)), .int x2, .int (f_67 (kI 14) M)]) (st' := [.ref 188]) 1 rfl H
              obtain ⟨rv, h1, hc, H⟩ := pCalV 65 0 188 (as := []) (rest := []) rfl (by decide) (by decide +kernel) rfl rfl H
              obtain ⟨v2, M3, hD, H⟩ := pUseU (D_65_ok hS hc) H
              refine pG_call (x := v2) (M1 := M3) hD ?_
              obtain ⟨g0, _, H⟩ := pGo (n1 := 1) rfl (mcb_76 rfl) H
              exact (ih _ (by omega)) _ _ _  _ H
        · refine pG_neg (c := ¬ (M 188 39) = (kI 8)) g3 ?_
          replace H := pRun (ls' := [.ref 188, .int x1, .int x2, .int (f_67 (kI 14) M)]) (st' := [.int (kI 3), .ref 188]) 2 rfl H
          obtain ⟨rv, h1, hc, H⟩ := pCalV 66 1 188 (as := [.int (kI 3)]) (rest := []) rfl (by decide) (by decide +kernel) rfl rfl H
          obtain ⟨v1, M1, hD, H⟩ := pUseI (D_66_ok hS hc) H
          refine pG_call (x := v1) (M1 := M1) hD ?_
          exact pG_ret (pRetI H)
      · refine pG_neg (c := ¬ (f_67 (kI 14) M) = 0) g2 ?_
        replace H := pRun (ls' := [.ref 188, .int x1, .int x2, .int (f_67 (kI 14) M)]) (st' := [.int (kI 40), .ref 188]) 2 rfl H
        obtain ⟨rv, h1, hc, H⟩ := pCalV 68 1 188 (as := [.int (kI 40)]) (rest := []) rfl (by decide) (by decide +kernel) rfl rfl H
        replace H := pUseF (f_68_ok hS hc) H
        rcases pIf0 (n1 := 12) rfl (mcb_76 rfl) (mcb_76 rfl) H with ⟨g3, g0, _, H⟩ | ⟨g3, g0, _, H⟩
        · refine pG_pos (c := (f_68 (kI 40) M) = 0) g3 ?_
          replace H := pRun (ls' := [.ref 188, .int x1, .int x2, .int (f_67 (kI 14) M)]) (st' := [.ref 188]) 1 rfl H
          obtain ⟨rv, h1, hc, H⟩ := pCalV 73 0 188 (as := []) (rest := []) rfl (by decide) (by decide +kernel) rfl rfl H
          obtain ⟨v1, M1, hD, H⟩ := pUseI (D_73_ok hS hc) H
          refine pG_call (x := v1) (M1 := M1) hD ?_
          replace H := pRun (ls' := [.ref 188, .int x1, .int x2, .int (f_67 (kI 14) M)]) (st' := [.int (kI (-1)), .int v1]) 1 rfl H
          rcases pIfc (n1 := 14) rfl (mcb_76 rfl) (mcb_76 rfl) H with ⟨g4, g0, _, H⟩ | ⟨g4, g0, _, H⟩
          · refine pG_pos (c := ¬ v1 = (kI (-1))) g4 ?_
            replace H := pRun (ls' := [.ref 188, .int x1, .int x2, .int (f_67 (kI 14) M)]) (st' := [.int (kI 9), .ref 188]) 2 rfl H
            obtain ⟨rv, h1, hc, H⟩ := pCalV 75 1 188 (as := [.int (kI 9)]) (rest := []) rfl (by decide) (by decide +kernel) rfl rfl H
            obtain ⟨v2, M2, hD, H⟩ := pUseU (D_75_ok hS hc) H
            refine pG_call (x := v2) (M1 := M2) hD ?_
            replace H := pRun (ls' := [.ref 188, .int x1, .int (kI 0), .int (f_67 (kI 14) M)]) (st' := []) 2 rfl H
            obtain ⟨g0, _, H⟩ := pGo (n1 := 1) rfl (mcb_76 rfl) H
            exact (ih _ (by omega)) _ _ _  _ H
          · refine pG_neg (c := ¬ v1 = (kI (-1))) g4 ?_
            replace H := pRun (ls' := [.ref 188, .int x1, .int x2, .int (f_67 (kI 14) M)]) (st' := [.int (kI (-1))]) 1 rfl H
            exact pG_ret (pRetI H)
        · refine pG_neg (c := (f_68 (kI 40) M) = 0) g3 ?_
          replace H := pRun (ls' := [.ref 188, .int x1, .int x2, .int (f_67 (kI 14) M)]) (st' := [.ref 188]) 1 rfl H
          replace H := pGetN (v := M 188 39) rfl (by decide) H
          replace H := pRun (ls' := [.ref 188, .int x1, .int x2, .int (f_67 (kI 14) M)]) (st' := [.int (kI 8), .int (M 188 39)]) 1 rfl H
          rcases pIfc (n1 := 6) rfl (mcb_76 rfl) (mcb_76 rfl) H with ⟨g4, g0, _, H⟩ | ⟨g4, g0, _, H⟩
          · refine pG_pos (c := ¬ (M 188 39) = (kI 8)) g4 ?_
            replace H := pRun (ls' := [.ref 188, .int x1, .int x2, .int (f_67 (kI 14) M)]) (st' := [.ref 188, .ref 188]) 2 rfl H
            replace H := pGetN (v := M 188 39) rfl (by decide) H
            replace H := pRun (ls' := [.ref 188, .int x1, .int x2, .int (f_67 (kI 14) M)]) (st' := [.int ((M 188 39) + (kI 1)), .ref 188]) 2 rfl H
            obtain ⟨M1, eM1, H⟩ := pPutN (j := 39) rfl H
            refine pG_put (M2 := M1) eM1 ?_
            replace H := pRun (ls' := [.ref 188, .int x1, .int x2, .int (f_67 (kI 14) M)]) (st' := [.int (f_67 (kI 14) M)]) 1 rfl H
            rcases pIf0 (n1 := 8) rfl (mcb_76 rfl) (mcb_76 rfl) H with ⟨g5, g0, _, H⟩ | ⟨g5, g0, _, H⟩
            · refine pG_pos (c := ¬ (f_67 (kI 14) M) = 0) g5 ?_
              replace H := pRun (ls' := [.ref 188, .int x1, .int x2, .int (f_67 (kI 14) M)]) (st' := [.int (f_67 (kI 14) M), .ref 188]) 2 rfl H
              rcases pIf0 (n1 := 10) rfl (mcb_76 rfl) (mcb_76 rfl) H with ⟨g6, g0, _, H⟩ | ⟨g6, g0, _, H⟩
              · refine pG_pos (c := (f_67 (kI 14) M) = 0) g6 ?_
                replace H := pRun (ls' := [.ref 188, .int x1, .int x2, .int (f_67 (kI 14) M)]) (st' := [.int (kI 12), .ref 188]) 1 rfl H
                obtain ⟨g0, _, H⟩ := pFall (mcb_76 rfl) H
                obtain ⟨rv, h1, hc, H⟩ := pCalV 74 1 188 (as := [.int (kI 12)]) (rest := []) rfl (by decide) (by decide +kernel) rfl rfl H
                obtain ⟨v1, M2, hD, H⟩ := pUseU (D_74_ok hS hc) H
                refine pG_call (x := v1) (M1 := M2) hD ?_
                replace H := pRun (ls' := [.ref 188, .int x1, .int x2, .int (f_67 (kI 14) M)]) (st' := [.ref 188]) 1 rfl H
                obtain ⟨rv, h1, hc, H⟩ := pCalV 65 0 188 (as := []) (rest := []) rfl (by decide) (by decide +kernel) rfl rfl H
                obtain ⟨v2, M3, hD, H⟩ := pUseU (D_65_ok hS hc) H
                refine pG_call (x := v2) (M1 := M3) hD ?_
                obtain ⟨g0, _, H⟩ := pGo (n1 := 1) rfl (mcb_76 rfl) H
                exact (ih _ (by omega)) _ _ _  _ H
              · refine pG_neg (c := (f_67 (kI 14) M) = 0) g6 ?_
                replace H := pRun (ls' := [.ref 188, .int x1, .int x2, .int (f_67 (kI 14) M)]) (st' := [.int (kI 9), .ref 188]) 1 rfl H
                obtain ⟨g0, _, H⟩ := pGo (n1 := 11) rfl (mcb_76 rfl) H
                obtain ⟨rv, h1, hc, H⟩ := pCalV 74 1 188 (as := [.int (kI 9)]) (rest := []) rfl (by decide) (by decide +kernel) rfl rfl H
                obtain ⟨v1, M2, hD, H⟩ := pUseU (D_74_ok hS hc) H
                refine pG_call (x := v1) (M1 := M2) hD ?_
                replace H := pRun (ls' := [.ref 188, .int x1, .int x2, .int (f_67 (kI 14) M)]) (st' := [.ref 188]) 1 rfl H
                obtain ⟨rv, h1, hc, H⟩ := pCalV 65 0 188 (as := []) (rest := []) rfl (by decide) (by decide +kernel) rfl rfl H
                obtain ⟨v2, M3, hD, H⟩ := pUseU (D_65_ok hS hc) H
                refine pG_call (x := v2) (M1 := M3) hD ?_
                obtain ⟨g0, _, H⟩ := pGo (n1 := 1) rfl (mcb_76 rfl) H
                exact (ih _ (by omega)) _ _ _  _ H
            · refine pG_neg (c := ¬ (f_67 (kI 14) M) = 0) g5 ?_
              replace H := pRun (ls' := [.ref 188, .int (x1 + (kI 1)), .int x2, .int (f_67 (kI 14) M)]) (st' := []) 4 rfl H
              obtain ⟨g0, _, H⟩ := pFall (mcb_76 rfl) H
              replace H := pRun (ls' := [.ref 188, .int (x1 + (kI 1)), .int x2, .int (f_67 (kI 14) M)]) (st' := [.int (f_67 (kI 14) M), .ref 188]) 2 rfl H
              rcases pIf0 (n1 := 10) rfl (mcb_76 rfl) (mcb_76 rfl) H with ⟨g6, g0, _, H⟩ | ⟨g6, g0, _, H⟩
              · refine pG_pos (c := (f_67 (kI 14) M) = 0) g6 ?_
                replace H := pRun (ls' := [.ref 188, .int (x1 + (kI 1)), .int x2, .int (f_67 (kI 14) M)]) (st' := [.int (kI 12), .ref 188]) 1 rfl H
                obtain ⟨g0, _, H⟩ := pFall (mcb_76 rfl) H
                obtain ⟨rv, h1, hc, H⟩ := pCalV 74 1 188 (as := [.int (kI 12)]) (rest := []) rfl (by decide) (by decide +kernel) rfl rfl H
                obtain ⟨v1, M2, hD, H⟩ := pUseU (D_74_ok hS hc) H
                refine pG_call (x := v1) (M1 := M2) hD ?_
                replace H := pRun (ls' := [.ref 188, .int (x1 + (kI 1)), .int x2, .int (f_67 (kI 14) M)]) (st' := [.ref 188]) 1 rfl H
                obtain ⟨rv, h1, hc, H⟩ := pCalV 65 0 188 (as := []) (rest := []) rfl (by decide) (by decide +kernel) rfl rfl H
                obtain ⟨v2, M3, hD, H⟩ := pUseU (D_65_ok hS hc) H
                refine pG_call (x := v2) (M1 := M3) hD ?_
                obtain ⟨g0, _, H⟩ := pGo (n1 := 1) rfl (mcb_76 rfl) H
                exact (ih _ (by omega)) _ _ _  _ H
              · refine pG_neg (c := (f_67 (kI 14) M) = 0) g6 ?_
                replace H := pRun (ls' := [.ref 188, .int (x1 + (kI 1)), .int x2, .int (f_67 (kI 14) M)]) (st' := [.int (kI 9), .ref 188]) 1 rfl H
                obtain ⟨g0, _, H⟩ := pGo (n1 := 11) rfl (mcb_76 rfl) H
                obtain ⟨rv, h1, hc, H⟩ := pCalV 74 1 188 (as := [.int (kI 9)]) (rest := []) rfl (by decide) (by decide +kernel) rfl rfl H
                obtain ⟨v1, M2, hD, H⟩ := pUseU (D_74_ok hS hc) H
                refine pG_call (x := v1) (M1 := M2) hD ?_
                replace H := pRun (ls' := [.ref 188, .int (x1 + (kI 1)), .int x2, .int (f_67 (kI 14) M)]) (st' := [.ref 188]) 1 rfl H
                obtain ⟨rv, h1, hc, H⟩ := pCalV 65 0 188 (as := []) (rest := []) rfl (by decide) (by decide +kernel) rfl rfl H
                obtain ⟨v2, M3, hD, H⟩ := pUseU (D_65_ok hS hc) H
                refine pG_call (x := v2) (M1 := M3) hD ?_
                obtain ⟨g0, _, H⟩ := pGo (n1 := 1) rfl (mcb_76 rfl) H
                exact (ih _ (by omega)) _ _ _  _ H
          · refine pG_neg (c := ¬ (M 188 39) = (kI 8)) g4 ?_
            replace H := pRun (ls' := [.ref 188, .int x1, .int x2, .int (f_67 (kI 14) M)]) (st' := [.int (kI 3), .ref 188]) 2 rfl H
            obtain ⟨rv, h1, hc, H⟩ := pCalV 66 1 188 (as := [.int (kI 3)]) (rest := []) rfl (by decide) (by decide +kernel) rfl rfl H
            obtain ⟨v1, M1, hD, H⟩ := pUseI (D_66_ok hS hc) H
            refine pG_call (x := v1) (M1 := M1) hD ?_
            exact pG_ret (pRetI H)
theorem L_76_1_ok {X : aX} {F d : Nat} {K : Nat → aK} (hS : pS K) {out : Option Value × aH} {f : Nat} {x1 : Int32} {x2 : Int32} {u3 : Value} {M : pMem} (H : pm X F d 76 f 1 [.iload 2, .ifCond .eq 15] [.ref 188, .int x1, .int x2, u3] [] (pH K M) out) : pG eI K out (L_76_1 x1 x2 M) := by
  refine pG_all (C := fun P : (Int32 → Int32 → pMem → pT Int32) => C_76 P) (T := fun P => P x1 x2 M) eI_inj (fun _ _ _ _ _ => True) ?_ (fun P hP => (K_76 hS P hP f) _ _ _ _ H)
  exact (fun _ _ _ _ _ _ => trivial)
theorem D_76_ok {X : aX} {F d : Nat} {K : Nat → aK} (hS : pS K) {M : pMem} {out : Option Value × aH} (H : aM X F d 76 [.ref 188] (pH K M) = some out) : pG eI K out (D_76 M) := by
  obtain ⟨d', g0, _, H⟩ := pEnt (n := 4) (ls := [.ref 188, aD, aD, aD]) (mcb_76 rfl) (by decide +kernel) rfl H
  unfold D_76
  replace H := pRun (ls' := [.ref 188, .int (kI 0), aD, aD]) (st' := [.int (kI 0), .ref 188]) 4 rfl H
  obtain ⟨M1, eM1, H⟩ := pPutN (j := 41) rfl H
  refine pG_put (M2 := M1) eM1 ?_
  replace H := pRun (ls' := [.ref 188, .int (kI 0), .int (kI 1), aD]) (st' := []) 2 rfl H
  obtain ⟨g0, _, H⟩ := pFall (mcb_76 rfl) H
  exact L_76_1_ok hS  H
def l_76 : List (Nat × Nat) := [(188, 41), (210, 999), (211, 999), (188, 38), (188, 39), (188, 25), (188, 26), (188, 27), (188, 28), (188, 42), (188, 43), (212, 999)]
theorem FC_76 : C_76 (fun _ _ M _ N => pFr (l_76) M N) := fun x1 x2 M => show pTf (l_76) M (S_76_1 _ x1 x2 M) from (tf_if (tf_if (tf_if (tf_call pFr_refl (fun _ _ h => F_75 h) [0, 1, 2, 3, 4] rfl fun _ M1 f1 => (tf_call f1 (fun _ _ h => F_75 h) [0, 1, 2, 3, 4] rfl fun _ M2 f2 => (tf_if (tf_if (tf_put f2 0 rfl fun M3 f3 => (tf_put f3 4 rfl fun M4 f4 => (tf_call f4 (fun _ _ h => F_75 h) [0, 1, 2, 3, 4] rfl fun _ M5 f5 => (tf_call f5 (fun _ _ h => F_65 h) [5, 6, 7, 8] rfl fun _ M6 f6 => (tf_jump f6))))) (tf_call f2 (fun _ _ h => F_66 h) [9, 10] rfl fun _ M3 f3 => (tf_ret f3))) (tf_ret f2)))) (tf_call pFr_refl (fun _ _ h => F_75 h) [0, 1, 2, 3, 4] rfl fun _ M1 f1 => (tf_call f1 (fun _ _ h => F_75 h) [0, 1, 2, 3, 4] rfl fun _ M2 f2 => (tf_call f2 (fun _ _ h => F_74 h) [11, 0] rfl fun _ M3 f3 => (tf_call f3 (fun _ _ h => F_65 h) [5, 6, 7, 8] rfl fun _ M4 f4 => (tf_jump f4)))))) (tf_call pFr_refl (fun _ _ h => F_75 h) [0, 1, 2, 3, 4] rfl fun _ M1 f1 => (tf_call f1 (fun _ _ h => F_74 h) [11, 0] rfl fun _ M2 f2 => (tf_call f2 (fun _ _ h => F_65 h) [5, 6, 7, 8] rfl fun _ M3 f3 => (tf_jump f3))))) (tf_if (tf_if (tf_put pFr_refl 4 rfl fun M1 f1 => (tf_if (tf_if (tf_call f1 (fun _ _ h => F_74 h) [11, 0] rfl fun _ M2 f2 => (tf_call f2 (fun _ _ h => F_65 h) [5, 6, 7, 8] rfl fun _ M3 f3 => (tf_jump f3))) (tf_call f1 (fun _ _ h => F_74 h) [11, 0] rfl fun _ M2 f2 => (tf_call f2 (fun _ _ h => F_65 h) [5, 6, 7, 8] rfl fun _ M3 f3 => (tf_jump f3)))) (tf_if (tf_call f1 (fun _ _ h => F_74 h) [11, 0] rfl fun _ M2 f2 => (tf_call f2 (fun _ _ h => F_65 h) [5, 6, 7, 8] rfl fun _ M3 f3 => (tf_jump f3))) (tf_call f1 (fun _ _ h => F_74 h) [11, 0] rfl fun _ M2 f2 => (tf_call f2 (fun _ _ h => F_65 h) [5, 6, 7, 8] rfl fun _ M3 f3 => (tf_jump f3)))))) (tf_call pFr_refl (fun _ _ h => F_66 h) [9, 10] rfl fun _ M1 f1 => (tf_ret f1))) (tf_if (tf_call pFr_refl (fun _ _ h => F_73 h) [1, 2, 3, 5, 6, 7, 8, 9, 10] rfl fun _ M1 f1 => (tf_if (tf_call f1 (fun _ _ h => F_75 h) [0, 1, 2, 3, 4] rfl fun _ M2 f2 => (tf_jump f2)) (tf_ret f1))) (tf_if (tf_put pFr_refl 4 rfl fun M1 f1 => (tf_if (tf_if (tf_call f1 (fun _ _ h => F_74 h) [11, 0] rfl fun _ M2 f2 => (tf_call f2 (fun _ _ h => F_65 h) [5, 6, 7, 8] rfl fun _ M3 f3 => (tf_jump f3))) (tf_call f1 (fun _ _ h => F_74 h) [11, 0] rfl fun _ M2 f2 => (tf_call f2 (fun _ _ h => F_65 h) [5, 6, 7, 8] rfl fun _ M3 f3 => (tf_jump f3)))) (tf_if (tf_call f1 (fun _ _ h => F_74 h) [11, 0] rfl fun _ M2 f2 => (tf_call f2 (fun _ _ h => F_65 h) [5, 6, 7, 8] rfl fun _ M3 f3 => (tf_jump f3))) (tf_call f1 (fun _ _ h => F_74 h) [11, 0] rfl fun _ M2 f2 => (tf_call f2 (fun _ _ h => F_65 h) [5, 6, 7, 8] rfl fun _ M3 f3 => (tf_jump f3)))))) (tf_call pFr_refl (fun _ _ h => F_66 h) [9, 10] rfl fun _ M1 f1 => (tf_ret f1))))))
theorem F_76 {M : pMem} {v : Int32} {N : pMem} (h : D_76 M v N) : pFr (l_76) M N :=
  (show pTf (l_76) M (D_76 M) from (tf_put pFr_refl 0 rfl fun M1 f1 => (tf_jumpL (fun _ _ M _ N => pFr (l_76) M N) (FC_76) rfl f1))) v N h
/-- TwoCampsModel.readLaw()I -/
def S_77_1 (P1 : Int32 → pMem → pT Int32) (x1 : Int32) (M : pMem) : pT Int32 := tIf (¬ (M 188 27) = (kI 2)) (tIf (¬ (M 188 27) = 0) (tCall (D_66 (kI 1) M) fun v1 M1 => tRet v1 M1) (tRet x1 M)) (tIf ((kI 5) < (M 188 28)) (tIf (¬ (M 188 27) = 0) (tCall (D_66 (kI 1) M) fun v1 M1 => tRet v1 M1) (tRet x1 M)) (tIf (¬ x1 = (kI 16)) (tGd (pIn ((kI 64) + x1) 80) <| tPut (aPut M 205 (ix ((kI 64) + x1)) (M 188 28)) fun M1 => tCall (D_65 M1) fun _ M2 => tGd (pIn ((kI 64) + x1) 80) <| tPut (aPut M2 206 (ix ((kI 64) + x1)) (M2 188 38)) fun M3 => tCall (D_72 M3) fun v2 M4 => tIf (¬ v2 = (kI (-1))) (tGd (pIn ((kI 64) + x1) 80) <| tPut (aPut M4 207 (ix ((kI 64) + x1)) (M4 188 38)) fun M5 => tIf ((f_67 (kI 11) M5) = 0) (tGd (pIn ((kI 64) + x1) 80) <| tPut (aPut M5 208 (ix ((kI 64) + x1)) (M5 188 38)) fun M6 => tIf (¬ (f_68 (kI 59) M6) = 0) (tCall (D_65 M6) fun _ M7 => P1 (x1 + (kI 1)) M7) (tCall (D_66 (kI 1) M6) fun v3 M7 => tRet v3 M7)) (tCall (D_65 M5) fun _ M6 => tCall (D_76 M6) fun v4 M7 => tIf (¬ v4 = (kI (-1))) (tGd (pIn ((kI 64) + x1) 80) <| tPut (aPut M7 208 (ix ((kI 64) + x1)) (M7 188 38)) fun M8 => tIf (¬ (f_68 (kI 59) M8) = 0) (tCall (D_65 M8) fun _ M9 => P1 (x1 + (kI 1)) M9) (tCall (D_66 (kI 1) M8) fun v5 M9 => tRet v5 M9)) (tRet (kI (-1)) M7))) (tRet (kI (-1)) M4)) (tCall (D_66 (kI 3) M) fun v1 M1 => tRet v1 M1)))
def C_77 (P1 : Int32 → pMem → pT Int32) : Prop := (∀ (x1 : Int32) M v N, S_77_1 P1 x1 M v N → P1 x1 M v N)
def L_77_1 (x1 : Int32) (M : pMem) : pT Int32 := fun v N => ∀ P : (Int32 → pMem → pT Int32), C_77 P → P x1 M v N
def D_77 (M : pMem) : pT Int32 := L_77_1 (kI 0) M
theorem K_77 {X : aX} {F d : Nat} {K : Nat → aK} (hS : pS K) {out : Option Value × aH} (P1 : Int32 → pMem → pT Int32) (hC : C_77 P1) : ∀ f, (∀ (x1 : Int32) (u2 : Value) M, pm X F d 77 f 1 [.aload 0, .getfield 126912108, .bipush 2, .if_icmp .ne 13] [.ref 188, .int x1, u2] [] (pH K M) out → pG eI K out (P1 x1 M)) := by
  intro f
  induction f using Nat.strongRecOn with
  | _ f ih =>
    intro x1 u2 M H
    refine pG_mono (fun v N h => hC x1 M v N h) ?_
    unfold S_77_1
    replace H := pRun (ls' := [.ref 188, .int x1, u2]) (st' := [.ref 188]) 1 rfl H
    replace H := pGetN (v := M 188 27) rfl (by decide) H
    replace H := pRun (ls' := [.ref 188, .int x1, u2]) (st' := [.int (kI 2), .int (M 188 27)]) 1 rfl H
    rcases pIfc (n1 := 13) rfl (mcb_77 rfl) (mcb_77 rfl) H with ⟨g1, g0, _, H⟩ | ⟨g1, g0, _, H⟩
    · refine pG_pos (c := ¬ (M 188 27) = (kI 2)) g1 ?_
      replace H := pRun (ls' := [.ref 188, .int x1, u2]) (st' := [.ref 188]) 1 rfl H
      replace H := pGetN (v := M 188 27) rfl (by decide) H
      rcases pIf0 (n1 := 15) rfl (mcb_77 rfl) (mcb_77 rfl) H with ⟨g2, g0, _, H⟩ | ⟨g2, g0, _, H⟩
      · refine pG_pos (c := ¬ (M 188 27) = 0) g2 ?_
        replace H := pRun (ls' := [.ref 188, .int x1, u2]) (st' := [.int (kI 1), .ref 188]) 2 rfl H
        obtain ⟨rv, h1, hc, H⟩ := pCalV 66 1 188 (as := [.int (kI 1)]) (rest := []) rfl (by decide) (by decide +kernel) rfl rfl H
        obtain ⟨v1, M1, hD, H⟩ := pUseI (D_66_ok hS hc) H
        refine pG_call (x := v1) (M1 := M1) hD ?_
        obtain ⟨g0, _, H⟩ := pFall (mcb_77 rfl) H
        exact pG_ret (pRetI H)
      · refine pG_neg (c := ¬ (M 188 27) = 0) g2 ?_
        replace H := pRun (ls' := [.ref 188, .int x1, u2]) (st' := [.int x1]) 1 rfl H
        obtain ⟨g0, _, H⟩ := pGo (n1 := 16) rfl (mcb_77 rfl) H
        exact pG_ret (pRetI H)
    · refine pG_neg (c := ¬ (M 188 27) = (kI 2)) g1 ?_
      replace H := pRun (ls' := [.ref 188, .int x1, u2]) (st' := [.ref 188]) 1 rfl H
      replace H := pGetN (v := M 188 28) rfl (by decide) H
      replace H := pRun (ls' := [.ref 188, .int x1, u2]) (st' := [.int (kI 5), .int (M 188 28)]) 1 rfl H
      rcases pIfc (n1 := 13) rfl (mcb_77 rfl) (mcb_77 rfl) H with ⟨g2, g0, _, H⟩ | ⟨g2, g0, _, H⟩
      · refine pG_pos (c := (kI 5) < (M 188 28)) g2 ?_
        replace H := pRun (ls' := [.ref 188, .int x1, u2]) (st' := [.ref 188]) 1 rfl H
        replace H := pGetN (v := M 188 27) rfl (by decide) H
        rcases pIf0 (n1 := 15) rfl (mcb_77 rfl) (mcb_77 rfl) H with ⟨g3, g0, _, H⟩ | ⟨g3, g0, _, H⟩
        · refine pG_pos (c := ¬ (M 188 27) = 0) g3 ?_
          replace H := pRun (ls' := [.ref 188, .int x1, u2]) (st' := [.int (kI 1), .ref 188]) 2 rfl H
          obtain ⟨rv, h1, hc, H⟩ := pCalV 66 1 188 (as := [.int (kI 1)]) (rest := []) rfl (by decide) (by decide +kernel) rfl rfl H
          obtain ⟨v1, M1, hD, H⟩ := pUseI (D_66_ok hS hc) H
          refine pG_call (x := v1) (M1 := M1) hD ?_
          obtain ⟨g0, _, H⟩ := pFall (mcb_77 rfl) H
          exact pG_ret (pRetI H)
        · refine pG_neg (c := ¬ (M 188 27) = 0) g3 ?_
          replace H := pRun (ls' := [.ref 188, .int x1, u2]) (st' := [.int x1]) 1 rfl H
          obtain ⟨g0, _, H⟩ := pGo (n1 := 16) rfl (mcb_77 rfl) H
          exact pG_ret (pRetI H)
      · refine pG_neg (c := (kI 5) < (M 188 28)) g2 ?_
        replace H := pRun (ls' := [.ref 188, .int x1, u2]) (st' := [.int (kI 16), .int x1]) 2 rfl H
        rcases pIfc (n1 := 5) rfl (mcb_77 rfl) (mcb_77 rfl) H with ⟨g3, g0, _, H⟩ | ⟨g3, g0, _, H⟩
        · refine pG_pos (c := ¬ x1 = (kI 16)) g3 ?_
          replace H := pRun (ls' := [.ref 188, .int x1, .int ((kI 64) + x1)]) (st' := [.ref 188]) 5 rfl H
          replace H := pGetR (r := 205) (pRf hS (by decide +kernel)) rfl H
          replace H := pRun (ls' := [.ref 188, .int x1, .int ((kI 64) + x1)]) (st' := [.ref 188, .int ((kI 64) + x1), .ref 205]) 2 rfl H
          replace H := pGetN (v := M 188 28) rfl (by decide) H
          obtain ⟨g4, M1, eM1, H⟩ := pIst (n := 80) (pLn hS (show pCa 205 80 = true by decide +kernel)) H
          refine pG_gd g4 (pG_put (M2 := M1) eM1 ?_)
          replace H := pRun (ls' := [.ref 188, .int x1, .int ((kI 64) + x1)]) (st' := [.ref 188]) 1 rfl H
          obtain ⟨rv, h1, hc, H⟩ := pCalV 65 0 188 (as := []) (rest := []) rfl (by decide) (by decide +kernel) rfl rfl H
          obtain ⟨v1, M2, hD, H⟩ := pUseU (D_65_ok hS hc) H
          refine pG_call (x := v1) (M1 := M2) hD ?_
          replace H := pRun (ls' := [.ref 188, .int x1, .int ((kI 64) + x1)]) (st' := [.ref 188]) 1 rfl H
          replace H := pGetR (r := 206) (pRf hS (by decide +kernel)) rfl H
          replace H := pRun (ls' := [.ref 188, .int x1, .int ((kI 64) + x1)]) (st' := [.ref 188, .int ((kI 64) + x1), .ref 206]) 2 rfl H
          replace H := pGetN (v := M2 188 38) rfl (by decide) H
          obtain ⟨g5, M3, eM3, H⟩ := pIst (n := 80) (pLn hS (show pCa 206 80 = true by decide +kernel)) H
          refine pG_gd g5 (pG_put (M2 := M3) eM3 ?_)
          replace H := pRun (ls' := [.ref 188, .int x1, .int ((kI 64) + x1)]) (st' := [.ref 188]) 1 rfl H
          obtain ⟨rv, h1, hc, H⟩ := pCalV 72 0 188 (as := []) (rest := []) rfl (by decide) (by decide +kernel) rfl rfl H
          obtain ⟨v2, M4, hD, H⟩ := pUseI (D_72_ok hS hc) H
          refine pG_call (x := v2) (M1 := M4) hD ?_
          replace H := pRun (ls' := [.ref 188, .int x1, .int ((kI 64) + x1)]) (st' := [.int (kI (-1)), .int v2]) 1 rfl H
          rcases pIfc (n1 := 7) rfl (mcb_77 rfl) (mcb_77 rfl) H with ⟨g6, g0, _, H⟩ | ⟨g6, g0, _, H⟩
          · refine pG_pos (c := ¬ v2 = (kI (-1))) g6 ?_
            replace H := pRun (ls' := [.ref 188, .int x1, .int ((kI 64) + x1)]) (st' := [.ref 188]) 1 rfl H
            replace H := pGetR (r := 207) (pRf hS (by decide +kernel)) rfl H
            replace H := pRun (ls' := [.ref 188, .int x1, .int ((kI 64) + x1)]) (st' := [.ref 188, .int ((kI 64) + x1), .ref 207]) 2 rfl H
            replace H := pGetN (v := M4 188 38) rfl (by decide) H
            obtain ⟨g7, M5, eM5, H⟩ := pIst (n := 80) (pLn hS (show pCa 207 80 = true by decide +kernel)) H
            refine pG_gd g7 (pG_put (M2 := M5) eM5 ?_)
            replace H := pRun (ls' := [.ref 188, .int x1, .int ((kI 64) + x1)]) (st' := [.int (kI 11), .ref 188]) 2 rfl H
            obtain ⟨rv, h1, hc, H⟩ := pCalV 67 1 188 (as := [.int (kI 11)]) (rest := []) rfl (by decide) (by decide +kernel) rfl rfl H
            replace H := pUseF (f_67_ok hS hc) H
            rcases pIf0 (n1 := 10) rfl (mcb_77 rfl) (mcb_77 rfl) H with ⟨g8, g0, _, H⟩ | ⟨g8, g0, _, H⟩
            · refine pG_pos (c := (f_67 (kI 11) M5) = 0) g8 ?_
              replace H := pRun (ls' := [.ref 188, .int x1, .int ((kI 64) + x1)]) (st' := [.ref 188]) 1 rfl H
              replace H := pGetR (r := 208) (pRf hS (by decide +kernel)) rfl H
              replace H := pRun (ls' := [.ref 188, .int x1, .int ((kI 64) + x1)]) (st' := [.ref 188, .int ((kI 64) + x1), .ref 208]) 2 rfl H
              replace H := pGetN (v := M5 188 38) rfl (by decide) H
              obtain ⟨g9, M6, eM6, H⟩ := pIst (n := 80) (pLn hS (show pCa 208 80 = true by decide +kernel)) H
              refine pG_gd g9 (pG_put (M2 := M6) eM6 ?_)
              replace H := pRun (ls' := [.ref 188, .int x1, .int ((kI 64) + x1)]) (st' := [.int (kI 59), .ref 188]) 2 rfl H
              obtain ⟨rv, h1, hc, H⟩ := pCalV 68 1 188 (as := [.int (kI 59)]) (rest := []) rfl (by decide) (by decide +kernel) rfl rfl H
              replace H := pUseF (f_68_ok hS hc) H
              rcases pIf0 (n1 := 12) rfl (mcb_77 rfl) (mcb_77 rfl) H with ⟨g10, g0, _, H⟩ | ⟨g10, g0, _, H⟩
              · refine pG_pos (c := ¬ (f_68 (kI 59) M6) = 0) g10 ?_
                replace H := pRun (ls' := [.ref 188, .int x1, .int ((kI 64) + x1)]) (st' := [.ref 188]) 1 rfl H
                obtain ⟨rv, h1, hc, H⟩ := pCalV 65 0 188 (as := []) (rest := []) rfl (by decide) (by decide +kernel) rfl rfl H
                obtain ⟨v3, M7, hD, H⟩ := pUseU (D_65_ok hS hc) H
                refine pG_call (x := v3) (M1 := M7) hD ?_
                replace H := pRun (ls' := [.ref 188, .int (x1 + (kI 1)), .int ((kI 64) + x1)]) (st' := []) 4 rfl H
                obtain ⟨g0, _, H⟩ := pGo (n1 := 1) rfl (mcb_77 rfl) H
                exact (ih _ (by omega)) _ _  _ H
              · refine pG_neg (c := ¬ (f_68 (kI 59) M6) = 0) g10 ?_
                replace H := pRun (ls' := [.ref 188, .int x1, .int ((kI 64) + x1)]) (st' := [.int (kI 1), .ref 188]) 2 rfl H
                obtain ⟨rv, h1, hc, H⟩ := pCalV 66 1 188 (as := [.int (kI 1)]) (rest := []) rfl (by decide) (by decide +kernel) rfl rfl H
                obtain ⟨v3, M7, hD, H⟩ := pUseI (D_66_ok hS hc) H
                refine pG_call (x := v3) (M1 := M7) hD ?_
                exact pG_ret (pRetI H)
            · refine pG_neg (c := (f_67 (kI 11) M5) = 0) g8 ?_
              replace H := pRun (ls' := [.ref 188, .int x1, .int ((kI 64) + x1)]) (st' := [.ref 188]) 1 rfl H
              obtain ⟨rv, h1, hc, H⟩ := pCalV 65 0 188 (as := []) (rest := []) rfl (by decide) (by decide +kernel) rfl rfl H
              obtain ⟨v3, M6, hD, H⟩ := pUseU (D_65_ok hS hc) H
              refine pG_call (x := v3) (M1 := M6) hD ?_
              replace H := pRun (ls' := [.ref 188, .int x1, .int ((kI 64) + x1)]) (st' := [.ref 188]) 1 rfl H
              obtain ⟨rv, h1, hc, H⟩ := pCalV 76 0 188 (as := []) (rest := []) rfl (by decide) (by decide +kernel) rfl rfl H
              obtain ⟨v4, M7, hD, H⟩ := pUseI (D_76_ok hS hc) H
              refine pG_call (x := v4) (M1 := M7) hD ?_
              replace H := pRun (ls' := [.ref 188, .int x1, .int ((kI 64) + x1)]) (st' := [.int (kI (-1)), .int v4]) 1 rfl H
              rcases pIfc (n1 := 10) rfl (mcb_77 rfl) (mcb_77 rfl) H with ⟨g9, g0, _, H⟩ | ⟨g9, g0, _, H⟩
              · refine pG_pos (c := ¬ v4 = (kI (-1))) g9 ?_
                replace H := pRun (ls' := [.ref 188, .int x1, .int ((kI 64) + x1)]) (st' := [.ref 188]) 1 rfl H
                replace H := pGetR (r := 208) (pRf hS (by decide +kernel)) rfl H
                replace H := pRun (ls' := [.ref 188, .int x1, .int ((kI 64) + x1)]) (st' := [.ref 188, .int ((kI 64) + x1), .ref 208]) 2 rfl H
                replace H := pGetN (v := M7 188 38) rfl (by decide) H
                obtain ⟨g10, M8, eM8, H⟩ := pIst (n := 80) (pLn hS (show pCa 208 80 = true by decide +kernel)) H
                refine pG_gd g10 (pG_put (M2 := M8) eM8 ?_)
                replace H := pRun (ls' := [.ref 188, .int x1, .int ((kI 64) + x1)]) (st' := [.int (kI 59), .ref 188]) 2 rfl H
                obtain ⟨rv, h1, hc, H⟩ := pCalV 68 1 188 (as := [.int (kI 59)]) (rest := []) rfl (by decide) (by decide +kernel) rfl rfl H
                replace H := pUseF (f_68_ok hS hc) H
                rcases pIf0 (n1 := 12) rfl (mcb_77 rfl) (mcb_77 rfl) H with ⟨g11, g0, _, H⟩ | ⟨g11, g0, _, H⟩
                · refine pG_pos (c := ¬ (f_68 (kI 59) M8) = 0) g11 ?_
                  replace H := pRun (ls' := [.ref 188, .int x1, .int ((kI 64) + x1)]) (st' := [.ref 188]) 1 rfl H
                  obtain ⟨rv, h1, hc, H⟩ := pCalV 65 0 188 (as := []) (rest := []) rfl (by decide) (by decide +kernel) rfl rfl H
                  obtain ⟨v5, M9, hD, H⟩ := pUseU (D_65_ok hS hc) H
                  refine pG_call (x := v5) (M1 := M9) hD ?_
                  replace H := pRun (ls' := [.ref 188, .int (x1 + (kI 1)), .int ((kI 64) + x1)]) (st' := []) 4 rfl H
                  obtain ⟨g0, _, H⟩ := pGo (n1 := 1) rfl (mcb_77 rfl) H
                  exact (ih _ (by omega)) _ _  _ H
                · refine pG_neg (c := ¬ (f_68 (kI 59) M8) = 0) g11 ?_
                  replace H := pRun (ls' := [.ref 188, .int x1, .int ((kI 64) + x1)]) (st' := [.int (kI 1), .ref 188]) 2 rfl H
                  obtain ⟨rv, h1, hc, H⟩ := pCalV 66 1 188 (as := [.int (kI 1)]) (rest := []) rfl (by decide) (by decide +kernel) rfl rfl H
                  obtain ⟨v5, M9, hD, H⟩ := pUseI (D_66_ok hS hc) H
                  refine pG_call (x := v5) (M1 := M9) hD ?_
                  exact pG_ret (pRetI H)
              · refine pG_neg (c := ¬ v4 = (kI (-1))) g9 ?_
                replace H := pRun (ls' := [.ref 188, .int x1, .int ((kI 64) + x1)]) (st' := [.int (kI (-1))]) 1 rfl H
                exact pG_ret (pRetI H)
          · refine pG_neg (c := ¬ v2 = (kI (-1))) g6 ?_
            replace H := pRun (ls' := [.ref 188, .int x1, .int ((kI 64) + x1)]) (st' := [.int (kI (-1))]) 1 rfl H
            exact pG_ret (pRetI H)
        · refine pG_neg (c := ¬ x1 = (kI 16)) g3 ?_
          replace H := pRun (ls' := [.ref 188, .int x1, u2]) (st' := [.int (kI 3), .ref 188]) 2 rfl H
          obtain ⟨rv, h1, hc, H⟩ := pCalV 66 1 188 (as := [.int (kI 3)]) (rest := []) rfl (by decide) (by decide +kernel) rfl rfl H
          obtain ⟨v1, M1, hD, H⟩ := pUseI (D_66_ok hS hc) H
          refine pG_call (x := v1) (M1 := M1) hD ?_
          exact pG_ret (pRetI H)
theorem L_77_1_ok {X : aX} {F d : Nat} {K : Nat → aK} (hS : pS K) {out : Option Value × aH} {f : Nat} {x1 : Int32} {u2 : Value} {M : pMem} (H : pm X F d 77 f 1 [.aload 0, .getfield 126912108, .bipush 2, .if_icmp .ne 13] [.ref 188, .int x1, u2] [] (pH K M) out) : pG eI K out (L_77_1 x1 M) := by
  refine pG_all (C := fun P : (Int32 → pMem → pT Int32) => C_77 P) (T := fun P => P x1 M) eI_inj (fun _ _ _ _ => True) ?_ (fun P hP => (K_77 hS P hP f) _ _ _ H)
  exact (fun _ _ _ _ _ => trivial)
theorem D_77_ok {X : aX} {F d : Nat} {K : Nat → aK} (hS : pS K) {M : pMem} {out : Option Value × aH} (H : aM X F d 77 [.ref 188] (pH K M) = some out) : pG eI K out (D_77 M) := by
  obtain ⟨d', g0, _, H⟩ := pEnt (n := 3) (ls := [.ref 188, aD, aD]) (mcb_77 rfl) (by decide +kernel) rfl H
  unfold D_77
  replace H := pRun (ls' := [.ref 188, .int (kI 0), aD]) (st' := []) 2 rfl H
  obtain ⟨g0, _, H⟩ := pFall (mcb_77 rfl) H
  exact L_77_1_ok hS  H
def l_77 : List (Nat × Nat) := [(188, 42), (188, 43), (205, 999), (188, 25), (188, 26), (188, 27), (188, 28), (206, 999), (210, 999), (211, 999), (188, 38), (207, 999), (208, 999), (188, 41), (188, 39), (212, 999)]
theorem FC_77 : C_77 (fun _ M _ N => pFr (l_77) M N) := fun x1 M => show pTf (l_77) M (S_77_1 _ x1 M) from (tf_if (tf_if (tf_call pFr_refl (fun _ _ h => F_66 h) [0, 1] rfl fun _ M1 f1 => (tf_ret f1)) (tf_ret pFr_refl)) (tf_if (tf_if (tf_call pFr_refl (fun _ _ h => F_66 h) [0, 1] rfl fun _ M1 f1 => (tf_ret f1)) (tf_ret pFr_refl)) (tf_if (tf_gd fun g4 => (tf_putA pFr_refl 2 rfl fun M1 f1 => (tf_call f1 (fun _ _ h => F_65 h) [3, 4, 5, 6] rfl fun _ M2 f2 => (tf_gd fun g5 => (tf_putA f2 7 rfl fun M3 f3 => (tf_call f3 (fun _ _ h => F_72 h) [8, 9, 10, 3, 4, 5, 6, 0, 1] rfl fun _ M4 f4 => (tf_if (tf_gd fun g7 => (tf_putA f4 11 rfl fun M5 f5 => (tf_if (tf_gd fun g9 => (tf_putA f5 12 rfl fun M6 f6 => (tf_if (tf_call f6 (fun _ _ h => F_65 h) [3, 4, 5, 6] rfl fun _ M7 f7 => (tf_jump f7)) (tf_call f6 (fun _ _ h => F_66 h) [0, 1] rfl fun _ M7 f7 => (tf_ret f7))))) (tf_call f5 (fun _ _ h => F_65 h) [3, 4, 5, 6] rfl fun _ M6 f6 => (tf_call f6 (fun _ _ h => F_76 h) [13, 8, 9, 10, 14, 3, 4, 5, 6, 0, 1, 15] rfl fun _ M7 f7 => (tf_if (tf_gd fun g10 => (tf_putA f7 12 rfl fun M8 f8 => (tf_if (tf_call f8 (fun _ _ h => F_65 h) [3, 4, 5, 6] rfl fun _ M9 f9 => (tf_jump f9)) (tf_call f8 (fun _ _ h => F_66 h) [0, 1] rfl fun _ M9 f9 => (tf_ret f9))))) (tf_ret f7))))))) (tf_ret f4)))))))) (tf_call pFr_refl (fun _ _ h => F_66 h) [0, 1] rfl fun _ M1 f1 => (tf_ret f1)))))
theorem F_77 {M : pMem} {v : Int32} {N : pMem} (h : D_77 M v N) : pFr (l_77) M N :=
  (show pTf (l_77) M (D_77 M) from (tf_jumpL (fun _ M _ N => pFr (l_77) M N) (FC_77) rfl pFr_refl)) v N h
/-- TwoCampsModel.takesLaw(II)V -/
def S_78_1 (p1 : Int32) (p2 : Int32) (P1 : Int32 → pMem → pT Unit) (P4 : Int32 → pMem → pT Unit) (x3 : Int32) (M : pMem) : pT Unit := tIf (p2 ≤ x3) (P4 (kI 0) M) (tGd (pIn ((kI 64) + x3) 80) <| tGd (pIn (((kI 16) * p1) + x3) 80) <| tPut (aPut M 205 (ix (((kI 16) * p1) + x3)) (M 205 (ix ((kI 64) + x3)))) fun M1 => tGd (pIn ((kI 64) + x3) 80) <| tGd (pIn (((kI 16) * p1) + x3) 80) <| tPut (aPut M1 206 (ix (((kI 16) * p1) + x3)) (M1 206 (ix ((kI 64) + x3)))) fun M2 => tGd (pIn ((kI 64) + x3) 80) <| tGd (pIn (((kI 16) * p1) + x3) 80) <| tPut (aPut M2 207 (ix (((kI 16) * p1) + x3)) (M2 207 (ix ((kI 64) + x3)))) fun M3 => tGd (pIn ((kI 64) + x3) 80) <| tGd (pIn (((kI 16) * p1) + x3) 80) <| tPut (aPut M3 208 (ix (((kI 16) * p1) + x3)) (M3 208 (ix ((kI 64) + x3)))) fun M4 => P1 (x3 + kI 1) M4)
def S_78_4 (p1 : Int32) (p2 : Int32) (P1 : Int32 → pMem → pT Unit) (P4 : Int32 → pMem → pT Unit) (x3 : Int32) (M : pMem) : pT Unit := tIf ((M 188 38) ≤ x3) (tGd (pIn p1 5) <| tPut (aPut M 204 (ix p1) p2) fun M1 => tGd (pIn p1 5) <| tPut (aPut M1 209 (ix p1) (M1 188 38)) fun M2 => tRet () M2) (tGd (pIn ((kI 2000) + x3) 2500) <| tGd (pIn (((kI 500) * p1) + x3) 2500) <| tPut (aPut M 210 (ix (((kI 500) * p1) + x3)) (M 210 (ix ((kI 2000) + x3)))) fun M1 => tGd (pIn ((kI 2000) + x3) 2500) <| tGd (pIn (((kI 500) * p1) + x3) 2500) <| tPut (aPut M1 211 (ix (((kI 500) * p1) + x3)) (M1 211 (ix ((kI 2000) + x3)))) fun M2 => P4 (x3 + kI 1) M2)
def C_78 (p1 : Int32) (p2 : Int32) (P1 : Int32 → pMem → pT Unit) (P4 : Int32 → pMem → pT Unit) : Prop := (∀ (x3 : Int32) M v N, S_78_1 p1 p2 P1 P4 x3 M v N → P1 x3 M v N) ∧ (∀ (x3 : Int32) M v N, S_78_4 p1 p2 P1 P4 x3 M v N → P4 x3 M v N)
def L_78_1 (p1 : Int32) (p2 : Int32) (x3 : Int32) (M : pMem) : pT Unit := fun v N => ∀ P : (Int32 → pMem → pT Unit) × (Int32 → pMem → pT Unit), C_78 p1 p2 P.1 P.2 → P.1 x3 M v N
def L_78_4 (p1 : Int32) (p2 : Int32) (x3 : Int32) (M : pMem) : pT Unit := fun v N => ∀ P : (Int32 → pMem → pT Unit) × (Int32 → pMem → pT Unit), C_78 p1 p2 P.1 P.2 → P.2 x3 M v N
def D_78 (p1 : Int32) (p2 : Int32) (M : pMem) : pT Unit := L_78_1 p1 p2 (kI 0) M
theorem K_78 {X : aX} {F d : Nat} {K : Nat → aK} (hS : pS K) {p1 : Int32} {p2 : Int32} {out : Option Value × aH} (P1 : Int32 → pMem → pT Unit) (P4 : Int32 → pMem → pT Unit) (hC : C_78 p1 p2 P1 P4) : ∀ f, (∀ (x3 : Int32) M, pm X F d 78 f 1 [.iload 3, .iload 2, .if_icmp .ge 3] [.ref 188, .int p1, .int p2, .int x3] [] (pH K M) out → pG eU K out (P1 x3 M)) ∧ (∀ (x3 : Int32) M, pm X F d 78 f 4 [.iload 3, .aload 0, .getfield 128012152, .if_icmp .ge 6] [.ref 188, .int p1, .int p2, .int x3] [] (pH K M) out → pG eU K out (P4 x3 M)) := by
  intro f
  induction f using Nat.strongRecOn with
  | _ f ih =>
    refine ⟨?_, ?_⟩
    · intro x3 M H
      refine pG_mono (fun v N h => hC.1 x3 M v N h) ?_
      unfold S_78_1
      replace H := pRun (ls' := [.ref 188, .int p1, .int p2, .int x3]) (st' := [.int p2, .int x3]) 2 rfl H
      rcases pIfc (n1 := 3) rfl (mcb_78 rfl) (mcb_78 rfl) H with ⟨g1, g0, _, H⟩ | ⟨g1, g0, _, H⟩
      · refine pG_pos (c := p2 ≤ x3) g1 ?_
        replace H := pRun (ls' := [.ref 188, .int p1, .int p2, .int (kI 0)]) (st' := []) 2 rfl H
        obtain ⟨g0, _, H⟩ := pFall (mcb_78 rfl) H
        exact (ih _ (by omega)).2 _  _ H
      · refine pG_neg (c := p2 ≤ x3) g1 ?_
        replace H := pRun (ls' := [.ref 188, .int p1, .int p2, .int x3]) (st' := [.ref 188]) 1 rfl H
        replace H := pGetR (r := 205) (pRf hS (by decide +kernel)) rfl H
        replace H := pRun (ls' := [.ref 188, .int p1, .int p2, .int x3]) (st' := [.ref 188, .int (((kI 16) * p1) + x3), .ref 205]) 6 rfl H
        replace H := pGetR (r := 205) (pRf hS (by decide +kernel)) rfl H
        replace H := pRun (ls' := [.ref 188, .int p1, .int p2, .int x3]) (st' := [.int ((kI 64) + x3), .ref 205, .int (((kI 16) * p1) + x3), .ref 205]) 3 rfl H
        obtain ⟨g2, H⟩ := pIld (n := 80) (pLt (show pCa 205 80 = true by decide +kernel)) (pLn hS (show pCa 205 80 = true by decide +kernel)) H
        refine pG_gd g2 ?_
        obtain ⟨g3, M1, eM1, H⟩ := pIst (n := 80) (pLn hS (show pCa 205 80 = true by decide +kernel)) H
        refine pG_gd g3 (pG_put (M2 := M1) eM1 ?_)
        replace H := pRun (ls' := [.ref 188, .int p1, .int p2, .int x3]) (st' := [.ref 188]) 1 rfl H
        replace H := pGetR (r := 206) (pRf hS (by decide +kernel)) rfl H
        replace H := pRun (ls' := [.ref 188, .int p1, .int p2, .int x3]) (st' := [.ref 188, .int (((kI 16) * p1) + x3), .ref 206]) 6 rfl H
        replace H := pGetR (r := 206) (pRf hS (by decide +kernel)) rfl H
        replace H := pRun (ls' := [.ref 188, .int p1, .int p2, .int x3]) (st' := [.int ((kI 64) + x3), .ref 206, .int (((kI 16) * p1) + x3), .ref 206]) 3 rfl H
        obtain ⟨g4, H⟩ := pIld (n := 80) (pLt (show pCa 206 80 = true by decide +kernel)) (pLn hS (show pCa 206 80 = true by decide +kernel)) H
        refine pG_gd g4 ?_
        obtain ⟨g5, M2, eM2, H⟩ := pIst (n := 80) (pLn hS (show pCa 206 80 = true by decide +kernel)) H
        refine pG_gd g5 (pG_put (M2 := M2) eM2 ?_)
        replace H := pRun (ls' := [.ref 188, .int p1, .int p2, .int x3]) (st' := [.ref 188]) 1 rfl H
        replace H := pGetR (r := 207) (pRf hS (by decide +kernel)) rfl H
        replace H := pRun (ls' := [.ref 188, .int p1, .int p2, .int x3]) (st' := [.ref 188, .int (((kI 16) * p1) + x3), .ref 207]) 6 rfl H
        replace H := pGetR (r := 207) (pRf hS (by decide +kernel)) rfl H
        replace H := pRun (ls' := [.ref 188, .int p1, .int p2, .int x3]) (st' := [.int ((kI 64) + x3), .ref 207, .int (((kI 16) * p1) + x3), .ref 207]) 3 rfl H
        obtain ⟨g6, H⟩ := pIld (n := 80) (pLt (show pCa 207 80 = true by decide +kernel)) (pLn hS (show pCa 207 80 = true by decide +kernel)) H
        refine pG_gd g6 ?_
        obtain ⟨g7, M3, eM3, H⟩ := pIst (n := 80) (pLn hS (show pCa 207 80 = true by decide +kernel)) H
        refine pG_gd g7 (pG_put (M2 := M3) eM3 ?_)
        replace H := pRun (ls' := [.ref 188, .int p1, .int p2, .int x3]) (st' := [.ref 188]) 1 rfl H
        replace H := pGetR (r := 208) (pRf hS (by decide +kernel)) rfl H
        replace H := pRun (ls' := [.ref 188, .int p1, .int p2, .int x3]) (st' := [.ref 188, .int (((kI 16) * p1) + x3), .ref 208]) 6 rfl H
        replace H := pGetR (r := 208) (pRf hS (by decide +kernel)) rfl H
        replace H := pRun (ls' := [.ref 188, .int p1, .int p2, .int x3]) (st' := [.int ((kI 64) + x3), .ref 208, .int (((kI 16) * p1) + x3), .ref 208]) 3 rfl H
        obtain ⟨g8, H⟩ := pIld (n := 80) (pLt (show pCa 208 80 = true by decide +kernel)) (pLn hS (show pCa 208 80 = true by decide +kernel)) H
        refine pG_gd g8 ?_
        obtain ⟨g9, M4, eM4, H⟩ := pIst (n := 80) (pLn hS (show pCa 208 80 = true by decide +kernel)) H
        refine pG_gd g9 (pG_put (M2 := M4) eM4 ?_)
        replace H := pRun (ls' := [.ref 188, .int p1, .int p2, .int (x3 + kI 1)]) (st' := []) 1 rfl H
        obtain ⟨g0, _, H⟩ := pGo (n1 := 1) rfl (mcb_78 rfl) H
        exact (ih _ (by omega)).1 _  _ H
    · intro x3 M H
      refine pG_mono (fun v N h => hC.2 x3 M v N h) ?_
      unfold S_78_4
      replace H := pRun (ls' := [.ref 188, .int p1, .int p2, .int x3]) (st' := [.ref 188, .int x3]) 2 rfl H
      replace H := pGetN (v := M 188 38) rfl (by decide) H
      rcases pIfc (n1 := 6) rfl (mcb_78 rfl) (mcb_78 rfl) H with ⟨g1, g0, _, H⟩ | ⟨g1, g0, _, H⟩
      · refine pG_pos (c := (M 188 38) ≤ x3) g1 ?_
        replace H := pRun (ls' := [.ref 188, .int p1, .int p2, .int x3]) (st' := [.ref 188]) 1 rfl H
        replace H := pGetR (r := 204) (pRf hS (by decide +kernel)) rfl H
        replace H := pRun (ls' := [.ref 188, .int p1, .int p2, .int x3]) (st' := [.int p2, .int p1, .ref 204]) 2 rfl H
        obtain ⟨g2, M1, eM1, H⟩ := pIst (n := 5) (pLn hS (show pCa 204 5 = true by decide +kernel)) H
        refine pG_gd g2 (pG_put (M2 := M1) eM1 ?_)
        replace H := pRun (ls' := [.ref 188, .int p1, .int p2, .int x3]) (st' := [.ref 188]) 1 rfl H
        replace H := pGetR (r := 209) (pRf hS (by decide +kernel)) rfl H
        replace H := pRun (ls' := [.ref 188, .int p1, .int p2, .int x3]) (st' := [.ref 188, .int p1, .ref 209]) 2 rfl H
        replace H := pGetN (v := M1 188 38) rfl (by decide) H
        obtain ⟨g3, M2, eM2, H⟩ := pIst (n := 5) (pLn hS (show pCa 209 5 = true by decide +kernel)) H
        refine pG_gd g3 (pG_put (M2 := M2) eM2 ?_)
        exact pG_ret (pRetU H)
      · refine pG_neg (c := (M 188 38) ≤ x3) g1 ?_
        replace H := pRun (ls' := [.ref 188, .int p1, .int p2, .int x3]) (st' := [.ref 188]) 1 rfl H
        replace H := pGetR (r := 210) (pRf hS (by decide +kernel)) rfl H
        replace H := pRun (ls' := [.ref 188, .int p1, .int p2, .int x3]) (st' := [.ref 188, .int (((kI 500) * p1) + x3), .ref 210]) 6 rfl H
        replace H := pGetR (r := 210) (pRf hS (by decide +kernel)) rfl H
        replace H := pRun (ls' := [.ref 188, .int p1, .int p2, .int x3]) (st' := [.int ((kI 2000) + x3), .ref 210, .int (((kI 500) * p1) + x3), .ref 210]) 3 rfl H
        obtain ⟨g2, H⟩ := pIld (n := 2500) (pLt (show pCa 210 2500 = true by decide +kernel)) (pLn hS (show pCa 210 2500 = true by decide +kernel)) H
        refine pG_gd g2 ?_
        obtain ⟨g3, M1, eM1, H⟩ := pIst (n := 2500) (pLn hS (show pCa 210 2500 = true by decide +kernel)) H
        refine pG_gd g3 (pG_put (M2 := M1) eM1 ?_)
        replace H := pRun (ls' := [.ref 188, .int p1, .int p2, .int x3]) (st' := [.ref 188]) 1 rfl H
        replace H := pGetR (r := 211) (pRf hS (by decide +kernel)) rfl H
        replace H := pRun (ls' := [.ref 188, .int p1, .int p2, .int x3]) (st' := [.ref 188, .int (((kI 500) * p1) + x3), .ref 211]) 6 rfl H
        replace H := pGetR (r := 211) (pRf hS (by decide +kernel)) rfl H
        replace H := pRun (ls' := [.ref 188, .int p1, .int p2, .int x3]) (st' := [.int ((kI 2000) + x3), .ref 211, .int (((kI 500) * p1) + x3), .ref 211]) 3 rfl H
        obtain ⟨g4, H⟩ := pIld (n := 2500) (pLt (show pCa 211 2500 = true by decide +kernel)) (pLn hS (show pCa 211 2500 = true by decide +kernel)) H
        refine pG_gd g4 ?_
        obtain ⟨g5, M2, eM2, H⟩ := pIst (n := 2500) (pLn hS (show pCa 211 2500 = true by decide +kernel)) H
        refine pG_gd g5 (pG_put (M2 := M2) eM2 ?_)
        replace H := pRun (ls' := [.ref 188, .int p1, .int p2, .int (x3 + kI 1)]) (st' := []) 1 rfl H
        obtain ⟨g0, _, H⟩ := pGo (n1 := 4) rfl (mcb_78 rfl) H
        exact (ih _ (by omega)).2 _  _ H
theorem L_78_1_ok {X : aX} {F d : Nat} {K : Nat → aK} (hS : pS K) {p1 : Int32} {p2 : Int32} {out : Option Value × aH} {f : Nat} {x3 : Int32} {M : pMem} (H : pm X F d 78 f 1 [.iload 3, .iload 2, .if_icmp .ge 3] [.ref 188, .int p1, .int p2, .int x3] [] (pH K M) out) : pG eU K out (L_78_1 p1 p2 x3 M) := by
  refine pG_all (C := fun P : (Int32 → pMem → pT Unit) × (Int32 → pMem → pT Unit) => C_78 p1 p2 P.1 P.2) (T := fun P => P.1 x3 M) eU_inj ((fun _ _ _ _ => True), (fun _ _ _ _ => True)) ?_ (fun P hP => (K_78 hS P.1 P.2 hP f).1 _ _ H)
  exact ⟨(fun _ _ _ _ _ => trivial), (fun _ _ _ _ _ => trivial)⟩
theorem L_78_4_ok {X : aX} {F d : Nat} {K : Nat → aK} (hS : pS K) {p1 : Int32} {p2 : Int32} {out : Option Value × aH} {f : Nat} {x3 : Int32} {M : pMem} (H : pm X F d 78 f 4 [.iload 3, .aload 0, .getfield 128012152, .if_icmp .ge 6] [.ref 188, .int p1, .int p2, .int x3] [] (pH K M) out) : pG eU K out (L_78_4 p1 p2 x3 M) := by
  refine pG_all (C := fun P : (Int32 → pMem → pT Unit) × (Int32 → pMem → pT Unit) => C_78 p1 p2 P.1 P.2) (T := fun P => P.2 x3 M) eU_inj ((fun _ _ _ _ => True), (fun _ _ _ _ => True)) ?_ (fun P hP => (K_78 hS P.1 P.2 hP f).2 _ _ H)
  exact ⟨(fun _ _ _ _ _ => trivial), (fun _ _ _ _ _ => trivial)⟩
theorem D_78_ok {X : aX} {F d : Nat} {K : Nat → aK} (hS : pS K) {p1 : Int32} {p2 : Int32} {M : pMem} {out : Option Value × aH} (H : aM X F d 78 [.ref 188, .int p1, .int p2] (pH K M) = some out) : pG eU K out (D_78 p1 p2 M) := by
  obtain ⟨d', g0, _, H⟩ := pEnt (n := 4) (ls := [.ref 188, .int p1, .int p2, aD]) (mcb_78 rfl) (by decide +kernel) rfl H
  unfold D_78
  replace H := pRun (ls' := [.ref 188, .int p1, .int p2, .int (kI 0)]) (st' := []) 2 rfl H
  obtain ⟨g0, _, H⟩ := pFall (mcb_78 rfl) H
  exact L_78_1_ok hS  H
def l_78 : List (Nat × Nat) := [(205, 999), (206, 999), (207, 999), (208, 999), (204, 999), (209, 999), (210, 999), (211, 999)]
theorem FC_78 {p1 : Int32} {p2 : Int32} : C_78 p1 p2 (fun _ M _ N => pFr (l_78) M N) (fun _ M _ N => pFr (l_78) M N) := ⟨fun x3 M => show pTf (l_78) M (S_78_1 p1 p2 _ _ x3 M) from (tf_if (tf_jump pFr_refl) (tf_gd fun g2 => (tf_gd fun g3 => (tf_putA pFr_refl 0 rfl fun M1 f1 => (tf_gd fun g4 => (tf_gd fun g5 => (tf_putA f1 1 rfl fun M2 f2 => (tf_gd fun g6 => (tf_gd fun g7 => (tf_putA f2 2 rfl fun M3 f3 => (tf_gd fun g8 => (tf_gd fun g9 => (tf_putA f3 3 rfl fun M4 f4 => (tf_jump f4)))))))))))))), fun x3 M => show pTf (l_78) M (S_78_4 p1 p2 _ _ x3 M) from (tf_if (tf_gd fun g2 => (tf_putA pFr_refl 4 rfl fun M1 f1 => (tf_gd fun g3 => (tf_putA f1 5 rfl fun M2 f2 => (tf_ret f2))))) (tf_gd fun g2 => (tf_gd fun g3 => (tf_putA pFr_refl 6 rfl fun M1 f1 => (tf_gd fun g4 => (tf_gd fun g5 => (tf_putA f1 7 rfl fun M2 f2 => (tf_jump f2))))))))⟩
theorem F_78 {p1 : Int32} {p2 : Int32} {M : pMem} {v : Unit} {N : pMem} (h : D_78 p1 p2 M v N) : pFr (l_78) M N :=
  (show pTf (l_78) M (D_78 p1 p2 M) from (tf_jumpL (fun _ M _ N => pFr (l_78) M N, fun _ M _ N => pFr (l_78) M N) (FC_78) rfl pFr_refl)) v N h
/-- TwoCampsModel.readPlan()I -/
def S_79_1 (P1 : Int32 → pMem → pT Int32) (x1 : Int32) (M : pMem) : pT Int32 := tIf (¬ (M 188 27) = (kI 2)) (tIf (¬ (M 188 27) = 0) (tCall (D_66 (kI 1) M) fun v1 M1 => tRet v1 M1) (tRet x1 M)) (tIf ((f_42 (M 188 28) (kI 6) (kI 10)) = 0) (tIf (¬ (M 188 27) = 0) (tCall (D_66 (kI 1) M) fun v1 M1 => tRet v1 M1) (tRet x1 M)) (tIf (¬ x1 = (kI 24)) (tGd (pIn ((kI 96) + x1) 120) <| tPut (aPut M 214 (ix ((kI 96) + x1)) (M 188 28)) fun M1 => tGd (pIn ((kI 96) + x1) 120) <| tPut (aPut M1 215 (ix ((kI 96) + x1)) (kI 0)) fun M2 => tCall (D_65 M2) fun _ M3 => tIf ((M 188 28) = (kI 7)) (tIf ((M3 188 27) = (kI 3)) (tIf (¬ (M 188 28) = (kI 10)) (tIf ((M3 188 28) ≤ (kI 9)) (tGd (pIn ((kI 96) + x1) 120) <| tPut (aPut M3 215 (ix ((kI 96) + x1)) (M3 188 28)) fun M4 => tCall (D_65 M4) fun _ M5 => tIf (¬ (f_68 (kI 59) M5) = 0) (tCall (D_65 M5) fun _ M6 => P1 (x1 + (kI 1)) M6) (tCall (D_66 (kI 1) M5) fun v3 M6 => tRet v3 M6)) (tCall (D_66 (kI 2) M3) fun v2 M4 => tRet v2 M4)) (tIf ((M3 188 28) ≤ (kI 1)) (tGd (pIn ((kI 96) + x1) 120) <| tPut (aPut M3 215 (ix ((kI 96) + x1)) (M3 188 28)) fun M4 => tCall (D_65 M4) fun _ M5 => tIf (¬ (f_68 (kI 59) M5) = 0) (tCall (D_65 M5) fun _ M6 => P1 (x1 + (kI 1)) M6) (tCall (D_66 (kI 1) M5) fun v3 M6 => tRet v3 M6)) (tCall (D_66 (kI 2) M3) fun v2 M4 => tRet v2 M4))) (tCall (D_66 (kI 1) M3) fun v2 M4 => tRet v2 M4)) (tIf (¬ (M 188 28) = (kI 10)) (tIf (¬ (f_68 (kI 59) M3) = 0) (tCall (D_65 M3) fun _ M4 => P1 (x1 + (kI 1)) M4) (tCall (D_66 (kI 1) M3) fun v2 M4 => tRet v2 M4)) (tIf ((M3 188 27) = (kI 3)) (tIf (¬ (M 188 28) = (kI 10)) (tIf ((M3 188 28) ≤ (kI 9)) (tGd (pIn ((kI 96) + x1) 120) <| tPut (aPut M3 215 (ix ((kI 96) + x1)) (M3 188 28)) fun M4 => tCall (D_65 M4) fun _ M5 => tIf (¬ (f_68 (kI 59) M5) = 0) (tCall (D_65 M5) fun _ M6 => P1 (x1 + (kI 1)) M6) (tCall (D_66 (kI 1) M5) fun v3 M6 => tRet v3 M6)) (tCall (D_66 (kI 2) M3) fun v2 M4 => tRet v2 M4)) (tIf ((M3 188 28) ≤ (kI 1)) (tGd (pIn ((kI 96) + x1) 120) <| tPut (aPut M3 215 (ix ((kI 96) + x1)) (M3 188 28)) fun M4 => tCall (D_65 M4) fun _ M5 => tIf (¬ (f_68 (kI 59) M5) = 0) (tCall (D_65 M5) fun _ M6 => P1 (x1 + (kI 1)) M6) (tCall (D_66 (kI 1) M5) fun v3 M6 => tRet v3 M6)) (tCall (D_66 (kI 2) M3) fun v2 M4 => tRet v2 M4))) (tCall (D_66 (kI 1) M3) fun v2 M4 => tRet v2 M4)))) (tCall (D_66 (kI 3) M) fun v1 M1 => tRet v1 M1)))
def C_79 (P1 : Int32 → pMem → pT Int32) : Prop := (∀ (x1 : Int32) M v N, S_79_1 P1 x1 M v N → P1 x1 M v N)
def L_79_1 (x1 : Int32) (M : pMem) : pT Int32 := fun v N => ∀ P : (Int32 → pMem → pT Int32), C_79 P → P x1 M v N
def D_79 (M : pMem) : pT Int32 := L_79_1 (kI 0) M
theorem K_79 {X : aX} {F d : Nat} {K : Nat → aK} (hS : pS K) {out : Option Value × aH} (P1 : Int32 → pMem → pT Int32) (hC : C_79 P1) : ∀ f, (∀ (x1 : Int32) (u2 : Value) M, pm X F d 79 f 1 [.aload 0, .getfield 126912108, .bipush 2, .if_icmp .ne 18] [.ref 188, .int x1, u2] [] (pH K M) out → pG eI K out (P1 x1 M)) := by
  intro f
  induction f using Nat.strongRecOn with
  | _ f ih =>
    intro x1 u2 M H
    refine pG_mono (fun v N h => hC x1 M v N h) ?_
    unfold S_79_1
    replace H := pRun (ls' := [.ref 188, .int x1, u2]) (st' := [.ref 188]) 1 rfl H
    replace H := pGetN (v := M 188 27) rfl (by decide) H
    replace H := pRun (ls' := [.ref 188, .int x1, u2]) (st' := [.int (kI 2), .int (M 188 27)]) 1 rfl H
    rcases pIfc (n1 := 18) rfl (mcb_79 rfl) (mcb_79 rfl) H with ⟨g1, g0, _, H⟩ | ⟨g1, g0, _, H⟩
    · refine pG_pos (c := ¬ (M 188 27) = (kI 2)) g1 ?_
      replace H := pRun (ls' := [.ref 188, .int x1, u2]) (st' := [.ref 188]) 1 rfl H
      replace H := pGetN (v := M 188 27) rfl (by decide) H
      rcases pIf0 (n1 := 20) rfl (mcb_79 rfl) (mcb_79 rfl) H with ⟨g2, g0, _, H⟩ | ⟨g2, g0, _, H⟩
      · refine pG_pos (c := ¬ (M 188 27) = 0) g2 ?_
        replace H := pRun (ls' := [.ref 188, .int x1, u2]) (st' := [.int (kI 1), .ref 188]) 2 rfl H
        obtain ⟨rv, h1, hc, H⟩ := pCalV 66 1 188 (as := [.int (kI 1)]) (rest := []) rfl (by decide) (by decide +kernel) rfl rfl H
        obtain ⟨v1, M1, hD, H⟩ := pUseI (D_66_ok hS hc) H
        refine pG_call (x := v1) (M1 := M1) hD ?_
        obtain ⟨g0, _, H⟩ := pFall (mcb_79 rfl) H
        exact pG_ret (pRetI H)
      · refine pG_neg (c := ¬ (M 188 27) = 0) g2 ?_
        replace H := pRun (ls' := [.ref 188, .int x1, u2]) (st' := [.int x1]) 1 rfl H
        obtain ⟨g0, _, H⟩ := pGo (n1 := 21) rfl (mcb_79 rfl) H
        exact pG_ret (pRetI H)
    · refine pG_neg (c := ¬ (M 188 27) = (kI 2)) g1 ?_
      replace H := pRun (ls' := [.ref 188, .int x1, u2]) (st' := [.ref 188, .ref 188]) 2 rfl H
      replace H := pGetN (v := M 188 28) rfl (by decide) H
      replace H := pRun (ls' := [.ref 188, .int x1, u2]) (st' := [.int (kI 10), .int (kI 6), .int (M 188 28), .ref 188]) 2 rfl H
      obtain ⟨rv, h1, hc, H⟩ := pCalV 42 3 188 (as := [.int (M 188 28), .int (kI 6), .int (kI 10)]) (rest := []) rfl (by decide) (by decide +kernel) rfl rfl H
      replace H := pUseF (f_42_ok hS hc) H
      rcases pIf0 (n1 := 18) rfl (mcb_79 rfl) (mcb_79 rfl) H with ⟨g2, g0, _, H⟩ | ⟨g2, g0, _, H⟩
      · refine pG_pos (c := (f_42 (M 188 28) (kI 6) (kI 10)) = 0) g2 ?_
        replace H := pRun (ls' := [.ref 188, .int x1, u2]) (st' := [.ref 188]) 1 rfl H
        replace H := pGetN (v := M 188 27) rfl (by decide) H
        rcases pIf0 (n1 := 20) rfl (mcb_79 rfl) (mcb_79 rfl) H with ⟨g3, g0, _, H⟩ | ⟨g3, g0, _, H⟩
        · refine pG_pos (c := ¬ (M 188 27) = 0) g3 ?_
          replace H := pRun (ls' := [.ref 188, .int x1, u2]) (st' := [.int (kI 1), .ref 188]) 2 rfl H
          obtain ⟨rv, h1, hc, H⟩ := pCalV 66 1 188 (as := [.int (kI 1)]) (rest := []) rfl (by decide) (by decide +kernel) rfl rfl H
          obtain ⟨v1, M1, hD, H⟩ := pUseI (D_66_ok hS hc) H
          refine pG_call (x := v1) (M1 := M1) hD ?_
          obtain ⟨g0, _, H⟩ := pFall (mcb_79 rfl) H
          exact pG_ret (pRetI H)
        · refine pG_neg (c := ¬ (M 188 27) = 0) g3 ?_
          replace H := pRun (ls' := [.ref 188, .int x1, u2]) (st' := [.int x1]) 1 rfl H
          obtain ⟨g0, _, H⟩ := pGo (n1 := 21) rfl (mcb_79 rfl) H
          exact pG_ret (pRetI H)
      · refine pG_neg (c := (f_42 (M 188 28) (kI 6) (kI 10)) = 0) g2 ?_
        replace H := pRun (ls' := [.ref 188, .int x1, u2]) (st' := [.int (kI 24), .int x1]) 2 rfl H
        rcases pIfc (n1 := 5) rfl (mcb_79 rfl) (mcb_79 rfl) H with ⟨g3, g0, _, H⟩ | ⟨g3, g0, _, H⟩
        · refine pG_pos (c := ¬ x1 = (kI 24)) g3 ?_
          replace H := pRun (ls' := [.ref 188, .int x1, u2]) (st' := [.ref 188]) 1 rfl H
          replace H := pGetN (v := M 188 28) rfl (by decide) H
          replace H := pRun (ls' := [.ref 188, .int x1, .int (M 188 28)]) (st' := [.ref 188]) 2 rfl H
          replace H := pGetR (r := 214) (pRf hS (by decide +kernel)) rfl H
          replace H := pRun (ls' := [.ref 188, .int x1, .int (M 188 28)]) (st' := [.int (M 188 28), .int ((kI 96) + x1), .ref 214]) 4 rfl H
          obtain ⟨g4, M1, eM1, H⟩ := pIst (n := 120) (pLn hS (show pCa 214 120 = true by decide +kernel)) H
          refine pG_gd g4 (pG_put (M2 := M1) eM1 ?_)
          replace H := pRun (ls' := [.ref 188, .int x1, .int (M 188 28)]) (st' := [.ref 188]) 1 rfl H
          replace H := pGetR (r := 215) (pRf hS (by decide +kernel)) rfl H
          replace H := pRun (ls' := [.ref 188, .int x1, .int (M 188 28)]) (st' := [.int (kI 0), .int ((kI 96) + x1), .ref 215]) 4 rfl H
          obtain ⟨g5, M2, eM2, H⟩ := pIst (n := 120) (pLn hS (show pCa 215 120 = true by decide +kernel)) H
          refine pG_gd g5 (pG_put (M2 := M2) eM2 ?_)
          replace H := pRun (ls' := [.ref 188, .int x1, .int (M 188 28)]) (st' := [.ref 188]) 1 rfl H
          obtain ⟨rv, h1, hc, H⟩ := pCalV 65 0 188 (as := []) (rest := []) rfl (by decide) (by decide +kernel) rfl rfl H
          obtain ⟨v1, M3, hD, H⟩ := pUseU (D_65_ok hS hc) H
          refine pG_call (x := v1) (M1 := M3) hD ?_
          replace H := pRun (ls' := [.ref 188, .int x1, .int (M 188 28)]) (st' := [.int (kI 7), .int (M 188 28)]) 2 rfl H
          rcases pIfc (n1 := 7) rfl (mcb_79 rfl) (mcb_79 rfl) H with ⟨g6, g0, _, H⟩ | ⟨g6, g0, _, H⟩
          · refine pG_pos (c := (M 188 28) = (kI 7)) g6 ?_
            replace H := pRun (ls' := [.ref 188, .int x1, .int (M 188 28)]) (st' := [.ref 188]) 1 rfl H
            replace H := pGetN (v := M3 188 27) rfl (by decide) H
            replace H := pRun (ls' := [.ref 188, .int x1, .int (M 188 28)]) (st' := [.int (kI 3), .int (M3 188 27)]) 1 rfl H
            rcases pIfc (n1 := 9) rfl (mcb_79 rfl) (mcb_79 rfl) H with ⟨g7, g0, _, H⟩ | ⟨g7, g0, _, H⟩
            · refine pG_pos (c := (M3 188 27) = (kI 3)) g7 ?_
              replace H := pRun (ls' := [.ref 188, .int x1, .int (M 188 28)]) (st' := [.ref 188]) 1 rfl H
              replace H := pGetN (v := M3 188 28) rfl (by decide) H
              replace H := pRun (ls' := [.ref 188, .int x1, .int (M 188 28)]) (st' := [.int (kI 10), .int (M 188 28), .int (M3 188 28)]) 2 rfl H
              rcases pIfc (n1 := 11) rfl (mcb_79 rfl) (mcb_79 rfl) H with ⟨g8, g0, _, H⟩ | ⟨g8, g0, _, H⟩
              · refine pG_pos (c := ¬ (M 188 28) = (kI 10)) g8 ?_
                replace H := pRun (ls' := [.ref 188, .int x1, .int (M 188 28)]) (st' := [.int (kI 9), .int (M3 188 28)]) 1 rfl H
                obtain ⟨g0, _, H⟩ := pFall (mcb_79 rfl) H
                rcases pIfc (n1 := 14) rfl (mcb_79 rfl) (mcb_79 rfl) H with ⟨g9, g0, _, H⟩ | ⟨g9, g0, _, H⟩
                · refine pG_pos (c := (M3 188 28) ≤ (kI 9)) g9 ?_
                  replace H := pRun (ls' := [.ref 188, .int x1, .int (M 188 28)]) (st' := [.ref 188]) 1 rfl H
                  replace H := pGetR (r := 215) (pRf hS (by decide +kernel)) rfl H
                  replace H := pRun (ls' := [.ref 188, .int x1, .int (M 188 28)]) (st' := [.ref 188, .int ((kI 96) + x1), .ref 215]) 4 rfl H
                  replace H := pGetN (v := M3 188 28) rfl (by decide) H
                  obtain ⟨g10, M4, eM4, H⟩ := pIst (n := 120) (pLn hS (show pCa 215 120 = true by decide +kernel)) H
                  refine pG_gd g10 (pG_put (M2 := M4) eM4 ?_)
                  replace H := pRun (ls' := [.ref 188, .int x1, .int (M 188 28)]) (st' := [.ref 188]) 1 rfl H
                  obtain ⟨rv, h1, hc, H⟩ := pCalV 65 0 188 (as := []) (rest := []) rfl (by decide) (by decide +kernel) rfl rfl H
                  obtain ⟨v2, M5, hD, H⟩ := pUseU (D_65_ok hS hc) H
                  refine pG_call (x := v2) (M1 := M5) hD ?_
                  obtain ⟨g0, _, H⟩ := pFall (mcb_79 rfl) H
                  replace H := pRun (ls' := [.ref 188, .int x1, .int (M 188 28)]) (st' := [.int (kI 59), .ref 188]) 2 rfl H
                  obtain ⟨rv, h1, hc, H⟩ := pCalV 68 1 188 (as := [.int (kI 59)]) (rest := []) rfl (by decide) (by decide +kernel) rfl rfl H
                  replace H := pUseF (f_68_ok hS hc) H
                  rcases pIf0 (n1 := 17) rfl (mcb_79 rfl) (mcb_79 rfl) H with ⟨g11, g0, _, H⟩ | ⟨g11, g0, _, H⟩
                  · refine pG_pos (c := ¬ (f_68 (kI 59) M5) = 0) g11 ?_
                    replace H := pRun (ls' := [.ref 188, .int x1, .int (M 188 28)]) (st' := [.ref 188]) 1 rfl H
                    obtain ⟨rv, h1, hc, H⟩ := pCalV 65 0 188 (as := []) (rest := []) rfl (by decide) (by decide +kernel) rfl rfl H
                    obtain ⟨v3, M6, hD, H⟩ := pUseU (D_65_ok hS hc) H
                    refine pG_call (x := v3) (M1 := M6) hD ?_
                    replace H := pRun (ls' := [.ref 188, .int (x1 + (kI 1)), .int (M 188 28)]) (st' := []) 4 rfl H
                    obtain ⟨g0, _, H⟩ := pGo (n1 := 1) rfl (mcb_79 rfl) H
                    exact (ih _ (by omega)) _ _  _ H
                  · refine pG_neg (c := ¬ (f_68 (kI 59) M5) = 0) g11 ?_
                    replace H := pRun (ls' := [.ref 188, .int x1, .int (M 188 28)]) (st' := [.int (kI 1), .ref 188]) 2 rfl H
                    obtain ⟨rv, h1, hc, H⟩ := pCalV 66 1 188 (as := [.int (kI 1)]) (rest := []) rfl (by decide) (by decide +kernel) rfl rfl H
                    obtain ⟨v3, M6, hD, H⟩ := pUseI (D_66_ok hS hc) H
                    refine pG_call (x := v3) (M1 := M6) hD ?_
                    exact pG_ret (pRetI H)
                · refine pG_neg (c := (M3 188 28) ≤ (kI 9)) g9 ?_
                  replace H := pRun (ls' := [.ref 188, .int x1, .int (M 188 28)]) (st' := [.int (kI 2), .ref 188]) 2 rfl H
                  obtain ⟨rv, h1, hc, H⟩ := pCalV 66 1 188 (as := [.int (kI 2)]) (rest := []) rfl (by decide) (by decide +kernel) rfl rfl H
                  obtain ⟨v2, M4, hD, H⟩ := pUseI (D_66_ok hS hc) H
                  refine pG_call (x := v2) (M1 := M4) hD ?_
                  exact pG_ret (pRetI H)
              · refine pG_neg (c := ¬ (M 188 28) = (kI 10)) g8 ?_
                replace H := pRun (ls' := [.ref 188, .int x1, .int (M 188 28)]) (st' := [.int (kI 1), .int (M3 188 28)]) 1 rfl H
                obtain ⟨g0, _, H⟩ := pGo (n1 := 12) rfl (mcb_79 rfl) H
                rcases pIfc (n1 := 14) rfl (mcb_79 rfl) (mcb_79 rfl) H with ⟨g9, g0, _, H⟩ | ⟨g9, g0, _, H⟩
                · refine pG_pos (c := (M3 188 28) ≤ (kI 1)) g9 ?_
                  replace H := pRun (ls' := [.ref 188, .int x1, .int (M 188 28)]) (st' := [.ref 188]) 1 rfl H
                  replace H := pGetR (r := 215) (pRf hS (by decide +kernel)) rfl H
                  replace H := pRun (ls' := [.ref 188, .int x1, .int (M 188 28)]) (st' := [.ref 188, .int ((kI 96) + x1), .ref 215]) 4 rfl H
                  replace H := pGetN (v := M3 188 28) rfl (by decide) H
                  obtain ⟨g10, M4, eM4, H⟩ := pIst (n := 120) (pLn hS (show pCa 215 120 = true by decide +kernel)) H
                  refine pG_gd g10 (pG_put (M2 := M4) eM4 ?_)
                  replace H := pRun (ls' := [.ref 188, .int x1, .int (M 188 28)]) (st' := [.ref 188]) 1 rfl H
                  obtain ⟨rv, h1, hc, H⟩ := pCalV 65 0 188 (as := []) (rest := []) rfl (by decide) (by decide +kernel) rfl rfl H
                  obtain ⟨v2, M5, hD, H⟩ := pUseU (D_65_ok hS hc) H
                  refine pG_call (x := v2) (M1 := M5) hD ?_
                  obtain ⟨g0, _, H⟩ := pFall (mcb_79 rfl) H
                  replace H := pRun (ls' := [.ref 188, .int x1, .int (M 188 28)]) (st' := [.int (kI 59), .ref 188]) 2 rfl H
                  obtain ⟨rv, h1, hc, H⟩ := pCalV 68 1 188 (as := [.int (kI 59)]) (rest := []) rfl (by decide) (by decide +kernel) rfl rfl H
                  replace H := pUseF (f_68_ok hS hc) H
                  rcases pIf0 (n1 := 17) rfl (mcb_79 rfl) (mcb_79 rfl) H with ⟨g11, g0, _, H⟩ | ⟨g11, g0, _, H⟩
                  · refine pG_pos (c := ¬ (f_68 (kI 59) M5) = 0) g11 ?_
                    replace H := pRun (ls' := [.ref 188, .int x1, .int (M 188 28)]) (st' := [.ref 188]) 1 rfl H
                    obtain ⟨rv, h1, hc, H⟩ := pCalV 65 0 188 (as := []) (rest := []) rfl (by decide) (by decide +kernel) rfl rfl H
                    obtain ⟨v3, M6, hD, H⟩ := pUseU (D_65_ok hS hc) H
                    refine pG_call (x := v3) (M1 := M6) hD ?_
                    replace H := pRun (ls' := [.ref 188, .int (x1 + (kI 1)), .int (M 188 28)]) (st' := []) 4 rfl H
                    obtain ⟨g0, _, H⟩ := pGo (n1 := 1) rfl (mcb_79 rfl) H
                    exact (ih _ (by omega)) _ _  _ H
                  · refine pG_neg (c := ¬ (f_68 (kI 59) M5) = 0) g11 ?_
                    replace H := pRun (ls' := [.ref 188, .int x1, .int (M 188 28)]) (st' := [.int (kI 1), .ref 188]) 2 rfl H
                    obtain ⟨rv, h1, hc, H⟩ := pCalV 66 1 188 (as := [.int (kI 1)]) (rest := []) rfl (by decide) (by decide +kernel) rfl rfl H
                    obtain ⟨v3, M6, hD, H⟩ := pUseI (D_66_ok hS hc) H
                    refine pG_call (x := v3) (M1 := M6) hD ?_
                    exact pG_ret (pRetI H)
                · refine pG_neg (c := (M3 188 28) ≤ (kI 1)) g9 ?_
                  replace H := pRun (ls' := [.ref 188, .int x1, .int (M 188 28)]) (st' := [.int (kI 2), .ref 188]) 2 rfl H
                  obtain ⟨rv, h1, hc, H⟩ := pCalV 66 1 188 (as := [.int (kI 2)]) (rest := []) rfl (by decide) (by decide +kernel) rfl rfl H
                  obtain ⟨v2, M4, hD, H⟩ := pUseI (D_66_ok hS hc) H
                  refine pG_call (x := v2) (M1 := M4) hD ?_
                  exact pG_ret (pRetI H)
            · refine pG_neg (c := (M3 188 27) = (kI 3)) g7 ?_
              replace H := pRun (ls' := [.ref 188, .int x1, .int (M 188 28)]) (st' := [.int (kI 1), .ref 188]) 2 rfl H
              obtain ⟨rv, h1, hc, H⟩ := pCalV 66 1 188 (as := [.int (kI 1)]) (rest := []) rfl (by decide) (by decide +kernel) rfl rfl H
              obtain ⟨v2, M4, hD, H⟩ := pUseI (D_66_ok hS hc) H
              refine pG_call (x := v2) (M1 := M4) hD ?_
              exact pG_ret (pRetI H)
          · refine pG_neg (c := (M 188 28) = (kI 7)) g6 ?_
            replace H := pRun (ls' := [.ref 188, .int x1, .int (M 188 28)]) (st' := [.int (kI 10), .int (M 188 28)]) 2 rfl H
            rcases pIfc (n1 := 15) rfl (mcb_79 rfl) (mcb_79 rfl) H with ⟨g7, g0, _, H⟩ | ⟨g7, g0, _, H⟩
            · refine pG_pos (c := ¬ (M 188 28) = (kI 10)) g7 ?_
              replace H := pRun (ls' := [.ref 188, .int x1, .int (M 188 28)]) (st' := [.int (kI 59), .ref 188]) 2 rfl H
              obtain ⟨rv, h1, hc, H⟩ := pCalV 68 1 188 (as := [.int (kI 59)]) (rest := []) rfl (by decide) (by decide +kernel) rfl rfl H
              replace H := pUseF (f_68_ok hS hc) H
              rcases pIf0 (n1 := 17) rfl (mcb_79 rfl) (mcb_79 rfl) H with ⟨g8, g0, _, H⟩ | ⟨g8, g0, _, H⟩
              · refine pG_pos (c := ¬ (f_68 (kI 59) M3) = 0) g8 ?_
                replace H := pRun (ls' := [.ref 188, .int x1, .int (M 188 28)]) (st' := [.ref 188]) 1 rfl H
                obtain ⟨rv, h1, hc, H⟩ := pCalV 65 0 188 (as := []) (rest := []) rfl (by decide) (by decide +kernel) rfl rfl H
                obtain ⟨v2, M4, hD, H⟩ := pUseU (D_65_ok hS hc) H
                refine pG_call (x := v2) (M1 := M4) hD ?_
                replace H := pRun (ls' := [.ref 188, .int (x1 + (kI 1)), .int (M 188 28)]) (st' := []) 4 rfl H
                obtain ⟨g0, _, H⟩ := pGo (n1 := 1) rfl (mcb_79 rfl) H
                exact (ih _ (by omega)) _ _  _ H
              · refine pG_neg (c := ¬ (f_68 (kI 59) M3) = 0) g8 ?_
                replace H := pRun (ls' := [.ref 188, .int x1, .int (M 188 28)]) (st' := [.int (kI 1), .ref 188]) 2 rfl H
                obtain ⟨rv, h1, hc, H⟩ := pCalV 66 1 188 (as := [.int (kI 1)]) (rest := []) rfl (by decide) (by decide +kernel) rfl rfl H
                obtain ⟨v2, M4, hD, H⟩ := pUseI (D_66_ok hS hc) H
                refine pG_call (x := v2) (M1 := M4) hD ?_
                exact pG_ret (pRetI H)
            · refine pG_neg (c := ¬ (M 188 28) = (kI 10)) g7 ?_
              replace H := pRun (ls' := [.ref 188, .int x1, .int (M 188 28)]) (st' := [.ref 188]) 1 rfl H
              replace H := pGetN (v := M3 188 27) rfl (by decide) H
              replace H := pRun (ls' := [.ref 188, .int x1, .int (M 188 28)]) (st' := [.int (kI 3), .int (M3 188 27)]) 1 rfl H
              rcases pIfc (n1 := 9) rfl (mcb_79 rfl) (mcb_79 rfl) H with ⟨g8, g0, _, H⟩ | ⟨g8, g0, _, H⟩
              · refine pG_pos (c := (M3 188 27) = (kI 3)) g8 ?_
                replace H := pRun (ls' := [.ref 188, .int x1, .int (M 188 28)]) (st' := [.ref 188]) 1 rfl H
                replace H := pGetN (v := M3 188 28) rfl (by decide) H
                replace H := pRun (ls' := [.ref 188, .int x1, .int (M 188 28)]) (st' := [.int (kI 10), .int (M 188 28), .int (M3 188 28)]) 2 rfl H
                rcases pIfc (n1 := 11) rfl (mcb_79 rfl) (mcb_79 rfl) H with ⟨g9, g0, _, H⟩ | ⟨g9, g0, _, H⟩
                · refine pG_pos (c := ¬ (M 188 28) = (kI 10)) g9 ?_
                  replace H := pRun (ls' := [.ref 188, .int x1, .int (M 188 28)]) (st' := [.int (kI 9), .int (M3 188 28)]) 1 rfl H
                  obtain ⟨g0, _, H⟩ := pFall (mcb_79 rfl) H
                  rcases pIfc (n1 := 14) rfl (mcb_79 rfl) (mcb_79 rfl) H with ⟨g10, g0, _, H⟩ | ⟨g10, g0, _, H⟩
                  · refine pG_pos (c := (M3 188 28) ≤ (kI 9)) g10 ?_
                    replace H := pRun (ls' := [.ref 188, .int x1, .int (M 188 28)]) (st' := [.ref 188]) 1 rfl H
                    replace H := pGetR (r := 215) (pRf hS (by decide +kernel)) rfl H
                    replace H := pRun (ls' := [.ref 188, .int x1, .int (M 188 28)]) (st' := [.ref 188, .int ((kI 96) + x1), .ref 215]) 4 rfl H
                    replace H := pGetN (v := M3 188 28) rfl (by decide) H
                    obtain ⟨g11, M4, eM4, H⟩ := pIst (n := 120) (pLn hS (show pCa 215 120 = true by decide +kernel)) H
                    refine pG_gd g11 (pG_put (M2 := M4) eM4 ?_)
                    replace H := pRun (ls' := [.ref 188, .int x1, .int (M 188 28)]) (st' := [.ref 188]) 1 rfl H
                    obtain ⟨rv, h1, hc, H⟩ := pCalV 65 0 188 (as := []) (rest := []) rfl (by decide) (by decide +kernel) rfl rfl H
                    obtain ⟨v2, M5, hD, H⟩ := pUseU (D_65_ok hS hc) H
                    refine pG_call (x := v2) (M1 := M5) hD ?_
                    obtain ⟨g0, _, H⟩ := pFall (mcb_79 rfl) H
                    replace H := pRun (ls' := [.ref 188, .int x1, .int (M 188 28)]) (st' := [.int (kI 59), .ref 188]) 2 rfl H
                    obtain ⟨rv, h1, hc, H⟩ := pCalV 68 1 188 (as := [.int (kI 59)]) (rest := []) rfl (by decide) (by decide +kernel) rfl rfl H
                    replace H := pUseF (f_68_ok hS hc) H
                    rcases pIf0 (n1 := 17) rfl (mcb_79 rfl) (mcb_79 rfl) H with ⟨g12, g0, _, H⟩ | ⟨g12, g0, _, H⟩
                    · refine pG_pos (c := ¬ (f_68 (kI 59) M5) = 0) g12 ?_
                      replace H := pRun (ls' := [.ref 188, .int x1, .int (M 188 28)]) (st' := [.ref 188]) 1 rfl H
                      obtain ⟨rv, h1, hc, H⟩ := pCalV 65 0 188 (as := []) (rest := []) rfl (by decide) (by decide +kernel) rfl rfl H
                      obtain ⟨v3, M6, hD, H⟩ := pUseU (D_65_ok hS hc) H
                      refine pG_call (x := v3) (M1 := M6) hD ?_
                      replace H := pRun (ls' := [.ref 188, .int (x1 + (kI 1)), .int (M 188 28)]) (st' := []) 4 rfl H
                      obtain ⟨g0, _, H⟩ := pGo (n1 := 1) rfl (mcb_79 rfl) H
                      exact (ih _ (by omega)) _ _  _ H
                    · refine pG_neg (c := ¬ (f_68 (kI 59) M5) = 0) g12 ?_
                      replace H := pRun (ls' := [.ref 188, .int x1, .int (M 188 28)]) (st' := [.int (kI 1), .ref 188]) 2 rfl H
                      obtain ⟨rv, h1, hc, H⟩ := pCalV 66 1 188 (as := [.int (kI 1)]) (rest := []) rfl (by decide) (by decide +kernel) rfl rfl H
                      obtain ⟨v3, M6, hD, H⟩ := pUseI (D_66_ok hS hc) H
                      refine pG_call (x := v3) (M1 := M6) hD ?_
                      exact pG_ret (pRetI H)
                  · refine pG_neg (c := (M3 188 28) ≤ (kI 9)) g10 ?_
                    replace H := pRun (ls' := [.ref 188, .int x1, .int (M 188 28)]) (st' := [.int (kI 2), .ref 188]) 2 rfl H
                    obtain ⟨rv, h1, hc, H⟩ := pCalV 66 1 188 (as := [.int (kI 2)]) (rest := []) rfl (by decide) (by decide +kernel) rfl rfl H
                    obtain ⟨v2, M4, hD, H⟩ := pUseI (D_66_ok hS hc) H
                    refine pG_call (x := v2) (M1 := M4) hD ?_
                    exact pG_ret (pRetI H)
                · refine pG_neg (c := ¬ (M 188 28) = (kI 10)) g9 ?_
                  replace H := pRun (ls' := [.ref 188, .int x1, .int (M 188 28)]) (st' := [.int (kI 1), .int (M3 188 28)]) 1 rfl H
                  obtain ⟨g0, _, H⟩ := pGo (n1 := 12) rfl (mcb_79 rfl) H
                  rcases pIfc (n1 := 14) rfl (mcb_79 rfl) (mcb_79 rfl) H with ⟨g10, g0, _, H⟩ | ⟨g10, g0, _, H⟩
                  · refine pG_pos (c := (M3 188 28) ≤ (kI 1)) g10 ?_
                    replace H := pRun (ls' := [.ref 188, .int x1, .int (M 188 28)]) (st' := [.ref 188]) 1 rfl H
                    replace H := pGetR (r := 215) (pRf hS (by decide +kernel)) rfl H
                    replace H := pRun (ls' := [.ref 188, .int x1, .int (M 188 28)]) (st' := [.ref 188, .int ((kI 96) + x1), .ref 215]) 4 rfl H
                    replace H := pGetN (v := M3 188 28) rfl (by decide) H
                    obtain ⟨g11, M4, eM4, H⟩ := pIst (n := 120) (pLn hS (show pCa 215 120 = true by decide +kernel)) H
                    refine pG_gd g11 (pG_put (M2 := M4) eM4 ?_)
                    replace H := pRun (ls' := [.ref 188, .int x1, .int (M 188 28)]) (st' := [.ref 188]) 1 rfl H
                    obtain ⟨rv, h1, hc, H⟩ := pCalV 65 0 188 (as := []) (rest := []) rfl (by decide) (by decide +kernel) rfl rfl H
                    obtain ⟨v2, M5, hD, H⟩ := pUseU (D_65_ok hS hc) H
                    refine pG_call (x := v2) (M1 := M5) hD ?_
                    obtain ⟨g0, _, H⟩ := pFall (mcb_79 rfl) H
                    replace H := pRun (ls' := [.ref 188, .int x1, .int (M 188 28)]) (st' := [.int (kI 59), .ref 188]) 2 rfl H
                    obtain ⟨rv, h1, hc, H⟩ := pCalV 68 1 188 (as := [.int (kI 59)]) (rest := []) rfl (by decide) (by decide +kernel) rfl rfl H
                    replace H := pUseF (f_68_ok hS hc) H
                    rcases pIf0 (n1 := 17) rfl (mcb_79 rfl) (mcb_79 rfl) H with ⟨g12, g0, _, H⟩ | ⟨g12, g0, _, H⟩
                    · refine pG_pos (c := ¬ (f_68 (kI 59) M5) = 0) g12 ?_
                      replace H := pRun (ls' := [.ref 188, .int x1, .int (M 188 28)]) (st' := [.ref 188]) 1 rfl H
                      obtain ⟨rv, h1, hc, H⟩ := pCalV 65 0 188 (as := []) (rest := []) rfl (by decide) (by decide +kernel) rfl rfl H
                      obtain ⟨v3, M6, hD, H⟩ := pUseU (D_65_ok hS hc) H
                      refine pG_call (x := v3) (M1 := M6) hD ?_
                      replace H := pRun (ls' := [.ref 188, .int (x1 + (kI 1)), .int (M 188 28)]) (st' := []) 4 rfl H
                      obtain ⟨g0, _, H⟩ := pGo (n1 := 1) rfl (mcb_79 rfl) H
                      exact (ih _ (by omega)) _ _  _ H
                    · refine pG_neg (c := ¬ (f_68 (kI 59) M5) = 0) g12 ?_
                      replace H := pRun (ls' := [.ref 188, .int x1, .int (M 188 28)]) (st' := [.int (kI 1), .ref 188]) 2 rfl H
                      obtain ⟨rv, h1, hc, H⟩ := pCalV 66 1 188 (as := [.int (kI 1)]) (rest := []) rfl (by decide) (by decide +kernel) rfl rfl H
                      obtain ⟨v3, M6, hD, H⟩ := pUseI (D_66_ok hS hc) H
                      refine pG_call (x := v3) (M1 := M6) hD ?_
                      exact pG_ret (pRetI H)
                  · refine pG_neg (c := (M3 188 28) ≤ (kI 1)) g10 ?_
                    replace H := pRun (ls' := [.ref 188, .int x1, .int (M 188 28)]) (st' := [.int (kI 2), .ref 188]) 2 rfl H
                    obtain ⟨rv, h1, hc, H⟩ := pCalV 66 1 188 (as := [.int (kI 2)]) (rest := []) rfl (by decide) (by decide +kernel) rfl rfl H
                    obtain ⟨v2, M4, hD, H⟩ := pUseI (D_66_ok hS hc) H
                    refine pG_call (x := v2) (M1 := M4) hD ?_
                    exact pG_ret (pRetI H)
              · refine pG_neg (c := (M3 188 27) = (kI 3)) g8 ?_
                replace H := pRun (ls' := [.ref 188, .int x1, .int (M 188 28)]) (st' := [.int (kI 1), .ref 188]) 2 rfl H
                obtain ⟨rv, h1, hc, H⟩ := pCalV 66 1 188 (as := [.int (kI 1)]) (rest := []) rfl (by decide) (by decide +kernel) rfl rfl H
                obtain ⟨v2, M4, hD, H⟩ := pUseI (D_66_ok hS hc) H
                refine pG_call (x := v2) (M1 := M4) hD ?_
                exact pG_ret (pRetI H)
        · refine pG_neg (c := ¬ x1 = (kI 24)) g3 ?_
          replace H := pRun (ls' := [.ref 188, .int x1, u2]) (st' := [.int (kI 3), .ref 188]) 2 rfl H
          obtain ⟨rv, h1, hc, H⟩ := pCalV 66 1 188 (as := [.int (kI 3)]) (rest := []) rfl (by decide) (by decide +kernel) rfl rfl H
          obtain ⟨v1, M1, hD, H⟩ := pUseI (D_66_ok hS hc) H
          refine pG_call (x := v1) (M1 := M1) hD ?_
          exact pG_ret (pRetI H)
theorem L_79_1_ok {X : aX} {F d : Nat} {K : Nat → aK} (hS : pS K) {out : Option Value × aH} {f : Nat} {x1 : Int32} {u2 : Value} {M : pMem} (H : pm X F d 79 f 1 [.aload 0, .getfield 126912108, .bipush 2, .if_icmp .ne 18] [.ref 188, .int x1, u2] [] (pH K M) out) : pG eI K out (L_79_1 x1 M) := by
  refine pG_all (C := fun P : (Int32 → pMem → pT Int32) => C_79 P) (T := fun P => P x1 M) eI_inj (fun _ _ _ _ => True) ?_ (fun P hP => (K_79 hS P hP f) _ _ _ H)
  exact (fun _ _ _ _ _ => trivial)
theorem D_79_ok {X : aX} {F d : Nat} {K : Nat → aK} (hS : pS K) {M : pMem} {out : Option Value × aH} (H : aM X F d 79 [.ref 188] (pH K M) = some out) : pG eI K out (D_79 M) := by
  obtain ⟨d', g0, _, H⟩ := pEnt (n := 3) (ls := [.ref 188, aD, aD]) (mcb_79 rfl) (by decide +kernel) rfl H
  unfold D_79
  replace H := pRun (ls' := [.ref 188, .int (kI 0), aD]) (st' := []) 2 rfl H
  obtain ⟨g0, _, H⟩ := pFall (mcb_79 rfl) H
  exact L_79_1_ok hS  H
def l_79 : List (Nat × Nat) := [(188, 42), (188, 43), (214, 999), (215, 999), (188, 25), (188, 26), (188, 27), (188, 28)]
theorem FC_79 : C_79 (fun _ M _ N => pFr (l_79) M N) := fun x1 M => show pTf (l_79) M (S_79_1 _ x1 M) from (tf_if (tf_if (tf_call pFr_refl (fun _ _ h => F_66 h) [0, 1] rfl fun _ M1 f1 => (tf_ret f1)) (tf_ret pFr_refl)) (tf_if (tf_if (tf_call pFr_refl (fun _ _ h => F_66 h) [0, 1] rfl fun _ M1 f1 => (tf_ret f1)) (tf_ret pFr_refl)) (tf_if (tf_gd fun g4 => (tf_putA pFr_refl 2 rfl fun M1 f1 => (tf_gd fun g5 => (tf_putA f1 3 rfl fun M2 f2 => (tf_call f2 (fun _ _ h => F_65 h) [4, 5, 6, 7] rfl fun _ M3 f3 => (tf_if (tf_if (tf_if (tf_if (tf_gd fun g10 => (tf_putA f3 3 rfl fun M4 f4 => (tf_call f4 (fun _ _ h => F_65 h) [4, 5, 6, 7] rfl fun _ M5 f5 => (tf_if (tf_call f5 (fun _ _ h => F_65 h) [4, 5, 6, 7] rfl fun _ M6 f6 => (tf_jump f6)) (tf_call f5 (fun _ _ h => F_66 h) [0, 1] rfl fun _ M6 f6 => (tf_ret f6)))))) (tf_call f3 (fun _ _ h => F_66 h) [0, 1] rfl fun _ M4 f4 => (tf_ret f4))) (tf_if (tf_gd fun g10 => (tf_putA f3 3 rfl fun M4 f4 => (tf_call f4 (fun _ _ h => F_65 h) [4, 5, 6, 7] rfl fun _ M5 f5 => (tf_if (tf_call f5 (fun _ _ h => F_65 h) [4, 5, 6, 7] rfl fun _ M6 f6 => (tf_jump f6)) (tf_call f5 (fun _ _ h => F_66 h) [0, 1] rfl fun _ M6 f6 => (tf_ret f6)))))) (tf_call f3 (fun _ _ h => F_66 h) [0, 1] rfl fun _ M4 f4 => (tf_ret f4)))) (tf_call f3 (fun _ _ h => F_66 h) [0, 1] rfl fun _ M4 f4 => (tf_ret f4))) (tf_if (tf_if (tf_call f3 (fun _ _ h => F_65 h) [4, 5, 6, 7] rfl fun _ M4 f4 => (tf_jump f4)) (tf_call f3 (fun _ _ h => F_66 h) [0, 1] rfl fun _ M4 f4 => (tf_ret f4))) (tf_if (tf_if (tf_if (tf_gd fun g11 => (tf_putA f3 3 rfl fun M4 f4 => (tf_call f4 (fun _ _ h => F_65 h) [4, 5, 6, 7] rfl fun _ M5 f5 => (tf_if (tf_call f5 (fun _ _ h => F_65 h) [4, 5, 6, 7] rfl fun _ M6 f6 => (tf_jump f6)) (tf_call f5 (fun _ _ h => F_66 h) [0, 1] rfl fun _ M6 f6 => (tf_ret f6)))))) (tf_call f3 (fun _ _ h => F_66 h) [0, 1] rfl fun _ M4 f4 => (tf_ret f4))) (tf_if (tf_gd fun g11 => (tf_putA f3 3 rfl fun M4 f4 => (tf_call f4 (fun _ _ h => F_65 h) [4, 5, 6, 7] rfl fun _ M5 f5 => (tf_if (tf_call f5 (fun _ _ h => F_65 h) [4, 5, 6, 7] rfl fun _ M6 f6 => (tf_jump f6)) (tf_call f5 (fun _ _ h => F_66 h) [0, 1] rfl fun _ M6 f6 => (tf_ret f6)))))) (tf_call f3 (fun _ _ h => F_66 h) [0, 1] rfl fun _ M4 f4 => (tf_ret f4)))) (tf_call f3 (fun _ _ h => F_66 h) [0, 1] rfl fun _ M4 f4 => (tf_ret f4)))))))))) (tf_call pFr_refl (fun _ _ h => F_66 h) [0, 1] rfl fun _ M1 f1 => (tf_ret f1)))))
theorem F_79 {M : pMem} {v : Int32} {N : pMem} (h : D_79 M v N) : pFr (l_79) M N :=
  (show pTf (l_79) M (D_79 M) from (tf_jumpL (fun _ M _ N => pFr (l_79) M N) (FC_79) rfl pFr_refl)) v N h
/-- TwoCampsModel.takesPlan(II)V -/
def S_80_1 (p1 : Int32) (p2 : Int32) (P1 : Int32 → pMem → pT Unit) (x3 : Int32) (M : pMem) : pT Unit := tIf (p2 ≤ x3) (tGd (pIn p1 5) <| tPut (aPut M 213 (ix p1) p2) fun M1 => tRet () M1) (tGd (pIn ((kI 96) + x3) 120) <| tGd (pIn (((kI 24) * p1) + x3) 120) <| tPut (aPut M 214 (ix (((kI 24) * p1) + x3)) (M 214 (ix ((kI 96) + x3)))) fun M1 => tGd (pIn ((kI 96) + x3) 120) <| tGd (pIn (((kI 24) * p1) + x3) 120) <| tPut (aPut M1 215 (ix (((kI 24) * p1) + x3)) (M1 215 (ix ((kI 96) + x3)))) fun M2 => P1 (x3 + kI 1) M2)
def C_80 (p1 : Int32) (p2 : Int32) (P1 : Int32 → pMem → pT Unit) : Prop := (∀ (x3 : Int32) M v N, S_80_1 p1 p2 P1 x3 M v N → P1 x3 M v N)
def L_80_1 (p1 : Int32) (p2 : Int32) (x3 : Int32) (M : pMem) : pT Unit := fun v N => ∀ P : (Int32 → pMem → pT Unit), C_80 p1 p2 P → P x3 M v N
def D_80 (p1 : Int32) (p2 : Int32) (M : pMem) : pT Unit := L_80_1 p1 p2 (kI 0) M
theorem K_80 {X : aX} {F d : Nat} {K : Nat → aK} (hS : pS K) {p1 : Int32} {p2 : Int32} {out : Option Value × aH} (P1 : Int32 → pMem → pT Unit) (hC : C_80 p1 p2 P1) : ∀ f, (∀ (x3 : Int32) M, pm X F d 80 f 1 [.iload 3, .iload 2, .if_icmp .ge 3] [.ref 188, .int p1, .int p2, .int x3] [] (pH K M) out → pG eU K out (P1 x3 M)) := by
  intro f
  induction f using Nat.strongRecOn with
  | _ f ih =>
    intro x3 M H
    refine pG_mono (fun v N h => hC x3 M v N h) ?_
    unfold S_80_1
    replace H := pRun (ls' := [.ref 188, .int p1, .int p2, .int x3]) (st' := [.int p2, .int x3]) 2 rfl H
    rcases pIfc (n1 := 3) rfl (mcb_80 rfl) (mcb_80 rfl) H with ⟨g1, g0, _, H⟩ | ⟨g1, g0, _, H⟩
    · refine pG_pos (c := p2 ≤ x3) g1 ?_
      replace H := pRun (ls' := [.ref 188, .int p1, .int p2, .int x3]) (st' := [.ref 188]) 1 rfl H
      replace H := pGetR (r := 213) (pRf hS (by decide +kernel)) rfl H
      replace H := pRun (ls' := [.ref 188, .int p1, .int p2, .int x3]) (st' := [.int p2, .int p1, .ref 213]) 2 rfl H
      obtain ⟨g2, M1, eM1, H⟩ := pIst (n := 5) (pLn hS (show pCa 213 5 = true by decide +kernel)) H
      refine pG_gd g2 (pG_put (M2 := M1) eM1 ?_)
      exact pG_ret (pRetU H)
    · refine pG_neg (c := p2 ≤ x3) g1 ?_
      replace H := pRun (ls' := [.ref 188, .int p1, .int p2, .int x3]) (st' := [.ref 188]) 1 rfl H
      replace H := pGetR (r := 214) (pRf hS (by decide +kernel)) rfl H
      replace H := pRun (ls' := [.ref 188, .int p1, .int p2, .int x3]) (st' := [.ref 188, .int (((kI 24) * p1) + x3), .ref 214]) 6 rfl H
      replace H := pGetR (r := 214) (pRf hS (by decide +kernel)) rfl H
      replace H := pRun (ls' := [.ref 188, .int p1, .int p2, .int x3]) (st' := [.int ((kI 96) + x3), .ref 214, .int (((kI 24) * p1) + x3), .ref 214]) 3 rfl H
      obtain ⟨g2, H⟩ := pIld (n := 120) (pLt (show pCa 214 120 = true by decide +kernel)) (pLn hS (show pCa 214 120 = true by decide +kernel)) H
      refine pG_gd g2 ?_
      obtain ⟨g3, M1, eM1, H⟩ := pIst (n := 120) (pLn hS (show pCa 214 120 = true by decide +kernel)) H
      refine pG_gd g3 (pG_put (M2 := M1) eM1 ?_)
      replace H := pRun (ls' := [.ref 188, .int p1, .int p2, .int x3]) (st' := [.ref 188]) 1 rfl H
      replace H := pGetR (r := 215) (pRf hS (by decide +kernel)) rfl H
      replace H := pRun (ls' := [.ref 188, .int p1, .int p2, .int x3]) (st' := [.ref 188, .int (((kI 24) * p1) + x3), .ref 215]) 6 rfl H
      replace H := pGetR (r := 215) (pRf hS (by decide +kernel)) rfl H
      replace H := pRun (ls' := [.ref 188, .int p1, .int p2, .int x3]) (st' := [.int ((kI 96) + x3), .ref 215, .int (((kI 24) * p1) + x3), .ref 215]) 3 rfl H
      obtain ⟨g4, H⟩ := pIld (n := 120) (pLt (show pCa 215 120 = true by decide +kernel)) (pLn hS (show pCa 215 120 = true by decide +kernel)) H
      refine pG_gd g4 ?_
      obtain ⟨g5, M2, eM2, H⟩ := pIst (n := 120) (pLn hS (show pCa 215 120 = true by decide +kernel)) H
      refine pG_gd g5 (pG_put (M2 := M2) eM2 ?_)
      replace H := pRun (ls' := [.ref 188, .int p1, .int p2, .int (x3 + kI 1)]) (st' := []) 1 rfl H
      obtain ⟨g0, _, H⟩ := pGo (n1 := 1) rfl (mcb_80 rfl) H
      exact (ih _ (by omega)) _  _ H
theorem L_80_1_ok {X : aX} {F d : Nat} {K : Nat → aK} (hS : pS K) {p1 : Int32} {p2 : Int32} {out : Option Value × aH} {f : Nat} {x3 : Int32} {M : pMem} (H : pm X F d 80 f 1 [.iload 3, .iload 2, .if_icmp .ge 3] [.ref 188, .int p1, .int p2, .int x3] [] (pH K M) out) : pG eU K out (L_80_1 p1 p2 x3 M) := by
  refine pG_all (C := fun P : (Int32 → pMem → pT Unit) => C_80 p1 p2 P) (T := fun P => P x3 M) eU_inj (fun _ _ _ _ => True) ?_ (fun P hP => (K_80 hS P hP f) _ _ H)
  exact (fun _ _ _ _ _ => trivial)
theorem D_80_ok {X : aX} {F d : Nat} {K : Nat → aK} (hS : pS K) {p1 : Int32} {p2 : Int32} {M : pMem} {out : Option Value × aH} (H : aM X F d 80 [.ref 188, .int p1, .int p2] (pH K M) = some out) : pG eU K out (D_80 p1 p2 M) := by
  obtain ⟨d', g0, _, H⟩ := pEnt (n := 4) (ls := [.ref 188, .int p1, .int p2, aD]) (mcb_80 rfl) (by decide +kernel) rfl H
  unfold D_80
  replace H := pRun (ls' := [.ref 188, .int p1, .int p2, .int (kI 0)]) (st' := []) 2 rfl H
  obtain ⟨g0, _, H⟩ := pFall (mcb_80 rfl) H
  exact L_80_1_ok hS  H
def l_80 : List (Nat × Nat) := [(213, 999), (214, 999), (215, 999)]
theorem FC_80 {p1 : Int32} {p2 : Int32} : C_80 p1 p2 (fun _ M _ N => pFr (l_80) M N) := fun x3 M => show pTf (l_80) M (S_80_1 p1 p2 _ x3 M) from (tf_if (tf_gd fun g2 => (tf_putA pFr_refl 0 rfl fun M1 f1 => (tf_ret f1))) (tf_gd fun g2 => (tf_gd fun g3 => (tf_putA pFr_refl 1 rfl fun M1 f1 => (tf_gd fun g4 => (tf_gd fun g5 => (tf_putA f1 2 rfl fun M2 f2 => (tf_jump f2))))))))
theorem F_80 {p1 : Int32} {p2 : Int32} {M : pMem} {v : Unit} {N : pMem} (h : D_80 p1 p2 M v N) : pFr (l_80) M N :=
  (show pTf (l_80) M (D_80 p1 p2 M) from (tf_jumpL (fun _ M _ N => pFr (l_80) M N) (FC_80) rfl pFr_refl)) v N h
/-- TwoCampsModel.text(II)I -/
def S_81_9 (p1 : Int32) (p2 : Int32) (P9 : Int32 → Int32 → pMem → pT Int32) (x3 : Int32) (s0 : Int32) (M : pMem) : pT Int32 := tPut (aPut M 188 24 (kI 0)) fun M1 => tIf (x3 = 0) (tIf (¬ s0 = (kI (-1))) (tIf (¬ p1 = 0) (tCall (D_80 p2 s0 M1) fun _ M2 => tRet s0 M2) (tCall (D_78 p2 s0 M1) fun _ M2 => tRet s0 M2)) (tRet (kI (-1)) M1)) (tIf (¬ s0 = (kI (-1))) (tIf (¬ s0 = (kI (-1))) (tIf (¬ p1 = 0) (tCall (D_80 p2 s0 M1) fun _ M2 => tRet s0 M2) (tCall (D_78 p2 s0 M1) fun _ M2 => tRet s0 M2)) (tRet (kI (-1)) M1)) (tPut (aPut M1 188 44 (M1 188 42)) fun M2 => tPut (aPut M2 188 45 (M2 188 43)) fun M3 => tIf (¬ s0 = (kI (-1))) (tIf (¬ p1 = 0) (tCall (D_80 p2 s0 M3) fun _ M4 => tRet s0 M4) (tCall (D_78 p2 s0 M3) fun _ M4 => tRet s0 M4)) (tRet (kI (-1)) M3)))
def C_81 (p1 : Int32) (p2 : Int32) (P9 : Int32 → Int32 → pMem → pT Int32) : Prop := (∀ (x3 : Int32) (s0 : Int32) M v N, S_81_9 p1 p2 P9 x3 s0 M v N → P9 x3 s0 M v N)
def L_81_9 (p1 : Int32) (p2 : Int32) (x3 : Int32) (s0 : Int32) (M : pMem) : pT Int32 := fun v N => ∀ P : (Int32 → Int32 → pMem → pT Int32), C_81 p1 p2 P → P x3 s0 M v N
def D_81 (p1 : Int32) (p2 : Int32) (M : pMem) : pT Int32 := tPut (aPut M 188 0 (kI 0)) fun M1 => tPut (aPut M1 188 44 (kI 0)) fun M2 => tPut (aPut M2 188 45 (kI (-1))) fun M3 => tIf ((f_42 p1 (kI 0) (kI 1)) = 0) (tPut (aPut M3 188 25 (kI 0)) fun M4 => tPut (aPut M4 188 38 (kI 0)) fun M5 => tPut (aPut M5 188 39 (kI 0)) fun M6 => tCall (D_65 M6) fun _ M7 => L_81_9 p1 p2 (kI 0) (kI (-1)) M7) (tIf ((f_42 p2 (kI 0) (kI 3)) = 0) (tPut (aPut M3 188 25 (kI 0)) fun M4 => tPut (aPut M4 188 38 (kI 0)) fun M5 => tPut (aPut M5 188 39 (kI 0)) fun M6 => tCall (D_65 M6) fun _ M7 => L_81_9 p1 p2 (kI 0) (kI (-1)) M7) (tPut (aPut M3 188 25 (kI 0)) fun M4 => tPut (aPut M4 188 38 (kI 0)) fun M5 => tPut (aPut M5 188 39 (kI 0)) fun M6 => tCall (D_65 M6) fun _ M7 => tIf (¬ p1 = 0) (tCall (D_79 M7) fun v2 M8 => L_81_9 p1 p2 (kI 1) v2 M8) (tCall (D_77 M7) fun v2 M8 => L_81_9 p1 p2 (kI 1) v2 M8)))
theorem K_81 {X : aX} {F d : Nat} {K : Nat → aK} (hS : pS K) {p1 : Int32} {p2 : Int32} {out : Option Value × aH} (P9 : Int32 → Int32 → pMem → pT Int32) (hC : C_81 p1 p2 P9) : ∀ f, (∀ (x3 : Int32) (s0 : Int32) (u4 : Value) M, pm X F d 81 f 9 [.istore 4, .aload 0, .bipush 0, .putfield 126612096, .iload 3, .ifCond .eq 12] [.ref 188, .int p1, .int p2, .int x3, u4] [.int s0] (pH K M) out → pG eI K out (P9 x3 s0 M)) := by
  intro f
  induction f using Nat.strongRecOn with
  | _ f ih =>
    intro x3 s0 u4 M H
    refine pG_mono (fun v N h => hC x3 s0 M v N h) ?_
    unfold S_81_9
    replace H := pRun (ls' := [.ref 188, .int p1, .int p2, .int x3, .int s0]) (st' := [.int (kI 0), .ref 188]) 3 rfl H
    obtain ⟨M1, eM1, H⟩ := pPutN (j := 24) rfl H
    refine pG_put (M2 := M1) eM1 ?_
    replace H := pRun (ls' := [.ref 188, .int p1, .int p2, .int x3, .int s0]) (st' := [.int x3]) 1 rfl H
    rcases pIf0 (n1 := 12) rfl (mcb_81 rfl) (mcb_81 rfl) H with ⟨g1, g0, _, H⟩ | ⟨g1, g0, _, H⟩
    · refine pG_pos (c := x3 = 0) g1 ?_
      replace H := pRun (ls' := [.ref 188, .int p1, .int p2, .int x3, .int s0]) (st' := [.int (kI (-1)), .int s0]) 2 rfl H
      rcases pIfc (n1 := 14) rfl (mcb_81 rfl) (mcb_81 rfl) H with ⟨g2, g0, _, H⟩ | ⟨g2, g0, _, H⟩
      · refine pG_pos (c := ¬ s0 = (kI (-1))) g2 ?_
        replace H := pRun (ls' := [.ref 188, .int p1, .int p2, .int x3, .int s0]) (st' := [.int p1]) 1 rfl H
        rcases pIf0 (n1 := 16) rfl (mcb_81 rfl) (mcb_81 rfl) H with ⟨g3, g0, _, H⟩ | ⟨g3, g0, _, H⟩
        · refine pG_pos (c := ¬ p1 = 0) g3 ?_
          replace H := pRun (ls' := [.ref 188, .int p1, .int p2, .int x3, .int s0]) (st' := [.int s0, .int p2, .ref 188]) 3 rfl H
          obtain ⟨rv, h1, hc, H⟩ := pCalV 80 2 188 (as := [.int p2, .int s0]) (rest := []) rfl (by decide) (by decide +kernel) rfl rfl H
          obtain ⟨v1, M2, hD, H⟩ := pUseU (D_80_ok hS hc) H
          refine pG_call (x := v1) (M1 := M2) hD ?_
          obtain ⟨g0, _, H⟩ := pFall (mcb_81 rfl) H
          replace H := pRun (ls' := [.ref 188, .int p1, .int p2, .int x3, .int s0]) (st' := [.int s0]) 1 rfl H
          exact pG_ret (pRetI H)
        · refine pG_neg (c := ¬ p1 = 0) g3 ?_
          replace H := pRun (ls' := [.ref 188, .int p1, .int p2, .int x3, .int s0]) (st' := [.int s0, .int p2, .ref 188]) 3 rfl H
          obtain ⟨rv, h1, hc, H⟩ := pCalV 78 2 188 (as := [.int p2, .int s0]) (rest := []) rfl (by decide) (by decide +kernel) rfl rfl H
          obtain ⟨v1, M2, hD, H⟩ := pUseU (D_78_ok hS hc) H
          refine pG_call (x := v1) (M1 := M2) hD ?_
          obtain ⟨g0, _, H⟩ := pGo (n1 := 17) rfl (mcb_81 rfl) H
          replace H := pRun (ls' := [.ref 188, .int p1, .int p2, .int x3, .int s0]) (st' := [.int s0]) 1 rfl H
          exact pG_ret (pRetI H)
      · refine pG_neg (c := ¬ s0 = (kI (-1))) g2 ?_
        replace H := pRun (ls' := [.ref 188, .int p1, .int p2, .int x3, .int s0]) (st' := [.int (kI (-1))]) 1 rfl H
        exact pG_ret (pRetI H)
    · refine pG_neg (c := x3 = 0) g1 ?_
      replace H := pRun (ls' := [.ref 188, .int p1, .int p2, .int x3, .int s0]) (st' := [.int (kI (-1)), .int s0]) 2 rfl H
      rcases pIfc (n1 := 12) rfl (mcb_81 rfl) (mcb_81 rfl) H with ⟨g2, g0, _, H⟩ | ⟨g2, g0, _, H⟩
      · refine pG_pos (c := ¬ s0 = (kI (-1))) g2 ?_
        replace H := pRun (ls' := [.ref 188, .int p1, .int p2, .int x3, .int s0]) (st' := [.int (kI (-1)), .int s0]) 2 rfl H
        rcases pIfc (n1 := 14) rfl (mcb_81 rfl) (mcb_81 rfl) H with ⟨g3, g0, _, H⟩ | ⟨g3, g0, _, H⟩
        · refine pG_pos (c := ¬ s0 = (kI (-1))) g3 ?_
          replace H := pRun (ls' := [.ref 188, .int p1, .int p2, .int x3, .int s0]) (st' := [.int p1]) 1 rfl H
          rcases pIf0 (n1 := 16) rfl (mcb_81 rfl) (mcb_81 rfl) H with ⟨g4, g0, _, H⟩ | ⟨g4, g0, _, H⟩
          · refine pG_pos (c := ¬ p1 = 0) g4 ?_
            replace H := pRun (ls' := [.ref 188, .int p1, .int p2, .int x3, .int s0]) (st' := [.int s0, .int p2, .ref 188]) 3 rfl H
            obtain ⟨rv, h1, hc, H⟩ := pCalV 80 2 188 (as := [.int p2, .int s0]) (rest := []) rfl (by decide) (by decide +kernel) rfl rfl H
            obtain ⟨v1, M2, hD, H⟩ := pUseU (D_80_ok hS hc) H
            refine pG_call (x := v1) (M1 := M2) hD ?_
            obtain ⟨g0, _, H⟩ := pFall (mcb_81 rfl) H
            replace H := pRun (ls' := [.ref 188, .int p1, .int p2, .int x3, .int s0]) (st' := [.int s0]) 1 rfl H
            exact pG_ret (pRetI H)
          · refine pG_neg (c := ¬ p1 = 0) g4 ?_
            replace H := pRun (ls' := [.ref 188, .int p1, .int p2, .int x3, .int s0]) (st' := [.int s0, .int p2, .ref 188]) 3 rfl H
            obtain ⟨rv, h1, hc, H⟩ := pCalV 78 2 188 (as := [.int p2, .int s0]) (rest := []) rfl (by decide) (by decide +kernel) rfl rfl H
            obtain ⟨v1, M2, hD, H⟩ := pUseU (D_78_ok hS hc) H
            refine pG_call (x := v1) (M1 := M2) hD ?_
            obtain ⟨g0, _, H⟩ := pGo (n1 := 17) rfl (mcb_81 rfl) H
            replace H := pRun (ls' := [.ref 188, .int p1, .int p2, .int x3, .int s0]) (st' := [.int s0]) 1 rfl H
            exact pG_ret (pRetI H)
        · refine pG_neg (c := ¬ s0 = (kI (-1))) g3 ?_
          replace H := pRun (ls' := [.ref 188, .int p1, .int p2, .int x3, .int s0]) (st' := [.int (kI (-1))]) 1 rfl H
          exact pG_ret (pRetI H)
      · refine pG_neg (c := ¬ s0 = (kI (-1))) g2 ?_
        replace H := pRun (ls' := [.ref 188, .int p1, .int p2, .int x3, .int s0]) (st' := [.ref 188, .ref 188]) 2 rfl H
        replace H := pGetN (v := M1 188 42) rfl (by decide) H
        obtain ⟨M2, eM2, H⟩ := pPutN (j := 44) rfl H
        refine pG_put (M2 := M2) eM2 ?_
        replace H := pRun (ls' := [.ref 188, .int p1, .int p2, .int x3, .int s0]) (st' := [.ref 188, .ref 188]) 2 rfl H
        replace H := pGetN (v := M2 188 43) rfl (by decide) H
        obtain ⟨M3, eM3, H⟩ := pPutN (j := 45) rfl H
        refine pG_put (M2 := M3) eM3 ?_
        obtain ⟨g0, _, H⟩ := pFall (mcb_81 rfl) H
        replace H := pRun (ls' := [.ref 188, .int p1, .int p2, .int x3, .int s0]) (st' := [.int (kI (-1)), .int s0]) 2 rfl H
        rcases pIfc (n1 := 14) rfl (mcb_81 rfl) (mcb_81 rfl) H with ⟨g3, g0, _, H⟩ | ⟨g3, g0, _, H⟩
        · refine pG_pos (c := ¬ s0 = (kI (-1))) g3 ?_
          replace H := pRun (ls' := [.ref 188, .int p1, .int p2, .int x3, .int s0]) (st' := [.int p1]) 1 rfl H
          rcases pIf0 (n1 := 16) rfl (mcb_81 rfl) (mcb_81 rfl) H with ⟨g4, g0, _, H⟩ | ⟨g4, g0, _, H⟩
          · refine pG_pos (c := ¬ p1 = 0) g4 ?_
            replace H := pRun (ls' := [.ref 188, .int p1, .int p2, .int x3, .int s0]) (st' := [.int s0, .int p2, .ref 188]) 3 rfl H
            obtain ⟨rv, h1, hc, H⟩ := pCalV 80 2 188 (as := [.int p2, .int s0]) (rest := []) rfl (by decide) (by decide +kernel) rfl rfl H
            obtain ⟨v1, M4, hD, H⟩ := pUseU (D_80_ok hS hc) H
            refine pG_call (x := v1) (M1 := M4) hD ?_
            obtain ⟨g0, _, H⟩ := pFall (mcb_81 rfl) H
            replace H := pRun (ls' := [.ref 188, .int p1, .int p2, .int x3, .int s0]) (st' := [.int s0]) 1 rfl H
            exact pG_ret (pRetI H)
          · refine pG_neg (c := ¬ p1 = 0) g4 ?_
            replace H := pRun (ls' := [.ref 188, .int p1, .int p2, .int x3, .int s0]) (st' := [.int s0, .int p2, .ref 188]) 3 rfl H
            obtain ⟨rv, h1, hc, H⟩ := pCalV 78 2 188 (as := [.int p2, .int s0]) (rest := []) rfl (by decide) (by decide +kernel) rfl rfl H
            obtain ⟨v1, M4, hD, H⟩ := pUseU (D_78_ok hS hc) H
            refine pG_call (x := v1) (M1 := M4) hD ?_
            obtain ⟨g0, _, H⟩ := pGo (n1 := 17) rfl (mcb_81 rfl) H
            replace H := pRun (ls' := [.ref 188, .int p1, .int p2, .int x3, .int s0]) (st' := [.int s0]) 1 rfl H
            exact pG_ret (pRetI H)
        · refine pG_neg (c := ¬ s0 = (kI (-1))) g3 ?_
          replace H := pRun (ls' := [.ref 188, .int p1, .int p2, .int x3, .int s0]) (st' := [.int (kI (-1))]) 1 rfl H
          exact pG_ret (pRetI H)
theorem L_81_9_ok {X : aX} {F d : Nat} {K : Nat → aK} (hS : pS K) {p1 : Int32} {p2 : Int32} {out : Option Value × aH} {f : Nat} {x3 : Int32} {s0 : Int32} {u4 : Value} {M : pMem} (H : pm X F d 81 f 9 [.istore 4, .aload 0, .bipush 0, .putfield 126612096, .iload 3, .ifCond .eq 12] [.ref 188, .int p1, .int p2, .int x3, u4] [.int s0] (pH K M) out) : pG eI K out (L_81_9 p1 p2 x3 s0 M) := by
  refine pG_all (C := fun P : (Int32 → Int32 → pMem → pT Int32) => C_81 p1 p2 P) (T := fun P => P x3 s0 M) eI_inj (fun _ _ _ _ _ => True) ?_ (fun P hP => (K_81 hS P hP f) _ _ _ _ H)
  exact (fun _ _ _ _ _ _ => trivial)
theorem D_81_ok {X : aX} {F d : Nat} {K : Nat → aK} (hS : pS K) {p1 : Int32} {p2 : Int32} {M : pMem} {out : Option Value × aH} (H : aM X F d 81 [.ref 188, .int p1, .int p2] (pH K M) = some out) : pG eI K out (D_81 p1 p2 M) := by
  obtain ⟨d', g0, _, H⟩ := pEnt (n := 5) (ls := [.ref 188, .int p1, .int p2, aD, aD]) (mcb_81 rfl) (by decide +kernel) rfl H
  unfold D_81
  replace H := pRun (ls' := [.ref 188, .int p1, .int p2, aD, aD]) (st' := [.int (kI 0), .ref 188]) 2 rfl H
  obtain ⟨M1, eM1, H⟩ := pPutN (j := 0) rfl H
  refine pG_put (M2 := M1) eM1 ?_
  replace H := pRun (ls' := [.ref 188, .int p1, .int p2, aD, aD]) (st' := [.int (kI 0), .ref 188]) 2 rfl H
  obtain ⟨M2, eM2, H⟩ := pPutN (j := 44) rfl H
  refine pG_put (M2 := M2) eM2 ?_
  replace H := pRun (ls' := [.ref 188, .int p1, .int p2, aD, aD]) (st' := [.int (kI (-1)), .ref 188]) 2 rfl H
  obtain ⟨M3, eM3, H⟩ := pPutN (j := 45) rfl H
  refine pG_put (M2 := M3) eM3 ?_
  replace H := pRun (ls' := [.ref 188, .int p1, .int p2, aD, aD]) (st' := [.int (kI 1), .int (kI 0), .int p1, .ref 188]) 4 rfl H
  obtain ⟨rv, h1, hc, H⟩ := pCalV 42 3 188 (as := [.int p1, .int (kI 0), .int (kI 1)]) (rest := []) rfl (by decide) (by decide +kernel) rfl rfl H
  replace H := pUseF (f_42_ok hS hc) H
  rcases pIf0 (n1 := 3) rfl (mcb_81 rfl) (mcb_81 rfl) H with ⟨g1, g0, _, H⟩ | ⟨g1, g0, _, H⟩
  · refine pG_pos (c := (f_42 p1 (kI 0) (kI 1)) = 0) g1 ?_
    replace H := pRun (ls' := [.ref 188, .int p1, .int p2, aD, aD]) (st' := [.int (kI 0)]) 1 rfl H
    obtain ⟨g0, _, H⟩ := pFall (mcb_81 rfl) H
    replace H := pRun (ls' := [.ref 188, .int p1, .int p2, .int (kI 0), aD]) (st' := [.int (kI 0), .ref 188]) 3 rfl H
    obtain ⟨M4, eM4, H⟩ := pPutN (j := 25) rfl H
    refine pG_put (M2 := M4) eM4 ?_
    replace H := pRun (ls' := [.ref 188, .int p1, .int p2, .int (kI 0), aD]) (st' := [.int (kI 0), .ref 188]) 2 rfl H
    obtain ⟨M5, eM5, H⟩ := pPutN (j := 38) rfl H
    refine pG_put (M2 := M5) eM5 ?_
    replace H := pRun (ls' := [.ref 188, .int p1, .int p2, .int (kI 0), aD]) (st' := [.int (kI 0), .ref 188]) 2 rfl H
    obtain ⟨M6, eM6, H⟩ := pPutN (j := 39) rfl H
    refine pG_put (M2 := M6) eM6 ?_
    replace H := pRun (ls' := [.ref 188, .int p1, .int p2, .int (kI 0), aD]) (st' := [.ref 188]) 1 rfl H
    obtain ⟨rv, h1, hc, H⟩ := pCalV 65 0 188 (as := []) (rest := []) rfl (by decide) (by decide +kernel) rfl rfl H
    obtain ⟨v1, M7, hD, H⟩ := pUseU (D_65_ok hS hc) H
    refine pG_call (x := v1) (M1 := M7) hD ?_
    replace H := pRun (ls' := [.ref 188, .int p1, .int p2, .int (kI 0), aD]) (st' := [.int (kI 0)]) 1 rfl H
    rcases pIf0 (n1 := 6) rfl (mcb_81 rfl) (mcb_81 rfl) H with ⟨g2, g0, _, H⟩ | ⟨g2, g0, _, H⟩
    · exact absurd (show ¬ (kI 0) = 0 from g2) (by decide)
    · replace H := pRun (ls' := [.ref 188, .int p1, .int p2, .int (kI 0), aD]) (st' := [.int (kI (-1))]) 1 rfl H
      obtain ⟨g0, _, H⟩ := pGo (n1 := 9) rfl (mcb_81 rfl) H
      exact L_81_9_ok hS  H
  · refine pG_neg (c := (f_42 p1 (kI 0) (kI 1)) = 0) g1 ?_
    replace H := pRun (ls' := [.ref 188, .int p1, .int p2, aD, aD]) (st' := [.int (kI 3), .int (kI 0), .int p2, .ref 188]) 4 rfl H
    obtain ⟨rv, h1, hc, H⟩ := pCalV 42 3 188 (as := [.int p2, .int (kI 0), .int (kI 3)]) (rest := []) rfl (by decide) (by decide +kernel) rfl rfl H
    replace H := pUseF (f_42_ok hS hc) H
    rcases pIf0 (n1 := 3) rfl (mcb_81 rfl) (mcb_81 rfl) H with ⟨g2, g0, _, H⟩ | ⟨g2, g0, _, H⟩
    · refine pG_pos (c := (f_42 p2 (kI 0) (kI 3)) = 0) g2 ?_
      replace H := pRun (ls' := [.ref 188, .int p1, .int p2, aD, aD]) (st' := [.int (kI 0)]) 1 rfl H
      obtain ⟨g0, _, H⟩ := pFall (mcb_81 rfl) H
      replace H := pRun (ls' := [.ref 188, .int p1, .int p2, .int (kI 0), aD]) (st' := [.int (kI 0), .ref 188]) 3 rfl H
      obtain ⟨M4, eM4, H⟩ := pPutN (j := 25) rfl H
      refine pG_put (M2 := M4) eM4 ?_
      replace H := pRun (ls' := [.ref 188, .int p1, .int p2, .int (kI 0), aD]) (st' := [.int (kI 0), .ref 188]) 2 rfl H
      obtain ⟨M5, eM5, H⟩ := pPutN (j := 38) rfl H
      refine pG_put (M2 := M5) eM5 ?_
      replace H := pRun (ls' := [.ref 188, .int p1, .int p2, .int (kI 0), aD]) (st' := [.int (kI 0), .ref 188]) 2 rfl H
      obtain ⟨M6, eM6, H⟩ := pPutN (j := 39) rfl H
      refine pG_put (M2 := M6) eM6 ?_
      replace H := pRun (ls' := [.ref 188, .int p1, .int p2, .int (kI 0), aD]) (st' := [.ref 188]) 1 rfl H
      obtain ⟨rv, h1, hc, H⟩ := pCalV 65 0 188 (as := []) (rest := []) rfl (by decide) (by decide +kernel) rfl rfl H
      obtain ⟨v1, M7, hD, H⟩ := pUseU (D_65_ok hS hc) H
      refine pG_call (x := v1) (M1 := M7) hD ?_
      replace H := pRun (ls' := [.ref 188, .int p1, .int p2, .int (kI 0), aD]) (st' := [.int (kI 0)]) 1 rfl H
      rcases pIf0 (n1 := 6) rfl (mcb_81 rfl) (mcb_81 rfl) H with ⟨g3, g0, _, H⟩ | ⟨g3, g0, _, H⟩
      · exact absurd (show ¬ (kI 0) = 0 from g3) (by decide)
      · replace H := pRun (ls' := [.ref 188, .int p1, .int p2, .int (kI 0), aD]) (st' := [.int (kI (-1))]) 1 rfl H
        obtain ⟨g0, _, H⟩ := pGo (n1 := 9) rfl (mcb_81 rfl) H
        exact L_81_9_ok hS  H
    · refine pG_neg (c := (f_42 p2 (kI 0) (kI 3)) = 0) g2 ?_
      replace H := pRun (ls' := [.ref 188, .int p1, .int p2, aD, aD]) (st' := [.int (kI 1)]) 1 rfl H
      obtain ⟨g0, _, H⟩ := pGo (n1 := 4) rfl (mcb_81 rfl) H
      replace H := pRun (ls' := [.ref 188, .int p1, .int p2, .int (kI 1), aD]) (st' := [.int (kI 0), .ref 188]) 3 rfl H
      obtain ⟨M4, eM4, H⟩ := pPutN (j := 25) rfl H
      refine pG_put (M2 := M4) eM4 ?_
      replace H := pRun (ls' := [.ref 188, .int p1, .int p2, .int (kI 1), aD]) (st' := [.int (kI 0), .ref 188]) 2 rfl H
      obtain ⟨M5, eM5, H⟩ := pPutN (j := 38) rfl H
      refine pG_put (M2 := M5) eM5 ?_
      replace H := pRun (ls' := [.ref 188, .int p1, .int p2, .int (kI 1), aD]) (st' := [.int (kI 0), .ref 188]) 2 rfl H
      obtain ⟨M6, eM6, H⟩ := pPutN (j := 39) rfl H
      refine pG_put (M2 := M6) eM6 ?_
      replace H := pRun (ls' := [.ref 188, .int p1, .int p2, .int (kI 1), aD]) (st' := [.ref 188]) 1 rfl H
      obtain ⟨rv, h1, hc, H⟩ := pCalV 65 0 188 (as := []) (rest := []) rfl (by decide) (by decide +kernel) rfl rfl H
      obtain ⟨v1, M7, hD, H⟩ := pUseU (D_65_ok hS hc) H
      refine pG_call (x := v1) (M1 := M7) hD ?_
      replace H := pRun (ls' := [.ref 188, .int p1, .int p2, .int (kI 1), aD]) (st' := [.int (kI 1)]) 1 rfl H
      rcases pIf0 (n1 := 6) rfl (mcb_81 rfl) (mcb_81 rfl) H with ⟨g3, g0, _, H⟩ | ⟨g3, g0, _, H⟩
      · replace H := pRun (ls' := [.ref 188, .int p1, .int p2, .int (kI 1), aD]) (st' := [.int p1]) 1 rfl H
        rcases pIf0 (n1 := 8) rfl (mcb_81 rfl) (mcb_81 rfl) H with ⟨g4, g0, _, H⟩ | ⟨g4, g0, _, H⟩
        · refine pG_pos (c := ¬ p1 = 0) g4 ?_
          replace H := pRun (ls' := [.ref 188, .int p1, .int p2, .int (kI 1), aD]) (st' := [.ref 188]) 1 rfl H
          obtain ⟨rv, h1, hc, H⟩ := pCalV 79 0 188 (as := []) (rest := []) rfl (by decide) (by decide +kernel) rfl rfl H
          obtain ⟨v2, M8, hD, H⟩ := pUseI (D_79_ok hS hc) H
          refine pG_call (x := v2) (M1 := M8) hD ?_
          obtain ⟨g0, _, H⟩ := pFall (mcb_81 rfl) H
          exact L_81_9_ok hS  H
        · refine pG_neg (c := ¬ p1 = 0) g4 ?_
          replace H := pRun (ls' := [.ref 188, .int p1, .int p2, .int (kI 1), aD]) (st' := [.ref 188]) 1 rfl H
          obtain ⟨rv, h1, hc, H⟩ := pCalV 77 0 188 (as := []) (rest := []) rfl (by decide) (by decide +kernel) rfl rfl H
          obtain ⟨v2, M8, hD, H⟩ := pUseI (D_77_ok hS hc) H
          refine pG_call (x := v2) (M1 := M8) hD ?_
          obtain ⟨g0, _, H⟩ := pGo (n1 := 9) rfl (mcb_81 rfl) H
          exact L_81_9_ok hS  H
      · exact absurd (show ¬ (¬ (kI 1) = 0) from g3) (by decide)
def l_81 : List (Nat × Nat) := [(188, 44), (188, 45), (188, 25), (188, 38), (188, 39), (188, 26), (188, 27), (188, 28), (188, 42), (188, 43), (214, 999), (215, 999), (205, 999), (206, 999), (210, 999), (211, 999), (207, 999), (208, 999), (188, 41), (212, 999), (188, 24), (213, 999), (204, 999), (209, 999)]
theorem FC_81 {p1 : Int32} {p2 : Int32} : C_81 p1 p2 (fun _ _ M _ N => pFr (l_81) M N) := fun x3 s0 M => show pTf (l_81) M (S_81_9 p1 p2 _ x3 s0 M) from (tf_put pFr_refl 20 rfl fun M1 f1 => (tf_if (tf_if (tf_if (tf_call f1 (fun _ _ h => F_80 h) [21, 10, 11] rfl fun _ M2 f2 => (tf_ret f2)) (tf_call f1 (fun _ _ h => F_78 h) [12, 13, 16, 17, 22, 23, 14, 15] rfl fun _ M2 f2 => (tf_ret f2))) (tf_ret f1)) (tf_if (tf_if (tf_if (tf_call f1 (fun _ _ h => F_80 h) [21, 10, 11] rfl fun _ M2 f2 => (tf_ret f2)) (tf_call f1 (fun _ _ h => F_78 h) [12, 13, 16, 17, 22, 23, 14, 15] rfl fun _ M2 f2 => (tf_ret f2))) (tf_ret f1)) (tf_put f1 0 rfl fun M2 f2 => (tf_put f2 1 rfl fun M3 f3 => (tf_if (tf_if (tf_call f3 (fun _ _ h => F_80 h) [21, 10, 11] rfl fun _ M4 f4 => (tf_ret f4)) (tf_call f3 (fun _ _ h => F_78 h) [12, 13, 16, 17, 22, 23, 14, 15] rfl fun _ M4 f4 => (tf_ret f4))) (tf_ret f3)))))))
theorem F_81 {p1 : Int32} {p2 : Int32} {M : pMem} {v : Int32} {N : pMem} (h : D_81 p1 p2 M v N) : pFr (l_81) M N :=
  (show pTf (l_81) M (D_81 p1 p2 M) from (tf_putS1 pFr_refl rfl fun M1 f1 => (tf_put f1 0 rfl fun M2 f2 => (tf_put f2 1 rfl fun M3 f3 => (tf_if (tf_put f3 2 rfl fun M4 f4 => (tf_put f4 3 rfl fun M5 f5 => (tf_put f5 4 rfl fun M6 f6 => (tf_call f6 (fun _ _ h => F_65 h) [2, 5, 6, 7] rfl fun _ M7 f7 => (tf_jumpL (fun _ _ M _ N => pFr (l_81) M N) (FC_81) rfl f7))))) (tf_if (tf_put f3 2 rfl fun M4 f4 => (tf_put f4 3 rfl fun M5 f5 => (tf_put f5 4 rfl fun M6 f6 => (tf_call f6 (fun _ _ h => F_65 h) [2, 5, 6, 7] rfl fun _ M7 f7 => (tf_jumpL (fun _ _ M _ N => pFr (l_81) M N) (FC_81) rfl f7))))) (tf_put f3 2 rfl fun M4 f4 => (tf_put f4 3 rfl fun M5 f5 => (tf_put f5 4 rfl fun M6 f6 => (tf_call f6 (fun _ _ h => F_65 h) [2, 5, 6, 7] rfl fun _ M7 f7 => (tf_if (tf_call f7 (fun _ _ h => F_79 h) [8, 9, 10, 11, 2, 5, 6, 7] rfl fun _ M8 f8 => (tf_jumpL (fun _ _ M _ N => pFr (l_81) M N) (FC_81) rfl f8)) (tf_call f7 (fun _ _ h => F_77 h) [8, 9, 12, 2, 5, 6, 7, 13, 14, 15, 3, 16, 17, 18, 4, 19] rfl fun _ M8 f8 => (tf_jumpL (fun _ _ M _ N => pFr (l_81) M N) (FC_81) rfl f8))))))))))))) v N h
/-- TwoCampsModel.fault(I)I -/
def D_82 (p1 : Int32) (M : pMem) : pT Int32 := tPut (aPut M 188 0 (kI 0)) fun M1 => tIf (¬ p1 = 0) (tIf (¬ p1 = (kI 1)) (tRet (kI (-1)) M1) (tRet (M1 188 45) M1)) (tRet (M1 188 44) M1)
theorem D_82_ok {X : aX} {F d : Nat} {K : Nat → aK} (hS : pS K) {p1 : Int32} {M : pMem} {out : Option Value × aH} (H : aM X F d 82 [.ref 188, .int p1] (pH K M) = some out) : pG eI K out (D_82 p1 M) := by
  obtain ⟨d', g0, _, H⟩ := pEnt (n := 2) (ls := [.ref 188, .int p1]) (mcb_82 rfl) (by decide +kernel) rfl H
  unfold D_82
  replace H := pRun (ls' := [.ref 188, .int p1]) (st' := [.int (kI 0), .ref 188]) 2 rfl H
  obtain ⟨M1, eM1, H⟩ := pPutN (j := 0) rfl H
  refine pG_put (M2 := M1) eM1 ?_
  replace H := pRun (ls' := [.ref 188, .int p1]) (st' := [.int p1]) 1 rfl H
  rcases pIf0 (n1 := 2) rfl (mcb_82 rfl) (mcb_82 rfl) H with ⟨g1, g0, _, H⟩ | ⟨g1, g0, _, H⟩
  · refine pG_pos (c := ¬ p1 = 0) g1 ?_
    replace H := pRun (ls' := [.ref 188, .int p1]) (st' := [.int (kI 1), .int p1]) 2 rfl H
    rcases pIfc (n1 := 4) rfl (mcb_82 rfl) (mcb_82 rfl) H with ⟨g2, g0, _, H⟩ | ⟨g2, g0, _, H⟩
    · refine pG_pos (c := ¬ p1 = (kI 1)) g2 ?_
      replace H := pRun (ls' := [.ref 188, .int p1]) (st' := [.int (kI (-1))]) 1 rfl H
      obtain ⟨g0, _, H⟩ := pFall (mcb_82 rfl) H
      exact pG_ret (pRetI H)
    · refine pG_neg (c := ¬ p1 = (kI 1)) g2 ?_
      replace H := pRun (ls' := [.ref 188, .int p1]) (st' := [.ref 188]) 1 rfl H
      replace H := pGetN (v := M1 188 45) rfl (by decide) H
      obtain ⟨g0, _, H⟩ := pGo (n1 := 5) rfl (mcb_82 rfl) H
      exact pG_ret (pRetI H)
  · refine pG_neg (c := ¬ p1 = 0) g1 ?_
    replace H := pRun (ls' := [.ref 188, .int p1]) (st' := [.ref 188]) 1 rfl H
    replace H := pGetN (v := M1 188 44) rfl (by decide) H
    obtain ⟨g0, _, H⟩ := pGo (n1 := 5) rfl (mcb_82 rfl) H
    exact pG_ret (pRetI H)
def l_82 : List (Nat × Nat) := []
theorem F_82 {p1 : Int32} {M : pMem} {v : Int32} {N : pMem} (h : D_82 p1 M v N) : pFr (l_82) M N :=
  (show pTf (l_82) M (D_82 p1 M) from (tf_putS1 pFr_refl rfl fun M1 f1 => (tf_if (tf_if (tf_ret f1) (tf_ret f1)) (tf_ret f1)))) v N h
/-- TwoCampsModel.twoOf(III)I -/
def f_83 (p1 : Int32) (p2 : Int32) (p3 : Int32) : Int32 := if ¬ p1 = (kI 2) then if ¬ p1 = (kI 3) then if ¬ p1 = (kI 4) then if ¬ p1 = (kI 5) then if ¬ p1 = (kI 6) then if ¬ p1 = (kI 7) then if ¬ p1 = (kI 8) then if ¬ p1 = (kI 10) then if (p2 + p3) ≤ 0 then (kI 0) else (kI 1) else (p2 * p3) else if p2 ≤ p3 then (kI 0) else (kI 1) else if ¬ p2 = p3 then (kI 0) else (kI 1) else if p3 ≤ p2 then (kI 0) else (kI 1) else (p2 / p3) else (p2 * p3) else (p2 - p3) else (p2 + p3)
theorem f_83_ok {X : aX} {F d : Nat} {K : Nat → aK} (hS : pS K) {p1 : Int32} {p2 : Int32} {p3 : Int32} {M : pMem} {out : Option Value × aH} (H : aM X F d 83 [.ref 188, .int p1, .int p2, .int p3] (pH K M) = some out) : out = (some <| Value.int (f_83 p1 p2 p3), pH K M) := by
  obtain ⟨d', g0, _, H⟩ := pEnt (n := 4) (ls := [.ref 188, .int p1, .int p2, .int p3]) (mcb_83 rfl) (by decide +kernel) rfl H
  unfold f_83
  replace H := pRun (ls' := [.ref 188, .int p1, .int p2, .int p3]) (st' := [.int (kI 2), .int p1]) 2 rfl H
  rcases pIfc (n1 := 2) rfl (mcb_83 rfl) (mcb_83 rfl) H with ⟨g1, g0, _, H⟩ | ⟨g1, g0, _, H⟩
  · rw [if_pos (show ¬ p1 = (kI 2) from g1)]
    replace H := pRun (ls' := [.ref 188, .int p1, .int p2, .int p3]) (st' := [.int (kI 3), .int p1]) 2 rfl H
    rcases pIfc (n1 := 4) rfl (mcb_83 rfl) (mcb_83 rfl) H with ⟨g2, g0, _, H⟩ | ⟨g2, g0, _, H⟩
    · rw [if_pos (show ¬ p1 = (kI 3) from g2)]
      replace H := pRun (ls' := [.ref 188, .int p1, .int p2, .int p3]) (st' := [.int (kI 4), .int p1]) 2 rfl H
      rcases pIfc (n1 := 6) rfl (mcb_83 rfl) (mcb_83 rfl) H with ⟨g3, g0, _, H⟩ | ⟨g3, g0, _, H⟩
      · rw [if_pos (show ¬ p1 = (kI 4) from g3)]
        replace H := pRun (ls' := [.ref 188, .int p1, .int p2, .int p3]) (st' := [.int (kI 5), .int p1]) 2 rfl H
        rcases pIfc (n1 := 8) rfl (mcb_83 rfl) (mcb_83 rfl) H with ⟨g4, g0, _, H⟩ | ⟨g4, g0, _, H⟩
        · rw [if_pos (show ¬ p1 = (kI 5) from g4)]
          replace H := pRun (ls' := [.ref 188, .int p1, .int p2, .int p3]) (st' := [.int (kI 6), .int p1]) 2 rfl H
          rcases pIfc (n1 := 13) rfl (mcb_83 rfl) (mcb_83 rfl) H with ⟨g5, g0, _, H⟩ | ⟨g5, g0, _, H⟩
          · rw [if_pos (show ¬ p1 = (kI 6) from g5)]
            replace H := pRun (ls' := [.ref 188, .int p1, .int p2, .int p3]) (st' := [.int (kI 7), .int p1]) 2 rfl H
            rcases pIfc (n1 := 18) rfl (mcb_83 rfl) (mcb_83 rfl) H with ⟨g6, g0, _, H⟩ | ⟨g6, g0, _, H⟩
            · rw [if_pos (show ¬ p1 = (kI 7) from g6)]
              replace H := pRun (ls' := [.ref 188, .int p1, .int p2, .int p3]) (st' := [.int (kI 8), .int p1]) 2 rfl H
              rcases pIfc (n1 := 23) rfl (mcb_83 rfl) (mcb_83 rfl) H with ⟨g7, g0, _, H⟩ | ⟨g7, g0, _, H⟩
              · rw [if_pos (show ¬ p1 = (kI 8) from g7)]
                replace H := pRun (ls' := [.ref 188, .int p1, .int p2, .int p3]) (st' := [.int (kI 10), .int p1]) 2 rfl H
                rcases pIfc (n1 := 25) rfl (mcb_83 rfl) (mcb_83 rfl) H with ⟨g8, g0, _, H⟩ | ⟨g8, g0, _, H⟩
                · rw [if_pos (show ¬ p1 = (kI 10) from g8)]
                  replace H := pRun (ls' := [.ref 188, .int p1, .int p2, .int p3]) (st' := [.int (p2 + p3)]) 3 rfl H
                  rcases pIf0 (n1 := 27) rfl (mcb_83 rfl) (mcb_83 rfl) H with ⟨g9, g0, _, H⟩ | ⟨g9, g0, _, H⟩
                  · rw [if_pos (show (p2 + p3) ≤ 0 from g9)]
                    replace H := pRun (ls' := [.ref 188, .int p1, .int p2, .int p3]) (st' := [.int (kI 0)]) 1 rfl H
                    obtain ⟨g0, _, H⟩ := pFall (mcb_83 rfl) H
                    exact pRetI H
                  · rw [if_neg (show ¬ ((p2 + p3) ≤ 0) from g9)]
                    replace H := pRun (ls' := [.ref 188, .int p1, .int p2, .int p3]) (st' := [.int (kI 1)]) 1 rfl H
                    obtain ⟨g0, _, H⟩ := pGo (n1 := 28) rfl (mcb_83 rfl) H
                    exact pRetI H
                · rw [if_neg (show ¬ (¬ p1 = (kI 10)) from g8)]
                  replace H := pRun (ls' := [.ref 188, .int p1, .int p2, .int p3]) (st' := [.int (p2 * p3)]) 3 rfl H
                  obtain ⟨g0, _, H⟩ := pGo (n1 := 28) rfl (mcb_83 rfl) H
                  exact pRetI H
              · rw [if_neg (show ¬ (¬ p1 = (kI 8)) from g7)]
                replace H := pRun (ls' := [.ref 188, .int p1, .int p2, .int p3]) (st' := [.int p3, .int p2]) 2 rfl H
                rcases pIfc (n1 := 21) rfl (mcb_83 rfl) (mcb_83 rfl) H with ⟨g8, g0, _, H⟩ | ⟨g8, g0, _, H⟩
                · rw [if_pos (show p2 ≤ p3 from g8)]
                  replace H := pRun (ls' := [.ref 188, .int p1, .int p2, .int p3]) (st' := [.int (kI 0)]) 1 rfl H
                  obtain ⟨g0, _, H⟩ := pFall (mcb_83 rfl) H
                  exact pRetI H
                · rw [if_neg (show ¬ (p2 ≤ p3) from g8)]
                  replace H := pRun (ls' := [.ref 188, .int p1, .int p2, .int p3]) (st' := [.int (kI 1)]) 1 rfl H
                  obtain ⟨g0, _, H⟩ := pGo (n1 := 22) rfl (mcb_83 rfl) H
                  exact pRetI H
            · rw [if_neg (show ¬ (¬ p1 = (kI 7)) from g6)]
              replace H := pRun (ls' := [.ref 188, .int p1, .int p2, .int p3]) (st' := [.int p3, .int p2]) 2 rfl H
              rcases pIfc (n1 := 16) rfl (mcb_83 rfl) (mcb_83 rfl) H with ⟨g7, g0, _, H⟩ | ⟨g7, g0, _, H⟩
              · rw [if_pos (show ¬ p2 = p3 from g7)]
                replace H := pRun (ls' := [.ref 188, .int p1, .int p2, .int p3]) (st' := [.int (kI 0)]) 1 rfl H
                obtain ⟨g0, _, H⟩ := pFall (mcb_83 rfl) H
                exact pRetI H
              · rw [if_neg (show ¬ (¬ p2 = p3) from g7)]
                replace H := pRun (ls' := [.ref 188, .int p1, .int p2, .int p3]) (st' := [.int (kI 1)]) 1 rfl H
                obtain ⟨g0, _, H⟩ := pGo (n1 := 17) rfl (mcb_83 rfl) H
                exact pRetI H
          · rw [if_neg (show ¬ (¬ p1 = (kI 6)) from g5)]
            replace H := pRun (ls' := [.ref 188, .int p1, .int p2, .int p3]) (st' := [.int p3, .int p2]) 2 rfl H
            rcases pIfc (n1 := 11) rfl (mcb_83 rfl) (mcb_83 rfl) H with ⟨g6, g0, _, H⟩ | ⟨g6, g0, _, H⟩
            · rw [if_pos (show p3 ≤ p2 from g6)]
              replace H := pRun (ls' := [.ref 188, .int p1, .int p2, .int p3]) (st' := [.int (kI 0)]) 1 rfl H
              obtain ⟨g0, _, H⟩ := pFall (mcb_83 rfl) H
              exact pRetI H
            · rw [if_neg (show ¬ (p3 ≤ p2) from g6)]
              replace H := pRun (ls' := [.ref 188, .int p1, .int p2, .int p3]) (st' := [.int (kI 1)]) 1 rfl H
              obtain ⟨g0, _, H⟩ := pGo (n1 := 12) rfl (mcb_83 rfl) H
              exact pRetI H
        · rw [if_neg (show ¬ (¬ p1 = (kI 5)) from g4)]
          replace H := pRun (ls' := [.ref 188, .int p1, .int p2, .int p3]) (st' := [.int p3, .int p2]) 2 rfl H
          obtain ⟨g5, H⟩ := pDiv H
          exact pRetI H
      · rw [if_neg (show ¬ (¬ p1 = (kI 4)) from g3)]
        replace H := pRun (ls' := [.ref 188, .int p1, .int p2, .int p3]) (st' := [.int (p2 * p3)]) 3 rfl H
        exact pRetI H
    · rw [if_neg (show ¬ (¬ p1 = (kI 3)) from g2)]
      replace H := pRun (ls' := [.ref 188, .int p1, .int p2, .int p3]) (st' := [.int (p2 - p3)]) 3 rfl H
      exact pRetI H
  · rw [if_neg (show ¬ (¬ p1 = (kI 2)) from g1)]
    replace H := pRun (ls' := [.ref 188, .int p1, .int p2, .int p3]) (st' := [.int (p2 + p3)]) 3 rfl H
    exact pRetI H
/-- TwoCampsModel.worth(III)I -/
def S_84_1 (p1 : Int32) (p2 : Int32) (p3 : Int32) (P1 : Int32 → Int32 → pMem → pT Int32) (x4 : Int32) (x5 : Int32) (M : pMem) : pT Int32 := tIf ((((kI 500) * p1) + p3) ≤ x5) (tGd (pIn (kI 0) 520) <| tRet (M 217 (ix (kI 0))) M) (tGd (pIn x5 2500) <| tIf ((M 210 (ix x5)) = 0) (tGd (pIn x5 2500) <| tIf (¬ (M 210 (ix x5)) = 0) (tGd (pIn x5 2500) <| tGd (pIn (M 211 (ix x5)) 14) <| tGd (pIn x4 520) <| tPut (aPut M 217 (ix x4) (M 216 (ix (M 211 (ix x5))))) fun M1 => P1 (x4 + (kI 1)) (x5 + kI 1) M1) (tGd (pIn x5 2500) <| tGd (pIn x4 520) <| tPut (aPut M 217 (ix x4) (M 211 (ix x5))) fun M1 => P1 (x4 + (kI 1)) (x5 + kI 1) M1)) (tGd (pIn x5 2500) <| tIf (¬ (M 210 (ix x5)) = (kI 1)) (tGd (pIn x5 2500) <| tIf (¬ (M 210 (ix x5)) = (kI 9)) (tGd (pIn x5 2500) <| tGd (pIn ((x4 - (kI 1)) - (kI 1)) 520) <| tGd (pIn (x4 - (kI 1)) 520) <| tGd (pIn ((x4 - (kI 1)) - (kI 1)) 520) <| tPut (aPut M 217 (ix ((x4 - (kI 1)) - (kI 1))) (f_83 (M 210 (ix x5)) (M 217 (ix ((x4 - (kI 1)) - (kI 1)))) (M 217 (ix (x4 - (kI 1)))))) fun M1 => P1 (x4 - (kI 1)) (x5 + kI 1) M1) (tGd (pIn (x4 - (kI 1)) 520) <| tGd (pIn (x4 - (kI 1)) 520) <| tPut (aPut M 217 (ix (x4 - (kI 1))) ((kI 1) - (M 217 (ix (x4 - (kI 1)))))) fun M1 => P1 x4 (x5 + kI 1) M1)) (tGd (pIn x5 2500) <| tIf (¬ (M 210 (ix x5)) = 0) (tGd (pIn x5 2500) <| tGd (pIn (M 211 (ix x5)) 14) <| tGd (pIn x4 520) <| tPut (aPut M 217 (ix x4) (M 216 (ix (M 211 (ix x5))))) fun M1 => P1 (x4 + (kI 1)) (x5 + kI 1) M1) (tGd (pIn x5 2500) <| tGd (pIn x4 520) <| tPut (aPut M 217 (ix x4) (M 211 (ix x5))) fun M1 => P1 (x4 + (kI 1)) (x5 + kI 1) M1))))
def C_84 (p1 : Int32) (p2 : Int32) (p3 : Int32) (P1 : Int32 → Int32 → pMem → pT Int32) : Prop := (∀ (x4 : Int32) (x5 : Int32) M v N, S_84_1 p1 p2 p3 P1 x4 x5 M v N → P1 x4 x5 M v N)
def L_84_1 (p1 : Int32) (p2 : Int32) (p3 : Int32) (x4 : Int32) (x5 : Int32) (M : pMem) : pT Int32 := fun v N => ∀ P : (Int32 → Int32 → pMem → pT Int32), C_84 p1 p2 p3 P → P x4 x5 M v N
def D_84 (p1 : Int32) (p2 : Int32) (p3 : Int32) (M : pMem) : pT Int32 := L_84_1 p1 p2 p3 (kI 0) (((kI 500) * p1) + p2) M
theorem K_84 {X : aX} {F d : Nat} {K : Nat → aK} (hS : pS K) {p1 : Int32} {p2 : Int32} {p3 : Int32} {out : Option Value × aH} (P1 : Int32 → Int32 → pMem → pT Int32) (hC : C_84 p1 p2 p3 P1) : ∀ f, (∀ (x4 : Int32) (x5 : Int32) M, pm X F d 84 f 1 [.iload 5, .bipush 500, .iload 1, .imul, .iload 3, .iadd, .if_icmp .ge 12] [.ref 188, .int p1, .int p2, .int p3, .int x4, .int x5] [] (pH K M) out → pG eI K out (P1 x4 x5 M)) := by
  intro f
  induction f using Nat.strongRecOn with
  | _ f ih =>
    intro x4 x5 M H
    refine pG_mono (fun v N h => hC x4 x5 M v N h) ?_
    unfold S_84_1
    replace H := pRun (ls' := [.ref 188, .int p1, .int p2, .int p3, .int x4, .int x5]) (st' := [.int (((kI 500) * p1) + p3), .int x5]) 6 rfl H
    rcases pIfc (n1 := 12) rfl (mcb_84 rfl) (mcb_84 rfl) H with ⟨g1, g0, _, H⟩ | ⟨g1, g0, _, H⟩
    · refine pG_pos (c := (((kI 500) * p1) + p3) ≤ x5) g1 ?_
      replace H := pRun (ls' := [.ref 188, .int p1, .int p2, .int p3, .int x4, .int x5]) (st' := [.ref 188]) 1 rfl H
      replace H := pGetR (r := 217) (pRf hS (by decide +kernel)) rfl H
      replace H := pRun (ls' := [.ref 188, .int p1, .int p2, .int p3, .int x4, .int x5]) (st' := [.int (kI 0), .ref 217]) 1 rfl H
      obtain ⟨g2, H⟩ := pIld (n := 520) (pLt (show pCa 217 520 = true by decide +kernel)) (pLn hS (show pCa 217 520 = true by decide +kernel)) H
      refine pG_gd g2 ?_
      exact pG_ret (pRetI H)
    · refine pG_neg (c := (((kI 500) * p1) + p3) ≤ x5) g1 ?_
      replace H := pRun (ls' := [.ref 188, .int p1, .int p2, .int p3, .int x4, .int x5]) (st' := [.ref 188]) 1 rfl H
      replace H := pGetR (r := 210) (pRf hS (by decide +kernel)) rfl H
      replace H := pRun (ls' := [.ref 188, .int p1, .int p2, .int p3, .int x4, .int x5]) (st' := [.int x5, .ref 210]) 1 rfl H
      obtain ⟨g2, H⟩ := pIld (n := 2500) (pLt (show pCa 210 2500 = true by decide +kernel)) (pLn hS (show pCa 210 2500 = true by decide +kernel)) H
      refine pG_gd g2 ?_
      rcases pIf0 (n1 := 4) rfl (mcb_84 rfl) (mcb_84 rfl) H with ⟨g3, g0, _, H⟩ | ⟨g3, g0, _, H⟩
      · refine pG_pos (c := (M 210 (ix x5)) = 0) g3 ?_
        replace H := pRun (ls' := [.ref 188, .int p1, .int p2, .int p3, .int x4, .int x5]) (st' := [.ref 188]) 1 rfl H
        replace H := pGetR (r := 217) (pRf hS (by decide +kernel)) rfl H
        replace H := pRun (ls' := [.ref 188, .int p1, .int p2, .int p3, .int x4, .int x5]) (st' := [.ref 188, .int x4, .ref 217]) 2 rfl H
        replace H := pGetR (r := 210) (pRf hS (by decide +kernel)) rfl H
        replace H := pRun (ls' := [.ref 188, .int p1, .int p2, .int p3, .int x4, .int x5]) (st' := [.int x5, .ref 210, .int x4, .ref 217]) 1 rfl H
        obtain ⟨g4, H⟩ := pIld (n := 2500) (pLt (show pCa 210 2500 = true by decide +kernel)) (pLn hS (show pCa 210 2500 = true by decide +kernel)) H
        refine pG_gd g4 ?_
        rcases pIf0 (n1 := 6) rfl (mcb_84 rfl) (mcb_84 rfl) H with ⟨g5, g0, _, H⟩ | ⟨g5, g0, _, H⟩
        · refine pG_pos (c := ¬ (M 210 (ix x5)) = 0) g5 ?_
          replace H := pRun (ls' := [.ref 188, .int p1, .int p2, .int p3, .int x4, .int x5]) (st' := [.ref 188, .int x4, .ref 217]) 1 rfl H
          replace H := pGetR (r := 216) (pRf hS (by decide +kernel)) rfl H
          replace H := pRun (ls' := [.ref 188, .int p1, .int p2, .int p3, .int x4, .int x5]) (st' := [.ref 188, .ref 216, .int x4, .ref 217]) 1 rfl H
          replace H := pGetR (r := 211) (pRf hS (by decide +kernel)) rfl H
          replace H := pRun (ls' := [.ref 188, .int p1, .int p2, .int p3, .int x4, .int x5]) (st' := [.int x5, .ref 211, .ref 216, .int x4, .ref 217]) 1 rfl H
          obtain ⟨g6, H⟩ := pIld (n := 2500) (pLt (show pCa 211 2500 = true by decide +kernel)) (pLn hS (show pCa 211 2500 = true by decide +kernel)) H
          refine pG_gd g6 ?_
          obtain ⟨g7, H⟩ := pIld (n := 14) (pLt (show pCa 216 14 = true by decide +kernel)) (pLn hS (show pCa 216 14 = true by decide +kernel)) H
          refine pG_gd g7 ?_
          obtain ⟨g0, _, H⟩ := pFall (mcb_84 rfl) H
          obtain ⟨g8, M1, eM1, H⟩ := pIst (n := 520) (pLn hS (show pCa 217 520 = true by decide +kernel)) H
          refine pG_gd g8 (pG_put (M2 := M1) eM1 ?_)
          replace H := pRun (ls' := [.ref 188, .int p1, .int p2, .int p3, .int (x4 + (kI 1)), .int x5]) (st' := []) 4 rfl H
          obtain ⟨g0, _, H⟩ := pGo (n1 := 11) rfl (mcb_84 rfl) H
          replace H := pRun (ls' := [.ref 188, .int p1, .int p2, .int p3, .int (x4 + (kI 1)), .int (x5 + kI 1)]) (st' := []) 1 rfl H
          obtain ⟨g0, _, H⟩ := pGo (n1 := 1) rfl (mcb_84 rfl) H
          exact (ih _ (by omega)) _ _  _ H
        · refine pG_neg (c := ¬ (M 210 (ix x5)) = 0) g5 ?_
          replace H := pRun (ls' := [.ref 188, .int p1, .int p2, .int p3, .int x4, .int x5]) (st' := [.ref 188, .int x4, .ref 217]) 1 rfl H
          replace H := pGetR (r := 211) (pRf hS (by decide +kernel)) rfl H
          replace H := pRun (ls' := [.ref 188, .int p1, .int p2, .int p3, .int x4, .int x5]) (st' := [.int x5, .ref 211, .int x4, .ref 217]) 1 rfl H
          obtain ⟨g6, H⟩ := pIld (n := 2500) (pLt (show pCa 211 2500 = true by decide +kernel)) (pLn hS (show pCa 211 2500 = true by decide +kernel)) H
          refine pG_gd g6 ?_
          obtain ⟨g0, _, H⟩ := pGo (n1 := 7) rfl (mcb_84 rfl) H
          obtain ⟨g7, M1, eM1, H⟩ := pIst (n := 520) (pLn hS (show pCa 217 520 = true by decide +kernel)) H
          refine pG_gd g7 (pG_put (M2 := M1) eM1 ?_)
          replace H := pRun (ls' := [.ref 188, .int p1, .int p2, .int p3, .int (x4 + (kI 1)), .int x5]) (st' := []) 4 rfl H
          obtain ⟨g0, _, H⟩ := pGo (n1 := 11) rfl (mcb_84 rfl) H
          replace H := pRun (ls' := [.ref 188, .int p1, .int p2, .int p3, .int (x4 + (kI 1)), .int (x5 + kI 1)]) (st' := []) 1 rfl H
          obtain ⟨g0, _, H⟩ := pGo (n1 := 1) rfl (mcb_84 rfl) H
          exact (ih _ (by omega)) _ _  _ H
      · refine pG_neg (c := (M 210 (ix x5)) = 0) g3 ?_
        replace H := pRun (ls' := [.ref 188, .int p1, .int p2, .int p3, .int x4, .int x5]) (st' := [.ref 188]) 1 rfl H
        replace H := pGetR (r := 210) (pRf hS (by decide +kernel)) rfl H
        replace H := pRun (ls' := [.ref 188, .int p1, .int p2, .int p3, .int x4, .int x5]) (st' := [.int x5, .ref 210]) 1 rfl H
        obtain ⟨g4, H⟩ := pIld (n := 2500) (pLt (show pCa 210 2500 = true by decide +kernel)) (pLn hS (show pCa 210 2500 = true by decide +kernel)) H
        refine pG_gd g4 ?_
        replace H := pRun (ls' := [.ref 188, .int p1, .int p2, .int p3, .int x4, .int x5]) (st' := [.int (kI 1), .int (M 210 (ix x5))]) 1 rfl H
        rcases pIfc (n1 := 8) rfl (mcb_84 rfl) (mcb_84 rfl) H with ⟨g5, g0, _, H⟩ | ⟨g5, g0, _, H⟩
        · refine pG_pos (c := ¬ (M 210 (ix x5)) = (kI 1)) g5 ?_
          replace H := pRun (ls' := [.ref 188, .int p1, .int p2, .int p3, .int x4, .int x5]) (st' := [.ref 188]) 1 rfl H
          replace H := pGetR (r := 210) (pRf hS (by decide +kernel)) rfl H
          replace H := pRun (ls' := [.ref 188, .int p1, .int p2, .int p3, .int x4, .int x5]) (st' := [.int x5, .ref 210]) 1 rfl H
          obtain ⟨g6, H⟩ := pIld (n := 2500) (pLt (show pCa 210 2500 = true by decide +kernel)) (pLn hS (show pCa 210 2500 = true by decide +kernel)) H
          refine pG_gd g6 ?_
          replace H := pRun (ls' := [.ref 188, .int p1, .int p2, .int p3, .int x4, .int x5]) (st' := [.int (kI 9), .int (M 210 (ix x5))]) 1 rfl H
          rcases pIfc (n1 := 10) rfl (mcb_84 rfl) (mcb_84 rfl) H with ⟨g7, g0, _, H⟩ | ⟨g7, g0, _, H⟩
          · refine pG_pos (c := ¬ (M 210 (ix x5)) = (kI 9)) g7 ?_
            replace H := pRun (ls' := [.ref 188, .int p1, .int p2, .int p3, .int (x4 - (kI 1)), .int x5]) (st' := [.ref 188]) 5 rfl H
            replace H := pGetR (r := 217) (pRf hS (by decide +kernel)) rfl H
            replace H := pRun (ls' := [.ref 188, .int p1, .int p2, .int p3, .int (x4 - (kI 1)), .int x5]) (st' := [.ref 188, .ref 188, .int ((x4 - (kI 1)) - (kI 1)), .ref 217]) 5 rfl H
            replace H := pGetR (r := 210) (pRf hS (by decide +kernel)) rfl H
            replace H := pRun (ls' := [.ref 188, .int p1, .int p2, .int p3, .int (x4 - (kI 1)), .int x5]) (st' := [.int x5, .ref 210, .ref 188, .int ((x4 - (kI 1)) - (kI 1)), .ref 217]) 1 rfl H
            obtain ⟨g8, H⟩ := pIld (n := 2500) (pLt (show pCa 210 2500 = true by decide +kernel)) (pLn hS (show pCa 210 2500 = true by decide +kernel)) H
            refine pG_gd g8 ?_
            replace H := pRun (ls' := [.ref 188, .int p1, .int p2, .int p3, .int (x4 - (kI 1)), .int x5]) (st' := [.ref 188, .int (M 210 (ix x5)), .ref 188, .int ((x4 - (kI 1)) - (kI 1)), .ref 217]) 1 rfl H
            replace H := pGetR (r := 217) (pRf hS (by decide +kernel)) rfl H
            replace H := pRun (ls' := [.ref 188, .int p1, .int p2, .int p3, .int (x4 - (kI 1)), .int x5]) (st' := [.int ((x4 - (kI 1)) - (kI 1)), .ref 217, .int (M 210 (ix x5)), .ref 188, .int ((x4 - (kI 1)) - (kI 1)), .ref 217]) 3 rfl H
            obtain ⟨g9, H⟩ := pIld (n := 520) (pLt (show pCa 217 520 = true by decide +kernel)) (pLn hS (show pCa 217 520 = true by decide +kernel)) H
            refine pG_gd g9 ?_
            replace H := pRun (ls' := [.ref 188, .int p1, .int p2, .int p3, .int (x4 - (kI 1)), .int x5]) (st' := [.ref 188, .int (M 217 (ix ((x4 - (kI 1)) - (kI 1)))), .int (M 210 (ix x5)), .ref 188, .int ((x4 - (kI 1)) - (kI 1)), .ref 217]) 1 rfl H
            replace H := pGetR (r := 217) (pRf hS (by decide +kernel)) rfl H
            replace H := pRun (ls' := [.ref 188, .int p1, .int p2, .int p3, .int (x4 - (kI 1)), .int x5]) (st' := [.int (x4 - (kI 1)), .ref 217, .int (M 217 (ix ((x4 - (kI 1)) - (kI 1)))), .int (M 210 (ix x5)), .ref 188, .int ((x4 - (kI 1)) - (kI 1)), .ref 217]) 1 rfl H
            obtain ⟨g10, H⟩ := pIld (n := 520) (pLt (show pCa 217 520 = true by decide +kernel)) (pLn hS (show pCa 217 520 = true by decide +kernel)) H
            refine pG_gd g10 ?_
            obtain ⟨rv, h1, hc, H⟩ := pCalV 83 3 188 (as := [.int (M 210 (ix x5)), .int (M 217 (ix ((x4 - (kI 1)) - (kI 1)))), .int (M 217 (ix (x4 - (kI 1))))]) (rest := [.int ((x4 - (kI 1)) - (kI 1)), .ref 217]) rfl (by decide) (by decide +kernel) rfl rfl H
            replace H := pUseF (f_83_ok hS hc) H
            obtain ⟨g11, M1, eM1, H⟩ := pIst (n := 520) (pLn hS (show pCa 217 520 = true by decide +kernel)) H
            refine pG_gd g11 (pG_put (M2 := M1) eM1 ?_)
            obtain ⟨g0, _, H⟩ := pFall (mcb_84 rfl) H
            replace H := pRun (ls' := [.ref 188, .int p1, .int p2, .int p3, .int (x4 - (kI 1)), .int (x5 + kI 1)]) (st' := []) 1 rfl H
            obtain ⟨g0, _, H⟩ := pGo (n1 := 1) rfl (mcb_84 rfl) H
            exact (ih _ (by omega)) _ _  _ H
          · refine pG_neg (c := ¬ (M 210 (ix x5)) = (kI 9)) g7 ?_
            replace H := pRun (ls' := [.ref 188, .int p1, .int p2, .int p3, .int x4, .int x5]) (st' := [.ref 188]) 1 rfl H
            replace H := pGetR (r := 217) (pRf hS (by decide +kernel)) rfl H
            replace H := pRun (ls' := [.ref 188, .int p1, .int p2, .int p3, .int x4, .int x5]) (st' := [.ref 188, .int (kI 1), .int (x4 - (kI 1)), .ref 217]) 5 rfl H
            replace H := pGetR (r := 217) (pRf hS (by decide +kernel)) rfl H
            replace H := pRun (ls' := [.ref 188, .int p1, .int p2, .int p3, .int x4, .int x5]) (st' := [.int (x4 - (kI 1)), .ref 217, .int (kI 1), .int (x4 - (kI 1)), .ref 217]) 3 rfl H
            obtain ⟨g8, H⟩ := pIld (n := 520) (pLt (show pCa 217 520 = true by decide +kernel)) (pLn hS (show pCa 217 520 = true by decide +kernel)) H
            refine pG_gd g8 ?_
            replace H := pRun (ls' := [.ref 188, .int p1, .int p2, .int p3, .int x4, .int x5]) (st' := [.int ((kI 1) - (M 217 (ix (x4 - (kI 1))))), .int (x4 - (kI 1)), .ref 217]) 1 rfl H
            obtain ⟨g9, M1, eM1, H⟩ := pIst (n := 520) (pLn hS (show pCa 217 520 = true by decide +kernel)) H
            refine pG_gd g9 (pG_put (M2 := M1) eM1 ?_)
            obtain ⟨g0, _, H⟩ := pGo (n1 := 11) rfl (mcb_84 rfl) H
            replace H := pRun (ls' := [.ref 188, .int p1, .int p2, .int p3, .int x4, .int (x5 + kI 1)]) (st' := []) 1 rfl H
            obtain ⟨g0, _, H⟩ := pGo (n1 := 1) rfl (mcb_84 rfl) H
            exact (ih _ (by omega)) _ _  _ H
        · refine pG_neg (c := ¬ (M 210 (ix x5)) = (kI 1)) g5 ?_
          replace H := pRun (ls' := [.ref 188, .int p1, .int p2, .int p3, .int x4, .int x5]) (st' := [.ref 188]) 1 rfl H
          replace H := pGetR (r := 217) (pRf hS (by decide +kernel)) rfl H
          replace H := pRun (ls' := [.ref 188, .int p1, .int p2, .int p3, .int x4, .int x5]) (st' := [.ref 188, .int x4, .ref 217]) 2 rfl H
          replace H := pGetR (r := 210) (pRf hS (by decide +kernel)) rfl H
          replace H := pRun (ls' := [.ref 188, .int p1, .int p2, .int p3, .int x4, .int x5]) (st' := [.int x5, .ref 210, .int x4, .ref 217]) 1 rfl H
          obtain ⟨g6, H⟩ := pIld (n := 2500) (pLt (show pCa 210 2500 = true by decide +kernel)) (pLn hS (show pCa 210 2500 = true by decide +kernel)) H
          refine pG_gd g6 ?_
          rcases pIf0 (n1 := 6) rfl (mcb_84 rfl) (mcb_84 rfl) H with ⟨g7, g0, _, H⟩ | ⟨g7, g0, _, H⟩
          · refine pG_pos (c := ¬ (M 210 (ix x5)) = 0) g7 ?_
            replace H := pRun (ls' := [.ref 188, .int p1, .int p2, .int p3, .int x4, .int x5]) (st' := [.ref 188, .int x4, .ref 217]) 1 rfl H
            replace H := pGetR (r := 216) (pRf hS (by decide +kernel)) rfl H
            replace H := pRun (ls' := [.ref 188, .int p1, .int p2, .int p3, .int x4, .int x5]) (st' := [.ref 188, .ref 216, .int x4, .ref 217]) 1 rfl H
            replace H := pGetR (r := 211) (pRf hS (by decide +kernel)) rfl H
            replace H := pRun (ls' := [.ref 188, .int p1, .int p2, .int p3, .int x4, .int x5]) (st' := [.int x5, .ref 211, .ref 216, .int x4, .ref 217]) 1 rfl H
            obtain ⟨g8, H⟩ := pIld (n := 2500) (pLt (show pCa 211 2500 = true by decide +kernel)) (pLn hS (show pCa 211 2500 = true by decide +kernel)) H
            refine pG_gd g8 ?_
            obtain ⟨g9, H⟩ := pIld (n := 14) (pLt (show pCa 216 14 = true by decide +kernel)) (pLn hS (show pCa 216 14 = true by decide +kernel)) H
            refine pG_gd g9 ?_
            obtain ⟨g0, _, H⟩ := pFall (mcb_84 rfl) H
            obtain ⟨g10, M1, eM1, H⟩ := pIst (n := 520) (pLn hS (show pCa 217 520 = true by decide +kernel)) H
            refine pG_gd g10 (pG_put (M2 := M1) eM1 ?_)
            replace H := pRun (ls' := [.ref 188, .int p1, .int p2, .int p3, .int (x4 + (kI 1)), .int x5]) (st' := []) 4 rfl H
            obtain ⟨g0, _, H⟩ := pGo (n1 := 11) rfl (mcb_84 rfl) H
            replace H := pRun (ls' := [.ref 188, .int p1, .int p2, .int p3, .int (x4 + (kI 1)), .int (x5 + kI 1)]) (st' := []) 1 rfl H
            obtain ⟨g0, _, H⟩ := pGo (n1 := 1) rfl (mcb_84 rfl) H
            exact (ih _ (by omega)) _ _  _ H
          · refine pG_neg (c := ¬ (M 210 (ix x5)) = 0) g7 ?_
            replace H := pRun (ls' := [.ref 188, .int p1, .int p2, .int p3, .int x4, .int x5]) (st' := [.ref 188, .int x4, .ref 217]) 1 rfl H
            replace H := pGetR (r := 211) (pRf hS (by decide +kernel)) rfl H
            replace H := pRun (ls' := [.ref 188, .int p1, .int p2, .int p3, .int x4, .int x5]) (st' := [.int x5, .ref 211, .int x4, .ref 217]) 1 rfl H
            obtain ⟨g8, H⟩ := pIld (n := 2500) (pLt (show pCa 211 2500 = true by decide +kernel)) (pLn hS (show pCa 211 2500 = true by decide +kernel)) H
            refine pG_gd g8 ?_
            obtain ⟨g0, _, H⟩ := pGo (n1 := 7) rfl (mcb_84 rfl) H
            obtain ⟨g9, M1, eM1, H⟩ := pIst (n := 520) (pLn hS (show pCa 217 520 = true by decide +kernel)) H
            refine pG_gd g9 (pG_put (M2 := M1) eM1 ?_)
            replace H := pRun (ls' := [.ref 188, .int p1, .int p2, .int p3, .int (x4 + (kI 1)), .int x5]) (st' := []) 4 rfl H
            obtain ⟨g0, _, H⟩ := pGo (n1 := 11) rfl (mcb_84 rfl) H
            replace H := pRun (ls' := [.ref 188, .int p1, .int p2, .int p3, .int (x4 + (kI 1)), .int (x5 + kI 1)]) (st' := []) 1 rfl H
            obtain ⟨g0, _, H⟩ := pGo (n1 := 1) rfl (mcb_84 rfl) H
            exact (ih _ (by omega)) _ _  _ H
theorem L_84_1_ok {X : aX} {F d : Nat} {K : Nat → aK} (hS : pS K) {p1 : Int32} {p2 : Int32} {p3 : Int32} {out : Option Value × aH} {f : Nat} {x4 : Int32} {x5 : Int32} {M : pMem} (H : pm X F d 84 f 1 [.iload 5, .bipush 500, .iload 1, .imul, .iload 3, .iadd, .if_icmp .ge 12] [.ref 188, .int p1, .int p2, .int p3, .int x4, .int x5] [] (pH K M) out) : pG eI K out (L_84_1 p1 p2 p3 x4 x5 M) := by
  refine pG_all (C := fun P : (Int32 → Int32 → pMem → pT Int32) => C_84 p1 p2 p3 P) (T := fun P => P x4 x5 M) eI_inj (fun _ _ _ _ _ => True) ?_ (fun P hP => (K_84 hS P hP f) _ _ _ H)
  exact (fun _ _ _ _ _ _ => trivial)
theorem D_84_ok {X : aX} {F d : Nat} {K : Nat → aK} (hS : pS K) {p1 : Int32} {p2 : Int32} {p3 : Int32} {M : pMem} {out : Option Value × aH} (H : aM X F d 84 [.ref 188, .int p1, .int p2, .int p3] (pH K M) = some out) : pG eI K out (D_84 p1 p2 p3 M) := by
  obtain ⟨d', g0, _, H⟩ := pEnt (n := 6) (ls := [.ref 188, .int p1, .int p2, .int p3, aD, aD]) (mcb_84 rfl) (by decide +kernel) rfl H
  unfold D_84
  replace H := pRun (ls' := [.ref 188, .int p1, .int p2, .int p3, .int (kI 0), .int (((kI 500) * p1) + p2)]) (st' := []) 8 rfl H
  obtain ⟨g0, _, H⟩ := pFall (mcb_84 rfl) H
  exact L_84_1_ok hS  H
def l_84 : List (Nat × Nat) := []
theorem FC_84 {p1 : Int32} {p2 : Int32} {p3 : Int32} : C_84 p1 p2 p3 (fun _ _ M _ N => pFr (l_84) M N) := fun x4 x5 M => show pTf (l_84) M (S_84_1 p1 p2 p3 _ x4 x5 M) from (tf_if (tf_gd fun g2 => (tf_ret pFr_refl)) (tf_gd fun g2 => (tf_if (tf_gd fun g4 => (tf_if (tf_gd fun g6 => (tf_gd fun g7 => (tf_gd fun g8 => (tf_putS pFr_refl (fun _ => rfl) fun M1 f1 => (tf_jump f1))))) (tf_gd fun g6 => (tf_gd fun g7 => (tf_putS pFr_refl (fun _ => rfl) fun M1 f1 => (tf_jump f1)))))) (tf_gd fun g4 => (tf_if (tf_gd fun g6 => (tf_if (tf_gd fun g8 => (tf_gd fun g9 => (tf_gd fun g10 => (tf_gd fun g11 => (tf_putS pFr_refl (fun _ => rfl) fun M1 f1 => (tf_jump f1)))))) (tf_gd fun g8 => (tf_gd fun g9 => (tf_putS pFr_refl (fun _ => rfl) fun M1 f1 => (tf_jump f1)))))) (tf_gd fun g6 => (tf_if (tf_gd fun g8 => (tf_gd fun g9 => (tf_gd fun g10 => (tf_putS pFr_refl (fun _ => rfl) fun M1 f1 => (tf_jump f1))))) (tf_gd fun g8 => (tf_gd fun g9 => (tf_putS pFr_refl (fun _ => rfl) fun M1 f1 => (tf_jump f1)))))))))))
theorem F_84 {p1 : Int32} {p2 : Int32} {p3 : Int32} {M : pMem} {v : Int32} {N : pMem} (h : D_84 p1 p2 p3 M v N) : pFr (l_84) M N :=
  (show pTf (l_84) M (D_84 p1 p2 p3 M) from (tf_jumpL (fun _ _ M _ N => pFr (l_84) M N) (FC_84) rfl pFr_refl)) v N h
