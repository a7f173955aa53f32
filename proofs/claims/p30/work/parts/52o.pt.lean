/-! what runs come to, method by method: printed by wip/pm/pm.py -/
/-- TwoCampsModel.imagesBoys()V -/
def S_134_1 (P1 : Int32 → pMem → pT Unit) (P4 : Int32 → pMem → pT Unit) (P13 : Int32 → pMem → pT Unit) (x1 : Int32) (M : pMem) : pT Unit := tIf ((kI 5) ≤ x1) (P4 (kI 0) M) (tGd (pIn x1 5) <| tCall (D_132 (M 223 (ix x1)) M) fun v1 M1 => tGd (pIn x1 5) <| tPut (aPut M1 223 (ix x1) v1) fun M2 => P1 (x1 + kI 1) M2)
def S_134_4 (P1 : Int32 → pMem → pT Unit) (P4 : Int32 → pMem → pT Unit) (P13 : Int32 → pMem → pT Unit) (x1 : Int32) (M : pMem) : pT Unit := tIf ((kI 24) ≤ x1) (P13 (kI 0) M) (tGd (pIn x1 24) <| tCall (D_132 (M 189 (ix x1)) M) fun v1 M1 => tGd (pIn x1 24) <| tPut (aPut M1 189 (ix x1) v1) fun M2 => tGd (pIn x1 24) <| tCall (D_132 (M2 190 (ix x1)) M2) fun v2 M3 => tGd (pIn x1 24) <| tPut (aPut M3 190 (ix x1) v2) fun M4 => tGd (pIn x1 24) <| tCall (D_132 (M4 193 (ix x1)) M4) fun v3 M5 => tGd (pIn x1 24) <| tPut (aPut M5 193 (ix x1) v3) fun M6 => tGd (pIn x1 24) <| tIf ((M6 226 (ix x1)) = 0) (tCall (D_132 (kI 0) M6) fun v4 M7 => tIf (¬ v4 = (kI 1)) (tGd (pIn x1 24) <| tPut (aPut M7 226 (ix x1) (kI 0)) fun M8 => tGd (pIn x1 24) <| tCall (D_132 (M8 227 (ix x1)) M8) fun v5 M9 => tGd (pIn x1 24) <| tPut (aPut M9 227 (ix x1) v5) fun M10 => P4 (x1 + kI 1) M10) (tGd (pIn x1 24) <| tPut (aPut M7 226 (ix x1) (kI 1)) fun M8 => tGd (pIn x1 24) <| tCall (D_132 (M8 227 (ix x1)) M8) fun v5 M9 => tGd (pIn x1 24) <| tPut (aPut M9 227 (ix x1) v5) fun M10 => P4 (x1 + kI 1) M10)) (tCall (D_132 (kI 1) M6) fun v4 M7 => tIf (¬ v4 = (kI 1)) (tGd (pIn x1 24) <| tPut (aPut M7 226 (ix x1) (kI 0)) fun M8 => tGd (pIn x1 24) <| tCall (D_132 (M8 227 (ix x1)) M8) fun v5 M9 => tGd (pIn x1 24) <| tPut (aPut M9 227 (ix x1) v5) fun M10 => P4 (x1 + kI 1) M10) (tGd (pIn x1 24) <| tPut (aPut M7 226 (ix x1) (kI 1)) fun M8 => tGd (pIn x1 24) <| tCall (D_132 (M8 227 (ix x1)) M8) fun v5 M9 => tGd (pIn x1 24) <| tPut (aPut M9 227 (ix x1) v5) fun M10 => P4 (x1 + kI 1) M10)))
def S_134_13 (P1 : Int32 → pMem → pT Unit) (P4 : Int32 → pMem → pT Unit) (P13 : Int32 → pMem → pT Unit) (x1 : Int32) (M : pMem) : pT Unit := tIf ((kI 576) ≤ x1) (tRet () M) (tGd (pIn x1 576) <| tCall (D_132 (M 195 (ix x1)) M) fun v1 M1 => tGd (pIn x1 576) <| tPut (aPut M1 195 (ix x1) v1) fun M2 => P13 (x1 + kI 1) M2)
def C_134 (P1 : Int32 → pMem → pT Unit) (P4 : Int32 → pMem → pT Unit) (P13 : Int32 → pMem → pT Unit) : Prop := (∀ (x1 : Int32) M v N, S_134_1 P1 P4 P13 x1 M v N → P1 x1 M v N) ∧ (∀ (x1 : Int32) M v N, S_134_4 P1 P4 P13 x1 M v N → P4 x1 M v N) ∧ (∀ (x1 : Int32) M v N, S_134_13 P1 P4 P13 x1 M v N → P13 x1 M v N)
def L_134_1 (x1 : Int32) (M : pMem) : pT Unit := fun v N => ∀ P : (Int32 → pMem → pT Unit) × (Int32 → pMem → pT Unit) × (Int32 → pMem → pT Unit), C_134 P.1 P.2.1 P.2.2 → P.1 x1 M v N
def L_134_4 (x1 : Int32) (M : pMem) : pT Unit := fun v N => ∀ P : (Int32 → pMem → pT Unit) × (Int32 → pMem → pT Unit) × (Int32 → pMem → pT Unit), C_134 P.1 P.2.1 P.2.2 → P.2.1 x1 M v N
def L_134_13 (x1 : Int32) (M : pMem) : pT Unit := fun v N => ∀ P : (Int32 → pMem → pT Unit) × (Int32 → pMem → pT Unit) × (Int32 → pMem → pT Unit), C_134 P.1 P.2.1 P.2.2 → P.2.2 x1 M v N
def D_134 (M : pMem) : pT Unit := tCall (D_132 (M 188 2) M) fun v1 M1 => tPut (aPut M1 188 2 v1) fun M2 => tCall (D_132 (M2 188 71) M2) fun v2 M3 => tPut (aPut M3 188 71 v2) fun M4 => L_134_1 (kI 0) M4
theorem K_134 {X : aX} {F d : Nat} {K : Nat → aK} (hS : pS K) {out : Option Value × aH} (P1 : Int32 → pMem → pT Unit) (P4 : Int32 → pMem → pT Unit) (P13 : Int32 → pMem → pT Unit) (hC : C_134 P1 P4 P13) : ∀ f, (∀ (x1 : Int32) M, pm X F d 134 f 1 [.iload 1, .bipush 5, .if_icmp .ge 3] [.ref 188, .int x1] [] (pH K M) out → pG eU K out (P1 x1 M)) ∧ (∀ (x1 : Int32) M, pm X F d 134 f 4 [.iload 1, .bipush 24, .if_icmp .ge 12] [.ref 188, .int x1] [] (pH K M) out → pG eU K out (P4 x1 M)) ∧ (∀ (x1 : Int32) M, pm X F d 134 f 13 [.iload 1, .bipush 576, .if_icmp .ge 15] [.ref 188, .int x1] [] (pH K M) out → pG eU K out (P13 x1 M)) := by
  intro f
  induction f using Nat.strongRecOn with
  | _ f ih =>
    refine ⟨?_, ?_, ?_⟩
    · intro x1 M H
      refine pG_mono (fun v N h => hC.1 x1 M v N h) ?_
      unfold S_134_1
      replace H := pRun (ls' := [.ref 188, .int x1]) (st' := [.int (kI 5), .int x1]) 2 rfl H
      rcases pIfc (n1 := 3) rfl (mcb_134 rfl) (mcb_134 rfl) H with ⟨g1, g0, _, H⟩ | ⟨g1, g0, _, H⟩
      · refine pG_pos (c := (kI 5) ≤ x1) g1 ?_
        replace H := pRun (ls' := [.ref 188, .int (kI 0)]) (st' := []) 2 rfl H
        obtain ⟨g0, _, H⟩ := pFall (mcb_134 rfl) H
        exact (ih _ (by omega)).2.1 _  _ H
      · refine pG_neg (c := (kI 5) ≤ x1) g1 ?_
        replace H := pRun (ls' := [.ref 188, .int x1]) (st' := [.ref 188]) 1 rfl H
        replace H := pGetR (r := 223) (pRf hS (by decide +kernel)) rfl H
        replace H := pRun (ls' := [.ref 188, .int x1]) (st' := [.ref 188, .ref 188, .int x1, .ref 223]) 3 rfl H
        replace H := pGetR (r := 223) (pRf hS (by decide +kernel)) rfl H
        replace H := pRun (ls' := [.ref 188, .int x1]) (st' := [.int x1, .ref 223, .ref 188, .int x1, .ref 223]) 1 rfl H
        obtain ⟨g2, H⟩ := pIld (n := 5) (pLt (show pCa 223 5 = true by decide +kernel)) (pLn hS (show pCa 223 5 = true by decide +kernel)) H
        refine pG_gd g2 ?_
        obtain ⟨rv, h1, hc, H⟩ := pCalV 132 1 188 (as := [.int (M 223 (ix x1))]) (rest := [.int x1, .ref 223]) rfl (by decide) (by decide +kernel) rfl rfl H
        obtain ⟨v1, M1, hD, H⟩ := pUseI (D_132_ok hS hc) H
        refine pG_call (x := v1) (M1 := M1) hD ?_
        obtain ⟨g3, M2, eM2, H⟩ := pIst (n := 5) (pLn hS (show pCa 223 5 = true by decide +kernel)) H
        refine pG_gd g3 (pG_put (M2 := M2) eM2 ?_)
        replace H := pRun (ls' := [.ref 188, .int (x1 + kI 1)]) (st' := []) 1 rfl H
        obtain ⟨g0, _, H⟩ := pGo (n1 := 1) rfl (mcb_134 rfl) H
        exact (ih _ (by omega)).1 _  _ H
    · intro x1 M H
      refine pG_mono (fun v N h => hC.2.1 x1 M v N h) ?_
      unfold S_134_4
      replace H := pRun (ls' := [.ref 188, .int x1]) (st' := [.int (kI 24), .int x1]) 2 rfl H
      rcases pIfc (n1 := 12) rfl (mcb_134 rfl) (mcb_134 rfl) H with ⟨g1, g0, _, H⟩ | ⟨g1, g0, _, H⟩
      · refine pG_pos (c := (kI 24) ≤ x1) g1 ?_
        replace H := pRun (ls' := [.ref 188, .int (kI 0)]) (st' := []) 2 rfl H
        obtain ⟨g0, _, H⟩ := pFall (mcb_134 rfl) H
        exact (ih _ (by omega)).2.2 _  _ H
      · refine pG_neg (c := (kI 24) ≤ x1) g1 ?_
        replace H := pRun (ls' := [.ref 188, .int x1]) (st' := [.ref 188]) 1 rfl H
        replace H := pGetR (r := 189) (pRf hS (by decide +kernel)) rfl H
        replace H := pRun (ls' := [.ref 188, .int x1]) (st' := [.ref 188, .ref 188, .int x1, .ref 189]) 3 rfl H
        replace H := pGetR (r := 189) (pRf hS (by decide +kernel)) rfl H
        replace H := pRun (ls' := [.ref 188, .int x1]) (st' := [.int x1, .ref 189, .ref 188, .int x1, .ref 189]) 1 rfl H
        obtain ⟨g2, H⟩ := pIld (n := 24) (pLt (show pCa 189 24 = true by decide +kernel)) (pLn hS (show pCa 189 24 = true by decide +kernel)) H
        refine pG_gd g2 ?_
        obtain ⟨rv, h1, hc, H⟩ := pCalV 132 1 188 (as := [.int (M 189 (ix x1))]) (rest := [.int x1, .ref 189]) rfl (by decide) (by decide +kernel) rfl rfl H
        obtain ⟨v1, M1, hD, H⟩ := pUseI (D_132_ok hS hc) H
        refine pG_call (x := v1) (M1 := M1) hD ?_
        obtain ⟨g3, M2, eM2, H⟩ := pIst (n := 24) (pLn hS (show pCa 189 24 = true by decide +kernel)) H
        refine pG_gd g3 (pG_put (M2 := M2) eM2 ?_)
        replace H := pRun (ls' := [.ref 188, .int x1]) (st' := [.ref 188]) 1 rfl H
        replace H := pGetR (r := 190) (pRf hS (by decide +kernel)) rfl H
        replace H := pRun (ls' := [.ref 188, .int x1]) (st' := [.ref 188, .ref 188, .int x1, .ref 190]) 3 rfl H
        replace H := pGetR (r := 190) (pRf hS (by decide +kernel)) rfl H
        replace H := pRun (ls' := [.ref 188, .int x1]) (st' := [.int x1, .ref 190, .ref 188, .int x1, .ref 190]) 1 rfl H
        obtain ⟨g4, H⟩ := pIld (n := 24) (pLt (show pCa 190 24 = true by decide +kernel)) (pLn hS (show pCa 190 24 = true by decide +kernel)) H
        refine pG_gd g4 ?_
        obtain ⟨rv, h1, hc, H⟩ := pCalV 132 1 188 (as := [.int (M2 190 (ix x1))]) (rest := [.int x1, .ref 190]) rfl (by decide) (by decide +kernel) rfl rfl H
        obtain ⟨v2, M3, hD, H⟩ := pUseI (D_132_ok hS hc) H
        refine pG_call (x := v2) (M1 := M3) hD ?_
        obtain ⟨g5, M4, eM4, H⟩ := pIst (n := 24) (pLn hS (show pCa 190 24 = true by decide +kernel)) H
        refine pG_gd g5 (pG_put (M2 := M4) eM4 ?_)
        replace H := pRun (ls' := [.ref 188, .int x1]) (st' := [.ref 188]) 1 rfl H
        replace H := pGetR (r := 193) (pRf hS (by decide +kernel)) rfl H
        replace H := pRun (ls' := [.ref 188, .int x1]) (st' := [.ref 188, .ref 188, .int x1, .ref 193]) 3 rfl H
        replace H := pGetR (r := 193) (pRf hS (by decide +kernel)) rfl H
        replace H := pRun (ls' := [.ref 188, .int x1]) (st' := [.int x1, .ref 193, .ref 188, .int x1, .ref 193]) 1 rfl H
        obtain ⟨g6, H⟩ := pIld (n := 24) (pLt (show pCa 193 24 = true by decide +kernel)) (pLn hS (show pCa 193 24 = true by decide +kernel)) H
        refine pG_gd g6 ?_
        obtain ⟨rv, h1, hc, H⟩ := pCalV 132 1 188 (as := [.int (M4 193 (ix x1))]) (rest := [.int x1, .ref 193]) rfl (by decide) (by decide +kernel) rfl rfl H
        obtain ⟨v3, M5, hD, H⟩ := pUseI (D_132_ok hS hc) H
        refine pG_call (x := v3) (M1 := M5) hD ?_
        obtain ⟨g7, M6, eM6, H⟩ := pIst (n := 24) (pLn hS (show pCa 193 24 = true by decide +kernel)) H
        refine pG_gd g7 (pG_put (M2 := M6) eM6 ?_)
        replace H := pRun (ls' := [.ref 188, .int x1]) (st' := [.ref 188]) 1 rfl H
        replace H := pGetR (r := 226) (pRf hS (by decide +kernel)) rfl H
        replace H := pRun (ls' := [.ref 188, .int x1]) (st' := [.ref 188, .ref 188, .int x1, .ref 226]) 3 rfl H
        replace H := pGetR (r := 226) (pRf hS (by decide +kernel)) rfl H
        replace H := pRun (ls' := [.ref 188, .int x1]) (st' := [.int x1, .ref 226, .ref 188, .int x1, .ref 226]) 1 rfl H
        obtain ⟨g8, H⟩ := pBld (n := 24) (pLn hS (show pCa 226 24 = true by decide +kernel)) H
        refine pG_gd g8 ?_
        rcases pIf0 (n1 := 7) rfl (mcb_134 rfl) (mcb_134 rfl) H with ⟨g9, g0, _, H⟩ | ⟨g9, g0, _, H⟩
        · refine pG_pos (c := (M6 226 (ix x1)) = 0) g9 ?_
          replace H := pRun (ls' := [.ref 188, .int x1]) (st' := [.int (kI 0), .ref 188, .int x1, .ref 226]) 1 rfl H
          obtain ⟨g0, _, H⟩ := pFall (mcb_134 rfl) H
          obtain ⟨rv, h1, hc, H⟩ := pCalV 132 1 188 (as := [.int (kI 0)]) (rest := [.int x1, .ref 226]) rfl (by decide) (by decide +kernel) rfl rfl H
          obtain ⟨v4, M7, hD, H⟩ := pUseI (D_132_ok hS hc) H
          refine pG_call (x := v4) (M1 := M7) hD ?_
          replace H := pRun (ls' := [.ref 188, .int x1]) (st' := [.int (kI 1), .int v4, .int x1, .ref 226]) 1 rfl H
          rcases pIfc (n1 := 10) rfl (mcb_134 rfl) (mcb_134 rfl) H with ⟨g10, g0, _, H⟩ | ⟨g10, g0, _, H⟩
          · refine pG_pos (c := ¬ v4 = (kI 1)) g10 ?_
            replace H := pRun (ls' := [.ref 188, .int x1]) (st' := [.int (kI 0), .int x1, .ref 226]) 1 rfl H
            obtain ⟨g0, _, H⟩ := pFall (mcb_134 rfl) H
            obtain ⟨g11, M8, eM8, H⟩ := pBst (n := 24) (pLn hS (show pCa 226 24 = true by decide +kernel)) H
            refine pG_gd g11 (pG_put (M2 := M8) eM8 ?_)
            replace H := pRun (ls' := [.ref 188, .int x1]) (st' := [.ref 188]) 1 rfl H
            replace H := pGetR (r := 227) (pRf hS (by decide +kernel)) rfl H
            replace H := pRun (ls' := [.ref 188, .int x1]) (st' := [.ref 188, .ref 188, .int x1, .ref 227]) 3 rfl H
            replace H := pGetR (r := 227) (pRf hS (by decide +kernel)) rfl H
            replace H := pRun (ls' := [.ref 188, .int x1]) (st' := [.int x1, .ref 227, .ref 188, .int x1, .ref 227]) 1 rfl H
            obtain ⟨g12, H⟩ := pIld (n := 24) (pLt (show pCa 227 24 = true by decide +kernel)) (pLn hS (show pCa 227 24 = true by decide +kernel)) H
            refine pG_gd g12 ?_
            obtain ⟨rv, h1, hc, H⟩ := pCalV 132 1 188 (as := [.int (M8 227 (ix x1))]) (rest := [.int x1, .ref 227]) rfl (by decide) (by decide +kernel) rfl rfl H
            obtain ⟨v5, M9, hD, H⟩ := pUseI (D_132_ok hS hc) H
            refine pG_call (x := v5) (M1 := M9) hD ?_
            obtain ⟨g13, M10, eM10, H⟩ := pIst (n := 24) (pLn hS (show pCa 227 24 = true by decide +kernel)) H
            refine pG_gd g13 (pG_put (M2 := M10) eM10 ?_)
            replace H := pRun (ls' := [.ref 188, .int (x1 + kI 1)]) (st' := []) 1 rfl H
            obtain ⟨g0, _, H⟩ := pGo (n1 := 4) rfl (mcb_134 rfl) H
            exact (ih _ (by omega)).2.1 _  _ H
          · refine pG_neg (c := ¬ v4 = (kI 1)) g10 ?_
            replace H := pRun (ls' := [.ref 188, .int x1]) (st' := [.int (kI 1), .int x1, .ref 226]) 1 rfl H
            obtain ⟨g0, _, H⟩ := pGo (n1 := 11) rfl (mcb_134 rfl) H
            obtain ⟨g11, M8, eM8, H⟩ := pBst (n := 24) (pLn hS (show pCa 226 24 = true by decide +kernel)) H
            refine pG_gd g11 (pG_put (M2 := M8) eM8 ?_)
            replace H := pRun (ls' := [.ref 188, .int x1]) (st' := [.ref 188]) 1 rfl H
            replace H := pGetR (r := 227) (pRf hS (by decide +kernel)) rfl H
            replace H := pRun (ls' := [.ref 188, .int x1]) (st' := [.ref 188, .ref 188, .int x1, .ref 227]) 3 rfl H
            replace H := pGetR (r := 227) (pRf hS (by decide +kernel)) rfl H
            replace H := pRun (ls' := [.ref 188, .int x1]) (st' := [.int x1, .ref 227, .ref 188, .int x1, .ref 227]) 1 rfl H
            obtain ⟨g12, H⟩ := pIld (n := 24) (pLt (show pCa 227 24 = true by decide +kernel)) (pLn hS (show pCa 227 24 = true by decide +kernel)) H
            refine pG_gd g12 ?_
            obtain ⟨rv, h1, hc, H⟩ := pCalV 132 1 188 (as := [.int (M8 227 (ix x1))]) (rest := [.int x1, .ref 227]) rfl (by decide) (by decide +kernel) rfl rfl H
            obtain ⟨v5, M9, hD, H⟩ := pUseI (D_132_ok hS hc) H
            refine pG_call (x := v5) (M1 := M9) hD ?_
            obtain ⟨g13, M10, eM10, H⟩ := pIst (n := 24) (pLn hS (show pCa 227 24 = true by decide +kernel)) H
            refine pG_gd g13 (pG_put (M2 := M10) eM10 ?_)
            replace H := pRun (ls' := [.ref 188, .int (x1 + kI 1)]) (st' := []) 1 rfl H
            obtain ⟨g0, _, H⟩ := pGo (n1 := 4) rfl (mcb_134 rfl) H
            exact (ih _ (by omega)).2.1 _  _ H
        · refine pG_neg (c := (M6 226 (ix x1)) = 0) g9 ?_
          replace H := pRun (ls' := [.ref 188, .int x1]) (st' := [.int (kI 1), .ref 188, .int x1, .ref 226]) 1 rfl H
          obtain ⟨g0, _, H⟩ := pGo (n1 := 8) rfl (mcb_134 rfl) H
          obtain ⟨rv, h1, hc, H⟩ := pCalV 132 1 188 (as := [.int (kI 1)]) (rest := [.int x1, .ref 226]) rfl (by decide) (by decide +kernel) rfl rfl H
          obtain ⟨v4, M7, hD, H⟩ := pUseI (D_132_ok hS hc) H
          refine pG_call (x := v4) (M1 := M7) hD ?_
          replace H := pRun (ls' := [.ref 188, .int x1]) (st' := [.int (kI 1), .int v4, .int x1, .ref 226]) 1 rfl H
          rcases pIfc (n1 := 10) rfl (mcb_134 rfl) (mcb_134 rfl) H with ⟨g10, g0, _, H⟩ | ⟨g10, g0, _, H⟩
          · refine pG_pos (c := ¬ v4 = (kI 1)) g10 ?_
            replace H := pRun (ls' := [.ref 188, .int x1]) (st' := [.int (kI 0), .int x1, .ref 226]) 1 rfl H
            obtain ⟨g0, _, H⟩ := pFall (mcb_134 rfl) H
            obtain ⟨g11, M8, eM8, H⟩ := pBst (n := 24) (pLn hS (show pCa 226 24 = true by decide +kernel)) H
            refine pG_gd g11 (pG_put (M2 := M8) eM8 ?_)
            replace H := pRun (ls' := [.ref 188, .int x1]) (st' := [.ref 188]) 1 rfl H
            replace H := pGetR (r := 227) (pRf hS (by decide +kernel)) rfl H
            replace H := pRun (ls' := [.ref 188, .int x1]) (st' := [.ref 188, .ref 188, .int x1, .ref 227]) 3 rfl H
            replace H := pGetR (r := 227) (pRf hS (by decide +kernel)) rfl H
            replace H := pRun (ls' := [.ref 188, .int x1]) (st' := [.int x1, .ref 227, .ref 188, .int x1, .ref 227]) 1 rfl H
            obtain ⟨g12, H⟩ := pIld (n := 24) (pLt (show pCa 227 24 = true by decide +kernel)) (pLn hS (show pCa 227 24 = true by decide +kernel)) H
            refine pG_gd g12 ?_
            obtain ⟨rv, h1, hc, H⟩ := pCalV 132 1 188 (as := [.int (M8 227 (ix x1))]) (rest := [.int x1, .ref 227]) rfl (by decide) (by decide +kernel) rfl rfl H
            obtain ⟨v5, M9, hD, H⟩ := pUseI (D_132_ok hS hc) H
            refine pG_call (x := v5) (M1 := M9) hD ?_
            obtain ⟨g13, M10, eM10, H⟩ := pIst (n := 24) (pLn hS (show pCa 227 24 = true by decide +kernel)) H
            refine pG_gd g13 (pG_put (M2 := M10) eM10 ?_)
            replace H := pRun (ls' := [.ref 188, .int (x1 + kI 1)]) (st' := []) 1 rfl H
            obtain ⟨g0, _, H⟩ := pGo (n1 := 4) rfl (mcb_134 rfl) H
            exact (ih _ (by omega)).2.1 _  _ H
          · refine pG_neg (c := ¬ v4 = (kI 1)) g10 ?_
            replace H := pRun (ls' := [.ref 188, .int x1]) (st' := [.int (kI 1), .int x1, .ref 226]) 1 rfl H
            obtain ⟨g0, _, H⟩ := pGo (n1 := 11) rfl (mcb_134 rfl) H
            obtain ⟨g11, M8, eM8, H⟩ := pBst (n := 24) (pLn hS (show pCa 226 24 = true by decide +kernel)) H
            refine pG_gd g11 (pG_put (M2 := M8) eM8 ?_)
            replace H := pRun (ls' := [.ref 188, .int x1]) (st' := [.ref 188]) 1 rfl H
            replace H := pGetR (r := 227) (pRf hS (by decide +kernel)) rfl H
            replace H := pRun (ls' := [.ref 188, .int x1]) (st' := [.ref 188, .ref 188, .int x1, .ref 227]) 3 rfl H
            replace H := pGetR (r := 227) (pRf hS (by decide +kernel)) rfl H
            replace H := pRun (ls' := [.ref 188, .int x1]) (st' := [.int x1, .ref 227, .ref 188, .int x1, .ref 227]) 1 rfl H
            obtain ⟨g12, H⟩ := pIld (n := 24) (pLt (show pCa 227 24 = true by decide +kernel)) (pLn hS (show pCa 227 24 = true by decide +kernel)) H
            refine pG_gd g12 ?_
            obtain ⟨rv, h1, hc, H⟩ := pCalV 132 1 188 (as := [.int (M8 227 (ix x1))]) (rest := [.int x1, .ref 227]) rfl (by decide) (by decide +kernel) rfl rfl H
            obtain ⟨v5, M9, hD, H⟩ := pUseI (D_132_ok hS hc) H
            refine pG_call (x := v5) (M1 := M9) hD ?_
            obtain ⟨g13, M10, eM10, H⟩ := pIst (n := 24) (pLn hS (show pCa 227 24 = true by decide +kernel)) H
            refine pG_gd g13 (pG_put (M2 := M10) eM10 ?_)
            replace H := pRun (ls' := [.ref 188, .int (x1 + kI 1)]) (st' := []) 1 rfl H
            obtain ⟨g0, _, H⟩ := pGo (n1 := 4) rfl (mcb_134 rfl) H
            exact (ih _ (by omega)).2.1 _  _ H
    · intro x1 M H
      refine pG_mono (fun v N h => hC.2.2 x1 M v N h) ?_
      unfold S_134_13
      replace H := pRun (ls' := [.ref 188, .int x1]) (st' := [.int (kI 576), .int x1]) 2 rfl H
      rcases pIfc (n1 := 15) rfl (mcb_134 rfl) (mcb_134 rfl) H with ⟨g1, g0, _, H⟩ | ⟨g1, g0, _, H⟩
      · refine pG_pos (c := (kI 576) ≤ x1) g1 ?_
        exact pG_ret (pRetU H)
      · refine pG_neg (c := (kI 576) ≤ x1) g1 ?_
        replace H := pRun (ls' := [.ref 188, .int x1]) (st' := [.ref 188]) 1 rfl H
        replace H := pGetR (r := 195) (pRf hS (by decide +kernel)) rfl H
        replace H := pRun (ls' := [.ref 188, .int x1]) (st' := [.ref 188, .ref 188, .int x1, .ref 195]) 3 rfl H
        replace H := pGetR (r := 195) (pRf hS (by decide +kernel)) rfl H
        replace H := pRun (ls' := [.ref 188, .int x1]) (st' := [.int x1, .ref 195, .ref 188, .int x1, .ref 195]) 1 rfl H
        obtain ⟨g2, H⟩ := pIld (n := 576) (pLt (show pCa 195 576 = true by decide +kernel)) (pLn hS (show pCa 195 576 = true by decide +kernel)) H
        refine pG_gd g2 ?_
        obtain ⟨rv, h1, hc, H⟩ := pCalV 132 1 188 (as := [.int (M 195 (ix x1))]) (rest := [.int x1, .ref 195]) rfl (by decide) (by decide +kernel) rfl rfl H
        obtain ⟨v1, M1, hD, H⟩ := pUseI (D_132_ok hS hc) H
        refine pG_call (x := v1) (M1 := M1) hD ?_
        obtain ⟨g3, M2, eM2, H⟩ := pIst (n := 576) (pLn hS (show pCa 195 576 = true by decide +kernel)) H
        refine pG_gd g3 (pG_put (M2 := M2) eM2 ?_)
        replace H := pRun (ls' := [.ref 188, .int (x1 + kI 1)]) (st' := []) 1 rfl H
        obtain ⟨g0, _, H⟩ := pGo (n1 := 13) rfl (mcb_134 rfl) H
        exact (ih _ (by omega)).2.2 _  _ H
theorem L_134_1_ok {X : aX} {F d : Nat} {K : Nat → aK} (hS : pS K) {out : Option Value × aH} {f : Nat} {x1 : Int32} {M : pMem} (H : pm X F d 134 f 1 [.iload 1, .bipush 5, .if_icmp .ge 3] [.ref 188, .int x1] [] (pH K M) out) : pG eU K out (L_134_1 x1 M) := by
  refine pG_all (C := fun P : (Int32 → pMem → pT Unit) × (Int32 → pMem → pT Unit) × (Int32 → pMem → pT Unit) => C_134 P.1 P.2.1 P.2.2) (T := fun P => P.1 x1 M) eU_inj ((fun _ _ _ _ => True), (fun _ _ _ _ => True), (fun _ _ _ _ => True)) ?_ (fun P hP => (K_134 hS P.1 P.2.1 P.2.2 hP f).1 _ _ H)
  exact ⟨(fun _ _ _ _ _ => trivial), (fun _ _ _ _ _ => trivial), (fun _ _ _ _ _ => trivial)⟩
theorem L_134_4_ok {X : aX} {F d : Nat} {K : Nat → aK} (hS : pS K) {out : Option Value × aH} {f : Nat} {x1 : Int32} {M : pMem} (H : pm X F d 134 f 4 [.iload 1, .bipush 24, .if_icmp .ge 12] [.ref 188, .int x1] [] (pH K M) out) : pG eU K out (L_134_4 x1 M) := by
  refine pG_all (C := fun P : (Int32 → pMem → pT Unit) × (Int32 → pMem → pT Unit) × (Int32 → pMem → pT Unit) => C_134 P.1 P.2.1 P.2.2) (T := fun P => P.2.1 x1 M) eU_inj ((fun _ _ _ _ => True), (fun _ _ _ _ => True), (fun _ _ _ _ => True)) ?_ (fun P hP => (K_134 hS P.1 P.2.1 P.2.2 hP f).2.1 _ _ H)
  exact ⟨(fun _ _ _ _ _ => trivial), (fun _ _ _ _ _ => trivial), (fun _ _ _ _ _ => trivial)⟩
theorem L_134_13_ok {X : aX} {F d : Nat} {K : Nat → aK} (hS : pS K) {out : Option Value × aH} {f : Nat} {x1 : Int32} {M : pMem} (H : pm X F d 134 f 13 [.iload 1, .bipush 576, .if_icmp .ge 15] [.ref 188, .int x1] [] (pH K M) out) : pG eU K out (L_134_13 x1 M) := by
  refine pG_all (C := fun P : (Int32 → pMem → pT Unit) × (Int32 → pMem → pT Unit) × (Int32 → pMem → pT Unit) => C_134 P.1 P.2.1 P.2.2) (T := fun P => P.2.2 x1 M) eU_inj ((fun _ _ _ _ => True), (fun _ _ _ _ => True), (fun _ _ _ _ => True)) ?_ (fun P hP => (K_134 hS P.1 P.2.1 P.2.2 hP f).2.2 _ _ H)
  exact ⟨(fun _ _ _ _ _ => trivial), (fun _ _ _ _ _ => trivial), (fun _ _ _ _ _ => trivial)⟩
theorem D_134_ok {X : aX} {F d : Nat} {K : Nat → aK} (hS : pS K) {M : pMem} {out : Option Value × aH} (H : aM X F d 134 [.ref 188] (pH K M) = some out) : pG eU K out (D_134 M) := by
  obtain ⟨d', g0, _, H⟩ := pEnt (n := 2) (ls := [.ref 188, aD]) (mcb_134 rfl) (by decide +kernel) rfl H
  unfold D_134
  replace H := pRun (ls' := [.ref 188, aD]) (st' := [.ref 188, .ref 188, .ref 188]) 3 rfl H
  replace H := pGetN (v := M 188 2) rfl (by decide) H
  obtain ⟨rv, h1, hc, H⟩ := pCalV 132 1 188 (as := [.int (M 188 2)]) (rest := [.ref 188]) rfl (by decide) (by decide +kernel) rfl rfl H
  obtain ⟨v1, M1, hD, H⟩ := pUseI (D_132_ok hS hc) H
  refine pG_call (x := v1) (M1 := M1) hD ?_
  obtain ⟨M2, eM2, H⟩ := pPutN (j := 2) rfl H
  refine pG_put (M2 := M2) eM2 ?_
  replace H := pRun (ls' := [.ref 188, aD]) (st' := [.ref 188, .ref 188, .ref 188]) 3 rfl H
  replace H := pGetN (v := M2 188 71) rfl (by decide) H
  obtain ⟨rv, h1, hc, H⟩ := pCalV 132 1 188 (as := [.int (M2 188 71)]) (rest := [.ref 188]) rfl (by decide) (by decide +kernel) rfl rfl H
  obtain ⟨v2, M3, hD, H⟩ := pUseI (D_132_ok hS hc) H
  refine pG_call (x := v2) (M1 := M3) hD ?_
  obtain ⟨M4, eM4, H⟩ := pPutN (j := 71) rfl H
  refine pG_put (M2 := M4) eM4 ?_
  replace H := pRun (ls' := [.ref 188, .int (kI 0)]) (st' := []) 2 rfl H
  obtain ⟨g0, _, H⟩ := pFall (mcb_134 rfl) H
  exact L_134_1_ok hS  H
def l_134 : List (Nat × Nat) := [(188, 79), (229, 999), (188, 2), (188, 71), (223, 999), (189, 999), (190, 999), (193, 999), (226, 999), (227, 999), (195, 999)]
theorem FC_134 : C_134 (fun _ M _ N => pFr (l_134) M N) (fun _ M _ N => pFr (l_134) M N) (fun _ M _ N => pFr (l_134) M N) := ⟨fun x1 M => show pTf (l_134) M (S_134_1 _ _ _ x1 M) from (tf_if (tf_jump pFr_refl) (tf_gd fun g2 => (tf_call pFr_refl (fun _ _ h => F_132 h) [0, 1] rfl fun _ M1 f1 => (tf_gd fun g3 => (tf_putA f1 4 rfl fun M2 f2 => (tf_jump f2)))))), fun x1 M => show pTf (l_134) M (S_134_4 _ _ _ x1 M) from (tf_if (tf_jump pFr_refl) (tf_gd fun g2 => (tf_call pFr_refl (fun _ _ h => F_132 h) [0, 1] rfl fun _ M1 f1 => (tf_gd fun g3 => (tf_putA f1 5 rfl fun M2 f2 => (tf_gd fun g4 => (tf_call f2 (fun _ _ h => F_132 h) [0, 1] rfl fun _ M3 f3 => (tf_gd fun g5 => (tf_putA f3 6 rfl fun M4 f4 => (tf_gd fun g6 => (tf_call f4 (fun _ _ h => F_132 h) [0, 1] rfl fun _ M5 f5 => (tf_gd fun g7 => (tf_putA f5 7 rfl fun M6 f6 => (tf_gd fun g8 => (tf_if (tf_call f6 (fun _ _ h => F_132 h) [0, 1] rfl fun _ M7 f7 => (tf_if (tf_gd fun g11 => (tf_putA f7 8 rfl fun M8 f8 => (tf_gd fun g12 => (tf_call f8 (fun _ _ h => F_132 h) [0, 1] rfl fun _ M9 f9 => (tf_gd fun g13 => (tf_putA f9 9 rfl fun M10 f10 => (tf_jump f10))))))) (tf_gd fun g11 => (tf_putA f7 8 rfl fun M8 f8 => (tf_gd fun g12 => (tf_call f8 (fun _ _ h => F_132 h) [0, 1] rfl fun _ M9 f9 => (tf_gd fun g13 => (tf_putA f9 9 rfl fun M10 f10 => (tf_jump f10))))))))) (tf_call f6 (fun _ _ h => F_132 h) [0, 1] rfl fun _ M7 f7 => (tf_if (tf_gd fun g11 => (tf_putA f7 8 rfl fun M8 f8 => (tf_gd fun g12 => (tf_call f8 (fun _ _ h => F_132 h) [0, 1] rfl fun _ M9 f9 => (tf_gd fun g13 => (tf_putA f9 9 rfl fun M10 f10 => (tf_jump f10))))))) (tf_gd fun g11 => (tf_putA f7 8 rfl fun M8 f8 => (tf_gd fun g12 => (tf_call f8 (fun _ _ h => F_132 h) [0, 1] rfl fun _ M9 f9 => (tf_gd fun g13 => (tf_putA f9 9 rfl fun M10 f10 => (tf_jump f10)))))))))))))))))))))))), fun x1 M => show pTf (l_134) M (S_134_13 _ _ _ x1 M) from (tf_if (tf_ret pFr_refl) (tf_gd fun g2 => (tf_call pFr_refl (fun _ _ h => F_132 h) [0, 1] rfl fun _ M1 f1 => (tf_gd fun g3 => (tf_putA f1 10 rfl fun M2 f2 => (tf_jump f2))))))⟩
theorem F_134 {M : pMem} {v : Unit} {N : pMem} (h : D_134 M v N) : pFr (l_134) M N :=
  (show pTf (l_134) M (D_134 M) from (tf_call pFr_refl (fun _ _ h => F_132 h) [0, 1] rfl fun _ M1 f1 => (tf_put f1 2 rfl fun M2 f2 => (tf_call f2 (fun _ _ h => F_132 h) [0, 1] rfl fun _ M3 f3 => (tf_put f3 3 rfl fun M4 f4 => (tf_jumpL (fun _ M _ N => pFr (l_134) M N, fun _ M _ N => pFr (l_134) M N, fun _ M _ N => pFr (l_134) M N) (FC_134) rfl f4)))))) v N h
/-- TwoCampsModel.image(Z)Z -/
def S_135_5 (p1 : Int32) (P5 : Int32 → pMem → pT Int32) (P9 : Int32 → pMem → pT Int32) (x2 : Int32) (M : pMem) : pT Int32 := tIf ((kI 1200) ≤ x2) (tCall (D_108 p1 M) fun _ M1 => tIf (p1 = 0) (tPut (aPut M1 188 79 (kI 0)) fun M2 => tCall (D_133 M2) fun _ M3 => tCall (D_134 M3) fun _ M4 => tRet (kI 1) M4) (P9 (kI 0) M1)) (tGd (pIn ((kI 7000) + x2) 8600) <| tGd (pIn x2 1200) <| tPut (aPut M 222 (ix x2) (M 229 (ix ((kI 7000) + x2)))) fun M1 => P5 (x2 + kI 1) M1)
def S_135_9 (p1 : Int32) (P5 : Int32 → pMem → pT Int32) (P9 : Int32 → pMem → pT Int32) (x2 : Int32) (M : pMem) : pT Int32 := tIf ((kI 1200) ≤ x2) (tPut (aPut M 188 79 (kI 0)) fun M1 => tCall (D_133 M1) fun _ M2 => tCall (D_134 M2) fun _ M3 => tRet (kI 1) M3) (tGd (pIn x2 1200) <| tGd (pIn ((kI 7000) + x2) 8600) <| tPut (aPut M 229 (ix ((kI 7000) + x2)) (M 222 (ix x2))) fun M1 => P9 (x2 + kI 1) M1)
def C_135 (p1 : Int32) (P5 : Int32 → pMem → pT Int32) (P9 : Int32 → pMem → pT Int32) : Prop := (∀ (x2 : Int32) M v N, S_135_5 p1 P5 P9 x2 M v N → P5 x2 M v N) ∧ (∀ (x2 : Int32) M v N, S_135_9 p1 P5 P9 x2 M v N → P9 x2 M v N)
def L_135_5 (p1 : Int32) (x2 : Int32) (M : pMem) : pT Int32 := fun v N => ∀ P : (Int32 → pMem → pT Int32) × (Int32 → pMem → pT Int32), C_135 p1 P.1 P.2 → P.1 x2 M v N
def L_135_9 (p1 : Int32) (x2 : Int32) (M : pMem) : pT Int32 := fun v N => ∀ P : (Int32 → pMem → pT Int32) × (Int32 → pMem → pT Int32), C_135 p1 P.1 P.2 → P.2 x2 M v N
def D_135 (p1 : Int32) (M : pMem) : pT Int32 := tPut (aPut M 188 0 (kI 0)) fun M1 => tIf (¬ p1 = 0) (tPut (aPut M1 188 77 (kI 1)) fun M2 => tIf (¬ p1 = 0) (tCall (D_108 p1 M2) fun _ M3 => tIf (p1 = 0) (tPut (aPut M3 188 79 (kI 0)) fun M4 => tCall (D_133 M4) fun _ M5 => tCall (D_134 M5) fun _ M6 => tRet (kI 1) M6) (L_135_9 p1 (kI 0) M3)) (L_135_5 p1 (kI 0) M2)) (tIf (¬ (M1 188 77) = 0) (tPut (aPut M1 188 77 (kI 1)) fun M2 => tIf (¬ p1 = 0) (tCall (D_108 p1 M2) fun _ M3 => tIf (p1 = 0) (tPut (aPut M3 188 79 (kI 0)) fun M4 => tCall (D_133 M4) fun _ M5 => tCall (D_134 M5) fun _ M6 => tRet (kI 1) M6) (L_135_9 p1 (kI 0) M3)) (L_135_5 p1 (kI 0) M2)) (tRet (kI 0) M1))
theorem K_135 {X : aX} {F d : Nat} {K : Nat → aK} (hS : pS K) {p1 : Int32} {out : Option Value × aH} (P5 : Int32 → pMem → pT Int32) (P9 : Int32 → pMem → pT Int32) (hC : C_135 p1 P5 P9) : ∀ f, (∀ (x2 : Int32) M, pm X F d 135 f 5 [.iload 2, .bipush 1200, .if_icmp .ge 7] [.ref 188, .int p1, .int x2] [] (pH K M) out → pG eI K out (P5 x2 M)) ∧ (∀ (x2 : Int32) M, pm X F d 135 f 9 [.iload 2, .bipush 1200, .if_icmp .ge 11] [.ref 188, .int p1, .int x2] [] (pH K M) out → pG eI K out (P9 x2 M)) := by
  intro f
  induction f using Nat.strongRecOn with
  | _ f ih =>
    refine ⟨?_, ?_⟩
    · intro x2 M H
      refine pG_mono (fun v N h => hC.1 x2 M v N h) ?_
      unfold S_135_5
      replace H := pRun (ls' := [.ref 188, .int p1, .int x2]) (st' := [.int (kI 1200), .int x2]) 2 rfl H
      rcases pIfc (n1 := 7) rfl (mcb_135 rfl) (mcb_135 rfl) H with ⟨g1, g0, _, H⟩ | ⟨g1, g0, _, H⟩
      · refine pG_pos (c := (kI 1200) ≤ x2) g1 ?_
        replace H := pRun (ls' := [.ref 188, .int p1, .int x2]) (st' := [.int p1, .ref 188]) 2 rfl H
        obtain ⟨rv, h1, hc, H⟩ := pCalV 108 1 188 (as := [.int p1]) (rest := []) rfl (by decide) (by decide +kernel) rfl rfl H
        obtain ⟨v1, M1, hD, H⟩ := pUseU (D_108_ok hS hc) H
        refine pG_call (x := v1) (M1 := M1) hD ?_
        replace H := pRun (ls' := [.ref 188, .int p1, .int x2]) (st' := [.int p1]) 1 rfl H
        rcases pIf0 (n1 := 11) rfl (mcb_135 rfl) (mcb_135 rfl) H with ⟨g2, g0, _, H⟩ | ⟨g2, g0, _, H⟩
        · refine pG_pos (c := p1 = 0) g2 ?_
          replace H := pRun (ls' := [.ref 188, .int p1, .int x2]) (st' := [.int (kI 0), .ref 188]) 2 rfl H
          obtain ⟨M2, eM2, H⟩ := pPutN (j := 79) rfl H
          refine pG_put (M2 := M2) eM2 ?_
          replace H := pRun (ls' := [.ref 188, .int p1, .int x2]) (st' := [.ref 188]) 1 rfl H
          obtain ⟨rv, h1, hc, H⟩ := pCalV 133 0 188 (as := []) (rest := []) rfl (by decide) (by decide +kernel) rfl rfl H
          obtain ⟨v2, M3, hD, H⟩ := pUseU (D_133_ok hS hc) H
          refine pG_call (x := v2) (M1 := M3) hD ?_
          replace H := pRun (ls' := [.ref 188, .int p1, .int x2]) (st' := [.ref 188]) 1 rfl H
          obtain ⟨rv, h1, hc, H⟩ := pCalV 134 0 188 (as := []) (rest := []) rfl (by decide) (by decide +kernel) rfl rfl H
          obtain ⟨v3, M4, hD, H⟩ := pUseU (D_134_ok hS hc) H
          refine pG_call (x := v3) (M1 := M4) hD ?_
          replace H := pRun (ls' := [.ref 188, .int p1, .int x2]) (st' := [.int (kI 1)]) 1 rfl H
          exact pG_ret (pRetI H)
        · refine pG_neg (c := p1 = 0) g2 ?_
          replace H := pRun (ls' := [.ref 188, .int p1, .int (kI 0)]) (st' := []) 2 rfl H
          obtain ⟨g0, _, H⟩ := pFall (mcb_135 rfl) H
          exact (ih _ (by omega)).2 _  _ H
      · refine pG_neg (c := (kI 1200) ≤ x2) g1 ?_
        replace H := pRun (ls' := [.ref 188, .int p1, .int x2]) (st' := [.ref 188]) 1 rfl H
        replace H := pGetR (r := 222) (pRf hS (by decide +kernel)) rfl H
        replace H := pRun (ls' := [.ref 188, .int p1, .int x2]) (st' := [.ref 188, .int x2, .ref 222]) 2 rfl H
        replace H := pGetR (r := 229) (pRf hS (by decide +kernel)) rfl H
        replace H := pRun (ls' := [.ref 188, .int p1, .int x2]) (st' := [.int ((kI 7000) + x2), .ref 229, .int x2, .ref 222]) 3 rfl H
        obtain ⟨g2, H⟩ := pIld (n := 8600) (pLt (show pCa 229 8600 = true by decide +kernel)) (pLn hS (show pCa 229 8600 = true by decide +kernel)) H
        refine pG_gd g2 ?_
        obtain ⟨g3, M1, eM1, H⟩ := pIst (n := 1200) (pLn hS (show pCa 222 1200 = true by decide +kernel)) H
        refine pG_gd g3 (pG_put (M2 := M1) eM1 ?_)
        replace H := pRun (ls' := [.ref 188, .int p1, .int (x2 + kI 1)]) (st' := []) 1 rfl H
        obtain ⟨g0, _, H⟩ := pGo (n1 := 5) rfl (mcb_135 rfl) H
        exact (ih _ (by omega)).1 _  _ H
    · intro x2 M H
      refine pG_mono (fun v N h => hC.2 x2 M v N h) ?_
      unfold S_135_9
      replace H := pRun (ls' := [.ref 188, .int p1, .int x2]) (st' := [.int (kI 1200), .int x2]) 2 rfl H
      rcases pIfc (n1 := 11) rfl (mcb_135 rfl) (mcb_135 rfl) H with ⟨g1, g0, _, H⟩ | ⟨g1, g0, _, H⟩
      · refine pG_pos (c := (kI 1200) ≤ x2) g1 ?_
        replace H := pRun (ls' := [.ref 188, .int p1, .int x2]) (st' := [.int (kI 0), .ref 188]) 2 rfl H
        obtain ⟨M1, eM1, H⟩ := pPutN (j := 79) rfl H
        refine pG_put (M2 := M1) eM1 ?_
        replace H := pRun (ls' := [.ref 188, .int p1, .int x2]) (st' := [.ref 188]) 1 rfl H
        obtain ⟨rv, h1, hc, H⟩ := pCalV 133 0 188 (as := []) (rest := []) rfl (by decide) (by decide +kernel) rfl rfl H
        obtain ⟨v1, M2, hD, H⟩ := pUseU (D_133_ok hS hc) H
        refine pG_call (x := v1) (M1 := M2) hD ?_
        replace H := pRun (ls' := [.ref 188, .int p1, .int x2]) (st' := [.ref 188]) 1 rfl H
        obtain ⟨rv, h1, hc, H⟩ := pCalV 134 0 188 (as := []) (rest := []) rfl (by decide) (by decide +kernel) rfl rfl H
        obtain ⟨v2, M3, hD, H⟩ := pUseU (D_134_ok hS hc) H
        refine pG_call (x := v2) (M1 := M3) hD ?_
        replace H := pRun (ls' := [.ref 188, .int p1, .int x2]) (st' := [.int (kI 1)]) 1 rfl H
        exact pG_ret (pRetI H)
      · refine pG_neg (c := (kI 1200) ≤ x2) g1 ?_
        replace H := pRun (ls' := [.ref 188, .int p1, .int x2]) (st' := [.ref 188]) 1 rfl H
        replace H := pGetR (r := 229) (pRf hS (by decide +kernel)) rfl H
        replace H := pRun (ls' := [.ref 188, .int p1, .int x2]) (st' := [.ref 188, .int ((kI 7000) + x2), .ref 229]) 4 rfl H
        replace H := pGetR (r := 222) (pRf hS (by decide +kernel)) rfl H
        replace H := pRun (ls' := [.ref 188, .int p1, .int x2]) (st' := [.int x2, .ref 222, .int ((kI 7000) + x2), .ref 229]) 1 rfl H
        obtain ⟨g2, H⟩ := pIld (n := 1200) (pLt (show pCa 222 1200 = true by decide +kernel)) (pLn hS (show pCa 222 1200 = true by decide +kernel)) H
        refine pG_gd g2 ?_
        obtain ⟨g3, M1, eM1, H⟩ := pIst (n := 8600) (pLn hS (show pCa 229 8600 = true by decide +kernel)) H
        refine pG_gd g3 (pG_put (M2 := M1) eM1 ?_)
        replace H := pRun (ls' := [.ref 188, .int p1, .int (x2 + kI 1)]) (st' := []) 1 rfl H
        obtain ⟨g0, _, H⟩ := pGo (n1 := 9) rfl (mcb_135 rfl) H
        exact (ih _ (by omega)).2 _  _ H
theorem L_135_5_ok {X : aX} {F d : Nat} {K : Nat → aK} (hS : pS K) {p1 : Int32} {out : Option Value × aH} {f : Nat} {x2 : Int32} {M : pMem} (H : pm X F d 135 f 5 [.iload 2, .bipush 1200, .if_icmp .ge 7] [.ref 188, .int p1, .int x2] [] (pH K M) out) : pG eI K out (L_135_5 p1 x2 M) := by
  refine pG_all (C := fun P : (Int32 → pMem → pT Int32) × (Int32 → pMem → pT Int32) => C_135 p1 P.1 P.2) (T := fun P => P.1 x2 M) eI_inj ((fun _ _ _ _ => True), (fun _ _ _ _ => True)) ?_ (fun P hP => (K_135 hS P.1 P.2 hP f).1 _ _ H)
  exact ⟨(fun _ _ _ _ _ => trivial), (fun _ _ _ _ _ => trivial)⟩
theorem L_135_9_ok {X : aX} {F d : Nat} {K : Nat → aK} (hS : pS K) {p1 : Int32} {out : Option Value × aH} {f : Nat} {x2 : Int32} {M : pMem} (H : pm X F d 135 f 9 [.iload 2, .bipush 1200, .if_icmp .ge 11] [.ref 188, .int p1, .int x2] [] (pH K M) out) : pG eI K out (L_135_9 p1 x2 M) := by
  refine pG_all (C := fun P : (Int32 → pMem → pT Int32) × (Int32 → pMem → pT Int32) => C_135 p1 P.1 P.2) (T := fun P => P.2 x2 M) eI_inj ((fun _ _ _ _ => True), (fun _ _ _ _ => True)) ?_ (fun P hP => (K_135 hS P.1 P.2 hP f).2 _ _ H)
  exact ⟨(fun _ _ _ _ _ => trivial), (fun _ _ _ _ _ => trivial)⟩
theorem D_135_ok {X : aX} {F d : Nat} {K : Nat → aK} (hS : pS K) {p1 : Int32} {M : pMem} {out : Option Value × aH} (H : aM X F d 135 [.ref 188, .int p1] (pH K M) = some out) : pG eI K out (D_135 p1 M) := by
  obtain ⟨d', g0, _, H⟩ := pEnt (n := 3) (ls := [.ref 188, .int p1, aD]) (mcb_135 rfl) (by decide +kernel) rfl H
  unfold D_135
  replace H := pRun (ls' := [.ref 188, .int p1, aD]) (st' := [.int (kI 0), .ref 188]) 2 rfl H
  obtain ⟨M1, eM1, H⟩ := pPutN (j := 0) rfl H
  refine pG_put (M2 := M1) eM1 ?_
  replace H := pRun (ls' := [.ref 188, .int p1, aD]) (st' := [.int p1]) 1 rfl H
  rcases pIf0 (n1 := 3) rfl (mcb_135 rfl) (mcb_135 rfl) H with ⟨g1, g0, _, H⟩ | ⟨g1, g0, _, H⟩
  · refine pG_pos (c := ¬ p1 = 0) g1 ?_
    replace H := pRun (ls' := [.ref 188, .int p1, aD]) (st' := [.int (kI 1), .ref 188]) 2 rfl H
    obtain ⟨M2, eM2, H⟩ := pPutN (j := 77) rfl H
    refine pG_put (M2 := M2) eM2 ?_
    replace H := pRun (ls' := [.ref 188, .int p1, aD]) (st' := [.int p1]) 1 rfl H
    rcases pIf0 (n1 := 7) rfl (mcb_135 rfl) (mcb_135 rfl) H with ⟨g2, g0, _, H⟩ | ⟨g2, g0, _, H⟩
    · refine pG_pos (c := ¬ p1 = 0) g2 ?_
      replace H := pRun (ls' := [.ref 188, .int p1, aD]) (st' := [.int p1, .ref 188]) 2 rfl H
      obtain ⟨rv, h1, hc, H⟩ := pCalV 108 1 188 (as := [.int p1]) (rest := []) rfl (by decide) (by decide +kernel) rfl rfl H
      obtain ⟨v1, M3, hD, H⟩ := pUseU (D_108_ok hS hc) H
      refine pG_call (x := v1) (M1 := M3) hD ?_
      replace H := pRun (ls' := [.ref 188, .int p1, aD]) (st' := [.int p1]) 1 rfl H
      rcases pIf0 (n1 := 11) rfl (mcb_135 rfl) (mcb_135 rfl) H with ⟨g3, g0, _, H⟩ | ⟨g3, g0, _, H⟩
      · refine pG_pos (c := p1 = 0) g3 ?_
        replace H := pRun (ls' := [.ref 188, .int p1, aD]) (st' := [.int (kI 0), .ref 188]) 2 rfl H
        obtain ⟨M4, eM4, H⟩ := pPutN (j := 79) rfl H
        refine pG_put (M2 := M4) eM4 ?_
        replace H := pRun (ls' := [.ref 188, .int p1, aD]) (st' := [.ref 188]) 1 rfl H
        obtain ⟨rv, h1, hc, H⟩ := pCalV 133 0 188 (as := []) (rest := []) rfl (by decide) (by decide +kernel) rfl rfl H
        obtain ⟨v2, M5, hD, H⟩ := pUseU (D_133_ok hS hc) H
        refine pG_call (x := v2) (M1 := M5) hD ?_
        replace H := pRun (ls' := [.ref 188, .int p1, aD]) (st' := [.ref 188]) 1 rfl H
        obtain ⟨rv, h1, hc, H⟩ := pCalV 134 0 188 (as := []) (rest := []) rfl (by decide) (by decide +kernel) rfl rfl H
        obtain ⟨v3, M6, hD, H⟩ := pUseU (D_134_ok hS hc) H
        refine pG_call (x := v3) (M1 := M6) hD ?_
        replace H := pRun (ls' := [.ref 188, .int p1, aD]) (st' := [.int (kI 1)]) 1 rfl H
        exact pG_ret (pRetI H)
      · refine pG_neg (c := p1 = 0) g3 ?_
        replace H := pRun (ls' := [.ref 188, .int p1, .int (kI 0)]) (st' := []) 2 rfl H
        obtain ⟨g0, _, H⟩ := pFall (mcb_135 rfl) H
        exact L_135_9_ok hS  H
    · refine pG_neg (c := ¬ p1 = 0) g2 ?_
      replace H := pRun (ls' := [.ref 188, .int p1, .int (kI 0)]) (st' := []) 2 rfl H
      obtain ⟨g0, _, H⟩ := pFall (mcb_135 rfl) H
      exact L_135_5_ok hS  H
  · refine pG_neg (c := ¬ p1 = 0) g1 ?_
    replace H := pRun (ls' := [.ref 188, .int p1, aD]) (st' := [.ref 188]) 1 rfl H
    replace H := pGetN (v := M1 188 77) rfl (by decide) H
    rcases pIf0 (n1 := 3) rfl (mcb_135 rfl) (mcb_135 rfl) H with ⟨g2, g0, _, H⟩ | ⟨g2, g0, _, H⟩
    · refine pG_pos (c := ¬ (M1 188 77) = 0) g2 ?_
      replace H := pRun (ls' := [.ref 188, .int p1, aD]) (st' := [.int (kI 1), .ref 188]) 2 rfl H
      obtain ⟨M2, eM2, H⟩ := pPutN (j := 77) rfl H
      refine pG_put (M2 := M2) eM2 ?_
      replace H := pRun (ls' := [.ref 188, .int p1, aD]) (st' := [.int p1]) 1 rfl H
      rcases pIf0 (n1 := 7) rfl (mcb_135 rfl) (mcb_135 rfl) H with ⟨g3, g0, _, H⟩ | ⟨g3, g0, _, H⟩
      · refine pG_pos (c := ¬ p1 = 0) g3 ?_
        replace H := pRun (ls' := [.ref 188, .int p1, aD]) (st' := [.int p1, .ref 188]) 2 rfl H
        obtain ⟨rv, h1, hc, H⟩ := pCalV 108 1 188 (as := [.int p1]) (rest := []) rfl (by decide) (by decide +kernel) rfl rfl H
        obtain ⟨v1, M3, hD, H⟩ := pUseU (D_108_ok hS hc) H
        refine pG_call (x := v1) (M1 := M3) hD ?_
        replace H := pRun (ls' := [.ref 188, .int p1, aD]) (st' := [.int p1]) 1 rfl H
        rcases pIf0 (n1 := 11) rfl (mcb_135 rfl) (mcb_135 rfl) H with ⟨g4, g0, _, H⟩ | ⟨g4, g0, _, H⟩
        · refine pG_pos (c := p1 = 0) g4 ?_
          replace H := pRun (ls' := [.ref 188, .int p1, aD]) (st' := [.int (kI 0), .ref 188]) 2 rfl H
          obtain ⟨M4, eM4, H⟩ := pPutN (j := 79) rfl H
          refine pG_put (M2 := M4) eM4 ?_
          replace H := pRun (ls' := [.ref 188, .int p1, aD]) (st' := [.ref 188]) 1 rfl H
          obtain ⟨rv, h1, hc, H⟩ := pCalV 133 0 188 (as := []) (rest := []) rfl (by decide) (by decide +kernel) rfl rfl H
          obtain ⟨v2, M5, hD, H⟩ := pUseU (D_133_ok hS hc) H
          refine pG_call (x := v2) (M1 := M5) hD ?_
          replace H := pRun (ls' := [.ref 188, .int p1, aD]) (st' := [.ref 188]) 1 rfl H
          obtain ⟨rv, h1, hc, H⟩ := pCalV 134 0 188 (as := []) (rest := []) rfl (by decide) (by decide +kernel) rfl rfl H
          obtain ⟨v3, M6, hD, H⟩ := pUseU (D_134_ok hS hc) H
          refine pG_call (x := v3) (M1 := M6) hD ?_
          replace H := pRun (ls' := [.ref 188, .int p1, aD]) (st' := [.int (kI 1)]) 1 rfl H
          exact pG_ret (pRetI H)
        · refine pG_neg (c := p1 = 0) g4 ?_
          replace H := pRun (ls' := [.ref 188, .int p1, .int (kI 0)]) (st' := []) 2 rfl H
          obtain ⟨g0, _, H⟩ := pFall (mcb_135 rfl) H
          exact L_135_9_ok hS  H
      · refine pG_neg (c := ¬ p1 = 0) g3 ?_
        replace H := pRun (ls' := [.ref 188, .int p1, .int (kI 0)]) (st' := []) 2 rfl H
        obtain ⟨g0, _, H⟩ := pFall (mcb_135 rfl) H
        exact L_135_5_ok hS  H
    · refine pG_neg (c := ¬ (M1 188 77) = 0) g2 ?_
      replace H := pRun (ls' := [.ref 188, .int p1, aD]) (st' := [.int (kI 0)]) 1 rfl H
      exact pG_ret (pRetI H)
def l_135 : List (Nat × Nat) := [(188, 77), (188, 69), (188, 68), (222, 999), (188, 1), (188, 3), (188, 4), (188, 17), (188, 18), (188, 19), (188, 20), (188, 21), (196, 999), (197, 999), (198, 999), (199, 999), (200, 999), (191, 999), (192, 999), (194, 999), (201, 999), (188, 79), (229, 999), (204, 999), (209, 999), (213, 999), (205, 999), (206, 999), (207, 999), (208, 999), (210, 999), (211, 999), (214, 999), (215, 999), (188, 2), (188, 71), (223, 999), (189, 999), (190, 999), (193, 999), (226, 999), (227, 999), (195, 999)]
theorem FC_135 {p1 : Int32} : C_135 p1 (fun _ M _ N => pFr (l_135) M N) (fun _ M _ N => pFr (l_135) M N) := ⟨fun x2 M => show pTf (l_135) M (S_135_5 p1 _ _ x2 M) from (tf_if (tf_call pFr_refl (fun _ _ h => F_108 h) [1, 2, 3, 4, 5, 6, 7, 8, 9, 10, 11, 12, 13, 14, 15, 16, 17, 18, 19, 20] rfl fun _ M1 f1 => (tf_if (tf_put f1 21 rfl fun M2 f2 => (tf_call f2 (fun _ _ h => F_133 h) [21, 22, 23, 24, 25, 26, 27, 28, 29, 30, 31, 32, 33] rfl fun _ M3 f3 => (tf_call f3 (fun _ _ h => F_134 h) [21, 22, 34, 35, 36, 37, 38, 39, 40, 41, 42] rfl fun _ M4 f4 => (tf_ret f4)))) (tf_jump f1))) (tf_gd fun g2 => (tf_gd fun g3 => (tf_putA pFr_refl 3 rfl fun M1 f1 => (tf_jump f1))))), fun x2 M => show pTf (l_135) M (S_135_9 p1 _ _ x2 M) from (tf_if (tf_put pFr_refl 21 rfl fun M1 f1 => (tf_call f1 (fun _ _ h => F_133 h) [21, 22, 23, 24, 25, 26, 27, 28, 29, 30, 31, 32, 33] rfl fun _ M2 f2 => (tf_call f2 (fun _ _ h => F_134 h) [21, 22, 34, 35, 36, 37, 38, 39, 40, 41, 42] rfl fun _ M3 f3 => (tf_ret f3)))) (tf_gd fun g2 => (tf_gd fun g3 => (tf_putA pFr_refl 22 rfl fun M1 f1 => (tf_jump f1)))))⟩
theorem F_135 {p1 : Int32} {M : pMem} {v : Int32} {N : pMem} (h : D_135 p1 M v N) : pFr (l_135) M N :=
  (show pTf (l_135) M (D_135 p1 M) from (tf_putS1 pFr_refl rfl fun M1 f1 => (tf_if (tf_put f1 0 rfl fun M2 f2 => (tf_if (tf_call f2 (fun _ _ h => F_108 h) [1, 2, 3, 4, 5, 6, 7, 8, 9, 10, 11, 12, 13, 14, 15, 16, 17, 18, 19, 20] rfl fun _ M3 f3 => (tf_if (tf_put f3 21 rfl fun M4 f4 => (tf_call f4 (fun _ _ h => F_133 h) [21, 22, 23, 24, 25, 26, 27, 28, 29, 30, 31, 32, 33] rfl fun _ M5 f5 => (tf_call f5 (fun _ _ h => F_134 h) [21, 22, 34, 35, 36, 37, 38, 39, 40, 41, 42] rfl fun _ M6 f6 => (tf_ret f6)))) (tf_jumpL (fun _ M _ N => pFr (l_135) M N, fun _ M _ N => pFr (l_135) M N) (FC_135) rfl f3))) (tf_jumpL (fun _ M _ N => pFr (l_135) M N, fun _ M _ N => pFr (l_135) M N) (FC_135) rfl f2))) (tf_if (tf_put f1 0 rfl fun M2 f2 => (tf_if (tf_call f2 (fun _ _ h => F_108 h) [1, 2, 3, 4, 5, 6, 7, 8, 9, 10, 11, 12, 13, 14, 15, 16, 17, 18, 19, 20] rfl fun _ M3 f3 => (tf_if (tf_put f3 21 rfl fun M4 f4 => (tf_call f4 (fun _ _ h => F_133 h) [21, 22, 23, 24, 25, 26, 27, 28, 29, 30, 31, 32, 33] rfl fun _ M5 f5 => (tf_call f5 (fun _ _ h => F_134 h) [21, 22, 34, 35, 36, 37, 38, 39, 40, 41, 42] rfl fun _ M6 f6 => (tf_ret f6)))) (tf_jumpL (fun _ M _ N => pFr (l_135) M N, fun _ M _ N => pFr (l_135) M N) (FC_135) rfl f3))) (tf_jumpL (fun _ M _ N => pFr (l_135) M N, fun _ M _ N => pFr (l_135) M N) (FC_135) rfl f2))) (tf_ret f1))))) v N h
/-- TwoCampsModel.look(I)I -/
def S_136_17 (p1 : Int32) (P17 : Int32 → Int32 → pMem → pT Int32) (x2 : Int32) (x3 : Int32) (M : pMem) : pT Int32 := tIf ((M 188 2) ≤ x3) (tRet x2 M) (tGd (pIn x3 24) <| P17 (x2 + (M 192 (ix x3))) (x3 + kI 1) M)
def C_136 (p1 : Int32) (P17 : Int32 → Int32 → pMem → pT Int32) : Prop := (∀ (x2 : Int32) (x3 : Int32) M v N, S_136_17 p1 P17 x2 x3 M v N → P17 x2 x3 M v N)
def L_136_17 (p1 : Int32) (x2 : Int32) (x3 : Int32) (M : pMem) : pT Int32 := fun v N => ∀ P : (Int32 → Int32 → pMem → pT Int32), C_136 p1 P → P x2 x3 M v N
def D_136 (p1 : Int32) (M : pMem) : pT Int32 := tPut (aPut M 188 0 (kI 0)) fun M1 => tIf (¬ p1 = 0) (tIf (¬ p1 = (kI 1)) (tIf (¬ p1 = (kI 2)) (tIf (¬ p1 = (kI 3)) (tIf (¬ p1 = (kI 4)) (tIf (¬ p1 = (kI 5)) (tIf (¬ p1 = (kI 7)) (tIf (p1 = (kI 6)) (L_136_17 p1 (kI 0) (kI 0) M1) (tRet (kI (-100)) M1)) (tRet (M1 188 71) M1)) (tGd (pIn (kI 0) 2) <| tGd (pIn (kI 1) 2) <| tRet ((M1 197 (ix (kI 0))) + (M1 197 (ix (kI 1)))) M1)) (tRet (M1 188 4) M1)) (tCall (D_55 M1) fun v1 M2 => tRet v1 M2)) (tRet (M1 188 3) M1)) (tCall (D_53 (kI 0) M1) fun v1 M2 => tCall (D_53 (kI 1) M2) fun v2 M3 => tRet (v1 + v2) M3)) (tRet (M1 188 2) M1)
theorem K_136 {X : aX} {F d : Nat} {K : Nat → aK} (hS : pS K) {p1 : Int32} {out : Option Value × aH} (P17 : Int32 → Int32 → pMem → pT Int32) (hC : C_136 p1 P17) : ∀ f, (∀ (x2 : Int32) (x3 : Int32) M, pm X F d 136 f 17 [.iload 3, .aload 0, .getfield 124412008, .if_icmp .ge 19] [.ref 188, .int p1, .int x2, .int x3] [] (pH K M) out → pG eI K out (P17 x2 x3 M)) := by
  intro f
  induction f using Nat.strongRecOn with
  | _ f ih =>
    intro x2 x3 M H
    refine pG_mono (fun v N h => hC x2 x3 M v N h) ?_
    unfold S_136_17
    replace H := pRun (ls' := [.ref 188, .int p1, .int x2, .int x3]) (st' := [.ref 188, .int x3]) 2 rfl H
    replace H := pGetN (v := M 188 2) rfl (by decide) H
    rcases pIfc (n1 := 19) rfl (mcb_136 rfl) (mcb_136 rfl) H with ⟨g1, g0, _, H⟩ | ⟨g1, g0, _, H⟩
    · refine pG_pos (c := (M 188 2) ≤ x3) g1 ?_
      replace H := pRun (ls' := [.ref 188, .int p1, .int x2, .int x3]) (st' := [.int x2]) 1 rfl H
      exact pG_ret (pRetI H)
    · refine pG_neg (c := (M 188 2) ≤ x3) g1 ?_
      replace H := pRun (ls' := [.ref 188, .int p1, .int x2, .int x3]) (st' := [.ref 188, .int x2]) 2 rfl H
      replace H := pGetR (r := 192) (pRf hS (by decide +kernel)) rfl H
      replace H := pRun (ls' := [.ref 188, .int p1, .int x2, .int x3]) (st' := [.int x3, .ref 192, .int x2]) 1 rfl H
      obtain ⟨g2, H⟩ := pIld (n := 24) (pLt (show pCa 192 24 = true by decide +kernel)) (pLn hS (show pCa 192 24 = true by decide +kernel)) H
      refine pG_gd g2 ?_
      replace H := pRun (ls' := [.ref 188, .int p1, .int (x2 + (M 192 (ix x3))), .int (x3 + kI 1)]) (st' := []) 3 rfl H
      obtain ⟨g0, _, H⟩ := pGo (n1 := 17) rfl (mcb_136 rfl) H
      exact (ih _ (by omega)) _ _  _ H
theorem L_136_17_ok {X : aX} {F d : Nat} {K : Nat → aK} (hS : pS K) {p1 : Int32} {out : Option Value × aH} {f : Nat} {x2 : Int32} {x3 : Int32} {M : pMem} (H : pm X F d 136 f 17 [.iload 3, .aload 0, .getfield 124412008, .if_icmp .ge 19] [.ref 188, .int p1, .int x2, .int x3] [] (pH K M) out) : pG eI K out (L_136_17 p1 x2 x3 M) := by
  refine pG_all (C := fun P : (Int32 → Int32 → pMem → pT Int32) => C_136 p1 P) (T := fun P => P x2 x3 M) eI_inj (fun _ _ _ _ _ => True) ?_ (fun P hP => (K_136 hS P hP f) _ _ _ H)
  exact (fun _ _ _ _ _ _ => trivial)
theorem D_136_ok {X : aX} {F d : Nat} {K : Nat → aK} (hS : pS K) {p1 : Int32} {M : pMem} {out : Option Value × aH} (H : aM X F d 136 [.ref 188, .int p1] (pH K M) = some out) : pG eI K out (D_136 p1 M) := by
  obtain ⟨d', g0, _, H⟩ := pEnt (n := 4) (ls := [.ref 188, .int p1, aD, aD]) (mcb_136 rfl) (by decide +kernel) rfl H
  unfold D_136
  replace H := pRun (ls' := [.ref 188, .int p1, aD, aD]) (st' := [.int (kI 0), .ref 188]) 2 rfl H
  obtain ⟨M1, eM1, H⟩ := pPutN (j := 0) rfl H
  refine pG_put (M2 := M1) eM1 ?_
  replace H := pRun (ls' := [.ref 188, .int p1, aD, aD]) (st' := [.int p1]) 1 rfl H
  rcases pIf0 (n1 := 2) rfl (mcb_136 rfl) (mcb_136 rfl) H with ⟨g1, g0, _, H⟩ | ⟨g1, g0, _, H⟩
  · refine pG_pos (c := ¬ p1 = 0) g1 ?_
    replace H := pRun (ls' := [.ref 188, .int p1, aD, aD]) (st' := [.int (kI 1), .int p1]) 2 rfl H
    rcases pIfc (n1 := 4) rfl (mcb_136 rfl) (mcb_136 rfl) H with ⟨g2, g0, _, H⟩ | ⟨g2, g0, _, H⟩
    · refine pG_pos (c := ¬ p1 = (kI 1)) g2 ?_
      replace H := pRun (ls' := [.ref 188, .int p1, aD, aD]) (st' := [.int (kI 2), .int p1]) 2 rfl H
      rcases pIfc (n1 := 6) rfl (mcb_136 rfl) (mcb_136 rfl) H with ⟨g3, g0, _, H⟩ | ⟨g3, g0, _, H⟩
      · refine pG_pos (c := ¬ p1 = (kI 2)) g3 ?_
        replace H := pRun (ls' := [.ref 188, .int p1, aD, aD]) (st' := [.int (kI 3), .int p1]) 2 rfl H
        rcases pIfc (n1 := 8) rfl (mcb_136 rfl) (mcb_136 rfl) H with ⟨g4, g0, _, H⟩ | ⟨g4, g0, _, H⟩
        · refine pG_pos (c := ¬ p1 = (kI 3)) g4 ?_
          replace H := pRun (ls' := [.ref 188, .int p1, aD, aD]) (st' := [.int (kI 4), .int p1]) 2 rfl H
          rcases pIfc (n1 := 10) rfl (mcb_136 rfl) (mcb_136 rfl) H with ⟨g5, g0, _, H⟩ | ⟨g5, g0, _, H⟩
          · refine pG_pos (c := ¬ p1 = (kI 4)) g5 ?_
            replace H := pRun (ls' := [.ref 188, .int p1, aD, aD]) (st' := [.int (kI 5), .int p1]) 2 rfl H
            rcases pIfc (n1 := 12) rfl (mcb_136 rfl) (mcb_136 rfl) H with ⟨g6, g0, _, H⟩ | ⟨g6, g0, _, H⟩
            · refine pG_pos (c := ¬ p1 = (kI 5)) g6 ?_
              replace H := pRun (ls' := [.ref 188, .int p1, aD, aD]) (st' := [.int (kI 7), .int p1]) 2 rfl H
              rcases pIfc (n1 := 14) rfl (mcb_136 rfl) (mcb_136 rfl) H with ⟨g7, g0, _, H⟩ | ⟨g7, g0, _, H⟩
              · refine pG_pos (c := ¬ p1 = (kI 7)) g7 ?_
                replace H := pRun (ls' := [.ref 188, .int p1, aD, aD]) (st' := [.int (kI 6), .int p1]) 2 rfl H
                rcases pIfc (n1 := 16) rfl (mcb_136 rfl) (mcb_136 rfl) H with ⟨g8, g0, _, H⟩ | ⟨g8, g0, _, H⟩
                · refine pG_pos (c := p1 = (kI 6)) g8 ?_
                  replace H := pRun (ls' := [.ref 188, .int p1, .int (kI 0), .int (kI 0)]) (st' := []) 4 rfl H
                  obtain ⟨g0, _, H⟩ := pFall (mcb_136 rfl) H
                  exact L_136_17_ok hS  H
                · refine pG_neg (c := p1 = (kI 6)) g8 ?_
                  replace H := pRun (ls' := [.ref 188, .int p1, aD, aD]) (st' := [.int (kI (-100))]) 1 rfl H
                  exact pG_ret (pRetI H)
              · refine pG_neg (c := ¬ p1 = (kI 7)) g7 ?_
                replace H := pRun (ls' := [.ref 188, .int p1, aD, aD]) (st' := [.ref 188]) 1 rfl H
                replace H := pGetN (v := M1 188 71) rfl (by decide) H
                exact pG_ret (pRetI H)
            · refine pG_neg (c := ¬ p1 = (kI 5)) g6 ?_
              replace H := pRun (ls' := [.ref 188, .int p1, aD, aD]) (st' := [.ref 188]) 1 rfl H
              replace H := pGetR (r := 197) (pRf hS (by decide +kernel)) rfl H
              replace H := pRun (ls' := [.ref 188, .int p1, aD, aD]) (st' := [.int (kI 0), .ref 197]) 1 rfl H
              obtain ⟨g7, H⟩ := pIld (n := 2) (pLt (show pCa 197 2 = true by decide +kernel)) (pLn hS (show pCa 197 2 = true by decide +kernel)) H
              refine pG_gd g7 ?_
              replace H := pRun (ls' := [.ref 188, .int p1, aD, aD]) (st' := [.ref 188, .int (M1 197 (ix (kI 0)))]) 1 rfl H
              replace H := pGetR (r := 197) (pRf hS (by decide +kernel)) rfl H
              replace H := pRun (ls' := [.ref 188, .int p1, aD, aD]) (st' := [.int (kI 1), .ref 197, .int (M1 197 (ix (kI 0)))]) 1 rfl H
              obtain ⟨g8, H⟩ := pIld (n := 2) (pLt (show pCa 197 2 = true by decide +kernel)) (pLn hS (show pCa 197 2 = true by decide +kernel)) H
              refine pG_gd g8 ?_
              replace H := pRun (ls' := [.ref 188, .int p1, aD, aD]) (st' := [.int ((M1 197 (ix (kI 0))) + (M1 197 (ix (kI 1))))]) 1 rfl H
              exact pG_ret (pRetI H)
          · refine pG_neg (c := ¬ p1 = (kI 4)) g5 ?_
            replace H := pRun (ls' := [.ref 188, .int p1, aD, aD]) (st' := [.ref 188]) 1 rfl H
            replace H := pGetN (v := M1 188 4) rfl (by decide) H
            exact pG_ret (pRetI H)
        · refine pG_neg (c := ¬ p1 = (kI 3)) g4 ?_
          replace H := pRun (ls' := [.ref 188, .int p1, aD, aD]) (st' := [.ref 188]) 1 rfl H
          obtain ⟨rv, h1, hc, H⟩ := pCalV 55 0 188 (as := []) (rest := []) rfl (by decide) (by decide +kernel) rfl rfl H
          obtain ⟨v1, M2, hD, H⟩ := pUseI (D_55_ok hS hc) H
          refine pG_call (x := v1) (M1 := M2) hD ?_
          exact pG_ret (pRetI H)
      · refine pG_neg (c := ¬ p1 = (kI 2)) g3 ?_
        replace H := pRun (ls' := [.ref 188, .int p1, aD, aD]) (st' := [.ref 188]) 1 rfl H
        replace H := pGetN (v := M1 188 3) rfl (by decide) H
        exact pG_ret (pRetI H)
    · refine pG_neg (c := ¬ p1 = (kI 1)) g2 ?_
      replace H := pRun (ls' := [.ref 188, .int p1, aD, aD]) (st' := [.int (kI 0), .ref 188]) 2 rfl H
      obtain ⟨rv, h1, hc, H⟩ := pCalV 53 1 188 (as := [.int (kI 0)]) (rest := []) rfl (by decide) (by decide +kernel) rfl rfl H
      obtain ⟨v1, M2, hD, H⟩ := pUseI (D_53_ok hS hc) H
      refine pG_call (x := v1) (M1 := M2) hD ?_
      replace H := pRun (ls' := [.ref 188, .int p1, aD, aD]) (st' := [.int (kI 1), .ref 188, .int v1]) 2 rfl H
      obtain ⟨rv, h1, hc, H⟩ := pCalV 53 1 188 (as := [.int (kI 1)]) (rest := [.int v1]) rfl (by decide) (by decide +kernel) rfl rfl H
      obtain ⟨v2, M3, hD, H⟩ := pUseI (D_53_ok hS hc) H
      refine pG_call (x := v2) (M1 := M3) hD ?_
      replace H := pRun (ls' := [.ref 188, .int p1, aD, aD]) (st' := [.int (v1 + v2)]) 1 rfl H
      exact pG_ret (pRetI H)
  · refine pG_neg (c := ¬ p1 = 0) g1 ?_
    replace H := pRun (ls' := [.ref 188, .int p1, aD, aD]) (st' := [.ref 188]) 1 rfl H
    replace H := pGetN (v := M1 188 2) rfl (by decide) H
    exact pG_ret (pRetI H)
def l_136 : List (Nat × Nat) := []
theorem FC_136 {p1 : Int32} : C_136 p1 (fun _ _ M _ N => pFr (l_136) M N) := fun x2 x3 M => show pTf (l_136) M (S_136_17 p1 _ x2 x3 M) from (tf_if (tf_ret pFr_refl) (tf_gd fun g2 => (tf_jump pFr_refl)))
theorem F_136 {p1 : Int32} {M : pMem} {v : Int32} {N : pMem} (h : D_136 p1 M v N) : pFr (l_136) M N :=
  (show pTf (l_136) M (D_136 p1 M) from (tf_putS1 pFr_refl rfl fun M1 f1 => (tf_if (tf_if (tf_if (tf_if (tf_if (tf_if (tf_if (tf_if (tf_jumpL (fun _ _ M _ N => pFr (l_136) M N) (FC_136) rfl f1) (tf_ret f1)) (tf_ret f1)) (tf_gd fun g7 => (tf_gd fun g8 => (tf_ret f1)))) (tf_ret f1)) (tf_call f1 (fun _ _ h => F_55 h) [] rfl fun _ M2 f2 => (tf_ret f2))) (tf_ret f1)) (tf_call f1 (fun _ _ h => F_53 h) [] rfl fun _ M2 f2 => (tf_call f2 (fun _ _ h => F_53 h) [] rfl fun _ M3 f3 => (tf_ret f3)))) (tf_ret f1)))) v N h
