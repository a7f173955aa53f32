/-! what runs come to, method by method: printed by wip/pm/pm.py -/
/-- TwoCampsModel.asides(Z)V -/
def S_108_1 (p1 : Int32) (P1 : Int32 → pMem → pT Unit) (P4 : Int32 → pMem → pT Unit) (P7 : Int32 → pMem → pT Unit) (P10 : Int32 → pMem → pT Unit) (x2 : Int32) (M : pMem) : pT Unit := tIf ((kI 2) ≤ x2) (P4 (kI 0) M) (tGd (pIn x2 2) <| tCall (D_107 (M 196 (ix x2)) M) fun v1 M1 => tGd (pIn x2 2) <| tPut (aPut M1 196 (ix x2) v1) fun M2 => tGd (pIn x2 2) <| tCall (D_107 (M2 197 (ix x2)) M2) fun v2 M3 => tGd (pIn x2 2) <| tPut (aPut M3 197 (ix x2) v2) fun M4 => tGd (pIn x2 2) <| tCall (D_107 (M4 198 (ix x2)) M4) fun v3 M5 => tGd (pIn x2 2) <| tPut (aPut M5 198 (ix x2) v3) fun M6 => tGd (pIn x2 2) <| tCall (D_107 (M6 199 (ix x2)) M6) fun v4 M7 => tGd (pIn x2 2) <| tPut (aPut M7 199 (ix x2) v4) fun M8 => tGd (pIn x2 2) <| tCall (D_107 (M8 200 (ix x2)) M8) fun v5 M9 => tGd (pIn x2 2) <| tPut (aPut M9 200 (ix x2) v5) fun M10 => P1 (x2 + kI 1) M10)
def S_108_4 (p1 : Int32) (P1 : Int32 → pMem → pT Unit) (P4 : Int32 → pMem → pT Unit) (P7 : Int32 → pMem → pT Unit) (P10 : Int32 → pMem → pT Unit) (x2 : Int32) (M : pMem) : pT Unit := tIf ((kI 24) ≤ x2) (P7 (kI 0) M) (tGd (pIn x2 24) <| tCall (D_107 (M 191 (ix x2)) M) fun v1 M1 => tGd (pIn x2 24) <| tPut (aPut M1 191 (ix x2) v1) fun M2 => tGd (pIn x2 24) <| tCall (D_107 (M2 192 (ix x2)) M2) fun v2 M3 => tGd (pIn x2 24) <| tPut (aPut M3 192 (ix x2) v2) fun M4 => P4 (x2 + kI 1) M4)
def S_108_7 (p1 : Int32) (P1 : Int32 → pMem → pT Unit) (P4 : Int32 → pMem → pT Unit) (P7 : Int32 → pMem → pT Unit) (P10 : Int32 → pMem → pT Unit) (x2 : Int32) (M : pMem) : pT Unit := tIf ((kI 576) ≤ x2) (P10 (kI 0) M) (tGd (pIn x2 576) <| tCall (D_107 (M 194 (ix x2)) M) fun v1 M1 => tGd (pIn x2 576) <| tPut (aPut M1 194 (ix x2) v1) fun M2 => P7 (x2 + kI 1) M2)
def S_108_10 (p1 : Int32) (P1 : Int32 → pMem → pT Unit) (P4 : Int32 → pMem → pT Unit) (P7 : Int32 → pMem → pT Unit) (P10 : Int32 → pMem → pT Unit) (x2 : Int32) (M : pMem) : pT Unit := tIf ((kI 480) ≤ x2) (tRet () M) (tGd (pIn x2 480) <| tCall (D_107 (M 201 (ix x2)) M) fun v1 M1 => tGd (pIn x2 480) <| tPut (aPut M1 201 (ix x2) v1) fun M2 => P10 (x2 + kI 1) M2)
def C_108 (p1 : Int32) (P1 : Int32 → pMem → pT Unit) (P4 : Int32 → pMem → pT Unit) (P7 : Int32 → pMem → pT Unit) (P10 : Int32 → pMem → pT Unit) : Prop := (∀ (x2 : Int32) M v N, S_108_1 p1 P1 P4 P7 P10 x2 M v N → P1 x2 M v N) ∧ (∀ (x2 : Int32) M v N, S_108_4 p1 P1 P4 P7 P10 x2 M v N → P4 x2 M v N) ∧ (∀ (x2 : Int32) M v N, S_108_7 p1 P1 P4 P7 P10 x2 M v N → P7 x2 M v N) ∧ (∀ (x2 : Int32) M v N, S_108_10 p1 P1 P4 P7 P10 x2 M v N → P10 x2 M v N)
def L_108_1 (p1 : Int32) (x2 : Int32) (M : pMem) : pT Unit := fun v N => ∀ P : (Int32 → pMem → pT Unit) × (Int32 → pMem → pT Unit) × (Int32 → pMem → pT Unit) × (Int32 → pMem → pT Unit), C_108 p1 P.1 P.2.1 P.2.2.1 P.2.2.2 → P.1 x2 M v N
def L_108_4 (p1 : Int32) (x2 : Int32) (M : pMem) : pT Unit := fun v N => ∀ P : (Int32 → pMem → pT Unit) × (Int32 → pMem → pT Unit) × (Int32 → pMem → pT Unit) × (Int32 → pMem → pT Unit), C_108 p1 P.1 P.2.1 P.2.2.1 P.2.2.2 → P.2.1 x2 M v N
def L_108_7 (p1 : Int32) (x2 : Int32) (M : pMem) : pT Unit := fun v N => ∀ P : (Int32 → pMem → pT Unit) × (Int32 → pMem → pT Unit) × (Int32 → pMem → pT Unit) × (Int32 → pMem → pT Unit), C_108 p1 P.1 P.2.1 P.2.2.1 P.2.2.2 → P.2.2.1 x2 M v N
def L_108_10 (p1 : Int32) (x2 : Int32) (M : pMem) : pT Unit := fun v N => ∀ P : (Int32 → pMem → pT Unit) × (Int32 → pMem → pT Unit) × (Int32 → pMem → pT Unit) × (Int32 → pMem → pT Unit), C_108 p1 P.1 P.2.1 P.2.2.1 P.2.2.2 → P.2.2.2 x2 M v N
def D_108 (p1 : Int32) (M : pMem) : pT Unit := tPut (aPut M 188 69 p1) fun M1 => tPut (aPut M1 188 68 (kI 0)) fun M2 => tCall (D_107 (M2 188 1) M2) fun v1 M3 => tPut (aPut M3 188 1 v1) fun M4 => tCall (D_107 (M4 188 3) M4) fun v2 M5 => tPut (aPut M5 188 3 v2) fun M6 => tCall (D_107 (M6 188 4) M6) fun v3 M7 => tPut (aPut M7 188 4 v3) fun M8 => tCall (D_107 (M8 188 17) M8) fun v4 M9 => tPut (aPut M9 188 17 v4) fun M10 => tCall (D_107 (M10 188 18) M10) fun v5 M11 => tPut (aPut M11 188 18 v5) fun M12 => tCall (D_107 (M12 188 19) M12) fun v6 M13 => tPut (aPut M13 188 19 v6) fun M14 => tCall (D_107 (M14 188 20) M14) fun v7 M15 => tPut (aPut M15 188 20 v7) fun M16 => tCall (D_107 (M16 188 21) M16) fun v8 M17 => tPut (aPut M17 188 21 v8) fun M18 => L_108_1 p1 (kI 0) M18
theorem K_108 {X : aX} {F d : Nat} {K : Nat → aK} (hS : pS K) {p1 : Int32} {out : Option Value × aH} (P1 : Int32 → pMem → pT Unit) (P4 : Int32 → pMem → pT Unit) (P7 : Int32 → pMem → pT Unit) (P10 : Int32 → pMem → pT Unit) (hC : C_108 p1 P1 P4 P7 P10) : ∀ f, (∀ (x2 : Int32) M, pm X F d 108 f 1 [.iload 2, .bipush 2, .if_icmp .ge 3] [.ref 188, .int p1, .int x2] [] (pH K M) out → pG eU K out (P1 x2 M)) ∧ (∀ (x2 : Int32) M, pm X F d 108 f 4 [.iload 2, .bipush 24, .if_icmp .ge 6] [.ref 188, .int p1, .int x2] [] (pH K M) out → pG eU K out (P4 x2 M)) ∧ (∀ (x2 : Int32) M, pm X F d 108 f 7 [.iload 2, .bipush 576, .if_icmp .ge 9] [.ref 188, .int p1, .int x2] [] (pH K M) out → pG eU K out (P7 x2 M)) ∧ (∀ (x2 : Int32) M, pm X F d 108 f 10 [.iload 2, .bipush 480, .if_icmp .ge 12] [.ref 188, .int p1, .int x2] [] (pH K M) out → pG eU K out (P10 x2 M)) := by
  intro f
  induction f using Nat.strongRecOn with
  | _ f ih =>
    refine ⟨?_, ?_, ?_, ?_⟩
    · intro x2 M H
      refine pG_mono (fun v N h => hC.1 x2 M v N h) ?_
      unfold S_108_1
      replace H := pRun (ls' := [.ref 188, .int p1, .int x2]) (st' := [.int (kI 2), .int x2]) 2 rfl H
      rcases pIfc (n1 := 3) rfl (mcb_108 rfl) (mcb_108 rfl) H with ⟨g1, g0, _, H⟩ | ⟨g1, g0, _, H⟩
      · refine pG_pos (c := (kI 2) ≤ x2) g1 ?_
        replace H := pRun (ls' := [.ref 188, .int p1, .int (kI 0)]) (st' := []) 2 rfl H
        obtain ⟨g0, _, H⟩ := pFall (mcb_108 rfl) H
        exact (ih _ (by omega)).2.1 _  _ H
      · refine pG_neg (c := (kI 2) ≤ x2) g1 ?_
        replace H := pRun (ls' := [.ref 188, .int p1, .int x2]) (st' := [.ref 188]) 1 rfl H
        replace H := pGetR (r := 196) (pRf hS (by decide +kernel)) rfl H
        replace H := pRun (ls' := [.ref 188, .int p1, .int x2]) (st' := [.ref 188, .ref 188, .int x2, .ref 196]) 3 rfl H
        replace H := pGetR (r := 196) (pRf hS (by decide +kernel)) rfl H
        replace H := pRun (ls' := [.ref 188, .int p1, .int x2]) (st' := [.int x2, .ref 196, .ref 188, .int x2, .ref 196]) 1 rfl H
        obtain ⟨g2, H⟩ := pIld (n := 2) (pLt (show pCa 196 2 = true by decide +kernel)) (pLn hS (show pCa 196 2 = true by decide +kernel)) H
        refine pG_gd g2 ?_
        obtain ⟨rv, h1, hc, H⟩ := pCalV 107 1 188 (as := [.int (M 196 (ix x2))]) (rest := [.int x2, .ref 196]) rfl (by decide) (by decide +kernel) rfl rfl H
        obtain ⟨v1, M1, hD, H⟩ := pUseI (D_107_ok hS hc) H
        refine pG_call (x := v1) (M1 := M1) hD ?_
        obtain ⟨g3, M2, eM2, H⟩ := pIst (n := 2) (pLn hS (show pCa 196 2 = true by decide +kernel)) H
        refine pG_gd g3 (pG_put (M2 := M2) eM2 ?_)
        replace H := pRun (ls' := [.ref 188, .int p1, .int x2]) (st' := [.ref 188]) 1 rfl H
        replace H := pGetR (r := 197) (pRf hS (by decide +kernel)) rfl H
        replace H := pRun (ls' := [.ref 188, .int p1, .int x2]) (st' := [.ref 188, .ref 188, .int x2, .ref 197]) 3 rfl H
        replace H := pGetR (r := 197) (pRf hS (by decide +kernel)) rfl H
        replace H := pRun (ls' := [.ref 188, .int p1, .int x2]) (st' := [.int x2, .ref 197, .ref 188, .int x2, .ref 197]) 1 rfl H
        obtain ⟨g4, H⟩ := pIld (n := 2) (pLt (show pCa 197 2 = true by decide +kernel)) (pLn hS (show pCa 197 2 = true by decide +kernel)) H
        refine pG_gd g4 ?_
        obtain ⟨rv, h1, hc, H⟩ := pCalV 107 1 188 (as := [.int (M2 197 (ix x2))]) (rest := [.int x2, .ref 197]) rfl (by decide) (by decide +kernel) rfl rfl H
        obtain ⟨v2, M3, hD, H⟩ := pUseI (D_107_ok hS hc) H
        refine pG_call (x := v2) (M1 := M3) hD ?_
        obtain ⟨g5, M4, eM4, H⟩ := pIst (n := 2) (pLn hS (show pCa 197 2 = true by decide +kernel)) H
        refine pG_gd g5 (pG_put (M2 := M4) eM4 ?_)
        replace H := pRun (ls' := [.ref 188, .int p1, .int x2]) (st' := [.ref 188]) 1 rfl H
        replace H := pGetR (r := 198) (pRf hS (by decide +kernel)) rfl H
        replace H := pRun (ls' := [.ref 188, .int p1, .int x2]) (st' := [.ref 188, .ref 188, .int x2, .ref 198]) 3 rfl H
        replace H := pGetR (r := 198) (pRf hS (by decide +kernel)) rfl H
        replace H := pRun (ls' := [.ref 188, .int p1, .int x2]) (st' := [.int x2, .ref 198, .ref 188, .int x2, .ref 198]) 1 rfl H
        obtain ⟨g6, H⟩ := pIld (n := 2) (pLt (show pCa 198 2 = true by decide +kernel)) (pLn hS (show pCa 198 2 = true by decide +kernel)) H
        refine pG_gd g6 ?_
        obtain ⟨rv, h1, hc, H⟩ := pCalV 107 1 188 (as := [.int (M4 198 (ix x2))]) (rest := [.int x2, .ref 198]) rfl (by decide) (by decide +kernel) rfl rfl H
        obtain ⟨v3, M5, hD, H⟩ := pUseI (D_107_ok hS hc) H
        refine pG_call (x := v3) (M1 := M5) hD ?_
        obtain ⟨g7, M6, eM6, H⟩ := pIst (n := 2) (pLn hS (show pCa 198 2 = true by decide +kernel)) H
        refine pG_gd g7 (pG_put (M2 := M6) eM6 ?_)
        replace H := pRun (ls' := [.ref 188, .int p1, .int x2]) (st' := [.ref 188]) 1 rfl H
        replace H := pGetR (r := 199) (pRf hS (by decide +kernel)) rfl H
        replace H := pRun (ls' := [.ref 188, .int p1, .int x2]) (st' := [.ref 188, .ref 188, .int x2, .ref 199]) 3 rfl H
        replace H := pGetR (r := 199) (pRf hS (by decide +kernel)) rfl H
        replace H := pRun (ls' := [.ref 188, .int p1, .int x2]) (st' := [.int x2, .ref 199, .ref 188, .int x2, .ref 199]) 1 rfl H
        obtain ⟨g8, H⟩ := pIld (n := 2) (pLt (show pCa 199 2 = true by decide +kernel)) (pLn hS (show pCa 199 2 = true by decide +kernel)) H
        refine pG_gd g8 ?_
        obtain ⟨rv, h1, hc, H⟩ := pCalV 107 1 188 (as := [.int (M6 199 (ix x2))]) (rest := [.int x2, .ref 199]) rfl (by decide) (by decide +kernel) rfl rfl H
        obtain ⟨v4, M7, hD, H⟩ := pUseI (D_107_ok hS hc) H
        refine pG_call (x := v4) (M1 := M7) hD ?_
        obtain ⟨g9, M8, eM8, H⟩ := pIst (n := 2) (pLn hS (show pCa 199 2 = true by decide +kernel)) H
        refine pG_gd g9 (pG_put (M2 := M8) eM8 ?_)
        replace H := pRun (ls' := [.ref 188, .int p1, .int x2]) (st' := [.ref 188]) 1 rfl H
        replace H := pGetR (r := 200) (pRf hS (by decide +kernel)) rfl H
        replace H := pRun (ls' := [.ref 188, .int p1, .int x2]) (st' := [.ref 188, .ref 188, .int x2, .ref 200]) 3 rfl H
        replace H := pGetR (r := 200) (pRf hS (by decide +kernel)) rfl H
        replace H := pRun (ls' := [.ref 188, .int p1, .int x2]) (st' := [.int x2, .ref 200, .ref 188, .int x2, .ref 200]) 1 rfl H
        obtain ⟨g10, H⟩ := pIld (n := 2) (pLt (show pCa 200 2 = true by decide +kernel)) (pLn hS (show pCa 200 2 = true by decide +kernel)) H
        refine pG_gd g10 ?_
        obtain ⟨rv, h1, hc, H⟩ := pCalV 107 1 188 (as := [.int (M8 200 (ix x2))]) (rest := [.int x2, .ref 200]) rfl (by decide) (by decide +kernel) rfl rfl H
        obtain ⟨v5, M9, hD, H⟩ := pUseI (D_107_ok hS hc) H
        refine pG_call (x := v5) (M1 := M9) hD ?_
        obtain ⟨g11, M10, eM10, H⟩ := pIst (n := 2) (pLn hS (show pCa 200 2 = true by decide +kernel)) H
        refine pG_gd g11 (pG_put (M2 := M10) eM10 ?_)
        replace H := pRun (ls' := [.ref 188, .int p1, .int (x2 + kI 1)]) (st' := []) 1 rfl H
        obtain ⟨g0, _, H⟩ := pGo (n1 := 1) rfl (mcb_108 rfl) H
        exact (ih _ (by omega)).1 _  _ H
    · intro x2 M H
      refine pG_mono (fun v N h => hC.2.1 x2 M v N h) ?_
      unfold S_108_4
      replace H := pRun (ls' := [.ref 188, .int p1, .int x2]) (st' := [.int (kI 24), .int x2]) 2 rfl H
      rcases pIfc (n1 := 6) rfl (mcb_108 rfl) (mcb_108 rfl) H with ⟨g1, g0, _, H⟩ | ⟨g1, g0, _, H⟩
      · refine pG_pos (c := (kI 24) ≤ x2) g1 ?_
        replace H := pRun (ls' := [.ref 188, .int p1, .int (kI 0)]) (st' := []) 2 rfl H
        obtain ⟨g0, _, H⟩ := pFall (mcb_108 rfl) H
        exact (ih _ (by omega)).2.2.1 _  _ H
      · refine pG_neg (c := (kI 24) ≤ x2) g1 ?_
        replace H := pRun (ls' := [.ref 188, .int p1, .int x2]) (st' := [.ref 188]) 1 rfl H
        replace H := pGetR (r := 191) (pRf hS (by decide +kernel)) rfl H
        replace H := pRun (ls' := [.ref 188, .int p1, .int x2]) (st' := [.ref 188, .ref 188, .int x2, .ref 191]) 3 rfl H
        replace H := pGetR (r := 191) (pRf hS (by decide +kernel)) rfl H
        replace H := pRun (ls' := [.ref 188, .int p1, .int x2]) (st' := [.int x2, .ref 191, .ref 188, .int x2, .ref 191]) 1 rfl H
        obtain ⟨g2, H⟩ := pIld (n := 24) (pLt (show pCa 191 24 = true by decide +kernel)) (pLn hS (show pCa 191 24 = true by decide +kernel)) H
        refine pG_gd g2 ?_
        obtain ⟨rv, h1, hc, H⟩ := pCalV 107 1 188 (as := [.int (M 191 (ix x2))]) (rest := [.int x2, .ref 191]) rfl (by decide) (by decide +kernel) rfl rfl H
        obtain ⟨v1, M1, hD, H⟩ := pUseI (D_107_ok hS hc) H
        refine pG_call (x := v1) (M1 := M1) hD ?_
        obtain ⟨g3, M2, eM2, H⟩ := pIst (n := 24) (pLn hS (show pCa 191 24 = true by decide +kernel)) H
        refine pG_gd g3 (pG_put (M2 := M2) eM2 ?_)
        replace H := pRun (ls' := [.ref 188, .int p1, .int x2]) (st' := [.ref 188]) 1 rfl H
        replace H := pGetR (r := 192) (pRf hS (by decide +kernel)) rfl H
        replace H := pRun (ls' := [.ref 188, .int p1, .int x2]) (st' := [.ref 188, .ref 188, .int x2, .ref 192]) 3 rfl H
        replace H := pGetR (r := 192) (pRf hS (by decide +kernel)) rfl H
        replace H := pRun (ls' := [.ref 188, .int p1, .int x2]) (st' := [.int x2, .ref 192, .ref 188, .int x2, .ref 192]) 1 rfl H
        obtain ⟨g4, H⟩ := pIld (n := 24) (pLt (show pCa 192 24 = true by decide +kernel)) (pLn hS (show pCa 192 24 = true by decide +kernel)) H
        refine pG_gd g4 ?_
        obtain ⟨rv, h1, hc, H⟩ := pCalV 107 1 188 (as := [.int (M2 192 (ix x2))]) (rest := [.int x2, .ref 192]) rfl (by decide) (by decide +kernel) rfl rfl H
        obtain ⟨v2, M3, hD, H⟩ := pUseI (D_107_ok hS hc) H
        refine pG_call (x := v2) (M1 := M3) hD ?_
        obtain ⟨g5, M4, eM4, H⟩ := pIst (n := 24) (pLn hS (show pCa 192 24 = true by decide +kernel)) H
        refine pG_gd g5 (pG_put (M2 := M4) eM4 ?_)
        replace H := pRun (ls' := [.ref 188, .int p1, .int (x2 + kI 1)]) (st' := []) 1 rfl H
        obtain ⟨g0, _, H⟩ := pGo (n1 := 4) rfl (mcb_108 rfl) H
        exact (ih _ (by omega)).2.1 _  _ H
    · intro x2 M H
      refine pG_mono (fun v N h => hC.2.2.1 x2 M v N h) ?_
      unfold S_108_7
      replace H := pRun (ls' := [.ref 188, .int p1, .int x2]) (st' := [.int (kI 576), .int x2]) 2 rfl H
      rcases pIfc (n1 := 9) rfl (mcb_108 rfl) (mcb_108 rfl) H with ⟨g1, g0, _, H⟩ | ⟨g1, g0, _, H⟩
      · refine pG_pos (c := (kI 576) ≤ x2) g1 ?_
        replace H := pRun (ls' := [.ref 188, .int p1, .int (kI 0)]) (st' := []) 2 rfl H
        obtain ⟨g0, _, H⟩ := pFall (mcb_108 rfl) H
        exact (ih _ (by omega)).2.2.2 _  _ H
      · refine pG_neg (c := (kI 576) ≤ x2) g1 ?_
        replace H := pRun (ls' := [.ref 188, .int p1, .int x2]) (st' := [.ref 188]) 1 rfl H
        replace H := pGetR (r := 194) (pRf hS (by decide +kernel)) rfl H
        replace H := pRun (ls' := [.ref 188, .int p1, .int x2]) (st' := [.ref 188, .ref 188, .int x2, .ref 194]) 3 rfl H
        replace H := pGetR (r := 194) (pRf hS (by decide +kernel)) rfl H
        replace H := pRun (ls' := [.ref 188, .int p1, .int x2]) (st' := [.int x2, .ref 194, .ref 188, .int x2, .ref 194]) 1 rfl H
        obtain ⟨g2, H⟩ := pIld (n := 576) (pLt (show pCa 194 576 = true by decide +kernel)) (pLn hS (show pCa 194 576 = true by decide +kernel)) H
        refine pG_gd g2 ?_
        obtain ⟨rv, h1, hc, H⟩ := pCalV 107 1 188 (as := [.int (M 194 (ix x2))]) (rest := [.int x2, .ref 194]) rfl (by decide) (by decide +kernel) rfl rfl H
        obtain ⟨v1, M1, hD, H⟩ := pUseI (D_107_ok hS hc) H
        refine pG_call (x := v1) (M1 := M1) hD ?_
        obtain ⟨g3, M2, eM2, H⟩ := pIst (n := 576) (pLn hS (show pCa 194 576 = true by decide +kernel)) H
        refine pG_gd g3 (pG_put (M2 := M2) eM2 ?_)
        replace H := pRun (ls' := [.ref 188, .int p1, .int (x2 + kI 1)]) (st' := []) 1 rfl H
        obtain ⟨g0, _, H⟩ := pGo (n1 := 7) rfl (mcb_108 rfl) H
        exact (ih _ (by omega)).2.2.1 _  _ H
    · intro x2 M H
      refine pG_mono (fun v N h => hC.2.2.2 x2 M v N h) ?_
      unfold S_108_10
      replace H := pRun (ls' := [.ref 188, .int p1, .int x2]) (st' := [.int (kI 480), .int x2]) 2 rfl H
      rcases pIfc (n1 := 12) rfl (mcb_108 rfl) (mcb_108 rfl) H with ⟨g1, g0, _, H⟩ | ⟨g1, g0, _, H⟩
      · refine pG_pos (c := (kI 480) ≤ x2) g1 ?_
        exact pG_ret (pRetU H)
      · refine pG_neg (c := (kI 480) ≤ x2) g1 ?_
        replace H := pRun (ls' := [.ref 188, .int p1, .int x2]) (st' := [.ref 188]) 1 rfl H
        replace H := pGetR (r := 201) (pRf hS (by decide +kernel)) rfl H
        replace H := pRun (ls' := [.ref 188, .int p1, .int x2]) (st' := [.ref 188, .ref 188, .int x2, .ref 201]) 3 rfl H
        replace H := pGetR (r := 201) (pRf hS (by decide +kernel)) rfl H
        replace H := pRun (ls' := [.ref 188, .int p1, .int x2]) (st' := [.int x2, .ref 201, .ref 188, .int x2, .ref 201]) 1 rfl H
        obtain ⟨g2, H⟩ := pIld (n := 480) (pLt (show pCa 201 480 = true by decide +kernel)) (pLn hS (show pCa 201 480 = true by decide +kernel)) H
        refine pG_gd g2 ?_
        obtain ⟨rv, h1, hc, H⟩ := pCalV 107 1 188 (as := [.int (M 201 (ix x2))]) (rest := [.int x2, .ref 201]) rfl (by decide) (by decide +kernel) rfl rfl H
        obtain ⟨v1, M1, hD, H⟩ := pUseI (D_107_ok hS hc) H
        refine pG_call (x := v1) (M1 := M1) hD ?_
        obtain ⟨g3, M2, eM2, H⟩ := pIst (n := 480) (pLn hS (show pCa 201 480 = true by decide +kernel)) H
        refine pG_gd g3 (pG_put (M2 := M2) eM2 ?_)
        replace H := pRun (ls' := [.ref 188, .int p1, .int (x2 + kI 1)]) (st' := []) 1 rfl H
        obtain ⟨g0, _, H⟩ := pGo (n1 := 10) rfl (mcb_108 rfl) H
        exact (ih _ (by omega)).2.2.2 _  _ H
theorem L_108_1_ok {X : aX} {F d : Nat} {K : Nat → aK} (hS : pS K) {p1 : Int32} {out : Option Value × aH} {f : Nat} {x2 : Int32} {M : pMem} (H : pm X F d 108 f 1 [.iload 2, .bipush 2, .if_icmp .ge 3] [.ref 188, .int p1, .int x2] [] (pH K M) out) : pG eU K out (L_108_1 p1 x2 M) := by
  refine pG_all (C := fun P : (Int32 → pMem → pT Unit) × (Int32 → pMem → pT Unit) × (Int32 → pMem → pT Unit) × (Int32 → pMem → pT Unit) => C_108 p1 P.1 P.2.1 P.2.2.1 P.2.2.2) (T := fun P => P.1 x2 M) eU_inj ((fun _ _ _ _ => True), (fun _ _ _ _ => True), (fun _ _ _ _ => True), (fun _ _ _ _ => True)) ?_ (fun P hP => (K_108 hS P.1 P.2.1 P.2.2.1 P.2.2.2 hP f).1 _ _ H)
  exact ⟨(fun _ _ _ _ _ => trivial), (fun _ _ _ _ _ => trivial), (fun _ _ _ _ _ => trivial), (fun _ _ _ _ _ => trivial)⟩
theorem L_108_4_ok {X : aX} {F d : Nat} {K : Nat → aK} (hS : pS K) {p1 : Int32} {out : Option Value × aH} {f : Nat} {x2 : Int32} {M : pMem} (H : pm X F d 108 f 4 [.iload 2, .bipush 24, .if_icmp .ge 6] [.ref 188, .int p1, .int x2] [] (pH K M) out) : pG eU K out (L_108_4 p1 x2 M) := by
  refine pG_all (C := fun P : (Int32 → pMem → pT Unit) × (Int32 → pMem → pT Unit) × (Int32 → pMem → pT Unit) × (Int32 → pMem → pT Unit) => C_108 p1 P.1 P.2.1 P.2.2.1 P.2.2.2) (T := fun P => P.2.1 x2 M) eU_inj ((fun _ _ _ _ => True), (fun _ _ _ _ => True), (fun _ _ _ _ => True), (fun _ _ _ _ => True)) ?_ (fun P hP => (K_108 hS P.1 P.2.1 P.2.2.1 P.2.2.2 hP f).2.1 _ _ H)
  exact ⟨(fun _ _ _ _ _ => trivial), (fun _ _ _ _ _ => trivial), (fun _ _ _ _ _ => trivial), (fun _ _ _ _ _ => trivial)⟩
theorem L_108_7_ok {X : aX} {F d : Nat} {K : Nat → aK} (hS : pS K) {p1 : Int32} {out : Option Value × aH} {f : Nat} {x2 : Int32} {M : pMem} (H : pm X F d 108 f 7 [.iload 2, .bipush 576, .if_icmp .ge 9] [.ref 188, .int p1, .int x2] [] (pH K M) out) : pG eU K out (L_108_7 p1 x2 M) := by
  refine pG_all (C := fun P : (Int32 → pMem → pT Unit) × (Int32 → pMem → pT Unit) × (Int32 → pMem → pT Unit) × (Int32 → pMem → pT Unit) => C_108 p1 P.1 P.2.1 P.2.2.1 P.2.2.2) (T := fun P => P.2.2.1 x2 M) eU_inj ((fun _ _ _ _ => True), (fun _ _ _ _ => True), (fun _ _ _ _ => True), (fun _ _ _ _ => True)) ?_ (fun P hP => (K_108 hS P.1 P.2.1 P.2.2.1 P.2.2.2 hP f).2.2.1 _ _ H)
  exact ⟨(fun _ _ _ _ _ => trivial), (fun _ _ _ _ _ => trivial), (fun _ _ _ _ _ => trivial), (fun _ _ _ _ _ => trivial)⟩
theorem L_108_10_ok {X : aX} {F d : Nat} {K : Nat → aK} (hS : pS K) {p1 : Int32} {out : Option Value × aH} {f : Nat} {x2 : Int32} {M : pMem} (H : pm X F d 108 f 10 [.iload 2, .bipush 480, .if_icmp .ge 12] [.ref 188, .int p1, .int x2] [] (pH K M) out) : pG eU K out (L_108_10 p1 x2 M) := by
  refine pG_all (C := fun P : (Int32 → pMem → pT Unit) × (Int32 → pMem → pT Unit) × (Int32 → pMem → pT Unit) × (Int32 → pMem → pT Unit) => C_108 p1 P.1 P.2.1 P.2.2.1 P.2.2.2) (T := fun P => P.2.2.2 x2 M) eU_inj ((fun _ _ _ _ => True), (fun _ _ _ _ => True), (fun _ _ _ _ => True), (fun _ _ _ _ => True)) ?_ (fun P hP => (K_108 hS P.1 P.2.1 P.2.2.1 P.2.2.2 hP f).2.2.2 _ _ H)
  exact ⟨(fun _ _ _ _ _ => trivial), (fun _ _ _ _ _ => trivial), (fun _ _ _ _ _ => trivial), (fun _ _ _ _ _ => trivial)⟩
theorem D_108_ok {X : aX} {F d : Nat} {K : Nat → aK} (hS : pS K) {p1 : Int32} {M : pMem} {out : Option Value × aH} (H : aM X F d 108 [.ref 188, .int p1] (pH K M) = some out) : pG eU K out (D_108 p1 M) := by
  obtain ⟨d', g0, _, H⟩ := pEnt (n := 3) (ls := [.ref 188, .int p1, aD]) (mcb_108 rfl) (by decide +kernel) rfl H
  unfold D_108
  replace H := pRun (ls' := [.ref 188, .int p1, aD]) (st' := [.int p1, .ref 188]) 2 rfl H
  obtain ⟨M1, eM1, H⟩ := pPutN (j := 69) rfl H
  refine pG_put (M2 := M1) eM1 ?_
  replace H := pRun (ls' := [.ref 188, .int p1, aD]) (st' := [.int (kI 0), .ref 188]) 2 rfl H
  obtain ⟨M2, eM2, H⟩ := pPutN (j := 68) rfl H
  refine pG_put (M2 := M2) eM2 ?_
  replace H := pRun (ls' := [.ref 188, .int p1, aD]) (st' := [.ref 188, .ref 188, .ref 188]) 3 rfl H
  replace H := pGetN (v := M2 188 1) rfl (by decide) H
  obtain ⟨rv, h1, hc, H⟩ := pCalV 107 1 188 (as := [.int (M2 188 1)]) (rest := [.ref 188]) rfl (by decide) (by decide +kernel) rfl rfl H
  obtain ⟨v1, M3, hD, H⟩ := pUseI (D_107_ok hS hc) H
  refine pG_call (x := v1) (M1 := M3) hD ?_
  obtain ⟨M4, eM4, H⟩ := pPutN (j := 1) rfl H
  refine pG_put (M2 := M4) eM4 ?_
  replace H := pRun (ls' := [.ref 188, .int p1, aD]) (st' := [.ref 188, .ref 188, .ref 188]) 3 rfl H
  replace H := pGetN (v := M4 188 3) rfl (by decide) H
  obtain ⟨rv, h1, hc, H⟩ := pCalV 107 1 188 (as := [.int (M4 188 3)]) (rest := [.ref 188]) rfl (by decide) (by decide +kernel) rfl rfl H
  obtain ⟨v2, M5, hD, H⟩ := pUseI (D_107_ok hS hc) H
  refine pG_call (x := v2) (M1 := M5) hD ?_
  obtain ⟨M6, eM6, H⟩ := pPutN (j := 3) rfl H
  refine pG_put (M2 := M6) eM6 ?_
  replace H := pRun (ls' := [.ref 188, .int p1, aD]) (st' := [.ref 188, .ref 188, .ref 188]) 3 rfl H
  replace H := pGetN (v := M6 188 4) rfl (by decide) H
  obtain ⟨rv, h1, hc, H⟩ := pCalV 107 1 188 (as := [.int (M6 188 4)]) (rest := [.ref 188]) rfl (by decide) (by decide +kernel) rfl rfl H
  obtain ⟨v3, M7, hD, H⟩ := pUseI (D_107_ok hS hc) H
  refine pG_call (x := v3) (M1 := M7) hD ?_
  obtain ⟨M8, eM8, H⟩ := pPutN (j := 4) rfl H
  refine pG_put (M2 := M8) eM8 ?_
  replace H := pRun (ls' := [.ref 188, .int p1, aD]) (st' := [.ref 188, .ref 188, .ref 188]) 3 rfl H
  replace H := pGetN (v := M8 188 17) rfl (by decide) H
  obtain ⟨rv, h1, hc, H⟩ := pCalV 107 1 188 (as := [.int (M8 188 17)]) (rest := [.ref 188]) rfl (by decide) (by decide +kernel) rfl rfl H
  obtain ⟨v4, M9, hD, H⟩ := pUseI (D_107_ok hS hc) H
  refine pG_call (x := v4) (M1 := M9) hD ?_
  obtain ⟨M10, eM10, H⟩ := pPutN (j := 17) rfl H
  refine pG_put (M2 := M10) eM10 ?_
  replace H := pRun (ls' := [.ref 188, .int p1, aD]) (st' := [.ref 188, .ref 188, .ref 188]) 3 rfl H
  replace H := pGetN (v := M10 188 18) rfl (by decide) H
  obtain ⟨rv, h1, hc, H⟩ := pCalV 107 1 188 (as := [.int (M10 188 18)]) (rest := [.ref 188]) rfl (by decide) (by decide +kernel) rfl rfl H
  obtain ⟨v5, M11, hD, H⟩ := pUseI (D_107_ok hS hc) H
  refine pG_call (x := v5) (M1 := M11) hD ?_
  obtain ⟨M12, eM12, H⟩ := pPutN (j := 18) rfl H
  refine pG_put (M2 := M12) eM12 ?_
  replace H := pRun (ls' := [.ref 188, .int p1, aD]) (st' := [.ref 188, .ref 188, .ref 188]) 3 rfl H
  replace H := pGetN (v := M12 188 19) rfl (by decide) H
  obtain ⟨rv, h1, hc, H⟩ := pCalV 107 1 188 (as := [.int (M12 188 19)]) (rest := [.ref 188]) rfl (by decide) (by decide +kernel) rfl rfl H
  obtain ⟨v6, M13, hD, H⟩ := pUseI (D_107_ok hS hc) H
  refine pG_call (x := v6) (M1 := M13) hD ?_
  obtain ⟨M14, eM14, H⟩ := pPutN (j := 19) rfl H
  refine pG_put (M2 := M14) eM14 ?_
  replace H := pRun (ls' := [.ref 188, .int p1, aD]) (st' := [.ref 188, .ref 188, .ref 188]) 3 rfl H
  replace H := pGetN (v := M14 188 20) rfl (by decide) H
  obtain ⟨rv, h1, hc, H⟩ := pCalV 107 1 188 (as := [.int (M14 188 20)]) (rest := [.ref 188]) rfl (by decide) (by decide +kernel) rfl rfl H
  obtain ⟨v7, M15, hD, H⟩ := pUseI (D_107_ok hS hc) H
  refine pG_call (x := v7) (M1 := M15) hD ?_
  obtain ⟨M16, eM16, H⟩ := pPutN (j := 20) rfl H
  refine pG_put (M2 := M16) eM16 ?_
  replace H := pRun (ls' := [.ref 188, .int p1, aD]) (st' := [.ref 188, .ref 188, .ref 188]) 3 rfl H
  replace H := pGetN (v := M16 188 21) rfl (by decide) H
  obtain ⟨rv, h1, hc, H⟩ := pCalV 107 1 188 (as := [.int (M16 188 21)]) (rest := [.ref 188]) rfl (by decide) (by decide +kernel) rfl rfl H
  obtain ⟨v8, M17, hD, H⟩ := pUseI (D_107_ok hS hc) H
  refine pG_call (x := v8) (M1 := M17) hD ?_
  obtain ⟨M18, eM18, H⟩ := pPutN (j := 21) rfl H
  refine pG_put (M2 := M18) eM18 ?_
  replace H := pRun (ls' := [.ref 188, .int p1, .int (kI 0)]) (st' := []) 2 rfl H
  obtain ⟨g0, _, H⟩ := pFall (mcb_108 rfl) H
  exact L_108_1_ok hS  H
def l_108 : List (Nat × Nat) := [(188, 69), (188, 68), (222, 999), (188, 1), (188, 3), (188, 4), (188, 17), (188, 18), (188, 19), (188, 20), (188, 21), (196, 999), (197, 999), (198, 999), (199, 999), (200, 999), (191, 999), (192, 999), (194, 999), (201, 999)]
theorem FC_108 {p1 : Int32} : C_108 p1 (fun _ M _ N => pFr (l_108) M N) (fun _ M _ N => pFr (l_108) M N) (fun _ M _ N => pFr (l_108) M N) (fun _ M _ N => pFr (l_108) M N) := ⟨fun x2 M => show pTf (l_108) M (S_108_1 p1 _ _ _ _ x2 M) from (tf_if (tf_jump pFr_refl) (tf_gd fun g2 => (tf_call pFr_refl (fun _ _ h => F_107 h) [1, 2] rfl fun _ M1 f1 => (tf_gd fun g3 => (tf_putA f1 11 rfl fun M2 f2 => (tf_gd fun g4 => (tf_call f2 (fun _ _ h => F_107 h) [1, 2] rfl fun _ M3 f3 => (tf_gd fun g5 => (tf_putA f3 12 rfl fun M4 f4 => (tf_gd fun g6 => (tf_call f4 (fun _ _ h => F_107 h) [1, 2] rfl fun _ M5 f5 => (tf_gd fun g7 => (tf_putA f5 13 rfl fun M6 f6 => (tf_gd fun g8 => (tf_call f6 (fun _ _ h => F_107 h) [1, 2] rfl fun _ M7 f7 => (tf_gd fun g9 => (tf_putA f7 14 rfl fun M8 f8 => (tf_gd fun g10 => (tf_call f8 (fun _ _ h => F_107 h) [1, 2] rfl fun _ M9 f9 => (tf_gd fun g11 => (tf_putA f9 15 rfl fun M10 f10 => (tf_jump f10)))))))))))))))))))))), fun x2 M => show pTf (l_108) M (S_108_4 p1 _ _ _ _ x2 M) from (tf_if (tf_jump pFr_refl) (tf_gd fun g2 => (tf_call pFr_refl (fun _ _ h => F_107 h) [1, 2] rfl fun _ M1 f1 => (tf_gd fun g3 => (tf_putA f1 16 rfl fun M2 f2 => (tf_gd fun g4 => (tf_call f2 (fun _ _ h => F_107 h) [1, 2] rfl fun _ M3 f3 => (tf_gd fun g5 => (tf_putA f3 17 rfl fun M4 f4 => (tf_jump f4)))))))))), fun x2 M => show pTf (l_108) M (S_108_7 p1 _ _ _ _ x2 M) from (tf_if (tf_jump pFr_refl) (tf_gd fun g2 => (tf_call pFr_refl (fun _ _ h => F_107 h) [1, 2] rfl fun _ M1 f1 => (tf_gd fun g3 => (tf_putA f1 18 rfl fun M2 f2 => (tf_jump f2)))))), fun x2 M => show pTf (l_108) M (S_108_10 p1 _ _ _ _ x2 M) from (tf_if (tf_ret pFr_refl) (tf_gd fun g2 => (tf_call pFr_refl (fun _ _ h => F_107 h) [1, 2] rfl fun _ M1 f1 => (tf_gd fun g3 => (tf_putA f1 19 rfl fun M2 f2 => (tf_jump f2))))))⟩
theorem F_108 {p1 : Int32} {M : pMem} {v : Unit} {N : pMem} (h : D_108 p1 M v N) : pFr (l_108) M N :=
  (show pTf (l_108) M (D_108 p1 M) from (tf_put pFr_refl 0 rfl fun M1 f1 => (tf_put f1 1 rfl fun M2 f2 => (tf_call f2 (fun _ _ h => F_107 h) [1, 2] rfl fun _ M3 f3 => (tf_put f3 3 rfl fun M4 f4 => (tf_call f4 (fun _ _ h => F_107 h) [1, 2] rfl fun _ M5 f5 => (tf_put f5 4 rfl fun M6 f6 => (tf_call f6 (fun _ _ h => F_107 h) [1, 2] rfl fun _ M7 f7 => (tf_put f7 5 rfl fun M8 f8 => (tf_call f8 (fun _ _ h => F_107 h) [1, 2] rfl fun _ M9 f9 => (tf_put f9 6 rfl fun M10 f10 => (tf_call f10 (fun _ _ h => F_107 h) [1, 2] rfl fun _ M11 f11 => (tf_put f11 7 rfl fun M12 f12 => (tf_call f12 (fun _ _ h => F_107 h) [1, 2] rfl fun _ M13 f13 => (tf_put f13 8 rfl fun M14 f14 => (tf_call f14 (fun _ _ h => F_107 h) [1, 2] rfl fun _ M15 f15 => (tf_put f15 9 rfl fun M16 f16 => (tf_call f16 (fun _ _ h => F_107 h) [1, 2] rfl fun _ M17 f17 => (tf_put f17 10 rfl fun M18 f18 => (tf_jumpL (fun _ M _ N => pFr (l_108) M N, fun _ M _ N => pFr (l_108) M N, fun _ M _ N => pFr (l_108) M N, fun _ M _ N => pFr (l_108) M N) (FC_108) rfl f18)))))))))))))))))))) v N h
/-- TwoCampsModel.led(IIZI)I -/
def D_110 (p1 : Int32) (p2 : Int32) (p3 : Int32) (p4 : Int32) (M : pMem) : pT Int32 := tPut (aPut M 188 0 (kI 0)) fun M1 => tIf ((f_109 p1) = 0) (tRet (kI (-100)) M1) (tIf ((f_109 p2) = 0) (tRet (kI (-100)) M1) (tIf (¬ (f_42 p4 (kI 0) (kI 6)) = 0) (tCall (D_108 (kI 1) M1) fun _ M2 => tPut (aPut M2 188 4 p2) fun M3 => tCall (D_105 p1 p3 M3) fun _ M4 => tCall (D_55 M4) fun v3 M5 => tCall (D_108 (kI 0) M5) fun _ M6 => tIf (¬ p4 = 0) (tIf (¬ p4 = (kI 1)) (tIf (¬ p4 = (kI 2)) (tIf (¬ p4 = (kI 3)) (tIf (¬ p4 = (kI 4)) (tIf (¬ p4 = (kI 5)) (tRet (M6 188 60) M6) (tRet (M6 188 65) M6)) (tRet (M6 188 64) M6)) (tRet (M6 188 63) M6)) (tRet v3 M6)) (tRet (M6 188 62) M6)) (tRet (M6 188 61) M6)) (tRet (kI (-100)) M1)))
theorem D_110_ok {X : aX} {F d : Nat} {K : Nat → aK} (hS : pS K) {p1 : Int32} {p2 : Int32} {p3 : Int32} {p4 : Int32} {M : pMem} {out : Option Value × aH} (H : aM X F d 110 [.ref 188, .int p1, .int p2, .int p3, .int p4] (pH K M) = some out) : pG eI K out (D_110 p1 p2 p3 p4 M) := by
  obtain ⟨d', g0, _, H⟩ := pEnt (n := 6) (ls := [.ref 188, .int p1, .int p2, .int p3, .int p4, aD]) (mcb_110 rfl) (by decide +kernel) rfl H
  unfold D_110
  replace H := pRun (ls' := [.ref 188, .int p1, .int p2, .int p3, .int p4, aD]) (st' := [.int (kI 0), .ref 188]) 2 rfl H
  obtain ⟨M1, eM1, H⟩ := pPutN (j := 0) rfl H
  refine pG_put (M2 := M1) eM1 ?_
  replace H := pRun (ls' := [.ref 188, .int p1, .int p2, .int p3, .int p4, aD]) (st' := [.int p1, .ref 188]) 2 rfl H
  obtain ⟨rv, h1, hc, H⟩ := pCalV 109 1 188 (as := [.int p1]) (rest := []) rfl (by decide) (by decide +kernel) rfl rfl H
  replace H := pUseF (f_109_ok hS hc) H
  rcases pIf0 (n1 := 3) rfl (mcb_110 rfl) (mcb_110 rfl) H with ⟨g1, g0, _, H⟩ | ⟨g1, g0, _, H⟩
  · refine pG_pos (c := (f_109 p1) = 0) g1 ?_
    replace H := pRun (ls' := [.ref 188, .int p1, .int p2, .int p3, .int p4, aD]) (st' := [.int (kI (-100))]) 1 rfl H
    exact pG_ret (pRetI H)
  · refine pG_neg (c := (f_109 p1) = 0) g1 ?_
    replace H := pRun (ls' := [.ref 188, .int p1, .int p2, .int p3, .int p4, aD]) (st' := [.int p2, .ref 188]) 2 rfl H
    obtain ⟨rv, h1, hc, H⟩ := pCalV 109 1 188 (as := [.int p2]) (rest := []) rfl (by decide) (by decide +kernel) rfl rfl H
    replace H := pUseF (f_109_ok hS hc) H
    rcases pIf0 (n1 := 3) rfl (mcb_110 rfl) (mcb_110 rfl) H with ⟨g2, g0, _, H⟩ | ⟨g2, g0, _, H⟩
    · refine pG_pos (c := (f_109 p2) = 0) g2 ?_
      replace H := pRun (ls' := [.ref 188, .int p1, .int p2, .int p3, .int p4, aD]) (st' := [.int (kI (-100))]) 1 rfl H
      exact pG_ret (pRetI H)
    · refine pG_neg (c := (f_109 p2) = 0) g2 ?_
      replace H := pRun (ls' := [.ref 188, .int p1, .int p2, .int p3, .int p4, aD]) (st' := [.int (kI 6), .int (kI 0), .int p4, .ref 188]) 4 rfl H
      obtain ⟨rv, h1, hc, H⟩ := pCalV 42 3 188 (as := [.int p4, .int (kI 0), .int (kI 6)]) (rest := []) rfl (by decide) (by decide +kernel) rfl rfl H
      replace H := pUseF (f_42_ok hS hc) H
      rcases pIf0 (n1 := 4) rfl (mcb_110 rfl) (mcb_110 rfl) H with ⟨g3, g0, _, H⟩ | ⟨g3, g0, _, H⟩
      · refine pG_pos (c := ¬ (f_42 p4 (kI 0) (kI 6)) = 0) g3 ?_
        replace H := pRun (ls' := [.ref 188, .int p1, .int p2, .int p3, .int p4, aD]) (st' := [.int (kI 1), .ref 188]) 2 rfl H
        obtain ⟨rv, h1, hc, H⟩ := pCalV 108 1 188 (as := [.int (kI 1)]) (rest := []) rfl (by decide) (by decide +kernel) rfl rfl H
        obtain ⟨v1, M2, hD, H⟩ := pUseU (D_108_ok hS hc) H
        refine pG_call (x := v1) (M1 := M2) hD ?_
        replace H := pRun (ls' := [.ref 188, .int p1, .int p2, .int p3, .int p4, aD]) (st' := [.int p2, .ref 188]) 2 rfl H
        obtain ⟨M3, eM3, H⟩ := pPutN (j := 4) rfl H
        refine pG_put (M2 := M3) eM3 ?_
        replace H := pRun (ls' := [.ref 188, .int p1, .int p2, .int p3, .int p4, aD]) (st' := [.int p3, .int p1, .ref 188]) 3 rfl H
        obtain ⟨rv, h1, hc, H⟩ := pCalV 105 2 188 (as := [.int p1, .int p3]) (rest := []) rfl (by decide) (by decide +kernel) rfl rfl H
        obtain ⟨v2, M4, hD, H⟩ := pUseU (D_105_ok hS hc) H
        refine pG_call (x := v2) (M1 := M4) hD ?_
        replace H := pRun (ls' := [.ref 188, .int p1, .int p2, .int p3, .int p4, aD]) (st' := [.ref 188]) 1 rfl H
        obtain ⟨rv, h1, hc, H⟩ := pCalV 55 0 188 (as := []) (rest := []) rfl (by decide) (by decide +kernel) rfl rfl H
        obtain ⟨v3, M5, hD, H⟩ := pUseI (D_55_ok hS hc) H
        refine pG_call (x := v3) (M1 := M5) hD ?_
        replace H := pRun (ls' := [.ref 188, .int p1, .int p2, .int p3, .int p4, .int v3]) (st' := [.int (kI 0), .ref 188]) 3 rfl H
        obtain ⟨rv, h1, hc, H⟩ := pCalV 108 1 188 (as := [.int (kI 0)]) (rest := []) rfl (by decide) (by decide +kernel) rfl rfl H
        obtain ⟨v4, M6, hD, H⟩ := pUseU (D_108_ok hS hc) H
        refine pG_call (x := v4) (M1 := M6) hD ?_
        replace H := pRun (ls' := [.ref 188, .int p1, .int p2, .int p3, .int p4, .int v3]) (st' := [.int p4]) 1 rfl H
        rcases pIf0 (n1 := 6) rfl (mcb_110 rfl) (mcb_110 rfl) H with ⟨g4, g0, _, H⟩ | ⟨g4, g0, _, H⟩
        · refine pG_pos (c := ¬ p4 = 0) g4 ?_
          replace H := pRun (ls' := [.ref 188, .int p1, .int p2, .int p3, .int p4, .int v3]) (st' := [.int (kI 1), .int p4]) 2 rfl H
          rcases pIfc (n1 := 8) rfl (mcb_110 rfl) (mcb_110 rfl) H with ⟨g5, g0, _, H⟩ | ⟨g5, g0, _, H⟩
          · refine pG_pos (c := ¬ p4 = (kI 1)) g5 ?_
            replace H := pRun (ls' := [.ref 188, .int p1, .int p2, .int p3, .int p4, .int v3]) (st' := [.int (kI 2), .int p4]) 2 rfl H
            rcases pIfc (n1 := 10) rfl (mcb_110 rfl) (mcb_110 rfl) H with ⟨g6, g0, _, H⟩ | ⟨g6, g0, _, H⟩
            · refine pG_pos (c := ¬ p4 = (kI 2)) g6 ?_
              replace H := pRun (ls' := [.ref 188, .int p1, .int p2, .int p3, .int p4, .int v3]) (st' := [.int (kI 3), .int p4]) 2 rfl H
              rcases pIfc (n1 := 12) rfl (mcb_110 rfl) (mcb_110 rfl) H with ⟨g7, g0, _, H⟩ | ⟨g7, g0, _, H⟩
              · refine pG_pos (c := ¬ p4 = (kI 3)) g7 ?_
                replace H := pRun (ls' := [.ref 188, .int p1, .int p2, .int p3, .int p4, .int v3]) (st' := [.int (kI 4), .int p4]) 2 rfl H
                rcases pIfc (n1 := 14) rfl (mcb_110 rfl) (mcb_110 rfl) H with ⟨g8, g0, _, H⟩ | ⟨g8, g0, _, H⟩
                · refine pG_pos (c := ¬ p4 = (kI 4)) g8 ?_
                  replace H := pRun (ls' := [.ref 188, .int p1, .int p2, .int p3, .int p4, .int v3]) (st' := [.int (kI 5), .int p4]) 2 rfl H
                  rcases pIfc (n1 := 16) rfl (mcb_110 rfl) (mcb_110 rfl) H with ⟨g9, g0, _, H⟩ | ⟨g9, g0, _, H⟩
                  · refine pG_pos (c := ¬ p4 = (kI 5)) g9 ?_
                    replace H := pRun (ls' := [.ref 188, .int p1, .int p2, .int p3, .int p4, .int v3]) (st' := [.ref 188]) 1 rfl H
                    replace H := pGetN (v := M6 188 60) rfl (by decide) H
                    obtain ⟨g0, _, H⟩ := pFall (mcb_110 rfl) H
                    exact pG_ret (pRetI H)
                  · refine pG_neg (c := ¬ p4 = (kI 5)) g9 ?_
                    replace H := pRun (ls' := [.ref 188, .int p1, .int p2, .int p3, .int p4, .int v3]) (st' := [.ref 188]) 1 rfl H
                    replace H := pGetN (v := M6 188 65) rfl (by decide) H
                    obtain ⟨g0, _, H⟩ := pGo (n1 := 17) rfl (mcb_110 rfl) H
                    exact pG_ret (pRetI H)
                · refine pG_neg (c := ¬ p4 = (kI 4)) g8 ?_
                  replace H := pRun (ls' := [.ref 188, .int p1, .int p2, .int p3, .int p4, .int v3]) (st' := [.ref 188]) 1 rfl H
                  replace H := pGetN (v := M6 188 64) rfl (by decide) H
                  exact pG_ret (pRetI H)
              · refine pG_neg (c := ¬ p4 = (kI 3)) g7 ?_
                replace H := pRun (ls' := [.ref 188, .int p1, .int p2, .int p3, .int p4, .int v3]) (st' := [.ref 188]) 1 rfl H
                replace H := pGetN (v := M6 188 63) rfl (by decide) H
                exact pG_ret (pRetI H)
            · refine pG_neg (c := ¬ p4 = (kI 2)) g6 ?_
              replace H := pRun (ls' := [.ref 188, .int p1, .int p2, .int p3, .int p4, .int v3]) (st' := [.int v3]) 1 rfl H
              exact pG_ret (pRetI H)
          · refine pG_neg (c := ¬ p4 = (kI 1)) g5 ?_
            replace H := pRun (ls' := [.ref 188, .int p1, .int p2, .int p3, .int p4, .int v3]) (st' := [.ref 188]) 1 rfl H
            replace H := pGetN (v := M6 188 62) rfl (by decide) H
            exact pG_ret (pRetI H)
        · refine pG_neg (c := ¬ p4 = 0) g4 ?_
          replace H := pRun (ls' := [.ref 188, .int p1, .int p2, .int p3, .int p4, .int v3]) (st' := [.ref 188]) 1 rfl H
          replace H := pGetN (v := M6 188 61) rfl (by decide) H
          exact pG_ret (pRetI H)
      · refine pG_neg (c := ¬ (f_42 p4 (kI 0) (kI 6)) = 0) g3 ?_
        replace H := pRun (ls' := [.ref 188, .int p1, .int p2, .int p3, .int p4, aD]) (st' := [.int (kI (-100))]) 1 rfl H
        exact pG_ret (pRetI H)
def l_110 : List (Nat × Nat) := [(188, 69), (188, 68), (222, 999), (188, 1), (188, 3), (188, 4), (188, 17), (188, 18), (188, 19), (188, 20), (188, 21), (196, 999), (197, 999), (198, 999), (199, 999), (200, 999), (191, 999), (192, 999), (194, 999), (201, 999), (188, 60), (188, 61), (188, 62), (188, 63), (188, 64), (188, 65), (188, 66), (188, 54), (188, 55), (188, 57), (188, 56)]
theorem F_110 {p1 : Int32} {p2 : Int32} {p3 : Int32} {p4 : Int32} {M : pMem} {v : Int32} {N : pMem} (h : D_110 p1 p2 p3 p4 M v N) : pFr (l_110) M N :=
  (show pTf (l_110) M (D_110 p1 p2 p3 p4 M) from (tf_putS1 pFr_refl rfl fun M1 f1 => (tf_if (tf_ret f1) (tf_if (tf_ret f1) (tf_if (tf_call f1 (fun _ _ h => F_108 h) [0, 1, 2, 3, 4, 5, 6, 7, 8, 9, 10, 11, 12, 13, 14, 15, 16, 17, 18, 19] rfl fun _ M2 f2 => (tf_put f2 5 rfl fun M3 f3 => (tf_call f3 (fun _ _ h => F_105 h) [20, 21, 22, 23, 24, 25, 26, 6, 7, 8, 9, 10, 18, 27, 28, 12, 13, 29, 16, 30, 11, 17, 19, 4, 3, 14, 15] rfl fun _ M4 f4 => (tf_call f4 (fun _ _ h => F_55 h) [] rfl fun _ M5 f5 => (tf_call f5 (fun _ _ h => F_108 h) [0, 1, 2, 3, 4, 5, 6, 7, 8, 9, 10, 11, 12, 13, 14, 15, 16, 17, 18, 19] rfl fun _ M6 f6 => (tf_if (tf_if (tf_if (tf_if (tf_if (tf_if (tf_ret f6) (tf_ret f6)) (tf_ret f6)) (tf_ret f6)) (tf_ret f6)) (tf_ret f6)) (tf_ret f6))))))) (tf_ret f1)))))) v N h
/-- TwoCampsModel.least(II)I -/
def S_111_4 (p1 : Int32) (p2 : Int32) (P4 : Int32 → pMem → pT Int32) (P7 : Int32 → Int32 → pMem → pT Int32) (x3 : Int32) (M : pMem) : pT Int32 := tIf (p2 ≤ x3) (P7 (kI (-1)) (kI 1) M) (tCall (D_101 (kI 0) (kI 0) (kI (-1)) M) fun _ M1 => P4 (x3 + kI 1) M1)
def S_111_7 (p1 : Int32) (p2 : Int32) (P4 : Int32 → pMem → pT Int32) (P7 : Int32 → Int32 → pMem → pT Int32) (x3 : Int32) (x4 : Int32) (M : pMem) : pT Int32 := tIf ((kI 20) < x4) (tCall (D_108 (kI 0) M) fun _ M1 => tRet x3 M1) (tIf (¬ x3 = (kI (-1))) (tCall (D_108 (kI 0) M) fun _ M1 => tRet x3 M1) (tCall (D_101 (kI 1) (kI 5) (kI (-1)) M) fun _ M1 => tIf ((M1 188 54) = 0) (P7 x3 (x4 + kI 1) M1) (P7 x4 (x4 + kI 1) M1)))
def C_111 (p1 : Int32) (p2 : Int32) (P4 : Int32 → pMem → pT Int32) (P7 : Int32 → Int32 → pMem → pT Int32) : Prop := (∀ (x3 : Int32) M v N, S_111_4 p1 p2 P4 P7 x3 M v N → P4 x3 M v N) ∧ (∀ (x3 : Int32) (x4 : Int32) M v N, S_111_7 p1 p2 P4 P7 x3 x4 M v N → P7 x3 x4 M v N)
def L_111_4 (p1 : Int32) (p2 : Int32) (x3 : Int32) (M : pMem) : pT Int32 := fun v N => ∀ P : (Int32 → pMem → pT Int32) × (Int32 → Int32 → pMem → pT Int32), C_111 p1 p2 P.1 P.2 → P.1 x3 M v N
def L_111_7 (p1 : Int32) (p2 : Int32) (x3 : Int32) (x4 : Int32) (M : pMem) : pT Int32 := fun v N => ∀ P : (Int32 → pMem → pT Int32) × (Int32 → Int32 → pMem → pT Int32), C_111 p1 p2 P.1 P.2 → P.2 x3 x4 M v N
def D_111 (p1 : Int32) (p2 : Int32) (M : pMem) : pT Int32 := tPut (aPut M 188 0 (kI 0)) fun M1 => tIf ((f_109 p1) = 0) (tRet (kI (-1)) M1) (tIf (¬ (f_42 p2 (kI 0) (kI 9)) = 0) (tCall (D_108 (kI 1) M1) fun _ M2 => tPut (aPut M2 188 4 p1) fun M3 => L_111_4 p1 p2 (kI 0) M3) (tRet (kI (-1)) M1))
theorem K_111 {X : aX} {F d : Nat} {K : Nat → aK} (hS : pS K) {p1 : Int32} {p2 : Int32} {out : Option Value × aH} (P4 : Int32 → pMem → pT Int32) (P7 : Int32 → Int32 → pMem → pT Int32) (hC : C_111 p1 p2 P4 P7) : ∀ f, (∀ (x3 : Int32) (u4 : Value) M, pm X F d 111 f 4 [.iload 3, .iload 2, .if_icmp .ge 6] [.ref 188, .int p1, .int p2, .int x3, u4] [] (pH K M) out → pG eI K out (P4 x3 M)) ∧ (∀ (x3 : Int32) (x4 : Int32) M, pm X F d 111 f 7 [.iload 4, .bipush 20, .if_icmp .gt 12] [.ref 188, .int p1, .int p2, .int x3, .int x4] [] (pH K M) out → pG eI K out (P7 x3 x4 M)) := by
  intro f
  induction f using Nat.strongRecOn with
  | _ f ih =>
    refine ⟨?_, ?_⟩
    · intro x3 u4 M H
      refine pG_mono (fun v N h => hC.1 x3 M v N h) ?_
      unfold S_111_4
      replace H := pRun (ls' := [.ref 188, .int p1, .int p2, .int x3, u4]) (st' := [.int p2, .int x3]) 2 rfl H
      rcases pIfc (n1 := 6) rfl (mcb_111 rfl) (mcb_111 rfl) H with ⟨g1, g0, _, H⟩ | ⟨g1, g0, _, H⟩
      · refine pG_pos (c := p2 ≤ x3) g1 ?_
        replace H := pRun (ls' := [.ref 188, .int p1, .int p2, .int (kI (-1)), .int (kI 1)]) (st' := []) 4 rfl H
        obtain ⟨g0, _, H⟩ := pFall (mcb_111 rfl) H
        exact (ih _ (by omega)).2 _ _  _ H
      · refine pG_neg (c := p2 ≤ x3) g1 ?_
        replace H := pRun (ls' := [.ref 188, .int p1, .int p2, .int x3, u4]) (st' := [.int (kI (-1)), .int (kI 0), .int (kI 0), .ref 188]) 4 rfl H
        obtain ⟨rv, h1, hc, H⟩ := pCalV 101 3 188 (as := [.int (kI 0), .int (kI 0), .int (kI (-1))]) (rest := []) rfl (by decide) (by decide +kernel) rfl rfl H
        obtain ⟨v1, M1, hD, H⟩ := pUseU (D_101_ok hS hc) H
        refine pG_call (x := v1) (M1 := M1) hD ?_
        replace H := pRun (ls' := [.ref 188, .int p1, .int p2, .int (x3 + kI 1), u4]) (st' := []) 1 rfl H
        obtain ⟨g0, _, H⟩ := pGo (n1 := 4) rfl (mcb_111 rfl) H
        exact (ih _ (by omega)).1 _ _  _ H
    · intro x3 x4 M H
      refine pG_mono (fun v N h => hC.2 x3 x4 M v N h) ?_
      unfold S_111_7
      replace H := pRun (ls' := [.ref 188, .int p1, .int p2, .int x3, .int x4]) (st' := [.int (kI 20), .int x4]) 2 rfl H
      rcases pIfc (n1 := 12) rfl (mcb_111 rfl) (mcb_111 rfl) H with ⟨g1, g0, _, H⟩ | ⟨g1, g0, _, H⟩
      · refine pG_pos (c := (kI 20) < x4) g1 ?_
        replace H := pRun (ls' := [.ref 188, .int p1, .int p2, .int x3, .int x4]) (st' := [.int (kI 0), .ref 188]) 2 rfl H
        obtain ⟨rv, h1, hc, H⟩ := pCalV 108 1 188 (as := [.int (kI 0)]) (rest := []) rfl (by decide) (by decide +kernel) rfl rfl H
        obtain ⟨v1, M1, hD, H⟩ := pUseU (D_108_ok hS hc) H
        refine pG_call (x := v1) (M1 := M1) hD ?_
        replace H := pRun (ls' := [.ref 188, .int p1, .int p2, .int x3, .int x4]) (st' := [.int x3]) 1 rfl H
        exact pG_ret (pRetI H)
      · refine pG_neg (c := (kI 20) < x4) g1 ?_
        replace H := pRun (ls' := [.ref 188, .int p1, .int p2, .int x3, .int x4]) (st' := [.int (kI (-1)), .int x3]) 2 rfl H
        rcases pIfc (n1 := 12) rfl (mcb_111 rfl) (mcb_111 rfl) H with ⟨g2, g0, _, H⟩ | ⟨g2, g0, _, H⟩
        · refine pG_pos (c := ¬ x3 = (kI (-1))) g2 ?_
          replace H := pRun (ls' := [.ref 188, .int p1, .int p2, .int x3, .int x4]) (st' := [.int (kI 0), .ref 188]) 2 rfl H
          obtain ⟨rv, h1, hc, H⟩ := pCalV 108 1 188 (as := [.int (kI 0)]) (rest := []) rfl (by decide) (by decide +kernel) rfl rfl H
          obtain ⟨v1, M1, hD, H⟩ := pUseU (D_108_ok hS hc) H
          refine pG_call (x := v1) (M1 := M1) hD ?_
          replace H := pRun (ls' := [.ref 188, .int p1, .int p2, .int x3, .int x4]) (st' := [.int x3]) 1 rfl H
          exact pG_ret (pRetI H)
        · refine pG_neg (c := ¬ x3 = (kI (-1))) g2 ?_
          replace H := pRun (ls' := [.ref 188, .int p1, .int p2, .int x3, .int x4]) (st' := [.int (kI (-1)), .int (kI 5), .int (kI 1), .ref 188]) 4 rfl H
          obtain ⟨rv, h1, hc, H⟩ := pCalV 101 3 188 (as := [.int (kI 1), .int (kI 5), .int (kI (-1))]) (rest := []) rfl (by decide) (by decide +kernel) rfl rfl H
          obtain ⟨v1, M1, hD, H⟩ := pUseU (D_101_ok hS hc) H
          refine pG_call (x := v1) (M1 := M1) hD ?_
          replace H := pRun (ls' := [.ref 188, .int p1, .int p2, .int x3, .int x4]) (st' := [.ref 188]) 1 rfl H
          replace H := pGetN (v := M1 188 54) rfl (by decide) H
          rcases pIf0 (n1 := 11) rfl (mcb_111 rfl) (mcb_111 rfl) H with ⟨g3, g0, _, H⟩ | ⟨g3, g0, _, H⟩
          · refine pG_pos (c := (M1 188 54) = 0) g3 ?_
            replace H := pRun (ls' := [.ref 188, .int p1, .int p2, .int x3, .int (x4 + kI 1)]) (st' := []) 1 rfl H
            obtain ⟨g0, _, H⟩ := pGo (n1 := 7) rfl (mcb_111 rfl) H
            exact (ih _ (by omega)).2 _ _  _ H
          · refine pG_neg (c := (M1 188 54) = 0) g3 ?_
            replace H := pRun (ls' := [.ref 188, .int p1, .int p2, .int x4, .int x4]) (st' := []) 2 rfl H
            obtain ⟨g0, _, H⟩ := pFall (mcb_111 rfl) H
            replace H := pRun (ls' := [.ref 188, .int p1, .int p2, .int x4, .int (x4 + kI 1)]) (st' := []) 1 rfl H
            obtain ⟨g0, _, H⟩ := pGo (n1 := 7) rfl (mcb_111 rfl) H
            exact (ih _ (by omega)).2 _ _  _ H
theorem L_111_4_ok {X : aX} {F d : Nat} {K : Nat → aK} (hS : pS K) {p1 : Int32} {p2 : Int32} {out : Option Value × aH} {f : Nat} {x3 : Int32} {u4 : Value} {M : pMem} (H : pm X F d 111 f 4 [.iload 3, .iload 2, .if_icmp .ge 6] [.ref 188, .int p1, .int p2, .int x3, u4] [] (pH K M) out) : pG eI K out (L_111_4 p1 p2 x3 M) := by
  refine pG_all (C := fun P : (Int32 → pMem → pT Int32) × (Int32 → Int32 → pMem → pT Int32) => C_111 p1 p2 P.1 P.2) (T := fun P => P.1 x3 M) eI_inj ((fun _ _ _ _ => True), (fun _ _ _ _ _ => True)) ?_ (fun P hP => (K_111 hS P.1 P.2 hP f).1 _ _ _ H)
  exact ⟨(fun _ _ _ _ _ => trivial), (fun _ _ _ _ _ _ => trivial)⟩
theorem L_111_7_ok {X : aX} {F d : Nat} {K : Nat → aK} (hS : pS K) {p1 : Int32} {p2 : Int32} {out : Option Value × aH} {f : Nat} {x3 : Int32} {x4 : Int32} {M : pMem} (H : pm X F d 111 f 7 [.iload 4, .bipush 20, .if_icmp .gt 12] [.ref 188, .int p1, .int p2, .int x3, .int x4] [] (pH K M) out) : pG eI K out (L_111_7 p1 p2 x3 x4 M) := by
  refine pG_all (C := fun P : (Int32 → pMem → pT Int32) × (Int32 → Int32 → pMem → pT Int32) => C_111 p1 p2 P.1 P.2) (T := fun P => P.2 x3 x4 M) eI_inj ((fun _ _ _ _ => True), (fun _ _ _ _ _ => True)) ?_ (fun P hP => (K_111 hS P.1 P.2 hP f).2 _ _ _ H)
  exact ⟨(fun _ _ _ _ _ => trivial), (fun _ _ _ _ _ _ => trivial)⟩
theorem D_111_ok {X : aX} {F d : Nat} {K : Nat → aK} (hS : pS K) {p1 : Int32} {p2 : Int32} {M : pMem} {out : Option Value × aH} (H : aM X F d 111 [.ref 188, .int p1, .int p2] (pH K M) = some out) : pG eI K out (D_111 p1 p2 M) := by
  obtain ⟨d', g0, _, H⟩ := pEnt (n := 5) (ls := [.ref 188, .int p1, .int p2, aD, aD]) (mcb_111 rfl) (by decide +kernel) rfl H
  unfold D_111
  replace H := pRun (ls' := [.ref 188, .int p1, .int p2, aD, aD]) (st' := [.int (kI 0), .ref 188]) 2 rfl H
  obtain ⟨M1, eM1, H⟩ := pPutN (j := 0) rfl H
  refine pG_put (M2 := M1) eM1 ?_
  replace H := pRun (ls' := [.ref 188, .int p1, .int p2, aD, aD]) (st' := [.int p1, .ref 188]) 2 rfl H
  obtain ⟨rv, h1, hc, H⟩ := pCalV 109 1 188 (as := [.int p1]) (rest := []) rfl (by decide) (by decide +kernel) rfl rfl H
  replace H := pUseF (f_109_ok hS hc) H
  rcases pIf0 (n1 := 2) rfl (mcb_111 rfl) (mcb_111 rfl) H with ⟨g1, g0, _, H⟩ | ⟨g1, g0, _, H⟩
  · refine pG_pos (c := (f_109 p1) = 0) g1 ?_
    replace H := pRun (ls' := [.ref 188, .int p1, .int p2, aD, aD]) (st' := [.int (kI (-1))]) 1 rfl H
    exact pG_ret (pRetI H)
  · refine pG_neg (c := (f_109 p1) = 0) g1 ?_
    replace H := pRun (ls' := [.ref 188, .int p1, .int p2, aD, aD]) (st' := [.int (kI 9), .int (kI 0), .int p2, .ref 188]) 4 rfl H
    obtain ⟨rv, h1, hc, H⟩ := pCalV 42 3 188 (as := [.int p2, .int (kI 0), .int (kI 9)]) (rest := []) rfl (by decide) (by decide +kernel) rfl rfl H
    replace H := pUseF (f_42_ok hS hc) H
    rcases pIf0 (n1 := 3) rfl (mcb_111 rfl) (mcb_111 rfl) H with ⟨g2, g0, _, H⟩ | ⟨g2, g0, _, H⟩
    · refine pG_pos (c := ¬ (f_42 p2 (kI 0) (kI 9)) = 0) g2 ?_
      replace H := pRun (ls' := [.ref 188, .int p1, .int p2, aD, aD]) (st' := [.int (kI 1), .ref 188]) 2 rfl H
      obtain ⟨rv, h1, hc, H⟩ := pCalV 108 1 188 (as := [.int (kI 1)]) (rest := []) rfl (by decide) (by decide +kernel) rfl rfl H
      obtain ⟨v1, M2, hD, H⟩ := pUseU (D_108_ok hS hc) H
      refine pG_call (x := v1) (M1 := M2) hD ?_
      replace H := pRun (ls' := [.ref 188, .int p1, .int p2, aD, aD]) (st' := [.int p1, .ref 188]) 2 rfl H
      obtain ⟨M3, eM3, H⟩ := pPutN (j := 4) rfl H
      refine pG_put (M2 := M3) eM3 ?_
      replace H := pRun (ls' := [.ref 188, .int p1, .int p2, .int (kI 0), aD]) (st' := []) 2 rfl H
      obtain ⟨g0, _, H⟩ := pFall (mcb_111 rfl) H
      exact L_111_4_ok hS  H
    · refine pG_neg (c := ¬ (f_42 p2 (kI 0) (kI 9)) = 0) g2 ?_
      replace H := pRun (ls' := [.ref 188, .int p1, .int p2, aD, aD]) (st' := [.int (kI (-1))]) 1 rfl H
      exact pG_ret (pRetI H)
def l_111 : List (Nat × Nat) := [(188, 69), (188, 68), (222, 999), (188, 1), (188, 3), (188, 4), (188, 17), (188, 18), (188, 19), (188, 20), (188, 21), (196, 999), (197, 999), (198, 999), (199, 999), (200, 999), (191, 999), (192, 999), (194, 999), (201, 999), (188, 54), (188, 55), (188, 57), (188, 56)]
theorem FC_111 {p1 : Int32} {p2 : Int32} : C_111 p1 p2 (fun _ M _ N => pFr (l_111) M N) (fun _ _ M _ N => pFr (l_111) M N) := ⟨fun x3 M => show pTf (l_111) M (S_111_4 p1 p2 _ _ x3 M) from (tf_if (tf_jump pFr_refl) (tf_call pFr_refl (fun _ _ h => F_101 h) [6, 7, 8, 9, 10, 18, 20, 21, 12, 13, 22, 16, 23, 11, 17, 19, 4, 3, 14, 15] rfl fun _ M1 f1 => (tf_jump f1))), fun x3 x4 M => show pTf (l_111) M (S_111_7 p1 p2 _ _ x3 x4 M) from (tf_if (tf_call pFr_refl (fun _ _ h => F_108 h) [0, 1, 2, 3, 4, 5, 6, 7, 8, 9, 10, 11, 12, 13, 14, 15, 16, 17, 18, 19] rfl fun _ M1 f1 => (tf_ret f1)) (tf_if (tf_call pFr_refl (fun _ _ h => F_108 h) [0, 1, 2, 3, 4, 5, 6, 7, 8, 9, 10, 11, 12, 13, 14, 15, 16, 17, 18, 19] rfl fun _ M1 f1 => (tf_ret f1)) (tf_call pFr_refl (fun _ _ h => F_101 h) [6, 7, 8, 9, 10, 18, 20, 21, 12, 13, 22, 16, 23, 11, 17, 19, 4, 3, 14, 15] rfl fun _ M1 f1 => (tf_if (tf_jump f1) (tf_jump f1)))))⟩
theorem F_111 {p1 : Int32} {p2 : Int32} {M : pMem} {v : Int32} {N : pMem} (h : D_111 p1 p2 M v N) : pFr (l_111) M N :=
  (show pTf (l_111) M (D_111 p1 p2 M) from (tf_putS1 pFr_refl rfl fun M1 f1 => (tf_if (tf_ret f1) (tf_if (tf_call f1 (fun _ _ h => F_108 h) [0, 1, 2, 3, 4, 5, 6, 7, 8, 9, 10, 11, 12, 13, 14, 15, 16, 17, 18, 19] rfl fun _ M2 f2 => (tf_put f2 5 rfl fun M3 f3 => (tf_jumpL (fun _ M _ N => pFr (l_111) M N, fun _ _ M _ N => pFr (l_111) M N) (FC_111) rfl f3))) (tf_ret f1))))) v N h
/-- TwoCampsModel.back(I)I -/
def S_112_3 (p1 : Int32) (P3 : Int32 → pMem → pT Int32) (x2 : Int32) (M : pMem) : pT Int32 := tIf ((kI 30) ≤ x2) (tCall (D_55 M) fun v1 M1 => tIf (v1 < 0) (tCall (D_108 (kI 0) M1) fun _ M2 => tRet (kI (-1)) M2) (tCall (D_108 (kI 0) M1) fun _ M2 => tRet x2 M2)) (tCall (D_55 M) fun v1 M1 => tIf (0 ≤ v1) (tCall (D_55 M1) fun v2 M2 => tIf (v2 < 0) (tCall (D_108 (kI 0) M2) fun _ M3 => tRet (kI (-1)) M3) (tCall (D_108 (kI 0) M2) fun _ M3 => tRet x2 M3)) (tCall (D_101 (kI 3) (kI 0) (kI (-1)) M1) fun _ M2 => P3 (x2 + (kI 1)) M2))
def C_112 (p1 : Int32) (P3 : Int32 → pMem → pT Int32) : Prop := (∀ (x2 : Int32) M v N, S_112_3 p1 P3 x2 M v N → P3 x2 M v N)
def L_112_3 (p1 : Int32) (x2 : Int32) (M : pMem) : pT Int32 := fun v N => ∀ P : (Int32 → pMem → pT Int32), C_112 p1 P → P x2 M v N
def D_112 (p1 : Int32) (M : pMem) : pT Int32 := tPut (aPut M 188 0 (kI 0)) fun M1 => tIf (¬ (f_109 p1) = 0) (tCall (D_108 (kI 1) M1) fun _ M2 => tPut (aPut M2 188 4 p1) fun M3 => L_112_3 p1 (kI 0) M3) (tRet (kI (-1)) M1)
theorem K_112 {X : aX} {F d : Nat} {K : Nat → aK} (hS : pS K) {p1 : Int32} {out : Option Value × aH} (P3 : Int32 → pMem → pT Int32) (hC : C_112 p1 P3) : ∀ f, (∀ (x2 : Int32) (u3 : Value) M, pm X F d 112 f 3 [.iload 2, .bipush 30, .if_icmp .ge 6] [.ref 188, .int p1, .int x2, u3] [] (pH K M) out → pG eI K out (P3 x2 M)) := by
  intro f
  induction f using Nat.strongRecOn with
  | _ f ih =>
    intro x2 u3 M H
    refine pG_mono (fun v N h => hC x2 M v N h) ?_
    unfold S_112_3
    replace H := pRun (ls' := [.ref 188, .int p1, .int x2, u3]) (st' := [.int (kI 30), .int x2]) 2 rfl H
    rcases pIfc (n1 := 6) rfl (mcb_112 rfl) (mcb_112 rfl) H with ⟨g1, g0, _, H⟩ | ⟨g1, g0, _, H⟩
    · refine pG_pos (c := (kI 30) ≤ x2) g1 ?_
      replace H := pRun (ls' := [.ref 188, .int p1, .int x2, u3]) (st' := [.ref 188]) 1 rfl H
      obtain ⟨rv, h1, hc, H⟩ := pCalV 55 0 188 (as := []) (rest := []) rfl (by decide) (by decide +kernel) rfl rfl H
      obtain ⟨v1, M1, hD, H⟩ := pUseI (D_55_ok hS hc) H
      refine pG_call (x := v1) (M1 := M1) hD ?_
      rcases pIf0 (n1 := 8) rfl (mcb_112 rfl) (mcb_112 rfl) H with ⟨g2, g0, _, H⟩ | ⟨g2, g0, _, H⟩
      · refine pG_pos (c := v1 < 0) g2 ?_
        replace H := pRun (ls' := [.ref 188, .int p1, .int x2, u3]) (st' := [.int (kI 0)]) 1 rfl H
        obtain ⟨g0, _, H⟩ := pFall (mcb_112 rfl) H
        replace H := pRun (ls' := [.ref 188, .int p1, .int x2, .int (kI 0)]) (st' := [.int (kI 0), .ref 188]) 3 rfl H
        obtain ⟨rv, h1, hc, H⟩ := pCalV 108 1 188 (as := [.int (kI 0)]) (rest := []) rfl (by decide) (by decide +kernel) rfl rfl H
        obtain ⟨v2, M2, hD, H⟩ := pUseU (D_108_ok hS hc) H
        refine pG_call (x := v2) (M1 := M2) hD ?_
        replace H := pRun (ls' := [.ref 188, .int p1, .int x2, .int (kI 0)]) (st' := [.int (kI 0)]) 1 rfl H
        rcases pIf0 (n1 := 11) rfl (mcb_112 rfl) (mcb_112 rfl) H with ⟨g3, g0, _, H⟩ | ⟨g3, g0, _, H⟩
        · replace H := pRun (ls' := [.ref 188, .int p1, .int x2, .int (kI 0)]) (st' := [.int (kI (-1))]) 1 rfl H
          obtain ⟨g0, _, H⟩ := pFall (mcb_112 rfl) H
          exact pG_ret (pRetI H)
        · exact absurd (show ¬ ((kI 0) = 0) from g3) (by decide)
      · refine pG_neg (c := v1 < 0) g2 ?_
        replace H := pRun (ls' := [.ref 188, .int p1, .int x2, u3]) (st' := [.int (kI 1)]) 1 rfl H
        obtain ⟨g0, _, H⟩ := pGo (n1 := 9) rfl (mcb_112 rfl) H
        replace H := pRun (ls' := [.ref 188, .int p1, .int x2, .int (kI 1)]) (st' := [.int (kI 0), .ref 188]) 3 rfl H
        obtain ⟨rv, h1, hc, H⟩ := pCalV 108 1 188 (as := [.int (kI 0)]) (rest := []) rfl (by decide) (by decide +kernel) rfl rfl H
        obtain ⟨v2, M2, hD, H⟩ := pUseU (D_108_ok hS hc) H
        refine pG_call (x := v2) (M1 := M2) hD ?_
        replace H := pRun (ls' := [.ref 188, .int p1, .int x2, .int (kI 1)]) (st' := [.int (kI 1)]) 1 rfl H
        rcases pIf0 (n1 := 11) rfl (mcb_112 rfl) (mcb_112 rfl) H with ⟨g3, g0, _, H⟩ | ⟨g3, g0, _, H⟩
        · exact absurd (show (kI 1) = 0 from g3) (by decide)
        · replace H := pRun (ls' := [.ref 188, .int p1, .int x2, .int (kI 1)]) (st' := [.int x2]) 1 rfl H
          obtain ⟨g0, _, H⟩ := pGo (n1 := 12) rfl (mcb_112 rfl) H
          exact pG_ret (pRetI H)
    · refine pG_neg (c := (kI 30) ≤ x2) g1 ?_
      replace H := pRun (ls' := [.ref 188, .int p1, .int x2, u3]) (st' := [.ref 188]) 1 rfl H
      obtain ⟨rv, h1, hc, H⟩ := pCalV 55 0 188 (as := []) (rest := []) rfl (by decide) (by decide +kernel) rfl rfl H
      obtain ⟨v1, M1, hD, H⟩ := pUseI (D_55_ok hS hc) H
      refine pG_call (x := v1) (M1 := M1) hD ?_
      rcases pIf0 (n1 := 6) rfl (mcb_112 rfl) (mcb_112 rfl) H with ⟨g2, g0, _, H⟩ | ⟨g2, g0, _, H⟩
      · refine pG_pos (c := 0 ≤ v1) g2 ?_
        replace H := pRun (ls' := [.ref 188, .int p1, .int x2, u3]) (st' := [.ref 188]) 1 rfl H
        obtain ⟨rv, h1, hc, H⟩ := pCalV 55 0 188 (as := []) (rest := []) rfl (by decide) (by decide +kernel) rfl rfl H
        obtain ⟨v2, M2, hD, H⟩ := pUseI (D_55_ok hS hc) H
        refine pG_call (x := v2) (M1 := M2) hD ?_
        rcases pIf0 (n1 := 8) rfl (mcb_112 rfl) (mcb_112 rfl) H with ⟨g3, g0, _, H⟩ | ⟨g3, g0, _, H⟩
        · refine pG_pos (c := v2 < 0) g3 ?_
          replace H := pRun (ls' := [.ref 188, .int p1, .int x2, u3]) (st' := [.int (kI 0)]) 1 rfl H
          obtain ⟨g0, _, H⟩ := pFall (mcb_112 rfl) H
          replace H := pRun (ls' := [.ref 188, .int p1, .int x2, .int (kI 0)]) (st' := [.int (kI 0), .ref 188]) 3 rfl H
          obtain ⟨rv, h1, hc, H⟩ := pCalV 108 1 188 (as := [.int (kI 0)]) (rest := []) rfl (by decide) (by decide +kernel) rfl rfl H
          obtain ⟨v3, M3, hD, H⟩ := pUseU (D_108_ok hS hc) H
          refine pG_call (x := v3) (M1 := M3) hD ?_
          replace H := pRun (ls' := [.ref 188, .int p1, .int x2, .int (kI 0)]) (st' := [.int (kI 0)]) 1 rfl H
          rcases pIf0 (n1 := 11) rfl (mcb_112 rfl) (mcb_112 rfl) H with ⟨g4, g0, _, H⟩ | ⟨g4, g0, _, H⟩
          · replace H := pRun (ls' := [.ref 188, .int p1, .int x2, .int (kI 0)]) (st' := [.int (kI (-1))]) 1 rfl H
            obtain ⟨g0, _, H⟩ := pFall (mcb_112 rfl) H
            exact pG_ret (pRetI H)
          · exact absurd (show ¬ ((kI 0) = 0) from g4) (by decide)
        · refine pG_neg (c := v2 < 0) g3 ?_
          replace H := pRun (ls' := [.ref 188, .int p1, .int x2, u3]) (st' := [.int (kI 1)]) 1 rfl H
          obtain ⟨g0, _, H⟩ := pGo (n1 := 9) rfl (mcb_112 rfl) H
          replace H := pRun (ls' := [.ref 188, .int p1, .int x2, .int (kI 1)]) (st' := [.int (kI 0), .ref 188]) 3 rfl H
          obtain ⟨rv, h1, hc, H⟩ := pCalV 108 1 188 (as := [.int (kI 0)]) (rest := []) rfl (by decide) (by decide +kernel) rfl rfl H
          obtain ⟨v3, M3, hD, H⟩ := pUseU (D_108_ok hS hc) H
          refine pG_call (x := v3) (M1 := M3) hD ?_
          replace H := pRun (ls' := [.ref 188, .int p1, .int x2, .int (kI 1)]) (st' := [.int (kI 1)]) 1 rfl H
          rcases pIf0 (n1 := 11) rfl (mcb_112 rfl) (mcb_112 rfl) H with ⟨g4, g0, _, H⟩ | ⟨g4, g0, _, H⟩
          · exact absurd (show (kI 1) = 0 from g4) (by decide)
          · replace H := pRun (ls' := [.ref 188, .int p1, .int x2, .int (kI 1)]) (st' := [.int x2]) 1 rfl H
            obtain ⟨g0, _, H⟩ := pGo (n1 := 12) rfl (mcb_112 rfl) H
            exact pG_ret (pRetI H)
      · refine pG_neg (c := 0 ≤ v1) g2 ?_
        replace H := pRun (ls' := [.ref 188, .int p1, .int x2, u3]) (st' := [.int (kI (-1)), .int (kI 0), .int (kI 3), .ref 188]) 4 rfl H
        obtain ⟨rv, h1, hc, H⟩ := pCalV 101 3 188 (as := [.int (kI 3), .int (kI 0), .int (kI (-1))]) (rest := []) rfl (by decide) (by decide +kernel) rfl rfl H
        obtain ⟨v2, M2, hD, H⟩ := pUseU (D_101_ok hS hc) H
        refine pG_call (x := v2) (M1 := M2) hD ?_
        replace H := pRun (ls' := [.ref 188, .int p1, .int (x2 + (kI 1)), u3]) (st' := []) 4 rfl H
        obtain ⟨g0, _, H⟩ := pGo (n1 := 3) rfl (mcb_112 rfl) H
        exact (ih _ (by omega)) _ _  _ H
theorem L_112_3_ok {X : aX} {F d : Nat} {K : Nat → aK} (hS : pS K) {p1 : Int32} {out : Option Value × aH} {f : Nat} {x2 : Int32} {u3 : Value} {M : pMem} (H : pm X F d 112 f 3 [.iload 2, .bipush 30, .if_icmp .ge 6] [.ref 188, .int p1, .int x2, u3] [] (pH K M) out) : pG eI K out (L_112_3 p1 x2 M) := by
  refine pG_all (C := fun P : (Int32 → pMem → pT Int32) => C_112 p1 P) (T := fun P => P x2 M) eI_inj (fun _ _ _ _ => True) ?_ (fun P hP => (K_112 hS P hP f) _ _ _ H)
  exact (fun _ _ _ _ _ => trivial)
theorem D_112_ok {X : aX} {F d : Nat} {K : Nat → aK} (hS : pS K) {p1 : Int32} {M : pMem} {out : Option Value × aH} (H : aM X F d 112 [.ref 188, .int p1] (pH K M) = some out) : pG eI K out (D_112 p1 M) := by
  obtain ⟨d', g0, _, H⟩ := pEnt (n := 4) (ls := [.ref 188, .int p1, aD, aD]) (mcb_112 rfl) (by decide +kernel) rfl H
  unfold D_112
  replace H := pRun (ls' := [.ref 188, .int p1, aD, aD]) (st' := [.int (kI 0), .ref 188]) 2 rfl H
  obtain ⟨M1, eM1, H⟩ := pPutN (j := 0) rfl H
  refine pG_put (M2 := M1) eM1 ?_
  replace H := pRun (ls' := [.ref 188, .int p1, aD, aD]) (st' := [.int p1, .ref 188]) 2 rfl H
  obtain ⟨rv, h1, hc, H⟩ := pCalV 109 1 188 (as := [.int p1]) (rest := []) rfl (by decide) (by decide +kernel) rfl rfl H
  replace H := pUseF (f_109_ok hS hc) H
  rcases pIf0 (n1 := 2) rfl (mcb_112 rfl) (mcb_112 rfl) H with ⟨g1, g0, _, H⟩ | ⟨g1, g0, _, H⟩
  · refine pG_pos (c := ¬ (f_109 p1) = 0) g1 ?_
    replace H := pRun (ls' := [.ref 188, .int p1, aD, aD]) (st' := [.int (kI 1), .ref 188]) 2 rfl H
    obtain ⟨rv, h1, hc, H⟩ := pCalV 108 1 188 (as := [.int (kI 1)]) (rest := []) rfl (by decide) (by decide +kernel) rfl rfl H
    obtain ⟨v1, M2, hD, H⟩ := pUseU (D_108_ok hS hc) H
    refine pG_call (x := v1) (M1 := M2) hD ?_
    replace H := pRun (ls' := [.ref 188, .int p1, aD, aD]) (st' := [.int p1, .ref 188]) 2 rfl H
    obtain ⟨M3, eM3, H⟩ := pPutN (j := 4) rfl H
    refine pG_put (M2 := M3) eM3 ?_
    replace H := pRun (ls' := [.ref 188, .int p1, .int (kI 0), aD]) (st' := []) 2 rfl H
    obtain ⟨g0, _, H⟩ := pFall (mcb_112 rfl) H
    exact L_112_3_ok hS  H
  · refine pG_neg (c := ¬ (f_109 p1) = 0) g1 ?_
    replace H := pRun (ls' := [.ref 188, .int p1, aD, aD]) (st' := [.int (kI (-1))]) 1 rfl H
    exact pG_ret (pRetI H)
def l_112 : List (Nat × Nat) := [(188, 69), (188, 68), (222, 999), (188, 1), (188, 3), (188, 4), (188, 17), (188, 18), (188, 19), (188, 20), (188, 21), (196, 999), (197, 999), (198, 999), (199, 999), (200, 999), (191, 999), (192, 999), (194, 999), (201, 999), (188, 54), (188, 55), (188, 57), (188, 56)]
theorem FC_112 {p1 : Int32} : C_112 p1 (fun _ M _ N => pFr (l_112) M N) := fun x2 M => show pTf (l_112) M (S_112_3 p1 _ x2 M) from (tf_if (tf_call pFr_refl (fun _ _ h => F_55 h) [] rfl fun _ M1 f1 => (tf_if (tf_call f1 (fun _ _ h => F_108 h) [0, 1, 2, 3, 4, 5, 6, 7, 8, 9, 10, 11, 12, 13, 14, 15, 16, 17, 18, 19] rfl fun _ M2 f2 => (tf_ret f2)) (tf_call f1 (fun _ _ h => F_108 h) [0, 1, 2, 3, 4, 5, 6, 7, 8, 9, 10, 11, 12, 13, 14, 15, 16, 17, 18, 19] rfl fun _ M2 f2 => (tf_ret f2)))) (tf_call pFr_refl (fun _ _ h => F_55 h) [] rfl fun _ M1 f1 => (tf_if (tf_call f1 (fun _ _ h => F_55 h) [] rfl fun _ M2 f2 => (tf_if (tf_call f2 (fun _ _ h => F_108 h) [0, 1, 2, 3, 4, 5, 6, 7, 8, 9, 10, 11, 12, 13, 14, 15, 16, 17, 18, 19] rfl fun _ M3 f3 => (tf_ret f3)) (tf_call f2 (fun _ _ h => F_108 h) [0, 1, 2, 3, 4, 5, 6, 7, 8, 9, 10, 11, 12, 13, 14, 15, 16, 17, 18, 19] rfl fun _ M3 f3 => (tf_ret f3)))) (tf_call f1 (fun _ _ h => F_101 h) [6, 7, 8, 9, 10, 18, 20, 21, 12, 13, 22, 16, 23, 11, 17, 19, 4, 3, 14, 15] rfl fun _ M2 f2 => (tf_jump f2)))))
theorem F_112 {p1 : Int32} {M : pMem} {v : Int32} {N : pMem} (h : D_112 p1 M v N) : pFr (l_112) M N :=
  (show pTf (l_112) M (D_112 p1 M) from (tf_putS1 pFr_refl rfl fun M1 f1 => (tf_if (tf_call f1 (fun _ _ h => F_108 h) [0, 1, 2, 3, 4, 5, 6, 7, 8, 9, 10, 11, 12, 13, 14, 15, 16, 17, 18, 19] rfl fun _ M2 f2 => (tf_put f2 5 rfl fun M3 f3 => (tf_jumpL (fun _ M _ N => pFr (l_112) M N) (FC_112) rfl f3))) (tf_ret f1)))) v N h
/-- TwoCampsModel.row(I)I -/
def D_113 (p1 : Int32) (M : pMem) : pT Int32 := tPut (aPut M 188 0 (kI 0)) fun M1 => tIf (¬ p1 = (kI (-1))) (tIf ((f_42 p1 (kI 0) (kI 3)) = 0) (tRet (kI (-2)) M1) (tIf (¬ (M1 188 71) = (kI 5)) (tGd (pIn (M1 188 71) 5) <| tPut (aPut M1 223 (ix (M1 188 71)) p1) fun M2 => tPut (aPut M2 188 71 ((M2 188 71) + (kI 1))) fun M3 => tRet (M3 188 71) M3) (tRet (kI (-2)) M1))) (tPut (aPut M1 188 71 (kI 0)) fun M2 => tRet (kI 0) M2)
theorem D_113_ok {X : aX} {F d : Nat} {K : Nat → aK} (hS : pS K) {p1 : Int32} {M : pMem} {out : Option Value × aH} (H : aM X F d 113 [.ref 188, .int p1] (pH K M) = some out) : pG eI K out (D_113 p1 M) := by
  obtain ⟨d', g0, _, H⟩ := pEnt (n := 2) (ls := [.ref 188, .int p1]) (mcb_113 rfl) (by decide +kernel) rfl H
  unfold D_113
  replace H := pRun (ls' := [.ref 188, .int p1]) (st' := [.int (kI 0), .ref 188]) 2 rfl H
  obtain ⟨M1, eM1, H⟩ := pPutN (j := 0) rfl H
  refine pG_put (M2 := M1) eM1 ?_
  replace H := pRun (ls' := [.ref 188, .int p1]) (st' := [.int (kI (-1)), .int p1]) 2 rfl H
  rcases pIfc (n1 := 2) rfl (mcb_113 rfl) (mcb_113 rfl) H with ⟨g1, g0, _, H⟩ | ⟨g1, g0, _, H⟩
  · refine pG_pos (c := ¬ p1 = (kI (-1))) g1 ?_
    replace H := pRun (ls' := [.ref 188, .int p1]) (st' := [.int (kI 3), .int (kI 0), .int p1, .ref 188]) 4 rfl H
    obtain ⟨rv, h1, hc, H⟩ := pCalV 42 3 188 (as := [.int p1, .int (kI 0), .int (kI 3)]) (rest := []) rfl (by decide) (by decide +kernel) rfl rfl H
    replace H := pUseF (f_42_ok hS hc) H
    rcases pIf0 (n1 := 4) rfl (mcb_113 rfl) (mcb_113 rfl) H with ⟨g2, g0, _, H⟩ | ⟨g2, g0, _, H⟩
    · refine pG_pos (c := (f_42 p1 (kI 0) (kI 3)) = 0) g2 ?_
      replace H := pRun (ls' := [.ref 188, .int p1]) (st' := [.int (kI (-2))]) 1 rfl H
      exact pG_ret (pRetI H)
    · refine pG_neg (c := (f_42 p1 (kI 0) (kI 3)) = 0) g2 ?_
      replace H := pRun (ls' := [.ref 188, .int p1]) (st' := [.ref 188]) 1 rfl H
      replace H := pGetN (v := M1 188 71) rfl (by decide) H
      replace H := pRun (ls' := [.ref 188, .int p1]) (st' := [.int (kI 5), .int (M1 188 71)]) 1 rfl H
      rcases pIfc (n1 := 5) rfl (mcb_113 rfl) (mcb_113 rfl) H with ⟨g3, g0, _, H⟩ | ⟨g3, g0, _, H⟩
      · refine pG_pos (c := ¬ (M1 188 71) = (kI 5)) g3 ?_
        replace H := pRun (ls' := [.ref 188, .int p1]) (st' := [.ref 188]) 1 rfl H
        replace H := pGetR (r := 223) (pRf hS (by decide +kernel)) rfl H
        replace H := pRun (ls' := [.ref 188, .int p1]) (st' := [.ref 188, .ref 223]) 1 rfl H
        replace H := pGetN (v := M1 188 71) rfl (by decide) H
        replace H := pRun (ls' := [.ref 188, .int p1]) (st' := [.int p1, .int (M1 188 71), .ref 223]) 1 rfl H
        obtain ⟨g4, M2, eM2, H⟩ := pIst (n := 5) (pLn hS (show pCa 223 5 = true by decide +kernel)) H
        refine pG_gd g4 (pG_put (M2 := M2) eM2 ?_)
        replace H := pRun (ls' := [.ref 188, .int p1]) (st' := [.ref 188, .ref 188]) 2 rfl H
        replace H := pGetN (v := M2 188 71) rfl (by decide) H
        replace H := pRun (ls' := [.ref 188, .int p1]) (st' := [.int ((M2 188 71) + (kI 1)), .ref 188]) 2 rfl H
        obtain ⟨M3, eM3, H⟩ := pPutN (j := 71) rfl H
        refine pG_put (M2 := M3) eM3 ?_
        replace H := pRun (ls' := [.ref 188, .int p1]) (st' := [.ref 188]) 1 rfl H
        replace H := pGetN (v := M3 188 71) rfl (by decide) H
        exact pG_ret (pRetI H)
      · refine pG_neg (c := ¬ (M1 188 71) = (kI 5)) g3 ?_
        replace H := pRun (ls' := [.ref 188, .int p1]) (st' := [.int (kI (-2))]) 1 rfl H
        exact pG_ret (pRetI H)
  · refine pG_neg (c := ¬ p1 = (kI (-1))) g1 ?_
    replace H := pRun (ls' := [.ref 188, .int p1]) (st' := [.int (kI 0), .ref 188]) 2 rfl H
    obtain ⟨M2, eM2, H⟩ := pPutN (j := 71) rfl H
    refine pG_put (M2 := M2) eM2 ?_
    replace H := pRun (ls' := [.ref 188, .int p1]) (st' := [.int (kI 0)]) 1 rfl H
    exact pG_ret (pRetI H)
def l_113 : List (Nat × Nat) := [(223, 999), (188, 71)]
theorem F_113 {p1 : Int32} {M : pMem} {v : Int32} {N : pMem} (h : D_113 p1 M v N) : pFr (l_113) M N :=
  (show pTf (l_113) M (D_113 p1 M) from (tf_putS1 pFr_refl rfl fun M1 f1 => (tf_if (tf_if (tf_ret f1) (tf_if (tf_gd fun g4 => (tf_putA f1 0 rfl fun M2 f2 => (tf_put f2 1 rfl fun M3 f3 => (tf_ret f3)))) (tf_ret f1))) (tf_put f1 1 rfl fun M2 f2 => (tf_ret f2))))) v N h
/-- TwoCampsModel.crossBy(I)I -/
def S_114_1 (p1 : Int32) (P1 : Int32 → pMem → pT Int32) (x2 : Int32) (M : pMem) : pT Int32 := tIf ((M 188 71) ≤ x2) (tCall (D_55 M) fun v1 M1 => tCall (D_108 (kI 0) M1) fun _ M2 => tRet v1 M2) (tGd (pIn x2 5) <| tGd (pIn (M 224 (ix x2)) 5) <| tGd (pIn x2 5) <| tGd (pIn (M 224 (ix x2)) 5) <| tIf (¬ (M 223 (ix (M 224 (ix x2)))) = (kI 1)) (tCall (D_101 (M 223 (ix (M 224 (ix x2)))) (kI 0) (kI (-1)) M) fun _ M1 => P1 (x2 + kI 1) M1) (tCall (D_101 (M 223 (ix (M 224 (ix x2)))) (kI 5) (kI (-1)) M) fun _ M1 => P1 (x2 + kI 1) M1))
def C_114 (p1 : Int32) (P1 : Int32 → pMem → pT Int32) : Prop := (∀ (x2 : Int32) M v N, S_114_1 p1 P1 x2 M v N → P1 x2 M v N)
def L_114_1 (p1 : Int32) (x2 : Int32) (M : pMem) : pT Int32 := fun v N => ∀ P : (Int32 → pMem → pT Int32), C_114 p1 P → P x2 M v N
def D_114 (p1 : Int32) (M : pMem) : pT Int32 := tCall (D_108 (kI 1) M) fun _ M1 => tPut (aPut M1 188 4 p1) fun M2 => L_114_1 p1 (kI 0) M2
theorem K_114 {X : aX} {F d : Nat} {K : Nat → aK} (hS : pS K) {p1 : Int32} {out : Option Value × aH} (P1 : Int32 → pMem → pT Int32) (hC : C_114 p1 P1) : ∀ f, (∀ (x2 : Int32) M, pm X F d 114 f 1 [.iload 2, .aload 0, .getfield 131312284, .if_icmp .ge 6] [.ref 188, .int p1, .int x2] [] (pH K M) out → pG eI K out (P1 x2 M)) := by
  intro f
  induction f using Nat.strongRecOn with
  | _ f ih =>
    intro x2 M H
    refine pG_mono (fun v N h => hC x2 M v N h) ?_
    unfold S_114_1
    replace H := pRun (ls' := [.ref 188, .int p1, .int x2]) (st' := [.ref 188, .int x2]) 2 rfl H
    replace H := pGetN (v := M 188 71) rfl (by decide) H
    rcases pIfc (n1 := 6) rfl (mcb_114 rfl) (mcb_114 rfl) H with ⟨g1, g0, _, H⟩ | ⟨g1, g0, _, H⟩
    · refine pG_pos (c := (M 188 71) ≤ x2) g1 ?_
      replace H := pRun (ls' := [.ref 188, .int p1, .int x2]) (st' := [.ref 188]) 1 rfl H
      obtain ⟨rv, h1, hc, H⟩ := pCalV 55 0 188 (as := []) (rest := []) rfl (by decide) (by decide +kernel) rfl rfl H
      obtain ⟨v1, M1, hD, H⟩ := pUseI (D_55_ok hS hc) H
      refine pG_call (x := v1) (M1 := M1) hD ?_
      replace H := pRun (ls' := [.ref 188, .int p1, .int v1]) (st' := [.int (kI 0), .ref 188]) 3 rfl H
      obtain ⟨rv, h1, hc, H⟩ := pCalV 108 1 188 (as := [.int (kI 0)]) (rest := []) rfl (by decide) (by decide +kernel) rfl rfl H
      obtain ⟨v2, M2, hD, H⟩ := pUseU (D_108_ok hS hc) H
      refine pG_call (x := v2) (M1 := M2) hD ?_
      replace H := pRun (ls' := [.ref 188, .int p1, .int v1]) (st' := [.int v1]) 1 rfl H
      exact pG_ret (pRetI H)
    · refine pG_neg (c := (M 188 71) ≤ x2) g1 ?_
      replace H := pRun (ls' := [.ref 188, .int p1, .int x2]) (st' := [.ref 188, .ref 188]) 2 rfl H
      replace H := pGetR (r := 223) (pRf hS (by decide +kernel)) rfl H
      replace H := pRun (ls' := [.ref 188, .int p1, .int x2]) (st' := [.ref 188, .ref 223, .ref 188]) 1 rfl H
      replace H := pGetR (r := 224) (pRf hS (by decide +kernel)) rfl H
      replace H := pRun (ls' := [.ref 188, .int p1, .int x2]) (st' := [.int x2, .ref 224, .ref 223, .ref 188]) 1 rfl H
      obtain ⟨g2, H⟩ := pIld (n := 5) (pLt (show pCa 224 5 = true by decide +kernel)) (pLn hS (show pCa 224 5 = true by decide +kernel)) H
      refine pG_gd g2 ?_
      obtain ⟨g3, H⟩ := pIld (n := 5) (pLt (show pCa 223 5 = true by decide +kernel)) (pLn hS (show pCa 223 5 = true by decide +kernel)) H
      refine pG_gd g3 ?_
      replace H := pRun (ls' := [.ref 188, .int p1, .int x2]) (st' := [.ref 188, .int (M 223 (ix (M 224 (ix x2)))), .ref 188]) 1 rfl H
      replace H := pGetR (r := 223) (pRf hS (by decide +kernel)) rfl H
      replace H := pRun (ls' := [.ref 188, .int p1, .int x2]) (st' := [.ref 188, .ref 223, .int (M 223 (ix (M 224 (ix x2)))), .ref 188]) 1 rfl H
      replace H := pGetR (r := 224) (pRf hS (by decide +kernel)) rfl H
      replace H := pRun (ls' := [.ref 188, .int p1, .int x2]) (st' := [.int x2, .ref 224, .ref 223, .int (M 223 (ix (M 224 (ix x2)))), .ref 188]) 1 rfl H
      obtain ⟨g4, H⟩ := pIld (n := 5) (pLt (show pCa 224 5 = true by decide +kernel)) (pLn hS (show pCa 224 5 = true by decide +kernel)) H
      refine pG_gd g4 ?_
      obtain ⟨g5, H⟩ := pIld (n := 5) (pLt (show pCa 223 5 = true by decide +kernel)) (pLn hS (show pCa 223 5 = true by decide +kernel)) H
      refine pG_gd g5 ?_
      replace H := pRun (ls' := [.ref 188, .int p1, .int x2]) (st' := [.int (kI 1), .int (M 223 (ix (M 224 (ix x2)))), .int (M 223 (ix (M 224 (ix x2)))), .ref 188]) 1 rfl H
      rcases pIfc (n1 := 4) rfl (mcb_114 rfl) (mcb_114 rfl) H with ⟨g6, g0, _, H⟩ | ⟨g6, g0, _, H⟩
      · refine pG_pos (c := ¬ (M 223 (ix (M 224 (ix x2)))) = (kI 1)) g6 ?_
        replace H := pRun (ls' := [.ref 188, .int p1, .int x2]) (st' := [.int (kI 0), .int (M 223 (ix (M 224 (ix x2)))), .ref 188]) 1 rfl H
        obtain ⟨g0, _, H⟩ := pFall (mcb_114 rfl) H
        replace H := pRun (ls' := [.ref 188, .int p1, .int x2]) (st' := [.int (kI (-1)), .int (kI 0), .int (M 223 (ix (M 224 (ix x2)))), .ref 188]) 1 rfl H
        obtain ⟨rv, h1, hc, H⟩ := pCalV 101 3 188 (as := [.int (M 223 (ix (M 224 (ix x2)))), .int (kI 0), .int (kI (-1))]) (rest := []) rfl (by decide) (by decide +kernel) rfl rfl H
        obtain ⟨v1, M1, hD, H⟩ := pUseU (D_101_ok hS hc) H
        refine pG_call (x := v1) (M1 := M1) hD ?_
        replace H := pRun (ls' := [.ref 188, .int p1, .int (x2 + kI 1)]) (st' := []) 1 rfl H
        obtain ⟨g0, _, H⟩ := pGo (n1 := 1) rfl (mcb_114 rfl) H
        exact (ih _ (by omega)) _  _ H
      · refine pG_neg (c := ¬ (M 223 (ix (M 224 (ix x2)))) = (kI 1)) g6 ?_
        replace H := pRun (ls' := [.ref 188, .int p1, .int x2]) (st' := [.int (kI 5), .int (M 223 (ix (M 224 (ix x2)))), .ref 188]) 1 rfl H
        obtain ⟨g0, _, H⟩ := pGo (n1 := 5) rfl (mcb_114 rfl) H
        replace H := pRun (ls' := [.ref 188, .int p1, .int x2]) (st' := [.int (kI (-1)), .int (kI 5), .int (M 223 (ix (M 224 (ix x2)))), .ref 188]) 1 rfl H
        obtain ⟨rv, h1, hc, H⟩ := pCalV 101 3 188 (as := [.int (M 223 (ix (M 224 (ix x2)))), .int (kI 5), .int (kI (-1))]) (rest := []) rfl (by decide) (by decide +kernel) rfl rfl H
        obtain ⟨v1, M1, hD, H⟩ := pUseU (D_101_ok hS hc) H
        refine pG_call (x := v1) (M1 := M1) hD ?_
        replace H := pRun (ls' := [.ref 188, .int p1, .int (x2 + kI 1)]) (st' := []) 1 rfl H
        obtain ⟨g0, _, H⟩ := pGo (n1 := 1) rfl (mcb_114 rfl) H
        exact (ih _ (by omega)) _  _ H
theorem L_114_1_ok {X : aX} {F d : Nat} {K : Nat → aK} (hS : pS K) {p1 : Int32} {out : Option Value × aH} {f : Nat} {x2 : Int32} {M : pMem} (H : pm X F d 114 f 1 [.iload 2, .aload 0, .getfield 131312284, .if_icmp .ge 6] [.ref 188, .int p1, .int x2] [] (pH K M) out) : pG eI K out (L_114_1 p1 x2 M) := by
  refine pG_all (C := fun P : (Int32 → pMem → pT Int32) => C_114 p1 P) (T := fun P => P x2 M) eI_inj (fun _ _ _ _ => True) ?_ (fun P hP => (K_114 hS P hP f) _ _ H)
  exact (fun _ _ _ _ _ => trivial)
theorem D_114_ok {X : aX} {F d : Nat} {K : Nat → aK} (hS : pS K) {p1 : Int32} {M : pMem} {out : Option Value × aH} (H : aM X F d 114 [.ref 188, .int p1] (pH K M) = some out) : pG eI K out (D_114 p1 M) := by
  obtain ⟨d', g0, _, H⟩ := pEnt (n := 3) (ls := [.ref 188, .int p1, aD]) (mcb_114 rfl) (by decide +kernel) rfl H
  unfold D_114
  replace H := pRun (ls' := [.ref 188, .int p1, aD]) (st' := [.int (kI 1), .ref 188]) 2 rfl H
  obtain ⟨rv, h1, hc, H⟩ := pCalV 108 1 188 (as := [.int (kI 1)]) (rest := []) rfl (by decide) (by decide +kernel) rfl rfl H
  obtain ⟨v1, M1, hD, H⟩ := pUseU (D_108_ok hS hc) H
  refine pG_call (x := v1) (M1 := M1) hD ?_
  replace H := pRun (ls' := [.ref 188, .int p1, aD]) (st' := [.int p1, .ref 188]) 2 rfl H
  obtain ⟨M2, eM2, H⟩ := pPutN (j := 4) rfl H
  refine pG_put (M2 := M2) eM2 ?_
  replace H := pRun (ls' := [.ref 188, .int p1, .int (kI 0)]) (st' := []) 2 rfl H
  obtain ⟨g0, _, H⟩ := pFall (mcb_114 rfl) H
  exact L_114_1_ok hS  H
def l_114 : List (Nat × Nat) := [(188, 69), (188, 68), (222, 999), (188, 1), (188, 3), (188, 4), (188, 17), (188, 18), (188, 19), (188, 20), (188, 21), (196, 999), (197, 999), (198, 999), (199, 999), (200, 999), (191, 999), (192, 999), (194, 999), (201, 999), (188, 54), (188, 55), (188, 57), (188, 56)]
theorem FC_114 {p1 : Int32} : C_114 p1 (fun _ M _ N => pFr (l_114) M N) := fun x2 M => show pTf (l_114) M (S_114_1 p1 _ x2 M) from (tf_if (tf_call pFr_refl (fun _ _ h => F_55 h) [] rfl fun _ M1 f1 => (tf_call f1 (fun _ _ h => F_108 h) [0, 1, 2, 3, 4, 5, 6, 7, 8, 9, 10, 11, 12, 13, 14, 15, 16, 17, 18, 19] rfl fun _ M2 f2 => (tf_ret f2))) (tf_gd fun g2 => (tf_gd fun g3 => (tf_gd fun g4 => (tf_gd fun g5 => (tf_if (tf_call pFr_refl (fun _ _ h => F_101 h) [6, 7, 8, 9, 10, 18, 20, 21, 12, 13, 22, 16, 23, 11, 17, 19, 4, 3, 14, 15] rfl fun _ M1 f1 => (tf_jump f1)) (tf_call pFr_refl (fun _ _ h => F_101 h) [6, 7, 8, 9, 10, 18, 20, 21, 12, 13, 22, 16, 23, 11, 17, 19, 4, 3, 14, 15] rfl fun _ M1 f1 => (tf_jump f1))))))))
theorem F_114 {p1 : Int32} {M : pMem} {v : Int32} {N : pMem} (h : D_114 p1 M v N) : pFr (l_114) M N :=
  (show pTf (l_114) M (D_114 p1 M) from (tf_call pFr_refl (fun _ _ h => F_108 h) [0, 1, 2, 3, 4, 5, 6, 7, 8, 9, 10, 11, 12, 13, 14, 15, 16, 17, 18, 19] rfl fun _ M1 f1 => (tf_put f1 5 rfl fun M2 f2 => (tf_jumpL (fun _ M _ N => pFr (l_114) M N) (FC_114) rfl f2)))) v N h
/-- TwoCampsModel.goesOn()Z -/
def S_115_1 (P1 : Int32 → pMem → pT Int32) (P7 : Int32 → Int32 → pMem → pT Int32) (P10 : Int32 → Int32 → pMem → pT Int32) (x1 : Int32) (M : pMem) : pT Int32 := tIf (x1 < 0) (tIf (0 ≤ x1) (P7 x1 ((M 188 71) - (kI 1)) M) (tRet (kI 0) M)) (tGd (pIn x1 5) <| tGd (pIn (x1 + (kI 1)) 5) <| tIf ((M 224 (ix x1)) ≤ (M 224 (ix (x1 + (kI 1))))) (tIf (0 ≤ x1) (P7 x1 ((M 188 71) - (kI 1)) M) (tRet (kI 0) M)) (P1 (x1 - (kI 1)) M))
def S_115_7 (P1 : Int32 → pMem → pT Int32) (P7 : Int32 → Int32 → pMem → pT Int32) (P10 : Int32 → Int32 → pMem → pT Int32) (x1 : Int32) (x2 : Int32) (M : pMem) : pT Int32 := tGd (pIn x2 5) <| tGd (pIn x1 5) <| tIf ((M 224 (ix x1)) ≤ (M 224 (ix x2))) (tGd (pIn x1 5) <| tGd (pIn x2 5) <| tGd (pIn x1 5) <| tPut (aPut M 224 (ix x1) (M 224 (ix x2))) fun M1 => tGd (pIn x2 5) <| tPut (aPut M1 224 (ix x2) (M 224 (ix x1))) fun M2 => P10 (x1 + (kI 1)) ((M2 188 71) - (kI 1)) M2) (P7 x1 (x2 - (kI 1)) M)
def S_115_10 (P1 : Int32 → pMem → pT Int32) (P7 : Int32 → Int32 → pMem → pT Int32) (P10 : Int32 → Int32 → pMem → pT Int32) (x4 : Int32) (x5 : Int32) (M : pMem) : pT Int32 := tIf (x5 ≤ x4) (tRet (kI 1) M) (tGd (pIn x4 5) <| tGd (pIn x5 5) <| tGd (pIn x4 5) <| tPut (aPut M 224 (ix x4) (M 224 (ix x5))) fun M1 => tGd (pIn x5 5) <| tPut (aPut M1 224 (ix x5) (M 224 (ix x4))) fun M2 => P10 (x4 + (kI 1)) (x5 - (kI 1)) M2)
def C_115 (P1 : Int32 → pMem → pT Int32) (P7 : Int32 → Int32 → pMem → pT Int32) (P10 : Int32 → Int32 → pMem → pT Int32) : Prop := (∀ (x1 : Int32) M v N, S_115_1 P1 P7 P10 x1 M v N → P1 x1 M v N) ∧ (∀ (x1 : Int32) (x2 : Int32) M v N, S_115_7 P1 P7 P10 x1 x2 M v N → P7 x1 x2 M v N) ∧ (∀ (x4 : Int32) (x5 : Int32) M v N, S_115_10 P1 P7 P10 x4 x5 M v N → P10 x4 x5 M v N)
def L_115_1 (x1 : Int32) (M : pMem) : pT Int32 := fun v N => ∀ P : (Int32 → pMem → pT Int32) × (Int32 → Int32 → pMem → pT Int32) × (Int32 → Int32 → pMem → pT Int32), C_115 P.1 P.2.1 P.2.2 → P.1 x1 M v N
def L_115_7 (x1 : Int32) (x2 : Int32) (M : pMem) : pT Int32 := fun v N => ∀ P : (Int32 → pMem → pT Int32) × (Int32 → Int32 → pMem → pT Int32) × (Int32 → Int32 → pMem → pT Int32), C_115 P.1 P.2.1 P.2.2 → P.2.1 x1 x2 M v N
def L_115_10 (x4 : Int32) (x5 : Int32) (M : pMem) : pT Int32 := fun v N => ∀ P : (Int32 → pMem → pT Int32) × (Int32 → Int32 → pMem → pT Int32) × (Int32 → Int32 → pMem → pT Int32), C_115 P.1 P.2.1 P.2.2 → P.2.2 x4 x5 M v N
def D_115 (M : pMem) : pT Int32 := L_115_1 ((M 188 71) - (kI 2)) M
theorem K_115 {X : aX} {F d : Nat} {K : Nat → aK} (hS : pS K) {out : Option Value × aH} (P1 : Int32 → pMem → pT Int32) (P7 : Int32 → Int32 → pMem → pT Int32) (P10 : Int32 → Int32 → pMem → pT Int32) (hC : C_115 P1 P7 P10) : ∀ f, (∀ (x1 : Int32) (u2 : Value) (u3 : Value) (u4 : Value) (u5 : Value) M, pm X F d 115 f 1 [.iload 1, .ifCond .lt 4] [.ref 188, .int x1, u2, u3, u4, u5] [] (pH K M) out → pG eI K out (P1 x1 M)) ∧ (∀ (x1 : Int32) (x2 : Int32) (u3 : Value) (u4 : Value) (u5 : Value) M, pm X F d 115 f 7 [.aload 0, .getfield 131412290, .iload 2, .iaload, .aload 0, .getfield 131412290, .iload 1, .iaload, .if_icmp .ge 9] [.ref 188, .int x1, .int x2, u3, u4, u5] [] (pH K M) out → pG eI K out (P7 x1 x2 M)) ∧ (∀ (x4 : Int32) (x5 : Int32) (u1 : Int32) (u2 : Int32) (u3 : Int32) M, pm X F d 115 f 10 [.iload 4, .iload 5, .if_icmp .ge 12] [.ref 188, .int u1, .int u2, .int u3, .int x4, .int x5] [] (pH K M) out → pG eI K out (P10 x4 x5 M)) := by
  intro f
  induction f using Nat.strongRecOn with
  | _ f ih =>
    refine ⟨?_, ?_, ?_⟩
    · intro x1 u2 u3 u4 u5 M H
      refine pG_mono (fun v N h => hC.1 x1 M v N h) ?_
      unfold S_115_1
      replace H := pRun (ls' := [.ref 188, .int x1, u2, u3, u4, u5]) (st' := [.int x1]) 1 rfl H
      rcases pIf0 (n1 := 4) rfl (mcb_115 rfl) (mcb_115 rfl) H with ⟨g1, g0, _, H⟩ | ⟨g1, g0, _, H⟩
      · refine pG_pos (c := x1 < 0) g1 ?_
        replace H := pRun (ls' := [.ref 188, .int x1, u2, u3, u4, u5]) (st' := [.int x1]) 1 rfl H
        rcases pIf0 (n1 := 6) rfl (mcb_115 rfl) (mcb_115 rfl) H with ⟨g2, g0, _, H⟩ | ⟨g2, g0, _, H⟩
        · refine pG_pos (c := 0 ≤ x1) g2 ?_
          replace H := pRun (ls' := [.ref 188, .int x1, u2, u3, u4, u5]) (st' := [.ref 188]) 1 rfl H
          replace H := pGetN (v := M 188 71) rfl (by decide) H
          replace H := pRun (ls' := [.ref 188, .int x1, .int ((M 188 71) - (kI 1)), u3, u4, u5]) (st' := []) 3 rfl H
          obtain ⟨g0, _, H⟩ := pFall (mcb_115 rfl) H
          exact (ih _ (by omega)).2.1 _ _ _ _ _  _ H
        · refine pG_neg (c := 0 ≤ x1) g2 ?_
          replace H := pRun (ls' := [.ref 188, .int x1, u2, u3, u4, u5]) (st' := [.int (kI 0)]) 1 rfl H
          exact pG_ret (pRetI H)
      · refine pG_neg (c := x1 < 0) g1 ?_
        replace H := pRun (ls' := [.ref 188, .int x1, u2, u3, u4, u5]) (st' := [.ref 188]) 1 rfl H
        replace H := pGetR (r := 224) (pRf hS (by decide +kernel)) rfl H
        replace H := pRun (ls' := [.ref 188, .int x1, u2, u3, u4, u5]) (st' := [.int x1, .ref 224]) 1 rfl H
        obtain ⟨g2, H⟩ := pIld (n := 5) (pLt (show pCa 224 5 = true by decide +kernel)) (pLn hS (show pCa 224 5 = true by decide +kernel)) H
        refine pG_gd g2 ?_
        replace H := pRun (ls' := [.ref 188, .int x1, u2, u3, u4, u5]) (st' := [.ref 188, .int (M 224 (ix x1))]) 1 rfl H
        replace H := pGetR (r := 224) (pRf hS (by decide +kernel)) rfl H
        replace H := pRun (ls' := [.ref 188, .int x1, u2, u3, u4, u5]) (st' := [.int (x1 + (kI 1)), .ref 224, .int (M 224 (ix x1))]) 3 rfl H
        obtain ⟨g3, H⟩ := pIld (n := 5) (pLt (show pCa 224 5 = true by decide +kernel)) (pLn hS (show pCa 224 5 = true by decide +kernel)) H
        refine pG_gd g3 ?_
        rcases pIfc (n1 := 4) rfl (mcb_115 rfl) (mcb_115 rfl) H with ⟨g4, g0, _, H⟩ | ⟨g4, g0, _, H⟩
        · refine pG_pos (c := (M 224 (ix x1)) ≤ (M 224 (ix (x1 + (kI 1))))) g4 ?_
          replace H := pRun (ls' := [.ref 188, .int x1, u2, u3, u4, u5]) (st' := [.int x1]) 1 rfl H
          rcases pIf0 (n1 := 6) rfl (mcb_115 rfl) (mcb_115 rfl) H with ⟨g5, g0, _, H⟩ | ⟨g5, g0, _, H⟩
          · refine pG_pos (c := 0 ≤ x1) g5 ?_
            replace H := pRun (ls' := [.ref 188, .int x1, u2, u3, u4, u5]) (st' := [.ref 188]) 1 rfl H
            replace H := pGetN (v := M 188 71) rfl (by decide) H
            replace H := pRun (ls' := [.ref 188, .int x1, .int ((M 188 71) - (kI 1)), u3, u4, u5]) (st' := []) 3 rfl H
            obtain ⟨g0, _, H⟩ := pFall (mcb_115 rfl) H
            exact (ih _ (by omega)).2.1 _ _ _ _ _  _ H
          · refine pG_neg (c := 0 ≤ x1) g5 ?_
            replace H := pRun (ls' := [.ref 188, .int x1, u2, u3, u4, u5]) (st' := [.int (kI 0)]) 1 rfl H
            exact pG_ret (pRetI H)
        · refine pG_neg (c := (M 224 (ix x1)) ≤ (M 224 (ix (x1 + (kI 1))))) g4 ?_
          replace H := pRun (ls' := [.ref 188, .int (x1 - (kI 1)), u2, u3, u4, u5]) (st' := []) 4 rfl H
          obtain ⟨g0, _, H⟩ := pGo (n1 := 1) rfl (mcb_115 rfl) H
          exact (ih _ (by omega)).1 _ _ _ _ _  _ H
    · intro x1 x2 u3 u4 u5 M H
      refine pG_mono (fun v N h => hC.2.1 x1 x2 M v N h) ?_
      unfold S_115_7
      replace H := pRun (ls' := [.ref 188, .int x1, .int x2, u3, u4, u5]) (st' := [.ref 188]) 1 rfl H
      replace H := pGetR (r := 224) (pRf hS (by decide +kernel)) rfl H
      replace H := pRun (ls' := [.ref 188, .int x1, .int x2, u3, u4, u5]) (st' := [.int x2, .ref 224]) 1 rfl H
      obtain ⟨g1, H⟩ := pIld (n := 5) (pLt (show pCa 224 5 = true by decide +kernel)) (pLn hS (show pCa 224 5 = true by decide +kernel)) H
      refine pG_gd g1 ?_
      replace H := pRun (ls' := [.ref 188, .int x1, .int x2, u3, u4, u5]) (st' := [.ref 188, .int (M 224 (ix x2))]) 1 rfl H
      replace H := pGetR (r := 224) (pRf hS (by decide +kernel)) rfl H
      replace H := pRun (ls' := [.ref 188, .int x1, .int x2, u3, u4, u5]) (st' := [.int x1, .ref 224, .int (M 224 (ix x2))]) 1 rfl H
      obtain ⟨g2, H⟩ := pIld (n := 5) (pLt (show pCa 224 5 = true by decide +kernel)) (pLn hS (show pCa 224 5 = true by decide +kernel)) H
      refine pG_gd g2 ?_
      rcases pIfc (n1 := 9) rfl (mcb_115 rfl) (mcb_115 rfl) H with ⟨g3, g0, _, H⟩ | ⟨g3, g0, _, H⟩
      · refine pG_pos (c := (M 224 (ix x1)) ≤ (M 224 (ix x2))) g3 ?_
        replace H := pRun (ls' := [.ref 188, .int x1, .int x2, u3, u4, u5]) (st' := [.ref 188]) 1 rfl H
        replace H := pGetR (r := 224) (pRf hS (by decide +kernel)) rfl H
        replace H := pRun (ls' := [.ref 188, .int x1, .int x2, u3, u4, u5]) (st' := [.int x1, .ref 224]) 1 rfl H
        obtain ⟨g4, H⟩ := pIld (n := 5) (pLt (show pCa 224 5 = true by decide +kernel)) (pLn hS (show pCa 224 5 = true by decide +kernel)) H
        refine pG_gd g4 ?_
        replace H := pRun (ls' := [.ref 188, .int x1, .int x2, .int (M 224 (ix x1)), u4, u5]) (st' := [.ref 188]) 2 rfl H
        replace H := pGetR (r := 224) (pRf hS (by decide +kernel)) rfl H
        replace H := pRun (ls' := [.ref 188, .int x1, .int x2, .int (M 224 (ix x1)), u4, u5]) (st' := [.ref 188, .int x1, .ref 224]) 2 rfl H
        replace H := pGetR (r := 224) (pRf hS (by decide +kernel)) rfl H
        replace H := pRun (ls' := [.ref 188, .int x1, .int x2, .int (M 224 (ix x1)), u4, u5]) (st' := [.int x2, .ref 224, .int x1, .ref 224]) 1 rfl H
        obtain ⟨g5, H⟩ := pIld (n := 5) (pLt (show pCa 224 5 = true by decide +kernel)) (pLn hS (show pCa 224 5 = true by decide +kernel)) H
        refine pG_gd g5 ?_
        obtain ⟨g6, M1, eM1, H⟩ := pIst (n := 5) (pLn hS (show pCa 224 5 = true by decide +kernel)) H
        refine pG_gd g6 (pG_put (M2 := M1) eM1 ?_)
        replace H := pRun (ls' := [.ref 188, .int x1, .int x2, .int (M 224 (ix x1)), u4, u5]) (st' := [.ref 188]) 1 rfl H
        replace H := pGetR (r := 224) (pRf hS (by decide +kernel)) rfl H
        replace H := pRun (ls' := [.ref 188, .int x1, .int x2, .int (M 224 (ix x1)), u4, u5]) (st' := [.int (M 224 (ix x1)), .int x2, .ref 224]) 2 rfl H
        obtain ⟨g7, M2, eM2, H⟩ := pIst (n := 5) (pLn hS (show pCa 224 5 = true by decide +kernel)) H
        refine pG_gd g7 (pG_put (M2 := M2) eM2 ?_)
        replace H := pRun (ls' := [.ref 188, .int x1, .int x2, .int (M 224 (ix x1)), .int (x1 + (kI 1)), u5]) (st' := [.ref 188]) 5 rfl H
        replace H := pGetN (v := M2 188 71) rfl (by decide) H
        replace H := pRun (ls' := [.ref 188, .int x1, .int x2, .int (M 224 (ix x1)), .int (x1 + (kI 1)), .int ((M2 188 71) - (kI 1))]) (st' := []) 3 rfl H
        obtain ⟨g0, _, H⟩ := pFall (mcb_115 rfl) H
        exact (ih _ (by omega)).2.2 _ _ _ _ _  _ H
      · refine pG_neg (c := (M 224 (ix x1)) ≤ (M 224 (ix x2))) g3 ?_
        replace H := pRun (ls' := [.ref 188, .int x1, .int (x2 - (kI 1)), u3, u4, u5]) (st' := []) 4 rfl H
        obtain ⟨g0, _, H⟩ := pGo (n1 := 7) rfl (mcb_115 rfl) H
        exact (ih _ (by omega)).2.1 _ _ _ _ _  _ H
    · intro x4 x5 u1 u2 u3 M H
      refine pG_mono (fun v N h => hC.2.2 x4 x5 M v N h) ?_
      unfold S_115_10
      replace H := pRun (ls' := [.ref 188, .int u1, .int u2, .int u3, .int x4, .int x5]) (st' := [.int x5, .int x4]) 2 rfl H
      rcases pIfc (n1 := 12) rfl (mcb_115 rfl) (mcb_115 rfl) H with ⟨g1, g0, _, H⟩ | ⟨g1, g0, _, H⟩
      · refine pG_pos (c := x5 ≤ x4) g1 ?_
        replace H := pRun (ls' := [.ref 188, .int u1, .int u2, .int u3, .int x4, .int x5]) (st' := [.int (kI 1)]) 1 rfl H
        exact pG_ret (pRetI H)
      · refine pG_neg (c := x5 ≤ x4) g1 ?_
        replace H := pRun (ls' := [.ref 188, .int u1, .int u2, .int u3, .int x4, .int x5]) (st' := [.ref 188]) 1 rfl H
        replace H := pGetR (r := 224) (pRf hS (by decide +kernel)) rfl H
        replace H := pRun (ls' := [.ref 188, .int u1, .int u2, .int u3, .int x4, .int x5]) (st' := [.int x4, .ref 224]) 1 rfl H
        obtain ⟨g2, H⟩ := pIld (n := 5) (pLt (show pCa 224 5 = true by decide +kernel)) (pLn hS (show pCa 224 5 = true by decide +kernel)) H
        refine pG_gd g2 ?_
        replace H := pRun (ls' := [.ref 188, .int u1, .int u2, .int (M 224 (ix x4)), .int x4, .int x5]) (st' := [.ref 188]) 2 rfl H
        replace H := pGetR (r := 224) (pRf hS (by decide +kernel)) rfl H
        replace H := pRun (ls' := [.ref 188, .int u1, .int u2, .int (M 224 (ix x4)), .int x4, .int x5]) (st' := [.ref 188, .int x4, .ref 224]) 2 rfl H
        replace H := pGetR (r := 224) (pRf hS (by decide +kernel)) rfl H
        replace H := pRun (ls' := [.ref 188, .int u1, .int u2, .int (M 224 (ix x4)), .int x4, .int x5]) (st' := [.int x5, .ref 224, .int x4, .ref 224]) 1 rfl H
        obtain ⟨g3, H⟩ := pIld (n := 5) (pLt (show pCa 224 5 = true by decide +kernel)) (pLn hS (show pCa 224 5 = true by decide +kernel)) H
        refine pG_gd g3 ?_
        obtain ⟨g4, M1, eM1, H⟩ := pIst (n := 5) (pLn hS (show pCa 224 5 = true by decide +kernel)) H
        refine pG_gd g4 (pG_put (M2 := M1) eM1 ?_)
        replace H := pRun (ls' := [.ref 188, .int u1, .int u2, .int (M 224 (ix x4)), .int x4, .int x5]) (st' := [.ref 188]) 1 rfl H
        replace H := pGetR (r := 224) (pRf hS (by decide +kernel)) rfl H
        replace H := pRun (ls' := [.ref 188, .int u1, .int u2, .int (M 224 (ix x4)), .int x4, .int x5]) (st' := [.int (M 224 (ix x4)), .int x5, .ref 224]) 2 rfl H
        obtain ⟨g5, M2, eM2, H⟩ := pIst (n := 5) (pLn hS (show pCa 224 5 = true by decide +kernel)) H
        refine pG_gd g5 (pG_put (M2 := M2) eM2 ?_)
        replace H := pRun (ls' := [.ref 188, .int u1, .int u2, .int (M 224 (ix x4)), .int (x4 + (kI 1)), .int (x5 - (kI 1))]) (st' := []) 8 rfl H
        obtain ⟨g0, _, H⟩ := pGo (n1 := 10) rfl (mcb_115 rfl) H
        exact (ih _ (by omega)).2.2 _ _ _ _ _  _ H
theorem L_115_1_ok {X : aX} {F d : Nat} {K : Nat → aK} (hS : pS K) {out : Option Value × aH} {f : Nat} {x1 : Int32} {u2 : Value} {u3 : Value} {u4 : Value} {u5 : Value} {M : pMem} (H : pm X F d 115 f 1 [.iload 1, .ifCond .lt 4] [.ref 188, .int x1, u2, u3, u4, u5] [] (pH K M) out) : pG eI K out (L_115_1 x1 M) := by
  refine pG_all (C := fun P : (Int32 → pMem → pT Int32) × (Int32 → Int32 → pMem → pT Int32) × (Int32 → Int32 → pMem → pT Int32) => C_115 P.1 P.2.1 P.2.2) (T := fun P => P.1 x1 M) eI_inj ((fun _ _ _ _ => True), (fun _ _ _ _ _ => True), (fun _ _ _ _ _ => True)) ?_ (fun P hP => (K_115 hS P.1 P.2.1 P.2.2 hP f).1 _ _ _ _ _ _ H)
  exact ⟨(fun _ _ _ _ _ => trivial), (fun _ _ _ _ _ _ => trivial), (fun _ _ _ _ _ _ => trivial)⟩
theorem L_115_7_ok {X : aX} {F d : Nat} {K : Nat → aK} (hS : pS K) {out : Option Value × aH} {f : Nat} {x1 : Int32} {x2 : Int32} {u3 : Value} {u4 : Value} {u5 : Value} {M : pMem} (H : pm X F d 115 f 7 [.aload 0, .getfield 131412290, .iload 2, .iaload, .aload 0, .getfield 131412290, .iload 1, .iaload, .if_icmp .ge 9] [.ref 188, .int x1, .int x2, u3, u4, u5] [] (pH K M) out) : pG eI K out (L_115_7 x1 x2 M) := by
  refine pG_all (C := fun P : (Int32 → pMem → pT Int32) × (Int32 → Int32 → pMem → pT Int32) × (Int32 → Int32 → pMem → pT Int32) => C_115 P.1 P.2.1 P.2.2) (T := fun P => P.2.1 x1 x2 M) eI_inj ((fun _ _ _ _ => True), (fun _ _ _ _ _ => True), (fun _ _ _ _ _ => True)) ?_ (fun P hP => (K_115 hS P.1 P.2.1 P.2.2 hP f).2.1 _ _ _ _ _ _ H)
  exact ⟨(fun _ _ _ _ _ => trivial), (fun _ _ _ _ _ _ => trivial), (fun _ _ _ _ _ _ => trivial)⟩
theorem L_115_10_ok {X : aX} {F d : Nat} {K : Nat → aK} (hS : pS K) {out : Option Value × aH} {f : Nat} {x4 : Int32} {x5 : Int32} {u1 : Int32} {u2 : Int32} {u3 : Int32} {M : pMem} (H : pm X F d 115 f 10 [.iload 4, .iload 5, .if_icmp .ge 12] [.ref 188, .int u1, .int u2, .int u3, .int x4, .int x5] [] (pH K M) out) : pG eI K out (L_115_10 x4 x5 M) := by
  refine pG_all (C := fun P : (Int32 → pMem → pT Int32) × (Int32 → Int32 → pMem → pT Int32) × (Int32 → Int32 → pMem → pT Int32) => C_115 P.1 P.2.1 P.2.2) (T := fun P => P.2.2 x4 x5 M) eI_inj ((fun _ _ _ _ => True), (fun _ _ _ _ _ => True), (fun _ _ _ _ _ => True)) ?_ (fun P hP => (K_115 hS P.1 P.2.1 P.2.2 hP f).2.2 _ _ _ _ _ _ H)
  exact ⟨(fun _ _ _ _ _ => trivial), (fun _ _ _ _ _ _ => trivial), (fun _ _ _ _ _ _ => trivial)⟩
theorem D_115_ok {X : aX} {F d : Nat} {K : Nat → aK} (hS : pS K) {M : pMem} {out : Option Value × aH} (H : aM X F d 115 [.ref 188] (pH K M) = some out) : pG eI K out (D_115 M) := by
  obtain ⟨d', g0, _, H⟩ := pEnt (n := 6) (ls := [.ref 188, aD, aD, aD, aD, aD]) (mcb_115 rfl) (by decide +kernel) rfl H
  unfold D_115
  replace H := pRun (ls' := [.ref 188, aD, aD, aD, aD, aD]) (st' := [.ref 188]) 1 rfl H
  replace H := pGetN (v := M 188 71) rfl (by decide) H
  replace H := pRun (ls' := [.ref 188, .int ((M 188 71) - (kI 2)), aD, aD, aD, aD]) (st' := []) 3 rfl H
  obtain ⟨g0, _, H⟩ := pFall (mcb_115 rfl) H
  exact L_115_1_ok hS  H
def l_115 : List (Nat × Nat) := [(224, 999)]
theorem FC_115 : C_115 (fun _ M _ N => pFr (l_115) M N) (fun _ _ M _ N => pFr (l_115) M N) (fun _ _ M _ N => pFr (l_115) M N) := ⟨fun x1 M => show pTf (l_115) M (S_115_1 _ _ _ x1 M) from (tf_if (tf_if (tf_jump pFr_refl) (tf_ret pFr_refl)) (tf_gd fun g2 => (tf_gd fun g3 => (tf_if (tf_if (tf_jump pFr_refl) (tf_ret pFr_refl)) (tf_jump pFr_refl))))), fun x1 x2 M => show pTf (l_115) M (S_115_7 _ _ _ x1 x2 M) from (tf_gd fun g1 => (tf_gd fun g2 => (tf_if (tf_gd fun g4 => (tf_gd fun g5 => (tf_gd fun g6 => (tf_putA pFr_refl 0 rfl fun M1 f1 => (tf_gd fun g7 => (tf_putA f1 0 rfl fun M2 f2 => (tf_jump f2))))))) (tf_jump pFr_refl)))), fun x4 x5 M => show pTf (l_115) M (S_115_10 _ _ _ x4 x5 M) from (tf_if (tf_ret pFr_refl) (tf_gd fun g2 => (tf_gd fun g3 => (tf_gd fun g4 => (tf_putA pFr_refl 0 rfl fun M1 f1 => (tf_gd fun g5 => (tf_putA f1 0 rfl fun M2 f2 => (tf_jump f2))))))))⟩
theorem F_115 {M : pMem} {v : Int32} {N : pMem} (h : D_115 M v N) : pFr (l_115) M N :=
  (show pTf (l_115) M (D_115 M) from (tf_jumpL (fun _ M _ N => pFr (l_115) M N, fun _ _ M _ N => pFr (l_115) M N, fun _ _ M _ N => pFr (l_115) M N) (FC_115) rfl pFr_refl)) v N h
/-- TwoCampsModel.parts(III)I -/
def S_116_5 (p1 : Int32) (p2 : Int32) (p3 : Int32) (P5 : Int32 → pMem → pT Int32) (P8 : Int32 → Int32 → pMem → pT Int32) (P11 : Int32 → Int32 → pMem → pT Int32) (x4 : Int32) (M : pMem) : pT Int32 := tIf ((M 188 71) ≤ x4) (P8 (kI (-1)) (kI 1) M) (tGd (pIn x4 5) <| tPut (aPut M 224 (ix x4) x4) fun M1 => P5 (x4 + kI 1) M1)
def S_116_8 (p1 : Int32) (p2 : Int32) (p3 : Int32) (P5 : Int32 → pMem → pT Int32) (P8 : Int32 → Int32 → pMem → pT Int32) (P11 : Int32 → Int32 → pMem → pT Int32) (x4 : Int32) (x5 : Int32) (M : pMem) : pT Int32 := tIf (x5 = 0) (tIf (¬ p3 = 0) (tGd (pIn (p3 - (kI 1)) 5) <| tRet (M 225 (ix (p3 - (kI 1)))) M) (tRet x4 M)) (tCall (D_114 p1 M) fun v1 M1 => tCall (D_114 p2 M1) fun v2 M2 => tIf ((f_44 (v1 - v2)) ≤ x4) (tCall (D_115 M2) fun v3 M3 => P8 x4 v3 M3) (P11 (f_44 (v1 - v2)) (kI 0) M2))
def S_116_11 (p1 : Int32) (p2 : Int32) (p3 : Int32) (P5 : Int32 → pMem → pT Int32) (P8 : Int32 → Int32 → pMem → pT Int32) (P11 : Int32 → Int32 → pMem → pT Int32) (x4 : Int32) (x7 : Int32) (M : pMem) : pT Int32 := tIf ((M 188 71) ≤ x7) (tCall (D_115 M) fun v1 M1 => P8 x4 v1 M1) (tGd (pIn x7 5) <| tGd (pIn x7 5) <| tPut (aPut M 225 (ix x7) (M 224 (ix x7))) fun M1 => P11 x4 (x7 + kI 1) M1)
def C_116 (p1 : Int32) (p2 : Int32) (p3 : Int32) (P5 : Int32 → pMem → pT Int32) (P8 : Int32 → Int32 → pMem → pT Int32) (P11 : Int32 → Int32 → pMem → pT Int32) : Prop := (∀ (x4 : Int32) M v N, S_116_5 p1 p2 p3 P5 P8 P11 x4 M v N → P5 x4 M v N) ∧ (∀ (x4 : Int32) (x5 : Int32) M v N, S_116_8 p1 p2 p3 P5 P8 P11 x4 x5 M v N → P8 x4 x5 M v N) ∧ (∀ (x4 : Int32) (x7 : Int32) M v N, S_116_11 p1 p2 p3 P5 P8 P11 x4 x7 M v N → P11 x4 x7 M v N)
def L_116_5 (p1 : Int32) (p2 : Int32) (p3 : Int32) (x4 : Int32) (M : pMem) : pT Int32 := fun v N => ∀ P : (Int32 → pMem → pT Int32) × (Int32 → Int32 → pMem → pT Int32) × (Int32 → Int32 → pMem → pT Int32), C_116 p1 p2 p3 P.1 P.2.1 P.2.2 → P.1 x4 M v N
def L_116_8 (p1 : Int32) (p2 : Int32) (p3 : Int32) (x4 : Int32) (x5 : Int32) (M : pMem) : pT Int32 := fun v N => ∀ P : (Int32 → pMem → pT Int32) × (Int32 → Int32 → pMem → pT Int32) × (Int32 → Int32 → pMem → pT Int32), C_116 p1 p2 p3 P.1 P.2.1 P.2.2 → P.2.1 x4 x5 M v N
def L_116_11 (p1 : Int32) (p2 : Int32) (p3 : Int32) (x4 : Int32) (x7 : Int32) (M : pMem) : pT Int32 := fun v N => ∀ P : (Int32 → pMem → pT Int32) × (Int32 → Int32 → pMem → pT Int32) × (Int32 → Int32 → pMem → pT Int32), C_116 p1 p2 p3 P.1 P.2.1 P.2.2 → P.2.2 x4 x7 M v N
def D_116 (p1 : Int32) (p2 : Int32) (p3 : Int32) (M : pMem) : pT Int32 := tPut (aPut M 188 0 (kI 0)) fun M1 => tIf ((f_109 p1) = 0) (tRet (kI (-1)) M1) (tIf ((f_109 p2) = 0) (tRet (kI (-1)) M1) (tIf (¬ (f_42 p3 (kI 0) (M1 188 71)) = 0) (L_116_5 p1 p2 p3 (kI 0) M1) (tRet (kI (-1)) M1)))
theorem K_116 {X : aX} {F d : Nat} {K : Nat → aK} (hS : pS K) {p1 : Int32} {p2 : Int32} {p3 : Int32} {out : Option Value × aH} (P5 : Int32 → pMem → pT Int32) (P8 : Int32 → Int32 → pMem → pT Int32) (P11 : Int32 → Int32 → pMem → pT Int32) (hC : C_116 p1 p2 p3 P5 P8 P11) : ∀ f, (∀ (x4 : Int32) (u5 : Value) (u6 : Value) (u7 : Value) M, pm X F d 116 f 5 [.iload 4, .aload 0, .getfield 131312284, .if_icmp .ge 7] [.ref 188, .int p1, .int p2, .int p3, .int x4, u5, u6, u7] [] (pH K M) out → pG eI K out (P5 x4 M)) ∧ (∀ (x4 : Int32) (x5 : Int32) (u6 : Value) (u7 : Value) M, pm X F d 116 f 8 [.iload 5, .ifCond .eq 14] [.ref 188, .int p1, .int p2, .int p3, .int x4, .int x5, u6, u7] [] (pH K M) out → pG eI K out (P8 x4 x5 M)) ∧ (∀ (x4 : Int32) (x7 : Int32) (u5 : Int32) (u6 : Int32) M, pm X F d 116 f 11 [.iload 7, .aload 0, .getfield 131312284, .if_icmp .ge 13] [.ref 188, .int p1, .int p2, .int p3, .int x4, .int u5, .int u6, .int x7] [] (pH K M) out → pG eI K out (P11 x4 x7 M)) := by
  intro f
  induction f using Nat.strongRecOn with
  | _ f ih =>
    refine ⟨?_, ?_, ?_⟩
    · intro x4 u5 u6 u7 M H
      refine pG_mono (fun v N h => hC.1 x4 M v N h) ?_
      unfold S_116_5
      replace H := pRun (ls' := [.ref 188, .int p1, .int p2, .int p3, .int x4, u5, u6, u7]) (st' := [.ref 188, .int x4]) 2 rfl H
      replace H := pGetN (v := M 188 71) rfl (by decide) H
      rcases pIfc (n1 := 7) rfl (mcb_116 rfl) (mcb_116 rfl) H with ⟨g1, g0, _, H⟩ | ⟨g1, g0, _, H⟩
      · refine pG_pos (c := (M 188 71) ≤ x4) g1 ?_
        replace H := pRun (ls' := [.ref 188, .int p1, .int p2, .int p3, .int (kI (-1)), .int (kI 1), u6, u7]) (st' := []) 4 rfl H
        obtain ⟨g0, _, H⟩ := pFall (mcb_116 rfl) H
        exact (ih _ (by omega)).2.1 _ _ _ _  _ H
      · refine pG_neg (c := (M 188 71) ≤ x4) g1 ?_
        replace H := pRun (ls' := [.ref 188, .int p1, .int p2, .int p3, .int x4, u5, u6, u7]) (st' := [.ref 188]) 1 rfl H
        replace H := pGetR (r := 224) (pRf hS (by decide +kernel)) rfl H
        replace H := pRun (ls' := [.ref 188, .int p1, .int p2, .int p3, .int x4, u5, u6, u7]) (st' := [.int x4, .int x4, .ref 224]) 2 rfl H
        obtain ⟨g2, M1, eM1, H⟩ := pIst (n := 5) (pLn hS (show pCa 224 5 = true by decide +kernel)) H
        refine pG_gd g2 (pG_put (M2 := M1) eM1 ?_)
        replace H := pRun (ls' := [.ref 188, .int p1, .int p2, .int p3, .int (x4 + kI 1), u5, u6, u7]) (st' := []) 1 rfl H
        obtain ⟨g0, _, H⟩ := pGo (n1 := 5) rfl (mcb_116 rfl) H
        exact (ih _ (by omega)).1 _ _ _ _  _ H
    · intro x4 x5 u6 u7 M H
      refine pG_mono (fun v N h => hC.2.1 x4 x5 M v N h) ?_
      unfold S_116_8
      replace H := pRun (ls' := [.ref 188, .int p1, .int p2, .int p3, .int x4, .int x5, u6, u7]) (st' := [.int x5]) 1 rfl H
      rcases pIf0 (n1 := 14) rfl (mcb_116 rfl) (mcb_116 rfl) H with ⟨g1, g0, _, H⟩ | ⟨g1, g0, _, H⟩
      · refine pG_pos (c := x5 = 0) g1 ?_
        replace H := pRun (ls' := [.ref 188, .int p1, .int p2, .int p3, .int x4, .int x5, u6, u7]) (st' := [.int p3]) 1 rfl H
        rcases pIf0 (n1 := 16) rfl (mcb_116 rfl) (mcb_116 rfl) H with ⟨g2, g0, _, H⟩ | ⟨g2, g0, _, H⟩
        · refine pG_pos (c := ¬ p3 = 0) g2 ?_
          replace H := pRun (ls' := [.ref 188, .int p1, .int p2, .int p3, .int x4, .int x5, u6, u7]) (st' := [.ref 188]) 1 rfl H
          replace H := pGetR (r := 225) (pRf hS (by decide +kernel)) rfl H
          replace H := pRun (ls' := [.ref 188, .int p1, .int p2, .int p3, .int x4, .int x5, u6, u7]) (st' := [.int (p3 - (kI 1)), .ref 225]) 3 rfl H
          obtain ⟨g3, H⟩ := pIld (n := 5) (pLt (show pCa 225 5 = true by decide +kernel)) (pLn hS (show pCa 225 5 = true by decide +kernel)) H
          refine pG_gd g3 ?_
          obtain ⟨g0, _, H⟩ := pFall (mcb_116 rfl) H
          exact pG_ret (pRetI H)
        · refine pG_neg (c := ¬ p3 = 0) g2 ?_
          replace H := pRun (ls' := [.ref 188, .int p1, .int p2, .int p3, .int x4, .int x5, u6, u7]) (st' := [.int x4]) 1 rfl H
          obtain ⟨g0, _, H⟩ := pGo (n1 := 17) rfl (mcb_116 rfl) H
          exact pG_ret (pRetI H)
      · refine pG_neg (c := x5 = 0) g1 ?_
        replace H := pRun (ls' := [.ref 188, .int p1, .int p2, .int p3, .int x4, .int x5, u6, u7]) (st' := [.int p1, .ref 188, .ref 188]) 3 rfl H
        obtain ⟨rv, h1, hc, H⟩ := pCalV 114 1 188 (as := [.int p1]) (rest := [.ref 188]) rfl (by decide) (by decide +kernel) rfl rfl H
        obtain ⟨v1, M1, hD, H⟩ := pUseI (D_114_ok hS hc) H
        refine pG_call (x := v1) (M1 := M1) hD ?_
        replace H := pRun (ls' := [.ref 188, .int p1, .int p2, .int p3, .int x4, .int x5, u6, u7]) (st' := [.int p2, .ref 188, .int v1, .ref 188]) 2 rfl H
        obtain ⟨rv, h1, hc, H⟩ := pCalV 114 1 188 (as := [.int p2]) (rest := [.int v1, .ref 188]) rfl (by decide) (by decide +kernel) rfl rfl H
        obtain ⟨v2, M2, hD, H⟩ := pUseI (D_114_ok hS hc) H
        refine pG_call (x := v2) (M1 := M2) hD ?_
        replace H := pRun (ls' := [.ref 188, .int p1, .int p2, .int p3, .int x4, .int x5, u6, u7]) (st' := [.int (v1 - v2), .ref 188]) 1 rfl H
        obtain ⟨rv, h1, hc, H⟩ := pCalV 44 1 188 (as := [.int (v1 - v2)]) (rest := []) rfl (by decide) (by decide +kernel) rfl rfl H
        replace H := pUseF (f_44_ok hS hc) H
        replace H := pRun (ls' := [.ref 188, .int p1, .int p2, .int p3, .int x4, .int x5, .int (f_44 (v1 - v2)), u7]) (st' := [.int x4, .int (f_44 (v1 - v2))]) 3 rfl H
        rcases pIfc (n1 := 13) rfl (mcb_116 rfl) (mcb_116 rfl) H with ⟨g2, g0, _, H⟩ | ⟨g2, g0, _, H⟩
        · refine pG_pos (c := (f_44 (v1 - v2)) ≤ x4) g2 ?_
          replace H := pRun (ls' := [.ref 188, .int p1, .int p2, .int p3, .int x4, .int x5, .int (f_44 (v1 - v2)), u7]) (st' := [.ref 188]) 1 rfl H
          obtain ⟨rv, h1, hc, H⟩ := pCalV 115 0 188 (as := []) (rest := []) rfl (by decide) (by decide +kernel) rfl rfl H
          obtain ⟨v3, M3, hD, H⟩ := pUseI (D_115_ok hS hc) H
          refine pG_call (x := v3) (M1 := M3) hD ?_
          replace H := pRun (ls' := [.ref 188, .int p1, .int p2, .int p3, .int x4, .int v3, .int (f_44 (v1 - v2)), u7]) (st' := []) 1 rfl H
          obtain ⟨g0, _, H⟩ := pGo (n1 := 8) rfl (mcb_116 rfl) H
          exact (ih _ (by omega)).2.1 _ _ _ _  _ H
        · refine pG_neg (c := (f_44 (v1 - v2)) ≤ x4) g2 ?_
          replace H := pRun (ls' := [.ref 188, .int p1, .int p2, .int p3, .int (f_44 (v1 - v2)), .int x5, .int (f_44 (v1 - v2)), .int (kI 0)]) (st' := []) 4 rfl H
          obtain ⟨g0, _, H⟩ := pFall (mcb_116 rfl) H
          exact (ih _ (by omega)).2.2 _ _ _ _  _ H
    · intro x4 x7 u5 u6 M H
      refine pG_mono (fun v N h => hC.2.2 x4 x7 M v N h) ?_
      unfold S_116_11
      replace H := pRun (ls' := [.ref 188, .int p1, .int p2, .int p3, .int x4, .int u5, .int u6, .int x7]) (st' := [.ref 188, .int x7]) 2 rfl H
      replace H := pGetN (v := M 188 71) rfl (by decide) H
      rcases pIfc (n1 := 13) rfl (mcb_116 rfl) (mcb_116 rfl) H with ⟨g1, g0, _, H⟩ | ⟨g1, g0, _, H⟩
      · refine pG_pos (c := (M 188 71) ≤ x7) g1 ?_
        replace H := pRun (ls' := [.ref 188, .int p1, .int p2, .int p3, .int x4, .int u5, .int u6, .int x7]) (st' := [.ref 188]) 1 rfl H
        obtain ⟨rv, h1, hc, H⟩ := pCalV 115 0 188 (as := []) (rest := []) rfl (by decide) (by decide +kernel) rfl rfl H
        obtain ⟨v1, M1, hD, H⟩ := pUseI (D_115_ok hS hc) H
        refine pG_call (x := v1) (M1 := M1) hD ?_
        replace H := pRun (ls' := [.ref 188, .int p1, .int p2, .int p3, .int x4, .int v1, .int u6, .int x7]) (st' := []) 1 rfl H
        obtain ⟨g0, _, H⟩ := pGo (n1 := 8) rfl (mcb_116 rfl) H
        exact (ih _ (by omega)).2.1 _ _ _ _  _ H
      · refine pG_neg (c := (M 188 71) ≤ x7) g1 ?_
        replace H := pRun (ls' := [.ref 188, .int p1, .int p2, .int p3, .int x4, .int u5, .int u6, .int x7]) (st' := [.ref 188]) 1 rfl H
        replace H := pGetR (r := 225) (pRf hS (by decide +kernel)) rfl H
        replace H := pRun (ls' := [.ref 188, .int p1, .int p2, .int p3, .int x4, .int u5, .int u6, .int x7]) (st' := [.ref 188, .int x7, .ref 225]) 2 rfl H
        replace H := pGetR (r := 224) (pRf hS (by decide +kernel)) rfl H
        replace H := pRun (ls' := [.ref 188, .int p1, .int p2, .int p3, .int x4, .int u5, .int u6, .int x7]) (st' := [.int x7, .ref 224, .int x7, .ref 225]) 1 rfl H
        obtain ⟨g2, H⟩ := pIld (n := 5) (pLt (show pCa 224 5 = true by decide +kernel)) (pLn hS (show pCa 224 5 = true by decide +kernel)) H
        refine pG_gd g2 ?_
        obtain ⟨g3, M1, eM1, H⟩ := pIst (n := 5) (pLn hS (show pCa 225 5 = true by decide +kernel)) H
        refine pG_gd g3 (pG_put (M2 := M1) eM1 ?_)
        replace H := pRun (ls' := [.ref 188, .int p1, .int p2, .int p3, .int x4, .int u5, .int u6, .int (x7 + kI 1)]) (st' := []) 1 rfl H
        obtain ⟨g0, _, H⟩ := pGo (n1 := 11) rfl (mcb_116 rfl) H
        exact (ih _ (by omega)).2.2 _ _ _ _  _ H
theorem L_116_5_ok {X : aX} {F d : Nat} {K : Nat → aK} (hS : pS K) {p1 : Int32} {p2 : Int32} {p3 : Int32} {out : Option Value × aH} {f : Nat} {x4 : Int32} {u5 : Value} {u6 : Value} {u7 : Value} {M : pMem} (H : pm X F d 116 f 5 [.iload 4, .aload 0, .getfield 131312284, .if_icmp .ge 7] [.ref 188, .int p1, .int p2, .int p3, .int x4, u5, u6, u7] [] (pH K M) out) : pG eI K out (L_116_5 p1 p2 p3 x4 M) := by
  refine pG_all (C := fun P : (Int32 → pMem → pT Int32) × (Int32 → Int32 → pMem → pT Int32) × (Int32 → Int32 → pMem → pT Int32) => C_116 p1 p2 p3 P.1 P.2.1 P.2.2) (T := fun P => P.1 x4 M) eI_inj ((fun _ _ _ _ => True), (fun _ _ _ _ _ => True), (fun _ _ _ _ _ => True)) ?_ (fun P hP => (K_116 hS P.1 P.2.1 P.2.2 hP f).1 _ _ _ _ _ H)
  exact ⟨(fun _ _ _ _ _ => trivial), (fun _ _ _ _ _ _ => trivial), (fun _ _ _ _ _ _ => trivial)⟩
theorem L_116_8_ok {X : aX} {F d : Nat} {K : Nat → aK} (hS : pS K) {p1 : Int32} {p2 : Int32} {p3 : Int32} {out : Option Value × aH} {f : Nat} {x4 : Int32} {x5 : Int32} {u6 : Value} {u7 : Value} {M : pMem} (H : pm X F d 116 f 8 [.iload 5, .ifCond .eq 14] [.ref 188, .int p1, .int p2, .int p3, .int x4, .int x5, u6, u7] [] (pH K M) out) : pG eI K out (L_116_8 p1 p2 p3 x4 x5 M) := by
  refine pG_all (C := fun P : (Int32 → pMem → pT Int32) × (Int32 → Int32 → pMem → pT Int32) × (Int32 → Int32 → pMem → pT Int32) => C_116 p1 p2 p3 P.1 P.2.1 P.2.2) (T := fun P => P.2.1 x4 x5 M) eI_inj ((fun _ _ _ _ => True), (fun _ _ _ _ _ => True), (fun _ _ _ _ _ => True)) ?_ (fun P hP => (K_116 hS P.1 P.2.1 P.2.2 hP f).2.1 _ _ _ _ _ H)
  exact ⟨(fun _ _ _ _ _ => trivial), (fun _ _ _ _ _ _ => trivial), (fun _ _ _ _ _ _ => trivial)⟩
theorem L_116_11_ok {X : aX} {F d : Nat} {K : Nat → aK} (hS : pS K) {p1 : Int32} {p2 : Int32} {p3 : Int32} {out : Option Value × aH} {f : Nat} {x4 : Int32} {x7 : Int32} {u5 : Int32} {u6 : Int32} {M : pMem} (H : pm X F d 116 f 11 [.iload 7, .aload 0, .getfield 131312284, .if_icmp .ge 13] [.ref 188, .int p1, .int p2, .int p3, .int x4, .int u5, .int u6, .int x7] [] (pH K M) out) : pG eI K out (L_116_11 p1 p2 p3 x4 x7 M) := by
  refine pG_all (C := fun P : (Int32 → pMem → pT Int32) × (Int32 → Int32 → pMem → pT Int32) × (Int32 → Int32 → pMem → pT Int32) => C_116 p1 p2 p3 P.1 P.2.1 P.2.2) (T := fun P => P.2.2 x4 x7 M) eI_inj ((fun _ _ _ _ => True), (fun _ _ _ _ _ => True), (fun _ _ _ _ _ => True)) ?_ (fun P hP => (K_116 hS P.1 P.2.1 P.2.2 hP f).2.2 _ _ _ _ _ H)
  exact ⟨(fun _ _ _ _ _ => trivial), (fun _ _ _ _ _ _ => trivial), (fun _ _ _ _ _ _ => trivial)⟩
theorem D_116_ok {X : aX} {F d : Nat} {K : Nat → aK} (hS : pS K) {p1 : Int32} {p2 : Int32} {p3 : Int32} {M : pMem} {out : Option Value × aH} (H : aM X F d 116 [.ref 188, .int p1, .int p2, .int p3] (pH K M) = some out) : pG eI K out (D_116 p1 p2 p3 M) := by
  obtain ⟨d', g0, _, H⟩ := pEnt (n := 8) (ls := [.ref 188, .int p1, .int p2, .int p3, aD, aD, aD, aD]) (mcb_116 rfl) (by decide +kernel) rfl H
  unfold D_116
  replace H := pRun (ls' := [.ref 188, .int p1, .int p2, .int p3, aD, aD, aD, aD]) (st' := [.int (kI 0), .ref 188]) 2 rfl H
  obtain ⟨M1, eM1, H⟩ := pPutN (j := 0) rfl H
  refine pG_put (M2 := M1) eM1 ?_
  replace H := pRun (ls' := [.ref 188, .int p1, .int p2, .int p3, aD, aD, aD, aD]) (st' := [.int p1, .ref 188]) 2 rfl H
  obtain ⟨rv, h1, hc, H⟩ := pCalV 109 1 188 (as := [.int p1]) (rest := []) rfl (by decide) (by decide +kernel) rfl rfl H
  replace H := pUseF (f_109_ok hS hc) H
  rcases pIf0 (n1 := 3) rfl (mcb_116 rfl) (mcb_116 rfl) H with ⟨g1, g0, _, H⟩ | ⟨g1, g0, _, H⟩
  · refine pG_pos (c := (f_109 p1) = 0) g1 ?_
    replace H := pRun (ls' := [.ref 188, .int p1, .int p2, .int p3, aD, aD, aD, aD]) (st' := [.int (kI (-1))]) 1 rfl H
    exact pG_ret (pRetI H)
  · refine pG_neg (c := (f_109 p1) = 0) g1 ?_
    replace H := pRun (ls' := [.ref 188, .int p1, .int p2, .int p3, aD, aD, aD, aD]) (st' := [.int p2, .ref 188]) 2 rfl H
    obtain ⟨rv, h1, hc, H⟩ := pCalV 109 1 188 (as := [.int p2]) (rest := []) rfl (by decide) (by decide +kernel) rfl rfl H
    replace H := pUseF (f_109_ok hS hc) H
    rcases pIf0 (n1 := 3) rfl (mcb_116 rfl) (mcb_116 rfl) H with ⟨g2, g0, _, H⟩ | ⟨g2, g0, _, H⟩
    · refine pG_pos (c := (f_109 p2) = 0) g2 ?_
      replace H := pRun (ls' := [.ref 188, .int p1, .int p2, .int p3, aD, aD, aD, aD]) (st' := [.int (kI (-1))]) 1 rfl H
      exact pG_ret (pRetI H)
    · refine pG_neg (c := (f_109 p2) = 0) g2 ?_
      replace H := pRun (ls' := [.ref 188, .int p1, .int p2, .int p3, aD, aD, aD, aD]) (st' := [.ref 188, .int (kI 0), .int p3, .ref 188]) 4 rfl H
      replace H := pGetN (v := M1 188 71) rfl (by decide) H
      obtain ⟨rv, h1, hc, H⟩ := pCalV 42 3 188 (as := [.int p3, .int (kI 0), .int (M1 188 71)]) (rest := []) rfl (by decide) (by decide +kernel) rfl rfl H
      replace H := pUseF (f_42_ok hS hc) H
      rcases pIf0 (n1 := 4) rfl (mcb_116 rfl) (mcb_116 rfl) H with ⟨g3, g0, _, H⟩ | ⟨g3, g0, _, H⟩
      · refine pG_pos (c := ¬ (f_42 p3 (kI 0) (M1 188 71)) = 0) g3 ?_
        replace H := pRun (ls' := [.ref 188, .int p1, .int p2, .int p3, .int (kI 0), aD, aD, aD]) (st' := []) 2 rfl H
        obtain ⟨g0, _, H⟩ := pFall (mcb_116 rfl) H
        exact L_116_5_ok hS  H
      · refine pG_neg (c := ¬ (f_42 p3 (kI 0) (M1 188 71)) = 0) g3 ?_
        replace H := pRun (ls' := [.ref 188, .int p1, .int p2, .int p3, aD, aD, aD, aD]) (st' := [.int (kI (-1))]) 1 rfl H
        exact pG_ret (pRetI H)
def l_116 : List (Nat × Nat) := [(224, 999), (188, 69), (188, 68), (222, 999), (188, 1), (188, 3), (188, 4), (188, 17), (188, 18), (188, 19), (188, 20), (188, 21), (196, 999), (197, 999), (198, 999), (199, 999), (200, 999), (191, 999), (192, 999), (194, 999), (201, 999), (188, 54), (188, 55), (188, 57), (188, 56), (225, 999)]
theorem FC_116 {p1 : Int32} {p2 : Int32} {p3 : Int32} : C_116 p1 p2 p3 (fun _ M _ N => pFr (l_116) M N) (fun _ _ M _ N => pFr (l_116) M N) (fun _ _ M _ N => pFr (l_116) M N) := ⟨fun x4 M => show pTf (l_116) M (S_116_5 p1 p2 p3 _ _ _ x4 M) from (tf_if (tf_jump pFr_refl) (tf_gd fun g2 => (tf_putA pFr_refl 0 rfl fun M1 f1 => (tf_jump f1)))), fun x4 x5 M => show pTf (l_116) M (S_116_8 p1 p2 p3 _ _ _ x4 x5 M) from (tf_if (tf_if (tf_gd fun g3 => (tf_ret pFr_refl)) (tf_ret pFr_refl)) (tf_call pFr_refl (fun _ _ h => F_114 h) [1, 2, 3, 4, 5, 6, 7, 8, 9, 10, 11, 12, 13, 14, 15, 16, 17, 18, 19, 20, 21, 22, 23, 24] rfl fun _ M1 f1 => (tf_call f1 (fun _ _ h => F_114 h) [1, 2, 3, 4, 5, 6, 7, 8, 9, 10, 11, 12, 13, 14, 15, 16, 17, 18, 19, 20, 21, 22, 23, 24] rfl fun _ M2 f2 => (tf_if (tf_call f2 (fun _ _ h => F_115 h) [0] rfl fun _ M3 f3 => (tf_jump f3)) (tf_jump f2))))), fun x4 x7 M => show pTf (l_116) M (S_116_11 p1 p2 p3 _ _ _ x4 x7 M) from (tf_if (tf_call pFr_refl (fun _ _ h => F_115 h) [0] rfl fun _ M1 f1 => (tf_jump f1)) (tf_gd fun g2 => (tf_gd fun g3 => (tf_putA pFr_refl 25 rfl fun M1 f1 => (tf_jump f1)))))⟩
theorem F_116 {p1 : Int32} {p2 : Int32} {p3 : Int32} {M : pMem} {v : Int32} {N : pMem} (h : D_116 p1 p2 p3 M v N) : pFr (l_116) M N :=
  (show pTf (l_116) M (D_116 p1 p2 p3 M) from (tf_putS1 pFr_refl rfl fun M1 f1 => (tf_if (tf_ret f1) (tf_if (tf_ret f1) (tf_if (tf_jumpL (fun _ M _ N => pFr (l_116) M N, fun _ _ M _ N => pFr (l_116) M N, fun _ _ M _ N => pFr (l_116) M N) (FC_116) rfl f1) (tf_ret f1)))))) v N h
/-- TwoCampsModel.told(II)Z -/
def D_117 (p1 : Int32) (p2 : Int32) (M : pMem) : pT Int32 := tPut (aPut M 188 0 (kI 0)) fun M1 => tIf ((f_42 p1 (kI 1) (kI 24)) = 0) (tRet (kI 0) M1) (tIf (p2 = (kI (-100))) (tIf (p2 = (kI (-100))) (tGd (pIn (p1 - (kI 1)) 24) <| tPut (aPut M1 226 (ix (p1 - (kI 1))) (kI 0)) fun M2 => tGd (pIn (p1 - (kI 1)) 24) <| tPut (aPut M2 227 (ix (p1 - (kI 1))) p2) fun M3 => tRet (kI 1) M3) (tGd (pIn (p1 - (kI 1)) 24) <| tPut (aPut M1 226 (ix (p1 - (kI 1))) (kI 1)) fun M2 => tGd (pIn (p1 - (kI 1)) 24) <| tPut (aPut M2 227 (ix (p1 - (kI 1))) p2) fun M3 => tRet (kI 1) M3)) (tIf (¬ (f_42 p2 (kI (-50)) (kI 50)) = 0) (tIf (p2 = (kI (-100))) (tGd (pIn (p1 - (kI 1)) 24) <| tPut (aPut M1 226 (ix (p1 - (kI 1))) (kI 0)) fun M2 => tGd (pIn (p1 - (kI 1)) 24) <| tPut (aPut M2 227 (ix (p1 - (kI 1))) p2) fun M3 => tRet (kI 1) M3) (tGd (pIn (p1 - (kI 1)) 24) <| tPut (aPut M1 226 (ix (p1 - (kI 1))) (kI 1)) fun M2 => tGd (pIn (p1 - (kI 1)) 24) <| tPut (aPut M2 227 (ix (p1 - (kI 1))) p2) fun M3 => tRet (kI 1) M3)) (tRet (kI 0) M1)))
theorem D_117_ok {X : aX} {F d : Nat} {K : Nat → aK} (hS : pS K) {p1 : Int32} {p2 : Int32} {M : pMem} {out : Option Value × aH} (H : aM X F d 117 [.ref 188, .int p1, .int p2] (pH K M) = some out) : pG eI K out (D_117 p1 p2 M) := by
  obtain ⟨d', g0, _, H⟩ := pEnt (n := 3) (ls := [.ref 188, .int p1, .int p2]) (mcb_117 rfl) (by decide +kernel) rfl H
  unfold D_117
  replace H := pRun (ls' := [.ref 188, .int p1, .int p2]) (st' := [.int (kI 0), .ref 188]) 2 rfl H
  obtain ⟨M1, eM1, H⟩ := pPutN (j := 0) rfl H
  refine pG_put (M2 := M1) eM1 ?_
  replace H := pRun (ls' := [.ref 188, .int p1, .int p2]) (st' := [.int (kI 24), .int (kI 1), .int p1, .ref 188]) 4 rfl H
  obtain ⟨rv, h1, hc, H⟩ := pCalV 42 3 188 (as := [.int p1, .int (kI 1), .int (kI 24)]) (rest := []) rfl (by decide) (by decide +kernel) rfl rfl H
  replace H := pUseF (f_42_ok hS hc) H
  rcases pIf0 (n1 := 3) rfl (mcb_117 rfl) (mcb_117 rfl) H with ⟨g1, g0, _, H⟩ | ⟨g1, g0, _, H⟩
  · refine pG_pos (c := (f_42 p1 (kI 1) (kI 24)) = 0) g1 ?_
    replace H := pRun (ls' := [.ref 188, .int p1, .int p2]) (st' := [.int (kI 0)]) 1 rfl H
    exact pG_ret (pRetI H)
  · refine pG_neg (c := (f_42 p1 (kI 1) (kI 24)) = 0) g1 ?_
    replace H := pRun (ls' := [.ref 188, .int p1, .int p2]) (st' := [.int (kI (-100)), .int p2]) 2 rfl H
    rcases pIfc (n1 := 4) rfl (mcb_117 rfl) (mcb_117 rfl) H with ⟨g2, g0, _, H⟩ | ⟨g2, g0, _, H⟩
    · refine pG_pos (c := p2 = (kI (-100))) g2 ?_
      replace H := pRun (ls' := [.ref 188, .int p1, .int p2]) (st' := [.ref 188]) 1 rfl H
      replace H := pGetR (r := 226) (pRf hS (by decide +kernel)) rfl H
      replace H := pRun (ls' := [.ref 188, .int p1, .int p2]) (st' := [.int (kI (-100)), .int p2, .int (p1 - (kI 1)), .ref 226]) 5 rfl H
      rcases pIfc (n1 := 6) rfl (mcb_117 rfl) (mcb_117 rfl) H with ⟨g3, g0, _, H⟩ | ⟨g3, g0, _, H⟩
      · refine pG_pos (c := p2 = (kI (-100))) g3 ?_
        replace H := pRun (ls' := [.ref 188, .int p1, .int p2]) (st' := [.int (kI 0), .int (p1 - (kI 1)), .ref 226]) 1 rfl H
        obtain ⟨g0, _, H⟩ := pFall (mcb_117 rfl) H
        obtain ⟨g4, M2, eM2, H⟩ := pBst (n := 24) (pLn hS (show pCa 226 24 = true by decide +kernel)) H
        refine pG_gd g4 (pG_put (M2 := M2) eM2 ?_)
        replace H := pRun (ls' := [.ref 188, .int p1, .int p2]) (st' := [.ref 188]) 1 rfl H
        replace H := pGetR (r := 227) (pRf hS (by decide +kernel)) rfl H
        replace H := pRun (ls' := [.ref 188, .int p1, .int p2]) (st' := [.int p2, .int (p1 - (kI 1)), .ref 227]) 4 rfl H
        obtain ⟨g5, M3, eM3, H⟩ := pIst (n := 24) (pLn hS (show pCa 227 24 = true by decide +kernel)) H
        refine pG_gd g5 (pG_put (M2 := M3) eM3 ?_)
        replace H := pRun (ls' := [.ref 188, .int p1, .int p2]) (st' := [.int (kI 1)]) 1 rfl H
        exact pG_ret (pRetI H)
      · refine pG_neg (c := p2 = (kI (-100))) g3 ?_
        replace H := pRun (ls' := [.ref 188, .int p1, .int p2]) (st' := [.int (kI 1), .int (p1 - (kI 1)), .ref 226]) 1 rfl H
        obtain ⟨g0, _, H⟩ := pGo (n1 := 7) rfl (mcb_117 rfl) H
        obtain ⟨g4, M2, eM2, H⟩ := pBst (n := 24) (pLn hS (show pCa 226 24 = true by decide +kernel)) H
        refine pG_gd g4 (pG_put (M2 := M2) eM2 ?_)
        replace H := pRun (ls' := [.ref 188, .int p1, .int p2]) (st' := [.ref 188]) 1 rfl H
        replace H := pGetR (r := 227) (pRf hS (by decide +kernel)) rfl H
        replace H := pRun (ls' := [.ref 188, .int p1, .int p2]) (st' := [.int p2, .int (p1 - (kI 1)), .ref 227]) 4 rfl H
        obtain ⟨g5, M3, eM3, H⟩ := pIst (n := 24) (pLn hS (show pCa 227 24 = true by decide +kernel)) H
        refine pG_gd g5 (pG_put (M2 := M3) eM3 ?_)
        replace H := pRun (ls' := [.ref 188, .int p1, .int p2]) (st' := [.int (kI 1)]) 1 rfl H
        exact pG_ret (pRetI H)
    · refine pG_neg (c := p2 = (kI (-100))) g2 ?_
      replace H := pRun (ls' := [.ref 188, .int p1, .int p2]) (st' := [.int (kI 50), .int (kI (-50)), .int p2, .ref 188]) 4 rfl H
      obtain ⟨rv, h1, hc, H⟩ := pCalV 42 3 188 (as := [.int p2, .int (kI (-50)), .int (kI 50)]) (rest := []) rfl (by decide) (by decide +kernel) rfl rfl H
      replace H := pUseF (f_42_ok hS hc) H
      rcases pIf0 (n1 := 4) rfl (mcb_117 rfl) (mcb_117 rfl) H with ⟨g3, g0, _, H⟩ | ⟨g3, g0, _, H⟩
      · refine pG_pos (c := ¬ (f_42 p2 (kI (-50)) (kI 50)) = 0) g3 ?_
        replace H := pRun (ls' := [.ref 188, .int p1, .int p2]) (st' := [.ref 188]) 1 rfl H
        replace H := pGetR (r := 226) (pRf hS (by decide +kernel)) rfl H
        replace H := pRun (ls' := [.ref 188, .int p1, .int p2]) (st' := [.int (kI (-100)), .int p2, .int (p1 - (kI 1)), .ref 226]) 5 rfl H
        rcases pIfc (n1 := 6) rfl (mcb_117 rfl) (mcb_117 rfl) H with ⟨g4, g0, _, H⟩ | ⟨g4, g0, _, H⟩
        · refine pG_pos (c := p2 = (kI (-100))) g4 ?_
          replace H := pRun (ls' := [.ref 188, .int p1, .int p2]) (st' := [.int (kI 0), .int (p1 - (kI 1)), .ref 226]) 1 rfl H
          obtain ⟨g0, _, H⟩ := pFall (mcb_117 rfl) H
          obtain ⟨g5, M2, eM2, H⟩ := pBst (n := 24) (pLn hS (show pCa 226 24 = true by decide +kernel)) H
          refine pG_gd g5 (pG_put (M2 := M2) eM2 ?_)
          replace H := pRun (ls' := [.ref 188, .int p1, .int p2]) (st' := [.ref 188]) 1 rfl H
          replace H := pGetR (r := 227) (pRf hS (by decide +kernel)) rfl H
          replace H := pRun (ls' := [.ref 188, .int p1, .int p2]) (st' := [.int p2, .int (p1 - (kI 1)), .ref 227]) 4 rfl H
          obtain ⟨g6, M3, eM3, H⟩ := pIst (n := 24) (pLn hS (show pCa 227 24 = true by decide +kernel)) H
          refine pG_gd g6 (pG_put (M2 := M3) eM3 ?_)
          replace H := pRun (ls' := [.ref 188, .int p1, .int p2]) (st' := [.int (kI 1)]) 1 rfl H
          exact pG_ret (pRetI H)
        · refine pG_neg (c := p2 = (kI (-100))) g4 ?_
          replace H := pRun (ls' := [.ref 188, .int p1, .int p2]) (st' := [.int (kI 1), .int (p1 - (kI 1)), .ref 226]) 1 rfl H
          obtain ⟨g0, _, H⟩ := pGo (n1 := 7) rfl (mcb_117 rfl) H
          obtain ⟨g5, M2, eM2, H⟩ := pBst (n := 24) (pLn hS (show pCa 226 24 = true by decide +kernel)) H
          refine pG_gd g5 (pG_put (M2 := M2) eM2 ?_)
          replace H := pRun (ls' := [.ref 188, .int p1, .int p2]) (st' := [.ref 188]) 1 rfl H
          replace H := pGetR (r := 227) (pRf hS (by decide +kernel)) rfl H
          replace H := pRun (ls' := [.ref 188, .int p1, .int p2]) (st' := [.int p2, .int (p1 - (kI 1)), .ref 227]) 4 rfl H
          obtain ⟨g6, M3, eM3, H⟩ := pIst (n := 24) (pLn hS (show pCa 227 24 = true by decide +kernel)) H
          refine pG_gd g6 (pG_put (M2 := M3) eM3 ?_)
          replace H := pRun (ls' := [.ref 188, .int p1, .int p2]) (st' := [.int (kI 1)]) 1 rfl H
          exact pG_ret (pRetI H)
      · refine pG_neg (c := ¬ (f_42 p2 (kI (-50)) (kI 50)) = 0) g3 ?_
        replace H := pRun (ls' := [.ref 188, .int p1, .int p2]) (st' := [.int (kI 0)]) 1 rfl H
        exact pG_ret (pRetI H)
def l_117 : List (Nat × Nat) := [(226, 999), (227, 999)]
theorem F_117 {p1 : Int32} {p2 : Int32} {M : pMem} {v : Int32} {N : pMem} (h : D_117 p1 p2 M v N) : pFr (l_117) M N :=
  (show pTf (l_117) M (D_117 p1 p2 M) from (tf_putS1 pFr_refl rfl fun M1 f1 => (tf_if (tf_ret f1) (tf_if (tf_if (tf_gd fun g4 => (tf_putA f1 0 rfl fun M2 f2 => (tf_gd fun g5 => (tf_putA f2 1 rfl fun M3 f3 => (tf_ret f3))))) (tf_gd fun g4 => (tf_putA f1 0 rfl fun M2 f2 => (tf_gd fun g5 => (tf_putA f2 1 rfl fun M3 f3 => (tf_ret f3)))))) (tf_if (tf_if (tf_gd fun g5 => (tf_putA f1 0 rfl fun M2 f2 => (tf_gd fun g6 => (tf_putA f2 1 rfl fun M3 f3 => (tf_ret f3))))) (tf_gd fun g5 => (tf_putA f1 0 rfl fun M2 f2 => (tf_gd fun g6 => (tf_putA f2 1 rfl fun M3 f3 => (tf_ret f3)))))) (tf_ret f1)))))) v N h
/-- TwoCampsModel.offBy(II)I -/
def D_118 (p1 : Int32) (p2 : Int32) (M : pMem) : pT Int32 := tCall (D_108 (kI 1) M) fun _ M1 => tPut (aPut M1 188 4 p2) fun M2 => tCall (D_105 p1 (kI 1) M2) fun _ M3 => tCall (D_108 (kI 0) M3) fun _ M4 => tRet (M4 188 66) M4
theorem D_118_ok {X : aX} {F d : Nat} {K : Nat → aK} (hS : pS K) {p1 : Int32} {p2 : Int32} {M : pMem} {out : Option Value × aH} (H : aM X F d 118 [.ref 188, .int p1, .int p2] (pH K M) = some out) : pG eI K out (D_118 p1 p2 M) := by
  obtain ⟨d', g0, _, H⟩ := pEnt (n := 3) (ls := [.ref 188, .int p1, .int p2]) (mcb_118 rfl) (by decide +kernel) rfl H
  unfold D_118
  replace H := pRun (ls' := [.ref 188, .int p1, .int p2]) (st' := [.int (kI 1), .ref 188]) 2 rfl H
  obtain ⟨rv, h1, hc, H⟩ := pCalV 108 1 188 (as := [.int (kI 1)]) (rest := []) rfl (by decide) (by decide +kernel) rfl rfl H
  obtain ⟨v1, M1, hD, H⟩ := pUseU (D_108_ok hS hc) H
  refine pG_call (x := v1) (M1 := M1) hD ?_
  replace H := pRun (ls' := [.ref 188, .int p1, .int p2]) (st' := [.int p2, .ref 188]) 2 rfl H
  obtain ⟨M2, eM2, H⟩ := pPutN (j := 4) rfl H
  refine pG_put (M2 := M2) eM2 ?_
  replace H := pRun (ls' := [.ref 188, .int p1, .int p2]) (st' := [.int (kI 1), .int p1, .ref 188]) 3 rfl H
  obtain ⟨rv, h1, hc, H⟩ := pCalV 105 2 188 (as := [.int p1, .int (kI 1)]) (rest := []) rfl (by decide) (by decide +kernel) rfl rfl H
  obtain ⟨v2, M3, hD, H⟩ := pUseU (D_105_ok hS hc) H
  refine pG_call (x := v2) (M1 := M3) hD ?_
  replace H := pRun (ls' := [.ref 188, .int p1, .int p2]) (st' := [.int (kI 0), .ref 188]) 2 rfl H
  obtain ⟨rv, h1, hc, H⟩ := pCalV 108 1 188 (as := [.int (kI 0)]) (rest := []) rfl (by decide) (by decide +kernel) rfl rfl H
  obtain ⟨v3, M4, hD, H⟩ := pUseU (D_108_ok hS hc) H
  refine pG_call (x := v3) (M1 := M4) hD ?_
  replace H := pRun (ls' := [.ref 188, .int p1, .int p2]) (st' := [.ref 188]) 1 rfl H
  replace H := pGetN (v := M4 188 66) rfl (by decide) H
  exact pG_ret (pRetI H)
def l_118 : List (Nat × Nat) := [(188, 69), (188, 68), (222, 999), (188, 1), (188, 3), (188, 4), (188, 17), (188, 18), (188, 19), (188, 20), (188, 21), (196, 999), (197, 999), (198, 999), (199, 999), (200, 999), (191, 999), (192, 999), (194, 999), (201, 999), (188, 60), (188, 61), (188, 62), (188, 63), (188, 64), (188, 65), (188, 66), (188, 54), (188, 55), (188, 57), (188, 56)]
theorem F_118 {p1 : Int32} {p2 : Int32} {M : pMem} {v : Int32} {N : pMem} (h : D_118 p1 p2 M v N) : pFr (l_118) M N :=
  (show pTf (l_118) M (D_118 p1 p2 M) from (tf_call pFr_refl (fun _ _ h => F_108 h) [0, 1, 2, 3, 4, 5, 6, 7, 8, 9, 10, 11, 12, 13, 14, 15, 16, 17, 18, 19] rfl fun _ M1 f1 => (tf_put f1 5 rfl fun M2 f2 => (tf_call f2 (fun _ _ h => F_105 h) [20, 21, 22, 23, 24, 25, 26, 6, 7, 8, 9, 10, 18, 27, 28, 12, 13, 29, 16, 30, 11, 17, 19, 4, 3, 14, 15] rfl fun _ M3 f3 => (tf_call f3 (fun _ _ h => F_108 h) [0, 1, 2, 3, 4, 5, 6, 7, 8, 9, 10, 11, 12, 13, 14, 15, 16, 17, 18, 19] rfl fun _ M4 f4 => (tf_ret f4)))))) v N h
/-- TwoCampsModel.off(II)I -/
def D_119 (p1 : Int32) (p2 : Int32) (M : pMem) : pT Int32 := tPut (aPut M 188 0 (kI 0)) fun M1 => tIf ((f_109 p1) = 0) (tRet (kI (-1)) M1) (tIf ((f_109 p2) = 0) (tRet (kI (-1)) M1) (tCall (D_118 p1 p2 M1) fun v1 M2 => tRet v1 M2))
theorem D_119_ok {X : aX} {F d : Nat} {K : Nat → aK} (hS : pS K) {p1 : Int32} {p2 : Int32} {M : pMem} {out : Option Value × aH} (H : aM X F d 119 [.ref 188, .int p1, .int p2] (pH K M) = some out) : pG eI K out (D_119 p1 p2 M) := by
  obtain ⟨d', g0, _, H⟩ := pEnt (n := 3) (ls := [.ref 188, .int p1, .int p2]) (mcb_119 rfl) (by decide +kernel) rfl H
  unfold D_119
  replace H := pRun (ls' := [.ref 188, .int p1, .int p2]) (st' := [.int (kI 0), .ref 188]) 2 rfl H
  obtain ⟨M1, eM1, H⟩ := pPutN (j := 0) rfl H
  refine pG_put (M2 := M1) eM1 ?_
  replace H := pRun (ls' := [.ref 188, .int p1, .int p2]) (st' := [.int p1, .ref 188]) 2 rfl H
  obtain ⟨rv, h1, hc, H⟩ := pCalV 109 1 188 (as := [.int p1]) (rest := []) rfl (by decide) (by decide +kernel) rfl rfl H
  replace H := pUseF (f_109_ok hS hc) H
  rcases pIf0 (n1 := 3) rfl (mcb_119 rfl) (mcb_119 rfl) H with ⟨g1, g0, _, H⟩ | ⟨g1, g0, _, H⟩
  · refine pG_pos (c := (f_109 p1) = 0) g1 ?_
    replace H := pRun (ls' := [.ref 188, .int p1, .int p2]) (st' := [.int (kI (-1))]) 1 rfl H
    obtain ⟨g0, _, H⟩ := pFall (mcb_119 rfl) H
    exact pG_ret (pRetI H)
  · refine pG_neg (c := (f_109 p1) = 0) g1 ?_
    replace H := pRun (ls' := [.ref 188, .int p1, .int p2]) (st' := [.int p2, .ref 188]) 2 rfl H
    obtain ⟨rv, h1, hc, H⟩ := pCalV 109 1 188 (as := [.int p2]) (rest := []) rfl (by decide) (by decide +kernel) rfl rfl H
    replace H := pUseF (f_109_ok hS hc) H
    rcases pIf0 (n1 := 3) rfl (mcb_119 rfl) (mcb_119 rfl) H with ⟨g2, g0, _, H⟩ | ⟨g2, g0, _, H⟩
    · refine pG_pos (c := (f_109 p2) = 0) g2 ?_
      replace H := pRun (ls' := [.ref 188, .int p1, .int p2]) (st' := [.int (kI (-1))]) 1 rfl H
      obtain ⟨g0, _, H⟩ := pFall (mcb_119 rfl) H
      exact pG_ret (pRetI H)
    · refine pG_neg (c := (f_109 p2) = 0) g2 ?_
      replace H := pRun (ls' := [.ref 188, .int p1, .int p2]) (st' := [.int p2, .int p1, .ref 188]) 3 rfl H
      obtain ⟨rv, h1, hc, H⟩ := pCalV 118 2 188 (as := [.int p1, .int p2]) (rest := []) rfl (by decide) (by decide +kernel) rfl rfl H
      obtain ⟨v1, M2, hD, H⟩ := pUseI (D_118_ok hS hc) H
      refine pG_call (x := v1) (M1 := M2) hD ?_
      obtain ⟨g0, _, H⟩ := pGo (n1 := 4) rfl (mcb_119 rfl) H
      exact pG_ret (pRetI H)
def l_119 : List (Nat × Nat) := [(188, 69), (188, 68), (222, 999), (188, 1), (188, 3), (188, 4), (188, 17), (188, 18), (188, 19), (188, 20), (188, 21), (196, 999), (197, 999), (198, 999), (199, 999), (200, 999), (191, 999), (192, 999), (194, 999), (201, 999), (188, 60), (188, 61), (188, 62), (188, 63), (188, 64), (188, 65), (188, 66), (188, 54), (188, 55), (188, 57), (188, 56)]
theorem F_119 {p1 : Int32} {p2 : Int32} {M : pMem} {v : Int32} {N : pMem} (h : D_119 p1 p2 M v N) : pFr (l_119) M N :=
  (show pTf (l_119) M (D_119 p1 p2 M) from (tf_putS1 pFr_refl rfl fun M1 f1 => (tf_if (tf_ret f1) (tf_if (tf_ret f1) (tf_call f1 (fun _ _ h => F_118 h) [0, 1, 2, 3, 4, 5, 6, 7, 8, 9, 10, 11, 12, 13, 14, 15, 16, 17, 18, 19, 20, 21, 22, 23, 24, 25, 26, 27, 28, 29, 30] rfl fun _ M2 f2 => (tf_ret f2)))))) v N h
/-- TwoCampsModel.fitting(I)I -/
def S_120_3 (p1 : Int32) (P3 : Int32 → Int32 → Int32 → pMem → pT Int32) (x2 : Int32) (x3 : Int32) (x4 : Int32) (M : pMem) : pT Int32 := tIf ((kI 4) ≤ x4) (tRet x2 M) (tCall (D_118 p1 x4 M) fun v1 M1 => tIf (v1 < x3) (P3 x4 v1 (x4 + kI 1) M1) (P3 x2 x3 (x4 + kI 1) M1))
def C_120 (p1 : Int32) (P3 : Int32 → Int32 → Int32 → pMem → pT Int32) : Prop := (∀ (x2 : Int32) (x3 : Int32) (x4 : Int32) M v N, S_120_3 p1 P3 x2 x3 x4 M v N → P3 x2 x3 x4 M v N)
def L_120_3 (p1 : Int32) (x2 : Int32) (x3 : Int32) (x4 : Int32) (M : pMem) : pT Int32 := fun v N => ∀ P : (Int32 → Int32 → Int32 → pMem → pT Int32), C_120 p1 P → P x2 x3 x4 M v N
def D_120 (p1 : Int32) (M : pMem) : pT Int32 := tPut (aPut M 188 0 (kI 0)) fun M1 => tIf (¬ (f_109 p1) = 0) (tCall (D_118 p1 (kI 0) M1) fun v1 M2 => L_120_3 p1 (kI 0) v1 (kI 1) M2) (tRet (kI (-1)) M1)
theorem K_120 {X : aX} {F d : Nat} {K : Nat → aK} (hS : pS K) {p1 : Int32} {out : Option Value × aH} (P3 : Int32 → Int32 → Int32 → pMem → pT Int32) (hC : C_120 p1 P3) : ∀ f, (∀ (x2 : Int32) (x3 : Int32) (x4 : Int32) (u5 : Value) M, pm X F d 120 f 3 [.iload 4, .bipush 4, .if_icmp .ge 8] [.ref 188, .int p1, .int x2, .int x3, .int x4, u5] [] (pH K M) out → pG eI K out (P3 x2 x3 x4 M)) := by
  intro f
  induction f using Nat.strongRecOn with
  | _ f ih =>
    intro x2 x3 x4 u5 M H
    refine pG_mono (fun v N h => hC x2 x3 x4 M v N h) ?_
    unfold S_120_3
    replace H := pRun (ls' := [.ref 188, .int p1, .int x2, .int x3, .int x4, u5]) (st' := [.int (kI 4), .int x4]) 2 rfl H
    rcases pIfc (n1 := 8) rfl (mcb_120 rfl) (mcb_120 rfl) H with ⟨g1, g0, _, H⟩ | ⟨g1, g0, _, H⟩
    · refine pG_pos (c := (kI 4) ≤ x4) g1 ?_
      replace H := pRun (ls' := [.ref 188, .int p1, .int x2, .int x3, .int x4, u5]) (st' := [.int x2]) 1 rfl H
      exact pG_ret (pRetI H)
    · refine pG_neg (c := (kI 4) ≤ x4) g1 ?_
      replace H := pRun (ls' := [.ref 188, .int p1, .int x2, .int x3, .int x4, u5]) (st' := [.int x4, .int p1, .ref 188]) 3 rfl H
      obtain ⟨rv, h1, hc, H⟩ := pCalV 118 2 188 (as := [.int p1, .int x4]) (rest := []) rfl (by decide) (by decide +kernel) rfl rfl H
      obtain ⟨v1, M1, hD, H⟩ := pUseI (D_118_ok hS hc) H
      refine pG_call (x := v1) (M1 := M1) hD ?_
      replace H := pRun (ls' := [.ref 188, .int p1, .int x2, .int x3, .int x4, .int v1]) (st' := [.int x3, .int v1]) 3 rfl H
      rcases pIfc (n1 := 6) rfl (mcb_120 rfl) (mcb_120 rfl) H with ⟨g2, g0, _, H⟩ | ⟨g2, g0, _, H⟩
      · refine pG_pos (c := v1 < x3) g2 ?_
        replace H := pRun (ls' := [.ref 188, .int p1, .int x4, .int v1, .int x4, .int v1]) (st' := []) 4 rfl H
        obtain ⟨g0, _, H⟩ := pFall (mcb_120 rfl) H
        replace H := pRun (ls' := [.ref 188, .int p1, .int x4, .int v1, .int (x4 + kI 1), .int v1]) (st' := []) 1 rfl H
        obtain ⟨g0, _, H⟩ := pGo (n1 := 3) rfl (mcb_120 rfl) H
        exact (ih _ (by omega)) _ _ _ _  _ H
      · refine pG_neg (c := v1 < x3) g2 ?_
        obtain ⟨g0, _, H⟩ := pGo (n1 := 7) rfl (mcb_120 rfl) H
        replace H := pRun (ls' := [.ref 188, .int p1, .int x2, .int x3, .int (x4 + kI 1), .int v1]) (st' := []) 1 rfl H
        obtain ⟨g0, _, H⟩ := pGo (n1 := 3) rfl (mcb_120 rfl) H
        exact (ih _ (by omega)) _ _ _ _  _ H
theorem L_120_3_ok {X : aX} {F d : Nat} {K : Nat → aK} (hS : pS K) {p1 : Int32} {out : Option Value × aH} {f : Nat} {x2 : Int32} {x3 : Int32} {x4 : Int32} {u5 : Value} {M : pMem} (H : pm X F d 120 f 3 [.iload 4, .bipush 4, .if_icmp .ge 8] [.ref 188, .int p1, .int x2, .int x3, .int x4, u5] [] (pH K M) out) : pG eI K out (L_120_3 p1 x2 x3 x4 M) := by
  refine pG_all (C := fun P : (Int32 → Int32 → Int32 → pMem → pT Int32) => C_120 p1 P) (T := fun P => P x2 x3 x4 M) eI_inj (fun _ _ _ _ _ _ => True) ?_ (fun P hP => (K_120 hS P hP f) _ _ _ _ _ H)
  exact (fun _ _ _ _ _ _ _ => trivial)
theorem D_120_ok {X : aX} {F d : Nat} {K : Nat → aK} (hS : pS K) {p1 : Int32} {M : pMem} {out : Option Value × aH} (H : aM X F d 120 [.ref 188, .int p1] (pH K M) = some out) : pG eI K out (D_120 p1 M) := by
  obtain ⟨d', g0, _, H⟩ := pEnt (n := 6) (ls := [.ref 188, .int p1, aD, aD, aD, aD]) (mcb_120 rfl) (by decide +kernel) rfl H
  unfold D_120
  replace H := pRun (ls' := [.ref 188, .int p1, aD, aD, aD, aD]) (st' := [.int (kI 0), .ref 188]) 2 rfl H
  obtain ⟨M1, eM1, H⟩ := pPutN (j := 0) rfl H
  refine pG_put (M2 := M1) eM1 ?_
  replace H := pRun (ls' := [.ref 188, .int p1, aD, aD, aD, aD]) (st' := [.int p1, .ref 188]) 2 rfl H
  obtain ⟨rv, h1, hc, H⟩ := pCalV 109 1 188 (as := [.int p1]) (rest := []) rfl (by decide) (by decide +kernel) rfl rfl H
  replace H := pUseF (f_109_ok hS hc) H
  rcases pIf0 (n1 := 2) rfl (mcb_120 rfl) (mcb_120 rfl) H with ⟨g1, g0, _, H⟩ | ⟨g1, g0, _, H⟩
  · refine pG_pos (c := ¬ (f_109 p1) = 0) g1 ?_
    replace H := pRun (ls' := [.ref 188, .int p1, .int (kI 0), aD, aD, aD]) (st' := [.int (kI 0), .int p1, .ref 188]) 5 rfl H
    obtain ⟨rv, h1, hc, H⟩ := pCalV 118 2 188 (as := [.int p1, .int (kI 0)]) (rest := []) rfl (by decide) (by decide +kernel) rfl rfl H
    obtain ⟨v1, M2, hD, H⟩ := pUseI (D_118_ok hS hc) H
    refine pG_call (x := v1) (M1 := M2) hD ?_
    replace H := pRun (ls' := [.ref 188, .int p1, .int (kI 0), .int v1, .int (kI 1), aD]) (st' := []) 3 rfl H
    obtain ⟨g0, _, H⟩ := pFall (mcb_120 rfl) H
    exact L_120_3_ok hS  H
  · refine pG_neg (c := ¬ (f_109 p1) = 0) g1 ?_
    replace H := pRun (ls' := [.ref 188, .int p1, aD, aD, aD, aD]) (st' := [.int (kI (-1))]) 1 rfl H
    exact pG_ret (pRetI H)
def l_120 : List (Nat × Nat) := [(188, 69), (188, 68), (222, 999), (188, 1), (188, 3), (188, 4), (188, 17), (188, 18), (188, 19), (188, 20), (188, 21), (196, 999), (197, 999), (198, 999), (199, 999), (200, 999), (191, 999), (192, 999), (194, 999), (201, 999), (188, 60), (188, 61), (188, 62), (188, 63), (188, 64), (188, 65), (188, 66), (188, 54), (188, 55), (188, 57), (188, 56)]
theorem FC_120 {p1 : Int32} : C_120 p1 (fun _ _ _ M _ N => pFr (l_120) M N) := fun x2 x3 x4 M => show pTf (l_120) M (S_120_3 p1 _ x2 x3 x4 M) from (tf_if (tf_ret pFr_refl) (tf_call pFr_refl (fun _ _ h => F_118 h) [0, 1, 2, 3, 4, 5, 6, 7, 8, 9, 10, 11, 12, 13, 14, 15, 16, 17, 18, 19, 20, 21, 22, 23, 24, 25, 26, 27, 28, 29, 30] rfl fun _ M1 f1 => (tf_if (tf_jump f1) (tf_jump f1))))
theorem F_120 {p1 : Int32} {M : pMem} {v : Int32} {N : pMem} (h : D_120 p1 M v N) : pFr (l_120) M N :=
  (show pTf (l_120) M (D_120 p1 M) from (tf_putS1 pFr_refl rfl fun M1 f1 => (tf_if (tf_call f1 (fun _ _ h => F_118 h) [0, 1, 2, 3, 4, 5, 6, 7, 8, 9, 10, 11, 12, 13, 14, 15, 16, 17, 18, 19, 20, 21, 22, 23, 24, 25, 26, 27, 28, 29, 30] rfl fun _ M2 f2 => (tf_jumpL (fun _ _ _ M _ N => pFr (l_120) M N) (FC_120) rfl f2)) (tf_ret f1)))) v N h
