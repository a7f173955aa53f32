/-! what runs come to, method by method: printed by wip/pm/pm.py -/
/-- TwoCampsModel.findsFriends(I)V -/
def S_96_1 (p1 : Int32) (P1 : Int32 → pMem → pT Unit) (P11 : Int32 → pMem → pT Unit) (P13 : Int32 → Int32 → Int32 → pMem → pT Unit) (x2 : Int32) (M : pMem) : pT Unit := tIf ((M 188 2) ≤ x2) (P11 (kI 0) M) (tIf (x2 = p1) (P1 (x2 + kI 1) M) (tGd (pIn x2 24) <| tIf (¬ (M 191 (ix x2)) = 0) (tCall (D_87 (kI 5) p1 x2 M) fun v1 M1 => tIf ((M1 188 51) = 0) (tGd (pIn (((kI 24) * p1) + x2) 576) <| tGd (pIn x2 24) <| tPut (aPut M1 220 (ix x2) (M1 194 (ix (((kI 24) * p1) + x2)))) fun M2 => P1 (x2 + kI 1) M2) (tGd (pIn x2 24) <| tPut (aPut M1 220 (ix x2) v1) fun M2 => P1 (x2 + kI 1) M2)) (P1 (x2 + kI 1) M)))
def S_96_11 (p1 : Int32) (P1 : Int32 → pMem → pT Unit) (P11 : Int32 → pMem → pT Unit) (P13 : Int32 → Int32 → Int32 → pMem → pT Unit) (x2 : Int32) (M : pMem) : pT Unit := tIf ((kI 3) ≤ x2) (tRet () M) (P13 x2 (kI (-1)) (kI 0) M)
def S_96_13 (p1 : Int32) (P1 : Int32 → pMem → pT Unit) (P11 : Int32 → pMem → pT Unit) (P13 : Int32 → Int32 → Int32 → pMem → pT Unit) (x2 : Int32) (x3 : Int32) (x4 : Int32) (M : pMem) : pT Unit := tIf ((M 188 2) ≤ x4) (tGd (pIn x2 3) <| tPut (aPut M 221 (ix x2) x3) fun M1 => P11 (x2 + kI 1) M1) (tGd (pIn p1 24) <| tIf (¬ (M 191 (ix p1)) = (kI 1)) (tGd (pIn x2 3) <| tPut (aPut M 221 (ix x2) x3) fun M1 => P11 (x2 + kI 1) M1) (tIf (x4 = p1) (P13 x2 x3 (x4 + kI 1) M) (tGd (pIn x4 24) <| tIf ((M 191 (ix x4)) = 0) (P13 x2 x3 (x4 + kI 1) M) (tIf (x2 ≤ 0) (tIf (x2 ≤ (kI 1)) (tIf (x3 = (kI (-1))) (P13 x2 x4 (x4 + kI 1) M) (tGd (pIn x4 24) <| tGd (pIn x3 24) <| tIf ((M 220 (ix x4)) ≤ (M 220 (ix x3))) (P13 x2 x3 (x4 + kI 1) M) (P13 x2 x4 (x4 + kI 1) M))) (tGd (pIn (kI 1) 3) <| tIf (¬ (M 221 (ix (kI 1))) = x4) (tIf (x3 = (kI (-1))) (P13 x2 x4 (x4 + kI 1) M) (tGd (pIn x4 24) <| tGd (pIn x3 24) <| tIf ((M 220 (ix x4)) ≤ (M 220 (ix x3))) (P13 x2 x3 (x4 + kI 1) M) (P13 x2 x4 (x4 + kI 1) M))) (P13 x2 x3 (x4 + kI 1) M))) (tGd (pIn (kI 0) 3) <| tIf ((M 221 (ix (kI 0))) = x4) (P13 x2 x3 (x4 + kI 1) M) (tIf (x2 ≤ (kI 1)) (tIf (x3 = (kI (-1))) (P13 x2 x4 (x4 + kI 1) M) (tGd (pIn x4 24) <| tGd (pIn x3 24) <| tIf ((M 220 (ix x4)) ≤ (M 220 (ix x3))) (P13 x2 x3 (x4 + kI 1) M) (P13 x2 x4 (x4 + kI 1) M))) (tGd (pIn (kI 1) 3) <| tIf (¬ (M 221 (ix (kI 1))) = x4) (tIf (x3 = (kI (-1))) (P13 x2 x4 (x4 + kI 1) M) (tGd (pIn x4 24) <| tGd (pIn x3 24) <| tIf ((M 220 (ix x4)) ≤ (M 220 (ix x3))) (P13 x2 x3 (x4 + kI 1) M) (P13 x2 x4 (x4 + kI 1) M))) (P13 x2 x3 (x4 + kI 1) M))))))))
def C_96 (p1 : Int32) (P1 : Int32 → pMem → pT Unit) (P11 : Int32 → pMem → pT Unit) (P13 : Int32 → Int32 → Int32 → pMem → pT Unit) : Prop := (∀ (x2 : Int32) M v N, S_96_1 p1 P1 P11 P13 x2 M v N → P1 x2 M v N) ∧ (∀ (x2 : Int32) M v N, S_96_11 p1 P1 P11 P13 x2 M v N → P11 x2 M v N) ∧ (∀ (x2 : Int32) (x3 : Int32) (x4 : Int32) M v N, S_96_13 p1 P1 P11 P13 x2 x3 x4 M v N → P13 x2 x3 x4 M v N)
def L_96_1 (p1 : Int32) (x2 : Int32) (M : pMem) : pT Unit := fun v N => ∀ P : (Int32 → pMem → pT Unit) × (Int32 → pMem → pT Unit) × (Int32 → Int32 → Int32 → pMem → pT Unit), C_96 p1 P.1 P.2.1 P.2.2 → P.1 x2 M v N
def L_96_11 (p1 : Int32) (x2 : Int32) (M : pMem) : pT Unit := fun v N => ∀ P : (Int32 → pMem → pT Unit) × (Int32 → pMem → pT Unit) × (Int32 → Int32 → Int32 → pMem → pT Unit), C_96 p1 P.1 P.2.1 P.2.2 → P.2.1 x2 M v N
def L_96_13 (p1 : Int32) (x2 : Int32) (x3 : Int32) (x4 : Int32) (M : pMem) : pT Unit := fun v N => ∀ P : (Int32 → pMem → pT Unit) × (Int32 → pMem → pT Unit) × (Int32 → Int32 → Int32 → pMem → pT Unit), C_96 p1 P.1 P.2.1 P.2.2 → P.2.2 x2 x3 x4 M v N
def D_96 (p1 : Int32) (M : pMem) : pT Unit := L_96_1 p1 (kI 0) M
theorem K_96 {X : aX} {F d : Nat} {K : Nat → aK} (hS : pS K) {p1 : Int32} {out : Option Value × aH} (P1 : Int32 → pMem → pT Unit) (P11 : Int32 → pMem → pT Unit) (P13 : Int32 → Int32 → Int32 → pMem → pT Unit) (hC : C_96 p1 P1 P11 P13) : ∀ f, (∀ (x2 : Int32) (u3 : Value) (u4 : Value) M, pm X F d 96 f 1 [.iload 2, .aload 0, .getfield 124412008, .if_icmp .ge 10] [.ref 188, .int p1, .int x2, u3, u4] [] (pH K M) out → pG eU K out (P1 x2 M)) ∧ (∀ (x2 : Int32) (u3 : Value) (u4 : Value) M, pm X F d 96 f 11 [.iload 2, .bipush 3, .if_icmp .ge 27] [.ref 188, .int p1, .int x2, u3, u4] [] (pH K M) out → pG eU K out (P11 x2 M)) ∧ (∀ (x2 : Int32) (x3 : Int32) (x4 : Int32) M, pm X F d 96 f 13 [.iload 4, .aload 0, .getfield 124412008, .if_icmp .ge 26] [.ref 188, .int p1, .int x2, .int x3, .int x4] [] (pH K M) out → pG eU K out (P13 x2 x3 x4 M)) := by
  intro f
  induction f using Nat.strongRecOn with
  | _ f ih =>
    refine ⟨?_, ?_, ?_⟩
    · intro x2 u3 u4 M H
      refine pG_mono (fun v N h => hC.1 x2 M v N h) ?_
      unfold S_96_1
      replace H := pRun (ls' := [.ref 188, .int p1, .int x2, u3, u4]) (st' := [.ref 188, .int x2]) 2 rfl H
      replace H := pGetN (v := M 188 2) rfl (by decide) H
      rcases pIfc (n1 := 10) rfl (mcb_96 rfl) (mcb_96 rfl) H with ⟨g1, g0, _, H⟩ | ⟨g1, g0, _, H⟩
      · refine pG_pos (c := (M 188 2) ≤ x2) g1 ?_
        replace H := pRun (ls' := [.ref 188, .int p1, .int (kI 0), u3, u4]) (st' := []) 2 rfl H
        obtain ⟨g0, _, H⟩ := pFall (mcb_96 rfl) H
        exact (ih _ (by omega)).2.1 _ _ _  _ H
      · refine pG_neg (c := (M 188 2) ≤ x2) g1 ?_
        replace H := pRun (ls' := [.ref 188, .int p1, .int x2, u3, u4]) (st' := [.int p1, .int x2]) 2 rfl H
        rcases pIfc (n1 := 9) rfl (mcb_96 rfl) (mcb_96 rfl) H with ⟨g2, g0, _, H⟩ | ⟨g2, g0, _, H⟩
        · refine pG_pos (c := x2 = p1) g2 ?_
          replace H := pRun (ls' := [.ref 188, .int p1, .int (x2 + kI 1), u3, u4]) (st' := []) 1 rfl H
          obtain ⟨g0, _, H⟩ := pGo (n1 := 1) rfl (mcb_96 rfl) H
          exact (ih _ (by omega)).1 _ _ _  _ H
        · refine pG_neg (c := x2 = p1) g2 ?_
          replace H := pRun (ls' := [.ref 188, .int p1, .int x2, u3, u4]) (st' := [.ref 188]) 1 rfl H
          replace H := pGetR (r := 191) (pRf hS (by decide +kernel)) rfl H
          replace H := pRun (ls' := [.ref 188, .int p1, .int x2, u3, u4]) (st' := [.int x2, .ref 191]) 1 rfl H
          obtain ⟨g3, H⟩ := pIld (n := 24) (pLt (show pCa 191 24 = true by decide +kernel)) (pLn hS (show pCa 191 24 = true by decide +kernel)) H
          refine pG_gd g3 ?_
          rcases pIf0 (n1 := 5) rfl (mcb_96 rfl) (mcb_96 rfl) H with ⟨g4, g0, _, H⟩ | ⟨g4, g0, _, H⟩
          · refine pG_pos (c := ¬ (M 191 (ix x2)) = 0) g4 ?_
            replace H := pRun (ls' := [.ref 188, .int p1, .int x2, u3, u4]) (st' := [.int x2, .int p1, .int (kI 5), .ref 188]) 4 rfl H
            obtain ⟨rv, h1, hc, H⟩ := pCalV 87 3 188 (as := [.int (kI 5), .int p1, .int x2]) (rest := []) rfl (by decide) (by decide +kernel) rfl rfl H
            obtain ⟨v1, M1, hD, H⟩ := pUseI (D_87_ok hS hc) H
            refine pG_call (x := v1) (M1 := M1) hD ?_
            replace H := pRun (ls' := [.ref 188, .int p1, .int x2, .int v1, u4]) (st' := [.ref 188]) 2 rfl H
            replace H := pGetR (r := 220) (pRf hS (by decide +kernel)) rfl H
            replace H := pRun (ls' := [.ref 188, .int p1, .int x2, .int v1, u4]) (st' := [.ref 188, .int x2, .ref 220]) 2 rfl H
            replace H := pGetN (v := M1 188 51) rfl (by decide) H
            rcases pIf0 (n1 := 7) rfl (mcb_96 rfl) (mcb_96 rfl) H with ⟨g5, g0, _, H⟩ | ⟨g5, g0, _, H⟩
            · refine pG_pos (c := (M1 188 51) = 0) g5 ?_
              replace H := pRun (ls' := [.ref 188, .int p1, .int x2, .int v1, u4]) (st' := [.ref 188, .int x2, .ref 220]) 1 rfl H
              replace H := pGetR (r := 194) (pRf hS (by decide +kernel)) rfl H
              replace H := pRun (ls' := [.ref 188, .int p1, .int x2, .int v1, u4]) (st' := [.int (((kI 24) * p1) + x2), .ref 194, .int x2, .ref 220]) 5 rfl H
              obtain ⟨g6, H⟩ := pIld (n := 576) (pLt (show pCa 194 576 = true by decide +kernel)) (pLn hS (show pCa 194 576 = true by decide +kernel)) H
              refine pG_gd g6 ?_
              obtain ⟨g0, _, H⟩ := pFall (mcb_96 rfl) H
              obtain ⟨g7, M2, eM2, H⟩ := pIst (n := 24) (pLn hS (show pCa 220 24 = true by decide +kernel)) H
              refine pG_gd g7 (pG_put (M2 := M2) eM2 ?_)
              obtain ⟨g0, _, H⟩ := pFall (mcb_96 rfl) H
              replace H := pRun (ls' := [.ref 188, .int p1, .int (x2 + kI 1), .int v1, u4]) (st' := []) 1 rfl H
              obtain ⟨g0, _, H⟩ := pGo (n1 := 1) rfl (mcb_96 rfl) H
              exact (ih _ (by omega)).1 _ _ _  _ H
            · refine pG_neg (c := (M1 188 51) = 0) g5 ?_
              replace H := pRun (ls' := [.ref 188, .int p1, .int x2, .int v1, u4]) (st' := [.int v1, .int x2, .ref 220]) 1 rfl H
              obtain ⟨g0, _, H⟩ := pGo (n1 := 8) rfl (mcb_96 rfl) H
              obtain ⟨g6, M2, eM2, H⟩ := pIst (n := 24) (pLn hS (show pCa 220 24 = true by decide +kernel)) H
              refine pG_gd g6 (pG_put (M2 := M2) eM2 ?_)
              obtain ⟨g0, _, H⟩ := pFall (mcb_96 rfl) H
              replace H := pRun (ls' := [.ref 188, .int p1, .int (x2 + kI 1), .int v1, u4]) (st' := []) 1 rfl H
              obtain ⟨g0, _, H⟩ := pGo (n1 := 1) rfl (mcb_96 rfl) H
              exact (ih _ (by omega)).1 _ _ _  _ H
          · refine pG_neg (c := ¬ (M 191 (ix x2)) = 0) g4 ?_
            obtain ⟨g0, _, H⟩ := pGo (n1 := 9) rfl (mcb_96 rfl) H
            replace H := pRun (ls' := [.ref 188, .int p1, .int (x2 + kI 1), u3, u4]) (st' := []) 1 rfl H
            obtain ⟨g0, _, H⟩ := pGo (n1 := 1) rfl (mcb_96 rfl) H
            exact (ih _ (by omega)).1 _ _ _  _ H
    · intro x2 u3 u4 M H
      refine pG_mono (fun v N h => hC.2.1 x2 M v N h) ?_
      unfold S_96_11
      replace H := pRun (ls' := [.ref 188, .int p1, .int x2, u3, u4]) (st' := [.int (kI 3), .int x2]) 2 rfl H
      rcases pIfc (n1 := 27) rfl (mcb_96 rfl) (mcb_96 rfl) H with ⟨g1, g0, _, H⟩ | ⟨g1, g0, _, H⟩
      · refine pG_pos (c := (kI 3) ≤ x2) g1 ?_
        exact pG_ret (pRetU H)
      · refine pG_neg (c := (kI 3) ≤ x2) g1 ?_
        replace H := pRun (ls' := [.ref 188, .int p1, .int x2, .int (kI (-1)), .int (kI 0)]) (st' := []) 4 rfl H
        obtain ⟨g0, _, H⟩ := pFall (mcb_96 rfl) H
        exact (ih _ (by omega)).2.2 _ _ _  _ H
    · intro x2 x3 x4 M H
      refine pG_mono (fun v N h => hC.2.2 x2 x3 x4 M v N h) ?_
      unfold S_96_13
      replace H := pRun (ls' := [.ref 188, .int p1, .int x2, .int x3, .int x4]) (st' := [.ref 188, .int x4]) 2 rfl H
      replace H := pGetN (v := M 188 2) rfl (by decide) H
      rcases pIfc (n1 := 26) rfl (mcb_96 rfl) (mcb_96 rfl) H with ⟨g1, g0, _, H⟩ | ⟨g1, g0, _, H⟩
      · refine pG_pos (c := (M 188 2) ≤ x4) g1 ?_
        replace H := pRun (ls' := [.ref 188, .int p1, .int x2, .int x3, .int x4]) (st' := [.ref 188]) 1 rfl H
        replace H := pGetR (r := 221) (pRf hS (by decide +kernel)) rfl H
        replace H := pRun (ls' := [.ref 188, .int p1, .int x2, .int x3, .int x4]) (st' := [.int x3, .int x2, .ref 221]) 2 rfl H
        obtain ⟨g2, M1, eM1, H⟩ := pIst (n := 3) (pLn hS (show pCa 221 3 = true by decide +kernel)) H
        refine pG_gd g2 (pG_put (M2 := M1) eM1 ?_)
        replace H := pRun (ls' := [.ref 188, .int p1, .int (x2 + kI 1), .int x3, .int x4]) (st' := []) 1 rfl H
        obtain ⟨g0, _, H⟩ := pGo (n1 := 11) rfl (mcb_96 rfl) H
        exact (ih _ (by omega)).2.1 _ _ _  _ H
      · refine pG_neg (c := (M 188 2) ≤ x4) g1 ?_
        replace H := pRun (ls' := [.ref 188, .int p1, .int x2, .int x3, .int x4]) (st' := [.ref 188]) 1 rfl H
        replace H := pGetR (r := 191) (pRf hS (by decide +kernel)) rfl H
        replace H := pRun (ls' := [.ref 188, .int p1, .int x2, .int x3, .int x4]) (st' := [.int p1, .ref 191]) 1 rfl H
        obtain ⟨g2, H⟩ := pIld (n := 24) (pLt (show pCa 191 24 = true by decide +kernel)) (pLn hS (show pCa 191 24 = true by decide +kernel)) H
        refine pG_gd g2 ?_
        replace H := pRun (ls' := [.ref 188, .int p1, .int x2, .int x3, .int x4]) (st' := [.int (kI 1), .int (M 191 (ix p1))]) 1 rfl H
        rcases pIfc (n1 := 26) rfl (mcb_96 rfl) (mcb_96 rfl) H with ⟨g3, g0, _, H⟩ | ⟨g3, g0, _, H⟩
        · refine pG_pos (c := ¬ (M 191 (ix p1)) = (kI 1)) g3 ?_
          replace H := pRun (ls' := [.ref 188, .int p1, .int x2, .int x3, .int x4]) (st' := [.ref 188]) 1 rfl H
          replace H := pGetR (r := 221) (pRf hS (by decide +kernel)) rfl H
          replace H := pRun (ls' := [.ref 188, .int p1, .int x2, .int x3, .int x4]) (st' := [.int x3, .int x2, .ref 221]) 2 rfl H
          obtain ⟨g4, M1, eM1, H⟩ := pIst (n := 3) (pLn hS (show pCa 221 3 = true by decide +kernel)) H
          refine pG_gd g4 (pG_put (M2 := M1) eM1 ?_)
          replace H := pRun (ls' := [.ref 188, .int p1, .int (x2 + kI 1), .int x3, .int x4]) (st' := []) 1 rfl H
          obtain ⟨g0, _, H⟩ := pGo (n1 := 11) rfl (mcb_96 rfl) H
          exact (ih _ (by omega)).2.1 _ _ _  _ H
        · refine pG_neg (c := ¬ (M 191 (ix p1)) = (kI 1)) g3 ?_
          replace H := pRun (ls' := [.ref 188, .int p1, .int x2, .int x3, .int x4]) (st' := [.int p1, .int x4]) 2 rfl H
          rcases pIfc (n1 := 25) rfl (mcb_96 rfl) (mcb_96 rfl) H with ⟨g4, g0, _, H⟩ | ⟨g4, g0, _, H⟩
          · refine pG_pos (c := x4 = p1) g4 ?_
            replace H := pRun (ls' := [.ref 188, .int p1, .int x2, .int x3, .int (x4 + kI 1)]) (st' := []) 1 rfl H
            obtain ⟨g0, _, H⟩ := pGo (n1 := 13) rfl (mcb_96 rfl) H
            exact (ih _ (by omega)).2.2 _ _ _  _ H
          · refine pG_neg (c := x4 = p1) g4 ?_
            replace H := pRun (ls' := [.ref 188, .int p1, .int x2, .int x3, .int x4]) (st' := [.ref 188]) 1 rfl H
            replace H := pGetR (r := 191) (pRf hS (by decide +kernel)) rfl H
            replace H := pRun (ls' := [.ref 188, .int p1, .int x2, .int x3, .int x4]) (st' := [.int x4, .ref 191]) 1 rfl H
            obtain ⟨g5, H⟩ := pIld (n := 24) (pLt (show pCa 191 24 = true by decide +kernel)) (pLn hS (show pCa 191 24 = true by decide +kernel)) H
            refine pG_gd g5 ?_
            rcases pIf0 (n1 := 25) rfl (mcb_96 rfl) (mcb_96 rfl) H with ⟨g6, g0, _, H⟩ | ⟨g6, g0, _, H⟩
            · refine pG_pos (c := (M 191 (ix x4)) = 0) g6 ?_
              replace H := pRun (ls' := [.ref 188, .int p1, .int x2, .int x3, .int (x4 + kI 1)]) (st' := []) 1 rfl H
              obtain ⟨g0, _, H⟩ := pGo (n1 := 13) rfl (mcb_96 rfl) H
              exact (ih _ (by omega)).2.2 _ _ _  _ H
            · refine pG_neg (c := (M 191 (ix x4)) = 0) g6 ?_
              replace H := pRun (ls' := [.ref 188, .int p1, .int x2, .int x3, .int x4]) (st' := [.int x2]) 1 rfl H
              rcases pIf0 (n1 := 19) rfl (mcb_96 rfl) (mcb_96 rfl) H with ⟨g7, g0, _, H⟩ | ⟨g7, g0, _, H⟩
              · refine pG_pos (c := x2 ≤ 0) g7 ?_
                replace H := pRun (ls' := [.ref 188, .int p1, .int x2, .int x3, .int x4]) (st' := [.int (kI 1), .int x2]) 2 rfl H
                rcases pIfc (n1 := 22) rfl (mcb_96 rfl) (mcb_96 rfl) H with ⟨g8, g0, _, H⟩ | ⟨g8, g0, _, H⟩
                · refine pG_pos (c := x2 ≤ (kI 1)) g8 ?_
                  replace H := pRun (ls' := [.ref 188, .int p1, .int x2, .int x3, .int x4]) (st' := [.int (kI (-1)), .int x3]) 2 rfl H
                  rcases pIfc (n1 := 24) rfl (mcb_96 rfl) (mcb_96 rfl) H with ⟨g9, g0, _, H⟩ | ⟨g9, g0, _, H⟩
                  · refine pG_pos (c := x3 = (kI (-1))) g9 ?_
                    replace H := pRun (ls' := [.ref 188, .int p1, .int x2, .int x4, .int x4]) (st' := []) 2 rfl H
                    obtain ⟨g0, _, H⟩ := pFall (mcb_96 rfl) H
                    replace H := pRun (ls' := [.ref 188, .int p1, .int x2, .int x4, .int (x4 + kI 1)]) (st' := []) 1 rfl H
                    obtain ⟨g0, _, H⟩ := pGo (n1 := 13) rfl (mcb_96 rfl) H
                    exact (ih _ (by omega)).2.2 _ _ _  _ H
                  · refine pG_neg (c := x3 = (kI (-1))) g9 ?_
                    replace H := pRun (ls' := [.ref 188, .int p1, .int x2, .int x3, .int x4]) (st' := [.ref 188]) 1 rfl H
                    replace H := pGetR (r := 220) (pRf hS (by decide +kernel)) rfl H
                    replace H := pRun (ls' := [.ref 188, .int p1, .int x2, .int x3, .int x4]) (st' := [.int x4, .ref 220]) 1 rfl H
                    obtain ⟨g10, H⟩ := pIld (n := 24) (pLt (show pCa 220 24 = true by decide +kernel)) (pLn hS (show pCa 220 24 = true by decide +kernel)) H
                    refine pG_gd g10 ?_
                    replace H := pRun (ls' := [.ref 188, .int p1, .int x2, .int x3, .int x4]) (st' := [.ref 188, .int (M 220 (ix x4))]) 1 rfl H
                    replace H := pGetR (r := 220) (pRf hS (by decide +kernel)) rfl H
                    replace H := pRun (ls' := [.ref 188, .int p1, .int x2, .int x3, .int x4]) (st' := [.int x3, .ref 220, .int (M 220 (ix x4))]) 1 rfl H
                    obtain ⟨g11, H⟩ := pIld (n := 24) (pLt (show pCa 220 24 = true by decide +kernel)) (pLn hS (show pCa 220 24 = true by decide +kernel)) H
                    refine pG_gd g11 ?_
                    rcases pIfc (n1 := 25) rfl (mcb_96 rfl) (mcb_96 rfl) H with ⟨g12, g0, _, H⟩ | ⟨g12, g0, _, H⟩
                    · refine pG_pos (c := (M 220 (ix x4)) ≤ (M 220 (ix x3))) g12 ?_
                      replace H := pRun (ls' := [.ref 188, .int p1, .int x2, .int x3, .int (x4 + kI 1)]) (st' := []) 1 rfl H
                      obtain ⟨g0, _, H⟩ := pGo (n1 := 13) rfl (mcb_96 rfl) H
                      exact (ih _ (by omega)).2.2 _ _ _  _ H
                    · refine pG_neg (c := (M 220 (ix x4)) ≤ (M 220 (ix x3))) g12 ?_
                      replace H := pRun (ls' := [.ref 188, .int p1, .int x2, .int x4, .int x4]) (st' := []) 2 rfl H
                      obtain ⟨g0, _, H⟩ := pFall (mcb_96 rfl) H
                      replace H := pRun (ls' := [.ref 188, .int p1, .int x2, .int x4, .int (x4 + kI 1)]) (st' := []) 1 rfl H
                      obtain ⟨g0, _, H⟩ := pGo (n1 := 13) rfl (mcb_96 rfl) H
                      exact (ih _ (by omega)).2.2 _ _ _  _ H
                · refine pG_neg (c := x2 ≤ (kI 1)) g8 ?_
                  replace H := pRun (ls' := [.ref 188, .int p1, .int x2, .int x3, .int x4]) (st' := [.ref 188]) 1 rfl H
                  replace H := pGetR (r := 221) (pRf hS (by decide +kernel)) rfl H
                  replace H := pRun (ls' := [.ref 188, .int p1, .int x2, .int x3, .int x4]) (st' := [.int (kI 1), .ref 221]) 1 rfl H
                  obtain ⟨g9, H⟩ := pIld (n := 3) (pLt (show pCa 221 3 = true by decide +kernel)) (pLn hS (show pCa 221 3 = true by decide +kernel)) H
                  refine pG_gd g9 ?_
                  replace H := pRun (ls' := [.ref 188, .int p1, .int x2, .int x3, .int x4]) (st' := [.int x4, .int (M 221 (ix (kI 1)))]) 1 rfl H
                  rcases pIfc (n1 := 22) rfl (mcb_96 rfl) (mcb_96 rfl) H with ⟨g10, g0, _, H⟩ | ⟨g10, g0, _, H⟩
                  · refine pG_pos (c := ¬ (M 221 (ix (kI 1))) = x4) g10 ?_
                    replace H := pRun (ls' := [.ref 188, .int p1, .int x2, .int x3, .int x4]) (st' := [.int (kI (-1)), .int x3]) 2 rfl H
                    rcases pIfc (n1 := 24) rfl (mcb_96 rfl) (mcb_96 rfl) H with ⟨g11, g0, _, H⟩ | ⟨g11, g0, _, H⟩
                    · refine pG_pos (c := x3 = (kI (-1))) g11 ?_
                      replace H := pRun (ls' := [.ref 188, .int p1, .int x2, .int x4, .int x4]) (st' := []) 2 rfl H
                      obtain ⟨g0, _, H⟩ := pFall (mcb_96 rfl) H
                      replace H := pRun (ls' := [.ref 188, .int p1, .int x2, .int x4, .int (x4 + kI 1)]) (st' := []) 1 rfl H
                      obtain ⟨g0, _, H⟩ := pGo (n1 := 13) rfl (mcb_96 rfl) H
                      exact (ih _ (by omega)).2.2 _ _ _  _ H
                    · refine pG_neg (c := x3 = (kI (-1))) g11 ?_
                      replace H := pRun (ls' := [.ref 188, .int p1, .int x2, .int x3, .int x4]) (st' := [.ref 188]) 1 rfl H
                      replace H := pGetR (r := 220) (pRf hS (by decide +kernel)) rfl H
                      replace H := pRun (ls' := [.ref 188, .int p1, .int x2, .int x3, .int x4]) (st' := [.int x4, .ref 220]) 1 rfl H
                      obtain ⟨g12, H⟩ := pIld (n := 24) (pLt (show pCa 220 24 = true by decide +kernel)) (pLn hS (show pCa 220 24 = true by decide +kernel)) H
                      refine pG_gd g12 ?_
                      replace H := pRun (ls' := [.ref 188, .int p1, .int x2, .int x3, .int x4]) (st' := [.ref 188, .int (M 220 (ix x4))]) 1 rfl H
                      replace H := pGetR (r := 220) (pRf hS (by decide +kernel)) rfl H
                      replace H := pRun (ls' := [.ref 188, .int p1, .int x2, .int x3, .int x4]) (st' := [.int x3, .ref 220, .int (M 220 (ix x4))]) 1 rfl H
                      obtain ⟨g13, H⟩ := pIld (n := 24) (pLt (show pCa 220 24 = true by decide +kernel)) (pLn hS (show pCa 220 24 = true by decide +kernel)) H
                      refine pG_gd g13 ?_
                      rcases pIfc (n1 := 25) rfl (mcb_96 rfl) (mcb_96 rfl) H with ⟨g14, g0, _, H⟩ | ⟨g14, g0, _, H⟩
                      · refine pG_pos (c := (M 220 (ix x4)) ≤ (M 220 (ix x3))) g14 ?_
                        replace H := pRun (ls' := [.ref 188, .int p1, .int x2, .int x3, .int (x4 + kI 1)]) (st' := []) 1 rfl H
                        obtain ⟨g0, _, H⟩ := pGo (n1 := 13) rfl (mcb_96 rfl) H
                        exact (ih _ (by omega)).2.2 _ _ _  _ H
                      · refine pG_neg (c := (M 220 (ix x4)) ≤ (M 220 (ix x3))) g14 ?_
                        replace H := pRun (ls' := [.ref 188, .int p1, .int x2, .int x4, .int x4]) (st' := []) 2 rfl H
                        obtain ⟨g0, _, H⟩ := pFall (mcb_96 rfl) H
                        replace H := pRun (ls' := [.ref 188, .int p1, .int x2, .int x4, .int (x4 + kI 1)]) (st' := []) 1 rfl H
                        obtain ⟨g0, _, H⟩ := pGo (n1 := 13) rfl (mcb_96 rfl) H
                        exact (ih _ (by omega)).2.2 _ _ _  _ H
                  · refine pG_neg (c := ¬ (M 221 (ix (kI 1))) = x4) g10 ?_
                    obtain ⟨g0, _, H⟩ := pGo (n1 := 25) rfl (mcb_96 rfl) H
                    replace H := pRun (ls' := [.ref 188, .int p1, .int x2, .int x3, .int (x4 + kI 1)]) (st' := []) 1 rfl H
                    obtain ⟨g0, _, H⟩ := pGo (n1 := 13) rfl (mcb_96 rfl) H
                    exact (ih _ (by omega)).2.2 _ _ _  _ H
              · refine pG_neg (c := x2 ≤ 0) g7 ?_
                replace H := pRun (ls' := [.ref 188, .int p1, .int x2, .int x3, .int x4]) (st' := [.ref 188]) 1 rfl H
                replace H := pGetR (r := 221) (pRf hS (by decide +kernel)) rfl H
                replace H := pRun (ls' := [.ref 188, .int p1, .int x2, .int x3, .int x4]) (st' := [.int (kI 0), .ref 221]) 1 rfl H
                obtain ⟨g8, H⟩ := pIld (n := 3) (pLt (show pCa 221 3 = true by decide +kernel)) (pLn hS (show pCa 221 3 = true by decide +kernel)) H
                refine pG_gd g8 ?_
                replace H := pRun (ls' := [.ref 188, .int p1, .int x2, .int x3, .int x4]) (st' := [.int x4, .int (M 221 (ix (kI 0)))]) 1 rfl H
                rcases pIfc (n1 := 25) rfl (mcb_96 rfl) (mcb_96 rfl) H with ⟨g9, g0, _, H⟩ | ⟨g9, g0, _, H⟩
                · refine pG_pos (c := (M 221 (ix (kI 0))) = x4) g9 ?_
                  replace H := pRun (ls' := [.ref 188, .int p1, .int x2, .int x3, .int (x4 + kI 1)]) (st' := []) 1 rfl H
                  obtain ⟨g0, _, H⟩ := pGo (n1 := 13) rfl (mcb_96 rfl) H
                  exact (ih _ (by omega)).2.2 _ _ _  _ H
                · refine pG_neg (c := (M 221 (ix (kI 0))) = x4) g9 ?_
                  replace H := pRun (ls' := [.ref 188, .int p1, .int x2, .int x3, .int x4]) (st' := [.int (kI 1), .int x2]) 2 rfl H
                  rcases pIfc (n1 := 22) rfl (mcb_96 rfl) (mcb_96 rfl) H with ⟨g10, g0, _, H⟩ | ⟨g10, g0, _, H⟩
                  · refine pG_pos (c := x2 ≤ (kI 1)) g10 ?_
                    replace H := pRun (ls' := [.ref 188, .int p1, .int x2, .int x3, .int x4]) (st' := [.int (kI (-1)), .int x3]) 2 rfl H
                    rcases pIfc (n1 := 24) rfl (mcb_96 rfl) (mcb_96 rfl) H with ⟨g11, g0, _, H⟩ | ⟨g11, g0, _, H⟩
                    · refine pG_pos (c := x3 = (kI (-1))) g11 ?_
                      replace H := pRun (ls' := [.ref 188, .int p1, .int x2, .int x4, .int x4]) (st' := []) 2 rfl H
                      obtain ⟨g0, _, H⟩ := pFall (mcb_96 rfl) H
                      replace H := pRun (ls' := [.ref 188, .int p1, .int x2, .int x4, .int (x4 + kI 1)]) (st' := []) 1 rfl H
                      obtain ⟨g0, _, H⟩ := pGo (n1 := 13) rfl (mcb_96 rfl) H
                      exact (ih _ (by omega)).2.2 _ _ _  _ H
                    · refine pG_neg (c := x3 = (kI (-1))) g11 ?_
                      replace H := pRun (ls' := [.ref 188, .int p1, .int x2, .int x3, .int x4]) (st' := [.ref 188]) 1 rfl H
                      replace H := pGetR (r := 220) (pRf hS (by decide +kernel)) rfl H
                      replace H := pRun (ls' := [.ref 188, .int p1, .int x2, .int x3, .int x4]) (st' := [.int x4, .ref 220]) 1 rfl H
                      obtain ⟨g12, H⟩ := pIld (n := 24) (pLt (show pCa 220 24 = true by decide +kernel)) (pLn hS (show pCa 220 24 = true by decide +kernel)) H
                      refine pG_gd g12 ?_
                      replace H := pRun (ls' := [.ref 188, .int p1, .int x2, .int x3, .int x4]) (st' := [.ref 188, .int (M 220 (ix x4))]) 1 rfl H
                      replace H := pGetR (r := 220) (pRf hS (by decide +kernel)) rfl H
                      replace H := pRun (ls' := [.ref 188, .int p1, .int x2, .int x3, .int x4]) (st' := [.int x3, .ref 220, .int (M 220 (ix x4))]) 1 rfl H
                      obtain ⟨g13, H⟩ := pIld (n := 24) (pLt (show pCa 220 24 = true by decide +kernel)) (pLn hS (show pCa 220 24 = true by decide +kernel)) H
                      refine pG_gd g13 ?_
                      rcases pIfc (n1 := 25) rfl (mcb_96 rfl) (mcb_96 rfl) H with ⟨g14, g0, _, H⟩ | ⟨g14, g0, _, H⟩
                      · refine pG_pos (c := (M 220 (ix x4)) ≤ (M 220 (ix x3))) g14 ?_
                        replace H := pRun (ls' := [.ref 188, .int p1, .int x2, .int x3, .int (x4 + kI 1)]) (st' := []) 1 rfl H
                        obtain ⟨g0, _, H⟩ := pGo (n1 := 13) rfl (mcb_96 rfl) H
                        exact (ih _ (by omega)).2.2 _ _ _  _ H
                      · refine pG_neg (c := (M 220 (ix x4)) ≤ (M 220 (ix x3))) g14 ?_
                        replace H := pRun (ls' := [.ref 188, .int p1, .int x2, .int x4, .int x4]) (st' := []) 2 rfl H
                        obtain ⟨g0, _, H⟩ := pFall (mcb_96 rfl) H
                        replace H := pRun (ls' := [.ref 188, .int p1, .int x2, .int x4, .int (x4 + kI 1)]) (st' := []) 1 rfl H
                        obtain ⟨g0, _, H⟩ := pGo (n1 := 13) rfl (mcb_96 rfl) H
                        exact (ih _ (by omega)).2.2 _ _ _  _ H
                  · refine pG_neg (c := x2 ≤ (kI 1)) g10 ?_
                    replace H := pRun (ls' := [.ref 188, .int p1, .int x2, .int x3, .int x4]) (st' := [.ref 188]) 1 rfl H
                    replace H := pGetR (r := 221) (pRf hS (by decide +kernel)) rfl H
                    replace H := pRun (ls' := [.ref 188, .int p1, .int x2, .int x3, .int x4]) (st' := [.int (kI 1), .ref 221]) 1 rfl H
                    obtain ⟨g11, H⟩ := pIld (n := 3) (pLt (show pCa 221 3 = true by decide +kernel)) (pLn hS (show pCa 221 3 = true by decide +kernel)) H
                    refine pG_gd g11 ?_
                    replace H := pRun (ls' := [.ref 188, .int p1, .int x2, .int x3, .int x4]) (st' := [.int x4, .int (M 221 (ix (kI 1)))]) 1 rfl H
                    rcases pIfc (n1 := 22) rfl (mcb_96 rfl) (mcb_96 rfl) H with ⟨g12, g0, _, H⟩ | ⟨g12, g0, _, H⟩
                    · refine pG_pos (c := ¬ (M 221 (ix (kI 1))) = x4) g12 ?_
                      replace H := pRun (ls' := [.ref 188, .int p1, .int x2, .int x3, .int x4]) (st' := [.int (kI (-1)), .int x3]) 2 rfl H
                      rcases pIfc (n1 := 24) rfl (mcb_96 rfl) (mcb_96 rfl) H with ⟨g13, g0, _, H⟩ | ⟨g13, g0, _, H⟩
                      · refine pG_pos (c := x3 = (kI (-1))) g13 ?_
                        replace H := pRun (ls' := [.ref 188, .int p1, .int x2, .int x4, .int x4]) (st' := []) 2 rfl H
                        obtain ⟨g0, _, H⟩ := pFall (mcb_96 rfl) H
                        replace H := pRun (ls' := [.ref 188, .int p1, .int x2, .int x4, .int (x4 + kI 1)]) (st' := []) 1 rfl H
                        obtain ⟨g0, _, H⟩ := pGo (n1 := 13) rfl (mcb_96 rfl) H
                        exact (ih _ (by omega)).2.2 _ _ _  _ H
                      · refine pG_neg (c := x3 = (kI (-1))) g13 ?_
                        replace H := pRun (ls' := [.ref 188, .int p1, .int x2, .int x3, .int x4]) (st' := [.ref 188]) 1 rfl H
                        replace H := pGetR (r := 220) (pRf hS (by decide +kernel)) rfl H
                        replace H := pRun (ls' := [.ref 188, .int p1, .int x2, .int x3, .int x4]) (st' := [.int x4, .ref 220]) 1 rfl H
                        obtain ⟨g14, H⟩ := pIld (n := 24) (pLt (show pCa 220 24 = true by decide +kernel)) (pLn hS (show pCa 220 24 = true by decide +kernel)) H
                        refine pG_gd g14 ?_
                        replace H := pRun (ls' := [.ref 188, .int p1, .int x2, .int x3, .int x4]) (st' := [.ref 188, .int (M 220 (ix x4))]) 1 rfl H
                        replace H := pGetR (r := 220) (pRf hS (by decide +kernel)) rfl H
                        replace H := pRun (ls' := [.ref 188, .int p1, .int x2, .int x3, .int x4]) (st' := [.int x3, .ref 220, .int (M 220 (ix x4))]) 1 rfl H
                        obtain ⟨g15, H⟩ := pIld (n := 24) (pLt (show pCa 220 24 = true by decide +kernel)) (pLn hS (show pCa 220 24 = true by decide +kernel)) H
                        refine pG_gd g15 ?_
                        rcases pIfc (n1 := 25) rfl (mcb_96 rfl) (mcb_96 rfl) H with ⟨g16, g0, _, H⟩ | ⟨g16, g0, _, H⟩
                        · refine pG_pos (c := (M 220 (ix x4)) ≤ (M 220 (ix x3))) g16 ?_
                          replace H := pRun (ls' := [.ref 188, .int p1, .int x2, .int x3, .int (x4 + kI 1)]) (st' := []) 1 rfl H
                          obtain ⟨g0, _, H⟩ := pGo (n1 := 13) rfl (mcb_96 rfl) H
                          exact (ih _ (by omega)).2.2 _ _ _  _ H
                        · refine pG_neg (c := (M 220 (ix x4)) ≤ (M 220 (ix x3))) g16 ?_
                          replace H := pRun (ls' := [.ref 188, .int p1, .int x2, .int x4, .int x4]) (st' := []) 2 rfl H
                          obtain ⟨g0, _, H⟩ := pFall (mcb_96 rfl) H
                          replace H := pRun (ls' := [.ref 188, .int p1, .int x2, .int x4, .int (x4 + kI 1)]) (st' := []) 1 rfl H
                          obtain ⟨g0, _, H⟩ := pGo (n1 := 13) rfl (mcb_96 rfl) H
                          exact (ih _ (by omega)).2.2 _ _ _  _ H
                    · refine pG_neg (c := ¬ (M 221 (ix (kI 1))) = x4) g12 ?_
                      obtain ⟨g0, _, H⟩ := pGo (n1 := 25) rfl (mcb_96 rfl) H
                      replace H := pRun (ls' := [.ref 188, .int p1, .int x2, .int x3, .int (x4 + kI 1)]) (st' := []) 1 rfl H
                      obtain ⟨g0, _, H⟩ := pGo (n1 := 13) rfl (mcb_96 rfl) H
                      exact (ih _ (by omega)).2.2 _ _ _  _ H
theorem L_96_1_ok {X : aX} {F d : Nat} {K : Nat → aK} (hS : pS K) {p1 : Int32} {out : Option Value × aH} {f : Nat} {x2 : Int32} {u3 : Value} {u4 : Value} {M : pMem} (H : pm X F d 96 f 1 [.iload 2, .aload 0, .getfield 124412008, .if_icmp .ge 10] [.ref 188, .int p1, .int x2, u3, u4] [] (pH K M) out) : pG eU K out (L_96_1 p1 x2 M) := by
  refine pG_all (C := fun P : (Int32 → pMem → pT Unit) × (Int32 → pMem → pT Unit) × (Int32 → Int32 → Int32 → pMem → pT Unit) => C_96 p1 P.1 P.2.1 P.2.2) (T := fun P => P.1 x2 M) eU_inj ((fun _ _ _ _ => True), (fun _ _ _ _ => True), (fun _ _ _ _ _ _ => True)) ?_ (fun P hP => (K_96 hS P.1 P.2.1 P.2.2 hP f).1 _ _ _ _ H)
  exact ⟨(fun _ _ _ _ _ => trivial), (fun _ _ _ _ _ => trivial), (fun _ _ _ _ _ _ _ => trivial)⟩
theorem L_96_11_ok {X : aX} {F d : Nat} {K : Nat → aK} (hS : pS K) {p1 : Int32} {out : Option Value × aH} {f : Nat} {x2 : Int32} {u3 : Value} {u4 : Value} {M : pMem} (H : pm X F d 96 f 11 [.iload 2, .bipush 3, .if_icmp .ge 27] [.ref 188, .int p1, .int x2, u3, u4] [] (pH K M) out) : pG eU K out (L_96_11 p1 x2 M) := by
  refine pG_all (C := fun P : (Int32 → pMem → pT Unit) × (Int32 → pMem → pT Unit) × (Int32 → Int32 → Int32 → pMem → pT Unit) => C_96 p1 P.1 P.2.1 P.2.2) (T := fun P => P.2.1 x2 M) eU_inj ((fun _ _ _ _ => True), (fun _ _ _ _ => True), (fun _ _ _ _ _ _ => True)) ?_ (fun P hP => (K_96 hS P.1 P.2.1 P.2.2 hP f).2.1 _ _ _ _ H)
  exact ⟨(fun _ _ _ _ _ => trivial), (fun _ _ _ _ _ => trivial), (fun _ _ _ _ _ _ _ => trivial)⟩
theorem L_96_13_ok {X : aX} {F d : Nat} {K : Nat → aK} (hS : pS K) {p1 : Int32} {out : Option Value × aH} {f : Nat} {x2 : Int32} {x3 : Int32} {x4 : Int32} {M : pMem} (H : pm X F d 96 f 13 [.iload 4, .aload 0, .getfield 124412008, .if_icmp .ge 26] [.ref 188, .int p1, .int x2, .int x3, .int x4] [] (pH K M) out) : pG eU K out (L_96_13 p1 x2 x3 x4 M) := by
  refine pG_all (C := fun P : (Int32 → pMem → pT Unit) × (Int32 → pMem → pT Unit) × (Int32 → Int32 → Int32 → pMem → pT Unit) => C_96 p1 P.1 P.2.1 P.2.2) (T := fun P => P.2.2 x2 x3 x4 M) eU_inj ((fun _ _ _ _ => True), (fun _ _ _ _ => True), (fun _ _ _ _ _ _ => True)) ?_ (fun P hP => (K_96 hS P.1 P.2.1 P.2.2 hP f).2.2 _ _ _ _ H)
  exact ⟨(fun _ _ _ _ _ => trivial), (fun _ _ _ _ _ => trivial), (fun _ _ _ _ _ _ _ => trivial)⟩
theorem D_96_ok {X : aX} {F d : Nat} {K : Nat → aK} (hS : pS K) {p1 : Int32} {M : pMem} {out : Option Value × aH} (H : aM X F d 96 [.ref 188, .int p1] (pH K M) = some out) : pG eU K out (D_96 p1 M) := by
  obtain ⟨d', g0, _, H⟩ := pEnt (n := 5) (ls := [.ref 188, .int p1, aD, aD, aD]) (mcb_96 rfl) (by decide +kernel) rfl H
  unfold D_96
  replace H := pRun (ls' := [.ref 188, .int p1, .int (kI 0), aD, aD]) (st' := []) 2 rfl H
  obtain ⟨g0, _, H⟩ := pFall (mcb_96 rfl) H
  exact L_96_1_ok hS  H
def l_96 : List (Nat × Nat) := []
theorem FC_96 {p1 : Int32} : C_96 p1 (fun _ M _ N => pFr (l_96) M N) (fun _ M _ N => pFr (l_96) M N) (fun _ _ _ M _ N => pFr (l_96) M N) := ⟨fun x2 M => show pTf (l_96) M (S_96_1 p1 _ _ _ x2 M) from (tf_if (tf_jump pFr_refl) (tf_if (tf_jump pFr_refl) (tf_gd fun g3 => (tf_if (tf_call pFr_refl (fun _ _ h => F_87 h) [] rfl fun _ M1 f1 => (tf_if (tf_gd fun g6 => (tf_gd fun g7 => (tf_putS f1 (fun _ => rfl) fun M2 f2 => (tf_jump f2)))) (tf_gd fun g6 => (tf_putS f1 (fun _ => rfl) fun M2 f2 => (tf_jump f2))))) (tf_jump pFr_refl))))), fun x2 M => show pTf (l_96) M (S_96_11 p1 _ _ _ x2 M) from (tf_if (tf_ret pFr_refl) (tf_jump pFr_refl)), fun x2 x3 x4 M => show pTf (l_96) M (S_96_13 p1 _ _ _ x2 x3 x4 M) from (tf_if (tf_gd fun g2 => (tf_putS pFr_refl (fun _ => rfl) fun M1 f1 => (tf_jump f1))) (tf_gd fun g2 => (tf_if (tf_gd fun g4 => (tf_putS pFr_refl (fun _ => rfl) fun M1 f1 => (tf_jump f1))) (tf_if (tf_jump pFr_refl) (tf_gd fun g5 => (tf_if (tf_jump pFr_refl) (tf_if (tf_if (tf_if (tf_jump pFr_refl) (tf_gd fun g10 => (tf_gd fun g11 => (tf_if (tf_jump pFr_refl) (tf_jump pFr_refl))))) (tf_gd fun g9 => (tf_if (tf_if (tf_jump pFr_refl) (tf_gd fun g12 => (tf_gd fun g13 => (tf_if (tf_jump pFr_refl) (tf_jump pFr_refl))))) (tf_jump pFr_refl)))) (tf_gd fun g8 => (tf_if (tf_jump pFr_refl) (tf_if (tf_if (tf_jump pFr_refl) (tf_gd fun g12 => (tf_gd fun g13 => (tf_if (tf_jump pFr_refl) (tf_jump pFr_refl))))) (tf_gd fun g11 => (tf_if (tf_if (tf_jump pFr_refl) (tf_gd fun g14 => (tf_gd fun g15 => (tf_if (tf_jump pFr_refl) (tf_jump pFr_refl))))) (tf_jump pFr_refl)))))))))))))⟩
theorem F_96 {p1 : Int32} {M : pMem} {v : Unit} {N : pMem} (h : D_96 p1 M v N) : pFr (l_96) M N :=
  (show pTf (l_96) M (D_96 p1 M) from (tf_jumpL (fun _ M _ N => pFr (l_96) M N, fun _ M _ N => pFr (l_96) M N, fun _ _ _ M _ N => pFr (l_96) M N) (FC_96) rfl pFr_refl)) v N h
/-- TwoCampsModel.friendsAcross(I)I -/
def S_97_1 (p1 : Int32) (P1 : Int32 → Int32 → pMem → pT Int32) (x2 : Int32) (x3 : Int32) (M : pMem) : pT Int32 := tIf ((kI 3) ≤ x3) (tRet x2 M) (tGd (pIn x3 3) <| tIf ((M 221 (ix x3)) = (kI (-1))) (P1 x2 (x3 + kI 1) M) (tGd (pIn x3 3) <| tGd (pIn (M 221 (ix x3)) 24) <| tGd (pIn p1 24) <| tIf ((M 189 (ix (M 221 (ix x3)))) = (M 189 (ix p1))) (P1 x2 (x3 + kI 1) M) (P1 (x2 + (kI 1)) (x3 + kI 1) M)))
def C_97 (p1 : Int32) (P1 : Int32 → Int32 → pMem → pT Int32) : Prop := (∀ (x2 : Int32) (x3 : Int32) M v N, S_97_1 p1 P1 x2 x3 M v N → P1 x2 x3 M v N)
def L_97_1 (p1 : Int32) (x2 : Int32) (x3 : Int32) (M : pMem) : pT Int32 := fun v N => ∀ P : (Int32 → Int32 → pMem → pT Int32), C_97 p1 P → P x2 x3 M v N
def D_97 (p1 : Int32) (M : pMem) : pT Int32 := tCall (D_96 p1 M) fun _ M1 => L_97_1 p1 (kI 0) (kI 0) M1
theorem K_97 {X : aX} {F d : Nat} {K : Nat → aK} (hS : pS K) {p1 : Int32} {out : Option Value × aH} (P1 : Int32 → Int32 → pMem → pT Int32) (hC : C_97 p1 P1) : ∀ f, (∀ (x2 : Int32) (x3 : Int32) M, pm X F d 97 f 1 [.iload 3, .bipush 3, .if_icmp .ge 6] [.ref 188, .int p1, .int x2, .int x3] [] (pH K M) out → pG eI K out (P1 x2 x3 M)) := by
  intro f
  induction f using Nat.strongRecOn with
  | _ f ih =>
    intro x2 x3 M H
    refine pG_mono (fun v N h => hC x2 x3 M v N h) ?_
    unfold S_97_1
    replace H := pRun (ls' := [.ref 188, .int p1, .int x2, .int x3]) (st' := [.int (kI 3), .int x3]) 2 rfl H
    rcases pIfc (n1 := 6) rfl (mcb_97 rfl) (mcb_97 rfl) H with ⟨g1, g0, _, H⟩ | ⟨g1, g0, _, H⟩
    · refine pG_pos (c := (kI 3) ≤ x3) g1 ?_
      replace H := pRun (ls' := [.ref 188, .int p1, .int x2, .int x3]) (st' := [.int x2]) 1 rfl H
      exact pG_ret (pRetI H)
    · refine pG_neg (c := (kI 3) ≤ x3) g1 ?_
      replace H := pRun (ls' := [.ref 188, .int p1, .int x2, .int x3]) (st' := [.ref 188]) 1 rfl H
      replace H := pGetR (r := 221) (pRf hS (by decide +kernel)) rfl H
      replace H := pRun (ls' := [.ref 188, .int p1, .int x2, .int x3]) (st' := [.int x3, .ref 221]) 1 rfl H
      obtain ⟨g2, H⟩ := pIld (n := 3) (pLt (show pCa 221 3 = true by decide +kernel)) (pLn hS (show pCa 221 3 = true by decide +kernel)) H
      refine pG_gd g2 ?_
      replace H := pRun (ls' := [.ref 188, .int p1, .int x2, .int x3]) (st' := [.int (kI (-1)), .int (M 221 (ix x3))]) 1 rfl H
      rcases pIfc (n1 := 5) rfl (mcb_97 rfl) (mcb_97 rfl) H with ⟨g3, g0, _, H⟩ | ⟨g3, g0, _, H⟩
      · refine pG_pos (c := (M 221 (ix x3)) = (kI (-1))) g3 ?_
        replace H := pRun (ls' := [.ref 188, .int p1, .int x2, .int (x3 + kI 1)]) (st' := []) 1 rfl H
        obtain ⟨g0, _, H⟩ := pGo (n1 := 1) rfl (mcb_97 rfl) H
        exact (ih _ (by omega)) _ _  _ H
      · refine pG_neg (c := (M 221 (ix x3)) = (kI (-1))) g3 ?_
        replace H := pRun (ls' := [.ref 188, .int p1, .int x2, .int x3]) (st' := [.ref 188]) 1 rfl H
        replace H := pGetR (r := 189) (pRf hS (by decide +kernel)) rfl H
        replace H := pRun (ls' := [.ref 188, .int p1, .int x2, .int x3]) (st' := [.ref 188, .ref 189]) 1 rfl H
        replace H := pGetR (r := 221) (pRf hS (by decide +kernel)) rfl H
        replace H := pRun (ls' := [.ref 188, .int p1, .int x2, .int x3]) (st' := [.int x3, .ref 221, .ref 189]) 1 rfl H
        obtain ⟨g4, H⟩ := pIld (n := 3) (pLt (show pCa 221 3 = true by decide +kernel)) (pLn hS (show pCa 221 3 = true by decide +kernel)) H
        refine pG_gd g4 ?_
        obtain ⟨g5, H⟩ := pIld (n := 24) (pLt (show pCa 189 24 = true by decide +kernel)) (pLn hS (show pCa 189 24 = true by decide +kernel)) H
        refine pG_gd g5 ?_
        replace H := pRun (ls' := [.ref 188, .int p1, .int x2, .int x3]) (st' := [.ref 188, .int (M 189 (ix (M 221 (ix x3))))]) 1 rfl H
        replace H := pGetR (r := 189) (pRf hS (by decide +kernel)) rfl H
        replace H := pRun (ls' := [.ref 188, .int p1, .int x2, .int x3]) (st' := [.int p1, .ref 189, .int (M 189 (ix (M 221 (ix x3))))]) 1 rfl H
        obtain ⟨g6, H⟩ := pIld (n := 24) (pLt (show pCa 189 24 = true by decide +kernel)) (pLn hS (show pCa 189 24 = true by decide +kernel)) H
        refine pG_gd g6 ?_
        rcases pIfc (n1 := 5) rfl (mcb_97 rfl) (mcb_97 rfl) H with ⟨g7, g0, _, H⟩ | ⟨g7, g0, _, H⟩
        · refine pG_pos (c := (M 189 (ix (M 221 (ix x3)))) = (M 189 (ix p1))) g7 ?_
          replace H := pRun (ls' := [.ref 188, .int p1, .int x2, .int (x3 + kI 1)]) (st' := []) 1 rfl H
          obtain ⟨g0, _, H⟩ := pGo (n1 := 1) rfl (mcb_97 rfl) H
          exact (ih _ (by omega)) _ _  _ H
        · refine pG_neg (c := (M 189 (ix (M 221 (ix x3)))) = (M 189 (ix p1))) g7 ?_
          replace H := pRun (ls' := [.ref 188, .int p1, .int (x2 + (kI 1)), .int x3]) (st' := []) 4 rfl H
          obtain ⟨g0, _, H⟩ := pFall (mcb_97 rfl) H
          replace H := pRun (ls' := [.ref 188, .int p1, .int (x2 + (kI 1)), .int (x3 + kI 1)]) (st' := []) 1 rfl H
          obtain ⟨g0, _, H⟩ := pGo (n1 := 1) rfl (mcb_97 rfl) H
          exact (ih _ (by omega)) _ _  _ H
theorem L_97_1_ok {X : aX} {F d : Nat} {K : Nat → aK} (hS : pS K) {p1 : Int32} {out : Option Value × aH} {f : Nat} {x2 : Int32} {x3 : Int32} {M : pMem} (H : pm X F d 97 f 1 [.iload 3, .bipush 3, .if_icmp .ge 6] [.ref 188, .int p1, .int x2, .int x3] [] (pH K M) out) : pG eI K out (L_97_1 p1 x2 x3 M) := by
  refine pG_all (C := fun P : (Int32 → Int32 → pMem → pT Int32) => C_97 p1 P) (T := fun P => P x2 x3 M) eI_inj (fun _ _ _ _ _ => True) ?_ (fun P hP => (K_97 hS P hP f) _ _ _ H)
  exact (fun _ _ _ _ _ _ => trivial)
theorem D_97_ok {X : aX} {F d : Nat} {K : Nat → aK} (hS : pS K) {p1 : Int32} {M : pMem} {out : Option Value × aH} (H : aM X F d 97 [.ref 188, .int p1] (pH K M) = some out) : pG eI K out (D_97 p1 M) := by
  obtain ⟨d', g0, _, H⟩ := pEnt (n := 4) (ls := [.ref 188, .int p1, aD, aD]) (mcb_97 rfl) (by decide +kernel) rfl H
  unfold D_97
  replace H := pRun (ls' := [.ref 188, .int p1, aD, aD]) (st' := [.int p1, .ref 188]) 2 rfl H
  obtain ⟨rv, h1, hc, H⟩ := pCalV 96 1 188 (as := [.int p1]) (rest := []) rfl (by decide) (by decide +kernel) rfl rfl H
  obtain ⟨v1, M1, hD, H⟩ := pUseU (D_96_ok hS hc) H
  refine pG_call (x := v1) (M1 := M1) hD ?_
  replace H := pRun (ls' := [.ref 188, .int p1, .int (kI 0), .int (kI 0)]) (st' := []) 4 rfl H
  obtain ⟨g0, _, H⟩ := pFall (mcb_97 rfl) H
  exact L_97_1_ok hS  H
def l_97 : List (Nat × Nat) := []
theorem FC_97 {p1 : Int32} : C_97 p1 (fun _ _ M _ N => pFr (l_97) M N) := fun x2 x3 M => show pTf (l_97) M (S_97_1 p1 _ x2 x3 M) from (tf_if (tf_ret pFr_refl) (tf_gd fun g2 => (tf_if (tf_jump pFr_refl) (tf_gd fun g4 => (tf_gd fun g5 => (tf_gd fun g6 => (tf_if (tf_jump pFr_refl) (tf_jump pFr_refl))))))))
theorem F_97 {p1 : Int32} {M : pMem} {v : Int32} {N : pMem} (h : D_97 p1 M v N) : pFr (l_97) M N :=
  (show pTf (l_97) M (D_97 p1 M) from (tf_call pFr_refl (fun _ _ h => F_96 h) [] rfl fun _ M1 f1 => (tf_jumpL (fun _ _ M _ N => pFr (l_97) M N) (FC_97) rfl f1))) v N h
/-- TwoCampsModel.isFriend(II)Z -/
def D_98 (p1 : Int32) (p2 : Int32) (M : pMem) : pT Int32 := tCall (D_96 p1 M) fun _ M1 => tGd (pIn (kI 0) 3) <| tIf ((M1 221 (ix (kI 0))) = p2) (tRet (kI 1) M1) (tGd (pIn (kI 1) 3) <| tIf ((M1 221 (ix (kI 1))) = p2) (tRet (kI 1) M1) (tGd (pIn (kI 2) 3) <| tIf (¬ (M1 221 (ix (kI 2))) = p2) (tRet (kI 0) M1) (tRet (kI 1) M1)))
theorem D_98_ok {X : aX} {F d : Nat} {K : Nat → aK} (hS : pS K) {p1 : Int32} {p2 : Int32} {M : pMem} {out : Option Value × aH} (H : aM X F d 98 [.ref 188, .int p1, .int p2] (pH K M) = some out) : pG eI K out (D_98 p1 p2 M) := by
  obtain ⟨d', g0, _, H⟩ := pEnt (n := 3) (ls := [.ref 188, .int p1, .int p2]) (mcb_98 rfl) (by decide +kernel) rfl H
  unfold D_98
  replace H := pRun (ls' := [.ref 188, .int p1, .int p2]) (st' := [.int p1, .ref 188]) 2 rfl H
  obtain ⟨rv, h1, hc, H⟩ := pCalV 96 1 188 (as := [.int p1]) (rest := []) rfl (by decide) (by decide +kernel) rfl rfl H
  obtain ⟨v1, M1, hD, H⟩ := pUseU (D_96_ok hS hc) H
  refine pG_call (x := v1) (M1 := M1) hD ?_
  replace H := pRun (ls' := [.ref 188, .int p1, .int p2]) (st' := [.ref 188]) 1 rfl H
  replace H := pGetR (r := 221) (pRf hS (by decide +kernel)) rfl H
  replace H := pRun (ls' := [.ref 188, .int p1, .int p2]) (st' := [.int (kI 0), .ref 221]) 1 rfl H
  obtain ⟨g1, H⟩ := pIld (n := 3) (pLt (show pCa 221 3 = true by decide +kernel)) (pLn hS (show pCa 221 3 = true by decide +kernel)) H
  refine pG_gd g1 ?_
  replace H := pRun (ls' := [.ref 188, .int p1, .int p2]) (st' := [.int p2, .int (M1 221 (ix (kI 0)))]) 1 rfl H
  rcases pIfc (n1 := 3) rfl (mcb_98 rfl) (mcb_98 rfl) H with ⟨g2, g0, _, H⟩ | ⟨g2, g0, _, H⟩
  · refine pG_pos (c := (M1 221 (ix (kI 0))) = p2) g2 ?_
    replace H := pRun (ls' := [.ref 188, .int p1, .int p2]) (st' := [.int (kI 1)]) 1 rfl H
    obtain ⟨g0, _, H⟩ := pGo (n1 := 5) rfl (mcb_98 rfl) H
    exact pG_ret (pRetI H)
  · refine pG_neg (c := (M1 221 (ix (kI 0))) = p2) g2 ?_
    replace H := pRun (ls' := [.ref 188, .int p1, .int p2]) (st' := [.ref 188]) 1 rfl H
    replace H := pGetR (r := 221) (pRf hS (by decide +kernel)) rfl H
    replace H := pRun (ls' := [.ref 188, .int p1, .int p2]) (st' := [.int (kI 1), .ref 221]) 1 rfl H
    obtain ⟨g3, H⟩ := pIld (n := 3) (pLt (show pCa 221 3 = true by decide +kernel)) (pLn hS (show pCa 221 3 = true by decide +kernel)) H
    refine pG_gd g3 ?_
    replace H := pRun (ls' := [.ref 188, .int p1, .int p2]) (st' := [.int p2, .int (M1 221 (ix (kI 1)))]) 1 rfl H
    rcases pIfc (n1 := 3) rfl (mcb_98 rfl) (mcb_98 rfl) H with ⟨g4, g0, _, H⟩ | ⟨g4, g0, _, H⟩
    · refine pG_pos (c := (M1 221 (ix (kI 1))) = p2) g4 ?_
      replace H := pRun (ls' := [.ref 188, .int p1, .int p2]) (st' := [.int (kI 1)]) 1 rfl H
      obtain ⟨g0, _, H⟩ := pGo (n1 := 5) rfl (mcb_98 rfl) H
      exact pG_ret (pRetI H)
    · refine pG_neg (c := (M1 221 (ix (kI 1))) = p2) g4 ?_
      replace H := pRun (ls' := [.ref 188, .int p1, .int p2]) (st' := [.ref 188]) 1 rfl H
      replace H := pGetR (r := 221) (pRf hS (by decide +kernel)) rfl H
      replace H := pRun (ls' := [.ref 188, .int p1, .int p2]) (st' := [.int (kI 2), .ref 221]) 1 rfl H
      obtain ⟨g5, H⟩ := pIld (n := 3) (pLt (show pCa 221 3 = true by decide +kernel)) (pLn hS (show pCa 221 3 = true by decide +kernel)) H
      refine pG_gd g5 ?_
      replace H := pRun (ls' := [.ref 188, .int p1, .int p2]) (st' := [.int p2, .int (M1 221 (ix (kI 2)))]) 1 rfl H
      rcases pIfc (n1 := 4) rfl (mcb_98 rfl) (mcb_98 rfl) H with ⟨g6, g0, _, H⟩ | ⟨g6, g0, _, H⟩
      · refine pG_pos (c := ¬ (M1 221 (ix (kI 2))) = p2) g6 ?_
        replace H := pRun (ls' := [.ref 188, .int p1, .int p2]) (st' := [.int (kI 0)]) 1 rfl H
        obtain ⟨g0, _, H⟩ := pFall (mcb_98 rfl) H
        exact pG_ret (pRetI H)
      · refine pG_neg (c := ¬ (M1 221 (ix (kI 2))) = p2) g6 ?_
        replace H := pRun (ls' := [.ref 188, .int p1, .int p2]) (st' := [.int (kI 1)]) 1 rfl H
        obtain ⟨g0, _, H⟩ := pGo (n1 := 5) rfl (mcb_98 rfl) H
        exact pG_ret (pRetI H)
def l_98 : List (Nat × Nat) := []
theorem F_98 {p1 : Int32} {p2 : Int32} {M : pMem} {v : Int32} {N : pMem} (h : D_98 p1 p2 M v N) : pFr (l_98) M N :=
  (show pTf (l_98) M (D_98 p1 p2 M) from (tf_call pFr_refl (fun _ _ h => F_96 h) [] rfl fun _ M1 f1 => (tf_gd fun g1 => (tf_if (tf_ret f1) (tf_gd fun g3 => (tf_if (tf_ret f1) (tf_gd fun g5 => (tf_if (tf_ret f1) (tf_ret f1))))))))) v N h
/-- TwoCampsModel.stayLoyal()V -/
def S_99_1 (P1 : Int32 → pMem → pT Unit) (x1 : Int32) (M : pMem) : pT Unit := tIf ((M 188 2) ≤ x1) (tRet () M) (tGd (pIn x1 24) <| tIf (¬ (M 191 (ix x1)) = (kI 1)) (P1 (x1 + kI 1) M) (tGd (pIn x1 24) <| tIf (¬ (M 192 (ix x1)) = (kI 1)) (P1 (x1 + kI 1) M) (tCall (D_97 x1 M) fun v1 M1 => tIf (¬ v1 = 0) (P1 (x1 + kI 1) M1) (tGd (pIn x1 24) <| tPut (aPut M1 192 (ix x1) (kI 0)) fun M2 => P1 (x1 + kI 1) M2))))
def C_99 (P1 : Int32 → pMem → pT Unit) : Prop := (∀ (x1 : Int32) M v N, S_99_1 P1 x1 M v N → P1 x1 M v N)
def L_99_1 (x1 : Int32) (M : pMem) : pT Unit := fun v N => ∀ P : (Int32 → pMem → pT Unit), C_99 P → P x1 M v N
def D_99 (M : pMem) : pT Unit := L_99_1 (kI 0) M
theorem K_99 {X : aX} {F d : Nat} {K : Nat → aK} (hS : pS K) {out : Option Value × aH} (P1 : Int32 → pMem → pT Unit) (hC : C_99 P1) : ∀ f, (∀ (x1 : Int32) M, pm X F d 99 f 1 [.iload 1, .aload 0, .getfield 124412008, .if_icmp .ge 7] [.ref 188, .int x1] [] (pH K M) out → pG eU K out (P1 x1 M)) := by
  intro f
  induction f using Nat.strongRecOn with
  | _ f ih =>
    intro x1 M H
    refine pG_mono (fun v N h => hC x1 M v N h) ?_
    unfold S_99_1
    replace H := pRun (ls' := [.ref 188, .int x1]) (st' := [.ref 188, .int x1]) 2 rfl H
    replace H := pGetN (v := M 188 2) rfl (by decide) H
    rcases pIfc (n1 := 7) rfl (mcb_99 rfl) (mcb_99 rfl) H with ⟨g1, g0, _, H⟩ | ⟨g1, g0, _, H⟩
    · refine pG_pos (c := (M 188 2) ≤ x1) g1 ?_
      exact pG_ret (pRetU H)
    · refine pG_neg (c := (M 188 2) ≤ x1) g1 ?_
      replace H := pRun (ls' := [.ref 188, .int x1]) (st' := [.ref 188]) 1 rfl H
      replace H := pGetR (r := 191) (pRf hS (by decide +kernel)) rfl H
      replace H := pRun (ls' := [.ref 188, .int x1]) (st' := [.int x1, .ref 191]) 1 rfl H
      obtain ⟨g2, H⟩ := pIld (n := 24) (pLt (show pCa 191 24 = true by decide +kernel)) (pLn hS (show pCa 191 24 = true by decide +kernel)) H
      refine pG_gd g2 ?_
      replace H := pRun (ls' := [.ref 188, .int x1]) (st' := [.int (kI 1), .int (M 191 (ix x1))]) 1 rfl H
      rcases pIfc (n1 := 6) rfl (mcb_99 rfl) (mcb_99 rfl) H with ⟨g3, g0, _, H⟩ | ⟨g3, g0, _, H⟩
      · refine pG_pos (c := ¬ (M 191 (ix x1)) = (kI 1)) g3 ?_
        replace H := pRun (ls' := [.ref 188, .int (x1 + kI 1)]) (st' := []) 1 rfl H
        obtain ⟨g0, _, H⟩ := pGo (n1 := 1) rfl (mcb_99 rfl) H
        exact (ih _ (by omega)) _  _ H
      · refine pG_neg (c := ¬ (M 191 (ix x1)) = (kI 1)) g3 ?_
        replace H := pRun (ls' := [.ref 188, .int x1]) (st' := [.ref 188]) 1 rfl H
        replace H := pGetR (r := 192) (pRf hS (by decide +kernel)) rfl H
        replace H := pRun (ls' := [.ref 188, .int x1]) (st' := [.int x1, .ref 192]) 1 rfl H
        obtain ⟨g4, H⟩ := pIld (n := 24) (pLt (show pCa 192 24 = true by decide +kernel)) (pLn hS (show pCa 192 24 = true by decide +kernel)) H
        refine pG_gd g4 ?_
        replace H := pRun (ls' := [.ref 188, .int x1]) (st' := [.int (kI 1), .int (M 192 (ix x1))]) 1 rfl H
        rcases pIfc (n1 := 6) rfl (mcb_99 rfl) (mcb_99 rfl) H with ⟨g5, g0, _, H⟩ | ⟨g5, g0, _, H⟩
        · refine pG_pos (c := ¬ (M 192 (ix x1)) = (kI 1)) g5 ?_
          replace H := pRun (ls' := [.ref 188, .int (x1 + kI 1)]) (st' := []) 1 rfl H
          obtain ⟨g0, _, H⟩ := pGo (n1 := 1) rfl (mcb_99 rfl) H
          exact (ih _ (by omega)) _  _ H
        · refine pG_neg (c := ¬ (M 192 (ix x1)) = (kI 1)) g5 ?_
          replace H := pRun (ls' := [.ref 188, .int x1]) (st' := [.int x1, .ref 188]) 2 rfl H
          obtain ⟨rv, h1, hc, H⟩ := pCalV 97 1 188 (as := [.int x1]) (rest := []) rfl (by decide) (by decide +kernel) rfl rfl H
          obtain ⟨v1, M1, hD, H⟩ := pUseI (D_97_ok hS hc) H
          refine pG_call (x := v1) (M1 := M1) hD ?_
          rcases pIf0 (n1 := 6) rfl (mcb_99 rfl) (mcb_99 rfl) H with ⟨g6, g0, _, H⟩ | ⟨g6, g0, _, H⟩
          · refine pG_pos (c := ¬ v1 = 0) g6 ?_
            replace H := pRun (ls' := [.ref 188, .int (x1 + kI 1)]) (st' := []) 1 rfl H
            obtain ⟨g0, _, H⟩ := pGo (n1 := 1) rfl (mcb_99 rfl) H
            exact (ih _ (by omega)) _  _ H
          · refine pG_neg (c := ¬ v1 = 0) g6 ?_
            replace H := pRun (ls' := [.ref 188, .int x1]) (st' := [.ref 188]) 1 rfl H
            replace H := pGetR (r := 192) (pRf hS (by decide +kernel)) rfl H
            replace H := pRun (ls' := [.ref 188, .int x1]) (st' := [.int (kI 0), .int x1, .ref 192]) 2 rfl H
            obtain ⟨g7, M2, eM2, H⟩ := pIst (n := 24) (pLn hS (show pCa 192 24 = true by decide +kernel)) H
            refine pG_gd g7 (pG_put (M2 := M2) eM2 ?_)
            obtain ⟨g0, _, H⟩ := pFall (mcb_99 rfl) H
            replace H := pRun (ls' := [.ref 188, .int (x1 + kI 1)]) (st' := []) 1 rfl H
            obtain ⟨g0, _, H⟩ := pGo (n1 := 1) rfl (mcb_99 rfl) H
            exact (ih _ (by omega)) _  _ H
theorem L_99_1_ok {X : aX} {F d : Nat} {K : Nat → aK} (hS : pS K) {out : Option Value × aH} {f : Nat} {x1 : Int32} {M : pMem} (H : pm X F d 99 f 1 [.iload 1, .aload 0, .getfield 124412008, .if_icmp .ge 7] [.ref 188, .int x1] [] (pH K M) out) : pG eU K out (L_99_1 x1 M) := by
  refine pG_all (C := fun P : (Int32 → pMem → pT Unit) => C_99 P) (T := fun P => P x1 M) eU_inj (fun _ _ _ _ => True) ?_ (fun P hP => (K_99 hS P hP f) _ _ H)
  exact (fun _ _ _ _ _ => trivial)
theorem D_99_ok {X : aX} {F d : Nat} {K : Nat → aK} (hS : pS K) {M : pMem} {out : Option Value × aH} (H : aM X F d 99 [.ref 188] (pH K M) = some out) : pG eU K out (D_99 M) := by
  obtain ⟨d', g0, _, H⟩ := pEnt (n := 2) (ls := [.ref 188, aD]) (mcb_99 rfl) (by decide +kernel) rfl H
  unfold D_99
  replace H := pRun (ls' := [.ref 188, .int (kI 0)]) (st' := []) 2 rfl H
  obtain ⟨g0, _, H⟩ := pFall (mcb_99 rfl) H
  exact L_99_1_ok hS  H
def l_99 : List (Nat × Nat) := [(192, 999)]
theorem FC_99 : C_99 (fun _ M _ N => pFr (l_99) M N) := fun x1 M => show pTf (l_99) M (S_99_1 _ x1 M) from (tf_if (tf_ret pFr_refl) (tf_gd fun g2 => (tf_if (tf_jump pFr_refl) (tf_gd fun g4 => (tf_if (tf_jump pFr_refl) (tf_call pFr_refl (fun _ _ h => F_97 h) [] rfl fun _ M1 f1 => (tf_if (tf_jump f1) (tf_gd fun g7 => (tf_putA f1 0 rfl fun M2 f2 => (tf_jump f2))))))))))
theorem F_99 {M : pMem} {v : Unit} {N : pMem} (h : D_99 M v N) : pFr (l_99) M N :=
  (show pTf (l_99) M (D_99 M) from (tf_jumpL (fun _ M _ N => pFr (l_99) M N) (FC_99) rfl pFr_refl)) v N h
/-- TwoCampsModel.keeps()V -/
def D_100 (M : pMem) : pT Unit := tIf ((M 188 3) < (kI 60)) (tCall (D_54 (kI 0) (kI 0) M) fun v1 M1 => tGd (pIn ((kI 8) * (M 188 3)) 480) <| tPut (aPut M1 201 (ix ((kI 8) * (M 188 3))) v1) fun M2 => tCall (D_54 (kI 1) (kI 1) M2) fun v2 M3 => tGd (pIn (((kI 8) * (M 188 3)) + (kI 1)) 480) <| tPut (aPut M3 201 (ix (((kI 8) * (M 188 3)) + (kI 1))) v2) fun M4 => tCall (D_54 (kI 0) (kI 1) M4) fun v3 M5 => tGd (pIn (((kI 8) * (M 188 3)) + (kI 2)) 480) <| tPut (aPut M5 201 (ix (((kI 8) * (M 188 3)) + (kI 2))) v3) fun M6 => tCall (D_54 (kI 1) (kI 0) M6) fun v4 M7 => tGd (pIn (((kI 8) * (M 188 3)) + (kI 3)) 480) <| tPut (aPut M7 201 (ix (((kI 8) * (M 188 3)) + (kI 3))) v4) fun M8 => tGd (pIn (((kI 8) * (M 188 3)) + (kI 4)) 480) <| tPut (aPut M8 201 (ix (((kI 8) * (M 188 3)) + (kI 4))) (M8 188 20)) fun M9 => tGd (pIn (((kI 8) * (M 188 3)) + (kI 5)) 480) <| tPut (aPut M9 201 (ix (((kI 8) * (M 188 3)) + (kI 5))) (M9 188 54)) fun M10 => tCall (D_53 (kI 0) M10) fun v5 M11 => tCall (D_53 (kI 1) M11) fun v6 M12 => tGd (pIn (((kI 8) * (M 188 3)) + (kI 6)) 480) <| tPut (aPut M12 201 (ix (((kI 8) * (M 188 3)) + (kI 6))) (v5 + v6)) fun M13 => tGd (pIn (((kI 8) * (M 188 3)) + (kI 7)) 480) <| tPut (aPut M13 201 (ix (((kI 8) * (M 188 3)) + (kI 7))) (M13 188 17)) fun M14 => tRet () M14) (tRet () M)
theorem D_100_ok {X : aX} {F d : Nat} {K : Nat → aK} (hS : pS K) {M : pMem} {out : Option Value × aH} (H : aM X F d 100 [.ref 188] (pH K M) = some out) : pG eU K out (D_100 M) := by
  obtain ⟨d', g0, _, H⟩ := pEnt (n := 2) (ls := [.ref 188, aD]) (mcb_100 rfl) (by decide +kernel) rfl H
  unfold D_100
  replace H := pRun (ls' := [.ref 188, aD]) (st' := [.ref 188]) 1 rfl H
  replace H := pGetN (v := M 188 3) rfl (by decide) H
  replace H := pRun (ls' := [.ref 188, aD]) (st' := [.int (kI 60), .int (M 188 3)]) 1 rfl H
  rcases pIfc (n1 := 2) rfl (mcb_100 rfl) (mcb_100 rfl) H with ⟨g1, g0, _, H⟩ | ⟨g1, g0, _, H⟩
  · refine pG_pos (c := (M 188 3) < (kI 60)) g1 ?_
    replace H := pRun (ls' := [.ref 188, aD]) (st' := [.ref 188, .int (kI 8)]) 2 rfl H
    replace H := pGetN (v := M 188 3) rfl (by decide) H
    replace H := pRun (ls' := [.ref 188, .int ((kI 8) * (M 188 3))]) (st' := [.ref 188]) 3 rfl H
    replace H := pGetR (r := 201) (pRf hS (by decide +kernel)) rfl H
    replace H := pRun (ls' := [.ref 188, .int ((kI 8) * (M 188 3))]) (st' := [.int (kI 0), .int (kI 0), .ref 188, .int ((kI 8) * (M 188 3)), .ref 201]) 4 rfl H
    obtain ⟨rv, h1, hc, H⟩ := pCalV 54 2 188 (as := [.int (kI 0), .int (kI 0)]) (rest := [.int ((kI 8) * (M 188 3)), .ref 201]) rfl (by decide) (by decide +kernel) rfl rfl H
    obtain ⟨v1, M1, hD, H⟩ := pUseI (D_54_ok hS hc) H
    refine pG_call (x := v1) (M1 := M1) hD ?_
    obtain ⟨g2, M2, eM2, H⟩ := pIst (n := 480) (pLn hS (show pCa 201 480 = true by decide +kernel)) H
    refine pG_gd g2 (pG_put (M2 := M2) eM2 ?_)
    replace H := pRun (ls' := [.ref 188, .int ((kI 8) * (M 188 3))]) (st' := [.ref 188]) 1 rfl H
    replace H := pGetR (r := 201) (pRf hS (by decide +kernel)) rfl H
    replace H := pRun (ls' := [.ref 188, .int ((kI 8) * (M 188 3))]) (st' := [.int (kI 1), .int (kI 1), .ref 188, .int (((kI 8) * (M 188 3)) + (kI 1)), .ref 201]) 6 rfl H
    obtain ⟨rv, h1, hc, H⟩ := pCalV 54 2 188 (as := [.int (kI 1), .int (kI 1)]) (rest := [.int (((kI 8) * (M 188 3)) + (kI 1)), .ref 201]) rfl (by decide) (by decide +kernel) rfl rfl H
    obtain ⟨v2, M3, hD, H⟩ := pUseI (D_54_ok hS hc) H
    refine pG_call (x := v2) (M1 := M3) hD ?_
    obtain ⟨g3, M4, eM4, H⟩ := pIst (n := 480) (pLn hS (show pCa 201 480 = true by decide +kernel)) H
    refine pG_gd g3 (pG_put (M2 := M4) eM4 ?_)
    replace H := pRun (ls' := [.ref 188, .int ((kI 8) * (M 188 3))]) (st' := [.ref 188]) 1 rfl H
    replace H := pGetR (r := 201) (pRf hS (by decide +kernel)) rfl H
    replace H := pRun (ls' := [.ref 188, .int ((kI 8) * (M 188 3))]) (st' := [.int (kI 1), .int (kI 0), .ref 188, .int (((kI 8) * (M 188 3)) + (kI 2)), .ref 201]) 6 rfl H
    obtain ⟨rv, h1, hc, H⟩ := pCalV 54 2 188 (as := [.int (kI 0), .int (kI 1)]) (rest := [.int (((kI 8) * (M 188 3)) + (kI 2)), .ref 201]) rfl (by decide) (by decide +kernel) rfl rfl H
    obtain ⟨v3, M5, hD, H⟩ := pUseI (D_54_ok hS hc) H
    refine pG_call (x := v3) (M1 := M5) hD ?_
    obtain ⟨g4, M6, eM6, H⟩ := pIst (n := 480) (pLn hS (show pCa 201 480 = true by decide +kernel)) H
    refine pG_gd g4 (pG_put (M2 := M6) eM6 ?_)
    replace H := pRun (ls' := [.ref 188, .int ((kI 8) * (M 188 3))]) (st' := [.ref 188]) 1 rfl H
    replace H := pGetR (r := 201) (pRf hS (by decide +kernel)) rfl H
    replace H := pRun (ls' := [.ref 188, .int ((kI 8) * (M 188 3))]) (st' := [.int (kI 0), .int (kI 1), .ref 188, .int (((kI 8) * (M 188 3)) + (kI 3)), .ref 201]) 6 rfl H
    obtain ⟨rv, h1, hc, H⟩ := pCalV 54 2 188 (as := [.int (kI 1), .int (kI 0)]) (rest := [.int (((kI 8) * (M 188 3)) + (kI 3)), .ref 201]) rfl (by decide) (by decide +kernel) rfl rfl H
    obtain ⟨v4, M7, hD, H⟩ := pUseI (D_54_ok hS hc) H
    refine pG_call (x := v4) (M1 := M7) hD ?_
    obtain ⟨g5, M8, eM8, H⟩ := pIst (n := 480) (pLn hS (show pCa 201 480 = true by decide +kernel)) H
    refine pG_gd g5 (pG_put (M2 := M8) eM8 ?_)
    replace H := pRun (ls' := [.ref 188, .int ((kI 8) * (M 188 3))]) (st' := [.ref 188]) 1 rfl H
    replace H := pGetR (r := 201) (pRf hS (by decide +kernel)) rfl H
    replace H := pRun (ls' := [.ref 188, .int ((kI 8) * (M 188 3))]) (st' := [.ref 188, .int (((kI 8) * (M 188 3)) + (kI 4)), .ref 201]) 4 rfl H
    replace H := pGetN (v := M8 188 20) rfl (by decide) H
    obtain ⟨g6, M9, eM9, H⟩ := pIst (n := 480) (pLn hS (show pCa 201 480 = true by decide +kernel)) H
    refine pG_gd g6 (pG_put (M2 := M9) eM9 ?_)
    replace H := pRun (ls' := [.ref 188, .int ((kI 8) * (M 188 3))]) (st' := [.ref 188]) 1 rfl H
    replace H := pGetR (r := 201) (pRf hS (by decide +kernel)) rfl H
    replace H := pRun (ls' := [.ref 188, .int ((kI 8) * (M 188 3))]) (st' := [.ref 188, .int (((kI 8) * (M 188 3)) + (kI 5)), .ref 201]) 4 rfl H
    replace H := pGetN (v := M9 188 54) rfl (by decide) H
    obtain ⟨g7, M10, eM10, H⟩ := pIst (n := 480) (pLn hS (show pCa 201 480 = true by decide +kernel)) H
    refine pG_gd g7 (pG_put (M2 := M10) eM10 ?_)
    replace H := pRun (ls' := [.ref 188, .int ((kI 8) * (M 188 3))]) (st' := [.ref 188]) 1 rfl H
    replace H := pGetR (r := 201) (pRf hS (by decide +kernel)) rfl H
    replace H := pRun (ls' := [.ref 188, .int ((kI 8) * (M 188 3))]) (st' := [.int (kI 0), .ref 188, .int (((kI 8) * (M 188 3)) + (kI 6)), .ref 201]) 5 rfl H
    obtain ⟨rv, h1, hc, H⟩ := pCalV 53 1 188 (as := [.int (kI 0)]) (rest := [.int (((kI 8) * (M 188 3)) + (kI 6)), .ref 201]) rfl (by decide) (by decide +kernel) rfl rfl H
    obtain ⟨v5, M11, hD, H⟩ := pUseI (D_53_ok hS hc) H
    refine pG_call (x := v5) (M1 := M11) hD ?_
    replace H := pRun (ls' := [.ref 188, .int ((kI 8) * (M 188 3))]) (st' := [.int (kI 1), .ref 188, .int v5, .int (((kI 8) * (M 188 3)) + (kI 6)), .ref 201]) 2 rfl H
    obtain ⟨rv, h1, hc, H⟩ := pCalV 53 1 188 (as := [.int (kI 1)]) (rest := [.int v5, .int (((kI 8) * (M 188 3)) + (kI 6)), .ref 201]) rfl (by decide) (by decide +kernel) rfl rfl H
    obtain ⟨v6, M12, hD, H⟩ := pUseI (D_53_ok hS hc) H
    refine pG_call (x := v6) (M1 := M12) hD ?_
    replace H := pRun (ls' := [.ref 188, .int ((kI 8) * (M 188 3))]) (st' := [.int (v5 + v6), .int (((kI 8) * (M 188 3)) + (kI 6)), .ref 201]) 1 rfl H
    obtain ⟨g8, M13, eM13, H⟩ := pIst (n := 480) (pLn hS (show pCa 201 480 = true by decide +kernel)) H
    refine pG_gd g8 (pG_put (M2 := M13) eM13 ?_)
    replace H := pRun (ls' := [.ref 188, .int ((kI 8) * (M 188 3))]) (st' := [.ref 188]) 1 rfl H
    replace H := pGetR (r := 201) (pRf hS (by decide +kernel)) rfl H
    replace H := pRun (ls' := [.ref 188, .int ((kI 8) * (M 188 3))]) (st' := [.ref 188, .int (((kI 8) * (M 188 3)) + (kI 7)), .ref 201]) 4 rfl H
    replace H := pGetN (v := M13 188 17) rfl (by decide) H
    obtain ⟨g9, M14, eM14, H⟩ := pIst (n := 480) (pLn hS (show pCa 201 480 = true by decide +kernel)) H
    refine pG_gd g9 (pG_put (M2 := M14) eM14 ?_)
    exact pG_ret (pRetU H)
  · refine pG_neg (c := (M 188 3) < (kI 60)) g1 ?_
    exact pG_ret (pRetU H)
def l_100 : List (Nat × Nat) := [(201, 999)]
theorem F_100 {M : pMem} {v : Unit} {N : pMem} (h : D_100 M v N) : pFr (l_100) M N :=
  (show pTf (l_100) M (D_100 M) from (tf_if (tf_call pFr_refl (fun _ _ h => F_54 h) [] rfl fun _ M1 f1 => (tf_gd fun g2 => (tf_putA f1 0 rfl fun M2 f2 => (tf_call f2 (fun _ _ h => F_54 h) [] rfl fun _ M3 f3 => (tf_gd fun g3 => (tf_putA f3 0 rfl fun M4 f4 => (tf_call f4 (fun _ _ h => F_54 h) [] rfl fun _ M5 f5 => (tf_gd fun g4 => (tf_putA f5 0 rfl fun M6 f6 => (tf_call f6 (fun _ _ h => F_54 h) [] rfl fun _ M7 f7 => (tf_gd fun g5 => (tf_putA f7 0 rfl fun M8 f8 => (tf_gd fun g6 => (tf_putA f8 0 rfl fun M9 f9 => (tf_gd fun g7 => (tf_putA f9 0 rfl fun M10 f10 => (tf_call f10 (fun _ _ h => F_53 h) [] rfl fun _ M11 f11 => (tf_call f11 (fun _ _ h => F_53 h) [] rfl fun _ M12 f12 => (tf_gd fun g8 => (tf_putA f12 0 rfl fun M13 f13 => (tf_gd fun g9 => (tf_putA f13 0 rfl fun M14 f14 => (tf_ret f14))))))))))))))))))))))) (tf_ret pFr_refl))) v N h
/-- TwoCampsModel.goesBy(III)V -/
def D_101 (p1 : Int32) (p2 : Int32) (p3 : Int32) (M : pMem) : pT Unit := tPut (aPut M 188 17 p1) fun M1 => tPut (aPut M1 188 18 p2) fun M2 => tPut (aPut M2 188 19 (M2 188 3)) fun M3 => tPut (aPut M3 188 20 (kI (-1))) fun M4 => tPut (aPut M4 188 21 p3) fun M5 => tIf (p3 = (kI (-1))) (tIf (¬ p1 = (kI 1)) (tCall (D_92 M5) fun _ M6 => tCall (D_93 M6) fun _ M7 => tCall (D_94 M7) fun _ M8 => tCall (D_95 M8) fun _ M9 => tCall (D_99 M9) fun _ M10 => tCall (D_100 M10) fun _ M11 => tPut (aPut M11 188 3 ((M11 188 3) + (kI 1))) fun M12 => tRet () M12) (tCall (D_91 M5) fun _ M6 => tCall (D_92 M6) fun _ M7 => tCall (D_93 M7) fun _ M8 => tCall (D_94 M8) fun _ M9 => tCall (D_95 M9) fun _ M10 => tCall (D_99 M10) fun _ M11 => tCall (D_100 M11) fun _ M12 => tPut (aPut M12 188 3 ((M12 188 3) + (kI 1))) fun M13 => tRet () M13)) (tGd (pIn p3 2) <| tGd (pIn p3 2) <| tPut (aPut M5 200 (ix p3) ((M5 200 (ix p3)) + (kI 1))) fun M6 => tIf (¬ p1 = (kI 1)) (tCall (D_92 M6) fun _ M7 => tCall (D_93 M7) fun _ M8 => tCall (D_94 M8) fun _ M9 => tCall (D_95 M9) fun _ M10 => tCall (D_99 M10) fun _ M11 => tCall (D_100 M11) fun _ M12 => tPut (aPut M12 188 3 ((M12 188 3) + (kI 1))) fun M13 => tRet () M13) (tCall (D_91 M6) fun _ M7 => tCall (D_92 M7) fun _ M8 => tCall (D_93 M8) fun _ M9 => tCall (D_94 M9) fun _ M10 => tCall (D_95 M10) fun _ M11 => tCall (D_99 M11) fun _ M12 => tCall (D_100 M12) fun _ M13 => tPut (aPut M13 188 3 ((M13 188 3) + (kI 1))) fun M14 => tRet () M14))
theorem D_101_ok {X : aX} {F d : Nat} {K : Nat → aK} (hS : pS K) {p1 : Int32} {p2 : Int32} {p3 : Int32} {M : pMem} {out : Option Value × aH} (H : aM X F d 101 [.ref 188, .int p1, .int p2, .int p3] (pH K M) = some out) : pG eU K out (D_101 p1 p2 p3 M) := by
  obtain ⟨d', g0, _, H⟩ := pEnt (n := 4) (ls := [.ref 188, .int p1, .int p2, .int p3]) (mcb_101 rfl) (by decide +kernel) rfl H
  unfold D_101
  replace H := pRun (ls' := [.ref 188, .int p1, .int p2, .int p3]) (st' := [.int p1, .ref 188]) 2 rfl H
  obtain ⟨M1, eM1, H⟩ := pPutN (j := 17) rfl H
  refine pG_put (M2 := M1) eM1 ?_
  replace H := pRun (ls' := [.ref 188, .int p1, .int p2, .int p3]) (st' := [.int p2, .ref 188]) 2 rfl H
  obtain ⟨M2, eM2, H⟩ := pPutN (j := 18) rfl H
  refine pG_put (M2 := M2) eM2 ?_
  replace H := pRun (ls' := [.ref 188, .int p1, .int p2, .int p3]) (st' := [.ref 188, .ref 188]) 2 rfl H
  replace H := pGetN (v := M2 188 3) rfl (by decide) H
  obtain ⟨M3, eM3, H⟩ := pPutN (j := 19) rfl H
  refine pG_put (M2 := M3) eM3 ?_
  replace H := pRun (ls' := [.ref 188, .int p1, .int p2, .int p3]) (st' := [.int (kI (-1)), .ref 188]) 2 rfl H
  obtain ⟨M4, eM4, H⟩ := pPutN (j := 20) rfl H
  refine pG_put (M2 := M4) eM4 ?_
  replace H := pRun (ls' := [.ref 188, .int p1, .int p2, .int p3]) (st' := [.int p3, .ref 188]) 2 rfl H
  obtain ⟨M5, eM5, H⟩ := pPutN (j := 21) rfl H
  refine pG_put (M2 := M5) eM5 ?_
  replace H := pRun (ls' := [.ref 188, .int p1, .int p2, .int p3]) (st' := [.int (kI (-1)), .int p3]) 2 rfl H
  rcases pIfc (n1 := 2) rfl (mcb_101 rfl) (mcb_101 rfl) H with ⟨g1, g0, _, H⟩ | ⟨g1, g0, _, H⟩
  · refine pG_pos (c := p3 = (kI (-1))) g1 ?_
    replace H := pRun (ls' := [.ref 188, .int p1, .int p2, .int p3]) (st' := [.int (kI 1), .int p1]) 2 rfl H
    rcases pIfc (n1 := 4) rfl (mcb_101 rfl) (mcb_101 rfl) H with ⟨g2, g0, _, H⟩ | ⟨g2, g0, _, H⟩
    · refine pG_pos (c := ¬ p1 = (kI 1)) g2 ?_
      replace H := pRun (ls' := [.ref 188, .int p1, .int p2, .int p3]) (st' := [.ref 188]) 1 rfl H
      obtain ⟨rv, h1, hc, H⟩ := pCalV 92 0 188 (as := []) (rest := []) rfl (by decide) (by decide +kernel) rfl rfl H
      obtain ⟨v1, M6, hD, H⟩ := pUseU (D_92_ok hS hc) H
      refine pG_call (x := v1) (M1 := M6) hD ?_
      replace H := pRun (ls' := [.ref 188, .int p1, .int p2, .int p3]) (st' := [.ref 188]) 1 rfl H
      obtain ⟨rv, h1, hc, H⟩ := pCalV 93 0 188 (as := []) (rest := []) rfl (by decide) (by decide +kernel) rfl rfl H
      obtain ⟨v2, M7, hD, H⟩ := pUseU (D_93_ok hS hc) H
      refine pG_call (x := v2) (M1 := M7) hD ?_
      replace H := pRun (ls' := [.ref 188, .int p1, .int p2, .int p3]) (st' := [.ref 188]) 1 rfl H
      obtain ⟨rv, h1, hc, H⟩ := pCalV 94 0 188 (as := []) (rest := []) rfl (by decide) (by decide +kernel) rfl rfl H
      obtain ⟨v3, M8, hD, H⟩ := pUseU (D_94_ok hS hc) H
      refine pG_call (x := v3) (M1 := M8) hD ?_
      replace H := pRun (ls' := [.ref 188, .int p1, .int p2, .int p3]) (st' := [.ref 188]) 1 rfl H
      obtain ⟨rv, h1, hc, H⟩ := pCalV 95 0 188 (as := []) (rest := []) rfl (by decide) (by decide +kernel) rfl rfl H
      obtain ⟨v4, M9, hD, H⟩ := pUseU (D_95_ok hS hc) H
      refine pG_call (x := v4) (M1 := M9) hD ?_
      replace H := pRun (ls' := [.ref 188, .int p1, .int p2, .int p3]) (st' := [.ref 188]) 1 rfl H
      obtain ⟨rv, h1, hc, H⟩ := pCalV 99 0 188 (as := []) (rest := []) rfl (by decide) (by decide +kernel) rfl rfl H
      obtain ⟨v5, M10, hD, H⟩ := pUseU (D_99_ok hS hc) H
      refine pG_call (x := v5) (M1 := M10) hD ?_
      replace H := pRun (ls' := [.ref 188, .int p1, .int p2, .int p3]) (st' := [.ref 188]) 1 rfl H
      obtain ⟨rv, h1, hc, H⟩ := pCalV 100 0 188 (as := []) (rest := []) rfl (by decide) (by decide +kernel) rfl rfl H
      obtain ⟨v6, M11, hD, H⟩ := pUseU (D_100_ok hS hc) H
      refine pG_call (x := v6) (M1 := M11) hD ?_
      replace H := pRun (ls' := [.ref 188, .int p1, .int p2, .int p3]) (st' := [.ref 188, .ref 188]) 2 rfl H
      replace H := pGetN (v := M11 188 3) rfl (by decide) H
      replace H := pRun (ls' := [.ref 188, .int p1, .int p2, .int p3]) (st' := [.int ((M11 188 3) + (kI 1)), .ref 188]) 2 rfl H
      obtain ⟨M12, eM12, H⟩ := pPutN (j := 3) rfl H
      refine pG_put (M2 := M12) eM12 ?_
      exact pG_ret (pRetU H)
    · refine pG_neg (c := ¬ p1 = (kI 1)) g2 ?_
      replace H := pRun (ls' := [.ref 188, .int p1, .int p2, .int p3]) (st' := [.ref 188]) 1 rfl H
      obtain ⟨rv, h1, hc, H⟩ := pCalV 91 0 188 (as := []) (rest := []) rfl (by decide) (by decide +kernel) rfl rfl H
      obtain ⟨v1, M6, hD, H⟩ := pUseU (D_91_ok hS hc) H
      refine pG_call (x := v1) (M1 := M6) hD ?_
      obtain ⟨g0, _, H⟩ := pFall (mcb_101 rfl) H
      replace H := pRun (ls' := [.ref 188, .int p1, .int p2, .int p3]) (st' := [.ref 188]) 1 rfl H
      obtain ⟨rv, h1, hc, H⟩ := pCalV 92 0 188 (as := []) (rest := []) rfl (by decide) (by decide +kernel) rfl rfl H
      obtain ⟨v2, M7, hD, H⟩ := pUseU (D_92_ok hS hc) H
      refine pG_call (x := v2) (M1 := M7) hD ?_
      replace H := pRun (ls' := [.ref 188, .int p1, .int p2, .int p3]) (st' := [.ref 188]) 1 rfl H
      obtain ⟨rv, h1, hc, H⟩ := pCalV 93 0 188 (as := []) (rest := []) rfl (by decide) (by decide +kernel) rfl rfl H
      obtain ⟨v3, M8, hD, H⟩ := pUseU (D_93_ok hS hc) H
      refine pG_call (x := v3) (M1 := M8) hD ?_
      replace H := pRun (ls' := [.ref 188, .int p1, .int p2, .int p3]) (st' := [.ref 188]) 1 rfl H
      obtain ⟨rv, h1, hc, H⟩ := pCalV 94 0 188 (as := []) (rest := []) rfl (by decide) (by decide +kernel) rfl rfl H
      obtain ⟨v4, M9, hD, H⟩ := pUseU (D_94_ok hS hc) H
      refine pG_call (x := v4) (M1 := M9) hD ?_
      replace H := pRun (ls' := [.ref 188, .int p1, .int p2, .int p3]) (st' := [.ref 188]) 1 rfl H
      obtain ⟨rv, h1, hc, H⟩ := pCalV 95 0 188 (as := []) (rest := []) rfl (by decide) (by decide +kernel) rfl rfl H
      obtain ⟨v5, M10, hD, H⟩ := pUseU (D_95_ok hS hc) H
      refine pG_call (x := v5) (M1 := M10) hD ?_
      replace H := pRun (ls' := [.ref 188, .int p1, .int p2, .int p3]) (st' := [.ref 188]) 1 rfl H
      obtain ⟨rv, h1, hc, H⟩ := pCalV 99 0 188 (as := []) (rest := []) rfl (by decide) (by decide +kernel) rfl rfl H
      obtain ⟨v6, M11, hD, H⟩ := pUseU (D_99_ok hS hc) H
      refine pG_call (x := v6) (M1 := M11) hD ?_
      replace H := pRun (ls' := [.ref 188, .int p1, .int p2, .int p3]) (st' := [.ref 188]) 1 rfl H
      obtain ⟨rv, h1, hc, H⟩ := pCalV 100 0 188 (as := []) (rest := []) rfl (by decide) (by decide +kernel) rfl rfl H
      obtain ⟨v7, M12, hD, H⟩ := pUseU (D_100_ok hS hc) H
      refine pG_call (x := v7) (M1 := M12) hD ?_
      replace H := pRun (ls' := [.ref 188, .int p1, .int p2, .int p3]) (st' := [.ref 188, .ref 188]) 2 rfl H
      replace H := pGetN (v := M12 188 3) rfl (by decide) H
      replace H := pRun (ls' := [.ref 188, .int p1, .int p2, .int p3]) (st' := [.int ((M12 188 3) + (kI 1)), .ref 188]) 2 rfl H
      obtain ⟨M13, eM13, H⟩ := pPutN (j := 3) rfl H
      refine pG_put (M2 := M13) eM13 ?_
      exact pG_ret (pRetU H)
  · refine pG_neg (c := p3 = (kI (-1))) g1 ?_
    replace H := pRun (ls' := [.ref 188, .int p1, .int p2, .int p3]) (st' := [.ref 188]) 1 rfl H
    replace H := pGetR (r := 200) (pRf hS (by decide +kernel)) rfl H
    replace H := pRun (ls' := [.ref 188, .int p1, .int p2, .int p3]) (st' := [.ref 188, .int p3, .ref 200]) 2 rfl H
    replace H := pGetR (r := 200) (pRf hS (by decide +kernel)) rfl H
    replace H := pRun (ls' := [.ref 188, .int p1, .int p2, .int p3]) (st' := [.int p3, .ref 200, .int p3, .ref 200]) 1 rfl H
    obtain ⟨g2, H⟩ := pIld (n := 2) (pLt (show pCa 200 2 = true by decide +kernel)) (pLn hS (show pCa 200 2 = true by decide +kernel)) H
    refine pG_gd g2 ?_
    replace H := pRun (ls' := [.ref 188, .int p1, .int p2, .int p3]) (st' := [.int ((M5 200 (ix p3)) + (kI 1)), .int p3, .ref 200]) 2 rfl H
    obtain ⟨g3, M6, eM6, H⟩ := pIst (n := 2) (pLn hS (show pCa 200 2 = true by decide +kernel)) H
    refine pG_gd g3 (pG_put (M2 := M6) eM6 ?_)
    obtain ⟨g0, _, H⟩ := pFall (mcb_101 rfl) H
    replace H := pRun (ls' := [.ref 188, .int p1, .int p2, .int p3]) (st' := [.int (kI 1), .int p1]) 2 rfl H
    rcases pIfc (n1 := 4) rfl (mcb_101 rfl) (mcb_101 rfl) H with ⟨g4, g0, _, H⟩ | ⟨g4, g0, _, H⟩
    · refine pG_pos (c := ¬ p1 = (kI 1)) g4 ?_
      replace H := pRun (ls' := [.ref 188, .int p1, .int p2, .int p3]) (st' := [.ref 188]) 1 rfl H
      obtain ⟨rv, h1, hc, H⟩ := pCalV 92 0 188 (as := []) (rest := []) rfl (by decide) (by decide +kernel) rfl rfl H
      obtain ⟨v1, M7, hD, H⟩ := pUseU (D_92_ok hS hc) H
      refine pG_call (x := v1) (M1 := M7) hD ?_
      replace H := pRun (ls' := [.ref 188, .int p1, .int p2, .int p3]) (st' := [.ref 188]) 1 rfl H
      obtain ⟨rv, h1, hc, H⟩ := pCalV 93 0 188 (as := []) (rest := []) rfl (by decide) (by decide +kernel) rfl rfl H
      obtain ⟨v2, M8, hD, H⟩ := pUseU (D_93_ok hS hc) H
      refine pG_call (x := v2) (M1 := M8) hD ?_
      replace H := pRun (ls' := [.ref 188, .int p1, .int p2, .int p3]) (st' := [.ref 188]) 1 rfl H
      obtain ⟨rv, h1, hc, H⟩ := pCalV 94 0 188 (as := []) (rest := []) rfl (by decide) (by decide +kernel) rfl rfl H
      obtain ⟨v3, M9, hD, H⟩ := pUseU (D_94_ok hS hc) H
      refine pG_call (x := v3) (M1 := M9) hD ?_
      replace H := pRun (ls' := [.ref 188, .int p1, .int p2, .int p3]) (st' := [.ref 188]) 1 rfl H
      obtain ⟨rv, h1, hc, H⟩ := pCalV 95 0 188 (as := []) (rest := []) rfl (by decide) (by decide +kernel) rfl rfl H
      obtain ⟨v4, M10, hD, H⟩ := pUseU (D_95_ok hS hc) H
      refine pG_call (x := v4) (M1 := M10) hD ?_
      replace H := pRun (ls' := [.ref 188, .int p1, .int p2, .int p3]) (st' := [.ref 188]) 1 rfl H
      obtain ⟨rv, h1, hc, H⟩ := pCalV 99 0 188 (as := []) (rest := []) rfl (by decide) (by decide +kernel) rfl rfl H
      obtain ⟨v5, M11, hD, H⟩ := pUseU (D_99_ok hS hc) H
      refine pG_call (x := v5) (M1 := M11) hD ?_
      replace H := pRun (ls' := [.ref 188, .int p1, .int p2, .int p3]) (st' := [.ref 188]) 1 rfl H
      obtain ⟨rv, h1, hc, H⟩ := pCalV 100 0 188 (as := []) (rest := []) rfl (by decide) (by decide +kernel) rfl rfl H
      obtain ⟨v6, M12, hD, H⟩ := pUseU (D_100_ok hS hc) H
      refine pG_call (x := v6) (M1 := M12) hD ?_
      replace H := pRun (ls' := [.ref 188, .int p1, .int p2, .int p3]) (st' := [.ref 188, .ref 188]) 2 rfl H
      replace H := pGetN (v := M12 188 3) rfl (by decide) H
      replace H := pRun (ls' := [.ref 188, .int p1, .int p2, .int p3]) (st' := [.int ((M12 188 3) + (kI 1)), .ref 188]) 2 rfl H
      obtain ⟨M13, eM13, H⟩ := pPutN (j := 3) rfl H
      refine pG_put (M2 := M13) eM13 ?_
      exact pG_ret (pRetU H)
    · refine pG_neg (c := ¬ p1 = (kI 1)) g4 ?_
      replace H := pRun (ls' := [.ref 188, .int p1, .int p2, .int p3]) (st' := [.ref 188]) 1 rfl H
      obtain ⟨rv, h1, hc, H⟩ := pCalV 91 0 188 (as := []) (rest := []) rfl (by decide) (by decide +kernel) rfl rfl H
      obtain ⟨v1, M7, hD, H⟩ := pUseU (D_91_ok hS hc) H
      refine pG_call (x := v1) (M1 := M7) hD ?_
      obtain ⟨g0, _, H⟩ := pFall (mcb_101 rfl) H
      replace H := pRun (ls' := [.ref 188, .int p1, .int p2, .int p3]) (st' := [.ref 188]) 1 rfl H
      obtain ⟨rv, h1, hc, H⟩ := pCalV 92 0 188 (as := []) (rest := []) rfl (by decide) (by decide +kernel) rfl rfl H
      obtain ⟨v2, M8, hD, H⟩ := pUseU (D_92_ok hS hc) H
      refine pG_call (x := v2) (M1 := M8) hD ?_
      replace H := pRun (ls' := [.ref 188, .int p1, .int p2, .int p3]) (st' := [.ref 188]) 1 rfl H
      obtain ⟨rv, h1, hc, H⟩ := pCalV 93 0 188 (as := []) (rest := []) rfl (by decide) (by decide +kernel) rfl rfl H
      obtain ⟨v3, M9, hD, H⟩ := pUseU (D_93_ok hS hc) H
      refine pG_call (x := v3) (M1 := M9) hD ?_
      replace H := pRun (ls' := [.ref 188, .int p1, .int p2, .int p3]) (st' := [.ref 188]) 1 rfl H
      obtain ⟨rv, h1, hc, H⟩ := pCalV 94 0 188 (as := []) (rest := []) rfl (by decide) (by decide +kernel) rfl rfl H
      obtain ⟨v4, M10, hD, H⟩ := pUseU (D_94_ok hS hc) H
      refine pG_call (x := v4) (M1 := M10) hD ?_
      replace H := pRun (ls' := [.ref 188, .int p1, .int p2, .int p3]) (st' := [.ref 188]) 1 rfl H
      obtain ⟨rv, h1, hc, H⟩ := pCalV 95 0 188 (as := []) (rest := []) rfl (by decide) (by decide +kernel) rfl rfl H
      obtain ⟨v5, M11, hD, H⟩ := pUseU (D_95_ok hS hc) H
      refine pG_call (x := v5) (M1 := M11) hD ?_
      replace H := pRun (ls' := [.ref 188, .int p1, .int p2, .int p3]) (st' := [.ref 188]) 1 rfl H
      obtain ⟨rv, h1, hc, H⟩ := pCalV 99 0 188 (as := []) (rest := []) rfl (by decide) (by decide +kernel) rfl rfl H
      obtain ⟨v6, M12, hD, H⟩ := pUseU (D_99_ok hS hc) H
      refine pG_call (x := v6) (M1 := M12) hD ?_
      replace H := pRun (ls' := [.ref 188, .int p1, .int p2, .int p3]) (st' := [.ref 188]) 1 rfl H
      obtain ⟨rv, h1, hc, H⟩ := pCalV 100 0 188 (as := []) (rest := []) rfl (by decide) (by decide +kernel) rfl rfl H
      obtain ⟨v7, M13, hD, H⟩ := pUseU (D_100_ok hS hc) H
      refine pG_call (x := v7) (M1 := M13) hD ?_
      replace H := pRun (ls' := [.ref 188, .int p1, .int p2, .int p3]) (st' := [.ref 188, .ref 188]) 2 rfl H
      replace H := pGetN (v := M13 188 3) rfl (by decide) H
      replace H := pRun (ls' := [.ref 188, .int p1, .int p2, .int p3]) (st' := [.int ((M13 188 3) + (kI 1)), .ref 188]) 2 rfl H
      obtain ⟨M14, eM14, H⟩ := pPutN (j := 3) rfl H
      refine pG_put (M2 := M14) eM14 ?_
      exact pG_ret (pRetU H)
def l_101 : List (Nat × Nat) := [(188, 17), (188, 18), (188, 19), (188, 20), (188, 21), (194, 999), (188, 54), (188, 55), (197, 999), (198, 999), (188, 57), (191, 999), (188, 56), (196, 999), (192, 999), (201, 999), (188, 3), (188, 1), (199, 999), (200, 999)]
theorem F_101 {p1 : Int32} {p2 : Int32} {p3 : Int32} {M : pMem} {v : Unit} {N : pMem} (h : D_101 p1 p2 p3 M v N) : pFr (l_101) M N :=
  (show pTf (l_101) M (D_101 p1 p2 p3 M) from (tf_put pFr_refl 0 rfl fun M1 f1 => (tf_put f1 1 rfl fun M2 f2 => (tf_put f2 2 rfl fun M3 f3 => (tf_put f3 3 rfl fun M4 f4 => (tf_put f4 4 rfl fun M5 f5 => (tf_if (tf_if (tf_call f5 (fun _ _ h => F_92 h) [5] rfl fun _ M6 f6 => (tf_call f6 (fun _ _ h => F_93 h) [6, 7, 8, 9] rfl fun _ M7 f7 => (tf_call f7 (fun _ _ h => F_94 h) [10, 11] rfl fun _ M8 f8 => (tf_call f8 (fun _ _ h => F_95 h) [12, 13] rfl fun _ M9 f9 => (tf_call f9 (fun _ _ h => F_99 h) [14] rfl fun _ M10 f10 => (tf_call f10 (fun _ _ h => F_100 h) [15] rfl fun _ M11 f11 => (tf_put f11 16 rfl fun M12 f12 => (tf_ret f12)))))))) (tf_call f5 (fun _ _ h => F_91 h) [17, 3, 18] rfl fun _ M6 f6 => (tf_call f6 (fun _ _ h => F_92 h) [5] rfl fun _ M7 f7 => (tf_call f7 (fun _ _ h => F_93 h) [6, 7, 8, 9] rfl fun _ M8 f8 => (tf_call f8 (fun _ _ h => F_94 h) [10, 11] rfl fun _ M9 f9 => (tf_call f9 (fun _ _ h => F_95 h) [12, 13] rfl fun _ M10 f10 => (tf_call f10 (fun _ _ h => F_99 h) [14] rfl fun _ M11 f11 => (tf_call f11 (fun _ _ h => F_100 h) [15] rfl fun _ M12 f12 => (tf_put f12 16 rfl fun M13 f13 => (tf_ret f13)))))))))) (tf_gd fun g2 => (tf_gd fun g3 => (tf_putA f5 19 rfl fun M6 f6 => (tf_if (tf_call f6 (fun _ _ h => F_92 h) [5] rfl fun _ M7 f7 => (tf_call f7 (fun _ _ h => F_93 h) [6, 7, 8, 9] rfl fun _ M8 f8 => (tf_call f8 (fun _ _ h => F_94 h) [10, 11] rfl fun _ M9 f9 => (tf_call f9 (fun _ _ h => F_95 h) [12, 13] rfl fun _ M10 f10 => (tf_call f10 (fun _ _ h => F_99 h) [14] rfl fun _ M11 f11 => (tf_call f11 (fun _ _ h => F_100 h) [15] rfl fun _ M12 f12 => (tf_put f12 16 rfl fun M13 f13 => (tf_ret f13)))))))) (tf_call f6 (fun _ _ h => F_91 h) [17, 3, 18] rfl fun _ M7 f7 => (tf_call f7 (fun _ _ h => F_92 h) [5] rfl fun _ M8 f8 => (tf_call f8 (fun _ _ h => F_93 h) [6, 7, 8, 9] rfl fun _ M9 f9 => (tf_call f9 (fun _ _ h => F_94 h) [10, 11] rfl fun _ M10 f10 => (tf_call f10 (fun _ _ h => F_95 h) [12, 13] rfl fun _ M11 f11 => (tf_call f11 (fun _ _ h => F_99 h) [14] rfl fun _ M12 f12 => (tf_call f12 (fun _ _ h => F_100 h) [15] rfl fun _ M13 f13 => (tf_put f13 16 rfl fun M14 f14 => (tf_ret f14)))))))))))))))))))) v N h
/-- TwoCampsModel.force(I)I -/
def D_103 (p1 : Int32) (M : pMem) : pT Int32 := tPut (aPut M 188 0 (kI 0)) fun M1 => tIf (¬ (f_42 p1 (kI 0) (kI 3)) = 0) (tPut (aPut M1 188 4 p1) fun M2 => tRet (M1 188 4) M2) (tRet (kI (-1)) M1)
theorem D_103_ok {X : aX} {F d : Nat} {K : Nat → aK} (hS : pS K) {p1 : Int32} {M : pMem} {out : Option Value × aH} (H : aM X F d 103 [.ref 188, .int p1] (pH K M) = some out) : pG eI K out (D_103 p1 M) := by
  obtain ⟨d', g0, _, H⟩ := pEnt (n := 3) (ls := [.ref 188, .int p1, aD]) (mcb_103 rfl) (by decide +kernel) rfl H
  unfold D_103
  replace H := pRun (ls' := [.ref 188, .int p1, aD]) (st' := [.int (kI 0), .ref 188]) 2 rfl H
  obtain ⟨M1, eM1, H⟩ := pPutN (j := 0) rfl H
  refine pG_put (M2 := M1) eM1 ?_
  replace H := pRun (ls' := [.ref 188, .int p1, aD]) (st' := [.int (kI 3), .int (kI 0), .int p1, .ref 188]) 4 rfl H
  obtain ⟨rv, h1, hc, H⟩ := pCalV 42 3 188 (as := [.int p1, .int (kI 0), .int (kI 3)]) (rest := []) rfl (by decide) (by decide +kernel) rfl rfl H
  replace H := pUseF (f_42_ok hS hc) H
  rcases pIf0 (n1 := 2) rfl (mcb_103 rfl) (mcb_103 rfl) H with ⟨g1, g0, _, H⟩ | ⟨g1, g0, _, H⟩
  · refine pG_pos (c := ¬ (f_42 p1 (kI 0) (kI 3)) = 0) g1 ?_
    replace H := pRun (ls' := [.ref 188, .int p1, aD]) (st' := [.ref 188]) 1 rfl H
    replace H := pGetN (v := M1 188 4) rfl (by decide) H
    replace H := pRun (ls' := [.ref 188, .int p1, .int (M1 188 4)]) (st' := [.int p1, .ref 188]) 3 rfl H
    obtain ⟨M2, eM2, H⟩ := pPutN (j := 4) rfl H
    refine pG_put (M2 := M2) eM2 ?_
    replace H := pRun (ls' := [.ref 188, .int p1, .int (M1 188 4)]) (st' := [.int (M1 188 4)]) 1 rfl H
    exact pG_ret (pRetI H)
  · refine pG_neg (c := ¬ (f_42 p1 (kI 0) (kI 3)) = 0) g1 ?_
    replace H := pRun (ls' := [.ref 188, .int p1, aD]) (st' := [.int (kI (-1))]) 1 rfl H
    exact pG_ret (pRetI H)
def l_103 : List (Nat × Nat) := [(188, 4)]
theorem F_103 {p1 : Int32} {M : pMem} {v : Int32} {N : pMem} (h : D_103 p1 M v N) : pFr (l_103) M N :=
  (show pTf (l_103) M (D_103 p1 M) from (tf_putS1 pFr_refl rfl fun M1 f1 => (tf_if (tf_put f1 0 rfl fun M2 f2 => (tf_ret f2)) (tf_ret f1)))) v N h
/-- TwoCampsModel.day(III)I -/
def D_104 (p1 : Int32) (p2 : Int32) (p3 : Int32) (M : pMem) : pT Int32 := tPut (aPut M 188 0 (kI 0)) fun M1 => tIf ((f_42 p1 (kI 0) (kI 3)) = 0) (tRet (kI (-1)) M1) (tIf (¬ p1 = (kI 1)) (tIf ((f_42 p2 (kI 0) (kI 0)) = 0) (tRet (kI (-1)) M1) (tIf ((f_42 p3 (kI (-1)) (kI 1)) = 0) (tRet (kI (-1)) M1) (tIf (¬ (M1 188 3) = (kI 60)) (tCall (D_101 p1 p2 p3 M1) fun _ M2 => tRet (f_102 M2) M2) (tRet (kI (-1)) M1)))) (tIf ((f_42 p2 (kI 0) (kI 9)) = 0) (tRet (kI (-1)) M1) (tIf ((f_42 p3 (kI (-1)) (kI 1)) = 0) (tRet (kI (-1)) M1) (tIf (¬ (M1 188 3) = (kI 60)) (tCall (D_101 p1 p2 p3 M1) fun _ M2 => tRet (f_102 M2) M2) (tRet (kI (-1)) M1)))))
theorem D_104_ok {X : aX} {F d : Nat} {K : Nat → aK} (hS : pS K) {p1 : Int32} {p2 : Int32} {p3 : Int32} {M : pMem} {out : Option Value × aH} (H : aM X F d 104 [.ref 188, .int p1, .int p2, .int p3] (pH K M) = some out) : pG eI K out (D_104 p1 p2 p3 M) := by
  obtain ⟨d', g0, _, H⟩ := pEnt (n := 4) (ls := [.ref 188, .int p1, .int p2, .int p3]) (mcb_104 rfl) (by decide +kernel) rfl H
  unfold D_104
  replace H := pRun (ls' := [.ref 188, .int p1, .int p2, .int p3]) (st' := [.int (kI 0), .ref 188]) 2 rfl H
  obtain ⟨M1, eM1, H⟩ := pPutN (j := 0) rfl H
  refine pG_put (M2 := M1) eM1 ?_
  replace H := pRun (ls' := [.ref 188, .int p1, .int p2, .int p3]) (st' := [.int (kI 3), .int (kI 0), .int p1, .ref 188]) 4 rfl H
  obtain ⟨rv, h1, hc, H⟩ := pCalV 42 3 188 (as := [.int p1, .int (kI 0), .int (kI 3)]) (rest := []) rfl (by decide) (by decide +kernel) rfl rfl H
  replace H := pUseF (f_42_ok hS hc) H
  rcases pIf0 (n1 := 7) rfl (mcb_104 rfl) (mcb_104 rfl) H with ⟨g1, g0, _, H⟩ | ⟨g1, g0, _, H⟩
  · refine pG_pos (c := (f_42 p1 (kI 0) (kI 3)) = 0) g1 ?_
    replace H := pRun (ls' := [.ref 188, .int p1, .int p2, .int p3]) (st' := [.int (kI (-1))]) 1 rfl H
    exact pG_ret (pRetI H)
  · refine pG_neg (c := (f_42 p1 (kI 0) (kI 3)) = 0) g1 ?_
    replace H := pRun (ls' := [.ref 188, .int p1, .int p2, .int p3]) (st' := [.int (kI 1), .int p1, .int (kI 0), .int p2, .ref 188]) 5 rfl H
    rcases pIfc (n1 := 3) rfl (mcb_104 rfl) (mcb_104 rfl) H with ⟨g2, g0, _, H⟩ | ⟨g2, g0, _, H⟩
    · refine pG_pos (c := ¬ p1 = (kI 1)) g2 ?_
      replace H := pRun (ls' := [.ref 188, .int p1, .int p2, .int p3]) (st' := [.int (kI 0), .int (kI 0), .int p2, .ref 188]) 1 rfl H
      obtain ⟨g0, _, H⟩ := pFall (mcb_104 rfl) H
      obtain ⟨rv, h1, hc, H⟩ := pCalV 42 3 188 (as := [.int p2, .int (kI 0), .int (kI 0)]) (rest := []) rfl (by decide) (by decide +kernel) rfl rfl H
      replace H := pUseF (f_42_ok hS hc) H
      rcases pIf0 (n1 := 7) rfl (mcb_104 rfl) (mcb_104 rfl) H with ⟨g3, g0, _, H⟩ | ⟨g3, g0, _, H⟩
      · refine pG_pos (c := (f_42 p2 (kI 0) (kI 0)) = 0) g3 ?_
        replace H := pRun (ls' := [.ref 188, .int p1, .int p2, .int p3]) (st' := [.int (kI (-1))]) 1 rfl H
        exact pG_ret (pRetI H)
      · refine pG_neg (c := (f_42 p2 (kI 0) (kI 0)) = 0) g3 ?_
        replace H := pRun (ls' := [.ref 188, .int p1, .int p2, .int p3]) (st' := [.int (kI 1), .int (kI (-1)), .int p3, .ref 188]) 4 rfl H
        obtain ⟨rv, h1, hc, H⟩ := pCalV 42 3 188 (as := [.int p3, .int (kI (-1)), .int (kI 1)]) (rest := []) rfl (by decide) (by decide +kernel) rfl rfl H
        replace H := pUseF (f_42_ok hS hc) H
        rcases pIf0 (n1 := 7) rfl (mcb_104 rfl) (mcb_104 rfl) H with ⟨g4, g0, _, H⟩ | ⟨g4, g0, _, H⟩
        · refine pG_pos (c := (f_42 p3 (kI (-1)) (kI 1)) = 0) g4 ?_
          replace H := pRun (ls' := [.ref 188, .int p1, .int p2, .int p3]) (st' := [.int (kI (-1))]) 1 rfl H
          exact pG_ret (pRetI H)
        · refine pG_neg (c := (f_42 p3 (kI (-1)) (kI 1)) = 0) g4 ?_
          replace H := pRun (ls' := [.ref 188, .int p1, .int p2, .int p3]) (st' := [.ref 188]) 1 rfl H
          replace H := pGetN (v := M1 188 3) rfl (by decide) H
          replace H := pRun (ls' := [.ref 188, .int p1, .int p2, .int p3]) (st' := [.int (kI 60), .int (M1 188 3)]) 1 rfl H
          rcases pIfc (n1 := 8) rfl (mcb_104 rfl) (mcb_104 rfl) H with ⟨g5, g0, _, H⟩ | ⟨g5, g0, _, H⟩
          · refine pG_pos (c := ¬ (M1 188 3) = (kI 60)) g5 ?_
            replace H := pRun (ls' := [.ref 188, .int p1, .int p2, .int p3]) (st' := [.int p3, .int p2, .int p1, .ref 188]) 4 rfl H
            obtain ⟨rv, h1, hc, H⟩ := pCalV 101 3 188 (as := [.int p1, .int p2, .int p3]) (rest := []) rfl (by decide) (by decide +kernel) rfl rfl H
            obtain ⟨v1, M2, hD, H⟩ := pUseU (D_101_ok hS hc) H
            refine pG_call (x := v1) (M1 := M2) hD ?_
            replace H := pRun (ls' := [.ref 188, .int p1, .int p2, .int p3]) (st' := [.ref 188]) 1 rfl H
            obtain ⟨rv, h1, hc, H⟩ := pCalV 102 0 188 (as := []) (rest := []) rfl (by decide) (by decide +kernel) rfl rfl H
            replace H := pUseF (f_102_ok hS hc) H
            exact pG_ret (pRetI H)
          · refine pG_neg (c := ¬ (M1 188 3) = (kI 60)) g5 ?_
            replace H := pRun (ls' := [.ref 188, .int p1, .int p2, .int p3]) (st' := [.int (kI (-1))]) 1 rfl H
            exact pG_ret (pRetI H)
    · refine pG_neg (c := ¬ p1 = (kI 1)) g2 ?_
      replace H := pRun (ls' := [.ref 188, .int p1, .int p2, .int p3]) (st' := [.int (kI 9), .int (kI 0), .int p2, .ref 188]) 1 rfl H
      obtain ⟨g0, _, H⟩ := pGo (n1 := 4) rfl (mcb_104 rfl) H
      obtain ⟨rv, h1, hc, H⟩ := pCalV 42 3 188 (as := [.int p2, .int (kI 0), .int (kI 9)]) (rest := []) rfl (by decide) (by decide +kernel) rfl rfl H
      replace H := pUseF (f_42_ok hS hc) H
      rcases pIf0 (n1 := 7) rfl (mcb_104 rfl) (mcb_104 rfl) H with ⟨g3, g0, _, H⟩ | ⟨g3, g0, _, H⟩
      · refine pG_pos (c := (f_42 p2 (kI 0) (kI 9)) = 0) g3 ?_
        replace H := pRun (ls' := [.ref 188, .int p1, .int p2, .int p3]) (st' := [.int (kI (-1))]) 1 rfl H
        exact pG_ret (pRetI H)
      · refine pG_neg (c := (f_42 p2 (kI 0) (kI 9)) = 0) g3 ?_
        replace H := pRun (ls' := [.ref 188, .int p1, .int p2, .int p3]) (st' := [.int (kI 1), .int (kI (-1)), .int p3, .ref 188]) 4 rfl H
        obtain ⟨rv, h1, hc, H⟩ := pCalV 42 3 188 (as := [.int p3, .int (kI (-1)), .int (kI 1)]) (rest := []) rfl (by decide) (by decide +kernel) rfl rfl H
        replace H := pUseF (f_42_ok hS hc) H
        rcases pIf0 (n1 := 7) rfl (mcb_104 rfl) (mcb_104 rfl) H with ⟨g4, g0, _, H⟩ | ⟨g4, g0, _, H⟩
        · refine pG_pos (c := (f_42 p3 (kI (-1)) (kI 1)) = 0) g4 ?_
          replace H := pRun (ls' := [.ref 188, .int p1, .int p2, .int p3]) (st' := [.int (kI (-1))]) 1 rfl H
          exact pG_ret (pRetI H)
        · refine pG_neg (c := (f_42 p3 (kI (-1)) (kI 1)) = 0) g4 ?_
          replace H := pRun (ls' := [.ref 188, .int p1, .int p2, .int p3]) (st' := [.ref 188]) 1 rfl H
          replace H := pGetN (v := M1 188 3) rfl (by decide) H
          replace H := pRun (ls' := [.ref 188, .int p1, .int p2, .int p3]) (st' := [.int (kI 60), .int (M1 188 3)]) 1 rfl H
          rcases pIfc (n1 := 8) rfl (mcb_104 rfl) (mcb_104 rfl) H with ⟨g5, g0, _, H⟩ | ⟨g5, g0, _, H⟩
          · refine pG_pos (c := ¬ (M1 188 3) = (kI 60)) g5 ?_
            replace H := pRun (ls' := [.ref 188, .int p1, .int p2, .int p3]) (st' := [.int p3, .int p2, .int p1, .ref 188]) 4 rfl H
            obtain ⟨rv, h1, hc, H⟩ := pCalV 101 3 188 (as := [.int p1, .int p2, .int p3]) (rest := []) rfl (by decide) (by decide +kernel) rfl rfl H
            obtain ⟨v1, M2, hD, H⟩ := pUseU (D_101_ok hS hc) H
            refine pG_call (x := v1) (M1 := M2) hD ?_
            replace H := pRun (ls' := [.ref 188, .int p1, .int p2, .int p3]) (st' := [.ref 188]) 1 rfl H
            obtain ⟨rv, h1, hc, H⟩ := pCalV 102 0 188 (as := []) (rest := []) rfl (by decide) (by decide +kernel) rfl rfl H
            replace H := pUseF (f_102_ok hS hc) H
            exact pG_ret (pRetI H)
          · refine pG_neg (c := ¬ (M1 188 3) = (kI 60)) g5 ?_
            replace H := pRun (ls' := [.ref 188, .int p1, .int p2, .int p3]) (st' := [.int (kI (-1))]) 1 rfl H
            exact pG_ret (pRetI H)
def l_104 : List (Nat × Nat) := [(188, 17), (188, 18), (188, 19), (188, 20), (188, 21), (194, 999), (188, 54), (188, 55), (197, 999), (198, 999), (188, 57), (191, 999), (188, 56), (196, 999), (192, 999), (201, 999), (188, 3), (188, 1), (199, 999), (200, 999)]
theorem F_104 {p1 : Int32} {p2 : Int32} {p3 : Int32} {M : pMem} {v : Int32} {N : pMem} (h : D_104 p1 p2 p3 M v N) : pFr (l_104) M N :=
  (show pTf (l_104) M (D_104 p1 p2 p3 M) from (tf_putS1 pFr_refl rfl fun M1 f1 => (tf_if (tf_ret f1) (tf_if (tf_if (tf_ret f1) (tf_if (tf_ret f1) (tf_if (tf_call f1 (fun _ _ h => F_101 h) [0, 1, 2, 3, 4, 5, 6, 7, 8, 9, 10, 11, 12, 13, 14, 15, 16, 17, 18, 19] rfl fun _ M2 f2 => (tf_ret f2)) (tf_ret f1)))) (tf_if (tf_ret f1) (tf_if (tf_ret f1) (tf_if (tf_call f1 (fun _ _ h => F_101 h) [0, 1, 2, 3, 4, 5, 6, 7, 8, 9, 10, 11, 12, 13, 14, 15, 16, 17, 18, 19] rfl fun _ M2 f2 => (tf_ret f2)) (tf_ret f1)))))))) v N h
/-- TwoCampsModel.leads(IZ)V -/
def S_105_1 (p1 : Int32) (p2 : Int32) (P1 : Int32 → Int32 → pMem → pT Unit) (x3 : Int32) (x4 : Int32) (M : pMem) : pT Unit := tGd (pIn p1 5) <| tIf ((((kI 24) * p1) + (M 213 (ix p1))) ≤ x4) (tRet () M) (tGd (pIn x4 120) <| tIf (¬ (M 214 (ix x4)) = (kI 10)) (tIf (¬ (M 188 3) = (kI 60)) (tGd (pIn x4 120) <| tGd (pIn x4 120) <| tCall (D_101 ((M 214 (ix x4)) - (kI 6)) (M 215 (ix x4)) x3 M) fun _ M1 => tPut (aPut M1 188 60 ((M1 188 60) + (kI 1))) fun M2 => tPut (aPut M2 188 61 ((M2 188 61) + (f_102 M2))) fun M3 => tPut (aPut M3 188 62 ((M3 188 62) + (M3 188 55))) fun M4 => tPut (aPut M4 188 63 ((M4 188 63) + (M4 188 57))) fun M5 => tPut (aPut M5 188 65 ((M5 188 65) + (M5 188 56))) fun M6 => tIf (¬ (M6 188 64) = (kI (-1))) (tGd (pIn ((M6 188 60) - (kI 1)) 24) <| tIf ((M6 226 (ix ((M6 188 60) - (kI 1)))) = 0) (P1 (kI (-1)) (x4 + kI 1) M6) (tCall (D_55 M6) fun v2 M7 => tGd (pIn ((M7 188 60) - (kI 1)) 24) <| tPut (aPut M7 188 66 ((M6 188 66) + (f_44 (v2 - (M7 227 (ix ((M7 188 60) - (kI 1)))))))) fun M8 => P1 (kI (-1)) (x4 + kI 1) M8)) (tIf ((M6 188 54) = 0) (tGd (pIn ((M6 188 60) - (kI 1)) 24) <| tIf ((M6 226 (ix ((M6 188 60) - (kI 1)))) = 0) (P1 (kI (-1)) (x4 + kI 1) M6) (tCall (D_55 M6) fun v2 M7 => tGd (pIn ((M7 188 60) - (kI 1)) 24) <| tPut (aPut M7 188 66 ((M6 188 66) + (f_44 (v2 - (M7 227 (ix ((M7 188 60) - (kI 1)))))))) fun M8 => P1 (kI (-1)) (x4 + kI 1) M8)) (tPut (aPut M6 188 64 (M6 188 60)) fun M7 => tGd (pIn ((M7 188 60) - (kI 1)) 24) <| tIf ((M7 226 (ix ((M7 188 60) - (kI 1)))) = 0) (P1 (kI (-1)) (x4 + kI 1) M7) (tCall (D_55 M7) fun v2 M8 => tGd (pIn ((M8 188 60) - (kI 1)) 24) <| tPut (aPut M8 188 66 ((M7 188 66) + (f_44 (v2 - (M8 227 (ix ((M8 188 60) - (kI 1)))))))) fun M9 => P1 (kI (-1)) (x4 + kI 1) M9)))) (tRet () M)) (tIf (p2 = 0) (P1 x3 (x4 + kI 1) M) (tGd (pIn x4 120) <| P1 (M 215 (ix x4)) (x4 + kI 1) M)))
def C_105 (p1 : Int32) (p2 : Int32) (P1 : Int32 → Int32 → pMem → pT Unit) : Prop := (∀ (x3 : Int32) (x4 : Int32) M v N, S_105_1 p1 p2 P1 x3 x4 M v N → P1 x3 x4 M v N)
def L_105_1 (p1 : Int32) (p2 : Int32) (x3 : Int32) (x4 : Int32) (M : pMem) : pT Unit := fun v N => ∀ P : (Int32 → Int32 → pMem → pT Unit), C_105 p1 p2 P → P x3 x4 M v N
def D_105 (p1 : Int32) (p2 : Int32) (M : pMem) : pT Unit := tPut (aPut M 188 60 (kI 0)) fun M1 => tPut (aPut M1 188 61 (kI 0)) fun M2 => tPut (aPut M2 188 62 (kI 0)) fun M3 => tPut (aPut M3 188 63 (kI 0)) fun M4 => tPut (aPut M4 188 64 (kI (-1))) fun M5 => tPut (aPut M5 188 65 (kI 0)) fun M6 => tPut (aPut M6 188 66 (kI 0)) fun M7 => L_105_1 p1 p2 (kI (-1)) ((kI 24) * p1) M7
theorem K_105 {X : aX} {F d : Nat} {K : Nat → aK} (hS : pS K) {p1 : Int32} {p2 : Int32} {out : Option Value × aH} (P1 : Int32 → Int32 → pMem → pT Unit) (hC : C_105 p1 p2 P1) : ∀ f, (∀ (x3 : Int32) (x4 : Int32) M, pm X F d 105 f 1 [.iload 4, .bipush 24, .iload 1, .imul, .aload 0, .getfield 128812186, .iload 1, .iaload, .iadd, .if_icmp .ge 13] [.ref 188, .int p1, .int p2, .int x3, .int x4] [] (pH K M) out → pG eU K out (P1 x3 x4 M)) := by
  intro f
  induction f using Nat.strongRecOn with
  | _ f ih =>
    intro x3 x4 M H
    refine pG_mono (fun v N h => hC x3 x4 M v N h) ?_
    unfold S_105_1
    replace H := pRun (ls' := [.ref 188, .int p1, .int p2, .int x3, .int x4]) (st' := [.ref 188, .int ((kI 24) * p1), .int x4]) 5 rfl H
    replace H := pGetR (r := 213) (pRf hS (by decide +kernel)) rfl H
    replace H := pRun (ls' := [.ref 188, .int p1, .int p2, .int x3, .int x4]) (st' := [.int p1, .ref 213, .int ((kI 24) * p1), .int x4]) 1 rfl H
    obtain ⟨g1, H⟩ := pIld (n := 5) (pLt (show pCa 213 5 = true by decide +kernel)) (pLn hS (show pCa 213 5 = true by decide +kernel)) H
    refine pG_gd g1 ?_
    replace H := pRun (ls' := [.ref 188, .int p1, .int p2, .int x3, .int x4]) (st' := [.int (((kI 24) * p1) + (M 213 (ix p1))), .int x4]) 1 rfl H
    rcases pIfc (n1 := 13) rfl (mcb_105 rfl) (mcb_105 rfl) H with ⟨g2, g0, _, H⟩ | ⟨g2, g0, _, H⟩
    · refine pG_pos (c := (((kI 24) * p1) + (M 213 (ix p1))) ≤ x4) g2 ?_
      exact pG_ret (pRetU H)
    · refine pG_neg (c := (((kI 24) * p1) + (M 213 (ix p1))) ≤ x4) g2 ?_
      replace H := pRun (ls' := [.ref 188, .int p1, .int p2, .int x3, .int x4]) (st' := [.ref 188]) 1 rfl H
      replace H := pGetR (r := 214) (pRf hS (by decide +kernel)) rfl H
      replace H := pRun (ls' := [.ref 188, .int p1, .int p2, .int x3, .int x4]) (st' := [.int x4, .ref 214]) 1 rfl H
      obtain ⟨g3, H⟩ := pIld (n := 120) (pLt (show pCa 214 120 = true by decide +kernel)) (pLn hS (show pCa 214 120 = true by decide +kernel)) H
      refine pG_gd g3 ?_
      replace H := pRun (ls' := [.ref 188, .int p1, .int p2, .int x3, .int x4]) (st' := [.int (kI 10), .int (M 214 (ix x4))]) 1 rfl H
      rcases pIfc (n1 := 5) rfl (mcb_105 rfl) (mcb_105 rfl) H with ⟨g4, g0, _, H⟩ | ⟨g4, g0, _, H⟩
      · refine pG_pos (c := ¬ (M 214 (ix x4)) = (kI 10)) g4 ?_
        replace H := pRun (ls' := [.ref 188, .int p1, .int p2, .int x3, .int x4]) (st' := [.ref 188]) 1 rfl H
        replace H := pGetN (v := M 188 3) rfl (by decide) H
        replace H := pRun (ls' := [.ref 188, .int p1, .int p2, .int x3, .int x4]) (st' := [.int (kI 60), .int (M 188 3)]) 1 rfl H
        rcases pIfc (n1 := 7) rfl (mcb_105 rfl) (mcb_105 rfl) H with ⟨g5, g0, _, H⟩ | ⟨g5, g0, _, H⟩
        · refine pG_pos (c := ¬ (M 188 3) = (kI 60)) g5 ?_
          replace H := pRun (ls' := [.ref 188, .int p1, .int p2, .int x3, .int x4]) (st' := [.ref 188, .ref 188]) 2 rfl H
          replace H := pGetR (r := 214) (pRf hS (by decide +kernel)) rfl H
          replace H := pRun (ls' := [.ref 188, .int p1, .int p2, .int x3, .int x4]) (st' := [.int x4, .ref 214, .ref 188]) 1 rfl H
          obtain ⟨g6, H⟩ := pIld (n := 120) (pLt (show pCa 214 120 = true by decide +kernel)) (pLn hS (show pCa 214 120 = true by decide +kernel)) H
          refine pG_gd g6 ?_
          replace H := pRun (ls' := [.ref 188, .int p1, .int p2, .int x3, .int x4]) (st' := [.ref 188, .int ((M 214 (ix x4)) - (kI 6)), .ref 188]) 3 rfl H
          replace H := pGetR (r := 215) (pRf hS (by decide +kernel)) rfl H
          replace H := pRun (ls' := [.ref 188, .int p1, .int p2, .int x3, .int x4]) (st' := [.int x4, .ref 215, .int ((M 214 (ix x4)) - (kI 6)), .ref 188]) 1 rfl H
          obtain ⟨g7, H⟩ := pIld (n := 120) (pLt (show pCa 215 120 = true by decide +kernel)) (pLn hS (show pCa 215 120 = true by decide +kernel)) H
          refine pG_gd g7 ?_
          replace H := pRun (ls' := [.ref 188, .int p1, .int p2, .int x3, .int x4]) (st' := [.int x3, .int (M 215 (ix x4)), .int ((M 214 (ix x4)) - (kI 6)), .ref 188]) 1 rfl H
          obtain ⟨rv, h1, hc, H⟩ := pCalV 101 3 188 (as := [.int ((M 214 (ix x4)) - (kI 6)), .int (M 215 (ix x4)), .int x3]) (rest := []) rfl (by decide) (by decide +kernel) rfl rfl H
          obtain ⟨v1, M1, hD, H⟩ := pUseU (D_101_ok hS hc) H
          refine pG_call (x := v1) (M1 := M1) hD ?_
          replace H := pRun (ls' := [.ref 188, .int p1, .int p2, .int (kI (-1)), .int x4]) (st' := [.ref 188, .ref 188]) 4 rfl H
          replace H := pGetN (v := M1 188 60) rfl (by decide) H
          replace H := pRun (ls' := [.ref 188, .int p1, .int p2, .int (kI (-1)), .int x4]) (st' := [.int ((M1 188 60) + (kI 1)), .ref 188]) 2 rfl H
          obtain ⟨M2, eM2, H⟩ := pPutN (j := 60) rfl H
          refine pG_put (M2 := M2) eM2 ?_
          replace H := pRun (ls' := [.ref 188, .int p1, .int p2, .int (kI (-1)), .int x4]) (st' := [.ref 188, .ref 188]) 2 rfl H
          replace H := pGetN (v := M2 188 61) rfl (by decide) H
          replace H := pRun (ls' := [.ref 188, .int p1, .int p2, .int (kI (-1)), .int x4]) (st' := [.ref 188, .int (M2 188 61), .ref 188]) 1 rfl H
          obtain ⟨rv, h1, hc, H⟩ := pCalV 102 0 188 (as := []) (rest := [.int (M2 188 61), .ref 188]) rfl (by decide) (by decide +kernel) rfl rfl H
          replace H := pUseF (f_102_ok hS hc) H
          replace H := pRun (ls' := [.ref 188, .int p1, .int p2, .int (kI (-1)), .int x4]) (st' := [.int ((M2 188 61) + (f_102 M2)), .ref 188]) 1 rfl H
          obtain ⟨M3, eM3, H⟩ := pPutN (j := 61) rfl H
          refine pG_put (M2 := M3) eM3 ?_
          replace H := pRun (ls' := [.ref 188, .int p1, .int p2, .int (kI (-1)), .int x4]) (st' := [.ref 188, .ref 188]) 2 rfl H
          replace H := pGetN (v := M3 188 62) rfl (by decide) H
          replace H := pRun (ls' := [.ref 188, .int p1, .int p2, .int (kI (-1)), .int x4]) (st' := [.ref 188, .int (M3 188 62), .ref 188]) 1 rfl H
          replace H := pGetN (v := M3 188 55) rfl (by decide) H
          replace H := pRun (ls' := [.ref 188, .int p1, .int p2, .int (kI (-1)), .int x4]) (st' := [.int ((M3 188 62) + (M3 188 55)), .ref 188]) 1 rfl H
          obtain ⟨M4, eM4, H⟩ := pPutN (j := 62) rfl H
          refine pG_put (M2 := M4) eM4 ?_
          replace H := pRun (ls' := [.ref 188, .int p1, .int p2, .int (kI (-1)), .int x4]) (st' := [.ref 188, .ref 188]) 2 rfl H
          replace H := pGetN (v := M4 188 63) rfl (by decide) H
          replace H := pRun (ls' := [.ref 188, .int p1, .int p2, .int (kI (-1)), .int x4]) (st' := [.ref 188, .int (M4 188 63), .ref 188]) 1 rfl H
          replace H := pGetN (v := M4 188 57) rfl (by decide) H
          replace H := pRun (ls' := [.ref 188, .int p1, .int p2, .int (kI (-1)), .int x4]) (st' := [.int ((M4 188 63) + (M4 188 57)), .ref 188]) 1 rfl H
          obtain ⟨M5, eM5, H⟩ := pPutN (j := 63) rfl H
          refine pG_put (M2 := M5) eM5 ?_
          replace H := pRun (ls' := [.ref 188, .int p1, .int p2, .int (kI (-1)), .int x4]) (st' := [.ref 188, .ref 188]) 2 rfl H
          replace H := pGetN (v := M5 188 65) rfl (by decide) H
          replace H := pRun (ls' := [.ref 188, .int p1, .int p2, .int (kI (-1)), .int x4]) (st' := [.ref 188, .int (M5 188 65), .ref 188]) 1 rfl H
          replace H := pGetN (v := M5 188 56) rfl (by decide) H
          replace H := pRun (ls' := [.ref 188, .int p1, .int p2, .int (kI (-1)), .int x4]) (st' := [.int ((M5 188 65) + (M5 188 56)), .ref 188]) 1 rfl H
          obtain ⟨M6, eM6, H⟩ := pPutN (j := 65) rfl H
          refine pG_put (M2 := M6) eM6 ?_
          replace H := pRun (ls' := [.ref 188, .int p1, .int p2, .int (kI (-1)), .int x4]) (st' := [.ref 188]) 1 rfl H
          replace H := pGetN (v := M6 188 64) rfl (by decide) H
          replace H := pRun (ls' := [.ref 188, .int p1, .int p2, .int (kI (-1)), .int x4]) (st' := [.int (kI (-1)), .int (M6 188 64)]) 1 rfl H
          rcases pIfc (n1 := 10) rfl (mcb_105 rfl) (mcb_105 rfl) H with ⟨g8, g0, _, H⟩ | ⟨g8, g0, _, H⟩
          · refine pG_pos (c := ¬ (M6 188 64) = (kI (-1))) g8 ?_
            replace H := pRun (ls' := [.ref 188, .int p1, .int p2, .int (kI (-1)), .int x4]) (st' := [.ref 188]) 1 rfl H
            replace H := pGetR (r := 226) (pRf hS (by decide +kernel)) rfl H
            replace H := pRun (ls' := [.ref 188, .int p1, .int p2, .int (kI (-1)), .int x4]) (st' := [.ref 188, .ref 226]) 1 rfl H
            replace H := pGetN (v := M6 188 60) rfl (by decide) H
            replace H := pRun (ls' := [.ref 188, .int p1, .int p2, .int (kI (-1)), .int x4]) (st' := [.int ((M6 188 60) - (kI 1)), .ref 226]) 2 rfl H
            obtain ⟨g9, H⟩ := pBld (n := 24) (pLn hS (show pCa 226 24 = true by decide +kernel)) H
            refine pG_gd g9 ?_
            rcases pIf0 (n1 := 12) rfl (mcb_105 rfl) (mcb_105 rfl) H with ⟨g10, g0, _, H⟩ | ⟨g10, g0, _, H⟩
            · refine pG_pos (c := (M6 226 (ix ((M6 188 60) - (kI 1)))) = 0) g10 ?_
              replace H := pRun (ls' := [.ref 188, .int p1, .int p2, .int (kI (-1)), .int (x4 + kI 1)]) (st' := []) 1 rfl H
              obtain ⟨g0, _, H⟩ := pGo (n1 := 1) rfl (mcb_105 rfl) H
              exact (ih _ (by omega)) _ _  _ H
            · refine pG_neg (c := (M6 226 (ix ((M6 188 60) - (kI 1)))) = 0) g10 ?_
              replace H := pRun (ls' := [.ref 188, .int p1, .int p2, .int (kI (-1)), .int x4]) (st' := [.ref 188, .ref 188]) 2 rfl H
              replace H := pGetN (v := M6 188 66) rfl (by decide) H
              replace H := pRun (ls' := [.ref 188, .int p1, .int p2, .int (kI (-1)), .int x4]) (st' := [.ref 188, .ref 188, .int (M6 188 66), .ref 188]) 2 rfl H
              obtain ⟨rv, h1, hc, H⟩ := pCalV 55 0 188 (as := []) (rest := [.ref 188, .int (M6 188 66), .ref 188]) rfl (by decide) (by decide +kernel) rfl rfl H
              obtain ⟨v2, M7, hD, H⟩ := pUseI (D_55_ok hS hc) H
              refine pG_call (x := v2) (M1 := M7) hD ?_
              replace H := pRun (ls' := [.ref 188, .int p1, .int p2, .int (kI (-1)), .int x4]) (st' := [.ref 188, .int v2, .ref 188, .int (M6 188 66), .ref 188]) 1 rfl H
              replace H := pGetR (r := 227) (pRf hS (by decide +kernel)) rfl H
              replace H := pRun (ls' := [.ref 188, .int p1, .int p2, .int (kI (-1)), .int x4]) (st' := [.ref 188, .ref 227, .int v2, .ref 188, .int (M6 188 66), .ref 188]) 1 rfl H
              replace H := pGetN (v := M7 188 60) rfl (by decide) H
              replace H := pRun (ls' := [.ref 188, .int p1, .int p2, .int (kI (-1)), .int x4]) (st' := [.int ((M7 188 60) - (kI 1)), .ref 227, .int v2, .ref 188, .int (M6 188 66), .ref 188]) 2 rfl H
              obtain ⟨g11, H⟩ := pIld (n := 24) (pLt (show pCa 227 24 = true by decide +kernel)) (pLn hS (show pCa 227 24 = true by decide +kernel)) H
              refine pG_gd g11 ?_
              replace H := pRun (ls' := [.ref 188, .int p1, .int p2, .int (kI (-1)), .int x4]) (st' := [.int (v2 - (M7 227 (ix ((M7 188 60) - (kI 1))))), .ref 188, .int (M6 188 66), .ref 188]) 1 rfl H
              obtain ⟨rv, h1, hc, H⟩ := pCalV 44 1 188 (as := [.int (v2 - (M7 227 (ix ((M7 188 60) - (kI 1)))))]) (rest := [.int (M6 188 66), .ref 188]) rfl (by decide) (by decide +kernel) rfl rfl H
              replace H := pUseF (f_44_ok hS hc) H
              replace H := pRun (ls' := [.ref 188, .int p1, .int p2, .int (kI (-1)), .int x4]) (st' := [.int ((M6 188 66) + (f_44 (v2 - (M7 227 (ix ((M7 188 60) - (kI 1))))))), .ref 188]) 1 rfl H
              obtain ⟨M8, eM8, H⟩ := pPutN (j := 66) rfl H
              refine pG_put (M2 := M8) eM8 ?_
              obtain ⟨g0, _, H⟩ := pFall (mcb_105 rfl) H
              replace H := pRun (ls' := [.ref 188, .int p1, .int p2, .int (kI (-1)), .int (x4 + kI 1)]) (st' := []) 1 rfl H
              obtain ⟨g0, _, H⟩ := pGo (n1 := 1) rfl (mcb_105 rfl) H
              exact (ih _ (by omega)) _ _  _ H
          · refine pG_neg (c := ¬ (M6 188 64) = (kI (-1))) g8 ?_
            replace H := pRun (ls' := [.ref 188, .int p1, .int p2, .int (kI (-1)), .int x4]) (st' := [.ref 188]) 1 rfl H
            replace H := pGetN (v := M6 188 54) rfl (by decide) H
            rcases pIf0 (n1 := 10) rfl (mcb_105 rfl) (mcb_105 rfl) H with ⟨g9, g0, _, H⟩ | ⟨g9, g0, _, H⟩
            · refine pG_pos (c := (M6 188 54) = 0) g9 ?_
              replace H := pRun (ls' := [.ref 188, .int p1, .int p2, .int (kI (-1)), .int x4]) (st' := [.ref 188]) 1 rfl H
              replace H := pGetR (r := 226) (pRf hS (by decide +kernel)) rfl H
              replace H := pRun (ls' := [.ref 188, .int p1, .int p2, .int (kI (-1)), .int x4]) (st' := [.ref 188, .ref 226]) 1 rfl H
              replace H := pGetN (v := M6 188 60) rfl (by decide) H
              replace H := pRun (ls' := [.ref 188, .int p1, .int p2, .int (kI (-1)), .int x4]) (st' := [.int ((M6 188 60) - (kI 1)), .ref 226]) 2 rfl H
              obtain ⟨g10, H⟩ := pBld (n := 24) (pLn hS (show pCa 226 24 = true by decide +kernel)) H
              refine pG_gd g10 ?_
              rcases pIf0 (n1 := 12) rfl (mcb_105 rfl) (mcb_105 rfl) H with ⟨g11, g0, _, H⟩ | ⟨g11, g0, _, H⟩
              · refine pG_pos (c := (M6 226 (ix ((M6 188 60) - (kI 1)))) = 0) g11 ?_
                replace H := pRun (ls' := [.ref 188, .int p1, .int p2, .int (kI (-1)), .int (x4 + kI 1)]) (st' := []) 1 rfl H
                obtain ⟨g0, _, H⟩ := pGo (n1 := 1) rfl (mcb_105 rfl) H
                exact (ih _ (by omega)) _ _  _ H
              · refine pG_neg (c := (M6 226 (ix ((M6 188 60) - (kI 1)))) = 0) g11 ?_
                replace H := pRun (ls' := [.ref 188, .int p1, .int p2, .int (kI (-1)), .int x4]) (st' := [.ref 188, .ref 188]) 2 rfl H
                replace H := pGetN (v := M6 188 66) rfl (by decide) H
                replace H := pRun (ls' := [.ref 188, .int p1, .int p2, .int (kI (-1)), .int x4]) (st' := [.ref 188, .ref 188, .int (M6 188 66), .ref 188]) 2 rfl H
                obtain ⟨rv, h1, hc, H⟩ := pCalV 55 0 188 (as := []) (rest := [.ref 188, .int (M6 188 66), .ref 188]) rfl (by decide) (by decide +kernel) rfl rfl H
                obtain ⟨v2, M7, hD, H⟩ := pUseI (D_55_ok hS hc) H
                refine pG_call (x := v2) (M1 := M7) hD ?_
                replace H := pRun (ls' := [.ref 188, .int p1, .int p2, .int (kI (-1)), .int x4]) (st' := [.ref 188, .int v2, .ref 188, .int (M6 188 66), .ref 188]) 1 rfl H
                replace H := pGetR (r := 227) (pRf hS (by decide +kernel)) rfl H
                replace H := pRun (ls' := [.ref 188, .int p1, .int p2, .int (kI (-1)), .int x4]) (st' := [.ref 188, .ref 227, .int v2, .ref 188, .int (M6 188 66), .ref 188]) 1 rfl H
                replace H := pGetN (v := M7 188 60) rfl (by decide) H
                replace H := pRun (ls' := [.ref 188, .int p1, .int p2, .int (kI (-1)), .int x4]) (st' := [.int ((M7 188 60) - (kI 1)), .ref 227, .int v2, .ref 188, .int (M6 188 66), .ref 188]) 2 rfl H
                obtain ⟨g12, H⟩ := pIld (n := 24) (pLt (show pCa 227 24 = true by decide +kernel)) (pLn hS (show pCa 227 24 = true by decide +kernel)) H
                refine pG_gd g12 ?_
                replace H := pRun (ls' := [.ref 188, .int p1, .int p2, .int (kI (-1)), .int x4]) (st' := [.int (v2 - (M7 227 (ix ((M7 188 60) - (kI 1))))), .ref 188, .int (M6 188 66), .ref 188]) 1 rfl H
                obtain ⟨rv, h1, hc, H⟩ := pCalV 44 1 188 (as := [.int (v2 - (M7 227 (ix ((M7 188 60) - (kI 1)))))]) (rest := [.int (M6 188 66), .ref 188]) rfl (by decide) (by decide +kernel) rfl rfl H
                replace H := pUseF (f_44_ok hS hc) H
                replace H := pRun (ls' := [.ref 188, .int p1, .int p2, .int (kI (-1)), .int x4]) (st' := [.int ((M6 188 66) + (f_44 (v2 - (M7 227 (ix ((M7 188 60) - (kI 1))))))), .ref 188]) 1 rfl H
                obtain ⟨M8, eM8, H⟩ := pPutN (j := 66) rfl H
                refine pG_put (M2 := M8) eM8 ?_
                obtain ⟨g0, _, H⟩ := pFall (mcb_105 rfl) H
                replace H := pRun (ls' := [.ref 188, .int p1, .int p2, .int (kI (-1)), .int (x4 + kI 1)]) (st' := []) 1 rfl H
                obtain ⟨g0, _, H⟩ := pGo (n1 := 1) rfl (mcb_105 rfl) H
                exact (ih _ (by omega)) _ _  _ H
            · refine pG_neg (c := (M6 188 54) = 0) g9 ?_
              replace H := pRun (ls' := [.ref 188, .int p1, .int p2, .int (kI (-1)), .int x4]) (st' := [.ref 188, .ref 188]) 2 rfl H
              replace H := pGetN (v := M6 188 60) rfl (by decide) H
              obtain ⟨M7, eM7, H⟩ := pPutN (j := 64) rfl H
              refine pG_put (M2 := M7) eM7 ?_
              obtain ⟨g0, _, H⟩ := pFall (mcb_105 rfl) H
              replace H := pRun (ls' := [.ref 188, .int p1, .int p2, .int (kI (-1)), .int x4]) (st' := [.ref 188]) 1 rfl H
              replace H := pGetR (r := 226) (pRf hS (by decide +kernel)) rfl H
              replace H := pRun (ls' := [.ref 188, .int p1, .int p2, .int (kI (-1)), .int x4]) (st' := [.ref 188, .ref 226]) 1 rfl H
              replace H := pGetN (v := M7 188 60) rfl (by decide) H
              replace H := pRun (ls' := [.ref 188, .int p1, .int p2, .int (kI (-1)), .int x4]) (st' := [.int ((M7 188 60) - (kI 1)), .ref 226]) 2 rfl H
              obtain ⟨g10, H⟩ := pBld (n := 24) (pLn hS (show pCa 226 24 = true by decide +kernel)) H
              refine pG_gd g10 ?_
              rcases pIf0 (n1 := 12) rfl (mcb_105 rfl) (mcb_105 rfl) H with ⟨g11, g0, _, H⟩ | ⟨g11, g0, _, H⟩
              · refine pG_pos (c := (M7 226 (ix ((M7 188 60) - (kI 1)))) = 0) g11 ?_
                replace H := pRun (ls' := [.ref 188, .int p1, .int p2, .int (kI (-1)), .int (x4 + kI 1)]) (st' := []) 1 rfl H
                obtain ⟨g0, _, H⟩ := pGo (n1 := 1) rfl (mcb_105 rfl) H
                exact (ih _ (by omega)) _ _  _ H
              · refine pG_neg (c := (M7 226 (ix ((M7 188 60) - (kI 1)))) = 0) g11 ?_
                replace H := pRun (ls' := [.ref 188, .int p1, .int p2, .int (kI (-1)), .int x4]) (st' := [.ref 188, .ref 188]) 2 rfl H
                replace H := pGetN (v := M7 188 66) rfl (by decide) H
                replace H := pRun (ls' := [.ref 188, .int p1, .int p2, .int (kI (-1)), .int x4]) (st' := [.ref 188, .ref 188, .int (M7 188 66), .ref 188]) 2 rfl H
                obtain ⟨rv, h1, hc, H⟩ := pCalV 55 0 188 (as := []) (rest := [.ref 188, .int (M7 188 66), .ref 188]) rfl (by decide) (by decide +kernel) rfl rfl H
                obtain ⟨v2, M8, hD, H⟩ := pUseI (D_55_ok hS hc) H
                refine pG_call (x := v2) (M1 := M8) hD ?_
                replace H := pRun (ls' := [.ref 188, .int p1, .int p2, .int (kI (-1)), .int x4]) (st' := [.ref 188, .int v2, .ref 188, .int (M7 188 66), .ref 188]) 1 rfl H
                replace H := pGetR (r := 227) (pRf hS (by decide +kernel)) rfl H
                replace H := pRun (ls' := [.ref 188, .int p1, .int p2, .int (kI (-1)), .int x4]) (st' := [.ref 188, .ref 227, .int v2, .ref 188, .int (M7 188 66), .ref 188]) 1 rfl H
                replace H := pGetN (v := M8 188 60) rfl (by decide) H
                replace H := pRun (ls' := [.ref 188, .int p1, .int p2, .int (kI (-1)), .int x4]) (st' := [.int ((M8 188 60) - (kI 1)), .ref 227, .int v2, .ref 188, .int (M7 188 66), .ref 188]) 2 rfl H
                obtain ⟨g12, H⟩ := pIld (n := 24) (pLt (show pCa 227 24 = true by decide +kernel)) (pLn hS (show pCa 227 24 = true by decide +kernel)) H
                refine pG_gd g12 ?_
                replace H := pRun (ls' := [.ref 188, .int p1, .int p2, .int (kI (-1)), .int x4]) (st' := [.int (v2 - (M8 227 (ix ((M8 188 60) - (kI 1))))), .ref 188, .int (M7 188 66), .ref 188]) 1 rfl H
                obtain ⟨rv, h1, hc, H⟩ := pCalV 44 1 188 (as := [.int (v2 - (M8 227 (ix ((M8 188 60) - (kI 1)))))]) (rest := [.int (M7 188 66), .ref 188]) rfl (by decide) (by decide +kernel) rfl rfl H
                replace H := pUseF (f_44_ok hS hc) H
                replace H := pRun (ls' := [.ref 188, .int p1, .int p2, .int (kI (-1)), .int x4]) (st' := [.int ((M7 188 66) + (f_44 (v2 - (M8 227 (ix ((M8 188 60) - (kI 1))))))), .ref 188]) 1 rfl H
                obtain ⟨M9, eM9, H⟩ := pPutN (j := 66) rfl H
                refine pG_put (M2 := M9) eM9 ?_
                obtain ⟨g0, _, H⟩ := pFall (mcb_105 rfl) H
                replace H := pRun (ls' := [.ref 188, .int p1, .int p2, .int (kI (-1)), .int (x4 + kI 1)]) (st' := []) 1 rfl H
                obtain ⟨g0, _, H⟩ := pGo (n1 := 1) rfl (mcb_105 rfl) H
                exact (ih _ (by omega)) _ _  _ H
        · refine pG_neg (c := ¬ (M 188 3) = (kI 60)) g5 ?_
          exact pG_ret (pRetU H)
      · refine pG_neg (c := ¬ (M 214 (ix x4)) = (kI 10)) g4 ?_
        replace H := pRun (ls' := [.ref 188, .int p1, .int p2, .int x3, .int x4]) (st' := [.int p2]) 1 rfl H
        rcases pIf0 (n1 := 12) rfl (mcb_105 rfl) (mcb_105 rfl) H with ⟨g5, g0, _, H⟩ | ⟨g5, g0, _, H⟩
        · refine pG_pos (c := p2 = 0) g5 ?_
          replace H := pRun (ls' := [.ref 188, .int p1, .int p2, .int x3, .int (x4 + kI 1)]) (st' := []) 1 rfl H
          obtain ⟨g0, _, H⟩ := pGo (n1 := 1) rfl (mcb_105 rfl) H
          exact (ih _ (by omega)) _ _  _ H
        · refine pG_neg (c := p2 = 0) g5 ?_
          replace H := pRun (ls' := [.ref 188, .int p1, .int p2, .int x3, .int x4]) (st' := [.ref 188]) 1 rfl H
          replace H := pGetR (r := 215) (pRf hS (by decide +kernel)) rfl H
          replace H := pRun (ls' := [.ref 188, .int p1, .int p2, .int x3, .int x4]) (st' := [.int x4, .ref 215]) 1 rfl H
          obtain ⟨g6, H⟩ := pIld (n := 120) (pLt (show pCa 215 120 = true by decide +kernel)) (pLn hS (show pCa 215 120 = true by decide +kernel)) H
          refine pG_gd g6 ?_
          replace H := pRun (ls' := [.ref 188, .int p1, .int p2, .int (M 215 (ix x4)), .int x4]) (st' := []) 1 rfl H
          obtain ⟨g0, _, H⟩ := pGo (n1 := 12) rfl (mcb_105 rfl) H
          replace H := pRun (ls' := [.ref 188, .int p1, .int p2, .int (M 215 (ix x4)), .int (x4 + kI 1)]) (st' := []) 1 rfl H
          obtain ⟨g0, _, H⟩ := pGo (n1 := 1) rfl (mcb_105 rfl) H
          exact (ih _ (by omega)) _ _  _ H
theorem L_105_1_ok {X : aX} {F d : Nat} {K : Nat → aK} (hS : pS K) {p1 : Int32} {p2 : Int32} {out : Option Value × aH} {f : Nat} {x3 : Int32} {x4 : Int32} {M : pMem} (H : pm X F d 105 f 1 [.iload 4, .bipush 24, .iload 1, .imul, .aload 0, .getfield 128812186, .iload 1, .iaload, .iadd, .if_icmp .ge 13] [.ref 188, .int p1, .int p2, .int x3, .int x4] [] (pH K M) out) : pG eU K out (L_105_1 p1 p2 x3 x4 M) := by
  refine pG_all (C := fun P : (Int32 → Int32 → pMem → pT Unit) => C_105 p1 p2 P) (T := fun P => P x3 x4 M) eU_inj (fun _ _ _ _ _ => True) ?_ (fun P hP => (K_105 hS P hP f) _ _ _ H)
  exact (fun _ _ _ _ _ _ => trivial)
theorem D_105_ok {X : aX} {F d : Nat} {K : Nat → aK} (hS : pS K) {p1 : Int32} {p2 : Int32} {M : pMem} {out : Option Value × aH} (H : aM X F d 105 [.ref 188, .int p1, .int p2] (pH K M) = some out) : pG eU K out (D_105 p1 p2 M) := by
  obtain ⟨d', g0, _, H⟩ := pEnt (n := 5) (ls := [.ref 188, .int p1, .int p2, aD, aD]) (mcb_105 rfl) (by decide +kernel) rfl H
  unfold D_105
  replace H := pRun (ls' := [.ref 188, .int p1, .int p2, .int (kI (-1)), aD]) (st' := [.int (kI 0), .ref 188]) 4 rfl H
  obtain ⟨M1, eM1, H⟩ := pPutN (j := 60) rfl H
  refine pG_put (M2 := M1) eM1 ?_
  replace H := pRun (ls' := [.ref 188, .int p1, .int p2, .int (kI (-1)), aD]) (st' := [.int (kI 0), .ref 188]) 2 rfl H
  obtain ⟨M2, eM2, H⟩ := pPutN (j := 61) rfl H
  refine pG_put (M2 := M2) eM2 ?_
  replace H := pRun (ls' := [.ref 188, .int p1, .int p2, .int (kI (-1)), aD]) (st' := [.int (kI 0), .ref 188]) 2 rfl H
  obtain ⟨M3, eM3, H⟩ := pPutN (j := 62) rfl H
  refine pG_put (M2 := M3) eM3 ?_
  replace H := pRun (ls' := [.ref 188, .int p1, .int p2, .int (kI (-1)), aD]) (st' := [.int (kI 0), .ref 188]) 2 rfl H
  obtain ⟨M4, eM4, H⟩ := pPutN (j := 63) rfl H
  refine pG_put (M2 := M4) eM4 ?_
  replace H := pRun (ls' := [.ref 188, .int p1, .int p2, .int (kI (-1)), aD]) (st' := [.int (kI (-1)), .ref 188]) 2 rfl H
  obtain ⟨M5, eM5, H⟩ := pPutN (j := 64) rfl H
  refine pG_put (M2 := M5) eM5 ?_
  replace H := pRun (ls' := [.ref 188, .int p1, .int p2, .int (kI (-1)), aD]) (st' := [.int (kI 0), .ref 188]) 2 rfl H
  obtain ⟨M6, eM6, H⟩ := pPutN (j := 65) rfl H
  refine pG_put (M2 := M6) eM6 ?_
  replace H := pRun (ls' := [.ref 188, .int p1, .int p2, .int (kI (-1)), aD]) (st' := [.int (kI 0), .ref 188]) 2 rfl H
  obtain ⟨M7, eM7, H⟩ := pPutN (j := 66) rfl H
  refine pG_put (M2 := M7) eM7 ?_
  replace H := pRun (ls' := [.ref 188, .int p1, .int p2, .int (kI (-1)), .int ((kI 24) * p1)]) (st' := []) 4 rfl H
  obtain ⟨g0, _, H⟩ := pFall (mcb_105 rfl) H
  exact L_105_1_ok hS  H
def l_105 : List (Nat × Nat) := [(188, 60), (188, 61), (188, 62), (188, 63), (188, 64), (188, 65), (188, 66), (188, 17), (188, 18), (188, 19), (188, 20), (188, 21), (194, 999), (188, 54), (188, 55), (197, 999), (198, 999), (188, 57), (191, 999), (188, 56), (196, 999), (192, 999), (201, 999), (188, 3), (188, 1), (199, 999), (200, 999)]
theorem FC_105 {p1 : Int32} {p2 : Int32} : C_105 p1 p2 (fun _ _ M _ N => pFr (l_105) M N) := fun x3 x4 M => show pTf (l_105) M (S_105_1 p1 p2 _ x3 x4 M) from (tf_gd fun g1 => (tf_if (tf_ret pFr_refl) (tf_gd fun g3 => (tf_if (tf_if (tf_gd fun g6 => (tf_gd fun g7 => (tf_call pFr_refl (fun _ _ h => F_101 h) [7, 8, 9, 10, 11, 12, 13, 14, 15, 16, 17, 18, 19, 20, 21, 22, 23, 24, 25, 26] rfl fun _ M1 f1 => (tf_put f1 0 rfl fun M2 f2 => (tf_put f2 1 rfl fun M3 f3 => (tf_put f3 2 rfl fun M4 f4 => (tf_put f4 3 rfl fun M5 f5 => (tf_put f5 5 rfl fun M6 f6 => (tf_if (tf_gd fun g9 => (tf_if (tf_jump f6) (tf_call f6 (fun _ _ h => F_55 h) [] rfl fun _ M7 f7 => (tf_gd fun g11 => (tf_put f7 6 rfl fun M8 f8 => (tf_jump f8)))))) (tf_if (tf_gd fun g10 => (tf_if (tf_jump f6) (tf_call f6 (fun _ _ h => F_55 h) [] rfl fun _ M7 f7 => (tf_gd fun g12 => (tf_put f7 6 rfl fun M8 f8 => (tf_jump f8)))))) (tf_put f6 4 rfl fun M7 f7 => (tf_gd fun g10 => (tf_if (tf_jump f7) (tf_call f7 (fun _ _ h => F_55 h) [] rfl fun _ M8 f8 => (tf_gd fun g12 => (tf_put f8 6 rfl fun M9 f9 => (tf_jump f9))))))))))))))))) (tf_ret pFr_refl)) (tf_if (tf_jump pFr_refl) (tf_gd fun g6 => (tf_jump pFr_refl)))))))
theorem F_105 {p1 : Int32} {p2 : Int32} {M : pMem} {v : Unit} {N : pMem} (h : D_105 p1 p2 M v N) : pFr (l_105) M N :=
  (show pTf (l_105) M (D_105 p1 p2 M) from (tf_put pFr_refl 0 rfl fun M1 f1 => (tf_put f1 1 rfl fun M2 f2 => (tf_put f2 2 rfl fun M3 f3 => (tf_put f3 3 rfl fun M4 f4 => (tf_put f4 4 rfl fun M5 f5 => (tf_put f5 5 rfl fun M6 f6 => (tf_put f6 6 rfl fun M7 f7 => (tf_jumpL (fun _ _ M _ N => pFr (l_105) M N) (FC_105) rfl f7))))))))) v N h
/-- TwoCampsModel.plan(I)I -/
def D_106 (p1 : Int32) (M : pMem) : pT Int32 := tPut (aPut M 188 0 (kI 0)) fun M1 => tIf (¬ (f_42 p1 (kI 0) (kI 3)) = 0) (tCall (D_105 p1 (kI 1) M1) fun _ M2 => tRet (M2 188 60) M2) (tRet (kI (-1)) M1)
theorem D_106_ok {X : aX} {F d : Nat} {K : Nat → aK} (hS : pS K) {p1 : Int32} {M : pMem} {out : Option Value × aH} (H : aM X F d 106 [.ref 188, .int p1] (pH K M) = some out) : pG eI K out (D_106 p1 M) := by
  obtain ⟨d', g0, _, H⟩ := pEnt (n := 2) (ls := [.ref 188, .int p1]) (mcb_106 rfl) (by decide +kernel) rfl H
  unfold D_106
  replace H := pRun (ls' := [.ref 188, .int p1]) (st' := [.int (kI 0), .ref 188]) 2 rfl H
  obtain ⟨M1, eM1, H⟩ := pPutN (j := 0) rfl H
  refine pG_put (M2 := M1) eM1 ?_
  replace H := pRun (ls' := [.ref 188, .int p1]) (st' := [.int (kI 3), .int (kI 0), .int p1, .ref 188]) 4 rfl H
  obtain ⟨rv, h1, hc, H⟩ := pCalV 42 3 188 (as := [.int p1, .int (kI 0), .int (kI 3)]) (rest := []) rfl (by decide) (by decide +kernel) rfl rfl H
  replace H := pUseF (f_42_ok hS hc) H
  rcases pIf0 (n1 := 2) rfl (mcb_106 rfl) (mcb_106 rfl) H with ⟨g1, g0, _, H⟩ | ⟨g1, g0, _, H⟩
  · refine pG_pos (c := ¬ (f_42 p1 (kI 0) (kI 3)) = 0) g1 ?_
    replace H := pRun (ls' := [.ref 188, .int p1]) (st' := [.int (kI 1), .int p1, .ref 188]) 3 rfl H
    obtain ⟨rv, h1, hc, H⟩ := pCalV 105 2 188 (as := [.int p1, .int (kI 1)]) (rest := []) rfl (by decide) (by decide +kernel) rfl rfl H
    obtain ⟨v1, M2, hD, H⟩ := pUseU (D_105_ok hS hc) H
    refine pG_call (x := v1) (M1 := M2) hD ?_
    replace H := pRun (ls' := [.ref 188, .int p1]) (st' := [.ref 188]) 1 rfl H
    replace H := pGetN (v := M2 188 60) rfl (by decide) H
    exact pG_ret (pRetI H)
  · refine pG_neg (c := ¬ (f_42 p1 (kI 0) (kI 3)) = 0) g1 ?_
    replace H := pRun (ls' := [.ref 188, .int p1]) (st' := [.int (kI (-1))]) 1 rfl H
    exact pG_ret (pRetI H)
def l_106 : List (Nat × Nat) := [(188, 60), (188, 61), (188, 62), (188, 63), (188, 64), (188, 65), (188, 66), (188, 17), (188, 18), (188, 19), (188, 20), (188, 21), (194, 999), (188, 54), (188, 55), (197, 999), (198, 999), (188, 57), (191, 999), (188, 56), (196, 999), (192, 999), (201, 999), (188, 3), (188, 1), (199, 999), (200, 999)]
theorem F_106 {p1 : Int32} {M : pMem} {v : Int32} {N : pMem} (h : D_106 p1 M v N) : pFr (l_106) M N :=
  (show pTf (l_106) M (D_106 p1 M) from (tf_putS1 pFr_refl rfl fun M1 f1 => (tf_if (tf_call f1 (fun _ _ h => F_105 h) [0, 1, 2, 3, 4, 5, 6, 7, 8, 9, 10, 11, 12, 13, 14, 15, 16, 17, 18, 19, 20, 21, 22, 23, 24, 25, 26] rfl fun _ M2 f2 => (tf_ret f2)) (tf_ret f1)))) v N h
/-- TwoCampsModel.putAside(I)I -/
def D_107 (p1 : Int32) (M : pMem) : pT Int32 := tPut (aPut M 188 68 ((M 188 68) + (kI 1))) fun M1 => tIf (¬ (M1 188 69) = 0) (tGd (pIn ((M1 188 68) - (kI 1)) 1200) <| tPut (aPut M1 222 (ix ((M1 188 68) - (kI 1))) p1) fun M2 => tRet p1 M2) (tGd (pIn ((M1 188 68) - (kI 1)) 1200) <| tRet (M1 222 (ix ((M1 188 68) - (kI 1)))) M1)
theorem D_107_ok {X : aX} {F d : Nat} {K : Nat → aK} (hS : pS K) {p1 : Int32} {M : pMem} {out : Option Value × aH} (H : aM X F d 107 [.ref 188, .int p1] (pH K M) = some out) : pG eI K out (D_107 p1 M) := by
  obtain ⟨d', g0, _, H⟩ := pEnt (n := 2) (ls := [.ref 188, .int p1]) (mcb_107 rfl) (by decide +kernel) rfl H
  unfold D_107
  replace H := pRun (ls' := [.ref 188, .int p1]) (st' := [.ref 188, .ref 188]) 2 rfl H
  replace H := pGetN (v := M 188 68) rfl (by decide) H
  replace H := pRun (ls' := [.ref 188, .int p1]) (st' := [.int ((M 188 68) + (kI 1)), .ref 188]) 2 rfl H
  obtain ⟨M1, eM1, H⟩ := pPutN (j := 68) rfl H
  refine pG_put (M2 := M1) eM1 ?_
  replace H := pRun (ls' := [.ref 188, .int p1]) (st' := [.ref 188]) 1 rfl H
  replace H := pGetN (v := M1 188 69) rfl (by decide) H
  rcases pIf0 (n1 := 2) rfl (mcb_107 rfl) (mcb_107 rfl) H with ⟨g1, g0, _, H⟩ | ⟨g1, g0, _, H⟩
  · refine pG_pos (c := ¬ (M1 188 69) = 0) g1 ?_
    replace H := pRun (ls' := [.ref 188, .int p1]) (st' := [.ref 188]) 1 rfl H
    replace H := pGetR (r := 222) (pRf hS (by decide +kernel)) rfl H
    replace H := pRun (ls' := [.ref 188, .int p1]) (st' := [.ref 188, .ref 222]) 1 rfl H
    replace H := pGetN (v := M1 188 68) rfl (by decide) H
    replace H := pRun (ls' := [.ref 188, .int p1]) (st' := [.int p1, .int ((M1 188 68) - (kI 1)), .ref 222]) 3 rfl H
    obtain ⟨g2, M2, eM2, H⟩ := pIst (n := 1200) (pLn hS (show pCa 222 1200 = true by decide +kernel)) H
    refine pG_gd g2 (pG_put (M2 := M2) eM2 ?_)
    replace H := pRun (ls' := [.ref 188, .int p1]) (st' := [.int p1]) 1 rfl H
    exact pG_ret (pRetI H)
  · refine pG_neg (c := ¬ (M1 188 69) = 0) g1 ?_
    replace H := pRun (ls' := [.ref 188, .int p1]) (st' := [.ref 188]) 1 rfl H
    replace H := pGetR (r := 222) (pRf hS (by decide +kernel)) rfl H
    replace H := pRun (ls' := [.ref 188, .int p1]) (st' := [.ref 188, .ref 222]) 1 rfl H
    replace H := pGetN (v := M1 188 68) rfl (by decide) H
    replace H := pRun (ls' := [.ref 188, .int p1]) (st' := [.int ((M1 188 68) - (kI 1)), .ref 222]) 2 rfl H
    obtain ⟨g2, H⟩ := pIld (n := 1200) (pLt (show pCa 222 1200 = true by decide +kernel)) (pLn hS (show pCa 222 1200 = true by decide +kernel)) H
    refine pG_gd g2 ?_
    exact pG_ret (pRetI H)
def l_107 : List (Nat × Nat) := [(188, 68), (222, 999)]
theorem F_107 {p1 : Int32} {M : pMem} {v : Int32} {N : pMem} (h : D_107 p1 M v N) : pFr (l_107) M N :=
  (show pTf (l_107) M (D_107 p1 M) from (tf_put pFr_refl 0 rfl fun M1 f1 => (tf_if (tf_gd fun g2 => (tf_putA f1 1 rfl fun M2 f2 => (tf_ret f2))) (tf_gd fun g2 => (tf_ret f1))))) v N h
