/-! what runs come to, method by method: printed by wip/pm/pm.py -/
/-- TwoCampsModel.tells(I)I -/
def S_85_1 (p1 : Int32) (P1 : Int32 → pMem → pT Int32) (x2 : Int32) (M : pMem) : pT Int32 := tGd (pIn (M 188 4) 5) <| tIf ((((kI 16) * (M 188 4)) + (M 204 (ix (M 188 4)))) ≤ x2) (tPut (aPut M 188 51 (kI 0)) fun M1 => tRet (kI 0) M1) (tGd (pIn x2 80) <| tIf (¬ (M 205 (ix x2)) = p1) (P1 (x2 + kI 1) M) (tGd (pIn x2 80) <| tGd (pIn x2 80) <| tIf ((M 208 (ix x2)) ≤ (M 207 (ix x2))) (tPut (aPut M 188 51 (kI 1)) fun M1 => tGd (pIn x2 80) <| tGd (pIn x2 80) <| tCall (D_84 (M1 188 4) (M1 206 (ix x2)) (M1 207 (ix x2)) M1) fun v1 M2 => tRet v1 M2) (tGd (pIn x2 80) <| tGd (pIn x2 80) <| tCall (D_84 (M 188 4) (M 207 (ix x2)) (M 208 (ix x2)) M) fun v1 M1 => tIf (¬ v1 = 0) (tPut (aPut M1 188 51 (kI 1)) fun M2 => tGd (pIn x2 80) <| tGd (pIn x2 80) <| tCall (D_84 (M2 188 4) (M2 206 (ix x2)) (M2 207 (ix x2)) M2) fun v2 M3 => tRet v2 M3) (P1 (x2 + kI 1) M1))))
def C_85 (p1 : Int32) (P1 : Int32 → pMem → pT Int32) : Prop := (∀ (x2 : Int32) M v N, S_85_1 p1 P1 x2 M v N → P1 x2 M v N)
def L_85_1 (p1 : Int32) (x2 : Int32) (M : pMem) : pT Int32 := fun v N => ∀ P : (Int32 → pMem → pT Int32), C_85 p1 P → P x2 M v N
def D_85 (p1 : Int32) (M : pMem) : pT Int32 := L_85_1 p1 ((kI 16) * (M 188 4)) M
theorem K_85 {X : aX} {F d : Nat} {K : Nat → aK} (hS : pS K) {p1 : Int32} {out : Option Value × aH} (P1 : Int32 → pMem → pT Int32) (hC : C_85 p1 P1) : ∀ f, (∀ (x2 : Int32) M, pm X F d 85 f 1 [.iload 2, .bipush 16, .aload 0, .getfield 124612016, .imul, .aload 0, .getfield 127212122, .aload 0, .getfield 124612016, .iaload, .iadd, .if_icmp .ge 8] [.ref 188, .int p1, .int x2] [] (pH K M) out → pG eI K out (P1 x2 M)) := by
  intro f
  induction f using Nat.strongRecOn with
  | _ f ih =>
    intro x2 M H
    refine pG_mono (fun v N h => hC x2 M v N h) ?_
    unfold S_85_1
    replace H := pRun (ls' := [.ref 188, .int p1, .int x2]) (st' := [.ref 188, .int (kI 16), .int x2]) 3 rfl H
    replace H := pGetN (v := M 188 4) rfl (by decide) H
    replace H := pRun (ls' := [.ref 188, .int p1, .int x2]) (st' := [.ref 188, .int ((kI 16) * (M 188 4)), .int x2]) 2 rfl H
    replace H := pGetR (r := 204) (pRf hS (by decide +kernel)) rfl H
    replace H := pRun (ls' := [.ref 188, .int p1, .int x2]) (st' := [.ref 188, .ref 204, .int ((kI 16) * (M 188 4)), .int x2]) 1 rfl H
    replace H := pGetN (v := M 188 4) rfl (by decide) H
    obtain ⟨g1, H⟩ := pIld (n := 5) (pLt (show pCa 204 5 = true by decide +kernel)) (pLn hS (show pCa 204 5 = true by decide +kernel)) H
    refine pG_gd g1 ?_
    replace H := pRun (ls' := [.ref 188, .int p1, .int x2]) (st' := [.int (((kI 16) * (M 188 4)) + (M 204 (ix (M 188 4)))), .int x2]) 1 rfl H
    rcases pIfc (n1 := 8) rfl (mcb_85 rfl) (mcb_85 rfl) H with ⟨g2, g0, _, H⟩ | ⟨g2, g0, _, H⟩
    · refine pG_pos (c := (((kI 16) * (M 188 4)) + (M 204 (ix (M 188 4)))) ≤ x2) g2 ?_
      replace H := pRun (ls' := [.ref 188, .int p1, .int x2]) (st' := [.int (kI 0), .ref 188]) 2 rfl H
      obtain ⟨M1, eM1, H⟩ := pPutN (j := 51) rfl H
      refine pG_put (M2 := M1) eM1 ?_
      replace H := pRun (ls' := [.ref 188, .int p1, .int x2]) (st' := [.int (kI 0)]) 1 rfl H
      exact pG_ret (pRetI H)
    · refine pG_neg (c := (((kI 16) * (M 188 4)) + (M 204 (ix (M 188 4)))) ≤ x2) g2 ?_
      replace H := pRun (ls' := [.ref 188, .int p1, .int x2]) (st' := [.ref 188]) 1 rfl H
      replace H := pGetR (r := 205) (pRf hS (by decide +kernel)) rfl H
      replace H := pRun (ls' := [.ref 188, .int p1, .int x2]) (st' := [.int x2, .ref 205]) 1 rfl H
      obtain ⟨g3, H⟩ := pIld (n := 80) (pLt (show pCa 205 80 = true by decide +kernel)) (pLn hS (show pCa 205 80 = true by decide +kernel)) H
      refine pG_gd g3 ?_
      replace H := pRun (ls' := [.ref 188, .int p1, .int x2]) (st' := [.int p1, .int (M 205 (ix x2))]) 1 rfl H
      rcases pIfc (n1 := 7) rfl (mcb_85 rfl) (mcb_85 rfl) H with ⟨g4, g0, _, H⟩ | ⟨g4, g0, _, H⟩
      · refine pG_pos (c := ¬ (M 205 (ix x2)) = p1) g4 ?_
        replace H := pRun (ls' := [.ref 188, .int p1, .int (x2 + kI 1)]) (st' := []) 1 rfl H
        obtain ⟨g0, _, H⟩ := pGo (n1 := 1) rfl (mcb_85 rfl) H
        exact (ih _ (by omega)) _  _ H
      · refine pG_neg (c := ¬ (M 205 (ix x2)) = p1) g4 ?_
        replace H := pRun (ls' := [.ref 188, .int p1, .int x2]) (st' := [.ref 188]) 1 rfl H
        replace H := pGetR (r := 208) (pRf hS (by decide +kernel)) rfl H
        replace H := pRun (ls' := [.ref 188, .int p1, .int x2]) (st' := [.int x2, .ref 208]) 1 rfl H
        obtain ⟨g5, H⟩ := pIld (n := 80) (pLt (show pCa 208 80 = true by decide +kernel)) (pLn hS (show pCa 208 80 = true by decide +kernel)) H
        refine pG_gd g5 ?_
        replace H := pRun (ls' := [.ref 188, .int p1, .int x2]) (st' := [.ref 188, .int (M 208 (ix x2))]) 1 rfl H
        replace H := pGetR (r := 207) (pRf hS (by decide +kernel)) rfl H
        replace H := pRun (ls' := [.ref 188, .int p1, .int x2]) (st' := [.int x2, .ref 207, .int (M 208 (ix x2))]) 1 rfl H
        obtain ⟨g6, H⟩ := pIld (n := 80) (pLt (show pCa 207 80 = true by decide +kernel)) (pLn hS (show pCa 207 80 = true by decide +kernel)) H
        refine pG_gd g6 ?_
        rcases pIfc (n1 := 6) rfl (mcb_85 rfl) (mcb_85 rfl) H with ⟨g7, g0, _, H⟩ | ⟨g7, g0, _, H⟩
        · refine pG_pos (c := (M 208 (ix x2)) ≤ (M 207 (ix x2))) g7 ?_
          replace H := pRun (ls' := [.ref 188, .int p1, .int x2]) (st' := [.int (kI 1), .ref 188]) 2 rfl H
          obtain ⟨M1, eM1, H⟩ := pPutN (j := 51) rfl H
          refine pG_put (M2 := M1) eM1 ?_
          replace H := pRun (ls' := [.ref 188, .int p1, .int x2]) (st' := [.ref 188, .ref 188]) 2 rfl H
          replace H := pGetN (v := M1 188 4) rfl (by decide) H
          replace H := pRun (ls' := [.ref 188, .int p1, .int x2]) (st' := [.ref 188, .int (M1 188 4), .ref 188]) 1 rfl H
          replace H := pGetR (r := 206) (pRf hS (by decide +kernel)) rfl H
          replace H := pRun (ls' := [.ref 188, .int p1, .int x2]) (st' := [.int x2, .ref 206, .int (M1 188 4), .ref 188]) 1 rfl H
          obtain ⟨g8, H⟩ := pIld (n := 80) (pLt (show pCa 206 80 = true by decide +kernel)) (pLn hS (show pCa 206 80 = true by decide +kernel)) H
          refine pG_gd g8 ?_
          replace H := pRun (ls' := [.ref 188, .int p1, .int x2]) (st' := [.ref 188, .int (M1 206 (ix x2)), .int (M1 188 4), .ref 188]) 1 rfl H
          replace H := pGetR (r := 207) (pRf hS (by decide +kernel)) rfl H
          replace H := pRun (ls' := [.ref 188, .int p1, .int x2]) (st' := [.int x2, .ref 207, .int (M1 206 (ix x2)), .int (M1 188 4), .ref 188]) 1 rfl H
          obtain ⟨g9, H⟩ := pIld (n := 80) (pLt (show pCa 207 80 = true by decide +kernel)) (pLn hS (show pCa 207 80 = true by decide +kernel)) H
          refine pG_gd g9 ?_
          obtain ⟨rv, h1, hc, H⟩ := pCalV 84 3 188 (as := [.int (M1 188 4), .int (M1 206 (ix x2)), .int (M1 207 (ix x2))]) (rest := []) rfl (by decide) (by decide +kernel) rfl rfl H
          obtain ⟨v1, M2, hD, H⟩ := pUseI (D_84_ok hS hc) H
          refine pG_call (x := v1) (M1 := M2) hD ?_
          exact pG_ret (pRetI H)
        · refine pG_neg (c := (M 208 (ix x2)) ≤ (M 207 (ix x2))) g7 ?_
          replace H := pRun (ls' := [.ref 188, .int p1, .int x2]) (st' := [.ref 188, .ref 188]) 2 rfl H
          replace H := pGetN (v := M 188 4) rfl (by decide) H
          replace H := pRun (ls' := [.ref 188, .int p1, .int x2]) (st' := [.ref 188, .int (M 188 4), .ref 188]) 1 rfl H
          replace H := pGetR (r := 207) (pRf hS (by decide +kernel)) rfl H
          replace H := pRun (ls' := [.ref 188, .int p1, .int x2]) (st' := [.int x2, .ref 207, .int (M 188 4), .ref 188]) 1 rfl H
          obtain ⟨g8, H⟩ := pIld (n := 80) (pLt (show pCa 207 80 = true by decide +kernel)) (pLn hS (show pCa 207 80 = true by decide +kernel)) H
          refine pG_gd g8 ?_
          replace H := pRun (ls' := [.ref 188, .int p1, .int x2]) (st' := [.ref 188, .int (M 207 (ix x2)), .int (M 188 4), .ref 188]) 1 rfl H
          replace H := pGetR (r := 208) (pRf hS (by decide +kernel)) rfl H
          replace H := pRun (ls' := [.ref 188, .int p1, .int x2]) (st' := [.int x2, .ref 208, .int (M 207 (ix x2)), .int (M 188 4), .ref 188]) 1 rfl H
          obtain ⟨g9, H⟩ := pIld (n := 80) (pLt (show pCa 208 80 = true by decide +kernel)) (pLn hS (show pCa 208 80 = true by decide +kernel)) H
          refine pG_gd g9 ?_
          obtain ⟨rv, h1, hc, H⟩ := pCalV 84 3 188 (as := [.int (M 188 4), .int (M 207 (ix x2)), .int (M 208 (ix x2))]) (rest := []) rfl (by decide) (by decide +kernel) rfl rfl H
          obtain ⟨v1, M1, hD, H⟩ := pUseI (D_84_ok hS hc) H
          refine pG_call (x := v1) (M1 := M1) hD ?_
          rcases pIf0 (n1 := 6) rfl (mcb_85 rfl) (mcb_85 rfl) H with ⟨g10, g0, _, H⟩ | ⟨g10, g0, _, H⟩
          · refine pG_pos (c := ¬ v1 = 0) g10 ?_
            replace H := pRun (ls' := [.ref 188, .int p1, .int x2]) (st' := [.int (kI 1), .ref 188]) 2 rfl H
            obtain ⟨M2, eM2, H⟩ := pPutN (j := 51) rfl H
            refine pG_put (M2 := M2) eM2 ?_
            replace H := pRun (ls' := [.ref 188, .int p1, .int x2]) (st' := [.ref 188, .ref 188]) 2 rfl H
            replace H := pGetN (v := M2 188 4) rfl (by decide) H
            replace H := pRun (ls' := [.ref 188, .int p1, .int x2]) (st' := [.ref 188, .int (M2 188 4), .ref 188]) 1 rfl H
            replace H := pGetR (r := 206) (pRf hS (by decide +kernel)) rfl H
            replace H := pRun (ls' := [.ref 188, .int p1, .int x2]) (st' := [.int x2, .ref 206, .int (M2 188 4), .ref 188]) 1 rfl H
            obtain ⟨g11, H⟩ := pIld (n := 80) (pLt (show pCa 206 80 = true by decide +kernel)) (pLn hS (show pCa 206 80 = true by decide +kernel)) H
            refine pG_gd g11 ?_
            replace H := pRun (ls' := [.ref 188, .int p1, .int x2]) (st' := [.ref 188, .int (M2 206 (ix x2)), .int (M2 188 4), .ref 188]) 1 rfl H
            replace H := pGetR (r := 207) (pRf hS (by decide +kernel)) rfl H
            replace H := pRun (ls' := [.ref 188, .int p1, .int x2]) (st' := [.int x2, .ref 207, .int (M2 206 (ix x2)), .int (M2 188 4), .ref 188]) 1 rfl H
            obtain ⟨g12, H⟩ := pIld (n := 80) (pLt (show pCa 207 80 = true by decide +kernel)) (pLn hS (show pCa 207 80 = true by decide +kernel)) H
            refine pG_gd g12 ?_
            obtain ⟨rv, h1, hc, H⟩ := pCalV 84 3 188 (as := [.int (M2 188 4), .int (M2 206 (ix x2)), .int (M2 207 (ix x2))]) (rest := []) rfl (by decide) (by decide +kernel) rfl rfl H
            obtain ⟨v2, M3, hD, H⟩ := pUseI (D_84_ok hS hc) H
            refine pG_call (x := v2) (M1 := M3) hD ?_
            exact pG_ret (pRetI H)
          · refine pG_neg (c := ¬ v1 = 0) g10 ?_
            obtain ⟨g0, _, H⟩ := pGo (n1 := 7) rfl (mcb_85 rfl) H
            replace H := pRun (ls' := [.ref 188, .int p1, .int (x2 + kI 1)]) (st' := []) 1 rfl H
            obtain ⟨g0, _, H⟩ := pGo (n1 := 1) rfl (mcb_85 rfl) H
            exact (ih _ (by omega)) _  _ H
theorem L_85_1_ok {X : aX} {F d : Nat} {K : Nat → aK} (hS : pS K) {p1 : Int32} {out : Option Value × aH} {f : Nat} {x2 : Int32} {M : pMem} (H : pm X F d 85 f 1 [.iload 2, .bipush 16, .aload 0, .getfield 124612016, .imul, .aload 0, .getfield 127212122, .aload 0, .getfield 124612016, .iaload, .iadd, .if_icmp .ge 8] [.ref 188, .int p1, .int x2] [] (pH K M) out) : pG eI K out (L_85_1 p1 x2 M) := by
  refine pG_all (C := fun P : (Int32 → pMem → pT Int32) => C_85 p1 P) (T := fun P => P x2 M) eI_inj (fun _ _ _ _ => True) ?_ (fun P hP => (K_85 hS P hP f) _ _ H)
  exact (fun _ _ _ _ _ => trivial)
theorem D_85_ok {X : aX} {F d : Nat} {K : Nat → aK} (hS : pS K) {p1 : Int32} {M : pMem} {out : Option Value × aH} (H : aM X F d 85 [.ref 188, .int p1] (pH K M) = some out) : pG eI K out (D_85 p1 M) := by
  obtain ⟨d', g0, _, H⟩ := pEnt (n := 3) (ls := [.ref 188, .int p1, aD]) (mcb_85 rfl) (by decide +kernel) rfl H
  unfold D_85
  replace H := pRun (ls' := [.ref 188, .int p1, aD]) (st' := [.ref 188, .int (kI 16)]) 2 rfl H
  replace H := pGetN (v := M 188 4) rfl (by decide) H
  replace H := pRun (ls' := [.ref 188, .int p1, .int ((kI 16) * (M 188 4))]) (st' := []) 2 rfl H
  obtain ⟨g0, _, H⟩ := pFall (mcb_85 rfl) H
  exact L_85_1_ok hS  H
def l_85 : List (Nat × Nat) := []
theorem FC_85 {p1 : Int32} : C_85 p1 (fun _ M _ N => pFr (l_85) M N) := fun x2 M => show pTf (l_85) M (S_85_1 p1 _ x2 M) from (tf_gd fun g1 => (tf_if (tf_putS1 pFr_refl rfl fun M1 f1 => (tf_ret f1)) (tf_gd fun g3 => (tf_if (tf_jump pFr_refl) (tf_gd fun g5 => (tf_gd fun g6 => (tf_if (tf_putS1 pFr_refl rfl fun M1 f1 => (tf_gd fun g8 => (tf_gd fun g9 => (tf_call f1 (fun _ _ h => F_84 h) [] rfl fun _ M2 f2 => (tf_ret f2))))) (tf_gd fun g8 => (tf_gd fun g9 => (tf_call pFr_refl (fun _ _ h => F_84 h) [] rfl fun _ M1 f1 => (tf_if (tf_putS1 f1 rfl fun M2 f2 => (tf_gd fun g11 => (tf_gd fun g12 => (tf_call f2 (fun _ _ h => F_84 h) [] rfl fun _ M3 f3 => (tf_ret f3))))) (tf_jump f1))))))))))))
theorem F_85 {p1 : Int32} {M : pMem} {v : Int32} {N : pMem} (h : D_85 p1 M v N) : pFr (l_85) M N :=
  (show pTf (l_85) M (D_85 p1 M) from (tf_jumpL (fun _ M _ N => pFr (l_85) M N) (FC_85) rfl pFr_refl)) v N h
/-- TwoCampsModel.asksDay(I)V -/
def S_86_1 (p1 : Int32) (P1 : Int32 → pMem → pT Unit) (x2 : Int32) (M : pMem) : pT Unit := tIf ((kI 14) ≤ x2) (tGd (pIn (kI 0) 14) <| tPut (aPut M 216 (ix (kI 0)) (M 188 17)) fun M1 => tGd (pIn (kI 1) 14) <| tPut (aPut M1 216 (ix (kI 1)) (M1 188 18)) fun M2 => tGd (pIn (kI 2) 14) <| tPut (aPut M2 216 (ix (kI 2)) (M2 188 19)) fun M3 => tIf (¬ (M3 188 20) = p1) (tGd (pIn (kI 5) 14) <| tPut (aPut M3 216 (ix (kI 5)) (kI 0)) fun M4 => tIf (¬ (M4 188 20) = ((kI 1) - p1)) (tGd (pIn (kI 6) 14) <| tPut (aPut M4 216 (ix (kI 6)) (kI 0)) fun M5 => tIf (¬ (M5 188 21) = p1) (tGd (pIn (kI 7) 14) <| tPut (aPut M5 216 (ix (kI 7)) (kI 0)) fun M6 => tRet () M6) (tGd (pIn (kI 7) 14) <| tPut (aPut M5 216 (ix (kI 7)) (kI 1)) fun M6 => tRet () M6)) (tGd (pIn (kI 6) 14) <| tPut (aPut M4 216 (ix (kI 6)) (kI 1)) fun M5 => tIf (¬ (M5 188 21) = p1) (tGd (pIn (kI 7) 14) <| tPut (aPut M5 216 (ix (kI 7)) (kI 0)) fun M6 => tRet () M6) (tGd (pIn (kI 7) 14) <| tPut (aPut M5 216 (ix (kI 7)) (kI 1)) fun M6 => tRet () M6))) (tGd (pIn (kI 5) 14) <| tPut (aPut M3 216 (ix (kI 5)) (kI 1)) fun M4 => tIf (¬ (M4 188 20) = ((kI 1) - p1)) (tGd (pIn (kI 6) 14) <| tPut (aPut M4 216 (ix (kI 6)) (kI 0)) fun M5 => tIf (¬ (M5 188 21) = p1) (tGd (pIn (kI 7) 14) <| tPut (aPut M5 216 (ix (kI 7)) (kI 0)) fun M6 => tRet () M6) (tGd (pIn (kI 7) 14) <| tPut (aPut M5 216 (ix (kI 7)) (kI 1)) fun M6 => tRet () M6)) (tGd (pIn (kI 6) 14) <| tPut (aPut M4 216 (ix (kI 6)) (kI 1)) fun M5 => tIf (¬ (M5 188 21) = p1) (tGd (pIn (kI 7) 14) <| tPut (aPut M5 216 (ix (kI 7)) (kI 0)) fun M6 => tRet () M6) (tGd (pIn (kI 7) 14) <| tPut (aPut M5 216 (ix (kI 7)) (kI 1)) fun M6 => tRet () M6)))) (tGd (pIn x2 14) <| tPut (aPut M 216 (ix x2) (kI 0)) fun M1 => P1 (x2 + kI 1) M1)
def C_86 (p1 : Int32) (P1 : Int32 → pMem → pT Unit) : Prop := (∀ (x2 : Int32) M v N, S_86_1 p1 P1 x2 M v N → P1 x2 M v N)
def L_86_1 (p1 : Int32) (x2 : Int32) (M : pMem) : pT Unit := fun v N => ∀ P : (Int32 → pMem → pT Unit), C_86 p1 P → P x2 M v N
def D_86 (p1 : Int32) (M : pMem) : pT Unit := L_86_1 p1 (kI 0) M
theorem K_86 {X : aX} {F d : Nat} {K : Nat → aK} (hS : pS K) {p1 : Int32} {out : Option Value × aH} (P1 : Int32 → pMem → pT Unit) (hC : C_86 p1 P1) : ∀ f, (∀ (x2 : Int32) M, pm X F d 86 f 1 [.iload 2, .bipush 14, .if_icmp .ge 3] [.ref 188, .int p1, .int x2] [] (pH K M) out → pG eU K out (P1 x2 M)) := by
  intro f
  induction f using Nat.strongRecOn with
  | _ f ih =>
    intro x2 M H
    refine pG_mono (fun v N h => hC x2 M v N h) ?_
    unfold S_86_1
    replace H := pRun (ls' := [.ref 188, .int p1, .int x2]) (st' := [.int (kI 14), .int x2]) 2 rfl H
    rcases pIfc (n1 := 3) rfl (mcb_86 rfl) (mcb_86 rfl) H with ⟨g1, g0, _, H⟩ | ⟨g1, g0, _, H⟩
    · refine pG_pos (c := (kI 14) ≤ x2) g1 ?_
      replace H := pRun (ls' := [.ref 188, .int p1, .int x2]) (st' := [.ref 188]) 1 rfl H
      replace H := pGetR (r := 216) (pRf hS (by decide +kernel)) rfl H
      replace H := pRun (ls' := [.ref 188, .int p1, .int x2]) (st' := [.ref 188, .int (kI 0), .ref 216]) 2 rfl H
      replace H := pGetN (v := M 188 17) rfl (by decide) H
      obtain ⟨g2, M1, eM1, H⟩ := pIst (n := 14) (pLn hS (show pCa 216 14 = true by decide +kernel)) H
      refine pG_gd g2 (pG_put (M2 := M1) eM1 ?_)
      replace H := pRun (ls' := [.ref 188, .int p1, .int x2]) (st' := [.ref 188]) 1 rfl H
      replace H := pGetR (r := 216) (pRf hS (by decide +kernel)) rfl H
      replace H := pRun (ls' := [.ref 188, .int p1, .int x2]) (st' := [.ref 188, .int (kI 1), .ref 216]) 2 rfl H
      replace H := pGetN (v := M1 188 18) rfl (by decide) H
      obtain ⟨g3, M2, eM2, H⟩ := pIst (n := 14) (pLn hS (show pCa 216 14 = true by decide +kernel)) H
      refine pG_gd g3 (pG_put (M2 := M2) eM2 ?_)
      replace H := pRun (ls' := [.ref 188, .int p1, .int x2]) (st' := [.ref 188]) 1 rfl H
      replace H := pGetR (r := 216) (pRf hS (by decide +kernel)) rfl H
      replace H := pRun (ls' := [.ref 188, .int p1, .int x2]) (st' := [.ref 188, .int (kI 2), .ref 216]) 2 rfl H
      replace H := pGetN (v := M2 188 19) rfl (by decide) H
      obtain ⟨g4, M3, eM3, H⟩ := pIst (n := 14) (pLn hS (show pCa 216 14 = true by decide +kernel)) H
      refine pG_gd g4 (pG_put (M2 := M3) eM3 ?_)
      replace H := pRun (ls' := [.ref 188, .int p1, .int x2]) (st' := [.ref 188]) 1 rfl H
      replace H := pGetR (r := 216) (pRf hS (by decide +kernel)) rfl H
      replace H := pRun (ls' := [.ref 188, .int p1, .int x2]) (st' := [.ref 188, .int (kI 5), .ref 216]) 2 rfl H
      replace H := pGetN (v := M3 188 20) rfl (by decide) H
      replace H := pRun (ls' := [.ref 188, .int p1, .int x2]) (st' := [.int p1, .int (M3 188 20), .int (kI 5), .ref 216]) 1 rfl H
      rcases pIfc (n1 := 5) rfl (mcb_86 rfl) (mcb_86 rfl) H with ⟨g5, g0, _, H⟩ | ⟨g5, g0, _, H⟩
      · refine pG_pos (c := ¬ (M3 188 20) = p1) g5 ?_
        replace H := pRun (ls' := [.ref 188, .int p1, .int x2]) (st' := [.int (kI 0), .int (kI 5), .ref 216]) 1 rfl H
        obtain ⟨g0, _, H⟩ := pFall (mcb_86 rfl) H
        obtain ⟨g6, M4, eM4, H⟩ := pIst (n := 14) (pLn hS (show pCa 216 14 = true by decide +kernel)) H
        refine pG_gd g6 (pG_put (M2 := M4) eM4 ?_)
        replace H := pRun (ls' := [.ref 188, .int p1, .int x2]) (st' := [.ref 188]) 1 rfl H
        replace H := pGetR (r := 216) (pRf hS (by decide +kernel)) rfl H
        replace H := pRun (ls' := [.ref 188, .int p1, .int x2]) (st' := [.ref 188, .int (kI 6), .ref 216]) 2 rfl H
        replace H := pGetN (v := M4 188 20) rfl (by decide) H
        replace H := pRun (ls' := [.ref 188, .int p1, .int x2]) (st' := [.int ((kI 1) - p1), .int (M4 188 20), .int (kI 6), .ref 216]) 3 rfl H
        rcases pIfc (n1 := 8) rfl (mcb_86 rfl) (mcb_86 rfl) H with ⟨g7, g0, _, H⟩ | ⟨g7, g0, _, H⟩
        · refine pG_pos (c := ¬ (M4 188 20) = ((kI 1) - p1)) g7 ?_
          replace H := pRun (ls' := [.ref 188, .int p1, .int x2]) (st' := [.int (kI 0), .int (kI 6), .ref 216]) 1 rfl H
          obtain ⟨g0, _, H⟩ := pFall (mcb_86 rfl) H
          obtain ⟨g8, M5, eM5, H⟩ := pIst (n := 14) (pLn hS (show pCa 216 14 = true by decide +kernel)) H
          refine pG_gd g8 (pG_put (M2 := M5) eM5 ?_)
          replace H := pRun (ls' := [.ref 188, .int p1, .int x2]) (st' := [.ref 188]) 1 rfl H
          replace H := pGetR (r := 216) (pRf hS (by decide +kernel)) rfl H
          replace H := pRun (ls' := [.ref 188, .int p1, .int x2]) (st' := [.ref 188, .int (kI 7), .ref 216]) 2 rfl H
          replace H := pGetN (v := M5 188 21) rfl (by decide) H
          replace H := pRun (ls' := [.ref 188, .int p1, .int x2]) (st' := [.int p1, .int (M5 188 21), .int (kI 7), .ref 216]) 1 rfl H
          rcases pIfc (n1 := 11) rfl (mcb_86 rfl) (mcb_86 rfl) H with ⟨g9, g0, _, H⟩ | ⟨g9, g0, _, H⟩
          · refine pG_pos (c := ¬ (M5 188 21) = p1) g9 ?_
            replace H := pRun (ls' := [.ref 188, .int p1, .int x2]) (st' := [.int (kI 0), .int (kI 7), .ref 216]) 1 rfl H
            obtain ⟨g0, _, H⟩ := pFall (mcb_86 rfl) H
            obtain ⟨g10, M6, eM6, H⟩ := pIst (n := 14) (pLn hS (show pCa 216 14 = true by decide +kernel)) H
            refine pG_gd g10 (pG_put (M2 := M6) eM6 ?_)
            exact pG_ret (pRetU H)
          · refine pG_neg (c := ¬ (M5 188 21) = p1) g9 ?_
            replace H := pRun (ls' := [.ref 188, .int p1, .int x2]) (st' := [.int (kI 1), .int (kI 7), .ref 216]) 1 rfl H
            obtain ⟨g0, _, H⟩ := pGo (n1 := 12) rfl (mcb_86 rfl) H
            obtain ⟨g10, M6, eM6, H⟩ := pIst (n := 14) (pLn hS (show pCa 216 14 = true by decide +kernel)) H
            refine pG_gd g10 (pG_put (M2 := M6) eM6 ?_)
            exact pG_ret (pRetU H)
        · refine pG_neg (c := ¬ (M4 188 20) = ((kI 1) - p1)) g7 ?_
          replace H := pRun (ls' := [.ref 188, .int p1, .int x2]) (st' := [.int (kI 1), .int (kI 6), .ref 216]) 1 rfl H
          obtain ⟨g0, _, H⟩ := pGo (n1 := 9) rfl (mcb_86 rfl) H
          obtain ⟨g8, M5, eM5, H⟩ := pIst (n := 14) (pLn hS (show pCa 216 14 = true by decide +kernel)) H
          refine pG_gd g8 (pG_put (M2 := M5) eM5 ?_)
          replace H := pRun (ls' := [.ref 188, .int p1, .int x2]) (st' := [.ref 188]) 1 rfl H
          replace H := pGetR (r := 216) (pRf hS (by decide +kernel)) rfl H
          replace H := pRun (ls' := [.ref 188, .int p1, .int x2]) (st' := [.ref 188, .int (kI 7), .ref 216]) 2 rfl H
          replace H := pGetN (v := M5 188 21) rfl (by decide) H
          replace H := pRun (ls' := [.ref 188, .int p1, .int x2]) (st' := [.int p1, .int (M5 188 21), .int (kI 7), .ref 216]) 1 rfl H
          rcases pIfc (n1 := 11) rfl (mcb_86 rfl) (mcb_86 rfl) H with ⟨g9, g0, _, H⟩ | ⟨g9, g0, _, H⟩
          · refine pG_pos (c := ¬ (M5 188 21) = p1) g9 ?_
            replace H := pRun (ls' := [.ref 188, .int p1, .int x2]) (st' := [.int (kI 0), .int (kI 7), .ref 216]) 1 rfl H
            obtain ⟨g0, _, H⟩ := pFall (mcb_86 rfl) H
            obtain ⟨g10, M6, eM6, H⟩ := pIst (n := 14) (pLn hS (show pCa 216 14 = true by decide +kernel)) H
            refine pG_gd g10 (pG_put (M2 := M6) eM6 ?_)
            exact pG_ret (pRetU H)
          · refine pG_neg (c := ¬ (M5 188 21) = p1) g9 ?_
            replace H := pRun (ls' := [.ref 188, .int p1, .int x2]) (st' := [.int (kI 1), .int (kI 7), .ref 216]) 1 rfl H
            obtain ⟨g0, _, H⟩ := pGo (n1 := 12) rfl (mcb_86 rfl) H
            obtain ⟨g10, M6, eM6, H⟩ := pIst (n := 14) (pLn hS (show pCa 216 14 = true by decide +kernel)) H
            refine pG_gd g10 (pG_put (M2 := M6) eM6 ?_)
            exact pG_ret (pRetU H)
      · refine pG_neg (c := ¬ (M3 188 20) = p1) g5 ?_
        replace H := pRun (ls' := [.ref 188, .int p1, .int x2]) (st' := [.int (kI 1), .int (kI 5), .ref 216]) 1 rfl H
        obtain ⟨g0, _, H⟩ := pGo (n1 := 6) rfl (mcb_86 rfl) H
        obtain ⟨g6, M4, eM4, H⟩ := pIst (n := 14) (pLn hS (show pCa 216 14 = true by decide +kernel)) H
        refine pG_gd g6 (pG_put (M2 := M4) eM4 ?_)
        replace H := pRun (ls' := [.ref 188, .int p1, .int x2]) (st' := [.ref 188]) 1 rfl H
        replace H := pGetR (r := 216) (pRf hS (by decide +kernel)) rfl H
        replace H := pRun (ls' := [.ref 188, .int p1, .int x2]) (st' := [.ref 188, .int (kI 6), .ref 216]) 2 rfl H
        replace H := pGetN (v := M4 188 20) rfl (by decide) H
        replace H := pRun (ls' := [.ref 188, .int p1, .int x2]) (st' := [.int ((kI 1) - p1), .int (M4 188 20), .int (kI 6), .ref 216]) 3 rfl H
        rcases pIfc (n1 := 8) rfl (mcb_86 rfl) (mcb_86 rfl) H with ⟨g7, g0, _, H⟩ | ⟨g7, g0, _, H⟩
        · refine pG_pos (c := ¬ (M4 188 20) = ((kI 1) - p1)) g7 ?_
          replace H := pRun (ls' := [.ref 188, .int p1, .int x2]) (st' := [.int (kI 0), .int (kI 6), .ref 216]) 1 rfl H
          obtain ⟨g0, _, H⟩ := pFall (mcb_86 rfl) H
          obtain ⟨g8, M5, eM5, H⟩ := pIst (n := 14) (pLn hS (show pCa 216 14 = true by decide +kernel)) H
          refine pG_gd g8 (pG_put (M2 := M5) eM5 ?_)
          replace H := pRun (ls' := [.ref 188, .int p1, .int x2]) (st' := [.ref 188]) 1 rfl H
          replace H := pGetR (r := 216) (pRf hS (by decide +kernel)) rfl H
          replace H := pRun (ls' := [.ref 188, .int p1, .int x2]) (st' := [.ref 188, .int (kI 7), .ref 216]) 2 rfl H
          replace H := pGetN (v := M5 188 21) rfl (by decide) H
          replace H := pRun (ls' := [.ref 188, .int p1, .int x2]) (st' := [.int p1, .int (M5 188 21), .int (kI 7), .ref 216]) 1 rfl H
          rcases pIfc (n1 := 11) rfl (mcb_86 rfl) (mcb_86 rfl) H with ⟨g9, g0, _, H⟩ | ⟨g9, g0, _, H⟩
          · refine pG_pos (c := ¬ (M5 188 21) = p1) g9 ?_
            replace H := pRun (ls' := [.ref 188, .int p1, .int x2]) (st' := [.int (kI 0), .int (kI 7), .ref 216]) 1 rfl H
            obtain ⟨g0, _, H⟩ := pFall (mcb_86 rfl) H
            obtain ⟨g10, M6, eM6, H⟩ := pIst (n := 14) (pLn hS (show pCa 216 14 = true by decide +kernel)) H
            refine pG_gd g10 (pG_put (M2 := M6) eM6 ?_)
            exact pG_ret (pRetU H)
          · refine pG_neg (c := ¬ (M5 188 21) = p1) g9 ?_
            replace H := pRun (ls' := [.ref 188, .int p1, .int x2]) (st' := [.int (kI 1), .int (kI 7), .ref 216]) 1 rfl H
            obtain ⟨g0, _, H⟩ := pGo (n1 := 12) rfl (mcb_86 rfl) H
            obtain ⟨g10, M6, eM6, H⟩ := pIst (n := 14) (pLn hS (show pCa 216 14 = true by decide +kernel)) H
            refine pG_gd g10 (pG_put (M2 := M6) eM6 ?_)
            exact pG_ret (pRetU H)
        · refine pG_neg (c := ¬ (M4 188 20) = ((kI 1) - p1)) g7 ?_
          replace H := pRun (ls' := [.ref 188, .int p1, .int x2]) (st' := [.int (kI 1), .int (kI 6), .ref 216]) 1 rfl H
          obtain ⟨g0, _, H⟩ := pGo (n1 := 9) rfl (mcb_86 rfl) H
          obtain ⟨g8, M5, eM5, H⟩ := pIst (n := 14) (pLn hS (show pCa 216 14 = true by decide +kernel)) H
          refine pG_gd g8 (pG_put (M2 := M5) eM5 ?_)
          replace H := pRun (ls' := [.ref 188, .int p1, .int x2]) (st' := [.ref 188]) 1 rfl H
          replace H := pGetR (r := 216) (pRf hS (by decide +kernel)) rfl H
          replace H := pRun (ls' := [.ref 188, .int p1, .int x2]) (st' := [.ref 188, .int (kI 7), .ref 216]) 2 rfl H
          replace H := pGetN (v := M5 188 21) rfl (by decide) H
          replace H := pRun (ls' := [.ref 188, .int p1, .int x2]) (st' := [.int p1, .int (M5 188 21), .int (kI 7), .ref 216]) 1 rfl H
          rcases pIfc (n1 := 11) rfl (mcb_86 rfl) (mcb_86 rfl) H with ⟨g9, g0, _, H⟩ | ⟨g9, g0, _, H⟩
          · refine pG_pos (c := ¬ (M5 188 21) = p1) g9 ?_
            replace H := pRun (ls' := [.ref 188, .int p1, .int x2]) (st' := [.int (kI 0), .int (kI 7), .ref 216]) 1 rfl H
            obtain ⟨g0, _, H⟩ := pFall (mcb_86 rfl) H
            obtain ⟨g10, M6, eM6, H⟩ := pIst (n := 14) (pLn hS (show pCa 216 14 = true by decide +kernel)) H
            refine pG_gd g10 (pG_put (M2 := M6) eM6 ?_)
            exact pG_ret (pRetU H)
          · refine pG_neg (c := ¬ (M5 188 21) = p1) g9 ?_
            replace H := pRun (ls' := [.ref 188, .int p1, .int x2]) (st' := [.int (kI 1), .int (kI 7), .ref 216]) 1 rfl H
            obtain ⟨g0, _, H⟩ := pGo (n1 := 12) rfl (mcb_86 rfl) H
            obtain ⟨g10, M6, eM6, H⟩ := pIst (n := 14) (pLn hS (show pCa 216 14 = true by decide +kernel)) H
            refine pG_gd g10 (pG_put (M2 := M6) eM6 ?_)
            exact pG_ret (pRetU H)
    · refine pG_neg (c := (kI 14) ≤ x2) g1 ?_
      replace H := pRun (ls' := [.ref 188, .int p1, .int x2]) (st' := [.ref 188]) 1 rfl H
      replace H := pGetR (r := 216) (pRf hS (by decide +kernel)) rfl H
      replace H := pRun (ls' := [.ref 188, .int p1, .int x2]) (st' := [.int (kI 0), .int x2, .ref 216]) 2 rfl H
      obtain ⟨g2, M1, eM1, H⟩ := pIst (n := 14) (pLn hS (show pCa 216 14 = true by decide +kernel)) H
      refine pG_gd g2 (pG_put (M2 := M1) eM1 ?_)
      replace H := pRun (ls' := [.ref 188, .int p1, .int (x2 + kI 1)]) (st' := []) 1 rfl H
      obtain ⟨g0, _, H⟩ := pGo (n1 := 1) rfl (mcb_86 rfl) H
      exact (ih _ (by omega)) _  _ H
theorem L_86_1_ok {X : aX} {F d : Nat} {K : Nat → aK} (hS : pS K) {p1 : Int32} {out : Option Value × aH} {f : Nat} {x2 : Int32} {M : pMem} (H : pm X F d 86 f 1 [.iload 2, .bipush 14, .if_icmp .ge 3] [.ref 188, .int p1, .int x2] [] (pH K M) out) : pG eU K out (L_86_1 p1 x2 M) := by
  refine pG_all (C := fun P : (Int32 → pMem → pT Unit) => C_86 p1 P) (T := fun P => P x2 M) eU_inj (fun _ _ _ _ => True) ?_ (fun P hP => (K_86 hS P hP f) _ _ H)
  exact (fun _ _ _ _ _ => trivial)
theorem D_86_ok {X : aX} {F d : Nat} {K : Nat → aK} (hS : pS K) {p1 : Int32} {M : pMem} {out : Option Value × aH} (H : aM X F d 86 [.ref 188, .int p1] (pH K M) = some out) : pG eU K out (D_86 p1 M) := by
  obtain ⟨d', g0, _, H⟩ := pEnt (n := 3) (ls := [.ref 188, .int p1, aD]) (mcb_86 rfl) (by decide +kernel) rfl H
  unfold D_86
  replace H := pRun (ls' := [.ref 188, .int p1, .int (kI 0)]) (st' := []) 2 rfl H
  obtain ⟨g0, _, H⟩ := pFall (mcb_86 rfl) H
  exact L_86_1_ok hS  H
def l_86 : List (Nat × Nat) := []
theorem FC_86 {p1 : Int32} : C_86 p1 (fun _ M _ N => pFr (l_86) M N) := fun x2 M => show pTf (l_86) M (S_86_1 p1 _ x2 M) from (tf_if (tf_gd fun g2 => (tf_putS pFr_refl (fun _ => rfl) fun M1 f1 => (tf_gd fun g3 => (tf_putS f1 (fun _ => rfl) fun M2 f2 => (tf_gd fun g4 => (tf_putS f2 (fun _ => rfl) fun M3 f3 => (tf_if (tf_gd fun g6 => (tf_putS f3 (fun _ => rfl) fun M4 f4 => (tf_if (tf_gd fun g8 => (tf_putS f4 (fun _ => rfl) fun M5 f5 => (tf_if (tf_gd fun g10 => (tf_putS f5 (fun _ => rfl) fun M6 f6 => (tf_ret f6))) (tf_gd fun g10 => (tf_putS f5 (fun _ => rfl) fun M6 f6 => (tf_ret f6)))))) (tf_gd fun g8 => (tf_putS f4 (fun _ => rfl) fun M5 f5 => (tf_if (tf_gd fun g10 => (tf_putS f5 (fun _ => rfl) fun M6 f6 => (tf_ret f6))) (tf_gd fun g10 => (tf_putS f5 (fun _ => rfl) fun M6 f6 => (tf_ret f6))))))))) (tf_gd fun g6 => (tf_putS f3 (fun _ => rfl) fun M4 f4 => (tf_if (tf_gd fun g8 => (tf_putS f4 (fun _ => rfl) fun M5 f5 => (tf_if (tf_gd fun g10 => (tf_putS f5 (fun _ => rfl) fun M6 f6 => (tf_ret f6))) (tf_gd fun g10 => (tf_putS f5 (fun _ => rfl) fun M6 f6 => (tf_ret f6)))))) (tf_gd fun g8 => (tf_putS f4 (fun _ => rfl) fun M5 f5 => (tf_if (tf_gd fun g10 => (tf_putS f5 (fun _ => rfl) fun M6 f6 => (tf_ret f6))) (tf_gd fun g10 => (tf_putS f5 (fun _ => rfl) fun M6 f6 => (tf_ret f6)))))))))))))))) (tf_gd fun g2 => (tf_putS pFr_refl (fun _ => rfl) fun M1 f1 => (tf_jump f1))))
theorem F_86 {p1 : Int32} {M : pMem} {v : Unit} {N : pMem} (h : D_86 p1 M v N) : pFr (l_86) M N :=
  (show pTf (l_86) M (D_86 p1 M) from (tf_jumpL (fun _ M _ N => pFr (l_86) M N) (FC_86) rfl pFr_refl)) v N h
/-- TwoCampsModel.tellsCouple(III)I -/
def D_87 (p1 : Int32) (p2 : Int32) (p3 : Int32) (M : pMem) : pT Int32 := tGd (pIn p2 24) <| tCall (D_86 (M 189 (ix p2)) M) fun _ M1 => tGd (pIn p2 24) <| tGd (pIn p3 24) <| tIf (¬ (M1 189 (ix p2)) = (M1 189 (ix p3))) (tGd (pIn (kI 3) 14) <| tPut (aPut M1 216 (ix (kI 3)) (kI 0)) fun M2 => tGd (pIn (((kI 24) * p2) + p3) 576) <| tGd (pIn (kI 4) 14) <| tPut (aPut M2 216 (ix (kI 4)) (M2 195 (ix (((kI 24) * p2) + p3)))) fun M3 => tGd (pIn (((kI 24) * p2) + p3) 576) <| tGd (pIn (kI 8) 14) <| tPut (aPut M3 216 (ix (kI 8)) (M3 194 (ix (((kI 24) * p2) + p3)))) fun M4 => tGd (pIn (((kI 24) * p3) + p2) 576) <| tGd (pIn (kI 9) 14) <| tPut (aPut M4 216 (ix (kI 9)) (M4 194 (ix (((kI 24) * p3) + p2)))) fun M5 => tGd (pIn p3 24) <| tGd (pIn (kI 10) 14) <| tPut (aPut M5 216 (ix (kI 10)) (M5 190 (ix p3))) fun M6 => tCall (D_85 p1 M6) fun v2 M7 => tRet v2 M7) (tGd (pIn (kI 3) 14) <| tPut (aPut M1 216 (ix (kI 3)) (kI 1)) fun M2 => tGd (pIn (((kI 24) * p2) + p3) 576) <| tGd (pIn (kI 4) 14) <| tPut (aPut M2 216 (ix (kI 4)) (M2 195 (ix (((kI 24) * p2) + p3)))) fun M3 => tGd (pIn (((kI 24) * p2) + p3) 576) <| tGd (pIn (kI 8) 14) <| tPut (aPut M3 216 (ix (kI 8)) (M3 194 (ix (((kI 24) * p2) + p3)))) fun M4 => tGd (pIn (((kI 24) * p3) + p2) 576) <| tGd (pIn (kI 9) 14) <| tPut (aPut M4 216 (ix (kI 9)) (M4 194 (ix (((kI 24) * p3) + p2)))) fun M5 => tGd (pIn p3 24) <| tGd (pIn (kI 10) 14) <| tPut (aPut M5 216 (ix (kI 10)) (M5 190 (ix p3))) fun M6 => tCall (D_85 p1 M6) fun v2 M7 => tRet v2 M7)
theorem D_87_ok {X : aX} {F d : Nat} {K : Nat → aK} (hS : pS K) {p1 : Int32} {p2 : Int32} {p3 : Int32} {M : pMem} {out : Option Value × aH} (H : aM X F d 87 [.ref 188, .int p1, .int p2, .int p3] (pH K M) = some out) : pG eI K out (D_87 p1 p2 p3 M) := by
  obtain ⟨d', g0, _, H⟩ := pEnt (n := 4) (ls := [.ref 188, .int p1, .int p2, .int p3]) (mcb_87 rfl) (by decide +kernel) rfl H
  unfold D_87
  replace H := pRun (ls' := [.ref 188, .int p1, .int p2, .int p3]) (st' := [.ref 188, .ref 188]) 2 rfl H
  replace H := pGetR (r := 189) (pRf hS (by decide +kernel)) rfl H
  replace H := pRun (ls' := [.ref 188, .int p1, .int p2, .int p3]) (st' := [.int p2, .ref 189, .ref 188]) 1 rfl H
  obtain ⟨g1, H⟩ := pIld (n := 24) (pLt (show pCa 189 24 = true by decide +kernel)) (pLn hS (show pCa 189 24 = true by decide +kernel)) H
  refine pG_gd g1 ?_
  obtain ⟨rv, h1, hc, H⟩ := pCalV 86 1 188 (as := [.int (M 189 (ix p2))]) (rest := []) rfl (by decide) (by decide +kernel) rfl rfl H
  obtain ⟨v1, M1, hD, H⟩ := pUseU (D_86_ok hS hc) H
  refine pG_call (x := v1) (M1 := M1) hD ?_
  replace H := pRun (ls' := [.ref 188, .int p1, .int p2, .int p3]) (st' := [.ref 188]) 1 rfl H
  replace H := pGetR (r := 216) (pRf hS (by decide +kernel)) rfl H
  replace H := pRun (ls' := [.ref 188, .int p1, .int p2, .int p3]) (st' := [.ref 188, .int (kI 3), .ref 216]) 2 rfl H
  replace H := pGetR (r := 189) (pRf hS (by decide +kernel)) rfl H
  replace H := pRun (ls' := [.ref 188, .int p1, .int p2, .int p3]) (st' := [.int p2, .ref 189, .int (kI 3), .ref 216]) 1 rfl H
  obtain ⟨g2, H⟩ := pIld (n := 24) (pLt (show pCa 189 24 = true by decide +kernel)) (pLn hS (show pCa 189 24 = true by decide +kernel)) H
  refine pG_gd g2 ?_
  replace H := pRun (ls' := [.ref 188, .int p1, .int p2, .int p3]) (st' := [.ref 188, .int (M1 189 (ix p2)), .int (kI 3), .ref 216]) 1 rfl H
  replace H := pGetR (r := 189) (pRf hS (by decide +kernel)) rfl H
  replace H := pRun (ls' := [.ref 188, .int p1, .int p2, .int p3]) (st' := [.int p3, .ref 189, .int (M1 189 (ix p2)), .int (kI 3), .ref 216]) 1 rfl H
  obtain ⟨g3, H⟩ := pIld (n := 24) (pLt (show pCa 189 24 = true by decide +kernel)) (pLn hS (show pCa 189 24 = true by decide +kernel)) H
  refine pG_gd g3 ?_
  rcases pIfc (n1 := 2) rfl (mcb_87 rfl) (mcb_87 rfl) H with ⟨g4, g0, _, H⟩ | ⟨g4, g0, _, H⟩
  · refine pG_pos (c := ¬ (M1 189 (ix p2)) = (M1 189 (ix p3))) g4 ?_
    replace H := pRun (ls' := [.ref 188, .int p1, .int p2, .int p3]) (st' := [.int (kI 0), .int (kI 3), .ref 216]) 1 rfl H
    obtain ⟨g0, _, H⟩ := pFall (mcb_87 rfl) H
    obtain ⟨g5, M2, eM2, H⟩ := pIst (n := 14) (pLn hS (show pCa 216 14 = true by decide +kernel)) H
    refine pG_gd g5 (pG_put (M2 := M2) eM2 ?_)
    replace H := pRun (ls' := [.ref 188, .int p1, .int p2, .int p3]) (st' := [.ref 188]) 1 rfl H
    replace H := pGetR (r := 216) (pRf hS (by decide +kernel)) rfl H
    replace H := pRun (ls' := [.ref 188, .int p1, .int p2, .int p3]) (st' := [.ref 188, .int (kI 4), .ref 216]) 2 rfl H
    replace H := pGetR (r := 195) (pRf hS (by decide +kernel)) rfl H
    replace H := pRun (ls' := [.ref 188, .int p1, .int p2, .int p3]) (st' := [.int (((kI 24) * p2) + p3), .ref 195, .int (kI 4), .ref 216]) 5 rfl H
    obtain ⟨g6, H⟩ := pIld (n := 576) (pLt (show pCa 195 576 = true by decide +kernel)) (pLn hS (show pCa 195 576 = true by decide +kernel)) H
    refine pG_gd g6 ?_
    obtain ⟨g7, M3, eM3, H⟩ := pIst (n := 14) (pLn hS (show pCa 216 14 = true by decide +kernel)) H
    refine pG_gd g7 (pG_put (M2 := M3) eM3 ?_)
    replace H := pRun (ls' := [.ref 188, .int p1, .int p2, .int p3]) (st' := [.ref 188]) 1 rfl H
    replace H := pGetR (r := 216) (pRf hS (by decide +kernel)) rfl H
    replace H := pRun (ls' := [.ref 188, .int p1, .int p2, .int p3]) (st' := [.ref 188, .int (kI 8), .ref 216]) 2 rfl H
    replace H := pGetR (r := 194) (pRf hS (by decide +kernel)) rfl H
    replace H := pRun (ls' := [.ref 188, .int p1, .int p2, .int p3]) (st' := [.int (((kI 24) * p2) + p3), .ref 194, .int (kI 8), .ref 216]) 5 rfl H
    obtain ⟨g8, H⟩ := pIld (n := 576) (pLt (show pCa 194 576 = true by decide +kernel)) (pLn hS (show pCa 194 576 = true by decide +kernel)) H
    refine pG_gd g8 ?_
    obtain ⟨g9, M4, eM4, H⟩ := pIst (n := 14) (pLn hS (show pCa 216 14 = true by decide +kernel)) H
    refine pG_gd g9 (pG_put (M2 := M4) eM4 ?_)
    replace H := pRun (ls' := [.ref 188, .int p1, .int p2, .int p3]) (st' := [.ref 188]) 1 rfl H
    replace H := pGetR (r := 216) (pRf hS (by decide +kernel)) rfl H
    replace H := pRun (ls' := [.ref 188, .int p1, .int p2, .int p3]) (st' := [.ref 188, .int (kI 9), .ref 216]) 2 rfl H
    replace H := pGetR (r := 194) (pRf hS (by decide +kernel)) rfl H
    replace H := pRun (ls' := [.ref 188, .int p1, .int p2, .int p3]) (st' := [.int (((kI 24) * p3) + p2), .ref 194, .int (kI 9), .ref 216]) 5 rfl H
    obtain ⟨g10, H⟩ := pIld (n := 576) (pLt (show pCa 194 576 = true by decide +kernel)) (pLn hS (show pCa 194 576 = true by decide +kernel)) H
    refine pG_gd g10 ?_
    obtain ⟨g11, M5, eM5, H⟩ := pIst (n := 14) (pLn hS (show pCa 216 14 = true by decide +kernel)) H
    refine pG_gd g11 (pG_put (M2 := M5) eM5 ?_)
    replace H := pRun (ls' := [.ref 188, .int p1, .int p2, .int p3]) (st' := [.ref 188]) 1 rfl H
    replace H := pGetR (r := 216) (pRf hS (by decide +kernel)) rfl H
    replace H := pRun (ls' := [.ref 188, .int p1, .int p2, .int p3]) (st' := [.ref 188, .int (kI 10), .ref 216]) 2 rfl H
    replace H := pGetR (r := 190) (pRf hS (by decide +kernel)) rfl H
    replace H := pRun (ls' := [.ref 188, .int p1, .int p2, .int p3]) (st' := [.int p3, .ref 190, .int (kI 10), .ref 216]) 1 rfl H
    obtain ⟨g12, H⟩ := pIld (n := 24) (pLt (show pCa 190 24 = true by decide +kernel)) (pLn hS (show pCa 190 24 = true by decide +kernel)) H
    refine pG_gd g12 ?_
    obtain ⟨g13, M6, eM6, H⟩ := pIst (n := 14) (pLn hS (show pCa 216 14 = true by decide +kernel)) H
    refine pG_gd g13 (pG_put (M2 := M6) eM6 ?_)
    replace H := pRun (ls' := [.ref 188, .int p1, .int p2, .int p3]) (st' := [.int p1, .ref 188]) 2 rfl H
    obtain ⟨rv, h1, hc, H⟩ := pCalV 85 1 188 (as := [.int p1]) (rest := []) rfl (by decide) (by decide +kernel) rfl rfl H
    obtain ⟨v2, M7, hD, H⟩ := pUseI (D_85_ok hS hc) H
    refine pG_call (x := v2) (M1 := M7) hD ?_
    exact pG_ret (pRetI H)
  · refine pG_neg (c := ¬ (M1 189 (ix p2)) = (M1 189 (ix p3))) g4 ?_
    replace H := pRun (ls' := [.ref 188, .int p1, .int p2, .int p3]) (st' := [.int (kI 1), .int (kI 3), .ref 216]) 1 rfl H
    obtain ⟨g0, _, H⟩ := pGo (n1 := 3) rfl (mcb_87 rfl) H
    obtain ⟨g5, M2, eM2, H⟩ := pIst (n := 14) (pLn hS (show pCa 216 14 = true by decide +kernel)) H
    refine pG_gd g5 (pG_put (M2 := M2) eM2 ?_)
    replace H := pRun (ls' := [.ref 188, .int p1, .int p2, .int p3]) (st' := [.ref 188]) 1 rfl H
    replace H := pGetR (r := 216) (pRf hS (by decide +kernel)) rfl H
    replace H := pRun (ls' := [.ref 188, .int p1, .int p2, .int p3]) (st' := [.ref 188, .int (kI 4), .ref 216]) 2 rfl H
    replace H := pGetR (r := 195) (pRf hS (by decide +kernel)) rfl H
    replace H := pRun (ls' := [.ref 188, .int p1, .int p2, .int p3]) (st' := [.int (((kI 24) * p2) + p3), .ref 195, .int (kI 4), .ref 216]) 5 rfl H
    obtain ⟨g6, H⟩ := pIld (n := 576) (pLt (show pCa 195 576 = true by decide +kernel)) (pLn hS (show pCa 195 576 = true by decide +kernel)) H
    refine pG_gd g6 ?_
    obtain ⟨g7, M3, eM3, H⟩ := pIst (n := 14) (pLn hS (show pCa 216 14 = true by decide +kernel)) H
    refine pG_gd g7 (pG_put (M2 := M3) eM3 ?_)
    replace H := pRun (ls' := [.ref 188, .int p1, .int p2, .int p3]) (st' := [.ref 188]) 1 rfl H
    replace H := pGetR (r := 216) (pRf hS (by decide +kernel)) rfl H
    replace H := pRun (ls' := [.ref 188, .int p1, .int p2, .int p3]) (st' := [.ref 188, .int (kI 8), .ref 216]) 2 rfl H
    replace H := pGetR (r := 194) (pRf hS (by decide +kernel)) rfl H
    replace H := pRun (ls' := [.ref 188, .int p1, .int p2, .int p3]) (st' := [.int (((kI 24) * p2) + p3), .ref 194, .int (kI 8), .ref 216]) 5 rfl H
    obtain ⟨g8, H⟩ := pIld (n := 576) (pLt (show pCa 194 576 = true by decide +kernel)) (pLn hS (show pCa 194 576 = true by decide +kernel)) H
    refine pG_gd g8 ?_
    obtain ⟨g9, M4, eM4, H⟩ := pIst (n := 14) (pLn hS (show pCa 216 14 = true by decide +kernel)) H
    refine pG_gd g9 (pG_put (M2 := M4) eM4 ?_)
    replace H := pRun (ls' := [.ref 188, .int p1, .int p2, .int p3]) (st' := [.ref 188]) 1 rfl H
    replace H := pGetR (r := 216) (pRf hS (by decide +kernel)) rfl H
    replace H := pRun (ls' := [.ref 188, .int p1, .int p2, .int p3]) (st' := [.ref 188, .int (kI 9), .ref 216]) 2 rfl H
    replace H := pGetR (r := 194) (pRf hS (by decide +kernel)) rfl H
    replace H := pRun (ls' := [.ref 188, .int p1, .int p2, .int p3]) (st' := [.int (((kI 24) * p3) + p2), .ref 194, .int (kI 9), .ref 216]) 5 rfl H
    obtain ⟨g10, H⟩ := pIld (n := 576) (pLt (show pCa 194 576 = true by decide +kernel)) (pLn hS (show pCa 194 576 = true by decide +kernel)) H
    refine pG_gd g10 ?_
    obtain ⟨g11, M5, eM5, H⟩ := pIst (n := 14) (pLn hS (show pCa 216 14 = true by decide +kernel)) H
    refine pG_gd g11 (pG_put (M2 := M5) eM5 ?_)
    replace H := pRun (ls' := [.ref 188, .int p1, .int p2, .int p3]) (st' := [.ref 188]) 1 rfl H
    replace H := pGetR (r := 216) (pRf hS (by decide +kernel)) rfl H
    replace H := pRun (ls' := [.ref 188, .int p1, .int p2, .int p3]) (st' := [.ref 188, .int (kI 10), .ref 216]) 2 rfl H
    replace H := pGetR (r := 190) (pRf hS (by decide +kernel)) rfl H
    replace H := pRun (ls' := [.ref 188, .int p1, .int p2, .int p3]) (st' := [.int p3, .ref 190, .int (kI 10), .ref 216]) 1 rfl H
    obtain ⟨g12, H⟩ := pIld (n := 24) (pLt (show pCa 190 24 = true by decide +kernel)) (pLn hS (show pCa 190 24 = true by decide +kernel)) H
    refine pG_gd g12 ?_
    obtain ⟨g13, M6, eM6, H⟩ := pIst (n := 14) (pLn hS (show pCa 216 14 = true by decide +kernel)) H
    refine pG_gd g13 (pG_put (M2 := M6) eM6 ?_)
    replace H := pRun (ls' := [.ref 188, .int p1, .int p2, .int p3]) (st' := [.int p1, .ref 188]) 2 rfl H
    obtain ⟨rv, h1, hc, H⟩ := pCalV 85 1 188 (as := [.int p1]) (rest := []) rfl (by decide) (by decide +kernel) rfl rfl H
    obtain ⟨v2, M7, hD, H⟩ := pUseI (D_85_ok hS hc) H
    refine pG_call (x := v2) (M1 := M7) hD ?_
    exact pG_ret (pRetI H)
def l_87 : List (Nat × Nat) := []
theorem F_87 {p1 : Int32} {p2 : Int32} {p3 : Int32} {M : pMem} {v : Int32} {N : pMem} (h : D_87 p1 p2 p3 M v N) : pFr (l_87) M N :=
  (show pTf (l_87) M (D_87 p1 p2 p3 M) from (tf_gd fun g1 => (tf_call pFr_refl (fun _ _ h => F_86 h) [] rfl fun _ M1 f1 => (tf_gd fun g2 => (tf_gd fun g3 => (tf_if (tf_gd fun g5 => (tf_putS f1 (fun _ => rfl) fun M2 f2 => (tf_gd fun g6 => (tf_gd fun g7 => (tf_putS f2 (fun _ => rfl) fun M3 f3 => (tf_gd fun g8 => (tf_gd fun g9 => (tf_putS f3 (fun _ => rfl) fun M4 f4 => (tf_gd fun g10 => (tf_gd fun g11 => (tf_putS f4 (fun _ => rfl) fun M5 f5 => (tf_gd fun g12 => (tf_gd fun g13 => (tf_putS f5 (fun _ => rfl) fun M6 f6 => (tf_call f6 (fun _ _ h => F_85 h) [] rfl fun _ M7 f7 => (tf_ret f7)))))))))))))))) (tf_gd fun g5 => (tf_putS f1 (fun _ => rfl) fun M2 f2 => (tf_gd fun g6 => (tf_gd fun g7 => (tf_putS f2 (fun _ => rfl) fun M3 f3 => (tf_gd fun g8 => (tf_gd fun g9 => (tf_putS f3 (fun _ => rfl) fun M4 f4 => (tf_gd fun g10 => (tf_gd fun g11 => (tf_putS f4 (fun _ => rfl) fun M5 f5 => (tf_gd fun g12 => (tf_gd fun g13 => (tf_putS f5 (fun _ => rfl) fun M6 f6 => (tf_call f6 (fun _ _ h => F_85 h) [] rfl fun _ M7 f7 => (tf_ret f7)))))))))))))))))))))) v N h
/-- TwoCampsModel.tellsLot(II)I -/
def D_88 (p1 : Int32) (p2 : Int32) (M : pMem) : pT Int32 := tCall (D_86 p2 M) fun _ M1 => tCall (D_54 p2 p2 M1) fun v2 M2 => tGd (pIn (kI 11) 14) <| tPut (aPut M2 216 (ix (kI 11)) v2) fun M3 => tCall (D_54 p2 ((kI 1) - p2) M3) fun v3 M4 => tGd (pIn (kI 12) 14) <| tPut (aPut M4 216 (ix (kI 12)) v3) fun M5 => tCall (D_53 p2 M5) fun v4 M6 => tGd (pIn (kI 13) 14) <| tPut (aPut M6 216 (ix (kI 13)) v4) fun M7 => tCall (D_85 p1 M7) fun v5 M8 => tRet v5 M8
theorem D_88_ok {X : aX} {F d : Nat} {K : Nat → aK} (hS : pS K) {p1 : Int32} {p2 : Int32} {M : pMem} {out : Option Value × aH} (H : aM X F d 88 [.ref 188, .int p1, .int p2] (pH K M) = some out) : pG eI K out (D_88 p1 p2 M) := by
  obtain ⟨d', g0, _, H⟩ := pEnt (n := 3) (ls := [.ref 188, .int p1, .int p2]) (mcb_88 rfl) (by decide +kernel) rfl H
  unfold D_88
  replace H := pRun (ls' := [.ref 188, .int p1, .int p2]) (st' := [.int p2, .ref 188]) 2 rfl H
  obtain ⟨rv, h1, hc, H⟩ := pCalV 86 1 188 (as := [.int p2]) (rest := []) rfl (by decide) (by decide +kernel) rfl rfl H
  obtain ⟨v1, M1, hD, H⟩ := pUseU (D_86_ok hS hc) H
  refine pG_call (x := v1) (M1 := M1) hD ?_
  replace H := pRun (ls' := [.ref 188, .int p1, .int p2]) (st' := [.ref 188]) 1 rfl H
  replace H := pGetR (r := 216) (pRf hS (by decide +kernel)) rfl H
  replace H := pRun (ls' := [.ref 188, .int p1, .int p2]) (st' := [.int p2, .int p2, .ref 188, .int (kI 11), .ref 216]) 4 rfl H
  obtain ⟨rv, h1, hc, H⟩ := pCalV 54 2 188 (as := [.int p2, .int p2]) (rest := [.int (kI 11), .ref 216]) rfl (by decide) (by decide +kernel) rfl rfl H
  obtain ⟨v2, M2, hD, H⟩ := pUseI (D_54_ok hS hc) H
  refine pG_call (x := v2) (M1 := M2) hD ?_
  obtain ⟨g1, M3, eM3, H⟩ := pIst (n := 14) (pLn hS (show pCa 216 14 = true by decide +kernel)) H
  refine pG_gd g1 (pG_put (M2 := M3) eM3 ?_)
  replace H := pRun (ls' := [.ref 188, .int p1, .int p2]) (st' := [.ref 188]) 1 rfl H
  replace H := pGetR (r := 216) (pRf hS (by decide +kernel)) rfl H
  replace H := pRun (ls' := [.ref 188, .int p1, .int p2]) (st' := [.int ((kI 1) - p2), .int p2, .ref 188, .int (kI 12), .ref 216]) 6 rfl H
  obtain ⟨rv, h1, hc, H⟩ := pCalV 54 2 188 (as := [.int p2, .int ((kI 1) - p2)]) (rest := [.int (kI 12), .ref 216]) rfl (by decide) (by decide +kernel) rfl rfl H
  obtain ⟨v3, M4, hD, H⟩ := pUseI (D_54_ok hS hc) H
  refine pG_call (x := v3) (M1 := M4) hD ?_
  obtain ⟨g2, M5, eM5, H⟩ := pIst (n := 14) (pLn hS (show pCa 216 14 = true by decide +kernel)) H
  refine pG_gd g2 (pG_put (M2 := M5) eM5 ?_)
  replace H := pRun (ls' := [.ref 188, .int p1, .int p2]) (st' := [.ref 188]) 1 rfl H
  replace H := pGetR (r := 216) (pRf hS (by decide +kernel)) rfl H
  replace H := pRun (ls' := [.ref 188, .int p1, .int p2]) (st' := [.int p2, .ref 188, .int (kI 13), .ref 216]) 3 rfl H
  obtain ⟨rv, h1, hc, H⟩ := pCalV 53 1 188 (as := [.int p2]) (rest := [.int (kI 13), .ref 216]) rfl (by decide) (by decide +kernel) rfl rfl H
  obtain ⟨v4, M6, hD, H⟩ := pUseI (D_53_ok hS hc) H
  refine pG_call (x := v4) (M1 := M6) hD ?_
  obtain ⟨g3, M7, eM7, H⟩ := pIst (n := 14) (pLn hS (show pCa 216 14 = true by decide +kernel)) H
  refine pG_gd g3 (pG_put (M2 := M7) eM7 ?_)
  replace H := pRun (ls' := [.ref 188, .int p1, .int p2]) (st' := [.int p1, .ref 188]) 2 rfl H
  obtain ⟨rv, h1, hc, H⟩ := pCalV 85 1 188 (as := [.int p1]) (rest := []) rfl (by decide) (by decide +kernel) rfl rfl H
  obtain ⟨v5, M8, hD, H⟩ := pUseI (D_85_ok hS hc) H
  refine pG_call (x := v5) (M1 := M8) hD ?_
  exact pG_ret (pRetI H)
def l_88 : List (Nat × Nat) := []
theorem F_88 {p1 : Int32} {p2 : Int32} {M : pMem} {v : Int32} {N : pMem} (h : D_88 p1 p2 M v N) : pFr (l_88) M N :=
  (show pTf (l_88) M (D_88 p1 p2 M) from (tf_call pFr_refl (fun _ _ h => F_86 h) [] rfl fun _ M1 f1 => (tf_call f1 (fun _ _ h => F_54 h) [] rfl fun _ M2 f2 => (tf_gd fun g1 => (tf_putS f2 (fun _ => rfl) fun M3 f3 => (tf_call f3 (fun _ _ h => F_54 h) [] rfl fun _ M4 f4 => (tf_gd fun g2 => (tf_putS f4 (fun _ => rfl) fun M5 f5 => (tf_call f5 (fun _ _ h => F_53 h) [] rfl fun _ M6 f6 => (tf_gd fun g3 => (tf_putS f6 (fun _ => rfl) fun M7 f7 => (tf_call f7 (fun _ _ h => F_85 h) [] rfl fun _ M8 f8 => (tf_ret f8))))))))))))) v N h
/-- TwoCampsModel.tellsHome(I)I -/
def D_89 (p1 : Int32) (M : pMem) : pT Int32 := tGd (pIn p1 24) <| tCall (D_86 (M 189 (ix p1)) M) fun _ M1 => tCall (D_56 p1 (kI 2) M1) fun v2 M2 => tGd (pIn (kI 8) 14) <| tPut (aPut M2 216 (ix (kI 8)) v2) fun M3 => tGd (pIn p1 24) <| tGd (pIn (kI 10) 14) <| tPut (aPut M3 216 (ix (kI 10)) (M3 190 (ix p1))) fun M4 => tCall (D_56 p1 (kI 0) M4) fun v3 M5 => tGd (pIn (kI 11) 14) <| tPut (aPut M5 216 (ix (kI 11)) v3) fun M6 => tCall (D_56 p1 (kI 1) M6) fun v4 M7 => tGd (pIn (kI 12) 14) <| tPut (aPut M7 216 (ix (kI 12)) v4) fun M8 => tGd (pIn p1 24) <| tCall (D_53 (M8 189 (ix p1)) M8) fun v5 M9 => tGd (pIn (kI 13) 14) <| tPut (aPut M9 216 (ix (kI 13)) v5) fun M10 => tCall (D_85 (kI 2) M10) fun v6 M11 => tRet v6 M11
theorem D_89_ok {X : aX} {F d : Nat} {K : Nat → aK} (hS : pS K) {p1 : Int32} {M : pMem} {out : Option Value × aH} (H : aM X F d 89 [.ref 188, .int p1] (pH K M) = some out) : pG eI K out (D_89 p1 M) := by
  obtain ⟨d', g0, _, H⟩ := pEnt (n := 2) (ls := [.ref 188, .int p1]) (mcb_89 rfl) (by decide +kernel) rfl H
  unfold D_89
  replace H := pRun (ls' := [.ref 188, .int p1]) (st' := [.ref 188, .ref 188]) 2 rfl H
  replace H := pGetR (r := 189) (pRf hS (by decide +kernel)) rfl H
  replace H := pRun (ls' := [.ref 188, .int p1]) (st' := [.int p1, .ref 189, .ref 188]) 1 rfl H
  obtain ⟨g1, H⟩ := pIld (n := 24) (pLt (show pCa 189 24 = true by decide +kernel)) (pLn hS (show pCa 189 24 = true by decide +kernel)) H
  refine pG_gd g1 ?_
  obtain ⟨rv, h1, hc, H⟩ := pCalV 86 1 188 (as := [.int (M 189 (ix p1))]) (rest := []) rfl (by decide) (by decide +kernel) rfl rfl H
  obtain ⟨v1, M1, hD, H⟩ := pUseU (D_86_ok hS hc) H
  refine pG_call (x := v1) (M1 := M1) hD ?_
  replace H := pRun (ls' := [.ref 188, .int p1]) (st' := [.ref 188]) 1 rfl H
  replace H := pGetR (r := 216) (pRf hS (by decide +kernel)) rfl H
  replace H := pRun (ls' := [.ref 188, .int p1]) (st' := [.int (kI 2), .int p1, .ref 188, .int (kI 8), .ref 216]) 4 rfl H
  obtain ⟨rv, h1, hc, H⟩ := pCalV 56 2 188 (as := [.int p1, .int (kI 2)]) (rest := [.int (kI 8), .ref 216]) rfl (by decide) (by decide +kernel) rfl rfl H
  obtain ⟨v2, M2, hD, H⟩ := pUseI (D_56_ok hS hc) H
  refine pG_call (x := v2) (M1 := M2) hD ?_
  obtain ⟨g2, M3, eM3, H⟩ := pIst (n := 14) (pLn hS (show pCa 216 14 = true by decide +kernel)) H
  refine pG_gd g2 (pG_put (M2 := M3) eM3 ?_)
  replace H := pRun (ls' := [.ref 188, .int p1]) (st' := [.ref 188]) 1 rfl H
  replace H := pGetR (r := 216) (pRf hS (by decide +kernel)) rfl H
  replace H := pRun (ls' := [.ref 188, .int p1]) (st' := [.ref 188, .int (kI 10), .ref 216]) 2 rfl H
  replace H := pGetR (r := 190) (pRf hS (by decide +kernel)) rfl H
  replace H := pRun (ls' := [.ref 188, .int p1]) (st' := [.int p1, .ref 190, .int (kI 10), .ref 216]) 1 rfl H
  obtain ⟨g3, H⟩ := pIld (n := 24) (pLt (show pCa 190 24 = true by decide +kernel)) (pLn hS (show pCa 190 24 = true by decide +kernel)) H
  refine pG_gd g3 ?_
  obtain ⟨g4, M4, eM4, H⟩ := pIst (n := 14) (pLn hS (show pCa 216 14 = true by decide +kernel)) H
  refine pG_gd g4 (pG_put (M2 := M4) eM4 ?_)
  replace H := pRun (ls' := [.ref 188, .int p1]) (st' := [.ref 188]) 1 rfl H
  replace H := pGetR (r := 216) (pRf hS (by decide +kernel)) rfl H
  replace H := pRun (ls' := [.ref 188, .int p1]) (st' := [.int (kI 0), .int p1, .ref 188, .int (kI 11), .ref 216]) 4 rfl H
  obtain ⟨rv, h1, hc, H⟩ := pCalV 56 2 188 (as := [.int p1, .int (kI 0)]) (rest := [.int (kI 11), .ref 216]) rfl (by decide) (by decide +kernel) rfl rfl H
  obtain ⟨v3, M5, hD, H⟩ := pUseI (D_56_ok hS hc) H
  refine pG_call (x := v3) (M1 := M5) hD ?_
  obtain ⟨g5, M6, eM6, H⟩ := pIst (n := 14) (pLn hS (show pCa 216 14 = true by decide +kernel)) H
  refine pG_gd g5 (pG_put (M2 := M6) eM6 ?_)
  replace H := pRun (ls' := [.ref 188, .int p1]) (st' := [.ref 188]) 1 rfl H
  replace H := pGetR (r := 216) (pRf hS (by decide +kernel)) rfl H
  replace H := pRun (ls' := [.ref 188, .int p1]) (st' := [.int (kI 1), .int p1, .ref 188, .int (kI 12), .ref 216]) 4 rfl H
  obtain ⟨rv, h1, hc, H⟩ := pCalV 56 2 188 (as := [.int p1, .int (kI 1)]) (rest := [.int (kI 12), .ref 216]) rfl (by decide) (by decide +kernel) rfl rfl H
  obtain ⟨v4, M7, hD, H⟩ := pUseI (D_56_ok hS hc) H
  refine pG_call (x := v4) (M1 := M7) hD ?_
  obtain ⟨g6, M8, eM8, H⟩ := pIst (n := 14) (pLn hS (show pCa 216 14 = true by decide +kernel)) H
  refine pG_gd g6 (pG_put (M2 := M8) eM8 ?_)
  replace H := pRun (ls' := [.ref 188, .int p1]) (st' := [.ref 188]) 1 rfl H
  replace H := pGetR (r := 216) (pRf hS (by decide +kernel)) rfl H
  replace H := pRun (ls' := [.ref 188, .int p1]) (st' := [.ref 188, .ref 188, .int (kI 13), .ref 216]) 3 rfl H
  replace H := pGetR (r := 189) (pRf hS (by decide +kernel)) rfl H
  replace H := pRun (ls' := [.ref 188, .int p1]) (st' := [.int p1, .ref 189, .ref 188, .int (kI 13), .ref 216]) 1 rfl H
  obtain ⟨g7, H⟩ := pIld (n := 24) (pLt (show pCa 189 24 = true by decide +kernel)) (pLn hS (show pCa 189 24 = true by decide +kernel)) H
  refine pG_gd g7 ?_
  obtain ⟨rv, h1, hc, H⟩ := pCalV 53 1 188 (as := [.int (M8 189 (ix p1))]) (rest := [.int (kI 13), .ref 216]) rfl (by decide) (by decide +kernel) rfl rfl H
  obtain ⟨v5, M9, hD, H⟩ := pUseI (D_53_ok hS hc) H
  refine pG_call (x := v5) (M1 := M9) hD ?_
  obtain ⟨g8, M10, eM10, H⟩ := pIst (n := 14) (pLn hS (show pCa 216 14 = true by decide +kernel)) H
  refine pG_gd g8 (pG_put (M2 := M10) eM10 ?_)
  replace H := pRun (ls' := [.ref 188, .int p1]) (st' := [.int (kI 2), .ref 188]) 2 rfl H
  obtain ⟨rv, h1, hc, H⟩ := pCalV 85 1 188 (as := [.int (kI 2)]) (rest := []) rfl (by decide) (by decide +kernel) rfl rfl H
  obtain ⟨v6, M11, hD, H⟩ := pUseI (D_85_ok hS hc) H
  refine pG_call (x := v6) (M1 := M11) hD ?_
  exact pG_ret (pRetI H)
def l_89 : List (Nat × Nat) := []
theorem F_89 {p1 : Int32} {M : pMem} {v : Int32} {N : pMem} (h : D_89 p1 M v N) : pFr (l_89) M N :=
  (show pTf (l_89) M (D_89 p1 M) from (tf_gd fun g1 => (tf_call pFr_refl (fun _ _ h => F_86 h) [] rfl fun _ M1 f1 => (tf_call f1 (fun _ _ h => F_56 h) [] rfl fun _ M2 f2 => (tf_gd fun g2 => (tf_putS f2 (fun _ => rfl) fun M3 f3 => (tf_gd fun g3 => (tf_gd fun g4 => (tf_putS f3 (fun _ => rfl) fun M4 f4 => (tf_call f4 (fun _ _ h => F_56 h) [] rfl fun _ M5 f5 => (tf_gd fun g5 => (tf_putS f5 (fun _ => rfl) fun M6 f6 => (tf_call f6 (fun _ _ h => F_56 h) [] rfl fun _ M7 f7 => (tf_gd fun g6 => (tf_putS f7 (fun _ => rfl) fun M8 f8 => (tf_gd fun g7 => (tf_call f8 (fun _ _ h => F_53 h) [] rfl fun _ M9 f9 => (tf_gd fun g8 => (tf_putS f9 (fun _ => rfl) fun M10 f10 => (tf_call f10 (fun _ _ h => F_85 h) [] rfl fun _ M11 f11 => (tf_ret f11))))))))))))))))))))) v N h
/-- TwoCampsModel.scoreOf(I)I -/
def S_90_1 (p1 : Int32) (P1 : Int32 → Int32 → pMem → pT Int32) (x2 : Int32) (x3 : Int32) (M : pMem) : pT Int32 := tIf ((M 188 2) ≤ x3) (tCall (D_54 p1 p1 M) fun v1 M1 => tCall (D_51 (kI 10) M1) fun v2 M2 => tRet ((x2 + (f_43 v1 (kI 5))) + v2) M2) (tGd (pIn x3 24) <| tIf (¬ (M 191 (ix x3)) = (kI 1)) (P1 x2 (x3 + kI 1) M) (tGd (pIn x3 24) <| tIf (¬ (M 189 (ix x3)) = p1) (P1 x2 (x3 + kI 1) M) (tGd (pIn x3 24) <| P1 (x2 + (M 190 (ix x3))) (x3 + kI 1) M)))
def C_90 (p1 : Int32) (P1 : Int32 → Int32 → pMem → pT Int32) : Prop := (∀ (x2 : Int32) (x3 : Int32) M v N, S_90_1 p1 P1 x2 x3 M v N → P1 x2 x3 M v N)
def L_90_1 (p1 : Int32) (x2 : Int32) (x3 : Int32) (M : pMem) : pT Int32 := fun v N => ∀ P : (Int32 → Int32 → pMem → pT Int32), C_90 p1 P → P x2 x3 M v N
def D_90 (p1 : Int32) (M : pMem) : pT Int32 := L_90_1 p1 (kI 0) (kI 0) M
theorem K_90 {X : aX} {F d : Nat} {K : Nat → aK} (hS : pS K) {p1 : Int32} {out : Option Value × aH} (P1 : Int32 → Int32 → pMem → pT Int32) (hC : C_90 p1 P1) : ∀ f, (∀ (x2 : Int32) (x3 : Int32) M, pm X F d 90 f 1 [.iload 3, .aload 0, .getfield 124412008, .if_icmp .ge 6] [.ref 188, .int p1, .int x2, .int x3] [] (pH K M) out → pG eI K out (P1 x2 x3 M)) := by
  intro f
  induction f using Nat.strongRecOn with
  | _ f ih =>
    intro x2 x3 M H
    refine pG_mono (fun v N h => hC x2 x3 M v N h) ?_
    unfold S_90_1
    replace H := pRun (ls' := [.ref 188, .int p1, .int x2, .int x3]) (st' := [.ref 188, .int x3]) 2 rfl H
    replace H := pGetN (v := M 188 2) rfl (by decide) H
    rcases pIfc (n1 := 6) rfl (mcb_90 rfl) (mcb_90 rfl) H with ⟨g1, g0, _, H⟩ | ⟨g1, g0, _, H⟩
    · refine pG_pos (c := (M 188 2) ≤ x3) g1 ?_
      replace H := pRun (ls' := [.ref 188, .int p1, .int x2, .int x3]) (st' := [.int p1, .int p1, .ref 188, .ref 188, .int x2]) 5 rfl H
      obtain ⟨rv, h1, hc, H⟩ := pCalV 54 2 188 (as := [.int p1, .int p1]) (rest := [.ref 188, .int x2]) rfl (by decide) (by decide +kernel) rfl rfl H
      obtain ⟨v1, M1, hD, H⟩ := pUseI (D_54_ok hS hc) H
      refine pG_call (x := v1) (M1 := M1) hD ?_
      replace H := pRun (ls' := [.ref 188, .int p1, .int x2, .int x3]) (st' := [.int (kI 5), .int v1, .ref 188, .int x2]) 1 rfl H
      obtain ⟨rv, h1, hc, H⟩ := pCalV 43 2 188 (as := [.int v1, .int (kI 5)]) (rest := [.int x2]) rfl (by decide) (by decide +kernel) rfl rfl H
      replace H := pUseF (f_43_ok hS hc) H
      replace H := pRun (ls' := [.ref 188, .int p1, .int x2, .int x3]) (st' := [.int (kI 10), .ref 188, .int (x2 + (f_43 v1 (kI 5)))]) 3 rfl H
      obtain ⟨rv, h1, hc, H⟩ := pCalV 51 1 188 (as := [.int (kI 10)]) (rest := [.int (x2 + (f_43 v1 (kI 5)))]) rfl (by decide) (by decide +kernel) rfl rfl H
      obtain ⟨v2, M2, hD, H⟩ := pUseI (D_51_ok hS hc) H
      refine pG_call (x := v2) (M1 := M2) hD ?_
      replace H := pRun (ls' := [.ref 188, .int p1, .int x2, .int x3]) (st' := [.int ((x2 + (f_43 v1 (kI 5))) + v2)]) 1 rfl H
      exact pG_ret (pRetI H)
    · refine pG_neg (c := (M 188 2) ≤ x3) g1 ?_
      replace H := pRun (ls' := [.ref 188, .int p1, .int x2, .int x3]) (st' := [.ref 188]) 1 rfl H
      replace H := pGetR (r := 191) (pRf hS (by decide +kernel)) rfl H
      replace H := pRun (ls' := [.ref 188, .int p1, .int x2, .int x3]) (st' := [.int x3, .ref 191]) 1 rfl H
      obtain ⟨g2, H⟩ := pIld (n := 24) (pLt (show pCa 191 24 = true by decide +kernel)) (pLn hS (show pCa 191 24 = true by decide +kernel)) H
      refine pG_gd g2 ?_
      replace H := pRun (ls' := [.ref 188, .int p1, .int x2, .int x3]) (st' := [.int (kI 1), .int (M 191 (ix x3))]) 1 rfl H
      rcases pIfc (n1 := 5) rfl (mcb_90 rfl) (mcb_90 rfl) H with ⟨g3, g0, _, H⟩ | ⟨g3, g0, _, H⟩
      · refine pG_pos (c := ¬ (M 191 (ix x3)) = (kI 1)) g3 ?_
        replace H := pRun (ls' := [.ref 188, .int p1, .int x2, .int (x3 + kI 1)]) (st' := []) 1 rfl H
        obtain ⟨g0, _, H⟩ := pGo (n1 := 1) rfl (mcb_90 rfl) H
        exact (ih _ (by omega)) _ _  _ H
      · refine pG_neg (c := ¬ (M 191 (ix x3)) = (kI 1)) g3 ?_
        replace H := pRun (ls' := [.ref 188, .int p1, .int x2, .int x3]) (st' := [.ref 188]) 1 rfl H
        replace H := pGetR (r := 189) (pRf hS (by decide +kernel)) rfl H
        replace H := pRun (ls' := [.ref 188, .int p1, .int x2, .int x3]) (st' := [.int x3, .ref 189]) 1 rfl H
        obtain ⟨g4, H⟩ := pIld (n := 24) (pLt (show pCa 189 24 = true by decide +kernel)) (pLn hS (show pCa 189 24 = true by decide +kernel)) H
        refine pG_gd g4 ?_
        replace H := pRun (ls' := [.ref 188, .int p1, .int x2, .int x3]) (st' := [.int p1, .int (M 189 (ix x3))]) 1 rfl H
        rcases pIfc (n1 := 5) rfl (mcb_90 rfl) (mcb_90 rfl) H with ⟨g5, g0, _, H⟩ | ⟨g5, g0, _, H⟩
        · refine pG_pos (c := ¬ (M 189 (ix x3)) = p1) g5 ?_
          replace H := pRun (ls' := [.ref 188, .int p1, .int x2, .int (x3 + kI 1)]) (st' := []) 1 rfl H
          obtain ⟨g0, _, H⟩ := pGo (n1 := 1) rfl (mcb_90 rfl) H
          exact (ih _ (by omega)) _ _  _ H
        · refine pG_neg (c := ¬ (M 189 (ix x3)) = p1) g5 ?_
          replace H := pRun (ls' := [.ref 188, .int p1, .int x2, .int x3]) (st' := [.ref 188, .int x2]) 2 rfl H
          replace H := pGetR (r := 190) (pRf hS (by decide +kernel)) rfl H
          replace H := pRun (ls' := [.ref 188, .int p1, .int x2, .int x3]) (st' := [.int x3, .ref 190, .int x2]) 1 rfl H
          obtain ⟨g6, H⟩ := pIld (n := 24) (pLt (show pCa 190 24 = true by decide +kernel)) (pLn hS (show pCa 190 24 = true by decide +kernel)) H
          refine pG_gd g6 ?_
          replace H := pRun (ls' := [.ref 188, .int p1, .int (x2 + (M 190 (ix x3))), .int x3]) (st' := []) 2 rfl H
          obtain ⟨g0, _, H⟩ := pFall (mcb_90 rfl) H
          replace H := pRun (ls' := [.ref 188, .int p1, .int (x2 + (M 190 (ix x3))), .int (x3 + kI 1)]) (st' := []) 1 rfl H
          obtain ⟨g0, _, H⟩ := pGo (n1 := 1) rfl (mcb_90 rfl) H
          exact (ih _ (by omega)) _ _  _ H
theorem L_90_1_ok {X : aX} {F d : Nat} {K : Nat → aK} (hS : pS K) {p1 : Int32} {out : Option Value × aH} {f : Nat} {x2 : Int32} {x3 : Int32} {M : pMem} (H : pm X F d 90 f 1 [.iload 3, .aload 0, .getfield 124412008, .if_icmp .ge 6] [.ref 188, .int p1, .int x2, .int x3] [] (pH K M) out) : pG eI K out (L_90_1 p1 x2 x3 M) := by
  refine pG_all (C := fun P : (Int32 → Int32 → pMem → pT Int32) => C_90 p1 P) (T := fun P => P x2 x3 M) eI_inj (fun _ _ _ _ _ => True) ?_ (fun P hP => (K_90 hS P hP f) _ _ _ H)
  exact (fun _ _ _ _ _ _ => trivial)
theorem D_90_ok {X : aX} {F d : Nat} {K : Nat → aK} (hS : pS K) {p1 : Int32} {M : pMem} {out : Option Value × aH} (H : aM X F d 90 [.ref 188, .int p1] (pH K M) = some out) : pG eI K out (D_90 p1 M) := by
  obtain ⟨d', g0, _, H⟩ := pEnt (n := 4) (ls := [.ref 188, .int p1, aD, aD]) (mcb_90 rfl) (by decide +kernel) rfl H
  unfold D_90
  replace H := pRun (ls' := [.ref 188, .int p1, .int (kI 0), .int (kI 0)]) (st' := []) 4 rfl H
  obtain ⟨g0, _, H⟩ := pFall (mcb_90 rfl) H
  exact L_90_1_ok hS  H
def l_90 : List (Nat × Nat) := [(188, 1)]
theorem FC_90 {p1 : Int32} : C_90 p1 (fun _ _ M _ N => pFr (l_90) M N) := fun x2 x3 M => show pTf (l_90) M (S_90_1 p1 _ x2 x3 M) from (tf_if (tf_call pFr_refl (fun _ _ h => F_54 h) [] rfl fun _ M1 f1 => (tf_call f1 (fun _ _ h => F_51 h) [0] rfl fun _ M2 f2 => (tf_ret f2))) (tf_gd fun g2 => (tf_if (tf_jump pFr_refl) (tf_gd fun g4 => (tf_if (tf_jump pFr_refl) (tf_gd fun g6 => (tf_jump pFr_refl)))))))
theorem F_90 {p1 : Int32} {M : pMem} {v : Int32} {N : pMem} (h : D_90 p1 M v N) : pFr (l_90) M N :=
  (show pTf (l_90) M (D_90 p1 M) from (tf_jumpL (fun _ _ M _ N => pFr (l_90) M N) (FC_90) rfl pFr_refl)) v N h
/-- TwoCampsModel.plays()V -/
def D_91 (M : pMem) : pT Unit := tCall (D_90 (kI 0) M) fun v1 M1 => tCall (D_90 (kI 1) M1) fun v2 M2 => tIf (v1 ≤ v2) (tIf (v2 ≤ v1) (tPut (aPut M2 188 20 (kI (-1))) fun M3 => tIf ((M3 188 20) = (kI (-1))) (tRet () M3) (tGd (pIn (M3 188 20) 2) <| tGd (pIn (M3 188 20) 2) <| tPut (aPut M3 199 (ix (M3 188 20)) ((M3 199 (ix (M3 188 20))) + (kI 1))) fun M4 => tRet () M4)) (tPut (aPut M2 188 20 (kI 1)) fun M3 => tIf ((M3 188 20) = (kI (-1))) (tRet () M3) (tGd (pIn (M3 188 20) 2) <| tGd (pIn (M3 188 20) 2) <| tPut (aPut M3 199 (ix (M3 188 20)) ((M3 199 (ix (M3 188 20))) + (kI 1))) fun M4 => tRet () M4))) (tPut (aPut M2 188 20 (kI 0)) fun M3 => tIf ((M3 188 20) = (kI (-1))) (tRet () M3) (tGd (pIn (M3 188 20) 2) <| tGd (pIn (M3 188 20) 2) <| tPut (aPut M3 199 (ix (M3 188 20)) ((M3 199 (ix (M3 188 20))) + (kI 1))) fun M4 => tRet () M4))
theorem D_91_ok {X : aX} {F d : Nat} {K : Nat → aK} (hS : pS K) {M : pMem} {out : Option Value × aH} (H : aM X F d 91 [.ref 188] (pH K M) = some out) : pG eU K out (D_91 M) := by
  obtain ⟨d', g0, _, H⟩ := pEnt (n := 3) (ls := [.ref 188, aD, aD]) (mcb_91 rfl) (by decide +kernel) rfl H
  unfold D_91
  replace H := pRun (ls' := [.ref 188, aD, aD]) (st' := [.int (kI 0), .ref 188]) 2 rfl H
  obtain ⟨rv, h1, hc, H⟩ := pCalV 90 1 188 (as := [.int (kI 0)]) (rest := []) rfl (by decide) (by decide +kernel) rfl rfl H
  obtain ⟨v1, M1, hD, H⟩ := pUseI (D_90_ok hS hc) H
  refine pG_call (x := v1) (M1 := M1) hD ?_
  replace H := pRun (ls' := [.ref 188, .int v1, aD]) (st' := [.int (kI 1), .ref 188]) 3 rfl H
  obtain ⟨rv, h1, hc, H⟩ := pCalV 90 1 188 (as := [.int (kI 1)]) (rest := []) rfl (by decide) (by decide +kernel) rfl rfl H
  obtain ⟨v2, M2, hD, H⟩ := pUseI (D_90_ok hS hc) H
  refine pG_call (x := v2) (M1 := M2) hD ?_
  replace H := pRun (ls' := [.ref 188, .int v1, .int v2]) (st' := [.int v2, .int v1, .ref 188]) 4 rfl H
  rcases pIfc (n1 := 2) rfl (mcb_91 rfl) (mcb_91 rfl) H with ⟨g1, g0, _, H⟩ | ⟨g1, g0, _, H⟩
  · refine pG_pos (c := v1 ≤ v2) g1 ?_
    replace H := pRun (ls' := [.ref 188, .int v1, .int v2]) (st' := [.int v1, .int v2, .ref 188]) 2 rfl H
    rcases pIfc (n1 := 4) rfl (mcb_91 rfl) (mcb_91 rfl) H with ⟨g2, g0, _, H⟩ | ⟨g2, g0, _, H⟩
    · refine pG_pos (c := v2 ≤ v1) g2 ?_
      replace H := pRun (ls' := [.ref 188, .int v1, .int v2]) (st' := [.int (kI (-1)), .ref 188]) 1 rfl H
      obtain ⟨g0, _, H⟩ := pFall (mcb_91 rfl) H
      obtain ⟨M3, eM3, H⟩ := pPutN (j := 20) rfl H
      refine pG_put (M2 := M3) eM3 ?_
      replace H := pRun (ls' := [.ref 188, .int v1, .int v2]) (st' := [.ref 188]) 1 rfl H
      replace H := pGetN (v := M3 188 20) rfl (by decide) H
      replace H := pRun (ls' := [.ref 188, .int v1, .int v2]) (st' := [.int (kI (-1)), .int (M3 188 20)]) 1 rfl H
      rcases pIfc (n1 := 7) rfl (mcb_91 rfl) (mcb_91 rfl) H with ⟨g3, g0, _, H⟩ | ⟨g3, g0, _, H⟩
      · refine pG_pos (c := (M3 188 20) = (kI (-1))) g3 ?_
        exact pG_ret (pRetU H)
      · refine pG_neg (c := (M3 188 20) = (kI (-1))) g3 ?_
        replace H := pRun (ls' := [.ref 188, .int v1, .int v2]) (st' := [.ref 188]) 1 rfl H
        replace H := pGetR (r := 199) (pRf hS (by decide +kernel)) rfl H
        replace H := pRun (ls' := [.ref 188, .int v1, .int v2]) (st' := [.ref 188, .ref 199]) 1 rfl H
        replace H := pGetN (v := M3 188 20) rfl (by decide) H
        replace H := pRun (ls' := [.ref 188, .int v1, .int v2]) (st' := [.ref 188, .int (M3 188 20), .ref 199]) 1 rfl H
        replace H := pGetR (r := 199) (pRf hS (by decide +kernel)) rfl H
        replace H := pRun (ls' := [.ref 188, .int v1, .int v2]) (st' := [.ref 188, .ref 199, .int (M3 188 20), .ref 199]) 1 rfl H
        replace H := pGetN (v := M3 188 20) rfl (by decide) H
        obtain ⟨g4, H⟩ := pIld (n := 2) (pLt (show pCa 199 2 = true by decide +kernel)) (pLn hS (show pCa 199 2 = true by decide +kernel)) H
        refine pG_gd g4 ?_
        replace H := pRun (ls' := [.ref 188, .int v1, .int v2]) (st' := [.int ((M3 199 (ix (M3 188 20))) + (kI 1)), .int (M3 188 20), .ref 199]) 2 rfl H
        obtain ⟨g5, M4, eM4, H⟩ := pIst (n := 2) (pLn hS (show pCa 199 2 = true by decide +kernel)) H
        refine pG_gd g5 (pG_put (M2 := M4) eM4 ?_)
        obtain ⟨g0, _, H⟩ := pFall (mcb_91 rfl) H
        exact pG_ret (pRetU H)
    · refine pG_neg (c := v2 ≤ v1) g2 ?_
      replace H := pRun (ls' := [.ref 188, .int v1, .int v2]) (st' := [.int (kI 1), .ref 188]) 1 rfl H
      obtain ⟨g0, _, H⟩ := pGo (n1 := 5) rfl (mcb_91 rfl) H
      obtain ⟨M3, eM3, H⟩ := pPutN (j := 20) rfl H
      refine pG_put (M2 := M3) eM3 ?_
      replace H := pRun (ls' := [.ref 188, .int v1, .int v2]) (st' := [.ref 188]) 1 rfl H
      replace H := pGetN (v := M3 188 20) rfl (by decide) H
      replace H := pRun (ls' := [.ref 188, .int v1, .int v2]) (st' := [.int (kI (-1)), .int (M3 188 20)]) 1 rfl H
      rcases pIfc (n1 := 7) rfl (mcb_91 rfl) (mcb_91 rfl) H with ⟨g3, g0, _, H⟩ | ⟨g3, g0, _, H⟩
      · refine pG_pos (c := (M3 188 20) = (kI (-1))) g3 ?_
        exact pG_ret (pRetU H)
      · refine pG_neg (c := (M3 188 20) = (kI (-1))) g3 ?_
        replace H := pRun (ls' := [.ref 188, .int v1, .int v2]) (st' := [.ref 188]) 1 rfl H
        replace H := pGetR (r := 199) (pRf hS (by decide +kernel)) rfl H
        replace H := pRun (ls' := [.ref 188, .int v1, .int v2]) (st' := [.ref 188, .ref 199]) 1 rfl H
        replace H := pGetN (v := M3 188 20) rfl (by decide) H
        replace H := pRun (ls' := [.ref 188, .int v1, .int v2]) (st' := [.ref 188, .int (M3 188 20), .ref 199]) 1 rfl H
        replace H := pGetR (r := 199) (pRf hS (by decide +kernel)) rfl H
        replace H := pRun (ls' := [.ref 188, .int v1, .int v2]) (st' := [.ref 188, .ref 199, .int (M3 188 20), .ref 199]) 1 rfl H
        replace H := pGetN (v := M3 188 20) rfl (by decide) H
        obtain ⟨g4, H⟩ := pIld (n := 2) (pLt (show pCa 199 2 = true by decide +kernel)) (pLn hS (show pCa 199 2 = true by decide +kernel)) H
        refine pG_gd g4 ?_
        replace H := pRun (ls' := [.ref 188, .int v1, .int v2]) (st' := [.int ((M3 199 (ix (M3 188 20))) + (kI 1)), .int (M3 188 20), .ref 199]) 2 rfl H
        obtain ⟨g5, M4, eM4, H⟩ := pIst (n := 2) (pLn hS (show pCa 199 2 = true by decide +kernel)) H
        refine pG_gd g5 (pG_put (M2 := M4) eM4 ?_)
        obtain ⟨g0, _, H⟩ := pFall (mcb_91 rfl) H
        exact pG_ret (pRetU H)
  · refine pG_neg (c := v1 ≤ v2) g1 ?_
    replace H := pRun (ls' := [.ref 188, .int v1, .int v2]) (st' := [.int (kI 0), .ref 188]) 1 rfl H
    obtain ⟨g0, _, H⟩ := pGo (n1 := 5) rfl (mcb_91 rfl) H
    obtain ⟨M3, eM3, H⟩ := pPutN (j := 20) rfl H
    refine pG_put (M2 := M3) eM3 ?_
    replace H := pRun (ls' := [.ref 188, .int v1, .int v2]) (st' := [.ref 188]) 1 rfl H
    replace H := pGetN (v := M3 188 20) rfl (by decide) H
    replace H := pRun (ls' := [.ref 188, .int v1, .int v2]) (st' := [.int (kI (-1)), .int (M3 188 20)]) 1 rfl H
    rcases pIfc (n1 := 7) rfl (mcb_91 rfl) (mcb_91 rfl) H with ⟨g2, g0, _, H⟩ | ⟨g2, g0, _, H⟩
    · refine pG_pos (c := (M3 188 20) = (kI (-1))) g2 ?_
      exact pG_ret (pRetU H)
    · refine pG_neg (c := (M3 188 20) = (kI (-1))) g2 ?_
      replace H := pRun (ls' := [.ref 188, .int v1, .int v2]) (st' := [.ref 188]) 1 rfl H
      replace H := pGetR (r := 199) (pRf hS (by decide +kernel)) rfl H
      replace H := pRun (ls' := [.ref 188, .int v1, .int v2]) (st' := [.ref 188, .ref 199]) 1 rfl H
      replace H := pGetN (v := M3 188 20) rfl (by decide) H
      replace H := pRun (ls' := [.ref 188, .int v1, .int v2]) (st' := [.ref 188, .int (M3 188 20), .ref 199]) 1 rfl H
      replace H := pGetR (r := 199) (pRf hS (by decide +kernel)) rfl H
      replace H := pRun (ls' := [.ref 188, .int v1, .int v2]) (st' := [.ref 188, .ref 199, .int (M3 188 20), .ref 199]) 1 rfl H
      replace H := pGetN (v := M3 188 20) rfl (by decide) H
      obtain ⟨g3, H⟩ := pIld (n := 2) (pLt (show pCa 199 2 = true by decide +kernel)) (pLn hS (show pCa 199 2 = true by decide +kernel)) H
      refine pG_gd g3 ?_
      replace H := pRun (ls' := [.ref 188, .int v1, .int v2]) (st' := [.int ((M3 199 (ix (M3 188 20))) + (kI 1)), .int (M3 188 20), .ref 199]) 2 rfl H
      obtain ⟨g4, M4, eM4, H⟩ := pIst (n := 2) (pLn hS (show pCa 199 2 = true by decide +kernel)) H
      refine pG_gd g4 (pG_put (M2 := M4) eM4 ?_)
      obtain ⟨g0, _, H⟩ := pFall (mcb_91 rfl) H
      exact pG_ret (pRetU H)
def l_91 : List (Nat × Nat) := [(188, 1), (188, 20), (199, 999)]
theorem F_91 {M : pMem} {v : Unit} {N : pMem} (h : D_91 M v N) : pFr (l_91) M N :=
  (show pTf (l_91) M (D_91 M) from (tf_call pFr_refl (fun _ _ h => F_90 h) [0] rfl fun _ M1 f1 => (tf_call f1 (fun _ _ h => F_90 h) [0] rfl fun _ M2 f2 => (tf_if (tf_if (tf_put f2 1 rfl fun M3 f3 => (tf_if (tf_ret f3) (tf_gd fun g4 => (tf_gd fun g5 => (tf_putA f3 2 rfl fun M4 f4 => (tf_ret f4)))))) (tf_put f2 1 rfl fun M3 f3 => (tf_if (tf_ret f3) (tf_gd fun g4 => (tf_gd fun g5 => (tf_putA f3 2 rfl fun M4 f4 => (tf_ret f4))))))) (tf_put f2 1 rfl fun M3 f3 => (tf_if (tf_ret f3) (tf_gd fun g3 => (tf_gd fun g4 => (tf_putA f3 2 rfl fun M4 f4 => (tf_ret f4)))))))))) v N h
/-- TwoCampsModel.likes()V -/
def S_92_1 (P1 : Int32 → pMem → pT Unit) (P3 : Int32 → Int32 → pMem → pT Unit) (P11 : Int32 → pMem → pT Unit) (P13 : Int32 → Int32 → pMem → pT Unit) (x1 : Int32) (M : pMem) : pT Unit := tIf ((M 188 2) ≤ x1) (P11 (kI 0) M) (P3 x1 (kI 0) M)
def S_92_3 (P1 : Int32 → pMem → pT Unit) (P3 : Int32 → Int32 → pMem → pT Unit) (P11 : Int32 → pMem → pT Unit) (P13 : Int32 → Int32 → pMem → pT Unit) (x1 : Int32) (x2 : Int32) (M : pMem) : pT Unit := tIf ((M 188 2) ≤ x2) (P1 (x1 + kI 1) M) (tIf (x1 = x2) (P3 x1 (x2 + kI 1) M) (tGd (pIn x1 24) <| tIf (¬ (M 191 (ix x1)) = (kI 1)) (P3 x1 (x2 + kI 1) M) (tGd (pIn x2 24) <| tIf (¬ (M 191 (ix x2)) = (kI 1)) (P3 x1 (x2 + kI 1) M) (tCall (D_87 (kI 0) x1 x2 M) fun v1 M1 => tGd (pIn (((kI 24) * x1) + x2) 576) <| tPut (aPut M1 218 (ix (((kI 24) * x1) + x2)) v1) fun M2 => P3 x1 (x2 + kI 1) M2))))
def S_92_11 (P1 : Int32 → pMem → pT Unit) (P3 : Int32 → Int32 → pMem → pT Unit) (P11 : Int32 → pMem → pT Unit) (P13 : Int32 → Int32 → pMem → pT Unit) (x1 : Int32) (M : pMem) : pT Unit := tIf ((M 188 2) ≤ x1) (tRet () M) (P13 x1 (kI 0) M)
def S_92_13 (P1 : Int32 → pMem → pT Unit) (P3 : Int32 → Int32 → pMem → pT Unit) (P11 : Int32 → pMem → pT Unit) (P13 : Int32 → Int32 → pMem → pT Unit) (x1 : Int32) (x2 : Int32) (M : pMem) : pT Unit := tIf ((M 188 2) ≤ x2) (P11 (x1 + kI 1) M) (tIf (x1 = x2) (P13 x1 (x2 + kI 1) M) (tGd (pIn x1 24) <| tIf ((M 191 (ix x1)) = 0) (P13 x1 (x2 + kI 1) M) (tGd (pIn x2 24) <| tIf (¬ (M 191 (ix x2)) = 0) (tGd (pIn (((kI 24) * x1) + x2) 576) <| tGd (pIn (((kI 24) * x1) + x2) 576) <| tIf ((lg_cmp ((Int32.toInt64 (M 194 (ix (((kI 24) * x1) + x2)))) + (Int32.toInt64 (M 218 (ix (((kI 24) * x1) + x2))))) (Int64.ofInt 50)) ≤ 0) (tIf (0 ≤ (lg_cmp ((Int32.toInt64 (M 194 (ix (((kI 24) * x1) + x2)))) + (Int32.toInt64 (M 218 (ix (((kI 24) * x1) + x2))))) (Int64.ofInt (-50)))) (tGd (pIn (((kI 24) * x1) + x2) 576) <| tPut (aPut M 194 (ix (((kI 24) * x1) + x2)) (Int64.toInt32 ((Int32.toInt64 (M 194 (ix (((kI 24) * x1) + x2)))) + (Int32.toInt64 (M 218 (ix (((kI 24) * x1) + x2))))))) fun M1 => P13 x1 (x2 + kI 1) M1) (tGd (pIn (((kI 24) * x1) + x2) 576) <| tPut (aPut M 194 (ix (((kI 24) * x1) + x2)) (kI (-50))) fun M1 => P13 x1 (x2 + kI 1) M1)) (tGd (pIn (((kI 24) * x1) + x2) 576) <| tPut (aPut M 194 (ix (((kI 24) * x1) + x2)) (kI 50)) fun M1 => P13 x1 (x2 + kI 1) M1)) (P13 x1 (x2 + kI 1) M))))
def C_92 (P1 : Int32 → pMem → pT Unit) (P3 : Int32 → Int32 → pMem → pT Unit) (P11 : Int32 → pMem → pT Unit) (P13 : Int32 → Int32 → pMem → pT Unit) : Prop := (∀ (x1 : Int32) M v N, S_92_1 P1 P3 P11 P13 x1 M v N → P1 x1 M v N) ∧ (∀ (x1 : Int32) (x2 : Int32) M v N, S_92_3 P1 P3 P11 P13 x1 x2 M v N → P3 x1 x2 M v N) ∧ (∀ (x1 : Int32) M v N, S_92_11 P1 P3 P11 P13 x1 M v N → P11 x1 M v N) ∧ (∀ (x1 : Int32) (x2 : Int32) M v N, S_92_13 P1 P3 P11 P13 x1 x2 M v N → P13 x1 x2 M v N)
def L_92_1 (x1 : Int32) (M : pMem) : pT Unit := fun v N => ∀ P : (Int32 → pMem → pT Unit) × (Int32 → Int32 → pMem → pT Unit) × (Int32 → pMem → pT Unit) × (Int32 → Int32 → pMem → pT Unit), C_92 P.1 P.2.1 P.2.2.1 P.2.2.2 → P.1 x1 M v N
def L_92_3 (x1 : Int32) (x2 : Int32) (M : pMem) : pT Unit := fun v N => ∀ P : (Int32 → pMem → pT Unit) × (Int32 → Int32 → pMem → pT Unit) × (Int32 → pMem → pT Unit) × (Int32 → Int32 → pMem → pT Unit), C_92 P.1 P.2.1 P.2.2.1 P.2.2.2 → P.2.1 x1 x2 M v N
def L_92_11 (x1 : Int32) (M : pMem) : pT Unit := fun v N => ∀ P : (Int32 → pMem → pT Unit) × (Int32 → Int32 → pMem → pT Unit) × (Int32 → pMem → pT Unit) × (Int32 → Int32 → pMem → pT Unit), C_92 P.1 P.2.1 P.2.2.1 P.2.2.2 → P.2.2.1 x1 M v N
def L_92_13 (x1 : Int32) (x2 : Int32) (M : pMem) : pT Unit := fun v N => ∀ P : (Int32 → pMem → pT Unit) × (Int32 → Int32 → pMem → pT Unit) × (Int32 → pMem → pT Unit) × (Int32 → Int32 → pMem → pT Unit), C_92 P.1 P.2.1 P.2.2.1 P.2.2.2 → P.2.2.2 x1 x2 M v N
def D_92 (M : pMem) : pT Unit := L_92_1 (kI 0) M
theorem K_92 {X : aX} {F d : Nat} {K : Nat → aK} (hS : pS K) {out : Option Value × aH} (P1 : Int32 → pMem → pT Unit) (P3 : Int32 → Int32 → pMem → pT Unit) (P11 : Int32 → pMem → pT Unit) (P13 : Int32 → Int32 → pMem → pT Unit) (hC : C_92 P1 P3 P11 P13) : ∀ f, (∀ (x1 : Int32) (u2 : Value) (u3 : Value) (u4 : Value) M, pm X F d 92 f 1 [.iload 1, .aload 0, .getfield 124412008, .if_icmp .ge 10] [.ref 188, .int x1, u2, u3, u4] [] (pH K M) out → pG eU K out (P1 x1 M)) ∧ (∀ (x1 : Int32) (x2 : Int32) (u3 : Value) (u4 : Value) M, pm X F d 92 f 3 [.iload 2, .aload 0, .getfield 124412008, .if_icmp .ge 9] [.ref 188, .int x1, .int x2, u3, u4] [] (pH K M) out → pG eU K out (P3 x1 x2 M)) ∧ (∀ (x1 : Int32) (u2 : Value) (u3 : Value) (u4 : Value) M, pm X F d 92 f 11 [.iload 1, .aload 0, .getfield 124412008, .if_icmp .ge 26] [.ref 188, .int x1, u2, u3, u4] [] (pH K M) out → pG eU K out (P11 x1 M)) ∧ (∀ (x1 : Int32) (x2 : Int32) (u3 : Value) (u4 : Value) M, pm X F d 92 f 13 [.iload 2, .aload 0, .getfield 124412008, .if_icmp .ge 25] [.ref 188, .int x1, .int x2, u3, u4] [] (pH K M) out → pG eU K out (P13 x1 x2 M)) := by
  intro f
  induction f using Nat.strongRecOn with
  | _ f ih =>
    refine ⟨?_, ?_, ?_, ?_⟩
    · intro x1 u2 u3 u4 M H
      refine pG_mono (fun v N h => hC.1 x1 M v N h) ?_
      unfold S_92_1
      replace H := pRun (ls' := [.ref 188, .int x1, u2, u3, u4]) (st' := [.ref 188, .int x1]) 2 rfl H
      replace H := pGetN (v := M 188 2) rfl (by decide) H
      rcases pIfc (n1 := 10) rfl (mcb_92 rfl) (mcb_92 rfl) H with ⟨g1, g0, _, H⟩ | ⟨g1, g0, _, H⟩
      · refine pG_pos (c := (M 188 2) ≤ x1) g1 ?_
        replace H := pRun (ls' := [.ref 188, .int (kI 0), u2, u3, u4]) (st' := []) 2 rfl H
        obtain ⟨g0, _, H⟩ := pFall (mcb_92 rfl) H
        exact (ih _ (by omega)).2.2.1 _ _ _ _  _ H
      · refine pG_neg (c := (M 188 2) ≤ x1) g1 ?_
        replace H := pRun (ls' := [.ref 188, .int x1, .int (kI 0), u3, u4]) (st' := []) 2 rfl H
        obtain ⟨g0, _, H⟩ := pFall (mcb_92 rfl) H
        exact (ih _ (by omega)).2.1 _ _ _ _  _ H
    · intro x1 x2 u3 u4 M H
      refine pG_mono (fun v N h => hC.2.1 x1 x2 M v N h) ?_
      unfold S_92_3
      replace H := pRun (ls' := [.ref 188, .int x1, .int x2, u3, u4]) (st' := [.ref 188, .int x2]) 2 rfl H
      replace H := pGetN (v := M 188 2) rfl (by decide) H
      rcases pIfc (n1 := 9) rfl (mcb_92 rfl) (mcb_92 rfl) H with ⟨g1, g0, _, H⟩ | ⟨g1, g0, _, H⟩
      · refine pG_pos (c := (M 188 2) ≤ x2) g1 ?_
        replace H := pRun (ls' := [.ref 188, .int (x1 + kI 1), .int x2, u3, u4]) (st' := []) 1 rfl H
        obtain ⟨g0, _, H⟩ := pGo (n1 := 1) rfl (mcb_92 rfl) H
        exact (ih _ (by omega)).1 _ _ _ _  _ H
      · refine pG_neg (c := (M 188 2) ≤ x2) g1 ?_
        replace H := pRun (ls' := [.ref 188, .int x1, .int x2, u3, u4]) (st' := [.int x2, .int x1]) 2 rfl H
        rcases pIfc (n1 := 8) rfl (mcb_92 rfl) (mcb_92 rfl) H with ⟨g2, g0, _, H⟩ | ⟨g2, g0, _, H⟩
        · refine pG_pos (c := x1 = x2) g2 ?_
          replace H := pRun (ls' := [.ref 188, .int x1, .int (x2 + kI 1), u3, u4]) (st' := []) 1 rfl H
          obtain ⟨g0, _, H⟩ := pGo (n1 := 3) rfl (mcb_92 rfl) H
          exact (ih _ (by omega)).2.1 _ _ _ _  _ H
        · refine pG_neg (c := x1 = x2) g2 ?_
          replace H := pRun (ls' := [.ref 188, .int x1, .int x2, u3, u4]) (st' := [.ref 188]) 1 rfl H
          replace H := pGetR (r := 191) (pRf hS (by decide +kernel)) rfl H
          replace H := pRun (ls' := [.ref 188, .int x1, .int x2, u3, u4]) (st' := [.int x1, .ref 191]) 1 rfl H
          obtain ⟨g3, H⟩ := pIld (n := 24) (pLt (show pCa 191 24 = true by decide +kernel)) (pLn hS (show pCa 191 24 = true by decide +kernel)) H
          refine pG_gd g3 ?_
          replace H := pRun (ls' := [.ref 188, .int x1, .int x2, u3, u4]) (st' := [.int (kI 1), .int (M 191 (ix x1))]) 1 rfl H
          rcases pIfc (n1 := 8) rfl (mcb_92 rfl) (mcb_92 rfl) H with ⟨g4, g0, _, H⟩ | ⟨g4, g0, _, H⟩
          · refine pG_pos (c := ¬ (M 191 (ix x1)) = (kI 1)) g4 ?_
            replace H := pRun (ls' := [.ref 188, .int x1, .int (x2 + kI 1), u3, u4]) (st' := []) 1 rfl H
            obtain ⟨g0, _, H⟩ := pGo (n1 := 3) rfl (mcb_92 rfl) H
            exact (ih _ (by omega)).2.1 _ _ _ _  _ H
          · refine pG_neg (c := ¬ (M 191 (ix x1)) = (kI 1)) g4 ?_
            replace H := pRun (ls' := [.ref 188, .int x1, .int x2, u3, u4]) (st' := [.ref 188]) 1 rfl H
            replace H := pGetR (r := 191) (pRf hS (by decide +kernel)) rfl H
            replace H := pRun (ls' := [.ref 188, .int x1, .int x2, u3, u4]) (st' := [.int x2, .ref 191]) 1 rfl H
            obtain ⟨g5, H⟩ := pIld (n := 24) (pLt (show pCa 191 24 = true by decide +kernel)) (pLn hS (show pCa 191 24 = true by decide +kernel)) H
            refine pG_gd g5 ?_
            replace H := pRun (ls' := [.ref 188, .int x1, .int x2, u3, u4]) (st' := [.int (kI 1), .int (M 191 (ix x2))]) 1 rfl H
            rcases pIfc (n1 := 8) rfl (mcb_92 rfl) (mcb_92 rfl) H with ⟨g6, g0, _, H⟩ | ⟨g6, g0, _, H⟩
            · refine pG_pos (c := ¬ (M 191 (ix x2)) = (kI 1)) g6 ?_
              replace H := pRun (ls' := [.ref 188, .int x1, .int (x2 + kI 1), u3, u4]) (st' := []) 1 rfl H
              obtain ⟨g0, _, H⟩ := pGo (n1 := 3) rfl (mcb_92 rfl) H
              exact (ih _ (by omega)).2.1 _ _ _ _  _ H
            · refine pG_neg (c := ¬ (M 191 (ix x2)) = (kI 1)) g6 ?_
              replace H := pRun (ls' := [.ref 188, .int x1, .int x2, u3, u4]) (st' := [.ref 188]) 1 rfl H
              replace H := pGetR (r := 218) (pRf hS (by decide +kernel)) rfl H
              replace H := pRun (ls' := [.ref 188, .int x1, .int x2, u3, u4]) (st' := [.int x2, .int x1, .int (kI 0), .ref 188, .int (((kI 24) * x1) + x2), .ref 218]) 9 rfl H
              obtain ⟨rv, h1, hc, H⟩ := pCalV 87 3 188 (as := [.int (kI 0), .int x1, .int x2]) (rest := [.int (((kI 24) * x1) + x2), .ref 218]) rfl (by decide) (by decide +kernel) rfl rfl H
              obtain ⟨v1, M1, hD, H⟩ := pUseI (D_87_ok hS hc) H
              refine pG_call (x := v1) (M1 := M1) hD ?_
              obtain ⟨g7, M2, eM2, H⟩ := pIst (n := 576) (pLn hS (show pCa 218 576 = true by decide +kernel)) H
              refine pG_gd g7 (pG_put (M2 := M2) eM2 ?_)
              obtain ⟨g0, _, H⟩ := pFall (mcb_92 rfl) H
              replace H := pRun (ls' := [.ref 188, .int x1, .int (x2 + kI 1), u3, u4]) (st' := []) 1 rfl H
              obtain ⟨g0, _, H⟩ := pGo (n1 := 3) rfl (mcb_92 rfl) H
              exact (ih _ (by omega)).2.1 _ _ _ _  _ H
    · intro x1 u2 u3 u4 M H
      refine pG_mono (fun v N h => hC.2.2.1 x1 M v N h) ?_
      unfold S_92_11
      replace H := pRun (ls' := [.ref 188, .int x1, u2, u3, u4]) (st' := [.ref 188, .int x1]) 2 rfl H
      replace H := pGetN (v := M 188 2) rfl (by decide) H
      rcases pIfc (n1 := 26) rfl (mcb_92 rfl) (mcb_92 rfl) H with ⟨g1, g0, _, H⟩ | ⟨g1, g0, _, H⟩
      · refine pG_pos (c := (M 188 2) ≤ x1) g1 ?_
        exact pG_ret (pRetU H)
      · refine pG_neg (c := (M 188 2) ≤ x1) g1 ?_
        replace H := pRun (ls' := [.ref 188, .int x1, .int (kI 0), u3, u4]) (st' := []) 2 rfl H
        obtain ⟨g0, _, H⟩ := pFall (mcb_92 rfl) H
        exact (ih _ (by omega)).2.2.2 _ _ _ _  _ H
    · intro x1 x2 u3 u4 M H
      refine pG_mono (fun v N h => hC.2.2.2 x1 x2 M v N h) ?_
      unfold S_92_13
      replace H := pRun (ls' := [.ref 188, .int x1, .int x2, u3, u4]) (st' := [.ref 188, .int x2]) 2 rfl H
      replace H := pGetN (v := M 188 2) rfl (by decide) H
      rcases pIfc (n1 := 25) rfl (mcb_92 rfl) (mcb_92 rfl) H with ⟨g1, g0, _, H⟩ | ⟨g1, g0, _, H⟩
      · refine pG_pos (c := (M 188 2) ≤ x2) g1 ?_
        replace H := pRun (ls' := [.ref 188, .int (x1 + kI 1), .int x2, u3, u4]) (st' := []) 1 rfl H
        obtain ⟨g0, _, H⟩ := pGo (n1 := 11) rfl (mcb_92 rfl) H
        exact (ih _ (by omega)).2.2.1 _ _ _ _  _ H
      · refine pG_neg (c := (M 188 2) ≤ x2) g1 ?_
        replace H := pRun (ls' := [.ref 188, .int x1, .int x2, u3, u4]) (st' := [.int x2, .int x1]) 2 rfl H
        rcases pIfc (n1 := 24) rfl (mcb_92 rfl) (mcb_92 rfl) H with ⟨g2, g0, _, H⟩ | ⟨g2, g0, _, H⟩
        · refine pG_pos (c := x1 = x2) g2 ?_
          replace H := pRun (ls' := [.ref 188, .int x1, .int (x2 + kI 1), u3, u4]) (st' := []) 1 rfl H
          obtain ⟨g0, _, H⟩ := pGo (n1 := 13) rfl (mcb_92 rfl) H
          exact (ih _ (by omega)).2.2.2 _ _ _ _  _ H
        · refine pG_neg (c := x1 = x2) g2 ?_
          replace H := pRun (ls' := [.ref 188, .int x1, .int x2, u3, u4]) (st' := [.ref 188]) 1 rfl H
          replace H := pGetR (r := 191) (pRf hS (by decide +kernel)) rfl H
          replace H := pRun (ls' := [.ref 188, .int x1, .int x2, u3, u4]) (st' := [.int x1, .ref 191]) 1 rfl H
          obtain ⟨g3, H⟩ := pIld (n := 24) (pLt (show pCa 191 24 = true by decide +kernel)) (pLn hS (show pCa 191 24 = true by decide +kernel)) H
          refine pG_gd g3 ?_
          rcases pIf0 (n1 := 24) rfl (mcb_92 rfl) (mcb_92 rfl) H with ⟨g4, g0, _, H⟩ | ⟨g4, g0, _, H⟩
          · refine pG_pos (c := (M 191 (ix x1)) = 0) g4 ?_
            replace H := pRun (ls' := [.ref 188, .int x1, .int (x2 + kI 1), u3, u4]) (st' := []) 1 rfl H
            obtain ⟨g0, _, H⟩ := pGo (n1 := 13) rfl (mcb_92 rfl) H
            exact (ih _ (by omega)).2.2.2 _ _ _ _  _ H
          · refine pG_neg (c := (M 191 (ix x1)) = 0) g4 ?_
            replace H := pRun (ls' := [.ref 188, .int x1, .int x2, u3, u4]) (st' := [.ref 188]) 1 rfl H
            replace H := pGetR (r := 191) (pRf hS (by decide +kernel)) rfl H
            replace H := pRun (ls' := [.ref 188, .int x1, .int x2, u3, u4]) (st' := [.int x2, .ref 191]) 1 rfl H
            obtain ⟨g5, H⟩ := pIld (n := 24) (pLt (show pCa 191 24 = true by decide +kernel)) (pLn hS (show pCa 191 24 = true by decide +kernel)) H
            refine pG_gd g5 ?_
            rcases pIf0 (n1 := 18) rfl (mcb_92 rfl) (mcb_92 rfl) H with ⟨g6, g0, _, H⟩ | ⟨g6, g0, _, H⟩
            · refine pG_pos (c := ¬ (M 191 (ix x2)) = 0) g6 ?_
              replace H := pRun (ls' := [.ref 188, .int x1, .int x2, u3, u4]) (st' := [.ref 188]) 1 rfl H
              replace H := pGetR (r := 194) (pRf hS (by decide +kernel)) rfl H
              replace H := pRun (ls' := [.ref 188, .int x1, .int x2, u3, u4]) (st' := [.int (((kI 24) * x1) + x2), .ref 194]) 5 rfl H
              obtain ⟨g7, H⟩ := pIld (n := 576) (pLt (show pCa 194 576 = true by decide +kernel)) (pLn hS (show pCa 194 576 = true by decide +kernel)) H
              refine pG_gd g7 ?_
              replace H := pRun (ls' := [.ref 188, .int x1, .int x2, u3, u4]) (st' := [.ref 188, .long (Int32.toInt64 (M 194 (ix (((kI 24) * x1) + x2))))]) 2 rfl H
              replace H := pGetR (r := 218) (pRf hS (by decide +kernel)) rfl H
              replace H := pRun (ls' := [.ref 188, .int x1, .int x2, u3, u4]) (st' := [.int (((kI 24) * x1) + x2), .ref 218, .long (Int32.toInt64 (M 194 (ix (((kI 24) * x1) + x2))))]) 5 rfl H
              obtain ⟨g8, H⟩ := pIld (n := 576) (pLt (show pCa 218 576 = true by decide +kernel)) (pLn hS (show pCa 218 576 = true by decide +kernel)) H
              refine pG_gd g8 ?_
              replace H := pRun (ls' := [.ref 188, .int x1, .int x2, .long ((Int32.toInt64 (M 194 (ix (((kI 24) * x1) + x2)))) + (Int32.toInt64 (M 218 (ix (((kI 24) * x1) + x2))))), aD]) (st' := [.ref 188]) 4 rfl H
              replace H := pGetR (r := 194) (pRf hS (by decide +kernel)) rfl H
              replace H := pRun (ls' := [.ref 188, .int x1, .int x2, .long ((Int32.toInt64 (M 194 (ix (((kI 24) * x1) + x2)))) + (Int32.toInt64 (M 218 (ix (((kI 24) * x1) + x2))))), aD]) (st' := [.long ((Int32.toInt64 (M 194 (ix (((kI 24) * x1) + x2)))) + (Int32.toInt64 (M 218 (ix (((kI 24) * x1) + x2))))), .int (((kI 24) * x1) + x2), .ref 194]) 6 rfl H
              replace H := pLd2 (x := 50) (by decide) H
              replace H := pRun (ls' := [.ref 188, .int x1, .int x2, .long ((Int32.toInt64 (M 194 (ix (((kI 24) * x1) + x2)))) + (Int32.toInt64 (M 218 (ix (((kI 24) * x1) + x2))))), aD]) (st' := [.int (lg_cmp ((Int32.toInt64 (M 194 (ix (((kI 24) * x1) + x2)))) + (Int32.toInt64 (M 218 (ix (((kI 24) * x1) + x2))))) (Int64.ofInt 50)), .int (((kI 24) * x1) + x2), .ref 194]) 1 rfl H
              rcases pIf0 (n1 := 20) rfl (mcb_92 rfl) (mcb_92 rfl) H with ⟨g9, g0, _, H⟩ | ⟨g9, g0, _, H⟩
              · refine pG_pos (c := (lg_cmp ((Int32.toInt64 (M 194 (ix (((kI 24) * x1) + x2)))) + (Int32.toInt64 (M 218 (ix (((kI 24) * x1) + x2))))) (Int64.ofInt 50)) ≤ 0) g9 ?_
                replace H := pRun (ls' := [.ref 188, .int x1, .int x2, .long ((Int32.toInt64 (M 194 (ix (((kI 24) * x1) + x2)))) + (Int32.toInt64 (M 218 (ix (((kI 24) * x1) + x2))))), aD]) (st' := [.long ((Int32.toInt64 (M 194 (ix (((kI 24) * x1) + x2)))) + (Int32.toInt64 (M 218 (ix (((kI 24) * x1) + x2))))), .int (((kI 24) * x1) + x2), .ref 194]) 1 rfl H
                replace H := pLd2 (x := (-50)) (by decide) H
                replace H := pRun (ls' := [.ref 188, .int x1, .int x2, .long ((Int32.toInt64 (M 194 (ix (((kI 24) * x1) + x2)))) + (Int32.toInt64 (M 218 (ix (((kI 24) * x1) + x2))))), aD]) (st' := [.int (lg_cmp ((Int32.toInt64 (M 194 (ix (((kI 24) * x1) + x2)))) + (Int32.toInt64 (M 218 (ix (((kI 24) * x1) + x2))))) (Int64.ofInt (-50))), .int (((kI 24) * x1) + x2), .ref 194]) 1 rfl H
                rcases pIf0 (n1 := 22) rfl (mcb_92 rfl) (mcb_92 rfl) H with ⟨g10, g0, _, H⟩ | ⟨g10, g0, _, H⟩
                · refine pG_pos (c := 0 ≤ (lg_cmp ((Int32.toInt64 (M 194 (ix (((kI 24) * x1) + x2)))) + (Int32.toInt64 (M 218 (ix (((kI 24) * x1) + x2))))) (Int64.ofInt (-50)))) g10 ?_
                  replace H := pRun (ls' := [.ref 188, .int x1, .int x2, .long ((Int32.toInt64 (M 194 (ix (((kI 24) * x1) + x2)))) + (Int32.toInt64 (M 218 (ix (((kI 24) * x1) + x2))))), aD]) (st' := [.int (Int64.toInt32 ((Int32.toInt64 (M 194 (ix (((kI 24) * x1) + x2)))) + (Int32.toInt64 (M 218 (ix (((kI 24) * x1) + x2)))))), .int (((kI 24) * x1) + x2), .ref 194]) 2 rfl H
                  obtain ⟨g0, _, H⟩ := pFall (mcb_92 rfl) H
                  obtain ⟨g11, M1, eM1, H⟩ := pIst (n := 576) (pLn hS (show pCa 194 576 = true by decide +kernel)) H
                  refine pG_gd g11 (pG_put (M2 := M1) eM1 ?_)
                  obtain ⟨g0, _, H⟩ := pFall (mcb_92 rfl) H
                  replace H := pRun (ls' := [.ref 188, .int x1, .int (x2 + kI 1), .long ((Int32.toInt64 (M 194 (ix (((kI 24) * x1) + x2)))) + (Int32.toInt64 (M 218 (ix (((kI 24) * x1) + x2))))), aD]) (st' := []) 1 rfl H
                  obtain ⟨g0, _, H⟩ := pGo (n1 := 13) rfl (mcb_92 rfl) H
                  exact (ih _ (by omega)).2.2.2 _ _ _ _  _ H
                · refine pG_neg (c := 0 ≤ (lg_cmp ((Int32.toInt64 (M 194 (ix (((kI 24) * x1) + x2)))) + (Int32.toInt64 (M 218 (ix (((kI 24) * x1) + x2))))) (Int64.ofInt (-50)))) g10 ?_
                  replace H := pRun (ls' := [.ref 188, .int x1, .int x2, .long ((Int32.toInt64 (M 194 (ix (((kI 24) * x1) + x2)))) + (Int32.toInt64 (M 218 (ix (((kI 24) * x1) + x2))))), aD]) (st' := [.int (kI (-50)), .int (((kI 24) * x1) + x2), .ref 194]) 1 rfl H
                  obtain ⟨g0, _, H⟩ := pGo (n1 := 23) rfl (mcb_92 rfl) H
                  obtain ⟨g11, M1, eM1, H⟩ := pIst (n := 576) (pLn hS (show pCa 194 576 = true by decide +kernel)) H
                  refine pG_gd g11 (pG_put (M2 := M1) eM1 ?_)
                  obtain ⟨g0, _, H⟩ := pFall (mcb_92 rfl) H
                  replace H := pRun (ls' := [.ref 188, .int x1, .int (x2 + kI 1), .long ((Int32.toInt64 (M 194 (ix (((kI 24) * x1) + x2)))) + (Int32.toInt64 (M 218 (ix (((kI 24) * x1) + x2))))), aD]) (st' := []) 1 rfl H
                  obtain ⟨g0, _, H⟩ := pGo (n1 := 13) rfl (mcb_92 rfl) H
                  exact (ih _ (by omega)).2.2.2 _ _ _ _  _ H
              · refine pG_neg (c := (lg_cmp ((Int32.toInt64 (M 194 (ix (((kI 24) * x1) + x2)))) + (Int32.toInt64 (M 218 (ix (((kI 24) * x1) + x2))))) (Int64.ofInt 50)) ≤ 0) g9 ?_
                replace H := pRun (ls' := [.ref 188, .int x1, .int x2, .long ((Int32.toInt64 (M 194 (ix (((kI 24) * x1) + x2)))) + (Int32.toInt64 (M 218 (ix (((kI 24) * x1) + x2))))), aD]) (st' := [.int (kI 50), .int (((kI 24) * x1) + x2), .ref 194]) 1 rfl H
                obtain ⟨g0, _, H⟩ := pGo (n1 := 23) rfl (mcb_92 rfl) H
                obtain ⟨g10, M1, eM1, H⟩ := pIst (n := 576) (pLn hS (show pCa 194 576 = true by decide +kernel)) H
                refine pG_gd g10 (pG_put (M2 := M1) eM1 ?_)
                obtain ⟨g0, _, H⟩ := pFall (mcb_92 rfl) H
                replace H := pRun (ls' := [.ref 188, .int x1, .int (x2 + kI 1), .long ((Int32.toInt64 (M 194 (ix (((kI 24) * x1) + x2)))) + (Int32.toInt64 (M 218 (ix (((kI 24) * x1) + x2))))), aD]) (st' := []) 1 rfl H
                obtain ⟨g0, _, H⟩ := pGo (n1 := 13) rfl (mcb_92 rfl) H
                exact (ih _ (by omega)).2.2.2 _ _ _ _  _ H
            · refine pG_neg (c := ¬ (M 191 (ix x2)) = 0) g6 ?_
              obtain ⟨g0, _, H⟩ := pGo (n1 := 24) rfl (mcb_92 rfl) H
              replace H := pRun (ls' := [.ref 188, .int x1, .int (x2 + kI 1), u3, u4]) (st' := []) 1 rfl H
              obtain ⟨g0, _, H⟩ := pGo (n1 := 13) rfl (mcb_92 rfl) H
              exact (ih _ (by omega)).2.2.2 _ _ _ _  _ H
theorem L_92_1_ok {X : aX} {F d : Nat} {K : Nat → aK} (hS : pS K) {out : Option Value × aH} {f : Nat} {x1 : Int32} {u2 : Value} {u3 : Value} {u4 : Value} {M : pMem} (H : pm X F d 92 f 1 [.iload 1, .aload 0, .getfield 124412008, .if_icmp .ge 10] [.ref 188, .int x1, u2, u3, u4] [] (pH K M) out) : pG eU K out (L_92_1 x1 M) := by
  refine pG_all (C := fun P : (Int32 → pMem → pT Unit) × (Int32 → Int32 → pMem → pT Unit) × (Int32 → pMem → pT Unit) × (Int32 → Int32 → pMem → pT Unit) => C_92 P.1 P.2.1 P.2.2.1 P.2.2.2) (T := fun P => P.1 x1 M) eU_inj ((fun _ _ _ _ => True), (fun _ _ _ _ _ => True), (fun _ _ _ _ => True), (fun _ _ _ _ _ => True)) ?_ (fun P hP => (K_92 hS P.1 P.2.1 P.2.2.1 P.2.2.2 hP f).1 _ _ _ _ _ H)
  exact ⟨(fun _ _ _ _ _ => trivial), (fun _ _ _ _ _ _ => trivial), (fun _ _ _ _ _ => trivial), (fun _ _ _ _ _ _ => trivial)⟩
theorem L_92_3_ok {X : aX} {F d : Nat} {K : Nat → aK} (hS : pS K) {out : Option Value × aH} {f : Nat} {x1 : Int32} {x2 : Int32} {u3 : Value} {u4 : Value} {M : pMem} (H : pm X F d 92 f 3 [.iload 2, .aload 0, .getfield 124412008, .if_icmp .ge 9] [.ref 188, .int x1, .int x2, u3, u4] [] (pH K M) out) : pG eU K out (L_92_3 x1 x2 M) := by
  refine pG_all (C := fun P : (Int32 → pMem → pT Unit) × (Int32 → Int32 → pMem → pT Unit) × (Int32 → pMem → pT Unit) × (Int32 → Int32 → pMem → pT Unit) => C_92 P.1 P.2.1 P.2.2.1 P.2.2.2) (T := fun P => P.2.1 x1 x2 M) eU_inj ((fun _ _ _ _ => True), (fun _ _ _ _ _ => True), (fun _ _ _ _ => True), (fun _ _ _ _ _ => True)) ?_ (fun P hP => (K_92 hS P.1 P.2.1 P.2.2.1 P.2.2.2 hP f).2.1 _ _ _ _ _ H)
  exact ⟨(fun _ _ _ _ _ => trivial), (fun _ _ _ _ _ _ => trivial), (fun _ _ _ _ _ => trivial), (fun _ _ _ _ _ _ => trivial)⟩
theorem L_92_11_ok {X : aX} {F d : Nat} {K : Nat → aK} (hS : pS K) {out : Option Value × aH} {f : Nat} {x1 : Int32} {u2 : Value} {u3 : Value} {u4 : Value} {M : pMem} (H : pm X F d 92 f 11 [.iload 1, .aload 0, .getfield 124412008, .if_icmp .ge 26] [.ref 188, .int x1, u2, u3, u4] [] (pH K M) out) : pG eU K out (L_92_11 x1 M) := by
  refine pG_all (C := fun P : (Int32 → pMem → pT Unit) × (Int32 → Int32 → pMem → pT Unit) × (Int32 → pMem → pT Unit) × (Int32 → Int32 → pMem → pT Unit) => C_92 P.1 P.2.1 P.2.2.1 P.2.2.2) (T := fun P => P.2.2.1 x1 M) eU_inj ((fun _ _ _ _ => True), (fun _ _ _ _ _ => True), (fun _ _ _ _ => True), (fun _ _ _ _ _ => True)) ?_ (fun P hP => (K_92 hS P.1 P.2.1 P.2.2.1 P.2.2.2 hP f).2.2.1 _ _ _ _ _ H)
  exact ⟨(fun _ _ _ _ _ => trivial), (fun _ _ _ _ _ _ => trivial), (fun _ _ _ _ _ => trivial), (fun _ _ _ _ _ _ => trivial)⟩
theorem L_92_13_ok {X : aX} {F d : Nat} {K : Nat → aK} (hS : pS K) {out : Option Value × aH} {f : Nat} {x1 : Int32} {x2 : Int32} {u3 : Value} {u4 : Value} {M : pMem} (H : pm X F d 92 f 13 [.iload 2, .aload 0, .getfield 124412008, .if_icmp .ge 25] [.ref 188, .int x1, .int x2, u3, u4] [] (pH K M) out) : pG eU K out (L_92_13 x1 x2 M) := by
  refine pG_all (C := fun P : (Int32 → pMem → pT Unit) × (Int32 → Int32 → pMem → pT Unit) × (Int32 → pMem → pT Unit) × (Int32 → Int32 → pMem → pT Unit) => C_92 P.1 P.2.1 P.2.2.1 P.2.2.2) (T := fun P => P.2.2.2 x1 x2 M) eU_inj ((fun _ _ _ _ => True), (fun _ _ _ _ _ => True), (fun _ _ _ _ => True), (fun _ _ _ _ _ => True)) ?_ (fun P hP => (K_92 hS P.1 P.2.1 P.2.2.1 P.2.2.2 hP f).2.2.2 _ _ _ _ _ H)
  exact ⟨(fun _ _ _ _ _ => trivial), (fun _ _ _ _ _ _ => trivial), (fun _ _ _ _ _ => trivial), (fun _ _ _ _ _ _ => trivial)⟩
theorem D_92_ok {X : aX} {F d : Nat} {K : Nat → aK} (hS : pS K) {M : pMem} {out : Option Value × aH} (H : aM X F d 92 [.ref 188] (pH K M) = some out) : pG eU K out (D_92 M) := by
  obtain ⟨d', g0, _, H⟩ := pEnt (n := 5) (ls := [.ref 188, aD, aD, aD, aD]) (mcb_92 rfl) (by decide +kernel) rfl H
  unfold D_92
  replace H := pRun (ls' := [.ref 188, .int (kI 0), aD, aD, aD]) (st' := []) 2 rfl H
  obtain ⟨g0, _, H⟩ := pFall (mcb_92 rfl) H
  exact L_92_1_ok hS  H
def l_92 : List (Nat × Nat) := [(194, 999)]
theorem FC_92 : C_92 (fun _ M _ N => pFr (l_92) M N) (fun _ _ M _ N => pFr (l_92) M N) (fun _ M _ N => pFr (l_92) M N) (fun _ _ M _ N => pFr (l_92) M N) := ⟨fun x1 M => show pTf (l_92) M (S_92_1 _ _ _ _ x1 M) from (tf_if (tf_jump pFr_refl) (tf_jump pFr_refl)), fun x1 x2 M => show pTf (l_92) M (S_92_3 _ _ _ _ x1 x2 M) from (tf_if (tf_jump pFr_refl) (tf_if (tf_jump pFr_refl) (tf_gd fun g3 => (tf_if (tf_jump pFr_refl) (tf_gd fun g5 => (tf_if (tf_jump pFr_refl) (tf_call pFr_refl (fun _ _ h => F_87 h) [] rfl fun _ M1 f1 => (tf_gd fun g7 => (tf_putS f1 (fun _ => rfl) fun M2 f2 => (tf_jump f2)))))))))), fun x1 M => show pTf (l_92) M (S_92_11 _ _ _ _ x1 M) from (tf_if (tf_ret pFr_refl) (tf_jump pFr_refl)), fun x1 x2 M => show pTf (l_92) M (S_92_13 _ _ _ _ x1 x2 M) from (tf_if (tf_jump pFr_refl) (tf_if (tf_jump pFr_refl) (tf_gd fun g3 => (tf_if (tf_jump pFr_refl) (tf_gd fun g5 => (tf_if (tf_gd fun g7 => (tf_gd fun g8 => (tf_if (tf_if (tf_gd fun g11 => (tf_putA pFr_refl 0 rfl fun M1 f1 => (tf_jump f1))) (tf_gd fun g11 => (tf_putA pFr_refl 0 rfl fun M1 f1 => (tf_jump f1)))) (tf_gd fun g10 => (tf_putA pFr_refl 0 rfl fun M1 f1 => (tf_jump f1)))))) (tf_jump pFr_refl)))))))⟩
theorem F_92 {M : pMem} {v : Unit} {N : pMem} (h : D_92 M v N) : pFr (l_92) M N :=
  (show pTf (l_92) M (D_92 M) from (tf_jumpL (fun _ M _ N => pFr (l_92) M N, fun _ _ M _ N => pFr (l_92) M N, fun _ M _ N => pFr (l_92) M N, fun _ _ M _ N => pFr (l_92) M N) (FC_92) rfl pFr_refl)) v N h
/-- TwoCampsModel.fights()V -/
def S_93_1 (P1 : Int32 → pMem → pT Unit) (x1 : Int32) (M : pMem) : pT Unit := tIf ((kI 2) ≤ x1) (tRet () M) (tCall (D_88 (kI 1) x1 M) fun v1 M1 => tIf (0 < v1) (tIf (v1 ≤ (kI 999)) (tPut (aPut M1 188 54 ((M1 188 54) ||| ((kI 1) <<< (x1 &&& 31)))) fun M2 => tGd (pIn x1 2) <| tGd (pIn x1 2) <| tPut (aPut M2 197 (ix x1) ((M2 197 (ix x1)) + (kI 1))) fun M3 => tGd (pIn x1 2) <| tGd (pIn x1 2) <| tPut (aPut M3 198 (ix x1) ((M3 198 (ix x1)) + v1)) fun M4 => tPut (aPut M4 188 55 ((M4 188 55) + v1)) fun M5 => P1 (x1 + kI 1) M5) (tPut (aPut M1 188 54 ((M1 188 54) ||| ((kI 1) <<< (x1 &&& 31)))) fun M2 => tGd (pIn x1 2) <| tGd (pIn x1 2) <| tPut (aPut M2 197 (ix x1) ((M2 197 (ix x1)) + (kI 1))) fun M3 => tGd (pIn x1 2) <| tGd (pIn x1 2) <| tPut (aPut M3 198 (ix x1) ((M3 198 (ix x1)) + (kI 999))) fun M4 => tPut (aPut M4 188 55 ((M4 188 55) + (kI 999))) fun M5 => P1 (x1 + kI 1) M5)) (P1 (x1 + kI 1) M1))
def C_93 (P1 : Int32 → pMem → pT Unit) : Prop := (∀ (x1 : Int32) M v N, S_93_1 P1 x1 M v N → P1 x1 M v N)
def L_93_1 (x1 : Int32) (M : pMem) : pT Unit := fun v N => ∀ P : (Int32 → pMem → pT Unit), C_93 P → P x1 M v N
def D_93 (M : pMem) : pT Unit := tPut (aPut M 188 54 (kI 0)) fun M1 => tPut (aPut M1 188 55 (kI 0)) fun M2 => L_93_1 (kI 0) M2
theorem K_93 {X : aX} {F d : Nat} {K : Nat → aK} (hS : pS K) {out : Option Value × aH} (P1 : Int32 → pMem → pT Unit) (hC : C_93 P1) : ∀ f, (∀ (x1 : Int32) (u2 : Value) (u3 : Value) M, pm X F d 93 f 1 [.iload 1, .bipush 2, .if_icmp .ge 9] [.ref 188, .int x1, u2, u3] [] (pH K M) out → pG eU K out (P1 x1 M)) := by
  intro f
  induction f using Nat.strongRecOn with
  | _ f ih =>
    intro x1 u2 u3 M H
    refine pG_mono (fun v N h => hC x1 M v N h) ?_
    unfold S_93_1
    replace H := pRun (ls' := [.ref 188, .int x1, u2, u3]) (st' := [.int (kI 2), .int x1]) 2 rfl H
    rcases pIfc (n1 := 9) rfl (mcb_93 rfl) (mcb_93 rfl) H with ⟨g1, g0, _, H⟩ | ⟨g1, g0, _, H⟩
    · refine pG_pos (c := (kI 2) ≤ x1) g1 ?_
      exact pG_ret (pRetU H)
    · refine pG_neg (c := (kI 2) ≤ x1) g1 ?_
      replace H := pRun (ls' := [.ref 188, .int x1, u2, u3]) (st' := [.int x1, .int (kI 1), .ref 188]) 3 rfl H
      obtain ⟨rv, h1, hc, H⟩ := pCalV 88 2 188 (as := [.int (kI 1), .int x1]) (rest := []) rfl (by decide) (by decide +kernel) rfl rfl H
      obtain ⟨v1, M1, hD, H⟩ := pUseI (D_88_ok hS hc) H
      refine pG_call (x := v1) (M1 := M1) hD ?_
      replace H := pRun (ls' := [.ref 188, .int x1, .int v1, u3]) (st' := [.int v1]) 2 rfl H
      rcases pIf0 (n1 := 4) rfl (mcb_93 rfl) (mcb_93 rfl) H with ⟨g2, g0, _, H⟩ | ⟨g2, g0, _, H⟩
      · refine pG_pos (c := 0 < v1) g2 ?_
        replace H := pRun (ls' := [.ref 188, .int x1, .int v1, u3]) (st' := [.int (kI 999), .int v1]) 2 rfl H
        rcases pIfc (n1 := 6) rfl (mcb_93 rfl) (mcb_93 rfl) H with ⟨g3, g0, _, H⟩ | ⟨g3, g0, _, H⟩
        · refine pG_pos (c := v1 ≤ (kI 999)) g3 ?_
          replace H := pRun (ls' := [.ref 188, .int x1, .int v1, u3]) (st' := [.int v1]) 1 rfl H
          obtain ⟨g0, _, H⟩ := pFall (mcb_93 rfl) H
          replace H := pRun (ls' := [.ref 188, .int x1, .int v1, .int v1]) (st' := [.ref 188, .ref 188]) 3 rfl H
          replace H := pGetN (v := M1 188 54) rfl (by decide) H
          replace H := pRun (ls' := [.ref 188, .int x1, .int v1, .int v1]) (st' := [.int ((M1 188 54) ||| ((kI 1) <<< (x1 &&& 31))), .ref 188]) 4 rfl H
          obtain ⟨M2, eM2, H⟩ := pPutN (j := 54) rfl H
          refine pG_put (M2 := M2) eM2 ?_
          replace H := pRun (ls' := [.ref 188, .int x1, .int v1, .int v1]) (st' := [.ref 188]) 1 rfl H
          replace H := pGetR (r := 197) (pRf hS (by decide +kernel)) rfl H
          replace H := pRun (ls' := [.ref 188, .int x1, .int v1, .int v1]) (st' := [.ref 188, .int x1, .ref 197]) 2 rfl H
          replace H := pGetR (r := 197) (pRf hS (by decide +kernel)) rfl H
          replace H := pRun (ls' := [.ref 188, .int x1, .int v1, .int v1]) (st' := [.int x1, .ref 197, .int x1, .ref 197]) 1 rfl H
          obtain ⟨g4, H⟩ := pIld (n := 2) (pLt (show pCa 197 2 = true by decide +kernel)) (pLn hS (show pCa 197 2 = true by decide +kernel)) H
          refine pG_gd g4 ?_
          replace H := pRun (ls' := [.ref 188, .int x1, .int v1, .int v1]) (st' := [.int ((M2 197 (ix x1)) + (kI 1)), .int x1, .ref 197]) 2 rfl H
          obtain ⟨g5, M3, eM3, H⟩ := pIst (n := 2) (pLn hS (show pCa 197 2 = true by decide +kernel)) H
          refine pG_gd g5 (pG_put (M2 := M3) eM3 ?_)
          replace H := pRun (ls' := [.ref 188, .int x1, .int v1, .int v1]) (st' := [.ref 188]) 1 rfl H
          replace H := pGetR (r := 198) (pRf hS (by decide +kernel)) rfl H
          replace H := pRun (ls' := [.ref 188, .int x1, .int v1, .int v1]) (st' := [.ref 188, .int x1, .ref 198]) 2 rfl H
          replace H := pGetR (r := 198) (pRf hS (by decide +kernel)) rfl H
          replace H := pRun (ls' := [.ref 188, .int x1, .int v1, .int v1]) (st' := [.int x1, .ref 198, .int x1, .ref 198]) 1 rfl H
          obtain ⟨g6, H⟩ := pIld (n := 2) (pLt (show pCa 198 2 = true by decide +kernel)) (pLn hS (show pCa 198 2 = true by decide +kernel)) H
          refine pG_gd g6 ?_
          replace H := pRun (ls' := [.ref 188, .int x1, .int v1, .int v1]) (st' := [.int ((M3 198 (ix x1)) + v1), .int x1, .ref 198]) 2 rfl H
          obtain ⟨g7, M4, eM4, H⟩ := pIst (n := 2) (pLn hS (show pCa 198 2 = true by decide +kernel)) H
          refine pG_gd g7 (pG_put (M2 := M4) eM4 ?_)
          replace H := pRun (ls' := [.ref 188, .int x1, .int v1, .int v1]) (st' := [.ref 188, .ref 188]) 2 rfl H
          replace H := pGetN (v := M4 188 55) rfl (by decide) H
          replace H := pRun (ls' := [.ref 188, .int x1, .int v1, .int v1]) (st' := [.int ((M4 188 55) + v1), .ref 188]) 2 rfl H
          obtain ⟨M5, eM5, H⟩ := pPutN (j := 55) rfl H
          refine pG_put (M2 := M5) eM5 ?_
          obtain ⟨g0, _, H⟩ := pFall (mcb_93 rfl) H
          replace H := pRun (ls' := [.ref 188, .int (x1 + kI 1), .int v1, .int v1]) (st' := []) 1 rfl H
          obtain ⟨g0, _, H⟩ := pGo (n1 := 1) rfl (mcb_93 rfl) H
          exact (ih _ (by omega)) _ _ _  _ H
        · refine pG_neg (c := v1 ≤ (kI 999)) g3 ?_
          replace H := pRun (ls' := [.ref 188, .int x1, .int v1, u3]) (st' := [.int (kI 999)]) 1 rfl H
          obtain ⟨g0, _, H⟩ := pGo (n1 := 7) rfl (mcb_93 rfl) H
          replace H := pRun (ls' := [.ref 188, .int x1, .int v1, .int (kI 999)]) (st' := [.ref 188, .ref 188]) 3 rfl H
          replace H := pGetN (v := M1 188 54) rfl (by decide) H
          replace H := pRun (ls' := [.ref 188, .int x1, .int v1, .int (kI 999)]) (st' := [.int ((M1 188 54) ||| ((kI 1) <<< (x1 &&& 31))), .ref 188]) 4 rfl H
          obtain ⟨M2, eM2, H⟩ := pPutN (j := 54) rfl H
          refine pG_put (M2 := M2) eM2 ?_
          replace H := pRun (ls' := [.ref 188, .int x1, .int v1, .int (kI 999)]) (st' := [.ref 188]) 1 rfl H
          replace H := pGetR (r := 197) (pRf hS (by decide +kernel)) rfl H
          replace H := pRun (ls' := [.ref 188, .int x1, .int v1, .int (kI 999)]) (st' := [.ref 188, .int x1, .ref 197]) 2 rfl H
          replace H := pGetR (r := 197) (pRf hS (by decide +kernel)) rfl H
          replace H := pRun (ls' := [.ref 188, .int x1, .int v1, .int (kI 999)]) (st' := [.int x1, .ref 197, .int x1, .ref 197]) 1 rfl H
          obtain ⟨g4, H⟩ := pIld (n := 2) (pLt (show pCa 197 2 = true by decide +kernel)) (pLn hS (show pCa 197 2 = true by decide +kernel)) H
          refine pG_gd g4 ?_
          replace H := pRun (ls' := [.ref 188, .int x1, .int v1, .int (kI 999)]) (st' := [.int ((M2 197 (ix x1)) + (kI 1)), .int x1, .ref 197]) 2 rfl H
          obtain ⟨g5, M3, eM3, H⟩ := pIst (n := 2) (pLn hS (show pCa 197 2 = true by decide +kernel)) H
          refine pG_gd g5 (pG_put (M2 := M3) eM3 ?_)
          replace H := pRun (ls' := [.ref 188, .int x1, .int v1, .int (kI 999)]) (st' := [.ref 188]) 1 rfl H
          replace H := pGetR (r := 198) (pRf hS (by decide +kernel)) rfl H
          replace H := pRun (ls' := [.ref 188, .int x1, .int v1, .int (kI 999)]) (st' := [.ref 188, .int x1, .ref 198]) 2 rfl H
          replace H := pGetR (r := 198) (pRf hS (by decide +kernel)) rfl H
          replace H := pRun (ls' := [.ref 188, .int x1, .int v1, .int (kI 999)]) (st' := [.int x1, .ref 198, .int x1, .ref 198]) 1 rfl H
          obtain ⟨g6, H⟩ := pIld (n := 2) (pLt (show pCa 198 2 = true by decide +kernel)) (pLn hS (show pCa 198 2 = true by decide +kernel)) H
          refine pG_gd g6 ?_
          replace H := pRun (ls' := [.ref 188, .int x1, .int v1, .int (kI 999)]) (st' := [.int ((M3 198 (ix x1)) + (kI 999)), .int x1, .ref 198]) 2 rfl H
          obtain ⟨g7, M4, eM4, H⟩ := pIst (n := 2) (pLn hS (show pCa 198 2 = true by decide +kernel)) H
          refine pG_gd g7 (pG_put (M2 := M4) eM4 ?_)
          replace H := pRun (ls' := [.ref 188, .int x1, .int v1, .int (kI 999)]) (st' := [.ref 188, .ref 188]) 2 rfl H
          replace H := pGetN (v := M4 188 55) rfl (by decide) H
          replace H := pRun (ls' := [.ref 188, .int x1, .int v1, .int (kI 999)]) (st' := [.int ((M4 188 55) + (kI 999)), .ref 188]) 2 rfl H
          obtain ⟨M5, eM5, H⟩ := pPutN (j := 55) rfl H
          refine pG_put (M2 := M5) eM5 ?_
          obtain ⟨g0, _, H⟩ := pFall (mcb_93 rfl) H
          replace H := pRun (ls' := [.ref 188, .int (x1 + kI 1), .int v1, .int (kI 999)]) (st' := []) 1 rfl H
          obtain ⟨g0, _, H⟩ := pGo (n1 := 1) rfl (mcb_93 rfl) H
          exact (ih _ (by omega)) _ _ _  _ H
      · refine pG_neg (c := 0 < v1) g2 ?_
        obtain ⟨g0, _, H⟩ := pGo (n1 := 8) rfl (mcb_93 rfl) H
        replace H := pRun (ls' := [.ref 188, .int (x1 + kI 1), .int v1, u3]) (st' := []) 1 rfl H
        obtain ⟨g0, _, H⟩ := pGo (n1 := 1) rfl (mcb_93 rfl) H
        exact (ih _ (by omega)) _ _ _  _ H
theorem L_93_1_ok {X : aX} {F d : Nat} {K : Nat → aK} (hS : pS K) {out : Option Value × aH} {f : Nat} {x1 : Int32} {u2 : Value} {u3 : Value} {M : pMem} (H : pm X F d 93 f 1 [.iload 1, .bipush 2, .if_icmp .ge 9] [.ref 188, .int x1, u2, u3] [] (pH K M) out) : pG eU K out (L_93_1 x1 M) := by
  refine pG_all (C := fun P : (Int32 → pMem → pT Unit) => C_93 P) (T := fun P => P x1 M) eU_inj (fun _ _ _ _ => True) ?_ (fun P hP => (K_93 hS P hP f) _ _ _ _ H)
  exact (fun _ _ _ _ _ => trivial)
theorem D_93_ok {X : aX} {F d : Nat} {K : Nat → aK} (hS : pS K) {M : pMem} {out : Option Value × aH} (H : aM X F d 93 [.ref 188] (pH K M) = some out) : pG eU K out (D_93 M) := by
  obtain ⟨d', g0, _, H⟩ := pEnt (n := 4) (ls := [.ref 188, aD, aD, aD]) (mcb_93 rfl) (by decide +kernel) rfl H
  unfold D_93
  replace H := pRun (ls' := [.ref 188, aD, aD, aD]) (st' := [.int (kI 0), .ref 188]) 2 rfl H
  obtain ⟨M1, eM1, H⟩ := pPutN (j := 54) rfl H
  refine pG_put (M2 := M1) eM1 ?_
  replace H := pRun (ls' := [.ref 188, aD, aD, aD]) (st' := [.int (kI 0), .ref 188]) 2 rfl H
  obtain ⟨M2, eM2, H⟩ := pPutN (j := 55) rfl H
  refine pG_put (M2 := M2) eM2 ?_
  replace H := pRun (ls' := [.ref 188, .int (kI 0), aD, aD]) (st' := []) 2 rfl H
  obtain ⟨g0, _, H⟩ := pFall (mcb_93 rfl) H
  exact L_93_1_ok hS  H
def l_93 : List (Nat × Nat) := [(188, 54), (188, 55), (197, 999), (198, 999)]
theorem FC_93 : C_93 (fun _ M _ N => pFr (l_93) M N) := fun x1 M => show pTf (l_93) M (S_93_1 _ x1 M) from (tf_if (tf_ret pFr_refl) (tf_call pFr_refl (fun _ _ h => F_88 h) [] rfl fun _ M1 f1 => (tf_if (tf_if (tf_put f1 0 rfl fun M2 f2 => (tf_gd fun g4 => (tf_gd fun g5 => (tf_putA f2 2 rfl fun M3 f3 => (tf_gd fun g6 => (tf_gd fun g7 => (tf_putA f3 3 rfl fun M4 f4 => (tf_put f4 1 rfl fun M5 f5 => (tf_jump f5))))))))) (tf_put f1 0 rfl fun M2 f2 => (tf_gd fun g4 => (tf_gd fun g5 => (tf_putA f2 2 rfl fun M3 f3 => (tf_gd fun g6 => (tf_gd fun g7 => (tf_putA f3 3 rfl fun M4 f4 => (tf_put f4 1 rfl fun M5 f5 => (tf_jump f5)))))))))) (tf_jump f1))))
theorem F_93 {M : pMem} {v : Unit} {N : pMem} (h : D_93 M v N) : pFr (l_93) M N :=
  (show pTf (l_93) M (D_93 M) from (tf_put pFr_refl 0 rfl fun M1 f1 => (tf_put f1 1 rfl fun M2 f2 => (tf_jumpL (fun _ M _ N => pFr (l_93) M N) (FC_93) rfl f2)))) v N h
/-- TwoCampsModel.goHome()V -/
def S_94_1 (P1 : Int32 → pMem → pT Unit) (P8 : Int32 → pMem → pT Unit) (x1 : Int32) (M : pMem) : pT Unit := tIf ((M 188 2) ≤ x1) (P8 (kI 0) M) (tGd (pIn x1 24) <| tIf (¬ (M 191 (ix x1)) = (kI 1)) (tGd (pIn x1 24) <| tPut (aPut M 219 (ix x1) (kI 0)) fun M1 => P1 (x1 + kI 1) M1) (tCall (D_89 x1 M) fun v1 M1 => tIf (v1 ≤ 0) (tGd (pIn x1 24) <| tPut (aPut M1 219 (ix x1) (kI 0)) fun M2 => P1 (x1 + kI 1) M2) (tGd (pIn x1 24) <| tPut (aPut M1 219 (ix x1) (kI 1)) fun M2 => P1 (x1 + kI 1) M2)))
def S_94_8 (P1 : Int32 → pMem → pT Unit) (P8 : Int32 → pMem → pT Unit) (x1 : Int32) (M : pMem) : pT Unit := tIf ((M 188 2) ≤ x1) (tRet () M) (tGd (pIn x1 24) <| tIf (¬ (M 219 (ix x1)) = 0) (tGd (pIn x1 24) <| tPut (aPut M 191 (ix x1) (kI 0)) fun M1 => tPut (aPut M1 188 57 ((M1 188 57) + (kI 1))) fun M2 => P8 (x1 + kI 1) M2) (P8 (x1 + kI 1) M))
def C_94 (P1 : Int32 → pMem → pT Unit) (P8 : Int32 → pMem → pT Unit) : Prop := (∀ (x1 : Int32) M v N, S_94_1 P1 P8 x1 M v N → P1 x1 M v N) ∧ (∀ (x1 : Int32) M v N, S_94_8 P1 P8 x1 M v N → P8 x1 M v N)
def L_94_1 (x1 : Int32) (M : pMem) : pT Unit := fun v N => ∀ P : (Int32 → pMem → pT Unit) × (Int32 → pMem → pT Unit), C_94 P.1 P.2 → P.1 x1 M v N
def L_94_8 (x1 : Int32) (M : pMem) : pT Unit := fun v N => ∀ P : (Int32 → pMem → pT Unit) × (Int32 → pMem → pT Unit), C_94 P.1 P.2 → P.2 x1 M v N
def D_94 (M : pMem) : pT Unit := tPut (aPut M 188 57 (kI 0)) fun M1 => L_94_1 (kI 0) M1
theorem K_94 {X : aX} {F d : Nat} {K : Nat → aK} (hS : pS K) {out : Option Value × aH} (P1 : Int32 → pMem → pT Unit) (P8 : Int32 → pMem → pT Unit) (hC : C_94 P1 P8) : ∀ f, (∀ (x1 : Int32) M, pm X F d 94 f 1 [.iload 1, .aload 0, .getfield 124412008, .if_icmp .ge 7] [.ref 188, .int x1] [] (pH K M) out → pG eU K out (P1 x1 M)) ∧ (∀ (x1 : Int32) M, pm X F d 94 f 8 [.iload 1, .aload 0, .getfield 124412008, .if_icmp .ge 13] [.ref 188, .int x1] [] (pH K M) out → pG eU K out (P8 x1 M)) := by
  intro f
  induction f using Nat.strongRecOn with
  | _ f ih =>
    refine ⟨?_, ?_⟩
    · intro x1 M H
      refine pG_mono (fun v N h => hC.1 x1 M v N h) ?_
      unfold S_94_1
      replace H := pRun (ls' := [.ref 188, .int x1]) (st' := [.ref 188, .int x1]) 2 rfl H
      replace H := pGetN (v := M 188 2) rfl (by decide) H
      rcases pIfc (n1 := 7) rfl (mcb_94 rfl) (mcb_94 rfl) H with ⟨g1, g0, _, H⟩ | ⟨g1, g0, _, H⟩
      · refine pG_pos (c := (M 188 2) ≤ x1) g1 ?_
        replace H := pRun (ls' := [.ref 188, .int (kI 0)]) (st' := []) 2 rfl H
        obtain ⟨g0, _, H⟩ := pFall (mcb_94 rfl) H
        exact (ih _ (by omega)).2 _  _ H
      · refine pG_neg (c := (M 188 2) ≤ x1) g1 ?_
        replace H := pRun (ls' := [.ref 188, .int x1]) (st' := [.ref 188]) 1 rfl H
        replace H := pGetR (r := 219) (pRf hS (by decide +kernel)) rfl H
        replace H := pRun (ls' := [.ref 188, .int x1]) (st' := [.ref 188, .int x1, .ref 219]) 2 rfl H
        replace H := pGetR (r := 191) (pRf hS (by decide +kernel)) rfl H
        replace H := pRun (ls' := [.ref 188, .int x1]) (st' := [.int x1, .ref 191, .int x1, .ref 219]) 1 rfl H
        obtain ⟨g2, H⟩ := pIld (n := 24) (pLt (show pCa 191 24 = true by decide +kernel)) (pLn hS (show pCa 191 24 = true by decide +kernel)) H
        refine pG_gd g2 ?_
        replace H := pRun (ls' := [.ref 188, .int x1]) (st' := [.int (kI 1), .int (M 191 (ix x1)), .int x1, .ref 219]) 1 rfl H
        rcases pIfc (n1 := 5) rfl (mcb_94 rfl) (mcb_94 rfl) H with ⟨g3, g0, _, H⟩ | ⟨g3, g0, _, H⟩
        · refine pG_pos (c := ¬ (M 191 (ix x1)) = (kI 1)) g3 ?_
          replace H := pRun (ls' := [.ref 188, .int x1]) (st' := [.int (kI 0), .int x1, .ref 219]) 1 rfl H
          obtain ⟨g0, _, H⟩ := pFall (mcb_94 rfl) H
          obtain ⟨g4, M1, eM1, H⟩ := pBst (n := 24) (pLn hS (show pCa 219 24 = true by decide +kernel)) H
          refine pG_gd g4 (pG_put (M2 := M1) eM1 ?_)
          replace H := pRun (ls' := [.ref 188, .int (x1 + kI 1)]) (st' := []) 1 rfl H
          obtain ⟨g0, _, H⟩ := pGo (n1 := 1) rfl (mcb_94 rfl) H
          exact (ih _ (by omega)).1 _  _ H
        · refine pG_neg (c := ¬ (M 191 (ix x1)) = (kI 1)) g3 ?_
          replace H := pRun (ls' := [.ref 188, .int x1]) (st' := [.int x1, .ref 188, .int x1, .ref 219]) 2 rfl H
          obtain ⟨rv, h1, hc, H⟩ := pCalV 89 1 188 (as := [.int x1]) (rest := [.int x1, .ref 219]) rfl (by decide) (by decide +kernel) rfl rfl H
          obtain ⟨v1, M1, hD, H⟩ := pUseI (D_89_ok hS hc) H
          refine pG_call (x := v1) (M1 := M1) hD ?_
          rcases pIf0 (n1 := 5) rfl (mcb_94 rfl) (mcb_94 rfl) H with ⟨g4, g0, _, H⟩ | ⟨g4, g0, _, H⟩
          · refine pG_pos (c := v1 ≤ 0) g4 ?_
            replace H := pRun (ls' := [.ref 188, .int x1]) (st' := [.int (kI 0), .int x1, .ref 219]) 1 rfl H
            obtain ⟨g0, _, H⟩ := pFall (mcb_94 rfl) H
            obtain ⟨g5, M2, eM2, H⟩ := pBst (n := 24) (pLn hS (show pCa 219 24 = true by decide +kernel)) H
            refine pG_gd g5 (pG_put (M2 := M2) eM2 ?_)
            replace H := pRun (ls' := [.ref 188, .int (x1 + kI 1)]) (st' := []) 1 rfl H
            obtain ⟨g0, _, H⟩ := pGo (n1 := 1) rfl (mcb_94 rfl) H
            exact (ih _ (by omega)).1 _  _ H
          · refine pG_neg (c := v1 ≤ 0) g4 ?_
            replace H := pRun (ls' := [.ref 188, .int x1]) (st' := [.int (kI 1), .int x1, .ref 219]) 1 rfl H
            obtain ⟨g0, _, H⟩ := pGo (n1 := 6) rfl (mcb_94 rfl) H
            obtain ⟨g5, M2, eM2, H⟩ := pBst (n := 24) (pLn hS (show pCa 219 24 = true by decide +kernel)) H
            refine pG_gd g5 (pG_put (M2 := M2) eM2 ?_)
            replace H := pRun (ls' := [.ref 188, .int (x1 + kI 1)]) (st' := []) 1 rfl H
            obtain ⟨g0, _, H⟩ := pGo (n1 := 1) rfl (mcb_94 rfl) H
            exact (ih _ (by omega)).1 _  _ H
    · intro x1 M H
      refine pG_mono (fun v N h => hC.2 x1 M v N h) ?_
      unfold S_94_8
      replace H := pRun (ls' := [.ref 188, .int x1]) (st' := [.ref 188, .int x1]) 2 rfl H
      replace H := pGetN (v := M 188 2) rfl (by decide) H
      rcases pIfc (n1 := 13) rfl (mcb_94 rfl) (mcb_94 rfl) H with ⟨g1, g0, _, H⟩ | ⟨g1, g0, _, H⟩
      · refine pG_pos (c := (M 188 2) ≤ x1) g1 ?_
        exact pG_ret (pRetU H)
      · refine pG_neg (c := (M 188 2) ≤ x1) g1 ?_
        replace H := pRun (ls' := [.ref 188, .int x1]) (st' := [.ref 188]) 1 rfl H
        replace H := pGetR (r := 219) (pRf hS (by decide +kernel)) rfl H
        replace H := pRun (ls' := [.ref 188, .int x1]) (st' := [.int x1, .ref 219]) 1 rfl H
        obtain ⟨g2, H⟩ := pBld (n := 24) (pLn hS (show pCa 219 24 = true by decide +kernel)) H
        refine pG_gd g2 ?_
        rcases pIf0 (n1 := 11) rfl (mcb_94 rfl) (mcb_94 rfl) H with ⟨g3, g0, _, H⟩ | ⟨g3, g0, _, H⟩
        · refine pG_pos (c := ¬ (M 219 (ix x1)) = 0) g3 ?_
          replace H := pRun (ls' := [.ref 188, .int x1]) (st' := [.ref 188]) 1 rfl H
          replace H := pGetR (r := 191) (pRf hS (by decide +kernel)) rfl H
          replace H := pRun (ls' := [.ref 188, .int x1]) (st' := [.int (kI 0), .int x1, .ref 191]) 2 rfl H
          obtain ⟨g4, M1, eM1, H⟩ := pIst (n := 24) (pLn hS (show pCa 191 24 = true by decide +kernel)) H
          refine pG_gd g4 (pG_put (M2 := M1) eM1 ?_)
          replace H := pRun (ls' := [.ref 188, .int x1]) (st' := [.ref 188, .ref 188]) 2 rfl H
          replace H := pGetN (v := M1 188 57) rfl (by decide) H
          replace H := pRun (ls' := [.ref 188, .int x1]) (st' := [.int ((M1 188 57) + (kI 1)), .ref 188]) 2 rfl H
          obtain ⟨M2, eM2, H⟩ := pPutN (j := 57) rfl H
          refine pG_put (M2 := M2) eM2 ?_
          obtain ⟨g0, _, H⟩ := pFall (mcb_94 rfl) H
          replace H := pRun (ls' := [.ref 188, .int (x1 + kI 1)]) (st' := []) 1 rfl H
          obtain ⟨g0, _, H⟩ := pGo (n1 := 8) rfl (mcb_94 rfl) H
          exact (ih _ (by omega)).2 _  _ H
        · refine pG_neg (c := ¬ (M 219 (ix x1)) = 0) g3 ?_
          obtain ⟨g0, _, H⟩ := pGo (n1 := 12) rfl (mcb_94 rfl) H
          replace H := pRun (ls' := [.ref 188, .int (x1 + kI 1)]) (st' := []) 1 rfl H
          obtain ⟨g0, _, H⟩ := pGo (n1 := 8) rfl (mcb_94 rfl) H
          exact (ih _ (by omega)).2 _  _ H
theorem L_94_1_ok {X : aX} {F d : Nat} {K : Nat → aK} (hS : pS K) {out : Option Value × aH} {f : Nat} {x1 : Int32} {M : pMem} (H : pm X F d 94 f 1 [.iload 1, .aload 0, .getfield 124412008, .if_icmp .ge 7] [.ref 188, .int x1] [] (pH K M) out) : pG eU K out (L_94_1 x1 M) := by
  refine pG_all (C := fun P : (Int32 → pMem → pT Unit) × (Int32 → pMem → pT Unit) => C_94 P.1 P.2) (T := fun P => P.1 x1 M) eU_inj ((fun _ _ _ _ => True), (fun _ _ _ _ => True)) ?_ (fun P hP => (K_94 hS P.1 P.2 hP f).1 _ _ H)
  exact ⟨(fun _ _ _ _ _ => trivial), (fun _ _ _ _ _ => trivial)⟩
theorem L_94_8_ok {X : aX} {F d : Nat} {K : Nat → aK} (hS : pS K) {out : Option Value × aH} {f : Nat} {x1 : Int32} {M : pMem} (H : pm X F d 94 f 8 [.iload 1, .aload 0, .getfield 124412008, .if_icmp .ge 13] [.ref 188, .int x1] [] (pH K M) out) : pG eU K out (L_94_8 x1 M) := by
  refine pG_all (C := fun P : (Int32 → pMem → pT Unit) × (Int32 → pMem → pT Unit) => C_94 P.1 P.2) (T := fun P => P.2 x1 M) eU_inj ((fun _ _ _ _ => True), (fun _ _ _ _ => True)) ?_ (fun P hP => (K_94 hS P.1 P.2 hP f).2 _ _ H)
  exact ⟨(fun _ _ _ _ _ => trivial), (fun _ _ _ _ _ => trivial)⟩
theorem D_94_ok {X : aX} {F d : Nat} {K : Nat → aK} (hS : pS K) {M : pMem} {out : Option Value × aH} (H : aM X F d 94 [.ref 188] (pH K M) = some out) : pG eU K out (D_94 M) := by
  obtain ⟨d', g0, _, H⟩ := pEnt (n := 2) (ls := [.ref 188, aD]) (mcb_94 rfl) (by decide +kernel) rfl H
  unfold D_94
  replace H := pRun (ls' := [.ref 188, aD]) (st' := [.int (kI 0), .ref 188]) 2 rfl H
  obtain ⟨M1, eM1, H⟩ := pPutN (j := 57) rfl H
  refine pG_put (M2 := M1) eM1 ?_
  replace H := pRun (ls' := [.ref 188, .int (kI 0)]) (st' := []) 2 rfl H
  obtain ⟨g0, _, H⟩ := pFall (mcb_94 rfl) H
  exact L_94_1_ok hS  H
def l_94 : List (Nat × Nat) := [(188, 57), (191, 999)]
theorem FC_94 : C_94 (fun _ M _ N => pFr (l_94) M N) (fun _ M _ N => pFr (l_94) M N) := ⟨fun x1 M => show pTf (l_94) M (S_94_1 _ _ x1 M) from (tf_if (tf_jump pFr_refl) (tf_gd fun g2 => (tf_if (tf_gd fun g4 => (tf_putS pFr_refl (fun _ => rfl) fun M1 f1 => (tf_jump f1))) (tf_call pFr_refl (fun _ _ h => F_89 h) [] rfl fun _ M1 f1 => (tf_if (tf_gd fun g5 => (tf_putS f1 (fun _ => rfl) fun M2 f2 => (tf_jump f2))) (tf_gd fun g5 => (tf_putS f1 (fun _ => rfl) fun M2 f2 => (tf_jump f2)))))))), fun x1 M => show pTf (l_94) M (S_94_8 _ _ x1 M) from (tf_if (tf_ret pFr_refl) (tf_gd fun g2 => (tf_if (tf_gd fun g4 => (tf_putA pFr_refl 1 rfl fun M1 f1 => (tf_put f1 0 rfl fun M2 f2 => (tf_jump f2)))) (tf_jump pFr_refl))))⟩
theorem F_94 {M : pMem} {v : Unit} {N : pMem} (h : D_94 M v N) : pFr (l_94) M N :=
  (show pTf (l_94) M (D_94 M) from (tf_put pFr_refl 0 rfl fun M1 f1 => (tf_jumpL (fun _ M _ N => pFr (l_94) M N, fun _ M _ N => pFr (l_94) M N) (FC_94) rfl f1))) v N h
/-- TwoCampsModel.names()V -/
def S_95_1 (P1 : Int32 → pMem → pT Unit) (x1 : Int32) (M : pMem) : pT Unit := tIf ((kI 2) ≤ x1) (tRet () M) (tGd (pIn x1 2) <| tIf (¬ (M 196 (ix x1)) = 0) (P1 (x1 + kI 1) M) (tCall (D_88 (kI 3) x1 M) fun v1 M1 => tIf (0 < v1) (tGd (pIn x1 2) <| tPut (aPut M1 196 (ix x1) ((M1 188 3) + (kI 1))) fun M2 => tPut (aPut M2 188 56 ((M2 188 56) + (kI 1))) fun M3 => P1 (x1 + kI 1) M3) (P1 (x1 + kI 1) M1)))
def C_95 (P1 : Int32 → pMem → pT Unit) : Prop := (∀ (x1 : Int32) M v N, S_95_1 P1 x1 M v N → P1 x1 M v N)
def L_95_1 (x1 : Int32) (M : pMem) : pT Unit := fun v N => ∀ P : (Int32 → pMem → pT Unit), C_95 P → P x1 M v N
def D_95 (M : pMem) : pT Unit := tPut (aPut M 188 56 (kI 0)) fun M1 => L_95_1 (kI 0) M1
theorem K_95 {X : aX} {F d : Nat} {K : Nat → aK} (hS : pS K) {out : Option Value × aH} (P1 : Int32 → pMem → pT Unit) (hC : C_95 P1) : ∀ f, (∀ (x1 : Int32) M, pm X F d 95 f 1 [.iload 1, .bipush 2, .if_icmp .ge 7] [.ref 188, .int x1] [] (pH K M) out → pG eU K out (P1 x1 M)) := by
  intro f
  induction f using Nat.strongRecOn with
  | _ f ih =>
    intro x1 M H
    refine pG_mono (fun v N h => hC x1 M v N h) ?_
    unfold S_95_1
    replace H := pRun (ls' := [.ref 188, .int x1]) (st' := [.int (kI 2), .int x1]) 2 rfl H
    rcases pIfc (n1 := 7) rfl (mcb_95 rfl) (mcb_95 rfl) H with ⟨g1, g0, _, H⟩ | ⟨g1, g0, _, H⟩
    · refine pG_pos (c := (kI 2) ≤ x1) g1 ?_
      exact pG_ret (pRetU H)
    · refine pG_neg (c := (kI 2) ≤ x1) g1 ?_
      replace H := pRun (ls' := [.ref 188, .int x1]) (st' := [.ref 188]) 1 rfl H
      replace H := pGetR (r := 196) (pRf hS (by decide +kernel)) rfl H
      replace H := pRun (ls' := [.ref 188, .int x1]) (st' := [.int x1, .ref 196]) 1 rfl H
      obtain ⟨g2, H⟩ := pIld (n := 2) (pLt (show pCa 196 2 = true by decide +kernel)) (pLn hS (show pCa 196 2 = true by decide +kernel)) H
      refine pG_gd g2 ?_
      rcases pIf0 (n1 := 6) rfl (mcb_95 rfl) (mcb_95 rfl) H with ⟨g3, g0, _, H⟩ | ⟨g3, g0, _, H⟩
      · refine pG_pos (c := ¬ (M 196 (ix x1)) = 0) g3 ?_
        replace H := pRun (ls' := [.ref 188, .int (x1 + kI 1)]) (st' := []) 1 rfl H
        obtain ⟨g0, _, H⟩ := pGo (n1 := 1) rfl (mcb_95 rfl) H
        exact (ih _ (by omega)) _  _ H
      · refine pG_neg (c := ¬ (M 196 (ix x1)) = 0) g3 ?_
        replace H := pRun (ls' := [.ref 188, .int x1]) (st' := [.int x1, .int (kI 3), .ref 188]) 3 rfl H
        obtain ⟨rv, h1, hc, H⟩ := pCalV 88 2 188 (as := [.int (kI 3), .int x1]) (rest := []) rfl (by decide) (by decide +kernel) rfl rfl H
        obtain ⟨v1, M1, hD, H⟩ := pUseI (D_88_ok hS hc) H
        refine pG_call (x := v1) (M1 := M1) hD ?_
        rcases pIf0 (n1 := 5) rfl (mcb_95 rfl) (mcb_95 rfl) H with ⟨g4, g0, _, H⟩ | ⟨g4, g0, _, H⟩
        · refine pG_pos (c := 0 < v1) g4 ?_
          replace H := pRun (ls' := [.ref 188, .int x1]) (st' := [.ref 188]) 1 rfl H
          replace H := pGetR (r := 196) (pRf hS (by decide +kernel)) rfl H
          replace H := pRun (ls' := [.ref 188, .int x1]) (st' := [.ref 188, .int x1, .ref 196]) 2 rfl H
          replace H := pGetN (v := M1 188 3) rfl (by decide) H
          replace H := pRun (ls' := [.ref 188, .int x1]) (st' := [.int ((M1 188 3) + (kI 1)), .int x1, .ref 196]) 2 rfl H
          obtain ⟨g5, M2, eM2, H⟩ := pIst (n := 2) (pLn hS (show pCa 196 2 = true by decide +kernel)) H
          refine pG_gd g5 (pG_put (M2 := M2) eM2 ?_)
          replace H := pRun (ls' := [.ref 188, .int x1]) (st' := [.ref 188, .ref 188]) 2 rfl H
          replace H := pGetN (v := M2 188 56) rfl (by decide) H
          replace H := pRun (ls' := [.ref 188, .int x1]) (st' := [.int ((M2 188 56) + (kI 1)), .ref 188]) 2 rfl H
          obtain ⟨M3, eM3, H⟩ := pPutN (j := 56) rfl H
          refine pG_put (M2 := M3) eM3 ?_
          obtain ⟨g0, _, H⟩ := pFall (mcb_95 rfl) H
          replace H := pRun (ls' := [.ref 188, .int (x1 + kI 1)]) (st' := []) 1 rfl H
          obtain ⟨g0, _, H⟩ := pGo (n1 := 1) rfl (mcb_95 rfl) H
          exact (ih _ (by omega)) _  _ H
        · refine pG_neg (c := 0 < v1) g4 ?_
          obtain ⟨g0, _, H⟩ := pGo (n1 := 6) rfl (mcb_95 rfl) H
          replace H := pRun (ls' := [.ref 188, .int (x1 + kI 1)]) (st' := []) 1 rfl H
          obtain ⟨g0, _, H⟩ := pGo (n1 := 1) rfl (mcb_95 rfl) H
          exact (ih _ (by omega)) _  _ H
theorem L_95_1_ok {X : aX} {F d : Nat} {K : Nat → aK} (hS : pS K) {out : Option Value × aH} {f : Nat} {x1 : Int32} {M : pMem} (H : pm X F d 95 f 1 [.iload 1, .bipush 2, .if_icmp .ge 7] [.ref 188, .int x1] [] (pH K M) out) : pG eU K out (L_95_1 x1 M) := by
  refine pG_all (C := fun P : (Int32 → pMem → pT Unit) => C_95 P) (T := fun P => P x1 M) eU_inj (fun _ _ _ _ => True) ?_ (fun P hP => (K_95 hS P hP f) _ _ H)
  exact (fun _ _ _ _ _ => trivial)
theorem D_95_ok {X : aX} {F d : Nat} {K : Nat → aK} (hS : pS K) {M : pMem} {out : Option Value × aH} (H : aM X F d 95 [.ref 188] (pH K M) = some out) : pG eU K out (D_95 M) := by
  obtain ⟨d', g0, _, H⟩ := pEnt (n := 2) (ls := [.ref 188, aD]) (mcb_95 rfl) (by decide +kernel) rfl H
  unfold D_95
  replace H := pRun (ls' := [.ref 188, aD]) (st' := [.int (kI 0), .ref 188]) 2 rfl H
  obtain ⟨M1, eM1, H⟩ := pPutN (j := 56) rfl H
  refine pG_put (M2 := M1) eM1 ?_
  replace H := pRun (ls' := [.ref 188, .int (kI 0)]) (st' := []) 2 rfl H
  obtain ⟨g0, _, H⟩ := pFall (mcb_95 rfl) H
  exact L_95_1_ok hS  H
def l_95 : List (Nat × Nat) := [(188, 56), (196, 999)]
theorem FC_95 : C_95 (fun _ M _ N => pFr (l_95) M N) := fun x1 M => show pTf (l_95) M (S_95_1 _ x1 M) from (tf_if (tf_ret pFr_refl) (tf_gd fun g2 => (tf_if (tf_jump pFr_refl) (tf_call pFr_refl (fun _ _ h => F_88 h) [] rfl fun _ M1 f1 => (tf_if (tf_gd fun g5 => (tf_putA f1 1 rfl fun M2 f2 => (tf_put f2 0 rfl fun M3 f3 => (tf_jump f3)))) (tf_jump f1))))))
theorem F_95 {M : pMem} {v : Unit} {N : pMem} (h : D_95 M v N) : pFr (l_95) M N :=
  (show pTf (l_95) M (D_95 M) from (tf_put pFr_refl 0 rfl fun M1 f1 => (tf_jumpL (fun _ M _ N => pFr (l_95) M N) (FC_95) rfl f1))) v N h
