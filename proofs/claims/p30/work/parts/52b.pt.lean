/-! what runs come to, method by method: printed by wip/pm/pm.py -/
/-- TwoCamps$Law.worked(II[I)I -/
def S_158_1 (l : Nat) (p1 : Int32) (p2 : Int32) (fa : Nat) (P1 : Int32 → Int32 → pMem → pT Int32) (x4 : Int32) (x5 : Int32) (M : pMem) : pT Int32 := tIf (x5 < 0) (tIf (x4 ≤ 0) (tRet (kI 0) M) (tGd (pIn (x4 - (kI 1)) 32) <| tRet (M (l + 6) (ix (x4 - (kI 1)))) M)) (tIf (p2 ≤ x5) (tIf (x4 ≤ 0) (tRet (kI 0) M) (tGd (pIn (x4 - (kI 1)) 32) <| tRet (M (l + 6) (ix (x4 - (kI 1)))) M)) (tIf ((kI 500) ≤ x5) (tIf (x4 ≤ 0) (tRet (kI 0) M) (tGd (pIn (x4 - (kI 1)) 32) <| tRet (M (l + 6) (ix (x4 - (kI 1)))) M)) (tGd (pIn x5 500) <| tIf ((M (l + 5) (ix x5)) < 0) (tIf (¬ (M (l + 5) (ix x5)) = (kI (-23))) (tIf (0 ≤ (M (l + 5) (ix x5))) (P1 x4 (x5 + kI 1) M) (tIf (x4 < (kI 2)) (P1 x4 (x5 + kI 1) M) (tGd (pIn ((x4 + kI (-1)) - (kI 1)) 32) <| tGd (pIn (x4 + kI (-1)) 32) <| tGd (pIn ((x4 + kI (-1)) - (kI 1)) 32) <| tPut (aPut M (l + 6) (ix ((x4 + kI (-1)) - (kI 1))) (f_159 (-(M (l + 5) (ix x5))) (M (l + 6) (ix ((x4 + kI (-1)) - (kI 1)))) (M (l + 6) (ix (x4 + kI (-1)))))) fun M1 => P1 (x4 + kI (-1)) (x5 + kI 1) M1))) (tIf (x4 < (kI 1)) (tIf (0 ≤ (M (l + 5) (ix x5))) (P1 x4 (x5 + kI 1) M) (tIf (x4 < (kI 2)) (P1 x4 (x5 + kI 1) M) (tGd (pIn ((x4 + kI (-1)) - (kI 1)) 32) <| tGd (pIn (x4 + kI (-1)) 32) <| tGd (pIn ((x4 + kI (-1)) - (kI 1)) 32) <| tPut (aPut M (l + 6) (ix ((x4 + kI (-1)) - (kI 1))) (f_159 (-(M (l + 5) (ix x5))) (M (l + 6) (ix ((x4 + kI (-1)) - (kI 1)))) (M (l + 6) (ix (x4 + kI (-1)))))) fun M1 => P1 (x4 + kI (-1)) (x5 + kI 1) M1))) (tGd (pIn (x4 - (kI 1)) 32) <| tGd (pIn (x4 - (kI 1)) 32) <| tPut (aPut M (l + 6) (ix (x4 - (kI 1))) ((kI 1) - (M (l + 6) (ix (x4 - (kI 1)))))) fun M1 => P1 x4 (x5 + kI 1) M1))) (tIf ((Int32.ofNat 14) ≤ ((M (l + 5) (ix x5)) - (kI 10000))) (tIf (¬ (M (l + 5) (ix x5)) = (kI (-23))) (tIf (0 ≤ (M (l + 5) (ix x5))) (P1 x4 (x5 + kI 1) M) (tIf (x4 < (kI 2)) (P1 x4 (x5 + kI 1) M) (tGd (pIn ((x4 + kI (-1)) - (kI 1)) 32) <| tGd (pIn (x4 + kI (-1)) 32) <| tGd (pIn ((x4 + kI (-1)) - (kI 1)) 32) <| tPut (aPut M (l + 6) (ix ((x4 + kI (-1)) - (kI 1))) (f_159 (-(M (l + 5) (ix x5))) (M (l + 6) (ix ((x4 + kI (-1)) - (kI 1)))) (M (l + 6) (ix (x4 + kI (-1)))))) fun M1 => P1 (x4 + kI (-1)) (x5 + kI 1) M1))) (tIf (x4 < (kI 1)) (tIf (0 ≤ (M (l + 5) (ix x5))) (P1 x4 (x5 + kI 1) M) (tIf (x4 < (kI 2)) (P1 x4 (x5 + kI 1) M) (tGd (pIn ((x4 + kI (-1)) - (kI 1)) 32) <| tGd (pIn (x4 + kI (-1)) 32) <| tGd (pIn ((x4 + kI (-1)) - (kI 1)) 32) <| tPut (aPut M (l + 6) (ix ((x4 + kI (-1)) - (kI 1))) (f_159 (-(M (l + 5) (ix x5))) (M (l + 6) (ix ((x4 + kI (-1)) - (kI 1)))) (M (l + 6) (ix (x4 + kI (-1)))))) fun M1 => P1 (x4 + kI (-1)) (x5 + kI 1) M1))) (tGd (pIn (x4 - (kI 1)) 32) <| tGd (pIn (x4 - (kI 1)) 32) <| tPut (aPut M (l + 6) (ix (x4 - (kI 1))) ((kI 1) - (M (l + 6) (ix (x4 - (kI 1)))))) fun M1 => P1 x4 (x5 + kI 1) M1))) (tIf ((Int32.ofNat 32) ≤ x4) (tIf (¬ (M (l + 5) (ix x5)) = (kI (-23))) (tIf (0 ≤ (M (l + 5) (ix x5))) (P1 x4 (x5 + kI 1) M) (tIf (x4 < (kI 2)) (P1 x4 (x5 + kI 1) M) (tGd (pIn ((x4 + kI (-1)) - (kI 1)) 32) <| tGd (pIn (x4 + kI (-1)) 32) <| tGd (pIn ((x4 + kI (-1)) - (kI 1)) 32) <| tPut (aPut M (l + 6) (ix ((x4 + kI (-1)) - (kI 1))) (f_159 (-(M (l + 5) (ix x5))) (M (l + 6) (ix ((x4 + kI (-1)) - (kI 1)))) (M (l + 6) (ix (x4 + kI (-1)))))) fun M1 => P1 (x4 + kI (-1)) (x5 + kI 1) M1))) (tIf (x4 < (kI 1)) (tIf (0 ≤ (M (l + 5) (ix x5))) (P1 x4 (x5 + kI 1) M) (tIf (x4 < (kI 2)) (P1 x4 (x5 + kI 1) M) (tGd (pIn ((x4 + kI (-1)) - (kI 1)) 32) <| tGd (pIn (x4 + kI (-1)) 32) <| tGd (pIn ((x4 + kI (-1)) - (kI 1)) 32) <| tPut (aPut M (l + 6) (ix ((x4 + kI (-1)) - (kI 1))) (f_159 (-(M (l + 5) (ix x5))) (M (l + 6) (ix ((x4 + kI (-1)) - (kI 1)))) (M (l + 6) (ix (x4 + kI (-1)))))) fun M1 => P1 (x4 + kI (-1)) (x5 + kI 1) M1))) (tGd (pIn (x4 - (kI 1)) 32) <| tGd (pIn (x4 - (kI 1)) 32) <| tPut (aPut M (l + 6) (ix (x4 - (kI 1))) ((kI 1) - (M (l + 6) (ix (x4 - (kI 1)))))) fun M1 => P1 x4 (x5 + kI 1) M1))) (tIf (0 ≤ ((M (l + 5) (ix x5)) - (kI 10000))) (tGd (pIn ((M (l + 5) (ix x5)) - (kI 10000)) 14) <| tGd (pIn x4 32) <| tPut (aPut M (l + 6) (ix x4) (M fa (ix ((M (l + 5) (ix x5)) - (kI 10000))))) fun M1 => P1 (x4 + kI 1) (x5 + kI 1) M1) (tGd (pIn x4 32) <| tPut (aPut M (l + 6) (ix x4) (M (l + 5) (ix x5))) fun M1 => P1 (x4 + kI 1) (x5 + kI 1) M1)))))))
def C_158 (l : Nat) (p1 : Int32) (p2 : Int32) (fa : Nat) (P1 : Int32 → Int32 → pMem → pT Int32) : Prop := (∀ (x4 : Int32) (x5 : Int32) M v N, S_158_1 l p1 p2 fa P1 x4 x5 M v N → P1 x4 x5 M v N)
def L_158_1 (l : Nat) (p1 : Int32) (p2 : Int32) (fa : Nat) (x4 : Int32) (x5 : Int32) (M : pMem) : pT Int32 := fun v N => ∀ P : (Int32 → Int32 → pMem → pT Int32), C_158 l p1 p2 fa P → P x4 x5 M v N
def D_158 (l : Nat) (p1 : Int32) (p2 : Int32) (fa : Nat) (M : pMem) : pT Int32 := L_158_1 l p1 p2 fa (kI 0) p1 M
theorem K_158 {X : aX} {F d : Nat} {K : Nat → aK} (hS : pS K) {l : Nat} {p1 : Int32} {p2 : Int32} {fa : Nat} (hl : pK 2 l = true) (hfa : pCa fa 14 = true) {out : Option Value × aH} (P1 : Int32 → Int32 → pMem → pT Int32) (hC : C_158 l p1 p2 fa P1) : ∀ f, (∀ (x4 : Int32) (x5 : Int32) (u6 : Value) (u7 : Value) M, pm X F d 158 f 1 [.iload 5, .ifCond .lt 18] [.ref l, .int p1, .int p2, .ref fa, .int x4, .int x5, u6, u7] [] (pH K M) out → pG eI K out (P1 x4 x5 M)) := by
  intro f
  induction f using Nat.strongRecOn with
  | _ f ih =>
    intro x4 x5 u6 u7 M H
    refine pG_mono (fun v N h => hC x4 x5 M v N h) ?_
    unfold S_158_1
    replace H := pRun (ls' := [.ref l, .int p1, .int p2, .ref fa, .int x4, .int x5, u6, u7]) (st' := [.int x5]) 1 rfl H
    rcases pIf0 (n1 := 18) rfl (mcb_158 rfl) (mcb_158 rfl) H with ⟨g1, g0, _, H⟩ | ⟨g1, g0, _, H⟩
    · refine pG_pos (c := x5 < 0) g1 ?_
      replace H := pRun (ls' := [.ref l, .int p1, .int p2, .ref fa, .int x4, .int x5, u6, u7]) (st' := [.int x4]) 1 rfl H
      rcases pIf0 (n1 := 20) rfl (mcb_158 rfl) (mcb_158 rfl) H with ⟨g2, g0, _, H⟩ | ⟨g2, g0, _, H⟩
      · refine pG_pos (c := x4 ≤ 0) g2 ?_
        replace H := pRun (ls' := [.ref l, .int p1, .int p2, .ref fa, .int x4, .int x5, u6, u7]) (st' := [.int (kI 0)]) 1 rfl H
        obtain ⟨g0, _, H⟩ := pFall (mcb_158 rfl) H
        exact pG_ret (pRetI H)
      · refine pG_neg (c := x4 ≤ 0) g2 ?_
        replace H := pRun (ls' := [.ref l, .int p1, .int p2, .ref fa, .int x4, .int x5, u6, u7]) (st' := [.ref l]) 1 rfl H
        replace H := pGetR (r := l + 6) (pRw hS hl (by decide +kernel)) rfl H
        replace H := pRun (ls' := [.ref l, .int p1, .int p2, .ref fa, .int x4, .int x5, u6, u7]) (st' := [.int (x4 - (kI 1)), .ref (l + 6)]) 3 rfl H
        obtain ⟨g3, H⟩ := pIld (n := 32) (pLt (pRl (n := 32) hl (by decide +kernel))) (pLn hS (pRl (n := 32) hl (by decide +kernel))) H
        refine pG_gd g3 ?_
        obtain ⟨g0, _, H⟩ := pGo (n1 := 21) rfl (mcb_158 rfl) H
        exact pG_ret (pRetI H)
    · refine pG_neg (c := x5 < 0) g1 ?_
      replace H := pRun (ls' := [.ref l, .int p1, .int p2, .ref fa, .int x4, .int x5, u6, u7]) (st' := [.int p2, .int x5]) 2 rfl H
      rcases pIfc (n1 := 18) rfl (mcb_158 rfl) (mcb_158 rfl) H with ⟨g2, g0, _, H⟩ | ⟨g2, g0, _, H⟩
      · refine pG_pos (c := p2 ≤ x5) g2 ?_
        replace H := pRun (ls' := [.ref l, .int p1, .int p2, .ref fa, .int x4, .int x5, u6, u7]) (st' := [.int x4]) 1 rfl H
        rcases pIf0 (n1 := 20) rfl (mcb_158 rfl) (mcb_158 rfl) H with ⟨g3, g0, _, H⟩ | ⟨g3, g0, _, H⟩
        · refine pG_pos (c := x4 ≤ 0) g3 ?_
          replace H := pRun (ls' := [.ref l, .int p1, .int p2, .ref fa, .int x4, .int x5, u6, u7]) (st' := [.int (kI 0)]) 1 rfl H
          obtain ⟨g0, _, H⟩ := pFall (mcb_158 rfl) H
          exact pG_ret (pRetI H)
        · refine pG_neg (c := x4 ≤ 0) g3 ?_
          replace H := pRun (ls' := [.ref l, .int p1, .int p2, .ref fa, .int x4, .int x5, u6, u7]) (st' := [.ref l]) 1 rfl H
          replace H := pGetR (r := l + 6) (pRw hS hl (by decide +kernel)) rfl H
          replace H := pRun (ls' := [.ref l, .int p1, .int p2, .ref fa, .int x4, .int x5, u6, u7]) (st' := [.int (x4 - (kI 1)), .ref (l + 6)]) 3 rfl H
          obtain ⟨g4, H⟩ := pIld (n := 32) (pLt (pRl (n := 32) hl (by decide +kernel))) (pLn hS (pRl (n := 32) hl (by decide +kernel))) H
          refine pG_gd g4 ?_
          obtain ⟨g0, _, H⟩ := pGo (n1 := 21) rfl (mcb_158 rfl) H
          exact pG_ret (pRetI H)
      · refine pG_neg (c := p2 ≤ x5) g2 ?_
        replace H := pRun (ls' := [.ref l, .int p1, .int p2, .ref fa, .int x4, .int x5, u6, u7]) (st' := [.int (kI 500), .int x5]) 2 rfl H
        rcases pIfc (n1 := 18) rfl (mcb_158 rfl) (mcb_158 rfl) H with ⟨g3, g0, _, H⟩ | ⟨g3, g0, _, H⟩
        · refine pG_pos (c := (kI 500) ≤ x5) g3 ?_
          replace H := pRun (ls' := [.ref l, .int p1, .int p2, .ref fa, .int x4, .int x5, u6, u7]) (st' := [.int x4]) 1 rfl H
          rcases pIf0 (n1 := 20) rfl (mcb_158 rfl) (mcb_158 rfl) H with ⟨g4, g0, _, H⟩ | ⟨g4, g0, _, H⟩
          · refine pG_pos (c := x4 ≤ 0) g4 ?_
            replace H := pRun (ls' := [.ref l, .int p1, .int p2, .ref fa, .int x4, .int x5, u6, u7]) (st' := [.int (kI 0)]) 1 rfl H
            obtain ⟨g0, _, H⟩ := pFall (mcb_158 rfl) H
            exact pG_ret (pRetI H)
          · refine pG_neg (c := x4 ≤ 0) g4 ?_
            replace H := pRun (ls' := [.ref l, .int p1, .int p2, .ref fa, .int x4, .int x5, u6, u7]) (st' := [.ref l]) 1 rfl H
            replace H := pGetR (r := l + 6) (pRw hS hl (by decide +kernel)) rfl H
            replace H := pRun (ls' := [.ref l, .int p1, .int p2, .ref fa, .int x4, .int x5, u6, u7]) (st' := [.int (x4 - (kI 1)), .ref (l + 6)]) 3 rfl H
            obtain ⟨g5, H⟩ := pIld (n := 32) (pLt (pRl (n := 32) hl (by decide +kernel))) (pLn hS (pRl (n := 32) hl (by decide +kernel))) H
            refine pG_gd g5 ?_
            obtain ⟨g0, _, H⟩ := pGo (n1 := 21) rfl (mcb_158 rfl) H
            exact pG_ret (pRetI H)
        · refine pG_neg (c := (kI 500) ≤ x5) g3 ?_
          replace H := pRun (ls' := [.ref l, .int p1, .int p2, .ref fa, .int x4, .int x5, u6, u7]) (st' := [.ref l]) 1 rfl H
          replace H := pGetR (r := l + 5) (pRw hS hl (by decide +kernel)) rfl H
          replace H := pRun (ls' := [.ref l, .int p1, .int p2, .ref fa, .int x4, .int x5, u6, u7]) (st' := [.int x5, .ref (l + 5)]) 1 rfl H
          obtain ⟨g4, H⟩ := pIld (n := 500) (pLt (pRl (n := 500) hl (by decide +kernel))) (pLn hS (pRl (n := 500) hl (by decide +kernel))) H
          refine pG_gd g4 ?_
          replace H := pRun (ls' := [.ref l, .int p1, .int p2, .ref fa, .int x4, .int x5, .int (M (l + 5) (ix x5)), .int ((M (l + 5) (ix x5)) - (kI 10000))]) (st' := [.int (M (l + 5) (ix x5))]) 6 rfl H
          rcases pIf0 (n1 := 11) rfl (mcb_158 rfl) (mcb_158 rfl) H with ⟨g5, g0, _, H⟩ | ⟨g5, g0, _, H⟩
          · refine pG_pos (c := (M (l + 5) (ix x5)) < 0) g5 ?_
            replace H := pRun (ls' := [.ref l, .int p1, .int p2, .ref fa, .int x4, .int x5, .int (M (l + 5) (ix x5)), .int ((M (l + 5) (ix x5)) - (kI 10000))]) (st' := [.int (kI (-23)), .int (M (l + 5) (ix x5))]) 2 rfl H
            rcases pIfc (n1 := 14) rfl (mcb_158 rfl) (mcb_158 rfl) H with ⟨g6, g0, _, H⟩ | ⟨g6, g0, _, H⟩
            · refine pG_pos (c := ¬ (M (l + 5) (ix x5)) = (kI (-23))) g6 ?_
              replace H := pRun (ls' := [.ref l, .int p1, .int p2, .ref fa, .int x4, .int x5, .int (M (l + 5) (ix x5)), .int ((M (l + 5) (ix x5)) - (kI 10000))]) (st' := [.int (M (l + 5) (ix x5))]) 1 rfl H
              rcases pIf0 (n1 := 17) rfl (mcb_158 rfl) (mcb_158 rfl) H with ⟨g7, g0, _, H⟩ | ⟨g7, g0, _, H⟩
              · refine pG_pos (c := 0 ≤ (M (l + 5) (ix x5))) g7 ?_
                replace H := pRun (ls' := [.ref l, .int p1, .int p2, .ref fa, .int x4, .int (x5 + kI 1), .int (M (l + 5) (ix x5)), .int ((M (l + 5) (ix x5)) - (kI 10000))]) (st' := []) 1 rfl H
                obtain ⟨g0, _, H⟩ := pGo (n1 := 1) rfl (mcb_158 rfl) H
                exact (ih _ (by omega)) _ _ _ _  _ H
              · refine pG_neg (c := 0 ≤ (M (l + 5) (ix x5))) g7 ?_
                replace H := pRun (ls' := [.ref l, .int p1, .int p2, .ref fa, .int x4, .int x5, .int (M (l + 5) (ix x5)), .int ((M (l + 5) (ix x5)) - (kI 10000))]) (st' := [.int (kI 2), .int x4]) 2 rfl H
                rcases pIfc (n1 := 17) rfl (mcb_158 rfl) (mcb_158 rfl) H with ⟨g8, g0, _, H⟩ | ⟨g8, g0, _, H⟩
                · refine pG_pos (c := x4 < (kI 2)) g8 ?_
                  replace H := pRun (ls' := [.ref l, .int p1, .int p2, .ref fa, .int x4, .int (x5 + kI 1), .int (M (l + 5) (ix x5)), .int ((M (l + 5) (ix x5)) - (kI 10000))]) (st' := []) 1 rfl H
                  obtain ⟨g0, _, H⟩ := pGo (n1 := 1) rfl (mcb_158 rfl) H
                  exact (ih _ (by omega)) _ _ _ _  _ H
                · refine pG_neg (c := x4 < (kI 2)) g8 ?_
                  replace H := pRun (ls' := [.ref l, .int p1, .int p2, .ref fa, .int (x4 + kI (-1)), .int x5, .int (M (l + 5) (ix x5)), .int ((M (l + 5) (ix x5)) - (kI 10000))]) (st' := [.ref l]) 2 rfl H
                  replace H := pGetR (r := l + 6) (pRw hS hl (by decide +kernel)) rfl H
                  replace H := pRun (ls' := [.ref l, .int p1, .int p2, .ref fa, .int (x4 + kI (-1)), .int x5, .int (M (l + 5) (ix x5)), .int ((M (l + 5) (ix x5)) - (kI 10000))]) (st' := [.ref l, .int (-(M (l + 5) (ix x5))), .int ((x4 + kI (-1)) - (kI 1)), .ref (l + 6)]) 6 rfl H
                  replace H := pGetR (r := l + 6) (pRw hS hl (by decide +kernel)) rfl H
                  replace H := pRun (ls' := [.ref l, .int p1, .int p2, .ref fa, .int (x4 + kI (-1)), .int x5, .int (M (l + 5) (ix x5)), .int ((M (l + 5) (ix x5)) - (kI 10000))]) (st' := [.int ((x4 + kI (-1)) - (kI 1)), .ref (l + 6), .int (-(M (l + 5) (ix x5))), .int ((x4 + kI (-1)) - (kI 1)), .ref (l + 6)]) 3 rfl H
                  obtain ⟨g9, H⟩ := pIld (n := 32) (pLt (pRl (n := 32) hl (by decide +kernel))) (pLn hS (pRl (n := 32) hl (by decide +kernel))) H
                  refine pG_gd g9 ?_
                  replace H := pRun (ls' := [.ref l, .int p1, .int p2, .ref fa, .int (x4 + kI (-1)), .int x5, .int (M (l + 5) (ix x5)), .int ((M (l + 5) (ix x5)) - (kI 10000))]) (st' := [.ref l, .int (M (l + 6) (ix ((x4 + kI (-1)) - (kI 1)))), .int (-(M (l + 5) (ix x5))), .int ((x4 + kI (-1)) - (kI 1)), .ref (l + 6)]) 1 rfl H
                  replace H := pGetR (r := l + 6) (pRw hS hl (by decide +kernel)) rfl H
                  replace H := pRun (ls' := [.ref l, .int p1, .int p2, .ref fa, .int (x4 + kI (-1)), .int x5, .int (M (l + 5) (ix x5)), .int ((M (l + 5) (ix x5)) - (kI 10000))]) (st' := [.int (x4 + kI (-1)), .ref (l + 6), .int (M (l + 6) (ix ((x4 + kI (-1)) - (kI 1)))), .int (-(M (l + 5) (ix x5))), .int ((x4 + kI (-1)) - (kI 1)), .ref (l + 6)]) 1 rfl H
                  obtain ⟨g10, H⟩ := pIld (n := 32) (pLt (pRl (n := 32) hl (by decide +kernel))) (pLn hS (pRl (n := 32) hl (by decide +kernel))) H
                  refine pG_gd g10 ?_
                  obtain ⟨rv, h1, hc, H⟩ := pCalT 159 3 (as := [.int (-(M (l + 5) (ix x5))), .int (M (l + 6) (ix ((x4 + kI (-1)) - (kI 1)))), .int (M (l + 6) (ix (x4 + kI (-1))))]) (rest := [.int ((x4 + kI (-1)) - (kI 1)), .ref (l + 6)]) rfl (by decide) (by decide +kernel) rfl rfl H
                  replace H := pUseF (f_159_ok hS hc) H
                  obtain ⟨g11, M1, eM1, H⟩ := pIst (n := 32) (pLn hS (pRl (n := 32) hl (by decide +kernel))) H
                  refine pG_gd g11 (pG_put (M2 := M1) eM1 ?_)
                  obtain ⟨g0, _, H⟩ := pFall (mcb_158 rfl) H
                  replace H := pRun (ls' := [.ref l, .int p1, .int p2, .ref fa, .int (x4 + kI (-1)), .int (x5 + kI 1), .int (M (l + 5) (ix x5)), .int ((M (l + 5) (ix x5)) - (kI 10000))]) (st' := []) 1 rfl H
                  obtain ⟨g0, _, H⟩ := pGo (n1 := 1) rfl (mcb_158 rfl) H
                  exact (ih _ (by omega)) _ _ _ _  _ H
            · refine pG_neg (c := ¬ (M (l + 5) (ix x5)) = (kI (-23))) g6 ?_
              replace H := pRun (ls' := [.ref l, .int p1, .int p2, .ref fa, .int x4, .int x5, .int (M (l + 5) (ix x5)), .int ((M (l + 5) (ix x5)) - (kI 10000))]) (st' := [.int (kI 1), .int x4]) 2 rfl H
              rcases pIfc (n1 := 14) rfl (mcb_158 rfl) (mcb_158 rfl) H with ⟨g7, g0, _, H⟩ | ⟨g7, g0, _, H⟩
              · refine pG_pos (c := x4 < (kI 1)) g7 ?_
                replace H := pRun (ls' := [.ref l, .int p1, .int p2, .ref fa, .int x4, .int x5, .int (M (l + 5) (ix x5)), .int ((M (l + 5) (ix x5)) - (kI 10000))]) (st' := [.int (M (l + 5) (ix x5))]) 1 rfl H
                rcases pIf0 (n1 := 17) rfl (mcb_158 rfl) (mcb_158 rfl) H with ⟨g8, g0, _, H⟩ | ⟨g8, g0, _, H⟩
                · refine pG_pos (c := 0 ≤ (M (l + 5) (ix x5))) g8 ?_
                  replace H := pRun (ls' := [.ref l, .int p1, .int p2, .ref fa, .int x4, .int (x5 + kI 1), .int (M (l + 5) (ix x5)), .int ((M (l + 5) (ix x5)) - (kI 10000))]) (st' := []) 1 rfl H
                  obtain ⟨g0, _, H⟩ := pGo (n1 := 1) rfl (mcb_158 rfl) H
                  exact (ih _ (by omega)) _ _ _ _  _ H
                · refine pG_neg (c := 0 ≤ (M (l + 5) (ix x5))) g8 ?_
                  replace H := pRun (ls' := [.ref l, .int p1, .int p2, .ref fa, .int x4, .int x5, .int (M (l + 5) (ix x5)), .int ((M (l + 5) (ix x5)) - (kI 10000))]) (st' := [.int (kI 2), .int x4]) 2 rfl H
                  rcases pIfc (n1 := 17) rfl (mcb_158 rfl) (mcb_158 rfl) H with ⟨g9, g0, _, H⟩ | ⟨g9, g0, _, H⟩
                  · refine pG_pos (c := x4 < (kI 2)) g9 ?_
                    replace H := pRun (ls' := [.ref l, .int p1, .int p2, .ref fa, .int x4, .int (x5 + kI 1), .int (M (l + 5) (ix x5)), .int ((M (l + 5) (ix x5)) - (kI 10000))]) (st' := []) 1 rfl H
                    obtain ⟨g0, _, H⟩ := pGo (n1 := 1) rfl (mcb_158 rfl) H
                    exact (ih _ (by omega)) _ _ _ _  _ H
                  · refine pG_neg (c := x4 < (kI 2)) g9 ?_
                    replace H := pRun (ls' := [.ref l, .int p1, .int p2, .ref fa, .int (x4 + kI (-1)), .int x5, .int (M (l + 5) (ix x5)), .int ((M (l + 5) (ix x5)) - (kI 10000))]) (st' := [.ref l]) 2 rfl H
                    replace H := pGetR (r := l + 6) (pRw hS hl (by decide +kernel)) rfl H
                    replace H := pRun (ls' := [.ref l, .int p1, .int p2, .ref fa, .int (x4 + kI (-1)), .int x5, .int (M (l + 5) (ix x5)), .int ((M (l + 5) (ix x5)) - (kI 10000))]) (st' := [.ref l, .int (-(M (l + 5) (ix x5))), .int ((x4 + kI (-1)) - (kI 1)), .ref (l + 6)]) 6 rfl H
                    replace H := pGetR (r := l + 6) (pRw hS hl (by decide +kernel)) rfl H
                    replace H := pRun (ls' := [.ref l, .int p1, .int p2, .ref fa, .int (x4 + kI (-1)), .int x5, .int (M (l + 5) (ix x5)), .int ((M (l + 5) (ix x5)) - (kI 10000))]) (st' := [.int ((x4 + kI (-1)) - (kI 1)), .ref (l + 6), .int (-(M (l + 5) (ix x5))), .int ((x4 + kI (-1)) - (kI 1)), .ref (l + 6)]) 3 rfl H
                    obtain ⟨g10, H⟩ := pIld (n := 32) (pLt (pRl (n := 32) hl (by decide +kernel))) (pLn hS (pRl (n := 32) hl (by decide +kernel))) H
                    refine pG_gd g10 ?_
                    replace H := pRun (ls' := [.ref l, .int p1, .int p2, .ref fa, .int (x4 + kI (-1)), .int x5, .int (M (l + 5) (ix x5)), .int ((M (l + 5) (ix x5)) - (kI 10000))]) (st' := [.ref l, .int (M (l + 6) (ix ((x4 + kI (-1)) - (kI 1)))), .int (-(M (l + 5) (ix x5))), .int ((x4 + kI (-1)) - (kI 1)), .ref (l + 6)]) 1 rfl H
                    replace H := pGetR (r := l + 6) (pRw hS hl (by decide +kernel)) rfl H
                    replace H := pRun (ls' := [.ref l, .int p1, .int p2, .ref fa, .int (x4 + kI (-1)), .int x5, .int (M (l + 5) (ix x5)), .int ((M (l + 5) (ix x5)) - (kI 10000))]) (st' := [.int (x4 + kI (-1)), .ref (l + 6), .int (M (l + 6) (ix ((x4 + kI (-1)) - (kI 1)))), .int (-(M (l + 5) (ix x5))), .int ((x4 + kI (-1)) - (kI 1)), .ref (l + 6)]) 1 rfl H
                    obtain ⟨g11, H⟩ := pIld (n := 32) (pLt (pRl (n := 32) hl (by decide +kernel))) (pLn hS (pRl (n := 32) hl (by decide +kernel))) H
                    refine pG_gd g11 ?_
                    obtain ⟨rv, h1, hc, H⟩ := pCalT 159 3 (as := [.int (-(M (l + 5) (ix x5))), .int (M (l + 6) (ix ((x4 + kI (-1)) - (kI 1)))), .int (M (l + 6) (ix (x4 + kI (-1))))]) (rest := [.int ((x4 + kI (-1)) - (kI 1)), .ref (l + 6)]) rfl (by decide) (by decide +kernel) rfl rfl H
                    replace H := pUseF (f_159_ok hS hc) H
                    obtain ⟨g12, M1, eM1, H⟩ := pIst (n := 32) (pLn hS (pRl (n := 32) hl (by decide +kernel))) H
                    refine pG_gd g12 (pG_put (M2 := M1) eM1 ?_)
                    obtain ⟨g0, _, H⟩ := pFall (mcb_158 rfl) H
                    replace H := pRun (ls' := [.ref l, .int p1, .int p2, .ref fa, .int (x4 + kI (-1)), .int (x5 + kI 1), .int (M (l + 5) (ix x5)), .int ((M (l + 5) (ix x5)) - (kI 10000))]) (st' := []) 1 rfl H
                    obtain ⟨g0, _, H⟩ := pGo (n1 := 1) rfl (mcb_158 rfl) H
                    exact (ih _ (by omega)) _ _ _ _  _ H
              · refine pG_neg (c := x4 < (kI 1)) g7 ?_
                replace H := pRun (ls' := [.ref l, .int p1, .int p2, .ref fa, .int x4, .int x5, .int (M (l + 5) (ix x5)), .int ((M (l + 5) (ix x5)) - (kI 10000))]) (st' := [.ref l]) 1 rfl H
                replace H := pGetR (r := l + 6) (pRw hS hl (by decide +kernel)) rfl H
                replace H := pRun (ls' := [.ref l, .int p1, .int p2, .ref fa, .int x4, .int x5, .int (M (l + 5) (ix x5)), .int ((M (l + 5) (ix x5)) - (kI 10000))]) (st' := [.ref l, .int (kI 1), .int (x4 - (kI 1)), .ref (l + 6)]) 5 rfl H
                replace H := pGetR (r := l + 6) (pRw hS hl (by decide +kernel)) rfl H
                replace H := pRun (ls' := [.ref l, .int p1, .int p2, .ref fa, .int x4, .int x5, .int (M (l + 5) (ix x5)), .int ((M (l + 5) (ix x5)) - (kI 10000))]) (st' := [.int (x4 - (kI 1)), .ref (l + 6), .int (kI 1), .int (x4 - (kI 1)), .ref (l + 6)]) 3 rfl H
                obtain ⟨g8, H⟩ := pIld (n := 32) (pLt (pRl (n := 32) hl (by decide +kernel))) (pLn hS (pRl (n := 32) hl (by decide +kernel))) H
                refine pG_gd g8 ?_
                replace H := pRun (ls' := [.ref l, .int p1, .int p2, .ref fa, .int x4, .int x5, .int (M (l + 5) (ix x5)), .int ((M (l + 5) (ix x5)) - (kI 10000))]) (st' := [.int ((kI 1) - (M (l + 6) (ix (x4 - (kI 1))))), .int (x4 - (kI 1)), .ref (l + 6)]) 1 rfl H
                obtain ⟨g9, M1, eM1, H⟩ := pIst (n := 32) (pLn hS (pRl (n := 32) hl (by decide +kernel))) H
                refine pG_gd g9 (pG_put (M2 := M1) eM1 ?_)
                obtain ⟨g0, _, H⟩ := pGo (n1 := 17) rfl (mcb_158 rfl) H
                replace H := pRun (ls' := [.ref l, .int p1, .int p2, .ref fa, .int x4, .int (x5 + kI 1), .int (M (l + 5) (ix x5)), .int ((M (l + 5) (ix x5)) - (kI 10000))]) (st' := []) 1 rfl H
                obtain ⟨g0, _, H⟩ := pGo (n1 := 1) rfl (mcb_158 rfl) H
                exact (ih _ (by omega)) _ _ _ _  _ H
          · refine pG_neg (c := (M (l + 5) (ix x5)) < 0) g5 ?_
            replace H := pRun (ls' := [.ref l, .int p1, .int p2, .ref fa, .int x4, .int x5, .int (M (l + 5) (ix x5)), .int ((M (l + 5) (ix x5)) - (kI 10000))]) (st' := [.ref fa, .int ((M (l + 5) (ix x5)) - (kI 10000))]) 2 rfl H
            replace H := pAln (n := 14) (pLt hfa) (pLn hS hfa) H
            rcases pIfc (n1 := 11) rfl (mcb_158 rfl) (mcb_158 rfl) H with ⟨g6, g0, _, H⟩ | ⟨g6, g0, _, H⟩
            · refine pG_pos (c := (Int32.ofNat 14) ≤ ((M (l + 5) (ix x5)) - (kI 10000))) g6 ?_
              replace H := pRun (ls' := [.ref l, .int p1, .int p2, .ref fa, .int x4, .int x5, .int (M (l + 5) (ix x5)), .int ((M (l + 5) (ix x5)) - (kI 10000))]) (st' := [.int (kI (-23)), .int (M (l + 5) (ix x5))]) 2 rfl H
              rcases pIfc (n1 := 14) rfl (mcb_158 rfl) (mcb_158 rfl) H with ⟨g7, g0, _, H⟩ | ⟨g7, g0, _, H⟩
              · refine pG_pos (c := ¬ (M (l + 5) (ix x5)) = (kI (-23))) g7 ?_
                replace H := pRun (ls' := [.ref l, .int p1, .int p2, .ref fa, .int x4, .int x5, .int (M (l + 5) (ix x5)), .int ((M (l + 5) (ix x5)) - (kI 10000))]) (st' := [.int (M (l + 5) (ix x5))]) 1 rfl H
                rcases pIf0 (n1 := 17) rfl (mcb_158 rfl) (mcb_158 rfl) H with ⟨g8, g0, _, H⟩ | ⟨g8, g0, _, H⟩
                · refine pG_pos (c := 0 ≤ (M (l + 5) (ix x5))) g8 ?_
                  replace H := pRun (ls' := [.ref l, .int p1, .int p2, .ref fa, .int x4, .int (x5 + kI 1), .int (M (l + 5) (ix x5)), .int ((M (l + 5) (ix x5)) - (kI 10000))]) (st' := []) 1 rfl H
                  obtain ⟨g0, _, H⟩ := pGo (n1 := 1) rfl (mcb_158 rfl) H
                  exact (ih _ (by omega)) _ _ _ _  _ H
                · refine pG_neg (c := 0 ≤ (M (l + 5) (ix x5))) g8 ?_
                  replace H := pRun (ls' := [.ref l, .int p1, .int p2, .ref fa, .int x4, .int x5, .int (M (l + 5) (ix x5)), .int ((M (l + 5) (ix x5)) - (kI 10000))]) (st' := [.int (kI 2), .int x4]) 2 rfl H
                  rcases pIfc (n1 := 17) rfl (mcb_158 rfl) (mcb_158 rfl) H with ⟨g9, g0, _, H⟩ | ⟨g9, g0, _, H⟩
                  · refine pG_pos (c := x4 < (kI 2)) g9 ?_
                    replace H := pRun (ls' := [.ref l, .int p1, .int p2, .ref fa, .int x4, .int (x5 + kI 1), .int (M (l + 5) (ix x5)), .int ((M (l + 5) (ix x5)) - (kI 10000))]) (st' := []) 1 rfl H
                    obtain ⟨g0, _, H⟩ := pGo (n1 := 1) rfl (mcb_158 rfl) H
                    exact (ih _ (by omega)) _ _ _ _  _ H
                  · refine pG_neg (c := x4 < (kI 2)) g9 ?_
                    replace H := pRun (ls' := [.ref l, .int p1, .int p2, .ref fa, .int (x4 + kI (-1)), .int x5, .int (M (l + 5) (ix x5)), .int ((M (l + 5) (ix x5)) - (kI 10000))]) (st' := [.ref l]) 2 rfl H
                    replace H := pGetR (r := l + 6) (pRw hS hl (by decide +kernel)) rfl H
                    replace H := pRun (ls' := [.ref l, .int p1, .int p2, .ref fa, .int (x4 + kI (-1)), .int x5, .int (M (l + 5) (ix x5)), .int ((M (l + 5) (ix x5)) - (kI 10000))]) (st' := [.ref l, .int (-(M (l + 5) (ix x5))), .int ((x4 + kI (-1)) - (kI 1)), .ref (l + 6)]) 6 rfl H
                    replace H := pGetR (r := l + 6) (pRw hS hl (by decide +kernel)) rfl H
                    replace H := pRun (ls' := [.ref l, .int p1, .int p2, .ref fa, .int (x4 + kI (-1)), .int x5, .int (M (l + 5) (ix x5)), .int ((M (l + 5) (ix x5)) - (kI 10000))]) (st' := [.int ((x4 + kI (-1)) - (kI 1)), .ref (l + 6), .int (-(M (l + 5) (ix x5))), .int ((x4 + kI (-1)) - (kI 1)), .ref (l + 6)]) 3 rfl H
                    obtain ⟨g10, H⟩ := pIld (n := 32) (pLt (pRl (n := 32) hl (by decide +kernel))) (pLn hS (pRl (n := 32) hl (by decide +kernel))) H
                    refine pG_gd g10 ?_
                    replace H := pRun (ls' := [.ref l, .int p1, .int p2, .ref fa, .int (x4 + kI (-1)), .int x5, .int (M (l + 5) (ix x5)), .int ((M (l + 5) (ix x5)) - (kI 10000))]) (st' := [.ref l, .int (M (l + 6) (ix ((x4 + kI (-1)) - (kI 1)))), .int (-(M (l + 5) (ix x5))), .int ((x4 + kI (-1)) - (kI 1)), .ref (l + 6)]) 1 rfl H
                    replace H := pGetR (r := l + 6) (pRw hS hl (by decide +kernel)) rfl H
                    replace H := pRun (ls' := [.ref l, .int p1, .int p2, .ref fa, .int (x4 + kI (-1)), .int x5, .int (M (l + 5) (ix x5)), .int ((M (l + 5) (ix x5)) - (kI 10000))]) (st' := [.int (x4 + kI (-1)), .ref (l + 6), .int (M (l + 6) (ix ((x4 + kI (-1)) - (kI 1)))), .int (-(M (l + 5) (ix x5))), .int ((x4 + kI (-1)) - (kI 1)), .ref (l + 6)]) 1 rfl H
                    obtain ⟨g11, H⟩ := pIld (n := 32) (pLt (pRl (n := 32) hl (by decide +kernel))) (pLn hS (pRl (n := 32) hl (by decide +kernel))) H
                    refine pG_gd g11 ?_
                    obtain ⟨rv, h1, hc, H⟩ := pCalT 159 3 (as := [.int (-(M (l + 5) (ix x5))), .int (M (l + 6) (ix ((x4 + kI (-1)) - (kI 1)))), .int (M (l + 6) (ix (x4 + kI (-1))))]) (rest := [.int ((x4 + kI (-1)) - (kI 1)), .ref (l + 6)]) rfl (by decide) (by decide +kernel) rfl rfl H
                    replace H := pUseF (f_159_ok hS hc) H
                    obtain ⟨g12, M1, eM1, H⟩ := pIst (n := 32) (pLn hS (pRl (n := 32) hl (by decide +kernel))) H
                    refine pG_gd g12 (pG_put (M2 := M1) eM1 ?_)
                    obtain ⟨g0, _, H⟩ := pFall (mcb_158 rfl) H
                    replace H := pRun (ls' := [.ref l, .int p1, .int p2, .ref fa, .int (x4 + kI (-1)), .int (x5 + kI 1), .int (M (l + 5) (ix x5)), .int ((M (l + 5) (ix x5)) - (kI 10000))]) (st' := []) 1 rfl H
                    obtain ⟨g0, _, H⟩ := pGo (n1 := 1) rfl (mcb_158 rfl) H
                    exact (ih _ (by omega)) _ _ _ _  _ H
              · refine pG_neg (c := ¬ (M (l + 5) (ix x5)) = (kI (-23))) g7 ?_
                replace H := pRun (ls' := [.ref l, .int p1, .int p2, .ref fa, .int x4, .int x5, .int (M (l + 5) (ix x5)), .int ((M (l + 5) (ix x5)) - (kI 10000))]) (st' := [.int (kI 1), .int x4]) 2 rfl H
                rcases pIfc (n1 := 14) rfl (mcb_158 rfl) (mcb_158 rfl) H with ⟨g8, g0, _, H⟩ | ⟨g8, g0, _, H⟩
                · refine pG_pos (c := x4 < (kI 1)) g8 ?_
                  replace H := pRun (ls' := [.ref l, .int p1, .int p2, .ref fa, .int x4, .int x5, .int (M (l + 5) (ix x5)), .int ((M (l + 5) (ix x5)) - (kI 10000))]) (st' := [.int (M (l + 5) (ix x5))]) 1 rfl H
                  rcases pIf0 (n1 := 17) rfl (mcb_158 rfl) (mcb_158 rfl) H with ⟨g9, g0, _, H⟩ | ⟨g9, g0, _, H⟩
                  · refine pG_pos (c := 0 ≤ (M (l + 5) (ix x5))) g9 ?_
                    replace H := pRun (ls' := [.ref l, .int p1, .int p2, .ref fa, .int x4, .int (x5 + kI 1), .int (M (l + 5) (ix x5)), .int ((M (l + 5) (ix x5)) - (kI 10000))]) (st' := []) 1 rfl H
                    obtain ⟨g0, _, H⟩ := pGo (n1 := 1) rfl (mcb_158 rfl) H
                    exact (ih _ (by omega)) _ _ _ _  _ H
                  · refine pG_neg (c := 0 ≤ (M (l + 5) (ix x5))) g9 ?_
                    replace H := pRun (ls' := [.ref l, .int p1, .int p2, .ref fa, .int x4, .int x5, .int (M (l + 5) (ix x5)), .int ((M (l + 5) (ix x5)) - (kI 10000))]) (st' := [.int (kI 2), .int x4]) 2 rfl H
                    rcases pIfc (n1 := 17) rfl (mcb_158 rfl) (mcb_158 rfl) H with ⟨g10, g0, _, H⟩ | ⟨g10, g0, _, H⟩
                    · refine pG_pos (c := x4 < (kI 2)) g10 ?_
                      replace H := pRun (ls' := [.ref l, .int p1, .int p2, .ref fa, .int x4, .int (x5 + kI 1), .int (M (l + 5) (ix x5)), .int ((M (l + 5) (ix x5)) - (kI 10000))]) (st' := []) 1 rfl H
                      obtain ⟨g0, _, H⟩ := pGo (n1 := 1) rfl (mcb_158 rfl) H
                      exact (ih _ (by omega)) _ _ _ _  _ H
                    · refine pG_neg (c := x4 < (kI 2)) g10 ?_
                      replace H := pRun (ls' := [.ref l, .int p1, .int p2, .ref fa, .int (x4 + kI (-1)), .int x5, .int (M (l + 5) (ix x5)), .int ((M (l + 5) (ix x5)) - (kI 10000))]) (st' := [.ref l]) 2 rfl H
                      replace H := pGetR (r := l + 6) (pRw hS hl (by decide +kernel)) rfl H
                      replace H := pRun (ls' := [.ref l, .int p1, .int p2, .ref fa, .int (x4 + kI (-1)), .int x5, .int (M (l + 5) (ix x5)), .int ((M (l + 5) (ix x5)) - (kI 10000))]) (st' := [.ref l, .int (-(M (l + 5) (ix x5))), .int ((x4 + kI (-1)) - (kI 1)), .ref (l + 6)]) 6 rfl H
                      replace H := pGetR (r := l + 6) (pRw hS hl (by decide +kernel)) rfl H
                      replace H := pRun (ls' := [.ref l, .int p1, .int p2, .ref fa, .int (x4 + kI (-1)), .int x5, .int (M (l + 5) (ix x5)), .int ((M (l + 5) (ix x5)) - (kI 10000))]) (st' := [.int ((x4 + kI (-1)) - (kI 1)), .ref (l + 6), .int (-(M (l + 5) (ix x5))), .int ((x4 + kI (-1)) - (kI 1)), .ref (l + 6)]) 3 rfl H
                      obtain ⟨g11, H⟩ := pIld (n := 32) (pLt (pRl (n := 32) hl (by decide +kernel))) (pLn hS (pRl (n := 32) hl (by decide +kernel))) H
                      refine pG_gd g11 ?_
                      replace H := pRun (ls' := [.ref l, .int p1, .int p2, .ref fa, .int (x4 + kI (-1)), .int x5, .int (M (l + 5) (ix x5)), .int ((M (l + 5) (ix x5)) - (kI 10000))]) (st' := [.ref l, .int (M (l + 6) (ix ((x4 + kI (-1)) - (kI 1)))), .int (-(M (l + 5) (ix x5))), .int ((x4 + kI (-1)) - (kI 1)), .ref (l + 6)]) 1 rfl H
                      replace H := pGetR (r := l + 6) (pRw hS hl (by decide +kernel)) rfl H
                      replace H := pRun (ls' := [.ref l, .int p1, .int p2, .ref fa, .int (x4 + kI (-1)), .int x5, .int (M (l + 5) (ix x5)), .int ((M (l + 5) (ix x5)) - (kI 10000))]) (st' := [.int (x4 + kI (-1)), .ref (l + 6), .int (M (l + 6) (ix ((x4 + kI (-1)) - (kI 1)))), .int (-(M (l + 5) (ix x5))), .int ((x4 + kI (-1)) - (kI 1)), .ref (l + 6)]) 1 rfl H
                      obtain ⟨g12, H⟩ := pIld (n := 32) (pLt (pRl (n := 32) hl (by decide +kernel))) (pLn hS (pRl (n := 32) hl (by decide +kernel))) H
                      refine pG_gd g12 ?_
                      obtain ⟨rv, h1, hc, H⟩ := pCalT 159 3 (as := [.int (-(M (l + 5) (ix x5))), .int (M (l + 6) (ix ((x4 + kI (-1)) - (kI 1)))), .int (M (l + 6) (ix (x4 + kI (-1))))]) (rest := [.int ((x4 + kI (-1)) - (kI 1)), .ref (l + 6)]) rfl (by decide) (by decide +kernel) rfl rfl H
                      replace H := pUseF (f_159_ok hS hc) H
                      obtain ⟨g13, M1, eM1, H⟩ := pIst (n := 32) (pLn hS (pRl (n := 32) hl (by decide +kernel))) H
                      refine pG_gd g13 (pG_put (M2 := M1) eM1 ?_)
                      obtain ⟨g0, _, H⟩ := pFall (mcb_158 rfl) H
                      replace H := pRun (ls' := [.ref l, .int p1, .int p2, .ref fa, .int (x4 + kI (-1)), .int (x5 + kI 1), .int (M (l + 5) (ix x5)), .int ((M (l + 5) (ix x5)) - (kI 10000))]) (st' := []) 1 rfl H
                      obtain ⟨g0, _, H⟩ := pGo (n1 := 1) rfl (mcb_158 rfl) H
                      exact (ih _ (by omega)) _ _ _ _  _ H
                · refine pG_neg (c := x4 < (kI 1)) g8 ?_
                  replace H := pRun (ls' := [.ref l, .int p1, .int p2, .ref fa, .int x4, .int x5, .int (M (l + 5) (ix x5)), .int ((M (l + 5) (ix x5)) - (kI 10000))]) (st' := [.ref l]) 1 rfl H
                  replace H := pGetR (r := l + 6) (pRw hS hl (by decide +kernel)) rfl H
                  replace H := pRun (ls' := [.ref l, .int p1, .int p2, .ref fa, .int x4, .int x5, .int (M (l + 5) (ix x5)), .int ((M (l + 5) (ix x5)) - (kI 10000))]) (st' := [.ref l, .int (kI 1), .int (x4 - (kI 1)), .ref (l + 6)]) 5 rfl H
                  replace H := pGetR (r := l + 6) (pRw hS hl (by decide +kernel)) rfl H
                  replace H := pRun (ls' := [.ref l, .int p1, .int p2, .ref fa, .int x4, .int x5, .int (M (l + 5) (ix x5)), .int ((M (l + 5) (ix x5)) - (kI 10000))]) (st' := [.int (x4 - (kI 1)), .ref (l + 6), .int (kI 1), .int (x4 - (kI 1)), .ref (l + 6)]) 3 rfl H
                  obtain ⟨g9, H⟩ := pIld (n := 32) (pLt (pRl (n := 32) hl (by decide +kernel))) (pLn hS (pRl (n := 32) hl (by decide +kernel))) H
                  refine pG_gd g9 ?_
                  replace H := pRun (ls' := [.ref l, .int p1, .int p2, .ref fa, .int x4, .int x5, .int (M (l + 5) (ix x5)), .int ((M (l + 5) (ix x5)) - (kI 10000))]) (st' := [.int ((kI 1) - (M (l + 6) (ix (x4 - (kI 1))))), .int (x4 - (kI 1)), .ref (l + 6)]) 1 rfl H
                  obtain ⟨g10, M1, eM1, H⟩ := pIst (n := 32) (pLn hS (pRl (n := 32) hl (by decide +kernel))) H
                  refine pG_gd g10 (pG_put (M2 := M1) eM1 ?_)
                  obtain ⟨g0, _, H⟩ := pGo (n1 := 17) rfl (mcb_158 rfl) H
                  replace H := pRun (ls' := [.ref l, .int p1, .int p2, .ref fa, .int x4, .int (x5 + kI 1), .int (M (l + 5) (ix x5)), .int ((M (l + 5) (ix x5)) - (kI 10000))]) (st' := []) 1 rfl H
                  obtain ⟨g0, _, H⟩ := pGo (n1 := 1) rfl (mcb_158 rfl) H
                  exact (ih _ (by omega)) _ _ _ _  _ H
            · refine pG_neg (c := (Int32.ofNat 14) ≤ ((M (l + 5) (ix x5)) - (kI 10000))) g6 ?_
              replace H := pRun (ls' := [.ref l, .int p1, .int p2, .ref fa, .int x4, .int x5, .int (M (l + 5) (ix x5)), .int ((M (l + 5) (ix x5)) - (kI 10000))]) (st' := [.ref l, .int x4]) 2 rfl H
              replace H := pGetR (r := l + 6) (pRw hS hl (by decide +kernel)) rfl H
              replace H := pAln (n := 32) (pLt (pRl (n := 32) hl (by decide +kernel))) (pLn hS (pRl (n := 32) hl (by decide +kernel))) H
              rcases pIfc (n1 := 11) rfl (mcb_158 rfl) (mcb_158 rfl) H with ⟨g7, g0, _, H⟩ | ⟨g7, g0, _, H⟩
              · refine pG_pos (c := (Int32.ofNat 32) ≤ x4) g7 ?_
                replace H := pRun (ls' := [.ref l, .int p1, .int p2, .ref fa, .int x4, .int x5, .int (M (l + 5) (ix x5)), .int ((M (l + 5) (ix x5)) - (kI 10000))]) (st' := [.int (kI (-23)), .int (M (l + 5) (ix x5))]) 2 rfl H
                rcases pIfc (n1 := 14) rfl (mcb_158 rfl) (mcb_158 rfl) H with ⟨g8, g0, _, H⟩ | ⟨g8, g0, _, H⟩
                · refine pG_pos (c := ¬ (M (l + 5) (ix x5)) = (kI (-23))) g8 ?_
                  replace H := pRun (ls' := [.ref l, .int p1, .int p2, .ref fa, .int x4, .int x5, .int (M (l + 5) (ix x5)), .int ((M (l + 5) (ix x5)) - (kI 10000))]) (st' := [.int (M (l + 5) (ix x5))]) 1 rfl H
                  rcases pIf0 (n1 := 17) rfl (mcb_158 rfl) (mcb_158 rfl) H with ⟨g9, g0, _, H⟩ | ⟨g9, g0, _, H⟩
                  · refine pG_pos (c := 0 ≤ (M (l + 5) (ix x5))) g9 ?_
                    replace H := pRun (ls' := [.ref l, .int p1, .int p2, .ref fa, .int x4, .int (x5 + kI 1), .int (M (l + 5) (ix x5)), .int ((M (l + 5) (ix x5)) - (kI 10000))]) (st' := []) 1 rfl H
                    obtain ⟨g0, _, H⟩ := pGo (n1 := 1) rfl (mcb_158 rfl) H
                    exact (ih _ (by omega)) _ _ _ _  _ H
                  · refine pG_neg (c := 0 ≤ (M (l + 5) (ix x5))) g9 ?_
                    replace H := pRun (ls' := [.ref l, .int p1, .int p2, .ref fa, .int x4, .int x5, .int (M (l + 5) (ix x5)), .int ((M (l + 5) (ix x5)) - (kI 10000))]) (st' := [.int (kI 2), .int x4]) 2 rfl H
                    rcases pIfc (n1 := 17) rfl (mcb_158 rfl) (mcb_158 rfl) H with ⟨g10, g0, _, H⟩ | ⟨g10, g0, _, H⟩
                    · refine pG_pos (c := x4 < (kI 2)) g10 ?_
                      replace H := pRun (ls' := [.ref l, .int p1, .int p2, .ref fa, .int x4, .int (x5 + kI 1), .int (M (l + 5) (ix x5)), .int ((M (l + 5) (ix x5)) - (kI 10000))]) (st' := []) 1 rfl H
                      obtain ⟨g0, _, H⟩ := pGo (n1 := 1) rfl (mcb_158 rfl) H
                      exact (ih _ (by omega)) _ _ _ _  _ H
                    · refine pG_neg (c := x4 < (kI 2)) g10 ?_
                      replace H := pRun (ls' := [.ref l, .int p1, .int p2, .ref fa, .int (x4 + kI (-1)), .int x5, .int (M (l + 5) (ix x5)), .int ((M (l + 5) (ix x5)) - (kI 10000))]) (st' := [.ref l]) 2 rfl H
                      replace H := pGetR (r := l + 6) (pRw hS hl (by decide +kernel)) rfl H
                      replace H := pRun (ls' := [.ref l, .int p1, .int p2, .ref fa, .int (x4 + kI (-1)), .int x5, .int (M (l + 5) (ix x5)), .int ((M (l + 5) (ix x5)) - (kI 10000))]) (st' := [.ref l, .int (-(M (l + 5) (ix x5))), .int ((x4 + kI (-1)) - (kI 1)), .ref (l + 6)]) 6 rfl H
                      replace H := pGetR (r := l + 6) (pRw hS hl (by decide +kernel)) rfl H
                      replace H := pRun (ls' := [.ref l, .int p1, .int p2, .ref fa, .int (x4 + kI (-1)), .int x5, .int (M (l + 5) (ix x5)), .int ((M (l + 5) (ix x5)) - (kI 10000))]) (st' := [.int ((x4 + kI (-1)) - (kI 1)), .ref (l + 6), .int (-(M (l + 5) (ix x5))), .int ((x4 + kI (-1)) - (kI 1)), .ref (l + 6)]) 3 rfl H
                      obtain ⟨g11, H⟩ := pIld (n := 32) (pLt (pRl (n := 32) hl (by decide +kernel))) (pLn hS (pRl (n := 32) hl (by decide +kernel))) H
                      refine pG_gd g11 ?_
                      replace H := pRun (ls' := [.ref l, .int p1, .int p2, .ref fa, .int (x4 + kI (-1)), .int x5, .int (M (l + 5) (ix x5)), .int ((M (l + 5) (ix x5)) - (kI 10000))]) (st' := [.ref l, .int (M (l + 6) (ix ((x4 + kI (-1)) - (kI 1)))), .int (-(M (l + 5) (ix x5))), .int ((x4 + kI (-1)) - (kI 1)), .ref (l + 6)]) 1 rfl H
                      replace H := pGetR (r := l + 6) (pRw hS hl (by decide +kernel)) rfl H
                      replace H := pRun (ls' := [.ref l, .int p1, .int p2, .ref fa, .int (x4 + kI (-1)), .int x5, .int (M (l + 5) (ix x5)), .int ((M (l + 5) (ix x5)) - (kI 10000))]) (st' := [.int (x4 + kI (-1)), .ref (l + 6), .int (M (l + 6) (ix ((x4 + kI (-1)) - (kI 1)))), .int (-(M (l + 5) (ix x5))), .int ((x4 + kI (-1)) - (kI 1)), .ref (l + 6)]) 1 rfl H
                      obtain ⟨g12, H⟩ := pIld (n := 32) (pLt (pRl (n := 32) hl (by decide +kernel))) (pLn hS (pRl (n := 32) hl (by decide +kernel))) H
                      refine pG_gd g12 ?_
                      obtain ⟨rv, h1, hc, H⟩ := pCalT 159 3 (as := [.int (-(M (l + 5) (ix x5))), .int (M (l + 6) (ix ((x4 + kI (-1)) - (kI 1)))), .int (M (l + 6) (ix (x4 + kI (-1))))]) (rest := [.int ((x4 + kI (-1)) - (kI 1)), .ref (l + 6)]) rfl (by decide) (by decide +kernel) rfl rfl H
                      replace H := pUseF (f_159_ok hS hc) H
                      obtain ⟨g13, M1, eM1, H⟩ := pIst (n := 32) (pLn hS (pRl (n := 32) hl (by decide +kernel))) H
                      refine pG_gd g13 (pG_put (M2 := M1) eM1 ?_)
                      obtain ⟨g0, _, H⟩ := pFall (mcb_158 rfl) H
                      replace H := pRun (ls' := [.ref l, .int p1, .int p2, .ref fa, .int (x4 + kI (-1)), .int (x5 + kI 1), .int (M (l + 5) (ix x5)), .int ((M (l + 5) (ix x5)) - (kI 10000))]) (st' := []) 1 rfl H
                      obtain ⟨g0, _, H⟩ := pGo (n1 := 1) rfl (mcb_158 rfl) H
                      exact (ih _ (by omega)) _ _ _ _  _ H
                · refine pG_neg (c := ¬ (M (l + 5) (ix x5)) = (kI (-23))) g8 ?_
                  replace H := pRun (ls' := [.ref l, .int p1, .int p2, .ref fa, .int x4, .int x5, .int (M (l + 5) (ix x5)), .int ((M (l + 5) (ix x5)) - (kI 10000))]) (st' := [.int (kI 1), .int x4]) 2 rfl H
                  rcases pIfc (n1 := 14) rfl (mcb_158 rfl) (mcb_158 rfl) H with ⟨g9, g0, _, H⟩ | ⟨g9, g0, _, H⟩
                  · refine pG_pos (c := x4 < (kI 1)) g9 ?_
                    replace H := pRun (ls' := [.ref l, .int p1, .int p2, .ref fa, .int x4, .int x5, .int (M (l + 5) (ix x5)), .int ((M (l + 5) (ix x5)) - (kI 10000))]) (st' := [.int (M (l + 5) (ix x5))]) 1 rfl H
                    rcases pIf0 (n1 := 17) rfl (mcb_158 rfl) (mcb_158 rfl) H with ⟨g10, g0, _, H⟩ | ⟨g10, g0, _, H⟩
                    · refine pG_pos (c := 0 ≤ (M (l + 5) (ix x5))) g10 ?_
                      replace H := pRun (ls' := [.ref l, .int p1, .int p2, .ref fa, .int x4, .int (x5 + kI 1), .int (M (l + 5) (ix x5)), .int ((M (l + 5) (ix x5)) - (kI 10000))]) (st' := []) 1 rfl H
                      obtain ⟨g0, _, H⟩ := pGo (n1 := 1) rfl (mcb_158 rfl) H
                      exact (ih _ (by omega)) _ _ _ _  _ H
                    · refine pG_neg (c := 0 ≤ (M (l + 5) (ix x5))) g10 ?_
                      replace H := pRun (ls' := [.ref l, .int p1, .int p2, .ref fa, .int x4, .int x5, .int (M (l + 5) (ix x5)), .int ((M (l + 5) (ix x5)) - (kI 10000))]) (st' := [.int (kI 2), .int x4]) 2 rfl H
                      rcases pIfc (n1 := 17) rfl (mcb_158 rfl) (mcb_158 rfl) H with ⟨g11, g0, _, H⟩ | ⟨g11, g0, _, H⟩
                      · refine pG_pos (c := x4 < (kI 2)) g11 ?_
                        replace H := pRun (ls' := [.ref l, .int p1, .int p2, .ref fa, .int x4, .int (x5 + kI 1), .int (M (l + 5) (ix x5)), .int ((M (l + 5) (ix x5)) - (kI 10000))]) (st' := []) 1 rfl H
                        obtain ⟨g0, _, H⟩ := pGo (n1 := 1) rfl (mcb_158 rfl) H
                        exact (ih _ (by omega)) _ _ _ _  _ H
                      · refine pG_neg (c := x4 < (kI 2)) g11 ?_
                        replace H := pRun (ls' := [.ref l, .int p1, .int p2, .ref fa, .int (x4 + kI (-1)), .int x5, .int (M (l + 5) (ix x5)), .int ((M (l + 5) (ix x5)) - (kI 10000))]) (st' := [.ref l]) 2 rfl H
                        replace H := pGetR (r := l + 6) (pRw hS hl (by decide +kernel)) rfl H
                        replace H := pRun (ls' := [.ref l, .int p1, .int p2, .ref fa, .int (x4 + kI (-1)), .int x5, .int (M (l + 5) (ix x5)), .int ((M (l + 5) (ix x5)) - (kI 10000))]) (st' := [.ref l, .int (-(M (l + 5) (ix x5))), .int ((x4 + kI (-1)) - (kI 1)), .ref (l + 6)]) 6 rfl H
                        replace H := pGetR (r := l + 6) (pRw hS hl (by decide +kernel)) rfl H
                        replace H := pRun (ls' := [.ref l, .int p1, .int p2, .ref fa, .int (x4 + kI (-1)), .int x5, .int (M (l + 5) (ix x5)), .int ((M (l + 5) (ix x5)) - (kI 10000))]) (st' := [.int ((x4 + kI (-1)) - (kI 1)), .ref (l + 6), .int (-(M (l + 5) (ix x5))), .int ((x4 + kI (-1)) - (kI 1)), .ref (l + 6)]) 3 rfl H
                        obtain ⟨g12, H⟩ := pIld (n := 32) (pLt (pRl (n := 32) hl (by decide +kernel))) (pLn hS (pRl (n := 32) hl (by decide +kernel))) H
                        refine pG_gd g12 ?_
                        replace H := pRun (ls' := [.ref l, .int p1, .int p2, .ref fa, .int (x4 + kI (-1)), .int x5, .int (M (l + 5) (ix x5)), .int ((M (l + 5) (ix x5)) - (kI 10000))]) (st' := [.ref l, .int (M (l + 6) (ix ((x4 + kI (-1)) - (kI 1)))), .int (-(M (l + 5) (ix x5))), .int ((x4 + kI (-1)) - (kI 1)), .ref (l + 6)]) 1 rfl H
                        replace H := pGetR (r := l + 6) (pRw hS hl (by decide +kernel)) rfl H
                        replace H := pRun (ls' := [.ref l, .int p1, .int p2, .ref fa, .int (x4 + kI (-1)), .int x5, .int (M (l + 5) (ix x5)), .int ((M (l + 5) (ix x5)) - (kI 10000))]) (st' := [.int (x4 + kI (-1)), .ref (l + 6), .int (M (l + 6) (ix ((x4 + kI (-1)) - (kI 1)))), .int (-(M (l + 5) (ix x5))), .int ((x4 + kI (-1)) - (kI 1)), .ref (l + 6)]) 1 rfl H
                        obtain ⟨g13, H⟩ := pIld (n := 32) (pLt (pRl (n := 32) hl (by decide +kernel))) (pLn hS (pRl (n := 32) hl (by decide +kernel))) H
                        refine pG_gd g13 ?_
                        obtain ⟨rv, h1, hc, H⟩ := pCalT 159 3 (as := [.int (-(M (l + 5) (ix x5))), .int (M (l + 6) (ix ((x4 + kI (-1)) - (kI 1)))), .int (M (l + 6) (ix (x4 + kI (-1))))]) (rest := [.int ((x4 + kI (-1)) - (kI 1)), .ref (l + 6)]) rfl (by decide) (by decide +kernel) rfl rfl H
                        replace H := pUseF (f_159_ok hS hc) H
                        obtain ⟨g14, M1, eM1, H⟩ := pIst (n := 32) (pLn hS (pRl (n := 32) hl (by decide +kernel))) H
                        refine pG_gd g14 (pG_put (M2 := M1) eM1 ?_)
                        obtain ⟨g0, _, H⟩ := pFall (mcb_158 rfl) H
                        replace H := pRun (ls' := [.ref l, .int p1, .int p2, .ref fa, .int (x4 + kI (-1)), .int (x5 + kI 1), .int (M (l + 5) (ix x5)), .int ((M (l + 5) (ix x5)) - (kI 10000))]) (st' := []) 1 rfl H
                        obtain ⟨g0, _, H⟩ := pGo (n1 := 1) rfl (mcb_158 rfl) H
                        exact (ih _ (by omega)) _ _ _ _  _ H
                  · refine pG_neg (c := x4 < (kI 1)) g9 ?_
                    replace H := pRun (ls' := [.ref l, .int p1, .int p2, .ref fa, .int x4, .int x5, .int (M (l + 5) (ix x5)), .int ((M (l + 5) (ix x5)) - (kI 10000))]) (st' := [.ref l]) 1 rfl H
                    replace H := pGetR (r := l + 6) (pRw hS hl (by decide +kernel)) rfl H
                    replace H := pRun (ls' := [.ref l, .int p1, .int p2, .ref fa, .int x4, .int x5, .int (M (l + 5) (ix x5)), .int ((M (l + 5) (ix x5)) - (kI 10000))]) (st' := [.ref l, .int (kI 1), .int (x4 - (kI 1)), .ref (l + 6)]) 5 rfl H
                    replace H := pGetR (r := l + 6) (pRw hS hl (by decide +kernel)) rfl H
                    replace H := pRun (ls' := [.ref l, .int p1, .int p2, .ref fa, .int x4, .int x5, .int (M (l + 5) (ix x5)), .int ((M (l + 5) (ix x5)) - (kI 10000))]) (st' := [.int (x4 - (kI 1)), .ref (l + 6), .int (kI 1), .int (x4 - (kI 1)), .ref (l + 6)]) 3 rfl H
                    obtain ⟨g10, H⟩ := pIld (n := 32) (pLt (pRl (n := 32) hl (by decide +kernel))) (pLn hS (pRl (n := 32) hl (by decide +kernel))) H
                    refine pG_gd g10 ?_
                    replace H := pRun (ls' := [.ref l, .int p1, .int p2, .ref fa, .int x4, .int x5, .int (M (l + 5) (ix x5)), .int ((M (l + 5) (ix x5)) - (kI 10000))]) (st' := [.int ((kI 1) - (M (l + 6) (ix (x4 - (kI 1))))), .int (x4 - (kI 1)), .ref (l + 6)]) 1 rfl H
                    obtain ⟨g11, M1, eM1, H⟩ := pIst (n := 32) (pLn hS (pRl (n := 32) hl (by decide +kernel))) H
                    refine pG_gd g11 (pG_put (M2 := M1) eM1 ?_)
                    obtain ⟨g0, _, H⟩ := pGo (n1 := 17) rfl (mcb_158 rfl) H
                    replace H := pRun (ls' := [.ref l, .int p1, .int p2, .ref fa, .int x4, .int (x5 + kI 1), .int (M (l + 5) (ix x5)), .int ((M (l + 5) (ix x5)) - (kI 10000))]) (st' := []) 1 rfl H
                    obtain ⟨g0, _, H⟩ := pGo (n1 := 1) rfl (mcb_158 rfl) H
                    exact (ih _ (by omega)) _ _ _ _  _ H
              · refine pG_neg (c := (Int32.ofNat 32) ≤ x4) g7 ?_
                replace H := pRun (ls' := [.ref l, .int p1, .int p2, .ref fa, .int x4, .int x5, .int (M (l + 5) (ix x5)), .int ((M (l + 5) (ix x5)) - (kI 10000))]) (st' := [.ref l]) 1 rfl H
                replace H := pGetR (r := l + 6) (pRw hS hl (by decide +kernel)) rfl H
                replace H := pRun (ls' := [.ref l, .int p1, .int p2, .ref fa, .int x4, .int x5, .int (M (l + 5) (ix x5)), .int ((M (l + 5) (ix x5)) - (kI 10000))]) (st' := [.int ((M (l + 5) (ix x5)) - (kI 10000)), .int x4, .ref (l + 6)]) 2 rfl H
                rcases pIf0 (n1 := 9) rfl (mcb_158 rfl) (mcb_158 rfl) H with ⟨g8, g0, _, H⟩ | ⟨g8, g0, _, H⟩
                · refine pG_pos (c := 0 ≤ ((M (l + 5) (ix x5)) - (kI 10000))) g8 ?_
                  replace H := pRun (ls' := [.ref l, .int p1, .int p2, .ref fa, .int x4, .int x5, .int (M (l + 5) (ix x5)), .int ((M (l + 5) (ix x5)) - (kI 10000))]) (st' := [.int ((M (l + 5) (ix x5)) - (kI 10000)), .ref fa, .int x4, .ref (l + 6)]) 2 rfl H
                  obtain ⟨g9, H⟩ := pIld (n := 14) (pLt hfa) (pLn hS hfa) H
                  refine pG_gd g9 ?_
                  obtain ⟨g0, _, H⟩ := pFall (mcb_158 rfl) H
                  obtain ⟨g10, M1, eM1, H⟩ := pIst (n := 32) (pLn hS (pRl (n := 32) hl (by decide +kernel))) H
                  refine pG_gd g10 (pG_put (M2 := M1) eM1 ?_)
                  replace H := pRun (ls' := [.ref l, .int p1, .int p2, .ref fa, .int (x4 + kI 1), .int x5, .int (M (l + 5) (ix x5)), .int ((M (l + 5) (ix x5)) - (kI 10000))]) (st' := []) 1 rfl H
                  obtain ⟨g0, _, H⟩ := pGo (n1 := 17) rfl (mcb_158 rfl) H
                  replace H := pRun (ls' := [.ref l, .int p1, .int p2, .ref fa, .int (x4 + kI 1), .int (x5 + kI 1), .int (M (l + 5) (ix x5)), .int ((M (l + 5) (ix x5)) - (kI 10000))]) (st' := []) 1 rfl H
                  obtain ⟨g0, _, H⟩ := pGo (n1 := 1) rfl (mcb_158 rfl) H
                  exact (ih _ (by omega)) _ _ _ _  _ H
                · refine pG_neg (c := 0 ≤ ((M (l + 5) (ix x5)) - (kI 10000))) g8 ?_
                  replace H := pRun (ls' := [.ref l, .int p1, .int p2, .ref fa, .int x4, .int x5, .int (M (l + 5) (ix x5)), .int ((M (l + 5) (ix x5)) - (kI 10000))]) (st' := [.int (M (l + 5) (ix x5)), .int x4, .ref (l + 6)]) 1 rfl H
                  obtain ⟨g0, _, H⟩ := pGo (n1 := 10) rfl (mcb_158 rfl) H
                  obtain ⟨g9, M1, eM1, H⟩ := pIst (n := 32) (pLn hS (pRl (n := 32) hl (by decide +kernel))) H
                  refine pG_gd g9 (pG_put (M2 := M1) eM1 ?_)
                  replace H := pRun (ls' := [.ref l, .int p1, .int p2, .ref fa, .int (x4 + kI 1), .int x5, .int (M (l + 5) (ix x5)), .int ((M (l + 5) (ix x5)) - (kI 10000))]) (st' := []) 1 rfl H
                  obtain ⟨g0, _, H⟩ := pGo (n1 := 17) rfl (mcb_158 rfl) H
                  replace H := pRun (ls' := [.ref l, .int p1, .int p2, .ref fa, .int (x4 + kI 1), .int (x5 + kI 1), .int (M (l + 5) (ix x5)), .int ((M (l + 5) (ix x5)) - (kI 10000))]) (st' := []) 1 rfl H
                  obtain ⟨g0, _, H⟩ := pGo (n1 := 1) rfl (mcb_158 rfl) H
                  exact (ih _ (by omega)) _ _ _ _  _ H
theorem L_158_1_ok {X : aX} {F d : Nat} {K : Nat → aK} (hS : pS K) {l : Nat} {p1 : Int32} {p2 : Int32} {fa : Nat} (hl : pK 2 l = true) (hfa : pCa fa 14 = true) {out : Option Value × aH} {f : Nat} {x4 : Int32} {x5 : Int32} {u6 : Value} {u7 : Value} {M : pMem} (H : pm X F d 158 f 1 [.iload 5, .ifCond .lt 18] [.ref l, .int p1, .int p2, .ref fa, .int x4, .int x5, u6, u7] [] (pH K M) out) : pG eI K out (L_158_1 l p1 p2 fa x4 x5 M) := by
  refine pG_all (C := fun P : (Int32 → Int32 → pMem → pT Int32) => C_158 l p1 p2 fa P) (T := fun P => P x4 x5 M) eI_inj (fun _ _ _ _ _ => True) ?_ (fun P hP => (K_158 hS hl hfa P hP f) _ _ _ _ _ H)
  exact (fun _ _ _ _ _ _ => trivial)
theorem D_158_ok {X : aX} {F d : Nat} {K : Nat → aK} (hS : pS K) {l : Nat} {p1 : Int32} {p2 : Int32} {fa : Nat} (hl : pK 2 l = true) (hfa : pCa fa 14 = true) {M : pMem} {out : Option Value × aH} (H : aM X F d 158 [.ref l, .int p1, .int p2, .ref fa] (pH K M) = some out) : pG eI K out (D_158 l p1 p2 fa M) := by
  obtain ⟨d', g0, _, H⟩ := pEnt (n := 8) (ls := [.ref l, .int p1, .int p2, .ref fa, aD, aD, aD, aD]) (mcb_158 rfl) (by decide +kernel) rfl H
  unfold D_158
  replace H := pRun (ls' := [.ref l, .int p1, .int p2, .ref fa, .int (kI 0), .int p1, aD, aD]) (st' := []) 4 rfl H
  obtain ⟨g0, _, H⟩ := pFall (mcb_158 rfl) H
  exact L_158_1_ok hS hl hfa  H
def l_158 (l : Nat) (fa : Nat) : List (Nat × Nat) := []
theorem FC_158 {l : Nat} {p1 : Int32} {p2 : Int32} {fa : Nat} (hl : pK 2 l = true) (hfa : pCa fa 14 = true) : C_158 l p1 p2 fa (fun _ _ M _ N => pFr (l_158 l fa) M N) := fun x4 x5 M => show pTf (l_158 l fa) M (S_158_1 l p1 p2 fa _ x4 x5 M) from (tf_if (tf_if (tf_ret pFr_refl) (tf_gd fun g3 => (tf_ret pFr_refl))) (tf_if (tf_if (tf_ret pFr_refl) (tf_gd fun g4 => (tf_ret pFr_refl))) (tf_if (tf_if (tf_ret pFr_refl) (tf_gd fun g5 => (tf_ret pFr_refl))) (tf_gd fun g4 => (tf_if (tf_if (tf_if (tf_jump pFr_refl) (tf_if (tf_jump pFr_refl) (tf_gd fun g9 => (tf_gd fun g10 => (tf_gd fun g11 => (tf_putS pFr_refl (pScrL hl) fun M1 f1 => (tf_jump f1))))))) (tf_if (tf_if (tf_jump pFr_refl) (tf_if (tf_jump pFr_refl) (tf_gd fun g10 => (tf_gd fun g11 => (tf_gd fun g12 => (tf_putS pFr_refl (pScrL hl) fun M1 f1 => (tf_jump f1))))))) (tf_gd fun g8 => (tf_gd fun g9 => (tf_putS pFr_refl (pScrL hl) fun M1 f1 => (tf_jump f1)))))) (tf_if (tf_if (tf_if (tf_jump pFr_refl) (tf_if (tf_jump pFr_refl) (tf_gd fun g10 => (tf_gd fun g11 => (tf_gd fun g12 => (tf_putS pFr_refl (pScrL hl) fun M1 f1 => (tf_jump f1))))))) (tf_if (tf_if (tf_jump pFr_refl) (tf_if (tf_jump pFr_refl) (tf_gd fun g11 => (tf_gd fun g12 => (tf_gd fun g13 => (tf_putS pFr_refl (pScrL hl) fun M1 f1 => (tf_jump f1))))))) (tf_gd fun g9 => (tf_gd fun g10 => (tf_putS pFr_refl (pScrL hl) fun M1 f1 => (tf_jump f1)))))) (tf_if (tf_if (tf_if (tf_jump pFr_refl) (tf_if (tf_jump pFr_refl) (tf_gd fun g11 => (tf_gd fun g12 => (tf_gd fun g13 => (tf_putS pFr_refl (pScrL hl) fun M1 f1 => (tf_jump f1))))))) (tf_if (tf_if (tf_jump pFr_refl) (tf_if (tf_jump pFr_refl) (tf_gd fun g12 => (tf_gd fun g13 => (tf_gd fun g14 => (tf_putS pFr_refl (pScrL hl) fun M1 f1 => (tf_jump f1))))))) (tf_gd fun g10 => (tf_gd fun g11 => (tf_putS pFr_refl (pScrL hl) fun M1 f1 => (tf_jump f1)))))) (tf_if (tf_gd fun g9 => (tf_gd fun g10 => (tf_putS pFr_refl (pScrL hl) fun M1 f1 => (tf_jump f1)))) (tf_gd fun g9 => (tf_putS pFr_refl (pScrL hl) fun M1 f1 => (tf_jump f1)))))))))))
theorem F_158 {l : Nat} {p1 : Int32} {p2 : Int32} {fa : Nat} (hl : pK 2 l = true) (hfa : pCa fa 14 = true) {M : pMem} {v : Int32} {N : pMem} (h : D_158 l p1 p2 fa M v N) : pFr (l_158 l fa) M N :=
  (show pTf (l_158 l fa) M (D_158 l p1 p2 fa M) from (tf_jumpL (fun _ _ M _ N => pFr (l_158 l fa) M N) (FC_158 hl hfa) rfl pFr_refl)) v N h
/-- TwoCamps$Law.tells(I[II)I -/
def S_157_1 (l : Nat) (p1 : Int32) (fa : Nat) (p3 : Int32) (P1 : Int32 → pMem → pT Int32) (x4 : Int32) (M : pMem) : pT Int32 := tIf ((M l 0) ≤ x4) (tRet p3 M) (tIf ((kI 16) ≤ x4) (tRet p3 M) (tGd (pIn x4 16) <| tIf (¬ (M (l + 1) (ix x4)) = p1) (P1 (x4 + kI 1) M) (tGd (pIn x4 16) <| tGd (pIn x4 16) <| tIf ((M (l + 3) (ix x4)) = (M (l + 4) (ix x4))) (tGd (pIn x4 16) <| tGd (pIn x4 16) <| tCall (D_158 l (M (l + 2) (ix x4)) (M (l + 3) (ix x4)) fa M) fun v1 M1 => tRet v1 M1) (tGd (pIn x4 16) <| tGd (pIn x4 16) <| tCall (D_158 l (M (l + 3) (ix x4)) (M (l + 4) (ix x4)) fa M) fun v1 M1 => tIf (v1 = 0) (P1 (x4 + kI 1) M1) (tGd (pIn x4 16) <| tGd (pIn x4 16) <| tCall (D_158 l (M1 (l + 2) (ix x4)) (M1 (l + 3) (ix x4)) fa M1) fun v2 M2 => tRet v2 M2)))))
def C_157 (l : Nat) (p1 : Int32) (fa : Nat) (p3 : Int32) (P1 : Int32 → pMem → pT Int32) : Prop := (∀ (x4 : Int32) M v N, S_157_1 l p1 fa p3 P1 x4 M v N → P1 x4 M v N)
def L_157_1 (l : Nat) (p1 : Int32) (fa : Nat) (p3 : Int32) (x4 : Int32) (M : pMem) : pT Int32 := fun v N => ∀ P : (Int32 → pMem → pT Int32), C_157 l p1 fa p3 P → P x4 M v N
def D_157 (l : Nat) (p1 : Int32) (fa : Nat) (p3 : Int32) (M : pMem) : pT Int32 := L_157_1 l p1 fa p3 (kI 0) M
theorem K_157 {X : aX} {F d : Nat} {K : Nat → aK} (hS : pS K) {l : Nat} {p1 : Int32} {fa : Nat} {p3 : Int32} (hl : pK 2 l = true) (hfa : pCa fa 14 = true) {out : Option Value × aH} (P1 : Int32 → pMem → pT Int32) (hC : C_157 l p1 fa p3 P1) : ∀ f, (∀ (x4 : Int32) (u5 : Value) M, pm X F d 157 f 1 [.iload 4, .aload 0, .getfield 22602000, .if_icmp .ge 11] [.ref l, .int p1, .ref fa, .int p3, .int x4, u5] [] (pH K M) out → pG eI K out (P1 x4 M)) := by
  intro f
  induction f using Nat.strongRecOn with
  | _ f ih =>
    intro x4 u5 M H
    refine pG_mono (fun v N h => hC x4 M v N h) ?_
    unfold S_157_1
    replace H := pRun (ls' := [.ref l, .int p1, .ref fa, .int p3, .int x4, u5]) (st' := [.ref l, .int x4]) 2 rfl H
    replace H := pGetN (v := M l 0) rfl (by decide) H
    rcases pIfc (n1 := 11) rfl (mcb_157 rfl) (mcb_157 rfl) H with ⟨g1, g0, _, H⟩ | ⟨g1, g0, _, H⟩
    · refine pG_pos (c := (M l 0) ≤ x4) g1 ?_
      replace H := pRun (ls' := [.ref l, .int p1, .ref fa, .int p3, .int x4, u5]) (st' := [.int p3]) 1 rfl H
      exact pG_ret (pRetI H)
    · refine pG_neg (c := (M l 0) ≤ x4) g1 ?_
      replace H := pRun (ls' := [.ref l, .int p1, .ref fa, .int p3, .int x4, u5]) (st' := [.int (kI 16), .int x4]) 2 rfl H
      rcases pIfc (n1 := 11) rfl (mcb_157 rfl) (mcb_157 rfl) H with ⟨g2, g0, _, H⟩ | ⟨g2, g0, _, H⟩
      · refine pG_pos (c := (kI 16) ≤ x4) g2 ?_
        replace H := pRun (ls' := [.ref l, .int p1, .ref fa, .int p3, .int x4, u5]) (st' := [.int p3]) 1 rfl H
        exact pG_ret (pRetI H)
      · refine pG_neg (c := (kI 16) ≤ x4) g2 ?_
        replace H := pRun (ls' := [.ref l, .int p1, .ref fa, .int p3, .int x4, u5]) (st' := [.ref l]) 1 rfl H
        replace H := pGetR (r := l + 1) (pRw hS hl (by decide +kernel)) rfl H
        replace H := pRun (ls' := [.ref l, .int p1, .ref fa, .int p3, .int x4, u5]) (st' := [.int x4, .ref (l + 1)]) 1 rfl H
        obtain ⟨g3, H⟩ := pIld (n := 16) (pLt (pRl (n := 16) hl (by decide +kernel))) (pLn hS (pRl (n := 16) hl (by decide +kernel))) H
        refine pG_gd g3 ?_
        replace H := pRun (ls' := [.ref l, .int p1, .ref fa, .int p3, .int x4, u5]) (st' := [.int p1, .int (M (l + 1) (ix x4))]) 1 rfl H
        rcases pIfc (n1 := 5) rfl (mcb_157 rfl) (mcb_157 rfl) H with ⟨g4, g0, _, H⟩ | ⟨g4, g0, _, H⟩
        · refine pG_pos (c := ¬ (M (l + 1) (ix x4)) = p1) g4 ?_
          replace H := pRun (ls' := [.ref l, .int p1, .ref fa, .int p3, .int x4, u5]) (st' := [.int (kI 0)]) 1 rfl H
          obtain ⟨g0, _, H⟩ := pFall (mcb_157 rfl) H
          replace H := pRun (ls' := [.ref l, .int p1, .ref fa, .int p3, .int x4, .int (kI 0)]) (st' := [.int (kI 0)]) 2 rfl H
          rcases pIf0 (n1 := 10) rfl (mcb_157 rfl) (mcb_157 rfl) H with ⟨g5, g0, _, H⟩ | ⟨g5, g0, _, H⟩
          · replace H := pRun (ls' := [.ref l, .int p1, .ref fa, .int p3, .int (x4 + kI 1), .int (kI 0)]) (st' := []) 1 rfl H
            obtain ⟨g0, _, H⟩ := pGo (n1 := 1) rfl (mcb_157 rfl) H
            exact (ih _ (by omega)) _ _  _ H
          · exact absurd (show ¬ ((kI 0) = 0) from g5) (by decide)
        · refine pG_neg (c := ¬ (M (l + 1) (ix x4)) = p1) g4 ?_
          replace H := pRun (ls' := [.ref l, .int p1, .ref fa, .int p3, .int x4, u5]) (st' := [.int (kI 1)]) 1 rfl H
          obtain ⟨g0, _, H⟩ := pGo (n1 := 6) rfl (mcb_157 rfl) H
          replace H := pRun (ls' := [.ref l, .int p1, .ref fa, .int p3, .int x4, .int (kI 1)]) (st' := [.int (kI 1)]) 2 rfl H
          rcases pIf0 (n1 := 10) rfl (mcb_157 rfl) (mcb_157 rfl) H with ⟨g5, g0, _, H⟩ | ⟨g5, g0, _, H⟩
          · exact absurd (show (kI 1) = 0 from g5) (by decide)
          · replace H := pRun (ls' := [.ref l, .int p1, .ref fa, .int p3, .int x4, .int (kI 1)]) (st' := [.ref l]) 1 rfl H
            replace H := pGetR (r := l + 3) (pRw hS hl (by decide +kernel)) rfl H
            replace H := pRun (ls' := [.ref l, .int p1, .ref fa, .int p3, .int x4, .int (kI 1)]) (st' := [.int x4, .ref (l + 3)]) 1 rfl H
            obtain ⟨g6, H⟩ := pIld (n := 16) (pLt (pRl (n := 16) hl (by decide +kernel))) (pLn hS (pRl (n := 16) hl (by decide +kernel))) H
            refine pG_gd g6 ?_
            replace H := pRun (ls' := [.ref l, .int p1, .ref fa, .int p3, .int x4, .int (kI 1)]) (st' := [.ref l, .int (M (l + 3) (ix x4))]) 1 rfl H
            replace H := pGetR (r := l + 4) (pRw hS hl (by decide +kernel)) rfl H
            replace H := pRun (ls' := [.ref l, .int p1, .ref fa, .int p3, .int x4, .int (kI 1)]) (st' := [.int x4, .ref (l + 4), .int (M (l + 3) (ix x4))]) 1 rfl H
            obtain ⟨g7, H⟩ := pIld (n := 16) (pLt (pRl (n := 16) hl (by decide +kernel))) (pLn hS (pRl (n := 16) hl (by decide +kernel))) H
            refine pG_gd g7 ?_
            rcases pIfc (n1 := 9) rfl (mcb_157 rfl) (mcb_157 rfl) H with ⟨g8, g0, _, H⟩ | ⟨g8, g0, _, H⟩
            · refine pG_pos (c := (M (l + 3) (ix x4)) = (M (l + 4) (ix x4))) g8 ?_
              replace H := pRun (ls' := [.ref l, .int p1, .ref fa, .int p3, .int x4, .int (kI 1)]) (st' := [.ref l, .ref l]) 2 rfl H
              replace H := pGetR (r := l + 2) (pRw hS hl (by decide +kernel)) rfl H
              replace H := pRun (ls' := [.ref l, .int p1, .ref fa, .int p3, .int x4, .int (kI 1)]) (st' := [.int x4, .ref (l + 2), .ref l]) 1 rfl H
              obtain ⟨g9, H⟩ := pIld (n := 16) (pLt (pRl (n := 16) hl (by decide +kernel))) (pLn hS (pRl (n := 16) hl (by decide +kernel))) H
              refine pG_gd g9 ?_
              replace H := pRun (ls' := [.ref l, .int p1, .ref fa, .int p3, .int x4, .int (kI 1)]) (st' := [.ref l, .int (M (l + 2) (ix x4)), .ref l]) 1 rfl H
              replace H := pGetR (r := l + 3) (pRw hS hl (by decide +kernel)) rfl H
              replace H := pRun (ls' := [.ref l, .int p1, .ref fa, .int p3, .int x4, .int (kI 1)]) (st' := [.int x4, .ref (l + 3), .int (M (l + 2) (ix x4)), .ref l]) 1 rfl H
              obtain ⟨g10, H⟩ := pIld (n := 16) (pLt (pRl (n := 16) hl (by decide +kernel))) (pLn hS (pRl (n := 16) hl (by decide +kernel))) H
              refine pG_gd g10 ?_
              replace H := pRun (ls' := [.ref l, .int p1, .ref fa, .int p3, .int x4, .int (kI 1)]) (st' := [.ref fa, .int (M (l + 3) (ix x4)), .int (M (l + 2) (ix x4)), .ref l]) 1 rfl H
              obtain ⟨rv, h1, hc, H⟩ := pCalV 158 3 l (as := [.int (M (l + 2) (ix x4)), .int (M (l + 3) (ix x4)), .ref fa]) (rest := []) rfl (by decide) (by decide +kernel) rfl rfl H
              obtain ⟨v1, M1, hD, H⟩ := pUseI (D_158_ok hS hl hfa hc) H
              refine pG_call (x := v1) (M1 := M1) hD ?_
              exact pG_ret (pRetI H)
            · refine pG_neg (c := (M (l + 3) (ix x4)) = (M (l + 4) (ix x4))) g8 ?_
              replace H := pRun (ls' := [.ref l, .int p1, .ref fa, .int p3, .int x4, .int (kI 1)]) (st' := [.ref l, .ref l]) 2 rfl H
              replace H := pGetR (r := l + 3) (pRw hS hl (by decide +kernel)) rfl H
              replace H := pRun (ls' := [.ref l, .int p1, .ref fa, .int p3, .int x4, .int (kI 1)]) (st' := [.int x4, .ref (l + 3), .ref l]) 1 rfl H
              obtain ⟨g9, H⟩ := pIld (n := 16) (pLt (pRl (n := 16) hl (by decide +kernel))) (pLn hS (pRl (n := 16) hl (by decide +kernel))) H
              refine pG_gd g9 ?_
              replace H := pRun (ls' := [.ref l, .int p1, .ref fa, .int p3, .int x4, .int (kI 1)]) (st' := [.ref l, .int (M (l + 3) (ix x4)), .ref l]) 1 rfl H
              replace H := pGetR (r := l + 4) (pRw hS hl (by decide +kernel)) rfl H
              replace H := pRun (ls' := [.ref l, .int p1, .ref fa, .int p3, .int x4, .int (kI 1)]) (st' := [.int x4, .ref (l + 4), .int (M (l + 3) (ix x4)), .ref l]) 1 rfl H
              obtain ⟨g10, H⟩ := pIld (n := 16) (pLt (pRl (n := 16) hl (by decide +kernel))) (pLn hS (pRl (n := 16) hl (by decide +kernel))) H
              refine pG_gd g10 ?_
              replace H := pRun (ls' := [.ref l, .int p1, .ref fa, .int p3, .int x4, .int (kI 1)]) (st' := [.ref fa, .int (M (l + 4) (ix x4)), .int (M (l + 3) (ix x4)), .ref l]) 1 rfl H
              obtain ⟨rv, h1, hc, H⟩ := pCalV 158 3 l (as := [.int (M (l + 3) (ix x4)), .int (M (l + 4) (ix x4)), .ref fa]) (rest := []) rfl (by decide) (by decide +kernel) rfl rfl H
              obtain ⟨v1, M1, hD, H⟩ := pUseI (D_158_ok hS hl hfa hc) H
              refine pG_call (x := v1) (M1 := M1) hD ?_
              rcases pIf0 (n1 := 10) rfl (mcb_157 rfl) (mcb_157 rfl) H with ⟨g11, g0, _, H⟩ | ⟨g11, g0, _, H⟩
              · refine pG_pos (c := v1 = 0) g11 ?_
                replace H := pRun (ls' := [.ref l, .int p1, .ref fa, .int p3, .int (x4 + kI 1), .int (kI 1)]) (st' := []) 1 rfl H
                obtain ⟨g0, _, H⟩ := pGo (n1 := 1) rfl (mcb_157 rfl) H
                exact (ih _ (by omega)) _ _  _ H
              · refine pG_neg (c := v1 = 0) g11 ?_
                replace H := pRun (ls' := [.ref l, .int p1, .ref fa, .int p3, .int x4, .int (kI 1)]) (st' := [.ref l, .ref l]) 2 rfl H
                replace H := pGetR (r := l + 2) (pRw hS hl (by decide +kernel)) rfl H
                replace H := pRun (ls' := [.ref l, .int p1, .ref fa, .int p3, .int x4, .int (kI 1)]) (st' := [.int x4, .ref (l + 2), .ref l]) 1 rfl H
                obtain ⟨g12, H⟩ := pIld (n := 16) (pLt (pRl (n := 16) hl (by decide +kernel))) (pLn hS (pRl (n := 16) hl (by decide +kernel))) H
                refine pG_gd g12 ?_
                replace H := pRun (ls' := [.ref l, .int p1, .ref fa, .int p3, .int x4, .int (kI 1)]) (st' := [.ref l, .int (M1 (l + 2) (ix x4)), .ref l]) 1 rfl H
                replace H := pGetR (r := l + 3) (pRw hS hl (by decide +kernel)) rfl H
                replace H := pRun (ls' := [.ref l, .int p1, .ref fa, .int p3, .int x4, .int (kI 1)]) (st' := [.int x4, .ref (l + 3), .int (M1 (l + 2) (ix x4)), .ref l]) 1 rfl H
                obtain ⟨g13, H⟩ := pIld (n := 16) (pLt (pRl (n := 16) hl (by decide +kernel))) (pLn hS (pRl (n := 16) hl (by decide +kernel))) H
                refine pG_gd g13 ?_
                replace H := pRun (ls' := [.ref l, .int p1, .ref fa, .int p3, .int x4, .int (kI 1)]) (st' := [.ref fa, .int (M1 (l + 3) (ix x4)), .int (M1 (l + 2) (ix x4)), .ref l]) 1 rfl H
                obtain ⟨rv, h1, hc, H⟩ := pCalV 158 3 l (as := [.int (M1 (l + 2) (ix x4)), .int (M1 (l + 3) (ix x4)), .ref fa]) (rest := []) rfl (by decide) (by decide +kernel) rfl rfl H
                obtain ⟨v2, M2, hD, H⟩ := pUseI (D_158_ok hS hl hfa hc) H
                refine pG_call (x := v2) (M1 := M2) hD ?_
                exact pG_ret (pRetI H)
theorem L_157_1_ok {X : aX} {F d : Nat} {K : Nat → aK} (hS : pS K) {l : Nat} {p1 : Int32} {fa : Nat} {p3 : Int32} (hl : pK 2 l = true) (hfa : pCa fa 14 = true) {out : Option Value × aH} {f : Nat} {x4 : Int32} {u5 : Value} {M : pMem} (H : pm X F d 157 f 1 [.iload 4, .aload 0, .getfield 22602000, .if_icmp .ge 11] [.ref l, .int p1, .ref fa, .int p3, .int x4, u5] [] (pH K M) out) : pG eI K out (L_157_1 l p1 fa p3 x4 M) := by
  refine pG_all (C := fun P : (Int32 → pMem → pT Int32) => C_157 l p1 fa p3 P) (T := fun P => P x4 M) eI_inj (fun _ _ _ _ => True) ?_ (fun P hP => (K_157 hS hl hfa P hP f) _ _ _ H)
  exact (fun _ _ _ _ _ => trivial)
theorem D_157_ok {X : aX} {F d : Nat} {K : Nat → aK} (hS : pS K) {l : Nat} {p1 : Int32} {fa : Nat} {p3 : Int32} (hl : pK 2 l = true) (hfa : pCa fa 14 = true) {M : pMem} {out : Option Value × aH} (H : aM X F d 157 [.ref l, .int p1, .ref fa, .int p3] (pH K M) = some out) : pG eI K out (D_157 l p1 fa p3 M) := by
  obtain ⟨d', g0, _, H⟩ := pEnt (n := 6) (ls := [.ref l, .int p1, .ref fa, .int p3, aD, aD]) (mcb_157 rfl) (by decide +kernel) rfl H
  unfold D_157
  replace H := pRun (ls' := [.ref l, .int p1, .ref fa, .int p3, .int (kI 0), aD]) (st' := []) 2 rfl H
  obtain ⟨g0, _, H⟩ := pFall (mcb_157 rfl) H
  exact L_157_1_ok hS hl hfa  H
def l_157 (l : Nat) (fa : Nat) : List (Nat × Nat) := []
theorem FC_157 {l : Nat} {p1 : Int32} {fa : Nat} {p3 : Int32} (hl : pK 2 l = true) (hfa : pCa fa 14 = true) : C_157 l p1 fa p3 (fun _ M _ N => pFr (l_157 l fa) M N) := fun x4 M => show pTf (l_157 l fa) M (S_157_1 l p1 fa p3 _ x4 M) from (tf_if (tf_ret pFr_refl) (tf_if (tf_ret pFr_refl) (tf_gd fun g3 => (tf_if (tf_jump pFr_refl) (tf_gd fun g6 => (tf_gd fun g7 => (tf_if (tf_gd fun g9 => (tf_gd fun g10 => (tf_call pFr_refl (fun _ _ h => F_158 hl hfa h) [] rfl fun _ M1 f1 => (tf_ret f1)))) (tf_gd fun g9 => (tf_gd fun g10 => (tf_call pFr_refl (fun _ _ h => F_158 hl hfa h) [] rfl fun _ M1 f1 => (tf_if (tf_jump f1) (tf_gd fun g12 => (tf_gd fun g13 => (tf_call f1 (fun _ _ h => F_158 hl hfa h) [] rfl fun _ M2 f2 => (tf_ret f2)))))))))))))))
theorem F_157 {l : Nat} {p1 : Int32} {fa : Nat} {p3 : Int32} (hl : pK 2 l = true) (hfa : pCa fa 14 = true) {M : pMem} {v : Int32} {N : pMem} (h : D_157 l p1 fa p3 M v N) : pFr (l_157 l fa) M N :=
  (show pTf (l_157 l fa) M (D_157 l p1 fa p3 M) from (tf_jumpL (fun _ M _ N => pFr (l_157 l fa) M N) (FC_157 hl hfa) rfl pFr_refl)) v N h
/-- TwoCamps$Plan.copyFrom(LTwoCamps$Plan;)V -/
def D_161 (pl : Nat) (pl2 : Nat) (M : pMem) : pT Unit := tPut (aPut M pl 0 (M pl2 0)) fun M1 => tPut (aRow M1 (pl + 1) (va_cpy (M1 (pl2 + 1)) (M1 (pl + 1)) (ix (kI 0)) (ix (kI 0)) (ix (kI 24)))) fun M2 => tPut (aRow M2 (pl + 2) (va_cpy (M2 (pl2 + 2)) (M2 (pl + 2)) (ix (kI 0)) (ix (kI 0)) (ix (kI 24)))) fun M3 => tPut (aRow M3 (pl + 3) (va_cpy (M3 (pl2 + 3)) (M3 (pl + 3)) (ix (kI 0)) (ix (kI 0)) (ix (kI 24)))) fun M4 => tRet () M4
theorem D_161_ok {X : aX} {F d : Nat} {K : Nat → aK} (hS : pS K) {pl : Nat} {pl2 : Nat} (hpl : pK 3 pl = true) (hpl2 : pK 3 pl2 = true) {M : pMem} {out : Option Value × aH} (H : aM X F d 161 [.ref pl, .ref pl2] (pH K M) = some out) : pG eU K out (D_161 pl pl2 M) := by
  obtain ⟨d', g0, _, H⟩ := pEnt (n := 2) (ls := [.ref pl, .ref pl2]) (mcb_161 rfl) (by decide +kernel) rfl H
  unfold D_161
  replace H := pRun (ls' := [.ref pl, .ref pl2]) (st' := [.ref pl2, .ref pl]) 2 rfl H
  replace H := pGetN (v := M pl2 0) rfl (by decide) H
  obtain ⟨M1, eM1, H⟩ := pPutN (j := 0) rfl H
  refine pG_put (M2 := M1) eM1 ?_
  replace H := pRun (ls' := [.ref pl, .ref pl2]) (st' := [.ref pl2]) 1 rfl H
  replace H := pGetR (r := pl2 + 1) (pRw hS hpl2 (by decide +kernel)) rfl H
  replace H := pRun (ls' := [.ref pl, .ref pl2]) (st' := [.ref pl, .int (kI 0), .ref (pl2 + 1)]) 2 rfl H
  replace H := pGetR (r := pl + 1) (pRw hS hpl (by decide +kernel)) rfl H
  replace H := pRun (ls' := [.ref pl, .ref pl2]) (st' := [.int (kI 24), .int (kI 0), .ref (pl + 1), .int (kI 0), .ref (pl2 + 1)]) 2 rfl H
  obtain ⟨M2, eM2, H⟩ := pCpy rfl H
  refine pG_put (M2 := M2) eM2 ?_
  replace H := pRun (ls' := [.ref pl, .ref pl2]) (st' := [.ref pl2]) 1 rfl H
  replace H := pGetR (r := pl2 + 2) (pRw hS hpl2 (by decide +kernel)) rfl H
  replace H := pRun (ls' := [.ref pl, .ref pl2]) (st' := [.ref pl, .int (kI 0), .ref (pl2 + 2)]) 2 rfl H
  replace H := pGetR (r := pl + 2) (pRw hS hpl (by decide +kernel)) rfl H
  replace H := pRun (ls' := [.ref pl, .ref pl2]) (st' := [.int (kI 24), .int (kI 0), .ref (pl + 2), .int (kI 0), .ref (pl2 + 2)]) 2 rfl H
  obtain ⟨M3, eM3, H⟩ := pCpy rfl H
  refine pG_put (M2 := M3) eM3 ?_
  replace H := pRun (ls' := [.ref pl, .ref pl2]) (st' := [.ref pl2]) 1 rfl H
  replace H := pGetR (r := pl2 + 3) (pRw hS hpl2 (by decide +kernel)) rfl H
  replace H := pRun (ls' := [.ref pl, .ref pl2]) (st' := [.ref pl, .int (kI 0), .ref (pl2 + 3)]) 2 rfl H
  replace H := pGetR (r := pl + 3) (pRw hS hpl (by decide +kernel)) rfl H
  replace H := pRun (ls' := [.ref pl, .ref pl2]) (st' := [.int (kI 24), .int (kI 0), .ref (pl + 3), .int (kI 0), .ref (pl2 + 3)]) 2 rfl H
  obtain ⟨M4, eM4, H⟩ := pCpy rfl H
  refine pG_put (M2 := M4) eM4 ?_
  exact pG_ret (pRetU H)
def l_161 (pl : Nat) (pl2 : Nat) : List (Nat × Nat) := [(pl, 0), (pl + 1, 999), (pl + 2, 999), (pl + 3, 999)]
theorem F_161 {pl : Nat} {pl2 : Nat} (hpl : pK 3 pl = true) (hpl2 : pK 3 pl2 = true) {M : pMem} {v : Unit} {N : pMem} (h : D_161 pl pl2 M v N) : pFr (l_161 pl pl2) M N :=
  (show pTf (l_161 pl pl2) M (D_161 pl pl2 M) from (tf_put pFr_refl 0 rfl fun M1 f1 => (tf_row f1 1 rfl fun M2 f2 => (tf_row f2 2 rfl fun M3 f3 => (tf_row f3 3 rfl fun M4 f4 => (tf_ret f4)))))) v N h
/-- TwoCamps$Plan.clear()V -/
def D_162 (pl : Nat) (M : pMem) : pT Unit := tPut (aPut M pl 0 (kI 0)) fun M1 => tPut (aPut M1 pl 1 (kI (-1))) fun M2 => tRet () M2
theorem D_162_ok {X : aX} {F d : Nat} {K : Nat → aK} (hS : pS K) {pl : Nat} (hpl : pK 3 pl = true) {M : pMem} {out : Option Value × aH} (H : aM X F d 162 [.ref pl] (pH K M) = some out) : pG eU K out (D_162 pl M) := by
  obtain ⟨d', g0, _, H⟩ := pEnt (n := 1) (ls := [.ref pl]) (mcb_162 rfl) (by decide +kernel) rfl H
  unfold D_162
  replace H := pRun (ls' := [.ref pl]) (st' := [.int (kI 0), .ref pl]) 2 rfl H
  obtain ⟨M1, eM1, H⟩ := pPutN (j := 0) rfl H
  refine pG_put (M2 := M1) eM1 ?_
  replace H := pRun (ls' := [.ref pl]) (st' := [.int (kI (-1)), .ref pl]) 2 rfl H
  obtain ⟨M2, eM2, H⟩ := pPutN (j := 1) rfl H
  refine pG_put (M2 := M2) eM2 ?_
  exact pG_ret (pRetU H)
def l_162 (pl : Nat) : List (Nat × Nat) := [(pl, 0), (pl, 1)]
theorem F_162 {pl : Nat} (hpl : pK 3 pl = true) {M : pMem} {v : Unit} {N : pMem} (h : D_162 pl M v N) : pFr (l_162 pl) M N :=
  (show pTf (l_162 pl) M (D_162 pl M) from (tf_put pFr_refl 0 rfl fun M1 f1 => (tf_put f1 1 rfl fun M2 f2 => (tf_ret f2)))) v N h
/-- TwoCamps$Plan.addDay(II)V -/
def D_163 (pl : Nat) (p1 : Int32) (p2 : Int32) (M : pMem) : pT Unit := tIf ((M pl 0) < 0) (tPut (aPut M pl 1 (kI (-1))) fun M1 => tRet () M1) (tIf ((kI 24) ≤ (M pl 0)) (tPut (aPut M pl 1 (kI (-1))) fun M1 => tRet () M1) (tGd (pIn (M pl 0) 24) <| tPut (aPut M (pl + 1) (ix (M pl 0)) p1) fun M1 => tGd (pIn (M1 pl 0) 24) <| tPut (aPut M1 (pl + 2) (ix (M1 pl 0)) p2) fun M2 => tGd (pIn (M2 pl 0) 24) <| tPut (aPut M2 (pl + 3) (ix (M2 pl 0)) (M2 pl 1)) fun M3 => tPut (aPut M3 pl 0 ((M3 pl 0) + (kI 1))) fun M4 => tPut (aPut M4 pl 1 (kI (-1))) fun M5 => tRet () M5))
theorem D_163_ok {X : aX} {F d : Nat} {K : Nat → aK} (hS : pS K) {pl : Nat} {p1 : Int32} {p2 : Int32} (hpl : pK 3 pl = true) {M : pMem} {out : Option Value × aH} (H : aM X F d 163 [.ref pl, .int p1, .int p2] (pH K M) = some out) : pG eU K out (D_163 pl p1 p2 M) := by
  obtain ⟨d', g0, _, H⟩ := pEnt (n := 3) (ls := [.ref pl, .int p1, .int p2]) (mcb_163 rfl) (by decide +kernel) rfl H
  unfold D_163
  replace H := pRun (ls' := [.ref pl, .int p1, .int p2]) (st' := [.ref pl]) 1 rfl H
  replace H := pGetN (v := M pl 0) rfl (by decide) H
  rcases pIf0 (n1 := 3) rfl (mcb_163 rfl) (mcb_163 rfl) H with ⟨g1, g0, _, H⟩ | ⟨g1, g0, _, H⟩
  · refine pG_pos (c := (M pl 0) < 0) g1 ?_
    replace H := pRun (ls' := [.ref pl, .int p1, .int p2]) (st' := [.int (kI (-1)), .ref pl]) 2 rfl H
    obtain ⟨M1, eM1, H⟩ := pPutN (j := 1) rfl H
    refine pG_put (M2 := M1) eM1 ?_
    exact pG_ret (pRetU H)
  · refine pG_neg (c := (M pl 0) < 0) g1 ?_
    replace H := pRun (ls' := [.ref pl, .int p1, .int p2]) (st' := [.ref pl]) 1 rfl H
    replace H := pGetN (v := M pl 0) rfl (by decide) H
    replace H := pRun (ls' := [.ref pl, .int p1, .int p2]) (st' := [.int (kI 24), .int (M pl 0)]) 1 rfl H
    rcases pIfc (n1 := 3) rfl (mcb_163 rfl) (mcb_163 rfl) H with ⟨g2, g0, _, H⟩ | ⟨g2, g0, _, H⟩
    · refine pG_pos (c := (kI 24) ≤ (M pl 0)) g2 ?_
      replace H := pRun (ls' := [.ref pl, .int p1, .int p2]) (st' := [.int (kI (-1)), .ref pl]) 2 rfl H
      obtain ⟨M1, eM1, H⟩ := pPutN (j := 1) rfl H
      refine pG_put (M2 := M1) eM1 ?_
      exact pG_ret (pRetU H)
    · refine pG_neg (c := (kI 24) ≤ (M pl 0)) g2 ?_
      replace H := pRun (ls' := [.ref pl, .int p1, .int p2]) (st' := [.ref pl]) 1 rfl H
      replace H := pGetR (r := pl + 1) (pRw hS hpl (by decide +kernel)) rfl H
      replace H := pRun (ls' := [.ref pl, .int p1, .int p2]) (st' := [.ref pl, .ref (pl + 1)]) 1 rfl H
      replace H := pGetN (v := M pl 0) rfl (by decide) H
      replace H := pRun (ls' := [.ref pl, .int p1, .int p2]) (st' := [.int p1, .int (M pl 0), .ref (pl + 1)]) 1 rfl H
      obtain ⟨g3, M1, eM1, H⟩ := pIst (n := 24) (pLn hS (pRl (n := 24) hpl (by decide +kernel))) H
      refine pG_gd g3 (pG_put (M2 := M1) eM1 ?_)
      replace H := pRun (ls' := [.ref pl, .int p1, .int p2]) (st' := [.ref pl]) 1 rfl H
      replace H := pGetR (r := pl + 2) (pRw hS hpl (by decide +kernel)) rfl H
      replace H := pRun (ls' := [.ref pl, .int p1, .int p2]) (st' := [.ref pl, .ref (pl + 2)]) 1 rfl H
      replace H := pGetN (v := M1 pl 0) rfl (by decide) H
      replace H := pRun (ls' := [.ref pl, .int p1, .int p2]) (st' := [.int p2, .int (M1 pl 0), .ref (pl + 2)]) 1 rfl H
      obtain ⟨g4, M2, eM2, H⟩ := pIst (n := 24) (pLn hS (pRl (n := 24) hpl (by decide +kernel))) H
      refine pG_gd g4 (pG_put (M2 := M2) eM2 ?_)
      replace H := pRun (ls' := [.ref pl, .int p1, .int p2]) (st' := [.ref pl]) 1 rfl H
      replace H := pGetR (r := pl + 3) (pRw hS hpl (by decide +kernel)) rfl H
      replace H := pRun (ls' := [.ref pl, .int p1, .int p2]) (st' := [.ref pl, .ref (pl + 3)]) 1 rfl H
      replace H := pGetN (v := M2 pl 0) rfl (by decide) H
      replace H := pRun (ls' := [.ref pl, .int p1, .int p2]) (st' := [.ref pl, .int (M2 pl 0), .ref (pl + 3)]) 1 rfl H
      replace H := pGetN (v := M2 pl 1) rfl (by decide) H
      obtain ⟨g5, M3, eM3, H⟩ := pIst (n := 24) (pLn hS (pRl (n := 24) hpl (by decide +kernel))) H
      refine pG_gd g5 (pG_put (M2 := M3) eM3 ?_)
      replace H := pRun (ls' := [.ref pl, .int p1, .int p2]) (st' := [.ref pl, .ref pl]) 2 rfl H
      replace H := pGetN (v := M3 pl 0) rfl (by decide) H
      replace H := pRun (ls' := [.ref pl, .int p1, .int p2]) (st' := [.int ((M3 pl 0) + (kI 1)), .ref pl]) 2 rfl H
      obtain ⟨M4, eM4, H⟩ := pPutN (j := 0) rfl H
      refine pG_put (M2 := M4) eM4 ?_
      obtain ⟨g0, _, H⟩ := pFall (mcb_163 rfl) H
      replace H := pRun (ls' := [.ref pl, .int p1, .int p2]) (st' := [.int (kI (-1)), .ref pl]) 2 rfl H
      obtain ⟨M5, eM5, H⟩ := pPutN (j := 1) rfl H
      refine pG_put (M2 := M5) eM5 ?_
      exact pG_ret (pRetU H)
def l_163 (pl : Nat) : List (Nat × Nat) := [(pl, 1), (pl + 1, 999), (pl + 2, 999), (pl + 3, 999), (pl, 0)]
theorem F_163 {pl : Nat} {p1 : Int32} {p2 : Int32} (hpl : pK 3 pl = true) {M : pMem} {v : Unit} {N : pMem} (h : D_163 pl p1 p2 M v N) : pFr (l_163 pl) M N :=
  (show pTf (l_163 pl) M (D_163 pl p1 p2 M) from (tf_if (tf_put pFr_refl 0 rfl fun M1 f1 => (tf_ret f1)) (tf_if (tf_put pFr_refl 0 rfl fun M1 f1 => (tf_ret f1)) (tf_gd fun g3 => (tf_putA pFr_refl 1 rfl fun M1 f1 => (tf_gd fun g4 => (tf_putA f1 2 rfl fun M2 f2 => (tf_gd fun g5 => (tf_putA f2 3 rfl fun M3 f3 => (tf_put f3 4 rfl fun M4 f4 => (tf_put f4 0 rfl fun M5 f5 => (tf_ret f5)))))))))))) v N h
/-- TwoCamps$Question.askOfDay(LTwoCamps$Wood;I)V -/
def D_165c (w : Nat) (p2 : Int32) (M : pMem) : pT Unit := tCall (D_240_132 (kI 0) M) fun _ M1 => tGd (pIn (kI 0) 14) <| tPut (aPut M1 132 (ix (kI 0)) (M1 w 6)) fun M2 => tGd (pIn (kI 1) 14) <| tPut (aPut M2 132 (ix (kI 1)) (M2 w 7)) fun M3 => tGd (pIn (kI 2) 14) <| tPut (aPut M3 132 (ix (kI 2)) (M3 w 8)) fun M4 => tIf (¬ (M4 w 9) = p2) (tGd (pIn (kI 5) 14) <| tPut (aPut M4 132 (ix (kI 5)) (kI 0)) fun M5 => tIf (¬ (M5 w 9) = ((kI 1) - p2)) (tGd (pIn (kI 6) 14) <| tPut (aPut M5 132 (ix (kI 6)) (kI 0)) fun M6 => tIf (¬ (M6 w 10) = p2) (tGd (pIn (kI 7) 14) <| tPut (aPut M6 132 (ix (kI 7)) (kI 0)) fun M7 => tRet () M7) (tGd (pIn (kI 7) 14) <| tPut (aPut M6 132 (ix (kI 7)) (kI 1)) fun M7 => tRet () M7)) (tGd (pIn (kI 6) 14) <| tPut (aPut M5 132 (ix (kI 6)) (kI 1)) fun M6 => tIf (¬ (M6 w 10) = p2) (tGd (pIn (kI 7) 14) <| tPut (aPut M6 132 (ix (kI 7)) (kI 0)) fun M7 => tRet () M7) (tGd (pIn (kI 7) 14) <| tPut (aPut M6 132 (ix (kI 7)) (kI 1)) fun M7 => tRet () M7))) (tGd (pIn (kI 5) 14) <| tPut (aPut M4 132 (ix (kI 5)) (kI 1)) fun M5 => tIf (¬ (M5 w 9) = ((kI 1) - p2)) (tGd (pIn (kI 6) 14) <| tPut (aPut M5 132 (ix (kI 6)) (kI 0)) fun M6 => tIf (¬ (M6 w 10) = p2) (tGd (pIn (kI 7) 14) <| tPut (aPut M6 132 (ix (kI 7)) (kI 0)) fun M7 => tRet () M7) (tGd (pIn (kI 7) 14) <| tPut (aPut M6 132 (ix (kI 7)) (kI 1)) fun M7 => tRet () M7)) (tGd (pIn (kI 6) 14) <| tPut (aPut M5 132 (ix (kI 6)) (kI 1)) fun M6 => tIf (¬ (M6 w 10) = p2) (tGd (pIn (kI 7) 14) <| tPut (aPut M6 132 (ix (kI 7)) (kI 0)) fun M7 => tRet () M7) (tGd (pIn (kI 7) 14) <| tPut (aPut M6 132 (ix (kI 7)) (kI 1)) fun M7 => tRet () M7)))
theorem D_165c_ok {X : aX} {F d : Nat} {K : Nat → aK} (hS : pS K) {w : Nat} {p2 : Int32} (hw : pK 10 w = true) {M : pMem} {out : Option Value × aH} (H : aM X F d 165 [.ref 131, .ref w, .int p2] (pH K M) = some out) : pG eU K out (D_165c w p2 M) := by
  obtain ⟨d', g0, _, H⟩ := pEnt (n := 3) (ls := [.ref 131, .ref w, .int p2]) (mcb_165 rfl) (by decide +kernel) rfl H
  unfold D_165c
  replace H := pRun (ls' := [.ref 131, .ref w, .int p2]) (st' := [.ref 131]) 1 rfl H
  replace H := pGetR (r := 132) (pRf hS (by decide +kernel)) rfl H
  replace H := pRun (ls' := [.ref 131, .ref w, .int p2]) (st' := [.int (kI 0), .ref 132]) 1 rfl H
  obtain ⟨rv, h1, hc, H⟩ := pCalT 240 2 (as := [.ref 132, .int (kI 0)]) (rest := []) rfl (by decide) (by decide +kernel) rfl rfl H
  obtain ⟨v1, M1, hD, H⟩ := pUseU (D_240_132_ok hS hc) H
  refine pG_call (x := v1) (M1 := M1) hD ?_
  replace H := pRun (ls' := [.ref 131, .ref w, .int p2]) (st' := [.ref 131]) 1 rfl H
  replace H := pGetR (r := 132) (pRf hS (by decide +kernel)) rfl H
  replace H := pRun (ls' := [.ref 131, .ref w, .int p2]) (st' := [.ref w, .int (kI 0), .ref 132]) 2 rfl H
  replace H := pGetN (v := M1 w 6) rfl (by decide) H
  obtain ⟨g1, M2, eM2, H⟩ := pIst (n := 14) (pLn hS (show pCa 132 14 = true by decide +kernel)) H
  refine pG_gd g1 (pG_put (M2 := M2) eM2 ?_)
  replace H := pRun (ls' := [.ref 131, .ref w, .int p2]) (st' := [.ref 131]) 1 rfl H
  replace H := pGetR (r := 132) (pRf hS (by decide +kernel)) rfl H
  replace H := pRun (ls' := [.ref 131, .ref w, .int p2]) (st' := [.ref w, .int (kI 1), .ref 132]) 2 rfl H
  replace H := pGetN (v := M2 w 7) rfl (by decide) H
  obtain ⟨g2, M3, eM3, H⟩ := pIst (n := 14) (pLn hS (show pCa 132 14 = true by decide +kernel)) H
  refine pG_gd g2 (pG_put (M2 := M3) eM3 ?_)
  replace H := pRun (ls' := [.ref 131, .ref w, .int p2]) (st' := [.ref 131]) 1 rfl H
  replace H := pGetR (r := 132) (pRf hS (by decide +kernel)) rfl H
  replace H := pRun (ls' := [.ref 131, .ref w, .int p2]) (st' := [.ref w, .int (kI 2), .ref 132]) 2 rfl H
  replace H := pGetN (v := M3 w 8) rfl (by decide) H
  obtain ⟨g3, M4, eM4, H⟩ := pIst (n := 14) (pLn hS (show pCa 132 14 = true by decide +kernel)) H
  refine pG_gd g3 (pG_put (M2 := M4) eM4 ?_)
  replace H := pRun (ls' := [.ref 131, .ref w, .int p2]) (st' := [.ref 131]) 1 rfl H
  replace H := pGetR (r := 132) (pRf hS (by decide +kernel)) rfl H
  replace H := pRun (ls' := [.ref 131, .ref w, .int p2]) (st' := [.ref w, .int (kI 5), .ref 132]) 2 rfl H
  replace H := pGetN (v := M4 w 9) rfl (by decide) H
  replace H := pRun (ls' := [.ref 131, .ref w, .int p2]) (st' := [.int p2, .int (M4 w 9), .int (kI 5), .ref 132]) 1 rfl H
  rcases pIfc (n1 := 2) rfl (mcb_165 rfl) (mcb_165 rfl) H with ⟨g4, g0, _, H⟩ | ⟨g4, g0, _, H⟩
  · refine pG_pos (c := ¬ (M4 w 9) = p2) g4 ?_
    replace H := pRun (ls' := [.ref 131, .ref w, .int p2]) (st' := [.int (kI 0), .int (kI 5), .ref 132]) 1 rfl H
    obtain ⟨g0, _, H⟩ := pFall (mcb_165 rfl) H
    obtain ⟨g5, M5, eM5, H⟩ := pIst (n := 14) (pLn hS (show pCa 132 14 = true by decide +kernel)) H
    refine pG_gd g5 (pG_put (M2 := M5) eM5 ?_)
    replace H := pRun (ls' := [.ref 131, .ref w, .int p2]) (st' := [.ref 131]) 1 rfl H
    replace H := pGetR (r := 132) (pRf hS (by decide +kernel)) rfl H
    replace H := pRun (ls' := [.ref 131, .ref w, .int p2]) (st' := [.ref w, .int (kI 6), .ref 132]) 2 rfl H
    replace H := pGetN (v := M5 w 9) rfl (by decide) H
    replace H := pRun (ls' := [.ref 131, .ref w, .int p2]) (st' := [.int ((kI 1) - p2), .int (M5 w 9), .int (kI 6), .ref 132]) 3 rfl H
    rcases pIfc (n1 := 5) rfl (mcb_165 rfl) (mcb_165 rfl) H with ⟨g6, g0, _, H⟩ | ⟨g6, g0, _, H⟩
    · refine pG_pos (c := ¬ (M5 w 9) = ((kI 1) - p2)) g6 ?_
      replace H := pRun (ls' := [.ref 131, .ref w, .int p2]) (st' := [.int (kI 0), .int (kI 6), .ref 132]) 1 rfl H
      obtain ⟨g0, _, H⟩ := pFall (mcb_165 rfl) H
      obtain ⟨g7, M6, eM6, H⟩ := pIst (n := 14) (pLn hS (show pCa 132 14 = true by decide +kernel)) H
      refine pG_gd g7 (pG_put (M2 := M6) eM6 ?_)
      replace H := pRun (ls' := [.ref 131, .ref w, .int p2]) (st' := [.ref 131]) 1 rfl H
      replace H := pGetR (r := 132) (pRf hS (by decide +kernel)) rfl H
      replace H := pRun (ls' := [.ref 131, .ref w, .int p2]) (st' := [.ref w, .int (kI 7), .ref 132]) 2 rfl H
      replace H := pGetN (v := M6 w 10) rfl (by decide) H
      replace H := pRun (ls' := [.ref 131, .ref w, .int p2]) (st' := [.int p2, .int (M6 w 10), .int (kI 7), .ref 132]) 1 rfl H
      rcases pIfc (n1 := 8) rfl (mcb_165 rfl) (mcb_165 rfl) H with ⟨g8, g0, _, H⟩ | ⟨g8, g0, _, H⟩
      · refine pG_pos (c := ¬ (M6 w 10) = p2) g8 ?_
        replace H := pRun (ls' := [.ref 131, .ref w, .int p2]) (st' := [.int (kI 0), .int (kI 7), .ref 132]) 1 rfl H
        obtain ⟨g0, _, H⟩ := pFall (mcb_165 rfl) H
        obtain ⟨g9, M7, eM7, H⟩ := pIst (n := 14) (pLn hS (show pCa 132 14 = true by decide +kernel)) H
        refine pG_gd g9 (pG_put (M2 := M7) eM7 ?_)
        exact pG_ret (pRetU H)
      · refine pG_neg (c := ¬ (M6 w 10) = p2) g8 ?_
        replace H := pRun (ls' := [.ref 131, .ref w, .int p2]) (st' := [.int (kI 1), .int (kI 7), .ref 132]) 1 rfl H
        obtain ⟨g0, _, H⟩ := pGo (n1 := 9) rfl (mcb_165 rfl) H
        obtain ⟨g9, M7, eM7, H⟩ := pIst (n := 14) (pLn hS (show pCa 132 14 = true by decide +kernel)) H
        refine pG_gd g9 (pG_put (M2 := M7) eM7 ?_)
        exact pG_ret (pRetU H)
    · refine pG_neg (c := ¬ (M5 w 9) = ((kI 1) - p2)) g6 ?_
      replace H := pRun (ls' := [.ref 131, .ref w, .int p2]) (st' := [.int (kI 1), .int (kI 6), .ref 132]) 1 rfl H
      obtain ⟨g0, _, H⟩ := pGo (n1 := 6) rfl (mcb_165 rfl) H
      obtain ⟨g7, M6, eM6, H⟩ := pIst (n := 14) (pLn hS (show pCa 132 14 = true by decide +kernel)) H
      refine pG_gd g7 (pG_put (M2 := M6) eM6 ?_)
      replace H := pRun (ls' := [.ref 131, .ref w, .int p2]) (st' := [.ref 131]) 1 rfl H
      replace H := pGetR (r := 132) (pRf hS (by decide +kernel)) rfl H
      replace H := pRun (ls' := [.ref 131, .ref w, .int p2]) (st' := [.ref w, .int (kI 7), .ref 132]) 2 rfl H
      replace H := pGetN (v := M6 w 10) rfl (by decide) H
      replace H := pRun (ls' := [.ref 131, .ref w, .int p2]) (st' := [.int p2, .int (M6 w 10), .int (kI 7), .ref 132]) 1 rfl H
      rcases pIfc (n1 := 8) rfl (mcb_165 rfl) (mcb_165 rfl) H with ⟨g8, g0, _, H⟩ | ⟨g8, g0, _, H⟩
      · refine pG_pos (c := ¬ (M6 w 10) = p2) g8 ?_
        replace H := pRun (ls' := [.ref 131, .ref w, .int p2]) (st' := [.int (kI 0), .int (kI 7), .ref 132]) 1 rfl H
        obtain ⟨g0, _, H⟩ := pFall (mcb_165 rfl) H
        obtain ⟨g9, M7, eM7, H⟩ := pIst (n := 14) (pLn hS (show pCa 132 14 = true by decide +kernel)) H
        refine pG_gd g9 (pG_put (M2 := M7) eM7 ?_)
        exact pG_ret (pRetU H)
      · refine pG_neg (c := ¬ (M6 w 10) = p2) g8 ?_
        replace H := pRun (ls' := [.ref 131, .ref w, .int p2]) (st' := [.int (kI 1), .int (kI 7), .ref 132]) 1 rfl H
        obtain ⟨g0, _, H⟩ := pGo (n1 := 9) rfl (mcb_165 rfl) H
        obtain ⟨g9, M7, eM7, H⟩ := pIst (n := 14) (pLn hS (show pCa 132 14 = true by decide +kernel)) H
        refine pG_gd g9 (pG_put (M2 := M7) eM7 ?_)
        exact pG_ret (pRetU H)
  · refine pG_neg (c := ¬ (M4 w 9) = p2) g4 ?_
    replace H := pRun (ls' := [.ref 131, .ref w, .int p2]) (st' := [.int (kI 1), .int (kI 5), .ref 132]) 1 rfl H
    obtain ⟨g0, _, H⟩ := pGo (n1 := 3) rfl (mcb_165 rfl) H
    obtain ⟨g5, M5, eM5, H⟩ := pIst (n := 14) (pLn hS (show pCa 132 14 = true by decide +kernel)) H
    refine pG_gd g5 (pG_put (M2 := M5) eM5 ?_)
    replace H := pRun (ls' := [.ref 131, .ref w, .int p2]) (st' := [.ref 131]) 1 rfl H
    replace H := pGetR (r := 132) (pRf hS (by decide +kernel)) rfl H
    replace H := pRun (ls' := [.ref 131, .ref w, .int p2]) (st' := [.ref w, .int (kI 6), .ref 132]) 2 rfl H
    replace H := pGetN (v := M5 w 9) rfl (by decide) H
    replace H := pRun (ls' := [.ref 131, .ref w, .int p2]) (st' := [.int ((kI 1) - p2), .int (M5 w 9), .int (kI 6), .ref 132]) 3 rfl H
    rcases pIfc (n1 := 5) rfl (mcb_165 rfl) (mcb_165 rfl) H with ⟨g6, g0, _, H⟩ | ⟨g6, g0, _, H⟩
    · refine pG_pos (c := ¬ (M5 w 9) = ((kI 1) - p2)) g6 ?_
      replace H := pRun (ls' := [.ref 131, .ref w, .int p2]) (st' := [.int (kI 0), .int (kI 6), .ref 132]) 1 rfl H
      obtain ⟨g0, _, H⟩ := pFall (mcb_165 rfl) H
      obtain ⟨g7, M6, eM6, H⟩ := pIst (n := 14) (pLn hS (show pCa 132 14 = true by decide +kernel)) H
      refine pG_gd g7 (pG_put (M2 := M6) eM6 ?_)
      replace H := pRun (ls' := [.ref 131, .ref w, .int p2]) (st' := [.ref 131]) 1 rfl H
      replace H := pGetR (r := 132) (pRf hS (by decide +kernel)) rfl H
      replace H := pRun (ls' := [.ref 131, .ref w, .int p2]) (st' := [.ref w, .int (kI 7), .ref 132]) 2 rfl H
      replace H := pGetN (v := M6 w 10) rfl (by decide) H
      replace H := pRun (ls' := [.ref 131, .ref w, .int p2]) (st' := [.int p2, .int (M6 w 10), .int (kI 7), .ref 132]) 1 rfl H
      rcases pIfc (n1 := 8) rfl (mcb_165 rfl) (mcb_165 rfl) H with ⟨g8, g0, _, H⟩ | ⟨g8, g0, _, H⟩
      · refine pG_pos (c := ¬ (M6 w 10) = p2) g8 ?_
        replace H := pRun (ls' := [.ref 131, .ref w, .int p2]) (st' := [.int (kI 0), .int (kI 7), .ref 132]) 1 rfl H
        obtain ⟨g0, _, H⟩ := pFall (mcb_165 rfl) H
        obtain ⟨g9, M7, eM7, H⟩ := pIst (n := 14) (pLn hS (show pCa 132 14 = true by decide +kernel)) H
        refine pG_gd g9 (pG_put (M2 := M7) eM7 ?_)
        exact pG_ret (pRetU H)
      · refine pG_neg (c := ¬ (M6 w 10) = p2) g8 ?_
        replace H := pRun (ls' := [.ref 131, .ref w, .int p2]) (st' := [.int (kI 1), .int (kI 7), .ref 132]) 1 rfl H
        obtain ⟨g0, _, H⟩ := pGo (n1 := 9) rfl (mcb_165 rfl) H
        obtain ⟨g9, M7, eM7, H⟩ := pIst (n := 14) (pLn hS (show pCa 132 14 = true by decide +kernel)) H
        refine pG_gd g9 (pG_put (M2 := M7) eM7 ?_)
        exact pG_ret (pRetU H)
    · refine pG_neg (c := ¬ (M5 w 9) = ((kI 1) - p2)) g6 ?_
      replace H := pRun (ls' := [.ref 131, .ref w, .int p2]) (st' := [.int (kI 1), .int (kI 6), .ref 132]) 1 rfl H
      obtain ⟨g0, _, H⟩ := pGo (n1 := 6) rfl (mcb_165 rfl) H
      obtain ⟨g7, M6, eM6, H⟩ := pIst (n := 14) (pLn hS (show pCa 132 14 = true by decide +kernel)) H
      refine pG_gd g7 (pG_put (M2 := M6) eM6 ?_)
      replace H := pRun (ls' := [.ref 131, .ref w, .int p2]) (st' := [.ref 131]) 1 rfl H
      replace H := pGetR (r := 132) (pRf hS (by decide +kernel)) rfl H
      replace H := pRun (ls' := [.ref 131, .ref w, .int p2]) (st' := [.ref w, .int (kI 7), .ref 132]) 2 rfl H
      replace H := pGetN (v := M6 w 10) rfl (by decide) H
      replace H := pRun (ls' := [.ref 131, .ref w, .int p2]) (st' := [.int p2, .int (M6 w 10), .int (kI 7), .ref 132]) 1 rfl H
      rcases pIfc (n1 := 8) rfl (mcb_165 rfl) (mcb_165 rfl) H with ⟨g8, g0, _, H⟩ | ⟨g8, g0, _, H⟩
      · refine pG_pos (c := ¬ (M6 w 10) = p2) g8 ?_
        replace H := pRun (ls' := [.ref 131, .ref w, .int p2]) (st' := [.int (kI 0), .int (kI 7), .ref 132]) 1 rfl H
        obtain ⟨g0, _, H⟩ := pFall (mcb_165 rfl) H
        obtain ⟨g9, M7, eM7, H⟩ := pIst (n := 14) (pLn hS (show pCa 132 14 = true by decide +kernel)) H
        refine pG_gd g9 (pG_put (M2 := M7) eM7 ?_)
        exact pG_ret (pRetU H)
      · refine pG_neg (c := ¬ (M6 w 10) = p2) g8 ?_
        replace H := pRun (ls' := [.ref 131, .ref w, .int p2]) (st' := [.int (kI 1), .int (kI 7), .ref 132]) 1 rfl H
        obtain ⟨g0, _, H⟩ := pGo (n1 := 9) rfl (mcb_165 rfl) H
        obtain ⟨g9, M7, eM7, H⟩ := pIst (n := 14) (pLn hS (show pCa 132 14 = true by decide +kernel)) H
        refine pG_gd g9 (pG_put (M2 := M7) eM7 ?_)
        exact pG_ret (pRetU H)
def l_165c (w : Nat) : List (Nat × Nat) := []
theorem F_165c {w : Nat} {p2 : Int32} (hw : pK 10 w = true) {M : pMem} {v : Unit} {N : pMem} (h : D_165c w p2 M v N) : pFr (l_165c w) M N :=
  (show pTf (l_165c w) M (D_165c w p2 M) from (tf_call pFr_refl (fun _ _ h => F_240_132 h) [] rfl fun _ M1 f1 => (tf_gd fun g1 => (tf_putS f1 (fun _ => rfl) fun M2 f2 => (tf_gd fun g2 => (tf_putS f2 (fun _ => rfl) fun M3 f3 => (tf_gd fun g3 => (tf_putS f3 (fun _ => rfl) fun M4 f4 => (tf_if (tf_gd fun g5 => (tf_putS f4 (fun _ => rfl) fun M5 f5 => (tf_if (tf_gd fun g7 => (tf_putS f5 (fun _ => rfl) fun M6 f6 => (tf_if (tf_gd fun g9 => (tf_putS f6 (fun _ => rfl) fun M7 f7 => (tf_ret f7))) (tf_gd fun g9 => (tf_putS f6 (fun _ => rfl) fun M7 f7 => (tf_ret f7)))))) (tf_gd fun g7 => (tf_putS f5 (fun _ => rfl) fun M6 f6 => (tf_if (tf_gd fun g9 => (tf_putS f6 (fun _ => rfl) fun M7 f7 => (tf_ret f7))) (tf_gd fun g9 => (tf_putS f6 (fun _ => rfl) fun M7 f7 => (tf_ret f7))))))))) (tf_gd fun g5 => (tf_putS f4 (fun _ => rfl) fun M5 f5 => (tf_if (tf_gd fun g7 => (tf_putS f5 (fun _ => rfl) fun M6 f6 => (tf_if (tf_gd fun g9 => (tf_putS f6 (fun _ => rfl) fun M7 f7 => (tf_ret f7))) (tf_gd fun g9 => (tf_putS f6 (fun _ => rfl) fun M7 f7 => (tf_ret f7)))))) (tf_gd fun g7 => (tf_putS f5 (fun _ => rfl) fun M6 f6 => (tf_if (tf_gd fun g9 => (tf_putS f6 (fun _ => rfl) fun M7 f7 => (tf_ret f7))) (tf_gd fun g9 => (tf_putS f6 (fun _ => rfl) fun M7 f7 => (tf_ret f7)))))))))))))))))) v N h
/-- TwoCamps$Question.askOfCouple(LTwoCamps$Wood;II)V -/
def D_166c (w : Nat) (p2 : Int32) (p3 : Int32) (M : pMem) : pT Unit := tCall (D_165c w (f_225 w p2 M) M) fun _ M1 => tIf (¬ (f_225 w p2 M1) = (f_225 w p3 M1)) (tGd (pIn (kI 3) 14) <| tPut (aPut M1 132 (ix (kI 3)) (kI 0)) fun M2 => tGd (pIn p2 24) <| tIf ((f_37 (M2 (w + 2) (ix p2)) p3) = 0) (tGd (pIn (kI 4) 14) <| tPut (aPut M2 132 (ix (kI 4)) (kI 0)) fun M3 => tGd (pIn ((p2 * (kI 24)) + p3) 576) <| tGd (pIn (kI 8) 14) <| tPut (aPut M3 132 (ix (kI 8)) (M3 (w + 3) (ix ((p2 * (kI 24)) + p3)))) fun M4 => tGd (pIn ((p3 * (kI 24)) + p2) 576) <| tGd (pIn (kI 9) 14) <| tPut (aPut M4 132 (ix (kI 9)) (M4 (w + 3) (ix ((p3 * (kI 24)) + p2)))) fun M5 => tGd (pIn p3 24) <| tGd (pIn (kI 10) 14) <| tPut (aPut M5 132 (ix (kI 10)) (M5 (w + 1) (ix p3))) fun M6 => tRet () M6) (tGd (pIn (kI 4) 14) <| tPut (aPut M2 132 (ix (kI 4)) (kI 1)) fun M3 => tGd (pIn ((p2 * (kI 24)) + p3) 576) <| tGd (pIn (kI 8) 14) <| tPut (aPut M3 132 (ix (kI 8)) (M3 (w + 3) (ix ((p2 * (kI 24)) + p3)))) fun M4 => tGd (pIn ((p3 * (kI 24)) + p2) 576) <| tGd (pIn (kI 9) 14) <| tPut (aPut M4 132 (ix (kI 9)) (M4 (w + 3) (ix ((p3 * (kI 24)) + p2)))) fun M5 => tGd (pIn p3 24) <| tGd (pIn (kI 10) 14) <| tPut (aPut M5 132 (ix (kI 10)) (M5 (w + 1) (ix p3))) fun M6 => tRet () M6)) (tGd (pIn (kI 3) 14) <| tPut (aPut M1 132 (ix (kI 3)) (kI 1)) fun M2 => tGd (pIn p2 24) <| tIf ((f_37 (M2 (w + 2) (ix p2)) p3) = 0) (tGd (pIn (kI 4) 14) <| tPut (aPut M2 132 (ix (kI 4)) (kI 0)) fun M3 => tGd (pIn ((p2 * (kI 24)) + p3) 576) <| tGd (pIn (kI 8) 14) <| tPut (aPut M3 132 (ix (kI 8)) (M3 (w + 3) (ix ((p2 * (kI 24)) + p3)))) fun M4 => tGd (pIn ((p3 * (kI 24)) + p2) 576) <| tGd (pIn (kI 9) 14) <| tPut (aPut M4 132 (ix (kI 9)) (M4 (w + 3) (ix ((p3 * (kI 24)) + p2)))) fun M5 => tGd (pIn p3 24) <| tGd (pIn (kI 10) 14) <| tPut (aPut M5 132 (ix (kI 10)) (M5 (w + 1) (ix p3))) fun M6 => tRet () M6) (tGd (pIn (kI 4) 14) <| tPut (aPut M2 132 (ix (kI 4)) (kI 1)) fun M3 => tGd (pIn ((p2 * (kI 24)) + p3) 576) <| tGd (pIn (kI 8) 14) <| tPut (aPut M3 132 (ix (kI 8)) (M3 (w + 3) (ix ((p2 * (kI 24)) + p3)))) fun M4 => tGd (pIn ((p3 * (kI 24)) + p2) 576) <| tGd (pIn (kI 9) 14) <| tPut (aPut M4 132 (ix (kI 9)) (M4 (w + 3) (ix ((p3 * (kI 24)) + p2)))) fun M5 => tGd (pIn p3 24) <| tGd (pIn (kI 10) 14) <| tPut (aPut M5 132 (ix (kI 10)) (M5 (w + 1) (ix p3))) fun M6 => tRet () M6))
theorem D_166c_ok {X : aX} {F d : Nat} {K : Nat → aK} (hS : pS K) {w : Nat} {p2 : Int32} {p3 : Int32} (hw : pK 10 w = true) {M : pMem} {out : Option Value × aH} (H : aM X F d 166 [.ref 131, .ref w, .int p2, .int p3] (pH K M) = some out) : pG eU K out (D_166c w p2 p3 M) := by
  obtain ⟨d', g0, _, H⟩ := pEnt (n := 4) (ls := [.ref 131, .ref w, .int p2, .int p3]) (mcb_166 rfl) (by decide +kernel) rfl H
  unfold D_166c
  replace H := pRun (ls' := [.ref 131, .ref w, .int p2, .int p3]) (st' := [.int p2, .ref w, .ref w, .ref 131]) 4 rfl H
  obtain ⟨rv, h1, hc, H⟩ := pCalV 225 1 w (as := [.int p2]) (rest := [.ref w, .ref 131]) rfl (by decide) (by decide +kernel) rfl rfl H
  replace H := pUseF (f_225_ok hS hw hc) H
  obtain ⟨rv, h1, hc, H⟩ := pCalV 165 2 131 (as := [.ref w, .int (f_225 w p2 M)]) (rest := []) rfl (by decide) (by decide +kernel) rfl rfl H
  obtain ⟨v1, M1, hD, H⟩ := pUseU (D_165c_ok hS hw hc) H
  refine pG_call (x := v1) (M1 := M1) hD ?_
  replace H := pRun (ls' := [.ref 131, .ref w, .int p2, .int p3]) (st' := [.ref 131]) 1 rfl H
  replace H := pGetR (r := 132) (pRf hS (by decide +kernel)) rfl H
  replace H := pRun (ls' := [.ref 131, .ref w, .int p2, .int p3]) (st' := [.int p2, .ref w, .int (kI 3), .ref 132]) 3 rfl H
  obtain ⟨rv, h1, hc, H⟩ := pCalV 225 1 w (as := [.int p2]) (rest := [.int (kI 3), .ref 132]) rfl (by decide) (by decide +kernel) rfl rfl H
  replace H := pUseF (f_225_ok hS hw hc) H
  replace H := pRun (ls' := [.ref 131, .ref w, .int p2, .int p3]) (st' := [.int p3, .ref w, .int (f_225 w p2 M1), .int (kI 3), .ref 132]) 2 rfl H
  obtain ⟨rv, h1, hc, H⟩ := pCalV 225 1 w (as := [.int p3]) (rest := [.int (f_225 w p2 M1), .int (kI 3), .ref 132]) rfl (by decide) (by decide +kernel) rfl rfl H
  replace H := pUseF (f_225_ok hS hw hc) H
  rcases pIfc (n1 := 2) rfl (mcb_166 rfl) (mcb_166 rfl) H with ⟨g1, g0, _, H⟩ | ⟨g1, g0, _, H⟩
  · refine pG_pos (c := ¬ (f_225 w p2 M1) = (f_225 w p3 M1)) g1 ?_
    replace H := pRun (ls' := [.ref 131, .ref w, .int p2, .int p3]) (st' := [.int (kI 0), .int (kI 3), .ref 132]) 1 rfl H
    obtain ⟨g0, _, H⟩ := pFall (mcb_166 rfl) H
    obtain ⟨g2, M2, eM2, H⟩ := pIst (n := 14) (pLn hS (show pCa 132 14 = true by decide +kernel)) H
    refine pG_gd g2 (pG_put (M2 := M2) eM2 ?_)
    replace H := pRun (ls' := [.ref 131, .ref w, .int p2, .int p3]) (st' := [.ref 131]) 1 rfl H
    replace H := pGetR (r := 132) (pRf hS (by decide +kernel)) rfl H
    replace H := pRun (ls' := [.ref 131, .ref w, .int p2, .int p3]) (st' := [.ref w, .int (kI 4), .ref 132]) 2 rfl H
    replace H := pGetR (r := w + 2) (pRw hS hw (by decide +kernel)) rfl H
    replace H := pRun (ls' := [.ref 131, .ref w, .int p2, .int p3]) (st' := [.int p2, .ref (w + 2), .int (kI 4), .ref 132]) 1 rfl H
    obtain ⟨g3, H⟩ := pIld (n := 24) (pLt (pRl (n := 24) hw (by decide +kernel))) (pLn hS (pRl (n := 24) hw (by decide +kernel))) H
    refine pG_gd g3 ?_
    replace H := pRun (ls' := [.ref 131, .ref w, .int p2, .int p3]) (st' := [.int p3, .int (M2 (w + 2) (ix p2)), .int (kI 4), .ref 132]) 1 rfl H
    obtain ⟨rv, h1, hc, H⟩ := pCalT 37 2 (as := [.int (M2 (w + 2) (ix p2)), .int p3]) (rest := [.int (kI 4), .ref 132]) rfl (by decide) (by decide +kernel) rfl rfl H
    replace H := pUseF (f_37_ok hS hc) H
    rcases pIf0 (n1 := 5) rfl (mcb_166 rfl) (mcb_166 rfl) H with ⟨g4, g0, _, H⟩ | ⟨g4, g0, _, H⟩
    · refine pG_pos (c := (f_37 (M2 (w + 2) (ix p2)) p3) = 0) g4 ?_
      replace H := pRun (ls' := [.ref 131, .ref w, .int p2, .int p3]) (st' := [.int (kI 0), .int (kI 4), .ref 132]) 1 rfl H
      obtain ⟨g0, _, H⟩ := pFall (mcb_166 rfl) H
      obtain ⟨g5, M3, eM3, H⟩ := pIst (n := 14) (pLn hS (show pCa 132 14 = true by decide +kernel)) H
      refine pG_gd g5 (pG_put (M2 := M3) eM3 ?_)
      replace H := pRun (ls' := [.ref 131, .ref w, .int p2, .int p3]) (st' := [.ref 131]) 1 rfl H
      replace H := pGetR (r := 132) (pRf hS (by decide +kernel)) rfl H
      replace H := pRun (ls' := [.ref 131, .ref w, .int p2, .int p3]) (st' := [.ref w, .int (kI 8), .ref 132]) 2 rfl H
      replace H := pGetR (r := w + 3) (pRw hS hw (by decide +kernel)) rfl H
      replace H := pRun (ls' := [.ref 131, .ref w, .int p2, .int p3]) (st' := [.int ((p2 * (kI 24)) + p3), .ref (w + 3), .int (kI 8), .ref 132]) 5 rfl H
      obtain ⟨g6, H⟩ := pIld (n := 576) (pLt (pRl (n := 576) hw (by decide +kernel))) (pLn hS (pRl (n := 576) hw (by decide +kernel))) H
      refine pG_gd g6 ?_
      obtain ⟨g7, M4, eM4, H⟩ := pIst (n := 14) (pLn hS (show pCa 132 14 = true by decide +kernel)) H
      refine pG_gd g7 (pG_put (M2 := M4) eM4 ?_)
      replace H := pRun (ls' := [.ref 131, .ref w, .int p2, .int p3]) (st' := [.ref 131]) 1 rfl H
      replace H := pGetR (r := 132) (pRf hS (by decide +kernel)) rfl H
      replace H := pRun (ls' := [.ref 131, .ref w, .int p2, .int p3]) (st' := [.ref w, .int (kI 9), .ref 132]) 2 rfl H
      replace H := pGetR (r := w + 3) (pRw hS hw (by decide +kernel)) rfl H
      replace H := pRun (ls' := [.ref 131, .ref w, .int p2, .int p3]) (st' := [.int ((p3 * (kI 24)) + p2), .ref (w + 3), .int (kI 9), .ref 132]) 5 rfl H
      obtain ⟨g8, H⟩ := pIld (n := 576) (pLt (pRl (n := 576) hw (by decide +kernel))) (pLn hS (pRl (n := 576) hw (by decide +kernel))) H
      refine pG_gd g8 ?_
      obtain ⟨g9, M5, eM5, H⟩ := pIst (n := 14) (pLn hS (show pCa 132 14 = true by decide +kernel)) H
      refine pG_gd g9 (pG_put (M2 := M5) eM5 ?_)
      replace H := pRun (ls' := [.ref 131, .ref w, .int p2, .int p3]) (st' := [.ref 131]) 1 rfl H
      replace H := pGetR (r := 132) (pRf hS (by decide +kernel)) rfl H
      replace H := pRun (ls' := [.ref 131, .ref w, .int p2, .int p3]) (st' := [.ref w, .int (kI 10), .ref 132]) 2 rfl H
      replace H := pGetR (r := w + 1) (pRw hS hw (by decide +kernel)) rfl H
      replace H := pRun (ls' := [.ref 131, .ref w, .int p2, .int p3]) (st' := [.int p3, .ref (w + 1), .int (kI 10), .ref 132]) 1 rfl H
      obtain ⟨g10, H⟩ := pIld (n := 24) (pLt (pRl (n := 24) hw (by decide +kernel))) (pLn hS (pRl (n := 24) hw (by decide +kernel))) H
      refine pG_gd g10 ?_
      obtain ⟨g11, M6, eM6, H⟩ := pIst (n := 14) (pLn hS (show pCa 132 14 = true by decide +kernel)) H
      refine pG_gd g11 (pG_put (M2 := M6) eM6 ?_)
      exact pG_ret (pRetU H)
    · refine pG_neg (c := (f_37 (M2 (w + 2) (ix p2)) p3) = 0) g4 ?_
      replace H := pRun (ls' := [.ref 131, .ref w, .int p2, .int p3]) (st' := [.int (kI 1), .int (kI 4), .ref 132]) 1 rfl H
      obtain ⟨g0, _, H⟩ := pGo (n1 := 6) rfl (mcb_166 rfl) H
      obtain ⟨g5, M3, eM3, H⟩ := pIst (n := 14) (pLn hS (show pCa 132 14 = true by decide +kernel)) H
      refine pG_gd g5 (pG_put (M2 := M3) eM3 ?_)
      replace H := pRun (ls' := [.ref 131, .ref w, .int p2, .int p3]) (st' := [.ref 131]) 1 rfl H
      replace H := pGetR (r := 132) (pRf hS (by decide +kernel)) rfl H
      replace H := pRun (ls' := [.ref 131, .ref w, .int p2, .int p3]) (st' := [.ref w, .int (kI 8), .ref 132]) 2 rfl H
      replace H := pGetR (r := w + 3) (pRw hS hw (by decide +kernel)) rfl H
      replace H := pRun (ls' := [.ref 131, .ref w, .int p2, .int p3]) (st' := [.int ((p2 * (kI 24)) + p3), .ref (w + 3), .int (kI 8), .ref 132]) 5 rfl H
      obtain ⟨g6, H⟩ := pIld (n := 576) (pLt (pRl (n := 576) hw (by decide +kernel))) (pLn hS (pRl (n := 576) hw (by decide +kernel))) H
      refine pG_gd g6 ?_
      obtain ⟨g7, M4, eM4, H⟩ := pIst (n := 14) (pLn hS (show pCa 132 14 = true by decide +kernel)) H
      refine pG_gd g7 (pG_put (M2 := M4) eM4 ?_)
      replace H := pRun (ls' := [.ref 131, .ref w, .int p2, .int p3]) (st' := [.ref 131]) 1 rfl H
      replace H := pGetR (r := 132) (pRf hS (by decide +kernel)) rfl H
      replace H := pRun (ls' := [.ref 131, .ref w, .int p2, .int p3]) (st' := [.ref w, .int (kI 9), .ref 132]) 2 rfl H
      replace H := pGetR (r := w + 3) (pRw hS hw (by decide +kernel)) rfl H
      replace H := pRun (ls' := [.ref 131, .ref w, .int p2, .int p3]) (st' := [.int ((p3 * (kI 24)) + p2), .ref (w + 3), .int (kI 9), .ref 132]) 5 rfl H
      obtain ⟨g8, H⟩ := pIld (n := 576) (pLt (pRl (n := 576) hw (by decide +kernel))) (pLn hS (pRl (n := 576) hw (by decide +kernel))) H
      refine pG_gd g8 ?_
      obtain ⟨g9, M5, eM5, H⟩ := pIst (n := 14) (pLn hS (show pCa 132 14 = true by decide +kernel)) H
      refine pG_gd g9 (pG_put (M2 := M5) eM5 ?_)
      replace H := pRun (ls' := [.ref 131, .ref w, .int p2, .int p3]) (st' := [.ref 131]) 1 rfl H
      replace H := pGetR (r := 132) (pRf hS (by decide +kernel)) rfl H
      replace H := pRun (ls' := [.ref 131, .ref w, .int p2, .int p3]) (st' := [.ref w, .int (kI 10), .ref 132]) 2 rfl H
      replace H := pGetR (r := w + 1) (pRw hS hw (by decide +kernel)) rfl H
      replace H := pRun (ls' := [.ref 131, .ref w, .int p2, .int p3]) (st' := [.int p3, .ref (w + 1), .int (kI 10), .ref 132]) 1 rfl H
      obtain ⟨g10, H⟩ := pIld (n := 24) (pLt (pRl (n := 24) hw (by decide +kernel))) (pLn hS (pRl (n := 24) hw (by decide +kernel))) H
      refine pG_gd g10 ?_
      obtain ⟨g11, M6, eM6, H⟩ := pIst (n := 14) (pLn hS (show pCa 132 14 = true by decide +kernel)) H
      refine pG_gd g11 (pG_put (M2 := M6) eM6 ?_)
      exact pG_ret (pRetU H)
  · refine pG_neg (c := ¬ (f_225 w p2 M1) = (f_225 w p3 M1)) g1 ?_
    replace H := pRun (ls' := [.ref 131, .ref w, .int p2, .int p3]) (st' := [.int (kI 1), .int (kI 3), .ref 132]) 1 rfl H
    obtain ⟨g0, _, H⟩ := pGo (n1 := 3) rfl (mcb_166 rfl) H
    obtain ⟨g2, M2, eM2, H⟩ := pIst (n := 14) (pLn hS (show pCa 132 14 = true by decide +kernel)) H
    refine pG_gd g2 (pG_put (M2 := M2) eM2 ?_)
    replace H := pRun (ls' := [.ref 131, .ref w, .int p2, .int p3]) (st' := [.ref 131]) 1 rfl H
    replace H := pGetR (r := 132) (pRf hS (by decide +kernel)) rfl H
    replace H := pRun (ls' := [.ref 131, .ref w, .int p2, .int p3]) (st' := [.ref w, .int (kI 4), .ref 132]) 2 rfl H
    replace H := pGetR (r := w + 2) (pRw hS hw (by decide +kernel)) rfl H
    replace H := pRun (ls' := [.ref 131, .ref w, .int p2, .int p3]) (st' := [.int p2, .ref (w + 2), .int (kI 4), .ref 132]) 1 rfl H
    obtain ⟨g3, H⟩ := pIld (n := 24) (pLt (pRl (n := 24) hw (by decide +kernel))) (pLn hS (pRl (n := 24) hw (by decide +kernel))) H
    refine pG_gd g3 ?_
    replace H := pRun (ls' := [.ref 131, .ref w, .int p2, .int p3]) (st' := [.int p3, .int (M2 (w + 2) (ix p2)), .int (kI 4), .ref 132]) 1 rfl H
    obtain ⟨rv, h1, hc, H⟩ := pCalT 37 2 (as := [.int (M2 (w + 2) (ix p2)), .int p3]) (rest := [.int (kI 4), .ref 132]) rfl (by decide) (by decide +kernel) rfl rfl H
    replace H := pUseF (f_37_ok hS hc) H
    rcases pIf0 (n1 := 5) rfl (mcb_166 rfl) (mcb_166 rfl) H with ⟨g4, g0, _, H⟩ | ⟨g4, g0, _, H⟩
    · refine pG_pos (c := (f_37 (M2 (w + 2) (ix p2)) p3) = 0) g4 ?_
      replace H := pRun (ls' := [.ref 131, .ref w, .int p2, .int p3]) (st' := [.int (kI 0), .int (kI 4), .ref 132]) 1 rfl H
      obtain ⟨g0, _, H⟩ := pFall (mcb_166 rfl) H
      obtain ⟨g5, M3, eM3, H⟩ := pIst (n := 14) (pLn hS (show pCa 132 14 = true by decide +kernel)) H
      refine pG_gd g5 (pG_put (M2 := M3) eM3 ?_)
      replace H := pRun (ls' := [.ref 131, .ref w, .int p2, .int p3]) (st' := [.ref 131]) 1 rfl H
      replace H := pGetR (r := 132) (pRf hS (by decide +kernel)) rfl H
      replace H := pRun (ls' := [.ref 131, .ref w, .int p2, .int p3]) (st' := [.ref w, .int (kI 8), .ref 132]) 2 rfl H
      replace H := pGetR (r := w + 3) (pRw hS hw (by decide +kernel)) rfl H
      replace H := pRun (ls' := [.ref 131, .ref w, .int p2, .int p3]) (st' := [.int ((p2 * (kI 24)) + p3), .ref (w + 3), .int (kI 8), .ref 132]) 5 rfl H
      obtain ⟨g6, H⟩ := pIld (n := 576) (pLt (pRl (n := 576) hw (by decide +kernel))) (pLn hS (pRl (n := 576) hw (by decide +kernel))) H
      refine pG_gd g6 ?_
      obtain ⟨g7, M4, eM4, H⟩ := pIst (n := 14) (pLn hS (show pCa 132 14 = true by decide +kernel)) H
      refine pG_gd g7 (pG_put (M2 := M4) eM4 ?_)
      replace H := pRun (ls' := [.ref 131, .ref w, .int p2, .int p3]) (st' := [.ref 131]) 1 rfl H
      replace H := pGetR (r := 132) (pRf hS (by decide +kernel)) rfl H
      replace H := pRun (ls' := [.ref 131, .ref w, .int p2, .int p3]) (st' := [.ref w, .int (kI 9), .ref 132]) 2 rfl H
      replace H := pGetR (r := w + 3) (pRw hS hw (by decide +kernel)) rfl H
      replace H := pRun (ls' := [.ref 131, .ref w, .int p2, .int p3]) (st' := [.int ((p3 * (kI 24)) + p2), .ref (w + 3), .int (kI 9), .ref 132]) 5 rfl H
      obtain ⟨g8, H⟩ := pIld (n := 576) (pLt (pRl (n := 576) hw (by decide +kernel))) (pLn hS (pRl (n := 576) hw (by decide +kernel))) H
      refine pG_gd g8 ?_
      obtain ⟨g9, M5, eM5, H⟩ := pIst (n := 14) (pLn hS (show pCa 132 14 = true by decide +kernel)) H
      refine pG_gd g9 (pG_put (M2 := M5) eM5 ?_)
      replace H := pRun (ls' := [.ref 131, .ref w, .int p2, .int p3]) (st' := [.ref 131]) 1 rfl H
      replace H := pGetR (r := 132) (pRf hS (by decide +kernel)) rfl H
      replace H := pRun (ls' := [.ref 131, .ref w, .int p2, .int p3]) (st' := [.ref w, .int (kI 10), .ref 132]) 2 rfl H
      replace H := pGetR (r := w + 1) (pRw hS hw (by decide +kernel)) rfl H
      replace H := pRun (ls' := [.ref 131, .ref w, .int p2, .int p3]) (st' := [.int p3, .ref (w + 1), .int (kI 10), .ref 132]) 1 rfl H
      obtain ⟨g10, H⟩ := pIld (n := 24) (pLt (pRl (n := 24) hw (by decide +kernel))) (pLn hS (pRl (n := 24) hw (by decide +kernel))) H
      refine pG_gd g10 ?_
      obtain ⟨g11, M6, eM6, H⟩ := pIst (n := 14) (pLn hS (show pCa 132 14 = true by decide +kernel)) H
      refine pG_gd g11 (pG_put (M2 := M6) eM6 ?_)
      exact pG_ret (pRetU H)
    · refine pG_neg (c := (f_37 (M2 (w + 2) (ix p2)) p3) = 0) g4 ?_
      replace H := pRun (ls' := [.ref 131, .ref w, .int p2, .int p3]) (st' := [.int (kI 1), .int (kI 4), .ref 132]) 1 rfl H
      obtain ⟨g0, _, H⟩ := pGo (n1 := 6) rfl (mcb_166 rfl) H
      obtain ⟨g5, M3, eM3, H⟩ := pIst (n := 14) (pLn hS (show pCa 132 14 = true by decide +kernel)) H
      refine pG_gd g5 (pG_put (M2 := M3) eM3 ?_)
      replace H := pRun (ls' := [.ref 131, .ref w, .int p2, .int p3]) (st' := [.ref 131]) 1 rfl H
      replace H := pGetR (r := 132) (pRf hS (by decide +kernel)) rfl H
      replace H := pRun (ls' := [.ref 131, .ref w, .int p2, .int p3]) (st' := [.ref w, .int (kI 8), .ref 132]) 2 rfl H
      replace H := pGetR (r := w + 3) (pRw hS hw (by decide +kernel)) rfl H
      replace H := pRun (ls' := [.ref 131, .ref w, .int p2, .int p3]) (st' := [.int ((p2 * (kI 24)) + p3), .ref (w + 3), .int (kI 8), .ref 132]) 5 rfl H
      obtain ⟨g6, H⟩ := pIld (n := 576) (pLt (pRl (n := 576) hw (by decide +kernel))) (pLn hS (pRl (n := 576) hw (by decide +kernel))) H
      refine pG_gd g6 ?_
      obtain ⟨g7, M4, eM4, H⟩ := pIst (n := 14) (pLn hS (show pCa 132 14 = true by decide +kernel)) H
      refine pG_gd g7 (pG_put (M2 := M4) eM4 ?_)
      replace H := pRun (ls' := [.ref 131, .ref w, .int p2, .int p3]) (st' := [.ref 131]) 1 rfl H
      replace H := pGetR (r := 132) (pRf hS (by decide +kernel)) rfl H
      replace H := pRun (ls' := [.ref 131, .ref w, .int p2, .int p3]) (st' := [.ref w, .int (kI 9), .ref 132]) 2 rfl H
      replace H := pGetR (r := w + 3) (pRw hS hw (by decide +kernel)) rfl H
      replace H := pRun (ls' := [.ref 131, .ref w, .int p2, .int p3]) (st' := [.int ((p3 * (kI 24)) + p2), .ref (w + 3), .int (kI 9), .ref 132]) 5 rfl H
      obtain ⟨g8, H⟩ := pIld (n := 576) (pLt (pRl (n := 576) hw (by decide +kernel))) (pLn hS (pRl (n := 576) hw (by decide +kernel))) H
      refine pG_gd g8 ?_
      obtain ⟨g9, M5, eM5, H⟩ := pIst (n := 14) (pLn hS (show pCa 132 14 = true by decide +kernel)) H
      refine pG_gd g9 (pG_put (M2 := M5) eM5 ?_)
      replace H := pRun (ls' := [.ref 131, .ref w, .int p2, .int p3]) (st' := [.ref 131]) 1 rfl H
      replace H := pGetR (r := 132) (pRf hS (by decide +kernel)) rfl H
      replace H := pRun (ls' := [.ref 131, .ref w, .int p2, .int p3]) (st' := [.ref w, .int (kI 10), .ref 132]) 2 rfl H
      replace H := pGetR (r := w + 1) (pRw hS hw (by decide +kernel)) rfl H
      replace H := pRun (ls' := [.ref 131, .ref w, .int p2, .int p3]) (st' := [.int p3, .ref (w + 1), .int (kI 10), .ref 132]) 1 rfl H
      obtain ⟨g10, H⟩ := pIld (n := 24) (pLt (pRl (n := 24) hw (by decide +kernel))) (pLn hS (pRl (n := 24) hw (by decide +kernel))) H
      refine pG_gd g10 ?_
      obtain ⟨g11, M6, eM6, H⟩ := pIst (n := 14) (pLn hS (show pCa 132 14 = true by decide +kernel)) H
      refine pG_gd g11 (pG_put (M2 := M6) eM6 ?_)
      exact pG_ret (pRetU H)
def l_166c (w : Nat) : List (Nat × Nat) := []
theorem F_166c {w : Nat} {p2 : Int32} {p3 : Int32} (hw : pK 10 w = true) {M : pMem} {v : Unit} {N : pMem} (h : D_166c w p2 p3 M v N) : pFr (l_166c w) M N :=
  (show pTf (l_166c w) M (D_166c w p2 p3 M) from (tf_call pFr_refl (fun _ _ h => F_165c hw h) [] rfl fun _ M1 f1 => (tf_if (tf_gd fun g2 => (tf_putS f1 (fun _ => rfl) fun M2 f2 => (tf_gd fun g3 => (tf_if (tf_gd fun g5 => (tf_putS f2 (fun _ => rfl) fun M3 f3 => (tf_gd fun g6 => (tf_gd fun g7 => (tf_putS f3 (fun _ => rfl) fun M4 f4 => (tf_gd fun g8 => (tf_gd fun g9 => (tf_putS f4 (fun _ => rfl) fun M5 f5 => (tf_gd fun g10 => (tf_gd fun g11 => (tf_putS f5 (fun _ => rfl) fun M6 f6 => (tf_ret f6)))))))))))) (tf_gd fun g5 => (tf_putS f2 (fun _ => rfl) fun M3 f3 => (tf_gd fun g6 => (tf_gd fun g7 => (tf_putS f3 (fun _ => rfl) fun M4 f4 => (tf_gd fun g8 => (tf_gd fun g9 => (tf_putS f4 (fun _ => rfl) fun M5 f5 => (tf_gd fun g10 => (tf_gd fun g11 => (tf_putS f5 (fun _ => rfl) fun M6 f6 => (tf_ret f6)))))))))))))))) (tf_gd fun g2 => (tf_putS f1 (fun _ => rfl) fun M2 f2 => (tf_gd fun g3 => (tf_if (tf_gd fun g5 => (tf_putS f2 (fun _ => rfl) fun M3 f3 => (tf_gd fun g6 => (tf_gd fun g7 => (tf_putS f3 (fun _ => rfl) fun M4 f4 => (tf_gd fun g8 => (tf_gd fun g9 => (tf_putS f4 (fun _ => rfl) fun M5 f5 => (tf_gd fun g10 => (tf_gd fun g11 => (tf_putS f5 (fun _ => rfl) fun M6 f6 => (tf_ret f6)))))))))))) (tf_gd fun g5 => (tf_putS f2 (fun _ => rfl) fun M3 f3 => (tf_gd fun g6 => (tf_gd fun g7 => (tf_putS f3 (fun _ => rfl) fun M4 f4 => (tf_gd fun g8 => (tf_gd fun g9 => (tf_putS f4 (fun _ => rfl) fun M5 f5 => (tf_gd fun g10 => (tf_gd fun g11 => (tf_putS f5 (fun _ => rfl) fun M6 f6 => (tf_ret f6))))))))))))))))))) v N h
/-- TwoCamps$Question.askOfLot(LTwoCamps$Wood;I)V -/
def D_167c (w : Nat) (p2 : Int32) (M : pMem) : pT Unit := tCall (D_165c w p2 M) fun _ M1 => tCall (D_231 w (f_226 w p2 M) (f_226 w p2 M) M1) fun v2 M2 => tGd (pIn (kI 11) 14) <| tPut (aPut M2 132 (ix (kI 11)) v2) fun M3 => tCall (D_231 w (f_226 w p2 M) (f_226 w ((kI 1) - p2) M3) M3) fun v3 M4 => tGd (pIn (kI 12) 14) <| tPut (aPut M4 132 (ix (kI 12)) v3) fun M5 => tGd (pIn (kI 13) 14) <| tPut (aPut M5 132 (ix (kI 13)) (f_239 (f_226 w p2 M))) fun M6 => tRet () M6
theorem D_167c_ok {X : aX} {F d : Nat} {K : Nat → aK} (hS : pS K) {w : Nat} {p2 : Int32} (hw : pK 10 w = true) {M : pMem} {out : Option Value × aH} (H : aM X F d 167 [.ref 131, .ref w, .int p2] (pH K M) = some out) : pG eU K out (D_167c w p2 M) := by
  obtain ⟨d', g0, _, H⟩ := pEnt (n := 4) (ls := [.ref 131, .ref w, .int p2, aD]) (mcb_167 rfl) (by decide +kernel) rfl H
  unfold D_167c
  replace H := pRun (ls' := [.ref 131, .ref w, .int p2, aD]) (st' := [.int p2, .ref w]) 2 rfl H
  obtain ⟨rv, h1, hc, H⟩ := pCalV 226 1 w (as := [.int p2]) (rest := []) rfl (by decide) (by decide +kernel) rfl rfl H
  replace H := pUseF (f_226_ok hS hw hc) H
  replace H := pRun (ls' := [.ref 131, .ref w, .int p2, .int (f_226 w p2 M)]) (st' := [.int p2, .ref w, .ref 131]) 4 rfl H
  obtain ⟨rv, h1, hc, H⟩ := pCalV 165 2 131 (as := [.ref w, .int p2]) (rest := []) rfl (by decide) (by decide +kernel) rfl rfl H
  obtain ⟨v1, M1, hD, H⟩ := pUseU (D_165c_ok hS hw hc) H
  refine pG_call (x := v1) (M1 := M1) hD ?_
  replace H := pRun (ls' := [.ref 131, .ref w, .int p2, .int (f_226 w p2 M)]) (st' := [.ref 131]) 1 rfl H
  replace H := pGetR (r := 132) (pRf hS (by decide +kernel)) rfl H
  replace H := pRun (ls' := [.ref 131, .ref w, .int p2, .int (f_226 w p2 M)]) (st' := [.int (f_226 w p2 M), .int (f_226 w p2 M), .ref w, .int (kI 11), .ref 132]) 4 rfl H
  obtain ⟨rv, h1, hc, H⟩ := pCalV 231 2 w (as := [.int (f_226 w p2 M), .int (f_226 w p2 M)]) (rest := [.int (kI 11), .ref 132]) rfl (by decide) (by decide +kernel) rfl rfl H
  obtain ⟨v2, M2, hD, H⟩ := pUseI (D_231_ok hS hw hc) H
  refine pG_call (x := v2) (M1 := M2) hD ?_
  obtain ⟨g1, M3, eM3, H⟩ := pIst (n := 14) (pLn hS (show pCa 132 14 = true by decide +kernel)) H
  refine pG_gd g1 (pG_put (M2 := M3) eM3 ?_)
  replace H := pRun (ls' := [.ref 131, .ref w, .int p2, .int (f_226 w p2 M)]) (st' := [.ref 131]) 1 rfl H
  replace H := pGetR (r := 132) (pRf hS (by decide +kernel)) rfl H
  replace H := pRun (ls' := [.ref 131, .ref w, .int p2, .int (f_226 w p2 M)]) (st' := [.int ((kI 1) - p2), .ref w, .int (f_226 w p2 M), .ref w, .int (kI 12), .ref 132]) 7 rfl H
  obtain ⟨rv, h1, hc, H⟩ := pCalV 226 1 w (as := [.int ((kI 1) - p2)]) (rest := [.int (f_226 w p2 M), .ref w, .int (kI 12), .ref 132]) rfl (by decide) (by decide +kernel) rfl rfl H
  replace H := pUseF (f_226_ok hS hw hc) H
  obtain ⟨rv, h1, hc, H⟩ := pCalV 231 2 w (as := [.int (f_226 w p2 M), .int (f_226 w ((kI 1) - p2) M3)]) (rest := [.int (kI 12), .ref 132]) rfl (by decide) (by decide +kernel) rfl rfl H
  obtain ⟨v3, M4, hD, H⟩ := pUseI (D_231_ok hS hw hc) H
  refine pG_call (x := v3) (M1 := M4) hD ?_
  obtain ⟨g2, M5, eM5, H⟩ := pIst (n := 14) (pLn hS (show pCa 132 14 = true by decide +kernel)) H
  refine pG_gd g2 (pG_put (M2 := M5) eM5 ?_)
  replace H := pRun (ls' := [.ref 131, .ref w, .int p2, .int (f_226 w p2 M)]) (st' := [.ref 131]) 1 rfl H
  replace H := pGetR (r := 132) (pRf hS (by decide +kernel)) rfl H
  replace H := pRun (ls' := [.ref 131, .ref w, .int p2, .int (f_226 w p2 M)]) (st' := [.int (f_226 w p2 M), .int (kI 13), .ref 132]) 2 rfl H
  obtain ⟨rv, h1, hc, H⟩ := pCalT 239 1 (as := [.int (f_226 w p2 M)]) (rest := [.int (kI 13), .ref 132]) rfl (by decide) (by decide +kernel) rfl rfl H
  replace H := pUseF (f_239_ok hS hc) H
  obtain ⟨g3, M6, eM6, H⟩ := pIst (n := 14) (pLn hS (show pCa 132 14 = true by decide +kernel)) H
  refine pG_gd g3 (pG_put (M2 := M6) eM6 ?_)
  exact pG_ret (pRetU H)
def l_167c (w : Nat) : List (Nat × Nat) := []
theorem F_167c {w : Nat} {p2 : Int32} (hw : pK 10 w = true) {M : pMem} {v : Unit} {N : pMem} (h : D_167c w p2 M v N) : pFr (l_167c w) M N :=
  (show pTf (l_167c w) M (D_167c w p2 M) from (tf_call pFr_refl (fun _ _ h => F_165c hw h) [] rfl fun _ M1 f1 => (tf_call f1 (fun _ _ h => F_231 hw h) [] rfl fun _ M2 f2 => (tf_gd fun g1 => (tf_putS f2 (fun _ => rfl) fun M3 f3 => (tf_call f3 (fun _ _ h => F_231 hw h) [] rfl fun _ M4 f4 => (tf_gd fun g2 => (tf_putS f4 (fun _ => rfl) fun M5 f5 => (tf_gd fun g3 => (tf_putS f5 (fun _ => rfl) fun M6 f6 => (tf_ret f6))))))))))) v N h
/-- TwoCamps$Question.askOfBoy(LTwoCamps$Wood;I)V -/
def D_168c (w : Nat) (p2 : Int32) (M : pMem) : pT Unit := tCall (D_165c w (f_225 w p2 M) M) fun _ M1 => tCall (D_231 w (f_226 w (f_225 w p2 M) M) ((kI 1) <<< (p2 &&& 31)) M1) fun v2 M2 => tGd (pIn (kI 11) 14) <| tPut (aPut M2 132 (ix (kI 11)) v2) fun M3 => tCall (D_231 w (f_226 w ((kI 1) - (f_225 w p2 M)) M3) ((kI 1) <<< (p2 &&& 31)) M3) fun v3 M4 => tGd (pIn (kI 12) 14) <| tPut (aPut M4 132 (ix (kI 12)) v3) fun M5 => tCall (D_231 w ((kI 1) <<< (p2 &&& 31)) (f_226 w (f_225 w p2 M) M) M5) fun v4 M6 => tGd (pIn (kI 8) 14) <| tPut (aPut M6 132 (ix (kI 8)) v4) fun M7 => tGd (pIn p2 24) <| tGd (pIn (kI 10) 14) <| tPut (aPut M7 132 (ix (kI 10)) (M7 (w + 1) (ix p2))) fun M8 => tGd (pIn (kI 13) 14) <| tPut (aPut M8 132 (ix (kI 13)) (f_239 (f_226 w (f_225 w p2 M) M))) fun M9 => tRet () M9
theorem D_168c_ok {X : aX} {F d : Nat} {K : Nat → aK} (hS : pS K) {w : Nat} {p2 : Int32} (hw : pK 10 w = true) {M : pMem} {out : Option Value × aH} (H : aM X F d 168 [.ref 131, .ref w, .int p2] (pH K M) = some out) : pG eU K out (D_168c w p2 M) := by
  obtain ⟨d', g0, _, H⟩ := pEnt (n := 5) (ls := [.ref 131, .ref w, .int p2, aD, aD]) (mcb_168 rfl) (by decide +kernel) rfl H
  unfold D_168c
  replace H := pRun (ls' := [.ref 131, .ref w, .int p2, aD, aD]) (st' := [.int p2, .ref w]) 2 rfl H
  obtain ⟨rv, h1, hc, H⟩ := pCalV 225 1 w (as := [.int p2]) (rest := []) rfl (by decide) (by decide +kernel) rfl rfl H
  replace H := pUseF (f_225_ok hS hw hc) H
  replace H := pRun (ls' := [.ref 131, .ref w, .int p2, .int (f_225 w p2 M), aD]) (st' := [.int (f_225 w p2 M), .ref w]) 3 rfl H
  obtain ⟨rv, h1, hc, H⟩ := pCalV 226 1 w (as := [.int (f_225 w p2 M)]) (rest := []) rfl (by decide) (by decide +kernel) rfl rfl H
  replace H := pUseF (f_226_ok hS hw hc) H
  replace H := pRun (ls' := [.ref 131, .ref w, .int p2, .int (f_225 w p2 M), .int (f_226 w (f_225 w p2 M) M)]) (st' := [.int (f_225 w p2 M), .ref w, .ref 131]) 4 rfl H
  obtain ⟨rv, h1, hc, H⟩ := pCalV 165 2 131 (as := [.ref w, .int (f_225 w p2 M)]) (rest := []) rfl (by decide) (by decide +kernel) rfl rfl H
  obtain ⟨v1, M1, hD, H⟩ := pUseU (D_165c_ok hS hw hc) H
  refine pG_call (x := v1) (M1 := M1) hD ?_
  replace H := pRun (ls' := [.ref 131, .ref w, .int p2, .int (f_225 w p2 M), .int (f_226 w (f_225 w p2 M) M)]) (st' := [.ref 131]) 1 rfl H
  replace H := pGetR (r := 132) (pRf hS (by decide +kernel)) rfl H
  replace H := pRun (ls' := [.ref 131, .ref w, .int p2, .int (f_225 w p2 M), .int (f_226 w (f_225 w p2 M) M)]) (st' := [.int ((kI 1) <<< (p2 &&& 31)), .int (f_226 w (f_225 w p2 M) M), .ref w, .int (kI 11), .ref 132]) 6 rfl H
  obtain ⟨rv, h1, hc, H⟩ := pCalV 231 2 w (as := [.int (f_226 w (f_225 w p2 M) M), .int ((kI 1) <<< (p2 &&& 31))]) (rest := [.int (kI 11), .ref 132]) rfl (by decide) (by decide +kernel) rfl rfl H
  obtain ⟨v2, M2, hD, H⟩ := pUseI (D_231_ok hS hw hc) H
  refine pG_call (x := v2) (M1 := M2) hD ?_
  obtain ⟨g1, M3, eM3, H⟩ := pIst (n := 14) (pLn hS (show pCa 132 14 = true by decide +kernel)) H
  refine pG_gd g1 (pG_put (M2 := M3) eM3 ?_)
  replace H := pRun (ls' := [.ref 131, .ref w, .int p2, .int (f_225 w p2 M), .int (f_226 w (f_225 w p2 M) M)]) (st' := [.ref 131]) 1 rfl H
  replace H := pGetR (r := 132) (pRf hS (by decide +kernel)) rfl H
  replace H := pRun (ls' := [.ref 131, .ref w, .int p2, .int (f_225 w p2 M), .int (f_226 w (f_225 w p2 M) M)]) (st' := [.int ((kI 1) - (f_225 w p2 M)), .ref w, .ref w, .int (kI 12), .ref 132]) 6 rfl H
  obtain ⟨rv, h1, hc, H⟩ := pCalV 226 1 w (as := [.int ((kI 1) - (f_225 w p2 M))]) (rest := [.ref w, .int (kI 12), .ref 132]) rfl (by decide) (by decide +kernel) rfl rfl H
  replace H := pUseF (f_226_ok hS hw hc) H
  replace H := pRun (ls' := [.ref 131, .ref w, .int p2, .int (f_225 w p2 M), .int (f_226 w (f_225 w p2 M) M)]) (st' := [.int ((kI 1) <<< (p2 &&& 31)), .int (f_226 w ((kI 1) - (f_225 w p2 M)) M3), .ref w, .int (kI 12), .ref 132]) 3 rfl H
  obtain ⟨rv, h1, hc, H⟩ := pCalV 231 2 w (as := [.int (f_226 w ((kI 1) - (f_225 w p2 M)) M3), .int ((kI 1) <<< (p2 &&& 31))]) (rest := [.int (kI 12), .ref 132]) rfl (by decide) (by decide +kernel) rfl rfl H
  obtain ⟨v3, M4, hD, H⟩ := pUseI (D_231_ok hS hw hc) H
  refine pG_call (x := v3) (M1 := M4) hD ?_
  obtain ⟨g2, M5, eM5, H⟩ := pIst (n := 14) (pLn hS (show pCa 132 14 = true by decide +kernel)) H
  refine pG_gd g2 (pG_put (M2 := M5) eM5 ?_)
  replace H := pRun (ls' := [.ref 131, .ref w, .int p2, .int (f_225 w p2 M), .int (f_226 w (f_225 w p2 M) M)]) (st' := [.ref 131]) 1 rfl H
  replace H := pGetR (r := 132) (pRf hS (by decide +kernel)) rfl H
  replace H := pRun (ls' := [.ref 131, .ref w, .int p2, .int (f_225 w p2 M), .int (f_226 w (f_225 w p2 M) M)]) (st' := [.int (f_226 w (f_225 w p2 M) M), .int ((kI 1) <<< (p2 &&& 31)), .ref w, .int (kI 8), .ref 132]) 6 rfl H
  obtain ⟨rv, h1, hc, H⟩ := pCalV 231 2 w (as := [.int ((kI 1) <<< (p2 &&& 31)), .int (f_226 w (f_225 w p2 M) M)]) (rest := [.int (kI 8), .ref 132]) rfl (by decide) (by decide +kernel) rfl rfl H
  obtain ⟨v4, M6, hD, H⟩ := pUseI (D_231_ok hS hw hc) H
  refine pG_call (x := v4) (M1 := M6) hD ?_
  obtain ⟨g3, M7, eM7, H⟩ := pIst (n := 14) (pLn hS (show pCa 132 14 = true by decide +kernel)) H
  refine pG_gd g3 (pG_put (M2 := M7) eM7 ?_)
  replace H := pRun (ls' := [.ref 131, .ref w, .int p2, .int (f_225 w p2 M), .int (f_226 w (f_225 w p2 M) M)]) (st' := [.ref 131]) 1 rfl H
  replace H := pGetR (r := 132) (pRf hS (by decide +kernel)) rfl H
  replace H := pRun (ls' := [.ref 131, .ref w, .int p2, .int (f_225 w p2 M), .int (f_226 w (f_225 w p2 M) M)]) (st' := [.ref w, .int (kI 10), .ref 132]) 2 rfl H
  replace H := pGetR (r := w + 1) (pRw hS hw (by decide +kernel)) rfl H
  replace H := pRun (ls' := [.ref 131, .ref w, .int p2, .int (f_225 w p2 M), .int (f_226 w (f_225 w p2 M) M)]) (st' := [.int p2, .ref (w + 1), .int (kI 10), .ref 132]) 1 rfl H
  obtain ⟨g4, H⟩ := pIld (n := 24) (pLt (pRl (n := 24) hw (by decide +kernel))) (pLn hS (pRl (n := 24) hw (by decide +kernel))) H
  refine pG_gd g4 ?_
  obtain ⟨g5, M8, eM8, H⟩ := pIst (n := 14) (pLn hS (show pCa 132 14 = true by decide +kernel)) H
  refine pG_gd g5 (pG_put (M2 := M8) eM8 ?_)
  replace H := pRun (ls' := [.ref 131, .ref w, .int p2, .int (f_225 w p2 M), .int (f_226 w (f_225 w p2 M) M)]) (st' := [.ref 131]) 1 rfl H
  replace H := pGetR (r := 132) (pRf hS (by decide +kernel)) rfl H
  replace H := pRun (ls' := [.ref 131, .ref w, .int p2, .int (f_225 w p2 M), .int (f_226 w (f_225 w p2 M) M)]) (st' := [.int (f_226 w (f_225 w p2 M) M), .int (kI 13), .ref 132]) 2 rfl H
  obtain ⟨rv, h1, hc, H⟩ := pCalT 239 1 (as := [.int (f_226 w (f_225 w p2 M) M)]) (rest := [.int (kI 13), .ref 132]) rfl (by decide) (by decide +kernel) rfl rfl H
  replace H := pUseF (f_239_ok hS hc) H
  obtain ⟨g6, M9, eM9, H⟩ := pIst (n := 14) (pLn hS (show pCa 132 14 = true by decide +kernel)) H
  refine pG_gd g6 (pG_put (M2 := M9) eM9 ?_)
  exact pG_ret (pRetU H)
def l_168c (w : Nat) : List (Nat × Nat) := []
theorem F_168c {w : Nat} {p2 : Int32} (hw : pK 10 w = true) {M : pMem} {v : Unit} {N : pMem} (h : D_168c w p2 M v N) : pFr (l_168c w) M N :=
  (show pTf (l_168c w) M (D_168c w p2 M) from (tf_call pFr_refl (fun _ _ h => F_165c hw h) [] rfl fun _ M1 f1 => (tf_call f1 (fun _ _ h => F_231 hw h) [] rfl fun _ M2 f2 => (tf_gd fun g1 => (tf_putS f2 (fun _ => rfl) fun M3 f3 => (tf_call f3 (fun _ _ h => F_231 hw h) [] rfl fun _ M4 f4 => (tf_gd fun g2 => (tf_putS f4 (fun _ => rfl) fun M5 f5 => (tf_call f5 (fun _ _ h => F_231 hw h) [] rfl fun _ M6 f6 => (tf_gd fun g3 => (tf_putS f6 (fun _ => rfl) fun M7 f7 => (tf_gd fun g4 => (tf_gd fun g5 => (tf_putS f7 (fun _ => rfl) fun M8 f8 => (tf_gd fun g6 => (tf_putS f8 (fun _ => rfl) fun M9 f9 => (tf_ret f9))))))))))))))))) v N h
/-- TwoCamps$Question.askOfDay(LTwoCamps$Wood;I)V -/
def D_165s (w : Nat) (p2 : Int32) (M : pMem) : pT Unit := tCall (D_240_135 (kI 0) M) fun _ M1 => tGd (pIn (kI 0) 14) <| tPut (aPut M1 135 (ix (kI 0)) (M1 w 6)) fun M2 => tGd (pIn (kI 1) 14) <| tPut (aPut M2 135 (ix (kI 1)) (M2 w 7)) fun M3 => tGd (pIn (kI 2) 14) <| tPut (aPut M3 135 (ix (kI 2)) (M3 w 8)) fun M4 => tIf (¬ (M4 w 9) = p2) (tGd (pIn (kI 5) 14) <| tPut (aPut M4 135 (ix (kI 5)) (kI 0)) fun M5 => tIf (¬ (M5 w 9) = ((kI 1) - p2)) (tGd (pIn (kI 6) 14) <| tPut (aPut M5 135 (ix (kI 6)) (kI 0)) fun M6 => tIf (¬ (M6 w 10) = p2) (tGd (pIn (kI 7) 14) <| tPut (aPut M6 135 (ix (kI 7)) (kI 0)) fun M7 => tRet () M7) (tGd (pIn (kI 7) 14) <| tPut (aPut M6 135 (ix (kI 7)) (kI 1)) fun M7 => tRet () M7)) (tGd (pIn (kI 6) 14) <| tPut (aPut M5 135 (ix (kI 6)) (kI 1)) fun M6 => tIf (¬ (M6 w 10) = p2) (tGd (pIn (kI 7) 14) <| tPut (aPut M6 135 (ix (kI 7)) (kI 0)) fun M7 => tRet () M7) (tGd (pIn (kI 7) 14) <| tPut (aPut M6 135 (ix (kI 7)) (kI 1)) fun M7 => tRet () M7))) (tGd (pIn (kI 5) 14) <| tPut (aPut M4 135 (ix (kI 5)) (kI 1)) fun M5 => tIf (¬ (M5 w 9) = ((kI 1) - p2)) (tGd (pIn (kI 6) 14) <| tPut (aPut M5 135 (ix (kI 6)) (kI 0)) fun M6 => tIf (¬ (M6 w 10) = p2) (tGd (pIn (kI 7) 14) <| tPut (aPut M6 135 (ix (kI 7)) (kI 0)) fun M7 => tRet () M7) (tGd (pIn (kI 7) 14) <| tPut (aPut M6 135 (ix (kI 7)) (kI 1)) fun M7 => tRet () M7)) (tGd (pIn (kI 6) 14) <| tPut (aPut M5 135 (ix (kI 6)) (kI 1)) fun M6 => tIf (¬ (M6 w 10) = p2) (tGd (pIn (kI 7) 14) <| tPut (aPut M6 135 (ix (kI 7)) (kI 0)) fun M7 => tRet () M7) (tGd (pIn (kI 7) 14) <| tPut (aPut M6 135 (ix (kI 7)) (kI 1)) fun M7 => tRet () M7)))
theorem D_165s_ok {X : aX} {F d : Nat} {K : Nat → aK} (hS : pS K) {w : Nat} {p2 : Int32} (hw : pK 10 w = true) {M : pMem} {out : Option Value × aH} (H : aM X F d 165 [.ref 134, .ref w, .int p2] (pH K M) = some out) : pG eU K out (D_165s w p2 M) := by
  obtain ⟨d', g0, _, H⟩ := pEnt (n := 3) (ls := [.ref 134, .ref w, .int p2]) (mcb_165 rfl) (by decide +kernel) rfl H
  unfold D_165s
  replace H := pRun (ls' := [.ref 134, .ref w, .int p2]) (st' := [.ref 134]) 1 rfl H
  replace H := pGetR (r := 135) (pRf hS (by decide +kernel)) rfl H
  replace H := pRun (ls' := [.ref 134, .ref w, .int p2]) (st' := [.int (kI 0), .ref 135]) 1 rfl H
  obtain ⟨rv, h1, hc, H⟩ := pCalT 240 2 (as := [.ref 135, .int (kI 0)]) (rest := []) rfl (by decide) (by decide +kernel) rfl rfl H
  obtain ⟨v1, M1, hD, H⟩ := pUseU (D_240_135_ok hS hc) H
  refine pG_call (x := v1) (M1 := M1) hD ?_
  replace H := pRun (ls' := [.ref 134, .ref w, .int p2]) (st' := [.ref 134]) 1 rfl H
  replace H := pGetR (r := 135) (pRf hS (by decide +kernel)) rfl H
  replace H := pRun (ls' := [.ref 134, .ref w, .int p2]) (st' := [.ref w, .int (kI 0), .ref 135]) 2 rfl H
  replace H := pGetN (v := M1 w 6) rfl (by decide) H
  obtain ⟨g1, M2, eM2, H⟩ := pIst (n := 14) (pLn hS (show pCa 135 14 = true by decide +kernel)) H
  refine pG_gd g1 (pG_put (M2 := M2) eM2 ?_)
  replace H := pRun (ls' := [.ref 134, .ref w, .int p2]) (st' := [.ref 134]) 1 rfl H
  replace H := pGetR (r := 135) (pRf hS (by decide +kernel)) rfl H
  replace H := pRun (ls' := [.ref 134, .ref w, .int p2]) (st' := [.ref w, .int (kI 1), .ref 135]) 2 rfl H
  replace H := pGetN (v := M2 w 7) rfl (by decide) H
  obtain ⟨g2, M3, eM3, H⟩ := pIst (n := 14) (pLn hS (show pCa 135 14 = true by decide +kernel)) H
  refine pG_gd g2 (pG_put (M2 := M3) eM3 ?_)
  replace H := pRun (ls' := [.ref 134, .ref w, .int p2]) (st' := [.ref 134]) 1 rfl H
  replace H := pGetR (r := 135) (pRf hS (by decide +kernel)) rfl H
  replace H := pRun (ls' := [.ref 134, .ref w, .int p2]) (st' := [.ref w, .int (kI 2), .ref 135]) 2 rfl H
  replace H := pGetN (v := M3 w 8) rfl (by decide) H
  obtain ⟨g3, M4, eM4, H⟩ := pIst (n := 14) (pLn hS (show pCa 135 14 = true by decide +kernel)) H
  refine pG_gd g3 (pG_put (M2 := M4) eM4 ?_)
  replace H := pRun (ls' := [.ref 134, .ref w, .int p2]) (st' := [.ref 134]) 1 rfl H
  replace H := pGetR (r := 135) (pRf hS (by decide +kernel)) rfl H
  replace H := pRun (ls' := [.ref 134, .ref w, .int p2]) (st' := [.ref w, .int (kI 5), .ref 135]) 2 rfl H
  replace H := pGetN (v := M4 w 9) rfl (by decide) H
  replace H := pRun (ls' := [.ref 134, .ref w, .int p2]) (st' := [.int p2, .int (M4 w 9), .int (kI 5), .ref 135]) 1 rfl H
  rcases pIfc (n1 := 2) rfl (mcb_165 rfl) (mcb_165 rfl) H with ⟨g4, g0, _, H⟩ | ⟨g4, g0, _, H⟩
  · refine pG_pos (c := ¬ (M4 w 9) = p2) g4 ?_
    replace H := pRun (ls' := [.ref 134, .ref w, .int p2]) (st' := [.int (kI 0), .int (kI 5), .ref 135]) 1 rfl H
    obtain ⟨g0, _, H⟩ := pFall (mcb_165 rfl) H
    obtain ⟨g5, M5, eM5, H⟩ := pIst (n := 14) (pLn hS (show pCa 135 14 = true by decide +kernel)) H
    refine pG_gd g5 (pG_put (M2 := M5) eM5 ?_)
    replace H := pRun (ls' := [.ref 134, .ref w, .int p2]) (st' := [.ref 134]) 1 rfl H
    replace H := pGetR (r := 135) (pRf hS (by decide +kernel)) rfl H
    replace H := pRun (ls' := [.ref 134, .ref w, .int p2]) (st' := [.ref w, .int (kI 6), .ref 135]) 2 rfl H
    replace H := pGetN (v := M5 w 9) rfl (by decide) H
    replace H := pRun (ls' := [.ref 134, .ref w, .int p2]) (st' := [.int ((kI 1) - p2), .int (M5 w 9), .int (kI 6), .ref 135]) 3 rfl H
    rcases pIfc (n1 := 5) rfl (mcb_165 rfl) (mcb_165 rfl) H with ⟨g6, g0, _, H⟩ | ⟨g6, g0, _, H⟩
    · refine pG_pos (c := ¬ (M5 w 9) = ((kI 1) - p2)) g6 ?_
      replace H := pRun (ls' := [.ref 134, .ref w, .int p2]) (st' := [.int (kI 0), .int (kI 6), .ref 135]) 1 rfl H
      obtain ⟨g0, _, H⟩ := pFall (mcb_165 rfl) H
      obtain ⟨g7, M6, eM6, H⟩ := pIst (n := 14) (pLn hS (show pCa 135 14 = true by decide +kernel)) H
      refine pG_gd g7 (pG_put (M2 := M6) eM6 ?_)
      replace H := pRun (ls' := [.ref 134, .ref w, .int p2]) (st' := [.ref 134]) 1 rfl H
      replace H := pGetR (r := 135) (pRf hS (by decide +kernel)) rfl H
      replace H := pRun (ls' := [.ref 134, .ref w, .int p2]) (st' := [.ref w, .int (kI 7), .ref 135]) 2 rfl H
      replace H := pGetN (v := M6 w 10) rfl (by decide) H
      replace H := pRun (ls' := [.ref 134, .ref w, .int p2]) (st' := [.int p2, .int (M6 w 10), .int (kI 7), .ref 135]) 1 rfl H
      rcases pIfc (n1 := 8) rfl (mcb_165 rfl) (mcb_165 rfl) H with ⟨g8, g0, _, H⟩ | ⟨g8, g0, _, H⟩
      · refine pG_pos (c := ¬ (M6 w 10) = p2) g8 ?_
        replace H := pRun (ls' := [.ref 134, .ref w, .int p2]) (st' := [.int (kI 0), .int (kI 7), .ref 135]) 1 rfl H
        obtain ⟨g0, _, H⟩ := pFall (mcb_165 rfl) H
        obtain ⟨g9, M7, eM7, H⟩ := pIst (n := 14) (pLn hS (show pCa 135 14 = true by decide +kernel)) H
        refine pG_gd g9 (pG_put (M2 := M7) eM7 ?_)
        exact pG_ret (pRetU H)
      · refine pG_neg (c := ¬ (M6 w 10) = p2) g8 ?_
        replace H := pRun (ls' := [.ref 134, .ref w, .int p2]) (st' := [.int (kI 1), .int (kI 7), .ref 135]) 1 rfl H
        obtain ⟨g0, _, H⟩ := pGo (n1 := 9) rfl (mcb_165 rfl) H
        obtain ⟨g9, M7, eM7, H⟩ := pIst (n := 14) (pLn hS (show pCa 135 14 = true by decide +kernel)) H
        refine pG_gd g9 (pG_put (M2 := M7) eM7 ?_)
        exact pG_ret (pRetU H)
    · refine pG_neg (c := ¬ (M5 w 9) = ((kI 1) - p2)) g6 ?_
      replace H := pRun (ls' := [.ref 134, .ref w, .int p2]) (st' := [.int (kI 1), .int (kI 6), .ref 135]) 1 rfl H
      obtain ⟨g0, _, H⟩ := pGo (n1 := 6) rfl (mcb_165 rfl) H
      obtain ⟨g7, M6, eM6, H⟩ := pIst (n := 14) (pLn hS (show pCa 135 14 = true by decide +kernel)) H
      refine pG_gd g7 (pG_put (M2 := M6) eM6 ?_)
      replace H := pRun (ls' := [.ref 134, .ref w, .int p2]) (st' := [.ref 134]) 1 rfl H
      replace H := pGetR (r := 135) (pRf hS (by decide +kernel)) rfl H
      replace H := pRun (ls' := [.ref 134, .ref w, .int p2]) (st' := [.ref w, .int (kI 7), .ref 135]) 2 rfl H
      replace H := pGetN (v := M6 w 10) rfl (by decide) H
      replace H := pRun (ls' := [.ref 134, .ref w, .int p2]) (st' := [.int p2, .int (M6 w 10), .int (kI 7), .ref 135]) 1 rfl H
      rcases pIfc (n1 := 8) rfl (mcb_165 rfl) (mcb_165 rfl) H with ⟨g8, g0, _, H⟩ | ⟨g8, g0, _, H⟩
      · refine pG_pos (c := ¬ (M6 w 10) = p2) g8 ?_
        replace H := pRun (ls' := [.ref 134, .ref w, .int p2]) (st' := [.int (kI 0), .int (kI 7), .ref 135]) 1 rfl H
        obtain ⟨g0, _, H⟩ := pFall (mcb_165 rfl) H
        obtain ⟨g9, M7, eM7, H⟩ := pIst (n := 14) (pLn hS (show pCa 135 14 = true by decide +kernel)) H
        refine pG_gd g9 (pG_put (M2 := M7) eM7 ?_)
        exact pG_ret (pRetU H)
      · refine pG_neg (c := ¬ (M6 w 10) = p2) g8 ?_
        replace H := pRun (ls' := [.ref 134, .ref w, .int p2]) (st' := [.int (kI 1), .int (kI 7), .ref 135]) 1 rfl H
        obtain ⟨g0, _, H⟩ := pGo (n1 := 9) rfl (mcb_165 rfl) H
        obtain ⟨g9, M7, eM7, H⟩ := pIst (n := 14) (pLn hS (show pCa 135 14 = true by decide +kernel)) H
        refine pG_gd g9 (pG_put (M2 := M7) eM7 ?_)
        exact pG_ret (pRetU H)
  · refine pG_neg (c := ¬ (M4 w 9) = p2) g4 ?_
    replace H := pRun (ls' := [.ref 134, .ref w, .int p2]) (st' := [.int (kI 1), .int (kI 5), .ref 135]) 1 rfl H
    obtain ⟨g0, _, H⟩ := pGo (n1 := 3) rfl (mcb_165 rfl) H
    obtain ⟨g5, M5, eM5, H⟩ := pIst (n := 14) (pLn hS (show pCa 135 14 = true by decide +kernel)) H
    refine pG_gd g5 (pG_put (M2 := M5) eM5 ?_)
    replace H := pRun (ls' := [.ref 134, .ref w, .int p2]) (st' := [.ref 134]) 1 rfl H
    replace H := pGetR (r := 135) (pRf hS (by decide +kernel)) rfl H
    replace H := pRun (ls' := [.ref 134, .ref w, .int p2]) (st' := [.ref w, .int (kI 6), .ref 135]) 2 rfl H
    replace H := pGetN (v := M5 w 9) rfl (by decide) H
    replace H := pRun (ls' := [.ref 134, .ref w, .int p2]) (st' := [.int ((kI 1) - p2), .int (M5 w 9), .int (kI 6), .ref 135]) 3 rfl H
    rcases pIfc (n1 := 5) rfl (mcb_165 rfl) (mcb_165 rfl) H with ⟨g6, g0, _, H⟩ | ⟨g6, g0, _, H⟩
    · refine pG_pos (c := ¬ (M5 w 9) = ((kI 1) - p2)) g6 ?_
      replace H := pRun (ls' := [.ref 134, .ref w, .int p2]) (st' := [.int (kI 0), .int (kI 6), .ref 135]) 1 rfl H
      obtain ⟨g0, _, H⟩ := pFall (mcb_165 rfl) H
      obtain ⟨g7, M6, eM6, H⟩ := pIst (n := 14) (pLn hS (show pCa 135 14 = true by decide +kernel)) H
      refine pG_gd g7 (pG_put (M2 := M6) eM6 ?_)
      replace H := pRun (ls' := [.ref 134, .ref w, .int p2]) (st' := [.ref 134]) 1 rfl H
      replace H := pGetR (r := 135) (pRf hS (by decide +kernel)) rfl H
      replace H := pRun (ls' := [.ref 134, .ref w, .int p2]) (st' := [.ref w, .int (kI 7), .ref 135]) 2 rfl H
      replace H := pGetN (v := M6 w 10) rfl (by decide) H
      replace H := pRun (ls' := [.ref 134, .ref w, .int p2]) (st' := [.int p2, .int (M6 w 10), .int (kI 7), .ref 135]) 1 rfl H
      rcases pIfc (n1 := 8) rfl (mcb_165 rfl) (mcb_165 rfl) H with ⟨g8, g0, _, H⟩ | ⟨g8, g0, _, H⟩
      · refine pG_pos (c := ¬ (M6 w 10) = p2) g8 ?_
        replace H := pRun (ls' := [.ref 134, .ref w, .int p2]) (st' := [.int (kI 0), .int (kI 7), .ref 135]) 1 rfl H
        obtain ⟨g0, _, H⟩ := pFall (mcb_165 rfl) H
        obtain ⟨g9, M7, eM7, H⟩ := pIst (n := 14) (pLn hS (show pCa 135 14 = true by decide +kernel)) H
        refine pG_gd g9 (pG_put (M2 := M7) eM7 ?_)
        exact pG_ret (pRetU H)
      · refine pG_neg (c := ¬ (M6 w 10) = p2) g8 ?_
        replace H := pRun (ls' := [.ref 134, .ref w, .int p2]) (st' := [.int (kI 1), .int (kI 7), .ref 135]) 1 rfl H
        obtain ⟨g0, _, H⟩ := pGo (n1 := 9) rfl (mcb_165 rfl) H
        obtain ⟨g9, M7, eM7, H⟩ := pIst (n := 14) (pLn hS (show pCa 135 14 = true by decide +kernel)) H
        refine pG_gd g9 (pG_put (M2 := M7) eM7 ?_)
        exact pG_ret (pRetU H)
    · refine pG_neg (c := ¬ (M5 w 9) = ((kI 1) - p2)) g6 ?_
      replace H := pRun (ls' := [.ref 134, .ref w, .int p2]) (st' := [.int (kI 1), .int (kI 6), .ref 135]) 1 rfl H
      obtain ⟨g0, _, H⟩ := pGo (n1 := 6) rfl (mcb_165 rfl) H
      obtain ⟨g7, M6, eM6, H⟩ := pIst (n := 14) (pLn hS (show pCa 135 14 = true by decide +kernel)) H
      refine pG_gd g7 (pG_put (M2 := M6) eM6 ?_)
      replace H := pRun (ls' := [.ref 134, .ref w, .int p2]) (st' := [.ref 134]) 1 rfl H
      replace H := pGetR (r := 135) (pRf hS (by decide +kernel)) rfl H
      replace H := pRun (ls' := [.ref 134, .ref w, .int p2]) (st' := [.ref w, .int (kI 7), .ref 135]) 2 rfl H
      replace H := pGetN (v := M6 w 10) rfl (by decide) H
      replace H := pRun (ls' := [.ref 134, .ref w, .int p2]) (st' := [.int p2, .int (M6 w 10), .int (kI 7), .ref 135]) 1 rfl H
      rcases pIfc (n1 := 8) rfl (mcb_165 rfl) (mcb_165 rfl) H with ⟨g8, g0, _, H⟩ | ⟨g8, g0, _, H⟩
      · refine pG_pos (c := ¬ (M6 w 10) = p2) g8 ?_
        replace H := pRun (ls' := [.ref 134, .ref w, .int p2]) (st' := [.int (kI 0), .int (kI 7), .ref 135]) 1 rfl H
        obtain ⟨g0, _, H⟩ := pFall (mcb_165 rfl) H
        obtain ⟨g9, M7, eM7, H⟩ := pIst (n := 14) (pLn hS (show pCa 135 14 = true by decide +kernel)) H
        refine pG_gd g9 (pG_put (M2 := M7) eM7 ?_)
        exact pG_ret (pRetU H)
      · refine pG_neg (c := ¬ (M6 w 10) = p2) g8 ?_
        replace H := pRun (ls' := [.ref 134, .ref w, .int p2]) (st' := [.int (kI 1), .int (kI 7), .ref 135]) 1 rfl H
        obtain ⟨g0, _, H⟩ := pGo (n1 := 9) rfl (mcb_165 rfl) H
        obtain ⟨g9, M7, eM7, H⟩ := pIst (n := 14) (pLn hS (show pCa 135 14 = true by decide +kernel)) H
        refine pG_gd g9 (pG_put (M2 := M7) eM7 ?_)
        exact pG_ret (pRetU H)
def l_165s (w : Nat) : List (Nat × Nat) := []
theorem F_165s {w : Nat} {p2 : Int32} (hw : pK 10 w = true) {M : pMem} {v : Unit} {N : pMem} (h : D_165s w p2 M v N) : pFr (l_165s w) M N :=
  (show pTf (l_165s w) M (D_165s w p2 M) from (tf_call pFr_refl (fun _ _ h => F_240_135 h) [] rfl fun _ M1 f1 => (tf_gd fun g1 => (tf_putS f1 (fun _ => rfl) fun M2 f2 => (tf_gd fun g2 => (tf_putS f2 (fun _ => rfl) fun M3 f3 => (tf_gd fun g3 => (tf_putS f3 (fun _ => rfl) fun M4 f4 => (tf_if (tf_gd fun g5 => (tf_putS f4 (fun _ => rfl) fun M5 f5 => (tf_if (tf_gd fun g7 => (tf_putS f5 (fun _ => rfl) fun M6 f6 => (tf_if (tf_gd fun g9 => (tf_putS f6 (fun _ => rfl) fun M7 f7 => (tf_ret f7))) (tf_gd fun g9 => (tf_putS f6 (fun _ => rfl) fun M7 f7 => (tf_ret f7)))))) (tf_gd fun g7 => (tf_putS f5 (fun _ => rfl) fun M6 f6 => (tf_if (tf_gd fun g9 => (tf_putS f6 (fun _ => rfl) fun M7 f7 => (tf_ret f7))) (tf_gd fun g9 => (tf_putS f6 (fun _ => rfl) fun M7 f7 => (tf_ret f7))))))))) (tf_gd fun g5 => (tf_putS f4 (fun _ => rfl) fun M5 f5 => (tf_if (tf_gd fun g7 => (tf_putS f5 (fun _ => rfl) fun M6 f6 => (tf_if (tf_gd fun g9 => (tf_putS f6 (fun _ => rfl) fun M7 f7 => (tf_ret f7))) (tf_gd fun g9 => (tf_putS f6 (fun _ => rfl) fun M7 f7 => (tf_ret f7)))))) (tf_gd fun g7 => (tf_putS f5 (fun _ => rfl) fun M6 f6 => (tf_if (tf_gd fun g9 => (tf_putS f6 (fun _ => rfl) fun M7 f7 => (tf_ret f7))) (tf_gd fun g9 => (tf_putS f6 (fun _ => rfl) fun M7 f7 => (tf_ret f7)))))))))))))))))) v N h
