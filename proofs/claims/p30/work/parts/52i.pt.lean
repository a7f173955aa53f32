/-! what runs come to, method by method: printed by wip/pm/pm.py -/
/-- TwoCampsModel.wordAt(II)I -/
def S_64_1 (p1 : Int32) (p2 : Int32) (P1 : Int32 → Int32 → pMem → pT Int32) (P3 : Int32 → Int32 → Int32 → pMem → pT Int32) (P10 : Int32 → Int32 → pMem → pT Int32) (x3 : Int32) (x4 : Int32) (M : pMem) : pT Int32 := tIf ((kI 155) ≤ x4) (tRet (kI (-1)) M) (P3 (x3 + (kI 1)) x4 (kI 0) M)
def S_64_3 (p1 : Int32) (p2 : Int32) (P1 : Int32 → Int32 → pMem → pT Int32) (P3 : Int32 → Int32 → Int32 → pMem → pT Int32) (P10 : Int32 → Int32 → pMem → pT Int32) (x3 : Int32) (x4 : Int32) (x5 : Int32) (M : pMem) : pT Int32 := tIf (p2 ≤ (p1 + x5)) (tIf (¬ (p1 + x5) = p2) (P10 x3 (x4 + (kI 1)) M) (tGd (pIn ((x4 + (kI 1)) + x5) 156) <| tIf (¬ (M 203 (ix ((x4 + (kI 1)) + x5))) = (kI 32)) (P10 x3 (x4 + (kI 1)) M) (tRet x3 M))) (tGd (pIn ((x4 + (kI 1)) + x5) 156) <| tGd (pIn (p1 + x5) 500) <| tIf (¬ (M 203 (ix ((x4 + (kI 1)) + x5))) = (M 202 (ix (p1 + x5)))) (tIf (¬ (p1 + x5) = p2) (P10 x3 (x4 + (kI 1)) M) (tGd (pIn ((x4 + (kI 1)) + x5) 156) <| tIf (¬ (M 203 (ix ((x4 + (kI 1)) + x5))) = (kI 32)) (P10 x3 (x4 + (kI 1)) M) (tRet x3 M))) (P3 x3 x4 (x5 + (kI 1)) M))
def S_64_10 (p1 : Int32) (p2 : Int32) (P1 : Int32 → Int32 → pMem → pT Int32) (P3 : Int32 → Int32 → Int32 → pMem → pT Int32) (P10 : Int32 → Int32 → pMem → pT Int32) (x3 : Int32) (x4 : Int32) (M : pMem) : pT Int32 := tGd (pIn x4 156) <| tIf ((M 203 (ix x4)) = (kI 32)) (P1 x3 x4 M) (P10 x3 (x4 + (kI 1)) M)
def C_64 (p1 : Int32) (p2 : Int32) (P1 : Int32 → Int32 → pMem → pT Int32) (P3 : Int32 → Int32 → Int32 → pMem → pT Int32) (P10 : Int32 → Int32 → pMem → pT Int32) : Prop := (∀ (x3 : Int32) (x4 : Int32) M v N, S_64_1 p1 p2 P1 P3 P10 x3 x4 M v N → P1 x3 x4 M v N) ∧ (∀ (x3 : Int32) (x4 : Int32) (x5 : Int32) M v N, S_64_3 p1 p2 P1 P3 P10 x3 x4 x5 M v N → P3 x3 x4 x5 M v N) ∧ (∀ (x3 : Int32) (x4 : Int32) M v N, S_64_10 p1 p2 P1 P3 P10 x3 x4 M v N → P10 x3 x4 M v N)
def L_64_1 (p1 : Int32) (p2 : Int32) (x3 : Int32) (x4 : Int32) (M : pMem) : pT Int32 := fun v N => ∀ P : (Int32 → Int32 → pMem → pT Int32) × (Int32 → Int32 → Int32 → pMem → pT Int32) × (Int32 → Int32 → pMem → pT Int32), C_64 p1 p2 P.1 P.2.1 P.2.2 → P.1 x3 x4 M v N
def L_64_3 (p1 : Int32) (p2 : Int32) (x3 : Int32) (x4 : Int32) (x5 : Int32) (M : pMem) : pT Int32 := fun v N => ∀ P : (Int32 → Int32 → pMem → pT Int32) × (Int32 → Int32 → Int32 → pMem → pT Int32) × (Int32 → Int32 → pMem → pT Int32), C_64 p1 p2 P.1 P.2.1 P.2.2 → P.2.1 x3 x4 x5 M v N
def L_64_10 (p1 : Int32) (p2 : Int32) (x3 : Int32) (x4 : Int32) (M : pMem) : pT Int32 := fun v N => ∀ P : (Int32 → Int32 → pMem → pT Int32) × (Int32 → Int32 → Int32 → pMem → pT Int32) × (Int32 → Int32 → pMem → pT Int32), C_64 p1 p2 P.1 P.2.1 P.2.2 → P.2.2 x3 x4 M v N
def D_64 (p1 : Int32) (p2 : Int32) (M : pMem) : pT Int32 := L_64_1 p1 p2 (kI (-1)) (kI 0) M
theorem K_64 {X : aX} {F d : Nat} {K : Nat → aK} (hS : pS K) {p1 : Int32} {p2 : Int32} {out : Option Value × aH} (P1 : Int32 → Int32 → pMem → pT Int32) (P3 : Int32 → Int32 → Int32 → pMem → pT Int32) (P10 : Int32 → Int32 → pMem → pT Int32) (hC : C_64 p1 p2 P1 P3 P10) : ∀ f, (∀ (x3 : Int32) (x4 : Int32) (u5 : Value) M, pm X F d 64 f 1 [.iload 4, .bipush 155, .if_icmp .ge 13] [.ref 188, .int p1, .int p2, .int x3, .int x4, u5] [] (pH K M) out → pG eI K out (P1 x3 x4 M)) ∧ (∀ (x3 : Int32) (x4 : Int32) (x5 : Int32) M, pm X F d 64 f 3 [.iload 1, .iload 5, .iadd, .iload 2, .if_icmp .ge 6] [.ref 188, .int p1, .int p2, .int x3, .int x4, .int x5] [] (pH K M) out → pG eI K out (P3 x3 x4 x5 M)) ∧ (∀ (x3 : Int32) (x4 : Int32) (u5 : Int32) M, pm X F d 64 f 10 [.aload 0, .getfield 127112118, .iload 4, .iaload, .bipush 32, .if_icmp .eq 12] [.ref 188, .int p1, .int p2, .int x3, .int x4, .int u5] [] (pH K M) out → pG eI K out (P10 x3 x4 M)) := by
  intro f
  induction f using Nat.strongRecOn with
  | _ f ih =>
    refine ⟨?_, ?_, ?_⟩
    · intro x3 x4 u5 M H
      refine pG_mono (fun v N h => hC.1 x3 x4 M v N h) ?_
      unfold S_64_1
      replace H := pRun (ls' := [.ref 188, .int p1, .int p2, .int x3, .int x4, u5]) (st' := [.int (kI 155), .int x4]) 2 rfl H
      rcases pIfc (n1 := 13) rfl (mcb_64 rfl) (mcb_64 rfl) H with ⟨g1, g0, _, H⟩ | ⟨g1, g0, _, H⟩
      · refine pG_pos (c := (kI 155) ≤ x4) g1 ?_
        replace H := pRun (ls' := [.ref 188, .int p1, .int p2, .int x3, .int x4, u5]) (st' := [.int (kI (-1))]) 1 rfl H
        exact pG_ret (pRetI H)
      · refine pG_neg (c := (kI 155) ≤ x4) g1 ?_
        replace H := pRun (ls' := [.ref 188, .int p1, .int p2, .int (x3 + (kI 1)), .int x4, .int (kI 0)]) (st' := []) 6 rfl H
        obtain ⟨g0, _, H⟩ := pFall (mcb_64 rfl) H
        exact (ih _ (by omega)).2.1 _ _ _  _ H
    · intro x3 x4 x5 M H
      refine pG_mono (fun v N h => hC.2.1 x3 x4 x5 M v N h) ?_
      unfold S_64_3
      replace H := pRun (ls' := [.ref 188, .int p1, .int p2, .int x3, .int x4, .int x5]) (st' := [.int p2, .int (p1 + x5)]) 4 rfl H
      rcases pIfc (n1 := 6) rfl (mcb_64 rfl) (mcb_64 rfl) H with ⟨g1, g0, _, H⟩ | ⟨g1, g0, _, H⟩
      · refine pG_pos (c := p2 ≤ (p1 + x5)) g1 ?_
        replace H := pRun (ls' := [.ref 188, .int p1, .int p2, .int x3, .int x4, .int x5]) (st' := [.int p2, .int (p1 + x5)]) 4 rfl H
        rcases pIfc (n1 := 9) rfl (mcb_64 rfl) (mcb_64 rfl) H with ⟨g2, g0, _, H⟩ | ⟨g2, g0, _, H⟩
        · refine pG_pos (c := ¬ (p1 + x5) = p2) g2 ?_
          replace H := pRun (ls' := [.ref 188, .int p1, .int p2, .int x3, .int (x4 + (kI 1)), .int x5]) (st' := []) 4 rfl H
          obtain ⟨g0, _, H⟩ := pFall (mcb_64 rfl) H
          exact (ih _ (by omega)).2.2 _ _ _  _ H
        · refine pG_neg (c := ¬ (p1 + x5) = p2) g2 ?_
          replace H := pRun (ls' := [.ref 188, .int p1, .int p2, .int x3, .int x4, .int x5]) (st' := [.ref 188]) 1 rfl H
          replace H := pGetR (r := 203) (pRf hS (by decide +kernel)) rfl H
          replace H := pRun (ls' := [.ref 188, .int p1, .int p2, .int x3, .int x4, .int x5]) (st' := [.int ((x4 + (kI 1)) + x5), .ref 203]) 5 rfl H
          obtain ⟨g3, H⟩ := pIld (n := 156) (pLt (show pCa 203 156 = true by decide +kernel)) (pLn hS (show pCa 203 156 = true by decide +kernel)) H
          refine pG_gd g3 ?_
          replace H := pRun (ls' := [.ref 188, .int p1, .int p2, .int x3, .int x4, .int x5]) (st' := [.int (kI 32), .int (M 203 (ix ((x4 + (kI 1)) + x5)))]) 1 rfl H
          rcases pIfc (n1 := 9) rfl (mcb_64 rfl) (mcb_64 rfl) H with ⟨g4, g0, _, H⟩ | ⟨g4, g0, _, H⟩
          · refine pG_pos (c := ¬ (M 203 (ix ((x4 + (kI 1)) + x5))) = (kI 32)) g4 ?_
            replace H := pRun (ls' := [.ref 188, .int p1, .int p2, .int x3, .int (x4 + (kI 1)), .int x5]) (st' := []) 4 rfl H
            obtain ⟨g0, _, H⟩ := pFall (mcb_64 rfl) H
            exact (ih _ (by omega)).2.2 _ _ _  _ H
          · refine pG_neg (c := ¬ (M 203 (ix ((x4 + (kI 1)) + x5))) = (kI 32)) g4 ?_
            replace H := pRun (ls' := [.ref 188, .int p1, .int p2, .int x3, .int x4, .int x5]) (st' := [.int x3]) 1 rfl H
            exact pG_ret (pRetI H)
      · refine pG_neg (c := p2 ≤ (p1 + x5)) g1 ?_
        replace H := pRun (ls' := [.ref 188, .int p1, .int p2, .int x3, .int x4, .int x5]) (st' := [.ref 188]) 1 rfl H
        replace H := pGetR (r := 203) (pRf hS (by decide +kernel)) rfl H
        replace H := pRun (ls' := [.ref 188, .int p1, .int p2, .int x3, .int x4, .int x5]) (st' := [.int ((x4 + (kI 1)) + x5), .ref 203]) 5 rfl H
        obtain ⟨g2, H⟩ := pIld (n := 156) (pLt (show pCa 203 156 = true by decide +kernel)) (pLn hS (show pCa 203 156 = true by decide +kernel)) H
        refine pG_gd g2 ?_
        replace H := pRun (ls' := [.ref 188, .int p1, .int p2, .int x3, .int x4, .int x5]) (st' := [.ref 188, .int (M 203 (ix ((x4 + (kI 1)) + x5)))]) 1 rfl H
        replace H := pGetR (r := 202) (pRf hS (by decide +kernel)) rfl H
        replace H := pRun (ls' := [.ref 188, .int p1, .int p2, .int x3, .int x4, .int x5]) (st' := [.int (p1 + x5), .ref 202, .int (M 203 (ix ((x4 + (kI 1)) + x5)))]) 3 rfl H
        obtain ⟨g3, H⟩ := pIld (n := 500) (pLt (show pCa 202 500 = true by decide +kernel)) (pLn hS (show pCa 202 500 = true by decide +kernel)) H
        refine pG_gd g3 ?_
        rcases pIfc (n1 := 6) rfl (mcb_64 rfl) (mcb_64 rfl) H with ⟨g4, g0, _, H⟩ | ⟨g4, g0, _, H⟩
        · refine pG_pos (c := ¬ (M 203 (ix ((x4 + (kI 1)) + x5))) = (M 202 (ix (p1 + x5)))) g4 ?_
          replace H := pRun (ls' := [.ref 188, .int p1, .int p2, .int x3, .int x4, .int x5]) (st' := [.int p2, .int (p1 + x5)]) 4 rfl H
          rcases pIfc (n1 := 9) rfl (mcb_64 rfl) (mcb_64 rfl) H with ⟨g5, g0, _, H⟩ | ⟨g5, g0, _, H⟩
          · refine pG_pos (c := ¬ (p1 + x5) = p2) g5 ?_
            replace H := pRun (ls' := [.ref 188, .int p1, .int p2, .int x3, .int (x4 + (kI 1)), .int x5]) (st' := []) 4 rfl H
            obtain ⟨g0, _, H⟩ := pFall (mcb_64 rfl) H
            exact (ih _ (by omega)).2.2 _ _ _  _ H
          · refine pG_neg (c := ¬ (p1 + x5) = p2) g5 ?_
            replace H := pRun (ls' := [.ref 188, .int p1, .int p2, .int x3, .int x4, .int x5]) (st' := [.ref 188]) 1 rfl H
            replace H := pGetR (r := 203) (pRf hS (by decide +kernel)) rfl H
            replace H := pRun (ls' := [.ref 188, .int p1, .int p2, .int x3, .int x4, .int x5]) (st' := [.int ((x4 + (kI 1)) + x5), .ref 203]) 5 rfl H
            obtain ⟨g6, H⟩ := pIld (n := 156) (pLt (show pCa 203 156 = true by decide +kernel)) (pLn hS (show pCa 203 156 = true by decide +kernel)) H
            refine pG_gd g6 ?_
            replace H := pRun (ls' := [.ref 188, .int p1, .int p2, .int x3, .int x4, .int x5]) (st' := [.int (kI 32), .int (M 203 (ix ((x4 + (kI 1)) + x5)))]) 1 rfl H
            rcases pIfc (n1 := 9) rfl (mcb_64 rfl) (mcb_64 rfl) H with ⟨g7, g0, _, H⟩ | ⟨g7, g0, _, H⟩
            · refine pG_pos (c := ¬ (M 203 (ix ((x4 + (kI 1)) + x5))) = (kI 32)) g7 ?_
              replace H := pRun (ls' := [.ref 188, .int p1, .int p2, .int x3, .int (x4 + (kI 1)), .int x5]) (st' := []) 4 rfl H
              obtain ⟨g0, _, H⟩ := pFall (mcb_64 rfl) H
              exact (ih _ (by omega)).2.2 _ _ _  _ H
            · refine pG_neg (c := ¬ (M 203 (ix ((x4 + (kI 1)) + x5))) = (kI 32)) g7 ?_
              replace H := pRun (ls' := [.ref 188, .int p1, .int p2, .int x3, .int x4, .int x5]) (st' := [.int x3]) 1 rfl H
              exact pG_ret (pRetI H)
        · refine pG_neg (c := ¬ (M 203 (ix ((x4 + (kI 1)) + x5))) = (M 202 (ix (p1 + x5)))) g4 ?_
          replace H := pRun (ls' := [.ref 188, .int p1, .int p2, .int x3, .int x4, .int (x5 + (kI 1))]) (st' := []) 4 rfl H
          obtain ⟨g0, _, H⟩ := pGo (n1 := 3) rfl (mcb_64 rfl) H
          exact (ih _ (by omega)).2.1 _ _ _  _ H
    · intro x3 x4 u5 M H
      refine pG_mono (fun v N h => hC.2.2 x3 x4 M v N h) ?_
      unfold S_64_10
      replace H := pRun (ls' := [.ref 188, .int p1, .int p2, .int x3, .int x4, .int u5]) (st' := [.ref 188]) 1 rfl H
      replace H := pGetR (r := 203) (pRf hS (by decide +kernel)) rfl H
      replace H := pRun (ls' := [.ref 188, .int p1, .int p2, .int x3, .int x4, .int u5]) (st' := [.int x4, .ref 203]) 1 rfl H
      obtain ⟨g1, H⟩ := pIld (n := 156) (pLt (show pCa 203 156 = true by decide +kernel)) (pLn hS (show pCa 203 156 = true by decide +kernel)) H
      refine pG_gd g1 ?_
      replace H := pRun (ls' := [.ref 188, .int p1, .int p2, .int x3, .int x4, .int u5]) (st' := [.int (kI 32), .int (M 203 (ix x4))]) 1 rfl H
      rcases pIfc (n1 := 12) rfl (mcb_64 rfl) (mcb_64 rfl) H with ⟨g2, g0, _, H⟩ | ⟨g2, g0, _, H⟩
      · refine pG_pos (c := (M 203 (ix x4)) = (kI 32)) g2 ?_
        obtain ⟨g0, _, H⟩ := pGo (n1 := 1) rfl (mcb_64 rfl) H
        exact (ih _ (by omega)).1 _ _ _  _ H
      · refine pG_neg (c := (M 203 (ix x4)) = (kI 32)) g2 ?_
        replace H := pRun (ls' := [.ref 188, .int p1, .int p2, .int x3, .int (x4 + (kI 1)), .int u5]) (st' := []) 4 rfl H
        obtain ⟨g0, _, H⟩ := pGo (n1 := 10) rfl (mcb_64 rfl) H
        exact (ih _ (by omega)).2.2 _ _ _  _ H
theorem L_64_1_ok {X : aX} {F d : Nat} {K : Nat → aK} (hS : pS K) {p1 : Int32} {p2 : Int32} {out : Option Value × aH} {f : Nat} {x3 : Int32} {x4 : Int32} {u5 : Value} {M : pMem} (H : pm X F d 64 f 1 [.iload 4, .bipush 155, .if_icmp .ge 13] [.ref 188, .int p1, .int p2, .int x3, .int x4, u5] [] (pH K M) out) : pG eI K out (L_64_1 p1 p2 x3 x4 M) := by
  refine pG_all (C := fun P : (Int32 → Int32 → pMem → pT Int32) × (Int32 → Int32 → Int32 → pMem → pT Int32) × (Int32 → Int32 → pMem → pT Int32) => C_64 p1 p2 P.1 P.2.1 P.2.2) (T := fun P => P.1 x3 x4 M) eI_inj ((fun _ _ _ _ _ => True), (fun _ _ _ _ _ _ => True), (fun _ _ _ _ _ => True)) ?_ (fun P hP => (K_64 hS P.1 P.2.1 P.2.2 hP f).1 _ _ _ _ H)
  exact ⟨(fun _ _ _ _ _ _ => trivial), (fun _ _ _ _ _ _ _ => trivial), (fun _ _ _ _ _ _ => trivial)⟩
theorem L_64_3_ok {X : aX} {F d : Nat} {K : Nat → aK} (hS : pS K) {p1 : Int32} {p2 : Int32} {out : Option Value × aH} {f : Nat} {x3 : Int32} {x4 : Int32} {x5 : Int32} {M : pMem} (H : pm X F d 64 f 3 [.iload 1, .iload 5, .iadd, .iload 2, .if_icmp .ge 6] [.ref 188, .int p1, .int p2, .int x3, .int x4, .int x5] [] (pH K M) out) : pG eI K out (L_64_3 p1 p2 x3 x4 x5 M) := by
  refine pG_all (C := fun P : (Int32 → Int32 → pMem → pT Int32) × (Int32 → Int32 → Int32 → pMem → pT Int32) × (Int32 → Int32 → pMem → pT Int32) => C_64 p1 p2 P.1 P.2.1 P.2.2) (T := fun P => P.2.1 x3 x4 x5 M) eI_inj ((fun _ _ _ _ _ => True), (fun _ _ _ _ _ _ => True), (fun _ _ _ _ _ => True)) ?_ (fun P hP => (K_64 hS P.1 P.2.1 P.2.2 hP f).2.1 _ _ _ _ H)
  exact ⟨(fun _ _ _ _ _ _ => trivial), (fun _ _ _ _ _ _ _ => trivial), (fun _ _ _ _ _ _ => trivial)⟩
theorem L_64_10_ok {X : aX} {F d : Nat} {K : Nat → aK} (hS : pS K) {p1 : Int32} {p2 : Int32} {out : Option Value × aH} {f : Nat} {x3 : Int32} {x4 : Int32} {u5 : Int32} {M : pMem} (H : pm X F d 64 f 10 [.aload 0, .getfield 127112118, .iload 4, .iaload, .bipush 32, .if_icmp .eq 12] [.ref 188, .int p1, .int p2, .int x3, .int x4, .int u5] [] (pH K M) out) : pG eI K out (L_64_10 p1 p2 x3 x4 M) := by
  refine pG_all (C := fun P : (Int32 → Int32 → pMem → pT Int32) × (Int32 → Int32 → Int32 → pMem → pT Int32) × (Int32 → Int32 → pMem → pT Int32) => C_64 p1 p2 P.1 P.2.1 P.2.2) (T := fun P => P.2.2 x3 x4 M) eI_inj ((fun _ _ _ _ _ => True), (fun _ _ _ _ _ _ => True), (fun _ _ _ _ _ => True)) ?_ (fun P hP => (K_64 hS P.1 P.2.1 P.2.2 hP f).2.2 _ _ _ _ H)
  exact ⟨(fun _ _ _ _ _ _ => trivial), (fun _ _ _ _ _ _ _ => trivial), (fun _ _ _ _ _ _ => trivial)⟩
theorem D_64_ok {X : aX} {F d : Nat} {K : Nat → aK} (hS : pS K) {p1 : Int32} {p2 : Int32} {M : pMem} {out : Option Value × aH} (H : aM X F d 64 [.ref 188, .int p1, .int p2] (pH K M) = some out) : pG eI K out (D_64 p1 p2 M) := by
  obtain ⟨d', g0, _, H⟩ := pEnt (n := 6) (ls := [.ref 188, .int p1, .int p2, aD, aD, aD]) (mcb_64 rfl) (by decide +kernel) rfl H
  unfold D_64
  replace H := pRun (ls' := [.ref 188, .int p1, .int p2, .int (kI (-1)), .int (kI 0), aD]) (st' := []) 4 rfl H
  obtain ⟨g0, _, H⟩ := pFall (mcb_64 rfl) H
  exact L_64_1_ok hS  H
def l_64 : List (Nat × Nat) := []
theorem FC_64 {p1 : Int32} {p2 : Int32} : C_64 p1 p2 (fun _ _ M _ N => pFr (l_64) M N) (fun _ _ _ M _ N => pFr (l_64) M N) (fun _ _ M _ N => pFr (l_64) M N) := ⟨fun x3 x4 M => show pTf (l_64) M (S_64_1 p1 p2 _ _ _ x3 x4 M) from (tf_if (tf_ret pFr_refl) (tf_jump pFr_refl)), fun x3 x4 x5 M => show pTf (l_64) M (S_64_3 p1 p2 _ _ _ x3 x4 x5 M) from (tf_if (tf_if (tf_jump pFr_refl) (tf_gd fun g3 => (tf_if (tf_jump pFr_refl) (tf_ret pFr_refl)))) (tf_gd fun g2 => (tf_gd fun g3 => (tf_if (tf_if (tf_jump pFr_refl) (tf_gd fun g6 => (tf_if (tf_jump pFr_refl) (tf_ret pFr_refl)))) (tf_jump pFr_refl))))), fun x3 x4 M => show pTf (l_64) M (S_64_10 p1 p2 _ _ _ x3 x4 M) from (tf_gd fun g1 => (tf_if (tf_jump pFr_refl) (tf_jump pFr_refl)))⟩
theorem F_64 {p1 : Int32} {p2 : Int32} {M : pMem} {v : Int32} {N : pMem} (h : D_64 p1 p2 M v N) : pFr (l_64) M N :=
  (show pTf (l_64) M (D_64 p1 p2 M) from (tf_jumpL (fun _ _ M _ N => pFr (l_64) M N, fun _ _ _ M _ N => pFr (l_64) M N, fun _ _ M _ N => pFr (l_64) M N) (FC_64) rfl pFr_refl)) v N h
/-- TwoCampsModel.reads()V -/
def S_65_0 (P0 : pMem → pT Unit) (P6 : pMem → pT Unit) (P12 : pMem → pT Unit) (M : pMem) : pT Unit := tIf ((f_60 (M 188 25) M) = (kI 32)) (tPut (aPut M 188 25 ((M 188 25) + (kI 1))) fun M1 => P0 M1) (tIf (¬ (f_60 (M 188 25) M) = (kI 10)) (tPut (aPut M 188 26 (M 188 25)) fun M1 => tPut (aPut M1 188 27 (kI 1)) fun M2 => tIf (¬ (f_60 (M2 188 25) M2) = (kI (-1))) (tPut (aPut M2 188 25 ((M2 188 25) + (kI 1))) fun M3 => tPut (aPut M3 188 28 (f_60 (M2 188 25) M2)) fun M4 => tIf ((f_61 (f_60 (M2 188 25) M2)) = 0) (tIf ((f_62 (f_60 (M2 188 25) M2)) = 0) (tIf ((f_63 (f_60 (M2 188 25) M2)) = 0) (tRet () M4) (tPut (aPut M4 188 27 (kI 4)) fun M5 => tRet () M5)) (tPut (aPut M4 188 28 ((f_60 (M2 188 25) M2) - (kI 48))) fun M5 => P12 M5)) (P6 M4)) (tPut (aPut M2 188 27 (kI 0)) fun M3 => tRet () M3)) (tPut (aPut M 188 25 ((M 188 25) + (kI 1))) fun M1 => P0 M1))
def S_65_6 (P0 : pMem → pT Unit) (P6 : pMem → pT Unit) (P12 : pMem → pT Unit) (M : pMem) : pT Unit := tIf ((f_61 (f_60 (M 188 25) M)) = 0) (tCall (D_64 (M 188 26) (M 188 25) M) fun v1 M1 => tPut (aPut M1 188 28 v1) fun M2 => tIf ((M2 188 28) = (kI (-1))) (tRet () M2) (tPut (aPut M2 188 27 (kI 2)) fun M3 => tRet () M3)) (tPut (aPut M 188 25 ((M 188 25) + (kI 1))) fun M1 => P6 M1)
def S_65_12 (P0 : pMem → pT Unit) (P6 : pMem → pT Unit) (P12 : pMem → pT Unit) (M : pMem) : pT Unit := tIf ((f_62 (f_60 (M 188 25) M)) = 0) (tIf ((kI 5) ≤ ((M 188 25) - (M 188 26))) (tRet () M) (tPut (aPut M 188 27 (kI 3)) fun M1 => tRet () M1)) (tIf ((kI 10000) ≤ (M 188 28)) (tPut (aPut M 188 28 (M 188 28)) fun M1 => tPut (aPut M1 188 25 ((M1 188 25) + (kI 1))) fun M2 => P12 M2) (tPut (aPut M 188 28 ((((kI 10) * (M 188 28)) + (f_60 (M 188 25) M)) - (kI 48))) fun M1 => tPut (aPut M1 188 25 ((M1 188 25) + (kI 1))) fun M2 => P12 M2))
def C_65 (P0 : pMem → pT Unit) (P6 : pMem → pT Unit) (P12 : pMem → pT Unit) : Prop := (∀ M v N, S_65_0 P0 P6 P12 M v N → P0 M v N) ∧ (∀ M v N, S_65_6 P0 P6 P12 M v N → P6 M v N) ∧ (∀ M v N, S_65_12 P0 P6 P12 M v N → P12 M v N)
def L_65_0 (M : pMem) : pT Unit := fun v N => ∀ P : (pMem → pT Unit) × (pMem → pT Unit) × (pMem → pT Unit), C_65 P.1 P.2.1 P.2.2 → P.1 M v N
def L_65_6 (M : pMem) : pT Unit := fun v N => ∀ P : (pMem → pT Unit) × (pMem → pT Unit) × (pMem → pT Unit), C_65 P.1 P.2.1 P.2.2 → P.2.1 M v N
def L_65_12 (M : pMem) : pT Unit := fun v N => ∀ P : (pMem → pT Unit) × (pMem → pT Unit) × (pMem → pT Unit), C_65 P.1 P.2.1 P.2.2 → P.2.2 M v N
def D_65 (M : pMem) : pT Unit := tIf ((f_60 (M 188 25) M) = (kI 32)) (tPut (aPut M 188 25 ((M 188 25) + (kI 1))) fun M1 => L_65_0 M1) (tIf (¬ (f_60 (M 188 25) M) = (kI 10)) (tPut (aPut M 188 26 (M 188 25)) fun M1 => tPut (aPut M1 188 27 (kI 1)) fun M2 => tIf (¬ (f_60 (M2 188 25) M2) = (kI (-1))) (tPut (aPut M2 188 25 ((M2 188 25) + (kI 1))) fun M3 => tPut (aPut M3 188 28 (f_60 (M2 188 25) M2)) fun M4 => tIf ((f_61 (f_60 (M2 188 25) M2)) = 0) (tIf ((f_62 (f_60 (M2 188 25) M2)) = 0) (tIf ((f_63 (f_60 (M2 188 25) M2)) = 0) (tRet () M4) (tPut (aPut M4 188 27 (kI 4)) fun M5 => tRet () M5)) (tPut (aPut M4 188 28 ((f_60 (M2 188 25) M2) - (kI 48))) fun M5 => L_65_12 M5)) (L_65_6 M4)) (tPut (aPut M2 188 27 (kI 0)) fun M3 => tRet () M3)) (tPut (aPut M 188 25 ((M 188 25) + (kI 1))) fun M1 => L_65_0 M1))
theorem K_65 {X : aX} {F d : Nat} {K : Nat → aK} (hS : pS K) {out : Option Value × aH} (P0 : pMem → pT Unit) (P6 : pMem → pT Unit) (P12 : pMem → pT Unit) (hC : C_65 P0 P6 P12) : ∀ f, (∀ (u1 : Value) M, pm X F d 65 f 0 [.aload 0, .aload 0, .getfield 126712100, .invokevirtual 1536060, .bipush 32, .if_icmp .eq 2] [.ref 188, u1] [] (pH K M) out → pG eU K out (P0 M)) ∧ (∀ (u1 : Int32) M, pm X F d 65 f 6 [.aload 0, .aload 0, .aload 0, .getfield 126712100, .invokevirtual 1536060, .invokevirtual 1540061, .ifCond .eq 8] [.ref 188, .int u1] [] (pH K M) out → pG eU K out (P6 M)) ∧ (∀ (u1 : Int32) M, pm X F d 65 f 12 [.aload 0, .aload 0, .aload 0, .getfield 126712100, .invokevirtual 1536060, .invokevirtual 1548062, .ifCond .eq 17] [.ref 188, .int u1] [] (pH K M) out → pG eU K out (P12 M)) := by
  intro f
  induction f using Nat.strongRecOn with
  | _ f ih =>
    refine ⟨?_, ?_, ?_⟩
    · intro u1 M H
      refine pG_mono (fun v N h => hC.1 M v N h) ?_
      unfold S_65_0
      replace H := pRun (ls' := [.ref 188, u1]) (st' := [.ref 188, .ref 188]) 2 rfl H
      replace H := pGetN (v := M 188 25) rfl (by decide) H
      obtain ⟨rv, h1, hc, H⟩ := pCalV 60 1 188 (as := [.int (M 188 25)]) (rest := []) rfl (by decide) (by decide +kernel) rfl rfl H
      replace H := pUseF (f_60_ok hS hc) H
      replace H := pRun (ls' := [.ref 188, u1]) (st' := [.int (kI 32), .int (f_60 (M 188 25) M)]) 1 rfl H
      rcases pIfc (n1 := 2) rfl (mcb_65 rfl) (mcb_65 rfl) H with ⟨g1, g0, _, H⟩ | ⟨g1, g0, _, H⟩
      · refine pG_pos (c := (f_60 (M 188 25) M) = (kI 32)) g1 ?_
        replace H := pRun (ls' := [.ref 188, u1]) (st' := [.ref 188, .ref 188]) 2 rfl H
        replace H := pGetN (v := M 188 25) rfl (by decide) H
        replace H := pRun (ls' := [.ref 188, u1]) (st' := [.int ((M 188 25) + (kI 1)), .ref 188]) 2 rfl H
        obtain ⟨M1, eM1, H⟩ := pPutN (j := 25) rfl H
        refine pG_put (M2 := M1) eM1 ?_
        obtain ⟨g0, _, H⟩ := pGo (n1 := 0) rfl (mcb_65 rfl) H
        exact (ih _ (by omega)).1 _  _ H
      · refine pG_neg (c := (f_60 (M 188 25) M) = (kI 32)) g1 ?_
        replace H := pRun (ls' := [.ref 188, u1]) (st' := [.ref 188, .ref 188]) 2 rfl H
        replace H := pGetN (v := M 188 25) rfl (by decide) H
        obtain ⟨rv, h1, hc, H⟩ := pCalV 60 1 188 (as := [.int (M 188 25)]) (rest := []) rfl (by decide) (by decide +kernel) rfl rfl H
        replace H := pUseF (f_60_ok hS hc) H
        replace H := pRun (ls' := [.ref 188, u1]) (st' := [.int (kI 10), .int (f_60 (M 188 25) M)]) 1 rfl H
        rcases pIfc (n1 := 3) rfl (mcb_65 rfl) (mcb_65 rfl) H with ⟨g2, g0, _, H⟩ | ⟨g2, g0, _, H⟩
        · refine pG_pos (c := ¬ (f_60 (M 188 25) M) = (kI 10)) g2 ?_
          replace H := pRun (ls' := [.ref 188, u1]) (st' := [.ref 188, .ref 188]) 2 rfl H
          replace H := pGetN (v := M 188 25) rfl (by decide) H
          obtain ⟨M1, eM1, H⟩ := pPutN (j := 26) rfl H
          refine pG_put (M2 := M1) eM1 ?_
          replace H := pRun (ls' := [.ref 188, u1]) (st' := [.int (kI 1), .ref 188]) 2 rfl H
          obtain ⟨M2, eM2, H⟩ := pPutN (j := 27) rfl H
          refine pG_put (M2 := M2) eM2 ?_
          replace H := pRun (ls' := [.ref 188, u1]) (st' := [.ref 188, .ref 188]) 2 rfl H
          replace H := pGetN (v := M2 188 25) rfl (by decide) H
          obtain ⟨rv, h1, hc, H⟩ := pCalV 60 1 188 (as := [.int (M2 188 25)]) (rest := []) rfl (by decide) (by decide +kernel) rfl rfl H
          replace H := pUseF (f_60_ok hS hc) H
          replace H := pRun (ls' := [.ref 188, .int (f_60 (M2 188 25) M2)]) (st' := [.int (kI (-1)), .int (f_60 (M2 188 25) M2)]) 3 rfl H
          rcases pIfc (n1 := 5) rfl (mcb_65 rfl) (mcb_65 rfl) H with ⟨g3, g0, _, H⟩ | ⟨g3, g0, _, H⟩
          · refine pG_pos (c := ¬ (f_60 (M2 188 25) M2) = (kI (-1))) g3 ?_
            replace H := pRun (ls' := [.ref 188, .int (f_60 (M2 188 25) M2)]) (st' := [.ref 188, .ref 188]) 2 rfl H
            replace H := pGetN (v := M2 188 25) rfl (by decide) H
            replace H := pRun (ls' := [.ref 188, .int (f_60 (M2 188 25) M2)]) (st' := [.int ((M2 188 25) + (kI 1)), .ref 188]) 2 rfl H
            obtain ⟨M3, eM3, H⟩ := pPutN (j := 25) rfl H
            refine pG_put (M2 := M3) eM3 ?_
            replace H := pRun (ls' := [.ref 188, .int (f_60 (M2 188 25) M2)]) (st' := [.int (f_60 (M2 188 25) M2), .ref 188]) 2 rfl H
            obtain ⟨M4, eM4, H⟩ := pPutN (j := 28) rfl H
            refine pG_put (M2 := M4) eM4 ?_
            replace H := pRun (ls' := [.ref 188, .int (f_60 (M2 188 25) M2)]) (st' := [.int (f_60 (M2 188 25) M2), .ref 188]) 2 rfl H
            obtain ⟨rv, h1, hc, H⟩ := pCalV 61 1 188 (as := [.int (f_60 (M2 188 25) M2)]) (rest := []) rfl (by decide) (by decide +kernel) rfl rfl H
            replace H := pUseF (f_61_ok hS hc) H
            rcases pIf0 (n1 := 10) rfl (mcb_65 rfl) (mcb_65 rfl) H with ⟨g4, g0, _, H⟩ | ⟨g4, g0, _, H⟩
            · refine pG_pos (c := (f_61 (f_60 (M2 188 25) M2)) = 0) g4 ?_
              replace H := pRun (ls' := [.ref 188, .int (f_60 (M2 188 25) M2)]) (st' := [.int (f_60 (M2 188 25) M2), .ref 188]) 2 rfl H
              obtain ⟨rv, h1, hc, H⟩ := pCalV 62 1 188 (as := [.int (f_60 (M2 188 25) M2)]) (rest := []) rfl (by decide) (by decide +kernel) rfl rfl H
              replace H := pUseF (f_62_ok hS hc) H
              rcases pIf0 (n1 := 19) rfl (mcb_65 rfl) (mcb_65 rfl) H with ⟨g5, g0, _, H⟩ | ⟨g5, g0, _, H⟩
              · refine pG_pos (c := (f_62 (f_60 (M2 188 25) M2)) = 0) g5 ?_
                replace H := pRun (ls' := [.ref 188, .int (f_60 (M2 188 25) M2)]) (st' := [.int (f_60 (M2 188 25) M2), .ref 188]) 2 rfl H
                obtain ⟨rv, h1, hc, H⟩ := pCalV 63 1 188 (as := [.int (f_60 (M2 188 25) M2)]) (rest := []) rfl (by decide) (by decide +kernel) rfl rfl H
                replace H := pUseF (f_63_ok hS hc) H
                rcases pIf0 (n1 := 21) rfl (mcb_65 rfl) (mcb_65 rfl) H with ⟨g6, g0, _, H⟩ | ⟨g6, g0, _, H⟩
                · refine pG_pos (c := (f_63 (f_60 (M2 188 25) M2)) = 0) g6 ?_
                  exact pG_ret (pRetU H)
                · refine pG_neg (c := (f_63 (f_60 (M2 188 25) M2)) = 0) g6 ?_
                  replace H := pRun (ls' := [.ref 188, .int (f_60 (M2 188 25) M2)]) (st' := [.int (kI 4), .ref 188]) 2 rfl H
                  obtain ⟨M5, eM5, H⟩ := pPutN (j := 27) rfl H
                  refine pG_put (M2 := M5) eM5 ?_
                  obtain ⟨g0, _, H⟩ := pFall (mcb_65 rfl) H
                  exact pG_ret (pRetU H)
              · refine pG_neg (c := (f_62 (f_60 (M2 188 25) M2)) = 0) g5 ?_
                replace H := pRun (ls' := [.ref 188, .int (f_60 (M2 188 25) M2)]) (st' := [.int ((f_60 (M2 188 25) M2) - (kI 48)), .ref 188]) 4 rfl H
                obtain ⟨M5, eM5, H⟩ := pPutN (j := 28) rfl H
                refine pG_put (M2 := M5) eM5 ?_
                obtain ⟨g0, _, H⟩ := pFall (mcb_65 rfl) H
                exact (ih _ (by omega)).2.2 _  _ H
            · refine pG_neg (c := (f_61 (f_60 (M2 188 25) M2)) = 0) g4 ?_
              exact (ih _ (by omega)).2.1 _  _ H
          · refine pG_neg (c := ¬ (f_60 (M2 188 25) M2) = (kI (-1))) g3 ?_
            replace H := pRun (ls' := [.ref 188, .int (f_60 (M2 188 25) M2)]) (st' := [.int (kI 0), .ref 188]) 2 rfl H
            obtain ⟨M3, eM3, H⟩ := pPutN (j := 27) rfl H
            refine pG_put (M2 := M3) eM3 ?_
            exact pG_ret (pRetU H)
        · refine pG_neg (c := ¬ (f_60 (M 188 25) M) = (kI 10)) g2 ?_
          replace H := pRun (ls' := [.ref 188, u1]) (st' := [.ref 188, .ref 188]) 2 rfl H
          replace H := pGetN (v := M 188 25) rfl (by decide) H
          replace H := pRun (ls' := [.ref 188, u1]) (st' := [.int ((M 188 25) + (kI 1)), .ref 188]) 2 rfl H
          obtain ⟨M1, eM1, H⟩ := pPutN (j := 25) rfl H
          refine pG_put (M2 := M1) eM1 ?_
          obtain ⟨g0, _, H⟩ := pGo (n1 := 0) rfl (mcb_65 rfl) H
          exact (ih _ (by omega)).1 _  _ H
    · intro u1 M H
      refine pG_mono (fun v N h => hC.2.1 M v N h) ?_
      unfold S_65_6
      replace H := pRun (ls' := [.ref 188, .int u1]) (st' := [.ref 188, .ref 188, .ref 188]) 3 rfl H
      replace H := pGetN (v := M 188 25) rfl (by decide) H
      obtain ⟨rv, h1, hc, H⟩ := pCalV 60 1 188 (as := [.int (M 188 25)]) (rest := [.ref 188]) rfl (by decide) (by decide +kernel) rfl rfl H
      replace H := pUseF (f_60_ok hS hc) H
      obtain ⟨rv, h1, hc, H⟩ := pCalV 61 1 188 (as := [.int (f_60 (M 188 25) M)]) (rest := []) rfl (by decide) (by decide +kernel) rfl rfl H
      replace H := pUseF (f_61_ok hS hc) H
      rcases pIf0 (n1 := 8) rfl (mcb_65 rfl) (mcb_65 rfl) H with ⟨g1, g0, _, H⟩ | ⟨g1, g0, _, H⟩
      · refine pG_pos (c := (f_61 (f_60 (M 188 25) M)) = 0) g1 ?_
        replace H := pRun (ls' := [.ref 188, .int u1]) (st' := [.ref 188, .ref 188, .ref 188]) 3 rfl H
        replace H := pGetN (v := M 188 26) rfl (by decide) H
        replace H := pRun (ls' := [.ref 188, .int u1]) (st' := [.ref 188, .int (M 188 26), .ref 188, .ref 188]) 1 rfl H
        replace H := pGetN (v := M 188 25) rfl (by decide) H
        obtain ⟨rv, h1, hc, H⟩ := pCalV 64 2 188 (as := [.int (M 188 26), .int (M 188 25)]) (rest := [.ref 188]) rfl (by decide) (by decide +kernel) rfl rfl H
        obtain ⟨v1, M1, hD, H⟩ := pUseI (D_64_ok hS hc) H
        refine pG_call (x := v1) (M1 := M1) hD ?_
        obtain ⟨M2, eM2, H⟩ := pPutN (j := 28) rfl H
        refine pG_put (M2 := M2) eM2 ?_
        replace H := pRun (ls' := [.ref 188, .int u1]) (st' := [.ref 188]) 1 rfl H
        replace H := pGetN (v := M2 188 28) rfl (by decide) H
        replace H := pRun (ls' := [.ref 188, .int u1]) (st' := [.int (kI (-1)), .int (M2 188 28)]) 1 rfl H
        rcases pIfc (n1 := 21) rfl (mcb_65 rfl) (mcb_65 rfl) H with ⟨g2, g0, _, H⟩ | ⟨g2, g0, _, H⟩
        · refine pG_pos (c := (M2 188 28) = (kI (-1))) g2 ?_
          exact pG_ret (pRetU H)
        · refine pG_neg (c := (M2 188 28) = (kI (-1))) g2 ?_
          replace H := pRun (ls' := [.ref 188, .int u1]) (st' := [.int (kI 2), .ref 188]) 2 rfl H
          obtain ⟨M3, eM3, H⟩ := pPutN (j := 27) rfl H
          refine pG_put (M2 := M3) eM3 ?_
          obtain ⟨g0, _, H⟩ := pGo (n1 := 21) rfl (mcb_65 rfl) H
          exact pG_ret (pRetU H)
      · refine pG_neg (c := (f_61 (f_60 (M 188 25) M)) = 0) g1 ?_
        replace H := pRun (ls' := [.ref 188, .int u1]) (st' := [.ref 188, .ref 188]) 2 rfl H
        replace H := pGetN (v := M 188 25) rfl (by decide) H
        replace H := pRun (ls' := [.ref 188, .int u1]) (st' := [.int ((M 188 25) + (kI 1)), .ref 188]) 2 rfl H
        obtain ⟨M1, eM1, H⟩ := pPutN (j := 25) rfl H
        refine pG_put (M2 := M1) eM1 ?_
        obtain ⟨g0, _, H⟩ := pGo (n1 := 6) rfl (mcb_65 rfl) H
        exact (ih _ (by omega)).2.1 _  _ H
    · intro u1 M H
      refine pG_mono (fun v N h => hC.2.2 M v N h) ?_
      unfold S_65_12
      replace H := pRun (ls' := [.ref 188, .int u1]) (st' := [.ref 188, .ref 188, .ref 188]) 3 rfl H
      replace H := pGetN (v := M 188 25) rfl (by decide) H
      obtain ⟨rv, h1, hc, H⟩ := pCalV 60 1 188 (as := [.int (M 188 25)]) (rest := [.ref 188]) rfl (by decide) (by decide +kernel) rfl rfl H
      replace H := pUseF (f_60_ok hS hc) H
      obtain ⟨rv, h1, hc, H⟩ := pCalV 62 1 188 (as := [.int (f_60 (M 188 25) M)]) (rest := []) rfl (by decide) (by decide +kernel) rfl rfl H
      replace H := pUseF (f_62_ok hS hc) H
      rcases pIf0 (n1 := 17) rfl (mcb_65 rfl) (mcb_65 rfl) H with ⟨g1, g0, _, H⟩ | ⟨g1, g0, _, H⟩
      · refine pG_pos (c := (f_62 (f_60 (M 188 25) M)) = 0) g1 ?_
        replace H := pRun (ls' := [.ref 188, .int u1]) (st' := [.ref 188]) 1 rfl H
        replace H := pGetN (v := M 188 25) rfl (by decide) H
        replace H := pRun (ls' := [.ref 188, .int u1]) (st' := [.ref 188, .int (M 188 25)]) 1 rfl H
        replace H := pGetN (v := M 188 26) rfl (by decide) H
        replace H := pRun (ls' := [.ref 188, .int u1]) (st' := [.int (kI 5), .int ((M 188 25) - (M 188 26))]) 2 rfl H
        rcases pIfc (n1 := 21) rfl (mcb_65 rfl) (mcb_65 rfl) H with ⟨g2, g0, _, H⟩ | ⟨g2, g0, _, H⟩
        · refine pG_pos (c := (kI 5) ≤ ((M 188 25) - (M 188 26))) g2 ?_
          exact pG_ret (pRetU H)
        · refine pG_neg (c := (kI 5) ≤ ((M 188 25) - (M 188 26))) g2 ?_
          replace H := pRun (ls' := [.ref 188, .int u1]) (st' := [.int (kI 3), .ref 188]) 2 rfl H
          obtain ⟨M1, eM1, H⟩ := pPutN (j := 27) rfl H
          refine pG_put (M2 := M1) eM1 ?_
          obtain ⟨g0, _, H⟩ := pGo (n1 := 21) rfl (mcb_65 rfl) H
          exact pG_ret (pRetU H)
      · refine pG_neg (c := (f_62 (f_60 (M 188 25) M)) = 0) g1 ?_
        replace H := pRun (ls' := [.ref 188, .int u1]) (st' := [.ref 188, .ref 188]) 2 rfl H
        replace H := pGetN (v := M 188 28) rfl (by decide) H
        replace H := pRun (ls' := [.ref 188, .int u1]) (st' := [.int (kI 10000), .int (M 188 28), .ref 188]) 1 rfl H
        rcases pIfc (n1 := 15) rfl (mcb_65 rfl) (mcb_65 rfl) H with ⟨g2, g0, _, H⟩ | ⟨g2, g0, _, H⟩
        · refine pG_pos (c := (kI 10000) ≤ (M 188 28)) g2 ?_
          replace H := pRun (ls' := [.ref 188, .int u1]) (st' := [.ref 188, .ref 188]) 1 rfl H
          replace H := pGetN (v := M 188 28) rfl (by decide) H
          obtain ⟨g0, _, H⟩ := pFall (mcb_65 rfl) H
          obtain ⟨M1, eM1, H⟩ := pPutN (j := 28) rfl H
          refine pG_put (M2 := M1) eM1 ?_
          replace H := pRun (ls' := [.ref 188, .int u1]) (st' := [.ref 188, .ref 188]) 2 rfl H
          replace H := pGetN (v := M1 188 25) rfl (by decide) H
          replace H := pRun (ls' := [.ref 188, .int u1]) (st' := [.int ((M1 188 25) + (kI 1)), .ref 188]) 2 rfl H
          obtain ⟨M2, eM2, H⟩ := pPutN (j := 25) rfl H
          refine pG_put (M2 := M2) eM2 ?_
          obtain ⟨g0, _, H⟩ := pGo (n1 := 12) rfl (mcb_65 rfl) H
          exact (ih _ (by omega)).2.2 _  _ H
        · refine pG_neg (c := (kI 10000) ≤ (M 188 28)) g2 ?_
          replace H := pRun (ls' := [.ref 188, .int u1]) (st' := [.ref 188, .int (kI 10), .ref 188]) 2 rfl H
          replace H := pGetN (v := M 188 28) rfl (by decide) H
          replace H := pRun (ls' := [.ref 188, .int u1]) (st' := [.ref 188, .ref 188, .int ((kI 10) * (M 188 28)), .ref 188]) 3 rfl H
          replace H := pGetN (v := M 188 25) rfl (by decide) H
          obtain ⟨rv, h1, hc, H⟩ := pCalV 60 1 188 (as := [.int (M 188 25)]) (rest := [.int ((kI 10) * (M 188 28)), .ref 188]) rfl (by decide) (by decide +kernel) rfl rfl H
          replace H := pUseF (f_60_ok hS hc) H
          replace H := pRun (ls' := [.ref 188, .int u1]) (st' := [.int ((((kI 10) * (M 188 28)) + (f_60 (M 188 25) M)) - (kI 48)), .ref 188]) 3 rfl H
          obtain ⟨g0, _, H⟩ := pGo (n1 := 16) rfl (mcb_65 rfl) H
          obtain ⟨M1, eM1, H⟩ := pPutN (j := 28) rfl H
          refine pG_put (M2 := M1) eM1 ?_
          replace H := pRun (ls' := [.ref 188, .int u1]) (st' := [.ref 188, .ref 188]) 2 rfl H
          replace H := pGetN (v := M1 188 25) rfl (by decide) H
          replace H := pRun (ls' := [.ref 188, .int u1]) (st' := [.int ((M1 188 25) + (kI 1)), .ref 188]) 2 rfl H
          obtain ⟨M2, eM2, H⟩ := pPutN (j := 25) rfl H
          refine pG_put (M2 := M2) eM2 ?_
          obtain ⟨g0, _, H⟩ := pGo (n1 := 12) rfl (mcb_65 rfl) H
          exact (ih _ (by omega)).2.2 _  _ H
theorem L_65_0_ok {X : aX} {F d : Nat} {K : Nat → aK} (hS : pS K) {out : Option Value × aH} {f : Nat} {u1 : Value} {M : pMem} (H : pm X F d 65 f 0 [.aload 0, .aload 0, .getfield 126712100, .invokevirtual 1536060, .bipush 32, .if_icmp .eq 2] [.ref 188, u1] [] (pH K M) out) : pG eU K out (L_65_0 M) := by
  refine pG_all (C := fun P : (pMem → pT Unit) × (pMem → pT Unit) × (pMem → pT Unit) => C_65 P.1 P.2.1 P.2.2) (T := fun P => P.1 M) eU_inj ((fun _ _ _ => True), (fun _ _ _ => True), (fun _ _ _ => True)) ?_ (fun P hP => (K_65 hS P.1 P.2.1 P.2.2 hP f).1 _ _ H)
  exact ⟨(fun _ _ _ _ => trivial), (fun _ _ _ _ => trivial), (fun _ _ _ _ => trivial)⟩
theorem L_65_6_ok {X : aX} {F d : Nat} {K : Nat → aK} (hS : pS K) {out : Option Value × aH} {f : Nat} {u1 : Int32} {M : pMem} (H : pm X F d 65 f 6 [.aload 0, .aload 0, .aload 0, .getfield 126712100, .invokevirtual 1536060, .invokevirtual 1540061, .ifCond .eq 8] [.ref 188, .int u1] [] (pH K M) out) : pG eU K out (L_65_6 M) := by
  refine pG_all (C := fun P : (pMem → pT Unit) × (pMem → pT Unit) × (pMem → pT Unit) => C_65 P.1 P.2.1 P.2.2) (T := fun P => P.2.1 M) eU_inj ((fun _ _ _ => True), (fun _ _ _ => True), (fun _ _ _ => True)) ?_ (fun P hP => (K_65 hS P.1 P.2.1 P.2.2 hP f).2.1 _ _ H)
  exact ⟨(fun _ _ _ _ => trivial), (fun _ _ _ _ => trivial), (fun _ _ _ _ => trivial)⟩
theorem L_65_12_ok {X : aX} {F d : Nat} {K : Nat → aK} (hS : pS K) {out : Option Value × aH} {f : Nat} {u1 : Int32} {M : pMem} (H : pm X F d 65 f 12 [.aload 0, .aload 0, .aload 0, .getfield 126712100, .invokevirtual 1536060, .invokevirtual 1548062, .ifCond .eq 17] [.ref 188, .int u1] [] (pH K M) out) : pG eU K out (L_65_12 M) := by
  refine pG_all (C := fun P : (pMem → pT Unit) × (pMem → pT Unit) × (pMem → pT Unit) => C_65 P.1 P.2.1 P.2.2) (T := fun P => P.2.2 M) eU_inj ((fun _ _ _ => True), (fun _ _ _ => True), (fun _ _ _ => True)) ?_ (fun P hP => (K_65 hS P.1 P.2.1 P.2.2 hP f).2.2 _ _ H)
  exact ⟨(fun _ _ _ _ => trivial), (fun _ _ _ _ => trivial), (fun _ _ _ _ => trivial)⟩
theorem D_65_ok {X : aX} {F d : Nat} {K : Nat → aK} (hS : pS K) {M : pMem} {out : Option Value × aH} (H : aM X F d 65 [.ref 188] (pH K M) = some out) : pG eU K out (D_65 M) := by
  obtain ⟨d', g0, _, H⟩ := pEnt (n := 2) (ls := [.ref 188, aD]) (mcb_65 rfl) (by decide +kernel) rfl H
  unfold D_65
  replace H := pRun (ls' := [.ref 188, aD]) (st' := [.ref 188, .ref 188]) 2 rfl H
  replace H := pGetN (v := M 188 25) rfl (by decide) H
  obtain ⟨rv, h1, hc, H⟩ := pCalV 60 1 188 (as := [.int (M 188 25)]) (rest := []) rfl (by decide) (by decide +kernel) rfl rfl H
  replace H := pUseF (f_60_ok hS hc) H
  replace H := pRun (ls' := [.ref 188, aD]) (st' := [.int (kI 32), .int (f_60 (M 188 25) M)]) 1 rfl H
  rcases pIfc (n1 := 2) rfl (mcb_65 rfl) (mcb_65 rfl) H with ⟨g1, g0, _, H⟩ | ⟨g1, g0, _, H⟩
  · refine pG_pos (c := (f_60 (M 188 25) M) = (kI 32)) g1 ?_
    replace H := pRun (ls' := [.ref 188, aD]) (st' := [.ref 188, .ref 188]) 2 rfl H
    replace H := pGetN (v := M 188 25) rfl (by decide) H
    replace H := pRun (ls' := [.ref 188, aD]) (st' := [.int ((M 188 25) + (kI 1)), .ref 188]) 2 rfl H
    obtain ⟨M1, eM1, H⟩ := pPutN (j := 25) rfl H
    refine pG_put (M2 := M1) eM1 ?_
    obtain ⟨g0, _, H⟩ := pGo (n1 := 0) rfl (mcb_65 rfl) H
    exact L_65_0_ok hS  H
  · refine pG_neg (c := (f_60 (M 188 25) M) = (kI 32)) g1 ?_
    replace H := pRun (ls' := [.ref 188, aD]) (st' := [.ref 188, .ref 188]) 2 rfl H
    replace H := pGetN (v := M 188 25) rfl (by decide) H
    obtain ⟨rv, h1, hc, H⟩ := pCalV 60 1 188 (as := [.int (M 188 25)]) (rest := []) rfl (by decide) (by decide +kernel) rfl rfl H
    replace H := pUseF (f_60_ok hS hc) H
    replace H := pRun (ls' := [.ref 188, aD]) (st' := [.int (kI 10), .int (f_60 (M 188 25) M)]) 1 rfl H
    rcases pIfc (n1 := 3) rfl (mcb_65 rfl) (mcb_65 rfl) H with ⟨g2, g0, _, H⟩ | ⟨g2, g0, _, H⟩
    · refine pG_pos (c := ¬ (f_60 (M 188 25) M) = (kI 10)) g2 ?_
      replace H := pRun (ls' := [.ref 188, aD]) (st' := [.ref 188, .ref 188]) 2 rfl H
      replace H := pGetN (v := M 188 25) rfl (by decide) H
      obtain ⟨M1, eM1, H⟩ := pPutN (j := 26) rfl H
      refine pG_put (M2 := M1) eM1 ?_
      replace H := pRun (ls' := [.ref 188, aD]) (st' := [.int (kI 1), .ref 188]) 2 rfl H
      obtain ⟨M2, eM2, H⟩ := pPutN (j := 27) rfl H
      refine pG_put (M2 := M2) eM2 ?_
      replace H := pRun (ls' := [.ref 188, aD]) (st' := [.ref 188, .ref 188]) 2 rfl H
      replace H := pGetN (v := M2 188 25) rfl (by decide) H
      obtain ⟨rv, h1, hc, H⟩ := pCalV 60 1 188 (as := [.int (M2 188 25)]) (rest := []) rfl (by decide) (by decide +kernel) rfl rfl H
      replace H := pUseF (f_60_ok hS hc) H
      replace H := pRun (ls' := [.ref 188, .int (f_60 (M2 188 25) M2)]) (st' := [.int (kI (-1)), .int (f_60 (M2 188 25) M2)]) 3 rfl H
      rcases pIfc (n1 := 5) rfl (mcb_65 rfl) (mcb_65 rfl) H with ⟨g3, g0, _, H⟩ | ⟨g3, g0, _, H⟩
      · refine pG_pos (c := ¬ (f_60 (M2 188 25) M2) = (kI (-1))) g3 ?_
        replace H := pRun (ls' := [.ref 188, .int (f_60 (M2 188 25) M2)]) (st' := [.ref 188, .ref 188]) 2 rfl H
        replace H := pGetN (v := M2 188 25) rfl (by decide) H
        replace H := pRun (ls' := [.ref 188, .int (f_60 (M2 188 25) M2)]) (st' := [.int ((M2 188 25) + (kI 1)), .ref 188]) 2 rfl H
        obtain ⟨M3, eM3, H⟩ := pPutN (j := 25) rfl H
        refine pG_put (M2 := M3) eM3 ?_
        replace H := pRun (ls' := [.ref 188, .int (f_60 (M2 188 25) M2)]) (st' := [.int (f_60 (M2 188 25) M2), .ref 188]) 2 rfl H
        obtain ⟨M4, eM4, H⟩ := pPutN (j := 28) rfl H
        refine pG_put (M2 := M4) eM4 ?_
        replace H := pRun (ls' := [.ref 188, .int (f_60 (M2 188 25) M2)]) (st' := [.int (f_60 (M2 188 25) M2), .ref 188]) 2 rfl H
        obtain ⟨rv, h1, hc, H⟩ := pCalV 61 1 188 (as := [.int (f_60 (M2 188 25) M2)]) (rest := []) rfl (by decide) (by decide +kernel) rfl rfl H
        replace H := pUseF (f_61_ok hS hc) H
        rcases pIf0 (n1 := 10) rfl (mcb_65 rfl) (mcb_65 rfl) H with ⟨g4, g0, _, H⟩ | ⟨g4, g0, _, H⟩
        · refine pG_pos (c := (f_61 (f_60 (M2 188 25) M2)) = 0) g4 ?_
          replace H := pRun (ls' := [.ref 188, .int (f_60 (M2 188 25) M2)]) (st' := [.int (f_60 (M2 188 25) M2), .ref 188]) 2 rfl H
          obtain ⟨rv, h1, hc, H⟩ := pCalV 62 1 188 (as := [.int (f_60 (M2 188 25) M2)]) (rest := []) rfl (by decide) (by decide +kernel) rfl rfl H
          replace H := pUseF (f_62_ok hS hc) H
          rcases pIf0 (n1 := 19) rfl (mcb_65 rfl) (mcb_65 rfl) H with ⟨g5, g0, _, H⟩ | ⟨g5, g0, _, H⟩
          · refine pG_pos (c := (f_62 (f_60 (M2 188 25) M2)) = 0) g5 ?_
            replace H := pRun (ls' := [.ref 188, .int (f_60 (M2 188 25) M2)]) (st' := [.int (f_60 (M2 188 25) M2), .ref 188]) 2 rfl H
            obtain ⟨rv, h1, hc, H⟩ := pCalV 63 1 188 (as := [.int (f_60 (M2 188 25) M2)]) (rest := []) rfl (by decide) (by decide +kernel) rfl rfl H
            replace H := pUseF (f_63_ok hS hc) H
            rcases pIf0 (n1 := 21) rfl (mcb_65 rfl) (mcb_65 rfl) H with ⟨g6, g0, _, H⟩ | ⟨g6, g0, _, H⟩
            · refine pG_pos (c := (f_63 (f_60 (M2 188 25) M2)) = 0) g6 ?_
              exact pG_ret (pRetU H)
            · refine pG_neg (c := (f_63 (f_60 (M2 188 25) M2)) = 0) g6 ?_
              replace H := pRun (ls' := [.ref 188, .int (f_60 (M2 188 25) M2)]) (st' := [.int (kI 4), .ref 188]) 2 rfl H
              obtain ⟨M5, eM5, H⟩ := pPutN (j := 27) rfl H
              refine pG_put (M2 := M5) eM5 ?_
              obtain ⟨g0, _, H⟩ := pFall (mcb_65 rfl) H
              exact pG_ret (pRetU H)
          · refine pG_neg (c := (f_62 (f_60 (M2 188 25) M2)) = 0) g5 ?_
            replace H := pRun (ls' := [.ref 188, .int (f_60 (M2 188 25) M2)]) (st' := [.int ((f_60 (M2 188 25) M2) - (kI 48)), .ref 188]) 4 rfl H
            obtain ⟨M5, eM5, H⟩ := pPutN (j := 28) rfl H
            refine pG_put (M2 := M5) eM5 ?_
            obtain ⟨g0, _, H⟩ := pFall (mcb_65 rfl) H
            exact L_65_12_ok hS  H
        · refine pG_neg (c := (f_61 (f_60 (M2 188 25) M2)) = 0) g4 ?_
          exact L_65_6_ok hS  H
      · refine pG_neg (c := ¬ (f_60 (M2 188 25) M2) = (kI (-1))) g3 ?_
        replace H := pRun (ls' := [.ref 188, .int (f_60 (M2 188 25) M2)]) (st' := [.int (kI 0), .ref 188]) 2 rfl H
        obtain ⟨M3, eM3, H⟩ := pPutN (j := 27) rfl H
        refine pG_put (M2 := M3) eM3 ?_
        exact pG_ret (pRetU H)
    · refine pG_neg (c := ¬ (f_60 (M 188 25) M) = (kI 10)) g2 ?_
      replace H := pRun (ls' := [.ref 188, aD]) (st' := [.ref 188, .ref 188]) 2 rfl H
      replace H := pGetN (v := M 188 25) rfl (by decide) H
      replace H := pRun (ls' := [.ref 188, aD]) (st' := [.int ((M 188 25) + (kI 1)), .ref 188]) 2 rfl H
      obtain ⟨M1, eM1, H⟩ := pPutN (j := 25) rfl H
      refine pG_put (M2 := M1) eM1 ?_
      obtain ⟨g0, _, H⟩ := pGo (n1 := 0) rfl (mcb_65 rfl) H
      exact L_65_0_ok hS  H
def l_65 : List (Nat × Nat) := [(188, 25), (188, 26), (188, 27), (188, 28)]
theorem FC_65 : C_65 (fun M _ N => pFr (l_65) M N) (fun M _ N => pFr (l_65) M N) (fun M _ N => pFr (l_65) M N) := ⟨fun M => show pTf (l_65) M (S_65_0 _ _ _ M) from (tf_if (tf_put pFr_refl 0 rfl fun M1 f1 => (tf_jump f1)) (tf_if (tf_put pFr_refl 1 rfl fun M1 f1 => (tf_put f1 2 rfl fun M2 f2 => (tf_if (tf_put f2 0 rfl fun M3 f3 => (tf_put f3 3 rfl fun M4 f4 => (tf_if (tf_if (tf_if (tf_ret f4) (tf_put f4 2 rfl fun M5 f5 => (tf_ret f5))) (tf_put f4 3 rfl fun M5 f5 => (tf_jump f5))) (tf_jump f4)))) (tf_put f2 2 rfl fun M3 f3 => (tf_ret f3))))) (tf_put pFr_refl 0 rfl fun M1 f1 => (tf_jump f1)))), fun M => show pTf (l_65) M (S_65_6 _ _ _ M) from (tf_if (tf_call pFr_refl (fun _ _ h => F_64 h) [] rfl fun _ M1 f1 => (tf_put f1 3 rfl fun M2 f2 => (tf_if (tf_ret f2) (tf_put f2 2 rfl fun M3 f3 => (tf_ret f3))))) (tf_put pFr_refl 0 rfl fun M1 f1 => (tf_jump f1))), fun M => show pTf (l_65) M (S_65_12 _ _ _ M) from (tf_if (tf_if (tf_ret pFr_refl) (tf_put pFr_refl 2 rfl fun M1 f1 => (tf_ret f1))) (tf_if (tf_put pFr_refl 3 rfl fun M1 f1 => (tf_put f1 0 rfl fun M2 f2 => (tf_jump f2))) (tf_put pFr_refl 3 rfl fun M1 f1 => (tf_put f1 0 rfl fun M2 f2 => (tf_jump f2)))))⟩
theorem F_65 {M : pMem} {v : Unit} {N : pMem} (h : D_65 M v N) : pFr (l_65) M N :=
  (show pTf (l_65) M (D_65 M) from (tf_if (tf_put pFr_refl 0 rfl fun M1 f1 => (tf_jumpL (fun M _ N => pFr (l_65) M N, fun M _ N => pFr (l_65) M N, fun M _ N => pFr (l_65) M N) (FC_65) rfl f1)) (tf_if (tf_put pFr_refl 1 rfl fun M1 f1 => (tf_put f1 2 rfl fun M2 f2 => (tf_if (tf_put f2 0 rfl fun M3 f3 => (tf_put f3 3 rfl fun M4 f4 => (tf_if (tf_if (tf_if (tf_ret f4) (tf_put f4 2 rfl fun M5 f5 => (tf_ret f5))) (tf_put f4 3 rfl fun M5 f5 => (tf_jumpL (fun M _ N => pFr (l_65) M N, fun M _ N => pFr (l_65) M N, fun M _ N => pFr (l_65) M N) (FC_65) rfl f5))) (tf_jumpL (fun M _ N => pFr (l_65) M N, fun M _ N => pFr (l_65) M N, fun M _ N => pFr (l_65) M N) (FC_65) rfl f4)))) (tf_put f2 2 rfl fun M3 f3 => (tf_ret f3))))) (tf_put pFr_refl 0 rfl fun M1 f1 => (tf_jumpL (fun M _ N => pFr (l_65) M N, fun M _ N => pFr (l_65) M N, fun M _ N => pFr (l_65) M N) (FC_65) rfl f1))))) v N h
/-- TwoCampsModel.fails(I)I -/
def D_66 (p1 : Int32) (M : pMem) : pT Int32 := tPut (aPut M 188 42 p1) fun M1 => tPut (aPut M1 188 43 (M1 188 26)) fun M2 => tRet (kI (-1)) M2
theorem D_66_ok {X : aX} {F d : Nat} {K : Nat → aK} (hS : pS K) {p1 : Int32} {M : pMem} {out : Option Value × aH} (H : aM X F d 66 [.ref 188, .int p1] (pH K M) = some out) : pG eI K out (D_66 p1 M) := by
  obtain ⟨d', g0, _, H⟩ := pEnt (n := 2) (ls := [.ref 188, .int p1]) (mcb_66 rfl) (by decide +kernel) rfl H
  unfold D_66
  replace H := pRun (ls' := [.ref 188, .int p1]) (st' := [.int p1, .ref 188]) 2 rfl H
  obtain ⟨M1, eM1, H⟩ := pPutN (j := 42) rfl H
  refine pG_put (M2 := M1) eM1 ?_
  replace H := pRun (ls' := [.ref 188, .int p1]) (st' := [.ref 188, .ref 188]) 2 rfl H
  replace H := pGetN (v := M1 188 26) rfl (by decide) H
  obtain ⟨M2, eM2, H⟩ := pPutN (j := 43) rfl H
  refine pG_put (M2 := M2) eM2 ?_
  replace H := pRun (ls' := [.ref 188, .int p1]) (st' := [.int (kI (-1))]) 1 rfl H
  exact pG_ret (pRetI H)
def l_66 : List (Nat × Nat) := [(188, 42), (188, 43)]
theorem F_66 {p1 : Int32} {M : pMem} {v : Int32} {N : pMem} (h : D_66 p1 M v N) : pFr (l_66) M N :=
  (show pTf (l_66) M (D_66 p1 M) from (tf_put pFr_refl 0 rfl fun M1 f1 => (tf_put f1 1 rfl fun M2 f2 => (tf_ret f2)))) v N h
/-- TwoCampsModel.emits(II)V -/
def D_69 (p1 : Int32) (p2 : Int32) (M : pMem) : pT Unit := tGd (pIn ((kI 2000) + (M 188 38)) 2500) <| tPut (aPut M 210 (ix ((kI 2000) + (M 188 38))) p1) fun M1 => tGd (pIn ((kI 2000) + (M1 188 38)) 2500) <| tPut (aPut M1 211 (ix ((kI 2000) + (M1 188 38))) p2) fun M2 => tPut (aPut M2 188 38 ((M2 188 38) + (kI 1))) fun M3 => tRet () M3
theorem D_69_ok {X : aX} {F d : Nat} {K : Nat → aK} (hS : pS K) {p1 : Int32} {p2 : Int32} {M : pMem} {out : Option Value × aH} (H : aM X F d 69 [.ref 188, .int p1, .int p2] (pH K M) = some out) : pG eU K out (D_69 p1 p2 M) := by
  obtain ⟨d', g0, _, H⟩ := pEnt (n := 3) (ls := [.ref 188, .int p1, .int p2]) (mcb_69 rfl) (by decide +kernel) rfl H
  unfold D_69
  replace H := pRun (ls' := [.ref 188, .int p1, .int p2]) (st' := [.ref 188]) 1 rfl H
  replace H := pGetR (r := 210) (pRf hS (by decide +kernel)) rfl H
  replace H := pRun (ls' := [.ref 188, .int p1, .int p2]) (st' := [.ref 188, .int (kI 2000), .ref 210]) 2 rfl H
  replace H := pGetN (v := M 188 38) rfl (by decide) H
  replace H := pRun (ls' := [.ref 188, .int p1, .int p2]) (st' := [.int p1, .int ((kI 2000) + (M 188 38)), .ref 210]) 2 rfl H
  obtain ⟨g1, M1, eM1, H⟩ := pIst (n := 2500) (pLn hS (show pCa 210 2500 = true by decide +kernel)) H
  refine pG_gd g1 (pG_put (M2 := M1) eM1 ?_)
  replace H := pRun (ls' := [.ref 188, .int p1, .int p2]) (st' := [.ref 188]) 1 rfl H
  replace H := pGetR (r := 211) (pRf hS (by decide +kernel)) rfl H
  replace H := pRun (ls' := [.ref 188, .int p1, .int p2]) (st' := [.ref 188, .int (kI 2000), .ref 211]) 2 rfl H
  replace H := pGetN (v := M1 188 38) rfl (by decide) H
  replace H := pRun (ls' := [.ref 188, .int p1, .int p2]) (st' := [.int p2, .int ((kI 2000) + (M1 188 38)), .ref 211]) 2 rfl H
  obtain ⟨g2, M2, eM2, H⟩ := pIst (n := 2500) (pLn hS (show pCa 211 2500 = true by decide +kernel)) H
  refine pG_gd g2 (pG_put (M2 := M2) eM2 ?_)
  replace H := pRun (ls' := [.ref 188, .int p1, .int p2]) (st' := [.ref 188, .ref 188]) 2 rfl H
  replace H := pGetN (v := M2 188 38) rfl (by decide) H
  replace H := pRun (ls' := [.ref 188, .int p1, .int p2]) (st' := [.int ((M2 188 38) + (kI 1)), .ref 188]) 2 rfl H
  obtain ⟨M3, eM3, H⟩ := pPutN (j := 38) rfl H
  refine pG_put (M2 := M3) eM3 ?_
  exact pG_ret (pRetU H)
def l_69 : List (Nat × Nat) := [(210, 999), (211, 999), (188, 38)]
theorem F_69 {p1 : Int32} {p2 : Int32} {M : pMem} {v : Unit} {N : pMem} (h : D_69 p1 p2 M v N) : pFr (l_69) M N :=
  (show pTf (l_69) M (D_69 p1 p2 M) from (tf_gd fun g1 => (tf_putA pFr_refl 0 rfl fun M1 f1 => (tf_gd fun g2 => (tf_putA f1 1 rfl fun M2 f2 => (tf_put f2 2 rfl fun M3 f3 => (tf_ret f3))))))) v N h
/-- TwoCampsModel.readUnit()I -/
def D_70 (M : pMem) : pT Int32 := tIf (¬ (M 188 27) = (kI 2)) (tIf ((M 188 27) = (kI 3)) (tCall (D_69 (kI 0) (M 188 28) M) fun _ M1 => tCall (D_65 M1) fun _ M2 => tRet (kI 0) M2) (tCall (D_66 (kI 1) M) fun v1 M1 => tRet v1 M1)) (tIf ((M 188 28) < (kI 15)) (tIf ((M 188 27) = (kI 3)) (tCall (D_69 (kI 0) (M 188 28) M) fun _ M1 => tCall (D_65 M1) fun _ M2 => tRet (kI 0) M2) (tCall (D_66 (kI 1) M) fun v1 M1 => tRet v1 M1)) (tCall (D_69 (kI 1) ((M 188 28) - (kI 15)) M) fun _ M1 => tCall (D_65 M1) fun _ M2 => tRet (kI 0) M2))
theorem D_70_ok {X : aX} {F d : Nat} {K : Nat → aK} (hS : pS K) {M : pMem} {out : Option Value × aH} (H : aM X F d 70 [.ref 188] (pH K M) = some out) : pG eI K out (D_70 M) := by
  obtain ⟨d', g0, _, H⟩ := pEnt (n := 2) (ls := [.ref 188, aD]) (mcb_70 rfl) (by decide +kernel) rfl H
  unfold D_70
  replace H := pRun (ls' := [.ref 188, aD]) (st' := [.ref 188]) 1 rfl H
  replace H := pGetN (v := M 188 27) rfl (by decide) H
  replace H := pRun (ls' := [.ref 188, aD]) (st' := [.int (kI 2), .int (M 188 27)]) 1 rfl H
  rcases pIfc (n1 := 3) rfl (mcb_70 rfl) (mcb_70 rfl) H with ⟨g1, g0, _, H⟩ | ⟨g1, g0, _, H⟩
  · refine pG_pos (c := ¬ (M 188 27) = (kI 2)) g1 ?_
    replace H := pRun (ls' := [.ref 188, aD]) (st' := [.int (kI 0)]) 1 rfl H
    obtain ⟨g0, _, H⟩ := pFall (mcb_70 rfl) H
    replace H := pRun (ls' := [.ref 188, .int (kI 0)]) (st' := [.int (kI 0)]) 2 rfl H
    rcases pIf0 (n1 := 7) rfl (mcb_70 rfl) (mcb_70 rfl) H with ⟨g2, g0, _, H⟩ | ⟨g2, g0, _, H⟩
    · exact absurd (show ¬ (kI 0) = 0 from g2) (by decide)
    · replace H := pRun (ls' := [.ref 188, .int (kI 0)]) (st' := [.ref 188]) 1 rfl H
      replace H := pGetN (v := M 188 27) rfl (by decide) H
      replace H := pRun (ls' := [.ref 188, .int (kI 0)]) (st' := [.int (kI 3), .int (M 188 27)]) 1 rfl H
      rcases pIfc (n1 := 7) rfl (mcb_70 rfl) (mcb_70 rfl) H with ⟨g3, g0, _, H⟩ | ⟨g3, g0, _, H⟩
      · refine pG_pos (c := (M 188 27) = (kI 3)) g3 ?_
        replace H := pRun (ls' := [.ref 188, .int (kI 0)]) (st' := [.int (kI 0), .ref 188]) 2 rfl H
        rcases pIf0 (n1 := 9) rfl (mcb_70 rfl) (mcb_70 rfl) H with ⟨g4, g0, _, H⟩ | ⟨g4, g0, _, H⟩
        · replace H := pRun (ls' := [.ref 188, .int (kI 0)]) (st' := [.int (kI 0), .ref 188]) 1 rfl H
          obtain ⟨g0, _, H⟩ := pFall (mcb_70 rfl) H
          replace H := pRun (ls' := [.ref 188, .int (kI 0)]) (st' := [.int (kI 0), .int (kI 0), .ref 188]) 1 rfl H
          rcases pIf0 (n1 := 12) rfl (mcb_70 rfl) (mcb_70 rfl) H with ⟨g5, g0, _, H⟩ | ⟨g5, g0, _, H⟩
          · replace H := pRun (ls' := [.ref 188, .int (kI 0)]) (st' := [.ref 188, .int (kI 0), .ref 188]) 1 rfl H
            replace H := pGetN (v := M 188 28) rfl (by decide) H
            obtain ⟨g0, _, H⟩ := pFall (mcb_70 rfl) H
            obtain ⟨rv, h1, hc, H⟩ := pCalV 69 2 188 (as := [.int (kI 0), .int (M 188 28)]) (rest := []) rfl (by decide) (by decide +kernel) rfl rfl H
            obtain ⟨v1, M1, hD, H⟩ := pUseU (D_69_ok hS hc) H
            refine pG_call (x := v1) (M1 := M1) hD ?_
            replace H := pRun (ls' := [.ref 188, .int (kI 0)]) (st' := [.ref 188]) 1 rfl H
            obtain ⟨rv, h1, hc, H⟩ := pCalV 65 0 188 (as := []) (rest := []) rfl (by decide) (by decide +kernel) rfl rfl H
            obtain ⟨v2, M2, hD, H⟩ := pUseU (D_65_ok hS hc) H
            refine pG_call (x := v2) (M1 := M2) hD ?_
            replace H := pRun (ls' := [.ref 188, .int (kI 0)]) (st' := [.int (kI 0)]) 1 rfl H
            exact pG_ret (pRetI H)
          · exact absurd (show ¬ ((kI 0) = 0) from g5) (by decide)
        · exact absurd (show ¬ ((kI 0) = 0) from g4) (by decide)
      · refine pG_neg (c := (M 188 27) = (kI 3)) g3 ?_
        replace H := pRun (ls' := [.ref 188, .int (kI 0)]) (st' := [.int (kI 1), .ref 188]) 2 rfl H
        obtain ⟨rv, h1, hc, H⟩ := pCalV 66 1 188 (as := [.int (kI 1)]) (rest := []) rfl (by decide) (by decide +kernel) rfl rfl H
        obtain ⟨v1, M1, hD, H⟩ := pUseI (D_66_ok hS hc) H
        refine pG_call (x := v1) (M1 := M1) hD ?_
        exact pG_ret (pRetI H)
  · refine pG_neg (c := ¬ (M 188 27) = (kI 2)) g1 ?_
    replace H := pRun (ls' := [.ref 188, aD]) (st' := [.ref 188]) 1 rfl H
    replace H := pGetN (v := M 188 28) rfl (by decide) H
    replace H := pRun (ls' := [.ref 188, aD]) (st' := [.int (kI 15), .int (M 188 28)]) 1 rfl H
    rcases pIfc (n1 := 3) rfl (mcb_70 rfl) (mcb_70 rfl) H with ⟨g2, g0, _, H⟩ | ⟨g2, g0, _, H⟩
    · refine pG_pos (c := (M 188 28) < (kI 15)) g2 ?_
      replace H := pRun (ls' := [.ref 188, aD]) (st' := [.int (kI 0)]) 1 rfl H
      obtain ⟨g0, _, H⟩ := pFall (mcb_70 rfl) H
      replace H := pRun (ls' := [.ref 188, .int (kI 0)]) (st' := [.int (kI 0)]) 2 rfl H
      rcases pIf0 (n1 := 7) rfl (mcb_70 rfl) (mcb_70 rfl) H with ⟨g3, g0, _, H⟩ | ⟨g3, g0, _, H⟩
      · exact absurd (show ¬ (kI 0) = 0 from g3) (by decide)
      · replace H := pRun (ls' := [.ref 188, .int (kI 0)]) (st' := [.ref 188]) 1 rfl H
        replace H := pGetN (v := M 188 27) rfl (by decide) H
        replace H := pRun (ls' := [.ref 188, .int (kI 0)]) (st' := [.int (kI 3), .int (M 188 27)]) 1 rfl H
        rcases pIfc (n1 := 7) rfl (mcb_70 rfl) (mcb_70 rfl) H with ⟨g4, g0, _, H⟩ | ⟨g4, g0, _, H⟩
        · refine pG_pos (c := (M 188 27) = (kI 3)) g4 ?_
          replace H := pRun (ls' := [.ref 188, .int (kI 0)]) (st' := [.int (kI 0), .ref 188]) 2 rfl H
          rcases pIf0 (n1 := 9) rfl (mcb_70 rfl) (mcb_70 rfl) H with ⟨g5, g0, _, H⟩ | ⟨g5, g0, _, H⟩
          · replace H := pRun (ls' := [.ref 188, .int (kI 0)]) (st' := [.int (kI 0), .ref 188]) 1 rfl H
            obtain ⟨g0, _, H⟩ := pFall (mcb_70 rfl) H
            replace H := pRun (ls' := [.ref 188, .int (kI 0)]) (st' := [.int (kI 0), .int (kI 0), .ref 188]) 1 rfl H
            rcases pIf0 (n1 := 12) rfl (mcb_70 rfl) (mcb_70 rfl) H with ⟨g6, g0, _, H⟩ | ⟨g6, g0, _, H⟩
            · replace H := pRun (ls' := [.ref 188, .int (kI 0)]) (st' := [.ref 188, .int (kI 0), .ref 188]) 1 rfl H
              replace H := pGetN (v := M 188 28) rfl (by decide) H
              obtain ⟨g0, _, H⟩ := pFall (mcb_70 rfl) H
              obtain ⟨rv, h1, hc, H⟩ := pCalV 69 2 188 (as := [.int (kI 0), .int (M 188 28)]) (rest := []) rfl (by decide) (by decide +kernel) rfl rfl H
              obtain ⟨v1, M1, hD, H⟩ := pUseU (D_69_ok hS hc) H
              refine pG_call (x := v1) (M1 := M1) hD ?_
              replace H := pRun (ls' := [.ref 188, .int (kI 0)]) (st' := [.ref 188]) 1 rfl H
              obtain ⟨rv, h1, hc, H⟩ := pCalV 65 0 188 (as := []) (rest := []) rfl (by decide) (by decide +kernel) rfl rfl H
              obtain ⟨v2, M2, hD, H⟩ := pUseU (D_65_ok hS hc) H
              refine pG_call (x := v2) (M1 := M2) hD ?_
              replace H := pRun (ls' := [.ref 188, .int (kI 0)]) (st' := [.int (kI 0)]) 1 rfl H
              exact pG_ret (pRetI H)
            · exact absurd (show ¬ ((kI 0) = 0) from g6) (by decide)
          · exact absurd (show ¬ ((kI 0) = 0) from g5) (by decide)
        · refine pG_neg (c := (M 188 27) = (kI 3)) g4 ?_
          replace H := pRun (ls' := [.ref 188, .int (kI 0)]) (st' := [.int (kI 1), .ref 188]) 2 rfl H
          obtain ⟨rv, h1, hc, H⟩ := pCalV 66 1 188 (as := [.int (kI 1)]) (rest := []) rfl (by decide) (by decide +kernel) rfl rfl H
          obtain ⟨v1, M1, hD, H⟩ := pUseI (D_66_ok hS hc) H
          refine pG_call (x := v1) (M1 := M1) hD ?_
          exact pG_ret (pRetI H)
    · refine pG_neg (c := (M 188 28) < (kI 15)) g2 ?_
      replace H := pRun (ls' := [.ref 188, aD]) (st' := [.int (kI 1)]) 1 rfl H
      obtain ⟨g0, _, H⟩ := pGo (n1 := 4) rfl (mcb_70 rfl) H
      replace H := pRun (ls' := [.ref 188, .int (kI 1)]) (st' := [.int (kI 1)]) 2 rfl H
      rcases pIf0 (n1 := 7) rfl (mcb_70 rfl) (mcb_70 rfl) H with ⟨g3, g0, _, H⟩ | ⟨g3, g0, _, H⟩
      · replace H := pRun (ls' := [.ref 188, .int (kI 1)]) (st' := [.int (kI 1), .ref 188]) 2 rfl H
        rcases pIf0 (n1 := 9) rfl (mcb_70 rfl) (mcb_70 rfl) H with ⟨g4, g0, _, H⟩ | ⟨g4, g0, _, H⟩
        · exact absurd (show (kI 1) = 0 from g4) (by decide)
        · replace H := pRun (ls' := [.ref 188, .int (kI 1)]) (st' := [.int (kI 1), .ref 188]) 1 rfl H
          obtain ⟨g0, _, H⟩ := pGo (n1 := 10) rfl (mcb_70 rfl) H
          replace H := pRun (ls' := [.ref 188, .int (kI 1)]) (st' := [.int (kI 1), .int (kI 1), .ref 188]) 1 rfl H
          rcases pIf0 (n1 := 12) rfl (mcb_70 rfl) (mcb_70 rfl) H with ⟨g5, g0, _, H⟩ | ⟨g5, g0, _, H⟩
          · exact absurd (show (kI 1) = 0 from g5) (by decide)
          · replace H := pRun (ls' := [.ref 188, .int (kI 1)]) (st' := [.ref 188, .int (kI 1), .ref 188]) 1 rfl H
            replace H := pGetN (v := M 188 28) rfl (by decide) H
            replace H := pRun (ls' := [.ref 188, .int (kI 1)]) (st' := [.int ((M 188 28) - (kI 15)), .int (kI 1), .ref 188]) 2 rfl H
            obtain ⟨g0, _, H⟩ := pGo (n1 := 13) rfl (mcb_70 rfl) H
            obtain ⟨rv, h1, hc, H⟩ := pCalV 69 2 188 (as := [.int (kI 1), .int ((M 188 28) - (kI 15))]) (rest := []) rfl (by decide) (by decide +kernel) rfl rfl H
            obtain ⟨v1, M1, hD, H⟩ := pUseU (D_69_ok hS hc) H
            refine pG_call (x := v1) (M1 := M1) hD ?_
            replace H := pRun (ls' := [.ref 188, .int (kI 1)]) (st' := [.ref 188]) 1 rfl H
            obtain ⟨rv, h1, hc, H⟩ := pCalV 65 0 188 (as := []) (rest := []) rfl (by decide) (by decide +kernel) rfl rfl H
            obtain ⟨v2, M2, hD, H⟩ := pUseU (D_65_ok hS hc) H
            refine pG_call (x := v2) (M1 := M2) hD ?_
            replace H := pRun (ls' := [.ref 188, .int (kI 1)]) (st' := [.int (kI 0)]) 1 rfl H
            exact pG_ret (pRetI H)
      · exact absurd (show ¬ (¬ (kI 1) = 0) from g3) (by decide)
def l_70 : List (Nat × Nat) := [(210, 999), (211, 999), (188, 38), (188, 25), (188, 26), (188, 27), (188, 28), (188, 42), (188, 43)]
theorem F_70 {M : pMem} {v : Int32} {N : pMem} (h : D_70 M v N) : pFr (l_70) M N :=
  (show pTf (l_70) M (D_70 M) from (tf_if (tf_if (tf_call pFr_refl (fun _ _ h => F_69 h) [0, 1, 2] rfl fun _ M1 f1 => (tf_call f1 (fun _ _ h => F_65 h) [3, 4, 5, 6] rfl fun _ M2 f2 => (tf_ret f2))) (tf_call pFr_refl (fun _ _ h => F_66 h) [7, 8] rfl fun _ M1 f1 => (tf_ret f1))) (tf_if (tf_if (tf_call pFr_refl (fun _ _ h => F_69 h) [0, 1, 2] rfl fun _ M1 f1 => (tf_call f1 (fun _ _ h => F_65 h) [3, 4, 5, 6] rfl fun _ M2 f2 => (tf_ret f2))) (tf_call pFr_refl (fun _ _ h => F_66 h) [7, 8] rfl fun _ M1 f1 => (tf_ret f1))) (tf_call pFr_refl (fun _ _ h => F_69 h) [0, 1, 2] rfl fun _ M1 f1 => (tf_call f1 (fun _ _ h => F_65 h) [3, 4, 5, 6] rfl fun _ M2 f2 => (tf_ret f2)))))) v N h
/-- TwoCampsModel.readProduct()I -/
def S_71_2 (P2 : pMem → pT Int32) (M : pMem) : pT Int32 := tIf (¬ (f_68 (kI 42) M) = 0) (tCall (D_65 M) fun _ M1 => tIf (¬ (f_68 (kI 42) M) = 0) (tIf (¬ (f_68 (kI 42) M) = 0) (tCall (D_70 M1) fun v2 M2 => tIf (¬ v2 = (kI (-1))) (tIf ((f_68 (kI 42) M) = 0) (tCall (D_69 (kI 5) (kI 0) M2) fun _ M3 => P2 M3) (tCall (D_69 (kI 4) (kI 0) M2) fun _ M3 => P2 M3)) (tRet (kI (-1)) M2)) (tIf (¬ (M1 188 28) = 0) (tCall (D_70 M1) fun v2 M2 => tIf (¬ v2 = (kI (-1))) (tIf ((f_68 (kI 42) M) = 0) (tCall (D_69 (kI 5) (kI 0) M2) fun _ M3 => P2 M3) (tCall (D_69 (kI 4) (kI 0) M2) fun _ M3 => P2 M3)) (tRet (kI (-1)) M2)) (tCall (D_66 (kI 2) M1) fun v2 M2 => tRet v2 M2))) (tIf ((M1 188 27) = (kI 3)) (tIf (¬ (f_68 (kI 42) M) = 0) (tCall (D_70 M1) fun v2 M2 => tIf (¬ v2 = (kI (-1))) (tIf ((f_68 (kI 42) M) = 0) (tCall (D_69 (kI 5) (kI 0) M2) fun _ M3 => P2 M3) (tCall (D_69 (kI 4) (kI 0) M2) fun _ M3 => P2 M3)) (tRet (kI (-1)) M2)) (tIf (¬ (M1 188 28) = 0) (tCall (D_70 M1) fun v2 M2 => tIf (¬ v2 = (kI (-1))) (tIf ((f_68 (kI 42) M) = 0) (tCall (D_69 (kI 5) (kI 0) M2) fun _ M3 => P2 M3) (tCall (D_69 (kI 4) (kI 0) M2) fun _ M3 => P2 M3)) (tRet (kI (-1)) M2)) (tCall (D_66 (kI 2) M1) fun v2 M2 => tRet v2 M2))) (tCall (D_66 (kI 1) M1) fun v2 M2 => tRet v2 M2))) (tIf ((f_68 (kI 47) M) = 0) (tRet (kI 0) M) (tCall (D_65 M) fun _ M1 => tIf (¬ (f_68 (kI 42) M) = 0) (tIf (¬ (f_68 (kI 42) M) = 0) (tCall (D_70 M1) fun v2 M2 => tIf (¬ v2 = (kI (-1))) (tIf ((f_68 (kI 42) M) = 0) (tCall (D_69 (kI 5) (kI 0) M2) fun _ M3 => P2 M3) (tCall (D_69 (kI 4) (kI 0) M2) fun _ M3 => P2 M3)) (tRet (kI (-1)) M2)) (tIf (¬ (M1 188 28) = 0) (tCall (D_70 M1) fun v2 M2 => tIf (¬ v2 = (kI (-1))) (tIf ((f_68 (kI 42) M) = 0) (tCall (D_69 (kI 5) (kI 0) M2) fun _ M3 => P2 M3) (tCall (D_69 (kI 4) (kI 0) M2) fun _ M3 => P2 M3)) (tRet (kI (-1)) M2)) (tCall (D_66 (kI 2) M1) fun v2 M2 => tRet v2 M2))) (tIf ((M1 188 27) = (kI 3)) (tIf (¬ (f_68 (kI 42) M) = 0) (tCall (D_70 M1) fun v2 M2 => tIf (¬ v2 = (kI (-1))) (tIf ((f_68 (kI 42) M) = 0) (tCall (D_69 (kI 5) (kI 0) M2) fun _ M3 => P2 M3) (tCall (D_69 (kI 4) (kI 0) M2) fun _ M3 => P2 M3)) (tRet (kI (-1)) M2)) (tIf (¬ (M1 188 28) = 0) (tCall (D_70 M1) fun v2 M2 => tIf (¬ v2 = (kI (-1))) (tIf ((f_68 (kI 42) M) = 0) (tCall (D_69 (kI 5) (kI 0) M2) fun _ M3 => P2 M3) (tCall (D_69 (kI 4) (kI 0) M2) fun _ M3 => P2 M3)) (tRet (kI (-1)) M2)) (tCall (D_66 (kI 2) M1) fun v2 M2 => tRet v2 M2))) (tCall (D_66 (kI 1) M1) fun v2 M2 => tRet v2 M2))))
def C_71 (P2 : pMem → pT Int32) : Prop := (∀ M v N, S_71_2 P2 M v N → P2 M v N)
def L_71_2 (M : pMem) : pT Int32 := fun v N => ∀ P : (pMem → pT Int32), C_71 P → P M v N
def D_71 (M : pMem) : pT Int32 := tCall (D_70 M) fun v1 M1 => tIf (¬ v1 = (kI (-1))) (L_71_2 M1) (tRet (kI (-1)) M1)
theorem K_71 {X : aX} {F d : Nat} {K : Nat → aK} (hS : pS K) {out : Option Value × aH} (P2 : pMem → pT Int32) (hC : C_71 P2) : ∀ f, (∀ (u1 : Value) M, pm X F d 71 f 2 [.aload 0, .bipush 42, .invokevirtual 1580068, .ifCond .ne 4] [.ref 188, u1] [] (pH K M) out → pG eI K out (P2 M)) := by
  intro f
  induction f using Nat.strongRecOn with
  | _ f ih =>
    intro u1 M H
    refine pG_mono (fun v N h => hC M v N h) ?_
    unfold S_71_2
    replace H := pRun (ls' := [.ref 188, u1]) (st' := [.int (kI 42), .ref 188]) 2 rfl H
    obtain ⟨rv, h1, hc, H⟩ := pCalV 68 1 188 (as := [.int (kI 42)]) (rest := []) rfl (by decide) (by decide +kernel) rfl rfl H
    replace H := pUseF (f_68_ok hS hc) H
    rcases pIf0 (n1 := 4) rfl (mcb_71 rfl) (mcb_71 rfl) H with ⟨g1, g0, _, H⟩ | ⟨g1, g0, _, H⟩
    · refine pG_pos (c := ¬ (f_68 (kI 42) M) = 0) g1 ?_
      replace H := pRun (ls' := [.ref 188, u1]) (st' := [.int (kI 42), .ref 188]) 2 rfl H
      obtain ⟨rv, h1, hc, H⟩ := pCalV 68 1 188 (as := [.int (kI 42)]) (rest := []) rfl (by decide) (by decide +kernel) rfl rfl H
      replace H := pUseF (f_68_ok hS hc) H
      replace H := pRun (ls' := [.ref 188, .int (f_68 (kI 42) M)]) (st' := [.ref 188]) 2 rfl H
      obtain ⟨rv, h1, hc, H⟩ := pCalV 65 0 188 (as := []) (rest := []) rfl (by decide) (by decide +kernel) rfl rfl H
      obtain ⟨v1, M1, hD, H⟩ := pUseU (D_65_ok hS hc) H
      refine pG_call (x := v1) (M1 := M1) hD ?_
      replace H := pRun (ls' := [.ref 188, .int (f_68 (kI 42) M)]) (st' := [.int (f_68 (kI 42) M)]) 1 rfl H
      rcases pIf0 (n1 := 7) rfl (mcb_71 rfl) (mcb_71 rfl) H with ⟨g2, g0, _, H⟩ | ⟨g2, g0, _, H⟩
      · refine pG_pos (c := ¬ (f_68 (kI 42) M) = 0) g2 ?_
        replace H := pRun (ls' := [.ref 188, .int (f_68 (kI 42) M)]) (st' := [.int (f_68 (kI 42) M)]) 1 rfl H
        rcases pIf0 (n1 := 10) rfl (mcb_71 rfl) (mcb_71 rfl) H with ⟨g3, g0, _, H⟩ | ⟨g3, g0, _, H⟩
        · refine pG_pos (c := ¬ (f_68 (kI 42) M) = 0) g3 ?_
          replace H := pRun (ls' := [.ref 188, .int (f_68 (kI 42) M)]) (st' := [.ref 188]) 1 rfl H
          obtain ⟨rv, h1, hc, H⟩ := pCalV 70 0 188 (as := []) (rest := []) rfl (by decide) (by decide +kernel) rfl rfl H
          obtain ⟨v2, M2, hD, H⟩ := pUseI (D_70_ok hS hc) H
          refine pG_call (x := v2) (M1 := M2) hD ?_
          replace H := pRun (ls' := [.ref 188, .int (f_68 (kI 42) M)]) (st' := [.int (kI (-1)), .int v2]) 1 rfl H
          rcases pIfc (n1 := 12) rfl (mcb_71 rfl) (mcb_71 rfl) H with ⟨g4, g0, _, H⟩ | ⟨g4, g0, _, H⟩
          · refine pG_pos (c := ¬ v2 = (kI (-1))) g4 ?_
            replace H := pRun (ls' := [.ref 188, .int (f_68 (kI 42) M)]) (st' := [.int (f_68 (kI 42) M), .ref 188]) 2 rfl H
            rcases pIf0 (n1 := 14) rfl (mcb_71 rfl) (mcb_71 rfl) H with ⟨g5, g0, _, H⟩ | ⟨g5, g0, _, H⟩
            · refine pG_pos (c := (f_68 (kI 42) M) = 0) g5 ?_
              replace H := pRun (ls' := [.ref 188, .int (f_68 (kI 42) M)]) (st' := [.int (kI 5), .ref 188]) 1 rfl H
              obtain ⟨g0, _, H⟩ := pFall (mcb_71 rfl) H
              replace H := pRun (ls' := [.ref 188, .int (f_68 (kI 42) M)]) (st' := [.int (kI 0), .int (kI 5), .ref 188]) 1 rfl H
              obtain ⟨rv, h1, hc, H⟩ := pCalV 69 2 188 (as := [.int (kI 5), .int (kI 0)]) (rest := []) rfl (by decide) (by decide +kernel) rfl rfl H
              obtain ⟨v3, M3, hD, H⟩ := pUseU (D_69_ok hS hc) H
              refine pG_call (x := v3) (M1 := M3) hD ?_
              obtain ⟨g0, _, H⟩ := pGo (n1 := 2) rfl (mcb_71 rfl) H
              exact (ih _ (by omega)) _  _ H
            · refine pG_neg (c := (f_68 (kI 42) M) = 0) g5 ?_
              replace H := pRun (ls' := [.ref 188, .int (f_68 (kI 42) M)]) (st' := [.int (kI 4), .ref 188]) 1 rfl H
              obtain ⟨g0, _, H⟩ := pGo (n1 := 15) rfl (mcb_71 rfl) H
              replace H := pRun (ls' := [.ref 188, .int (f_68 (kI 42) M)]) (st' := [.int (kI 0), .int (kI 4), .ref 188]) 1 rfl H
              obtain ⟨rv, h1, hc, H⟩ := pCalV 69 2 188 (as := [.int (kI 4), .int (kI 0)]) (rest := []) rfl (by decide) (by decide +kernel) rfl rfl H
              obtain ⟨v3, M3, hD, H⟩ := pUseU (D_69_ok hS hc) H
              refine pG_call (x := v3) (M1 := M3) hD ?_
              obtain ⟨g0, _, H⟩ := pGo (n1 := 2) rfl (mcb_71 rfl) H
              exact (ih _ (by omega)) _  _ H
          · refine pG_neg (c := ¬ v2 = (kI (-1))) g4 ?_
            replace H := pRun (ls' := [.ref 188, .int (f_68 (kI 42) M)]) (st' := [.int (kI (-1))]) 1 rfl H
            exact pG_ret (pRetI H)
        · refine pG_neg (c := ¬ (f_68 (kI 42) M) = 0) g3 ?_
          replace H := pRun (ls' := [.ref 188, .int (f_68 (kI 42) M)]) (st' := [.ref 188]) 1 rfl H
          replace H := pGetN (v := M1 188 28) rfl (by decide) H
          rcases pIf0 (n1 := 10) rfl (mcb_71 rfl) (mcb_71 rfl) H with ⟨g4, g0, _, H⟩ | ⟨g4, g0, _, H⟩
          · refine pG_pos (c := ¬ (M1 188 28) = 0) g4 ?_
            replace H := pRun (ls' := [.ref 188, .int (f_68 (kI 42) M)]) (st' := [.ref 188]) 1 rfl H
            obtain ⟨rv, h1, hc, H⟩ := pCalV 70 0 188 (as := []) (rest := []) rfl (by decide) (by decide +kernel) rfl rfl H
            obtain ⟨v2, M2, hD, H⟩ := pUseI (D_70_ok hS hc) H
            refine pG_call (x := v2) (M1 := M2) hD ?_
            replace H := pRun (ls' := [.ref 188, .int (f_68 (kI 42) M)]) (st' := [.int (kI (-1)), .int v2]) 1 rfl H
            rcases pIfc (n1 := 12) rfl (mcb_71 rfl) (mcb_71 rfl) H with ⟨g5, g0, _, H⟩ | ⟨g5, g0, _, H⟩
            · refine pG_pos (c := ¬ v2 = (kI (-1))) g5 ?_
              replace H := pRun (ls' := [.ref 188, .int (f_68 (kI 42) M)]) (st' := [.int (f_68 (kI 42) M), .ref 188]) 2 rfl H
              rcases pIf0 (n1 := 14) rfl (mcb_71 rfl) (mcb_71 rfl) H with ⟨g6, g0, _, H⟩ | ⟨g6, g0, _, H⟩
              · refine pG_pos (c := (f_68 (kI 42) M) = 0) g6 ?_
                replace H := pRun (ls' := [.ref 188, .int (f_68 (kI 42) M)]) (st' := [.int (kI 5), .ref 188]) 1 rfl H
                obtain ⟨g0, _, H⟩ := pFall (mcb_71 rfl) H
                replace H := pRun (ls' := [.ref 188, .int (f_68 (kI 42) M)]) (st' := [.int (kI 0), .int (kI 5), .ref 188]) 1 rfl H
                obtain ⟨rv, h1, hc, H⟩ := pCalV 69 2 188 (as := [.int (kI 5), .int (kI 0)]) (rest := []) rfl (by decide) (by decide +kernel) rfl rfl H
                obtain ⟨v3, M3, hD, H⟩ := pUseU (D_69_ok hS hc) H
                refine pG_call (x := v3) (M1 := M3) hD ?_
                obtain ⟨g0, _, H⟩ := pGo (n1 := 2) rfl (mcb_71 rfl) H
                exact (ih _ (by omega)) _  _ H
              · refine pG_neg (c := (f_68 (kI 42) M) = 0) g6 ?_
                replace H := pRun (ls' := [.ref 188, .int (f_68 (kI 42) M)]) (st' := [.int (kI 4), .ref 188]) 1 rfl H
                obtain ⟨g0, _, H⟩ := pGo (n1 := 15) rfl (mcb_71 rfl) H
                replace H := pRun (ls' := [.ref 188, .int (f_68 (kI 42) M)]) (st' := [.int (kI 0), .int (kI 4), .ref 188]) 1 rfl H
                obtain ⟨rv, h1, hc, H⟩ := pCalV 69 2 188 (as := [.int (kI 4), .int (kI 0)]) (rest := []) rfl (by decide) (by decide +kernel) rfl rfl H
                obtain ⟨v3, M3, hD, H⟩ := pUseU (D_69_ok hS hc) H
                refine pG_call (x := v3) (M1 := M3) hD ?_
                obtain ⟨g0, _, H⟩ := pGo (n1 := 2) rfl (mcb_71 rfl) H
                exact (ih _ (by omega)) _  _ H
            · refine pG_neg (c := ¬ v2 = (kI (-1))) g5 ?_
              replace H := pRun (ls' := [.ref 188, .int (f_68 (kI 42) M)]) (st' := [.int (kI (-1))]) 1 rfl H
              exact pG_ret (pRetI H)
          · refine pG_neg (c := ¬ (M1 188 28) = 0) g4 ?_
            replace H := pRun (ls' := [.ref 188, .int (f_68 (kI 42) M)]) (st' := [.int (kI 2), .ref 188]) 2 rfl H
            obtain ⟨rv, h1, hc, H⟩ := pCalV 66 1 188 (as := [.int (kI 2)]) (rest := []) rfl (by decide) (by decide +kernel) rfl rfl H
            obtain ⟨v2, M2, hD, H⟩ := pUseI (D_66_ok hS hc) H
            refine pG_call (x := v2) (M1 := M2) hD ?_
            exact pG_ret (pRetI H)
      · refine pG_neg (c := ¬ (f_68 (kI 42) M) = 0) g2 ?_
        replace H := pRun (ls' := [.ref 188, .int (f_68 (kI 42) M)]) (st' := [.ref 188]) 1 rfl H
        replace H := pGetN (v := M1 188 27) rfl (by decide) H
        replace H := pRun (ls' := [.ref 188, .int (f_68 (kI 42) M)]) (st' := [.int (kI 3), .int (M1 188 27)]) 1 rfl H
        rcases pIfc (n1 := 7) rfl (mcb_71 rfl) (mcb_71 rfl) H with ⟨g3, g0, _, H⟩ | ⟨g3, g0, _, H⟩
        · refine pG_pos (c := (M1 188 27) = (kI 3)) g3 ?_
          replace H := pRun (ls' := [.ref 188, .int (f_68 (kI 42) M)]) (st' := [.int (f_68 (kI 42) M)]) 1 rfl H
          rcases pIf0 (n1 := 10) rfl (mcb_71 rfl) (mcb_71 rfl) H with ⟨g4, g0, _, H⟩ | ⟨g4, g0, _, H⟩
          · refine pG_pos (c := ¬ (f_68 (kI 42) M) = 0) g4 ?_
            replace H := pRun (ls' := [.ref 188, .int (f_68 (kI 42) M)]) (st' := [.ref 188]) 1 rfl H
            obtain ⟨rv, h1, hc, H⟩ := pCalV 70 0 188 (as := []) (rest := []) rfl (by decide) (by decide +kernel) rfl rfl H
            obtain ⟨v2, M2, hD, H⟩ := pUseI (D_70_ok hS hc) H
            refine pG_call (x := v2) (M1 := M2) hD ?_
            replace H := pRun (ls' := [.ref 188, .int (f_68 (kI 42) M)]) (st' := [.int (kI (-1)), .int v2]) 1 rfl H
            rcases pIfc (n1 := 12) rfl (mcb_71 rfl) (mcb_71 rfl) H with ⟨g5, g0, _, H⟩ | ⟨g5, g0, _, H⟩
            · refine pG_pos (c := ¬ v2 = (kI (-1))) g5 ?_
              replace H := pRun (ls' := [.ref 188, .int (f_68 (kI 42) M)]) (st' := [.int (f_68 (kI 42) M), .ref 188]) 2 rfl H
              rcases pIf0 (n1 := 14) rfl (mcb_71 rfl) (mcb_71 rfl) H with ⟨g6, g0, _, H⟩ | ⟨g6, g0, _, H⟩
              · refine pG_pos (c := (f_68 (kI 42) M) = 0) g6 ?_
                replace H := pRun (ls' := [.ref 188, .int (f_68 (kI 42) M)]) (st' := [.int (kI 5), .ref 188]) 1 rfl H
                obtain ⟨g0, _, H⟩ := pFall (mcb_71 rfl) H
                replace H := pRun (ls' := [.ref 188, .int (f_68 (kI 42) M)]) (st' := [.int (kI 0), .int (kI 5), .ref 188]) 1 rfl H
                obtain ⟨rv, h1, hc, H⟩ := pCalV 69 2 188 (as := [.int (kI 5), .int (kI 0)]) (rest := []) rfl (by decide) (by decide +kernel) rfl rfl H
                obtain ⟨v3, M3, hD, H⟩ := pUseU (D_69_ok hS hc) H
                refine pG_call (x := v3) (M1 := M3) hD ?_
                obtain ⟨g0, _, H⟩ := pGo (n1 := 2) rfl (mcb_71 rfl) H
                exact (ih _ (by omega)) _  _ H
              · refine pG_neg (c := (f_68 (kI 42) M) = 0) g6 ?_
                replace H := pRun (ls' := [.ref 188, .int (f_68 (kI 42) M)]) (st' := [.int (kI 4), .ref 188]) 1 rfl H
                obtain ⟨g0, _, H⟩ := pGo (n1 := 15) rfl (mcb_71 rfl) H
                replace H := pRun (ls' := [.ref 188, .int (f_68 (kI 42) M)]) (st' := [.int (kI 0), .int (kI 4), .ref 188]) 1 rfl H
                obtain ⟨rv, h1, hc, H⟩ := pCalV 69 2 188 (as := [.int (kI 4), .int (kI 0)]) (rest := []) rfl (by decide) (by decide +kernel) rfl rfl H
                obtain ⟨v3, M3, hD, H⟩ := pUseU (D_69_ok hS hc) H
                refine pG_call (x := v3) (M1 := M3) hD ?_
                obtain ⟨g0, _, H⟩ := pGo (n1 := 2) rfl (mcb_71 rfl) H
                exact (ih _ (by omega)) _  _ H
            · refine pG_neg (c := ¬ v2 = (kI (-1))) g5 ?_
              replace H := pRun (ls' := [.ref 188, .int (f_68 (kI 42) M)]) (st' := [.int (kI (-1))]) 1 rfl H
              exact pG_ret (pRetI H)
          · refine pG_neg (c := ¬ (f_68 (kI 42) M) = 0) g4 ?_
            replace H := pRun (ls' := [.ref 188, .int (f_68 (kI 42) M)]) (st' := [.ref 188]) 1 rfl H
            replace H := pGetN (v := M1 188 28) rfl (by decide) H
            rcases pIf0 (n1 := 10) rfl (mcb_71 rfl) (mcb_71 rfl) H with ⟨g5, g0, _, H⟩ | ⟨g5, g0, _, H⟩
            · refine pG_pos (c := ¬ (M1 188 28) = 0) g5 ?_
              replace H := pRun (ls' := [.ref 188, .int (f_68 (kI 42) M)]) (st' := [.ref 188]) 1 rfl H
              obtain ⟨rv, h1, hc, H⟩ := pCalV 70 0 188 (as := []) (rest := []) rfl (by decide) (by decide +kernel) rfl rfl H
              obtain ⟨v2, M2, hD, H⟩ := pUseI (D_70_ok hS hc) H
              refine pG_call (x := v2) (M1 := M2) hD ?_
              replace H := pRun (ls' := [.ref 188, .int (f_68 (kI 42) M)]) (st' := [.int (kI (-1)), .int v2]) 1 rfl H
              rcases pIfc (n1 := 12) rfl (mcb_71 rfl) (mcb_71 rfl) H with ⟨g6, g0, _, H⟩ | ⟨g6, g0, _, H⟩
              · refine pG_pos (c := ¬ v2 = (kI (-1))) g6 ?_
                replace H := pRun (ls' := [.ref 188, .int (f_68 (kI 42) M)]) (st' := [.int (f_68 (kI 42) M), .ref 188]) 2 rfl H
                rcases pIf0 (n1 := 14) rfl (mcb_71 rfl) (mcb_71 rfl) H with ⟨g7, g0, _, H⟩ | ⟨g7, g0, _, H⟩
                · refine pG_pos (c := (f_68 (kI 42) M) = 0) g7 ?_
                  replace H := pRun (ls' := [.ref 188, .int (f_68 (kI 42) M)]) (st' := [.int (kI 5), .ref 188]) 1 rfl H
                  obtain ⟨g0, _, H⟩ := pFall (mcb_71 rfl) H
                  replace H := pRun (ls' := [.ref 188, .int (f_68 (kI 42) M)]) (st' := [.int (kI 0), .int (kI 5), .ref 188]) 1 rfl H
                  obtain ⟨rv, h1, hc, H⟩ := pCalV 69 2 188 (as := [.int (kI 5), .int (kI 0)]) (rest := []) rfl (by decide) (by decide +kernel) rfl rfl H
                  obtain ⟨v3, M3, hD, H⟩ := pUseU (D_69_ok hS hc) H
                  refine pG_call (x := v3) (M1 := M3) hD ?_
                  obtain ⟨g0, _, H⟩ := pGo (n1 := 2) rfl (mcb_71 rfl) H
                  exact (ih _ (by omega)) _  _ H
                · refine pG_neg (c := (f_68 (kI 42) M) = 0) g7 ?_
                  replace H := pRun (ls' := [.ref 188, .int (f_68 (kI 42) M)]) (st' := [.int (kI 4), .ref 188]) 1 rfl H
                  obtain ⟨g0, _, H⟩ := pGo (n1 := 15) rfl (mcb_71 rfl) H
                  replace H := pRun (ls' := [.ref 188, .int (f_68 (kI 42) M)]) (st' := [.int (kI 0), .int (kI 4), .ref 188]) 1 rfl H
                  obtain ⟨rv, h1, hc, H⟩ := pCalV 69 2 188 (as := [.int (kI 4), .int (kI 0)]) (rest := []) rfl (by decide) (by decide +kernel) rfl rfl H
                  obtain ⟨v3, M3, hD, H⟩ := pUseU (D_69_ok hS hc) H
                  refine pG_call (x := v3) (M1 := M3) hD ?_
                  obtain ⟨g0, _, H⟩ := pGo (n1 := 2) rfl (mcb_71 rfl) H
                  exact (ih _ (by omega)) _  _ H
              · refine pG_neg (c := ¬ v2 = (kI (-1))) g6 ?_
                replace H := pRun (ls' := [.ref 188, .int (f_68 (kI 42) M)]) (st' := [.int (kI (-1))]) 1 rfl H
                exact pG_ret (pRetI H)
            · refine pG_neg (c := ¬ (M1 188 28) = 0) g5 ?_
              replace H := pRun (ls' := [.ref 188, .int (f_68 (kI 42) M)]) (st' := [.int (kI 2), .ref 188]) 2 rfl H
              obtain ⟨rv, h1, hc, H⟩ := pCalV 66 1 188 (as := [.int (kI 2)]) (rest := []) rfl (by decide) (by decide +kernel) rfl rfl H
              obtain ⟨v2, M2, hD, H⟩ := pUseI (D_66_ok hS hc) H
              refine pG_call (x := v2) (M1 := M2) hD ?_
              exact pG_ret (pRetI H)
        · refine pG_neg (c := (M1 188 27) = (kI 3)) g3 ?_
          replace H := pRun (ls' := [.ref 188, .int (f_68 (kI 42) M)]) (st' := [.int (kI 1), .ref 188]) 2 rfl H
          obtain ⟨rv, h1, hc, H⟩ := pCalV 66 1 188 (as := [.int (kI 1)]) (rest := []) rfl (by decide) (by decide +kernel) rfl rfl H
          obtain ⟨v2, M2, hD, H⟩ := pUseI (D_66_ok hS hc) H
          refine pG_call (x := v2) (M1 := M2) hD ?_
          exact pG_ret (pRetI H)
    · refine pG_neg (c := ¬ (f_68 (kI 42) M) = 0) g1 ?_
      replace H := pRun (ls' := [.ref 188, u1]) (st' := [.int (kI 47), .ref 188]) 2 rfl H
      obtain ⟨rv, h1, hc, H⟩ := pCalV 68 1 188 (as := [.int (kI 47)]) (rest := []) rfl (by decide) (by decide +kernel) rfl rfl H
      replace H := pUseF (f_68_ok hS hc) H
      rcases pIf0 (n1 := 16) rfl (mcb_71 rfl) (mcb_71 rfl) H with ⟨g2, g0, _, H⟩ | ⟨g2, g0, _, H⟩
      · refine pG_pos (c := (f_68 (kI 47) M) = 0) g2 ?_
        replace H := pRun (ls' := [.ref 188, u1]) (st' := [.int (kI 0)]) 1 rfl H
        exact pG_ret (pRetI H)
      · refine pG_neg (c := (f_68 (kI 47) M) = 0) g2 ?_
        replace H := pRun (ls' := [.ref 188, u1]) (st' := [.int (kI 42), .ref 188]) 2 rfl H
        obtain ⟨rv, h1, hc, H⟩ := pCalV 68 1 188 (as := [.int (kI 42)]) (rest := []) rfl (by decide) (by decide +kernel) rfl rfl H
        replace H := pUseF (f_68_ok hS hc) H
        replace H := pRun (ls' := [.ref 188, .int (f_68 (kI 42) M)]) (st' := [.ref 188]) 2 rfl H
        obtain ⟨rv, h1, hc, H⟩ := pCalV 65 0 188 (as := []) (rest := []) rfl (by decide) (by decide +kernel) rfl rfl H
        obtain ⟨v1, M1, hD, H⟩ := pUseU (D_65_ok hS hc) H
        refine pG_call (x := v1) (M1 := M1) hD ?_
        replace H := pRun (ls' := [.ref 188, .int (f_68 (kI 42) M)]) (st' := [.int (f_68 (kI 42) M)]) 1 rfl H
        rcases pIf0 (n1 := 7) rfl (mcb_71 rfl) (mcb_71 rfl) H with ⟨g3, g0, _, H⟩ | ⟨g3, g0, _, H⟩
        · refine pG_pos (c := ¬ (f_68 (kI 42) M) = 0) g3 ?_
          replace H := pRun (ls' := [.ref 188, .int (f_68 (kI 42) M)]) (st' := [.int (f_68 (kI 42) M)]) 1 rfl H
          rcases pIf0 (n1 := 10) rfl (mcb_71 rfl) (mcb_71 rfl) H with ⟨g4, g0, _, H⟩ | ⟨g4, g0, _, H⟩
          · refine pG_pos (c := ¬ (f_68 (kI 42) M) = 0) g4 ?_
            replace H := pRun (ls' := [.ref 188, .int (f_68 (kI 42) M)]) (st' := [.ref 188]) 1 rfl H
            obtain ⟨rv, h1, hc, H⟩ := pCalV 70 0 188 (as := []) (rest := []) rfl (by decide) (by decide +kernel) rfl rfl H
            obtain ⟨v2, M2, hD, H⟩ := pUseI (D_70_ok hS hc) H
            refine pG_call (x := v2) (M1 := M2) hD ?_
            replace H := pRun (ls' := [.ref 188, .int (f_68 (kI 42) M)]) (st' := [.int (kI (-1)), .int v2]) 1 rfl H
            rcases pIfc (n1 := 12) rfl (mcb_71 rfl) (mcb_71 rfl) H with ⟨g5, g0, _, H⟩ | ⟨g5, g0, _, H⟩
            · refine pG_pos (c := ¬ v2 = (kI (-1))) g5 ?_
              replace H := pRun (ls' := [.ref 188, .int (f_68 (kI 42) M)]) (st' := [.int (f_68 (kI 42) M), .ref 188]) 2 rfl H
              rcases pIf0 (n1 := 14) rfl (mcb_71 rfl) (mcb_71 rfl) H with ⟨g6, g0, _, H⟩ | ⟨g6, g0, _, H⟩
              · refine pG_pos (c := (f_68 (kI 42) M) = 0) g6 ?_
                replace H := pRun (ls' := [.ref 188, .int (f_68 (kI 42) M)]) (st' := [.int (kI 5), .ref 188]) 1 rfl H
                obtain ⟨g0, _, H⟩ := pFall (mcb_71 rfl) H
                replace H := pRun (ls' := [.ref 188, .int (f_68 (kI 42) M)]) (st' := [.int (kI 0), .int (kI 5), .ref 188]) 1 rfl H
                obtain ⟨rv, h1, hc, H⟩ := pCalV 69 2 188 (as := [.int (kI 5), .int (kI 0)]) (rest := []) rfl (by decide) (by decide +kernel) rfl rfl H
                obtain ⟨v3, M3, hD, H⟩ := pUseU (D_69_ok hS hc) H
                refine pG_call (x := v3) (M1 := M3) hD ?_
                obtain ⟨g0, _, H⟩ := pGo (n1 := 2) rfl (mcb_71 rfl) H
                exact (ih _ (by omega)) _  _ H
              · refine pG_neg (c := (f_68 (kI 42) M) = 0) g6 ?_
                replace H := pRun (ls' := [.ref 188, .int (f_68 (kI 42) M)]) (st' := [.int (kI 4), .ref 188]) 1 rfl H
                obtain ⟨g0, _, H⟩ := pGo (n1 := 15) rfl (mcb_71 rfl) H
                replace H := pRun (ls' := [.ref 188, .int (f_68 (kI 42) M)]) (st' := [.int (kI 0), .int (kI 4), .ref 188]) 1 rfl H
                obtain ⟨rv, h1, hc, H⟩ := pCalV 69 2 188 (as := [.int (kI 4), .int (kI 0)]) (rest := []) rfl (by decide) (by decide +kernel) rfl rfl H
                obtain ⟨v3, M3, hD, H⟩ := pUseU (D_69_ok hS hc) H
                refine pG_call (x := v3) (M1 := M3) hD ?_
                obtain ⟨g0, _, H⟩ := pGo (n1 := 2) rfl (mcb_71 rfl) H
                exact (ih _ (by omega)) _  _ H
            · refine pG_neg (c := ¬ v2 = (kI (-1))) g5 ?_
              replace H := pRun (ls' := [.ref 188, .int (f_68 (kI 42) M)]) (st' := [.int (kI (-1))]) 1 rfl H
              exact pG_ret (pRetI H)
          · refine pG_neg (c := ¬ (f_68 (kI 42) M) = 0) g4 ?_
            replace H := pRun (ls' := [.ref 188, .int (f_68 (kI 42) M)]) (st' := [.ref 188]) 1 rfl H
            replace H := pGetN (v := M1 188 28) rfl (by decide) H
            rcases pIf0 (n1 := 10) rfl (mcb_71 rfl) (mcb_71 rfl) H with ⟨g5, g0, _, H⟩ | ⟨g5, g0, _, H⟩
            · refine pG_pos (c := ¬ (M1 188 28) = 0) g5 ?_
              replace H := pRun (ls' := [.ref 188, .int (f_68 (kI 42) M)]) (st' := [.ref 188]) 1 rfl H
              obtain ⟨rv, h1, hc, H⟩ := pCalV 70 0 188 (as := []) (rest := []) rfl (by decide) (by decide +kernel) rfl rfl H
              obtain ⟨v2, M2, hD, H⟩ := pUseI (D_70_ok hS hc) H
              refine pG_call (x := v2) (M1 := M2) hD ?_
              replace H := pRun (ls' := [.ref 188, .int (f_68 (kI 42) M)]) (st' := [.int (kI (-1)), .int v2]) 1 rfl H
              rcases pIfc (n1 := 12) rfl (mcb_71 rfl) (mcb_71 rfl) H with ⟨g6, g0, _, H⟩ | ⟨g6, g0, _, H⟩
              · refine pG_pos (c := ¬ v2 = (kI (-1))) g6 ?_
                replace H := pRun (ls' := [.ref 188, .int (f_68 (kI 42) M)]) (st' := [.int (f_68 (kI 42) M), .ref 188]) 2 rfl H
                rcases pIf0 (n1 := 14) rfl (mcb_71 rfl) (mcb_71 rfl) H with ⟨g7, g0, _, H⟩ | ⟨g7, g0, _, H⟩
                · refine pG_pos (c := (f_68 (kI 42) M) = 0) g7 ?_
                  replace H := pRun (ls' := [.ref 188, .int (f_68 (kI 42) M)]) (st' := [.int (kI 5), .ref 188]) 1 rfl H
                  obtain ⟨g0, _, H⟩ := pFall (mcb_71 rfl) H
                  replace H := pRun (ls' := [.ref 188, .int (f_68 (kI 42) M)]) (st' := [.int (kI 0), .int (kI 5), .ref 188]) 1 rfl H
                  obtain ⟨rv, h1, hc, H⟩ := pCalV 69 2 188 (as := [.int (kI 5), .int (kI 0)]) (rest := []) rfl (by decide) (by decide +kernel) rfl rfl H
                  obtain ⟨v3, M3, hD, H⟩ := pUseU (D_69_ok hS hc) H
                  refine pG_call (x := v3) (M1 := M3) hD ?_
                  obtain ⟨g0, _, H⟩ := pGo (n1 := 2) rfl (mcb_71 rfl) H
                  exact (ih _ (by omega)) _  _ H
                · refine pG_neg (c := (f_68 (kI 42) M) = 0) g7 ?_
                  replace H := pRun (ls' := [.ref 188, .int (f_68 (kI 42) M)]) (st' := [.int (kI 4), .ref 188]) 1 rfl H
                  obtain ⟨g0, _, H⟩ := pGo (n1 := 15) rfl (mcb_71 rfl) H
                  replace H := pRun (ls' := [.ref 188, .int (f_68 (kI 42) M)]) (st' := [.int (kI 0), .int (kI 4), .ref 188]) 1 rfl H
                  obtain ⟨rv, h1, hc, H⟩ := pCalV 69 2 188 (as := [.int (kI 4), .int (kI 0)]) (rest := []) rfl (by decide) (by decide +kernel) rfl rfl H
                  obtain ⟨v3, M3, hD, H⟩ := pUseU (D_69_ok hS hc) H
                  refine pG_call (x := v3) (M1 := M3) hD ?_
                  obtain ⟨g0, _, H⟩ := pGo (n1 := 2) rfl (mcb_71 rfl) H
                  exact (ih _ (by omega)) _  _ H
              · refine pG_neg (c := ¬ v2 = (kI (-1))) g6 ?_
                replace H := pRun (ls' := [.ref 188, .int (f_68 (kI 42) M)]) (st' := [.int (kI (-1))]) 1 rfl H
                exact pG_ret (pRetI H)
            · refine pG_neg (c := ¬ (M1 188 28) = 0) g5 ?_
              replace H := pRun (ls' := [.ref 188, .int (f_68 (kI 42) M)]) (st' := [.int (kI 2), .ref 188]) 2 rfl H
              obtain ⟨rv, h1, hc, H⟩ := pCalV 66 1 188 (as := [.int (kI 2)]) (rest := []) rfl (by decide) (by decide +kernel) rfl rfl H
              obtain ⟨v2, M2, hD, H⟩ := pUseI (D_66_ok hS hc) H
              refine pG_call (x := v2) (M1 := M2) hD ?_
              exact pG_ret (pRetI H)
        · refine pG_neg (c := ¬ (f_68 (kI 42) M) = 0) g3 ?_
          replace H := pRun (ls' := [.ref 188, .int (f_68 (kI 42) M)]) (st' := [.ref 188]) 1 rfl H
          replace H := pGetN (v := M1 188 27) rfl (by decide) H
          replace H := pRun (ls' := [.ref 188, .int (f_68 (kI 42) M)]) (st' := [.int (kI 3), .int (M1 188 27)]) 1 rfl H
          rcases pIfc (n1 := 7) rfl (mcb_71 rfl) (mcb_71 rfl) H with ⟨g4, g0, _, H⟩ | ⟨g4, g0, _, H⟩
          · refine pG_pos (c := (M1 188 27) = (kI 3)) g4 ?_
            replace H := pRun (ls' := [.ref 188, .int (f_68 (kI 42) M)]) (st' := [.int (f_68 (kI 42) M)]) 1 rfl H
            rcases pIf0 (n1 := 10) rfl (mcb_71 rfl) (mcb_71 rfl) H with ⟨g5, g0, _, H⟩ | ⟨g5, g0, _, H⟩
            · refine pG_pos (c := ¬ (f_68 (kI 42) M) = 0) g5 ?_
              replace H := pRun (ls' := [.ref 188, .int (f_68 (kI 42) M)]) (st' := [.ref 188]) 1 rfl H
              obtain ⟨rv, h1, hc, H⟩ := pCalV 70 0 188 (as := []) (rest := []) rfl (by decide) (by decide +kernel) rfl rfl H
              obtain ⟨v2, M2, hD, H⟩ := pUseI (D_70_ok hS hc) H
              refine pG_call (x := v2) (M1 := M2) hD ?_
              replace H := pRun (ls' := [.ref 188, .int (f_68 (kI 42) M)]) (st' := [.int (kI (-1)), .int v2]) 1 rfl H
              rcases pIfc (n1 := 12) rfl (mcb_71 rfl) (mcb_71 rfl) H with ⟨g6, g0, _, H⟩ | ⟨g6, g0, _, H⟩
              · refine pG_pos (c := ¬ v2 = (kI (-1))) g6 ?_
                replace H := pRun (ls' := [.ref 188, .int (f_68 (kI 42) M)]) (st' := [.int (f_68 (kI 42) M), .ref 188]) 2 rfl H
                rcases pIf0 (n1 := 14) rfl (mcb_71 rfl) (mcb_71 rfl) H with ⟨g7, g0, _, H⟩ | ⟨g7, g0, _, H⟩
                · refine pG_pos (c := (f_68 (kI 42) M) = 0) g7 ?_
                  replace H := pRun (ls' := [.ref 188, .int (f_68 (kI 42) M)]) (st' := [.int (kI 5), .ref 188]) 1 rfl H
                  obtain ⟨g0, _, H⟩ := pFall (mcb_71 rfl) H
                  replace H := pRun (ls' := [.ref 188, .int (f_68 (kI 42) M)]) (st' := [.int (kI 0), .int (kI 5), .ref 188]) 1 rfl H
                  obtain ⟨rv, h1, hc, H⟩ := pCalV 69 2 188 (as := [.int (kI 5), .int (kI 0)]) (rest := []) rfl (by decide) (by decide +kernel) rfl rfl H
                  obtain ⟨v3, M3, hD, H⟩ := pUseU (D_69_ok hS hc) H
                  refine pG_call (x := v3) (M1 := M3) hD ?_
                  obtain ⟨g0, _, H⟩ := pGo (n1 := 2) rfl (mcb_71 rfl) H
                  exact (ih _ (by omega)) _  _ H
                · refine pG_neg (c := (f_68 (kI 42) M) = 0) g7 ?_
                  replace H := pRun (ls' := [.ref 188, .int (f_68 (kI 42) M)]) (st' := [.int (kI 4), .ref 188]) 1 rfl H
                  obtain ⟨g0, _, H⟩ := pGo (n1 := 15) rfl (mcb_71 rfl) H
                  replace H := pRun (ls' := [.ref 188, .int (f_68 (kI 42) M)]) (st' := [.int (kI 0), .int (kI 4), .ref 188]) 1 rfl H
                  obtain ⟨rv, h1, hc, H⟩ := pCalV 69 2 188 (as := [.int (kI 4), .int (kI 0)]) (rest := []) rfl (by decide) (by decide +kernel) rfl rfl H
                  obtain ⟨v3, M3, hD, H⟩ := pUseU (D_69_ok hS hc) H
                  refine pG_call (x := v3) (M1 := M3) hD ?_
                  obtain ⟨g0, _, H⟩ := pGo (n1 := 2) rfl (mcb_71 rfl) H
                  exact (ih _ (by omega)) _  _ H
              · refine pG_neg (c := ¬ v2 = (kI (-1))) g6 ?_
                replace H := pRun (ls' := [.ref 188, .int (f_68 (kI 42) M)]) (st' := [.int (kI (-1))]) 1 rfl H
                exact pG_ret (pRetI H)
            · refine pG_neg (c := ¬ (f_68 (kI 42) M) = 0) g5 ?_
              replace H := pRun (ls' := [.ref 188, .int (f_68 (kI 42) M)]) (st' := [.ref 188]) 1 rfl H
              replace H := pGetN (v := M1 188 28) rfl (by decide) H
              rcases pIf0 (n1 := 10) rfl (mcb_71 rfl) (mcb_71 rfl) H with ⟨g6, g0, _, H⟩ | ⟨g6, g0, _, H⟩
              · refine pG_pos (c := ¬ (M1 188 28) = 0) g6 ?_
                replace H := pRun (ls' := [.ref 188, .int (f_68 (kI 42) M)]) (st' := [.ref 188]) 1 rfl H
                obtain ⟨rv, h1, hc, H⟩ := pCalV 70 0 188 (as := []) (rest := []) rfl (by decide) (by decide +kernel) rfl rfl H
                obtain ⟨v2, M2, hD, H⟩ := pUseI (D_70_ok hS hc) H
                refine pG_call (x := v2) (M1 := M2) hD ?_
                replace H := pRun (ls' := [.ref 188, .int (f_68 (kI 42) M)]) (st' := [.int (kI (-1)), .int v2]) 1 rfl H
                rcases pIfc (n1 := 12) rfl (mcb_71 rfl) (mcb_71 rfl) H with ⟨g7, g0, _, H⟩ | ⟨g7, g0, _, H⟩
                · refine pG_pos (c := ¬ v2 = (kI (-1))) g7 ?_
                  replace H := pRun (ls' := [.ref 188, .int (f_68 (kI 42) M)]) (st' := [.int (f_68 (kI 42) M), .ref 188]) 2 rfl H
                  rcases pIf0 (n1 := 14) rfl (mcb_71 rfl) (mcb_71 rfl) H with ⟨g8, g0, _, H⟩ | ⟨g8, g0, _, H⟩
                  · refine pG_pos (c := (f_68 (kI 42) M) = 0) g8 ?_
                    replace H := pRun (ls' := [.ref 188, .int (f_68 (kI 42) M)]) (st' := [.int (kI 5), .ref 188]) 1 rfl H
                    obtain ⟨g0, _, H⟩ := pFall (mcb_71 rfl) H
                    replace H := pRun (ls' := [.ref 188, .int (f_68 (kI 42) M)]) (st' := [.int (kI 0), .int (kI 5), .ref 188]) 1 rfl H
                    obtain ⟨rv, h1, hc, H⟩ := pCalV 69 2 188 (as := [.int (kI 5), .int (kI 0)]) (rest := []) rfl (by decide) (by decide +kernel) rfl rfl H
                    obtain ⟨v3, M3, hD, H⟩ := pUseU (D_69_ok hS hc) H
                    refine pG_call (x := v3) (M1 := M3) hD ?_
                    obtain ⟨g0, _, H⟩ := pGo (n1 := 2) rfl (mcb_71 rfl) H
                    exact (ih _ (by omega)) _  _ H
                  · refine pG_neg (c := (f_68 (kI 42) M) = 0) g8 ?_
                    replace H := pRun (ls' := [.ref 188, .int (f_68 (kI 42) M)]) (st' := [.int (kI 4), .ref 188]) 1 rfl H
                    obtain ⟨g0, _, H⟩ := pGo (n1 := 15) rfl (mcb_71 rfl) H
                    replace H := pRun (ls' := [.ref 188, .int (f_68 (kI 42) M)]) (st' := [.int (kI 0), .int (kI 4), .ref 188]) 1 rfl H
                    obtain ⟨rv, h1, hc, H⟩ := pCalV 69 2 188 (as := [.int (kI 4), .int (kI 0)]) (rest := []) rfl (by decide) (by decide +kernel) rfl rfl H
                    obtain ⟨v3, M3, hD, H⟩ := pUseU (D_69_ok hS hc) H
                    refine pG_call (x := v3) (M1 := M3) hD ?_
                    obtain ⟨g0, _, H⟩ := pGo (n1 := 2) rfl (mcb_71 rfl) H
                    exact (ih _ (by omega)) _  _ H
                · refine pG_neg (c := ¬ v2 = (kI (-1))) g7 ?_
                  replace H := pRun (ls' := [.ref 188, .int (f_68 (kI 42) M)]) (st' := [.int (kI (-1))]) 1 rfl H
                  exact pG_ret (pRetI H)
              · refine pG_neg (c := ¬ (M1 188 28) = 0) g6 ?_
                replace H := pRun (ls' := [.ref 188, .int (f_68 (kI 42) M)]) (st' := [.int (kI 2), .ref 188]) 2 rfl H
                obtain ⟨rv, h1, hc, H⟩ := pCalV 66 1 188 (as := [.int (kI 2)]) (rest := []) rfl (by decide) (by decide +kernel) rfl rfl H
                obtain ⟨v2, M2, hD, H⟩ := pUseI (D_66_ok hS hc) H
                refine pG_call (x := v2) (M1 := M2) hD ?_
                exact pG_ret (pRetI H)
          · refine pG_neg (c := (M1 188 27) = (kI 3)) g4 ?_
            replace H := pRun (ls' := [.ref 188, .int (f_68 (kI 42) M)]) (st' := [.int (kI 1), .ref 188]) 2 rfl H
            obtain ⟨rv, h1, hc, H⟩ := pCalV 66 1 188 (as := [.int (kI 1)]) (rest := []) rfl (by decide) (by decide +kernel) rfl rfl H
            obtain ⟨v2, M2, hD, H⟩ := pUseI (D_66_ok hS hc) H
            refine pG_call (x := v2) (M1 := M2) hD ?_
            exact pG_ret (pRetI H)
theorem L_71_2_ok {X : aX} {F d : Nat} {K : Nat → aK} (hS : pS K) {out : Option Value × aH} {f : Nat} {u1 : Value} {M : pMem} (H : pm X F d 71 f 2 [.aload 0, .bipush 42, .invokevirtual 1580068, .ifCond .ne 4] [.ref 188, u1] [] (pH K M) out) : pG eI K out (L_71_2 M) := by
  refine pG_all (C := fun P : (pMem → pT Int32) => C_71 P) (T := fun P => P M) eI_inj (fun _ _ _ => True) ?_ (fun P hP => (K_71 hS P hP f) _ _ H)
  exact (fun _ _ _ _ => trivial)
theorem D_71_ok {X : aX} {F d : Nat} {K : Nat → aK} (hS : pS K) {M : pMem} {out : Option Value × aH} (H : aM X F d 71 [.ref 188] (pH K M) = some out) : pG eI K out (D_71 M) := by
  obtain ⟨d', g0, _, H⟩ := pEnt (n := 2) (ls := [.ref 188, aD]) (mcb_71 rfl) (by decide +kernel) rfl H
  unfold D_71
  replace H := pRun (ls' := [.ref 188, aD]) (st' := [.ref 188]) 1 rfl H
  obtain ⟨rv, h1, hc, H⟩ := pCalV 70 0 188 (as := []) (rest := []) rfl (by decide) (by decide +kernel) rfl rfl H
  obtain ⟨v1, M1, hD, H⟩ := pUseI (D_70_ok hS hc) H
  refine pG_call (x := v1) (M1 := M1) hD ?_
  replace H := pRun (ls' := [.ref 188, aD]) (st' := [.int (kI (-1)), .int v1]) 1 rfl H
  rcases pIfc (n1 := 2) rfl (mcb_71 rfl) (mcb_71 rfl) H with ⟨g1, g0, _, H⟩ | ⟨g1, g0, _, H⟩
  · refine pG_pos (c := ¬ v1 = (kI (-1))) g1 ?_
    exact L_71_2_ok hS  H
  · refine pG_neg (c := ¬ v1 = (kI (-1))) g1 ?_
    replace H := pRun (ls' := [.ref 188, aD]) (st' := [.int (kI (-1))]) 1 rfl H
    exact pG_ret (pRetI H)
def l_71 : List (Nat × Nat) := [(210, 999), (211, 999), (188, 38), (188, 25), (188, 26), (188, 27), (188, 28), (188, 42), (188, 43)]
theorem FC_71 : C_71 (fun M _ N => pFr (l_71) M N) := fun M => show pTf (l_71) M (S_71_2 _ M) from (tf_if (tf_call pFr_refl (fun _ _ h => F_65 h) [3, 4, 5, 6] rfl fun _ M1 f1 => (tf_if (tf_if (tf_call f1 (fun _ _ h => F_70 h) [0, 1, 2, 3, 4, 5, 6, 7, 8] rfl fun _ M2 f2 => (tf_if (tf_if (tf_call f2 (fun _ _ h => F_69 h) [0, 1, 2] rfl fun _ M3 f3 => (tf_jump f3)) (tf_call f2 (fun _ _ h => F_69 h) [0, 1, 2] rfl fun _ M3 f3 => (tf_jump f3))) (tf_ret f2))) (tf_if (tf_call f1 (fun _ _ h => F_70 h) [0, 1, 2, 3, 4, 5, 6, 7, 8] rfl fun _ M2 f2 => (tf_if (tf_if (tf_call f2 (fun _ _ h => F_69 h) [0, 1, 2] rfl fun _ M3 f3 => (tf_jump f3)) (tf_call f2 (fun _ _ h => F_69 h) [0, 1, 2] rfl fun _ M3 f3 => (tf_jump f3))) (tf_ret f2))) (tf_call f1 (fun _ _ h => F_66 h) [7, 8] rfl fun _ M2 f2 => (tf_ret f2)))) (tf_if (tf_if (tf_call f1 (fun _ _ h => F_70 h) [0, 1, 2, 3, 4, 5, 6, 7, 8] rfl fun _ M2 f2 => (tf_if (tf_if (tf_call f2 (fun _ _ h => F_69 h) [0, 1, 2] rfl fun _ M3 f3 => (tf_jump f3)) (tf_call f2 (fun _ _ h => F_69 h) [0, 1, 2] rfl fun _ M3 f3 => (tf_jump f3))) (tf_ret f2))) (tf_if (tf_call f1 (fun _ _ h => F_70 h) [0, 1, 2, 3, 4, 5, 6, 7, 8] rfl fun _ M2 f2 => (tf_if (tf_if (tf_call f2 (fun _ _ h => F_69 h) [0, 1, 2] rfl fun _ M3 f3 => (tf_jump f3)) (tf_call f2 (fun _ _ h => F_69 h) [0, 1, 2] rfl fun _ M3 f3 => (tf_jump f3))) (tf_ret f2))) (tf_call f1 (fun _ _ h => F_66 h) [7, 8] rfl fun _ M2 f2 => (tf_ret f2)))) (tf_call f1 (fun _ _ h => F_66 h) [7, 8] rfl fun _ M2 f2 => (tf_ret f2))))) (tf_if (tf_ret pFr_refl) (tf_call pFr_refl (fun _ _ h => F_65 h) [3, 4, 5, 6] rfl fun _ M1 f1 => (tf_if (tf_if (tf_call f1 (fun _ _ h => F_70 h) [0, 1, 2, 3, 4, 5, 6, 7, 8] rfl fun _ M2 f2 => (tf_if (tf_if (tf_call f2 (fun _ _ h => F_69 h) [0, 1, 2] rfl fun _ M3 f3 => (tf_jump f3)) (tf_call f2 (fun _ _ h => F_69 h) [0, 1, 2] rfl fun _ M3 f3 => (tf_jump f3))) (tf_ret f2))) (tf_if (tf_call f1 (fun _ _ h => F_70 h) [0, 1, 2, 3, 4, 5, 6, 7, 8] rfl fun _ M2 f2 => (tf_if (tf_if (tf_call f2 (fun _ _ h => F_69 h) [0, 1, 2] rfl fun _ M3 f3 => (tf_jump f3)) (tf_call f2 (fun _ _ h => F_69 h) [0, 1, 2] rfl fun _ M3 f3 => (tf_jump f3))) (tf_ret f2))) (tf_call f1 (fun _ _ h => F_66 h) [7, 8] rfl fun _ M2 f2 => (tf_ret f2)))) (tf_if (tf_if (tf_call f1 (fun _ _ h => F_70 h) [0, 1, 2, 3, 4, 5, 6, 7, 8] rfl fun _ M2 f2 => (tf_if (tf_if (tf_call f2 (fun _ _ h => F_69 h) [0, 1, 2] rfl fun _ M3 f3 => (tf_jump f3)) (tf_call f2 (fun _ _ h => F_69 h) [0, 1, 2] rfl fun _ M3 f3 => (tf_jump f3))) (tf_ret f2))) (tf_if (tf_call f1 (fun _ _ h => F_70 h) [0, 1, 2, 3, 4, 5, 6, 7, 8] rfl fun _ M2 f2 => (tf_if (tf_if (tf_call f2 (fun _ _ h => F_69 h) [0, 1, 2] rfl fun _ M3 f3 => (tf_jump f3)) (tf_call f2 (fun _ _ h => F_69 h) [0, 1, 2] rfl fun _ M3 f3 => (tf_jump f3))) (tf_ret f2))) (tf_call f1 (fun _ _ h => F_66 h) [7, 8] rfl fun _ M2 f2 => (tf_ret f2)))) (tf_call f1 (fun _ _ h => F_66 h) [7, 8] rfl fun _ M2 f2 => (tf_ret f2)))))))
theorem F_71 {M : pMem} {v : Int32} {N : pMem} (h : D_71 M v N) : pFr (l_71) M N :=
  (show pTf (l_71) M (D_71 M) from (tf_call pFr_refl (fun _ _ h => F_70 h) [0, 1, 2, 3, 4, 5, 6, 7, 8] rfl fun _ M1 f1 => (tf_if (tf_jumpL (fun M _ N => pFr (l_71) M N) (FC_71) rfl f1) (tf_ret f1)))) v N h
/-- TwoCampsModel.readSum()I -/
def S_72_2 (P2 : pMem → pT Int32) (M : pMem) : pT Int32 := tIf (¬ (f_68 (kI 43) M) = 0) (tIf (¬ (M 188 28) = (kI 43)) (tCall (D_65 M) fun _ M1 => tCall (D_71 M1) fun v2 M2 => tIf (¬ v2 = (kI (-1))) (tCall (D_69 (kI 3) (kI 0) M2) fun _ M3 => P2 M3) (tRet (kI (-1)) M2)) (tCall (D_65 M) fun _ M1 => tCall (D_71 M1) fun v2 M2 => tIf (¬ v2 = (kI (-1))) (tCall (D_69 (kI 2) (kI 0) M2) fun _ M3 => P2 M3) (tRet (kI (-1)) M2))) (tIf ((f_68 (kI 45) M) = 0) (tRet (kI 0) M) (tIf (¬ (M 188 28) = (kI 43)) (tCall (D_65 M) fun _ M1 => tCall (D_71 M1) fun v2 M2 => tIf (¬ v2 = (kI (-1))) (tCall (D_69 (kI 3) (kI 0) M2) fun _ M3 => P2 M3) (tRet (kI (-1)) M2)) (tCall (D_65 M) fun _ M1 => tCall (D_71 M1) fun v2 M2 => tIf (¬ v2 = (kI (-1))) (tCall (D_69 (kI 2) (kI 0) M2) fun _ M3 => P2 M3) (tRet (kI (-1)) M2))))
def C_72 (P2 : pMem → pT Int32) : Prop := (∀ M v N, S_72_2 P2 M v N → P2 M v N)
def L_72_2 (M : pMem) : pT Int32 := fun v N => ∀ P : (pMem → pT Int32), C_72 P → P M v N
def D_72 (M : pMem) : pT Int32 := tCall (D_71 M) fun v1 M1 => tIf (¬ v1 = (kI (-1))) (L_72_2 M1) (tRet (kI (-1)) M1)
theorem K_72 {X : aX} {F d : Nat} {K : Nat → aK} (hS : pS K) {out : Option Value × aH} (P2 : pMem → pT Int32) (hC : C_72 P2) : ∀ f, (∀ (u1 : Value) M, pm X F d 72 f 2 [.aload 0, .bipush 43, .invokevirtual 1580068, .ifCond .ne 4] [.ref 188, u1] [] (pH K M) out → pG eI K out (P2 M)) := by
  intro f
  induction f using Nat.strongRecOn with
  | _ f ih =>
    intro u1 M H
    refine pG_mono (fun v N h => hC M v N h) ?_
    unfold S_72_2
    replace H := pRun (ls' := [.ref 188, u1]) (st' := [.int (kI 43), .ref 188]) 2 rfl H
    obtain ⟨rv, h1, hc, H⟩ := pCalV 68 1 188 (as := [.int (kI 43)]) (rest := []) rfl (by decide) (by decide +kernel) rfl rfl H
    replace H := pUseF (f_68_ok hS hc) H
    rcases pIf0 (n1 := 4) rfl (mcb_72 rfl) (mcb_72 rfl) H with ⟨g1, g0, _, H⟩ | ⟨g1, g0, _, H⟩
    · refine pG_pos (c := ¬ (f_68 (kI 43) M) = 0) g1 ?_
      replace H := pRun (ls' := [.ref 188, u1]) (st' := [.ref 188]) 1 rfl H
      replace H := pGetN (v := M 188 28) rfl (by decide) H
      replace H := pRun (ls' := [.ref 188, u1]) (st' := [.int (kI 43), .int (M 188 28)]) 1 rfl H
      rcases pIfc (n1 := 6) rfl (mcb_72 rfl) (mcb_72 rfl) H with ⟨g2, g0, _, H⟩ | ⟨g2, g0, _, H⟩
      · refine pG_pos (c := ¬ (M 188 28) = (kI 43)) g2 ?_
        replace H := pRun (ls' := [.ref 188, u1]) (st' := [.int (kI 3)]) 1 rfl H
        obtain ⟨g0, _, H⟩ := pFall (mcb_72 rfl) H
        replace H := pRun (ls' := [.ref 188, .int (kI 3)]) (st' := [.ref 188]) 2 rfl H
        obtain ⟨rv, h1, hc, H⟩ := pCalV 65 0 188 (as := []) (rest := []) rfl (by decide) (by decide +kernel) rfl rfl H
        obtain ⟨v1, M1, hD, H⟩ := pUseU (D_65_ok hS hc) H
        refine pG_call (x := v1) (M1 := M1) hD ?_
        replace H := pRun (ls' := [.ref 188, .int (kI 3)]) (st' := [.ref 188]) 1 rfl H
        obtain ⟨rv, h1, hc, H⟩ := pCalV 71 0 188 (as := []) (rest := []) rfl (by decide) (by decide +kernel) rfl rfl H
        obtain ⟨v2, M2, hD, H⟩ := pUseI (D_71_ok hS hc) H
        refine pG_call (x := v2) (M1 := M2) hD ?_
        replace H := pRun (ls' := [.ref 188, .int (kI 3)]) (st' := [.int (kI (-1)), .int v2]) 1 rfl H
        rcases pIfc (n1 := 9) rfl (mcb_72 rfl) (mcb_72 rfl) H with ⟨g3, g0, _, H⟩ | ⟨g3, g0, _, H⟩
        · refine pG_pos (c := ¬ v2 = (kI (-1))) g3 ?_
          replace H := pRun (ls' := [.ref 188, .int (kI 3)]) (st' := [.int (kI 0), .int (kI 3), .ref 188]) 3 rfl H
          obtain ⟨rv, h1, hc, H⟩ := pCalV 69 2 188 (as := [.int (kI 3), .int (kI 0)]) (rest := []) rfl (by decide) (by decide +kernel) rfl rfl H
          obtain ⟨v3, M3, hD, H⟩ := pUseU (D_69_ok hS hc) H
          refine pG_call (x := v3) (M1 := M3) hD ?_
          obtain ⟨g0, _, H⟩ := pGo (n1 := 2) rfl (mcb_72 rfl) H
          exact (ih _ (by omega)) _  _ H
        · refine pG_neg (c := ¬ v2 = (kI (-1))) g3 ?_
          replace H := pRun (ls' := [.ref 188, .int (kI 3)]) (st' := [.int (kI (-1))]) 1 rfl H
          exact pG_ret (pRetI H)
      · refine pG_neg (c := ¬ (M 188 28) = (kI 43)) g2 ?_
        replace H := pRun (ls' := [.ref 188, u1]) (st' := [.int (kI 2)]) 1 rfl H
        obtain ⟨g0, _, H⟩ := pGo (n1 := 7) rfl (mcb_72 rfl) H
        replace H := pRun (ls' := [.ref 188, .int (kI 2)]) (st' := [.ref 188]) 2 rfl H
        obtain ⟨rv, h1, hc, H⟩ := pCalV 65 0 188 (as := []) (rest := []) rfl (by decide) (by decide +kernel) rfl rfl H
        obtain ⟨v1, M1, hD, H⟩ := pUseU (D_65_ok hS hc) H
        refine pG_call (x := v1) (M1 := M1) hD ?_
        replace H := pRun (ls' := [.ref 188, .int (kI 2)]) (st' := [.ref 188]) 1 rfl H
        obtain ⟨rv, h1, hc, H⟩ := pCalV 71 0 188 (as := []) (rest := []) rfl (by decide) (by decide +kernel) rfl rfl H
        obtain ⟨v2, M2, hD, H⟩ := pUseI (D_71_ok hS hc) H
        refine pG_call (x := v2) (M1 := M2) hD ?_
        replace H := pRun (ls' := [.ref 188, .int (kI 2)]) (st' := [.int (kI (-1)), .int v2]) 1 rfl H
        rcases pIfc (n1 := 9) rfl (mcb_72 rfl) (mcb_72 rfl) H with ⟨g3, g0, _, H⟩ | ⟨g3, g0, _, H⟩
        · refine pG_pos (c := ¬ v2 = (kI (-1))) g3 ?_
          replace H := pRun (ls' := [.ref 188, .int (kI 2)]) (st' := [.int (kI 0), .int (kI 2), .ref 188]) 3 rfl H
          obtain ⟨rv, h1, hc, H⟩ := pCalV 69 2 188 (as := [.int (kI 2), .int (kI 0)]) (rest := []) rfl (by decide) (by decide +kernel) rfl rfl H
          obtain ⟨v3, M3, hD, H⟩ := pUseU (D_69_ok hS hc) H
          refine pG_call (x := v3) (M1 := M3) hD ?_
          obtain ⟨g0, _, H⟩ := pGo (n1 := 2) rfl (mcb_72 rfl) H
          exact (ih _ (by omega)) _  _ H
        · refine pG_neg (c := ¬ v2 = (kI (-1))) g3 ?_
          replace H := pRun (ls' := [.ref 188, .int (kI 2)]) (st' := [.int (kI (-1))]) 1 rfl H
          exact pG_ret (pRetI H)
    · refine pG_neg (c := ¬ (f_68 (kI 43) M) = 0) g1 ?_
      replace H := pRun (ls' := [.ref 188, u1]) (st' := [.int (kI 45), .ref 188]) 2 rfl H
      obtain ⟨rv, h1, hc, H⟩ := pCalV 68 1 188 (as := [.int (kI 45)]) (rest := []) rfl (by decide) (by decide +kernel) rfl rfl H
      replace H := pUseF (f_68_ok hS hc) H
      rcases pIf0 (n1 := 10) rfl (mcb_72 rfl) (mcb_72 rfl) H with ⟨g2, g0, _, H⟩ | ⟨g2, g0, _, H⟩
      · refine pG_pos (c := (f_68 (kI 45) M) = 0) g2 ?_
        replace H := pRun (ls' := [.ref 188, u1]) (st' := [.int (kI 0)]) 1 rfl H
        exact pG_ret (pRetI H)
      · refine pG_neg (c := (f_68 (kI 45) M) = 0) g2 ?_
        replace H := pRun (ls' := [.ref 188, u1]) (st' := [.ref 188]) 1 rfl H
        replace H := pGetN (v := M 188 28) rfl (by decide) H
        replace H := pRun (ls' := [.ref 188, u1]) (st' := [.int (kI 43), .int (M 188 28)]) 1 rfl H
        rcases pIfc (n1 := 6) rfl (mcb_72 rfl) (mcb_72 rfl) H with ⟨g3, g0, _, H⟩ | ⟨g3, g0, _, H⟩
        · refine pG_pos (c := ¬ (M 188 28) = (kI 43)) g3 ?_
          replace H := pRun (ls' := [.ref 188, u1]) (st' := [.int (kI 3)]) 1 rfl H
          obtain ⟨g0, _, H⟩ := pFall (mcb_72 rfl) H
          replace H := pRun (ls' := [.ref 188, .int (kI 3)]) (st' := [.ref 188]) 2 rfl H
          obtain ⟨rv, h1, hc, H⟩ := pCalV 65 0 188 (as := []) (rest := []) rfl (by decide) (by decide +kernel) rfl rfl H
          obtain ⟨v1, M1, hD, H⟩ := pUseU (D_65_ok hS hc) H
          refine pG_call (x := v1) (M1 := M1) hD ?_
          replace H := pRun (ls' := [.ref 188, .int (kI 3)]) (st' := [.ref 188]) 1 rfl H
          obtain ⟨rv, h1, hc, H⟩ := pCalV 71 0 188 (as := []) (rest := []) rfl (by decide) (by decide +kernel) rfl rfl H
          obtain ⟨v2, M2, hD, H⟩ := pUseI (D_71_ok hS hc) H
          refine pG_call (x := v2) (M1 := M2) hD ?_
          replace H := pRun (ls' := [.ref 188, .int (kI 3)]) (st' := [.int (kI (-1)), .int v2]) 1 rfl H
          rcases pIfc (n1 := 9) rfl (mcb_72 rfl) (mcb_72 rfl) H with ⟨g4, g0, _, H⟩ | ⟨g4, g0, _, H⟩
          · refine pG_pos (c := ¬ v2 = (kI (-1))) g4 ?_
            replace H := pRun (ls' := [.ref 188, .int (kI 3)]) (st' := [.int (kI 0), .int (kI 3), .ref 188]) 3 rfl H
            obtain ⟨rv, h1, hc, H⟩ := pCalV 69 2 188 (as := [.int (kI 3), .int (kI 0)]) (rest := []) rfl (by decide) (by decide +kernel) rfl rfl H
            obtain ⟨v3, M3, hD, H⟩ := pUseU (D_69_ok hS hc) H
            refine pG_call (x := v3) (M1 := M3) hD ?_
            obtain ⟨g0, _, H⟩ := pGo (n1 := 2) rfl (mcb_72 rfl) H
            exact (ih _ (by omega)) _  _ H
          · refine pG_neg (c := ¬ v2 = (kI (-1))) g4 ?_
            replace H := pRun (ls' := [.ref 188, .int (kI 3)]) (st' := [.int (kI (-1))]) 1 rfl H
            exact pG_ret (pRetI H)
        · refine pG_neg (c := ¬ (M 188 28) = (kI 43)) g3 ?_
          replace H := pRun (ls' := [.ref 188, u1]) (st' := [.int (kI 2)]) 1 rfl H
          obtain ⟨g0, _, H⟩ := pGo (n1 := 7) rfl (mcb_72 rfl) H
          replace H := pRun (ls' := [.ref 188, .int (kI 2)]) (st' := [.ref 188]) 2 rfl H
          obtain ⟨rv, h1, hc, H⟩ := pCalV 65 0 188 (as := []) (rest := []) rfl (by decide) (by decide +kernel) rfl rfl H
          obtain ⟨v1, M1, hD, H⟩ := pUseU (D_65_ok hS hc) H
          refine pG_call (x := v1) (M1 := M1) hD ?_
          replace H := pRun (ls' := [.ref 188, .int (kI 2)]) (st' := [.ref 188]) 1 rfl H
          obtain ⟨rv, h1, hc, H⟩ := pCalV 71 0 188 (as := []) (rest := []) rfl (by decide) (by decide +kernel) rfl rfl H
          obtain ⟨v2, M2, hD, H⟩ := pUseI (D_71_ok hS hc) H
          refine pG_call (x := v2) (M1 := M2) hD ?_
          replace H := pRun (ls' := [.ref 188, .int (kI 2)]) (st' := [.int (kI (-1)), .int v2]) 1 rfl H
          rcases pIfc (n1 := 9) rfl (mcb_72 rfl) (mcb_72 rfl) H with ⟨g4, g0, _, H⟩ | ⟨g4, g0, _, H⟩
          · refine pG_pos (c := ¬ v2 = (kI (-1))) g4 ?_
            replace H := pRun (ls' := [.ref 188, .int (kI 2)]) (st' := [.int (kI 0), .int (kI 2), .ref 188]) 3 rfl H
            obtain ⟨rv, h1, hc, H⟩ := pCalV 69 2 188 (as := [.int (kI 2), .int (kI 0)]) (rest := []) rfl (by decide) (by decide +kernel) rfl rfl H
            obtain ⟨v3, M3, hD, H⟩ := pUseU (D_69_ok hS hc) H
            refine pG_call (x := v3) (M1 := M3) hD ?_
            obtain ⟨g0, _, H⟩ := pGo (n1 := 2) rfl (mcb_72 rfl) H
            exact (ih _ (by omega)) _  _ H
          · refine pG_neg (c := ¬ v2 = (kI (-1))) g4 ?_
            replace H := pRun (ls' := [.ref 188, .int (kI 2)]) (st' := [.int (kI (-1))]) 1 rfl H
            exact pG_ret (pRetI H)
theorem L_72_2_ok {X : aX} {F d : Nat} {K : Nat → aK} (hS : pS K) {out : Option Value × aH} {f : Nat} {u1 : Value} {M : pMem} (H : pm X F d 72 f 2 [.aload 0, .bipush 43, .invokevirtual 1580068, .ifCond .ne 4] [.ref 188, u1] [] (pH K M) out) : pG eI K out (L_72_2 M) := by
  refine pG_all (C := fun P : (pMem → pT Int32) => C_72 P) (T := fun P => P M) eI_inj (fun _ _ _ => True) ?_ (fun P hP => (K_72 hS P hP f) _ _ H)
  exact (fun _ _ _ _ => trivial)
theorem D_72_ok {X : aX} {F d : Nat} {K : Nat → aK} (hS : pS K) {M : pMem} {out : Option Value × aH} (H : aM X F d 72 [.ref 188] (pH K M) = some out) : pG eI K out (D_72 M) := by
  obtain ⟨d', g0, _, H⟩ := pEnt (n := 2) (ls := [.ref 188, aD]) (mcb_72 rfl) (by decide +kernel) rfl H
  unfold D_72
  replace H := pRun (ls' := [.ref 188, aD]) (st' := [.ref 188]) 1 rfl H
  obtain ⟨rv, h1, hc, H⟩ := pCalV 71 0 188 (as := []) (rest := []) rfl (by decide) (by decide +kernel) rfl rfl H
  obtain ⟨v1, M1, hD, H⟩ := pUseI (D_71_ok hS hc) H
  refine pG_call (x := v1) (M1 := M1) hD ?_
  replace H := pRun (ls' := [.ref 188, aD]) (st' := [.int (kI (-1)), .int v1]) 1 rfl H
  rcases pIfc (n1 := 2) rfl (mcb_72 rfl) (mcb_72 rfl) H with ⟨g1, g0, _, H⟩ | ⟨g1, g0, _, H⟩
  · refine pG_pos (c := ¬ v1 = (kI (-1))) g1 ?_
    exact L_72_2_ok hS  H
  · refine pG_neg (c := ¬ v1 = (kI (-1))) g1 ?_
    replace H := pRun (ls' := [.ref 188, aD]) (st' := [.int (kI (-1))]) 1 rfl H
    exact pG_ret (pRetI H)
def l_72 : List (Nat × Nat) := [(210, 999), (211, 999), (188, 38), (188, 25), (188, 26), (188, 27), (188, 28), (188, 42), (188, 43)]
theorem FC_72 : C_72 (fun M _ N => pFr (l_72) M N) := fun M => show pTf (l_72) M (S_72_2 _ M) from (tf_if (tf_if (tf_call pFr_refl (fun _ _ h => F_65 h) [3, 4, 5, 6] rfl fun _ M1 f1 => (tf_call f1 (fun _ _ h => F_71 h) [0, 1, 2, 3, 4, 5, 6, 7, 8] rfl fun _ M2 f2 => (tf_if (tf_call f2 (fun _ _ h => F_69 h) [0, 1, 2] rfl fun _ M3 f3 => (tf_jump f3)) (tf_ret f2)))) (tf_call pFr_refl (fun _ _ h => F_65 h) [3, 4, 5, 6] rfl fun _ M1 f1 => (tf_call f1 (fun _ _ h => F_71 h) [0, 1, 2, 3, 4, 5, 6, 7, 8] rfl fun _ M2 f2 => (tf_if (tf_call f2 (fun _ _ h => F_69 h) [0, 1, 2] rfl fun _ M3 f3 => (tf_jump f3)) (tf_ret f2))))) (tf_if (tf_ret pFr_refl) (tf_if (tf_call pFr_refl (fun _ _ h => F_65 h) [3, 4, 5, 6] rfl fun _ M1 f1 => (tf_call f1 (fun _ _ h => F_71 h) [0, 1, 2, 3, 4, 5, 6, 7, 8] rfl fun _ M2 f2 => (tf_if (tf_call f2 (fun _ _ h => F_69 h) [0, 1, 2] rfl fun _ M3 f3 => (tf_jump f3)) (tf_ret f2)))) (tf_call pFr_refl (fun _ _ h => F_65 h) [3, 4, 5, 6] rfl fun _ M1 f1 => (tf_call f1 (fun _ _ h => F_71 h) [0, 1, 2, 3, 4, 5, 6, 7, 8] rfl fun _ M2 f2 => (tf_if (tf_call f2 (fun _ _ h => F_69 h) [0, 1, 2] rfl fun _ M3 f3 => (tf_jump f3)) (tf_ret f2)))))))
theorem F_72 {M : pMem} {v : Int32} {N : pMem} (h : D_72 M v N) : pFr (l_72) M N :=
  (show pTf (l_72) M (D_72 M) from (tf_call pFr_refl (fun _ _ h => F_71 h) [0, 1, 2, 3, 4, 5, 6, 7, 8] rfl fun _ M1 f1 => (tf_if (tf_jumpL (fun M _ N => pFr (l_72) M N) (FC_72) rfl f1) (tf_ret f1)))) v N h
/-- TwoCampsModel.readCompared()I -/
def D_73 (M : pMem) : pT Int32 := tCall (D_72 M) fun v1 M1 => tIf (¬ v1 = (kI (-1))) (tIf (¬ (f_68 (kI 60) M1) = 0) (tIf (¬ (M1 188 28) = (kI 60)) (tIf (¬ (M1 188 28) = (kI 61)) (tCall (D_65 M1) fun _ M2 => tCall (D_72 M2) fun v3 M3 => tIf (¬ v3 = (kI (-1))) (tCall (D_69 (kI 8) (kI 0) M3) fun _ M4 => tRet (kI 0) M4) (tRet (kI (-1)) M3)) (tCall (D_65 M1) fun _ M2 => tCall (D_72 M2) fun v3 M3 => tIf (¬ v3 = (kI (-1))) (tCall (D_69 (kI 7) (kI 0) M3) fun _ M4 => tRet (kI 0) M4) (tRet (kI (-1)) M3))) (tCall (D_65 M1) fun _ M2 => tCall (D_72 M2) fun v3 M3 => tIf (¬ v3 = (kI (-1))) (tCall (D_69 (kI 6) (kI 0) M3) fun _ M4 => tRet (kI 0) M4) (tRet (kI (-1)) M3))) (tIf (¬ (f_68 (kI 61) M1) = 0) (tIf (¬ (M1 188 28) = (kI 60)) (tIf (¬ (M1 188 28) = (kI 61)) (tCall (D_65 M1) fun _ M2 => tCall (D_72 M2) fun v3 M3 => tIf (¬ v3 = (kI (-1))) (tCall (D_69 (kI 8) (kI 0) M3) fun _ M4 => tRet (kI 0) M4) (tRet (kI (-1)) M3)) (tCall (D_65 M1) fun _ M2 => tCall (D_72 M2) fun v3 M3 => tIf (¬ v3 = (kI (-1))) (tCall (D_69 (kI 7) (kI 0) M3) fun _ M4 => tRet (kI 0) M4) (tRet (kI (-1)) M3))) (tCall (D_65 M1) fun _ M2 => tCall (D_72 M2) fun v3 M3 => tIf (¬ v3 = (kI (-1))) (tCall (D_69 (kI 6) (kI 0) M3) fun _ M4 => tRet (kI 0) M4) (tRet (kI (-1)) M3))) (tIf (¬ (f_68 (kI 62) M1) = 0) (tIf (¬ (M1 188 28) = (kI 60)) (tIf (¬ (M1 188 28) = (kI 61)) (tCall (D_65 M1) fun _ M2 => tCall (D_72 M2) fun v3 M3 => tIf (¬ v3 = (kI (-1))) (tCall (D_69 (kI 8) (kI 0) M3) fun _ M4 => tRet (kI 0) M4) (tRet (kI (-1)) M3)) (tCall (D_65 M1) fun _ M2 => tCall (D_72 M2) fun v3 M3 => tIf (¬ v3 = (kI (-1))) (tCall (D_69 (kI 7) (kI 0) M3) fun _ M4 => tRet (kI 0) M4) (tRet (kI (-1)) M3))) (tCall (D_65 M1) fun _ M2 => tCall (D_72 M2) fun v3 M3 => tIf (¬ v3 = (kI (-1))) (tCall (D_69 (kI 6) (kI 0) M3) fun _ M4 => tRet (kI 0) M4) (tRet (kI (-1)) M3))) (tCall (D_66 (kI 1) M1) fun v2 M2 => tRet v2 M2)))) (tRet (kI (-1)) M1)
theorem D_73_ok {X : aX} {F d : Nat} {K : Nat → aK} (hS : pS K) {M : pMem} {out : Option Value × aH} (H : aM X F d 73 [.ref 188] (pH K M) = some out) : pG eI K out (D_73 M) := by
  obtain ⟨d', g0, _, H⟩ := pEnt (n := 2) (ls := [.ref 188, aD]) (mcb_73 rfl) (by decide +kernel) rfl H
  unfold D_73
  replace H := pRun (ls' := [.ref 188, aD]) (st' := [.ref 188]) 1 rfl H
  obtain ⟨rv, h1, hc, H⟩ := pCalV 72 0 188 (as := []) (rest := []) rfl (by decide) (by decide +kernel) rfl rfl H
  obtain ⟨v1, M1, hD, H⟩ := pUseI (D_72_ok hS hc) H
  refine pG_call (x := v1) (M1 := M1) hD ?_
  replace H := pRun (ls' := [.ref 188, aD]) (st' := [.int (kI (-1)), .int v1]) 1 rfl H
  rcases pIfc (n1 := 2) rfl (mcb_73 rfl) (mcb_73 rfl) H with ⟨g1, g0, _, H⟩ | ⟨g1, g0, _, H⟩
  · refine pG_pos (c := ¬ v1 = (kI (-1))) g1 ?_
    replace H := pRun (ls' := [.ref 188, aD]) (st' := [.int (kI 60), .ref 188]) 2 rfl H
    obtain ⟨rv, h1, hc, H⟩ := pCalV 68 1 188 (as := [.int (kI 60)]) (rest := []) rfl (by decide) (by decide +kernel) rfl rfl H
    replace H := pUseF (f_68_ok hS hc) H
    rcases pIf0 (n1 := 6) rfl (mcb_73 rfl) (mcb_73 rfl) H with ⟨g2, g0, _, H⟩ | ⟨g2, g0, _, H⟩
    · refine pG_pos (c := ¬ (f_68 (kI 60) M1) = 0) g2 ?_
      replace H := pRun (ls' := [.ref 188, aD]) (st' := [.ref 188]) 1 rfl H
      replace H := pGetN (v := M1 188 28) rfl (by decide) H
      replace H := pRun (ls' := [.ref 188, aD]) (st' := [.int (kI 60), .int (M1 188 28)]) 1 rfl H
      rcases pIfc (n1 := 8) rfl (mcb_73 rfl) (mcb_73 rfl) H with ⟨g3, g0, _, H⟩ | ⟨g3, g0, _, H⟩
      · refine pG_pos (c := ¬ (M1 188 28) = (kI 60)) g3 ?_
        replace H := pRun (ls' := [.ref 188, aD]) (st' := [.ref 188]) 1 rfl H
        replace H := pGetN (v := M1 188 28) rfl (by decide) H
        replace H := pRun (ls' := [.ref 188, aD]) (st' := [.int (kI 61), .int (M1 188 28)]) 1 rfl H
        rcases pIfc (n1 := 10) rfl (mcb_73 rfl) (mcb_73 rfl) H with ⟨g4, g0, _, H⟩ | ⟨g4, g0, _, H⟩
        · refine pG_pos (c := ¬ (M1 188 28) = (kI 61)) g4 ?_
          replace H := pRun (ls' := [.ref 188, aD]) (st' := [.int (kI 8)]) 1 rfl H
          obtain ⟨g0, _, H⟩ := pFall (mcb_73 rfl) H
          replace H := pRun (ls' := [.ref 188, .int (kI 8)]) (st' := [.ref 188]) 2 rfl H
          obtain ⟨rv, h1, hc, H⟩ := pCalV 65 0 188 (as := []) (rest := []) rfl (by decide) (by decide +kernel) rfl rfl H
          obtain ⟨v2, M2, hD, H⟩ := pUseU (D_65_ok hS hc) H
          refine pG_call (x := v2) (M1 := M2) hD ?_
          replace H := pRun (ls' := [.ref 188, .int (kI 8)]) (st' := [.ref 188]) 1 rfl H
          obtain ⟨rv, h1, hc, H⟩ := pCalV 72 0 188 (as := []) (rest := []) rfl (by decide) (by decide +kernel) rfl rfl H
          obtain ⟨v3, M3, hD, H⟩ := pUseI (D_72_ok hS hc) H
          refine pG_call (x := v3) (M1 := M3) hD ?_
          replace H := pRun (ls' := [.ref 188, .int (kI 8)]) (st' := [.int (kI (-1)), .int v3]) 1 rfl H
          rcases pIfc (n1 := 13) rfl (mcb_73 rfl) (mcb_73 rfl) H with ⟨g5, g0, _, H⟩ | ⟨g5, g0, _, H⟩
          · refine pG_pos (c := ¬ v3 = (kI (-1))) g5 ?_
            replace H := pRun (ls' := [.ref 188, .int (kI 8)]) (st' := [.int (kI 0), .int (kI 8), .ref 188]) 3 rfl H
            obtain ⟨rv, h1, hc, H⟩ := pCalV 69 2 188 (as := [.int (kI 8), .int (kI 0)]) (rest := []) rfl (by decide) (by decide +kernel) rfl rfl H
            obtain ⟨v4, M4, hD, H⟩ := pUseU (D_69_ok hS hc) H
            refine pG_call (x := v4) (M1 := M4) hD ?_
            replace H := pRun (ls' := [.ref 188, .int (kI 8)]) (st' := [.int (kI 0)]) 1 rfl H
            exact pG_ret (pRetI H)
          · refine pG_neg (c := ¬ v3 = (kI (-1))) g5 ?_
            replace H := pRun (ls' := [.ref 188, .int (kI 8)]) (st' := [.int (kI (-1))]) 1 rfl H
            exact pG_ret (pRetI H)
        · refine pG_neg (c := ¬ (M1 188 28) = (kI 61)) g4 ?_
          replace H := pRun (ls' := [.ref 188, aD]) (st' := [.int (kI 7)]) 1 rfl H
          obtain ⟨g0, _, H⟩ := pGo (n1 := 11) rfl (mcb_73 rfl) H
          replace H := pRun (ls' := [.ref 188, .int (kI 7)]) (st' := [.ref 188]) 2 rfl H
          obtain ⟨rv, h1, hc, H⟩ := pCalV 65 0 188 (as := []) (rest := []) rfl (by decide) (by decide +kernel) rfl rfl H
          obtain ⟨v2, M2, hD, H⟩ := pUseU (D_65_ok hS hc) H
          refine pG_call (x := v2) (M1 := M2) hD ?_
          replace H := pRun (ls' := [.ref 188, .int (kI 7)]) (st' := [.ref 188]) 1 rfl H
          obtain ⟨rv, h1, hc, H⟩ := pCalV 72 0 188 (as := []) (rest := []) rfl (by decide) (by decide +kernel) rfl rfl H
          obtain ⟨v3, M3, hD, H⟩ := pUseI (D_72_ok hS hc) H
          refine pG_call (x := v3) (M1 := M3) hD ?_
          replace H := pRun (ls' := [.ref 188, .int (kI 7)]) (st' := [.int (kI (-1)), .int v3]) 1 rfl H
          rcases pIfc (n1 := 13) rfl (mcb_73 rfl) (mcb_73 rfl) H with ⟨g5, g0, _, H⟩ | ⟨g5, g0, _, H⟩
          · refine pG_pos (c := ¬ v3 = (kI (-1))) g5 ?_
            replace H := pRun (ls' := [.ref 188, .int (kI 7)]) (st' := [.int (kI 0), .int (kI 7), .ref 188]) 3 rfl H
            obtain ⟨rv, h1, hc, H⟩ := pCalV 69 2 188 (as := [.int (kI 7), .int (kI 0)]) (rest := []) rfl (by decide) (by decide +kernel) rfl rfl H
            obtain ⟨v4, M4, hD, H⟩ := pUseU (D_69_ok hS hc) H
            refine pG_call (x := v4) (M1 := M4) hD ?_
            replace H := pRun (ls' := [.ref 188, .int (kI 7)]) (st' := [.int (kI 0)]) 1 rfl H
            exact pG_ret (pRetI H)
          · refine pG_neg (c := ¬ v3 = (kI (-1))) g5 ?_
            replace H := pRun (ls' := [.ref 188, .int (kI 7)]) (st' := [.int (kI (-1))]) 1 rfl H
            exact pG_ret (pRetI H)
      · refine pG_neg (c := ¬ (M1 188 28) = (kI 60)) g3 ?_
        replace H := pRun (ls' := [.ref 188, aD]) (st' := [.int (kI 6)]) 1 rfl H
        obtain ⟨g0, _, H⟩ := pGo (n1 := 11) rfl (mcb_73 rfl) H
        replace H := pRun (ls' := [.ref 188, .int (kI 6)]) (st' := [.ref 188]) 2 rfl H
        obtain ⟨rv, h1, hc, H⟩ := pCalV 65 0 188 (as := []) (rest := []) rfl (by decide) (by decide +kernel) rfl rfl H
        obtain ⟨v2, M2, hD, H⟩ := pUseU (D_65_ok hS hc) H
        refine pG_call (x := v2) (M1 := M2) hD ?_
        replace H := pRun (ls' := [.ref 188, .int (kI 6)]) (st' := [.ref 188]) 1 rfl H
        obtain ⟨rv, h1, hc, H⟩ := pCalV 72 0 188 (as := []) (rest := []) rfl (by decide) (by decide +kernel) rfl rfl H
        obtain ⟨v3, M3, hD, H⟩ := pUseI (D_72_ok hS hc) H
        refine pG_call (x := v3) (M1 := M3) hD ?_
        replace H := pRun (ls' := [.ref 188, .int (kI 6)]) (st' := [.int (kI (-1)), .int v3]) 1 rfl H
        rcases pIfc (n1 := 13) rfl (mcb_73 rfl) (mcb_73 rfl) H with ⟨g4, g0, _, H⟩ | ⟨g4, g0, _, H⟩
        · refine pG_pos (c := ¬ v3 = (kI (-1))) g4 ?_
          replace H := pRun (ls' := [.ref 188, .int (kI 6)]) (st' := [.int (kI 0), .int (kI 6), .ref 188]) 3 rfl H
          obtain ⟨rv, h1, hc, H⟩ := pCalV 69 2 188 (as := [.int (kI 6), .int (kI 0)]) (rest := []) rfl (by decide) (by decide +kernel) rfl rfl H
          obtain ⟨v4, M4, hD, H⟩ := pUseU (D_69_ok hS hc) H
          refine pG_call (x := v4) (M1 := M4) hD ?_
          replace H := pRun (ls' := [.ref 188, .int (kI 6)]) (st' := [.int (kI 0)]) 1 rfl H
          exact pG_ret (pRetI H)
        · refine pG_neg (c := ¬ v3 = (kI (-1))) g4 ?_
          replace H := pRun (ls' := [.ref 188, .int (kI 6)]) (st' := [.int (kI (-1))]) 1 rfl H
          exact pG_ret (pRetI H)
    · refine pG_neg (c := ¬ (f_68 (kI 60) M1) = 0) g2 ?_
      replace H := pRun (ls' := [.ref 188, aD]) (st' := [.int (kI 61), .ref 188]) 2 rfl H
      obtain ⟨rv, h1, hc, H⟩ := pCalV 68 1 188 (as := [.int (kI 61)]) (rest := []) rfl (by decide) (by decide +kernel) rfl rfl H
      replace H := pUseF (f_68_ok hS hc) H
      rcases pIf0 (n1 := 6) rfl (mcb_73 rfl) (mcb_73 rfl) H with ⟨g3, g0, _, H⟩ | ⟨g3, g0, _, H⟩
      · refine pG_pos (c := ¬ (f_68 (kI 61) M1) = 0) g3 ?_
        replace H := pRun (ls' := [.ref 188, aD]) (st' := [.ref 188]) 1 rfl H
        replace H := pGetN (v := M1 188 28) rfl (by decide) H
        replace H := pRun (ls' := [.ref 188, aD]) (st' := [.int (kI 60), .int (M1 188 28)]) 1 rfl H
        rcases pIfc (n1 := 8) rfl (mcb_73 rfl) (mcb_73 rfl) H with ⟨g4, g0, _, H⟩ | ⟨g4, g0, _, H⟩
        · refine pG_pos (c := ¬ (M1 188 28) = (kI 60)) g4 ?_
          replace H := pRun (ls' := [.ref 188, aD]) (st' := [.ref 188]) 1 rfl H
          replace H := pGetN (v := M1 188 28) rfl (by decide) H
          replace H := pRun (ls' := [.ref 188, aD]) (st' := [.int (kI 61), .int (M1 188 28)]) 1 rfl H
          rcases pIfc (n1 := 10) rfl (mcb_73 rfl) (mcb_73 rfl) H with ⟨g5, g0, _, H⟩ | ⟨g5, g0, _, H⟩
          · refine pG_pos (c := ¬ (M1 188 28) = (kI 61)) g5 ?_
            replace H := pRun (ls' := [.ref 188, aD]) (st' := [.int (kI 8)]) 1 rfl H
            obtain ⟨g0, _, H⟩ := pFall (mcb_73 rfl) H
            replace H := pRun (ls' := [.ref 188, .int (kI 8)]) (st' := [.ref 188]) 2 rfl H
            obtain ⟨rv, h1, hc, H⟩ := pCalV 65 0 188 (as := []) (rest := []) rfl (by decide) (by decide +kernel) rfl rfl H
            obtain ⟨v2, M2, hD, H⟩ := pUseU (D_65_ok hS hc) H
            refine pG_call (x := v2) (M1 := M2) hD ?_
            replace H := pRun (ls' := [.ref 188, .int (kI 8)]) (st' := [.ref 188]) 1 rfl H
            obtain ⟨rv, h1, hc, H⟩ := pCalV 72 0 188 (as := []) (rest := []) rfl (by decide) (by decide +kernel) rfl rfl H
            obtain ⟨v3, M3, hD, H⟩ := pUseI (D_72_ok hS hc) H
            refine pG_call (x := v3) (M1 := M3) hD ?_
            replace H := pRun (ls' := [.ref 188, .int (kI 8)]) (st' := [.int (kI (-1)), .int v3]) 1 rfl H
            rcases pIfc (n1 := 13) rfl (mcb_73 rfl) (mcb_73 rfl) H with ⟨g6, g0, _, H⟩ | ⟨g6, g0, _, H⟩
            · refine pG_pos (c := ¬ v3 = (kI (-1))) g6 ?_
              replace H := pRun (ls' := [.ref 188, .int (kI 8)]) (st' := [.int (kI 0), .int (kI 8), .ref 188]) 3 rfl H
              obtain ⟨rv, h1, hc, H⟩ := pCalV 69 2 188 (as := [.int (kI 8), .int (kI 0)]) (rest := []) rfl (by decide) (by decide +kernel) rfl rfl H
              obtain ⟨v4, M4, hD, H⟩ := pUseU (D_69_ok hS hc) H
              refine pG_call (x := v4) (M1 := M4) hD ?_
              replace H := pRun (ls' := [.ref 188, .int (kI 8)]) (st' := [.int (kI 0)]) 1 rfl H
              exact pG_ret (pRetI H)
            · refine pG_neg (c := ¬ v3 = (kI (-1))) g6 ?_
              replace H := pRun (ls' := [.ref 188, .int (kI 8)]) (st' := [.int (kI (-1))]) 1 rfl H
              exact pG_ret (pRetI H)
          · refine pG_neg (c := ¬ (M1 188 28) = (kI 61)) g5 ?_
            replace H := pRun (ls' := [.ref 188, aD]) (st' := [.int (kI 7)]) 1 rfl H
            obtain ⟨g0, _, H⟩ := pGo (n1 := 11) rfl (mcb_73 rfl) H
            replace H := pRun (ls' := [.ref 188, .int (kI 7)]) (st' := [.ref 188]) 2 rfl H
            obtain ⟨rv, h1, hc, H⟩ := pCalV 65 0 188 (as := []) (rest := []) rfl (by decide) (by decide +kernel) rfl rfl H
            obtain ⟨v2, M2, hD, H⟩ := pUseU (D_65_ok hS hc) H
            refine pG_call (x := v2) (M1 := M2) hD ?_
            replace H := pRun (ls' := [.ref 188, .int (kI 7)]) (st' := [.ref 188]) 1 rfl H
            obtain ⟨rv, h1, hc, H⟩ := pCalV 72 0 188 (as := []) (rest := []) rfl (by decide) (by decide +kernel) rfl rfl H
            obtain ⟨v3, M3, hD, H⟩ := pUseI (D_72_ok hS hc) H
            refine pG_call (x := v3) (M1 := M3) hD ?_
            replace H := pRun (ls' := [.ref 188, .int (kI 7)]) (st' := [.int (kI (-1)), .int v3]) 1 rfl H
            rcases pIfc (n1 := 13) rfl (mcb_73 rfl) (mcb_73 rfl) H with ⟨g6, g0, _, H⟩ | ⟨g6, g0, _, H⟩
            · refine pG_pos (c := ¬ v3 = (kI (-1))) g6 ?_
              replace H := pRun (ls' := [.ref 188, .int (kI 7)]) (st' := [.int (kI 0), .int (kI 7), .ref 188]) 3 rfl H
              obtain ⟨rv, h1, hc, H⟩ := pCalV 69 2 188 (as := [.int (kI 7), .int (kI 0)]) (rest := []) rfl (by decide) (by decide +kernel) rfl rfl H
              obtain ⟨v4, M4, hD, H⟩ := pUseU (D_69_ok hS hc) H
              refine pG_call (x := v4) (M1 := M4) hD ?_
              replace H := pRun (ls' := [.ref 188, .int (kI 7)]) (st' := [.int (kI 0)]) 1 rfl H
              exact pG_ret (pRetI H)
            · refine pG_neg (c := ¬ v3 = (kI (-1))) g6 ?_
              replace H := pRun (ls' := [.ref 188, .int (kI 7)]) (st' := [.int (kI (-1))]) 1 rfl H
              exact pG_ret (pRetI H)
        · refine pG_neg (c := ¬ (M1 188 28) = (kI 60)) g4 ?_
          replace H := pRun (ls' := [.ref 188, aD]) (st' := [.int (kI 6)]) 1 rfl H
          obtain ⟨g0, _, H⟩ := pGo (n1 := 11) rfl (mcb_73 rfl) H
          replace H := pRun (ls' := [.ref 188, .int (kI 6)]) (st' := [.ref 188]) 2 rfl H
          obtain ⟨rv, h1, hc, H⟩ := pCalV 65 0 188 (as := []) (rest := []) rfl (by decide) (by decide +kernel) rfl rfl H
          obtain ⟨v2, M2, hD, H⟩ := pUseU (D_65_ok hS hc) H
          refine pG_call (x := v2) (M1 := M2) hD ?_
          replace H := pRun (ls' := [.ref 188, .int (kI 6)]) (st' := [.ref 188]) 1 rfl H
          obtain ⟨rv, h1, hc, H⟩ := pCalV 72 0 188 (as := []) (rest := []) rfl (by decide) (by decide +kernel) rfl rfl H
          obtain ⟨v3, M3, hD, H⟩ := pUseI (D_72_ok hS hc) H
          refine pG_call (x := v3) (M1 := M3) hD ?_
          replace H := pRun (ls' := [.ref 188, .int (kI 6)]) (st' := [.int (kI (-1)), .int v3]) 1 rfl H
          rcases pIfc (n1 := 13) rfl (mcb_73 rfl) (mcb_73 rfl) H with ⟨g5, g0, _, H⟩ | ⟨g5, g0, _, H⟩
          · refine pG_pos (c := ¬ v3 = (kI (-1))) g5 ?_
            replace H := pRun (ls' := [.ref 188, .int (kI 6)]) (st' := [.int (kI 0), .int (kI 6), .ref 188]) 3 rfl H
            obtain ⟨rv, h1, hc, H⟩ := pCalV 69 2 188 (as := [.int (kI 6), .int (kI 0)]) (rest := []) rfl (by decide) (by decide +kernel) rfl rfl H
            obtain ⟨v4, M4, hD, H⟩ := pUseU (D_69_ok hS hc) H
            refine pG_call (x := v4) (M1 := M4) hD ?_
            replace H := pRun (ls' := [.ref 188, .int (kI 6)]) (st' := [.int (kI 0)]) 1 rfl H
            exact pG_ret (pRetI H)
          · refine pG_neg (c := ¬ v3 = (kI (-1))) g5 ?_
            replace H := pRun (ls' := [.ref 188, .int (kI 6)]) (st' := [.int (kI (-1))]) 1 rfl H
            exact pG_ret (pRetI H)
      · refine pG_neg (c := ¬ (f_68 (kI 61) M1) = 0) g3 ?_
        replace H := pRun (ls' := [.ref 188, aD]) (st' := [.int (kI 62), .ref 188]) 2 rfl H
        obtain ⟨rv, h1, hc, H⟩ := pCalV 68 1 188 (as := [.int (kI 62)]) (rest := []) rfl (by decide) (by decide +kernel) rfl rfl H
        replace H := pUseF (f_68_ok hS hc) H
        rcases pIf0 (n1 := 6) rfl (mcb_73 rfl) (mcb_73 rfl) H with ⟨g4, g0, _, H⟩ | ⟨g4, g0, _, H⟩
        · refine pG_pos (c := ¬ (f_68 (kI 62) M1) = 0) g4 ?_
          replace H := pRun (ls' := [.ref 188, aD]) (st' := [.ref 188]) 1 rfl H
          replace H := pGetN (v := M1 188 28) rfl (by decide) H
          replace H := pRun (ls' := [.ref 188, aD]) (st' := [.int (kI 60), .int (M1 188 28)]) 1 rfl H
          rcases pIfc (n1 := 8) rfl (mcb_73 rfl) (mcb_73 rfl) H with ⟨g5, g0, _, H⟩ | ⟨g5, g0, _, H⟩
          · refine pG_pos (c := ¬ (M1 188 28) = (kI 60)) g5 ?_
            replace H := pRun (ls' := [.ref 188, aD]) (st' := [.ref 188]) 1 rfl H
            replace H := pGetN (v := M1 188 28) rfl (by decide) H
            replace H := pRun (ls' := [.ref 188, aD]) (st' := [.int (kI 61), .int (M1 188 28)]) 1 rfl H
            rcases pIfc (n1 := 10) rfl (mcb_73 rfl) (mcb_73 rfl) H with ⟨g6, g0, _, H⟩ | ⟨g6, g0, _, H⟩
            · refine pG_pos (c := ¬ (M1 188 28) = (kI 61)) g6 ?_
              replace H := pRun (ls' := [.ref 188, aD]) (st' := [.int (kI 8)]) 1 rfl H
              obtain ⟨g0, _, H⟩ := pFall (mcb_73 rfl) H
              replace H := pRun (ls' := [.ref 188, .int (kI 8)]) (st' := [.ref 188]) 2 rfl H
              obtain ⟨rv, h1, hc, H⟩ := pCalV 65 0 188 (as := []) (rest := []) rfl (by decide) (by decide +kernel) rfl rfl H
              obtain ⟨v2, M2, hD, H⟩ := pUseU (D_65_ok hS hc) H
              refine pG_call (x := v2) (M1 := M2) hD ?_
              replace H := pRun (ls' := [.ref 188, .int (kI 8)]) (st' := [.ref 188]) 1 rfl H
              obtain ⟨rv, h1, hc, H⟩ := pCalV 72 0 188 (as := []) (rest := []) rfl (by decide) (by decide +kernel) rfl rfl H
              obtain ⟨v3, M3, hD, H⟩ := pUseI (D_72_ok hS hc) H
              refine pG_call (x := v3) (M1 := M3) hD ?_
              replace H := pRun (ls' := [.ref 188, .int (kI 8)]) (st' := [.int (kI (-1)), .int v3]) 1 rfl H
              rcases pIfc (n1 := 13) rfl (mcb_73 rfl) (mcb_73 rfl) H with ⟨g7, g0, _, H⟩ | ⟨g7, g0, _, H⟩
              · refine pG_pos (c := ¬ v3 = (kI (-1))) g7 ?_
                replace H := pRun (ls' := [.ref 188, .int (kI 8)]) (st' := [.int (kI 0), .int (kI 8), .ref 188]) 3 rfl H
                obtain ⟨rv, h1, hc, H⟩ := pCalV 69 2 188 (as := [.int (kI 8), .int (kI 0)]) (rest := []) rfl (by decide) (by decide +kernel) rfl rfl H
                obtain ⟨v4, M4, hD, H⟩ := pUseU (D_69_ok hS hc) H
                refine pG_call (x := v4) (M1 := M4) hD ?_
                replace H := pRun (ls' := [.ref 188, .int (kI 8)]) (st' := [.int (kI 0)]) 1 rfl H
                exact pG_ret (pRetI H)
              · refine pG_neg (c := ¬ v3 = (kI (-1))) g7 ?_
                replace H := pRun (ls' := [.ref 188, .int (kI 8)]) (st' := [.int (kI (-1))]) 1 rfl H
                exact pG_ret (pRetI H)
            · refine pG_neg (c := ¬ (M1 188 28) = (kI 61)) g6 ?_
              replace H := pRun (ls' := [.ref 188, aD]) (st' := [.int (kI 7)]) 1 rfl H
              obtain ⟨g0, _, H⟩ := pGo (n1 := 11) rfl (mcb_73 rfl) H
              replace H := pRun (ls' := [.ref 188, .int (kI 7)]) (st' := [.ref 188]) 2 rfl H
              obtain ⟨rv, h1, hc, H⟩ := pCalV 65 0 188 (as := []) (rest := []) rfl (by decide) (by decide +kernel) rfl rfl H
              obtain ⟨v2, M2, hD, H⟩ := pUseU (D_65_ok hS hc) H
              refine pG_call (x := v2) (M1 := M2) hD ?_
              replace H := pRun (ls' := [.ref 188, .int (kI 7)]) (st' := [.ref 188]) 1 rfl H
              obtain ⟨rv, h1, hc, H⟩ := pCalV 72 0 188 (as := []) (rest := []) rfl (by decide) (by decide +kernel) rfl rfl H
              obtain ⟨v3, M3, hD, H⟩ := pUseI (D_72_ok hS hc) H
              refine pG_call (x := v3) (M1 := M3) hD ?_
              replace H := pRun (ls' := [.ref 188, .int (kI 7)]) (st' := [.int (kI (-1)), .int v3]) 1 rfl H
              rcases pIfc (n1 := 13) rfl (mcb_73 rfl) (mcb_73 rfl) H with ⟨g7, g0, _, H⟩ | ⟨g7, g0, _, H⟩
              · refine pG_pos (c := ¬ v3 = (kI (-1))) g7 ?_
                replace H := pRun (ls' := [.ref 188, .int (kI 7)]) (st' := [.int (kI 0), .int (kI 7), .ref 188]) 3 rfl H
                obtain ⟨rv, h1, hc, H⟩ := pCalV 69 2 188 (as := [.int (kI 7), .int (kI 0)]) (rest := []) rfl (by decide) (by decide +kernel) rfl rfl H
                obtain ⟨v4, M4, hD, H⟩ := pUseU (D_69_ok hS hc) H
                refine pG_call (x := v4) (M1 := M4) hD ?_
                replace H := pRun (ls' := [.ref 188, .int (kI 7)]) (st' := [.int (kI 0)]) 1 rfl H
                exact pG_ret (pRetI H)
              · refine pG_neg (c := ¬ v3 = (kI (-1))) g7 ?_
                replace H := pRun (ls' := [.ref 188, .int (kI 7)]) (st' := [.int (kI (-1))]) 1 rfl H
                exact pG_ret (pRetI H)
          · refine pG_neg (c := ¬ (M1 188 28) = (kI 60)) g5 ?_
            replace H := pRun (ls' := [.ref 188, aD]) (st' := [.int (kI 6)]) 1 rfl H
            obtain ⟨g0, _, H⟩ := pGo (n1 := 11) rfl (mcb_73 rfl) H
            replace H := pRun (ls' := [.ref 188, .int (kI 6)]) (st' := [.ref 188]) 2 rfl H
            obtain ⟨rv, h1, hc, H⟩ := pCalV 65 0 188 (as := []) (rest := []) rfl (by decide) (by decide +kernel) rfl rfl H
            obtain ⟨v2, M2, hD, H⟩ := pUseU (D_65_ok hS hc) H
            refine pG_call (x := v2) (M1 := M2) hD ?_
            replace H := pRun (ls' := [.ref 188, .int (kI 6)]) (st' := [.ref 188]) 1 rfl H
            obtain ⟨rv, h1, hc, H⟩ := pCalV 72 0 188 (as := []) (rest := []) rfl (by decide) (by decide +kernel) rfl rfl H
            obtain ⟨v3, M3, hD, H⟩ := pUseI (D_72_ok hS hc) H
            refine pG_call (x := v3) (M1 := M3) hD ?_
            replace H := pRun (ls' := [.ref 188, .int (kI 6)]) (st' := [.int (kI (-1)), .int v3]) 1 rfl H
            rcases pIfc (n1 := 13) rfl (mcb_73 rfl) (mcb_73 rfl) H with ⟨g6, g0, _, H⟩ | ⟨g6, g0, _, H⟩
            · refine pG_pos (c := ¬ v3 = (kI (-1))) g6 ?_
              replace H := pRun (ls' := [.ref 188, .int (kI 6)]) (st' := [.int (kI 0), .int (kI 6), .ref 188]) 3 rfl H
              obtain ⟨rv, h1, hc, H⟩ := pCalV 69 2 188 (as := [.int (kI 6), .int (kI 0)]) (rest := []) rfl (by decide) (by decide +kernel) rfl rfl H
              obtain ⟨v4, M4, hD, H⟩ := pUseU (D_69_ok hS hc) H
              refine pG_call (x := v4) (M1 := M4) hD ?_
              replace H := pRun (ls' := [.ref 188, .int (kI 6)]) (st' := [.int (kI 0)]) 1 rfl H
              exact pG_ret (pRetI H)
            · refine pG_neg (c := ¬ v3 = (kI (-1))) g6 ?_
              replace H := pRun (ls' := [.ref 188, .int (kI 6)]) (st' := [.int (kI (-1))]) 1 rfl H
              exact pG_ret (pRetI H)
        · refine pG_neg (c := ¬ (f_68 (kI 62) M1) = 0) g4 ?_
          replace H := pRun (ls' := [.ref 188, aD]) (st' := [.int (kI 1), .ref 188]) 2 rfl H
          obtain ⟨rv, h1, hc, H⟩ := pCalV 66 1 188 (as := [.int (kI 1)]) (rest := []) rfl (by decide) (by decide +kernel) rfl rfl H
          obtain ⟨v2, M2, hD, H⟩ := pUseI (D_66_ok hS hc) H
          refine pG_call (x := v2) (M1 := M2) hD ?_
          exact pG_ret (pRetI H)
  · refine pG_neg (c := ¬ v1 = (kI (-1))) g1 ?_
    replace H := pRun (ls' := [.ref 188, aD]) (st' := [.int (kI (-1))]) 1 rfl H
    exact pG_ret (pRetI H)
def l_73 : List (Nat × Nat) := [(210, 999), (211, 999), (188, 38), (188, 25), (188, 26), (188, 27), (188, 28), (188, 42), (188, 43)]
theorem F_73 {M : pMem} {v : Int32} {N : pMem} (h : D_73 M v N) : pFr (l_73) M N :=
  (show pTf (l_73) M (D_73 M) from (tf_call pFr_refl (fun _ _ h => F_72 h) [0, 1, 2, 3, 4, 5, 6, 7, 8] rfl fun _ M1 f1 => (tf_if (tf_if (tf_if (tf_if (tf_call f1 (fun _ _ h => F_65 h) [3, 4, 5, 6] rfl fun _ M2 f2 => (tf_call f2 (fun _ _ h => F_72 h) [0, 1, 2, 3, 4, 5, 6, 7, 8] rfl fun _ M3 f3 => (tf_if (tf_call f3 (fun _ _ h => F_69 h) [0, 1, 2] rfl fun _ M4 f4 => (tf_ret f4)) (tf_ret f3)))) (tf_call f1 (fun _ _ h => F_65 h) [3, 4, 5, 6] rfl fun _ M2 f2 => (tf_call f2 (fun _ _ h => F_72 h) [0, 1, 2, 3, 4, 5, 6, 7, 8] rfl fun _ M3 f3 => (tf_if (tf_call f3 (fun _ _ h => F_69 h) [0, 1, 2] rfl fun _ M4 f4 => (tf_ret f4)) (tf_ret f3))))) (tf_call f1 (fun _ _ h => F_65 h) [3, 4, 5, 6] rfl fun _ M2 f2 => (tf_call f2 (fun _ _ h => F_72 h) [0, 1, 2, 3, 4, 5, 6, 7, 8] rfl fun _ M3 f3 => (tf_if (tf_call f3 (fun _ _ h => F_69 h) [0, 1, 2] rfl fun _ M4 f4 => (tf_ret f4)) (tf_ret f3))))) (tf_if (tf_if (tf_if (tf_call f1 (fun _ _ h => F_65 h) [3, 4, 5, 6] rfl fun _ M2 f2 => (tf_call f2 (fun _ _ h => F_72 h) [0, 1, 2, 3, 4, 5, 6, 7, 8] rfl fun _ M3 f3 => (tf_if (tf_call f3 (fun _ _ h => F_69 h) [0, 1, 2] rfl fun _ M4 f4 => (tf_ret f4)) (tf_ret f3)))) (tf_call f1 (fun _ _ h => F_65 h) [3, 4, 5, 6] rfl fun _ M2 f2 => (tf_call f2 (fun _ _ h => F_72 h) [0, 1, 2, 3, 4, 5, 6, 7, 8] rfl fun _ M3 f3 => (tf_if (tf_call f3 (fun _ _ h => F_69 h) [0, 1, 2] rfl fun _ M4 f4 => (tf_ret f4)) (tf_ret f3))))) (tf_call f1 (fun _ _ h => F_65 h) [3, 4, 5, 6] rfl fun _ M2 f2 => (tf_call f2 (fun _ _ h => F_72 h) [0, 1, 2, 3, 4, 5, 6, 7, 8] rfl fun _ M3 f3 => (tf_if (tf_call f3 (fun _ _ h => F_69 h) [0, 1, 2] rfl fun _ M4 f4 => (tf_ret f4)) (tf_ret f3))))) (tf_if (tf_if (tf_if (tf_call f1 (fun _ _ h => F_65 h) [3, 4, 5, 6] rfl fun _ M2 f2 => (tf_call f2 (fun _ _ h => F_72 h) [0, 1, 2, 3, 4, 5, 6, 7, 8] rfl fun _ M3 f3 => (tf_if (tf_call f3 (fun _ _ h => F_69 h) [0, 1, 2] rfl fun _ M4 f4 => (tf_ret f4)) (tf_ret f3)))) (tf_call f1 (fun _ _ h => F_65 h) [3, 4, 5, 6] rfl fun _ M2 f2 => (tf_call f2 (fun _ _ h => F_72 h) [0, 1, 2, 3, 4, 5, 6, 7, 8] rfl fun _ M3 f3 => (tf_if (tf_call f3 (fun _ _ h => F_69 h) [0, 1, 2] rfl fun _ M4 f4 => (tf_ret f4)) (tf_ret f3))))) (tf_call f1 (fun _ _ h => F_65 h) [3, 4, 5, 6] rfl fun _ M2 f2 => (tf_call f2 (fun _ _ h => F_72 h) [0, 1, 2, 3, 4, 5, 6, 7, 8] rfl fun _ M3 f3 => (tf_if (tf_call f3 (fun _ _ h => F_69 h) [0, 1, 2] rfl fun _ M4 f4 => (tf_ret f4)) (tf_ret f3))))) (tf_call f1 (fun _ _ h => F_66 h) [7, 8] rfl fun _ M2 f2 => (tf_ret f2))))) (tf_ret f1)))) v N h
/-- TwoCampsModel.waits(I)V -/
def D_74 (p1 : Int32) (M : pMem) : pT Unit := tGd (pIn (M 188 41) 40) <| tPut (aPut M 212 (ix (M 188 41)) p1) fun M1 => tPut (aPut M1 188 41 ((M1 188 41) + (kI 1))) fun M2 => tRet () M2
theorem D_74_ok {X : aX} {F d : Nat} {K : Nat → aK} (hS : pS K) {p1 : Int32} {M : pMem} {out : Option Value × aH} (H : aM X F d 74 [.ref 188, .int p1] (pH K M) = some out) : pG eU K out (D_74 p1 M) := by
  obtain ⟨d', g0, _, H⟩ := pEnt (n := 2) (ls := [.ref 188, .int p1]) (mcb_74 rfl) (by decide +kernel) rfl H
  unfold D_74
  replace H := pRun (ls' := [.ref 188, .int p1]) (st' := [.ref 188]) 1 rfl H
  replace H := pGetR (r := 212) (pRf hS (by decide +kernel)) rfl H
  replace H := pRun (ls' := [.ref 188, .int p1]) (st' := [.ref 188, .ref 212]) 1 rfl H
  replace H := pGetN (v := M 188 41) rfl (by decide) H
  replace H := pRun (ls' := [.ref 188, .int p1]) (st' := [.int p1, .int (M 188 41), .ref 212]) 1 rfl H
  obtain ⟨g1, M1, eM1, H⟩ := pIst (n := 40) (pLn hS (show pCa 212 40 = true by decide +kernel)) H
  refine pG_gd g1 (pG_put (M2 := M1) eM1 ?_)
  replace H := pRun (ls' := [.ref 188, .int p1]) (st' := [.ref 188, .ref 188]) 2 rfl H
  replace H := pGetN (v := M1 188 41) rfl (by decide) H
  replace H := pRun (ls' := [.ref 188, .int p1]) (st' := [.int ((M1 188 41) + (kI 1)), .ref 188]) 2 rfl H
  obtain ⟨M2, eM2, H⟩ := pPutN (j := 41) rfl H
  refine pG_put (M2 := M2) eM2 ?_
  exact pG_ret (pRetU H)
def l_74 : List (Nat × Nat) := [(212, 999), (188, 41)]
theorem F_74 {p1 : Int32} {M : pMem} {v : Unit} {N : pMem} (h : D_74 p1 M v N) : pFr (l_74) M N :=
  (show pTf (l_74) M (D_74 p1 M) from (tf_gd fun g1 => (tf_putA pFr_refl 0 rfl fun M1 f1 => (tf_put f1 1 rfl fun M2 f2 => (tf_ret f2))))) v N h
/-- TwoCampsModel.settles(I)V -/
def S_75_0 (p1 : Int32) (P0 : pMem → pT Unit) (M : pMem) : pT Unit := tIf ((M 188 41) ≤ 0) (tRet () M) (tGd (pIn ((M 188 41) - (kI 1)) 40) <| tIf (¬ (M 212 (ix ((M 188 41) - (kI 1)))) = p1) (tRet () M) (tPut (aPut M 188 41 ((M 188 41) - (kI 1))) fun M1 => tCall (D_69 p1 (kI 0) M1) fun _ M2 => tIf (¬ p1 = (kI 9)) (P0 M2) (tPut (aPut M2 188 39 ((M2 188 39) - (kI 1))) fun M3 => P0 M3)))
def C_75 (p1 : Int32) (P0 : pMem → pT Unit) : Prop := (∀ M v N, S_75_0 p1 P0 M v N → P0 M v N)
def L_75_0 (p1 : Int32) (M : pMem) : pT Unit := fun v N => ∀ P : (pMem → pT Unit), C_75 p1 P → P M v N
def D_75 (p1 : Int32) (M : pMem) : pT Unit := tIf ((M 188 41) ≤ 0) (tRet () M) (tGd (pIn ((M 188 41) - (kI 1)) 40) <| tIf (¬ (M 212 (ix ((M 188 41) - (kI 1)))) = p1) (tRet () M) (tPut (aPut M 188 41 ((M 188 41) - (kI 1))) fun M1 => tCall (D_69 p1 (kI 0) M1) fun _ M2 => tIf (¬ p1 = (kI 9)) (L_75_0 p1 M2) (tPut (aPut M2 188 39 ((M2 188 39) - (kI 1))) fun M3 => L_75_0 p1 M3)))
theorem K_75 {X : aX} {F d : Nat} {K : Nat → aK} (hS : pS K) {p1 : Int32} {out : Option Value × aH} (P0 : pMem → pT Unit) (hC : C_75 p1 P0) : ∀ f, (∀ M, pm X F d 75 f 0 [.aload 0, .getfield 128312164, .ifCond .le 4] [.ref 188, .int p1] [] (pH K M) out → pG eU K out (P0 M)) := by
  intro f
  induction f using Nat.strongRecOn with
  | _ f ih =>
    intro M H
    refine pG_mono (fun v N h => hC M v N h) ?_
    unfold S_75_0
    replace H := pRun (ls' := [.ref 188, .int p1]) (st' := [.ref 188]) 1 rfl H
    replace H := pGetN (v := M 188 41) rfl (by decide) H
    rcases pIf0 (n1 := 4) rfl (mcb_75 rfl) (mcb_75 rfl) H with ⟨g1, g0, _, H⟩ | ⟨g1, g0, _, H⟩
    · refine pG_pos (c := (M 188 41) ≤ 0) g1 ?_
      exact pG_ret (pRetU H)
    · refine pG_neg (c := (M 188 41) ≤ 0) g1 ?_
      replace H := pRun (ls' := [.ref 188, .int p1]) (st' := [.ref 188]) 1 rfl H
      replace H := pGetR (r := 212) (pRf hS (by decide +kernel)) rfl H
      replace H := pRun (ls' := [.ref 188, .int p1]) (st' := [.ref 188, .ref 212]) 1 rfl H
      replace H := pGetN (v := M 188 41) rfl (by decide) H
      replace H := pRun (ls' := [.ref 188, .int p1]) (st' := [.int ((M 188 41) - (kI 1)), .ref 212]) 2 rfl H
      obtain ⟨g2, H⟩ := pIld (n := 40) (pLt (show pCa 212 40 = true by decide +kernel)) (pLn hS (show pCa 212 40 = true by decide +kernel)) H
      refine pG_gd g2 ?_
      replace H := pRun (ls' := [.ref 188, .int p1]) (st' := [.int p1, .int (M 212 (ix ((M 188 41) - (kI 1))))]) 1 rfl H
      rcases pIfc (n1 := 4) rfl (mcb_75 rfl) (mcb_75 rfl) H with ⟨g3, g0, _, H⟩ | ⟨g3, g0, _, H⟩
      · refine pG_pos (c := ¬ (M 212 (ix ((M 188 41) - (kI 1)))) = p1) g3 ?_
        exact pG_ret (pRetU H)
      · refine pG_neg (c := ¬ (M 212 (ix ((M 188 41) - (kI 1)))) = p1) g3 ?_
        replace H := pRun (ls' := [.ref 188, .int p1]) (st' := [.ref 188, .ref 188]) 2 rfl H
        replace H := pGetN (v := M 188 41) rfl (by decide) H
        replace H := pRun (ls' := [.ref 188, .int p1]) (st' := [.int ((M 188 41) - (kI 1)), .ref 188]) 2 rfl H
        obtain ⟨M1, eM1, H⟩ := pPutN (j := 41) rfl H
        refine pG_put (M2 := M1) eM1 ?_
        replace H := pRun (ls' := [.ref 188, .int p1]) (st' := [.int (kI 0), .int p1, .ref 188]) 3 rfl H
        obtain ⟨rv, h1, hc, H⟩ := pCalV 69 2 188 (as := [.int p1, .int (kI 0)]) (rest := []) rfl (by decide) (by decide +kernel) rfl rfl H
        obtain ⟨v1, M2, hD, H⟩ := pUseU (D_69_ok hS hc) H
        refine pG_call (x := v1) (M1 := M2) hD ?_
        replace H := pRun (ls' := [.ref 188, .int p1]) (st' := [.int (kI 9), .int p1]) 2 rfl H
        rcases pIfc (n1 := 0) rfl (mcb_75 rfl) (mcb_75 rfl) H with ⟨g4, g0, _, H⟩ | ⟨g4, g0, _, H⟩
        · refine pG_pos (c := ¬ p1 = (kI 9)) g4 ?_
          exact (ih _ (by omega))  _ H
        · refine pG_neg (c := ¬ p1 = (kI 9)) g4 ?_
          replace H := pRun (ls' := [.ref 188, .int p1]) (st' := [.ref 188, .ref 188]) 2 rfl H
          replace H := pGetN (v := M2 188 39) rfl (by decide) H
          replace H := pRun (ls' := [.ref 188, .int p1]) (st' := [.int ((M2 188 39) - (kI 1)), .ref 188]) 2 rfl H
          obtain ⟨M3, eM3, H⟩ := pPutN (j := 39) rfl H
          refine pG_put (M2 := M3) eM3 ?_
          obtain ⟨g0, _, H⟩ := pGo (n1 := 0) rfl (mcb_75 rfl) H
          exact (ih _ (by omega))  _ H
theorem L_75_0_ok {X : aX} {F d : Nat} {K : Nat → aK} (hS : pS K) {p1 : Int32} {out : Option Value × aH} {f : Nat} {M : pMem} (H : pm X F d 75 f 0 [.aload 0, .getfield 128312164, .ifCond .le 4] [.ref 188, .int p1] [] (pH K M) out) : pG eU K out (L_75_0 p1 M) := by
  refine pG_all (C := fun P : (pMem → pT Unit) => C_75 p1 P) (T := fun P => P M) eU_inj (fun _ _ _ => True) ?_ (fun P hP => (K_75 hS P hP f) _ H)
  exact (fun _ _ _ _ => trivial)
theorem D_75_ok {X : aX} {F d : Nat} {K : Nat → aK} (hS : pS K) {p1 : Int32} {M : pMem} {out : Option Value × aH} (H : aM X F d 75 [.ref 188, .int p1] (pH K M) = some out) : pG eU K out (D_75 p1 M) := by
  obtain ⟨d', g0, _, H⟩ := pEnt (n := 2) (ls := [.ref 188, .int p1]) (mcb_75 rfl) (by decide +kernel) rfl H
  unfold D_75
  replace H := pRun (ls' := [.ref 188, .int p1]) (st' := [.ref 188]) 1 rfl H
  replace H := pGetN (v := M 188 41) rfl (by decide) H
  rcases pIf0 (n1 := 4) rfl (mcb_75 rfl) (mcb_75 rfl) H with ⟨g1, g0, _, H⟩ | ⟨g1, g0, _, H⟩
  · refine pG_pos (c := (M 188 41) ≤ 0) g1 ?_
    exact pG_ret (pRetU H)
  · refine pG_neg (c := (M 188 41) ≤ 0) g1 ?_
    replace H := pRun (ls' := [.ref 188, .int p1]) (st' := [.ref 188]) 1 rfl H
    replace H := pGetR (r := 212) (pRf hS (by decide +kernel)) rfl H
    replace H := pRun (ls' := [.ref 188, .int p1]) (st' := [.ref 188, .ref 212]) 1 rfl H
    replace H := pGetN (v := M 188 41) rfl (by decide) H
    replace H := pRun (ls' := [.ref 188, .int p1]) (st' := [.int ((M 188 41) - (kI 1)), .ref 212]) 2 rfl H
    obtain ⟨g2, H⟩ := pIld (n := 40) (pLt (show pCa 212 40 = true by decide +kernel)) (pLn hS (show pCa 212 40 = true by decide +kernel)) H
    refine pG_gd g2 ?_
    replace H := pRun (ls' := [.ref 188, .int p1]) (st' := [.int p1, .int (M 212 (ix ((M 188 41) - (kI 1))))]) 1 rfl H
    rcases pIfc (n1 := 4) rfl (mcb_75 rfl) (mcb_75 rfl) H with ⟨g3, g0, _, H⟩ | ⟨g3, g0, _, H⟩
    · refine pG_pos (c := ¬ (M 212 (ix ((M 188 41) - (kI 1)))) = p1) g3 ?_
      exact pG_ret (pRetU H)
    · refine pG_neg (c := ¬ (M 212 (ix ((M 188 41) - (kI 1)))) = p1) g3 ?_
      replace H := pRun (ls' := [.ref 188, .int p1]) (st' := [.ref 188, .ref 188]) 2 rfl H
      replace H := pGetN (v := M 188 41) rfl (by decide) H
      replace H := pRun (ls' := [.ref 188, .int p1]) (st' := [.int ((M 188 41) - (kI 1)), .ref 188]) 2 rfl H
      obtain ⟨M1, eM1, H⟩ := pPutN (j := 41) rfl H
      refine pG_put (M2 := M1) eM1 ?_
      replace H := pRun (ls' := [.ref 188, .int p1]) (st' := [.int (kI 0), .int p1, .ref 188]) 3 rfl H
      obtain ⟨rv, h1, hc, H⟩ := pCalV 69 2 188 (as := [.int p1, .int (kI 0)]) (rest := []) rfl (by decide) (by decide +kernel) rfl rfl H
      obtain ⟨v1, M2, hD, H⟩ := pUseU (D_69_ok hS hc) H
      refine pG_call (x := v1) (M1 := M2) hD ?_
      replace H := pRun (ls' := [.ref 188, .int p1]) (st' := [.int (kI 9), .int p1]) 2 rfl H
      rcases pIfc (n1 := 0) rfl (mcb_75 rfl) (mcb_75 rfl) H with ⟨g4, g0, _, H⟩ | ⟨g4, g0, _, H⟩
      · refine pG_pos (c := ¬ p1 = (kI 9)) g4 ?_
        exact L_75_0_ok hS  H
      · refine pG_neg (c := ¬ p1 = (kI 9)) g4 ?_
        replace H := pRun (ls' := [.ref 188, .int p1]) (st' := [.ref 188, .ref 188]) 2 rfl H
        replace H := pGetN (v := M2 188 39) rfl (by decide) H
        replace H := pRun (ls' := [.ref 188, .int p1]) (st' := [.int ((M2 188 39) - (kI 1)), .ref 188]) 2 rfl H
        obtain ⟨M3, eM3, H⟩ := pPutN (j := 39) rfl H
        refine pG_put (M2 := M3) eM3 ?_
        obtain ⟨g0, _, H⟩ := pGo (n1 := 0) rfl (mcb_75 rfl) H
        exact L_75_0_ok hS  H
def l_75 : List (Nat × Nat) := [(188, 41), (210, 999), (211, 999), (188, 38), (188, 39)]
theorem FC_75 {p1 : Int32} : C_75 p1 (fun M _ N => pFr (l_75) M N) := fun M => show pTf (l_75) M (S_75_0 p1 _ M) from (tf_if (tf_ret pFr_refl) (tf_gd fun g2 => (tf_if (tf_ret pFr_refl) (tf_put pFr_refl 0 rfl fun M1 f1 => (tf_call f1 (fun _ _ h => F_69 h) [1, 2, 3] rfl fun _ M2 f2 => (tf_if (tf_jump f2) (tf_put f2 4 rfl fun M3 f3 => (tf_jump f3))))))))
theorem F_75 {p1 : Int32} {M : pMem} {v : Unit} {N : pMem} (h : D_75 p1 M v N) : pFr (l_75) M N :=
  (show pTf (l_75) M (D_75 p1 M) from (tf_if (tf_ret pFr_refl) (tf_gd fun g2 => (tf_if (tf_ret pFr_refl) (tf_put pFr_refl 0 rfl fun M1 f1 => (tf_call f1 (fun _ _ h => F_69 h) [1, 2, 3] rfl fun _ M2 f2 => (tf_if (tf_jumpL (fun M _ N => pFr (l_75) M N) (FC_75) rfl f2) (tf_put f2 4 rfl fun M3 f3 => (tf_jumpL (fun M _ N => pFr (l_75) M N) (FC_75) rfl f3))))))))) v N h
