/-! the interpreter is sound: the whole -/
section ZFI2
variable {X : aX} {P : zP} {G : aH → Prop} {pS kk dt yt : Nat} {h0 h h' : aH} {ρ0 ρ ρ' : Nat → Int} {n n' : Nat} {σ : zS} {K : zK} {E E' : List zE} {v u : zV} {ls st : List zV} {lsC stC : List Value} {Q : Option Value → aH → Prop} {rec : zR} {x : zX} {fsC : List cFr}
theorem aS3 {cal : Nat → List Value → aH → Option (Option Value × aH)} {i : aI} {ls st st' : List Value} (hk : aKd i = 3) (e : aV cal i ls st h = some (st', h')) : aS X cal i ls st h = some (ls, st', h') := by
  unfold aS
  rw [hk]
  show (aV cal i ls st h).map _ = _
  rw [e]
  rfl
theorem aS3c {cal : Nat → List Value → aH → Option (Option Value × aH)} {i : aI} {q : Nat} {as t ls st : List Value} (hk : aKd i = 3) (h8 : (t.map fun v => v.category).sum ≤ 8) (e : aV cal i ls st h = aGo cal q as t ls h) : aS X cal i ls st h = (match cal q as h with
    | some (rv, h') => if h'.1 = h.1 ∨ (ls ++ t).all (aOkv h.1) = true then some (ls, rv.toList ++ t, h') else none
    | none => none) := by
  unfold aS
  rw [hk]
  show (aV cal i ls st h).map _ = _
  rw [e]
  unfold aGo
  rw [if_pos h8]
  cases cal q as h with
  | none => rfl
  | some r =>
    obtain ⟨rv, h'⟩ := r
    dsimp only
    by_cases c : h'.1 = h.1 ∨ (ls ++ t).all (aOkv h.1) = true
    · rw [if_pos c, if_pos c]
      rfl
    · rw [if_neg c, if_neg c]
      rfl
/-- behind a member of the library -/
theorem zLib_s {m : Nat} {i : aI} {is : List aI} (hrec : zSnd X P G pS h0 ρ0 kk dt yt Q rec) (hkd : aKd i = 3) (hf : zGf P ρ n kk x.1 fsC) (hb : zBot dt yt x.1 x.2.1 x.2.2.1)
    (hN : zNext X P G pS h0 ρ0 ρ n h (fun n σ K E ls st => bif Nat.ble (zCats st) m then rec n σ K E x (zEnB is) ls st else false) (fun lsC' stC' h' => lsC' = lsC ∧ ((∀ P ρ n st, zGl P ρ n st stC' → zCats st ≤ m → ∀ cal, aV cal i lsC stC h = some (stC', h'))))) : zW X (x.2.1 + kk) x.2.2.1 x.2.2.2 (i :: is) lsC stC h (zCt X Q fsC) := by
  obtain ⟨n', σ', K', E', ls', st', ρ', h', lsC', stC', hk, l1, r1, g1, u1, u2, -, e1, e2⟩ := hN
  subst e1
  rcases zCd hk with ⟨c, hk⟩ | ⟨-, hk⟩
  · exact zW_step (by rw [hkd]; decide) (fun cal => aS3 hkd (e2 P ρ' n' st' u2 (zbl c) cal)) (hrec _ _ _ _ x _ _ _ hk ρ' h' fsC is lsC' stC' g1 (hf.mono l1 r1) hb rfl u1 u2)
  · cases hk
theorem zCats_le {vs : List zV} {us : List Value} (hl : zGl P ρ n vs us) {m : Nat} (hm : zCats vs ≤ m) (h8 : m ≤ 8) : (us.map fun v => v.category).sum ≤ 8 := Nat.le_trans (zCats_s hl hm h8) h8
theorem zCats_tl {vs : List zV} {us : List Value} (hl : zGl P ρ n vs us) (hm : zCats vs ≤ 9) : (us.tail.map fun v => v.category).sum ≤ 8 := by
  cases vs with
  | nil =>
    rw [zGl_nil hl]
    exact Nat.zero_le _
  | cons v r =>
    obtain ⟨u, q, rfl, h1, h2⟩ := zGl_cons hl
    have hm : zCat v + zCats r ≤ 9 := hm
    have h1 : 1 ≤ zCat v := by
      unfold zCat
      cases (Nat.beq v.1 2 || Nat.beq v.1 3)
      · cases Nat.beq v.1 9
        · exact Nat.le_refl 1
        · show 1 ≤ 9
          omega
      · show 1 ≤ 2
        omega
    exact zCats_s h2 (by omega) (Nat.le_refl 8)
theorem zInst_s {q : Nat} {i : aI} {is : List aI} (hV : zVal P) (hrec : zSnd X P G pS h0 ρ0 kk dt yt Q rec) (hC : ∀ q c, c ∈ P.con q → zCk X P G q c) (hkd : aKd i = 3)
    (hS : ∀ cal a t, stC.drop (aNA q) = .ref a :: t → a < h.1 → (h.2.2.1 a).1 = aCI q → aV cal i lsC stC h = aGo cal q (.ref a :: (stC.take (aNA q)).reverse) t lsC h)
    (hk : zInst P rec q n σ K E x (zEnB is) ls st = true) (hg : zGa X P G pS h0 ρ0 ρ n σ K E h) (hf : zGf P ρ n kk x.1 fsC) (hb : zBot dt yt x.1 x.2.1 x.2.2.1) (hl : zGl P ρ n ls lsC) (hs : zGl P ρ n st stC) : zW X (x.2.1 + kk) x.2.2.1 x.2.2.2 (i :: is) lsC stC h (zCt X Q fsC) := by
  unfold zInst at hk
  have hd := zGl_drop (m := aNA q) hs
  have ht := zGl_rev (zGl_take (m := aNA q) hs)
  split at hk
  · rename_i u t e
    rw [e] at hd
    obtain ⟨uC, tC, e2, h1, h2⟩ := zGl_cons hd
    obtain ⟨a, rfl, hca, hk⟩ := zRef_s h1 hk
    rcases zCd hk with ⟨c, hk⟩ | ⟨-, hk⟩
    · obtain ⟨c1, c2⟩ := zAnd c
      have c1 := zbe c1
      have c2 := zbt c2
      obtain ⟨b1, b2, b3, -⟩ := hg.2.1.2.2 u.2.2.2 a hca (by omega)
      exact zGo_s hV hrec hC (by rw [hkd]; decide) (fun h8 cal => aS3c hkd h8 (hS cal a tC e2 b1 (b3.trans c1))) hk hg hf hb hl ⟨h1, ht⟩ h2
    · cases hk
  · cases hk
theorem zCalls_s {i : aI} {is : List aI} (hV : zVal P) (hG : zHG P G) (hrec : zSnd X P G pS h0 ρ0 kk dt yt Q rec) (hC : ∀ q c, c ∈ P.con q → zCk X P G q c) (hkd : aKd i = 3)
    (hk : zCalls (zEn i).1 P rec ((zEn i).2.1 % 1000) n σ K E x (zEnB is) ls st = true) (hg : zGa X P G pS h0 ρ0 ρ n σ K E h) (hf : zGf P ρ n kk x.1 fsC) (hb : zBot dt yt x.1 x.2.1 x.2.2.1) (hl : zGl P ρ n ls lsC) (hs : zGl P ρ n st stC) : zW X (x.2.1 + kk) x.2.2.1 x.2.2.2 (i :: is) lsC stC h (zCt X Q fsC) := by
  cases i with
  | invokestatic k =>
    have hk : zCallS P rec (k % 1000) n σ K E x (zEnB is) ls st = true := hk
    unfold zCallS at hk
    cases c9 : Nat.blt (k % 1000) 900
    · rw [c9] at hk
      have c9 := zbtF c9
      cases c2 : Nat.beq (k % 1000) 902
      · rw [c2] at hk
        have c2 := zbn c2
        have hk : zMath (k % 1000) n σ K E ls st (fun n σ K E ls st => bif Nat.ble (zCats st) 9 then rec n σ K E x (zEnB is) ls st else false) = true := hk
        refine zLib_s (m := 9) hrec hkd hf hb (zMath_s hk hg hl hs (fun m1 m2 stC' hm => ⟨rfl, fun P ρ n st hs hm9 cal => ?_⟩))
        show (if k % 1000 = 902 then aCopy stC h else if 904 ≤ k % 1000 ∧ k % 1000 < 909 then aMath (k % 1000) stC h else _) = _
        rw [if_neg c2, if_pos ⟨m1, m2⟩]
        exact hm (zCats_tl hs hm9)
      · rw [c2] at hk
        have c2 := zbe c2
        have hk : zCopy P n σ K E ls st (fun n σ K E ls st => bif Nat.ble (zCats st) 8 then rec n σ K E x (zEnB is) ls st else false) = true := hk
        refine zLib_s (m := 8) hrec hkd hf hb (zCopy_s hV hG hk hg hl hs (fun stC' h' hm => ⟨rfl, fun P ρ n st hs hm9 cal => ?_⟩))
        show (if k % 1000 = 902 then aCopy stC h else _) = _
        rw [if_pos c2]
        exact hm (zCats_le hs hm9 (Nat.le_refl 8))
    · rw [c9] at hk
      have c9 := zbt c9
      have hk : zStat P rec (k % 1000) n σ K E x (zEnB is) ls st = true := hk
      unfold zStat at hk
      rcases zCd hk with ⟨c, hk⟩ | ⟨-, hk⟩
      · obtain ⟨c1, c2⟩ := zAnd c
        have c1 := zbe c1
        have c2 := zbe c2
        have ht := zGl_take (m := aNA (k % 1000)) hs
        refine zGo_s hV hrec hC (by rw [hkd]; decide) (fun h8 cal => aS3c hkd h8 ?_) hk hg hf hb hl (zGl_rev ht) (zGl_drop hs)
        show (if k % 1000 = 902 then _ else if 904 ≤ k % 1000 ∧ k % 1000 < 909 then _ else if (stC.take (aNA (k % 1000))).length = aNA (k % 1000) ∧ aCI (k % 1000) = 100 then aGo cal (k % 1000) (stC.take (aNA (k % 1000))).reverse (stC.drop (aNA (k % 1000))) lsC h else none) = _
        rw [if_neg (by omega), if_neg (by omega), if_pos ⟨by rw [← zGl_len ht]; exact c1, c2⟩]
      · cases hk
  | invokespecial k =>
    have hk : zCallP P rec (k % 1000) n σ K E x (zEnB is) ls st = true := hk
    unfold zCallP at hk
    cases c : Nat.beq (k % 1000) 903
    · rw [c] at hk
      have c := zbn c
      refine zInst_s hV hrec hC hkd (fun cal a t e h1 h2 => ?_) hk hg hf hb hl hs
      show (if k % 1000 = 903 then _ else (match stC.drop (aNA (k % 1000)) with
        | .ref a :: t => if a < h.1 ∧ (h.2.2.1 a).1 = aCI (k % 1000) then aGo cal (k % 1000) (.ref a :: (stC.take (aNA (k % 1000))).reverse) t lsC h else none
        | _ => none)) = _
      rw [if_neg c, e]
      exact if_pos ⟨h1, h2⟩
    · rw [c] at hk
      have c := zbe c
      have hk : zObj P rec (k % 1000) n σ K E x (zEnB is) ls st = true := hk
      match st, hk, hs with
      | [], hk, _ => cases hk
      | u :: t, hk, hs =>
        obtain ⟨uC, tC, rfl, h1, h2⟩ := zGl_cons hs
        have hk : zRef u (fun a => bif (Nat.blt a 700 && Nat.blt a K.1) && Nat.ble (zCats t) 8 then rec n σ K E x (zEnB is) ls t else false) = true := hk
        obtain ⟨a, rfl, hca, hk⟩ := zRef_s h1 hk
        rcases zCd hk with ⟨d, hk⟩ | ⟨-, hk⟩
        · obtain ⟨d1, d2⟩ := zAnd d
          obtain ⟨d1, d3⟩ := zAnd d1
          have d1 := zbt d1
          have d2 := zbl d2
          have d3 := zbt d3
          have ea := zGc_ex hca d1
          refine zW_step (by rw [hkd]; decide) (fun cal => aS3 hkd (st' := tC) (h' := h) ?_) (hrec _ _ _ _ x _ _ _ hk ρ h fsC is lsC tC hg hf hb rfl hl h2)
          show (if k % 1000 = 903 then (if a < h.1 ∧ (tC.map fun v => v.category).sum ≤ 8 then some (tC, h) else none) else _) = _
          rw [if_pos c, if_pos ⟨by rw [hg.2.1.1, ea]; exact d3, zCats_s h2 d2 (Nat.le_refl 8)⟩]
        · cases hk
  | invokevirtual k =>
    have hk : zCallV P rec (k % 1000) n σ K E x (zEnB is) ls st = true := hk
    unfold zCallV at hk
    have inst : zInst P rec (k % 1000) n σ K E x (zEnB is) ls st = true → k % 1000 ≠ 900 → k % 1000 ≠ 901 → zW X (x.2.1 + kk) x.2.2.1 x.2.2.2 (.invokevirtual k :: is) lsC stC h (zCt X Q fsC) := by
      intro hk n0 n1
      refine zInst_s hV hrec hC hkd (fun cal a t e h1 h2 => ?_) hk hg hf hb hl hs
      show (if k % 1000 = 900 then _ else if k % 1000 = 901 then _ else (match stC.drop (aNA (k % 1000)) with
        | .ref a :: t => if a < h.1 ∧ (h.2.2.1 a).1 = aCI (k % 1000) then aGo cal (k % 1000) (.ref a :: (stC.take (aNA (k % 1000))).reverse) t lsC h else none
        | _ => none)) = _
      rw [if_neg n0, if_neg n1, e]
      exact if_pos ⟨h1, h2⟩
    cases c9 : Nat.blt (k % 1000) 900
    · rw [c9] at hk
      cases c0 : Nat.beq (k % 1000) 900
      · rw [c0] at hk
        have c0 := zbn c0
        cases c1 : Nat.beq (k % 1000) 901
        · rw [c1] at hk
          exact inst hk c0 (zbn c1)
        · rw [c1] at hk
          have c1 := zbe c1
          have hk : zStrC n σ K E ls st (fun n σ K E ls st => bif Nat.ble (zCats st) 9 then rec n σ K E x (zEnB is) ls st else false) = true := hk
          match st, hk, hs with
          | [], hk, _ => cases hk
          | [_], hk, _ => cases hk
          | j :: u :: t, hk, hs =>
            obtain ⟨jC, q0, rfl, hj, hs0⟩ := zGl_cons hs
            obtain ⟨uC, tC, rfl, h1, h2⟩ := zGl_cons hs0
            have hk : zStrA u (fun s => zIn σ j s.length fun _ _ => bif Nat.ble (zCats (zAny :: t)) 9 then rec n σ K E x (zEnB is) ls (zAny :: t) else false) = true := hk
            obtain ⟨a, rfl, a1, a2, hk⟩ := zStrA_s h1 hk
            obtain ⟨y, lo, hi, rfl, -, -, -, -, hk, hin, -⟩ := zIn_s hg.1 hj hk
            rcases zCd hk with ⟨c8, hk⟩ | ⟨-, hk⟩
            · refine zW_step (by rw [hkd]; decide) (fun cal => aS3 hkd (st' := .int (aChr (aStr.getD (a - 90001) "") y.toNatClampNeg) :: tC) (h' := h) ?_) (hrec _ _ _ _ x _ _ _ hk ρ h fsC is lsC _ hg hf hb rfl hl ⟨zGi (zAny_s _), h2⟩)
              show (if k % 1000 = 900 then _ else if k % 1000 = 901 then (if 90001 ≤ a ∧ a < 90001 + aStr.length ∧ aInR y (aStr.getD (a - 90001) "").length = true ∧ (tC.map fun v => v.category).sum ≤ 8 then _ else none) else _) = _
              rw [if_neg c0, if_pos c1, if_pos ⟨a1, a2, hin, zCats_tl (vs := zAny :: t) (us := .int y :: tC) ⟨zGi (zAny_s _), h2⟩ (zbl c8)⟩]
            · cases hk
      · rw [c0] at hk
        have c0 := zbe c0
        have hk : zStrL n σ K E ls st (fun n σ K E ls st => bif Nat.ble (zCats st) 9 then rec n σ K E x (zEnB is) ls st else false) = true := hk
        match st, hk, hs with
        | [], hk, _ => cases hk
        | u :: t, hk, hs =>
          obtain ⟨uC, tC, rfl, h1, h2⟩ := zGl_cons hs
          have hk : zStrA u (fun s => bif Nat.blt s.length 1000 then (bif Nat.ble (zCats (zc 0 (Int.ofNat s.length) :: t)) 9 then rec n σ K E x (zEnB is) ls (zc 0 (Int.ofNat s.length) :: t) else false) else false) = true := hk
          obtain ⟨a, rfl, a1, a2, hk⟩ := zStrA_s h1 hk
          rcases zCd hk with ⟨c, hk⟩ | ⟨-, hk⟩
          · have c := zbt c
            rcases zCd hk with ⟨c8, hk⟩ | ⟨-, hk⟩
            · refine zW_step (by rw [hkd]; decide) (fun cal => aS3 hkd (st' := .int (Int32.ofNat (aStr.getD (a - 90001) "").length) :: tC) (h' := h) ?_) (hrec _ _ _ _ x _ _ _ hk ρ h fsC is lsC _ hg hf hb rfl hl ⟨zGi (znC (w := 0) (by rw [Int32.toInt_ofNat_of_lt (by omega)]; rfl)), h2⟩)
              show (if k % 1000 = 900 then (if 90001 ≤ a ∧ a < 90001 + aStr.length ∧ (tC.map fun v => v.category).sum ≤ 8 then _ else none) else _) = _
              rw [if_pos c0, if_pos ⟨a1, a2, zCats_tl (vs := zAny :: t) (us := .int 0 :: tC) ⟨zGi (zAny_s _), h2⟩ (Nat.le_trans (by show zCats (zAny :: t) ≤ zCats (zc 0 (Int.ofNat _) :: t); exact Nat.le_refl _) (zbl c8))⟩]
            · cases hk
          · cases hk
    · rw [c9] at hk
      have c9 := zbt c9
      exact inst hk (by omega) (by omega)
  | _ => exact absurd hkd (by first | (show ¬ (0 = 3); decide) | (show ¬ (1 = 3); decide) | (show ¬ (2 = 3); decide) | (show ¬ (4 = 3); decide))
/-- one step -/
theorem zStep_s (hV : zVal P) (hG : zHG P G) (hI : zHI X P G pS h0 ρ0 kk dt yt Q) (hF : zHF X P G pS h0 ρ0 Q) (hC : ∀ q c, c ∈ P.con q → zCk X P G q c) (hrec : zSnd X P G pS h0 ρ0 kk dt yt Q rec) : zSnd X P G pS h0 ρ0 kk dt yt Q (zStep P rec) := by
  intro n σ K E x is ls st hk ρ h fsC isC lsC stC hg hf hb his hl hs
  subst his
  cases isC with
  | nil =>
    have hk : zJ P rec n σ K E x (x.2.2.2 + 1) ls st = true := hk
    obtain ⟨l, h1, h2⟩ := zJ_s hV hrec hI hk hg hf hb hl hs
    exact zW_fall h1 h2
  | cons i is =>
    have hk : zSk (zEn i).1 P rec (zEn i) (zEnB is) n σ K E x ls st = true := hk
    unfold zSk at hk
    rcases zEn_k i with ⟨e1, e2⟩ | ⟨e1, e2, e3⟩ | ⟨e1, e2, e3⟩ | e1
    · have c : Nat.blt (zEn i).1 48 = true := by
        cases c : Nat.blt (zEn i).1 48
        · have := zbtF c; omega
        · rfl
      rw [c] at hk
      have hk : zDq P (zEn i) n σ K E ls st (fun n σ K E ls st => rec n σ K E x (zEnB is) ls st) = true := hk
      obtain ⟨n', σ', K', E', ls', st', ρ', h', lsC', stC', hk, l1, r1, g1, u1, u2, -, e4⟩ := zDq_s hV hG hk e2 hg hl hs
      exact zW_step (by omega) e4 (hrec _ _ _ _ x _ _ _ hk ρ' h' fsC is lsC' stC' g1 (hf.mono l1 r1) hb rfl u1 u2)
    · have c : Nat.blt (zEn i).1 48 = false := by
        cases c : Nat.blt (zEn i).1 48
        · rfl
        · have := zbt c; omega
      have c2 : Nat.blt (zEn i).1 57 = true := by
        cases c : Nat.blt (zEn i).1 57
        · have := zbtF c; omega
        · rfl
      rw [c, c2] at hk
      exact zEnd_s hV hrec hI hF hk e3 hg hf hb hl hs
    · have c : Nat.blt (zEn i).1 48 = false := by
        cases c : Nat.blt (zEn i).1 48
        · rfl
        · have := zbt c; omega
      have c2 : Nat.blt (zEn i).1 57 = false := by
        cases c : Nat.blt (zEn i).1 57
        · rfl
        · have := zbt c; omega
      rw [c, c2] at hk
      exact zCalls_s hV hG hrec hC e3 hk hg hf hb hl hs
    · rw [e1] at hk
      have hk : zCalls (zEn i).1 P rec ((zEn i).2.1 % 1000) n σ K E x (zEnB is) ls st = true := hk
      rw [e1] at hk
      cases hk
theorem zGoX_s (hV : zVal P) (hG : zHG P G) (hI : zHI X P G pS h0 ρ0 kk dt yt Q) (hF : zHF X P G pS h0 ρ0 Q) (hC : ∀ q c, c ∈ P.con q → zCk X P G q c) : ∀ f, zSnd X P G pS h0 ρ0 kk dt yt Q (zGoX P f) := by
  intro f
  induction f with
  | zero => intro n σ K E x is ls st hk; cases hk
  | succ f ih => exact zStep_s hV hG hI hF hC ih
end ZFI2
