/-! calls; the whole -/
section ZCL
variable {X : aX} {P : zP} {G : aH → Prop} {pS kk dt yt : Nat} {h0 h h' : aH} {ρ0 ρ ρ' : Nat → Int} {n n' : Nat} {σ : zS} {K : zK} {E E' : List zE} {v u : zV} {ls st : List zV} {lsC stC : List Value} {Q : Option Value → aH → Prop} {rec : zR} {x : zX} {fsC : List cFr}
  {k : Nat → zS → zK → List zE → List zV → List zV → Bool} {C : List Value → List Value → aH → Prop}
theorem zFl_s {as : List zV} {asC : List Value} (hl : zGl P ρ n as asC) (h4 : zAll (fun v => Nat.ble v.1 4) as = true) : zGl P ρ n (zFl as) (aFl asC) ∧ aD ∉ asC := by
  induction as generalizing asC with
  | nil =>
    rw [zGl_nil hl]
    exact ⟨trivial, fun h => by cases h⟩
  | cons v r ih =>
    obtain ⟨u, q, rfl, h1, h2⟩ := zGl_cons hl
    unfold zAll at h4
    obtain ⟨h4, h5⟩ := zAnd h4
    have h4 := zbl h4
    obtain ⟨i1, i2⟩ := ih h2 h5
    rw [aFl_cons]
    rcases h1 with ⟨t, y, rfl, hy⟩ | ⟨t, y, rfl, hy⟩ | ⟨t, y, rfl, hy⟩ | ⟨t, -⟩ | t
    · have c : (Nat.beq v.1 2 || Nat.beq v.1 3) = false := by
        have : v.1 = 0 ∨ v.1 = 1 := by omega
        rcases this with e | e <;> rw [e] <;> rfl
      refine ⟨?_, fun hm => ?_⟩
      · show zGl P ρ n (bif (Nat.beq v.1 2 || Nat.beq v.1 3) then _ else v :: zFl r) _
        rw [c]
        exact ⟨zGi hy, i1⟩
      · rcases List.mem_cons.mp hm with e | e
        · cases e
        · exact i2 e
    · have c : (Nat.beq v.1 2 || Nat.beq v.1 3) = true := by
        rcases t with e | e <;> rw [e] <;> rfl
      refine ⟨?_, fun hm => ?_⟩
      · show zGl P ρ n (bif (Nat.beq v.1 2 || Nat.beq v.1 3) then v :: (6, z0, z0, 0) :: zFl r else _) _
        rw [c]
        exact ⟨zGj hy, zGd, i1⟩
      · rcases List.mem_cons.mp hm with e | e
        · cases e
        · exact i2 e
    · have c : (Nat.beq v.1 2 || Nat.beq v.1 3) = false := by rw [t]; rfl
      refine ⟨?_, fun hm => ?_⟩
      · show zGl P ρ n (bif (Nat.beq v.1 2 || Nat.beq v.1 3) then _ else v :: zFl r) _
        rw [c]
        exact ⟨Or.inr (Or.inr (Or.inl ⟨t, y, rfl, hy⟩)), i1⟩
      · rcases List.mem_cons.mp hm with e | e
        · cases e
        · exact i2 e
    · omega
    · omega
theorem zGl_rep {m : Nat} : zGl P ρ n (List.replicate m (6, z0, z0, 0)) (List.replicate m aD) := by
  induction m with
  | zero => exact trivial
  | succ m ih => exact ⟨zGd, ih⟩
theorem zAny1_s {cs : List zCo} {f : zCo → Bool} (h : zAny1 cs f = true) : ∃ c ∈ cs, f c = true := by
  induction cs with
  | nil => cases h
  | cons c r ih =>
    rcases zOr h with h | h
    · exact ⟨c, List.mem_cons_self, h⟩
    · obtain ⟨c', h1, h2⟩ := ih h
      exact ⟨c', List.mem_cons_of_mem _ h1, h2⟩
/-- a call -/
theorem zGo_s {q : Nat} {as : List zV} {asC tC : List Value} {i : aI} {is : List aI} (hV : zVal P) (hrec : zSnd X P G pS h0 ρ0 kk dt yt Q rec) (hC : ∀ q c, c ∈ P.con q → zCk X P G q c) (hkd : aKd i ≠ 4)
    (hS : (tC.map fun v => v.category).sum ≤ 8 → ∀ cal, aS X cal i lsC stC h = (match cal q asC h with
      | some (rv, h') => if h'.1 = h.1 ∨ (lsC ++ tC).all (aOkv h.1) = true then some (lsC, rv.toList ++ tC, h') else none
      | none => none))
    (hk : zGo P rec q as n σ K E x (zEnB is) ls st = true) (hg : zGa X P G pS h0 ρ0 ρ n σ K E h) (hf : zGf P ρ n kk x.1 fsC) (hb : zBot dt yt x.1 x.2.1 x.2.2.1) (hl : zGl P ρ n ls lsC) (ha : zGl P ρ n as asC) (hs : zGl P ρ n st tC) : zW X (x.2.1 + kk) x.2.2.1 x.2.2.2 (i :: is) lsC stC h (zCt X Q fsC) := by
  unfold zGo at hk
  rcases zCd hk with ⟨c, hk⟩ | ⟨-, hk⟩
  · have hS := hS (zCats_s hs (zbl c) (Nat.le_refl 8))
    obtain ⟨n1, σ1, ρ1, as1, hk, l1, r1, g1, a1⟩ := zMas_s hg ha hk
    have hf1 := hf.mono l1 r1
    have hl1 := hl.mono l1 r1
    have hs1 := hs.mono l1 r1
    refine zW_call hkd hS ?_
    have hcon : (∃ cs, P.con q = cs ∧ zGo1 P rec q (zEnB is) K x ls st n1 σ1 E as1 cs = true) := ⟨_, rfl, hk⟩
    obtain ⟨cs, ecs, hk⟩ := hcon
    cases cs with
    | nil =>
      have hk : zInl P rec q as1 n1 σ1 K E x (zEnB is) ls st x.2.1 = true := hk
      obtain ⟨fs, dd, y, b⟩ := x
      cases dd with
      | zero => cases hk
      | succ d =>
        have hk : (bif Nat.ble (zFl as1).length (aML q) && zAll (fun v => Nat.ble v.1 4) as1 then zBlk (P.bk q) 0 (fun l => rec n1 σ1 K E ((d + 1, K.1, y, b, zEnB is, ls, st) :: fs, d, q, 0) l (zEnt as1 (aML q)) []) else false) = true := hk
        rcases zCd hk with ⟨c1, hk⟩ | ⟨-, hk⟩
        · obtain ⟨c1, c2⟩ := zAnd c1
          have c1 := zbl c1
          obtain ⟨f1, f2⟩ := zFl_s a1 c2
          obtain ⟨l, e1, hk⟩ := zBk_s hV hk
          have hent : zGl P ρ1 n1 (zEnt as1 (aML q)) (aEn asC (aML q)) := by
            unfold zEnt aEn
            rw [zGl_len f1]
            exact zGl_app f1 zGl_rep
          have := hrec _ _ _ _ ((d + 1, K.1, y, b, zEnB is, ls, st) :: fs, d, q, 0) _ _ _ hk ρ1 h ((d + 1 + kk, h.1, y, b, is, lsC, tC) :: fsC) l (aEn asC (aML q)) [] g1 ⟨⟨rfl, g1.2.1.1, rfl, rfl, rfl, hl1, hs1⟩, hf1⟩ hb rfl hent trivial
          have h2 := zRn_of (X := X) (d := d + kk) (y := q) (as := asC) ⟨by rw [← zGl_len f1]; exact c1, f2⟩ e1 this
          rw [show d + kk + 1 = d + 1 + kk by omega] at h2
          exact h2
        · cases hk
    | cons c0 cs =>
      obtain ⟨k0, hk⟩ := zAnd (show ((zNil K.2.2 && zNo P.al) && zAny1 (c0 :: cs) fun c => zCon P c x.2.1 n1 σ1 E as1 fun n σ E rv => rec n σ K E x (zEnB is) ls (rv ++ st)) = true from hk)
      obtain ⟨k1, k2⟩ := zAnd k0
      obtain ⟨c, hc, hk⟩ := zAny1_s hk
      rw [← ecs] at hc
      have := zCon_s (kk := kk) hV (hC q c hc) (zNo_s k2) (zNil_s k1) g1 a1 hk
      refine this.mono (fun rv h' hq => ?_)
      obtain ⟨e1, n2, σ2, E2, rvA, ρ2, hk, l2, r2, g2, u2⟩ := hq
      refine ⟨Or.inl e1, ?_⟩
      exact hrec _ _ _ _ x _ _ _ hk ρ2 h' fsC is lsC (rv.toList ++ tC) g2 (hf1.mono l2 r2) hb rfl (hl1.mono l2 r2) (zGl_app u2 (hs1.mono l2 r2))
  · cases hk
/-! what the library has by itself -/
theorem zMath_s {m : Nat} (hk : zMath m n σ K E ls st k = true) (hg : zGa X P G pS h0 ρ0 ρ n σ K E h) (hl : zGl P ρ n ls lsC) (hs : zGl P ρ n st stC) (hC : 904 ≤ m → m < 909 → ∀ stC', ((stC'.tail.map fun v => v.category).sum ≤ 8 → aMath m stC h = some (stC', h)) → C lsC stC' h) : zNext X P G pS h0 ρ0 ρ n h k C := by
  unfold zMath at hk
  by_cases e4 : m = 904
  · subst e4
    have hk : zUn zAbs n σ K E ls st k = true := hk
    obtain ⟨y, t, uy, tC, rfl, rfl, h1, h2, hk⟩ := zUn_i hk hs
    obtain ⟨a, rfl, ha⟩ := zG_rgi h1 hk
    obtain ⟨v, hv, hk⟩ := zo_abs hg.1 ha hk
    exact zNx (stC := .int (if 0 ≤ a then a else 0 - a) :: tC) hk hg hl ⟨zGi hv, h2⟩ (hC (by omega) (by omega) _ (fun h8 => by show (if _ then some (Value.int (if 0 ≤ a then a else 0 - a) :: tC, h) else none) = _; exact if_pos h8))
  · by_cases e5 : m = 905
    · subst e5
      have hk : zBin zFld n σ K E ls st k = true := hk
      refine zBin_ii (zt_rg2 (fun _ _ _ _ => rfl)) hg hl hs hk (fun y z a b t kk' e h1 h2 h3 => ?_)
      obtain ⟨hb, v, hv, hk⟩ := zo_fld hg.1 h1 h2 h3
      refine ⟨v, _, hv, hk, hC (by omega) (by omega) _ (fun h8 => ?_)⟩
      subst e
      show (if b ≠ 0 ∧ _ then some (Value.int (if (a ^^^ b) < 0 then if a / b * b = a then a / b else a / b - 1 else a / b) :: t, h) else none) = _
      exact if_pos ⟨hb, h8⟩
    · by_cases e6 : m = 906
      · subst e6
        have hk : zBin (zMm 2 true) n σ K E ls st k = true := hk
        refine zBin_jj (zt_rg2 (fun _ _ _ _ => rfl)) hg hl hs hk (fun y z a b t kk' e h1 h2 h3 => ?_)
        obtain ⟨v, hv, hk⟩ := zMm_s (Z := (if b < a then a else b).toInt) hg.1 h1 h2 ⟨fun q => by
          rw [if_neg (fun z => by have := Int64.lt_iff_toInt_lt.mp z; omega)]
          rfl, fun q => by
          by_cases z : b < a
          · rw [if_pos z]
            rfl
          · rw [if_neg z]
            have : ¬ b.toInt < a.toInt := fun y => z (Int64.lt_iff_toInt_lt.mpr y)
            show b.toInt = a.toInt
            omega⟩ h3
        refine ⟨v, _, hv, hk, hC (by omega) (by omega) _ (fun h8 => ?_)⟩
        subst e
        show (if _ then some (Value.long (if b < a then a else b) :: t, h) else none) = _
        exact if_pos h8
      · by_cases e7 : m = 907
        · subst e7
          have hk : zBin (zMm 0 false) n σ K E ls st k = true := hk
          refine zBin_ii (zt_rg2 (fun _ _ _ _ => rfl)) hg hl hs hk (fun y z a b t kk' e h1 h2 h3 => ?_)
          obtain ⟨v, hv, hk⟩ := zMm_s (Z := (if b < a then b else a).toInt) hg.1 h1 h2 ⟨fun q => by
            rw [if_neg (fun z => by have := Int32.lt_iff_toInt_lt.mp z; omega)]
            rfl, fun q => by
            by_cases z : b < a
            · rw [if_pos z]
              rfl
            · rw [if_neg z]
              have : ¬ b.toInt < a.toInt := fun y => z (Int32.lt_iff_toInt_lt.mpr y)
              show a.toInt = b.toInt
              omega⟩ h3
          refine ⟨v, _, hv, hk, hC (by omega) (by omega) _ (fun h8 => ?_)⟩
          subst e
          show (if _ then some (Value.int (if b < a then b else a) :: t, h) else none) = _
          exact if_pos h8
        · by_cases e8 : m = 908
          · subst e8
            have hk : zBin (zMm 2 false) n σ K E ls st k = true := hk
            refine zBin_jj (zt_rg2 (fun _ _ _ _ => rfl)) hg hl hs hk (fun y z a b t kk' e h1 h2 h3 => ?_)
            obtain ⟨v, hv, hk⟩ := zMm_s (Z := (if b < a then b else a).toInt) hg.1 h1 h2 ⟨fun q => by
              rw [if_neg (fun z => by have := Int64.lt_iff_toInt_lt.mp z; omega)]
              rfl, fun q => by
              by_cases z : b < a
              · rw [if_pos z]
                rfl
              · rw [if_neg z]
                have : ¬ b.toInt < a.toInt := fun y => z (Int64.lt_iff_toInt_lt.mpr y)
                show a.toInt = b.toInt
                omega⟩ h3
            refine ⟨v, _, hv, hk, hC (by omega) (by omega) _ (fun h8 => ?_)⟩
            subst e
            show (if _ then some (Value.long (if b < a then b else a) :: t, h) else none) = _
            exact if_pos h8
          · have nb : ∀ c : Nat, m ≠ c → Nat.beq m c = false := fun c hc => by
              cases hb : Nat.beq m c
              · rfl
              · exact absurd (zbe hb) hc
            rw [nb _ e4, nb _ e5, nb _ e6, nb _ e7, nb _ e8] at hk
            cases hk
theorem zCopyE_m {a b m : Nat} {E d : List zE} {e : zE} (he : e ∈ zCopyE a b m E d) : e ∈ d ∨ ∃ e0 ∈ E, e0.1 = b ∧ e0.2.2.1 ≤ m ∧ e = (a, e0.2) := by
  induction E with
  | nil => exact Or.inl he
  | cons z r ih =>
    unfold zCopyE at he
    cases c : (Nat.beq z.1 b && Nat.ble z.2.2.1 m)
    · rw [c] at he
      rcases ih he with h1 | ⟨e0, h1, h2⟩
      · exact Or.inl h1
      · exact Or.inr ⟨e0, List.mem_cons_of_mem _ h1, h2⟩
    · rw [c] at he
      obtain ⟨c1, c2⟩ := zAnd c
      rcases List.mem_cons.mp he with rfl | he
      · exact Or.inr ⟨z, List.mem_cons_self, zbe c1, zbl c2, rfl⟩
      · rcases ih he with h1 | ⟨e0, h1, h2⟩
        · exact Or.inl h1
        · exact Or.inr ⟨e0, List.mem_cons_of_mem _ h1, h2⟩
theorem zCopy_s (hV : zVal P) (hG : zHG P G) (hk : zCopy P n σ K E ls st k = true) (hg : zGa X P G pS h0 ρ0 ρ n σ K E h) (hl : zGl P ρ n ls lsC) (hs : zGl P ρ n st stC) (hC : ∀ stC' h', ((stC'.map fun v => v.category).sum ≤ 8 → aCopy stC h = some (stC', h')) → C lsC stC' h') : zNext X P G pS h0 ρ0 ρ n h k C := by
  match st, hk, hs with
  | [], hk, _ => cases hk
  | [_], hk, _ => cases hk
  | [_, _], hk, _ => cases hk
  | [_, _, _], hk, _ => cases hk
  | [_, _, _, _], hk, _ => cases hk
  | m :: dp :: u :: sp :: w :: t, hk, hs =>
    obtain ⟨u1, q1, rfl, hm, hs1⟩ := zGl_cons hs
    obtain ⟨u2, q2, rfl, hd, hs2⟩ := zGl_cons hs1
    obtain ⟨u3, q3, rfl, hu, hs3⟩ := zGl_cons hs2
    obtain ⟨u4, q4, rfl, hp, hs4⟩ := zGl_cons hs3
    obtain ⟨u5, q, rfl, hw, hs5⟩ := zGl_cons hs4
    have hk : zRef u (fun a => zRef w fun b => zRg 0 σ m fun ml mh => zRg 0 σ dp fun dl dh => zRg 0 σ sp fun sl sh => zCopyK P a b n σ K E ls t k ml mh dl dh sl sh) = true := hk
    obtain ⟨a, rfl, hca, hk⟩ := zRef_s hu hk
    obtain ⟨b, rfl, hcb, hk⟩ := zRef_s hw hk
    obtain ⟨M, rfl, hM⟩ := zG_rgi hm hk
    obtain ⟨ml, mh, m1, m2, hk⟩ := zRg_s hg.1 hM hk
    obtain ⟨D, rfl, hD⟩ := zG_rgi hd hk
    obtain ⟨dl, dh, d1, d2, hk⟩ := zRg_s hg.1 hD hk
    obtain ⟨S, rfl, hS⟩ := zG_rgi hp hk
    obtain ⟨sl, sh, s1, s2, hk⟩ := zRg_s hg.1 hS hk
    unfold zCopyK at hk
    rcases zCd hk with ⟨c, hk⟩ | ⟨-, hk⟩
    · unfold zCopyOk at c
      obtain ⟨c1, c2⟩ := zAnd c
      obtain ⟨c1, c3⟩ := zAnd c1
      obtain ⟨c2, c4⟩ := zAnd c2
      obtain ⟨c2, c5⟩ := zAnd c2
      obtain ⟨c5, c6⟩ := zAnd c5
      obtain ⟨c4, c7⟩ := zAnd c4
      have c1 := zbe c1
      have c3 := zbe c3
      have c2 := zl c2
      have c5 := zl c5
      have c6 := zl c6
      have c4 := zl c4
      have c7 := zl c7
      rw [z0_eq] at c2 c5 c6
      obtain ⟨a1, a2, a3, a4, -⟩ := hg.2.1.2.2 u.2.2.2 a hca (by omega)
      obtain ⟨b1, b2, b3, b4, -⟩ := hg.2.1.2.2 w.2.2.2 b hcb (by omega)
      have a4 := a4 (by omega)
      have b4 := b4 (by omega)
      rw [← a4] at c4
      rw [← b4] at c7
      have ka : (h.2.2.1 a).1 = 100 := a3.trans c1
      have kb : (h.2.2.1 b).1 = 100 := b3.trans c3
      have ea : ∀ l : Nat, Int.ofNat l = (l : Int) := fun _ => rfl
      rw [ea] at c4 c7
      have eM : (M.toNatClampNeg : Int) = M.toInt := by show ((M.toInt.toNat : Nat) : Int) = _; omega
      have eD : (D.toNatClampNeg : Int) = D.toInt := by show ((D.toInt.toNat : Nat) : Int) = _; omega
      have eS : (S.toNatClampNeg : Int) = S.toInt := by show ((S.toInt.toNat : Nat) : Int) = _; omega
      have hC := hC q (h.1, h.2.1, h.2.2.1, aRow h.2.2.2 a (va_cpy (h.2.2.2 b) (h.2.2.2 a) S.toNatClampNeg D.toNatClampNeg M.toNatClampNeg)) (fun h8 => by
        show (if _ then some (q, _) else none) = _
        rw [if_pos ⟨h8, a1, b1, ka, kb, by omega, by omega, by omega, by omega, by omega⟩])
      have pa : zPl h (a * 128 + 127) := zPla a1 a2 (by omega)
      have pb : zPl h (b * 128 + 127) := zPla b1 b2 (by omega)
      have hm0 : ∀ p i, zPl h p → p ≠ a * 128 + 127 → zM (h.1, h.2.1, h.2.2.1, aRow h.2.2.2 a (va_cpy (h.2.2.2 b) (h.2.2.2 a) S.toNatClampNeg D.toNatClampNeg M.toNatClampNeg)) p i = zM h p i := by
        intro p i hp2 hne
        have hpa : p / 128 ≠ a := by
          intro z
          obtain ⟨-, -, hp3⟩ := hp2
          by_cases c7' : p % 128 = 127
          · exact hne (zPl_dm z c7')
          · rw [if_neg c7', z] at hp3
            omega
        show aRow h.2.2.2 a _ (p / 128) _ = _
        rw [aRow_ne hpa]
        rfl
      have hma : ∀ i, zM (h.1, h.2.1, h.2.2.1, aRow h.2.2.2 a (va_cpy (h.2.2.2 b) (h.2.2.2 a) S.toNatClampNeg D.toNatClampNeg M.toNatClampNeg)) (a * 128 + 127) i = if D.toNatClampNeg ≤ i ∧ i < D.toNatClampNeg + M.toNatClampNeg then h.2.2.2 b (S.toNatClampNeg + (i - D.toNatClampNeg)) else h.2.2.2 a i := by
        intro i
        rw [zMa']
        show aRow h.2.2.2 a _ a i = _
        rw [aRow_self]
        rfl
      have trim : ∀ p i, zPl h p → (p = a * 128 + 127 → (i < 0 ∨ (h.2.2.1 a).2.1 ≤ i)) → (p % 128 ≠ 127 → i = 0) → zM (h.1, h.2.1, h.2.2.1, aRow h.2.2.2 a (va_cpy (h.2.2.2 b) (h.2.2.2 a) S.toNatClampNeg D.toNatClampNeg M.toNatClampNeg)) p i = zM h p i := by
        intro p i hp2 hn _
        by_cases z : p = a * 128 + 127
        · rw [z, hma, zMa', if_neg (by have := hn z; omega)]
        · exact hm0 p i hp2 z
      have hoff : zBit P.wm (a * 128 + 127) = true → zOff P.wm h.2.2.1 h.2.2.2 (aRow h.2.2.2 a (va_cpy (h.2.2.2 b) (h.2.2.2 a) S.toNatClampNeg D.toNatClampNeg M.toNatClampNeg)) := by
        intro hbit z
        by_cases e : z = a
        · subst e
          exact ⟨fun q1 => by omega, fun _ q2 => by rw [hbit] at q2; cases q2⟩
        · exact ⟨fun _ f _ _ => by rw [aRow_ne e], fun _ _ => by rw [aRow_ne e]⟩
      have hkp : zLo P (a * 128 + 127) ≤ D.toNatClampNeg → zKp P h.2.2.1 h.2.2.2 (aRow h.2.2.2 a (va_cpy (h.2.2.2 b) (h.2.2.2 a) S.toNatClampNeg D.toNatClampNeg M.toNatClampNeg)) := by
        intro hle z i _ hi
        by_cases e : z = a
        · subst e
          rw [aRow_self]
          show (if D.toNatClampNeg ≤ i ∧ i < D.toNatClampNeg + M.toNatClampNeg then _ else _) = _
          rw [if_neg (by omega)]
        · rw [aRow_ne e]
      have hI : (P.zI (a * 128 + 127)).1 ≤ (P.zI (w.2.2.2 * 128 + 127)).1 → (P.zI (w.2.2.2 * 128 + 127)).2 ≤ (P.zI (a * 128 + 127)).2 → zGI P (h.1, h.2.1, h.2.2.1, aRow h.2.2.2 a (va_cpy (h.2.2.2 b) (h.2.2.2 a) S.toNatClampNeg D.toNatClampNeg M.toNatClampNeg)) := by
        intro l1 l2 p i hp2 hi
        by_cases z : p = a * 128 + 127
        · rw [z, hma]
          by_cases z2 : D.toNatClampNeg ≤ i ∧ i < D.toNatClampNeg + M.toNatClampNeg
          · rw [if_pos z2]
            have hb2 := hg.2.2.2.1 (b * 128 + 127) (S.toNatClampNeg + (i - D.toNatClampNeg)) pb (fun _ => by rw [show (b * 128 + 127) / 128 = b by omega]; omega)
            rw [zMa'] at hb2
            have hbs : (P.zI (w.2.2.2 * 128 + 127)).1 ≤ (P.zI (b * 128 + 127)).1 ∧ (P.zI (b * 128 + 127)).2 ≤ (P.zI (w.2.2.2 * 128 + 127)).2 := by
              by_cases q5 : w.2.2.2 < 700
              · rw [zGc_ex hcb q5]
                exact ⟨Int.le_refl _, Int.le_refl _⟩
              · obtain ⟨p1, p2, p3⟩ := zGc_ps hcb q5 b2
                exact (hV.2.1 _ _ 127 p1 p2 p3 (by omega)).2
            omega
          · rw [if_neg z2]
            have := hg.2.2.2.1 p i hp2 hi
            rw [z, zMa'] at this
            exact this
        · rw [hm0 p i hp2 z]
          exact hg.2.2.2.1 p i hp2 hi
      rcases zCd hk with ⟨c8, hk⟩ | ⟨c8, hk⟩
      · have c8 := zbt c8
        have eaa := zGc_ex hca c8
        rw [← eaa] at hk
        rcases zCd hk with ⟨c9, hk⟩ | ⟨-, hk⟩
        · obtain ⟨c9, c9b⟩ := zAnd c9
          obtain ⟨v1, v2, v3⟩ := zMay1_s c9
          have elen : (zCe P K a).2.1 = (h.2.2.1 a).2.1 := by
            have e9 := a4.symm
            rw [← eaa] at e9
            exact e9
          have g' : zGa X P G pS h0 ρ0 ρ n σ K (zCopyX a w.2.2.2 (zCe P K a).2.1 E ml mh dh sh) (h.1, h.2.1, h.2.2.1, aRow h.2.2.2 a (va_cpy (h.2.2.2 b) (h.2.2.2 a) S.toNatClampNeg D.toNatClampNeg M.toNatClampNeg)) := by
            refine zGa.wr hV hG hg ?_ (hI v2 v3) (hoff v1) (hkp (by have := zbl c9b; omega))
            unfold zCopyX
            rw [elen]
            cases c10 : ((zeq dh z0 && zeq sh z0) && (zeq ml mh && Nat.blt w.2.2.2 700))
            · exact zTrim_s hg.2.2.1 trim
            · obtain ⟨x1, x2⟩ := zAnd c10
              obtain ⟨x1, x3⟩ := zAnd x1
              obtain ⟨x2, x4⟩ := zAnd x2
              have x1 := ze x1
              have x2 := ze x2
              have x3 := ze x3
              have x4 := zbt x4
              rw [z0_eq] at x1 x3
              have ebb := zGc_ex hcb x4
              intro e he
              rcases zCopyE_m he with h1 | ⟨e0, h1, h2, h3, rfl⟩
              · exact zTrim_s hg.2.2.1 trim e h1
              · have he0 := hg.2.2.1 e0 h1
                have pe : zPl h e0.1 := by rw [h2, ← ebb]; exact pb
                have he0 := (zGe_pl pe).mp he0
                have pa' : zPl (h.1, h.2.1, h.2.2.1, aRow h.2.2.2 a (va_cpy (h.2.2.2 b) (h.2.2.2 a) S.toNatClampNeg D.toNatClampNeg M.toNatClampNeg)) (a * 128 + 127) := pa
                refine (zGe_pl (e := (a * 128 + 127, e0.2)) pa').mpr (fun i i1 i2 _ => ?_)
                have i1 : e0.2.1 ≤ i := i1
                have i2 : i < e0.2.2.1 := i2
                show zN ρ n 0 e0.2.2.2 (zM (h.1, h.2.1, h.2.2.1, aRow h.2.2.2 a (va_cpy (h.2.2.2 b) (h.2.2.2 a) S.toNatClampNeg D.toNatClampNeg M.toNatClampNeg)) (a * 128 + 127) i).toInt
                rw [hma, if_pos (by omega), show S.toNatClampNeg + (i - D.toNatClampNeg) = i by omega]
                have := he0 i i1 i2 (fun z => absurd (by rw [h2]; omega) z)
                rw [h2, ← ebb, zMa'] at this
                exact this
          exact zNy hk (Nat.le_refl _) (fun _ _ => rfl) g' hl hs5 (Nat.le_refl _) hC
        · cases hk
      · rcases zCd hk with ⟨c9, hk⟩ | ⟨-, hk⟩
        · have c8 : ¬ u.2.2.2 < 700 := by have := zbtF c8; omega
          obtain ⟨p1, p2, p3⟩ := zGc_ps hca c8 a2
          obtain ⟨c9, c9b⟩ := zAnd c9
          obtain ⟨v1, v2, v3⟩ := zMay1_s (zMem_s c9 p3)
          have g' : zGa X P G pS h0 ρ0 ρ n σ K (zDrop 127 0 (zCe P K u.2.2.2).2.1 (P.ps u.2.2.2) E) (h.1, h.2.1, h.2.2.1, aRow h.2.2.2 a (va_cpy (h.2.2.2 b) (h.2.2.2 a) S.toNatClampNeg D.toNatClampNeg M.toNatClampNeg)) := by
            rw [← a4]
            exact zGa.wr hV hG hg (zDrop_s hg.2.2.1 p3 trim) (hI v2 v3) (hoff v1) (hkp (by have := zLoM_s c9b p3; omega))
          exact zNy hk (Nat.le_refl _) (fun _ _ => rfl) g' hl hs5 (Nat.le_refl _) hC
        · cases hk
    · cases hk
theorem zStrA_s {kk' : String → Bool} {uC : Value} (hu : zG P ρ n u uC) (h : zStrA u kk' = true) : ∃ a : Nat, uC = .ref a ∧ 90001 ≤ a ∧ a < 90001 + aStr.length ∧ kk' (aStr.getD (a - 90001) "") = true := by
  unfold zStrA at h
  obtain ⟨a, rfl, hc, h⟩ := zRef_s hu h
  rcases zCd h with ⟨c, h⟩ | ⟨-, h⟩
  · obtain ⟨c1, c2⟩ := zAnd c
    have c1 := zbl c1
    have c2 := zbt c2
    have e : a = u.2.2.2 := by
      rcases hc with ⟨e, -⟩ | ⟨-, e, -⟩ | ⟨_, e⟩
      · omega
      · omega
      · exact e
    refine ⟨a, rfl, by rw [e]; exact c1, by rw [e]; exact c2, by rw [e]; exact h⟩
  · cases h
end ZCL
