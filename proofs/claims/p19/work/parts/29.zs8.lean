/-! all instructions that end no block and call nothing -/
section ZDQ
variable {X : aX} {P : zP} {G : aH → Prop} {pS : Nat} {h0 h h' : aH} {ρ0 ρ ρ' : Nat → Int} {n n' : Nat} {σ : zS} {K : zK} {E E' : List zE} {v : zV} {u : Value} {ls st : List zV} {lsC stC : List Value}
  {k : Nat → zS → zK → List zE → List zV → List zV → Bool}
theorem aS0 {cal : Nat → List Value → aH → Option (Option Value × aH)} {i : aI} {ls st ls' st' : List Value} (hk : aKd i = 0) (e : aP i ls st = some (ls', st')) : aS X cal i ls st h = some (ls', st', h) := by
  unfold aS
  rw [hk]
  show (aP i ls st).map _ = _
  rw [e]
  rfl
theorem aS1 {cal : Nat → List Value → aH → Option (Option Value × aH)} {i : aI} {ls st st' : List Value} (hk : aKd i = 1) (e : aQ X i st h = some (st', h')) : aS X cal i ls st h = some (ls, st', h') := by
  unfold aS
  rw [hk]
  show (aQ X i st h).map _ = _
  rw [e]
  rfl
theorem aS2 {cal : Nat → List Value → aH → Option (Option Value × aH)} {i : aI} {ls st st' : List Value} (hk : aKd i = 2) (e : aA i ls st h = some (st', h')) : aS X cal i ls st h = some (ls, st', h') := by
  unfold aS
  rw [hk]
  show (aA i ls st h).map _ = _
  rw [e]
  rfl
theorem zDq_s {i : aI} (hV : zVal P) (hG : zHG P G) (hk : zDq P (zEn i) n σ K E ls st k = true) (hi : aKd i ≤ 2) (hg : zGa X P G pS h0 ρ0 ρ n σ K E h) (hl : zGl P ρ n ls lsC) (hs : zGl P ρ n st stC) :
    zNext X P G pS h0 ρ0 ρ n h k (fun lsC' stC' h' => ∀ cal, aS X cal i lsC stC h = some (lsC', stC', h')) := by
  cases i with
  | bipush z => exact zS_bi (z := z) hk hg hl hs (fun cal => aS0 rfl rfl)
  | ldc_w z =>
    have hk : zBi (Int32.ofNat (z % 4294967296)).toInt n σ K E ls st k = true := hk
    exact zS_bi hk hg hl hs (fun cal => aS0 rfl (by
      show some (_, Value.int (Int32.ofNat (z % 4294967296)) :: _) = some (_, Value.int (Int32.ofInt (Int32.ofNat (z % 4294967296)).toInt) :: _)
      rw [Int32.ofInt_toInt]))
  | ldc2_w z =>
    have hk : zPush (2, (Int64.ofNat (z % 18446744073709551616)).toInt, z0, 0) n σ K E ls st k = true := hk
    exact zS_push hk hg hl hs (zGj (znC (w := 2) rfl)) (fun cal => aS0 rfl rfl)
  | lconst z =>
    have hk : zPush (2, (Int64.ofNat (z : Nat)).toInt, z0, 0) n σ K E ls st k = true := hk
    exact zS_push hk hg hl hs (zGj (znC (w := 2) rfl)) (fun cal => aS0 rfl rfl)
  | ldc z =>
    have hk : zPush (zcell (90001 + z % 100)) n σ K E ls st k = true := hk
    exact zS_push hk hg hl hs (zGr (Or.inr (Or.inr ⟨by omega, rfl⟩))) (fun cal => aS0 rfl rfl)
  | iload j =>
    have hk : zLoad 0 j n σ K E ls st k = true := hk
    refine zS_load hk hg hl hs (fun v u h1 h2 h3 cal => ?_)
    obtain ⟨x, rfl, -⟩ := zG_int h2 (by rcases zIs_t h3 with e | e <;> omega)
    exact aS0 rfl (by show (match lsC[j]? with | some (.int x) => some (lsC, Value.int x :: stC) | _ => none) = _; rw [h1])
  | lload j =>
    have hk : zLoad 2 j n σ K E ls st k = true := hk
    refine zS_load hk hg hl hs (fun v u h1 h2 h3 cal => ?_)
    obtain ⟨x, rfl, -⟩ := zG_long h2 (by rcases zIs_t h3 with e | e <;> omega)
    exact aS0 rfl (by show (match lsC[j]? with | some (.long x) => some (lsC, Value.long x :: stC) | _ => none) = _; rw [h1])
  | aload j =>
    have hk : zLoad 4 j n σ K E ls st k = true := hk
    refine zS_load hk hg hl hs (fun v u h1 h2 h3 cal => ?_)
    obtain ⟨x, rfl, -⟩ := zG_ref h2 (by rcases zIs_t h3 with e | e <;> omega)
    exact aS0 rfl (by show (match lsC[j]? with | some (.ref x) => some (lsC, Value.ref x :: stC) | _ => none) = _; rw [h1])
  | istore j =>
    have hk : zStore 0 j n σ K E ls st k = true := hk
    refine zS_store hk hg hl hs (fun v u t e h2 h3 h4 h5 cal => ?_)
    obtain ⟨x, rfl, -⟩ := zG_int h2 (by rcases zIs_t h3 with e | e <;> omega)
    subst e
    exact aS0 rfl (by show (if j < lsC.length then some (aSt lsC j (.int x), t) else none) = _; rw [if_pos h4, h5])
  | astore j =>
    have hk : zStore 4 j n σ K E ls st k = true := hk
    refine zS_store hk hg hl hs (fun v u t e h2 h3 h4 h5 cal => ?_)
    obtain ⟨x, rfl, -⟩ := zG_ref h2 (by rcases zIs_t h3 with e | e <;> omega)
    subst e
    exact aS0 rfl (by show (if j < lsC.length then some (aSt lsC j (.ref x), t) else none) = _; rw [if_pos h4, h5])
  | lstore j =>
    have hk : zStoreL j n σ K E ls st k = true := hk
    refine zS_storeL hk hg hl hs (fun v u t e h2 h3 h4 h5 cal => ?_)
    obtain ⟨x, rfl, -⟩ := zG_long h2 (by rcases zIs_t h3 with e | e <;> omega)
    subst e
    exact aS0 rfl (by show (if j + 1 < lsC.length then some ((aSt lsC j (.long x)).set (j + 1) aD, t) else none) = _; rw [if_pos h4, h5])
  | iinc j c =>
    have hk : zInc j c n σ K E ls st k = true := hk
    refine zS_inc hk hg hl hs (fun x h1 h2 h3 cal => ?_)
    exact aS0 rfl (by simp only [aP, h1, if_pos h2, h3])
  | dup =>
    have hk : zDup n σ K E ls st k = true := hk
    refine zS_dup hk hg hl hs (fun u t e h1 cal => ?_)
    subst e
    exact aS0 rfl (by show (if u.category = 1 then some (lsC, u :: u :: t) else none) = _; rw [if_pos h1])
  | pop =>
    have hk : zPop n σ K E ls st k = true := hk
    refine zS_pop hk hg hl hs (fun u t e h1 cal => ?_)
    subst e
    exact aS0 rfl (by show (if u.category = 1 then some (lsC, t) else none) = _; rw [if_pos h1])
  | dup2 =>
    have hk : zDup2 n σ K E ls st k = true := hk
    refine zS_dup2 hk hg hl hs (fun u w t e h1 h2 cal => ?_)
    subst e
    exact aS0 rfl (by show (if u.category = 1 ∧ w.category = 1 then some (lsC, u :: w :: u :: w :: t) else none) = _; rw [if_pos ⟨h1, h2⟩])
  | iadd =>
    have hk : zBin (zAdd 0) n σ K E ls st k = true := hk
    refine zBin_ii (zt_rg2 (fun _ _ _ _ => rfl)) hg hl hs hk (fun x y a b t kk e h1 h2 h3 => ?_)
    obtain ⟨v, hv, hk⟩ := zo_add hg.1 h1 h2 h3
    exact ⟨v, _, hv, hk, fun cal => by subst e; exact aS0 rfl rfl⟩
  | isub =>
    have hk : zBin (zSub 0) n σ K E ls st k = true := hk
    refine zBin_ii zt_sub hg hl hs hk (fun x y a b t kk e h1 h2 h3 => ?_)
    obtain ⟨v, hv, hk⟩ := zo_sub hg.1 h1 h2 h3
    exact ⟨v, _, hv, hk, fun cal => by subst e; exact aS0 rfl rfl⟩
  | imul =>
    have hk : zBin (zMul 0) n σ K E ls st k = true := hk
    refine zBin_ii (zt_rg2 (fun _ _ _ _ => rfl)) hg hl hs hk (fun x y a b t kk e h1 h2 h3 => ?_)
    obtain ⟨v, hv, hk⟩ := zo_mul hg.1 h1 h2 h3
    exact ⟨v, _, hv, hk, fun cal => by subst e; exact aS0 rfl rfl⟩
  | iand =>
    have hk : zBin (zBits (fun x y => x &&& y) zgAnd) n σ K E ls st k = true := hk
    refine zBin_ii (zt_rg2 (fun _ _ _ _ => rfl)) hg hl hs hk (fun x y a b t kk e h1 h2 h3 => ?_)
    obtain ⟨v, hv, hk⟩ := zo_bits (fun lx ux ly uy => zg_and lx ux ly uy) hg.1 h1 h2 h3
    exact ⟨v, _, hv, hk, fun cal => by subst e; exact aS0 rfl rfl⟩
  | ior =>
    have hk : zBin (zBits (fun x y => x ||| y) zgBit) n σ K E ls st k = true := hk
    refine zBin_ii (zt_rg2 (fun _ _ _ _ => rfl)) hg hl hs hk (fun x y a b t kk e h1 h2 h3 => ?_)
    obtain ⟨v, hv, hk⟩ := zo_bits (fun lx ux ly uy => zg_or lx ux ly uy) hg.1 h1 h2 h3
    exact ⟨v, _, hv, hk, fun cal => by subst e; exact aS0 rfl rfl⟩
  | ixor =>
    have hk : zBin (zBits (fun x y => x ^^^ y) zgTop) n σ K E ls st k = true := hk
    refine zBin_ii (zt_rg2 (fun _ _ _ _ => rfl)) hg hl hs hk (fun x y a b t kk e h1 h2 h3 => ?_)
    obtain ⟨v, hv, hk⟩ := zo_bits (fun lx ux ly uy => zg_top lx ux ly uy) hg.1 h1 h2 h3
    exact ⟨v, _, hv, hk, fun cal => by subst e; exact aS0 rfl rfl⟩
  | ishl =>
    have hk : zBin (zBits (fun x y => x <<< (y &&& 31)) zgTop) n σ K E ls st k = true := hk
    refine zBin_ii (zt_rg2 (fun _ _ _ _ => rfl)) hg hl hs hk (fun x y a b t kk e h1 h2 h3 => ?_)
    obtain ⟨v, hv, hk⟩ := zo_bits (f := fun x y => x <<< (y &&& 31)) (fun lx ux ly uy => zg_top (f := fun x y => x <<< (y &&& 31)) lx ux ly uy) hg.1 h1 h2 h3
    exact ⟨v, _, hv, hk, fun cal => by subst e; exact aS0 rfl rfl⟩
  | ishr =>
    have hk : zBin (zBits (fun x y => x >>> (y &&& 31)) zgTop) n σ K E ls st k = true := hk
    refine zBin_ii (zt_rg2 (fun _ _ _ _ => rfl)) hg hl hs hk (fun x y a b t kk e h1 h2 h3 => ?_)
    obtain ⟨v, hv, hk⟩ := zo_bits (f := fun x y => x >>> (y &&& 31)) (fun lx ux ly uy => zg_top (f := fun x y => x >>> (y &&& 31)) lx ux ly uy) hg.1 h1 h2 h3
    exact ⟨v, _, hv, hk, fun cal => by subst e; exact aS0 rfl rfl⟩
  | iushr =>
    have hk : zBin (zBits (fun x y => (x.toUInt32 >>> (y.toUInt32 &&& Int32.toUInt32 31)).toInt32) zgUsh) n σ K E ls st k = true := hk
    refine zBin_ii (zt_rg2 (fun _ _ _ _ => rfl)) hg hl hs hk (fun x y a b t kk e h1 h2 h3 => ?_)
    obtain ⟨v, hv, hk⟩ := zo_bits (f := fun x y => (x.toUInt32 >>> (y.toUInt32 &&& Int32.toUInt32 31)).toInt32) (fun lx ux ly uy => zg_ush lx ux ly uy) hg.1 h1 h2 h3
    exact ⟨v, _, hv, hk, fun cal => by subst e; exact aS0 rfl rfl⟩
  | idiv =>
    have hk : zBin (zDiv 0) n σ K E ls st k = true := hk
    refine zBin_ii (zt_rg2 (fun _ _ _ _ => rfl)) hg hl hs hk (fun x y a b t kk e h1 h2 h3 => ?_)
    obtain ⟨hb, v, hv, hk⟩ := zo_div hg.1 h1 h2 h3
    exact ⟨v, _, hv, hk, fun cal => by subst e; exact aS0 rfl (by show (if b = 0 then none else some (lsC, Value.int (a / b) :: t)) = _; rw [if_neg hb])⟩
  | irem =>
    have hk : zBin zRem n σ K E ls st k = true := hk
    refine zBin_ii (zt_rg2 (fun _ _ _ _ => rfl)) hg hl hs hk (fun x y a b t kk e h1 h2 h3 => ?_)
    obtain ⟨hb, v, hv, hk⟩ := zo_rem hg.1 h1 h2 h3
    exact ⟨v, _, hv, hk, fun cal => by subst e; exact aS0 rfl (by show (if b = 0 then none else some (lsC, Value.int (a - a / b * b) :: t)) = _; rw [if_neg hb])⟩
  | ineg =>
    have hk : zUn (fun σ v => zSub 0 σ (zc 0 z0) v) n σ K E ls st k = true := hk
    obtain ⟨x, t, ux, tC, rfl, rfl, h1, h2, hk⟩ := zUn_i hk hs
    obtain ⟨a, rfl, ha⟩ := zG_int h1 (zt_sub _ _ _ hk).2
    obtain ⟨v, hv, hk⟩ := zo_neg hg.1 ha hk
    exact zNx (stC := .int (-a) :: tC) hk hg hl ⟨zGi hv, h2⟩ (fun cal => aS0 rfl rfl)
  | i2l =>
    have hk : zUn zI2l n σ K E ls st k = true := hk
    obtain ⟨x, t, ux, tC, rfl, rfl, h1, h2, hk⟩ := zUn_i hk hs
    have ht : x.1 ≤ 1 := by
      unfold zI2l at hk
      rcases zCd hk with ⟨c, -⟩ | ⟨-, hk⟩
      · exact zbl c
      · cases hk
    obtain ⟨a, rfl, ha⟩ := zG_int h1 (by omega)
    obtain ⟨v, hv, hk⟩ := zo_i2l ha hk
    exact zNx (stC := .long a.toInt64 :: tC) hk hg hl ⟨zGj hv, h2⟩ (fun cal => aS0 rfl rfl)
  | l2i =>
    have hk : zUn zL2i n σ K E ls st k = true := hk
    obtain ⟨x, t, ux, tC, rfl, rfl, h1, h2, hk⟩ := zUn_i hk hs
    obtain ⟨a, rfl, ha⟩ := zG_rgl h1 hk
    obtain ⟨v, hv, hk⟩ := zo_l2i hg.1 ha hk
    exact zNx (stC := .int a.toInt32 :: tC) hk hg hl ⟨zGi hv, h2⟩ (fun cal => aS0 rfl rfl)
  | ladd =>
    have hk : zBin (zAdd 2) n σ K E ls st k = true := hk
    refine zBin_jj (zt_rg2 (fun _ _ _ _ => rfl)) hg hl hs hk (fun x y a b t kk e h1 h2 h3 => ?_)
    obtain ⟨v, hv, hk⟩ := zo_ladd hg.1 h1 h2 h3
    exact ⟨v, _, hv, hk, fun cal => by subst e; exact aS0 rfl rfl⟩
  | lsub =>
    have hk : zBin (zSub 2) n σ K E ls st k = true := hk
    refine zBin_jj zt_sub hg hl hs hk (fun x y a b t kk e h1 h2 h3 => ?_)
    obtain ⟨v, hv, hk⟩ := zo_lsub hg.1 h1 h2 h3
    exact ⟨v, _, hv, hk, fun cal => by subst e; exact aS0 rfl rfl⟩
  | lmul =>
    have hk : zBin (zMul 2) n σ K E ls st k = true := hk
    refine zBin_jj (zt_rg2 (fun _ _ _ _ => rfl)) hg hl hs hk (fun x y a b t kk e h1 h2 h3 => ?_)
    obtain ⟨v, hv, hk⟩ := zo_lmul hg.1 h1 h2 h3
    exact ⟨v, _, hv, hk, fun cal => by subst e; exact aS0 rfl rfl⟩
  | ldiv =>
    have key : ∀ σ, zGa X P G pS h0 ρ0 ρ n σ K E h → zBin (zDiv 2) n σ K E ls st k = true → zNext X P G pS h0 ρ0 ρ n h k (fun lsC' stC' h' => ∀ cal, aS X cal .ldiv lsC stC h = some (lsC', stC', h')) := by
      intro σ hg hk
      refine zBin_jj (zt_rg2 (fun _ _ _ _ => rfl)) hg hl hs hk (fun x y a b t kk e h1 h2 h3 => ?_)
      obtain ⟨hb, v, hv, hk⟩ := zo_ldiv hg.1 h1 h2 h3
      exact ⟨v, _, hv, hk, fun cal => by subst e; exact aS0 rfl (by show (if b = 0 then none else some (lsC, Value.long (a / b) :: t)) = _; rw [if_neg hb])⟩
    have hk : zLdv n σ K E ls st k = true := hk
    match st, hk, hs, key with
    | [], hk, _, key => exact key σ hg hk
    | [_], hk, _, key => exact key σ hg hk
    | [_, _], hk, _, key => exact key σ hg hk
    | y :: x :: u :: r, hk, hs, key =>
      have hk : zLdvQ y x u n σ K E ls (y :: x :: u :: r) k = true := hk
      unfold zLdvQ at hk
      rcases zCd hk with ⟨c, hk⟩ | ⟨-, hk⟩
      · obtain ⟨k1, k2⟩ := zAnd hk
        unfold zLdvC at c
        obtain ⟨c, -⟩ := zAnd c
        obtain ⟨uY, q0, rfl, h1, hs0⟩ := zGl_cons hs
        obtain ⟨b, rfl, hb⟩ := zG_long h1 (Or.inl (zbe c))
        by_cases q : b.toInt ≤ x.2.1 / u.2.1
        · obtain ⟨s', g', k1⟩ := zLe_s (Y := x.2.1 / u.2.1) hg.1 hb (znC rfl) q k1
          exact key s' (hg.sym g') k1
        · obtain ⟨s', g', k2⟩ := zLt_s (X := x.2.1 / u.2.1) hg.1 (znC rfl) hb (by omega) k2
          exact key s' (hg.sym g') k2
      · exact key σ hg hk
  | lshl =>
    have hk : zBin zLsh n σ K E ls st k = true := hk
    obtain ⟨y, x, t, uy, ux, tC, rfl, rfl, h1, h2, h3, hk⟩ := zBin_i hk hs
    have t1 := zRg_tag hk
    obtain ⟨_, _, hk2⟩ := t1.2
    obtain ⟨a, rfl, ha⟩ := zG_long h2 t1.1
    obtain ⟨b, rfl, hb⟩ := zG_rgi h1 hk2
    obtain ⟨v, hv, hk⟩ := zo_lsh hg.1 ha hb hk
    exact zNx (stC := .long (a <<< (b.toInt64 &&& 63)) :: tC) hk hg hl ⟨zGj hv, h3⟩ (fun cal => aS0 rfl rfl)
  | lcmp =>
    have hk : zLcmp n σ K E ls st k = true := hk
    exact zS_lcmp hk hg hl hs (fun a b t e cal => by subst e; exact aS0 rfl rfl)
  | getfield z =>
    have hk : zGetf P (z / 1000 % 100) (z % 1000 / 4) (z % 4) n σ K E ls st k = true := hk
    refine zS_getf hV hk (Nat.mod_lt _ (by omega)) hg hl hs (fun a q e h1 h2 cal => ?_)
    subst e
    exact aS1 rfl (by show (if a < h.1 ∧ (h.2.2.1 a).1 = z / 1000 % 100 then _ else none) = _; rw [if_pos ⟨h1, h2⟩])
  | putfield z =>
    have hk : zPutf P (z / 1000 % 100) (z % 1000 / 4) (z % 4) n σ K E ls st k = true := hk
    refine zS_putf hV hG hk (Nat.mod_lt _ (by omega)) hg hl hs (fun a x q e h1 h2 h3 cal => ?_) (fun a r q e h1 h2 h3 h4 cal => ?_)
    · subst e
      exact aS1 rfl (by show (if a < h.1 ∧ (h.2.2.1 a).1 = z / 1000 % 100 ∧ _ then _ else none) = _; rw [if_pos ⟨h1, h2, h3⟩])
    · subst e
      exact aS1 rfl (by show (if a < h.1 ∧ (h.2.2.1 a).1 = z / 1000 % 100 ∧ _ then _ else none) = _; rw [if_pos ⟨h1, h2, h3, h4⟩])
  | iaload =>
    have hk : zIld P 100 n σ K E ls st k = true := hk
    refine zS_ild hV (Or.inl rfl) hk hg hl hs (fun x a q e h1 h2 h3 h4 cal => ?_) (fun x q e _ h4 cal => ?_)
    · subst e
      exact aS1 rfl (by show (if a = 90000 then _ else if a < h.1 ∧ (h.2.2.1 a).1 = 100 ∧ _ then _ else none) = _; rw [if_neg h1, if_pos ⟨h2, h3, h4⟩])
    · subst e
      exact aS1 rfl (by unfold aQ; dsimp only; rw [if_pos rfl, if_pos h4])
  | baload =>
    have hk : zIld P 101 n σ K E ls st k = true := hk
    refine zS_ild hV (Or.inr rfl) hk hg hl hs (fun x a q e h1 h2 h3 h4 cal => ?_) (fun x q e c h4 cal => by omega)
    subst e
    exact aS1 rfl (by show (if a < h.1 ∧ (h.2.2.1 a).1 = 101 ∧ _ then _ else none) = _; rw [if_pos ⟨h2, h3, h4⟩])
  | iastore =>
    have hk : zIst P 100 n σ K E ls st k = true := hk
    refine zS_ist hV hG (Or.inl rfl) hk hg hl hs (fun y x a q e h1 h2 h3 _ cal => ?_)
    subst e
    exact aS1 rfl (by show (if a < h.1 ∧ (h.2.2.1 a).1 = 100 ∧ _ then _ else none) = _; rw [if_pos ⟨h1, h2, h3⟩])
  | bastore =>
    have hk : zIst P 101 n σ K E ls st k = true := hk
    refine zS_ist hV hG (Or.inr rfl) hk hg hl hs (fun y x a q e h1 h2 h3 h4 cal => ?_)
    subst e
    exact aS1 rfl (by show (if a < h.1 ∧ (h.2.2.1 a).1 = 101 ∧ _ ∧ (y = 0 ∨ y = 1) then _ else none) = _; rw [if_pos ⟨h1, h2, h3, h4.resolve_left (by omega)⟩])
  | aaload =>
    have hk : zAld P n σ K E ls st k = true := hk
    refine zS_ald hk hg hl hs (fun x a q e h1 h2 h3 cal => ?_)
    subst e
    exact aS1 rfl (by show (if a < h.1 ∧ (102 ≤ (h.2.2.1 a).1 ∧ (h.2.2.1 a).1 < 106) ∧ _ then _ else none) = _; rw [if_pos ⟨h1, h2, h3⟩])
  | aastore =>
    have hk : zAst P n σ K E ls st k = true := hk
    refine zS_ast hV hk hg hl hs (fun r x a q e h1 h2 h3 h4 h5 h6 cal => ?_)
    subst e
    exact aS1 rfl (by show (if a < h.1 ∧ r < h.1 ∧ (h.2.2.1 r).1 < 100 ∧ ((h.2.2.1 r).1 < 13 ∧ _) ∧ 102 ≤ (h.2.2.1 a).1 ∧ _ then _ else none) = _; rw [if_pos ⟨h1, h2, by omega, ⟨h3, h4⟩, h5, h6⟩])
  | arraylength =>
    have hk : zAlen P n σ K E ls st k = true := hk
    refine zS_alen hk hV hg hl hs (fun a q e h1 h2 h3 cal => ?_)
    subst e
    exact aS1 rfl (by show (if a = 90000 then _ else if a < h.1 ∧ (100 ≤ (h.2.2.1 a).1 ∧ (h.2.2.1 a).1 < 106) then _ else none) = _; rw [if_neg h1, if_pos ⟨h2, h3⟩])
  | new z =>
    have hk : zNew P (z % 100) n σ K E ls st k = true := hk
    refine zS_new hV (Nat.mod_lt _ (by omega)) hk hg hl hs (fun e cal => ?_)
    exact aS2 rfl (by unfold aA; rw [if_pos e])
  | newarray t =>
    cases t with
    | int =>
      have hk : zNewA P 100 n σ K E ls st k = true := hk
      refine zS_newA hV (by omega) hk hg hl hs (fun x q e h1 h2 cal => ?_)
      subst e
      exact aS2 rfl (by unfold aA; rw [if_pos h1]; show (if aInR x 100001 = true then _ else none) = _; rw [if_pos h2])
    | boolean =>
      have hk : zNewA P 101 n σ K E ls st k = true := hk
      refine zS_newA hV (by omega) hk hg hl hs (fun x q e h1 h2 cal => ?_)
      subst e
      exact aS2 rfl (by unfold aA; rw [if_pos h1]; show (if aInR x 100001 = true then _ else none) = _; rw [if_pos h2])
    | _ => cases (show false = true from hk)
  | anewarray z =>
    have hk : zNewA P (100 + z % 100) n σ K E ls st k = true := hk
    refine zS_newA hV (by omega) hk hg hl hs (fun x q e h1 h2 cal => ?_)
    subst e
    exact aS2 rfl (by unfold aA; rw [if_pos h1]; show (if aInR x 100001 = true then _ else none) = _; rw [if_pos h2])
  | multianewarray z m =>
    match m, hk with
    | 0, hk => cases (show false = true from hk)
    | 1, hk => cases (show false = true from hk)
    | 2, hk =>
      have hk : zNewM P n σ K E ls st k = true := hk
      refine zS_newM hV hk hg hl hs (fun y x q e h1 h2 cal => ?_)
      subst e
      exact aS2 rfl (by unfold aA; rw [if_pos h1]; show (if (aInR x 1001 && aInR y 100001) = true then _ else none) = _; rw [if_pos h2])
    | m + 3, hk => cases (show false = true from hk)
  | _ => first | cases (show false = true from hk) | (exact absurd hi (by decide)) | (exact absurd hi (by show ¬ (3 ≤ 2); decide)) | (exact absurd hi (by show ¬ (4 ≤ 2); decide))
end ZDQ
