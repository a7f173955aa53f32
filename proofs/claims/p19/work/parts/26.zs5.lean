/-! instruction by instruction -/
section ZIN
variable {X : aX} {P : zP} {G : aH → Prop} {pS : Nat} {h0 h h' : aH} {ρ0 ρ ρ' : Nat → Int} {n n' : Nat} {σ : zS} {K : zK} {E E' : List zE} {v : zV} {u : Value} {ls st : List zV} {lsC stC : List Value}
  {k : Nat → zS → zK → List zE → List zV → List zV → Bool} {C : List Value → List Value → aH → Prop}
theorem zS_push (hk : zPush v n σ K E ls st k = true) (hg : zGa X P G pS h0 ρ0 ρ n σ K E h) (hl : zGl P ρ n ls lsC) (hs : zGl P ρ n st stC) (hu : zG P ρ n v u) (hC : C lsC (u :: stC) h) : zNext X P G pS h0 ρ0 ρ n h k C :=
  zNx (stC := u :: stC) hk hg hl ⟨hu, hs⟩ hC
theorem zofi {z : Int} (h1 : zMn 0 ≤ z) (h2 : z ≤ zMx 0) : (Int32.ofInt z).toInt = z := by
  have a : (-2147483648 : Int) ≤ z := h1
  have b : z ≤ 2147483647 := h2
  exact Int32.toInt_ofInt_of_le (by omega) (by omega)
theorem zS_bi {z : Int} (hk : zBi z n σ K E ls st k = true) (hg : zGa X P G pS h0 ρ0 ρ n σ K E h) (hl : zGl P ρ n ls lsC) (hs : zGl P ρ n st stC) (hC : C lsC (.int (Int32.ofInt z) :: stC) h) : zNext X P G pS h0 ρ0 ρ n h k C := by
  unfold zBi at hk
  rcases zCd hk with ⟨c, hk⟩ | ⟨-, hk⟩
  · obtain ⟨c1, c2⟩ := zAnd c
    exact zNx (stC := .int (Int32.ofInt z) :: stC) hk hg hl ⟨zGi (znC (zofi (zl c1) (zl c2))), hs⟩ hC
  · cases hk
theorem zIs_t {w : Nat} (h : zIs w v = true) : v.1 = w ∨ (v.1 = w + 1 ∧ w < 4) := by
  unfold zIs at h
  rcases zOr h with h | h
  · exact Or.inl (zbe h)
  · obtain ⟨h1, h2⟩ := zAnd h
    exact Or.inr ⟨zbe h1, zbt h2⟩
theorem zS_load {w j : Nat} (hk : zLoad w j n σ K E ls st k = true) (hg : zGa X P G pS h0 ρ0 ρ n σ K E h) (hl : zGl P ρ n ls lsC) (hs : zGl P ρ n st stC) (hC : ∀ v u, lsC[j]? = some u → zG P ρ n v u → zIs w v = true → C lsC (u :: stC) h) : zNext X P G pS h0 ρ0 ρ n h k C := by
  obtain ⟨v, u, h1, h2, h3, -⟩ := zGl_at hl hk
  rcases zCd h3 with ⟨c, hk⟩ | ⟨-, hk⟩
  · exact zNx (stC := u :: stC) hk hg hl ⟨h2, hs⟩ (hC v u h1 h2 c)
  · cases hk
theorem zAhead_s {j : Nat} {b : Bool} (hl : zGl P ρ n ls lsC) (h : zAhead ls j b = true) : b = true ∧ (∀ x, aSt lsC j x = lsC.set j x) := by
  unfold zAhead at h
  rcases zCd h with ⟨c, h⟩ | ⟨c, h⟩
  · refine ⟨h, fun x => ?_⟩
    rw [zbe c]
    rfl
  · have c := zbn c
    obtain ⟨v, u, h1, h2, h3, -⟩ := zGl_at hl h
    rcases zCd h3 with ⟨c2, h⟩ | ⟨-, h⟩
    · refine ⟨h, fun x => ?_⟩
      have c2 := zbe c2
      have h9 : v.1 ≠ 9 := by
        intro e
        have : zCat v = 9 := by unfold zCat; rw [e]; rfl
        omega
      have hc := zCat_s h2 h9
      obtain ⟨m, rfl⟩ : ∃ m, j = m + 1 := ⟨j - 1, by omega⟩
      rw [Nat.add_sub_cancel] at h1
      have e : aSt lsC (m + 1) x = (match lsC[m]? with
        | some w => if w.category = 2 then (lsC.set m aD).set (m + 1) x else lsC.set (m + 1) x
        | none => lsC.set (m + 1) x) := rfl
      rw [e, h1]
      exact if_neg (by omega)
    · cases h
theorem zS_store {w j : Nat} (hk : zStore w j n σ K E ls st k = true) (hg : zGa X P G pS h0 ρ0 ρ n σ K E h) (hl : zGl P ρ n ls lsC) (hs : zGl P ρ n st stC) (hC : ∀ v u t, stC = u :: t → zG P ρ n v u → zIs w v = true → j < lsC.length → (∀ x, aSt lsC j x = lsC.set j x) → C (lsC.set j u) t h) : zNext X P G pS h0 ρ0 ρ n h k C := by
  match st, hk, hs with
  | [], hk, _ => cases hk
  | v :: t, hk, hs =>
    obtain ⟨u, q, rfl, h1, hs⟩ := zGl_cons hs
    have hk : zStoreV w j n σ K E ls t v k = true := hk
    unfold zStoreV at hk
    rcases zCd hk with ⟨c, hk⟩ | ⟨-, hk⟩
    · obtain ⟨c1, c2⟩ := zAnd c
      have c2 := zbt c2
      obtain ⟨hk, ha⟩ := zAhead_s hl hk
      obtain ⟨n', σ', ρ', v', hk, l1, r1, g1, u1, -⟩ := zMa_s hg h1 hk
      exact zNy hk l1 r1 g1 (zGl_set (hl.mono l1 r1) u1) (hs.mono l1 r1) (Nat.le_refl _) (hC v u q rfl h1 c1 (by rw [← zGl_len hl]; exact c2) ha)
    · cases hk
theorem zS_storeL {j : Nat} (hk : zStoreL j n σ K E ls st k = true) (hg : zGa X P G pS h0 ρ0 ρ n σ K E h) (hl : zGl P ρ n ls lsC) (hs : zGl P ρ n st stC) (hC : ∀ v u t, stC = u :: t → zG P ρ n v u → zIs 2 v = true → j + 1 < lsC.length → (∀ x, aSt lsC j x = lsC.set j x) → C ((lsC.set j u).set (j + 1) aD) t h) : zNext X P G pS h0 ρ0 ρ n h k C := by
  match st, hk, hs with
  | [], hk, _ => cases hk
  | v :: t, hk, hs =>
    obtain ⟨u, q, rfl, h1, hs⟩ := zGl_cons hs
    have hk : zStoreW j n σ K E ls t v k = true := hk
    unfold zStoreW at hk
    rcases zCd hk with ⟨c, hk⟩ | ⟨-, hk⟩
    · obtain ⟨c1, c2⟩ := zAnd c
      have c2 := zbt c2
      obtain ⟨hk, ha⟩ := zAhead_s hl hk
      obtain ⟨n', σ', ρ', v', hk, l1, r1, g1, u1, -⟩ := zMa_s hg h1 hk
      exact zNy hk l1 r1 g1 (zGl_set (zGl_set (hl.mono l1 r1) u1) zGd) (hs.mono l1 r1) (Nat.le_refl _) (hC v u q rfl h1 c1 (by rw [← zGl_len hl]; exact c2) ha)
    · cases hk
theorem zS_inc {j : Nat} {c : Int} (hk : zInc j c n σ K E ls st k = true) (hg : zGa X P G pS h0 ρ0 ρ n σ K E h) (hl : zGl P ρ n ls lsC) (hs : zGl P ρ n st stC) (hC : ∀ x : Int32, lsC[j]? = some (.int x) → j < lsC.length → (∀ x, aSt lsC j x = lsC.set j x) → C (lsC.set j (.int (x + Int32.ofInt c))) stC h) : zNext X P G pS h0 ρ0 ρ n h k C := by
  obtain ⟨hk, ha⟩ := zAhead_s hl hk
  obtain ⟨v, u, h1, h2, hk, h3⟩ := zGl_at hl hk
  obtain ⟨x, rfl, hx⟩ := zG_int h2 (zRg2_tag hk).1
  obtain ⟨v', hv, hk⟩ := zo_add hg.1 hx (znC (w := 0) rfl) hk
  exact zNx hk hg (zGl_set hl (zGi hv)) hs (hC x h1 h3 ha)
theorem zCat1_s (hu : zG P ρ n v u) (h : zCat1 v = true) : u.category = 1 := by
  unfold zCat1 at h
  rcases zOr h with h | h
  · have := zbl h
    obtain ⟨x, rfl, -⟩ := zG_int hu (by omega)
    rfl
  · obtain ⟨r, rfl, -⟩ := zG_ref hu (zbe h)
    rfl
theorem zS_dup (hk : zDup n σ K E ls st k = true) (hg : zGa X P G pS h0 ρ0 ρ n σ K E h) (hl : zGl P ρ n ls lsC) (hs : zGl P ρ n st stC) (hC : ∀ u t, stC = u :: t → u.category = 1 → C lsC (u :: u :: t) h) : zNext X P G pS h0 ρ0 ρ n h k C := by
  match st, hk, hs with
  | [], hk, _ => cases hk
  | v :: t, hk, hs =>
    obtain ⟨u, q, rfl, h1, hs⟩ := zGl_cons hs
    have hk : (bif zCat1 v then zMa n σ v fun n σ v => k n σ K E ls (v :: v :: t) else false) = true := hk
    rcases zCd hk with ⟨c, hk⟩ | ⟨-, hk⟩
    · obtain ⟨n', σ', ρ', v', hk, l1, r1, g1, u1, -⟩ := zMa_s hg h1 hk
      exact zNy (stC := u :: u :: q) hk l1 r1 g1 (hl.mono l1 r1) ⟨u1, u1, hs.mono l1 r1⟩ (Nat.le_refl _) (hC u q rfl (zCat1_s h1 c))
    · cases hk
theorem zS_pop (hk : zPop n σ K E ls st k = true) (hg : zGa X P G pS h0 ρ0 ρ n σ K E h) (hl : zGl P ρ n ls lsC) (hs : zGl P ρ n st stC) (hC : ∀ u t, stC = u :: t → u.category = 1 → C lsC t h) : zNext X P G pS h0 ρ0 ρ n h k C := by
  match st, hk, hs with
  | [], hk, _ => cases hk
  | v :: t, hk, hs =>
    obtain ⟨u, q, rfl, h1, hs⟩ := zGl_cons hs
    have hk : (bif zCat1 v then k n σ K E ls t else false) = true := hk
    rcases zCd hk with ⟨c, hk⟩ | ⟨-, hk⟩
    · exact zNx hk hg hl hs (hC u q rfl (zCat1_s h1 c))
    · cases hk
theorem zS_dup2 (hk : zDup2 n σ K E ls st k = true) (hg : zGa X P G pS h0 ρ0 ρ n σ K E h) (hl : zGl P ρ n ls lsC) (hs : zGl P ρ n st stC) (hC : ∀ u w t, stC = u :: w :: t → u.category = 1 → w.category = 1 → C lsC (u :: w :: u :: w :: t) h) : zNext X P G pS h0 ρ0 ρ n h k C := by
  match st, hk, hs with
  | [], hk, _ => cases hk
  | [_], hk, _ => cases hk
  | v :: w :: t, hk, hs =>
    obtain ⟨u, q, rfl, h1, hs⟩ := zGl_cons hs
    obtain ⟨u2, q, rfl, h2, hs⟩ := zGl_cons hs
    have hk : (bif zCat1 v && zCat1 w then k n σ K E ls (v :: w :: v :: w :: t) else false) = true := hk
    rcases zCd hk with ⟨c, hk⟩ | ⟨-, hk⟩
    · obtain ⟨c1, c2⟩ := zAnd c
      exact zNx (stC := u :: u2 :: u :: u2 :: q) hk hg hl ⟨h1, h2, h1, h2, hs⟩ (hC u u2 q rfl (zCat1_s h1 c1) (zCat1_s h2 c2))
    · cases hk
theorem zS_lcmp (hk : zLcmp n σ K E ls st k = true) (hg : zGa X P G pS h0 ρ0 ρ n σ K E h) (hl : zGl P ρ n ls lsC) (hs : zGl P ρ n st stC) (hC : ∀ (a b : Int64) t, stC = .long b :: .long a :: t → C lsC (.int (lg_cmp a b) :: t) h) : zNext X P G pS h0 ρ0 ρ n h k C := by
  match st, hk, hs with
  | [], hk, _ => cases hk
  | [_], hk, _ => cases hk
  | y :: x :: t, hk, hs =>
    obtain ⟨u, q0, rfl, h1, hs0⟩ := zGl_cons hs
    obtain ⟨u2, q, rfl, h2, hs1⟩ := zGl_cons hs0
    have hk : zLcmpV n σ K E ls t x y k = true := hk
    unfold zLcmpV at hk
    obtain ⟨k1, hk⟩ := zAnd hk
    obtain ⟨k2, k3⟩ := zAnd hk
    have tg := zPr_tag k1
    obtain ⟨b, rfl, hb⟩ := zG_long h1 tg.2
    obtain ⟨a, rfl, ha⟩ := zG_long h2 tg.1
    have hC := hC a b q rfl
    have e : lg_cmp a b = if b.toInt < a.toInt then 1 else if a.toInt = b.toInt then 0 else -1 := by
      unfold lg_cmp
      simp only [gt_iff_lt, Int64.lt_iff_toInt_lt, ← Int64.toInt_inj]
    rw [e] at hC
    by_cases c1 : b.toInt < a.toInt
    · rw [if_pos c1] at hC
      obtain ⟨s', g', hk⟩ := zLt_s hg.1 hb ha c1 k3
      exact zNx (stC := .int 1 :: q) hk (hg.sym g') hl ⟨zGi (znC (w := 0) rfl), hs1⟩ hC
    · rw [if_neg c1] at hC
      by_cases c2 : a.toInt = b.toInt
      · rw [if_pos c2] at hC
        obtain ⟨s', g', hk⟩ := zEq_s hg.1 ha hb c2 k2
        exact zNx (stC := .int 0 :: q) hk (hg.sym g') hl ⟨zGi (znC (w := 0) rfl), hs1⟩ hC
      · rw [if_neg c2] at hC
        obtain ⟨s', g', hk⟩ := zLt_s hg.1 ha hb (by omega) k1
        exact zNx (stC := .int (-1) :: q) hk (hg.sym g') hl ⟨zGi (znC (w := 0) rfl), hs1⟩ hC
/-! cells -/
theorem zRef_s {kk : Nat → Bool} (hu : zG P ρ n v u) (h : zRef v kk = true) : ∃ r : Nat, u = .ref r ∧ zGc P v.2.2.2 r ∧ kk v.2.2.2 = true := by
  unfold zRef at h
  rcases zCd h with ⟨c, h⟩ | ⟨-, h⟩
  · obtain ⟨r, h1, h2⟩ := zG_ref hu (zbe c)
    exact ⟨r, h1, h2, h⟩
  · cases h
theorem zGc_ex {s r : Nat} (hc : zGc P s r) (h : s < 700) : r = s := by
  rcases hc with ⟨_, e⟩ | ⟨e, -⟩ | ⟨e, -⟩
  · exact e
  · omega
  · omega
theorem zGc_ps {s r : Nat} (hc : zGc P s r) (h : ¬ s < 700) (h2 : r < 700) : 700 ≤ s ∧ s < 1000 ∧ r ∈ P.ps s := by
  rcases hc with ⟨e, -⟩ | e | ⟨e, e2⟩
  · omega
  · exact e
  · exact absurd h2 (by rw [e2]; omega)
/-- what may be read of a cell without its being told -/
theorem zIr_c {s r f i : Nat} (hV : zVal P) (hI : zGI P h) (hc : zGc P s r) (hr : r < 700) (hf : f < 128) (hp : zPl h (r * 128 + f)) (hi : f = 127 → i < (h.2.2.1 r).2.1) : zN ρ n 0 (zIr P (s * 128 + f)) (zM h (r * 128 + f) i).toInt := by
  have hb := hI (r * 128 + f) i hp (fun q => by
    rw [show (r * 128 + f) / 128 = r by omega]
    exact hi (by omega))
  by_cases q : s < 700
  · have e := zGc_ex hc q
    subst e
    exact znZ hb.1 hb.2
  · obtain ⟨q1, q2, q3⟩ := zGc_ps hc q hr
    obtain ⟨-, q4, q5⟩ := hV.2.1 s r f q1 q2 q3 hf
    exact znZ (by omega) (by omega)
theorem zS_getf {c f t : Nat} (hV : zVal P) (hk : zGetf P c f t n σ K E ls st k = true) (hc : c < 100) (hg : zGa X P G pS h0 ρ0 ρ n σ K E h) (hl : zGl P ρ n ls lsC) (hs : zGl P ρ n st stC)
    (hC : ∀ a q, stC = .ref a :: q → a < h.1 → (h.2.2.1 a).1 = c → C lsC ((if t = 2 then aRf ((h.2.2.1 a).2.2 f) else .int (h.2.2.2 a f)) :: q) h) : zNext X P G pS h0 ρ0 ρ n h k C := by
  match st, hk, hs with
  | [], hk, _ => cases hk
  | v :: r, hk, hs =>
    obtain ⟨u, q, rfl, h1, hs1⟩ := zGl_cons hs
    have hk : zRef v (fun a => zGetV c f t a (zCe P K a) n σ K E ls r P k) = true := hk
    obtain ⟨a, rfl, hca, hk⟩ := zRef_s h1 hk
    unfold zGetV at hk
    rcases zCd hk with ⟨c1, hk⟩ | ⟨-, hk⟩
    · have c1 := zbe c1
      obtain ⟨b1, b2, b3, b4, b5, b6⟩ := hg.2.1.2.2 v.2.2.2 a hca (by omega)
      have hC := hC a q rfl b1 (b3.trans c1)
      cases c2 : Nat.beq t 2
      · rw [c2] at hk
        rw [if_neg (zbn c2)] at hC
        have hk : zGetN v.2.2.2 f (zCe P K v.2.2.2) n σ K E ls r P k = true := hk
        unfold zGetN at hk
        rcases zCd hk with ⟨c3, hk⟩ | ⟨-, hk⟩
        · have c3 := zbt c3
          have hp : zPl h (a * 128 + f) := zPlf c3 b1 b2 (by omega)
          rcases zCd hk with ⟨c4, hk⟩ | ⟨c4, hk⟩
          · have c4 := zbt c4
            rw [← zGc_ex hca c4] at hk
            obtain ⟨n', σ', E', ρ', v', hk, l1, r1, g1, u1⟩ := zRd_s hg hp (by omega) hk
            rw [zMf c3] at u1
            exact zNy (stC := .int (h.2.2.2 a f) :: q) hk l1 r1 g1 (hl.mono l1 r1) ⟨zGi u1, hs1.mono l1 r1⟩ (Nat.le_refl _) hC
          · have hv := zIr_c (ρ := ρ) (n := n) (i := 0) hV hg.2.2.2.1 hca b2 (by omega) hp (fun e => by omega)
            rw [zMf c3] at hv
            exact zNx (stC := .int (h.2.2.2 a f) :: q) hk hg hl ⟨zGi hv, hs1⟩ hC
        · cases hk
      · rw [c2] at hk
        rw [if_pos (zbe c2)] at hC
        have hk : zGetR v.2.2.2 f (zCe P K v.2.2.2) n σ K E ls r P k = true := hk
        unfold zGetR at hk
        rcases zCd hk with ⟨c3, hk⟩ | ⟨-, hk⟩
        · obtain ⟨r', e1, e2⟩ := b5 f (zbt c3)
          rw [e1] at hC
          exact zNx (stC := .ref r' :: q) hk hg hl ⟨zGr e2, hs1⟩ hC
        · cases hk
    · cases hk
theorem zMay1_s {p : Nat} {lo hi : Int} (h : zMay1 P p lo hi = true) : zBit P.wm p = true ∧ (P.zI p).1 ≤ lo ∧ hi ≤ (P.zI p).2 := by
  unfold zMay1 zFit at h
  obtain ⟨h1, h2⟩ := zAnd h
  obtain ⟨h2, h3⟩ := zAnd h2
  exact ⟨h1, zl h2, zl h3⟩
theorem zMem_s {a f b : Nat} {lo hi : Int} (h : zMem P a f lo hi = true) (hb : b ∈ P.ps a) : zMay1 P (b * 128 + f) lo hi = true := by
  unfold zMem at h
  have key : ∀ l : List Nat, zAll (fun b => zMay1 P (b * 128 + f) lo hi) l = true → b ∈ l → zMay1 P (b * 128 + f) lo hi = true := by
    intro l
    induction l with
    | nil => intro _ hb; cases hb
    | cons x r ih =>
      intro h hb
      unfold zAll at h
      obtain ⟨h1, h2⟩ := zAnd h
      rcases List.mem_cons.mp hb with rfl | hb
      · exact h1
      · exact ih h2 hb
  exact key _ h hb
/-- writes to any cell of several: what is known of none of them stays -/
theorem zDrop_s {f j j' b : Nat} {M' : Nat → Nat → Int32} (hE : ∀ e ∈ E, zGe X ρ n h e) {l : List Nat} (hb : b ∈ l) (hs : ∀ q i, zPl h q → (q = b * 128 + f → (i < j ∨ j' ≤ i)) → (q % 128 ≠ 127 → i = 0) → zM (h.1, h.2.1, h.2.2.1, M') q i = zM h q i) : ∀ e ∈ zDrop f j j' l E, zGe X ρ n (h.1, h.2.1, h.2.2.1, M') e := by
  have tr : ∀ (l : List Nat) (E : List zE) (h : aH), (∀ e ∈ E, zGe X ρ n h e) → ∀ e ∈ zDrop f j j' l E, zGe X ρ n h e := by
    intro l
    induction l with
    | nil => intro E h hE; exact hE
    | cons x r ih =>
      intro E h hE
      refine ih _ h ?_
      have := zTrim_s (p := x * 128 + f) (j := j) (j' := j') (M' := h.2.2.2) hE (fun q i _ _ _ => rfl)
      exact this
  induction l generalizing E with
  | nil => cases hb
  | cons x r ih =>
    rcases List.mem_cons.mp hb with rfl | hb
    · exact tr r _ _ (zTrim_s (p := b * 128 + f) hE hs)
    · refine ih ?_ hb
      have := zTrim_s (p := x * 128 + f) (j := j) (j' := j') (M' := h.2.2.2) hE (fun q i _ _ _ => rfl)
      exact this
theorem zDropW_s {f j j' b : Nat} {lo hi : Int} {M' : Nat → Nat → Int32} (hE : ∀ e ∈ E, zGe X ρ n h e) {l : List Nat} (hb : b ∈ l) (hs : ∀ q i, zPl h q → (q % 128 ≠ 127 → i = 0) → zM (h.1, h.2.1, h.2.2.1, M') q i = zM h q i ∨ (q = b * 128 + f ∧ lo ≤ (zM (h.1, h.2.1, h.2.2.1, M') q i).toInt ∧ (zM (h.1, h.2.1, h.2.2.1, M') q i).toInt ≤ hi ∧ j ≤ i ∧ i < j')) : ∀ e ∈ zDropW lo hi f j j' l E, zGe X ρ n (h.1, h.2.1, h.2.2.1, M') e := by
  have one : ∀ (x : Nat) (E : List zE) (h : aH), (∀ e ∈ E, zGe X ρ n h e) → ∀ e ∈ zWeak lo hi E (x * 128 + f) j j', zGe X ρ n h e := by
    intro x E h hE
    have := zWeak_s (p := x * 128 + f) (j := j) (j' := j') (lo := lo) (hi := hi) (M' := h.2.2.2) hE (fun q i _ _ => Or.inl rfl)
    exact this
  have tr : ∀ (l : List Nat) (E : List zE) (h : aH), (∀ e ∈ E, zGe X ρ n h e) → ∀ e ∈ zDropW lo hi f j j' l E, zGe X ρ n h e := by
    intro l
    induction l with
    | nil => intro E h hE; exact hE
    | cons x r ih =>
      intro E h hE
      exact ih _ h (one x E h hE)
  induction l generalizing E with
  | nil => cases hb
  | cons x r ih =>
    rcases List.mem_cons.mp hb with rfl | hb
    · exact tr r _ _ (zWeak_s (p := b * 128 + f) hE hs)
    · exact ih (one x E h hE) hb
theorem zNy2 {K' : zK} (hk : k n σ K' E ls st = true) (hg : zGa X P G pS h0 ρ0 ρ n σ K' E h') (hl : zGl P ρ n ls lsC) (hs : zGl P ρ n st stC) (hh : h.1 ≤ h'.1) (hC : C lsC stC h') : zNext X P G pS h0 ρ0 ρ n h k C :=
  ⟨n, σ, K', E, ls, st, ρ, h', lsC, stC, hk, Nat.le_refl n, fun _ _ => rfl, hg, hl, hs, hh, hC⟩
theorem zAt_set {l : List Nat} {f s j : Nat} (hj : zAt (l.set f s) j < 99999) : (j = f ∧ zAt (l.set f s) j = s) ∨ zAt (l.set f s) j = zAt l j := by
  induction l generalizing f j with
  | nil => exact Or.inr rfl
  | cons x r ih =>
    cases f with
    | zero =>
      cases j with
      | zero => exact Or.inl ⟨rfl, rfl⟩
      | succ j => exact Or.inr rfl
    | succ f =>
      cases j with
      | zero => exact Or.inr rfl
      | succ j =>
        have hj : zAt (r.set f s) j < 99999 := hj
        rcases ih hj with ⟨q1, q2⟩ | q
        · exact Or.inl ⟨by omega, q2⟩
        · exact Or.inr q
theorem zNoPs {s r : Nat} (hV : zVal P) (al : P.al = true) (hc : zGc P s r) : r = s := by
  rcases hc with ⟨_, e⟩ | ⟨-, -, e⟩ | ⟨_, e⟩
  · exact e
  · rw [(hV.2.2.2.2.1 al).1] at e
    cases e
  · exact e
theorem aSetR_k {M : Nat → aK} {a j b : Nat} {r : Option Nat} : (aSetR M a j r b).1 = (M b).1 ∧ (aSetR M a j r b).2.1 = (M b).2.1 := by
  unfold aSetR
  by_cases e : b = a
  · rw [if_pos e, e]
    exact ⟨rfl, rfl⟩
  · rw [if_neg e]
    exact ⟨rfl, rfl⟩
/-- a reference is written -/
theorem zGa.ref {a a' f s : Nat} {l : List Nat} {kd len : Nat} (hV : zVal P) (hg : zGa X P G pS h0 ρ0 ρ n σ K E h) (al : P.al = true) (ha : zGc P a' a) (h1 : a' < 700) (h2 : s < 700) (h3 : (zCe P K a').1 < 900) (hz : (zCe P K a').1 = kd ∧ (zCe P K a').2.1 = len ∧ (zCe P K a').2.2.1 = l ∨ False) :
    zGa X P G pS h0 ρ0 ρ n σ (K.1, K.2.1, (a', kd, len, l.set f s, 0) :: K.2.2) E (h.1, h.2.1, aSetR h.2.2.1 a f (some s), h.2.2.2) := by
  obtain ⟨g1, g2, g3, g4, g5, g6⟩ := hg
  rcases hz with ⟨z1, z2, z3⟩ | z
  · subst z1
    subst z2
    subst z3
    have ea := zGc_ex ha h1
    have hpl : ∀ p, zPl (h.1, h.2.1, aSetR h.2.2.1 a f (some s), h.2.2.2) p ↔ zPl h p := fun p => by
      unfold zPl
      dsimp only
      rw [(aSetR_k (M := h.2.2.1) (a := a) (j := f) (b := p / 128) (r := some s)).1]
    refine ⟨g1, ⟨g2.1, g2.2.1, fun s0 b hc hlt => ?_⟩, fun e he => ?_, fun p i hp hi => ?_, fun q => (by rw [al] at q; cases q), g6⟩
    · have eb := zNoPs hV al hc
      by_cases e : a' = s0
      · subst e
        have ecell : zCe P (K.1, K.2.1, (a', (zCe P K a').1, (zCe P K a').2.1, (zCe P K a').2.2.1.set f s, 0) :: K.2.2) a' = ((zCe P K a').1, (zCe P K a').2.1, (zCe P K a').2.2.1.set f s, 0) := by
          show zLk (_ :: K.2.2) a' (P.kT a') = _
          unfold zLk
          rw [Nat.beq_refl]
          rfl
        rw [ecell]
        have hb : b = a := eb.trans ea.symm
        subst hb
        obtain ⟨b1, b2, b3, b4, b5, b6⟩ := g2.2.2 a' b hc h3
        have hk := aSetR_k (M := h.2.2.1) (a := b) (j := f) (b := b) (r := some s)
        refine ⟨b1, b2, hk.1.trans b3, fun q => hk.2.trans (b4 q), fun j hj => ?_, fun q => absurd q (by show ¬ 700 ≤ 0; omega)⟩
        have hv : (aSetR h.2.2.1 b f (some s) b).2.2 j = if j = f then some s else (h.2.2.1 b).2.2 j := by
          unfold aSetR
          rw [if_pos rfl]
          rfl
        show ∃ r, (aSetR h.2.2.1 b f (some s) b).2.2 j = some r ∧ _
        rw [hv]
        by_cases q : j = f
        · rw [if_pos q]
          subst q
          have hlen : zAt ((zCe P K a').2.2.1.set j s) j = s ∨ zAt ((zCe P K a').2.2.1.set j s) j = 99999 := by
            have key : ∀ (l : List Nat) (f : Nat), zAt (l.set f s) f = s ∨ zAt (l.set f s) f = 99999 := by
              intro l
              induction l with
              | nil => intro f; exact Or.inr rfl
              | cons x r ih =>
                intro f
                cases f with
                | zero => exact Or.inl rfl
                | succ f => exact ih f
            exact key _ _
          have hj : zAt ((zCe P K a').2.2.1.set j s) j < 99999 := hj
          rcases hlen with hl | hl
          · exact ⟨s, rfl, Or.inl ⟨by show zAt ((zCe P K a').2.2.1.set j s) j < 700; omega, hl.symm⟩⟩
          · omega
        · rw [if_neg q]
          have hj : zAt ((zCe P K a').2.2.1.set f s) j < 99999 := hj
          rcases zAt_set hj with ⟨q1, -⟩ | q2
          · exact absurd q1 q
          · obtain ⟨r, r1, r2⟩ := b5 j (by omega)
            exact ⟨r, r1, by show zGc P (zAt ((zCe P K a').2.2.1.set f s) j) r; rw [q2]; exact r2⟩
      · have ecell : zCe P (K.1, K.2.1, (a', (zCe P K a').1, (zCe P K a').2.1, (zCe P K a').2.2.1.set f s, 0) :: K.2.2) s0 = zCe P K s0 := by
          show zLk (_ :: K.2.2) s0 (P.kT s0) = _
          unfold zLk
          have : Nat.beq a' s0 = false := by
            cases hb : Nat.beq a' s0
            · rfl
            · exact absurd (zbe hb) e
          rw [this]
          rfl
        rw [ecell] at hlt ⊢
        obtain ⟨b1, b2, b3, b4, b5, b6⟩ := g2.2.2 s0 b hc hlt
        have hne : b ≠ a := fun z => e (by rw [← ea, ← z, eb])
        have hv : aSetR h.2.2.1 a f (some s) b = h.2.2.1 b := by
          unfold aSetR
          rw [if_neg hne]
        refine ⟨b1, b2, ?_, ?_, ?_, ?_⟩
        · show (aSetR h.2.2.1 a f (some s) b).1 = _
          rw [hv]
          exact b3
        · show _ → (aSetR h.2.2.1 a f (some s) b).2.1 = _
          rw [hv]
          exact b4
        · show ∀ j, _ → ∃ r, (aSetR h.2.2.1 a f (some s) b).2.2 j = some r ∧ _
          rw [hv]
          exact b5
        · show _ → ∀ j, _ → ∃ r, (aSetR h.2.2.1 a f (some s) b).2.2 j = some r ∧ _
          rw [hv]
          exact b6
    · have h0 := g3 e he
      unfold zGe at h0 ⊢
      by_cases c1 : e.1 = 11520001
      · rw [if_pos c1] at h0 ⊢
        exact h0
      · rw [if_neg c1] at h0 ⊢
        by_cases c2 : e.1 = 11520002
        · rw [if_pos c2] at h0 ⊢
          exact h0
        · rw [if_neg c2] at h0 ⊢
          exact ⟨(hpl _).mpr h0.1, h0.2⟩
    · refine g4 p i ((hpl p).mp hp) (fun q => ?_)
      have := hi q
      dsimp only at this
      rwa [(aSetR_k (M := h.2.2.1) (a := a) (j := f) (b := p / 128) (r := some s)).2] at this
  · exact z.elim
theorem zPl_dm {q a f : Nat} (h1 : q / 128 = a) (h2 : q % 128 = f) : q = a * 128 + f := by omega
theorem zS_putf {c f t : Nat} (hV : zVal P) (hG : zHG P G) (hk : zPutf P c f t n σ K E ls st k = true) (hc : c < 100) (hg : zGa X P G pS h0 ρ0 ρ n σ K E h) (hl : zGl P ρ n ls lsC) (hs : zGl P ρ n st stC)
    (hC : ∀ (a : Nat) (x : Int32) q, stC = .int x :: .ref a :: q → a < h.1 → (h.2.2.1 a).1 = c → (t = 0 ∨ t = 1 ∧ (x = 0 ∨ x = 1)) → C lsC q (h.1, h.2.1, h.2.2.1, aPut h.2.2.2 a f x))
    (hR : ∀ (a r : Nat) q, stC = .ref r :: .ref a :: q → a < h.1 → (h.2.2.1 a).1 = c → t = 2 → r < h.1 → C lsC q (h.1, h.2.1, aSetR h.2.2.1 a f (some r), h.2.2.2)) : zNext X P G pS h0 ρ0 ρ n h k C := by
  match st, hk, hs with
  | [], hk, _ => cases hk
  | [_], hk, _ => cases hk
  | v :: w :: r, hk, hs =>
    obtain ⟨u, q0, rfl, h1, hs0⟩ := zGl_cons hs
    obtain ⟨u2, q, rfl, h2, hs1⟩ := zGl_cons hs0
    have hk : zRef w (fun a => zPutV P c f t a v n σ K E ls r k) = true := hk
    obtain ⟨a, rfl, hca, hk⟩ := zRef_s h2 hk
    unfold zPutV at hk
    rcases zCd hk with ⟨c1, hk⟩ | ⟨-, hk⟩
    · have c1 := zbe c1
      obtain ⟨b1, b2, b3, b4, b5, b6⟩ := hg.2.1.2.2 w.2.2.2 a hca (by omega)
      have hkd : (h.2.2.1 a).1 = c := b3.trans c1
      rcases zCd hk with ⟨c2, hk⟩ | ⟨c2, hk⟩
      · -- a reference
        unfold zPutR at hk
        rcases zCd hk with ⟨c3, hk⟩ | ⟨-, hk⟩
        · obtain ⟨d1, d2⟩ := zAnd c3
          obtain ⟨d0, d1⟩ := zAnd d1
          obtain ⟨d2, d3⟩ := zAnd d2
          obtain ⟨d3, d4⟩ := zAnd d3
          have d0 := zbe d0
          have d1 := zbl d1
          have d3 := zbt d3
          have d4 := zbt d4
          obtain ⟨s, rfl, hcs⟩ := zG_ref h1 (zbe c2)
          have hK1 : h.1 = K.1 := hg.2.1.1
          have es := zGc_ex hcs (by omega)
          have hC := hR a s q rfl b1 hkd d0 (by rw [es, hK1]; exact d4)
          rw [es] at hC
          exact zNy2 hk (zGa.ref hV hg d2 hca (by omega) (by omega) (by omega) (Or.inl ⟨rfl, rfl, rfl⟩)) hl hs1 (Nat.le_refl _) hC
        · cases hk
      · obtain ⟨x, rfl, hx⟩ := zG_rgi h1 hk
        obtain ⟨lo, hi, x1, x2, hk⟩ := zRg_s hg.1 hx hk
        unfold zPutN at hk
        rcases zCd hk with ⟨c3, hk⟩ | ⟨-, hk⟩
        · obtain ⟨c3, c4⟩ := zAnd c3
          have c3 := zbt c3
          have hx01 : t = 0 ∨ t = 1 ∧ (x = 0 ∨ x = 1) := by
            rcases zOr c4 with c4 | c4
            · exact Or.inl (zbe c4)
            · obtain ⟨c4, c5⟩ := zAnd c4
              obtain ⟨c5, c6⟩ := zAnd c5
              have c5 := zl c5
              have c6 := zl c6
              rw [z0_eq] at c5
              rw [z1_eq] at c6
              exact Or.inr ⟨zbe c4, z01 (by omega) (by omega)⟩
          have hC := hC a x q rfl b1 hkd hx01
          have hkd' : (h.2.2.1 a).1 < 100 := by omega
          have same : ∀ p i, zPl h p → (p = a * 128 + f → (i < 0 ∨ 1 ≤ i)) → (p % 128 ≠ 127 → i = 0) → zM (h.1, h.2.1, h.2.2.1, aPut h.2.2.2 a f x) p i = zM h p i := by
            intro p i hp hn hz
            refine zM_put (fun z => ?_)
            obtain ⟨z1, z2⟩ := z
            obtain ⟨-, -, hp3⟩ := hp
            by_cases c7 : p % 128 = 127
            · rw [if_pos c7, z1] at hp3
              omega
            · rw [if_neg c7] at z2
              have := hn (zPl_dm z1 z2)
              have := hz c7
              omega
          rcases zCd hk with ⟨c5, hk⟩ | ⟨c5, hk⟩
          · have c5 := zbt c5
            have ea := zGc_ex hca c5
            rw [← ea] at hk
            rcases zCd hk with ⟨c6, hk⟩ | ⟨-, hk⟩
            · obtain ⟨m1, m2, m3⟩ := zMay1_s c6
              have hp : zPl h (a * 128 + f) := zPlf c3 b1 b2 hkd'
              have hp' : zPl (h.1, h.2.1, h.2.2.1, aPut h.2.2.2 a f x) (a * 128 + f) := hp
              have g' : zGa X P G pS h0 ρ0 ρ n σ K ((a * 128 + f, 0, 1, v) :: zTrim E (a * 128 + f) 0 1) (h.1, h.2.1, h.2.2.1, aPut h.2.2.2 a f x) := by
                refine zGa.wr hV hG hg (fun e he => ?_) (zGI_put hg.2.2.2.1 (fun _ => ⟨by omega, by omega⟩) (fun z => by omega)) (zOff_putf hkd' m1) (zKp_putf hkd')
                rcases List.mem_cons.mp he with rfl | he
                · refine (zGe_pl hp').mpr (fun i q1 q2 q3 => ?_)
                  show zN ρ n 0 v (zM (h.1, h.2.1, h.2.2.1, aPut h.2.2.2 a f x) (a * 128 + f) i).toInt
                  rw [zMf c3]
                  have e : aPut h.2.2.2 a f x a f = x := by unfold aPut; rw [if_pos rfl, if_pos rfl]
                  show zN ρ n 0 v (aPut h.2.2.2 a f x a f).toInt
                  rw [e]
                  exact hx
                · exact zTrim_s hg.2.2.1 same e he
              exact zNy hk (Nat.le_refl _) (fun _ _ => rfl) g' hl hs1 (Nat.le_refl _) hC
            · cases hk
          · rcases zCd hk with ⟨c6, hk⟩ | ⟨-, hk⟩
            · have c5 : ¬ w.2.2.2 < 700 := by have := zbtF c5; omega
              obtain ⟨p1, p2, p3⟩ := zGc_ps hca c5 b2
              obtain ⟨m1, m2, m3⟩ := zMay1_s (zMem_s c6 p3)
              have g' : zGa X P G pS h0 ρ0 ρ n σ K (zDrop f 0 1 (P.ps w.2.2.2) E) (h.1, h.2.1, h.2.2.1, aPut h.2.2.2 a f x) :=
                zGa.wr hV hG hg (zDrop_s hg.2.2.1 p3 same) (zGI_put hg.2.2.2.1 (fun _ => ⟨by omega, by omega⟩) (fun z => by omega)) (zOff_putf hkd' m1) (zKp_putf hkd')
              exact zNy hk (Nat.le_refl _) (fun _ _ => rfl) g' hl hs1 (Nat.le_refl _) hC
            · cases hk
        · cases hk
    · cases hk
end ZIN
