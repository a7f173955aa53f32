/-! the interpreter is sound -/
/-- a frame that waits, as it is: depth, how many cells there were, method, block, what is left of it, locals, stack -/
abbrev cFr : Type := Nat × Nat × Nat × Nat × List aI × List Value × List Value
/-- what is to come of an answer, in the frames that wait -/
def zCt (X : aX) (Q : Option Value → aH → Prop) : List cFr → Option Value → aH → Prop
  | [], rv, h => Q rv h
  | q :: fs, rv, h => (h.1 = q.2.1 ∨ (q.2.2.2.2.2.1 ++ q.2.2.2.2.2.2).all (aOkv q.2.1) = true) ∧ zW X q.1 q.2.2.1 q.2.2.2.1 q.2.2.2.2.1 q.2.2.2.2.2.1 (rv.toList ++ q.2.2.2.2.2.2) h (zCt X Q fs)
def zGf (P : zP) (ρ : Nat → Int) (n kk : Nat) : List zFr → List cFr → Prop
  | [], [] => True
  | q :: r, c :: s => (c.1 = q.1 + kk ∧ c.2.1 = q.2.1 ∧ c.2.2.1 = q.2.2.1 ∧ c.2.2.2.1 = q.2.2.2.1 ∧ q.2.2.2.2.1 = zEnB c.2.2.2.2.1 ∧ zGl P ρ n q.2.2.2.2.2.1 c.2.2.2.2.2.1 ∧ zGl P ρ n q.2.2.2.2.2.2 c.2.2.2.2.2.2) ∧ zGf P ρ n kk r s
  | _, _ => False
/-- the frame below all -/
def zBot (dt yt : Nat) : List zFr → Nat → Nat → Prop
  | [], d, y => d = dt ∧ y = yt
  | q :: r, _, _ => zBot dt yt r q.1 q.2.2.1
def zSnd (X : aX) (P : zP) (G : aH → Prop) (pS : Nat) (h0 : aH) (ρ0 : Nat → Int) (kk dt yt : Nat) (Q : Option Value → aH → Prop) (rec : zR) : Prop :=
  ∀ n σ K E x is ls st, rec n σ K E x is ls st = true → ∀ ρ h fsC isC lsC stC, zGa X P G pS h0 ρ0 ρ n σ K E h → zGf P ρ n kk x.1 fsC → zBot dt yt x.1 x.2.1 x.2.2.1 → is = zEnB isC → zGl P ρ n ls lsC → zGl P ρ n st stC →
    zW X (x.2.1 + kk) x.2.2.1 x.2.2.2 isC lsC stC h (zCt X Q fsC)
/-- of loops' heads -/
def zHI (X : aX) (P : zP) (G : aH → Prop) (pS : Nat) (h0 : aH) (ρ0 : Nat → Int) (kk dt yt : Nat) (Q : Option Value → aH → Prop) : Prop :=
  ∀ v ∈ P.inv, ∀ n σ K E ls ρ h lsC, zGa X P G pS h0 ρ0 ρ n σ K E h → zGl P ρ n ls lsC → zHead P v n σ E ls = true → P.kc n σ K E ls = true → ∃ l, (aMC yt)[v.1]? = some l ∧ zW X (dt + kk) yt v.1 l lsC [] h Q
/-- of the end -/
def zHF (X : aX) (P : zP) (G : aH → Prop) (pS : Nat) (h0 : aH) (ρ0 : Nat → Int) (Q : Option Value → aH → Prop) : Prop :=
  ∀ n σ K E rv ρ h rvC, P.fin n σ K E rv = true → zGa X P G pS h0 ρ0 ρ n σ K E h → zGl P ρ n rv (Option.toList rvC) → Q rvC h
section ZMN
variable {X : aX} {P : zP} {G : aH → Prop} {pS kk dt yt : Nat} {h0 h h' : aH} {ρ0 ρ ρ' : Nat → Int} {n n' : Nat} {σ : zS} {K : zK} {E E' : List zE} {v u : zV} {ls st : List zV} {lsC stC : List Value} {Q : Option Value → aH → Prop} {rec : zR} {x : zX} {fsC : List cFr}
theorem zGf.mono {fs : List zFr} {cs : List cFr} (k : zGf P ρ n kk fs cs) (hn : n ≤ n') (hr : ∀ i, i < n → ρ' i = ρ i) : zGf P ρ' n' kk fs cs := by
  induction fs generalizing cs with
  | nil => cases cs <;> exact k
  | cons q r ih =>
    cases cs with
    | nil => exact k
    | cons c s =>
      obtain ⟨⟨k1, k2, k3, k4, k5, k6, k7⟩, k8⟩ := k
      exact ⟨⟨k1, k2, k3, k4, k5, k6.mono hn hr, k7.mono hn hr⟩, ih k8⟩
theorem zBlk_s {L : List (List zI)} {b : Nat} {k : List zI → Bool} (h : zBlk L b k = true) : ∃ l, L[b]? = some l ∧ k l = true := by
  induction L generalizing b with
  | nil => cases h
  | cons a r ih =>
    unfold zBlk at h
    rcases zCd h with ⟨c, h⟩ | ⟨c, h⟩
    · rw [zbe c]
      exact ⟨a, rfl, h⟩
    · have c := zbn c
      obtain ⟨l, h1, h2⟩ := ih h
      obtain ⟨m, rfl⟩ : ∃ m, b = m + 1 := ⟨b - 1, by omega⟩
      exact ⟨l, h1, h2⟩
theorem zBk_s {y b : Nat} {k : List zI → Bool} (hV : zVal P) (h : zBlk (P.bk y) b k = true) : ∃ l, (aMC y)[b]? = some l ∧ k (zEnB l) = true := by
  obtain ⟨l, h1, h2⟩ := zBlk_s h
  rw [hV.1 y, List.getElem?_map] at h1
  obtain ⟨l', h3, rfl⟩ := Option.map_eq_some_iff.mp h1
  exact ⟨l', h3, h2⟩
theorem zNil_s {α : Type} {l : List α} (h : zNil l = true) : l = [] := by
  cases l with
  | nil => rfl
  | cons a r => cases h
theorem zNo_s {b : Bool} (h : zNo b = true) : b = false := by
  cases b
  · rfl
  · cases h
/-- to a block -/
theorem zJ_s {b : Nat} (hV : zVal P) (hrec : zSnd X P G pS h0 ρ0 kk dt yt Q rec) (hI : zHI X P G pS h0 ρ0 kk dt yt Q) (hk : zJ P rec n σ K E x b ls st = true) (hg : zGa X P G pS h0 ρ0 ρ n σ K E h) (hf : zGf P ρ n kk x.1 fsC) (hb : zBot dt yt x.1 x.2.1 x.2.2.1) (hl : zGl P ρ n ls lsC) (hs : zGl P ρ n st stC) :
    ∃ l, (aMC x.2.2.1)[b]? = some l ∧ zW X (x.2.1 + kk) x.2.2.1 b l lsC stC h (zCt X Q fsC) := by
  have j0 : zJ0 P rec n σ K E x b ls st = true → ∃ l, (aMC x.2.2.1)[b]? = some l ∧ zW X (x.2.1 + kk) x.2.2.1 b l lsC stC h (zCt X Q fsC) := by
    intro hk
    unfold zJ0 at hk
    obtain ⟨l, h1, h2⟩ := zBk_s hV hk
    exact ⟨l, h1, hrec _ _ _ _ (x.1, x.2.1, x.2.2.1, b) _ _ _ h2 ρ h fsC l lsC stC hg hf hb rfl hl hs⟩
  unfold zJ at hk
  rcases zCd hk with ⟨c, hk⟩ | ⟨-, hk⟩
  · have c := zNil_s c
    have j1 : ∀ l : List zIv, (∀ v ∈ l, v ∈ P.inv) → zJ1 P rec n σ K E x b ls st l = true → ∃ l, (aMC x.2.2.1)[b]? = some l ∧ zW X (x.2.1 + kk) x.2.2.1 b l lsC stC h (zCt X Q fsC) := by
      intro l
      induction l with
      | nil => intro _ hk; exact j0 hk
      | cons v r ih =>
        intro hm hk
        unfold zJ1 at hk
        rcases zCd hk with ⟨c2, hk⟩ | ⟨-, hk⟩
        · have c2 := zbe c2
          rcases zOr hk with hk | hk
          case inr => exact ih (fun v hv => hm v (List.mem_cons_of_mem _ hv)) hk
          obtain ⟨d1, d2⟩ := zAnd hk
          obtain ⟨d2, d3⟩ := zAnd d2
          have d1 := zNil_s d1
          subst d1
          rw [zGl_nil hs]
          rw [c] at hf hb
          have hfs : fsC = [] := by
            cases fsC with
            | nil => rfl
            | cons a r => exact hf.elim
          subst hfs
          obtain ⟨e1, e2⟩ := hb
          rw [e1, e2, ← c2]
          exact hI v (hm v List.mem_cons_self) n σ K E ls ρ h lsC hg hl d2 d3
        · exact ih (fun v hv => hm v (List.mem_cons_of_mem _ hv)) hk
    exact j1 P.inv (fun v hv => hv) hk
  · exact j0 hk
/-- an answer -/
theorem zRet_s {fs : List zFr} {rv : List zV} {rvC : Option Value} {d y : Nat} (hrec : zSnd X P G pS h0 ρ0 kk dt yt Q rec) (hF : zHF X P G pS h0 ρ0 Q) (hk : zRet P rec n σ K E rv fs = true) (hg : zGa X P G pS h0 ρ0 ρ n σ K E h) (hf : zGf P ρ n kk fs fsC) (hb : zBot dt yt fs d y) (hl : zGl P ρ n rv rvC.toList) : zCt X Q fsC rvC h := by
  cases fs with
  | nil =>
    cases fsC with
    | nil => exact hF n σ K E rv ρ h rvC hk hg hl
    | cons c s => exact hf.elim
  | cons q r =>
    cases fsC with
    | nil => exact hf.elim
    | cons c s =>
      obtain ⟨⟨k1, k2, k3, k4, k5, k6, k7⟩, k8⟩ := hf
      have hk : zRet1 rec n σ K E rv r q = true := hk
      unfold zRet1 at hk
      rcases zCd hk with ⟨c1, hk⟩ | ⟨-, hk⟩
      · refine ⟨?_, ?_⟩
        · rcases zOr c1 with c1 | c1
          · left
            rw [k2, zbe c1]
            exact hg.2.1.1
          · right
            obtain ⟨d1, d2⟩ := zAnd c1
            obtain ⟨d2, d3⟩ := zAnd d2
            rw [k2, List.all_append, zAll_s (zbl d1) k6 d2, zAll_s (zbl d1) k7 d3]
            rfl
        · have := hrec _ _ _ _ (r, q.1, q.2.2.1, q.2.2.2.1) _ _ _ hk ρ h s c.2.2.2.2.1 c.2.2.2.2.2.1 (rvC.toList ++ c.2.2.2.2.2.2) hg k8 hb k5 k6 (zGl_app hl k7)
          rw [k1, k3, k4]
          exact this
      · cases hk
/-- which of the three an instruction is -/
theorem zEn_k (i : aI) : ((zEn i).1 < 48 ∧ aKd i ≤ 2) ∨ (48 ≤ (zEn i).1 ∧ (zEn i).1 < 57 ∧ aKd i = 4) ∨ (57 ≤ (zEn i).1 ∧ (zEn i).1 < 60 ∧ aKd i = 3) ∨ (zEn i).1 = 60 := by
  cases i with
  | newarray t => cases t <;> first | exact Or.inl (by decide) | exact Or.inr (Or.inr (Or.inr rfl))
  | multianewarray z m =>
    match m with
    | 0 => exact Or.inr (Or.inr (Or.inr rfl))
    | 1 => exact Or.inr (Or.inr (Or.inr rfl))
    | 2 => exact Or.inl ⟨by show 45 < 48; decide, by show 2 ≤ 2; decide⟩
    | m + 3 => exact Or.inr (Or.inr (Or.inr rfl))
  | _ => first
    | exact Or.inl ⟨Nat.le_of_ble_eq_true rfl, Nat.le_of_ble_eq_true rfl⟩
    | exact Or.inr (Or.inl ⟨Nat.le_of_ble_eq_true rfl, Nat.le_of_ble_eq_true rfl, rfl⟩)
    | exact Or.inr (Or.inr (Or.inl ⟨Nat.le_of_ble_eq_true rfl, Nat.le_of_ble_eq_true rfl, rfl⟩))
    | exact Or.inr (Or.inr (Or.inr rfl))
/-- a table of places to go -/
theorem zTab_s {os : List Int} {hi j : Int} {a : Int32} (hV : zVal P) (hrec : zSnd X P G pS h0 ρ0 kk dt yt Q rec) (hI : zHI X P G pS h0 ρ0 kk dt yt Q) (hk : zTab P rec n σ K E x ls st u (os.map (fun o => (hi, o))) j = true) (hu : zN ρ n 0 u a.toInt) (hg : zGa X P G pS h0 ρ0 ρ n σ K E h) (hf : zGf P ρ n kk x.1 fsC) (hb : zBot dt yt x.1 x.2.1 x.2.2.1) (hl : zGl P ρ n ls lsC) (hs : zGl P ρ n st stC) {m : Nat} {o : Int} (hm : os[m]? = some o) (ha : a.toInt = j + m) :
    ∃ l, (aMC x.2.2.1)[o.toNat]? = some l ∧ zW X (x.2.1 + kk) x.2.2.1 o.toNat l lsC stC h (zCt X Q fsC) := by
  induction os generalizing j m with
  | nil => cases hm
  | cons p r ih =>
    obtain ⟨k1, k2⟩ := zAnd (show (zEq 0 σ u (zc 0 j) (fun σ => zJ P rec n σ K E x p.toNat ls st) && zTab P rec n σ K E x ls st u (r.map (fun o => (hi, o))) (j + z1)) = true from hk)
    cases m with
    | zero =>
      cases hm
      obtain ⟨σ', g', k1⟩ := zEq_s (Y := j) hg.1 hu (znC rfl) (by omega) k1
      exact zJ_s hV hrec hI k1 (hg.sym g') hf hb hl hs
    | succ m => exact ih k2 hm (by rw [z1_eq]; omega)
theorem zLok_s {ps : List (Int × Int)} {d : Int} {a : Int32} (hV : zVal P) (hrec : zSnd X P G pS h0 ρ0 kk dt yt Q rec) (hI : zHI X P G pS h0 ρ0 kk dt yt Q) (hk : zLok P rec n K E x ls st u d.toNat ps σ = true) (hu : zN ρ n 0 u a.toInt) (hg : zGa X P G pS h0 ρ0 ρ n σ K E h) (hf : zGf P ρ n kk x.1 fsC) (hb : zBot dt yt x.1 x.2.1 x.2.2.1) (hl : zGl P ρ n ls lsC) (hs : zGl P ρ n st stC) :
    ∃ l, (aMC x.2.2.1)[(Op.lookupswitch.offset ps d a.toInt).toNat]? = some l ∧ zW X (x.2.1 + kk) x.2.2.1 (Op.lookupswitch.offset ps d a.toInt).toNat l lsC stC h (zCt X Q fsC) := by
  induction ps generalizing σ with
  | nil => exact zJ_s hV hrec hI hk hg hf hb hl hs
  | cons p r ih =>
    obtain ⟨k1, k2⟩ := zAnd (show (zEq 0 σ u (zc 0 p.1) (fun σ => zJ P rec n σ K E x p.2.toNat ls st) && zNe 0 σ u (zc 0 p.1) (fun σ => zLok P rec n K E x ls st u d.toNat r σ)) = true from hk)
    obtain ⟨p1, p2⟩ := p
    rw [Op.lookupswitch.offset_cons]
    by_cases q : p1 = a.toInt
    · rw [if_pos q]
      obtain ⟨σ', g', k1⟩ := zEq_s (Y := p1) hg.1 hu (znC rfl) q.symm k1
      exact zJ_s hV hrec hI k1 (hg.sym g') hf hb hl hs
    · rw [if_neg q]
      obtain ⟨σ', g', k2⟩ := zNe_s (Y := p1) hg.1 hu (znC rfl) (fun z => q z.symm) k2
      exact ih k2 (hg.sym g')
/-- the end of a block -/
theorem zEnd_s {i : aI} {is : List aI} (hV : zVal P) (hrec : zSnd X P G pS h0 ρ0 kk dt yt Q rec) (hI : zHI X P G pS h0 ρ0 kk dt yt Q) (hF : zHF X P G pS h0 ρ0 Q) (hk : zEnds (zEn i).1 P rec (zEn i) n σ K E x ls st = true) (hi4 : aKd i = 4) (hg : zGa X P G pS h0 ρ0 ρ n σ K E h) (hf : zGf P ρ n kk x.1 fsC) (hb : zBot dt yt x.1 x.2.1 x.2.2.1) (hl : zGl P ρ n ls lsC) (hs : zGl P ρ n st stC) : zW X (x.2.1 + kk) x.2.2.1 x.2.2.2 (i :: is) lsC stC h (zCt X Q fsC) := by
  cases i with
  | goto o =>
    have hk : zJ P rec n σ K E x o.toNat ls st = true := hk
    obtain ⟨l, h1, h2⟩ := zJ_s hV hrec hI hk hg hf hb hl hs
    exact zW_jump rfl rfl h1 h2
  | ifCond c o =>
    match st, hk, hs with
    | [], hk, _ => cases hk
    | u :: t, hk, hs =>
      obtain ⟨uC, q, rfl, h1, hs1⟩ := zGl_cons hs
      have hk : zCmpS (zCc c) σ u (0, z0, z0, 0) (fun σ => zJ P rec n σ K E x o.toNat ls t) (fun σ => zJ P rec n σ K E x (x.2.2.2 + 1) ls t) = true := hk
      have ht : u.1 = 0 ∨ u.1 = 1 := by
        have : ∃ (p1 p2 : zS → zV → zV → (zS → Bool) → Bool), (p1 σ u (0, z0, z0, 0) (fun σ => zJ P rec n σ K E x o.toNat ls t) = true ∨ p1 σ (0, z0, z0, 0) u (fun σ => zJ P rec n σ K E x o.toNat ls t) = true) ∧ (p1 = zEq 0 ∨ p1 = zNe 0 ∨ p1 = zLt 0 ∨ p1 = zLe 0) := by
          cases c with
          | eq => exact ⟨zEq 0, zNe 0, Or.inl (zAnd (show (zEq 0 σ u (0, z0, z0, 0) _ && zNe 0 σ (0, z0, z0, 0) u _) = true from hk)).1, Or.inl rfl⟩
          | ne => exact ⟨zNe 0, zEq 0, Or.inl (zAnd (show (zNe 0 σ u (0, z0, z0, 0) _ && zEq 0 σ (0, z0, z0, 0) u _) = true from hk)).1, Or.inr (Or.inl rfl)⟩
          | lt => exact ⟨zLt 0, zLe 0, Or.inl (zAnd (show (zLt 0 σ u (0, z0, z0, 0) _ && zLe 0 σ (0, z0, z0, 0) u _) = true from hk)).1, Or.inr (Or.inr (Or.inl rfl))⟩
          | ge => exact ⟨zLe 0, zLt 0, Or.inr (zAnd (show (zLe 0 σ (0, z0, z0, 0) u _ && zLt 0 σ u (0, z0, z0, 0) _) = true from hk)).1, Or.inr (Or.inr (Or.inr rfl))⟩
          | gt => exact ⟨zLt 0, zLe 0, Or.inr (zAnd (show (zLt 0 σ (0, z0, z0, 0) u _ && zLe 0 σ u (0, z0, z0, 0) _) = true from hk)).1, Or.inr (Or.inr (Or.inl rfl))⟩
          | le => exact ⟨zLe 0, zLt 0, Or.inl (zAnd (show (zLe 0 σ u (0, z0, z0, 0) _ && zLt 0 σ (0, z0, z0, 0) u _) = true from hk)).1, Or.inr (Or.inr (Or.inr rfl))⟩
        obtain ⟨p1, -, h3, h4⟩ := this
        rcases h4 with rfl | rfl | rfl | rfl <;> rcases h3 with h3 | h3 <;> first | exact (zPr_tag h3).1 | exact (zPr_tag h3).2
      obtain ⟨a, rfl, ha⟩ := zG_int h1 ht
      obtain ⟨σ', g', hk⟩ := zCmp_s (b := 0) hg.1 ha (znC (w := 0) rfl) hk
      have hT : aT (aRT x.2.2.1) x.2.2.2 (.ifCond c o) lsC (.int a :: q) h = some (.inl (if aCd c a 0 then o.toNat else x.2.2.2 + 1, lsC, q, h)) := rfl
      by_cases qc : aCd c a 0 = true
      · rw [if_pos qc] at hk hT
        obtain ⟨l, h2, h3⟩ := zJ_s hV hrec hI hk (hg.sym g') hf hb hl hs1
        exact zW_jump rfl hT h2 h3
      · rw [if_neg qc] at hk hT
        obtain ⟨l, h2, h3⟩ := zJ_s hV hrec hI hk (hg.sym g') hf hb hl hs1
        exact zW_jump rfl hT h2 h3
  | if_icmp c o =>
    match st, hk, hs with
    | [], hk, _ => cases hk
    | [_], hk, _ => cases hk
    | w :: u :: t, hk, hs =>
      obtain ⟨wC, q0, rfl, h0', hs0⟩ := zGl_cons hs
      obtain ⟨uC, q, rfl, h1, hs1⟩ := zGl_cons hs0
      have hk : zCmpS (zCc c) σ u w (fun σ => zJ P rec n σ K E x o.toNat ls t) (fun σ => zJ P rec n σ K E x (x.2.2.2 + 1) ls t) = true := hk
      have ht : (u.1 = 0 ∨ u.1 = 1) ∧ (w.1 = 0 ∨ w.1 = 1) := by
        have : ∃ (p1 : zS → zV → zV → (zS → Bool) → Bool), (p1 σ u w (fun σ => zJ P rec n σ K E x o.toNat ls t) = true ∨ p1 σ w u (fun σ => zJ P rec n σ K E x o.toNat ls t) = true) ∧ (p1 = zEq 0 ∨ p1 = zNe 0 ∨ p1 = zLt 0 ∨ p1 = zLe 0) := by
          cases c with
          | eq => exact ⟨zEq 0, Or.inl (zAnd (show (zEq 0 σ u w _ && zNe 0 σ w u _) = true from hk)).1, Or.inl rfl⟩
          | ne => exact ⟨zNe 0, Or.inl (zAnd (show (zNe 0 σ u w _ && zEq 0 σ w u _) = true from hk)).1, Or.inr (Or.inl rfl)⟩
          | lt => exact ⟨zLt 0, Or.inl (zAnd (show (zLt 0 σ u w _ && zLe 0 σ w u _) = true from hk)).1, Or.inr (Or.inr (Or.inl rfl))⟩
          | ge => exact ⟨zLe 0, Or.inr (zAnd (show (zLe 0 σ w u _ && zLt 0 σ u w _) = true from hk)).1, Or.inr (Or.inr (Or.inr rfl))⟩
          | gt => exact ⟨zLt 0, Or.inr (zAnd (show (zLt 0 σ w u _ && zLe 0 σ u w _) = true from hk)).1, Or.inr (Or.inr (Or.inl rfl))⟩
          | le => exact ⟨zLe 0, Or.inl (zAnd (show (zLe 0 σ u w _ && zLt 0 σ w u _) = true from hk)).1, Or.inr (Or.inr (Or.inr rfl))⟩
        obtain ⟨p1, h3, h4⟩ := this
        rcases h4 with rfl | rfl | rfl | rfl <;> rcases h3 with h3 | h3 <;> first | exact zPr_tag h3 | exact ⟨(zPr_tag h3).2, (zPr_tag h3).1⟩
      obtain ⟨a, rfl, ha⟩ := zG_int h1 ht.1
      obtain ⟨b, rfl, hb'⟩ := zG_int h0' ht.2
      obtain ⟨σ', g', hk⟩ := zCmp_s hg.1 ha hb' hk
      have hT : aT (aRT x.2.2.1) x.2.2.2 (.if_icmp c o) lsC (.int b :: .int a :: q) h = some (.inl (if aCd c a b then o.toNat else x.2.2.2 + 1, lsC, q, h)) := rfl
      by_cases qc : aCd c a b = true
      · rw [if_pos qc] at hk hT
        obtain ⟨l, h2, h3⟩ := zJ_s hV hrec hI hk (hg.sym g') hf hb hl hs1
        exact zW_jump rfl hT h2 h3
      · rw [if_neg qc] at hk hT
        obtain ⟨l, h2, h3⟩ := zJ_s hV hrec hI hk (hg.sym g') hf hb hl hs1
        exact zW_jump rfl hT h2 h3
  | tableswitch d lo hi os =>
    match st, hk, hs with
    | [], hk, _ => cases hk
    | u :: t, hk, hs =>
      obtain ⟨uC, q, rfl, h1, hs1⟩ := zGl_cons hs
      have hk : zSwT P rec (51, d.toNat, lo, os.toList.map (fun o => (hi, o))) n σ K E x ls (u :: t) = true := hk
      unfold zSwT at hk
      dsimp only at hk
      split at hk
      · rename_i uu tt o1 r1 e1 e2
        cases e1
        have eo : ∃ o, o1 = (hi, o) := by
          cases hos : os.toList with
          | nil =>
            rw [hos] at e2
            cases e2
          | cons a r =>
            rw [hos] at e2
            cases e2
            exact ⟨a, rfl⟩
        obtain ⟨o, rfl⟩ := eo
        rw [← e2] at hk
        unfold zSwT2 at hk
        obtain ⟨k0, hk⟩ := zAnd hk
        obtain ⟨k0, k00⟩ := zAnd k0
        obtain ⟨k1, hk⟩ := zAnd hk
        obtain ⟨k2, k3⟩ := zAnd hk
        have k0 := zbe k0
        have k00 := zl k00
        rw [List.length_map] at k0
        have k0 : os.toList.length = (hi - lo + z1).toNat := k0
        rw [z1_eq] at k0
        obtain ⟨a, rfl, ha⟩ := zG_int h1 (zPr_tag k2).1
        have hT : aT (aRT x.2.2.1) x.2.2.2 (.tableswitch d lo hi os) lsC (.int a :: q) h = (if a.toInt < lo ∨ hi < a.toInt then some (.inl (d.toNat, lsC, q, h)) else (match os[(a.toInt - lo).toNat]? with
          | some o => some (.inl (o.toNat, lsC, q, h))
          | none => none)) := rfl
        by_cases q1 : a.toInt < lo
        · rw [if_pos (Or.inl q1)] at hT
          obtain ⟨σ', g', k2⟩ := zLt_s (Y := lo) hg.1 ha (znC rfl) q1 k2
          obtain ⟨l, h2, h3⟩ := zJ_s hV hrec hI k2 (hg.sym g') hf hb hl hs1
          exact zW_jump rfl hT h2 h3
        · by_cases q2 : hi < a.toInt
          · rw [if_pos (Or.inr q2)] at hT
            obtain ⟨σ', g', k3⟩ := zLt_s (X := hi) hg.1 (znC rfl) ha q2 k3
            obtain ⟨l, h2, h3⟩ := zJ_s hV hrec hI k3 (hg.sym g') hf hb hl hs1
            exact zW_jump rfl hT h2 h3
          · rw [if_neg (by omega)] at hT
            have hlt : (a.toInt - lo).toNat < os.toList.length := by omega
            obtain ⟨o', ho⟩ : ∃ o', os.toList[(a.toInt - lo).toNat]? = some o' := ⟨_, List.getElem?_eq_getElem hlt⟩
            have ho2 : os[(a.toInt - lo).toNat]? = some o' := by rw [← Array.getElem?_toList]; exact ho
            rw [ho2] at hT
            obtain ⟨l, h2, h3⟩ := zTab_s hV hrec hI k1 ha hg hf hb hl hs1 ho (by omega)
            exact zW_jump rfl hT h2 h3
      · cases hk
  | lookupswitch d ps =>
    match st, hk, hs with
    | [], hk, _ => cases hk
    | u :: t, hk, hs =>
      obtain ⟨uC, q, rfl, h1, hs1⟩ := zGl_cons hs
      have hk : (bif Nat.ble u.1 1 then zLok P rec n K E x ls t u d.toNat ps.toList σ else false) = true := hk
      rcases zCd hk with ⟨c, hk⟩ | ⟨-, hk⟩
      · obtain ⟨a, rfl, ha⟩ := zG_int h1 (by have := zbl c; omega)
        obtain ⟨l, h2, h3⟩ := zLok_s hV hrec hI hk ha hg hf hb hl hs1
        exact zW_jump (b' := (Op.lookupswitch.offset ps.toList d a.toInt).toNat) rfl rfl h2 h3
      · cases hk
  | ireturn =>
    match st, hk, hs with
    | [], hk, _ => cases hk
    | _ :: _ :: _, hk, _ => cases hk
    | [v], hk, hs =>
      obtain ⟨vC, q, rfl, h1, hs1⟩ := zGl_cons hs
      cases zGl_nil hs1
      have hk : (bif zRetOk x.2.2.1 53 σ v then zRet P rec n σ K E [v] x.1 else false) = true := hk
      rcases zCd hk with ⟨c, hk⟩ | ⟨-, hk⟩
      · have c : (bif Nat.beq (aRT x.2.2.1) 1 then Nat.ble v.1 1 else Nat.beq (aRT x.2.2.1) 2 && zR01 σ v) = true := c
        have : ∃ a : Int32, vC = .int a ∧ (aRT x.2.2.1 = 1 ∨ aRT x.2.2.1 = 2 ∧ (a = 0 ∨ a = 1)) := by
          rcases zCd c with ⟨c1, c2⟩ | ⟨-, c2⟩
          · obtain ⟨a, e, -⟩ := zG_int h1 (by have := zbl c2; omega)
            exact ⟨a, e, Or.inl (zbe c1)⟩
          · obtain ⟨c1, c2⟩ := zAnd c2
            unfold zR01 at c2
            obtain ⟨a, e, ha⟩ := zG_rgi h1 c2
            obtain ⟨lo, hi, z1', z2', c2⟩ := zRg_s hg.1 ha c2
            obtain ⟨c3, c4⟩ := zAnd c2
            have c3 := zl c3
            have c4 := zl c4
            rw [z0_eq] at c3
            rw [z1_eq] at c4
            exact ⟨a, e, Or.inr ⟨zbe c1, z01 (by omega) (by omega)⟩⟩
        obtain ⟨a, rfl, hr⟩ := this
        have hT : aT (aRT x.2.2.1) x.2.2.2 .ireturn lsC [.int a] h = some (.inr (some (.int a), h)) := by
          show (if aRT x.2.2.1 = 1 ∨ aRT x.2.2.1 = 2 ∧ (a = 0 ∨ a = 1) then _ else none) = _
          rw [if_pos hr]
        exact zW_ret rfl hT (zRet_s (rvC := some (.int a)) hrec hF hk hg hf hb ⟨h1, trivial⟩)
      · cases hk
  | lreturn =>
    match st, hk, hs with
    | [], hk, _ => cases hk
    | _ :: _ :: _, hk, _ => cases hk
    | [v], hk, hs =>
      obtain ⟨vC, q, rfl, h1, hs1⟩ := zGl_cons hs
      cases zGl_nil hs1
      have hk : (bif zRetOk x.2.2.1 54 σ v then zRet P rec n σ K E [v] x.1 else false) = true := hk
      rcases zCd hk with ⟨c, hk⟩ | ⟨-, hk⟩
      · have c : (Nat.beq (aRT x.2.2.1) 3 && (Nat.beq v.1 2 || Nat.beq v.1 3)) = true := c
        obtain ⟨c1, c2⟩ := zAnd c
        obtain ⟨a, rfl, -⟩ := zG_long h1 (by rcases zOr c2 with e | e; exact Or.inl (zbe e); exact Or.inr (zbe e))
        have hT : aT (aRT x.2.2.1) x.2.2.2 .lreturn lsC [.long a] h = some (.inr (some (.long a), h)) := by
          show (if aRT x.2.2.1 = 3 then _ else none) = _
          rw [if_pos (zbe c1)]
        exact zW_ret rfl hT (zRet_s (rvC := some (.long a)) hrec hF hk hg hf hb ⟨h1, trivial⟩)
      · cases hk
  | areturn =>
    match st, hk, hs with
    | [], hk, _ => cases hk
    | _ :: _ :: _, hk, _ => cases hk
    | [v], hk, hs =>
      obtain ⟨vC, q, rfl, h1, hs1⟩ := zGl_cons hs
      cases zGl_nil hs1
      have hk : (bif zRetOk x.2.2.1 55 σ v then zRet P rec n σ K E [v] x.1 else false) = true := hk
      rcases zCd hk with ⟨c, hk⟩ | ⟨-, hk⟩
      · have c : (Nat.beq (aRT x.2.2.1) 4 && Nat.beq v.1 4) = true := c
        obtain ⟨c1, c2⟩ := zAnd c
        obtain ⟨a, rfl, -⟩ := zG_ref h1 (zbe c2)
        have hT : aT (aRT x.2.2.1) x.2.2.2 .areturn lsC [.ref a] h = some (.inr (some (.ref a), h)) := by
          show (if aRT x.2.2.1 = 4 then _ else none) = _
          rw [if_pos (zbe c1)]
        exact zW_ret rfl hT (zRet_s (rvC := some (.ref a)) hrec hF hk hg hf hb ⟨h1, trivial⟩)
      · cases hk
  | return_ =>
    have hk : (bif zNil st && Nat.beq (aRT x.2.2.1) 0 then zRet P rec n σ K E [] x.1 else false) = true := hk
    rcases zCd hk with ⟨c, hk2⟩ | ⟨-, hk2⟩
    · obtain ⟨c1, c2⟩ := zAnd c
      have c1 := zNil_s c1
      subst c1
      cases zGl_nil hs
      have hT : aT (aRT x.2.2.1) x.2.2.2 .return_ lsC [] h = some (.inr (none, h)) := by
        show (if aRT x.2.2.1 = 0 then _ else none) = _
        rw [if_pos (zbe c2)]
      exact zW_ret rfl hT (zRet_s (rvC := none) hrec hF hk2 hg hf hb trivial)
    · cases hk2
  | _ => exact absurd hi4 (by first | (show ¬ (0 = 4); decide) | (show ¬ (1 = 4); decide) | (show ¬ (2 = 4); decide) | (show ¬ (3 = 4); decide))
end ZMN
