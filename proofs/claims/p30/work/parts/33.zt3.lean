/-! the interpreter is sound -/
/-- a frame that waits, as it is: depth, how many cells there were, method, block, what is left of it, locals, stack -/
abbrev cFr : Type := Nat × Nat × Nat × Nat × List aI × List Value × List Value
/-- what is to come of an answer, in the frames that wait -/
def zCt (X : aX) (Q : Option Value → aH → Prop) : List cFr → Option Value → aH → Prop
  | [], rv, h => Q rv h
  | q :: fs, rv, h => (h.1 = q.2.1 ∨ (q.2.2.2.2.2.1 ++ q.2.2.2.2.2.2).all (aOkv q.2.1) = true) ∧ zW X q.1 q.2.2.1 q.2.2.2.1 q.2.2.2.2.1 q.2.2.2.2.2.1 (rv.toList ++ q.2.2.2.2.2.2) h (zCt X Q fs)
def zGf (P : zP) (ρ : Nat → Int) (n kk : Nat) : List zFr → List cFr → Prop
  | [], [] => True
  | q :: r, c :: s => (c.1 = q.1 + kk ∧ c.2.1 = q.2.1 ∧ c.2.2.1 = q.2.2.1 ∧ c.2.2.2.1 = q.2.2.2.1 ∧ q.2.2.2.2.1 = zEnB c.2.2.2.2.1 ∧ zGl P ρ n q.2.2.2.2.2.1 c.2.2.2.2.2.1 ∧ zGl P ρ n q.2.2.2.2.2.2 c.2.2.2.2.2.2) ∧ zGf P ρ n kk r s
  | _, _ => False
/-- the frame below all -/
def zBot (dt yt : Nat) : List zFr → Nat → Nat → Prop
  | [], d, y => d = dt ∧ y = yt
  | q :: r, _, _ => zBot dt yt r q.1 q.2.2.1
def zSnd (X : aX) (P : zP) (G : aH → Prop) (pS : Nat) (h0 : aH) (ρ0 : Nat → Int) (kk dt yt : Nat) (Q : Option Value → aH → Prop) (rec : zR) : Prop :=
  ∀ n σ K E x is ls st, rec n σ K E x is ls st = true → ∀ ρ h fsC isC lsC stC, zGa X P G pS h0 ρ0 ρ n σ K E h → zGf P ρ n kk x.1 fsC → zBot dt yt x.1 x.2.1 x.2.2.1 → is = zEnB isC → zGl P ρ n ls lsC → zGl P ρ n st stC →
    zW X (x.2.1 + kk) x.2.2.1 x.2.2.2 isC lsC stC h (zCt X Q fsC)
/-- of loops' heads -/
def zHI (X : aX) (P : zP) (G : aH → Prop) (pS : Nat) (h0 : aH) (ρ0 : Nat → Int) (kk dt yt : Nat) (Q : Option Value → aH → Prop) : Prop :=
  ∀ v ∈ P.inv, ∀ n σ K E ls ρ h lsC, zGa X P G pS h0 ρ0 ρ n σ K E h → zGl P ρ n ls lsC → zHead P v n σ E ls = true → P.kc n σ K E ls = true → ∃ l, (aMC yt)[v.1]? = some l ∧ zW X (dt + kk) yt v.1 l lsC [] h Q
/-- of the end -/
def zHF (X : aX) (P : zP) (G : aH → Prop) (pS : Nat) (h0 : aH) (ρ0 : Nat → Int) (Q : Option Value → aH → Prop) : Prop :=
  ∀ n σ K E rv ρ h rvC, P.fin n σ K E rv = true → zGa X P G pS h0 ρ0 ρ n σ K E h → zGl P ρ n rv (Option.toList rvC) → Q rvC h
section ZMN
variable {X : aX} {P : zP} {G : aH → Prop} {pS kk dt yt : Nat} {h0 h h' : aH} {ρ0 ρ ρ' : Nat → Int} {n n' : Nat} {σ : zS} {K : zK} {E E' : List zE} {v u : zV} {ls st : List zV} {lsC stC : List Value} {Q : Option Value → aH → Prop} {rec : zR} {x : zX} {fsC : List cFr}
theorem zGf.mono {fs : List zFr} {cs : List cFr} (k : zGf P ρ n kk fs cs) (hn : n ≤ n') (hr : ∀ i, i < n → ρ' i = ρ i) : zGf P ρ' n' kk fs cs := by
  induction fs generalizing cs with
  | nil => cases cs <;> exact k
  | cons q r ih =>
    cases cs with
    | nil => exact k
    | cons c s =>
      obtain ⟨⟨k1, k2, k3, k4, k5, k6, k7⟩, k8⟩ := k
      exact ⟨⟨k1, k2, k3, k4, k5, k6.mono hn hr, k7.mono hn hr⟩, ih k8⟩
theorem zBlk_s {L : List (List zI)} {b : Nat} {k : List zI → Bool} (h : zBlk L b k = true) : ∃ l, L[b]? = some l ∧ k l = true := by
  induction L generalizing b with
  | nil => cases h
  | cons a r ih =>
    unfold zBlk at h
    rcases zCd h with ⟨c, h⟩ | ⟨c, h⟩
    · rw [zbe c]
      exact ⟨a, rfl, h⟩
    · have c := zbn c
      obtain ⟨l, h1, h2⟩ := ih h
      obtain ⟨m, rfl⟩ : ∃ m, b = m + 1 := ⟨b - 1, by omega⟩
      exact ⟨l, h1, h2⟩
theorem zBk_s {y b : Nat} {k : List zI → Bool} (hV : zVal P) (h : zBlk (P.bk y) b k = true) : ∃ l, (aMC y)[b]? = some l ∧ k (zEnB l) = true := by
  obtain ⟨l, h1, h2⟩ := zBlk_s h
  rw [hV.1 y, List.getElem?_map] at h1
  obtain ⟨l', h3, rfl⟩ := Option.map_eq_some_iff.mp h1
  exact ⟨l', h3, h2⟩
theorem zNil_s {α : Type} {l : List α} (h : zNil l = true) : l = [] := by
  cases l with
  | nil => rfl
  | cons a r => cases h
theorem zNo_s {b : Bool} (h : zNo b = true) : b = false := by
  cases b
  · rfl
  · cases h
/-- to a block -/
theorem zJ_s {b : Nat} (hV : zVal P) (hrec : zSnd X P G pS h0 ρ0 kk dt yt Q rec) (hI : zHI X P G pS h0 ρ0 kk dt yt Q) (hk : zJ P rec n σ K E x b ls st = true) (hg : zGa X P G pS h0 ρ0 ρ n σ K E h) (hf : zGf P ρ n kk x.1 fsC) (hb : zBot dt yt x.1 x.2.1 x.2.2.1) (hl : zGl P ρ n ls lsC) (hs : zGl P ρ n st stC) :
    ∃ l, (aMC x.2.2.1)[b]? = some l ∧ zW X (x.2.1 + kk) x.2.2.1 b l lsC stC h (zCt X Q fsC) := by
  have j0 : zJ0 P rec n σ K E x b ls st = true → ∃ l, (aMC x.2.2.1)[b]? = some l ∧ zW X (x.2.1 + kk) x.2.2.1 b l lsC stC h (zCt X Q fsC) := by
    intro hk
    unfold zJ0 at hk
    obtain ⟨l, h1, h2⟩ := zBk_s hV hk
    exact ⟨l, h1, hrec _ _ _ _ (x.1, x.2.1, x.2.2.1, b) _ _ _ h2 ρ h fsC l lsC stC hg hf hb rfl hl hs⟩
  unfold zJ at hk
  rcases zCd hk with ⟨c, hk⟩ | ⟨-, hk⟩
  · have c := zNil_s c
    have j1 : ∀ l : List zIv, (∀ v ∈ l, v ∈ P.inv) → zJ1 P rec n σ K E x b ls st l = true → ∃ l, (aMC x.2.2.1)[b]? = some l ∧ zW X (x.2.1 + kk) x.2.2.1 b l lsC stC h (zCt X Q fsC) := by
      intro l
      induction l with
      | nil => intro _ hk; exact j0 hk
      | cons v r ih =>
        intro hm hk
        unfold zJ1 at hk
        rcases zCd hk with ⟨c2, hk⟩ | ⟨-, hk⟩
        · have c2 := zbe c2
          rcases zOr hk with hk | hk
          case inr => exact ih (fun v hv => hm v (List.mem_cons_of_mem _ hv)) hk
          obtain ⟨d1, d2⟩ := zAnd hk
          obtain ⟨d2, d3⟩ := zAnd d2
          have d1 := zNil_s d1
          subst d1
          rw [zGl_nil hs]
          rw [c] at hf hb
          have hfs : fsC = [] := by
            cases fsC with
            | nil => rfl
            | cons a r => exact hf.elim
          subst hfs
          obtain ⟨e1, e2⟩ := hb
          rw [e1, e2, ← c2]
          exact hI v (hm v List.mem_cons_self) n σ K E ls ρ h lsC hg hl d2 d3
        · exact ih (fun v hv => hm v (List.mem_cons_of_mem _ hv)) hk
    exact j1 P.inv (fun v hv => hv) hk
  · exact j0 hk
/-- an answer -/
theorem zRet_s {fs : List zFr} {rv : List zV} {rvC : Option Value} {d y : Nat} (hrec : zSnd X P G pS h0 ρ0 kk dt yt Q rec) (hF : zHF X P G pS h0 ρ0 Q) (hk : zRet P rec n σ K E rv fs = true) (hg : zGa X P G pS h0 ρ0 ρ n σ K E h) (hf : zGf P ρ n kk fs fsC) (hb : zBot dt yt fs d y) (hl : zGl P ρ n rv rvC.toList) : zCt X Q fsC rvC h := by
  cases fs with
  | nil =>
    cases fsC with
    | nil => exact hF n σ K E rv ρ h rvC hk hg hl
    | cons c s => exact hf.elim
  | cons q r =>
    cases fsC with
    | nil => exact hf.elim
    | cons c s =>
      obtain ⟨⟨k1, k2, k3, k4, k5, k6, k7⟩, k8⟩ := hf
      have hk : zRet1 rec n σ K E rv r q = true := hk
      unfold zRet1 at hk
      rcases zCd hk with ⟨c1, hk⟩ | ⟨-, hk⟩
      · refine ⟨?_, ?_⟩
        · rcases zOr c1 with c1 | c1
          · left
            rw [k2, zbe c1]
            exact hg.2.1.1
          · right
            obtain ⟨d1, d2⟩ := zAnd c1
            obtain ⟨d2, d3⟩ := zAnd d2
            rw [k2, List.all_append, zAll_s (zbl d1) k6 d2, zAll_s (zbl d1) k7 d3]
            rfl
        · have := hrec _ _ _ _ (r, q.1, q.2.2.1, q.2.2.2.1) _ _ _ hk ρ h s c.2.2.2.2.1 c.2.2.2.2.2.1 (rvC.toList ++ c.2.2.2.2.2.2) hg k8 hb k5 k6 (zGl_app hl k7)
          rw [k1, k3, k4]
          exact this
      · cases hk
/-- which of the three an instruction is -/
theorem zEn_k (i : aI) : ((zEn i).1 < 48 ∧ aKd i ≤ 2) ∨ (48 ≤ (zEn i).1 ∧ (zEn i).1 < 57 ∧ aKd i = 4) ∨ (57 ≤ (zEn i).1 ∧ (zEn i).1 < 60 ∧ aKd i = 3) ∨ (zEn i).1 = 60 := by
  cases i with
  | newarray t => cases t <;> first | exact Or.inl (by decide) | exact Or.inr (Or.inr (Or.inr rfl))
  | multianewarray z m =>
    match m with
    | 0 => exact Or.inr (Or.inr (Or.inr rfl))
    | 1 => exact Or.inr (Or.inr (Or.inr rfl))
    | 2 => exact Or.inl ⟨by show 45 < 48; decide, by show 2 ≤ 2; decide⟩
    | m + 3 => exact Or.inr (Or.inr (Or.inr rfl))
  | _ => first
    | exact Or.inl ⟨Nat.le_of_ble_eq_true rfl, Nat.le_of_ble_eq_true rfl⟩
    | exact Or.inr (Or.inl ⟨Nat.le_of_ble_eq_true rfl, Nat.le_of_ble_eq_true rfl, rfl⟩)
    | exact Or.inr (Or.inr (Or.inl ⟨Nat.le_of_ble_eq_true rfl, Nat.le_of_ble_eq_true rfl, rfl⟩))
    | exact Or.inr (Or.inr (Or.inr rfl))
/-- a table of places to go -/
theorem zTab_s {os : List Int} {hi j : Int} {a : Int32} (hV : zVal P) (hrec : zSnd X P G pS h0 ρ0 kk dt yt Q rec) (hI : zHI X P G pS h0 ρ0 kk dt yt Q) (hk : zTab P rec n σ K E x ls st u (os.map (fun o => (hi, o))) j = true) (hu : zN ρ n 0 u a.toInt) (hg : zGa X P G pS h0 ρ0 ρ n σ K E h) (hf : zGf P ρ n kk x.1 fsC) (hb : zBot dt yt x.1 x.2.1 x.2.2.1) (hl : zGl P ρ n ls lsC) (hs : zGl P ρ n st stC) {m : Nat} {o : Int} (hm : os[m]? = some o) (ha : a.toInt = j + m) :
    ∃ l, (aMC x.2.2.1)[o.toNat]? = some l ∧ zW X (x.2.1 + kk) x.2.2.1 o.toNat l lsC stC h (zCt X Q fsC) := by
  induction os generalizing j m with
  | nil => cases hm
  | cons p r ih =>
    obtain ⟨k1, k2⟩ := zAnd (show (zEq 0 σ u (zc 0 j) (fun σ => zJ P rec n σ K E x p.toNat ls st) && zTab P rec n σ K E x ls st u (r.map (fun o => (hi, o))) (j + z1)) = true from hk)
    cases m with
    | zero =>
      cases hm
      obtain ⟨σ', g', k1⟩ := zEq_s (Y := j) hg.1 hu (znC rfl) (by omega) k1
      exact zJ_s hV hrec hI k1 (hg.sym g') hf hb hl hs
    | succ m => exact ih k2 hm (by rw [z1_eq]; omega)
theorem zLok_s {ps : List (Int × Int)} {d : Int} {a : Int32} (hV : zVal P) (hrec : zSnd X P G pS h0 ρ0 kk dt yt Q rec) (hI : zHI X P G pS h0 ρ0 kk dt yt Q) (hk : zLok P rec n K E x ls st u d.toNat ps σ = true) (hu : zN ρ n 0 u a.toInt) (hg : zGa X P G pS h0 ρ0 ρ n σ K E h) (hf : zGf P ρ n kk x.1 fsC) (hb : zBot dt yt x.1 x.2.1 x.2.2.1) (hl : zGl P ρ n ls lsC) (hs : zGl P ρ n st stC) :
    ∃ l, (aMC x.2.2.1)[(Op.lookupswitch.offset ps d a.toInt).toNat]? = some l ∧ zW X (x.2.1 + kk) x.2.2.1 (Op.lookupswitch.offset ps d a.toInt).toNat l lsC stC h (zCt X Q fsC) := by
  induction ps generalizing σ with
  | nil => exact zJ_s hV hrec hI hk hg hf hb hl hs
  | cons p r ih =>
    obtain ⟨k1, k2⟩ := zAnd (show (zEq 0 σ u (zc 0 p.1) (fun σ => zJ P rec n σ K E x p.2.toNat ls st) && zNe 0 σ u (zc 0 p.1) (fun σ => zLok P rec n K E x ls st u d.toNat r σ)) = true from hk)
    obtain ⟨p1, p2⟩ := p
    rw [Op.lookupswitch.offset_cons]
    by_cases q : p1 = a.toInt
    · rw [if_pos q]
      obtain ⟨σ', g', k1⟩ := zEq_s (Y := p1) hg.1 hu (znC rfl) q.symm k1
      exact zJ_s hV hrec hI k1 (hg.sym g') hf hb hl hs
    · rw [if_neg q]
      obtain ⟨σ', g', k2⟩ := zNe_s (Y := p1) hg.1 hu (znC rfl) (fun z => q z.symm) k2
      exact ih k2 (hg.sym g')
/-- the end of a block -/
theorem zEnd_s {i : aI} {is : List aI} (hV : zVal P) (hrec : zSnd X P G pS h0 ρ0 kk dt yt Q rec) (hI : zHI X P G pS h0 ρ0 kk dt yt Q) (hF : zHF X P G pS h0 ρ0 Q) (hk : zEnds (zEn i).1 P rec (zEn i) n σ K E x ls st = true) (hi4 : aKd i = 4) (hg : zGa X P G pS h0 ρ0 ρ n σ K E h) (hf : zGf P ρ n kk x.1 fsC) (hb : zBot dt yt x.1 x.2.1 x.2.2.1) (hl : zGl P ρ n ls lsC) (hs : zGl P ρ n st stC) : zW X (x.2.1 + kk) x.2.2.1 x.2.2.2 (i :: is) lsC stC h (zCt X Q fsC) := by
  cases i with
  | goto o =>
    have hk : zJ P rec n σ K E x o.toNat ls st = true := hk
    obtain ⟨l, h1, h2⟩ := zJ_s hV hrec hI hk hg hf hb hl hs
    exact zW_jump rfl rfl h1 h2
  | ifCond c o =>
    match st, hk, hs with
    | [], hk, _ => cases hk
    | u :: t, hk, hs =>
      obtain ⟨uC, q, rfl, h1, hs1⟩ := zGl_cons hs
      have hk : zCmpS (zCc c) σ u (0, z0, z0, 0) (fun σ => zJ P rec n σ K E x o.toNat ls t) (fun σ => zJ P rec n σ K E x (x.2.2.2 + 1) ls t) = true := hk
      have ht : u.1 = 0 ∨ u.1 = 1 := by
        have : ∃ (p1 p2 : zS → zV → zV → (zS → Bool) → Bool), (p1 σ u (0, z0, z0, 0) (fun σ => zJ P rec n σ K E x o.toNat ls t) = true ∨ p1 σ (0, z0, z0, 0) u (fun σ => zJ P rec n σ K E x o.toNat ls t) = true) ∧ (p1 = zEq 0 ∨ p1 = zNe 0 ∨ p1 = zLt 0 ∨ p1 = zLe 0) := by
          cases c with
          | eq => exact ⟨zEq 0, zNe 0, Or.inl (zAnd (show (zEq 0 σ u (0, z0, z0, 0) _ && zNe 0 σ (0, z0, z0, 0) u _) = true from hk)).1, Or.inl rfl⟩
          | ne => exact ⟨zNe 0, zEq 0, Or.inl (zAnd (show (zNe 0 σ u (0, z0, z0, 0) _ && zEq 0 σ (0, z0, z0, 0) u _) = true from hk)).1, Or.inr (Or.inl rfl)⟩
          | lt => exact ⟨zLt 0, zLe 0, Or.inl (zAnd (show (zLt 0 σ u (0, z0, z0, 0) _ && zLe 0 σ (0, z0, z0, 0) u _) = true from hk)).1, Or.inr (Or.inr (Or.inl rfl))⟩
          | ge => exact ⟨zLe 0, zLt 0, Or.inr (zAnd (show (zLe 0 σ (0, z0, z0, 0) u _ && zLt 0 σ u (0, z0, z0, 0) _) = true from hk)).1, Or.inr (Or.inr (Or.inr rfl))⟩
          | gt => exact ⟨zLt 0, zLe 0, Or.inr (zAnd (show (zLt 0 σ (0, z0, z0, 0) u _ && zLe 0 σ u (0, z0, z0, 0) _) = true from hk)).1, Or.inr (Or.inr (Or.inl rfl))⟩
          | le => exact ⟨zLe 0, zLt 0, Or.inl (zAnd (show (zLe 0 σ u (0, z0, z0, 0) _ && zLt 0 σ (0, z0, z0, 0) u _) = true from hk)).1, Or.inr (Or.inr (Or.inr rfl))⟩
        obtain ⟨p1, -, h3, h4⟩ := this
        rcases h4 with rfl | rfl | rfl | rfl <;> rcases h3 with h3 | h3 <;> first | exact (zPr_tag h3).1 | exact (zPr_tag h3).2
      obtain ⟨a, rfl, ha⟩ := zG_int h1 ht
      obtain ⟨σ', g', hk⟩ := zCmp_s (b := 0) hg.1 ha (znC (w := 0) rfl) hk
      have hT : aT (aRT x.2.2.1) x.2.2.2 (.ifCond c o) lsC (.int a :: q) h = some (.inl (if aCd c a 0 then o.toNat else x.2.2.2 + 1, lsC, q, h)) := rfl
      by_cases qc : aCd c a 0 = true
      · rw [if_pos qc] at hk hT
        obtain ⟨l, h2, h3⟩ := zJ_s hV hrec hI hk (hg.sym g') hf hb hl hs1
        exact zW_jump rfl hT h2 h3
      · rw [if_neg qc] at hk hT
        obtain ⟨l, h2, h3⟩ := zJ_s hV hrec hI hk (hg.sym g') hf hb hl hs1
        exact zW_jump rfl hT h2 h3
  | if_icmp c o =>
    match st, hk, hs with
    | [], hk, _ => cases hk
    | [_], hk, _ => cases hk
    | w :: u :: t, hk, hs =>
      obtain ⟨wC, q0, rfl, h0', hs0⟩ := zGl_cons hs
      obtain ⟨uC, q, rfl, h1, hs1⟩ := zGl_cons hs0
      have hk : zCmpS (zCc c) σ u w (fun σ => zJ P rec n σ K E x o.toNat ls t) (fun σ => zJ P rec n σ K E x (x.2.2.2 + 1) ls t) = true := hk
      have ht : (u.1 = 0 ∨ u.1 = 1) ∧ (w.1 = 0 ∨ w.1 = 1) := by
        have : ∃ (p1 : zS → zV → zV → (zS → Bool) → Bool), (p1 σ u w (fun σ => zJ P rec n σ K E x o.toNat ls t) = true ∨ p1 σ w u (fun σ => zJ P rec n σ K E x o.toNat ls t) = true) ∧ (p1 = zEq 0 ∨ p1 = zNe 0 ∨ p1 = zLt 0 ∨ p1 = zLe 0) := by
          cases c with
          | eq => exact ⟨zEq 0, Or.inl (zAnd (show (zEq 0 σ u w _ && zNe 0 σ w u _) = true from hk)).1, Or.inl rfl⟩
          | ne => exact ⟨zNe 0, Or.inl (zAnd (show (zNe 0 σ u w _ && zEq 0 σ w u _) = true from hk)).1, Or.inr (Or.inl rfl)⟩
          | lt => exact ⟨zLt 0, Or.inl (zAnd (show (zLt 0 σ u w _ && zLe 0 σ w u _) = true from hk)).1, Or.inr (Or.inr (Or.inl rfl))⟩
          | ge => exact ⟨zLe 0, Or.inr (zAnd (show (zLe 0 σ w u _ && zLt 0 σ u w _) = true from hk)).1, Or.inr (Or.inr (Or.inr rfl))⟩
          | gt => exact ⟨zLt 0, Or.inr (zAnd (show (zLt 0 σ w u _ && zLe 0 σ u w _) = true from hk)).1, Or.inr (Or.inr (Or.inl rfl))⟩
          | le => exact ⟨zLe 0, Or.inl (zAnd (show (zLe 0 σ u w _ && zLt 0 σ w u _) = true from hk)).1, Or.inr (Or.inr (Or.inr rfl))⟩
        obtain ⟨p1, h3, h4⟩ := this
        rcases h4 with rfl | rfl | rfl | rfl <;> rcases h3 with h3 | h3 <;> first | exact zPr_tag h3 | exact ⟨(zPr_tag h3).2, (zPr_tag h3).1⟩
      obtain ⟨a, rfl, ha⟩ := zG_int h1 ht.1
      obtain ⟨b, rfl, hb'⟩ := zG_int h0' ht.2
      obtain ⟨σ', g', hk⟩ := zCmp_s hg.1 ha hb' hk
      have hT : aT (aRT x.2.2.1) x.2.2.2 (.if_icmp c o) lsC (.int b :: .int a :: q) h = some (.inl (if aCd c a b then o.toNat else x.2.2.2 + 1, lsC, q, h)) := rfl
      by_cases qc : aCd c a b = true
      · rw [if_pos qc] at hk hT
        obtain ⟨l, h2, h3⟩ := zJ_s hV hrec hI hk (hg.sym g') hf hb hl hs1
        exact zW_jump rfl hT h2 h3
      · rw [if_neg qc] at hk hT
        obtain ⟨l, h2, h3⟩ := zJ_s hV hrec hI hk (hg.sym g') hf hb hl hs1
        exact zW_jump rfl hT h2 h3
  | tableswitch d lo hi os =>
    match st, hk, hs with
    | [], hk, _ => cases hk
    | u :: t, hk, hs =>
      obtain ⟨uC, q, rfl, h1, hs1⟩ := zGl_cons hs
      have hk : zSwT P rec (51, d.toNat, lo, os.toList.map (fun o => (hi, o))) n σ K E x ls (u :: t) = true := hk
      unfold zSwT at hk
      dsimp only at hk
      split at hk
      · rename_i uu tt o1 r1 e1 e2
        cases e1
        have eo : ∃ o, o1 = (hi, o) := by
          cases hos : os.toList with
          | nil =>
            rw [hos] at e2
            cases e2
          | cons a r =>
            rw [hos] at e2
            cases e2
            exact ⟨a, rfl⟩
        obtain ⟨o, rfl⟩ := eo
        rw [← e2] at hk
        unfold zSwT2 at hk
        obtain ⟨k0, hk⟩ := zAnd hk
        obtain ⟨k0, k00⟩ := zAnd k0
        obtain ⟨k1, hk⟩ := zAnd hk
        obtain ⟨k2, k3⟩ := zAnd hk
        have k0 := zbe k0
        have k00 := zl k00
        rw [List.length_map] at k0
        have k0 : os.toList.length = (hi - lo + z1).toNat := k0
        rw [z1_eq] at k0
        obtain ⟨a, rfl, ha⟩ := zG_int h1 (zPr_tag k2).1
        have hT : aT (aRT x.2.2.1) x.2.2.2 (.tableswitch d lo hi os) lsC (.int a :: q) h = (if a.toInt < lo ∨ hi < a.toInt then some (.inl (d.toNat, lsC, q, h)) else (match os[(a.toInt - lo).toNat]? with
          | some o => some (.inl (o.toNat, lsC, q, h))
          | none => none)) := rfl
        by_cases q1 : a.toInt < lo
        · rw [if_pos (Or.inl q1)] at hT
          obtain ⟨σ', g', k2⟩ := zLt_s (Y := lo) hg.1 ha (znC rfl) q1 k2
          obtain ⟨l, h2, h3⟩ := zJ_s hV hrec hI k2 (hg.sym g') hf hb hl hs1
          exact zW_jump rfl hT h2 h3
        · by_cases q2 : hi < a.toInt
          · rw [if_pos (Or.inr q2)] at hT
            obtain ⟨σ', g', k3⟩ := zLt_s (X := hi) hg.1 (znC rfl) ha q2 k3
            obtain ⟨l, h2, h3⟩ := zJ_s hV hrec hI k3 (hg.sym g') hf hb hl hs1
            exact zW_jump rfl hT h2 h3
          · rw [if_neg (by omega)] at hT
            have hlt : (a.toInt - lo).toNat < os.toList.length := by omega
            obtain ⟨o', ho⟩ : ∃ o', os.toList[(a.toInt - lo).toNat]? = some o' := ⟨_, List.getElem?_eq_getElem hlt⟩
            have ho2 : os[(a.toInt - lo).toNat]? = some o' := by rw [← Array.getElem?_toList]; exact ho
            rw [ho2] at hT
            obtain ⟨l, h2, h3⟩ := zTab_s hV hrec hI k1 ha hg hf hb hl hs1 ho (by omega)
            exact zW_jump rfl hT h2 h3
      · cases hk
  | lookupswitch d ps =>
    match st, hk, hs with
    | [], hk, _ => cases hk
    | u :: t, hk, hs =>
      obtain ⟨uC, q, rfl, h1, hs1⟩ := zGl_cons hs
      have hk : (bif Nat.ble u.1 1 then zLok P rec n K E x ls t u d.toNat ps.toList σ else false) = true := hk
      rcases zCd hk with ⟨c, hk⟩ | ⟨-, hk⟩
      · obtain ⟨a, rfl, ha⟩ := zG_int h1 (by have := zbl c; omega)
        obtain ⟨l, h2, h3⟩ := zLok_s hV hrec hI hk ha hg hf hb hl hs1
        exact zW_jump (b' := (Op.lookupswitch.offset ps.toList d a.toInt).toNat) rfl rfl h2 h3
      · cases hk
  | ireturn =>
    match st, hk, hs with
    | [], hk, _ => cases hk
    | _ :: _ :: _, hk, _ => cases hk
    | [v], hk, hs =>
      obtain ⟨vC, q, rfl, h1, hs1⟩ := zGl_cons hs
      cases zGl_nil hs1
      have hk : (bif zRetOk x.2.2.1 53 σ v then zRet P rec n σ K E [v] x.1 else false) = true := hk
      rcases zCd hk with ⟨c, hk⟩ | ⟨-, hk⟩
      · have c : (bif Nat.beq (aRT x.2.2.1) 1 then Nat.ble v.1 1 else Nat.beq (aRT x.2.2.1) 2 && zR01 σ v) = true := c
        have : ∃ a : Int32, vC = .int a ∧ (aRT x.2.2.1 = 1 ∨ aRT x.2.2.1 = 2 ∧ (a = 0 ∨ a = 1)) := by
          rcases zCd c with ⟨c1, c2⟩ | ⟨-, c2⟩
          · obtain ⟨a, e, -⟩ := zG_int h1 (by have := zbl c2; omega)
            exact ⟨a, e, Or.inl (zbe c1)⟩
          · obtain ⟨c1, c2⟩ := zAnd c2
            unfold zR01 at c2
            obtain ⟨a, e, ha⟩ := zG_rgi h1 c2
            obtain ⟨lo, hi, z1', z2', c2⟩ := zRg_s hg.1 ha c2
            obtain ⟨c3, c4⟩ := zAnd c2
            have c3 := zl c3
            have c4 := zl c4
            rw [z0_eq] at c3
            rw [z1_eq] at c4
            exact ⟨a, e, Or.inr ⟨zbe c1, z01 (by omega) (by omega)⟩⟩
        obtain ⟨a, rfl, hr⟩ := this
        have hT : aT (aRT x.2.2.1) x.2.2.2 .ireturn lsC [.int a] h = some (.inr (some (.int a), h)) := by
          show (if aRT x.2.2.1 = 1 ∨ aRT x.2.2.1 = 2 ∧ (a = 0 ∨ a = 1) then _ else none) = _
          rw [if_pos hr]
        exact zW_ret rfl hT (zRet_s (rvC := some (.int a)) hrec hF hk hg hf hb ⟨h1, trivial⟩)
      · cases hk
  | lreturn =>
    match st, hk, hs with
    | [], hk, _ => cases hk
    | _ :: _ :: _, hk, _ => cases hk
    | [v], hk, hs =>
      obtain ⟨vC, q, rfl, h1, hs1⟩ := zGl_cons hs
      cases zGl_nil hs1
      have hk : (bif zRetOk x.2.2.1 54 σ v then zRet P rec n σ K E [v] x.1 else false) = true := hk
      rcases zCd hk with ⟨c, hk⟩ | ⟨-, hk⟩
      · have c : (Nat.beq (aRT x.2.2.1) 3 && (Nat.beq v.1 2 || Nat.beq v.1 3)) = true := c
        obtain ⟨c1, c2⟩ := zAnd c
        obtain ⟨a, rfl, -⟩ := zG_long h1 (by rcases zOr c2 with e | e; exact Or.inl (zbe e); exact Or.inr (zbe e))
        have hT : aT (aRT x.2.2.1) x.2.2.2 .lreturn lsC [.long a] h = some (.inr (some (.long a), h)) := by
          show (if aRT x.2.2.1 = 3 then _ else none) = _
          rw [if_pos (zbe c1)]
        exact zW_ret rfl hT (zRet_s (rvC := some (.long a)) hrec hF hk hg hf hb ⟨h1, trivial⟩)
      · cases hk
  | areturn =>
    match st, hk, hs with
    | [], hk, _ => cases hk
    | _ :: _ :: _, hk, _ => cases hk
    | [v], hk, hs =>
      obtain ⟨vC, q, rfl, h1, hs1⟩ := zGl_cons hs
      cases zGl_nil hs1
      have hk : (bif zRetOk x.2.2.1 55 σ v then zRet P rec n σ K E [v] x.1 else false) = true := hk
      rcases zCd hk with ⟨c, hk⟩ | ⟨-, hk⟩
      · have c : (Nat.beq (aRT x.2.2.1) 4 && Nat.beq v.1 4) = true := c
        obtain ⟨c1, c2⟩ := zAnd c
        obtain ⟨a, rfl, -⟩ := zG_ref h1 (zbe c2)
        have hT : aT (aRT x.2.2.1) x.2.2.2 .areturn lsC [.ref a] h = some (.inr (some (.ref a), h)) := by
          show (if aRT x.2.2.1 = 4 then _ else none) = _
          rw [if_pos (zbe c1)]
        exact zW_ret rfl hT (zRet_s (rvC := some (.ref a)) hrec hF hk hg hf hb ⟨h1, trivial⟩)
      · cases hk
  | return_ =>
    have hk : (bif zNil st && Nat.beq (aRT x.2.2.1) 0 then zRet P rec n σ K E [] x.1 else false) = true := hk
    rcases zCd hk with ⟨c, hk2⟩ | ⟨-, hk2⟩
    · obtain ⟨c1, c2⟩ := zAnd c
      have c1 := zNil_s c1
      subst c1
      cases zGl_nil hs
      have hT : aT (aRT x.2.2.1) x.2.2.2 .return_ lsC [] h = some (.inr (none, h)) := by
        show (if aRT x.2.2.1 = 0 then _ else none) = _
        rw [if_pos (zbe c2)]
      exact zW_ret rfl hT (zRet_s (rvC := none) hrec hF hk2 hg hf hb trivial)
    · cases hk2
  | _ => exact absurd hi4 (by first | (show ¬ (0 = 4); decide) | (show ¬ (1 = 4); decide) | (show ¬ (2 = 4); decide) | (show ¬ (3 = 4); decide))
end ZMN
/-! calls; the whole -/
section ZCL
variable {X : aX} {P : zP} {G : aH → Prop} {pS kk dt yt : Nat} {h0 h h' : aH} {ρ0 ρ ρ' : Nat → Int} {n n' : Nat} {σ : zS} {K : zK} {E E' : List zE} {v u : zV} {ls st : List zV} {lsC stC : List Value} {Q : Option Value → aH → Prop} {rec : zR} {x : zX} {fsC : List cFr}
  {k : Nat → zS → zK → List zE → List zV → List zV → Bool} {C : List Value → List Value → aH → Prop}
theorem zFl_s {as : List zV} {asC : List Value} (hl : zGl P ρ n as asC) (h4 : zAll (fun v => Nat.ble v.1 4) as = true) : zGl P ρ n (zFl as) (aFl asC) ∧ aD ∉ asC := by
  induction as generalizing asC with
  | nil =>
    rw [zGl_nil hl]
    exact ⟨trivial, fun h => by cases h⟩
  | cons v r ih =>
    obtain ⟨u, q, rfl, h1, h2⟩ := zGl_cons hl
    unfold zAll at h4
    obtain ⟨h4, h5⟩ := zAnd h4
    have h4 := zbl h4
    obtain ⟨i1, i2⟩ := ih h2 h5
    rw [aFl_cons]
    rcases h1 with ⟨t, y, rfl, hy⟩ | ⟨t, y, rfl, hy⟩ | ⟨t, y, rfl, hy⟩ | ⟨t, -⟩ | t
    · have c : (Nat.beq v.1 2 || Nat.beq v.1 3) = false := by
        have : v.1 = 0 ∨ v.1 = 1 := by omega
        rcases this with e | e <;> rw [e] <;> rfl
      refine ⟨?_, fun hm => ?_⟩
      · show zGl P ρ n (bif (Nat.beq v.1 2 || Nat.beq v.1 3) then _ else v :: zFl r) _
        rw [c]
        exact ⟨zGi hy, i1⟩
      · rcases List.mem_cons.mp hm with e | e
        · cases e
        · exact i2 e
    · have c : (Nat.beq v.1 2 || Nat.beq v.1 3) = true := by
        rcases t with e | e <;> rw [e] <;> rfl
      refine ⟨?_, fun hm => ?_⟩
      · show zGl P ρ n (bif (Nat.beq v.1 2 || Nat.beq v.1 3) then v :: (6, z0, z0, 0) :: zFl r else _) _
        rw [c]
        exact ⟨zGj hy, zGd, i1⟩
      · rcases List.mem_cons.mp hm with e | e
        · cases e
        · exact i2 e
    · have c : (Nat.beq v.1 2 || Nat.beq v.1 3) = false := by rw [t]; rfl
      refine ⟨?_, fun hm => ?_⟩
      · show zGl P ρ n (bif (Nat.beq v.1 2 || Nat.beq v.1 3) then _ else v :: zFl r) _
        rw [c]
        exact ⟨Or.inr (Or.inr (Or.inl ⟨t, y, rfl, hy⟩)), i1⟩
      · rcases List.mem_cons.mp hm with e | e
        · cases e
        · exact i2 e
    · omega
    · omega
theorem zGl_rep {m : Nat} : zGl P ρ n (List.replicate m (6, z0, z0, 0)) (List.replicate m aD) := by
  induction m with
  | zero => exact trivial
  | succ m ih => exact ⟨zGd, ih⟩
theorem zAny1_s {cs : List zCo} {f : zCo → Bool} (h : zAny1 cs f = true) : ∃ c ∈ cs, f c = true := by
  induction cs with
  | nil => cases h
  | cons c r ih =>
    rcases zOr h with h | h
    · exact ⟨c, List.mem_cons_self, h⟩
    · obtain ⟨c', h1, h2⟩ := ih h
      exact ⟨c', List.mem_cons_of_mem _ h1, h2⟩
/-- a call -/
theorem zGo_s {q : Nat} {as : List zV} {asC tC : List Value} {i : aI} {is : List aI} (hV : zVal P) (hrec : zSnd X P G pS h0 ρ0 kk dt yt Q rec) (hC : ∀ q c, c ∈ P.con q → zCk X P G q c) (hkd : aKd i ≠ 4)
    (hS : (tC.map fun v => v.category).sum ≤ 8 → ∀ cal, aS X cal i lsC stC h = (match cal q asC h with
      | some (rv, h') => if h'.1 = h.1 ∨ (lsC ++ tC).all (aOkv h.1) = true then some (lsC, rv.toList ++ tC, h') else none
      | none => none))
    (hk : zGo P rec q as n σ K E x (zEnB is) ls st = true) (hg : zGa X P G pS h0 ρ0 ρ n σ K E h) (hf : zGf P ρ n kk x.1 fsC) (hb : zBot dt yt x.1 x.2.1 x.2.2.1) (hl : zGl P ρ n ls lsC) (ha : zGl P ρ n as asC) (hs : zGl P ρ n st tC) : zW X (x.2.1 + kk) x.2.2.1 x.2.2.2 (i :: is) lsC stC h (zCt X Q fsC) := by
  unfold zGo at hk
  rcases zCd hk with ⟨c, hk⟩ | ⟨-, hk⟩
  · have hS := hS (zCats_s hs (zbl c) (Nat.le_refl 8))
    obtain ⟨n1, σ1, ρ1, as1, hk, l1, r1, g1, a1⟩ := zMas_s hg ha hk
    have hf1 := hf.mono l1 r1
    have hl1 := hl.mono l1 r1
    have hs1 := hs.mono l1 r1
    refine zW_call hkd hS ?_
    have hcon : (∃ cs, P.con q = cs ∧ zGo1 P rec q (zEnB is) K x ls st n1 σ1 E as1 cs = true) := ⟨_, rfl, hk⟩
    obtain ⟨cs, ecs, hk⟩ := hcon
    cases cs with
    | nil =>
      have hk : zInl P rec q as1 n1 σ1 K E x (zEnB is) ls st x.2.1 = true := hk
      obtain ⟨fs, dd, y, b⟩ := x
      cases dd with
      | zero => cases hk
      | succ d =>
        have hk : (bif Nat.ble (zFl as1).length (aML q) && zAll (fun v => Nat.ble v.1 4) as1 then zBlk (P.bk q) 0 (fun l => rec n1 σ1 K E ((d + 1, K.1, y, b, zEnB is, ls, st) :: fs, d, q, 0) l (zEnt as1 (aML q)) []) else false) = true := hk
        rcases zCd hk with ⟨c1, hk⟩ | ⟨-, hk⟩
        · obtain ⟨c1, c2⟩ := zAnd c1
          have c1 := zbl c1
          obtain ⟨f1, f2⟩ := zFl_s a1 c2
          obtain ⟨l, e1, hk⟩ := zBk_s hV hk
          have hent : zGl P ρ1 n1 (zEnt as1 (aML q)) (aEn asC (aML q)) := by
            unfold zEnt aEn
            rw [zGl_len f1]
            exact zGl_app f1 zGl_rep
          have := hrec _ _ _ _ ((d + 1, K.1, y, b, zEnB is, ls, st) :: fs, d, q, 0) _ _ _ hk ρ1 h ((d + 1 + kk, h.1, y, b, is, lsC, tC) :: fsC) l (aEn asC (aML q)) [] g1 ⟨⟨rfl, g1.2.1.1, rfl, rfl, rfl, hl1, hs1⟩, hf1⟩ hb rfl hent trivial
          have h2 := zRn_of (X := X) (d := d + kk) (y := q) (as := asC) ⟨by rw [← zGl_len f1]; exact c1, f2⟩ e1 this
          rw [show d + kk + 1 = d + 1 + kk by omega] at h2
          exact h2
        · cases hk
    | cons c0 cs =>
      obtain ⟨k0, hk⟩ := zAnd (show ((zNil K.2.2 && zNo P.al) && zAny1 (c0 :: cs) fun c => zCon P c x.2.1 n1 σ1 E as1 fun n σ E rv => rec n σ K E x (zEnB is) ls (rv ++ st)) = true from hk)
      obtain ⟨k1, k2⟩ := zAnd k0
      obtain ⟨c, hc, hk⟩ := zAny1_s hk
      rw [← ecs] at hc
      have := zCon_s (kk := kk) hV (hC q c hc) (zNo_s k2) (zNil_s k1) g1 a1 hk
      refine this.mono (fun rv h' hq => ?_)
      obtain ⟨e1, n2, σ2, E2, rvA, ρ2, hk, l2, r2, g2, u2⟩ := hq
      refine ⟨Or.inl e1, ?_⟩
      exact hrec _ _ _ _ x _ _ _ hk ρ2 h' fsC is lsC (rv.toList ++ tC) g2 (hf1.mono l2 r2) hb rfl (hl1.mono l2 r2) (zGl_app u2 (hs1.mono l2 r2))
  · cases hk
/-! what the library has by itself -/
theorem zMath_s {m : Nat} (hk : zMath m n σ K E ls st k = true) (hg : zGa X P G pS h0 ρ0 ρ n σ K E h) (hl : zGl P ρ n ls lsC) (hs : zGl P ρ n st stC) (hC : 904 ≤ m → m < 909 → ∀ stC', ((stC'.tail.map fun v => v.category).sum ≤ 8 → aMath m stC h = some (stC', h)) → C lsC stC' h) : zNext X P G pS h0 ρ0 ρ n h k C := by
  unfold zMath at hk
  by_cases e4 : m = 904
  · subst e4
    have hk : zUn zAbs n σ K E ls st k = true := hk
    obtain ⟨y, t, uy, tC, rfl, rfl, h1, h2, hk⟩ := zUn_i hk hs
    obtain ⟨a, rfl, ha⟩ := zG_rgi h1 hk
    obtain ⟨v, hv, hk⟩ := zo_abs hg.1 ha hk
    exact zNx (stC := .int (if 0 ≤ a then a else 0 - a) :: tC) hk hg hl ⟨zGi hv, h2⟩ (hC (by omega) (by omega) _ (fun h8 => by show (if _ then some (Value.int (if 0 ≤ a then a else 0 - a) :: tC, h) else none) = _; exact if_pos h8))
  · by_cases e5 : m = 905
    · subst e5
      have hk : zBin zFld n σ K E ls st k = true := hk
      refine zBin_ii (zt_rg2 (fun _ _ _ _ => rfl)) hg hl hs hk (fun y z a b t kk' e h1 h2 h3 => ?_)
      obtain ⟨hb, v, hv, hk⟩ := zo_fld hg.1 h1 h2 h3
      refine ⟨v, _, hv, hk, hC (by omega) (by omega) _ (fun h8 => ?_)⟩
      subst e
      show (if b ≠ 0 ∧ _ then some (Value.int (if (a ^^^ b) < 0 then if a / b * b = a then a / b else a / b - 1 else a / b) :: t, h) else none) = _
      exact if_pos ⟨hb, h8⟩
    · by_cases e6 : m = 906
      · subst e6
        have hk : zBin (zMm 2 true) n σ K E ls st k = true := hk
        refine zBin_jj (zt_rg2 (fun _ _ _ _ => rfl)) hg hl hs hk (fun y z a b t kk' e h1 h2 h3 => ?_)
        obtain ⟨v, hv, hk⟩ := zMm_s (Z := (if b < a then a else b).toInt) hg.1 h1 h2 ⟨fun q => by
          rw [if_neg (fun z => by have := Int64.lt_iff_toInt_lt.mp z; omega)]
          rfl, fun q => by
          by_cases z : b < a
          · rw [if_pos z]
            rfl
          · rw [if_neg z]
            have : ¬ b.toInt < a.toInt := fun y => z (Int64.lt_iff_toInt_lt.mpr y)
            show b.toInt = a.toInt
            omega⟩ h3
        refine ⟨v, _, hv, hk, hC (by omega) (by omega) _ (fun h8 => ?_)⟩
        subst e
        show (if _ then some (Value.long (if b < a then a else b) :: t, h) else none) = _
        exact if_pos h8
      · by_cases e7 : m = 907
        · subst e7
          have hk : zBin (zMm 0 false) n σ K E ls st k = true := hk
          refine zBin_ii (zt_rg2 (fun _ _ _ _ => rfl)) hg hl hs hk (fun y z a b t kk' e h1 h2 h3 => ?_)
          obtain ⟨v, hv, hk⟩ := zMm_s (Z := (if b < a then b else a).toInt) hg.1 h1 h2 ⟨fun q => by
            rw [if_neg (fun z => by have := Int32.lt_iff_toInt_lt.mp z; omega)]
            rfl, fun q => by
            by_cases z : b < a
            · rw [if_pos z]
              rfl
            · rw [if_neg z]
              have : ¬ b.toInt < a.toInt := fun y => z (Int32.lt_iff_toInt_lt.mpr y)
              show a.toInt = b.toInt
              omega⟩ h3
          refine ⟨v, _, hv, hk, hC (by omega) (by omega) _ (fun h8 => ?_)⟩
          subst e
          show (if _ then some (Value.int (if b < a then b else a) :: t, h) else none) = _
          exact if_pos h8
        · by_cases e8 : m = 908
          · subst e8
            have hk : zBin (zMm 2 false) n σ K E ls st k = true := hk
            refine zBin_jj (zt_rg2 (fun _ _ _ _ => rfl)) hg hl hs hk (fun y z a b t kk' e h1 h2 h3 => ?_)
            obtain ⟨v, hv, hk⟩ := zMm_s (Z := (if b < a then b else a).toInt) hg.1 h1 h2 ⟨fun q => by
              rw [if_neg (fun z => by have := Int64.lt_iff_toInt_lt.mp z; omega)]
              rfl, fun q => by
              by_cases z : b < a
              · rw [if_pos z]
                rfl
              · rw [if_neg z]
                have : ¬ b.toInt < a.toInt := fun y => z (Int64.lt_iff_toInt_lt.mpr y)
                show a.toInt = b.toInt
                omega⟩ h3
            refine ⟨v, _, hv, hk, hC (by omega) (by omega) _ (fun h8 => ?_)⟩
            subst e
            show (if _ then some (Value.long (if b < a then b else a) :: t, h) else none) = _
            exact if_pos h8
          · have nb : ∀ c : Nat, m ≠ c → Nat.beq m c = false := fun c hc => by
              cases hb : Nat.beq m c
              · rfl
              · exact absurd (zbe hb) hc
            rw [nb _ e4, nb _ e5, nb _ e6, nb _ e7, nb _ e8] at hk
            cases hk
theorem zCopyE_m {a b m : Nat} {E d : List zE} {e : zE} (he : e ∈ zCopyE a b m E d) : e ∈ d ∨ ∃ e0 ∈ E, e0.1 = b ∧ e0.2.2.1 ≤ m ∧ e = (a, e0.2) := by
  induction E with
  | nil => exact Or.inl he
  | cons z r ih =>
    unfold zCopyE at he
    cases c : (Nat.beq z.1 b && Nat.ble z.2.2.1 m)
    · rw [c] at he
      rcases ih he with h1 | ⟨e0, h1, h2⟩
      · exact Or.inl h1
      · exact Or.inr ⟨e0, List.mem_cons_of_mem _ h1, h2⟩
    · rw [c] at he
      obtain ⟨c1, c2⟩ := zAnd c
      rcases List.mem_cons.mp he with rfl | he
      · exact Or.inr ⟨z, List.mem_cons_self, zbe c1, zbl c2, rfl⟩
      · rcases ih he with h1 | ⟨e0, h1, h2⟩
        · exact Or.inl h1
        · exact Or.inr ⟨e0, List.mem_cons_of_mem _ h1, h2⟩
theorem zCopy_s (hV : zVal P) (hG : zHG P G) (hk : zCopy P n σ K E ls st k = true) (hg : zGa X P G pS h0 ρ0 ρ n σ K E h) (hl : zGl P ρ n ls lsC) (hs : zGl P ρ n st stC) (hC : ∀ stC' h', ((stC'.map fun v => v.category).sum ≤ 8 → aCopy stC h = some (stC', h')) → C lsC stC' h') : zNext X P G pS h0 ρ0 ρ n h k C := by
  match st, hk, hs with
  | [], hk, _ => cases hk
  | [_], hk, _ => cases hk
  | [_, _], hk, _ => cases hk
  | [_, _, _], hk, _ => cases hk
  | [_, _, _, _], hk, _ => cases hk
  | m :: dp :: u :: sp :: w :: t, hk, hs =>
    obtain ⟨u1, q1, rfl, hm, hs1⟩ := zGl_cons hs
    obtain ⟨u2, q2, rfl, hd, hs2⟩ := zGl_cons hs1
    obtain ⟨u3, q3, rfl, hu, hs3⟩ := zGl_cons hs2
    obtain ⟨u4, q4, rfl, hp, hs4⟩ := zGl_cons hs3
    obtain ⟨u5, q, rfl, hw, hs5⟩ := zGl_cons hs4
    have hk : zRef u (fun a => zRef w fun b => zRg 0 σ m fun ml mh => zRg 0 σ dp fun dl dh => zRg 0 σ sp fun sl sh => zCopyK P a b n σ K E ls t k ml mh dl dh sl sh) = true := hk
    obtain ⟨a, rfl, hca, hk⟩ := zRef_s hu hk
    obtain ⟨b, rfl, hcb, hk⟩ := zRef_s hw hk
    obtain ⟨M, rfl, hM⟩ := zG_rgi hm hk
    obtain ⟨ml, mh, m1, m2, hk⟩ := zRg_s hg.1 hM hk
    obtain ⟨D, rfl, hD⟩ := zG_rgi hd hk
    obtain ⟨dl, dh, d1, d2, hk⟩ := zRg_s hg.1 hD hk
    obtain ⟨S, rfl, hS⟩ := zG_rgi hp hk
    obtain ⟨sl, sh, s1, s2, hk⟩ := zRg_s hg.1 hS hk
    unfold zCopyK at hk
    rcases zCd hk with ⟨c, hk⟩ | ⟨-, hk⟩
    · unfold zCopyOk at c
      obtain ⟨c1, c2⟩ := zAnd c
      obtain ⟨c1, c3⟩ := zAnd c1
      obtain ⟨c2, c4⟩ := zAnd c2
      obtain ⟨c2, c5⟩ := zAnd c2
      obtain ⟨c5, c6⟩ := zAnd c5
      obtain ⟨c4, c7⟩ := zAnd c4
      have c1 := zbe c1
      have c3 := zbe c3
      have c2 := zl c2
      have c5 := zl c5
      have c6 := zl c6
      have c4 := zl c4
      have c7 := zl c7
      rw [z0_eq] at c2 c5 c6
      obtain ⟨a1, a2, a3, a4, -⟩ := hg.2.1.2.2 u.2.2.2 a hca (by omega)
      obtain ⟨b1, b2, b3, b4, -⟩ := hg.2.1.2.2 w.2.2.2 b hcb (by omega)
      have a4 := a4 (by omega)
      have b4 := b4 (by omega)
      rw [← a4] at c4
      rw [← b4] at c7
      have ka : (h.2.2.1 a).1 = 100 := a3.trans c1
      have kb : (h.2.2.1 b).1 = 100 := b3.trans c3
      have ea : ∀ l : Nat, Int.ofNat l = (l : Int) := fun _ => rfl
      rw [ea] at c4 c7
      have eM : (M.toNatClampNeg : Int) = M.toInt := by show ((M.toInt.toNat : Nat) : Int) = _; omega
      have eD : (D.toNatClampNeg : Int) = D.toInt := by show ((D.toInt.toNat : Nat) : Int) = _; omega
      have eS : (S.toNatClampNeg : Int) = S.toInt := by show ((S.toInt.toNat : Nat) : Int) = _; omega
      have hC := hC q (h.1, h.2.1, h.2.2.1, aRow h.2.2.2 a (va_cpy (h.2.2.2 b) (h.2.2.2 a) S.toNatClampNeg D.toNatClampNeg M.toNatClampNeg)) (fun h8 => by
        show (if _ then some (q, _) else none) = _
        rw [if_pos ⟨h8, a1, b1, ka, kb, by omega, by omega, by omega, by omega, by omega⟩])
      have pa : zPl h (a * 128 + 127) := zPla a1 a2 (by omega)
      have pb : zPl h (b * 128 + 127) := zPla b1 b2 (by omega)
      have hm0 : ∀ p i, zPl h p → p ≠ a * 128 + 127 → zM (h.1, h.2.1, h.2.2.1, aRow h.2.2.2 a (va_cpy (h.2.2.2 b) (h.2.2.2 a) S.toNatClampNeg D.toNatClampNeg M.toNatClampNeg)) p i = zM h p i := by
        intro p i hp2 hne
        have hpa : p / 128 ≠ a := by
          intro z
          obtain ⟨-, -, hp3⟩ := hp2
          by_cases c7' : p % 128 = 127
          · exact hne (zPl_dm z c7')
          · rw [if_neg c7', z] at hp3
            omega
        show aRow h.2.2.2 a _ (p / 128) _ = _
        rw [aRow_ne hpa]
        rfl
      have hma : ∀ i, zM (h.1, h.2.1, h.2.2.1, aRow h.2.2.2 a (va_cpy (h.2.2.2 b) (h.2.2.2 a) S.toNatClampNeg D.toNatClampNeg M.toNatClampNeg)) (a * 128 + 127) i = if D.toNatClampNeg ≤ i ∧ i < D.toNatClampNeg + M.toNatClampNeg then h.2.2.2 b (S.toNatClampNeg + (i - D.toNatClampNeg)) else h.2.2.2 a i := by
        intro i
        rw [zMa']
        show aRow h.2.2.2 a _ a i = _
        rw [aRow_self]
        rfl
      have trim : ∀ p i, zPl h p → (p = a * 128 + 127 → (i < 0 ∨ (h.2.2.1 a).2.1 ≤ i)) → (p % 128 ≠ 127 → i = 0) → zM (h.1, h.2.1, h.2.2.1, aRow h.2.2.2 a (va_cpy (h.2.2.2 b) (h.2.2.2 a) S.toNatClampNeg D.toNatClampNeg M.toNatClampNeg)) p i = zM h p i := by
        intro p i hp2 hn _
        by_cases z : p = a * 128 + 127
        · rw [z, hma, zMa', if_neg (by have := hn z; omega)]
        · exact hm0 p i hp2 z
      have hoff : zBit P.wm (a * 128 + 127) = true → zOff P.wm h.2.2.1 h.2.2.2 (aRow h.2.2.2 a (va_cpy (h.2.2.2 b) (h.2.2.2 a) S.toNatClampNeg D.toNatClampNeg M.toNatClampNeg)) := by
        intro hbit z
        by_cases e : z = a
        · subst e
          exact ⟨fun q1 => by omega, fun _ q2 => by rw [hbit] at q2; cases q2⟩
        · exact ⟨fun _ f _ _ => by rw [aRow_ne e], fun _ _ => by rw [aRow_ne e]⟩
      have hkp : zLo P (a * 128 + 127) ≤ D.toNatClampNeg → zKp P h.2.2.1 h.2.2.2 (aRow h.2.2.2 a (va_cpy (h.2.2.2 b) (h.2.2.2 a) S.toNatClampNeg D.toNatClampNeg M.toNatClampNeg)) := by
        intro hle z i _ hi
        by_cases e : z = a
        · subst e
          rw [aRow_self]
          show (if D.toNatClampNeg ≤ i ∧ i < D.toNatClampNeg + M.toNatClampNeg then _ else _) = _
          rw [if_neg (by omega)]
        · rw [aRow_ne e]
      have hI : (P.zI (a * 128 + 127)).1 ≤ (P.zI (w.2.2.2 * 128 + 127)).1 → (P.zI (w.2.2.2 * 128 + 127)).2 ≤ (P.zI (a * 128 + 127)).2 → zGI P (h.1, h.2.1, h.2.2.1, aRow h.2.2.2 a (va_cpy (h.2.2.2 b) (h.2.2.2 a) S.toNatClampNeg D.toNatClampNeg M.toNatClampNeg)) := by
        intro l1 l2 p i hp2 hi
        by_cases z : p = a * 128 + 127
        · rw [z, hma]
          by_cases z2 : D.toNatClampNeg ≤ i ∧ i < D.toNatClampNeg + M.toNatClampNeg
          · rw [if_pos z2]
            have hb2 := hg.2.2.2.1 (b * 128 + 127) (S.toNatClampNeg + (i - D.toNatClampNeg)) pb (fun _ => by rw [show (b * 128 + 127) / 128 = b by omega]; omega)
            rw [zMa'] at hb2
            have hbs : (P.zI (w.2.2.2 * 128 + 127)).1 ≤ (P.zI (b * 128 + 127)).1 ∧ (P.zI (b * 128 + 127)).2 ≤ (P.zI (w.2.2.2 * 128 + 127)).2 := by
              by_cases q5 : w.2.2.2 < 700
              · rw [zGc_ex hcb q5]
                exact ⟨Int.le_refl _, Int.le_refl _⟩
              · obtain ⟨p1, p2, p3⟩ := zGc_ps hcb q5 b2
                exact (hV.2.1 _ _ 127 p1 p2 p3 (by omega)).2
            omega
          · rw [if_neg z2]
            have := hg.2.2.2.1 p i hp2 hi
            rw [z, zMa'] at this
            exact this
        · rw [hm0 p i hp2 z]
          exact hg.2.2.2.1 p i hp2 hi
      rcases zCd hk with ⟨c8, hk⟩ | ⟨c8, hk⟩
      · have c8 := zbt c8
        have eaa := zGc_ex hca c8
        rw [← eaa] at hk
        rcases zCd hk with ⟨c9, hk⟩ | ⟨-, hk⟩
        · obtain ⟨c9, c9b⟩ := zAnd c9
          obtain ⟨v1, v2, v3⟩ := zMay1_s c9
          have elen : (zCe P K a).2.1 = (h.2.2.1 a).2.1 := by
            have e9 := a4.symm
            rw [← eaa] at e9
            exact e9
          have g' : zGa X P G pS h0 ρ0 ρ n σ K (zCopyX a w.2.2.2 (zCe P K a).2.1 E ml mh dh sh) (h.1, h.2.1, h.2.2.1, aRow h.2.2.2 a (va_cpy (h.2.2.2 b) (h.2.2.2 a) S.toNatClampNeg D.toNatClampNeg M.toNatClampNeg)) := by
            refine zGa.wr hV hG hg ?_ (hI v2 v3) (hoff v1) (hkp (by have := zbl c9b; omega))
            unfold zCopyX
            rw [elen]
            cases c10 : ((zeq dh z0 && zeq sh z0) && (zeq ml mh && Nat.blt w.2.2.2 700))
            · exact zTrim_s hg.2.2.1 trim
            · obtain ⟨x1, x2⟩ := zAnd c10
              obtain ⟨x1, x3⟩ := zAnd x1
              obtain ⟨x2, x4⟩ := zAnd x2
              have x1 := ze x1
              have x2 := ze x2
              have x3 := ze x3
              have x4 := zbt x4
              rw [z0_eq] at x1 x3
              have ebb := zGc_ex hcb x4
              intro e he
              rcases zCopyE_m he with h1 | ⟨e0, h1, h2, h3, rfl⟩
              · exact zTrim_s hg.2.2.1 trim e h1
              · have he0 := hg.2.2.1 e0 h1
                have pe : zPl h e0.1 := by rw [h2, ← ebb]; exact pb
                have he0 := (zGe_pl pe).mp he0
                have pa' : zPl (h.1, h.2.1, h.2.2.1, aRow h.2.2.2 a (va_cpy (h.2.2.2 b) (h.2.2.2 a) S.toNatClampNeg D.toNatClampNeg M.toNatClampNeg)) (a * 128 + 127) := pa
                refine (zGe_pl (e := (a * 128 + 127, e0.2)) pa').mpr (fun i i1 i2 _ => ?_)
                have i1 : e0.2.1 ≤ i := i1
                have i2 : i < e0.2.2.1 := i2
                show zN ρ n 0 e0.2.2.2 (zM (h.1, h.2.1, h.2.2.1, aRow h.2.2.2 a (va_cpy (h.2.2.2 b) (h.2.2.2 a) S.toNatClampNeg D.toNatClampNeg M.toNatClampNeg)) (a * 128 + 127) i).toInt
                rw [hma, if_pos (by omega), show S.toNatClampNeg + (i - D.toNatClampNeg) = i by omega]
                have := he0 i i1 i2 (fun z => absurd (by rw [h2]; omega) z)
                rw [h2, ← ebb, zMa'] at this
                exact this
          exact zNy hk (Nat.le_refl _) (fun _ _ => rfl) g' hl hs5 (Nat.le_refl _) hC
        · cases hk
      · rcases zCd hk with ⟨c9, hk⟩ | ⟨-, hk⟩
        · have c8 : ¬ u.2.2.2 < 700 := by have := zbtF c8; omega
          obtain ⟨p1, p2, p3⟩ := zGc_ps hca c8 a2
          obtain ⟨c9, c9b⟩ := zAnd c9
          obtain ⟨v1, v2, v3⟩ := zMay1_s (zMem_s c9 p3)
          have g' : zGa X P G pS h0 ρ0 ρ n σ K (zDrop 127 0 (zCe P K u.2.2.2).2.1 (P.ps u.2.2.2) E) (h.1, h.2.1, h.2.2.1, aRow h.2.2.2 a (va_cpy (h.2.2.2 b) (h.2.2.2 a) S.toNatClampNeg D.toNatClampNeg M.toNatClampNeg)) := by
            rw [← a4]
            exact zGa.wr hV hG hg (zDrop_s hg.2.2.1 p3 trim) (hI v2 v3) (hoff v1) (hkp (by have := zLoM_s c9b p3; omega))
          exact zNy hk (Nat.le_refl _) (fun _ _ => rfl) g' hl hs5 (Nat.le_refl _) hC
        · cases hk
    · cases hk
theorem zStrA_s {kk' : String → Bool} {uC : Value} (hu : zG P ρ n u uC) (h : zStrA u kk' = true) : ∃ a : Nat, uC = .ref a ∧ 90001 ≤ a ∧ a < 90001 + aStr.length ∧ kk' (aStr.getD (a - 90001) "") = true := by
  unfold zStrA at h
  obtain ⟨a, rfl, hc, h⟩ := zRef_s hu h
  rcases zCd h with ⟨c, h⟩ | ⟨-, h⟩
  · obtain ⟨c1, c2⟩ := zAnd c
    have c1 := zbl c1
    have c2 := zbt c2
    have e : a = u.2.2.2 := by
      rcases hc with ⟨e, -⟩ | ⟨-, e, -⟩ | ⟨_, e⟩
      · omega
      · omega
      · exact e
    refine ⟨a, rfl, by rw [e]; exact c1, by rw [e]; exact c2, by rw [e]; exact h⟩
  · cases h
end ZCL
/-! the interpreter is sound: the whole -/
section ZFI2
variable {X : aX} {P : zP} {G : aH → Prop} {pS kk dt yt : Nat} {h0 h h' : aH} {ρ0 ρ ρ' : Nat → Int} {n n' : Nat} {σ : zS} {K : zK} {E E' : List zE} {v u : zV} {ls st : List zV} {lsC stC : List Value} {Q : Option Value → aH → Prop} {rec : zR} {x : zX} {fsC : List cFr}
theorem aS3 {cal : Nat → List Value → aH → Option (Option Value × aH)} {i : aI} {ls st st' : List Value} (hk : aKd i = 3) (e : aV cal i ls st h = some (st', h')) : aS X cal i ls st h = some (ls, st', h') := by
  unfold aS
  rw [hk]
  show (aV cal i ls st h).map _ = _
  rw [e]
  rfl
theorem aS3c {cal : Nat → List Value → aH → Option (Option Value × aH)} {i : aI} {q : Nat} {as t ls st : List Value} (hk : aKd i = 3) (h8 : (t.map fun v => v.category).sum ≤ 8) (e : aV cal i ls st h = aGo cal q as t ls h) : aS X cal i ls st h = (match cal q as h with
    | some (rv, h') => if h'.1 = h.1 ∨ (ls ++ t).all (aOkv h.1) = true then some (ls, rv.toList ++ t, h') else none
    | none => none) := by
  unfold aS
  rw [hk]
  show (aV cal i ls st h).map _ = _
  rw [e]
  unfold aGo
  rw [if_pos h8]
  cases cal q as h with
  | none => rfl
  | some r =>
    obtain ⟨rv, h'⟩ := r
    dsimp only
    by_cases c : h'.1 = h.1 ∨ (ls ++ t).all (aOkv h.1) = true
    · rw [if_pos c, if_pos c]
      rfl
    · rw [if_neg c, if_neg c]
      rfl
/-- behind a member of the library -/
theorem zLib_s {m : Nat} {i : aI} {is : List aI} (hrec : zSnd X P G pS h0 ρ0 kk dt yt Q rec) (hkd : aKd i = 3) (hf : zGf P ρ n kk x.1 fsC) (hb : zBot dt yt x.1 x.2.1 x.2.2.1)
    (hN : zNext X P G pS h0 ρ0 ρ n h (fun n σ K E ls st => bif Nat.ble (zCats st) m then rec n σ K E x (zEnB is) ls st else false) (fun lsC' stC' h' => lsC' = lsC ∧ ((∀ P ρ n st, zGl P ρ n st stC' → zCats st ≤ m → ∀ cal, aV cal i lsC stC h = some (stC', h'))))) : zW X (x.2.1 + kk) x.2.2.1 x.2.2.2 (i :: is) lsC stC h (zCt X Q fsC) := by
  obtain ⟨n', σ', K', E', ls', st', ρ', h', lsC', stC', hk, l1, r1, g1, u1, u2, -, e1, e2⟩ := hN
  subst e1
  rcases zCd hk with ⟨c, hk⟩ | ⟨-, hk⟩
  · exact zW_step (by rw [hkd]; decide) (fun cal => aS3 hkd (e2 P ρ' n' st' u2 (zbl c) cal)) (hrec _ _ _ _ x _ _ _ hk ρ' h' fsC is lsC' stC' g1 (hf.mono l1 r1) hb rfl u1 u2)
  · cases hk
theorem zCats_le {vs : List zV} {us : List Value} (hl : zGl P ρ n vs us) {m : Nat} (hm : zCats vs ≤ m) (h8 : m ≤ 8) : (us.map fun v => v.category).sum ≤ 8 := Nat.le_trans (zCats_s hl hm h8) h8
theorem zCats_tl {vs : List zV} {us : List Value} (hl : zGl P ρ n vs us) (hm : zCats vs ≤ 9) : (us.tail.map fun v => v.category).sum ≤ 8 := by
  cases vs with
  | nil =>
    rw [zGl_nil hl]
    exact Nat.zero_le _
  | cons v r =>
    obtain ⟨u, q, rfl, h1, h2⟩ := zGl_cons hl
    have hm : zCat v + zCats r ≤ 9 := hm
    have h1 : 1 ≤ zCat v := by
      unfold zCat
      cases (Nat.beq v.1 2 || Nat.beq v.1 3)
      · cases Nat.beq v.1 9
        · exact Nat.le_refl 1
        · show 1 ≤ 9
          omega
      · show 1 ≤ 2
        omega
    exact zCats_s h2 (by omega) (Nat.le_refl 8)
theorem zInst_s {q : Nat} {i : aI} {is : List aI} (hV : zVal P) (hrec : zSnd X P G pS h0 ρ0 kk dt yt Q rec) (hC : ∀ q c, c ∈ P.con q → zCk X P G q c) (hkd : aKd i = 3)
    (hS : ∀ cal a t, stC.drop (aNA q) = .ref a :: t → a < h.1 → (h.2.2.1 a).1 = aCI q → aV cal i lsC stC h = aGo cal q (.ref a :: (stC.take (aNA q)).reverse) t lsC h)
    (hk : zInst P rec q n σ K E x (zEnB is) ls st = true) (hg : zGa X P G pS h0 ρ0 ρ n σ K E h) (hf : zGf P ρ n kk x.1 fsC) (hb : zBot dt yt x.1 x.2.1 x.2.2.1) (hl : zGl P ρ n ls lsC) (hs : zGl P ρ n st stC) : zW X (x.2.1 + kk) x.2.2.1 x.2.2.2 (i :: is) lsC stC h (zCt X Q fsC) := by
  unfold zInst at hk
  have hd := zGl_drop (m := aNA q) hs
  have ht := zGl_rev (zGl_take (m := aNA q) hs)
  split at hk
  · rename_i u t e
    rw [e] at hd
    obtain ⟨uC, tC, e2, h1, h2⟩ := zGl_cons hd
    obtain ⟨a, rfl, hca, hk⟩ := zRef_s h1 hk
    rcases zCd hk with ⟨c, hk⟩ | ⟨-, hk⟩
    · obtain ⟨c1, c2⟩ := zAnd c
      have c1 := zbe c1
      have c2 := zbt c2
      obtain ⟨b1, b2, b3, -⟩ := hg.2.1.2.2 u.2.2.2 a hca (by omega)
      exact zGo_s hV hrec hC (by rw [hkd]; decide) (fun h8 cal => aS3c hkd h8 (hS cal a tC e2 b1 (b3.trans c1))) hk hg hf hb hl ⟨h1, ht⟩ h2
    · cases hk
  · cases hk
theorem zCalls_s {i : aI} {is : List aI} (hV : zVal P) (hG : zHG P G) (hrec : zSnd X P G pS h0 ρ0 kk dt yt Q rec) (hC : ∀ q c, c ∈ P.con q → zCk X P G q c) (hkd : aKd i = 3)
    (hk : zCalls (zEn i).1 P rec ((zEn i).2.1 % 1000) n σ K E x (zEnB is) ls st = true) (hg : zGa X P G pS h0 ρ0 ρ n σ K E h) (hf : zGf P ρ n kk x.1 fsC) (hb : zBot dt yt x.1 x.2.1 x.2.2.1) (hl : zGl P ρ n ls lsC) (hs : zGl P ρ n st stC) : zW X (x.2.1 + kk) x.2.2.1 x.2.2.2 (i :: is) lsC stC h (zCt X Q fsC) := by
  cases i with
  | invokestatic k =>
    have hk : zCallS P rec (k % 1000) n σ K E x (zEnB is) ls st = true := hk
    unfold zCallS at hk
    cases c9 : Nat.blt (k % 1000) 900
    · rw [c9] at hk
      have c9 := zbtF c9
      cases c2 : Nat.beq (k % 1000) 902
      · rw [c2] at hk
        have c2 := zbn c2
        have hk : zMath (k % 1000) n σ K E ls st (fun n σ K E ls st => bif Nat.ble (zCats st) 9 then rec n σ K E x (zEnB is) ls st else false) = true := hk
        refine zLib_s (m := 9) hrec hkd hf hb (zMath_s hk hg hl hs (fun m1 m2 stC' hm => ⟨rfl, fun P ρ n st hs hm9 cal => ?_⟩))
        show (if k % 1000 = 902 then aCopy stC h else if 904 ≤ k % 1000 ∧ k % 1000 < 909 then aMath (k % 1000) stC h else _) = _
        rw [if_neg c2, if_pos ⟨m1, m2⟩]
        exact hm (zCats_tl hs hm9)
      · rw [c2] at hk
        have c2 := zbe c2
        have hk : zCopy P n σ K E ls st (fun n σ K E ls st => bif Nat.ble (zCats st) 8 then rec n σ K E x (zEnB is) ls st else false) = true := hk
        refine zLib_s (m := 8) hrec hkd hf hb (zCopy_s hV hG hk hg hl hs (fun stC' h' hm => ⟨rfl, fun P ρ n st hs hm9 cal => ?_⟩))
        show (if k % 1000 = 902 then aCopy stC h else _) = _
        rw [if_pos c2]
        exact hm (zCats_le hs hm9 (Nat.le_refl 8))
    · rw [c9] at hk
      have c9 := zbt c9
      have hk : zStat P rec (k % 1000) n σ K E x (zEnB is) ls st = true := hk
      unfold zStat at hk
      rcases zCd hk with ⟨c, hk⟩ | ⟨-, hk⟩
      · obtain ⟨c1, c2⟩ := zAnd c
        have c1 := zbe c1
        have c2 := zbe c2
        have ht := zGl_take (m := aNA (k % 1000)) hs
        refine zGo_s hV hrec hC (by rw [hkd]; decide) (fun h8 cal => aS3c hkd h8 ?_) hk hg hf hb hl (zGl_rev ht) (zGl_drop hs)
        show (if k % 1000 = 902 then _ else if 904 ≤ k % 1000 ∧ k % 1000 < 909 then _ else if (stC.take (aNA (k % 1000))).length = aNA (k % 1000) ∧ aCI (k % 1000) = 100 then aGo cal (k % 1000) (stC.take (aNA (k % 1000))).reverse (stC.drop (aNA (k % 1000))) lsC h else none) = _
        rw [if_neg (by omega), if_neg (by omega), if_pos ⟨by rw [← zGl_len ht]; exact c1, c2⟩]
      · cases hk
  | invokespecial k =>
    have hk : zCallP P rec (k % 1000) n σ K E x (zEnB is) ls st = true := hk
    unfold zCallP at hk
    cases c : Nat.beq (k % 1000) 903
    · rw [c] at hk
      have c := zbn c
      refine zInst_s hV hrec hC hkd (fun cal a t e h1 h2 => ?_) hk hg hf hb hl hs
      show (if k % 1000 = 903 then _ else (match stC.drop (aNA (k % 1000)) with
        | .ref a :: t => if a < h.1 ∧ (h.2.2.1 a).1 = aCI (k % 1000) then aGo cal (k % 1000) (.ref a :: (stC.take (aNA (k % 1000))).reverse) t lsC h else none
        | _ => none)) = _
      rw [if_neg c, e]
      exact if_pos ⟨h1, h2⟩
    · rw [c] at hk
      have c := zbe c
      have hk : zObj P rec (k % 1000) n σ K E x (zEnB is) ls st = true := hk
      match st, hk, hs with
      | [], hk, _ => cases hk
      | u :: t, hk, hs =>
        obtain ⟨uC, tC, rfl, h1, h2⟩ := zGl_cons hs
        have hk : zRef u (fun a => bif (Nat.blt a 700 && Nat.blt a K.1) && Nat.ble (zCats t) 8 then rec n σ K E x (zEnB is) ls t else false) = true := hk
        obtain ⟨a, rfl, hca, hk⟩ := zRef_s h1 hk
        rcases zCd hk with ⟨d, hk⟩ | ⟨-, hk⟩
        · obtain ⟨d1, d2⟩ := zAnd d
          obtain ⟨d1, d3⟩ := zAnd d1
          have d1 := zbt d1
          have d2 := zbl d2
          have d3 := zbt d3
          have ea := zGc_ex hca d1
          refine zW_step (by rw [hkd]; decide) (fun cal => aS3 hkd (st' := tC) (h' := h) ?_) (hrec _ _ _ _ x _ _ _ hk ρ h fsC is lsC tC hg hf hb rfl hl h2)
          show (if k % 1000 = 903 then (if a < h.1 ∧ (tC.map fun v => v.category).sum ≤ 8 then some (tC, h) else none) else _) = _
          rw [if_pos c, if_pos ⟨by rw [hg.2.1.1, ea]; exact d3, zCats_s h2 d2 (Nat.le_refl 8)⟩]
        · cases hk
  | invokevirtual k =>
    have hk : zCallV P rec (k % 1000) n σ K E x (zEnB is) ls st = true := hk
    unfold zCallV at hk
    have inst : zInst P rec (k % 1000) n σ K E x (zEnB is) ls st = true → k % 1000 ≠ 900 → k % 1000 ≠ 901 → zW X (x.2.1 + kk) x.2.2.1 x.2.2.2 (.invokevirtual k :: is) lsC stC h (zCt X Q fsC) := by
      intro hk n0 n1
      refine zInst_s hV hrec hC hkd (fun cal a t e h1 h2 => ?_) hk hg hf hb hl hs
      show (if k % 1000 = 900 then _ else if k % 1000 = 901 then _ else (match stC.drop (aNA (k % 1000)) with
        | .ref a :: t => if a < h.1 ∧ (h.2.2.1 a).1 = aCI (k % 1000) then aGo cal (k % 1000) (.ref a :: (stC.take (aNA (k % 1000))).reverse) t lsC h else none
        | _ => none)) = _
      rw [if_neg n0, if_neg n1, e]
      exact if_pos ⟨h1, h2⟩
    cases c9 : Nat.blt (k % 1000) 900
    · rw [c9] at hk
      cases c0 : Nat.beq (k % 1000) 900
      · rw [c0] at hk
        have c0 := zbn c0
        cases c1 : Nat.beq (k % 1000) 901
        · rw [c1] at hk
          exact inst hk c0 (zbn c1)
        · rw [c1] at hk
          have c1 := zbe c1
          have hk : zStrC n σ K E ls st (fun n σ K E ls st => bif Nat.ble (zCats st) 9 then rec n σ K E x (zEnB is) ls st else false) = true := hk
          match st, hk, hs with
          | [], hk, _ => cases hk
          | [_], hk, _ => cases hk
          | j :: u :: t, hk, hs =>
            obtain ⟨jC, q0, rfl, hj, hs0⟩ := zGl_cons hs
            obtain ⟨uC, tC, rfl, h1, h2⟩ := zGl_cons hs0
            have hk : zStrA u (fun s => zIn σ j s.length fun _ _ => bif Nat.ble (zCats (zAny :: t)) 9 then rec n σ K E x (zEnB is) ls (zAny :: t) else false) = true := hk
            obtain ⟨a, rfl, a1, a2, hk⟩ := zStrA_s h1 hk
            obtain ⟨y, lo, hi, rfl, -, -, -, -, hk, hin, -⟩ := zIn_s hg.1 hj hk
            rcases zCd hk with ⟨c8, hk⟩ | ⟨-, hk⟩
            · refine zW_step (by rw [hkd]; decide) (fun cal => aS3 hkd (st' := .int (aChr (aStr.getD (a - 90001) "") y.toNatClampNeg) :: tC) (h' := h) ?_) (hrec _ _ _ _ x _ _ _ hk ρ h fsC is lsC _ hg hf hb rfl hl ⟨zGi (zAny_s _), h2⟩)
              show (if k % 1000 = 900 then _ else if k % 1000 = 901 then (if 90001 ≤ a ∧ a < 90001 + aStr.length ∧ aInR y (aStr.getD (a - 90001) "").length = true ∧ (tC.map fun v => v.category).sum ≤ 8 then _ else none) else _) = _
              rw [if_neg c0, if_pos c1, if_pos ⟨a1, a2, hin, zCats_tl (vs := zAny :: t) (us := .int y :: tC) ⟨zGi (zAny_s _), h2⟩ (zbl c8)⟩]
            · cases hk
      · rw [c0] at hk
        have c0 := zbe c0
        have hk : zStrL n σ K E ls st (fun n σ K E ls st => bif Nat.ble (zCats st) 9 then rec n σ K E x (zEnB is) ls st else false) = true := hk
        match st, hk, hs with
        | [], hk, _ => cases hk
        | u :: t, hk, hs =>
          obtain ⟨uC, tC, rfl, h1, h2⟩ := zGl_cons hs
          have hk : zStrA u (fun s => bif Nat.blt s.length 1000 then (bif Nat.ble (zCats (zc 0 (Int.ofNat s.length) :: t)) 9 then rec n σ K E x (zEnB is) ls (zc 0 (Int.ofNat s.length) :: t) else false) else false) = true := hk
          obtain ⟨a, rfl, a1, a2, hk⟩ := zStrA_s h1 hk
          rcases zCd hk with ⟨c, hk⟩ | ⟨-, hk⟩
          · have c := zbt c
            rcases zCd hk with ⟨c8, hk⟩ | ⟨-, hk⟩
            · refine zW_step (by rw [hkd]; decide) (fun cal => aS3 hkd (st' := .int (Int32.ofNat (aStr.getD (a - 90001) "").length) :: tC) (h' := h) ?_) (hrec _ _ _ _ x _ _ _ hk ρ h fsC is lsC _ hg hf hb rfl hl ⟨zGi (znC (w := 0) (by rw [Int32.toInt_ofNat_of_lt (by omega)]; rfl)), h2⟩)
              show (if k % 1000 = 900 then (if 90001 ≤ a ∧ a < 90001 + aStr.length ∧ (tC.map fun v => v.category).sum ≤ 8 then _ else none) else _) = _
              rw [if_pos c0, if_pos ⟨a1, a2, zCats_tl (vs := zAny :: t) (us := .int 0 :: tC) ⟨zGi (zAny_s _), h2⟩ (Nat.le_trans (by show zCats (zAny :: t) ≤ zCats (zc 0 (Int.ofNat _) :: t); exact Nat.le_refl _) (zbl c8))⟩]
            · cases hk
          · cases hk
    · rw [c9] at hk
      have c9 := zbt c9
      exact inst hk (by omega) (by omega)
  | _ => exact absurd hkd (by first | (show ¬ (0 = 3); decide) | (show ¬ (1 = 3); decide) | (show ¬ (2 = 3); decide) | (show ¬ (4 = 3); decide))
/-- one step -/
theorem zStep_s (hV : zVal P) (hG : zHG P G) (hI : zHI X P G pS h0 ρ0 kk dt yt Q) (hF : zHF X P G pS h0 ρ0 Q) (hC : ∀ q c, c ∈ P.con q → zCk X P G q c) (hrec : zSnd X P G pS h0 ρ0 kk dt yt Q rec) : zSnd X P G pS h0 ρ0 kk dt yt Q (zStep P rec) := by
  intro n σ K E x is ls st hk ρ h fsC isC lsC stC hg hf hb his hl hs
  subst his
  cases isC with
  | nil =>
    have hk : zJ P rec n σ K E x (x.2.2.2 + 1) ls st = true := hk
    obtain ⟨l, h1, h2⟩ := zJ_s hV hrec hI hk hg hf hb hl hs
    exact zW_fall h1 h2
  | cons i is =>
    have hk : zSk (zEn i).1 P rec (zEn i) (zEnB is) n σ K E x ls st = true := hk
    unfold zSk at hk
    rcases zEn_k i with ⟨e1, e2⟩ | ⟨e1, e2, e3⟩ | ⟨e1, e2, e3⟩ | e1
    · have c : Nat.blt (zEn i).1 48 = true := by
        cases c : Nat.blt (zEn i).1 48
        · have := zbtF c; omega
        · rfl
      rw [c] at hk
      have hk : zDq P (zEn i) n σ K E ls st (fun n σ K E ls st => rec n σ K E x (zEnB is) ls st) = true := hk
      obtain ⟨n', σ', K', E', ls', st', ρ', h', lsC', stC', hk, l1, r1, g1, u1, u2, -, e4⟩ := zDq_s hV hG hk e2 hg hl hs
      exact zW_step (by omega) e4 (hrec _ _ _ _ x _ _ _ hk ρ' h' fsC is lsC' stC' g1 (hf.mono l1 r1) hb rfl u1 u2)
    · have c : Nat.blt (zEn i).1 48 = false := by
        cases c : Nat.blt (zEn i).1 48
        · rfl
        · have := zbt c; omega
      have c2 : Nat.blt (zEn i).1 57 = true := by
        cases c : Nat.blt (zEn i).1 57
        · have := zbtF c; omega
        · rfl
      rw [c, c2] at hk
      exact zEnd_s hV hrec hI hF hk e3 hg hf hb hl hs
    · have c : Nat.blt (zEn i).1 48 = false := by
        cases c : Nat.blt (zEn i).1 48
        · rfl
        · have := zbt c; omega
      have c2 : Nat.blt (zEn i).1 57 = false := by
        cases c : Nat.blt (zEn i).1 57
        · rfl
        · have := zbt c; omega
      rw [c, c2] at hk
      exact zCalls_s hV hG hrec hC e3 hk hg hf hb hl hs
    · rw [e1] at hk
      have hk : zCalls (zEn i).1 P rec ((zEn i).2.1 % 1000) n σ K E x (zEnB is) ls st = true := hk
      rw [e1] at hk
      cases hk
theorem zGoX_s (hV : zVal P) (hG : zHG P G) (hI : zHI X P G pS h0 ρ0 kk dt yt Q) (hF : zHF X P G pS h0 ρ0 Q) (hC : ∀ q c, c ∈ P.con q → zCk X P G q c) : ∀ f, zSnd X P G pS h0 ρ0 kk dt yt Q (zGoX P f) := by
  intro f
  induction f with
  | zero => intro n σ K E x is ls st hk; cases hk
  | succ f ih => exact zStep_s hV hG hI hF hC ih
end ZFI2
/-! contracts out of runs of the interpreter -/
def zEqv (P P' : zP) : Prop := P.kT = P'.kT ∧ P.zI = P'.zI ∧ P.ps = P'.ps
section ZEQ
variable {P P' : zP}
theorem zEqv.symm (e : zEqv P P') : zEqv P' P := ⟨e.1.symm, e.2.1.symm, e.2.2.symm⟩
theorem zIr_eq (e : zEqv P P') : zIr P = zIr P' := by
  funext p
  unfold zIr
  rw [e.2.1]
theorem zFits_eq (e : zEqv P P') : zFits P = zFits P' := by
  funext σ v u
  unfold zFits zFitC
  rw [e.2.2]
theorem zFitL_eq (e : zEqv P P') {σ : zS} {th : List zV} : ∀ vs us, zFitL P σ th vs us = zFitL P' σ th vs us := by
  intro vs
  induction vs with
  | nil => intro us; cases us <;> rfl
  | cons v r ih =>
    intro us
    cases us with
    | nil => rfl
    | cons u q =>
      unfold zFitL
      rw [zFits_eq e, ih q]
theorem zLocOk_eq (e : zEqv P P') : zLocOk P = zLocOk P' := by
  funext p t
  unfold zLocOk
  rw [e.1]
theorem zFldOk_eq (e : zEqv P P') : zFldOk P = zFldOk P' := by
  funext p
  unfold zFldOk
  rw [e.1]
theorem zFitE_eq (e : zEqv P P') {σ : zS} {E : List zE} {th : List zV} : ∀ es, zFitE P σ E th es = zFitE P' σ E th es := by
  intro es
  induction es with
  | nil => rfl
  | cons a r ih =>
    unfold zFitE
    rw [zLocOk_eq e, zFits_eq e, zIr_eq e, ih]
theorem zRd_eq (e : zEqv P P') : zRd P = zRd P' := by
  funext n σ E p k
  unfold zRd
  rw [zIr_eq e]
theorem zFind1_eq (e : zEqv P P') : zFind1 P = zFind1 P' := by
  funext vs q b n σ E k
  unfold zFind1
  rw [zFldOk_eq e, zRd_eq e]
theorem zFind_eq (e : zEqv P P') {vs : List zV} : ∀ qs bs n σ E th k, zFind P vs qs bs n σ E th k = zFind P' vs qs bs n σ E th k := by
  intro qs
  induction qs with
  | nil => intro bs n σ E th k; cases bs <;> rfl
  | cons q r ih =>
    intro bs n σ E th k
    cases bs with
    | nil => rfl
    | cons b bs =>
      unfold zFind
      rw [zFind1_eq e]
      congr 1
      funext n σ E v
      exact ih bs n σ E (th ++ [v]) k
theorem zPostOk_eq (e : zEqv P P') {p0 : Nat} : ∀ ps n σ E rv, zPostOk P p0 ps n σ E rv = zPostOk P' p0 ps n σ E rv := by
  intro ps
  induction ps with
  | nil => intro n σ E rv; rfl
  | cons q r ih =>
    intro n σ E rv
    unfold zPostOk
    rw [zFind_eq e, ih]
    congr 2
    funext n σ E th
    unfold zPost1
    rw [zFitL_eq e, zFitE_eq e]
theorem zGc_eq (e : zEqv P P') : zGc P = zGc P' := by
  funext s r
  unfold zGc
  rw [e.2.2]
theorem zG_eq (e : zEqv P P') : zG P = zG P' := by
  funext ρ n v u
  unfold zG
  rw [zGc_eq e]
theorem zGl_eq (e : zEqv P P') {ρ : Nat → Int} {n : Nat} : ∀ vs us, zGl P ρ n vs us = zGl P' ρ n vs us := by
  intro vs
  induction vs with
  | nil => intro us; cases us <;> rfl
  | cons v r ih =>
    intro us
    cases us with
    | nil => rfl
    | cons u q =>
      unfold zGl
      rw [zG_eq e, ih q]
theorem zGK_eq (e : zEqv P P') : zGK P = zGK P' := by
  funext K h
  unfold zGK zGk zCe
  rw [zGc_eq e, e.1]
theorem zGI_eq (e : zEqv P P') : zGI P = zGI P' := by
  funext h
  unfold zGI
  rw [e.2.1]
theorem zPm_eq (e : zEqv P P') : zPm P = zPm P' := by
  funext ρ m po rv h
  unfold zPm
  simp only [zGl_eq e]
theorem zCk_eq {X : aX} {G : aH → Prop} {q : Nat} {c : zCo} (e : zEqv P P') : zCk X P G q c = zCk X P' G q c := by
  unfold zCk
  simp only [zGl_eq e, zGK_eq e, zGI_eq e, zPm_eq e]
end ZEQ
/-- the tables of P, for a run of a method: loops, what may be written, what may change, symbols, measure, end -/
def zSet (P : zP) (inv : List zIv) (wm md p0 : Nat) (me : List (List zV)) (fin : Nat → zS → zK → List zE → List zV → Bool) : zP := (P.bk, P.kT, P.zI, P.ps, P.con, inv, false, wm, md, p0, me, fin, fun _ _ _ _ _ => true)
theorem zSet_eqv {P : zP} {inv : List zIv} {wm md p0 : Nat} {me : List (List zV)} {fin : Nat → zS → zK → List zE → List zV → Bool} : zEqv (zSet P inv wm md p0 me fin) P := ⟨rfl, rfl, rfl⟩
/-- bounds of the first symbols -/
def zSig : List (Int × Int) → Nat → zS
  | [], _ => []
  | b :: r, i => (i, b.1, b.2) :: zSig r (i + 1)
/-- the run of a method from its entry -/
def zRunE (P : zP) (c : zCo) (q dd f wm N S : Nat) (inv : List zIv) : Prop :=
  (zAll (fun v => Nat.ble v.1 4) c.2.2.2.1 && Nat.ble (zFl c.2.2.2.1).length (aML q)) = true ∧
  zBlk (P.bk q) 0 (fun l => zGoX (zSet P inv wm c.2.2.2.2.2.2 c.2.1.length [] (fun n σ _ E rv => zPostOk P c.2.1.length c.2.2.2.2.2.1 n σ E rv)) f c.2.1.length (zSig c.2.1 0) (N, S, []) c.2.2.2.2.1 ([], dd, q, 0) l (zEnt c.2.2.2.1 (aML q)) []) = true
/-- the run from a loop's head -/
def zRunL (P : zP) (c : zCo) (q dd f wm N S : Nat) (inv : List zIv) (v : zIv) : Prop :=
  zBlk (P.bk q) v.1 (fun l => zGoX (zSet P inv wm c.2.2.2.2.2.2 c.2.1.length [v.2.2.2.2.2] (fun n σ _ E rv => zPostOk P c.2.1.length c.2.2.2.2.2.1 n σ E rv)) f (c.2.1.length + v.2.2.1.length) (zSig (c.2.1 ++ v.2.2.1) 0) (N, S, []) v.2.2.2.2.1 ([], dd, q, v.1) l v.2.2.2.1 []) = true
/-- what falls, as a number -/
def zMe (ρ : Nat → Int) : List zV → Int
  | [] => 0
  | u :: r => (u.2.1 + u.2.2.1 * ρ u.2.2.2) + zMe ρ r
section ZLP
variable {X : aX} {P : zP} {G : aH → Prop} {pS kk dt yt : Nat} {h0 h h' : aH} {ρ0 ρ ρ' : Nat → Int} {n n' : Nat} {σ : zS} {K : zK} {E E' : List zE} {v u : zV} {ls st : List zV} {lsC stC : List Value} {Q : Option Value → aH → Prop} {th : List zV} {r : Nat → Int}
theorem zSig_s {bs : List (Int × Int)} {i N : Nat} (hb : ∀ j b, bs[j]? = some b → i + j < N ∧ b.1 ≤ ρ (i + j) ∧ ρ (i + j) ≤ b.2) : zSok ρ N (zSig bs i) := by
  induction bs generalizing i with
  | nil => intro e he; cases he
  | cons b bs ih =>
    intro e he
    rcases List.mem_cons.mp he with rfl | he
    · exact hb 0 b rfl
    · refine ih (i := i + 1) (fun j b' hj => ?_) e he
      have := hb (j + 1) b' hj
      rwa [show i + (j + 1) = i + 1 + j by omega] at this
theorem zIds_at {m i j : Nat} : (zIds m i)[j]? = if j < m then some (zsy (i + j)) else none := by
  induction m generalizing i j with
  | zero =>
    rw [if_neg (by omega)]
    rfl
  | succ m ih =>
    cases j with
    | zero =>
      rw [if_pos (by omega)]
      rfl
    | succ j =>
      show (zIds m (i + 1))[j]? = _
      rw [ih]
      by_cases q : j < m
      · rw [if_pos q, if_pos (by omega), show i + 1 + j = i + (j + 1) by omega]
      · rw [if_neg q, if_neg (by omega)]
theorem zIds_len {m i : Nat} : (zIds m i).length = m := by
  induction m generalizing i with
  | zero => rfl
  | succ m ih =>
    show (zIds m (i + 1)).length + 1 = _
    rw [ih]
theorem zIds_th {m : Nat} (hm : m ≤ n) : zTh ρ n (zIds m 0) ρ := by
  intro i v h
  rw [zIds_at] at h
  by_cases q : i < m
  · rw [if_pos q] at h
    cases h
    refine ⟨Or.inl rfl, Or.inl ⟨rfl, Or.inr (by show 0 + i < n; omega), ?_⟩⟩
    show ρ i = 0 + 1 * ρ (0 + i)
    rw [Nat.zero_add]
    omega
  · rw [if_neg q] at h
    cases h
/-- terms that are numbers in the known symbols -/
def zTm (n : Nat) (us : List zV) : Prop := ∀ u ∈ us, u.1 = 0 ∧ (u.2.2.1 = 0 ∨ u.2.2.2 < n)
theorem zLowS_s {us : List zV} {m Z : Int} {k : Int → Bool} (hs : zSok ρ n σ) (ht : zTm n us) (hm : m ≤ Z) (h : zLowS σ us m k = true) : ∃ l, l ≤ Z + zMe ρ us ∧ k l = true := by
  induction us generalizing m Z with
  | nil => exact ⟨m, by show m ≤ Z + 0; omega, h⟩
  | cons u q ih =>
    have h : zRg 0 σ u (fun l _ => zLowS σ q (m + l) k) = true := h
    obtain ⟨t1, t2⟩ := ht u List.mem_cons_self
    obtain ⟨lo, hi, z1', z2', h⟩ := zRg_s hs (show zN ρ n 0 u (u.2.1 + u.2.2.1 * ρ u.2.2.2) from Or.inl ⟨t1, t2, rfl⟩) h
    obtain ⟨l, e1, e2⟩ := ih (Z := Z + (u.2.1 + u.2.2.1 * ρ u.2.2.2)) (fun u hu => ht u (List.mem_cons_of_mem _ hu)) (by omega) h
    refine ⟨l, ?_, e2⟩
    show l ≤ Z + ((u.2.1 + u.2.2.1 * ρ u.2.2.2) + zMe ρ q)
    omega
theorem zDiffS_s {us vs : List zV} {m Z : Int} {k : Int → Bool} (hs : zSok ρ n σ) (ht : zTm n us) (ht2 : zTm n vs) (hm : Z ≤ m) (h : zDiffS σ us vs m k = true) : ∃ l, Z + (zMe ρ us - zMe ρ vs) ≤ l ∧ k l = true := by
  induction us generalizing vs m Z with
  | nil =>
    cases vs with
    | nil => exact ⟨m, by show Z + (0 - 0) ≤ m; omega, h⟩
    | cons v w => cases h
  | cons u q ih =>
    cases vs with
    | nil => cases h
    | cons v w =>
      obtain ⟨t1, t2⟩ := ht u List.mem_cons_self
      obtain ⟨t3, t4⟩ := ht2 v List.mem_cons_self
      have tq : zTm n q := fun u hu => ht u (List.mem_cons_of_mem _ hu)
      have tw : zTm n w := fun u hu => ht2 u (List.mem_cons_of_mem _ hu)
      have step : ∀ D : Int, (u.2.1 + u.2.2.1 * ρ u.2.2.2) - (v.2.1 + v.2.2.1 * ρ v.2.2.2) ≤ D → zDiffS σ q w (m + D) k = true → ∃ l, Z + (zMe ρ (u :: q) - zMe ρ (v :: w)) ≤ l ∧ k l = true := by
        intro D hD h
        obtain ⟨l, e1, e2⟩ := ih (Z := Z + ((u.2.1 + u.2.2.1 * ρ u.2.2.2) - (v.2.1 + v.2.2.1 * ρ v.2.2.2))) tq tw (by omega) h
        refine ⟨l, ?_, e2⟩
        show Z + (((u.2.1 + u.2.2.1 * ρ u.2.2.2) + zMe ρ q) - ((v.2.1 + v.2.2.1 * ρ v.2.2.2) + zMe ρ w)) ≤ l
        omega
      unfold zDiffS at h
      rcases zCd h with ⟨c, h⟩ | ⟨-, h⟩
      · obtain ⟨-, c2⟩ := zAnd c
        obtain ⟨c2, c3⟩ := zAnd c2
        refine step _ ?_ h
        rw [zbe c2, ze c3]
        omega
      · obtain ⟨lx, ux, ly, uy, a1, a2, a3, a4, h⟩ := zRg2_s hs (show zN ρ n 0 u (u.2.1 + u.2.2.1 * ρ u.2.2.2) from Or.inl ⟨t1, t2, rfl⟩) (show zN ρ n 0 v (v.2.1 + v.2.2.1 * ρ v.2.2.2) from Or.inl ⟨t3, t4, rfl⟩) h
        exact step (ux - ly) (by omega) h
/-- the terms that fall are told in symbols that there are -/
def zTmB (m : Nat) (us : List zV) : Bool := zAll (fun u => Nat.beq u.1 0 && (zeq u.2.2.1 z0 || Nat.blt u.2.2.2 m)) us
theorem zAll_m {α : Type} {f : α → Bool} {l : List α} (h : zAll f l = true) : ∀ a ∈ l, f a = true := by
  induction l with
  | nil => intro a ha; cases ha
  | cons x r ih =>
    obtain ⟨h1, h2⟩ := zAnd (show (f x && zAll f r) = true from h)
    intro a ha
    rcases List.mem_cons.mp ha with rfl | ha
    · exact h1
    · exact ih h2 a ha
theorem zTmB_s {m : Nat} {us : List zV} (h : zTmB m us = true) : zTm m us := by
  intro u hu
  obtain ⟨h1, h2⟩ := zAnd (zAll_m h u hu)
  refine ⟨zbe h1, ?_⟩
  rcases zOr h2 with h2 | h2
  · exact Or.inl (by rw [ze h2]; rfl)
  · exact Or.inr (zbt h2)
theorem zMe_map {us : List zV} (hth : zTh ρ n th r) (ht : zTm th.length us) : zTm n (us.map (zSubst th)) ∧ zMe ρ (us.map (zSubst th)) = zMe r us := by
  induction us with
  | nil => exact ⟨fun u hu => (by cases hu), rfl⟩
  | cons u q ih =>
    obtain ⟨i1, i2⟩ := ih (fun u hu => ht u (List.mem_cons_of_mem _ hu))
    obtain ⟨t1, t2⟩ := ht u List.mem_cons_self
    have hz : zN r th.length 0 u (u.2.1 + u.2.2.1 * r u.2.2.2) := Or.inl ⟨t1, t2, rfl⟩
    have tag : (zSubst th u).1 = 0 := by
      unfold zSubst
      have c : (Nat.beq u.1 0 || Nat.beq u.1 2) = true := by rw [t1]; rfl
      rw [c]
      cases c2 : zeq u.2.2.1 z0
      · have c2 := zeF c2
        rw [z0_eq] at c2
        show (zSubA u (zThN th u.2.2.2)).1 = 0
        rcases zThN_at (th := th) (j := u.2.2.2) with ⟨v, q1, q2⟩ | ⟨q1, q2⟩
        · rw [q2]
          obtain ⟨hv, -⟩ := hth _ _ q1
          unfold zSubA
          have c3 : (Nat.beq v.1 0 || Nat.beq v.1 2) = true := by rcases hv with e | e <;> rw [e] <;> rfl
          rw [c3]
          show (zAff _ _ _ _).1 = 0
          unfold zAff
          cases zeq (u.2.2.1 * v.2.2.1) z0 <;> exact t1
        · rcases t2 with t2 | t2 <;> omega
      · exact t1
    have e := (zSub_n hth (Or.inl rfl) (Or.inl tag)).mp hz
    rcases e with ⟨e1, e2, e3⟩ | ⟨e1, -⟩
    · refine ⟨fun w hw => ?_, ?_⟩
      · rcases List.mem_cons.mp hw with rfl | hw
        · exact ⟨e1, e2⟩
        · exact i1 w hw
      · show ((zSubst th u).2.1 + (zSubst th u).2.2.1 * ρ (zSubst th u).2.2.2) + zMe ρ (q.map (zSubst th)) = (u.2.1 + u.2.2.1 * r u.2.2.2) + zMe r q
        rw [i2, e3]
    · omega
end ZLP
/-! a contract holds where the runs from its entry and from its loops' heads do -/
def zBase (P : zP) : Prop := (∀ y, P.bk y = (aMC y).map zEnB) ∧ (∀ s b f, 700 ≤ s → s < 1000 → b ∈ P.ps s → f < 128 → b < 700 ∧ (P.zI (s * 128 + f)).1 ≤ (P.zI (b * 128 + f)).1 ∧ (P.zI (b * 128 + f)).2 ≤ (P.zI (s * 128 + f)).2) ∧ ((P.zI 11520001).1 ≤ zMn 0 ∧ zMx 0 ≤ (P.zI 11520001).2) ∧ (∀ s b, b ∈ P.ps s → 700 ≤ s ∧ s < 1000)
section ZCF
variable {X : aX} {P : zP} {G : aH → Prop} {pS kk dt yt : Nat} {h0 h h' : aH} {ρ0 ρ ρ' : Nat → Int} {n n' : Nat} {σ : zS} {K : zK} {E E' : List zE} {v u : zV} {ls st : List zV} {lsC stC : List Value} {Q : Option Value → aH → Prop} {th : List zV} {r : Nat → Int}
theorem zVal_set {inv : List zIv} {wm md p0 : Nat} {me : List (List zV)} {fin : Nat → zS → zK → List zE → List zV → Bool} (hB : zBase P) (hm : Nat.beq (Nat.lor wm md) md = true) : zVal (zSet P inv wm md p0 me fin) :=
  ⟨hB.1, hB.2.1, hB.2.2.1, fun p hp => zBit_sub hm p hp, fun al => (by cases al), hB.2.2.2⟩
theorem zPostOk_s {p0 : Nat} {posts : List zPo} {rv : List zV} {rvC : Option Value} (hV : zVal P) (hKe : zGK P (h.1, h.2.1, []) h) (hp : p0 ≤ pS) (hg : zGa X P G pS h0 ρ0 ρ n σ K E h) (hl : zGl P ρ n rv rvC.toList) (hk : zPostOk P p0 posts n σ E rv = true) : ∃ po ∈ posts, zPm P ρ0 p0 po rvC h := by
  induction posts with
  | nil => cases hk
  | cons po q ih =>
    unfold zPostOk at hk
    rcases zOr hk with hk | hk
    · refine ⟨po, List.mem_cons_self, ?_⟩
      have hpn : p0 ≤ n := Nat.le_trans hp hg.2.2.2.2.2.2
      obtain ⟨n1, σ1, E1, ρ1, th, r, hk, l1, r1, g1, t1, e1, len1, b1⟩ := zFind_s hKe hg hl (zIds_th hpn) hk
      rw [zIds_len] at e1 len1 b1
      unfold zPost1 at hk
      obtain ⟨k1, hk⟩ := zAnd hk
      obtain ⟨k2, k3⟩ := zAnd hk
      have a1 := zHold_s g1.1 t1 k1
      have a2 := zFitL_s hV g1.1 t1 (hl.mono l1 r1) k2
      have a3 := zFitE_s hV hKe g1 t1 k3
      rw [len1] at a1 a2 a3
      exact ⟨r, fun i hi => (e1 i hi).trans (hg.2.2.2.2.2.1 i (by omega)), b1, a1, a2, a3⟩
    · obtain ⟨po', h1, h2⟩ := ih hk
      exact ⟨po', List.mem_cons_of_mem _ h1, h2⟩
theorem zMe_agree {us : List zV} (ht : zTm n us) (hr : ∀ i, i < n → ρ' i = ρ i) : zMe ρ' us = zMe ρ us := by
  induction us with
  | nil => rfl
  | cons u q ih =>
    obtain ⟨-, t2⟩ := ht u List.mem_cons_self
    show (u.2.1 + u.2.2.1 * ρ' u.2.2.2) + zMe ρ' q = (u.2.1 + u.2.2.1 * ρ u.2.2.2) + zMe ρ q
    rw [ih (fun u hu => ht u (List.mem_cons_of_mem _ hu))]
    rcases t2 with t2 | t2
    · rw [t2]
      omega
    · rw [hr _ t2]
/-- a loop's head is met -/
def zHd (P : zP) (G : aH → Prop) (ρ : Nat → Int) (m md : Nat) (h : aH) (v : zIv) (ρ' : Nat → Int) (h' : aH) (lsC : List Value) : Prop :=
  (∀ i, i < m → ρ' i = ρ i) ∧ (∀ i b, v.2.2.1[i]? = some b → b.1 ≤ ρ' (m + i) ∧ ρ' (m + i) ≤ b.2) ∧ zGl P ρ' (m + v.2.2.1.length) v.2.2.2.1 lsC ∧ (∀ e ∈ v.2.2.2.2.1, zGp ρ' (m + v.2.2.1.length) h' e) ∧ zGI P h' ∧ G h' ∧ zOff md h.2.2.1 h.2.2.2 h'.2.2.2 ∧ (h'.1 = h.1 ∧ h'.2.1 = h.2.1 ∧ h'.2.2.1 = h.2.2.1) ∧ 0 ≤ zMe ρ' v.2.2.2.2.2
/-- at a head, by a run -/
theorem zHead_s {v : zIv} {m : Nat} (hV : zVal P) (hKe : zGK P (h.1, h.2.1, []) h) (al : P.al = false) (hm : m = P.p0) (hpS : m ≤ pS) (hr0 : ∀ i, i < m → ρ0 i = r i) (hg : zGa X P G pS h0 ρ0 ρ n σ K E h) (hl : zGl P ρ n ls lsC) (htm : zTm (m + v.2.2.1.length) v.2.2.2.2.2) (hk : zHead P v n σ E ls = true) :
    ∃ ρ', zHd P G r m P.md h0 v ρ' h lsC ∧ ∀ vs, P.me = [vs] → zTm pS vs → zMe ρ' v.2.2.2.2.2 < zMe ρ0 vs := by
  subst hm
  unfold zHead at hk
  have hpn : P.p0 ≤ n := Nat.le_trans hpS hg.2.2.2.2.2.2
  obtain ⟨n1, σ1, E1, ρ1, th, r1, hk, l1, q1, g1, t1, e1, len1, b1⟩ := zFind_s hKe hg hl (zIds_th hpn) hk
  rw [zIds_len] at e1 len1 b1
  unfold zHeadF at hk
  obtain ⟨k1, hk⟩ := zAnd hk
  obtain ⟨k2, hk⟩ := zAnd hk
  unfold zFall at hk
  obtain ⟨k3, k4⟩ := zAnd hk
  have a2 := zFitL_s hV g1.1 t1 (hl.mono l1 q1) k1
  have a3 := zFitE_s hV hKe g1 t1 k2
  rw [len1] at a2 a3
  obtain ⟨m1, m2⟩ := zMe_map t1 (by rw [len1]; exact htm)
  obtain ⟨lo, c1, c2⟩ := zLowS_s (Z := 0) g1.1 m1 (by rw [z0_eq]; omega) k3
  have c2 := zl c2
  rw [z0_eq] at c2
  obtain ⟨f1, f2, f3⟩ := g1.2.2.2.2.1 al
  refine ⟨r1, ⟨fun i hi => ((e1 i hi).trans (hg.2.2.2.2.2.1 i (by omega))).trans (hr0 i hi), b1, a2, a3, g1.2.2.2.1, f1, ?_, f3, by omega⟩, fun vs hvs htv => ?_⟩
  · rw [← f3.2.2]
    exact f2
  · rw [hvs] at k4
    have k4 : zDiffS σ1 (v.2.2.2.2.2.map (zSubst th)) vs z0 (fun d => zle d (Int.negSucc 0)) = true := k4
    have hpn1 : pS ≤ n1 := g1.2.2.2.2.2.2
    have htv1 : zTm n1 vs := fun u hu => ⟨(htv u hu).1, (htv u hu).2.imp id (fun z => by omega)⟩
    obtain ⟨d, d1, d2⟩ := zDiffS_s (Z := 0) g1.1 m1 htv1 (by rw [z0_eq]; omega) k4
    have d2 := zl d2
    rw [show Int.negSucc 0 = -1 from rfl] at d2
    have e9 : zMe ρ1 vs = zMe ρ0 vs := zMe_agree htv (fun i hi => g1.2.2.2.2.2.1 i hi)
    omega
/-- the state that a head's template tells -/
theorem zHd_ga {v : zIv} {c : zCo} {fin : Nat → zS → zK → List zE → List zV → Bool} {inv : List zIv} {wm : Nat} {me : List (List zV)} (hb : ∀ i b, c.2.1[i]? = some b → b.1 ≤ ρ i ∧ ρ i ≤ b.2) (hK : zGK P (h.1, h.2.1, []) h) (hd : zHd P G ρ c.2.1.length c.2.2.2.2.2.2 h v ρ' h' lsC) :
    zGa X (zSet P inv wm c.2.2.2.2.2.2 c.2.1.length me fin) G (c.2.1.length + v.2.2.1.length) h ρ' ρ' (c.2.1.length + v.2.2.1.length) (zSig (c.2.1 ++ v.2.2.1) 0) (h.1, h.2.1, []) v.2.2.2.2.1 h' := by
  obtain ⟨d1, d2, d3, d4, d5, d6, d7, d8, d9⟩ := hd
  refine ⟨zSig_s (fun j b hj => ?_), ?_, fun e he => zGp_e (d4 e he), ?_, fun _ => ⟨d6, ?_, d8⟩, fun _ _ => rfl, Nat.le_refl _⟩
  · rw [Nat.zero_add]
    have hlt := (List.getElem?_eq_some_iff.mp hj).1
    rw [List.length_append] at hlt
    by_cases q : j < c.2.1.length
    · rw [List.getElem?_append_left q] at hj
      rw [d1 j q]
      exact ⟨hlt, hb j b hj⟩
    · rw [List.getElem?_append_right (by omega)] at hj
      have := d2 _ b hj
      rw [show c.2.1.length + (j - c.2.1.length) = j by omega] at this
      exact ⟨hlt, this⟩
  · rw [zGK_eq zSet_eqv]
    exact zGK_same d8 hK
  · rw [zGI_eq zSet_eqv]
    exact d5
  · rw [d8.2.2]
    exact d7
theorem zCk_of {c : zCo} {q dd f wm N S : Nat} {inv : List zIv} (hB : zBase P) (hm : Nat.beq (Nat.lor wm c.2.2.2.2.2.2) c.2.2.2.2.2.2 = true) (hG : ∀ (h : aH) (M' : Nat → Nat → Int32), zOff wm h.2.2.1 h.2.2.2 M' → zKp P h.2.2.1 h.2.2.2 M' → G h → G (h.1, h.2.1, h.2.2.1, M')) (hN : ∀ h, G h → h.1 = N ∧ h.2.1 = S)
    (hcon : ∀ q c, c ∈ P.con q → zCk X P G q c) (hE : zRunE P c q dd f wm N S inv) (hL : ∀ v ∈ inv, zRunL P c q dd f wm N S inv v ∧ zTmB (c.2.1.length + v.2.2.1.length) v.2.2.2.2.2 = true) (hlv : dd + 1 ≤ c.1) : zCk X P G q c := by
  intro d ρ as h hd hb hargs hents hK hI hGh
  obtain ⟨kk, rfl⟩ : ∃ kk, d = dd + kk + 1 := ⟨d - (dd + 1), by omega⟩
  obtain ⟨n1, n2⟩ := hN h hGh
  have HV : ∀ (me : List (List zV)), zVal (zSet P inv wm c.2.2.2.2.2.2 c.2.1.length me (fun n σ _ E rv => zPostOk P c.2.1.length c.2.2.2.2.2.1 n σ E rv)) := fun me => zVal_set hB hm
  have HG : ∀ (me : List (List zV)), zHG (zSet P inv wm c.2.2.2.2.2.2 c.2.1.length me (fun n σ _ E rv => zPostOk P c.2.1.length c.2.2.2.2.2.1 n σ E rv)) G := fun me h M' _ ho hk hg => hG h M' ho hk hg
  have HC : ∀ (me : List (List zV)), ∀ q' c', c' ∈ (zSet P inv wm c.2.2.2.2.2.2 c.2.1.length me (fun n σ _ E rv => zPostOk P c.2.1.length c.2.2.2.2.2.1 n σ E rv)).con q' → zCk X (zSet P inv wm c.2.2.2.2.2.2 c.2.1.length me (fun n σ _ E rv => zPostOk P c.2.1.length c.2.2.2.2.2.1 n σ E rv)) G q' c' := fun me q' c' hc => by
    rw [zCk_eq zSet_eqv]
    exact hcon q' c' hc
  -- any state of such a run: its cells
  have HK : ∀ (me : List (List zV)) (pS : Nat) (ρ0 ρ1 : Nat → Int) (n : Nat) (σ : zS) (K : zK) (E : List zE) (h1 : aH), zGa X (zSet P inv wm c.2.2.2.2.2.2 c.2.1.length me (fun n σ _ E rv => zPostOk P c.2.1.length c.2.2.2.2.2.1 n σ E rv)) G pS h ρ0 ρ1 n σ K E h1 → zGK (zSet P inv wm c.2.2.2.2.2.2 c.2.1.length me (fun n σ _ E rv => zPostOk P c.2.1.length c.2.2.2.2.2.1 n σ E rv)) (h1.1, h1.2.1, []) h1 := by
    intro me pS ρ0 ρ1 n σ K E h1 g
    obtain ⟨-, -, e⟩ := g.2.2.2.2.1 rfl
    rw [zGK_eq zSet_eqv, e.1, e.2.1]
    exact zGK_same e hK
  have HF : ∀ (me : List (List zV)) (pS : Nat) (ρ0 : Nat → Int), c.2.1.length ≤ pS → (∀ i, i < c.2.1.length → ρ0 i = ρ i) → zHF X (zSet P inv wm c.2.2.2.2.2.2 c.2.1.length me (fun n σ _ E rv => zPostOk P c.2.1.length c.2.2.2.2.2.1 n σ E rv)) G pS h ρ0 (fun rv h' => (∃ po ∈ c.2.2.2.2.2.1, zPm P ρ c.2.1.length po rv h') ∧ zGI P h' ∧ G h' ∧ h'.1 = h.1 ∧ h'.2.1 = h.2.1 ∧ h'.2.2.1 = h.2.2.1 ∧ zOff c.2.2.2.2.2.2 h.2.2.1 h.2.2.2 h'.2.2.2) := by
    intro me pS ρ0 hpS hag n σ K E rv ρ1 h1 rvC hk hg hl
    have hk : zPostOk P c.2.1.length c.2.2.2.2.2.1 n σ E rv = true := hk
    rw [zPostOk_eq (zSet_eqv (inv := inv) (wm := wm) (md := c.2.2.2.2.2.2) (p0 := c.2.1.length) (me := me) (fin := fun n σ _ E rv => zPostOk P c.2.1.length c.2.2.2.2.2.1 n σ E rv)).symm] at hk
    obtain ⟨po, p1, p2⟩ := zPostOk_s (HV me) (HK me _ _ _ _ _ _ _ _ hg) hpS hg hl hk
    obtain ⟨f1, f2, f3⟩ := hg.2.2.2.2.1 rfl
    rw [zPm_eq zSet_eqv] at p2
    obtain ⟨r, p3, p4⟩ := p2
    refine ⟨⟨po, p1, r, fun i hi => (p3 i hi).trans (hag i hi), p4⟩, ?_, f1, f3.1, f3.2.1, f3.2.2, ?_⟩
    · have := hg.2.2.2.1
      rwa [zGI_eq zSet_eqv] at this
    · rw [← f3.2.2]
      exact f2
  -- from a loop's head
  have HL : ∀ (M : Nat) (v : zIv), v ∈ inv → ∀ (ρ' : Nat → Int) (h' : aH) (lsC : List Value), zHd P G ρ c.2.1.length c.2.2.2.2.2.2 h v ρ' h' lsC → zMe ρ' v.2.2.2.2.2 < M → ∃ l, (aMC q)[v.1]? = some l ∧ zW X (dd + kk) q v.1 l lsC [] h' (fun rv h' => (∃ po ∈ c.2.2.2.2.2.1, zPm P ρ c.2.1.length po rv h') ∧ zGI P h' ∧ G h' ∧ h'.1 = h.1 ∧ h'.2.1 = h.2.1 ∧ h'.2.2.1 = h.2.2.1 ∧ zOff c.2.2.2.2.2.2 h.2.2.1 h.2.2.2 h'.2.2.2) := by
    intro M
    induction M with
    | zero =>
      intro v hv ρ' h' lsC hd' hlt
      have := hd'.2.2.2.2.2.2.2.2
      omega
    | succ M ih =>
      intro v hv ρ' h' lsC hd' hlt
      obtain ⟨hrun, htm⟩ := hL v hv
      have htm := zTmB_s htm
      unfold zRunL at hrun
      have hrun : zBlk ((zSet P inv wm c.2.2.2.2.2.2 c.2.1.length [v.2.2.2.2.2] (fun n σ _ E rv => zPostOk P c.2.1.length c.2.2.2.2.2.1 n σ E rv)).bk q) v.1 _ = true := hrun
      obtain ⟨l, e1, hk⟩ := zBk_s (HV _) hrun
      refine ⟨l, e1, ?_⟩
      have hg := zHd_ga (X := X) (inv := inv) (wm := wm) (me := [v.2.2.2.2.2]) (fin := fun n σ _ E rv => zPostOk P c.2.1.length c.2.2.2.2.2.1 n σ E rv) hb hK hd'
      rw [n1, n2] at hg
      have HI : zHI X (zSet P inv wm c.2.2.2.2.2.2 c.2.1.length [v.2.2.2.2.2] (fun n σ _ E rv => zPostOk P c.2.1.length c.2.2.2.2.2.1 n σ E rv)) G (c.2.1.length + v.2.2.1.length) h ρ' kk dd q (fun rv h' => (∃ po ∈ c.2.2.2.2.2.1, zPm P ρ c.2.1.length po rv h') ∧ zGI P h' ∧ G h' ∧ h'.1 = h.1 ∧ h'.2.1 = h.2.1 ∧ h'.2.2.1 = h.2.2.1 ∧ zOff c.2.2.2.2.2.2 h.2.2.1 h.2.2.2 h'.2.2.2) := by
        intro w hw n σ K E ls ρ1 h1 ls1 g1 l1 k1 _
        obtain ⟨ρ2, hd2, hfall⟩ := zHead_s (r := ρ) (m := c.2.1.length) (HV _) (HK _ _ _ _ _ _ _ _ _ g1) rfl rfl (Nat.le_add_right _ _) hd'.1 g1 l1 (zTmB_s (hL w hw).2) k1
        have hlt2 := hfall _ rfl htm
        have hd3 : zHd P G ρ c.2.1.length c.2.2.2.2.2.2 h w ρ2 h1 ls1 := by
          obtain ⟨d1, d2, d3, d4, d5, d6⟩ := hd2
          rw [zGl_eq zSet_eqv] at d3
          rw [zGI_eq zSet_eqv] at d5
          exact ⟨d1, d2, d3, d4, d5, d6⟩
        exact ih w hw ρ2 h1 ls1 hd3 (by omega)
      have hls : zGl (zSet P inv wm c.2.2.2.2.2.2 c.2.1.length [v.2.2.2.2.2] (fun n σ _ E rv => zPostOk P c.2.1.length c.2.2.2.2.2.1 n σ E rv)) ρ' (c.2.1.length + v.2.2.1.length) v.2.2.2.1 lsC := by
        rw [zGl_eq zSet_eqv]
        exact hd'.2.2.1
      exact zGoX_s (HV _) (HG _) HI (HF _ _ _ (Nat.le_add_right _ _) hd'.1) (HC _) f _ _ _ _ ([], dd, q, v.1) _ _ _ hk ρ' h' [] l lsC [] hg trivial ⟨rfl, rfl⟩ rfl hls trivial
  -- from the entry
  obtain ⟨ha, hrun⟩ := hE
  obtain ⟨ha1, ha2⟩ := zAnd ha
  have ha2 := zbl ha2
  have hrun : zBlk ((zSet P inv wm c.2.2.2.2.2.2 c.2.1.length [] (fun n σ _ E rv => zPostOk P c.2.1.length c.2.2.2.2.2.1 n σ E rv)).bk q) 0 _ = true := hrun
  obtain ⟨l, e1, hk⟩ := zBk_s (HV _) hrun
  obtain ⟨fl1, fl2⟩ := zFl_s hargs ha1
  have hg : zGa X (zSet P inv wm c.2.2.2.2.2.2 c.2.1.length [] (fun n σ _ E rv => zPostOk P c.2.1.length c.2.2.2.2.2.1 n σ E rv)) G c.2.1.length h ρ ρ c.2.1.length (zSig c.2.1 0) (N, S, []) c.2.2.2.2.1 h := by
    refine ⟨zSig_s (fun j b hj => ?_), ?_, fun e he => zGp_e (hents e he), ?_, fun _ => ⟨hGh, fun a => ⟨fun _ _ _ _ => rfl, fun _ _ => rfl⟩, rfl, rfl, rfl⟩, fun _ _ => rfl, Nat.le_refl _⟩
    · rw [Nat.zero_add]
      exact ⟨(List.getElem?_eq_some_iff.mp hj).1, hb j b hj⟩
    · rw [zGK_eq zSet_eqv, ← n1, ← n2]
      exact hK
    · rw [zGI_eq zSet_eqv]
      exact hI
  have HI : zHI X (zSet P inv wm c.2.2.2.2.2.2 c.2.1.length [] (fun n σ _ E rv => zPostOk P c.2.1.length c.2.2.2.2.2.1 n σ E rv)) G c.2.1.length h ρ kk dd q (fun rv h' => (∃ po ∈ c.2.2.2.2.2.1, zPm P ρ c.2.1.length po rv h') ∧ zGI P h' ∧ G h' ∧ h'.1 = h.1 ∧ h'.2.1 = h.2.1 ∧ h'.2.2.1 = h.2.2.1 ∧ zOff c.2.2.2.2.2.2 h.2.2.1 h.2.2.2 h'.2.2.2) := by
    intro w hw n σ K E ls ρ1 h1 ls1 g1 l1 k1 _
    obtain ⟨ρ2, hd2, -⟩ := zHead_s (r := ρ) (m := c.2.1.length) (HV _) (HK _ _ _ _ _ _ _ _ _ g1) rfl rfl (Nat.le_refl _) (fun _ _ => rfl) g1 l1 (zTmB_s (hL w hw).2) k1
    have hd3 : zHd P G ρ c.2.1.length c.2.2.2.2.2.2 h w ρ2 h1 ls1 := by
      obtain ⟨d1, d2, d3, d4, d5, d6⟩ := hd2
      rw [zGl_eq zSet_eqv] at d3
      rw [zGI_eq zSet_eqv] at d5
      exact ⟨d1, d2, d3, d4, d5, d6⟩
    exact HL ((zMe ρ2 w.2.2.2.2.2).toNat + 1) w hw ρ2 h1 ls1 hd3 (by omega)
  have hent : zGl (zSet P inv wm c.2.2.2.2.2.2 c.2.1.length [] (fun n σ _ E rv => zPostOk P c.2.1.length c.2.2.2.2.2.1 n σ E rv)) ρ c.2.1.length (zEnt c.2.2.2.1 (aML q)) (aEn as (aML q)) := by
    rw [zGl_eq zSet_eqv]
    unfold zEnt aEn
    rw [zGl_len fl1]
    exact zGl_app fl1 zGl_rep
  have := zGoX_s (HV _) (HG _) HI (HF _ _ _ (Nat.le_refl _) (fun _ _ => rfl)) (HC _) f _ _ _ _ ([], dd, q, 0) _ _ _ hk ρ h [] l (aEn as (aML q)) [] hg trivial ⟨rfl, rfl⟩ rfl hent trivial
  exact zRn_of ⟨by rw [← zGl_len fl1]; exact ha2, fl2⟩ e1 this
end ZCF
/-! what is left to the library: String constants, their length and chars, java.lang.Math, rows of rows -/
def aChB (x : Int32) : Bool := decide (x &&& 255 = x) && decide ((x.toUInt32 % 65536).toInt32 = x) && decide (x.toUInt32.toUInt16.toUInt32.toInt32 = x)
theorem aChB_ok {x : Int32} (h : aChB x = true) : aChOk x := by
  unfold aChB at h
  simp only [Bool.and_eq_true, decide_eq_true_eq] at h
  exact ⟨h.1.1, h.1.2, congrArg Value.int h.2⟩
theorem aStr_ok : ∀ i, i < aStr.length → ((aStr.getD i "").length < 100 ∧ ∀ j, j < (aStr.getD i "").length → aChB (aChr (aStr.getD i "") j) = true) := by decide +kernel
theorem aInR_c {j : Int32} {n : Nat} (hn : n < 100) (h : aInR j n = true) : 0 ≤ j ∧ j < Int32.ofNat n ∧ vp_in j n ∧ j.toNatClampNeg < n := by
  have hv := aIn_in h
  have h1 : j.toNatClampNeg < n := Nat.not_le.mp fun q => hv (Or.inr q)
  unfold aInR at h
  obtain ⟨g1, g2⟩ := of_decide_eq_true h
  have hc : (Int32.ofNat n).toInt = n := Int32.toInt_ofNat_of_lt (by omega)
  refine ⟨?_, ?_, hv, h1⟩
  · rw [Int32.le_iff_toInt_le]
    exact g1
  · rw [Int32.lt_iff_toInt_lt, hc]
    exact g2
section PRIM
variable {p : Program} {l : Launch} {e : Env} {R : Room} {s : State} {m : MethodId} {args : Array Value} {below : List Frame} {meth : Method} {c : Code} {H : Heap} {locs : List Loc} {cells slots : Nat} {Q : State → Prop}
variable {cc : ByteArray} {pc len b base nL : Nat} {LS : Array Slot} {ad : Nat → Nat} {own : String} {ini : Bool} {spc : List Nat} {real : aI} {D : va_G} {cA : Nat → ClassId} {H0 : Heap} {X : aX} {h h' : aH} {ls st st' : List Value} {cal : Nat → List Value → aH → Option (Option Value × aH)}
theorem sX_str (hx : p.tables.exec = Jvm.exec) (hb : c.code = cc) (hml : c.maxLocals = nL) (hown : s.vm.findClass own = some m.cls) (hts : ∀ w ∈ aLT, w.before args s = true) (hXs : aScr X base ad s H0) (hfr : 9 ≤ R.frames) (hlo : 2000 ≤ R.locals) {k : Nat} (hk : k % 1000 = 900 ∨ k % 1000 = 901)
    (haV : aV cal (.invokevirtual k) ls st h = some (st', h')) (hok : aOk own ini spc b pc real len (.invokevirtual k) = true) (hdg : decode cc pc = .ok (real, len)) (hR : aRel D cA base H0 H locs ad h) (hL : lvR LS nL ad ls) (hcells : cells + (h'.1 - h.1) ≤ R.cells) (hslots : slots + (h'.2.1 - h.2.1) ≤ R.slots)
    (kk : ∀ ad' H' locs', aAgr h.1 h'.1 ad ad' → aRel D cA base H0 H' locs' ad' h' → lvR LS nL ad' ls → W p l e R s m args below meth c H' locs' (cells + (h'.1 - h.1)) (slots + (h'.2.1 - h.2.1)) Q (F0 m (pc + len) LS (st'.map (aCv ad')))) : W p l e R s m args below meth c H locs cells slots Q (F0 m pc LS (st.map (aCv ad))) := by
  have hts2 : ∀ w ∈ aGL, w.before args s = true := fun w hw => hts w (aGL_LT hw)
  obtain ⟨hS1, -, hLb, -⟩ := hXs.2.2.2
  simp only [aOk] at hok
  split at hok
  · rename_i idx
    simp only [Bool.and_eq_true, decide_eq_true_eq] at hok
    obtain ⟨rfl, hw⟩ := hok
    rcases hk with hk | hk
    · simp only [aV, if_pos hk] at haV
      rw [if_pos hk] at hw
      have hw := of_decide_eq_true hw
      split at haV
      · rename_i a t
        split at haV
        · rename_i ha
          cases haV
          obtain ⟨a1, a2, a3⟩ := ha
          have a1 : (90001 : Nat) ≤ (a : Nat) := a1
          obtain ⟨i, rfl⟩ : ∃ i : Nat, a = 90001 + i := ⟨a - 90001, (Nat.add_sub_cancel' a1).symm⟩
          have hi : i < aStr.length := Nat.lt_of_add_lt_add_left a2
          rw [Nat.sub_self, Nat.sub_self, Nat.add_zero, Nat.add_zero] at kk
          rw [Nat.sub_self, Nat.add_zero] at hcells hslots
          have k2 := kk ad H locs aAgr.rf hR hL
          rw [Nat.add_sub_cancel_left] at k2
          have h8 : ((t.map (aCv ad)).map fun v => v.category).sum ≤ 8 := by rw [aCat_map]; exact a3
          exact aCalV (cc := cc) (nL := nL) (own := own) (As := []) (rest := t.map (aCv ad)) (a := ad (90001 + i)) (v := some (.int (Int32.ofNat (aStr.getD i "").length))) (k := 2) (n := 0) (idx := idx) (P := aPS (fun q => base ≤ q) (ad (90001 + i)) (aStr.getD i "")) (l := l) (y := aySt "length" "()I") (bs := prog_17_method_54_code) (ml := 1) (ret := some .int) hx hb hml hown hts2 aLe_met (aGs (by decide +kernel) rfl) (aGs (List.mem_of_getElem? hw) rfl) (aGs (by decide +kernel) rfl) (aGs (by decide +kernel) rfl) (aGs (by decide +kernel) rfl) (by decide +kernel) (by unfold aRk; dsimp only; omega) aPS_blind (aRecS (hS1 i hi) hR.2.2.1) (fun _ h1 h2 => aPS.at (hS1 i hi) hLb hR.2.2.1 h1 h2) rfl hL.1 h8 hdg ⟨hcells, hslots⟩ k2
        · cases haV
      · cases haV
    · have hk0 : ¬ k % 1000 = 900 := by omega
      simp only [aV, if_neg hk0, if_pos hk] at haV
      rw [if_neg hk0, if_pos hk] at hw
      have hw := of_decide_eq_true hw
      split at haV
      · rename_i j a t
        split at haV
        · rename_i ha
          cases haV
          obtain ⟨a1, a2, hin, hc8⟩ := ha
          have a1 : (90001 : Nat) ≤ (a : Nat) := a1
          obtain ⟨i, rfl⟩ : ∃ i : Nat, a = 90001 + i := ⟨a - 90001, (Nat.add_sub_cancel' a1).symm⟩
          have hi : i < aStr.length := Nat.lt_of_add_lt_add_left a2
          rw [Nat.add_sub_cancel_left] at hin
          rw [Nat.sub_self, Nat.sub_self, Nat.add_zero, Nat.add_zero] at kk
          rw [Nat.sub_self, Nat.add_zero] at hcells hslots
          have k2 := kk ad H locs aAgr.rf hR hL
          rw [Nat.add_sub_cancel_left] at k2
          have h8 : ((t.map (aCv ad)).map fun v => v.category).sum ≤ 8 := by rw [aCat_map]; exact hc8
          obtain ⟨o1, o2⟩ := aStr_ok i hi
          obtain ⟨j1, j2, j3, j4⟩ := aInR_c o1 hin
          exact aCalV (cc := cc) (nL := nL) (own := own) (As := [.int j]) (rest := t.map (aCv ad)) (a := ad (90001 + i)) (v := some (.int (aChr (aStr.getD i "") j.toNatClampNeg))) (k := 4) (n := 1) (idx := idx) (P := aPS (fun q => base ≤ q) (ad (90001 + i)) (aStr.getD i "")) (l := l) (y := aySt "charAt" "(I)C") (bs := prog_17_method_56_code) (ml := 2) (ret := some .char) hx hb hml hown hts2 (aCa_met j1 j2 j3 (aChB_ok (o2 _ j4))) (aGs (by decide +kernel) rfl) (aGs (List.mem_of_getElem? hw) rfl) (aGs (by decide +kernel) rfl) (aGs (by decide +kernel) rfl) (aGs (by decide +kernel) rfl) (by decide +kernel) (by unfold aRk; dsimp only; omega) aPS_blind (aRecS (hS1 i hi) hR.2.2.1) (fun _ h1 h2 => aPS.at (hS1 i hi) hLb hR.2.2.1 h1 h2) rfl hL.1 h8 hdg ⟨hcells, hslots⟩ k2
        · cases haV
      · cases haV
  · cases hok
theorem sX_math (hx : p.tables.exec = Jvm.exec) (hb : c.code = cc) (hml : c.maxLocals = nL) (hown : s.vm.findClass own = some m.cls) (hts : ∀ w ∈ aLT, w.before args s = true) (hfr : 9 ≤ R.frames) (hlo : 2000 ≤ R.locals) {k : Nat} (hk : 904 ≤ k % 1000 ∧ k % 1000 < 909)
    (haV : aV cal (.invokestatic k) ls st h = some (st', h')) (hok : aOk own ini spc b pc real len (.invokestatic k) = true) (hdg : decode cc pc = .ok (real, len)) (hR : aRel D cA base H0 H locs ad h) (hL : lvR LS nL ad ls) (hcells : cells + (h'.1 - h.1) ≤ R.cells) (hslots : slots + (h'.2.1 - h.2.1) ≤ R.slots)
    (kk : ∀ ad' H' locs', aAgr h.1 h'.1 ad ad' → aRel D cA base H0 H' locs' ad' h' → lvR LS nL ad' ls → W p l e R s m args below meth c H' locs' (cells + (h'.1 - h.1)) (slots + (h'.2.1 - h.2.1)) Q (F0 m (pc + len) LS (st'.map (aCv ad')))) : W p l e R s m args below meth c H locs cells slots Q (F0 m pc LS (st.map (aCv ad))) := by
  have hts2 : ∀ w ∈ aGL, w.before args s = true := fun w hw => hts w (aGL_LT hw)
  have hsz : c.maxLocals = LS.size := hml.trans hL.1.symm
  simp only [aOk] at hok
  split at hok
  · rename_i idx
    simp only [Bool.and_eq_true, decide_eq_true_eq] at hok
    obtain ⟨rfl, hw⟩ := hok
    rw [if_neg (by omega), if_pos hk] at hw
    have hw := of_decide_eq_true hw
    simp only [aV] at haV
    rw [if_neg (by omega), if_pos hk] at haV
    unfold aMath at haV
    split at haV
    · rename_i x t hkk
      split at haV
      · rename_i h8
        cases haV
        rw [hkk] at hw
        rw [Nat.sub_self, Nat.sub_self, Nat.add_zero, Nat.add_zero] at kk
        rw [Nat.sub_self, Nat.add_zero] at hcells hslots
        have k2 := kk ad H locs aAgr.rf hR hL
        have h9 : ((t.map (aCv ad)).map fun v => v.category).sum ≤ 8 := by rw [aCat_map]; exact h8
        exact va_mabs hx hb hsz hown (hts _ (aUs (List.mem_of_getElem? hw) rfl)) (hts _ (aUs (by decide +kernel) rfl)) (hts _ (aUs (by decide +kernel) rfl)) (hts _ (aUs (by decide +kernel) rfl)) (by omega) (by omega) hcells hslots hdg k2
      · cases haV
    · rename_i y x t hkk
      split at haV
      · rename_i h8
        cases haV
        rw [hkk] at hw
        rw [Nat.sub_self, Nat.sub_self, Nat.add_zero, Nat.add_zero] at kk
        rw [Nat.sub_self, Nat.add_zero] at hcells hslots
        have k2 := kk ad H locs aAgr.rf hR hL
        have h9 : ((t.map (aCv ad)).map fun v => v.category).sum ≤ 8 := by rw [aCat_map]; exact h8.2
        exact aCalS (cc := cc) (nL := nL) (own := own) (As := [.int x, .int y]) (rest := t.map (aCv ad)) (v := some (.int (aFloor x y))) (k := 1) (n := 2) (idx := idx) (P := fun _ => True) (l := l) (y := ayFd) (bs := prog_16_method_47_code) (ml := 3) (ret := some .int) hx hb hml hown hts2 (aFd_met h8.1) (aGs (by decide +kernel) rfl) (aGs (List.mem_of_getElem? hw) rfl) (aGs (by decide +kernel) rfl) (aGs (by decide +kernel) rfl) (by decide +kernel) (by unfold aRk; dsimp only; omega) (fun a U g mk q => ⟨q.1, trivial⟩) (fun _ _ _ => trivial) rfl hL.1 h9 hdg ⟨hcells, hslots⟩ k2
      · cases haV
    · rename_i y x t hkk
      split at haV
      · rename_i h8
        cases haV
        rw [hkk] at hw
        rw [Nat.sub_self, Nat.sub_self, Nat.add_zero, Nat.add_zero] at kk
        rw [Nat.sub_self, Nat.add_zero] at hcells hslots
        have k2 := kk ad H locs aAgr.rf hR hL
        have h9 : ((t.map (aCv ad)).map fun v => v.category).sum ≤ 8 := by rw [aCat_map]; exact h8
        exact va_mmax_long hx hb hsz hown (hts _ (aUs (List.mem_of_getElem? hw) rfl)) (hts _ (aUs (by decide +kernel) rfl)) (hts _ (aUs (by decide +kernel) rfl)) (hts _ (aUs (by decide +kernel) rfl)) (by omega) (by omega) hcells hslots hdg k2
      · cases haV
    · rename_i y x t hkk
      split at haV
      · rename_i h8
        cases haV
        rw [hkk] at hw
        rw [Nat.sub_self, Nat.sub_self, Nat.add_zero, Nat.add_zero] at kk
        rw [Nat.sub_self, Nat.add_zero] at hcells hslots
        have k2 := kk ad H locs aAgr.rf hR hL
        have h9 : ((t.map (aCv ad)).map fun v => v.category).sum ≤ 8 := by rw [aCat_map]; exact h8
        exact va_mmin hx hb hsz hown (hts _ (aUs (List.mem_of_getElem? hw) rfl)) (hts _ (aUs (by decide +kernel) rfl)) (hts _ (aUs (by decide +kernel) rfl)) (hts _ (aUs (by decide +kernel) rfl)) (by omega) (by omega) hcells hslots hdg k2
      · cases haV
    · rename_i y x t hkk
      split at haV
      · rename_i h8
        cases haV
        rw [hkk] at hw
        rw [Nat.sub_self, Nat.sub_self, Nat.add_zero, Nat.add_zero] at kk
        rw [Nat.sub_self, Nat.add_zero] at hcells hslots
        have k2 := kk ad H locs aAgr.rf hR hL
        have h9 : ((t.map (aCv ad)).map fun v => v.category).sum ≤ 8 := by rw [aCat_map]; exact h8
        exact va_mmin_long hx hb hsz hown (hts _ (aUs (List.mem_of_getElem? hw) rfl)) (hts _ (aUs (by decide +kernel) rfl)) (hts _ (aUs (by decide +kernel) rfl)) (hts _ (aUs (by decide +kernel) rfl)) (by omega) (by omega) hcells hslots hdg k2
      · cases haV
    · cases haV
  · cases hok
end PRIM
/-! rows of rows; aPrim -/
theorem aInRb {x : Int32} {n : Nat} (h : aInR x n = true) : ¬ x < 0 ∧ x.toNatClampNeg < n := by
  have hv := aIn_in h
  exact ⟨fun q => hv (Or.inl q), Nat.not_le.mp fun q => hv (Or.inr q)⟩
theorem aA_mna (k : Nat) (ls st : List Value) (h : aH) : aA (.multianewarray k 2) ls st h = if (ls ++ st).all (aOkv h.1) && decide (h.1 < 80000) then (match st with
    | .int y :: .int x :: t => if aInR x 1001 && aInR y 100001 then some (.ref h.1 :: t, aNew h (1 + x.toNatClampNeg) (x.toNatClampNeg + x.toNatClampNeg * y.toNatClampNeg)
        (fun b => if b = h.1 then (105, x.toNatClampNeg, fun j => if j < x.toNatClampNeg then some (h.1 + 1 + j) else none) else (100, y.toNatClampNeg, fun _ => none))) else none
    | _ => none) else none := rfl
section PRI2
variable {p : Program} {l : Launch} {e : Env} {R : Room} {s : State} {m : MethodId} {args : Array Value} {below : List Frame} {meth : Method} {c : Code} {H : Heap} {locs : List Loc} {cells slots : Nat} {Q : State → Prop}
variable {cc : ByteArray} {pc len b base nL : Nat} {LS : Array Slot} {ad : Nat → Nat} {own : String} {ini : Bool} {spc : List Nat} {real : aI} {D : va_G} {cA : Nat → ClassId} {H0 : Heap} {X : aX} {h h' : aH} {ls st st' : List Value} {cal : Nat → List Value → aH → Option (Option Value × aH)}
theorem sX_mna (hx : p.tables.exec = Jvm.exec) (hb : c.code = cc) (hown : s.vm.findClass own = some m.cls) (hts : ∀ w ∈ aLT, w.before args s = true) (hK : va_K D vwCl (aTyL cA) s) (hXs : aScr X base ad s H0) (hbase : base ≤ H0.size) {k n : Nat}
    (haA : aA (.multianewarray k n) ls st h = some (st', h')) (hok : aOk own ini spc b pc real len (.multianewarray k n) = true) (hdg : decode cc pc = .ok (real, len)) (hR : aRel D cA base H0 H locs ad h) (hL : lvR LS nL ad ls) (hcells : cells + (h'.1 - h.1) ≤ R.cells) (hslots : slots + (h'.2.1 - h.2.1) ≤ R.slots)
    (kk : ∀ ad' H' locs', aAgr h.1 h'.1 ad ad' → aRel D cA base H0 H' locs' ad' h' → lvR LS nL ad' ls → W p l e R s m args below meth c H' locs' (cells + (h'.1 - h.1)) (slots + (h'.2.1 - h.2.1)) Q (F0 m (pc + len) LS (st'.map (aCv ad')))) : W p l e R s m args below meth c H locs cells slots Q (F0 m pc LS (st.map (aCv ad))) := by
  simp only [aOk] at hok
  split at hok
  · rename_i idx n'
    simp only [Bool.and_eq_true, decide_eq_true_eq] at hok
    obtain ⟨⟨⟨rfl, rfl⟩, rfl⟩, hw⟩ := hok
    rw [aA_mna] at haA
    split at haA
    · rename_i hg
      simp only [Bool.and_eq_true, decide_eq_true_eq] at hg
      obtain ⟨hg, h8⟩ := hg
      split at haA
      · rename_i y x rest
        split at haA
        · rename_i hin
          rw [Bool.and_eq_true] at hin
          obtain ⟨hin1, hin2⟩ := hin
          cases haA
          obtain ⟨hx0, hx1⟩ := aInRb hin1
          obtain ⟨hy0, hy1⟩ := aInRb hin2
          generalize hN : x.toNatClampNeg = N at *
          generalize hM : y.toNatClampNeg = M at *
          have e1 : ∀ f, (aNew h (1 + N) (N + N * M) f).1 - h.1 = 1 + N := fun f => Nat.add_sub_cancel_left _ _
          have e2 : ∀ f, (aNew h (1 + N) (N + N * M) f).2.1 - h.2.1 = N + N * M := fun f => Nat.add_sub_cancel_left _ _
          rw [e1] at hcells
          rw [e2] at hslots
          obtain ⟨g1, g2⟩ := hK.2 0 _ (aTyL_at (by omega))
          have hcy : s.vm.findClass (FieldType.array .int).toString = some (cA 0) := g2
          have hP0 : va_P D vwCl (aW cA ad h ++ va_pl [] (fun _ => .inl (0, 0, .inl (fun _ => 0)))) H := by
            show va_P D vwCl (aW cA ad h ++ []) H
            rw [List.append_nil]
            exact hR.1
          have hD0 : va_D (fun q => base ≤ q) (aW cA ad h ++ va_pl [] (fun _ => .inl (0, 0, .inl (fun _ => 0)))) := by
            show va_D _ (aW cA ad h ++ [])
            rw [List.append_nil]
            exact hR.2.1
          refine va_mna (cc := cc) (own := own) (index := idx) (ty := .int) (cy := cA 0) (z := (M, .inl (fun _ => 0))) hx hb hown (hts _ (aUs (List.mem_of_getElem? hw) rfl)) hXs.2.2.2.2.2.2 (hts _ aArr_in.1) hcy hK hP0 hD0 hR.2.2.1 (fun q hq => Nat.le_trans hbase hq) hx0 hy0 hN hM (by omega) (by show M * 4 ≤ _; omega) (by omega) rfl rfl (by omega) (by omega) (fun c => by rw [vp_cell_i]; exact (arrV_new _ _ _)) hdg (fun q r c' H1 hinj hnl hK1 hP1 hD1 hS1 => ?_)
          have ec := aCA (t := 5) hK (by omega) hK1
          subst ec
          rw [Nat.add_assoc, Nat.add_assoc]
          have hws : ([(q, .inl (cA 5, N, .inr (.inr (.inr (.inr (fun i => if i < N then some (r i) else none))))))] : va_W) ++ va_pl ([] ++ (List.range N).map r) (vr_up (fun _ => .inl (0, 0, .inl (fun _ => 0))) ((List.range N).map r) (.inl (cA 0, M, .inl (fun _ => 0))))
              = (List.range (1 + N)).map (fun k => ((fun i => if i = 0 then q else r (i - 1)) k, aElF cA (aNad ad h.1 (1 + N) (fun i => if i = 0 then q else r (i - 1))) ((fun b => if b = h.1 then ((105, N, fun j => if j < N then some (h.1 + 1 + j) else none) : aK) else (100, M, fun _ => none)) (h.1 + k)) (fun _ => 0))) := by
            rw [Nat.add_comm 1 N, List.range_succ_eq_map, List.map_cons, List.map_map, List.nil_append]
            unfold va_pl
            rw [List.map_map, List.singleton_append]
            refine congr (congrArg List.cons ?_) ?_
            · dsimp only
              rw [if_pos rfl, if_pos (Nat.add_zero h.1), aElF_ref (t := 5) rfl (by omega)]
              refine congrArg (fun z => (q, (Sum.inl (cA 5, N, Sum.inr (Sum.inr (Sum.inr (Sum.inr z)))) : va_E))) ?_
              funext j
              dsimp only
              by_cases hj : j < N
              · rw [if_pos hj, if_pos hj]
                show some (r j) = some (aNad ad h.1 (N + 1) _ (h.1 + 1 + j))
                rw [show h.1 + 1 + j = h.1 + (1 + j) by omega, aNad_new (by omega), if_neg (by omega), Nat.add_sub_cancel_left]
              · rw [if_neg hj, if_neg hj]
                rfl
            · apply List.map_congr_left
              intro i hi
              have hi := List.mem_range.mp hi
              dsimp only [Function.comp]
              rw [if_neg (Nat.succ_ne_zero i), if_neg (show ¬ h.1 + Nat.succ i = h.1 by omega), aElF_num (t := 0) rfl (by omega), vr_up_in (List.mem_map.mpr ⟨i, List.mem_range.mpr hi, rfl⟩)]
              rfl
          rw [List.append_assoc, hws] at hP1 hD1
          have k2 := aNew_k (qs := fun i => if i = 0 then q else r (i - 1)) (n := 1 + N) (sl := N + N * M) (f := fun b => if b = h.1 then ((105, N, fun j => if j < N then some (h.1 + 1 + j) else none) : aK) else (100, M, fun _ => none)) (rest := rest) (by omega) hR hL (List.all_eq_true.mpr (fun v hv => List.all_eq_true.mp hg v (by
            rcases List.mem_append.mp hv with hv | hv
            · exact List.mem_append_left _ hv
            · exact List.mem_append_right _ (List.mem_cons_of_mem _ (List.mem_cons_of_mem _ hv))))) rfl (fun k hk j r' hr' => ?_) hP1 hD1 hS1 kk (by omega)
          · exact k2
          · try dsimp only at hr'
            split at hr'
            · try dsimp only at hr'
              split at hr'
              · cases hr'
                omega
              · cases hr'
            · cases hr'
        · cases haA
      · cases haA
    · cases haA
  · cases hok
end PRI2
theorem aPrim_ok (l : Launch) (D : va_G) (cA : Nat → ClassId) (base : Nat) (X : aX) : aPrim l D cA base X := by
  intro p e R s m args below meth c H locs cells slots Q cc pc len b nL LS ad own ini spc real H0 h h' ls st st' i cal hx hb hml hown hts hN hK hXs hbase hfr hlo hcase hok hdg hR hL hcells hslots kk
  rcases hcase with ⟨⟨k, rfl⟩, haP, rfl⟩ | ⟨⟨k, n, rfl⟩, haA⟩ | ⟨⟨k, rfl, hk⟩, haV⟩ | ⟨⟨k, rfl, hk⟩, haV⟩
  · simp only [aOk] at hok
    split at hok
    · rename_i idx
      simp only [Bool.and_eq_true, decide_eq_true_eq] at hok
      obtain ⟨⟨rfl, hw⟩, hlt⟩ := hok
      cases haP
      rw [Nat.sub_self, Nat.sub_self, Nat.add_zero, Nat.add_zero] at kk
      exact va_ldcS hx hb hown (hXs.2.2.2.2.1 own idx (k % 100) hlt (List.mem_of_getElem? hw)) hdg (kk ad H locs aAgr.rf hR hL)
    · cases hok
  · exact sX_mna hx hb hown hts hK hXs hbase haA hok hdg hR hL hcells hslots kk
  · exact sX_str hx hb hml hown hts hXs hfr hlo hk haV hok hdg hR hL hcells hslots kk
  · exact sX_math hx hb hml hown hts hfr hlo hk haV hok hdg hR hL hcells hslots kk
