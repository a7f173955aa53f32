/-! a contract holds where the runs from its entry and from its loops' heads do -/
def zBase (P : zP) : Prop := (∀ y, P.bk y = (aMC y).map zEnB) ∧ (∀ s b f, 700 ≤ s → s < 1000 → b ∈ P.ps s → f < 128 → b < 700 ∧ (P.zI (s * 128 + f)).1 ≤ (P.zI (b * 128 + f)).1 ∧ (P.zI (b * 128 + f)).2 ≤ (P.zI (s * 128 + f)).2) ∧ ((P.zI 11520001).1 ≤ zMn 0 ∧ zMx 0 ≤ (P.zI 11520001).2) ∧ (∀ s b, b ∈ P.ps s → 700 ≤ s ∧ s < 1000)
section ZCF
variable {X : aX} {P : zP} {G : aH → Prop} {pS kk dt yt : Nat} {h0 h h' : aH} {ρ0 ρ ρ' : Nat → Int} {n n' : Nat} {σ : zS} {K : zK} {E E' : List zE} {v u : zV} {ls st : List zV} {lsC stC : List Value} {Q : Option Value → aH → Prop} {th : List zV} {r : Nat → Int}
theorem zVal_set {inv : List zIv} {wm md p0 : Nat} {me : List (List zV)} {fin : Nat → zS → zK → List zE → List zV → Bool} (hB : zBase P) (hm : Nat.beq (Nat.lor wm md) md = true) : zVal (zSet P inv wm md p0 me fin) :=
  ⟨hB.1, hB.2.1, hB.2.2.1, fun p hp => zBit_sub hm p hp, fun al => (by cases al), hB.2.2.2⟩
theorem zPostOk_s {p0 : Nat} {posts : List zPo} {rv : List zV} {rvC : Option Value} (hV : zVal P) (hKe : zGK P (h.1, h.2.1, []) h) (hp : p0 ≤ pS) (hg : zGa X P G pS h0 ρ0 ρ n σ K E h) (hl : zGl P ρ n rv rvC.toList) (hk : zPostOk P p0 posts n σ E rv = true) : ∃ po ∈ posts, zPm P ρ0 p0 po rvC h := by
  induction posts with
  | nil => cases hk
  | cons po q ih =>
    unfold zPostOk at hk
    rcases zOr hk with hk | hk
    · refine ⟨po, List.mem_cons_self, ?_⟩
      have hpn : p0 ≤ n := Nat.le_trans hp hg.2.2.2.2.2.2
      obtain ⟨n1, σ1, E1, ρ1, th, r, hk, l1, r1, g1, t1, e1, len1, b1⟩ := zFind_s hKe hg hl (zIds_th hpn) hk
      rw [zIds_len] at e1 len1 b1
      unfold zPost1 at hk
      obtain ⟨k1, hk⟩ := zAnd hk
      obtain ⟨k2, k3⟩ := zAnd hk
      have a1 := zHold_s g1.1 t1 k1
      have a2 := zFitL_s hV g1.1 t1 (hl.mono l1 r1) k2
      have a3 := zFitE_s hV hKe g1 t1 k3
      rw [len1] at a1 a2 a3
      exact ⟨r, fun i hi => (e1 i hi).trans (hg.2.2.2.2.2.1 i (by omega)), b1, a1, a2, a3⟩
    · obtain ⟨po', h1, h2⟩ := ih hk
      exact ⟨po', List.mem_cons_of_mem _ h1, h2⟩
theorem zMe_agree {us : List zV} (ht : zTm n us) (hr : ∀ i, i < n → ρ' i = ρ i) : zMe ρ' us = zMe ρ us := by
  induction us with
  | nil => rfl
  | cons u q ih =>
    obtain ⟨-, t2⟩ := ht u List.mem_cons_self
    show (u.2.1 + u.2.2.1 * ρ' u.2.2.2) + zMe ρ' q = (u.2.1 + u.2.2.1 * ρ u.2.2.2) + zMe ρ q
    rw [ih (fun u hu => ht u (List.mem_cons_of_mem _ hu))]
    rcases t2 with t2 | t2
    · rw [t2]
      omega
    · rw [hr _ t2]
/-- a loop's head is met -/
def zHd (P : zP) (G : aH → Prop) (ρ : Nat → Int) (m md : Nat) (h : aH) (v : zIv) (ρ' : Nat → Int) (h' : aH) (lsC : List Value) : Prop :=
  (∀ i, i < m → ρ' i = ρ i) ∧ (∀ i b, v.2.2.1[i]? = some b → b.1 ≤ ρ' (m + i) ∧ ρ' (m + i) ≤ b.2) ∧ zGl P ρ' (m + v.2.2.1.length) v.2.2.2.1 lsC ∧ (∀ e ∈ v.2.2.2.2.1, zGp ρ' (m + v.2.2.1.length) h' e) ∧ zGI P h' ∧ G h' ∧ zOff md h.2.2.1 h.2.2.2 h'.2.2.2 ∧ (h'.1 = h.1 ∧ h'.2.1 = h.2.1 ∧ h'.2.2.1 = h.2.2.1) ∧ 0 ≤ zMe ρ' v.2.2.2.2.2
/-- at a head, by a run -/
theorem zHead_s {v : zIv} {m : Nat} (hV : zVal P) (hKe : zGK P (h.1, h.2.1, []) h) (al : P.al = false) (hm : m = P.p0) (hpS : m ≤ pS) (hr0 : ∀ i, i < m → ρ0 i = r i) (hg : zGa X P G pS h0 ρ0 ρ n σ K E h) (hl : zGl P ρ n ls lsC) (htm : zTm (m + v.2.2.1.length) v.2.2.2.2.2) (hk : zHead P v n σ E ls = true) :
    ∃ ρ', zHd P G r m P.md h0 v ρ' h lsC ∧ ∀ vs, P.me = [vs] → zTm pS vs → zMe ρ' v.2.2.2.2.2 < zMe ρ0 vs := by
  subst hm
  unfold zHead at hk
  have hpn : P.p0 ≤ n := Nat.le_trans hpS hg.2.2.2.2.2.2
  obtain ⟨n1, σ1, E1, ρ1, th, r1, hk, l1, q1, g1, t1, e1, len1, b1⟩ := zFind_s hKe hg hl (zIds_th hpn) hk
  rw [zIds_len] at e1 len1 b1
  unfold zHeadF at hk
  obtain ⟨k1, hk⟩ := zAnd hk
  obtain ⟨k2, hk⟩ := zAnd hk
  unfold zFall at hk
  obtain ⟨k3, k4⟩ := zAnd hk
  have a2 := zFitL_s hV g1.1 t1 (hl.mono l1 q1) k1
  have a3 := zFitE_s hV hKe g1 t1 k2
  rw [len1] at a2 a3
  obtain ⟨m1, m2⟩ := zMe_map t1 (by rw [len1]; exact htm)
  obtain ⟨lo, c1, c2⟩ := zLowS_s (Z := 0) g1.1 m1 (by rw [z0_eq]; omega) k3
  have c2 := zl c2
  rw [z0_eq] at c2
  obtain ⟨f1, f2, f3⟩ := g1.2.2.2.2.1 al
  refine ⟨r1, ⟨fun i hi => ((e1 i hi).trans (hg.2.2.2.2.2.1 i (by omega))).trans (hr0 i hi), b1, a2, a3, g1.2.2.2.1, f1, ?_, f3, by omega⟩, fun vs hvs htv => ?_⟩
  · rw [← f3.2.2]
    exact f2
  · rw [hvs] at k4
    have k4 : zDiffS σ1 (v.2.2.2.2.2.map (zSubst th)) vs z0 (fun d => zle d (Int.negSucc 0)) = true := k4
    have hpn1 : pS ≤ n1 := g1.2.2.2.2.2.2
    have htv1 : zTm n1 vs := fun u hu => ⟨(htv u hu).1, (htv u hu).2.imp id (fun z => by omega)⟩
    obtain ⟨d, d1, d2⟩ := zDiffS_s (Z := 0) g1.1 m1 htv1 (by rw [z0_eq]; omega) k4
    have d2 := zl d2
    rw [show Int.negSucc 0 = -1 from rfl] at d2
    have e9 : zMe ρ1 vs = zMe ρ0 vs := zMe_agree htv (fun i hi => g1.2.2.2.2.2.1 i hi)
    omega
/-- the state that a head's template tells -/
theorem zHd_ga {v : zIv} {c : zCo} {fin : Nat → zS → zK → List zE → List zV → Bool} {inv : List zIv} {wm : Nat} {me : List (List zV)} (hb : ∀ i b, c.2.1[i]? = some b → b.1 ≤ ρ i ∧ ρ i ≤ b.2) (hK : zGK P (h.1, h.2.1, []) h) (hd : zHd P G ρ c.2.1.length c.2.2.2.2.2.2 h v ρ' h' lsC) :
    zGa X (zSet P inv wm c.2.2.2.2.2.2 c.2.1.length me fin) G (c.2.1.length + v.2.2.1.length) h ρ' ρ' (c.2.1.length + v.2.2.1.length) (zSig (c.2.1 ++ v.2.2.1) 0) (h.1, h.2.1, []) v.2.2.2.2.1 h' := by
  obtain ⟨d1, d2, d3, d4, d5, d6, d7, d8, d9⟩ := hd
  refine ⟨zSig_s (fun j b hj => ?_), ?_, fun e he => zGp_e (d4 e he), ?_, fun _ => ⟨d6, ?_, d8⟩, fun _ _ => rfl, Nat.le_refl _⟩
  · rw [Nat.zero_add]
    have hlt := (List.getElem?_eq_some_iff.mp hj).1
    rw [List.length_append] at hlt
    by_cases q : j < c.2.1.length
    · rw [List.getElem?_append_left q] at hj
      rw [d1 j q]
      exact ⟨hlt, hb j b hj⟩
    · rw [List.getElem?_append_right (by omega)] at hj
      have := d2 _ b hj
      rw [show c.2.1.length + (j - c.2.1.length) = j by omega] at this
      exact ⟨hlt, this⟩
  · rw [zGK_eq zSet_eqv]
    exact zGK_same d8 hK
  · rw [zGI_eq zSet_eqv]
    exact d5
  · rw [d8.2.2]
    exact d7
theorem zCk_of {c : zCo} {q dd f wm N S : Nat} {inv : List zIv} (hB : zBase P) (hm : Nat.beq (Nat.lor wm c.2.2.2.2.2.2) c.2.2.2.2.2.2 = true) (hG : ∀ (h : aH) (M' : Nat → Nat → Int32), zOff wm h.2.2.1 h.2.2.2 M' → zKp P h.2.2.1 h.2.2.2 M' → G h → G (h.1, h.2.1, h.2.2.1, M')) (hN : ∀ h, G h → h.1 = N ∧ h.2.1 = S)
    (hcon : ∀ q c, c ∈ P.con q → zCk X P G q c) (hE : zRunE P c q dd f wm N S inv) (hL : ∀ v ∈ inv, zRunL P c q dd f wm N S inv v ∧ zTmB (c.2.1.length + v.2.2.1.length) v.2.2.2.2.2 = true) (hlv : dd + 1 ≤ c.1) : zCk X P G q c := by
  intro d ρ as h hd hb hargs hents hK hI hGh
  obtain ⟨kk, rfl⟩ : ∃ kk, d = dd + kk + 1 := ⟨d - (dd + 1), by omega⟩
  obtain ⟨n1, n2⟩ := hN h hGh
  have HV : ∀ (me : List (List zV)), zVal (zSet P inv wm c.2.2.2.2.2.2 c.2.1.length me (fun n σ _ E rv => zPostOk P c.2.1.length c.2.2.2.2.2.1 n σ E rv)) := fun me => zVal_set hB hm
  have HG : ∀ (me : List (List zV)), zHG (zSet P inv wm c.2.2.2.2.2.2 c.2.1.length me (fun n σ _ E rv => zPostOk P c.2.1.length c.2.2.2.2.2.1 n σ E rv)) G := fun me h M' _ ho hk hg => hG h M' ho hk hg
  have HC : ∀ (me : List (List zV)), ∀ q' c', c' ∈ (zSet P inv wm c.2.2.2.2.2.2 c.2.1.length me (fun n σ _ E rv => zPostOk P c.2.1.length c.2.2.2.2.2.1 n σ E rv)).con q' → zCk X (zSet P inv wm c.2.2.2.2.2.2 c.2.1.length me (fun n σ _ E rv => zPostOk P c.2.1.length c.2.2.2.2.2.1 n σ E rv)) G q' c' := fun me q' c' hc => by
    rw [zCk_eq zSet_eqv]
    exact hcon q' c' hc
  -- any state of such a run: its cells
  have HK : ∀ (me : List (List zV)) (pS : Nat) (ρ0 ρ1 : Nat → Int) (n : Nat) (σ : zS) (K : zK) (E : List zE) (h1 : aH), zGa X (zSet P inv wm c.2.2.2.2.2.2 c.2.1.length me (fun n σ _ E rv => zPostOk P c.2.1.length c.2.2.2.2.2.1 n σ E rv)) G pS h ρ0 ρ1 n σ K E h1 → zGK (zSet P inv wm c.2.2.2.2.2.2 c.2.1.length me (fun n σ _ E rv => zPostOk P c.2.1.length c.2.2.2.2.2.1 n σ E rv)) (h1.1, h1.2.1, []) h1 := by
    intro me pS ρ0 ρ1 n σ K E h1 g
    obtain ⟨-, -, e⟩ := g.2.2.2.2.1 rfl
    rw [zGK_eq zSet_eqv, e.1, e.2.1]
    exact zGK_same e hK
  have HF : ∀ (me : List (List zV)) (pS : Nat) (ρ0 : Nat → Int), c.2.1.length ≤ pS → (∀ i, i < c.2.1.length → ρ0 i = ρ i) → zHF X (zSet P inv wm c.2.2.2.2.2.2 c.2.1.length me (fun n σ _ E rv => zPostOk P c.2.1.length c.2.2.2.2.2.1 n σ E rv)) G pS h ρ0 (fun rv h' => (∃ po ∈ c.2.2.2.2.2.1, zPm P ρ c.2.1.length po rv h') ∧ zGI P h' ∧ G h' ∧ h'.1 = h.1 ∧ h'.2.1 = h.2.1 ∧ h'.2.2.1 = h.2.2.1 ∧ zOff c.2.2.2.2.2.2 h.2.2.1 h.2.2.2 h'.2.2.2) := by
    intro me pS ρ0 hpS hag n σ K E rv ρ1 h1 rvC hk hg hl
    have hk : zPostOk P c.2.1.length c.2.2.2.2.2.1 n σ E rv = true := hk
    rw [zPostOk_eq (zSet_eqv (inv := inv) (wm := wm) (md := c.2.2.2.2.2.2) (p0 := c.2.1.length) (me := me) (fin := fun n σ _ E rv => zPostOk P c.2.1.length c.2.2.2.2.2.1 n σ E rv)).symm] at hk
    obtain ⟨po, p1, p2⟩ := zPostOk_s (HV me) (HK me _ _ _ _ _ _ _ _ hg) hpS hg hl hk
    obtain ⟨f1, f2, f3⟩ := hg.2.2.2.2.1 rfl
    rw [zPm_eq zSet_eqv] at p2
    obtain ⟨r, p3, p4⟩ := p2
    refine ⟨⟨po, p1, r, fun i hi => (p3 i hi).trans (hag i hi), p4⟩, ?_, f1, f3.1, f3.2.1, f3.2.2, ?_⟩
    · have := hg.2.2.2.1
      rwa [zGI_eq zSet_eqv] at this
    · rw [← f3.2.2]
      exact f2
  -- from a loop's head
  have HL : ∀ (M : Nat) (v : zIv), v ∈ inv → ∀ (ρ' : Nat → Int) (h' : aH) (lsC : List Value), zHd P G ρ c.2.1.length c.2.2.2.2.2.2 h v ρ' h' lsC → zMe ρ' v.2.2.2.2.2 < M → ∃ l, (aMC q)[v.1]? = some l ∧ zW X (dd + kk) q v.1 l lsC [] h' (fun rv h' => (∃ po ∈ c.2.2.2.2.2.1, zPm P ρ c.2.1.length po rv h') ∧ zGI P h' ∧ G h' ∧ h'.1 = h.1 ∧ h'.2.1 = h.2.1 ∧ h'.2.2.1 = h.2.2.1 ∧ zOff c.2.2.2.2.2.2 h.2.2.1 h.2.2.2 h'.2.2.2) := by
    intro M
    induction M with
    | zero =>
      intro v hv ρ' h' lsC hd' hlt
      have := hd'.2.2.2.2.2.2.2.2
      omega
    | succ M ih =>
      intro v hv ρ' h' lsC hd' hlt
      obtain ⟨hrun, htm⟩ := hL v hv
      have htm := zTmB_s htm
      unfold zRunL at hrun
      have hrun : zBlk ((zSet P inv wm c.2.2.2.2.2.2 c.2.1.length [v.2.2.2.2.2] (fun n σ _ E rv => zPostOk P c.2.1.length c.2.2.2.2.2.1 n σ E rv)).bk q) v.1 _ = true := hrun
      obtain ⟨l, e1, hk⟩ := zBk_s (HV _) hrun
      refine ⟨l, e1, ?_⟩
      have hg := zHd_ga (X := X) (inv := inv) (wm := wm) (me := [v.2.2.2.2.2]) (fin := fun n σ _ E rv => zPostOk P c.2.1.length c.2.2.2.2.2.1 n σ E rv) hb hK hd'
      rw [n1, n2] at hg
      have HI : zHI X (zSet P inv wm c.2.2.2.2.2.2 c.2.1.length [v.2.2.2.2.2] (fun n σ _ E rv => zPostOk P c.2.1.length c.2.2.2.2.2.1 n σ E rv)) G (c.2.1.length + v.2.2.1.length) h ρ' kk dd q (fun rv h' => (∃ po ∈ c.2.2.2.2.2.1, zPm P ρ c.2.1.length po rv h') ∧ zGI P h' ∧ G h' ∧ h'.1 = h.1 ∧ h'.2.1 = h.2.1 ∧ h'.2.2.1 = h.2.2.1 ∧ zOff c.2.2.2.2.2.2 h.2.2.1 h.2.2.2 h'.2.2.2) := by
        intro w hw n σ K E ls ρ1 h1 ls1 g1 l1 k1 _
        obtain ⟨ρ2, hd2, hfall⟩ := zHead_s (r := ρ) (m := c.2.1.length) (HV _) (HK _ _ _ _ _ _ _ _ _ g1) rfl rfl (Nat.le_add_right _ _) hd'.1 g1 l1 (zTmB_s (hL w hw).2) k1
        have hlt2 := hfall _ rfl htm
        have hd3 : zHd P G ρ c.2.1.length c.2.2.2.2.2.2 h w ρ2 h1 ls1 := by
          obtain ⟨d1, d2, d3, d4, d5, d6⟩ := hd2
          rw [zGl_eq zSet_eqv] at d3
          rw [zGI_eq zSet_eqv] at d5
          exact ⟨d1, d2, d3, d4, d5, d6⟩
        exact ih w hw ρ2 h1 ls1 hd3 (by omega)
      have hls : zGl (zSet P inv wm c.2.2.2.2.2.2 c.2.1.length [v.2.2.2.2.2] (fun n σ _ E rv => zPostOk P c.2.1.length c.2.2.2.2.2.1 n σ E rv)) ρ' (c.2.1.length + v.2.2.1.length) v.2.2.2.1 lsC := by
        rw [zGl_eq zSet_eqv]
        exact hd'.2.2.1
      exact zGoX_s (HV _) (HG _) HI (HF _ _ _ (Nat.le_add_right _ _) hd'.1) (HC _) f _ _ _ _ ([], dd, q, v.1) _ _ _ hk ρ' h' [] l lsC [] hg trivial ⟨rfl, rfl⟩ rfl hls trivial
  -- from the entry
  obtain ⟨ha, hrun⟩ := hE
  obtain ⟨ha1, ha2⟩ := zAnd ha
  have ha2 := zbl ha2
  have hrun : zBlk ((zSet P inv wm c.2.2.2.2.2.2 c.2.1.length [] (fun n σ _ E rv => zPostOk P c.2.1.length c.2.2.2.2.2.1 n σ E rv)).bk q) 0 _ = true := hrun
  obtain ⟨l, e1, hk⟩ := zBk_s (HV _) hrun
  obtain ⟨fl1, fl2⟩ := zFl_s hargs ha1
  have hg : zGa X (zSet P inv wm c.2.2.2.2.2.2 c.2.1.length [] (fun n σ _ E rv => zPostOk P c.2.1.length c.2.2.2.2.2.1 n σ E rv)) G c.2.1.length h ρ ρ c.2.1.length (zSig c.2.1 0) (N, S, []) c.2.2.2.2.1 h := by
    refine ⟨zSig_s (fun j b hj => ?_), ?_, fun e he => zGp_e (hents e he), ?_, fun _ => ⟨hGh, fun a => ⟨fun _ _ _ _ => rfl, fun _ _ => rfl⟩, rfl, rfl, rfl⟩, fun _ _ => rfl, Nat.le_refl _⟩
    · rw [Nat.zero_add]
      exact ⟨(List.getElem?_eq_some_iff.mp hj).1, hb j b hj⟩
    · rw [zGK_eq zSet_eqv, ← n1, ← n2]
      exact hK
    · rw [zGI_eq zSet_eqv]
      exact hI
  have HI : zHI X (zSet P inv wm c.2.2.2.2.2.2 c.2.1.length [] (fun n σ _ E rv => zPostOk P c.2.1.length c.2.2.2.2.2.1 n σ E rv)) G c.2.1.length h ρ kk dd q (fun rv h' => (∃ po ∈ c.2.2.2.2.2.1, zPm P ρ c.2.1.length po rv h') ∧ zGI P h' ∧ G h' ∧ h'.1 = h.1 ∧ h'.2.1 = h.2.1 ∧ h'.2.2.1 = h.2.2.1 ∧ zOff c.2.2.2.2.2.2 h.2.2.1 h.2.2.2 h'.2.2.2) := by
    intro w hw n σ K E ls ρ1 h1 ls1 g1 l1 k1 _
    obtain ⟨ρ2, hd2, -⟩ := zHead_s (r := ρ) (m := c.2.1.length) (HV _) (HK _ _ _ _ _ _ _ _ _ g1) rfl rfl (Nat.le_refl _) (fun _ _ => rfl) g1 l1 (zTmB_s (hL w hw).2) k1
    have hd3 : zHd P G ρ c.2.1.length c.2.2.2.2.2.2 h w ρ2 h1 ls1 := by
      obtain ⟨d1, d2, d3, d4, d5, d6⟩ := hd2
      rw [zGl_eq zSet_eqv] at d3
      rw [zGI_eq zSet_eqv] at d5
      exact ⟨d1, d2, d3, d4, d5, d6⟩
    exact HL ((zMe ρ2 w.2.2.2.2.2).toNat + 1) w hw ρ2 h1 ls1 hd3 (by omega)
  have hent : zGl (zSet P inv wm c.2.2.2.2.2.2 c.2.1.length [] (fun n σ _ E rv => zPostOk P c.2.1.length c.2.2.2.2.2.1 n σ E rv)) ρ c.2.1.length (zEnt c.2.2.2.1 (aML q)) (aEn as (aML q)) := by
    rw [zGl_eq zSet_eqv]
    unfold zEnt aEn
    rw [zGl_len fl1]
    exact zGl_app fl1 zGl_rep
  have := zGoX_s (HV _) (HG _) HI (HF _ _ _ (Nat.le_refl _) (fun _ _ => rfl)) (HC _) f _ _ _ _ ([], dd, q, 0) _ _ _ hk ρ h [] l (aEn as (aML q)) [] hg trivial ⟨rfl, rfl⟩ rfl hent trivial
  exact zRn_of ⟨by rw [← zGl_len fl1]; exact ha2, fl2⟩ e1 this
end ZCF
