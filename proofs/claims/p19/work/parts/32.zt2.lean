/-! contracts -/
/-- an end of a contract is met -/
def zPm (P : zP) (ρ : Nat → Int) (m : Nat) (po : zPo) (rv : Option Value) (h' : aH) : Prop := ∃ r : Nat → Int, (∀ i, i < m → r i = ρ i) ∧ (∀ i b, po.2.2.1[i]? = some b → b.1 ≤ r (m + i) ∧ r (m + i) ≤ b.2) ∧ (∀ e ∈ po.1, e.1 < m + po.2.2.1.length ∧ e.2.1 ≤ r e.1 ∧ r e.1 ≤ e.2.2) ∧ zGl P r (m + po.2.2.1.length) po.2.2.2.1 rv.toList ∧ (∀ e ∈ po.2.2.2.2, zGp r (m + po.2.2.1.length) h' e)
/-- what a contract says of method q -/
def zCk (X : aX) (P : zP) (G : aH → Prop) (q : Nat) (c : zCo) : Prop := ∀ (d : Nat) (ρ : Nat → Int) (as : List Value) (h : aH), c.1 ≤ d → (∀ i b, c.2.1[i]? = some b → b.1 ≤ ρ i ∧ ρ i ≤ b.2) → zGl P ρ c.2.1.length c.2.2.2.1 as → (∀ e ∈ c.2.2.2.2.1, zGp ρ c.2.1.length h e) → zGK P (h.1, h.2.1, []) h → zGI P h → G h →
  zRn X d q as h (fun rv h' => (∃ po ∈ c.2.2.2.2.2.1, zPm P ρ c.2.1.length po rv h') ∧ zGI P h' ∧ G h' ∧ h'.1 = h.1 ∧ h'.2.1 = h.2.1 ∧ h'.2.2.1 = h.2.2.1 ∧ zOff c.2.2.2.2.2.2 h.2.2.1 h.2.2.2 h'.2.2.2)
theorem zBit_t (m j : Nat) : zBit m j = m.testBit j := by
  unfold zBit
  rw [Nat.testBit_eq_decide_div_mod_eq]
  show Nat.beq ((m >>> j) &&& 1) 1 = _
  rw [Nat.shiftRight_eq_div_pow, Nat.and_one_is_mod]
  by_cases q : m / 2 ^ j % 2 = 1
  · rw [q]
    rfl
  · have e : m / 2 ^ j % 2 = 0 := by omega
    rw [e]
    rfl
theorem zBit_sub {a b : Nat} (h : Nat.beq (Nat.lor a b) b = true) (p : Nat) (hp : zBit a p = true) : zBit b p = true := by
  rw [zBit_t] at hp ⊢
  have e : a ||| b = b := zbe h
  rw [← e, Nat.testBit_or, hp]
  rfl
section ZCO
variable {X : aX} {P : zP} {G : aH → Prop} {pS : Nat} {h0 h h' : aH} {ρ0 ρ ρ' : Nat → Int} {n n' : Nat} {σ : zS} {K : zK} {E E' : List zE} {v u : zV} {x : Value} {th : List zV} {r : Nat → Int} {vs us : List zV} {xs : List Value}
theorem zKill_s {m : Nat} (hE : ∀ e ∈ E, zGe X ρ n h e) (hh : h'.1 = h.1 ∧ h'.2.1 = h.2.1 ∧ h'.2.2.1 = h.2.2.1) (ho : zOff m h.2.2.1 h.2.2.2 h'.2.2.2) : ∀ e ∈ zKill m E, zGe X ρ n h' e := by
  induction E with
  | nil => intro e he; cases he
  | cons a q ih =>
    intro e he
    have iha := ih (fun e he => hE e (List.mem_cons_of_mem _ he))
    unfold zKill at he
    cases c : zBit m a.1
    · rw [c] at he
      rcases List.mem_cons.mp he with rfl | he
      · have ha := hE e List.mem_cons_self
        unfold zGe at ha ⊢
        by_cases c1 : e.1 = 11520001
        · rw [if_pos c1] at ha ⊢
          exact ha
        · rw [if_neg c1] at ha ⊢
          by_cases c2 : e.1 = 11520002
          · rw [if_pos c2] at ha ⊢
            exact ha
          · rw [if_neg c2] at ha ⊢
            obtain ⟨⟨p1, p2, p3⟩, k⟩ := ha
            refine ⟨⟨by rw [hh.1]; exact p1, p2, by rw [hh.2.2]; exact p3⟩, fun i i1 i2 i3 => ?_⟩
            have e3 : zM h' e.1 i = zM h e.1 i := by
              unfold zM
              by_cases d : e.1 % 128 = 127
              · rw [if_pos d] at p3
                rw [(ho (e.1 / 128)).2 p3 (by rwa [show e.1 / 128 * 128 + 127 = e.1 by omega])]
              · rw [if_neg d] at p3
                rw [if_neg d]
                exact (ho (e.1 / 128)).1 p3 (e.1 % 128) (by omega) (by rwa [show e.1 / 128 * 128 + e.1 % 128 = e.1 by omega])
            rw [e3]
            exact k i i1 i2 i3
      · exact iha e he
    · rw [c] at he
      exact iha e he
theorem zNewT_e {bs : List (Int × Int)} {i : Nat} : ∀ {th : List zV}, (zNewT n bs i th).length = th.length + bs.length ∧ ∀ j v, (zNewT n bs i th)[j]? = some v → (j < th.length ∧ th[j]? = some v) ∨ (th.length ≤ j ∧ j < th.length + bs.length ∧ v = zsy (n + i + (j - th.length))) := by
  induction bs generalizing i with
  | nil =>
    intro th
    exact ⟨rfl, fun j v h => Or.inl ⟨(List.getElem?_eq_some_iff.mp h).1, h⟩⟩
  | cons b bs ih =>
    intro th
    obtain ⟨h1, h2⟩ := ih (i := i + 1) (th := th ++ [zsy (n + i)])
    have ll : (th ++ [zsy (n + i)]).length = th.length + 1 := by rw [List.length_append]; rfl
    refine ⟨by show (zNewT n bs (i + 1) (th ++ [zsy (n + i)])).length = _; rw [h1, ll, List.length_cons]; omega, fun j v h => ?_⟩
    have h : (zNewT n bs (i + 1) (th ++ [zsy (n + i)]))[j]? = some v := h
    rcases h2 j v h with ⟨q1, q2⟩ | ⟨q1, q2, q3⟩
    · by_cases c : j < th.length
      · rw [List.getElem?_append_left c] at q2
        exact Or.inl ⟨c, q2⟩
      · rw [List.getElem?_append_right (by omega)] at q2
        have e : j - th.length = 0 := by omega
        rw [e] at q2
        cases q2
        exact Or.inr ⟨by omega, by rw [List.length_cons]; omega, by rw [show n + i + (j - th.length) = n + i by omega]⟩
    · rw [ll] at q1 q2 q3
      exact Or.inr ⟨by omega, by rw [List.length_cons]; omega, by rw [q3, show n + (i + 1) + (j - (th.length + 1)) = n + i + (j - th.length) by omega]⟩
theorem zNewG_s {bs : List (Int × Int)} {i N : Nat} : ∀ {σ : zS}, zSok ρ N σ → (∀ j b, bs[j]? = some b → n + i + j < N ∧ b.1 ≤ ρ (n + i + j) ∧ ρ (n + i + j) ≤ b.2) → zSok ρ N (zNewG n bs i σ) := by
  induction bs generalizing i with
  | nil => intro σ h _; exact h
  | cons b bs ih =>
    intro σ h hb
    refine ih (i := i + 1) (fun e he => ?_) (fun j b' hj => ?_)
    · rcases List.mem_cons.mp he with rfl | he
      · have := hb 0 b rfl
        exact this
      · exact h e he
    · have := hb (j + 1) b' hj
      rwa [show n + i + (j + 1) = n + (i + 1) + j by omega] at this
theorem zPosts_m {E1 : List zE} {k : Nat → zS → List zE → List zV → Bool} {posts : List zPo} {po : zPo} (hk : zPosts th E1 n σ k posts = true) (hp : po ∈ posts) : zPostK E1 n k po (zNewG n po.2.2.1 0 σ) (zNewT n po.2.2.1 0 th) = true := by
  induction posts with
  | nil => cases hp
  | cons a q ih =>
    unfold zPosts at hk
    obtain ⟨h1, h2⟩ := zAnd hk
    rcases List.mem_cons.mp hp with rfl | hp
    · exact h1
    · exact ih h2 hp
theorem zSubE_m {ents : List zE} {e : zE} (he : e ∈ zSubE th ents E) : e ∈ E ∨ ∃ a ∈ ents, e = (a.1, a.2.1, a.2.2.1, zSubst th a.2.2.2) := by
  induction ents with
  | nil => exact Or.inl he
  | cons a q ih =>
    rcases List.mem_cons.mp he with rfl | he
    · exact Or.inr ⟨a, List.mem_cons_self, rfl⟩
    · rcases ih he with h1 | ⟨b, h1, h2⟩
      · exact Or.inl h1
      · exact Or.inr ⟨b, List.mem_cons_of_mem _ h1, h2⟩
theorem zGl_do (hth : zTh ρ n th r) {m : Nat} (hm : m = th.length) (hl : zGl P r m us xs) : zGl P ρ n (us.map (zSubst th)) xs := by
  subst hm
  induction us generalizing xs with
  | nil =>
    rw [zGl_nil hl]
    exact trivial
  | cons u q ih =>
    obtain ⟨x, xq, rfl, h1, h2⟩ := zGl_cons hl
    exact ⟨zG_do hth (fun _ => Or.inr trivial) h1, ih h2⟩
theorem zGK_same (hh : h'.1 = h.1 ∧ h'.2.1 = h.2.1 ∧ h'.2.2.1 = h.2.2.1) (k : zGK P K h) : zGK P K h' := by
  obtain ⟨k1, k2, k3⟩ := k
  refine ⟨hh.1.trans k1, hh.2.1.trans k2, fun s b hc hlt => ?_⟩
  have := k3 s b hc hlt
  unfold zGk at this ⊢
  rw [hh.1, hh.2.2]
  exact this
theorem zCon_s {q dd kk : Nat} {c : zCo} {as : List zV} {asC : List Value} {k : Nat → zS → List zE → List zV → Bool} (hV : zVal P) (hck : zCk X P G q c) (al : P.al = false) (hK : K.2.2 = []) (hg : zGa X P G pS h0 ρ0 ρ n σ K E h) (hl : zGl P ρ n as asC) (hk : zCon P c dd n σ E as k = true) :
    zRn X (dd + kk) q asC h (fun rv h' => h'.1 = h.1 ∧ ∃ n' σ' E' rvA ρ', k n' σ' E' rvA = true ∧ n ≤ n' ∧ (∀ i, i < n → ρ' i = ρ i) ∧ zGa X P G pS h0 ρ0 ρ' n' σ' K E' h' ∧ zGl P ρ' n' rvA rv.toList) := by
  unfold zCon at hk
  rcases zCd hk with ⟨c1, hk⟩ | ⟨-, hk⟩
  · obtain ⟨c1, c2⟩ := zAnd c1
    have c1 := zbl c1
    have hKe := zKe hg hK
    obtain ⟨n1, σ1, E1, ρ1, th, r, hk, l1, r1, g1, t1, -, len1, b1⟩ := zFind_s (th := []) (r := fun _ => 0) hKe hg hl (fun i v h => by cases h) hk
    rw [List.length_nil, Nat.zero_add] at len1
    unfold zConF at hk
    rcases zCd hk with ⟨c3, hk⟩ | ⟨-, hk⟩
    · obtain ⟨c3, c4⟩ := zAnd c3
      have hargs := zFitL_s hV g1.1 t1 (hl.mono l1 r1) c3
      have hents := zFitE_s hV hKe g1 t1 c4
      rw [len1] at hargs hents
      have hrun := hck (dd + kk) r asC h (by omega) (fun i b hb => by have := b1 i b hb; rwa [List.length_nil, Nat.zero_add] at this) hargs hents hKe g1.2.2.2.1 (g1.2.2.2.2.1 al).1
      refine hrun.mono (fun rv h' hq => ?_)
      obtain ⟨⟨po, hpo, r2, e2, p1, p2, p3, p4⟩, hI', hG', hh1, hh2, hh3, hoff⟩ := hq
      refine ⟨hh1, ?_⟩
      have hk := zPosts_m hk hpo
      unfold zPostK at hk
      -- the symbols that come
      have hag : ∀ i, i < n1 → (fun j => if j < n1 then ρ1 j else r2 (c.2.1.length + (j - n1))) i = ρ1 i := fun i hi => if_pos hi
      obtain ⟨tl, tv⟩ := zNewT_e (n := n1) (bs := po.2.2.1) (i := 0) (th := th)
      have t2 : zTh (fun j => if j < n1 then ρ1 j else r2 (c.2.1.length + (j - n1))) (n1 + po.2.2.1.length) (zNewT n1 po.2.2.1 0 th) r2 := by
        intro i v hv
        rcases tv i v hv with ⟨q1, q2⟩ | ⟨q1, q2, q3⟩
        · obtain ⟨a1, a2⟩ := t1 i v q2
          refine ⟨a1, ?_⟩
          rw [e2 i (by omega)]
          exact a2.mono (Nat.le_add_right _ _) hag
        · subst q3
          refine ⟨Or.inl rfl, Or.inl ⟨rfl, Or.inr (by show n1 + 0 + (i - th.length) < _; omega), ?_⟩⟩
          show r2 i = 0 + 1 * (if n1 + 0 + (i - th.length) < n1 then _ else r2 (c.2.1.length + (n1 + 0 + (i - th.length) - n1)))
          rw [if_neg (by omega), show c.2.1.length + (n1 + 0 + (i - th.length) - n1) = i by omega]
          omega
      have g2 : zSok (fun j => if j < n1 then ρ1 j else r2 (c.2.1.length + (j - n1))) (n1 + po.2.2.1.length) (zNewG n1 po.2.2.1 0 σ1) := by
        refine zNewG_s (g1.1.mono (Nat.le_add_right _ _) hag) (fun j b hb => ?_)
        have hj := (List.getElem?_eq_some_iff.mp hb).1
        have := p1 j b hb
        rw [if_neg (by omega), show c.2.1.length + (n1 + 0 + j - n1) = c.2.1.length + j by omega]
        exact ⟨by omega, this⟩
      obtain ⟨σ3, g3, hk⟩ := zTake_s g2 t2 (fun e he => (p2 e he).2) hk
      refine ⟨_, _, _, _, _, hk, by omega, fun i hi => (hag i (by omega)).trans (r1 i hi), ⟨g3, zGK_same ⟨hh1, hh2, hh3⟩ g1.2.1, fun e he => ?_, hI', fun _ => ?_, fun i hi => ?_, ?_⟩, zGl_do t2 (by rw [tl, len1]) p3⟩
      · rcases zSubE_m he with h1 | ⟨a, h1, rfl⟩
        · exact (zKill_s g1.2.2.1 ⟨hh1, hh2, hh3⟩ hoff e h1).mono (Nat.le_add_right _ _) hag
        · obtain ⟨a1, a2⟩ := p4 a h1
          refine zGp_e ⟨a1, fun i i1 i2 i3 => ?_⟩
          have hz : zG P r2 (zNewT n1 po.2.2.1 0 th).length a.2.2.2 (.int (zM h' a.1 i)) := by
            rw [tl, len1]
            exact zGi (a2 i i1 i2 i3)
          rcases zG_do t2 (fun _ => Or.inr trivial) hz with ⟨-, y, h3, h4⟩ | ⟨-, y, h3, -⟩ | ⟨-, y, h3, -⟩ | ⟨-, h3⟩ | h3
          · cases h3
            exact h4
          · cases h3
          · cases h3
          · cases h3
          · have := zTag (a2 i i1 i2 i3)
            rcases zSubst_1 (th := zNewT n1 po.2.2.1 0 th) (u := a.2.2.2) with q | q <;> omega
      · obtain ⟨-, o1, o2, o3, o4⟩ := g1.2.2.2.2.1 al
        refine ⟨hG', fun a => ?_, hh1.trans o2, hh2.trans o3, hh3.trans o4⟩
        rw [hh3]
        have nb : ∀ p, zBit P.md p = false → zBit c.2.2.2.2.2.2 p = false := fun p hp => by
          cases hw : zBit c.2.2.2.2.2.2 p
          · rfl
          · rw [zBit_sub c2 p hw] at hp
            cases hp
        exact ⟨fun z1 f z2 z3 => ((hoff a).1 z1 f z2 (nb _ z3)).trans ((o1 a).1 z1 f z2 z3), fun z1 z3 => ((hoff a).2 z1 (nb _ z3)).trans ((o1 a).2 z1 z3)⟩
      · have := g1.2.2.2.2.2
        exact (hag i (by omega)).trans (this.1 i hi)
      · have := g1.2.2.2.2.2.2
        omega
    · cases hk
  · cases hk
end ZCO
