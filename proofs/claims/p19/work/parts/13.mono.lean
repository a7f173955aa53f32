/-! cells only come; references stay references of cells -/
def aMo (h h' : aH) : Prop := h.1 ≤ h'.1 ∧ h.2.1 ≤ h'.2.1 ∧ (aWfh h → aWfh h')
theorem aMo.rf {h : aH} : aMo h h := ⟨Nat.le_refl _, Nat.le_refl _, id⟩
theorem aMo.trans {a b c : aH} (h1 : aMo a b) (h2 : aMo b c) : aMo a c := ⟨Nat.le_trans h1.1 h2.1, Nat.le_trans h1.2.1 h2.2.1, fun h => h2.2.2 (h1.2.2 h)⟩
theorem aQ_same {X : aX} {i : aI} {st st' : List Value} {h h' : aH} (hq : aQ X i st h = some (st', h')) : h'.1 = h.1 ∧ h'.2.1 = h.2.1 ∧ (aWfh h → aWfh h') := by
  unfold aQ at hq
  split at hq
  · split at hq
    · split at hq
      · cases hq; exact ⟨rfl, rfl, id⟩
      · cases hq
    · cases hq
  · split at hq
    · split at hq
      · cases hq; exact ⟨rfl, rfl, fun hw => aWfh_M hw⟩
      · cases hq
    · split at hq
      · rename_i hc
        cases hq; exact ⟨rfl, rfl, fun hw => aWfh_R hw hc.2.2.2⟩
      · cases hq
    · cases hq
  · split at hq
    · split at hq
      · split at hq
        · cases hq; exact ⟨rfl, rfl, id⟩
        · cases hq
      · split at hq
        · cases hq; exact ⟨rfl, rfl, id⟩
        · cases hq
    · cases hq
  · split at hq
    · split at hq
      · cases hq; exact ⟨rfl, rfl, fun hw => aWfh_M hw⟩
      · cases hq
    · cases hq
  · split at hq
    · split at hq
      · cases hq; exact ⟨rfl, rfl, id⟩
      · cases hq
    · cases hq
  · split at hq
    · split at hq
      · cases hq; exact ⟨rfl, rfl, fun hw => aWfh_M hw⟩
      · cases hq
    · cases hq
  · split at hq
    · split at hq
      · cases hq; exact ⟨rfl, rfl, id⟩
      · cases hq
    · cases hq
  · split at hq
    · split at hq
      · rename_i hc
        cases hq; exact ⟨rfl, rfl, fun hw => aWfh_R hw hc.2.1⟩
      · cases hq
    · cases hq
  · split at hq
    · split at hq
      · cases hq; exact ⟨rfl, rfl, id⟩
      · split at hq
        · cases hq; exact ⟨rfl, rfl, id⟩
        · cases hq
    · cases hq
  · cases hq
theorem aNew_mo {h : aH} {n sl : Nat} {f : Nat → aK} (hf : ∀ b, h.1 ≤ b → ∀ j r, (f b).2.2 j = some r → r < h.1 + n) : aMo h (aNew h n sl f) := by
  refine ⟨Nat.le_add_right _ _, Nat.le_add_right _ _, fun hw k hk j r hr => ?_⟩
  unfold aNew at hk hr ⊢
  dsimp only at hk hr ⊢
  split at hr
  · rename_i hb
    exact hf k hb j r hr
  · have := hw k (by omega) j r hr
    omega
theorem aA_mo {i : aI} {ls st st' : List Value} {h h' : aH} (hq : aA i ls st h = some (st', h')) : aMo h h' := by
  unfold aA at hq
  split at hq
  · split at hq
    · cases hq; exact aNew_mo (fun _ _ _ _ hr => by cases hr)
    · split at hq
      · split at hq
        · cases hq; exact aNew_mo (fun _ _ _ _ hr => by cases hr)
        · cases hq
      · cases hq
    · split at hq
      · split at hq
        · cases hq; exact aNew_mo (fun _ _ _ _ hr => by cases hr)
        · cases hq
      · cases hq
    · split at hq
      · split at hq
        · cases hq; exact aNew_mo (fun _ _ _ _ hr => by cases hr)
        · cases hq
      · cases hq
    · split at hq
      · split at hq
        · cases hq
          refine aNew_mo (fun b hb j r hr => ?_)
          split at hr
          · dsimp only at hr
            split at hr
            · cases hr
              omega
            · cases hr
          · cases hr
        · cases hq
      · cases hq
    · cases hq
  · cases hq
def aCmo (cal : Nat → List Value → aH → Option (Option Value × aH)) : Prop := ∀ y as h rv h', cal y as h = some (rv, h') → aMo h h'
theorem aMath_same {k : Nat} {st st' : List Value} {h h' : aH} (hq : aMath k st h = some (st', h')) : h' = h := by
  unfold aMath at hq
  split at hq <;> first | (split at hq <;> first | (cases hq; rfl) | cases hq) | cases hq
theorem aV_mo {cal : Nat → List Value → aH → Option (Option Value × aH)} (hcal : aCmo cal) {i : aI} {ls st st' : List Value} {h h' : aH} (hq : aV cal i ls st h = some (st', h')) : aMo h h' := by
  have hgo : ∀ y as rest, aGo cal y as rest ls h = some (st', h') → aMo h h' := fun y as rest hg => by
    obtain ⟨-, rv, hc, -, -⟩ := aGo_spec hg
    exact hcal _ _ _ _ _ hc
  unfold aV at hq
  split at hq
  · split at hq
    · unfold aCopy at hq
      split at hq
      · split at hq
        · cases hq; exact ⟨Nat.le_refl _, Nat.le_refl _, fun hw => aWfh_M hw⟩
        · cases hq
      · cases hq
    · split at hq
      · rw [aMath_same hq]
        exact aMo.rf
      · split at hq
        · exact hgo _ _ _ hq
        · cases hq
  · split at hq
    · split at hq
      · split at hq
        · cases hq; exact aMo.rf
        · cases hq
      · cases hq
    · split at hq
      · split at hq
        · exact hgo _ _ _ hq
        · cases hq
      · cases hq
  · split at hq
    · split at hq
      · split at hq
        · cases hq; exact aMo.rf
        · cases hq
      · cases hq
    · split at hq
      · split at hq
        · split at hq
          · cases hq; exact aMo.rf
          · cases hq
        · cases hq
      · split at hq
        · split at hq
          · exact hgo _ _ _ hq
          · cases hq
        · cases hq
  · cases hq
theorem aS_mo {X : aX} {cal : Nat → List Value → aH → Option (Option Value × aH)} (hcal : aCmo cal) {i : aI} {ls st ls' st' : List Value} {h h' : aH} (hq : aS X cal i ls st h = some (ls', st', h')) : aMo h h' := by
  unfold aS at hq
  split at hq
  · obtain ⟨q, -, e⟩ := Option.map_eq_some_iff.mp hq
    cases e; exact aMo.rf
  · obtain ⟨q, h1, e⟩ := Option.map_eq_some_iff.mp hq
    cases e
    obtain ⟨e1, e2, e3⟩ := aQ_same h1
    exact ⟨Nat.le_of_eq e1.symm, Nat.le_of_eq e2.symm, e3⟩
  · obtain ⟨q, h1, e⟩ := Option.map_eq_some_iff.mp hq
    cases e
    exact aA_mo h1
  · obtain ⟨q, h1, e⟩ := Option.map_eq_some_iff.mp hq
    cases e
    exact aV_mo hcal h1
theorem aT_same {rt b : Nat} {i : aI} {ls st : List Value} {h : aH} {res : aR} (hq : aT rt b i ls st h = some res) : (∃ b' t, res = .inl (b', ls, t, h)) ∨ ∃ rv, res = .inr (rv, h) := by
  unfold aT at hq
  split at hq
  · cases hq; exact Or.inl ⟨_, _, rfl⟩
  · split at hq
    · cases hq; exact Or.inl ⟨_, _, rfl⟩
    · cases hq
  · split at hq
    · cases hq; exact Or.inl ⟨_, _, rfl⟩
    · cases hq
  · split at hq
    · split at hq
      · cases hq; exact Or.inl ⟨_, _, rfl⟩
      · split at hq
        · cases hq; exact Or.inl ⟨_, _, rfl⟩
        · cases hq
    · cases hq
  · split at hq
    · cases hq; exact Or.inl ⟨_, _, rfl⟩
    · cases hq
  · split at hq
    · split at hq
      · cases hq; exact Or.inr ⟨_, rfl⟩
      · cases hq
    · cases hq
  · split at hq
    · split at hq
      · cases hq; exact Or.inr ⟨_, rfl⟩
      · cases hq
    · cases hq
  · split at hq
    · split at hq
      · cases hq; exact Or.inr ⟨_, rfl⟩
      · cases hq
    · cases hq
  · split at hq
    · split at hq
      · cases hq; exact Or.inr ⟨_, rfl⟩
      · cases hq
    · cases hq
  · cases hq
/-- the cells that a block's end has -/
def aRh : aR → aH
  | .inl q => q.2.2.2
  | .inr q => q.2
theorem aB_mo {X : aX} {cal : Nat → List Value → aH → Option (Option Value × aH)} (hcal : aCmo cal) {rt b : Nat} : ∀ {l : List aI} {ls st : List Value} {h : aH} {res : aR}, aB X cal rt b l ls st h = some res → aMo h (aRh res) := by
  intro l
  induction l with
  | nil =>
    intro ls st h res hq
    cases hq
    exact aMo.rf
  | cons i r ih =>
    intro ls st h res hq
    unfold aB at hq
    split at hq
    · rcases aT_same hq with ⟨b', t, rfl⟩ | ⟨rv, rfl⟩
      · exact aMo.rf
      · exact aMo.rf
    · split at hq
      · rename_i ls' st' h' hs
        exact (aS_mo hcal hs).trans (ih hq)
      · cases hq
theorem aE_mo {X : aX} {cal : Nat → List Value → aH → Option (Option Value × aH)} (hcal : aCmo cal) {rt : Nat} {C : List (List aI)} : ∀ {f b : Nat} {ls st : List Value} {h : aH} {rv : Option Value} {h' : aH}, aE X cal rt C f b ls st h = some (rv, h') → aMo h h' := by
  intro f
  induction f with
  | zero =>
    intro b ls st h rv h' hq
    cases hq
  | succ f ih =>
    intro b ls st h rv h' hq
    unfold aE at hq
    split at hq
    · cases hq
    · split at hq
      · rename_i b' ls' st' h2 hb
        exact (aB_mo hcal hb).trans (ih hq)
      · rename_i r hb
        cases hq
        exact aB_mo hcal hb
      · cases hq
theorem aM_mo {X : aX} {F : Nat} : ∀ d, aCmo (aM X F d) := by
  intro d
  induction d with
  | zero =>
    intro y as h rv h' hq
    cases hq
  | succ d ih =>
    intro y as h rv h' hq
    unfold aM at hq
    split at hq
    · exact aE_mo ih hq
    · cases hq
