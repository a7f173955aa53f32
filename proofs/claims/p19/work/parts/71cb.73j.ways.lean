/-! ways to choose boys: so many, of such a sum -/
def nS (f : Nat → Nat) : Nat → Nat
  | 0 => 0
  | n + 1 => nS f n + f n
theorem nS_cg {f g : Nat → Nat} : ∀ {n : Nat}, (∀ i, i < n → f i = g i) → nS f n = nS g n
  | 0, _ => rfl
  | n + 1, h => by
    show nS f n + f n = nS g n + g n
    rw [nS_cg (n := n) (fun i hi => h i (by omega)), h n (by omega)]
theorem nS_0 {f : Nat → Nat} : ∀ {n : Nat}, (∀ i, i < n → f i = 0) → nS f n = 0
  | 0, _ => rfl
  | n + 1, h => by
    show nS f n + f n = 0
    rw [nS_0 (n := n) (fun i hi => h i (by omega)), h n (by omega)]
theorem nS_add {f g : Nat → Nat} : ∀ {n : Nat}, nS (fun i => f i + g i) n = nS f n + nS g n
  | 0 => rfl
  | n + 1 => by
    show nS (fun i => f i + g i) n + (f n + g n) = nS f n + f n + (nS g n + g n)
    rw [nS_add]
    omega
theorem nS_front {f : Nat → Nat} : ∀ {n : Nat}, nS f (n + 1) = f 0 + nS (fun i => f (i + 1)) n
  | 0 => by
    show 0 + f 0 = f 0 + 0
    omega
  | n + 1 => by
    show nS f (n + 1) + f (n + 1) = f 0 + (nS (fun i => f (i + 1)) n + f (n + 1))
    rw [nS_front (n := n)]
    omega
theorem nS_tl {f : Nat → Nat} {m : Nat} : ∀ {n : Nat}, m ≤ n → (∀ i, m ≤ i → i < n → f i = 0) → nS f n = nS f m
  | 0, h, _ => by rw [show m = 0 by omega]
  | n + 1, h, z => by
    by_cases e : m = n + 1
    · rw [e]
    · show nS f n + f n = nS f m
      rw [z n (by omega) (by omega)]
      exact nS_tl (n := n) (by omega) (fun i h1 h2 => z i h1 (by omega))
/-- from own on -/
def nF (f : Nat → Nat) (own : Nat) (m : Nat) : Nat := nS (fun s => if own ≤ s then f s else 0) m
theorem nF_s {f : Nat → Nat} {own m : Nat} : nF f own (m + 1) = nF f own m + (if own ≤ m then f m else 0) := rfl
theorem nS_cut {f : Nat → Nat} {own : Nat} : ∀ {m : Nat}, own ≤ m → nS f m = nS f own + nF f own m
  | 0, h => by
    rw [show own = 0 by omega]
    rfl
  | m + 1, h => by
    rw [nF_s]
    by_cases e : own = m + 1
    · have z : nF f own m = 0 := nS_0 fun i hi => if_neg (by omega)
      have e' : nS f own = nS f (m + 1) := by rw [e]
      rw [z, if_neg (by omega)]
      omega
    · have ih := nS_cut (f := f) (own := own) (m := m) (by omega)
      rw [if_pos (by omega)]
      show nS f m + f m = _
      rw [ih]
      omega
theorem nS_shift {g : Nat → Nat} {x : Nat} : ∀ {m : Nat}, nS (fun s => if x ≤ s then g (s - x) else 0) (x + m) = nS g m
  | 0 => nS_0 fun i hi => if_neg (by omega)
  | m + 1 => by
    show nS (fun s => if x ≤ s then g (s - x) else 0) (x + m) + (if x ≤ x + m then g (x + m - x) else 0) = nS g m + g m
    rw [nS_shift, if_pos (by omega), show x + m - x = m by omega]
theorem nF_off {f : Nat → Nat} {own : Nat} : ∀ {m : Nat}, nF f own (own + m) = nS (fun j => f (own + j)) m
  | 0 => nS_0 fun i hi => if_neg (by omega)
  | m + 1 => by
    show nF f own (own + m) + (if own ≤ own + m then f (own + m) else 0) = nS (fun j => f (own + j)) m + f (own + m)
    rw [nF_off, if_pos (by omega)]
theorem nS_rev {f : Nat → Nat} : ∀ {m : Nat}, nS (fun s => f (m - s)) (m + 1) = nS f (m + 1)
  | 0 => rfl
  | m + 1 => by
    rw [nS_front]
    have e : nS (fun i => f (m + 1 - (i + 1))) (m + 1) = nS (fun s => f (m - s)) (m + 1) := nS_cg fun i _ => by rw [show m + 1 - (i + 1) = m - i by omega]
    rw [e, nS_rev (m := m)]
    show f (m + 1) + nS f (m + 1) = nS f (m + 1) + f (m + 1)
    omega
/-- of the first i: in how many ways c of them have the sum s -/
def wyB (T : Nat → Bool) (X : Nat → Nat) : Nat → Nat → Nat → Nat
  | 0, c, s => if c = 0 ∧ s = 0 then 1 else 0
  | i + 1, c, s => wyB T X i c s + (if T i = true ∧ 1 ≤ c ∧ X i ≤ s then wyB T X i (c - 1) (s - X i) else 0)
def smT (T : Nat → Bool) (X : Nat → Nat) : Nat → Nat
  | 0 => 0
  | i + 1 => smT T X i + (if T i = true then X i else 0)
section WB
variable {T : Nat → Bool} {X : Nat → Nat}
theorem cN_s {i : Nat} : cN T (i + 1) = cN T i + (if T i = true then 1 else 0) := rfl
theorem smT_s {i : Nat} : smT T X (i + 1) = smT T X i + (if T i = true then X i else 0) := rfl
theorem wy_s {i c s : Nat} : wyB T X (i + 1) c s = wyB T X i c s + (if T i = true ∧ 1 ≤ c ∧ X i ≤ s then wyB T X i (c - 1) (s - X i) else 0) := rfl
theorem wy_0 : ∀ {i c s : Nat}, (cN T i < c ∨ smT T X i < s) → wyB T X i c s = 0 := by
  intro i
  induction i with
  | zero =>
    intro c s h
    have h : 0 < c ∨ 0 < s := h
    exact if_neg (by omega)
  | succ i ih =>
    intro c s h
    rw [cN_s, smT_s] at h
    rw [wy_s]
    by_cases t : T i = true
    · rw [if_pos t, if_pos t] at h
      rw [ih (by omega)]
      by_cases d : 1 ≤ c ∧ X i ≤ s
      · rw [if_pos ⟨t, d.1, d.2⟩, ih (by omega)]
      · rw [if_neg (fun q => d ⟨q.2.1, q.2.2⟩)]
    · rw [if_neg t, if_neg t] at h
      rw [if_neg (fun q => t q.1), ih (by omega)]
theorem wy_sym : ∀ {i c d s u : Nat}, c + d = cN T i → s + u = smT T X i → wyB T X i c s = wyB T X i d u := by
  intro i
  induction i with
  | zero =>
    intro c d s u h1 h2
    have h1 : c + d = 0 := h1
    have h2 : s + u = 0 := h2
    rw [show c = 0 by omega, show d = 0 by omega, show s = 0 by omega, show u = 0 by omega]
  | succ i ih =>
    intro c d s u h1 h2
    rw [cN_s] at h1
    rw [smT_s] at h2
    rw [wy_s, wy_s]
    by_cases t : T i = true
    · rw [if_pos t] at h1 h2
      have A : wyB T X i c s = (if T i = true ∧ 1 ≤ d ∧ X i ≤ u then wyB T X i (d - 1) (u - X i) else 0) := by
        by_cases q : 1 ≤ d ∧ X i ≤ u
        · rw [if_pos ⟨t, q.1, q.2⟩]
          exact ih (by omega) (by omega)
        · rw [if_neg (fun z => q ⟨z.2.1, z.2.2⟩)]
          exact wy_0 (by omega)
      have B : (if T i = true ∧ 1 ≤ c ∧ X i ≤ s then wyB T X i (c - 1) (s - X i) else 0) = wyB T X i d u := by
        by_cases q : 1 ≤ c ∧ X i ≤ s
        · rw [if_pos ⟨t, q.1, q.2⟩]
          exact ih (by omega) (by omega)
        · rw [if_neg (fun z => q ⟨z.2.1, z.2.2⟩)]
          exact (wy_0 (by omega)).symm
      rw [A, B]
      exact Nat.add_comm _ _
    · rw [if_neg t] at h1 h2
      rw [if_neg (fun q => t q.1), if_neg (fun q => t q.1), ih (by omega) (by omega)]
theorem wy_tot : ∀ {i c m : Nat}, smT T X i < m → nS (fun s => wyB T X i c s) m = gCh (cN T i) c := by
  intro i
  induction i with
  | zero =>
    intro c m h
    have h : 0 < m := h
    obtain ⟨k, rfl⟩ : ∃ k, m = k + 1 := ⟨m - 1, by omega⟩
    have z : nS (fun i => wyB T X 0 c (i + 1)) k = 0 := nS_0 fun i _ => if_neg (by omega)
    have e : wyB T X 0 c 0 = gCh 0 c := by
      cases c with
      | zero => rfl
      | succ c => exact if_neg (by omega)
    have q := nS_front (f := fun s => wyB T X 0 c s) (n := k)
    exact q.trans ((congrArg (wyB T X 0 c 0 + ·) z).trans e)
  | succ i ih =>
    intro c m h
    rw [smT_s] at h
    rw [cN_s]
    show nS (fun s => wyB T X i c s + (if T i = true ∧ 1 ≤ c ∧ X i ≤ s then wyB T X i (c - 1) (s - X i) else 0)) m = _
    rw [nS_add (f := fun s => wyB T X i c s) (g := fun s => if T i = true ∧ 1 ≤ c ∧ X i ≤ s then wyB T X i (c - 1) (s - X i) else 0), ih (by split at h <;> omega)]
    by_cases t : T i = true
    · rw [if_pos t] at h
      rw [if_pos t]
      cases c with
      | zero =>
        have z : nS (fun s => if T i = true ∧ 1 ≤ 0 ∧ X i ≤ s then wyB T X i (0 - 1) (s - X i) else 0) m = 0 := nS_0 fun s _ => if_neg fun z => absurd z.2.1 (by decide)
        rw [z, gCh_z]
        exact gCh_z.symm
      | succ c =>
        have e : nS (fun s => if T i = true ∧ 1 ≤ c + 1 ∧ X i ≤ s then wyB T X i (c + 1 - 1) (s - X i) else 0) m = nS (fun s => if X i ≤ s then wyB T X i c (s - X i) else 0) m := nS_cg fun s _ => by
          by_cases q : X i ≤ s
          · rw [if_pos ⟨t, by omega, q⟩, if_pos q]
            rfl
          · rw [if_neg (fun z => q z.2.2), if_neg q]
        have e2 := nS_shift (g := fun s => wyB T X i c s) (x := X i) (m := m - X i)
        rw [show X i + (m - X i) = m by omega] at e2
        rw [e, e2, ih (by omega)]
        show _ = gCh (cN T i) c + gCh (cN T i) (c + 1)
        omega
    · rw [if_neg t] at h
      rw [if_neg t]
      have z : nS (fun s => if T i = true ∧ 1 ≤ c ∧ X i ≤ s then wyB T X i (c - 1) (s - X i) else 0) m = 0 := nS_0 fun s _ => if_neg fun z => t z.1
      exact congrArg (gCh (cN T i) c + ·) z
/-- the ways as great, either way -/
theorem wy_low {a b own oth m : Nat} (h1 : a + b = cN T 24) (h2 : own + oth = smT T X 24) (hm : own + oth < m) : nS (fun s => wyB T X 24 b s) (oth + 1) = nF (fun s => wyB T X 24 a s) own m := by
  have e1 : nF (fun s => wyB T X 24 a s) own m = nF (fun s => wyB T X 24 a s) own (own + (oth + 1)) := nS_tl (by omega) fun s q1 q2 => by
    show (if own ≤ s then wyB T X 24 a s else 0) = 0
    rw [if_pos (by omega)]
    exact wy_0 (Or.inr (by omega))
  have e2 : nS (fun s => wyB T X 24 b s) (oth + 1) = nS (fun s => (fun j => wyB T X 24 a (own + j)) (oth - s)) (oth + 1) := nS_cg fun s hs => wy_sym (by omega) (by omega)
  rw [e1, nF_off]
  exact e2.trans (nS_rev (f := fun j => wyB T X 24 a (own + j)) (m := oth))
theorem smT_le {B : Nat} (h : ∀ i, i < 24 → X i ≤ B) : ∀ {n : Nat}, n ≤ 24 → smT T X n ≤ B * cN T n
  | 0, _ => Nat.zero_le _
  | n + 1, hn => by
    rw [smT_s, cN_s, Nat.mul_add]
    have ih := smT_le h (n := n) (by omega)
    have hx := h n (by omega)
    by_cases t : T n = true
    · rw [if_pos t, if_pos t, Nat.mul_one]
      omega
    · rw [if_neg t, if_neg t]
      omega
theorem smT_cg {A : Nat → Bool} : ∀ {n : Nat}, (∀ i, i < n → T i = A i) → smT T X n = smT A X n
  | 0, _ => rfl
  | n + 1, h => by rw [smT_s, smT_s, smT_cg (n := n) (fun i hi => h i (by omega)), h n (by omega)]
theorem smT_ext {n m : Nat} (h : n ≤ m) (hp : ∀ i, n ≤ i → i < m → T i = false) : smT T X m = smT T X n := by
  obtain ⟨d, rfl⟩ := Nat.exists_eq_add_of_le h
  induction d with
  | zero => rfl
  | succ d ih =>
    show smT T X (n + d) + (if T (n + d) = true then X (n + d) else 0) = smT T X n
    rw [ih (by omega) (fun i h1 h2 => hp i h1 (by omega)), hp (n + d) (by omega) (by omega)]
    rfl
theorem wy_ext {n m c s : Nat} (h : n ≤ m) (hp : ∀ i, n ≤ i → i < m → T i = false) : wyB T X m c s = wyB T X n c s := by
  obtain ⟨d, rfl⟩ := Nat.exists_eq_add_of_le h
  induction d with
  | zero => rfl
  | succ d ih =>
    show wyB T X (n + d) c s + (if T (n + d) = true ∧ 1 ≤ c ∧ X (n + d) ≤ s then _ else 0) = wyB T X n c s
    rw [if_neg (fun q => by rw [hp (n + d) (by omega) (by omega)] at q; cases q.1)]
    exact ih (by omega) (fun i h1 h2 => hp i h1 (by omega))
end WB
/-- the sums of two camps -/
theorem smT_two {T A B : Nat → Bool} {X : Nat → Nat} (h : ∀ i, i < 24 → ∀ x : Nat, (if T i = true then x else 0) = (if A i = true then x else 0) + (if B i = true then x else 0)) : ∀ {n : Nat}, n ≤ 24 → smT T X n = smT A X n + smT B X n
  | 0, _ => rfl
  | n + 1, hn => by
    rw [smT_s, smT_s, smT_s, smT_two h (n := n) (by omega), h n (by omega) (X n)]
    exact Nat.add_add_add_comm _ _ _ _
