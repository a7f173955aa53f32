/-! a day, out of what V says -/
/-- V but for what is written over at each use -/
def sc (V N : pMem) : Prop := ∀ a j, a < 230 → pScr a j = false → N a j = V a j
theorem sc_r {V : pMem} : sc V V := fun _ _ _ _ => rfl
theorem sc_row {V N : pMem} (h : sc V N) {a : Nat} (ha : a < 230) (hs : pScrA a = false) (h8 : a ≠ 188) : N a = V a := funext fun j => h a j ha (pScr_of hs h8 j)
theorem sc_p {V N : pMem} (h : sc V N) {a j : Nat} {x y : Int32} (e : x = y) : sc (aPut V a j x) (aPut N a j y) := fun b i h1 h2 => by
  unfold aPut
  by_cases q : b = a
  · rw [if_pos q, if_pos q]
    by_cases r : i = j
    · rw [if_pos r, if_pos r, e]
    · rw [if_neg r, if_neg r]
      exact h b i h1 h2
  · rw [if_neg q, if_neg q]
    exact h b i h1 h2
/-- a place that is written over anyhow -/
theorem sc_s {V N : pMem} (h : sc V N) {a j : Nat} {x : Int32} (hs : pScr a j = true) : sc V (aPut N a j x) := fun b i h1 h2 => by
  rw [← h b i h1 h2]
  unfold aPut
  by_cases q : b = a
  · rw [if_pos q, if_neg]
    intro r
    rw [q, r, hs] at h2
    cases h2
  · rw [if_neg q]
theorem sc_t {V M N : pMem} (h : sc V M) (g : sc M N) : sc V N := fun a j h1 h2 => (g a j h1 h2).trans (h a j h1 h2)
theorem sc_87 {M N : pMem} (h : fr87 M N) : sc M N := fun a j h1 h2 => by
  by_cases e8 : a = 188
  · subst e8
    refine h.2 j fun e => ?_
    subst e
    exact absurd h2 (by decide)
  · rw [h.1 a _ _ e8]
    · intro e
      subst e
      exact absurd h2 (by rw [show pScr 216 j = true from rfl]; decide)
    · intro e
      subst e
      exact absurd h2 (by rw [show pScr 217 j = true from rfl]; decide)
theorem sc_rows {V N : pMem} (h : sc V N) : N 189 = V 189 ∧ N 190 = V 190 ∧ N 191 = V 191 ∧ N 194 = V 194 ∧ N 195 = V 195 ∧ ∀ j, j ≠ 0 → j ≠ 51 → N 188 j = V 188 j :=
  ⟨sc_row h (by decide) rfl (by decide), sc_row h (by decide) rfl (by decide), sc_row h (by decide) rfl (by decide), sc_row h (by decide) rfl (by decide), sc_row h (by decide) rfl (by decide), fun j h0 h5 => h 188 j (by decide) (by
    unfold pScr
    rw [show Nat.beq j 0 = false from Bool.eq_false_iff.mpr fun q => h0 (Nat.eq_of_beq_eq_true q), show Nat.beq j 51 = false from Bool.eq_false_iff.mpr fun q => h5 (Nat.eq_of_beq_eq_true q)]
    rfl)⟩
theorem FdV_sc {V N : pMem} (h : sc V N) : FdV N = FdV V := by
  obtain ⟨_, _, _, _, _, h8⟩ := sc_rows h
  funext lot k
  unfold FdV
  rw [h8 17 (by decide) (by decide), h8 18 (by decide) (by decide), h8 19 (by decide) (by decide), h8 20 (by decide) (by decide), h8 21 (by decide) (by decide)]
theorem inL_sc {V N : pMem} (h : sc V N) : inL N = inL V := funext fun _ => inL_c (sc_rows h).2.2.1 (sc_rows h).1
theorem lkV_sc {V N : pMem} (h : sc V N) : lkV N = lkV V := lkV_c (sc_rows h).2.2.2.1
theorem thV_sc {V N : pMem} (h : sc V N) : thV N = thV V := by
  funext i
  unfold thV
  rw [(sc_rows h).2.2.1]
theorem FcV_sc {V N : pMem} (h : sc V N) : FcV N = FcV V := by
  obtain ⟨h1, h2, h3, h4, h5, h8⟩ := sc_rows h
  funext i j k
  unfold FcV
  rw [h2, lkV_sc h, h5, h1, FdV_sc h]
theorem FlV_sc {V N : pMem} (h : sc V N) : FlV N = FlV V := by
  funext lot k
  unfold FlV
  rw [inL_sc h, lkV_sc h, FdV_sc h]
theorem FbV_sc {V N : pMem} (h : sc V N) : FbV N = FbV V := by
  obtain ⟨h1, h2, h3, h4, h5, h8⟩ := sc_rows h
  funext b k
  unfold FbV
  rw [inL_sc h, lkV_sc h, FdV_sc h, h1, h2]
theorem rNb_sc {V N : pMem} {n : Nat} (h : sc V N) (hn : rNb V n) : rNb N n := by
  obtain ⟨h1, h2, h3, h4, h5, h8⟩ := sc_rows h
  refine ⟨hn.1, by rw [h8 2 (by decide) (by decide)]; exact hn.2.1, fun i a b => by rw [h3]; exact hn.2.2 i a b⟩
theorem rV_sc {V N : pMem} (h : sc V N) (hV : rV V) : rV N := by
  obtain ⟨⟨n, hn⟩, h2, h3, h4⟩ := hV
  obtain ⟨r1, r2, r3, r4, r5, r8⟩ := sc_rows h
  have r6 : N 196 = V 196 := sc_row h (by decide) rfl (by decide)
  exact ⟨⟨n, rNb_sc h hn⟩, by rw [r1, r3]; exact h2, by rw [r5]; exact h3, by rw [r6]; exact h4⟩
theorem aV_sc {V N : pMem} (h : sc V N) : agV V N := by
  obtain ⟨r1, r2, r3, r4, r5, r8⟩ := sc_rows h
  have q : ∀ a, 196 ≤ a → a ≤ 200 → N a = V a := fun a h1 h2 => by
    have e : a = 196 ∨ a = 197 ∨ a = 198 ∨ a = 199 ∨ a = 200 := by omega
    rcases e with rfl | rfl | rfl | rfl | rfl <;> exact sc_row h (by decide) rfl (by decide)
  refine ⟨⟨r8 1 (by decide) (by decide), r8 2 (by decide) (by decide), r8 3 (by decide) (by decide), r8 17 (by decide) (by decide), r8 18 (by decide) (by decide), r8 19 (by decide) (by decide), r8 20 (by decide) (by decide), r8 21 (by decide) (by decide)⟩, fun i _ => ?_, fun k _ => ?_, fun l _ => ?_⟩
  · rw [r1, r2, r3]
    exact ⟨rfl, rfl, rfl⟩
  · rw [r4, r5]
    exact ⟨rfl, rfl⟩
  · rw [q 196 (by decide) (by decide), q 197 (by decide) (by decide), q 198 (by decide) (by decide), q 199 (by decide) (by decide), q 200 (by decide) (by decide)]
    exact ⟨rfl, rfl, rfl, rfl, rfl⟩
theorem rLk_sc {V N : pMem} {k : Nat} {o : List Cd} {L : List Ln} (h : sc V N) (hL : rLk V k o L) : rLk N k o L :=
  rLk_c hL (fun b h1 h2 => sc_row h (by omega) (by
    have e : b = 204 ∨ b = 205 ∨ b = 206 ∨ b = 207 ∨ b = 208 ∨ b = 209 ∨ b = 210 ∨ b = 211 := by omega
    rcases e with rfl | rfl | rfl | rfl | rfl | rfl | rfl | rfl <;> rfl) (by omega)) ((sc_rows h).2.2.2.2.2 4 (by decide) (by decide))
/-! its steps -/
def bg0 (k p wr : Int32) (V : pMem) : pMem := aPut (aPut (aPut (aPut (aPut V 188 17 k) 188 18 p) 188 19 (V 188 3)) 188 20 (kI (-1))) 188 21 wr
def bgV (k p wr : Int32) (V : pMem) : pMem := if wr = kI (-1) then bg0 k p wr V else aPut (bg0 k p wr V) 200 (ix wr) (V 200 (ix wr) + kI 1)
def scoV (V : pMem) (p : Int32) : Int32 := f_43 (mnS (inL V p) (inL V p) (lkV V)) (kI 5) + drV (V 188 1) + stS (inL V p) (V 190) 24
def drwV (V : pMem) : pMem := aPut V 188 1 (xDraw (V 188 1))
def wonV (V : pMem) : Int32 := if scoV V (kI 0) = scoV (drwV V) (kI 1) then kI (-1) else if scoV V (kI 0) ≤ scoV (drwV V) (kI 1) then kI 1 else kI 0
def plV0 (V : pMem) : pMem := aPut (drwV (drwV V)) 188 20 (wonV V)
def plV (V : pMem) : pMem := if wonV V = kI (-1) then plV0 V else aPut (plV0 V) 199 (ix (wonV V)) (V 199 (ix (wonV V)) + kI 1)
/-- added wholly, held -/
def adL (x y : Int32) : Int32 := f_39 (Int32.toInt64 x + Int32.toInt64 y) (kI (-50)) (kI 50)
def cpl (V : pMem) (i j : Nat) : Bool := !decide (i = j) && (thV V i && thV V j)
def likV (o : List Cd) (L : List Ln) (V : pMem) : pMem := aRow V 194 fun k => if k < 576 ∧ cpl V (k / 24) (k % 24) = true then adL (V 194 k) (tl (FcV V (k / 24) (k % 24)) o (kI 14) L) else V 194 k
def h999 (x : Int32) : Int32 := if x ≤ kI 999 then x else kI 999
def fgV (o : List Cd) (L : List Ln) (l : Nat) (V : pMem) : pMem :=
  if 0 < tl (FlV V (kI (l : Nat))) o (kI 15) L then aPut (aPut (aPut (aPut V 188 54 (V 188 54 ||| kI 1 <<< (kI (l : Nat) &&& 31))) 197 l (V 197 l + kI 1)) 198 l (V 198 l + h999 (tl (FlV V (kI (l : Nat))) o (kI 15) L))) 188 55 (V 188 55 + h999 (tl (FlV V (kI (l : Nat))) o (kI 15) L)) else V
def fg0 (V : pMem) : pMem := aPut (aPut V 188 54 (kI 0)) 188 55 (kI 0)
def goV (o : List Cd) (L : List Ln) (V : pMem) (i : Nat) : Bool := thV V i && decide (0 < tl (FbV V i) o (kI 16) L)
def hoV (o : List Cd) (L : List Ln) (V : pMem) : pMem := aPut (aRow V 191 fun i => if i < 24 ∧ goV o L V i = true then kI 0 else V 191 i) 188 57 (kI (cN (goV o L V) 24 : Nat))
def na0 (V : pMem) : pMem := aPut V 188 56 (kI 0)
def naV (o : List Cd) (L : List Ln) (l : Nat) (V : pMem) : pMem :=
  if V 196 l = 0 ∧ 0 < tl (FlV V (kI (l : Nat))) o (kI 17) L then aPut (aPut V 196 l (V 188 3 + kI 1)) 188 56 (V 188 56 + kI 1) else V
/-- till the names; the day itself -/
def stV (o : List Cd) (L : List Ln) (k p wr : Int32) (V : pMem) : pMem :=
  naV o L 1 (naV o L 0 (na0 (hoV o L (fgV o L 1 (fgV o L 0 (fg0 (likV o L (if k = kI 1 then plV (bgV k p wr V) else bgV k p wr V))))))))
def dyV (V : pMem) : pMem := aPut V 188 3 (V 188 3 + kI 1)
