/-! the law, from its entry -/
section ROOT
variable {p : Program} {e : Env} {s : State} {m : MethodId} {args : Array Value} {below : List Frame} {meth : Method} {c : Code}
theorem aD_ex (hts : ∀ w ∈ aLT, w.before args s = true) : ∃ D : va_G, ∀ (ci : Nat) (q : vw_C), vwCl[ci]? = some q → u_Kn s q.1 q.2.1 q.2.2 (D.1 ci) (D.2 ci) := by
  have h0 : ∀ ci : Nat, ∃ z : ClassId × (Nat → Nat), ∀ q : vw_C, vwCl[ci]? = some q → u_Kn s q.1 q.2.1 q.2.2 z.1 z.2 := by
    intro ci
    cases hq : vwCl[ci]? with
    | none => exact ⟨(0, fun _ => 0), fun q h => by cases h⟩
    | some q =>
      obtain ⟨cC, iS, h⟩ := u_known (C := q.1) (T := q.2.1) (N := q.2.2) (n := q.2.2) hts (aCls_in _ q hq) (hts _ (aCls_new _ q hq).1)
      exact ⟨(cC, iS), fun q' h' => by cases h'; exact h⟩
  obtain ⟨f, hf⟩ := Classical.axiomOfChoice h0
  exact ⟨(fun ci => (f ci).1, fun ci => (f ci).2), hf⟩
theorem aArr_ok {ty : FieldType} {c0 : ClassId} {k : Class} {comp : ClassId} (h2 : s.vm.classes[c0]? = some k) (h3 : k.kind = .array comp ty) : ArrOfT s c0 ty := fun n z => ⟨fun k h => (by cases h), k, h2, comp, h3⟩
theorem aA_ex (hts : ∀ w ∈ lw_tbl, w.before args s = true) : ∃ cA : Nat → ClassId, ∀ t, t < 6 → ArrOfT s (cA t) (aAT.getD t .int) ∧ va_RA s (cA t) (aAT.getD t .int) := by
  have key : ∀ t : Nat, ∃ z : ClassId, t < 6 → ArrOfT s z (aAT.getD t .int) ∧ va_RA s z (aAT.getD t .int) := by
    intro t
    by_cases ht : t < 6
    · rcases (show t = 0 ∨ t = 1 ∨ t = 2 ∨ t = 3 ∨ t = 4 ∨ t = 5 by omega) with rfl | rfl | rfl | rfl | rfl | rfl
      · obtain ⟨c0, k, comp, h1, h2, h3⟩ := Cond.arrayClass_spec (hts _ (List.mem_filter.mp aArr_in.1).1)
        exact ⟨c0, fun _ => ⟨aArr_ok h2 h3, h1⟩⟩
      · obtain ⟨c0, k, comp, h1, h2, h3⟩ := Cond.arrayClass_spec (hts _ (List.mem_filter.mp aArr_in.2).1)
        exact ⟨c0, fun _ => ⟨aArr_ok h2 h3, h1⟩⟩
      · obtain ⟨comp, c0, k, h1, -, h2, h3, h4⟩ := Cond.arrayOver_spec (hts _ (aOver "TwoCamps$Law" (Or.inl rfl)))
        exact ⟨c0, fun _ => ⟨aArr_ok h2 h3, k, comp, h2, h3, h1, h4⟩⟩
      · obtain ⟨comp, c0, k, h1, -, h2, h3, h4⟩ := Cond.arrayOver_spec (hts _ (aOver "TwoCamps$Plan" (Or.inr (Or.inl rfl))))
        exact ⟨c0, fun _ => ⟨aArr_ok h2 h3, k, comp, h2, h3, h1, h4⟩⟩
      · obtain ⟨comp, c0, k, h1, -, h2, h3, h4⟩ := Cond.arrayOver_spec (hts _ (aOver "TwoCamps$Wood" (Or.inr (Or.inr rfl))))
        exact ⟨c0, fun _ => ⟨aArr_ok h2 h3, k, comp, h2, h3, h1, h4⟩⟩
      · obtain ⟨comp, c0, k, h1, h2, h3, h4⟩ := Cond.arrayOver_specA (hts (Cond.arrayOver (.array .int)) (by decide +kernel))
        exact ⟨c0, fun _ => ⟨aArr_ok h2 h3, h4⟩⟩
    · exact ⟨0, fun h => absurd h ht⟩
  obtain ⟨f, hf⟩ := Classical.axiomOfChoice key
  exact ⟨f, hf⟩
theorem aNw_of (hts : ∀ w ∈ lw_tbl, w.before args s = true) : aNw s := by
  refine ⟨fun w hw hn => ?_, fun C hC => va_AO.of (hts _ hC)⟩
  have h := hts w hw
  cases w <;> first | exact va_Nw.of rfl h | cases hn
/-- the empty heap -/
def aH0 : aH := (0, 0, fun _ => (0, 0, fun _ => none), fun _ _ => 0)
/-- the script at b, all else as before -/
def aAd0 (b : Nat) (ad : Nat → Nat) : Nat → Nat := fun k => if k = 90000 then b else ad k
theorem aRoot {l : Launch} {b L : Nat} {xs : Nat → Int32} (C0 : lw_At p s m meth c b L xs) (hprim : ∀ D cA base X, aPrim l D cA base X) (hlib : ∃ ad : Nat → Nat, aLib s.heap.size ad s s.heap) {F : Nat} {hF : aH} (hrun : aE (L, xs) (aM (L, xs) F 60) 2 (aMC 241) F 0 (aEn [.ref 90000] 4) [] aH0 = some (some (.int 1), hF)) (hc : hF.1 ≤ 600000) (hs : hF.2.1 ≤ 7302250) :
    W p l e room_1 s m #[Value.ref b] below meth c s.heap [] 0 0 (lw_Z below #[Value.ref b] s) (entryFrame m ([Value.ref b] : List Value).toArray 4) := by
  obtain ⟨hx, hb, hr, hml, hown, hts, hX, hbl, hlocks, -⟩ := C0
  obtain ⟨ad1, hlib⟩ := hlib
  have hlib2 : aLib s.heap.size (aAd0 b ad1) s s.heap := hlib.ad (fun i => if_neg (by omega))
  have htsL : ∀ w ∈ aLT, w.before #[Value.ref b] s = true := fun w hw => hts w (List.mem_filter.mp hw).1
  obtain ⟨D, hD⟩ := aD_ex htsL
  obtain ⟨cA, hA⟩ := aA_ex hts
  have hK : va_K D vwCl (aTyL cA) s := ⟨hD, fun k q hk => by
    have h6 : k < 6 := by
      have h9 := (List.getElem?_eq_some_iff.mp hk).1
      unfold aTyL at h9
      rw [List.length_map, List.length_range] at h9
      exact h9
    rw [aTyL_at h6] at hk
    cases hk
    exact hA k h6⟩
  have hM := aOkM 241 (by omega)
  unfold aCkM at hM
  simp only [Bool.and_eq_true, decide_eq_true_eq] at hM
  obtain ⟨hC, hsp0⟩ := hM
  rw [lg_entry_eq]
  have hL := aEn_rel (ad := aAd0 b ad1) (as := [.ref 90000]) (n := 4) (by decide)
  have hP0 : va_P D vwCl (aW cA (aAd0 b ad1) aH0) s.heap := fun k q h => by cases h
  have hD0 : va_D (fun q => s.heap.size ≤ q) (aW cA (aAd0 b ad1) aH0) := by
    refine ⟨fun i j p q h => ?_, fun k q h => ?_⟩
    · cases h
    · cases h
  have hlen : aIs.length = 242 := by decide +kernel
  have hpr : aPrim l D cA s.heap.size (L, xs) := @hprim D cA s.heap.size (L, xs)
  have hall := sim_all (F := F) hpr aOkW (fun y hy => aOkM y (by omega)) 60
  refine sim_E (l := l) (e := e) (below := below) (R := room_1) (Q := lw_Z below #[Value.ref b] s) (rt := 2) (n0 := 0) (sl0 := 0) (ad0 := aAd0 b ad1) (hF := hF) (rvF := some (.int 1)) (base := s.heap.size) (H0 := s.heap) (X := (L, xs)) (d := 60) (nL := 4) (cal := aM (L, xs) F 60) hpr hx hb hml hown htsL
    (fun hi => absurd hi (by decide +kernel)) (aNw_of hts) hK ⟨hX, hbl, Nat.not_le.mpr hbl, hlib2⟩ (Nat.le_refl _) hall (aM_mo 60) aOkW (Nat.le_of_ble_eq_true rfl) (Nat.le_of_ble_eq_true rfl) hc hs hC
    (fun ad H locs pc LS hR hag hro hdg => va_forget (fun q hq => hR.2.2.1.2.2 q hq) (W.widen hc hs (lw_ret hx hb hr hlocks hdg)))
    F 0 (aEn [.ref 90000] 4) [] aH0 (aAd0 b ad1) _ s.heap [] 0 hrun ⟨hP0, hD0, va_S.rf, fun k hk => absurd hk (Nat.not_lt_zero k)⟩ hL (Nat.le_refl _) (Nat.le_refl _) aAgr.rf hsp0
end ROOT
