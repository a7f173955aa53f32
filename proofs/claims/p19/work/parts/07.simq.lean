/-! the instructions that read and write cells -/
def aTyL (cA : Nat → ClassId) : List (ClassId × FieldType) := (List.range 6).map fun t => (cA t, aAT.getD t .int)
theorem aTyL_at {cA : Nat → ClassId} {t : Nat} (ht : t < 6) : (aTyL cA)[t]? = some (cA t, aAT.getD t .int) := by
  unfold aTyL
  rw [List.getElem?_map, List.getElem?_range ht]
  rfl
/-- every reference that a cell holds is of a cell -/
def aWfh (h : aH) : Prop := ∀ k, k < h.1 → ∀ j r, (h.2.2.1 k).2.2 j = some r → r < h.1
def aRel (D : va_G) (cA : Nat → ClassId) (base : Nat) (H0 H : Heap) (locs : List Loc) (ad : Nat → Nat) (h : aH) : Prop := va_P D vwCl (aW cA ad h) H ∧ va_D (fun q => base ≤ q) (aW cA ad h) ∧ va_S (fun q => base ≤ q) H0 H locs ∧ aWfh h
/-- the script -/
def aScr (X : aX) (base : Nat) (ad : Nat → Nat) (s : State) (H0 : Heap) : Prop := va_X (ad 90000) X.1 X.2 s H0 ∧ ad 90000 < H0.size ∧ (¬ base ≤ ad 90000) ∧ aLib base ad s H0
theorem aCv_rf (ad : Nat → Nat) (o : Option Nat) : aCv ad (aRf o) = va_rf (o.map ad) := by cases o <;> rfl
theorem aIn_in {j : Int32} {n : Nat} (h : aInR j n = true) : vp_in j n := by
  unfold aInR at h
  exact vp_in_iff.mpr (of_decide_eq_true h)
theorem aAT_2 {t : Nat} (h2 : 2 ≤ t) (h5 : t < 5) : ∃ C, aAT.getD t .int = .object C := by
  rcases (show t = 2 ∨ t = 3 ∨ t = 4 by omega) with rfl | rfl | rfl
  · exact ⟨_, rfl⟩
  · exact ⟨_, rfl⟩
  · exact ⟨_, rfl⟩
section SIMQ
variable {p : Program} {l : Launch} {e : Env} {R : Room} {s : State} {m : MethodId} {args : Array Value} {below : List Frame} {meth : Method} {c : Code} {H : Heap} {locs : List Loc} {cells slots : Nat} {Q : State → Prop}
variable {cc : ByteArray} {pc len b base : Nat} {LS : Array Slot} {ad : Nat → Nat} {own : String} {ini : Bool} {spc : List Nat} {real : aI} {D : va_G} {cA : Nat → ClassId} {H0 : Heap} {X : aX} {h h' : aH} {st st' : List Value}
theorem aWaald (hexec : p.tables.exec = Jvm.exec) (hb : c.code = cc) {tys : List (ClassId × FieldType)} {ws : va_W} {a : Nat} (hK : va_K D vwCl tys s) (hP : va_P D vwCl ws H) (q0 t0 : Nat) {c0 : ClassId} {ty : FieldType} (hr : ty.isReference = true) {n : Nat} {f : Nat → Option Nat} (ha : ws[q0]? = some (a, .inl (c0, n, .inr (.inr (.inr (.inr f)))))) (ht : tys[t0]? = some (c0, ty)) {i : Int32} (hin : vp_in i n) (hdg : decode cc pc = .ok (.aaload, 1)) {rest : List Value}
    (kk : W p l e R s m args below meth c H locs cells slots Q (F0 m (pc + 1) LS (va_rf (f i.toNatClampNeg) :: rest))) : W p l e R s m args below meth c H locs cells slots Q (F0 m pc LS (.int i :: .ref a :: rest)) := by
  have hlt : i.toNatClampNeg < n := Nat.not_le.mp fun q => hin (Or.inr q)
  exact W.aald (v := va_rf (f i.toNatClampNeg)) (ty := ty) hexec hb (hP q0 _ ha) ((hK.2 t0 _ ht).1 n (fun j => va_rf (f j))) hr (fun q => by cases q) (by show ¬ (i < 0 ∨ (arrV _ _ _).slots.size ≤ _); rw [arrV_size]; exact hin) (by show (arrV _ _ _).slots[_]? = _; rw [arrV_read _ _ hlt]) rfl rfl hdg kk
theorem sQ_getfield (hx : p.tables.exec = Jvm.exec) (hb : c.code = cc) (hown : s.vm.findClass own = some m.cls) (hts : ∀ w ∈ aLT, w.before args s = true) (hK : va_K D vwCl (aTyL cA) s) {k : Nat}
    (haQ : aQ X (.getfield k) st h = some (st', h')) (hok : aOk own ini spc b pc real len (.getfield k) = true) (hdg : decode cc pc = .ok (real, len)) (hR : aRel D cA base H0 H locs ad h)
    (kk : ∀ H' locs', aRel D cA base H0 H' locs' ad h' → W p l e R s m args below meth c H' locs' cells slots Q (F0 m (pc + len) LS (st'.map (aCv ad)))) : W p l e R s m args below meth c H locs cells slots Q (F0 m pc LS (st.map (aCv ad))) := by
  simp only [aQ] at haQ
  split at haQ
  · rename_i a t
    split at haQ
    · rename_i hc
      obtain ⟨ha, hcl⟩ := hc
      cases haQ
      simp only [aOk] at hok
      split at hok
      · rename_i idx
        simp only [Bool.and_eq_true, decide_eq_true_eq] at hok
        obtain ⟨⟨⟨⟨rfl, hw⟩, hsl⟩, h13⟩, hft⟩ := hok
        obtain ⟨q, hq⟩ := aCls_all h13
        have he := aW_at (cA := cA) (ad := ad) ha
        rw [show aEl cA ad h a = _ from aElF_obj hcl (by omega)] at he
        have hv := aFs_at (ad := ad) (c := h.2.2.1 a) (f := h.2.2.2 a) hsl
        have hT : aTs (k / 1000 % 100) (k % 1000 / 4) = q.2.1 (k % 1000 / 4) := by unfold aTs; rw [hq]
        rw [hT] at hw
        have hN : k % 1000 / 4 < q.2.2 := by rw [(aCls_ok _ q hq).1]; exact hsl
        have hval : aCv ad (if k % 4 = 2 then aRf ((h.2.2.1 a).2.2 (k % 1000 / 4)) else .int (h.2.2.2 a (k % 1000 / 4))) = aFv ad (h.2.2.1 a) (h.2.2.2 a) (k / 1000 % 100) (k % 1000 / 4) := by
          unfold aFv
          rw [hft]
          by_cases e1 : k % 4 = 2
          · rw [if_pos e1, if_pos e1, aCv_rf]
          · rw [if_neg e1, if_neg e1]
            rfl
        have kk2 := kk H locs hR
        rw [List.map_cons, hval] at kk2
        unfold aWf1 at hw
        split at hw
        · rename_i heq
          simp only [Bool.and_eq_true, decide_eq_true_eq] at hw
          obtain ⟨⟨⟨⟨rfl, rfl⟩, rfl⟩, rfl⟩, rfl⟩ := hw
          exact va_get (C := q.1) (T := q.2.1) (N := q.2.2) hx hb hts (aCls_in _ q hq) hown hK hR.1 a he hq (k % 1000 / 4) hN (hts _ (aUs (List.mem_of_getElem? heq) rfl)) (fun x hx => hx) hv hdg kk2
        · rename_i heq
          simp only [Bool.and_eq_true, decide_eq_true_eq] at hw
          obtain ⟨⟨⟨⟨rfl, rfl⟩, rfl⟩, rfl⟩, rfl⟩ := hw
          exact va_getN (C := q.1) (T := q.2.1) (N := q.2.2) hx hb hts (aCls_in _ q hq) hown hK hR.1 a he hq (k % 1000 / 4) hN (hts _ (aUs (List.mem_of_getElem? heq) rfl)) (fun x hx => hx) hv hdg kk2
        · cases hw
      · cases hok
    · cases haQ
  · cases haQ
/-- a field is written, whatever it holds -/
theorem sQ_put (hx : p.tables.exec = Jvm.exec) (hb : c.code = cc) (hown : s.vm.findClass own = some m.cls) (hts : ∀ w ∈ aLT, w.before args s = true) (hini : ini = true → meth.name = "<init>") (hK : va_K D vwCl (aTyL cA) s) {k a : Nat} {v : Value} {t : List Value}
    (hok : aOk own ini spc b pc real len (.putfield k) = true) (hdg : decode cc pc = .ok (real, len)) (hR : aRel D cA base H0 H locs ad h) (ha : a < h.1) (hcl : (h.2.2.1 a).1 = k / 1000 % 100)
    (hn : ∀ ty, aTyOk (k % 4) ty = true → narrow ty v = v ∧ fits ty v = true)
    (hset : k / 1000 % 100 < 100 → aFt (k / 1000 % 100) (k % 1000 / 4) = k % 4 → (aW cA ad h).set a (ad a, .inr (k / 1000 % 100, (aFs ad (h.2.2.1 a) (h.2.2.2 a) (k / 1000 % 100)).set (k % 1000 / 4) v)) = aW cA ad h') (hwf : aWfh h')
    (kk : ∀ H' locs', aRel D cA base H0 H' locs' ad h' → W p l e R s m args below meth c H' locs' cells slots Q (F0 m (pc + len) LS t)) : W p l e R s m args below meth c H locs cells slots Q (F0 m pc LS (v :: .ref (ad a) :: t)) := by
  simp only [aOk] at hok
  split at hok
  · rename_i idx
    simp only [Bool.and_eq_true, decide_eq_true_eq] at hok
    obtain ⟨⟨⟨⟨⟨rfl, hw⟩, hsl⟩, h13⟩, hft⟩, hfin⟩ := hok
    obtain ⟨q, hq⟩ := aCls_all h13
    have he := aW_at (cA := cA) (ad := ad) ha
    rw [show aEl cA ad h a = _ from aElF_obj hcl (by omega)] at he
    have hT : aTs (k / 1000 % 100) (k % 1000 / 4) = q.2.1 (k % 1000 / 4) := by unfold aTs; rw [hq]
    rw [hT] at hw hfin
    obtain ⟨hN0, hnm, hty⟩ := aCls_ok _ q hq
    have hN : k % 1000 / 4 < q.2.2 := by rw [hN0]; exact hsl
    have hl : k % 1000 / 4 < (aFs ad (h.2.2.1 a) (h.2.2.2 a) (k / 1000 % 100)).length := by rw [aFs_len]; exact hsl
    have h2 := (hty _ hN).2
    rw [hft] at h2
    obtain ⟨hn1, hn2⟩ := hn _ h2
    have hset := hset (by omega) hft
    have kk2 : ∀ (H1 : Heap) (locs1 : List Loc), va_P D vwCl ((aW cA ad h).set a (ad a, .inr (k / 1000 % 100, (aFs ad (h.2.2.1 a) (h.2.2.2 a) (k / 1000 % 100)).set (k % 1000 / 4) v))) H1 → va_D (fun q => base ≤ q) ((aW cA ad h).set a (ad a, .inr (k / 1000 % 100, (aFs ad (h.2.2.1 a) (h.2.2.2 a) (k / 1000 % 100)).set (k % 1000 / 4) v))) → va_S (fun q => base ≤ q) H0 H1 locs1 → W p l e R s m args below meth c H1 locs1 cells slots Q (F0 m (pc + 3) LS t) := by
      rw [hset]
      exact fun H1 locs1 h1 h2 h3 => kk H1 locs1 ⟨h1, h2, h3, hwf⟩
    by_cases hf : (q.2.1 (k % 1000 / 4)).2.2.2 = true
    · rw [hf] at hfin
      simp only [Bool.not_true, Bool.false_or, Bool.and_eq_true, decide_eq_true_eq] at hfin
      obtain ⟨⟨hi, ho⟩, hfl⟩ := hfin
      unfold aWf1 at hw
      split at hw
      · rename_i heq
        simp only [Bool.and_eq_true, decide_eq_true_eq] at hw
        obtain ⟨⟨⟨⟨rfl, rfl⟩, rfl⟩, rfl⟩, rfl⟩ := hw
        exact va_putF (C := q.1) (T := q.2.1) (N := q.2.2) hx hb hts (aCls_in _ q hq) _ (fun k hk => (hty k hk).1) hnm hown hK hR.1 hR.2.1 hR.2.2.1 a he hq (k % 1000 / 4) hN (hts _ (aUs (List.mem_of_getElem? heq) rfl)) (fun x hx => hx) hf (hini hi) ho (hty _ hN).1 hn1 hn2 hl hdg kk2
      · rename_i heq
        rw [heq] at hfl
        cases hfl
      · cases hw
    · have hf : (q.2.1 (k % 1000 / 4)).2.2.2 = false := by simpa using hf
      unfold aWf1 at hw
      split at hw
      · rename_i heq
        simp only [Bool.and_eq_true, decide_eq_true_eq] at hw
        obtain ⟨⟨⟨⟨rfl, rfl⟩, rfl⟩, rfl⟩, rfl⟩ := hw
        exact va_put (C := q.1) (T := q.2.1) (N := q.2.2) hx hb hts (aCls_in _ q hq) _ (fun k hk => (hty k hk).1) hnm hown hK hR.1 hR.2.1 hR.2.2.1 a he hq (k % 1000 / 4) hN (hts _ (aUs (List.mem_of_getElem? heq) rfl)) (fun x hx => hx) hf (hty _ hN).1 hn1 hn2 hl hdg kk2
      · rename_i heq
        simp only [Bool.and_eq_true, decide_eq_true_eq] at hw
        obtain ⟨⟨⟨⟨rfl, rfl⟩, rfl⟩, rfl⟩, rfl⟩ := hw
        exact va_putN (C := q.1) (T := q.2.1) (N := q.2.2) hx hb hts (aCls_in _ q hq) _ (fun k hk => (hty k hk).1) hnm hown hK hR.1 hR.2.1 hR.2.2.1 a he hq (k % 1000 / 4) hN (hts _ (aUs (List.mem_of_getElem? heq) rfl)) (fun x hx => hx) hf (hty _ hN).1 hn1 hn2 hl hdg kk2
      · cases hw
  · cases hok
theorem aTy_num {x : Int32} {j : Nat} (h : j = 0 ∨ j = 1 ∧ (x = 0 ∨ x = 1)) : ∀ ty, aTyOk j ty = true → narrow ty (.int x) = .int x ∧ fits ty (.int x) = true := by
  intro ty hty
  rcases h with rfl | ⟨rfl, rfl | rfl⟩
  · cases ty <;> first | exact ⟨rfl, rfl⟩ | cases hty
  · cases ty <;> first | exact ⟨rfl, rfl⟩ | cases hty
  · cases ty <;> first | exact ⟨rfl, rfl⟩ | cases hty
theorem aTy_ref {r j : Nat} (h : j = 2) : ∀ ty, aTyOk j ty = true → narrow ty (.ref r) = .ref r ∧ fits ty (.ref r) = true := by
  intro ty hty
  subst h
  cases ty <;> first | exact ⟨rfl, rfl⟩ | cases hty
theorem aWfh_M {M : Nat → Nat → Int32} (hw : aWfh h) : aWfh (h.1, h.2.1, h.2.2.1, M) := hw
theorem aWfh_R {a j r : Nat} (hw : aWfh h) (hr : r < h.1) : aWfh (h.1, h.2.1, aSetR h.2.2.1 a j (some r), h.2.2.2) := by
  intro k hk i q hq
  dsimp only at hq hk ⊢
  unfold aSetR at hq
  split at hq
  · dsimp only at hq
    unfold va_up at hq
    split at hq
    · cases hq
      exact hr
    · exact hw k hk i q hq
  · exact hw k hk i q hq
theorem sQ_putfield (hx : p.tables.exec = Jvm.exec) (hb : c.code = cc) (hown : s.vm.findClass own = some m.cls) (hts : ∀ w ∈ aLT, w.before args s = true) (hini : ini = true → meth.name = "<init>") (hK : va_K D vwCl (aTyL cA) s) {k : Nat}
    (haQ : aQ X (.putfield k) st h = some (st', h')) (hok : aOk own ini spc b pc real len (.putfield k) = true) (hdg : decode cc pc = .ok (real, len)) (hR : aRel D cA base H0 H locs ad h)
    (kk : ∀ H' locs', aRel D cA base H0 H' locs' ad h' → W p l e R s m args below meth c H' locs' cells slots Q (F0 m (pc + len) LS (st'.map (aCv ad)))) : W p l e R s m args below meth c H locs cells slots Q (F0 m pc LS (st.map (aCv ad))) := by
  simp only [aQ] at haQ
  split at haQ
  · rename_i x a t
    split at haQ
    · rename_i hc
      obtain ⟨ha, hcl, hk⟩ := hc
      cases haQ
      exact sQ_put hx hb hown hts hini hK hok hdg hR ha hcl (aTy_num hk) (fun h1 h2 => aW_num ha hcl h1 (by omega)) (aWfh_M hR.2.2.2) kk
    · cases haQ
  · rename_i r a t
    split at haQ
    · rename_i hc
      obtain ⟨ha, hcl, hk, hr⟩ := hc
      cases haQ
      exact sQ_put hx hb hown hts hini hK hok hdg hR ha hcl (aTy_ref hk) (fun h1 h2 => aW_refO ha hcl h1 (by omega)) (aWfh_R hR.2.2.2 hr) kk
    · cases haQ
  · cases haQ
end SIMQ
