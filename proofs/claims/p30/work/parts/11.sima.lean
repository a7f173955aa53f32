/-! new cells -/
theorem aCls_new : ∀ (ci : Nat) (q : vw_C), vwCl[ci]? = some q → Cond.instantiable q.1 q.2.2 ∈ aLT ∧ Cond.initialized q.1 ∈ aLT := by
  intro ci q hq
  match ci, hq with
  | 0, hq => cases hq; decide +kernel
  | 1, hq => cases hq; decide +kernel
  | 2, hq => cases hq; decide +kernel
  | 3, hq => cases hq; decide +kernel
  | 4, hq => cases hq; decide +kernel
  | 5, hq => cases hq; decide +kernel
  | 6, hq => cases hq; decide +kernel
  | 7, hq => cases hq; decide +kernel
  | 8, hq => cases hq; decide +kernel
  | 9, hq => cases hq; decide +kernel
  | 10, hq => cases hq; decide +kernel
  | 11, hq => cases hq; decide +kernel
  | 12, hq => cases hq; decide +kernel
  | k + 13, hq => simp [vwCl] at hq
theorem aArr_in : Cond.arrayClass .int ∈ aLT ∧ Cond.arrayClass .boolean ∈ aLT := by decide +kernel
theorem aDef {c : Nat} {t : FieldType} (h : aTyOk c t = true) : defaultValue t = if c = 2 then .null else .int 0 := by
  unfold aTyOk at h
  split at h <;> first | rfl | cases h
/-- the addresses when n cells come -/
def aNad (ad : Nat → Nat) (h n : Nat) (qs : Nat → Nat) : Nat → Nat := fun k => if h ≤ k ∧ k < h + n then qs (k - h) else ad k
section SIMA
variable {p : Program} {l : Launch} {e : Env} {R : Room} {s : State} {m : MethodId} {args : Array Value} {below : List Frame} {meth : Method} {c : Code} {H : Heap} {locs : List Loc} {cells slots : Nat} {Q : State → Prop}
variable {cc : ByteArray} {pc len b base d nL : Nat} {LS : Array Slot} {ad : Nat → Nat} {own : String} {ini : Bool} {spc : List Nat} {real : aI} {D : va_G} {cA : Nat → ClassId} {H0 : Heap} {X : aX} {h h' : aH} {ls st st' : List Value}
theorem aNad_old {n : Nat} {qs : Nat → Nat} {k : Nat} (hk : k < h.1) : aNad ad h.1 n qs k = ad k := by
  unfold aNad
  rw [if_neg (by omega)]
theorem aNad_new {n : Nat} {qs : Nat → Nat} {k : Nat} (hk : k < n) : aNad ad h.1 n qs (h.1 + k) = qs k := by
  unfold aNad
  rw [if_pos (by omega), Nat.add_sub_cancel_left]
theorem aNad_agr {n : Nat} {qs : Nat → Nat} (hn : h.1 + n < 90000) : aAgr h.1 (h.1 + n) ad (aNad ad h.1 n qs) := by
  intro k hk
  unfold aNad
  rw [if_neg (by omega)]
/-- the world and the room when n cells have come -/
theorem aNew_k {n sl : Nat} {f : Nat → aK} {qs : Nat → Nat} {ws : va_W} {H1 : Heap} {locs1 : List Loc} {rest : List Value} {pc' : Nat} (hn : h.1 + n < 90000) (hR : aRel D cA base H0 H locs ad h) (hL : lvR LS nL ad ls) (hok : (ls ++ rest).all (aOkv h.1) = true)
    (hws : ws = (List.range n).map (fun k => (qs k, aElF cA (aNad ad h.1 n qs) (f (h.1 + k)) (fun _ => 0)))) (hf : ∀ k, k < n → ∀ j r, (f (h.1 + k)).2.2 j = some r → r < h.1 + n)
    (hP : va_P D vwCl (aW cA ad h ++ ws) H1) (hD : va_D (fun q => base ≤ q) (aW cA ad h ++ ws)) (hS : va_S (fun q => base ≤ q) H0 H1 locs1)
    (kk : ∀ ad' H' locs', aAgr h.1 (aNew h n sl f).1 ad ad' → aRel D cA base H0 H' locs' ad' (aNew h n sl f) → lvR LS nL ad' ls → W p l e R s m args below meth c H' locs' (cells + ((aNew h n sl f).1 - h.1)) (slots + ((aNew h n sl f).2.1 - h.2.1)) Q (F0 m pc' LS ((.ref h.1 :: rest).map (aCv ad')))) (hn0 : 0 < n) :
    W p l e R s m args below meth c H1 locs1 (cells + n) (slots + sl) Q (F0 m pc' LS (.ref (qs 0) :: rest.map (aCv ad))) := by
  have hag : aAgr h.1 (aNew h n sl f).1 ad (aNad ad h.1 n qs) := aNad_agr hn
  have hw : aW cA (aNad ad h.1 n qs) (aNew h n sl f) = aW cA ad h ++ ws := by
    rw [aW_new (fun k hk => aNad_old hk) (fun k hk j r hr => aNad_old (hR.2.2.2 k hk j r hr)), hws]
    congr 1
    apply List.map_congr_left
    intro k hk
    rw [aNad_new (List.mem_range.mp hk)]
  have hall := aOkv_all (vs := ls ++ rest) hag (Or.inr hok)
  have k2 := kk (aNad ad h.1 n qs) H1 locs1 hag ⟨by rw [hw]; exact hP, by rw [hw]; exact hD, hS, fun k hk j r hr => by
    unfold aNew at hk hr ⊢
    dsimp only at hk hr ⊢
    split at hr
    · have e1 : h.1 + (k - h.1) = k := by omega
      exact hf (k - h.1) (by omega) j r (by rw [e1]; exact hr)
    · have := hR.2.2.2 k (by omega) j r hr
      omega⟩ (hL.ad (fun v hv => hall v (List.mem_append_left _ hv)))
  have e1 : (aNew h n sl f).1 - h.1 = n := Nat.add_sub_cancel_left _ _
  have e2 : (aNew h n sl f).2.1 - h.2.1 = sl := Nat.add_sub_cancel_left _ _
  rw [e1, e2] at k2
  have e3 : (.ref h.1 :: rest).map (aCv (aNad ad h.1 n qs)) = .ref (qs 0) :: rest.map (aCv ad) := by
    rw [List.map_cons]
    congr 1
    · show Value.ref (aNad ad h.1 n qs h.1) = _
      rw [show aNad ad h.1 n qs h.1 = qs 0 from aNad_new (k := 0) hn0]
    · exact List.map_congr_left (fun v hv => hall v (List.mem_append_right _ hv))
  rw [e3] at k2
  exact k2
theorem aCA (hK : va_K D vwCl (aTyL cA) s) {tys : List (ClassId × FieldType)} {c' : ClassId} {t : Nat} (ht : t < 6) (hK' : va_K D vwCl (tys ++ [(c', aAT.getD t .int)]) s) : c' = cA t := by
  have h1 := (hK.2 t _ (aTyL_at ht)).2
  have h2 := (hK'.2 tys.length _ (by rw [List.getElem?_append_right (Nat.le_refl _), Nat.sub_self]; rfl)).2
  dsimp only at h1 h2
  generalize aAT.getD t .int = ty at h1 h2
  cases ty with
  | object C =>
    obtain ⟨_, _, _, _, _, g1⟩ := h1
    obtain ⟨_, _, _, _, _, g2⟩ := h2
    exact Option.some.inj (g2.symm.trans g1)
  | _ => exact Option.some.inj (h2.symm.trans h1)
theorem sA_new (hx : p.tables.exec = Jvm.exec) (hb : c.code = cc) (hown : s.vm.findClass own = some m.cls) (hts : ∀ w ∈ aLT, w.before args s = true) (hK : va_K D vwCl (aTyL cA) s) (hbase : base ≤ H0.size) {k : Nat}
    (haA : aA (.new k) ls st h = some (st', h')) (hok : aOk own ini spc b pc real len (.new k) = true) (hdg : decode cc pc = .ok (real, len)) (hR : aRel D cA base H0 H locs ad h) (hL : lvR LS nL ad ls) (hcells : cells + (h'.1 - h.1) ≤ R.cells) (hslots : slots + (h'.2.1 - h.2.1) ≤ R.slots)
    (kk : ∀ ad' H' locs', aAgr h.1 h'.1 ad ad' → aRel D cA base H0 H' locs' ad' h' → lvR LS nL ad' ls → W p l e R s m args below meth c H' locs' (cells + (h'.1 - h.1)) (slots + (h'.2.1 - h.2.1)) Q (F0 m (pc + len) LS (st'.map (aCv ad')))) : W p l e R s m args below meth c H locs cells slots Q (F0 m pc LS (st.map (aCv ad))) := by
  unfold aA at haA
  split at haA
  · rename_i hg
    simp only [Bool.and_eq_true, decide_eq_true_eq] at hg
    obtain ⟨hg, h8⟩ := hg
    dsimp only at haA
    cases haA
    simp only [aOk] at hok
    split at hok
    · rename_i idx
      simp only [Bool.and_eq_true, decide_eq_true_eq] at hok
      obtain ⟨⟨rfl, hw⟩, h13⟩ := hok
      obtain ⟨q, hq⟩ := aCls_all h13
      obtain ⟨hN0, -, hty⟩ := aCls_ok _ q hq
      obtain ⟨g1, g2⟩ := aCls_new _ q hq
      rw [show aCn (k % 100) = q.1 by unfold aCn; rw [hq]] at hw
      have e1 : (aNew h 1 (aNF (k % 100)) (fun _ => (k % 100, 0, fun _ => none))).1 - h.1 = 1 := Nat.add_sub_cancel_left _ _
      have e2 : (aNew h 1 (aNF (k % 100)) (fun _ => (k % 100, 0, fun _ => none))).2.1 - h.2.1 = aNF (k % 100) := Nat.add_sub_cancel_left _ _
      rw [e1] at hcells
      rw [e2] at hslots
      refine va_new (C := q.1) (T := q.2.1) (N := q.2.2) (ci := k % 100) (fs := aFs ad (k % 100, 0, fun _ => none) (fun _ => 0) (k % 100)) hx hb hts (aCls_in _ q hq) (aTy (k % 100)) (fun j hj => (hty j hj).1) hown (hts _ (aUs (List.mem_of_getElem? hw) rfl)) (hts _ g1) (hts _ g2) hK hR.1 hR.2.1 hR.2.2.1 (fun q hq => Nat.le_trans hbase hq) hq (fun j hj => ?_) hcells (by rw [hN0]; exact hslots) hdg (fun q1 H1 hP1 hD1 hS1 => ?_)
      · rw [aDef (hty j hj).2]
        unfold vp_V
        rw [List.getD_eq_getElem?_getD, aFs_at (by rw [← hN0]; exact hj)]
        unfold aFv
        by_cases e3 : aFt (k % 100) j = 2
        · rw [if_pos e3, if_pos e3]
          rfl
        · rw [if_neg e3, if_neg e3]
          rfl
      · rw [hN0]
        refine aNew_k (qs := fun _ => q1) (by omega) hR hL hg ?_ (fun _ _ j r hr => by cases hr) hP1 hD1 hS1 kk (by omega)
        show _ = [(q1, aElF cA _ (k % 100, 0, fun _ => none) (fun _ => 0))]
        rw [aElF_obj (ci := k % 100) rfl (by omega)]
        rfl
    · cases hok
  · cases haA
theorem sA_newarray (hx : p.tables.exec = Jvm.exec) (hb : c.code = cc) (hts : ∀ w ∈ aLT, w.before args s = true) (hK : va_K D vwCl (aTyL cA) s) (hbase : base ≤ H0.size) {at_ : Jvm.ClassFile.ArrayType}
    (haA : aA (.newarray at_) ls st h = some (st', h')) (hok : aOk own ini spc b pc real len (.newarray at_) = true) (hdg : decode cc pc = .ok (real, len)) (hR : aRel D cA base H0 H locs ad h) (hL : lvR LS nL ad ls) (hcells : cells + (h'.1 - h.1) ≤ R.cells) (hslots : slots + (h'.2.1 - h.2.1) ≤ R.slots)
    (kk : ∀ ad' H' locs', aAgr h.1 h'.1 ad ad' → aRel D cA base H0 H' locs' ad' h' → lvR LS nL ad' ls → W p l e R s m args below meth c H' locs' (cells + (h'.1 - h.1)) (slots + (h'.2.1 - h.2.1)) Q (F0 m (pc + len) LS (st'.map (aCv ad')))) : W p l e R s m args below meth c H locs cells slots Q (F0 m pc LS (st.map (aCv ad))) := by
  unfold aA at haA
  split at haA
  · rename_i hg
    simp only [Bool.and_eq_true, decide_eq_true_eq] at hg
    obtain ⟨hg, h8⟩ := hg
    simp only [aOk, Bool.and_eq_true, decide_eq_true_eq] at hok
    obtain ⟨rfl, rfl⟩ := hok
    have key : ∀ (t : Nat) (x : Int32) (rest : List Value), t < 2 → st = .int x :: rest → aAT.getD t .int = newarray.typeOf at_ → defaultValue (newarray.typeOf at_) = .int 0 → componentBytes (newarray.typeOf at_) ≤ 4 → Cond.arrayClass (newarray.typeOf at_) ∈ aLT → aInR x 100001 = true → st' = .ref h.1 :: rest → h' = aNew h 1 x.toNatClampNeg (fun _ => (100 + t, x.toNatClampNeg, fun _ => none)) → W p l e R s m args below meth c H locs cells slots Q (F0 m pc LS (st.map (aCv ad))) := by
      intro t x rest ht hst hty hdv hcb harr hin e1 e2
      subst e1; subst e2; subst hst
      have e1 : (aNew h 1 x.toNatClampNeg (fun _ => (100 + t, x.toNatClampNeg, fun _ => none))).1 - h.1 = 1 := Nat.add_sub_cancel_left _ _
      have e2 : (aNew h 1 x.toNatClampNeg (fun _ => (100 + t, x.toNatClampNeg, fun _ => none))).2.1 - h.2.1 = x.toNatClampNeg := Nat.add_sub_cancel_left _ _
      rw [e1] at hcells
      rw [e2] at hslots
      have hv := aIn_in hin
      have hlt : x.toNatClampNeg < 100001 := Nat.not_le.mp fun q => hv (Or.inr q)
      have hbytes : x.toNatClampNeg * componentBytes (newarray.typeOf at_) ≤ 536870912 := Nat.le_trans (Nat.mul_le_mul (Nat.le_of_lt hlt) hcb) (by omega)
      refine va_newa (a0 := (x.toNatClampNeg, .inl (fun _ => 0))) hx hb (hts _ harr) rfl hK hR.1 hR.2.1 hR.2.2.1 (fun q hq => Nat.le_trans hbase hq) (fun c => by rw [vp_cell_i, hdv]) (fun q => hv (Or.inl q)) rfl hbytes hcells hslots hdg (fun q1 c1 H1 hK1 hP1 hD1 hS1 => ?_)
      rw [← hty] at hK1
      have ec := aCA hK (by omega) hK1
      subst ec
      refine aNew_k (qs := fun _ => q1) (by omega) hR hL (List.all_eq_true.mpr (fun v hv => List.all_eq_true.mp hg v (by
        rcases List.mem_append.mp hv with hv | hv
        · exact List.mem_append_left _ hv
        · exact List.mem_append_right _ (List.mem_cons_of_mem _ hv)))) ?_ (fun _ _ j r hr => by cases hr) hP1 hD1 hS1 kk (by omega)
      show _ = [(q1, aElF cA _ (100 + t, x.toNatClampNeg, fun _ => none) (fun _ => 0))]
      rw [aElF_num (t := t) rfl ht]
    split at haA
    · rename_i heq
      cases heq
    · rename_i heq
      cases heq
      split at haA
      · rename_i x rest
        split at haA
        · rename_i hin
          cases haA
          exact key 0 x rest (by omega) rfl rfl rfl (by decide) aArr_in.1 hin rfl rfl
        · cases haA
      · cases haA
    · rename_i heq
      cases heq
      split at haA
      · rename_i x rest
        split at haA
        · rename_i hin
          cases haA
          exact key 1 x rest (by omega) rfl rfl rfl (by decide) aArr_in.2 hin rfl rfl
        · cases haA
      · cases haA
    · rename_i heq
      cases heq
    · rename_i heq
      cases heq
    · cases haA
  · cases haA
theorem sA_anewarray (hx : p.tables.exec = Jvm.exec) (hb : c.code = cc) (hown : s.vm.findClass own = some m.cls) (hts : ∀ w ∈ aLT, w.before args s = true) (hN : aNw s) (hK : va_K D vwCl (aTyL cA) s) (hbase : base ≤ H0.size) {k : Nat} (hov : ∀ C, (C = "TwoCamps$Law" ∨ C = "TwoCamps$Plan" ∨ C = "TwoCamps$Wood") → Cond.arrayOver (.object C) ∈ lw_tbl)
    (haA : aA (.anewarray k) ls st h = some (st', h')) (hok : aOk own ini spc b pc real len (.anewarray k) = true) (hdg : decode cc pc = .ok (real, len)) (hR : aRel D cA base H0 H locs ad h) (hL : lvR LS nL ad ls) (hcells : cells + (h'.1 - h.1) ≤ R.cells) (hslots : slots + (h'.2.1 - h.2.1) ≤ R.slots)
    (kk : ∀ ad' H' locs', aAgr h.1 h'.1 ad ad' → aRel D cA base H0 H' locs' ad' h' → lvR LS nL ad' ls → W p l e R s m args below meth c H' locs' (cells + (h'.1 - h.1)) (slots + (h'.2.1 - h.2.1)) Q (F0 m (pc + len) LS (st'.map (aCv ad')))) : W p l e R s m args below meth c H locs cells slots Q (F0 m pc LS (st.map (aCv ad))) := by
  unfold aA at haA
  split at haA
  · rename_i hg
    simp only [Bool.and_eq_true, decide_eq_true_eq] at hg
    obtain ⟨hg, h8⟩ := hg
    dsimp only at haA
    split at haA
    · rename_i x rest
      split at haA
      · rename_i hin
        cases haA
        simp only [aOk] at hok
        split at hok
        · rename_i idx
          simp only [Bool.and_eq_true, decide_eq_true_eq] at hok
          obtain ⟨⟨rfl, hk2, hk5⟩, hm⟩ := hok
          split at hm
          · rename_i C hC
            have hm := of_decide_eq_true hm
            have hCd : aAT.getD (k % 100) .int = .object C := by rw [List.getD_eq_getElem?_getD, hC]; rfl
            have hCC : C = "TwoCamps$Law" ∨ C = "TwoCamps$Plan" ∨ C = "TwoCamps$Wood" := by
              rcases (show k % 100 = 2 ∨ k % 100 = 3 ∨ k % 100 = 4 by omega) with q | q | q <;> rw [q] at hCd
              · exact Or.inl (FieldType.object.inj hCd).symm
              · exact Or.inr (Or.inl (FieldType.object.inj hCd).symm)
              · exact Or.inr (Or.inr (FieldType.object.inj hCd).symm)
            have e1 : (aNew h 1 x.toNatClampNeg (fun _ => (100 + k % 100, x.toNatClampNeg, fun _ => none))).1 - h.1 = 1 := Nat.add_sub_cancel_left _ _
            have e2 : (aNew h 1 x.toNatClampNeg (fun _ => (100 + k % 100, x.toNatClampNeg, fun _ => none))).2.1 - h.2.1 = x.toNatClampNeg := Nat.add_sub_cancel_left _ _
            rw [e1] at hcells
            rw [e2] at hslots
            have hv := aIn_in hin
            have hlt : x.toNatClampNeg < 100001 := Nat.not_le.mp fun q => hv (Or.inr q)
            refine va_newq (C := C) hx hb hown (hts _ (aUs (List.mem_of_getElem? hm) rfl)) (hN.2 C (hov C hCC)) hK hR.1 hR.2.1 hR.2.2.1 (fun q hq => Nat.le_trans hbase hq) (fun q => hv (Or.inl q)) rfl (by omega) hcells hslots hdg (fun q1 c1 H1 hK1 hP1 hD1 hS1 => ?_)
            rw [← hCd] at hK1
            have ec := aCA hK (by omega) hK1
            subst ec
            refine aNew_k (qs := fun _ => q1) (by omega) hR hL (List.all_eq_true.mpr (fun v hv => List.all_eq_true.mp hg v (by
              rcases List.mem_append.mp hv with hv | hv
              · exact List.mem_append_left _ hv
              · exact List.mem_append_right _ (List.mem_cons_of_mem _ hv)))) ?_ (fun _ _ j r hr => by cases hr) hP1 hD1 hS1 kk (by omega)
            show _ = [(q1, aElF cA _ (100 + k % 100, x.toNatClampNeg, fun _ => none) (fun _ => 0))]
            rw [aElF_ref (t := k % 100) rfl hk2]
            rfl
          · cases hm
        · cases hok
      · cases haA
    · cases haA
  · cases haA
end SIMA
/-! the ends of blocks -/
theorem aTo_spec {spc : List Nat} {t : Int} {z : Int} (h : aTo spc t = some z) : ∃ q, spc[t.toNat]? = some q ∧ z = (q : Int) := by
  unfold aTo at h
  split at h
  · rename_i q hq
    cases h
    exact ⟨q, hq, rfl⟩
  · cases h
theorem aTab {spc : List Nat} {z : Int} : ∀ {a c : List Int} {j : Nat} {o : Int}, a.map (fun t => aTo spc t) = c.map (fun off => some (z + off)) → a[j]? = some o → ∃ off, c[j]? = some off ∧ aTo spc o = some (z + off) := by
  intro a c j o h hj
  have h1 : (a.map (fun t => aTo spc t))[j]? = some (aTo spc o) := by rw [List.getElem?_map, hj]; rfl
  rw [h, List.getElem?_map] at h1
  cases hc : c[j]? with
  | none => rw [hc] at h1; cases h1
  | some off => rw [hc] at h1; exact ⟨off, rfl, (Option.some.inj h1).symm⟩
theorem aLk {spc : List Nat} {z x : Int} {d d' : Int} (hd : aTo spc d = some (z + d')) : ∀ {a c : List (Int × Int)}, a.map (fun t => (t.1, aTo spc t.2)) = c.map (fun t => (t.1, some (z + t.2))) → aTo spc (Op.lookupswitch.offset a d x) = some (z + Op.lookupswitch.offset c d' x) := by
  intro a
  induction a with
  | nil =>
    intro c h
    cases c with
    | nil => exact hd
    | cons q r => cases h
  | cons q r ih =>
    intro c h
    cases c with
    | nil => cases h
    | cons q' r' =>
      rw [List.map_cons, List.map_cons] at h
      obtain ⟨h1, h2⟩ := List.cons.inj h
      obtain ⟨k, o⟩ := q
      obtain ⟨k', o'⟩ := q'
      have e1 : k = k' := congrArg Prod.fst h1
      have e2 : aTo spc o = some (z + o') := congrArg Prod.snd h1
      subst e1
      rw [Op.lookupswitch.offset_cons, Op.lookupswitch.offset_cons]
      split
      · exact e2
      · exact ih h2
def aRetI : Option Value → aI
  | none => .return_
  | some (.int _) => .ireturn
  | some (.long _) => .lreturn
  | _ => .areturn
/-- what a method gives back, by its code -/
def aRetOk (rt : Nat) : Option Value → Prop
  | none => rt = 0
  | some (.int x) => rt = 1 ∨ rt = 2 ∧ (x = 0 ∨ x = 1)
  | some (.long _) => rt = 3
  | some (.ref _) => rt = 4
  | _ => False
section SIMT
variable {p : Program} {l : Launch} {e : Env} {R : Room} {s : State} {m : MethodId} {args : Array Value} {below : List Frame} {meth : Method} {c : Code} {H : Heap} {locs : List Loc} {cells slots : Nat} {Q : State → Prop}
variable {cc : ByteArray} {pc len b rt : Nat} {LS : Array Slot} {ad : Nat → Nat} {own : String} {ini : Bool} {spc : List Nat} {real : aI} {h : aH} {ls st : List Value} {res : aR}

theorem sT_goto (hx : p.tables.exec = Jvm.exec) (hb : c.code = cc) {n : Int} (haT : aT rt b (.goto n) ls st h = some res) (hok : aOk own ini spc b pc real len (.goto n) = true) (hdg : decode cc pc = .ok (real, len))
    (kj : ∀ b' t, res = .inl (b', ls, t, h) → ∀ q, spc[b']? = some q → W p l e R s m args below meth c H locs cells slots Q (F0 m q LS (t.map (aCv ad))))
    (kend : ∀ rv, res = .inr (rv, h) → aRetOk rt rv → decode cc pc = .ok (aRetI rv, 1) → W p l e R s m args below meth c H locs cells slots Q (F0 m pc LS (rv.map (aCv ad)).toList)) : W p l e R s m args below meth c H locs cells slots Q (F0 m pc LS (st.map (aCv ad))) := by
  simp only [aT] at haT
  cases haT
  simp only [aOk] at hok
  split at hok
  · simp only [Bool.and_eq_true, decide_eq_true_eq] at hok
    obtain ⟨rfl, ht⟩ := hok
    obtain ⟨q, hq, hz⟩ := aTo_spec ht
    exact lv_goto hx hb hdg hz (kj _ _ rfl _ hq)
  · cases hok

theorem sT_ifCond (hx : p.tables.exec = Jvm.exec) (hb : c.code = cc) {c9 : Jvm.ClassFile.Cond} {n : Int} (haT : aT rt b (.ifCond c9 n) ls st h = some res) (hok : aOk own ini spc b pc real len (.ifCond c9 n) = true) (hdg : decode cc pc = .ok (real, len))
    (kj : ∀ b' t, res = .inl (b', ls, t, h) → ∀ q, spc[b']? = some q → W p l e R s m args below meth c H locs cells slots Q (F0 m q LS (t.map (aCv ad))))
    (kend : ∀ rv, res = .inr (rv, h) → aRetOk rt rv → decode cc pc = .ok (aRetI rv, 1) → W p l e R s m args below meth c H locs cells slots Q (F0 m pc LS (rv.map (aCv ad)).toList)) : W p l e R s m args below meth c H locs cells slots Q (F0 m pc LS (st.map (aCv ad))) := by
  simp only [aT] at haT
  split at haT
  · rename_i x t
    cases haT
    simp only [aOk] at hok
    split at hok
    · rename_i c8 off
      simp only [Bool.and_eq_true, decide_eq_true_eq] at hok
      obtain ⟨⟨⟨rfl, rfl⟩, ht⟩, hf⟩ := hok
      obtain ⟨q, hq, hz⟩ := aTo_spec ht
      have k1 : aCd c8 x 0 = true → W p l e R s m args below meth c H locs cells slots Q (F0 m q LS (t.map (aCv ad))) := fun hc => kj n.toNat t (by rw [if_pos hc]) q hq
      have k2 : ¬ aCd c8 x 0 = true → W p l e R s m args below meth c H locs cells slots Q (F0 m (pc + 3) LS (t.map (aCv ad))) := fun hc => kj (b + 1) t (by rw [if_neg hc]) (pc + 3) hf
      cases c8
      case eq => exact lv_if_eq hx hb hdg hz (fun hc => k1 (decide_eq_true hc)) (fun hc => k2 (fun z => hc (of_decide_eq_true z)))
      case ne => exact lv_if_ne hx hb hdg hz (fun hc => k1 (decide_eq_true hc)) (fun hc => k2 (fun z => of_decide_eq_true z hc))
      case lt => exact lv_if_lt hx hb hdg hz (fun hc => k1 (decide_eq_true hc)) (fun hc => k2 (fun z => hc (of_decide_eq_true z)))
      case ge => exact lv_if_ge hx hb hdg hz (fun hc => k1 (decide_eq_true hc)) (fun hc => k2 (fun z => hc (of_decide_eq_true z)))
      case gt => exact lv_if_gt hx hb hdg hz (fun hc => k1 (decide_eq_true hc)) (fun hc => k2 (fun z => hc (of_decide_eq_true z)))
      case le => exact lv_if_le hx hb hdg hz (fun hc => k1 (decide_eq_true hc)) (fun hc => k2 (fun z => hc (of_decide_eq_true z)))
    · cases hok
  · cases haT

theorem sT_if_icmp (hx : p.tables.exec = Jvm.exec) (hb : c.code = cc) {c9 : Jvm.ClassFile.Cond} {n : Int} (haT : aT rt b (.if_icmp c9 n) ls st h = some res) (hok : aOk own ini spc b pc real len (.if_icmp c9 n) = true) (hdg : decode cc pc = .ok (real, len))
    (kj : ∀ b' t, res = .inl (b', ls, t, h) → ∀ q, spc[b']? = some q → W p l e R s m args below meth c H locs cells slots Q (F0 m q LS (t.map (aCv ad))))
    (kend : ∀ rv, res = .inr (rv, h) → aRetOk rt rv → decode cc pc = .ok (aRetI rv, 1) → W p l e R s m args below meth c H locs cells slots Q (F0 m pc LS (rv.map (aCv ad)).toList)) : W p l e R s m args below meth c H locs cells slots Q (F0 m pc LS (st.map (aCv ad))) := by
  simp only [aT] at haT
  split at haT
  · rename_i y x t
    cases haT
    simp only [aOk] at hok
    split at hok
    · rename_i c8 off
      simp only [Bool.and_eq_true, decide_eq_true_eq] at hok
      obtain ⟨⟨⟨rfl, rfl⟩, ht⟩, hf⟩ := hok
      obtain ⟨q, hq, hz⟩ := aTo_spec ht
      have k1 : aCd c8 x y = true → W p l e R s m args below meth c H locs cells slots Q (F0 m q LS (t.map (aCv ad))) := fun hc => kj n.toNat t (by rw [if_pos hc]) q hq
      have k2 : ¬ aCd c8 x y = true → W p l e R s m args below meth c H locs cells slots Q (F0 m (pc + 3) LS (t.map (aCv ad))) := fun hc => kj (b + 1) t (by rw [if_neg hc]) (pc + 3) hf
      cases c8
      case eq => exact lv_icmp_eq hx hb hdg hz (fun hc => k1 (decide_eq_true hc)) (fun hc => k2 (fun z => hc (of_decide_eq_true z)))
      case ne => exact lv_icmp_ne hx hb hdg hz (fun hc => k1 (decide_eq_true hc)) (fun hc => k2 (fun z => of_decide_eq_true z hc))
      case lt => exact lv_icmp_lt hx hb hdg hz (fun hc => k1 (decide_eq_true hc)) (fun hc => k2 (fun z => hc (of_decide_eq_true z)))
      case ge => exact lv_icmp_ge hx hb hdg hz (fun hc => k1 (decide_eq_true hc)) (fun hc => k2 (fun z => hc (of_decide_eq_true z)))
      case gt => exact lv_icmp_gt hx hb hdg hz (fun hc => k1 (decide_eq_true hc)) (fun hc => k2 (fun z => hc (of_decide_eq_true z)))
      case le => exact lv_icmp_le hx hb hdg hz (fun hc => k1 (decide_eq_true hc)) (fun hc => k2 (fun z => hc (of_decide_eq_true z)))
    · cases hok
  · cases haT

theorem sT_tableswitch (hx : p.tables.exec = Jvm.exec) (hb : c.code = cc) {d9 lo hi : Int} {os : Array Int} (haT : aT rt b (.tableswitch d9 lo hi os) ls st h = some res) (hok : aOk own ini spc b pc real len (.tableswitch d9 lo hi os) = true) (hdg : decode cc pc = .ok (real, len))
    (kj : ∀ b' t, res = .inl (b', ls, t, h) → ∀ q, spc[b']? = some q → W p l e R s m args below meth c H locs cells slots Q (F0 m q LS (t.map (aCv ad))))
    (kend : ∀ rv, res = .inr (rv, h) → aRetOk rt rv → decode cc pc = .ok (aRetI rv, 1) → W p l e R s m args below meth c H locs cells slots Q (F0 m pc LS (rv.map (aCv ad)).toList)) : W p l e R s m args below meth c H locs cells slots Q (F0 m pc LS (st.map (aCv ad))) := by
  simp only [aT] at haT
  split at haT
  · rename_i x t
    simp only [aOk] at hok
    split at hok
    · rename_i d8 lo8 hi8 os8
      simp only [Bool.and_eq_true, decide_eq_true_eq] at hok
      obtain ⟨⟨⟨rfl, rfl⟩, hd⟩, hos⟩ := hok
      split at haT
      · rename_i hout
        cases haT
        obtain ⟨q, hq, hz⟩ := aTo_spec hd
        exact lv_tableOut hx hb hdg hout hz (kj _ _ rfl _ hq)
      · rename_i hin
        split at haT
        · rename_i o ho
          cases haT
          have ho' : os.toList[(x.toInt - lo8).toNat]? = some o := by rw [Array.getElem?_toList]; exact ho
          obtain ⟨off, h1, h2⟩ := aTab hos ho'
          obtain ⟨q, hq, hz⟩ := aTo_spec h2
          exact lv_tableIn hx hb hdg (fun z => hin (Or.inl z)) (fun z => hin (Or.inr z)) (by rw [← Array.getElem?_toList]; exact h1) hz (kj _ _ rfl _ hq)
        · cases haT
    · cases hok
  · cases haT

theorem sT_lookupswitch (hx : p.tables.exec = Jvm.exec) (hb : c.code = cc) {d9 : Int} {ps : Array (Int × Int)} (haT : aT rt b (.lookupswitch d9 ps) ls st h = some res) (hok : aOk own ini spc b pc real len (.lookupswitch d9 ps) = true) (hdg : decode cc pc = .ok (real, len))
    (kj : ∀ b' t, res = .inl (b', ls, t, h) → ∀ q, spc[b']? = some q → W p l e R s m args below meth c H locs cells slots Q (F0 m q LS (t.map (aCv ad))))
    (kend : ∀ rv, res = .inr (rv, h) → aRetOk rt rv → decode cc pc = .ok (aRetI rv, 1) → W p l e R s m args below meth c H locs cells slots Q (F0 m pc LS (rv.map (aCv ad)).toList)) : W p l e R s m args below meth c H locs cells slots Q (F0 m pc LS (st.map (aCv ad))) := by
  simp only [aT] at haT
  split at haT
  · rename_i x t
    cases haT
    simp only [aOk] at hok
    split at hok
    · rename_i d8 ps8
      simp only [Bool.and_eq_true, decide_eq_true_eq] at hok
      obtain ⟨⟨hd, hps⟩, hsort⟩ := hok
      have h2 := aLk (x := x.toInt) hd hps
      obtain ⟨q, hq, hz⟩ := aTo_spec h2
      exact lv_lookup hx hb hdg hsort rfl hz (kj _ _ rfl _ hq)
    · cases hok
  · cases haT

theorem sT_ireturn (hx : p.tables.exec = Jvm.exec) (hb : c.code = cc) (haT : aT rt b .ireturn ls st h = some res) (hok : aOk own ini spc b pc real len .ireturn = true) (hdg : decode cc pc = .ok (real, len))
    (kj : ∀ b' t, res = .inl (b', ls, t, h) → ∀ q, spc[b']? = some q → W p l e R s m args below meth c H locs cells slots Q (F0 m q LS (t.map (aCv ad))))
    (kend : ∀ rv, res = .inr (rv, h) → aRetOk rt rv → decode cc pc = .ok (aRetI rv, 1) → W p l e R s m args below meth c H locs cells slots Q (F0 m pc LS (rv.map (aCv ad)).toList)) : W p l e R s m args below meth c H locs cells slots Q (F0 m pc LS (st.map (aCv ad))) := by
  simp only [aOk, Bool.and_eq_true, decide_eq_true_eq] at hok
  obtain ⟨rfl, rfl⟩ := hok
  simp only [aT] at haT
  split at haT
  · split at haT
    · rename_i hc
      cases haT
      exact kend _ rfl hc hdg
    · cases haT
  · cases haT

theorem sT_lreturn (hx : p.tables.exec = Jvm.exec) (hb : c.code = cc) (haT : aT rt b .lreturn ls st h = some res) (hok : aOk own ini spc b pc real len .lreturn = true) (hdg : decode cc pc = .ok (real, len))
    (kj : ∀ b' t, res = .inl (b', ls, t, h) → ∀ q, spc[b']? = some q → W p l e R s m args below meth c H locs cells slots Q (F0 m q LS (t.map (aCv ad))))
    (kend : ∀ rv, res = .inr (rv, h) → aRetOk rt rv → decode cc pc = .ok (aRetI rv, 1) → W p l e R s m args below meth c H locs cells slots Q (F0 m pc LS (rv.map (aCv ad)).toList)) : W p l e R s m args below meth c H locs cells slots Q (F0 m pc LS (st.map (aCv ad))) := by
  simp only [aOk, Bool.and_eq_true, decide_eq_true_eq] at hok
  obtain ⟨rfl, rfl⟩ := hok
  simp only [aT] at haT
  split at haT
  · split at haT
    · rename_i hc
      cases haT
      exact kend _ rfl hc hdg
    · cases haT
  · cases haT

theorem sT_areturn (hx : p.tables.exec = Jvm.exec) (hb : c.code = cc) (haT : aT rt b .areturn ls st h = some res) (hok : aOk own ini spc b pc real len .areturn = true) (hdg : decode cc pc = .ok (real, len))
    (kj : ∀ b' t, res = .inl (b', ls, t, h) → ∀ q, spc[b']? = some q → W p l e R s m args below meth c H locs cells slots Q (F0 m q LS (t.map (aCv ad))))
    (kend : ∀ rv, res = .inr (rv, h) → aRetOk rt rv → decode cc pc = .ok (aRetI rv, 1) → W p l e R s m args below meth c H locs cells slots Q (F0 m pc LS (rv.map (aCv ad)).toList)) : W p l e R s m args below meth c H locs cells slots Q (F0 m pc LS (st.map (aCv ad))) := by
  simp only [aOk, Bool.and_eq_true, decide_eq_true_eq] at hok
  obtain ⟨rfl, rfl⟩ := hok
  simp only [aT] at haT
  split at haT
  · split at haT
    · rename_i hc
      cases haT
      exact kend _ rfl hc hdg
    · cases haT
  · cases haT

theorem sT_return_ (hx : p.tables.exec = Jvm.exec) (hb : c.code = cc) (haT : aT rt b .return_ ls st h = some res) (hok : aOk own ini spc b pc real len .return_ = true) (hdg : decode cc pc = .ok (real, len))
    (kj : ∀ b' t, res = .inl (b', ls, t, h) → ∀ q, spc[b']? = some q → W p l e R s m args below meth c H locs cells slots Q (F0 m q LS (t.map (aCv ad))))
    (kend : ∀ rv, res = .inr (rv, h) → aRetOk rt rv → decode cc pc = .ok (aRetI rv, 1) → W p l e R s m args below meth c H locs cells slots Q (F0 m pc LS (rv.map (aCv ad)).toList)) : W p l e R s m args below meth c H locs cells slots Q (F0 m pc LS (st.map (aCv ad))) := by
  simp only [aOk, Bool.and_eq_true, decide_eq_true_eq] at hok
  obtain ⟨rfl, rfl⟩ := hok
  simp only [aT] at haT
  split at haT
  · split at haT
    · rename_i hc
      cases haT
      exact kend _ rfl hc hdg
    · cases haT
  · cases haT

theorem sim_T (hx : p.tables.exec = Jvm.exec) (hb : c.code = cc) {i : aI} (haT : aT rt b i ls st h = some res) (hok : aOk own ini spc b pc real len i = true) (hdg : decode cc pc = .ok (real, len))
    (kj : ∀ b' t, res = .inl (b', ls, t, h) → ∀ q, spc[b']? = some q → W p l e R s m args below meth c H locs cells slots Q (F0 m q LS (t.map (aCv ad))))
    (kend : ∀ rv, res = .inr (rv, h) → aRetOk rt rv → decode cc pc = .ok (aRetI rv, 1) → W p l e R s m args below meth c H locs cells slots Q (F0 m pc LS (rv.map (aCv ad)).toList)) : W p l e R s m args below meth c H locs cells slots Q (F0 m pc LS (st.map (aCv ad))) := by
  cases i with
  | goto n => exact sT_goto hx hb haT hok hdg kj kend
  | ifCond c9 n => exact sT_ifCond hx hb haT hok hdg kj kend
  | if_icmp c9 n => exact sT_if_icmp hx hb haT hok hdg kj kend
  | tableswitch d9 lo hi os => exact sT_tableswitch hx hb haT hok hdg kj kend
  | lookupswitch d9 ps => exact sT_lookupswitch hx hb haT hok hdg kj kend
  | ireturn => exact sT_ireturn hx hb haT hok hdg kj kend
  | lreturn => exact sT_lreturn hx hb haT hok hdg kj kend
  | areturn => exact sT_areturn hx hb haT hok hdg kj kend
  | return_ => exact sT_return_ hx hb haT hok hdg kj kend
  | _ => cases (show none = some res from haT)
end SIMT
/-! cells only come; references stay references of cells -/
def aMo (h h' : aH) : Prop := h.1 ≤ h'.1 ∧ h.2.1 ≤ h'.2.1 ∧ (aWfh h → aWfh h')
theorem aMo.rf {h : aH} : aMo h h := ⟨Nat.le_refl _, Nat.le_refl _, id⟩
theorem aMo.trans {a b c : aH} (h1 : aMo a b) (h2 : aMo b c) : aMo a c := ⟨Nat.le_trans h1.1 h2.1, Nat.le_trans h1.2.1 h2.2.1, fun h => h2.2.2 (h1.2.2 h)⟩
theorem aQ_same {X : aX} {i : aI} {st st' : List Value} {h h' : aH} (hq : aQ X i st h = some (st', h')) : h'.1 = h.1 ∧ h'.2.1 = h.2.1 ∧ (aWfh h → aWfh h') := by
  unfold aQ at hq
  split at hq
  · split at hq
    · split at hq
      · cases hq; exact ⟨rfl, rfl, id⟩
      · cases hq
    · cases hq
  · split at hq
    · split at hq
      · cases hq; exact ⟨rfl, rfl, fun hw => aWfh_M hw⟩
      · cases hq
    · split at hq
      · rename_i hc
        cases hq; exact ⟨rfl, rfl, fun hw => aWfh_R hw hc.2.2.2⟩
      · cases hq
    · cases hq
  · split at hq
    · split at hq
      · split at hq
        · cases hq; exact ⟨rfl, rfl, id⟩
        · cases hq
      · split at hq
        · cases hq; exact ⟨rfl, rfl, id⟩
        · cases hq
    · cases hq
  · split at hq
    · split at hq
      · cases hq; exact ⟨rfl, rfl, fun hw => aWfh_M hw⟩
      · cases hq
    · cases hq
  · split at hq
    · split at hq
      · cases hq; exact ⟨rfl, rfl, id⟩
      · cases hq
    · cases hq
  · split at hq
    · split at hq
      · cases hq; exact ⟨rfl, rfl, fun hw => aWfh_M hw⟩
      · cases hq
    · cases hq
  · split at hq
    · split at hq
      · cases hq; exact ⟨rfl, rfl, id⟩
      · cases hq
    · cases hq
  · split at hq
    · split at hq
      · rename_i hc
        cases hq; exact ⟨rfl, rfl, fun hw => aWfh_R hw hc.2.1⟩
      · cases hq
    · cases hq
  · split at hq
    · split at hq
      · cases hq; exact ⟨rfl, rfl, id⟩
      · split at hq
        · cases hq; exact ⟨rfl, rfl, id⟩
        · cases hq
    · cases hq
  · cases hq
theorem aNew_mo {h : aH} {n sl : Nat} {f : Nat → aK} (hf : ∀ b, h.1 ≤ b → ∀ j r, (f b).2.2 j = some r → r < h.1 + n) : aMo h (aNew h n sl f) := by
  refine ⟨Nat.le_add_right _ _, Nat.le_add_right _ _, fun hw k hk j r hr => ?_⟩
  unfold aNew at hk hr ⊢
  dsimp only at hk hr ⊢
  split at hr
  · rename_i hb
    exact hf k hb j r hr
  · have := hw k (by omega) j r hr
    omega
theorem aA_mo {i : aI} {ls st st' : List Value} {h h' : aH} (hq : aA i ls st h = some (st', h')) : aMo h h' := by
  unfold aA at hq
  split at hq
  · split at hq
    · cases hq; exact aNew_mo (fun _ _ _ _ hr => by cases hr)
    · split at hq
      · split at hq
        · cases hq; exact aNew_mo (fun _ _ _ _ hr => by cases hr)
        · cases hq
      · cases hq
    · split at hq
      · split at hq
        · cases hq; exact aNew_mo (fun _ _ _ _ hr => by cases hr)
        · cases hq
      · cases hq
    · split at hq
      · split at hq
        · cases hq; exact aNew_mo (fun _ _ _ _ hr => by cases hr)
        · cases hq
      · cases hq
    · split at hq
      · split at hq
        · cases hq
          refine aNew_mo (fun b hb j r hr => ?_)
          split at hr
          · dsimp only at hr
            split at hr
            · cases hr
              omega
            · cases hr
          · cases hr
        · cases hq
      · cases hq
    · cases hq
  · cases hq
def aCmo (cal : Nat → List Value → aH → Option (Option Value × aH)) : Prop := ∀ y as h rv h', cal y as h = some (rv, h') → aMo h h'
theorem aMath_same {k : Nat} {st st' : List Value} {h h' : aH} (hq : aMath k st h = some (st', h')) : h' = h := by
  unfold aMath at hq
  split at hq <;> first | (split at hq <;> first | (cases hq; rfl) | cases hq) | cases hq
theorem aV_mo {cal : Nat → List Value → aH → Option (Option Value × aH)} (hcal : aCmo cal) {i : aI} {ls st st' : List Value} {h h' : aH} (hq : aV cal i ls st h = some (st', h')) : aMo h h' := by
  have hgo : ∀ y as rest, aGo cal y as rest ls h = some (st', h') → aMo h h' := fun y as rest hg => by
    obtain ⟨-, rv, hc, -, -⟩ := aGo_spec hg
    exact hcal _ _ _ _ _ hc
  unfold aV at hq
  split at hq
  · split at hq
    · unfold aCopy at hq
      split at hq
      · split at hq
        · cases hq; exact ⟨Nat.le_refl _, Nat.le_refl _, fun hw => aWfh_M hw⟩
        · cases hq
      · cases hq
    · split at hq
      · rw [aMath_same hq]
        exact aMo.rf
      · split at hq
        · exact hgo _ _ _ hq
        · cases hq
  · split at hq
    · split at hq
      · split at hq
        · cases hq; exact aMo.rf
        · cases hq
      · cases hq
    · split at hq
      · split at hq
        · exact hgo _ _ _ hq
        · cases hq
      · cases hq
  · split at hq
    · split at hq
      · split at hq
        · cases hq; exact aMo.rf
        · cases hq
      · cases hq
    · split at hq
      · split at hq
        · split at hq
          · cases hq; exact aMo.rf
          · cases hq
        · cases hq
      · split at hq
        · split at hq
          · exact hgo _ _ _ hq
          · cases hq
        · cases hq
  · cases hq
theorem aS_mo {X : aX} {cal : Nat → List Value → aH → Option (Option Value × aH)} (hcal : aCmo cal) {i : aI} {ls st ls' st' : List Value} {h h' : aH} (hq : aS X cal i ls st h = some (ls', st', h')) : aMo h h' := by
  unfold aS at hq
  split at hq
  · obtain ⟨q, -, e⟩ := Option.map_eq_some_iff.mp hq
    cases e; exact aMo.rf
  · obtain ⟨q, h1, e⟩ := Option.map_eq_some_iff.mp hq
    cases e
    obtain ⟨e1, e2, e3⟩ := aQ_same h1
    exact ⟨Nat.le_of_eq e1.symm, Nat.le_of_eq e2.symm, e3⟩
  · obtain ⟨q, h1, e⟩ := Option.map_eq_some_iff.mp hq
    cases e
    exact aA_mo h1
  · obtain ⟨q, h1, e⟩ := Option.map_eq_some_iff.mp hq
    cases e
    exact aV_mo hcal h1
theorem aT_same {rt b : Nat} {i : aI} {ls st : List Value} {h : aH} {res : aR} (hq : aT rt b i ls st h = some res) : (∃ b' t, res = .inl (b', ls, t, h)) ∨ ∃ rv, res = .inr (rv, h) := by
  unfold aT at hq
  split at hq
  · cases hq; exact Or.inl ⟨_, _, rfl⟩
  · split at hq
    · cases hq; exact Or.inl ⟨_, _, rfl⟩
    · cases hq
  · split at hq
    · cases hq; exact Or.inl ⟨_, _, rfl⟩
    · cases hq
  · split at hq
    · split at hq
      · cases hq; exact Or.inl ⟨_, _, rfl⟩
      · split at hq
        · cases hq; exact Or.inl ⟨_, _, rfl⟩
        · cases hq
    · cases hq
  · split at hq
    · cases hq; exact Or.inl ⟨_, _, rfl⟩
    · cases hq
  · split at hq
    · split at hq
      · cases hq; exact Or.inr ⟨_, rfl⟩
      · cases hq
    · cases hq
  · split at hq
    · split at hq
      · cases hq; exact Or.inr ⟨_, rfl⟩
      · cases hq
    · cases hq
  · split at hq
    · split at hq
      · cases hq; exact Or.inr ⟨_, rfl⟩
      · cases hq
    · cases hq
  · split at hq
    · split at hq
      · cases hq; exact Or.inr ⟨_, rfl⟩
      · cases hq
    · cases hq
  · cases hq
/-- the cells that a block's end has -/
def aRh : aR → aH
  | .inl q => q.2.2.2
  | .inr q => q.2
theorem aB_mo {X : aX} {cal : Nat → List Value → aH → Option (Option Value × aH)} (hcal : aCmo cal) {rt b : Nat} : ∀ {l : List aI} {ls st : List Value} {h : aH} {res : aR}, aB X cal rt b l ls st h = some res → aMo h (aRh res) := by
  intro l
  induction l with
  | nil =>
    intro ls st h res hq
    cases hq
    exact aMo.rf
  | cons i r ih =>
    intro ls st h res hq
    unfold aB at hq
    split at hq
    · rcases aT_same hq with ⟨b', t, rfl⟩ | ⟨rv, rfl⟩
      · exact aMo.rf
      · exact aMo.rf
    · split at hq
      · rename_i ls' st' h' hs
        exact (aS_mo hcal hs).trans (ih hq)
      · cases hq
theorem aE_mo {X : aX} {cal : Nat → List Value → aH → Option (Option Value × aH)} (hcal : aCmo cal) {rt : Nat} {C : List (List aI)} : ∀ {f b : Nat} {ls st : List Value} {h : aH} {rv : Option Value} {h' : aH}, aE X cal rt C f b ls st h = some (rv, h') → aMo h h' := by
  intro f
  induction f with
  | zero =>
    intro b ls st h rv h' hq
    cases hq
  | succ f ih =>
    intro b ls st h rv h' hq
    unfold aE at hq
    split at hq
    · cases hq
    · split at hq
      · rename_i b' ls' st' h2 hb
        exact (aB_mo hcal hb).trans (ih hq)
      · rename_i r hb
        cases hq
        exact aB_mo hcal hb
      · cases hq
theorem aM_mo {X : aX} {F : Nat} : ∀ d, aCmo (aM X F d) := by
  intro d
  induction d with
  | zero =>
    intro y as h rv h' hq
    cases hq
  | succ d ih =>
    intro y as h rv h' hq
    unfold aM at hq
    split at hq
    · exact aE_mo ih hq
    · cases hq
