/-! rows of rows; aPrim -/
theorem aInRb {x : Int32} {n : Nat} (h : aInR x n = true) : ¬ x < 0 ∧ x.toNatClampNeg < n := by
  have hv := aIn_in h
  exact ⟨fun q => hv (Or.inl q), Nat.not_le.mp fun q => hv (Or.inr q)⟩
theorem aA_mna (k : Nat) (ls st : List Value) (h : aH) : aA (.multianewarray k 2) ls st h = if (ls ++ st).all (aOkv h.1) && decide (h.1 < 80000) then (match st with
    | .int y :: .int x :: t => if aInR x 1001 && aInR y 100001 then some (.ref h.1 :: t, aNew h (1 + x.toNatClampNeg) (x.toNatClampNeg + x.toNatClampNeg * y.toNatClampNeg)
        (fun b => if b = h.1 then (105, x.toNatClampNeg, fun j => if j < x.toNatClampNeg then some (h.1 + 1 + j) else none) else (100, y.toNatClampNeg, fun _ => none))) else none
    | _ => none) else none := rfl
section PRI2
variable {p : Program} {l : Launch} {e : Env} {R : Room} {s : State} {m : MethodId} {args : Array Value} {below : List Frame} {meth : Method} {c : Code} {H : Heap} {locs : List Loc} {cells slots : Nat} {Q : State → Prop}
variable {cc : ByteArray} {pc len b base nL : Nat} {LS : Array Slot} {ad : Nat → Nat} {own : String} {ini : Bool} {spc : List Nat} {real : aI} {D : va_G} {cA : Nat → ClassId} {H0 : Heap} {X : aX} {h h' : aH} {ls st st' : List Value} {cal : Nat → List Value → aH → Option (Option Value × aH)}
theorem sX_mna (hx : p.tables.exec = Jvm.exec) (hb : c.code = cc) (hown : s.vm.findClass own = some m.cls) (hts : ∀ w ∈ aLT, w.before args s = true) (hK : va_K D vwCl (aTyL cA) s) (hXs : aScr X base ad s H0) (hbase : base ≤ H0.size) {k n : Nat}
    (haA : aA (.multianewarray k n) ls st h = some (st', h')) (hok : aOk own ini spc b pc real len (.multianewarray k n) = true) (hdg : decode cc pc = .ok (real, len)) (hR : aRel D cA base H0 H locs ad h) (hL : lvR LS nL ad ls) (hcells : cells + (h'.1 - h.1) ≤ R.cells) (hslots : slots + (h'.2.1 - h.2.1) ≤ R.slots)
    (kk : ∀ ad' H' locs', aAgr h.1 h'.1 ad ad' → aRel D cA base H0 H' locs' ad' h' → lvR LS nL ad' ls → W p l e R s m args below meth c H' locs' (cells + (h'.1 - h.1)) (slots + (h'.2.1 - h.2.1)) Q (F0 m (pc + len) LS (st'.map (aCv ad')))) : W p l e R s m args below meth c H locs cells slots Q (F0 m pc LS (st.map (aCv ad))) := by
  simp only [aOk] at hok
  split at hok
  · rename_i idx n'
    simp only [Bool.and_eq_true, decide_eq_true_eq] at hok
    obtain ⟨⟨⟨rfl, rfl⟩, rfl⟩, hw⟩ := hok
    rw [aA_mna] at haA
    split at haA
    · rename_i hg
      simp only [Bool.and_eq_true, decide_eq_true_eq] at hg
      obtain ⟨hg, h8⟩ := hg
      split at haA
      · rename_i y x rest
        split at haA
        · rename_i hin
          rw [Bool.and_eq_true] at hin
          obtain ⟨hin1, hin2⟩ := hin
          cases haA
          obtain ⟨hx0, hx1⟩ := aInRb hin1
          obtain ⟨hy0, hy1⟩ := aInRb hin2
          generalize hN : x.toNatClampNeg = N at *
          generalize hM : y.toNatClampNeg = M at *
          have e1 : ∀ f, (aNew h (1 + N) (N + N * M) f).1 - h.1 = 1 + N := fun f => Nat.add_sub_cancel_left _ _
          have e2 : ∀ f, (aNew h (1 + N) (N + N * M) f).2.1 - h.2.1 = N + N * M := fun f => Nat.add_sub_cancel_left _ _
          rw [e1] at hcells
          rw [e2] at hslots
          obtain ⟨g1, g2⟩ := hK.2 0 _ (aTyL_at (by omega))
          have hcy : s.vm.findClass (FieldType.array .int).toString = some (cA 0) := g2
          have hP0 : va_P D vwCl (aW cA ad h ++ va_pl [] (fun _ => .inl (0, 0, .inl (fun _ => 0)))) H := by
            show va_P D vwCl (aW cA ad h ++ []) H
            rw [List.append_nil]
            exact hR.1
          have hD0 : va_D (fun q => base ≤ q) (aW cA ad h ++ va_pl [] (fun _ => .inl (0, 0, .inl (fun _ => 0)))) := by
            show va_D _ (aW cA ad h ++ [])
            rw [List.append_nil]
            exact hR.2.1
          refine va_mna (cc := cc) (own := own) (index := idx) (ty := .int) (cy := cA 0) (z := (M, .inl (fun _ => 0))) hx hb hown (hts _ (aUs (List.mem_of_getElem? hw) rfl)) hXs.2.2.2.2.2.2 (hts _ aArr_in.1) hcy hK hP0 hD0 hR.2.2.1 (fun q hq => Nat.le_trans hbase hq) hx0 hy0 hN hM (by omega) (by show M * 4 ≤ _; omega) (by omega) rfl rfl (by omega) (by omega) (fun c => by rw [vp_cell_i]; exact (arrV_new _ _ _)) hdg (fun q r c' H1 hinj hnl hK1 hP1 hD1 hS1 => ?_)
          have ec := aCA (t := 5) hK (by omega) hK1
          subst ec
          rw [Nat.add_assoc, Nat.add_assoc]
          have hws : ([(q, .inl (cA 5, N, .inr (.inr (.inr (.inr (fun i => if i < N then some (r i) else none))))))] : va_W) ++ va_pl ([] ++ (List.range N).map r) (vr_up (fun _ => .inl (0, 0, .inl (fun _ => 0))) ((List.range N).map r) (.inl (cA 0, M, .inl (fun _ => 0))))
              = (List.range (1 + N)).map (fun k => ((fun i => if i = 0 then q else r (i - 1)) k, aElF cA (aNad ad h.1 (1 + N) (fun i => if i = 0 then q else r (i - 1))) ((fun b => if b = h.1 then ((105, N, fun j => if j < N then some (h.1 + 1 + j) else none) : aK) else (100, M, fun _ => none)) (h.1 + k)) (fun _ => 0))) := by
            rw [Nat.add_comm 1 N, List.range_succ_eq_map, List.map_cons, List.map_map, List.nil_append]
            unfold va_pl
            rw [List.map_map, List.singleton_append]
            refine congr (congrArg List.cons ?_) ?_
            · dsimp only
              rw [if_pos rfl, if_pos (Nat.add_zero h.1), aElF_ref (t := 5) rfl (by omega)]
              refine congrArg (fun z => (q, (Sum.inl (cA 5, N, Sum.inr (Sum.inr (Sum.inr (Sum.inr z)))) : va_E))) ?_
              funext j
              dsimp only
              by_cases hj : j < N
              · rw [if_pos hj, if_pos hj]
                show some (r j) = some (aNad ad h.1 (N + 1) _ (h.1 + 1 + j))
                rw [show h.1 + 1 + j = h.1 + (1 + j) by omega, aNad_new (by omega), if_neg (by omega), Nat.add_sub_cancel_left]
              · rw [if_neg hj, if_neg hj]
                rfl
            · apply List.map_congr_left
              intro i hi
              have hi := List.mem_range.mp hi
              dsimp only [Function.comp]
              rw [if_neg (Nat.succ_ne_zero i), if_neg (show ¬ h.1 + Nat.succ i = h.1 by omega), aElF_num (t := 0) rfl (by omega), vr_up_in (List.mem_map.mpr ⟨i, List.mem_range.mpr hi, rfl⟩)]
              rfl
          rw [List.append_assoc, hws] at hP1 hD1
          have k2 := aNew_k (qs := fun i => if i = 0 then q else r (i - 1)) (n := 1 + N) (sl := N + N * M) (f := fun b => if b = h.1 then ((105, N, fun j => if j < N then some (h.1 + 1 + j) else none) : aK) else (100, M, fun _ => none)) (rest := rest) (by omega) hR hL (List.all_eq_true.mpr (fun v hv => List.all_eq_true.mp hg v (by
            rcases List.mem_append.mp hv with hv | hv
            · exact List.mem_append_left _ hv
            · exact List.mem_append_right _ (List.mem_cons_of_mem _ (List.mem_cons_of_mem _ hv))))) rfl (fun k hk j r' hr' => ?_) hP1 hD1 hS1 kk (by omega)
          · exact k2
          · try dsimp only at hr'
            split at hr'
            · try dsimp only at hr'
              split at hr'
              · cases hr'
                omega
              · cases hr'
            · cases hr'
        · cases haA
      · cases haA
    · cases haA
  · cases hok
end PRI2
theorem aPrim_ok (l : Launch) (D : va_G) (cA : Nat → ClassId) (base : Nat) (X : aX) : aPrim l D cA base X := by
  intro p e R s m args below meth c H locs cells slots Q cc pc len b nL LS ad own ini spc real H0 h h' ls st st' i cal hx hb hml hown hts hN hK hXs hbase hfr hlo hcase hok hdg hR hL hcells hslots kk
  rcases hcase with ⟨⟨k, rfl⟩, haP, rfl⟩ | ⟨⟨k, n, rfl⟩, haA⟩ | ⟨⟨k, rfl, hk⟩, haV⟩ | ⟨⟨k, rfl, hk⟩, haV⟩
  · simp only [aOk] at hok
    split at hok
    · rename_i idx
      simp only [Bool.and_eq_true, decide_eq_true_eq] at hok
      obtain ⟨⟨rfl, hw⟩, hlt⟩ := hok
      cases haP
      rw [Nat.sub_self, Nat.sub_self, Nat.add_zero, Nat.add_zero] at kk
      exact va_ldcS hx hb hown (hXs.2.2.2.2.1 own idx (k % 100) hlt (List.mem_of_getElem? hw)) hdg (kk ad H locs aAgr.rf hR hL)
    · cases hok
  · exact sX_mna hx hb hown hts hK hXs hbase haA hok hdg hR hL hcells hslots kk
  · exact sX_str hx hb hml hown hts hXs hfr hlo hk haV hok hdg hR hL hcells hslots kk
  · exact sX_math hx hb hml hown hts hfr hlo hk haV hok hdg hR hL hcells hslots kk
