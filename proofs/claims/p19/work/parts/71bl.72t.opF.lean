/-! each call keeps all of it -/
theorem op_boy_F {p1 p2 v u : Int32} {M M1 M2 : pMem} (h : rF M) (h1 : D_1 p1 p2 M v M1) (h2 : D_47 p1 p2 M1 u M2) : rF M2 :=
  ⟨(op_boy h.1 h1 h2).2, op_boy_T h.1 h.2.1 h1 h2, rI_fr (F_47 h2) (by decide +kernel) (rI_fr (F_1 h1) (by decide +kernel) h.2.2)⟩
theorem op_like_F {p1 p2 p3 v u : Int32} {M M1 M2 : pMem} (h : rF M) (h1 : D_2 p1 p2 p3 M v M1) (h2 : D_48 p1 p2 p3 M1 u M2) : rF M2 :=
  ⟨(op_like h.1 h1 h2).2, op_like_T h.1 h.2.1 h1 h2, rI_fr (F_48 h2) (by decide +kernel) (rI_fr (F_2 h1) (by decide +kernel) h.2.2)⟩
theorem op_knew_F {p1 p2 p3 v u : Int32} {M M1 M2 : pMem} (h : rF M) (h1 : D_3 p1 p2 p3 M v M1) (h2 : D_49 p1 p2 p3 M1 u M2) : rF M2 :=
  ⟨(op_knew h.1 h1 h2).2, op_knew_T h.1 h.2.1 h1 h2, rI_fr (F_49 h2) (by decide +kernel) (rI_fr (F_3 h1) (by decide +kernel) h.2.2)⟩
theorem op_state_F {p1 v u : Int32} {M M1 M2 : pMem} (h : rF M) (h1 : D_4 p1 M v M1) (h2 : D_50 p1 M1 u M2) : rF M2 :=
  ⟨(op_state h.1 h1 h2).2, op_state_T h.2.1 h1 h2, rI_fr (F_50 h2) (by decide +kernel) (rI_fr (F_4 h1) (by decide +kernel) h.2.2)⟩
theorem op_number_F {p1 p2 v u : Int32} {M M1 M2 : pMem} (h : rF M) (h1 : D_25 p1 p2 M v M1) (h2 : D_52 p1 p2 M1 u M2) : rF M2 :=
  ⟨(op_number h.1 h1 h2).2, op_number_T h.1 h.2.1 h1 h2, rI_fr (F_52 h2) (by decide +kernel) (rI_fr (F_25 h1) (by decide +kernel) h.2.2)⟩
theorem op_told_F {p1 p2 v u : Int32} {M M1 M2 : pMem} (h : rF M) (h1 : D_22 p1 p2 M v M1) (h2 : D_117 p1 p2 M1 u M2) : rF M2 :=
  ⟨op_told h.1 h1 h2, (op_told_T h.2.1 h1 h2).1, rI_fr (F_117 h2) (by decide +kernel) (rI_fr (F_22 h1) (by decide +kernel) h.2.2)⟩
theorem op_force_F {p1 v u : Int32} {M M1 M2 : pMem} (h : rF M) (h1 : D_9 p1 M v M1) (h2 : D_103 p1 M1 u M2) : v = u ∧ rF M2 :=
  ⟨(op_force_T h.2.1 h1 h2).2, op_frame h.1 (F_9 h1) (F_103 h2) (by decide +kernel) (by decide +kernel), (op_force_T h.2.1 h1 h2).1, rI_fr (F_103 h2) (by decide +kernel) (rI_fr (F_9 h1) (by decide +kernel) h.2.2)⟩
theorem op_row_F {p1 v u : Int32} {M M1 M2 : pMem} (h : rF M) (h1 : D_20 p1 M v M1) (h2 : D_113 p1 M1 u M2) : v = u ∧ rF M2 :=
  ⟨(op_row_T h.2.1 h1 h2).2, op_frame h.1 (F_20 h1) (F_113 h2) (by decide +kernel) (by decide +kernel), (op_row_T h.2.1 h1 h2).1, rI_fr (F_113 h2) (by decide +kernel) (rI_fr (F_20 h1) (by decide +kernel) h.2.2)⟩
