/-! the words of every method: printed by wip/tools/gen_ok.py -/
theorem aMemD {α : Type} {l : List α} {a : α} (k : Nat) (t : List α) (h : l.drop k = a :: t) : a ∈ l := List.mem_of_mem_drop (by rw [h]; exact List.mem_cons_self)
set_option maxRecDepth 100000 in
theorem aCkC_0 : aCkC 0 := List.mem_append_right (k2_sels lw_privs) (List.mem_append_left _ (aMemD 26 _ rfl))
set_option maxRecDepth 100000 in
theorem aCkC_1 : aCkC 1 := List.mem_append_right (k2_sels lw_privs) (List.mem_append_right _ (List.mem_append_left _ (aMemD 186 _ rfl)))
set_option maxRecDepth 100000 in
theorem aCkC_2 : aCkC 2 := List.mem_append_right (k2_sels lw_privs) (List.mem_append_right _ (List.mem_append_left _ (aMemD 197 _ rfl)))
set_option maxRecDepth 100000 in
theorem aCkC_3 : aCkC 3 := List.mem_append_right (k2_sels lw_privs) (List.mem_append_right _ (List.mem_append_left _ (aMemD 212 _ rfl)))
set_option maxRecDepth 100000 in
theorem aCkC_4 : aCkC 4 := List.mem_append_right (k2_sels lw_privs) (List.mem_append_right _ (List.mem_append_left _ (aMemD 220 _ rfl)))
set_option maxRecDepth 100000 in
theorem aCkC_5 : aCkC 5 := List.mem_append_right (k2_sels lw_privs) (List.mem_append_right _ (List.mem_append_left _ (aMemD 224 _ rfl)))
set_option maxRecDepth 100000 in
theorem aCkC_6 : aCkC 6 := List.mem_append_right (k2_sels lw_privs) (List.mem_append_right _ (List.mem_append_left _ (aMemD 232 _ rfl)))
set_option maxRecDepth 100000 in
theorem aCkC_7 : aCkC 7 := List.mem_append_right (k2_sels lw_privs) (List.mem_append_right _ (List.mem_append_left _ (aMemD 236 _ rfl)))
set_option maxRecDepth 100000 in
theorem aCkC_8 : aCkC 8 := List.mem_append_right (k2_sels lw_privs) (List.mem_append_right _ (List.mem_append_right _ (List.mem_append_left _ (aMemD 210 _ rfl))))
set_option maxRecDepth 100000 in
theorem aCkC_9 : aCkC 9 := List.mem_append_right (k2_sels lw_privs) (List.mem_append_right _ (List.mem_append_right _ (List.mem_append_left _ (aMemD 214 _ rfl))))
set_option maxRecDepth 100000 in
theorem aCkC_10 : aCkC 10 := List.mem_append_right (k2_sels lw_privs) (List.mem_append_right _ (List.mem_append_right _ (List.mem_append_left _ (aMemD 218 _ rfl))))
set_option maxRecDepth 100000 in
theorem aCkC_11 : aCkC 11 := List.mem_append_right (k2_sels lw_privs) (List.mem_append_right _ (List.mem_append_right _ (List.mem_append_right _ (List.mem_append_left _ (aMemD 156 _ rfl)))))
set_option maxRecDepth 100000 in
theorem aCkC_12 : aCkC 12 := List.mem_append_right (k2_sels lw_privs) (List.mem_append_right _ (List.mem_append_right _ (List.mem_append_right _ (List.mem_append_left _ (aMemD 160 _ rfl)))))
set_option maxRecDepth 100000 in
theorem aCkC_13 : aCkC 13 := List.mem_append_right (k2_sels lw_privs) (List.mem_append_right _ (List.mem_append_right _ (List.mem_append_right _ (List.mem_append_left _ (aMemD 179 _ rfl)))))
set_option maxRecDepth 100000 in
theorem aCkC_14 : aCkC 14 := List.mem_append_right (k2_sels lw_privs) (List.mem_append_right _ (List.mem_append_right _ (List.mem_append_right _ (List.mem_append_left _ (aMemD 194 _ rfl)))))
set_option maxRecDepth 100000 in
theorem aCkC_15 : aCkC 15 := List.mem_append_right (k2_sels lw_privs) (List.mem_append_right _ (List.mem_append_right _ (List.mem_append_right _ (List.mem_append_left _ (aMemD 198 _ rfl)))))
set_option maxRecDepth 100000 in
theorem aCkC_16 : aCkC 16 := List.mem_append_right (k2_sels lw_privs) (List.mem_append_right _ (List.mem_append_right _ (List.mem_append_right _ (List.mem_append_left _ (aMemD 210 _ rfl)))))
set_option maxRecDepth 100000 in
theorem aCkC_17 : aCkC 17 := List.mem_append_right (k2_sels lw_privs) (List.mem_append_right _ (List.mem_append_right _ (List.mem_append_right _ (List.mem_append_left _ (aMemD 220 _ rfl)))))
set_option maxRecDepth 100000 in
theorem aCkC_18 : aCkC 18 := List.mem_append_right (k2_sels lw_privs) (List.mem_append_right _ (List.mem_append_right _ (List.mem_append_right _ (List.mem_append_right _ (List.mem_append_left _ (aMemD 16 _ rfl))))))
set_option maxRecDepth 100000 in
theorem aCkC_19 : aCkC 19 := List.mem_append_right (k2_sels lw_privs) (List.mem_append_right _ (List.mem_append_right _ (List.mem_append_right _ (List.mem_append_right _ (List.mem_append_left _ (aMemD 24 _ rfl))))))
set_option maxRecDepth 100000 in
theorem aCkC_20 : aCkC 20 := List.mem_append_right (k2_sels lw_privs) (List.mem_append_right _ (List.mem_append_right _ (List.mem_append_right _ (List.mem_append_right _ (List.mem_append_left _ (aMemD 32 _ rfl))))))
set_option maxRecDepth 100000 in
theorem aCkC_21 : aCkC 21 := List.mem_append_right (k2_sels lw_privs) (List.mem_append_right _ (List.mem_append_right _ (List.mem_append_right _ (List.mem_append_right _ (List.mem_append_left _ (aMemD 36 _ rfl))))))
set_option maxRecDepth 100000 in
theorem aCkC_22 : aCkC 22 := List.mem_append_right (k2_sels lw_privs) (List.mem_append_right _ (List.mem_append_right _ (List.mem_append_right _ (List.mem_append_right _ (List.mem_append_left _ (aMemD 58 _ rfl))))))
set_option maxRecDepth 100000 in
theorem aCkC_23 : aCkC 23 := List.mem_append_right (k2_sels lw_privs) (List.mem_append_right _ (List.mem_append_right _ (List.mem_append_right _ (List.mem_append_right _ (List.mem_append_left _ (aMemD 62 _ rfl))))))
set_option maxRecDepth 100000 in
theorem aCkC_24 : aCkC 24 := List.mem_append_right (k2_sels lw_privs) (List.mem_append_right _ (List.mem_append_right _ (List.mem_append_right _ (List.mem_append_right _ (List.mem_append_left _ (aMemD 66 _ rfl))))))
set_option maxRecDepth 100000 in
theorem aCkC_25 : aCkC 25 := List.mem_append_right (k2_sels lw_privs) (List.mem_append_right _ (List.mem_append_right _ (List.mem_append_right _ (List.mem_append_right _ (List.mem_append_left _ (aMemD 70 _ rfl))))))
set_option maxRecDepth 100000 in
theorem aCkC_26 : aCkC 26 := List.mem_append_right (k2_sels lw_privs) (List.mem_append_right _ (List.mem_append_right _ (List.mem_append_right _ (List.mem_append_right _ (List.mem_append_left _ (aMemD 74 _ rfl))))))
set_option maxRecDepth 100000 in
theorem aCkC_27 : aCkC 27 := List.mem_append_right (k2_sels lw_privs) (List.mem_append_right _ (List.mem_append_right _ (List.mem_append_right _ (List.mem_append_right _ (List.mem_append_left _ (aMemD 102 _ rfl))))))
set_option maxRecDepth 100000 in
theorem aCkC_28 : aCkC 28 := List.mem_append_right (k2_sels lw_privs) (List.mem_append_right _ (List.mem_append_right _ (List.mem_append_right _ (List.mem_append_right _ (List.mem_append_left _ (aMemD 110 _ rfl))))))
set_option maxRecDepth 100000 in
theorem aCkC_29 : aCkC 29 := List.mem_append_right (k2_sels lw_privs) (List.mem_append_right _ (List.mem_append_right _ (List.mem_append_right _ (List.mem_append_right _ (List.mem_append_left _ (aMemD 122 _ rfl))))))
set_option maxRecDepth 100000 in
theorem aCkC_30 : aCkC 30 := List.mem_append_right (k2_sels lw_privs) (List.mem_append_right _ (List.mem_append_right _ (List.mem_append_left _ (aMemD 225 _ rfl))))
set_option maxRecDepth 100000 in
theorem aCkC_31 : aCkC 31 := List.mem_append_right (k2_sels lw_privs) (List.mem_append_right _ (List.mem_append_right _ (List.mem_append_right _ (List.mem_append_left _ (aMemD 167 _ rfl)))))
set_option maxRecDepth 100000 in
theorem aCkC_32 : aCkC 32 := List.mem_append_right (k2_sels lw_privs) (List.mem_append_right _ (List.mem_append_left _ (aMemD 189 _ rfl)))
set_option maxRecDepth 100000 in
theorem aCkC_33 : aCkC 33 := List.mem_append_right (k2_sels lw_privs) (List.mem_append_right _ (List.mem_append_right _ (List.mem_append_left _ (aMemD 121 _ rfl))))
set_option maxRecDepth 100000 in
theorem aCkC_34 : aCkC 34 := List.mem_append_right (k2_sels lw_privs) (List.mem_append_right _ (List.mem_append_right _ (List.mem_append_left _ (aMemD 221 _ rfl))))
set_option maxRecDepth 100000 in
theorem aCkC_35 : aCkC 35 := List.mem_append_right (k2_sels lw_privs) (List.mem_append_right _ (List.mem_append_left _ (aMemD 208 _ rfl)))
set_option maxRecDepth 100000 in
theorem aCkC_36 : aCkC 36 := List.mem_append_right (k2_sels lw_privs) (List.mem_append_right _ (List.mem_append_right _ (List.mem_append_right _ (List.mem_append_left _ (aMemD 201 _ rfl)))))
set_option maxRecDepth 100000 in
theorem aCkC_37 : aCkC 37 := List.mem_append_right (k2_sels lw_privs) (List.mem_append_right _ (List.mem_append_right _ (List.mem_append_right _ (List.mem_append_left _ (aMemD 31 _ rfl)))))
set_option maxRecDepth 100000 in
theorem aCkC_38 : aCkC 38 := List.mem_append_right (k2_sels lw_privs) (List.mem_append_right _ (List.mem_append_right _ (List.mem_append_right _ (List.mem_append_left _ (aMemD 34 _ rfl)))))
set_option maxRecDepth 100000 in
theorem aCkC_39 : aCkC 39 := List.mem_append_right (k2_sels lw_privs) (List.mem_append_right _ (List.mem_append_right _ (List.mem_append_right _ (List.mem_append_left _ (aMemD 81 _ rfl)))))
set_option maxRecDepth 100000 in
theorem aCkC_40 : aCkC 40 := List.mem_append_right (k2_sels lw_privs) (List.mem_append_right _ (List.mem_append_right _ (List.mem_append_right _ (List.mem_append_right _ (List.mem_append_left _ (aMemD 106 _ rfl))))))
set_option maxRecDepth 100000 in
theorem aCkC_41 : aCkC 41 := List.mem_append_right (k2_sels lw_privs) (List.mem_append_right _ (List.mem_append_right _ (List.mem_append_right _ (List.mem_append_right _ (List.mem_append_left _ (aMemD 127 _ rfl))))))
set_option maxRecDepth 100000 in
theorem aCkC_42 : aCkC 42 := List.mem_append_right (k2_sels lw_privs) (List.mem_append_right _ (List.mem_append_right _ (List.mem_append_right _ (List.mem_append_right _ (List.mem_append_right _ (List.mem_append_left _ (aMemD 143 _ rfl)))))))
set_option maxRecDepth 100000 in
theorem aCkC_43 : aCkC 43 := List.mem_append_right (k2_sels lw_privs) (List.mem_append_right _ (List.mem_append_right _ (List.mem_append_right _ (List.mem_append_right _ (List.mem_append_right _ (List.mem_append_right _ (List.mem_append_left _ (aMemD 55 _ rfl))))))))
set_option maxRecDepth 100000 in
theorem aCkC_44 : aCkC 44 := List.mem_append_right (k2_sels lw_privs) (List.mem_append_right _ (List.mem_append_right _ (List.mem_append_right _ (List.mem_append_right _ (List.mem_append_right _ (List.mem_append_right _ (List.mem_append_left _ (aMemD 151 _ rfl))))))))
set_option maxRecDepth 100000 in
theorem aCkC_45 : aCkC 45 := List.mem_append_right (k2_sels lw_privs) (List.mem_append_right _ (List.mem_append_right _ (List.mem_append_right _ (List.mem_append_right _ (List.mem_append_right _ (List.mem_append_left _ (aMemD 151 _ rfl)))))))
set_option maxRecDepth 100000 in
theorem aCkC_46 : aCkC 46 := List.mem_append_right (k2_sels lw_privs) (List.mem_append_right _ (List.mem_append_right _ (List.mem_append_right _ (List.mem_append_right _ (List.mem_append_right _ (List.mem_append_left _ (aMemD 139 _ rfl)))))))
set_option maxRecDepth 100000 in
theorem aCkC_47 : aCkC 47 := List.mem_append_right (k2_sels lw_privs) (List.mem_append_right _ (List.mem_append_right _ (List.mem_append_right _ (List.mem_append_right _ (List.mem_append_right _ (List.mem_append_left _ (aMemD 135 _ rfl)))))))
set_option maxRecDepth 100000 in
theorem aCkC_48 : aCkC 48 := List.mem_append_right (k2_sels lw_privs) (List.mem_append_right _ (List.mem_append_right _ (List.mem_append_right _ (List.mem_append_right _ (List.mem_append_right _ (List.mem_append_left _ (aMemD 147 _ rfl)))))))
set_option maxRecDepth 100000 in
theorem aCkC_49 : aCkC 49 := List.mem_append_right (k2_sels lw_privs) (List.mem_append_right _ (List.mem_append_right _ (List.mem_append_right _ (List.mem_append_right _ (List.mem_append_right _ (List.mem_append_left _ (aMemD 155 _ rfl)))))))
set_option maxRecDepth 100000 in
theorem aCkC_50 : aCkC 50 := List.mem_append_right (k2_sels lw_privs) (List.mem_append_right _ (List.mem_append_right _ (List.mem_append_right _ (List.mem_append_right _ (List.mem_append_right _ (List.mem_append_left _ (aMemD 159 _ rfl)))))))
set_option maxRecDepth 100000 in
theorem aCkC_51 : aCkC 51 := List.mem_append_right (k2_sels lw_privs) (List.mem_append_right _ (List.mem_append_right _ (List.mem_append_right _ (List.mem_append_right _ (List.mem_append_right _ (List.mem_append_right _ (List.mem_append_left _ (aMemD 59 _ rfl))))))))
set_option maxRecDepth 100000 in
theorem aCkC_52 : aCkC 52 := List.mem_append_right (k2_sels lw_privs) (List.mem_append_right _ (List.mem_append_right _ (List.mem_append_right _ (List.mem_append_right _ (List.mem_append_right _ (List.mem_append_left _ (aMemD 163 _ rfl)))))))
set_option maxRecDepth 100000 in
theorem aCkC_53 : aCkC 53 := List.mem_append_right (k2_sels lw_privs) (List.mem_append_right _ (List.mem_append_right _ (List.mem_append_right _ (List.mem_append_right _ (List.mem_append_right _ (List.mem_append_right _ (List.mem_append_left _ (aMemD 99 _ rfl))))))))
set_option maxRecDepth 100000 in
theorem aCkC_54 : aCkC 54 := List.mem_append_right (k2_sels lw_privs) (List.mem_append_right _ (List.mem_append_right _ (List.mem_append_right _ (List.mem_append_right _ (List.mem_append_right _ (List.mem_append_right _ (List.mem_append_left _ (aMemD 51 _ rfl))))))))
set_option maxRecDepth 100000 in
theorem aCkC_55 : aCkC 55 := List.mem_append_right (k2_sels lw_privs) (List.mem_append_right _ (List.mem_append_right _ (List.mem_append_right _ (List.mem_append_right _ (List.mem_append_right _ (List.mem_append_right _ (List.mem_append_left _ (aMemD 147 _ rfl))))))))
set_option maxRecDepth 100000 in
theorem aCkC_56 : aCkC 56 := List.mem_append_right (k2_sels lw_privs) (List.mem_append_right _ (List.mem_append_right _ (List.mem_append_right _ (List.mem_append_right _ (List.mem_append_right _ (List.mem_append_right _ (List.mem_append_left _ (aMemD 111 _ rfl))))))))
set_option maxRecDepth 100000 in
theorem aCkC_57 : aCkC 57 := List.mem_append_right (k2_sels lw_privs) (List.mem_append_right _ (List.mem_append_right _ (List.mem_append_right _ (List.mem_append_right _ (List.mem_append_right _ (List.mem_append_left _ (aMemD 171 _ rfl)))))))
set_option maxRecDepth 100000 in
theorem aCkC_58 : aCkC 58 := List.mem_append_right (k2_sels lw_privs) (List.mem_append_right _ (List.mem_append_right _ (List.mem_append_right _ (List.mem_append_right _ (List.mem_append_right _ (List.mem_append_left _ (aMemD 167 _ rfl)))))))
set_option maxRecDepth 100000 in
theorem aCkC_59 : aCkC 59 := List.mem_append_right (k2_sels lw_privs) (List.mem_append_right _ (List.mem_append_right _ (List.mem_append_right _ (List.mem_append_right _ (List.mem_append_right _ (List.mem_append_left _ (aMemD 175 _ rfl)))))))
set_option maxRecDepth 100000 in
theorem aCkC_60 : aCkC 60 := List.mem_append_right (k2_sels lw_privs) (List.mem_append_right _ (List.mem_append_right _ (List.mem_append_right _ (List.mem_append_right _ (List.mem_append_right _ (List.mem_append_left _ (aMemD 187 _ rfl)))))))
set_option maxRecDepth 100000 in
theorem aCkC_61 : aCkC 61 := List.mem_append_right (k2_sels lw_privs) (List.mem_append_right _ (List.mem_append_right _ (List.mem_append_right _ (List.mem_append_right _ (List.mem_append_right _ (List.mem_append_left _ (aMemD 191 _ rfl)))))))
set_option maxRecDepth 100000 in
theorem aCkC_62 : aCkC 62 := List.mem_append_right (k2_sels lw_privs) (List.mem_append_right _ (List.mem_append_right _ (List.mem_append_right _ (List.mem_append_right _ (List.mem_append_right _ (List.mem_append_left _ (aMemD 199 _ rfl)))))))
set_option maxRecDepth 100000 in
theorem aCkC_63 : aCkC 63 := List.mem_append_right (k2_sels lw_privs) (List.mem_append_right _ (List.mem_append_right _ (List.mem_append_right _ (List.mem_append_right _ (List.mem_append_right _ (List.mem_append_left _ (aMemD 203 _ rfl)))))))
set_option maxRecDepth 100000 in
theorem aCkC_64 : aCkC 64 := List.mem_append_right (k2_sels lw_privs) (List.mem_append_right _ (List.mem_append_right _ (List.mem_append_right _ (List.mem_append_right _ (List.mem_append_right _ (List.mem_append_left _ (aMemD 195 _ rfl)))))))
set_option maxRecDepth 100000 in
theorem aCkC_65 : aCkC 65 := List.mem_append_right (k2_sels lw_privs) (List.mem_append_right _ (List.mem_append_right _ (List.mem_append_right _ (List.mem_append_right _ (List.mem_append_right _ (List.mem_append_left _ (aMemD 183 _ rfl)))))))
set_option maxRecDepth 100000 in
theorem aCkC_66 : aCkC 66 := List.mem_append_right (k2_sels lw_privs) (List.mem_append_right _ (List.mem_append_right _ (List.mem_append_right _ (List.mem_append_right _ (List.mem_append_right _ (List.mem_append_left _ (aMemD 211 _ rfl)))))))
set_option maxRecDepth 100000 in
theorem aCkC_67 : aCkC 67 := List.mem_append_right (k2_sels lw_privs) (List.mem_append_right _ (List.mem_append_right _ (List.mem_append_right _ (List.mem_append_right _ (List.mem_append_right _ (List.mem_append_left _ (aMemD 235 _ rfl)))))))
set_option maxRecDepth 100000 in
theorem aCkC_68 : aCkC 68 := List.mem_append_right (k2_sels lw_privs) (List.mem_append_right _ (List.mem_append_right _ (List.mem_append_right _ (List.mem_append_right _ (List.mem_append_right _ (List.mem_append_left _ (aMemD 231 _ rfl)))))))
set_option maxRecDepth 100000 in
theorem aCkC_69 : aCkC 69 := List.mem_append_right (k2_sels lw_privs) (List.mem_append_right _ (List.mem_append_right _ (List.mem_append_right _ (List.mem_append_right _ (List.mem_append_right _ (List.mem_append_left _ (aMemD 227 _ rfl)))))))
set_option maxRecDepth 100000 in
theorem aCkC_70 : aCkC 70 := List.mem_append_right (k2_sels lw_privs) (List.mem_append_right _ (List.mem_append_right _ (List.mem_append_right _ (List.mem_append_right _ (List.mem_append_right _ (List.mem_append_left _ (aMemD 223 _ rfl)))))))
set_option maxRecDepth 100000 in
theorem aCkC_71 : aCkC 71 := List.mem_append_right (k2_sels lw_privs) (List.mem_append_right _ (List.mem_append_right _ (List.mem_append_right _ (List.mem_append_right _ (List.mem_append_right _ (List.mem_append_left _ (aMemD 219 _ rfl)))))))
set_option maxRecDepth 100000 in
theorem aCkC_72 : aCkC 72 := List.mem_append_right (k2_sels lw_privs) (List.mem_append_right _ (List.mem_append_right _ (List.mem_append_right _ (List.mem_append_right _ (List.mem_append_right _ (List.mem_append_left _ (aMemD 215 _ rfl)))))))
set_option maxRecDepth 100000 in
theorem aCkC_73 : aCkC 73 := List.mem_append_right (k2_sels lw_privs) (List.mem_append_right _ (List.mem_append_right _ (List.mem_append_right _ (List.mem_append_right _ (List.mem_append_right _ (List.mem_append_right _ (List.mem_append_left _ (aMemD 7 _ rfl))))))))
set_option maxRecDepth 100000 in
theorem aCkC_74 : aCkC 74 := List.mem_append_right (k2_sels lw_privs) (List.mem_append_right _ (List.mem_append_right _ (List.mem_append_right _ (List.mem_append_right _ (List.mem_append_right _ (List.mem_append_right _ (List.mem_append_left _ (aMemD 3 _ rfl))))))))
set_option maxRecDepth 100000 in
theorem aCkC_75 : aCkC 75 := List.mem_append_right (k2_sels lw_privs) (List.mem_append_right _ (List.mem_append_right _ (List.mem_append_right _ (List.mem_append_right _ (List.mem_append_right _ (List.mem_append_right _ (List.mem_append_left _ (aMemD 11 _ rfl))))))))
set_option maxRecDepth 100000 in
theorem aCkC_76 : aCkC 76 := List.mem_append_right (k2_sels lw_privs) (List.mem_append_right _ (List.mem_append_right _ (List.mem_append_right _ (List.mem_append_right _ (List.mem_append_right _ (List.mem_append_left _ (aMemD 239 _ rfl)))))))
set_option maxRecDepth 100000 in
theorem aCkC_77 : aCkC 77 := List.mem_append_right (k2_sels lw_privs) (List.mem_append_right _ (List.mem_append_right _ (List.mem_append_right _ (List.mem_append_right _ (List.mem_append_right _ (List.mem_append_left _ (aMemD 207 _ rfl)))))))
set_option maxRecDepth 100000 in
theorem aCkC_78 : aCkC 78 := List.mem_append_right (k2_sels lw_privs) (List.mem_append_right _ (List.mem_append_right _ (List.mem_append_right _ (List.mem_append_right _ (List.mem_append_right _ (List.mem_append_right _ (List.mem_append_left _ (aMemD 19 _ rfl))))))))
set_option maxRecDepth 100000 in
theorem aCkC_79 : aCkC 79 := List.mem_append_right (k2_sels lw_privs) (List.mem_append_right _ (List.mem_append_right _ (List.mem_append_right _ (List.mem_append_right _ (List.mem_append_right _ (List.mem_append_right _ (List.mem_append_left _ (aMemD 15 _ rfl))))))))
set_option maxRecDepth 100000 in
theorem aCkC_80 : aCkC 80 := List.mem_append_right (k2_sels lw_privs) (List.mem_append_right _ (List.mem_append_right _ (List.mem_append_right _ (List.mem_append_right _ (List.mem_append_right _ (List.mem_append_right _ (List.mem_append_left _ (aMemD 23 _ rfl))))))))
set_option maxRecDepth 100000 in
theorem aCkC_81 : aCkC 81 := List.mem_append_right (k2_sels lw_privs) (List.mem_append_right _ (List.mem_append_right _ (List.mem_append_right _ (List.mem_append_right _ (List.mem_append_right _ (List.mem_append_left _ (aMemD 179 _ rfl)))))))
set_option maxRecDepth 100000 in
theorem aCkC_82 : aCkC 82 := List.mem_append_right (k2_sels lw_privs) (List.mem_append_right _ (List.mem_append_right _ (List.mem_append_right _ (List.mem_append_right _ (List.mem_append_right _ (List.mem_append_right _ (List.mem_append_left _ (aMemD 27 _ rfl))))))))
set_option maxRecDepth 100000 in
theorem aCkC_83 : aCkC 83 := List.mem_append_right (k2_sels lw_privs) (List.mem_append_right _ (List.mem_append_right _ (List.mem_append_right _ (List.mem_append_right _ (List.mem_append_right _ (List.mem_append_right _ (List.mem_append_left _ (aMemD 85 _ rfl))))))))
set_option maxRecDepth 100000 in
theorem aCkC_84 : aCkC 84 := List.mem_append_right (k2_sels lw_privs) (List.mem_append_right _ (List.mem_append_right _ (List.mem_append_right _ (List.mem_append_right _ (List.mem_append_right _ (List.mem_append_right _ (List.mem_append_left _ (aMemD 81 _ rfl))))))))
set_option maxRecDepth 100000 in
theorem aCkC_85 : aCkC 85 := List.mem_append_right (k2_sels lw_privs) (List.mem_append_right _ (List.mem_append_right _ (List.mem_append_right _ (List.mem_append_right _ (List.mem_append_right _ (List.mem_append_right _ (List.mem_append_left _ (aMemD 77 _ rfl))))))))
set_option maxRecDepth 100000 in
theorem aCkC_86 : aCkC 86 := List.mem_append_right (k2_sels lw_privs) (List.mem_append_right _ (List.mem_append_right _ (List.mem_append_right _ (List.mem_append_right _ (List.mem_append_right _ (List.mem_append_right _ (List.mem_append_left _ (aMemD 73 _ rfl))))))))
set_option maxRecDepth 100000 in
theorem aCkC_87 : aCkC 87 := List.mem_append_right (k2_sels lw_privs) (List.mem_append_right _ (List.mem_append_right _ (List.mem_append_right _ (List.mem_append_right _ (List.mem_append_right _ (List.mem_append_right _ (List.mem_append_left _ (aMemD 69 _ rfl))))))))
set_option maxRecDepth 100000 in
theorem aCkC_88 : aCkC 88 := List.mem_append_right (k2_sels lw_privs) (List.mem_append_right _ (List.mem_append_right _ (List.mem_append_right _ (List.mem_append_right _ (List.mem_append_right _ (List.mem_append_right _ (List.mem_append_left _ (aMemD 95 _ rfl))))))))
set_option maxRecDepth 100000 in
theorem aCkC_89 : aCkC 89 := List.mem_append_right (k2_sels lw_privs) (List.mem_append_right _ (List.mem_append_right _ (List.mem_append_right _ (List.mem_append_right _ (List.mem_append_right _ (List.mem_append_right _ (List.mem_append_left _ (aMemD 107 _ rfl))))))))
set_option maxRecDepth 100000 in
theorem aCkC_90 : aCkC 90 := List.mem_append_right (k2_sels lw_privs) (List.mem_append_right _ (List.mem_append_right _ (List.mem_append_right _ (List.mem_append_right _ (List.mem_append_right _ (List.mem_append_right _ (List.mem_append_left _ (aMemD 47 _ rfl))))))))
set_option maxRecDepth 100000 in
theorem aCkC_91 : aCkC 91 := List.mem_append_right (k2_sels lw_privs) (List.mem_append_right _ (List.mem_append_right _ (List.mem_append_right _ (List.mem_append_right _ (List.mem_append_right _ (List.mem_append_right _ (List.mem_append_left _ (aMemD 43 _ rfl))))))))
set_option maxRecDepth 100000 in
theorem aCkC_92 : aCkC 92 := List.mem_append_right (k2_sels lw_privs) (List.mem_append_right _ (List.mem_append_right _ (List.mem_append_right _ (List.mem_append_right _ (List.mem_append_right _ (List.mem_append_right _ (List.mem_append_left _ (aMemD 65 _ rfl))))))))
set_option maxRecDepth 100000 in
theorem aCkC_93 : aCkC 93 := List.mem_append_right (k2_sels lw_privs) (List.mem_append_right _ (List.mem_append_right _ (List.mem_append_right _ (List.mem_append_right _ (List.mem_append_right _ (List.mem_append_right _ (List.mem_append_left _ (aMemD 91 _ rfl))))))))
set_option maxRecDepth 100000 in
theorem aCkC_94 : aCkC 94 := List.mem_append_right (k2_sels lw_privs) (List.mem_append_right _ (List.mem_append_right _ (List.mem_append_right _ (List.mem_append_right _ (List.mem_append_right _ (List.mem_append_right _ (List.mem_append_left _ (aMemD 103 _ rfl))))))))
set_option maxRecDepth 100000 in
theorem aCkC_95 : aCkC 95 := List.mem_append_right (k2_sels lw_privs) (List.mem_append_right _ (List.mem_append_right _ (List.mem_append_right _ (List.mem_append_right _ (List.mem_append_right _ (List.mem_append_right _ (List.mem_append_left _ (aMemD 115 _ rfl))))))))
set_option maxRecDepth 100000 in
theorem aCkC_96 : aCkC 96 := List.mem_append_right (k2_sels lw_privs) (List.mem_append_right _ (List.mem_append_right _ (List.mem_append_right _ (List.mem_append_right _ (List.mem_append_right _ (List.mem_append_right _ (List.mem_append_left _ (aMemD 127 _ rfl))))))))
set_option maxRecDepth 100000 in
theorem aCkC_97 : aCkC 97 := List.mem_append_right (k2_sels lw_privs) (List.mem_append_right _ (List.mem_append_right _ (List.mem_append_right _ (List.mem_append_right _ (List.mem_append_right _ (List.mem_append_right _ (List.mem_append_left _ (aMemD 123 _ rfl))))))))
set_option maxRecDepth 100000 in
theorem aCkC_98 : aCkC 98 := List.mem_append_right (k2_sels lw_privs) (List.mem_append_right _ (List.mem_append_right _ (List.mem_append_right _ (List.mem_append_right _ (List.mem_append_right _ (List.mem_append_right _ (List.mem_append_left _ (aMemD 215 _ rfl))))))))
set_option maxRecDepth 100000 in
theorem aCkC_99 : aCkC 99 := List.mem_append_right (k2_sels lw_privs) (List.mem_append_right _ (List.mem_append_right _ (List.mem_append_right _ (List.mem_append_right _ (List.mem_append_right _ (List.mem_append_right _ (List.mem_append_left _ (aMemD 119 _ rfl))))))))
set_option maxRecDepth 100000 in
theorem aCkC_100 : aCkC 100 := List.mem_append_right (k2_sels lw_privs) (List.mem_append_right _ (List.mem_append_right _ (List.mem_append_right _ (List.mem_append_right _ (List.mem_append_right _ (List.mem_append_right _ (List.mem_append_left _ (aMemD 131 _ rfl))))))))
set_option maxRecDepth 100000 in
theorem aCkC_101 : aCkC 101 := List.mem_append_right (k2_sels lw_privs) (List.mem_append_right _ (List.mem_append_right _ (List.mem_append_right _ (List.mem_append_right _ (List.mem_append_right _ (List.mem_append_right _ (List.mem_append_left _ (aMemD 39 _ rfl))))))))
set_option maxRecDepth 100000 in
theorem aCkC_102 : aCkC 102 := List.mem_append_right (k2_sels lw_privs) (List.mem_append_right _ (List.mem_append_right _ (List.mem_append_right _ (List.mem_append_right _ (List.mem_append_right _ (List.mem_append_right _ (List.mem_append_left _ (aMemD 135 _ rfl))))))))
set_option maxRecDepth 100000 in
theorem aCkC_103 : aCkC 103 := List.mem_append_right (k2_sels lw_privs) (List.mem_append_right _ (List.mem_append_right _ (List.mem_append_right _ (List.mem_append_right _ (List.mem_append_right _ (List.mem_append_right _ (List.mem_append_left _ (aMemD 31 _ rfl))))))))
set_option maxRecDepth 100000 in
theorem aCkC_104 : aCkC 104 := List.mem_append_right (k2_sels lw_privs) (List.mem_append_right _ (List.mem_append_right _ (List.mem_append_right _ (List.mem_append_right _ (List.mem_append_right _ (List.mem_append_right _ (List.mem_append_left _ (aMemD 35 _ rfl))))))))
set_option maxRecDepth 100000 in
theorem aCkC_105 : aCkC 105 := List.mem_append_right (k2_sels lw_privs) (List.mem_append_right _ (List.mem_append_right _ (List.mem_append_right _ (List.mem_append_right _ (List.mem_append_right _ (List.mem_append_right _ (List.mem_append_left _ (aMemD 143 _ rfl))))))))
set_option maxRecDepth 100000 in
theorem aCkC_106 : aCkC 106 := List.mem_append_right (k2_sels lw_privs) (List.mem_append_right _ (List.mem_append_right _ (List.mem_append_right _ (List.mem_append_right _ (List.mem_append_right _ (List.mem_append_right _ (List.mem_append_left _ (aMemD 139 _ rfl))))))))
set_option maxRecDepth 100000 in
theorem aCkC_107 : aCkC 107 := List.mem_append_right (k2_sels lw_privs) (List.mem_append_right _ (List.mem_append_right _ (List.mem_append_right _ (List.mem_append_right _ (List.mem_append_right _ (List.mem_append_right _ (List.mem_append_left _ (aMemD 167 _ rfl))))))))
set_option maxRecDepth 100000 in
theorem aCkC_108 : aCkC 108 := List.mem_append_right (k2_sels lw_privs) (List.mem_append_right _ (List.mem_append_right _ (List.mem_append_right _ (List.mem_append_right _ (List.mem_append_right _ (List.mem_append_right _ (List.mem_append_left _ (aMemD 163 _ rfl))))))))
set_option maxRecDepth 100000 in
theorem aCkC_109 : aCkC 109 := List.mem_append_right (k2_sels lw_privs) (List.mem_append_right _ (List.mem_append_right _ (List.mem_append_right _ (List.mem_append_right _ (List.mem_append_right _ (List.mem_append_right _ (List.mem_append_left _ (aMemD 159 _ rfl))))))))
set_option maxRecDepth 100000 in
theorem aCkC_110 : aCkC 110 := List.mem_append_right (k2_sels lw_privs) (List.mem_append_right _ (List.mem_append_right _ (List.mem_append_right _ (List.mem_append_right _ (List.mem_append_right _ (List.mem_append_right _ (List.mem_append_left _ (aMemD 155 _ rfl))))))))
set_option maxRecDepth 100000 in
theorem aCkC_111 : aCkC 111 := List.mem_append_right (k2_sels lw_privs) (List.mem_append_right _ (List.mem_append_right _ (List.mem_append_right _ (List.mem_append_right _ (List.mem_append_right _ (List.mem_append_right _ (List.mem_append_left _ (aMemD 171 _ rfl))))))))
set_option maxRecDepth 100000 in
theorem aCkC_112 : aCkC 112 := List.mem_append_right (k2_sels lw_privs) (List.mem_append_right _ (List.mem_append_right _ (List.mem_append_right _ (List.mem_append_right _ (List.mem_append_right _ (List.mem_append_right _ (List.mem_append_left _ (aMemD 175 _ rfl))))))))
set_option maxRecDepth 100000 in
theorem aCkC_113 : aCkC 113 := List.mem_append_right (k2_sels lw_privs) (List.mem_append_right _ (List.mem_append_right _ (List.mem_append_right _ (List.mem_append_right _ (List.mem_append_right _ (List.mem_append_right _ (List.mem_append_left _ (aMemD 179 _ rfl))))))))
set_option maxRecDepth 100000 in
theorem aCkC_114 : aCkC 114 := List.mem_append_right (k2_sels lw_privs) (List.mem_append_right _ (List.mem_append_right _ (List.mem_append_right _ (List.mem_append_right _ (List.mem_append_right _ (List.mem_append_right _ (List.mem_append_left _ (aMemD 187 _ rfl))))))))
set_option maxRecDepth 100000 in
theorem aCkC_115 : aCkC 115 := List.mem_append_right (k2_sels lw_privs) (List.mem_append_right _ (List.mem_append_right _ (List.mem_append_right _ (List.mem_append_right _ (List.mem_append_right _ (List.mem_append_right _ (List.mem_append_left _ (aMemD 191 _ rfl))))))))
set_option maxRecDepth 100000 in
theorem aCkC_116 : aCkC 116 := List.mem_append_right (k2_sels lw_privs) (List.mem_append_right _ (List.mem_append_right _ (List.mem_append_right _ (List.mem_append_right _ (List.mem_append_right _ (List.mem_append_right _ (List.mem_append_left _ (aMemD 183 _ rfl))))))))
set_option maxRecDepth 100000 in
theorem aCkC_117 : aCkC 117 := List.mem_append_right (k2_sels lw_privs) (List.mem_append_right _ (List.mem_append_right _ (List.mem_append_right _ (List.mem_append_right _ (List.mem_append_right _ (List.mem_append_right _ (List.mem_append_left _ (aMemD 195 _ rfl))))))))
set_option maxRecDepth 100000 in
theorem aCkC_118 : aCkC 118 := List.mem_append_right (k2_sels lw_privs) (List.mem_append_right _ (List.mem_append_right _ (List.mem_append_right _ (List.mem_append_right _ (List.mem_append_right _ (List.mem_append_right _ (List.mem_append_left _ (aMemD 203 _ rfl))))))))
set_option maxRecDepth 100000 in
theorem aCkC_119 : aCkC 119 := List.mem_append_right (k2_sels lw_privs) (List.mem_append_right _ (List.mem_append_right _ (List.mem_append_right _ (List.mem_append_right _ (List.mem_append_right _ (List.mem_append_right _ (List.mem_append_left _ (aMemD 199 _ rfl))))))))
set_option maxRecDepth 100000 in
theorem aCkC_120 : aCkC 120 := List.mem_append_right (k2_sels lw_privs) (List.mem_append_right _ (List.mem_append_right _ (List.mem_append_right _ (List.mem_append_right _ (List.mem_append_right _ (List.mem_append_right _ (List.mem_append_left _ (aMemD 207 _ rfl))))))))
set_option maxRecDepth 100000 in
theorem aCkC_121 : aCkC 121 := List.mem_append_right (k2_sels lw_privs) (List.mem_append_right _ (List.mem_append_right _ (List.mem_append_right _ (List.mem_append_right _ (List.mem_append_right _ (List.mem_append_right _ (List.mem_append_left _ (aMemD 211 _ rfl))))))))
set_option maxRecDepth 100000 in
theorem aCkC_122 : aCkC 122 := List.mem_append_right (k2_sels lw_privs) (List.mem_append_right _ (List.mem_append_right _ (List.mem_append_right _ (List.mem_append_right _ (List.mem_append_right _ (List.mem_append_right _ (List.mem_append_left _ (aMemD 219 _ rfl))))))))
set_option maxRecDepth 100000 in
theorem aCkC_123 : aCkC 123 := List.mem_append_right (k2_sels lw_privs) (List.mem_append_right _ (List.mem_append_right _ (List.mem_append_right _ (List.mem_append_right _ (List.mem_append_right _ (List.mem_append_right _ (List.mem_append_left _ (aMemD 223 _ rfl))))))))
set_option maxRecDepth 100000 in
theorem aCkC_124 : aCkC 124 := List.mem_append_right (k2_sels lw_privs) (List.mem_append_right _ (List.mem_append_right _ (List.mem_append_right _ (List.mem_append_right _ (List.mem_append_right _ (List.mem_append_right _ (List.mem_append_left _ (aMemD 235 _ rfl))))))))
set_option maxRecDepth 100000 in
theorem aCkC_125 : aCkC 125 := List.mem_append_right (k2_sels lw_privs) (List.mem_append_right _ (List.mem_append_right _ (List.mem_append_right _ (List.mem_append_right _ (List.mem_append_right _ (List.mem_append_right _ (List.mem_append_left _ (aMemD 231 _ rfl))))))))
set_option maxRecDepth 100000 in
theorem aCkC_126 : aCkC 126 := List.mem_append_right (k2_sels lw_privs) (List.mem_append_right _ (List.mem_append_right _ (List.mem_append_right _ (List.mem_append_right _ (List.mem_append_right _ (List.mem_append_right _ (List.mem_append_left _ (aMemD 227 _ rfl))))))))
set_option maxRecDepth 100000 in
theorem aCkC_127 : aCkC 127 := List.mem_append_right (k2_sels lw_privs) (List.mem_append_right _ (List.mem_append_right _ (List.mem_append_right _ (List.mem_append_right _ (List.mem_append_right _ (List.mem_append_right _ (List.mem_append_right _ (aMemD 4 _ rfl))))))))
set_option maxRecDepth 100000 in
theorem aCkC_128 : aCkC 128 := List.mem_append_right (k2_sels lw_privs) (List.mem_append_right _ (List.mem_append_right _ (List.mem_append_right _ (List.mem_append_right _ (List.mem_append_right _ (List.mem_append_right _ (List.mem_append_right _ (aMemD 0 _ rfl))))))))
set_option maxRecDepth 100000 in
theorem aCkC_129 : aCkC 129 := List.mem_append_right (k2_sels lw_privs) (List.mem_append_right _ (List.mem_append_right _ (List.mem_append_right _ (List.mem_append_right _ (List.mem_append_right _ (List.mem_append_right _ (List.mem_append_right _ (aMemD 12 _ rfl))))))))
set_option maxRecDepth 100000 in
theorem aCkC_130 : aCkC 130 := List.mem_append_right (k2_sels lw_privs) (List.mem_append_right _ (List.mem_append_right _ (List.mem_append_right _ (List.mem_append_right _ (List.mem_append_right _ (List.mem_append_right _ (List.mem_append_right _ (aMemD 8 _ rfl))))))))
set_option maxRecDepth 100000 in
theorem aCkC_131 : aCkC 131 := List.mem_append_right (k2_sels lw_privs) (List.mem_append_right _ (List.mem_append_right _ (List.mem_append_right _ (List.mem_append_right _ (List.mem_append_right _ (List.mem_append_right _ (List.mem_append_right _ (aMemD 17 _ rfl))))))))
set_option maxRecDepth 100000 in
theorem aCkC_132 : aCkC 132 := List.mem_append_right (k2_sels lw_privs) (List.mem_append_right _ (List.mem_append_right _ (List.mem_append_right _ (List.mem_append_right _ (List.mem_append_right _ (List.mem_append_right _ (List.mem_append_right _ (aMemD 30 _ rfl))))))))
set_option maxRecDepth 100000 in
theorem aCkC_133 : aCkC 133 := List.mem_append_right (k2_sels lw_privs) (List.mem_append_right _ (List.mem_append_right _ (List.mem_append_right _ (List.mem_append_right _ (List.mem_append_right _ (List.mem_append_right _ (List.mem_append_right _ (aMemD 26 _ rfl))))))))
set_option maxRecDepth 100000 in
theorem aCkC_134 : aCkC 134 := List.mem_append_right (k2_sels lw_privs) (List.mem_append_right _ (List.mem_append_right _ (List.mem_append_right _ (List.mem_append_right _ (List.mem_append_right _ (List.mem_append_right _ (List.mem_append_right _ (aMemD 34 _ rfl))))))))
set_option maxRecDepth 100000 in
theorem aCkC_135 : aCkC 135 := List.mem_append_right (k2_sels lw_privs) (List.mem_append_right _ (List.mem_append_right _ (List.mem_append_right _ (List.mem_append_right _ (List.mem_append_right _ (List.mem_append_right _ (List.mem_append_right _ (aMemD 22 _ rfl))))))))
set_option maxRecDepth 100000 in
theorem aCkC_136 : aCkC 136 := List.mem_append_right (k2_sels lw_privs) (List.mem_append_right _ (List.mem_append_right _ (List.mem_append_right _ (List.mem_append_right _ (List.mem_append_right _ (List.mem_append_right _ (List.mem_append_right _ (aMemD 38 _ rfl))))))))
set_option maxRecDepth 100000 in
theorem aCkC_137 : aCkC 137 := List.mem_append_right (k2_sels lw_privs) (List.mem_append_right _ (List.mem_append_left _ (aMemD 62 _ rfl)))
set_option maxRecDepth 100000 in
theorem aCkC_138 : aCkC 138 := List.mem_append_right (k2_sels lw_privs) (List.mem_append_right _ (List.mem_append_right _ (List.mem_append_left _ (aMemD 233 _ rfl))))
set_option maxRecDepth 100000 in
theorem aCkC_139 : aCkC 139 := List.mem_append_right (k2_sels lw_privs) (List.mem_append_right _ (List.mem_append_right _ (List.mem_append_left _ (aMemD 237 _ rfl))))
set_option maxRecDepth 100000 in
theorem aCkC_140 : aCkC 140 := List.mem_append_right (k2_sels lw_privs) (List.mem_append_right _ (List.mem_append_right _ (List.mem_append_right _ (List.mem_append_left _ (aMemD 6 _ rfl)))))
set_option maxRecDepth 100000 in
theorem aCkC_141 : aCkC 141 := List.mem_append_right (k2_sels lw_privs) (List.mem_append_right _ (List.mem_append_right _ (List.mem_append_right _ (List.mem_append_left _ (aMemD 48 _ rfl)))))
set_option maxRecDepth 100000 in
theorem aCkC_142 : aCkC 142 := List.mem_append_right (k2_sels lw_privs) (List.mem_append_right _ (List.mem_append_right _ (List.mem_append_right _ (List.mem_append_left _ (aMemD 53 _ rfl)))))
set_option maxRecDepth 100000 in
theorem aCkC_143 : aCkC 143 := List.mem_append_right (k2_sels lw_privs) (List.mem_append_right _ (List.mem_append_right _ (List.mem_append_right _ (List.mem_append_left _ (aMemD 91 _ rfl)))))
set_option maxRecDepth 100000 in
theorem aCkC_144 : aCkC 144 := List.mem_append_right (k2_sels lw_privs) (List.mem_append_right _ (List.mem_append_right _ (List.mem_append_right _ (List.mem_append_left _ (aMemD 105 _ rfl)))))
set_option maxRecDepth 100000 in
theorem aCkC_145 : aCkC 145 := List.mem_append_right (k2_sels lw_privs) (List.mem_append_right _ (List.mem_append_right _ (List.mem_append_right _ (List.mem_append_left _ (aMemD 113 _ rfl)))))
set_option maxRecDepth 100000 in
theorem aCkC_146 : aCkC 146 := List.mem_append_right (k2_sels lw_privs) (List.mem_append_right _ (List.mem_append_left _ (aMemD 147 _ rfl)))
set_option maxRecDepth 100000 in
theorem aCkC_147 : aCkC 147 := List.mem_append_right (k2_sels lw_privs) (List.mem_append_right _ (List.mem_append_right _ (List.mem_append_right _ (List.mem_append_right _ (List.mem_append_left _ (aMemD 78 _ rfl))))))
set_option maxRecDepth 100000 in
theorem aCkC_148 : aCkC 148 := List.mem_append_right (k2_sels lw_privs) (List.mem_append_right _ (List.mem_append_right _ (List.mem_append_right _ (List.mem_append_right _ (List.mem_append_left _ (aMemD 83 _ rfl))))))
set_option maxRecDepth 100000 in
theorem aCkC_149 : aCkC 149 := List.mem_append_right (k2_sels lw_privs) (List.mem_append_right _ (List.mem_append_right _ (List.mem_append_right _ (List.mem_append_right _ (List.mem_append_left _ (aMemD 87 _ rfl))))))
set_option maxRecDepth 100000 in
theorem aCkC_150 : aCkC 150 := List.mem_append_right (k2_sels lw_privs) (List.mem_append_right _ (List.mem_append_right _ (List.mem_append_right _ (List.mem_append_right _ (List.mem_append_left _ (aMemD 92 _ rfl))))))
set_option maxRecDepth 100000 in
theorem aCkC_151 : aCkC 151 := List.mem_append_right (k2_sels lw_privs) (List.mem_append_right _ (List.mem_append_right _ (List.mem_append_right _ (List.mem_append_right _ (List.mem_append_left _ (aMemD 97 _ rfl))))))
set_option maxRecDepth 100000 in
theorem aCkC_152 : aCkC 152 := List.mem_append_right (k2_sels lw_privs) (List.mem_append_left _ (aMemD 72 _ rfl))
set_option maxRecDepth 100000 in
theorem aCkC_153 : aCkC 153 := List.mem_append_right (k2_sels lw_privs) (List.mem_append_right _ (List.mem_append_right _ (List.mem_append_left _ (aMemD 177 _ rfl))))
set_option maxRecDepth 100000 in
theorem aCkC_154 : aCkC 154 := List.mem_append_right (k2_sels lw_privs) (List.mem_append_right _ (List.mem_append_right _ (List.mem_append_left _ (aMemD 129 _ rfl))))
set_option maxRecDepth 100000 in
theorem aCkC_155 : aCkC 155 := List.mem_append_right (k2_sels lw_privs) (List.mem_append_right _ (List.mem_append_right _ (List.mem_append_left _ (aMemD 157 _ rfl))))
set_option maxRecDepth 100000 in
theorem aCkC_156 : aCkC 156 := List.mem_append_right (k2_sels lw_privs) (List.mem_append_right _ (List.mem_append_right _ (List.mem_append_left _ (aMemD 173 _ rfl))))
set_option maxRecDepth 100000 in
theorem aCkC_157 : aCkC 157 := List.mem_append_right (k2_sels lw_privs) (List.mem_append_right _ (List.mem_append_right _ (List.mem_append_right _ (List.mem_append_left _ (aMemD 71 _ rfl)))))
set_option maxRecDepth 100000 in
theorem aCkC_158 : aCkC 158 := List.mem_append_right (k2_sels lw_privs) (List.mem_append_right _ (List.mem_append_right _ (List.mem_append_right _ (List.mem_append_left _ (aMemD 75 _ rfl)))))
set_option maxRecDepth 100000 in
theorem aCkC_159 : aCkC 159 := List.mem_append_right (k2_sels lw_privs) (List.mem_append_right _ (List.mem_append_right _ (List.mem_append_right _ (List.mem_append_left _ (aMemD 78 _ rfl)))))
set_option maxRecDepth 100000 in
theorem aCkC_160 : aCkC 160 := List.mem_append_right (k2_sels lw_privs) (List.mem_append_left _ (aMemD 105 _ rfl))
set_option maxRecDepth 100000 in
theorem aCkC_161 : aCkC 161 := List.mem_append_right (k2_sels lw_privs) (List.mem_append_right _ (List.mem_append_right _ (List.mem_append_left _ (aMemD 204 _ rfl))))
set_option maxRecDepth 100000 in
theorem aCkC_162 : aCkC 162 := List.mem_append_right (k2_sels lw_privs) (List.mem_append_right _ (List.mem_append_right _ (List.mem_append_left _ (aMemD 188 _ rfl))))
set_option maxRecDepth 100000 in
theorem aCkC_163 : aCkC 163 := List.mem_append_right (k2_sels lw_privs) (List.mem_append_right _ (List.mem_append_right _ (List.mem_append_left _ (aMemD 200 _ rfl))))
set_option maxRecDepth 100000 in
theorem aCkC_164 : aCkC 164 := List.mem_append_right (k2_sels lw_privs) (List.mem_append_right _ (List.mem_append_left _ (aMemD 68 _ rfl)))
set_option maxRecDepth 100000 in
theorem aCkC_165 : aCkC 165 := List.mem_append_right (k2_sels lw_privs) (List.mem_append_right _ (List.mem_append_right _ (List.mem_append_right _ (List.mem_append_left _ (aMemD 65 _ rfl)))))
set_option maxRecDepth 100000 in
theorem aCkC_166 : aCkC 166 := List.mem_append_right (k2_sels lw_privs) (List.mem_append_right _ (List.mem_append_right _ (List.mem_append_right _ (List.mem_append_left _ (aMemD 57 _ rfl)))))
set_option maxRecDepth 100000 in
theorem aCkC_167 : aCkC 167 := List.mem_append_right (k2_sels lw_privs) (List.mem_append_right _ (List.mem_append_right _ (List.mem_append_right _ (List.mem_append_left _ (aMemD 95 _ rfl)))))
set_option maxRecDepth 100000 in
theorem aCkC_168 : aCkC 168 := List.mem_append_right (k2_sels lw_privs) (List.mem_append_right _ (List.mem_append_right _ (List.mem_append_right _ (List.mem_append_left _ (aMemD 109 _ rfl)))))
set_option maxRecDepth 100000 in
theorem aCkC_169 : aCkC 169 := List.mem_append_right (k2_sels lw_privs) (List.mem_append_left _ (aMemD 66 _ rfl))
set_option maxRecDepth 100000 in
theorem aCkC_170 : aCkC 170 := List.mem_append_right (k2_sels lw_privs) (List.mem_append_right _ (List.mem_append_right _ (List.mem_append_left _ (aMemD 0 _ rfl))))
set_option maxRecDepth 100000 in
theorem aCkC_171 : aCkC 171 := List.mem_append_right (k2_sels lw_privs) (List.mem_append_right _ (List.mem_append_right _ (List.mem_append_left _ (aMemD 133 _ rfl))))
set_option maxRecDepth 100000 in
theorem aCkC_172 : aCkC 172 := List.mem_append_right (k2_sels lw_privs) (List.mem_append_right _ (List.mem_append_right _ (List.mem_append_left _ (aMemD 153 _ rfl))))
set_option maxRecDepth 100000 in
theorem aCkC_173 : aCkC 173 := List.mem_append_right (k2_sels lw_privs) (List.mem_append_right _ (List.mem_append_right _ (List.mem_append_left _ (aMemD 141 _ rfl))))
set_option maxRecDepth 100000 in
theorem aCkC_174 : aCkC 174 := List.mem_append_right (k2_sels lw_privs) (List.mem_append_right _ (List.mem_append_right _ (List.mem_append_left _ (aMemD 125 _ rfl))))
set_option maxRecDepth 100000 in
theorem aCkC_175 : aCkC 175 := List.mem_append_right (k2_sels lw_privs) (List.mem_append_right _ (List.mem_append_right _ (List.mem_append_left _ (aMemD 137 _ rfl))))
set_option maxRecDepth 100000 in
theorem aCkC_176 : aCkC 176 := List.mem_append_right (k2_sels lw_privs) (List.mem_append_right _ (List.mem_append_right _ (List.mem_append_left _ (aMemD 169 _ rfl))))
set_option maxRecDepth 100000 in
theorem aCkC_177 : aCkC 177 := List.mem_append_right (k2_sels lw_privs) (List.mem_append_right _ (List.mem_append_right _ (List.mem_append_left _ (aMemD 161 _ rfl))))
set_option maxRecDepth 100000 in
theorem aCkC_178 : aCkC 178 := List.mem_append_right (k2_sels lw_privs) (List.mem_append_right _ (List.mem_append_right _ (List.mem_append_left _ (aMemD 165 _ rfl))))
set_option maxRecDepth 100000 in
theorem aCkC_179 : aCkC 179 := List.mem_append_right (k2_sels lw_privs) (List.mem_append_right _ (List.mem_append_right _ (List.mem_append_left _ (aMemD 145 _ rfl))))
set_option maxRecDepth 100000 in
theorem aCkC_180 : aCkC 180 := List.mem_append_right (k2_sels lw_privs) (List.mem_append_right _ (List.mem_append_right _ (List.mem_append_left _ (aMemD 149 _ rfl))))
set_option maxRecDepth 100000 in
theorem aCkC_181 : aCkC 181 := List.mem_append_right (k2_sels lw_privs) (List.mem_append_right _ (List.mem_append_right _ (List.mem_append_left _ (aMemD 184 _ rfl))))
set_option maxRecDepth 100000 in
theorem aCkC_182 : aCkC 182 := List.mem_append_right (k2_sels lw_privs) (List.mem_append_right _ (List.mem_append_right _ (List.mem_append_left _ (aMemD 192 _ rfl))))
set_option maxRecDepth 100000 in
theorem aCkC_183 : aCkC 183 := List.mem_append_right (k2_sels lw_privs) (List.mem_append_right _ (List.mem_append_right _ (List.mem_append_left _ (aMemD 196 _ rfl))))
set_option maxRecDepth 100000 in
theorem aCkC_184 : aCkC 184 := List.mem_append_right (k2_sels lw_privs) (List.mem_append_right _ (List.mem_append_left _ (aMemD 84 _ rfl)))
set_option maxRecDepth 100000 in
theorem aCkC_185 : aCkC 185 := List.mem_append_right (k2_sels lw_privs) (List.mem_append_right _ (List.mem_append_right _ (List.mem_append_right _ (List.mem_append_left _ (aMemD 127 _ rfl)))))
set_option maxRecDepth 100000 in
theorem aCkC_186 : aCkC 186 := List.mem_append_right (k2_sels lw_privs) (List.mem_append_right _ (List.mem_append_right _ (List.mem_append_right _ (List.mem_append_left _ (aMemD 134 _ rfl)))))
set_option maxRecDepth 100000 in
theorem aCkC_187 : aCkC 187 := List.mem_append_right (k2_sels lw_privs) (List.mem_append_right _ (List.mem_append_right _ (List.mem_append_right _ (List.mem_append_left _ (aMemD 138 _ rfl)))))
set_option maxRecDepth 100000 in
theorem aCkC_188 : aCkC 188 := List.mem_append_right (k2_sels lw_privs) (List.mem_append_right _ (List.mem_append_right _ (List.mem_append_right _ (List.mem_append_left _ (aMemD 189 _ rfl)))))
set_option maxRecDepth 100000 in
theorem aCkC_189 : aCkC 189 := List.mem_append_right (k2_sels lw_privs) (List.mem_append_right _ (List.mem_append_right _ (List.mem_append_right _ (List.mem_append_left _ (aMemD 171 _ rfl)))))
set_option maxRecDepth 100000 in
theorem aCkC_190 : aCkC 190 := List.mem_append_right (k2_sels lw_privs) (List.mem_append_right _ (List.mem_append_right _ (List.mem_append_right _ (List.mem_append_left _ (aMemD 122 _ rfl)))))
set_option maxRecDepth 100000 in
theorem aCkC_191 : aCkC 191 := List.mem_append_right (k2_sels lw_privs) (List.mem_append_right _ (List.mem_append_right _ (List.mem_append_right _ (List.mem_append_left _ (aMemD 205 _ rfl)))))
set_option maxRecDepth 100000 in
theorem aCkC_192 : aCkC 192 := List.mem_append_right (k2_sels lw_privs) (List.mem_append_right _ (List.mem_append_right _ (List.mem_append_right _ (List.mem_append_left _ (aMemD 214 _ rfl)))))
set_option maxRecDepth 100000 in
theorem aCkC_193 : aCkC 193 := List.mem_append_right (k2_sels lw_privs) (List.mem_append_left _ (aMemD 34 _ rfl))
set_option maxRecDepth 100000 in
theorem aCkC_194 : aCkC 194 := List.mem_append_right (k2_sels lw_privs) (List.mem_append_right _ (List.mem_append_left _ (aMemD 228 _ rfl)))
set_option maxRecDepth 100000 in
theorem aCkC_195 : aCkC 195 := List.mem_append_right (k2_sels lw_privs) (List.mem_append_right _ (List.mem_append_right _ (List.mem_append_left _ (aMemD 4 _ rfl))))
set_option maxRecDepth 100000 in
theorem aCkC_196 : aCkC 196 := List.mem_append_right (k2_sels lw_privs) (List.mem_append_right _ (List.mem_append_right _ (List.mem_append_left _ (aMemD 8 _ rfl))))
set_option maxRecDepth 100000 in
theorem aCkC_197 : aCkC 197 := List.mem_append_right (k2_sels lw_privs) (List.mem_append_right _ (List.mem_append_right _ (List.mem_append_left _ (aMemD 108 _ rfl))))
set_option maxRecDepth 100000 in
theorem aCkC_198 : aCkC 198 := List.mem_append_right (k2_sels lw_privs) (List.mem_append_right _ (List.mem_append_right _ (List.mem_append_left _ (aMemD 12 _ rfl))))
set_option maxRecDepth 100000 in
theorem aCkC_199 : aCkC 199 := List.mem_append_right (k2_sels lw_privs) (List.mem_append_right _ (List.mem_append_right _ (List.mem_append_left _ (aMemD 115 _ rfl))))
set_option maxRecDepth 100000 in
theorem aCkC_200 : aCkC 200 := List.mem_append_right (k2_sels lw_privs) (List.mem_append_right _ (List.mem_append_right _ (List.mem_append_left _ (aMemD 19 _ rfl))))
set_option maxRecDepth 100000 in
theorem aCkC_201 : aCkC 201 := List.mem_append_right (k2_sels lw_privs) (List.mem_append_right _ (List.mem_append_right _ (List.mem_append_left _ (aMemD 56 _ rfl))))
set_option maxRecDepth 100000 in
theorem aCkC_202 : aCkC 202 := List.mem_append_right (k2_sels lw_privs) (List.mem_append_right _ (List.mem_append_right _ (List.mem_append_left _ (aMemD 15 _ rfl))))
set_option maxRecDepth 100000 in
theorem aCkC_203 : aCkC 203 := List.mem_append_right (k2_sels lw_privs) (List.mem_append_right _ (List.mem_append_right _ (List.mem_append_left _ (aMemD 111 _ rfl))))
set_option maxRecDepth 100000 in
theorem aCkC_204 : aCkC 204 := List.mem_append_right (k2_sels lw_privs) (List.mem_append_right _ (List.mem_append_right _ (List.mem_append_left _ (aMemD 118 _ rfl))))
set_option maxRecDepth 100000 in
theorem aCkC_205 : aCkC 205 := List.mem_append_right (k2_sels lw_privs) (List.mem_append_right _ (List.mem_append_right _ (List.mem_append_left _ (aMemD 22 _ rfl))))
set_option maxRecDepth 100000 in
theorem aCkC_206 : aCkC 206 := List.mem_append_right (k2_sels lw_privs) (List.mem_append_right _ (List.mem_append_left _ (aMemD 103 _ rfl)))
set_option maxRecDepth 100000 in
theorem aCkC_207 : aCkC 207 := List.mem_append_right (k2_sels lw_privs) (List.mem_append_right _ (List.mem_append_right _ (List.mem_append_right _ (List.mem_append_left _ (aMemD 228 _ rfl)))))
set_option maxRecDepth 100000 in
theorem aCkC_208 : aCkC 208 := List.mem_append_right (k2_sels lw_privs) (List.mem_append_right _ (List.mem_append_right _ (List.mem_append_right _ (List.mem_append_left _ (aMemD 224 _ rfl)))))
set_option maxRecDepth 100000 in
theorem aCkC_209 : aCkC 209 := List.mem_append_right (k2_sels lw_privs) (List.mem_append_right _ (List.mem_append_right _ (List.mem_append_right _ (List.mem_append_right _ (List.mem_append_left _ (aMemD 20 _ rfl))))))
set_option maxRecDepth 100000 in
theorem aCkC_210 : aCkC 210 := List.mem_append_right (k2_sels lw_privs) (List.mem_append_right _ (List.mem_append_right _ (List.mem_append_right _ (List.mem_append_right _ (List.mem_append_left _ (aMemD 28 _ rfl))))))
set_option maxRecDepth 100000 in
theorem aCkC_211 : aCkC 211 := List.mem_append_right (k2_sels lw_privs) (List.mem_append_right _ (List.mem_append_right _ (List.mem_append_right _ (List.mem_append_right _ (List.mem_append_left _ (aMemD 40 _ rfl))))))
set_option maxRecDepth 100000 in
theorem aCkC_212 : aCkC 212 := List.mem_append_right (k2_sels lw_privs) (List.mem_append_right _ (List.mem_append_right _ (List.mem_append_right _ (List.mem_append_right _ (List.mem_append_left _ (aMemD 54 _ rfl))))))
set_option maxRecDepth 100000 in
theorem aCkC_213 : aCkC 213 := List.mem_append_right (k2_sels lw_privs) (List.mem_append_right _ (List.mem_append_right _ (List.mem_append_right _ (List.mem_append_right _ (List.mem_append_left _ (aMemD 43 _ rfl))))))
set_option maxRecDepth 100000 in
theorem aCkC_214 : aCkC 214 := List.mem_append_right (k2_sels lw_privs) (List.mem_append_right _ (List.mem_append_right _ (List.mem_append_right _ (List.mem_append_right _ (List.mem_append_left _ (aMemD 47 _ rfl))))))
set_option maxRecDepth 100000 in
theorem aCkC_215 : aCkC 215 := List.mem_append_right (k2_sels lw_privs) (List.mem_append_left _ (aMemD 157 _ rfl))
set_option maxRecDepth 100000 in
theorem aCkC_216 : aCkC 216 := List.mem_append_right (k2_sels lw_privs) (List.mem_append_right _ (List.mem_append_right _ (List.mem_append_right _ (List.mem_append_right _ (List.mem_append_left _ (aMemD 114 _ rfl))))))
set_option maxRecDepth 100000 in
theorem aCkC_217 : aCkC 217 := List.mem_append_right (k2_sels lw_privs) (List.mem_append_right _ (List.mem_append_right _ (List.mem_append_left _ (aMemD 229 _ rfl))))
set_option maxRecDepth 100000 in
theorem aCkC_218 : aCkC 218 := List.mem_append_right (k2_sels lw_privs) (List.mem_append_right _ (List.mem_append_right _ (List.mem_append_right _ (List.mem_append_left _ (aMemD 143 _ rfl)))))
set_option maxRecDepth 100000 in
theorem aCkC_219 : aCkC 219 := List.mem_append_right (k2_sels lw_privs) (List.mem_append_left _ (aMemD 163 _ rfl))
set_option maxRecDepth 100000 in
theorem aCkC_220 : aCkC 220 := List.mem_append_right (k2_sels lw_privs) (List.mem_append_right _ (List.mem_append_right _ (List.mem_append_right _ (List.mem_append_left _ (aMemD 232 _ rfl)))))
set_option maxRecDepth 100000 in
theorem aCkC_221 : aCkC 221 := List.mem_append_right (k2_sels lw_privs) (List.mem_append_right _ (List.mem_append_left _ (aMemD 193 _ rfl)))
set_option maxRecDepth 100000 in
theorem aCkC_222 : aCkC 222 := List.mem_append_right (k2_sels lw_privs) (List.mem_append_right _ (List.mem_append_left _ (aMemD 205 _ rfl)))
set_option maxRecDepth 100000 in
theorem aCkC_223 : aCkC 223 := List.mem_append_right (k2_sels lw_privs) (List.mem_append_right _ (List.mem_append_left _ (aMemD 201 _ rfl)))
set_option maxRecDepth 100000 in
theorem aCkC_224 : aCkC 224 := List.mem_append_right (k2_sels lw_privs) (List.mem_append_right _ (List.mem_append_left _ (aMemD 216 _ rfl)))
set_option maxRecDepth 100000 in
theorem aCkC_225 : aCkC 225 := List.mem_append_right (k2_sels lw_privs) (List.mem_append_right _ (List.mem_append_right _ (List.mem_append_right _ (List.mem_append_left _ (aMemD 61 _ rfl)))))
set_option maxRecDepth 100000 in
theorem aCkC_226 : aCkC 226 := List.mem_append_right (k2_sels lw_privs) (List.mem_append_right _ (List.mem_append_right _ (List.mem_append_right _ (List.mem_append_left _ (aMemD 14 _ rfl)))))
set_option maxRecDepth 100000 in
theorem aCkC_227 : aCkC 227 := List.mem_append_right (k2_sels lw_privs) (List.mem_append_right _ (List.mem_append_right _ (List.mem_append_right _ (List.mem_append_left _ (aMemD 183 _ rfl)))))
set_option maxRecDepth 100000 in
theorem aCkC_228 : aCkC 228 := List.mem_append_right (k2_sels lw_privs) (List.mem_append_right _ (List.mem_append_right _ (List.mem_append_right _ (List.mem_append_left _ (aMemD 147 _ rfl)))))
set_option maxRecDepth 100000 in
theorem aCkC_229 : aCkC 229 := List.mem_append_right (k2_sels lw_privs) (List.mem_append_right _ (List.mem_append_right _ (List.mem_append_right _ (List.mem_append_left _ (aMemD 151 _ rfl)))))
set_option maxRecDepth 100000 in
theorem aCkC_230 : aCkC 230 := List.mem_append_right (k2_sels lw_privs) (List.mem_append_right _ (List.mem_append_right _ (List.mem_append_right _ (List.mem_append_left _ (aMemD 238 _ rfl)))))
set_option maxRecDepth 100000 in
theorem aCkC_231 : aCkC 231 := List.mem_append_right (k2_sels lw_privs) (List.mem_append_right _ (List.mem_append_right _ (List.mem_append_right _ (List.mem_append_left _ (aMemD 18 _ rfl)))))
set_option maxRecDepth 100000 in
theorem aCkC_232 : aCkC 232 := List.mem_append_right (k2_sels lw_privs) (List.mem_append_right _ (List.mem_append_right _ (List.mem_append_right _ (List.mem_append_left _ (aMemD 28 _ rfl)))))
set_option maxRecDepth 100000 in
theorem aCkC_233 : aCkC 233 := List.mem_append_right (k2_sels lw_privs) (List.mem_append_right _ (List.mem_append_right _ (List.mem_append_right _ (List.mem_append_left _ (aMemD 10 _ rfl)))))
set_option maxRecDepth 100000 in
theorem aCkC_234 : aCkC 234 := List.mem_append_right (k2_sels lw_privs) (List.mem_append_right _ (List.mem_append_right _ (List.mem_append_right _ (List.mem_append_left _ (aMemD 42 _ rfl)))))
set_option maxRecDepth 100000 in
theorem aCkC_235 : aCkC 235 := List.mem_append_right (k2_sels lw_privs) (List.mem_append_right _ (List.mem_append_right _ (List.mem_append_right _ (List.mem_append_left _ (aMemD 2 _ rfl)))))
set_option maxRecDepth 100000 in
theorem aCkC_236 : aCkC 236 := List.mem_append_right (k2_sels lw_privs) (List.mem_append_right _ (List.mem_append_right _ (List.mem_append_right _ (List.mem_append_right _ (List.mem_append_left _ (aMemD 5 _ rfl))))))
set_option maxRecDepth 100000 in
theorem aCkC_237 : aCkC 237 := List.mem_append_right (k2_sels lw_privs) (List.mem_append_right _ (List.mem_append_right _ (List.mem_append_right _ (List.mem_append_left _ (aMemD 117 _ rfl)))))
set_option maxRecDepth 100000 in
theorem aCkC_238 : aCkC 238 := List.mem_append_right (k2_sels lw_privs) (List.mem_append_right _ (List.mem_append_right _ (List.mem_append_right _ (List.mem_append_right _ (List.mem_append_left _ (aMemD 11 _ rfl))))))
set_option maxRecDepth 100000 in
theorem aCkC_239 : aCkC 239 := List.mem_append_right (k2_sels lw_privs) (List.mem_append_right _ (List.mem_append_right _ (List.mem_append_right _ (List.mem_append_left _ (aMemD 21 _ rfl)))))
set_option maxRecDepth 100000 in
theorem aCkC_240 : aCkC 240 := List.mem_append_right (k2_sels lw_privs) (List.mem_append_right _ (List.mem_append_left _ (aMemD 16 _ rfl)))
theorem aCkW_a : ∀ z, z < 121 → aCkW (0 + z) = true := by decide +kernel
theorem aCkW_b : ∀ z, z < 120 → aCkW (121 + z) = true := by decide +kernel
theorem aCkT_0 : ∀ z, z < 10 → aCkC (0 + z) := by
  intro z hz
  match z, hz with
  | 0, _ => exact aCkC_0
  | 1, _ => exact aCkC_1
  | 2, _ => exact aCkC_2
  | 3, _ => exact aCkC_3
  | 4, _ => exact aCkC_4
  | 5, _ => exact aCkC_5
  | 6, _ => exact aCkC_6
  | 7, _ => exact aCkC_7
  | 8, _ => exact aCkC_8
  | 9, _ => exact aCkC_9
  | z + 10, hz => exact absurd hz (by omega)
theorem aCkT_1 : ∀ z, z < 10 → aCkC (10 + z) := by
  intro z hz
  match z, hz with
  | 0, _ => exact aCkC_10
  | 1, _ => exact aCkC_11
  | 2, _ => exact aCkC_12
  | 3, _ => exact aCkC_13
  | 4, _ => exact aCkC_14
  | 5, _ => exact aCkC_15
  | 6, _ => exact aCkC_16
  | 7, _ => exact aCkC_17
  | 8, _ => exact aCkC_18
  | 9, _ => exact aCkC_19
  | z + 10, hz => exact absurd hz (by omega)
theorem aCkT_2 : ∀ z, z < 10 → aCkC (20 + z) := by
  intro z hz
  match z, hz with
  | 0, _ => exact aCkC_20
  | 1, _ => exact aCkC_21
  | 2, _ => exact aCkC_22
  | 3, _ => exact aCkC_23
  | 4, _ => exact aCkC_24
  | 5, _ => exact aCkC_25
  | 6, _ => exact aCkC_26
  | 7, _ => exact aCkC_27
  | 8, _ => exact aCkC_28
  | 9, _ => exact aCkC_29
  | z + 10, hz => exact absurd hz (by omega)
theorem aCkT_3 : ∀ z, z < 10 → aCkC (30 + z) := by
  intro z hz
  match z, hz with
  | 0, _ => exact aCkC_30
  | 1, _ => exact aCkC_31
  | 2, _ => exact aCkC_32
  | 3, _ => exact aCkC_33
  | 4, _ => exact aCkC_34
  | 5, _ => exact aCkC_35
  | 6, _ => exact aCkC_36
  | 7, _ => exact aCkC_37
  | 8, _ => exact aCkC_38
  | 9, _ => exact aCkC_39
  | z + 10, hz => exact absurd hz (by omega)
theorem aCkT_4 : ∀ z, z < 10 → aCkC (40 + z) := by
  intro z hz
  match z, hz with
  | 0, _ => exact aCkC_40
  | 1, _ => exact aCkC_41
  | 2, _ => exact aCkC_42
  | 3, _ => exact aCkC_43
  | 4, _ => exact aCkC_44
  | 5, _ => exact aCkC_45
  | 6, _ => exact aCkC_46
  | 7, _ => exact aCkC_47
  | 8, _ => exact aCkC_48
  | 9, _ => exact aCkC_49
  | z + 10, hz => exact absurd hz (by omega)
theorem aCkT_5 : ∀ z, z < 10 → aCkC (50 + z) := by
  intro z hz
  match z, hz with
  | 0, _ => exact aCkC_50
  | 1, _ => exact aCkC_51
  | 2, _ => exact aCkC_52
  | 3, _ => exact aCkC_53
  | 4, _ => exact aCkC_54
  | 5, _ => exact aCkC_55
  | 6, _ => exact aCkC_56
  | 7, _ => exact aCkC_57
  | 8, _ => exact aCkC_58
  | 9, _ => exact aCkC_59
  | z + 10, hz => exact absurd hz (by omega)
theorem aCkT_6 : ∀ z, z < 10 → aCkC (60 + z) := by
  intro z hz
  match z, hz with
  | 0, _ => exact aCkC_60
  | 1, _ => exact aCkC_61
  | 2, _ => exact aCkC_62
  | 3, _ => exact aCkC_63
  | 4, _ => exact aCkC_64
  | 5, _ => exact aCkC_65
  | 6, _ => exact aCkC_66
  | 7, _ => exact aCkC_67
  | 8, _ => exact aCkC_68
  | 9, _ => exact aCkC_69
  | z + 10, hz => exact absurd hz (by omega)
theorem aCkT_7 : ∀ z, z < 10 → aCkC (70 + z) := by
  intro z hz
  match z, hz with
  | 0, _ => exact aCkC_70
  | 1, _ => exact aCkC_71
  | 2, _ => exact aCkC_72
  | 3, _ => exact aCkC_73
  | 4, _ => exact aCkC_74
  | 5, _ => exact aCkC_75
  | 6, _ => exact aCkC_76
  | 7, _ => exact aCkC_77
  | 8, _ => exact aCkC_78
  | 9, _ => exact aCkC_79
  | z + 10, hz => exact absurd hz (by omega)
theorem aCkT_8 : ∀ z, z < 10 → aCkC (80 + z) := by
  intro z hz
  match z, hz with
  | 0, _ => exact aCkC_80
  | 1, _ => exact aCkC_81
  | 2, _ => exact aCkC_82
  | 3, _ => exact aCkC_83
  | 4, _ => exact aCkC_84
  | 5, _ => exact aCkC_85
  | 6, _ => exact aCkC_86
  | 7, _ => exact aCkC_87
  | 8, _ => exact aCkC_88
  | 9, _ => exact aCkC_89
  | z + 10, hz => exact absurd hz (by omega)
theorem aCkT_9 : ∀ z, z < 10 → aCkC (90 + z) := by
  intro z hz
  match z, hz with
  | 0, _ => exact aCkC_90
  | 1, _ => exact aCkC_91
  | 2, _ => exact aCkC_92
  | 3, _ => exact aCkC_93
  | 4, _ => exact aCkC_94
  | 5, _ => exact aCkC_95
  | 6, _ => exact aCkC_96
  | 7, _ => exact aCkC_97
  | 8, _ => exact aCkC_98
  | 9, _ => exact aCkC_99
  | z + 10, hz => exact absurd hz (by omega)
theorem aCkT_10 : ∀ z, z < 10 → aCkC (100 + z) := by
  intro z hz
  match z, hz with
  | 0, _ => exact aCkC_100
  | 1, _ => exact aCkC_101
  | 2, _ => exact aCkC_102
  | 3, _ => exact aCkC_103
  | 4, _ => exact aCkC_104
  | 5, _ => exact aCkC_105
  | 6, _ => exact aCkC_106
  | 7, _ => exact aCkC_107
  | 8, _ => exact aCkC_108
  | 9, _ => exact aCkC_109
  | z + 10, hz => exact absurd hz (by omega)
theorem aCkT_11 : ∀ z, z < 10 → aCkC (110 + z) := by
  intro z hz
  match z, hz with
  | 0, _ => exact aCkC_110
  | 1, _ => exact aCkC_111
  | 2, _ => exact aCkC_112
  | 3, _ => exact aCkC_113
  | 4, _ => exact aCkC_114
  | 5, _ => exact aCkC_115
  | 6, _ => exact aCkC_116
  | 7, _ => exact aCkC_117
  | 8, _ => exact aCkC_118
  | 9, _ => exact aCkC_119
  | z + 10, hz => exact absurd hz (by omega)
theorem aCkT_12 : ∀ z, z < 10 → aCkC (120 + z) := by
  intro z hz
  match z, hz with
  | 0, _ => exact aCkC_120
  | 1, _ => exact aCkC_121
  | 2, _ => exact aCkC_122
  | 3, _ => exact aCkC_123
  | 4, _ => exact aCkC_124
  | 5, _ => exact aCkC_125
  | 6, _ => exact aCkC_126
  | 7, _ => exact aCkC_127
  | 8, _ => exact aCkC_128
  | 9, _ => exact aCkC_129
  | z + 10, hz => exact absurd hz (by omega)
theorem aCkT_13 : ∀ z, z < 10 → aCkC (130 + z) := by
  intro z hz
  match z, hz with
  | 0, _ => exact aCkC_130
  | 1, _ => exact aCkC_131
  | 2, _ => exact aCkC_132
  | 3, _ => exact aCkC_133
  | 4, _ => exact aCkC_134
  | 5, _ => exact aCkC_135
  | 6, _ => exact aCkC_136
  | 7, _ => exact aCkC_137
  | 8, _ => exact aCkC_138
  | 9, _ => exact aCkC_139
  | z + 10, hz => exact absurd hz (by omega)
theorem aCkT_14 : ∀ z, z < 10 → aCkC (140 + z) := by
  intro z hz
  match z, hz with
  | 0, _ => exact aCkC_140
  | 1, _ => exact aCkC_141
  | 2, _ => exact aCkC_142
  | 3, _ => exact aCkC_143
  | 4, _ => exact aCkC_144
  | 5, _ => exact aCkC_145
  | 6, _ => exact aCkC_146
  | 7, _ => exact aCkC_147
  | 8, _ => exact aCkC_148
  | 9, _ => exact aCkC_149
  | z + 10, hz => exact absurd hz (by omega)
theorem aCkT_15 : ∀ z, z < 10 → aCkC (150 + z) := by
  intro z hz
  match z, hz with
  | 0, _ => exact aCkC_150
  | 1, _ => exact aCkC_151
  | 2, _ => exact aCkC_152
  | 3, _ => exact aCkC_153
  | 4, _ => exact aCkC_154
  | 5, _ => exact aCkC_155
  | 6, _ => exact aCkC_156
  | 7, _ => exact aCkC_157
  | 8, _ => exact aCkC_158
  | 9, _ => exact aCkC_159
  | z + 10, hz => exact absurd hz (by omega)
theorem aCkT_16 : ∀ z, z < 10 → aCkC (160 + z) := by
  intro z hz
  match z, hz with
  | 0, _ => exact aCkC_160
  | 1, _ => exact aCkC_161
  | 2, _ => exact aCkC_162
  | 3, _ => exact aCkC_163
  | 4, _ => exact aCkC_164
  | 5, _ => exact aCkC_165
  | 6, _ => exact aCkC_166
  | 7, _ => exact aCkC_167
  | 8, _ => exact aCkC_168
  | 9, _ => exact aCkC_169
  | z + 10, hz => exact absurd hz (by omega)
theorem aCkT_17 : ∀ z, z < 10 → aCkC (170 + z) := by
  intro z hz
  match z, hz with
  | 0, _ => exact aCkC_170
  | 1, _ => exact aCkC_171
  | 2, _ => exact aCkC_172
  | 3, _ => exact aCkC_173
  | 4, _ => exact aCkC_174
  | 5, _ => exact aCkC_175
  | 6, _ => exact aCkC_176
  | 7, _ => exact aCkC_177
  | 8, _ => exact aCkC_178
  | 9, _ => exact aCkC_179
  | z + 10, hz => exact absurd hz (by omega)
theorem aCkT_18 : ∀ z, z < 10 → aCkC (180 + z) := by
  intro z hz
  match z, hz with
  | 0, _ => exact aCkC_180
  | 1, _ => exact aCkC_181
  | 2, _ => exact aCkC_182
  | 3, _ => exact aCkC_183
  | 4, _ => exact aCkC_184
  | 5, _ => exact aCkC_185
  | 6, _ => exact aCkC_186
  | 7, _ => exact aCkC_187
  | 8, _ => exact aCkC_188
  | 9, _ => exact aCkC_189
  | z + 10, hz => exact absurd hz (by omega)
theorem aCkT_19 : ∀ z, z < 10 → aCkC (190 + z) := by
  intro z hz
  match z, hz with
  | 0, _ => exact aCkC_190
  | 1, _ => exact aCkC_191
  | 2, _ => exact aCkC_192
  | 3, _ => exact aCkC_193
  | 4, _ => exact aCkC_194
  | 5, _ => exact aCkC_195
  | 6, _ => exact aCkC_196
  | 7, _ => exact aCkC_197
  | 8, _ => exact aCkC_198
  | 9, _ => exact aCkC_199
  | z + 10, hz => exact absurd hz (by omega)
theorem aCkT_20 : ∀ z, z < 10 → aCkC (200 + z) := by
  intro z hz
  match z, hz with
  | 0, _ => exact aCkC_200
  | 1, _ => exact aCkC_201
  | 2, _ => exact aCkC_202
  | 3, _ => exact aCkC_203
  | 4, _ => exact aCkC_204
  | 5, _ => exact aCkC_205
  | 6, _ => exact aCkC_206
  | 7, _ => exact aCkC_207
  | 8, _ => exact aCkC_208
  | 9, _ => exact aCkC_209
  | z + 10, hz => exact absurd hz (by omega)
theorem aCkT_21 : ∀ z, z < 10 → aCkC (210 + z) := by
  intro z hz
  match z, hz with
  | 0, _ => exact aCkC_210
  | 1, _ => exact aCkC_211
  | 2, _ => exact aCkC_212
  | 3, _ => exact aCkC_213
  | 4, _ => exact aCkC_214
  | 5, _ => exact aCkC_215
  | 6, _ => exact aCkC_216
  | 7, _ => exact aCkC_217
  | 8, _ => exact aCkC_218
  | 9, _ => exact aCkC_219
  | z + 10, hz => exact absurd hz (by omega)
theorem aCkT_22 : ∀ z, z < 10 → aCkC (220 + z) := by
  intro z hz
  match z, hz with
  | 0, _ => exact aCkC_220
  | 1, _ => exact aCkC_221
  | 2, _ => exact aCkC_222
  | 3, _ => exact aCkC_223
  | 4, _ => exact aCkC_224
  | 5, _ => exact aCkC_225
  | 6, _ => exact aCkC_226
  | 7, _ => exact aCkC_227
  | 8, _ => exact aCkC_228
  | 9, _ => exact aCkC_229
  | z + 10, hz => exact absurd hz (by omega)
theorem aCkT_23 : ∀ z, z < 10 → aCkC (230 + z) := by
  intro z hz
  match z, hz with
  | 0, _ => exact aCkC_230
  | 1, _ => exact aCkC_231
  | 2, _ => exact aCkC_232
  | 3, _ => exact aCkC_233
  | 4, _ => exact aCkC_234
  | 5, _ => exact aCkC_235
  | 6, _ => exact aCkC_236
  | 7, _ => exact aCkC_237
  | 8, _ => exact aCkC_238
  | 9, _ => exact aCkC_239
  | z + 10, hz => exact absurd hz (by omega)
theorem aCkT_24 : ∀ z, z < 1 → aCkC (240 + z) := by
  intro z hz
  match z, hz with
  | 0, _ => exact aCkC_240
  | z + 1, hz => exact absurd hz (by omega)
theorem aCkC_all : ∀ y, y < 241 → aCkC y := by
  intro y hy
  have h : ∀ k, k = y / 10 → aCkC (10 * k + y % 10) := by
    intro k hk
    match k, hk with
    | 0, hk => exact aCkT_0 (y % 10) (by omega)
    | 1, hk => exact aCkT_1 (y % 10) (by omega)
    | 2, hk => exact aCkT_2 (y % 10) (by omega)
    | 3, hk => exact aCkT_3 (y % 10) (by omega)
    | 4, hk => exact aCkT_4 (y % 10) (by omega)
    | 5, hk => exact aCkT_5 (y % 10) (by omega)
    | 6, hk => exact aCkT_6 (y % 10) (by omega)
    | 7, hk => exact aCkT_7 (y % 10) (by omega)
    | 8, hk => exact aCkT_8 (y % 10) (by omega)
    | 9, hk => exact aCkT_9 (y % 10) (by omega)
    | 10, hk => exact aCkT_10 (y % 10) (by omega)
    | 11, hk => exact aCkT_11 (y % 10) (by omega)
    | 12, hk => exact aCkT_12 (y % 10) (by omega)
    | 13, hk => exact aCkT_13 (y % 10) (by omega)
    | 14, hk => exact aCkT_14 (y % 10) (by omega)
    | 15, hk => exact aCkT_15 (y % 10) (by omega)
    | 16, hk => exact aCkT_16 (y % 10) (by omega)
    | 17, hk => exact aCkT_17 (y % 10) (by omega)
    | 18, hk => exact aCkT_18 (y % 10) (by omega)
    | 19, hk => exact aCkT_19 (y % 10) (by omega)
    | 20, hk => exact aCkT_20 (y % 10) (by omega)
    | 21, hk => exact aCkT_21 (y % 10) (by omega)
    | 22, hk => exact aCkT_22 (y % 10) (by omega)
    | 23, hk => exact aCkT_23 (y % 10) (by omega)
    | 24, hk => exact aCkT_24 (y % 10) (by omega)
    | k + 25, hk => omega
  have h2 := h _ rfl
  rwa [Nat.div_add_mod] at h2
theorem aOkW : ∀ y, y + 1 < aIs.length → aCkWP y := by
  intro y hy
  have e : aIs.length = 242 := by decide +kernel
  rw [e] at hy
  refine ⟨?_, aCkC_all y (by omega)⟩
  by_cases h : y < 121
  · have h1 := aCkW_a y h
    rwa [Nat.zero_add] at h1
  · have h1 := aCkW_b (y - 121) (by omega)
    rwa [show 121 + (y - 121) = y by omega] at h1
