/-! THE METHODS' CODE stands among the words -/
theorem am_ic {P : Nat → Prop} {a b : Nat} (h : P a) (r : ∀ M, a + 1 ≤ M → M < b → P M) : ∀ M, a ≤ M → M < b → P M := fun M h1 h2 => by
  rcases Nat.eq_or_lt_of_le h1 with e | e
  · exact e ▸ h
  · exact r M e h2
theorem am_in {P : Nat → Prop} {a : Nat} : ∀ M, a ≤ M → M < a → P M := fun M h1 h2 => absurd h2 (Nat.not_lt.mpr h1)
set_option maxRecDepth 20000 in
theorem am_w_0 : am_w0 0 ∈ lw_tbl := List.mem_append_right _ (List.mem_append_left _ (List.mem_of_getElem? (i := 141) (show tables_1_1[141]? = some (am_w0 0) from rfl)))
set_option maxRecDepth 20000 in
theorem am_w_1 : am_w0 1 ∈ lw_tbl := List.mem_append_right _ (List.mem_append_right _ (List.mem_append_left _ (List.mem_of_getElem? (i := 171) (show tables_1_2[171]? = some (am_w0 1) from rfl))))
set_option maxRecDepth 20000 in
theorem am_w_2 : am_w0 2 ∈ lw_tbl := List.mem_append_right _ (List.mem_append_right _ (List.mem_append_left _ (List.mem_of_getElem? (i := 233) (show tables_1_2[233]? = some (am_w0 2) from rfl))))
set_option maxRecDepth 20000 in
theorem am_w_3 : am_w0 3 ∈ lw_tbl := List.mem_append_right _ (List.mem_append_right _ (List.mem_append_right _ (List.mem_append_left _ (List.mem_of_getElem? (i := 3) (show tables_1_3[3]? = some (am_w0 3) from rfl)))))
set_option maxRecDepth 20000 in
theorem am_w_4 : am_w0 4 ∈ lw_tbl := List.mem_append_right _ (List.mem_append_right _ (List.mem_append_right _ (List.mem_append_left _ (List.mem_of_getElem? (i := 65) (show tables_1_3[65]? = some (am_w0 4) from rfl)))))
set_option maxRecDepth 20000 in
theorem am_w_5 : am_w0 5 ∈ lw_tbl := List.mem_append_right _ (List.mem_append_right _ (List.mem_append_right _ (List.mem_append_left _ (List.mem_of_getElem? (i := 69) (show tables_1_3[69]? = some (am_w0 5) from rfl)))))
set_option maxRecDepth 20000 in
theorem am_w_6 : am_w0 6 ∈ lw_tbl := List.mem_append_right _ (List.mem_append_right _ (List.mem_append_left _ (List.mem_of_getElem? (i := 237) (show tables_1_2[237]? = some (am_w0 6) from rfl))))
set_option maxRecDepth 20000 in
theorem am_w_7 : am_w0 7 ∈ lw_tbl := List.mem_append_right _ (List.mem_append_right _ (List.mem_append_right _ (List.mem_append_left _ (List.mem_of_getElem? (i := 7) (show tables_1_3[7]? = some (am_w0 7) from rfl)))))
set_option maxRecDepth 20000 in
theorem am_w_8 : am_w0 8 ∈ lw_tbl := List.mem_append_right _ (List.mem_append_right _ (List.mem_append_right _ (List.mem_append_left _ (List.mem_of_getElem? (i := 13) (show tables_1_3[13]? = some (am_w0 8) from rfl)))))
set_option maxRecDepth 20000 in
theorem am_w_9 : am_w0 9 ∈ lw_tbl := List.mem_append_right _ (List.mem_append_right _ (List.mem_append_right _ (List.mem_append_left _ (List.mem_of_getElem? (i := 96) (show tables_1_3[96]? = some (am_w0 9) from rfl)))))
set_option maxRecDepth 20000 in
theorem am_w_10 : am_w0 10 ∈ lw_tbl := List.mem_append_right _ (List.mem_append_right _ (List.mem_append_right _ (List.mem_append_left _ (List.mem_of_getElem? (i := 10) (show tables_1_3[10]? = some (am_w0 10) from rfl)))))
set_option maxRecDepth 20000 in
theorem am_w_11 : am_w0 11 ∈ lw_tbl := List.mem_append_right _ (List.mem_append_right _ (List.mem_append_right _ (List.mem_append_left _ (List.mem_of_getElem? (i := 76) (show tables_1_3[76]? = some (am_w0 11) from rfl)))))
set_option maxRecDepth 20000 in
theorem am_w_12 : am_w0 12 ∈ lw_tbl := List.mem_append_right _ (List.mem_append_right _ (List.mem_append_right _ (List.mem_append_left _ (List.mem_of_getElem? (i := 73) (show tables_1_3[73]? = some (am_w0 12) from rfl)))))
set_option maxRecDepth 20000 in
theorem am_w_13 : am_w0 13 ∈ lw_tbl := List.mem_append_right _ (List.mem_append_right _ (List.mem_append_right _ (List.mem_append_left _ (List.mem_of_getElem? (i := 81) (show tables_1_3[81]? = some (am_w0 13) from rfl)))))
set_option maxRecDepth 20000 in
theorem am_w_14 : am_w0 14 ∈ lw_tbl := List.mem_append_right _ (List.mem_append_left _ (List.mem_of_getElem? (i := 52) (show tables_1_1[52]? = some (am_w0 14) from rfl)))
set_option maxRecDepth 20000 in
theorem am_w_15 : am_w0 15 ∈ lw_tbl := List.mem_append_right _ (List.mem_append_right _ (List.mem_append_left _ (List.mem_of_getElem? (i := 136) (show tables_1_2[136]? = some (am_w0 15) from rfl))))
set_option maxRecDepth 20000 in
theorem am_w_16 : am_w0 16 ∈ lw_tbl := List.mem_append_right _ (List.mem_append_right _ (List.mem_append_left _ (List.mem_of_getElem? (i := 187) (show tables_1_2[187]? = some (am_w0 16) from rfl))))
set_option maxRecDepth 20000 in
theorem am_w_17 : am_w0 17 ∈ lw_tbl := List.mem_append_right _ (List.mem_append_left _ (List.mem_of_getElem? (i := 36) (show tables_1_1[36]? = some (am_w0 17) from rfl)))
set_option maxRecDepth 20000 in
theorem am_w_18 : am_w0 18 ∈ lw_tbl := List.mem_append_right _ (List.mem_append_right _ (List.mem_append_left _ (List.mem_of_getElem? (i := 124) (show tables_1_2[124]? = some (am_w0 18) from rfl))))
set_option maxRecDepth 20000 in
theorem am_w_19 : am_w0 19 ∈ lw_tbl := List.mem_append_right _ (List.mem_append_right _ (List.mem_append_left _ (List.mem_of_getElem? (i := 161) (show tables_1_2[161]? = some (am_w0 19) from rfl))))
set_option maxRecDepth 20000 in
theorem am_w_20 : am_w0 20 ∈ lw_tbl := List.mem_append_right _ (List.mem_append_right _ (List.mem_append_left _ (List.mem_of_getElem? (i := 229) (show tables_1_2[229]? = some (am_w0 20) from rfl))))
set_option maxRecDepth 20000 in
theorem am_w_21 : am_w0 21 ∈ lw_tbl := List.mem_append_right _ (List.mem_append_left _ (List.mem_of_getElem? (i := 137) (show tables_1_1[137]? = some (am_w0 21) from rfl)))
set_option maxRecDepth 20000 in
theorem am_w_22 : am_w0 22 ∈ lw_tbl := List.mem_append_right _ (List.mem_append_right _ (List.mem_append_left _ (List.mem_of_getElem? (i := 149) (show tables_1_2[149]? = some (am_w0 22) from rfl))))
set_option maxRecDepth 20000 in
theorem am_w_23 : am_w0 23 ∈ lw_tbl := List.mem_append_right _ (List.mem_append_right _ (List.mem_append_left _ (List.mem_of_getElem? (i := 202) (show tables_1_2[202]? = some (am_w0 23) from rfl))))
set_option maxRecDepth 20000 in
theorem am_w_24 : am_w0 24 ∈ lw_tbl := List.mem_append_right _ (List.mem_append_right _ (List.mem_append_left _ (List.mem_of_getElem? (i := 179) (show tables_1_2[179]? = some (am_w0 24) from rfl))))
set_option maxRecDepth 20000 in
theorem am_w_25 : am_w0 25 ∈ lw_tbl := List.mem_append_right _ (List.mem_append_left _ (List.mem_of_getElem? (i := 67) (show tables_1_1[67]? = some (am_w0 25) from rfl)))
set_option maxRecDepth 20000 in
theorem am_w_26 : am_w0 26 ∈ lw_tbl := List.mem_append_right _ (List.mem_append_right _ (List.mem_append_left _ (List.mem_of_getElem? (i := 198) (show tables_1_2[198]? = some (am_w0 26) from rfl))))
set_option maxRecDepth 20000 in
theorem am_w_27 : am_w0 27 ∈ lw_tbl := List.mem_append_right _ (List.mem_append_right _ (List.mem_append_right _ (List.mem_append_right _ (List.mem_append_left _ (List.mem_of_getElem? (i := 178) (show tables_1_4[178]? = some (am_w0 27) from rfl))))))
set_option maxRecDepth 20000 in
theorem am_w_28 : am_w0 28 ∈ lw_tbl := List.mem_append_right _ (List.mem_append_right _ (List.mem_append_right _ (List.mem_append_left _ (List.mem_of_getElem? (i := 155) (show tables_1_3[155]? = some (am_w0 28) from rfl)))))
set_option maxRecDepth 20000 in
theorem am_w_29 : am_w0 29 ∈ lw_tbl := List.mem_append_right _ (List.mem_append_right _ (List.mem_append_right _ (List.mem_append_left _ (List.mem_of_getElem? (i := 142) (show tables_1_3[142]? = some (am_w0 29) from rfl)))))
set_option maxRecDepth 20000 in
theorem am_w_30 : am_w0 30 ∈ lw_tbl := List.mem_append_right _ (List.mem_append_right _ (List.mem_append_right _ (List.mem_append_right _ (List.mem_append_left _ (List.mem_of_getElem? (i := 112) (show tables_1_4[112]? = some (am_w0 30) from rfl))))))
set_option maxRecDepth 20000 in
theorem am_w_31 : am_w0 31 ∈ lw_tbl := List.mem_append_right _ (List.mem_append_left _ (List.mem_of_getElem? (i := 92) (show tables_1_1[92]? = some (am_w0 31) from rfl)))
set_option maxRecDepth 20000 in
theorem am_w_32 : am_w0 32 ∈ lw_tbl := List.mem_append_right _ (List.mem_append_right _ (List.mem_append_right _ (List.mem_append_left _ (List.mem_of_getElem? (i := 147) (show tables_1_3[147]? = some (am_w0 32) from rfl)))))
set_option maxRecDepth 20000 in
theorem am_w_33 : am_w0 33 ∈ lw_tbl := List.mem_append_right _ (List.mem_append_right _ (List.mem_append_right _ (List.mem_append_left _ (List.mem_of_getElem? (i := 187) (show tables_1_3[187]? = some (am_w0 33) from rfl)))))
set_option maxRecDepth 20000 in
theorem am_w_34 : am_w0 34 ∈ lw_tbl := List.mem_append_right _ (List.mem_append_right _ (List.mem_append_right _ (List.mem_append_right _ (List.mem_append_left _ (List.mem_of_getElem? (i := 26) (show tables_1_4[26]? = some (am_w0 34) from rfl))))))
set_option maxRecDepth 20000 in
theorem am_w_35 : am_w0 35 ∈ lw_tbl := List.mem_append_right _ (List.mem_append_right _ (List.mem_append_right _ (List.mem_append_left _ (List.mem_of_getElem? (i := 191) (show tables_1_3[191]? = some (am_w0 35) from rfl)))))
set_option maxRecDepth 20000 in
theorem am_w_36 : am_w0 36 ∈ lw_tbl := List.mem_append_right _ (List.mem_append_right _ (List.mem_append_right _ (List.mem_append_right _ (List.mem_append_left _ (List.mem_of_getElem? (i := 93) (show tables_1_4[93]? = some (am_w0 36) from rfl))))))
set_option maxRecDepth 20000 in
theorem am_w_37 : am_w0 37 ∈ lw_tbl := List.mem_append_right _ (List.mem_append_right _ (List.mem_append_right _ (List.mem_append_left _ (List.mem_of_getElem? (i := 204) (show tables_1_3[204]? = some (am_w0 37) from rfl)))))
set_option maxRecDepth 20000 in
theorem am_w_38 : am_w0 38 ∈ lw_tbl := List.mem_append_right _ (List.mem_append_right _ (List.mem_append_right _ (List.mem_append_left _ (List.mem_of_getElem? (i := 200) (show tables_1_3[200]? = some (am_w0 38) from rfl)))))
set_option maxRecDepth 20000 in
theorem am_w_39 : am_w0 39 ∈ lw_tbl := List.mem_append_right _ (List.mem_append_right _ (List.mem_append_right _ (List.mem_append_right _ (List.mem_append_left _ (List.mem_of_getElem? (i := 22) (show tables_1_4[22]? = some (am_w0 39) from rfl))))))
set_option maxRecDepth 20000 in
theorem am_w_40 : am_w0 40 ∈ lw_tbl := List.mem_append_right _ (List.mem_append_right _ (List.mem_append_right _ (List.mem_append_right _ (List.mem_append_left _ (List.mem_of_getElem? (i := 70) (show tables_1_4[70]? = some (am_w0 40) from rfl))))))
set_option maxRecDepth 20000 in
theorem am_w_41 : am_w0 41 ∈ lw_tbl := List.mem_append_right _ (List.mem_append_right _ (List.mem_append_right _ (List.mem_append_right _ (List.mem_append_left _ (List.mem_of_getElem? (i := 42) (show tables_1_4[42]? = some (am_w0 41) from rfl))))))
set_option maxRecDepth 20000 in
theorem am_w_42 : am_w0 42 ∈ lw_tbl := List.mem_append_right _ (List.mem_append_right _ (List.mem_append_right _ (List.mem_append_right _ (List.mem_append_left _ (List.mem_of_getElem? (i := 192) (show tables_1_4[192]? = some (am_w0 42) from rfl))))))
set_option maxRecDepth 20000 in
theorem am_w_43 : am_w0 43 ∈ lw_tbl := List.mem_append_right _ (List.mem_append_right _ (List.mem_append_right _ (List.mem_append_right _ (List.mem_append_left _ (List.mem_of_getElem? (i := 34) (show tables_1_4[34]? = some (am_w0 43) from rfl))))))
set_option maxRecDepth 20000 in
theorem am_w_44 : am_w0 44 ∈ lw_tbl := List.mem_append_right _ (List.mem_append_right _ (List.mem_append_right _ (List.mem_append_right _ (List.mem_append_left _ (List.mem_of_getElem? (i := 38) (show tables_1_4[38]? = some (am_w0 44) from rfl))))))
set_option maxRecDepth 20000 in
theorem am_w_45 : am_w0 45 ∈ lw_tbl := List.mem_append_right _ (List.mem_append_left _ (List.mem_of_getElem? (i := 131) (show tables_1_1[131]? = some (am_w0 45) from rfl)))
set_option maxRecDepth 20000 in
theorem am_w_46 : am_w0 46 ∈ lw_tbl := List.mem_append_right _ (List.mem_append_right _ (List.mem_append_left _ (List.mem_of_getElem? (i := 153) (show tables_1_2[153]? = some (am_w0 46) from rfl))))
set_option maxRecDepth 20000 in
theorem am_w_47 : am_w0 47 ∈ lw_tbl := List.mem_append_right _ (List.mem_append_right _ (List.mem_append_left _ (List.mem_of_getElem? (i := 145) (show tables_1_2[145]? = some (am_w0 47) from rfl))))
set_option maxRecDepth 20000 in
theorem am_w_48 : am_w0 48 ∈ lw_tbl := List.mem_append_right _ (List.mem_append_right _ (List.mem_append_left _ (List.mem_of_getElem? (i := 157) (show tables_1_2[157]? = some (am_w0 48) from rfl))))
set_option maxRecDepth 20000 in
theorem am_w_49 : am_w0 49 ∈ lw_tbl := List.mem_append_right _ (List.mem_append_right _ (List.mem_append_left _ (List.mem_of_getElem? (i := 168) (show tables_1_2[168]? = some (am_w0 49) from rfl))))
set_option maxRecDepth 20000 in
theorem am_w_50 : am_w0 50 ∈ lw_tbl := List.mem_append_right _ (List.mem_append_right _ (List.mem_append_left _ (List.mem_of_getElem? (i := 175) (show tables_1_2[175]? = some (am_w0 50) from rfl))))
set_option maxRecDepth 20000 in
theorem am_w_51 : am_w0 51 ∈ lw_tbl := List.mem_append_right _ (List.mem_append_right _ (List.mem_append_left _ (List.mem_of_getElem? (i := 183) (show tables_1_2[183]? = some (am_w0 51) from rfl))))
set_option maxRecDepth 20000 in
theorem am_w_52 : am_w0 52 ∈ lw_tbl := List.mem_append_right _ (List.mem_append_right _ (List.mem_append_left _ (List.mem_of_getElem? (i := 194) (show tables_1_2[194]? = some (am_w0 52) from rfl))))
set_option maxRecDepth 20000 in
theorem am_w_53 : am_w0 53 ∈ lw_tbl := List.mem_append_right _ (List.mem_append_right _ (List.mem_append_left _ (List.mem_of_getElem? (i := 206) (show tables_1_2[206]? = some (am_w0 53) from rfl))))
set_option maxRecDepth 20000 in
theorem am_w_54 : am_w0 54 ∈ lw_tbl := List.mem_append_right _ (List.mem_append_right _ (List.mem_append_left _ (List.mem_of_getElem? (i := 210) (show tables_1_2[210]? = some (am_w0 54) from rfl))))
set_option maxRecDepth 20000 in
theorem am_w_55 : am_w0 55 ∈ lw_tbl := List.mem_append_right _ (List.mem_append_right _ (List.mem_append_left _ (List.mem_of_getElem? (i := 217) (show tables_1_2[217]? = some (am_w0 55) from rfl))))
set_option maxRecDepth 20000 in
theorem am_w_56 : am_w0 56 ∈ lw_tbl := List.mem_append_right _ (List.mem_append_right _ (List.mem_append_left _ (List.mem_of_getElem? (i := 224) (show tables_1_2[224]? = some (am_w0 56) from rfl))))
set_option maxRecDepth 20000 in
theorem am_w_57 : am_w0 57 ∈ lw_tbl := List.mem_append_right _ (List.mem_append_right _ (List.mem_append_right _ (List.mem_append_left _ (List.mem_of_getElem? (i := 52) (show tables_1_3[52]? = some (am_w0 57) from rfl)))))
set_option maxRecDepth 20000 in
theorem am_w_58 : am_w0 58 ∈ lw_tbl := List.mem_append_right _ (List.mem_append_right _ (List.mem_append_right _ (List.mem_append_left _ (List.mem_of_getElem? (i := 56) (show tables_1_3[56]? = some (am_w0 58) from rfl)))))
set_option maxRecDepth 20000 in
theorem am_w_59 : am_w0 59 ∈ lw_tbl := List.mem_append_right _ (List.mem_append_right _ (List.mem_append_right _ (List.mem_append_left _ (List.mem_of_getElem? (i := 60) (show tables_1_3[60]? = some (am_w0 59) from rfl)))))
set_option maxRecDepth 20000 in
theorem am_w_60 : am_w0 60 ∈ lw_tbl := List.mem_append_right _ (List.mem_append_right _ (List.mem_append_right _ (List.mem_append_left _ (List.mem_of_getElem? (i := 121) (show tables_1_3[121]? = some (am_w0 60) from rfl)))))
set_option maxRecDepth 20000 in
theorem am_w_61 : am_w0 61 ∈ lw_tbl := List.mem_append_right _ (List.mem_append_right _ (List.mem_append_right _ (List.mem_append_left _ (List.mem_of_getElem? (i := 125) (show tables_1_3[125]? = some (am_w0 61) from rfl)))))
set_option maxRecDepth 20000 in
theorem am_w_62 : am_w0 62 ∈ lw_tbl := List.mem_append_right _ (List.mem_append_right _ (List.mem_append_right _ (List.mem_append_left _ (List.mem_of_getElem? (i := 129) (show tables_1_3[129]? = some (am_w0 62) from rfl)))))
set_option maxRecDepth 20000 in
theorem am_w_63 : am_w0 63 ∈ lw_tbl := List.mem_append_right _ (List.mem_append_left _ (List.mem_of_getElem? (i := 179) (show tables_1_1[179]? = some (am_w0 63) from rfl)))
set_option maxRecDepth 20000 in
theorem am_w_64 : am_w0 64 ∈ lw_tbl := List.mem_append_right _ (List.mem_append_right _ (List.mem_append_right _ (List.mem_append_left _ (List.mem_of_getElem? (i := 133) (show tables_1_3[133]? = some (am_w0 64) from rfl)))))
set_option maxRecDepth 20000 in
theorem am_w_65 : am_w0 65 ∈ lw_tbl := List.mem_append_right _ (List.mem_append_right _ (List.mem_append_right _ (List.mem_append_left _ (List.mem_of_getElem? (i := 151) (show tables_1_3[151]? = some (am_w0 65) from rfl)))))
set_option maxRecDepth 20000 in
theorem am_w_66 : am_w0 66 ∈ lw_tbl := List.mem_append_right _ (List.mem_append_right _ (List.mem_append_right _ (List.mem_append_left _ (List.mem_of_getElem? (i := 171) (show tables_1_3[171]? = some (am_w0 66) from rfl)))))
set_option maxRecDepth 20000 in
theorem am_w_67 : am_w0 67 ∈ lw_tbl := List.mem_append_right _ (List.mem_append_right _ (List.mem_append_right _ (List.mem_append_left _ (List.mem_of_getElem? (i := 220) (show tables_1_3[220]? = some (am_w0 67) from rfl)))))
set_option maxRecDepth 20000 in
theorem am_w_68 : am_w0 68 ∈ lw_tbl := List.mem_append_right _ (List.mem_append_right _ (List.mem_append_right _ (List.mem_append_left _ (List.mem_of_getElem? (i := 138) (show tables_1_3[138]? = some (am_w0 68) from rfl)))))
set_option maxRecDepth 20000 in
theorem am_w_69 : am_w0 69 ∈ lw_tbl := List.mem_append_right _ (List.mem_append_right _ (List.mem_append_right _ (List.mem_append_left _ (List.mem_of_getElem? (i := 159) (show tables_1_3[159]? = some (am_w0 69) from rfl)))))
set_option maxRecDepth 20000 in
theorem am_w_70 : am_w0 70 ∈ lw_tbl := List.mem_append_right _ (List.mem_append_right _ (List.mem_append_right _ (List.mem_append_right _ (List.mem_append_left _ (List.mem_of_getElem? (i := 18) (show tables_1_4[18]? = some (am_w0 70) from rfl))))))
set_option maxRecDepth 20000 in
theorem am_w_71 : am_w0 71 ∈ lw_tbl := List.mem_append_right _ (List.mem_append_right _ (List.mem_append_right _ (List.mem_append_left _ (List.mem_of_getElem? (i := 163) (show tables_1_3[163]? = some (am_w0 71) from rfl)))))
set_option maxRecDepth 20000 in
theorem am_w_72 : am_w0 72 ∈ lw_tbl := List.mem_append_right _ (List.mem_append_right _ (List.mem_append_right _ (List.mem_append_left _ (List.mem_of_getElem? (i := 167) (show tables_1_3[167]? = some (am_w0 72) from rfl)))))
set_option maxRecDepth 20000 in
theorem am_w_73 : am_w0 73 ∈ lw_tbl := List.mem_append_right _ (List.mem_append_right _ (List.mem_append_right _ (List.mem_append_right _ (List.mem_append_left _ (List.mem_of_getElem? (i := 30) (show tables_1_4[30]? = some (am_w0 73) from rfl))))))
set_option maxRecDepth 20000 in
theorem am_w_74 : am_w0 74 ∈ lw_tbl := List.mem_append_right _ (List.mem_append_right _ (List.mem_append_right _ (List.mem_append_right _ (List.mem_append_left _ (List.mem_of_getElem? (i := 6) (show tables_1_4[6]? = some (am_w0 74) from rfl))))))
set_option maxRecDepth 20000 in
theorem am_w_75 : am_w0 75 ∈ lw_tbl := List.mem_append_right _ (List.mem_append_right _ (List.mem_append_right _ (List.mem_append_right _ (List.mem_append_left _ (List.mem_of_getElem? (i := 10) (show tables_1_4[10]? = some (am_w0 75) from rfl))))))
set_option maxRecDepth 20000 in
theorem am_w_76 : am_w0 76 ∈ lw_tbl := List.mem_append_right _ (List.mem_append_right _ (List.mem_append_right _ (List.mem_append_right _ (List.mem_append_left _ (List.mem_of_getElem? (i := 14) (show tables_1_4[14]? = some (am_w0 76) from rfl))))))
set_option maxRecDepth 20000 in
theorem am_w_77 : am_w0 77 ∈ lw_tbl := List.mem_append_right _ (List.mem_append_right _ (List.mem_append_right _ (List.mem_append_left _ (List.mem_of_getElem? (i := 175) (show tables_1_3[175]? = some (am_w0 77) from rfl)))))
set_option maxRecDepth 20000 in
theorem am_w_78 : am_w0 78 ∈ lw_tbl := List.mem_append_right _ (List.mem_append_right _ (List.mem_append_right _ (List.mem_append_left _ (List.mem_of_getElem? (i := 179) (show tables_1_3[179]? = some (am_w0 78) from rfl)))))
set_option maxRecDepth 20000 in
theorem am_w_79 : am_w0 79 ∈ lw_tbl := List.mem_append_right _ (List.mem_append_right _ (List.mem_append_right _ (List.mem_append_left _ (List.mem_of_getElem? (i := 208) (show tables_1_3[208]? = some (am_w0 79) from rfl)))))
set_option maxRecDepth 20000 in
theorem am_w_80 : am_w0 80 ∈ lw_tbl := List.mem_append_right _ (List.mem_append_right _ (List.mem_append_right _ (List.mem_append_left _ (List.mem_of_getElem? (i := 232) (show tables_1_3[232]? = some (am_w0 80) from rfl)))))
set_option maxRecDepth 20000 in
theorem am_w_81 : am_w0 81 ∈ lw_tbl := List.mem_append_right _ (List.mem_append_right _ (List.mem_append_right _ (List.mem_append_left _ (List.mem_of_getElem? (i := 232) (show tables_1_3[232]? = some (am_w0 81) from rfl)))))
set_option maxRecDepth 20000 in
theorem am_w_82 : am_w0 82 ∈ lw_tbl := List.mem_append_right _ (List.mem_append_right _ (List.mem_append_right _ (List.mem_append_left _ (List.mem_of_getElem? (i := 236) (show tables_1_3[236]? = some (am_w0 82) from rfl)))))
set_option maxRecDepth 20000 in
theorem am_w_83 : am_w0 83 ∈ lw_tbl := List.mem_append_right _ (List.mem_append_right _ (List.mem_append_right _ (List.mem_append_left _ (List.mem_of_getElem? (i := 228) (show tables_1_3[228]? = some (am_w0 83) from rfl)))))
set_option maxRecDepth 20000 in
theorem am_w_84 : am_w0 84 ∈ lw_tbl := List.mem_append_right _ (List.mem_append_right _ (List.mem_append_right _ (List.mem_append_left _ (List.mem_of_getElem? (i := 212) (show tables_1_3[212]? = some (am_w0 84) from rfl)))))
set_option maxRecDepth 20000 in
theorem am_w_85 : am_w0 85 ∈ lw_tbl := List.mem_append_right _ (List.mem_append_right _ (List.mem_append_right _ (List.mem_append_left _ (List.mem_of_getElem? (i := 216) (show tables_1_3[216]? = some (am_w0 85) from rfl)))))
set_option maxRecDepth 20000 in
theorem am_w_86 : am_w0 86 ∈ lw_tbl := List.mem_append_right _ (List.mem_append_right _ (List.mem_append_right _ (List.mem_append_left _ (List.mem_of_getElem? (i := 224) (show tables_1_3[224]? = some (am_w0 86) from rfl)))))
set_option maxRecDepth 20000 in
theorem am_w_87 : am_w0 87 ∈ lw_tbl := List.mem_append_right _ (List.mem_append_right _ (List.mem_append_right _ (List.mem_append_left _ (List.mem_of_getElem? (i := 183) (show tables_1_3[183]? = some (am_w0 87) from rfl)))))
set_option maxRecDepth 20000 in
theorem am_w_88 : am_w0 88 ∈ lw_tbl := List.mem_append_right _ (List.mem_append_right _ (List.mem_append_right _ (List.mem_append_left _ (List.mem_of_getElem? (i := 196) (show tables_1_3[196]? = some (am_w0 88) from rfl)))))
set_option maxRecDepth 20000 in
theorem am_w_89 : am_w0 89 ∈ lw_tbl := List.mem_append_right _ (List.mem_append_left _ (List.mem_of_getElem? (i := 198) (show tables_1_1[198]? = some (am_w0 89) from rfl)))
set_option maxRecDepth 20000 in
theorem am_w_90 : am_w0 90 ∈ lw_tbl := List.mem_append_right _ (List.mem_append_right _ (List.mem_append_right _ (List.mem_append_right _ (List.mem_append_left _ (List.mem_of_getElem? (i := 207) (show tables_1_4[207]? = some (am_w0 90) from rfl))))))
set_option maxRecDepth 20000 in
theorem am_w_91 : am_w0 91 ∈ lw_tbl := List.mem_append_right _ (List.mem_append_right _ (List.mem_append_right _ (List.mem_append_right _ (List.mem_append_left _ (List.mem_of_getElem? (i := 62) (show tables_1_4[62]? = some (am_w0 91) from rfl))))))
set_option maxRecDepth 20000 in
theorem am_w_92 : am_w0 92 ∈ lw_tbl := List.mem_append_right _ (List.mem_append_right _ (List.mem_append_right _ (List.mem_append_right _ (List.mem_append_left _ (List.mem_of_getElem? (i := 89) (show tables_1_4[89]? = some (am_w0 92) from rfl))))))
set_option maxRecDepth 20000 in
theorem am_w_93 : am_w0 93 ∈ lw_tbl := List.mem_append_right _ (List.mem_append_right _ (List.mem_append_right _ (List.mem_append_right _ (List.mem_append_left _ (List.mem_of_getElem? (i := 83) (show tables_1_4[83]? = some (am_w0 93) from rfl))))))
set_option maxRecDepth 20000 in
theorem am_w_94 : am_w0 94 ∈ lw_tbl := List.mem_append_right _ (List.mem_append_right _ (List.mem_append_right _ (List.mem_append_right _ (List.mem_append_left _ (List.mem_of_getElem? (i := 106) (show tables_1_4[106]? = some (am_w0 94) from rfl))))))
set_option maxRecDepth 20000 in
theorem am_w_95 : am_w0 95 ∈ lw_tbl := List.mem_append_right _ (List.mem_append_right _ (List.mem_append_right _ (List.mem_append_right _ (List.mem_append_left _ (List.mem_of_getElem? (i := 78) (show tables_1_4[78]? = some (am_w0 95) from rfl))))))
set_option maxRecDepth 20000 in
theorem am_w_96 : am_w0 96 ∈ lw_tbl := List.mem_append_right _ (List.mem_append_right _ (List.mem_append_right _ (List.mem_append_right _ (List.mem_append_left _ (List.mem_of_getElem? (i := 66) (show tables_1_4[66]? = some (am_w0 96) from rfl))))))
set_option maxRecDepth 20000 in
theorem am_w_97 : am_w0 97 ∈ lw_tbl := List.mem_append_right _ (List.mem_append_right _ (List.mem_append_right _ (List.mem_append_right _ (List.mem_append_left _ (List.mem_of_getElem? (i := 74) (show tables_1_4[74]? = some (am_w0 97) from rfl))))))
set_option maxRecDepth 20000 in
theorem am_w_98 : am_w0 98 ∈ lw_tbl := List.mem_append_right _ (List.mem_append_right _ (List.mem_append_right _ (List.mem_append_right _ (List.mem_append_left _ (List.mem_of_getElem? (i := 97) (show tables_1_4[97]? = some (am_w0 98) from rfl))))))
set_option maxRecDepth 20000 in
theorem am_w_99 : am_w0 99 ∈ lw_tbl := List.mem_append_right _ (List.mem_append_right _ (List.mem_append_right _ (List.mem_append_right _ (List.mem_append_left _ (List.mem_of_getElem? (i := 101) (show tables_1_4[101]? = some (am_w0 99) from rfl))))))
set_option maxRecDepth 20000 in
theorem am_w_100 : am_w0 100 ∈ lw_tbl := List.mem_append_right _ (List.mem_append_right _ (List.mem_append_right _ (List.mem_append_right _ (List.mem_append_left _ (List.mem_of_getElem? (i := 143) (show tables_1_4[143]? = some (am_w0 100) from rfl))))))
set_option maxRecDepth 20000 in
theorem am_w_101 : am_w0 101 ∈ lw_tbl := List.mem_append_right _ (List.mem_append_right _ (List.mem_append_right _ (List.mem_append_right _ (List.mem_append_left _ (List.mem_of_getElem? (i := 149) (show tables_1_4[149]? = some (am_w0 101) from rfl))))))
set_option maxRecDepth 20000 in
theorem am_w_102 : am_w0 102 ∈ lw_tbl := List.mem_append_right _ (List.mem_append_right _ (List.mem_append_right _ (List.mem_append_right _ (List.mem_append_left _ (List.mem_of_getElem? (i := 117) (show tables_1_4[117]? = some (am_w0 102) from rfl))))))
set_option maxRecDepth 20000 in
theorem am_w_103 : am_w0 103 ∈ lw_tbl := List.mem_append_right _ (List.mem_append_right _ (List.mem_append_right _ (List.mem_append_right _ (List.mem_append_left _ (List.mem_of_getElem? (i := 136) (show tables_1_4[136]? = some (am_w0 103) from rfl))))))
set_option maxRecDepth 20000 in
theorem am_w_104 : am_w0 104 ∈ lw_tbl := List.mem_append_right _ (List.mem_append_right _ (List.mem_append_right _ (List.mem_append_right _ (List.mem_append_left _ (List.mem_of_getElem? (i := 121) (show tables_1_4[121]? = some (am_w0 104) from rfl))))))
set_option maxRecDepth 20000 in
theorem am_w_105 : am_w0 105 ∈ lw_tbl := List.mem_append_right _ (List.mem_append_right _ (List.mem_append_right _ (List.mem_append_right _ (List.mem_append_left _ (List.mem_of_getElem? (i := 125) (show tables_1_4[125]? = some (am_w0 105) from rfl))))))
set_option maxRecDepth 20000 in
theorem am_w_106 : am_w0 106 ∈ lw_tbl := List.mem_append_right _ (List.mem_append_right _ (List.mem_append_right _ (List.mem_append_right _ (List.mem_append_left _ (List.mem_of_getElem? (i := 129) (show tables_1_4[129]? = some (am_w0 106) from rfl))))))
set_option maxRecDepth 20000 in
theorem am_w_107 : am_w0 107 ∈ lw_tbl := List.mem_append_right _ (List.mem_append_left _ (List.mem_of_getElem? (i := 28) (show tables_1_1[28]? = some (am_w0 107) from rfl)))
set_option maxRecDepth 20000 in
theorem am_w_108 : am_w0 108 ∈ lw_tbl := List.mem_append_right _ (List.mem_append_right _ (List.mem_append_left _ (List.mem_of_getElem? (i := 27) (show tables_1_2[27]? = some (am_w0 108) from rfl))))
set_option maxRecDepth 20000 in
theorem am_w_109 : am_w0 109 ∈ lw_tbl := List.mem_append_right _ (List.mem_append_right _ (List.mem_append_left _ (List.mem_of_getElem? (i := 2) (show tables_1_2[2]? = some (am_w0 109) from rfl))))
set_option maxRecDepth 20000 in
theorem am_w_110 : am_w0 110 ∈ lw_tbl := List.mem_append_right _ (List.mem_append_right _ (List.mem_append_left _ (List.mem_of_getElem? (i := 132) (show tables_1_2[132]? = some (am_w0 110) from rfl))))
set_option maxRecDepth 20000 in
theorem am_w_111 : am_w0 111 ∈ lw_tbl := List.mem_append_right _ (List.mem_append_right _ (List.mem_append_left _ (List.mem_of_getElem? (i := 6) (show tables_1_2[6]? = some (am_w0 111) from rfl))))
set_option maxRecDepth 20000 in
theorem am_w_112 : am_w0 112 ∈ lw_tbl := List.mem_append_right _ (List.mem_append_right _ (List.mem_append_left _ (List.mem_of_getElem? (i := 10) (show tables_1_2[10]? = some (am_w0 112) from rfl))))
set_option maxRecDepth 20000 in
theorem am_w_113 : am_w0 113 ∈ lw_tbl := List.mem_append_right _ (List.mem_append_right _ (List.mem_append_right _ (List.mem_append_right _ (List.mem_append_left _ (List.mem_of_getElem? (i := 158) (show tables_1_4[158]? = some (am_w0 113) from rfl))))))
set_option maxRecDepth 20000 in
theorem am_w_114 : am_w0 114 ∈ lw_tbl := List.mem_append_right _ (List.mem_append_right _ (List.mem_append_left _ (List.mem_of_getElem? (i := 14) (show tables_1_2[14]? = some (am_w0 114) from rfl))))
set_option maxRecDepth 20000 in
theorem am_w_115 : am_w0 115 ∈ lw_tbl := List.mem_append_right _ (List.mem_append_right _ (List.mem_append_right _ (List.mem_append_right _ (List.mem_append_left _ (List.mem_of_getElem? (i := 187) (show tables_1_4[187]? = some (am_w0 115) from rfl))))))
set_option maxRecDepth 20000 in
theorem am_w_116 : am_w0 116 ∈ lw_tbl := List.mem_append_right _ (List.mem_append_right _ (List.mem_append_left _ (List.mem_of_getElem? (i := 18) (show tables_1_2[18]? = some (am_w0 116) from rfl))))
set_option maxRecDepth 20000 in
theorem am_w_117 : am_w0 117 ∈ lw_tbl := List.mem_append_right _ (List.mem_append_right _ (List.mem_append_right _ (List.mem_append_right _ (List.mem_append_left _ (List.mem_of_getElem? (i := 202) (show tables_1_4[202]? = some (am_w0 117) from rfl))))))
set_option maxRecDepth 20000 in
theorem am_w_118 : am_w0 118 ∈ lw_tbl := List.mem_append_right _ (List.mem_append_right _ (List.mem_append_left _ (List.mem_of_getElem? (i := 140) (show tables_1_2[140]? = some (am_w0 118) from rfl))))
set_option maxRecDepth 20000 in
theorem am_w_119 : am_w0 119 ∈ lw_tbl := List.mem_append_right _ (List.mem_append_right _ (List.mem_append_left _ (List.mem_of_getElem? (i := 99) (show tables_1_2[99]? = some (am_w0 119) from rfl))))
set_option maxRecDepth 20000 in
theorem am_w_120 : am_w0 120 ∈ lw_tbl := List.mem_append_right _ (List.mem_append_right _ (List.mem_append_left _ (List.mem_of_getElem? (i := 103) (show tables_1_2[103]? = some (am_w0 120) from rfl))))
set_option maxRecDepth 20000 in
theorem am_w_121 : am_w0 121 ∈ lw_tbl := List.mem_append_right _ (List.mem_append_right _ (List.mem_append_left _ (List.mem_of_getElem? (i := 164) (show tables_1_2[164]? = some (am_w0 121) from rfl))))
set_option maxRecDepth 20000 in
theorem am_w_122 : am_w0 122 ∈ lw_tbl := List.mem_append_right _ (List.mem_append_right _ (List.mem_append_left _ (List.mem_of_getElem? (i := 220) (show tables_1_2[220]? = some (am_w0 122) from rfl))))
set_option maxRecDepth 20000 in
theorem am_w_123 : am_w0 123 ∈ lw_tbl := List.mem_append_right _ (List.mem_append_right _ (List.mem_append_left _ (List.mem_of_getElem? (i := 213) (show tables_1_2[213]? = some (am_w0 123) from rfl))))
set_option maxRecDepth 20000 in
theorem am_w_124 : am_w0 124 ∈ lw_tbl := List.mem_append_right _ (List.mem_append_right _ (List.mem_append_right _ (List.mem_append_left _ (List.mem_of_getElem? (i := 239) (show tables_1_3[239]? = some (am_w0 124) from rfl)))))
set_option maxRecDepth 20000 in
theorem am_w_125 : am_w0 125 ∈ lw_tbl := List.mem_append_right _ (List.mem_append_right _ (List.mem_append_right _ (List.mem_append_right _ (List.mem_append_left _ (List.mem_of_getElem? (i := 2) (show tables_1_4[2]? = some (am_w0 125) from rfl))))))
set_option maxRecDepth 20000 in
theorem am_w_126 : am_w0 126 ∈ lw_tbl := List.mem_append_right _ (List.mem_append_right _ (List.mem_append_right _ (List.mem_append_right _ (List.mem_append_left _ (List.mem_of_getElem? (i := 212) (show tables_1_4[212]? = some (am_w0 126) from rfl))))))
set_option maxRecDepth 20000 in
theorem am_w_127 : am_w0 127 ∈ lw_tbl := List.mem_append_right _ (List.mem_append_right _ (List.mem_append_right _ (List.mem_append_right _ (List.mem_append_right _ (List.mem_append_left _ (List.mem_of_getElem? (i := 109) (show tables_1_5[109]? = some (am_w0 127) from rfl)))))))
set_option maxRecDepth 20000 in
theorem am_w_128 : am_w0 128 ∈ lw_tbl := List.mem_append_right _ (List.mem_append_right _ (List.mem_append_right _ (List.mem_append_right _ (List.mem_append_right _ (List.mem_append_left _ (List.mem_of_getElem? (i := 117) (show tables_1_5[117]? = some (am_w0 128) from rfl)))))))
set_option maxRecDepth 20000 in
theorem am_w_129 : am_w0 129 ∈ lw_tbl := List.mem_append_right _ (List.mem_append_right _ (List.mem_append_right _ (List.mem_append_right _ (List.mem_append_right _ (List.mem_append_left _ (List.mem_of_getElem? (i := 113) (show tables_1_5[113]? = some (am_w0 129) from rfl)))))))
set_option maxRecDepth 20000 in
theorem am_w_130 : am_w0 130 ∈ lw_tbl := List.mem_append_right _ (List.mem_append_right _ (List.mem_append_right _ (List.mem_append_right _ (List.mem_append_right _ (List.mem_append_left _ (List.mem_of_getElem? (i := 121) (show tables_1_5[121]? = some (am_w0 130) from rfl)))))))
set_option maxRecDepth 20000 in
theorem am_w_131 : am_w0 131 ∈ lw_tbl := List.mem_append_right _ (List.mem_append_right _ (List.mem_append_right _ (List.mem_append_right _ (List.mem_append_right _ (List.mem_append_left _ (List.mem_of_getElem? (i := 152) (show tables_1_5[152]? = some (am_w0 131) from rfl)))))))
set_option maxRecDepth 20000 in
theorem am_w_132 : am_w0 132 ∈ lw_tbl := List.mem_append_right _ (List.mem_append_right _ (List.mem_append_right _ (List.mem_append_right _ (List.mem_append_right _ (List.mem_append_left _ (List.mem_of_getElem? (i := 137) (show tables_1_5[137]? = some (am_w0 132) from rfl)))))))
set_option maxRecDepth 20000 in
theorem am_w_133 : am_w0 133 ∈ lw_tbl := List.mem_append_right _ (List.mem_append_right _ (List.mem_append_right _ (List.mem_append_right _ (List.mem_append_right _ (List.mem_append_left _ (List.mem_of_getElem? (i := 140) (show tables_1_5[140]? = some (am_w0 133) from rfl)))))))
set_option maxRecDepth 20000 in
theorem am_w_134 : am_w0 134 ∈ lw_tbl := List.mem_append_right _ (List.mem_append_right _ (List.mem_append_right _ (List.mem_append_right _ (List.mem_append_right _ (List.mem_append_left _ (List.mem_of_getElem? (i := 170) (show tables_1_5[170]? = some (am_w0 134) from rfl)))))))
set_option maxRecDepth 20000 in
theorem am_w_135 : am_w0 135 ∈ lw_tbl := List.mem_append_right _ (List.mem_append_right _ (List.mem_append_right _ (List.mem_append_right _ (List.mem_append_right _ (List.mem_append_left _ (List.mem_of_getElem? (i := 163) (show tables_1_5[163]? = some (am_w0 135) from rfl)))))))
set_option maxRecDepth 20000 in
theorem am_w_136 : am_w0 136 ∈ lw_tbl := List.mem_append_right _ (List.mem_append_right _ (List.mem_append_right _ (List.mem_append_right _ (List.mem_append_right _ (List.mem_append_left _ (List.mem_of_getElem? (i := 156) (show tables_1_5[156]? = some (am_w0 136) from rfl)))))))
set_option maxRecDepth 20000 in
theorem am_w_137 : am_w0 137 ∈ lw_tbl := List.mem_append_right _ (List.mem_append_right _ (List.mem_append_right _ (List.mem_append_right _ (List.mem_append_right _ (List.mem_append_left _ (List.mem_of_getElem? (i := 144) (show tables_1_5[144]? = some (am_w0 137) from rfl)))))))
set_option maxRecDepth 20000 in
theorem am_w_138 : am_w0 138 ∈ lw_tbl := List.mem_append_right _ (List.mem_append_right _ (List.mem_append_right _ (List.mem_append_right _ (List.mem_append_right _ (List.mem_append_left _ (List.mem_of_getElem? (i := 148) (show tables_1_5[148]? = some (am_w0 138) from rfl)))))))
set_option maxRecDepth 20000 in
theorem am_w_139 : am_w0 139 ∈ lw_tbl := List.mem_append_right _ (List.mem_append_right _ (List.mem_append_right _ (List.mem_append_right _ (List.mem_append_right _ (List.mem_append_left _ (List.mem_of_getElem? (i := 133) (show tables_1_5[133]? = some (am_w0 139) from rfl)))))))
set_option maxRecDepth 20000 in
theorem am_w_140 : am_w0 140 ∈ lw_tbl := List.mem_append_right _ (List.mem_append_right _ (List.mem_append_right _ (List.mem_append_right _ (List.mem_append_right _ (List.mem_append_left _ (List.mem_of_getElem? (i := 167) (show tables_1_5[167]? = some (am_w0 140) from rfl)))))))
set_option maxRecDepth 20000 in
theorem am_w_141 : am_w0 141 ∈ lw_tbl := List.mem_append_right _ (List.mem_append_right _ (List.mem_append_right _ (List.mem_append_right _ (List.mem_append_right _ (List.mem_append_left _ (List.mem_of_getElem? (i := 186) (show tables_1_5[186]? = some (am_w0 141) from rfl)))))))
set_option maxRecDepth 20000 in
theorem am_w_142 : am_w0 142 ∈ lw_tbl := List.mem_append_right _ (List.mem_append_right _ (List.mem_append_right _ (List.mem_append_right _ (List.mem_append_right _ (List.mem_append_left _ (List.mem_of_getElem? (i := 190) (show tables_1_5[190]? = some (am_w0 142) from rfl)))))))
set_option maxRecDepth 20000 in
theorem am_w_143 : am_w0 143 ∈ lw_tbl := List.mem_append_right _ (List.mem_append_right _ (List.mem_append_right _ (List.mem_append_right _ (List.mem_append_right _ (List.mem_append_left _ (List.mem_of_getElem? (i := 197) (show tables_1_5[197]? = some (am_w0 143) from rfl)))))))
set_option maxRecDepth 20000 in
theorem am_w_144 : am_w0 144 ∈ lw_tbl := List.mem_append_right _ (List.mem_append_right _ (List.mem_append_right _ (List.mem_append_right _ (List.mem_append_right _ (List.mem_append_left _ (List.mem_of_getElem? (i := 201) (show tables_1_5[201]? = some (am_w0 144) from rfl)))))))
set_option maxRecDepth 20000 in
theorem am_w_145 : am_w0 145 ∈ lw_tbl := List.mem_append_right _ (List.mem_append_right _ (List.mem_append_right _ (List.mem_append_right _ (List.mem_append_right _ (List.mem_append_left _ (List.mem_of_getElem? (i := 194) (show tables_1_5[194]? = some (am_w0 145) from rfl)))))))
set_option maxRecDepth 20000 in
theorem am_w_146 : am_w0 146 ∈ lw_tbl := List.mem_append_right _ (List.mem_append_right _ (List.mem_append_right _ (List.mem_append_right _ (List.mem_append_right _ (List.mem_append_left _ (List.mem_of_getElem? (i := 160) (show tables_1_5[160]? = some (am_w0 146) from rfl)))))))
set_option maxRecDepth 20000 in
theorem am_w_147 : am_w0 147 ∈ lw_tbl := List.mem_append_right _ (List.mem_append_right _ (List.mem_append_right _ (List.mem_append_right _ (List.mem_append_right _ (List.mem_append_left _ (List.mem_of_getElem? (i := 129) (show tables_1_5[129]? = some (am_w0 147) from rfl)))))))
set_option maxRecDepth 20000 in
theorem am_w_148 : am_w0 148 ∈ lw_tbl := List.mem_append_right _ (List.mem_append_right _ (List.mem_append_right _ (List.mem_append_right _ (List.mem_append_right _ (List.mem_append_left _ (List.mem_of_getElem? (i := 209) (show tables_1_5[209]? = some (am_w0 148) from rfl)))))))
set_option maxRecDepth 20000 in
theorem am_w_149 : am_w0 149 ∈ lw_tbl := List.mem_append_right _ (List.mem_append_right _ (List.mem_append_right _ (List.mem_append_right _ (List.mem_append_right _ (List.mem_append_left _ (List.mem_of_getElem? (i := 213) (show tables_1_5[213]? = some (am_w0 149) from rfl)))))))
set_option maxRecDepth 20000 in
theorem am_w_150 : am_w0 150 ∈ lw_tbl := List.mem_append_right _ (List.mem_append_right _ (List.mem_append_right _ (List.mem_append_right _ (List.mem_append_right _ (List.mem_append_left _ (List.mem_of_getElem? (i := 221) (show tables_1_5[221]? = some (am_w0 150) from rfl)))))))
set_option maxRecDepth 20000 in
theorem am_w_151 : am_w0 151 ∈ lw_tbl := List.mem_append_right _ (List.mem_append_right _ (List.mem_append_right _ (List.mem_append_right _ (List.mem_append_right _ (List.mem_append_left _ (List.mem_of_getElem? (i := 237) (show tables_1_5[237]? = some (am_w0 151) from rfl)))))))
set_option maxRecDepth 20000 in
theorem am_w_152 : am_w0 152 ∈ lw_tbl := List.mem_append_right _ (List.mem_append_right _ (List.mem_append_right _ (List.mem_append_right _ (List.mem_append_right _ (List.mem_append_left _ (List.mem_of_getElem? (i := 233) (show tables_1_5[233]? = some (am_w0 152) from rfl)))))))
set_option maxRecDepth 20000 in
theorem am_w_153 : am_w0 153 ∈ lw_tbl := List.mem_append_right _ (List.mem_append_right _ (List.mem_append_right _ (List.mem_append_right _ (List.mem_append_right _ (List.mem_append_left _ (List.mem_of_getElem? (i := 217) (show tables_1_5[217]? = some (am_w0 153) from rfl)))))))
set_option maxRecDepth 20000 in
theorem am_w_154 : am_w0 154 ∈ lw_tbl := List.mem_append_right _ (List.mem_append_right _ (List.mem_append_right _ (List.mem_append_right _ (List.mem_append_right _ (List.mem_append_right _ (List.mem_of_getElem? (i := 25) (show tables_1_6[25]? = some (am_w0 154) from rfl)))))))
set_option maxRecDepth 20000 in
theorem am_w_155 : am_w0 155 ∈ lw_tbl := List.mem_append_right _ (List.mem_append_right _ (List.mem_append_right _ (List.mem_append_right _ (List.mem_append_right _ (List.mem_append_right _ (List.mem_of_getElem? (i := 48) (show tables_1_6[48]? = some (am_w0 155) from rfl)))))))
set_option maxRecDepth 20000 in
theorem am_w_156 : am_w0 156 ∈ lw_tbl := List.mem_append_right _ (List.mem_append_right _ (List.mem_append_right _ (List.mem_append_right _ (List.mem_append_right _ (List.mem_append_right _ (List.mem_of_getElem? (i := 45) (show tables_1_6[45]? = some (am_w0 156) from rfl)))))))
set_option maxRecDepth 20000 in
theorem am_w_157 : am_w0 157 ∈ lw_tbl := List.mem_append_right _ (List.mem_append_right _ (List.mem_append_right _ (List.mem_append_right _ (List.mem_append_right _ (List.mem_append_right _ (List.mem_of_getElem? (i := 17) (show tables_1_6[17]? = some (am_w0 157) from rfl)))))))
set_option maxRecDepth 20000 in
theorem am_w_158 : am_w0 158 ∈ lw_tbl := List.mem_append_right _ (List.mem_append_right _ (List.mem_append_right _ (List.mem_append_right _ (List.mem_append_right _ (List.mem_append_right _ (List.mem_of_getElem? (i := 41) (show tables_1_6[41]? = some (am_w0 158) from rfl)))))))
set_option maxRecDepth 20000 in
theorem am_w_159 : am_w0 159 ∈ lw_tbl := List.mem_append_right _ (List.mem_append_right _ (List.mem_append_right _ (List.mem_append_right _ (List.mem_append_right _ (List.mem_append_right _ (List.mem_of_getElem? (i := 13) (show tables_1_6[13]? = some (am_w0 159) from rfl)))))))
set_option maxRecDepth 20000 in
theorem am_w_160 : am_w0 160 ∈ lw_tbl := List.mem_append_right _ (List.mem_append_right _ (List.mem_append_right _ (List.mem_append_right _ (List.mem_append_right _ (List.mem_append_right _ (List.mem_of_getElem? (i := 21) (show tables_1_6[21]? = some (am_w0 160) from rfl)))))))
set_option maxRecDepth 20000 in
theorem am_w_161 : am_w0 161 ∈ lw_tbl := List.mem_append_right _ (List.mem_append_right _ (List.mem_append_right _ (List.mem_append_right _ (List.mem_append_right _ (List.mem_append_right _ (List.mem_of_getElem? (i := 9) (show tables_1_6[9]? = some (am_w0 161) from rfl)))))))
set_option maxRecDepth 20000 in
theorem am_w_162 : am_w0 162 ∈ lw_tbl := List.mem_append_right _ (List.mem_append_right _ (List.mem_append_right _ (List.mem_append_right _ (List.mem_append_right _ (List.mem_append_right _ (List.mem_of_getElem? (i := 33) (show tables_1_6[33]? = some (am_w0 162) from rfl)))))))
set_option maxRecDepth 20000 in
theorem am_w_163 : am_w0 163 ∈ lw_tbl := List.mem_append_right _ (List.mem_append_right _ (List.mem_append_right _ (List.mem_append_right _ (List.mem_append_right _ (List.mem_append_right _ (List.mem_of_getElem? (i := 37) (show tables_1_6[37]? = some (am_w0 163) from rfl)))))))
set_option maxRecDepth 20000 in
theorem am_w_164 : am_w0 164 ∈ lw_tbl := List.mem_append_right _ (List.mem_append_right _ (List.mem_append_right _ (List.mem_append_right _ (List.mem_append_right _ (List.mem_append_right _ (List.mem_of_getElem? (i := 29) (show tables_1_6[29]? = some (am_w0 164) from rfl)))))))
set_option maxRecDepth 20000 in
theorem am_w_165 : am_w0 165 ∈ lw_tbl := List.mem_append_right _ (List.mem_append_right _ (List.mem_append_right _ (List.mem_append_right _ (List.mem_append_right _ (List.mem_append_right _ (List.mem_of_getElem? (i := 5) (show tables_1_6[5]? = some (am_w0 165) from rfl)))))))
set_option maxRecDepth 20000 in
theorem am_w_166 : am_w0 166 ∈ lw_tbl := List.mem_append_right _ (List.mem_append_right _ (List.mem_append_right _ (List.mem_append_right _ (List.mem_append_right _ (List.mem_append_right _ (List.mem_of_getElem? (i := 1) (show tables_1_6[1]? = some (am_w0 166) from rfl)))))))
set_option maxRecDepth 20000 in
theorem am_w_167 : am_w0 167 ∈ lw_tbl := List.mem_append_right _ (List.mem_append_right _ (List.mem_append_right _ (List.mem_append_right _ (List.mem_append_right _ (List.mem_append_left _ (List.mem_of_getElem? (i := 229) (show tables_1_5[229]? = some (am_w0 167) from rfl)))))))
set_option maxRecDepth 20000 in
theorem am_w_168 : am_w0 168 ∈ lw_tbl := List.mem_append_right _ (List.mem_append_right _ (List.mem_append_right _ (List.mem_append_right _ (List.mem_append_right _ (List.mem_append_left _ (List.mem_of_getElem? (i := 225) (show tables_1_5[225]? = some (am_w0 168) from rfl)))))))
set_option maxRecDepth 20000 in
theorem am_w_169 : am_w0 169 ∈ lw_tbl := List.mem_append_right _ (List.mem_append_right _ (List.mem_append_right _ (List.mem_append_right _ (List.mem_append_right _ (List.mem_append_right _ (List.mem_of_getElem? (i := 57) (show tables_1_6[57]? = some (am_w0 169) from rfl)))))))
set_option maxRecDepth 20000 in
theorem am_w_170 : am_w0 170 ∈ lw_tbl := List.mem_append_right _ (List.mem_append_right _ (List.mem_append_right _ (List.mem_append_right _ (List.mem_append_right _ (List.mem_append_right _ (List.mem_of_getElem? (i := 53) (show tables_1_6[53]? = some (am_w0 170) from rfl)))))))
set_option maxRecDepth 20000 in
theorem am_w_171 : am_w0 171 ∈ lw_tbl := List.mem_append_right _ (List.mem_append_right _ (List.mem_append_right _ (List.mem_append_right _ (List.mem_append_right _ (List.mem_append_right _ (List.mem_of_getElem? (i := 61) (show tables_1_6[61]? = some (am_w0 171) from rfl)))))))
set_option maxRecDepth 20000 in
theorem am_w_172 : am_w0 172 ∈ lw_tbl := List.mem_append_right _ (List.mem_append_right _ (List.mem_append_right _ (List.mem_append_right _ (List.mem_append_right _ (List.mem_append_right _ (List.mem_of_getElem? (i := 65) (show tables_1_6[65]? = some (am_w0 172) from rfl)))))))
set_option maxRecDepth 20000 in
theorem am_w_173 : am_w0 173 ∈ lw_tbl := List.mem_append_right _ (List.mem_append_right _ (List.mem_append_right _ (List.mem_append_right _ (List.mem_append_right _ (List.mem_append_left _ (List.mem_of_getElem? (i := 205) (show tables_1_5[205]? = some (am_w0 173) from rfl)))))))
set_option maxRecDepth 20000 in
theorem am_w_174 : am_w0 174 ∈ lw_tbl := List.mem_append_right _ (List.mem_append_right _ (List.mem_append_right _ (List.mem_append_right _ (List.mem_append_right _ (List.mem_append_right _ (List.mem_of_getElem? (i := 69) (show tables_1_6[69]? = some (am_w0 174) from rfl)))))))
set_option maxRecDepth 20000 in
theorem am_w_175 : am_w0 175 ∈ lw_tbl := List.mem_append_right _ (List.mem_append_right _ (List.mem_append_right _ (List.mem_append_right _ (List.mem_append_right _ (List.mem_append_right _ (List.mem_of_getElem? (i := 81) (show tables_1_6[81]? = some (am_w0 175) from rfl)))))))
set_option maxRecDepth 20000 in
theorem am_w_176 : am_w0 176 ∈ lw_tbl := List.mem_append_right _ (List.mem_append_right _ (List.mem_append_right _ (List.mem_append_right _ (List.mem_append_right _ (List.mem_append_right _ (List.mem_of_getElem? (i := 97) (show tables_1_6[97]? = some (am_w0 176) from rfl)))))))
set_option maxRecDepth 20000 in
theorem am_w_177 : am_w0 177 ∈ lw_tbl := List.mem_append_right _ (List.mem_append_right _ (List.mem_append_right _ (List.mem_append_right _ (List.mem_append_right _ (List.mem_append_right _ (List.mem_of_getElem? (i := 113) (show tables_1_6[113]? = some (am_w0 177) from rfl)))))))
set_option maxRecDepth 20000 in
theorem am_w_178 : am_w0 178 ∈ lw_tbl := List.mem_append_right _ (List.mem_append_right _ (List.mem_append_right _ (List.mem_append_right _ (List.mem_append_right _ (List.mem_append_right _ (List.mem_of_getElem? (i := 109) (show tables_1_6[109]? = some (am_w0 178) from rfl)))))))
set_option maxRecDepth 20000 in
theorem am_w_179 : am_w0 179 ∈ lw_tbl := List.mem_append_right _ (List.mem_append_right _ (List.mem_append_right _ (List.mem_append_right _ (List.mem_append_right _ (List.mem_append_right _ (List.mem_of_getElem? (i := 105) (show tables_1_6[105]? = some (am_w0 179) from rfl)))))))
set_option maxRecDepth 20000 in
theorem am_w_180 : am_w0 180 ∈ lw_tbl := List.mem_append_right _ (List.mem_append_right _ (List.mem_append_right _ (List.mem_append_right _ (List.mem_append_right _ (List.mem_append_right _ (List.mem_of_getElem? (i := 101) (show tables_1_6[101]? = some (am_w0 180) from rfl)))))))
set_option maxRecDepth 20000 in
theorem am_w_181 : am_w0 181 ∈ lw_tbl := List.mem_append_right _ (List.mem_append_right _ (List.mem_append_right _ (List.mem_append_right _ (List.mem_append_right _ (List.mem_append_right _ (List.mem_of_getElem? (i := 93) (show tables_1_6[93]? = some (am_w0 181) from rfl)))))))
set_option maxRecDepth 20000 in
theorem am_w_182 : am_w0 182 ∈ lw_tbl := List.mem_append_right _ (List.mem_append_right _ (List.mem_append_right _ (List.mem_append_right _ (List.mem_append_right _ (List.mem_append_right _ (List.mem_of_getElem? (i := 77) (show tables_1_6[77]? = some (am_w0 182) from rfl)))))))
set_option maxRecDepth 20000 in
theorem am_w_183 : am_w0 183 ∈ lw_tbl := List.mem_append_right _ (List.mem_append_right _ (List.mem_append_right _ (List.mem_append_right _ (List.mem_append_right _ (List.mem_append_right _ (List.mem_of_getElem? (i := 89) (show tables_1_6[89]? = some (am_w0 183) from rfl)))))))
set_option maxRecDepth 20000 in
theorem am_w_184 : am_w0 184 ∈ lw_tbl := List.mem_append_right _ (List.mem_append_right _ (List.mem_append_right _ (List.mem_append_right _ (List.mem_append_right _ (List.mem_append_right _ (List.mem_of_getElem? (i := 117) (show tables_1_6[117]? = some (am_w0 184) from rfl)))))))
set_option maxRecDepth 20000 in
theorem am_w_185 : am_w0 185 ∈ lw_tbl := List.mem_append_right _ (List.mem_append_right _ (List.mem_append_right _ (List.mem_append_right _ (List.mem_append_right _ (List.mem_append_right _ (List.mem_of_getElem? (i := 85) (show tables_1_6[85]? = some (am_w0 185) from rfl)))))))
set_option maxRecDepth 20000 in
theorem am_w_186 : am_w0 186 ∈ lw_tbl := List.mem_append_right _ (List.mem_append_right _ (List.mem_append_right _ (List.mem_append_right _ (List.mem_append_right _ (List.mem_append_right _ (List.mem_of_getElem? (i := 73) (show tables_1_6[73]? = some (am_w0 186) from rfl)))))))
set_option maxRecDepth 20000 in
theorem am_w_187 : am_w0 187 ∈ lw_tbl := List.mem_append_right _ (List.mem_append_right _ (List.mem_append_right _ (List.mem_append_right _ (List.mem_append_right _ (List.mem_append_left _ (List.mem_of_getElem? (i := 125) (show tables_1_5[125]? = some (am_w0 187) from rfl)))))))
set_option maxRecDepth 20000 in
theorem am_w_188 : am_w0 188 ∈ lw_tbl := List.mem_append_right _ (List.mem_append_right _ (List.mem_append_right _ (List.mem_append_right _ (List.mem_append_right _ (List.mem_append_right _ (List.mem_of_getElem? (i := 121) (show tables_1_6[121]? = some (am_w0 188) from rfl)))))))
set_option maxRecDepth 20000 in
theorem am_w_189 : am_w0 189 ∈ lw_tbl := List.mem_append_right _ (List.mem_append_right _ (List.mem_append_right _ (List.mem_append_right _ (List.mem_append_right _ (List.mem_append_right _ (List.mem_of_getElem? (i := 125) (show tables_1_6[125]? = some (am_w0 189) from rfl)))))))
set_option maxRecDepth 20000 in
theorem am_w_190 : am_w0 190 ∈ lw_tbl := List.mem_append_right _ (List.mem_append_right _ (List.mem_append_right _ (List.mem_append_right _ (List.mem_append_right _ (List.mem_append_right _ (List.mem_of_getElem? (i := 129) (show tables_1_6[129]? = some (am_w0 190) from rfl)))))))
set_option maxRecDepth 20000 in
theorem am_w_191 : am_w0 191 ∈ lw_tbl := List.mem_append_right _ (List.mem_append_right _ (List.mem_append_right _ (List.mem_append_right _ (List.mem_append_right _ (List.mem_append_right _ (List.mem_of_getElem? (i := 133) (show tables_1_6[133]? = some (am_w0 191) from rfl)))))))
set_option maxRecDepth 20000 in
theorem am_w_192 : am_w0 192 ∈ lw_tbl := List.mem_append_right _ (List.mem_append_right _ (List.mem_append_right _ (List.mem_append_right _ (List.mem_append_right _ (List.mem_append_right _ (List.mem_of_getElem? (i := 137) (show tables_1_6[137]? = some (am_w0 192) from rfl)))))))
set_option maxRecDepth 20000 in
theorem am_w_193 : am_w0 193 ∈ lw_tbl := List.mem_append_right _ (List.mem_append_right _ (List.mem_append_right _ (List.mem_append_right _ (List.mem_append_right _ (List.mem_append_right _ (List.mem_of_getElem? (i := 141) (show tables_1_6[141]? = some (am_w0 193) from rfl)))))))
set_option maxRecDepth 20000 in
theorem am_w_194 : am_w0 194 ∈ lw_tbl := List.mem_append_right _ (List.mem_append_right _ (List.mem_append_right _ (List.mem_append_right _ (List.mem_append_right _ (List.mem_append_right _ (List.mem_of_getElem? (i := 145) (show tables_1_6[145]? = some (am_w0 194) from rfl)))))))
set_option maxRecDepth 20000 in
theorem am_w_195 : am_w0 195 ∈ lw_tbl := List.mem_append_right _ (List.mem_append_right _ (List.mem_append_left _ (List.mem_of_getElem? (i := 21) (show tables_1_2[21]? = some (am_w0 195) from rfl))))
set_option maxRecDepth 20000 in
theorem am_w_196 : am_w0 196 ∈ lw_tbl := List.mem_append_right _ (List.mem_append_right _ (List.mem_append_left _ (List.mem_of_getElem? (i := 127) (show tables_1_2[127]? = some (am_w0 196) from rfl))))
set_option maxRecDepth 20000 in
theorem am_w_197 : am_w0 197 ∈ lw_tbl := List.mem_append_right _ (List.mem_append_right _ (List.mem_append_right _ (List.mem_append_right _ (List.mem_append_left _ (List.mem_of_getElem? (i := 153) (show tables_1_4[153]? = some (am_w0 197) from rfl))))))
set_option maxRecDepth 20000 in
theorem am_w_198 : am_w0 198 ∈ lw_tbl := List.mem_append_right _ (List.mem_append_right _ (List.mem_append_right _ (List.mem_append_right _ (List.mem_append_left _ (List.mem_of_getElem? (i := 183) (show tables_1_4[183]? = some (am_w0 198) from rfl))))))
set_option maxRecDepth 20000 in
theorem am_w_199 : am_w0 199 ∈ lw_tbl := List.mem_append_right _ (List.mem_append_right _ (List.mem_append_right _ (List.mem_append_right _ (List.mem_append_left _ (List.mem_of_getElem? (i := 198) (show tables_1_4[198]? = some (am_w0 199) from rfl))))))
theorem am_wg0 : ∀ M, 0 ≤ M → M < 20 → am_w0 M ∈ lw_tbl := am_ic am_w_0 (am_ic am_w_1 (am_ic am_w_2 (am_ic am_w_3 (am_ic am_w_4 (am_ic am_w_5 (am_ic am_w_6 (am_ic am_w_7 (am_ic am_w_8 (am_ic am_w_9 (am_ic am_w_10 (am_ic am_w_11 (am_ic am_w_12 (am_ic am_w_13 (am_ic am_w_14 (am_ic am_w_15 (am_ic am_w_16 (am_ic am_w_17 (am_ic am_w_18 (am_ic am_w_19 am_in)))))))))))))))))))
theorem am_wg20 : ∀ M, 20 ≤ M → M < 40 → am_w0 M ∈ lw_tbl := am_ic am_w_20 (am_ic am_w_21 (am_ic am_w_22 (am_ic am_w_23 (am_ic am_w_24 (am_ic am_w_25 (am_ic am_w_26 (am_ic am_w_27 (am_ic am_w_28 (am_ic am_w_29 (am_ic am_w_30 (am_ic am_w_31 (am_ic am_w_32 (am_ic am_w_33 (am_ic am_w_34 (am_ic am_w_35 (am_ic am_w_36 (am_ic am_w_37 (am_ic am_w_38 (am_ic am_w_39 am_in)))))))))))))))))))
theorem am_wg40 : ∀ M, 40 ≤ M → M < 60 → am_w0 M ∈ lw_tbl := am_ic am_w_40 (am_ic am_w_41 (am_ic am_w_42 (am_ic am_w_43 (am_ic am_w_44 (am_ic am_w_45 (am_ic am_w_46 (am_ic am_w_47 (am_ic am_w_48 (am_ic am_w_49 (am_ic am_w_50 (am_ic am_w_51 (am_ic am_w_52 (am_ic am_w_53 (am_ic am_w_54 (am_ic am_w_55 (am_ic am_w_56 (am_ic am_w_57 (am_ic am_w_58 (am_ic am_w_59 am_in)))))))))))))))))))
theorem am_wg60 : ∀ M, 60 ≤ M → M < 80 → am_w0 M ∈ lw_tbl := am_ic am_w_60 (am_ic am_w_61 (am_ic am_w_62 (am_ic am_w_63 (am_ic am_w_64 (am_ic am_w_65 (am_ic am_w_66 (am_ic am_w_67 (am_ic am_w_68 (am_ic am_w_69 (am_ic am_w_70 (am_ic am_w_71 (am_ic am_w_72 (am_ic am_w_73 (am_ic am_w_74 (am_ic am_w_75 (am_ic am_w_76 (am_ic am_w_77 (am_ic am_w_78 (am_ic am_w_79 am_in)))))))))))))))))))
theorem am_wg80 : ∀ M, 80 ≤ M → M < 100 → am_w0 M ∈ lw_tbl := am_ic am_w_80 (am_ic am_w_81 (am_ic am_w_82 (am_ic am_w_83 (am_ic am_w_84 (am_ic am_w_85 (am_ic am_w_86 (am_ic am_w_87 (am_ic am_w_88 (am_ic am_w_89 (am_ic am_w_90 (am_ic am_w_91 (am_ic am_w_92 (am_ic am_w_93 (am_ic am_w_94 (am_ic am_w_95 (am_ic am_w_96 (am_ic am_w_97 (am_ic am_w_98 (am_ic am_w_99 am_in)))))))))))))))))))
theorem am_wg100 : ∀ M, 100 ≤ M → M < 120 → am_w0 M ∈ lw_tbl := am_ic am_w_100 (am_ic am_w_101 (am_ic am_w_102 (am_ic am_w_103 (am_ic am_w_104 (am_ic am_w_105 (am_ic am_w_106 (am_ic am_w_107 (am_ic am_w_108 (am_ic am_w_109 (am_ic am_w_110 (am_ic am_w_111 (am_ic am_w_112 (am_ic am_w_113 (am_ic am_w_114 (am_ic am_w_115 (am_ic am_w_116 (am_ic am_w_117 (am_ic am_w_118 (am_ic am_w_119 am_in)))))))))))))))))))
theorem am_wg120 : ∀ M, 120 ≤ M → M < 140 → am_w0 M ∈ lw_tbl := am_ic am_w_120 (am_ic am_w_121 (am_ic am_w_122 (am_ic am_w_123 (am_ic am_w_124 (am_ic am_w_125 (am_ic am_w_126 (am_ic am_w_127 (am_ic am_w_128 (am_ic am_w_129 (am_ic am_w_130 (am_ic am_w_131 (am_ic am_w_132 (am_ic am_w_133 (am_ic am_w_134 (am_ic am_w_135 (am_ic am_w_136 (am_ic am_w_137 (am_ic am_w_138 (am_ic am_w_139 am_in)))))))))))))))))))
theorem am_wg140 : ∀ M, 140 ≤ M → M < 160 → am_w0 M ∈ lw_tbl := am_ic am_w_140 (am_ic am_w_141 (am_ic am_w_142 (am_ic am_w_143 (am_ic am_w_144 (am_ic am_w_145 (am_ic am_w_146 (am_ic am_w_147 (am_ic am_w_148 (am_ic am_w_149 (am_ic am_w_150 (am_ic am_w_151 (am_ic am_w_152 (am_ic am_w_153 (am_ic am_w_154 (am_ic am_w_155 (am_ic am_w_156 (am_ic am_w_157 (am_ic am_w_158 (am_ic am_w_159 am_in)))))))))))))))))))
theorem am_wg160 : ∀ M, 160 ≤ M → M < 180 → am_w0 M ∈ lw_tbl := am_ic am_w_160 (am_ic am_w_161 (am_ic am_w_162 (am_ic am_w_163 (am_ic am_w_164 (am_ic am_w_165 (am_ic am_w_166 (am_ic am_w_167 (am_ic am_w_168 (am_ic am_w_169 (am_ic am_w_170 (am_ic am_w_171 (am_ic am_w_172 (am_ic am_w_173 (am_ic am_w_174 (am_ic am_w_175 (am_ic am_w_176 (am_ic am_w_177 (am_ic am_w_178 (am_ic am_w_179 am_in)))))))))))))))))))
theorem am_wg180 : ∀ M, 180 ≤ M → M < 200 → am_w0 M ∈ lw_tbl := am_ic am_w_180 (am_ic am_w_181 (am_ic am_w_182 (am_ic am_w_183 (am_ic am_w_184 (am_ic am_w_185 (am_ic am_w_186 (am_ic am_w_187 (am_ic am_w_188 (am_ic am_w_189 (am_ic am_w_190 (am_ic am_w_191 (am_ic am_w_192 (am_ic am_w_193 (am_ic am_w_194 (am_ic am_w_195 (am_ic am_w_196 (am_ic am_w_197 (am_ic am_w_198 (am_ic am_w_199 am_in)))))))))))))))))))
theorem am_wm (M : Nat) (h : M < 200) : am_w0 M ∈ lw_tbl := by
  rcases Nat.lt_or_ge M 20 with q | q
  · exact am_wg0 M (by omega) q
  rcases Nat.lt_or_ge M 40 with q | q
  · exact am_wg20 M (by omega) q
  rcases Nat.lt_or_ge M 60 with q | q
  · exact am_wg40 M (by omega) q
  rcases Nat.lt_or_ge M 80 with q | q
  · exact am_wg60 M (by omega) q
  rcases Nat.lt_or_ge M 100 with q | q
  · exact am_wg80 M (by omega) q
  rcases Nat.lt_or_ge M 120 with q | q
  · exact am_wg100 M (by omega) q
  rcases Nat.lt_or_ge M 140 with q | q
  · exact am_wg120 M (by omega) q
  rcases Nat.lt_or_ge M 160 with q | q
  · exact am_wg140 M (by omega) q
  rcases Nat.lt_or_ge M 180 with q | q
  · exact am_wg160 M (by omega) q
  exact am_wg180 M q h
