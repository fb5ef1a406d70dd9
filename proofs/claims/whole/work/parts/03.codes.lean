/-! The methods' code stands among the words of the claim. -/
def pm_cwP (j : Nat) : Prop := Jvm.Cond.code (pm_y j) (pm_code j) (pm_max j) (pm_rt j) ∈ lw_tbl
theorem pm_tb1 {w : Jvm.Cond} (h : w ∈ tables_1_1) : w ∈ lw_tbl := List.mem_append_right _ (List.mem_append_left _ h)
theorem pm_tb2 {w : Jvm.Cond} (h : w ∈ tables_1_2) : w ∈ lw_tbl := List.mem_append_right _ (List.mem_append_right _ (List.mem_append_left _ h))
theorem pm_tb3 {w : Jvm.Cond} (h : w ∈ tables_1_3) : w ∈ lw_tbl := List.mem_append_right _ (List.mem_append_right _ (List.mem_append_right _ (List.mem_append_left _ h)))
theorem pm_tb4 {w : Jvm.Cond} (h : w ∈ tables_1_4) : w ∈ lw_tbl := List.mem_append_right _ (List.mem_append_right _ (List.mem_append_right _ (List.mem_append_right _ (List.mem_append_left _ h))))
theorem pm_tb5 {w : Jvm.Cond} (h : w ∈ tables_1_5) : w ∈ lw_tbl := List.mem_append_right _ (List.mem_append_right _ (List.mem_append_right _ (List.mem_append_right _ (List.mem_append_right _ (List.mem_append_left _ h)))))
theorem pm_tb6 {w : Jvm.Cond} (h : w ∈ tables_1_6) : w ∈ lw_tbl := List.mem_append_right _ (List.mem_append_right _ (List.mem_append_right _ (List.mem_append_right _ (List.mem_append_right _ (List.mem_append_right _ (h))))))
set_option maxRecDepth 20000 in
theorem pm_cw0 : pm_cwP 0 := show Jvm.Cond.code ⟨"BoundedSchemes", "<init>", "()V"⟩ prog_1_method_1_code 2 (none) ∈ lw_tbl from pm_tb1 (List.mem_of_getElem? (i := 18) rfl)
set_option maxRecDepth 20000 in
theorem pm_cw1 : pm_cwP 1 := show Jvm.Cond.code ⟨"BoundedSchemes", "type", "(C)Z"⟩ prog_1_method_2_code 2 (some .boolean) ∈ lw_tbl from pm_tb2 (List.mem_of_getElem? (i := 97) rfl)
set_option maxRecDepth 20000 in
theorem pm_cw2 : pm_cwP 2 := show Jvm.Cond.code ⟨"BoundedSchemes", "readType", "(I)I"⟩ prog_1_method_3_code 3 (some .int) ∈ lw_tbl from pm_tb2 (List.mem_of_getElem? (i := 101) rfl)
set_option maxRecDepth 20000 in
theorem pm_cw3 : pm_cwP 3 := show Jvm.Cond.code ⟨"BoundedSchemes", "readTerm", "()I"⟩ prog_1_method_4_code 2 (some .int) ∈ lw_tbl from pm_tb3 (List.mem_of_getElem? (i := 30) rfl)
set_option maxRecDepth 20000 in
theorem pm_cw4 : pm_cwP 4 := show Jvm.Cond.code ⟨"BoundedSchemes", "below", "(II)I"⟩ prog_1_method_5_code 3 (some .int) ∈ lw_tbl from pm_tb3 (List.mem_of_getElem? (i := 197) rfl)
set_option maxRecDepth 20000 in
theorem pm_cw5 : pm_cwP 5 := show Jvm.Cond.code ⟨"BoundedSchemes", "same", "(II)I"⟩ prog_1_method_6_code 5 (some .int) ∈ lw_tbl from pm_tb3 (List.mem_of_getElem? (i := 218) rfl)
set_option maxRecDepth 20000 in
theorem pm_cw6 : pm_cwP 6 := show Jvm.Cond.code ⟨"BoundedSchemes", "join", "(III)I"⟩ prog_1_method_7_code 6 (some .int) ∈ lw_tbl from pm_tb3 (List.mem_of_getElem? (i := 223) rfl)
set_option maxRecDepth 20000 in
theorem pm_cw7 : pm_cwP 7 := show Jvm.Cond.code ⟨"BoundedSchemes", "meet", "(III)I"⟩ prog_1_method_8_code 7 (some .int) ∈ lw_tbl from pm_tb3 (List.mem_of_getElem? (i := 232) rfl)
set_option maxRecDepth 20000 in
theorem pm_cw8 : pm_cwP 8 := show Jvm.Cond.code ⟨"BoundedSchemes", "size", "(I)I"⟩ prog_1_method_9_code 2 (some .int) ∈ lw_tbl from pm_tb3 (List.mem_of_getElem? (i := 237) rfl)
set_option maxRecDepth 20000 in
theorem pm_cw9 : pm_cwP 9 := show Jvm.Cond.code ⟨"BoundedSchemes", "write", "(I)I"⟩ prog_1_method_10_code 2 (some .int) ∈ lw_tbl from pm_tb4 (List.mem_of_getElem? (i := 1) rfl)
set_option maxRecDepth 20000 in
theorem pm_cw10 : pm_cwP 10 := show Jvm.Cond.code ⟨"BoundedSchemes", "charAt", "(I)I"⟩ prog_1_method_11_code 2 (some .int) ∈ lw_tbl from pm_tb4 (List.mem_of_getElem? (i := 33) rfl)
set_option maxRecDepth 20000 in
theorem pm_cw11 : pm_cwP 11 := show Jvm.Cond.code ⟨"BoundedSchemes", "typeOf", "(I)I"⟩ prog_1_method_12_code 2 (some .int) ∈ lw_tbl from pm_tb4 (List.mem_of_getElem? (i := 37) rfl)
set_option maxRecDepth 20000 in
theorem pm_cw12 : pm_cwP 12 := show Jvm.Cond.code ⟨"BoundedSchemes", "fits", "(I)Z"⟩ prog_1_method_13_code 2 (some .boolean) ∈ lw_tbl from pm_tb4 (List.mem_of_getElem? (i := 45) rfl)
set_option maxRecDepth 20000 in
theorem pm_cw13 : pm_cwP 13 := show Jvm.Cond.code ⟨"BoundedSchemes", "start", "()Z"⟩ prog_1_method_14_code 1 (some .boolean) ∈ lw_tbl from pm_tb4 (List.mem_of_getElem? (i := 53) rfl)
set_option maxRecDepth 20000 in
theorem pm_cw14 : pm_cwP 14 := show Jvm.Cond.code ⟨"BoundedSchemes", "step", "(I)I"⟩ prog_1_method_15_code 3 (some .int) ∈ lw_tbl from pm_tb4 (List.mem_of_getElem? (i := 136) rfl)
set_option maxRecDepth 20000 in
theorem pm_cw15 : pm_cwP 15 := show Jvm.Cond.code ⟨"BoundedSchemes", "steps", "()I"⟩ prog_1_method_16_code 1 (some .int) ∈ lw_tbl from pm_tb4 (List.mem_of_getElem? (i := 141) rfl)
set_option maxRecDepth 20000 in
theorem pm_cw16 : pm_cwP 16 := show Jvm.Cond.code ⟨"BoundedSchemes", "value", "()I"⟩ prog_1_method_17_code 1 (some .int) ∈ lw_tbl from pm_tb4 (List.mem_of_getElem? (i := 145) rfl)
set_option maxRecDepth 20000 in
theorem pm_cw17 : pm_cwP 17 := show Jvm.Cond.code ⟨"BoundedSchemes", "isSlot", "(I)Z"⟩ prog_1_method_18_code 1 (some .boolean) ∈ lw_tbl from pm_tb2 (List.mem_of_getElem? (i := 104) rfl)
set_option maxRecDepth 20000 in
theorem pm_cw18 : pm_cwP 18 := show Jvm.Cond.code ⟨"BoundedSchemes", "hasType", "(I)Z"⟩ prog_1_method_19_code 2 (some .boolean) ∈ lw_tbl from pm_tb3 (List.mem_of_getElem? (i := 201) rfl)
set_option maxRecDepth 20000 in
theorem pm_cw19 : pm_cwP 19 := show Jvm.Cond.code ⟨"BoundedSchemes", "termHasType", "()Z"⟩ prog_1_method_20_code 1 (some .boolean) ∈ lw_tbl from pm_tb4 (List.mem_of_getElem? (i := 49) rfl)
set_option maxRecDepth 20000 in
theorem pm_cw20 : pm_cwP 20 := show Jvm.Cond.code ⟨"BoundedSchemes", "keptBelow", "(LBoundedSchemes$KeptType;LBoundedSchemes$KeptType;)Z"⟩ prog_1_method_21_code 5 (some .boolean) ∈ lw_tbl from pm_tb3 (List.mem_of_getElem? (i := 205) rfl)
set_option maxRecDepth 20000 in
theorem pm_cw21 : pm_cwP 21 := show Jvm.Cond.code ⟨"BoundedSchemes", "keepMade", "(II)I"⟩ prog_1_method_22_code 4 (some .int) ∈ lw_tbl from pm_tb3 (List.mem_of_getElem? (i := 228) rfl)
set_option maxRecDepth 20000 in
theorem pm_cw22 : pm_cwP 22 := show Jvm.Cond.code ⟨"BoundedSchemes", "takeSpareAsTerm", "()V"⟩ prog_1_method_23_code 2 (none) ∈ lw_tbl from pm_tb3 (List.mem_of_getElem? (i := 38) rfl)
set_option maxRecDepth 20000 in
theorem pm_cw23 : pm_cwP 23 := show Jvm.Cond.code ⟨"BoundedSchemes$KeptType", "<init>", "()V"⟩ prog_3_method_1_code 1 (none) ∈ lw_tbl from pm_tb1 (List.mem_of_getElem? (i := 27) rfl)
set_option maxRecDepth 20000 in
theorem pm_cw24 : pm_cwP 24 := show Jvm.Cond.code ⟨"BoundedSchemes$KeptType", "copyFrom", "(LBoundedSchemes$KeptType;)V"⟩ prog_3_method_2_code 3 (none) ∈ lw_tbl from pm_tb4 (List.mem_of_getElem? (i := 41) rfl)
set_option maxRecDepth 20000 in
theorem pm_cw25 : pm_cwP 25 := show Jvm.Cond.code ⟨"BoundedSchemes$KeptType", "append", "(I)V"⟩ prog_3_method_3_code 2 (none) ∈ lw_tbl from pm_tb3 (List.mem_of_getElem? (i := 22) rfl)
set_option maxRecDepth 20000 in
theorem pm_cw26 : pm_cwP 26 := show Jvm.Cond.code ⟨"BoundedSchemes$TypeRoom", "<init>", "()V"⟩ prog_8_method_1_code 1 (none) ∈ lw_tbl from pm_tb1 (List.mem_of_getElem? (i := 48) rfl)
set_option maxRecDepth 20000 in
theorem pm_cw27 : pm_cwP 27 := show Jvm.Cond.code ⟨"BoundedSchemes$TypeRoom", "clear", "()V"⟩ prog_8_method_2_code 1 (none) ∈ lw_tbl from pm_tb2 (List.mem_of_getElem? (i := 108) rfl)
set_option maxRecDepth 20000 in
theorem pm_cw28 : pm_cwP 28 := show Jvm.Cond.code ⟨"BoundedSchemes$TypeRoom", "make", "(IIII)I"⟩ prog_8_method_3_code 6 (some .int) ∈ lw_tbl from pm_tb2 (List.mem_of_getElem? (i := 151) rfl)
set_option maxRecDepth 20000 in
theorem pm_cw29 : pm_cwP 29 := show Jvm.Cond.code ⟨"BoundedSchemes$TypeRoom", "grow", "()Z"⟩ prog_8_method_4_code 2 (some .boolean) ∈ lw_tbl from pm_tb2 (List.mem_of_getElem? (i := 155) rfl)
set_option maxRecDepth 20000 in
theorem pm_cw30 : pm_cwP 30 := show Jvm.Cond.code ⟨"BoundedSchemes$TypeRoom", "variable", "(I)I"⟩ prog_8_method_5_code 2 (some .int) ∈ lw_tbl from pm_tb2 (List.mem_of_getElem? (i := 147) rfl)
set_option maxRecDepth 20000 in
theorem pm_cw31 : pm_cwP 31 := show Jvm.Cond.code ⟨"BoundedSchemes$TypeRoom", "holds", "(II)Z"⟩ prog_8_method_6_code 2 (some .boolean) ∈ lw_tbl from pm_tb2 (List.mem_of_getElem? (i := 173) rfl)
set_option maxRecDepth 20000 in
theorem pm_cw32 : pm_cwP 32 := show Jvm.Cond.code ⟨"BoundedSchemes$TypeRoom", "areRecords", "(II)Z"⟩ prog_8_method_7_code 3 (some .boolean) ∈ lw_tbl from pm_tb3 (List.mem_of_getElem? (i := 102) rfl)
set_option maxRecDepth 20000 in
theorem pm_cw33 : pm_cwP 33 := show Jvm.Cond.code ⟨"BoundedSchemes$TypeRoom", "isRecord", "(I)Z"⟩ prog_8_method_8_code 2 (some .boolean) ∈ lw_tbl from pm_tb3 (List.mem_of_getElem? (i := 106) rfl)
set_option maxRecDepth 20000 in
theorem pm_cw34 : pm_cwP 34 := show Jvm.Cond.code ⟨"BoundedSchemes$TypeRoom", "part", "(II)I"⟩ prog_8_method_9_code 3 (some .int) ∈ lw_tbl from pm_tb3 (List.mem_of_getElem? (i := 26) rfl)
set_option maxRecDepth 20000 in
theorem pm_cw35 : pm_cwP 35 := show Jvm.Cond.code ⟨"BoundedSchemes$TypeRoom", "isVariable", "(I)Z"⟩ prog_8_method_10_code 2 (some .boolean) ∈ lw_tbl from pm_tb3 (List.mem_of_getElem? (i := 62) rfl)
set_option maxRecDepth 20000 in
theorem pm_cw36 : pm_cwP 36 := show Jvm.Cond.code ⟨"BoundedSchemes$TypeRoom", "levelOf", "(I)I"⟩ prog_8_method_11_code 2 (some .int) ∈ lw_tbl from pm_tb3 (List.mem_of_getElem? (i := 66) rfl)
set_option maxRecDepth 20000 in
theorem pm_cw37 : pm_cwP 37 := show Jvm.Cond.code ⟨"BoundedSchemes$TypeRoom", "keep", "(ILBoundedSchemes$KeptType;)V"⟩ prog_8_method_12_code 3 (none) ∈ lw_tbl from pm_tb3 (List.mem_of_getElem? (i := 14) rfl)
set_option maxRecDepth 20000 in
theorem pm_cw38 : pm_cwP 38 := show Jvm.Cond.code ⟨"BoundedSchemes$TypeRoom", "pack", "(ILBoundedSchemes$KeptType;I)V"⟩ prog_8_method_13_code 5 (none) ∈ lw_tbl from pm_tb3 (List.mem_of_getElem? (i := 18) rfl)
set_option maxRecDepth 20000 in
theorem pm_cw39 : pm_cwP 39 := show Jvm.Cond.code ⟨"BoundedSchemes$TypeRoom", "unpack", "(LBoundedSchemes$KeptType;)I"⟩ prog_8_method_14_code 2 (some .int) ∈ lw_tbl from pm_tb3 (List.mem_of_getElem? (i := 209) rfl)
set_option maxRecDepth 20000 in
theorem pm_cw40 : pm_cwP 40 := show Jvm.Cond.code ⟨"BoundedSchemes$TypeRoom", "unpackNext", "(LBoundedSchemes$KeptType;I)I"⟩ prog_8_method_15_code 7 (some .int) ∈ lw_tbl from pm_tb3 (List.mem_of_getElem? (i := 213) rfl)
set_option maxRecDepth 20000 in
theorem pm_cw41 : pm_cwP 41 := show Jvm.Cond.code ⟨"BoundedSchemes$TypeRoom", "isSame", "(III)Z"⟩ prog_8_method_16_code 5 (some .boolean) ∈ lw_tbl from pm_tb3 (List.mem_of_getElem? (i := 119) rfl)
set_option maxRecDepth 20000 in
theorem pm_cw42 : pm_cwP 42 := show Jvm.Cond.code ⟨"BoundedSchemes$TypeRoom", "lift", "(IIII)I"⟩ prog_8_method_17_code 8 (some .int) ∈ lw_tbl from pm_tb3 (List.mem_of_getElem? (i := 58) rfl)
set_option maxRecDepth 20000 in
theorem pm_cw43 : pm_cwP 43 := show Jvm.Cond.code ⟨"BoundedSchemes$TypeRoom", "remake", "(IIII)I"⟩ prog_8_method_18_code 5 (some .int) ∈ lw_tbl from pm_tb3 (List.mem_of_getElem? (i := 72) rfl)
set_option maxRecDepth 20000 in
theorem pm_cw44 : pm_cwP 44 := show Jvm.Cond.code ⟨"BoundedSchemes$TypeRoom", "replace", "(IIIII)I"⟩ prog_8_method_19_code 10 (some .int) ∈ lw_tbl from pm_tb3 (List.mem_of_getElem? (i := 136) rfl)
set_option maxRecDepth 20000 in
theorem pm_cw45 : pm_cwP 45 := show Jvm.Cond.code ⟨"BoundedSchemes$TypeRoom", "boundOf", "(II)I"⟩ prog_8_method_20_code 4 (some .int) ∈ lw_tbl from pm_tb3 (List.mem_of_getElem? (i := 90) rfl)
set_option maxRecDepth 20000 in
theorem pm_cw46 : pm_cwP 46 := show Jvm.Cond.code ⟨"BoundedSchemes$TypeRoom", "exposed", "(II)I"⟩ prog_8_method_21_code 5 (some .int) ∈ lw_tbl from pm_tb3 (List.mem_of_getElem? (i := 86) rfl)
set_option maxRecDepth 20000 in
theorem pm_cw47 : pm_cwP 47 := show Jvm.Cond.code ⟨"BoundedSchemes$TypeRoom", "openOne", "(II)Z"⟩ prog_8_method_22_code 3 (some .boolean) ∈ lw_tbl from pm_tb3 (List.mem_of_getElem? (i := 123) rfl)
set_option maxRecDepth 20000 in
theorem pm_cw48 : pm_cwP 48 := show Jvm.Cond.code ⟨"BoundedSchemes$TypeRoom", "isBelow", "(IIII)Z"⟩ prog_8_method_23_code 7 (some .boolean) ∈ lw_tbl from pm_tb3 (List.mem_of_getElem? (i := 94) rfl)
set_option maxRecDepth 20000 in
theorem pm_cw49 : pm_cwP 49 := show Jvm.Cond.code ⟨"BoundedSchemes$TypeRoom", "isBelowForm", "(IIII)Z"⟩ prog_8_method_24_code 7 (some .boolean) ∈ lw_tbl from pm_tb3 (List.mem_of_getElem? (i := 98) rfl)
set_option maxRecDepth 20000 in
theorem pm_cw50 : pm_cwP 50 := show Jvm.Cond.code ⟨"BoundedSchemes$TypeRoom", "isRecordBelow", "(IIII)Z"⟩ prog_8_method_25_code 6 (some .boolean) ∈ lw_tbl from pm_tb3 (List.mem_of_getElem? (i := 110) rfl)
set_option maxRecDepth 20000 in
theorem pm_cw51 : pm_cwP 51 := show Jvm.Cond.code ⟨"BoundedSchemes$TypeRoom", "haveSameBound", "(II)Z"⟩ prog_8_method_26_code 3 (some .boolean) ∈ lw_tbl from pm_tb3 (List.mem_of_getElem? (i := 115) rfl)
set_option maxRecDepth 20000 in
theorem pm_cw52 : pm_cwP 52 := show Jvm.Cond.code ⟨"BoundedSchemes$TypeRoom", "joinOf", "(IIII)I"⟩ prog_8_method_27_code 8 (some .int) ∈ lw_tbl from pm_tb3 (List.mem_of_getElem? (i := 168) rfl)
set_option maxRecDepth 20000 in
theorem pm_cw53 : pm_cwP 53 := show Jvm.Cond.code ⟨"BoundedSchemes$TypeRoom", "joinOfForms", "(IIII)I"⟩ prog_8_method_28_code 7 (some .int) ∈ lw_tbl from pm_tb3 (List.mem_of_getElem? (i := 172) rfl)
set_option maxRecDepth 20000 in
theorem pm_cw54 : pm_cwP 54 := show Jvm.Cond.code ⟨"BoundedSchemes$TypeRoom", "joinOfParts", "(IIIII)I"⟩ prog_8_method_29_code 6 (some .int) ∈ lw_tbl from pm_tb3 (List.mem_of_getElem? (i := 176) rfl)
set_option maxRecDepth 20000 in
theorem pm_cw55 : pm_cwP 55 := show Jvm.Cond.code ⟨"BoundedSchemes$TypeRoom", "meetOf", "(IIII)I"⟩ prog_8_method_30_code 5 (some .int) ∈ lw_tbl from pm_tb3 (List.mem_of_getElem? (i := 181) rfl)
set_option maxRecDepth 20000 in
theorem pm_cw56 : pm_cwP 56 := show Jvm.Cond.code ⟨"BoundedSchemes$TypeRoom", "meetOfForms", "(IIII)I"⟩ prog_8_method_31_code 7 (some .int) ∈ lw_tbl from pm_tb3 (List.mem_of_getElem? (i := 185) rfl)
set_option maxRecDepth 20000 in
theorem pm_cw57 : pm_cwP 57 := show Jvm.Cond.code ⟨"BoundedSchemes$TypeRoom", "meetOfRecords", "(IIII)I"⟩ prog_8_method_32_code 8 (some .int) ∈ lw_tbl from pm_tb3 (List.mem_of_getElem? (i := 189) rfl)
set_option maxRecDepth 20000 in
theorem pm_cw58 : pm_cwP 58 := show Jvm.Cond.code ⟨"BoundedSchemes$TypeRoom", "meetOfParts", "(IIIII)I"⟩ prog_8_method_33_code 6 (some .int) ∈ lw_tbl from pm_tb3 (List.mem_of_getElem? (i := 193) rfl)
set_option maxRecDepth 20000 in
theorem pm_cw59 : pm_cwP 59 := show Jvm.Cond.code ⟨"BoundedSchemes$TypeRoom", "writeOn", "(LBoundedSchemes$Page;III)V"⟩ prog_8_method_34_code 5 (none) ∈ lw_tbl from pm_tb4 (List.mem_of_getElem? (i := 9) rfl)
set_option maxRecDepth 20000 in
theorem pm_cw60 : pm_cwP 60 := show Jvm.Cond.code ⟨"BoundedSchemes$TypeRoom", "writeRecordOn", "(LBoundedSchemes$Page;III)V"⟩ prog_8_method_35_code 7 (none) ∈ lw_tbl from pm_tb4 (List.mem_of_getElem? (i := 21) rfl)
set_option maxRecDepth 20000 in
theorem pm_cw61 : pm_cwP 61 := show Jvm.Cond.code ⟨"BoundedSchemes$TypeRoom", "nameOf", "(I)C"⟩ prog_8_method_36_code 1 (some .char) ∈ lw_tbl from pm_tb4 (List.mem_of_getElem? (i := 12) rfl)
set_option maxRecDepth 20000 in
theorem pm_cw62 : pm_cwP 62 := show Jvm.Cond.code ⟨"BoundedSchemes$Page", "<init>", "()V"⟩ prog_5_method_1_code 1 (none) ∈ lw_tbl from pm_tb1 (List.mem_of_getElem? (i := 82) rfl)
set_option maxRecDepth 20000 in
theorem pm_cw63 : pm_cwP 63 := show Jvm.Cond.code ⟨"BoundedSchemes$Page", "begin", "()V"⟩ prog_5_method_2_code 1 (none) ∈ lw_tbl from pm_tb4 (List.mem_of_getElem? (i := 5) rfl)
set_option maxRecDepth 20000 in
theorem pm_cw64 : pm_cwP 64 := show Jvm.Cond.code ⟨"BoundedSchemes$Page", "put", "(C)V"⟩ prog_5_method_3_code 2 (none) ∈ lw_tbl from pm_tb4 (List.mem_of_getElem? (i := 16) rfl)
set_option maxRecDepth 20000 in
theorem pm_cw65 : pm_cwP 65 := show Jvm.Cond.code ⟨"BoundedSchemes$Page", "isOver", "()Z"⟩ prog_5_method_4_code 1 (some .boolean) ∈ lw_tbl from pm_tb4 (List.mem_of_getElem? (i := 29) rfl)
set_option maxRecDepth 20000 in
theorem pm_cw66 : pm_cwP 66 := show Jvm.Cond.code ⟨"BoundedSchemes$Page", "show", "()I"⟩ prog_5_method_5_code 2 (some .int) ∈ lw_tbl from pm_tb4 (List.mem_of_getElem? (i := 25) rfl)
set_option maxRecDepth 20000 in
theorem pm_cw67 : pm_cwP 67 := show Jvm.Cond.code ⟨"BoundedSchemes$Term", "<init>", "()V"⟩ prog_7_method_1_code 1 (none) ∈ lw_tbl from pm_tb1 (List.mem_of_getElem? (i := 103) rfl)
set_option maxRecDepth 20000 in
theorem pm_cw68 : pm_cwP 68 := show Jvm.Cond.code ⟨"BoundedSchemes$Term", "add", "(II)I"⟩ prog_7_method_2_code 4 (some .int) ∈ lw_tbl from pm_tb2 (List.mem_of_getElem? (i := 193) rfl)
set_option maxRecDepth 20000 in
theorem pm_cw69 : pm_cwP 69 := show Jvm.Cond.code ⟨"BoundedSchemes$Term", "fill", "(IIIII)V"⟩ prog_7_method_3_code 6 (none) ∈ lw_tbl from pm_tb2 (List.mem_of_getElem? (i := 201) rfl)
set_option maxRecDepth 20000 in
theorem pm_cw70 : pm_cwP 70 := show Jvm.Cond.code ⟨"BoundedSchemes$Term", "holds", "(II)Z"⟩ prog_7_method_4_code 3 (some .boolean) ∈ lw_tbl from pm_tb3 (List.mem_of_getElem? (i := 149) rfl)
set_option maxRecDepth 20000 in
theorem pm_cw71 : pm_cwP 71 := show Jvm.Cond.code ⟨"BoundedSchemes$Term", "part", "(II)I"⟩ prog_7_method_5_code 3 (some .int) ∈ lw_tbl from pm_tb3 (List.mem_of_getElem? (i := 153) rfl)
set_option maxRecDepth 20000 in
theorem pm_cw72 : pm_cwP 72 := show Jvm.Cond.code ⟨"BoundedSchemes$Term", "labelFrom", "(II)I"⟩ prog_7_method_6_code 4 (some .int) ∈ lw_tbl from pm_tb4 (List.mem_of_getElem? (i := 88) rfl)
set_option maxRecDepth 20000 in
theorem pm_cw73 : pm_cwP 73 := show Jvm.Cond.code ⟨"BoundedSchemes$Reader", "<init>", "(LBoundedSchemes$TypeRoom;[CLBoundedSchemes$Term;)V"⟩ prog_6_method_1_code 4 (none) ∈ lw_tbl from pm_tb1 (List.mem_of_getElem? (i := 141) rfl)
set_option maxRecDepth 20000 in
theorem pm_cw74 : pm_cwP 74 := show Jvm.Cond.code ⟨"BoundedSchemes$Reader", "readWholeType", "(I)I"⟩ prog_6_method_2_code 3 (some .int) ∈ lw_tbl from pm_tb2 (List.mem_of_getElem? (i := 112) rfl)
set_option maxRecDepth 20000 in
theorem pm_cw75 : pm_cwP 75 := show Jvm.Cond.code ⟨"BoundedSchemes$Reader", "readWholeTerm", "(ILBoundedSchemes$Term;)V"⟩ prog_6_method_3_code 3 (none) ∈ lw_tbl from pm_tb3 (List.mem_of_getElem? (i := 34) rfl)
set_option maxRecDepth 20000 in
theorem pm_cw76 : pm_cwP 76 := show Jvm.Cond.code ⟨"BoundedSchemes$Reader", "begin", "(I)V"⟩ prog_6_method_4_code 2 (none) ∈ lw_tbl from pm_tb2 (List.mem_of_getElem? (i := 116) rfl)
set_option maxRecDepth 20000 in
theorem pm_cw77 : pm_cwP 77 := show Jvm.Cond.code ⟨"BoundedSchemes$Reader", "end", "(I)V"⟩ prog_6_method_5_code 2 (none) ∈ lw_tbl from pm_tb3 (List.mem_of_getElem? (i := 10) rfl)
set_option maxRecDepth 20000 in
theorem pm_cw78 : pm_cwP 78 := show Jvm.Cond.code ⟨"BoundedSchemes$Reader", "next", "()C"⟩ prog_6_method_6_code 1 (some .char) ∈ lw_tbl from pm_tb2 (List.mem_of_getElem? (i := 135) rfl)
set_option maxRecDepth 20000 in
theorem pm_cw79 : pm_cwP 79 := show Jvm.Cond.code ⟨"BoundedSchemes$Reader", "take", "(C)Z"⟩ prog_6_method_7_code 2 (some .boolean) ∈ lw_tbl from pm_tb2 (List.mem_of_getElem? (i := 131) rfl)
set_option maxRecDepth 20000 in
theorem pm_cw80 : pm_cwP 80 := show Jvm.Cond.code ⟨"BoundedSchemes$Reader", "takeBetween", "(CC)C"⟩ prog_6_method_8_code 4 (some .char) ∈ lw_tbl from pm_tb2 (List.mem_of_getElem? (i := 139) rfl)
set_option maxRecDepth 20000 in
theorem pm_cw81 : pm_cwP 81 := show Jvm.Cond.code ⟨"BoundedSchemes$Reader", "takeLabel", "(II)I"⟩ prog_6_method_9_code 4 (some .int) ∈ lw_tbl from pm_tb2 (List.mem_of_getElem? (i := 181) rfl)
set_option maxRecDepth 20000 in
theorem pm_cw82 : pm_cwP 82 := show Jvm.Cond.code ⟨"BoundedSchemes$Reader", "openType", "(C)V"⟩ prog_6_method_10_code 2 (none) ∈ lw_tbl from pm_tb2 (List.mem_of_getElem? (i := 225) rfl)
set_option maxRecDepth 20000 in
theorem pm_cw83 : pm_cwP 83 := show Jvm.Cond.code ⟨"BoundedSchemes$Reader", "openName", "(CI)V"⟩ prog_6_method_11_code 3 (none) ∈ lw_tbl from pm_tb2 (List.mem_of_getElem? (i := 213) rfl)
set_option maxRecDepth 20000 in
theorem pm_cw84 : pm_cwP 84 := show Jvm.Cond.code ⟨"BoundedSchemes$Reader", "levelOf", "(C)I"⟩ prog_6_method_12_code 3 (some .int) ∈ lw_tbl from pm_tb2 (List.mem_of_getElem? (i := 143) rfl)
set_option maxRecDepth 20000 in
theorem pm_cw85 : pm_cwP 85 := show Jvm.Cond.code ⟨"BoundedSchemes$Reader", "binderOf", "(C)I"⟩ prog_6_method_13_code 3 (some .int) ∈ lw_tbl from pm_tb2 (List.mem_of_getElem? (i := 197) rfl)
set_option maxRecDepth 20000 in
theorem pm_cw86 : pm_cwP 86 := show Jvm.Cond.code ⟨"BoundedSchemes$Reader", "outerType", "(I)I"⟩ prog_6_method_14_code 3 (some .int) ∈ lw_tbl from pm_tb2 (List.mem_of_getElem? (i := 123) rfl)
set_option maxRecDepth 20000 in
theorem pm_cw87 : pm_cwP 87 := show Jvm.Cond.code ⟨"BoundedSchemes$Reader", "anyType", "(I)I"⟩ prog_6_method_15_code 3 (some .int) ∈ lw_tbl from pm_tb2 (List.mem_of_getElem? (i := 127) rfl)
set_option maxRecDepth 20000 in
theorem pm_cw88 : pm_cwP 88 := show Jvm.Cond.code ⟨"BoundedSchemes$Reader", "functionType", "(I)I"⟩ prog_6_method_16_code 4 (some .int) ∈ lw_tbl from pm_tb3 (List.mem_of_getElem? (i := 2) rfl)
set_option maxRecDepth 20000 in
theorem pm_cw89 : pm_cwP 89 := show Jvm.Cond.code ⟨"BoundedSchemes$Reader", "schemeType", "(I)I"⟩ prog_6_method_17_code 5 (some .int) ∈ lw_tbl from pm_tb3 (List.mem_of_getElem? (i := 6) rfl)
set_option maxRecDepth 20000 in
theorem pm_cw90 : pm_cwP 90 := show Jvm.Cond.code ⟨"BoundedSchemes$Reader", "recordParts", "(ZII)I"⟩ prog_6_method_18_code 14 (some .int) ∈ lw_tbl from pm_tb2 (List.mem_of_getElem? (i := 177) rfl)
set_option maxRecDepth 20000 in
theorem pm_cw91 : pm_cwP 91 := show Jvm.Cond.code ⟨"BoundedSchemes$Reader", "recordPart", "(ZI)I"⟩ prog_6_method_19_code 3 (some .int) ∈ lw_tbl from pm_tb2 (List.mem_of_getElem? (i := 185) rfl)
set_option maxRecDepth 20000 in
theorem pm_cw92 : pm_cwP 92 := show Jvm.Cond.code ⟨"BoundedSchemes$Reader", "anyTerm", "(I)I"⟩ prog_6_method_20_code 5 (some .int) ∈ lw_tbl from pm_tb2 (List.mem_of_getElem? (i := 189) rfl)
set_option maxRecDepth 20000 in
theorem pm_cw93 : pm_cwP 93 := show Jvm.Cond.code ⟨"BoundedSchemes$Reader", "holdingTerm", "(II)I"⟩ prog_6_method_21_code 3 (some .int) ∈ lw_tbl from pm_tb2 (List.mem_of_getElem? (i := 205) rfl)
set_option maxRecDepth 20000 in
theorem pm_cw94 : pm_cwP 94 := show Jvm.Cond.code ⟨"BoundedSchemes$Reader", "function", "(II)I"⟩ prog_6_method_22_code 6 (some .int) ∈ lw_tbl from pm_tb2 (List.mem_of_getElem? (i := 209) rfl)
set_option maxRecDepth 20000 in
theorem pm_cw95 : pm_cwP 95 := show Jvm.Cond.code ⟨"BoundedSchemes$Reader", "application", "(II)I"⟩ prog_6_method_23_code 5 (some .int) ∈ lw_tbl from pm_tb2 (List.mem_of_getElem? (i := 217) rfl)
set_option maxRecDepth 20000 in
theorem pm_cw96 : pm_cwP 96 := show Jvm.Cond.code ⟨"BoundedSchemes$Reader", "general", "(II)I"⟩ prog_6_method_24_code 6 (some .int) ∈ lw_tbl from pm_tb2 (List.mem_of_getElem? (i := 221) rfl)
set_option maxRecDepth 20000 in
theorem pm_cw97 : pm_cwP 97 := show Jvm.Cond.code ⟨"BoundedSchemes$Reader", "special", "(II)I"⟩ prog_6_method_25_code 5 (some .int) ∈ lw_tbl from pm_tb2 (List.mem_of_getElem? (i := 229) rfl)
set_option maxRecDepth 20000 in
theorem pm_cw98 : pm_cwP 98 := show Jvm.Cond.code ⟨"BoundedSchemes$Reader", "selection", "(II)I"⟩ prog_6_method_26_code 5 (some .int) ∈ lw_tbl from pm_tb2 (List.mem_of_getElem? (i := 233) rfl)
set_option maxRecDepth 20000 in
theorem pm_cw99 : pm_cwP 99 := show Jvm.Cond.code ⟨"BoundedSchemes$Reader", "choice", "(II)I"⟩ prog_6_method_27_code 6 (some .int) ∈ lw_tbl from pm_tb2 (List.mem_of_getElem? (i := 237) rfl)
set_option maxRecDepth 20000 in
theorem pm_cw100 : pm_cwP 100 := show Jvm.Cond.code ⟨"BoundedSchemes$Checker", "<init>", "(LBoundedSchemes$TypeRoom;LBoundedSchemes$Term;)V"⟩ prog_2_method_1_code 3 (none) ∈ lw_tbl from pm_tb1 (List.mem_of_getElem? (i := 190) rfl)
set_option maxRecDepth 20000 in
theorem pm_cw101 : pm_cwP 101 := show Jvm.Cond.code ⟨"BoundedSchemes$Checker", "begin", "(LBoundedSchemes$Term;)V"⟩ prog_2_method_2_code 2 (none) ∈ lw_tbl from pm_tb3 (List.mem_of_getElem? (i := 42) rfl)
set_option maxRecDepth 20000 in
theorem pm_cw102 : pm_cwP 102 := show Jvm.Cond.code ⟨"BoundedSchemes$Checker", "find", "(III)I"⟩ prog_2_method_3_code 5 (some .int) ∈ lw_tbl from pm_tb3 (List.mem_of_getElem? (i := 46) rfl)
set_option maxRecDepth 20000 in
theorem pm_cw103 : pm_cwP 103 := show Jvm.Cond.code ⟨"BoundedSchemes$Checker", "findByRule", "(III)I"⟩ prog_2_method_4_code 4 (some .int) ∈ lw_tbl from pm_tb3 (List.mem_of_getElem? (i := 50) rfl)
set_option maxRecDepth 20000 in
theorem pm_cw104 : pm_cwP 104 := show Jvm.Cond.code ⟨"BoundedSchemes$Checker", "ofVariable", "(II)I"⟩ prog_2_method_5_code 5 (some .int) ∈ lw_tbl from pm_tb3 (List.mem_of_getElem? (i := 54) rfl)
set_option maxRecDepth 20000 in
theorem pm_cw105 : pm_cwP 105 := show Jvm.Cond.code ⟨"BoundedSchemes$Checker", "ofFunction", "(III)I"⟩ prog_2_method_6_code 5 (some .int) ∈ lw_tbl from pm_tb3 (List.mem_of_getElem? (i := 76) rfl)
set_option maxRecDepth 20000 in
theorem pm_cw106 : pm_cwP 106 := show Jvm.Cond.code ⟨"BoundedSchemes$Checker", "ofApplication", "(III)I"⟩ prog_2_method_7_code 7 (some .int) ∈ lw_tbl from pm_tb3 (List.mem_of_getElem? (i := 82) rfl)
set_option maxRecDepth 20000 in
theorem pm_cw107 : pm_cwP 107 := show Jvm.Cond.code ⟨"BoundedSchemes$Checker", "ofGeneral", "(III)I"⟩ prog_2_method_8_code 6 (some .int) ∈ lw_tbl from pm_tb3 (List.mem_of_getElem? (i := 127) rfl)
set_option maxRecDepth 20000 in
theorem pm_cw108 : pm_cwP 108 := show Jvm.Cond.code ⟨"BoundedSchemes$Checker", "ofSpecial", "(III)I"⟩ prog_2_method_9_code 7 (some .int) ∈ lw_tbl from pm_tb3 (List.mem_of_getElem? (i := 132) rfl)
set_option maxRecDepth 20000 in
theorem pm_cw109 : pm_cwP 109 := show Jvm.Cond.code ⟨"BoundedSchemes$Checker", "ofRecord", "(III)I"⟩ prog_2_method_10_code 7 (some .int) ∈ lw_tbl from pm_tb3 (List.mem_of_getElem? (i := 141) rfl)
set_option maxRecDepth 20000 in
theorem pm_cw110 : pm_cwP 110 := show Jvm.Cond.code ⟨"BoundedSchemes$Checker", "ofPart", "(IIII)I"⟩ prog_2_method_11_code 5 (some .int) ∈ lw_tbl from pm_tb3 (List.mem_of_getElem? (i := 145) rfl)
set_option maxRecDepth 20000 in
theorem pm_cw111 : pm_cwP 111 := show Jvm.Cond.code ⟨"BoundedSchemes$Checker", "ofSelection", "(III)I"⟩ prog_2_method_12_code 8 (some .int) ∈ lw_tbl from pm_tb3 (List.mem_of_getElem? (i := 157) rfl)
set_option maxRecDepth 20000 in
theorem pm_cw112 : pm_cwP 112 := show Jvm.Cond.code ⟨"BoundedSchemes$Checker", "ofChoice", "(III)I"⟩ prog_2_method_13_code 6 (some .int) ∈ lw_tbl from pm_tb3 (List.mem_of_getElem? (i := 164) rfl)
set_option maxRecDepth 20000 in
theorem pm_cw113 : pm_cwP 113 := show Jvm.Cond.code ⟨"BoundedSchemes$Machine", "<init>", "(LBoundedSchemes$Term;)V"⟩ prog_4_method_1_code 2 (none) ∈ lw_tbl from pm_tb1 (List.mem_of_getElem? (i := 207) rfl)
set_option maxRecDepth 20000 in
theorem pm_cw114 : pm_cwP 114 := show Jvm.Cond.code ⟨"BoundedSchemes$Machine", "run", "(LBoundedSchemes$Term;)V"⟩ prog_4_method_2_code 3 (none) ∈ lw_tbl from pm_tb4 (List.mem_of_getElem? (i := 57) rfl)
set_option maxRecDepth 20000 in
theorem pm_cw115 : pm_cwP 115 := show Jvm.Cond.code ⟨"BoundedSchemes$Machine", "goTo", "(II)V"⟩ prog_4_method_3_code 3 (none) ∈ lw_tbl from pm_tb4 (List.mem_of_getElem? (i := 61) rfl)
set_option maxRecDepth 20000 in
theorem pm_cw116 : pm_cwP 116 := show Jvm.Cond.code ⟨"BoundedSchemes$Machine", "countStep", "()Z"⟩ prog_4_method_4_code 1 (some .boolean) ∈ lw_tbl from pm_tb4 (List.mem_of_getElem? (i := 104) rfl)
set_option maxRecDepth 20000 in
theorem pm_cw117 : pm_cwP 117 := show Jvm.Cond.code ⟨"BoundedSchemes$Machine", "enter", "()V"⟩ prog_4_method_5_code 1 (none) ∈ lw_tbl from pm_tb4 (List.mem_of_getElem? (i := 66) rfl)
set_option maxRecDepth 20000 in
theorem pm_cw118 : pm_cwP 118 := show Jvm.Cond.code ⟨"BoundedSchemes$Machine", "enterRecord", "()V"⟩ prog_4_method_6_code 3 (none) ∈ lw_tbl from pm_tb4 (List.mem_of_getElem? (i := 84) rfl)
set_option maxRecDepth 20000 in
theorem pm_cw119 : pm_cwP 119 := show Jvm.Cond.code ⟨"BoundedSchemes$Machine", "valueOf", "(I)I"⟩ prog_4_method_7_code 4 (some .int) ∈ lw_tbl from pm_tb4 (List.mem_of_getElem? (i := 70) rfl)
set_option maxRecDepth 20000 in
theorem pm_cw120 : pm_cwP 120 := show Jvm.Cond.code ⟨"BoundedSchemes$Machine", "push", "(II)V"⟩ prog_4_method_8_code 3 (none) ∈ lw_tbl from pm_tb4 (List.mem_of_getElem? (i := 93) rfl)
set_option maxRecDepth 20000 in
theorem pm_cw121 : pm_cwP 121 := show Jvm.Cond.code ⟨"BoundedSchemes$Machine", "grow", "()Z"⟩ prog_4_method_9_code 2 (some .boolean) ∈ lw_tbl from pm_tb4 (List.mem_of_getElem? (i := 97) rfl)
set_option maxRecDepth 20000 in
theorem pm_cw122 : pm_cwP 122 := show Jvm.Cond.code ⟨"BoundedSchemes$Machine", "goOn", "(I)V"⟩ prog_4_method_10_code 3 (none) ∈ lw_tbl from pm_tb4 (List.mem_of_getElem? (i := 108) rfl)
set_option maxRecDepth 20000 in
theorem pm_cw123 : pm_cwP 123 := show Jvm.Cond.code ⟨"BoundedSchemes$Machine", "isOfKind", "(II)Z"⟩ prog_4_method_11_code 3 (some .boolean) ∈ lw_tbl from pm_tb4 (List.mem_of_getElem? (i := 116) rfl)
set_option maxRecDepth 20000 in
theorem pm_cw124 : pm_cwP 124 := show Jvm.Cond.code ⟨"BoundedSchemes$Machine", "goOnApplication", "(I)V"⟩ prog_4_method_12_code 4 (none) ∈ lw_tbl from pm_tb4 (List.mem_of_getElem? (i := 112) rfl)
set_option maxRecDepth 20000 in
theorem pm_cw125 : pm_cwP 125 := show Jvm.Cond.code ⟨"BoundedSchemes$Machine", "newScope", "(III)I"⟩ prog_4_method_13_code 5 (some .int) ∈ lw_tbl from pm_tb4 (List.mem_of_getElem? (i := 120) rfl)
set_option maxRecDepth 20000 in
theorem pm_cw126 : pm_cwP 126 := show Jvm.Cond.code ⟨"BoundedSchemes$Machine", "goOnRecord", "(I)V"⟩ prog_4_method_14_code 5 (none) ∈ lw_tbl from pm_tb4 (List.mem_of_getElem? (i := 128) rfl)
set_option maxRecDepth 20000 in
theorem pm_cw127 : pm_cwP 127 := show Jvm.Cond.code ⟨"BoundedSchemes$Machine", "writeOn", "(LBoundedSchemes$Page;II)V"⟩ prog_4_method_15_code 5 (none) ∈ lw_tbl from pm_tb4 (List.mem_of_getElem? (i := 149) rfl)
set_option maxRecDepth 20000 in
theorem pm_cw128 : pm_cwP 128 := show Jvm.Cond.code ⟨"BoundedSchemes$Machine", "writeRecordOn", "(LBoundedSchemes$Page;II)V"⟩ prog_4_method_16_code 6 (none) ∈ lw_tbl from pm_tb4 (List.mem_of_getElem? (i := 155) rfl)
set_option maxRecDepth 20000 in
theorem pm_cw129 : pm_cwP 129 := show Jvm.Cond.code ⟨"BoundedSchemes$Values", "<init>", "()V"⟩ prog_9_method_1_code 1 (none) ∈ lw_tbl from pm_tb1 (List.mem_of_getElem? (i := 213) rfl)
set_option maxRecDepth 20000 in
theorem pm_cw130 : pm_cwP 130 := show Jvm.Cond.code ⟨"BoundedSchemes$Values", "make", "(II)I"⟩ prog_9_method_2_code 4 (some .int) ∈ lw_tbl from pm_tb4 (List.mem_of_getElem? (i := 74) rfl)
set_option maxRecDepth 20000 in
theorem pm_cw131 : pm_cwP 131 := show Jvm.Cond.code ⟨"BoundedSchemes$Values", "grow", "()Z"⟩ prog_9_method_3_code 2 (some .boolean) ∈ lw_tbl from pm_tb4 (List.mem_of_getElem? (i := 78) rfl)
set_option maxRecDepth 20000 in
theorem pm_cw132 : pm_cwP 132 := show Jvm.Cond.code ⟨"BoundedSchemes$Values", "part", "(II)I"⟩ prog_9_method_4_code 3 (some .int) ∈ lw_tbl from pm_tb4 (List.mem_of_getElem? (i := 124) rfl)
set_option maxRecDepth 20000 in
theorem pm_cw133 : pm_cwP 133 := show Jvm.Cond.code ⟨"BoundedSchemes$Values", "setPart", "(III)V"⟩ prog_9_method_5_code 4 (none) ∈ lw_tbl from pm_tb4 (List.mem_of_getElem? (i := 132) rfl)
set_option maxRecDepth 20000 in
theorem pm_cw134 : pm_cwP 134 := show Jvm.Cond.code ⟨"BoundedSchemesModel", "<init>", "()V"⟩ prog_11_method_1_code 1 (none) ∈ lw_tbl from pm_tb4 (List.mem_of_getElem? (i := 162) rfl)
set_option maxRecDepth 20000 in
theorem pm_cw135 : pm_cwP 135 := show Jvm.Cond.code ⟨"BoundedSchemesModel", "type", "(C)Z"⟩ prog_11_method_2_code 2 (some .boolean) ∈ lw_tbl from pm_tb5 (List.mem_of_getElem? (i := 127) rfl)
set_option maxRecDepth 20000 in
theorem pm_cw136 : pm_cwP 136 := show Jvm.Cond.code ⟨"BoundedSchemesModel", "expect", "(IIII)V"⟩ prog_11_method_3_code 5 (none) ∈ lw_tbl from pm_tb5 (List.mem_of_getElem? (i := 143) rfl)
set_option maxRecDepth 20000 in
theorem pm_cw137 : pm_cwP 137 := show Jvm.Cond.code ⟨"BoundedSchemesModel", "add", "(IIII)I"⟩ prog_11_method_4_code 5 (some .int) ∈ lw_tbl from pm_tb5 (List.mem_of_getElem? (i := 155) rfl)
set_option maxRecDepth 20000 in
theorem pm_cw138 : pm_cwP 138 := show Jvm.Cond.code ⟨"BoundedSchemesModel", "open", "(III)I"⟩ prog_11_method_5_code 4 (some .int) ∈ lw_tbl from pm_tb5 (List.mem_of_getElem? (i := 159) rfl)
set_option maxRecDepth 20000 in
theorem pm_cw139 : pm_cwP 139 := show Jvm.Cond.code ⟨"BoundedSchemesModel", "beginType", "(IIII)Z"⟩ prog_11_method_6_code 7 (some .boolean) ∈ lw_tbl from pm_tb5 (List.mem_of_getElem? (i := 151) rfl)
set_option maxRecDepth 20000 in
theorem pm_cw140 : pm_cwP 140 := show Jvm.Cond.code ⟨"BoundedSchemesModel", "beginTerm", "(IIII)Z"⟩ prog_11_method_7_code 7 (some .boolean) ∈ lw_tbl from pm_tb5 (List.mem_of_getElem? (i := 163) rfl)
set_option maxRecDepth 20000 in
theorem pm_cw141 : pm_cwP 141 := show Jvm.Cond.code ⟨"BoundedSchemesModel", "label", "(IIII)Z"⟩ prog_11_method_8_code 7 (some .boolean) ∈ lw_tbl from pm_tb5 (List.mem_of_getElem? (i := 167) rfl)
set_option maxRecDepth 20000 in
theorem pm_cw142 : pm_cwP 142 := show Jvm.Cond.code ⟨"BoundedSchemesModel", "take", "(II)Z"⟩ prog_11_method_9_code 8 (some .boolean) ∈ lw_tbl from pm_tb5 (List.mem_of_getElem? (i := 147) rfl)
set_option maxRecDepth 20000 in
theorem pm_cw143 : pm_cwP 143 := show Jvm.Cond.code ⟨"BoundedSchemesModel", "read", "(I)I"⟩ prog_11_method_10_code 3 (some .int) ∈ lw_tbl from pm_tb5 (List.mem_of_getElem? (i := 139) rfl)
set_option maxRecDepth 20000 in
theorem pm_cw144 : pm_cwP 144 := show Jvm.Cond.code ⟨"BoundedSchemesModel", "partsOf", "(I)I"⟩ prog_11_method_11_code 3 (some .int) ∈ lw_tbl from pm_tb5 (List.mem_of_getElem? (i := 183) rfl)
set_option maxRecDepth 20000 in
theorem pm_cw145 : pm_cwP 145 := show Jvm.Cond.code ⟨"BoundedSchemesModel", "behind", "(I)I"⟩ prog_11_method_12_code 4 (some .int) ∈ lw_tbl from pm_tb5 (List.mem_of_getElem? (i := 179) rfl)
set_option maxRecDepth 20000 in
theorem pm_cw146 : pm_cwP 146 := show Jvm.Cond.code ⟨"BoundedSchemesModel", "binder", "(III)I"⟩ prog_11_method_13_code 5 (some .int) ∈ lw_tbl from pm_tb5 (List.mem_of_getElem? (i := 175) rfl)
set_option maxRecDepth 20000 in
theorem pm_cw147 : pm_cwP 147 := show Jvm.Cond.code ⟨"BoundedSchemesModel", "depthOf", "(I)I"⟩ prog_11_method_14_code 4 (some .int) ∈ lw_tbl from pm_tb5 (List.mem_of_getElem? (i := 191) rfl)
set_option maxRecDepth 20000 in
theorem pm_cw148 : pm_cwP 148 := show Jvm.Cond.code ⟨"BoundedSchemesModel", "sound", "()Z"⟩ prog_11_method_15_code 2 (some .boolean) ∈ lw_tbl from pm_tb5 (List.mem_of_getElem? (i := 171) rfl)
set_option maxRecDepth 20000 in
theorem pm_cw149 : pm_cwP 149 := show Jvm.Cond.code ⟨"BoundedSchemesModel", "cell", "(II)I"⟩ prog_11_method_16_code 3 (some .int) ∈ lw_tbl from pm_tb5 (List.mem_of_getElem? (i := 227) rfl)
set_option maxRecDepth 20000 in
theorem pm_cw150 : pm_cwP 150 := show Jvm.Cond.code ⟨"BoundedSchemesModel", "fresh", "()I"⟩ prog_11_method_17_code 1 (some .int) ∈ lw_tbl from pm_tb5 (List.mem_of_getElem? (i := 239) rfl)
set_option maxRecDepth 20000 in
theorem pm_cw151 : pm_cwP 151 := show Jvm.Cond.code ⟨"BoundedSchemesModel", "labels", "(I)I"⟩ prog_11_method_18_code 1 (some .int) ∈ lw_tbl from pm_tb6 (List.mem_of_getElem? (i := 10) rfl)
set_option maxRecDepth 20000 in
theorem pm_cw152 : pm_cwP 152 := show Jvm.Cond.code ⟨"BoundedSchemesModel", "end", "(II)I"⟩ prog_11_method_19_code 6 (some .int) ∈ lw_tbl from pm_tb6 (List.mem_of_getElem? (i := 7) rfl)
set_option maxRecDepth 20000 in
theorem pm_cw153 : pm_cwP 153 := show Jvm.Cond.code ⟨"BoundedSchemesModel", "copy", "(IIII)V"⟩ prog_11_method_20_code 7 (none) ∈ lw_tbl from pm_tb6 (List.mem_of_getElem? (i := 3) rfl)
set_option maxRecDepth 20000 in
theorem pm_cw154 : pm_cwP 154 := show Jvm.Cond.code ⟨"BoundedSchemesModel", "equal", "(IIII)Z"⟩ prog_11_method_21_code 8 (some .boolean) ∈ lw_tbl from pm_tb6 (List.mem_of_getElem? (i := 18) rfl)
set_option maxRecDepth 20000 in
theorem pm_cw155 : pm_cwP 155 := show Jvm.Cond.code ⟨"BoundedSchemesModel", "fill", "(II)V"⟩ prog_11_method_22_code 6 (none) ∈ lw_tbl from pm_tb5 (List.mem_of_getElem? (i := 187) rfl)
set_option maxRecDepth 20000 in
theorem pm_cw156 : pm_cwP 156 := show Jvm.Cond.code ⟨"BoundedSchemesModel", "widened", "(IIII)I"⟩ prog_11_method_23_code 8 (some .int) ∈ lw_tbl from pm_tb5 (List.mem_of_getElem? (i := 235) rfl)
set_option maxRecDepth 20000 in
theorem pm_cw157 : pm_cwP 157 := show Jvm.Cond.code ⟨"BoundedSchemesModel", "context", "(III)I"⟩ prog_11_method_24_code 4 (some .int) ∈ lw_tbl from pm_tb6 (List.mem_of_getElem? (i := 22) rfl)
set_option maxRecDepth 20000 in
theorem pm_cw158 : pm_cwP 158 := show Jvm.Cond.code ⟨"BoundedSchemesModel", "boundOf", "(III)I"⟩ prog_11_method_25_code 5 (some .int) ∈ lw_tbl from pm_tb5 (List.mem_of_getElem? (i := 231) rfl)
set_option maxRecDepth 20000 in
theorem pm_cw159 : pm_cwP 159 := show Jvm.Cond.code ⟨"BoundedSchemesModel", "field", "(III)I"⟩ prog_11_method_26_code 6 (some .int) ∈ lw_tbl from pm_tb6 (List.mem_of_getElem? (i := 14) rfl)
set_option maxRecDepth 20000 in
theorem pm_cw160 : pm_cwP 160 := show Jvm.Cond.code ⟨"BoundedSchemesModel", "pose", "(IIIIII)V"⟩ prog_11_method_27_code 8 (none) ∈ lw_tbl from pm_tb5 (List.mem_of_getElem? (i := 219) rfl)
set_option maxRecDepth 20000 in
theorem pm_cw161 : pm_cwP 161 := show Jvm.Cond.code ⟨"BoundedSchemesModel", "under", "(IIIIII)Z"⟩ prog_11_method_28_code 11 (some .boolean) ∈ lw_tbl from pm_tb5 (List.mem_of_getElem? (i := 215) rfl)
set_option maxRecDepth 20000 in
theorem pm_cw162 : pm_cwP 162 := show Jvm.Cond.code ⟨"BoundedSchemesModel", "settle", "(IIIIII)Z"⟩ prog_11_method_29_code 12 (some .boolean) ∈ lw_tbl from pm_tb5 (List.mem_of_getElem? (i := 223) rfl)
set_option maxRecDepth 20000 in
theorem pm_cw163 : pm_cwP 163 := show Jvm.Cond.code ⟨"BoundedSchemesModel", "aim", "(IIIIIII)I"⟩ prog_11_method_30_code 9 (some .int) ∈ lw_tbl from pm_tb6 (List.mem_of_getElem? (i := 42) rfl)
set_option maxRecDepth 20000 in
theorem pm_cw164 : pm_cwP 164 := show Jvm.Cond.code ⟨"BoundedSchemesModel", "reach", "(III)V"⟩ prog_11_method_31_code 4 (none) ∈ lw_tbl from pm_tb6 (List.mem_of_getElem? (i := 50) rfl)
set_option maxRecDepth 20000 in
theorem pm_cw165 : pm_cwP 165 := show Jvm.Cond.code ⟨"BoundedSchemesModel", "top", "()I"⟩ prog_11_method_32_code 2 (some .int) ∈ lw_tbl from pm_tb6 (List.mem_of_getElem? (i := 58) rfl)
set_option maxRecDepth 20000 in
theorem pm_cw166 : pm_cwP 166 := show Jvm.Cond.code ⟨"BoundedSchemesModel", "part", "(I)V"⟩ prog_11_method_33_code 14 (none) ∈ lw_tbl from pm_tb6 (List.mem_of_getElem? (i := 46) rfl)
set_option maxRecDepth 20000 in
theorem pm_cw167 : pm_cwP 167 := show Jvm.Cond.code ⟨"BoundedSchemesModel", "fields", "(II)V"⟩ prog_11_method_34_code 11 (none) ∈ lw_tbl from pm_tb6 (List.mem_of_getElem? (i := 54) rfl)
set_option maxRecDepth 20000 in
theorem pm_cw168 : pm_cwP 168 := show Jvm.Cond.code ⟨"BoundedSchemesModel", "whole", "(I)V"⟩ prog_11_method_35_code 10 (none) ∈ lw_tbl from pm_tb6 (List.mem_of_getElem? (i := 62) rfl)
set_option maxRecDepth 20000 in
theorem pm_cw169 : pm_cwP 169 := show Jvm.Cond.code ⟨"BoundedSchemesModel", "combine", "(IIIII)I"⟩ prog_11_method_36_code 8 (some .int) ∈ lw_tbl from pm_tb6 (List.mem_of_getElem? (i := 38) rfl)
set_option maxRecDepth 20000 in
theorem pm_cw170 : pm_cwP 170 := show Jvm.Cond.code ⟨"BoundedSchemesModel", "isSlot", "(I)Z"⟩ prog_11_method_37_code 2 (some .boolean) ∈ lw_tbl from pm_tb5 (List.mem_of_getElem? (i := 135) rfl)
set_option maxRecDepth 20000 in
theorem pm_cw171 : pm_cwP 171 := show Jvm.Cond.code ⟨"BoundedSchemesModel", "holds", "(I)Z"⟩ prog_11_method_38_code 2 (some .boolean) ∈ lw_tbl from pm_tb5 (List.mem_of_getElem? (i := 207) rfl)
set_option maxRecDepth 20000 in
theorem pm_cw172 : pm_cwP 172 := show Jvm.Cond.code ⟨"BoundedSchemesModel", "begin", "()V"⟩ prog_11_method_39_code 1 (none) ∈ lw_tbl from pm_tb5 (List.mem_of_getElem? (i := 211) rfl)
set_option maxRecDepth 20000 in
theorem pm_cw173 : pm_cwP 173 := show Jvm.Cond.code ⟨"BoundedSchemesModel", "readType", "(I)I"⟩ prog_11_method_40_code 3 (some .int) ∈ lw_tbl from pm_tb5 (List.mem_of_getElem? (i := 131) rfl)
set_option maxRecDepth 20000 in
theorem pm_cw174 : pm_cwP 174 := show Jvm.Cond.code ⟨"BoundedSchemesModel", "keepTerm", "()V"⟩ prog_11_method_41_code 2 (none) ∈ lw_tbl from pm_tb5 (List.mem_of_getElem? (i := 199) rfl)
set_option maxRecDepth 20000 in
theorem pm_cw175 : pm_cwP 175 := show Jvm.Cond.code ⟨"BoundedSchemesModel", "readTerm", "()I"⟩ prog_11_method_42_code 2 (some .int) ∈ lw_tbl from pm_tb5 (List.mem_of_getElem? (i := 195) rfl)
set_option maxRecDepth 20000 in
theorem pm_cw176 : pm_cwP 176 := show Jvm.Cond.code ⟨"BoundedSchemesModel", "below", "(II)I"⟩ prog_11_method_43_code 3 (some .int) ∈ lw_tbl from pm_tb5 (List.mem_of_getElem? (i := 203) rfl)
set_option maxRecDepth 20000 in
theorem pm_cw177 : pm_cwP 177 := show Jvm.Cond.code ⟨"BoundedSchemesModel", "same", "(II)I"⟩ prog_11_method_44_code 3 (some .int) ∈ lw_tbl from pm_tb6 (List.mem_of_getElem? (i := 26) rfl)
set_option maxRecDepth 20000 in
theorem pm_cw178 : pm_cwP 178 := show Jvm.Cond.code ⟨"BoundedSchemesModel", "combined", "(IIII)I"⟩ prog_11_method_45_code 7 (some .int) ∈ lw_tbl from pm_tb6 (List.mem_of_getElem? (i := 34) rfl)
set_option maxRecDepth 20000 in
theorem pm_cw179 : pm_cwP 179 := show Jvm.Cond.code ⟨"BoundedSchemesModel", "join", "(III)I"⟩ prog_11_method_46_code 4 (some .int) ∈ lw_tbl from pm_tb6 (List.mem_of_getElem? (i := 30) rfl)
set_option maxRecDepth 20000 in
theorem pm_cw180 : pm_cwP 180 := show Jvm.Cond.code ⟨"BoundedSchemesModel", "meet", "(III)I"⟩ prog_11_method_47_code 4 (some .int) ∈ lw_tbl from pm_tb6 (List.mem_of_getElem? (i := 66) rfl)
set_option maxRecDepth 20000 in
theorem pm_cw181 : pm_cwP 181 := show Jvm.Cond.code ⟨"BoundedSchemesModel", "size", "(I)I"⟩ prog_11_method_48_code 2 (some .int) ∈ lw_tbl from pm_tb6 (List.mem_of_getElem? (i := 70) rfl)
set_option maxRecDepth 20000 in
theorem pm_cw182 : pm_cwP 182 := show Jvm.Cond.code ⟨"BoundedSchemesModel", "put", "(I)V"⟩ prog_11_method_49_code 2 (none) ∈ lw_tbl from pm_tb6 (List.mem_of_getElem? (i := 82) rfl)
set_option maxRecDepth 20000 in
theorem pm_cw183 : pm_cwP 183 := show Jvm.Cond.code ⟨"BoundedSchemesModel", "before", "(II)V"⟩ prog_11_method_50_code 8 (none) ∈ lw_tbl from pm_tb6 (List.mem_of_getElem? (i := 78) rfl)
set_option maxRecDepth 20000 in
theorem pm_cw184 : pm_cwP 184 := show Jvm.Cond.code ⟨"BoundedSchemesModel", "bindersAround", "(III)I"⟩ prog_11_method_51_code 6 (some .int) ∈ lw_tbl from pm_tb6 (List.mem_of_getElem? (i := 86) rfl)
set_option maxRecDepth 20000 in
theorem pm_cw185 : pm_cwP 185 := show Jvm.Cond.code ⟨"BoundedSchemesModel", "write", "(I)I"⟩ prog_11_method_52_code 7 (some .int) ∈ lw_tbl from pm_tb6 (List.mem_of_getElem? (i := 74) rfl)
set_option maxRecDepth 20000 in
theorem pm_cw186 : pm_cwP 186 := show Jvm.Cond.code ⟨"BoundedSchemesModel", "charAt", "(I)I"⟩ prog_11_method_53_code 2 (some .int) ∈ lw_tbl from pm_tb6 (List.mem_of_getElem? (i := 90) rfl)
set_option maxRecDepth 20000 in
theorem pm_cw187 : pm_cwP 187 := show Jvm.Cond.code ⟨"BoundedSchemesModel", "prepare", "()V"⟩ prog_11_method_54_code 4 (none) ∈ lw_tbl from pm_tb6 (List.mem_of_getElem? (i := 102) rfl)
set_option maxRecDepth 20000 in
theorem pm_cw188 : pm_cwP 188 := show Jvm.Cond.code ⟨"BoundedSchemesModel", "expose", "(III)V"⟩ prog_11_method_55_code 4 (none) ∈ lw_tbl from pm_tb6 (List.mem_of_getElem? (i := 126) rfl)
set_option maxRecDepth 20000 in
theorem pm_cw189 : pm_cwP 189 := show Jvm.Cond.code ⟨"BoundedSchemesModel", "gets", "(III)Z"⟩ prog_11_method_56_code 5 (some .boolean) ∈ lw_tbl from pm_tb6 (List.mem_of_getElem? (i := 110) rfl)
set_option maxRecDepth 20000 in
theorem pm_cw190 : pm_cwP 190 := show Jvm.Cond.code ⟨"BoundedSchemesModel", "binding", "(IIII)Z"⟩ prog_11_method_57_code 5 (some .boolean) ∈ lw_tbl from pm_tb6 (List.mem_of_getElem? (i := 118) rfl)
set_option maxRecDepth 20000 in
theorem pm_cw191 : pm_cwP 191 := show Jvm.Cond.code ⟨"BoundedSchemesModel", "recordType", "(I)Z"⟩ prog_11_method_58_code 6 (some .boolean) ∈ lw_tbl from pm_tb6 (List.mem_of_getElem? (i := 114) rfl)
set_option maxRecDepth 20000 in
theorem pm_cw192 : pm_cwP 192 := show Jvm.Cond.code ⟨"BoundedSchemesModel", "instance", "(IIIII)Z"⟩ prog_11_method_59_code 15 (some .boolean) ∈ lw_tbl from pm_tb6 (List.mem_of_getElem? (i := 130) rfl)
set_option maxRecDepth 20000 in
theorem pm_cw193 : pm_cwP 193 := show Jvm.Cond.code ⟨"BoundedSchemesModel", "application", "(IIII)Z"⟩ prog_11_method_60_code 9 (some .boolean) ∈ lw_tbl from pm_tb6 (List.mem_of_getElem? (i := 122) rfl)
set_option maxRecDepth 20000 in
theorem pm_cw194 : pm_cwP 194 := show Jvm.Cond.code ⟨"BoundedSchemesModel", "rule", "(I)Z"⟩ prog_11_method_61_code 7 (some .boolean) ∈ lw_tbl from pm_tb6 (List.mem_of_getElem? (i := 106) rfl)
set_option maxRecDepth 20000 in
theorem pm_cw195 : pm_cwP 195 := show Jvm.Cond.code ⟨"BoundedSchemesModel", "types", "()I"⟩ prog_11_method_62_code 8 (some .int) ∈ lw_tbl from pm_tb6 (List.mem_of_getElem? (i := 98) rfl)
set_option maxRecDepth 20000 in
theorem pm_cw196 : pm_cwP 196 := show Jvm.Cond.code ⟨"BoundedSchemesModel", "typeOf", "(I)I"⟩ prog_11_method_63_code 3 (some .int) ∈ lw_tbl from pm_tb6 (List.mem_of_getElem? (i := 94) rfl)
set_option maxRecDepth 20000 in
theorem pm_cw197 : pm_cwP 197 := show Jvm.Cond.code ⟨"BoundedSchemesModel", "fits", "(I)Z"⟩ prog_11_method_64_code 2 (some .boolean) ∈ lw_tbl from pm_tb6 (List.mem_of_getElem? (i := 134) rfl)
set_option maxRecDepth 20000 in
theorem pm_cw198 : pm_cwP 198 := show Jvm.Cond.code ⟨"BoundedSchemesModel", "start", "()Z"⟩ prog_11_method_65_code 1 (some .boolean) ∈ lw_tbl from pm_tb6 (List.mem_of_getElem? (i := 138) rfl)
set_option maxRecDepth 20000 in
theorem pm_cw199 : pm_cwP 199 := show Jvm.Cond.code ⟨"BoundedSchemesModel", "go", "(II)V"⟩ prog_11_method_66_code 3 (none) ∈ lw_tbl from pm_tb6 (List.mem_of_getElem? (i := 142) rfl)
set_option maxRecDepth 20000 in
theorem pm_cw200 : pm_cwP 200 := show Jvm.Cond.code ⟨"BoundedSchemesModel", "answer", "(I)V"⟩ prog_11_method_67_code 2 (none) ∈ lw_tbl from pm_tb6 (List.mem_of_getElem? (i := 158) rfl)
set_option maxRecDepth 20000 in
theorem pm_cw201 : pm_cwP 201 := show Jvm.Cond.code ⟨"BoundedSchemesModel", "keep", "(III)I"⟩ prog_11_method_68_code 4 (some .int) ∈ lw_tbl from pm_tb6 (List.mem_of_getElem? (i := 166) rfl)
set_option maxRecDepth 20000 in
theorem pm_cw202 : pm_cwP 202 := show Jvm.Cond.code ⟨"BoundedSchemesModel", "wait", "(IIII)V"⟩ prog_11_method_69_code 5 (none) ∈ lw_tbl from pm_tb6 (List.mem_of_getElem? (i := 170) rfl)
set_option maxRecDepth 20000 in
theorem pm_cw203 : pm_cwP 203 := show Jvm.Cond.code ⟨"BoundedSchemesModel", "enter", "(Z)I"⟩ prog_11_method_70_code 5 (some .int) ∈ lw_tbl from pm_tb6 (List.mem_of_getElem? (i := 162) rfl)
set_option maxRecDepth 20000 in
theorem pm_cw204 : pm_cwP 204 := show Jvm.Cond.code ⟨"BoundedSchemesModel", "fillField", "(I)V"⟩ prog_11_method_71_code 8 (none) ∈ lw_tbl from pm_tb6 (List.mem_of_getElem? (i := 154) rfl)
set_option maxRecDepth 20000 in
theorem pm_cw205 : pm_cwP 205 := show Jvm.Cond.code ⟨"BoundedSchemesModel", "back", "(Z)I"⟩ prog_11_method_72_code 6 (some .int) ∈ lw_tbl from pm_tb6 (List.mem_of_getElem? (i := 150) rfl)
set_option maxRecDepth 20000 in
theorem pm_cw206 : pm_cwP 206 := show Jvm.Cond.code ⟨"BoundedSchemesModel", "run", "(I)I"⟩ prog_11_method_73_code 4 (some .int) ∈ lw_tbl from pm_tb6 (List.mem_of_getElem? (i := 146) rfl)
set_option maxRecDepth 20000 in
theorem pm_cw207 : pm_cwP 207 := show Jvm.Cond.code ⟨"BoundedSchemesModel", "step", "(I)I"⟩ prog_11_method_74_code 3 (some .int) ∈ lw_tbl from pm_tb6 (List.mem_of_getElem? (i := 174) rfl)
set_option maxRecDepth 20000 in
theorem pm_cw208 : pm_cwP 208 := show Jvm.Cond.code ⟨"BoundedSchemesModel", "steps", "()I"⟩ prog_11_method_75_code 1 (some .int) ∈ lw_tbl from pm_tb6 (List.mem_of_getElem? (i := 178) rfl)
set_option maxRecDepth 20000 in
theorem pm_cw209 : pm_cwP 209 := show Jvm.Cond.code ⟨"BoundedSchemesModel", "value", "()I"⟩ prog_11_method_76_code 5 (some .int) ∈ lw_tbl from pm_tb6 (List.mem_of_getElem? (i := 182) rfl)
set_option maxRecDepth 20000 in
theorem pm_cw210 : pm_cwP 210 := show Jvm.Cond.code ⟨"BoundedSchemesModel", "show", "(II)I"⟩ prog_11_method_77_code 6 (some .int) ∈ lw_tbl from pm_tb6 (List.mem_of_getElem? (i := 186) rfl)
set_option maxRecDepth 20000 in
theorem pm_cw211 : pm_cwP 211 := show Jvm.Cond.code ⟨"java/util/Arrays", "copyOf", "([II)[I"⟩ prog_15_method_123_code 3 (some (.array .int)) ∈ lw_tbl from pm_tb2 (List.mem_of_getElem? (i := 159) rfl)
theorem pm_cwL0 : ∀ j ∈ ([0, 1, 2, 3, 4, 5, 6, 7, 8, 9, 10, 11, 12, 13, 14, 15] : List Nat), pm_cwP j := List.forall_mem_cons.mpr ⟨pm_cw0, List.forall_mem_cons.mpr ⟨pm_cw1, List.forall_mem_cons.mpr ⟨pm_cw2, List.forall_mem_cons.mpr ⟨pm_cw3, List.forall_mem_cons.mpr ⟨pm_cw4, List.forall_mem_cons.mpr ⟨pm_cw5, List.forall_mem_cons.mpr ⟨pm_cw6, List.forall_mem_cons.mpr ⟨pm_cw7, List.forall_mem_cons.mpr ⟨pm_cw8, List.forall_mem_cons.mpr ⟨pm_cw9, List.forall_mem_cons.mpr ⟨pm_cw10, List.forall_mem_cons.mpr ⟨pm_cw11, List.forall_mem_cons.mpr ⟨pm_cw12, List.forall_mem_cons.mpr ⟨pm_cw13, List.forall_mem_cons.mpr ⟨pm_cw14, List.forall_mem_cons.mpr ⟨pm_cw15, fun _ h => absurd h List.not_mem_nil⟩⟩⟩⟩⟩⟩⟩⟩⟩⟩⟩⟩⟩⟩⟩⟩
theorem pm_cwL1 : ∀ j ∈ ([16, 17, 18, 19, 20, 21, 22, 23, 24, 25, 26, 27, 28, 29, 30, 31] : List Nat), pm_cwP j := List.forall_mem_cons.mpr ⟨pm_cw16, List.forall_mem_cons.mpr ⟨pm_cw17, List.forall_mem_cons.mpr ⟨pm_cw18, List.forall_mem_cons.mpr ⟨pm_cw19, List.forall_mem_cons.mpr ⟨pm_cw20, List.forall_mem_cons.mpr ⟨pm_cw21, List.forall_mem_cons.mpr ⟨pm_cw22, List.forall_mem_cons.mpr ⟨pm_cw23, List.forall_mem_cons.mpr ⟨pm_cw24, List.forall_mem_cons.mpr ⟨pm_cw25, List.forall_mem_cons.mpr ⟨pm_cw26, List.forall_mem_cons.mpr ⟨pm_cw27, List.forall_mem_cons.mpr ⟨pm_cw28, List.forall_mem_cons.mpr ⟨pm_cw29, List.forall_mem_cons.mpr ⟨pm_cw30, List.forall_mem_cons.mpr ⟨pm_cw31, fun _ h => absurd h List.not_mem_nil⟩⟩⟩⟩⟩⟩⟩⟩⟩⟩⟩⟩⟩⟩⟩⟩
theorem pm_cwL2 : ∀ j ∈ ([32, 33, 34, 35, 36, 37, 38, 39, 40, 41, 42, 43, 44, 45, 46, 47] : List Nat), pm_cwP j := List.forall_mem_cons.mpr ⟨pm_cw32, List.forall_mem_cons.mpr ⟨pm_cw33, List.forall_mem_cons.mpr ⟨pm_cw34, List.forall_mem_cons.mpr ⟨pm_cw35, List.forall_mem_cons.mpr ⟨pm_cw36, List.forall_mem_cons.mpr ⟨pm_cw37, List.forall_mem_cons.mpr ⟨pm_cw38, List.forall_mem_cons.mpr ⟨pm_cw39, List.forall_mem_cons.mpr ⟨pm_cw40, List.forall_mem_cons.mpr ⟨pm_cw41, List.forall_mem_cons.mpr ⟨pm_cw42, List.forall_mem_cons.mpr ⟨pm_cw43, List.forall_mem_cons.mpr ⟨pm_cw44, List.forall_mem_cons.mpr ⟨pm_cw45, List.forall_mem_cons.mpr ⟨pm_cw46, List.forall_mem_cons.mpr ⟨pm_cw47, fun _ h => absurd h List.not_mem_nil⟩⟩⟩⟩⟩⟩⟩⟩⟩⟩⟩⟩⟩⟩⟩⟩
theorem pm_cwL3 : ∀ j ∈ ([48, 49, 50, 51, 52, 53, 54, 55, 56, 57, 58, 59, 60, 61, 62, 63] : List Nat), pm_cwP j := List.forall_mem_cons.mpr ⟨pm_cw48, List.forall_mem_cons.mpr ⟨pm_cw49, List.forall_mem_cons.mpr ⟨pm_cw50, List.forall_mem_cons.mpr ⟨pm_cw51, List.forall_mem_cons.mpr ⟨pm_cw52, List.forall_mem_cons.mpr ⟨pm_cw53, List.forall_mem_cons.mpr ⟨pm_cw54, List.forall_mem_cons.mpr ⟨pm_cw55, List.forall_mem_cons.mpr ⟨pm_cw56, List.forall_mem_cons.mpr ⟨pm_cw57, List.forall_mem_cons.mpr ⟨pm_cw58, List.forall_mem_cons.mpr ⟨pm_cw59, List.forall_mem_cons.mpr ⟨pm_cw60, List.forall_mem_cons.mpr ⟨pm_cw61, List.forall_mem_cons.mpr ⟨pm_cw62, List.forall_mem_cons.mpr ⟨pm_cw63, fun _ h => absurd h List.not_mem_nil⟩⟩⟩⟩⟩⟩⟩⟩⟩⟩⟩⟩⟩⟩⟩⟩
theorem pm_cwL4 : ∀ j ∈ ([64, 65, 66, 67, 68, 69, 70, 71, 72, 73, 74, 75, 76, 77, 78, 79] : List Nat), pm_cwP j := List.forall_mem_cons.mpr ⟨pm_cw64, List.forall_mem_cons.mpr ⟨pm_cw65, List.forall_mem_cons.mpr ⟨pm_cw66, List.forall_mem_cons.mpr ⟨pm_cw67, List.forall_mem_cons.mpr ⟨pm_cw68, List.forall_mem_cons.mpr ⟨pm_cw69, List.forall_mem_cons.mpr ⟨pm_cw70, List.forall_mem_cons.mpr ⟨pm_cw71, List.forall_mem_cons.mpr ⟨pm_cw72, List.forall_mem_cons.mpr ⟨pm_cw73, List.forall_mem_cons.mpr ⟨pm_cw74, List.forall_mem_cons.mpr ⟨pm_cw75, List.forall_mem_cons.mpr ⟨pm_cw76, List.forall_mem_cons.mpr ⟨pm_cw77, List.forall_mem_cons.mpr ⟨pm_cw78, List.forall_mem_cons.mpr ⟨pm_cw79, fun _ h => absurd h List.not_mem_nil⟩⟩⟩⟩⟩⟩⟩⟩⟩⟩⟩⟩⟩⟩⟩⟩
theorem pm_cwL5 : ∀ j ∈ ([80, 81, 82, 83, 84, 85, 86, 87, 88, 89, 90, 91, 92, 93, 94, 95] : List Nat), pm_cwP j := List.forall_mem_cons.mpr ⟨pm_cw80, List.forall_mem_cons.mpr ⟨pm_cw81, List.forall_mem_cons.mpr ⟨pm_cw82, List.forall_mem_cons.mpr ⟨pm_cw83, List.forall_mem_cons.mpr ⟨pm_cw84, List.forall_mem_cons.mpr ⟨pm_cw85, List.forall_mem_cons.mpr ⟨pm_cw86, List.forall_mem_cons.mpr ⟨pm_cw87, List.forall_mem_cons.mpr ⟨pm_cw88, List.forall_mem_cons.mpr ⟨pm_cw89, List.forall_mem_cons.mpr ⟨pm_cw90, List.forall_mem_cons.mpr ⟨pm_cw91, List.forall_mem_cons.mpr ⟨pm_cw92, List.forall_mem_cons.mpr ⟨pm_cw93, List.forall_mem_cons.mpr ⟨pm_cw94, List.forall_mem_cons.mpr ⟨pm_cw95, fun _ h => absurd h List.not_mem_nil⟩⟩⟩⟩⟩⟩⟩⟩⟩⟩⟩⟩⟩⟩⟩⟩
theorem pm_cwL6 : ∀ j ∈ ([96, 97, 98, 99, 100, 101, 102, 103, 104, 105, 106, 107, 108, 109, 110, 111] : List Nat), pm_cwP j := List.forall_mem_cons.mpr ⟨pm_cw96, List.forall_mem_cons.mpr ⟨pm_cw97, List.forall_mem_cons.mpr ⟨pm_cw98, List.forall_mem_cons.mpr ⟨pm_cw99, List.forall_mem_cons.mpr ⟨pm_cw100, List.forall_mem_cons.mpr ⟨pm_cw101, List.forall_mem_cons.mpr ⟨pm_cw102, List.forall_mem_cons.mpr ⟨pm_cw103, List.forall_mem_cons.mpr ⟨pm_cw104, List.forall_mem_cons.mpr ⟨pm_cw105, List.forall_mem_cons.mpr ⟨pm_cw106, List.forall_mem_cons.mpr ⟨pm_cw107, List.forall_mem_cons.mpr ⟨pm_cw108, List.forall_mem_cons.mpr ⟨pm_cw109, List.forall_mem_cons.mpr ⟨pm_cw110, List.forall_mem_cons.mpr ⟨pm_cw111, fun _ h => absurd h List.not_mem_nil⟩⟩⟩⟩⟩⟩⟩⟩⟩⟩⟩⟩⟩⟩⟩⟩
theorem pm_cwL7 : ∀ j ∈ ([112, 113, 114, 115, 116, 117, 118, 119, 120, 121, 122, 123, 124, 125, 126, 127] : List Nat), pm_cwP j := List.forall_mem_cons.mpr ⟨pm_cw112, List.forall_mem_cons.mpr ⟨pm_cw113, List.forall_mem_cons.mpr ⟨pm_cw114, List.forall_mem_cons.mpr ⟨pm_cw115, List.forall_mem_cons.mpr ⟨pm_cw116, List.forall_mem_cons.mpr ⟨pm_cw117, List.forall_mem_cons.mpr ⟨pm_cw118, List.forall_mem_cons.mpr ⟨pm_cw119, List.forall_mem_cons.mpr ⟨pm_cw120, List.forall_mem_cons.mpr ⟨pm_cw121, List.forall_mem_cons.mpr ⟨pm_cw122, List.forall_mem_cons.mpr ⟨pm_cw123, List.forall_mem_cons.mpr ⟨pm_cw124, List.forall_mem_cons.mpr ⟨pm_cw125, List.forall_mem_cons.mpr ⟨pm_cw126, List.forall_mem_cons.mpr ⟨pm_cw127, fun _ h => absurd h List.not_mem_nil⟩⟩⟩⟩⟩⟩⟩⟩⟩⟩⟩⟩⟩⟩⟩⟩
theorem pm_cwL8 : ∀ j ∈ ([128, 129, 130, 131, 132, 133, 134, 135, 136, 137, 138, 139, 140, 141, 142, 143] : List Nat), pm_cwP j := List.forall_mem_cons.mpr ⟨pm_cw128, List.forall_mem_cons.mpr ⟨pm_cw129, List.forall_mem_cons.mpr ⟨pm_cw130, List.forall_mem_cons.mpr ⟨pm_cw131, List.forall_mem_cons.mpr ⟨pm_cw132, List.forall_mem_cons.mpr ⟨pm_cw133, List.forall_mem_cons.mpr ⟨pm_cw134, List.forall_mem_cons.mpr ⟨pm_cw135, List.forall_mem_cons.mpr ⟨pm_cw136, List.forall_mem_cons.mpr ⟨pm_cw137, List.forall_mem_cons.mpr ⟨pm_cw138, List.forall_mem_cons.mpr ⟨pm_cw139, List.forall_mem_cons.mpr ⟨pm_cw140, List.forall_mem_cons.mpr ⟨pm_cw141, List.forall_mem_cons.mpr ⟨pm_cw142, List.forall_mem_cons.mpr ⟨pm_cw143, fun _ h => absurd h List.not_mem_nil⟩⟩⟩⟩⟩⟩⟩⟩⟩⟩⟩⟩⟩⟩⟩⟩
theorem pm_cwL9 : ∀ j ∈ ([144, 145, 146, 147, 148, 149, 150, 151, 152, 153, 154, 155, 156, 157, 158, 159] : List Nat), pm_cwP j := List.forall_mem_cons.mpr ⟨pm_cw144, List.forall_mem_cons.mpr ⟨pm_cw145, List.forall_mem_cons.mpr ⟨pm_cw146, List.forall_mem_cons.mpr ⟨pm_cw147, List.forall_mem_cons.mpr ⟨pm_cw148, List.forall_mem_cons.mpr ⟨pm_cw149, List.forall_mem_cons.mpr ⟨pm_cw150, List.forall_mem_cons.mpr ⟨pm_cw151, List.forall_mem_cons.mpr ⟨pm_cw152, List.forall_mem_cons.mpr ⟨pm_cw153, List.forall_mem_cons.mpr ⟨pm_cw154, List.forall_mem_cons.mpr ⟨pm_cw155, List.forall_mem_cons.mpr ⟨pm_cw156, List.forall_mem_cons.mpr ⟨pm_cw157, List.forall_mem_cons.mpr ⟨pm_cw158, List.forall_mem_cons.mpr ⟨pm_cw159, fun _ h => absurd h List.not_mem_nil⟩⟩⟩⟩⟩⟩⟩⟩⟩⟩⟩⟩⟩⟩⟩⟩
theorem pm_cwL10 : ∀ j ∈ ([160, 161, 162, 163, 164, 165, 166, 167, 168, 169, 170, 171, 172, 173, 174, 175] : List Nat), pm_cwP j := List.forall_mem_cons.mpr ⟨pm_cw160, List.forall_mem_cons.mpr ⟨pm_cw161, List.forall_mem_cons.mpr ⟨pm_cw162, List.forall_mem_cons.mpr ⟨pm_cw163, List.forall_mem_cons.mpr ⟨pm_cw164, List.forall_mem_cons.mpr ⟨pm_cw165, List.forall_mem_cons.mpr ⟨pm_cw166, List.forall_mem_cons.mpr ⟨pm_cw167, List.forall_mem_cons.mpr ⟨pm_cw168, List.forall_mem_cons.mpr ⟨pm_cw169, List.forall_mem_cons.mpr ⟨pm_cw170, List.forall_mem_cons.mpr ⟨pm_cw171, List.forall_mem_cons.mpr ⟨pm_cw172, List.forall_mem_cons.mpr ⟨pm_cw173, List.forall_mem_cons.mpr ⟨pm_cw174, List.forall_mem_cons.mpr ⟨pm_cw175, fun _ h => absurd h List.not_mem_nil⟩⟩⟩⟩⟩⟩⟩⟩⟩⟩⟩⟩⟩⟩⟩⟩
theorem pm_cwL11 : ∀ j ∈ ([176, 177, 178, 179, 180, 181, 182, 183, 184, 185, 186, 187, 188, 189, 190, 191] : List Nat), pm_cwP j := List.forall_mem_cons.mpr ⟨pm_cw176, List.forall_mem_cons.mpr ⟨pm_cw177, List.forall_mem_cons.mpr ⟨pm_cw178, List.forall_mem_cons.mpr ⟨pm_cw179, List.forall_mem_cons.mpr ⟨pm_cw180, List.forall_mem_cons.mpr ⟨pm_cw181, List.forall_mem_cons.mpr ⟨pm_cw182, List.forall_mem_cons.mpr ⟨pm_cw183, List.forall_mem_cons.mpr ⟨pm_cw184, List.forall_mem_cons.mpr ⟨pm_cw185, List.forall_mem_cons.mpr ⟨pm_cw186, List.forall_mem_cons.mpr ⟨pm_cw187, List.forall_mem_cons.mpr ⟨pm_cw188, List.forall_mem_cons.mpr ⟨pm_cw189, List.forall_mem_cons.mpr ⟨pm_cw190, List.forall_mem_cons.mpr ⟨pm_cw191, fun _ h => absurd h List.not_mem_nil⟩⟩⟩⟩⟩⟩⟩⟩⟩⟩⟩⟩⟩⟩⟩⟩
theorem pm_cwL12 : ∀ j ∈ ([192, 193, 194, 195, 196, 197, 198, 199, 200, 201, 202, 203, 204, 205, 206, 207] : List Nat), pm_cwP j := List.forall_mem_cons.mpr ⟨pm_cw192, List.forall_mem_cons.mpr ⟨pm_cw193, List.forall_mem_cons.mpr ⟨pm_cw194, List.forall_mem_cons.mpr ⟨pm_cw195, List.forall_mem_cons.mpr ⟨pm_cw196, List.forall_mem_cons.mpr ⟨pm_cw197, List.forall_mem_cons.mpr ⟨pm_cw198, List.forall_mem_cons.mpr ⟨pm_cw199, List.forall_mem_cons.mpr ⟨pm_cw200, List.forall_mem_cons.mpr ⟨pm_cw201, List.forall_mem_cons.mpr ⟨pm_cw202, List.forall_mem_cons.mpr ⟨pm_cw203, List.forall_mem_cons.mpr ⟨pm_cw204, List.forall_mem_cons.mpr ⟨pm_cw205, List.forall_mem_cons.mpr ⟨pm_cw206, List.forall_mem_cons.mpr ⟨pm_cw207, fun _ h => absurd h List.not_mem_nil⟩⟩⟩⟩⟩⟩⟩⟩⟩⟩⟩⟩⟩⟩⟩⟩
theorem pm_cwL13 : ∀ j ∈ ([208, 209, 210, 211] : List Nat), pm_cwP j := List.forall_mem_cons.mpr ⟨pm_cw208, List.forall_mem_cons.mpr ⟨pm_cw209, List.forall_mem_cons.mpr ⟨pm_cw210, List.forall_mem_cons.mpr ⟨pm_cw211, fun _ h => absurd h List.not_mem_nil⟩⟩⟩⟩
theorem pm_cw {j : Nat} (h : j < pm_cnt) : Jvm.Cond.code (pm_y j) (pm_code j) (pm_max j) (pm_rt j) ∈ lw_tbl := by
  have h : j < 212 := h
  show pm_cwP j
  by_cases h0 : j < 16
  · exact pm_cwL0 j (by simp only [List.mem_cons, List.not_mem_nil, or_false]; omega)
  by_cases h1 : j < 32
  · exact pm_cwL1 j (by simp only [List.mem_cons, List.not_mem_nil, or_false]; omega)
  by_cases h2 : j < 48
  · exact pm_cwL2 j (by simp only [List.mem_cons, List.not_mem_nil, or_false]; omega)
  by_cases h3 : j < 64
  · exact pm_cwL3 j (by simp only [List.mem_cons, List.not_mem_nil, or_false]; omega)
  by_cases h4 : j < 80
  · exact pm_cwL4 j (by simp only [List.mem_cons, List.not_mem_nil, or_false]; omega)
  by_cases h5 : j < 96
  · exact pm_cwL5 j (by simp only [List.mem_cons, List.not_mem_nil, or_false]; omega)
  by_cases h6 : j < 112
  · exact pm_cwL6 j (by simp only [List.mem_cons, List.not_mem_nil, or_false]; omega)
  by_cases h7 : j < 128
  · exact pm_cwL7 j (by simp only [List.mem_cons, List.not_mem_nil, or_false]; omega)
  by_cases h8 : j < 144
  · exact pm_cwL8 j (by simp only [List.mem_cons, List.not_mem_nil, or_false]; omega)
  by_cases h9 : j < 160
  · exact pm_cwL9 j (by simp only [List.mem_cons, List.not_mem_nil, or_false]; omega)
  by_cases h10 : j < 176
  · exact pm_cwL10 j (by simp only [List.mem_cons, List.not_mem_nil, or_false]; omega)
  by_cases h11 : j < 192
  · exact pm_cwL11 j (by simp only [List.mem_cons, List.not_mem_nil, or_false]; omega)
  by_cases h12 : j < 208
  · exact pm_cwL12 j (by simp only [List.mem_cons, List.not_mem_nil, or_false]; omega)
  by_cases h13 : j < 212
  · exact pm_cwL13 j (by simp only [List.mem_cons, List.not_mem_nil, or_false]; omega)
  omega
