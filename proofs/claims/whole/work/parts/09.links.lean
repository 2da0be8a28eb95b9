/-! ===== the tables' words for every method, by program ===== -/
def uw : List Cond := lw_tbl.filter goodWord
theorem uw_mem (i : Nat) {w : Cond} (h : lw_tbl[i]? = some w) (g : goodWord w = true) : w ∈ uw := List.mem_filter.mpr ⟨List.mem_of_getElem? h, g⟩
theorem uw_of {w : Cond} (h : w ∈ tables_1) (g : goodWord w = true) : w ∈ uw := List.mem_filter.mpr ⟨List.mem_append_right _ h, g⟩
theorem uw_m1 (i : Nat) {w : Cond} (h : tables_1_1[i]? = some w) (g : goodWord w = true) : w ∈ uw := uw_of (List.mem_append_left _ (List.mem_of_getElem? h)) g
theorem uw_m2 (i : Nat) {w : Cond} (h : tables_1_2[i]? = some w) (g : goodWord w = true) : w ∈ uw := uw_of (List.mem_append_right _ (List.mem_append_left _ (List.mem_of_getElem? h))) g
theorem uw_m3 (i : Nat) {w : Cond} (h : tables_1_3[i]? = some w) (g : goodWord w = true) : w ∈ uw := uw_of (List.mem_append_right _ (List.mem_append_right _ (List.mem_append_left _ (List.mem_of_getElem? h)))) g
theorem uw_m4 (i : Nat) {w : Cond} (h : tables_1_4[i]? = some w) (g : goodWord w = true) : w ∈ uw := uw_of (List.mem_append_right _ (List.mem_append_right _ (List.mem_append_right _ (List.mem_append_left _ (List.mem_of_getElem? h))))) g
theorem uw_m5 (i : Nat) {w : Cond} (h : tables_1_5[i]? = some w) (g : goodWord w = true) : w ∈ uw := uw_of (List.mem_append_right _ (List.mem_append_right _ (List.mem_append_right _ (List.mem_append_right _ (List.mem_append_left _ (List.mem_of_getElem? h)))))) g
theorem uw_m6 (i : Nat) {w : Cond} (h : tables_1_6[i]? = some w) (g : goodWord w = true) : w ∈ uw := uw_of (List.mem_append_right _ (List.mem_append_right _ (List.mem_append_right _ (List.mem_append_right _ (List.mem_append_right _ (List.mem_append_left _ (List.mem_of_getElem? h))))))) g
theorem uw_m7 (i : Nat) {w : Cond} (h : tables_1_7[i]? = some w) (g : goodWord w = true) : w ∈ uw := uw_of (List.mem_append_right _ (List.mem_append_right _ (List.mem_append_right _ (List.mem_append_right _ (List.mem_append_right _ (List.mem_append_right _ ((List.mem_of_getElem? h)))))))) g
theorem uw_good : ∀ w ∈ uw, (w.onTables && w.keeps) = true ∨ ∃ ty, w = Cond.arrayClass ty := fun w hw => good_of_word (List.mem_filter.mp hw).2
set_option maxRecDepth 20000 in
theorem uc_X0_addFour : ab_mk uw mX0_addFour := ⟨(uw_m2 174 rfl rfl), (uw_m1 2 rfl rfl), by decide +kernel, by decide +kernel, by decide +kernel, by decide⟩
set_option maxRecDepth 20000 in
theorem uc_X0_keepOfLast : ab_mk uw mX0_keepOfLast := ⟨(uw_m2 182 rfl rfl), (uw_m1 2 rfl rfl), by decide +kernel, by decide +kernel, by decide +kernel, by decide⟩
set_option maxRecDepth 20000 in
theorem uc_X0_endDocument : ab_mk uw mX0_endDocument := ⟨(uw_m2 190 rfl rfl), (uw_m1 2 rfl rfl), by decide +kernel, by decide +kernel, by decide +kernel, by decide⟩
set_option maxRecDepth 20000 in
theorem uc_X0_dropAll : ab_mk uw mX0_dropAll := ⟨(uw_m2 201 rfl rfl), (uw_m1 2 rfl rfl), by decide +kernel, by decide +kernel, by decide +kernel, by decide⟩
set_option maxRecDepth 20000 in
theorem uc_X1_become : ab_mk uw mX1_become := ⟨(uw_m3 49 rfl rfl), (uw_m1 5 rfl rfl), by decide +kernel, by decide +kernel, by decide +kernel, by decide⟩
set_option maxRecDepth 20000 in
theorem uc_X1_stand : ab_mk uw mX1_stand := ⟨(uw_m3 53 rfl rfl), (uw_m1 5 rfl rfl), by decide +kernel, by decide +kernel, by decide +kernel, by decide⟩
set_option maxRecDepth 20000 in
theorem uc_X1_rows : ab_mk uw mX1_rows := ⟨(uw_m3 145 rfl rfl), (uw_m1 5 rfl rfl), by decide +kernel, by decide +kernel, by decide +kernel, by decide⟩
set_option maxRecDepth 20000 in
theorem uc_X1_beside : ab_mk uw mX1_beside := ⟨(uw_m3 157 rfl rfl), (uw_m1 5 rfl rfl), by decide +kernel, by decide +kernel, by decide +kernel, by decide⟩
set_option maxRecDepth 20000 in
theorem uc_X1_extend : ab_mk uw mX1_extend := ⟨(uw_m3 153 rfl rfl), (uw_m1 5 rfl rfl), by decide +kernel, by decide +kernel, by decide +kernel, by decide⟩
set_option maxRecDepth 20000 in
theorem uc_X1_undo : ab_mk uw mX1_undo := ⟨(uw_m3 170 rfl rfl), (uw_m1 5 rfl rfl), by decide +kernel, by decide +kernel, by decide +kernel, by decide⟩
set_option maxRecDepth 20000 in
theorem uc_X1_placeInOrder : ab_mk uw mX1_placeInOrder := ⟨(uw_m3 190 rfl rfl), (uw_m1 5 rfl rfl), by decide +kernel, by decide +kernel, by decide +kernel, by decide⟩
set_option maxRecDepth 20000 in
theorem uc_X1_neighbour : ab_mk uw mX1_neighbour := ⟨(uw_m3 198 rfl rfl), (uw_m1 5 rfl rfl), by decide +kernel, by decide +kernel, by decide +kernel, by decide⟩
set_option maxRecDepth 20000 in
theorem uc_X1_placesIn : ab_mk uw mX1_placesIn := ⟨(uw_m3 226 rfl rfl), (uw_m1 5 rfl rfl), by decide +kernel, by decide +kernel, by decide +kernel, by decide⟩
set_option maxRecDepth 20000 in
theorem uc_X1_countByDocument : ab_mk uw mX1_countByDocument := ⟨(uw_m3 213 rfl rfl), (uw_m1 5 rfl rfl), by decide +kernel, by decide +kernel, by decide +kernel, by decide⟩
set_option maxRecDepth 20000 in
theorem uc_X1_documentInOrder : ab_mk uw mX1_documentInOrder := ⟨(uw_m3 209 rfl rfl), (uw_m1 5 rfl rfl), by decide +kernel, by decide +kernel, by decide +kernel, by decide⟩
set_option maxRecDepth 20000 in
theorem uc_X1_documentsAheadOf : ab_mk uw mX1_documentsAheadOf := ⟨(uw_m3 218 rfl rfl), (uw_m1 5 rfl rfl), by decide +kernel, by decide +kernel, by decide +kernel, by decide⟩
set_option maxRecDepth 20000 in
theorem uc_X2_learn : ab_mk uw mX2_learn := ⟨(uw_m2 209 rfl rfl), (uw_m1 3 rfl rfl), by decide +kernel, by decide +kernel, by decide +kernel, by decide⟩
set_option maxRecDepth 20000 in
theorem uc_X2_learnAlikes : ab_mk uw mX2_learnAlikes := ⟨(uw_m3 5 rfl rfl), (uw_m1 3 rfl rfl), by decide +kernel, by decide +kernel, by decide +kernel, by decide⟩
set_option maxRecDepth 20000 in
theorem uc_X2_learnFronts : ab_mk uw mX2_learnFronts := ⟨(uw_m3 16 rfl rfl), (uw_m1 3 rfl rfl), by decide +kernel, by decide +kernel, by decide +kernel, by decide⟩
set_option maxRecDepth 20000 in
theorem uc_X2_alikeBehind : ab_mk uw mX2_alikeBehind := ⟨(uw_m3 9 rfl rfl), (uw_m1 3 rfl rfl), by decide +kernel, by decide +kernel, by decide +kernel, by decide⟩
set_option maxRecDepth 20000 in
theorem uc_X2_alikeFrom : ab_mk uw mX2_alikeFrom := ⟨(uw_m3 136 rfl rfl), (uw_m1 3 rfl rfl), by decide +kernel, by decide +kernel, by decide +kernel, by decide⟩
set_option maxRecDepth 20000 in
theorem uc_X2_has : ab_mk uw mX2_has := ⟨(uw_m3 65 rfl rfl), (uw_m1 3 rfl rfl), by decide +kernel, by decide +kernel, by decide +kernel, by decide⟩
set_option maxRecDepth 20000 in
theorem uc_X2_hasDocument : ab_mk uw mX2_hasDocument := ⟨(uw_m3 124 rfl rfl), (uw_m1 3 rfl rfl), by decide +kernel, by decide +kernel, by decide +kernel, by decide⟩
set_option maxRecDepth 20000 in
theorem uc_X2_endOf : ab_mk uw mX2_endOf := ⟨(uw_m2 220 rfl rfl), (uw_m1 3 rfl rfl), by decide +kernel, by decide +kernel, by decide +kernel, by decide⟩
set_option maxRecDepth 20000 in
theorem uc_X2_bytesFrom : ab_mk uw mX2_bytesFrom := ⟨(uw_m3 128 rfl rfl), (uw_m1 3 rfl rfl), by decide +kernel, by decide +kernel, by decide +kernel, by decide⟩
set_option maxRecDepth 20000 in
theorem uc_X2_byteOf : ab_mk uw mX2_byteOf := ⟨(uw_m3 116 rfl rfl), (uw_m1 3 rfl rfl), by decide +kernel, by decide +kernel, by decide +kernel, by decide⟩
set_option maxRecDepth 20000 in
theorem uc_X2_tell : ab_mk uw mX2_tell := ⟨(uw_m3 69 rfl rfl), (uw_m1 3 rfl rfl), by decide +kernel, by decide +kernel, by decide +kernel, by decide⟩
set_option maxRecDepth 20000 in
theorem uc_X2_rowInFront : ab_mk uw mX2_rowInFront := ⟨(uw_m3 89 rfl rfl), (uw_m1 3 rfl rfl), by decide +kernel, by decide +kernel, by decide +kernel, by decide⟩
set_option maxRecDepth 20000 in
theorem uc_X2_frontsUpTo : ab_mk uw mX2_frontsUpTo := ⟨(uw_m3 100 rfl rfl), (uw_m1 3 rfl rfl), by decide +kernel, by decide +kernel, by decide +kernel, by decide⟩
set_option maxRecDepth 20000 in
theorem uc_X2_rowOfFront : ab_mk uw mX2_rowOfFront := ⟨(uw_m3 108 rfl rfl), (uw_m1 3 rfl rfl), by decide +kernel, by decide +kernel, by decide +kernel, by decide⟩
set_option maxRecDepth 20000 in
theorem uc_X2_sumOfAlikes : ab_mk uw mX2_sumOfAlikes := ⟨(uw_m5 112 rfl rfl), (uw_m1 3 rfl rfl), by decide +kernel, by decide +kernel, by decide +kernel, by decide⟩
set_option maxRecDepth 20000 in
theorem uc_X2_greatestAlike : ab_mk uw mX2_greatestAlike := ⟨(uw_m5 116 rfl rfl), (uw_m1 3 rfl rfl), by decide +kernel, by decide +kernel, by decide +kernel, by decide⟩
set_option maxRecDepth 20000 in
theorem uc_X3_forget : ab_mk uw mX3_forget := ⟨(uw_m3 57 rfl rfl), (uw_m1 8 rfl rfl), by decide +kernel, by decide +kernel, by decide +kernel, by decide⟩
set_option maxRecDepth 20000 in
theorem uc_X3_found : ab_mk uw mX3_found := ⟨(uw_m4 179 rfl rfl), (uw_m1 8 rfl rfl), by decide +kernel, by decide +kernel, by decide +kernel, by decide⟩
set_option maxRecDepth 20000 in
theorem uc_X3_tellFound : ab_mk uw mX3_tellFound := ⟨(uw_m4 187 rfl rfl), (uw_m1 8 rfl rfl), by decide +kernel, by decide +kernel, by decide +kernel, by decide⟩
set_option maxRecDepth 20000 in
theorem uc_X3_answerQuery : ab_mk uw mX3_answerQuery := ⟨(uw_m4 112 rfl rfl), (uw_m1 8 rfl rfl), by decide +kernel, by decide +kernel, by decide +kernel, by decide⟩
set_option maxRecDepth 20000 in
theorem uc_X3_goUp : ab_mk uw mX3_goUp := ⟨(uw_m4 155 rfl rfl), (uw_m1 8 rfl rfl), by decide +kernel, by decide +kernel, by decide +kernel, by decide⟩
set_option maxRecDepth 20000 in
theorem uc_X3_goDown : ab_mk uw mX3_goDown := ⟨(uw_m4 167 rfl rfl), (uw_m1 8 rfl rfl), by decide +kernel, by decide +kernel, by decide +kernel, by decide⟩
set_option maxRecDepth 20000 in
theorem uc_X3_goDownLeft : ab_mk uw mX3_goDownLeft := ⟨(uw_m4 175 rfl rfl), (uw_m1 8 rfl rfl), by decide +kernel, by decide +kernel, by decide +kernel, by decide⟩
set_option maxRecDepth 20000 in
theorem uc_X3_goDownTo : ab_mk uw mX3_goDownTo := ⟨(uw_m4 171 rfl rfl), (uw_m1 8 rfl rfl), by decide +kernel, by decide +kernel, by decide +kernel, by decide⟩
set_option maxRecDepth 20000 in
theorem uc_X4_find : ab_mk uw mX4_find := ⟨(uw_m3 238 rfl rfl), (uw_m1 6 rfl rfl), by decide +kernel, by decide +kernel, by decide +kernel, by decide⟩
set_option maxRecDepth 20000 in
theorem uc_X4_differAt : ab_mk uw mX4_differAt := ⟨(uw_m4 3 rfl rfl), (uw_m1 6 rfl rfl), by decide +kernel, by decide +kernel, by decide +kernel, by decide⟩
set_option maxRecDepth 20000 in
theorem uc_X5_learn : ab_mk uw mX5_learn := ⟨(uw_m3 25 rfl rfl), (uw_m1 11 rfl rfl), by decide +kernel, by decide +kernel, by decide +kernel, by decide⟩
set_option maxRecDepth 20000 in
theorem uc_X5_learnEarlier : ab_mk uw mX5_learnEarlier := ⟨(uw_m3 29 rfl rfl), (uw_m1 11 rfl rfl), by decide +kernel, by decide +kernel, by decide +kernel, by decide⟩
set_option maxRecDepth 20000 in
theorem uc_X5_mirrored : ab_mk uw mX5_mirrored := ⟨(uw_m3 41 rfl rfl), (uw_m1 11 rfl rfl), by decide +kernel, by decide +kernel, by decide +kernel, by decide⟩
set_option maxRecDepth 20000 in
theorem uc_X5_learnReaches : ab_mk uw mX5_learnReaches := ⟨(uw_m3 37 rfl rfl), (uw_m1 11 rfl rfl), by decide +kernel, by decide +kernel, by decide +kernel, by decide⟩
set_option maxRecDepth 20000 in
theorem uc_X5_learnGapReaches : ab_mk uw mX5_learnGapReaches := ⟨(uw_m3 45 rfl rfl), (uw_m1 11 rfl rfl), by decide +kernel, by decide +kernel, by decide +kernel, by decide⟩
set_option maxRecDepth 20000 in
theorem uc_X5_factors : ab_mk uw mX5_factors := ⟨(uw_m5 47 rfl rfl), (uw_m1 11 rfl rfl), by decide +kernel, by decide +kernel, by decide +kernel, by decide⟩
set_option maxRecDepth 20000 in
theorem uc_X5_tellFactor : ab_mk uw mX5_tellFactor := ⟨(uw_m5 52 rfl rfl), (uw_m1 11 rfl rfl), by decide +kernel, by decide +kernel, by decide +kernel, by decide⟩
set_option maxRecDepth 20000 in
theorem uc_X5_leastEarlier : ab_mk uw mX5_leastEarlier := ⟨(uw_m5 56 rfl rfl), (uw_m1 11 rfl rfl), by decide +kernel, by decide +kernel, by decide +kernel, by decide⟩
set_option maxRecDepth 20000 in
theorem uc_X5_fallingWord : ab_mk uw mX5_fallingWord := ⟨(uw_m5 64 rfl rfl), (uw_m1 11 rfl rfl), by decide +kernel, by decide +kernel, by decide +kernel, by decide⟩
set_option maxRecDepth 20000 in
theorem uc_X5_periodOfWords : ab_mk uw mX5_periodOfWords := ⟨(uw_m5 68 rfl rfl), (uw_m1 11 rfl rfl), by decide +kernel, by decide +kernel, by decide +kernel, by decide⟩
set_option maxRecDepth 20000 in
theorem uc_X5_endOfWords : ab_mk uw mX5_endOfWords := ⟨(uw_m5 72 rfl rfl), (uw_m1 11 rfl rfl), by decide +kernel, by decide +kernel, by decide +kernel, by decide⟩
set_option maxRecDepth 20000 in
theorem uc_X5_leastTwice : ab_mk uw mX5_leastTwice := ⟨(uw_m5 80 rfl rfl), (uw_m1 11 rfl rfl), by decide +kernel, by decide +kernel, by decide +kernel, by decide⟩
set_option maxRecDepth 20000 in
theorem uc_X5_nearer : ab_mk uw mX5_nearer := ⟨(uw_m5 84 rfl rfl), (uw_m1 11 rfl rfl), by decide +kernel, by decide +kernel, by decide +kernel, by decide⟩
set_option maxRecDepth 20000 in
theorem uc_X5_longestMirror : ab_mk uw mX5_longestMirror := ⟨(uw_m5 92 rfl rfl), (uw_m1 11 rfl rfl), by decide +kernel, by decide +kernel, by decide +kernel, by decide⟩
set_option maxRecDepth 20000 in
theorem uc_X5_longestIn : ab_mk uw mX5_longestIn := ⟨(uw_m5 100 rfl rfl), (uw_m1 11 rfl rfl), by decide +kernel, by decide +kernel, by decide +kernel, by decide⟩
set_option maxRecDepth 20000 in
theorem uc_X6_add : ab_mk uw mX6_add := ⟨(uw_m4 15 rfl rfl), (uw_m1 7 rfl rfl), by decide +kernel, by decide +kernel, by decide +kernel, by decide⟩
set_option maxRecDepth 20000 in
theorem uc_X6_read : ab_mk uw mX6_read := ⟨(uw_m4 23 rfl rfl), (uw_m1 7 rfl rfl), by decide +kernel, by decide +kernel, by decide +kernel, by decide⟩
set_option maxRecDepth 20000 in
theorem uc_X6_comes : ab_mk uw mX6_comes := ⟨(uw_m4 54 rfl rfl), (uw_m1 7 rfl rfl), by decide +kernel, by decide +kernel, by decide +kernel, by decide⟩
set_option maxRecDepth 20000 in
theorem uc_X6_goesOn : ab_mk uw mX6_goesOn := ⟨(uw_m4 31 rfl rfl), (uw_m1 7 rfl rfl), by decide +kernel, by decide +kernel, by decide +kernel, by decide⟩
set_option maxRecDepth 20000 in
theorem uc_X6_bounded : ab_mk uw mX6_bounded := ⟨(uw_m4 107 rfl rfl), (uw_m1 7 rfl rfl), by decide +kernel, by decide +kernel, by decide +kernel, by decide⟩
set_option maxRecDepth 20000 in
theorem uc_X6_readSum : ab_mk uw mX6_readSum := ⟨(uw_m4 27 rfl rfl), (uw_m1 7 rfl rfl), by decide +kernel, by decide +kernel, by decide +kernel, by decide⟩
set_option maxRecDepth 20000 in
theorem uc_X6_readItem : ab_mk uw mX6_readItem := ⟨(uw_m4 35 rfl rfl), (uw_m1 7 rfl rfl), by decide +kernel, by decide +kernel, by decide +kernel, by decide⟩
set_option maxRecDepth 20000 in
theorem uc_X6_copies : ab_mk uw mX6_copies := ⟨(uw_m4 103 rfl rfl), (uw_m1 7 rfl rfl), by decide +kernel, by decide +kernel, by decide +kernel, by decide⟩
set_option maxRecDepth 20000 in
theorem uc_X6_readAtom : ab_mk uw mX6_readAtom := ⟨(uw_m4 39 rfl rfl), (uw_m1 7 rfl rfl), by decide +kernel, by decide +kernel, by decide +kernel, by decide⟩
set_option maxRecDepth 20000 in
theorem uc_X6_readPlain : ab_mk uw mX6_readPlain := ⟨(uw_m4 79 rfl rfl), (uw_m1 7 rfl rfl), by decide +kernel, by decide +kernel, by decide +kernel, by decide⟩
set_option maxRecDepth 20000 in
theorem uc_X6_readBrackets : ab_mk uw mX6_readBrackets := ⟨(uw_m4 46 rfl rfl), (uw_m1 7 rfl rfl), by decide +kernel, by decide +kernel, by decide +kernel, by decide⟩
set_option maxRecDepth 20000 in
theorem uc_X6_readSign : ab_mk uw mX6_readSign := ⟨(uw_m4 50 rfl rfl), (uw_m1 7 rfl rfl), by decide +kernel, by decide +kernel, by decide +kernel, by decide⟩
set_option maxRecDepth 20000 in
theorem uc_X6_readByte : ab_mk uw mX6_readByte := ⟨(uw_m4 70 rfl rfl), (uw_m1 7 rfl rfl), by decide +kernel, by decide +kernel, by decide +kernel, by decide⟩
set_option maxRecDepth 20000 in
theorem uc_X6_readRanges : ab_mk uw mX6_readRanges := ⟨(uw_m4 58 rfl rfl), (uw_m1 7 rfl rfl), by decide +kernel, by decide +kernel, by decide +kernel, by decide⟩
set_option maxRecDepth 20000 in
theorem uc_X6_readRange : ab_mk uw mX6_readRange := ⟨(uw_m4 62 rfl rfl), (uw_m1 7 rfl rfl), by decide +kernel, by decide +kernel, by decide +kernel, by decide⟩
set_option maxRecDepth 20000 in
theorem uc_X6_readRangeByte : ab_mk uw mX6_readRangeByte := ⟨(uw_m4 66 rfl rfl), (uw_m1 7 rfl rfl), by decide +kernel, by decide +kernel, by decide +kernel, by decide⟩
set_option maxRecDepth 20000 in
theorem uc_X6_addBytes : ab_mk uw mX6_addBytes := ⟨(uw_m4 74 rfl rfl), (uw_m1 7 rfl rfl), by decide +kernel, by decide +kernel, by decide +kernel, by decide⟩
set_option maxRecDepth 20000 in
theorem uc_X6_mayBe : ab_mk uw mX6_mayBe := ⟨(uw_m4 159 rfl rfl), (uw_m1 7 rfl rfl), by decide +kernel, by decide +kernel, by decide +kernel, by decide⟩
set_option maxRecDepth 20000 in
theorem uc_X6_readRepeat : ab_mk uw mX6_readRepeat := ⟨(uw_m4 83 rfl rfl), (uw_m1 7 rfl rfl), by decide +kernel, by decide +kernel, by decide +kernel, by decide⟩
set_option maxRecDepth 20000 in
theorem uc_X6_repeat : ab_mk uw mX6_repeat := ⟨(uw_m4 87 rfl rfl), (uw_m1 7 rfl rfl), by decide +kernel, by decide +kernel, by decide +kernel, by decide⟩
set_option maxRecDepth 20000 in
theorem uc_X6_readNumbers : ab_mk uw mX6_readNumbers := ⟨(uw_m4 91 rfl rfl), (uw_m1 7 rfl rfl), by decide +kernel, by decide +kernel, by decide +kernel, by decide⟩
set_option maxRecDepth 20000 in
theorem uc_X6_readNumber : ab_mk uw mX6_readNumber := ⟨(uw_m4 95 rfl rfl), (uw_m1 7 rfl rfl), by decide +kernel, by decide +kernel, by decide +kernel, by decide⟩
set_option maxRecDepth 20000 in
theorem uc_X6_figureComes : ab_mk uw mX6_figureComes := ⟨(uw_m4 99 rfl rfl), (uw_m1 7 rfl rfl), by decide +kernel, by decide +kernel, by decide +kernel, by decide⟩
set_option maxRecDepth 20000 in
theorem uc_X7_learn : ab_mk uw mX7_learn := ⟨(uw_m3 20 rfl rfl), (uw_m1 10 rfl rfl), by decide +kernel, by decide +kernel, by decide +kernel, by decide⟩
set_option maxRecDepth 20000 in
theorem uc_X7_lengthOf : ab_mk uw mX7_lengthOf := ⟨(uw_m4 203 rfl rfl), (uw_m1 10 rfl rfl), by decide +kernel, by decide +kernel, by decide +kernel, by decide⟩
set_option maxRecDepth 20000 in
theorem uc_X7_newOf : ab_mk uw mX7_newOf := ⟨(uw_m4 199 rfl rfl), (uw_m1 10 rfl rfl), by decide +kernel, by decide +kernel, by decide +kernel, by decide⟩
set_option maxRecDepth 20000 in
theorem uc_X7_howManyOf : ab_mk uw mX7_howManyOf := ⟨(uw_m4 195 rfl rfl), (uw_m1 10 rfl rfl), by decide +kernel, by decide +kernel, by decide +kernel, by decide⟩
set_option maxRecDepth 20000 in
theorem uc_X7_holdInOrder : ab_mk uw mX7_holdInOrder := ⟨(uw_m4 212 rfl rfl), (uw_m1 10 rfl rfl), by decide +kernel, by decide +kernel, by decide +kernel, by decide⟩
set_option maxRecDepth 20000 in
theorem uc_X7_lesserThanHeld : ab_mk uw mX7_lesserThanHeld := ⟨(uw_m4 221 rfl rfl), (uw_m1 10 rfl rfl), by decide +kernel, by decide +kernel, by decide +kernel, by decide⟩
set_option maxRecDepth 20000 in
theorem uc_X7_holdLongest : ab_mk uw mX7_holdLongest := ⟨(uw_m4 229 rfl rfl), (uw_m1 10 rfl rfl), by decide +kernel, by decide +kernel, by decide +kernel, by decide⟩
set_option maxRecDepth 20000 in
theorem uc_X7_firstRun : ab_mk uw mX7_firstRun := ⟨(uw_m4 233 rfl rfl), (uw_m1 10 rfl rfl), by decide +kernel, by decide +kernel, by decide +kernel, by decide⟩
set_option maxRecDepth 20000 in
theorem uc_X7_holdOftenest : ab_mk uw mX7_holdOftenest := ⟨(uw_m5 6 rfl rfl), (uw_m1 10 rfl rfl), by decide +kernel, by decide +kernel, by decide +kernel, by decide⟩
set_option maxRecDepth 20000 in
theorem uc_X7_leastAlone : ab_mk uw mX7_leastAlone := ⟨(uw_m5 14 rfl rfl), (uw_m1 10 rfl rfl), by decide +kernel, by decide +kernel, by decide +kernel, by decide⟩
set_option maxRecDepth 20000 in
theorem uc_X7_holdMaximal : ab_mk uw mX7_holdMaximal := ⟨(uw_m5 22 rfl rfl), (uw_m1 10 rfl rfl), by decide +kernel, by decide +kernel, by decide +kernel, by decide⟩
set_option maxRecDepth 20000 in
theorem uc_X7_maximalFrom : ab_mk uw mX7_maximalFrom := ⟨(uw_m5 26 rfl rfl), (uw_m1 10 rfl rfl), by decide +kernel, by decide +kernel, by decide +kernel, by decide⟩
set_option maxRecDepth 20000 in
theorem uc_X7_maximalLength : ab_mk uw mX7_maximalLength := ⟨(uw_m5 30 rfl rfl), (uw_m1 10 rfl rfl), by decide +kernel, by decide +kernel, by decide +kernel, by decide⟩
set_option maxRecDepth 20000 in
theorem uc_X7_howManyAbsent : ab_mk uw mX7_howManyAbsent := ⟨(uw_m5 38 rfl rfl), (uw_m1 10 rfl rfl), by decide +kernel, by decide +kernel, by decide +kernel, by decide⟩
set_option maxRecDepth 20000 in
theorem uc_X8_arrange : ab_mk uw mX8_arrange := ⟨(uw_m2 224 rfl rfl), (uw_m1 4 rfl rfl), by decide +kernel, by decide +kernel, by decide +kernel, by decide⟩
set_option maxRecDepth 20000 in
theorem uc_X8_sortByHalves : ab_mk uw mX8_sortByHalves := ⟨(uw_m3 1 rfl rfl), (uw_m1 4 rfl rfl), by decide +kernel, by decide +kernel, by decide +kernel, by decide⟩
set_option maxRecDepth 20000 in
theorem uc_X8_sortByRank : ab_mk uw mX8_sortByRank := ⟨(uw_m2 228 rfl rfl), (uw_m1 4 rfl rfl), by decide +kernel, by decide +kernel, by decide +kernel, by decide⟩
set_option maxRecDepth 20000 in
theorem uc_X8_rankAnew : ab_mk uw mX8_rankAnew := ⟨(uw_m2 233 rfl rfl), (uw_m1 4 rfl rfl), by decide +kernel, by decide +kernel, by decide +kernel, by decide⟩
set_option maxRecDepth 20000 in
theorem uc_X8_rankAt : ab_mk uw mX8_rankAt := ⟨(uw_m2 236 rfl rfl), (uw_m1 4 rfl rfl), by decide +kernel, by decide +kernel, by decide +kernel, by decide⟩
set_option maxRecDepth 20000 in
theorem uc_X9_grown : ab_mk uw mX9_grown := ⟨(uw_m4 117 rfl rfl), (uw_m1 9 rfl rfl), by decide +kernel, by decide +kernel, by decide +kernel, by decide⟩
set_option maxRecDepth 20000 in
theorem uc_X9_comes : ab_mk uw mX9_comes := ⟨(uw_m4 129 rfl rfl), (uw_m1 9 rfl rfl), by decide +kernel, by decide +kernel, by decide +kernel, by decide⟩
set_option maxRecDepth 20000 in
theorem uc_X9_growSum : ab_mk uw mX9_growSum := ⟨(uw_m4 121 rfl rfl), (uw_m1 9 rfl rfl), by decide +kernel, by decide +kernel, by decide +kernel, by decide⟩
set_option maxRecDepth 20000 in
theorem uc_X9_growRow : ab_mk uw mX9_growRow := ⟨(uw_m4 125 rfl rfl), (uw_m1 9 rfl rfl), by decide +kernel, by decide +kernel, by decide +kernel, by decide⟩
set_option maxRecDepth 20000 in
theorem uc_X9_growItem : ab_mk uw mX9_growItem := ⟨(uw_m4 133 rfl rfl), (uw_m1 9 rfl rfl), by decide +kernel, by decide +kernel, by decide +kernel, by decide⟩
set_option maxRecDepth 20000 in
theorem uc_X9_growAtom : ab_mk uw mX9_growAtom := ⟨(uw_m4 138 rfl rfl), (uw_m1 9 rfl rfl), by decide +kernel, by decide +kernel, by decide +kernel, by decide⟩
set_option maxRecDepth 20000 in
theorem uc_X9_joined : ab_mk uw mX9_joined := ⟨(uw_m4 146 rfl rfl), (uw_m1 9 rfl rfl), by decide +kernel, by decide +kernel, by decide +kernel, by decide⟩
set_option maxRecDepth 20000 in
theorem uc_X9_choice : ab_mk uw mX9_choice := ⟨(uw_m4 151 rfl rfl), (uw_m1 9 rfl rfl), by decide +kernel, by decide +kernel, by decide +kernel, by decide⟩
set_option maxRecDepth 20000 in
theorem uc_X9_node : ab_mk uw mX9_node := ⟨(uw_m4 142 rfl rfl), (uw_m1 9 rfl rfl), by decide +kernel, by decide +kernel, by decide +kernel, by decide⟩
set_option maxRecDepth 20000 in
theorem uc_X10_feed : ab_mk uw mX10_feed := ⟨(uw_m2 170 rfl rfl), (uw_m1 1 rfl rfl), by decide +kernel, by decide +kernel, by decide +kernel, by decide⟩
set_option maxRecDepth 20000 in
theorem uc_X10_end : ab_mk uw mX10_end := ⟨(uw_m2 178 rfl rfl), (uw_m1 1 rfl rfl), by decide +kernel, by decide +kernel, by decide +kernel, by decide⟩
set_option maxRecDepth 20000 in
theorem uc_X10_cut : ab_mk uw mX10_cut := ⟨(uw_m2 186 rfl rfl), (uw_m1 1 rfl rfl), by decide +kernel, by decide +kernel, by decide +kernel, by decide⟩
set_option maxRecDepth 20000 in
theorem uc_X10_clear : ab_mk uw mX10_clear := ⟨(uw_m2 197 rfl rfl), (uw_m1 1 rfl rfl), by decide +kernel, by decide +kernel, by decide +kernel, by decide⟩
set_option maxRecDepth 20000 in
theorem uc_X10_build : ab_mk uw mX10_build := ⟨(uw_m2 205 rfl rfl), (uw_m1 1 rfl rfl), by decide +kernel, by decide +kernel, by decide +kernel, by decide⟩
set_option maxRecDepth 20000 in
theorem uc_X10_place : ab_mk uw mX10_place := ⟨(uw_m3 61 rfl rfl), (uw_m1 1 rfl rfl), by decide +kernel, by decide +kernel, by decide +kernel, by decide⟩
set_option maxRecDepth 20000 in
theorem uc_X10_row : ab_mk uw mX10_row := ⟨(uw_m3 73 rfl rfl), (uw_m1 1 rfl rfl), by decide +kernel, by decide +kernel, by decide +kernel, by decide⟩
set_option maxRecDepth 20000 in
theorem uc_X10_shared : ab_mk uw mX10_shared := ⟨(uw_m3 77 rfl rfl), (uw_m1 1 rfl rfl), by decide +kernel, by decide +kernel, by decide +kernel, by decide⟩
set_option maxRecDepth 20000 in
theorem uc_X10_before : ab_mk uw mX10_before := ⟨(uw_m3 81 rfl rfl), (uw_m1 1 rfl rfl), by decide +kernel, by decide +kernel, by decide +kernel, by decide⟩
set_option maxRecDepth 20000 in
theorem uc_X10_step : ab_mk uw mX10_step := ⟨(uw_m3 85 rfl rfl), (uw_m1 1 rfl rfl), by decide +kernel, by decide +kernel, by decide +kernel, by decide⟩
set_option maxRecDepth 20000 in
theorem uc_X10_rank : ab_mk uw mX10_rank := ⟨(uw_m3 93 rfl rfl), (uw_m1 1 rfl rfl), by decide +kernel, by decide +kernel, by decide +kernel, by decide⟩
set_option maxRecDepth 20000 in
theorem uc_X10_select : ab_mk uw mX10_select := ⟨(uw_m3 104 rfl rfl), (uw_m1 1 rfl rfl), by decide +kernel, by decide +kernel, by decide +kernel, by decide⟩
set_option maxRecDepth 20000 in
theorem uc_X10_byteAt : ab_mk uw mX10_byteAt := ⟨(uw_m3 112 rfl rfl), (uw_m1 1 rfl rfl), by decide +kernel, by decide +kernel, by decide +kernel, by decide⟩
set_option maxRecDepth 20000 in
theorem uc_X10_document : ab_mk uw mX10_document := ⟨(uw_m3 120 rfl rfl), (uw_m1 1 rfl rfl), by decide +kernel, by decide +kernel, by decide +kernel, by decide⟩
set_option maxRecDepth 20000 in
theorem uc_X10_alike : ab_mk uw mX10_alike := ⟨(uw_m3 132 rfl rfl), (uw_m1 1 rfl rfl), by decide +kernel, by decide +kernel, by decide +kernel, by decide⟩
set_option maxRecDepth 20000 in
theorem uc_X10_begin : ab_mk uw mX10_begin := ⟨(uw_m3 141 rfl rfl), (uw_m1 1 rfl rfl), by decide +kernel, by decide +kernel, by decide +kernel, by decide⟩
set_option maxRecDepth 20000 in
theorem uc_X10_grow : ab_mk uw mX10_grow := ⟨(uw_m3 149 rfl rfl), (uw_m1 1 rfl rfl), by decide +kernel, by decide +kernel, by decide +kernel, by decide⟩
set_option maxRecDepth 20000 in
theorem uc_X10_front : ab_mk uw mX10_front := ⟨(uw_m3 162 rfl rfl), (uw_m1 1 rfl rfl), by decide +kernel, by decide +kernel, by decide +kernel, by decide⟩
set_option maxRecDepth 20000 in
theorem uc_X10_back : ab_mk uw mX10_back := ⟨(uw_m3 166 rfl rfl), (uw_m1 1 rfl rfl), by decide +kernel, by decide +kernel, by decide +kernel, by decide⟩
set_option maxRecDepth 20000 in
theorem uc_X10_pattern : ab_mk uw mX10_pattern := ⟨(uw_m3 174 rfl rfl), (uw_m1 1 rfl rfl), by decide +kernel, by decide +kernel, by decide +kernel, by decide⟩
set_option maxRecDepth 20000 in
theorem uc_X10_patternByte : ab_mk uw mX10_patternByte := ⟨(uw_m3 178 rfl rfl), (uw_m1 1 rfl rfl), by decide +kernel, by decide +kernel, by decide +kernel, by decide⟩
set_option maxRecDepth 20000 in
theorem uc_X10_at : ab_mk uw mX10_at := ⟨(uw_m3 182 rfl rfl), (uw_m1 1 rfl rfl), by decide +kernel, by decide +kernel, by decide +kernel, by decide⟩
set_option maxRecDepth 20000 in
theorem uc_X10_sorted : ab_mk uw mX10_sorted := ⟨(uw_m3 186 rfl rfl), (uw_m1 1 rfl rfl), by decide +kernel, by decide +kernel, by decide +kernel, by decide⟩
set_option maxRecDepth 20000 in
theorem uc_X10_more : ab_mk uw mX10_more := ⟨(uw_m3 194 rfl rfl), (uw_m1 1 rfl rfl), by decide +kernel, by decide +kernel, by decide +kernel, by decide⟩
set_option maxRecDepth 20000 in
theorem uc_X10_ranked : ab_mk uw mX10_ranked := ⟨(uw_m3 205 rfl rfl), (uw_m1 1 rfl rfl), by decide +kernel, by decide +kernel, by decide +kernel, by decide⟩
set_option maxRecDepth 20000 in
theorem uc_X10_times : ab_mk uw mX10_times := ⟨(uw_m3 222 rfl rfl), (uw_m1 1 rfl rfl), by decide +kernel, by decide +kernel, by decide +kernel, by decide⟩
set_option maxRecDepth 20000 in
theorem uc_X10_take : ab_mk uw mX10_take := ⟨(uw_m3 230 rfl rfl), (uw_m1 1 rfl rfl), by decide +kernel, by decide +kernel, by decide +kernel, by decide⟩
set_option maxRecDepth 20000 in
theorem uc_X10_near : ab_mk uw mX10_near := ⟨(uw_m3 234 rfl rfl), (uw_m1 1 rfl rfl), by decide +kernel, by decide +kernel, by decide +kernel, by decide⟩
set_option maxRecDepth 20000 in
theorem uc_X10_nearOf : ab_mk uw mX10_nearOf := ⟨(uw_m4 7 rfl rfl), (uw_m1 1 rfl rfl), by decide +kernel, by decide +kernel, by decide +kernel, by decide⟩
set_option maxRecDepth 20000 in
theorem uc_X10_ask : ab_mk uw mX10_ask := ⟨(uw_m4 11 rfl rfl), (uw_m1 1 rfl rfl), by decide +kernel, by decide +kernel, by decide +kernel, by decide⟩
set_option maxRecDepth 20000 in
theorem uc_X10_answer : ab_mk uw mX10_answer := ⟨(uw_m4 19 rfl rfl), (uw_m1 1 rfl rfl), by decide +kernel, by decide +kernel, by decide +kernel, by decide⟩
set_option maxRecDepth 20000 in
theorem uc_X10_answered : ab_mk uw mX10_answered := ⟨(uw_m4 183 rfl rfl), (uw_m1 1 rfl rfl), by decide +kernel, by decide +kernel, by decide +kernel, by decide⟩
set_option maxRecDepth 20000 in
theorem uc_X10_different : ab_mk uw mX10_different := ⟨(uw_m4 191 rfl rfl), (uw_m1 1 rfl rfl), by decide +kernel, by decide +kernel, by decide +kernel, by decide⟩
set_option maxRecDepth 20000 in
theorem uc_X10_kth : ab_mk uw mX10_kth := ⟨(uw_m4 208 rfl rfl), (uw_m1 1 rfl rfl), by decide +kernel, by decide +kernel, by decide +kernel, by decide⟩
set_option maxRecDepth 20000 in
theorem uc_X10_order : ab_mk uw mX10_order := ⟨(uw_m4 217 rfl rfl), (uw_m1 1 rfl rfl), by decide +kernel, by decide +kernel, by decide +kernel, by decide⟩
set_option maxRecDepth 20000 in
theorem uc_X10_repeated : ab_mk uw mX10_repeated := ⟨(uw_m4 225 rfl rfl), (uw_m1 1 rfl rfl), by decide +kernel, by decide +kernel, by decide +kernel, by decide⟩
set_option maxRecDepth 20000 in
theorem uc_X10_common : ab_mk uw mX10_common := ⟨(uw_m4 238 rfl rfl), (uw_m1 1 rfl rfl), by decide +kernel, by decide +kernel, by decide +kernel, by decide⟩
set_option maxRecDepth 20000 in
theorem uc_X10_oftenest : ab_mk uw mX10_oftenest := ⟨(uw_m5 2 rfl rfl), (uw_m1 1 rfl rfl), by decide +kernel, by decide +kernel, by decide +kernel, by decide⟩
set_option maxRecDepth 20000 in
theorem uc_X10_unique : ab_mk uw mX10_unique := ⟨(uw_m5 10 rfl rfl), (uw_m1 1 rfl rfl), by decide +kernel, by decide +kernel, by decide +kernel, by decide⟩
set_option maxRecDepth 20000 in
theorem uc_X10_maximal : ab_mk uw mX10_maximal := ⟨(uw_m5 18 rfl rfl), (uw_m1 1 rfl rfl), by decide +kernel, by decide +kernel, by decide +kernel, by decide⟩
set_option maxRecDepth 20000 in
theorem uc_X10_absent : ab_mk uw mX10_absent := ⟨(uw_m5 34 rfl rfl), (uw_m1 1 rfl rfl), by decide +kernel, by decide +kernel, by decide +kernel, by decide⟩
set_option maxRecDepth 20000 in
theorem uc_X10_factor : ab_mk uw mX10_factor := ⟨(uw_m5 43 rfl rfl), (uw_m1 1 rfl rfl), by decide +kernel, by decide +kernel, by decide +kernel, by decide⟩
set_option maxRecDepth 20000 in
theorem uc_X10_word : ab_mk uw mX10_word := ⟨(uw_m5 60 rfl rfl), (uw_m1 1 rfl rfl), by decide +kernel, by decide +kernel, by decide +kernel, by decide⟩
set_option maxRecDepth 20000 in
theorem uc_X10_square : ab_mk uw mX10_square := ⟨(uw_m5 76 rfl rfl), (uw_m1 1 rfl rfl), by decide +kernel, by decide +kernel, by decide +kernel, by decide⟩
set_option maxRecDepth 20000 in
theorem uc_X10_mirror : ab_mk uw mX10_mirror := ⟨(uw_m5 88 rfl rfl), (uw_m1 1 rfl rfl), by decide +kernel, by decide +kernel, by decide +kernel, by decide⟩
set_option maxRecDepth 20000 in
theorem uc_X10_match : ab_mk uw mX10_match := ⟨(uw_m5 96 rfl rfl), (uw_m1 1 rfl rfl), by decide +kernel, by decide +kernel, by decide +kernel, by decide⟩
set_option maxRecDepth 20000 in
theorem uc_X10_count : ab_mk uw mX10_count := ⟨(uw_m5 104 rfl rfl), (uw_m1 1 rfl rfl), by decide +kernel, by decide +kernel, by decide +kernel, by decide⟩
set_option maxRecDepth 20000 in
theorem uc_X10_unwound : ab_mk uw mX10_unwound := ⟨(uw_m5 120 rfl rfl), (uw_m1 1 rfl rfl), by decide +kernel, by decide +kernel, by decide +kernel, by decide⟩
set_option maxRecDepth 20000 in
theorem uc_X10_countOfIndex : ab_mk uw mX10_countOfIndex := ⟨(uw_m5 108 rfl rfl), (uw_m1 1 rfl rfl), by decide +kernel, by decide +kernel, by decide +kernel, by decide⟩
set_option maxRecDepth 20000 in
theorem uc_X10_isByte : ab_mk uw mX10_isByte := ⟨(uw_m3 96 rfl rfl), (uw_m1 1 rfl rfl), by decide +kernel, by decide +kernel, by decide +kernel, by decide⟩
set_option maxRecDepth 20000 in
theorem uc_X11_feed : ab_mk uw mX11_feed := ⟨(uw_m6 116 rfl rfl), (uw_m1 12 rfl rfl), by decide +kernel, by decide +kernel, by decide +kernel, by decide⟩
set_option maxRecDepth 20000 in
theorem uc_X11_end : ab_mk uw mX11_end := ⟨(uw_m6 120 rfl rfl), (uw_m1 12 rfl rfl), by decide +kernel, by decide +kernel, by decide +kernel, by decide⟩
set_option maxRecDepth 20000 in
theorem uc_X11_cut : ab_mk uw mX11_cut := ⟨(uw_m6 124 rfl rfl), (uw_m1 12 rfl rfl), by decide +kernel, by decide +kernel, by decide +kernel, by decide⟩
set_option maxRecDepth 20000 in
theorem uc_X11_clear : ab_mk uw mX11_clear := ⟨(uw_m6 128 rfl rfl), (uw_m1 12 rfl rfl), by decide +kernel, by decide +kernel, by decide +kernel, by decide⟩
set_option maxRecDepth 20000 in
theorem uc_X11_keyAt : ab_mk uw mX11_keyAt := ⟨(uw_m6 144 rfl rfl), (uw_m1 12 rfl rfl), by decide +kernel, by decide +kernel, by decide +kernel, by decide⟩
set_option maxRecDepth 20000 in
theorem uc_X11_sortBy : ab_mk uw mX11_sortBy := ⟨(uw_m6 140 rfl rfl), (uw_m1 12 rfl rfl), by decide +kernel, by decide +kernel, by decide +kernel, by decide⟩
set_option maxRecDepth 20000 in
theorem uc_X11_sortAll : ab_mk uw mX11_sortAll := ⟨(uw_m6 136 rfl rfl), (uw_m1 12 rfl rfl), by decide +kernel, by decide +kernel, by decide +kernel, by decide⟩
set_option maxRecDepth 20000 in
theorem uc_X11_findShares : ab_mk uw mX11_findShares := ⟨(uw_m6 148 rfl rfl), (uw_m1 12 rfl rfl), by decide +kernel, by decide +kernel, by decide +kernel, by decide⟩
set_option maxRecDepth 20000 in
theorem uc_X11_build : ab_mk uw mX11_build := ⟨(uw_m6 132 rfl rfl), (uw_m1 12 rfl rfl), by decide +kernel, by decide +kernel, by decide +kernel, by decide⟩
set_option maxRecDepth 20000 in
theorem uc_X11_isRow : ab_mk uw mX11_isRow := ⟨(uw_m6 160 rfl rfl), (uw_m1 12 rfl rfl), by decide +kernel, by decide +kernel, by decide +kernel, by decide⟩
set_option maxRecDepth 20000 in
theorem uc_X11_isDocument : ab_mk uw mX11_isDocument := ⟨(uw_m6 207 rfl rfl), (uw_m1 12 rfl rfl), by decide +kernel, by decide +kernel, by decide +kernel, by decide⟩
set_option maxRecDepth 20000 in
theorem uc_X11_isByte : ab_mk uw mX11_isByte := ⟨(uw_m6 191 rfl rfl), (uw_m1 12 rfl rfl), by decide +kernel, by decide +kernel, by decide +kernel, by decide⟩
set_option maxRecDepth 20000 in
theorem uc_X11_left : ab_mk uw mX11_left := ⟨(uw_m6 219 rfl rfl), (uw_m1 12 rfl rfl), by decide +kernel, by decide +kernel, by decide +kernel, by decide⟩
set_option maxRecDepth 20000 in
theorem uc_X11_stepsOf : ab_mk uw mX11_stepsOf := ⟨(uw_m6 164 rfl rfl), (uw_m1 12 rfl rfl), by decide +kernel, by decide +kernel, by decide +kernel, by decide⟩
set_option maxRecDepth 20000 in
theorem uc_X11_place : ab_mk uw mX11_place := ⟨(uw_m6 156 rfl rfl), (uw_m1 12 rfl rfl), by decide +kernel, by decide +kernel, by decide +kernel, by decide⟩
set_option maxRecDepth 20000 in
theorem uc_X11_row : ab_mk uw mX11_row := ⟨(uw_m6 168 rfl rfl), (uw_m1 12 rfl rfl), by decide +kernel, by decide +kernel, by decide +kernel, by decide⟩
set_option maxRecDepth 20000 in
theorem uc_X11_shared : ab_mk uw mX11_shared := ⟨(uw_m6 172 rfl rfl), (uw_m1 12 rfl rfl), by decide +kernel, by decide +kernel, by decide +kernel, by decide⟩
set_option maxRecDepth 20000 in
theorem uc_X11_beforeOf : ab_mk uw mX11_beforeOf := ⟨(uw_m6 180 rfl rfl), (uw_m1 12 rfl rfl), by decide +kernel, by decide +kernel, by decide +kernel, by decide⟩
set_option maxRecDepth 20000 in
theorem uc_X11_before : ab_mk uw mX11_before := ⟨(uw_m6 176 rfl rfl), (uw_m1 12 rfl rfl), by decide +kernel, by decide +kernel, by decide +kernel, by decide⟩
set_option maxRecDepth 20000 in
theorem uc_X11_step : ab_mk uw mX11_step := ⟨(uw_m6 184 rfl rfl), (uw_m1 12 rfl rfl), by decide +kernel, by decide +kernel, by decide +kernel, by decide⟩
set_option maxRecDepth 20000 in
theorem uc_X11_rank : ab_mk uw mX11_rank := ⟨(uw_m6 188 rfl rfl), (uw_m1 12 rfl rfl), by decide +kernel, by decide +kernel, by decide +kernel, by decide⟩
set_option maxRecDepth 20000 in
theorem uc_X11_select : ab_mk uw mX11_select := ⟨(uw_m6 195 rfl rfl), (uw_m1 12 rfl rfl), by decide +kernel, by decide +kernel, by decide +kernel, by decide⟩
set_option maxRecDepth 20000 in
theorem uc_X11_byteAt : ab_mk uw mX11_byteAt := ⟨(uw_m6 199 rfl rfl), (uw_m1 12 rfl rfl), by decide +kernel, by decide +kernel, by decide +kernel, by decide⟩
set_option maxRecDepth 20000 in
theorem uc_X11_document : ab_mk uw mX11_document := ⟨(uw_m6 203 rfl rfl), (uw_m1 12 rfl rfl), by decide +kernel, by decide +kernel, by decide +kernel, by decide⟩
set_option maxRecDepth 20000 in
theorem uc_X11_alikeOf : ab_mk uw mX11_alikeOf := ⟨(uw_m6 215 rfl rfl), (uw_m1 12 rfl rfl), by decide +kernel, by decide +kernel, by decide +kernel, by decide⟩
set_option maxRecDepth 20000 in
theorem uc_X11_alike : ab_mk uw mX11_alike := ⟨(uw_m6 211 rfl rfl), (uw_m1 12 rfl rfl), by decide +kernel, by decide +kernel, by decide +kernel, by decide⟩
set_option maxRecDepth 20000 in
theorem uc_X11_toEmpty : ab_mk uw mX11_toEmpty := ⟨(uw_m6 152 rfl rfl), (uw_m1 12 rfl rfl), by decide +kernel, by decide +kernel, by decide +kernel, by decide⟩
set_option maxRecDepth 20000 in
theorem uc_X11_begin : ab_mk uw mX11_begin := ⟨(uw_m6 223 rfl rfl), (uw_m1 12 rfl rfl), by decide +kernel, by decide +kernel, by decide +kernel, by decide⟩
set_option maxRecDepth 20000 in
theorem uc_X11_findRows : ab_mk uw mX11_findRows := ⟨(uw_m6 239 rfl rfl), (uw_m1 12 rfl rfl), by decide +kernel, by decide +kernel, by decide +kernel, by decide⟩
set_option maxRecDepth 20000 in
theorem uc_X11_become : ab_mk uw mX11_become := ⟨(uw_m7 44 rfl rfl), (uw_m1 12 rfl rfl), by decide +kernel, by decide +kernel, by decide +kernel, by decide⟩
set_option maxRecDepth 20000 in
theorem uc_X11_grow : ab_mk uw mX11_grow := ⟨(uw_m6 227 rfl rfl), (uw_m1 12 rfl rfl), by decide +kernel, by decide +kernel, by decide +kernel, by decide⟩
set_option maxRecDepth 20000 in
theorem uc_X11_front : ab_mk uw mX11_front := ⟨(uw_m6 231 rfl rfl), (uw_m1 12 rfl rfl), by decide +kernel, by decide +kernel, by decide +kernel, by decide⟩
set_option maxRecDepth 20000 in
theorem uc_X11_back : ab_mk uw mX11_back := ⟨(uw_m6 235 rfl rfl), (uw_m1 12 rfl rfl), by decide +kernel, by decide +kernel, by decide +kernel, by decide⟩
set_option maxRecDepth 20000 in
theorem uc_X11_pattern : ab_mk uw mX11_pattern := ⟨(uw_m7 3 rfl rfl), (uw_m1 12 rfl rfl), by decide +kernel, by decide +kernel, by decide +kernel, by decide⟩
set_option maxRecDepth 20000 in
theorem uc_X11_patternByte : ab_mk uw mX11_patternByte := ⟨(uw_m7 7 rfl rfl), (uw_m1 12 rfl rfl), by decide +kernel, by decide +kernel, by decide +kernel, by decide⟩
set_option maxRecDepth 20000 in
theorem uc_X11_at : ab_mk uw mX11_at := ⟨(uw_m7 11 rfl rfl), (uw_m1 12 rfl rfl), by decide +kernel, by decide +kernel, by decide +kernel, by decide⟩
set_option maxRecDepth 20000 in
theorem uc_X11_isAt : ab_mk uw mX11_isAt := ⟨(uw_m7 20 rfl rfl), (uw_m1 12 rfl rfl), by decide +kernel, by decide +kernel, by decide +kernel, by decide⟩
set_option maxRecDepth 20000 in
theorem uc_X11_sorted : ab_mk uw mX11_sorted := ⟨(uw_m7 16 rfl rfl), (uw_m1 12 rfl rfl), by decide +kernel, by decide +kernel, by decide +kernel, by decide⟩
set_option maxRecDepth 20000 in
theorem uc_X11_more : ab_mk uw mX11_more := ⟨(uw_m7 24 rfl rfl), (uw_m1 12 rfl rfl), by decide +kernel, by decide +kernel, by decide +kernel, by decide⟩
set_option maxRecDepth 20000 in
theorem uc_X11_timesOf : ab_mk uw mX11_timesOf := ⟨(uw_m7 32 rfl rfl), (uw_m1 12 rfl rfl), by decide +kernel, by decide +kernel, by decide +kernel, by decide⟩
set_option maxRecDepth 20000 in
theorem uc_X11_ranked : ab_mk uw mX11_ranked := ⟨(uw_m7 28 rfl rfl), (uw_m1 12 rfl rfl), by decide +kernel, by decide +kernel, by decide +kernel, by decide⟩
set_option maxRecDepth 20000 in
theorem uc_X11_times : ab_mk uw mX11_times := ⟨(uw_m7 36 rfl rfl), (uw_m1 12 rfl rfl), by decide +kernel, by decide +kernel, by decide +kernel, by decide⟩
set_option maxRecDepth 20000 in
theorem uc_X11_take : ab_mk uw mX11_take := ⟨(uw_m7 40 rfl rfl), (uw_m1 12 rfl rfl), by decide +kernel, by decide +kernel, by decide +kernel, by decide⟩
set_option maxRecDepth 20000 in
theorem uc_X11_near : ab_mk uw mX11_near := ⟨(uw_m7 48 rfl rfl), (uw_m1 12 rfl rfl), by decide +kernel, by decide +kernel, by decide +kernel, by decide⟩
set_option maxRecDepth 20000 in
theorem uc_X11_nearOf : ab_mk uw mX11_nearOf := ⟨(uw_m7 52 rfl rfl), (uw_m1 12 rfl rfl), by decide +kernel, by decide +kernel, by decide +kernel, by decide⟩
set_option maxRecDepth 20000 in
theorem uc_X11_ask : ab_mk uw mX11_ask := ⟨(uw_m7 56 rfl rfl), (uw_m1 12 rfl rfl), by decide +kernel, by decide +kernel, by decide +kernel, by decide⟩
set_option maxRecDepth 20000 in
theorem uc_X11_sign : ab_mk uw mX11_sign := ⟨(uw_m7 72 rfl rfl), (uw_m1 12 rfl rfl), by decide +kernel, by decide +kernel, by decide +kernel, by decide⟩
set_option maxRecDepth 20000 in
theorem uc_X11_fail : ab_mk uw mX11_fail := ⟨(uw_m7 76 rfl rfl), (uw_m1 12 rfl rfl), by decide +kernel, by decide +kernel, by decide +kernel, by decide⟩
set_option maxRecDepth 20000 in
theorem uc_X11_isFigure : ab_mk uw mX11_isFigure := ⟨(uw_m7 91 rfl rfl), (uw_m1 12 rfl rfl), by decide +kernel, by decide +kernel, by decide +kernel, by decide⟩
set_option maxRecDepth 20000 in
theorem uc_X11_number : ab_mk uw mX11_number := ⟨(uw_m7 88 rfl rfl), (uw_m1 12 rfl rfl), by decide +kernel, by decide +kernel, by decide +kernel, by decide⟩
set_option maxRecDepth 20000 in
theorem uc_X11_braces : ab_mk uw mX11_braces := ⟨(uw_m7 84 rfl rfl), (uw_m1 12 rfl rfl), by decide +kernel, by decide +kernel, by decide +kernel, by decide⟩
set_option maxRecDepth 20000 in
theorem uc_X11_rangeByte : ab_mk uw mX11_rangeByte := ⟨(uw_m7 129 rfl rfl), (uw_m1 12 rfl rfl), by decide +kernel, by decide +kernel, by decide +kernel, by decide⟩
set_option maxRecDepth 20000 in
theorem uc_X11_ranges : ab_mk uw mX11_ranges := ⟨(uw_m7 125 rfl rfl), (uw_m1 12 rfl rfl), by decide +kernel, by decide +kernel, by decide +kernel, by decide⟩
set_option maxRecDepth 20000 in
theorem uc_X11_openOne : ab_mk uw mX11_openOne := ⟨(uw_m7 68 rfl rfl), (uw_m1 12 rfl rfl), by decide +kernel, by decide +kernel, by decide +kernel, by decide⟩
set_option maxRecDepth 20000 in
theorem uc_X11_addMade : ab_mk uw mX11_addMade := ⟨(uw_m7 100 rfl rfl), (uw_m1 12 rfl rfl), by decide +kernel, by decide +kernel, by decide +kernel, by decide⟩
set_option maxRecDepth 20000 in
theorem uc_X11_endRow : ab_mk uw mX11_endRow := ⟨(uw_m7 113 rfl rfl), (uw_m1 12 rfl rfl), by decide +kernel, by decide +kernel, by decide +kernel, by decide⟩
set_option maxRecDepth 20000 in
theorem uc_X11_begunAtom : ab_mk uw mX11_begunAtom := ⟨(uw_m7 117 rfl rfl), (uw_m1 12 rfl rfl), by decide +kernel, by decide +kernel, by decide +kernel, by decide⟩
set_option maxRecDepth 20000 in
theorem uc_X11_endItem : ab_mk uw mX11_endItem := ⟨(uw_m7 109 rfl rfl), (uw_m1 12 rfl rfl), by decide +kernel, by decide +kernel, by decide +kernel, by decide⟩
set_option maxRecDepth 20000 in
theorem uc_X11_again : ab_mk uw mX11_again := ⟨(uw_m7 105 rfl rfl), (uw_m1 12 rfl rfl), by decide +kernel, by decide +kernel, by decide +kernel, by decide⟩
set_option maxRecDepth 20000 in
theorem uc_X11_repeat : ab_mk uw mX11_repeat := ⟨(uw_m7 96 rfl rfl), (uw_m1 12 rfl rfl), by decide +kernel, by decide +kernel, by decide +kernel, by decide⟩
set_option maxRecDepth 20000 in
theorem uc_X11_goOver : ab_mk uw mX11_goOver := ⟨(uw_m7 64 rfl rfl), (uw_m1 12 rfl rfl), by decide +kernel, by decide +kernel, by decide +kernel, by decide⟩
set_option maxRecDepth 20000 in
theorem uc_X11_quantify : ab_mk uw mX11_quantify := ⟨(uw_m7 80 rfl rfl), (uw_m1 12 rfl rfl), by decide +kernel, by decide +kernel, by decide +kernel, by decide⟩
set_option maxRecDepth 20000 in
theorem uc_X11_atom : ab_mk uw mX11_atom := ⟨(uw_m7 121 rfl rfl), (uw_m1 12 rfl rfl), by decide +kernel, by decide +kernel, by decide +kernel, by decide⟩
set_option maxRecDepth 20000 in
theorem uc_X11_follow : ab_mk uw mX11_follow := ⟨(uw_m7 138 rfl rfl), (uw_m1 12 rfl rfl), by decide +kernel, by decide +kernel, by decide +kernel, by decide⟩
set_option maxRecDepth 20000 in
theorem uc_X11_findPositions : ab_mk uw mX11_findPositions := ⟨(uw_m7 134 rfl rfl), (uw_m1 12 rfl rfl), by decide +kernel, by decide +kernel, by decide +kernel, by decide⟩
set_option maxRecDepth 20000 in
theorem uc_X11_fits : ab_mk uw mX11_fits := ⟨(uw_m7 146 rfl rfl), (uw_m1 12 rfl rfl), by decide +kernel, by decide +kernel, by decide +kernel, by decide⟩
set_option maxRecDepth 20000 in
theorem uc_X11_matchFrom : ab_mk uw mX11_matchFrom := ⟨(uw_m7 142 rfl rfl), (uw_m1 12 rfl rfl), by decide +kernel, by decide +kernel, by decide +kernel, by decide⟩
set_option maxRecDepth 20000 in
theorem uc_X11_answer : ab_mk uw mX11_answer := ⟨(uw_m7 60 rfl rfl), (uw_m1 12 rfl rfl), by decide +kernel, by decide +kernel, by decide +kernel, by decide⟩
set_option maxRecDepth 20000 in
theorem uc_X11_answered : ab_mk uw mX11_answered := ⟨(uw_m7 150 rfl rfl), (uw_m1 12 rfl rfl), by decide +kernel, by decide +kernel, by decide +kernel, by decide⟩
set_option maxRecDepth 20000 in
theorem uc_X11_freshOf : ab_mk uw mX11_freshOf := ⟨(uw_m7 158 rfl rfl), (uw_m1 12 rfl rfl), by decide +kernel, by decide +kernel, by decide +kernel, by decide⟩
set_option maxRecDepth 20000 in
theorem uc_X11_different : ab_mk uw mX11_different := ⟨(uw_m7 154 rfl rfl), (uw_m1 12 rfl rfl), by decide +kernel, by decide +kernel, by decide +kernel, by decide⟩
set_option maxRecDepth 20000 in
theorem uc_X11_kth : ab_mk uw mX11_kth := ⟨(uw_m7 162 rfl rfl), (uw_m1 12 rfl rfl), by decide +kernel, by decide +kernel, by decide +kernel, by decide⟩
set_option maxRecDepth 20000 in
theorem uc_X11_order : ab_mk uw mX11_order := ⟨(uw_m7 166 rfl rfl), (uw_m1 12 rfl rfl), by decide +kernel, by decide +kernel, by decide +kernel, by decide⟩
set_option maxRecDepth 20000 in
theorem uc_X11_becomeBest : ab_mk uw mX11_becomeBest := ⟨(uw_m7 174 rfl rfl), (uw_m1 12 rfl rfl), by decide +kernel, by decide +kernel, by decide +kernel, by decide⟩
set_option maxRecDepth 20000 in
theorem uc_X11_repeated : ab_mk uw mX11_repeated := ⟨(uw_m7 170 rfl rfl), (uw_m1 12 rfl rfl), by decide +kernel, by decide +kernel, by decide +kernel, by decide⟩
set_option maxRecDepth 20000 in
theorem uc_X11_common : ab_mk uw mX11_common := ⟨(uw_m7 178 rfl rfl), (uw_m1 12 rfl rfl), by decide +kernel, by decide +kernel, by decide +kernel, by decide⟩
set_option maxRecDepth 20000 in
theorem uc_X11_oftenest : ab_mk uw mX11_oftenest := ⟨(uw_m7 182 rfl rfl), (uw_m1 12 rfl rfl), by decide +kernel, by decide +kernel, by decide +kernel, by decide⟩
set_option maxRecDepth 20000 in
theorem uc_X11_unique : ab_mk uw mX11_unique := ⟨(uw_m7 186 rfl rfl), (uw_m1 12 rfl rfl), by decide +kernel, by decide +kernel, by decide +kernel, by decide⟩
set_option maxRecDepth 20000 in
theorem uc_X11_isOneBefore : ab_mk uw mX11_isOneBefore := ⟨(uw_m7 194 rfl rfl), (uw_m1 12 rfl rfl), by decide +kernel, by decide +kernel, by decide +kernel, by decide⟩
set_option maxRecDepth 20000 in
theorem uc_X11_maximal : ab_mk uw mX11_maximal := ⟨(uw_m7 190 rfl rfl), (uw_m1 12 rfl rfl), by decide +kernel, by decide +kernel, by decide +kernel, by decide⟩
set_option maxRecDepth 20000 in
theorem uc_X11_absent : ab_mk uw mX11_absent := ⟨(uw_m7 198 rfl rfl), (uw_m1 12 rfl rfl), by decide +kernel, by decide +kernel, by decide +kernel, by decide⟩
set_option maxRecDepth 20000 in
theorem uc_X11_findFactors : ab_mk uw mX11_findFactors := ⟨(uw_m7 206 rfl rfl), (uw_m1 12 rfl rfl), by decide +kernel, by decide +kernel, by decide +kernel, by decide⟩
set_option maxRecDepth 20000 in
theorem uc_X11_factor : ab_mk uw mX11_factor := ⟨(uw_m7 202 rfl rfl), (uw_m1 12 rfl rfl), by decide +kernel, by decide +kernel, by decide +kernel, by decide⟩
set_option maxRecDepth 20000 in
theorem uc_X11_word : ab_mk uw mX11_word := ⟨(uw_m7 210 rfl rfl), (uw_m1 12 rfl rfl), by decide +kernel, by decide +kernel, by decide +kernel, by decide⟩
set_option maxRecDepth 20000 in
theorem uc_X11_square : ab_mk uw mX11_square := ⟨(uw_m7 214 rfl rfl), (uw_m1 12 rfl rfl), by decide +kernel, by decide +kernel, by decide +kernel, by decide⟩
set_option maxRecDepth 20000 in
theorem uc_X11_mirror : ab_mk uw mX11_mirror := ⟨(uw_m7 218 rfl rfl), (uw_m1 12 rfl rfl), by decide +kernel, by decide +kernel, by decide +kernel, by decide⟩
set_option maxRecDepth 20000 in
theorem uc_X11_match : ab_mk uw mX11_match := ⟨(uw_m7 222 rfl rfl), (uw_m1 12 rfl rfl), by decide +kernel, by decide +kernel, by decide +kernel, by decide⟩
set_option maxRecDepth 20000 in
theorem uc_X11_countRows : ab_mk uw mX11_countRows := ⟨(uw_m7 234 rfl rfl), (uw_m1 12 rfl rfl), by decide +kernel, by decide +kernel, by decide +kernel, by decide⟩
set_option maxRecDepth 20000 in
theorem uc_X11_countBytes : ab_mk uw mX11_countBytes := ⟨(uw_m7 230 rfl rfl), (uw_m1 12 rfl rfl), by decide +kernel, by decide +kernel, by decide +kernel, by decide⟩
set_option maxRecDepth 20000 in
theorem uc_X11_count : ab_mk uw mX11_count := ⟨(uw_m7 226 rfl rfl), (uw_m1 12 rfl rfl), by decide +kernel, by decide +kernel, by decide +kernel, by decide⟩
set_option maxRecDepth 20000 in
theorem uc_X11_unwound : ab_mk uw mX11_unwound := ⟨(uw_m7 238 rfl rfl), (uw_m1 12 rfl rfl), by decide +kernel, by decide +kernel, by decide +kernel, by decide⟩
set_option maxRecDepth 20000 in
theorem uc_J7_rangeCheck_23922 : ab_mk uw mJ7_rangeCheck_23922 := ⟨(uw_m2 216 rfl rfl), (uw_m1 14 rfl rfl), by decide +kernel, by decide +kernel, by decide +kernel, by decide⟩
set_option maxRecDepth 20000 in
theorem uc_J7_fill_bad5a : ab_mk uw mJ7_fill_bad5a := ⟨(uw_m4 42 rfl rfl), (uw_m1 14 rfl rfl), by decide +kernel, by decide +kernel, by decide +kernel, by decide⟩
set_option maxRecDepth 20000 in
theorem uc_J7_fill_53178 : ab_mk uw mJ7_fill_53178 := ⟨(uw_m3 201 rfl rfl), (uw_m1 14 rfl rfl), by decide +kernel, by decide +kernel, by decide +kernel, by decide⟩
set_option maxRecDepth 20000 in
theorem uc_J7_fill_fda19 : ab_mk uw mJ7_fill_fda19 := ⟨(uw_m2 213 rfl rfl), (uw_m1 14 rfl rfl), by decide +kernel, by decide +kernel, by decide +kernel, by decide⟩
def ufl_J7 : List ab_3 := []
set_option maxRecDepth 20000 in
theorem uf_J7 : ∀ q ∈ ufl_J7, ab_okF uw vwCl RJ7 q := fun _ h => absurd h List.not_mem_nil
def ukl_J7 : List ab_3 := []
set_option maxRecDepth 20000 in
theorem uk_J7 : ∀ q ∈ ukl_J7, ab_okK uw RJ7 q := fun _ h => absurd h List.not_mem_nil
def uvl_J7 : List ab_3 := []
set_option maxRecDepth 20000 in
theorem uv_J7 : ∀ q ∈ uvl_J7, ab_okV uw vwCl prg RJ7 q := fun _ h => absurd h List.not_mem_nil
set_option maxRecDepth 20000 in
theorem us_J7_0 : ab_okS uw vwCl prg RJ7 (13, 249, 3) := ⟨mJ7_rangeCheck_23922, rfl, (uw_m2 214 rfl rfl), (uw_m2 215 rfl rfl), by decide +kernel⟩
def usl_J7 : List ab_3 := [(13, 249, 3)]
set_option maxRecDepth 20000 in
theorem us_J7 : ∀ q ∈ usl_J7, ab_okS uw vwCl prg RJ7 q := List.forall_mem_cons.mpr ⟨us_J7_0, fun _ h => absurd h List.not_mem_nil⟩
set_option maxRecDepth 20000 in
theorem uf_X0_0 : ab_okF uw vwCl RX0 (9, 0, 0) := ⟨RX0, TX0, 5, rfl, by decide, (uw_m1 30 rfl rfl)⟩
set_option maxRecDepth 20000 in
theorem uf_X0_1 : ab_okF uw vwCl RX0 (15, 0, 1) := ⟨RX0, TX0, 5, rfl, by decide, (uw_m1 32 rfl rfl)⟩
set_option maxRecDepth 20000 in
theorem uf_X0_2 : ab_okF uw vwCl RX0 (18, 0, 2) := ⟨RX0, TX0, 5, rfl, by decide, (uw_m1 34 rfl rfl)⟩
set_option maxRecDepth 20000 in
theorem uf_X0_3 : ab_okF uw vwCl RX0 (21, 0, 4) := ⟨RX0, TX0, 5, rfl, by decide, (uw_m1 39 rfl rfl)⟩
set_option maxRecDepth 20000 in
theorem uf_X0_4 : ab_okF uw vwCl RX0 (25, 0, 3) := ⟨RX0, TX0, 5, rfl, by decide, (uw_m1 36 rfl rfl)⟩
def ufl_X0 : List ab_3 := [(9, 0, 0), (15, 0, 1), (18, 0, 2), (21, 0, 4), (25, 0, 3)]
set_option maxRecDepth 20000 in
theorem uf_X0 : ∀ q ∈ ufl_X0, ab_okF uw vwCl RX0 q := List.forall_mem_cons.mpr ⟨uf_X0_0, List.forall_mem_cons.mpr ⟨uf_X0_1, List.forall_mem_cons.mpr ⟨uf_X0_2, List.forall_mem_cons.mpr ⟨uf_X0_3, List.forall_mem_cons.mpr ⟨uf_X0_4, fun _ h => absurd h List.not_mem_nil⟩⟩⟩⟩⟩
def ukl_X0 : List ab_3 := []
set_option maxRecDepth 20000 in
theorem uk_X0 : ∀ q ∈ ukl_X0, ab_okK uw RX0 q := fun _ h => absurd h List.not_mem_nil
def uvl_X0 : List ab_3 := []
set_option maxRecDepth 20000 in
theorem uv_X0 : ∀ q ∈ uvl_X0, ab_okV uw vwCl prg RX0 q := fun _ h => absurd h List.not_mem_nil
set_option maxRecDepth 20000 in
theorem us_X0_0 : ab_okS uw vwCl prg RX0 (28, 1002, 5) := ⟨(uw_m2 191 rfl rfl), (uw_m2 193 rfl rfl), (uw_m2 192 rfl rfl), (uw_m1 13 rfl rfl)⟩
def usl_X0 : List ab_3 := [(28, 1002, 5)]
set_option maxRecDepth 20000 in
theorem us_X0 : ∀ q ∈ usl_X0, ab_okS uw vwCl prg RX0 q := List.forall_mem_cons.mpr ⟨us_X0_0, fun _ h => absurd h List.not_mem_nil⟩
set_option maxRecDepth 20000 in
theorem uf_X1_0 : ab_okF uw vwCl RX1 (9, 1, 1) := ⟨RX1, TX1, 8, rfl, by decide, (uw_m1 154 rfl rfl)⟩
set_option maxRecDepth 20000 in
theorem uf_X1_1 : ab_okF uw vwCl RX1 (15, 1, 2) := ⟨RX1, TX1, 8, rfl, by decide, (uw_m1 155 rfl rfl)⟩
set_option maxRecDepth 20000 in
theorem uf_X1_2 : ab_okF uw vwCl RX1 (19, 1, 0) := ⟨RX1, TX1, 8, rfl, by decide, (uw_m1 153 rfl rfl)⟩
set_option maxRecDepth 20000 in
theorem uf_X1_3 : ab_okF uw vwCl RX1 (27, 1, 3) := ⟨RX1, TX1, 8, rfl, by decide, (uw_m1 156 rfl rfl)⟩
set_option maxRecDepth 20000 in
theorem uf_X1_4 : ab_okF uw vwCl RX1 (31, 1, 4) := ⟨RX1, TX1, 8, rfl, by decide, (uw_m1 158 rfl rfl)⟩
set_option maxRecDepth 20000 in
theorem uf_X1_5 : ab_okF uw vwCl RX1 (34, 1, 5) := ⟨RX1, TX1, 8, rfl, by decide, (uw_m1 162 rfl rfl)⟩
set_option maxRecDepth 20000 in
theorem uf_X1_6 : ab_okF uw vwCl RX1 (37, 2, 4) := ⟨RX2, TX2, 12, rfl, by decide, (uw_m1 94 rfl rfl)⟩
set_option maxRecDepth 20000 in
theorem uf_X1_7 : ab_okF uw vwCl RX1 (42, 1, 6) := ⟨RX1, TX1, 8, rfl, by decide, (uw_m1 165 rfl rfl)⟩
set_option maxRecDepth 20000 in
theorem uf_X1_8 : ab_okF uw vwCl RX1 (45, 2, 5) := ⟨RX2, TX2, 12, rfl, by decide, (uw_m1 100 rfl rfl)⟩
set_option maxRecDepth 20000 in
theorem uf_X1_9 : ab_okF uw vwCl RX1 (48, 1, 7) := ⟨RX1, TX1, 8, rfl, by decide, (uw_m1 168 rfl rfl)⟩
set_option maxRecDepth 20000 in
theorem uf_X1_10 : ab_okF uw vwCl RX1 (51, 2, 8) := ⟨RX2, TX2, 12, rfl, by decide, (uw_m1 112 rfl rfl)⟩
set_option maxRecDepth 20000 in
theorem uf_X1_11 : ab_okF uw vwCl RX1 (54, 2, 0) := ⟨RX2, TX2, 12, rfl, by decide, (uw_m1 77 rfl rfl)⟩
set_option maxRecDepth 20000 in
theorem uf_X1_12 : ab_okF uw vwCl RX1 (57, 2, 3) := ⟨RX2, TX2, 12, rfl, by decide, (uw_m1 90 rfl rfl)⟩
set_option maxRecDepth 20000 in
theorem uf_X1_13 : ab_okF uw vwCl RX1 (60, 2, 6) := ⟨RX2, TX2, 12, rfl, by decide, (uw_m1 105 rfl rfl)⟩
set_option maxRecDepth 20000 in
theorem uf_X1_14 : ab_okF uw vwCl RX1 (82, 2, 1) := ⟨RX2, TX2, 12, rfl, by decide, (uw_m1 82 rfl rfl)⟩
set_option maxRecDepth 20000 in
theorem uf_X1_15 : ab_okF uw vwCl RX1 (85, 2, 9) := ⟨RX2, TX2, 12, rfl, by decide, (uw_m1 116 rfl rfl)⟩
def ufl_X1 : List ab_3 := [(9, 1, 1), (15, 1, 2), (19, 1, 0), (27, 1, 3), (31, 1, 4), (34, 1, 5), (37, 2, 4), (42, 1, 6), (45, 2, 5), (48, 1, 7), (51, 2, 8), (54, 2, 0), (57, 2, 3), (60, 2, 6), (82, 2, 1), (85, 2, 9)]
set_option maxRecDepth 20000 in
theorem uf_X1 : ∀ q ∈ ufl_X1, ab_okF uw vwCl RX1 q := List.forall_mem_cons.mpr ⟨uf_X1_0, List.forall_mem_cons.mpr ⟨uf_X1_1, List.forall_mem_cons.mpr ⟨uf_X1_2, List.forall_mem_cons.mpr ⟨uf_X1_3, List.forall_mem_cons.mpr ⟨uf_X1_4, List.forall_mem_cons.mpr ⟨uf_X1_5, List.forall_mem_cons.mpr ⟨uf_X1_6, List.forall_mem_cons.mpr ⟨uf_X1_7, List.forall_mem_cons.mpr ⟨uf_X1_8, List.forall_mem_cons.mpr ⟨uf_X1_9, List.forall_mem_cons.mpr ⟨uf_X1_10, List.forall_mem_cons.mpr ⟨uf_X1_11, List.forall_mem_cons.mpr ⟨uf_X1_12, List.forall_mem_cons.mpr ⟨uf_X1_13, List.forall_mem_cons.mpr ⟨uf_X1_14, List.forall_mem_cons.mpr ⟨uf_X1_15, fun _ h => absurd h List.not_mem_nil⟩⟩⟩⟩⟩⟩⟩⟩⟩⟩⟩⟩⟩⟩⟩⟩
def ukl_X1 : List ab_3 := []
set_option maxRecDepth 20000 in
theorem uk_X1 : ∀ q ∈ ukl_X1, ab_okK uw RX1 q := fun _ h => absurd h List.not_mem_nil
set_option maxRecDepth 20000 in
theorem uv_X1_0 : ab_okV uw vwCl prg RX1 (23, 5, 2) := ⟨mX1_stand, rfl, (uw_m3 50 rfl rfl), (uw_m3 52 rfl rfl), (uw_mem 10 (by decide +kernel) rfl), ⟨TX1, 8, rfl⟩, by decide +kernel⟩
set_option maxRecDepth 20000 in
theorem uv_X1_1 : ab_okV uw vwCl prg RX1 (63, 7, 2) := ⟨mX1_beside, rfl, (uw_m3 154 rfl rfl), (uw_m3 156 rfl rfl), (uw_mem 11 (by decide +kernel) rfl), ⟨TX1, 8, rfl⟩, by decide +kernel⟩
set_option maxRecDepth 20000 in
theorem uv_X1_2 : ab_okV uw vwCl prg RX1 (67, 6, 0) := ⟨mX1_rows, rfl, (uw_m3 158 rfl rfl), (uw_m3 143 rfl rfl), (uw_m3 144 rfl rfl), ⟨TX1, 8, rfl⟩, by decide +kernel⟩
set_option maxRecDepth 20000 in
theorem uv_X1_3 : ab_okV uw vwCl prg RX1 (76, 13, 0) := ⟨mX1_countByDocument, rfl, (uw_m3 210 rfl rfl), (uw_m3 212 rfl rfl), (uw_mem 12 (by decide +kernel) rfl), ⟨TX1, 8, rfl⟩, by decide +kernel⟩
set_option maxRecDepth 20000 in
theorem uv_X1_4 : ab_okV uw vwCl prg RX1 (88, 15, 1) := ⟨mX1_documentsAheadOf, rfl, (uw_m3 215 rfl rfl), (uw_m3 217 rfl rfl), (uw_mem 13 (by decide +kernel) rfl), ⟨TX1, 8, rfl⟩, by decide +kernel⟩
def uvl_X1 : List ab_3 := [(23, 5, 2), (63, 7, 2), (67, 6, 0), (76, 13, 0), (88, 15, 1)]
set_option maxRecDepth 20000 in
theorem uv_X1 : ∀ q ∈ uvl_X1, ab_okV uw vwCl prg RX1 q := List.forall_mem_cons.mpr ⟨uv_X1_0, List.forall_mem_cons.mpr ⟨uv_X1_1, List.forall_mem_cons.mpr ⟨uv_X1_2, List.forall_mem_cons.mpr ⟨uv_X1_3, List.forall_mem_cons.mpr ⟨uv_X1_4, fun _ h => absurd h List.not_mem_nil⟩⟩⟩⟩⟩
set_option maxRecDepth 20000 in
theorem us_X1_0 : ab_okS uw vwCl prg RX1 (70, 251, 2) := ⟨mJ7_fill_53178, rfl, (uw_m3 199 rfl rfl), (uw_m3 200 rfl rfl), by decide +kernel⟩
set_option maxRecDepth 20000 in
theorem us_X1_1 : ab_okS uw vwCl prg RX1 (79, 252, 4) := ⟨mJ7_fill_fda19, rfl, (uw_m3 214 rfl rfl), (uw_m2 212 rfl rfl), by decide +kernel⟩
def usl_X1 : List ab_3 := [(70, 251, 2), (79, 252, 4)]
set_option maxRecDepth 20000 in
theorem us_X1 : ∀ q ∈ usl_X1, ab_okS uw vwCl prg RX1 q := List.forall_mem_cons.mpr ⟨us_X1_0, List.forall_mem_cons.mpr ⟨us_X1_1, fun _ h => absurd h List.not_mem_nil⟩⟩
set_option maxRecDepth 20000 in
theorem uf_X10_0 : ab_okF uw vwCl RX10 (10, 10, 0) := ⟨RX10, TX10, 8, rfl, by decide, (uw_m2 142 rfl rfl)⟩
set_option maxRecDepth 20000 in
theorem uf_X10_1 : ab_okF uw vwCl RX10 (19, 10, 1) := ⟨RX10, TX10, 8, rfl, by decide, (uw_m2 143 rfl rfl)⟩
set_option maxRecDepth 20000 in
theorem uf_X10_2 : ab_okF uw vwCl RX10 (28, 10, 2) := ⟨RX10, TX10, 8, rfl, by decide, (uw_m2 144 rfl rfl)⟩
set_option maxRecDepth 20000 in
theorem uf_X10_3 : ab_okF uw vwCl RX10 (37, 10, 3) := ⟨RX10, TX10, 8, rfl, by decide, (uw_m2 145 rfl rfl)⟩
set_option maxRecDepth 20000 in
theorem uf_X10_4 : ab_okF uw vwCl RX10 (44, 10, 4) := ⟨RX10, TX10, 8, rfl, by decide, (uw_m2 146 rfl rfl)⟩
set_option maxRecDepth 20000 in
theorem uf_X10_5 : ab_okF uw vwCl RX10 (53, 10, 5) := ⟨RX10, TX10, 8, rfl, by decide, (uw_m2 147 rfl rfl)⟩
set_option maxRecDepth 20000 in
theorem uf_X10_6 : ab_okF uw vwCl RX10 (60, 10, 6) := ⟨RX10, TX10, 8, rfl, by decide, (uw_m2 148 rfl rfl)⟩
set_option maxRecDepth 20000 in
theorem uf_X10_7 : ab_okF uw vwCl RX10 (67, 10, 7) := ⟨RX10, TX10, 8, rfl, by decide, (uw_m2 149 rfl rfl)⟩
set_option maxRecDepth 20000 in
theorem uf_X10_8 : ab_okF uw vwCl RX10 (71, 0, 4) := ⟨RX0, TX0, 5, rfl, by decide, (uw_m1 38 rfl rfl)⟩
set_option maxRecDepth 20000 in
theorem uf_X10_9 : ab_okF uw vwCl RX10 (90, 0, 3) := ⟨RX0, TX0, 5, rfl, by decide, (uw_m1 37 rfl rfl)⟩
set_option maxRecDepth 20000 in
theorem uf_X10_10 : ab_okF uw vwCl RX10 (104, 4, 4) := ⟨RX4, TX4, 5, rfl, by decide, (uw_m1 200 rfl rfl)⟩
set_option maxRecDepth 20000 in
theorem uf_X10_11 : ab_okF uw vwCl RX10 (110, 2, 8) := ⟨RX2, TX2, 12, rfl, by decide, (uw_m1 114 rfl rfl)⟩
set_option maxRecDepth 20000 in
theorem uf_X10_12 : ab_okF uw vwCl RX10 (117, 2, 3) := ⟨RX2, TX2, 12, rfl, by decide, (uw_m1 91 rfl rfl)⟩
set_option maxRecDepth 20000 in
theorem uf_X10_13 : ab_okF uw vwCl RX10 (124, 2, 4) := ⟨RX2, TX2, 12, rfl, by decide, (uw_m1 96 rfl rfl)⟩
set_option maxRecDepth 20000 in
theorem uf_X10_14 : ab_okF uw vwCl RX10 (127, 2, 5) := ⟨RX2, TX2, 12, rfl, by decide, (uw_m1 102 rfl rfl)⟩
set_option maxRecDepth 20000 in
theorem uf_X10_15 : ab_okF uw vwCl RX10 (130, 2, 6) := ⟨RX2, TX2, 12, rfl, by decide, (uw_m1 106 rfl rfl)⟩
set_option maxRecDepth 20000 in
theorem uf_X10_16 : ab_okF uw vwCl RX10 (149, 2, 1) := ⟨RX2, TX2, 12, rfl, by decide, (uw_m1 84 rfl rfl)⟩
set_option maxRecDepth 20000 in
theorem uf_X10_17 : ab_okF uw vwCl RX10 (155, 2, 2) := ⟨RX2, TX2, 12, rfl, by decide, (uw_m1 87 rfl rfl)⟩
set_option maxRecDepth 20000 in
theorem uf_X10_18 : ab_okF uw vwCl RX10 (173, 1, 5) := ⟨RX1, TX1, 8, rfl, by decide, (uw_m1 164 rfl rfl)⟩
set_option maxRecDepth 20000 in
theorem uf_X10_19 : ab_okF uw vwCl RX10 (176, 1, 6) := ⟨RX1, TX1, 8, rfl, by decide, (uw_m1 167 rfl rfl)⟩
set_option maxRecDepth 20000 in
theorem uf_X10_20 : ab_okF uw vwCl RX10 (179, 1, 3) := ⟨RX1, TX1, 8, rfl, by decide, (uw_m1 157 rfl rfl)⟩
set_option maxRecDepth 20000 in
theorem uf_X10_21 : ab_okF uw vwCl RX10 (182, 2, 0) := ⟨RX2, TX2, 12, rfl, by decide, (uw_m1 79 rfl rfl)⟩
set_option maxRecDepth 20000 in
theorem uf_X10_22 : ab_okF uw vwCl RX10 (185, 1, 4) := ⟨RX1, TX1, 8, rfl, by decide, (uw_m1 160 rfl rfl)⟩
set_option maxRecDepth 20000 in
theorem uf_X10_23 : ab_okF uw vwCl RX10 (203, 4, 2) := ⟨RX4, TX4, 5, rfl, by decide, (uw_m1 196 rfl rfl)⟩
set_option maxRecDepth 20000 in
theorem uf_X10_24 : ab_okF uw vwCl RX10 (204, 4, 3) := ⟨RX4, TX4, 5, rfl, by decide, (uw_m1 198 rfl rfl)⟩
set_option maxRecDepth 20000 in
theorem uf_X10_25 : ab_okF uw vwCl RX10 (213, 6, 8) := ⟨RX6, TX6, 9, rfl, by decide, (uw_m1 234 rfl rfl)⟩
set_option maxRecDepth 20000 in
theorem uf_X10_26 : ab_okF uw vwCl RX10 (219, 6, 6) := ⟨RX6, TX6, 9, rfl, by decide, (uw_m1 231 rfl rfl)⟩
set_option maxRecDepth 20000 in
theorem uf_X10_27 : ab_okF uw vwCl RX10 (277, 2, 9) := ⟨RX2, TX2, 12, rfl, by decide, (uw_m1 117 rfl rfl)⟩
set_option maxRecDepth 20000 in
theorem uf_X10_28 : ab_okF uw vwCl RX10 (278, 2, 10) := ⟨RX2, TX2, 12, rfl, by decide, (uw_m1 119 rfl rfl)⟩
set_option maxRecDepth 20000 in
theorem uf_X10_29 : ab_okF uw vwCl RX10 (281, 2, 11) := ⟨RX2, TX2, 12, rfl, by decide, (uw_m1 121 rfl rfl)⟩
set_option maxRecDepth 20000 in
theorem uf_X10_30 : ab_okF uw vwCl RX10 (284, 7, 3) := ⟨RX7, TX7, 5, rfl, by decide, (uw_m2 101 rfl rfl)⟩
def ufl_X10 : List ab_3 := [(10, 10, 0), (19, 10, 1), (28, 10, 2), (37, 10, 3), (44, 10, 4), (53, 10, 5), (60, 10, 6), (67, 10, 7), (71, 0, 4), (90, 0, 3), (104, 4, 4), (110, 2, 8), (117, 2, 3), (124, 2, 4), (127, 2, 5), (130, 2, 6), (149, 2, 1), (155, 2, 2), (173, 1, 5), (176, 1, 6), (179, 1, 3), (182, 2, 0), (185, 1, 4), (203, 4, 2), (204, 4, 3), (213, 6, 8), (219, 6, 6), (277, 2, 9), (278, 2, 10), (281, 2, 11), (284, 7, 3)]
set_option maxRecDepth 20000 in
theorem uf_X10 : ∀ q ∈ ufl_X10, ab_okF uw vwCl RX10 q := List.forall_mem_cons.mpr ⟨uf_X10_0, List.forall_mem_cons.mpr ⟨uf_X10_1, List.forall_mem_cons.mpr ⟨uf_X10_2, List.forall_mem_cons.mpr ⟨uf_X10_3, List.forall_mem_cons.mpr ⟨uf_X10_4, List.forall_mem_cons.mpr ⟨uf_X10_5, List.forall_mem_cons.mpr ⟨uf_X10_6, List.forall_mem_cons.mpr ⟨uf_X10_7, List.forall_mem_cons.mpr ⟨uf_X10_8, List.forall_mem_cons.mpr ⟨uf_X10_9, List.forall_mem_cons.mpr ⟨uf_X10_10, List.forall_mem_cons.mpr ⟨uf_X10_11, List.forall_mem_cons.mpr ⟨uf_X10_12, List.forall_mem_cons.mpr ⟨uf_X10_13, List.forall_mem_cons.mpr ⟨uf_X10_14, List.forall_mem_cons.mpr ⟨uf_X10_15, List.forall_mem_cons.mpr ⟨uf_X10_16, List.forall_mem_cons.mpr ⟨uf_X10_17, List.forall_mem_cons.mpr ⟨uf_X10_18, List.forall_mem_cons.mpr ⟨uf_X10_19, List.forall_mem_cons.mpr ⟨uf_X10_20, List.forall_mem_cons.mpr ⟨uf_X10_21, List.forall_mem_cons.mpr ⟨uf_X10_22, List.forall_mem_cons.mpr ⟨uf_X10_23, List.forall_mem_cons.mpr ⟨uf_X10_24, List.forall_mem_cons.mpr ⟨uf_X10_25, List.forall_mem_cons.mpr ⟨uf_X10_26, List.forall_mem_cons.mpr ⟨uf_X10_27, List.forall_mem_cons.mpr ⟨uf_X10_28, List.forall_mem_cons.mpr ⟨uf_X10_29, List.forall_mem_cons.mpr ⟨uf_X10_30, fun _ h => absurd h List.not_mem_nil⟩⟩⟩⟩⟩⟩⟩⟩⟩⟩⟩⟩⟩⟩⟩⟩⟩⟩⟩⟩⟩⟩⟩⟩⟩⟩⟩⟩⟩⟩⟩
def ukl_X10 : List ab_3 := []
set_option maxRecDepth 20000 in
theorem uk_X10 : ∀ q ∈ ukl_X10, ab_okK uw RX10 q := fun _ h => absurd h List.not_mem_nil
set_option maxRecDepth 20000 in
theorem uv_X10_0 : ab_okV uw vwCl prg RX10 (75, 0, 1) := ⟨mX0_addFour, rfl, (uw_m2 171 rfl rfl), (uw_m2 172 rfl rfl), (uw_m2 173 rfl rfl), ⟨TX0, 5, rfl⟩, by decide +kernel⟩
set_option maxRecDepth 20000 in
theorem uv_X10_1 : ab_okV uw vwCl prg RX10 (79, 1, 1) := ⟨mX0_keepOfLast, rfl, (uw_m2 179 rfl rfl), (uw_m2 180 rfl rfl), (uw_m2 181 rfl rfl), ⟨TX0, 5, rfl⟩, by decide +kernel⟩
set_option maxRecDepth 20000 in
theorem uv_X10_2 : ab_okV uw vwCl prg RX10 (83, 2, 0) := ⟨mX0_endDocument, rfl, (uw_m2 187 rfl rfl), (uw_m2 188 rfl rfl), (uw_m2 189 rfl rfl), ⟨TX0, 5, rfl⟩, by decide +kernel⟩
set_option maxRecDepth 20000 in
theorem uv_X10_3 : ab_okV uw vwCl prg RX10 (87, 3, 0) := ⟨mX0_dropAll, rfl, (uw_m2 198 rfl rfl), (uw_m2 199 rfl rfl), (uw_m2 200 rfl rfl), ⟨TX0, 5, rfl⟩, by decide +kernel⟩
set_option maxRecDepth 20000 in
theorem uv_X10_4 : ab_okV uw vwCl prg RX10 (93, 16, 2) := ⟨mX2_learn, rfl, (uw_m2 206 rfl rfl), (uw_m2 207 rfl rfl), (uw_m2 208 rfl rfl), ⟨TX2, 12, rfl⟩, by decide +kernel⟩
set_option maxRecDepth 20000 in
theorem uv_X10_5 : ab_okV uw vwCl prg RX10 (97, 80, 0) := ⟨mX7_learn, rfl, (uw_m3 17 rfl rfl), (uw_m3 18 rfl rfl), (uw_m3 19 rfl rfl), ⟨TX7, 5, rfl⟩, by decide +kernel⟩
set_option maxRecDepth 20000 in
theorem uv_X10_6 : ab_okV uw vwCl prg RX10 (99, 42, 0) := ⟨mX5_learn, rfl, (uw_m3 22 rfl rfl), (uw_m3 23 rfl rfl), (uw_m3 24 rfl rfl), ⟨TX5, 7, rfl⟩, by decide +kernel⟩
set_option maxRecDepth 20000 in
theorem uv_X10_7 : ab_okV uw vwCl prg RX10 (100, 4, 2) := ⟨mX1_become, rfl, (uw_m3 46 rfl rfl), (uw_m3 47 rfl rfl), (uw_m3 48 rfl rfl), ⟨TX1, 8, rfl⟩, by decide +kernel⟩
set_option maxRecDepth 20000 in
theorem uv_X10_8 : ab_okV uw vwCl prg RX10 (107, 32, 0) := ⟨mX3_forget, rfl, (uw_m3 54 rfl rfl), (uw_m3 55 rfl rfl), (uw_m3 56 rfl rfl), ⟨TX3, 11, rfl⟩, by decide +kernel⟩
set_option maxRecDepth 20000 in
theorem uv_X10_9 : ab_okV uw vwCl prg RX10 (113, 21, 1) := ⟨mX2_has, rfl, (uw_m3 62 rfl rfl), (uw_m3 63 rfl rfl), (uw_m3 64 rfl rfl), ⟨TX2, 12, rfl⟩, by decide +kernel⟩
set_option maxRecDepth 20000 in
theorem uv_X10_10 : ab_okV uw vwCl prg RX10 (121, 26, 1) := ⟨mX2_tell, rfl, (uw_m3 66 rfl rfl), (uw_m3 67 rfl rfl), (uw_m3 68 rfl rfl), ⟨TX2, 12, rfl⟩, by decide +kernel⟩
set_option maxRecDepth 20000 in
theorem uv_X10_11 : ab_okV uw vwCl prg RX10 (133, 27, 1) := ⟨mX2_rowInFront, rfl, (uw_m3 86 rfl rfl), (uw_m3 87 rfl rfl), (uw_m3 88 rfl rfl), ⟨TX2, 12, rfl⟩, by decide +kernel⟩
set_option maxRecDepth 20000 in
theorem uv_X10_12 : ab_okV uw vwCl prg RX10 (139, 28, 2) := ⟨mX2_frontsUpTo, rfl, (uw_m3 97 rfl rfl), (uw_m3 98 rfl rfl), (uw_m3 99 rfl rfl), ⟨TX2, 12, rfl⟩, by decide +kernel⟩
set_option maxRecDepth 20000 in
theorem uv_X10_13 : ab_okV uw vwCl prg RX10 (143, 29, 2) := ⟨mX2_rowOfFront, rfl, (uw_m3 105 rfl rfl), (uw_m3 106 rfl rfl), (uw_m3 107 rfl rfl), ⟨TX2, 12, rfl⟩, by decide +kernel⟩
set_option maxRecDepth 20000 in
theorem uv_X10_14 : ab_okV uw vwCl prg RX10 (146, 25, 1) := ⟨mX2_byteOf, rfl, (uw_m3 113 rfl rfl), (uw_m3 114 rfl rfl), (uw_m3 115 rfl rfl), ⟨TX2, 12, rfl⟩, by decide +kernel⟩
set_option maxRecDepth 20000 in
theorem uv_X10_15 : ab_okV uw vwCl prg RX10 (152, 22, 1) := ⟨mX2_hasDocument, rfl, (uw_m3 121 rfl rfl), (uw_m3 122 rfl rfl), (uw_m3 123 rfl rfl), ⟨TX2, 12, rfl⟩, by decide +kernel⟩
set_option maxRecDepth 20000 in
theorem uv_X10_16 : ab_okV uw vwCl prg RX10 (158, 24, 1) := ⟨mX2_bytesFrom, rfl, (uw_m3 125 rfl rfl), (uw_m3 126 rfl rfl), (uw_m3 127 rfl rfl), ⟨TX2, 12, rfl⟩, by decide +kernel⟩
set_option maxRecDepth 20000 in
theorem uv_X10_17 : ab_okV uw vwCl prg RX10 (161, 20, 2) := ⟨mX2_alikeFrom, rfl, (uw_m3 133 rfl rfl), (uw_m3 134 rfl rfl), (uw_m3 135 rfl rfl), ⟨TX2, 12, rfl⟩, by decide +kernel⟩
set_option maxRecDepth 20000 in
theorem uv_X10_18 : ab_okV uw vwCl prg RX10 (164, 6, 0) := ⟨mX1_rows, rfl, (uw_m3 142 rfl rfl), (uw_m3 143 rfl rfl), (uw_m3 144 rfl rfl), ⟨TX1, 8, rfl⟩, by decide +kernel⟩
set_option maxRecDepth 20000 in
theorem uv_X10_19 : ab_okV uw vwCl prg RX10 (166, 8, 2) := ⟨mX1_extend, rfl, (uw_m3 150 rfl rfl), (uw_m3 151 rfl rfl), (uw_m3 152 rfl rfl), ⟨TX1, 8, rfl⟩, by decide +kernel⟩
set_option maxRecDepth 20000 in
theorem uv_X10_20 : ab_okV uw vwCl prg RX10 (170, 9, 0) := ⟨mX1_undo, rfl, (uw_m3 167 rfl rfl), (uw_m3 168 rfl rfl), (uw_m3 169 rfl rfl), ⟨TX1, 8, rfl⟩, by decide +kernel⟩
set_option maxRecDepth 20000 in
theorem uv_X10_21 : ab_okV uw vwCl prg RX10 (188, 10, 1) := ⟨mX1_placeInOrder, rfl, (uw_m3 187 rfl rfl), (uw_m3 188 rfl rfl), (uw_m3 189 rfl rfl), ⟨TX1, 8, rfl⟩, by decide +kernel⟩
set_option maxRecDepth 20000 in
theorem uv_X10_22 : ab_okV uw vwCl prg RX10 (191, 11, 2) := ⟨mX1_neighbour, rfl, (uw_m3 195 rfl rfl), (uw_m3 196 rfl rfl), (uw_m3 197 rfl rfl), ⟨TX1, 8, rfl⟩, by decide +kernel⟩
set_option maxRecDepth 20000 in
theorem uv_X10_23 : ab_okV uw vwCl prg RX10 (194, 14, 1) := ⟨mX1_documentInOrder, rfl, (uw_m3 206 rfl rfl), (uw_m3 207 rfl rfl), (uw_m3 208 rfl rfl), ⟨TX1, 8, rfl⟩, by decide +kernel⟩
set_option maxRecDepth 20000 in
theorem uv_X10_24 : ab_okV uw vwCl prg RX10 (197, 12, 1) := ⟨mX1_placesIn, rfl, (uw_m3 223 rfl rfl), (uw_m3 224 rfl rfl), (uw_m3 225 rfl rfl), ⟨TX1, 8, rfl⟩, by decide +kernel⟩
set_option maxRecDepth 20000 in
theorem uv_X10_25 : ab_okV uw vwCl prg RX10 (200, 40, 1) := ⟨mX4_find, rfl, (uw_m3 235 rfl rfl), (uw_m3 236 rfl rfl), (uw_m3 237 rfl rfl), ⟨TX4, 5, rfl⟩, by decide +kernel⟩
set_option maxRecDepth 20000 in
theorem uv_X10_26 : ab_okV uw vwCl prg RX10 (207, 57, 1) := ⟨mX6_add, rfl, (uw_m4 12 rfl rfl), (uw_m4 13 rfl rfl), (uw_m4 14 rfl rfl), ⟨TX6, 9, rfl⟩, by decide +kernel⟩
set_option maxRecDepth 20000 in
theorem uv_X10_27 : ab_okV uw vwCl prg RX10 (210, 58, 0) := ⟨mX6_read, rfl, (uw_m4 20 rfl rfl), (uw_m4 21 rfl rfl), (uw_m4 22 rfl rfl), ⟨TX6, 9, rfl⟩, by decide +kernel⟩
set_option maxRecDepth 20000 in
theorem uv_X10_28 : ab_okV uw vwCl prg RX10 (216, 35, 0) := ⟨mX3_answerQuery, rfl, (uw_m4 109 rfl rfl), (uw_m4 110 rfl rfl), (uw_m4 111 rfl rfl), ⟨TX3, 11, rfl⟩, by decide +kernel⟩
set_option maxRecDepth 20000 in
theorem uv_X10_29 : ab_okV uw vwCl prg RX10 (222, 33, 0) := ⟨mX3_found, rfl, (uw_m4 176 rfl rfl), (uw_m4 177 rfl rfl), (uw_m4 178 rfl rfl), ⟨TX3, 11, rfl⟩, by decide +kernel⟩
set_option maxRecDepth 20000 in
theorem uv_X10_30 : ab_okV uw vwCl prg RX10 (224, 34, 2) := ⟨mX3_tellFound, rfl, (uw_m4 184 rfl rfl), (uw_m4 185 rfl rfl), (uw_m4 186 rfl rfl), ⟨TX3, 11, rfl⟩, by decide +kernel⟩
set_option maxRecDepth 20000 in
theorem uv_X10_31 : ab_okV uw vwCl prg RX10 (227, 83, 1) := ⟨mX7_howManyOf, rfl, (uw_m4 192 rfl rfl), (uw_m4 193 rfl rfl), (uw_m4 194 rfl rfl), ⟨TX7, 5, rfl⟩, by decide +kernel⟩
set_option maxRecDepth 20000 in
theorem uv_X10_32 : ab_okV uw vwCl prg RX10 (230, 84, 1) := ⟨mX7_holdInOrder, rfl, (uw_m4 209 rfl rfl), (uw_m4 210 rfl rfl), (uw_m4 211 rfl rfl), ⟨TX7, 5, rfl⟩, by decide +kernel⟩
set_option maxRecDepth 20000 in
theorem uv_X10_33 : ab_okV uw vwCl prg RX10 (233, 85, 0) := ⟨mX7_lesserThanHeld, rfl, (uw_m4 218 rfl rfl), (uw_m4 219 rfl rfl), (uw_m4 220 rfl rfl), ⟨TX7, 5, rfl⟩, by decide +kernel⟩
set_option maxRecDepth 20000 in
theorem uv_X10_34 : ab_okV uw vwCl prg RX10 (236, 86, 2) := ⟨mX7_holdLongest, rfl, (uw_m4 226 rfl rfl), (uw_m4 227 rfl rfl), (uw_m4 228 rfl rfl), ⟨TX7, 5, rfl⟩, by decide +kernel⟩
set_option maxRecDepth 20000 in
theorem uv_X10_35 : ab_okV uw vwCl prg RX10 (240, 88, 1) := ⟨mX7_holdOftenest, rfl, (uw_m5 3 rfl rfl), (uw_m5 4 rfl rfl), (uw_m5 5 rfl rfl), ⟨TX7, 5, rfl⟩, by decide +kernel⟩
set_option maxRecDepth 20000 in
theorem uv_X10_36 : ab_okV uw vwCl prg RX10 (243, 89, 1) := ⟨mX7_leastAlone, rfl, (uw_m5 11 rfl rfl), (uw_m5 12 rfl rfl), (uw_m5 13 rfl rfl), ⟨TX7, 5, rfl⟩, by decide +kernel⟩
set_option maxRecDepth 20000 in
theorem uv_X10_37 : ab_okV uw vwCl prg RX10 (246, 90, 1) := ⟨mX7_holdMaximal, rfl, (uw_m5 19 rfl rfl), (uw_m5 20 rfl rfl), (uw_m5 21 rfl rfl), ⟨TX7, 5, rfl⟩, by decide +kernel⟩
set_option maxRecDepth 20000 in
theorem uv_X10_38 : ab_okV uw vwCl prg RX10 (249, 93, 1) := ⟨mX7_howManyAbsent, rfl, (uw_m5 35 rfl rfl), (uw_m5 36 rfl rfl), (uw_m5 37 rfl rfl), ⟨TX7, 5, rfl⟩, by decide +kernel⟩
set_option maxRecDepth 20000 in
theorem uv_X10_39 : ab_okV uw vwCl prg RX10 (252, 47, 1) := ⟨mX5_factors, rfl, (uw_m5 44 rfl rfl), (uw_m5 45 rfl rfl), (uw_m5 46 rfl rfl), ⟨TX5, 7, rfl⟩, by decide +kernel⟩
set_option maxRecDepth 20000 in
theorem uv_X10_40 : ab_okV uw vwCl prg RX10 (255, 48, 3) := ⟨mX5_tellFactor, rfl, (uw_m5 49 rfl rfl), (uw_m5 50 rfl rfl), (uw_m5 51 rfl rfl), ⟨TX5, 7, rfl⟩, by decide +kernel⟩
set_option maxRecDepth 20000 in
theorem uv_X10_41 : ab_okV uw vwCl prg RX10 (259, 50, 2) := ⟨mX5_fallingWord, rfl, (uw_m5 61 rfl rfl), (uw_m5 62 rfl rfl), (uw_m5 63 rfl rfl), ⟨TX5, 7, rfl⟩, by decide +kernel⟩
set_option maxRecDepth 20000 in
theorem uv_X10_42 : ab_okV uw vwCl prg RX10 (262, 53, 1) := ⟨mX5_leastTwice, rfl, (uw_m5 77 rfl rfl), (uw_m5 78 rfl rfl), (uw_m5 79 rfl rfl), ⟨TX5, 7, rfl⟩, by decide +kernel⟩
set_option maxRecDepth 20000 in
theorem uv_X10_43 : ab_okV uw vwCl prg RX10 (265, 55, 1) := ⟨mX5_longestMirror, rfl, (uw_m5 89 rfl rfl), (uw_m5 90 rfl rfl), (uw_m5 91 rfl rfl), ⟨TX5, 7, rfl⟩, by decide +kernel⟩
set_option maxRecDepth 20000 in
theorem uv_X10_44 : ab_okV uw vwCl prg RX10 (268, 56, 2) := ⟨mX5_longestIn, rfl, (uw_m5 97 rfl rfl), (uw_m5 98 rfl rfl), (uw_m5 99 rfl rfl), ⟨TX5, 7, rfl⟩, by decide +kernel⟩
set_option maxRecDepth 20000 in
theorem uv_X10_45 : ab_okV uw vwCl prg RX10 (271, 156, 1) := ⟨mX10_countOfIndex, rfl, (uw_m5 105 rfl rfl), (uw_m5 107 rfl rfl), (uw_mem 53 (by decide +kernel) rfl), ⟨TX10, 8, rfl⟩, by decide +kernel⟩
set_option maxRecDepth 20000 in
theorem uv_X10_46 : ab_okV uw vwCl prg RX10 (274, 23, 1) := ⟨mX2_endOf, rfl, (uw_m5 121 rfl rfl), (uw_m2 218 rfl rfl), (uw_m2 219 rfl rfl), ⟨TX2, 12, rfl⟩, by decide +kernel⟩
set_option maxRecDepth 20000 in
theorem uv_X10_47 : ab_okV uw vwCl prg RX10 (287, 30, 0) := ⟨mX2_sumOfAlikes, rfl, (uw_m5 109 rfl rfl), (uw_m5 110 rfl rfl), (uw_m5 111 rfl rfl), ⟨TX2, 12, rfl⟩, by decide +kernel⟩
set_option maxRecDepth 20000 in
theorem uv_X10_48 : ab_okV uw vwCl prg RX10 (290, 31, 0) := ⟨mX2_greatestAlike, rfl, (uw_m5 113 rfl rfl), (uw_m5 114 rfl rfl), (uw_m5 115 rfl rfl), ⟨TX2, 12, rfl⟩, by decide +kernel⟩
def uvl_X10 : List ab_3 := [(75, 0, 1), (79, 1, 1), (83, 2, 0), (87, 3, 0), (93, 16, 2), (97, 80, 0), (99, 42, 0), (100, 4, 2), (107, 32, 0), (113, 21, 1), (121, 26, 1), (133, 27, 1), (139, 28, 2), (143, 29, 2), (146, 25, 1), (152, 22, 1), (158, 24, 1), (161, 20, 2), (164, 6, 0), (166, 8, 2), (170, 9, 0), (188, 10, 1), (191, 11, 2), (194, 14, 1), (197, 12, 1), (200, 40, 1), (207, 57, 1), (210, 58, 0), (216, 35, 0), (222, 33, 0), (224, 34, 2), (227, 83, 1), (230, 84, 1), (233, 85, 0), (236, 86, 2), (240, 88, 1), (243, 89, 1), (246, 90, 1), (249, 93, 1), (252, 47, 1), (255, 48, 3), (259, 50, 2), (262, 53, 1), (265, 55, 1), (268, 56, 2), (271, 156, 1), (274, 23, 1), (287, 30, 0), (290, 31, 0)]
set_option maxRecDepth 20000 in
theorem uv_X10 : ∀ q ∈ uvl_X10, ab_okV uw vwCl prg RX10 q := List.forall_mem_cons.mpr ⟨uv_X10_0, List.forall_mem_cons.mpr ⟨uv_X10_1, List.forall_mem_cons.mpr ⟨uv_X10_2, List.forall_mem_cons.mpr ⟨uv_X10_3, List.forall_mem_cons.mpr ⟨uv_X10_4, List.forall_mem_cons.mpr ⟨uv_X10_5, List.forall_mem_cons.mpr ⟨uv_X10_6, List.forall_mem_cons.mpr ⟨uv_X10_7, List.forall_mem_cons.mpr ⟨uv_X10_8, List.forall_mem_cons.mpr ⟨uv_X10_9, List.forall_mem_cons.mpr ⟨uv_X10_10, List.forall_mem_cons.mpr ⟨uv_X10_11, List.forall_mem_cons.mpr ⟨uv_X10_12, List.forall_mem_cons.mpr ⟨uv_X10_13, List.forall_mem_cons.mpr ⟨uv_X10_14, List.forall_mem_cons.mpr ⟨uv_X10_15, List.forall_mem_cons.mpr ⟨uv_X10_16, List.forall_mem_cons.mpr ⟨uv_X10_17, List.forall_mem_cons.mpr ⟨uv_X10_18, List.forall_mem_cons.mpr ⟨uv_X10_19, List.forall_mem_cons.mpr ⟨uv_X10_20, List.forall_mem_cons.mpr ⟨uv_X10_21, List.forall_mem_cons.mpr ⟨uv_X10_22, List.forall_mem_cons.mpr ⟨uv_X10_23, List.forall_mem_cons.mpr ⟨uv_X10_24, List.forall_mem_cons.mpr ⟨uv_X10_25, List.forall_mem_cons.mpr ⟨uv_X10_26, List.forall_mem_cons.mpr ⟨uv_X10_27, List.forall_mem_cons.mpr ⟨uv_X10_28, List.forall_mem_cons.mpr ⟨uv_X10_29, List.forall_mem_cons.mpr ⟨uv_X10_30, List.forall_mem_cons.mpr ⟨uv_X10_31, List.forall_mem_cons.mpr ⟨uv_X10_32, List.forall_mem_cons.mpr ⟨uv_X10_33, List.forall_mem_cons.mpr ⟨uv_X10_34, List.forall_mem_cons.mpr ⟨uv_X10_35, List.forall_mem_cons.mpr ⟨uv_X10_36, List.forall_mem_cons.mpr ⟨uv_X10_37, List.forall_mem_cons.mpr ⟨uv_X10_38, List.forall_mem_cons.mpr ⟨uv_X10_39, List.forall_mem_cons.mpr ⟨uv_X10_40, List.forall_mem_cons.mpr ⟨uv_X10_41, List.forall_mem_cons.mpr ⟨uv_X10_42, List.forall_mem_cons.mpr ⟨uv_X10_43, List.forall_mem_cons.mpr ⟨uv_X10_44, List.forall_mem_cons.mpr ⟨uv_X10_45, List.forall_mem_cons.mpr ⟨uv_X10_46, List.forall_mem_cons.mpr ⟨uv_X10_47, List.forall_mem_cons.mpr ⟨uv_X10_48, fun _ h => absurd h List.not_mem_nil⟩⟩⟩⟩⟩⟩⟩⟩⟩⟩⟩⟩⟩⟩⟩⟩⟩⟩⟩⟩⟩⟩⟩⟩⟩⟩⟩⟩⟩⟩⟩⟩⟩⟩⟩⟩⟩⟩⟩⟩⟩⟩⟩⟩⟩⟩⟩⟩⟩
set_option maxRecDepth 20000 in
theorem us_X10_0 : ab_okS uw vwCl prg RX10 (136, 157, 1) := ⟨mX10_isByte, rfl, (uw_m3 94 rfl rfl), (uw_m3 95 rfl rfl), by decide +kernel⟩
def usl_X10 : List ab_3 := [(136, 157, 1)]
set_option maxRecDepth 20000 in
theorem us_X10 : ∀ q ∈ usl_X10, ab_okS uw vwCl prg RX10 q := List.forall_mem_cons.mpr ⟨us_X10_0, fun _ h => absurd h List.not_mem_nil⟩
set_option maxRecDepth 20000 in
theorem uf_X11_0 : ab_okF uw vwCl RX11 (7, 11, 0) := ⟨RX11, TX11, 74, rfl, by decide, (uw_m5 130 rfl rfl)⟩
set_option maxRecDepth 20000 in
theorem uf_X11_1 : ab_okF uw vwCl RX11 (13, 11, 2) := ⟨RX11, TX11, 74, rfl, by decide, (uw_m5 132 rfl rfl)⟩
set_option maxRecDepth 20000 in
theorem uf_X11_2 : ab_okF uw vwCl RX11 (16, 11, 4) := ⟨RX11, TX11, 74, rfl, by decide, (uw_m5 134 rfl rfl)⟩
set_option maxRecDepth 20000 in
theorem uf_X11_3 : ab_okF uw vwCl RX11 (19, 11, 11) := ⟨RX11, TX11, 74, rfl, by decide, (uw_m5 141 rfl rfl)⟩
set_option maxRecDepth 20000 in
theorem uf_X11_4 : ab_okF uw vwCl RX11 (22, 11, 12) := ⟨RX11, TX11, 74, rfl, by decide, (uw_m5 142 rfl rfl)⟩
set_option maxRecDepth 20000 in
theorem uf_X11_5 : ab_okF uw vwCl RX11 (25, 11, 13) := ⟨RX11, TX11, 74, rfl, by decide, (uw_m5 143 rfl rfl)⟩
set_option maxRecDepth 20000 in
theorem uf_X11_6 : ab_okF uw vwCl RX11 (28, 11, 14) := ⟨RX11, TX11, 74, rfl, by decide, (uw_m5 144 rfl rfl)⟩
set_option maxRecDepth 20000 in
theorem uf_X11_7 : ab_okF uw vwCl RX11 (31, 11, 15) := ⟨RX11, TX11, 74, rfl, by decide, (uw_m5 145 rfl rfl)⟩
set_option maxRecDepth 20000 in
theorem uf_X11_8 : ab_okF uw vwCl RX11 (34, 11, 16) := ⟨RX11, TX11, 74, rfl, by decide, (uw_m5 146 rfl rfl)⟩
set_option maxRecDepth 20000 in
theorem uf_X11_9 : ab_okF uw vwCl RX11 (37, 11, 17) := ⟨RX11, TX11, 74, rfl, by decide, (uw_m5 147 rfl rfl)⟩
set_option maxRecDepth 20000 in
theorem uf_X11_10 : ab_okF uw vwCl RX11 (40, 11, 18) := ⟨RX11, TX11, 74, rfl, by decide, (uw_m5 148 rfl rfl)⟩
set_option maxRecDepth 20000 in
theorem uf_X11_11 : ab_okF uw vwCl RX11 (43, 11, 19) := ⟨RX11, TX11, 74, rfl, by decide, (uw_m5 149 rfl rfl)⟩
set_option maxRecDepth 20000 in
theorem uf_X11_12 : ab_okF uw vwCl RX11 (46, 11, 20) := ⟨RX11, TX11, 74, rfl, by decide, (uw_m5 150 rfl rfl)⟩
set_option maxRecDepth 20000 in
theorem uf_X11_13 : ab_okF uw vwCl RX11 (49, 11, 21) := ⟨RX11, TX11, 74, rfl, by decide, (uw_m5 151 rfl rfl)⟩
set_option maxRecDepth 20000 in
theorem uf_X11_14 : ab_okF uw vwCl RX11 (52, 11, 25) := ⟨RX11, TX11, 74, rfl, by decide, (uw_m5 155 rfl rfl)⟩
set_option maxRecDepth 20000 in
theorem uf_X11_15 : ab_okF uw vwCl RX11 (56, 11, 27) := ⟨RX11, TX11, 74, rfl, by decide, (uw_m5 157 rfl rfl)⟩
set_option maxRecDepth 20000 in
theorem uf_X11_16 : ab_okF uw vwCl RX11 (59, 11, 28) := ⟨RX11, TX11, 74, rfl, by decide, (uw_m5 158 rfl rfl)⟩
set_option maxRecDepth 20000 in
theorem uf_X11_17 : ab_okF uw vwCl RX11 (62, 11, 30) := ⟨RX11, TX11, 74, rfl, by decide, (uw_m5 160 rfl rfl)⟩
set_option maxRecDepth 20000 in
theorem uf_X11_18 : ab_okF uw vwCl RX11 (65, 11, 34) := ⟨RX11, TX11, 74, rfl, by decide, (uw_m5 164 rfl rfl)⟩
set_option maxRecDepth 20000 in
theorem uf_X11_19 : ab_okF uw vwCl RX11 (68, 11, 35) := ⟨RX11, TX11, 74, rfl, by decide, (uw_m5 165 rfl rfl)⟩
set_option maxRecDepth 20000 in
theorem uf_X11_20 : ab_okF uw vwCl RX11 (71, 11, 36) := ⟨RX11, TX11, 74, rfl, by decide, (uw_m5 166 rfl rfl)⟩
set_option maxRecDepth 20000 in
theorem uf_X11_21 : ab_okF uw vwCl RX11 (74, 11, 39) := ⟨RX11, TX11, 74, rfl, by decide, (uw_m5 169 rfl rfl)⟩
set_option maxRecDepth 20000 in
theorem uf_X11_22 : ab_okF uw vwCl RX11 (78, 11, 40) := ⟨RX11, TX11, 74, rfl, by decide, (uw_m5 170 rfl rfl)⟩
set_option maxRecDepth 20000 in
theorem uf_X11_23 : ab_okF uw vwCl RX11 (81, 11, 41) := ⟨RX11, TX11, 74, rfl, by decide, (uw_m5 171 rfl rfl)⟩
set_option maxRecDepth 20000 in
theorem uf_X11_24 : ab_okF uw vwCl RX11 (84, 11, 42) := ⟨RX11, TX11, 74, rfl, by decide, (uw_m5 172 rfl rfl)⟩
set_option maxRecDepth 20000 in
theorem uf_X11_25 : ab_okF uw vwCl RX11 (87, 11, 43) := ⟨RX11, TX11, 74, rfl, by decide, (uw_m5 173 rfl rfl)⟩
set_option maxRecDepth 20000 in
theorem uf_X11_26 : ab_okF uw vwCl RX11 (90, 11, 44) := ⟨RX11, TX11, 74, rfl, by decide, (uw_m5 174 rfl rfl)⟩
set_option maxRecDepth 20000 in
theorem uf_X11_27 : ab_okF uw vwCl RX11 (94, 11, 47) := ⟨RX11, TX11, 74, rfl, by decide, (uw_m5 177 rfl rfl)⟩
set_option maxRecDepth 20000 in
theorem uf_X11_28 : ab_okF uw vwCl RX11 (97, 11, 49) := ⟨RX11, TX11, 74, rfl, by decide, (uw_m5 179 rfl rfl)⟩
set_option maxRecDepth 20000 in
theorem uf_X11_29 : ab_okF uw vwCl RX11 (100, 11, 51) := ⟨RX11, TX11, 74, rfl, by decide, (uw_m5 181 rfl rfl)⟩
set_option maxRecDepth 20000 in
theorem uf_X11_30 : ab_okF uw vwCl RX11 (103, 11, 54) := ⟨RX11, TX11, 74, rfl, by decide, (uw_m5 184 rfl rfl)⟩
set_option maxRecDepth 20000 in
theorem uf_X11_31 : ab_okF uw vwCl RX11 (106, 11, 56) := ⟨RX11, TX11, 74, rfl, by decide, (uw_m5 186 rfl rfl)⟩
set_option maxRecDepth 20000 in
theorem uf_X11_32 : ab_okF uw vwCl RX11 (109, 11, 57) := ⟨RX11, TX11, 74, rfl, by decide, (uw_m5 187 rfl rfl)⟩
set_option maxRecDepth 20000 in
theorem uf_X11_33 : ab_okF uw vwCl RX11 (112, 11, 58) := ⟨RX11, TX11, 74, rfl, by decide, (uw_m5 188 rfl rfl)⟩
set_option maxRecDepth 20000 in
theorem uf_X11_34 : ab_okF uw vwCl RX11 (115, 11, 59) := ⟨RX11, TX11, 74, rfl, by decide, (uw_m5 189 rfl rfl)⟩
set_option maxRecDepth 20000 in
theorem uf_X11_35 : ab_okF uw vwCl RX11 (118, 11, 60) := ⟨RX11, TX11, 74, rfl, by decide, (uw_m5 190 rfl rfl)⟩
set_option maxRecDepth 20000 in
theorem uf_X11_36 : ab_okF uw vwCl RX11 (121, 11, 61) := ⟨RX11, TX11, 74, rfl, by decide, (uw_m5 191 rfl rfl)⟩
set_option maxRecDepth 20000 in
theorem uf_X11_37 : ab_okF uw vwCl RX11 (124, 11, 62) := ⟨RX11, TX11, 74, rfl, by decide, (uw_m5 192 rfl rfl)⟩
set_option maxRecDepth 20000 in
theorem uf_X11_38 : ab_okF uw vwCl RX11 (127, 11, 63) := ⟨RX11, TX11, 74, rfl, by decide, (uw_m5 193 rfl rfl)⟩
set_option maxRecDepth 20000 in
theorem uf_X11_39 : ab_okF uw vwCl RX11 (130, 11, 64) := ⟨RX11, TX11, 74, rfl, by decide, (uw_m5 194 rfl rfl)⟩
set_option maxRecDepth 20000 in
theorem uf_X11_40 : ab_okF uw vwCl RX11 (133, 11, 65) := ⟨RX11, TX11, 74, rfl, by decide, (uw_m5 195 rfl rfl)⟩
set_option maxRecDepth 20000 in
theorem uf_X11_41 : ab_okF uw vwCl RX11 (136, 11, 66) := ⟨RX11, TX11, 74, rfl, by decide, (uw_m5 196 rfl rfl)⟩
set_option maxRecDepth 20000 in
theorem uf_X11_42 : ab_okF uw vwCl RX11 (140, 11, 67) := ⟨RX11, TX11, 74, rfl, by decide, (uw_m5 197 rfl rfl)⟩
set_option maxRecDepth 20000 in
theorem uf_X11_43 : ab_okF uw vwCl RX11 (143, 11, 68) := ⟨RX11, TX11, 74, rfl, by decide, (uw_m5 198 rfl rfl)⟩
set_option maxRecDepth 20000 in
theorem uf_X11_44 : ab_okF uw vwCl RX11 (146, 11, 69) := ⟨RX11, TX11, 74, rfl, by decide, (uw_m5 199 rfl rfl)⟩
set_option maxRecDepth 20000 in
theorem uf_X11_45 : ab_okF uw vwCl RX11 (149, 11, 72) := ⟨RX11, TX11, 74, rfl, by decide, (uw_m5 202 rfl rfl)⟩
set_option maxRecDepth 20000 in
theorem uf_X11_46 : ab_okF uw vwCl RX11 (152, 11, 73) := ⟨RX11, TX11, 74, rfl, by decide, (uw_m5 203 rfl rfl)⟩
set_option maxRecDepth 20000 in
theorem uf_X11_47 : ab_okF uw vwCl RX11 (155, 11, 5) := ⟨RX11, TX11, 74, rfl, by decide, (uw_m5 135 rfl rfl)⟩
set_option maxRecDepth 20000 in
theorem uf_X11_48 : ab_okF uw vwCl RX11 (159, 11, 3) := ⟨RX11, TX11, 74, rfl, by decide, (uw_m5 133 rfl rfl)⟩
set_option maxRecDepth 20000 in
theorem uf_X11_49 : ab_okF uw vwCl RX11 (162, 11, 1) := ⟨RX11, TX11, 74, rfl, by decide, (uw_m5 131 rfl rfl)⟩
set_option maxRecDepth 20000 in
theorem uf_X11_50 : ab_okF uw vwCl RX11 (165, 11, 7) := ⟨RX11, TX11, 74, rfl, by decide, (uw_m5 137 rfl rfl)⟩
set_option maxRecDepth 20000 in
theorem uf_X11_51 : ab_okF uw vwCl RX11 (176, 11, 6) := ⟨RX11, TX11, 74, rfl, by decide, (uw_m5 136 rfl rfl)⟩
set_option maxRecDepth 20000 in
theorem uf_X11_52 : ab_okF uw vwCl RX11 (180, 11, 9) := ⟨RX11, TX11, 74, rfl, by decide, (uw_m5 139 rfl rfl)⟩
set_option maxRecDepth 20000 in
theorem uf_X11_53 : ab_okF uw vwCl RX11 (183, 11, 8) := ⟨RX11, TX11, 74, rfl, by decide, (uw_m5 138 rfl rfl)⟩
set_option maxRecDepth 20000 in
theorem uf_X11_54 : ab_okF uw vwCl RX11 (195, 11, 29) := ⟨RX11, TX11, 74, rfl, by decide, (uw_m5 159 rfl rfl)⟩
set_option maxRecDepth 20000 in
theorem uf_X11_55 : ab_okF uw vwCl RX11 (198, 11, 32) := ⟨RX11, TX11, 74, rfl, by decide, (uw_m5 162 rfl rfl)⟩
set_option maxRecDepth 20000 in
theorem uf_X11_56 : ab_okF uw vwCl RX11 (201, 11, 33) := ⟨RX11, TX11, 74, rfl, by decide, (uw_m5 163 rfl rfl)⟩
set_option maxRecDepth 20000 in
theorem uf_X11_57 : ab_okF uw vwCl RX11 (204, 11, 10) := ⟨RX11, TX11, 74, rfl, by decide, (uw_m5 140 rfl rfl)⟩
set_option maxRecDepth 20000 in
theorem uf_X11_58 : ab_okF uw vwCl RX11 (207, 11, 71) := ⟨RX11, TX11, 74, rfl, by decide, (uw_m5 201 rfl rfl)⟩
set_option maxRecDepth 20000 in
theorem uf_X11_59 : ab_okF uw vwCl RX11 (233, 11, 22) := ⟨RX11, TX11, 74, rfl, by decide, (uw_m5 152 rfl rfl)⟩
set_option maxRecDepth 20000 in
theorem uf_X11_60 : ab_okF uw vwCl RX11 (236, 11, 23) := ⟨RX11, TX11, 74, rfl, by decide, (uw_m5 153 rfl rfl)⟩
set_option maxRecDepth 20000 in
theorem uf_X11_61 : ab_okF uw vwCl RX11 (239, 11, 24) := ⟨RX11, TX11, 74, rfl, by decide, (uw_m5 154 rfl rfl)⟩
set_option maxRecDepth 20000 in
theorem uf_X11_62 : ab_okF uw vwCl RX11 (242, 11, 26) := ⟨RX11, TX11, 74, rfl, by decide, (uw_m5 156 rfl rfl)⟩
set_option maxRecDepth 20000 in
theorem uf_X11_63 : ab_okF uw vwCl RX11 (261, 11, 31) := ⟨RX11, TX11, 74, rfl, by decide, (uw_m5 161 rfl rfl)⟩
set_option maxRecDepth 20000 in
theorem uf_X11_64 : ab_okF uw vwCl RX11 (264, 11, 38) := ⟨RX11, TX11, 74, rfl, by decide, (uw_m5 168 rfl rfl)⟩
set_option maxRecDepth 20000 in
theorem uf_X11_65 : ab_okF uw vwCl RX11 (267, 11, 37) := ⟨RX11, TX11, 74, rfl, by decide, (uw_m5 167 rfl rfl)⟩
set_option maxRecDepth 20000 in
theorem uf_X11_66 : ab_okF uw vwCl RX11 (283, 11, 45) := ⟨RX11, TX11, 74, rfl, by decide, (uw_m5 175 rfl rfl)⟩
set_option maxRecDepth 20000 in
theorem uf_X11_67 : ab_okF uw vwCl RX11 (286, 11, 46) := ⟨RX11, TX11, 74, rfl, by decide, (uw_m5 176 rfl rfl)⟩
set_option maxRecDepth 20000 in
theorem uf_X11_68 : ab_okF uw vwCl RX11 (289, 11, 52) := ⟨RX11, TX11, 74, rfl, by decide, (uw_m5 182 rfl rfl)⟩
set_option maxRecDepth 20000 in
theorem uf_X11_69 : ab_okF uw vwCl RX11 (295, 11, 48) := ⟨RX11, TX11, 74, rfl, by decide, (uw_m5 178 rfl rfl)⟩
set_option maxRecDepth 20000 in
theorem uf_X11_70 : ab_okF uw vwCl RX11 (302, 11, 53) := ⟨RX11, TX11, 74, rfl, by decide, (uw_m5 183 rfl rfl)⟩
set_option maxRecDepth 20000 in
theorem uf_X11_71 : ab_okF uw vwCl RX11 (308, 11, 50) := ⟨RX11, TX11, 74, rfl, by decide, (uw_m5 180 rfl rfl)⟩
set_option maxRecDepth 20000 in
theorem uf_X11_72 : ab_okF uw vwCl RX11 (343, 11, 55) := ⟨RX11, TX11, 74, rfl, by decide, (uw_m5 185 rfl rfl)⟩
set_option maxRecDepth 20000 in
theorem uf_X11_73 : ab_okF uw vwCl RX11 (375, 11, 70) := ⟨RX11, TX11, 74, rfl, by decide, (uw_m5 200 rfl rfl)⟩
def ufl_X11 : List ab_3 := [(7, 11, 0), (13, 11, 2), (16, 11, 4), (19, 11, 11), (22, 11, 12), (25, 11, 13), (28, 11, 14), (31, 11, 15), (34, 11, 16), (37, 11, 17), (40, 11, 18), (43, 11, 19), (46, 11, 20), (49, 11, 21), (52, 11, 25), (56, 11, 27), (59, 11, 28), (62, 11, 30), (65, 11, 34), (68, 11, 35), (71, 11, 36), (74, 11, 39), (78, 11, 40), (81, 11, 41), (84, 11, 42), (87, 11, 43), (90, 11, 44), (94, 11, 47), (97, 11, 49), (100, 11, 51), (103, 11, 54), (106, 11, 56), (109, 11, 57), (112, 11, 58), (115, 11, 59), (118, 11, 60), (121, 11, 61), (124, 11, 62), (127, 11, 63), (130, 11, 64), (133, 11, 65), (136, 11, 66), (140, 11, 67), (143, 11, 68), (146, 11, 69), (149, 11, 72), (152, 11, 73), (155, 11, 5), (159, 11, 3), (162, 11, 1), (165, 11, 7), (176, 11, 6), (180, 11, 9), (183, 11, 8), (195, 11, 29), (198, 11, 32), (201, 11, 33), (204, 11, 10), (207, 11, 71), (233, 11, 22), (236, 11, 23), (239, 11, 24), (242, 11, 26), (261, 11, 31), (264, 11, 38), (267, 11, 37), (283, 11, 45), (286, 11, 46), (289, 11, 52), (295, 11, 48), (302, 11, 53), (308, 11, 50), (343, 11, 55), (375, 11, 70)]
set_option maxRecDepth 20000 in
theorem uf_X11 : ∀ q ∈ ufl_X11, ab_okF uw vwCl RX11 q := List.forall_mem_cons.mpr ⟨uf_X11_0, List.forall_mem_cons.mpr ⟨uf_X11_1, List.forall_mem_cons.mpr ⟨uf_X11_2, List.forall_mem_cons.mpr ⟨uf_X11_3, List.forall_mem_cons.mpr ⟨uf_X11_4, List.forall_mem_cons.mpr ⟨uf_X11_5, List.forall_mem_cons.mpr ⟨uf_X11_6, List.forall_mem_cons.mpr ⟨uf_X11_7, List.forall_mem_cons.mpr ⟨uf_X11_8, List.forall_mem_cons.mpr ⟨uf_X11_9, List.forall_mem_cons.mpr ⟨uf_X11_10, List.forall_mem_cons.mpr ⟨uf_X11_11, List.forall_mem_cons.mpr ⟨uf_X11_12, List.forall_mem_cons.mpr ⟨uf_X11_13, List.forall_mem_cons.mpr ⟨uf_X11_14, List.forall_mem_cons.mpr ⟨uf_X11_15, List.forall_mem_cons.mpr ⟨uf_X11_16, List.forall_mem_cons.mpr ⟨uf_X11_17, List.forall_mem_cons.mpr ⟨uf_X11_18, List.forall_mem_cons.mpr ⟨uf_X11_19, List.forall_mem_cons.mpr ⟨uf_X11_20, List.forall_mem_cons.mpr ⟨uf_X11_21, List.forall_mem_cons.mpr ⟨uf_X11_22, List.forall_mem_cons.mpr ⟨uf_X11_23, List.forall_mem_cons.mpr ⟨uf_X11_24, List.forall_mem_cons.mpr ⟨uf_X11_25, List.forall_mem_cons.mpr ⟨uf_X11_26, List.forall_mem_cons.mpr ⟨uf_X11_27, List.forall_mem_cons.mpr ⟨uf_X11_28, List.forall_mem_cons.mpr ⟨uf_X11_29, List.forall_mem_cons.mpr ⟨uf_X11_30, List.forall_mem_cons.mpr ⟨uf_X11_31, List.forall_mem_cons.mpr ⟨uf_X11_32, List.forall_mem_cons.mpr ⟨uf_X11_33, List.forall_mem_cons.mpr ⟨uf_X11_34, List.forall_mem_cons.mpr ⟨uf_X11_35, List.forall_mem_cons.mpr ⟨uf_X11_36, List.forall_mem_cons.mpr ⟨uf_X11_37, List.forall_mem_cons.mpr ⟨uf_X11_38, List.forall_mem_cons.mpr ⟨uf_X11_39, List.forall_mem_cons.mpr ⟨uf_X11_40, List.forall_mem_cons.mpr ⟨uf_X11_41, List.forall_mem_cons.mpr ⟨uf_X11_42, List.forall_mem_cons.mpr ⟨uf_X11_43, List.forall_mem_cons.mpr ⟨uf_X11_44, List.forall_mem_cons.mpr ⟨uf_X11_45, List.forall_mem_cons.mpr ⟨uf_X11_46, List.forall_mem_cons.mpr ⟨uf_X11_47, List.forall_mem_cons.mpr ⟨uf_X11_48, List.forall_mem_cons.mpr ⟨uf_X11_49, List.forall_mem_cons.mpr ⟨uf_X11_50, List.forall_mem_cons.mpr ⟨uf_X11_51, List.forall_mem_cons.mpr ⟨uf_X11_52, List.forall_mem_cons.mpr ⟨uf_X11_53, List.forall_mem_cons.mpr ⟨uf_X11_54, List.forall_mem_cons.mpr ⟨uf_X11_55, List.forall_mem_cons.mpr ⟨uf_X11_56, List.forall_mem_cons.mpr ⟨uf_X11_57, List.forall_mem_cons.mpr ⟨uf_X11_58, List.forall_mem_cons.mpr ⟨uf_X11_59, List.forall_mem_cons.mpr ⟨uf_X11_60, List.forall_mem_cons.mpr ⟨uf_X11_61, List.forall_mem_cons.mpr ⟨uf_X11_62, List.forall_mem_cons.mpr ⟨uf_X11_63, List.forall_mem_cons.mpr ⟨uf_X11_64, List.forall_mem_cons.mpr ⟨uf_X11_65, List.forall_mem_cons.mpr ⟨uf_X11_66, List.forall_mem_cons.mpr ⟨uf_X11_67, List.forall_mem_cons.mpr ⟨uf_X11_68, List.forall_mem_cons.mpr ⟨uf_X11_69, List.forall_mem_cons.mpr ⟨uf_X11_70, List.forall_mem_cons.mpr ⟨uf_X11_71, List.forall_mem_cons.mpr ⟨uf_X11_72, List.forall_mem_cons.mpr ⟨uf_X11_73, fun _ h => absurd h List.not_mem_nil⟩⟩⟩⟩⟩⟩⟩⟩⟩⟩⟩⟩⟩⟩⟩⟩⟩⟩⟩⟩⟩⟩⟩⟩⟩⟩⟩⟩⟩⟩⟩⟩⟩⟩⟩⟩⟩⟩⟩⟩⟩⟩⟩⟩⟩⟩⟩⟩⟩⟩⟩⟩⟩⟩⟩⟩⟩⟩⟩⟩⟩⟩⟩⟩⟩⟩⟩⟩⟩⟩⟩⟩⟩⟩
set_option maxRecDepth 20000 in
theorem uk_X11_0 : ab_okK uw RX11 (298, 59990, 0) := (uw_m7 101 rfl rfl)
set_option maxRecDepth 20000 in
theorem uk_X11_1 : ab_okK uw RX11 (334, 1000000, 2) := (uw_m7 92 rfl rfl)
set_option maxRecDepth 20000 in
theorem uk_X11_2 : ab_okK uw RX11 (358, 120, 2) := (uw_m7 130 rfl rfl)
def ukl_X11 : List ab_3 := [(298, 59990, 0), (334, 1000000, 2), (358, 120, 2)]
set_option maxRecDepth 20000 in
theorem uk_X11 : ∀ q ∈ ukl_X11, ab_okK uw RX11 q := List.forall_mem_cons.mpr ⟨uk_X11_0, List.forall_mem_cons.mpr ⟨uk_X11_1, List.forall_mem_cons.mpr ⟨uk_X11_2, fun _ h => absurd h List.not_mem_nil⟩⟩⟩
set_option maxRecDepth 20000 in
theorem uv_X11_0 : ab_okV uw vwCl prg RX11 (168, 162, 1) := ⟨mX11_keyAt, rfl, (uw_m6 141 rfl rfl), (uw_m6 143 rfl rfl), (uw_mem 56 (by decide +kernel) rfl), ⟨TX11, 74, rfl⟩, by decide +kernel⟩
set_option maxRecDepth 20000 in
theorem uv_X11_1 : ab_okV uw vwCl prg RX11 (172, 163, 1) := ⟨mX11_sortBy, rfl, (uw_m6 137 rfl rfl), (uw_m6 139 rfl rfl), (uw_mem 55 (by decide +kernel) rfl), ⟨TX11, 74, rfl⟩, by decide +kernel⟩
set_option maxRecDepth 20000 in
theorem uv_X11_2 : ab_okV uw vwCl prg RX11 (186, 164, 0) := ⟨mX11_sortAll, rfl, (uw_m6 133 rfl rfl), (uw_m6 135 rfl rfl), (uw_mem 54 (by decide +kernel) rfl), ⟨TX11, 74, rfl⟩, by decide +kernel⟩
set_option maxRecDepth 20000 in
theorem uv_X11_3 : ab_okV uw vwCl prg RX11 (189, 165, 0) := ⟨mX11_findShares, rfl, (uw_m6 145 rfl rfl), (uw_m6 147 rfl rfl), (uw_mem 57 (by decide +kernel) rfl), ⟨TX11, 74, rfl⟩, by decide +kernel⟩
set_option maxRecDepth 20000 in
theorem uv_X11_4 : ab_okV uw vwCl prg RX11 (192, 184, 0) := ⟨mX11_toEmpty, rfl, (uw_m6 149 rfl rfl), (uw_m6 151 rfl rfl), (uw_mem 58 (by decide +kernel) rfl), ⟨TX11, 74, rfl⟩, by decide +kernel⟩
set_option maxRecDepth 20000 in
theorem uv_X11_5 : ab_okV uw vwCl prg RX11 (210, 167, 1) := ⟨mX11_isRow, rfl, (uw_m6 157 rfl rfl), (uw_m6 159 rfl rfl), (uw_mem 59 (by decide +kernel) rfl), ⟨TX11, 74, rfl⟩, by decide +kernel⟩
set_option maxRecDepth 20000 in
theorem uv_X11_6 : ab_okV uw vwCl prg RX11 (214, 171, 1) := ⟨mX11_stepsOf, rfl, (uw_m6 161 rfl rfl), (uw_m6 163 rfl rfl), (uw_mem 60 (by decide +kernel) rfl), ⟨TX11, 74, rfl⟩, by decide +kernel⟩
set_option maxRecDepth 20000 in
theorem uv_X11_7 : ab_okV uw vwCl prg RX11 (217, 175, 1) := ⟨mX11_beforeOf, rfl, (uw_m6 177 rfl rfl), (uw_m6 179 rfl rfl), (uw_mem 61 (by decide +kernel) rfl), ⟨TX11, 74, rfl⟩, by decide +kernel⟩
set_option maxRecDepth 20000 in
theorem uv_X11_8 : ab_okV uw vwCl prg RX11 (223, 168, 1) := ⟨mX11_isDocument, rfl, (uw_m6 204 rfl rfl), (uw_m6 206 rfl rfl), (uw_mem 62 (by decide +kernel) rfl), ⟨TX11, 74, rfl⟩, by decide +kernel⟩
set_option maxRecDepth 20000 in
theorem uv_X11_9 : ab_okV uw vwCl prg RX11 (226, 170, 1) := ⟨mX11_left, rfl, (uw_m6 216 rfl rfl), (uw_m6 218 rfl rfl), (uw_mem 64 (by decide +kernel) rfl), ⟨TX11, 74, rfl⟩, by decide +kernel⟩
set_option maxRecDepth 20000 in
theorem uv_X11_10 : ab_okV uw vwCl prg RX11 (229, 182, 2) := ⟨mX11_alikeOf, rfl, (uw_m6 212 rfl rfl), (uw_m6 214 rfl rfl), (uw_mem 63 (by decide +kernel) rfl), ⟨TX11, 74, rfl⟩, by decide +kernel⟩
set_option maxRecDepth 20000 in
theorem uv_X11_11 : ab_okV uw vwCl prg RX11 (245, 186, 2) := ⟨mX11_findRows, rfl, (uw_m6 236 rfl rfl), (uw_m6 238 rfl rfl), (uw_mem 65 (by decide +kernel) rfl), ⟨TX11, 74, rfl⟩, by decide +kernel⟩
set_option maxRecDepth 20000 in
theorem uv_X11_12 : ab_okV uw vwCl prg RX11 (249, 172, 1) := ⟨mX11_place, rfl, (uw_m7 12 rfl rfl), (uw_m6 154 rfl rfl), (uw_m6 155 rfl rfl), ⟨TX11, 74, rfl⟩, by decide +kernel⟩
set_option maxRecDepth 20000 in
theorem uv_X11_13 : ab_okV uw vwCl prg RX11 (252, 194, 1) := ⟨mX11_isAt, rfl, (uw_m7 17 rfl rfl), (uw_m7 19 rfl rfl), (uw_mem 66 (by decide +kernel) rfl), ⟨TX11, 74, rfl⟩, by decide +kernel⟩
set_option maxRecDepth 20000 in
theorem uv_X11_14 : ab_okV uw vwCl prg RX11 (255, 197, 1) := ⟨mX11_timesOf, rfl, (uw_m7 29 rfl rfl), (uw_m7 31 rfl rfl), (uw_mem 67 (by decide +kernel) rfl), ⟨TX11, 74, rfl⟩, by decide +kernel⟩
set_option maxRecDepth 20000 in
theorem uv_X11_15 : ab_okV uw vwCl prg RX11 (258, 187, 2) := ⟨mX11_become, rfl, (uw_m7 41 rfl rfl), (uw_m7 43 rfl rfl), (uw_mem 68 (by decide +kernel) rfl), ⟨TX11, 74, rfl⟩, by decide +kernel⟩
set_option maxRecDepth 20000 in
theorem uv_X11_16 : ab_okV uw vwCl prg RX11 (270, 204, 0) := ⟨mX11_sign, rfl, (uw_m7 69 rfl rfl), (uw_m7 71 rfl rfl), (uw_mem 71 (by decide +kernel) rfl), ⟨TX11, 74, rfl⟩, by decide +kernel⟩
set_option maxRecDepth 20000 in
theorem uv_X11_17 : ab_okV uw vwCl prg RX11 (277, 205, 1) := ⟨mX11_fail, rfl, (uw_m7 73 rfl rfl), (uw_m7 75 rfl rfl), (uw_mem 72 (by decide +kernel) rfl), ⟨TX11, 74, rfl⟩, by decide +kernel⟩
set_option maxRecDepth 20000 in
theorem uv_X11_18 : ab_okV uw vwCl prg RX11 (280, 207, 0) := ⟨mX11_number, rfl, (uw_m7 85 rfl rfl), (uw_m7 87 rfl rfl), (uw_mem 75 (by decide +kernel) rfl), ⟨TX11, 74, rfl⟩, by decide +kernel⟩
set_option maxRecDepth 20000 in
theorem uv_X11_19 : ab_okV uw vwCl prg RX11 (292, 209, 0) := ⟨mX11_rangeByte, rfl, (uw_m7 126 rfl rfl), (uw_m7 128 rfl rfl), (uw_mem 84 (by decide +kernel) rfl), ⟨TX11, 74, rfl⟩, by decide +kernel⟩
set_option maxRecDepth 20000 in
theorem uv_X11_20 : ab_okV uw vwCl prg RX11 (299, 212, 1) := ⟨mX11_addMade, rfl, (uw_m7 97 rfl rfl), (uw_m7 99 rfl rfl), (uw_mem 77 (by decide +kernel) rfl), ⟨TX11, 74, rfl⟩, by decide +kernel⟩
set_option maxRecDepth 20000 in
theorem uv_X11_21 : ab_okV uw vwCl prg RX11 (305, 216, 2) := ⟨mX11_again, rfl, (uw_m7 102 rfl rfl), (uw_m7 104 rfl rfl), (uw_mem 78 (by decide +kernel) rfl), ⟨TX11, 74, rfl⟩, by decide +kernel⟩
set_option maxRecDepth 20000 in
theorem uv_X11_22 : ab_okV uw vwCl prg RX11 (311, 211, 1) := ⟨mX11_openOne, rfl, (uw_m7 65 rfl rfl), (uw_m7 67 rfl rfl), (uw_mem 70 (by decide +kernel) rfl), ⟨TX11, 74, rfl⟩, by decide +kernel⟩
set_option maxRecDepth 20000 in
theorem uv_X11_23 : ab_okV uw vwCl prg RX11 (314, 219, 3) := ⟨mX11_quantify, rfl, (uw_m7 77 rfl rfl), (uw_m7 79 rfl rfl), (uw_mem 73 (by decide +kernel) rfl), ⟨TX11, 74, rfl⟩, by decide +kernel⟩
set_option maxRecDepth 20000 in
theorem uv_X11_24 : ab_okV uw vwCl prg RX11 (318, 215, 1) := ⟨mX11_endItem, rfl, (uw_m7 106 rfl rfl), (uw_m7 108 rfl rfl), (uw_mem 79 (by decide +kernel) rfl), ⟨TX11, 74, rfl⟩, by decide +kernel⟩
set_option maxRecDepth 20000 in
theorem uv_X11_25 : ab_okV uw vwCl prg RX11 (321, 213, 1) := ⟨mX11_endRow, rfl, (uw_m7 110 rfl rfl), (uw_m7 112 rfl rfl), (uw_mem 80 (by decide +kernel) rfl), ⟨TX11, 74, rfl⟩, by decide +kernel⟩
set_option maxRecDepth 20000 in
theorem uv_X11_26 : ab_okV uw vwCl prg RX11 (324, 214, 3) := ⟨mX11_begunAtom, rfl, (uw_m7 114 rfl rfl), (uw_m7 116 rfl rfl), (uw_mem 81 (by decide +kernel) rfl), ⟨TX11, 74, rfl⟩, by decide +kernel⟩
set_option maxRecDepth 20000 in
theorem uv_X11_27 : ab_okV uw vwCl prg RX11 (328, 220, 3) := ⟨mX11_atom, rfl, (uw_m7 118 rfl rfl), (uw_m7 120 rfl rfl), (uw_mem 82 (by decide +kernel) rfl), ⟨TX11, 74, rfl⟩, by decide +kernel⟩
set_option maxRecDepth 20000 in
theorem uv_X11_28 : ab_okV uw vwCl prg RX11 (331, 208, 0) := ⟨mX11_braces, rfl, (uw_m7 81 rfl rfl), (uw_m7 83 rfl rfl), (uw_mem 74 (by decide +kernel) rfl), ⟨TX11, 74, rfl⟩, by decide +kernel⟩
set_option maxRecDepth 20000 in
theorem uv_X11_29 : ab_okV uw vwCl prg RX11 (336, 217, 3) := ⟨mX11_repeat, rfl, (uw_m7 93 rfl rfl), (uw_m7 95 rfl rfl), (uw_mem 76 (by decide +kernel) rfl), ⟨TX11, 74, rfl⟩, by decide +kernel⟩
set_option maxRecDepth 20000 in
theorem uv_X11_30 : ab_okV uw vwCl prg RX11 (340, 210, 0) := ⟨mX11_ranges, rfl, (uw_m7 122 rfl rfl), (uw_m7 124 rfl rfl), (uw_mem 83 (by decide +kernel) rfl), ⟨TX11, 74, rfl⟩, by decide +kernel⟩
set_option maxRecDepth 20000 in
theorem uv_X11_31 : ab_okV uw vwCl prg RX11 (346, 221, 4) := ⟨mX11_follow, rfl, (uw_m7 135 rfl rfl), (uw_m7 137 rfl rfl), (uw_mem 86 (by decide +kernel) rfl), ⟨TX11, 74, rfl⟩, by decide +kernel⟩
set_option maxRecDepth 20000 in
theorem uv_X11_32 : ab_okV uw vwCl prg RX11 (350, 223, 2) := ⟨mX11_fits, rfl, (uw_m7 143 rfl rfl), (uw_m7 145 rfl rfl), (uw_mem 88 (by decide +kernel) rfl), ⟨TX11, 74, rfl⟩, by decide +kernel⟩
set_option maxRecDepth 20000 in
theorem uv_X11_33 : ab_okV uw vwCl prg RX11 (354, 218, 1) := ⟨mX11_goOver, rfl, (uw_m7 61 rfl rfl), (uw_m7 63 rfl rfl), (uw_mem 69 (by decide +kernel) rfl), ⟨TX11, 74, rfl⟩, by decide +kernel⟩
set_option maxRecDepth 20000 in
theorem uv_X11_34 : ab_okV uw vwCl prg RX11 (360, 222, 0) := ⟨mX11_findPositions, rfl, (uw_m7 131 rfl rfl), (uw_m7 133 rfl rfl), (uw_mem 85 (by decide +kernel) rfl), ⟨TX11, 74, rfl⟩, by decide +kernel⟩
set_option maxRecDepth 20000 in
theorem uv_X11_35 : ab_okV uw vwCl prg RX11 (363, 224, 1) := ⟨mX11_matchFrom, rfl, (uw_m7 139 rfl rfl), (uw_m7 141 rfl rfl), (uw_mem 87 (by decide +kernel) rfl), ⟨TX11, 74, rfl⟩, by decide +kernel⟩
set_option maxRecDepth 20000 in
theorem uv_X11_36 : ab_okV uw vwCl prg RX11 (366, 227, 1) := ⟨mX11_freshOf, rfl, (uw_m7 155 rfl rfl), (uw_m7 157 rfl rfl), (uw_mem 89 (by decide +kernel) rfl), ⟨TX11, 74, rfl⟩, by decide +kernel⟩
set_option maxRecDepth 20000 in
theorem uv_X11_37 : ab_okV uw vwCl prg RX11 (369, 231, 2) := ⟨mX11_becomeBest, rfl, (uw_m7 171 rfl rfl), (uw_m7 173 rfl rfl), (uw_mem 90 (by decide +kernel) rfl), ⟨TX11, 74, rfl⟩, by decide +kernel⟩
set_option maxRecDepth 20000 in
theorem uv_X11_38 : ab_okV uw vwCl prg RX11 (372, 236, 2) := ⟨mX11_isOneBefore, rfl, (uw_m7 191 rfl rfl), (uw_m7 193 rfl rfl), (uw_mem 91 (by decide +kernel) rfl), ⟨TX11, 74, rfl⟩, by decide +kernel⟩
set_option maxRecDepth 20000 in
theorem uv_X11_39 : ab_okV uw vwCl prg RX11 (378, 239, 0) := ⟨mX11_findFactors, rfl, (uw_m7 203 rfl rfl), (uw_m7 205 rfl rfl), (uw_mem 92 (by decide +kernel) rfl), ⟨TX11, 74, rfl⟩, by decide +kernel⟩
set_option maxRecDepth 20000 in
theorem uv_X11_40 : ab_okV uw vwCl prg RX11 (381, 246, 0) := ⟨mX11_countBytes, rfl, (uw_m7 227 rfl rfl), (uw_m7 229 rfl rfl), (uw_mem 93 (by decide +kernel) rfl), ⟨TX11, 74, rfl⟩, by decide +kernel⟩
set_option maxRecDepth 20000 in
theorem uv_X11_41 : ab_okV uw vwCl prg RX11 (384, 245, 1) := ⟨mX11_countRows, rfl, (uw_m7 231 rfl rfl), (uw_m7 233 rfl rfl), (uw_mem 94 (by decide +kernel) rfl), ⟨TX11, 74, rfl⟩, by decide +kernel⟩
def uvl_X11 : List ab_3 := [(168, 162, 1), (172, 163, 1), (186, 164, 0), (189, 165, 0), (192, 184, 0), (210, 167, 1), (214, 171, 1), (217, 175, 1), (223, 168, 1), (226, 170, 1), (229, 182, 2), (245, 186, 2), (249, 172, 1), (252, 194, 1), (255, 197, 1), (258, 187, 2), (270, 204, 0), (277, 205, 1), (280, 207, 0), (292, 209, 0), (299, 212, 1), (305, 216, 2), (311, 211, 1), (314, 219, 3), (318, 215, 1), (321, 213, 1), (324, 214, 3), (328, 220, 3), (331, 208, 0), (336, 217, 3), (340, 210, 0), (346, 221, 4), (350, 223, 2), (354, 218, 1), (360, 222, 0), (363, 224, 1), (366, 227, 1), (369, 231, 2), (372, 236, 2), (378, 239, 0), (381, 246, 0), (384, 245, 1)]
set_option maxRecDepth 20000 in
theorem uv_X11 : ∀ q ∈ uvl_X11, ab_okV uw vwCl prg RX11 q := List.forall_mem_cons.mpr ⟨uv_X11_0, List.forall_mem_cons.mpr ⟨uv_X11_1, List.forall_mem_cons.mpr ⟨uv_X11_2, List.forall_mem_cons.mpr ⟨uv_X11_3, List.forall_mem_cons.mpr ⟨uv_X11_4, List.forall_mem_cons.mpr ⟨uv_X11_5, List.forall_mem_cons.mpr ⟨uv_X11_6, List.forall_mem_cons.mpr ⟨uv_X11_7, List.forall_mem_cons.mpr ⟨uv_X11_8, List.forall_mem_cons.mpr ⟨uv_X11_9, List.forall_mem_cons.mpr ⟨uv_X11_10, List.forall_mem_cons.mpr ⟨uv_X11_11, List.forall_mem_cons.mpr ⟨uv_X11_12, List.forall_mem_cons.mpr ⟨uv_X11_13, List.forall_mem_cons.mpr ⟨uv_X11_14, List.forall_mem_cons.mpr ⟨uv_X11_15, List.forall_mem_cons.mpr ⟨uv_X11_16, List.forall_mem_cons.mpr ⟨uv_X11_17, List.forall_mem_cons.mpr ⟨uv_X11_18, List.forall_mem_cons.mpr ⟨uv_X11_19, List.forall_mem_cons.mpr ⟨uv_X11_20, List.forall_mem_cons.mpr ⟨uv_X11_21, List.forall_mem_cons.mpr ⟨uv_X11_22, List.forall_mem_cons.mpr ⟨uv_X11_23, List.forall_mem_cons.mpr ⟨uv_X11_24, List.forall_mem_cons.mpr ⟨uv_X11_25, List.forall_mem_cons.mpr ⟨uv_X11_26, List.forall_mem_cons.mpr ⟨uv_X11_27, List.forall_mem_cons.mpr ⟨uv_X11_28, List.forall_mem_cons.mpr ⟨uv_X11_29, List.forall_mem_cons.mpr ⟨uv_X11_30, List.forall_mem_cons.mpr ⟨uv_X11_31, List.forall_mem_cons.mpr ⟨uv_X11_32, List.forall_mem_cons.mpr ⟨uv_X11_33, List.forall_mem_cons.mpr ⟨uv_X11_34, List.forall_mem_cons.mpr ⟨uv_X11_35, List.forall_mem_cons.mpr ⟨uv_X11_36, List.forall_mem_cons.mpr ⟨uv_X11_37, List.forall_mem_cons.mpr ⟨uv_X11_38, List.forall_mem_cons.mpr ⟨uv_X11_39, List.forall_mem_cons.mpr ⟨uv_X11_40, List.forall_mem_cons.mpr ⟨uv_X11_41, fun _ h => absurd h List.not_mem_nil⟩⟩⟩⟩⟩⟩⟩⟩⟩⟩⟩⟩⟩⟩⟩⟩⟩⟩⟩⟩⟩⟩⟩⟩⟩⟩⟩⟩⟩⟩⟩⟩⟩⟩⟩⟩⟩⟩⟩⟩⟩⟩
set_option maxRecDepth 20000 in
theorem us_X11_0 : ab_okS uw vwCl prg RX11 (220, 169, 1) := ⟨mX11_isByte, rfl, (uw_m6 189 rfl rfl), (uw_m6 190 rfl rfl), by decide +kernel⟩
set_option maxRecDepth 20000 in
theorem us_X11_1 : ab_okS uw vwCl prg RX11 (274, 206, 1) := ⟨mX11_isFigure, rfl, (uw_m7 89 rfl rfl), (uw_m7 90 rfl rfl), by decide +kernel⟩
def usl_X11 : List ab_3 := [(220, 169, 1), (274, 206, 1)]
set_option maxRecDepth 20000 in
theorem us_X11 : ∀ q ∈ usl_X11, ab_okS uw vwCl prg RX11 q := List.forall_mem_cons.mpr ⟨us_X11_0, List.forall_mem_cons.mpr ⟨us_X11_1, fun _ h => absurd h List.not_mem_nil⟩⟩
set_option maxRecDepth 20000 in
theorem uf_X2_0 : ab_okF uw vwCl RX2 (9, 2, 0) := ⟨RX2, TX2, 12, rfl, by decide, (uw_m1 74 rfl rfl)⟩
set_option maxRecDepth 20000 in
theorem uf_X2_1 : ab_okF uw vwCl RX2 (15, 2, 1) := ⟨RX2, TX2, 12, rfl, by decide, (uw_m1 80 rfl rfl)⟩
set_option maxRecDepth 20000 in
theorem uf_X2_2 : ab_okF uw vwCl RX2 (18, 2, 2) := ⟨RX2, TX2, 12, rfl, by decide, (uw_m1 85 rfl rfl)⟩
set_option maxRecDepth 20000 in
theorem uf_X2_3 : ab_okF uw vwCl RX2 (21, 2, 3) := ⟨RX2, TX2, 12, rfl, by decide, (uw_m1 88 rfl rfl)⟩
set_option maxRecDepth 20000 in
theorem uf_X2_4 : ab_okF uw vwCl RX2 (24, 2, 4) := ⟨RX2, TX2, 12, rfl, by decide, (uw_m1 93 rfl rfl)⟩
set_option maxRecDepth 20000 in
theorem uf_X2_5 : ab_okF uw vwCl RX2 (27, 2, 5) := ⟨RX2, TX2, 12, rfl, by decide, (uw_m1 98 rfl rfl)⟩
set_option maxRecDepth 20000 in
theorem uf_X2_6 : ab_okF uw vwCl RX2 (30, 2, 6) := ⟨RX2, TX2, 12, rfl, by decide, (uw_m1 103 rfl rfl)⟩
set_option maxRecDepth 20000 in
theorem uf_X2_7 : ab_okF uw vwCl RX2 (36, 2, 7) := ⟨RX2, TX2, 12, rfl, by decide, (uw_m1 107 rfl rfl)⟩
set_option maxRecDepth 20000 in
theorem uf_X2_8 : ab_okF uw vwCl RX2 (40, 2, 10) := ⟨RX2, TX2, 12, rfl, by decide, (uw_m1 118 rfl rfl)⟩
set_option maxRecDepth 20000 in
theorem uf_X2_9 : ab_okF uw vwCl RX2 (44, 2, 11) := ⟨RX2, TX2, 12, rfl, by decide, (uw_m1 120 rfl rfl)⟩
set_option maxRecDepth 20000 in
theorem uf_X2_10 : ab_okF uw vwCl RX2 (47, 0, 3) := ⟨RX0, TX0, 5, rfl, by decide, (uw_m1 35 rfl rfl)⟩
set_option maxRecDepth 20000 in
theorem uf_X2_11 : ab_okF uw vwCl RX2 (52, 2, 9) := ⟨RX2, TX2, 12, rfl, by decide, (uw_m1 115 rfl rfl)⟩
set_option maxRecDepth 20000 in
theorem uf_X2_12 : ab_okF uw vwCl RX2 (53, 0, 1) := ⟨RX0, TX0, 5, rfl, by decide, (uw_m1 33 rfl rfl)⟩
set_option maxRecDepth 20000 in
theorem uf_X2_13 : ab_okF uw vwCl RX2 (54, 2, 8) := ⟨RX2, TX2, 12, rfl, by decide, (uw_m1 110 rfl rfl)⟩
set_option maxRecDepth 20000 in
theorem uf_X2_14 : ab_okF uw vwCl RX2 (63, 0, 0) := ⟨RX0, TX0, 5, rfl, by decide, (uw_m1 31 rfl rfl)⟩
def ufl_X2 : List ab_3 := [(9, 2, 0), (15, 2, 1), (18, 2, 2), (21, 2, 3), (24, 2, 4), (27, 2, 5), (30, 2, 6), (36, 2, 7), (40, 2, 10), (44, 2, 11), (47, 0, 3), (52, 2, 9), (53, 0, 1), (54, 2, 8), (63, 0, 0)]
set_option maxRecDepth 20000 in
theorem uf_X2 : ∀ q ∈ ufl_X2, ab_okF uw vwCl RX2 q := List.forall_mem_cons.mpr ⟨uf_X2_0, List.forall_mem_cons.mpr ⟨uf_X2_1, List.forall_mem_cons.mpr ⟨uf_X2_2, List.forall_mem_cons.mpr ⟨uf_X2_3, List.forall_mem_cons.mpr ⟨uf_X2_4, List.forall_mem_cons.mpr ⟨uf_X2_5, List.forall_mem_cons.mpr ⟨uf_X2_6, List.forall_mem_cons.mpr ⟨uf_X2_7, List.forall_mem_cons.mpr ⟨uf_X2_8, List.forall_mem_cons.mpr ⟨uf_X2_9, List.forall_mem_cons.mpr ⟨uf_X2_10, List.forall_mem_cons.mpr ⟨uf_X2_11, List.forall_mem_cons.mpr ⟨uf_X2_12, List.forall_mem_cons.mpr ⟨uf_X2_13, List.forall_mem_cons.mpr ⟨uf_X2_14, fun _ h => absurd h List.not_mem_nil⟩⟩⟩⟩⟩⟩⟩⟩⟩⟩⟩⟩⟩⟩⟩
def ukl_X2 : List ab_3 := []
set_option maxRecDepth 20000 in
theorem uk_X2 : ∀ q ∈ ukl_X2, ab_okK uw RX2 q := fun _ h => absurd h List.not_mem_nil
set_option maxRecDepth 20000 in
theorem uv_X2_0 : ab_okV uw vwCl prg RX2 (70, 23, 1) := ⟨mX2_endOf, rfl, (uw_m2 217 rfl rfl), (uw_m2 218 rfl rfl), (uw_m2 219 rfl rfl), ⟨TX2, 12, rfl⟩, by decide +kernel⟩
set_option maxRecDepth 20000 in
theorem uv_X2_1 : ab_okV uw vwCl prg RX2 (74, 94, 4) := ⟨mX8_arrange, rfl, (uw_m2 221 rfl rfl), (uw_m2 222 rfl rfl), (uw_m2 223 rfl rfl), ⟨TX8, 3, rfl⟩, by decide +kernel⟩
set_option maxRecDepth 20000 in
theorem uv_X2_2 : ab_okV uw vwCl prg RX2 (78, 17, 0) := ⟨mX2_learnAlikes, rfl, (uw_m3 2 rfl rfl), (uw_m3 4 rfl rfl), (uw_mem 3 (by decide +kernel) rfl), ⟨TX2, 12, rfl⟩, by decide +kernel⟩
set_option maxRecDepth 20000 in
theorem uv_X2_3 : ab_okV uw vwCl prg RX2 (81, 18, 0) := ⟨mX2_learnFronts, rfl, (uw_m3 13 rfl rfl), (uw_m3 15 rfl rfl), (uw_mem 5 (by decide +kernel) rfl), ⟨TX2, 12, rfl⟩, by decide +kernel⟩
set_option maxRecDepth 20000 in
theorem uv_X2_4 : ab_okV uw vwCl prg RX2 (84, 19, 3) := ⟨mX2_alikeBehind, rfl, (uw_m3 6 rfl rfl), (uw_m3 8 rfl rfl), (uw_mem 4 (by decide +kernel) rfl), ⟨TX2, 12, rfl⟩, by decide +kernel⟩
set_option maxRecDepth 20000 in
theorem uv_X2_5 : ab_okV uw vwCl prg RX2 (94, 24, 1) := ⟨mX2_bytesFrom, rfl, (uw_m3 137 rfl rfl), (uw_m3 126 rfl rfl), (uw_m3 127 rfl rfl), ⟨TX2, 12, rfl⟩, by decide +kernel⟩
def uvl_X2 : List ab_3 := [(70, 23, 1), (74, 94, 4), (78, 17, 0), (81, 18, 0), (84, 19, 3), (94, 24, 1)]
set_option maxRecDepth 20000 in
theorem uv_X2 : ∀ q ∈ uvl_X2, ab_okV uw vwCl prg RX2 q := List.forall_mem_cons.mpr ⟨uv_X2_0, List.forall_mem_cons.mpr ⟨uv_X2_1, List.forall_mem_cons.mpr ⟨uv_X2_2, List.forall_mem_cons.mpr ⟨uv_X2_3, List.forall_mem_cons.mpr ⟨uv_X2_4, List.forall_mem_cons.mpr ⟨uv_X2_5, fun _ h => absurd h List.not_mem_nil⟩⟩⟩⟩⟩⟩
set_option maxRecDepth 20000 in
theorem us_X2_0 : ab_okS uw vwCl prg RX2 (57, 1002, 5) := ⟨(uw_m2 210 rfl rfl), (uw_m2 193 rfl rfl), (uw_m2 192 rfl rfl), (uw_m1 13 rfl rfl)⟩
set_option maxRecDepth 20000 in
theorem us_X2_1 : ab_okS uw vwCl prg RX2 (64, 252, 4) := ⟨mJ7_fill_fda19, rfl, (uw_m2 211 rfl rfl), (uw_m2 212 rfl rfl), by decide +kernel⟩
set_option maxRecDepth 20000 in
theorem us_X2_2 : ab_okS uw vwCl prg RX2 (88, 1000, 2) := ⟨(uw_m3 10 rfl rfl), (uw_m3 11 rfl rfl), (uw_m1 15 rfl rfl), (uw_m3 12 rfl rfl)⟩
def usl_X2 : List ab_3 := [(57, 1002, 5), (64, 252, 4), (88, 1000, 2)]
set_option maxRecDepth 20000 in
theorem us_X2 : ∀ q ∈ usl_X2, ab_okS uw vwCl prg RX2 q := List.forall_mem_cons.mpr ⟨us_X2_0, List.forall_mem_cons.mpr ⟨us_X2_1, List.forall_mem_cons.mpr ⟨us_X2_2, fun _ h => absurd h List.not_mem_nil⟩⟩⟩
set_option maxRecDepth 20000 in
theorem uf_X3_0 : ab_okF uw vwCl RX3 (11, 3, 3) := ⟨RX3, TX3, 11, rfl, by decide, (uw_m2 60 rfl rfl)⟩
set_option maxRecDepth 20000 in
theorem uf_X3_1 : ab_okF uw vwCl RX3 (17, 3, 4) := ⟨RX3, TX3, 11, rfl, by decide, (uw_m2 61 rfl rfl)⟩
set_option maxRecDepth 20000 in
theorem uf_X3_2 : ab_okF uw vwCl RX3 (20, 3, 5) := ⟨RX3, TX3, 11, rfl, by decide, (uw_m2 62 rfl rfl)⟩
set_option maxRecDepth 20000 in
theorem uf_X3_3 : ab_okF uw vwCl RX3 (23, 3, 6) := ⟨RX3, TX3, 11, rfl, by decide, (uw_m2 63 rfl rfl)⟩
set_option maxRecDepth 20000 in
theorem uf_X3_4 : ab_okF uw vwCl RX3 (26, 3, 7) := ⟨RX3, TX3, 11, rfl, by decide, (uw_m2 64 rfl rfl)⟩
set_option maxRecDepth 20000 in
theorem uf_X3_5 : ab_okF uw vwCl RX3 (29, 3, 8) := ⟨RX3, TX3, 11, rfl, by decide, (uw_m2 65 rfl rfl)⟩
set_option maxRecDepth 20000 in
theorem uf_X3_6 : ab_okF uw vwCl RX3 (32, 3, 9) := ⟨RX3, TX3, 11, rfl, by decide, (uw_m2 66 rfl rfl)⟩
set_option maxRecDepth 20000 in
theorem uf_X3_7 : ab_okF uw vwCl RX3 (35, 3, 10) := ⟨RX3, TX3, 11, rfl, by decide, (uw_m2 67 rfl rfl)⟩
set_option maxRecDepth 20000 in
theorem uf_X3_8 : ab_okF uw vwCl RX3 (39, 3, 0) := ⟨RX3, TX3, 11, rfl, by decide, (uw_m2 57 rfl rfl)⟩
set_option maxRecDepth 20000 in
theorem uf_X3_9 : ab_okF uw vwCl RX3 (43, 3, 1) := ⟨RX3, TX3, 11, rfl, by decide, (uw_m2 58 rfl rfl)⟩
set_option maxRecDepth 20000 in
theorem uf_X3_10 : ab_okF uw vwCl RX3 (50, 3, 2) := ⟨RX3, TX3, 11, rfl, by decide, (uw_m2 59 rfl rfl)⟩
set_option maxRecDepth 20000 in
theorem uf_X3_11 : ab_okF uw vwCl RX3 (61, 2, 8) := ⟨RX2, TX2, 12, rfl, by decide, (uw_m1 113 rfl rfl)⟩
set_option maxRecDepth 20000 in
theorem uf_X3_12 : ab_okF uw vwCl RX3 (66, 2, 0) := ⟨RX2, TX2, 12, rfl, by decide, (uw_m1 78 rfl rfl)⟩
set_option maxRecDepth 20000 in
theorem uf_X3_13 : ab_okF uw vwCl RX3 (77, 9, 2) := ⟨RX9, TX9, 8, rfl, by decide, (uw_m2 31 rfl rfl)⟩
set_option maxRecDepth 20000 in
theorem uf_X3_14 : ab_okF uw vwCl RX3 (80, 9, 1) := ⟨RX9, TX9, 8, rfl, by decide, (uw_m2 29 rfl rfl)⟩
set_option maxRecDepth 20000 in
theorem uf_X3_15 : ab_okF uw vwCl RX3 (91, 9, 3) := ⟨RX9, TX9, 8, rfl, by decide, (uw_m2 33 rfl rfl)⟩
set_option maxRecDepth 20000 in
theorem uf_X3_16 : ab_okF uw vwCl RX3 (94, 9, 4) := ⟨RX9, TX9, 8, rfl, by decide, (uw_m2 35 rfl rfl)⟩
set_option maxRecDepth 20000 in
theorem uf_X3_17 : ab_okF uw vwCl RX3 (107, 9, 5) := ⟨RX9, TX9, 8, rfl, by decide, (uw_m2 37 rfl rfl)⟩
def ufl_X3 : List ab_3 := [(11, 3, 3), (17, 3, 4), (20, 3, 5), (23, 3, 6), (26, 3, 7), (29, 3, 8), (32, 3, 9), (35, 3, 10), (39, 3, 0), (43, 3, 1), (50, 3, 2), (61, 2, 8), (66, 2, 0), (77, 9, 2), (80, 9, 1), (91, 9, 3), (94, 9, 4), (107, 9, 5)]
set_option maxRecDepth 20000 in
theorem uf_X3 : ∀ q ∈ ufl_X3, ab_okF uw vwCl RX3 q := List.forall_mem_cons.mpr ⟨uf_X3_0, List.forall_mem_cons.mpr ⟨uf_X3_1, List.forall_mem_cons.mpr ⟨uf_X3_2, List.forall_mem_cons.mpr ⟨uf_X3_3, List.forall_mem_cons.mpr ⟨uf_X3_4, List.forall_mem_cons.mpr ⟨uf_X3_5, List.forall_mem_cons.mpr ⟨uf_X3_6, List.forall_mem_cons.mpr ⟨uf_X3_7, List.forall_mem_cons.mpr ⟨uf_X3_8, List.forall_mem_cons.mpr ⟨uf_X3_9, List.forall_mem_cons.mpr ⟨uf_X3_10, List.forall_mem_cons.mpr ⟨uf_X3_11, List.forall_mem_cons.mpr ⟨uf_X3_12, List.forall_mem_cons.mpr ⟨uf_X3_13, List.forall_mem_cons.mpr ⟨uf_X3_14, List.forall_mem_cons.mpr ⟨uf_X3_15, List.forall_mem_cons.mpr ⟨uf_X3_16, List.forall_mem_cons.mpr ⟨uf_X3_17, fun _ h => absurd h List.not_mem_nil⟩⟩⟩⟩⟩⟩⟩⟩⟩⟩⟩⟩⟩⟩⟩⟩⟩⟩
set_option maxRecDepth 20000 in
theorem uk_X3_0 : ab_okK uw RX3 (89, 1000000, 0) := (uw_m4 160 rfl rfl)
set_option maxRecDepth 20000 in
theorem uk_X3_1 : ab_okK uw RX3 (90, 1000000, 1) := (uw_m4 161 rfl rfl)
def ukl_X3 : List ab_3 := [(89, 1000000, 0), (90, 1000000, 1)]
set_option maxRecDepth 20000 in
theorem uk_X3 : ∀ q ∈ ukl_X3, ab_okK uw RX3 q := List.forall_mem_cons.mpr ⟨uk_X3_0, List.forall_mem_cons.mpr ⟨uk_X3_1, fun _ h => absurd h List.not_mem_nil⟩⟩
set_option maxRecDepth 20000 in
theorem uv_X3_0 : ab_okV uw vwCl prg RX3 (54, 32, 0) := ⟨mX3_forget, rfl, (uw_m4 113 rfl rfl), (uw_m3 55 rfl rfl), (uw_m3 56 rfl rfl), ⟨TX3, 11, rfl⟩, by decide +kernel⟩
set_option maxRecDepth 20000 in
theorem uv_X3_1 : ab_okV uw vwCl prg RX3 (57, 99, 0) := ⟨mX9_grown, rfl, (uw_m4 114 rfl rfl), (uw_m4 115 rfl rfl), (uw_m4 116 rfl rfl), ⟨TX9, 8, rfl⟩, by decide +kernel⟩
set_option maxRecDepth 20000 in
theorem uv_X3_2 : ab_okV uw vwCl prg RX3 (69, 36, 2) := ⟨mX3_goUp, rfl, (uw_m4 152 rfl rfl), (uw_m4 154 rfl rfl), (uw_mem 41 (by decide +kernel) rfl), ⟨TX3, 11, rfl⟩, by decide +kernel⟩
set_option maxRecDepth 20000 in
theorem uv_X3_3 : ab_okV uw vwCl prg RX3 (73, 37, 1) := ⟨mX3_goDown, rfl, (uw_m4 164 rfl rfl), (uw_m4 166 rfl rfl), (uw_mem 42 (by decide +kernel) rfl), ⟨TX3, 11, rfl⟩, by decide +kernel⟩
set_option maxRecDepth 20000 in
theorem uv_X3_4 : ab_okV uw vwCl prg RX3 (83, 74, 2) := ⟨mX6_mayBe, rfl, (uw_m4 156 rfl rfl), (uw_m4 157 rfl rfl), (uw_m4 158 rfl rfl), ⟨TX6, 9, rfl⟩, by decide +kernel⟩
set_option maxRecDepth 20000 in
theorem uv_X3_5 : ab_okV uw vwCl prg RX3 (110, 39, 3) := ⟨mX3_goDownTo, rfl, (uw_m4 168 rfl rfl), (uw_m4 170 rfl rfl), (uw_mem 43 (by decide +kernel) rfl), ⟨TX3, 11, rfl⟩, by decide +kernel⟩
set_option maxRecDepth 20000 in
theorem uv_X3_6 : ab_okV uw vwCl prg RX3 (114, 38, 1) := ⟨mX3_goDownLeft, rfl, (uw_m4 172 rfl rfl), (uw_m4 174 rfl rfl), (uw_mem 44 (by decide +kernel) rfl), ⟨TX3, 11, rfl⟩, by decide +kernel⟩
def uvl_X3 : List ab_3 := [(54, 32, 0), (57, 99, 0), (69, 36, 2), (73, 37, 1), (83, 74, 2), (110, 39, 3), (114, 38, 1)]
set_option maxRecDepth 20000 in
theorem uv_X3 : ∀ q ∈ uvl_X3, ab_okV uw vwCl prg RX3 q := List.forall_mem_cons.mpr ⟨uv_X3_0, List.forall_mem_cons.mpr ⟨uv_X3_1, List.forall_mem_cons.mpr ⟨uv_X3_2, List.forall_mem_cons.mpr ⟨uv_X3_3, List.forall_mem_cons.mpr ⟨uv_X3_4, List.forall_mem_cons.mpr ⟨uv_X3_5, List.forall_mem_cons.mpr ⟨uv_X3_6, fun _ h => absurd h List.not_mem_nil⟩⟩⟩⟩⟩⟩⟩
set_option maxRecDepth 20000 in
theorem us_X3_0 : ab_okS uw vwCl prg RX3 (98, 1001, 2) := ⟨(uw_m4 162 rfl rfl), (uw_m3 32 rfl rfl), (uw_m1 15 rfl rfl), (uw_m3 33 rfl rfl)⟩
set_option maxRecDepth 20000 in
theorem us_X3_1 : ab_okS uw vwCl prg RX3 (104, 1000, 2) := ⟨(uw_m4 163 rfl rfl), (uw_m3 11 rfl rfl), (uw_m1 15 rfl rfl), (uw_m3 12 rfl rfl)⟩
def usl_X3 : List ab_3 := [(98, 1001, 2), (104, 1000, 2)]
set_option maxRecDepth 20000 in
theorem us_X3 : ∀ q ∈ usl_X3, ab_okS uw vwCl prg RX3 q := List.forall_mem_cons.mpr ⟨us_X3_0, List.forall_mem_cons.mpr ⟨us_X3_1, fun _ h => absurd h List.not_mem_nil⟩⟩
set_option maxRecDepth 20000 in
theorem uf_X4_0 : ab_okF uw vwCl RX4 (9, 4, 2) := ⟨RX4, TX4, 5, rfl, by decide, (uw_m1 195 rfl rfl)⟩
set_option maxRecDepth 20000 in
theorem uf_X4_1 : ab_okF uw vwCl RX4 (15, 4, 3) := ⟨RX4, TX4, 5, rfl, by decide, (uw_m1 197 rfl rfl)⟩
set_option maxRecDepth 20000 in
theorem uf_X4_2 : ab_okF uw vwCl RX4 (18, 4, 0) := ⟨RX4, TX4, 5, rfl, by decide, (uw_m1 193 rfl rfl)⟩
set_option maxRecDepth 20000 in
theorem uf_X4_3 : ab_okF uw vwCl RX4 (22, 4, 1) := ⟨RX4, TX4, 5, rfl, by decide, (uw_m1 194 rfl rfl)⟩
set_option maxRecDepth 20000 in
theorem uf_X4_4 : ab_okF uw vwCl RX4 (26, 4, 4) := ⟨RX4, TX4, 5, rfl, by decide, (uw_m1 199 rfl rfl)⟩
set_option maxRecDepth 20000 in
theorem uf_X4_5 : ab_okF uw vwCl RX4 (30, 2, 8) := ⟨RX2, TX2, 12, rfl, by decide, (uw_m1 109 rfl rfl)⟩
set_option maxRecDepth 20000 in
theorem uf_X4_6 : ab_okF uw vwCl RX4 (35, 1, 5) := ⟨RX1, TX1, 8, rfl, by decide, (uw_m1 161 rfl rfl)⟩
set_option maxRecDepth 20000 in
theorem uf_X4_7 : ab_okF uw vwCl RX4 (48, 2, 0) := ⟨RX2, TX2, 12, rfl, by decide, (uw_m1 75 rfl rfl)⟩
set_option maxRecDepth 20000 in
theorem uf_X4_8 : ab_okF uw vwCl RX4 (51, 1, 4) := ⟨RX1, TX1, 8, rfl, by decide, (uw_m1 159 rfl rfl)⟩
def ufl_X4 : List ab_3 := [(9, 4, 2), (15, 4, 3), (18, 4, 0), (22, 4, 1), (26, 4, 4), (30, 2, 8), (35, 1, 5), (48, 2, 0), (51, 1, 4)]
set_option maxRecDepth 20000 in
theorem uf_X4 : ∀ q ∈ ufl_X4, ab_okF uw vwCl RX4 q := List.forall_mem_cons.mpr ⟨uf_X4_0, List.forall_mem_cons.mpr ⟨uf_X4_1, List.forall_mem_cons.mpr ⟨uf_X4_2, List.forall_mem_cons.mpr ⟨uf_X4_3, List.forall_mem_cons.mpr ⟨uf_X4_4, List.forall_mem_cons.mpr ⟨uf_X4_5, List.forall_mem_cons.mpr ⟨uf_X4_6, List.forall_mem_cons.mpr ⟨uf_X4_7, List.forall_mem_cons.mpr ⟨uf_X4_8, fun _ h => absurd h List.not_mem_nil⟩⟩⟩⟩⟩⟩⟩⟩⟩
def ukl_X4 : List ab_3 := []
set_option maxRecDepth 20000 in
theorem uk_X4 : ∀ q ∈ ukl_X4, ab_okK uw RX4 q := fun _ h => absurd h List.not_mem_nil
set_option maxRecDepth 20000 in
theorem uv_X4_0 : ab_okV uw vwCl prg RX4 (40, 24, 1) := ⟨mX2_bytesFrom, rfl, (uw_m3 239 rfl rfl), (uw_m3 126 rfl rfl), (uw_m3 127 rfl rfl), ⟨TX2, 12, rfl⟩, by decide +kernel⟩
set_option maxRecDepth 20000 in
theorem uv_X4_1 : ab_okV uw vwCl prg RX4 (44, 41, 2) := ⟨mX4_differAt, rfl, (uw_m4 0 rfl rfl), (uw_m4 2 rfl rfl), (uw_mem 14 (by decide +kernel) rfl), ⟨TX4, 5, rfl⟩, by decide +kernel⟩
def uvl_X4 : List ab_3 := [(40, 24, 1), (44, 41, 2)]
set_option maxRecDepth 20000 in
theorem uv_X4 : ∀ q ∈ uvl_X4, ab_okV uw vwCl prg RX4 q := List.forall_mem_cons.mpr ⟨uv_X4_0, List.forall_mem_cons.mpr ⟨uv_X4_1, fun _ h => absurd h List.not_mem_nil⟩⟩
def usl_X4 : List ab_3 := []
set_option maxRecDepth 20000 in
theorem us_X4 : ∀ q ∈ usl_X4, ab_okS uw vwCl prg RX4 q := fun _ h => absurd h List.not_mem_nil
set_option maxRecDepth 20000 in
theorem uf_X5_0 : ab_okF uw vwCl RX5 (9, 5, 1) := ⟨RX5, TX5, 7, rfl, by decide, (uw_m2 121 rfl rfl)⟩
set_option maxRecDepth 20000 in
theorem uf_X5_1 : ab_okF uw vwCl RX5 (15, 5, 2) := ⟨RX5, TX5, 7, rfl, by decide, (uw_m2 122 rfl rfl)⟩
set_option maxRecDepth 20000 in
theorem uf_X5_2 : ab_okF uw vwCl RX5 (18, 5, 3) := ⟨RX5, TX5, 7, rfl, by decide, (uw_m2 123 rfl rfl)⟩
set_option maxRecDepth 20000 in
theorem uf_X5_3 : ab_okF uw vwCl RX5 (21, 5, 4) := ⟨RX5, TX5, 7, rfl, by decide, (uw_m2 124 rfl rfl)⟩
set_option maxRecDepth 20000 in
theorem uf_X5_4 : ab_okF uw vwCl RX5 (24, 5, 5) := ⟨RX5, TX5, 7, rfl, by decide, (uw_m2 125 rfl rfl)⟩
set_option maxRecDepth 20000 in
theorem uf_X5_5 : ab_okF uw vwCl RX5 (27, 5, 6) := ⟨RX5, TX5, 7, rfl, by decide, (uw_m2 126 rfl rfl)⟩
set_option maxRecDepth 20000 in
theorem uf_X5_6 : ab_okF uw vwCl RX5 (30, 5, 0) := ⟨RX5, TX5, 7, rfl, by decide, (uw_m2 120 rfl rfl)⟩
set_option maxRecDepth 20000 in
theorem uf_X5_7 : ab_okF uw vwCl RX5 (43, 2, 8) := ⟨RX2, TX2, 12, rfl, by decide, (uw_m1 111 rfl rfl)⟩
set_option maxRecDepth 20000 in
theorem uf_X5_8 : ab_okF uw vwCl RX5 (49, 2, 5) := ⟨RX2, TX2, 12, rfl, by decide, (uw_m1 101 rfl rfl)⟩
set_option maxRecDepth 20000 in
theorem uf_X5_9 : ab_okF uw vwCl RX5 (52, 2, 4) := ⟨RX2, TX2, 12, rfl, by decide, (uw_m1 95 rfl rfl)⟩
set_option maxRecDepth 20000 in
theorem uf_X5_10 : ab_okF uw vwCl RX5 (64, 2, 0) := ⟨RX2, TX2, 12, rfl, by decide, (uw_m1 76 rfl rfl)⟩
set_option maxRecDepth 20000 in
theorem uf_X5_11 : ab_okF uw vwCl RX5 (71, 2, 2) := ⟨RX2, TX2, 12, rfl, by decide, (uw_m1 86 rfl rfl)⟩
set_option maxRecDepth 20000 in
theorem uf_X5_12 : ab_okF uw vwCl RX5 (81, 2, 3) := ⟨RX2, TX2, 12, rfl, by decide, (uw_m1 92 rfl rfl)⟩
set_option maxRecDepth 20000 in
theorem uf_X5_13 : ab_okF uw vwCl RX5 (97, 2, 1) := ⟨RX2, TX2, 12, rfl, by decide, (uw_m1 83 rfl rfl)⟩
def ufl_X5 : List ab_3 := [(9, 5, 1), (15, 5, 2), (18, 5, 3), (21, 5, 4), (24, 5, 5), (27, 5, 6), (30, 5, 0), (43, 2, 8), (49, 2, 5), (52, 2, 4), (64, 2, 0), (71, 2, 2), (81, 2, 3), (97, 2, 1)]
set_option maxRecDepth 20000 in
theorem uf_X5 : ∀ q ∈ ufl_X5, ab_okF uw vwCl RX5 q := List.forall_mem_cons.mpr ⟨uf_X5_0, List.forall_mem_cons.mpr ⟨uf_X5_1, List.forall_mem_cons.mpr ⟨uf_X5_2, List.forall_mem_cons.mpr ⟨uf_X5_3, List.forall_mem_cons.mpr ⟨uf_X5_4, List.forall_mem_cons.mpr ⟨uf_X5_5, List.forall_mem_cons.mpr ⟨uf_X5_6, List.forall_mem_cons.mpr ⟨uf_X5_7, List.forall_mem_cons.mpr ⟨uf_X5_8, List.forall_mem_cons.mpr ⟨uf_X5_9, List.forall_mem_cons.mpr ⟨uf_X5_10, List.forall_mem_cons.mpr ⟨uf_X5_11, List.forall_mem_cons.mpr ⟨uf_X5_12, List.forall_mem_cons.mpr ⟨uf_X5_13, fun _ h => absurd h List.not_mem_nil⟩⟩⟩⟩⟩⟩⟩⟩⟩⟩⟩⟩⟩⟩
def ukl_X5 : List ab_3 := []
set_option maxRecDepth 20000 in
theorem uk_X5 : ∀ q ∈ ukl_X5, ab_okK uw RX5 q := fun _ h => absurd h List.not_mem_nil
set_option maxRecDepth 20000 in
theorem uv_X5_0 : ab_okV uw vwCl prg RX5 (34, 43, 0) := ⟨mX5_learnEarlier, rfl, (uw_m3 26 rfl rfl), (uw_m3 28 rfl rfl), (uw_mem 6 (by decide +kernel) rfl), ⟨TX5, 7, rfl⟩, by decide +kernel⟩
set_option maxRecDepth 20000 in
theorem uv_X5_1 : ab_okV uw vwCl prg RX5 (37, 45, 0) := ⟨mX5_learnReaches, rfl, (uw_m3 34 rfl rfl), (uw_m3 36 rfl rfl), (uw_mem 7 (by decide +kernel) rfl), ⟨TX5, 7, rfl⟩, by decide +kernel⟩
set_option maxRecDepth 20000 in
theorem uv_X5_2 : ab_okV uw vwCl prg RX5 (40, 46, 0) := ⟨mX5_learnGapReaches, rfl, (uw_m3 42 rfl rfl), (uw_m3 44 rfl rfl), (uw_mem 9 (by decide +kernel) rfl), ⟨TX5, 7, rfl⟩, by decide +kernel⟩
set_option maxRecDepth 20000 in
theorem uv_X5_3 : ab_okV uw vwCl prg RX5 (67, 44, 2) := ⟨mX5_mirrored, rfl, (uw_m3 38 rfl rfl), (uw_m3 40 rfl rfl), (uw_mem 8 (by decide +kernel) rfl), ⟨TX5, 7, rfl⟩, by decide +kernel⟩
set_option maxRecDepth 20000 in
theorem uv_X5_4 : ab_okV uw vwCl prg RX5 (74, 23, 1) := ⟨mX2_endOf, rfl, (uw_m5 48 rfl rfl), (uw_m2 218 rfl rfl), (uw_m2 219 rfl rfl), ⟨TX2, 12, rfl⟩, by decide +kernel⟩
set_option maxRecDepth 20000 in
theorem uv_X5_5 : ab_okV uw vwCl prg RX5 (78, 49, 1) := ⟨mX5_leastEarlier, rfl, (uw_m5 53 rfl rfl), (uw_m5 55 rfl rfl), (uw_mem 50 (by decide +kernel) rfl), ⟨TX5, 7, rfl⟩, by decide +kernel⟩
set_option maxRecDepth 20000 in
theorem uv_X5_6 : ab_okV uw vwCl prg RX5 (84, 51, 2) := ⟨mX5_periodOfWords, rfl, (uw_m5 65 rfl rfl), (uw_m5 67 rfl rfl), (uw_mem 51 (by decide +kernel) rfl), ⟨TX5, 7, rfl⟩, by decide +kernel⟩
set_option maxRecDepth 20000 in
theorem uv_X5_7 : ab_okV uw vwCl prg RX5 (87, 52, 3) := ⟨mX5_endOfWords, rfl, (uw_m5 69 rfl rfl), (uw_m5 71 rfl rfl), (uw_mem 52 (by decide +kernel) rfl), ⟨TX5, 7, rfl⟩, by decide +kernel⟩
set_option maxRecDepth 20000 in
theorem uv_X5_8 : ab_okV uw vwCl prg RX5 (91, 24, 1) := ⟨mX2_bytesFrom, rfl, (uw_m5 81 rfl rfl), (uw_m3 126 rfl rfl), (uw_m3 127 rfl rfl), ⟨TX2, 12, rfl⟩, by decide +kernel⟩
def uvl_X5 : List ab_3 := [(34, 43, 0), (37, 45, 0), (40, 46, 0), (67, 44, 2), (74, 23, 1), (78, 49, 1), (84, 51, 2), (87, 52, 3), (91, 24, 1)]
set_option maxRecDepth 20000 in
theorem uv_X5 : ∀ q ∈ uvl_X5, ab_okV uw vwCl prg RX5 q := List.forall_mem_cons.mpr ⟨uv_X5_0, List.forall_mem_cons.mpr ⟨uv_X5_1, List.forall_mem_cons.mpr ⟨uv_X5_2, List.forall_mem_cons.mpr ⟨uv_X5_3, List.forall_mem_cons.mpr ⟨uv_X5_4, List.forall_mem_cons.mpr ⟨uv_X5_5, List.forall_mem_cons.mpr ⟨uv_X5_6, List.forall_mem_cons.mpr ⟨uv_X5_7, List.forall_mem_cons.mpr ⟨uv_X5_8, fun _ h => absurd h List.not_mem_nil⟩⟩⟩⟩⟩⟩⟩⟩⟩
set_option maxRecDepth 20000 in
theorem us_X5_0 : ab_okS uw vwCl prg RX5 (55, 1000, 2) := ⟨(uw_m3 30 rfl rfl), (uw_m3 11 rfl rfl), (uw_m1 15 rfl rfl), (uw_m3 12 rfl rfl)⟩
set_option maxRecDepth 20000 in
theorem us_X5_1 : ab_okS uw vwCl prg RX5 (61, 1001, 2) := ⟨(uw_m3 31 rfl rfl), (uw_m3 32 rfl rfl), (uw_m1 15 rfl rfl), (uw_m3 33 rfl rfl)⟩
set_option maxRecDepth 20000 in
theorem us_X5_2 : ab_okS uw vwCl prg RX5 (94, 54, 3) := ⟨mX5_nearer, rfl, (uw_m5 82 rfl rfl), (uw_m5 83 rfl rfl), by decide +kernel⟩
def usl_X5 : List ab_3 := [(55, 1000, 2), (61, 1001, 2), (94, 54, 3)]
set_option maxRecDepth 20000 in
theorem us_X5 : ∀ q ∈ usl_X5, ab_okS uw vwCl prg RX5 q := List.forall_mem_cons.mpr ⟨us_X5_0, List.forall_mem_cons.mpr ⟨us_X5_1, List.forall_mem_cons.mpr ⟨us_X5_2, fun _ h => absurd h List.not_mem_nil⟩⟩⟩
set_option maxRecDepth 20000 in
theorem uf_X6_0 : ab_okF uw vwCl RX6 (9, 6, 0) := ⟨RX6, TX6, 9, rfl, by decide, (uw_m1 218 rfl rfl)⟩
set_option maxRecDepth 20000 in
theorem uf_X6_1 : ab_okF uw vwCl RX6 (15, 6, 1) := ⟨RX6, TX6, 9, rfl, by decide, (uw_m1 220 rfl rfl)⟩
set_option maxRecDepth 20000 in
theorem uf_X6_2 : ab_okF uw vwCl RX6 (18, 6, 2) := ⟨RX6, TX6, 9, rfl, by decide, (uw_m1 222 rfl rfl)⟩
set_option maxRecDepth 20000 in
theorem uf_X6_3 : ab_okF uw vwCl RX6 (21, 6, 3) := ⟨RX6, TX6, 9, rfl, by decide, (uw_m1 224 rfl rfl)⟩
set_option maxRecDepth 20000 in
theorem uf_X6_4 : ab_okF uw vwCl RX6 (24, 6, 4) := ⟨RX6, TX6, 9, rfl, by decide, (uw_m1 226 rfl rfl)⟩
set_option maxRecDepth 20000 in
theorem uf_X6_5 : ab_okF uw vwCl RX6 (27, 6, 5) := ⟨RX6, TX6, 9, rfl, by decide, (uw_m1 228 rfl rfl)⟩
set_option maxRecDepth 20000 in
theorem uf_X6_6 : ab_okF uw vwCl RX6 (31, 6, 8) := ⟨RX6, TX6, 9, rfl, by decide, (uw_m1 233 rfl rfl)⟩
set_option maxRecDepth 20000 in
theorem uf_X6_7 : ab_okF uw vwCl RX6 (35, 6, 6) := ⟨RX6, TX6, 9, rfl, by decide, (uw_m1 229 rfl rfl)⟩
set_option maxRecDepth 20000 in
theorem uf_X6_8 : ab_okF uw vwCl RX6 (38, 6, 7) := ⟨RX6, TX6, 9, rfl, by decide, (uw_m1 232 rfl rfl)⟩
def ufl_X6 : List ab_3 := [(9, 6, 0), (15, 6, 1), (18, 6, 2), (21, 6, 3), (24, 6, 4), (27, 6, 5), (31, 6, 8), (35, 6, 6), (38, 6, 7)]
set_option maxRecDepth 20000 in
theorem uf_X6 : ∀ q ∈ ufl_X6, ab_okF uw vwCl RX6 q := List.forall_mem_cons.mpr ⟨uf_X6_0, List.forall_mem_cons.mpr ⟨uf_X6_1, List.forall_mem_cons.mpr ⟨uf_X6_2, List.forall_mem_cons.mpr ⟨uf_X6_3, List.forall_mem_cons.mpr ⟨uf_X6_4, List.forall_mem_cons.mpr ⟨uf_X6_5, List.forall_mem_cons.mpr ⟨uf_X6_6, List.forall_mem_cons.mpr ⟨uf_X6_7, List.forall_mem_cons.mpr ⟨uf_X6_8, fun _ h => absurd h List.not_mem_nil⟩⟩⟩⟩⟩⟩⟩⟩⟩
set_option maxRecDepth 20000 in
theorem uk_X6_0 : ab_okK uw RX6 (107, 1, 3) := (uw_m4 75 rfl rfl)
def ukl_X6 : List ab_3 := [(107, 1, 3)]
set_option maxRecDepth 20000 in
theorem uk_X6 : ∀ q ∈ ukl_X6, ab_okK uw RX6 q := List.forall_mem_cons.mpr ⟨uk_X6_0, fun _ h => absurd h List.not_mem_nil⟩
set_option maxRecDepth 20000 in
theorem uv_X6_0 : ab_okV uw vwCl prg RX6 (41, 62, 1) := ⟨mX6_readSum, rfl, (uw_m4 24 rfl rfl), (uw_m4 26 rfl rfl), (uw_mem 15 (by decide +kernel) rfl), ⟨TX6, 9, rfl⟩, by decide +kernel⟩
set_option maxRecDepth 20000 in
theorem uv_X6_1 : ab_okV uw vwCl prg RX6 (51, 60, 0) := ⟨mX6_goesOn, rfl, (uw_m4 28 rfl rfl), (uw_m4 30 rfl rfl), (uw_mem 16 (by decide +kernel) rfl), ⟨TX6, 9, rfl⟩, by decide +kernel⟩
set_option maxRecDepth 20000 in
theorem uv_X6_2 : ab_okV uw vwCl prg RX6 (55, 63, 1) := ⟨mX6_readItem, rfl, (uw_m4 32 rfl rfl), (uw_m4 34 rfl rfl), (uw_mem 17 (by decide +kernel) rfl), ⟨TX6, 9, rfl⟩, by decide +kernel⟩
set_option maxRecDepth 20000 in
theorem uv_X6_3 : ab_okV uw vwCl prg RX6 (61, 65, 1) := ⟨mX6_readAtom, rfl, (uw_m4 36 rfl rfl), (uw_m4 38 rfl rfl), (uw_mem 18 (by decide +kernel) rfl), ⟨TX6, 9, rfl⟩, by decide +kernel⟩
set_option maxRecDepth 20000 in
theorem uv_X6_4 : ab_okV uw vwCl prg RX6 (64, 75, 1) := ⟨mX6_readRepeat, rfl, (uw_m4 80 rfl rfl), (uw_m4 82 rfl rfl), (uw_mem 28 (by decide +kernel) rfl), ⟨TX6, 9, rfl⟩, by decide +kernel⟩
set_option maxRecDepth 20000 in
theorem uv_X6_5 : ab_okV uw vwCl prg RX6 (68, 64, 1) := ⟨mX6_copies, rfl, (uw_m4 100 rfl rfl), (uw_m4 101 rfl rfl), (uw_m4 102 rfl rfl), ⟨TX6, 9, rfl⟩, by decide +kernel⟩
set_option maxRecDepth 20000 in
theorem uv_X6_6 : ab_okV uw vwCl prg RX6 (80, 67, 1) := ⟨mX6_readBrackets, rfl, (uw_m4 43 rfl rfl), (uw_m4 45 rfl rfl), (uw_mem 19 (by decide +kernel) rfl), ⟨TX6, 9, rfl⟩, by decide +kernel⟩
set_option maxRecDepth 20000 in
theorem uv_X6_7 : ab_okV uw vwCl prg RX6 (83, 70, 1) := ⟨mX6_readRanges, rfl, (uw_m4 55 rfl rfl), (uw_m4 57 rfl rfl), (uw_mem 22 (by decide +kernel) rfl), ⟨TX6, 9, rfl⟩, by decide +kernel⟩
set_option maxRecDepth 20000 in
theorem uv_X6_8 : ab_okV uw vwCl prg RX6 (86, 73, 3) := ⟨mX6_addBytes, rfl, (uw_m4 71 rfl rfl), (uw_m4 73 rfl rfl), (uw_mem 26 (by decide +kernel) rfl), ⟨TX6, 9, rfl⟩, by decide +kernel⟩
set_option maxRecDepth 20000 in
theorem uv_X6_9 : ab_okV uw vwCl prg RX6 (90, 66, 1) := ⟨mX6_readPlain, rfl, (uw_m4 76 rfl rfl), (uw_m4 78 rfl rfl), (uw_mem 27 (by decide +kernel) rfl), ⟨TX6, 9, rfl⟩, by decide +kernel⟩
set_option maxRecDepth 20000 in
theorem uv_X6_10 : ab_okV uw vwCl prg RX6 (93, 69, 0) := ⟨mX6_readByte, rfl, (uw_m4 67 rfl rfl), (uw_m4 69 rfl rfl), (uw_mem 25 (by decide +kernel) rfl), ⟨TX6, 9, rfl⟩, by decide +kernel⟩
set_option maxRecDepth 20000 in
theorem uv_X6_11 : ab_okV uw vwCl prg RX6 (97, 68, 1) := ⟨mX6_readSign, rfl, (uw_m4 47 rfl rfl), (uw_m4 49 rfl rfl), (uw_mem 20 (by decide +kernel) rfl), ⟨TX6, 9, rfl⟩, by decide +kernel⟩
set_option maxRecDepth 20000 in
theorem uv_X6_12 : ab_okV uw vwCl prg RX6 (100, 59, 1) := ⟨mX6_comes, rfl, (uw_m4 51 rfl rfl), (uw_m4 53 rfl rfl), (uw_mem 21 (by decide +kernel) rfl), ⟨TX6, 9, rfl⟩, by decide +kernel⟩
set_option maxRecDepth 20000 in
theorem uv_X6_13 : ab_okV uw vwCl prg RX6 (104, 71, 1) := ⟨mX6_readRange, rfl, (uw_m4 59 rfl rfl), (uw_m4 61 rfl rfl), (uw_mem 23 (by decide +kernel) rfl), ⟨TX6, 9, rfl⟩, by decide +kernel⟩
set_option maxRecDepth 20000 in
theorem uv_X6_14 : ab_okV uw vwCl prg RX6 (109, 72, 0) := ⟨mX6_readRangeByte, rfl, (uw_m4 63 rfl rfl), (uw_m4 65 rfl rfl), (uw_mem 24 (by decide +kernel) rfl), ⟨TX6, 9, rfl⟩, by decide +kernel⟩
set_option maxRecDepth 20000 in
theorem uv_X6_15 : ab_okV uw vwCl prg RX6 (112, 76, 3) := ⟨mX6_repeat, rfl, (uw_m4 84 rfl rfl), (uw_m4 86 rfl rfl), (uw_mem 29 (by decide +kernel) rfl), ⟨TX6, 9, rfl⟩, by decide +kernel⟩
set_option maxRecDepth 20000 in
theorem uv_X6_16 : ab_okV uw vwCl prg RX6 (115, 77, 1) := ⟨mX6_readNumbers, rfl, (uw_m4 88 rfl rfl), (uw_m4 90 rfl rfl), (uw_mem 30 (by decide +kernel) rfl), ⟨TX6, 9, rfl⟩, by decide +kernel⟩
set_option maxRecDepth 20000 in
theorem uv_X6_17 : ab_okV uw vwCl prg RX6 (118, 78, 0) := ⟨mX6_readNumber, rfl, (uw_m4 92 rfl rfl), (uw_m4 94 rfl rfl), (uw_mem 31 (by decide +kernel) rfl), ⟨TX6, 9, rfl⟩, by decide +kernel⟩
set_option maxRecDepth 20000 in
theorem uv_X6_18 : ab_okV uw vwCl prg RX6 (121, 79, 0) := ⟨mX6_figureComes, rfl, (uw_m4 96 rfl rfl), (uw_m4 98 rfl rfl), (uw_mem 32 (by decide +kernel) rfl), ⟨TX6, 9, rfl⟩, by decide +kernel⟩
def uvl_X6 : List ab_3 := [(41, 62, 1), (51, 60, 0), (55, 63, 1), (61, 65, 1), (64, 75, 1), (68, 64, 1), (80, 67, 1), (83, 70, 1), (86, 73, 3), (90, 66, 1), (93, 69, 0), (97, 68, 1), (100, 59, 1), (104, 71, 1), (109, 72, 0), (112, 76, 3), (115, 77, 1), (118, 78, 0), (121, 79, 0)]
set_option maxRecDepth 20000 in
theorem uv_X6 : ∀ q ∈ uvl_X6, ab_okV uw vwCl prg RX6 q := List.forall_mem_cons.mpr ⟨uv_X6_0, List.forall_mem_cons.mpr ⟨uv_X6_1, List.forall_mem_cons.mpr ⟨uv_X6_2, List.forall_mem_cons.mpr ⟨uv_X6_3, List.forall_mem_cons.mpr ⟨uv_X6_4, List.forall_mem_cons.mpr ⟨uv_X6_5, List.forall_mem_cons.mpr ⟨uv_X6_6, List.forall_mem_cons.mpr ⟨uv_X6_7, List.forall_mem_cons.mpr ⟨uv_X6_8, List.forall_mem_cons.mpr ⟨uv_X6_9, List.forall_mem_cons.mpr ⟨uv_X6_10, List.forall_mem_cons.mpr ⟨uv_X6_11, List.forall_mem_cons.mpr ⟨uv_X6_12, List.forall_mem_cons.mpr ⟨uv_X6_13, List.forall_mem_cons.mpr ⟨uv_X6_14, List.forall_mem_cons.mpr ⟨uv_X6_15, List.forall_mem_cons.mpr ⟨uv_X6_16, List.forall_mem_cons.mpr ⟨uv_X6_17, List.forall_mem_cons.mpr ⟨uv_X6_18, fun _ h => absurd h List.not_mem_nil⟩⟩⟩⟩⟩⟩⟩⟩⟩⟩⟩⟩⟩⟩⟩⟩⟩⟩⟩
set_option maxRecDepth 20000 in
theorem us_X6_0 : ab_okS uw vwCl prg RX6 (45, 1001, 2) := ⟨(uw_m4 108 rfl rfl), (uw_m3 32 rfl rfl), (uw_m1 15 rfl rfl), (uw_m3 33 rfl rfl)⟩
set_option maxRecDepth 20000 in
theorem us_X6_1 : ab_okS uw vwCl prg RX6 (58, 61, 1) := ⟨mX6_bounded, rfl, (uw_m4 105 rfl rfl), (uw_m4 106 rfl rfl), by decide +kernel⟩
set_option maxRecDepth 20000 in
theorem us_X6_2 : ab_okS uw vwCl prg RX6 (71, 1000, 2) := ⟨(uw_m4 104 rfl rfl), (uw_m3 11 rfl rfl), (uw_m1 15 rfl rfl), (uw_m3 12 rfl rfl)⟩
set_option maxRecDepth 20000 in
theorem us_X6_3 : ab_okS uw vwCl prg RX6 (74, 250, 4) := ⟨mJ7_fill_bad5a, rfl, (uw_m4 40 rfl rfl), (uw_m4 41 rfl rfl), by decide +kernel⟩
def usl_X6 : List ab_3 := [(45, 1001, 2), (58, 61, 1), (71, 1000, 2), (74, 250, 4)]
set_option maxRecDepth 20000 in
theorem us_X6 : ∀ q ∈ usl_X6, ab_okS uw vwCl prg RX6 q := List.forall_mem_cons.mpr ⟨us_X6_0, List.forall_mem_cons.mpr ⟨us_X6_1, List.forall_mem_cons.mpr ⟨us_X6_2, List.forall_mem_cons.mpr ⟨us_X6_3, fun _ h => absurd h List.not_mem_nil⟩⟩⟩⟩
set_option maxRecDepth 20000 in
theorem uf_X7_0 : ab_okF uw vwCl RX7 (9, 7, 2) := ⟨RX7, TX7, 5, rfl, by decide, (uw_m2 99 rfl rfl)⟩
set_option maxRecDepth 20000 in
theorem uf_X7_1 : ab_okF uw vwCl RX7 (15, 7, 3) := ⟨RX7, TX7, 5, rfl, by decide, (uw_m2 100 rfl rfl)⟩
set_option maxRecDepth 20000 in
theorem uf_X7_2 : ab_okF uw vwCl RX7 (18, 7, 4) := ⟨RX7, TX7, 5, rfl, by decide, (uw_m2 102 rfl rfl)⟩
set_option maxRecDepth 20000 in
theorem uf_X7_3 : ab_okF uw vwCl RX7 (21, 7, 0) := ⟨RX7, TX7, 5, rfl, by decide, (uw_m2 97 rfl rfl)⟩
set_option maxRecDepth 20000 in
theorem uf_X7_4 : ab_okF uw vwCl RX7 (25, 7, 1) := ⟨RX7, TX7, 5, rfl, by decide, (uw_m2 98 rfl rfl)⟩
set_option maxRecDepth 20000 in
theorem uf_X7_5 : ab_okF uw vwCl RX7 (29, 2, 8) := ⟨RX2, TX2, 12, rfl, by decide, (uw_m1 108 rfl rfl)⟩
set_option maxRecDepth 20000 in
theorem uf_X7_6 : ab_okF uw vwCl RX7 (35, 2, 6) := ⟨RX2, TX2, 12, rfl, by decide, (uw_m1 104 rfl rfl)⟩
set_option maxRecDepth 20000 in
theorem uf_X7_7 : ab_okF uw vwCl RX7 (38, 2, 5) := ⟨RX2, TX2, 12, rfl, by decide, (uw_m1 99 rfl rfl)⟩
set_option maxRecDepth 20000 in
theorem uf_X7_8 : ab_okF uw vwCl RX7 (47, 2, 3) := ⟨RX2, TX2, 12, rfl, by decide, (uw_m1 89 rfl rfl)⟩
set_option maxRecDepth 20000 in
theorem uf_X7_9 : ab_okF uw vwCl RX7 (66, 1, 5) := ⟨RX1, TX1, 8, rfl, by decide, (uw_m1 163 rfl rfl)⟩
set_option maxRecDepth 20000 in
theorem uf_X7_10 : ab_okF uw vwCl RX7 (69, 1, 6) := ⟨RX1, TX1, 8, rfl, by decide, (uw_m1 166 rfl rfl)⟩
set_option maxRecDepth 20000 in
theorem uf_X7_11 : ab_okF uw vwCl RX7 (82, 2, 1) := ⟨RX2, TX2, 12, rfl, by decide, (uw_m1 81 rfl rfl)⟩
set_option maxRecDepth 20000 in
theorem uf_X7_12 : ab_okF uw vwCl RX7 (85, 2, 4) := ⟨RX2, TX2, 12, rfl, by decide, (uw_m1 97 rfl rfl)⟩
def ufl_X7 : List ab_3 := [(9, 7, 2), (15, 7, 3), (18, 7, 4), (21, 7, 0), (25, 7, 1), (29, 2, 8), (35, 2, 6), (38, 2, 5), (47, 2, 3), (66, 1, 5), (69, 1, 6), (82, 2, 1), (85, 2, 4)]
set_option maxRecDepth 20000 in
theorem uf_X7 : ∀ q ∈ ufl_X7, ab_okF uw vwCl RX7 q := List.forall_mem_cons.mpr ⟨uf_X7_0, List.forall_mem_cons.mpr ⟨uf_X7_1, List.forall_mem_cons.mpr ⟨uf_X7_2, List.forall_mem_cons.mpr ⟨uf_X7_3, List.forall_mem_cons.mpr ⟨uf_X7_4, List.forall_mem_cons.mpr ⟨uf_X7_5, List.forall_mem_cons.mpr ⟨uf_X7_6, List.forall_mem_cons.mpr ⟨uf_X7_7, List.forall_mem_cons.mpr ⟨uf_X7_8, List.forall_mem_cons.mpr ⟨uf_X7_9, List.forall_mem_cons.mpr ⟨uf_X7_10, List.forall_mem_cons.mpr ⟨uf_X7_11, List.forall_mem_cons.mpr ⟨uf_X7_12, fun _ h => absurd h List.not_mem_nil⟩⟩⟩⟩⟩⟩⟩⟩⟩⟩⟩⟩⟩
def ukl_X7 : List ab_3 := []
set_option maxRecDepth 20000 in
theorem uk_X7 : ∀ q ∈ ukl_X7, ab_okK uw RX7 q := fun _ h => absurd h List.not_mem_nil
set_option maxRecDepth 20000 in
theorem uv_X7_0 : ab_okV uw vwCl prg RX7 (50, 24, 1) := ⟨mX2_bytesFrom, rfl, (uw_m4 204 rfl rfl), (uw_m3 126 rfl rfl), (uw_m3 127 rfl rfl), ⟨TX2, 12, rfl⟩, by decide +kernel⟩
set_option maxRecDepth 20000 in
theorem uv_X7_1 : ab_okV uw vwCl prg RX7 (54, 81, 1) := ⟨mX7_lengthOf, rfl, (uw_m4 200 rfl rfl), (uw_m4 202 rfl rfl), (uw_mem 46 (by decide +kernel) rfl), ⟨TX7, 5, rfl⟩, by decide +kernel⟩
set_option maxRecDepth 20000 in
theorem uv_X7_2 : ab_okV uw vwCl prg RX7 (57, 82, 1) := ⟨mX7_newOf, rfl, (uw_m4 196 rfl rfl), (uw_m4 198 rfl rfl), (uw_mem 45 (by decide +kernel) rfl), ⟨TX7, 5, rfl⟩, by decide +kernel⟩
set_option maxRecDepth 20000 in
theorem uv_X7_3 : ab_okV uw vwCl prg RX7 (60, 4, 2) := ⟨mX1_become, rfl, (uw_m4 213 rfl rfl), (uw_m3 47 rfl rfl), (uw_m3 48 rfl rfl), ⟨TX1, 8, rfl⟩, by decide +kernel⟩
set_option maxRecDepth 20000 in
theorem uv_X7_4 : ab_okV uw vwCl prg RX7 (72, 87, 3) := ⟨mX7_firstRun, rfl, (uw_m4 230 rfl rfl), (uw_m4 232 rfl rfl), (uw_mem 47 (by decide +kernel) rfl), ⟨TX7, 5, rfl⟩, by decide +kernel⟩
set_option maxRecDepth 20000 in
theorem uv_X7_5 : ab_okV uw vwCl prg RX7 (88, 91, 1) := ⟨mX7_maximalFrom, rfl, (uw_m5 23 rfl rfl), (uw_m5 25 rfl rfl), (uw_mem 48 (by decide +kernel) rfl), ⟨TX7, 5, rfl⟩, by decide +kernel⟩
set_option maxRecDepth 20000 in
theorem uv_X7_6 : ab_okV uw vwCl prg RX7 (91, 92, 2) := ⟨mX7_maximalLength, rfl, (uw_m5 27 rfl rfl), (uw_m5 29 rfl rfl), (uw_mem 49 (by decide +kernel) rfl), ⟨TX7, 5, rfl⟩, by decide +kernel⟩
set_option maxRecDepth 20000 in
theorem uv_X7_7 : ab_okV uw vwCl prg RX7 (94, 83, 1) := ⟨mX7_howManyOf, rfl, (uw_m5 39 rfl rfl), (uw_m4 193 rfl rfl), (uw_m4 194 rfl rfl), ⟨TX7, 5, rfl⟩, by decide +kernel⟩
def uvl_X7 : List ab_3 := [(50, 24, 1), (54, 81, 1), (57, 82, 1), (60, 4, 2), (72, 87, 3), (88, 91, 1), (91, 92, 2), (94, 83, 1)]
set_option maxRecDepth 20000 in
theorem uv_X7 : ∀ q ∈ uvl_X7, ab_okV uw vwCl prg RX7 q := List.forall_mem_cons.mpr ⟨uv_X7_0, List.forall_mem_cons.mpr ⟨uv_X7_1, List.forall_mem_cons.mpr ⟨uv_X7_2, List.forall_mem_cons.mpr ⟨uv_X7_3, List.forall_mem_cons.mpr ⟨uv_X7_4, List.forall_mem_cons.mpr ⟨uv_X7_5, List.forall_mem_cons.mpr ⟨uv_X7_6, List.forall_mem_cons.mpr ⟨uv_X7_7, fun _ h => absurd h List.not_mem_nil⟩⟩⟩⟩⟩⟩⟩⟩
set_option maxRecDepth 20000 in
theorem us_X7_0 : ab_okS uw vwCl prg RX7 (41, 1000, 2) := ⟨(uw_m3 21 rfl rfl), (uw_m3 11 rfl rfl), (uw_m1 15 rfl rfl), (uw_m3 12 rfl rfl)⟩
set_option maxRecDepth 20000 in
theorem us_X7_1 : ab_okS uw vwCl prg RX7 (76, 251, 2) := ⟨mJ7_fill_53178, rfl, (uw_m4 234 rfl rfl), (uw_m3 200 rfl rfl), by decide +kernel⟩
def usl_X7 : List ab_3 := [(41, 1000, 2), (76, 251, 2)]
set_option maxRecDepth 20000 in
theorem us_X7 : ∀ q ∈ usl_X7, ab_okS uw vwCl prg RX7 q := List.forall_mem_cons.mpr ⟨us_X7_0, List.forall_mem_cons.mpr ⟨us_X7_1, fun _ h => absurd h List.not_mem_nil⟩⟩
set_option maxRecDepth 20000 in
theorem uf_X8_0 : ab_okF uw vwCl RX8 (9, 8, 0) := ⟨RX8, TX8, 3, rfl, by decide, (uw_m1 64 rfl rfl)⟩
set_option maxRecDepth 20000 in
theorem uf_X8_1 : ab_okF uw vwCl RX8 (15, 8, 1) := ⟨RX8, TX8, 3, rfl, by decide, (uw_m1 65 rfl rfl)⟩
set_option maxRecDepth 20000 in
theorem uf_X8_2 : ab_okF uw vwCl RX8 (18, 8, 2) := ⟨RX8, TX8, 3, rfl, by decide, (uw_m1 66 rfl rfl)⟩
def ufl_X8 : List ab_3 := [(9, 8, 0), (15, 8, 1), (18, 8, 2)]
set_option maxRecDepth 20000 in
theorem uf_X8 : ∀ q ∈ ufl_X8, ab_okF uw vwCl RX8 q := List.forall_mem_cons.mpr ⟨uf_X8_0, List.forall_mem_cons.mpr ⟨uf_X8_1, List.forall_mem_cons.mpr ⟨uf_X8_2, fun _ h => absurd h List.not_mem_nil⟩⟩⟩
def ukl_X8 : List ab_3 := []
set_option maxRecDepth 20000 in
theorem uk_X8 : ∀ q ∈ ukl_X8, ab_okK uw RX8 q := fun _ h => absurd h List.not_mem_nil
set_option maxRecDepth 20000 in
theorem uv_X8_0 : ab_okV uw vwCl prg RX8 (21, 96, 4) := ⟨mX8_sortByRank, rfl, (uw_m2 225 rfl rfl), (uw_m2 227 rfl rfl), (uw_mem 0 (by decide +kernel) rfl), ⟨TX8, 3, rfl⟩, by decide +kernel⟩
set_option maxRecDepth 20000 in
theorem uv_X8_1 : ab_okV uw vwCl prg RX8 (25, 97, 4) := ⟨mX8_rankAnew, rfl, (uw_m2 230 rfl rfl), (uw_m2 232 rfl rfl), (uw_mem 1 (by decide +kernel) rfl), ⟨TX8, 3, rfl⟩, by decide +kernel⟩
set_option maxRecDepth 20000 in
theorem uv_X8_2 : ab_okV uw vwCl prg RX8 (29, 95, 3) := ⟨mX8_sortByHalves, rfl, (uw_m2 238 rfl rfl), (uw_m3 0 rfl rfl), (uw_mem 2 (by decide +kernel) rfl), ⟨TX8, 3, rfl⟩, by decide +kernel⟩
def uvl_X8 : List ab_3 := [(21, 96, 4), (25, 97, 4), (29, 95, 3)]
set_option maxRecDepth 20000 in
theorem uv_X8 : ∀ q ∈ uvl_X8, ab_okV uw vwCl prg RX8 q := List.forall_mem_cons.mpr ⟨uv_X8_0, List.forall_mem_cons.mpr ⟨uv_X8_1, List.forall_mem_cons.mpr ⟨uv_X8_2, fun _ h => absurd h List.not_mem_nil⟩⟩⟩
set_option maxRecDepth 20000 in
theorem us_X8_0 : ab_okS uw vwCl prg RX8 (33, 252, 4) := ⟨mJ7_fill_fda19, rfl, (uw_m2 229 rfl rfl), (uw_m2 212 rfl rfl), by decide +kernel⟩
set_option maxRecDepth 20000 in
theorem us_X8_1 : ab_okS uw vwCl prg RX8 (39, 98, 3) := ⟨mX8_rankAt, rfl, (uw_m2 234 rfl rfl), (uw_m2 235 rfl rfl), by decide +kernel⟩
set_option maxRecDepth 20000 in
theorem us_X8_2 : ab_okS uw vwCl prg RX8 (43, 1002, 5) := ⟨(uw_m2 237 rfl rfl), (uw_m2 193 rfl rfl), (uw_m2 192 rfl rfl), (uw_m1 13 rfl rfl)⟩
def usl_X8 : List ab_3 := [(33, 252, 4), (39, 98, 3), (43, 1002, 5)]
set_option maxRecDepth 20000 in
theorem us_X8 : ∀ q ∈ usl_X8, ab_okS uw vwCl prg RX8 q := List.forall_mem_cons.mpr ⟨us_X8_0, List.forall_mem_cons.mpr ⟨us_X8_1, List.forall_mem_cons.mpr ⟨us_X8_2, fun _ h => absurd h List.not_mem_nil⟩⟩⟩
set_option maxRecDepth 20000 in
theorem uf_X9_0 : ab_okF uw vwCl RX9 (11, 9, 1) := ⟨RX9, TX9, 8, rfl, by decide, (uw_m2 28 rfl rfl)⟩
set_option maxRecDepth 20000 in
theorem uf_X9_1 : ab_okF uw vwCl RX9 (15, 9, 2) := ⟨RX9, TX9, 8, rfl, by decide, (uw_m2 30 rfl rfl)⟩
set_option maxRecDepth 20000 in
theorem uf_X9_2 : ab_okF uw vwCl RX9 (18, 9, 3) := ⟨RX9, TX9, 8, rfl, by decide, (uw_m2 32 rfl rfl)⟩
set_option maxRecDepth 20000 in
theorem uf_X9_3 : ab_okF uw vwCl RX9 (21, 9, 4) := ⟨RX9, TX9, 8, rfl, by decide, (uw_m2 34 rfl rfl)⟩
set_option maxRecDepth 20000 in
theorem uf_X9_4 : ab_okF uw vwCl RX9 (25, 9, 5) := ⟨RX9, TX9, 8, rfl, by decide, (uw_m2 36 rfl rfl)⟩
set_option maxRecDepth 20000 in
theorem uf_X9_5 : ab_okF uw vwCl RX9 (28, 9, 0) := ⟨RX9, TX9, 8, rfl, by decide, (uw_m2 27 rfl rfl)⟩
set_option maxRecDepth 20000 in
theorem uf_X9_6 : ab_okF uw vwCl RX9 (32, 9, 6) := ⟨RX9, TX9, 8, rfl, by decide, (uw_m2 38 rfl rfl)⟩
set_option maxRecDepth 20000 in
theorem uf_X9_7 : ab_okF uw vwCl RX9 (36, 9, 7) := ⟨RX9, TX9, 8, rfl, by decide, (uw_m2 39 rfl rfl)⟩
set_option maxRecDepth 20000 in
theorem uf_X9_8 : ab_okF uw vwCl RX9 (43, 6, 6) := ⟨RX6, TX6, 9, rfl, by decide, (uw_m1 230 rfl rfl)⟩
set_option maxRecDepth 20000 in
theorem uf_X9_9 : ab_okF uw vwCl RX9 (48, 6, 0) := ⟨RX6, TX6, 9, rfl, by decide, (uw_m1 219 rfl rfl)⟩
set_option maxRecDepth 20000 in
theorem uf_X9_10 : ab_okF uw vwCl RX9 (62, 6, 1) := ⟨RX6, TX6, 9, rfl, by decide, (uw_m1 221 rfl rfl)⟩
set_option maxRecDepth 20000 in
theorem uf_X9_11 : ab_okF uw vwCl RX9 (71, 6, 2) := ⟨RX6, TX6, 9, rfl, by decide, (uw_m1 223 rfl rfl)⟩
set_option maxRecDepth 20000 in
theorem uf_X9_12 : ab_okF uw vwCl RX9 (85, 6, 3) := ⟨RX6, TX6, 9, rfl, by decide, (uw_m1 225 rfl rfl)⟩
set_option maxRecDepth 20000 in
theorem uf_X9_13 : ab_okF uw vwCl RX9 (88, 6, 4) := ⟨RX6, TX6, 9, rfl, by decide, (uw_m1 227 rfl rfl)⟩
def ufl_X9 : List ab_3 := [(11, 9, 1), (15, 9, 2), (18, 9, 3), (21, 9, 4), (25, 9, 5), (28, 9, 0), (32, 9, 6), (36, 9, 7), (43, 6, 6), (48, 6, 0), (62, 6, 1), (71, 6, 2), (85, 6, 3), (88, 6, 4)]
set_option maxRecDepth 20000 in
theorem uf_X9 : ∀ q ∈ ufl_X9, ab_okF uw vwCl RX9 q := List.forall_mem_cons.mpr ⟨uf_X9_0, List.forall_mem_cons.mpr ⟨uf_X9_1, List.forall_mem_cons.mpr ⟨uf_X9_2, List.forall_mem_cons.mpr ⟨uf_X9_3, List.forall_mem_cons.mpr ⟨uf_X9_4, List.forall_mem_cons.mpr ⟨uf_X9_5, List.forall_mem_cons.mpr ⟨uf_X9_6, List.forall_mem_cons.mpr ⟨uf_X9_7, List.forall_mem_cons.mpr ⟨uf_X9_8, List.forall_mem_cons.mpr ⟨uf_X9_9, List.forall_mem_cons.mpr ⟨uf_X9_10, List.forall_mem_cons.mpr ⟨uf_X9_11, List.forall_mem_cons.mpr ⟨uf_X9_12, List.forall_mem_cons.mpr ⟨uf_X9_13, fun _ h => absurd h List.not_mem_nil⟩⟩⟩⟩⟩⟩⟩⟩⟩⟩⟩⟩⟩⟩
def ukl_X9 : List ab_3 := []
set_option maxRecDepth 20000 in
theorem uk_X9 : ∀ q ∈ ukl_X9, ab_okK uw RX9 q := fun _ h => absurd h List.not_mem_nil
set_option maxRecDepth 20000 in
theorem uv_X9_0 : ab_okV uw vwCl prg RX9 (39, 101, 1) := ⟨mX9_growSum, rfl, (uw_m4 118 rfl rfl), (uw_m4 120 rfl rfl), (uw_mem 33 (by decide +kernel) rfl), ⟨TX9, 8, rfl⟩, by decide +kernel⟩
set_option maxRecDepth 20000 in
theorem uv_X9_1 : ab_okV uw vwCl prg RX9 (51, 102, 1) := ⟨mX9_growRow, rfl, (uw_m4 122 rfl rfl), (uw_m4 124 rfl rfl), (uw_mem 34 (by decide +kernel) rfl), ⟨TX9, 8, rfl⟩, by decide +kernel⟩
set_option maxRecDepth 20000 in
theorem uv_X9_2 : ab_okV uw vwCl prg RX9 (54, 100, 1) := ⟨mX9_comes, rfl, (uw_m4 126 rfl rfl), (uw_m4 128 rfl rfl), (uw_mem 35 (by decide +kernel) rfl), ⟨TX9, 8, rfl⟩, by decide +kernel⟩
set_option maxRecDepth 20000 in
theorem uv_X9_3 : ab_okV uw vwCl prg RX9 (58, 106, 2) := ⟨mX9_choice, rfl, (uw_m4 148 rfl rfl), (uw_m4 150 rfl rfl), (uw_mem 40 (by decide +kernel) rfl), ⟨TX9, 8, rfl⟩, by decide +kernel⟩
set_option maxRecDepth 20000 in
theorem uv_X9_4 : ab_okV uw vwCl prg RX9 (65, 103, 2) := ⟨mX9_growItem, rfl, (uw_m4 130 rfl rfl), (uw_m4 132 rfl rfl), (uw_mem 36 (by decide +kernel) rfl), ⟨TX9, 8, rfl⟩, by decide +kernel⟩
set_option maxRecDepth 20000 in
theorem uv_X9_5 : ab_okV uw vwCl prg RX9 (68, 105, 2) := ⟨mX9_joined, rfl, (uw_m4 143 rfl rfl), (uw_m4 145 rfl rfl), (uw_mem 39 (by decide +kernel) rfl), ⟨TX9, 8, rfl⟩, by decide +kernel⟩
set_option maxRecDepth 20000 in
theorem uv_X9_6 : ab_okV uw vwCl prg RX9 (79, 64, 1) := ⟨mX6_copies, rfl, (uw_m4 134 rfl rfl), (uw_m4 101 rfl rfl), (uw_m4 102 rfl rfl), ⟨TX6, 9, rfl⟩, by decide +kernel⟩
set_option maxRecDepth 20000 in
theorem uv_X9_7 : ab_okV uw vwCl prg RX9 (82, 104, 2) := ⟨mX9_growAtom, rfl, (uw_m4 135 rfl rfl), (uw_m4 137 rfl rfl), (uw_mem 37 (by decide +kernel) rfl), ⟨TX9, 8, rfl⟩, by decide +kernel⟩
set_option maxRecDepth 20000 in
theorem uv_X9_8 : ab_okV uw vwCl prg RX9 (91, 107, 4) := ⟨mX9_node, rfl, (uw_m4 139 rfl rfl), (uw_m4 141 rfl rfl), (uw_mem 38 (by decide +kernel) rfl), ⟨TX9, 8, rfl⟩, by decide +kernel⟩
def uvl_X9 : List ab_3 := [(39, 101, 1), (51, 102, 1), (54, 100, 1), (58, 106, 2), (65, 103, 2), (68, 105, 2), (79, 64, 1), (82, 104, 2), (91, 107, 4)]
set_option maxRecDepth 20000 in
theorem uv_X9 : ∀ q ∈ uvl_X9, ab_okV uw vwCl prg RX9 q := List.forall_mem_cons.mpr ⟨uv_X9_0, List.forall_mem_cons.mpr ⟨uv_X9_1, List.forall_mem_cons.mpr ⟨uv_X9_2, List.forall_mem_cons.mpr ⟨uv_X9_3, List.forall_mem_cons.mpr ⟨uv_X9_4, List.forall_mem_cons.mpr ⟨uv_X9_5, List.forall_mem_cons.mpr ⟨uv_X9_6, List.forall_mem_cons.mpr ⟨uv_X9_7, List.forall_mem_cons.mpr ⟨uv_X9_8, fun _ h => absurd h List.not_mem_nil⟩⟩⟩⟩⟩⟩⟩⟩⟩
set_option maxRecDepth 20000 in
theorem us_X9_0 : ab_okS uw vwCl prg RX9 (74, 1000, 2) := ⟨(uw_m4 147 rfl rfl), (uw_m3 11 rfl rfl), (uw_m1 15 rfl rfl), (uw_m3 12 rfl rfl)⟩
def usl_X9 : List ab_3 := [(74, 1000, 2)]
set_option maxRecDepth 20000 in
theorem us_X9 : ∀ q ∈ usl_X9, ab_okS uw vwCl prg RX9 q := List.forall_mem_cons.mpr ⟨us_X9_0, fun _ h => absurd h List.not_mem_nil⟩
