/-! ===== every method's code is as the small machine has it ===== -/
set_option maxRecDepth 20000 in
theorem ux_X0_addFour : ab_cd uw vwCl prg mX0_addFour := ab_bM_of uf_X0 uk_X0 uv_X0 us_X0 (FL := ufl_X0) (KL := ukl_X0) (VL := uvl_X0) (SL := usl_X0) (by decide +kernel)
set_option maxRecDepth 20000 in
theorem ux_X0_keepOfLast : ab_cd uw vwCl prg mX0_keepOfLast := ab_bM_of uf_X0 uk_X0 uv_X0 us_X0 (FL := ufl_X0) (KL := ukl_X0) (VL := uvl_X0) (SL := usl_X0) (by decide +kernel)
set_option maxRecDepth 20000 in
theorem ux_X0_endDocument : ab_cd uw vwCl prg mX0_endDocument := ab_bM_of uf_X0 uk_X0 uv_X0 us_X0 (FL := ufl_X0) (KL := ukl_X0) (VL := uvl_X0) (SL := usl_X0) (by decide +kernel)
set_option maxRecDepth 20000 in
theorem ux_X0_dropAll : ab_cd uw vwCl prg mX0_dropAll := ab_bM_of uf_X0 uk_X0 uv_X0 us_X0 (FL := ufl_X0) (KL := ukl_X0) (VL := uvl_X0) (SL := usl_X0) (by decide +kernel)
set_option maxRecDepth 20000 in
theorem ux_X1_become : ab_cd uw vwCl prg mX1_become := ab_bM_of uf_X1 uk_X1 uv_X1 us_X1 (FL := ufl_X1) (KL := ukl_X1) (VL := uvl_X1) (SL := usl_X1) (by decide +kernel)
set_option maxRecDepth 20000 in
theorem ux_X1_stand : ab_cd uw vwCl prg mX1_stand := ab_bM_of uf_X1 uk_X1 uv_X1 us_X1 (FL := ufl_X1) (KL := ukl_X1) (VL := uvl_X1) (SL := usl_X1) (by decide +kernel)
set_option maxRecDepth 20000 in
theorem ux_X1_rows : ab_cd uw vwCl prg mX1_rows := ab_bM_of uf_X1 uk_X1 uv_X1 us_X1 (FL := ufl_X1) (KL := ukl_X1) (VL := uvl_X1) (SL := usl_X1) (by decide +kernel)
set_option maxRecDepth 20000 in
theorem ux_X1_beside : ab_cd uw vwCl prg mX1_beside := ab_bM_of uf_X1 uk_X1 uv_X1 us_X1 (FL := ufl_X1) (KL := ukl_X1) (VL := uvl_X1) (SL := usl_X1) (by decide +kernel)
set_option maxRecDepth 20000 in
theorem ux_X1_extend : ab_cd uw vwCl prg mX1_extend := ab_bM_of uf_X1 uk_X1 uv_X1 us_X1 (FL := ufl_X1) (KL := ukl_X1) (VL := uvl_X1) (SL := usl_X1) (by decide +kernel)
set_option maxRecDepth 20000 in
theorem ux_X1_undo : ab_cd uw vwCl prg mX1_undo := ab_bM_of uf_X1 uk_X1 uv_X1 us_X1 (FL := ufl_X1) (KL := ukl_X1) (VL := uvl_X1) (SL := usl_X1) (by decide +kernel)
set_option maxRecDepth 20000 in
theorem ux_X1_placeInOrder : ab_cd uw vwCl prg mX1_placeInOrder := ab_bM_of uf_X1 uk_X1 uv_X1 us_X1 (FL := ufl_X1) (KL := ukl_X1) (VL := uvl_X1) (SL := usl_X1) (by decide +kernel)
set_option maxRecDepth 20000 in
theorem ux_X1_neighbour : ab_cd uw vwCl prg mX1_neighbour := ab_bM_of uf_X1 uk_X1 uv_X1 us_X1 (FL := ufl_X1) (KL := ukl_X1) (VL := uvl_X1) (SL := usl_X1) (by decide +kernel)
set_option maxRecDepth 20000 in
theorem ux_X1_placesIn : ab_cd uw vwCl prg mX1_placesIn := ab_bM_of uf_X1 uk_X1 uv_X1 us_X1 (FL := ufl_X1) (KL := ukl_X1) (VL := uvl_X1) (SL := usl_X1) (by decide +kernel)
set_option maxRecDepth 20000 in
theorem ux_X1_countByDocument : ab_cd uw vwCl prg mX1_countByDocument := ab_bM_of uf_X1 uk_X1 uv_X1 us_X1 (FL := ufl_X1) (KL := ukl_X1) (VL := uvl_X1) (SL := usl_X1) (by decide +kernel)
set_option maxRecDepth 20000 in
theorem ux_X1_documentInOrder : ab_cd uw vwCl prg mX1_documentInOrder := ab_bM_of uf_X1 uk_X1 uv_X1 us_X1 (FL := ufl_X1) (KL := ukl_X1) (VL := uvl_X1) (SL := usl_X1) (by decide +kernel)
set_option maxRecDepth 20000 in
theorem ux_X1_documentsAheadOf : ab_cd uw vwCl prg mX1_documentsAheadOf := ab_bM_of uf_X1 uk_X1 uv_X1 us_X1 (FL := ufl_X1) (KL := ukl_X1) (VL := uvl_X1) (SL := usl_X1) (by decide +kernel)
set_option maxRecDepth 20000 in
theorem ux_X2_learn : ab_cd uw vwCl prg mX2_learn := ab_bM_of uf_X2 uk_X2 uv_X2 us_X2 (FL := ufl_X2) (KL := ukl_X2) (VL := uvl_X2) (SL := usl_X2) (by decide +kernel)
set_option maxRecDepth 20000 in
theorem ux_X2_learnAlikes : ab_cd uw vwCl prg mX2_learnAlikes := ab_bM_of uf_X2 uk_X2 uv_X2 us_X2 (FL := ufl_X2) (KL := ukl_X2) (VL := uvl_X2) (SL := usl_X2) (by decide +kernel)
set_option maxRecDepth 20000 in
theorem ux_X2_learnFronts : ab_cd uw vwCl prg mX2_learnFronts := ab_bM_of uf_X2 uk_X2 uv_X2 us_X2 (FL := ufl_X2) (KL := ukl_X2) (VL := uvl_X2) (SL := usl_X2) (by decide +kernel)
set_option maxRecDepth 20000 in
theorem ux_X2_alikeBehind : ab_cd uw vwCl prg mX2_alikeBehind := ab_bM_of uf_X2 uk_X2 uv_X2 us_X2 (FL := ufl_X2) (KL := ukl_X2) (VL := uvl_X2) (SL := usl_X2) (by decide +kernel)
set_option maxRecDepth 20000 in
theorem ux_X2_alikeFrom : ab_cd uw vwCl prg mX2_alikeFrom := ab_bM_of uf_X2 uk_X2 uv_X2 us_X2 (FL := ufl_X2) (KL := ukl_X2) (VL := uvl_X2) (SL := usl_X2) (by decide +kernel)
set_option maxRecDepth 20000 in
theorem ux_X2_has : ab_cd uw vwCl prg mX2_has := ab_bM_of uf_X2 uk_X2 uv_X2 us_X2 (FL := ufl_X2) (KL := ukl_X2) (VL := uvl_X2) (SL := usl_X2) (by decide +kernel)
set_option maxRecDepth 20000 in
theorem ux_X2_hasDocument : ab_cd uw vwCl prg mX2_hasDocument := ab_bM_of uf_X2 uk_X2 uv_X2 us_X2 (FL := ufl_X2) (KL := ukl_X2) (VL := uvl_X2) (SL := usl_X2) (by decide +kernel)
set_option maxRecDepth 20000 in
theorem ux_X2_endOf : ab_cd uw vwCl prg mX2_endOf := ab_bM_of uf_X2 uk_X2 uv_X2 us_X2 (FL := ufl_X2) (KL := ukl_X2) (VL := uvl_X2) (SL := usl_X2) (by decide +kernel)
set_option maxRecDepth 20000 in
theorem ux_X2_bytesFrom : ab_cd uw vwCl prg mX2_bytesFrom := ab_bM_of uf_X2 uk_X2 uv_X2 us_X2 (FL := ufl_X2) (KL := ukl_X2) (VL := uvl_X2) (SL := usl_X2) (by decide +kernel)
set_option maxRecDepth 20000 in
theorem ux_X2_byteOf : ab_cd uw vwCl prg mX2_byteOf := ab_bM_of uf_X2 uk_X2 uv_X2 us_X2 (FL := ufl_X2) (KL := ukl_X2) (VL := uvl_X2) (SL := usl_X2) (by decide +kernel)
set_option maxRecDepth 20000 in
theorem ux_X2_tell : ab_cd uw vwCl prg mX2_tell := ab_bM_of uf_X2 uk_X2 uv_X2 us_X2 (FL := ufl_X2) (KL := ukl_X2) (VL := uvl_X2) (SL := usl_X2) (by decide +kernel)
set_option maxRecDepth 20000 in
theorem ux_X2_rowInFront : ab_cd uw vwCl prg mX2_rowInFront := ab_bM_of uf_X2 uk_X2 uv_X2 us_X2 (FL := ufl_X2) (KL := ukl_X2) (VL := uvl_X2) (SL := usl_X2) (by decide +kernel)
set_option maxRecDepth 20000 in
theorem ux_X2_frontsUpTo : ab_cd uw vwCl prg mX2_frontsUpTo := ab_bM_of uf_X2 uk_X2 uv_X2 us_X2 (FL := ufl_X2) (KL := ukl_X2) (VL := uvl_X2) (SL := usl_X2) (by decide +kernel)
set_option maxRecDepth 20000 in
theorem ux_X2_rowOfFront : ab_cd uw vwCl prg mX2_rowOfFront := ab_bM_of uf_X2 uk_X2 uv_X2 us_X2 (FL := ufl_X2) (KL := ukl_X2) (VL := uvl_X2) (SL := usl_X2) (by decide +kernel)
set_option maxRecDepth 20000 in
theorem ux_X2_sumOfAlikes : ab_cd uw vwCl prg mX2_sumOfAlikes := ab_bM_of uf_X2 uk_X2 uv_X2 us_X2 (FL := ufl_X2) (KL := ukl_X2) (VL := uvl_X2) (SL := usl_X2) (by decide +kernel)
set_option maxRecDepth 20000 in
theorem ux_X2_greatestAlike : ab_cd uw vwCl prg mX2_greatestAlike := ab_bM_of uf_X2 uk_X2 uv_X2 us_X2 (FL := ufl_X2) (KL := ukl_X2) (VL := uvl_X2) (SL := usl_X2) (by decide +kernel)
set_option maxRecDepth 20000 in
theorem ux_X3_forget : ab_cd uw vwCl prg mX3_forget := ab_bM_of uf_X3 uk_X3 uv_X3 us_X3 (FL := ufl_X3) (KL := ukl_X3) (VL := uvl_X3) (SL := usl_X3) (by decide +kernel)
set_option maxRecDepth 20000 in
theorem ux_X3_found : ab_cd uw vwCl prg mX3_found := ab_bM_of uf_X3 uk_X3 uv_X3 us_X3 (FL := ufl_X3) (KL := ukl_X3) (VL := uvl_X3) (SL := usl_X3) (by decide +kernel)
set_option maxRecDepth 20000 in
theorem ux_X3_tellFound : ab_cd uw vwCl prg mX3_tellFound := ab_bM_of uf_X3 uk_X3 uv_X3 us_X3 (FL := ufl_X3) (KL := ukl_X3) (VL := uvl_X3) (SL := usl_X3) (by decide +kernel)
set_option maxRecDepth 20000 in
theorem ux_X3_answerQuery : ab_cd uw vwCl prg mX3_answerQuery := ab_bM_of uf_X3 uk_X3 uv_X3 us_X3 (FL := ufl_X3) (KL := ukl_X3) (VL := uvl_X3) (SL := usl_X3) (by decide +kernel)
set_option maxRecDepth 20000 in
theorem ux_X3_goUp : ab_cd uw vwCl prg mX3_goUp := ab_bM_of uf_X3 uk_X3 uv_X3 us_X3 (FL := ufl_X3) (KL := ukl_X3) (VL := uvl_X3) (SL := usl_X3) (by decide +kernel)
set_option maxRecDepth 20000 in
theorem ux_X3_goDown : ab_cd uw vwCl prg mX3_goDown := ab_bM_of uf_X3 uk_X3 uv_X3 us_X3 (FL := ufl_X3) (KL := ukl_X3) (VL := uvl_X3) (SL := usl_X3) (by decide +kernel)
set_option maxRecDepth 20000 in
theorem ux_X3_goDownLeft : ab_cd uw vwCl prg mX3_goDownLeft := ab_bM_of uf_X3 uk_X3 uv_X3 us_X3 (FL := ufl_X3) (KL := ukl_X3) (VL := uvl_X3) (SL := usl_X3) (by decide +kernel)
set_option maxRecDepth 20000 in
theorem ux_X3_goDownTo : ab_cd uw vwCl prg mX3_goDownTo := ab_bM_of uf_X3 uk_X3 uv_X3 us_X3 (FL := ufl_X3) (KL := ukl_X3) (VL := uvl_X3) (SL := usl_X3) (by decide +kernel)
set_option maxRecDepth 20000 in
theorem ux_X4_find : ab_cd uw vwCl prg mX4_find := ab_bM_of uf_X4 uk_X4 uv_X4 us_X4 (FL := ufl_X4) (KL := ukl_X4) (VL := uvl_X4) (SL := usl_X4) (by decide +kernel)
set_option maxRecDepth 20000 in
theorem ux_X4_differAt : ab_cd uw vwCl prg mX4_differAt := ab_bM_of uf_X4 uk_X4 uv_X4 us_X4 (FL := ufl_X4) (KL := ukl_X4) (VL := uvl_X4) (SL := usl_X4) (by decide +kernel)
set_option maxRecDepth 20000 in
theorem ux_X5_learn : ab_cd uw vwCl prg mX5_learn := ab_bM_of uf_X5 uk_X5 uv_X5 us_X5 (FL := ufl_X5) (KL := ukl_X5) (VL := uvl_X5) (SL := usl_X5) (by decide +kernel)
set_option maxRecDepth 20000 in
theorem ux_X5_learnEarlier : ab_cd uw vwCl prg mX5_learnEarlier := ab_bM_of uf_X5 uk_X5 uv_X5 us_X5 (FL := ufl_X5) (KL := ukl_X5) (VL := uvl_X5) (SL := usl_X5) (by decide +kernel)
set_option maxRecDepth 20000 in
theorem ux_X5_mirrored : ab_cd uw vwCl prg mX5_mirrored := ab_bM_of uf_X5 uk_X5 uv_X5 us_X5 (FL := ufl_X5) (KL := ukl_X5) (VL := uvl_X5) (SL := usl_X5) (by decide +kernel)
set_option maxRecDepth 20000 in
theorem ux_X5_learnReaches : ab_cd uw vwCl prg mX5_learnReaches := ab_bM_of uf_X5 uk_X5 uv_X5 us_X5 (FL := ufl_X5) (KL := ukl_X5) (VL := uvl_X5) (SL := usl_X5) (by decide +kernel)
set_option maxRecDepth 20000 in
theorem ux_X5_learnGapReaches : ab_cd uw vwCl prg mX5_learnGapReaches := ab_bM_of uf_X5 uk_X5 uv_X5 us_X5 (FL := ufl_X5) (KL := ukl_X5) (VL := uvl_X5) (SL := usl_X5) (by decide +kernel)
set_option maxRecDepth 20000 in
theorem ux_X5_factors : ab_cd uw vwCl prg mX5_factors := ab_bM_of uf_X5 uk_X5 uv_X5 us_X5 (FL := ufl_X5) (KL := ukl_X5) (VL := uvl_X5) (SL := usl_X5) (by decide +kernel)
set_option maxRecDepth 20000 in
theorem ux_X5_tellFactor : ab_cd uw vwCl prg mX5_tellFactor := ab_bM_of uf_X5 uk_X5 uv_X5 us_X5 (FL := ufl_X5) (KL := ukl_X5) (VL := uvl_X5) (SL := usl_X5) (by decide +kernel)
set_option maxRecDepth 20000 in
theorem ux_X5_leastEarlier : ab_cd uw vwCl prg mX5_leastEarlier := ab_bM_of uf_X5 uk_X5 uv_X5 us_X5 (FL := ufl_X5) (KL := ukl_X5) (VL := uvl_X5) (SL := usl_X5) (by decide +kernel)
set_option maxRecDepth 20000 in
theorem ux_X5_fallingWord : ab_cd uw vwCl prg mX5_fallingWord := ab_bM_of uf_X5 uk_X5 uv_X5 us_X5 (FL := ufl_X5) (KL := ukl_X5) (VL := uvl_X5) (SL := usl_X5) (by decide +kernel)
set_option maxRecDepth 20000 in
theorem ux_X5_periodOfWords : ab_cd uw vwCl prg mX5_periodOfWords := ab_bM_of uf_X5 uk_X5 uv_X5 us_X5 (FL := ufl_X5) (KL := ukl_X5) (VL := uvl_X5) (SL := usl_X5) (by decide +kernel)
set_option maxRecDepth 20000 in
theorem ux_X5_endOfWords : ab_cd uw vwCl prg mX5_endOfWords := ab_bM_of uf_X5 uk_X5 uv_X5 us_X5 (FL := ufl_X5) (KL := ukl_X5) (VL := uvl_X5) (SL := usl_X5) (by decide +kernel)
set_option maxRecDepth 20000 in
theorem ux_X5_leastTwice : ab_cd uw vwCl prg mX5_leastTwice := ab_bM_of uf_X5 uk_X5 uv_X5 us_X5 (FL := ufl_X5) (KL := ukl_X5) (VL := uvl_X5) (SL := usl_X5) (by decide +kernel)
set_option maxRecDepth 20000 in
theorem ux_X5_nearer : ab_cd uw vwCl prg mX5_nearer := ab_bM_of uf_X5 uk_X5 uv_X5 us_X5 (FL := ufl_X5) (KL := ukl_X5) (VL := uvl_X5) (SL := usl_X5) (by decide +kernel)
set_option maxRecDepth 20000 in
theorem ux_X5_longestMirror : ab_cd uw vwCl prg mX5_longestMirror := ab_bM_of uf_X5 uk_X5 uv_X5 us_X5 (FL := ufl_X5) (KL := ukl_X5) (VL := uvl_X5) (SL := usl_X5) (by decide +kernel)
set_option maxRecDepth 20000 in
theorem ux_X5_longestIn : ab_cd uw vwCl prg mX5_longestIn := ab_bM_of uf_X5 uk_X5 uv_X5 us_X5 (FL := ufl_X5) (KL := ukl_X5) (VL := uvl_X5) (SL := usl_X5) (by decide +kernel)
set_option maxRecDepth 20000 in
theorem ux_X6_add : ab_cd uw vwCl prg mX6_add := ab_bM_of uf_X6 uk_X6 uv_X6 us_X6 (FL := ufl_X6) (KL := ukl_X6) (VL := uvl_X6) (SL := usl_X6) (by decide +kernel)
set_option maxRecDepth 20000 in
theorem ux_X6_read : ab_cd uw vwCl prg mX6_read := ab_bM_of uf_X6 uk_X6 uv_X6 us_X6 (FL := ufl_X6) (KL := ukl_X6) (VL := uvl_X6) (SL := usl_X6) (by decide +kernel)
set_option maxRecDepth 20000 in
theorem ux_X6_comes : ab_cd uw vwCl prg mX6_comes := ab_bM_of uf_X6 uk_X6 uv_X6 us_X6 (FL := ufl_X6) (KL := ukl_X6) (VL := uvl_X6) (SL := usl_X6) (by decide +kernel)
set_option maxRecDepth 20000 in
theorem ux_X6_goesOn : ab_cd uw vwCl prg mX6_goesOn := ab_bM_of uf_X6 uk_X6 uv_X6 us_X6 (FL := ufl_X6) (KL := ukl_X6) (VL := uvl_X6) (SL := usl_X6) (by decide +kernel)
set_option maxRecDepth 20000 in
theorem ux_X6_bounded : ab_cd uw vwCl prg mX6_bounded := ab_bM_of uf_X6 uk_X6 uv_X6 us_X6 (FL := ufl_X6) (KL := ukl_X6) (VL := uvl_X6) (SL := usl_X6) (by decide +kernel)
set_option maxRecDepth 20000 in
theorem ux_X6_readSum : ab_cd uw vwCl prg mX6_readSum := ab_bM_of uf_X6 uk_X6 uv_X6 us_X6 (FL := ufl_X6) (KL := ukl_X6) (VL := uvl_X6) (SL := usl_X6) (by decide +kernel)
set_option maxRecDepth 20000 in
theorem ux_X6_readItem : ab_cd uw vwCl prg mX6_readItem := ab_bM_of uf_X6 uk_X6 uv_X6 us_X6 (FL := ufl_X6) (KL := ukl_X6) (VL := uvl_X6) (SL := usl_X6) (by decide +kernel)
set_option maxRecDepth 20000 in
theorem ux_X6_copies : ab_cd uw vwCl prg mX6_copies := ab_bM_of uf_X6 uk_X6 uv_X6 us_X6 (FL := ufl_X6) (KL := ukl_X6) (VL := uvl_X6) (SL := usl_X6) (by decide +kernel)
set_option maxRecDepth 20000 in
theorem ux_X6_readAtom : ab_cd uw vwCl prg mX6_readAtom := ab_bM_of uf_X6 uk_X6 uv_X6 us_X6 (FL := ufl_X6) (KL := ukl_X6) (VL := uvl_X6) (SL := usl_X6) (by decide +kernel)
set_option maxRecDepth 20000 in
theorem ux_X6_readPlain : ab_cd uw vwCl prg mX6_readPlain := ab_bM_of uf_X6 uk_X6 uv_X6 us_X6 (FL := ufl_X6) (KL := ukl_X6) (VL := uvl_X6) (SL := usl_X6) (by decide +kernel)
set_option maxRecDepth 20000 in
theorem ux_X6_readBrackets : ab_cd uw vwCl prg mX6_readBrackets := ab_bM_of uf_X6 uk_X6 uv_X6 us_X6 (FL := ufl_X6) (KL := ukl_X6) (VL := uvl_X6) (SL := usl_X6) (by decide +kernel)
set_option maxRecDepth 20000 in
theorem ux_X6_readSign : ab_cd uw vwCl prg mX6_readSign := ab_bM_of uf_X6 uk_X6 uv_X6 us_X6 (FL := ufl_X6) (KL := ukl_X6) (VL := uvl_X6) (SL := usl_X6) (by decide +kernel)
set_option maxRecDepth 20000 in
theorem ux_X6_readByte : ab_cd uw vwCl prg mX6_readByte := ab_bM_of uf_X6 uk_X6 uv_X6 us_X6 (FL := ufl_X6) (KL := ukl_X6) (VL := uvl_X6) (SL := usl_X6) (by decide +kernel)
set_option maxRecDepth 20000 in
theorem ux_X6_readRanges : ab_cd uw vwCl prg mX6_readRanges := ab_bM_of uf_X6 uk_X6 uv_X6 us_X6 (FL := ufl_X6) (KL := ukl_X6) (VL := uvl_X6) (SL := usl_X6) (by decide +kernel)
set_option maxRecDepth 20000 in
theorem ux_X6_readRange : ab_cd uw vwCl prg mX6_readRange := ab_bM_of uf_X6 uk_X6 uv_X6 us_X6 (FL := ufl_X6) (KL := ukl_X6) (VL := uvl_X6) (SL := usl_X6) (by decide +kernel)
set_option maxRecDepth 20000 in
theorem ux_X6_readRangeByte : ab_cd uw vwCl prg mX6_readRangeByte := ab_bM_of uf_X6 uk_X6 uv_X6 us_X6 (FL := ufl_X6) (KL := ukl_X6) (VL := uvl_X6) (SL := usl_X6) (by decide +kernel)
set_option maxRecDepth 20000 in
theorem ux_X6_addBytes : ab_cd uw vwCl prg mX6_addBytes := ab_bM_of uf_X6 uk_X6 uv_X6 us_X6 (FL := ufl_X6) (KL := ukl_X6) (VL := uvl_X6) (SL := usl_X6) (by decide +kernel)
set_option maxRecDepth 20000 in
theorem ux_X6_mayBe : ab_cd uw vwCl prg mX6_mayBe := ab_bM_of uf_X6 uk_X6 uv_X6 us_X6 (FL := ufl_X6) (KL := ukl_X6) (VL := uvl_X6) (SL := usl_X6) (by decide +kernel)
set_option maxRecDepth 20000 in
theorem ux_X6_readRepeat : ab_cd uw vwCl prg mX6_readRepeat := ab_bM_of uf_X6 uk_X6 uv_X6 us_X6 (FL := ufl_X6) (KL := ukl_X6) (VL := uvl_X6) (SL := usl_X6) (by decide +kernel)
set_option maxRecDepth 20000 in
theorem ux_X6_repeat : ab_cd uw vwCl prg mX6_repeat := ab_bM_of uf_X6 uk_X6 uv_X6 us_X6 (FL := ufl_X6) (KL := ukl_X6) (VL := uvl_X6) (SL := usl_X6) (by decide +kernel)
set_option maxRecDepth 20000 in
theorem ux_X6_readNumbers : ab_cd uw vwCl prg mX6_readNumbers := ab_bM_of uf_X6 uk_X6 uv_X6 us_X6 (FL := ufl_X6) (KL := ukl_X6) (VL := uvl_X6) (SL := usl_X6) (by decide +kernel)
set_option maxRecDepth 20000 in
theorem ux_X6_readNumber : ab_cd uw vwCl prg mX6_readNumber := ab_bM_of uf_X6 uk_X6 uv_X6 us_X6 (FL := ufl_X6) (KL := ukl_X6) (VL := uvl_X6) (SL := usl_X6) (by decide +kernel)
set_option maxRecDepth 20000 in
theorem ux_X6_figureComes : ab_cd uw vwCl prg mX6_figureComes := ab_bM_of uf_X6 uk_X6 uv_X6 us_X6 (FL := ufl_X6) (KL := ukl_X6) (VL := uvl_X6) (SL := usl_X6) (by decide +kernel)
set_option maxRecDepth 20000 in
theorem ux_X7_learn : ab_cd uw vwCl prg mX7_learn := ab_bM_of uf_X7 uk_X7 uv_X7 us_X7 (FL := ufl_X7) (KL := ukl_X7) (VL := uvl_X7) (SL := usl_X7) (by decide +kernel)
set_option maxRecDepth 20000 in
theorem ux_X7_lengthOf : ab_cd uw vwCl prg mX7_lengthOf := ab_bM_of uf_X7 uk_X7 uv_X7 us_X7 (FL := ufl_X7) (KL := ukl_X7) (VL := uvl_X7) (SL := usl_X7) (by decide +kernel)
set_option maxRecDepth 20000 in
theorem ux_X7_newOf : ab_cd uw vwCl prg mX7_newOf := ab_bM_of uf_X7 uk_X7 uv_X7 us_X7 (FL := ufl_X7) (KL := ukl_X7) (VL := uvl_X7) (SL := usl_X7) (by decide +kernel)
set_option maxRecDepth 20000 in
theorem ux_X7_howManyOf : ab_cd uw vwCl prg mX7_howManyOf := ab_bM_of uf_X7 uk_X7 uv_X7 us_X7 (FL := ufl_X7) (KL := ukl_X7) (VL := uvl_X7) (SL := usl_X7) (by decide +kernel)
set_option maxRecDepth 20000 in
theorem ux_X7_holdInOrder : ab_cd uw vwCl prg mX7_holdInOrder := ab_bM_of uf_X7 uk_X7 uv_X7 us_X7 (FL := ufl_X7) (KL := ukl_X7) (VL := uvl_X7) (SL := usl_X7) (by decide +kernel)
set_option maxRecDepth 20000 in
theorem ux_X7_lesserThanHeld : ab_cd uw vwCl prg mX7_lesserThanHeld := ab_bM_of uf_X7 uk_X7 uv_X7 us_X7 (FL := ufl_X7) (KL := ukl_X7) (VL := uvl_X7) (SL := usl_X7) (by decide +kernel)
set_option maxRecDepth 20000 in
theorem ux_X7_holdLongest : ab_cd uw vwCl prg mX7_holdLongest := ab_bM_of uf_X7 uk_X7 uv_X7 us_X7 (FL := ufl_X7) (KL := ukl_X7) (VL := uvl_X7) (SL := usl_X7) (by decide +kernel)
set_option maxRecDepth 20000 in
theorem ux_X7_firstRun : ab_cd uw vwCl prg mX7_firstRun := ab_bM_of uf_X7 uk_X7 uv_X7 us_X7 (FL := ufl_X7) (KL := ukl_X7) (VL := uvl_X7) (SL := usl_X7) (by decide +kernel)
set_option maxRecDepth 20000 in
theorem ux_X7_holdOftenest : ab_cd uw vwCl prg mX7_holdOftenest := ab_bM_of uf_X7 uk_X7 uv_X7 us_X7 (FL := ufl_X7) (KL := ukl_X7) (VL := uvl_X7) (SL := usl_X7) (by decide +kernel)
set_option maxRecDepth 20000 in
theorem ux_X7_leastAlone : ab_cd uw vwCl prg mX7_leastAlone := ab_bM_of uf_X7 uk_X7 uv_X7 us_X7 (FL := ufl_X7) (KL := ukl_X7) (VL := uvl_X7) (SL := usl_X7) (by decide +kernel)
set_option maxRecDepth 20000 in
theorem ux_X7_holdMaximal : ab_cd uw vwCl prg mX7_holdMaximal := ab_bM_of uf_X7 uk_X7 uv_X7 us_X7 (FL := ufl_X7) (KL := ukl_X7) (VL := uvl_X7) (SL := usl_X7) (by decide +kernel)
set_option maxRecDepth 20000 in
theorem ux_X7_maximalFrom : ab_cd uw vwCl prg mX7_maximalFrom := ab_bM_of uf_X7 uk_X7 uv_X7 us_X7 (FL := ufl_X7) (KL := ukl_X7) (VL := uvl_X7) (SL := usl_X7) (by decide +kernel)
set_option maxRecDepth 20000 in
theorem ux_X7_maximalLength : ab_cd uw vwCl prg mX7_maximalLength := ab_bM_of uf_X7 uk_X7 uv_X7 us_X7 (FL := ufl_X7) (KL := ukl_X7) (VL := uvl_X7) (SL := usl_X7) (by decide +kernel)
set_option maxRecDepth 20000 in
theorem ux_X7_howManyAbsent : ab_cd uw vwCl prg mX7_howManyAbsent := ab_bM_of uf_X7 uk_X7 uv_X7 us_X7 (FL := ufl_X7) (KL := ukl_X7) (VL := uvl_X7) (SL := usl_X7) (by decide +kernel)
set_option maxRecDepth 20000 in
theorem ux_X8_arrange : ab_cd uw vwCl prg mX8_arrange := ab_bM_of uf_X8 uk_X8 uv_X8 us_X8 (FL := ufl_X8) (KL := ukl_X8) (VL := uvl_X8) (SL := usl_X8) (by decide +kernel)
set_option maxRecDepth 20000 in
theorem ux_X8_sortByHalves : ab_cd uw vwCl prg mX8_sortByHalves := ab_bM_of uf_X8 uk_X8 uv_X8 us_X8 (FL := ufl_X8) (KL := ukl_X8) (VL := uvl_X8) (SL := usl_X8) (by decide +kernel)
set_option maxRecDepth 20000 in
theorem ux_X8_sortByRank : ab_cd uw vwCl prg mX8_sortByRank := ab_bM_of uf_X8 uk_X8 uv_X8 us_X8 (FL := ufl_X8) (KL := ukl_X8) (VL := uvl_X8) (SL := usl_X8) (by decide +kernel)
set_option maxRecDepth 20000 in
theorem ux_X8_rankAnew : ab_cd uw vwCl prg mX8_rankAnew := ab_bM_of uf_X8 uk_X8 uv_X8 us_X8 (FL := ufl_X8) (KL := ukl_X8) (VL := uvl_X8) (SL := usl_X8) (by decide +kernel)
set_option maxRecDepth 20000 in
theorem ux_X8_rankAt : ab_cd uw vwCl prg mX8_rankAt := ab_bM_of uf_X8 uk_X8 uv_X8 us_X8 (FL := ufl_X8) (KL := ukl_X8) (VL := uvl_X8) (SL := usl_X8) (by decide +kernel)
set_option maxRecDepth 20000 in
theorem ux_X9_grown : ab_cd uw vwCl prg mX9_grown := ab_bM_of uf_X9 uk_X9 uv_X9 us_X9 (FL := ufl_X9) (KL := ukl_X9) (VL := uvl_X9) (SL := usl_X9) (by decide +kernel)
set_option maxRecDepth 20000 in
theorem ux_X9_comes : ab_cd uw vwCl prg mX9_comes := ab_bM_of uf_X9 uk_X9 uv_X9 us_X9 (FL := ufl_X9) (KL := ukl_X9) (VL := uvl_X9) (SL := usl_X9) (by decide +kernel)
set_option maxRecDepth 20000 in
theorem ux_X9_growSum : ab_cd uw vwCl prg mX9_growSum := ab_bM_of uf_X9 uk_X9 uv_X9 us_X9 (FL := ufl_X9) (KL := ukl_X9) (VL := uvl_X9) (SL := usl_X9) (by decide +kernel)
set_option maxRecDepth 20000 in
theorem ux_X9_growRow : ab_cd uw vwCl prg mX9_growRow := ab_bM_of uf_X9 uk_X9 uv_X9 us_X9 (FL := ufl_X9) (KL := ukl_X9) (VL := uvl_X9) (SL := usl_X9) (by decide +kernel)
set_option maxRecDepth 20000 in
theorem ux_X9_growItem : ab_cd uw vwCl prg mX9_growItem := ab_bM_of uf_X9 uk_X9 uv_X9 us_X9 (FL := ufl_X9) (KL := ukl_X9) (VL := uvl_X9) (SL := usl_X9) (by decide +kernel)
set_option maxRecDepth 20000 in
theorem ux_X9_growAtom : ab_cd uw vwCl prg mX9_growAtom := ab_bM_of uf_X9 uk_X9 uv_X9 us_X9 (FL := ufl_X9) (KL := ukl_X9) (VL := uvl_X9) (SL := usl_X9) (by decide +kernel)
set_option maxRecDepth 20000 in
theorem ux_X9_joined : ab_cd uw vwCl prg mX9_joined := ab_bM_of uf_X9 uk_X9 uv_X9 us_X9 (FL := ufl_X9) (KL := ukl_X9) (VL := uvl_X9) (SL := usl_X9) (by decide +kernel)
set_option maxRecDepth 20000 in
theorem ux_X9_choice : ab_cd uw vwCl prg mX9_choice := ab_bM_of uf_X9 uk_X9 uv_X9 us_X9 (FL := ufl_X9) (KL := ukl_X9) (VL := uvl_X9) (SL := usl_X9) (by decide +kernel)
set_option maxRecDepth 20000 in
theorem ux_X9_node : ab_cd uw vwCl prg mX9_node := ab_bM_of uf_X9 uk_X9 uv_X9 us_X9 (FL := ufl_X9) (KL := ukl_X9) (VL := uvl_X9) (SL := usl_X9) (by decide +kernel)
set_option maxRecDepth 20000 in
theorem ux_X10_feed : ab_cd uw vwCl prg mX10_feed := ab_bM_of uf_X10 uk_X10 uv_X10 us_X10 (FL := ufl_X10) (KL := ukl_X10) (VL := uvl_X10) (SL := usl_X10) (by decide +kernel)
set_option maxRecDepth 20000 in
theorem ux_X10_end : ab_cd uw vwCl prg mX10_end := ab_bM_of uf_X10 uk_X10 uv_X10 us_X10 (FL := ufl_X10) (KL := ukl_X10) (VL := uvl_X10) (SL := usl_X10) (by decide +kernel)
set_option maxRecDepth 20000 in
theorem ux_X10_cut : ab_cd uw vwCl prg mX10_cut := ab_bM_of uf_X10 uk_X10 uv_X10 us_X10 (FL := ufl_X10) (KL := ukl_X10) (VL := uvl_X10) (SL := usl_X10) (by decide +kernel)
set_option maxRecDepth 20000 in
theorem ux_X10_clear : ab_cd uw vwCl prg mX10_clear := ab_bM_of uf_X10 uk_X10 uv_X10 us_X10 (FL := ufl_X10) (KL := ukl_X10) (VL := uvl_X10) (SL := usl_X10) (by decide +kernel)
set_option maxRecDepth 20000 in
theorem ux_X10_build : ab_cd uw vwCl prg mX10_build := ab_bM_of uf_X10 uk_X10 uv_X10 us_X10 (FL := ufl_X10) (KL := ukl_X10) (VL := uvl_X10) (SL := usl_X10) (by decide +kernel)
set_option maxRecDepth 20000 in
theorem ux_X10_place : ab_cd uw vwCl prg mX10_place := ab_bM_of uf_X10 uk_X10 uv_X10 us_X10 (FL := ufl_X10) (KL := ukl_X10) (VL := uvl_X10) (SL := usl_X10) (by decide +kernel)
set_option maxRecDepth 20000 in
theorem ux_X10_row : ab_cd uw vwCl prg mX10_row := ab_bM_of uf_X10 uk_X10 uv_X10 us_X10 (FL := ufl_X10) (KL := ukl_X10) (VL := uvl_X10) (SL := usl_X10) (by decide +kernel)
set_option maxRecDepth 20000 in
theorem ux_X10_shared : ab_cd uw vwCl prg mX10_shared := ab_bM_of uf_X10 uk_X10 uv_X10 us_X10 (FL := ufl_X10) (KL := ukl_X10) (VL := uvl_X10) (SL := usl_X10) (by decide +kernel)
set_option maxRecDepth 20000 in
theorem ux_X10_before : ab_cd uw vwCl prg mX10_before := ab_bM_of uf_X10 uk_X10 uv_X10 us_X10 (FL := ufl_X10) (KL := ukl_X10) (VL := uvl_X10) (SL := usl_X10) (by decide +kernel)
set_option maxRecDepth 20000 in
theorem ux_X10_step : ab_cd uw vwCl prg mX10_step := ab_bM_of uf_X10 uk_X10 uv_X10 us_X10 (FL := ufl_X10) (KL := ukl_X10) (VL := uvl_X10) (SL := usl_X10) (by decide +kernel)
set_option maxRecDepth 20000 in
theorem ux_X10_rank : ab_cd uw vwCl prg mX10_rank := ab_bM_of uf_X10 uk_X10 uv_X10 us_X10 (FL := ufl_X10) (KL := ukl_X10) (VL := uvl_X10) (SL := usl_X10) (by decide +kernel)
set_option maxRecDepth 20000 in
theorem ux_X10_select : ab_cd uw vwCl prg mX10_select := ab_bM_of uf_X10 uk_X10 uv_X10 us_X10 (FL := ufl_X10) (KL := ukl_X10) (VL := uvl_X10) (SL := usl_X10) (by decide +kernel)
set_option maxRecDepth 20000 in
theorem ux_X10_byteAt : ab_cd uw vwCl prg mX10_byteAt := ab_bM_of uf_X10 uk_X10 uv_X10 us_X10 (FL := ufl_X10) (KL := ukl_X10) (VL := uvl_X10) (SL := usl_X10) (by decide +kernel)
set_option maxRecDepth 20000 in
theorem ux_X10_document : ab_cd uw vwCl prg mX10_document := ab_bM_of uf_X10 uk_X10 uv_X10 us_X10 (FL := ufl_X10) (KL := ukl_X10) (VL := uvl_X10) (SL := usl_X10) (by decide +kernel)
set_option maxRecDepth 20000 in
theorem ux_X10_alike : ab_cd uw vwCl prg mX10_alike := ab_bM_of uf_X10 uk_X10 uv_X10 us_X10 (FL := ufl_X10) (KL := ukl_X10) (VL := uvl_X10) (SL := usl_X10) (by decide +kernel)
set_option maxRecDepth 20000 in
theorem ux_X10_begin : ab_cd uw vwCl prg mX10_begin := ab_bM_of uf_X10 uk_X10 uv_X10 us_X10 (FL := ufl_X10) (KL := ukl_X10) (VL := uvl_X10) (SL := usl_X10) (by decide +kernel)
set_option maxRecDepth 20000 in
theorem ux_X10_grow : ab_cd uw vwCl prg mX10_grow := ab_bM_of uf_X10 uk_X10 uv_X10 us_X10 (FL := ufl_X10) (KL := ukl_X10) (VL := uvl_X10) (SL := usl_X10) (by decide +kernel)
set_option maxRecDepth 20000 in
theorem ux_X10_front : ab_cd uw vwCl prg mX10_front := ab_bM_of uf_X10 uk_X10 uv_X10 us_X10 (FL := ufl_X10) (KL := ukl_X10) (VL := uvl_X10) (SL := usl_X10) (by decide +kernel)
