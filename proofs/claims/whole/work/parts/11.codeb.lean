set_option maxRecDepth 20000 in
theorem ux_X10_back : ab_cd uw vwCl prg mX10_back := ab_bM_of uf_X10 uk_X10 uv_X10 us_X10 (FL := ufl_X10) (KL := ukl_X10) (VL := uvl_X10) (SL := usl_X10) (by decide +kernel)
set_option maxRecDepth 20000 in
theorem ux_X10_pattern : ab_cd uw vwCl prg mX10_pattern := ab_bM_of uf_X10 uk_X10 uv_X10 us_X10 (FL := ufl_X10) (KL := ukl_X10) (VL := uvl_X10) (SL := usl_X10) (by decide +kernel)
set_option maxRecDepth 20000 in
theorem ux_X10_patternByte : ab_cd uw vwCl prg mX10_patternByte := ab_bM_of uf_X10 uk_X10 uv_X10 us_X10 (FL := ufl_X10) (KL := ukl_X10) (VL := uvl_X10) (SL := usl_X10) (by decide +kernel)
set_option maxRecDepth 20000 in
theorem ux_X10_at : ab_cd uw vwCl prg mX10_at := ab_bM_of uf_X10 uk_X10 uv_X10 us_X10 (FL := ufl_X10) (KL := ukl_X10) (VL := uvl_X10) (SL := usl_X10) (by decide +kernel)
set_option maxRecDepth 20000 in
theorem ux_X10_sorted : ab_cd uw vwCl prg mX10_sorted := ab_bM_of uf_X10 uk_X10 uv_X10 us_X10 (FL := ufl_X10) (KL := ukl_X10) (VL := uvl_X10) (SL := usl_X10) (by decide +kernel)
set_option maxRecDepth 20000 in
theorem ux_X10_more : ab_cd uw vwCl prg mX10_more := ab_bM_of uf_X10 uk_X10 uv_X10 us_X10 (FL := ufl_X10) (KL := ukl_X10) (VL := uvl_X10) (SL := usl_X10) (by decide +kernel)
set_option maxRecDepth 20000 in
theorem ux_X10_ranked : ab_cd uw vwCl prg mX10_ranked := ab_bM_of uf_X10 uk_X10 uv_X10 us_X10 (FL := ufl_X10) (KL := ukl_X10) (VL := uvl_X10) (SL := usl_X10) (by decide +kernel)
set_option maxRecDepth 20000 in
theorem ux_X10_times : ab_cd uw vwCl prg mX10_times := ab_bM_of uf_X10 uk_X10 uv_X10 us_X10 (FL := ufl_X10) (KL := ukl_X10) (VL := uvl_X10) (SL := usl_X10) (by decide +kernel)
set_option maxRecDepth 20000 in
theorem ux_X10_take : ab_cd uw vwCl prg mX10_take := ab_bM_of uf_X10 uk_X10 uv_X10 us_X10 (FL := ufl_X10) (KL := ukl_X10) (VL := uvl_X10) (SL := usl_X10) (by decide +kernel)
set_option maxRecDepth 20000 in
theorem ux_X10_near : ab_cd uw vwCl prg mX10_near := ab_bM_of uf_X10 uk_X10 uv_X10 us_X10 (FL := ufl_X10) (KL := ukl_X10) (VL := uvl_X10) (SL := usl_X10) (by decide +kernel)
set_option maxRecDepth 20000 in
theorem ux_X10_nearOf : ab_cd uw vwCl prg mX10_nearOf := ab_bM_of uf_X10 uk_X10 uv_X10 us_X10 (FL := ufl_X10) (KL := ukl_X10) (VL := uvl_X10) (SL := usl_X10) (by decide +kernel)
set_option maxRecDepth 20000 in
theorem ux_X10_ask : ab_cd uw vwCl prg mX10_ask := ab_bM_of uf_X10 uk_X10 uv_X10 us_X10 (FL := ufl_X10) (KL := ukl_X10) (VL := uvl_X10) (SL := usl_X10) (by decide +kernel)
set_option maxRecDepth 20000 in
theorem ux_X10_answer : ab_cd uw vwCl prg mX10_answer := ab_bM_of uf_X10 uk_X10 uv_X10 us_X10 (FL := ufl_X10) (KL := ukl_X10) (VL := uvl_X10) (SL := usl_X10) (by decide +kernel)
set_option maxRecDepth 20000 in
theorem ux_X10_answered : ab_cd uw vwCl prg mX10_answered := ab_bM_of uf_X10 uk_X10 uv_X10 us_X10 (FL := ufl_X10) (KL := ukl_X10) (VL := uvl_X10) (SL := usl_X10) (by decide +kernel)
set_option maxRecDepth 20000 in
theorem ux_X10_different : ab_cd uw vwCl prg mX10_different := ab_bM_of uf_X10 uk_X10 uv_X10 us_X10 (FL := ufl_X10) (KL := ukl_X10) (VL := uvl_X10) (SL := usl_X10) (by decide +kernel)
set_option maxRecDepth 20000 in
theorem ux_X10_kth : ab_cd uw vwCl prg mX10_kth := ab_bM_of uf_X10 uk_X10 uv_X10 us_X10 (FL := ufl_X10) (KL := ukl_X10) (VL := uvl_X10) (SL := usl_X10) (by decide +kernel)
set_option maxRecDepth 20000 in
theorem ux_X10_order : ab_cd uw vwCl prg mX10_order := ab_bM_of uf_X10 uk_X10 uv_X10 us_X10 (FL := ufl_X10) (KL := ukl_X10) (VL := uvl_X10) (SL := usl_X10) (by decide +kernel)
set_option maxRecDepth 20000 in
theorem ux_X10_repeated : ab_cd uw vwCl prg mX10_repeated := ab_bM_of uf_X10 uk_X10 uv_X10 us_X10 (FL := ufl_X10) (KL := ukl_X10) (VL := uvl_X10) (SL := usl_X10) (by decide +kernel)
set_option maxRecDepth 20000 in
theorem ux_X10_common : ab_cd uw vwCl prg mX10_common := ab_bM_of uf_X10 uk_X10 uv_X10 us_X10 (FL := ufl_X10) (KL := ukl_X10) (VL := uvl_X10) (SL := usl_X10) (by decide +kernel)
set_option maxRecDepth 20000 in
theorem ux_X10_oftenest : ab_cd uw vwCl prg mX10_oftenest := ab_bM_of uf_X10 uk_X10 uv_X10 us_X10 (FL := ufl_X10) (KL := ukl_X10) (VL := uvl_X10) (SL := usl_X10) (by decide +kernel)
set_option maxRecDepth 20000 in
theorem ux_X10_unique : ab_cd uw vwCl prg mX10_unique := ab_bM_of uf_X10 uk_X10 uv_X10 us_X10 (FL := ufl_X10) (KL := ukl_X10) (VL := uvl_X10) (SL := usl_X10) (by decide +kernel)
set_option maxRecDepth 20000 in
theorem ux_X10_maximal : ab_cd uw vwCl prg mX10_maximal := ab_bM_of uf_X10 uk_X10 uv_X10 us_X10 (FL := ufl_X10) (KL := ukl_X10) (VL := uvl_X10) (SL := usl_X10) (by decide +kernel)
set_option maxRecDepth 20000 in
theorem ux_X10_absent : ab_cd uw vwCl prg mX10_absent := ab_bM_of uf_X10 uk_X10 uv_X10 us_X10 (FL := ufl_X10) (KL := ukl_X10) (VL := uvl_X10) (SL := usl_X10) (by decide +kernel)
set_option maxRecDepth 20000 in
theorem ux_X10_factor : ab_cd uw vwCl prg mX10_factor := ab_bM_of uf_X10 uk_X10 uv_X10 us_X10 (FL := ufl_X10) (KL := ukl_X10) (VL := uvl_X10) (SL := usl_X10) (by decide +kernel)
set_option maxRecDepth 20000 in
theorem ux_X10_word : ab_cd uw vwCl prg mX10_word := ab_bM_of uf_X10 uk_X10 uv_X10 us_X10 (FL := ufl_X10) (KL := ukl_X10) (VL := uvl_X10) (SL := usl_X10) (by decide +kernel)
set_option maxRecDepth 20000 in
theorem ux_X10_square : ab_cd uw vwCl prg mX10_square := ab_bM_of uf_X10 uk_X10 uv_X10 us_X10 (FL := ufl_X10) (KL := ukl_X10) (VL := uvl_X10) (SL := usl_X10) (by decide +kernel)
set_option maxRecDepth 20000 in
theorem ux_X10_mirror : ab_cd uw vwCl prg mX10_mirror := ab_bM_of uf_X10 uk_X10 uv_X10 us_X10 (FL := ufl_X10) (KL := ukl_X10) (VL := uvl_X10) (SL := usl_X10) (by decide +kernel)
set_option maxRecDepth 20000 in
theorem ux_X10_match : ab_cd uw vwCl prg mX10_match := ab_bM_of uf_X10 uk_X10 uv_X10 us_X10 (FL := ufl_X10) (KL := ukl_X10) (VL := uvl_X10) (SL := usl_X10) (by decide +kernel)
set_option maxRecDepth 20000 in
theorem ux_X10_count : ab_cd uw vwCl prg mX10_count := ab_bM_of uf_X10 uk_X10 uv_X10 us_X10 (FL := ufl_X10) (KL := ukl_X10) (VL := uvl_X10) (SL := usl_X10) (by decide +kernel)
set_option maxRecDepth 20000 in
theorem ux_X10_unwound : ab_cd uw vwCl prg mX10_unwound := ab_bM_of uf_X10 uk_X10 uv_X10 us_X10 (FL := ufl_X10) (KL := ukl_X10) (VL := uvl_X10) (SL := usl_X10) (by decide +kernel)
set_option maxRecDepth 20000 in
theorem ux_X10_countOfIndex : ab_cd uw vwCl prg mX10_countOfIndex := ab_bM_of uf_X10 uk_X10 uv_X10 us_X10 (FL := ufl_X10) (KL := ukl_X10) (VL := uvl_X10) (SL := usl_X10) (by decide +kernel)
set_option maxRecDepth 20000 in
theorem ux_X10_isByte : ab_cd uw vwCl prg mX10_isByte := ab_bM_of uf_X10 uk_X10 uv_X10 us_X10 (FL := ufl_X10) (KL := ukl_X10) (VL := uvl_X10) (SL := usl_X10) (by decide +kernel)
set_option maxRecDepth 20000 in
theorem ux_X11_feed : ab_cd uw vwCl prg mX11_feed := ab_bM_of uf_X11 uk_X11 uv_X11 us_X11 (FL := ufl_X11) (KL := ukl_X11) (VL := uvl_X11) (SL := usl_X11) (by decide +kernel)
set_option maxRecDepth 20000 in
theorem ux_X11_end : ab_cd uw vwCl prg mX11_end := ab_bM_of uf_X11 uk_X11 uv_X11 us_X11 (FL := ufl_X11) (KL := ukl_X11) (VL := uvl_X11) (SL := usl_X11) (by decide +kernel)
set_option maxRecDepth 20000 in
theorem ux_X11_cut : ab_cd uw vwCl prg mX11_cut := ab_bM_of uf_X11 uk_X11 uv_X11 us_X11 (FL := ufl_X11) (KL := ukl_X11) (VL := uvl_X11) (SL := usl_X11) (by decide +kernel)
set_option maxRecDepth 20000 in
theorem ux_X11_clear : ab_cd uw vwCl prg mX11_clear := ab_bM_of uf_X11 uk_X11 uv_X11 us_X11 (FL := ufl_X11) (KL := ukl_X11) (VL := uvl_X11) (SL := usl_X11) (by decide +kernel)
set_option maxRecDepth 20000 in
theorem ux_X11_keyAt : ab_cd uw vwCl prg mX11_keyAt := ab_bM_of uf_X11 uk_X11 uv_X11 us_X11 (FL := ufl_X11) (KL := ukl_X11) (VL := uvl_X11) (SL := usl_X11) (by decide +kernel)
set_option maxRecDepth 20000 in
theorem ux_X11_sortBy : ab_cd uw vwCl prg mX11_sortBy := ab_bM_of uf_X11 uk_X11 uv_X11 us_X11 (FL := ufl_X11) (KL := ukl_X11) (VL := uvl_X11) (SL := usl_X11) (by decide +kernel)
set_option maxRecDepth 20000 in
theorem ux_X11_sortAll : ab_cd uw vwCl prg mX11_sortAll := ab_bM_of uf_X11 uk_X11 uv_X11 us_X11 (FL := ufl_X11) (KL := ukl_X11) (VL := uvl_X11) (SL := usl_X11) (by decide +kernel)
set_option maxRecDepth 20000 in
theorem ux_X11_findShares : ab_cd uw vwCl prg mX11_findShares := ab_bM_of uf_X11 uk_X11 uv_X11 us_X11 (FL := ufl_X11) (KL := ukl_X11) (VL := uvl_X11) (SL := usl_X11) (by decide +kernel)
set_option maxRecDepth 20000 in
theorem ux_X11_build : ab_cd uw vwCl prg mX11_build := ab_bM_of uf_X11 uk_X11 uv_X11 us_X11 (FL := ufl_X11) (KL := ukl_X11) (VL := uvl_X11) (SL := usl_X11) (by decide +kernel)
set_option maxRecDepth 20000 in
theorem ux_X11_isRow : ab_cd uw vwCl prg mX11_isRow := ab_bM_of uf_X11 uk_X11 uv_X11 us_X11 (FL := ufl_X11) (KL := ukl_X11) (VL := uvl_X11) (SL := usl_X11) (by decide +kernel)
set_option maxRecDepth 20000 in
theorem ux_X11_isDocument : ab_cd uw vwCl prg mX11_isDocument := ab_bM_of uf_X11 uk_X11 uv_X11 us_X11 (FL := ufl_X11) (KL := ukl_X11) (VL := uvl_X11) (SL := usl_X11) (by decide +kernel)
set_option maxRecDepth 20000 in
theorem ux_X11_isByte : ab_cd uw vwCl prg mX11_isByte := ab_bM_of uf_X11 uk_X11 uv_X11 us_X11 (FL := ufl_X11) (KL := ukl_X11) (VL := uvl_X11) (SL := usl_X11) (by decide +kernel)
set_option maxRecDepth 20000 in
theorem ux_X11_left : ab_cd uw vwCl prg mX11_left := ab_bM_of uf_X11 uk_X11 uv_X11 us_X11 (FL := ufl_X11) (KL := ukl_X11) (VL := uvl_X11) (SL := usl_X11) (by decide +kernel)
set_option maxRecDepth 20000 in
theorem ux_X11_stepsOf : ab_cd uw vwCl prg mX11_stepsOf := ab_bM_of uf_X11 uk_X11 uv_X11 us_X11 (FL := ufl_X11) (KL := ukl_X11) (VL := uvl_X11) (SL := usl_X11) (by decide +kernel)
set_option maxRecDepth 20000 in
theorem ux_X11_place : ab_cd uw vwCl prg mX11_place := ab_bM_of uf_X11 uk_X11 uv_X11 us_X11 (FL := ufl_X11) (KL := ukl_X11) (VL := uvl_X11) (SL := usl_X11) (by decide +kernel)
set_option maxRecDepth 20000 in
theorem ux_X11_row : ab_cd uw vwCl prg mX11_row := ab_bM_of uf_X11 uk_X11 uv_X11 us_X11 (FL := ufl_X11) (KL := ukl_X11) (VL := uvl_X11) (SL := usl_X11) (by decide +kernel)
set_option maxRecDepth 20000 in
theorem ux_X11_shared : ab_cd uw vwCl prg mX11_shared := ab_bM_of uf_X11 uk_X11 uv_X11 us_X11 (FL := ufl_X11) (KL := ukl_X11) (VL := uvl_X11) (SL := usl_X11) (by decide +kernel)
set_option maxRecDepth 20000 in
theorem ux_X11_beforeOf : ab_cd uw vwCl prg mX11_beforeOf := ab_bM_of uf_X11 uk_X11 uv_X11 us_X11 (FL := ufl_X11) (KL := ukl_X11) (VL := uvl_X11) (SL := usl_X11) (by decide +kernel)
set_option maxRecDepth 20000 in
theorem ux_X11_before : ab_cd uw vwCl prg mX11_before := ab_bM_of uf_X11 uk_X11 uv_X11 us_X11 (FL := ufl_X11) (KL := ukl_X11) (VL := uvl_X11) (SL := usl_X11) (by decide +kernel)
set_option maxRecDepth 20000 in
theorem ux_X11_step : ab_cd uw vwCl prg mX11_step := ab_bM_of uf_X11 uk_X11 uv_X11 us_X11 (FL := ufl_X11) (KL := ukl_X11) (VL := uvl_X11) (SL := usl_X11) (by decide +kernel)
set_option maxRecDepth 20000 in
theorem ux_X11_rank : ab_cd uw vwCl prg mX11_rank := ab_bM_of uf_X11 uk_X11 uv_X11 us_X11 (FL := ufl_X11) (KL := ukl_X11) (VL := uvl_X11) (SL := usl_X11) (by decide +kernel)
set_option maxRecDepth 20000 in
theorem ux_X11_select : ab_cd uw vwCl prg mX11_select := ab_bM_of uf_X11 uk_X11 uv_X11 us_X11 (FL := ufl_X11) (KL := ukl_X11) (VL := uvl_X11) (SL := usl_X11) (by decide +kernel)
set_option maxRecDepth 20000 in
theorem ux_X11_byteAt : ab_cd uw vwCl prg mX11_byteAt := ab_bM_of uf_X11 uk_X11 uv_X11 us_X11 (FL := ufl_X11) (KL := ukl_X11) (VL := uvl_X11) (SL := usl_X11) (by decide +kernel)
set_option maxRecDepth 20000 in
theorem ux_X11_document : ab_cd uw vwCl prg mX11_document := ab_bM_of uf_X11 uk_X11 uv_X11 us_X11 (FL := ufl_X11) (KL := ukl_X11) (VL := uvl_X11) (SL := usl_X11) (by decide +kernel)
set_option maxRecDepth 20000 in
theorem ux_X11_alikeOf : ab_cd uw vwCl prg mX11_alikeOf := ab_bM_of uf_X11 uk_X11 uv_X11 us_X11 (FL := ufl_X11) (KL := ukl_X11) (VL := uvl_X11) (SL := usl_X11) (by decide +kernel)
set_option maxRecDepth 20000 in
theorem ux_X11_alike : ab_cd uw vwCl prg mX11_alike := ab_bM_of uf_X11 uk_X11 uv_X11 us_X11 (FL := ufl_X11) (KL := ukl_X11) (VL := uvl_X11) (SL := usl_X11) (by decide +kernel)
set_option maxRecDepth 20000 in
theorem ux_X11_toEmpty : ab_cd uw vwCl prg mX11_toEmpty := ab_bM_of uf_X11 uk_X11 uv_X11 us_X11 (FL := ufl_X11) (KL := ukl_X11) (VL := uvl_X11) (SL := usl_X11) (by decide +kernel)
set_option maxRecDepth 20000 in
theorem ux_X11_begin : ab_cd uw vwCl prg mX11_begin := ab_bM_of uf_X11 uk_X11 uv_X11 us_X11 (FL := ufl_X11) (KL := ukl_X11) (VL := uvl_X11) (SL := usl_X11) (by decide +kernel)
set_option maxRecDepth 20000 in
theorem ux_X11_findRows : ab_cd uw vwCl prg mX11_findRows := ab_bM_of uf_X11 uk_X11 uv_X11 us_X11 (FL := ufl_X11) (KL := ukl_X11) (VL := uvl_X11) (SL := usl_X11) (by decide +kernel)
set_option maxRecDepth 20000 in
theorem ux_X11_become : ab_cd uw vwCl prg mX11_become := ab_bM_of uf_X11 uk_X11 uv_X11 us_X11 (FL := ufl_X11) (KL := ukl_X11) (VL := uvl_X11) (SL := usl_X11) (by decide +kernel)
set_option maxRecDepth 20000 in
theorem ux_X11_grow : ab_cd uw vwCl prg mX11_grow := ab_bM_of uf_X11 uk_X11 uv_X11 us_X11 (FL := ufl_X11) (KL := ukl_X11) (VL := uvl_X11) (SL := usl_X11) (by decide +kernel)
set_option maxRecDepth 20000 in
theorem ux_X11_front : ab_cd uw vwCl prg mX11_front := ab_bM_of uf_X11 uk_X11 uv_X11 us_X11 (FL := ufl_X11) (KL := ukl_X11) (VL := uvl_X11) (SL := usl_X11) (by decide +kernel)
set_option maxRecDepth 20000 in
theorem ux_X11_back : ab_cd uw vwCl prg mX11_back := ab_bM_of uf_X11 uk_X11 uv_X11 us_X11 (FL := ufl_X11) (KL := ukl_X11) (VL := uvl_X11) (SL := usl_X11) (by decide +kernel)
set_option maxRecDepth 20000 in
theorem ux_X11_pattern : ab_cd uw vwCl prg mX11_pattern := ab_bM_of uf_X11 uk_X11 uv_X11 us_X11 (FL := ufl_X11) (KL := ukl_X11) (VL := uvl_X11) (SL := usl_X11) (by decide +kernel)
set_option maxRecDepth 20000 in
theorem ux_X11_patternByte : ab_cd uw vwCl prg mX11_patternByte := ab_bM_of uf_X11 uk_X11 uv_X11 us_X11 (FL := ufl_X11) (KL := ukl_X11) (VL := uvl_X11) (SL := usl_X11) (by decide +kernel)
set_option maxRecDepth 20000 in
theorem ux_X11_at : ab_cd uw vwCl prg mX11_at := ab_bM_of uf_X11 uk_X11 uv_X11 us_X11 (FL := ufl_X11) (KL := ukl_X11) (VL := uvl_X11) (SL := usl_X11) (by decide +kernel)
set_option maxRecDepth 20000 in
theorem ux_X11_isAt : ab_cd uw vwCl prg mX11_isAt := ab_bM_of uf_X11 uk_X11 uv_X11 us_X11 (FL := ufl_X11) (KL := ukl_X11) (VL := uvl_X11) (SL := usl_X11) (by decide +kernel)
set_option maxRecDepth 20000 in
theorem ux_X11_sorted : ab_cd uw vwCl prg mX11_sorted := ab_bM_of uf_X11 uk_X11 uv_X11 us_X11 (FL := ufl_X11) (KL := ukl_X11) (VL := uvl_X11) (SL := usl_X11) (by decide +kernel)
set_option maxRecDepth 20000 in
theorem ux_X11_more : ab_cd uw vwCl prg mX11_more := ab_bM_of uf_X11 uk_X11 uv_X11 us_X11 (FL := ufl_X11) (KL := ukl_X11) (VL := uvl_X11) (SL := usl_X11) (by decide +kernel)
set_option maxRecDepth 20000 in
theorem ux_X11_timesOf : ab_cd uw vwCl prg mX11_timesOf := ab_bM_of uf_X11 uk_X11 uv_X11 us_X11 (FL := ufl_X11) (KL := ukl_X11) (VL := uvl_X11) (SL := usl_X11) (by decide +kernel)
set_option maxRecDepth 20000 in
theorem ux_X11_ranked : ab_cd uw vwCl prg mX11_ranked := ab_bM_of uf_X11 uk_X11 uv_X11 us_X11 (FL := ufl_X11) (KL := ukl_X11) (VL := uvl_X11) (SL := usl_X11) (by decide +kernel)
set_option maxRecDepth 20000 in
theorem ux_X11_times : ab_cd uw vwCl prg mX11_times := ab_bM_of uf_X11 uk_X11 uv_X11 us_X11 (FL := ufl_X11) (KL := ukl_X11) (VL := uvl_X11) (SL := usl_X11) (by decide +kernel)
set_option maxRecDepth 20000 in
theorem ux_X11_take : ab_cd uw vwCl prg mX11_take := ab_bM_of uf_X11 uk_X11 uv_X11 us_X11 (FL := ufl_X11) (KL := ukl_X11) (VL := uvl_X11) (SL := usl_X11) (by decide +kernel)
set_option maxRecDepth 20000 in
theorem ux_X11_near : ab_cd uw vwCl prg mX11_near := ab_bM_of uf_X11 uk_X11 uv_X11 us_X11 (FL := ufl_X11) (KL := ukl_X11) (VL := uvl_X11) (SL := usl_X11) (by decide +kernel)
set_option maxRecDepth 20000 in
theorem ux_X11_nearOf : ab_cd uw vwCl prg mX11_nearOf := ab_bM_of uf_X11 uk_X11 uv_X11 us_X11 (FL := ufl_X11) (KL := ukl_X11) (VL := uvl_X11) (SL := usl_X11) (by decide +kernel)
set_option maxRecDepth 20000 in
theorem ux_X11_ask : ab_cd uw vwCl prg mX11_ask := ab_bM_of uf_X11 uk_X11 uv_X11 us_X11 (FL := ufl_X11) (KL := ukl_X11) (VL := uvl_X11) (SL := usl_X11) (by decide +kernel)
set_option maxRecDepth 20000 in
theorem ux_X11_sign : ab_cd uw vwCl prg mX11_sign := ab_bM_of uf_X11 uk_X11 uv_X11 us_X11 (FL := ufl_X11) (KL := ukl_X11) (VL := uvl_X11) (SL := usl_X11) (by decide +kernel)
set_option maxRecDepth 20000 in
theorem ux_X11_fail : ab_cd uw vwCl prg mX11_fail := ab_bM_of uf_X11 uk_X11 uv_X11 us_X11 (FL := ufl_X11) (KL := ukl_X11) (VL := uvl_X11) (SL := usl_X11) (by decide +kernel)
set_option maxRecDepth 20000 in
theorem ux_X11_isFigure : ab_cd uw vwCl prg mX11_isFigure := ab_bM_of uf_X11 uk_X11 uv_X11 us_X11 (FL := ufl_X11) (KL := ukl_X11) (VL := uvl_X11) (SL := usl_X11) (by decide +kernel)
set_option maxRecDepth 20000 in
theorem ux_X11_number : ab_cd uw vwCl prg mX11_number := ab_bM_of uf_X11 uk_X11 uv_X11 us_X11 (FL := ufl_X11) (KL := ukl_X11) (VL := uvl_X11) (SL := usl_X11) (by decide +kernel)
set_option maxRecDepth 20000 in
theorem ux_X11_braces : ab_cd uw vwCl prg mX11_braces := ab_bM_of uf_X11 uk_X11 uv_X11 us_X11 (FL := ufl_X11) (KL := ukl_X11) (VL := uvl_X11) (SL := usl_X11) (by decide +kernel)
set_option maxRecDepth 20000 in
theorem ux_X11_rangeByte : ab_cd uw vwCl prg mX11_rangeByte := ab_bM_of uf_X11 uk_X11 uv_X11 us_X11 (FL := ufl_X11) (KL := ukl_X11) (VL := uvl_X11) (SL := usl_X11) (by decide +kernel)
set_option maxRecDepth 20000 in
theorem ux_X11_ranges : ab_cd uw vwCl prg mX11_ranges := ab_bM_of uf_X11 uk_X11 uv_X11 us_X11 (FL := ufl_X11) (KL := ukl_X11) (VL := uvl_X11) (SL := usl_X11) (by decide +kernel)
set_option maxRecDepth 20000 in
theorem ux_X11_openOne : ab_cd uw vwCl prg mX11_openOne := ab_bM_of uf_X11 uk_X11 uv_X11 us_X11 (FL := ufl_X11) (KL := ukl_X11) (VL := uvl_X11) (SL := usl_X11) (by decide +kernel)
set_option maxRecDepth 20000 in
theorem ux_X11_addMade : ab_cd uw vwCl prg mX11_addMade := ab_bM_of uf_X11 uk_X11 uv_X11 us_X11 (FL := ufl_X11) (KL := ukl_X11) (VL := uvl_X11) (SL := usl_X11) (by decide +kernel)
set_option maxRecDepth 20000 in
theorem ux_X11_endRow : ab_cd uw vwCl prg mX11_endRow := ab_bM_of uf_X11 uk_X11 uv_X11 us_X11 (FL := ufl_X11) (KL := ukl_X11) (VL := uvl_X11) (SL := usl_X11) (by decide +kernel)
set_option maxRecDepth 20000 in
theorem ux_X11_begunAtom : ab_cd uw vwCl prg mX11_begunAtom := ab_bM_of uf_X11 uk_X11 uv_X11 us_X11 (FL := ufl_X11) (KL := ukl_X11) (VL := uvl_X11) (SL := usl_X11) (by decide +kernel)
set_option maxRecDepth 20000 in
theorem ux_X11_endItem : ab_cd uw vwCl prg mX11_endItem := ab_bM_of uf_X11 uk_X11 uv_X11 us_X11 (FL := ufl_X11) (KL := ukl_X11) (VL := uvl_X11) (SL := usl_X11) (by decide +kernel)
set_option maxRecDepth 20000 in
theorem ux_X11_again : ab_cd uw vwCl prg mX11_again := ab_bM_of uf_X11 uk_X11 uv_X11 us_X11 (FL := ufl_X11) (KL := ukl_X11) (VL := uvl_X11) (SL := usl_X11) (by decide +kernel)
set_option maxRecDepth 20000 in
theorem ux_X11_repeat : ab_cd uw vwCl prg mX11_repeat := ab_bM_of uf_X11 uk_X11 uv_X11 us_X11 (FL := ufl_X11) (KL := ukl_X11) (VL := uvl_X11) (SL := usl_X11) (by decide +kernel)
set_option maxRecDepth 20000 in
theorem ux_X11_goOver : ab_cd uw vwCl prg mX11_goOver := ab_bM_of uf_X11 uk_X11 uv_X11 us_X11 (FL := ufl_X11) (KL := ukl_X11) (VL := uvl_X11) (SL := usl_X11) (by decide +kernel)
set_option maxRecDepth 20000 in
theorem ux_X11_quantify : ab_cd uw vwCl prg mX11_quantify := ab_bM_of uf_X11 uk_X11 uv_X11 us_X11 (FL := ufl_X11) (KL := ukl_X11) (VL := uvl_X11) (SL := usl_X11) (by decide +kernel)
set_option maxRecDepth 20000 in
theorem ux_X11_atom : ab_cd uw vwCl prg mX11_atom := ab_bM_of uf_X11 uk_X11 uv_X11 us_X11 (FL := ufl_X11) (KL := ukl_X11) (VL := uvl_X11) (SL := usl_X11) (by decide +kernel)
set_option maxRecDepth 20000 in
theorem ux_X11_follow : ab_cd uw vwCl prg mX11_follow := ab_bM_of uf_X11 uk_X11 uv_X11 us_X11 (FL := ufl_X11) (KL := ukl_X11) (VL := uvl_X11) (SL := usl_X11) (by decide +kernel)
set_option maxRecDepth 20000 in
theorem ux_X11_findPositions : ab_cd uw vwCl prg mX11_findPositions := ab_bM_of uf_X11 uk_X11 uv_X11 us_X11 (FL := ufl_X11) (KL := ukl_X11) (VL := uvl_X11) (SL := usl_X11) (by decide +kernel)
set_option maxRecDepth 20000 in
theorem ux_X11_fits : ab_cd uw vwCl prg mX11_fits := ab_bM_of uf_X11 uk_X11 uv_X11 us_X11 (FL := ufl_X11) (KL := ukl_X11) (VL := uvl_X11) (SL := usl_X11) (by decide +kernel)
set_option maxRecDepth 20000 in
theorem ux_X11_matchFrom : ab_cd uw vwCl prg mX11_matchFrom := ab_bM_of uf_X11 uk_X11 uv_X11 us_X11 (FL := ufl_X11) (KL := ukl_X11) (VL := uvl_X11) (SL := usl_X11) (by decide +kernel)
set_option maxRecDepth 20000 in
theorem ux_X11_answer : ab_cd uw vwCl prg mX11_answer := ab_bM_of uf_X11 uk_X11 uv_X11 us_X11 (FL := ufl_X11) (KL := ukl_X11) (VL := uvl_X11) (SL := usl_X11) (by decide +kernel)
set_option maxRecDepth 20000 in
theorem ux_X11_answered : ab_cd uw vwCl prg mX11_answered := ab_bM_of uf_X11 uk_X11 uv_X11 us_X11 (FL := ufl_X11) (KL := ukl_X11) (VL := uvl_X11) (SL := usl_X11) (by decide +kernel)
set_option maxRecDepth 20000 in
theorem ux_X11_freshOf : ab_cd uw vwCl prg mX11_freshOf := ab_bM_of uf_X11 uk_X11 uv_X11 us_X11 (FL := ufl_X11) (KL := ukl_X11) (VL := uvl_X11) (SL := usl_X11) (by decide +kernel)
set_option maxRecDepth 20000 in
theorem ux_X11_different : ab_cd uw vwCl prg mX11_different := ab_bM_of uf_X11 uk_X11 uv_X11 us_X11 (FL := ufl_X11) (KL := ukl_X11) (VL := uvl_X11) (SL := usl_X11) (by decide +kernel)
set_option maxRecDepth 20000 in
theorem ux_X11_kth : ab_cd uw vwCl prg mX11_kth := ab_bM_of uf_X11 uk_X11 uv_X11 us_X11 (FL := ufl_X11) (KL := ukl_X11) (VL := uvl_X11) (SL := usl_X11) (by decide +kernel)
set_option maxRecDepth 20000 in
theorem ux_X11_order : ab_cd uw vwCl prg mX11_order := ab_bM_of uf_X11 uk_X11 uv_X11 us_X11 (FL := ufl_X11) (KL := ukl_X11) (VL := uvl_X11) (SL := usl_X11) (by decide +kernel)
set_option maxRecDepth 20000 in
theorem ux_X11_becomeBest : ab_cd uw vwCl prg mX11_becomeBest := ab_bM_of uf_X11 uk_X11 uv_X11 us_X11 (FL := ufl_X11) (KL := ukl_X11) (VL := uvl_X11) (SL := usl_X11) (by decide +kernel)
set_option maxRecDepth 20000 in
theorem ux_X11_repeated : ab_cd uw vwCl prg mX11_repeated := ab_bM_of uf_X11 uk_X11 uv_X11 us_X11 (FL := ufl_X11) (KL := ukl_X11) (VL := uvl_X11) (SL := usl_X11) (by decide +kernel)
set_option maxRecDepth 20000 in
theorem ux_X11_common : ab_cd uw vwCl prg mX11_common := ab_bM_of uf_X11 uk_X11 uv_X11 us_X11 (FL := ufl_X11) (KL := ukl_X11) (VL := uvl_X11) (SL := usl_X11) (by decide +kernel)
set_option maxRecDepth 20000 in
theorem ux_X11_oftenest : ab_cd uw vwCl prg mX11_oftenest := ab_bM_of uf_X11 uk_X11 uv_X11 us_X11 (FL := ufl_X11) (KL := ukl_X11) (VL := uvl_X11) (SL := usl_X11) (by decide +kernel)
set_option maxRecDepth 20000 in
theorem ux_X11_unique : ab_cd uw vwCl prg mX11_unique := ab_bM_of uf_X11 uk_X11 uv_X11 us_X11 (FL := ufl_X11) (KL := ukl_X11) (VL := uvl_X11) (SL := usl_X11) (by decide +kernel)
set_option maxRecDepth 20000 in
theorem ux_X11_isOneBefore : ab_cd uw vwCl prg mX11_isOneBefore := ab_bM_of uf_X11 uk_X11 uv_X11 us_X11 (FL := ufl_X11) (KL := ukl_X11) (VL := uvl_X11) (SL := usl_X11) (by decide +kernel)
set_option maxRecDepth 20000 in
theorem ux_X11_maximal : ab_cd uw vwCl prg mX11_maximal := ab_bM_of uf_X11 uk_X11 uv_X11 us_X11 (FL := ufl_X11) (KL := ukl_X11) (VL := uvl_X11) (SL := usl_X11) (by decide +kernel)
set_option maxRecDepth 20000 in
theorem ux_X11_absent : ab_cd uw vwCl prg mX11_absent := ab_bM_of uf_X11 uk_X11 uv_X11 us_X11 (FL := ufl_X11) (KL := ukl_X11) (VL := uvl_X11) (SL := usl_X11) (by decide +kernel)
set_option maxRecDepth 20000 in
theorem ux_X11_findFactors : ab_cd uw vwCl prg mX11_findFactors := ab_bM_of uf_X11 uk_X11 uv_X11 us_X11 (FL := ufl_X11) (KL := ukl_X11) (VL := uvl_X11) (SL := usl_X11) (by decide +kernel)
set_option maxRecDepth 20000 in
theorem ux_X11_factor : ab_cd uw vwCl prg mX11_factor := ab_bM_of uf_X11 uk_X11 uv_X11 us_X11 (FL := ufl_X11) (KL := ukl_X11) (VL := uvl_X11) (SL := usl_X11) (by decide +kernel)
set_option maxRecDepth 20000 in
theorem ux_X11_word : ab_cd uw vwCl prg mX11_word := ab_bM_of uf_X11 uk_X11 uv_X11 us_X11 (FL := ufl_X11) (KL := ukl_X11) (VL := uvl_X11) (SL := usl_X11) (by decide +kernel)
set_option maxRecDepth 20000 in
theorem ux_X11_square : ab_cd uw vwCl prg mX11_square := ab_bM_of uf_X11 uk_X11 uv_X11 us_X11 (FL := ufl_X11) (KL := ukl_X11) (VL := uvl_X11) (SL := usl_X11) (by decide +kernel)
set_option maxRecDepth 20000 in
theorem ux_X11_mirror : ab_cd uw vwCl prg mX11_mirror := ab_bM_of uf_X11 uk_X11 uv_X11 us_X11 (FL := ufl_X11) (KL := ukl_X11) (VL := uvl_X11) (SL := usl_X11) (by decide +kernel)
set_option maxRecDepth 20000 in
theorem ux_X11_match : ab_cd uw vwCl prg mX11_match := ab_bM_of uf_X11 uk_X11 uv_X11 us_X11 (FL := ufl_X11) (KL := ukl_X11) (VL := uvl_X11) (SL := usl_X11) (by decide +kernel)
set_option maxRecDepth 20000 in
theorem ux_X11_countRows : ab_cd uw vwCl prg mX11_countRows := ab_bM_of uf_X11 uk_X11 uv_X11 us_X11 (FL := ufl_X11) (KL := ukl_X11) (VL := uvl_X11) (SL := usl_X11) (by decide +kernel)
set_option maxRecDepth 20000 in
theorem ux_X11_countBytes : ab_cd uw vwCl prg mX11_countBytes := ab_bM_of uf_X11 uk_X11 uv_X11 us_X11 (FL := ufl_X11) (KL := ukl_X11) (VL := uvl_X11) (SL := usl_X11) (by decide +kernel)
set_option maxRecDepth 20000 in
theorem ux_X11_count : ab_cd uw vwCl prg mX11_count := ab_bM_of uf_X11 uk_X11 uv_X11 us_X11 (FL := ufl_X11) (KL := ukl_X11) (VL := uvl_X11) (SL := usl_X11) (by decide +kernel)
set_option maxRecDepth 20000 in
theorem ux_X11_unwound : ab_cd uw vwCl prg mX11_unwound := ab_bM_of uf_X11 uk_X11 uv_X11 us_X11 (FL := ufl_X11) (KL := ukl_X11) (VL := uvl_X11) (SL := usl_X11) (by decide +kernel)
set_option maxRecDepth 20000 in
theorem ux_J7_rangeCheck_23922 : ab_cd uw vwCl prg mJ7_rangeCheck_23922 := ab_bM_of uf_J7 uk_J7 uv_J7 us_J7 (FL := ufl_J7) (KL := ukl_J7) (VL := uvl_J7) (SL := usl_J7) (by decide +kernel)
set_option maxRecDepth 20000 in
theorem ux_J7_fill_bad5a : ab_cd uw vwCl prg mJ7_fill_bad5a := ab_bM_of uf_J7 uk_J7 uv_J7 us_J7 (FL := ufl_J7) (KL := ukl_J7) (VL := uvl_J7) (SL := usl_J7) (by decide +kernel)
set_option maxRecDepth 20000 in
theorem ux_J7_fill_53178 : ab_cd uw vwCl prg mJ7_fill_53178 := ab_bM_of uf_J7 uk_J7 uv_J7 us_J7 (FL := ufl_J7) (KL := ukl_J7) (VL := uvl_J7) (SL := usl_J7) (by decide +kernel)
set_option maxRecDepth 20000 in
theorem ux_J7_fill_fda19 : ab_cd uw vwCl prg mJ7_fill_fda19 := ab_bM_of uf_J7 uk_J7 uv_J7 us_J7 (FL := ufl_J7) (KL := ukl_J7) (VL := uvl_J7) (SL := usl_J7) (by decide +kernel)
