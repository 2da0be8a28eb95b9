/-! ===== the constructors and the law's first rows ===== -/
def cdfl : List (List Value) := [[.null, .null, .null, .int 0, .int 0], [.null, .null, .null, .int 0, .int 0, .int 0, .int 0, .int 0], [.null, .null, .null, .null, .null, .null, .null, .null, .int 0, .int 0, .int 0, .int 0], [.null, .null, .null, .null, .null, .null, .null, .null, .null, .null, .int 0], [.null, .null, .null, .null, .int 0], [.null, .null, .null, .null, .null, .null, .null], [.null, .null, .null, .null, .null, .null, .int 0, .int 0, .int 0], [.null, .null, .null, .null, .null], [.null, .null, .null], [.null, .null, .null, .null, .null, .null, .int 0, .int 0], [.null, .null, .null, .null, .null, .null, .null, .null], [.null, .int 0, .null, .int 0, .null, .int 0, .int 0, .int 0, .int 0, .int 0, .int 0, .null, .null, .null, .null, .null, .null, .null, .null, .null, .null, .null, .int 0, .int 0, .int 0, .null, .int 0, .null, .null, .int 0, .null, .int 0, .int 0, .int 0, .null, .null, .null, .int 0, .int 0, .null, .null, .null, .null, .null, .null, .int 0, .int 0, .null, .int 0, .null, .int 0, .null, .int 0, .int 0, .null, .int 0, .null, .null, .null, .null, .null, .null, .null, .null, .null, .null, .null, .null, .null, .null, .int 0, .int 0, .null, .null]]
def cdf (a : Nat) : List Value := cdfl.getD a []
theorem cdf_ok : ∀ a, ∀ v ∈ cdf a, v = .null ∨ v = .int 0 := by
  have h : ∀ l ∈ cdfl, ∀ v ∈ l, v = .null ∨ v = .int 0 := by decide +kernel
  intro a v hv
  unfold cdf at hv
  rw [List.getD_eq_getElem?_getD] at hv
  cases hg : cdfl[a]? with
  | none => rw [hg] at hv; simp at hv
  | some l => rw [hg] at hv; exact h l (List.mem_of_getElem? hg) v hv
def kX0_init : List ab_I := [(0, .aload_n 0, 1, 0, 0), (1, .invokespecial 3, 3, 999, 0), (4, .aload_n 0, 1, 0, 0), (5, .sipush 3000, 3, 0, 0), (8, .newarray .int, 2, 0, 3000), (10, .putfield 9, 3, 0, 1000), (13, .aload_n 0, 1, 0, 0), (14, .bipush 41, 2, 0, 0), (16, .newarray .int, 2, 0, 41), (18, .putfield 15, 3, 0, 1001), (21, .aload_n 0, 1, 0, 0), (22, .sipush 3000, 3, 0, 0), (25, .newarray .int, 2, 0, 3000), (27, .putfield 18, 3, 0, 1002), (30, .return_, 1, 0, 0)]
def nX0_init : cn_M := (yX0_init, cX0_init, 1, 3, 6041, kX0_init)
def kX1_init : List ab_I := [(0, .aload_n 0, 1, 0, 0), (1, .invokespecial 3, 3, 999, 0), (4, .aload_n 0, 1, 0, 0), (5, .sipush 3000, 3, 0, 0), (8, .newarray .boolean, 2, 1, 3000), (10, .putfield 9, 3, 1, 1001), (13, .aload_n 0, 1, 0, 0), (14, .sipush 256, 3, 0, 0), (17, .newarray .int, 2, 0, 256), (19, .putfield 15, 3, 1, 1002), (22, .aload_n 0, 1, 0, 0), (23, .aload_n 1, 1, 0, 0), (24, .putfield 19, 3, 1, 1000), (27, .return_, 1, 0, 0)]
def nX1_init : cn_M := (yX1_init, cX1_init, 2, 2, 3256, kX1_init)
def kX2_init : List ab_I := [(0, .aload_n 0, 1, 0, 0), (1, .invokespecial 3, 3, 999, 0), (4, .aload_n 0, 1, 0, 0), (5, .sipush 3000, 3, 0, 0), (8, .newarray .int, 2, 0, 3000), (10, .putfield 9, 3, 2, 1000), (13, .aload_n 0, 1, 0, 0), (14, .sipush 3000, 3, 0, 0), (17, .newarray .int, 2, 0, 3000), (19, .putfield 15, 3, 2, 1001), (22, .aload_n 0, 1, 0, 0), (23, .bipush 41, 2, 0, 0), (25, .newarray .int, 2, 0, 41), (27, .putfield 18, 3, 2, 1002), (30, .aload_n 0, 1, 0, 0), (31, .sipush 3000, 3, 0, 0), (34, .newarray .int, 2, 0, 3000), (36, .putfield 21, 3, 2, 1003), (39, .aload_n 0, 1, 0, 0), (40, .sipush 3000, 3, 0, 0), (43, .newarray .int, 2, 0, 3000), (45, .putfield 24, 3, 2, 1004), (48, .aload_n 0, 1, 0, 0), (49, .sipush 3000, 3, 0, 0), (52, .newarray .int, 2, 0, 3000), (54, .putfield 27, 3, 2, 1005), (57, .aload_n 0, 1, 0, 0), (58, .sipush 3000, 3, 0, 0), (61, .newarray .int, 2, 0, 3000), (63, .putfield 30, 3, 2, 1006), (66, .aload_n 0, 1, 0, 0), (67, .new 33, 3, 8, 3), (70, .dup, 1, 0, 0), (71, .invokespecial 35, 3, 8, 0), (74, .putfield 36, 3, 2, 1007), (77, .aload_n 0, 1, 0, 0), (78, .iconst 1, 1, 0, 0), (79, .putfield 40, 3, 2, 10), (82, .return_, 1, 0, 0)]
def nX2_init : cn_M := (yX2_init, cX2_init, 1, 11, 27045, kX2_init)
def kX3_init : List ab_I := [(0, .aload_n 0, 1, 0, 0), (1, .invokespecial 3, 3, 999, 0), (4, .aload_n 0, 1, 0, 0), (5, .sipush 240, 3, 0, 0), (8, .newarray .int, 2, 0, 240), (10, .putfield 11, 3, 3, 1003), (13, .aload_n 0, 1, 0, 0), (14, .sipush 240, 3, 0, 0), (17, .newarray .int, 2, 0, 240), (19, .putfield 17, 3, 3, 1004), (22, .aload_n 0, 1, 0, 0), (23, .sipush 240, 3, 0, 0), (26, .newarray .int, 2, 0, 240), (28, .putfield 20, 3, 3, 1005), (31, .aload_n 0, 1, 0, 0), (32, .sipush 240, 3, 0, 0), (35, .newarray .int, 2, 0, 240), (37, .putfield 23, 3, 3, 1006), (40, .aload_n 0, 1, 0, 0), (41, .sipush 3000, 3, 0, 0), (44, .newarray .int, 2, 0, 3000), (46, .putfield 26, 3, 3, 1007), (49, .aload_n 0, 1, 0, 0), (50, .sipush 3000, 3, 0, 0), (53, .newarray .int, 2, 0, 3000), (55, .putfield 29, 3, 3, 1008), (58, .aload_n 0, 1, 0, 0), (59, .sipush 3000, 3, 0, 0), (62, .newarray .int, 2, 0, 3000), (64, .putfield 32, 3, 3, 1009), (67, .aload_n 0, 1, 0, 0), (68, .sipush 3000, 3, 0, 0), (71, .putfield 35, 3, 3, 10), (74, .aload_n 0, 1, 0, 0), (75, .aload_n 1, 1, 0, 0), (76, .putfield 39, 3, 3, 1000), (79, .aload_n 0, 1, 0, 0), (80, .aload_n 2, 1, 0, 0), (81, .putfield 43, 3, 3, 1001), (84, .aload_n 0, 1, 0, 0), (85, .new 9, 3, 9, 8), (88, .dup, 1, 0, 0), (89, .aload_n 2, 1, 0, 0), (90, .invokespecial 47, 3, 9, 1), (93, .putfield 50, 3, 3, 1002), (96, .return_, 1, 0, 0)]
def nX3_init : cn_M := (yX3_init, cX3_init, 3, 13, 11168, kX3_init)
def kX4_init : List ab_I := [(0, .aload_n 0, 1, 0, 0), (1, .invokespecial 3, 3, 999, 0), (4, .aload_n 0, 1, 0, 0), (5, .sipush 3000, 3, 0, 0), (8, .newarray .int, 2, 0, 3000), (10, .putfield 9, 3, 4, 1002), (13, .aload_n 0, 1, 0, 0), (14, .sipush 3000, 3, 0, 0), (17, .newarray .int, 2, 0, 3000), (19, .putfield 15, 3, 4, 1003), (22, .aload_n 0, 1, 0, 0), (23, .aload_n 1, 1, 0, 0), (24, .putfield 18, 3, 4, 1000), (27, .aload_n 0, 1, 0, 0), (28, .aload_n 2, 1, 0, 0), (29, .putfield 22, 3, 4, 1001), (32, .return_, 1, 0, 0)]
def nX4_init : cn_M := (yX4_init, cX4_init, 3, 2, 6000, kX4_init)
def kX5_init : List ab_I := [(0, .aload_n 0, 1, 0, 0), (1, .invokespecial 3, 3, 999, 0), (4, .aload_n 0, 1, 0, 0), (5, .sipush 3000, 3, 0, 0), (8, .newarray .int, 2, 0, 3000), (10, .putfield 9, 3, 5, 1001), (13, .aload_n 0, 1, 0, 0), (14, .sipush 3000, 3, 0, 0), (17, .newarray .int, 2, 0, 3000), (19, .putfield 15, 3, 5, 1002), (22, .aload_n 0, 1, 0, 0), (23, .sipush 3000, 3, 0, 0), (26, .newarray .int, 2, 0, 3000), (28, .putfield 18, 3, 5, 1003), (31, .aload_n 0, 1, 0, 0), (32, .sipush 3000, 3, 0, 0), (35, .newarray .int, 2, 0, 3000), (37, .putfield 21, 3, 5, 1004), (40, .aload_n 0, 1, 0, 0), (41, .sipush 3000, 3, 0, 0), (44, .newarray .int, 2, 0, 3000), (46, .putfield 24, 3, 5, 1005), (49, .aload_n 0, 1, 0, 0), (50, .sipush 3000, 3, 0, 0), (53, .newarray .int, 2, 0, 3000), (55, .putfield 27, 3, 5, 1006), (58, .aload_n 0, 1, 0, 0), (59, .aload_n 1, 1, 0, 0), (60, .putfield 30, 3, 5, 1000), (63, .return_, 1, 0, 0)]
def nX5_init : cn_M := (yX5_init, cX5_init, 2, 6, 18000, kX5_init)
def kX6_init : List ab_I := [(0, .aload_n 0, 1, 0, 0), (1, .invokespecial 3, 3, 999, 0), (4, .aload_n 0, 1, 0, 0), (5, .sipush 200, 3, 0, 0), (8, .newarray .int, 2, 0, 200), (10, .putfield 9, 3, 6, 1000), (13, .aload_n 0, 1, 0, 0), (14, .sipush 200, 3, 0, 0), (17, .newarray .int, 2, 0, 200), (19, .putfield 15, 3, 6, 1001), (22, .aload_n 0, 1, 0, 0), (23, .sipush 200, 3, 0, 0), (26, .newarray .int, 2, 0, 200), (28, .putfield 18, 3, 6, 1002), (31, .aload_n 0, 1, 0, 0), (32, .sipush 200, 3, 0, 0), (35, .newarray .int, 2, 0, 200), (37, .putfield 21, 3, 6, 1003), (40, .aload_n 0, 1, 0, 0), (41, .sipush 200, 3, 0, 0), (44, .newarray .int, 2, 0, 200), (46, .putfield 24, 3, 6, 1004), (49, .aload_n 0, 1, 0, 0), (50, .sipush 800, 3, 0, 0), (53, .newarray .long, 2, 2, 800), (55, .putfield 27, 3, 6, 1005), (58, .aload_n 0, 1, 0, 0), (59, .bipush (-2), 2, 0, 0), (61, .putfield 31, 3, 6, 8), (64, .return_, 1, 0, 0)]
def nX6_init : cn_M := (yX6_init, cX6_init, 1, 6, 1800, kX6_init)
def kX7_init : List ab_I := [(0, .aload_n 0, 1, 0, 0), (1, .invokespecial 3, 3, 999, 0), (4, .aload_n 0, 1, 0, 0), (5, .sipush 3000, 3, 0, 0), (8, .newarray .int, 2, 0, 3000), (10, .putfield 9, 3, 7, 1002), (13, .aload_n 0, 1, 0, 0), (14, .sipush 3000, 3, 0, 0), (17, .newarray .int, 2, 0, 3000), (19, .putfield 15, 3, 7, 1003), (22, .aload_n 0, 1, 0, 0), (23, .sipush 256, 3, 0, 0), (26, .newarray .int, 2, 0, 256), (28, .putfield 18, 3, 7, 1004), (31, .aload_n 0, 1, 0, 0), (32, .aload_n 1, 1, 0, 0), (33, .putfield 21, 3, 7, 1000), (36, .aload_n 0, 1, 0, 0), (37, .aload_n 2, 1, 0, 0), (38, .putfield 25, 3, 7, 1001), (41, .return_, 1, 0, 0)]
def nX7_init : cn_M := (yX7_init, cX7_init, 3, 3, 6256, kX7_init)
def kX8_init : List ab_I := [(0, .aload_n 0, 1, 0, 0), (1, .invokespecial 3, 3, 999, 0), (4, .aload_n 0, 1, 0, 0), (5, .sipush 3000, 3, 0, 0), (8, .newarray .int, 2, 0, 3000), (10, .putfield 9, 3, 8, 1000), (13, .aload_n 0, 1, 0, 0), (14, .sipush 3000, 3, 0, 0), (17, .newarray .int, 2, 0, 3000), (19, .putfield 15, 3, 8, 1001), (22, .aload_n 0, 1, 0, 0), (23, .sipush 3001, 3, 0, 0), (26, .newarray .int, 2, 0, 3001), (28, .putfield 18, 3, 8, 1002), (31, .return_, 1, 0, 0)]
def nX8_init : cn_M := (yX8_init, cX8_init, 1, 3, 9001, kX8_init)
def kX9_init : List ab_I := [(0, .aload_n 0, 1, 0, 0), (1, .invokespecial 3, 3, 999, 0), (4, .aload_n 0, 1, 0, 0), (5, .sipush 240, 3, 0, 0), (8, .newarray .int, 2, 0, 240), (10, .putfield 11, 3, 9, 1001), (13, .aload_n 0, 1, 0, 0), (14, .sipush 240, 3, 0, 0), (17, .newarray .int, 2, 0, 240), (19, .putfield 15, 3, 9, 1002), (22, .aload_n 0, 1, 0, 0), (23, .sipush 240, 3, 0, 0), (26, .newarray .int, 2, 0, 240), (28, .putfield 18, 3, 9, 1003), (31, .aload_n 0, 1, 0, 0), (32, .sipush 240, 3, 0, 0), (35, .newarray .boolean, 2, 1, 240), (37, .putfield 21, 3, 9, 1004), (40, .aload_n 0, 1, 0, 0), (41, .sipush 240, 3, 0, 0), (44, .newarray .boolean, 2, 1, 240), (46, .putfield 25, 3, 9, 1005), (49, .aload_n 0, 1, 0, 0), (50, .aload_n 1, 1, 0, 0), (51, .putfield 28, 3, 9, 1000), (54, .return_, 1, 0, 0)]
def nX9_init : cn_M := (yX9_init, cX9_init, 2, 5, 1200, kX9_init)
def kX10_init : List ab_I := [(0, .aload_n 0, 1, 0, 0), (1, .invokespecial 1, 3, 999, 0), (4, .aload_n 0, 1, 0, 0), (5, .new 7, 3, 0, 5), (8, .dup, 1, 0, 0), (9, .invokespecial 9, 3, 0, 0), (12, .putfield 10, 3, 10, 1000), (15, .aload_n 0, 1, 0, 0), (16, .new 16, 3, 2, 12), (19, .dup, 1, 0, 0), (20, .invokespecial 18, 3, 2, 0), (23, .putfield 19, 3, 10, 1001), (26, .aload_n 0, 1, 0, 0), (27, .new 23, 3, 1, 8), (30, .dup, 1, 0, 0), (31, .aload_n 0, 1, 0, 0), (32, .getfield 19, 3, 10, 1), (35, .invokespecial 25, 3, 1, 1), (38, .putfield 28, 3, 10, 1002), (41, .aload_n 0, 1, 0, 0), (42, .new 32, 3, 4, 5), (45, .dup, 1, 0, 0), (46, .aload_n 0, 1, 0, 0), (47, .getfield 19, 3, 10, 1), (50, .aload_n 0, 1, 0, 0), (51, .getfield 28, 3, 10, 2), (54, .invokespecial 34, 3, 4, 2), (57, .putfield 37, 3, 10, 1003), (60, .aload_n 0, 1, 0, 0), (61, .new 41, 3, 6, 9), (64, .dup, 1, 0, 0), (65, .invokespecial 43, 3, 6, 0), (68, .putfield 44, 3, 10, 1004), (71, .aload_n 0, 1, 0, 0), (72, .new 48, 3, 3, 11), (75, .dup, 1, 0, 0), (76, .aload_n 0, 1, 0, 0), (77, .getfield 19, 3, 10, 1), (80, .aload_n 0, 1, 0, 0), (81, .getfield 44, 3, 10, 4), (84, .invokespecial 50, 3, 3, 2), (87, .putfield 53, 3, 10, 1005), (90, .aload_n 0, 1, 0, 0), (91, .new 57, 3, 7, 5), (94, .dup, 1, 0, 0), (95, .aload_n 0, 1, 0, 0), (96, .getfield 19, 3, 10, 1), (99, .aload_n 0, 1, 0, 0), (100, .getfield 28, 3, 10, 2), (103, .invokespecial 59, 3, 7, 2), (106, .putfield 60, 3, 10, 1006), (109, .aload_n 0, 1, 0, 0), (110, .new 64, 3, 5, 7), (113, .dup, 1, 0, 0), (114, .aload_n 0, 1, 0, 0), (115, .getfield 19, 3, 10, 1), (118, .invokespecial 66, 3, 5, 1), (121, .putfield 67, 3, 10, 1007), (124, .return_, 1, 0, 0)]
def nX10_init : cn_M := (yX10_init, cX10_init, 1, 54, 79628, kX10_init)
def kX11_init : List ab_I := [(0, .aload_n 0, 1, 0, 0), (1, .invokespecial 1, 3, 999, 0), (4, .aload_n 0, 1, 0, 0), (5, .sipush 3000, 3, 0, 0), (8, .newarray .int, 2, 0, 3000), (10, .putfield 7, 3, 11, 1000), (13, .aload_n 0, 1, 0, 0), (14, .bipush 40, 2, 0, 0), (16, .newarray .int, 2, 0, 40), (18, .putfield 13, 3, 11, 1002), (21, .aload_n 0, 1, 0, 0), (22, .sipush 3000, 3, 0, 0), (25, .newarray .int, 2, 0, 3000), (27, .putfield 16, 3, 11, 1004), (30, .aload_n 0, 1, 0, 0), (31, .sipush 3000, 3, 0, 0), (34, .newarray .int, 2, 0, 3000), (36, .putfield 19, 3, 11, 1011), (39, .aload_n 0, 1, 0, 0), (40, .sipush 3000, 3, 0, 0), (43, .newarray .int, 2, 0, 3000), (45, .putfield 22, 3, 11, 1012), (48, .aload_n 0, 1, 0, 0), (49, .bipush 40, 2, 0, 0), (51, .newarray .int, 2, 0, 40), (53, .putfield 25, 3, 11, 1013), (56, .aload_n 0, 1, 0, 0), (57, .bipush 40, 2, 0, 0), (59, .newarray .int, 2, 0, 40), (61, .putfield 28, 3, 11, 1014), (64, .aload_n 0, 1, 0, 0), (65, .sipush 3000, 3, 0, 0), (68, .newarray .int, 2, 0, 3000), (70, .putfield 31, 3, 11, 1015), (73, .aload_n 0, 1, 0, 0), (74, .sipush 3001, 3, 0, 0), (77, .newarray .int, 2, 0, 3001), (79, .putfield 34, 3, 11, 1016), (82, .aload_n 0, 1, 0, 0), (83, .sipush 3001, 3, 0, 0), (86, .newarray .int, 2, 0, 3001), (88, .putfield 37, 3, 11, 1017), (91, .aload_n 0, 1, 0, 0), (92, .sipush 3000, 3, 0, 0), (95, .newarray .int, 2, 0, 3000), (97, .putfield 40, 3, 11, 1018), (100, .aload_n 0, 1, 0, 0), (101, .sipush 3000, 3, 0, 0), (104, .newarray .int, 2, 0, 3000), (106, .putfield 43, 3, 11, 1019), (109, .aload_n 0, 1, 0, 0), (110, .sipush 3400, 3, 0, 0), (113, .newarray .int, 2, 0, 3400), (115, .putfield 46, 3, 11, 1020), (118, .aload_n 0, 1, 0, 0), (119, .sipush 3000, 3, 0, 0), (122, .newarray .int, 2, 0, 3000), (124, .putfield 49, 3, 11, 1021), (127, .aload_n 0, 1, 0, 0), (128, .sipush 3000, 3, 0, 0), (131, .newarray .boolean, 2, 1, 3000), (133, .putfield 52, 3, 11, 1025), (136, .aload_n 0, 1, 0, 0), (137, .sipush 3000, 3, 0, 0), (140, .newarray .int, 2, 0, 3000), (142, .putfield 56, 3, 11, 1027), (145, .aload_n 0, 1, 0, 0), (146, .sipush 3000, 3, 0, 0), (149, .newarray .int, 2, 0, 3000), (151, .putfield 59, 3, 11, 1028), (154, .aload_n 0, 1, 0, 0), (155, .sipush 200, 3, 0, 0), (158, .newarray .int, 2, 0, 200), (160, .putfield 62, 3, 11, 1030), (163, .aload_n 0, 1, 0, 0), (164, .sipush 3000, 3, 0, 0), (167, .newarray .int, 2, 0, 3000), (169, .putfield 65, 3, 11, 1034), (172, .aload_n 0, 1, 0, 0), (173, .sipush 3000, 3, 0, 0), (176, .newarray .int, 2, 0, 3000), (178, .putfield 68, 3, 11, 1035), (181, .aload_n 0, 1, 0, 0), (182, .sipush 3000, 3, 0, 0), (185, .newarray .int, 2, 0, 3000), (187, .putfield 71, 3, 11, 1036), (190, .aload_n 0, 1, 0, 0), (191, .bipush 22, 2, 0, 0), (193, .newarray .long, 2, 2, 22), (195, .putfield 74, 3, 11, 1039), (198, .aload_n 0, 1, 0, 0), (199, .bipush 22, 2, 0, 0), (201, .newarray .long, 2, 2, 22), (203, .putfield 78, 3, 11, 1040), (206, .aload_n 0, 1, 0, 0), (207, .bipush 22, 2, 0, 0), (209, .newarray .boolean, 2, 1, 22), (211, .putfield 81, 3, 11, 1041), (214, .aload_n 0, 1, 0, 0), (215, .bipush 22, 2, 0, 0), (217, .newarray .int, 2, 0, 22), (219, .putfield 84, 3, 11, 1042), (222, .aload_n 0, 1, 0, 0), (223, .bipush 22, 2, 0, 0), (225, .newarray .int, 2, 0, 22), (227, .putfield 87, 3, 11, 1043), (230, .aload_n 0, 1, 0, 0), (231, .bipush 22, 2, 0, 0), (233, .newarray .int, 2, 0, 22), (235, .putfield 90, 3, 11, 1044), (238, .aload_n 0, 1, 0, 0), (239, .ldc 93, 2, 60000, 0), (241, .newarray .int, 2, 0, 60000), (243, .putfield 94, 3, 11, 1047), (246, .aload_n 0, 1, 0, 0), (247, .sipush 200, 3, 0, 0), (250, .newarray .int, 2, 0, 200), (252, .putfield 97, 3, 11, 1049), (255, .aload_n 0, 1, 0, 0), (256, .sipush 25600, 3, 0, 0), (259, .newarray .boolean, 2, 1, 25600), (261, .putfield 100, 3, 11, 1051), (264, .aload_n 0, 1, 0, 0), (265, .bipush 22, 2, 0, 0), (267, .newarray .int, 2, 0, 22), (269, .putfield 103, 3, 11, 1054), (272, .aload_n 0, 1, 0, 0), (273, .sipush 128, 3, 0, 0), (276, .newarray .int, 2, 0, 128), (278, .putfield 106, 3, 11, 1056), (281, .aload_n 0, 1, 0, 0), (282, .sipush 128, 3, 0, 0), (285, .newarray .long, 2, 2, 128), (287, .putfield 109, 3, 11, 1057), (290, .aload_n 0, 1, 0, 0), (291, .sipush 128, 3, 0, 0), (294, .newarray .long, 2, 2, 128), (296, .putfield 112, 3, 11, 1058), (299, .aload_n 0, 1, 0, 0), (300, .sipush 400, 3, 0, 0), (303, .newarray .boolean, 2, 1, 400), (305, .putfield 115, 3, 11, 1059), (308, .aload_n 0, 1, 0, 0), (309, .sipush 400, 3, 0, 0), (312, .newarray .long, 2, 2, 400), (314, .putfield 118, 3, 11, 1060), (317, .aload_n 0, 1, 0, 0), (318, .sipush 400, 3, 0, 0), (321, .newarray .long, 2, 2, 400), (323, .putfield 121, 3, 11, 1061), (326, .aload_n 0, 1, 0, 0), (327, .sipush 400, 3, 0, 0), (330, .newarray .long, 2, 2, 400), (332, .putfield 124, 3, 11, 1062), (335, .aload_n 0, 1, 0, 0), (336, .sipush 400, 3, 0, 0), (339, .newarray .long, 2, 2, 400), (341, .putfield 127, 3, 11, 1063), (344, .aload_n 0, 1, 0, 0), (345, .bipush 40, 2, 0, 0), (347, .newarray .boolean, 2, 1, 40), (349, .putfield 130, 3, 11, 1064), (352, .aload_n 0, 1, 0, 0), (353, .sipush 3001, 3, 0, 0), (356, .newarray .int, 2, 0, 3001), (358, .putfield 133, 3, 11, 1065), (361, .aload_n 0, 1, 0, 0), (362, .sipush 3001, 3, 0, 0), (365, .newarray .int, 2, 0, 3001), (367, .putfield 136, 3, 11, 1066), (370, .aload_n 0, 1, 0, 0), (371, .ldc 139, 2, 65536, 0), (373, .newarray .int, 2, 0, 65536), (375, .putfield 140, 3, 11, 1067), (378, .aload_n 0, 1, 0, 0), (379, .sipush 256, 3, 0, 0), (382, .newarray .int, 2, 0, 256), (384, .putfield 143, 3, 11, 1068), (387, .aload_n 0, 1, 0, 0), (388, .sipush 256, 3, 0, 0), (391, .newarray .int, 2, 0, 256), (393, .putfield 146, 3, 11, 1069), (396, .aload_n 0, 1, 0, 0), (397, .sipush 3000, 3, 0, 0), (400, .newarray .int, 2, 0, 3000), (402, .putfield 149, 3, 11, 1072), (405, .aload_n 0, 1, 0, 0), (406, .sipush 3000, 3, 0, 0), (409, .newarray .int, 2, 0, 3000), (411, .putfield 152, 3, 11, 1073), (414, .return_, 1, 0, 0)]
def nX11_init : cn_M := (yX11_init, cX11_init, 1, 47, 218150, kX11_init)
def cpr : List cn_M := [nX0_init, nX1_init, nX2_init, nX3_init, nX4_init, nX5_init, nX6_init, nX7_init, nX8_init, nX9_init, nX10_init, nX11_init]
def nst : List (String × Nat × MethodName × String) := [(RX10, 9, yX0_init, RX10), (RX10, 18, yX2_init, RX10), (RX10, 43, yX6_init, RX10), (RX2, 35, yX8_init, RX10)]
set_option maxRecDepth 20000 in
theorem nst_in : ∀ q ∈ nst, Cond.methodLinkNest q.1 q.2.1 q.2.2.1 q.2.2.2 ∈ lw_tbl := List.forall_mem_cons.mpr ⟨List.mem_of_getElem? (i := 121) (by decide +kernel), List.forall_mem_cons.mpr ⟨List.mem_of_getElem? (i := 149) (by decide +kernel), List.forall_mem_cons.mpr ⟨List.mem_of_getElem? (i := 309) (by decide +kernel), List.forall_mem_cons.mpr ⟨List.mem_of_getElem? (i := 155) (by decide +kernel), fun _ h => absurd h List.not_mem_nil⟩⟩⟩⟩
theorem cn_lk_ref {U : List Cond} {cl : List vw_C} {df : Nat → List Value} {pr : List cn_M} {nests : List (String × Nat × MethodName × String)} {own : String} {idx a k : Nat} {C : String} {T : u_T} {N' : Nat} (hc : cl[a]? = some (C, T, N')) (hk : k < N') (hl : Cond.fieldLink own idx (T k).1 (T k).2.1 (T k).2.2.1 ∈ U) (hf : (T k).2.2.2 = true) (ho : (T k).1 = own) {ty : FieldType} (hp : parseFieldDescriptor (T k).2.2.1 = some ty) (hn : ∀ q : Nat, narrow ty (.ref q) = .ref q ∧ fits ty (.ref q) = true) : cn_lk U cl df pr nests own (.putfield idx) a (k + 1000) := by
  have n : ¬ k + 1000 < 1000 := by omega
  refine ⟨C, T, N', hc, ?_, ?_, ?_⟩
  · rw [if_neg n, Nat.add_sub_cancel]; exact hk
  · rw [if_neg n, Nat.add_sub_cancel]; exact hl
  · rw [if_neg n, Nat.add_sub_cancel]; exact ⟨hf, ho, ty, hp, hn⟩
theorem cn_lk_int {U : List Cond} {cl : List vw_C} {df : Nat → List Value} {pr : List cn_M} {nests : List (String × Nat × MethodName × String)} {own : String} {idx a k : Nat} {C : String} {T : u_T} {N' : Nat} (hc : cl[a]? = some (C, T, N')) (hk : k < N') (hl : Cond.fieldLink own idx (T k).1 (T k).2.1 (T k).2.2.1 ∈ U) (hf : (T k).2.2.2 = false) (hp : parseFieldDescriptor (T k).2.2.1 = some .int) (n : k < 1000) : cn_lk U cl df pr nests own (.putfield idx) a k := by
  refine ⟨C, T, N', hc, ?_, ?_, ?_⟩
  · rw [if_pos n]; exact hk
  · rw [if_pos n]; exact hl
  · rw [if_pos n]; exact ⟨hf, hp⟩
theorem cn_lk_call {U : List Cond} {cl : List vw_C} {df : Nat → List Value} {pr : List cn_M} {nests : List (String × Nat × MethodName × String)} {own : String} {idx a b : Nat} (n : a ≠ 999) (M : cn_M) (h1 : pr[a]? = some M) (h2 : Cond.instanceMethod M.1 ∈ U) (h3 : (parseMethodDescriptor M.1.desc).map (fun d => d.parameters.length) = some b) (h4 : Cond.methodLink own idx M.1 ∈ U ∨ ∃ host, (own, idx, M.1, host) ∈ nests) : cn_lk U cl df pr nests own (.invokespecial idx) a b := by
  show if a = 999 then _ else _
  rw [if_neg n]
  exact ⟨M, h1, h2, h3, h4⟩
set_option maxRecDepth 20000 in
theorem zc_X0_init_0 : cn_okq uw vwCl cdf cpr nst RX0 cX0_init (0, .aload_n 0, 1, 0, 0) := ⟨by decide +kernel, rfl, ⟨(fun _ h => (by cases h)), (fun _ h => (by cases h)), (fun _ h => (by cases h))⟩, trivial⟩
set_option maxRecDepth 20000 in
theorem zc_X0_init_1 : cn_okq uw vwCl cdf cpr nst RX0 cX0_init (1, .invokespecial 3, 3, 999, 0) := ⟨by decide +kernel, trivial, ⟨(fun _ h => (by cases h)), (fun _ h => (by cases h)), fun _ _ => rfl⟩, ⟨(uw_m1 29 rfl rfl), (uw_m1 22 rfl rfl), (uw_m1 23 rfl rfl)⟩⟩
set_option maxRecDepth 20000 in
theorem zc_X0_init_4 : cn_okq uw vwCl cdf cpr nst RX0 cX0_init (4, .aload_n 0, 1, 0, 0) := ⟨by decide +kernel, rfl, ⟨(fun _ h => (by cases h)), (fun _ h => (by cases h)), (fun _ h => (by cases h))⟩, trivial⟩
set_option maxRecDepth 20000 in
theorem zc_X0_init_5 : cn_okq uw vwCl cdf cpr nst RX0 cX0_init (5, .sipush 3000, 3, 0, 0) := ⟨by decide +kernel, rfl, ⟨(fun _ h => (by cases h)), (fun _ h => (by cases h)), (fun _ h => (by cases h))⟩, trivial⟩
set_option maxRecDepth 20000 in
theorem zc_X0_init_8 : cn_okq uw vwCl cdf cpr nst RX0 cX0_init (8, .newarray .int, 2, 0, 3000) := ⟨by decide +kernel, trivial, ⟨fun _ _ => rfl, (fun _ h => (by cases h)), (fun _ h => (by cases h))⟩, ⟨(uw_m1 51 rfl rfl), Or.inl ⟨rfl, rfl⟩⟩⟩
set_option maxRecDepth 20000 in
theorem zc_X0_init_10 : cn_okq uw vwCl cdf cpr nst RX0 cX0_init (10, .putfield 9, 3, 0, 1000) := ⟨by decide +kernel, rfl, ⟨(fun _ h => (by cases h)), (fun _ h => (by cases h)), (fun _ h => (by cases h))⟩, cn_lk_ref (k := 0) (C := RX0) (T := TX0) (N' := 5) rfl (by decide) (uw_m1 30 rfl rfl) rfl rfl (ty := tyX0 0) (by decide +kernel) (fun _ => ⟨rfl, rfl⟩)⟩
set_option maxRecDepth 20000 in
theorem zc_X0_init_13 : cn_okq uw vwCl cdf cpr nst RX0 cX0_init (13, .aload_n 0, 1, 0, 0) := ⟨by decide +kernel, rfl, ⟨(fun _ h => (by cases h)), (fun _ h => (by cases h)), (fun _ h => (by cases h))⟩, trivial⟩
set_option maxRecDepth 20000 in
theorem zc_X0_init_14 : cn_okq uw vwCl cdf cpr nst RX0 cX0_init (14, .bipush 41, 2, 0, 0) := ⟨by decide +kernel, rfl, ⟨(fun _ h => (by cases h)), (fun _ h => (by cases h)), (fun _ h => (by cases h))⟩, trivial⟩
set_option maxRecDepth 20000 in
theorem zc_X0_init_16 : cn_okq uw vwCl cdf cpr nst RX0 cX0_init (16, .newarray .int, 2, 0, 41) := ⟨by decide +kernel, trivial, ⟨fun _ _ => rfl, (fun _ h => (by cases h)), (fun _ h => (by cases h))⟩, ⟨(uw_m1 51 rfl rfl), Or.inl ⟨rfl, rfl⟩⟩⟩
set_option maxRecDepth 20000 in
theorem zc_X0_init_18 : cn_okq uw vwCl cdf cpr nst RX0 cX0_init (18, .putfield 15, 3, 0, 1001) := ⟨by decide +kernel, rfl, ⟨(fun _ h => (by cases h)), (fun _ h => (by cases h)), (fun _ h => (by cases h))⟩, cn_lk_ref (k := 1) (C := RX0) (T := TX0) (N' := 5) rfl (by decide) (uw_m1 32 rfl rfl) rfl rfl (ty := tyX0 1) (by decide +kernel) (fun _ => ⟨rfl, rfl⟩)⟩
set_option maxRecDepth 20000 in
theorem zc_X0_init_21 : cn_okq uw vwCl cdf cpr nst RX0 cX0_init (21, .aload_n 0, 1, 0, 0) := ⟨by decide +kernel, rfl, ⟨(fun _ h => (by cases h)), (fun _ h => (by cases h)), (fun _ h => (by cases h))⟩, trivial⟩
set_option maxRecDepth 20000 in
theorem zc_X0_init_22 : cn_okq uw vwCl cdf cpr nst RX0 cX0_init (22, .sipush 3000, 3, 0, 0) := ⟨by decide +kernel, rfl, ⟨(fun _ h => (by cases h)), (fun _ h => (by cases h)), (fun _ h => (by cases h))⟩, trivial⟩
set_option maxRecDepth 20000 in
theorem zc_X0_init_25 : cn_okq uw vwCl cdf cpr nst RX0 cX0_init (25, .newarray .int, 2, 0, 3000) := ⟨by decide +kernel, trivial, ⟨fun _ _ => rfl, (fun _ h => (by cases h)), (fun _ h => (by cases h))⟩, ⟨(uw_m1 51 rfl rfl), Or.inl ⟨rfl, rfl⟩⟩⟩
set_option maxRecDepth 20000 in
theorem zc_X0_init_27 : cn_okq uw vwCl cdf cpr nst RX0 cX0_init (27, .putfield 18, 3, 0, 1002) := ⟨by decide +kernel, rfl, ⟨(fun _ h => (by cases h)), (fun _ h => (by cases h)), (fun _ h => (by cases h))⟩, cn_lk_ref (k := 2) (C := RX0) (T := TX0) (N' := 5) rfl (by decide) (uw_m1 34 rfl rfl) rfl rfl (ty := tyX0 2) (by decide +kernel) (fun _ => ⟨rfl, rfl⟩)⟩
set_option maxRecDepth 20000 in
theorem zc_X0_init_30 : cn_okq uw vwCl cdf cpr nst RX0 cX0_init (30, .return_, 1, 0, 0) := ⟨by decide +kernel, rfl, ⟨(fun _ h => (by cases h)), (fun _ h => (by cases h)), (fun _ h => (by cases h))⟩, trivial⟩
set_option maxRecDepth 20000 in
theorem zx_X0_init : cn_cd uw vwCl cdf cpr nst nX0_init := ⟨by decide +kernel, List.forall_mem_cons.mpr ⟨zc_X0_init_0, List.forall_mem_cons.mpr ⟨zc_X0_init_1, List.forall_mem_cons.mpr ⟨zc_X0_init_4, List.forall_mem_cons.mpr ⟨zc_X0_init_5, List.forall_mem_cons.mpr ⟨zc_X0_init_8, List.forall_mem_cons.mpr ⟨zc_X0_init_10, List.forall_mem_cons.mpr ⟨zc_X0_init_13, List.forall_mem_cons.mpr ⟨zc_X0_init_14, List.forall_mem_cons.mpr ⟨zc_X0_init_16, List.forall_mem_cons.mpr ⟨zc_X0_init_18, List.forall_mem_cons.mpr ⟨zc_X0_init_21, List.forall_mem_cons.mpr ⟨zc_X0_init_22, List.forall_mem_cons.mpr ⟨zc_X0_init_25, List.forall_mem_cons.mpr ⟨zc_X0_init_27, List.forall_mem_cons.mpr ⟨zc_X0_init_30, fun _ h => absurd h List.not_mem_nil⟩⟩⟩⟩⟩⟩⟩⟩⟩⟩⟩⟩⟩⟩⟩⟩
set_option maxRecDepth 20000 in
theorem zm_X0_init : cn_mk uw nX0_init := ⟨(uw_m1 28 rfl rfl), (uw_m1 2 rfl rfl), by decide +kernel, by decide +kernel, by decide +kernel, by decide, rfl⟩
set_option maxRecDepth 20000 in
theorem zc_X1_init_0 : cn_okq uw vwCl cdf cpr nst RX1 cX1_init (0, .aload_n 0, 1, 0, 0) := ⟨by decide +kernel, rfl, ⟨(fun _ h => (by cases h)), (fun _ h => (by cases h)), (fun _ h => (by cases h))⟩, trivial⟩
set_option maxRecDepth 20000 in
theorem zc_X1_init_1 : cn_okq uw vwCl cdf cpr nst RX1 cX1_init (1, .invokespecial 3, 3, 999, 0) := ⟨by decide +kernel, trivial, ⟨(fun _ h => (by cases h)), (fun _ h => (by cases h)), fun _ _ => rfl⟩, ⟨(uw_m1 152 rfl rfl), (uw_m1 22 rfl rfl), (uw_m1 23 rfl rfl)⟩⟩
set_option maxRecDepth 20000 in
theorem zc_X1_init_4 : cn_okq uw vwCl cdf cpr nst RX1 cX1_init (4, .aload_n 0, 1, 0, 0) := ⟨by decide +kernel, rfl, ⟨(fun _ h => (by cases h)), (fun _ h => (by cases h)), (fun _ h => (by cases h))⟩, trivial⟩
set_option maxRecDepth 20000 in
theorem zc_X1_init_5 : cn_okq uw vwCl cdf cpr nst RX1 cX1_init (5, .sipush 3000, 3, 0, 0) := ⟨by decide +kernel, rfl, ⟨(fun _ h => (by cases h)), (fun _ h => (by cases h)), (fun _ h => (by cases h))⟩, trivial⟩
set_option maxRecDepth 20000 in
theorem zc_X1_init_8 : cn_okq uw vwCl cdf cpr nst RX1 cX1_init (8, .newarray .boolean, 2, 1, 3000) := ⟨by decide +kernel, trivial, ⟨fun _ _ => rfl, (fun _ h => (by cases h)), (fun _ h => (by cases h))⟩, ⟨(uw_m1 186 rfl rfl), Or.inr (Or.inl ⟨rfl, rfl⟩)⟩⟩
set_option maxRecDepth 20000 in
theorem zc_X1_init_10 : cn_okq uw vwCl cdf cpr nst RX1 cX1_init (10, .putfield 9, 3, 1, 1001) := ⟨by decide +kernel, rfl, ⟨(fun _ h => (by cases h)), (fun _ h => (by cases h)), (fun _ h => (by cases h))⟩, cn_lk_ref (k := 1) (C := RX1) (T := TX1) (N' := 8) rfl (by decide) (uw_m1 154 rfl rfl) rfl rfl (ty := tyX1 1) (by decide +kernel) (fun _ => ⟨rfl, rfl⟩)⟩
set_option maxRecDepth 20000 in
theorem zc_X1_init_13 : cn_okq uw vwCl cdf cpr nst RX1 cX1_init (13, .aload_n 0, 1, 0, 0) := ⟨by decide +kernel, rfl, ⟨(fun _ h => (by cases h)), (fun _ h => (by cases h)), (fun _ h => (by cases h))⟩, trivial⟩
set_option maxRecDepth 20000 in
theorem zc_X1_init_14 : cn_okq uw vwCl cdf cpr nst RX1 cX1_init (14, .sipush 256, 3, 0, 0) := ⟨by decide +kernel, rfl, ⟨(fun _ h => (by cases h)), (fun _ h => (by cases h)), (fun _ h => (by cases h))⟩, trivial⟩
set_option maxRecDepth 20000 in
theorem zc_X1_init_17 : cn_okq uw vwCl cdf cpr nst RX1 cX1_init (17, .newarray .int, 2, 0, 256) := ⟨by decide +kernel, trivial, ⟨fun _ _ => rfl, (fun _ h => (by cases h)), (fun _ h => (by cases h))⟩, ⟨(uw_m1 51 rfl rfl), Or.inl ⟨rfl, rfl⟩⟩⟩
set_option maxRecDepth 20000 in
theorem zc_X1_init_19 : cn_okq uw vwCl cdf cpr nst RX1 cX1_init (19, .putfield 15, 3, 1, 1002) := ⟨by decide +kernel, rfl, ⟨(fun _ h => (by cases h)), (fun _ h => (by cases h)), (fun _ h => (by cases h))⟩, cn_lk_ref (k := 2) (C := RX1) (T := TX1) (N' := 8) rfl (by decide) (uw_m1 155 rfl rfl) rfl rfl (ty := tyX1 2) (by decide +kernel) (fun _ => ⟨rfl, rfl⟩)⟩
set_option maxRecDepth 20000 in
theorem zc_X1_init_22 : cn_okq uw vwCl cdf cpr nst RX1 cX1_init (22, .aload_n 0, 1, 0, 0) := ⟨by decide +kernel, rfl, ⟨(fun _ h => (by cases h)), (fun _ h => (by cases h)), (fun _ h => (by cases h))⟩, trivial⟩
set_option maxRecDepth 20000 in
theorem zc_X1_init_23 : cn_okq uw vwCl cdf cpr nst RX1 cX1_init (23, .aload_n 1, 1, 0, 0) := ⟨by decide +kernel, rfl, ⟨(fun _ h => (by cases h)), (fun _ h => (by cases h)), (fun _ h => (by cases h))⟩, trivial⟩
set_option maxRecDepth 20000 in
theorem zc_X1_init_24 : cn_okq uw vwCl cdf cpr nst RX1 cX1_init (24, .putfield 19, 3, 1, 1000) := ⟨by decide +kernel, rfl, ⟨(fun _ h => (by cases h)), (fun _ h => (by cases h)), (fun _ h => (by cases h))⟩, cn_lk_ref (k := 0) (C := RX1) (T := TX1) (N' := 8) rfl (by decide) (uw_m1 153 rfl rfl) rfl rfl (ty := tyX1 0) (by decide +kernel) (fun _ => ⟨rfl, rfl⟩)⟩
set_option maxRecDepth 20000 in
theorem zc_X1_init_27 : cn_okq uw vwCl cdf cpr nst RX1 cX1_init (27, .return_, 1, 0, 0) := ⟨by decide +kernel, rfl, ⟨(fun _ h => (by cases h)), (fun _ h => (by cases h)), (fun _ h => (by cases h))⟩, trivial⟩
set_option maxRecDepth 20000 in
theorem zx_X1_init : cn_cd uw vwCl cdf cpr nst nX1_init := ⟨by decide +kernel, List.forall_mem_cons.mpr ⟨zc_X1_init_0, List.forall_mem_cons.mpr ⟨zc_X1_init_1, List.forall_mem_cons.mpr ⟨zc_X1_init_4, List.forall_mem_cons.mpr ⟨zc_X1_init_5, List.forall_mem_cons.mpr ⟨zc_X1_init_8, List.forall_mem_cons.mpr ⟨zc_X1_init_10, List.forall_mem_cons.mpr ⟨zc_X1_init_13, List.forall_mem_cons.mpr ⟨zc_X1_init_14, List.forall_mem_cons.mpr ⟨zc_X1_init_17, List.forall_mem_cons.mpr ⟨zc_X1_init_19, List.forall_mem_cons.mpr ⟨zc_X1_init_22, List.forall_mem_cons.mpr ⟨zc_X1_init_23, List.forall_mem_cons.mpr ⟨zc_X1_init_24, List.forall_mem_cons.mpr ⟨zc_X1_init_27, fun _ h => absurd h List.not_mem_nil⟩⟩⟩⟩⟩⟩⟩⟩⟩⟩⟩⟩⟩⟩⟩
set_option maxRecDepth 20000 in
theorem zm_X1_init : cn_mk uw nX1_init := ⟨(uw_m1 151 rfl rfl), (uw_m1 5 rfl rfl), by decide +kernel, by decide +kernel, by decide +kernel, by decide, rfl⟩
set_option maxRecDepth 20000 in
theorem zc_X2_init_0 : cn_okq uw vwCl cdf cpr nst RX2 cX2_init (0, .aload_n 0, 1, 0, 0) := ⟨by decide +kernel, rfl, ⟨(fun _ h => (by cases h)), (fun _ h => (by cases h)), (fun _ h => (by cases h))⟩, trivial⟩
set_option maxRecDepth 20000 in
theorem zc_X2_init_1 : cn_okq uw vwCl cdf cpr nst RX2 cX2_init (1, .invokespecial 3, 3, 999, 0) := ⟨by decide +kernel, trivial, ⟨(fun _ h => (by cases h)), (fun _ h => (by cases h)), fun _ _ => rfl⟩, ⟨(uw_m1 57 rfl rfl), (uw_m1 22 rfl rfl), (uw_m1 23 rfl rfl)⟩⟩
set_option maxRecDepth 20000 in
theorem zc_X2_init_4 : cn_okq uw vwCl cdf cpr nst RX2 cX2_init (4, .aload_n 0, 1, 0, 0) := ⟨by decide +kernel, rfl, ⟨(fun _ h => (by cases h)), (fun _ h => (by cases h)), (fun _ h => (by cases h))⟩, trivial⟩
set_option maxRecDepth 20000 in
theorem zc_X2_init_5 : cn_okq uw vwCl cdf cpr nst RX2 cX2_init (5, .sipush 3000, 3, 0, 0) := ⟨by decide +kernel, rfl, ⟨(fun _ h => (by cases h)), (fun _ h => (by cases h)), (fun _ h => (by cases h))⟩, trivial⟩
set_option maxRecDepth 20000 in
theorem zc_X2_init_8 : cn_okq uw vwCl cdf cpr nst RX2 cX2_init (8, .newarray .int, 2, 0, 3000) := ⟨by decide +kernel, trivial, ⟨fun _ _ => rfl, (fun _ h => (by cases h)), (fun _ h => (by cases h))⟩, ⟨(uw_m1 51 rfl rfl), Or.inl ⟨rfl, rfl⟩⟩⟩
set_option maxRecDepth 20000 in
theorem zc_X2_init_10 : cn_okq uw vwCl cdf cpr nst RX2 cX2_init (10, .putfield 9, 3, 2, 1000) := ⟨by decide +kernel, rfl, ⟨(fun _ h => (by cases h)), (fun _ h => (by cases h)), (fun _ h => (by cases h))⟩, cn_lk_ref (k := 0) (C := RX2) (T := TX2) (N' := 12) rfl (by decide) (uw_m1 74 rfl rfl) rfl rfl (ty := tyX2 0) (by decide +kernel) (fun _ => ⟨rfl, rfl⟩)⟩
set_option maxRecDepth 20000 in
theorem zc_X2_init_13 : cn_okq uw vwCl cdf cpr nst RX2 cX2_init (13, .aload_n 0, 1, 0, 0) := ⟨by decide +kernel, rfl, ⟨(fun _ h => (by cases h)), (fun _ h => (by cases h)), (fun _ h => (by cases h))⟩, trivial⟩
set_option maxRecDepth 20000 in
theorem zc_X2_init_14 : cn_okq uw vwCl cdf cpr nst RX2 cX2_init (14, .sipush 3000, 3, 0, 0) := ⟨by decide +kernel, rfl, ⟨(fun _ h => (by cases h)), (fun _ h => (by cases h)), (fun _ h => (by cases h))⟩, trivial⟩
set_option maxRecDepth 20000 in
theorem zc_X2_init_17 : cn_okq uw vwCl cdf cpr nst RX2 cX2_init (17, .newarray .int, 2, 0, 3000) := ⟨by decide +kernel, trivial, ⟨fun _ _ => rfl, (fun _ h => (by cases h)), (fun _ h => (by cases h))⟩, ⟨(uw_m1 51 rfl rfl), Or.inl ⟨rfl, rfl⟩⟩⟩
set_option maxRecDepth 20000 in
theorem zc_X2_init_19 : cn_okq uw vwCl cdf cpr nst RX2 cX2_init (19, .putfield 15, 3, 2, 1001) := ⟨by decide +kernel, rfl, ⟨(fun _ h => (by cases h)), (fun _ h => (by cases h)), (fun _ h => (by cases h))⟩, cn_lk_ref (k := 1) (C := RX2) (T := TX2) (N' := 12) rfl (by decide) (uw_m1 80 rfl rfl) rfl rfl (ty := tyX2 1) (by decide +kernel) (fun _ => ⟨rfl, rfl⟩)⟩
set_option maxRecDepth 20000 in
theorem zc_X2_init_22 : cn_okq uw vwCl cdf cpr nst RX2 cX2_init (22, .aload_n 0, 1, 0, 0) := ⟨by decide +kernel, rfl, ⟨(fun _ h => (by cases h)), (fun _ h => (by cases h)), (fun _ h => (by cases h))⟩, trivial⟩
set_option maxRecDepth 20000 in
theorem zc_X2_init_23 : cn_okq uw vwCl cdf cpr nst RX2 cX2_init (23, .bipush 41, 2, 0, 0) := ⟨by decide +kernel, rfl, ⟨(fun _ h => (by cases h)), (fun _ h => (by cases h)), (fun _ h => (by cases h))⟩, trivial⟩
set_option maxRecDepth 20000 in
theorem zc_X2_init_25 : cn_okq uw vwCl cdf cpr nst RX2 cX2_init (25, .newarray .int, 2, 0, 41) := ⟨by decide +kernel, trivial, ⟨fun _ _ => rfl, (fun _ h => (by cases h)), (fun _ h => (by cases h))⟩, ⟨(uw_m1 51 rfl rfl), Or.inl ⟨rfl, rfl⟩⟩⟩
set_option maxRecDepth 20000 in
theorem zc_X2_init_27 : cn_okq uw vwCl cdf cpr nst RX2 cX2_init (27, .putfield 18, 3, 2, 1002) := ⟨by decide +kernel, rfl, ⟨(fun _ h => (by cases h)), (fun _ h => (by cases h)), (fun _ h => (by cases h))⟩, cn_lk_ref (k := 2) (C := RX2) (T := TX2) (N' := 12) rfl (by decide) (uw_m1 85 rfl rfl) rfl rfl (ty := tyX2 2) (by decide +kernel) (fun _ => ⟨rfl, rfl⟩)⟩
set_option maxRecDepth 20000 in
theorem zc_X2_init_30 : cn_okq uw vwCl cdf cpr nst RX2 cX2_init (30, .aload_n 0, 1, 0, 0) := ⟨by decide +kernel, rfl, ⟨(fun _ h => (by cases h)), (fun _ h => (by cases h)), (fun _ h => (by cases h))⟩, trivial⟩
set_option maxRecDepth 20000 in
theorem zc_X2_init_31 : cn_okq uw vwCl cdf cpr nst RX2 cX2_init (31, .sipush 3000, 3, 0, 0) := ⟨by decide +kernel, rfl, ⟨(fun _ h => (by cases h)), (fun _ h => (by cases h)), (fun _ h => (by cases h))⟩, trivial⟩
set_option maxRecDepth 20000 in
theorem zc_X2_init_34 : cn_okq uw vwCl cdf cpr nst RX2 cX2_init (34, .newarray .int, 2, 0, 3000) := ⟨by decide +kernel, trivial, ⟨fun _ _ => rfl, (fun _ h => (by cases h)), (fun _ h => (by cases h))⟩, ⟨(uw_m1 51 rfl rfl), Or.inl ⟨rfl, rfl⟩⟩⟩
set_option maxRecDepth 20000 in
theorem zc_X2_init_36 : cn_okq uw vwCl cdf cpr nst RX2 cX2_init (36, .putfield 21, 3, 2, 1003) := ⟨by decide +kernel, rfl, ⟨(fun _ h => (by cases h)), (fun _ h => (by cases h)), (fun _ h => (by cases h))⟩, cn_lk_ref (k := 3) (C := RX2) (T := TX2) (N' := 12) rfl (by decide) (uw_m1 88 rfl rfl) rfl rfl (ty := tyX2 3) (by decide +kernel) (fun _ => ⟨rfl, rfl⟩)⟩
set_option maxRecDepth 20000 in
theorem zc_X2_init_39 : cn_okq uw vwCl cdf cpr nst RX2 cX2_init (39, .aload_n 0, 1, 0, 0) := ⟨by decide +kernel, rfl, ⟨(fun _ h => (by cases h)), (fun _ h => (by cases h)), (fun _ h => (by cases h))⟩, trivial⟩
set_option maxRecDepth 20000 in
theorem zc_X2_init_40 : cn_okq uw vwCl cdf cpr nst RX2 cX2_init (40, .sipush 3000, 3, 0, 0) := ⟨by decide +kernel, rfl, ⟨(fun _ h => (by cases h)), (fun _ h => (by cases h)), (fun _ h => (by cases h))⟩, trivial⟩
set_option maxRecDepth 20000 in
theorem zc_X2_init_43 : cn_okq uw vwCl cdf cpr nst RX2 cX2_init (43, .newarray .int, 2, 0, 3000) := ⟨by decide +kernel, trivial, ⟨fun _ _ => rfl, (fun _ h => (by cases h)), (fun _ h => (by cases h))⟩, ⟨(uw_m1 51 rfl rfl), Or.inl ⟨rfl, rfl⟩⟩⟩
set_option maxRecDepth 20000 in
theorem zc_X2_init_45 : cn_okq uw vwCl cdf cpr nst RX2 cX2_init (45, .putfield 24, 3, 2, 1004) := ⟨by decide +kernel, rfl, ⟨(fun _ h => (by cases h)), (fun _ h => (by cases h)), (fun _ h => (by cases h))⟩, cn_lk_ref (k := 4) (C := RX2) (T := TX2) (N' := 12) rfl (by decide) (uw_m1 93 rfl rfl) rfl rfl (ty := tyX2 4) (by decide +kernel) (fun _ => ⟨rfl, rfl⟩)⟩
set_option maxRecDepth 20000 in
theorem zc_X2_init_48 : cn_okq uw vwCl cdf cpr nst RX2 cX2_init (48, .aload_n 0, 1, 0, 0) := ⟨by decide +kernel, rfl, ⟨(fun _ h => (by cases h)), (fun _ h => (by cases h)), (fun _ h => (by cases h))⟩, trivial⟩
set_option maxRecDepth 20000 in
theorem zc_X2_init_49 : cn_okq uw vwCl cdf cpr nst RX2 cX2_init (49, .sipush 3000, 3, 0, 0) := ⟨by decide +kernel, rfl, ⟨(fun _ h => (by cases h)), (fun _ h => (by cases h)), (fun _ h => (by cases h))⟩, trivial⟩
set_option maxRecDepth 20000 in
theorem zc_X2_init_52 : cn_okq uw vwCl cdf cpr nst RX2 cX2_init (52, .newarray .int, 2, 0, 3000) := ⟨by decide +kernel, trivial, ⟨fun _ _ => rfl, (fun _ h => (by cases h)), (fun _ h => (by cases h))⟩, ⟨(uw_m1 51 rfl rfl), Or.inl ⟨rfl, rfl⟩⟩⟩
set_option maxRecDepth 20000 in
theorem zc_X2_init_54 : cn_okq uw vwCl cdf cpr nst RX2 cX2_init (54, .putfield 27, 3, 2, 1005) := ⟨by decide +kernel, rfl, ⟨(fun _ h => (by cases h)), (fun _ h => (by cases h)), (fun _ h => (by cases h))⟩, cn_lk_ref (k := 5) (C := RX2) (T := TX2) (N' := 12) rfl (by decide) (uw_m1 98 rfl rfl) rfl rfl (ty := tyX2 5) (by decide +kernel) (fun _ => ⟨rfl, rfl⟩)⟩
set_option maxRecDepth 20000 in
theorem zc_X2_init_57 : cn_okq uw vwCl cdf cpr nst RX2 cX2_init (57, .aload_n 0, 1, 0, 0) := ⟨by decide +kernel, rfl, ⟨(fun _ h => (by cases h)), (fun _ h => (by cases h)), (fun _ h => (by cases h))⟩, trivial⟩
set_option maxRecDepth 20000 in
theorem zc_X2_init_58 : cn_okq uw vwCl cdf cpr nst RX2 cX2_init (58, .sipush 3000, 3, 0, 0) := ⟨by decide +kernel, rfl, ⟨(fun _ h => (by cases h)), (fun _ h => (by cases h)), (fun _ h => (by cases h))⟩, trivial⟩
set_option maxRecDepth 20000 in
theorem zc_X2_init_61 : cn_okq uw vwCl cdf cpr nst RX2 cX2_init (61, .newarray .int, 2, 0, 3000) := ⟨by decide +kernel, trivial, ⟨fun _ _ => rfl, (fun _ h => (by cases h)), (fun _ h => (by cases h))⟩, ⟨(uw_m1 51 rfl rfl), Or.inl ⟨rfl, rfl⟩⟩⟩
set_option maxRecDepth 20000 in
theorem zc_X2_init_63 : cn_okq uw vwCl cdf cpr nst RX2 cX2_init (63, .putfield 30, 3, 2, 1006) := ⟨by decide +kernel, rfl, ⟨(fun _ h => (by cases h)), (fun _ h => (by cases h)), (fun _ h => (by cases h))⟩, cn_lk_ref (k := 6) (C := RX2) (T := TX2) (N' := 12) rfl (by decide) (uw_m1 103 rfl rfl) rfl rfl (ty := tyX2 6) (by decide +kernel) (fun _ => ⟨rfl, rfl⟩)⟩
set_option maxRecDepth 20000 in
theorem zc_X2_init_66 : cn_okq uw vwCl cdf cpr nst RX2 cX2_init (66, .aload_n 0, 1, 0, 0) := ⟨by decide +kernel, rfl, ⟨(fun _ h => (by cases h)), (fun _ h => (by cases h)), (fun _ h => (by cases h))⟩, trivial⟩
set_option maxRecDepth 20000 in
theorem zc_X2_init_67 : cn_okq uw vwCl cdf cpr nst RX2 cX2_init (67, .new 33, 3, 8, 3) := ⟨by decide +kernel, trivial, ⟨(fun _ h => (by cases h)), fun _ _ => rfl, (fun _ h => (by cases h))⟩, ⟨RX8, TX8, rfl, (uw_m1 58 rfl rfl), (uw_m1 59 rfl rfl), (uw_m1 4 rfl rfl), tyX8, tyX8_ok, by decide +kernel⟩⟩
set_option maxRecDepth 20000 in
theorem zc_X2_init_70 : cn_okq uw vwCl cdf cpr nst RX2 cX2_init (70, .dup, 1, 0, 0) := ⟨by decide +kernel, rfl, ⟨(fun _ h => (by cases h)), (fun _ h => (by cases h)), (fun _ h => (by cases h))⟩, trivial⟩
set_option maxRecDepth 20000 in
theorem zc_X2_init_71 : cn_okq uw vwCl cdf cpr nst RX2 cX2_init (71, .invokespecial 35, 3, 8, 0) := ⟨by decide +kernel, trivial, ⟨(fun _ h => (by cases h)), (fun _ h => (by cases h)), fun _ _ => rfl⟩, cn_lk_call (by decide) nX8_init rfl (uw_m1 61 rfl rfl) (by decide +kernel) (Or.inr ⟨RX10, by decide +kernel⟩)⟩
set_option maxRecDepth 20000 in
theorem zc_X2_init_74 : cn_okq uw vwCl cdf cpr nst RX2 cX2_init (74, .putfield 36, 3, 2, 1007) := ⟨by decide +kernel, rfl, ⟨(fun _ h => (by cases h)), (fun _ h => (by cases h)), (fun _ h => (by cases h))⟩, cn_lk_ref (k := 7) (C := RX2) (T := TX2) (N' := 12) rfl (by decide) (uw_m1 107 rfl rfl) rfl rfl (ty := tyX2 7) (by decide +kernel) (fun _ => ⟨rfl, rfl⟩)⟩
set_option maxRecDepth 20000 in
theorem zc_X2_init_77 : cn_okq uw vwCl cdf cpr nst RX2 cX2_init (77, .aload_n 0, 1, 0, 0) := ⟨by decide +kernel, rfl, ⟨(fun _ h => (by cases h)), (fun _ h => (by cases h)), (fun _ h => (by cases h))⟩, trivial⟩
set_option maxRecDepth 20000 in
theorem zc_X2_init_78 : cn_okq uw vwCl cdf cpr nst RX2 cX2_init (78, .iconst 1, 1, 0, 0) := ⟨by decide +kernel, rfl, ⟨(fun _ h => (by cases h)), (fun _ h => (by cases h)), (fun _ h => (by cases h))⟩, trivial⟩
set_option maxRecDepth 20000 in
theorem zc_X2_init_79 : cn_okq uw vwCl cdf cpr nst RX2 cX2_init (79, .putfield 40, 3, 2, 10) := ⟨by decide +kernel, rfl, ⟨(fun _ h => (by cases h)), (fun _ h => (by cases h)), (fun _ h => (by cases h))⟩, cn_lk_int (k := 10) (C := RX2) (T := TX2) (N' := 12) rfl (by decide) (uw_m1 118 rfl rfl) rfl (by decide +kernel) (by decide)⟩
set_option maxRecDepth 20000 in
theorem zc_X2_init_82 : cn_okq uw vwCl cdf cpr nst RX2 cX2_init (82, .return_, 1, 0, 0) := ⟨by decide +kernel, rfl, ⟨(fun _ h => (by cases h)), (fun _ h => (by cases h)), (fun _ h => (by cases h))⟩, trivial⟩
set_option maxRecDepth 20000 in
theorem zx_X2_init : cn_cd uw vwCl cdf cpr nst nX2_init := ⟨by decide +kernel, List.forall_mem_cons.mpr ⟨zc_X2_init_0, List.forall_mem_cons.mpr ⟨zc_X2_init_1, List.forall_mem_cons.mpr ⟨zc_X2_init_4, List.forall_mem_cons.mpr ⟨zc_X2_init_5, List.forall_mem_cons.mpr ⟨zc_X2_init_8, List.forall_mem_cons.mpr ⟨zc_X2_init_10, List.forall_mem_cons.mpr ⟨zc_X2_init_13, List.forall_mem_cons.mpr ⟨zc_X2_init_14, List.forall_mem_cons.mpr ⟨zc_X2_init_17, List.forall_mem_cons.mpr ⟨zc_X2_init_19, List.forall_mem_cons.mpr ⟨zc_X2_init_22, List.forall_mem_cons.mpr ⟨zc_X2_init_23, List.forall_mem_cons.mpr ⟨zc_X2_init_25, List.forall_mem_cons.mpr ⟨zc_X2_init_27, List.forall_mem_cons.mpr ⟨zc_X2_init_30, List.forall_mem_cons.mpr ⟨zc_X2_init_31, List.forall_mem_cons.mpr ⟨zc_X2_init_34, List.forall_mem_cons.mpr ⟨zc_X2_init_36, List.forall_mem_cons.mpr ⟨zc_X2_init_39, List.forall_mem_cons.mpr ⟨zc_X2_init_40, List.forall_mem_cons.mpr ⟨zc_X2_init_43, List.forall_mem_cons.mpr ⟨zc_X2_init_45, List.forall_mem_cons.mpr ⟨zc_X2_init_48, List.forall_mem_cons.mpr ⟨zc_X2_init_49, List.forall_mem_cons.mpr ⟨zc_X2_init_52, List.forall_mem_cons.mpr ⟨zc_X2_init_54, List.forall_mem_cons.mpr ⟨zc_X2_init_57, List.forall_mem_cons.mpr ⟨zc_X2_init_58, List.forall_mem_cons.mpr ⟨zc_X2_init_61, List.forall_mem_cons.mpr ⟨zc_X2_init_63, List.forall_mem_cons.mpr ⟨zc_X2_init_66, List.forall_mem_cons.mpr ⟨zc_X2_init_67, List.forall_mem_cons.mpr ⟨zc_X2_init_70, List.forall_mem_cons.mpr ⟨zc_X2_init_71, List.forall_mem_cons.mpr ⟨zc_X2_init_74, List.forall_mem_cons.mpr ⟨zc_X2_init_77, List.forall_mem_cons.mpr ⟨zc_X2_init_78, List.forall_mem_cons.mpr ⟨zc_X2_init_79, List.forall_mem_cons.mpr ⟨zc_X2_init_82, fun _ h => absurd h List.not_mem_nil⟩⟩⟩⟩⟩⟩⟩⟩⟩⟩⟩⟩⟩⟩⟩⟩⟩⟩⟩⟩⟩⟩⟩⟩⟩⟩⟩⟩⟩⟩⟩⟩⟩⟩⟩⟩⟩⟩⟩⟩
set_option maxRecDepth 20000 in
theorem zm_X2_init : cn_mk uw nX2_init := ⟨(uw_m1 56 rfl rfl), (uw_m1 3 rfl rfl), by decide +kernel, by decide +kernel, by decide +kernel, by decide, rfl⟩
set_option maxRecDepth 20000 in
theorem zc_X3_init_0 : cn_okq uw vwCl cdf cpr nst RX3 cX3_init (0, .aload_n 0, 1, 0, 0) := ⟨by decide +kernel, rfl, ⟨(fun _ h => (by cases h)), (fun _ h => (by cases h)), (fun _ h => (by cases h))⟩, trivial⟩
set_option maxRecDepth 20000 in
theorem zc_X3_init_1 : cn_okq uw vwCl cdf cpr nst RX3 cX3_init (1, .invokespecial 3, 3, 999, 0) := ⟨by decide +kernel, trivial, ⟨(fun _ h => (by cases h)), (fun _ h => (by cases h)), fun _ _ => rfl⟩, ⟨(uw_m2 20 rfl rfl), (uw_m1 22 rfl rfl), (uw_m1 23 rfl rfl)⟩⟩
set_option maxRecDepth 20000 in
theorem zc_X3_init_4 : cn_okq uw vwCl cdf cpr nst RX3 cX3_init (4, .aload_n 0, 1, 0, 0) := ⟨by decide +kernel, rfl, ⟨(fun _ h => (by cases h)), (fun _ h => (by cases h)), (fun _ h => (by cases h))⟩, trivial⟩
set_option maxRecDepth 20000 in
theorem zc_X3_init_5 : cn_okq uw vwCl cdf cpr nst RX3 cX3_init (5, .sipush 240, 3, 0, 0) := ⟨by decide +kernel, rfl, ⟨(fun _ h => (by cases h)), (fun _ h => (by cases h)), (fun _ h => (by cases h))⟩, trivial⟩
set_option maxRecDepth 20000 in
theorem zc_X3_init_8 : cn_okq uw vwCl cdf cpr nst RX3 cX3_init (8, .newarray .int, 2, 0, 240) := ⟨by decide +kernel, trivial, ⟨fun _ _ => rfl, (fun _ h => (by cases h)), (fun _ h => (by cases h))⟩, ⟨(uw_m1 51 rfl rfl), Or.inl ⟨rfl, rfl⟩⟩⟩
set_option maxRecDepth 20000 in
theorem zc_X3_init_10 : cn_okq uw vwCl cdf cpr nst RX3 cX3_init (10, .putfield 11, 3, 3, 1003) := ⟨by decide +kernel, rfl, ⟨(fun _ h => (by cases h)), (fun _ h => (by cases h)), (fun _ h => (by cases h))⟩, cn_lk_ref (k := 3) (C := RX3) (T := TX3) (N' := 11) rfl (by decide) (uw_m2 60 rfl rfl) rfl rfl (ty := tyX3 3) (by decide +kernel) (fun _ => ⟨rfl, rfl⟩)⟩
set_option maxRecDepth 20000 in
theorem zc_X3_init_13 : cn_okq uw vwCl cdf cpr nst RX3 cX3_init (13, .aload_n 0, 1, 0, 0) := ⟨by decide +kernel, rfl, ⟨(fun _ h => (by cases h)), (fun _ h => (by cases h)), (fun _ h => (by cases h))⟩, trivial⟩
set_option maxRecDepth 20000 in
theorem zc_X3_init_14 : cn_okq uw vwCl cdf cpr nst RX3 cX3_init (14, .sipush 240, 3, 0, 0) := ⟨by decide +kernel, rfl, ⟨(fun _ h => (by cases h)), (fun _ h => (by cases h)), (fun _ h => (by cases h))⟩, trivial⟩
set_option maxRecDepth 20000 in
theorem zc_X3_init_17 : cn_okq uw vwCl cdf cpr nst RX3 cX3_init (17, .newarray .int, 2, 0, 240) := ⟨by decide +kernel, trivial, ⟨fun _ _ => rfl, (fun _ h => (by cases h)), (fun _ h => (by cases h))⟩, ⟨(uw_m1 51 rfl rfl), Or.inl ⟨rfl, rfl⟩⟩⟩
set_option maxRecDepth 20000 in
theorem zc_X3_init_19 : cn_okq uw vwCl cdf cpr nst RX3 cX3_init (19, .putfield 17, 3, 3, 1004) := ⟨by decide +kernel, rfl, ⟨(fun _ h => (by cases h)), (fun _ h => (by cases h)), (fun _ h => (by cases h))⟩, cn_lk_ref (k := 4) (C := RX3) (T := TX3) (N' := 11) rfl (by decide) (uw_m2 61 rfl rfl) rfl rfl (ty := tyX3 4) (by decide +kernel) (fun _ => ⟨rfl, rfl⟩)⟩
set_option maxRecDepth 20000 in
theorem zc_X3_init_22 : cn_okq uw vwCl cdf cpr nst RX3 cX3_init (22, .aload_n 0, 1, 0, 0) := ⟨by decide +kernel, rfl, ⟨(fun _ h => (by cases h)), (fun _ h => (by cases h)), (fun _ h => (by cases h))⟩, trivial⟩
set_option maxRecDepth 20000 in
theorem zc_X3_init_23 : cn_okq uw vwCl cdf cpr nst RX3 cX3_init (23, .sipush 240, 3, 0, 0) := ⟨by decide +kernel, rfl, ⟨(fun _ h => (by cases h)), (fun _ h => (by cases h)), (fun _ h => (by cases h))⟩, trivial⟩
set_option maxRecDepth 20000 in
theorem zc_X3_init_26 : cn_okq uw vwCl cdf cpr nst RX3 cX3_init (26, .newarray .int, 2, 0, 240) := ⟨by decide +kernel, trivial, ⟨fun _ _ => rfl, (fun _ h => (by cases h)), (fun _ h => (by cases h))⟩, ⟨(uw_m1 51 rfl rfl), Or.inl ⟨rfl, rfl⟩⟩⟩
set_option maxRecDepth 20000 in
theorem zc_X3_init_28 : cn_okq uw vwCl cdf cpr nst RX3 cX3_init (28, .putfield 20, 3, 3, 1005) := ⟨by decide +kernel, rfl, ⟨(fun _ h => (by cases h)), (fun _ h => (by cases h)), (fun _ h => (by cases h))⟩, cn_lk_ref (k := 5) (C := RX3) (T := TX3) (N' := 11) rfl (by decide) (uw_m2 62 rfl rfl) rfl rfl (ty := tyX3 5) (by decide +kernel) (fun _ => ⟨rfl, rfl⟩)⟩
set_option maxRecDepth 20000 in
theorem zc_X3_init_31 : cn_okq uw vwCl cdf cpr nst RX3 cX3_init (31, .aload_n 0, 1, 0, 0) := ⟨by decide +kernel, rfl, ⟨(fun _ h => (by cases h)), (fun _ h => (by cases h)), (fun _ h => (by cases h))⟩, trivial⟩
set_option maxRecDepth 20000 in
theorem zc_X3_init_32 : cn_okq uw vwCl cdf cpr nst RX3 cX3_init (32, .sipush 240, 3, 0, 0) := ⟨by decide +kernel, rfl, ⟨(fun _ h => (by cases h)), (fun _ h => (by cases h)), (fun _ h => (by cases h))⟩, trivial⟩
set_option maxRecDepth 20000 in
theorem zc_X3_init_35 : cn_okq uw vwCl cdf cpr nst RX3 cX3_init (35, .newarray .int, 2, 0, 240) := ⟨by decide +kernel, trivial, ⟨fun _ _ => rfl, (fun _ h => (by cases h)), (fun _ h => (by cases h))⟩, ⟨(uw_m1 51 rfl rfl), Or.inl ⟨rfl, rfl⟩⟩⟩
set_option maxRecDepth 20000 in
theorem zc_X3_init_37 : cn_okq uw vwCl cdf cpr nst RX3 cX3_init (37, .putfield 23, 3, 3, 1006) := ⟨by decide +kernel, rfl, ⟨(fun _ h => (by cases h)), (fun _ h => (by cases h)), (fun _ h => (by cases h))⟩, cn_lk_ref (k := 6) (C := RX3) (T := TX3) (N' := 11) rfl (by decide) (uw_m2 63 rfl rfl) rfl rfl (ty := tyX3 6) (by decide +kernel) (fun _ => ⟨rfl, rfl⟩)⟩
set_option maxRecDepth 20000 in
theorem zc_X3_init_40 : cn_okq uw vwCl cdf cpr nst RX3 cX3_init (40, .aload_n 0, 1, 0, 0) := ⟨by decide +kernel, rfl, ⟨(fun _ h => (by cases h)), (fun _ h => (by cases h)), (fun _ h => (by cases h))⟩, trivial⟩
set_option maxRecDepth 20000 in
theorem zc_X3_init_41 : cn_okq uw vwCl cdf cpr nst RX3 cX3_init (41, .sipush 3000, 3, 0, 0) := ⟨by decide +kernel, rfl, ⟨(fun _ h => (by cases h)), (fun _ h => (by cases h)), (fun _ h => (by cases h))⟩, trivial⟩
set_option maxRecDepth 20000 in
theorem zc_X3_init_44 : cn_okq uw vwCl cdf cpr nst RX3 cX3_init (44, .newarray .int, 2, 0, 3000) := ⟨by decide +kernel, trivial, ⟨fun _ _ => rfl, (fun _ h => (by cases h)), (fun _ h => (by cases h))⟩, ⟨(uw_m1 51 rfl rfl), Or.inl ⟨rfl, rfl⟩⟩⟩
set_option maxRecDepth 20000 in
theorem zc_X3_init_46 : cn_okq uw vwCl cdf cpr nst RX3 cX3_init (46, .putfield 26, 3, 3, 1007) := ⟨by decide +kernel, rfl, ⟨(fun _ h => (by cases h)), (fun _ h => (by cases h)), (fun _ h => (by cases h))⟩, cn_lk_ref (k := 7) (C := RX3) (T := TX3) (N' := 11) rfl (by decide) (uw_m2 64 rfl rfl) rfl rfl (ty := tyX3 7) (by decide +kernel) (fun _ => ⟨rfl, rfl⟩)⟩
set_option maxRecDepth 20000 in
theorem zc_X3_init_49 : cn_okq uw vwCl cdf cpr nst RX3 cX3_init (49, .aload_n 0, 1, 0, 0) := ⟨by decide +kernel, rfl, ⟨(fun _ h => (by cases h)), (fun _ h => (by cases h)), (fun _ h => (by cases h))⟩, trivial⟩
set_option maxRecDepth 20000 in
theorem zc_X3_init_50 : cn_okq uw vwCl cdf cpr nst RX3 cX3_init (50, .sipush 3000, 3, 0, 0) := ⟨by decide +kernel, rfl, ⟨(fun _ h => (by cases h)), (fun _ h => (by cases h)), (fun _ h => (by cases h))⟩, trivial⟩
set_option maxRecDepth 20000 in
theorem zc_X3_init_53 : cn_okq uw vwCl cdf cpr nst RX3 cX3_init (53, .newarray .int, 2, 0, 3000) := ⟨by decide +kernel, trivial, ⟨fun _ _ => rfl, (fun _ h => (by cases h)), (fun _ h => (by cases h))⟩, ⟨(uw_m1 51 rfl rfl), Or.inl ⟨rfl, rfl⟩⟩⟩
set_option maxRecDepth 20000 in
theorem zc_X3_init_55 : cn_okq uw vwCl cdf cpr nst RX3 cX3_init (55, .putfield 29, 3, 3, 1008) := ⟨by decide +kernel, rfl, ⟨(fun _ h => (by cases h)), (fun _ h => (by cases h)), (fun _ h => (by cases h))⟩, cn_lk_ref (k := 8) (C := RX3) (T := TX3) (N' := 11) rfl (by decide) (uw_m2 65 rfl rfl) rfl rfl (ty := tyX3 8) (by decide +kernel) (fun _ => ⟨rfl, rfl⟩)⟩
set_option maxRecDepth 20000 in
theorem zc_X3_init_58 : cn_okq uw vwCl cdf cpr nst RX3 cX3_init (58, .aload_n 0, 1, 0, 0) := ⟨by decide +kernel, rfl, ⟨(fun _ h => (by cases h)), (fun _ h => (by cases h)), (fun _ h => (by cases h))⟩, trivial⟩
set_option maxRecDepth 20000 in
theorem zc_X3_init_59 : cn_okq uw vwCl cdf cpr nst RX3 cX3_init (59, .sipush 3000, 3, 0, 0) := ⟨by decide +kernel, rfl, ⟨(fun _ h => (by cases h)), (fun _ h => (by cases h)), (fun _ h => (by cases h))⟩, trivial⟩
set_option maxRecDepth 20000 in
theorem zc_X3_init_62 : cn_okq uw vwCl cdf cpr nst RX3 cX3_init (62, .newarray .int, 2, 0, 3000) := ⟨by decide +kernel, trivial, ⟨fun _ _ => rfl, (fun _ h => (by cases h)), (fun _ h => (by cases h))⟩, ⟨(uw_m1 51 rfl rfl), Or.inl ⟨rfl, rfl⟩⟩⟩
set_option maxRecDepth 20000 in
theorem zc_X3_init_64 : cn_okq uw vwCl cdf cpr nst RX3 cX3_init (64, .putfield 32, 3, 3, 1009) := ⟨by decide +kernel, rfl, ⟨(fun _ h => (by cases h)), (fun _ h => (by cases h)), (fun _ h => (by cases h))⟩, cn_lk_ref (k := 9) (C := RX3) (T := TX3) (N' := 11) rfl (by decide) (uw_m2 66 rfl rfl) rfl rfl (ty := tyX3 9) (by decide +kernel) (fun _ => ⟨rfl, rfl⟩)⟩
set_option maxRecDepth 20000 in
theorem zc_X3_init_67 : cn_okq uw vwCl cdf cpr nst RX3 cX3_init (67, .aload_n 0, 1, 0, 0) := ⟨by decide +kernel, rfl, ⟨(fun _ h => (by cases h)), (fun _ h => (by cases h)), (fun _ h => (by cases h))⟩, trivial⟩
set_option maxRecDepth 20000 in
theorem zc_X3_init_68 : cn_okq uw vwCl cdf cpr nst RX3 cX3_init (68, .sipush 3000, 3, 0, 0) := ⟨by decide +kernel, rfl, ⟨(fun _ h => (by cases h)), (fun _ h => (by cases h)), (fun _ h => (by cases h))⟩, trivial⟩
set_option maxRecDepth 20000 in
theorem zc_X3_init_71 : cn_okq uw vwCl cdf cpr nst RX3 cX3_init (71, .putfield 35, 3, 3, 10) := ⟨by decide +kernel, rfl, ⟨(fun _ h => (by cases h)), (fun _ h => (by cases h)), (fun _ h => (by cases h))⟩, cn_lk_int (k := 10) (C := RX3) (T := TX3) (N' := 11) rfl (by decide) (uw_m2 67 rfl rfl) rfl (by decide +kernel) (by decide)⟩
set_option maxRecDepth 20000 in
theorem zc_X3_init_74 : cn_okq uw vwCl cdf cpr nst RX3 cX3_init (74, .aload_n 0, 1, 0, 0) := ⟨by decide +kernel, rfl, ⟨(fun _ h => (by cases h)), (fun _ h => (by cases h)), (fun _ h => (by cases h))⟩, trivial⟩
set_option maxRecDepth 20000 in
theorem zc_X3_init_75 : cn_okq uw vwCl cdf cpr nst RX3 cX3_init (75, .aload_n 1, 1, 0, 0) := ⟨by decide +kernel, rfl, ⟨(fun _ h => (by cases h)), (fun _ h => (by cases h)), (fun _ h => (by cases h))⟩, trivial⟩
set_option maxRecDepth 20000 in
theorem zc_X3_init_76 : cn_okq uw vwCl cdf cpr nst RX3 cX3_init (76, .putfield 39, 3, 3, 1000) := ⟨by decide +kernel, rfl, ⟨(fun _ h => (by cases h)), (fun _ h => (by cases h)), (fun _ h => (by cases h))⟩, cn_lk_ref (k := 0) (C := RX3) (T := TX3) (N' := 11) rfl (by decide) (uw_m2 57 rfl rfl) rfl rfl (ty := tyX3 0) (by decide +kernel) (fun _ => ⟨rfl, rfl⟩)⟩
set_option maxRecDepth 20000 in
theorem zc_X3_init_79 : cn_okq uw vwCl cdf cpr nst RX3 cX3_init (79, .aload_n 0, 1, 0, 0) := ⟨by decide +kernel, rfl, ⟨(fun _ h => (by cases h)), (fun _ h => (by cases h)), (fun _ h => (by cases h))⟩, trivial⟩
set_option maxRecDepth 20000 in
theorem zc_X3_init_80 : cn_okq uw vwCl cdf cpr nst RX3 cX3_init (80, .aload_n 2, 1, 0, 0) := ⟨by decide +kernel, rfl, ⟨(fun _ h => (by cases h)), (fun _ h => (by cases h)), (fun _ h => (by cases h))⟩, trivial⟩
set_option maxRecDepth 20000 in
theorem zc_X3_init_81 : cn_okq uw vwCl cdf cpr nst RX3 cX3_init (81, .putfield 43, 3, 3, 1001) := ⟨by decide +kernel, rfl, ⟨(fun _ h => (by cases h)), (fun _ h => (by cases h)), (fun _ h => (by cases h))⟩, cn_lk_ref (k := 1) (C := RX3) (T := TX3) (N' := 11) rfl (by decide) (uw_m2 58 rfl rfl) rfl rfl (ty := tyX3 1) (by decide +kernel) (fun _ => ⟨rfl, rfl⟩)⟩
set_option maxRecDepth 20000 in
theorem zc_X3_init_84 : cn_okq uw vwCl cdf cpr nst RX3 cX3_init (84, .aload_n 0, 1, 0, 0) := ⟨by decide +kernel, rfl, ⟨(fun _ h => (by cases h)), (fun _ h => (by cases h)), (fun _ h => (by cases h))⟩, trivial⟩
set_option maxRecDepth 20000 in
theorem zc_X3_init_85 : cn_okq uw vwCl cdf cpr nst RX3 cX3_init (85, .new 9, 3, 9, 8) := ⟨by decide +kernel, trivial, ⟨(fun _ h => (by cases h)), fun _ _ => rfl, (fun _ h => (by cases h))⟩, ⟨RX9, TX9, rfl, (uw_m2 21 rfl rfl), (uw_m2 22 rfl rfl), (uw_m1 9 rfl rfl), tyX9, tyX9_ok, by decide +kernel⟩⟩
set_option maxRecDepth 20000 in
theorem zc_X3_init_88 : cn_okq uw vwCl cdf cpr nst RX3 cX3_init (88, .dup, 1, 0, 0) := ⟨by decide +kernel, rfl, ⟨(fun _ h => (by cases h)), (fun _ h => (by cases h)), (fun _ h => (by cases h))⟩, trivial⟩
set_option maxRecDepth 20000 in
theorem zc_X3_init_89 : cn_okq uw vwCl cdf cpr nst RX3 cX3_init (89, .aload_n 2, 1, 0, 0) := ⟨by decide +kernel, rfl, ⟨(fun _ h => (by cases h)), (fun _ h => (by cases h)), (fun _ h => (by cases h))⟩, trivial⟩
set_option maxRecDepth 20000 in
theorem zc_X3_init_90 : cn_okq uw vwCl cdf cpr nst RX3 cX3_init (90, .invokespecial 47, 3, 9, 1) := ⟨by decide +kernel, trivial, ⟨(fun _ h => (by cases h)), (fun _ h => (by cases h)), fun _ _ => rfl⟩, cn_lk_call (by decide) nX9_init rfl (uw_m2 24 rfl rfl) (by decide +kernel) (Or.inl (uw_m2 23 rfl rfl))⟩
set_option maxRecDepth 20000 in
theorem zc_X3_init_93 : cn_okq uw vwCl cdf cpr nst RX3 cX3_init (93, .putfield 50, 3, 3, 1002) := ⟨by decide +kernel, rfl, ⟨(fun _ h => (by cases h)), (fun _ h => (by cases h)), (fun _ h => (by cases h))⟩, cn_lk_ref (k := 2) (C := RX3) (T := TX3) (N' := 11) rfl (by decide) (uw_m2 59 rfl rfl) rfl rfl (ty := tyX3 2) (by decide +kernel) (fun _ => ⟨rfl, rfl⟩)⟩
set_option maxRecDepth 20000 in
theorem zc_X3_init_96 : cn_okq uw vwCl cdf cpr nst RX3 cX3_init (96, .return_, 1, 0, 0) := ⟨by decide +kernel, rfl, ⟨(fun _ h => (by cases h)), (fun _ h => (by cases h)), (fun _ h => (by cases h))⟩, trivial⟩
set_option maxRecDepth 20000 in
theorem zx_X3_init : cn_cd uw vwCl cdf cpr nst nX3_init := ⟨by decide +kernel, List.forall_mem_cons.mpr ⟨zc_X3_init_0, List.forall_mem_cons.mpr ⟨zc_X3_init_1, List.forall_mem_cons.mpr ⟨zc_X3_init_4, List.forall_mem_cons.mpr ⟨zc_X3_init_5, List.forall_mem_cons.mpr ⟨zc_X3_init_8, List.forall_mem_cons.mpr ⟨zc_X3_init_10, List.forall_mem_cons.mpr ⟨zc_X3_init_13, List.forall_mem_cons.mpr ⟨zc_X3_init_14, List.forall_mem_cons.mpr ⟨zc_X3_init_17, List.forall_mem_cons.mpr ⟨zc_X3_init_19, List.forall_mem_cons.mpr ⟨zc_X3_init_22, List.forall_mem_cons.mpr ⟨zc_X3_init_23, List.forall_mem_cons.mpr ⟨zc_X3_init_26, List.forall_mem_cons.mpr ⟨zc_X3_init_28, List.forall_mem_cons.mpr ⟨zc_X3_init_31, List.forall_mem_cons.mpr ⟨zc_X3_init_32, List.forall_mem_cons.mpr ⟨zc_X3_init_35, List.forall_mem_cons.mpr ⟨zc_X3_init_37, List.forall_mem_cons.mpr ⟨zc_X3_init_40, List.forall_mem_cons.mpr ⟨zc_X3_init_41, List.forall_mem_cons.mpr ⟨zc_X3_init_44, List.forall_mem_cons.mpr ⟨zc_X3_init_46, List.forall_mem_cons.mpr ⟨zc_X3_init_49, List.forall_mem_cons.mpr ⟨zc_X3_init_50, List.forall_mem_cons.mpr ⟨zc_X3_init_53, List.forall_mem_cons.mpr ⟨zc_X3_init_55, List.forall_mem_cons.mpr ⟨zc_X3_init_58, List.forall_mem_cons.mpr ⟨zc_X3_init_59, List.forall_mem_cons.mpr ⟨zc_X3_init_62, List.forall_mem_cons.mpr ⟨zc_X3_init_64, List.forall_mem_cons.mpr ⟨zc_X3_init_67, List.forall_mem_cons.mpr ⟨zc_X3_init_68, List.forall_mem_cons.mpr ⟨zc_X3_init_71, List.forall_mem_cons.mpr ⟨zc_X3_init_74, List.forall_mem_cons.mpr ⟨zc_X3_init_75, List.forall_mem_cons.mpr ⟨zc_X3_init_76, List.forall_mem_cons.mpr ⟨zc_X3_init_79, List.forall_mem_cons.mpr ⟨zc_X3_init_80, List.forall_mem_cons.mpr ⟨zc_X3_init_81, List.forall_mem_cons.mpr ⟨zc_X3_init_84, List.forall_mem_cons.mpr ⟨zc_X3_init_85, List.forall_mem_cons.mpr ⟨zc_X3_init_88, List.forall_mem_cons.mpr ⟨zc_X3_init_89, List.forall_mem_cons.mpr ⟨zc_X3_init_90, List.forall_mem_cons.mpr ⟨zc_X3_init_93, List.forall_mem_cons.mpr ⟨zc_X3_init_96, fun _ h => absurd h List.not_mem_nil⟩⟩⟩⟩⟩⟩⟩⟩⟩⟩⟩⟩⟩⟩⟩⟩⟩⟩⟩⟩⟩⟩⟩⟩⟩⟩⟩⟩⟩⟩⟩⟩⟩⟩⟩⟩⟩⟩⟩⟩⟩⟩⟩⟩⟩⟩⟩
set_option maxRecDepth 20000 in
theorem zm_X3_init : cn_mk uw nX3_init := ⟨(uw_m2 19 rfl rfl), (uw_m1 8 rfl rfl), by decide +kernel, by decide +kernel, by decide +kernel, by decide, rfl⟩
set_option maxRecDepth 20000 in
theorem zc_X4_init_0 : cn_okq uw vwCl cdf cpr nst RX4 cX4_init (0, .aload_n 0, 1, 0, 0) := ⟨by decide +kernel, rfl, ⟨(fun _ h => (by cases h)), (fun _ h => (by cases h)), (fun _ h => (by cases h))⟩, trivial⟩
set_option maxRecDepth 20000 in
theorem zc_X4_init_1 : cn_okq uw vwCl cdf cpr nst RX4 cX4_init (1, .invokespecial 3, 3, 999, 0) := ⟨by decide +kernel, trivial, ⟨(fun _ h => (by cases h)), (fun _ h => (by cases h)), fun _ _ => rfl⟩, ⟨(uw_m1 192 rfl rfl), (uw_m1 22 rfl rfl), (uw_m1 23 rfl rfl)⟩⟩
set_option maxRecDepth 20000 in
theorem zc_X4_init_4 : cn_okq uw vwCl cdf cpr nst RX4 cX4_init (4, .aload_n 0, 1, 0, 0) := ⟨by decide +kernel, rfl, ⟨(fun _ h => (by cases h)), (fun _ h => (by cases h)), (fun _ h => (by cases h))⟩, trivial⟩
set_option maxRecDepth 20000 in
theorem zc_X4_init_5 : cn_okq uw vwCl cdf cpr nst RX4 cX4_init (5, .sipush 3000, 3, 0, 0) := ⟨by decide +kernel, rfl, ⟨(fun _ h => (by cases h)), (fun _ h => (by cases h)), (fun _ h => (by cases h))⟩, trivial⟩
set_option maxRecDepth 20000 in
theorem zc_X4_init_8 : cn_okq uw vwCl cdf cpr nst RX4 cX4_init (8, .newarray .int, 2, 0, 3000) := ⟨by decide +kernel, trivial, ⟨fun _ _ => rfl, (fun _ h => (by cases h)), (fun _ h => (by cases h))⟩, ⟨(uw_m1 51 rfl rfl), Or.inl ⟨rfl, rfl⟩⟩⟩
set_option maxRecDepth 20000 in
theorem zc_X4_init_10 : cn_okq uw vwCl cdf cpr nst RX4 cX4_init (10, .putfield 9, 3, 4, 1002) := ⟨by decide +kernel, rfl, ⟨(fun _ h => (by cases h)), (fun _ h => (by cases h)), (fun _ h => (by cases h))⟩, cn_lk_ref (k := 2) (C := RX4) (T := TX4) (N' := 5) rfl (by decide) (uw_m1 195 rfl rfl) rfl rfl (ty := tyX4 2) (by decide +kernel) (fun _ => ⟨rfl, rfl⟩)⟩
set_option maxRecDepth 20000 in
theorem zc_X4_init_13 : cn_okq uw vwCl cdf cpr nst RX4 cX4_init (13, .aload_n 0, 1, 0, 0) := ⟨by decide +kernel, rfl, ⟨(fun _ h => (by cases h)), (fun _ h => (by cases h)), (fun _ h => (by cases h))⟩, trivial⟩
set_option maxRecDepth 20000 in
theorem zc_X4_init_14 : cn_okq uw vwCl cdf cpr nst RX4 cX4_init (14, .sipush 3000, 3, 0, 0) := ⟨by decide +kernel, rfl, ⟨(fun _ h => (by cases h)), (fun _ h => (by cases h)), (fun _ h => (by cases h))⟩, trivial⟩
set_option maxRecDepth 20000 in
theorem zc_X4_init_17 : cn_okq uw vwCl cdf cpr nst RX4 cX4_init (17, .newarray .int, 2, 0, 3000) := ⟨by decide +kernel, trivial, ⟨fun _ _ => rfl, (fun _ h => (by cases h)), (fun _ h => (by cases h))⟩, ⟨(uw_m1 51 rfl rfl), Or.inl ⟨rfl, rfl⟩⟩⟩
set_option maxRecDepth 20000 in
theorem zc_X4_init_19 : cn_okq uw vwCl cdf cpr nst RX4 cX4_init (19, .putfield 15, 3, 4, 1003) := ⟨by decide +kernel, rfl, ⟨(fun _ h => (by cases h)), (fun _ h => (by cases h)), (fun _ h => (by cases h))⟩, cn_lk_ref (k := 3) (C := RX4) (T := TX4) (N' := 5) rfl (by decide) (uw_m1 197 rfl rfl) rfl rfl (ty := tyX4 3) (by decide +kernel) (fun _ => ⟨rfl, rfl⟩)⟩
set_option maxRecDepth 20000 in
theorem zc_X4_init_22 : cn_okq uw vwCl cdf cpr nst RX4 cX4_init (22, .aload_n 0, 1, 0, 0) := ⟨by decide +kernel, rfl, ⟨(fun _ h => (by cases h)), (fun _ h => (by cases h)), (fun _ h => (by cases h))⟩, trivial⟩
set_option maxRecDepth 20000 in
theorem zc_X4_init_23 : cn_okq uw vwCl cdf cpr nst RX4 cX4_init (23, .aload_n 1, 1, 0, 0) := ⟨by decide +kernel, rfl, ⟨(fun _ h => (by cases h)), (fun _ h => (by cases h)), (fun _ h => (by cases h))⟩, trivial⟩
set_option maxRecDepth 20000 in
theorem zc_X4_init_24 : cn_okq uw vwCl cdf cpr nst RX4 cX4_init (24, .putfield 18, 3, 4, 1000) := ⟨by decide +kernel, rfl, ⟨(fun _ h => (by cases h)), (fun _ h => (by cases h)), (fun _ h => (by cases h))⟩, cn_lk_ref (k := 0) (C := RX4) (T := TX4) (N' := 5) rfl (by decide) (uw_m1 193 rfl rfl) rfl rfl (ty := tyX4 0) (by decide +kernel) (fun _ => ⟨rfl, rfl⟩)⟩
set_option maxRecDepth 20000 in
theorem zc_X4_init_27 : cn_okq uw vwCl cdf cpr nst RX4 cX4_init (27, .aload_n 0, 1, 0, 0) := ⟨by decide +kernel, rfl, ⟨(fun _ h => (by cases h)), (fun _ h => (by cases h)), (fun _ h => (by cases h))⟩, trivial⟩
set_option maxRecDepth 20000 in
theorem zc_X4_init_28 : cn_okq uw vwCl cdf cpr nst RX4 cX4_init (28, .aload_n 2, 1, 0, 0) := ⟨by decide +kernel, rfl, ⟨(fun _ h => (by cases h)), (fun _ h => (by cases h)), (fun _ h => (by cases h))⟩, trivial⟩
set_option maxRecDepth 20000 in
theorem zc_X4_init_29 : cn_okq uw vwCl cdf cpr nst RX4 cX4_init (29, .putfield 22, 3, 4, 1001) := ⟨by decide +kernel, rfl, ⟨(fun _ h => (by cases h)), (fun _ h => (by cases h)), (fun _ h => (by cases h))⟩, cn_lk_ref (k := 1) (C := RX4) (T := TX4) (N' := 5) rfl (by decide) (uw_m1 194 rfl rfl) rfl rfl (ty := tyX4 1) (by decide +kernel) (fun _ => ⟨rfl, rfl⟩)⟩
set_option maxRecDepth 20000 in
theorem zc_X4_init_32 : cn_okq uw vwCl cdf cpr nst RX4 cX4_init (32, .return_, 1, 0, 0) := ⟨by decide +kernel, rfl, ⟨(fun _ h => (by cases h)), (fun _ h => (by cases h)), (fun _ h => (by cases h))⟩, trivial⟩
set_option maxRecDepth 20000 in
theorem zx_X4_init : cn_cd uw vwCl cdf cpr nst nX4_init := ⟨by decide +kernel, List.forall_mem_cons.mpr ⟨zc_X4_init_0, List.forall_mem_cons.mpr ⟨zc_X4_init_1, List.forall_mem_cons.mpr ⟨zc_X4_init_4, List.forall_mem_cons.mpr ⟨zc_X4_init_5, List.forall_mem_cons.mpr ⟨zc_X4_init_8, List.forall_mem_cons.mpr ⟨zc_X4_init_10, List.forall_mem_cons.mpr ⟨zc_X4_init_13, List.forall_mem_cons.mpr ⟨zc_X4_init_14, List.forall_mem_cons.mpr ⟨zc_X4_init_17, List.forall_mem_cons.mpr ⟨zc_X4_init_19, List.forall_mem_cons.mpr ⟨zc_X4_init_22, List.forall_mem_cons.mpr ⟨zc_X4_init_23, List.forall_mem_cons.mpr ⟨zc_X4_init_24, List.forall_mem_cons.mpr ⟨zc_X4_init_27, List.forall_mem_cons.mpr ⟨zc_X4_init_28, List.forall_mem_cons.mpr ⟨zc_X4_init_29, List.forall_mem_cons.mpr ⟨zc_X4_init_32, fun _ h => absurd h List.not_mem_nil⟩⟩⟩⟩⟩⟩⟩⟩⟩⟩⟩⟩⟩⟩⟩⟩⟩⟩
set_option maxRecDepth 20000 in
theorem zm_X4_init : cn_mk uw nX4_init := ⟨(uw_m1 191 rfl rfl), (uw_m1 6 rfl rfl), by decide +kernel, by decide +kernel, by decide +kernel, by decide, rfl⟩
set_option maxRecDepth 20000 in
theorem zc_X5_init_0 : cn_okq uw vwCl cdf cpr nst RX5 cX5_init (0, .aload_n 0, 1, 0, 0) := ⟨by decide +kernel, rfl, ⟨(fun _ h => (by cases h)), (fun _ h => (by cases h)), (fun _ h => (by cases h))⟩, trivial⟩
set_option maxRecDepth 20000 in
theorem zc_X5_init_1 : cn_okq uw vwCl cdf cpr nst RX5 cX5_init (1, .invokespecial 3, 3, 999, 0) := ⟨by decide +kernel, trivial, ⟨(fun _ h => (by cases h)), (fun _ h => (by cases h)), fun _ _ => rfl⟩, ⟨(uw_m2 119 rfl rfl), (uw_m1 22 rfl rfl), (uw_m1 23 rfl rfl)⟩⟩
set_option maxRecDepth 20000 in
theorem zc_X5_init_4 : cn_okq uw vwCl cdf cpr nst RX5 cX5_init (4, .aload_n 0, 1, 0, 0) := ⟨by decide +kernel, rfl, ⟨(fun _ h => (by cases h)), (fun _ h => (by cases h)), (fun _ h => (by cases h))⟩, trivial⟩
set_option maxRecDepth 20000 in
theorem zc_X5_init_5 : cn_okq uw vwCl cdf cpr nst RX5 cX5_init (5, .sipush 3000, 3, 0, 0) := ⟨by decide +kernel, rfl, ⟨(fun _ h => (by cases h)), (fun _ h => (by cases h)), (fun _ h => (by cases h))⟩, trivial⟩
set_option maxRecDepth 20000 in
theorem zc_X5_init_8 : cn_okq uw vwCl cdf cpr nst RX5 cX5_init (8, .newarray .int, 2, 0, 3000) := ⟨by decide +kernel, trivial, ⟨fun _ _ => rfl, (fun _ h => (by cases h)), (fun _ h => (by cases h))⟩, ⟨(uw_m1 51 rfl rfl), Or.inl ⟨rfl, rfl⟩⟩⟩
set_option maxRecDepth 20000 in
theorem zc_X5_init_10 : cn_okq uw vwCl cdf cpr nst RX5 cX5_init (10, .putfield 9, 3, 5, 1001) := ⟨by decide +kernel, rfl, ⟨(fun _ h => (by cases h)), (fun _ h => (by cases h)), (fun _ h => (by cases h))⟩, cn_lk_ref (k := 1) (C := RX5) (T := TX5) (N' := 7) rfl (by decide) (uw_m2 121 rfl rfl) rfl rfl (ty := tyX5 1) (by decide +kernel) (fun _ => ⟨rfl, rfl⟩)⟩
set_option maxRecDepth 20000 in
theorem zc_X5_init_13 : cn_okq uw vwCl cdf cpr nst RX5 cX5_init (13, .aload_n 0, 1, 0, 0) := ⟨by decide +kernel, rfl, ⟨(fun _ h => (by cases h)), (fun _ h => (by cases h)), (fun _ h => (by cases h))⟩, trivial⟩
set_option maxRecDepth 20000 in
theorem zc_X5_init_14 : cn_okq uw vwCl cdf cpr nst RX5 cX5_init (14, .sipush 3000, 3, 0, 0) := ⟨by decide +kernel, rfl, ⟨(fun _ h => (by cases h)), (fun _ h => (by cases h)), (fun _ h => (by cases h))⟩, trivial⟩
set_option maxRecDepth 20000 in
theorem zc_X5_init_17 : cn_okq uw vwCl cdf cpr nst RX5 cX5_init (17, .newarray .int, 2, 0, 3000) := ⟨by decide +kernel, trivial, ⟨fun _ _ => rfl, (fun _ h => (by cases h)), (fun _ h => (by cases h))⟩, ⟨(uw_m1 51 rfl rfl), Or.inl ⟨rfl, rfl⟩⟩⟩
set_option maxRecDepth 20000 in
theorem zc_X5_init_19 : cn_okq uw vwCl cdf cpr nst RX5 cX5_init (19, .putfield 15, 3, 5, 1002) := ⟨by decide +kernel, rfl, ⟨(fun _ h => (by cases h)), (fun _ h => (by cases h)), (fun _ h => (by cases h))⟩, cn_lk_ref (k := 2) (C := RX5) (T := TX5) (N' := 7) rfl (by decide) (uw_m2 122 rfl rfl) rfl rfl (ty := tyX5 2) (by decide +kernel) (fun _ => ⟨rfl, rfl⟩)⟩
set_option maxRecDepth 20000 in
theorem zc_X5_init_22 : cn_okq uw vwCl cdf cpr nst RX5 cX5_init (22, .aload_n 0, 1, 0, 0) := ⟨by decide +kernel, rfl, ⟨(fun _ h => (by cases h)), (fun _ h => (by cases h)), (fun _ h => (by cases h))⟩, trivial⟩
set_option maxRecDepth 20000 in
theorem zc_X5_init_23 : cn_okq uw vwCl cdf cpr nst RX5 cX5_init (23, .sipush 3000, 3, 0, 0) := ⟨by decide +kernel, rfl, ⟨(fun _ h => (by cases h)), (fun _ h => (by cases h)), (fun _ h => (by cases h))⟩, trivial⟩
set_option maxRecDepth 20000 in
theorem zc_X5_init_26 : cn_okq uw vwCl cdf cpr nst RX5 cX5_init (26, .newarray .int, 2, 0, 3000) := ⟨by decide +kernel, trivial, ⟨fun _ _ => rfl, (fun _ h => (by cases h)), (fun _ h => (by cases h))⟩, ⟨(uw_m1 51 rfl rfl), Or.inl ⟨rfl, rfl⟩⟩⟩
set_option maxRecDepth 20000 in
theorem zc_X5_init_28 : cn_okq uw vwCl cdf cpr nst RX5 cX5_init (28, .putfield 18, 3, 5, 1003) := ⟨by decide +kernel, rfl, ⟨(fun _ h => (by cases h)), (fun _ h => (by cases h)), (fun _ h => (by cases h))⟩, cn_lk_ref (k := 3) (C := RX5) (T := TX5) (N' := 7) rfl (by decide) (uw_m2 123 rfl rfl) rfl rfl (ty := tyX5 3) (by decide +kernel) (fun _ => ⟨rfl, rfl⟩)⟩
set_option maxRecDepth 20000 in
theorem zc_X5_init_31 : cn_okq uw vwCl cdf cpr nst RX5 cX5_init (31, .aload_n 0, 1, 0, 0) := ⟨by decide +kernel, rfl, ⟨(fun _ h => (by cases h)), (fun _ h => (by cases h)), (fun _ h => (by cases h))⟩, trivial⟩
set_option maxRecDepth 20000 in
theorem zc_X5_init_32 : cn_okq uw vwCl cdf cpr nst RX5 cX5_init (32, .sipush 3000, 3, 0, 0) := ⟨by decide +kernel, rfl, ⟨(fun _ h => (by cases h)), (fun _ h => (by cases h)), (fun _ h => (by cases h))⟩, trivial⟩
set_option maxRecDepth 20000 in
theorem zc_X5_init_35 : cn_okq uw vwCl cdf cpr nst RX5 cX5_init (35, .newarray .int, 2, 0, 3000) := ⟨by decide +kernel, trivial, ⟨fun _ _ => rfl, (fun _ h => (by cases h)), (fun _ h => (by cases h))⟩, ⟨(uw_m1 51 rfl rfl), Or.inl ⟨rfl, rfl⟩⟩⟩
set_option maxRecDepth 20000 in
theorem zc_X5_init_37 : cn_okq uw vwCl cdf cpr nst RX5 cX5_init (37, .putfield 21, 3, 5, 1004) := ⟨by decide +kernel, rfl, ⟨(fun _ h => (by cases h)), (fun _ h => (by cases h)), (fun _ h => (by cases h))⟩, cn_lk_ref (k := 4) (C := RX5) (T := TX5) (N' := 7) rfl (by decide) (uw_m2 124 rfl rfl) rfl rfl (ty := tyX5 4) (by decide +kernel) (fun _ => ⟨rfl, rfl⟩)⟩
set_option maxRecDepth 20000 in
theorem zc_X5_init_40 : cn_okq uw vwCl cdf cpr nst RX5 cX5_init (40, .aload_n 0, 1, 0, 0) := ⟨by decide +kernel, rfl, ⟨(fun _ h => (by cases h)), (fun _ h => (by cases h)), (fun _ h => (by cases h))⟩, trivial⟩
set_option maxRecDepth 20000 in
theorem zc_X5_init_41 : cn_okq uw vwCl cdf cpr nst RX5 cX5_init (41, .sipush 3000, 3, 0, 0) := ⟨by decide +kernel, rfl, ⟨(fun _ h => (by cases h)), (fun _ h => (by cases h)), (fun _ h => (by cases h))⟩, trivial⟩
set_option maxRecDepth 20000 in
theorem zc_X5_init_44 : cn_okq uw vwCl cdf cpr nst RX5 cX5_init (44, .newarray .int, 2, 0, 3000) := ⟨by decide +kernel, trivial, ⟨fun _ _ => rfl, (fun _ h => (by cases h)), (fun _ h => (by cases h))⟩, ⟨(uw_m1 51 rfl rfl), Or.inl ⟨rfl, rfl⟩⟩⟩
set_option maxRecDepth 20000 in
theorem zc_X5_init_46 : cn_okq uw vwCl cdf cpr nst RX5 cX5_init (46, .putfield 24, 3, 5, 1005) := ⟨by decide +kernel, rfl, ⟨(fun _ h => (by cases h)), (fun _ h => (by cases h)), (fun _ h => (by cases h))⟩, cn_lk_ref (k := 5) (C := RX5) (T := TX5) (N' := 7) rfl (by decide) (uw_m2 125 rfl rfl) rfl rfl (ty := tyX5 5) (by decide +kernel) (fun _ => ⟨rfl, rfl⟩)⟩
set_option maxRecDepth 20000 in
theorem zc_X5_init_49 : cn_okq uw vwCl cdf cpr nst RX5 cX5_init (49, .aload_n 0, 1, 0, 0) := ⟨by decide +kernel, rfl, ⟨(fun _ h => (by cases h)), (fun _ h => (by cases h)), (fun _ h => (by cases h))⟩, trivial⟩
set_option maxRecDepth 20000 in
theorem zc_X5_init_50 : cn_okq uw vwCl cdf cpr nst RX5 cX5_init (50, .sipush 3000, 3, 0, 0) := ⟨by decide +kernel, rfl, ⟨(fun _ h => (by cases h)), (fun _ h => (by cases h)), (fun _ h => (by cases h))⟩, trivial⟩
set_option maxRecDepth 20000 in
theorem zc_X5_init_53 : cn_okq uw vwCl cdf cpr nst RX5 cX5_init (53, .newarray .int, 2, 0, 3000) := ⟨by decide +kernel, trivial, ⟨fun _ _ => rfl, (fun _ h => (by cases h)), (fun _ h => (by cases h))⟩, ⟨(uw_m1 51 rfl rfl), Or.inl ⟨rfl, rfl⟩⟩⟩
set_option maxRecDepth 20000 in
theorem zc_X5_init_55 : cn_okq uw vwCl cdf cpr nst RX5 cX5_init (55, .putfield 27, 3, 5, 1006) := ⟨by decide +kernel, rfl, ⟨(fun _ h => (by cases h)), (fun _ h => (by cases h)), (fun _ h => (by cases h))⟩, cn_lk_ref (k := 6) (C := RX5) (T := TX5) (N' := 7) rfl (by decide) (uw_m2 126 rfl rfl) rfl rfl (ty := tyX5 6) (by decide +kernel) (fun _ => ⟨rfl, rfl⟩)⟩
set_option maxRecDepth 20000 in
theorem zc_X5_init_58 : cn_okq uw vwCl cdf cpr nst RX5 cX5_init (58, .aload_n 0, 1, 0, 0) := ⟨by decide +kernel, rfl, ⟨(fun _ h => (by cases h)), (fun _ h => (by cases h)), (fun _ h => (by cases h))⟩, trivial⟩
set_option maxRecDepth 20000 in
theorem zc_X5_init_59 : cn_okq uw vwCl cdf cpr nst RX5 cX5_init (59, .aload_n 1, 1, 0, 0) := ⟨by decide +kernel, rfl, ⟨(fun _ h => (by cases h)), (fun _ h => (by cases h)), (fun _ h => (by cases h))⟩, trivial⟩
set_option maxRecDepth 20000 in
theorem zc_X5_init_60 : cn_okq uw vwCl cdf cpr nst RX5 cX5_init (60, .putfield 30, 3, 5, 1000) := ⟨by decide +kernel, rfl, ⟨(fun _ h => (by cases h)), (fun _ h => (by cases h)), (fun _ h => (by cases h))⟩, cn_lk_ref (k := 0) (C := RX5) (T := TX5) (N' := 7) rfl (by decide) (uw_m2 120 rfl rfl) rfl rfl (ty := tyX5 0) (by decide +kernel) (fun _ => ⟨rfl, rfl⟩)⟩
set_option maxRecDepth 20000 in
theorem zc_X5_init_63 : cn_okq uw vwCl cdf cpr nst RX5 cX5_init (63, .return_, 1, 0, 0) := ⟨by decide +kernel, rfl, ⟨(fun _ h => (by cases h)), (fun _ h => (by cases h)), (fun _ h => (by cases h))⟩, trivial⟩
set_option maxRecDepth 20000 in
theorem zx_X5_init : cn_cd uw vwCl cdf cpr nst nX5_init := ⟨by decide +kernel, List.forall_mem_cons.mpr ⟨zc_X5_init_0, List.forall_mem_cons.mpr ⟨zc_X5_init_1, List.forall_mem_cons.mpr ⟨zc_X5_init_4, List.forall_mem_cons.mpr ⟨zc_X5_init_5, List.forall_mem_cons.mpr ⟨zc_X5_init_8, List.forall_mem_cons.mpr ⟨zc_X5_init_10, List.forall_mem_cons.mpr ⟨zc_X5_init_13, List.forall_mem_cons.mpr ⟨zc_X5_init_14, List.forall_mem_cons.mpr ⟨zc_X5_init_17, List.forall_mem_cons.mpr ⟨zc_X5_init_19, List.forall_mem_cons.mpr ⟨zc_X5_init_22, List.forall_mem_cons.mpr ⟨zc_X5_init_23, List.forall_mem_cons.mpr ⟨zc_X5_init_26, List.forall_mem_cons.mpr ⟨zc_X5_init_28, List.forall_mem_cons.mpr ⟨zc_X5_init_31, List.forall_mem_cons.mpr ⟨zc_X5_init_32, List.forall_mem_cons.mpr ⟨zc_X5_init_35, List.forall_mem_cons.mpr ⟨zc_X5_init_37, List.forall_mem_cons.mpr ⟨zc_X5_init_40, List.forall_mem_cons.mpr ⟨zc_X5_init_41, List.forall_mem_cons.mpr ⟨zc_X5_init_44, List.forall_mem_cons.mpr ⟨zc_X5_init_46, List.forall_mem_cons.mpr ⟨zc_X5_init_49, List.forall_mem_cons.mpr ⟨zc_X5_init_50, List.forall_mem_cons.mpr ⟨zc_X5_init_53, List.forall_mem_cons.mpr ⟨zc_X5_init_55, List.forall_mem_cons.mpr ⟨zc_X5_init_58, List.forall_mem_cons.mpr ⟨zc_X5_init_59, List.forall_mem_cons.mpr ⟨zc_X5_init_60, List.forall_mem_cons.mpr ⟨zc_X5_init_63, fun _ h => absurd h List.not_mem_nil⟩⟩⟩⟩⟩⟩⟩⟩⟩⟩⟩⟩⟩⟩⟩⟩⟩⟩⟩⟩⟩⟩⟩⟩⟩⟩⟩⟩⟩⟩⟩
set_option maxRecDepth 20000 in
theorem zm_X5_init : cn_mk uw nX5_init := ⟨(uw_m2 118 rfl rfl), (uw_m1 11 rfl rfl), by decide +kernel, by decide +kernel, by decide +kernel, by decide, rfl⟩
set_option maxRecDepth 20000 in
theorem zc_X6_init_0 : cn_okq uw vwCl cdf cpr nst RX6 cX6_init (0, .aload_n 0, 1, 0, 0) := ⟨by decide +kernel, rfl, ⟨(fun _ h => (by cases h)), (fun _ h => (by cases h)), (fun _ h => (by cases h))⟩, trivial⟩
set_option maxRecDepth 20000 in
theorem zc_X6_init_1 : cn_okq uw vwCl cdf cpr nst RX6 cX6_init (1, .invokespecial 3, 3, 999, 0) := ⟨by decide +kernel, trivial, ⟨(fun _ h => (by cases h)), (fun _ h => (by cases h)), fun _ _ => rfl⟩, ⟨(uw_m1 217 rfl rfl), (uw_m1 22 rfl rfl), (uw_m1 23 rfl rfl)⟩⟩
set_option maxRecDepth 20000 in
theorem zc_X6_init_4 : cn_okq uw vwCl cdf cpr nst RX6 cX6_init (4, .aload_n 0, 1, 0, 0) := ⟨by decide +kernel, rfl, ⟨(fun _ h => (by cases h)), (fun _ h => (by cases h)), (fun _ h => (by cases h))⟩, trivial⟩
set_option maxRecDepth 20000 in
theorem zc_X6_init_5 : cn_okq uw vwCl cdf cpr nst RX6 cX6_init (5, .sipush 200, 3, 0, 0) := ⟨by decide +kernel, rfl, ⟨(fun _ h => (by cases h)), (fun _ h => (by cases h)), (fun _ h => (by cases h))⟩, trivial⟩
set_option maxRecDepth 20000 in
theorem zc_X6_init_8 : cn_okq uw vwCl cdf cpr nst RX6 cX6_init (8, .newarray .int, 2, 0, 200) := ⟨by decide +kernel, trivial, ⟨fun _ _ => rfl, (fun _ h => (by cases h)), (fun _ h => (by cases h))⟩, ⟨(uw_m1 51 rfl rfl), Or.inl ⟨rfl, rfl⟩⟩⟩
set_option maxRecDepth 20000 in
theorem zc_X6_init_10 : cn_okq uw vwCl cdf cpr nst RX6 cX6_init (10, .putfield 9, 3, 6, 1000) := ⟨by decide +kernel, rfl, ⟨(fun _ h => (by cases h)), (fun _ h => (by cases h)), (fun _ h => (by cases h))⟩, cn_lk_ref (k := 0) (C := RX6) (T := TX6) (N' := 9) rfl (by decide) (uw_m1 218 rfl rfl) rfl rfl (ty := tyX6 0) (by decide +kernel) (fun _ => ⟨rfl, rfl⟩)⟩
set_option maxRecDepth 20000 in
theorem zc_X6_init_13 : cn_okq uw vwCl cdf cpr nst RX6 cX6_init (13, .aload_n 0, 1, 0, 0) := ⟨by decide +kernel, rfl, ⟨(fun _ h => (by cases h)), (fun _ h => (by cases h)), (fun _ h => (by cases h))⟩, trivial⟩
set_option maxRecDepth 20000 in
theorem zc_X6_init_14 : cn_okq uw vwCl cdf cpr nst RX6 cX6_init (14, .sipush 200, 3, 0, 0) := ⟨by decide +kernel, rfl, ⟨(fun _ h => (by cases h)), (fun _ h => (by cases h)), (fun _ h => (by cases h))⟩, trivial⟩
set_option maxRecDepth 20000 in
theorem zc_X6_init_17 : cn_okq uw vwCl cdf cpr nst RX6 cX6_init (17, .newarray .int, 2, 0, 200) := ⟨by decide +kernel, trivial, ⟨fun _ _ => rfl, (fun _ h => (by cases h)), (fun _ h => (by cases h))⟩, ⟨(uw_m1 51 rfl rfl), Or.inl ⟨rfl, rfl⟩⟩⟩
set_option maxRecDepth 20000 in
theorem zc_X6_init_19 : cn_okq uw vwCl cdf cpr nst RX6 cX6_init (19, .putfield 15, 3, 6, 1001) := ⟨by decide +kernel, rfl, ⟨(fun _ h => (by cases h)), (fun _ h => (by cases h)), (fun _ h => (by cases h))⟩, cn_lk_ref (k := 1) (C := RX6) (T := TX6) (N' := 9) rfl (by decide) (uw_m1 220 rfl rfl) rfl rfl (ty := tyX6 1) (by decide +kernel) (fun _ => ⟨rfl, rfl⟩)⟩
set_option maxRecDepth 20000 in
theorem zc_X6_init_22 : cn_okq uw vwCl cdf cpr nst RX6 cX6_init (22, .aload_n 0, 1, 0, 0) := ⟨by decide +kernel, rfl, ⟨(fun _ h => (by cases h)), (fun _ h => (by cases h)), (fun _ h => (by cases h))⟩, trivial⟩
set_option maxRecDepth 20000 in
theorem zc_X6_init_23 : cn_okq uw vwCl cdf cpr nst RX6 cX6_init (23, .sipush 200, 3, 0, 0) := ⟨by decide +kernel, rfl, ⟨(fun _ h => (by cases h)), (fun _ h => (by cases h)), (fun _ h => (by cases h))⟩, trivial⟩
set_option maxRecDepth 20000 in
theorem zc_X6_init_26 : cn_okq uw vwCl cdf cpr nst RX6 cX6_init (26, .newarray .int, 2, 0, 200) := ⟨by decide +kernel, trivial, ⟨fun _ _ => rfl, (fun _ h => (by cases h)), (fun _ h => (by cases h))⟩, ⟨(uw_m1 51 rfl rfl), Or.inl ⟨rfl, rfl⟩⟩⟩
set_option maxRecDepth 20000 in
theorem zc_X6_init_28 : cn_okq uw vwCl cdf cpr nst RX6 cX6_init (28, .putfield 18, 3, 6, 1002) := ⟨by decide +kernel, rfl, ⟨(fun _ h => (by cases h)), (fun _ h => (by cases h)), (fun _ h => (by cases h))⟩, cn_lk_ref (k := 2) (C := RX6) (T := TX6) (N' := 9) rfl (by decide) (uw_m1 222 rfl rfl) rfl rfl (ty := tyX6 2) (by decide +kernel) (fun _ => ⟨rfl, rfl⟩)⟩
set_option maxRecDepth 20000 in
theorem zc_X6_init_31 : cn_okq uw vwCl cdf cpr nst RX6 cX6_init (31, .aload_n 0, 1, 0, 0) := ⟨by decide +kernel, rfl, ⟨(fun _ h => (by cases h)), (fun _ h => (by cases h)), (fun _ h => (by cases h))⟩, trivial⟩
set_option maxRecDepth 20000 in
theorem zc_X6_init_32 : cn_okq uw vwCl cdf cpr nst RX6 cX6_init (32, .sipush 200, 3, 0, 0) := ⟨by decide +kernel, rfl, ⟨(fun _ h => (by cases h)), (fun _ h => (by cases h)), (fun _ h => (by cases h))⟩, trivial⟩
set_option maxRecDepth 20000 in
theorem zc_X6_init_35 : cn_okq uw vwCl cdf cpr nst RX6 cX6_init (35, .newarray .int, 2, 0, 200) := ⟨by decide +kernel, trivial, ⟨fun _ _ => rfl, (fun _ h => (by cases h)), (fun _ h => (by cases h))⟩, ⟨(uw_m1 51 rfl rfl), Or.inl ⟨rfl, rfl⟩⟩⟩
set_option maxRecDepth 20000 in
theorem zc_X6_init_37 : cn_okq uw vwCl cdf cpr nst RX6 cX6_init (37, .putfield 21, 3, 6, 1003) := ⟨by decide +kernel, rfl, ⟨(fun _ h => (by cases h)), (fun _ h => (by cases h)), (fun _ h => (by cases h))⟩, cn_lk_ref (k := 3) (C := RX6) (T := TX6) (N' := 9) rfl (by decide) (uw_m1 224 rfl rfl) rfl rfl (ty := tyX6 3) (by decide +kernel) (fun _ => ⟨rfl, rfl⟩)⟩
set_option maxRecDepth 20000 in
theorem zc_X6_init_40 : cn_okq uw vwCl cdf cpr nst RX6 cX6_init (40, .aload_n 0, 1, 0, 0) := ⟨by decide +kernel, rfl, ⟨(fun _ h => (by cases h)), (fun _ h => (by cases h)), (fun _ h => (by cases h))⟩, trivial⟩
set_option maxRecDepth 20000 in
theorem zc_X6_init_41 : cn_okq uw vwCl cdf cpr nst RX6 cX6_init (41, .sipush 200, 3, 0, 0) := ⟨by decide +kernel, rfl, ⟨(fun _ h => (by cases h)), (fun _ h => (by cases h)), (fun _ h => (by cases h))⟩, trivial⟩
set_option maxRecDepth 20000 in
theorem zc_X6_init_44 : cn_okq uw vwCl cdf cpr nst RX6 cX6_init (44, .newarray .int, 2, 0, 200) := ⟨by decide +kernel, trivial, ⟨fun _ _ => rfl, (fun _ h => (by cases h)), (fun _ h => (by cases h))⟩, ⟨(uw_m1 51 rfl rfl), Or.inl ⟨rfl, rfl⟩⟩⟩
set_option maxRecDepth 20000 in
theorem zc_X6_init_46 : cn_okq uw vwCl cdf cpr nst RX6 cX6_init (46, .putfield 24, 3, 6, 1004) := ⟨by decide +kernel, rfl, ⟨(fun _ h => (by cases h)), (fun _ h => (by cases h)), (fun _ h => (by cases h))⟩, cn_lk_ref (k := 4) (C := RX6) (T := TX6) (N' := 9) rfl (by decide) (uw_m1 226 rfl rfl) rfl rfl (ty := tyX6 4) (by decide +kernel) (fun _ => ⟨rfl, rfl⟩)⟩
set_option maxRecDepth 20000 in
theorem zc_X6_init_49 : cn_okq uw vwCl cdf cpr nst RX6 cX6_init (49, .aload_n 0, 1, 0, 0) := ⟨by decide +kernel, rfl, ⟨(fun _ h => (by cases h)), (fun _ h => (by cases h)), (fun _ h => (by cases h))⟩, trivial⟩
set_option maxRecDepth 20000 in
theorem zc_X6_init_50 : cn_okq uw vwCl cdf cpr nst RX6 cX6_init (50, .sipush 800, 3, 0, 0) := ⟨by decide +kernel, rfl, ⟨(fun _ h => (by cases h)), (fun _ h => (by cases h)), (fun _ h => (by cases h))⟩, trivial⟩
set_option maxRecDepth 20000 in
theorem zc_X6_init_53 : cn_okq uw vwCl cdf cpr nst RX6 cX6_init (53, .newarray .long, 2, 2, 800) := ⟨by decide +kernel, trivial, ⟨fun _ _ => rfl, (fun _ h => (by cases h)), (fun _ h => (by cases h))⟩, ⟨(uw_m2 14 rfl rfl), Or.inr (Or.inr ⟨rfl, rfl⟩)⟩⟩
set_option maxRecDepth 20000 in
theorem zc_X6_init_55 : cn_okq uw vwCl cdf cpr nst RX6 cX6_init (55, .putfield 27, 3, 6, 1005) := ⟨by decide +kernel, rfl, ⟨(fun _ h => (by cases h)), (fun _ h => (by cases h)), (fun _ h => (by cases h))⟩, cn_lk_ref (k := 5) (C := RX6) (T := TX6) (N' := 9) rfl (by decide) (uw_m1 228 rfl rfl) rfl rfl (ty := tyX6 5) (by decide +kernel) (fun _ => ⟨rfl, rfl⟩)⟩
set_option maxRecDepth 20000 in
theorem zc_X6_init_58 : cn_okq uw vwCl cdf cpr nst RX6 cX6_init (58, .aload_n 0, 1, 0, 0) := ⟨by decide +kernel, rfl, ⟨(fun _ h => (by cases h)), (fun _ h => (by cases h)), (fun _ h => (by cases h))⟩, trivial⟩
set_option maxRecDepth 20000 in
theorem zc_X6_init_59 : cn_okq uw vwCl cdf cpr nst RX6 cX6_init (59, .bipush (-2), 2, 0, 0) := ⟨by decide +kernel, rfl, ⟨(fun _ h => (by cases h)), (fun _ h => (by cases h)), (fun _ h => (by cases h))⟩, trivial⟩
set_option maxRecDepth 20000 in
theorem zc_X6_init_61 : cn_okq uw vwCl cdf cpr nst RX6 cX6_init (61, .putfield 31, 3, 6, 8) := ⟨by decide +kernel, rfl, ⟨(fun _ h => (by cases h)), (fun _ h => (by cases h)), (fun _ h => (by cases h))⟩, cn_lk_int (k := 8) (C := RX6) (T := TX6) (N' := 9) rfl (by decide) (uw_m1 233 rfl rfl) rfl (by decide +kernel) (by decide)⟩
set_option maxRecDepth 20000 in
theorem zc_X6_init_64 : cn_okq uw vwCl cdf cpr nst RX6 cX6_init (64, .return_, 1, 0, 0) := ⟨by decide +kernel, rfl, ⟨(fun _ h => (by cases h)), (fun _ h => (by cases h)), (fun _ h => (by cases h))⟩, trivial⟩
set_option maxRecDepth 20000 in
theorem zx_X6_init : cn_cd uw vwCl cdf cpr nst nX6_init := ⟨by decide +kernel, List.forall_mem_cons.mpr ⟨zc_X6_init_0, List.forall_mem_cons.mpr ⟨zc_X6_init_1, List.forall_mem_cons.mpr ⟨zc_X6_init_4, List.forall_mem_cons.mpr ⟨zc_X6_init_5, List.forall_mem_cons.mpr ⟨zc_X6_init_8, List.forall_mem_cons.mpr ⟨zc_X6_init_10, List.forall_mem_cons.mpr ⟨zc_X6_init_13, List.forall_mem_cons.mpr ⟨zc_X6_init_14, List.forall_mem_cons.mpr ⟨zc_X6_init_17, List.forall_mem_cons.mpr ⟨zc_X6_init_19, List.forall_mem_cons.mpr ⟨zc_X6_init_22, List.forall_mem_cons.mpr ⟨zc_X6_init_23, List.forall_mem_cons.mpr ⟨zc_X6_init_26, List.forall_mem_cons.mpr ⟨zc_X6_init_28, List.forall_mem_cons.mpr ⟨zc_X6_init_31, List.forall_mem_cons.mpr ⟨zc_X6_init_32, List.forall_mem_cons.mpr ⟨zc_X6_init_35, List.forall_mem_cons.mpr ⟨zc_X6_init_37, List.forall_mem_cons.mpr ⟨zc_X6_init_40, List.forall_mem_cons.mpr ⟨zc_X6_init_41, List.forall_mem_cons.mpr ⟨zc_X6_init_44, List.forall_mem_cons.mpr ⟨zc_X6_init_46, List.forall_mem_cons.mpr ⟨zc_X6_init_49, List.forall_mem_cons.mpr ⟨zc_X6_init_50, List.forall_mem_cons.mpr ⟨zc_X6_init_53, List.forall_mem_cons.mpr ⟨zc_X6_init_55, List.forall_mem_cons.mpr ⟨zc_X6_init_58, List.forall_mem_cons.mpr ⟨zc_X6_init_59, List.forall_mem_cons.mpr ⟨zc_X6_init_61, List.forall_mem_cons.mpr ⟨zc_X6_init_64, fun _ h => absurd h List.not_mem_nil⟩⟩⟩⟩⟩⟩⟩⟩⟩⟩⟩⟩⟩⟩⟩⟩⟩⟩⟩⟩⟩⟩⟩⟩⟩⟩⟩⟩⟩⟩⟩
set_option maxRecDepth 20000 in
theorem zm_X6_init : cn_mk uw nX6_init := ⟨(uw_m1 216 rfl rfl), (uw_m1 7 rfl rfl), by decide +kernel, by decide +kernel, by decide +kernel, by decide, rfl⟩
set_option maxRecDepth 20000 in
theorem zc_X7_init_0 : cn_okq uw vwCl cdf cpr nst RX7 cX7_init (0, .aload_n 0, 1, 0, 0) := ⟨by decide +kernel, rfl, ⟨(fun _ h => (by cases h)), (fun _ h => (by cases h)), (fun _ h => (by cases h))⟩, trivial⟩
set_option maxRecDepth 20000 in
theorem zc_X7_init_1 : cn_okq uw vwCl cdf cpr nst RX7 cX7_init (1, .invokespecial 3, 3, 999, 0) := ⟨by decide +kernel, trivial, ⟨(fun _ h => (by cases h)), (fun _ h => (by cases h)), fun _ _ => rfl⟩, ⟨(uw_m2 96 rfl rfl), (uw_m1 22 rfl rfl), (uw_m1 23 rfl rfl)⟩⟩
set_option maxRecDepth 20000 in
theorem zc_X7_init_4 : cn_okq uw vwCl cdf cpr nst RX7 cX7_init (4, .aload_n 0, 1, 0, 0) := ⟨by decide +kernel, rfl, ⟨(fun _ h => (by cases h)), (fun _ h => (by cases h)), (fun _ h => (by cases h))⟩, trivial⟩
set_option maxRecDepth 20000 in
theorem zc_X7_init_5 : cn_okq uw vwCl cdf cpr nst RX7 cX7_init (5, .sipush 3000, 3, 0, 0) := ⟨by decide +kernel, rfl, ⟨(fun _ h => (by cases h)), (fun _ h => (by cases h)), (fun _ h => (by cases h))⟩, trivial⟩
set_option maxRecDepth 20000 in
theorem zc_X7_init_8 : cn_okq uw vwCl cdf cpr nst RX7 cX7_init (8, .newarray .int, 2, 0, 3000) := ⟨by decide +kernel, trivial, ⟨fun _ _ => rfl, (fun _ h => (by cases h)), (fun _ h => (by cases h))⟩, ⟨(uw_m1 51 rfl rfl), Or.inl ⟨rfl, rfl⟩⟩⟩
set_option maxRecDepth 20000 in
theorem zc_X7_init_10 : cn_okq uw vwCl cdf cpr nst RX7 cX7_init (10, .putfield 9, 3, 7, 1002) := ⟨by decide +kernel, rfl, ⟨(fun _ h => (by cases h)), (fun _ h => (by cases h)), (fun _ h => (by cases h))⟩, cn_lk_ref (k := 2) (C := RX7) (T := TX7) (N' := 5) rfl (by decide) (uw_m2 99 rfl rfl) rfl rfl (ty := tyX7 2) (by decide +kernel) (fun _ => ⟨rfl, rfl⟩)⟩
set_option maxRecDepth 20000 in
theorem zc_X7_init_13 : cn_okq uw vwCl cdf cpr nst RX7 cX7_init (13, .aload_n 0, 1, 0, 0) := ⟨by decide +kernel, rfl, ⟨(fun _ h => (by cases h)), (fun _ h => (by cases h)), (fun _ h => (by cases h))⟩, trivial⟩
set_option maxRecDepth 20000 in
theorem zc_X7_init_14 : cn_okq uw vwCl cdf cpr nst RX7 cX7_init (14, .sipush 3000, 3, 0, 0) := ⟨by decide +kernel, rfl, ⟨(fun _ h => (by cases h)), (fun _ h => (by cases h)), (fun _ h => (by cases h))⟩, trivial⟩
set_option maxRecDepth 20000 in
theorem zc_X7_init_17 : cn_okq uw vwCl cdf cpr nst RX7 cX7_init (17, .newarray .int, 2, 0, 3000) := ⟨by decide +kernel, trivial, ⟨fun _ _ => rfl, (fun _ h => (by cases h)), (fun _ h => (by cases h))⟩, ⟨(uw_m1 51 rfl rfl), Or.inl ⟨rfl, rfl⟩⟩⟩
set_option maxRecDepth 20000 in
theorem zc_X7_init_19 : cn_okq uw vwCl cdf cpr nst RX7 cX7_init (19, .putfield 15, 3, 7, 1003) := ⟨by decide +kernel, rfl, ⟨(fun _ h => (by cases h)), (fun _ h => (by cases h)), (fun _ h => (by cases h))⟩, cn_lk_ref (k := 3) (C := RX7) (T := TX7) (N' := 5) rfl (by decide) (uw_m2 100 rfl rfl) rfl rfl (ty := tyX7 3) (by decide +kernel) (fun _ => ⟨rfl, rfl⟩)⟩
set_option maxRecDepth 20000 in
theorem zc_X7_init_22 : cn_okq uw vwCl cdf cpr nst RX7 cX7_init (22, .aload_n 0, 1, 0, 0) := ⟨by decide +kernel, rfl, ⟨(fun _ h => (by cases h)), (fun _ h => (by cases h)), (fun _ h => (by cases h))⟩, trivial⟩
set_option maxRecDepth 20000 in
theorem zc_X7_init_23 : cn_okq uw vwCl cdf cpr nst RX7 cX7_init (23, .sipush 256, 3, 0, 0) := ⟨by decide +kernel, rfl, ⟨(fun _ h => (by cases h)), (fun _ h => (by cases h)), (fun _ h => (by cases h))⟩, trivial⟩
set_option maxRecDepth 20000 in
theorem zc_X7_init_26 : cn_okq uw vwCl cdf cpr nst RX7 cX7_init (26, .newarray .int, 2, 0, 256) := ⟨by decide +kernel, trivial, ⟨fun _ _ => rfl, (fun _ h => (by cases h)), (fun _ h => (by cases h))⟩, ⟨(uw_m1 51 rfl rfl), Or.inl ⟨rfl, rfl⟩⟩⟩
set_option maxRecDepth 20000 in
theorem zc_X7_init_28 : cn_okq uw vwCl cdf cpr nst RX7 cX7_init (28, .putfield 18, 3, 7, 1004) := ⟨by decide +kernel, rfl, ⟨(fun _ h => (by cases h)), (fun _ h => (by cases h)), (fun _ h => (by cases h))⟩, cn_lk_ref (k := 4) (C := RX7) (T := TX7) (N' := 5) rfl (by decide) (uw_m2 102 rfl rfl) rfl rfl (ty := tyX7 4) (by decide +kernel) (fun _ => ⟨rfl, rfl⟩)⟩
set_option maxRecDepth 20000 in
theorem zc_X7_init_31 : cn_okq uw vwCl cdf cpr nst RX7 cX7_init (31, .aload_n 0, 1, 0, 0) := ⟨by decide +kernel, rfl, ⟨(fun _ h => (by cases h)), (fun _ h => (by cases h)), (fun _ h => (by cases h))⟩, trivial⟩
set_option maxRecDepth 20000 in
theorem zc_X7_init_32 : cn_okq uw vwCl cdf cpr nst RX7 cX7_init (32, .aload_n 1, 1, 0, 0) := ⟨by decide +kernel, rfl, ⟨(fun _ h => (by cases h)), (fun _ h => (by cases h)), (fun _ h => (by cases h))⟩, trivial⟩
set_option maxRecDepth 20000 in
theorem zc_X7_init_33 : cn_okq uw vwCl cdf cpr nst RX7 cX7_init (33, .putfield 21, 3, 7, 1000) := ⟨by decide +kernel, rfl, ⟨(fun _ h => (by cases h)), (fun _ h => (by cases h)), (fun _ h => (by cases h))⟩, cn_lk_ref (k := 0) (C := RX7) (T := TX7) (N' := 5) rfl (by decide) (uw_m2 97 rfl rfl) rfl rfl (ty := tyX7 0) (by decide +kernel) (fun _ => ⟨rfl, rfl⟩)⟩
set_option maxRecDepth 20000 in
theorem zc_X7_init_36 : cn_okq uw vwCl cdf cpr nst RX7 cX7_init (36, .aload_n 0, 1, 0, 0) := ⟨by decide +kernel, rfl, ⟨(fun _ h => (by cases h)), (fun _ h => (by cases h)), (fun _ h => (by cases h))⟩, trivial⟩
set_option maxRecDepth 20000 in
theorem zc_X7_init_37 : cn_okq uw vwCl cdf cpr nst RX7 cX7_init (37, .aload_n 2, 1, 0, 0) := ⟨by decide +kernel, rfl, ⟨(fun _ h => (by cases h)), (fun _ h => (by cases h)), (fun _ h => (by cases h))⟩, trivial⟩
set_option maxRecDepth 20000 in
theorem zc_X7_init_38 : cn_okq uw vwCl cdf cpr nst RX7 cX7_init (38, .putfield 25, 3, 7, 1001) := ⟨by decide +kernel, rfl, ⟨(fun _ h => (by cases h)), (fun _ h => (by cases h)), (fun _ h => (by cases h))⟩, cn_lk_ref (k := 1) (C := RX7) (T := TX7) (N' := 5) rfl (by decide) (uw_m2 98 rfl rfl) rfl rfl (ty := tyX7 1) (by decide +kernel) (fun _ => ⟨rfl, rfl⟩)⟩
set_option maxRecDepth 20000 in
theorem zc_X7_init_41 : cn_okq uw vwCl cdf cpr nst RX7 cX7_init (41, .return_, 1, 0, 0) := ⟨by decide +kernel, rfl, ⟨(fun _ h => (by cases h)), (fun _ h => (by cases h)), (fun _ h => (by cases h))⟩, trivial⟩
set_option maxRecDepth 20000 in
theorem zx_X7_init : cn_cd uw vwCl cdf cpr nst nX7_init := ⟨by decide +kernel, List.forall_mem_cons.mpr ⟨zc_X7_init_0, List.forall_mem_cons.mpr ⟨zc_X7_init_1, List.forall_mem_cons.mpr ⟨zc_X7_init_4, List.forall_mem_cons.mpr ⟨zc_X7_init_5, List.forall_mem_cons.mpr ⟨zc_X7_init_8, List.forall_mem_cons.mpr ⟨zc_X7_init_10, List.forall_mem_cons.mpr ⟨zc_X7_init_13, List.forall_mem_cons.mpr ⟨zc_X7_init_14, List.forall_mem_cons.mpr ⟨zc_X7_init_17, List.forall_mem_cons.mpr ⟨zc_X7_init_19, List.forall_mem_cons.mpr ⟨zc_X7_init_22, List.forall_mem_cons.mpr ⟨zc_X7_init_23, List.forall_mem_cons.mpr ⟨zc_X7_init_26, List.forall_mem_cons.mpr ⟨zc_X7_init_28, List.forall_mem_cons.mpr ⟨zc_X7_init_31, List.forall_mem_cons.mpr ⟨zc_X7_init_32, List.forall_mem_cons.mpr ⟨zc_X7_init_33, List.forall_mem_cons.mpr ⟨zc_X7_init_36, List.forall_mem_cons.mpr ⟨zc_X7_init_37, List.forall_mem_cons.mpr ⟨zc_X7_init_38, List.forall_mem_cons.mpr ⟨zc_X7_init_41, fun _ h => absurd h List.not_mem_nil⟩⟩⟩⟩⟩⟩⟩⟩⟩⟩⟩⟩⟩⟩⟩⟩⟩⟩⟩⟩⟩⟩
set_option maxRecDepth 20000 in
theorem zm_X7_init : cn_mk uw nX7_init := ⟨(uw_m2 95 rfl rfl), (uw_m1 10 rfl rfl), by decide +kernel, by decide +kernel, by decide +kernel, by decide, rfl⟩
set_option maxRecDepth 20000 in
theorem zc_X8_init_0 : cn_okq uw vwCl cdf cpr nst RX8 cX8_init (0, .aload_n 0, 1, 0, 0) := ⟨by decide +kernel, rfl, ⟨(fun _ h => (by cases h)), (fun _ h => (by cases h)), (fun _ h => (by cases h))⟩, trivial⟩
set_option maxRecDepth 20000 in
theorem zc_X8_init_1 : cn_okq uw vwCl cdf cpr nst RX8 cX8_init (1, .invokespecial 3, 3, 999, 0) := ⟨by decide +kernel, trivial, ⟨(fun _ h => (by cases h)), (fun _ h => (by cases h)), fun _ _ => rfl⟩, ⟨(uw_m1 63 rfl rfl), (uw_m1 22 rfl rfl), (uw_m1 23 rfl rfl)⟩⟩
set_option maxRecDepth 20000 in
theorem zc_X8_init_4 : cn_okq uw vwCl cdf cpr nst RX8 cX8_init (4, .aload_n 0, 1, 0, 0) := ⟨by decide +kernel, rfl, ⟨(fun _ h => (by cases h)), (fun _ h => (by cases h)), (fun _ h => (by cases h))⟩, trivial⟩
set_option maxRecDepth 20000 in
theorem zc_X8_init_5 : cn_okq uw vwCl cdf cpr nst RX8 cX8_init (5, .sipush 3000, 3, 0, 0) := ⟨by decide +kernel, rfl, ⟨(fun _ h => (by cases h)), (fun _ h => (by cases h)), (fun _ h => (by cases h))⟩, trivial⟩
set_option maxRecDepth 20000 in
theorem zc_X8_init_8 : cn_okq uw vwCl cdf cpr nst RX8 cX8_init (8, .newarray .int, 2, 0, 3000) := ⟨by decide +kernel, trivial, ⟨fun _ _ => rfl, (fun _ h => (by cases h)), (fun _ h => (by cases h))⟩, ⟨(uw_m1 51 rfl rfl), Or.inl ⟨rfl, rfl⟩⟩⟩
set_option maxRecDepth 20000 in
theorem zc_X8_init_10 : cn_okq uw vwCl cdf cpr nst RX8 cX8_init (10, .putfield 9, 3, 8, 1000) := ⟨by decide +kernel, rfl, ⟨(fun _ h => (by cases h)), (fun _ h => (by cases h)), (fun _ h => (by cases h))⟩, cn_lk_ref (k := 0) (C := RX8) (T := TX8) (N' := 3) rfl (by decide) (uw_m1 64 rfl rfl) rfl rfl (ty := tyX8 0) (by decide +kernel) (fun _ => ⟨rfl, rfl⟩)⟩
set_option maxRecDepth 20000 in
theorem zc_X8_init_13 : cn_okq uw vwCl cdf cpr nst RX8 cX8_init (13, .aload_n 0, 1, 0, 0) := ⟨by decide +kernel, rfl, ⟨(fun _ h => (by cases h)), (fun _ h => (by cases h)), (fun _ h => (by cases h))⟩, trivial⟩
set_option maxRecDepth 20000 in
theorem zc_X8_init_14 : cn_okq uw vwCl cdf cpr nst RX8 cX8_init (14, .sipush 3000, 3, 0, 0) := ⟨by decide +kernel, rfl, ⟨(fun _ h => (by cases h)), (fun _ h => (by cases h)), (fun _ h => (by cases h))⟩, trivial⟩
set_option maxRecDepth 20000 in
theorem zc_X8_init_17 : cn_okq uw vwCl cdf cpr nst RX8 cX8_init (17, .newarray .int, 2, 0, 3000) := ⟨by decide +kernel, trivial, ⟨fun _ _ => rfl, (fun _ h => (by cases h)), (fun _ h => (by cases h))⟩, ⟨(uw_m1 51 rfl rfl), Or.inl ⟨rfl, rfl⟩⟩⟩
set_option maxRecDepth 20000 in
theorem zc_X8_init_19 : cn_okq uw vwCl cdf cpr nst RX8 cX8_init (19, .putfield 15, 3, 8, 1001) := ⟨by decide +kernel, rfl, ⟨(fun _ h => (by cases h)), (fun _ h => (by cases h)), (fun _ h => (by cases h))⟩, cn_lk_ref (k := 1) (C := RX8) (T := TX8) (N' := 3) rfl (by decide) (uw_m1 65 rfl rfl) rfl rfl (ty := tyX8 1) (by decide +kernel) (fun _ => ⟨rfl, rfl⟩)⟩
set_option maxRecDepth 20000 in
theorem zc_X8_init_22 : cn_okq uw vwCl cdf cpr nst RX8 cX8_init (22, .aload_n 0, 1, 0, 0) := ⟨by decide +kernel, rfl, ⟨(fun _ h => (by cases h)), (fun _ h => (by cases h)), (fun _ h => (by cases h))⟩, trivial⟩
set_option maxRecDepth 20000 in
theorem zc_X8_init_23 : cn_okq uw vwCl cdf cpr nst RX8 cX8_init (23, .sipush 3001, 3, 0, 0) := ⟨by decide +kernel, rfl, ⟨(fun _ h => (by cases h)), (fun _ h => (by cases h)), (fun _ h => (by cases h))⟩, trivial⟩
set_option maxRecDepth 20000 in
theorem zc_X8_init_26 : cn_okq uw vwCl cdf cpr nst RX8 cX8_init (26, .newarray .int, 2, 0, 3001) := ⟨by decide +kernel, trivial, ⟨fun _ _ => rfl, (fun _ h => (by cases h)), (fun _ h => (by cases h))⟩, ⟨(uw_m1 51 rfl rfl), Or.inl ⟨rfl, rfl⟩⟩⟩
set_option maxRecDepth 20000 in
theorem zc_X8_init_28 : cn_okq uw vwCl cdf cpr nst RX8 cX8_init (28, .putfield 18, 3, 8, 1002) := ⟨by decide +kernel, rfl, ⟨(fun _ h => (by cases h)), (fun _ h => (by cases h)), (fun _ h => (by cases h))⟩, cn_lk_ref (k := 2) (C := RX8) (T := TX8) (N' := 3) rfl (by decide) (uw_m1 66 rfl rfl) rfl rfl (ty := tyX8 2) (by decide +kernel) (fun _ => ⟨rfl, rfl⟩)⟩
set_option maxRecDepth 20000 in
theorem zc_X8_init_31 : cn_okq uw vwCl cdf cpr nst RX8 cX8_init (31, .return_, 1, 0, 0) := ⟨by decide +kernel, rfl, ⟨(fun _ h => (by cases h)), (fun _ h => (by cases h)), (fun _ h => (by cases h))⟩, trivial⟩
set_option maxRecDepth 20000 in
theorem zx_X8_init : cn_cd uw vwCl cdf cpr nst nX8_init := ⟨by decide +kernel, List.forall_mem_cons.mpr ⟨zc_X8_init_0, List.forall_mem_cons.mpr ⟨zc_X8_init_1, List.forall_mem_cons.mpr ⟨zc_X8_init_4, List.forall_mem_cons.mpr ⟨zc_X8_init_5, List.forall_mem_cons.mpr ⟨zc_X8_init_8, List.forall_mem_cons.mpr ⟨zc_X8_init_10, List.forall_mem_cons.mpr ⟨zc_X8_init_13, List.forall_mem_cons.mpr ⟨zc_X8_init_14, List.forall_mem_cons.mpr ⟨zc_X8_init_17, List.forall_mem_cons.mpr ⟨zc_X8_init_19, List.forall_mem_cons.mpr ⟨zc_X8_init_22, List.forall_mem_cons.mpr ⟨zc_X8_init_23, List.forall_mem_cons.mpr ⟨zc_X8_init_26, List.forall_mem_cons.mpr ⟨zc_X8_init_28, List.forall_mem_cons.mpr ⟨zc_X8_init_31, fun _ h => absurd h List.not_mem_nil⟩⟩⟩⟩⟩⟩⟩⟩⟩⟩⟩⟩⟩⟩⟩⟩
set_option maxRecDepth 20000 in
theorem zm_X8_init : cn_mk uw nX8_init := ⟨(uw_m1 62 rfl rfl), (uw_m1 4 rfl rfl), by decide +kernel, by decide +kernel, by decide +kernel, by decide, rfl⟩
set_option maxRecDepth 20000 in
theorem zc_X9_init_0 : cn_okq uw vwCl cdf cpr nst RX9 cX9_init (0, .aload_n 0, 1, 0, 0) := ⟨by decide +kernel, rfl, ⟨(fun _ h => (by cases h)), (fun _ h => (by cases h)), (fun _ h => (by cases h))⟩, trivial⟩
set_option maxRecDepth 20000 in
theorem zc_X9_init_1 : cn_okq uw vwCl cdf cpr nst RX9 cX9_init (1, .invokespecial 3, 3, 999, 0) := ⟨by decide +kernel, trivial, ⟨(fun _ h => (by cases h)), (fun _ h => (by cases h)), fun _ _ => rfl⟩, ⟨(uw_m2 26 rfl rfl), (uw_m1 22 rfl rfl), (uw_m1 23 rfl rfl)⟩⟩
set_option maxRecDepth 20000 in
theorem zc_X9_init_4 : cn_okq uw vwCl cdf cpr nst RX9 cX9_init (4, .aload_n 0, 1, 0, 0) := ⟨by decide +kernel, rfl, ⟨(fun _ h => (by cases h)), (fun _ h => (by cases h)), (fun _ h => (by cases h))⟩, trivial⟩
set_option maxRecDepth 20000 in
theorem zc_X9_init_5 : cn_okq uw vwCl cdf cpr nst RX9 cX9_init (5, .sipush 240, 3, 0, 0) := ⟨by decide +kernel, rfl, ⟨(fun _ h => (by cases h)), (fun _ h => (by cases h)), (fun _ h => (by cases h))⟩, trivial⟩
set_option maxRecDepth 20000 in
theorem zc_X9_init_8 : cn_okq uw vwCl cdf cpr nst RX9 cX9_init (8, .newarray .int, 2, 0, 240) := ⟨by decide +kernel, trivial, ⟨fun _ _ => rfl, (fun _ h => (by cases h)), (fun _ h => (by cases h))⟩, ⟨(uw_m1 51 rfl rfl), Or.inl ⟨rfl, rfl⟩⟩⟩
set_option maxRecDepth 20000 in
theorem zc_X9_init_10 : cn_okq uw vwCl cdf cpr nst RX9 cX9_init (10, .putfield 11, 3, 9, 1001) := ⟨by decide +kernel, rfl, ⟨(fun _ h => (by cases h)), (fun _ h => (by cases h)), (fun _ h => (by cases h))⟩, cn_lk_ref (k := 1) (C := RX9) (T := TX9) (N' := 8) rfl (by decide) (uw_m2 28 rfl rfl) rfl rfl (ty := tyX9 1) (by decide +kernel) (fun _ => ⟨rfl, rfl⟩)⟩
set_option maxRecDepth 20000 in
theorem zc_X9_init_13 : cn_okq uw vwCl cdf cpr nst RX9 cX9_init (13, .aload_n 0, 1, 0, 0) := ⟨by decide +kernel, rfl, ⟨(fun _ h => (by cases h)), (fun _ h => (by cases h)), (fun _ h => (by cases h))⟩, trivial⟩
set_option maxRecDepth 20000 in
theorem zc_X9_init_14 : cn_okq uw vwCl cdf cpr nst RX9 cX9_init (14, .sipush 240, 3, 0, 0) := ⟨by decide +kernel, rfl, ⟨(fun _ h => (by cases h)), (fun _ h => (by cases h)), (fun _ h => (by cases h))⟩, trivial⟩
set_option maxRecDepth 20000 in
theorem zc_X9_init_17 : cn_okq uw vwCl cdf cpr nst RX9 cX9_init (17, .newarray .int, 2, 0, 240) := ⟨by decide +kernel, trivial, ⟨fun _ _ => rfl, (fun _ h => (by cases h)), (fun _ h => (by cases h))⟩, ⟨(uw_m1 51 rfl rfl), Or.inl ⟨rfl, rfl⟩⟩⟩
set_option maxRecDepth 20000 in
theorem zc_X9_init_19 : cn_okq uw vwCl cdf cpr nst RX9 cX9_init (19, .putfield 15, 3, 9, 1002) := ⟨by decide +kernel, rfl, ⟨(fun _ h => (by cases h)), (fun _ h => (by cases h)), (fun _ h => (by cases h))⟩, cn_lk_ref (k := 2) (C := RX9) (T := TX9) (N' := 8) rfl (by decide) (uw_m2 30 rfl rfl) rfl rfl (ty := tyX9 2) (by decide +kernel) (fun _ => ⟨rfl, rfl⟩)⟩
set_option maxRecDepth 20000 in
theorem zc_X9_init_22 : cn_okq uw vwCl cdf cpr nst RX9 cX9_init (22, .aload_n 0, 1, 0, 0) := ⟨by decide +kernel, rfl, ⟨(fun _ h => (by cases h)), (fun _ h => (by cases h)), (fun _ h => (by cases h))⟩, trivial⟩
set_option maxRecDepth 20000 in
theorem zc_X9_init_23 : cn_okq uw vwCl cdf cpr nst RX9 cX9_init (23, .sipush 240, 3, 0, 0) := ⟨by decide +kernel, rfl, ⟨(fun _ h => (by cases h)), (fun _ h => (by cases h)), (fun _ h => (by cases h))⟩, trivial⟩
set_option maxRecDepth 20000 in
theorem zc_X9_init_26 : cn_okq uw vwCl cdf cpr nst RX9 cX9_init (26, .newarray .int, 2, 0, 240) := ⟨by decide +kernel, trivial, ⟨fun _ _ => rfl, (fun _ h => (by cases h)), (fun _ h => (by cases h))⟩, ⟨(uw_m1 51 rfl rfl), Or.inl ⟨rfl, rfl⟩⟩⟩
set_option maxRecDepth 20000 in
theorem zc_X9_init_28 : cn_okq uw vwCl cdf cpr nst RX9 cX9_init (28, .putfield 18, 3, 9, 1003) := ⟨by decide +kernel, rfl, ⟨(fun _ h => (by cases h)), (fun _ h => (by cases h)), (fun _ h => (by cases h))⟩, cn_lk_ref (k := 3) (C := RX9) (T := TX9) (N' := 8) rfl (by decide) (uw_m2 32 rfl rfl) rfl rfl (ty := tyX9 3) (by decide +kernel) (fun _ => ⟨rfl, rfl⟩)⟩
set_option maxRecDepth 20000 in
theorem zc_X9_init_31 : cn_okq uw vwCl cdf cpr nst RX9 cX9_init (31, .aload_n 0, 1, 0, 0) := ⟨by decide +kernel, rfl, ⟨(fun _ h => (by cases h)), (fun _ h => (by cases h)), (fun _ h => (by cases h))⟩, trivial⟩
set_option maxRecDepth 20000 in
theorem zc_X9_init_32 : cn_okq uw vwCl cdf cpr nst RX9 cX9_init (32, .sipush 240, 3, 0, 0) := ⟨by decide +kernel, rfl, ⟨(fun _ h => (by cases h)), (fun _ h => (by cases h)), (fun _ h => (by cases h))⟩, trivial⟩
set_option maxRecDepth 20000 in
theorem zc_X9_init_35 : cn_okq uw vwCl cdf cpr nst RX9 cX9_init (35, .newarray .boolean, 2, 1, 240) := ⟨by decide +kernel, trivial, ⟨fun _ _ => rfl, (fun _ h => (by cases h)), (fun _ h => (by cases h))⟩, ⟨(uw_m1 186 rfl rfl), Or.inr (Or.inl ⟨rfl, rfl⟩)⟩⟩
set_option maxRecDepth 20000 in
theorem zc_X9_init_37 : cn_okq uw vwCl cdf cpr nst RX9 cX9_init (37, .putfield 21, 3, 9, 1004) := ⟨by decide +kernel, rfl, ⟨(fun _ h => (by cases h)), (fun _ h => (by cases h)), (fun _ h => (by cases h))⟩, cn_lk_ref (k := 4) (C := RX9) (T := TX9) (N' := 8) rfl (by decide) (uw_m2 34 rfl rfl) rfl rfl (ty := tyX9 4) (by decide +kernel) (fun _ => ⟨rfl, rfl⟩)⟩
set_option maxRecDepth 20000 in
theorem zc_X9_init_40 : cn_okq uw vwCl cdf cpr nst RX9 cX9_init (40, .aload_n 0, 1, 0, 0) := ⟨by decide +kernel, rfl, ⟨(fun _ h => (by cases h)), (fun _ h => (by cases h)), (fun _ h => (by cases h))⟩, trivial⟩
set_option maxRecDepth 20000 in
theorem zc_X9_init_41 : cn_okq uw vwCl cdf cpr nst RX9 cX9_init (41, .sipush 240, 3, 0, 0) := ⟨by decide +kernel, rfl, ⟨(fun _ h => (by cases h)), (fun _ h => (by cases h)), (fun _ h => (by cases h))⟩, trivial⟩
set_option maxRecDepth 20000 in
theorem zc_X9_init_44 : cn_okq uw vwCl cdf cpr nst RX9 cX9_init (44, .newarray .boolean, 2, 1, 240) := ⟨by decide +kernel, trivial, ⟨fun _ _ => rfl, (fun _ h => (by cases h)), (fun _ h => (by cases h))⟩, ⟨(uw_m1 186 rfl rfl), Or.inr (Or.inl ⟨rfl, rfl⟩)⟩⟩
set_option maxRecDepth 20000 in
theorem zc_X9_init_46 : cn_okq uw vwCl cdf cpr nst RX9 cX9_init (46, .putfield 25, 3, 9, 1005) := ⟨by decide +kernel, rfl, ⟨(fun _ h => (by cases h)), (fun _ h => (by cases h)), (fun _ h => (by cases h))⟩, cn_lk_ref (k := 5) (C := RX9) (T := TX9) (N' := 8) rfl (by decide) (uw_m2 36 rfl rfl) rfl rfl (ty := tyX9 5) (by decide +kernel) (fun _ => ⟨rfl, rfl⟩)⟩
set_option maxRecDepth 20000 in
theorem zc_X9_init_49 : cn_okq uw vwCl cdf cpr nst RX9 cX9_init (49, .aload_n 0, 1, 0, 0) := ⟨by decide +kernel, rfl, ⟨(fun _ h => (by cases h)), (fun _ h => (by cases h)), (fun _ h => (by cases h))⟩, trivial⟩
set_option maxRecDepth 20000 in
theorem zc_X9_init_50 : cn_okq uw vwCl cdf cpr nst RX9 cX9_init (50, .aload_n 1, 1, 0, 0) := ⟨by decide +kernel, rfl, ⟨(fun _ h => (by cases h)), (fun _ h => (by cases h)), (fun _ h => (by cases h))⟩, trivial⟩
set_option maxRecDepth 20000 in
theorem zc_X9_init_51 : cn_okq uw vwCl cdf cpr nst RX9 cX9_init (51, .putfield 28, 3, 9, 1000) := ⟨by decide +kernel, rfl, ⟨(fun _ h => (by cases h)), (fun _ h => (by cases h)), (fun _ h => (by cases h))⟩, cn_lk_ref (k := 0) (C := RX9) (T := TX9) (N' := 8) rfl (by decide) (uw_m2 27 rfl rfl) rfl rfl (ty := tyX9 0) (by decide +kernel) (fun _ => ⟨rfl, rfl⟩)⟩
set_option maxRecDepth 20000 in
theorem zc_X9_init_54 : cn_okq uw vwCl cdf cpr nst RX9 cX9_init (54, .return_, 1, 0, 0) := ⟨by decide +kernel, rfl, ⟨(fun _ h => (by cases h)), (fun _ h => (by cases h)), (fun _ h => (by cases h))⟩, trivial⟩
set_option maxRecDepth 20000 in
theorem zx_X9_init : cn_cd uw vwCl cdf cpr nst nX9_init := ⟨by decide +kernel, List.forall_mem_cons.mpr ⟨zc_X9_init_0, List.forall_mem_cons.mpr ⟨zc_X9_init_1, List.forall_mem_cons.mpr ⟨zc_X9_init_4, List.forall_mem_cons.mpr ⟨zc_X9_init_5, List.forall_mem_cons.mpr ⟨zc_X9_init_8, List.forall_mem_cons.mpr ⟨zc_X9_init_10, List.forall_mem_cons.mpr ⟨zc_X9_init_13, List.forall_mem_cons.mpr ⟨zc_X9_init_14, List.forall_mem_cons.mpr ⟨zc_X9_init_17, List.forall_mem_cons.mpr ⟨zc_X9_init_19, List.forall_mem_cons.mpr ⟨zc_X9_init_22, List.forall_mem_cons.mpr ⟨zc_X9_init_23, List.forall_mem_cons.mpr ⟨zc_X9_init_26, List.forall_mem_cons.mpr ⟨zc_X9_init_28, List.forall_mem_cons.mpr ⟨zc_X9_init_31, List.forall_mem_cons.mpr ⟨zc_X9_init_32, List.forall_mem_cons.mpr ⟨zc_X9_init_35, List.forall_mem_cons.mpr ⟨zc_X9_init_37, List.forall_mem_cons.mpr ⟨zc_X9_init_40, List.forall_mem_cons.mpr ⟨zc_X9_init_41, List.forall_mem_cons.mpr ⟨zc_X9_init_44, List.forall_mem_cons.mpr ⟨zc_X9_init_46, List.forall_mem_cons.mpr ⟨zc_X9_init_49, List.forall_mem_cons.mpr ⟨zc_X9_init_50, List.forall_mem_cons.mpr ⟨zc_X9_init_51, List.forall_mem_cons.mpr ⟨zc_X9_init_54, fun _ h => absurd h List.not_mem_nil⟩⟩⟩⟩⟩⟩⟩⟩⟩⟩⟩⟩⟩⟩⟩⟩⟩⟩⟩⟩⟩⟩⟩⟩⟩⟩⟩
set_option maxRecDepth 20000 in
theorem zm_X9_init : cn_mk uw nX9_init := ⟨(uw_m2 25 rfl rfl), (uw_m1 9 rfl rfl), by decide +kernel, by decide +kernel, by decide +kernel, by decide, rfl⟩
set_option maxRecDepth 20000 in
theorem zc_X10_init_0 : cn_okq uw vwCl cdf cpr nst RX10 cX10_init (0, .aload_n 0, 1, 0, 0) := ⟨by decide +kernel, rfl, ⟨(fun _ h => (by cases h)), (fun _ h => (by cases h)), (fun _ h => (by cases h))⟩, trivial⟩
set_option maxRecDepth 20000 in
theorem zc_X10_init_1 : cn_okq uw vwCl cdf cpr nst RX10 cX10_init (1, .invokespecial 1, 3, 999, 0) := ⟨by decide +kernel, trivial, ⟨(fun _ h => (by cases h)), (fun _ h => (by cases h)), fun _ _ => rfl⟩, ⟨(uw_m1 21 rfl rfl), (uw_m1 22 rfl rfl), (uw_m1 23 rfl rfl)⟩⟩
set_option maxRecDepth 20000 in
theorem zc_X10_init_4 : cn_okq uw vwCl cdf cpr nst RX10 cX10_init (4, .aload_n 0, 1, 0, 0) := ⟨by decide +kernel, rfl, ⟨(fun _ h => (by cases h)), (fun _ h => (by cases h)), (fun _ h => (by cases h))⟩, trivial⟩
set_option maxRecDepth 20000 in
theorem zc_X10_init_5 : cn_okq uw vwCl cdf cpr nst RX10 cX10_init (5, .new 7, 3, 0, 5) := ⟨by decide +kernel, trivial, ⟨(fun _ h => (by cases h)), fun _ _ => rfl, (fun _ h => (by cases h))⟩, ⟨RX0, TX0, rfl, (uw_m1 24 rfl rfl), (uw_m1 25 rfl rfl), (uw_m1 2 rfl rfl), tyX0, tyX0_ok, by decide +kernel⟩⟩
set_option maxRecDepth 20000 in
theorem zc_X10_init_8 : cn_okq uw vwCl cdf cpr nst RX10 cX10_init (8, .dup, 1, 0, 0) := ⟨by decide +kernel, rfl, ⟨(fun _ h => (by cases h)), (fun _ h => (by cases h)), (fun _ h => (by cases h))⟩, trivial⟩
set_option maxRecDepth 20000 in
theorem zc_X10_init_9 : cn_okq uw vwCl cdf cpr nst RX10 cX10_init (9, .invokespecial 9, 3, 0, 0) := ⟨by decide +kernel, trivial, ⟨(fun _ h => (by cases h)), (fun _ h => (by cases h)), fun _ _ => rfl⟩, cn_lk_call (by decide) nX0_init rfl (uw_m1 27 rfl rfl) (by decide +kernel) (Or.inr ⟨RX10, by decide +kernel⟩)⟩
set_option maxRecDepth 20000 in
theorem zc_X10_init_12 : cn_okq uw vwCl cdf cpr nst RX10 cX10_init (12, .putfield 10, 3, 10, 1000) := ⟨by decide +kernel, rfl, ⟨(fun _ h => (by cases h)), (fun _ h => (by cases h)), (fun _ h => (by cases h))⟩, cn_lk_ref (k := 0) (C := RX10) (T := TX10) (N' := 8) rfl (by decide) (uw_m2 142 rfl rfl) rfl rfl (ty := tyX10 0) (by decide +kernel) (fun _ => ⟨rfl, rfl⟩)⟩
set_option maxRecDepth 20000 in
theorem zc_X10_init_15 : cn_okq uw vwCl cdf cpr nst RX10 cX10_init (15, .aload_n 0, 1, 0, 0) := ⟨by decide +kernel, rfl, ⟨(fun _ h => (by cases h)), (fun _ h => (by cases h)), (fun _ h => (by cases h))⟩, trivial⟩
set_option maxRecDepth 20000 in
theorem zc_X10_init_16 : cn_okq uw vwCl cdf cpr nst RX10 cX10_init (16, .new 16, 3, 2, 12) := ⟨by decide +kernel, trivial, ⟨(fun _ h => (by cases h)), fun _ _ => rfl, (fun _ h => (by cases h))⟩, ⟨RX2, TX2, rfl, (uw_m1 52 rfl rfl), (uw_m1 53 rfl rfl), (uw_m1 3 rfl rfl), tyX2, tyX2_ok, by decide +kernel⟩⟩
set_option maxRecDepth 20000 in
theorem zc_X10_init_19 : cn_okq uw vwCl cdf cpr nst RX10 cX10_init (19, .dup, 1, 0, 0) := ⟨by decide +kernel, rfl, ⟨(fun _ h => (by cases h)), (fun _ h => (by cases h)), (fun _ h => (by cases h))⟩, trivial⟩
set_option maxRecDepth 20000 in
theorem zc_X10_init_20 : cn_okq uw vwCl cdf cpr nst RX10 cX10_init (20, .invokespecial 18, 3, 2, 0) := ⟨by decide +kernel, trivial, ⟨(fun _ h => (by cases h)), (fun _ h => (by cases h)), fun _ _ => rfl⟩, cn_lk_call (by decide) nX2_init rfl (uw_m1 55 rfl rfl) (by decide +kernel) (Or.inr ⟨RX10, by decide +kernel⟩)⟩
set_option maxRecDepth 20000 in
theorem zc_X10_init_23 : cn_okq uw vwCl cdf cpr nst RX10 cX10_init (23, .putfield 19, 3, 10, 1001) := ⟨by decide +kernel, rfl, ⟨(fun _ h => (by cases h)), (fun _ h => (by cases h)), (fun _ h => (by cases h))⟩, cn_lk_ref (k := 1) (C := RX10) (T := TX10) (N' := 8) rfl (by decide) (uw_m2 143 rfl rfl) rfl rfl (ty := tyX10 1) (by decide +kernel) (fun _ => ⟨rfl, rfl⟩)⟩
set_option maxRecDepth 20000 in
theorem zc_X10_init_26 : cn_okq uw vwCl cdf cpr nst RX10 cX10_init (26, .aload_n 0, 1, 0, 0) := ⟨by decide +kernel, rfl, ⟨(fun _ h => (by cases h)), (fun _ h => (by cases h)), (fun _ h => (by cases h))⟩, trivial⟩
set_option maxRecDepth 20000 in
theorem zc_X10_init_27 : cn_okq uw vwCl cdf cpr nst RX10 cX10_init (27, .new 23, 3, 1, 8) := ⟨by decide +kernel, trivial, ⟨(fun _ h => (by cases h)), fun _ _ => rfl, (fun _ h => (by cases h))⟩, ⟨RX1, TX1, rfl, (uw_m1 147 rfl rfl), (uw_m1 148 rfl rfl), (uw_m1 5 rfl rfl), tyX1, tyX1_ok, by decide +kernel⟩⟩
set_option maxRecDepth 20000 in
theorem zc_X10_init_30 : cn_okq uw vwCl cdf cpr nst RX10 cX10_init (30, .dup, 1, 0, 0) := ⟨by decide +kernel, rfl, ⟨(fun _ h => (by cases h)), (fun _ h => (by cases h)), (fun _ h => (by cases h))⟩, trivial⟩
set_option maxRecDepth 20000 in
theorem zc_X10_init_31 : cn_okq uw vwCl cdf cpr nst RX10 cX10_init (31, .aload_n 0, 1, 0, 0) := ⟨by decide +kernel, rfl, ⟨(fun _ h => (by cases h)), (fun _ h => (by cases h)), (fun _ h => (by cases h))⟩, trivial⟩
set_option maxRecDepth 20000 in
theorem zc_X10_init_32 : cn_okq uw vwCl cdf cpr nst RX10 cX10_init (32, .getfield 19, 3, 10, 1) := ⟨by decide +kernel, rfl, ⟨(fun _ h => (by cases h)), (fun _ h => (by cases h)), (fun _ h => (by cases h))⟩, ⟨RX10, TX10, 8, rfl, by decide, (uw_m2 143 rfl rfl)⟩⟩
set_option maxRecDepth 20000 in
theorem zc_X10_init_35 : cn_okq uw vwCl cdf cpr nst RX10 cX10_init (35, .invokespecial 25, 3, 1, 1) := ⟨by decide +kernel, trivial, ⟨(fun _ h => (by cases h)), (fun _ h => (by cases h)), fun _ _ => rfl⟩, cn_lk_call (by decide) nX1_init rfl (uw_m1 150 rfl rfl) (by decide +kernel) (Or.inl (uw_m1 149 rfl rfl))⟩
set_option maxRecDepth 20000 in
theorem zc_X10_init_38 : cn_okq uw vwCl cdf cpr nst RX10 cX10_init (38, .putfield 28, 3, 10, 1002) := ⟨by decide +kernel, rfl, ⟨(fun _ h => (by cases h)), (fun _ h => (by cases h)), (fun _ h => (by cases h))⟩, cn_lk_ref (k := 2) (C := RX10) (T := TX10) (N' := 8) rfl (by decide) (uw_m2 144 rfl rfl) rfl rfl (ty := tyX10 2) (by decide +kernel) (fun _ => ⟨rfl, rfl⟩)⟩
set_option maxRecDepth 20000 in
theorem zc_X10_init_41 : cn_okq uw vwCl cdf cpr nst RX10 cX10_init (41, .aload_n 0, 1, 0, 0) := ⟨by decide +kernel, rfl, ⟨(fun _ h => (by cases h)), (fun _ h => (by cases h)), (fun _ h => (by cases h))⟩, trivial⟩
set_option maxRecDepth 20000 in
theorem zc_X10_init_42 : cn_okq uw vwCl cdf cpr nst RX10 cX10_init (42, .new 32, 3, 4, 5) := ⟨by decide +kernel, trivial, ⟨(fun _ h => (by cases h)), fun _ _ => rfl, (fun _ h => (by cases h))⟩, ⟨RX4, TX4, rfl, (uw_m1 187 rfl rfl), (uw_m1 188 rfl rfl), (uw_m1 6 rfl rfl), tyX4, tyX4_ok, by decide +kernel⟩⟩
set_option maxRecDepth 20000 in
theorem zc_X10_init_45 : cn_okq uw vwCl cdf cpr nst RX10 cX10_init (45, .dup, 1, 0, 0) := ⟨by decide +kernel, rfl, ⟨(fun _ h => (by cases h)), (fun _ h => (by cases h)), (fun _ h => (by cases h))⟩, trivial⟩
set_option maxRecDepth 20000 in
theorem zc_X10_init_46 : cn_okq uw vwCl cdf cpr nst RX10 cX10_init (46, .aload_n 0, 1, 0, 0) := ⟨by decide +kernel, rfl, ⟨(fun _ h => (by cases h)), (fun _ h => (by cases h)), (fun _ h => (by cases h))⟩, trivial⟩
set_option maxRecDepth 20000 in
theorem zc_X10_init_47 : cn_okq uw vwCl cdf cpr nst RX10 cX10_init (47, .getfield 19, 3, 10, 1) := ⟨by decide +kernel, rfl, ⟨(fun _ h => (by cases h)), (fun _ h => (by cases h)), (fun _ h => (by cases h))⟩, ⟨RX10, TX10, 8, rfl, by decide, (uw_m2 143 rfl rfl)⟩⟩
set_option maxRecDepth 20000 in
theorem zc_X10_init_50 : cn_okq uw vwCl cdf cpr nst RX10 cX10_init (50, .aload_n 0, 1, 0, 0) := ⟨by decide +kernel, rfl, ⟨(fun _ h => (by cases h)), (fun _ h => (by cases h)), (fun _ h => (by cases h))⟩, trivial⟩
set_option maxRecDepth 20000 in
theorem zc_X10_init_51 : cn_okq uw vwCl cdf cpr nst RX10 cX10_init (51, .getfield 28, 3, 10, 2) := ⟨by decide +kernel, rfl, ⟨(fun _ h => (by cases h)), (fun _ h => (by cases h)), (fun _ h => (by cases h))⟩, ⟨RX10, TX10, 8, rfl, by decide, (uw_m2 144 rfl rfl)⟩⟩
set_option maxRecDepth 20000 in
theorem zc_X10_init_54 : cn_okq uw vwCl cdf cpr nst RX10 cX10_init (54, .invokespecial 34, 3, 4, 2) := ⟨by decide +kernel, trivial, ⟨(fun _ h => (by cases h)), (fun _ h => (by cases h)), fun _ _ => rfl⟩, cn_lk_call (by decide) nX4_init rfl (uw_m1 190 rfl rfl) (by decide +kernel) (Or.inl (uw_m1 189 rfl rfl))⟩
set_option maxRecDepth 20000 in
theorem zc_X10_init_57 : cn_okq uw vwCl cdf cpr nst RX10 cX10_init (57, .putfield 37, 3, 10, 1003) := ⟨by decide +kernel, rfl, ⟨(fun _ h => (by cases h)), (fun _ h => (by cases h)), (fun _ h => (by cases h))⟩, cn_lk_ref (k := 3) (C := RX10) (T := TX10) (N' := 8) rfl (by decide) (uw_m2 145 rfl rfl) rfl rfl (ty := tyX10 3) (by decide +kernel) (fun _ => ⟨rfl, rfl⟩)⟩
set_option maxRecDepth 20000 in
theorem zc_X10_init_60 : cn_okq uw vwCl cdf cpr nst RX10 cX10_init (60, .aload_n 0, 1, 0, 0) := ⟨by decide +kernel, rfl, ⟨(fun _ h => (by cases h)), (fun _ h => (by cases h)), (fun _ h => (by cases h))⟩, trivial⟩
set_option maxRecDepth 20000 in
theorem zc_X10_init_61 : cn_okq uw vwCl cdf cpr nst RX10 cX10_init (61, .new 41, 3, 6, 9) := ⟨by decide +kernel, trivial, ⟨(fun _ h => (by cases h)), fun _ _ => rfl, (fun _ h => (by cases h))⟩, ⟨RX6, TX6, rfl, (uw_m1 212 rfl rfl), (uw_m1 213 rfl rfl), (uw_m1 7 rfl rfl), tyX6, tyX6_ok, by decide +kernel⟩⟩
set_option maxRecDepth 20000 in
theorem zc_X10_init_64 : cn_okq uw vwCl cdf cpr nst RX10 cX10_init (64, .dup, 1, 0, 0) := ⟨by decide +kernel, rfl, ⟨(fun _ h => (by cases h)), (fun _ h => (by cases h)), (fun _ h => (by cases h))⟩, trivial⟩
set_option maxRecDepth 20000 in
theorem zc_X10_init_65 : cn_okq uw vwCl cdf cpr nst RX10 cX10_init (65, .invokespecial 43, 3, 6, 0) := ⟨by decide +kernel, trivial, ⟨(fun _ h => (by cases h)), (fun _ h => (by cases h)), fun _ _ => rfl⟩, cn_lk_call (by decide) nX6_init rfl (uw_m1 215 rfl rfl) (by decide +kernel) (Or.inr ⟨RX10, by decide +kernel⟩)⟩
set_option maxRecDepth 20000 in
theorem zc_X10_init_68 : cn_okq uw vwCl cdf cpr nst RX10 cX10_init (68, .putfield 44, 3, 10, 1004) := ⟨by decide +kernel, rfl, ⟨(fun _ h => (by cases h)), (fun _ h => (by cases h)), (fun _ h => (by cases h))⟩, cn_lk_ref (k := 4) (C := RX10) (T := TX10) (N' := 8) rfl (by decide) (uw_m2 146 rfl rfl) rfl rfl (ty := tyX10 4) (by decide +kernel) (fun _ => ⟨rfl, rfl⟩)⟩
set_option maxRecDepth 20000 in
theorem zc_X10_init_71 : cn_okq uw vwCl cdf cpr nst RX10 cX10_init (71, .aload_n 0, 1, 0, 0) := ⟨by decide +kernel, rfl, ⟨(fun _ h => (by cases h)), (fun _ h => (by cases h)), (fun _ h => (by cases h))⟩, trivial⟩
set_option maxRecDepth 20000 in
theorem zc_X10_init_72 : cn_okq uw vwCl cdf cpr nst RX10 cX10_init (72, .new 48, 3, 3, 11) := ⟨by decide +kernel, trivial, ⟨(fun _ h => (by cases h)), fun _ _ => rfl, (fun _ h => (by cases h))⟩, ⟨RX3, TX3, rfl, (uw_m2 15 rfl rfl), (uw_m2 16 rfl rfl), (uw_m1 8 rfl rfl), tyX3, tyX3_ok, by decide +kernel⟩⟩
set_option maxRecDepth 20000 in
theorem zc_X10_init_75 : cn_okq uw vwCl cdf cpr nst RX10 cX10_init (75, .dup, 1, 0, 0) := ⟨by decide +kernel, rfl, ⟨(fun _ h => (by cases h)), (fun _ h => (by cases h)), (fun _ h => (by cases h))⟩, trivial⟩
set_option maxRecDepth 20000 in
theorem zc_X10_init_76 : cn_okq uw vwCl cdf cpr nst RX10 cX10_init (76, .aload_n 0, 1, 0, 0) := ⟨by decide +kernel, rfl, ⟨(fun _ h => (by cases h)), (fun _ h => (by cases h)), (fun _ h => (by cases h))⟩, trivial⟩
set_option maxRecDepth 20000 in
theorem zc_X10_init_77 : cn_okq uw vwCl cdf cpr nst RX10 cX10_init (77, .getfield 19, 3, 10, 1) := ⟨by decide +kernel, rfl, ⟨(fun _ h => (by cases h)), (fun _ h => (by cases h)), (fun _ h => (by cases h))⟩, ⟨RX10, TX10, 8, rfl, by decide, (uw_m2 143 rfl rfl)⟩⟩
set_option maxRecDepth 20000 in
theorem zc_X10_init_80 : cn_okq uw vwCl cdf cpr nst RX10 cX10_init (80, .aload_n 0, 1, 0, 0) := ⟨by decide +kernel, rfl, ⟨(fun _ h => (by cases h)), (fun _ h => (by cases h)), (fun _ h => (by cases h))⟩, trivial⟩
set_option maxRecDepth 20000 in
theorem zc_X10_init_81 : cn_okq uw vwCl cdf cpr nst RX10 cX10_init (81, .getfield 44, 3, 10, 4) := ⟨by decide +kernel, rfl, ⟨(fun _ h => (by cases h)), (fun _ h => (by cases h)), (fun _ h => (by cases h))⟩, ⟨RX10, TX10, 8, rfl, by decide, (uw_m2 146 rfl rfl)⟩⟩
set_option maxRecDepth 20000 in
theorem zc_X10_init_84 : cn_okq uw vwCl cdf cpr nst RX10 cX10_init (84, .invokespecial 50, 3, 3, 2) := ⟨by decide +kernel, trivial, ⟨(fun _ h => (by cases h)), (fun _ h => (by cases h)), fun _ _ => rfl⟩, cn_lk_call (by decide) nX3_init rfl (uw_m2 18 rfl rfl) (by decide +kernel) (Or.inl (uw_m2 17 rfl rfl))⟩
set_option maxRecDepth 20000 in
theorem zc_X10_init_87 : cn_okq uw vwCl cdf cpr nst RX10 cX10_init (87, .putfield 53, 3, 10, 1005) := ⟨by decide +kernel, rfl, ⟨(fun _ h => (by cases h)), (fun _ h => (by cases h)), (fun _ h => (by cases h))⟩, cn_lk_ref (k := 5) (C := RX10) (T := TX10) (N' := 8) rfl (by decide) (uw_m2 147 rfl rfl) rfl rfl (ty := tyX10 5) (by decide +kernel) (fun _ => ⟨rfl, rfl⟩)⟩
set_option maxRecDepth 20000 in
theorem zc_X10_init_90 : cn_okq uw vwCl cdf cpr nst RX10 cX10_init (90, .aload_n 0, 1, 0, 0) := ⟨by decide +kernel, rfl, ⟨(fun _ h => (by cases h)), (fun _ h => (by cases h)), (fun _ h => (by cases h))⟩, trivial⟩
set_option maxRecDepth 20000 in
theorem zc_X10_init_91 : cn_okq uw vwCl cdf cpr nst RX10 cX10_init (91, .new 57, 3, 7, 5) := ⟨by decide +kernel, trivial, ⟨(fun _ h => (by cases h)), fun _ _ => rfl, (fun _ h => (by cases h))⟩, ⟨RX7, TX7, rfl, (uw_m2 91 rfl rfl), (uw_m2 92 rfl rfl), (uw_m1 10 rfl rfl), tyX7, tyX7_ok, by decide +kernel⟩⟩
set_option maxRecDepth 20000 in
theorem zc_X10_init_94 : cn_okq uw vwCl cdf cpr nst RX10 cX10_init (94, .dup, 1, 0, 0) := ⟨by decide +kernel, rfl, ⟨(fun _ h => (by cases h)), (fun _ h => (by cases h)), (fun _ h => (by cases h))⟩, trivial⟩
set_option maxRecDepth 20000 in
theorem zc_X10_init_95 : cn_okq uw vwCl cdf cpr nst RX10 cX10_init (95, .aload_n 0, 1, 0, 0) := ⟨by decide +kernel, rfl, ⟨(fun _ h => (by cases h)), (fun _ h => (by cases h)), (fun _ h => (by cases h))⟩, trivial⟩
set_option maxRecDepth 20000 in
theorem zc_X10_init_96 : cn_okq uw vwCl cdf cpr nst RX10 cX10_init (96, .getfield 19, 3, 10, 1) := ⟨by decide +kernel, rfl, ⟨(fun _ h => (by cases h)), (fun _ h => (by cases h)), (fun _ h => (by cases h))⟩, ⟨RX10, TX10, 8, rfl, by decide, (uw_m2 143 rfl rfl)⟩⟩
set_option maxRecDepth 20000 in
theorem zc_X10_init_99 : cn_okq uw vwCl cdf cpr nst RX10 cX10_init (99, .aload_n 0, 1, 0, 0) := ⟨by decide +kernel, rfl, ⟨(fun _ h => (by cases h)), (fun _ h => (by cases h)), (fun _ h => (by cases h))⟩, trivial⟩
set_option maxRecDepth 20000 in
theorem zc_X10_init_100 : cn_okq uw vwCl cdf cpr nst RX10 cX10_init (100, .getfield 28, 3, 10, 2) := ⟨by decide +kernel, rfl, ⟨(fun _ h => (by cases h)), (fun _ h => (by cases h)), (fun _ h => (by cases h))⟩, ⟨RX10, TX10, 8, rfl, by decide, (uw_m2 144 rfl rfl)⟩⟩
set_option maxRecDepth 20000 in
theorem zc_X10_init_103 : cn_okq uw vwCl cdf cpr nst RX10 cX10_init (103, .invokespecial 59, 3, 7, 2) := ⟨by decide +kernel, trivial, ⟨(fun _ h => (by cases h)), (fun _ h => (by cases h)), fun _ _ => rfl⟩, cn_lk_call (by decide) nX7_init rfl (uw_m2 94 rfl rfl) (by decide +kernel) (Or.inl (uw_m2 93 rfl rfl))⟩
set_option maxRecDepth 20000 in
theorem zc_X10_init_106 : cn_okq uw vwCl cdf cpr nst RX10 cX10_init (106, .putfield 60, 3, 10, 1006) := ⟨by decide +kernel, rfl, ⟨(fun _ h => (by cases h)), (fun _ h => (by cases h)), (fun _ h => (by cases h))⟩, cn_lk_ref (k := 6) (C := RX10) (T := TX10) (N' := 8) rfl (by decide) (uw_m2 148 rfl rfl) rfl rfl (ty := tyX10 6) (by decide +kernel) (fun _ => ⟨rfl, rfl⟩)⟩
set_option maxRecDepth 20000 in
theorem zc_X10_init_109 : cn_okq uw vwCl cdf cpr nst RX10 cX10_init (109, .aload_n 0, 1, 0, 0) := ⟨by decide +kernel, rfl, ⟨(fun _ h => (by cases h)), (fun _ h => (by cases h)), (fun _ h => (by cases h))⟩, trivial⟩
set_option maxRecDepth 20000 in
theorem zc_X10_init_110 : cn_okq uw vwCl cdf cpr nst RX10 cX10_init (110, .new 64, 3, 5, 7) := ⟨by decide +kernel, trivial, ⟨(fun _ h => (by cases h)), fun _ _ => rfl, (fun _ h => (by cases h))⟩, ⟨RX5, TX5, rfl, (uw_m2 114 rfl rfl), (uw_m2 115 rfl rfl), (uw_m1 11 rfl rfl), tyX5, tyX5_ok, by decide +kernel⟩⟩
set_option maxRecDepth 20000 in
theorem zc_X10_init_113 : cn_okq uw vwCl cdf cpr nst RX10 cX10_init (113, .dup, 1, 0, 0) := ⟨by decide +kernel, rfl, ⟨(fun _ h => (by cases h)), (fun _ h => (by cases h)), (fun _ h => (by cases h))⟩, trivial⟩
set_option maxRecDepth 20000 in
theorem zc_X10_init_114 : cn_okq uw vwCl cdf cpr nst RX10 cX10_init (114, .aload_n 0, 1, 0, 0) := ⟨by decide +kernel, rfl, ⟨(fun _ h => (by cases h)), (fun _ h => (by cases h)), (fun _ h => (by cases h))⟩, trivial⟩
set_option maxRecDepth 20000 in
theorem zc_X10_init_115 : cn_okq uw vwCl cdf cpr nst RX10 cX10_init (115, .getfield 19, 3, 10, 1) := ⟨by decide +kernel, rfl, ⟨(fun _ h => (by cases h)), (fun _ h => (by cases h)), (fun _ h => (by cases h))⟩, ⟨RX10, TX10, 8, rfl, by decide, (uw_m2 143 rfl rfl)⟩⟩
set_option maxRecDepth 20000 in
theorem zc_X10_init_118 : cn_okq uw vwCl cdf cpr nst RX10 cX10_init (118, .invokespecial 66, 3, 5, 1) := ⟨by decide +kernel, trivial, ⟨(fun _ h => (by cases h)), (fun _ h => (by cases h)), fun _ _ => rfl⟩, cn_lk_call (by decide) nX5_init rfl (uw_m2 117 rfl rfl) (by decide +kernel) (Or.inl (uw_m2 116 rfl rfl))⟩
set_option maxRecDepth 20000 in
theorem zc_X10_init_121 : cn_okq uw vwCl cdf cpr nst RX10 cX10_init (121, .putfield 67, 3, 10, 1007) := ⟨by decide +kernel, rfl, ⟨(fun _ h => (by cases h)), (fun _ h => (by cases h)), (fun _ h => (by cases h))⟩, cn_lk_ref (k := 7) (C := RX10) (T := TX10) (N' := 8) rfl (by decide) (uw_m2 149 rfl rfl) rfl rfl (ty := tyX10 7) (by decide +kernel) (fun _ => ⟨rfl, rfl⟩)⟩
set_option maxRecDepth 20000 in
theorem zc_X10_init_124 : cn_okq uw vwCl cdf cpr nst RX10 cX10_init (124, .return_, 1, 0, 0) := ⟨by decide +kernel, rfl, ⟨(fun _ h => (by cases h)), (fun _ h => (by cases h)), (fun _ h => (by cases h))⟩, trivial⟩
set_option maxRecDepth 20000 in
theorem zx_X10_init : cn_cd uw vwCl cdf cpr nst nX10_init := ⟨by decide +kernel, List.forall_mem_cons.mpr ⟨zc_X10_init_0, List.forall_mem_cons.mpr ⟨zc_X10_init_1, List.forall_mem_cons.mpr ⟨zc_X10_init_4, List.forall_mem_cons.mpr ⟨zc_X10_init_5, List.forall_mem_cons.mpr ⟨zc_X10_init_8, List.forall_mem_cons.mpr ⟨zc_X10_init_9, List.forall_mem_cons.mpr ⟨zc_X10_init_12, List.forall_mem_cons.mpr ⟨zc_X10_init_15, List.forall_mem_cons.mpr ⟨zc_X10_init_16, List.forall_mem_cons.mpr ⟨zc_X10_init_19, List.forall_mem_cons.mpr ⟨zc_X10_init_20, List.forall_mem_cons.mpr ⟨zc_X10_init_23, List.forall_mem_cons.mpr ⟨zc_X10_init_26, List.forall_mem_cons.mpr ⟨zc_X10_init_27, List.forall_mem_cons.mpr ⟨zc_X10_init_30, List.forall_mem_cons.mpr ⟨zc_X10_init_31, List.forall_mem_cons.mpr ⟨zc_X10_init_32, List.forall_mem_cons.mpr ⟨zc_X10_init_35, List.forall_mem_cons.mpr ⟨zc_X10_init_38, List.forall_mem_cons.mpr ⟨zc_X10_init_41, List.forall_mem_cons.mpr ⟨zc_X10_init_42, List.forall_mem_cons.mpr ⟨zc_X10_init_45, List.forall_mem_cons.mpr ⟨zc_X10_init_46, List.forall_mem_cons.mpr ⟨zc_X10_init_47, List.forall_mem_cons.mpr ⟨zc_X10_init_50, List.forall_mem_cons.mpr ⟨zc_X10_init_51, List.forall_mem_cons.mpr ⟨zc_X10_init_54, List.forall_mem_cons.mpr ⟨zc_X10_init_57, List.forall_mem_cons.mpr ⟨zc_X10_init_60, List.forall_mem_cons.mpr ⟨zc_X10_init_61, List.forall_mem_cons.mpr ⟨zc_X10_init_64, List.forall_mem_cons.mpr ⟨zc_X10_init_65, List.forall_mem_cons.mpr ⟨zc_X10_init_68, List.forall_mem_cons.mpr ⟨zc_X10_init_71, List.forall_mem_cons.mpr ⟨zc_X10_init_72, List.forall_mem_cons.mpr ⟨zc_X10_init_75, List.forall_mem_cons.mpr ⟨zc_X10_init_76, List.forall_mem_cons.mpr ⟨zc_X10_init_77, List.forall_mem_cons.mpr ⟨zc_X10_init_80, List.forall_mem_cons.mpr ⟨zc_X10_init_81, List.forall_mem_cons.mpr ⟨zc_X10_init_84, List.forall_mem_cons.mpr ⟨zc_X10_init_87, List.forall_mem_cons.mpr ⟨zc_X10_init_90, List.forall_mem_cons.mpr ⟨zc_X10_init_91, List.forall_mem_cons.mpr ⟨zc_X10_init_94, List.forall_mem_cons.mpr ⟨zc_X10_init_95, List.forall_mem_cons.mpr ⟨zc_X10_init_96, List.forall_mem_cons.mpr ⟨zc_X10_init_99, List.forall_mem_cons.mpr ⟨zc_X10_init_100, List.forall_mem_cons.mpr ⟨zc_X10_init_103, List.forall_mem_cons.mpr ⟨zc_X10_init_106, List.forall_mem_cons.mpr ⟨zc_X10_init_109, List.forall_mem_cons.mpr ⟨zc_X10_init_110, List.forall_mem_cons.mpr ⟨zc_X10_init_113, List.forall_mem_cons.mpr ⟨zc_X10_init_114, List.forall_mem_cons.mpr ⟨zc_X10_init_115, List.forall_mem_cons.mpr ⟨zc_X10_init_118, List.forall_mem_cons.mpr ⟨zc_X10_init_121, List.forall_mem_cons.mpr ⟨zc_X10_init_124, fun _ h => absurd h List.not_mem_nil⟩⟩⟩⟩⟩⟩⟩⟩⟩⟩⟩⟩⟩⟩⟩⟩⟩⟩⟩⟩⟩⟩⟩⟩⟩⟩⟩⟩⟩⟩⟩⟩⟩⟩⟩⟩⟩⟩⟩⟩⟩⟩⟩⟩⟩⟩⟩⟩⟩⟩⟩⟩⟩⟩⟩⟩⟩⟩⟩⟩
set_option maxRecDepth 20000 in
theorem zm_X10_init : cn_mk uw nX10_init := ⟨(uw_m1 20 rfl rfl), (uw_m1 1 rfl rfl), by decide +kernel, by decide +kernel, by decide +kernel, by decide, rfl⟩
set_option maxRecDepth 20000 in
theorem zc_X11_init_0 : cn_okq uw vwCl cdf cpr nst RX11 cX11_init (0, .aload_n 0, 1, 0, 0) := ⟨by decide +kernel, rfl, ⟨(fun _ h => (by cases h)), (fun _ h => (by cases h)), (fun _ h => (by cases h))⟩, trivial⟩
set_option maxRecDepth 20000 in
theorem zc_X11_init_1 : cn_okq uw vwCl cdf cpr nst RX11 cX11_init (1, .invokespecial 1, 3, 999, 0) := ⟨by decide +kernel, trivial, ⟨(fun _ h => (by cases h)), (fun _ h => (by cases h)), fun _ _ => rfl⟩, ⟨(uw_m5 127 rfl rfl), (uw_m1 22 rfl rfl), (uw_m1 23 rfl rfl)⟩⟩
set_option maxRecDepth 20000 in
theorem zc_X11_init_4 : cn_okq uw vwCl cdf cpr nst RX11 cX11_init (4, .aload_n 0, 1, 0, 0) := ⟨by decide +kernel, rfl, ⟨(fun _ h => (by cases h)), (fun _ h => (by cases h)), (fun _ h => (by cases h))⟩, trivial⟩
set_option maxRecDepth 20000 in
theorem zc_X11_init_5 : cn_okq uw vwCl cdf cpr nst RX11 cX11_init (5, .sipush 3000, 3, 0, 0) := ⟨by decide +kernel, rfl, ⟨(fun _ h => (by cases h)), (fun _ h => (by cases h)), (fun _ h => (by cases h))⟩, trivial⟩
set_option maxRecDepth 20000 in
theorem zc_X11_init_8 : cn_okq uw vwCl cdf cpr nst RX11 cX11_init (8, .newarray .int, 2, 0, 3000) := ⟨by decide +kernel, trivial, ⟨fun _ _ => rfl, (fun _ h => (by cases h)), (fun _ h => (by cases h))⟩, ⟨(uw_m1 51 rfl rfl), Or.inl ⟨rfl, rfl⟩⟩⟩
set_option maxRecDepth 20000 in
theorem zc_X11_init_10 : cn_okq uw vwCl cdf cpr nst RX11 cX11_init (10, .putfield 7, 3, 11, 1000) := ⟨by decide +kernel, rfl, ⟨(fun _ h => (by cases h)), (fun _ h => (by cases h)), (fun _ h => (by cases h))⟩, cn_lk_ref (k := 0) (C := RX11) (T := TX11) (N' := 74) rfl (by decide) (uw_m5 130 rfl rfl) rfl rfl (ty := tyX11 0) (by decide +kernel) (fun _ => ⟨rfl, rfl⟩)⟩
set_option maxRecDepth 20000 in
theorem zc_X11_init_13 : cn_okq uw vwCl cdf cpr nst RX11 cX11_init (13, .aload_n 0, 1, 0, 0) := ⟨by decide +kernel, rfl, ⟨(fun _ h => (by cases h)), (fun _ h => (by cases h)), (fun _ h => (by cases h))⟩, trivial⟩
set_option maxRecDepth 20000 in
theorem zc_X11_init_14 : cn_okq uw vwCl cdf cpr nst RX11 cX11_init (14, .bipush 40, 2, 0, 0) := ⟨by decide +kernel, rfl, ⟨(fun _ h => (by cases h)), (fun _ h => (by cases h)), (fun _ h => (by cases h))⟩, trivial⟩
set_option maxRecDepth 20000 in
theorem zc_X11_init_16 : cn_okq uw vwCl cdf cpr nst RX11 cX11_init (16, .newarray .int, 2, 0, 40) := ⟨by decide +kernel, trivial, ⟨fun _ _ => rfl, (fun _ h => (by cases h)), (fun _ h => (by cases h))⟩, ⟨(uw_m1 51 rfl rfl), Or.inl ⟨rfl, rfl⟩⟩⟩
set_option maxRecDepth 20000 in
theorem zc_X11_init_18 : cn_okq uw vwCl cdf cpr nst RX11 cX11_init (18, .putfield 13, 3, 11, 1002) := ⟨by decide +kernel, rfl, ⟨(fun _ h => (by cases h)), (fun _ h => (by cases h)), (fun _ h => (by cases h))⟩, cn_lk_ref (k := 2) (C := RX11) (T := TX11) (N' := 74) rfl (by decide) (uw_m5 132 rfl rfl) rfl rfl (ty := tyX11 2) (by decide +kernel) (fun _ => ⟨rfl, rfl⟩)⟩
set_option maxRecDepth 20000 in
theorem zc_X11_init_21 : cn_okq uw vwCl cdf cpr nst RX11 cX11_init (21, .aload_n 0, 1, 0, 0) := ⟨by decide +kernel, rfl, ⟨(fun _ h => (by cases h)), (fun _ h => (by cases h)), (fun _ h => (by cases h))⟩, trivial⟩
set_option maxRecDepth 20000 in
theorem zc_X11_init_22 : cn_okq uw vwCl cdf cpr nst RX11 cX11_init (22, .sipush 3000, 3, 0, 0) := ⟨by decide +kernel, rfl, ⟨(fun _ h => (by cases h)), (fun _ h => (by cases h)), (fun _ h => (by cases h))⟩, trivial⟩
set_option maxRecDepth 20000 in
theorem zc_X11_init_25 : cn_okq uw vwCl cdf cpr nst RX11 cX11_init (25, .newarray .int, 2, 0, 3000) := ⟨by decide +kernel, trivial, ⟨fun _ _ => rfl, (fun _ h => (by cases h)), (fun _ h => (by cases h))⟩, ⟨(uw_m1 51 rfl rfl), Or.inl ⟨rfl, rfl⟩⟩⟩
set_option maxRecDepth 20000 in
theorem zc_X11_init_27 : cn_okq uw vwCl cdf cpr nst RX11 cX11_init (27, .putfield 16, 3, 11, 1004) := ⟨by decide +kernel, rfl, ⟨(fun _ h => (by cases h)), (fun _ h => (by cases h)), (fun _ h => (by cases h))⟩, cn_lk_ref (k := 4) (C := RX11) (T := TX11) (N' := 74) rfl (by decide) (uw_m5 134 rfl rfl) rfl rfl (ty := tyX11 4) (by decide +kernel) (fun _ => ⟨rfl, rfl⟩)⟩
set_option maxRecDepth 20000 in
theorem zc_X11_init_30 : cn_okq uw vwCl cdf cpr nst RX11 cX11_init (30, .aload_n 0, 1, 0, 0) := ⟨by decide +kernel, rfl, ⟨(fun _ h => (by cases h)), (fun _ h => (by cases h)), (fun _ h => (by cases h))⟩, trivial⟩
set_option maxRecDepth 20000 in
theorem zc_X11_init_31 : cn_okq uw vwCl cdf cpr nst RX11 cX11_init (31, .sipush 3000, 3, 0, 0) := ⟨by decide +kernel, rfl, ⟨(fun _ h => (by cases h)), (fun _ h => (by cases h)), (fun _ h => (by cases h))⟩, trivial⟩
set_option maxRecDepth 20000 in
theorem zc_X11_init_34 : cn_okq uw vwCl cdf cpr nst RX11 cX11_init (34, .newarray .int, 2, 0, 3000) := ⟨by decide +kernel, trivial, ⟨fun _ _ => rfl, (fun _ h => (by cases h)), (fun _ h => (by cases h))⟩, ⟨(uw_m1 51 rfl rfl), Or.inl ⟨rfl, rfl⟩⟩⟩
set_option maxRecDepth 20000 in
theorem zc_X11_init_36 : cn_okq uw vwCl cdf cpr nst RX11 cX11_init (36, .putfield 19, 3, 11, 1011) := ⟨by decide +kernel, rfl, ⟨(fun _ h => (by cases h)), (fun _ h => (by cases h)), (fun _ h => (by cases h))⟩, cn_lk_ref (k := 11) (C := RX11) (T := TX11) (N' := 74) rfl (by decide) (uw_m5 141 rfl rfl) rfl rfl (ty := tyX11 11) (by decide +kernel) (fun _ => ⟨rfl, rfl⟩)⟩
set_option maxRecDepth 20000 in
theorem zc_X11_init_39 : cn_okq uw vwCl cdf cpr nst RX11 cX11_init (39, .aload_n 0, 1, 0, 0) := ⟨by decide +kernel, rfl, ⟨(fun _ h => (by cases h)), (fun _ h => (by cases h)), (fun _ h => (by cases h))⟩, trivial⟩
set_option maxRecDepth 20000 in
theorem zc_X11_init_40 : cn_okq uw vwCl cdf cpr nst RX11 cX11_init (40, .sipush 3000, 3, 0, 0) := ⟨by decide +kernel, rfl, ⟨(fun _ h => (by cases h)), (fun _ h => (by cases h)), (fun _ h => (by cases h))⟩, trivial⟩
set_option maxRecDepth 20000 in
theorem zc_X11_init_43 : cn_okq uw vwCl cdf cpr nst RX11 cX11_init (43, .newarray .int, 2, 0, 3000) := ⟨by decide +kernel, trivial, ⟨fun _ _ => rfl, (fun _ h => (by cases h)), (fun _ h => (by cases h))⟩, ⟨(uw_m1 51 rfl rfl), Or.inl ⟨rfl, rfl⟩⟩⟩
set_option maxRecDepth 20000 in
theorem zc_X11_init_45 : cn_okq uw vwCl cdf cpr nst RX11 cX11_init (45, .putfield 22, 3, 11, 1012) := ⟨by decide +kernel, rfl, ⟨(fun _ h => (by cases h)), (fun _ h => (by cases h)), (fun _ h => (by cases h))⟩, cn_lk_ref (k := 12) (C := RX11) (T := TX11) (N' := 74) rfl (by decide) (uw_m5 142 rfl rfl) rfl rfl (ty := tyX11 12) (by decide +kernel) (fun _ => ⟨rfl, rfl⟩)⟩
set_option maxRecDepth 20000 in
theorem zc_X11_init_48 : cn_okq uw vwCl cdf cpr nst RX11 cX11_init (48, .aload_n 0, 1, 0, 0) := ⟨by decide +kernel, rfl, ⟨(fun _ h => (by cases h)), (fun _ h => (by cases h)), (fun _ h => (by cases h))⟩, trivial⟩
set_option maxRecDepth 20000 in
theorem zc_X11_init_49 : cn_okq uw vwCl cdf cpr nst RX11 cX11_init (49, .bipush 40, 2, 0, 0) := ⟨by decide +kernel, rfl, ⟨(fun _ h => (by cases h)), (fun _ h => (by cases h)), (fun _ h => (by cases h))⟩, trivial⟩
set_option maxRecDepth 20000 in
theorem zc_X11_init_51 : cn_okq uw vwCl cdf cpr nst RX11 cX11_init (51, .newarray .int, 2, 0, 40) := ⟨by decide +kernel, trivial, ⟨fun _ _ => rfl, (fun _ h => (by cases h)), (fun _ h => (by cases h))⟩, ⟨(uw_m1 51 rfl rfl), Or.inl ⟨rfl, rfl⟩⟩⟩
set_option maxRecDepth 20000 in
theorem zc_X11_init_53 : cn_okq uw vwCl cdf cpr nst RX11 cX11_init (53, .putfield 25, 3, 11, 1013) := ⟨by decide +kernel, rfl, ⟨(fun _ h => (by cases h)), (fun _ h => (by cases h)), (fun _ h => (by cases h))⟩, cn_lk_ref (k := 13) (C := RX11) (T := TX11) (N' := 74) rfl (by decide) (uw_m5 143 rfl rfl) rfl rfl (ty := tyX11 13) (by decide +kernel) (fun _ => ⟨rfl, rfl⟩)⟩
set_option maxRecDepth 20000 in
theorem zc_X11_init_56 : cn_okq uw vwCl cdf cpr nst RX11 cX11_init (56, .aload_n 0, 1, 0, 0) := ⟨by decide +kernel, rfl, ⟨(fun _ h => (by cases h)), (fun _ h => (by cases h)), (fun _ h => (by cases h))⟩, trivial⟩
set_option maxRecDepth 20000 in
theorem zc_X11_init_57 : cn_okq uw vwCl cdf cpr nst RX11 cX11_init (57, .bipush 40, 2, 0, 0) := ⟨by decide +kernel, rfl, ⟨(fun _ h => (by cases h)), (fun _ h => (by cases h)), (fun _ h => (by cases h))⟩, trivial⟩
set_option maxRecDepth 20000 in
theorem zc_X11_init_59 : cn_okq uw vwCl cdf cpr nst RX11 cX11_init (59, .newarray .int, 2, 0, 40) := ⟨by decide +kernel, trivial, ⟨fun _ _ => rfl, (fun _ h => (by cases h)), (fun _ h => (by cases h))⟩, ⟨(uw_m1 51 rfl rfl), Or.inl ⟨rfl, rfl⟩⟩⟩
set_option maxRecDepth 20000 in
theorem zc_X11_init_61 : cn_okq uw vwCl cdf cpr nst RX11 cX11_init (61, .putfield 28, 3, 11, 1014) := ⟨by decide +kernel, rfl, ⟨(fun _ h => (by cases h)), (fun _ h => (by cases h)), (fun _ h => (by cases h))⟩, cn_lk_ref (k := 14) (C := RX11) (T := TX11) (N' := 74) rfl (by decide) (uw_m5 144 rfl rfl) rfl rfl (ty := tyX11 14) (by decide +kernel) (fun _ => ⟨rfl, rfl⟩)⟩
set_option maxRecDepth 20000 in
theorem zc_X11_init_64 : cn_okq uw vwCl cdf cpr nst RX11 cX11_init (64, .aload_n 0, 1, 0, 0) := ⟨by decide +kernel, rfl, ⟨(fun _ h => (by cases h)), (fun _ h => (by cases h)), (fun _ h => (by cases h))⟩, trivial⟩
set_option maxRecDepth 20000 in
theorem zc_X11_init_65 : cn_okq uw vwCl cdf cpr nst RX11 cX11_init (65, .sipush 3000, 3, 0, 0) := ⟨by decide +kernel, rfl, ⟨(fun _ h => (by cases h)), (fun _ h => (by cases h)), (fun _ h => (by cases h))⟩, trivial⟩
set_option maxRecDepth 20000 in
theorem zc_X11_init_68 : cn_okq uw vwCl cdf cpr nst RX11 cX11_init (68, .newarray .int, 2, 0, 3000) := ⟨by decide +kernel, trivial, ⟨fun _ _ => rfl, (fun _ h => (by cases h)), (fun _ h => (by cases h))⟩, ⟨(uw_m1 51 rfl rfl), Or.inl ⟨rfl, rfl⟩⟩⟩
set_option maxRecDepth 20000 in
theorem zc_X11_init_70 : cn_okq uw vwCl cdf cpr nst RX11 cX11_init (70, .putfield 31, 3, 11, 1015) := ⟨by decide +kernel, rfl, ⟨(fun _ h => (by cases h)), (fun _ h => (by cases h)), (fun _ h => (by cases h))⟩, cn_lk_ref (k := 15) (C := RX11) (T := TX11) (N' := 74) rfl (by decide) (uw_m5 145 rfl rfl) rfl rfl (ty := tyX11 15) (by decide +kernel) (fun _ => ⟨rfl, rfl⟩)⟩
set_option maxRecDepth 20000 in
theorem zc_X11_init_73 : cn_okq uw vwCl cdf cpr nst RX11 cX11_init (73, .aload_n 0, 1, 0, 0) := ⟨by decide +kernel, rfl, ⟨(fun _ h => (by cases h)), (fun _ h => (by cases h)), (fun _ h => (by cases h))⟩, trivial⟩
set_option maxRecDepth 20000 in
theorem zc_X11_init_74 : cn_okq uw vwCl cdf cpr nst RX11 cX11_init (74, .sipush 3001, 3, 0, 0) := ⟨by decide +kernel, rfl, ⟨(fun _ h => (by cases h)), (fun _ h => (by cases h)), (fun _ h => (by cases h))⟩, trivial⟩
set_option maxRecDepth 20000 in
theorem zc_X11_init_77 : cn_okq uw vwCl cdf cpr nst RX11 cX11_init (77, .newarray .int, 2, 0, 3001) := ⟨by decide +kernel, trivial, ⟨fun _ _ => rfl, (fun _ h => (by cases h)), (fun _ h => (by cases h))⟩, ⟨(uw_m1 51 rfl rfl), Or.inl ⟨rfl, rfl⟩⟩⟩
set_option maxRecDepth 20000 in
theorem zc_X11_init_79 : cn_okq uw vwCl cdf cpr nst RX11 cX11_init (79, .putfield 34, 3, 11, 1016) := ⟨by decide +kernel, rfl, ⟨(fun _ h => (by cases h)), (fun _ h => (by cases h)), (fun _ h => (by cases h))⟩, cn_lk_ref (k := 16) (C := RX11) (T := TX11) (N' := 74) rfl (by decide) (uw_m5 146 rfl rfl) rfl rfl (ty := tyX11 16) (by decide +kernel) (fun _ => ⟨rfl, rfl⟩)⟩
set_option maxRecDepth 20000 in
theorem zc_X11_init_82 : cn_okq uw vwCl cdf cpr nst RX11 cX11_init (82, .aload_n 0, 1, 0, 0) := ⟨by decide +kernel, rfl, ⟨(fun _ h => (by cases h)), (fun _ h => (by cases h)), (fun _ h => (by cases h))⟩, trivial⟩
set_option maxRecDepth 20000 in
theorem zc_X11_init_83 : cn_okq uw vwCl cdf cpr nst RX11 cX11_init (83, .sipush 3001, 3, 0, 0) := ⟨by decide +kernel, rfl, ⟨(fun _ h => (by cases h)), (fun _ h => (by cases h)), (fun _ h => (by cases h))⟩, trivial⟩
set_option maxRecDepth 20000 in
theorem zc_X11_init_86 : cn_okq uw vwCl cdf cpr nst RX11 cX11_init (86, .newarray .int, 2, 0, 3001) := ⟨by decide +kernel, trivial, ⟨fun _ _ => rfl, (fun _ h => (by cases h)), (fun _ h => (by cases h))⟩, ⟨(uw_m1 51 rfl rfl), Or.inl ⟨rfl, rfl⟩⟩⟩
set_option maxRecDepth 20000 in
theorem zc_X11_init_88 : cn_okq uw vwCl cdf cpr nst RX11 cX11_init (88, .putfield 37, 3, 11, 1017) := ⟨by decide +kernel, rfl, ⟨(fun _ h => (by cases h)), (fun _ h => (by cases h)), (fun _ h => (by cases h))⟩, cn_lk_ref (k := 17) (C := RX11) (T := TX11) (N' := 74) rfl (by decide) (uw_m5 147 rfl rfl) rfl rfl (ty := tyX11 17) (by decide +kernel) (fun _ => ⟨rfl, rfl⟩)⟩
set_option maxRecDepth 20000 in
theorem zc_X11_init_91 : cn_okq uw vwCl cdf cpr nst RX11 cX11_init (91, .aload_n 0, 1, 0, 0) := ⟨by decide +kernel, rfl, ⟨(fun _ h => (by cases h)), (fun _ h => (by cases h)), (fun _ h => (by cases h))⟩, trivial⟩
set_option maxRecDepth 20000 in
theorem zc_X11_init_92 : cn_okq uw vwCl cdf cpr nst RX11 cX11_init (92, .sipush 3000, 3, 0, 0) := ⟨by decide +kernel, rfl, ⟨(fun _ h => (by cases h)), (fun _ h => (by cases h)), (fun _ h => (by cases h))⟩, trivial⟩
set_option maxRecDepth 20000 in
theorem zc_X11_init_95 : cn_okq uw vwCl cdf cpr nst RX11 cX11_init (95, .newarray .int, 2, 0, 3000) := ⟨by decide +kernel, trivial, ⟨fun _ _ => rfl, (fun _ h => (by cases h)), (fun _ h => (by cases h))⟩, ⟨(uw_m1 51 rfl rfl), Or.inl ⟨rfl, rfl⟩⟩⟩
set_option maxRecDepth 20000 in
theorem zc_X11_init_97 : cn_okq uw vwCl cdf cpr nst RX11 cX11_init (97, .putfield 40, 3, 11, 1018) := ⟨by decide +kernel, rfl, ⟨(fun _ h => (by cases h)), (fun _ h => (by cases h)), (fun _ h => (by cases h))⟩, cn_lk_ref (k := 18) (C := RX11) (T := TX11) (N' := 74) rfl (by decide) (uw_m5 148 rfl rfl) rfl rfl (ty := tyX11 18) (by decide +kernel) (fun _ => ⟨rfl, rfl⟩)⟩
set_option maxRecDepth 20000 in
theorem zc_X11_init_100 : cn_okq uw vwCl cdf cpr nst RX11 cX11_init (100, .aload_n 0, 1, 0, 0) := ⟨by decide +kernel, rfl, ⟨(fun _ h => (by cases h)), (fun _ h => (by cases h)), (fun _ h => (by cases h))⟩, trivial⟩
set_option maxRecDepth 20000 in
theorem zc_X11_init_101 : cn_okq uw vwCl cdf cpr nst RX11 cX11_init (101, .sipush 3000, 3, 0, 0) := ⟨by decide +kernel, rfl, ⟨(fun _ h => (by cases h)), (fun _ h => (by cases h)), (fun _ h => (by cases h))⟩, trivial⟩
set_option maxRecDepth 20000 in
theorem zc_X11_init_104 : cn_okq uw vwCl cdf cpr nst RX11 cX11_init (104, .newarray .int, 2, 0, 3000) := ⟨by decide +kernel, trivial, ⟨fun _ _ => rfl, (fun _ h => (by cases h)), (fun _ h => (by cases h))⟩, ⟨(uw_m1 51 rfl rfl), Or.inl ⟨rfl, rfl⟩⟩⟩
set_option maxRecDepth 20000 in
theorem zc_X11_init_106 : cn_okq uw vwCl cdf cpr nst RX11 cX11_init (106, .putfield 43, 3, 11, 1019) := ⟨by decide +kernel, rfl, ⟨(fun _ h => (by cases h)), (fun _ h => (by cases h)), (fun _ h => (by cases h))⟩, cn_lk_ref (k := 19) (C := RX11) (T := TX11) (N' := 74) rfl (by decide) (uw_m5 149 rfl rfl) rfl rfl (ty := tyX11 19) (by decide +kernel) (fun _ => ⟨rfl, rfl⟩)⟩
set_option maxRecDepth 20000 in
theorem zc_X11_init_109 : cn_okq uw vwCl cdf cpr nst RX11 cX11_init (109, .aload_n 0, 1, 0, 0) := ⟨by decide +kernel, rfl, ⟨(fun _ h => (by cases h)), (fun _ h => (by cases h)), (fun _ h => (by cases h))⟩, trivial⟩
set_option maxRecDepth 20000 in
theorem zc_X11_init_110 : cn_okq uw vwCl cdf cpr nst RX11 cX11_init (110, .sipush 3400, 3, 0, 0) := ⟨by decide +kernel, rfl, ⟨(fun _ h => (by cases h)), (fun _ h => (by cases h)), (fun _ h => (by cases h))⟩, trivial⟩
set_option maxRecDepth 20000 in
theorem zc_X11_init_113 : cn_okq uw vwCl cdf cpr nst RX11 cX11_init (113, .newarray .int, 2, 0, 3400) := ⟨by decide +kernel, trivial, ⟨fun _ _ => rfl, (fun _ h => (by cases h)), (fun _ h => (by cases h))⟩, ⟨(uw_m1 51 rfl rfl), Or.inl ⟨rfl, rfl⟩⟩⟩
set_option maxRecDepth 20000 in
theorem zc_X11_init_115 : cn_okq uw vwCl cdf cpr nst RX11 cX11_init (115, .putfield 46, 3, 11, 1020) := ⟨by decide +kernel, rfl, ⟨(fun _ h => (by cases h)), (fun _ h => (by cases h)), (fun _ h => (by cases h))⟩, cn_lk_ref (k := 20) (C := RX11) (T := TX11) (N' := 74) rfl (by decide) (uw_m5 150 rfl rfl) rfl rfl (ty := tyX11 20) (by decide +kernel) (fun _ => ⟨rfl, rfl⟩)⟩
set_option maxRecDepth 20000 in
theorem zc_X11_init_118 : cn_okq uw vwCl cdf cpr nst RX11 cX11_init (118, .aload_n 0, 1, 0, 0) := ⟨by decide +kernel, rfl, ⟨(fun _ h => (by cases h)), (fun _ h => (by cases h)), (fun _ h => (by cases h))⟩, trivial⟩
set_option maxRecDepth 20000 in
theorem zc_X11_init_119 : cn_okq uw vwCl cdf cpr nst RX11 cX11_init (119, .sipush 3000, 3, 0, 0) := ⟨by decide +kernel, rfl, ⟨(fun _ h => (by cases h)), (fun _ h => (by cases h)), (fun _ h => (by cases h))⟩, trivial⟩
set_option maxRecDepth 20000 in
theorem zc_X11_init_122 : cn_okq uw vwCl cdf cpr nst RX11 cX11_init (122, .newarray .int, 2, 0, 3000) := ⟨by decide +kernel, trivial, ⟨fun _ _ => rfl, (fun _ h => (by cases h)), (fun _ h => (by cases h))⟩, ⟨(uw_m1 51 rfl rfl), Or.inl ⟨rfl, rfl⟩⟩⟩
set_option maxRecDepth 20000 in
theorem zc_X11_init_124 : cn_okq uw vwCl cdf cpr nst RX11 cX11_init (124, .putfield 49, 3, 11, 1021) := ⟨by decide +kernel, rfl, ⟨(fun _ h => (by cases h)), (fun _ h => (by cases h)), (fun _ h => (by cases h))⟩, cn_lk_ref (k := 21) (C := RX11) (T := TX11) (N' := 74) rfl (by decide) (uw_m5 151 rfl rfl) rfl rfl (ty := tyX11 21) (by decide +kernel) (fun _ => ⟨rfl, rfl⟩)⟩
set_option maxRecDepth 20000 in
theorem zc_X11_init_127 : cn_okq uw vwCl cdf cpr nst RX11 cX11_init (127, .aload_n 0, 1, 0, 0) := ⟨by decide +kernel, rfl, ⟨(fun _ h => (by cases h)), (fun _ h => (by cases h)), (fun _ h => (by cases h))⟩, trivial⟩
set_option maxRecDepth 20000 in
theorem zc_X11_init_128 : cn_okq uw vwCl cdf cpr nst RX11 cX11_init (128, .sipush 3000, 3, 0, 0) := ⟨by decide +kernel, rfl, ⟨(fun _ h => (by cases h)), (fun _ h => (by cases h)), (fun _ h => (by cases h))⟩, trivial⟩
set_option maxRecDepth 20000 in
theorem zc_X11_init_131 : cn_okq uw vwCl cdf cpr nst RX11 cX11_init (131, .newarray .boolean, 2, 1, 3000) := ⟨by decide +kernel, trivial, ⟨fun _ _ => rfl, (fun _ h => (by cases h)), (fun _ h => (by cases h))⟩, ⟨(uw_m1 186 rfl rfl), Or.inr (Or.inl ⟨rfl, rfl⟩)⟩⟩
set_option maxRecDepth 20000 in
theorem zc_X11_init_133 : cn_okq uw vwCl cdf cpr nst RX11 cX11_init (133, .putfield 52, 3, 11, 1025) := ⟨by decide +kernel, rfl, ⟨(fun _ h => (by cases h)), (fun _ h => (by cases h)), (fun _ h => (by cases h))⟩, cn_lk_ref (k := 25) (C := RX11) (T := TX11) (N' := 74) rfl (by decide) (uw_m5 155 rfl rfl) rfl rfl (ty := tyX11 25) (by decide +kernel) (fun _ => ⟨rfl, rfl⟩)⟩
set_option maxRecDepth 20000 in
theorem zc_X11_init_136 : cn_okq uw vwCl cdf cpr nst RX11 cX11_init (136, .aload_n 0, 1, 0, 0) := ⟨by decide +kernel, rfl, ⟨(fun _ h => (by cases h)), (fun _ h => (by cases h)), (fun _ h => (by cases h))⟩, trivial⟩
set_option maxRecDepth 20000 in
theorem zc_X11_init_137 : cn_okq uw vwCl cdf cpr nst RX11 cX11_init (137, .sipush 3000, 3, 0, 0) := ⟨by decide +kernel, rfl, ⟨(fun _ h => (by cases h)), (fun _ h => (by cases h)), (fun _ h => (by cases h))⟩, trivial⟩
set_option maxRecDepth 20000 in
theorem zc_X11_init_140 : cn_okq uw vwCl cdf cpr nst RX11 cX11_init (140, .newarray .int, 2, 0, 3000) := ⟨by decide +kernel, trivial, ⟨fun _ _ => rfl, (fun _ h => (by cases h)), (fun _ h => (by cases h))⟩, ⟨(uw_m1 51 rfl rfl), Or.inl ⟨rfl, rfl⟩⟩⟩
set_option maxRecDepth 20000 in
theorem zc_X11_init_142 : cn_okq uw vwCl cdf cpr nst RX11 cX11_init (142, .putfield 56, 3, 11, 1027) := ⟨by decide +kernel, rfl, ⟨(fun _ h => (by cases h)), (fun _ h => (by cases h)), (fun _ h => (by cases h))⟩, cn_lk_ref (k := 27) (C := RX11) (T := TX11) (N' := 74) rfl (by decide) (uw_m5 157 rfl rfl) rfl rfl (ty := tyX11 27) (by decide +kernel) (fun _ => ⟨rfl, rfl⟩)⟩
set_option maxRecDepth 20000 in
theorem zc_X11_init_145 : cn_okq uw vwCl cdf cpr nst RX11 cX11_init (145, .aload_n 0, 1, 0, 0) := ⟨by decide +kernel, rfl, ⟨(fun _ h => (by cases h)), (fun _ h => (by cases h)), (fun _ h => (by cases h))⟩, trivial⟩
set_option maxRecDepth 20000 in
theorem zc_X11_init_146 : cn_okq uw vwCl cdf cpr nst RX11 cX11_init (146, .sipush 3000, 3, 0, 0) := ⟨by decide +kernel, rfl, ⟨(fun _ h => (by cases h)), (fun _ h => (by cases h)), (fun _ h => (by cases h))⟩, trivial⟩
set_option maxRecDepth 20000 in
theorem zc_X11_init_149 : cn_okq uw vwCl cdf cpr nst RX11 cX11_init (149, .newarray .int, 2, 0, 3000) := ⟨by decide +kernel, trivial, ⟨fun _ _ => rfl, (fun _ h => (by cases h)), (fun _ h => (by cases h))⟩, ⟨(uw_m1 51 rfl rfl), Or.inl ⟨rfl, rfl⟩⟩⟩
set_option maxRecDepth 20000 in
theorem zc_X11_init_151 : cn_okq uw vwCl cdf cpr nst RX11 cX11_init (151, .putfield 59, 3, 11, 1028) := ⟨by decide +kernel, rfl, ⟨(fun _ h => (by cases h)), (fun _ h => (by cases h)), (fun _ h => (by cases h))⟩, cn_lk_ref (k := 28) (C := RX11) (T := TX11) (N' := 74) rfl (by decide) (uw_m5 158 rfl rfl) rfl rfl (ty := tyX11 28) (by decide +kernel) (fun _ => ⟨rfl, rfl⟩)⟩
set_option maxRecDepth 20000 in
theorem zc_X11_init_154 : cn_okq uw vwCl cdf cpr nst RX11 cX11_init (154, .aload_n 0, 1, 0, 0) := ⟨by decide +kernel, rfl, ⟨(fun _ h => (by cases h)), (fun _ h => (by cases h)), (fun _ h => (by cases h))⟩, trivial⟩
set_option maxRecDepth 20000 in
theorem zc_X11_init_155 : cn_okq uw vwCl cdf cpr nst RX11 cX11_init (155, .sipush 200, 3, 0, 0) := ⟨by decide +kernel, rfl, ⟨(fun _ h => (by cases h)), (fun _ h => (by cases h)), (fun _ h => (by cases h))⟩, trivial⟩
set_option maxRecDepth 20000 in
theorem zc_X11_init_158 : cn_okq uw vwCl cdf cpr nst RX11 cX11_init (158, .newarray .int, 2, 0, 200) := ⟨by decide +kernel, trivial, ⟨fun _ _ => rfl, (fun _ h => (by cases h)), (fun _ h => (by cases h))⟩, ⟨(uw_m1 51 rfl rfl), Or.inl ⟨rfl, rfl⟩⟩⟩
set_option maxRecDepth 20000 in
theorem zc_X11_init_160 : cn_okq uw vwCl cdf cpr nst RX11 cX11_init (160, .putfield 62, 3, 11, 1030) := ⟨by decide +kernel, rfl, ⟨(fun _ h => (by cases h)), (fun _ h => (by cases h)), (fun _ h => (by cases h))⟩, cn_lk_ref (k := 30) (C := RX11) (T := TX11) (N' := 74) rfl (by decide) (uw_m5 160 rfl rfl) rfl rfl (ty := tyX11 30) (by decide +kernel) (fun _ => ⟨rfl, rfl⟩)⟩
set_option maxRecDepth 20000 in
theorem zc_X11_init_163 : cn_okq uw vwCl cdf cpr nst RX11 cX11_init (163, .aload_n 0, 1, 0, 0) := ⟨by decide +kernel, rfl, ⟨(fun _ h => (by cases h)), (fun _ h => (by cases h)), (fun _ h => (by cases h))⟩, trivial⟩
set_option maxRecDepth 20000 in
theorem zc_X11_init_164 : cn_okq uw vwCl cdf cpr nst RX11 cX11_init (164, .sipush 3000, 3, 0, 0) := ⟨by decide +kernel, rfl, ⟨(fun _ h => (by cases h)), (fun _ h => (by cases h)), (fun _ h => (by cases h))⟩, trivial⟩
set_option maxRecDepth 20000 in
theorem zc_X11_init_167 : cn_okq uw vwCl cdf cpr nst RX11 cX11_init (167, .newarray .int, 2, 0, 3000) := ⟨by decide +kernel, trivial, ⟨fun _ _ => rfl, (fun _ h => (by cases h)), (fun _ h => (by cases h))⟩, ⟨(uw_m1 51 rfl rfl), Or.inl ⟨rfl, rfl⟩⟩⟩
set_option maxRecDepth 20000 in
theorem zc_X11_init_169 : cn_okq uw vwCl cdf cpr nst RX11 cX11_init (169, .putfield 65, 3, 11, 1034) := ⟨by decide +kernel, rfl, ⟨(fun _ h => (by cases h)), (fun _ h => (by cases h)), (fun _ h => (by cases h))⟩, cn_lk_ref (k := 34) (C := RX11) (T := TX11) (N' := 74) rfl (by decide) (uw_m5 164 rfl rfl) rfl rfl (ty := tyX11 34) (by decide +kernel) (fun _ => ⟨rfl, rfl⟩)⟩
set_option maxRecDepth 20000 in
theorem zc_X11_init_172 : cn_okq uw vwCl cdf cpr nst RX11 cX11_init (172, .aload_n 0, 1, 0, 0) := ⟨by decide +kernel, rfl, ⟨(fun _ h => (by cases h)), (fun _ h => (by cases h)), (fun _ h => (by cases h))⟩, trivial⟩
set_option maxRecDepth 20000 in
theorem zc_X11_init_173 : cn_okq uw vwCl cdf cpr nst RX11 cX11_init (173, .sipush 3000, 3, 0, 0) := ⟨by decide +kernel, rfl, ⟨(fun _ h => (by cases h)), (fun _ h => (by cases h)), (fun _ h => (by cases h))⟩, trivial⟩
set_option maxRecDepth 20000 in
theorem zc_X11_init_176 : cn_okq uw vwCl cdf cpr nst RX11 cX11_init (176, .newarray .int, 2, 0, 3000) := ⟨by decide +kernel, trivial, ⟨fun _ _ => rfl, (fun _ h => (by cases h)), (fun _ h => (by cases h))⟩, ⟨(uw_m1 51 rfl rfl), Or.inl ⟨rfl, rfl⟩⟩⟩
set_option maxRecDepth 20000 in
theorem zc_X11_init_178 : cn_okq uw vwCl cdf cpr nst RX11 cX11_init (178, .putfield 68, 3, 11, 1035) := ⟨by decide +kernel, rfl, ⟨(fun _ h => (by cases h)), (fun _ h => (by cases h)), (fun _ h => (by cases h))⟩, cn_lk_ref (k := 35) (C := RX11) (T := TX11) (N' := 74) rfl (by decide) (uw_m5 165 rfl rfl) rfl rfl (ty := tyX11 35) (by decide +kernel) (fun _ => ⟨rfl, rfl⟩)⟩
set_option maxRecDepth 20000 in
theorem zc_X11_init_181 : cn_okq uw vwCl cdf cpr nst RX11 cX11_init (181, .aload_n 0, 1, 0, 0) := ⟨by decide +kernel, rfl, ⟨(fun _ h => (by cases h)), (fun _ h => (by cases h)), (fun _ h => (by cases h))⟩, trivial⟩
set_option maxRecDepth 20000 in
theorem zc_X11_init_182 : cn_okq uw vwCl cdf cpr nst RX11 cX11_init (182, .sipush 3000, 3, 0, 0) := ⟨by decide +kernel, rfl, ⟨(fun _ h => (by cases h)), (fun _ h => (by cases h)), (fun _ h => (by cases h))⟩, trivial⟩
set_option maxRecDepth 20000 in
theorem zc_X11_init_185 : cn_okq uw vwCl cdf cpr nst RX11 cX11_init (185, .newarray .int, 2, 0, 3000) := ⟨by decide +kernel, trivial, ⟨fun _ _ => rfl, (fun _ h => (by cases h)), (fun _ h => (by cases h))⟩, ⟨(uw_m1 51 rfl rfl), Or.inl ⟨rfl, rfl⟩⟩⟩
set_option maxRecDepth 20000 in
theorem zc_X11_init_187 : cn_okq uw vwCl cdf cpr nst RX11 cX11_init (187, .putfield 71, 3, 11, 1036) := ⟨by decide +kernel, rfl, ⟨(fun _ h => (by cases h)), (fun _ h => (by cases h)), (fun _ h => (by cases h))⟩, cn_lk_ref (k := 36) (C := RX11) (T := TX11) (N' := 74) rfl (by decide) (uw_m5 166 rfl rfl) rfl rfl (ty := tyX11 36) (by decide +kernel) (fun _ => ⟨rfl, rfl⟩)⟩
set_option maxRecDepth 20000 in
theorem zc_X11_init_190 : cn_okq uw vwCl cdf cpr nst RX11 cX11_init (190, .aload_n 0, 1, 0, 0) := ⟨by decide +kernel, rfl, ⟨(fun _ h => (by cases h)), (fun _ h => (by cases h)), (fun _ h => (by cases h))⟩, trivial⟩
set_option maxRecDepth 20000 in
theorem zc_X11_init_191 : cn_okq uw vwCl cdf cpr nst RX11 cX11_init (191, .bipush 22, 2, 0, 0) := ⟨by decide +kernel, rfl, ⟨(fun _ h => (by cases h)), (fun _ h => (by cases h)), (fun _ h => (by cases h))⟩, trivial⟩
set_option maxRecDepth 20000 in
theorem zc_X11_init_193 : cn_okq uw vwCl cdf cpr nst RX11 cX11_init (193, .newarray .long, 2, 2, 22) := ⟨by decide +kernel, trivial, ⟨fun _ _ => rfl, (fun _ h => (by cases h)), (fun _ h => (by cases h))⟩, ⟨(uw_m2 14 rfl rfl), Or.inr (Or.inr ⟨rfl, rfl⟩)⟩⟩
set_option maxRecDepth 20000 in
theorem zc_X11_init_195 : cn_okq uw vwCl cdf cpr nst RX11 cX11_init (195, .putfield 74, 3, 11, 1039) := ⟨by decide +kernel, rfl, ⟨(fun _ h => (by cases h)), (fun _ h => (by cases h)), (fun _ h => (by cases h))⟩, cn_lk_ref (k := 39) (C := RX11) (T := TX11) (N' := 74) rfl (by decide) (uw_m5 169 rfl rfl) rfl rfl (ty := tyX11 39) (by decide +kernel) (fun _ => ⟨rfl, rfl⟩)⟩
set_option maxRecDepth 20000 in
theorem zc_X11_init_198 : cn_okq uw vwCl cdf cpr nst RX11 cX11_init (198, .aload_n 0, 1, 0, 0) := ⟨by decide +kernel, rfl, ⟨(fun _ h => (by cases h)), (fun _ h => (by cases h)), (fun _ h => (by cases h))⟩, trivial⟩
set_option maxRecDepth 20000 in
theorem zc_X11_init_199 : cn_okq uw vwCl cdf cpr nst RX11 cX11_init (199, .bipush 22, 2, 0, 0) := ⟨by decide +kernel, rfl, ⟨(fun _ h => (by cases h)), (fun _ h => (by cases h)), (fun _ h => (by cases h))⟩, trivial⟩
set_option maxRecDepth 20000 in
theorem zc_X11_init_201 : cn_okq uw vwCl cdf cpr nst RX11 cX11_init (201, .newarray .long, 2, 2, 22) := ⟨by decide +kernel, trivial, ⟨fun _ _ => rfl, (fun _ h => (by cases h)), (fun _ h => (by cases h))⟩, ⟨(uw_m2 14 rfl rfl), Or.inr (Or.inr ⟨rfl, rfl⟩)⟩⟩
set_option maxRecDepth 20000 in
theorem zc_X11_init_203 : cn_okq uw vwCl cdf cpr nst RX11 cX11_init (203, .putfield 78, 3, 11, 1040) := ⟨by decide +kernel, rfl, ⟨(fun _ h => (by cases h)), (fun _ h => (by cases h)), (fun _ h => (by cases h))⟩, cn_lk_ref (k := 40) (C := RX11) (T := TX11) (N' := 74) rfl (by decide) (uw_m5 170 rfl rfl) rfl rfl (ty := tyX11 40) (by decide +kernel) (fun _ => ⟨rfl, rfl⟩)⟩
set_option maxRecDepth 20000 in
theorem zc_X11_init_206 : cn_okq uw vwCl cdf cpr nst RX11 cX11_init (206, .aload_n 0, 1, 0, 0) := ⟨by decide +kernel, rfl, ⟨(fun _ h => (by cases h)), (fun _ h => (by cases h)), (fun _ h => (by cases h))⟩, trivial⟩
set_option maxRecDepth 20000 in
theorem zc_X11_init_207 : cn_okq uw vwCl cdf cpr nst RX11 cX11_init (207, .bipush 22, 2, 0, 0) := ⟨by decide +kernel, rfl, ⟨(fun _ h => (by cases h)), (fun _ h => (by cases h)), (fun _ h => (by cases h))⟩, trivial⟩
set_option maxRecDepth 20000 in
theorem zc_X11_init_209 : cn_okq uw vwCl cdf cpr nst RX11 cX11_init (209, .newarray .boolean, 2, 1, 22) := ⟨by decide +kernel, trivial, ⟨fun _ _ => rfl, (fun _ h => (by cases h)), (fun _ h => (by cases h))⟩, ⟨(uw_m1 186 rfl rfl), Or.inr (Or.inl ⟨rfl, rfl⟩)⟩⟩
set_option maxRecDepth 20000 in
theorem zc_X11_init_211 : cn_okq uw vwCl cdf cpr nst RX11 cX11_init (211, .putfield 81, 3, 11, 1041) := ⟨by decide +kernel, rfl, ⟨(fun _ h => (by cases h)), (fun _ h => (by cases h)), (fun _ h => (by cases h))⟩, cn_lk_ref (k := 41) (C := RX11) (T := TX11) (N' := 74) rfl (by decide) (uw_m5 171 rfl rfl) rfl rfl (ty := tyX11 41) (by decide +kernel) (fun _ => ⟨rfl, rfl⟩)⟩
set_option maxRecDepth 20000 in
theorem zc_X11_init_214 : cn_okq uw vwCl cdf cpr nst RX11 cX11_init (214, .aload_n 0, 1, 0, 0) := ⟨by decide +kernel, rfl, ⟨(fun _ h => (by cases h)), (fun _ h => (by cases h)), (fun _ h => (by cases h))⟩, trivial⟩
set_option maxRecDepth 20000 in
theorem zc_X11_init_215 : cn_okq uw vwCl cdf cpr nst RX11 cX11_init (215, .bipush 22, 2, 0, 0) := ⟨by decide +kernel, rfl, ⟨(fun _ h => (by cases h)), (fun _ h => (by cases h)), (fun _ h => (by cases h))⟩, trivial⟩
set_option maxRecDepth 20000 in
theorem zc_X11_init_217 : cn_okq uw vwCl cdf cpr nst RX11 cX11_init (217, .newarray .int, 2, 0, 22) := ⟨by decide +kernel, trivial, ⟨fun _ _ => rfl, (fun _ h => (by cases h)), (fun _ h => (by cases h))⟩, ⟨(uw_m1 51 rfl rfl), Or.inl ⟨rfl, rfl⟩⟩⟩
set_option maxRecDepth 20000 in
theorem zc_X11_init_219 : cn_okq uw vwCl cdf cpr nst RX11 cX11_init (219, .putfield 84, 3, 11, 1042) := ⟨by decide +kernel, rfl, ⟨(fun _ h => (by cases h)), (fun _ h => (by cases h)), (fun _ h => (by cases h))⟩, cn_lk_ref (k := 42) (C := RX11) (T := TX11) (N' := 74) rfl (by decide) (uw_m5 172 rfl rfl) rfl rfl (ty := tyX11 42) (by decide +kernel) (fun _ => ⟨rfl, rfl⟩)⟩
set_option maxRecDepth 20000 in
theorem zc_X11_init_222 : cn_okq uw vwCl cdf cpr nst RX11 cX11_init (222, .aload_n 0, 1, 0, 0) := ⟨by decide +kernel, rfl, ⟨(fun _ h => (by cases h)), (fun _ h => (by cases h)), (fun _ h => (by cases h))⟩, trivial⟩
set_option maxRecDepth 20000 in
theorem zc_X11_init_223 : cn_okq uw vwCl cdf cpr nst RX11 cX11_init (223, .bipush 22, 2, 0, 0) := ⟨by decide +kernel, rfl, ⟨(fun _ h => (by cases h)), (fun _ h => (by cases h)), (fun _ h => (by cases h))⟩, trivial⟩
set_option maxRecDepth 20000 in
theorem zc_X11_init_225 : cn_okq uw vwCl cdf cpr nst RX11 cX11_init (225, .newarray .int, 2, 0, 22) := ⟨by decide +kernel, trivial, ⟨fun _ _ => rfl, (fun _ h => (by cases h)), (fun _ h => (by cases h))⟩, ⟨(uw_m1 51 rfl rfl), Or.inl ⟨rfl, rfl⟩⟩⟩
set_option maxRecDepth 20000 in
theorem zc_X11_init_227 : cn_okq uw vwCl cdf cpr nst RX11 cX11_init (227, .putfield 87, 3, 11, 1043) := ⟨by decide +kernel, rfl, ⟨(fun _ h => (by cases h)), (fun _ h => (by cases h)), (fun _ h => (by cases h))⟩, cn_lk_ref (k := 43) (C := RX11) (T := TX11) (N' := 74) rfl (by decide) (uw_m5 173 rfl rfl) rfl rfl (ty := tyX11 43) (by decide +kernel) (fun _ => ⟨rfl, rfl⟩)⟩
set_option maxRecDepth 20000 in
theorem zc_X11_init_230 : cn_okq uw vwCl cdf cpr nst RX11 cX11_init (230, .aload_n 0, 1, 0, 0) := ⟨by decide +kernel, rfl, ⟨(fun _ h => (by cases h)), (fun _ h => (by cases h)), (fun _ h => (by cases h))⟩, trivial⟩
set_option maxRecDepth 20000 in
theorem zc_X11_init_231 : cn_okq uw vwCl cdf cpr nst RX11 cX11_init (231, .bipush 22, 2, 0, 0) := ⟨by decide +kernel, rfl, ⟨(fun _ h => (by cases h)), (fun _ h => (by cases h)), (fun _ h => (by cases h))⟩, trivial⟩
set_option maxRecDepth 20000 in
theorem zc_X11_init_233 : cn_okq uw vwCl cdf cpr nst RX11 cX11_init (233, .newarray .int, 2, 0, 22) := ⟨by decide +kernel, trivial, ⟨fun _ _ => rfl, (fun _ h => (by cases h)), (fun _ h => (by cases h))⟩, ⟨(uw_m1 51 rfl rfl), Or.inl ⟨rfl, rfl⟩⟩⟩
set_option maxRecDepth 20000 in
theorem zc_X11_init_235 : cn_okq uw vwCl cdf cpr nst RX11 cX11_init (235, .putfield 90, 3, 11, 1044) := ⟨by decide +kernel, rfl, ⟨(fun _ h => (by cases h)), (fun _ h => (by cases h)), (fun _ h => (by cases h))⟩, cn_lk_ref (k := 44) (C := RX11) (T := TX11) (N' := 74) rfl (by decide) (uw_m5 174 rfl rfl) rfl rfl (ty := tyX11 44) (by decide +kernel) (fun _ => ⟨rfl, rfl⟩)⟩
set_option maxRecDepth 20000 in
theorem zc_X11_init_238 : cn_okq uw vwCl cdf cpr nst RX11 cX11_init (238, .aload_n 0, 1, 0, 0) := ⟨by decide +kernel, rfl, ⟨(fun _ h => (by cases h)), (fun _ h => (by cases h)), (fun _ h => (by cases h))⟩, trivial⟩
set_option maxRecDepth 20000 in
theorem zc_X11_init_239 : cn_okq uw vwCl cdf cpr nst RX11 cX11_init (239, .ldc 93, 2, 60000, 0) := ⟨by decide +kernel, rfl, ⟨(fun _ h => (by cases h)), (fun _ h => (by cases h)), (fun _ h => (by cases h))⟩, (uw_m5 128 rfl rfl)⟩
set_option maxRecDepth 20000 in
theorem zc_X11_init_241 : cn_okq uw vwCl cdf cpr nst RX11 cX11_init (241, .newarray .int, 2, 0, 60000) := ⟨by decide +kernel, trivial, ⟨fun _ _ => rfl, (fun _ h => (by cases h)), (fun _ h => (by cases h))⟩, ⟨(uw_m1 51 rfl rfl), Or.inl ⟨rfl, rfl⟩⟩⟩
set_option maxRecDepth 20000 in
theorem zc_X11_init_243 : cn_okq uw vwCl cdf cpr nst RX11 cX11_init (243, .putfield 94, 3, 11, 1047) := ⟨by decide +kernel, rfl, ⟨(fun _ h => (by cases h)), (fun _ h => (by cases h)), (fun _ h => (by cases h))⟩, cn_lk_ref (k := 47) (C := RX11) (T := TX11) (N' := 74) rfl (by decide) (uw_m5 177 rfl rfl) rfl rfl (ty := tyX11 47) (by decide +kernel) (fun _ => ⟨rfl, rfl⟩)⟩
set_option maxRecDepth 20000 in
theorem zc_X11_init_246 : cn_okq uw vwCl cdf cpr nst RX11 cX11_init (246, .aload_n 0, 1, 0, 0) := ⟨by decide +kernel, rfl, ⟨(fun _ h => (by cases h)), (fun _ h => (by cases h)), (fun _ h => (by cases h))⟩, trivial⟩
set_option maxRecDepth 20000 in
theorem zc_X11_init_247 : cn_okq uw vwCl cdf cpr nst RX11 cX11_init (247, .sipush 200, 3, 0, 0) := ⟨by decide +kernel, rfl, ⟨(fun _ h => (by cases h)), (fun _ h => (by cases h)), (fun _ h => (by cases h))⟩, trivial⟩
set_option maxRecDepth 20000 in
theorem zc_X11_init_250 : cn_okq uw vwCl cdf cpr nst RX11 cX11_init (250, .newarray .int, 2, 0, 200) := ⟨by decide +kernel, trivial, ⟨fun _ _ => rfl, (fun _ h => (by cases h)), (fun _ h => (by cases h))⟩, ⟨(uw_m1 51 rfl rfl), Or.inl ⟨rfl, rfl⟩⟩⟩
set_option maxRecDepth 20000 in
theorem zc_X11_init_252 : cn_okq uw vwCl cdf cpr nst RX11 cX11_init (252, .putfield 97, 3, 11, 1049) := ⟨by decide +kernel, rfl, ⟨(fun _ h => (by cases h)), (fun _ h => (by cases h)), (fun _ h => (by cases h))⟩, cn_lk_ref (k := 49) (C := RX11) (T := TX11) (N' := 74) rfl (by decide) (uw_m5 179 rfl rfl) rfl rfl (ty := tyX11 49) (by decide +kernel) (fun _ => ⟨rfl, rfl⟩)⟩
set_option maxRecDepth 20000 in
theorem zc_X11_init_255 : cn_okq uw vwCl cdf cpr nst RX11 cX11_init (255, .aload_n 0, 1, 0, 0) := ⟨by decide +kernel, rfl, ⟨(fun _ h => (by cases h)), (fun _ h => (by cases h)), (fun _ h => (by cases h))⟩, trivial⟩
set_option maxRecDepth 20000 in
theorem zc_X11_init_256 : cn_okq uw vwCl cdf cpr nst RX11 cX11_init (256, .sipush 25600, 3, 0, 0) := ⟨by decide +kernel, rfl, ⟨(fun _ h => (by cases h)), (fun _ h => (by cases h)), (fun _ h => (by cases h))⟩, trivial⟩
set_option maxRecDepth 20000 in
theorem zc_X11_init_259 : cn_okq uw vwCl cdf cpr nst RX11 cX11_init (259, .newarray .boolean, 2, 1, 25600) := ⟨by decide +kernel, trivial, ⟨fun _ _ => rfl, (fun _ h => (by cases h)), (fun _ h => (by cases h))⟩, ⟨(uw_m1 186 rfl rfl), Or.inr (Or.inl ⟨rfl, rfl⟩)⟩⟩
set_option maxRecDepth 20000 in
theorem zc_X11_init_261 : cn_okq uw vwCl cdf cpr nst RX11 cX11_init (261, .putfield 100, 3, 11, 1051) := ⟨by decide +kernel, rfl, ⟨(fun _ h => (by cases h)), (fun _ h => (by cases h)), (fun _ h => (by cases h))⟩, cn_lk_ref (k := 51) (C := RX11) (T := TX11) (N' := 74) rfl (by decide) (uw_m5 181 rfl rfl) rfl rfl (ty := tyX11 51) (by decide +kernel) (fun _ => ⟨rfl, rfl⟩)⟩
set_option maxRecDepth 20000 in
theorem zc_X11_init_264 : cn_okq uw vwCl cdf cpr nst RX11 cX11_init (264, .aload_n 0, 1, 0, 0) := ⟨by decide +kernel, rfl, ⟨(fun _ h => (by cases h)), (fun _ h => (by cases h)), (fun _ h => (by cases h))⟩, trivial⟩
set_option maxRecDepth 20000 in
theorem zc_X11_init_265 : cn_okq uw vwCl cdf cpr nst RX11 cX11_init (265, .bipush 22, 2, 0, 0) := ⟨by decide +kernel, rfl, ⟨(fun _ h => (by cases h)), (fun _ h => (by cases h)), (fun _ h => (by cases h))⟩, trivial⟩
set_option maxRecDepth 20000 in
theorem zc_X11_init_267 : cn_okq uw vwCl cdf cpr nst RX11 cX11_init (267, .newarray .int, 2, 0, 22) := ⟨by decide +kernel, trivial, ⟨fun _ _ => rfl, (fun _ h => (by cases h)), (fun _ h => (by cases h))⟩, ⟨(uw_m1 51 rfl rfl), Or.inl ⟨rfl, rfl⟩⟩⟩
set_option maxRecDepth 20000 in
theorem zc_X11_init_269 : cn_okq uw vwCl cdf cpr nst RX11 cX11_init (269, .putfield 103, 3, 11, 1054) := ⟨by decide +kernel, rfl, ⟨(fun _ h => (by cases h)), (fun _ h => (by cases h)), (fun _ h => (by cases h))⟩, cn_lk_ref (k := 54) (C := RX11) (T := TX11) (N' := 74) rfl (by decide) (uw_m5 184 rfl rfl) rfl rfl (ty := tyX11 54) (by decide +kernel) (fun _ => ⟨rfl, rfl⟩)⟩
set_option maxRecDepth 20000 in
theorem zc_X11_init_272 : cn_okq uw vwCl cdf cpr nst RX11 cX11_init (272, .aload_n 0, 1, 0, 0) := ⟨by decide +kernel, rfl, ⟨(fun _ h => (by cases h)), (fun _ h => (by cases h)), (fun _ h => (by cases h))⟩, trivial⟩
set_option maxRecDepth 20000 in
theorem zc_X11_init_273 : cn_okq uw vwCl cdf cpr nst RX11 cX11_init (273, .sipush 128, 3, 0, 0) := ⟨by decide +kernel, rfl, ⟨(fun _ h => (by cases h)), (fun _ h => (by cases h)), (fun _ h => (by cases h))⟩, trivial⟩
set_option maxRecDepth 20000 in
theorem zc_X11_init_276 : cn_okq uw vwCl cdf cpr nst RX11 cX11_init (276, .newarray .int, 2, 0, 128) := ⟨by decide +kernel, trivial, ⟨fun _ _ => rfl, (fun _ h => (by cases h)), (fun _ h => (by cases h))⟩, ⟨(uw_m1 51 rfl rfl), Or.inl ⟨rfl, rfl⟩⟩⟩
set_option maxRecDepth 20000 in
theorem zc_X11_init_278 : cn_okq uw vwCl cdf cpr nst RX11 cX11_init (278, .putfield 106, 3, 11, 1056) := ⟨by decide +kernel, rfl, ⟨(fun _ h => (by cases h)), (fun _ h => (by cases h)), (fun _ h => (by cases h))⟩, cn_lk_ref (k := 56) (C := RX11) (T := TX11) (N' := 74) rfl (by decide) (uw_m5 186 rfl rfl) rfl rfl (ty := tyX11 56) (by decide +kernel) (fun _ => ⟨rfl, rfl⟩)⟩
set_option maxRecDepth 20000 in
theorem zc_X11_init_281 : cn_okq uw vwCl cdf cpr nst RX11 cX11_init (281, .aload_n 0, 1, 0, 0) := ⟨by decide +kernel, rfl, ⟨(fun _ h => (by cases h)), (fun _ h => (by cases h)), (fun _ h => (by cases h))⟩, trivial⟩
set_option maxRecDepth 20000 in
theorem zc_X11_init_282 : cn_okq uw vwCl cdf cpr nst RX11 cX11_init (282, .sipush 128, 3, 0, 0) := ⟨by decide +kernel, rfl, ⟨(fun _ h => (by cases h)), (fun _ h => (by cases h)), (fun _ h => (by cases h))⟩, trivial⟩
set_option maxRecDepth 20000 in
theorem zc_X11_init_285 : cn_okq uw vwCl cdf cpr nst RX11 cX11_init (285, .newarray .long, 2, 2, 128) := ⟨by decide +kernel, trivial, ⟨fun _ _ => rfl, (fun _ h => (by cases h)), (fun _ h => (by cases h))⟩, ⟨(uw_m2 14 rfl rfl), Or.inr (Or.inr ⟨rfl, rfl⟩)⟩⟩
set_option maxRecDepth 20000 in
theorem zc_X11_init_287 : cn_okq uw vwCl cdf cpr nst RX11 cX11_init (287, .putfield 109, 3, 11, 1057) := ⟨by decide +kernel, rfl, ⟨(fun _ h => (by cases h)), (fun _ h => (by cases h)), (fun _ h => (by cases h))⟩, cn_lk_ref (k := 57) (C := RX11) (T := TX11) (N' := 74) rfl (by decide) (uw_m5 187 rfl rfl) rfl rfl (ty := tyX11 57) (by decide +kernel) (fun _ => ⟨rfl, rfl⟩)⟩
set_option maxRecDepth 20000 in
theorem zc_X11_init_290 : cn_okq uw vwCl cdf cpr nst RX11 cX11_init (290, .aload_n 0, 1, 0, 0) := ⟨by decide +kernel, rfl, ⟨(fun _ h => (by cases h)), (fun _ h => (by cases h)), (fun _ h => (by cases h))⟩, trivial⟩
set_option maxRecDepth 20000 in
theorem zc_X11_init_291 : cn_okq uw vwCl cdf cpr nst RX11 cX11_init (291, .sipush 128, 3, 0, 0) := ⟨by decide +kernel, rfl, ⟨(fun _ h => (by cases h)), (fun _ h => (by cases h)), (fun _ h => (by cases h))⟩, trivial⟩
set_option maxRecDepth 20000 in
theorem zc_X11_init_294 : cn_okq uw vwCl cdf cpr nst RX11 cX11_init (294, .newarray .long, 2, 2, 128) := ⟨by decide +kernel, trivial, ⟨fun _ _ => rfl, (fun _ h => (by cases h)), (fun _ h => (by cases h))⟩, ⟨(uw_m2 14 rfl rfl), Or.inr (Or.inr ⟨rfl, rfl⟩)⟩⟩
set_option maxRecDepth 20000 in
theorem zc_X11_init_296 : cn_okq uw vwCl cdf cpr nst RX11 cX11_init (296, .putfield 112, 3, 11, 1058) := ⟨by decide +kernel, rfl, ⟨(fun _ h => (by cases h)), (fun _ h => (by cases h)), (fun _ h => (by cases h))⟩, cn_lk_ref (k := 58) (C := RX11) (T := TX11) (N' := 74) rfl (by decide) (uw_m5 188 rfl rfl) rfl rfl (ty := tyX11 58) (by decide +kernel) (fun _ => ⟨rfl, rfl⟩)⟩
set_option maxRecDepth 20000 in
theorem zc_X11_init_299 : cn_okq uw vwCl cdf cpr nst RX11 cX11_init (299, .aload_n 0, 1, 0, 0) := ⟨by decide +kernel, rfl, ⟨(fun _ h => (by cases h)), (fun _ h => (by cases h)), (fun _ h => (by cases h))⟩, trivial⟩
set_option maxRecDepth 20000 in
theorem zc_X11_init_300 : cn_okq uw vwCl cdf cpr nst RX11 cX11_init (300, .sipush 400, 3, 0, 0) := ⟨by decide +kernel, rfl, ⟨(fun _ h => (by cases h)), (fun _ h => (by cases h)), (fun _ h => (by cases h))⟩, trivial⟩
set_option maxRecDepth 20000 in
theorem zc_X11_init_303 : cn_okq uw vwCl cdf cpr nst RX11 cX11_init (303, .newarray .boolean, 2, 1, 400) := ⟨by decide +kernel, trivial, ⟨fun _ _ => rfl, (fun _ h => (by cases h)), (fun _ h => (by cases h))⟩, ⟨(uw_m1 186 rfl rfl), Or.inr (Or.inl ⟨rfl, rfl⟩)⟩⟩
set_option maxRecDepth 20000 in
theorem zc_X11_init_305 : cn_okq uw vwCl cdf cpr nst RX11 cX11_init (305, .putfield 115, 3, 11, 1059) := ⟨by decide +kernel, rfl, ⟨(fun _ h => (by cases h)), (fun _ h => (by cases h)), (fun _ h => (by cases h))⟩, cn_lk_ref (k := 59) (C := RX11) (T := TX11) (N' := 74) rfl (by decide) (uw_m5 189 rfl rfl) rfl rfl (ty := tyX11 59) (by decide +kernel) (fun _ => ⟨rfl, rfl⟩)⟩
set_option maxRecDepth 20000 in
theorem zc_X11_init_308 : cn_okq uw vwCl cdf cpr nst RX11 cX11_init (308, .aload_n 0, 1, 0, 0) := ⟨by decide +kernel, rfl, ⟨(fun _ h => (by cases h)), (fun _ h => (by cases h)), (fun _ h => (by cases h))⟩, trivial⟩
set_option maxRecDepth 20000 in
theorem zc_X11_init_309 : cn_okq uw vwCl cdf cpr nst RX11 cX11_init (309, .sipush 400, 3, 0, 0) := ⟨by decide +kernel, rfl, ⟨(fun _ h => (by cases h)), (fun _ h => (by cases h)), (fun _ h => (by cases h))⟩, trivial⟩
set_option maxRecDepth 20000 in
theorem zc_X11_init_312 : cn_okq uw vwCl cdf cpr nst RX11 cX11_init (312, .newarray .long, 2, 2, 400) := ⟨by decide +kernel, trivial, ⟨fun _ _ => rfl, (fun _ h => (by cases h)), (fun _ h => (by cases h))⟩, ⟨(uw_m2 14 rfl rfl), Or.inr (Or.inr ⟨rfl, rfl⟩)⟩⟩
set_option maxRecDepth 20000 in
theorem zc_X11_init_314 : cn_okq uw vwCl cdf cpr nst RX11 cX11_init (314, .putfield 118, 3, 11, 1060) := ⟨by decide +kernel, rfl, ⟨(fun _ h => (by cases h)), (fun _ h => (by cases h)), (fun _ h => (by cases h))⟩, cn_lk_ref (k := 60) (C := RX11) (T := TX11) (N' := 74) rfl (by decide) (uw_m5 190 rfl rfl) rfl rfl (ty := tyX11 60) (by decide +kernel) (fun _ => ⟨rfl, rfl⟩)⟩
set_option maxRecDepth 20000 in
theorem zc_X11_init_317 : cn_okq uw vwCl cdf cpr nst RX11 cX11_init (317, .aload_n 0, 1, 0, 0) := ⟨by decide +kernel, rfl, ⟨(fun _ h => (by cases h)), (fun _ h => (by cases h)), (fun _ h => (by cases h))⟩, trivial⟩
set_option maxRecDepth 20000 in
theorem zc_X11_init_318 : cn_okq uw vwCl cdf cpr nst RX11 cX11_init (318, .sipush 400, 3, 0, 0) := ⟨by decide +kernel, rfl, ⟨(fun _ h => (by cases h)), (fun _ h => (by cases h)), (fun _ h => (by cases h))⟩, trivial⟩
set_option maxRecDepth 20000 in
theorem zc_X11_init_321 : cn_okq uw vwCl cdf cpr nst RX11 cX11_init (321, .newarray .long, 2, 2, 400) := ⟨by decide +kernel, trivial, ⟨fun _ _ => rfl, (fun _ h => (by cases h)), (fun _ h => (by cases h))⟩, ⟨(uw_m2 14 rfl rfl), Or.inr (Or.inr ⟨rfl, rfl⟩)⟩⟩
set_option maxRecDepth 20000 in
theorem zc_X11_init_323 : cn_okq uw vwCl cdf cpr nst RX11 cX11_init (323, .putfield 121, 3, 11, 1061) := ⟨by decide +kernel, rfl, ⟨(fun _ h => (by cases h)), (fun _ h => (by cases h)), (fun _ h => (by cases h))⟩, cn_lk_ref (k := 61) (C := RX11) (T := TX11) (N' := 74) rfl (by decide) (uw_m5 191 rfl rfl) rfl rfl (ty := tyX11 61) (by decide +kernel) (fun _ => ⟨rfl, rfl⟩)⟩
set_option maxRecDepth 20000 in
theorem zc_X11_init_326 : cn_okq uw vwCl cdf cpr nst RX11 cX11_init (326, .aload_n 0, 1, 0, 0) := ⟨by decide +kernel, rfl, ⟨(fun _ h => (by cases h)), (fun _ h => (by cases h)), (fun _ h => (by cases h))⟩, trivial⟩
set_option maxRecDepth 20000 in
theorem zc_X11_init_327 : cn_okq uw vwCl cdf cpr nst RX11 cX11_init (327, .sipush 400, 3, 0, 0) := ⟨by decide +kernel, rfl, ⟨(fun _ h => (by cases h)), (fun _ h => (by cases h)), (fun _ h => (by cases h))⟩, trivial⟩
set_option maxRecDepth 20000 in
theorem zc_X11_init_330 : cn_okq uw vwCl cdf cpr nst RX11 cX11_init (330, .newarray .long, 2, 2, 400) := ⟨by decide +kernel, trivial, ⟨fun _ _ => rfl, (fun _ h => (by cases h)), (fun _ h => (by cases h))⟩, ⟨(uw_m2 14 rfl rfl), Or.inr (Or.inr ⟨rfl, rfl⟩)⟩⟩
set_option maxRecDepth 20000 in
theorem zc_X11_init_332 : cn_okq uw vwCl cdf cpr nst RX11 cX11_init (332, .putfield 124, 3, 11, 1062) := ⟨by decide +kernel, rfl, ⟨(fun _ h => (by cases h)), (fun _ h => (by cases h)), (fun _ h => (by cases h))⟩, cn_lk_ref (k := 62) (C := RX11) (T := TX11) (N' := 74) rfl (by decide) (uw_m5 192 rfl rfl) rfl rfl (ty := tyX11 62) (by decide +kernel) (fun _ => ⟨rfl, rfl⟩)⟩
set_option maxRecDepth 20000 in
theorem zc_X11_init_335 : cn_okq uw vwCl cdf cpr nst RX11 cX11_init (335, .aload_n 0, 1, 0, 0) := ⟨by decide +kernel, rfl, ⟨(fun _ h => (by cases h)), (fun _ h => (by cases h)), (fun _ h => (by cases h))⟩, trivial⟩
set_option maxRecDepth 20000 in
theorem zc_X11_init_336 : cn_okq uw vwCl cdf cpr nst RX11 cX11_init (336, .sipush 400, 3, 0, 0) := ⟨by decide +kernel, rfl, ⟨(fun _ h => (by cases h)), (fun _ h => (by cases h)), (fun _ h => (by cases h))⟩, trivial⟩
set_option maxRecDepth 20000 in
theorem zc_X11_init_339 : cn_okq uw vwCl cdf cpr nst RX11 cX11_init (339, .newarray .long, 2, 2, 400) := ⟨by decide +kernel, trivial, ⟨fun _ _ => rfl, (fun _ h => (by cases h)), (fun _ h => (by cases h))⟩, ⟨(uw_m2 14 rfl rfl), Or.inr (Or.inr ⟨rfl, rfl⟩)⟩⟩
set_option maxRecDepth 20000 in
theorem zc_X11_init_341 : cn_okq uw vwCl cdf cpr nst RX11 cX11_init (341, .putfield 127, 3, 11, 1063) := ⟨by decide +kernel, rfl, ⟨(fun _ h => (by cases h)), (fun _ h => (by cases h)), (fun _ h => (by cases h))⟩, cn_lk_ref (k := 63) (C := RX11) (T := TX11) (N' := 74) rfl (by decide) (uw_m5 193 rfl rfl) rfl rfl (ty := tyX11 63) (by decide +kernel) (fun _ => ⟨rfl, rfl⟩)⟩
set_option maxRecDepth 20000 in
theorem zc_X11_init_344 : cn_okq uw vwCl cdf cpr nst RX11 cX11_init (344, .aload_n 0, 1, 0, 0) := ⟨by decide +kernel, rfl, ⟨(fun _ h => (by cases h)), (fun _ h => (by cases h)), (fun _ h => (by cases h))⟩, trivial⟩
set_option maxRecDepth 20000 in
theorem zc_X11_init_345 : cn_okq uw vwCl cdf cpr nst RX11 cX11_init (345, .bipush 40, 2, 0, 0) := ⟨by decide +kernel, rfl, ⟨(fun _ h => (by cases h)), (fun _ h => (by cases h)), (fun _ h => (by cases h))⟩, trivial⟩
set_option maxRecDepth 20000 in
theorem zc_X11_init_347 : cn_okq uw vwCl cdf cpr nst RX11 cX11_init (347, .newarray .boolean, 2, 1, 40) := ⟨by decide +kernel, trivial, ⟨fun _ _ => rfl, (fun _ h => (by cases h)), (fun _ h => (by cases h))⟩, ⟨(uw_m1 186 rfl rfl), Or.inr (Or.inl ⟨rfl, rfl⟩)⟩⟩
set_option maxRecDepth 20000 in
theorem zc_X11_init_349 : cn_okq uw vwCl cdf cpr nst RX11 cX11_init (349, .putfield 130, 3, 11, 1064) := ⟨by decide +kernel, rfl, ⟨(fun _ h => (by cases h)), (fun _ h => (by cases h)), (fun _ h => (by cases h))⟩, cn_lk_ref (k := 64) (C := RX11) (T := TX11) (N' := 74) rfl (by decide) (uw_m5 194 rfl rfl) rfl rfl (ty := tyX11 64) (by decide +kernel) (fun _ => ⟨rfl, rfl⟩)⟩
set_option maxRecDepth 20000 in
theorem zc_X11_init_352 : cn_okq uw vwCl cdf cpr nst RX11 cX11_init (352, .aload_n 0, 1, 0, 0) := ⟨by decide +kernel, rfl, ⟨(fun _ h => (by cases h)), (fun _ h => (by cases h)), (fun _ h => (by cases h))⟩, trivial⟩
set_option maxRecDepth 20000 in
theorem zc_X11_init_353 : cn_okq uw vwCl cdf cpr nst RX11 cX11_init (353, .sipush 3001, 3, 0, 0) := ⟨by decide +kernel, rfl, ⟨(fun _ h => (by cases h)), (fun _ h => (by cases h)), (fun _ h => (by cases h))⟩, trivial⟩
set_option maxRecDepth 20000 in
theorem zc_X11_init_356 : cn_okq uw vwCl cdf cpr nst RX11 cX11_init (356, .newarray .int, 2, 0, 3001) := ⟨by decide +kernel, trivial, ⟨fun _ _ => rfl, (fun _ h => (by cases h)), (fun _ h => (by cases h))⟩, ⟨(uw_m1 51 rfl rfl), Or.inl ⟨rfl, rfl⟩⟩⟩
set_option maxRecDepth 20000 in
theorem zc_X11_init_358 : cn_okq uw vwCl cdf cpr nst RX11 cX11_init (358, .putfield 133, 3, 11, 1065) := ⟨by decide +kernel, rfl, ⟨(fun _ h => (by cases h)), (fun _ h => (by cases h)), (fun _ h => (by cases h))⟩, cn_lk_ref (k := 65) (C := RX11) (T := TX11) (N' := 74) rfl (by decide) (uw_m5 195 rfl rfl) rfl rfl (ty := tyX11 65) (by decide +kernel) (fun _ => ⟨rfl, rfl⟩)⟩
set_option maxRecDepth 20000 in
theorem zc_X11_init_361 : cn_okq uw vwCl cdf cpr nst RX11 cX11_init (361, .aload_n 0, 1, 0, 0) := ⟨by decide +kernel, rfl, ⟨(fun _ h => (by cases h)), (fun _ h => (by cases h)), (fun _ h => (by cases h))⟩, trivial⟩
set_option maxRecDepth 20000 in
theorem zc_X11_init_362 : cn_okq uw vwCl cdf cpr nst RX11 cX11_init (362, .sipush 3001, 3, 0, 0) := ⟨by decide +kernel, rfl, ⟨(fun _ h => (by cases h)), (fun _ h => (by cases h)), (fun _ h => (by cases h))⟩, trivial⟩
set_option maxRecDepth 20000 in
theorem zc_X11_init_365 : cn_okq uw vwCl cdf cpr nst RX11 cX11_init (365, .newarray .int, 2, 0, 3001) := ⟨by decide +kernel, trivial, ⟨fun _ _ => rfl, (fun _ h => (by cases h)), (fun _ h => (by cases h))⟩, ⟨(uw_m1 51 rfl rfl), Or.inl ⟨rfl, rfl⟩⟩⟩
set_option maxRecDepth 20000 in
theorem zc_X11_init_367 : cn_okq uw vwCl cdf cpr nst RX11 cX11_init (367, .putfield 136, 3, 11, 1066) := ⟨by decide +kernel, rfl, ⟨(fun _ h => (by cases h)), (fun _ h => (by cases h)), (fun _ h => (by cases h))⟩, cn_lk_ref (k := 66) (C := RX11) (T := TX11) (N' := 74) rfl (by decide) (uw_m5 196 rfl rfl) rfl rfl (ty := tyX11 66) (by decide +kernel) (fun _ => ⟨rfl, rfl⟩)⟩
set_option maxRecDepth 20000 in
theorem zc_X11_init_370 : cn_okq uw vwCl cdf cpr nst RX11 cX11_init (370, .aload_n 0, 1, 0, 0) := ⟨by decide +kernel, rfl, ⟨(fun _ h => (by cases h)), (fun _ h => (by cases h)), (fun _ h => (by cases h))⟩, trivial⟩
set_option maxRecDepth 20000 in
theorem zc_X11_init_371 : cn_okq uw vwCl cdf cpr nst RX11 cX11_init (371, .ldc 139, 2, 65536, 0) := ⟨by decide +kernel, rfl, ⟨(fun _ h => (by cases h)), (fun _ h => (by cases h)), (fun _ h => (by cases h))⟩, (uw_m5 129 rfl rfl)⟩
set_option maxRecDepth 20000 in
theorem zc_X11_init_373 : cn_okq uw vwCl cdf cpr nst RX11 cX11_init (373, .newarray .int, 2, 0, 65536) := ⟨by decide +kernel, trivial, ⟨fun _ _ => rfl, (fun _ h => (by cases h)), (fun _ h => (by cases h))⟩, ⟨(uw_m1 51 rfl rfl), Or.inl ⟨rfl, rfl⟩⟩⟩
set_option maxRecDepth 20000 in
theorem zc_X11_init_375 : cn_okq uw vwCl cdf cpr nst RX11 cX11_init (375, .putfield 140, 3, 11, 1067) := ⟨by decide +kernel, rfl, ⟨(fun _ h => (by cases h)), (fun _ h => (by cases h)), (fun _ h => (by cases h))⟩, cn_lk_ref (k := 67) (C := RX11) (T := TX11) (N' := 74) rfl (by decide) (uw_m5 197 rfl rfl) rfl rfl (ty := tyX11 67) (by decide +kernel) (fun _ => ⟨rfl, rfl⟩)⟩
set_option maxRecDepth 20000 in
theorem zc_X11_init_378 : cn_okq uw vwCl cdf cpr nst RX11 cX11_init (378, .aload_n 0, 1, 0, 0) := ⟨by decide +kernel, rfl, ⟨(fun _ h => (by cases h)), (fun _ h => (by cases h)), (fun _ h => (by cases h))⟩, trivial⟩
set_option maxRecDepth 20000 in
theorem zc_X11_init_379 : cn_okq uw vwCl cdf cpr nst RX11 cX11_init (379, .sipush 256, 3, 0, 0) := ⟨by decide +kernel, rfl, ⟨(fun _ h => (by cases h)), (fun _ h => (by cases h)), (fun _ h => (by cases h))⟩, trivial⟩
set_option maxRecDepth 20000 in
theorem zc_X11_init_382 : cn_okq uw vwCl cdf cpr nst RX11 cX11_init (382, .newarray .int, 2, 0, 256) := ⟨by decide +kernel, trivial, ⟨fun _ _ => rfl, (fun _ h => (by cases h)), (fun _ h => (by cases h))⟩, ⟨(uw_m1 51 rfl rfl), Or.inl ⟨rfl, rfl⟩⟩⟩
set_option maxRecDepth 20000 in
theorem zc_X11_init_384 : cn_okq uw vwCl cdf cpr nst RX11 cX11_init (384, .putfield 143, 3, 11, 1068) := ⟨by decide +kernel, rfl, ⟨(fun _ h => (by cases h)), (fun _ h => (by cases h)), (fun _ h => (by cases h))⟩, cn_lk_ref (k := 68) (C := RX11) (T := TX11) (N' := 74) rfl (by decide) (uw_m5 198 rfl rfl) rfl rfl (ty := tyX11 68) (by decide +kernel) (fun _ => ⟨rfl, rfl⟩)⟩
set_option maxRecDepth 20000 in
theorem zc_X11_init_387 : cn_okq uw vwCl cdf cpr nst RX11 cX11_init (387, .aload_n 0, 1, 0, 0) := ⟨by decide +kernel, rfl, ⟨(fun _ h => (by cases h)), (fun _ h => (by cases h)), (fun _ h => (by cases h))⟩, trivial⟩
set_option maxRecDepth 20000 in
theorem zc_X11_init_388 : cn_okq uw vwCl cdf cpr nst RX11 cX11_init (388, .sipush 256, 3, 0, 0) := ⟨by decide +kernel, rfl, ⟨(fun _ h => (by cases h)), (fun _ h => (by cases h)), (fun _ h => (by cases h))⟩, trivial⟩
set_option maxRecDepth 20000 in
theorem zc_X11_init_391 : cn_okq uw vwCl cdf cpr nst RX11 cX11_init (391, .newarray .int, 2, 0, 256) := ⟨by decide +kernel, trivial, ⟨fun _ _ => rfl, (fun _ h => (by cases h)), (fun _ h => (by cases h))⟩, ⟨(uw_m1 51 rfl rfl), Or.inl ⟨rfl, rfl⟩⟩⟩
set_option maxRecDepth 20000 in
theorem zc_X11_init_393 : cn_okq uw vwCl cdf cpr nst RX11 cX11_init (393, .putfield 146, 3, 11, 1069) := ⟨by decide +kernel, rfl, ⟨(fun _ h => (by cases h)), (fun _ h => (by cases h)), (fun _ h => (by cases h))⟩, cn_lk_ref (k := 69) (C := RX11) (T := TX11) (N' := 74) rfl (by decide) (uw_m5 199 rfl rfl) rfl rfl (ty := tyX11 69) (by decide +kernel) (fun _ => ⟨rfl, rfl⟩)⟩
set_option maxRecDepth 20000 in
theorem zc_X11_init_396 : cn_okq uw vwCl cdf cpr nst RX11 cX11_init (396, .aload_n 0, 1, 0, 0) := ⟨by decide +kernel, rfl, ⟨(fun _ h => (by cases h)), (fun _ h => (by cases h)), (fun _ h => (by cases h))⟩, trivial⟩
set_option maxRecDepth 20000 in
theorem zc_X11_init_397 : cn_okq uw vwCl cdf cpr nst RX11 cX11_init (397, .sipush 3000, 3, 0, 0) := ⟨by decide +kernel, rfl, ⟨(fun _ h => (by cases h)), (fun _ h => (by cases h)), (fun _ h => (by cases h))⟩, trivial⟩
set_option maxRecDepth 20000 in
theorem zc_X11_init_400 : cn_okq uw vwCl cdf cpr nst RX11 cX11_init (400, .newarray .int, 2, 0, 3000) := ⟨by decide +kernel, trivial, ⟨fun _ _ => rfl, (fun _ h => (by cases h)), (fun _ h => (by cases h))⟩, ⟨(uw_m1 51 rfl rfl), Or.inl ⟨rfl, rfl⟩⟩⟩
set_option maxRecDepth 20000 in
theorem zc_X11_init_402 : cn_okq uw vwCl cdf cpr nst RX11 cX11_init (402, .putfield 149, 3, 11, 1072) := ⟨by decide +kernel, rfl, ⟨(fun _ h => (by cases h)), (fun _ h => (by cases h)), (fun _ h => (by cases h))⟩, cn_lk_ref (k := 72) (C := RX11) (T := TX11) (N' := 74) rfl (by decide) (uw_m5 202 rfl rfl) rfl rfl (ty := tyX11 72) (by decide +kernel) (fun _ => ⟨rfl, rfl⟩)⟩
set_option maxRecDepth 20000 in
theorem zc_X11_init_405 : cn_okq uw vwCl cdf cpr nst RX11 cX11_init (405, .aload_n 0, 1, 0, 0) := ⟨by decide +kernel, rfl, ⟨(fun _ h => (by cases h)), (fun _ h => (by cases h)), (fun _ h => (by cases h))⟩, trivial⟩
set_option maxRecDepth 20000 in
theorem zc_X11_init_406 : cn_okq uw vwCl cdf cpr nst RX11 cX11_init (406, .sipush 3000, 3, 0, 0) := ⟨by decide +kernel, rfl, ⟨(fun _ h => (by cases h)), (fun _ h => (by cases h)), (fun _ h => (by cases h))⟩, trivial⟩
set_option maxRecDepth 20000 in
theorem zc_X11_init_409 : cn_okq uw vwCl cdf cpr nst RX11 cX11_init (409, .newarray .int, 2, 0, 3000) := ⟨by decide +kernel, trivial, ⟨fun _ _ => rfl, (fun _ h => (by cases h)), (fun _ h => (by cases h))⟩, ⟨(uw_m1 51 rfl rfl), Or.inl ⟨rfl, rfl⟩⟩⟩
set_option maxRecDepth 20000 in
theorem zc_X11_init_411 : cn_okq uw vwCl cdf cpr nst RX11 cX11_init (411, .putfield 152, 3, 11, 1073) := ⟨by decide +kernel, rfl, ⟨(fun _ h => (by cases h)), (fun _ h => (by cases h)), (fun _ h => (by cases h))⟩, cn_lk_ref (k := 73) (C := RX11) (T := TX11) (N' := 74) rfl (by decide) (uw_m5 203 rfl rfl) rfl rfl (ty := tyX11 73) (by decide +kernel) (fun _ => ⟨rfl, rfl⟩)⟩
set_option maxRecDepth 20000 in
theorem zc_X11_init_414 : cn_okq uw vwCl cdf cpr nst RX11 cX11_init (414, .return_, 1, 0, 0) := ⟨by decide +kernel, rfl, ⟨(fun _ h => (by cases h)), (fun _ h => (by cases h)), (fun _ h => (by cases h))⟩, trivial⟩
set_option maxRecDepth 20000 in
theorem zx_X11_init : cn_cd uw vwCl cdf cpr nst nX11_init := ⟨by decide +kernel, List.forall_mem_cons.mpr ⟨zc_X11_init_0, List.forall_mem_cons.mpr ⟨zc_X11_init_1, List.forall_mem_cons.mpr ⟨zc_X11_init_4, List.forall_mem_cons.mpr ⟨zc_X11_init_5, List.forall_mem_cons.mpr ⟨zc_X11_init_8, List.forall_mem_cons.mpr ⟨zc_X11_init_10, List.forall_mem_cons.mpr ⟨zc_X11_init_13, List.forall_mem_cons.mpr ⟨zc_X11_init_14, List.forall_mem_cons.mpr ⟨zc_X11_init_16, List.forall_mem_cons.mpr ⟨zc_X11_init_18, List.forall_mem_cons.mpr ⟨zc_X11_init_21, List.forall_mem_cons.mpr ⟨zc_X11_init_22, List.forall_mem_cons.mpr ⟨zc_X11_init_25, List.forall_mem_cons.mpr ⟨zc_X11_init_27, List.forall_mem_cons.mpr ⟨zc_X11_init_30, List.forall_mem_cons.mpr ⟨zc_X11_init_31, List.forall_mem_cons.mpr ⟨zc_X11_init_34, List.forall_mem_cons.mpr ⟨zc_X11_init_36, List.forall_mem_cons.mpr ⟨zc_X11_init_39, List.forall_mem_cons.mpr ⟨zc_X11_init_40, List.forall_mem_cons.mpr ⟨zc_X11_init_43, List.forall_mem_cons.mpr ⟨zc_X11_init_45, List.forall_mem_cons.mpr ⟨zc_X11_init_48, List.forall_mem_cons.mpr ⟨zc_X11_init_49, List.forall_mem_cons.mpr ⟨zc_X11_init_51, List.forall_mem_cons.mpr ⟨zc_X11_init_53, List.forall_mem_cons.mpr ⟨zc_X11_init_56, List.forall_mem_cons.mpr ⟨zc_X11_init_57, List.forall_mem_cons.mpr ⟨zc_X11_init_59, List.forall_mem_cons.mpr ⟨zc_X11_init_61, List.forall_mem_cons.mpr ⟨zc_X11_init_64, List.forall_mem_cons.mpr ⟨zc_X11_init_65, List.forall_mem_cons.mpr ⟨zc_X11_init_68, List.forall_mem_cons.mpr ⟨zc_X11_init_70, List.forall_mem_cons.mpr ⟨zc_X11_init_73, List.forall_mem_cons.mpr ⟨zc_X11_init_74, List.forall_mem_cons.mpr ⟨zc_X11_init_77, List.forall_mem_cons.mpr ⟨zc_X11_init_79, List.forall_mem_cons.mpr ⟨zc_X11_init_82, List.forall_mem_cons.mpr ⟨zc_X11_init_83, List.forall_mem_cons.mpr ⟨zc_X11_init_86, List.forall_mem_cons.mpr ⟨zc_X11_init_88, List.forall_mem_cons.mpr ⟨zc_X11_init_91, List.forall_mem_cons.mpr ⟨zc_X11_init_92, List.forall_mem_cons.mpr ⟨zc_X11_init_95, List.forall_mem_cons.mpr ⟨zc_X11_init_97, List.forall_mem_cons.mpr ⟨zc_X11_init_100, List.forall_mem_cons.mpr ⟨zc_X11_init_101, List.forall_mem_cons.mpr ⟨zc_X11_init_104, List.forall_mem_cons.mpr ⟨zc_X11_init_106, List.forall_mem_cons.mpr ⟨zc_X11_init_109, List.forall_mem_cons.mpr ⟨zc_X11_init_110, List.forall_mem_cons.mpr ⟨zc_X11_init_113, List.forall_mem_cons.mpr ⟨zc_X11_init_115, List.forall_mem_cons.mpr ⟨zc_X11_init_118, List.forall_mem_cons.mpr ⟨zc_X11_init_119, List.forall_mem_cons.mpr ⟨zc_X11_init_122, List.forall_mem_cons.mpr ⟨zc_X11_init_124, List.forall_mem_cons.mpr ⟨zc_X11_init_127, List.forall_mem_cons.mpr ⟨zc_X11_init_128, List.forall_mem_cons.mpr ⟨zc_X11_init_131, List.forall_mem_cons.mpr ⟨zc_X11_init_133, List.forall_mem_cons.mpr ⟨zc_X11_init_136, List.forall_mem_cons.mpr ⟨zc_X11_init_137, List.forall_mem_cons.mpr ⟨zc_X11_init_140, List.forall_mem_cons.mpr ⟨zc_X11_init_142, List.forall_mem_cons.mpr ⟨zc_X11_init_145, List.forall_mem_cons.mpr ⟨zc_X11_init_146, List.forall_mem_cons.mpr ⟨zc_X11_init_149, List.forall_mem_cons.mpr ⟨zc_X11_init_151, List.forall_mem_cons.mpr ⟨zc_X11_init_154, List.forall_mem_cons.mpr ⟨zc_X11_init_155, List.forall_mem_cons.mpr ⟨zc_X11_init_158, List.forall_mem_cons.mpr ⟨zc_X11_init_160, List.forall_mem_cons.mpr ⟨zc_X11_init_163, List.forall_mem_cons.mpr ⟨zc_X11_init_164, List.forall_mem_cons.mpr ⟨zc_X11_init_167, List.forall_mem_cons.mpr ⟨zc_X11_init_169, List.forall_mem_cons.mpr ⟨zc_X11_init_172, List.forall_mem_cons.mpr ⟨zc_X11_init_173, List.forall_mem_cons.mpr ⟨zc_X11_init_176, List.forall_mem_cons.mpr ⟨zc_X11_init_178, List.forall_mem_cons.mpr ⟨zc_X11_init_181, List.forall_mem_cons.mpr ⟨zc_X11_init_182, List.forall_mem_cons.mpr ⟨zc_X11_init_185, List.forall_mem_cons.mpr ⟨zc_X11_init_187, List.forall_mem_cons.mpr ⟨zc_X11_init_190, List.forall_mem_cons.mpr ⟨zc_X11_init_191, List.forall_mem_cons.mpr ⟨zc_X11_init_193, List.forall_mem_cons.mpr ⟨zc_X11_init_195, List.forall_mem_cons.mpr ⟨zc_X11_init_198, List.forall_mem_cons.mpr ⟨zc_X11_init_199, List.forall_mem_cons.mpr ⟨zc_X11_init_201, List.forall_mem_cons.mpr ⟨zc_X11_init_203, List.forall_mem_cons.mpr ⟨zc_X11_init_206, List.forall_mem_cons.mpr ⟨zc_X11_init_207, List.forall_mem_cons.mpr ⟨zc_X11_init_209, List.forall_mem_cons.mpr ⟨zc_X11_init_211, List.forall_mem_cons.mpr ⟨zc_X11_init_214, List.forall_mem_cons.mpr ⟨zc_X11_init_215, List.forall_mem_cons.mpr ⟨zc_X11_init_217, List.forall_mem_cons.mpr ⟨zc_X11_init_219, List.forall_mem_cons.mpr ⟨zc_X11_init_222, List.forall_mem_cons.mpr ⟨zc_X11_init_223, List.forall_mem_cons.mpr ⟨zc_X11_init_225, List.forall_mem_cons.mpr ⟨zc_X11_init_227, List.forall_mem_cons.mpr ⟨zc_X11_init_230, List.forall_mem_cons.mpr ⟨zc_X11_init_231, List.forall_mem_cons.mpr ⟨zc_X11_init_233, List.forall_mem_cons.mpr ⟨zc_X11_init_235, List.forall_mem_cons.mpr ⟨zc_X11_init_238, List.forall_mem_cons.mpr ⟨zc_X11_init_239, List.forall_mem_cons.mpr ⟨zc_X11_init_241, List.forall_mem_cons.mpr ⟨zc_X11_init_243, List.forall_mem_cons.mpr ⟨zc_X11_init_246, List.forall_mem_cons.mpr ⟨zc_X11_init_247, List.forall_mem_cons.mpr ⟨zc_X11_init_250, List.forall_mem_cons.mpr ⟨zc_X11_init_252, List.forall_mem_cons.mpr ⟨zc_X11_init_255, List.forall_mem_cons.mpr ⟨zc_X11_init_256, List.forall_mem_cons.mpr ⟨zc_X11_init_259, List.forall_mem_cons.mpr ⟨zc_X11_init_261, List.forall_mem_cons.mpr ⟨zc_X11_init_264, List.forall_mem_cons.mpr ⟨zc_X11_init_265, List.forall_mem_cons.mpr ⟨zc_X11_init_267, List.forall_mem_cons.mpr ⟨zc_X11_init_269, List.forall_mem_cons.mpr ⟨zc_X11_init_272, List.forall_mem_cons.mpr ⟨zc_X11_init_273, List.forall_mem_cons.mpr ⟨zc_X11_init_276, List.forall_mem_cons.mpr ⟨zc_X11_init_278, List.forall_mem_cons.mpr ⟨zc_X11_init_281, List.forall_mem_cons.mpr ⟨zc_X11_init_282, List.forall_mem_cons.mpr ⟨zc_X11_init_285, List.forall_mem_cons.mpr ⟨zc_X11_init_287, List.forall_mem_cons.mpr ⟨zc_X11_init_290, List.forall_mem_cons.mpr ⟨zc_X11_init_291, List.forall_mem_cons.mpr ⟨zc_X11_init_294, List.forall_mem_cons.mpr ⟨zc_X11_init_296, List.forall_mem_cons.mpr ⟨zc_X11_init_299, List.forall_mem_cons.mpr ⟨zc_X11_init_300, List.forall_mem_cons.mpr ⟨zc_X11_init_303, List.forall_mem_cons.mpr ⟨zc_X11_init_305, List.forall_mem_cons.mpr ⟨zc_X11_init_308, List.forall_mem_cons.mpr ⟨zc_X11_init_309, List.forall_mem_cons.mpr ⟨zc_X11_init_312, List.forall_mem_cons.mpr ⟨zc_X11_init_314, List.forall_mem_cons.mpr ⟨zc_X11_init_317, List.forall_mem_cons.mpr ⟨zc_X11_init_318, List.forall_mem_cons.mpr ⟨zc_X11_init_321, List.forall_mem_cons.mpr ⟨zc_X11_init_323, List.forall_mem_cons.mpr ⟨zc_X11_init_326, List.forall_mem_cons.mpr ⟨zc_X11_init_327, List.forall_mem_cons.mpr ⟨zc_X11_init_330, List.forall_mem_cons.mpr ⟨zc_X11_init_332, List.forall_mem_cons.mpr ⟨zc_X11_init_335, List.forall_mem_cons.mpr ⟨zc_X11_init_336, List.forall_mem_cons.mpr ⟨zc_X11_init_339, List.forall_mem_cons.mpr ⟨zc_X11_init_341, List.forall_mem_cons.mpr ⟨zc_X11_init_344, List.forall_mem_cons.mpr ⟨zc_X11_init_345, List.forall_mem_cons.mpr ⟨zc_X11_init_347, List.forall_mem_cons.mpr ⟨zc_X11_init_349, List.forall_mem_cons.mpr ⟨zc_X11_init_352, List.forall_mem_cons.mpr ⟨zc_X11_init_353, List.forall_mem_cons.mpr ⟨zc_X11_init_356, List.forall_mem_cons.mpr ⟨zc_X11_init_358, List.forall_mem_cons.mpr ⟨zc_X11_init_361, List.forall_mem_cons.mpr ⟨zc_X11_init_362, List.forall_mem_cons.mpr ⟨zc_X11_init_365, List.forall_mem_cons.mpr ⟨zc_X11_init_367, List.forall_mem_cons.mpr ⟨zc_X11_init_370, List.forall_mem_cons.mpr ⟨zc_X11_init_371, List.forall_mem_cons.mpr ⟨zc_X11_init_373, List.forall_mem_cons.mpr ⟨zc_X11_init_375, List.forall_mem_cons.mpr ⟨zc_X11_init_378, List.forall_mem_cons.mpr ⟨zc_X11_init_379, List.forall_mem_cons.mpr ⟨zc_X11_init_382, List.forall_mem_cons.mpr ⟨zc_X11_init_384, List.forall_mem_cons.mpr ⟨zc_X11_init_387, List.forall_mem_cons.mpr ⟨zc_X11_init_388, List.forall_mem_cons.mpr ⟨zc_X11_init_391, List.forall_mem_cons.mpr ⟨zc_X11_init_393, List.forall_mem_cons.mpr ⟨zc_X11_init_396, List.forall_mem_cons.mpr ⟨zc_X11_init_397, List.forall_mem_cons.mpr ⟨zc_X11_init_400, List.forall_mem_cons.mpr ⟨zc_X11_init_402, List.forall_mem_cons.mpr ⟨zc_X11_init_405, List.forall_mem_cons.mpr ⟨zc_X11_init_406, List.forall_mem_cons.mpr ⟨zc_X11_init_409, List.forall_mem_cons.mpr ⟨zc_X11_init_411, List.forall_mem_cons.mpr ⟨zc_X11_init_414, fun _ h => absurd h List.not_mem_nil⟩⟩⟩⟩⟩⟩⟩⟩⟩⟩⟩⟩⟩⟩⟩⟩⟩⟩⟩⟩⟩⟩⟩⟩⟩⟩⟩⟩⟩⟩⟩⟩⟩⟩⟩⟩⟩⟩⟩⟩⟩⟩⟩⟩⟩⟩⟩⟩⟩⟩⟩⟩⟩⟩⟩⟩⟩⟩⟩⟩⟩⟩⟩⟩⟩⟩⟩⟩⟩⟩⟩⟩⟩⟩⟩⟩⟩⟩⟩⟩⟩⟩⟩⟩⟩⟩⟩⟩⟩⟩⟩⟩⟩⟩⟩⟩⟩⟩⟩⟩⟩⟩⟩⟩⟩⟩⟩⟩⟩⟩⟩⟩⟩⟩⟩⟩⟩⟩⟩⟩⟩⟩⟩⟩⟩⟩⟩⟩⟩⟩⟩⟩⟩⟩⟩⟩⟩⟩⟩⟩⟩⟩⟩⟩⟩⟩⟩⟩⟩⟩⟩⟩⟩⟩⟩⟩⟩⟩⟩⟩⟩⟩⟩⟩⟩⟩⟩⟩⟩⟩⟩⟩⟩⟩⟩⟩⟩⟩⟩⟩⟩⟩⟩⟩⟩⟩⟩⟩⟩⟩⟩⟩
set_option maxRecDepth 20000 in
theorem zm_X11_init : cn_mk uw nX11_init := ⟨(uw_m5 126 rfl rfl), (uw_m1 12 rfl rfl), by decide +kernel, by decide +kernel, by decide +kernel, by decide, rfl⟩
theorem zx_all : ∀ M ∈ cpr, cn_cd uw vwCl cdf cpr nst M := List.forall_mem_cons.mpr ⟨zx_X0_init, List.forall_mem_cons.mpr ⟨zx_X1_init, List.forall_mem_cons.mpr ⟨zx_X2_init, List.forall_mem_cons.mpr ⟨zx_X3_init, List.forall_mem_cons.mpr ⟨zx_X4_init, List.forall_mem_cons.mpr ⟨zx_X5_init, List.forall_mem_cons.mpr ⟨zx_X6_init, List.forall_mem_cons.mpr ⟨zx_X7_init, List.forall_mem_cons.mpr ⟨zx_X8_init, List.forall_mem_cons.mpr ⟨zx_X9_init, List.forall_mem_cons.mpr ⟨zx_X10_init, List.forall_mem_cons.mpr ⟨zx_X11_init, fun _ h => absurd h List.not_mem_nil⟩⟩⟩⟩⟩⟩⟩⟩⟩⟩⟩⟩
theorem zm_all : ∀ M ∈ cpr, cn_mk uw M := List.forall_mem_cons.mpr ⟨zm_X0_init, List.forall_mem_cons.mpr ⟨zm_X1_init, List.forall_mem_cons.mpr ⟨zm_X2_init, List.forall_mem_cons.mpr ⟨zm_X3_init, List.forall_mem_cons.mpr ⟨zm_X4_init, List.forall_mem_cons.mpr ⟨zm_X5_init, List.forall_mem_cons.mpr ⟨zm_X6_init, List.forall_mem_cons.mpr ⟨zm_X7_init, List.forall_mem_cons.mpr ⟨zm_X8_init, List.forall_mem_cons.mpr ⟨zm_X9_init, List.forall_mem_cons.mpr ⟨zm_X10_init, List.forall_mem_cons.mpr ⟨zm_X11_init, fun _ h => absurd h List.not_mem_nil⟩⟩⟩⟩⟩⟩⟩⟩⟩⟩⟩⟩
def kLp : List ab_I := [(0, .new 7, 3, 10, 8), (3, .dup, 1, 0, 0), (4, .invokespecial 9, 3, 10, 0), (7, .astore_n 1, 1, 0, 0), (8, .new 10, 3, 11, 74), (11, .dup, 1, 0, 0), (12, .invokespecial 12, 3, 11, 0), (15, .astore_n 2, 1, 0, 0)]
set_option maxRecDepth 20000 in
theorem zc_L_0 : cn_okq uw vwCl cdf cpr nst R_law code (0, .new 7, 3, 10, 8) := ⟨by decide +kernel, trivial, ⟨(fun _ h => (by cases h)), fun _ _ => rfl, (fun _ h => (by cases h))⟩, ⟨RX10, TX10, rfl, (uw_m1 16 rfl rfl), (uw_m1 17 rfl rfl), (uw_m1 1 rfl rfl), tyX10, tyX10_ok, by decide +kernel⟩⟩
set_option maxRecDepth 20000 in
theorem zc_L_3 : cn_okq uw vwCl cdf cpr nst R_law code (3, .dup, 1, 0, 0) := ⟨by decide +kernel, rfl, ⟨(fun _ h => (by cases h)), (fun _ h => (by cases h)), (fun _ h => (by cases h))⟩, trivial⟩
set_option maxRecDepth 20000 in
theorem zc_L_4 : cn_okq uw vwCl cdf cpr nst R_law code (4, .invokespecial 9, 3, 10, 0) := ⟨by decide +kernel, trivial, ⟨(fun _ h => (by cases h)), (fun _ h => (by cases h)), fun _ _ => rfl⟩, cn_lk_call (by decide) nX10_init rfl (uw_m1 19 rfl rfl) (by decide +kernel) (Or.inl (uw_m1 18 rfl rfl))⟩
set_option maxRecDepth 20000 in
theorem zc_L_7 : cn_okq uw vwCl cdf cpr nst R_law code (7, .astore_n 1, 1, 0, 0) := ⟨by decide +kernel, rfl, ⟨(fun _ h => (by cases h)), (fun _ h => (by cases h)), (fun _ h => (by cases h))⟩, trivial⟩
set_option maxRecDepth 20000 in
theorem zc_L_8 : cn_okq uw vwCl cdf cpr nst R_law code (8, .new 10, 3, 11, 74) := ⟨by decide +kernel, trivial, ⟨(fun _ h => (by cases h)), fun _ _ => rfl, (fun _ h => (by cases h))⟩, ⟨RX11, TX11, rfl, (uw_m5 122 rfl rfl), (uw_m5 123 rfl rfl), (uw_m1 12 rfl rfl), tyX11, tyX11_ok, by decide +kernel⟩⟩
set_option maxRecDepth 20000 in
theorem zc_L_11 : cn_okq uw vwCl cdf cpr nst R_law code (11, .dup, 1, 0, 0) := ⟨by decide +kernel, rfl, ⟨(fun _ h => (by cases h)), (fun _ h => (by cases h)), (fun _ h => (by cases h))⟩, trivial⟩
set_option maxRecDepth 20000 in
theorem zc_L_12 : cn_okq uw vwCl cdf cpr nst R_law code (12, .invokespecial 12, 3, 11, 0) := ⟨by decide +kernel, trivial, ⟨(fun _ h => (by cases h)), (fun _ h => (by cases h)), fun _ _ => rfl⟩, cn_lk_call (by decide) nX11_init rfl (uw_m5 125 rfl rfl) (by decide +kernel) (Or.inl (uw_m5 124 rfl rfl))⟩
set_option maxRecDepth 20000 in
theorem zc_L_15 : cn_okq uw vwCl cdf cpr nst R_law code (15, .astore_n 2, 1, 0, 0) := ⟨by decide +kernel, rfl, ⟨(fun _ h => (by cases h)), (fun _ h => (by cases h)), (fun _ h => (by cases h))⟩, trivial⟩
theorem zx_L : ∀ q ∈ kLp, cn_okq uw vwCl cdf cpr nst R_law code q := List.forall_mem_cons.mpr ⟨zc_L_0, List.forall_mem_cons.mpr ⟨zc_L_3, List.forall_mem_cons.mpr ⟨zc_L_4, List.forall_mem_cons.mpr ⟨zc_L_7, List.forall_mem_cons.mpr ⟨zc_L_8, List.forall_mem_cons.mpr ⟨zc_L_11, List.forall_mem_cons.mpr ⟨zc_L_12, List.forall_mem_cons.mpr ⟨zc_L_15, fun _ h => absurd h List.not_mem_nil⟩⟩⟩⟩⟩⟩⟩⟩
/-- all cells, as they are made -/
def csF : List cn_K := [.inr (10, [.ref 1, .ref 5, .ref 17, .ref 20, .ref 23, .ref 30, .ref 44, .ref 48]), .inr (0, [.ref 2, .ref 3, .ref 4, .int 0, .int 0]), .inl (0, 3000), .inl (0, 41), .inl (0, 3000), .inr (2, [.ref 6, .ref 7, .ref 8, .ref 9, .ref 10, .ref 11, .ref 12, .ref 13, .int 0, .int 0, .int 1, .int 0]), .inl (0, 3000), .inl (0, 3000), .inl (0, 41), .inl (0, 3000), .inl (0, 3000), .inl (0, 3000), .inl (0, 3000), .inr (8, [.ref 14, .ref 15, .ref 16]), .inl (0, 3000), .inl (0, 3000), .inl (0, 3001), .inr (1, [.ref 5, .ref 18, .ref 19, .int 0, .int 0, .int 0, .int 0, .int 0]), .inl (1, 3000), .inl (0, 256), .inr (4, [.ref 5, .ref 17, .ref 21, .ref 22, .int 0]), .inl (0, 3000), .inl (0, 3000), .inr (6, [.ref 24, .ref 25, .ref 26, .ref 27, .ref 28, .ref 29, .int 0, .int 0, .int (-2)]), .inl (0, 200), .inl (0, 200), .inl (0, 200), .inl (0, 200), .inl (0, 200), .inl (2, 800), .inr (3, [.ref 5, .ref 23, .ref 38, .ref 31, .ref 32, .ref 33, .ref 34, .ref 35, .ref 36, .ref 37, .int 3000]), .inl (0, 240), .inl (0, 240), .inl (0, 240), .inl (0, 240), .inl (0, 3000), .inl (0, 3000), .inl (0, 3000), .inr (9, [.ref 23, .ref 39, .ref 40, .ref 41, .ref 42, .ref 43, .int 0, .int 0]), .inl (0, 240), .inl (0, 240), .inl (0, 240), .inl (1, 240), .inl (1, 240), .inr (7, [.ref 5, .ref 17, .ref 45, .ref 46, .ref 47]), .inl (0, 3000), .inl (0, 3000), .inl (0, 256), .inr (5, [.ref 5, .ref 49, .ref 50, .ref 51, .ref 52, .ref 53, .ref 54]), .inl (0, 3000), .inl (0, 3000), .inl (0, 3000), .inl (0, 3000), .inl (0, 3000), .inl (0, 3000), .inr (11, [.ref 56, .int 0, .ref 57, .int 0, .ref 58, .int 0, .int 0, .int 0, .int 0, .int 0, .int 0, .ref 59, .ref 60, .ref 61, .ref 62, .ref 63, .ref 64, .ref 65, .ref 66, .ref 67, .ref 68, .ref 69, .int 0, .int 0, .int 0, .ref 70, .int 0, .ref 71, .ref 72, .int 0, .ref 73, .int 0, .int 0, .int 0, .ref 74, .ref 75, .ref 76, .int 0, .int 0, .ref 77, .ref 78, .ref 79, .ref 80, .ref 81, .ref 82, .int 0, .int 0, .ref 83, .int 0, .ref 84, .int 0, .ref 85, .int 0, .int 0, .ref 86, .int 0, .ref 87, .ref 88, .ref 89, .ref 90, .ref 91, .ref 92, .ref 93, .ref 94, .ref 95, .ref 96, .ref 97, .ref 98, .ref 99, .ref 100, .int 0, .int 0, .ref 101, .ref 102]), .inl (0, 3000), .inl (0, 40), .inl (0, 3000), .inl (0, 3000), .inl (0, 3000), .inl (0, 40), .inl (0, 40), .inl (0, 3000), .inl (0, 3001), .inl (0, 3001), .inl (0, 3000), .inl (0, 3000), .inl (0, 3400), .inl (0, 3000), .inl (1, 3000), .inl (0, 3000), .inl (0, 3000), .inl (0, 200), .inl (0, 3000), .inl (0, 3000), .inl (0, 3000), .inl (2, 22), .inl (2, 22), .inl (1, 22), .inl (0, 22), .inl (0, 22), .inl (0, 22), .inl (0, 60000), .inl (0, 200), .inl (1, 25600), .inl (0, 22), .inl (0, 128), .inl (2, 128), .inl (2, 128), .inl (1, 400), .inl (2, 400), .inl (2, 400), .inl (2, 400), .inl (2, 400), .inl (1, 40), .inl (0, 3001), .inl (0, 3001), .inl (0, 65536), .inl (0, 256), .inl (0, 256), .inl (0, 3000), .inl (0, 3000)]
def lcF : ab_L := [some (.ref 777), some (.ref 0), some (.ref 55), none]
set_option maxRecDepth 20000 in
theorem cn_evF : cn_w cdf 103 297860 (cn_mcs cpr) (cn_T cdf cpr 5) (fun _ => false) (fun L st S => decide (L = lcF ∧ st = [] ∧ S = (103, 297860, csF))) kLp [some (.ref 777), none, none, none] [] (0, 0, []) = true := by decide +kernel
