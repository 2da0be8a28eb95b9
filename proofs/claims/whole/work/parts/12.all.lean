/-! ===== all methods and kinds together ===== -/
set_option maxRecDepth 20000 in
theorem uy_0_0 : u_lay RX0 TX0 0 ∈ uw := (uw_m1 40 rfl rfl)
set_option maxRecDepth 20000 in
theorem uy_0_1 : u_lay RX0 TX0 1 ∈ uw := (uw_m1 42 rfl rfl)
set_option maxRecDepth 20000 in
theorem uy_0_2 : u_lay RX0 TX0 2 ∈ uw := (uw_m1 44 rfl rfl)
set_option maxRecDepth 20000 in
theorem uy_0_3 : u_lay RX0 TX0 3 ∈ uw := (uw_m1 46 rfl rfl)
set_option maxRecDepth 20000 in
theorem uy_0_4 : u_lay RX0 TX0 4 ∈ uw := (uw_m1 48 rfl rfl)
set_option maxRecDepth 20000 in
theorem uy_0 : ∀ w ∈ u_ws RX0 TX0 5, w ∈ uw := List.forall_mem_cons.mpr ⟨uy_0_0, List.forall_mem_cons.mpr ⟨uy_0_1, List.forall_mem_cons.mpr ⟨uy_0_2, List.forall_mem_cons.mpr ⟨uy_0_3, List.forall_mem_cons.mpr ⟨uy_0_4, fun _ h => absurd h List.not_mem_nil⟩⟩⟩⟩⟩
set_option maxRecDepth 20000 in
theorem uy_1_0 : u_lay RX1 TX1 0 ∈ uw := (uw_m1 169 rfl rfl)
set_option maxRecDepth 20000 in
theorem uy_1_1 : u_lay RX1 TX1 1 ∈ uw := (uw_m1 171 rfl rfl)
set_option maxRecDepth 20000 in
theorem uy_1_2 : u_lay RX1 TX1 2 ∈ uw := (uw_m1 173 rfl rfl)
set_option maxRecDepth 20000 in
theorem uy_1_3 : u_lay RX1 TX1 3 ∈ uw := (uw_m1 175 rfl rfl)
set_option maxRecDepth 20000 in
theorem uy_1_4 : u_lay RX1 TX1 4 ∈ uw := (uw_m1 177 rfl rfl)
set_option maxRecDepth 20000 in
theorem uy_1_5 : u_lay RX1 TX1 5 ∈ uw := (uw_m1 179 rfl rfl)
set_option maxRecDepth 20000 in
theorem uy_1_6 : u_lay RX1 TX1 6 ∈ uw := (uw_m1 181 rfl rfl)
set_option maxRecDepth 20000 in
theorem uy_1_7 : u_lay RX1 TX1 7 ∈ uw := (uw_m1 183 rfl rfl)
set_option maxRecDepth 20000 in
theorem uy_1 : ∀ w ∈ u_ws RX1 TX1 8, w ∈ uw := List.forall_mem_cons.mpr ⟨uy_1_0, List.forall_mem_cons.mpr ⟨uy_1_1, List.forall_mem_cons.mpr ⟨uy_1_2, List.forall_mem_cons.mpr ⟨uy_1_3, List.forall_mem_cons.mpr ⟨uy_1_4, List.forall_mem_cons.mpr ⟨uy_1_5, List.forall_mem_cons.mpr ⟨uy_1_6, List.forall_mem_cons.mpr ⟨uy_1_7, fun _ h => absurd h List.not_mem_nil⟩⟩⟩⟩⟩⟩⟩⟩
set_option maxRecDepth 20000 in
theorem uy_2_0 : u_lay RX2 TX2 0 ∈ uw := (uw_m1 122 rfl rfl)
set_option maxRecDepth 20000 in
theorem uy_2_1 : u_lay RX2 TX2 1 ∈ uw := (uw_m1 124 rfl rfl)
set_option maxRecDepth 20000 in
theorem uy_2_2 : u_lay RX2 TX2 2 ∈ uw := (uw_m1 126 rfl rfl)
set_option maxRecDepth 20000 in
theorem uy_2_3 : u_lay RX2 TX2 3 ∈ uw := (uw_m1 128 rfl rfl)
set_option maxRecDepth 20000 in
theorem uy_2_4 : u_lay RX2 TX2 4 ∈ uw := (uw_m1 130 rfl rfl)
set_option maxRecDepth 20000 in
theorem uy_2_5 : u_lay RX2 TX2 5 ∈ uw := (uw_m1 132 rfl rfl)
set_option maxRecDepth 20000 in
theorem uy_2_6 : u_lay RX2 TX2 6 ∈ uw := (uw_m1 134 rfl rfl)
set_option maxRecDepth 20000 in
theorem uy_2_7 : u_lay RX2 TX2 7 ∈ uw := (uw_m1 136 rfl rfl)
set_option maxRecDepth 20000 in
theorem uy_2_8 : u_lay RX2 TX2 8 ∈ uw := (uw_m1 138 rfl rfl)
set_option maxRecDepth 20000 in
theorem uy_2_9 : u_lay RX2 TX2 9 ∈ uw := (uw_m1 140 rfl rfl)
set_option maxRecDepth 20000 in
theorem uy_2_10 : u_lay RX2 TX2 10 ∈ uw := (uw_m1 142 rfl rfl)
set_option maxRecDepth 20000 in
theorem uy_2_11 : u_lay RX2 TX2 11 ∈ uw := (uw_m1 144 rfl rfl)
set_option maxRecDepth 20000 in
theorem uy_2 : ∀ w ∈ u_ws RX2 TX2 12, w ∈ uw := List.forall_mem_cons.mpr ⟨uy_2_0, List.forall_mem_cons.mpr ⟨uy_2_1, List.forall_mem_cons.mpr ⟨uy_2_2, List.forall_mem_cons.mpr ⟨uy_2_3, List.forall_mem_cons.mpr ⟨uy_2_4, List.forall_mem_cons.mpr ⟨uy_2_5, List.forall_mem_cons.mpr ⟨uy_2_6, List.forall_mem_cons.mpr ⟨uy_2_7, List.forall_mem_cons.mpr ⟨uy_2_8, List.forall_mem_cons.mpr ⟨uy_2_9, List.forall_mem_cons.mpr ⟨uy_2_10, List.forall_mem_cons.mpr ⟨uy_2_11, fun _ h => absurd h List.not_mem_nil⟩⟩⟩⟩⟩⟩⟩⟩⟩⟩⟩⟩
set_option maxRecDepth 20000 in
theorem uy_3_0 : u_lay RX3 TX3 0 ∈ uw := (uw_m2 68 rfl rfl)
set_option maxRecDepth 20000 in
theorem uy_3_1 : u_lay RX3 TX3 1 ∈ uw := (uw_m2 70 rfl rfl)
set_option maxRecDepth 20000 in
theorem uy_3_2 : u_lay RX3 TX3 2 ∈ uw := (uw_m2 72 rfl rfl)
set_option maxRecDepth 20000 in
theorem uy_3_3 : u_lay RX3 TX3 3 ∈ uw := (uw_m2 74 rfl rfl)
set_option maxRecDepth 20000 in
theorem uy_3_4 : u_lay RX3 TX3 4 ∈ uw := (uw_m2 76 rfl rfl)
set_option maxRecDepth 20000 in
theorem uy_3_5 : u_lay RX3 TX3 5 ∈ uw := (uw_m2 78 rfl rfl)
set_option maxRecDepth 20000 in
theorem uy_3_6 : u_lay RX3 TX3 6 ∈ uw := (uw_m2 80 rfl rfl)
set_option maxRecDepth 20000 in
theorem uy_3_7 : u_lay RX3 TX3 7 ∈ uw := (uw_m2 82 rfl rfl)
set_option maxRecDepth 20000 in
theorem uy_3_8 : u_lay RX3 TX3 8 ∈ uw := (uw_m2 84 rfl rfl)
set_option maxRecDepth 20000 in
theorem uy_3_9 : u_lay RX3 TX3 9 ∈ uw := (uw_m2 86 rfl rfl)
set_option maxRecDepth 20000 in
theorem uy_3_10 : u_lay RX3 TX3 10 ∈ uw := (uw_m2 88 rfl rfl)
set_option maxRecDepth 20000 in
theorem uy_3 : ∀ w ∈ u_ws RX3 TX3 11, w ∈ uw := List.forall_mem_cons.mpr ⟨uy_3_0, List.forall_mem_cons.mpr ⟨uy_3_1, List.forall_mem_cons.mpr ⟨uy_3_2, List.forall_mem_cons.mpr ⟨uy_3_3, List.forall_mem_cons.mpr ⟨uy_3_4, List.forall_mem_cons.mpr ⟨uy_3_5, List.forall_mem_cons.mpr ⟨uy_3_6, List.forall_mem_cons.mpr ⟨uy_3_7, List.forall_mem_cons.mpr ⟨uy_3_8, List.forall_mem_cons.mpr ⟨uy_3_9, List.forall_mem_cons.mpr ⟨uy_3_10, fun _ h => absurd h List.not_mem_nil⟩⟩⟩⟩⟩⟩⟩⟩⟩⟩⟩
set_option maxRecDepth 20000 in
theorem uy_4_0 : u_lay RX4 TX4 0 ∈ uw := (uw_m1 201 rfl rfl)
set_option maxRecDepth 20000 in
theorem uy_4_1 : u_lay RX4 TX4 1 ∈ uw := (uw_m1 203 rfl rfl)
set_option maxRecDepth 20000 in
theorem uy_4_2 : u_lay RX4 TX4 2 ∈ uw := (uw_m1 205 rfl rfl)
set_option maxRecDepth 20000 in
theorem uy_4_3 : u_lay RX4 TX4 3 ∈ uw := (uw_m1 207 rfl rfl)
set_option maxRecDepth 20000 in
theorem uy_4_4 : u_lay RX4 TX4 4 ∈ uw := (uw_m1 209 rfl rfl)
set_option maxRecDepth 20000 in
theorem uy_4 : ∀ w ∈ u_ws RX4 TX4 5, w ∈ uw := List.forall_mem_cons.mpr ⟨uy_4_0, List.forall_mem_cons.mpr ⟨uy_4_1, List.forall_mem_cons.mpr ⟨uy_4_2, List.forall_mem_cons.mpr ⟨uy_4_3, List.forall_mem_cons.mpr ⟨uy_4_4, fun _ h => absurd h List.not_mem_nil⟩⟩⟩⟩⟩
set_option maxRecDepth 20000 in
theorem uy_5_0 : u_lay RX5 TX5 0 ∈ uw := (uw_m2 127 rfl rfl)
set_option maxRecDepth 20000 in
theorem uy_5_1 : u_lay RX5 TX5 1 ∈ uw := (uw_m2 129 rfl rfl)
set_option maxRecDepth 20000 in
theorem uy_5_2 : u_lay RX5 TX5 2 ∈ uw := (uw_m2 131 rfl rfl)
set_option maxRecDepth 20000 in
theorem uy_5_3 : u_lay RX5 TX5 3 ∈ uw := (uw_m2 133 rfl rfl)
set_option maxRecDepth 20000 in
theorem uy_5_4 : u_lay RX5 TX5 4 ∈ uw := (uw_m2 135 rfl rfl)
set_option maxRecDepth 20000 in
theorem uy_5_5 : u_lay RX5 TX5 5 ∈ uw := (uw_m2 137 rfl rfl)
set_option maxRecDepth 20000 in
theorem uy_5_6 : u_lay RX5 TX5 6 ∈ uw := (uw_m2 139 rfl rfl)
set_option maxRecDepth 20000 in
theorem uy_5 : ∀ w ∈ u_ws RX5 TX5 7, w ∈ uw := List.forall_mem_cons.mpr ⟨uy_5_0, List.forall_mem_cons.mpr ⟨uy_5_1, List.forall_mem_cons.mpr ⟨uy_5_2, List.forall_mem_cons.mpr ⟨uy_5_3, List.forall_mem_cons.mpr ⟨uy_5_4, List.forall_mem_cons.mpr ⟨uy_5_5, List.forall_mem_cons.mpr ⟨uy_5_6, fun _ h => absurd h List.not_mem_nil⟩⟩⟩⟩⟩⟩⟩
set_option maxRecDepth 20000 in
theorem uy_6_0 : u_lay RX6 TX6 0 ∈ uw := (uw_m1 235 rfl rfl)
set_option maxRecDepth 20000 in
theorem uy_6_1 : u_lay RX6 TX6 1 ∈ uw := (uw_m1 237 rfl rfl)
set_option maxRecDepth 20000 in
theorem uy_6_2 : u_lay RX6 TX6 2 ∈ uw := (uw_m1 239 rfl rfl)
set_option maxRecDepth 20000 in
theorem uy_6_3 : u_lay RX6 TX6 3 ∈ uw := (uw_m2 1 rfl rfl)
set_option maxRecDepth 20000 in
theorem uy_6_4 : u_lay RX6 TX6 4 ∈ uw := (uw_m2 3 rfl rfl)
set_option maxRecDepth 20000 in
theorem uy_6_5 : u_lay RX6 TX6 5 ∈ uw := (uw_m2 5 rfl rfl)
set_option maxRecDepth 20000 in
theorem uy_6_6 : u_lay RX6 TX6 6 ∈ uw := (uw_m2 7 rfl rfl)
set_option maxRecDepth 20000 in
theorem uy_6_7 : u_lay RX6 TX6 7 ∈ uw := (uw_m2 9 rfl rfl)
set_option maxRecDepth 20000 in
theorem uy_6_8 : u_lay RX6 TX6 8 ∈ uw := (uw_m2 11 rfl rfl)
set_option maxRecDepth 20000 in
theorem uy_6 : ∀ w ∈ u_ws RX6 TX6 9, w ∈ uw := List.forall_mem_cons.mpr ⟨uy_6_0, List.forall_mem_cons.mpr ⟨uy_6_1, List.forall_mem_cons.mpr ⟨uy_6_2, List.forall_mem_cons.mpr ⟨uy_6_3, List.forall_mem_cons.mpr ⟨uy_6_4, List.forall_mem_cons.mpr ⟨uy_6_5, List.forall_mem_cons.mpr ⟨uy_6_6, List.forall_mem_cons.mpr ⟨uy_6_7, List.forall_mem_cons.mpr ⟨uy_6_8, fun _ h => absurd h List.not_mem_nil⟩⟩⟩⟩⟩⟩⟩⟩⟩
set_option maxRecDepth 20000 in
theorem uy_7_0 : u_lay RX7 TX7 0 ∈ uw := (uw_m2 103 rfl rfl)
set_option maxRecDepth 20000 in
theorem uy_7_1 : u_lay RX7 TX7 1 ∈ uw := (uw_m2 105 rfl rfl)
set_option maxRecDepth 20000 in
theorem uy_7_2 : u_lay RX7 TX7 2 ∈ uw := (uw_m2 107 rfl rfl)
set_option maxRecDepth 20000 in
theorem uy_7_3 : u_lay RX7 TX7 3 ∈ uw := (uw_m2 109 rfl rfl)
set_option maxRecDepth 20000 in
theorem uy_7_4 : u_lay RX7 TX7 4 ∈ uw := (uw_m2 111 rfl rfl)
set_option maxRecDepth 20000 in
theorem uy_7 : ∀ w ∈ u_ws RX7 TX7 5, w ∈ uw := List.forall_mem_cons.mpr ⟨uy_7_0, List.forall_mem_cons.mpr ⟨uy_7_1, List.forall_mem_cons.mpr ⟨uy_7_2, List.forall_mem_cons.mpr ⟨uy_7_3, List.forall_mem_cons.mpr ⟨uy_7_4, fun _ h => absurd h List.not_mem_nil⟩⟩⟩⟩⟩
set_option maxRecDepth 20000 in
theorem uy_8_0 : u_lay RX8 TX8 0 ∈ uw := (uw_m1 67 rfl rfl)
set_option maxRecDepth 20000 in
theorem uy_8_1 : u_lay RX8 TX8 1 ∈ uw := (uw_m1 69 rfl rfl)
set_option maxRecDepth 20000 in
theorem uy_8_2 : u_lay RX8 TX8 2 ∈ uw := (uw_m1 71 rfl rfl)
set_option maxRecDepth 20000 in
theorem uy_8 : ∀ w ∈ u_ws RX8 TX8 3, w ∈ uw := List.forall_mem_cons.mpr ⟨uy_8_0, List.forall_mem_cons.mpr ⟨uy_8_1, List.forall_mem_cons.mpr ⟨uy_8_2, fun _ h => absurd h List.not_mem_nil⟩⟩⟩
set_option maxRecDepth 20000 in
theorem uy_9_0 : u_lay RX9 TX9 0 ∈ uw := (uw_m2 40 rfl rfl)
set_option maxRecDepth 20000 in
theorem uy_9_1 : u_lay RX9 TX9 1 ∈ uw := (uw_m2 42 rfl rfl)
set_option maxRecDepth 20000 in
theorem uy_9_2 : u_lay RX9 TX9 2 ∈ uw := (uw_m2 44 rfl rfl)
set_option maxRecDepth 20000 in
theorem uy_9_3 : u_lay RX9 TX9 3 ∈ uw := (uw_m2 46 rfl rfl)
set_option maxRecDepth 20000 in
theorem uy_9_4 : u_lay RX9 TX9 4 ∈ uw := (uw_m2 48 rfl rfl)
set_option maxRecDepth 20000 in
theorem uy_9_5 : u_lay RX9 TX9 5 ∈ uw := (uw_m2 50 rfl rfl)
set_option maxRecDepth 20000 in
theorem uy_9_6 : u_lay RX9 TX9 6 ∈ uw := (uw_m2 52 rfl rfl)
set_option maxRecDepth 20000 in
theorem uy_9_7 : u_lay RX9 TX9 7 ∈ uw := (uw_m2 54 rfl rfl)
set_option maxRecDepth 20000 in
theorem uy_9 : ∀ w ∈ u_ws RX9 TX9 8, w ∈ uw := List.forall_mem_cons.mpr ⟨uy_9_0, List.forall_mem_cons.mpr ⟨uy_9_1, List.forall_mem_cons.mpr ⟨uy_9_2, List.forall_mem_cons.mpr ⟨uy_9_3, List.forall_mem_cons.mpr ⟨uy_9_4, List.forall_mem_cons.mpr ⟨uy_9_5, List.forall_mem_cons.mpr ⟨uy_9_6, List.forall_mem_cons.mpr ⟨uy_9_7, fun _ h => absurd h List.not_mem_nil⟩⟩⟩⟩⟩⟩⟩⟩
set_option maxRecDepth 20000 in
theorem uy_10_0 : u_lay RX10 TX10 0 ∈ uw := (uw_m2 150 rfl rfl)
set_option maxRecDepth 20000 in
theorem uy_10_1 : u_lay RX10 TX10 1 ∈ uw := (uw_m2 152 rfl rfl)
set_option maxRecDepth 20000 in
theorem uy_10_2 : u_lay RX10 TX10 2 ∈ uw := (uw_m2 154 rfl rfl)
set_option maxRecDepth 20000 in
theorem uy_10_3 : u_lay RX10 TX10 3 ∈ uw := (uw_m2 156 rfl rfl)
set_option maxRecDepth 20000 in
theorem uy_10_4 : u_lay RX10 TX10 4 ∈ uw := (uw_m2 158 rfl rfl)
set_option maxRecDepth 20000 in
theorem uy_10_5 : u_lay RX10 TX10 5 ∈ uw := (uw_m2 160 rfl rfl)
set_option maxRecDepth 20000 in
theorem uy_10_6 : u_lay RX10 TX10 6 ∈ uw := (uw_m2 162 rfl rfl)
set_option maxRecDepth 20000 in
theorem uy_10_7 : u_lay RX10 TX10 7 ∈ uw := (uw_m2 164 rfl rfl)
set_option maxRecDepth 20000 in
theorem uy_10 : ∀ w ∈ u_ws RX10 TX10 8, w ∈ uw := List.forall_mem_cons.mpr ⟨uy_10_0, List.forall_mem_cons.mpr ⟨uy_10_1, List.forall_mem_cons.mpr ⟨uy_10_2, List.forall_mem_cons.mpr ⟨uy_10_3, List.forall_mem_cons.mpr ⟨uy_10_4, List.forall_mem_cons.mpr ⟨uy_10_5, List.forall_mem_cons.mpr ⟨uy_10_6, List.forall_mem_cons.mpr ⟨uy_10_7, fun _ h => absurd h List.not_mem_nil⟩⟩⟩⟩⟩⟩⟩⟩
set_option maxRecDepth 20000 in
theorem uy_11_0 : u_lay RX11 TX11 0 ∈ uw := (uw_m5 204 rfl rfl)
set_option maxRecDepth 20000 in
theorem uy_11_1 : u_lay RX11 TX11 1 ∈ uw := (uw_m5 206 rfl rfl)
set_option maxRecDepth 20000 in
theorem uy_11_2 : u_lay RX11 TX11 2 ∈ uw := (uw_m5 208 rfl rfl)
set_option maxRecDepth 20000 in
theorem uy_11_3 : u_lay RX11 TX11 3 ∈ uw := (uw_m5 210 rfl rfl)
set_option maxRecDepth 20000 in
theorem uy_11_4 : u_lay RX11 TX11 4 ∈ uw := (uw_m5 212 rfl rfl)
set_option maxRecDepth 20000 in
theorem uy_11_5 : u_lay RX11 TX11 5 ∈ uw := (uw_m5 214 rfl rfl)
set_option maxRecDepth 20000 in
theorem uy_11_6 : u_lay RX11 TX11 6 ∈ uw := (uw_m5 216 rfl rfl)
set_option maxRecDepth 20000 in
theorem uy_11_7 : u_lay RX11 TX11 7 ∈ uw := (uw_m5 218 rfl rfl)
set_option maxRecDepth 20000 in
theorem uy_11_8 : u_lay RX11 TX11 8 ∈ uw := (uw_m5 220 rfl rfl)
set_option maxRecDepth 20000 in
theorem uy_11_9 : u_lay RX11 TX11 9 ∈ uw := (uw_m5 222 rfl rfl)
set_option maxRecDepth 20000 in
theorem uy_11_10 : u_lay RX11 TX11 10 ∈ uw := (uw_m5 224 rfl rfl)
set_option maxRecDepth 20000 in
theorem uy_11_11 : u_lay RX11 TX11 11 ∈ uw := (uw_m5 226 rfl rfl)
set_option maxRecDepth 20000 in
theorem uy_11_12 : u_lay RX11 TX11 12 ∈ uw := (uw_m5 228 rfl rfl)
set_option maxRecDepth 20000 in
theorem uy_11_13 : u_lay RX11 TX11 13 ∈ uw := (uw_m5 230 rfl rfl)
set_option maxRecDepth 20000 in
theorem uy_11_14 : u_lay RX11 TX11 14 ∈ uw := (uw_m5 232 rfl rfl)
set_option maxRecDepth 20000 in
theorem uy_11_15 : u_lay RX11 TX11 15 ∈ uw := (uw_m5 234 rfl rfl)
set_option maxRecDepth 20000 in
theorem uy_11_16 : u_lay RX11 TX11 16 ∈ uw := (uw_m5 236 rfl rfl)
set_option maxRecDepth 20000 in
theorem uy_11_17 : u_lay RX11 TX11 17 ∈ uw := (uw_m5 238 rfl rfl)
set_option maxRecDepth 20000 in
theorem uy_11_18 : u_lay RX11 TX11 18 ∈ uw := (uw_m6 0 rfl rfl)
set_option maxRecDepth 20000 in
theorem uy_11_19 : u_lay RX11 TX11 19 ∈ uw := (uw_m6 2 rfl rfl)
set_option maxRecDepth 20000 in
theorem uy_11_20 : u_lay RX11 TX11 20 ∈ uw := (uw_m6 4 rfl rfl)
set_option maxRecDepth 20000 in
theorem uy_11_21 : u_lay RX11 TX11 21 ∈ uw := (uw_m6 6 rfl rfl)
set_option maxRecDepth 20000 in
theorem uy_11_22 : u_lay RX11 TX11 22 ∈ uw := (uw_m6 8 rfl rfl)
set_option maxRecDepth 20000 in
theorem uy_11_23 : u_lay RX11 TX11 23 ∈ uw := (uw_m6 10 rfl rfl)
set_option maxRecDepth 20000 in
theorem uy_11_24 : u_lay RX11 TX11 24 ∈ uw := (uw_m6 12 rfl rfl)
set_option maxRecDepth 20000 in
theorem uy_11_25 : u_lay RX11 TX11 25 ∈ uw := (uw_m6 14 rfl rfl)
set_option maxRecDepth 20000 in
theorem uy_11_26 : u_lay RX11 TX11 26 ∈ uw := (uw_m6 16 rfl rfl)
set_option maxRecDepth 20000 in
theorem uy_11_27 : u_lay RX11 TX11 27 ∈ uw := (uw_m6 18 rfl rfl)
set_option maxRecDepth 20000 in
theorem uy_11_28 : u_lay RX11 TX11 28 ∈ uw := (uw_m6 20 rfl rfl)
set_option maxRecDepth 20000 in
theorem uy_11_29 : u_lay RX11 TX11 29 ∈ uw := (uw_m6 22 rfl rfl)
set_option maxRecDepth 20000 in
theorem uy_11_30 : u_lay RX11 TX11 30 ∈ uw := (uw_m6 24 rfl rfl)
set_option maxRecDepth 20000 in
theorem uy_11_31 : u_lay RX11 TX11 31 ∈ uw := (uw_m6 26 rfl rfl)
set_option maxRecDepth 20000 in
theorem uy_11_32 : u_lay RX11 TX11 32 ∈ uw := (uw_m6 28 rfl rfl)
set_option maxRecDepth 20000 in
theorem uy_11_33 : u_lay RX11 TX11 33 ∈ uw := (uw_m6 30 rfl rfl)
set_option maxRecDepth 20000 in
theorem uy_11_34 : u_lay RX11 TX11 34 ∈ uw := (uw_m6 32 rfl rfl)
set_option maxRecDepth 20000 in
theorem uy_11_35 : u_lay RX11 TX11 35 ∈ uw := (uw_m6 34 rfl rfl)
set_option maxRecDepth 20000 in
theorem uy_11_36 : u_lay RX11 TX11 36 ∈ uw := (uw_m6 36 rfl rfl)
set_option maxRecDepth 20000 in
theorem uy_11_37 : u_lay RX11 TX11 37 ∈ uw := (uw_m6 38 rfl rfl)
set_option maxRecDepth 20000 in
theorem uy_11_38 : u_lay RX11 TX11 38 ∈ uw := (uw_m6 40 rfl rfl)
set_option maxRecDepth 20000 in
theorem uy_11_39 : u_lay RX11 TX11 39 ∈ uw := (uw_m6 42 rfl rfl)
set_option maxRecDepth 20000 in
theorem uy_11_40 : u_lay RX11 TX11 40 ∈ uw := (uw_m6 44 rfl rfl)
set_option maxRecDepth 20000 in
theorem uy_11_41 : u_lay RX11 TX11 41 ∈ uw := (uw_m6 46 rfl rfl)
set_option maxRecDepth 20000 in
theorem uy_11_42 : u_lay RX11 TX11 42 ∈ uw := (uw_m6 48 rfl rfl)
set_option maxRecDepth 20000 in
theorem uy_11_43 : u_lay RX11 TX11 43 ∈ uw := (uw_m6 50 rfl rfl)
set_option maxRecDepth 20000 in
theorem uy_11_44 : u_lay RX11 TX11 44 ∈ uw := (uw_m6 52 rfl rfl)
set_option maxRecDepth 20000 in
theorem uy_11_45 : u_lay RX11 TX11 45 ∈ uw := (uw_m6 54 rfl rfl)
set_option maxRecDepth 20000 in
theorem uy_11_46 : u_lay RX11 TX11 46 ∈ uw := (uw_m6 56 rfl rfl)
set_option maxRecDepth 20000 in
theorem uy_11_47 : u_lay RX11 TX11 47 ∈ uw := (uw_m6 58 rfl rfl)
set_option maxRecDepth 20000 in
theorem uy_11_48 : u_lay RX11 TX11 48 ∈ uw := (uw_m6 60 rfl rfl)
set_option maxRecDepth 20000 in
theorem uy_11_49 : u_lay RX11 TX11 49 ∈ uw := (uw_m6 62 rfl rfl)
set_option maxRecDepth 20000 in
theorem uy_11_50 : u_lay RX11 TX11 50 ∈ uw := (uw_m6 64 rfl rfl)
set_option maxRecDepth 20000 in
theorem uy_11_51 : u_lay RX11 TX11 51 ∈ uw := (uw_m6 66 rfl rfl)
set_option maxRecDepth 20000 in
theorem uy_11_52 : u_lay RX11 TX11 52 ∈ uw := (uw_m6 68 rfl rfl)
set_option maxRecDepth 20000 in
theorem uy_11_53 : u_lay RX11 TX11 53 ∈ uw := (uw_m6 70 rfl rfl)
set_option maxRecDepth 20000 in
theorem uy_11_54 : u_lay RX11 TX11 54 ∈ uw := (uw_m6 72 rfl rfl)
set_option maxRecDepth 20000 in
theorem uy_11_55 : u_lay RX11 TX11 55 ∈ uw := (uw_m6 74 rfl rfl)
set_option maxRecDepth 20000 in
theorem uy_11_56 : u_lay RX11 TX11 56 ∈ uw := (uw_m6 76 rfl rfl)
set_option maxRecDepth 20000 in
theorem uy_11_57 : u_lay RX11 TX11 57 ∈ uw := (uw_m6 78 rfl rfl)
set_option maxRecDepth 20000 in
theorem uy_11_58 : u_lay RX11 TX11 58 ∈ uw := (uw_m6 80 rfl rfl)
set_option maxRecDepth 20000 in
theorem uy_11_59 : u_lay RX11 TX11 59 ∈ uw := (uw_m6 82 rfl rfl)
set_option maxRecDepth 20000 in
theorem uy_11_60 : u_lay RX11 TX11 60 ∈ uw := (uw_m6 84 rfl rfl)
set_option maxRecDepth 20000 in
theorem uy_11_61 : u_lay RX11 TX11 61 ∈ uw := (uw_m6 86 rfl rfl)
set_option maxRecDepth 20000 in
theorem uy_11_62 : u_lay RX11 TX11 62 ∈ uw := (uw_m6 88 rfl rfl)
set_option maxRecDepth 20000 in
theorem uy_11_63 : u_lay RX11 TX11 63 ∈ uw := (uw_m6 90 rfl rfl)
set_option maxRecDepth 20000 in
theorem uy_11_64 : u_lay RX11 TX11 64 ∈ uw := (uw_m6 92 rfl rfl)
set_option maxRecDepth 20000 in
theorem uy_11_65 : u_lay RX11 TX11 65 ∈ uw := (uw_m6 94 rfl rfl)
set_option maxRecDepth 20000 in
theorem uy_11_66 : u_lay RX11 TX11 66 ∈ uw := (uw_m6 96 rfl rfl)
set_option maxRecDepth 20000 in
theorem uy_11_67 : u_lay RX11 TX11 67 ∈ uw := (uw_m6 98 rfl rfl)
set_option maxRecDepth 20000 in
theorem uy_11_68 : u_lay RX11 TX11 68 ∈ uw := (uw_m6 100 rfl rfl)
set_option maxRecDepth 20000 in
theorem uy_11_69 : u_lay RX11 TX11 69 ∈ uw := (uw_m6 102 rfl rfl)
set_option maxRecDepth 20000 in
theorem uy_11_70 : u_lay RX11 TX11 70 ∈ uw := (uw_m6 104 rfl rfl)
set_option maxRecDepth 20000 in
theorem uy_11_71 : u_lay RX11 TX11 71 ∈ uw := (uw_m6 106 rfl rfl)
set_option maxRecDepth 20000 in
theorem uy_11_72 : u_lay RX11 TX11 72 ∈ uw := (uw_m6 108 rfl rfl)
set_option maxRecDepth 20000 in
theorem uy_11_73 : u_lay RX11 TX11 73 ∈ uw := (uw_m6 110 rfl rfl)
set_option maxRecDepth 20000 in
theorem uy_11 : ∀ w ∈ u_ws RX11 TX11 74, w ∈ uw := List.forall_mem_cons.mpr ⟨uy_11_0, List.forall_mem_cons.mpr ⟨uy_11_1, List.forall_mem_cons.mpr ⟨uy_11_2, List.forall_mem_cons.mpr ⟨uy_11_3, List.forall_mem_cons.mpr ⟨uy_11_4, List.forall_mem_cons.mpr ⟨uy_11_5, List.forall_mem_cons.mpr ⟨uy_11_6, List.forall_mem_cons.mpr ⟨uy_11_7, List.forall_mem_cons.mpr ⟨uy_11_8, List.forall_mem_cons.mpr ⟨uy_11_9, List.forall_mem_cons.mpr ⟨uy_11_10, List.forall_mem_cons.mpr ⟨uy_11_11, List.forall_mem_cons.mpr ⟨uy_11_12, List.forall_mem_cons.mpr ⟨uy_11_13, List.forall_mem_cons.mpr ⟨uy_11_14, List.forall_mem_cons.mpr ⟨uy_11_15, List.forall_mem_cons.mpr ⟨uy_11_16, List.forall_mem_cons.mpr ⟨uy_11_17, List.forall_mem_cons.mpr ⟨uy_11_18, List.forall_mem_cons.mpr ⟨uy_11_19, List.forall_mem_cons.mpr ⟨uy_11_20, List.forall_mem_cons.mpr ⟨uy_11_21, List.forall_mem_cons.mpr ⟨uy_11_22, List.forall_mem_cons.mpr ⟨uy_11_23, List.forall_mem_cons.mpr ⟨uy_11_24, List.forall_mem_cons.mpr ⟨uy_11_25, List.forall_mem_cons.mpr ⟨uy_11_26, List.forall_mem_cons.mpr ⟨uy_11_27, List.forall_mem_cons.mpr ⟨uy_11_28, List.forall_mem_cons.mpr ⟨uy_11_29, List.forall_mem_cons.mpr ⟨uy_11_30, List.forall_mem_cons.mpr ⟨uy_11_31, List.forall_mem_cons.mpr ⟨uy_11_32, List.forall_mem_cons.mpr ⟨uy_11_33, List.forall_mem_cons.mpr ⟨uy_11_34, List.forall_mem_cons.mpr ⟨uy_11_35, List.forall_mem_cons.mpr ⟨uy_11_36, List.forall_mem_cons.mpr ⟨uy_11_37, List.forall_mem_cons.mpr ⟨uy_11_38, List.forall_mem_cons.mpr ⟨uy_11_39, List.forall_mem_cons.mpr ⟨uy_11_40, List.forall_mem_cons.mpr ⟨uy_11_41, List.forall_mem_cons.mpr ⟨uy_11_42, List.forall_mem_cons.mpr ⟨uy_11_43, List.forall_mem_cons.mpr ⟨uy_11_44, List.forall_mem_cons.mpr ⟨uy_11_45, List.forall_mem_cons.mpr ⟨uy_11_46, List.forall_mem_cons.mpr ⟨uy_11_47, List.forall_mem_cons.mpr ⟨uy_11_48, List.forall_mem_cons.mpr ⟨uy_11_49, List.forall_mem_cons.mpr ⟨uy_11_50, List.forall_mem_cons.mpr ⟨uy_11_51, List.forall_mem_cons.mpr ⟨uy_11_52, List.forall_mem_cons.mpr ⟨uy_11_53, List.forall_mem_cons.mpr ⟨uy_11_54, List.forall_mem_cons.mpr ⟨uy_11_55, List.forall_mem_cons.mpr ⟨uy_11_56, List.forall_mem_cons.mpr ⟨uy_11_57, List.forall_mem_cons.mpr ⟨uy_11_58, List.forall_mem_cons.mpr ⟨uy_11_59, List.forall_mem_cons.mpr ⟨uy_11_60, List.forall_mem_cons.mpr ⟨uy_11_61, List.forall_mem_cons.mpr ⟨uy_11_62, List.forall_mem_cons.mpr ⟨uy_11_63, List.forall_mem_cons.mpr ⟨uy_11_64, List.forall_mem_cons.mpr ⟨uy_11_65, List.forall_mem_cons.mpr ⟨uy_11_66, List.forall_mem_cons.mpr ⟨uy_11_67, List.forall_mem_cons.mpr ⟨uy_11_68, List.forall_mem_cons.mpr ⟨uy_11_69, List.forall_mem_cons.mpr ⟨uy_11_70, List.forall_mem_cons.mpr ⟨uy_11_71, List.forall_mem_cons.mpr ⟨uy_11_72, List.forall_mem_cons.mpr ⟨uy_11_73, fun _ h => absurd h List.not_mem_nil⟩⟩⟩⟩⟩⟩⟩⟩⟩⟩⟩⟩⟩⟩⟩⟩⟩⟩⟩⟩⟩⟩⟩⟩⟩⟩⟩⟩⟩⟩⟩⟩⟩⟩⟩⟩⟩⟩⟩⟩⟩⟩⟩⟩⟩⟩⟩⟩⟩⟩⟩⟩⟩⟩⟩⟩⟩⟩⟩⟩⟩⟩⟩⟩⟩⟩⟩⟩⟩⟩⟩⟩⟩⟩
set_option maxRecDepth 20000 in
theorem uy_all : ab_ck uw vwCl := by
  intro ci C T N' h
  match ci, h with
  | 0, h => cases h; exact ⟨uy_0, ⟨tyX0, tyX0_ok⟩, nmX0⟩
  | 1, h => cases h; exact ⟨uy_1, ⟨tyX1, tyX1_ok⟩, nmX1⟩
  | 2, h => cases h; exact ⟨uy_2, ⟨tyX2, tyX2_ok⟩, nmX2⟩
  | 3, h => cases h; exact ⟨uy_3, ⟨tyX3, tyX3_ok⟩, nmX3⟩
  | 4, h => cases h; exact ⟨uy_4, ⟨tyX4, tyX4_ok⟩, nmX4⟩
  | 5, h => cases h; exact ⟨uy_5, ⟨tyX5, tyX5_ok⟩, nmX5⟩
  | 6, h => cases h; exact ⟨uy_6, ⟨tyX6, tyX6_ok⟩, nmX6⟩
  | 7, h => cases h; exact ⟨uy_7, ⟨tyX7, tyX7_ok⟩, nmX7⟩
  | 8, h => cases h; exact ⟨uy_8, ⟨tyX8, tyX8_ok⟩, nmX8⟩
  | 9, h => cases h; exact ⟨uy_9, ⟨tyX9, tyX9_ok⟩, nmX9⟩
  | 10, h => cases h; exact ⟨uy_10, ⟨tyX10, tyX10_ok⟩, nmX10⟩
  | 11, h => cases h; exact ⟨uy_11, ⟨tyX11, tyX11_ok⟩, nmX11⟩
  | k + 12, h => simp [vwCl] at h
set_option maxRecDepth 20000 in
theorem uc_all : ∀ M ∈ prg, ab_mk uw M := List.forall_mem_cons.mpr ⟨uc_X0_addFour, List.forall_mem_cons.mpr ⟨uc_X0_keepOfLast, List.forall_mem_cons.mpr ⟨uc_X0_endDocument, List.forall_mem_cons.mpr ⟨uc_X0_dropAll, List.forall_mem_cons.mpr ⟨uc_X1_become, List.forall_mem_cons.mpr ⟨uc_X1_stand, List.forall_mem_cons.mpr ⟨uc_X1_rows, List.forall_mem_cons.mpr ⟨uc_X1_beside, List.forall_mem_cons.mpr ⟨uc_X1_extend, List.forall_mem_cons.mpr ⟨uc_X1_undo, List.forall_mem_cons.mpr ⟨uc_X1_placeInOrder, List.forall_mem_cons.mpr ⟨uc_X1_neighbour, List.forall_mem_cons.mpr ⟨uc_X1_placesIn, List.forall_mem_cons.mpr ⟨uc_X1_countByDocument, List.forall_mem_cons.mpr ⟨uc_X1_documentInOrder, List.forall_mem_cons.mpr ⟨uc_X1_documentsAheadOf, List.forall_mem_cons.mpr ⟨uc_X2_learn, List.forall_mem_cons.mpr ⟨uc_X2_learnAlikes, List.forall_mem_cons.mpr ⟨uc_X2_learnFronts, List.forall_mem_cons.mpr ⟨uc_X2_alikeBehind, List.forall_mem_cons.mpr ⟨uc_X2_alikeFrom, List.forall_mem_cons.mpr ⟨uc_X2_has, List.forall_mem_cons.mpr ⟨uc_X2_hasDocument, List.forall_mem_cons.mpr ⟨uc_X2_endOf, List.forall_mem_cons.mpr ⟨uc_X2_bytesFrom, List.forall_mem_cons.mpr ⟨uc_X2_byteOf, List.forall_mem_cons.mpr ⟨uc_X2_tell, List.forall_mem_cons.mpr ⟨uc_X2_rowInFront, List.forall_mem_cons.mpr ⟨uc_X2_frontsUpTo, List.forall_mem_cons.mpr ⟨uc_X2_rowOfFront, List.forall_mem_cons.mpr ⟨uc_X2_sumOfAlikes, List.forall_mem_cons.mpr ⟨uc_X2_greatestAlike, List.forall_mem_cons.mpr ⟨uc_X3_forget, List.forall_mem_cons.mpr ⟨uc_X3_found, List.forall_mem_cons.mpr ⟨uc_X3_tellFound, List.forall_mem_cons.mpr ⟨uc_X3_answerQuery, List.forall_mem_cons.mpr ⟨uc_X3_goUp, List.forall_mem_cons.mpr ⟨uc_X3_goDown, List.forall_mem_cons.mpr ⟨uc_X3_goDownLeft, List.forall_mem_cons.mpr ⟨uc_X3_goDownTo, List.forall_mem_cons.mpr ⟨uc_X4_find, List.forall_mem_cons.mpr ⟨uc_X4_differAt, List.forall_mem_cons.mpr ⟨uc_X5_learn, List.forall_mem_cons.mpr ⟨uc_X5_learnEarlier, List.forall_mem_cons.mpr ⟨uc_X5_mirrored, List.forall_mem_cons.mpr ⟨uc_X5_learnReaches, List.forall_mem_cons.mpr ⟨uc_X5_learnGapReaches, List.forall_mem_cons.mpr ⟨uc_X5_factors, List.forall_mem_cons.mpr ⟨uc_X5_tellFactor, List.forall_mem_cons.mpr ⟨uc_X5_leastEarlier, List.forall_mem_cons.mpr ⟨uc_X5_fallingWord, List.forall_mem_cons.mpr ⟨uc_X5_periodOfWords, List.forall_mem_cons.mpr ⟨uc_X5_endOfWords, List.forall_mem_cons.mpr ⟨uc_X5_leastTwice, List.forall_mem_cons.mpr ⟨uc_X5_nearer, List.forall_mem_cons.mpr ⟨uc_X5_longestMirror, List.forall_mem_cons.mpr ⟨uc_X5_longestIn, List.forall_mem_cons.mpr ⟨uc_X6_add, List.forall_mem_cons.mpr ⟨uc_X6_read, List.forall_mem_cons.mpr ⟨uc_X6_comes, List.forall_mem_cons.mpr ⟨uc_X6_goesOn, List.forall_mem_cons.mpr ⟨uc_X6_bounded, List.forall_mem_cons.mpr ⟨uc_X6_readSum, List.forall_mem_cons.mpr ⟨uc_X6_readItem, List.forall_mem_cons.mpr ⟨uc_X6_copies, List.forall_mem_cons.mpr ⟨uc_X6_readAtom, List.forall_mem_cons.mpr ⟨uc_X6_readPlain, List.forall_mem_cons.mpr ⟨uc_X6_readBrackets, List.forall_mem_cons.mpr ⟨uc_X6_readSign, List.forall_mem_cons.mpr ⟨uc_X6_readByte, List.forall_mem_cons.mpr ⟨uc_X6_readRanges, List.forall_mem_cons.mpr ⟨uc_X6_readRange, List.forall_mem_cons.mpr ⟨uc_X6_readRangeByte, List.forall_mem_cons.mpr ⟨uc_X6_addBytes, List.forall_mem_cons.mpr ⟨uc_X6_mayBe, List.forall_mem_cons.mpr ⟨uc_X6_readRepeat, List.forall_mem_cons.mpr ⟨uc_X6_repeat, List.forall_mem_cons.mpr ⟨uc_X6_readNumbers, List.forall_mem_cons.mpr ⟨uc_X6_readNumber, List.forall_mem_cons.mpr ⟨uc_X6_figureComes, List.forall_mem_cons.mpr ⟨uc_X7_learn, List.forall_mem_cons.mpr ⟨uc_X7_lengthOf, List.forall_mem_cons.mpr ⟨uc_X7_newOf, List.forall_mem_cons.mpr ⟨uc_X7_howManyOf, List.forall_mem_cons.mpr ⟨uc_X7_holdInOrder, List.forall_mem_cons.mpr ⟨uc_X7_lesserThanHeld, List.forall_mem_cons.mpr ⟨uc_X7_holdLongest, List.forall_mem_cons.mpr ⟨uc_X7_firstRun, List.forall_mem_cons.mpr ⟨uc_X7_holdOftenest, List.forall_mem_cons.mpr ⟨uc_X7_leastAlone, List.forall_mem_cons.mpr ⟨uc_X7_holdMaximal, List.forall_mem_cons.mpr ⟨uc_X7_maximalFrom, List.forall_mem_cons.mpr ⟨uc_X7_maximalLength, List.forall_mem_cons.mpr ⟨uc_X7_howManyAbsent, List.forall_mem_cons.mpr ⟨uc_X8_arrange, List.forall_mem_cons.mpr ⟨uc_X8_sortByHalves, List.forall_mem_cons.mpr ⟨uc_X8_sortByRank, List.forall_mem_cons.mpr ⟨uc_X8_rankAnew, List.forall_mem_cons.mpr ⟨uc_X8_rankAt, List.forall_mem_cons.mpr ⟨uc_X9_grown, List.forall_mem_cons.mpr ⟨uc_X9_comes, List.forall_mem_cons.mpr ⟨uc_X9_growSum, List.forall_mem_cons.mpr ⟨uc_X9_growRow, List.forall_mem_cons.mpr ⟨uc_X9_growItem, List.forall_mem_cons.mpr ⟨uc_X9_growAtom, List.forall_mem_cons.mpr ⟨uc_X9_joined, List.forall_mem_cons.mpr ⟨uc_X9_choice, List.forall_mem_cons.mpr ⟨uc_X9_node, List.forall_mem_cons.mpr ⟨uc_X10_feed, List.forall_mem_cons.mpr ⟨uc_X10_end, List.forall_mem_cons.mpr ⟨uc_X10_cut, List.forall_mem_cons.mpr ⟨uc_X10_clear, List.forall_mem_cons.mpr ⟨uc_X10_build, List.forall_mem_cons.mpr ⟨uc_X10_place, List.forall_mem_cons.mpr ⟨uc_X10_row, List.forall_mem_cons.mpr ⟨uc_X10_shared, List.forall_mem_cons.mpr ⟨uc_X10_before, List.forall_mem_cons.mpr ⟨uc_X10_step, List.forall_mem_cons.mpr ⟨uc_X10_rank, List.forall_mem_cons.mpr ⟨uc_X10_select, List.forall_mem_cons.mpr ⟨uc_X10_byteAt, List.forall_mem_cons.mpr ⟨uc_X10_document, List.forall_mem_cons.mpr ⟨uc_X10_alike, List.forall_mem_cons.mpr ⟨uc_X10_begin, List.forall_mem_cons.mpr ⟨uc_X10_grow, List.forall_mem_cons.mpr ⟨uc_X10_front, List.forall_mem_cons.mpr ⟨uc_X10_back, List.forall_mem_cons.mpr ⟨uc_X10_pattern, List.forall_mem_cons.mpr ⟨uc_X10_patternByte, List.forall_mem_cons.mpr ⟨uc_X10_at, List.forall_mem_cons.mpr ⟨uc_X10_sorted, List.forall_mem_cons.mpr ⟨uc_X10_more, List.forall_mem_cons.mpr ⟨uc_X10_ranked, List.forall_mem_cons.mpr ⟨uc_X10_times, List.forall_mem_cons.mpr ⟨uc_X10_take, List.forall_mem_cons.mpr ⟨uc_X10_near, List.forall_mem_cons.mpr ⟨uc_X10_nearOf, List.forall_mem_cons.mpr ⟨uc_X10_ask, List.forall_mem_cons.mpr ⟨uc_X10_answer, List.forall_mem_cons.mpr ⟨uc_X10_answered, List.forall_mem_cons.mpr ⟨uc_X10_different, List.forall_mem_cons.mpr ⟨uc_X10_kth, List.forall_mem_cons.mpr ⟨uc_X10_order, List.forall_mem_cons.mpr ⟨uc_X10_repeated, List.forall_mem_cons.mpr ⟨uc_X10_common, List.forall_mem_cons.mpr ⟨uc_X10_oftenest, List.forall_mem_cons.mpr ⟨uc_X10_unique, List.forall_mem_cons.mpr ⟨uc_X10_maximal, List.forall_mem_cons.mpr ⟨uc_X10_absent, List.forall_mem_cons.mpr ⟨uc_X10_factor, List.forall_mem_cons.mpr ⟨uc_X10_word, List.forall_mem_cons.mpr ⟨uc_X10_square, List.forall_mem_cons.mpr ⟨uc_X10_mirror, List.forall_mem_cons.mpr ⟨uc_X10_match, List.forall_mem_cons.mpr ⟨uc_X10_count, List.forall_mem_cons.mpr ⟨uc_X10_unwound, List.forall_mem_cons.mpr ⟨uc_X10_countOfIndex, List.forall_mem_cons.mpr ⟨uc_X10_isByte, List.forall_mem_cons.mpr ⟨uc_X11_feed, List.forall_mem_cons.mpr ⟨uc_X11_end, List.forall_mem_cons.mpr ⟨uc_X11_cut, List.forall_mem_cons.mpr ⟨uc_X11_clear, List.forall_mem_cons.mpr ⟨uc_X11_keyAt, List.forall_mem_cons.mpr ⟨uc_X11_sortBy, List.forall_mem_cons.mpr ⟨uc_X11_sortAll, List.forall_mem_cons.mpr ⟨uc_X11_findShares, List.forall_mem_cons.mpr ⟨uc_X11_build, List.forall_mem_cons.mpr ⟨uc_X11_isRow, List.forall_mem_cons.mpr ⟨uc_X11_isDocument, List.forall_mem_cons.mpr ⟨uc_X11_isByte, List.forall_mem_cons.mpr ⟨uc_X11_left, List.forall_mem_cons.mpr ⟨uc_X11_stepsOf, List.forall_mem_cons.mpr ⟨uc_X11_place, List.forall_mem_cons.mpr ⟨uc_X11_row, List.forall_mem_cons.mpr ⟨uc_X11_shared, List.forall_mem_cons.mpr ⟨uc_X11_beforeOf, List.forall_mem_cons.mpr ⟨uc_X11_before, List.forall_mem_cons.mpr ⟨uc_X11_step, List.forall_mem_cons.mpr ⟨uc_X11_rank, List.forall_mem_cons.mpr ⟨uc_X11_select, List.forall_mem_cons.mpr ⟨uc_X11_byteAt, List.forall_mem_cons.mpr ⟨uc_X11_document, List.forall_mem_cons.mpr ⟨uc_X11_alikeOf, List.forall_mem_cons.mpr ⟨uc_X11_alike, List.forall_mem_cons.mpr ⟨uc_X11_toEmpty, List.forall_mem_cons.mpr ⟨uc_X11_begin, List.forall_mem_cons.mpr ⟨uc_X11_findRows, List.forall_mem_cons.mpr ⟨uc_X11_become, List.forall_mem_cons.mpr ⟨uc_X11_grow, List.forall_mem_cons.mpr ⟨uc_X11_front, List.forall_mem_cons.mpr ⟨uc_X11_back, List.forall_mem_cons.mpr ⟨uc_X11_pattern, List.forall_mem_cons.mpr ⟨uc_X11_patternByte, List.forall_mem_cons.mpr ⟨uc_X11_at, List.forall_mem_cons.mpr ⟨uc_X11_isAt, List.forall_mem_cons.mpr ⟨uc_X11_sorted, List.forall_mem_cons.mpr ⟨uc_X11_more, List.forall_mem_cons.mpr ⟨uc_X11_timesOf, List.forall_mem_cons.mpr ⟨uc_X11_ranked, List.forall_mem_cons.mpr ⟨uc_X11_times, List.forall_mem_cons.mpr ⟨uc_X11_take, List.forall_mem_cons.mpr ⟨uc_X11_near, List.forall_mem_cons.mpr ⟨uc_X11_nearOf, List.forall_mem_cons.mpr ⟨uc_X11_ask, List.forall_mem_cons.mpr ⟨uc_X11_sign, List.forall_mem_cons.mpr ⟨uc_X11_fail, List.forall_mem_cons.mpr ⟨uc_X11_isFigure, List.forall_mem_cons.mpr ⟨uc_X11_number, List.forall_mem_cons.mpr ⟨uc_X11_braces, List.forall_mem_cons.mpr ⟨uc_X11_rangeByte, List.forall_mem_cons.mpr ⟨uc_X11_ranges, List.forall_mem_cons.mpr ⟨uc_X11_openOne, List.forall_mem_cons.mpr ⟨uc_X11_addMade, List.forall_mem_cons.mpr ⟨uc_X11_endRow, List.forall_mem_cons.mpr ⟨uc_X11_begunAtom, List.forall_mem_cons.mpr ⟨uc_X11_endItem, List.forall_mem_cons.mpr ⟨uc_X11_again, List.forall_mem_cons.mpr ⟨uc_X11_repeat, List.forall_mem_cons.mpr ⟨uc_X11_goOver, List.forall_mem_cons.mpr ⟨uc_X11_quantify, List.forall_mem_cons.mpr ⟨uc_X11_atom, List.forall_mem_cons.mpr ⟨uc_X11_follow, List.forall_mem_cons.mpr ⟨uc_X11_findPositions, List.forall_mem_cons.mpr ⟨uc_X11_fits, List.forall_mem_cons.mpr ⟨uc_X11_matchFrom, List.forall_mem_cons.mpr ⟨uc_X11_answer, List.forall_mem_cons.mpr ⟨uc_X11_answered, List.forall_mem_cons.mpr ⟨uc_X11_freshOf, List.forall_mem_cons.mpr ⟨uc_X11_different, List.forall_mem_cons.mpr ⟨uc_X11_kth, List.forall_mem_cons.mpr ⟨uc_X11_order, List.forall_mem_cons.mpr ⟨uc_X11_becomeBest, List.forall_mem_cons.mpr ⟨uc_X11_repeated, List.forall_mem_cons.mpr ⟨uc_X11_common, List.forall_mem_cons.mpr ⟨uc_X11_oftenest, List.forall_mem_cons.mpr ⟨uc_X11_unique, List.forall_mem_cons.mpr ⟨uc_X11_isOneBefore, List.forall_mem_cons.mpr ⟨uc_X11_maximal, List.forall_mem_cons.mpr ⟨uc_X11_absent, List.forall_mem_cons.mpr ⟨uc_X11_findFactors, List.forall_mem_cons.mpr ⟨uc_X11_factor, List.forall_mem_cons.mpr ⟨uc_X11_word, List.forall_mem_cons.mpr ⟨uc_X11_square, List.forall_mem_cons.mpr ⟨uc_X11_mirror, List.forall_mem_cons.mpr ⟨uc_X11_match, List.forall_mem_cons.mpr ⟨uc_X11_countRows, List.forall_mem_cons.mpr ⟨uc_X11_countBytes, List.forall_mem_cons.mpr ⟨uc_X11_count, List.forall_mem_cons.mpr ⟨uc_X11_unwound, List.forall_mem_cons.mpr ⟨uc_J7_rangeCheck_23922, List.forall_mem_cons.mpr ⟨uc_J7_fill_bad5a, List.forall_mem_cons.mpr ⟨uc_J7_fill_53178, List.forall_mem_cons.mpr ⟨uc_J7_fill_fda19, fun _ h => absurd h List.not_mem_nil⟩⟩⟩⟩⟩⟩⟩⟩⟩⟩⟩⟩⟩⟩⟩⟩⟩⟩⟩⟩⟩⟩⟩⟩⟩⟩⟩⟩⟩⟩⟩⟩⟩⟩⟩⟩⟩⟩⟩⟩⟩⟩⟩⟩⟩⟩⟩⟩⟩⟩⟩⟩⟩⟩⟩⟩⟩⟩⟩⟩⟩⟩⟩⟩⟩⟩⟩⟩⟩⟩⟩⟩⟩⟩⟩⟩⟩⟩⟩⟩⟩⟩⟩⟩⟩⟩⟩⟩⟩⟩⟩⟩⟩⟩⟩⟩⟩⟩⟩⟩⟩⟩⟩⟩⟩⟩⟩⟩⟩⟩⟩⟩⟩⟩⟩⟩⟩⟩⟩⟩⟩⟩⟩⟩⟩⟩⟩⟩⟩⟩⟩⟩⟩⟩⟩⟩⟩⟩⟩⟩⟩⟩⟩⟩⟩⟩⟩⟩⟩⟩⟩⟩⟩⟩⟩⟩⟩⟩⟩⟩⟩⟩⟩⟩⟩⟩⟩⟩⟩⟩⟩⟩⟩⟩⟩⟩⟩⟩⟩⟩⟩⟩⟩⟩⟩⟩⟩⟩⟩⟩⟩⟩⟩⟩⟩⟩⟩⟩⟩⟩⟩⟩⟩⟩⟩⟩⟩⟩⟩⟩⟩⟩⟩⟩⟩⟩⟩⟩⟩⟩⟩⟩⟩⟩⟩⟩⟩⟩⟩⟩⟩⟩⟩⟩⟩⟩⟩⟩⟩⟩⟩⟩⟩⟩⟩⟩⟩⟩⟩⟩⟩⟩⟩
set_option maxRecDepth 20000 in
theorem ux_all : ∀ M ∈ prg, ab_cd uw vwCl prg M := List.forall_mem_cons.mpr ⟨ux_X0_addFour, List.forall_mem_cons.mpr ⟨ux_X0_keepOfLast, List.forall_mem_cons.mpr ⟨ux_X0_endDocument, List.forall_mem_cons.mpr ⟨ux_X0_dropAll, List.forall_mem_cons.mpr ⟨ux_X1_become, List.forall_mem_cons.mpr ⟨ux_X1_stand, List.forall_mem_cons.mpr ⟨ux_X1_rows, List.forall_mem_cons.mpr ⟨ux_X1_beside, List.forall_mem_cons.mpr ⟨ux_X1_extend, List.forall_mem_cons.mpr ⟨ux_X1_undo, List.forall_mem_cons.mpr ⟨ux_X1_placeInOrder, List.forall_mem_cons.mpr ⟨ux_X1_neighbour, List.forall_mem_cons.mpr ⟨ux_X1_placesIn, List.forall_mem_cons.mpr ⟨ux_X1_countByDocument, List.forall_mem_cons.mpr ⟨ux_X1_documentInOrder, List.forall_mem_cons.mpr ⟨ux_X1_documentsAheadOf, List.forall_mem_cons.mpr ⟨ux_X2_learn, List.forall_mem_cons.mpr ⟨ux_X2_learnAlikes, List.forall_mem_cons.mpr ⟨ux_X2_learnFronts, List.forall_mem_cons.mpr ⟨ux_X2_alikeBehind, List.forall_mem_cons.mpr ⟨ux_X2_alikeFrom, List.forall_mem_cons.mpr ⟨ux_X2_has, List.forall_mem_cons.mpr ⟨ux_X2_hasDocument, List.forall_mem_cons.mpr ⟨ux_X2_endOf, List.forall_mem_cons.mpr ⟨ux_X2_bytesFrom, List.forall_mem_cons.mpr ⟨ux_X2_byteOf, List.forall_mem_cons.mpr ⟨ux_X2_tell, List.forall_mem_cons.mpr ⟨ux_X2_rowInFront, List.forall_mem_cons.mpr ⟨ux_X2_frontsUpTo, List.forall_mem_cons.mpr ⟨ux_X2_rowOfFront, List.forall_mem_cons.mpr ⟨ux_X2_sumOfAlikes, List.forall_mem_cons.mpr ⟨ux_X2_greatestAlike, List.forall_mem_cons.mpr ⟨ux_X3_forget, List.forall_mem_cons.mpr ⟨ux_X3_found, List.forall_mem_cons.mpr ⟨ux_X3_tellFound, List.forall_mem_cons.mpr ⟨ux_X3_answerQuery, List.forall_mem_cons.mpr ⟨ux_X3_goUp, List.forall_mem_cons.mpr ⟨ux_X3_goDown, List.forall_mem_cons.mpr ⟨ux_X3_goDownLeft, List.forall_mem_cons.mpr ⟨ux_X3_goDownTo, List.forall_mem_cons.mpr ⟨ux_X4_find, List.forall_mem_cons.mpr ⟨ux_X4_differAt, List.forall_mem_cons.mpr ⟨ux_X5_learn, List.forall_mem_cons.mpr ⟨ux_X5_learnEarlier, List.forall_mem_cons.mpr ⟨ux_X5_mirrored, List.forall_mem_cons.mpr ⟨ux_X5_learnReaches, List.forall_mem_cons.mpr ⟨ux_X5_learnGapReaches, List.forall_mem_cons.mpr ⟨ux_X5_factors, List.forall_mem_cons.mpr ⟨ux_X5_tellFactor, List.forall_mem_cons.mpr ⟨ux_X5_leastEarlier, List.forall_mem_cons.mpr ⟨ux_X5_fallingWord, List.forall_mem_cons.mpr ⟨ux_X5_periodOfWords, List.forall_mem_cons.mpr ⟨ux_X5_endOfWords, List.forall_mem_cons.mpr ⟨ux_X5_leastTwice, List.forall_mem_cons.mpr ⟨ux_X5_nearer, List.forall_mem_cons.mpr ⟨ux_X5_longestMirror, List.forall_mem_cons.mpr ⟨ux_X5_longestIn, List.forall_mem_cons.mpr ⟨ux_X6_add, List.forall_mem_cons.mpr ⟨ux_X6_read, List.forall_mem_cons.mpr ⟨ux_X6_comes, List.forall_mem_cons.mpr ⟨ux_X6_goesOn, List.forall_mem_cons.mpr ⟨ux_X6_bounded, List.forall_mem_cons.mpr ⟨ux_X6_readSum, List.forall_mem_cons.mpr ⟨ux_X6_readItem, List.forall_mem_cons.mpr ⟨ux_X6_copies, List.forall_mem_cons.mpr ⟨ux_X6_readAtom, List.forall_mem_cons.mpr ⟨ux_X6_readPlain, List.forall_mem_cons.mpr ⟨ux_X6_readBrackets, List.forall_mem_cons.mpr ⟨ux_X6_readSign, List.forall_mem_cons.mpr ⟨ux_X6_readByte, List.forall_mem_cons.mpr ⟨ux_X6_readRanges, List.forall_mem_cons.mpr ⟨ux_X6_readRange, List.forall_mem_cons.mpr ⟨ux_X6_readRangeByte, List.forall_mem_cons.mpr ⟨ux_X6_addBytes, List.forall_mem_cons.mpr ⟨ux_X6_mayBe, List.forall_mem_cons.mpr ⟨ux_X6_readRepeat, List.forall_mem_cons.mpr ⟨ux_X6_repeat, List.forall_mem_cons.mpr ⟨ux_X6_readNumbers, List.forall_mem_cons.mpr ⟨ux_X6_readNumber, List.forall_mem_cons.mpr ⟨ux_X6_figureComes, List.forall_mem_cons.mpr ⟨ux_X7_learn, List.forall_mem_cons.mpr ⟨ux_X7_lengthOf, List.forall_mem_cons.mpr ⟨ux_X7_newOf, List.forall_mem_cons.mpr ⟨ux_X7_howManyOf, List.forall_mem_cons.mpr ⟨ux_X7_holdInOrder, List.forall_mem_cons.mpr ⟨ux_X7_lesserThanHeld, List.forall_mem_cons.mpr ⟨ux_X7_holdLongest, List.forall_mem_cons.mpr ⟨ux_X7_firstRun, List.forall_mem_cons.mpr ⟨ux_X7_holdOftenest, List.forall_mem_cons.mpr ⟨ux_X7_leastAlone, List.forall_mem_cons.mpr ⟨ux_X7_holdMaximal, List.forall_mem_cons.mpr ⟨ux_X7_maximalFrom, List.forall_mem_cons.mpr ⟨ux_X7_maximalLength, List.forall_mem_cons.mpr ⟨ux_X7_howManyAbsent, List.forall_mem_cons.mpr ⟨ux_X8_arrange, List.forall_mem_cons.mpr ⟨ux_X8_sortByHalves, List.forall_mem_cons.mpr ⟨ux_X8_sortByRank, List.forall_mem_cons.mpr ⟨ux_X8_rankAnew, List.forall_mem_cons.mpr ⟨ux_X8_rankAt, List.forall_mem_cons.mpr ⟨ux_X9_grown, List.forall_mem_cons.mpr ⟨ux_X9_comes, List.forall_mem_cons.mpr ⟨ux_X9_growSum, List.forall_mem_cons.mpr ⟨ux_X9_growRow, List.forall_mem_cons.mpr ⟨ux_X9_growItem, List.forall_mem_cons.mpr ⟨ux_X9_growAtom, List.forall_mem_cons.mpr ⟨ux_X9_joined, List.forall_mem_cons.mpr ⟨ux_X9_choice, List.forall_mem_cons.mpr ⟨ux_X9_node, List.forall_mem_cons.mpr ⟨ux_X10_feed, List.forall_mem_cons.mpr ⟨ux_X10_end, List.forall_mem_cons.mpr ⟨ux_X10_cut, List.forall_mem_cons.mpr ⟨ux_X10_clear, List.forall_mem_cons.mpr ⟨ux_X10_build, List.forall_mem_cons.mpr ⟨ux_X10_place, List.forall_mem_cons.mpr ⟨ux_X10_row, List.forall_mem_cons.mpr ⟨ux_X10_shared, List.forall_mem_cons.mpr ⟨ux_X10_before, List.forall_mem_cons.mpr ⟨ux_X10_step, List.forall_mem_cons.mpr ⟨ux_X10_rank, List.forall_mem_cons.mpr ⟨ux_X10_select, List.forall_mem_cons.mpr ⟨ux_X10_byteAt, List.forall_mem_cons.mpr ⟨ux_X10_document, List.forall_mem_cons.mpr ⟨ux_X10_alike, List.forall_mem_cons.mpr ⟨ux_X10_begin, List.forall_mem_cons.mpr ⟨ux_X10_grow, List.forall_mem_cons.mpr ⟨ux_X10_front, List.forall_mem_cons.mpr ⟨ux_X10_back, List.forall_mem_cons.mpr ⟨ux_X10_pattern, List.forall_mem_cons.mpr ⟨ux_X10_patternByte, List.forall_mem_cons.mpr ⟨ux_X10_at, List.forall_mem_cons.mpr ⟨ux_X10_sorted, List.forall_mem_cons.mpr ⟨ux_X10_more, List.forall_mem_cons.mpr ⟨ux_X10_ranked, List.forall_mem_cons.mpr ⟨ux_X10_times, List.forall_mem_cons.mpr ⟨ux_X10_take, List.forall_mem_cons.mpr ⟨ux_X10_near, List.forall_mem_cons.mpr ⟨ux_X10_nearOf, List.forall_mem_cons.mpr ⟨ux_X10_ask, List.forall_mem_cons.mpr ⟨ux_X10_answer, List.forall_mem_cons.mpr ⟨ux_X10_answered, List.forall_mem_cons.mpr ⟨ux_X10_different, List.forall_mem_cons.mpr ⟨ux_X10_kth, List.forall_mem_cons.mpr ⟨ux_X10_order, List.forall_mem_cons.mpr ⟨ux_X10_repeated, List.forall_mem_cons.mpr ⟨ux_X10_common, List.forall_mem_cons.mpr ⟨ux_X10_oftenest, List.forall_mem_cons.mpr ⟨ux_X10_unique, List.forall_mem_cons.mpr ⟨ux_X10_maximal, List.forall_mem_cons.mpr ⟨ux_X10_absent, List.forall_mem_cons.mpr ⟨ux_X10_factor, List.forall_mem_cons.mpr ⟨ux_X10_word, List.forall_mem_cons.mpr ⟨ux_X10_square, List.forall_mem_cons.mpr ⟨ux_X10_mirror, List.forall_mem_cons.mpr ⟨ux_X10_match, List.forall_mem_cons.mpr ⟨ux_X10_count, List.forall_mem_cons.mpr ⟨ux_X10_unwound, List.forall_mem_cons.mpr ⟨ux_X10_countOfIndex, List.forall_mem_cons.mpr ⟨ux_X10_isByte, List.forall_mem_cons.mpr ⟨ux_X11_feed, List.forall_mem_cons.mpr ⟨ux_X11_end, List.forall_mem_cons.mpr ⟨ux_X11_cut, List.forall_mem_cons.mpr ⟨ux_X11_clear, List.forall_mem_cons.mpr ⟨ux_X11_keyAt, List.forall_mem_cons.mpr ⟨ux_X11_sortBy, List.forall_mem_cons.mpr ⟨ux_X11_sortAll, List.forall_mem_cons.mpr ⟨ux_X11_findShares, List.forall_mem_cons.mpr ⟨ux_X11_build, List.forall_mem_cons.mpr ⟨ux_X11_isRow, List.forall_mem_cons.mpr ⟨ux_X11_isDocument, List.forall_mem_cons.mpr ⟨ux_X11_isByte, List.forall_mem_cons.mpr ⟨ux_X11_left, List.forall_mem_cons.mpr ⟨ux_X11_stepsOf, List.forall_mem_cons.mpr ⟨ux_X11_place, List.forall_mem_cons.mpr ⟨ux_X11_row, List.forall_mem_cons.mpr ⟨ux_X11_shared, List.forall_mem_cons.mpr ⟨ux_X11_beforeOf, List.forall_mem_cons.mpr ⟨ux_X11_before, List.forall_mem_cons.mpr ⟨ux_X11_step, List.forall_mem_cons.mpr ⟨ux_X11_rank, List.forall_mem_cons.mpr ⟨ux_X11_select, List.forall_mem_cons.mpr ⟨ux_X11_byteAt, List.forall_mem_cons.mpr ⟨ux_X11_document, List.forall_mem_cons.mpr ⟨ux_X11_alikeOf, List.forall_mem_cons.mpr ⟨ux_X11_alike, List.forall_mem_cons.mpr ⟨ux_X11_toEmpty, List.forall_mem_cons.mpr ⟨ux_X11_begin, List.forall_mem_cons.mpr ⟨ux_X11_findRows, List.forall_mem_cons.mpr ⟨ux_X11_become, List.forall_mem_cons.mpr ⟨ux_X11_grow, List.forall_mem_cons.mpr ⟨ux_X11_front, List.forall_mem_cons.mpr ⟨ux_X11_back, List.forall_mem_cons.mpr ⟨ux_X11_pattern, List.forall_mem_cons.mpr ⟨ux_X11_patternByte, List.forall_mem_cons.mpr ⟨ux_X11_at, List.forall_mem_cons.mpr ⟨ux_X11_isAt, List.forall_mem_cons.mpr ⟨ux_X11_sorted, List.forall_mem_cons.mpr ⟨ux_X11_more, List.forall_mem_cons.mpr ⟨ux_X11_timesOf, List.forall_mem_cons.mpr ⟨ux_X11_ranked, List.forall_mem_cons.mpr ⟨ux_X11_times, List.forall_mem_cons.mpr ⟨ux_X11_take, List.forall_mem_cons.mpr ⟨ux_X11_near, List.forall_mem_cons.mpr ⟨ux_X11_nearOf, List.forall_mem_cons.mpr ⟨ux_X11_ask, List.forall_mem_cons.mpr ⟨ux_X11_sign, List.forall_mem_cons.mpr ⟨ux_X11_fail, List.forall_mem_cons.mpr ⟨ux_X11_isFigure, List.forall_mem_cons.mpr ⟨ux_X11_number, List.forall_mem_cons.mpr ⟨ux_X11_braces, List.forall_mem_cons.mpr ⟨ux_X11_rangeByte, List.forall_mem_cons.mpr ⟨ux_X11_ranges, List.forall_mem_cons.mpr ⟨ux_X11_openOne, List.forall_mem_cons.mpr ⟨ux_X11_addMade, List.forall_mem_cons.mpr ⟨ux_X11_endRow, List.forall_mem_cons.mpr ⟨ux_X11_begunAtom, List.forall_mem_cons.mpr ⟨ux_X11_endItem, List.forall_mem_cons.mpr ⟨ux_X11_again, List.forall_mem_cons.mpr ⟨ux_X11_repeat, List.forall_mem_cons.mpr ⟨ux_X11_goOver, List.forall_mem_cons.mpr ⟨ux_X11_quantify, List.forall_mem_cons.mpr ⟨ux_X11_atom, List.forall_mem_cons.mpr ⟨ux_X11_follow, List.forall_mem_cons.mpr ⟨ux_X11_findPositions, List.forall_mem_cons.mpr ⟨ux_X11_fits, List.forall_mem_cons.mpr ⟨ux_X11_matchFrom, List.forall_mem_cons.mpr ⟨ux_X11_answer, List.forall_mem_cons.mpr ⟨ux_X11_answered, List.forall_mem_cons.mpr ⟨ux_X11_freshOf, List.forall_mem_cons.mpr ⟨ux_X11_different, List.forall_mem_cons.mpr ⟨ux_X11_kth, List.forall_mem_cons.mpr ⟨ux_X11_order, List.forall_mem_cons.mpr ⟨ux_X11_becomeBest, List.forall_mem_cons.mpr ⟨ux_X11_repeated, List.forall_mem_cons.mpr ⟨ux_X11_common, List.forall_mem_cons.mpr ⟨ux_X11_oftenest, List.forall_mem_cons.mpr ⟨ux_X11_unique, List.forall_mem_cons.mpr ⟨ux_X11_isOneBefore, List.forall_mem_cons.mpr ⟨ux_X11_maximal, List.forall_mem_cons.mpr ⟨ux_X11_absent, List.forall_mem_cons.mpr ⟨ux_X11_findFactors, List.forall_mem_cons.mpr ⟨ux_X11_factor, List.forall_mem_cons.mpr ⟨ux_X11_word, List.forall_mem_cons.mpr ⟨ux_X11_square, List.forall_mem_cons.mpr ⟨ux_X11_mirror, List.forall_mem_cons.mpr ⟨ux_X11_match, List.forall_mem_cons.mpr ⟨ux_X11_countRows, List.forall_mem_cons.mpr ⟨ux_X11_countBytes, List.forall_mem_cons.mpr ⟨ux_X11_count, List.forall_mem_cons.mpr ⟨ux_X11_unwound, List.forall_mem_cons.mpr ⟨ux_J7_rangeCheck_23922, List.forall_mem_cons.mpr ⟨ux_J7_fill_bad5a, List.forall_mem_cons.mpr ⟨ux_J7_fill_53178, List.forall_mem_cons.mpr ⟨ux_J7_fill_fda19, fun _ h => absurd h List.not_mem_nil⟩⟩⟩⟩⟩⟩⟩⟩⟩⟩⟩⟩⟩⟩⟩⟩⟩⟩⟩⟩⟩⟩⟩⟩⟩⟩⟩⟩⟩⟩⟩⟩⟩⟩⟩⟩⟩⟩⟩⟩⟩⟩⟩⟩⟩⟩⟩⟩⟩⟩⟩⟩⟩⟩⟩⟩⟩⟩⟩⟩⟩⟩⟩⟩⟩⟩⟩⟩⟩⟩⟩⟩⟩⟩⟩⟩⟩⟩⟩⟩⟩⟩⟩⟩⟩⟩⟩⟩⟩⟩⟩⟩⟩⟩⟩⟩⟩⟩⟩⟩⟩⟩⟩⟩⟩⟩⟩⟩⟩⟩⟩⟩⟩⟩⟩⟩⟩⟩⟩⟩⟩⟩⟩⟩⟩⟩⟩⟩⟩⟩⟩⟩⟩⟩⟩⟩⟩⟩⟩⟩⟩⟩⟩⟩⟩⟩⟩⟩⟩⟩⟩⟩⟩⟩⟩⟩⟩⟩⟩⟩⟩⟩⟩⟩⟩⟩⟩⟩⟩⟩⟩⟩⟩⟩⟩⟩⟩⟩⟩⟩⟩⟩⟩⟩⟩⟩⟩⟩⟩⟩⟩⟩⟩⟩⟩⟩⟩⟩⟩⟩⟩⟩⟩⟩⟩⟩⟩⟩⟩⟩⟩⟩⟩⟩⟩⟩⟩⟩⟩⟩⟩⟩⟩⟩⟩⟩⟩⟩⟩⟩⟩⟩⟩⟩⟩⟩⟩⟩⟩⟩⟩⟩⟩⟩⟩⟩⟩⟩⟩⟩⟩⟩⟩
theorem sound_all {l : Launch} {D : va_G} {sh : ab_Sh} {N : Nat} {ad : Nat → Nat} {dA : Nat → ClassId} (hinj : ∀ i j, i < N → j < N → ad i = ad j → i = j) (d k : Nat) (M : ab_M) (as : List Value) (S : ab_S) (Q : ab_Q) (hM : prg[k]? = some M) (h : ab_T sh N prg d k as S Q) : ab_met l D vwCl sh N ad dA uw d M as S Q :=
  ab_sound uw_good uy_all (fun k M h => uc_all M (List.mem_of_getElem? h)) (fun k M h => ux_all M (List.mem_of_getElem? h)) hinj d k M as S Q hM h
