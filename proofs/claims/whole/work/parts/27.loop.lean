/-! ===== the law's loop, out of what each pair of calls keeps ===== -/
def Sp_feed (I : Nat → iz_A → Prop) : Prop := ∀ (k : Nat) (A : iz_A) (a1 a2 a3 a4 a5 : Int), k < 64 → I k A → inR a1 → inR a2 → inR a3 → inR a4 → inR a5 → Bo 108 158 [.inl a1, .inl a2, .inl a3, .inl a4, .inl a5] [.inl a1, .inl a2, .inl a3, .inl a4, .inl a5] A (I (k + 1))
def Sp_end (I : Nat → iz_A → Prop) : Prop := ∀ (k : Nat) (A : iz_A) (a1 : Int), k < 64 → I k A → inR a1 → Bo 109 159 [.inl a1] [.inl a1] A (I (k + 1))
def Sp_cut (I : Nat → iz_A → Prop) : Prop := ∀ (k : Nat) (A : iz_A), k < 64 → I k A → Bo 110 160 [] [] A (I (k + 1))
def Sp_clear (I : Nat → iz_A → Prop) : Prop := ∀ (k : Nat) (A : iz_A), k < 64 → I k A → Bo 111 161 [] [] A (I (k + 1))
def Sp_build (I : Nat → iz_A → Prop) : Prop := ∀ (k : Nat) (A : iz_A) (a1 : Int), k < 64 → I k A → inR a1 → Bo 112 166 [.inl a1] [.inl a1] A (I (k + 1))
def Sp_place (I : Nat → iz_A → Prop) : Prop := ∀ (k : Nat) (A : iz_A) (a1 : Int), k < 64 → I k A → inR a1 → Bo 113 172 [.inl a1] [.inl a1] A (I (k + 1))
def Sp_row (I : Nat → iz_A → Prop) : Prop := ∀ (k : Nat) (A : iz_A) (a1 : Int), k < 64 → I k A → inR a1 → Bo 114 173 [.inl a1] [.inl a1] A (I (k + 1))
def Sp_shared (I : Nat → iz_A → Prop) : Prop := ∀ (k : Nat) (A : iz_A) (a1 : Int), k < 64 → I k A → inR a1 → Bo 115 174 [.inl a1] [.inl a1] A (I (k + 1))
def Sp_before (I : Nat → iz_A → Prop) : Prop := ∀ (k : Nat) (A : iz_A) (a1 : Int), k < 64 → I k A → inR a1 → Bo 116 176 [.inl a1] [.inl a1] A (I (k + 1))
def Sp_step (I : Nat → iz_A → Prop) : Prop := ∀ (k : Nat) (A : iz_A) (a1 : Int), k < 64 → I k A → inR a1 → Bo 117 177 [.inl a1] [.inl a1] A (I (k + 1))
def Sp_rank (I : Nat → iz_A → Prop) : Prop := ∀ (k : Nat) (A : iz_A) (a1 a2 : Int), k < 64 → I k A → inR a1 → inR a2 → Bo 118 178 [.inl a1, .inl a2] [.inl a1, .inl a2] A (I (k + 1))
def Sp_select (I : Nat → iz_A → Prop) : Prop := ∀ (k : Nat) (A : iz_A) (a1 a2 : Int), k < 64 → I k A → inR a1 → inR a2 → Bo 119 179 [.inl a1, .inl a2] [.inl a1, .inl a2] A (I (k + 1))
def Sp_byteAt (I : Nat → iz_A → Prop) : Prop := ∀ (k : Nat) (A : iz_A) (a1 : Int), k < 64 → I k A → inR a1 → Bo 120 180 [.inl a1] [.inl a1] A (I (k + 1))
def Sp_document (I : Nat → iz_A → Prop) : Prop := ∀ (k : Nat) (A : iz_A) (a1 a2 : Int), k < 64 → I k A → inR a1 → inR a2 → Bo 121 181 [.inl a1, .inl a2] [.inl a1, .inl a2] A (I (k + 1))
def Sp_alike (I : Nat → iz_A → Prop) : Prop := ∀ (k : Nat) (A : iz_A) (a1 a2 : Int), k < 64 → I k A → inR a1 → inR a2 → Bo 122 183 [.inl a1, .inl a2] [.inl a1, .inl a2] A (I (k + 1))
def Sp_begin (I : Nat → iz_A → Prop) : Prop := ∀ (k : Nat) (A : iz_A), k < 64 → I k A → Bo 123 185 [] [] A (I (k + 1))
def Sp_grow (I : Nat → iz_A → Prop) : Prop := ∀ (k : Nat) (A : iz_A) (a1 : Int), k < 64 → I k A → inR a1 → Bo 124 188 [.inl a1] [.inl a1] A (I (k + 1))
def Sp_front (I : Nat → iz_A → Prop) : Prop := ∀ (k : Nat) (A : iz_A) (a1 : Int), k < 64 → I k A → inR a1 → Bo 125 189 [.inl a1] [.inl a1] A (I (k + 1))
def Sp_back (I : Nat → iz_A → Prop) : Prop := ∀ (k : Nat) (A : iz_A), k < 64 → I k A → Bo 126 190 [] [] A (I (k + 1))
def Sp_pattern (I : Nat → iz_A → Prop) : Prop := ∀ (k : Nat) (A : iz_A) (a1 : Int), k < 64 → I k A → inR a1 → Bo 127 191 [.inl a1] [.inl a1] A (I (k + 1))
def Sp_patternByte (I : Nat → iz_A → Prop) : Prop := ∀ (k : Nat) (A : iz_A) (a1 : Int), k < 64 → I k A → inR a1 → Bo 128 192 [.inl a1] [.inl a1] A (I (k + 1))
def Sp_at (I : Nat → iz_A → Prop) : Prop := ∀ (k : Nat) (A : iz_A) (a1 : Int), k < 64 → I k A → inR a1 → Bo 129 193 [.inl a1] [.inl a1] A (I (k + 1))
def Sp_sorted (I : Nat → iz_A → Prop) : Prop := ∀ (k : Nat) (A : iz_A) (a1 : Int), k < 64 → I k A → inR a1 → Bo 130 195 [.inl a1] [.inl a1] A (I (k + 1))
def Sp_more (I : Nat → iz_A → Prop) : Prop := ∀ (k : Nat) (A : iz_A) (a1 a2 : Int), k < 64 → I k A → (a1 = 0 ∨ a1 = 1) → inR a2 → Bo 131 196 [.inl a1, .inl a2] [.inl a1, .inl a2] A (I (k + 1))
def Sp_ranked (I : Nat → iz_A → Prop) : Prop := ∀ (k : Nat) (A : iz_A) (a1 : Int), k < 64 → I k A → inR a1 → Bo 132 198 [.inl a1] [.inl a1] A (I (k + 1))
def Sp_times (I : Nat → iz_A → Prop) : Prop := ∀ (k : Nat) (A : iz_A) (a1 : Int), k < 64 → I k A → inR a1 → Bo 133 199 [.inl a1] [.inl a1] A (I (k + 1))
def Sp_take (I : Nat → iz_A → Prop) : Prop := ∀ (k : Nat) (A : iz_A) (a1 a2 : Int), k < 64 → I k A → inR a1 → inR a2 → Bo 134 200 [.inl a1, .inl a2] [.inl a1, .inl a2] A (I (k + 1))
def Sp_near (I : Nat → iz_A → Prop) : Prop := ∀ (k : Nat) (A : iz_A) (a1 : Int), k < 64 → I k A → inR a1 → Bo 135 201 [.inl a1] [.inl a1] A (I (k + 1))
def Sp_nearOf (I : Nat → iz_A → Prop) : Prop := ∀ (k : Nat) (A : iz_A) (a1 a2 : Int), k < 64 → I k A → inR a1 → inR a2 → Bo 136 202 [.inl a1, .inl a2] [.inl a1, .inl a2] A (I (k + 1))
def Sp_ask (I : Nat → iz_A → Prop) : Prop := ∀ (k : Nat) (A : iz_A) (a1 : Int), k < 64 → I k A → inR a1 → Bo 137 203 [.inl a1] [.inl a1] A (I (k + 1))
def Sp_answer (I : Nat → iz_A → Prop) : Prop := ∀ (k : Nat) (A : iz_A), k < 64 → I k A → Bo 138 225 [] [] A (I (k + 1))
def Sp_answered (I : Nat → iz_A → Prop) : Prop := ∀ (k : Nat) (A : iz_A) (a1 a2 : Int), k < 64 → I k A → inR a1 → inR a2 → Bo 139 226 [.inl a1, .inl a2] [.inl a1, .inl a2] A (I (k + 1))
def Sp_different (I : Nat → iz_A → Prop) : Prop := ∀ (k : Nat) (A : iz_A) (a1 : Int), k < 64 → I k A → inR a1 → Bo 140 228 [.inl a1] [.inl a1] A (I (k + 1))
def Sp_kth (I : Nat → iz_A → Prop) : Prop := ∀ (k : Nat) (A : iz_A) (a1 : Int), k < 64 → I k A → inR a1 → Bo 141 229 [.inl a1] [.inl a1] A (I (k + 1))
def Sp_order (I : Nat → iz_A → Prop) : Prop := ∀ (k : Nat) (A : iz_A), k < 64 → I k A → Bo 142 230 [] [] A (I (k + 1))
def Sp_repeated (I : Nat → iz_A → Prop) : Prop := ∀ (k : Nat) (A : iz_A) (a1 : Int), k < 64 → I k A → inR a1 → Bo 143 232 [.inl a1] [.inl a1] A (I (k + 1))
def Sp_common (I : Nat → iz_A → Prop) : Prop := ∀ (k : Nat) (A : iz_A) (a1 : Int), k < 64 → I k A → inR a1 → Bo 144 233 [.inl a1] [.inl a1] A (I (k + 1))
def Sp_oftenest (I : Nat → iz_A → Prop) : Prop := ∀ (k : Nat) (A : iz_A) (a1 : Int), k < 64 → I k A → inR a1 → Bo 145 234 [.inl a1] [.inl a1] A (I (k + 1))
def Sp_unique (I : Nat → iz_A → Prop) : Prop := ∀ (k : Nat) (A : iz_A) (a1 : Int), k < 64 → I k A → inR a1 → Bo 146 235 [.inl a1] [.inl a1] A (I (k + 1))
def Sp_maximal (I : Nat → iz_A → Prop) : Prop := ∀ (k : Nat) (A : iz_A) (a1 : Int), k < 64 → I k A → inR a1 → Bo 147 237 [.inl a1] [.inl a1] A (I (k + 1))
def Sp_absent (I : Nat → iz_A → Prop) : Prop := ∀ (k : Nat) (A : iz_A) (a1 : Int), k < 64 → I k A → inR a1 → Bo 148 238 [.inl a1] [.inl a1] A (I (k + 1))
def Sp_factor (I : Nat → iz_A → Prop) : Prop := ∀ (k : Nat) (A : iz_A) (a1 a2 a3 : Int), k < 64 → I k A → inR a1 → inR a2 → inR a3 → Bo 149 240 [.inl a1, .inl a2, .inl a3] [.inl a1, .inl a2, .inl a3] A (I (k + 1))
def Sp_word (I : Nat → iz_A → Prop) : Prop := ∀ (k : Nat) (A : iz_A) (a1 a2 : Int), k < 64 → I k A → inR a1 → inR a2 → Bo 150 241 [.inl a1, .inl a2] [.inl a1, .inl a2] A (I (k + 1))
def Sp_square (I : Nat → iz_A → Prop) : Prop := ∀ (k : Nat) (A : iz_A) (a1 : Int), k < 64 → I k A → inR a1 → Bo 151 242 [.inl a1] [.inl a1] A (I (k + 1))
def Sp_mirror (I : Nat → iz_A → Prop) : Prop := ∀ (k : Nat) (A : iz_A) (a1 : Int), k < 64 → I k A → inR a1 → Bo 152 243 [.inl a1] [.inl a1] A (I (k + 1))
def Sp_match (I : Nat → iz_A → Prop) : Prop := ∀ (k : Nat) (A : iz_A) (a1 a2 : Int), k < 64 → I k A → inR a1 → inR a2 → Bo 153 244 [.inl a1, .inl a2] [.inl a1, .inl a2] A (I (k + 1))
def Sp_count (I : Nat → iz_A → Prop) : Prop := ∀ (k : Nat) (A : iz_A) (a1 : Int), k < 64 → I k A → inR a1 → Bo 154 247 [.inl a1] [.inl a1] A (I (k + 1))
def Sp_unwound (I : Nat → iz_A → Prop) : Prop := ∀ (k : Nat) (A : iz_A) (a1 a2 : Int), k < 64 → I k A → inR a1 → inR a2 → Bo 155 248 [.inl a1, .inl a2] [.inl a1, .inl a2] A (I (k + 1))
def Sp_all (I : Nat → iz_A → Prop) : Prop := Sp_feed I ∧ Sp_end I ∧ Sp_cut I ∧ Sp_clear I ∧ Sp_build I ∧ Sp_place I ∧ Sp_row I ∧ Sp_shared I ∧ Sp_before I ∧ Sp_step I ∧ Sp_rank I ∧ Sp_select I ∧ Sp_byteAt I ∧ Sp_document I ∧ Sp_alike I ∧ Sp_begin I ∧ Sp_grow I ∧ Sp_front I ∧ Sp_back I ∧ Sp_pattern I ∧ Sp_patternByte I ∧ Sp_at I ∧ Sp_sorted I ∧ Sp_more I ∧ Sp_ranked I ∧ Sp_times I ∧ Sp_take I ∧ Sp_near I ∧ Sp_nearOf I ∧ Sp_ask I ∧ Sp_answer I ∧ Sp_answered I ∧ Sp_different I ∧ Sp_kth I ∧ Sp_order I ∧ Sp_repeated I ∧ Sp_common I ∧ Sp_oftenest I ∧ Sp_unique I ∧ Sp_maximal I ∧ Sp_absent I ∧ Sp_factor I ∧ Sp_word I ∧ Sp_square I ∧ Sp_mirror I ∧ Sp_match I ∧ Sp_count I ∧ Sp_unwound I
def loc (v : Int) : iz_L := [some (.inr (.inl 777)), some (.inr (.inl 0)), some (.inr (.inl 55)), some (.inl v)]
theorem lc_feed {n : Nat} {xs : Nat → Int32} {Q : iz_Q} {I : Nat → iz_A → Prop} {A : iz_A} {i k : Nat} (hk : k < 64) (hs : Sp_feed I) (hA : I k A) (hn : n < 100000) (hi : i + 6 ≤ n) (hc : ∀ B, I (k + 1) B → Rl n xs Q 1470 (loc (i : Int)) [] B) : Rl n xs Q 240 (loc (i : Int)) [] A := by
  refine w_L_240 ?_
  refine ⟨inR_b (by omega) (by omega), ⟨by omega, by omega⟩, inR_b (by omega) (by omega), ⟨by omega, by omega⟩, inR_b (by omega) (by omega), ⟨by omega, by omega⟩, inR_b (by omega) (by omega), ⟨by omega, by omega⟩, inR_b (by omega) (by omega), ⟨by omega, by omega⟩, Ci_mono (Nat.le_refl _) (hs k A _ _ _ _ _ hk hA (inR_of _) (inR_of _) (inR_of _) (inR_of _) (inR_of _)) fun x1 A1 h1 => ?_⟩
  exact ⟨inR_b (by omega) (by omega), ⟨by omega, by omega⟩, inR_b (by omega) (by omega), ⟨by omega, by omega⟩, inR_b (by omega) (by omega), ⟨by omega, by omega⟩, inR_b (by omega) (by omega), ⟨by omega, by omega⟩, inR_b (by omega) (by omega), ⟨by omega, by omega⟩, Ci_mono (Nat.le_refl _) h1 fun x2 A2 h2 => ⟨fun _ => hc A2 h2.2, fun z => absurd h2.1 z⟩⟩
theorem lc_end {n : Nat} {xs : Nat → Int32} {Q : iz_Q} {I : Nat → iz_A → Prop} {A : iz_A} {i k : Nat} (hk : k < 64) (hs : Sp_end I) (hA : I k A) (hn : n < 100000) (hi : i + 6 ≤ n) (hc : ∀ B, I (k + 1) B → Rl n xs Q 1470 (loc (i : Int)) [] B) : Rl n xs Q 303 (loc (i : Int)) [] A := by
  refine w_L_303 ?_
  refine ⟨inR_b (by omega) (by omega), ⟨by omega, by omega⟩, Ci_mono (Nat.le_refl _) (hs k A _ hk hA (inR_of _)) fun x1 A1 h1 => ?_⟩
  exact ⟨inR_b (by omega) (by omega), ⟨by omega, by omega⟩, Ci_mono (Nat.le_refl _) h1 fun x2 A2 h2 => ⟨fun _ => hc A2 h2.2, fun z => absurd h2.1 z⟩⟩
theorem lc_cut {n : Nat} {xs : Nat → Int32} {Q : iz_Q} {I : Nat → iz_A → Prop} {A : iz_A} {i k : Nat} (hk : k < 64) (hs : Sp_cut I) (hA : I k A) (hn : n < 100000) (hi : i + 6 ≤ n) (hc : ∀ B, I (k + 1) B → Rl n xs Q 1470 (loc (i : Int)) [] B) : Rl n xs Q 326 (loc (i : Int)) [] A := by
  refine w_L_326 ?_
  refine Ci_mono (Nat.le_refl _) (hs k A hk hA) fun x1 A1 h1 => ?_
  exact Ci_mono (Nat.le_refl _) h1 fun x2 A2 h2 => ⟨fun _ => hc A2 h2.2, fun z => absurd h2.1 z⟩
theorem lc_clear {n : Nat} {xs : Nat → Int32} {Q : iz_Q} {I : Nat → iz_A → Prop} {A : iz_A} {i k : Nat} (hk : k < 64) (hs : Sp_clear I) (hA : I k A) (hn : n < 100000) (hi : i + 6 ≤ n) (hc : ∀ B, I (k + 1) B → Rl n xs Q 1470 (loc (i : Int)) [] B) : Rl n xs Q 339 (loc (i : Int)) [] A := by
  refine w_L_339 ?_
  refine Ci_mono (Nat.le_refl _) (hs k A hk hA) fun x1 A1 h1 => ?_
  exact Ci_mono (Nat.le_refl _) h1 fun x2 A2 h2 => ⟨fun _ => hc A2 h2.2, fun z => absurd h2.1 z⟩
theorem lc_build {n : Nat} {xs : Nat → Int32} {Q : iz_Q} {I : Nat → iz_A → Prop} {A : iz_A} {i k : Nat} (hk : k < 64) (hs : Sp_build I) (hA : I k A) (hn : n < 100000) (hi : i + 6 ≤ n) (hc : ∀ B, I (k + 1) B → Rl n xs Q 1470 (loc (i : Int)) [] B) : Rl n xs Q 352 (loc (i : Int)) [] A := by
  refine w_L_352 ?_
  refine ⟨inR_b (by omega) (by omega), ⟨by omega, by omega⟩, Ci_mono (Nat.le_refl _) (hs k A _ hk hA (inR_of _)) fun x1 A1 h1 => ?_⟩
  exact ⟨inR_b (by omega) (by omega), ⟨by omega, by omega⟩, Ci_mono (Nat.le_refl _) h1 fun x2 A2 h2 => ⟨fun _ => hc A2 h2.2, fun z => absurd h2.1 z⟩⟩
theorem lc_place {n : Nat} {xs : Nat → Int32} {Q : iz_Q} {I : Nat → iz_A → Prop} {A : iz_A} {i k : Nat} (hk : k < 64) (hs : Sp_place I) (hA : I k A) (hn : n < 100000) (hi : i + 6 ≤ n) (hc : ∀ B, I (k + 1) B → Rl n xs Q 1470 (loc (i : Int)) [] B) : Rl n xs Q 375 (loc (i : Int)) [] A := by
  refine w_L_375 ?_
  refine ⟨inR_b (by omega) (by omega), ⟨by omega, by omega⟩, Ci_mono (Nat.le_refl _) (hs k A _ hk hA (inR_of _)) fun x1 A1 h1 => ?_⟩
  exact ⟨inR_b (by omega) (by omega), ⟨by omega, by omega⟩, Ci_mono (Nat.le_refl _) h1 fun x2 A2 h2 => ⟨fun _ => hc A2 h2.2, fun z => absurd h2.1 z⟩⟩
theorem lc_row {n : Nat} {xs : Nat → Int32} {Q : iz_Q} {I : Nat → iz_A → Prop} {A : iz_A} {i k : Nat} (hk : k < 64) (hs : Sp_row I) (hA : I k A) (hn : n < 100000) (hi : i + 6 ≤ n) (hc : ∀ B, I (k + 1) B → Rl n xs Q 1470 (loc (i : Int)) [] B) : Rl n xs Q 398 (loc (i : Int)) [] A := by
  refine w_L_398 ?_
  refine ⟨inR_b (by omega) (by omega), ⟨by omega, by omega⟩, Ci_mono (Nat.le_refl _) (hs k A _ hk hA (inR_of _)) fun x1 A1 h1 => ?_⟩
  exact ⟨inR_b (by omega) (by omega), ⟨by omega, by omega⟩, Ci_mono (Nat.le_refl _) h1 fun x2 A2 h2 => ⟨fun _ => hc A2 h2.2, fun z => absurd h2.1 z⟩⟩
theorem lc_shared {n : Nat} {xs : Nat → Int32} {Q : iz_Q} {I : Nat → iz_A → Prop} {A : iz_A} {i k : Nat} (hk : k < 64) (hs : Sp_shared I) (hA : I k A) (hn : n < 100000) (hi : i + 6 ≤ n) (hc : ∀ B, I (k + 1) B → Rl n xs Q 1470 (loc (i : Int)) [] B) : Rl n xs Q 421 (loc (i : Int)) [] A := by
  refine w_L_421 ?_
  refine ⟨inR_b (by omega) (by omega), ⟨by omega, by omega⟩, Ci_mono (Nat.le_refl _) (hs k A _ hk hA (inR_of _)) fun x1 A1 h1 => ?_⟩
  exact ⟨inR_b (by omega) (by omega), ⟨by omega, by omega⟩, Ci_mono (Nat.le_refl _) h1 fun x2 A2 h2 => ⟨fun _ => hc A2 h2.2, fun z => absurd h2.1 z⟩⟩
theorem lc_before {n : Nat} {xs : Nat → Int32} {Q : iz_Q} {I : Nat → iz_A → Prop} {A : iz_A} {i k : Nat} (hk : k < 64) (hs : Sp_before I) (hA : I k A) (hn : n < 100000) (hi : i + 6 ≤ n) (hc : ∀ B, I (k + 1) B → Rl n xs Q 1470 (loc (i : Int)) [] B) : Rl n xs Q 444 (loc (i : Int)) [] A := by
  refine w_L_444 ?_
  refine ⟨inR_b (by omega) (by omega), ⟨by omega, by omega⟩, Ci_mono (Nat.le_refl _) (hs k A _ hk hA (inR_of _)) fun x1 A1 h1 => ?_⟩
  exact ⟨inR_b (by omega) (by omega), ⟨by omega, by omega⟩, Ci_mono (Nat.le_refl _) h1 fun x2 A2 h2 => ⟨fun _ => hc A2 h2.2, fun z => absurd h2.1 z⟩⟩
theorem lc_step {n : Nat} {xs : Nat → Int32} {Q : iz_Q} {I : Nat → iz_A → Prop} {A : iz_A} {i k : Nat} (hk : k < 64) (hs : Sp_step I) (hA : I k A) (hn : n < 100000) (hi : i + 6 ≤ n) (hc : ∀ B, I (k + 1) B → Rl n xs Q 1470 (loc (i : Int)) [] B) : Rl n xs Q 467 (loc (i : Int)) [] A := by
  refine w_L_467 ?_
  refine ⟨inR_b (by omega) (by omega), ⟨by omega, by omega⟩, Ci_mono (Nat.le_refl _) (hs k A _ hk hA (inR_of _)) fun x1 A1 h1 => ?_⟩
  exact ⟨inR_b (by omega) (by omega), ⟨by omega, by omega⟩, Ci_mono (Nat.le_refl _) h1 fun x2 A2 h2 => ⟨fun _ => hc A2 h2.2, fun z => absurd h2.1 z⟩⟩
theorem lc_rank {n : Nat} {xs : Nat → Int32} {Q : iz_Q} {I : Nat → iz_A → Prop} {A : iz_A} {i k : Nat} (hk : k < 64) (hs : Sp_rank I) (hA : I k A) (hn : n < 100000) (hi : i + 6 ≤ n) (hc : ∀ B, I (k + 1) B → Rl n xs Q 1470 (loc (i : Int)) [] B) : Rl n xs Q 490 (loc (i : Int)) [] A := by
  refine w_L_490 ?_
  refine ⟨inR_b (by omega) (by omega), ⟨by omega, by omega⟩, inR_b (by omega) (by omega), ⟨by omega, by omega⟩, Ci_mono (Nat.le_refl _) (hs k A _ _ hk hA (inR_of _) (inR_of _)) fun x1 A1 h1 => ?_⟩
  exact ⟨inR_b (by omega) (by omega), ⟨by omega, by omega⟩, inR_b (by omega) (by omega), ⟨by omega, by omega⟩, Ci_mono (Nat.le_refl _) h1 fun x2 A2 h2 => ⟨fun _ => hc A2 h2.2, fun z => absurd h2.1 z⟩⟩
theorem lc_select {n : Nat} {xs : Nat → Int32} {Q : iz_Q} {I : Nat → iz_A → Prop} {A : iz_A} {i k : Nat} (hk : k < 64) (hs : Sp_select I) (hA : I k A) (hn : n < 100000) (hi : i + 6 ≤ n) (hc : ∀ B, I (k + 1) B → Rl n xs Q 1470 (loc (i : Int)) [] B) : Rl n xs Q 523 (loc (i : Int)) [] A := by
  refine w_L_523 ?_
  refine ⟨inR_b (by omega) (by omega), ⟨by omega, by omega⟩, inR_b (by omega) (by omega), ⟨by omega, by omega⟩, Ci_mono (Nat.le_refl _) (hs k A _ _ hk hA (inR_of _) (inR_of _)) fun x1 A1 h1 => ?_⟩
  exact ⟨inR_b (by omega) (by omega), ⟨by omega, by omega⟩, inR_b (by omega) (by omega), ⟨by omega, by omega⟩, Ci_mono (Nat.le_refl _) h1 fun x2 A2 h2 => ⟨fun _ => hc A2 h2.2, fun z => absurd h2.1 z⟩⟩
theorem lc_byteAt {n : Nat} {xs : Nat → Int32} {Q : iz_Q} {I : Nat → iz_A → Prop} {A : iz_A} {i k : Nat} (hk : k < 64) (hs : Sp_byteAt I) (hA : I k A) (hn : n < 100000) (hi : i + 6 ≤ n) (hc : ∀ B, I (k + 1) B → Rl n xs Q 1470 (loc (i : Int)) [] B) : Rl n xs Q 556 (loc (i : Int)) [] A := by
  refine w_L_556 ?_
  refine ⟨inR_b (by omega) (by omega), ⟨by omega, by omega⟩, Ci_mono (Nat.le_refl _) (hs k A _ hk hA (inR_of _)) fun x1 A1 h1 => ?_⟩
  exact ⟨inR_b (by omega) (by omega), ⟨by omega, by omega⟩, Ci_mono (Nat.le_refl _) h1 fun x2 A2 h2 => ⟨fun _ => hc A2 h2.2, fun z => absurd h2.1 z⟩⟩
theorem lc_document {n : Nat} {xs : Nat → Int32} {Q : iz_Q} {I : Nat → iz_A → Prop} {A : iz_A} {i k : Nat} (hk : k < 64) (hs : Sp_document I) (hA : I k A) (hn : n < 100000) (hi : i + 6 ≤ n) (hc : ∀ B, I (k + 1) B → Rl n xs Q 1470 (loc (i : Int)) [] B) : Rl n xs Q 579 (loc (i : Int)) [] A := by
  refine w_L_579 ?_
  refine ⟨inR_b (by omega) (by omega), ⟨by omega, by omega⟩, inR_b (by omega) (by omega), ⟨by omega, by omega⟩, Ci_mono (Nat.le_refl _) (hs k A _ _ hk hA (inR_of _) (inR_of _)) fun x1 A1 h1 => ?_⟩
  exact ⟨inR_b (by omega) (by omega), ⟨by omega, by omega⟩, inR_b (by omega) (by omega), ⟨by omega, by omega⟩, Ci_mono (Nat.le_refl _) h1 fun x2 A2 h2 => ⟨fun _ => hc A2 h2.2, fun z => absurd h2.1 z⟩⟩
theorem lc_alike {n : Nat} {xs : Nat → Int32} {Q : iz_Q} {I : Nat → iz_A → Prop} {A : iz_A} {i k : Nat} (hk : k < 64) (hs : Sp_alike I) (hA : I k A) (hn : n < 100000) (hi : i + 6 ≤ n) (hc : ∀ B, I (k + 1) B → Rl n xs Q 1470 (loc (i : Int)) [] B) : Rl n xs Q 612 (loc (i : Int)) [] A := by
  refine w_L_612 ?_
  refine ⟨inR_b (by omega) (by omega), ⟨by omega, by omega⟩, inR_b (by omega) (by omega), ⟨by omega, by omega⟩, Ci_mono (Nat.le_refl _) (hs k A _ _ hk hA (inR_of _) (inR_of _)) fun x1 A1 h1 => ?_⟩
  exact ⟨inR_b (by omega) (by omega), ⟨by omega, by omega⟩, inR_b (by omega) (by omega), ⟨by omega, by omega⟩, Ci_mono (Nat.le_refl _) h1 fun x2 A2 h2 => ⟨fun _ => hc A2 h2.2, fun z => absurd h2.1 z⟩⟩
theorem lc_begin {n : Nat} {xs : Nat → Int32} {Q : iz_Q} {I : Nat → iz_A → Prop} {A : iz_A} {i k : Nat} (hk : k < 64) (hs : Sp_begin I) (hA : I k A) (hn : n < 100000) (hi : i + 6 ≤ n) (hc : ∀ B, I (k + 1) B → Rl n xs Q 1470 (loc (i : Int)) [] B) : Rl n xs Q 645 (loc (i : Int)) [] A := by
  refine w_L_645 ?_
  refine Ci_mono (Nat.le_refl _) (hs k A hk hA) fun x1 A1 h1 => ?_
  exact Ci_mono (Nat.le_refl _) h1 fun x2 A2 h2 => ⟨fun _ => hc A2 h2.2, fun z => absurd h2.1 z⟩
theorem lc_grow {n : Nat} {xs : Nat → Int32} {Q : iz_Q} {I : Nat → iz_A → Prop} {A : iz_A} {i k : Nat} (hk : k < 64) (hs : Sp_grow I) (hA : I k A) (hn : n < 100000) (hi : i + 6 ≤ n) (hc : ∀ B, I (k + 1) B → Rl n xs Q 1470 (loc (i : Int)) [] B) : Rl n xs Q 658 (loc (i : Int)) [] A := by
  refine w_L_658 ?_
  refine ⟨inR_b (by omega) (by omega), ⟨by omega, by omega⟩, Ci_mono (Nat.le_refl _) (hs k A _ hk hA (inR_of _)) fun x1 A1 h1 => ?_⟩
  exact ⟨inR_b (by omega) (by omega), ⟨by omega, by omega⟩, Ci_mono (Nat.le_refl _) h1 fun x2 A2 h2 => ⟨fun _ => hc A2 h2.2, fun z => absurd h2.1 z⟩⟩
theorem lc_front {n : Nat} {xs : Nat → Int32} {Q : iz_Q} {I : Nat → iz_A → Prop} {A : iz_A} {i k : Nat} (hk : k < 64) (hs : Sp_front I) (hA : I k A) (hn : n < 100000) (hi : i + 6 ≤ n) (hc : ∀ B, I (k + 1) B → Rl n xs Q 1470 (loc (i : Int)) [] B) : Rl n xs Q 681 (loc (i : Int)) [] A := by
  refine w_L_681 ?_
  refine ⟨inR_b (by omega) (by omega), ⟨by omega, by omega⟩, Ci_mono (Nat.le_refl _) (hs k A _ hk hA (inR_of _)) fun x1 A1 h1 => ?_⟩
  exact ⟨inR_b (by omega) (by omega), ⟨by omega, by omega⟩, Ci_mono (Nat.le_refl _) h1 fun x2 A2 h2 => ⟨fun _ => hc A2 h2.2, fun z => absurd h2.1 z⟩⟩
theorem lc_back {n : Nat} {xs : Nat → Int32} {Q : iz_Q} {I : Nat → iz_A → Prop} {A : iz_A} {i k : Nat} (hk : k < 64) (hs : Sp_back I) (hA : I k A) (hn : n < 100000) (hi : i + 6 ≤ n) (hc : ∀ B, I (k + 1) B → Rl n xs Q 1470 (loc (i : Int)) [] B) : Rl n xs Q 704 (loc (i : Int)) [] A := by
  refine w_L_704 ?_
  refine Ci_mono (Nat.le_refl _) (hs k A hk hA) fun x1 A1 h1 => ?_
  exact Ci_mono (Nat.le_refl _) h1 fun x2 A2 h2 => ⟨fun _ => hc A2 h2.2, fun z => absurd h2.1 z⟩
theorem lc_pattern {n : Nat} {xs : Nat → Int32} {Q : iz_Q} {I : Nat → iz_A → Prop} {A : iz_A} {i k : Nat} (hk : k < 64) (hs : Sp_pattern I) (hA : I k A) (hn : n < 100000) (hi : i + 6 ≤ n) (hc : ∀ B, I (k + 1) B → Rl n xs Q 1470 (loc (i : Int)) [] B) : Rl n xs Q 717 (loc (i : Int)) [] A := by
  refine w_L_717 ?_
  refine ⟨inR_b (by omega) (by omega), ⟨by omega, by omega⟩, Ci_mono (Nat.le_refl _) (hs k A _ hk hA (inR_of _)) fun x1 A1 h1 => ?_⟩
  exact ⟨inR_b (by omega) (by omega), ⟨by omega, by omega⟩, Ci_mono (Nat.le_refl _) h1 fun x2 A2 h2 => ⟨fun _ => hc A2 h2.2, fun z => absurd h2.1 z⟩⟩
theorem lc_patternByte {n : Nat} {xs : Nat → Int32} {Q : iz_Q} {I : Nat → iz_A → Prop} {A : iz_A} {i k : Nat} (hk : k < 64) (hs : Sp_patternByte I) (hA : I k A) (hn : n < 100000) (hi : i + 6 ≤ n) (hc : ∀ B, I (k + 1) B → Rl n xs Q 1470 (loc (i : Int)) [] B) : Rl n xs Q 740 (loc (i : Int)) [] A := by
  refine w_L_740 ?_
  refine ⟨inR_b (by omega) (by omega), ⟨by omega, by omega⟩, Ci_mono (Nat.le_refl _) (hs k A _ hk hA (inR_of _)) fun x1 A1 h1 => ?_⟩
  exact ⟨inR_b (by omega) (by omega), ⟨by omega, by omega⟩, Ci_mono (Nat.le_refl _) h1 fun x2 A2 h2 => ⟨fun _ => hc A2 h2.2, fun z => absurd h2.1 z⟩⟩
theorem lc_at {n : Nat} {xs : Nat → Int32} {Q : iz_Q} {I : Nat → iz_A → Prop} {A : iz_A} {i k : Nat} (hk : k < 64) (hs : Sp_at I) (hA : I k A) (hn : n < 100000) (hi : i + 6 ≤ n) (hc : ∀ B, I (k + 1) B → Rl n xs Q 1470 (loc (i : Int)) [] B) : Rl n xs Q 763 (loc (i : Int)) [] A := by
  refine w_L_763 ?_
  refine ⟨inR_b (by omega) (by omega), ⟨by omega, by omega⟩, Ci_mono (Nat.le_refl _) (hs k A _ hk hA (inR_of _)) fun x1 A1 h1 => ?_⟩
  exact ⟨inR_b (by omega) (by omega), ⟨by omega, by omega⟩, Ci_mono (Nat.le_refl _) h1 fun x2 A2 h2 => ⟨fun _ => hc A2 h2.2, fun z => absurd h2.1 z⟩⟩
theorem lc_sorted {n : Nat} {xs : Nat → Int32} {Q : iz_Q} {I : Nat → iz_A → Prop} {A : iz_A} {i k : Nat} (hk : k < 64) (hs : Sp_sorted I) (hA : I k A) (hn : n < 100000) (hi : i + 6 ≤ n) (hc : ∀ B, I (k + 1) B → Rl n xs Q 1470 (loc (i : Int)) [] B) : Rl n xs Q 786 (loc (i : Int)) [] A := by
  refine w_L_786 ?_
  refine ⟨inR_b (by omega) (by omega), ⟨by omega, by omega⟩, Ci_mono (Nat.le_refl _) (hs k A _ hk hA (inR_of _)) fun x1 A1 h1 => ?_⟩
  exact ⟨inR_b (by omega) (by omega), ⟨by omega, by omega⟩, Ci_mono (Nat.le_refl _) h1 fun x2 A2 h2 => ⟨fun _ => hc A2 h2.2, fun z => absurd h2.1 z⟩⟩
theorem lc_ranked {n : Nat} {xs : Nat → Int32} {Q : iz_Q} {I : Nat → iz_A → Prop} {A : iz_A} {i k : Nat} (hk : k < 64) (hs : Sp_ranked I) (hA : I k A) (hn : n < 100000) (hi : i + 6 ≤ n) (hc : ∀ B, I (k + 1) B → Rl n xs Q 1470 (loc (i : Int)) [] B) : Rl n xs Q 858 (loc (i : Int)) [] A := by
  refine w_L_858 ?_
  refine ⟨inR_b (by omega) (by omega), ⟨by omega, by omega⟩, Ci_mono (Nat.le_refl _) (hs k A _ hk hA (inR_of _)) fun x1 A1 h1 => ?_⟩
  exact ⟨inR_b (by omega) (by omega), ⟨by omega, by omega⟩, Ci_mono (Nat.le_refl _) h1 fun x2 A2 h2 => ⟨fun _ => hc A2 h2.2, fun z => absurd h2.1 z⟩⟩
theorem lc_times {n : Nat} {xs : Nat → Int32} {Q : iz_Q} {I : Nat → iz_A → Prop} {A : iz_A} {i k : Nat} (hk : k < 64) (hs : Sp_times I) (hA : I k A) (hn : n < 100000) (hi : i + 6 ≤ n) (hc : ∀ B, I (k + 1) B → Rl n xs Q 1470 (loc (i : Int)) [] B) : Rl n xs Q 881 (loc (i : Int)) [] A := by
  refine w_L_881 ?_
  refine ⟨inR_b (by omega) (by omega), ⟨by omega, by omega⟩, Ci_mono (Nat.le_refl _) (hs k A _ hk hA (inR_of _)) fun x1 A1 h1 => ?_⟩
  exact ⟨inR_b (by omega) (by omega), ⟨by omega, by omega⟩, Ci_mono (Nat.le_refl _) h1 fun x2 A2 h2 => ⟨fun _ => hc A2 h2.2, fun z => absurd h2.1 z⟩⟩
theorem lc_take {n : Nat} {xs : Nat → Int32} {Q : iz_Q} {I : Nat → iz_A → Prop} {A : iz_A} {i k : Nat} (hk : k < 64) (hs : Sp_take I) (hA : I k A) (hn : n < 100000) (hi : i + 6 ≤ n) (hc : ∀ B, I (k + 1) B → Rl n xs Q 1470 (loc (i : Int)) [] B) : Rl n xs Q 904 (loc (i : Int)) [] A := by
  refine w_L_904 ?_
  refine ⟨inR_b (by omega) (by omega), ⟨by omega, by omega⟩, inR_b (by omega) (by omega), ⟨by omega, by omega⟩, Ci_mono (Nat.le_refl _) (hs k A _ _ hk hA (inR_of _) (inR_of _)) fun x1 A1 h1 => ?_⟩
  exact ⟨inR_b (by omega) (by omega), ⟨by omega, by omega⟩, inR_b (by omega) (by omega), ⟨by omega, by omega⟩, Ci_mono (Nat.le_refl _) h1 fun x2 A2 h2 => ⟨fun _ => hc A2 h2.2, fun z => absurd h2.1 z⟩⟩
theorem lc_near {n : Nat} {xs : Nat → Int32} {Q : iz_Q} {I : Nat → iz_A → Prop} {A : iz_A} {i k : Nat} (hk : k < 64) (hs : Sp_near I) (hA : I k A) (hn : n < 100000) (hi : i + 6 ≤ n) (hc : ∀ B, I (k + 1) B → Rl n xs Q 1470 (loc (i : Int)) [] B) : Rl n xs Q 937 (loc (i : Int)) [] A := by
  refine w_L_937 ?_
  refine ⟨inR_b (by omega) (by omega), ⟨by omega, by omega⟩, Ci_mono (Nat.le_refl _) (hs k A _ hk hA (inR_of _)) fun x1 A1 h1 => ?_⟩
  exact ⟨inR_b (by omega) (by omega), ⟨by omega, by omega⟩, Ci_mono (Nat.le_refl _) h1 fun x2 A2 h2 => ⟨fun _ => hc A2 h2.2, fun z => absurd h2.1 z⟩⟩
theorem lc_nearOf {n : Nat} {xs : Nat → Int32} {Q : iz_Q} {I : Nat → iz_A → Prop} {A : iz_A} {i k : Nat} (hk : k < 64) (hs : Sp_nearOf I) (hA : I k A) (hn : n < 100000) (hi : i + 6 ≤ n) (hc : ∀ B, I (k + 1) B → Rl n xs Q 1470 (loc (i : Int)) [] B) : Rl n xs Q 960 (loc (i : Int)) [] A := by
  refine w_L_960 ?_
  refine ⟨inR_b (by omega) (by omega), ⟨by omega, by omega⟩, inR_b (by omega) (by omega), ⟨by omega, by omega⟩, Ci_mono (Nat.le_refl _) (hs k A _ _ hk hA (inR_of _) (inR_of _)) fun x1 A1 h1 => ?_⟩
  exact ⟨inR_b (by omega) (by omega), ⟨by omega, by omega⟩, inR_b (by omega) (by omega), ⟨by omega, by omega⟩, Ci_mono (Nat.le_refl _) h1 fun x2 A2 h2 => ⟨fun _ => hc A2 h2.2, fun z => absurd h2.1 z⟩⟩
theorem lc_ask {n : Nat} {xs : Nat → Int32} {Q : iz_Q} {I : Nat → iz_A → Prop} {A : iz_A} {i k : Nat} (hk : k < 64) (hs : Sp_ask I) (hA : I k A) (hn : n < 100000) (hi : i + 6 ≤ n) (hc : ∀ B, I (k + 1) B → Rl n xs Q 1470 (loc (i : Int)) [] B) : Rl n xs Q 993 (loc (i : Int)) [] A := by
  refine w_L_993 ?_
  refine ⟨inR_b (by omega) (by omega), ⟨by omega, by omega⟩, Ci_mono (Nat.le_refl _) (hs k A _ hk hA (inR_of _)) fun x1 A1 h1 => ?_⟩
  exact ⟨inR_b (by omega) (by omega), ⟨by omega, by omega⟩, Ci_mono (Nat.le_refl _) h1 fun x2 A2 h2 => ⟨fun _ => hc A2 h2.2, fun z => absurd h2.1 z⟩⟩
theorem lc_answer {n : Nat} {xs : Nat → Int32} {Q : iz_Q} {I : Nat → iz_A → Prop} {A : iz_A} {i k : Nat} (hk : k < 64) (hs : Sp_answer I) (hA : I k A) (hn : n < 100000) (hi : i + 6 ≤ n) (hc : ∀ B, I (k + 1) B → Rl n xs Q 1470 (loc (i : Int)) [] B) : Rl n xs Q 1016 (loc (i : Int)) [] A := by
  refine w_L_1016 ?_
  refine Ci_mono (Nat.le_refl _) (hs k A hk hA) fun x1 A1 h1 => ?_
  exact Ci_mono (Nat.le_refl _) h1 fun x2 A2 h2 => ⟨fun _ => hc A2 h2.2, fun z => absurd h2.1 z⟩
theorem lc_answered {n : Nat} {xs : Nat → Int32} {Q : iz_Q} {I : Nat → iz_A → Prop} {A : iz_A} {i k : Nat} (hk : k < 64) (hs : Sp_answered I) (hA : I k A) (hn : n < 100000) (hi : i + 6 ≤ n) (hc : ∀ B, I (k + 1) B → Rl n xs Q 1470 (loc (i : Int)) [] B) : Rl n xs Q 1029 (loc (i : Int)) [] A := by
  refine w_L_1029 ?_
  refine ⟨inR_b (by omega) (by omega), ⟨by omega, by omega⟩, inR_b (by omega) (by omega), ⟨by omega, by omega⟩, Ci_mono (Nat.le_refl _) (hs k A _ _ hk hA (inR_of _) (inR_of _)) fun x1 A1 h1 => ?_⟩
  exact ⟨inR_b (by omega) (by omega), ⟨by omega, by omega⟩, inR_b (by omega) (by omega), ⟨by omega, by omega⟩, Ci_mono (Nat.le_refl _) h1 fun x2 A2 h2 => ⟨fun _ => hc A2 h2.2, fun z => absurd h2.1 z⟩⟩
theorem lc_different {n : Nat} {xs : Nat → Int32} {Q : iz_Q} {I : Nat → iz_A → Prop} {A : iz_A} {i k : Nat} (hk : k < 64) (hs : Sp_different I) (hA : I k A) (hn : n < 100000) (hi : i + 6 ≤ n) (hc : ∀ B, I (k + 1) B → Rl n xs Q 1470 (loc (i : Int)) [] B) : Rl n xs Q 1062 (loc (i : Int)) [] A := by
  refine w_L_1062 ?_
  refine ⟨inR_b (by omega) (by omega), ⟨by omega, by omega⟩, Ci_mono (Nat.le_refl _) (hs k A _ hk hA (inR_of _)) fun x1 A1 h1 => ?_⟩
  exact ⟨inR_b (by omega) (by omega), ⟨by omega, by omega⟩, Ci_mono (Nat.le_refl _) h1 fun x2 A2 h2 => ⟨fun _ => hc A2 h2.2, fun z => absurd h2.1 z⟩⟩
theorem lc_kth {n : Nat} {xs : Nat → Int32} {Q : iz_Q} {I : Nat → iz_A → Prop} {A : iz_A} {i k : Nat} (hk : k < 64) (hs : Sp_kth I) (hA : I k A) (hn : n < 100000) (hi : i + 6 ≤ n) (hc : ∀ B, I (k + 1) B → Rl n xs Q 1470 (loc (i : Int)) [] B) : Rl n xs Q 1085 (loc (i : Int)) [] A := by
  refine w_L_1085 ?_
  refine ⟨inR_b (by omega) (by omega), ⟨by omega, by omega⟩, Ci_mono (Nat.le_refl _) (hs k A _ hk hA (inR_of _)) fun x1 A1 h1 => ?_⟩
  exact ⟨inR_b (by omega) (by omega), ⟨by omega, by omega⟩, Ci_mono (Nat.le_refl _) h1 fun x2 A2 h2 => ⟨fun _ => hc A2 h2.2, fun z => absurd h2.1 z⟩⟩
theorem lc_order {n : Nat} {xs : Nat → Int32} {Q : iz_Q} {I : Nat → iz_A → Prop} {A : iz_A} {i k : Nat} (hk : k < 64) (hs : Sp_order I) (hA : I k A) (hn : n < 100000) (hi : i + 6 ≤ n) (hc : ∀ B, I (k + 1) B → Rl n xs Q 1470 (loc (i : Int)) [] B) : Rl n xs Q 1108 (loc (i : Int)) [] A := by
  refine w_L_1108 ?_
  refine Ci_mono (Nat.le_refl _) (hs k A hk hA) fun x1 A1 h1 => ?_
  exact Ci_mono (Nat.le_refl _) h1 fun x2 A2 h2 => ⟨fun _ => hc A2 h2.2, fun z => absurd h2.1 z⟩
theorem lc_repeated {n : Nat} {xs : Nat → Int32} {Q : iz_Q} {I : Nat → iz_A → Prop} {A : iz_A} {i k : Nat} (hk : k < 64) (hs : Sp_repeated I) (hA : I k A) (hn : n < 100000) (hi : i + 6 ≤ n) (hc : ∀ B, I (k + 1) B → Rl n xs Q 1470 (loc (i : Int)) [] B) : Rl n xs Q 1121 (loc (i : Int)) [] A := by
  refine w_L_1121 ?_
  refine ⟨inR_b (by omega) (by omega), ⟨by omega, by omega⟩, Ci_mono (Nat.le_refl _) (hs k A _ hk hA (inR_of _)) fun x1 A1 h1 => ?_⟩
  exact ⟨inR_b (by omega) (by omega), ⟨by omega, by omega⟩, Ci_mono (Nat.le_refl _) h1 fun x2 A2 h2 => ⟨fun _ => hc A2 h2.2, fun z => absurd h2.1 z⟩⟩
theorem lc_common {n : Nat} {xs : Nat → Int32} {Q : iz_Q} {I : Nat → iz_A → Prop} {A : iz_A} {i k : Nat} (hk : k < 64) (hs : Sp_common I) (hA : I k A) (hn : n < 100000) (hi : i + 6 ≤ n) (hc : ∀ B, I (k + 1) B → Rl n xs Q 1470 (loc (i : Int)) [] B) : Rl n xs Q 1144 (loc (i : Int)) [] A := by
  refine w_L_1144 ?_
  refine ⟨inR_b (by omega) (by omega), ⟨by omega, by omega⟩, Ci_mono (Nat.le_refl _) (hs k A _ hk hA (inR_of _)) fun x1 A1 h1 => ?_⟩
  exact ⟨inR_b (by omega) (by omega), ⟨by omega, by omega⟩, Ci_mono (Nat.le_refl _) h1 fun x2 A2 h2 => ⟨fun _ => hc A2 h2.2, fun z => absurd h2.1 z⟩⟩
theorem lc_oftenest {n : Nat} {xs : Nat → Int32} {Q : iz_Q} {I : Nat → iz_A → Prop} {A : iz_A} {i k : Nat} (hk : k < 64) (hs : Sp_oftenest I) (hA : I k A) (hn : n < 100000) (hi : i + 6 ≤ n) (hc : ∀ B, I (k + 1) B → Rl n xs Q 1470 (loc (i : Int)) [] B) : Rl n xs Q 1167 (loc (i : Int)) [] A := by
  refine w_L_1167 ?_
  refine ⟨inR_b (by omega) (by omega), ⟨by omega, by omega⟩, Ci_mono (Nat.le_refl _) (hs k A _ hk hA (inR_of _)) fun x1 A1 h1 => ?_⟩
  exact ⟨inR_b (by omega) (by omega), ⟨by omega, by omega⟩, Ci_mono (Nat.le_refl _) h1 fun x2 A2 h2 => ⟨fun _ => hc A2 h2.2, fun z => absurd h2.1 z⟩⟩
theorem lc_unique {n : Nat} {xs : Nat → Int32} {Q : iz_Q} {I : Nat → iz_A → Prop} {A : iz_A} {i k : Nat} (hk : k < 64) (hs : Sp_unique I) (hA : I k A) (hn : n < 100000) (hi : i + 6 ≤ n) (hc : ∀ B, I (k + 1) B → Rl n xs Q 1470 (loc (i : Int)) [] B) : Rl n xs Q 1190 (loc (i : Int)) [] A := by
  refine w_L_1190 ?_
  refine ⟨inR_b (by omega) (by omega), ⟨by omega, by omega⟩, Ci_mono (Nat.le_refl _) (hs k A _ hk hA (inR_of _)) fun x1 A1 h1 => ?_⟩
  exact ⟨inR_b (by omega) (by omega), ⟨by omega, by omega⟩, Ci_mono (Nat.le_refl _) h1 fun x2 A2 h2 => ⟨fun _ => hc A2 h2.2, fun z => absurd h2.1 z⟩⟩
theorem lc_maximal {n : Nat} {xs : Nat → Int32} {Q : iz_Q} {I : Nat → iz_A → Prop} {A : iz_A} {i k : Nat} (hk : k < 64) (hs : Sp_maximal I) (hA : I k A) (hn : n < 100000) (hi : i + 6 ≤ n) (hc : ∀ B, I (k + 1) B → Rl n xs Q 1470 (loc (i : Int)) [] B) : Rl n xs Q 1213 (loc (i : Int)) [] A := by
  refine w_L_1213 ?_
  refine ⟨inR_b (by omega) (by omega), ⟨by omega, by omega⟩, Ci_mono (Nat.le_refl _) (hs k A _ hk hA (inR_of _)) fun x1 A1 h1 => ?_⟩
  exact ⟨inR_b (by omega) (by omega), ⟨by omega, by omega⟩, Ci_mono (Nat.le_refl _) h1 fun x2 A2 h2 => ⟨fun _ => hc A2 h2.2, fun z => absurd h2.1 z⟩⟩
theorem lc_absent {n : Nat} {xs : Nat → Int32} {Q : iz_Q} {I : Nat → iz_A → Prop} {A : iz_A} {i k : Nat} (hk : k < 64) (hs : Sp_absent I) (hA : I k A) (hn : n < 100000) (hi : i + 6 ≤ n) (hc : ∀ B, I (k + 1) B → Rl n xs Q 1470 (loc (i : Int)) [] B) : Rl n xs Q 1236 (loc (i : Int)) [] A := by
  refine w_L_1236 ?_
  refine ⟨inR_b (by omega) (by omega), ⟨by omega, by omega⟩, Ci_mono (Nat.le_refl _) (hs k A _ hk hA (inR_of _)) fun x1 A1 h1 => ?_⟩
  exact ⟨inR_b (by omega) (by omega), ⟨by omega, by omega⟩, Ci_mono (Nat.le_refl _) h1 fun x2 A2 h2 => ⟨fun _ => hc A2 h2.2, fun z => absurd h2.1 z⟩⟩
theorem lc_factor {n : Nat} {xs : Nat → Int32} {Q : iz_Q} {I : Nat → iz_A → Prop} {A : iz_A} {i k : Nat} (hk : k < 64) (hs : Sp_factor I) (hA : I k A) (hn : n < 100000) (hi : i + 6 ≤ n) (hc : ∀ B, I (k + 1) B → Rl n xs Q 1470 (loc (i : Int)) [] B) : Rl n xs Q 1259 (loc (i : Int)) [] A := by
  refine w_L_1259 ?_
  refine ⟨inR_b (by omega) (by omega), ⟨by omega, by omega⟩, inR_b (by omega) (by omega), ⟨by omega, by omega⟩, inR_b (by omega) (by omega), ⟨by omega, by omega⟩, Ci_mono (Nat.le_refl _) (hs k A _ _ _ hk hA (inR_of _) (inR_of _) (inR_of _)) fun x1 A1 h1 => ?_⟩
  exact ⟨inR_b (by omega) (by omega), ⟨by omega, by omega⟩, inR_b (by omega) (by omega), ⟨by omega, by omega⟩, inR_b (by omega) (by omega), ⟨by omega, by omega⟩, Ci_mono (Nat.le_refl _) h1 fun x2 A2 h2 => ⟨fun _ => hc A2 h2.2, fun z => absurd h2.1 z⟩⟩
theorem lc_word {n : Nat} {xs : Nat → Int32} {Q : iz_Q} {I : Nat → iz_A → Prop} {A : iz_A} {i k : Nat} (hk : k < 64) (hs : Sp_word I) (hA : I k A) (hn : n < 100000) (hi : i + 6 ≤ n) (hc : ∀ B, I (k + 1) B → Rl n xs Q 1470 (loc (i : Int)) [] B) : Rl n xs Q 1302 (loc (i : Int)) [] A := by
  refine w_L_1302 ?_
  refine ⟨inR_b (by omega) (by omega), ⟨by omega, by omega⟩, inR_b (by omega) (by omega), ⟨by omega, by omega⟩, Ci_mono (Nat.le_refl _) (hs k A _ _ hk hA (inR_of _) (inR_of _)) fun x1 A1 h1 => ?_⟩
  exact ⟨inR_b (by omega) (by omega), ⟨by omega, by omega⟩, inR_b (by omega) (by omega), ⟨by omega, by omega⟩, Ci_mono (Nat.le_refl _) h1 fun x2 A2 h2 => ⟨fun _ => hc A2 h2.2, fun z => absurd h2.1 z⟩⟩
theorem lc_square {n : Nat} {xs : Nat → Int32} {Q : iz_Q} {I : Nat → iz_A → Prop} {A : iz_A} {i k : Nat} (hk : k < 64) (hs : Sp_square I) (hA : I k A) (hn : n < 100000) (hi : i + 6 ≤ n) (hc : ∀ B, I (k + 1) B → Rl n xs Q 1470 (loc (i : Int)) [] B) : Rl n xs Q 1335 (loc (i : Int)) [] A := by
  refine w_L_1335 ?_
  refine ⟨inR_b (by omega) (by omega), ⟨by omega, by omega⟩, Ci_mono (Nat.le_refl _) (hs k A _ hk hA (inR_of _)) fun x1 A1 h1 => ?_⟩
  exact ⟨inR_b (by omega) (by omega), ⟨by omega, by omega⟩, Ci_mono (Nat.le_refl _) h1 fun x2 A2 h2 => ⟨fun _ => hc A2 h2.2, fun z => absurd h2.1 z⟩⟩
theorem lc_mirror {n : Nat} {xs : Nat → Int32} {Q : iz_Q} {I : Nat → iz_A → Prop} {A : iz_A} {i k : Nat} (hk : k < 64) (hs : Sp_mirror I) (hA : I k A) (hn : n < 100000) (hi : i + 6 ≤ n) (hc : ∀ B, I (k + 1) B → Rl n xs Q 1470 (loc (i : Int)) [] B) : Rl n xs Q 1358 (loc (i : Int)) [] A := by
  refine w_L_1358 ?_
  refine ⟨inR_b (by omega) (by omega), ⟨by omega, by omega⟩, Ci_mono (Nat.le_refl _) (hs k A _ hk hA (inR_of _)) fun x1 A1 h1 => ?_⟩
  exact ⟨inR_b (by omega) (by omega), ⟨by omega, by omega⟩, Ci_mono (Nat.le_refl _) h1 fun x2 A2 h2 => ⟨fun _ => hc A2 h2.2, fun z => absurd h2.1 z⟩⟩
theorem lc_match {n : Nat} {xs : Nat → Int32} {Q : iz_Q} {I : Nat → iz_A → Prop} {A : iz_A} {i k : Nat} (hk : k < 64) (hs : Sp_match I) (hA : I k A) (hn : n < 100000) (hi : i + 6 ≤ n) (hc : ∀ B, I (k + 1) B → Rl n xs Q 1470 (loc (i : Int)) [] B) : Rl n xs Q 1381 (loc (i : Int)) [] A := by
  refine w_L_1381 ?_
  refine ⟨inR_b (by omega) (by omega), ⟨by omega, by omega⟩, inR_b (by omega) (by omega), ⟨by omega, by omega⟩, Ci_mono (Nat.le_refl _) (hs k A _ _ hk hA (inR_of _) (inR_of _)) fun x1 A1 h1 => ?_⟩
  exact ⟨inR_b (by omega) (by omega), ⟨by omega, by omega⟩, inR_b (by omega) (by omega), ⟨by omega, by omega⟩, Ci_mono (Nat.le_refl _) h1 fun x2 A2 h2 => ⟨fun _ => hc A2 h2.2, fun z => absurd h2.1 z⟩⟩
theorem lc_count {n : Nat} {xs : Nat → Int32} {Q : iz_Q} {I : Nat → iz_A → Prop} {A : iz_A} {i k : Nat} (hk : k < 64) (hs : Sp_count I) (hA : I k A) (hn : n < 100000) (hi : i + 6 ≤ n) (hc : ∀ B, I (k + 1) B → Rl n xs Q 1470 (loc (i : Int)) [] B) : Rl n xs Q 1414 (loc (i : Int)) [] A := by
  refine w_L_1414 ?_
  refine ⟨inR_b (by omega) (by omega), ⟨by omega, by omega⟩, Ci_mono (Nat.le_refl _) (hs k A _ hk hA (inR_of _)) fun x1 A1 h1 => ?_⟩
  exact ⟨inR_b (by omega) (by omega), ⟨by omega, by omega⟩, Ci_mono (Nat.le_refl _) h1 fun x2 A2 h2 => ⟨fun _ => hc A2 h2.2, fun z => absurd h2.1 z⟩⟩
theorem lc_unwound {n : Nat} {xs : Nat → Int32} {Q : iz_Q} {I : Nat → iz_A → Prop} {A : iz_A} {i k : Nat} (hk : k < 64) (hs : Sp_unwound I) (hA : I k A) (hn : n < 100000) (hi : i + 6 ≤ n) (hc : ∀ B, I (k + 1) B → Rl n xs Q 1470 (loc (i : Int)) [] B) : Rl n xs Q 1437 (loc (i : Int)) [] A := by
  refine w_L_1437 ?_
  refine ⟨inR_b (by omega) (by omega), ⟨by omega, by omega⟩, inR_b (by omega) (by omega), ⟨by omega, by omega⟩, Ci_mono (Nat.le_refl _) (hs k A _ _ hk hA (inR_of _) (inR_of _)) fun x1 A1 h1 => ?_⟩
  exact ⟨inR_b (by omega) (by omega), ⟨by omega, by omega⟩, inR_b (by omega) (by omega), ⟨by omega, by omega⟩, Ci_mono (Nat.le_refl _) h1 fun x2 A2 h2 => ⟨fun _ => hc A2 h2.2, fun z => absurd h2.1 z⟩⟩
theorem lc_more {n : Nat} {xs : Nat → Int32} {Q : iz_Q} {I : Nat → iz_A → Prop} {A : iz_A} {i k : Nat} (hk : k < 64) (hs : Sp_more I) (hA : I k A) (hn : n < 100000) (hi : i + 6 ≤ n) (hc : ∀ B, I (k + 1) B → Rl n xs Q 1470 (loc (i : Int)) [] B) : Rl n xs Q 809 (loc (i : Int)) [] A := by
  refine w_L_809 ⟨inR_b (by omega) (by omega), ⟨by omega, by omega⟩, fun z => ?_, fun z => ?_⟩
  · refine ⟨inR_b (by omega) (by omega), ⟨by omega, by omega⟩, Ci_mono (Nat.le_refl _) (hs k A 0 _ hk hA (Or.inl rfl) (inR_of _)) fun x1 A1 h1 => ?_⟩
    exact ⟨inR_b (by omega) (by omega), ⟨by omega, by omega⟩, fun _ => ⟨inR_b (by omega) (by omega), ⟨by omega, by omega⟩, Ci_mono (Nat.le_refl _) h1 fun x2 A2 h2 => ⟨fun _ => hc A2 h2.2, fun z => absurd h2.1 z⟩⟩, fun z2 => absurd z z2⟩
  · refine ⟨inR_b (by omega) (by omega), ⟨by omega, by omega⟩, Ci_mono (Nat.le_refl _) (hs k A 1 _ hk hA (Or.inr rfl) (inR_of _)) fun x1 A1 h1 => ?_⟩
    exact ⟨inR_b (by omega) (by omega), ⟨by omega, by omega⟩, fun z2 => absurd z2 z, fun _ => ⟨inR_b (by omega) (by omega), ⟨by omega, by omega⟩, Ci_mono (Nat.le_refl _) h1 fun x2 A2 h2 => ⟨fun _ => hc A2 h2.2, fun z => absurd h2.1 z⟩⟩⟩
set_option maxRecDepth 10000 in
theorem law_loop {n : Nat} {xs : Nat → Int32} {Q : iz_Q} {I : Nat → iz_A → Prop} (hs : Sp_all I) (hm : ∀ k A, I k A → I (k + 1) A) (hn : n ≤ 384) (hQ : ∀ A, Q (some (.inl 1)) A) : ∀ (k j : Nat), j + k = 65 → ∀ A, I j A → Rl n xs Q 18 (loc ((6 * j : Nat) : Int)) [] A := by
  obtain ⟨s_feed, s_end, s_cut, s_clear, s_build, s_place, s_row, s_shared, s_before, s_step, s_rank, s_select, s_byteAt, s_document, s_alike, s_begin, s_grow, s_front, s_back, s_pattern, s_patternByte, s_at, s_sorted, s_more, s_ranked, s_times, s_take, s_near, s_nearOf, s_ask, s_answer, s_answered, s_different, s_kth, s_order, s_repeated, s_common, s_oftenest, s_unique, s_maximal, s_absent, s_factor, s_word, s_square, s_mirror, s_match, s_count, s_unwound⟩ := hs
  intro k
  induction k with
  | zero =>
    intro j h1 A hA
    exact w_L_18 ⟨by omega, inR_b (by omega) (by omega), fun _ => ⟨Or.inr rfl, hQ A⟩, fun z => by omega⟩
  | succ k ih =>
    intro j h1 A hA
    refine w_L_18 ⟨by omega, inR_b (by omega) (by omega), fun _ => ⟨Or.inr rfl, hQ A⟩, fun z => ?_⟩
    have hi : 6 * j + 6 ≤ n := by omega
    have h5 : n < 100000 := by omega
    have hk : j < 64 := by omega
    have hc : ∀ B, I (j + 1) B → Rl n xs Q 1470 (loc ((6 * j : Nat) : Int)) [] B := fun B hB => by
      refine w_L_1470 ⟨inR_b (by omega) (by omega), ?_⟩
      have := ih (j + 1) (by omega) B hB
      rw [show (((6 * (j + 1) : Nat)) : Int) = ((6 * j : Nat) : Int) + 6 by omega] at this
      exact this
    exact ⟨⟨by omega, by omega⟩, fun _ => hc A (hm j A hA), fun _ => lc_feed hk s_feed hA h5 hi hc, fun _ => lc_end hk s_end hA h5 hi hc, fun _ => lc_cut hk s_cut hA h5 hi hc, fun _ => lc_clear hk s_clear hA h5 hi hc, fun _ => lc_build hk s_build hA h5 hi hc, fun _ => lc_place hk s_place hA h5 hi hc, fun _ => lc_row hk s_row hA h5 hi hc, fun _ => lc_shared hk s_shared hA h5 hi hc, fun _ => lc_before hk s_before hA h5 hi hc, fun _ => lc_step hk s_step hA h5 hi hc, fun _ => lc_rank hk s_rank hA h5 hi hc, fun _ => lc_select hk s_select hA h5 hi hc, fun _ => lc_byteAt hk s_byteAt hA h5 hi hc, fun _ => lc_document hk s_document hA h5 hi hc, fun _ => lc_alike hk s_alike hA h5 hi hc, fun _ => lc_begin hk s_begin hA h5 hi hc, fun _ => lc_grow hk s_grow hA h5 hi hc, fun _ => lc_front hk s_front hA h5 hi hc, fun _ => lc_back hk s_back hA h5 hi hc, fun _ => lc_pattern hk s_pattern hA h5 hi hc, fun _ => lc_patternByte hk s_patternByte hA h5 hi hc, fun _ => lc_at hk s_at hA h5 hi hc, fun _ => lc_sorted hk s_sorted hA h5 hi hc, fun _ => lc_more hk s_more hA h5 hi hc, fun _ => lc_ranked hk s_ranked hA h5 hi hc, fun _ => lc_times hk s_times hA h5 hi hc, fun _ => lc_take hk s_take hA h5 hi hc, fun _ => lc_near hk s_near hA h5 hi hc, fun _ => lc_nearOf hk s_nearOf hA h5 hi hc, fun _ => lc_ask hk s_ask hA h5 hi hc, fun _ => lc_answer hk s_answer hA h5 hi hc, fun _ => lc_answered hk s_answered hA h5 hi hc, fun _ => lc_different hk s_different hA h5 hi hc, fun _ => lc_kth hk s_kth hA h5 hi hc, fun _ => lc_order hk s_order hA h5 hi hc, fun _ => lc_repeated hk s_repeated hA h5 hi hc, fun _ => lc_common hk s_common hA h5 hi hc, fun _ => lc_oftenest hk s_oftenest hA h5 hi hc, fun _ => lc_unique hk s_unique hA h5 hi hc, fun _ => lc_maximal hk s_maximal hA h5 hi hc, fun _ => lc_absent hk s_absent hA h5 hi hc, fun _ => lc_factor hk s_factor hA h5 hi hc, fun _ => lc_word hk s_word hA h5 hi hc, fun _ => lc_square hk s_square hA h5 hi hc, fun _ => lc_mirror hk s_mirror hA h5 hi hc, fun _ => lc_match hk s_match hA h5 hi hc, fun _ => lc_count hk s_count hA h5 hi hc, fun _ => lc_unwound hk s_unwound hA h5 hi hc⟩
set_option maxRecDepth 10000 in
/-- the cells at the start, as whole numbers -/
def A0F : iz_A := (fun q j => (S0F.1 q j).toInt, S0F.2)
theorem A0F_S : iz_S A0F = S0F := by
  unfold iz_S A0F
  simp only [iv_of]
theorem pure_of {I : Nat → iz_A → Prop} (hs : Sp_all I) (hm : ∀ k A, I k A → I (k + 1) A) (h0 : I 0 A0F) {n : Nat} (xs : Nat → Int32) (hn : n ≤ 384) : pure_law n xs := by
  have h : Rl n xs (fun v _ => v = some (.inl 1)) 16 [some (.inr (.inl 777)), some (.inr (.inl 0)), some (.inr (.inl 55)), none] [] A0F := w_L_16 (law_loop hs hm hn (fun _ => rfl) 65 0 rfl A0F h0)
  have := iz_run_sound (Q := fun v _ => v = some (.int 1)) (ab_T_mono 200 200 (Nat.le_refl _)) (iz_T_sound 200) (fun v A _ _ hv => by rw [hv]; exact congrArg (fun z => some (Value.int z)) iv_1) h (fun i v hv => by
    match i, hv with
    | 0, hv => cases hv; trivial
    | 1, hv => cases hv; trivial
    | 2, hv => cases hv; trivial
    | 3, hv => cases hv
    | i + 4, hv => simp at hv) (fun v hv => absurd hv List.not_mem_nil) (fun q j => inR_of _)
  rw [A0F_S] at this
  exact this
