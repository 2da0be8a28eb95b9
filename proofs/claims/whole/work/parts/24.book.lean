/-! ===== the book ===== -/
theorem uz_uz (f : Nat → Int) (j : Nat) (x y : Int) : uz (uz f j x) j y = uz f j y := by
  funext i
  unfold uz
  split <;> rfl
/-- i numbers b are written from h on -/
def wr (f : Nat → Int) (h i : Nat) (b : Nat → Int) : Nat → Int := fun j => if h ≤ j ∧ j < h + i then b (j - h) else f j
theorem wr_0 (f : Nat → Int) (h : Nat) (b : Nat → Int) : wr f h 0 b = f := by
  funext j
  unfold wr
  rw [if_neg (by omega)]
theorem wr_s (f : Nat → Int) (h i : Nat) (b : Nat → Int) : uz (wr f h i b) (h + i) (b i) = wr f h (i + 1) b := by
  funext j
  unfold uz wr
  by_cases e : j = h + i
  · subst e
    rw [if_pos rfl, if_pos (by omega), show h + i - h = i by omega]
  · rw [if_neg e]
    by_cases c : h ≤ j ∧ j < h + i
    · rw [if_pos c, if_pos (by omega)]
    · rw [if_neg c, if_neg (by omega)]
theorem wr_w (f : Nat → Int) (h i k : Nat) (b c e : Nat → Int) (hb : ∀ j, j < i → b j = e j) (hc : ∀ j, j < k → c j = e (i + j)) : wr (wr f h i b) (h + i) k c = wr f h (i + k) e := by
  funext j
  unfold wr
  by_cases c1 : h + i ≤ j ∧ j < h + i + k
  · rw [if_pos c1, if_pos (by omega), hc _ (by omega), show i + (j - (h + i)) = j - h by omega]
  · rw [if_neg c1]
    by_cases c2 : h ≤ j ∧ j < h + i
    · rw [if_pos c2, if_pos (by omega), hb _ (by omega)]
    · rw [if_neg c2, if_neg (by omega)]
theorem inR_n {n : Nat} (h : n < 2147483648) : inR (n : Int) := ⟨by omega, by omega⟩
theorem inR_b {x : Int} (h1 : -2147483648 ≤ x) (h2 : x < 2147483648) : inR x := ⟨h1, h2⟩
/-- the four bytes of a number, the highest first -/
def b4 (v : Int) (k : Nat) : Int := by4 v (24 - 8 * k)
theorem l_addFour {d : Nat} {Q : iz_Q} {A : iz_A} {v : Int} {h : Nat} (hv : inR v) (h1 : h ≤ 2996) (hQ : ∀ B, fr [1, 4] A B → B.1 1 = uz (A.1 1) 4 ((h + 4 : Nat) : Int) → B.1 4 = wr (A.1 4) h 4 (b4 v) → Q none B) :
    ∀ (n i : Nat), i + n = 4 → ∀ B, fr [1, 4] A B → B.1 1 = uz (A.1 1) 4 ((h + i : Nat) : Int) → B.1 4 = wr (A.1 4) h i (b4 v) → Rn d mX0_addFour Q 3 [some (.inr (.inl 1)), some (.inl v), some (.inl (24 - 8 * (i : Int)))] [] B := by
  intro n
  induction n with
  | zero =>
    intro i hi B hf e1 e4
    obtain rfl : i = 4 := by omega
    exact w_X0_addFour_3 ⟨fun _ => hQ B hf e1 e4, fun z => absurd (show (24 - 8 * ((4 : Nat) : Int)) < 0 by decide) z⟩
  | succ n ih =>
    intro i hi B hf e1 e4
    have a4 : B.1 1 4 = ((h + i : Nat) : Int) := by rw [e1]; exact uz_at _ _ _
    refine w_X0_addFour_3 ⟨fun z => by omega, fun _ => ⟨fun z => by rw [a4] at z; omega, fun _ => ?_⟩⟩
    rw [a4]
    refine ⟨⟨by omega, by omega⟩, inR_b (by omega) (by omega), inR_b (by omega) (by omega), ?_⟩
    rw [show (24 - 8 * (i : Int) + -8) = 24 - 8 * ((i + 1 : Nat) : Int) by omega]
    refine ih (i + 1) (by omega) _ (fr_pI (fr_pI hf (by decide)) (by decide)) ?_ ?_
    · show uz (B.1 1) 4 _ = _
      rw [e1, uz_uz]
      congr 1
    · show uz (B.1 4) _ _ = _
      rw [e4, ← wr_s, show (((h + i : Nat) : Int)).toNat = h + i from Int.toNat_natCast _]
      congr 1
      rw [show (24 - 8 * (i : Int)) = ((24 - 8 * i : Nat) : Int) by omega]
      exact ushr_byte hv _ (by omega)
theorem s_addFour {d : Nat} {A : iz_A} {v : Int} {h : Nat} {P : iz_A → Prop} (hv : inR v) (hh : A.1 1 4 = (h : Int)) (h1 : h ≤ 2996) (hP : ∀ B, fr [1, 4] A B → B.1 1 = uz (A.1 1) 4 ((h + 4 : Nat) : Int) → B.1 4 = wr (A.1 4) h 4 (b4 v) → P B) : Cv (d + 1) 0 [.inr (.inl 1), .inl v] A P := by
  refine e_X0_addFour ?_
  refine l_addFour hv h1 (fun B a b c => ⟨rfl, hP B a b c⟩) 4 0 rfl A (fr_mo (fr_rf A) (by decide)) ?_ (wr_0 _ _ _).symm
  funext j
  unfold uz
  split
  · rename_i e; rw [e, hh]; rfl
  · rfl
/-- the twenty bytes of five numbers -/
def b20 (v1 v2 v3 v4 v5 : Int) (k : Nat) : Int := by4 (if k < 4 then v1 else if k < 8 then v2 else if k < 12 then v3 else if k < 16 then v4 else v5) (24 - 8 * (k % 4))
theorem sX_feed {d : Nat} {A : iz_A} {v1 v2 v3 v4 v5 : Int} {h : Nat} {P : Int → iz_A → Prop} (hv : inR v1 ∧ inR v2 ∧ inR v3 ∧ inR v4 ∧ inR v5) (hh : A.1 1 4 = (h : Int))
    (hP : h ≤ 2980 → ∀ B, fr [1, 4] A B → B.1 1 = uz (A.1 1) 4 ((h + 20 : Nat) : Int) → B.1 4 = wr (A.1 4) h 20 (b20 v1 v2 v3 v4 v5) → P ((h + 20 : Nat) : Int) B) (hP2 : ¬ h ≤ 2980 → P (-1) A) : Ci (d + 2) 108 [.inr (.inl 0), .inl v1, .inl v2, .inl v3, .inl v4, .inl v5] A P := by
  refine e_X10_feed ⟨fun z => ?_, fun z => ⟨-1, rfl, hP2 (by rw [hh] at z; omega)⟩⟩
  rw [hh] at z
  have hz : h ≤ 2980 := by omega
  refine s_addFour (h := h) hv.1 hh (by omega) fun B1 f1 o1 t1 => ?_
  refine s_addFour (h := h + 4) hv.2.1 (by rw [o1]; exact uz_at _ _ _) (by omega) fun B2 f2 o2 t2 => ?_
  refine s_addFour (h := h + 4 + 4) hv.2.2.1 (by rw [o2]; exact uz_at _ _ _) (by omega) fun B3 f3 o3 t3 => ?_
  refine s_addFour (h := h + 4 + 4 + 4) hv.2.2.2.1 (by rw [o3]; exact uz_at _ _ _) (by omega) fun B4 f4 o4 t4 => ?_
  refine s_addFour (h := h + 4 + 4 + 4 + 4) hv.2.2.2.2 (by rw [o4]; exact uz_at _ _ _) (by omega) fun B5 f5 o5 t5 => ?_
  refine ⟨_, rfl, ?_⟩
  have e5 : B5.1 1 = uz (A.1 1) 4 ((h + 20 : Nat) : Int) := by
    rw [o5, o4, o3, o2, o1, uz_uz, uz_uz, uz_uz, uz_uz]
  rw [show B5.1 1 4 = ((h + 20 : Nat) : Int) from by rw [e5]; exact uz_at _ _ _]
  refine hP hz B5 (fr_mo (fr_tr f1 (fr_tr f2 (fr_tr f3 (fr_tr f4 f5)))) (by decide)) e5 ?_
  rw [t5, t4, t3, t2, t1]
  rw [wr_w (A.1 4) h 4 4 (b4 v1) (b4 v2) (b20 v1 v2 v3 v4 v5) ?_ ?_]
  rw [show h + 4 + 4 = h + (4 + 4) by omega, wr_w (A.1 4) h (4 + 4) 4 _ (b4 v3) (b20 v1 v2 v3 v4 v5) (fun _ _ => rfl) ?_]
  rw [show h + (4 + 4) + 4 = h + (4 + 4 + 4) by omega, wr_w (A.1 4) h (4 + 4 + 4) 4 _ (b4 v4) (b20 v1 v2 v3 v4 v5) (fun _ _ => rfl) ?_]
  rw [show h + (4 + 4 + 4) + 4 = h + (4 + 4 + 4 + 4) by omega, wr_w (A.1 4) h (4 + 4 + 4 + 4) 4 _ (b4 v5) (b20 v1 v2 v3 v4 v5) (fun _ _ => rfl) ?_]
  all_goals
    intro j hj
    unfold b4 b20
    rcases (show j = 0 ∨ j = 1 ∨ j = 2 ∨ j = 3 by omega) with rfl | rfl | rfl | rfl <;> rfl
theorem l_feedM {d : Nat} {Q : iz_Q} {A : iz_A} {v1 v2 v3 v4 v5 : Int} {h : Nat} (hv : inR v1 ∧ inR v2 ∧ inR v3 ∧ inR v4 ∧ inR v5) (h1 : h ≤ 2980) (hQ : ∀ B, fr [55, 58] A B → B.1 55 = uz (A.1 55) 5 ((h + 20 : Nat) : Int) → B.1 58 = wr (A.1 58) h 20 (b20 v1 v2 v3 v4 v5) → Q (some (.inl ((h + 20 : Nat) : Int))) B) :
    ∀ (n i : Nat), i + n = 20 → ∀ B, fr [55, 58] A B → B.1 55 = uz (A.1 55) 5 ((h + i : Nat) : Int) → B.1 58 = wr (A.1 58) h i (b20 v1 v2 v3 v4 v5) → Rn d mX11_feed Q 18 [some (.inr (.inl 55)), some (.inl v1), some (.inl v2), some (.inl v3), some (.inl v4), some (.inl v5), some (.inl (i : Int)), none] [] B := by
  intro n
  induction n with
  | zero =>
    intro i hi B hf e1 e4
    obtain rfl : i = 20 := by omega
    refine w_X11_feed_18 ⟨fun _ => ?_, fun z => absurd (by decide) z⟩
    rw [show B.1 55 5 = ((h + 20 : Nat) : Int) from by rw [e1]; exact uz_at _ _ _]
    exact hQ B hf e1 e4
  | succ n ih =>
    intro i hi B hf e1 e4
    have a4 : B.1 55 5 = ((h + i : Nat) : Int) := by rw [e1]; exact uz_at _ _ _
    have hm : (iv (i : Int) - iv (i : Int) / iv 4 * iv 4).toInt = ((i % 4 : Nat) : Int) := by
      rw [irem_eq (x := (i : Int)) (y := 4) (inR_n (by omega)) (inR_b (by decide) (by decide)) (by omega) (by decide)]
      omega
    have hlt : i % 4 < 4 := Nat.mod_lt _ (by decide)
    have key : ∀ v : Int, inR v → b20 v1 v2 v3 v4 v5 i = by4 v (24 - 8 * (i % 4)) → ¬ (4 : Int) = 0 ∧ (inR (((iv (i : Int) - iv (i : Int) / iv 4 * iv 4).toInt) * 8) ∧ (inR (24 - (((iv (i : Int) - iv (i : Int) / iv 4 * iv 4).toInt) * 8)) ∧ (((0 : Int) ≤ (B.1 55 5) ∧ (B.1 55 5) < (3000 : Int)) ∧ (inR ((B.1 55 5) + 1) ∧ (inR ((i : Int) + 1) ∧ (Rn d mX11_feed Q 18 [some (.inr (.inl 55)), some (.inl v1), some (.inl v2), some (.inl v3), some (.inl v4), some (.inl v5), some (.inl ((i : Int) + 1)), none] [] (iz_pI (iz_pI B 58 (uz (B.1 58) (B.1 55 5).toNat ((iv ((iv v >>> (iv (24 - (((iv (i : Int) - iv (i : Int) / iv 4 * iv 4).toInt) * 8)) &&& 31)).toInt) &&& iv 255).toInt))) 55 (uz (B.1 55) 5 ((B.1 55 5) + 1))))))))) := by
      intro v hv hb
      rw [hm, a4]
      refine ⟨by decide, inR_b (by omega) (by omega), inR_b (by omega) (by omega), ⟨by omega, by omega⟩, inR_b (by omega) (by omega), inR_b (by omega) (by omega), ?_⟩
      rw [show ((i : Int) + 1) = ((i + 1 : Nat) : Int) by omega]
      refine ih (i + 1) (by omega) _ (fr_pI (fr_pI hf (by decide)) (by decide)) ?_ ?_
      · show uz (B.1 55) 5 _ = _
        rw [e1, uz_uz]
        congr 1
      · show uz (B.1 58) _ _ = _
        rw [e4, ← wr_s, show (((h + i : Nat) : Int)).toNat = h + i from Int.toNat_natCast _, hb]
        congr 1
        rw [show (24 - ((i % 4 : Nat) : Int) * 8) = ((24 - 8 * (i % 4) : Nat) : Int) by omega]
        exact sshr_byte hv _ (by omega)
    refine w_X11_feed_18 ⟨fun z => by omega, fun _ => ⟨fun c1 => ⟨fun c2 => ⟨fun c3 => ⟨fun c4 => key v5 hv.2.2.2.2 ?_, fun c4 => key v4 hv.2.2.2.1 ?_⟩, fun c3 => key v3 hv.2.2.1 ?_⟩, fun c2 => key v2 hv.2.1 ?_⟩, fun c1 => key v1 hv.1 ?_⟩⟩
    · unfold b20; rw [if_neg (by omega), if_neg (by omega), if_neg (by omega), if_neg (by omega)]
    · unfold b20; rw [if_neg (by omega), if_neg (by omega), if_neg (by omega), if_pos (by omega)]
    · unfold b20; rw [if_neg (by omega), if_neg (by omega), if_pos (by omega)]
    · unfold b20; rw [if_neg (by omega), if_pos (by omega)]
    · unfold b20; rw [if_pos (by omega)]
theorem sM_feed {d : Nat} {A : iz_A} {v1 v2 v3 v4 v5 : Int} {h : Nat} {P : Int → iz_A → Prop} (hv : inR v1 ∧ inR v2 ∧ inR v3 ∧ inR v4 ∧ inR v5) (hh : A.1 55 5 = (h : Int)) (h3 : h ≤ 3000)
    (hP : h ≤ 2980 → ∀ B, fr [55, 58] A B → B.1 55 = uz (A.1 55) 5 ((h + 20 : Nat) : Int) → B.1 58 = wr (A.1 58) h 20 (b20 v1 v2 v3 v4 v5) → P ((h + 20 : Nat) : Int) B) (hP2 : ¬ h ≤ 2980 → P (-1) A) : Ci (d + 1) 158 [.inr (.inl 55), .inl v1, .inl v2, .inl v3, .inl v4, .inl v5] A P := by
  refine e_X11_feed ?_
  rw [hh]
  refine ⟨inR_b (by omega) (by omega), fun z => ?_, fun z => ⟨-1, rfl, hP2 (by omega)⟩⟩
  refine l_feedM hv (by omega) (fun B a b c => ⟨_, rfl, hP (by omega) B a b c⟩) 20 0 rfl A (fr_mo (fr_rf A) (by decide)) ?_ (wr_0 _ _ _).symm
  funext j
  unfold uz
  split
  · rename_i e; rw [e, hh]; rfl
  · rfl
