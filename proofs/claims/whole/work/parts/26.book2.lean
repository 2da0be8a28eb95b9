theorem l_cutM {d : Nat} {Q : iz_Q} {B : iz_A} {h W : Nat} (hh : B.1 55 5 = (h : Int)) (hw : B.1 55 1 = (W : Int)) (hb : W + h + 1 ≤ 3000) (hd0 : 0 ≤ B.1 55 3) (hd1 : B.1 55 3 < 40)
    (hQ : ∀ C, fr [55, 56, 57] B C → C.1 55 = uz (uz (uz (uz (B.1 55) 1 ((W : Int) + (h : Int))) 1 (((W : Int) + (h : Int)) + 1)) 5 0) 3 (B.1 55 3 + 1) → C.1 56 = uz (wr (B.1 56) W h (B.1 58)) (W + h) (-1) → C.1 57 = uz (B.1 57) (B.1 55 3).toNat (h : Int) → Q (some (.inl (B.1 55 3 + 1 - 1))) C) :
    ∀ (n i : Nat), i + n = h → ∀ C, fr [56] B C → C.1 56 = wr (B.1 56) W i (B.1 58) → Rn d mX11_cut Q 30 [some (.inr (.inl 55)), some (.inl (i : Int))] [] C := by
  intro n
  induction n with
  | zero =>
    intro i hi C hf e
    obtain rfl : i = h := by omega
    have e55 : C.1 55 = B.1 55 := hf.1 55 (by decide)
    refine w_X11_cut_30 ⟨fun _ => ?_, fun z => absurd (by rw [e55, hh]; exact Int.le_refl _) z⟩
    rw [e55, hh, hw]
    refine ⟨inR_b (by omega) (by omega), ⟨by omega, by omega⟩, inR_b (by omega) (by omega), ⟨hd0, hd1⟩, inR_b (by omega) (by omega), inR_b (by omega) (by omega), ?_⟩
    refine hQ _ ?_ rfl ?_ ?_
    · exact fr_pI (fr_pI (fr_pI (fr_pI (fr_pI (fr_pI (fr_mo hf (by decide)) (by decide)) (by decide)) (by decide)) (by decide)) (by decide)) (by decide)
    · show uz (C.1 56) _ _ = _
      rw [e, show ((W : Int) + (i : Int)).toNat = W + i by omega]
    · show uz (C.1 57) _ _ = _
      rw [hf.1 57 (by decide)]
  | succ n ih =>
    intro i hi C hf e
    have e55 : C.1 55 = B.1 55 := hf.1 55 (by decide)
    refine w_X11_cut_30 ⟨fun z => by rw [e55, hh] at z; omega, fun _ => ?_⟩
    rw [e55, hw]
    refine ⟨inR_b (by omega) (by omega), ⟨by omega, by omega⟩, ⟨by omega, by omega⟩, inR_b (by omega) (by omega), ?_⟩
    rw [show ((i : Int) + 1) = ((i + 1 : Nat) : Int) by omega]
    refine ih (i + 1) (by omega) _ (fr_pI hf (by decide)) ?_
    show uz (C.1 56) _ _ = _
    rw [e, hf.1 58 (by decide), show ((W : Int) + (i : Int)).toNat = W + i by omega, show ((i : Int)).toNat = i from Int.toNat_natCast _, wr_s]
theorem b_cut {A : iz_A} {I : iz_A → Prop} (hB : InvB A)
    (hI : ∀ B, fr [1, 2, 3, 55, 56, 57] A B → (∀ j, j ≠ 4 → j ≠ 3 → B.1 1 j = A.1 1 j) → (∀ j, j ≠ 5 → j ≠ 3 → j ≠ 1 → B.1 55 j = A.1 55 j) → InvB B → I B) : Bo 110 160 [] [] A I := by
  obtain ⟨D, h, F, q1, q2, q3, q4, q5, q6, q7, q8, q9, q10, q11, q12, q13⟩ := id hB
  have same : I A := hI A (fr_mo (fr_rf A) (by decide)) (fun _ _ _ => rfl) (fun _ _ _ _ => rfl) hB
  have f3 : A.1 3 D = (F D : Int) := q8 D (Nat.le_refl _)
  refine Ci_mono (d := 2) (by decide) (P := fun x1 A1 => Ci 200 160 _ A1 fun x2 A2 => x1 = x2 ∧ I A2) ?_ (fun _ _ z => z)
  refine e_X10_cut (d := 1) ?_
  refine e_X0_endDocument (d := 0) ?_
  rw [q3, q5, show ((D : Int)).toNat = D from Int.toNat_natCast _, f3]
  have bad : ∀ {d : Nat}, D = 40 ∨ ¬ F D + h + 1 ≤ 3000 → Ci (d + 1) 160 [.inr (.inl 55)] A fun x2 A2 => -1 = x2 ∧ I A2 := fun {d} hb => by
    refine e_X11_cut ?_
    rw [q4, q6, q11]
    refine ⟨fun _ => ⟨-1, rfl, rfl, same⟩, fun c => ⟨inR_b (by omega) (by omega), inR_b (by omega) (by omega), fun z => by omega, fun _ => ⟨-1, rfl, rfl, same⟩⟩⟩
  refine ⟨fun c => ⟨_, rfl, _, rfl, bad (Or.inl (by omega))⟩, fun c => ⟨⟨by omega, by omega⟩, inR_b (by omega) (by omega), fun c2 => ?_, fun c2 => ⟨_, rfl, _, rfl, bad (Or.inr (by omega))⟩⟩⟩
  refine ⟨⟨by omega, by omega⟩, ⟨by omega, by omega, by omega, by omega, by omega⟩, inR_b (by omega) (by omega), ⟨by omega, by omega⟩, inR_b (by omega) (by omega), inR_b (by omega) (by omega), inR_b (by omega) (by omega), ⟨by omega, by omega⟩, inR_b (by omega) (by omega), _, rfl, _, rfl, ?_⟩
  generalize hAA : iz_pI (iz_pI (iz_pI (iz_pI (iz_pI A 2 _) 2 _) 1 _) 3 _) 1 _ = B
  have g1 : B.1 1 = uz (uz (A.1 1) 3 ((D : Int) + 1)) 4 0 := by rw [← hAA]; rfl
  have g3 : B.1 3 = uz (A.1 3) ((D : Int) + 1).toNat ((F D : Int) + (h : Int) + 1) := by rw [← hAA]; rfl
  have g2 : B.1 2 = uz (va_cpy (A.1 4) (A.1 2) (0 : Int).toNat ((F D : Int)).toNat ((h : Int)).toNat) ((F D : Int) + (h : Int)).toNat (-2) := by rw [← hAA]; rfl
  have gf : fr [1, 2, 3] A B := by
    rw [← hAA]
    exact fr_pI (fr_pI (fr_pI (fr_pI (fr_pI (fr_mo (fr_rf A) (by decide)) (by decide)) (by decide)) (by decide)) (by decide)) (by decide)
  have g55 : B.1 55 = A.1 55 := gf.1 55 (by decide)
  refine Ci_mono (d := 1) (by decide) (P := fun x2 A2 => (D : Int) + 1 - 1 = x2 ∧ I A2) ?_ (fun _ _ z => z)
  refine e_X11_cut (d := 0) ?_
  rw [g55, q4, q6, q11]
  refine ⟨fun z => by omega, fun _ => ⟨inR_b (by omega) (by omega), inR_b (by omega) (by omega), fun _ => ?_, fun z => by omega⟩⟩
  refine l_cutM (h := h) (W := F D) (by rw [g55, q6]) (by rw [g55, q11]) (by omega) (by rw [g55, q4]; omega) (by rw [g55, q4]; omega) (fun C f2 o55 o56 o57 => ?_) h 0 (by omega) B (fr_mo (fr_rf B) (by decide)) (wr_0 _ _ _).symm
  rw [g55, q4] at o55 o57 ⊢
  refine ⟨_, rfl, rfl, ?_⟩
  have e1 : C.1 1 = uz (uz (A.1 1) 3 ((D : Int) + 1)) 4 0 := by rw [f2.1 1 (by decide), g1]
  refine hI C (fr_mo (fr_tr gf f2) (by decide)) (fun j h1 h2 => by rw [e1, uz_ne _ _ h1, uz_ne _ _ h2]) (fun j h1 h2 h3 => by rw [o55, uz_ne _ _ h2, uz_ne _ _ h1, uz_ne _ _ h3, uz_ne _ _ h3]) ?_
  rw [gf.1 56 (by decide), gf.1 58 (by decide)] at o56
  rw [gf.1 57 (by decide), show ((D : Int)).toNat = D from Int.toNat_natCast _] at o57
  have e2 : C.1 2 = uz (va_cpy (A.1 4) (A.1 2) 0 (F D) h) (F D + h) (-2) := by
    rw [f2.1 2 (by decide), g2, show ((F D : Int)).toNat = F D from Int.toNat_natCast _, show ((h : Int)).toNat = h from Int.toNat_natCast _, show ((F D : Int) + (h : Int)).toNat = F D + h by omega]
    rfl
  have e3 : C.1 3 = uz (A.1 3) (D + 1) ((F D : Int) + (h : Int) + 1) := by
    rw [f2.1 3 (by decide), g3, show ((D : Int) + 1).toNat = D + 1 by omega]
  show BkR (C.1 1 3) (C.1 1 4) (C.1 2) (C.1 3) (C.1 4) (C.1 55 1) (C.1 55 3) (C.1 55 5) (C.1 56) (C.1 57) (C.1 58)
  rw [e1, e2, e3, o55, o56, o57, f2.1 4 (by decide), gf.1 4 (by decide), f2.1 58 (by decide), gf.1 58 (by decide)]
  have fm := F_mono q9
  refine ⟨D + 1, 0, fun d => if d = D + 1 then F D + h + 1 else F d, by omega, by omega, ?_, ?_, ?_, ?_, ?_, fun d hd => ?_, fun d hd => ?_, ?_, ?_, fun j hj => by omega, fun d hd => ?_⟩
  · rw [uz_ne _ _ (by decide), uz_at]; omega
  · rw [uz_at]; omega
  · rw [uz_at]; rfl
  · rw [uz_ne _ _ (by decide), uz_at]; rfl
  · show (if 0 = D + 1 then _ else _) = 0
    rw [if_neg (by omega)]; exact q7
  · unfold uz
    by_cases c : d = D + 1
    · rw [if_pos c]; simp only [if_pos c]; omega
    · rw [if_neg c]; simp only [if_neg c]; exact q8 d (by omega)
  · by_cases c : d = D
    · subst c
      rw [uz_at]
      refine ⟨by omega, ?_⟩
      simp only [if_pos, if_neg (show ¬ d = d + 1 by omega)]
      omega
    · rw [uz_ne _ _ c]
      have := q9 d (by omega)
      simp only [if_neg (show ¬ d + 1 = D + 1 by omega), if_neg (show ¬ d = D + 1 by omega)]
      exact this
  · simp only [if_pos]; omega
  · rw [uz_ne _ _ (by decide), uz_ne _ _ (by decide), uz_at]
    simp only [if_pos]
    omega
  · by_cases c : d = D
    · subst c
      rw [uz_at]
      simp only [if_neg (show ¬ d = d + 1 by omega), show ((h : Int)).toNat = h from Int.toNat_natCast _]
      refine ⟨fun j h1 h2 => ?_, uz_at _ _ _, uz_at _ _ _⟩
      rw [uz_ne _ _ (by omega), uz_ne _ _ (by omega)]
      unfold va_cpy wr
      rw [if_pos ⟨h1, h2⟩, if_pos ⟨h1, h2⟩, Nat.zero_add]
      exact q12 _ (by omega)
    · rw [uz_ne _ _ c]
      simp only [if_neg (show ¬ d = D + 1 by omega)]
      have h9 := q9 d (by omega)
      have hle := fm D (d + 1) (by omega) (by omega)
      obtain ⟨r1, r2, r3⟩ := q13 d (by omega)
      have off : ∀ j, j < F D → uz (va_cpy (A.1 4) (A.1 2) 0 (F D) h) (F D + h) (-2) j = A.1 2 j ∧ uz (wr (A.1 56) (F D) h (A.1 58)) (F D + h) (-1) j = A.1 56 j := fun j hj => by
        rw [uz_ne _ _ (by omega), uz_ne _ _ (by omega)]
        unfold va_cpy wr
        rw [if_neg (by omega), if_neg (by omega)]
        exact ⟨rfl, rfl⟩
      refine ⟨fun j h1 h2 => ?_, ?_, ?_⟩
      · rw [(off j (by omega)).1, (off j (by omega)).2]
        exact r1 j h1 h2
      · rw [(off _ (by omega)).1]; exact r2
      · rw [(off _ (by omega)).2]; exact r3
