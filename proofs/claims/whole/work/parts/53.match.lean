theorem sM_match {d : Nat} {A : iz_A} {x : Ix} {p e : Nat} {P : Int → iz_A → Prop} (h1 : TxOk x) (h2 : PmOk x) (h3 : SoOk x) (h5 : MI x A) (hp : p < ixn x) (he : e < ixm x) (hP : ∀ b, Mt x p (fun q => ixo x q = e) b → P (b : Int) A) : Ci (d + 2) 244 [.inr (.inl 55), .inl (p : Int), .inl (e : Int)] A P := by
  have nb := h1.2.2.1
  have hr := (h2.2 p hp).1
  have lb := lft_bd h1 hp
  have cl := c_lft h1 h2 h3 hp
  have c0 : ixc x (ixr x p) ≤ 3000 := (by omega)
  have c1 : ixr x p + 1 < ixn x → ixc x (ixr x p + 1) ≤ 3000 := fun z => by have := cl.2 z; omega
  refine e_X11_match (sM_isRowK h5 hp ⟨fun z => absurd z n10, fun _ => sM_isDocK h5 he ⟨fun _ => ⟨⟨by omega, by omega⟩, ?_⟩, fun z => absurd z n10⟩⟩)
  rw [tn, (h5.2.2.2.1 p hp).2.2]
  have low : ∀ L : Nat, L ≤ 3000 → (∀ t, 1 ≤ t → t ≤ ixr x p → ixo x (ixs x (ixr x p - t)) = e → mup x 3000 (ixr x p) t ≤ L) → (L = 0 ∨ ∃ t, 1 ≤ t ∧ t ≤ ixr x p ∧ ixo x (ixs x (ixr x p - t)) = e ∧ mup x 3000 (ixr x p) t = L) → ((0 : Int) ≤ (p : Int) ∧ (p : Int) < (3001 : Int)) ∧ inR (A.1 64 ((p : Int)).toNat + 1) ∧ Rn (d + 1) mX11_match (fun v A' => ∃ y, v = some (.inl y) ∧ P y A') 126 [some (.inr (.inl 55)), some (.inl ((p : Int))), some (.inl ((e : Int))), some (.inl ((L : Int))), some (.inl 3000), some (.inl (A.1 64 ((p : Int)).toNat + 1))] [] A := by
    intro L L3 u1 u2
    rw [tn, (h5.2.2.2.1 p hp).2.2, show (ixr x p : Int) + 1 = ((ixr x p + 1 : Nat) : Int) by omega]
    refine ⟨⟨by omega, by omega⟩, inR_b (by omega) (by omega), ?_⟩
    have := dwl (P := fun k => ∀ M : Nat, M ≤ 3000 → L ≤ M → (∀ t, 1 ≤ t → t < k - ixr x p → ixo x (ixs x (ixr x p + t)) = e → mdn x 3000 (ixr x p) t ≤ M) → (M = L ∨ ∃ t, 1 ≤ t ∧ t < k - ixr x p ∧ ixo x (ixs x (ixr x p + t)) = e ∧ mdn x 3000 (ixr x p) t = M) → Rn (d + 1) mX11_match (fun v A' => ∃ y, v = some (.inl y) ∧ P y A') 126 [some (.inr (.inl 55)), some (.inl ((p : Int))), some (.inl ((e : Int))), some (.inl ((M : Int))), some (.inl ((mdn x 3000 (ixr x p) (k - ixr x p - 1) : Int))), some (.inl ((k : Int)))] [] A) (a := ixr x p + 1) (n := ixn x) ?_ (fun k ka hk ih => ?_) (by omega) L L3 (Nat.le_refl _) (fun t a b => by omega) (Or.inl rfl)
    · rw [show ixr x p + 1 - ixr x p - 1 = 0 by omega] at this
      exact this
    · intro M M3 lm w1 w2
      refine w_X11_match_126 ?_
      rw [h5.2.1]
      refine ⟨fun _ => ⟨_, rfl, hP M (mt_of h2 h3 hp c0 c1 (fun t a b c => Nat.le_trans (u1 t a b c) lm) (fun t a b c => w1 t a (by omega) c) ?_)⟩, fun z => by omega⟩
      rcases w2 with rfl | ⟨t, t1, t2, t3⟩
      · rcases u2 with z | ⟨t, t1⟩
        · exact Or.inl z
        · exact Or.inr (Or.inl ⟨t, t1⟩)
      · exact Or.inr (Or.inr ⟨t, t1, (by omega), t3⟩)
    · intro M M3 lm w1 w2
      have hs := (h2.1 k hk).1
      have ms := mdn_s x 3000 (ixr x p) (k - ixr x p - 1)
      rw [show k - ixr x p - 1 + 1 = k - ixr x p by omega, show ixr x p + 1 + (k - ixr x p - 1) = k by omega] at ms
      have m1 := mdn_mono x 3000 (ixr x p) (Nat.zero_le (k - ixr x p))
      have m2 : mdn x 3000 (ixr x p) 0 = 3000 := rfl
      rw [show ((k + 1 : Nat) : Int) = (k : Int) + 1 by omega, show k + 1 - ixr x p - 1 = k - ixr x p by omega] at ih
      have other : ¬ ixo x (ixs x k) = e → Rn (d + 1) mX11_match (fun v A' => ∃ y, v = some (.inl y) ∧ P y A') 126 [some (.inr (.inl 55)), some (.inl ((p : Int))), some (.inl ((e : Int))), some (.inl ((M : Int))), some (.inl ((mdn x 3000 (ixr x p) (k - ixr x p) : Int))), some (.inl ((k : Int) + 1))] [] A := fun z2 => ih M M3 lm (fun t a b c => by
        by_cases y : t < k - ixr x p
        · exact w1 t a y c
        · rw [show ixr x p + t = k by omega] at c
          exact absurd c z2) (by
        rcases w2 with rfl | ⟨t, t1, t2, t3⟩
        · exact Or.inl rfl
        · exact Or.inr ⟨t, t1, (by omega), t3⟩)
      have less : mdn x 3000 (ixr x p) (k - ixr x p) ≤ M → Rn (d + 1) mX11_match (fun v A' => ∃ y, v = some (.inl y) ∧ P y A') 126 [some (.inr (.inl 55)), some (.inl ((p : Int))), some (.inl ((e : Int))), some (.inl ((M : Int))), some (.inl ((mdn x 3000 (ixr x p) (k - ixr x p) : Int))), some (.inl ((k : Int) + 1))] [] A := fun y => by
        refine ih M M3 lm (fun t a b c => ?_) ?_
        · by_cases w : t < k - ixr x p
          · exact w1 t a w c
          · rw [show t = k - ixr x p by omega]; omega
        · rcases w2 with rfl | ⟨t, t1, t2, t3⟩
          · exact Or.inl rfl
          · exact Or.inr ⟨t, t1, (by omega), t3⟩
      have more : ixo x (ixs x k) = e → M < mdn x 3000 (ixr x p) (k - ixr x p) → Rn (d + 1) mX11_match (fun v A' => ∃ y, v = some (.inl y) ∧ P y A') 126 [some (.inr (.inl 55)), some (.inl ((p : Int))), some (.inl ((e : Int))), some (.inl ((mdn x 3000 (ixr x p) (k - ixr x p) : Int))), some (.inl ((mdn x 3000 (ixr x p) (k - ixr x p) : Int))), some (.inl ((k : Int) + 1))] [] A := fun oe y => by
        refine ih _ (by omega) (by omega) (fun t a b c => ?_) (Or.inr ⟨k - ixr x p, (by omega), (by omega), by rw [show ixr x p + (k - ixr x p) = k by omega]; exact oe, rfl⟩)
        by_cases w : t < k - ixr x p
        · have := w1 t a w c
          omega
        · rw [show t = k - ixr x p by omega]; exact Nat.le_refl _
      refine w_X11_match_126 ?_
      rw [h5.2.1, tn, (h5.2.2.2.2.2.1 k hk).1, (h5.2.2.2.2.2.1 k hk).2, tn, (h5.2.2.2.1 _ hs).2.1]
      refine ⟨fun z => by omega, fun _ => ⟨⟨by omega, by omega⟩, fun z => ⟨_, rfl, hP M (mt_of h2 h3 hp c0 c1 (fun t a b c => Nat.le_trans (u1 t a b c) lm) (fun t a b c => ?_) ?_)⟩, fun z => ⟨⟨by omega, by omega⟩, fun z1 => ?_, fun z1 => ?_⟩⟩⟩
      · by_cases y : t < k - ixr x p
        · exact w1 t a y c
        · have := mdn_mono x 3000 (ixr x p) (show k - ixr x p ≤ t by omega)
          rw [ms] at this
          split at this <;> omega
      · rcases w2 with rfl | ⟨t, t1, t2, t3⟩
        · rcases u2 with z | ⟨t, t1⟩
          · exact Or.inl z
          · exact Or.inr (Or.inl ⟨t, t1⟩)
        · exact Or.inr (Or.inr ⟨t, t1, (by omega), t3⟩)
      · rw [if_neg (by omega)] at ms
        rw [ms] at other less more
        exact ⟨⟨by omega, by omega⟩, ⟨by omega, by omega⟩, fun z2 => ⟨inR_b (by omega) (by omega), other (fun c => z2 (by rw [c]))⟩, fun z2 => ⟨fun z3 => ⟨inR_b (by omega) (by omega), less (by omega)⟩, fun z3 => ⟨inR_b (by omega) (by omega), more (by omega) (by omega)⟩⟩⟩
      · rw [if_pos (by omega)] at ms
        rw [ms] at other less more
        exact ⟨⟨by omega, by omega⟩, ⟨by omega, by omega⟩, ⟨by omega, by omega⟩, fun z2 => ⟨inR_b (by omega) (by omega), other (fun c => z2 (by rw [c]))⟩, fun z2 => ⟨fun z3 => ⟨inR_b (by omega) (by omega), less (by omega)⟩, fun z3 => ⟨inR_b (by omega) (by omega), more (by omega) (by omega)⟩⟩⟩
  have := upn (P := fun k => k ≤ ixr x p → ∀ L : Nat, L ≤ 3000 → (∀ t, 1 ≤ t → t ≤ ixr x p - k → ixo x (ixs x (ixr x p - t)) = e → mup x 3000 (ixr x p) t ≤ L) → (L = 0 ∨ ∃ t, 1 ≤ t ∧ t ≤ ixr x p - k ∧ ixo x (ixs x (ixr x p - t)) = e ∧ mup x 3000 (ixr x p) t = L) → Rn (d + 1) mX11_match (fun v A' => ∃ y, v = some (.inl y) ∧ P y A') 33 [some (.inr (.inl 55)), some (.inl ((p : Int))), some (.inl ((e : Int))), some (.inl ((L : Int))), some (.inl ((mup x 3000 (ixr x p) (ixr x p - k) : Int))), some (.inl ((k : Int)))] [] A) (a := 0) (b := ixr x p) ?_ (fun k _ hk ih => ?_) (Nat.zero_le _) (Nat.le_refl _) 0 (by omega) (fun t a b => by omega) (Or.inl rfl)
  · rw [Nat.sub_self] at this
    exact this
  · intro _ L L3 u1 u2
    exact w_X11_match_33 ⟨fun _ => low L L3 (fun t a b => u1 t a (by omega)) (by
      rcases u2 with z | ⟨t, t1, t2, t3⟩
      · exact Or.inl z
      · exact Or.inr ⟨t, t1, (by omega), t3⟩), fun z => absurd (Int.le_refl 0) z⟩
  · intro _ L L3 u1 u2
    have hs := (h2.1 k (by omega)).1
    have ms := mup_s x 3000 (ixr x p) (ixr x p - (k + 1))
    rw [show ixr x p - (k + 1) + 1 = ixr x p - k by omega, show ixr x p - (ixr x p - (k + 1)) = k + 1 by omega] at ms
    have m1 := mup_mono x 3000 (ixr x p) (Nat.zero_le (ixr x p - k))
    have m2 : mup x 3000 (ixr x p) 0 = 3000 := rfl
    have other : ¬ ixo x (ixs x k) = e → Rn (d + 1) mX11_match (fun v A' => ∃ y, v = some (.inl y) ∧ P y A') 33 [some (.inr (.inl 55)), some (.inl ((p : Int))), some (.inl ((e : Int))), some (.inl ((L : Int))), some (.inl ((mup x 3000 (ixr x p) (ixr x p - k) : Int))), some (.inl (((k + 1 : Nat) : Int) + -1))] [] A := fun z2 => by
      rw [show ((k + 1 : Nat) : Int) + -1 = (k : Int) by omega]
      refine ih (by omega) L L3 (fun t a b c => ?_) ?_
      · by_cases y : t ≤ ixr x p - (k + 1)
        · exact u1 t a y c
        · rw [show ixr x p - t = k by omega] at c
          exact absurd c z2
      · rcases u2 with z | ⟨t, t1, t2, t3⟩
        · exact Or.inl z
        · exact Or.inr ⟨t, t1, (by omega), t3⟩
    have less : mup x 3000 (ixr x p) (ixr x p - k) ≤ L → Rn (d + 1) mX11_match (fun v A' => ∃ y, v = some (.inl y) ∧ P y A') 33 [some (.inr (.inl 55)), some (.inl ((p : Int))), some (.inl ((e : Int))), some (.inl ((L : Int))), some (.inl ((mup x 3000 (ixr x p) (ixr x p - k) : Int))), some (.inl (((k + 1 : Nat) : Int) + -1))] [] A := fun y => by
      rw [show ((k + 1 : Nat) : Int) + -1 = (k : Int) by omega]
      refine ih (by omega) L L3 (fun t a b c => ?_) ?_
      · by_cases w : t ≤ ixr x p - (k + 1)
        · exact u1 t a w c
        · rw [show t = ixr x p - k by omega]; exact y
      · rcases u2 with z | ⟨t, t1, t2, t3⟩
        · exact Or.inl z
        · exact Or.inr ⟨t, t1, (by omega), t3⟩
    have more : ixo x (ixs x k) = e → L < mup x 3000 (ixr x p) (ixr x p - k) → Rn (d + 1) mX11_match (fun v A' => ∃ y, v = some (.inl y) ∧ P y A') 33 [some (.inr (.inl 55)), some (.inl ((p : Int))), some (.inl ((e : Int))), some (.inl ((mup x 3000 (ixr x p) (ixr x p - k) : Int))), some (.inl ((mup x 3000 (ixr x p) (ixr x p - k) : Int))), some (.inl (((k + 1 : Nat) : Int) + -1))] [] A := fun oe y => by
      rw [show ((k + 1 : Nat) : Int) + -1 = (k : Int) by omega]
      refine ih (by omega) _ (by omega) (fun t a b c => ?_) (Or.inr ⟨ixr x p - k, (by omega), Nat.le_refl _, by rw [show ixr x p - (ixr x p - k) = k by omega]; exact oe, rfl⟩)
      by_cases w : t ≤ ixr x p - (k + 1)
      · have := u1 t a w c
        omega
      · rw [show t = ixr x p - k by omega]; exact Nat.le_refl _
    refine w_X11_match_33 ⟨fun z => by omega, fun _ => ?_⟩
    rw [tn (k + 1), show (((k + 1 : Nat) : Int) - 1).toNat = k by omega, (h5.2.2.2.2.2.1 k (by omega)).1, (h5.2.2.2.2.2.1 (k + 1) (by omega)).2, tn (ixs x k), (h5.2.2.2.1 _ hs).2.1]
    refine ⟨⟨by omega, by omega⟩, fun z => low L L3 (fun t a b c => ?_) ?_, fun z => ⟨⟨by omega, by omega⟩, fun z1 => ?_, fun z1 => ?_⟩⟩
    · by_cases y : t ≤ ixr x p - (k + 1)
      · exact u1 t a y c
      · have := mup_mono x 3000 (ixr x p) (show ixr x p - k ≤ t by omega)
        rw [ms] at this
        split at this <;> omega
    · rcases u2 with z | ⟨t, t1, t2, t3⟩
      · exact Or.inl z
      · exact Or.inr ⟨t, t1, (by omega), t3⟩
    · rw [if_neg (by omega)] at ms
      rw [ms] at other less more
      exact ⟨inR_b (by omega) (by omega), ⟨by omega, by omega⟩, ⟨by omega, by omega⟩, fun z2 => ⟨inR_b (by omega) (by omega), other (fun c => z2 (by rw [c]))⟩, fun z2 => ⟨fun z3 => ⟨inR_b (by omega) (by omega), less (by omega)⟩, fun z3 => ⟨inR_b (by omega) (by omega), more (by omega) (by omega)⟩⟩⟩
    · rw [if_pos (by omega)] at ms
      rw [ms] at other less more
      exact ⟨⟨by omega, by omega⟩, inR_b (by omega) (by omega), ⟨by omega, by omega⟩, ⟨by omega, by omega⟩, fun z2 => ⟨inR_b (by omega) (by omega), other (fun c => z2 (by rw [c]))⟩, fun z2 => ⟨fun z3 => ⟨inR_b (by omega) (by omega), less (by omega)⟩, fun z3 => ⟨inR_b (by omega) (by omega), more (by omega) (by omega)⟩⟩⟩
theorem b_match {A : iz_A} {I : iz_A → Prop} {v w : Int} (hx : IdxAt A) (hI : I A) : Bo 153 244 [.inl v, .inl w] [.inl v, .inl w] A I := by
  rcases row_cases v hx with ⟨x, p, hXM, rfl, hp⟩ | ⟨n1, n2⟩
  · obtain ⟨h1, h2, h3, h4, h5⟩ := id hXM
    rcases doc_casesx w (R := True) (Or.inr ⟨hXM, trivial⟩) with ⟨e, -, -, rfl, he⟩ | ⟨m1, m2⟩
    · refine Ci_mono (d := 4) (by decide) (e_X10_match (d := 3) (sX_hasK h4 hp ⟨fun z => absurd z n10, fun _ => sX_hasDocK h4 he ⟨fun z => absurd z n10, fun _ => sX_longestIn h1 h2 h3 h4 hp fun b hb => ⟨_, rfl, ?_⟩⟩⟩)) (fun _ _ z => z)
      refine Ci_mono (d := 2) (by decide) (sM_match (d := 0) (P := fun x2 A2 => _ = x2 ∧ I A2) h1 h2 h3 h5 hp he fun b' hb' => ⟨?_, hI⟩) (fun _ _ z => z)
      rw [mt_un hb hb']
    · refine bo_bad (d := 2) (d' := 2) (by decide) (by decide) hI (fun P hP => ?_) (fun P hP => ?_)
      · exact e_X10_match (d := 1) (sX_hasK h4 hp ⟨fun z => absurd z n10, fun _ => sX_hasDocN m1 ⟨fun _ => ⟨_, rfl, hP⟩, fun z => absurd rfl z⟩⟩)
      · exact e_X11_match (d := 1) (sM_isRowK h5 hp ⟨fun z => absurd z n10, fun _ => sM_isDocN m2 ⟨fun z => absurd rfl z, fun _ => ⟨_, rfl, hP⟩⟩⟩)
  · refine bo_bad (d := 2) (d' := 2) (by decide) (by decide) hI (fun P hP => ?_) (fun P hP => ?_)
    · exact e_X10_match (d := 1) (sX_hasN n1 ⟨fun _ => ⟨_, rfl, hP⟩, fun z => absurd rfl z⟩)
    · exact e_X11_match (d := 1) (sM_isRowN n2 ⟨fun _ => ⟨_, rfl, hP⟩, fun z => absurd rfl z⟩)
