theorem lM_fac {d : Nat} {Q : iz_Q} {A : iz_A} {x : Ix} {p : Nat} (h1 : TxOk x) (h2 : PmOk x) (h3 : SoOk x) (h5 : MI x A) (hp : p < ixn x) (hK : ∀ (b : Nat) (v3 : Int), Mt x p (fun q => q < p) b → Rn d mX11_findFactors Q 192 [some (.inr (.inl 55)), some (.inl ((p : Int))), some (.inl ((b : Int))), some (.inl v3), some (.inl ((p : Int))), some (.inl (A.1 64 ((p : Int)).toNat))] [] A) : Rn d mX11_findFactors Q 29 [some (.inr (.inl 55)), some (.inl ((p : Int))), some (.inl 0), some (.inl 3000), some (.inl ((ixr x p : Int))), none] [] A := by
  have nb := h1.2.2.1
  have hr := (h2.2 p hp).1
  have lb := lft_bd h1 hp
  have cl := c_lft h1 h2 h3 hp
  have c0 : ixc x (ixr x p) ≤ 3000 := (by omega)
  have c1 : ixr x p + 1 < ixn x → ixc x (ixr x p + 1) ≤ 3000 := fun z => by have := cl.2 z; omega
  have low : ∀ L : Nat, L ≤ 3000 → (∀ t, 1 ≤ t → t ≤ ixr x p → ixs x (ixr x p - t) < p → mup x 3000 (ixr x p) t ≤ L) → (L = 0 ∨ ∃ t, 1 ≤ t ∧ t ≤ ixr x p ∧ ixs x (ixr x p - t) < p ∧ mup x 3000 (ixr x p) t = L) → ((0 : Int) ≤ (p : Int) ∧ (p : Int) < (3001 : Int)) ∧ inR (A.1 64 ((p : Int)).toNat + 1) ∧ Rn d mX11_findFactors Q 111 [some (.inr (.inl 55)), some (.inl ((p : Int))), some (.inl ((L : Int))), some (.inl 3000), some (.inl (A.1 64 ((p : Int)).toNat + 1)), none] [] A := by
    intro L L3 u1 u2
    rw [tn, (h5.2.2.2.1 p hp).2.2, show (ixr x p : Int) + 1 = ((ixr x p + 1 : Nat) : Int) by omega]
    refine ⟨⟨by omega, by omega⟩, inR_b (by omega) (by omega), ?_⟩
    have := dwl (P := fun k => ∀ M : Nat, M ≤ 3000 → L ≤ M → (∀ t, 1 ≤ t → t < k - ixr x p → ixs x (ixr x p + t) < p → mdn x 3000 (ixr x p) t ≤ M) → (M = L ∨ ∃ t, 1 ≤ t ∧ t < k - ixr x p ∧ ixs x (ixr x p + t) < p ∧ mdn x 3000 (ixr x p) t = M) → Rn d mX11_findFactors Q 111 [some (.inr (.inl 55)), some (.inl ((p : Int))), some (.inl ((M : Int))), some (.inl ((mdn x 3000 (ixr x p) (k - ixr x p - 1) : Int))), some (.inl ((k : Int))), none] [] A) (a := ixr x p + 1) (n := ixn x) ?_ (fun k ka hk ih => ?_) (by omega) L L3 (Nat.le_refl _) (fun t a b => by omega) (Or.inl rfl)
    · rw [show ixr x p + 1 - ixr x p - 1 = 0 by omega] at this
      exact this
    · intro M M3 lm w1 w2
      refine w_X11_findFactors_111 ?_
      rw [h5.2.1]
      refine ⟨fun _ => ⟨⟨by omega, by omega⟩, hK M _ (mt_of h2 h3 hp c0 c1 (fun t a b c => Nat.le_trans (u1 t a b c) lm) (fun t a b c => w1 t a (by omega) c) ?_)⟩, fun z => by omega⟩
      rcases w2 with rfl | ⟨t, t1, t2, t3⟩
      · rcases u2 with z | ⟨t, t1⟩
        · exact Or.inl z
        · exact Or.inr (Or.inl ⟨t, t1⟩)
      · exact Or.inr (Or.inr ⟨t, t1, (by omega), t3⟩)
    · intro M M3 lm w1 w2
      have hs := (h2.1 k hk).1
      have ms := mdn_s x 3000 (ixr x p) (k - ixr x p - 1)
      rw [show k - ixr x p - 1 + 1 = k - ixr x p by omega, show ixr x p + 1 + (k - ixr x p - 1) = k by omega] at ms
      have m1 := mdn_mono x 3000 (ixr x p) (Nat.zero_le (k - ixr x p))
      have m2 : mdn x 3000 (ixr x p) 0 = 3000 := rfl
      rw [show ((k + 1 : Nat) : Int) = (k : Int) + 1 by omega, show k + 1 - ixr x p - 1 = k - ixr x p by omega] at ih
      have other : ¬ ixs x k < p → Rn d mX11_findFactors Q 111 [some (.inr (.inl 55)), some (.inl ((p : Int))), some (.inl ((M : Int))), some (.inl ((mdn x 3000 (ixr x p) (k - ixr x p) : Int))), some (.inl ((k : Int) + 1)), none] [] A := fun z2 => ih M M3 lm (fun t a b c => by
        by_cases y : t < k - ixr x p
        · exact w1 t a y c
        · rw [show ixr x p + t = k by omega] at c
          exact absurd c z2) (by
        rcases w2 with rfl | ⟨t, t1, t2, t3⟩
        · exact Or.inl rfl
        · exact Or.inr ⟨t, t1, (by omega), t3⟩)
      have less : mdn x 3000 (ixr x p) (k - ixr x p) ≤ M → Rn d mX11_findFactors Q 111 [some (.inr (.inl 55)), some (.inl ((p : Int))), some (.inl ((M : Int))), some (.inl ((mdn x 3000 (ixr x p) (k - ixr x p) : Int))), some (.inl ((k : Int) + 1)), none] [] A := fun y => by
        refine ih M M3 lm (fun t a b c => ?_) ?_
        · by_cases w : t < k - ixr x p
          · exact w1 t a w c
          · rw [show t = k - ixr x p by omega]; omega
        · rcases w2 with rfl | ⟨t, t1, t2, t3⟩
          · exact Or.inl rfl
          · exact Or.inr ⟨t, t1, (by omega), t3⟩
      have more : ixs x k < p → M < mdn x 3000 (ixr x p) (k - ixr x p) → Rn d mX11_findFactors Q 111 [some (.inr (.inl 55)), some (.inl ((p : Int))), some (.inl ((mdn x 3000 (ixr x p) (k - ixr x p) : Int))), some (.inl ((mdn x 3000 (ixr x p) (k - ixr x p) : Int))), some (.inl ((k : Int) + 1)), none] [] A := fun oe y => by
        refine ih _ (by omega) (by omega) (fun t a b c => ?_) (Or.inr ⟨k - ixr x p, (by omega), (by omega), by rw [show ixr x p + (k - ixr x p) = k by omega]; exact oe, rfl⟩)
        by_cases w : t < k - ixr x p
        · have := w1 t a w c
          omega
        · rw [show t = k - ixr x p by omega]; exact Nat.le_refl _
      refine w_X11_findFactors_111 ?_
      rw [h5.2.1, tn k, (h5.2.2.2.2.2.1 k hk).1, (h5.2.2.2.2.2.1 k hk).2]
      refine ⟨fun z => by omega, fun _ => ⟨⟨by omega, by omega⟩, fun z => ⟨⟨by omega, by omega⟩, hK M _ (mt_of h2 h3 hp c0 c1 (fun t a b c => Nat.le_trans (u1 t a b c) lm) (fun t a b c => ?_) ?_)⟩, fun z => ⟨⟨by omega, by omega⟩, fun z1 => ?_, fun z1 => ?_⟩⟩⟩
      · by_cases y : t < k - ixr x p
        · exact w1 t a y c
        · have := mdn_mono x 3000 (ixr x p) (show k - ixr x p ≤ t by omega)
          rw [ms] at this
          split at this <;> omega
      · rcases w2 with rfl | ⟨t, t1, t2, t3⟩
        · rcases u2 with z | ⟨t, t1⟩
          · exact Or.inl z
          · exact Or.inr (Or.inl ⟨t, t1⟩)
        · exact Or.inr (Or.inr ⟨t, t1, (by omega), t3⟩)
      · rw [if_neg (by omega)] at ms
        rw [ms] at other less more
        exact ⟨⟨by omega, by omega⟩, fun z2 => ⟨inR_b (by omega) (by omega), other (by omega)⟩, fun z2 => ⟨fun z3 => ⟨inR_b (by omega) (by omega), less (by omega)⟩, fun z3 => ⟨inR_b (by omega) (by omega), more (by omega) (by omega)⟩⟩⟩
      · rw [if_pos (by omega)] at ms
        rw [ms] at other less more
        exact ⟨⟨by omega, by omega⟩, ⟨by omega, by omega⟩, fun z2 => ⟨inR_b (by omega) (by omega), other (by omega)⟩, fun z2 => ⟨fun z3 => ⟨inR_b (by omega) (by omega), less (by omega)⟩, fun z3 => ⟨inR_b (by omega) (by omega), more (by omega) (by omega)⟩⟩⟩
  have := upn (P := fun k => k ≤ ixr x p → ∀ L : Nat, L ≤ 3000 → (∀ t, 1 ≤ t → t ≤ ixr x p - k → ixs x (ixr x p - t) < p → mup x 3000 (ixr x p) t ≤ L) → (L = 0 ∨ ∃ t, 1 ≤ t ∧ t ≤ ixr x p - k ∧ ixs x (ixr x p - t) < p ∧ mup x 3000 (ixr x p) t = L) → Rn d mX11_findFactors Q 29 [some (.inr (.inl 55)), some (.inl ((p : Int))), some (.inl ((L : Int))), some (.inl ((mup x 3000 (ixr x p) (ixr x p - k) : Int))), some (.inl ((k : Int))), none] [] A) (a := 0) (b := ixr x p) ?_ (fun k _ hk ih => ?_) (Nat.zero_le _) (Nat.le_refl _) 0 (by omega) (fun t a b => by omega) (Or.inl rfl)
  · rw [Nat.sub_self] at this
    exact this
  · intro _ L L3 u1 u2
    exact w_X11_findFactors_29 ⟨fun _ => low L L3 (fun t a b => u1 t a (by omega)) (by
      rcases u2 with z | ⟨t, t1, t2, t3⟩
      · exact Or.inl z
      · exact Or.inr ⟨t, t1, (by omega), t3⟩), fun z => absurd (Int.le_refl 0) z⟩
  · intro _ L L3 u1 u2
    have hs := (h2.1 k (by omega)).1
    have ms := mup_s x 3000 (ixr x p) (ixr x p - (k + 1))
    rw [show ixr x p - (k + 1) + 1 = ixr x p - k by omega, show ixr x p - (ixr x p - (k + 1)) = k + 1 by omega] at ms
    have m1 := mup_mono x 3000 (ixr x p) (Nat.zero_le (ixr x p - k))
    have m2 : mup x 3000 (ixr x p) 0 = 3000 := rfl
    have other : ¬ ixs x k < p → Rn d mX11_findFactors Q 29 [some (.inr (.inl 55)), some (.inl ((p : Int))), some (.inl ((L : Int))), some (.inl ((mup x 3000 (ixr x p) (ixr x p - k) : Int))), some (.inl (((k + 1 : Nat) : Int) + -1)), none] [] A := fun z2 => by
      rw [show ((k + 1 : Nat) : Int) + -1 = (k : Int) by omega]
      refine ih (by omega) L L3 (fun t a b c => ?_) ?_
      · by_cases y : t ≤ ixr x p - (k + 1)
        · exact u1 t a y c
        · rw [show ixr x p - t = k by omega] at c
          exact absurd c z2
      · rcases u2 with z | ⟨t, t1, t2, t3⟩
        · exact Or.inl z
        · exact Or.inr ⟨t, t1, (by omega), t3⟩
    have less : mup x 3000 (ixr x p) (ixr x p - k) ≤ L → Rn d mX11_findFactors Q 29 [some (.inr (.inl 55)), some (.inl ((p : Int))), some (.inl ((L : Int))), some (.inl ((mup x 3000 (ixr x p) (ixr x p - k) : Int))), some (.inl (((k + 1 : Nat) : Int) + -1)), none] [] A := fun y => by
      rw [show ((k + 1 : Nat) : Int) + -1 = (k : Int) by omega]
      refine ih (by omega) L L3 (fun t a b c => ?_) ?_
      · by_cases w : t ≤ ixr x p - (k + 1)
        · exact u1 t a w c
        · rw [show t = ixr x p - k by omega]; exact y
      · rcases u2 with z | ⟨t, t1, t2, t3⟩
        · exact Or.inl z
        · exact Or.inr ⟨t, t1, (by omega), t3⟩
    have more : ixs x k < p → L < mup x 3000 (ixr x p) (ixr x p - k) → Rn d mX11_findFactors Q 29 [some (.inr (.inl 55)), some (.inl ((p : Int))), some (.inl ((mup x 3000 (ixr x p) (ixr x p - k) : Int))), some (.inl ((mup x 3000 (ixr x p) (ixr x p - k) : Int))), some (.inl (((k + 1 : Nat) : Int) + -1)), none] [] A := fun oe y => by
      rw [show ((k + 1 : Nat) : Int) + -1 = (k : Int) by omega]
      refine ih (by omega) _ (by omega) (fun t a b c => ?_) (Or.inr ⟨ixr x p - k, (by omega), Nat.le_refl _, by rw [show ixr x p - (ixr x p - k) = k by omega]; exact oe, rfl⟩)
      by_cases w : t ≤ ixr x p - (k + 1)
      · have := u1 t a w c
        omega
      · rw [show t = ixr x p - k by omega]; exact Nat.le_refl _
    refine w_X11_findFactors_29 ⟨fun z => by omega, fun _ => ?_⟩
    rw [tn (k + 1), show (((k + 1 : Nat) : Int) - 1).toNat = k by omega, (h5.2.2.2.2.2.1 k (by omega)).1, (h5.2.2.2.2.2.1 (k + 1) (by omega)).2]
    refine ⟨⟨by omega, by omega⟩, fun z => low L L3 (fun t a b c => ?_) ?_, fun z => ⟨⟨by omega, by omega⟩, fun z1 => ?_, fun z1 => ?_⟩⟩
    · by_cases y : t ≤ ixr x p - (k + 1)
      · exact u1 t a y c
      · have := mup_mono x 3000 (ixr x p) (show ixr x p - k ≤ t by omega)
        rw [ms] at this
        split at this <;> omega
    · rcases u2 with z | ⟨t, t1, t2, t3⟩
      · exact Or.inl z
      · exact Or.inr ⟨t, t1, (by omega), t3⟩
    · rw [if_neg (by omega)] at ms
      rw [ms] at other less more
      exact ⟨inR_b (by omega) (by omega), ⟨by omega, by omega⟩, fun z2 => ⟨inR_b (by omega) (by omega), other (by omega)⟩, fun z2 => ⟨fun z3 => ⟨inR_b (by omega) (by omega), less (by omega)⟩, fun z3 => ⟨inR_b (by omega) (by omega), more (by omega) (by omega)⟩⟩⟩
    · rw [if_pos (by omega)] at ms
      rw [ms] at other less more
      exact ⟨⟨by omega, by omega⟩, inR_b (by omega) (by omega), ⟨by omega, by omega⟩, fun z2 => ⟨inR_b (by omega) (by omega), other (by omega)⟩, fun z2 => ⟨fun z3 => ⟨inR_b (by omega) (by omega), less (by omega)⟩, fun z3 => ⟨inR_b (by omega) (by omega), more (by omega) (by omega)⟩⟩⟩
theorem sM_findFactors {d : Nat} {A : iz_A} {x : Ix} {P : iz_A → Prop} (h1 : TxOk x) (h2 : PmOk x) (h3 : SoOk x) (h5 : MI x A) (hP : ∀ C, fr [55, 101, 102] A C → ff [71] (A.1 55) (C.1 55) → C.1 55 71 = 1 → (∀ p, p < ixn x → ∃ b a : Nat, C.1 101 p = (b : Int) ∧ C.1 102 p = (a : Int) ∧ Mt x p (fun q => q < p) b ∧ Lp x p b a) → P C) : Cv (d + 1) 239 [.inr (.inl 55)] A P := by
  have nb := h1.2.2.1
  refine e_X11_findFactors ⟨Or.inr rfl, ?_⟩
  refine dwl (P := fun p => ∀ B, fr [55, 101, 102] A B → ff [71] (A.1 55) (B.1 55) → B.1 55 71 = 1 → (∀ q, q < p → ∃ b a : Nat, B.1 101 q = (b : Int) ∧ B.1 102 q = (a : Int) ∧ Mt x q (fun r => r < q) b ∧ Lp x q b a) → Rn d mX11_findFactors (fun v A' => v = none ∧ P A') 7 [some (.inr (.inl 55)), some (.inl ((p : Int))), none, none, none, none] [] B) (a := 0) (n := ixn x) ?_ (fun p _ hp ih => ?_) (Nat.zero_le _) _ (fr_pI (fr_mo (fr_rf A) (by decide)) (by decide)) (ff_uz (ff_eq rfl) (by decide)) rfl (fun q hq => by omega)
  · intro B f e b1 b2
    refine w_X11_findFactors_7 ?_
    rw [e 7 (by decide), h5.2.1]
    exact ⟨fun _ => ⟨rfl, hP B f e b1 b2⟩, fun z => by omega⟩
  · intro B f e b1 b2
    have h5' : MI x B := MI_k h5 f (by decide) e (by decide)
    have hr := h2.2 p hp
    rw [show ((p + 1 : Nat) : Int) = (p : Int) + 1 by omega] at ih
    refine w_X11_findFactors_7 ?_
    rw [h5'.2.1, tn, (h5'.2.2.2.1 p hp).2.2]
    refine ⟨fun z => by omega, fun _ => ⟨⟨by omega, by omega⟩, lM_fac h1 h2 h3 h5' hp fun b v3 hb => ?_⟩⟩
    rw [tn, (h5'.2.2.2.1 p hp).2.2]
    obtain ⟨lo, hi, g⟩ := rg_ex h2 p b hp
    have gi := fun i (h : i < ixn x) => rg_iff h2 h3 g h
    obtain ⟨g1, g2, g3, g4, g5, g6, g7⟩ := id g
    have put : ∀ a : Nat, Lp x p b a → (((0 : Int) ≤ (p : Int) ∧ (p : Int) < (3000 : Int)) ∧ (((0 : Int) ≤ (p : Int) ∧ (p : Int) < (3000 : Int)) ∧ (inR ((p : Int) + 1) ∧ Rn d mX11_findFactors (fun v A' => v = none ∧ P A') 7 [some (.inr (.inl 55)), some (.inl ((p : Int) + 1)), none, none, none, none] [] (iz_pI (iz_pI B 101 (uz (B.1 101) ((p : Int)).toNat (b : Int))) 102 (uz (B.1 102) ((p : Int)).toNat (a : Int)))))) := fun a ha => by
      refine ⟨⟨by omega, by omega⟩, ⟨by omega, by omega⟩, inR_b (by omega) (by omega), ih _ (fr_pI (fr_pI f (by decide)) (by decide)) e b1 (fun q hq => ?_)⟩
      show ∃ b' a' : Nat, uz (B.1 101) ((p : Int)).toNat (b : Int) q = (b' : Int) ∧ uz (B.1 102) ((p : Int)).toNat (a : Int) q = (a' : Int) ∧ _
      rw [tn]
      by_cases w : q = p
      · rw [w, uz_at, uz_at]
        exact ⟨b, a, rfl, rfl, hb, ha⟩
      · rw [uz_ne _ _ w, uz_ne _ _ w]
        exact b2 q (by omega)
    have low : ∀ a : Nat, (¬ b = 0 → Li x p b (fun i => lo ≤ i ∧ i < ixr x p + 1) a) → ((0 : Int) ≤ (p : Int) ∧ (p : Int) < (3001 : Int)) ∧ inR (B.1 64 ((p : Int)).toNat + 1) ∧ Rn d mX11_findFactors (fun v A' => v = none ∧ P A') 258 [some (.inr (.inl 55)), some (.inl ((p : Int))), some (.inl ((b : Int))), some (.inl v3), some (.inl ((a : Int))), some (.inl (B.1 64 ((p : Int)).toNat + 1))] [] B := by
      intro a ha
      rw [tn, (h5'.2.2.2.1 p hp).2.2, show (ixr x p : Int) + 1 = ((ixr x p + 1 : Nat) : Int) by omega]
      refine ⟨⟨by omega, by omega⟩, inR_b (by omega) (by omega), ?_⟩
      by_cases b0 : b = 0
      · exact w_X11_findFactors_258 ⟨fun _ => put a (Or.inl b0), fun z => by omega⟩
      refine dwl (P := fun k => ∀ a : Nat, Li x p b (fun i => lo ≤ i ∧ i < k) a → Rn d mX11_findFactors (fun v A' => v = none ∧ P A') 258 [some (.inr (.inl 55)), some (.inl ((p : Int))), some (.inl ((b : Int))), some (.inl v3), some (.inl ((a : Int))), some (.inl ((k : Int)))] [] B) (a := ixr x p + 1) (n := hi) ?_ (fun k ka hk ihk => ?_) (by omega) a (ha b0)
      · intro a ha
        have fin := put a (li_lp h2 h3 g ha)
        refine w_X11_findFactors_258 ⟨fun z => by omega, fun _ => ?_⟩
        rw [h5'.2.1, tn hi]
        refine ⟨fun _ => fin, fun z => ⟨⟨by omega, by omega⟩, fun _ => fin, fun z2 => ?_⟩⟩
        rw [(h5'.2.2.2.2.2.1 hi (by omega)).2] at z2
        have := g7 (by omega)
        omega
      · intro a ha
        have := g5 k (by omega) (by omega)
        have nx := ihk _ (li_step ha (h2.1 k (by omega)).1 ((gi k (by omega)).1 (by omega)) (S' := fun i => lo ≤ i ∧ i < k + 1) (fun j hj => by
          by_cases w : j = k
          · exact Or.inr w
          · exact Or.inl ⟨hj.1, by have := hj.2; omega⟩))
        refine w_X11_findFactors_258 ⟨fun z => by omega, fun _ => ?_⟩
        rw [h5'.2.1, tn k, (h5'.2.2.2.2.2.1 k (by omega)).2, (h5'.2.2.2.2.2.1 k (by omega)).1]
        refine ⟨fun z => by omega, fun _ => ⟨⟨by omega, by omega⟩, fun z => by omega, fun _ => ⟨⟨by omega, by omega⟩, fun z => ⟨inR_b (by omega) (by omega), ?_⟩, fun z => ⟨⟨by omega, by omega⟩, inR_b (by omega) (by omega), ?_⟩⟩⟩⟩
        · rw [if_neg (by omega)] at nx; exact nx
        · rw [if_pos (by omega)] at nx; exact nx
    by_cases b0 : b = 0
    · exact w_X11_findFactors_192 ⟨fun _ => low p (fun z => absurd b0 z), fun z => by omega⟩
    refine upn (P := fun k => ∀ a : Nat, Li x p b (fun i => k ≤ i ∧ i < ixr x p + 1) a → Rn d mX11_findFactors (fun v A' => v = none ∧ P A') 192 [some (.inr (.inl 55)), some (.inl ((p : Int))), some (.inl ((b : Int))), some (.inl v3), some (.inl ((a : Int))), some (.inl ((k : Int)))] [] B) (a := lo) (b := ixr x p) ?_ (fun k ka hk ihk => ?_) g2 p ⟨⟨hp, al_rf _ _ _⟩, fun i hi => by rw [show i = ixr x p by omega, hr.2]; exact Nat.le_refl _⟩
    · intro a ha
      have lw := low a (fun _ => ha)
      refine w_X11_findFactors_192 ⟨fun z => by omega, fun _ => ⟨fun _ => lw, fun z => ⟨⟨by omega, by omega⟩, fun _ => lw, fun z2 => ?_⟩⟩⟩
      rw [tn, (h5'.2.2.2.2.2.1 lo (by omega)).2] at z2
      have := g6 (by omega)
      omega
    · intro a ha
      have := g5 (k + 1) (by omega) (by omega)
      have nx := ihk _ (li_step ha (h2.1 k (by omega)).1 ((gi k (by omega)).1 (by omega)) (S' := fun i => k ≤ i ∧ i < ixr x p + 1) (fun j hj => by
        by_cases w : j = k
        · exact Or.inr w
        · exact Or.inl ⟨by have := hj.1; omega, hj.2⟩))
      refine w_X11_findFactors_192 ⟨fun z => by omega, fun _ => ⟨fun z => by omega, fun _ => ⟨⟨by omega, by omega⟩, fun z2 => ?_, fun z2 => ?_⟩⟩⟩
      · rw [tn, (h5'.2.2.2.2.2.1 (k + 1) (by omega)).2] at z2
        omega
      · rw [show (((k + 1 : Nat) : Int) - 1).toNat = k by omega, (h5'.2.2.2.2.2.1 k (by omega)).1, show ((k + 1 : Nat) : Int) + -1 = (k : Int) by omega]
        refine ⟨inR_b (by omega) (by omega), ⟨by omega, by omega⟩, fun z => ⟨inR_b (by omega) (by omega), ?_⟩, fun z => ⟨inR_b (by omega) (by omega), ⟨by omega, by omega⟩, inR_b (by omega) (by omega), ?_⟩⟩
        · rw [if_neg (by omega)] at nx; exact nx
        · rw [if_pos (by omega)] at nx; exact nx
