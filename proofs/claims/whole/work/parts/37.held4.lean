theorem sM_front {d : Nat} {A : iz_A} {x : Ix} {p len lo hi dn r0 lo' hi' : Nat} {c : Int} {P : Int → iz_A → Prop} (h1 : TxOk x) (h2 : PmOk x) (h3 : SoOk x) (h5 : MI x A) (g : Rg x p len lo hi) (hl : len ≤ lft x p) (hd : dn ≤ len) (hM : HdM A dn len lo hi) (h0 : 0 ≤ c ∧ c < 256) (hr : lo ≤ r0 ∧ r0 < hi) (hc : bef x r0 = c) (g' : Rg x (ixs x r0 - 1) (len + 1) lo' hi')
    (hP : ∀ C, fr [55, 69, 70] A C → ff [22, 23, 24, 26] (A.1 55) (C.1 55) → HdM C (dn + 1) (len + 1) lo' hi' → C.1 69 0 = c → (∀ j, j < len → C.1 69 (j + 1) = A.1 69 j) → C.1 70 = uz (A.1 70) dn 1 → P ((hi' - lo' : Nat) : Int) C) : Ci (d + 2) 189 [.inr (.inl 55), .inl c] A P := by
  obtain ⟨m1, m2, m3, m4⟩ := hM
  have gg := g.2
  have gg' := g'.2
  have nb := h1.2.2.1
  have lp := lft_in h1 g.1
  have hct := front_ct h1 h2 h3 h0.1 g hr hc g'
  have key := fun q hq => front_iff h1 h2 h3 h0.1 g hr hc g' (q := q) hq
  have shift : ∀ B, fr [69] A B → (∀ j, j ≤ len → B.1 69 j = A.1 69 j) → (∀ j, len < j → j ≤ len → B.1 69 j = A.1 69 (j - 1)) → Rn (d + 1) mX11_front (fun v A' => ∃ y, v = some (.inl y) ∧ P y A') 101 [some (.inr (.inl 55)), some (.inl c), some (.inl (lo' : Int)), some (.inl ((hi' - lo' : Nat) : Int)), some (.inl (len : Int)), none] [] B := by
    refine upn (P := fun k => ∀ B, fr [69] A B → (∀ j, j ≤ k → B.1 69 j = A.1 69 j) → (∀ j, k < j → j ≤ len → B.1 69 j = A.1 69 (j - 1)) → Rn (d + 1) mX11_front (fun v A' => ∃ y, v = some (.inl y) ∧ P y A') 101 [some (.inr (.inl 55)), some (.inl c), some (.inl (lo' : Int)), some (.inl ((hi' - lo' : Nat) : Int)), some (.inl (k : Int)), none] [] B) (a := 0) (b := len) ?_ (fun k _ hk ih => ?_) (Nat.zero_le _)
    · intro B f b1 b2
      refine w_X11_front_101 ⟨fun _ => ?_, fun z => by omega⟩
      rw [f.1 55 (by decide), m1, m4, tn]
      refine ⟨⟨by omega, by omega⟩, inR_b (by omega) (by omega), ⟨by omega, by omega⟩, Or.inr rfl, inR_b (by omega) (by omega), _, rfl, ?_⟩
      refine hP _ (fr_pI (fr_pI (fr_pI (fr_pI (fr_pI (fr_pI (fr_mo f (by decide)) (by decide)) (by decide)) (by decide)) (by decide)) (by decide)) (by decide)) (ff_uz (ff_uz (ff_uz (ff_uz (ff_eq rfl) (by decide)) (by decide)) (by decide)) (by decide)) ⟨?_, rfl, ?_, ?_⟩ rfl (fun j hj => ?_) ?_
      · exact (by omega : (len : Int) + 1 = ((len + 1 : Nat) : Int))
      · exact (by omega : ((hi' - lo' : Nat) : Int) = (hi' : Int) - (lo' : Int))
      · exact (by omega : (dn : Int) + 1 = ((dn + 1 : Nat) : Int))
      · show uz (B.1 69) 0 c (j + 1) = _
        rw [uz_ne _ _ (by omega), b2 (j + 1) (by omega) (by omega), Nat.add_sub_cancel]
      · show uz (B.1 70) dn 1 = _
        rw [f.1 70 (by decide)]
    · intro B f b1 b2
      refine w_X11_front_101 ⟨fun z => by omega, fun _ => ⟨inR_b (by omega) (by omega), ⟨by omega, by omega⟩, ⟨by omega, by omega⟩, inR_b (by omega) (by omega), ?_⟩⟩
      rw [show ((k + 1 : Nat) : Int) + -1 = (k : Int) by omega, show (((k + 1 : Nat) : Int) - 1).toNat = k by omega, tn]
      refine ih _ (fr_pI f (by decide)) (fun j hj => ?_) (fun j j1 j2 => ?_)
      · show uz (B.1 69) (k + 1) _ j = _
        rw [uz_ne _ _ (by omega), b1 j (by omega)]
      · show uz (B.1 69) (k + 1) _ j = _
        by_cases z : j = k + 1
        · rw [z, uz_at, b1 k (by omega), Nat.add_sub_cancel]
        · rw [uz_ne _ _ z, b2 j (by omega) j2]
  refine e_X11_front ⟨fun z => absurd z (by rw [h5.1]; decide), fun _ => sM_isByte (fun _ _ => ⟨fun _ => ?_, fun z => absurd z n10⟩) (fun z => absurd h0 z)⟩
  rw [m2, h5.2.1]
  have := dwl (P := fun r => ∀ f : Nat, f ≤ ixn x → (∀ i, lo ≤ i → i < r → bef x i = c → f ≤ ixr x (ixs x i - 1)) → (f = ixn x ∨ ∃ i, lo ≤ i ∧ i < r ∧ bef x i = c ∧ f = ixr x (ixs x i - 1)) → Rn (d + 1) mX11_front (fun v A' => ∃ y, v = some (.inl y) ∧ P y A') 29 [some (.inr (.inl 55)), some (.inl c), some (.inl (f : Int)), some (.inl (ct (fun i => lo ≤ i ∧ bef x i = c) r : Int)), some (.inl (r : Int)), none] [] A) (a := lo) (n := hi) ?_ (fun r ha hr' ih => ?_) (by omega) (ixn x) (Nat.le_refl _) (fun i a b => by omega) (Or.inl rfl)
  · rw [ct_0 (fun i hi => by omega)] at this
    exact this
  · intro f f0 f1 f2
    have e : f = lo' := by
      have hq : ixs x lo' < ixn x := (h2.1 lo' (by omega)).1
      have k1 := (key _ hq).1 (by rw [(h2.1 lo' (by omega)).2]; omega)
      have k2 := f1 _ k1.2.1.1 k1.2.1.2 k1.2.2
      rw [(h2.2 _ k1.1).2, Nat.add_sub_cancel, (h2.1 lo' (by omega)).2] at k2
      rcases f2 with f2 | ⟨i, i1, i2, i3, i4⟩
      · omega
      · have b := bef_t h1 h2 (i := i) (by omega) i3 h0.1
        have hs := (h2.1 i (by omega)).1
        have k3 := (key (ixs x i - 1) (by omega)).2 (by
          rw [show ixs x i - 1 + 1 = ixs x i by omega, (h2.1 i (by omega)).2]
          exact ⟨hs, ⟨i1, i2⟩, i3⟩)
        omega
    refine w_X11_front_29 ?_
    rw [m2, m3, hct, m1, e]
    refine ⟨inR_b (by omega) (by omega), fun _ => ⟨fun z => by omega, fun _ => shift A (fr_mo (fr_rf A) (by decide)) (fun _ _ => rfl) (fun j a b => by omega)⟩, fun z => by omega⟩
  · intro f f0 f1 f2
    have hs := (h2.1 r (by omega)).1
    have cl := ct_le (fun i => lo ≤ i ∧ bef x i = c) r
    refine w_X11_front_29 ?_
    rw [m2, m3]
    refine ⟨inR_b (by omega) (by omega), fun z => by omega, fun _ => sM_before h1 h2 h5 (i := r) (by omega) ?_⟩
    rw [tn, (h5.2.2.2.2.2.1 r (by omega)).1]
    rw [show ((r + 1 : Nat) : Int) = (r : Int) + 1 by omega, ct_s] at ih
    refine ⟨fun ne => ⟨inR_b (by omega) (by omega), ?_⟩, fun e => ?_⟩
    · rw [if_neg (fun z : lo ≤ r ∧ _ => ne z.2), Nat.add_zero] at ih
      refine ih f f0 (fun i a b z => ?_) ?_
      · by_cases w : i = r
        · exact absurd (w ▸ z) ne
        · exact f1 i a (by omega) z
      · rcases f2 with f2 | ⟨i, i1, i2, i3⟩
        · exact Or.inl f2
        · exact Or.inr ⟨i, i1, (by omega), i3⟩
    · obtain ⟨b1, b2⟩ := bef_t h1 h2 (i := r) (by omega) e h0.1
      rw [show ((ixs x r : Int) - 1).toNat = ixs x r - 1 by omega, (h5.2.2.2.1 (ixs x r - 1) (by omega)).2.2]
      rw [if_pos (show lo ≤ r ∧ bef x r = c from ⟨ha, e⟩)] at ih
      have hr1 := (h2.2 (ixs x r - 1) (by omega)).1
      refine ⟨⟨by omega, by omega⟩, inR_b (by omega) (by omega), ⟨by omega, by omega⟩, fun z => ⟨inR_b (by omega) (by omega), inR_b (by omega) (by omega), ?_⟩, fun z => ⟨inR_b (by omega) (by omega), inR_b (by omega) (by omega), ?_⟩⟩
      · refine ih f f0 (fun i a b z2 => ?_) ?_
        · by_cases w : i = r
          · rw [w]; omega
          · exact f1 i a (by omega) z2
        · rcases f2 with f2 | ⟨i, i1, i2, i3⟩
          · exact Or.inl f2
          · exact Or.inr ⟨i, i1, (by omega), i3⟩
      · refine ih (ixr x (ixs x r - 1)) (by omega) (fun i a b z2 => ?_) (Or.inr ⟨r, ha, (by omega), e, rfl⟩)
        by_cases w : i = r
        · rw [w]; exact Nat.le_refl _
        · have := f1 i a (by omega) z2
          omega
theorem sM_frontN {d : Nat} {A : iz_A} {x : Ix} {p len lo hi dn : Nat} {c : Int} {P : Int → iz_A → Prop} (h1 : TxOk x) (h2 : PmOk x) (h5 : MI x A) (g : Rg x p len lo hi) (hM : HdM A dn len lo hi) (h0 : 0 ≤ c ∧ c < 256) (hf : ∀ i, lo ≤ i → i < hi → bef x i ≠ c) (hP : P 0 A) : Ci (d + 2) 189 [.inr (.inl 55), .inl c] A P := by
  obtain ⟨m1, m2, m3, m4⟩ := hM
  have gg := g.2
  have nb := h1.2.2.1
  refine e_X11_front ⟨fun z => absurd z (by rw [h5.1]; decide), fun _ => sM_isByte (fun _ _ => ⟨fun _ => ?_, fun z => absurd z n10⟩) (fun z => absurd h0 z)⟩
  rw [m2]
  refine dwl (P := fun r => Rn (d + 1) mX11_front (fun v A' => ∃ y, v = some (.inl y) ∧ P y A') 29 [some (.inr (.inl 55)), some (.inl c), some (.inl (A.1 55 7)), some (.inl 0), some (.inl (r : Int)), none] [] A) (a := lo) (n := hi) ?_ (fun r ha hr' ih => ?_) (by omega)
  · refine w_X11_front_29 ?_
    rw [m2, m3]
    exact ⟨inR_b (by omega) (by omega), fun _ => ⟨fun _ => ⟨_, rfl, hP⟩, fun z => by omega⟩, fun z => by omega⟩
  · refine w_X11_front_29 ?_
    rw [m2, m3]
    exact ⟨inR_b (by omega) (by omega), fun z => by omega, fun _ => sM_before h1 h2 h5 (i := r) (by omega) ⟨fun _ => ⟨inR_b (by omega) (by omega), ih⟩, fun e => absurd e (hf r ha hr')⟩⟩
theorem b_front {A : iz_A} {I : iz_A → Prop} {c : Int} {x : Ix} (hx : HdAt x A) (hI0 : I A) (hI : XM x A → ∀ C, fr [17, 18, 55, 69, 70] A C → ff [22, 23, 24, 26] (A.1 55) (C.1 55) → HR x C → I C) : Bo 125 189 [.inl c] [.inl c] A I := by
  by_cases h0 : 0 ≤ c ∧ c < 256
  · rcases hx with hn | ⟨hx, p, len, lo, hi, dn, g, hl, hd, hX, hM, hp, hq⟩
    · exact bo_bad (d := 1) (d' := 1) (by decide) (by decide) hI0 (fun P hP => e_X10_front (d := 0) ⟨fun _ => ⟨_, rfl, hP⟩, fun z => absurd (by rw [hn.1]; decide) z⟩) (fun P hP => e_X11_front (d := 0) ⟨fun _ => ⟨_, rfl, hP⟩, fun z => absurd hn.2.2.1 z⟩)
    · obtain ⟨h1, h2, h3, h4, h5⟩ := id hx
      have np := n_pos h1
      have gg := g.2
      by_cases ex : ∃ r, lo ≤ r ∧ r < hi ∧ bef x r = c
      · obtain ⟨r, hr⟩ := ex
        obtain ⟨r0, k1, k2, k3⟩ := least_ex (P := fun r => lo ≤ r ∧ r < hi ∧ bef x r = c) hr
        have hf : ∀ i, lo ≤ i → i < r0 → bef x i ≠ c := fun i a b e => k3 i b ⟨a, (by omega), e⟩
        have hs := (h2.1 r0 (by omega)).1
        obtain ⟨b1, b2⟩ := bef_t h1 h2 (i := r0) (by omega) k2.2.2 h0.1
        have hq0 : ixs x r0 - 1 < ixn x := (by omega)
        obtain ⟨lo', hi', g'⟩ := rg_ex h2 (ixs x r0 - 1) (len + 1) hq0
        refine Ci_mono (d := 4) (by decide) (e_X10_front (d := 3) ⟨fun z => by rw [h4.1] at z; omega, fun _ => sX_isByte (fun _ _ => ⟨fun z => absurd z n10, fun _ => ?_⟩) (fun z => absurd h0 z)⟩) (fun _ _ z => z)
        refine sX_extF h1 h2 h3 h4 g hl hd hX ⟨k2.1, k2.2.1⟩ k2.2.2 h0.1 hf g' fun B fB hB b18 => ⟨_, rfl, ?_⟩
        have h5' : MI x B := MI_k (m := []) h5 fB (by decide) (ff_eq (fB.1 55 (by decide))) (by decide)
        refine Ci_mono (d := 2) (by decide) (sM_front (d := 0) (P := fun y A' => ((hi' - lo' : Nat) : Int) = y ∧ I A') h1 h2 h3 h5' g hl hd (by unfold HdM; rw [fB.1 55 (by decide)]; exact hM) h0 ⟨k2.1, k2.2.1⟩ k2.2.2 g' fun C fC eC hC c0 c69 c70 => ⟨rfl, ?_⟩) (fun _ _ z => z)
        have a0 := (rg_iff h2 h3 g (by omega)).1 ⟨k2.1, k2.2.1⟩
        refine hI hx C (fr_mo (fr_tr fB fC) (by decide)) (by rw [← fB.1 55 (by decide)]; exact eC) ⟨ixs x r0 - 1, len + 1, lo', hi', dn + 1, g', ?_, (by omega), ?_, hC, fun j hj => ?_, fun j hj => ?_⟩
        · have ll := al_lft h1 g.1 hs (al_sy a0) hl
          have z : lft x (ixs x r0 - 1) ≠ 0 := fun z => by
            have := (t_neg h1 hq0).2 z
            omega
          have := lft_add h1 hq0 (j := 1) (by omega)
          rw [show ixs x r0 - 1 + 1 = ixs x r0 by omega] at this
          omega
        · unfold HdX
          rw [fC.1 17 (by decide)]
          exact hB
        · cases j with
          | zero => rw [c0, Nat.add_zero, b2]
          | succ j =>
            rw [c69 j (by omega), fB.1 69 (by decide), hp j (by omega), show ixs x r0 - 1 + (j + 1) = ixs x r0 + j by omega]
            exact (a0 j (by omega)).symm
        · rw [c70, fC.1 18 (by decide), b18, fB.1 70 (by decide)]
          by_cases z : j = dn
          · rw [z, uz_at, uz_at]
            exact Or.inl ⟨rfl, rfl⟩
          · rw [uz_ne _ _ z, uz_ne _ _ z]
            exact hq j (by omega)
      · have hf : ∀ i, lo ≤ i → i < hi → bef x i ≠ c := fun i a b e => ex ⟨i, a, b, e⟩
        refine bo_both (d := 4) (d' := 2) (by decide) (by decide) 0 hI0 (fun P hP => ?_) (fun P hP => ?_)
        · refine e_X10_front (d := 3) ⟨fun z => by rw [h4.1] at z; omega, fun _ => sX_isByte (fun _ _ => ⟨fun z => absurd z n10, fun _ => ?_⟩) (fun z => absurd h0 z)⟩
          exact sX_extN h1 g hX (fun i a b R hR => sX_besideF h1 h4 (r := i) (by omega) (hR _ (hf i a b))) ⟨_, rfl, hP⟩
        · exact sM_frontN h1 h2 h5 g hM h0 hf hP
  · refine bo_bad (d := 2) (d' := 2) (by decide) (by decide) hI0 (fun P hP => ?_) (fun P hP => ?_)
    · exact e_X10_front (d := 1) ⟨fun _ => ⟨_, rfl, hP⟩, fun _ => sX_isByte (fun a b => absurd ⟨a, b⟩ h0) (fun _ => ⟨fun _ => ⟨_, rfl, hP⟩, fun z => absurd rfl z⟩)⟩
    · exact e_X11_front (d := 1) ⟨fun _ => ⟨_, rfl, hP⟩, fun _ => sM_isByte (fun a b => absurd ⟨a, b⟩ h0) (fun _ => ⟨fun z => absurd rfl z, fun _ => ⟨_, rfl, hP⟩⟩)⟩
/-- the reference's back(), from where the run is looked for -/
theorem sM_back {d : Nat} {A : iz_A} {x : Ix} {p len lo hi dn lo2 hi2 q : Nat} {P : Int → iz_A → Prop} (h1 : TxOk x) (h2 : PmOk x) (h3 : SoOk x) (h5 : MI x A) (g : Rg x p (len + 1) lo hi) (hl : len + 1 ≤ lft x p) (hd : dn ≤ len) (hM : HdM A (dn + 1) (len + 1) lo hi)
    (hq : (A.1 70 dn = 0 ∧ q = ixs x lo) ∨ (A.1 70 dn = 1 ∧ q = ixs x lo + 1)) (g2 : Rg x q len lo2 hi2)
    (hP : ∀ C, fr [55, 69] A C → ff [22, 23, 24, 26] (A.1 55) (C.1 55) → HdM C dn len lo2 hi2 → (A.1 70 dn = 0 → ∀ j, j < len → C.1 69 j = A.1 69 j) → (A.1 70 dn = 1 → ∀ j, j < len → C.1 69 j = A.1 69 (j + 1)) → P (len : Int) C) : Ci (d + 2) 190 [.inr (.inl 55)] A P := by
  obtain ⟨m1, m2, m3, m4⟩ := hM
  have gg := g.2
  have nb := h1.2.2.1
  have lp := lft_in h1 g.1
  have gq := g2.1
  have all : len = 0 → lo2 = 0 ∧ hi2 = ixn x := fun z => by
    rw [z] at g2
    have := rg_un h2 h3 (rg_all h1 h2 q gq) g2 (al_rf _ _ _)
    exact this
  have e1 : ∀ F : Nat → Int, F = uz (uz (A.1 55) 26 (((dn + 1 : Nat) : Int) - 1)) 22 (((len + 1 : Nat) : Int) - 1) → F 22 = (len : Int) ∧ F 26 = (dn : Int) ∧ F 7 = (ixn x : Int) ∧ ff [22, 26] (A.1 55) F := fun F e => by
    rw [e]
    refine ⟨?_, ?_, h5.2.1, ff_uz (ff_uz (ff_eq rfl) (by decide)) (by decide)⟩
    · exact (by omega : ((len + 1 : Nat) : Int) - 1 = (len : Int))
    · exact (by omega : ((dn + 1 : Nat) : Int) - 1 = (dn : Int))
  refine e_X11_back ⟨fun z => absurd z (by rw [h5.1]; decide), fun _ => ⟨fun _ => ?_, fun z => by rw [m4] at z; omega⟩⟩
  rw [m1, m2, m4, tn, show (((dn + 1 : Nat) : Int) - 1).toNat = dn by omega, (h5.2.2.2.2.2.1 lo (by omega)).1]
  refine ⟨inR_b (by omega) (by omega), inR_b (by omega) (by omega), ⟨by omega, by omega⟩, ⟨by omega, by omega⟩, fun z => ?_, fun z => ?_⟩
  · rcases hq with ⟨a, rfl⟩ | ⟨a, -⟩
    · refine ⟨fun z2 => ?_, fun z2 => ?_⟩
      · obtain ⟨q1, q2, q3, q4⟩ := e1 _ rfl
        have f1 : fr [55, 69] A (iz_pI (iz_pI A 55 (uz (A.1 55) 26 (((dn + 1 : Nat) : Int) - 1))) 55 (uz (uz (A.1 55) 26 (((dn + 1 : Nat) : Int) - 1)) 22 (((len + 1 : Nat) : Int) - 1))) := fr_pI (fr_pI (fr_mo (fr_rf A) (by decide)) (by decide)) (by decide)
        rw [show .inl (((len + 1 : Nat) : Int) - 1) = (.inl (len : Int) : iz_V) by rw [show ((len + 1 : Nat) : Int) - 1 = (len : Int) by omega]]
        refine sM_findRows h1 h2 (MI_k h5 f1 (by decide) q4 (by decide)) g2 fun C fC eC c23 c24 => ?_
        have c22 : C.1 55 22 = (len : Int) := (eC 22 (by decide)).trans q1
        rw [c22]
        refine ⟨_, rfl, hP C (fr_mo (fr_tr f1 fC) (by decide)) (ff_tr (ff_mo q4 (by decide)) (ff_mo eC (by decide))) ⟨c22, c23, c24, (eC 26 (by decide)).trans q2⟩ (fun _ j hj => ?_) (fun z => by omega)⟩
        rw [fC.1 69 (by decide)]
        rfl
      · have l0 : len = 0 := (by omega)
        obtain ⟨l2, l3⟩ := all l0
        obtain ⟨q1, q2, q3, q4⟩ := e1 _ rfl
        rw [show .inl (((len + 1 : Nat) : Int) - 1) = (.inl (len : Int) : iz_V) by rw [show ((len + 1 : Nat) : Int) - 1 = (len : Int) by omega]]
        refine ⟨_, rfl, hP _ (fr_pI (fr_pI (fr_pI (fr_pI (fr_mo (fr_rf A) (by decide)) (by decide)) (by decide)) (by decide)) (by decide)) (ff_uz (ff_uz (ff_mo q4 (by decide)) (by decide)) (by decide)) ⟨q1, ?_, ?_, q2⟩ (fun _ j hj => rfl) (fun z => by omega)⟩
        · rw [l2]; rfl
        · show A.1 55 7 = _
          rw [l2, l3, h5.2.1]
          omega
    · omega
  · rcases hq with ⟨a, -⟩ | ⟨a, hq⟩
    · omega
    · obtain ⟨q1, q2, q3, q4⟩ := e1 _ rfl
      have f1 : fr [55, 69] A (iz_pI (iz_pI A 55 (uz (A.1 55) 26 (((dn + 1 : Nat) : Int) - 1))) 55 (uz (uz (A.1 55) 26 (((dn + 1 : Nat) : Int) - 1)) 22 (((len + 1 : Nat) : Int) - 1))) := fr_pI (fr_pI (fr_mo (fr_rf A) (by decide)) (by decide)) (by decide)
      generalize uz (uz (A.1 55) 26 (((dn + 1 : Nat) : Int) - 1)) 22 (((len + 1 : Nat) : Int) - 1) = F at *
      refine dwl (P := fun k => ∀ B, fr [55, 69] A B → B.1 55 = F → (∀ j, j < k → B.1 69 j = A.1 69 (j + 1)) → (∀ j, k ≤ j → B.1 69 j = A.1 69 j) → Rn (d + 1) mX11_back (fun v A' => ∃ y, v = some (.inl y) ∧ P y A') 60 [some (.inr (.inl 55)), some (.inl (ixs x lo : Int)), some (.inl (k : Int))] [] B) (a := 0) (n := len) ?_ (fun k _ hk ih => ?_) (Nat.zero_le _) _ f1 rfl (fun j hj => by omega) (fun j hj => rfl)
      · intro B f b55 b1 b2
        refine w_X11_back_60 ?_
        rw [b55, q1, q3]
        have hs := (h2.1 lo (by omega)).1
        refine ⟨fun _ => ⟨inR_b (by omega) (by omega), fun z2 => ?_, fun z2 => ?_⟩, fun z => by omega⟩
        · rw [show ((ixs x lo : Int) + 1) = (q : Int) by omega]
          refine sM_findRows h1 h2 (MI_k h5 f (by decide) (by rw [b55]; exact q4) (by decide)) g2 fun C fC eC c23 c24 => ?_
          rw [b55] at eC
          have c22 : C.1 55 22 = (len : Int) := (eC 22 (by decide)).trans q1
          rw [c22]
          refine ⟨_, rfl, hP C (fr_mo (fr_tr f fC) (by decide)) (ff_tr (ff_mo q4 (by decide)) (ff_mo eC (by decide))) ⟨c22, c23, c24, (eC 26 (by decide)).trans q2⟩ (fun z => by omega) (fun _ j hj => ?_)⟩
          rw [fC.1 69 (by decide)]
          exact b1 j hj
        · obtain ⟨l2, l3⟩ := all (by omega)
          refine ⟨_, rfl, hP _ (fr_pI (fr_pI f (by decide)) (by decide)) (ff_uz (ff_uz (ff_mo q4 (by decide)) (by decide)) (by decide)) ⟨q1, ?_, ?_, q2⟩ (fun z => by omega) (fun _ j hj => by omega)⟩
          · rw [l2]; rfl
          · exact (by omega : (ixn x : Int) = (hi2 : Int) - (lo2 : Int))
      · intro B f b55 b1 b2
        refine w_X11_back_60 ?_
        rw [b55, q1, tn, show ((k : Int) + 1).toNat = k + 1 by omega]
        refine ⟨fun z => by omega, fun _ => ⟨inR_b (by omega) (by omega), ⟨by omega, by omega⟩, ⟨by omega, by omega⟩, inR_b (by omega) (by omega), ih _ (fr_pI f (by decide)) b55 (fun j hj => ?_) (fun j hj => ?_)⟩⟩
        · show uz (B.1 69) k _ j = _
          by_cases w : j = k
          · rw [w, uz_at, b2 (k + 1) (by omega)]
          · rw [uz_ne _ _ w, b1 j (by omega)]
        · show uz (B.1 69) k _ j = _
          rw [uz_ne _ _ (by omega), b2 j (by omega)]
theorem b_back {A : iz_A} {I : iz_A → Prop} {x : Ix} (hx : HdAt x A) (hI0 : I A) (hI : XM x A → ∀ C, fr [17, 55, 69] A C → ff [22, 23, 24, 26] (A.1 55) (C.1 55) → HR x C → I C) : Bo 126 190 [] [] A I := by
  rcases hx with hn | ⟨hx, p, len, lo, hi, dn, g, hl, hd, hX, hM, hp, hq⟩
  · exact bo_bad (d := 2) (d' := 1) (by decide) (by decide) hI0 (fun P hP => e_X10_back (d := 1) (e_X1_undo (d := 0) ⟨fun z => absurd hn.2.2.2.2.1 z, fun _ => ⟨_, rfl, _, rfl, hP⟩⟩)) (fun P hP => e_X11_back (d := 0) ⟨fun _ => ⟨_, rfl, hP⟩, fun z => absurd hn.2.2.1 z⟩)
  · obtain ⟨h1, h2, h3, h4, h5⟩ := id hx
    have gg := g.2
    have nb := h1.2.2.1
    have lp := lft_in h1 g.1
    by_cases z0 : dn = 0
    · refine bo_bad (d := 2) (d' := 1) (by decide) (by decide) hI0 (fun P hP => e_X10_back (d := 1) (e_X1_undo (d := 0) ⟨fun z => absurd (by rw [hX.1, z0]; rfl) z, fun _ => ⟨_, rfl, _, rfl, hP⟩⟩)) (fun P hP => e_X11_back (d := 0) ⟨fun _ => ⟨_, rfl, hP⟩, fun _ => ⟨fun z => absurd (by rw [hM.2.2.2, z0]; rfl) z, fun _ => ⟨_, rfl, hP⟩⟩⟩)
    · obtain ⟨len, rfl⟩ : ∃ k, len = k + 1 := ⟨len - 1, (by omega)⟩
      obtain ⟨dn, rfl⟩ : ∃ k, dn = k + 1 := ⟨dn - 1, (by omega)⟩
      have hs := (h2.1 lo (by omega)).1
      have a0 := (rg_iff h2 h3 g (i := lo) (by omega)).1 ⟨by omega, by omega⟩
      have ll := al_lft h1 g.1 hs (al_sy a0) hl
      have ls := lft_in h1 hs
      have fin : ∀ (s q lo2 hi2 : Nat), Rg x s len lo2 hi2 → len ≤ lft x s → Al x s q len → Rg x q len lo2 hi2 → ((A.1 70 dn = 0 ∧ q = ixs x lo ∧ s = p) ∨ (A.1 70 dn = 1 ∧ q = ixs x lo + 1 ∧ s = p + 1)) → ∀ B, fr [17] A B → HdX B dn s len lo2 hi2 → Ci 200 190 [.inr (.inl 55)] B (fun x2 A2 => (len : Int) = x2 ∧ I A2) := fun s q lo2 hi2 gs ls a gq hh B fB hB => by
        have h5' : MI x B := MI_k (m := []) h5 fB (by decide) (ff_eq (fB.1 55 (by decide))) (by decide)
        refine Ci_mono (d := 2) (by decide) (sM_back (d := 0) (q := q) (P := fun y A' => (len : Int) = y ∧ I A') h1 h2 h3 h5' g hl (by omega : dn ≤ len) (by unfold HdM; rw [fB.1 55 (by decide)]; exact hM) (by rw [fB.1 70 (by decide)]; omega) gq fun C fC eC hC c0 c1 => ⟨rfl, ?_⟩) (fun _ _ z => z)
        rw [fB.1 70 (by decide), fB.1 69 (by decide)] at c0 c1
        refine hI hx C (fr_mo (fr_tr fB fC) (by decide)) (by rw [← fB.1 55 (by decide)]; exact eC) ⟨s, len, lo2, hi2, dn, gs, ls, (by omega), ?_, hC, fun j hj => ?_, fun j hj => ?_⟩
        · unfold HdX
          rw [fC.1 17 (by decide)]
          exact hB
        · rcases hh with ⟨y, -, rfl⟩ | ⟨y, -, rfl⟩
          · rw [c0 y j hj, hp j (by omega)]
          · rw [c1 y j hj, hp (j + 1) (by omega), show p + (j + 1) = p + 1 + j by omega]
        · rw [fC.1 70 (by decide), fC.1 18 (by decide), fB.1 70 (by decide), fB.1 18 (by decide)]
          exact hq j (by omega)
      refine Ci_mono (d := 3) (by decide) (e_X10_back (d := 2) (e_X1_undo (d := 1) ⟨fun _ => ?_, fun z => by rw [hX.1] at z; omega⟩)) (fun _ _ z => z)
      rw [hX.1, hX.2.1, hX.2.2.1, show (((dn + 1 : Nat) : Int) - 1).toNat = dn by omega]
      rw [show .inl (((len + 1 : Nat) : Int) - 1) = (.inl (len : Int) : iz_V) by rw [show ((len + 1 : Nat) : Int) - 1 = (len : Int) by omega]]
      have h4' : XI x (iz_pI A 17 (uz (A.1 17) 3 (((dn + 1 : Nat) : Int) - 1))) := XI_k h4 (fr_pI (l := [17]) (fr_mo (fr_rf A) (by decide)) (by decide)) (by decide)
      have e3 : (iz_pI A 17 (uz (A.1 17) 3 (((dn + 1 : Nat) : Int) - 1))).1 17 3 = (dn : Int) := (by omega : ((dn + 1 : Nat) : Int) - 1 = (dn : Int))
      have hh := hq dn (by omega)
      refine ⟨inR_b (by omega) (by omega), ⟨by omega, by omega⟩, fun z => ⟨inR_b (by omega) (by omega), inR_b (by omega) (by omega), ?_⟩, fun z => ⟨inR_b (by omega) (by omega), ?_⟩⟩
      · have lf := lft_add h1 g.1 (j := 1) (by omega)
        obtain ⟨lo2, hi2, g2⟩ := rg_ex h2 (p + 1) len (by omega)
        have a : Al x (p + 1) (ixs x lo + 1) len := fun j hj => by
          have := a0 (j + 1) (by omega)
          rw [show ixs x lo + (j + 1) = ixs x lo + 1 + j by omega, show p + (j + 1) = p + 1 + j by omega] at this
          exact this.symm
        refine sX_stand (p := p + 1) h1 h2 h4' g2 e3 fun B fB hB => ⟨_, rfl, _, rfl, ?_⟩
        rw [hB.2.2.1]
        exact fin (p + 1) (ixs x lo + 1) lo2 hi2 g2 (by omega) a (rg_of h2 h3 g2 (by omega) a) (Or.inr ⟨(by omega), rfl, rfl⟩) B (fr_mo (fr_tr (fr_pI (l := [17]) (fr_mo (fr_rf A) (by decide)) (by decide)) fB) (by decide)) hB
      · obtain ⟨lo2, hi2, g2⟩ := rg_ex h2 p len g.1
        have a : Al x p (ixs x lo) len := al_le (al_sy a0) (by omega)
        refine sX_stand (p := p) h1 h2 h4' g2 e3 fun B fB hB => ⟨_, rfl, _, rfl, ?_⟩
        rw [hB.2.2.1]
        exact fin p (ixs x lo) lo2 hi2 g2 (by omega) a (rg_of h2 h3 g2 hs a) (Or.inl ⟨(by omega), rfl, rfl⟩) B (fr_mo (fr_tr (fr_pI (l := [17]) (fr_mo (fr_rf A) (by decide)) (by decide)) fB) (by decide)) hB
