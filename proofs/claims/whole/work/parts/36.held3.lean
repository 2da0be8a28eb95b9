theorem ct_cut {P : Nat → Prop} [DecidablePred P] {m n : Nat} (h : m ≤ n) (hz : ∀ i, m ≤ i → i < n → ¬ P i) : ct P n = ct P m := by
  induction n with
  | zero =>
    obtain rfl : m = 0 := (by omega)
    rfl
  | succ n ih =>
    by_cases c : m = n + 1
    · rw [c]
    · rw [ct_s, if_neg (hz n (by omega) (by omega)), ih (by omega) (fun i a b => hz i a (by omega))]
      rfl
theorem sm_shift (f : Nat → Nat) (n : Nat) : sm f (n + 1) = f 0 + sm (fun i => f (i + 1)) n := by
  induction n with
  | zero => rw [sm_s]; show 0 + f 0 = f 0 + 0; omega
  | succ n ih => rw [sm_s, ih, sm_s]; omega
theorem sM_grow {d : Nat} {A : iz_A} {x : Ix} {p len lo hi dn r0 lo' hi' : Nat} {c : Int} {P : Int → iz_A → Prop} (h1 : TxOk x) (h2 : PmOk x) (h3 : SoOk x) (h5 : MI x A) (g : Rg x p len lo hi) (hl : len ≤ lft x p) (hd : dn ≤ len) (hM : HdM A dn len lo hi) (h0 : 0 ≤ c ∧ c < 256) (hr : lo ≤ r0 ∧ r0 < hi) (hc : ixt x (ixs x r0 + len) = c) (hf : ∀ i, lo ≤ i → i < r0 → ixt x (ixs x i + len) ≠ c) (g' : Rg x (ixs x r0) (len + 1) lo' hi')
    (hP : ∀ C, fr [55, 69, 70] A C → ff [22, 23, 24, 26] (A.1 55) (C.1 55) → HdM C (dn + 1) (len + 1) lo' hi' → C.1 69 = uz (A.1 69) len c → C.1 70 = uz (A.1 70) dn 0 → P ((hi' - lo' : Nat) : Int) C) : Ci (d + 2) 188 [.inr (.inl 55), .inl c] A P := by
  obtain ⟨m1, m2, m3, m4⟩ := hM
  have gg := g.2
  have gg' := g'.2
  have nb := h1.2.2.1
  have lp := lft_in h1 g.1
  have key := grow_rg h1 h2 h3 g hr hc g'
  have rr : ixr x (ixs x r0) = r0 := (h2.1 r0 (by omega)).2
  have e1 : lo' = r0 := by
    have a1 := (key lo' (by omega)).1 (by omega)
    by_cases z : lo' < r0
    · exact absurd a1.2 (hf lo' (by omega) z)
    · omega
  have e2 : hi' ≤ hi := by
    have := (key (hi' - 1) (by omega)).1 (by omega)
    omega
  have hct : ct (fun i => lo ≤ i ∧ ixt x (ixs x i + len) = c) hi = hi' - lo' := ct_range (by omega) e2 (fun i hi0 => by
    rw [key i (by omega)]
    exact ⟨fun z => ⟨⟨z.1, hi0⟩, z.2⟩, fun z => ⟨z.1.1, z.2⟩⟩)
  refine e_X11_grow ⟨fun z => absurd z (by rw [h5.1]; decide), fun _ => sM_isByte (fun _ _ => ⟨fun _ => ?_, fun z => absurd z n10⟩) (fun z => absurd h0 z)⟩
  rw [m2]
  have := dwl (P := fun r => Rn (d + 1) mX11_grow (fun v A' => ∃ y, v = some (.inl y) ∧ P y A') 26 [some (.inr (.inl 55)), some (.inl c), some (.inl (if r0 < r then (r0 : Int) else -1)), some (.inl (ct (fun i => lo ≤ i ∧ ixt x (ixs x i + len) = c) r : Int)), some (.inl (r : Int))] [] A) (a := lo) (n := hi) ?_ (fun r ha hr' ih => ?_) (by omega)
  · rw [if_neg (by omega), ct_0 (fun i hi => by omega)] at this
    exact this
  · refine w_X11_grow_26 ?_
    rw [m2, m3, m1, m4, hct, if_pos hr.2, tn, tn]
    refine ⟨inR_b (by omega) (by omega), fun _ => ⟨fun z => by omega, fun _ => ⟨⟨by omega, by omega⟩, inR_b (by omega) (by omega), ⟨by omega, by omega⟩, Or.inl rfl, inR_b (by omega) (by omega), _, rfl, ?_⟩⟩, fun z => by omega⟩
    refine hP _ (fr_pI (fr_pI (fr_pI (fr_pI (fr_pI (fr_pI (fr_mo (fr_rf A) (by decide)) (by decide)) (by decide)) (by decide)) (by decide)) (by decide)) (by decide)) (ff_uz (ff_uz (ff_uz (ff_uz (ff_eq rfl) (by decide)) (by decide)) (by decide)) (by decide)) ⟨?_, ?_, ?_, ?_⟩ rfl rfl
    · exact (by omega : (len : Int) + 1 = ((len + 1 : Nat) : Int))
    · exact (by omega : (r0 : Int) = (lo' : Int))
    · exact (by omega : ((hi' - lo' : Nat) : Int) = (hi' : Int) - (lo' : Int))
    · exact (by omega : (dn : Int) + 1 = ((dn + 1 : Nat) : Int))
  · have hs := (h2.1 r (by omega)).1
    have ll := al_lft h1 g.1 hs (al_sy ((rg_iff h2 h3 g (by omega)).1 ⟨ha, hr'⟩)) hl
    have ls := lft_in h1 hs
    have cl := ct_le (fun i => lo ≤ i ∧ ixt x (ixs x i + len) = c) r
    refine w_X11_grow_26 ?_
    rw [m2, m3, tn, (h5.2.2.2.2.2.1 r (by omega)).1]
    refine ⟨inR_b (by omega) (by omega), fun z => by omega, fun _ => ⟨⟨by omega, by omega⟩, sM_left h1 h5 hs ?_⟩⟩
    rw [m1, (h5.2.2.2.2.2.1 r (by omega)).1, show ((ixs x r : Int) + (len : Int)).toNat = ixs x r + len by omega]
    rw [show ((r + 1 : Nat) : Int) = (r : Int) + 1 by omega, ct_s] at ih
    have no : ixt x (ixs x r + len) ≠ c → Rn (d + 1) mX11_grow (fun v A' => ∃ y, v = some (.inl y) ∧ P y A') 26 [some (.inr (.inl 55)), some (.inl c), some (.inl (if r0 < r then (r0 : Int) else -1)), some (.inl (ct (fun i => lo ≤ i ∧ ixt x (ixs x i + len) = c) r : Int)), some (.inl ((r : Int) + 1))] [] A := fun ne => by
      rw [if_neg (fun z : lo ≤ r ∧ _ => ne z.2), Nat.add_zero] at ih
      by_cases z : r0 < r
      · rw [if_pos (by omega)] at ih
        rw [if_pos z]
        exact ih
      · have : r0 ≠ r := fun e => ne (e ▸ hc)
        rw [if_neg (by omega)] at ih
        rw [if_neg z]
        exact ih
    refine ⟨fun z => ⟨inR_b (by omega) (by omega), no ?_⟩, fun z => ⟨⟨by omega, by omega⟩, inR_b (by omega) (by omega), ⟨by omega, by omega⟩, ?_⟩⟩
    · have e := t_end h1 hs
      rw [show lft x (ixs x r) = len by omega] at e
      have := h1.2.1
      omega
    · rw [tM_in h1 h5 hs (by omega)]
      refine ⟨fun ne => ⟨inR_b (by omega) (by omega), no ne⟩, fun e => ⟨fun z2 => ⟨inR_b (by omega) (by omega), inR_b (by omega) (by omega), ?_⟩, fun z2 => ⟨inR_b (by omega) (by omega), inR_b (by omega) (by omega), ?_⟩⟩⟩
      · rw [if_pos (show lo ≤ r ∧ ixt x (ixs x r + len) = c from ⟨ha, e⟩)] at ih
        have z3 : r0 < r := by
          by_cases y : r0 < r
          · exact y
          · rw [if_neg y] at z2; omega
        rw [if_pos (by omega)] at ih
        rw [if_pos z3]
        exact ih
      · rw [if_pos (show lo ≤ r ∧ ixt x (ixs x r + len) = c from ⟨ha, e⟩)] at ih
        have z3 : r0 = r := by
          by_cases y : r0 < r
          · rw [if_pos y] at z2; omega
          · by_cases w : r < r0
            · exact absurd e (hf r ha w)
            · omega
        rw [if_pos (by omega), z3] at ih
        exact ih
theorem sM_growN {d : Nat} {A : iz_A} {x : Ix} {p len lo hi dn : Nat} {c : Int} {P : Int → iz_A → Prop} (h1 : TxOk x) (h2 : PmOk x) (h3 : SoOk x) (h5 : MI x A) (g : Rg x p len lo hi) (hl : len ≤ lft x p) (hM : HdM A dn len lo hi) (h0 : 0 ≤ c ∧ c < 256) (hf : ∀ i, lo ≤ i → i < hi → ixt x (ixs x i + len) ≠ c) (hP : P 0 A) : Ci (d + 2) 188 [.inr (.inl 55), .inl c] A P := by
  obtain ⟨m1, m2, m3, m4⟩ := hM
  have gg := g.2
  have nb := h1.2.2.1
  refine e_X11_grow ⟨fun z => absurd z (by rw [h5.1]; decide), fun _ => sM_isByte (fun _ _ => ⟨fun _ => ?_, fun z => absurd z n10⟩) (fun z => absurd h0 z)⟩
  rw [m2]
  refine dwl (P := fun r => Rn (d + 1) mX11_grow (fun v A' => ∃ y, v = some (.inl y) ∧ P y A') 26 [some (.inr (.inl 55)), some (.inl c), some (.inl (-1)), some (.inl 0), some (.inl (r : Int))] [] A) (a := lo) (n := hi) ?_ (fun r ha hr' ih => ?_) (by omega)
  · refine w_X11_grow_26 ?_
    rw [m2, m3]
    exact ⟨inR_b (by omega) (by omega), fun _ => ⟨fun _ => ⟨_, rfl, hP⟩, fun z => by omega⟩, fun z => by omega⟩
  · have hs := (h2.1 r (by omega)).1
    have ll := al_lft h1 g.1 hs (al_sy ((rg_iff h2 h3 g (by omega)).1 ⟨ha, hr'⟩)) hl
    have ls := lft_in h1 hs
    refine w_X11_grow_26 ?_
    rw [m2, m3, tn, (h5.2.2.2.2.2.1 r (by omega)).1]
    refine ⟨inR_b (by omega) (by omega), fun z => by omega, fun _ => ⟨⟨by omega, by omega⟩, sM_left h1 h5 hs ?_⟩⟩
    rw [m1, (h5.2.2.2.2.2.1 r (by omega)).1, show ((ixs x r : Int) + (len : Int)).toNat = ixs x r + len by omega]
    refine ⟨fun z => ⟨inR_b (by omega) (by omega), ih⟩, fun z => ⟨⟨by omega, by omega⟩, inR_b (by omega) (by omega), ⟨by omega, by omega⟩, fun _ => ⟨inR_b (by omega) (by omega), ih⟩, fun e => ?_⟩⟩
    rw [tM_in h1 h5 hs (by omega)] at e
    exact absurd e (hf r ha hr')
theorem b_grow {A : iz_A} {I : iz_A → Prop} {c : Int} {x : Ix} (hx : HdAt x A) (hI0 : I A) (hI : XM x A → ∀ C, fr [17, 18, 55, 69, 70] A C → ff [22, 23, 24, 26] (A.1 55) (C.1 55) → HR x C → I C) : Bo 124 188 [.inl c] [.inl c] A I := by
  by_cases h0 : 0 ≤ c ∧ c < 256
  · rcases hx with hn | ⟨hx, p, len, lo, hi, dn, g, hl, hd, hX, hM, hp, hq⟩
    · exact bo_bad (d := 1) (d' := 1) (by decide) (by decide) hI0 (fun P hP => e_X10_grow (d := 0) ⟨fun _ => ⟨_, rfl, hP⟩, fun z => absurd (by rw [hn.1]; decide) z⟩) (fun P hP => e_X11_grow (d := 0) ⟨fun _ => ⟨_, rfl, hP⟩, fun z => absurd hn.2.2.1 z⟩)
    · obtain ⟨h1, h2, h3, h4, h5⟩ := id hx
      have np := n_pos h1
      have gg := g.2
      by_cases ex : ∃ r, lo ≤ r ∧ r < hi ∧ ixt x (ixs x r + len) = c
      · obtain ⟨r, hr⟩ := ex
        obtain ⟨r0, k1, k2, k3⟩ := least_ex (P := fun r => lo ≤ r ∧ r < hi ∧ ixt x (ixs x r + len) = c) hr
        have hf : ∀ i, lo ≤ i → i < r0 → ixt x (ixs x i + len) ≠ c := fun i a b e => k3 i b ⟨a, (by omega), e⟩
        obtain ⟨lo', hi', g'⟩ := rg_ex h2 (ixs x r0) (len + 1) (h2.1 r0 (by omega)).1
        refine Ci_mono (d := 4) (by decide) (e_X10_grow (d := 3) ⟨fun z => by rw [h4.1] at z; omega, fun _ => sX_isByte (fun _ _ => ⟨fun z => absurd z n10, fun _ => ?_⟩) (fun z => absurd h0 z)⟩) (fun _ _ z => z)
        refine sX_extB h1 h2 h3 h4 g hl hd hX ⟨k2.1, k2.2.1⟩ k2.2.2 hf g' fun B fB hB b18 => ⟨_, rfl, ?_⟩
        have h5' : MI x B := MI_k (m := []) h5 fB (by decide) (ff_eq (fB.1 55 (by decide))) (by decide)
        refine Ci_mono (d := 2) (by decide) (sM_grow (d := 0) (P := fun y A' => ((hi' - lo' : Nat) : Int) = y ∧ I A') h1 h2 h3 h5' g hl hd (by unfold HdM; rw [fB.1 55 (by decide)]; exact hM) h0 ⟨k2.1, k2.2.1⟩ k2.2.2 hf g' fun C fC eC hC c69 c70 => ⟨rfl, ?_⟩) (fun _ _ z => z)
        have a0 := (rg_iff h2 h3 g (by omega)).1 ⟨k2.1, k2.2.1⟩
        have hs := (h2.1 r0 (by omega)).1
        refine hI hx C (fr_mo (fr_tr fB fC) (by decide)) (by rw [← fB.1 55 (by decide)]; exact eC) ⟨ixs x r0, len + 1, lo', hi', dn + 1, g', ?_, (by omega), ?_, hC, fun j hj => ?_, fun j hj => ?_⟩
        · have ll := al_lft h1 g.1 hs (al_sy a0) hl
          by_cases z : len = lft x (ixs x r0)
          · have e := t_end h1 hs
            rw [← z] at e
            have := h1.2.1
            have := (lft_in h1 hs).2.2
            have := k2.2.2
            omega
          · omega
        · unfold HdX
          rw [fC.1 17 (by decide)]
          exact hB
        · rw [c69, fB.1 69 (by decide)]
          by_cases z : j = len
          · rw [z, uz_at, k2.2.2]
          · rw [uz_ne _ _ z, hp j (by omega)]
            exact (a0 j (by omega)).symm
        · rw [c70, fC.1 18 (by decide), b18, fB.1 70 (by decide)]
          by_cases z : j = dn
          · rw [z, uz_at, uz_at]
            exact Or.inr ⟨rfl, rfl⟩
          · rw [uz_ne _ _ z, uz_ne _ _ z]
            exact hq j (by omega)
      · have hf : ∀ i, lo ≤ i → i < hi → ixt x (ixs x i + len) ≠ c := fun i a b e => ex ⟨i, a, b, e⟩
        refine bo_both (d := 4) (d' := 2) (by decide) (by decide) 0 hI0 (fun P hP => ?_) (fun P hP => ?_)
        · refine e_X10_grow (d := 3) ⟨fun z => by rw [h4.1] at z; omega, fun _ => sX_isByte (fun _ _ => ⟨fun z => absurd z n10, fun _ => ?_⟩) (fun z => absurd h0 z)⟩
          exact sX_extN h1 g hX (fun i a b R hR => sX_besideB h1 h2 h3 h4 g hl hX ⟨a, b⟩ (hR _ (hf i a b))) ⟨_, rfl, hP⟩
        · exact sM_growN h1 h2 h3 h5 g hl hM h0 hf hP
  · refine bo_bad (d := 2) (d' := 2) (by decide) (by decide) hI0 (fun P hP => ?_) (fun P hP => ?_)
    · exact e_X10_grow (d := 1) ⟨fun _ => ⟨_, rfl, hP⟩, fun _ => sX_isByte (fun a b => absurd ⟨a, b⟩ h0) (fun _ => ⟨fun _ => ⟨_, rfl, hP⟩, fun z => absurd rfl z⟩)⟩
    · exact e_X11_grow (d := 1) ⟨fun _ => ⟨_, rfl, hP⟩, fun _ => sM_isByte (fun a b => absurd ⟨a, b⟩ h0) (fun _ => ⟨fun z => absurd rfl z, fun _ => ⟨_, rfl, hP⟩⟩)⟩
/-- what stands in front of a row -/
theorem bef_t {x : Ix} (h1 : TxOk x) (h2 : PmOk x) {i : Nat} {c : Int} (hi : i < ixn x) (h : bef x i = c) (h0 : 0 ≤ c) : 1 ≤ ixs x i ∧ ixt x (ixs x i - 1) = c := by
  have := bef_front h1 h2 hi (by omega)
  refine ⟨this.1, ?_⟩
  unfold bef at h
  by_cases e : ixs x i = ixF x (ixo x (ixs x i))
  · rw [if_pos e] at h; omega
  · rw [if_neg e] at h; exact h
theorem bef_of {x : Ix} (h1 : TxOk x) (h2 : PmOk x) {q : Nat} (hq : q < ixn x) (ht : 0 ≤ ixt x q) : q + 1 < ixn x ∧ bef x (ixr x (q + 1)) = ixt x q := by
  have l := lft_in h1 hq
  have z : lft x q ≠ 0 := fun z => by
    have := (t_neg h1 hq).2 z
    omega
  have hq1 : q + 1 < ixn x := (by omega)
  have o := own_in h1 hq (j := 1) (by omega)
  refine ⟨hq1, ?_⟩
  unfold bef
  rw [(h2.2 _ hq1).2, o, if_neg, Nat.add_sub_cancel]
  have := (h1.2.2.2.2.2.2 q hq).2.1
  omega
/-- a byte more in front: the rows of the places in front are a run, as many as have the byte -/
theorem front_iff {x : Ix} (h1 : TxOk x) (h2 : PmOk x) (h3 : SoOk x) {p len lo hi r0 lo' hi' : Nat} {c : Int} (h0 : 0 ≤ c) (g : Rg x p len lo hi) (hr : lo ≤ r0 ∧ r0 < hi) (hc : bef x r0 = c) (g' : Rg x (ixs x r0 - 1) (len + 1) lo' hi') {q : Nat} (hq : q < ixn x) : (lo' ≤ ixr x q ∧ ixr x q < hi') ↔ (q + 1 < ixn x ∧ (lo ≤ ixr x (q + 1) ∧ ixr x (q + 1) < hi) ∧ bef x (ixr x (q + 1)) = c) := by
  have hr0 : r0 < ixn x := by have := g.2; omega
  obtain ⟨b1, b2⟩ := bef_t h1 h2 hr0 hc h0
  have a0 := (rg_iff h2 h3 g hr0).1 hr
  rw [rg_iff h2 h3 g' (h2.2 q hq).1, (h2.2 q hq).2]
  constructor
  · intro a
    have e := a 0 (by omega)
    rw [Nat.add_zero, Nat.add_zero, b2] at e
    obtain ⟨f1, f2⟩ := bef_of h1 h2 hq (by omega)
    refine ⟨f1, ?_, f2.trans e⟩
    rw [rg_iff h2 h3 g (h2.2 _ f1).1, (h2.2 _ f1).2]
    refine al_tr (fun j hj => ?_) a0
    have := a (j + 1) (by omega)
    rw [show q + (j + 1) = q + 1 + j by omega, show ixs x r0 - 1 + (j + 1) = ixs x r0 + j by omega] at this
    exact this
  · rintro ⟨f1, f2, f3⟩ j hj
    rw [rg_iff h2 h3 g (h2.2 _ f1).1, (h2.2 _ f1).2] at f2
    have e := (bef_t h1 h2 (h2.2 _ f1).1 f3 h0).2
    rw [(h2.2 _ f1).2, Nat.add_sub_cancel] at e
    cases j with
    | zero => rw [Nat.add_zero, Nat.add_zero, b2, e]
    | succ j =>
      rw [show q + (j + 1) = q + 1 + j by omega, show ixs x r0 - 1 + (j + 1) = ixs x r0 + j by omega]
      exact (al_tr f2 (al_sy a0)) j (by omega)
theorem front_ct {x : Ix} (h1 : TxOk x) (h2 : PmOk x) (h3 : SoOk x) {p len lo hi r0 lo' hi' : Nat} {c : Int} (h0 : 0 ≤ c) (g : Rg x p len lo hi) (hr : lo ≤ r0 ∧ r0 < hi) (hc : bef x r0 = c) (g' : Rg x (ixs x r0 - 1) (len + 1) lo' hi') : ct (fun i => lo ≤ i ∧ bef x i = c) hi = hi' - lo' := by
  have key := fun q hq => front_iff h1 h2 h3 h0 g hr hc g' (q := q) hq
  have gg := g.2
  have gg' := g'.2
  have np := n_pos h1
  have s1 : ct (fun i => lo ≤ i ∧ bef x i = c) hi = ct (fun i => (lo ≤ i ∧ i < hi) ∧ bef x i = c) (ixn x) := by
    rw [ct_cut (m := hi) (n := ixn x) (by omega) (fun i a b z => by omega)]
    exact ct_congr (fun i hi => ⟨fun z => ⟨⟨z.1, hi⟩, z.2⟩, fun z => ⟨z.1.1, z.2⟩⟩)
  have s2 : ct (fun i => (lo ≤ i ∧ i < hi) ∧ bef x i = c) (ixn x) = sm (fun q => if (lo ≤ ixr x q ∧ ixr x q < hi) ∧ bef x (ixr x q) = c then 1 else 0) (ixn x) := by
    rw [← sm_perm h2.1 h2.2]
    refine sm_congr fun i hi => ?_
    rw [(h2.1 i hi).2]
  have s3 : hi' - lo' = sm (fun q => if lo' ≤ ixr x q ∧ ixr x q < hi' then 1 else 0) (ixn x) := by
    rw [← sm_perm h2.1 h2.2, ← ct_range (P := fun i => lo' ≤ i ∧ i < hi') (n := ixn x) (a := lo') (b := hi') (by omega) (by omega) (fun i _ => Iff.rfl)]
    refine sm_congr fun i hi => ?_
    rw [(h2.1 i hi).2]
  rw [s1, s2, s3]
  obtain ⟨m, hm⟩ : ∃ m, ixn x = m + 1 := ⟨ixn x - 1, (by omega)⟩
  rw [hm, sm_shift, sm_s]
  have z0 : ¬ ((lo ≤ ixr x 0 ∧ ixr x 0 < hi) ∧ bef x (ixr x 0) = c) := fun z => by
    have := (bef_t h1 h2 (h2.2 0 np).1 z.2 h0).1
    rw [(h2.2 0 np).2] at this
    omega
  have z1 : ¬ (lo' ≤ ixr x m ∧ ixr x m < hi') := fun z => by
    have := ((key m (by omega)).1 z).1
    omega
  rw [if_neg z0, if_neg z1, Nat.zero_add, Nat.add_zero]
  refine sm_congr fun i hi => ?_
  by_cases z : lo' ≤ ixr x i ∧ ixr x i < hi'
  · rw [if_pos z, if_pos ((key i (by omega)).1 z).2]
  · rw [if_neg z, if_neg (fun y => z ((key i (by omega)).2 ⟨(by omega), y⟩))]
