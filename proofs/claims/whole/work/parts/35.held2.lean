theorem b_pattern {A : iz_A} {I : iz_A → Prop} {v : Int} {x : Ix} (hx : HdAt x A) (hI : I A) : Bo 127 191 [.inl v] [.inl v] A I := by
  rcases hx with hn | ⟨⟨h1, h2, h3, h4, h5⟩, p, len, lo, hi, dn, g, hl, hd, hX, hM, hp, hq⟩
  · exact bo_bad (d := 1) (d' := 1) (by decide) (by decide) hI (fun P hP => e_X10_pattern (d := 0) ⟨fun z => absurd hn.1 z, fun _ => ⟨_, rfl, hP⟩⟩) (fun P hP => e_X11_pattern (d := 0) ⟨fun _ => ⟨_, rfl, hP⟩, fun z => absurd hn.2.2.1 z⟩)
  · have np := n_pos h1
    have nb := h1.2.2.1
    have g' := g.2
    refine bo_both (d := 2) (d' := 1) (by decide) (by decide) (if v = 0 then (len : Int) else if v = 1 then (lo : Int) else if v = 2 then ((hi - lo : Nat) : Int) else if v = 3 then (dn : Int) else -1) hI (fun P hP => ?_) (fun P hP => ?_)
    · refine e_X10_pattern (d := 1) ⟨fun _ => ⟨fun z => ?_, fun z => ?_, fun z => ?_, fun z => ?_, fun z => ?_⟩, fun z => absurd z (by rw [h4.1]; omega)⟩
      · refine ⟨_, rfl, ?_⟩
        rw [if_neg (by omega), if_neg (by omega), if_neg (by omega), if_neg (by omega)] at hP
        exact hP
      · refine ⟨_, rfl, ?_⟩
        rw [if_pos z] at hP
        rw [hX.2.2.1]
        exact hP
      · refine ⟨_, rfl, ?_⟩
        rw [if_neg (by omega), if_pos z] at hP
        rw [hX.2.2.2.1]
        exact hP
      · refine sX_rows hX (by omega) (by omega) ⟨_, rfl, ?_⟩
        rw [if_neg (by omega), if_neg (by omega), if_pos z] at hP
        exact hP
      · refine ⟨_, rfl, ?_⟩
        rw [if_neg (by omega), if_neg (by omega), if_neg (by omega), if_pos z] at hP
        rw [hX.1]
        exact hP
    · obtain ⟨m1, m2, m3, m4⟩ := hM
      refine e_X11_pattern (d := 0) ⟨fun z => absurd z (by rw [h5.1]; decide), fun _ => ⟨fun z => ?_, fun z => ⟨fun z2 => ⟨fun z3 => ⟨fun z4 => ⟨fun z5 => ?_, fun z5 => ?_⟩, fun z4 => ?_⟩, fun z3 => ?_⟩, fun z2 => ?_⟩⟩⟩
      · refine ⟨_, rfl, ?_⟩
        rw [if_neg (by omega), if_neg (by omega), if_neg (by omega), if_neg (by omega)] at hP
        exact hP
      · refine ⟨_, rfl, ?_⟩
        rw [if_neg (by omega), if_neg (by omega), if_neg (by omega), if_pos (by omega)] at hP
        rw [m4]
        exact hP
      · refine ⟨_, rfl, ?_⟩
        rw [if_neg (by omega), if_neg (by omega), if_pos (by omega)] at hP
        rw [m3, show ((hi : Int) - (lo : Int)) = ((hi - lo : Nat) : Int) by omega]
        exact hP
      · refine ⟨_, rfl, ?_⟩
        rw [if_neg (by omega), if_pos (by omega)] at hP
        rw [m2]
        exact hP
      · refine ⟨_, rfl, ?_⟩
        rw [if_pos (by omega)] at hP
        rw [m1]
        exact hP
      · refine ⟨_, rfl, ?_⟩
        rw [if_neg (by omega), if_neg (by omega), if_neg (by omega), if_neg (by omega)] at hP
        exact hP
theorem b_patternByte {A : iz_A} {I : iz_A → Prop} {v : Int} {x : Ix} (hx : HdAt x A) (hI : I A) : Bo 128 192 [.inl v] [.inl v] A I := by
  rcases hx with hn | ⟨⟨h1, h2, h3, h4, h5⟩, p, len, lo, hi, dn, g, hl, hd, hX, hM, hp, hq⟩
  · refine bo_bad (d := 1) (d' := 1) (by decide) (by decide) hI (fun P hP => e_X10_patternByte (d := 0) ⟨fun _ => ⟨_, rfl, hP⟩, fun z => ⟨fun _ => ⟨_, rfl, hP⟩, fun z2 => ?_⟩⟩) (fun P hP => e_X11_patternByte (d := 0) ⟨fun _ => ⟨_, rfl, hP⟩, fun z => absurd hn.2.2.1 z⟩)
    have := hn.2.2.2.2.2.1
    omega
  · have nb := h1.2.2.1
    have lp := lft_in h1 g.1
    obtain ⟨m1, m2, m3, m4⟩ := hM
    obtain ⟨c1, c2, c3, c4⟩ := hX
    by_cases hv : 0 ≤ v ∧ v < (len : Int)
    · obtain ⟨j, rfl, hj⟩ := nat_of hv.1 hv.2
      refine bo_both (d := 1) (d' := 1) (by decide) (by decide) (ixt x (p + j)) hI (fun P hP => ?_) (fun P hP => ?_)
      · refine e_X10_patternByte (d := 0) ⟨fun z => by omega, fun z => ⟨fun z => by omega, fun _ => ?_⟩⟩
        rw [c2, show ((p : Int) + (j : Int)).toNat = p + j by omega, (h4.2.2.1 _ (by omega)).1]
        exact ⟨inR_b (by omega) (by omega), ⟨by omega, by omega⟩, _, rfl, hP⟩
      · refine e_X11_patternByte (d := 0) ⟨fun z => absurd z (by rw [h5.1]; decide), fun _ => ⟨fun z => by omega, fun z => ⟨fun _ => ⟨⟨by omega, by omega⟩, _, rfl, ?_⟩, fun z => by omega⟩⟩⟩
        rw [tn, hp j hj]
        exact hP
    · refine bo_bad (d := 1) (d' := 1) (by decide) (by decide) hI (fun P hP => e_X10_patternByte (d := 0) ⟨fun _ => ⟨_, rfl, hP⟩, fun z => ⟨fun _ => ⟨_, rfl, hP⟩, fun z => by omega⟩⟩) (fun P hP => e_X11_patternByte (d := 0) ⟨fun _ => ⟨_, rfl, hP⟩, fun z => ⟨fun _ => ⟨_, rfl, hP⟩, fun _ => ⟨fun z => by omega, fun _ => ⟨_, rfl, hP⟩⟩⟩⟩)
/-- a byte more behind: the rows that have it are a run -/
theorem grow_rg {x : Ix} (h1 : TxOk x) (h2 : PmOk x) (h3 : SoOk x) {p len lo hi r0 lo' hi' : Nat} {c : Int} (g : Rg x p len lo hi) (hr : lo ≤ r0 ∧ r0 < hi) (hc : ixt x (ixs x r0 + len) = c) (g' : Rg x (ixs x r0) (len + 1) lo' hi') : ∀ i, i < ixn x → ((lo' ≤ i ∧ i < hi') ↔ ((lo ≤ i ∧ i < hi) ∧ ixt x (ixs x i + len) = c)) := by
  intro i hi0
  have hr0 : r0 < ixn x := by have := g.2; omega
  have a0 := (rg_iff h2 h3 g hr0).1 hr
  rw [rg_iff h2 h3 g' hi0, rg_iff h2 h3 g hi0]
  constructor
  · intro a
    exact ⟨al_tr (al_le a (by omega)) a0, (a len (by omega)).trans hc⟩
  · rintro ⟨a, e⟩ j hj
    by_cases z : j = len
    · rw [z, e, hc]
    · exact (al_tr a (al_sy a0)) j (by omega)
theorem sX_besideB {d : Nat} {A : iz_A} {x : Ix} {p len lo hi dn r : Nat} {P : Int → iz_A → Prop} (h1 : TxOk x) (h2 : PmOk x) (h3 : SoOk x) (h4 : XI x A) (g : Rg x p len lo hi) (hl : len ≤ lft x p) (hX : HdX A dn p len lo hi) (hr : lo ≤ r ∧ r < hi) (hP : P (ixt x (ixs x r + len)) A) : Ci (d + 1) 7 [.inr (.inl 17), .inl 1, .inl (r : Int)] A P := by
  have g' := g.2
  have nb := h1.2.2.1
  have hs := (h2.1 r (by omega)).1
  have ll := al_lft h1 g.1 hs (al_sy ((rg_iff h2 h3 g (by omega)).1 hr)) hl
  have ls := lft_in h1 hs
  refine e_X1_beside ⟨fun z => absurd z n10, fun _ => ?_⟩
  rw [tn, (h4.2.2.2.2 r (by omega)).1, hX.2.2.1, show ((ixs x r : Int) + (len : Int)).toNat = ixs x r + len by omega, (h4.2.2.1 _ (by omega)).1]
  exact ⟨⟨by omega, by omega⟩, inR_b (by omega) (by omega), ⟨by omega, by omega⟩, _, rfl, hP⟩
theorem sX_besideF {d : Nat} {A : iz_A} {x : Ix} {r : Nat} {P : Int → iz_A → Prop} (h1 : TxOk x) (h4 : XI x A) (hr : r < ixn x) (hP : P (bef x r) A) : Ci (d + 1) 7 [.inr (.inl 17), .inl 0, .inl (r : Int)] A P := by
  have nb := h1.2.2.1
  refine e_X1_beside ⟨fun _ => ?_, fun z => absurd rfl z⟩
  rw [tn, (h4.2.2.2.2 r (by omega)).2.2]
  exact ⟨⟨by omega, by omega⟩, _, rfl, hP⟩
/-- after stand(): one call more is in the history -/
theorem hx_more {A1 : iz_A} {dn p len lo hi : Nat} {b : Int} (h : HdX A1 dn p len lo hi) : HdX (iz_pI (iz_pI A1 18 (uz (A1.1 18) (A1.1 17 3).toNat b)) 17 (uz (A1.1 17) 3 (A1.1 17 3 + 1))) (dn + 1) p len lo hi := by
  refine ⟨?_, h.2.1, h.2.2.1, h.2.2.2.1, h.2.2.2.2⟩
  show A1.1 17 3 + 1 = _
  rw [h.1]
  rfl
/-- extend() when row r0 is the first that has the byte -/
theorem sX_extB {d : Nat} {A : iz_A} {x : Ix} {p len lo hi dn r0 lo' hi' : Nat} {c : Int} {P : Int → iz_A → Prop} (h1 : TxOk x) (h2 : PmOk x) (h3 : SoOk x) (h4 : XI x A) (g : Rg x p len lo hi) (hl : len ≤ lft x p) (hd : dn ≤ len) (hX : HdX A dn p len lo hi) (hr : lo ≤ r0 ∧ r0 < hi) (hc : ixt x (ixs x r0 + len) = c) (hf : ∀ i, lo ≤ i → i < r0 → ixt x (ixs x i + len) ≠ c) (g' : Rg x (ixs x r0) (len + 1) lo' hi')
    (hP : ∀ C, fr [17, 18] A C → HdX C (dn + 1) (ixs x r0) (len + 1) lo' hi' → C.1 18 = uz (A.1 18) dn 1 → P ((hi' - lo' : Nat) : Int) C) : Ci (d + 3) 8 [.inr (.inl 17), .inl 1, .inl c] A P := by
  have gg := g.2
  have gg' := g'.2
  have nb := h1.2.2.1
  have lp := lft_in h1 g.1
  refine e_X1_extend ?_
  rw [hX.2.2.2.1]
  refine dwl (P := fun r => Rn (d + 2) mX1_extend (fun v A' => ∃ y, v = some (.inl y) ∧ P y A') 5 [some (.inr (.inl 17)), some (.inl 1), some (.inl c), some (.inl (r : Int))] [] A) (a := lo) (n := r0) ?_ (fun r ha hr' ih => ?_) hr.1
  · refine w_X1_extend_5 ⟨fun z => by rw [hX.2.2.2.2] at z; omega, fun _ => sX_besideB h1 h2 h3 h4 g hl hX hr ⟨fun _ => ?_, fun z => absurd hc z⟩⟩
    rw [hX.2.2.2.2, hX.1, hX.2.2.1, tn, (h4.2.2.2.2 r0 (by omega)).1]
    refine ⟨fun z => by omega, fun _ => ⟨fun _ => ⟨fun z => absurd z n10, fun _ => ⟨⟨by omega, by omega⟩, inR_b (by omega) (by omega), ?_⟩⟩, fun z => by omega⟩⟩
    refine sX_stand (len := len + 1) h1 h2 h4 g' hX.1 fun C fC hC => ?_
    refine ⟨by rw [hC.1]; omega, Or.inr rfl, by rw [hC.1]; exact inR_b (by omega) (by omega), sX_rows (hx_more hC) (by omega) (by omega) ⟨_, rfl, hP _ (fr_pI (fr_pI (fr_mo fC (by decide)) (by decide)) (by decide)) (hx_more hC) ?_⟩⟩
    show uz (C.1 18) (C.1 17 3).toNat 1 = _
    rw [hC.1, tn, fC.1 18 (by decide)]
  · refine w_X1_extend_5 ⟨fun z => by rw [hX.2.2.2.2] at z; omega, fun _ => sX_besideB h1 h2 h3 h4 g hl hX ⟨ha, (by omega)⟩ ⟨fun z => absurd z (hf r ha hr'), fun _ => ⟨inR_b (by omega) (by omega), ih⟩⟩⟩
theorem sX_extF {d : Nat} {A : iz_A} {x : Ix} {p len lo hi dn r0 lo' hi' : Nat} {c : Int} {P : Int → iz_A → Prop} (h1 : TxOk x) (h2 : PmOk x) (h3 : SoOk x) (h4 : XI x A) (g : Rg x p len lo hi) (hl : len ≤ lft x p) (hd : dn ≤ len) (hX : HdX A dn p len lo hi) (hr : lo ≤ r0 ∧ r0 < hi) (hc : bef x r0 = c) (h0 : 0 ≤ c) (hf : ∀ i, lo ≤ i → i < r0 → bef x i ≠ c) (g' : Rg x (ixs x r0 - 1) (len + 1) lo' hi')
    (hP : ∀ C, fr [17, 18] A C → HdX C (dn + 1) (ixs x r0 - 1) (len + 1) lo' hi' → C.1 18 = uz (A.1 18) dn 0 → P ((hi' - lo' : Nat) : Int) C) : Ci (d + 3) 8 [.inr (.inl 17), .inl 0, .inl c] A P := by
  have gg := g.2
  have gg' := g'.2
  have nb := h1.2.2.1
  have lp := lft_in h1 g.1
  have hb := bef_front h1 h2 (i := r0) (by omega) (by omega)
  refine e_X1_extend ?_
  rw [hX.2.2.2.1]
  refine dwl (P := fun r => Rn (d + 2) mX1_extend (fun v A' => ∃ y, v = some (.inl y) ∧ P y A') 5 [some (.inr (.inl 17)), some (.inl 0), some (.inl c), some (.inl (r : Int))] [] A) (a := lo) (n := r0) ?_ (fun r ha hr' ih => ?_) hr.1
  · refine w_X1_extend_5 ⟨fun z => by rw [hX.2.2.2.2] at z; omega, fun _ => sX_besideF h1 h4 (r := r0) (by omega) ⟨fun _ => ?_, fun z => absurd hc z⟩⟩
    rw [hX.2.2.2.2, hX.1, hX.2.2.1, tn, (h4.2.2.2.2 r0 (by omega)).1]
    refine ⟨fun z => by omega, fun _ => ⟨fun _ => ⟨fun _ => ⟨⟨by omega, by omega⟩, inR_b (by omega) (by omega), inR_b (by omega) (by omega), ?_⟩, fun z => absurd rfl z⟩, fun z => by omega⟩⟩
    rw [show ((ixs x r0 : Int) - 1) = ((ixs x r0 - 1 : Nat) : Int) by omega]
    refine sX_stand (len := len + 1) h1 h2 h4 g' hX.1 fun C fC hC => ?_
    refine ⟨by rw [hC.1]; omega, Or.inl rfl, by rw [hC.1]; exact inR_b (by omega) (by omega), sX_rows (hx_more hC) (by omega) (by omega) ⟨_, rfl, hP _ (fr_pI (fr_pI (fr_mo fC (by decide)) (by decide)) (by decide)) (hx_more hC) ?_⟩⟩
    show uz (C.1 18) (C.1 17 3).toNat 0 = _
    rw [hC.1, tn, fC.1 18 (by decide)]
  · refine w_X1_extend_5 ⟨fun z => by rw [hX.2.2.2.2] at z; omega, fun _ => sX_besideF h1 h4 (r := r) (by omega) ⟨fun z => absurd z (hf r ha hr'), fun _ => ⟨inR_b (by omega) (by omega), ih⟩⟩⟩
/-- extend() when no row has the byte -/
theorem sX_extN {d : Nat} {A : iz_A} {x : Ix} {p len lo hi dn : Nat} {b c : Int} {P : Int → iz_A → Prop} (h1 : TxOk x) (g : Rg x p len lo hi) (hX : HdX A dn p len lo hi) (hf : ∀ i : Nat, lo ≤ i → i < hi → ∀ R : Int → iz_A → Prop, (∀ y, y ≠ c → R y A) → Ci (d + 2) 7 [.inr (.inl 17), .inl b, .inl (i : Int)] A R) (hP : P 0 A) : Ci (d + 3) 8 [.inr (.inl 17), .inl b, .inl c] A P := by
  have gg := g.2
  have nb := h1.2.2.1
  refine e_X1_extend ?_
  rw [hX.2.2.2.1]
  refine dwl (P := fun r => Rn (d + 2) mX1_extend (fun v A' => ∃ y, v = some (.inl y) ∧ P y A') 5 [some (.inr (.inl 17)), some (.inl b), some (.inl c), some (.inl (r : Int))] [] A) (a := lo) (n := hi) ?_ (fun r ha hr' ih => ?_) (by omega)
  · refine w_X1_extend_5 ⟨fun z => ⟨fun _ => ⟨_, rfl, hP⟩, fun z2 => absurd hX.2.2.2.2.symm z2⟩, fun z => absurd (by rw [hX.2.2.2.2]; omega) z⟩
  · refine w_X1_extend_5 ⟨fun z => by rw [hX.2.2.2.2] at z; omega, fun _ => hf r ha hr' _ (fun y hy => ⟨fun z => absurd z hy, fun _ => ⟨inR_b (by omega) (by omega), ih⟩⟩)⟩
