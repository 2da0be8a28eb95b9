/-- how many of the first i numbers are c -/
def cntE (f : Nat → Int) (c : Int) : Nat → Nat
  | 0 => 0
  | i + 1 => cntE f c i + (if f i = c then 1 else 0)
theorem cntE_le (f : Nat → Int) (c : Int) (i : Nat) : cntE f c i ≤ i := by
  induction i with
  | zero => exact Nat.le_refl _
  | succ i ih =>
    unfold cntE
    split <;> omega
/-- the first place from r on, of m, that is the k-th c -/
def selE (f : Nat → Int) (c : Int) (k : Int) : Nat → Nat → Int
  | _, 0 => -1
  | r, m + 1 => if f r = c ∧ (cntE f c r : Int) = k then (r : Int) else selE f c k (r + 1) m
theorem lX_rank {d : Nat} {Q : iz_Q} {A : iz_A} {x : Ix} {c : Int} {E : Nat} (h1 : TxOk x) (hA : XI x A) (hE : E ≤ ixn x) (hQ : Q (some (.inl (cntE (bef x) c E : Int))) A) : ∀ m r, r + m = E → Rn d mX2_frontsUpTo Q 5 [some (.inr (.inl 5)), some (.inl c), some (.inl (E : Int)), some (.inl (cntE (bef x) c r : Int)), some (.inl (r : Int))] [] A := by
  have hb := h1.2.2.1
  intro m
  induction m with
  | zero =>
    intro r hr
    obtain rfl : r = E := by omega
    exact w_X2_frontsUpTo_5 ⟨fun _ => hQ, fun z => absurd (Int.le_refl _) z⟩
  | succ m ih =>
    intro r hr
    have hc := cntE_le (bef x) c r
    refine w_X2_frontsUpTo_5 ⟨fun z => by omega, fun _ => ⟨⟨by omega, by omega⟩, ?_⟩⟩
    rw [tn, (hA.2.2.2.2 r (by omega)).2.2]
    have := ih (r + 1) (by omega)
    rw [show (((r + 1 : Nat)) : Int) = (r : Int) + 1 by omega] at this
    unfold cntE at this
    refine ⟨fun z => ⟨inR_b (by omega) (by omega), ?_⟩, fun z => ⟨inR_b (by omega) (by omega), inR_b (by omega) (by omega), ?_⟩⟩
    · rw [if_neg z, Nat.add_zero] at this
      exact this
    · rw [if_pos z] at this
      exact this
theorem lM_rank {d : Nat} {Q : iz_Q} {A : iz_A} {x : Ix} {c : Int} {E : Nat} (h1 : TxOk x) (h2 : PmOk x) (hA : MI x A) (hE : E ≤ ixn x) (hQ : Q (some (.inl (cntE (bef x) c E : Int))) A) : ∀ m r, r + m = E → Rn (d + 1) mX11_rank Q 33 [some (.inr (.inl 55)), some (.inl c), some (.inl (E : Int)), some (.inl (cntE (bef x) c r : Int)), some (.inl (r : Int))] [] A := by
  have hb := h1.2.2.1
  intro m
  induction m with
  | zero =>
    intro r hr
    obtain rfl : r = E := by omega
    exact w_X11_rank_33 ⟨fun _ => hQ, fun z => absurd (Int.le_refl _) z⟩
  | succ m ih =>
    intro r hr
    have hc := cntE_le (bef x) c r
    refine w_X11_rank_33 ⟨fun z => by omega, fun _ => sM_before h1 h2 hA (by omega) ?_⟩
    have := ih (r + 1) (by omega)
    rw [show (((r + 1 : Nat)) : Int) = (r : Int) + 1 by omega] at this
    unfold cntE at this
    refine ⟨fun z => ⟨inR_b (by omega) (by omega), inR_b (by omega) (by omega), ?_⟩, fun z => ⟨inR_b (by omega) (by omega), inR_b (by omega) (by omega), ?_⟩⟩
    · rw [if_neg z] at this
      exact this
    · rw [if_pos z] at this
      exact this
theorem b_rank {A : iz_A} {I : iz_A → Prop} {c v : Int} (hx : IdxAt A) (hI : I A) : Bo 118 178 [.inl c, .inl v] [.inl c, .inl v] A I := by
  have bad : ¬ (0 ≤ c ∧ c < 256) ∨ NotB A ∨ (∃ x, XM x A ∧ ¬ (0 ≤ v ∧ v ≤ (ixn x : Int))) → Bo 118 178 [.inl c, .inl v] [.inl c, .inl v] A I := fun hb => by
    refine bo_bad (d := 2) (d' := 2) (by decide) (by decide) hI (fun P hP => ?_) (fun P hP => ?_)
    · refine e_X10_rank (d := 1) (sX_isByte (fun a b => ⟨fun z => absurd z n10, fun _ => ⟨fun z => ⟨fun _ => ⟨_, rfl, hP⟩, fun z2 => ?_⟩, fun z => ?_⟩⟩) (fun _ => ⟨fun _ => ⟨_, rfl, hP⟩, fun z => absurd rfl z⟩))
      · rcases hb with hb | hb | ⟨x, hb, hv⟩
        · exact absurd ⟨a, b⟩ hb
        · have := hb.1; omega
        · have := hb.2.2.2.1.1; omega
      · refine sX_has (fun a2 b2 => ?_) (fun _ => ⟨fun _ => ⟨_, rfl, hP⟩, fun z => absurd rfl z⟩)
        rcases hb with hb | hb | ⟨x, hb, hv⟩
        · exact absurd ⟨a, b⟩ hb
        · have := hb.1; omega
        · have := hb.2.2.2.1.1; omega
    · refine e_X11_rank (d := 1) ⟨fun _ => ⟨_, rfl, hP⟩, fun z0 => sM_isByte (fun a b => ⟨fun z => absurd z n10, fun _ => ⟨fun _ => ⟨_, rfl, hP⟩, fun z1 => ⟨fun z2 => ?_, fun _ => ⟨_, rfl, hP⟩⟩⟩⟩) (fun _ => ⟨fun _ => ⟨_, rfl, hP⟩, fun z => absurd rfl z⟩)⟩
      rcases hb with hb | hb | ⟨x, hb, hv⟩
      · exact absurd ⟨a, b⟩ hb
      · exact absurd hb.2.2.1 z0
      · have := hb.2.2.2.2.2.1; omega
  by_cases hc : 0 ≤ c ∧ c < 256
  · rcases hx with hx | ⟨x, hx⟩
    · exact bad (Or.inr (Or.inl hx))
    · by_cases hv : 0 ≤ v ∧ v ≤ (ixn x : Int)
      · obtain ⟨h1, h2, h3, h4, h5⟩ := hx
        obtain ⟨E, rfl, hE⟩ := nat_of (n := ixn x + 1) hv.1 (by omega)
        have hn := h4.1
        have hn2 := h5.2.1
        have hp := n_pos h1
        refine bo_both (d := 2) (d' := 3) (by decide) (by decide) (cntE (bef x) c E : Int) hI (fun P hP => ?_) (fun P hP => ?_)
        · have fin : Ci 1 28 [.inr (.inl 5), .inl c, .inl (E : Int)] A (fun x2 A2 => ∃ y, (some (.inl x2) : Option iz_V) = some (.inl y) ∧ P y A2) := e_X2_frontsUpTo (d := 0) (lX_rank h1 h4 (by omega) ⟨_, rfl, _, rfl, hP⟩ E 0 (by omega))
          refine e_X10_rank (d := 1) (sX_isByte (fun a b => ⟨fun z => absurd z n10, fun _ => ⟨fun z => ⟨fun z2 => by omega, fun z2 => fin⟩, fun z => ?_⟩⟩) (fun z => absurd hc z))
          exact sX_has (fun _ _ => ⟨fun z => absurd z n10, fun _ => ⟨fun z2 => by omega, fun _ => fin⟩⟩) (fun z => by omega)
        · exact e_X11_rank (d := 2) ⟨fun z => absurd z (by rw [h5.1]; decide), fun _ => sM_isByte (fun a b => ⟨fun z => absurd z n10, fun _ => ⟨fun z => by omega, fun _ => ⟨fun _ => lM_rank h1 h2 h5 (by omega) ⟨_, rfl, hP⟩ E 0 (by omega), fun z => by omega⟩⟩⟩) (fun z => absurd hc z)⟩
      · exact bad (Or.inr (Or.inr ⟨x, hx, hv⟩))
  · exact bad (Or.inl hc)
theorem selE_s (f : Nat → Int) (c k : Int) (r m : Nat) : selE f c k r (m + 1) = if f r = c ∧ (cntE f c r : Int) = k then (r : Int) else selE f c k (r + 1) m := rfl
theorem lX_sel {d : Nat} {Q : iz_Q} {A : iz_A} {x : Ix} {c k : Int} (h1 : TxOk x) (hA : XI x A) (hk : inR k) (hQ : Q (some (.inl (selE (bef x) c k 0 (ixn x)))) A) : ∀ m r, r + m = ixn x → (cntE (bef x) c r : Int) ≤ k → selE (bef x) c k 0 (ixn x) = selE (bef x) c k r m → Rn d mX2_rowOfFront Q 5 [some (.inr (.inl 5)), some (.inl c), some (.inl k), some (.inl (k - (cntE (bef x) c r : Int))), some (.inl (r : Int))] [] A := by
  have hb := h1.2.2.1
  intro m
  induction m with
  | zero =>
    intro r hr hle hs
    refine w_X2_rowOfFront_5 ⟨fun _ => ?_, fun z => absurd (by rw [hA.1]; omega) z⟩
    rw [hs] at hQ
    exact hQ
  | succ m ih =>
    intro r hr hle hs
    have hcl := cntE_le (bef x) c r
    rw [selE_s] at hs
    refine w_X2_rowOfFront_5 ⟨fun z => by rw [hA.1] at z; omega, fun _ => ⟨⟨by omega, by omega⟩, ?_⟩⟩
    rw [tn, (hA.2.2.2.2 r (by omega)).2.2]
    have nx := ih (r + 1) (by omega)
    rw [show (((r + 1 : Nat)) : Int) = (r : Int) + 1 by omega] at nx
    have hk2 := hk.2
    refine ⟨fun z => ⟨inR_b (by omega) (by omega), ?_⟩, fun z => ⟨fun z2 => ⟨inR_b (by omega) (by omega), inR_b (by omega) (by omega), ?_⟩, fun z2 => ?_⟩⟩
    · rw [if_neg (fun w => z w.1)] at hs
      have e : cntE (bef x) c (r + 1) = cntE (bef x) c r := by show _ + _ = _; rw [if_neg z]; rfl
      rw [e] at nx
      exact nx hle hs
    · rw [if_neg (fun w => z2 (by omega))] at hs
      have e : cntE (bef x) c (r + 1) = cntE (bef x) c r + 1 := by show _ + _ = _; rw [if_pos z]
      rw [e] at nx
      have := nx (by omega) hs
      rw [show k - ((cntE (bef x) c r + 1 : Nat) : Int) = k - (cntE (bef x) c r : Int) + -1 by omega] at this
      exact this
    · rw [if_pos ⟨z, by omega⟩] at hs
      rw [hs] at hQ
      exact hQ
theorem lM_sel {d : Nat} {Q : iz_Q} {A : iz_A} {x : Ix} {c k : Int} (h1 : TxOk x) (h2 : PmOk x) (hA : MI x A) (hc : 0 ≤ c ∧ c < 256) (h0 : 0 ≤ k) (hQ : Q (some (.inl (selE (bef x) c k 0 (ixn x)))) A) : ∀ m r, r + m = ixn x → selE (bef x) c k 0 (ixn x) = selE (bef x) c k r m → Rn (d + 1) mX11_select Q 5 [some (.inr (.inl 55)), some (.inl c), some (.inl k), some (.inl (cntE (bef x) c r : Int)), some (.inl (r : Int))] [] A := by
  have hb := h1.2.2.1
  intro m
  induction m with
  | zero =>
    intro r hr hs
    refine w_X11_select_5 ⟨fun _ => ?_, fun z => absurd (by rw [hA.2.1]; omega) z⟩
    rw [hs] at hQ
    exact hQ
  | succ m ih =>
    intro r hr hs
    have hcl := cntE_le (bef x) c r
    rw [selE_s] at hs
    refine w_X11_select_5 ⟨fun z => by rw [hA.2.1] at z; omega, fun _ => ⟨fun z => absurd z (by rw [hA.1]; decide), fun _ => sM_isByte (fun _ _ => ⟨fun z => absurd z n10, fun _ => ⟨fun z => by omega, fun _ => sM_before h1 h2 hA (by omega) ?_⟩⟩) (fun z => absurd hc z)⟩⟩
    have nx := ih (r + 1) (by omega)
    rw [show (((r + 1 : Nat)) : Int) = (r : Int) + 1 by omega] at nx
    refine ⟨fun z => ⟨inR_b (by omega) (by omega), ?_⟩, fun z => ⟨fun z2 => ⟨inR_b (by omega) (by omega), inR_b (by omega) (by omega), ?_⟩, fun z2 => ?_⟩⟩
    · rw [if_neg (fun w => z w.1)] at hs
      have e : cntE (bef x) c (r + 1) = cntE (bef x) c r := by show _ + _ = _; rw [if_neg z]; rfl
      rw [e] at nx
      exact nx hs
    · rw [if_neg (fun w => z2 w.2)] at hs
      have e : cntE (bef x) c (r + 1) = cntE (bef x) c r + 1 := by show _ + _ = _; rw [if_pos z]
      rw [e] at nx
      exact nx hs
    · rw [if_pos ⟨z, z2⟩] at hs
      rw [hs] at hQ
      exact hQ
theorem b_select {A : iz_A} {I : iz_A → Prop} {c k : Int} (hk : inR k) (hx : IdxAt A) (hI : I A) : Bo 119 179 [.inl c, .inl k] [.inl c, .inl k] A I := by
  by_cases hc : (0 ≤ c ∧ c < 256) ∧ 0 ≤ k
  · rcases hx with hx | ⟨x, h1, h2, h3, h4, h5⟩
    · refine bo_bad (d := 2) (d' := 2) (by decide) (by decide) hI (fun P hP => ?_) (fun P hP => ?_)
      · exact e_X10_select (d := 1) (sX_isByte (fun a b => ⟨fun z => absurd z n10, fun _ => ⟨fun _ => ⟨_, rfl, hP⟩, fun _ => e_X2_rowOfFront (d := 0) (w_X2_rowOfFront_5 ⟨fun _ => ⟨_, rfl, _, rfl, hP⟩, fun z => absurd (by rw [hx.1]; decide) z⟩)⟩⟩) (fun _ => ⟨fun _ => ⟨_, rfl, hP⟩, fun z => absurd rfl z⟩))
      · exact e_X11_select (d := 1) (w_X11_select_5 ⟨fun _ => ⟨_, rfl, hP⟩, fun z => absurd (by rw [hx.2.2.2.1]; decide) z⟩)
    · refine bo_both (d := 2) (d' := 3) (by decide) (by decide) (selE (bef x) c k 0 (ixn x)) hI (fun P hP => ?_) (fun P hP => ?_)
      · refine e_X10_select (d := 1) (sX_isByte (fun a b => ⟨fun z => absurd z n10, fun _ => ⟨fun z => by omega, fun _ => e_X2_rowOfFront (d := 0) ?_⟩⟩) (fun z => absurd hc.1 z))
        have := lX_sel (d := 0) (Q := fun v A' => ∃ y, v = some (.inl y) ∧ ∃ z, (some (.inl y) : Option iz_V) = some (.inl z) ∧ P z A') h1 h4 hk ⟨_, rfl, _, rfl, hP⟩ (ixn x) 0 (by omega) (by show ((0 : Nat) : Int) ≤ k; omega) rfl
        rw [show k - ((cntE (bef x) c 0 : Nat) : Int) = k by show k - ((0 : Nat) : Int) = k; omega] at this
        exact this
      · exact e_X11_select (d := 2) (lM_sel h1 h2 h5 hc.1 hc.2 ⟨_, rfl, hP⟩ (ixn x) 0 (by omega) rfl)
  · refine bo_bad (d := 2) (d' := 3) (by decide) (by decide) hI (fun P hP => ?_) (fun P hP => ?_)
    · exact e_X10_select (d := 1) (sX_isByte (fun a b => ⟨fun z => absurd z n10, fun _ => ⟨fun _ => ⟨_, rfl, hP⟩, fun z => absurd ⟨⟨a, b⟩, by omega⟩ hc⟩⟩) (fun _ => ⟨fun _ => ⟨_, rfl, hP⟩, fun z => absurd rfl z⟩))
    · refine e_X11_select (d := 2) (w_X11_select_5 ⟨fun _ => ⟨_, rfl, hP⟩, fun z => ⟨fun _ => ⟨_, rfl, hP⟩, fun z0 => sM_isByte (fun a b => ⟨fun z => absurd z n10, fun _ => ⟨fun _ => ⟨_, rfl, hP⟩, fun z => absurd ⟨⟨a, b⟩, by omega⟩ hc⟩⟩) (fun _ => ⟨fun _ => ⟨_, rfl, hP⟩, fun z => absurd rfl z⟩)⟩⟩)
