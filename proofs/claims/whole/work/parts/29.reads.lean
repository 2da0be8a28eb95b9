/-! ===== calls that only read the index ===== -/
def NotB (A : iz_A) : Prop := A.1 5 8 = 0 ∧ A.1 5 9 = 0 ∧ A.1 55 6 = 0 ∧ A.1 55 7 = 0 ∧ A.1 17 3 = 0 ∧ A.1 17 5 = 0 ∧ A.1 17 6 = 0 ∧ A.1 17 7 = 0 ∧ A.1 20 4 = 0 ∧ A.1 30 10 = 3000
def XM (x : Ix) (A : iz_A) : Prop := TxOk x ∧ PmOk x ∧ SoOk x ∧ XI x A ∧ MI x A
def IdxAt (A : iz_A) : Prop := NotB A ∨ ∃ x, XM x A
theorem tn (n : Nat) : ((n : Int)).toNat = n := Int.toNat_natCast n
/-- a whole number in a range is one that counts -/
theorem nat_of {v : Int} {n : Nat} (h0 : 0 ≤ v) (h1 : v < (n : Int)) : ∃ k : Nat, v = (k : Int) ∧ k < n := ⟨v.toNat, by omega, by omega⟩
/-- class and reference both answer -1 -/
theorem bo_bad {kx km : Nat} {ax am : List iz_V} {A : iz_A} {I : iz_A → Prop} {d d' : Nat} (hd : d ≤ 200) (hd' : d' ≤ 200) (hI : I A) (hX : ∀ P : Int → iz_A → Prop, P (-1) A → Ci d kx (.inr (.inl 0) :: ax) A P) (hM : ∀ P : Int → iz_A → Prop, P (-1) A → Ci d' km (.inr (.inl 55) :: am) A P) : Bo kx km ax am A I :=
  Ci_mono hd (hX (fun x1 A1 => Ci 200 km _ A1 fun x2 A2 => x1 = x2 ∧ I A2) (Ci_mono hd' (hM (fun x2 A2 => -1 = x2 ∧ I A2) ⟨rfl, hI⟩) (fun _ _ z => z))) (fun _ _ z => z)
theorem bo_both {kx km : Nat} {ax am : List iz_V} {A : iz_A} {I : iz_A → Prop} {d d' : Nat} (hd : d ≤ 200) (hd' : d' ≤ 200) (r : Int) (hI : I A) (hX : ∀ P : Int → iz_A → Prop, P r A → Ci d kx (.inr (.inl 0) :: ax) A P) (hM : ∀ P : Int → iz_A → Prop, P r A → Ci d' km (.inr (.inl 55) :: am) A P) : Bo kx km ax am A I :=
  Ci_mono hd (hX (fun x1 A1 => Ci 200 km _ A1 fun x2 A2 => x1 = x2 ∧ I A2) (Ci_mono hd' (hM (fun x2 A2 => r = x2 ∧ I A2) ⟨rfl, hI⟩) (fun _ _ z => z))) (fun _ _ z => z)
theorem b_row {A : iz_A} {I : iz_A → Prop} {v : Int} (hx : IdxAt A) (hI : I A) : Bo 114 173 [.inl v] [.inl v] A I := by
  by_cases hr : 0 ≤ v ∧ v < A.1 5 8
  · rcases hx with hx | ⟨x, h1, h2, h3, h4, h5⟩
    · have := hx.1; omega
    · have hn := h4.1
      have hn2 := h5.2.1
      obtain ⟨k, rfl, hk⟩ := nat_of hr.1 (by rw [← hn]; exact hr.2)
      have hb := h1.2.2.1
      refine bo_both (d := 2) (d' := 2) (by decide) (by decide) (ixr x k : Int) hI (fun P hP => ?_) (fun P hP => ?_)
      · refine e_X10_row (d := 1) (sX_has (fun _ _ => ⟨fun z => absurd z (by decide), fun _ => ⟨⟨by omega, by omega⟩, _, rfl, ?_⟩⟩) (fun z => absurd hr z))
        rw [tn, (h4.2.2.1 k hk).2.2]
        exact hP
      · refine e_X11_row (d := 1) (sM_isRow (fun _ _ _ => ⟨fun z => absurd z (by decide), fun _ => ⟨⟨by omega, by omega⟩, _, rfl, ?_⟩⟩) (fun z => absurd ⟨by rw [h5.1]; decide, hr.1, by rw [hn2]; omega⟩ z))
        rw [tn, (h5.2.2.2.1 k hk).2.2]
        exact hP
  · refine bo_bad (d := 2) (d' := 2) (by decide) (by decide) hI (fun P hP => ?_) (fun P hP => ?_)
    · exact e_X10_row (d := 1) (sX_has (fun a b => absurd ⟨a, b⟩ hr) (fun _ => ⟨fun _ => ⟨_, rfl, hP⟩, fun z => absurd rfl z⟩))
    · refine e_X11_row (d := 1) (sM_isRow (fun a b c => ?_) (fun _ => ⟨fun _ => ⟨_, rfl, hP⟩, fun z => absurd rfl z⟩))
      rcases hx with hx | ⟨x, h1, h2, h3, h4, h5⟩
      · exact absurd hx.2.2.1 a
      · have hn := h4.1
        have hn2 := h5.2.1
        omega
theorem b_shared {A : iz_A} {I : iz_A → Prop} {v : Int} (hx : IdxAt A) (hI : I A) : Bo 115 174 [.inl v] [.inl v] A I := by
  by_cases hr : 0 ≤ v ∧ v < A.1 5 8
  · rcases hx with hx | ⟨x, h1, h2, h3, h4, h5⟩
    · have := hx.1; omega
    · have hn := h4.1
      have hn2 := h5.2.1
      obtain ⟨k, rfl, hk⟩ := nat_of hr.1 (by rw [← hn]; exact hr.2)
      have hb := h1.2.2.1
      refine bo_both (d := 2) (d' := 2) (by decide) (by decide) (ixc x k : Int) hI (fun P hP => ?_) (fun P hP => ?_)
      · refine e_X10_shared (d := 1) (sX_has (fun _ _ => ⟨fun z => absurd z (by decide), fun _ => ⟨⟨by omega, by omega⟩, _, rfl, ?_⟩⟩) (fun z => absurd hr z))
        rw [tn, (h4.2.2.2.2 k hk).2.1]
        exact hP
      · refine e_X11_shared (d := 1) (sM_isRow (fun _ _ _ => ⟨fun z => absurd z (by decide), fun _ => ⟨⟨by omega, by omega⟩, _, rfl, ?_⟩⟩) (fun z => absurd ⟨by rw [h5.1]; decide, hr.1, by rw [hn2]; omega⟩ z))
        rw [tn, (h5.2.2.2.2.2.1 k hk).2]
        exact hP
  · refine bo_bad (d := 2) (d' := 2) (by decide) (by decide) hI (fun P hP => ?_) (fun P hP => ?_)
    · exact e_X10_shared (d := 1) (sX_has (fun a b => absurd ⟨a, b⟩ hr) (fun _ => ⟨fun _ => ⟨_, rfl, hP⟩, fun z => absurd rfl z⟩))
    · refine e_X11_shared (d := 1) (sM_isRow (fun a b c => ?_) (fun _ => ⟨fun _ => ⟨_, rfl, hP⟩, fun z => absurd rfl z⟩))
      rcases hx with hx | ⟨x, h1, h2, h3, h4, h5⟩
      · exact absurd hx.2.2.1 a
      · have hn := h4.1
        have hn2 := h5.2.1
        omega
theorem b_before {A : iz_A} {I : iz_A → Prop} {v : Int} (hx : IdxAt A) (hI : I A) : Bo 116 176 [.inl v] [.inl v] A I := by
  by_cases hr : 0 ≤ v ∧ v < A.1 5 8
  · rcases hx with hx | ⟨x, h1, h2, h3, h4, h5⟩
    · have := hx.1; omega
    · have hn := h4.1
      have hn2 := h5.2.1
      obtain ⟨k, rfl, hk⟩ := nat_of hr.1 (by rw [← hn]; exact hr.2)
      have hb := h1.2.2.1
      refine bo_both (d := 2) (d' := 2) (by decide) (by decide) (bef x k) hI (fun P hP => ?_) (fun P hP => ?_)
      · refine e_X10_before (d := 1) (sX_has (fun _ _ => ⟨fun z => absurd z (by decide), fun _ => ⟨⟨by omega, by omega⟩, _, rfl, ?_⟩⟩) (fun z => absurd hr z))
        rw [tn, (h4.2.2.2.2 k hk).2.2]
        exact hP
      · exact e_X11_before (d := 1) (sM_isRow (fun _ _ _ => ⟨fun z => absurd z (by decide), fun _ => sM_before h1 h2 h5 hk ⟨_, rfl, hP⟩⟩) (fun z => absurd ⟨by rw [h5.1]; decide, hr.1, by rw [hn2]; omega⟩ z))
  · refine bo_bad (d := 2) (d' := 2) (by decide) (by decide) hI (fun P hP => ?_) (fun P hP => ?_)
    · exact e_X10_before (d := 1) (sX_has (fun a b => absurd ⟨a, b⟩ hr) (fun _ => ⟨fun _ => ⟨_, rfl, hP⟩, fun z => absurd rfl z⟩))
    · refine e_X11_before (d := 1) (sM_isRow (fun a b c => ?_) (fun _ => ⟨fun _ => ⟨_, rfl, hP⟩, fun z => absurd rfl z⟩))
      rcases hx with hx | ⟨x, h1, h2, h3, h4, h5⟩
      · exact absurd hx.2.2.1 a
      · have hn := h4.1
        have hn2 := h5.2.1
        omega
