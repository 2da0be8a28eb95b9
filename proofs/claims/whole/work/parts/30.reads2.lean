theorem row_cases {A : iz_A} (v : Int) (hx : IdxAt A) : (∃ (x : Ix) (k : Nat), XM x A ∧ v = (k : Int) ∧ k < ixn x) ∨ (¬ (0 ≤ v ∧ v < A.1 5 8) ∧ ¬ (¬ A.1 55 6 = 0 ∧ 0 ≤ v ∧ v < A.1 55 7)) := by
  rcases hx with hx | ⟨x, h⟩
  · refine Or.inr ⟨?_, ?_⟩
    · have := hx.1; omega
    · have := hx.2.2.1; omega
  · have h1 := h.2.2.2.1.1
    have h2 := h.2.2.2.2.2.1
    by_cases hr : 0 ≤ v ∧ v < (ixn x : Int)
    · obtain ⟨k, e, hk⟩ := nat_of hr.1 hr.2
      exact Or.inl ⟨x, k, h, e, hk⟩
    · exact Or.inr ⟨by omega, by omega⟩
theorem doc_cases {A : iz_A} (v : Int) (hx : IdxAt A) : (∃ (x : Ix) (k : Nat), XM x A ∧ v = (k : Int) ∧ k < ixm x) ∨ (¬ (0 ≤ v ∧ v < A.1 5 9) ∧ ¬ (¬ A.1 55 6 = 0 ∧ 0 ≤ v ∧ v < A.1 55 8)) := by
  rcases hx with hx | ⟨x, h⟩
  · refine Or.inr ⟨?_, ?_⟩
    · have := hx.2.1; omega
    · have := hx.2.2.1; omega
  · have h1 := h.2.2.2.1.2.1
    have h2 := h.2.2.2.2.2.2.1
    by_cases hr : 0 ≤ v ∧ v < (ixm x : Int)
    · obtain ⟨k, e, hk⟩ := nat_of hr.1 hr.2
      exact Or.inl ⟨x, k, h, e, hk⟩
    · exact Or.inr ⟨by omega, by omega⟩
theorem sX_hasK {d : Nat} {A : iz_A} {x : Ix} {k : Nat} {P : Int → iz_A → Prop} (h : XI x A) (hk : k < ixn x) (hP : P 1 A) : Ci (d + 1) 21 [.inr (.inl 5), .inl (k : Int)] A P := sX_has (fun _ _ => hP) (fun z => absurd (by have := h.1; omega) z)
theorem sM_isRowK {d : Nat} {A : iz_A} {x : Ix} {k : Nat} {P : Int → iz_A → Prop} (h : MI x A) (hk : k < ixn x) (hP : P 1 A) : Ci (d + 1) 167 [.inr (.inl 55), .inl (k : Int)] A P := sM_isRow (fun _ _ _ => hP) (fun z => absurd (by have h1 := h.1; have h2 := h.2.1; exact ⟨by rw [h1]; decide, by omega, by omega⟩) z)
theorem sX_hasDocK {d : Nat} {A : iz_A} {x : Ix} {k : Nat} {P : Int → iz_A → Prop} (h : XI x A) (hk : k < ixm x) (hP : P 1 A) : Ci (d + 1) 22 [.inr (.inl 5), .inl (k : Int)] A P := sX_hasDoc (fun _ _ => hP) (fun z => absurd (by have := h.2.1; omega) z)
theorem sM_isDocK {d : Nat} {A : iz_A} {x : Ix} {k : Nat} {P : Int → iz_A → Prop} (h : MI x A) (hk : k < ixm x) (hP : P 1 A) : Ci (d + 1) 168 [.inr (.inl 55), .inl (k : Int)] A P := sM_isDoc (fun _ _ _ => hP) (fun z => absurd (by have h1 := h.1; have h2 := h.2.2.1; exact ⟨by rw [h1]; decide, by omega, by omega⟩) z)
theorem sX_hasN {d : Nat} {A : iz_A} {v : Int} {P : Int → iz_A → Prop} (n1 : ¬ (0 ≤ v ∧ v < A.1 5 8)) (hP : P 0 A) : Ci (d + 1) 21 [.inr (.inl 5), .inl v] A P := sX_has (fun a b => absurd ⟨a, b⟩ n1) (fun _ => hP)
theorem sX_hasDocN {d : Nat} {A : iz_A} {v : Int} {P : Int → iz_A → Prop} (n1 : ¬ (0 ≤ v ∧ v < A.1 5 9)) (hP : P 0 A) : Ci (d + 1) 22 [.inr (.inl 5), .inl v] A P := sX_hasDoc (fun a b => absurd ⟨a, b⟩ n1) (fun _ => hP)
theorem sM_isRowN {d : Nat} {A : iz_A} {v : Int} {P : Int → iz_A → Prop} (n1 : ¬ (¬ A.1 55 6 = 0 ∧ 0 ≤ v ∧ v < A.1 55 7)) (hP : P 0 A) : Ci (d + 1) 167 [.inr (.inl 55), .inl v] A P := sM_isRow (fun a b c => absurd ⟨a, b, c⟩ n1) (fun _ => hP)
theorem sM_isDocN {d : Nat} {A : iz_A} {v : Int} {P : Int → iz_A → Prop} (n1 : ¬ (¬ A.1 55 6 = 0 ∧ 0 ≤ v ∧ v < A.1 55 8)) (hP : P 0 A) : Ci (d + 1) 168 [.inr (.inl 55), .inl v] A P := sM_isDoc (fun a b c => absurd ⟨a, b, c⟩ n1) (fun _ => hP)
theorem n10 : ¬ (1 : Int) = 0 := by decide
theorem bef_front {x : Ix} {i : Nat} (h1 : TxOk x) (h2 : PmOk x) (hi : i < ixn x) (h : ¬ bef x i = -2) : 1 ≤ ixs x i ∧ ixs x i - 1 < ixn x := by
  have hs := (h2.1 i hi).1
  obtain ⟨a, b, c, -⟩ := h1.2.2.2.2.2.2 _ hs
  unfold bef at h
  by_cases e : ixs x i = ixF x (ixo x (ixs x i))
  · rw [if_pos e] at h; exact absurd rfl h
  · exact ⟨by omega, by omega⟩
theorem b_step {A : iz_A} {I : iz_A → Prop} {v : Int} (hx : IdxAt A) (hI : I A) : Bo 117 177 [.inl v] [.inl v] A I := by
  rcases row_cases v hx with ⟨x, k, ⟨h1, h2, h3, h4, h5⟩, rfl, hk⟩ | ⟨n1, n2⟩
  · have hb := h1.2.2.1
    refine bo_both (d := 2) (d' := 2) (by decide) (by decide) (if bef x k = -2 then -2 else (ixr x (ixs x k - 1) : Int)) hI (fun P hP => ?_) (fun P hP => ?_)
    · refine e_X10_step (d := 1) (sX_hasK h4 hk ⟨fun z => absurd z n10, fun _ => ?_⟩)
      refine e_X2_rowInFront (d := 0) ?_
      rw [tn, (h4.2.2.2.2 k hk).2.2, (h4.2.2.2.2 k hk).1]
      refine ⟨⟨by omega, by omega⟩, fun z => ?_, fun z => ⟨_, rfl, _, rfl, by rw [if_pos z] at hP; exact hP⟩⟩
      obtain ⟨g1, g2⟩ := bef_front h1 h2 hk z
      refine ⟨⟨by omega, by omega⟩, inR_b (by omega) (by omega), ⟨by omega, by omega⟩, _, rfl, _, rfl, ?_⟩
      rw [show ((ixs x k : Int) - 1).toNat = ixs x k - 1 by omega, (h4.2.2.1 _ g2).2.2]
      rw [if_neg z] at hP
      exact hP
    · refine e_X11_step (d := 1) (sM_isRowK h5 hk ⟨fun _ => ?_, fun z => absurd z n10⟩)
      refine sM_before (d := 0) h1 h2 h5 hk ⟨fun z => ?_, fun z => ⟨_, rfl, by rw [if_pos z] at hP; exact hP⟩⟩
      obtain ⟨g1, g2⟩ := bef_front h1 h2 hk z
      rw [tn, (h5.2.2.2.2.2.1 k hk).1]
      refine ⟨⟨by omega, by omega⟩, inR_b (by omega) (by omega), ⟨by omega, by omega⟩, _, rfl, ?_⟩
      rw [show ((ixs x k : Int) - 1).toNat = ixs x k - 1 by omega, (h5.2.2.2.1 _ g2).2.2]
      rw [if_neg z] at hP
      exact hP
  · refine bo_bad (d := 2) (d' := 2) (by decide) (by decide) hI (fun P hP => ?_) (fun P hP => ?_)
    · exact e_X10_step (d := 1) (sX_hasN n1 ⟨fun _ => ⟨_, rfl, hP⟩, fun z => absurd rfl z⟩)
    · exact e_X11_step (d := 1) (sM_isRowN n2 ⟨fun z => absurd rfl z, fun _ => ⟨_, rfl, hP⟩⟩)
theorem b_byteAt {A : iz_A} {I : iz_A → Prop} {v : Int} (hx : IdxAt A) (hI : I A) : Bo 120 180 [.inl v] [.inl v] A I := by
  rcases row_cases v hx with ⟨x, k, ⟨h1, h2, h3, h4, h5⟩, rfl, hk⟩ | ⟨n1, n2⟩
  · have hb := h1.2.2.1
    refine bo_both (d := 2) (d' := 2) (by decide) (by decide) (if ixt x k < 0 then -2 else ixt x k) hI (fun P hP => ?_) (fun P hP => ?_)
    · refine e_X10_byteAt (d := 1) (sX_hasK h4 hk ⟨fun z => absurd z n10, fun _ => ?_⟩)
      refine e_X2_byteOf (d := 0) ?_
      rw [tn, (h4.2.2.1 k hk).1]
      refine ⟨⟨by omega, by omega⟩, fun z => ⟨⟨by omega, by omega⟩, _, rfl, _, rfl, by rw [if_neg (by omega)] at hP; exact hP⟩, fun z => ⟨_, rfl, _, rfl, by rw [if_pos (by omega)] at hP; exact hP⟩⟩
    · refine e_X11_byteAt (d := 1) (sM_isRowK h5 hk ⟨fun _ => ?_, fun z => absurd z n10⟩)
      rw [tn, (h5.2.2.2.1 k hk).1]
      by_cases c : ixt x k < 0
      · rw [if_pos c] at hP ⊢
        exact ⟨⟨by omega, by omega⟩, fun z => absurd z (by decide), fun _ => ⟨_, rfl, hP⟩⟩
      · rw [if_neg c] at hP ⊢
        exact ⟨⟨by omega, by omega⟩, fun z => ⟨⟨by omega, by omega⟩, _, rfl, hP⟩, fun z => absurd (by omega) z⟩
  · refine bo_bad (d := 2) (d' := 2) (by decide) (by decide) hI (fun P hP => ?_) (fun P hP => ?_)
    · exact e_X10_byteAt (d := 1) (sX_hasN n1 ⟨fun _ => ⟨_, rfl, hP⟩, fun z => absurd rfl z⟩)
    · exact e_X11_byteAt (d := 1) (sM_isRowN n2 ⟨fun z => absurd rfl z, fun _ => ⟨_, rfl, hP⟩⟩)
theorem b_document {A : iz_A} {I : iz_A → Prop} {v w : Int} (hx : IdxAt A) (hI : I A) : Bo 121 181 [.inl v, .inl w] [.inl v, .inl w] A I := by
  by_cases h2w : w = 2
  · rcases row_cases v hx with ⟨x, k, ⟨h1, h2, h3, h4, h5⟩, rfl, hk⟩ | ⟨n1, n2⟩
    · have hb := h1.2.2.1
      refine bo_both (d := 2) (d' := 2) (by decide) (by decide) (ixo x k : Int) hI (fun P hP => ?_) (fun P hP => ?_)
      · refine e_X10_document (d := 1) ⟨fun z => absurd h2w z, fun _ => sX_hasK h4 hk ⟨fun z => absurd z n10, fun _ => ⟨⟨by omega, by omega⟩, _, rfl, ?_⟩⟩⟩
        rw [tn, (h4.2.2.1 k hk).2.1]
        exact hP
      · refine e_X11_document (d := 1) ⟨fun z => absurd h2w z, fun _ => sM_isRowK h5 hk ⟨fun z => absurd z n10, fun _ => ⟨⟨by omega, by omega⟩, _, rfl, ?_⟩⟩⟩
        rw [tn, (h5.2.2.2.1 k hk).2.1]
        exact hP
    · refine bo_bad (d := 2) (d' := 2) (by decide) (by decide) hI (fun P hP => ?_) (fun P hP => ?_)
      · exact e_X10_document (d := 1) ⟨fun z => absurd h2w z, fun _ => sX_hasN n1 ⟨fun _ => ⟨_, rfl, hP⟩, fun z => absurd rfl z⟩⟩
      · exact e_X11_document (d := 1) ⟨fun z => absurd h2w z, fun _ => sM_isRowN n2 ⟨fun _ => ⟨_, rfl, hP⟩, fun z => absurd rfl z⟩⟩
  · have bad : ¬ (w = 0 ∨ w = 1) ∨ (¬ (0 ≤ v ∧ v < A.1 5 9) ∧ ¬ (¬ A.1 55 6 = 0 ∧ 0 ≤ v ∧ v < A.1 55 8)) → Bo 121 181 [.inl v, .inl w] [.inl v, .inl w] A I := fun hb => by
      refine bo_bad (d := 2) (d' := 2) (by decide) (by decide) hI (fun P hP => ?_) (fun P hP => ?_)
      · refine e_X10_document (d := 1) ⟨fun _ => ⟨fun _ => ⟨_, rfl, hP⟩, fun z1 => ⟨fun _ => ⟨_, rfl, hP⟩, fun z2 => ?_⟩⟩, fun z => absurd z h2w⟩
        exact sX_hasDocN (by omega) ⟨fun z => absurd rfl z, fun _ => ⟨_, rfl, hP⟩⟩
      · refine e_X11_document (d := 1) ⟨fun _ => ?_, fun z => absurd z h2w⟩
        refine sM_isDoc (fun a b c => ⟨fun z => absurd z n10, fun _ => ⟨fun _ => ⟨_, rfl, hP⟩, fun z1 => ⟨fun z2 => by omega, fun _ => ⟨_, rfl, hP⟩⟩⟩⟩) (fun _ => ⟨fun _ => ⟨_, rfl, hP⟩, fun z => absurd rfl z⟩)
    by_cases hw : w = 0 ∨ w = 1
    · rcases doc_cases v hx with ⟨x, k, ⟨h1, h2, h3, h4, h5⟩, rfl, hk⟩ | hn
      · have hb := h1.2.2.1
        have hm := h1.2.1
        have he := end_lt h1 hk
        have ho : ixo x (ixF x k) = k := own_of h1 hk (Nat.le_refl _) (by omega)
        have hl : lft x (ixF x k) = ixl x k := by unfold lft; rw [ho]; omega
        refine bo_both (d := 4) (d' := 2) (by decide) (by decide) (if w = 0 then (ixF x k : Int) else (ixl x k : Int)) hI (fun P hP => ?_) (fun P hP => ?_)
        · refine e_X10_document (d := 3) ⟨fun _ => ⟨fun z => by omega, fun _ => ⟨fun z => by omega, fun _ => ?_⟩⟩, fun z => absurd z h2w⟩
          refine sX_hasDocK h4 hk ⟨fun _ => ⟨fun z => ⟨⟨by omega, by omega⟩, ?_⟩, fun z => ⟨⟨by omega, by omega⟩, _, rfl, ?_⟩⟩, fun z => absurd z n10⟩
          · rw [tn, h4.2.2.2.1 k (by omega)]
            refine sX_left h1 h4 (by omega) ⟨_, rfl, ?_⟩
            rw [if_neg z] at hP
            rw [hl]
            exact hP
          · rw [tn, h4.2.2.2.1 k (by omega)]
            rw [if_pos z] at hP
            exact hP
        · refine e_X11_document (d := 1) ⟨fun _ => ?_, fun z => absurd z h2w⟩
          refine sM_isDocK h5 hk ⟨fun z => absurd z n10, fun _ => ⟨fun z => by omega, fun _ => ⟨fun _ => ⟨fun z => ⟨⟨by omega, by omega⟩, _, rfl, ?_⟩, fun z => ⟨⟨by omega, by omega⟩, _, rfl, ?_⟩⟩, fun z => by omega⟩⟩⟩
          · rw [tn, (h5.2.2.2.2.1 k hk).2]
            rw [if_neg z] at hP
            exact hP
          · rw [tn, (h5.2.2.2.2.1 k hk).1]
            rw [if_pos z] at hP
            exact hP
      · exact bad (Or.inr hn)
    · exact bad (Or.inl hw)
