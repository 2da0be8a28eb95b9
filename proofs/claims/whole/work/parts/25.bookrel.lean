/-! ===== the two books are one ===== -/
abbrev BkR (dX hX : Int) (tx fs hd : Nat → Int) (wm dM hM : Int) (wt sz hdM : Nat → Int) : Prop :=
  ∃ (D h : Nat) (F : Nat → Nat), D ≤ 40 ∧ h ≤ 3000 ∧ dX = (D : Int) ∧ dM = (D : Int) ∧ hX = (h : Int) ∧ hM = (h : Int) ∧ F 0 = 0 ∧ (∀ d, d ≤ D → fs d = (F d : Int)) ∧ (∀ d, d < D → 0 ≤ sz d ∧ F (d + 1) = F d + (sz d).toNat + 1) ∧ F D ≤ 3000 ∧ wm = (F D : Int) ∧
    (∀ j, j < h → hd j = hdM j ∧ 0 ≤ hd j ∧ hd j < 256) ∧ ∀ d, d < D → (∀ j, F d ≤ j → j < F d + (sz d).toNat → tx j = wt j ∧ 0 ≤ tx j ∧ tx j < 256) ∧ tx (F d + (sz d).toNat) = -2 ∧ wt (F d + (sz d).toNat) = -1
abbrev InvB (A : iz_A) : Prop := BkR (A.1 1 3) (A.1 1 4) (A.1 2) (A.1 3) (A.1 4) (A.1 55 1) (A.1 55 3) (A.1 55 5) (A.1 56) (A.1 57) (A.1 58)
theorem F_mono {D : Nat} {F : Nat → Nat} {sz : Nat → Int} (h : ∀ d, d < D → 0 ≤ sz d ∧ F (d + 1) = F d + (sz d).toNat + 1) : ∀ e d, d ≤ e → e ≤ D → F d ≤ F e := by
  intro e
  induction e with
  | zero =>
    intro d h1 _
    obtain rfl : d = 0 := by omega
    exact Nat.le_refl _
  | succ e ih =>
    intro d h1 h2
    by_cases c : d = e + 1
    · rw [c]; exact Nat.le_refl _
    · have := ih d (by omega) (by omega)
      have := (h e (by omega)).2
      omega
/-- class and reference: the same answer, and what holds then -/
def Bo (kx km : Nat) (ax am : List iz_V) (A : iz_A) (I : iz_A → Prop) : Prop := Ci 200 kx (.inr (.inl 0) :: ax) A fun x1 A1 => Ci 200 km (.inr (.inl 55) :: am) A1 fun x2 A2 => x1 = x2 ∧ I A2
theorem b_feed {A : iz_A} {I : iz_A → Prop} {v1 v2 v3 v4 v5 : Int} (hv : inR v1 ∧ inR v2 ∧ inR v3 ∧ inR v4 ∧ inR v5) (hB : InvB A)
    (hI : ∀ B, fr [1, 4, 55, 58] A B → (∀ j, j ≠ 4 → B.1 1 j = A.1 1 j) → (∀ j, j ≠ 5 → B.1 55 j = A.1 55 j) → InvB B → I B) : Bo 108 158 [.inl v1, .inl v2, .inl v3, .inl v4, .inl v5] [.inl v1, .inl v2, .inl v3, .inl v4, .inl v5] A I := by
  obtain ⟨D, h, F, q1, q2, q3, q4, q5, q6, q7, q8, q9, q10, q11, q12, q13⟩ := id hB
  refine Ci_mono (d := 2) (by decide) (sX_feed (d := 0) (P := fun x1 A1 => Ci 200 158 _ A1 fun x2 A2 => x1 = x2 ∧ I A2) hv q5 (fun hz B f1 o1 t1 => ?_) (fun hz => ?_)) (fun _ _ z => z)
  · refine Ci_mono (d := 1) (by decide) (sM_feed (d := 0) (h := h) hv (by rw [f1.1 55 (by decide)]; exact q6) (by omega) (fun _ C f2 o2 t2 => ⟨rfl, ?_⟩) (fun z => absurd hz z)) (fun _ _ z => z)
    have e1 : C.1 1 = uz (A.1 1) 4 ((h + 20 : Nat) : Int) := by rw [f2.1 1 (by decide), o1]
    have e55 : C.1 55 = uz (A.1 55) 5 ((h + 20 : Nat) : Int) := by rw [o2, f1.1 55 (by decide)]
    refine hI C (fr_mo (fr_tr f1 f2) (by decide)) (fun j hj => by rw [e1, uz_ne _ _ hj]) (fun j hj => by rw [e55, uz_ne _ _ hj]) ?_
    unfold InvB
    rw [e1, e55, f2.1 2 (by decide), f1.1 2 (by decide), f2.1 3 (by decide), f1.1 3 (by decide), f2.1 4 (by decide), t1, f2.1 56 (by decide), f1.1 56 (by decide), f2.1 57 (by decide), f1.1 57 (by decide), t2, f1.1 58 (by decide)]
    refine ⟨D, h + 20, F, q1, by omega, q3, q4, rfl, rfl, q7, q8, q9, q10, q11, fun j hj => ?_, q13⟩
    unfold wr
    by_cases c : h ≤ j ∧ j < h + 20
    · rw [if_pos c, if_pos c]
      exact ⟨rfl, by4_in _ _⟩
    · rw [if_neg c, if_neg c]
      exact q12 j (by omega)
  · exact Ci_mono (d := 1) (by decide) (sM_feed (d := 0) (h := h) hv q6 (by omega) (fun z => absurd z hz) (fun _ => ⟨rfl, hI A (fr_mo (fr_rf A) (by decide)) (fun _ _ => rfl) (fun _ _ => rfl) hB⟩)) (fun _ _ z => z)
theorem b_end {A : iz_A} {I : iz_A → Prop} {v : Int} (hv : inR v) (hB : InvB A)
    (hI : ∀ B, fr [1, 55] A B → (∀ j, j ≠ 4 → B.1 1 j = A.1 1 j) → (∀ j, j ≠ 5 → B.1 55 j = A.1 55 j) → InvB B → I B) : Bo 109 159 [.inl v] [.inl v] A I := by
  obtain ⟨D, h, F, q1, q2, q3, q4, q5, q6, q7, q8, q9, q10, q11, q12, q13⟩ := id hB
  have same : I A := hI A (fr_mo (fr_rf A) (by decide)) (fun _ _ => rfl) (fun _ _ => rfl) hB
  have bad : ∀ {d : Nat}, v < 0 ∨ 20 < v ∨ ¬ (20 : Int) ≤ A.1 55 5 → Ci (d + 1) 159 [.inr (.inl 55), .inl v] A fun x2 A2 => -1 = x2 ∧ I A2 := fun {d} hb =>
    e_X11_end ⟨fun _ => ⟨-1, rfl, rfl, same⟩, fun c1 => ⟨fun _ => ⟨-1, rfl, rfl, same⟩, fun c2 => ⟨fun c3 => by omega, fun _ => ⟨-1, rfl, rfl, same⟩⟩⟩⟩
  refine Ci_mono (d := 2) (by decide) (P := fun x1 A1 => Ci 200 159 _ A1 fun x2 A2 => x1 = x2 ∧ I A2) ?_ (fun _ _ z => z)
  refine e_X10_end (d := 1) ?_
  refine e_X0_keepOfLast (d := 0) ⟨fun c1 => ⟨_, rfl, _, rfl, bad (Or.inl c1)⟩, fun c1 => ⟨fun c2 => ⟨_, rfl, _, rfl, bad (Or.inr (Or.inl c2))⟩, fun c2 => ⟨fun c3 => ?_, fun c3 => ⟨_, rfl, _, rfl, bad (Or.inr (Or.inr (by rw [q6]; rw [q5] at c3; exact c3)))⟩⟩⟩⟩
  rw [q5] at c3 ⊢
  refine ⟨inR_b (by omega) (by omega), inR_b (by omega) (by omega), _, rfl, _, rfl, ?_⟩
  refine e_X11_end ⟨fun z => absurd z c1, fun _ => ⟨fun z => absurd z c2, fun _ => ⟨fun _ => ?_, fun z => absurd (by show (20 : Int) ≤ A.1 55 5; rw [q6]; exact c3) z⟩⟩⟩
  have e6 : (iz_pI A 1 (uz (A.1 1) 4 ((h : Int) - (20 - v)))).1 55 5 = (h : Int) := q6
  rw [e6]
  refine ⟨inR_b (by omega) (by omega), inR_b (by omega) (by omega), _, rfl, by omega, ?_⟩
  refine hI _ (fr_pI (fr_pI (fr_mo (fr_rf A) (by decide)) (by decide)) (by decide)) (fun j hj => uz_ne _ _ hj) (fun j hj => uz_ne _ _ hj) ?_
  refine ⟨D, (h + v.toNat) - 20, F, q1, by omega, q3, q4, ?_, ?_, q7, q8, q9, q10, q11, fun j hj => q12 j (by omega), q13⟩
  · show uz (A.1 1) 4 ((h : Int) - (20 - v)) 4 = _
    rw [uz_at]
    omega
  · show uz (A.1 55) 5 ((h : Int) + (v - 20)) 5 = _
    rw [uz_at]
    omega
theorem b_clear {A : iz_A} {I : iz_A → Prop} (hB : InvB A)
    (hI : ∀ B, fr [1, 55] A B → (∀ j, j ≠ 4 → j ≠ 3 → B.1 1 j = A.1 1 j) → (∀ j, j ≠ 5 → j ≠ 3 → j ≠ 1 → B.1 55 j = A.1 55 j) → InvB B → I B) : Bo 111 161 [] [] A I := by
  obtain ⟨D, h, F, q1, q2, q3, q4, q5, q6, q7, q8, q9, q10, q11, q12, q13⟩ := id hB
  refine Ci_mono (d := 2) (by decide) (P := fun x1 A1 => Ci 200 161 _ A1 fun x2 A2 => x1 = x2 ∧ I A2) ?_ (fun _ _ z => z)
  refine e_X10_clear (d := 1) ?_
  refine e_X0_dropAll (d := 0) ⟨_, rfl, _, rfl, ?_⟩
  refine e_X11_clear ⟨_, rfl, q3.trans q4.symm, ?_⟩
  refine hI _ (fr_pI (fr_pI (fr_pI (fr_pI (fr_pI (fr_mo (fr_rf A) (by decide)) (by decide)) (by decide)) (by decide)) (by decide)) (by decide)) (fun j h1 h2 => ?_) (fun j h1 h2 h3 => ?_) ?_
  · show uz (uz (A.1 1) 3 0) 4 0 j = _
    rw [uz_ne _ _ h1, uz_ne _ _ h2]
  · show uz (uz (uz (A.1 55) 3 0) 1 0) 5 0 j = _
    rw [uz_ne _ _ h1, uz_ne _ _ h3, uz_ne _ _ h2]
  · exact ⟨0, 0, F, by decide, by decide, rfl, rfl, rfl, rfl, q7, fun d hd => q8 d (by omega), fun d hd => by omega, by rw [q7]; decide, by rw [q7]; rfl, fun j hj => by omega, fun d hd => by omega⟩
