/-! ===== what holds between two calls ===== -/
/-- the places that the last query had, of both -/
def AnR (A : iz_A) : Prop := ∃ f : Nat, f ≤ 3000 ∧ A.1 30 10 = 3000 - (f : Int) ∧ A.1 55 33 = (f : Int) ∧ (A.1 55 32 = 0 → f = 0) ∧ ∀ k, k < f → A.1 35 (3000 - f + k) = A.1 74 k ∧ A.1 36 (3000 - f + k) = A.1 75 k ∧ A.1 37 (3000 - f + k) = A.1 76 k
theorem b_answered {A : iz_A} {I : iz_A → Prop} {v w : Int} {x : Ix} (hv : inR v) (hx : NotB A ∨ (XM x A ∧ True)) (ha : AnR A) (hI : I A) : Bo 139 226 [.inl v, .inl w] [.inl v, .inl w] A I := by
  obtain ⟨f, f1, f2, f3, f4, f5⟩ := ha
  have hv2 := hv.2
  have nob : NotB A → f = 0 := fun h => by
    have := h.2.2.2.2.2.2.2.2.2
    omega
  have bad : (¬ (0 ≤ v ∧ v < (f : Int)) ∨ ¬ (0 ≤ w ∧ w ≤ 2)) → Bo 139 226 [.inl v, .inl w] [.inl v, .inl w] A I := fun hb => by
    refine bo_bad (d := 2) (d' := 1) (by decide) (by decide) hI (fun P hP => ?_) (fun P hP => ?_)
    · refine e_X10_answered (d := 1) ⟨fun _ => ⟨_, rfl, hP⟩, fun z => e_X3_found ?_⟩
      rw [f2]
      refine ⟨inR_b (by omega) (by omega), _, rfl, fun _ => ⟨_, rfl, hP⟩, fun z2 => e_X3_tellFound ?_⟩
      rw [f2]
      exact ⟨inR_b (by omega) (by omega), fun _ => ⟨_, rfl, _, rfl, hP⟩, fun z => by omega, fun z => by omega, fun z => by omega⟩
    · exact e_X11_answered (d := 0) ⟨fun _ => ⟨_, rfl, hP⟩, fun _ => ⟨fun _ => ⟨_, rfl, hP⟩, fun _ => ⟨fun _ => ⟨_, rfl, hP⟩, fun _ => ⟨fun _ => ⟨_, rfl, hP⟩, fun _ => ⟨fun _ => ⟨_, rfl, hP⟩, fun _ => ⟨fun z => by omega, fun _ => ⟨_, rfl, hP⟩⟩⟩⟩⟩⟩⟩
  by_cases hb : (0 ≤ v ∧ v < (f : Int)) ∧ (0 ≤ w ∧ w ≤ 2)
  · obtain ⟨⟨k1, k2⟩, k3⟩ := hb
    obtain ⟨k, rfl, hk⟩ := nat_of k1 k2
    obtain ⟨e1, e2, e3⟩ := f5 k hk
    have b6 : ¬ A.1 55 6 = 0 := by
      rcases hx with h | ⟨h, -⟩
      · have := nob h
        omega
      · rw [h.2.2.2.2.1]; decide
    have b32 : ¬ A.1 55 32 = 0 := fun z => by
      have := f4 z
      omega
    refine bo_both (d := 2) (d' := 1) (by decide) (by decide) (if w = 0 then A.1 74 k else if w = 1 then A.1 75 k else A.1 76 k) hI (fun P hP => ?_) (fun P hP => ?_)
    · refine e_X10_answered (d := 1) ⟨fun z => by omega, fun z => e_X3_found ?_⟩
      rw [f2]
      refine ⟨inR_b (by omega) (by omega), _, rfl, fun z => by omega, fun z2 => e_X3_tellFound ?_⟩
      rw [f2, show (3000 - (f : Int) + (k : Int)).toNat = 3000 - f + k by omega, e1, e2, e3]
      refine ⟨inR_b (by omega) (by omega), fun z => by omega, fun z3 => ⟨⟨by omega, by omega⟩, _, rfl, _, rfl, ?_⟩, fun z3 => ⟨⟨by omega, by omega⟩, _, rfl, _, rfl, ?_⟩, fun z3 => ⟨⟨by omega, by omega⟩, _, rfl, _, rfl, ?_⟩⟩
      · rw [if_pos z3] at hP; exact hP
      · rw [if_neg (by omega), if_pos z3] at hP; exact hP
      · rw [if_neg (by omega), if_neg (by omega)] at hP; exact hP
    · refine e_X11_answered (d := 0) ⟨fun z => absurd z b6, fun _ => ⟨fun z => absurd z b32, fun _ => ⟨fun z => by omega, fun _ => ⟨fun z => by omega, fun _ => ⟨fun z => by omega, fun _ => ⟨fun _ => ⟨fun z3 => ⟨fun z4 => ⟨⟨by omega, by omega⟩, _, rfl, ?_⟩, fun z4 => ⟨⟨by omega, by omega⟩, _, rfl, ?_⟩⟩, fun z3 => ⟨⟨by omega, by omega⟩, _, rfl, ?_⟩⟩, fun z => by omega⟩⟩⟩⟩⟩⟩
      · rw [if_neg z3, if_neg z4] at hP; rw [tn]; exact hP
      · rw [if_neg z3, if_pos z4] at hP; rw [tn]; exact hP
      · rw [if_pos z3] at hP; rw [tn]; exact hP
  · exact bad (by omega)
def IA (k : Nat) (A : iz_A) : Prop := InvB A ∧ InvQ A ∧ SpR k A ∧ AnR A
def IB (k : Nat) (x : Ix) (A : iz_A) : Prop := XM x A ∧ HR x A ∧ NR A ∧ StR k A ∧ CH x A ∧ LsR x A ∧ (∃ er, ErR x er A) ∧ RcR x A ∧ FcR x A
def IV (k : Nat) (A : iz_A) : Prop := IA k A ∧ (NotB A ∨ ∃ x, IB k x A)
theorem invB_k {A C : iz_A} {l m : List Nat} (h : InvB A) (f : fr l A C) (hl : ∀ q ∈ [1, 2, 3, 4, 56, 57, 58], q ∉ l) (g : ff m (A.1 55) (C.1 55)) (hm : ∀ q ∈ [1, 3, 5], q ∉ m) : InvB C := by
  unfold InvB at h ⊢
  rw [f.1 1 (hl 1 (by decide)), f.1 2 (hl 2 (by decide)), f.1 3 (hl 3 (by decide)), f.1 4 (hl 4 (by decide)), f.1 56 (hl 56 (by decide)), f.1 57 (hl 57 (by decide)), f.1 58 (hl 58 (by decide)), g 1 (hm 1 (by decide)), g 3 (hm 3 (by decide)), g 5 (hm 5 (by decide))]
  exact h
theorem invQ_k {A C : iz_A} {l m : List Nat} (h : InvQ A) (f : fr l A C) (hl : ∀ q ∈ [23, 24, 73], q ∉ l) (g : ff m (A.1 55) (C.1 55)) (hm : 31 ∉ m) : InvQ C := by
  unfold InvQ at h ⊢
  rw [f.1 23 (hl 23 (by decide)), f.1 24 (hl 24 (by decide)), f.1 73 (hl 73 (by decide)), g 31 hm]
  exact h
theorem spR_k {k : Nat} {A C : iz_A} {l m : List Nat} (h : SpR k A) (f : fr l A C) (hl : ∀ q ∈ [98, 99, 100], q ∉ l) (g : ff m (A.1 55) (C.1 55)) (hm : 70 ∉ m) : SpR (k + 1) C := by
  obtain ⟨sv, s1, s2, s3, s4⟩ := h
  refine ⟨sv, ?_, (by omega), ?_, ?_⟩
  · rw [g 70 hm]; exact s1
  · rw [f.1 99 (hl 99 (by decide)), f.1 100 (hl 100 (by decide))]; exact s3
  · rw [f.1 98 (hl 98 (by decide))]; exact s4
theorem anR_k {A C : iz_A} {l m : List Nat} (h : AnR A) (f : fr l A C) (hl : ∀ q ∈ [30, 35, 36, 37, 74, 75, 76], q ∉ l) (g : ff m (A.1 55) (C.1 55)) (hm : ∀ q ∈ [32, 33], q ∉ m) : AnR C := by
  unfold AnR at h ⊢
  rw [f.1 30 (hl 30 (by decide)), f.1 35 (hl 35 (by decide)), f.1 36 (hl 36 (by decide)), f.1 37 (hl 37 (by decide)), f.1 74 (hl 74 (by decide)), f.1 75 (hl 75 (by decide)), f.1 76 (hl 76 (by decide)), g 32 (hm 32 (by decide)), g 33 (hm 33 (by decide))]
  exact h
theorem IA_k {k : Nat} {A C : iz_A} {l m : List Nat} (h : IA k A) (f : fr l A C) (hl : ∀ q ∈ [1, 2, 3, 4, 56, 57, 58, 23, 24, 73, 98, 99, 100, 30, 35, 36, 37, 74, 75, 76], q ∉ l) (g : ff m (A.1 55) (C.1 55)) (hm : ∀ q ∈ [1, 3, 5, 31, 70, 32, 33], q ∉ m) : IA (k + 1) C :=
  ⟨invB_k h.1 f (fun q hq => hl q (by revert hq; revert q; decide)) g (fun q hq => hm q (by revert hq; revert q; decide)), invQ_k h.2.1 f (fun q hq => hl q (by revert hq; revert q; decide)) g (hm 31 (by decide)), spR_k h.2.2.1 f (fun q hq => hl q (by revert hq; revert q; decide)) g (hm 70 (by decide)), anR_k h.2.2.2 f (fun q hq => hl q (by revert hq; revert q; decide)) g (fun q hq => hm q (by revert hq; revert q; decide))⟩
theorem hr_k {x : Ix} {A C : iz_A} {l m : List Nat} (h : HR x A) (f : fr l A C) (hl : ∀ q ∈ [17, 18, 69, 70], q ∉ l) (g : ff m (A.1 55) (C.1 55)) (hm : ∀ q ∈ [22, 23, 24, 26], q ∉ m) : HR x C := by
  unfold HR HdX HdM at h ⊢
  rw [f.1 17 (hl 17 (by decide)), f.1 18 (hl 18 (by decide)), f.1 69 (hl 69 (by decide)), f.1 70 (hl 70 (by decide)), g 22 (hm 22 (by decide)), g 23 (hm 23 (by decide)), g 24 (hm 24 (by decide)), g 26 (hm 26 (by decide))]
  exact h
theorem nr_k {A C : iz_A} {l m : List Nat} (h : NR A) (f : fr l A C) (hl : ∀ q ∈ [20, 21, 22, 71, 72], q ∉ l) (g : ff m (A.1 55) (C.1 55)) (hm : 29 ∉ m) : NR C := by
  unfold NR at h ⊢
  rw [f.1 20 (hl 20 (by decide)), f.1 21 (hl 21 (by decide)), f.1 22 (hl 22 (by decide)), f.1 71 (hl 71 (by decide)), f.1 72 (hl 72 (by decide)), g 29 hm]
  exact h
theorem stR_k {k : Nat} {A C : iz_A} {l m : List Nat} (h : StR k A) (f : fr l A C) (hl : 5 ∉ l) (g : ff m (A.1 55) (C.1 55)) (hm : ∀ q ∈ [9, 10], q ∉ m) : StR (k + 1) C := by
  obtain ⟨rt, st, s1, s2, s3, s4, s5, s6, s7⟩ := h
  refine ⟨rt, st, s1, s2, (by omega), ?_, ?_, ?_, ?_⟩
  · rw [f.1 5 hl]; exact s4
  · rw [f.1 5 hl]; exact s5
  · rw [g 9 (hm 9 (by decide))]; exact s6
  · rw [g 10 (hm 10 (by decide))]; exact s7
theorem fcR_k {x : Ix} {A C : iz_A} {l m : List Nat} (h : FcR x A) (f : fr l A C) (hl : ∀ q ∈ [101, 102], q ∉ l) (g : ff m (A.1 55) (C.1 55)) (hm : 71 ∉ m) : FcR x C := by
  unfold FcR at h ⊢
  rw [f.1 101 (hl 101 (by decide)), f.1 102 (hl 102 (by decide)), g 71 hm]
  exact h
theorem xm_k {x : Ix} {A C : iz_A} {l m : List Nat} (h : XM x A) (f : fr l A C) (hl : ∀ q ∈ [5, 6, 7, 8, 9, 10, 11, 12, 59, 60, 61, 62, 63, 64, 65], q ∉ l) (g : ff m (A.1 55) (C.1 55)) (hm : ∀ q ∈ [6, 7, 8], q ∉ m) : XM x C :=
  ⟨h.1, h.2.1, h.2.2.1, XI_k h.2.2.2.1 f (fun q hq => hl q (by revert hq; revert q; decide)), MI_k h.2.2.2.2 f (fun q hq => hl q (by revert hq; revert q; decide)) g hm⟩
/-- what only the build makes -/
theorem bl_k {x : Ix} {A C : iz_A} {l : List Nat} (h : CH x A ∧ LsR x A ∧ (∃ er, ErR x er A) ∧ RcR x A) (f : fr l A C) (hl : ∀ q ∈ [45, 46, 49, 50, 51], q ∉ l) : CH x C ∧ LsR x C ∧ (∃ er, ErR x er C) ∧ RcR x C := by
  unfold CH LsR ErR RcR at h ⊢
  rw [f.1 45 (hl 45 (by decide)), f.1 46 (hl 46 (by decide)), f.1 49 (hl 49 (by decide)), f.1 50 (hl 50 (by decide)), f.1 51 (hl 51 (by decide))]
  exact h
theorem notB_k {A C : iz_A} {l m : List Nat} (h : NotB A) (f : fr l A C) (hl : ∀ q ∈ [5, 17, 20, 30], q ∉ l) (g : ff m (A.1 55) (C.1 55)) (hm : ∀ q ∈ [6, 7], q ∉ m) : NotB C := by
  unfold NotB at h ⊢
  rw [f.1 5 (hl 5 (by decide)), f.1 17 (hl 17 (by decide)), f.1 20 (hl 20 (by decide)), f.1 30 (hl 30 (by decide)), g 6 (hm 6 (by decide)), g 7 (hm 7 (by decide))]
  exact h
theorem IB_k {k : Nat} {x : Ix} {A C : iz_A} {l m : List Nat} (h : IB k x A) (f : fr l A C) (hl : ∀ q ∈ [5, 6, 7, 8, 9, 10, 11, 12, 59, 60, 61, 62, 63, 64, 65, 17, 18, 69, 70, 20, 21, 22, 71, 72, 101, 102, 45, 46, 49, 50, 51], q ∉ l) (g : ff m (A.1 55) (C.1 55)) (hm : ∀ q ∈ [6, 7, 8, 22, 23, 24, 26, 29, 9, 10, 71], q ∉ m) : IB (k + 1) x C := by
  obtain ⟨a1, a2, a3, a4, a5, a6, a7, a8, a9⟩ := h
  obtain ⟨b5, b6, b7, b8⟩ := bl_k ⟨a5, a6, a7, a8⟩ f (fun q hq => hl q (by revert hq; revert q; decide))
  exact ⟨xm_k a1 f (fun q hq => hl q (by revert hq; revert q; decide)) g (fun q hq => hm q (by revert hq; revert q; decide)), hr_k a2 f (fun q hq => hl q (by revert hq; revert q; decide)) g (fun q hq => hm q (by revert hq; revert q; decide)), nr_k a3 f (fun q hq => hl q (by revert hq; revert q; decide)) g (hm 29 (by decide)), stR_k a4 f (hl 5 (by decide)) g (fun q hq => hm q (by revert hq; revert q; decide)), b5, b6, b7, b8, fcR_k a9 f (fun q hq => hl q (by revert hq; revert q; decide)) g (hm 71 (by decide))⟩
theorem IV_m {k : Nat} {A : iz_A} (h : IV k A) : IV (k + 1) A := by
  refine ⟨IA_k (l := []) (m := []) h.1 (fr_rf A) (by decide) (ff_eq rfl) (by decide), ?_⟩
  rcases h.2 with y | ⟨x, y⟩
  · exact Or.inl y
  · exact Or.inr ⟨x, IB_k (l := []) (m := []) y (fr_rf A) (by decide) (ff_eq rfl) (by decide)⟩
/-- a call that leaves all this -/
theorem IV_X {k : Nat} {A C : iz_A} (h : IV k A) (f : fr [19, 47, 68, 95, 96, 97] A C) : IV (k + 1) C := by
  have g : ff [] (A.1 55) (C.1 55) := ff_eq (f.1 55 (by decide))
  refine ⟨IA_k h.1 f (by decide) g (by decide), ?_⟩
  rcases h.2 with y | ⟨x, y⟩
  · exact Or.inl (notB_k y f (by decide) g (by decide))
  · exact Or.inr ⟨x, IB_k y f (by decide) g (by decide)⟩
/-- a call that takes another pattern -/
theorem IV_H {k : Nat} {x : Ix} {A C : iz_A} (h : IV k A) (hb : IB k x A) (f : fr [17, 18, 19, 47, 55, 68, 69, 70, 95, 96, 97] A C) (g : ff [22, 23, 24, 26] (A.1 55) (C.1 55)) (hr : HR x C) : IV (k + 1) C := by
  refine ⟨IA_k h.1 f (by decide) g (by decide), Or.inr ⟨x, ?_⟩⟩
  obtain ⟨a1, a2, a3, a4, a5, a6, a7, a8, a9⟩ := hb
  obtain ⟨b5, b6, b7, b8⟩ := bl_k ⟨a5, a6, a7, a8⟩ f (by decide)
  exact ⟨xm_k a1 f (by decide) g (by decide), hr, nr_k a3 f (by decide) g (by decide), stR_k a4 f (by decide) g (by decide), b5, b6, b7, b8, fcR_k a9 f (by decide) g (by decide)⟩
/-- nothing is built, or this index -/
theorem IV_x {k : Nat} {A : iz_A} (h : IV k A) : ∃ x, (NotB A ∨ IB k x A) ∧ (XM x A → IB k x A) := by
  rcases h.2 with y | ⟨x, y⟩
  · refine ⟨(0, 0, fun _ => 0, fun _ => 0, fun _ => 0, fun _ => 0, fun _ => 0, fun _ => 0, fun _ => 0), Or.inl y, fun z => ?_⟩
    have := z.2.2.2.1.1
    have := n_pos z.1
    have := y.1
    omega
  · exact ⟨x, Or.inr y, fun _ => y⟩
theorem IV_i {k : Nat} {A : iz_A} (h : IV k A) : IdxAt A := by
  rcases h.2 with y | ⟨x, y⟩
  · exact Or.inl y
  · exact Or.inr ⟨x, y.1⟩
theorem IV_h {k : Nat} {x : Ix} {A : iz_A} (h : NotB A ∨ IB k x A) : HdAt x A := h.elim Or.inl (fun y => Or.inr ⟨y.1, y.2.1⟩)
