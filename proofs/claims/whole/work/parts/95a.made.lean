/-! ===== what the reference makes ===== -/
def MkR (L : List Int) (A : iz_A) : Prop := A.1 55 48 = ((min L.length 59990 : Nat) : Int) ∧ ∀ i, i < L.length → i < 59990 → A.1 83 i = L.getD i 0
theorem mk_k {L : List Int} {A C : iz_A} {l m : List Nat} (h : MkR L A) (f : fr l A C) (hl : 83 ∉ l) (g : ff m (A.1 55) (C.1 55)) (hm : 48 ∉ m) : MkR L C := ⟨(g 48 hm).trans h.1, fun i a b => by rw [f.1 83 hl]; exact h.2 i a b⟩
theorem mk_full {L X : List Int} {A : iz_A} (hL : 59990 ≤ L.length) : MkR (L ++ X) A ↔ MkR L A := by
  have e : (min (L ++ X).length 59990 : Nat) = min L.length 59990 := by
    rw [List.length_append]
    omega
  unfold MkR
  rw [e]
  refine and_congr Iff.rfl ⟨fun h i a b => ?_, fun h i a b => ?_⟩
  · have := h i (by rw [List.length_append]; omega) b
    rw [gd_l a] at this
    exact this
  · rw [gd_l (by omega)]
    exact h i (by omega) b
theorem mk_cut {L X : List Int} {A : iz_A} {B : iz_A} (h : MkR (L ++ X) A) (f : B.1 83 = A.1 83) (hB : B.1 55 48 = ((min L.length 59990 : Nat) : Int)) : MkR L B := ⟨hB, fun i a b => by
  rw [f, h.2 i (by rw [List.length_append]; omega) b, gd_l a]⟩
theorem sM_add {d : Nat} {L : List Int} {A : iz_A} {x : Int} {P : iz_A → Prop} (h : MkR L A) (hP : ∀ C, fr [55, 83] A C → ff [48] (A.1 55) (C.1 55) → MkR (L ++ [x]) C → P C) : Cv (d + 1) 212 [.inr (.inl 55), .inl x] A P := by
  have en : iz_num 59990 0 = 59990 := rfl
  have h1 := h.1
  refine e_X11_addMade ?_
  rw [en]
  refine ⟨fun z => ⟨rfl, hP A (fr_mo (fr_rf A) (by decide)) (ff_eq rfl) ((mk_full (by omega)).2 h)⟩, fun z => ?_⟩
  have hl : L.length < 59990 := (by omega)
  rw [h1]
  refine ⟨⟨by omega, by omega⟩, inR_b (by omega) (by omega), rfl, hP _ (fr_pI (fr_pI (fr_mo (fr_rf A) (by decide)) (by decide)) (by decide)) (ff_uz (ff_eq rfl) (by decide)) ⟨?_, fun i a b => ?_⟩⟩
  · rw [List.length_append]
    show ((min L.length 59990 : Nat) : Int) + 1 = ((min (L.length + 1) 59990 : Nat) : Int)
    omega
  · show uz (A.1 83) _ x i = _
    rw [tn, show min L.length 59990 = L.length by omega]
    by_cases e : i = L.length
    · rw [e, uz_at]
      exact (gd_r (a := L) (b := [x]) 0).symm
    · rw [List.length_append] at a
      have a : i < L.length + 1 := a
      rw [uz_ne _ _ e, h.2 i (by omega) b, gd_l (by omega)]
theorem sM_again {d : Nat} {Lp c Lx : List Int} {A : iz_A} {P : iz_A → Prop} {v1 v2 : Int} (h : MkR (Lp ++ c ++ Lx) A) (h1 : v1 = ((min Lp.length 59990 : Nat) : Int)) (h2 : v2 = ((min (Lp.length + c.length) 59990 : Nat) : Int)) (hP : ∀ C, fr [55, 83] A C → ff [48] (A.1 55) (C.1 55) → MkR (Lp ++ c ++ Lx ++ c) C → P C) : Cv (d + 2) 216 [.inr (.inl 55), .inl v1, .inl v2] A P := by
  subst h1 h2
  refine e_X11_again ?_
  by_cases hl : Lp.length + c.length ≤ 59990
  · rw [show min Lp.length 59990 = Lp.length by omega, show min (Lp.length + c.length) 59990 = Lp.length + c.length by omega]
    refine dwl (P := fun i => ∀ B, fr [55, 83] A B → ff [48] (A.1 55) (B.1 55) → MkR (Lp ++ c ++ Lx ++ c.take i) B → Rn (d + 1) mX11_again (fun v A' => v = none ∧ P A') 2 [some (.inr (.inl 55)), some (.inl (((Lp.length : Nat) : Int))), some (.inl (((Lp.length + c.length : Nat) : Int))), some (.inl (((Lp.length + i : Nat) : Int)))] [] B) (a := 0) (n := c.length) ?_ (fun i _ hi ih => ?_) (Nat.zero_le _) A (fr_mo (fr_rf A) (by decide)) (ff_eq rfl) (by rw [List.take_zero, List.append_nil]; exact h)
    · intro B f g m
      rw [List.take_length] at m
      exact w_X11_again_2 ⟨fun _ => ⟨rfl, hP B f g m⟩, fun z => absurd (Int.le_refl _) z⟩
    · intro B f g m
      refine w_X11_again_2 ⟨fun z => by omega, fun _ => ⟨⟨by omega, by omega⟩, ?_⟩⟩
      have hc : B.1 83 (Lp.length + i) = c.getD i 0 := by
        rw [m.2 (Lp.length + i) (by simp; omega) (by omega), List.append_assoc, List.append_assoc, gd_r, gd_l hi]
      rw [tn, hc]
      refine sM_add m (fun C f' g' m' => ⟨inR_b (by omega) (by omega), ?_⟩)
      rw [show ((Lp.length + i : Nat) : Int) + 1 = ((Lp.length + (i + 1) : Nat) : Int) by omega]
      refine ih C (fr_mo (fr_tr f f') (by decide)) (ff_tr g g') ?_
      have e : c.take (i + 1) = c.take i ++ [c.getD i 0] := by
        rw [List.take_add_one, List.getD_eq_getElem?_getD, List.getElem?_eq_getElem hi]
        rfl
      rw [e, ← List.append_assoc]
      exact m'
  · have full : 59990 ≤ (Lp ++ c ++ Lx).length := by simp; omega
    rw [show min (Lp.length + c.length) 59990 = 59990 by omega]
    refine dwl (P := fun i => ∀ B, fr [55, 83] A B → ff [48] (A.1 55) (B.1 55) → MkR (Lp ++ c ++ Lx) B → Rn (d + 1) mX11_again (fun v A' => v = none ∧ P A') 2 [some (.inr (.inl 55)), some (.inl (((min Lp.length 59990 : Nat) : Int))), some (.inl (((59990 : Nat) : Int))), some (.inl ((i : Int)))] [] B) (a := min Lp.length 59990) (n := 59990) ?_ (fun i _ hi ih => ?_) (Nat.min_le_right _ _) A (fr_mo (fr_rf A) (by decide)) (ff_eq rfl) h
    · intro B f g m
      exact w_X11_again_2 ⟨fun _ => ⟨rfl, hP B f g ((mk_full full).2 m)⟩, fun z => absurd (Int.le_refl _) z⟩
    · intro B f g m
      refine w_X11_again_2 ⟨fun z => by omega, fun _ => ⟨⟨by omega, by omega⟩, ?_⟩⟩
      refine sM_add m (fun C f' g' m' => ⟨inR_b (by omega) (by omega), ?_⟩)
      rw [show (i : Int) + 1 = ((i + 1 : Nat) : Int) by omega]
      exact ih C (fr_mo (fr_tr f f') (by decide)) (ff_tr g g') ((mk_full full).1 m')
/-! powers of a relation -/
theorem rpw_snoc {R : Rel} : ∀ m p q, rpw R (m + 1) p q ↔ ∃ r, rpw R m p r ∧ R r q := by
  intro m
  induction m with
  | zero =>
    intro p q
    constructor
    · rintro ⟨r, r1, r2⟩
      have r2 : r = q := r2
      exact ⟨p, rfl, r2 ▸ r1⟩
    · rintro ⟨r, r1, r2⟩
      have r1 : p = r := r1
      exact ⟨q, r1 ▸ r2, rfl⟩
  | succ m ih =>
    intro p q
    constructor
    · rintro ⟨r, r1, r2⟩
      obtain ⟨u, u1, u2⟩ := (ih r q).1 r2
      exact ⟨u, ⟨r, r1, u1⟩, u2⟩
    · rintro ⟨u, ⟨r, r1, u1⟩, u2⟩
      exact ⟨r, r1, (ih r q).2 ⟨u, u1, u2⟩⟩
theorem pw_11 (R : Rel) (p q : Nat) : pwR R 1 1 p q ↔ R p q := by
  constructor
  · rintro ⟨m, a, b, h⟩
    have e : m = 1 := by omega
    subst e
    obtain ⟨r, r1, r2⟩ := h
    have r2 : r = q := r2
    exact r2 ▸ r1
  · intro h
    exact ⟨1, by omega, Or.inr (by omega), q, h, rfl⟩
theorem pw_01 (R : Rel) (p q : Nat) : (R p q ∨ p = q) ↔ pwR R 0 1 p q := by
  constructor
  · rintro (h | h)
    · exact ⟨1, by omega, Or.inr (by omega), q, h, rfl⟩
    · exact ⟨0, by omega, Or.inr (by omega), h⟩
  · rintro ⟨m, a, b, h⟩
    cases m with
    | zero => exact Or.inr h
    | succ m =>
      have e : m = 0 := by omega
      subst e
      obtain ⟨r, r1, r2⟩ := h
      have r2 : r = q := r2
      exact Or.inl (r2 ▸ r1)
/-- one copy more that must come -/
theorem pw_eq (R : Rel) (k p q : Nat) : (∃ r, pwR R (k : Int) (k : Int) p r ∧ R r q) ↔ pwR R ((k + 1 : Nat) : Int) ((k + 1 : Nat) : Int) p q := by
  constructor
  · rintro ⟨r, ⟨m, a, b, h⟩, r2⟩
    have e : m = k := by omega
    subst e
    exact ⟨m + 1, by omega, Or.inr (by omega), (rpw_snoc m p q).2 ⟨r, h, r2⟩⟩
  · rintro ⟨m, a, b, h⟩
    have e : m = k + 1 := by omega
    subst e
    obtain ⟨r, r1, r2⟩ := (rpw_snoc k p q).1 h
    exact ⟨r, ⟨k, by omega, Or.inr (by omega), r1⟩, r2⟩
/-- one copy more that may come -/
theorem pw_up (R : Rel) (a k p q : Nat) (ha : a ≤ k) : (∃ r, pwR R (a : Int) (k : Int) p r ∧ (R r q ∨ r = q)) ↔ pwR R (a : Int) ((k + 1 : Nat) : Int) p q := by
  constructor
  · rintro ⟨r, ⟨m, a1, b, h⟩, r2 | r2⟩
    · exact ⟨m + 1, by omega, Or.inr (by omega), (rpw_snoc m p q).2 ⟨r, h, r2⟩⟩
    · exact ⟨m, a1, Or.inr (by omega), r2 ▸ h⟩
  · rintro ⟨m, a1, b, h⟩
    by_cases e : m ≤ k
    · exact ⟨q, ⟨m, a1, Or.inr (by omega), h⟩, Or.inr rfl⟩
    · have e : m = k + 1 := by omega
      subst e
      obtain ⟨r, r1, r2⟩ := (rpw_snoc k p q).1 h
      exact ⟨r, ⟨k, by omega, Or.inr (by omega), r1⟩, Or.inl r2⟩
/-- one copy more in front of those without an end -/
theorem pw_in (R : Rel) (a p q : Nat) : (∃ r, R p r ∧ pwR R (a : Int) (-1) r q) ↔ pwR R ((a + 1 : Nat) : Int) (-1) p q := by
  constructor
  · rintro ⟨r, r1, ⟨m, a1, b, h⟩⟩
    exact ⟨m + 1, by omega, Or.inl rfl, r, r1, h⟩
  · rintro ⟨m, a1, b, h⟩
    cases m with
    | zero => omega
    | succ m =>
      obtain ⟨r, r1, r2⟩ := h
      exact ⟨r, r1, m, by omega, Or.inl rfl, r2⟩
