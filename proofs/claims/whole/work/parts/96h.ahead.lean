/-! ===== what is ahead of a node ===== -/
theorem ah_bs {N : Nat} {t : Nat → Int} {as : Nat → Int → Prop} {A : iz_A} {X C : Nat → Rel} {lo v u : Nat} (h : FmN N t as A X lo v) (a : lo ≤ u) (b : u ≤ v) (p e : Nat) : Ah X C u p e ↔ ∃ q, Bs N t as A X u p q ∧ Af A X C u q e := by
  have hx := h u a b
  by_cases l0 : A.1 43 u = 0
  · have hx' : ∀ p q, X u p q ↔ Bs N t as A X u p q := fun p q => (hx p q).trans ⟨fun w => w.elim (fun w => w.2) (fun w => absurd l0 w.1), fun w => Or.inl ⟨l0, w⟩⟩
    unfold Ah Af
    exact exists_congr fun q => and_congr (hx' p q) ⟨Or.inl, fun w => w.elim id (fun w => absurd l0 w.1)⟩
  · have hx' : ∀ p q, X u p q ↔ pwR (Bs N t as A X u) 1 (-1) p q := fun p q => (hx p q).trans ⟨fun w => w.elim (fun w => absurd w.1 l0) (fun w => w.2), fun w => Or.inr ⟨l0, w⟩⟩
    constructor
    · rintro ⟨q, w1, w2⟩
      obtain ⟨m, m1, _, r⟩ := (hx' p q).1 w1
      cases m with
      | zero => omega
      | succ m =>
        obtain ⟨r', r1, r2⟩ := r
        refine ⟨r', r1, ?_⟩
        cases m with
        | zero =>
          have r2 : r' = q := r2
          exact Or.inl (by rw [r2]; exact w2)
        | succ m => exact Or.inr ⟨l0, q, (hx' r' q).2 ⟨m + 1, by omega, Or.inl rfl, r2⟩, w2⟩
    · rintro ⟨q, w1, w2 | ⟨_, q', w2, w3⟩⟩
      · exact ⟨q, (hx' p q).2 (pw_1 w1), w2⟩
      · exact ⟨q', (hx' p q').2 (pw_tr (pw_1 w1) ((hx' q q').1 w2)), w3⟩
theorem ah_leaf {N : Nat} {t : Nat → Int} {as : Nat → Int → Prop} {A : iz_A} {X C : Nat → Rel} {lo v u i : Nat} (h : FmN N t as A X lo v) (a : lo ≤ u) (b : u ≤ v) (h0 : A.1 39 u = 0) (h1 : A.1 40 u = (i : Int)) (p e : Nat) : Ah X C u p e ↔ ((p < N ∧ 0 ≤ t p ∧ as i (t p)) ∧ Af A X C u (p + 1) e) := by
  rw [ah_bs h a b]
  unfold Bs
  rw [h0, h1, tn]
  constructor
  · rintro ⟨q, (⟨_, w⟩ | ⟨w, _⟩ | ⟨w, _⟩), w2⟩
    · obtain ⟨w1, w3, w4, w5⟩ := w
      rw [w5] at w2
      exact ⟨⟨w1, w3, w4⟩, w2⟩
    · exact absurd w (by decide)
    · exact absurd w (by decide)
  · rintro ⟨⟨w1, w3, w4⟩, w2⟩
    exact ⟨p + 1, Or.inl ⟨rfl, w1, w3, w4, rfl⟩, w2⟩
theorem ah_row {N : Nat} {t : Nat → Int} {as : Nat → Int → Prop} {A : iz_A} {X C : Nat → Rel} {lo v u l : Nat} (h : FmN N t as A X lo v) (hC : FmC A X C lo v) (a : lo ≤ u) (b : u ≤ v) (h0 : A.1 39 u = 1) (h1 : A.1 40 u = (l : Int)) (p e : Nat) : Ah X C u p e ↔ (Ah X C l p e ∨ (¬ A.1 42 l = 0 ∧ Ah X C (u - 1) p e)) := by
  have c := hC u a b (Or.inl h0) l h1
  have cr := c.1
  have cl := c.2.1 h0
  rw [ah_bs h a b]
  unfold Bs
  rw [h0, h1, tn]
  constructor
  · rintro ⟨q, (⟨w, _⟩ | ⟨_, w⟩ | ⟨w, _⟩), w2⟩
    · exact absurd w (by decide)
    · rcases w with ⟨r, r1, r2⟩ | ⟨n0, w⟩ | ⟨n0, w⟩
      · exact Or.inl ⟨r, r1, (cl r e).2 (Or.inl ⟨q, r2, (cr q e).2 w2⟩)⟩
      · exact Or.inl ⟨q, w, (cl q e).2 (Or.inr ⟨n0, w2⟩)⟩
      · exact Or.inr ⟨n0, q, w, (cr q e).2 w2⟩
    · exact absurd w (by decide)
  · rintro (⟨q, w1, w2⟩ | ⟨n0, q, w1, w2⟩)
    · rcases (cl q e).1 w2 with ⟨r, r1, r2⟩ | ⟨n0, w⟩
      · exact ⟨r, Or.inr (Or.inl ⟨rfl, Or.inl ⟨q, w1, r1⟩⟩), (cr r e).1 r2⟩
      · exact ⟨q, Or.inr (Or.inl ⟨rfl, Or.inr (Or.inl ⟨n0, w1⟩)⟩), w⟩
    · exact ⟨q, Or.inr (Or.inl ⟨rfl, Or.inr (Or.inr ⟨n0, w1⟩)⟩), (cr q e).1 w2⟩
theorem ah_or {N : Nat} {t : Nat → Int} {as : Nat → Int → Prop} {A : iz_A} {X C : Nat → Rel} {lo v u l : Nat} (h : FmN N t as A X lo v) (hC : FmC A X C lo v) (a : lo ≤ u) (b : u ≤ v) (h0 : A.1 39 u = 2) (h1 : A.1 40 u = (l : Int)) (p e : Nat) : Ah X C u p e ↔ (Ah X C l p e ∨ Ah X C (u - 1) p e) := by
  have c := hC u a b (Or.inr h0) l h1
  have cr := c.1
  have cl := c.2.2 h0
  rw [ah_bs h a b]
  unfold Bs
  rw [h0, h1, tn]
  constructor
  · rintro ⟨q, (⟨w, _⟩ | ⟨w, _⟩ | ⟨_, w⟩), w2⟩
    · exact absurd w (by decide)
    · exact absurd w (by decide)
    · rcases w with w | w
      · exact Or.inl ⟨q, w, (cl q e).2 w2⟩
      · exact Or.inr ⟨q, w, (cr q e).2 w2⟩
  · rintro (⟨q, w1, w2⟩ | ⟨q, w1, w2⟩)
    · exact ⟨q, Or.inr (Or.inr ⟨rfl, Or.inl w1⟩), (cl q e).1 w2⟩
    · exact ⟨q, Or.inr (Or.inr ⟨rfl, Or.inr w1⟩), (cr q e).1 w2⟩
/-! least and greatest numbers of a set -/
def MnV (S : Nat → Prop) (bd : Nat) (x : Int) : Prop := (∃ l : Nat, x = (l : Int) ∧ l ≤ 3000 ∧ S l ∧ ∀ l', S l' → l ≤ l') ∨ ((∀ l, ¬ S l) ∧ 1000000 ≤ x ∧ x ≤ 1000000 + (bd : Int))
def MxV (S : Nat → Prop) (bd : Nat) (x : Int) : Prop := (∃ l : Nat, x = (l : Int) ∧ l ≤ 3000 ∧ S l ∧ ∀ l', S l' → l' ≤ l) ∨ ((∀ l, ¬ S l) ∧ -1000000 ≤ x ∧ x ≤ -1000000 + (bd : Int))
theorem mnV_iff {S T : Nat → Prop} {bd bd' : Nat} {x : Int} (h : MnV S bd x) (hb : bd ≤ bd') (hS : ∀ l, S l ↔ T l) : MnV T bd' x := by
  rcases h with ⟨l, a, b, c, d⟩ | ⟨a, b, c⟩
  · exact Or.inl ⟨l, a, b, (hS l).1 c, fun l' w => d l' ((hS l').2 w)⟩
  · exact Or.inr ⟨fun l w => a l ((hS l).2 w), b, by omega⟩
theorem mxV_iff {S T : Nat → Prop} {bd bd' : Nat} {x : Int} (h : MxV S bd x) (hb : bd ≤ bd') (hS : ∀ l, S l ↔ T l) : MxV T bd' x := by
  rcases h with ⟨l, a, b, c, d⟩ | ⟨a, b, c⟩
  · exact Or.inl ⟨l, a, b, (hS l).1 c, fun l' w => d l' ((hS l').2 w)⟩
  · exact Or.inr ⟨fun l w => a l ((hS l).2 w), b, by omega⟩
theorem mnV_or {S T : Nat → Prop} {bd : Nat} {x y : Int} (h : MnV S bd x) (h' : MnV T bd y) : MnV (fun l => S l ∨ T l) bd (if y < x then y else x) := by
  rcases h with ⟨l, rfl, b, c, d⟩ | ⟨a, b, c⟩
  · rcases h' with ⟨l', rfl, b', c', d'⟩ | ⟨a', b', c'⟩
    · by_cases e : (l' : Int) < (l : Int)
      · rw [if_pos e]
        exact Or.inl ⟨l', rfl, b', Or.inr c', fun k w => w.elim (fun w => by have := d k w; omega) (d' k)⟩
      · rw [if_neg e]
        exact Or.inl ⟨l, rfl, b, Or.inl c, fun k w => w.elim (d k) (fun w => by have := d' k w; omega)⟩
    · rw [if_neg (by omega)]
      exact Or.inl ⟨l, rfl, b, Or.inl c, fun k w => w.elim (d k) (fun w => absurd w (a' k))⟩
  · rcases h' with ⟨l', rfl, b', c', d'⟩ | ⟨a', b', c'⟩
    · rw [if_pos (by omega)]
      exact Or.inl ⟨l', rfl, b', Or.inr c', fun k w => w.elim (fun w => absurd w (a k)) (d' k)⟩
    · refine Or.inr ⟨fun k w => w.elim (a k) (a' k), ?_, ?_⟩
      · split <;> omega
      · split <;> omega
theorem mxV_or {S T : Nat → Prop} {bd : Nat} {x y : Int} (hb : bd ≤ 3000) (h : MxV S bd x) (h' : MxV T bd y) : MxV (fun l => S l ∨ T l) bd (if x < y then y else x) := by
  rcases h with ⟨l, rfl, b, c, d⟩ | ⟨a, b, c⟩
  · rcases h' with ⟨l', rfl, b', c', d'⟩ | ⟨a', b', c'⟩
    · by_cases e : (l : Int) < (l' : Int)
      · rw [if_pos e]
        exact Or.inl ⟨l', rfl, b', Or.inr c', fun k w => w.elim (fun w => by have := d k w; omega) (d' k)⟩
      · rw [if_neg e]
        exact Or.inl ⟨l, rfl, b, Or.inl c, fun k w => w.elim (d k) (fun w => by have := d' k w; omega)⟩
    · rw [if_neg (by omega)]
      exact Or.inl ⟨l, rfl, b, Or.inl c, fun k w => w.elim (d k) (fun w => absurd w (a' k))⟩
  · rcases h' with ⟨l', rfl, b', c', d'⟩ | ⟨a', b', c'⟩
    · rw [if_pos (by omega)]
      exact Or.inl ⟨l', rfl, b', Or.inr c', fun k w => w.elim (fun w => absurd w (a k)) (d' k)⟩
    · refine Or.inr ⟨fun k w => w.elim (a k) (a' k), ?_, ?_⟩
      · split <;> omega
      · split <;> omega
theorem mnV_up {S : Nat → Prop} {bd : Nat} {x : Int} (h : MnV S bd x) (hS : ∀ l, S l → l + 1 ≤ 3000) : MnV (fun l => ∃ l', l = l' + 1 ∧ S l') (bd + 1) (x + 1) := by
  rcases h with ⟨l, rfl, b, c, d⟩ | ⟨a, b, c⟩
  · exact Or.inl ⟨l + 1, by omega, hS l c, ⟨l, rfl, c⟩, fun k ⟨k', e, w⟩ => by have := d k' w; omega⟩
  · exact Or.inr ⟨fun k ⟨k', _, w⟩ => a k' w, by omega, by omega⟩
theorem mxV_up {S : Nat → Prop} {bd : Nat} {x : Int} (h : MxV S bd x) (hS : ∀ l, S l → l + 1 ≤ 3000) : MxV (fun l => ∃ l', l = l' + 1 ∧ S l') (bd + 1) (x + 1) := by
  rcases h with ⟨l, rfl, b, c, d⟩ | ⟨a, b, c⟩
  · exact Or.inl ⟨l + 1, by omega, hS l c, ⟨l, rfl, c⟩, fun k ⟨k', e, w⟩ => by have := d k' w; omega⟩
  · exact Or.inr ⟨fun k ⟨k', _, w⟩ => a k' w, by omega, by omega⟩
