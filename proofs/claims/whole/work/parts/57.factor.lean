/-! ===== factor ===== -/
/-- the first place where so many bytes stand -/
def Lp (x : Ix) (p b a : Nat) : Prop := b = 0 ∨ ((a < ixn x ∧ Al x a p b) ∧ ∀ q, q < ixn x → Al x q p b → a ≤ q)
theorem lp_un {x : Ix} {p b a a' : Nat} (hb : ¬ b = 0) (h : Lp x p b a) (h' : Lp x p b a') : a = a' := by
  rcases h with h | h
  · exact absurd h hb
  · rcases h' with h' | h'
    · exact absurd h' hb
    · have := h.2 a' h'.1.1 h'.1.2
      have := h'.2 a h.1.1 h.1.2
      omega
/-- among the rows of a kind -/
def Li (x : Ix) (p b : Nat) (S : Nat → Prop) (a : Nat) : Prop := (a < ixn x ∧ Al x a p b) ∧ ∀ i, S i → a ≤ ixs x i
theorem li_step {x : Ix} {p b a i : Nat} {S S' : Nat → Prop} (h : Li x p b S a) (hi : ixs x i < ixn x) (ha : Al x (ixs x i) p b) (hS : ∀ j, S' j → S j ∨ j = i) : Li x p b S' (if ixs x i < a then ixs x i else a) := by
  by_cases c : ixs x i < a
  · rw [if_pos c]
    refine ⟨⟨hi, ha⟩, fun j hj => ?_⟩
    rcases hS j hj with z | z
    · have := h.2 j z
      omega
    · rw [z]; exact Nat.le_refl _
  · rw [if_neg c]
    refine ⟨h.1, fun j hj => ?_⟩
    rcases hS j hj with z | z
    · exact h.2 j z
    · rw [z]; omega
theorem li_lp {x : Ix} (h2 : PmOk x) (h3 : SoOk x) {p b a lo hi : Nat} (g : Rg x p b lo hi) (h : Li x p b (fun i => lo ≤ i ∧ i < hi) a) : Lp x p b a := by
  refine Or.inr ⟨h.1, fun q hq al => ?_⟩
  have hr := h2.2 q hq
  have := (rg_iff h2 h3 g hr.1).2 (by rw [hr.2]; exact al)
  have := h.2 (ixr x q) this
  rw [hr.2] at this
  exact this
theorem sX_leastEarlier {d : Nat} {A : iz_A} {x : Ix} {p b : Nat} {P : Int → iz_A → Prop} (h1 : TxOk x) (h2 : PmOk x) (h3 : SoOk x) (h4 : XI x A) (hp : p < ixn x) (hb : A.1 49 p = (b : Int)) (h0 : b = 0 → P (-2) A) (hP : ¬ b = 0 → ∀ a : Nat, Lp x p b a → P (a : Int) A) : Ci (d + 1) 49 [.inr (.inl 48), .inl (p : Int)] A P := by
  have nb := h1.2.2.1
  have hr := h2.2 p hp
  obtain ⟨lo, hi, g⟩ := rg_ex h2 p b hp
  have gi := fun i (h : i < ixn x) => rg_iff h2 h3 g h
  obtain ⟨g1, g2, g3, g4, g5, g6, g7⟩ := id g
  refine e_X5_leastEarlier ⟨⟨by omega, by omega⟩, ?_⟩
  rw [tn, hb, (h4.2.2.1 p hp).2.2]
  refine ⟨fun z => ⟨⟨by omega, by omega⟩, ?_⟩, fun z => ⟨_, rfl, h0 (by omega)⟩⟩
  have low : ∀ a : Nat, Li x p b (fun i => lo ≤ i ∧ i < ixr x p + 1) a → ((0 : Int) ≤ (p : Int) ∧ (p : Int) < (3000 : Int)) ∧ inR (A.1 10 ((p : Int)).toNat + 1) ∧ Rn d mX5_leastEarlier (fun v A' => ∃ y, v = some (.inl y) ∧ P y A') 80 [some (.inr (.inl 48)), some (.inl ((p : Int))), some (.inl ((a : Int))), some (.inl (A.1 10 ((p : Int)).toNat + 1))] [] A := by
    intro a ha
    rw [tn, (h4.2.2.1 p hp).2.2, show (ixr x p : Int) + 1 = ((ixr x p + 1 : Nat) : Int) by omega]
    refine ⟨⟨by omega, by omega⟩, inR_b (by omega) (by omega), ?_⟩
    refine dwl (P := fun k => ∀ a : Nat, Li x p b (fun i => lo ≤ i ∧ i < k) a → Rn d mX5_leastEarlier (fun v A' => ∃ y, v = some (.inl y) ∧ P y A') 80 [some (.inr (.inl 48)), some (.inl ((p : Int))), some (.inl ((a : Int))), some (.inl ((k : Int)))] [] A) (a := ixr x p + 1) (n := hi) ?_ (fun k ka hk ih => ?_) (by omega) a ha
    · intro a ha
      have fin := hP (by omega) a (li_lp h2 h3 g ha)
      refine w_X5_leastEarlier_80 ?_
      rw [h4.1, tn, tn, hb]
      refine ⟨fun _ => ⟨_, rfl, fin⟩, fun z => ⟨⟨by omega, by omega⟩, ⟨by omega, by omega⟩, fun _ => ⟨_, rfl, fin⟩, fun z2 => ?_⟩⟩
      rw [(h4.2.2.2.2 hi (by omega)).2.1] at z2
      have := g7 (by omega)
      omega
    · intro a ha
      have := g5 k (by omega) (by omega)
      refine w_X5_leastEarlier_80 ?_
      rw [h4.1, tn, tn, hb, (h4.2.2.2.2 k (by omega)).2.1, (h4.2.2.2.2 k (by omega)).1]
      rw [show (if (ixs x k : Int) < (a : Int) then (ixs x k : Int) else (a : Int)) = ((if ixs x k < a then ixs x k else a : Nat) : Int) by split <;> split <;> omega]
      refine ⟨fun z => by omega, fun _ => ⟨⟨by omega, by omega⟩, ⟨by omega, by omega⟩, fun z => by omega, fun _ => ⟨⟨by omega, by omega⟩, inR_b (by omega) (by omega), ?_⟩⟩⟩
      exact ih _ (li_step ha (h2.1 k (by omega)).1 ((gi k (by omega)).1 (by omega)) (fun j hj => by
        by_cases w : j = k
        · exact Or.inr w
        · exact Or.inl ⟨hj.1, by have := hj.2; omega⟩))
  refine upn (P := fun k => ∀ a : Nat, Li x p b (fun i => k ≤ i ∧ i < ixr x p + 1) a → Rn d mX5_leastEarlier (fun v A' => ∃ y, v = some (.inl y) ∧ P y A') 24 [some (.inr (.inl 48)), some (.inl ((p : Int))), some (.inl ((a : Int))), some (.inl ((k : Int)))] [] A) (a := lo) (b := ixr x p) ?_ (fun k ka hk ih => ?_) g2 p ⟨⟨hp, al_rf _ _ _⟩, fun i hi => by rw [show i = ixr x p by omega, hr.2]; exact Nat.le_refl _⟩
  · intro a ha
    have lw := low a ha
    refine w_X5_leastEarlier_24 ⟨fun _ => lw, fun z => ⟨⟨by omega, by omega⟩, ⟨by omega, by omega⟩, fun _ => lw, fun z2 => ?_⟩⟩
    rw [tn, tn, hb, (h4.2.2.2.2 lo (by omega)).2.1] at z2
    have := g6 (by omega)
    omega
  · intro a ha
    have := g5 (k + 1) (by omega) (by omega)
    refine w_X5_leastEarlier_24 ⟨fun z => by omega, fun z => ⟨⟨by omega, by omega⟩, ⟨by omega, by omega⟩, fun z2 => ?_, fun z2 => ?_⟩⟩
    · rw [tn, tn, hb, (h4.2.2.2.2 (k + 1) (by omega)).2.1] at z2
      omega
    · rw [show (((k + 1 : Nat) : Int) - 1).toNat = k by omega, (h4.2.2.2.2 k (by omega)).1, show ((k + 1 : Nat) : Int) + -1 = (k : Int) by omega]
      rw [show (if (ixs x k : Int) < (a : Int) then (ixs x k : Int) else (a : Int)) = ((if ixs x k < a then ixs x k else a : Nat) : Int) by split <;> split <;> omega]
      refine ⟨inR_b (by omega) (by omega), ⟨by omega, by omega⟩, inR_b (by omega) (by omega), ?_⟩
      exact ih _ (li_step ha (h2.1 k (by omega)).1 ((gi k (by omega)).1 (by omega)) (fun j hj => by
        by_cases w : j = k
        · exact Or.inr w
        · exact Or.inl ⟨by have := hj.1; omega, hj.2⟩))
