/-! ===== from a row upwards and downwards: match, square ===== -/
def mup (x : Ix) (m0 r0 : Nat) : Nat → Nat
  | 0 => m0
  | t + 1 => if ixc x (r0 - t) < mup x m0 r0 t then ixc x (r0 - t) else mup x m0 r0 t
def mdn (x : Ix) (m0 r0 : Nat) : Nat → Nat
  | 0 => m0
  | t + 1 => if ixc x (r0 + 1 + t) < mdn x m0 r0 t then ixc x (r0 + 1 + t) else mdn x m0 r0 t
theorem mup_s (x : Ix) (m0 r0 t : Nat) : mup x m0 r0 (t + 1) = if ixc x (r0 - t) < mup x m0 r0 t then ixc x (r0 - t) else mup x m0 r0 t := rfl
theorem mdn_s (x : Ix) (m0 r0 t : Nat) : mdn x m0 r0 (t + 1) = if ixc x (r0 + 1 + t) < mdn x m0 r0 t then ixc x (r0 + 1 + t) else mdn x m0 r0 t := rfl
theorem mup_1 (x : Ix) (m0 r0 t : Nat) : mup x m0 r0 (t + 1) ≤ mup x m0 r0 t ∧ mup x m0 r0 (t + 1) ≤ ixc x (r0 - t) := by
  rw [mup_s]; split <;> omega
theorem mdn_1 (x : Ix) (m0 r0 t : Nat) : mdn x m0 r0 (t + 1) ≤ mdn x m0 r0 t ∧ mdn x m0 r0 (t + 1) ≤ ixc x (r0 + 1 + t) := by
  rw [mdn_s]; split <;> omega
theorem mup_mono (x : Ix) (m0 r0 : Nat) {t t' : Nat} (h : t ≤ t') : mup x m0 r0 t' ≤ mup x m0 r0 t := by
  induction t' with
  | zero =>
    obtain rfl : t = 0 := (by omega)
    exact Nat.le_refl _
  | succ t' ih =>
    by_cases c : t = t' + 1
    · rw [c]; exact Nat.le_refl _
    · exact Nat.le_trans (mup_1 x m0 r0 t').1 (ih (by omega))
theorem mdn_mono (x : Ix) (m0 r0 : Nat) {t t' : Nat} (h : t ≤ t') : mdn x m0 r0 t' ≤ mdn x m0 r0 t := by
  induction t' with
  | zero =>
    obtain rfl : t = 0 := (by omega)
    exact Nat.le_refl _
  | succ t' ih =>
    by_cases c : t = t' + 1
    · rw [c]; exact Nat.le_refl _
    · exact Nat.le_trans (mdn_1 x m0 r0 t').1 (ih (by omega))
theorem mup_ge (x : Ix) (m0 r0 k : Nat) (h0 : k ≤ m0) : ∀ t, (∀ u, u < t → k ≤ ixc x (r0 - u)) → k ≤ mup x m0 r0 t := by
  intro t
  induction t with
  | zero => exact fun _ => h0
  | succ t ih =>
    intro h
    have a := ih (fun u hu => h u (by omega))
    have b := h t (by omega)
    rw [mup_s]; split <;> omega
theorem mdn_ge (x : Ix) (m0 r0 k : Nat) (h0 : k ≤ m0) : ∀ t, (∀ u, u < t → k ≤ ixc x (r0 + 1 + u)) → k ≤ mdn x m0 r0 t := by
  intro t
  induction t with
  | zero => exact fun _ => h0
  | succ t ih =>
    intro h
    have a := ih (fun u hu => h u (by omega))
    have b := h t (by omega)
    rw [mdn_s]; split <;> omega
theorem mup_dif {x : Ix} (h3 : SoOk x) {m0 r0 t : Nat} (hc : ixc x r0 ≤ m0) (h : 1 ≤ t) (ht : t ≤ r0) (hr : r0 < ixn x) : Dif x (ixs x r0) (ixs x (r0 - t)) (mup x m0 r0 t) := by
  obtain ⟨k, k1, -, k3, r, r1, r2, r3⟩ := rows_dif h3 (i := r0 - t) r0 (by omega) hr
  have a : k ≤ mup x m0 r0 t := by
    have := k3 r0 (by omega) (Nat.le_refl _)
    exact mup_ge x m0 r0 k (by omega) t (fun u hu => k3 (r0 - u) (by omega) (by omega))
  have b : mup x m0 r0 t ≤ k := by
    have := mup_mono x m0 r0 (show r0 - r + 1 ≤ t by omega)
    have := (mup_1 x m0 r0 (r0 - r)).2
    rw [show r0 - (r0 - r) = r by omega] at this
    omega
  rw [show mup x m0 r0 t = k by omega]
  exact dif_sy k1
theorem mdn_dif {x : Ix} (h3 : SoOk x) {m0 r0 t : Nat} (hc : r0 + 1 < ixn x → ixc x (r0 + 1) ≤ m0) (h : 1 ≤ t) (ht : r0 + t < ixn x) : Dif x (ixs x r0) (ixs x (r0 + t)) (mdn x m0 r0 t) := by
  obtain ⟨k, k1, -, k3, r, r1, r2, r3⟩ := rows_dif h3 (i := r0) (r0 + t) (by omega) ht
  have a : k ≤ mdn x m0 r0 t := by
    have := k3 (r0 + 1) (by omega) (by omega)
    have := hc (by omega)
    exact mdn_ge x m0 r0 k (by omega) t (fun u hu => k3 (r0 + 1 + u) (by omega) (by omega))
  have b : mdn x m0 r0 t ≤ k := by
    have := mdn_mono x m0 r0 (show r - r0 - 1 + 1 ≤ t by omega)
    have := (mdn_1 x m0 r0 (r - r0 - 1)).2
    rw [show r0 + 1 + (r - r0 - 1) = r by omega] at this
    omega
  rw [show mdn x m0 r0 t = k by omega]
  exact k1
/-- the most that a place shares with another one of a kind -/
def Mt (x : Ix) (p : Nat) (C : Nat → Prop) (b : Nat) : Prop := (∀ q, q < ixn x → q ≠ p → C q → ∀ k, Dif x p q k → k ≤ b) ∧ (b = 0 ∨ ∃ q, q < ixn x ∧ q ≠ p ∧ C q ∧ Dif x p q b)
theorem mt_un {x : Ix} {p : Nat} {C : Nat → Prop} {b b' : Nat} (h : Mt x p C b) (h' : Mt x p C b') : b = b' := by
  have l1 : b ≤ b' := by
    rcases h.2 with z | ⟨q, q1, q2, q3, q4⟩
    · omega
    · exact h'.1 q q1 q2 q3 b q4
  have l2 : b' ≤ b := by
    rcases h'.2 with z | ⟨q, q1, q2, q3, q4⟩
    · omega
    · exact h.1 q q1 q2 q3 b' q4
  omega
theorem mt_of {x : Ix} (h2 : PmOk x) (h3 : SoOk x) {p m0 m1 b : Nat} {C : Nat → Prop} (hp : p < ixn x) (c0 : ixc x (ixr x p) ≤ m0) (c1 : ixr x p + 1 < ixn x → ixc x (ixr x p + 1) ≤ m1) (u : ∀ t, 1 ≤ t → t ≤ ixr x p → C (ixs x (ixr x p - t)) → mup x m0 (ixr x p) t ≤ b) (w : ∀ t, 1 ≤ t → ixr x p + t < ixn x → C (ixs x (ixr x p + t)) → mdn x m1 (ixr x p) t ≤ b) (a : b = 0 ∨ (∃ t, 1 ≤ t ∧ t ≤ ixr x p ∧ C (ixs x (ixr x p - t)) ∧ mup x m0 (ixr x p) t = b) ∨ (∃ t, 1 ≤ t ∧ ixr x p + t < ixn x ∧ C (ixs x (ixr x p + t)) ∧ mdn x m1 (ixr x p) t = b)) : Mt x p C b := by
  have hr := h2.2 p hp
  have U := fun t a b => mup_dif h3 (m0 := m0) (r0 := ixr x p) (t := t) c0 a b hr.1
  have W := fun t a b => mdn_dif h3 (m0 := m1) (r0 := ixr x p) (t := t) c1 a b
  rw [hr.2] at U W
  constructor
  · intro q q1 q2 q3 k q4
    have hq := h2.2 q q1
    have ne : ixr x q ≠ ixr x p := fun e => q2 (by rw [← hq.2, e, hr.2])
    by_cases z : ixr x q < ixr x p
    · have e : ixr x p - (ixr x p - ixr x q) = ixr x q := (by omega)
      have d := U (ixr x p - ixr x q) (by omega) (by omega)
      have le := u (ixr x p - ixr x q) (by omega) (by omega)
      rw [e, hq.2] at d le
      rw [dif_un q4 d]
      exact le q3
    · have e : ixr x p + (ixr x q - ixr x p) = ixr x q := (by omega)
      have d := W (ixr x q - ixr x p) (by omega) (by omega)
      have le := w (ixr x q - ixr x p) (by omega) (by omega)
      rw [e, hq.2] at d le
      rw [dif_un q4 d]
      exact le q3
  · rcases a with a | ⟨t, t1, t2, t3, t4⟩ | ⟨t, t1, t2, t3, t4⟩
    · exact Or.inl a
    · have d := U t t1 t2
      rw [t4] at d
      refine Or.inr ⟨_, (h2.1 _ (by omega)).1, fun e => ?_, t3, d⟩
      have := (h2.1 (ixr x p - t) (by omega)).2
      rw [e] at this
      omega
    · have d := W t t1 t2
      rw [t4] at d
      refine Or.inr ⟨_, (h2.1 _ (by omega)).1, fun e => ?_, t3, d⟩
      have := (h2.1 (ixr x p + t) (by omega)).2
      rw [e] at this
      omega
theorem c_lft {x : Ix} (h1 : TxOk x) (h2 : PmOk x) (h3 : SoOk x) {p : Nat} (hp : p < ixn x) : ixc x (ixr x p) ≤ lft x p ∧ (ixr x p + 1 < ixn x → ixc x (ixr x p + 1) ≤ lft x p) := by
  have hr := h2.2 p hp
  have a := c_le h1 h2 h3 hr.1
  rw [hr.2] at a
  refine ⟨a, fun z => ?_⟩
  have b := c_le' h1 h2 h3 z
  rw [hr.2] at b
  exact b
theorem sX_longestIn {d : Nat} {A : iz_A} {x : Ix} {p e : Nat} {P : Int → iz_A → Prop} (h1 : TxOk x) (h2 : PmOk x) (h3 : SoOk x) (h4 : XI x A) (hp : p < ixn x) (hP : ∀ b, Mt x p (fun q => ixo x q = e) b → P (b : Int) A) : Ci (d + 3) 56 [.inr (.inl 48), .inl (p : Int), .inl (e : Int)] A P := by
  have nb := h1.2.2.1
  have hr := (h2.2 p hp).1
  have lb := lft_bd h1 hp
  have cl := c_lft h1 h2 h3 hp
  refine e_X5_longestIn (sX_left h1 h4 hp ⟨⟨by omega, by omega⟩, ?_⟩)
  rw [tn, (h4.2.2.1 p hp).2.2]
  -- below the row
  have low : ∀ L : Nat, L < 3000 → (∀ t, 1 ≤ t → t ≤ ixr x p → ixo x (ixs x (ixr x p - t)) = e → mup x (lft x p) (ixr x p) t ≤ L) → (L = 0 ∨ ∃ t, 1 ≤ t ∧ t ≤ ixr x p ∧ ixo x (ixs x (ixr x p - t)) = e ∧ mup x (lft x p) (ixr x p) t = L) → Ci (d + 2) 24 [.inr (.inl 5), .inl (p : Int)] A (fun x1 A1 => ((0 : Int) ≤ (p : Int) ∧ (p : Int) < (3000 : Int)) ∧ inR (A1.1 10 ((p : Int)).toNat + 1) ∧ Rn (d + 2) mX5_longestIn (fun v A' => ∃ y, v = some (.inl y) ∧ P y A') 107 [some (.inr (.inl 48)), some (.inl ((p : Int))), some (.inl ((e : Int))), some (.inl ((L : Int))), some (.inl x1), some (.inl (A1.1 10 ((p : Int)).toNat + 1))] [] A1) := by
    intro L L3 u1 u2
    refine sX_left h1 h4 hp ⟨⟨by omega, by omega⟩, ?_⟩
    rw [tn, (h4.2.2.1 p hp).2.2, show (ixr x p : Int) + 1 = ((ixr x p + 1 : Nat) : Int) by omega]
    refine ⟨inR_b (by omega) (by omega), ?_⟩
    have := dwl (P := fun k => ∀ M : Nat, M < 3000 → L ≤ M → (∀ t, 1 ≤ t → t < k - ixr x p → ixo x (ixs x (ixr x p + t)) = e → mdn x (lft x p) (ixr x p) t ≤ M) → (M = L ∨ ∃ t, 1 ≤ t ∧ t < k - ixr x p ∧ ixo x (ixs x (ixr x p + t)) = e ∧ mdn x (lft x p) (ixr x p) t = M) → Rn (d + 2) mX5_longestIn (fun v A' => ∃ y, v = some (.inl y) ∧ P y A') 107 [some (.inr (.inl 48)), some (.inl ((p : Int))), some (.inl ((e : Int))), some (.inl ((M : Int))), some (.inl ((mdn x (lft x p) (ixr x p) (k - ixr x p - 1) : Int))), some (.inl ((k : Int)))] [] A) (a := ixr x p + 1) (n := ixn x) ?_ (fun k ka hk ih => ?_) (by omega) L L3 (Nat.le_refl _) (fun t a b => by omega) (Or.inl rfl)
    · rw [show ixr x p + 1 - ixr x p - 1 = 0 by omega] at this
      exact this
    · intro M M3 lm w1 w2
      refine w_X5_longestIn_107 ?_
      rw [h4.1]
      refine ⟨fun _ => ⟨_, rfl, hP M (mt_of h2 h3 hp cl.1 cl.2 (fun t a b c => Nat.le_trans (u1 t a b c) lm) (fun t a b c => w1 t a (by omega) c) ?_)⟩, fun z => by omega⟩
      rcases w2 with rfl | ⟨t, t1, t2, t3⟩
      · rcases u2 with z | ⟨t, t1⟩
        · exact Or.inl z
        · exact Or.inr (Or.inl ⟨t, t1⟩)
      · exact Or.inr (Or.inr ⟨t, t1, (by omega), t3⟩)
    · intro M M3 lm w1 w2
      have hs := (h2.1 k hk).1
      have ms := mdn_s x (lft x p) (ixr x p) (k - ixr x p - 1)
      rw [show k - ixr x p - 1 + 1 = k - ixr x p by omega, show ixr x p + 1 + (k - ixr x p - 1) = k by omega] at ms
      have m1 := mdn_mono x (lft x p) (ixr x p) (Nat.zero_le (k - ixr x p))
      have m2 : mdn x (lft x p) (ixr x p) 0 = lft x p := rfl
      refine w_X5_longestIn_107 ?_
      rw [h4.1, tn, (h4.2.2.2.2 k hk).1, (h4.2.2.2.2 k hk).2.1, tn, (h4.2.2.1 _ hs).2.1]
      rw [show (if (ixc x k : Int) < (mdn x (lft x p) (ixr x p) (k - ixr x p - 1) : Int) then (ixc x k : Int) else (mdn x (lft x p) (ixr x p) (k - ixr x p - 1) : Int)) = (mdn x (lft x p) (ixr x p) (k - ixr x p) : Int) by rw [ms]; split <;> split <;> omega]
      rw [show ((k + 1 : Nat) : Int) = (k : Int) + 1 by omega, show k + 1 - ixr x p - 1 = k - ixr x p by omega] at ih
      refine ⟨fun z => by omega, fun _ => ⟨fun z => ⟨_, rfl, hP M (mt_of h2 h3 hp cl.1 cl.2 (fun t a b c => Nat.le_trans (u1 t a b c) lm) (fun t a b c => ?_) ?_)⟩, fun z => ⟨⟨by omega, by omega⟩, ⟨by omega, by omega⟩, ⟨by omega, by omega⟩, fun z2 => ⟨inR_b (by omega) (by omega), ih M M3 lm (fun t a b c => ?_) ?_⟩, fun z2 => ⟨inR_b (by omega) (by omega), ?_⟩⟩⟩⟩
      · by_cases y : t < k - ixr x p
        · exact w1 t a y c
        · have := mdn_mono x (lft x p) (ixr x p) (show k - ixr x p - 1 ≤ t by omega)
          omega
      · rcases w2 with rfl | ⟨t, t1, t2, t3⟩
        · rcases u2 with z | ⟨t, t1⟩
          · exact Or.inl z
          · exact Or.inr (Or.inl ⟨t, t1⟩)
        · exact Or.inr (Or.inr ⟨t, t1, (by omega), t3⟩)
      · by_cases y : t < k - ixr x p
        · exact w1 t a y c
        · rw [show ixr x p + t = k by omega] at c
          exact absurd (by rw [c]) z2
      · rcases w2 with rfl | ⟨t, t1, t2, t3⟩
        · exact Or.inl rfl
        · exact Or.inr ⟨t, t1, (by omega), t3⟩
      · have oe : ixo x (ixs x k) = e := (by omega)
        by_cases y : M < mdn x (lft x p) (ixr x p) (k - ixr x p)
        · rw [if_pos (by omega)]
          refine ih _ (by omega) (by omega) (fun t a b c => ?_) (Or.inr ⟨k - ixr x p, (by omega), (by omega), by rw [show ixr x p + (k - ixr x p) = k by omega]; exact oe, rfl⟩)
          by_cases w : t < k - ixr x p
          · have := w1 t a w c
            omega
          · rw [show t = k - ixr x p by omega]; exact Nat.le_refl _
        · rw [if_neg (by omega)]
          refine ih M M3 lm (fun t a b c => ?_) ?_
          · by_cases w : t < k - ixr x p
            · exact w1 t a w c
            · rw [show t = k - ixr x p by omega]; omega
          · rcases w2 with rfl | ⟨t, t1, t2, t3⟩
            · exact Or.inl rfl
            · exact Or.inr ⟨t, t1, (by omega), t3⟩
  -- above the row
  have := upn (P := fun k => k ≤ ixr x p → ∀ L : Nat, L < 3000 → (∀ t, 1 ≤ t → t ≤ ixr x p - k → ixo x (ixs x (ixr x p - t)) = e → mup x (lft x p) (ixr x p) t ≤ L) → (L = 0 ∨ ∃ t, 1 ≤ t ∧ t ≤ ixr x p - k ∧ ixo x (ixs x (ixr x p - t)) = e ∧ mup x (lft x p) (ixr x p) t = L) → Rn (d + 2) mX5_longestIn (fun v A' => ∃ y, v = some (.inl y) ∧ P y A') 23 [some (.inr (.inl 48)), some (.inl ((p : Int))), some (.inl ((e : Int))), some (.inl ((L : Int))), some (.inl ((mup x (lft x p) (ixr x p) (ixr x p - k) : Int))), some (.inl ((k : Int)))] [] A) (a := 0) (b := ixr x p) ?_ (fun k _ hk ih => ?_) (Nat.zero_le _) (Nat.le_refl _) 0 (by omega) (fun t a b => by omega) (Or.inl rfl)
  · rw [Nat.sub_self] at this
    exact this
  · intro _ L L3 u1 u2
    exact w_X5_longestIn_23 ⟨fun _ => low L L3 (fun t a b => u1 t a (by omega)) (by
      rcases u2 with z | ⟨t, t1, t2, t3⟩
      · exact Or.inl z
      · exact Or.inr ⟨t, t1, (by omega), t3⟩), fun z => absurd (Int.le_refl 0) z⟩
  · intro _ L L3 u1 u2
    have hs := (h2.1 k (by omega)).1
    have ms := mup_s x (lft x p) (ixr x p) (ixr x p - (k + 1))
    rw [show ixr x p - (k + 1) + 1 = ixr x p - k by omega, show ixr x p - (ixr x p - (k + 1)) = k + 1 by omega] at ms
    have m1 := mup_mono x (lft x p) (ixr x p) (Nat.zero_le (ixr x p - k))
    have m2 : mup x (lft x p) (ixr x p) 0 = lft x p := rfl
    refine w_X5_longestIn_23 ⟨fun z => by omega, fun _ => ⟨fun z => low L L3 (fun t a b c => ?_) ?_, fun z => ?_⟩⟩
    · by_cases y : t ≤ ixr x p - (k + 1)
      · exact u1 t a y c
      · have := mup_mono x (lft x p) (ixr x p) (show ixr x p - (k + 1) ≤ t by omega)
        omega
    · rcases u2 with z | ⟨t, t1, t2, t3⟩
      · exact Or.inl z
      · exact Or.inr ⟨t, t1, (by omega), t3⟩
    · rw [tn, show (((k + 1 : Nat) : Int) - 1).toNat = k by omega, (h4.2.2.2.2 k (by omega)).1, (h4.2.2.2.2 (k + 1) (by omega)).2.1, tn, (h4.2.2.1 _ hs).2.1]
      rw [show (if (ixc x (k + 1) : Int) < (mup x (lft x p) (ixr x p) (ixr x p - (k + 1)) : Int) then (ixc x (k + 1) : Int) else (mup x (lft x p) (ixr x p) (ixr x p - (k + 1)) : Int)) = (mup x (lft x p) (ixr x p) (ixr x p - k) : Int) by rw [ms]; split <;> split <;> omega]
      rw [show ((k + 1 : Nat) : Int) + -1 = (k : Int) by omega]
      refine ⟨⟨by omega, by omega⟩, inR_b (by omega) (by omega), ⟨by omega, by omega⟩, ⟨by omega, by omega⟩, fun z2 => ⟨inR_b (by omega) (by omega), ih (by omega) L L3 (fun t a b c => ?_) ?_⟩, fun z2 => ⟨inR_b (by omega) (by omega), ih (by omega) _ (by omega) (fun t a b c => ?_) (Or.inr ⟨ixr x p - k, (by omega), Nat.le_refl _, by rw [show ixr x p - (ixr x p - k) = k by omega]; omega, rfl⟩)⟩⟩
      · by_cases y : t ≤ ixr x p - (k + 1)
        · exact u1 t a y c
        · rw [show ixr x p - t = k by omega] at c
          exact absurd (by rw [c]) z2
      · rcases u2 with z | ⟨t, t1, t2, t3⟩
        · exact Or.inl z
        · exact Or.inr ⟨t, t1, (by omega), t3⟩
      · by_cases y : t ≤ ixr x p - (k + 1)
        · have := u1 t a y c
          have := mup_mono x (lft x p) (ixr x p) y
          omega
        · rw [show t = ixr x p - k by omega]; exact Nat.le_refl _
