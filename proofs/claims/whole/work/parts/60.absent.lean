/-! ===== absent: what is counted ===== -/
noncomputable def onc (P : Prop) : Nat := @ite Nat P (Classical.propDecidable P) 1 0
theorem onc_1 {P : Prop} (h : P) : onc P = 1 := by unfold onc; exact if_pos h
theorem onc_0 {P : Prop} (h : ¬ P) : onc P = 0 := by unfold onc; exact if_neg h
theorem onc_le (P : Prop) : onc P ≤ 1 := by
  by_cases h : P
  · rw [onc_1 h]; exact Nat.le_refl _
  · rw [onc_0 h]; exact Nat.zero_le _
theorem onc_iff {P R : Prop} (h : P ↔ R) : onc P = onc R := by
  by_cases c : P
  · rw [onc_1 c, onc_1 (h.1 c)]
  · rw [onc_0 c, onc_0 (fun z => c (h.2 z))]
/-- a row whose run has not had its byte in front, its byte behind, both -/
def NFr (x : Ix) (m k : Nat) : Prop := m ≤ lft x (ixs x k) ∧ ¬ bef x k = -2 ∧ ∀ k', k' < k → Al x (ixs x k') (ixs x k) m → ¬ bef x k' = bef x k
def NBr (x : Ix) (m k : Nat) : Prop := m < lft x (ixs x k) ∧ ∀ k', k' < k → ¬ Al x (ixs x k') (ixs x k) (m + 1)
def NPr (x : Ix) (m k : Nat) : Prop := ¬ bef x k = -2 ∧ m < lft x (ixs x k) ∧ ∀ k', k' < k → Al x (ixs x k') (ixs x k) (m + 1) → ¬ bef x k' = bef x k
theorem nb_iff {x : Ix} (h3 : SoOk x) {m k : Nat} (hk : k < ixn x) : NBr x m k ↔ ixc x k ≤ m ∧ m < lft x (ixs x k) := by
  constructor
  · rintro ⟨a, b⟩
    refine ⟨?_, a⟩
    cases k with
    | zero => rw [h3.1]; exact Nat.zero_le _
    | succ k =>
      by_cases c : ixc x (k + 1) ≤ m
      · exact c
      · exact absurd ((dif_al (h3.2 k hk).1).2 (by omega)) (b k (by omega))
  · rintro ⟨a, b⟩
    refine ⟨b, fun k' hk' al => ?_⟩
    obtain ⟨d, d1, -, d3, -⟩ := rows_dif h3 (i := k') k hk' hk
    have := d3 k hk' (Nat.le_refl _)
    have := (dif_al d1).1 al
    omega
/-- first row of the run, bytes in front and behind it, and their pairs in the runs before -/
noncomputable def stc (x : Ix) (m : Nat) : Nat → Nat × Nat × Nat × Nat
  | 0 => (0, 0, 0, 0)
  | r + 1 => if ixc x r < m then (r, onc (NFr x m r), onc (NBr x m r), (stc x m r).2.2.2 + (stc x m r).2.1 * (stc x m r).2.2.1) else ((stc x m r).1, (stc x m r).2.1 + onc (NFr x m r), (stc x m r).2.2.1 + onc (NBr x m r), (stc x m r).2.2.2)
theorem stc_s (x : Ix) (m r : Nat) : stc x m (r + 1) = if ixc x r < m then (r, onc (NFr x m r), onc (NBr x m r), (stc x m r).2.2.2 + (stc x m r).2.1 * (stc x m r).2.2.1) else ((stc x m r).1, (stc x m r).2.1 + onc (NFr x m r), (stc x m r).2.2.1 + onc (NBr x m r), (stc x m r).2.2.2) := rfl
theorem sq_sum {f r : Nat} (h : f ≤ r) : f * f + (r - f) * (r - f) ≤ r * r := by
  obtain ⟨g, rfl⟩ : ∃ g, r = f + g := ⟨r - f, (by omega)⟩
  rw [show f + g - f = g by omega, Nat.mul_add, Nat.add_mul, Nat.add_mul]
  have := Nat.zero_le (f * g)
  have := Nat.zero_le (g * f)
  omega
theorem stc_ok (x : Ix) (m : Nat) : ∀ r, (stc x m r).1 ≤ r ∧ (0 < r → (stc x m r).1 < r) ∧ (∀ k, (stc x m r).1 < k → k < r → m ≤ ixc x k) ∧ ((stc x m r).1 = 0 ∨ ixc x (stc x m r).1 < m) ∧ (stc x m r).2.1 ≤ r - (stc x m r).1 ∧ (stc x m r).2.2.1 ≤ r - (stc x m r).1 ∧ (stc x m r).2.2.2 ≤ (stc x m r).1 * (stc x m r).1 := by
  intro r
  induction r with
  | zero => exact ⟨Nat.le_refl _, fun z => absurd z (Nat.lt_irrefl _), fun k a b => by omega, Or.inl rfl, Nat.zero_le _, Nat.zero_le _, Nat.zero_le _⟩
  | succ r ih =>
    obtain ⟨a1, a2, a3, a4, a5, a6, a7⟩ := ih
    have o1 := onc_le (NFr x m r)
    have o2 := onc_le (NBr x m r)
    rw [stc_s]
    by_cases c : ixc x r < m
    · rw [if_pos c]
      refine ⟨(by omega), (by omega), fun k k1 k2 => by omega, Or.inr c, show onc (NFr x m r) ≤ r + 1 - r by omega, show onc (NBr x m r) ≤ r + 1 - r by omega, ?_⟩
      have := Nat.mul_le_mul a5 a6
      have := sq_sum a1
      show _ + _ ≤ r * r
      omega
    · rw [if_neg c]
      refine ⟨show (stc x m r).1 ≤ r + 1 by omega, fun _ => show (stc x m r).1 < r + 1 by omega, fun k k1 k2 => ?_, a4, show (stc x m r).2.1 + _ ≤ r + 1 - (stc x m r).1 by omega, show (stc x m r).2.2.1 + _ ≤ r + 1 - (stc x m r).1 by omega, a7⟩
      by_cases y : k = r
      · rw [y]; omega
      · exact a3 k k1 (by omega)
/-- the pairs of all runs before row r, if a run begins there -/
noncomputable def ptl (x : Ix) (m r : Nat) : Nat := (stc x m r).2.2.2 + (stc x m r).2.1 * (stc x m r).2.2.1
theorem ptl_bd (x : Ix) (m : Nat) {r : Nat} (hr : r ≤ 3000) : (stc x m r).2.1 * (stc x m r).2.2.1 ≤ 9000000 ∧ ptl x m r ≤ 9000000 := by
  obtain ⟨a1, a2, a3, a4, a5, a6, a7⟩ := stc_ok x m r
  have h1 := Nat.mul_le_mul a5 a6
  have h2 := sq_sum a1
  have h3 := Nat.mul_le_mul hr hr
  unfold ptl
  omega
/-- in a run, alike in m bytes means: not before its first row -/
theorem run_al {x : Ix} (h3 : SoOk x) {m f r k : Nat} (hr : r < ixn x) (h0 : f = 0 ∨ ixc x f < m) (h : ∀ j, f < j → j ≤ r → m ≤ ixc x j) (hf : f ≤ r) (hk : k < r) : Al x (ixs x k) (ixs x r) m ↔ f ≤ k := by
  obtain ⟨d, d1, -, d3, j, j1, j2, j3⟩ := rows_dif h3 (i := k) r hk hr
  rw [show Al x (ixs x k) (ixs x r) m ↔ m ≤ d from dif_al d1]
  constructor
  · intro z
    by_cases c : f ≤ k
    · exact c
    · have := d3 f (by omega) hf
      omega
  · intro z
    have := h j (by omega) j2
    omega
/-- two ways to choose one of each class -/
theorem cls_eq {n : Nat} {V M1 M2 : Nat → Prop} {R : Nat → Nat → Prop} (sy : ∀ a b, R a b → R b a) (e1 : ∀ q, q < n → V q → ∃ q', (q' < n ∧ V q' ∧ M1 q' ∧ R q q') ∧ ∀ q'', q'' < n → V q'' → M1 q'' → R q q'' → q'' = q') (e2 : ∀ q, q < n → V q → ∃ q', (q' < n ∧ V q' ∧ M2 q' ∧ R q q') ∧ ∀ q'', q'' < n → V q'' → M2 q'' → R q q'' → q'' = q') : sm (fun q => onc (V q ∧ M1 q)) n = sm (fun q => onc (V q ∧ M2 q)) n := by
  have a1 : ∀ q, q < n → onc (V q ∧ M1 q) = sm (fun p => onc ((V q ∧ M1 q) ∧ (V p ∧ M2 p) ∧ R q p)) n := fun q hq => by
    by_cases c : V q ∧ M1 q
    · obtain ⟨q', ⟨q1, q2, q3, q4⟩, u⟩ := e2 q hq c.1
      rw [onc_1 c, sm_one (k := q') q1 (fun p hp hn => onc_0 (fun z => hn (u p hp z.2.1.1 z.2.1.2 z.2.2))), onc_1 ⟨c, ⟨q2, q3⟩, q4⟩]
    · rw [onc_0 c, sm_z (fun p _ => onc_0 (fun z => c z.1))]
  have a2 : ∀ p, p < n → onc (V p ∧ M2 p) = sm (fun q => onc ((V q ∧ M1 q) ∧ (V p ∧ M2 p) ∧ R q p)) n := fun p hp => by
    by_cases c : V p ∧ M2 p
    · obtain ⟨q', ⟨q1, q2, q3, q4⟩, u⟩ := e1 p hp c.1
      rw [onc_1 c, sm_one (k := q') q1 (fun q hq hn => onc_0 (fun z => hn (u q hq z.1.1 z.1.2 (sy _ _ z.2.2)))), onc_1 ⟨⟨q2, q3⟩, c, sy _ _ q4⟩]
    · rw [onc_0 c, sm_z (fun q _ => onc_0 (fun z => c z.2.1))]
  rw [sm_congr a1, sm_swap, ← sm_congr a2]
noncomputable def npc (x : Ix) (m r : Nat) : Nat := sm (fun k => onc (NPr x m k)) r
theorem npc_s (x : Ix) (m r : Nat) : npc x m (r + 1) = npc x m r + onc (NPr x m r) := rfl
theorem bef_in {x : Ix} (h1 : TxOk x) (h2 : PmOk x) {q : Nat} (hq : q < ixn x) (hl : 1 ≤ lft x q) : q + 1 < ixn x ∧ lft x (q + 1) = lft x q - 1 ∧ bef x (ixr x (q + 1)) = ixt x q ∧ 0 ≤ ixt x q := by
  have lq := lft_in h1 hq
  have hn : q + 1 < ixn x := (by omega)
  have la := lft_add h1 hq (j := 1) hl
  have t0 := (t_in h1 hq (j := 0) (by omega)).1
  rw [Nat.add_zero] at t0
  refine ⟨hn, la, ?_, t0⟩
  have ho := own_in h1 hq (j := 1) hl
  have hF := (h1.2.2.2.2.2.2 q hq).2.1
  unfold bef
  rw [(h2.2 _ hn).2, ho, if_neg (by omega)]
  rfl
theorem bef_out {x : Ix} (h1 : TxOk x) (h2 : PmOk x) {p : Nat} (hp : p < ixn x) (hb : ¬ bef x (ixr x p) = -2) : 1 ≤ p ∧ lft x (p - 1) = lft x p + 1 := by
  obtain ⟨a, b, c, -⟩ := h1.2.2.2.2.2.2 p hp
  unfold bef at hb
  rw [(h2.2 p hp).2] at hb
  have hne : p ≠ ixF x (ixo x p) := fun e => hb (if_pos e)
  refine ⟨(by omega), ?_⟩
  have ho : ixo x (p - 1) = ixo x p := own_of h1 a (by omega) (by omega)
  unfold lft
  rw [ho]
  omega
theorem al_cons {x : Ix} {p q m : Nat} : Al x p q (m + 1) ↔ ixt x p = ixt x q ∧ Al x (p + 1) (q + 1) m := by
  constructor
  · intro a
    have := a 0 (by omega)
    rw [Nat.add_zero, Nat.add_zero] at this
    refine ⟨this, fun j hj => ?_⟩
    have := a (j + 1) (by omega)
    rw [show p + 1 + j = p + (j + 1) by omega, show q + 1 + j = q + (j + 1) by omega]
    exact this
  · rintro ⟨a, b⟩ j hj
    cases j with
    | zero => exact a
    | succ j =>
      have := b j (by omega)
      rw [show p + 1 + j = p + (j + 1) by omega, show q + 1 + j = q + (j + 1) by omega] at this
      exact this
theorem npc_eq {x : Ix} (h1 : TxOk x) (h2 : PmOk x) (h3 : SoOk x) (m : Nat) : npc x m (ixn x) = sm (dfn x ((m + 2 : Nat) : Int)) (ixn x) := by
  have np := n_pos h1
  -- rows of first ones
  have c1 : sm (dfn x ((m + 2 : Nat) : Int)) (ixn x) = sm (fun q => onc (m + 2 ≤ lft x q ∧ ixc x (ixr x q) < m + 2)) (ixn x) := by
    rw [← sm_perm h2.1 h2.2 (fun q => onc (m + 2 ≤ lft x q ∧ ixc x (ixr x q) < m + 2))]
    refine sm_congr fun i hi => ?_
    rw [(h2.1 i hi).2]
    by_cases c : (ixc x i : Int) < ((m + 2 : Nat) : Int) ∧ ((m + 2 : Nat) : Int) ≤ (lft x (ixs x i) : Int)
    · rw [dfn_1 (by omega) c, onc_1 (by omega)]
    · rw [dfn_2 (by omega) c, onc_0 (by omega)]
  -- rows of new pairs
  have c2 : npc x m (ixn x) = sm (fun q => onc (m + 2 ≤ lft x q ∧ NPr x m (ixr x (q + 1)))) (ixn x) := by
    have s1 : npc x m (ixn x) = sm (fun p => onc (NPr x m (ixr x p))) (ixn x) := by
      rw [← sm_perm h2.1 h2.2 (fun p => onc (NPr x m (ixr x p)))]
      exact sm_congr fun i hi => by rw [(h2.1 i hi).2]
    have s2 : ∀ n, n < ixn x → sm (fun p => onc (NPr x m (ixr x p))) (n + 1) = sm (fun q => onc (m + 2 ≤ lft x q ∧ NPr x m (ixr x (q + 1)))) n := by
      intro n
      induction n with
      | zero =>
        intro _
        rw [sm_s]
        show 0 + onc (NPr x m (ixr x 0)) = 0
        rw [onc_0]
        intro z
        have := (bef_out h1 h2 np z.1).1
        omega
      | succ n ih =>
        intro hn
        rw [sm_s, ih (by omega), sm_s]
        congr 1
        refine onc_iff ⟨fun z => ⟨?_, z⟩, fun z => z.2⟩
        have := bef_out h1 h2 hn z.1
        have z2 := z.2.1
        rw [(h2.2 _ hn).2] at z2
        rw [Nat.add_sub_cancel] at this
        omega
    rw [s1]
    have := s2 (ixn x - 1) (by omega)
    rw [show ixn x - 1 + 1 = ixn x by omega] at this
    rw [this]
    have e : ixn x = ixn x - 1 + 1 := (by omega)
    have z : onc (m + 2 ≤ lft x (ixn x - 1) ∧ NPr x m (ixr x (ixn x - 1 + 1))) = 0 := onc_0 (fun y => by
      have := lft_in h1 (p := ixn x - 1) (by omega)
      omega)
    rw [e, sm_s, Nat.add_sub_cancel, z]
    rfl
  rw [c1, c2]
  refine (cls_eq (V := fun q => m + 2 ≤ lft x q) (M1 := fun q => NPr x m (ixr x (q + 1))) (M2 := fun q => ixc x (ixr x q) < m + 2) (R := fun a b => Al x a b (m + 2)) (fun a b h => al_sy h) (fun q hq hv => ?_) (fun q hq hv => ?_))
  · obtain ⟨k, -, ⟨q0, q1, q2, q3, rfl⟩, k3⟩ := least_ex (P := fun k => ∃ q', q' < ixn x ∧ m + 2 ≤ lft x q' ∧ Al x q q' (m + 2) ∧ ixr x (q' + 1) = k) (m := ixr x (q + 1)) ⟨q, hq, hv, al_rf _ _ _, rfl⟩
    obtain ⟨b1, b2, b3, b4⟩ := bef_in h1 h2 q1 (show 1 ≤ lft x q0 by omega)
    refine ⟨q0, ⟨q1, q2, ⟨by rw [b3]; omega, by rw [(h2.2 _ b1).2]; omega, fun k' hk' al eb => ?_⟩, q3⟩, fun q'' p1 p2 p3 p4 => ?_⟩
    · have hk2 : k' < ixn x := by have := (h2.2 _ b1).1; omega
      have hs := h2.1 k' hk2
      have bo := bef_out h1 h2 hs.1 (by rw [hs.2, eb, b3]; omega)
      have hq1 : ixs x k' - 1 < ixn x := (by omega)
      obtain ⟨d1, d2, d3, d4⟩ := bef_in h1 h2 hq1 (show 1 ≤ lft x (ixs x k' - 1) by omega)
      rw [show ixs x k' - 1 + 1 = ixs x k' by omega] at d3
      rw [hs.2] at d3
      rw [(h2.2 _ b1).2] at al
      have al2 : Al x (ixs x k' - 1) q0 (m + 2) := al_cons.2 ⟨by rw [← d3, eb, b3], by rw [show ixs x k' - 1 + 1 = ixs x k' by omega]; exact al⟩
      refine k3 k' hk' ⟨ixs x k' - 1, hq1, al_lft h1 q1 hq1 (al_sy al2) q2, al_tr q3 (al_sy al2), ?_⟩
      rw [show ixs x k' - 1 + 1 = ixs x k' by omega, hs.2]
    · obtain ⟨d1, d2, d3, d4⟩ := bef_in h1 h2 p1 (show 1 ≤ lft x q'' by omega)
      have a2 := al_tr (al_sy q3) p4
      have a3 := al_cons.1 a2
      rcases Nat.lt_trichotomy (ixr x (q'' + 1)) (ixr x (q0 + 1)) with y | y | y
      · exact absurd ⟨q'', p1, p2, p4, rfl⟩ (k3 _ y)
      · have e1 := (h2.2 _ d1).2
        have e2 := (h2.2 _ b1).2
        rw [y, e2] at e1
        omega
      · refine absurd ?_ (p3.2.2 _ y ?_)
        · rw [b3, d3, a3.1]
        · rw [(h2.2 _ d1).2, (h2.2 _ b1).2]
          exact a3.2
  · obtain ⟨lo, hi, g⟩ := rg_ex h2 q (m + 2) hq
    have gi := fun i (h : i < ixn x) => rg_iff h2 h3 g h
    obtain ⟨g1, g2, g3, g4, g5, g6, g7⟩ := id g
    have hs := h2.1 lo (by omega)
    have al := (gi lo (by omega)).1 (by omega)
    refine ⟨ixs x lo, ⟨hs.1, al_lft h1 hq hs.1 (al_sy al) hv, ?_, al_sy al⟩, fun q'' p1 p2 p3 p4 => ?_⟩
    · rw [hs.2]
      by_cases y : lo = 0
      · rw [y, h3.1]; omega
      · exact g6 (by omega)
    · have hr := h2.2 q'' p1
      have := (gi (ixr x q'') hr.1).2 (by rw [hr.2]; exact al_sy p4)
      by_cases y : ixr x q'' = lo
      · rw [← y, hr.2]
      · have := g5 (ixr x q'') (by omega) (by omega)
        omega
