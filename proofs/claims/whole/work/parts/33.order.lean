/-! ===== rows in order: what two rows share, and runs of rows ===== -/
def Al (x : Ix) (p q k : Nat) : Prop := ∀ j, j < k → ixt x (p + j) = ixt x (q + j)
theorem al_rf (x : Ix) (p k : Nat) : Al x p p k := fun _ _ => rfl
theorem al_sy {x : Ix} {p q k : Nat} (h : Al x p q k) : Al x q p k := fun j hj => (h j hj).symm
theorem al_tr {x : Ix} {p q r k : Nat} (h : Al x p q k) (h' : Al x q r k) : Al x p r k := fun j hj => (h j hj).trans (h' j hj)
theorem al_le {x : Ix} {p q k m : Nat} (h : Al x p q k) (hm : m ≤ k) : Al x p q m := fun j hj => h j (by omega)
theorem dif_al {x : Ix} {p q k m : Nat} (h : Dif x p q k) : Al x p q m ↔ m ≤ k := by
  constructor
  · intro a
    by_cases c : m ≤ k
    · exact c
    · exact absurd (a k (by omega)) h.2
  · intro c j hj
    exact h.1 j (by omega)
theorem dif_un {x : Ix} {p q k m : Nat} (h : Dif x p q k) (h' : Dif x p q m) : k = m := by
  rcases Nat.lt_trichotomy k m with c | c | c
  · exact absurd (h'.1 k c) h.2
  · exact c
  · exact absurd (h.1 m c) h'.2
theorem dif_sy {x : Ix} {p q k : Nat} (h : Dif x p q k) : Dif x q p k := ⟨fun j hj => (h.1 j hj).symm, fun e => h.2 e.symm⟩
theorem lft_in {x : Ix} (h : TxOk x) {p : Nat} (hp : p < ixn x) : p + lft x p = ixF x (ixo x p) + ixl x (ixo x p) ∧ p + lft x p < ixn x ∧ ixo x p < ixm x := by
  obtain ⟨a, b, c, -⟩ := h.2.2.2.2.2.2 p hp
  have := end_lt h a
  unfold lft
  omega
theorem own_in {x : Ix} (h : TxOk x) {p j : Nat} (hp : p < ixn x) (hj : j ≤ lft x p) : ixo x (p + j) = ixo x p := by
  obtain ⟨a, b, c, -⟩ := h.2.2.2.2.2.2 p hp
  have := lft_in h hp
  exact own_of h a (by omega) (by omega)
theorem lft_add {x : Ix} (h : TxOk x) {p j : Nat} (hp : p < ixn x) (hj : j ≤ lft x p) : lft x (p + j) = lft x p - j := by
  have e := own_in h hp hj
  unfold lft at hj ⊢
  rw [e]
  omega
/-- a byte within, an END at the end -/
theorem t_in {x : Ix} (h : TxOk x) {p j : Nat} (hp : p < ixn x) (hj : j < lft x p) : 0 ≤ ixt x (p + j) ∧ ixt x (p + j) < 256 := by
  have e := own_in h hp (Nat.le_of_lt hj)
  have l := lft_in h hp
  obtain ⟨-, -, -, d, -⟩ := h.2.2.2.2.2.2 (p + j) (by omega)
  exact d (by rw [e]; omega)
theorem t_end {x : Ix} (h : TxOk x) {p : Nat} (hp : p < ixn x) : ixt x (p + lft x p) = (ixo x p : Int) - 40 := by
  have e := own_in h hp (Nat.le_refl _)
  have l := lft_in h hp
  obtain ⟨-, -, -, -, d⟩ := h.2.2.2.2.2.2 (p + lft x p) l.2.1
  rw [d (by rw [e]; omega), e]
theorem t_neg {x : Ix} (h : TxOk x) {p : Nat} (hp : p < ixn x) : ixt x p < 0 ↔ lft x p = 0 := by
  constructor
  · intro c
    by_cases z : lft x p = 0
    · exact z
    · have := (t_in h hp (j := 0) (by omega)).1
      rw [Nat.add_zero] at this
      omega
  · intro c
    have := t_end h hp
    rw [c, Nat.add_zero] at this
    have := (lft_in h hp).2.2
    have := h.2.1
    omega
theorem own_end {x : Ix} (h : TxOk x) {p : Nat} (hp : p < ixn x) (hz : ixt x p < 0) : ixt x p = (ixo x p : Int) - 40 ∧ p = ixF x (ixo x p) + ixl x (ixo x p) := by
  have z := (t_neg h hp).1 hz
  have e := t_end h hp
  have l := lft_in h hp
  rw [z, Nat.add_zero] at e
  exact ⟨e, (by omega)⟩
/-- two places that are alike beyond the bytes of one of them are one place -/
theorem al_same {x : Ix} (h : TxOk x) {p q k : Nat} (hp : p < ixn x) (hq : q + k ≤ ixn x) (hk : lft x p < k) (a : Al x p q k) : p = q := by
  have e := a (lft x p) hk
  have e1 := t_end h hp
  have l := lft_in h hp
  have hq' : q + lft x p < ixn x := (by omega)
  have hm := h.2.1
  obtain ⟨f1, f2⟩ := own_end h hq' (by omega)
  have : ixo x (q + lft x p) = ixo x p := (by omega)
  rw [this] at f2
  omega
theorem dif_ex {x : Ix} (h : TxOk x) {p q : Nat} (hp : p < ixn x) (hq : q < ixn x) (hne : p ≠ q) : ∃ k, Dif x p q k ∧ k ≤ lft x p ∧ k ≤ lft x q := by
  have lp := lft_in h hp
  have lq := lft_in h hq
  have big : ∃ m, m ≤ lft x p ∧ m ≤ lft x q ∧ ixt x (p + m) ≠ ixt x (q + m) := by
    by_cases c : lft x p ≤ lft x q
    · refine ⟨lft x p, Nat.le_refl _, c, fun e => ?_⟩
      have e1 := t_end h hp
      have hm := h.2.1
      obtain ⟨f1, f2⟩ := own_end h (p := q + lft x p) (by omega) (by omega)
      have g : ixo x (q + lft x p) = ixo x p := (by omega)
      rw [g] at f2
      omega
    · refine ⟨lft x q, (by omega), Nat.le_refl _, fun e => ?_⟩
      have e1 := t_end h hq
      have hm := h.2.1
      obtain ⟨f1, f2⟩ := own_end h (p := p + lft x q) (by omega) (by omega)
      have g : ixo x (p + lft x q) = ixo x q := (by omega)
      rw [g] at f2
      omega
  obtain ⟨m, m1, m2, m3⟩ := big
  obtain ⟨k, k1, k2, k3⟩ := least_ex (P := fun k => ixt x (p + k) ≠ ixt x (q + k)) m3
  exact ⟨k, ⟨fun j hj => Decidable.of_not_not (k3 j hj), k2⟩, (by omega), (by omega)⟩
theorem dif_le {x : Ix} (h : TxOk x) {p q k : Nat} (hp : p < ixn x) (hq : q < ixn x) (hd : Dif x p q k) : k ≤ lft x p ∧ k ≤ lft x q := by
  have hne : p ≠ q := fun e => hd.2 (by rw [e])
  obtain ⟨m, m1, m2, m3⟩ := dif_ex h hp hq hne
  rw [dif_un hd m1]
  exact ⟨m2, m3⟩
theorem rows_dif {x : Ix} (hs : SoOk x) {i : Nat} : ∀ j, i < j → j < ixn x → ∃ k, Dif x (ixs x i) (ixs x j) k ∧ ixt x (ixs x i + k) < ixt x (ixs x j + k) ∧ (∀ r, i < r → r ≤ j → k ≤ ixc x r) ∧ ∃ r, i < r ∧ r ≤ j ∧ ixc x r = k := by
  intro j
  induction j with
  | zero => intro h; omega
  | succ j ih =>
    intro h1 h2
    obtain ⟨g1, g2⟩ := hs.2 j h2
    by_cases c : i = j
    · subst c
      exact ⟨ixc x (i + 1), g1, g2, fun r r1 r2 => by obtain rfl : r = i + 1 := (by omega); exact Nat.le_refl _, i + 1, (by omega), Nat.le_refl _, rfl⟩
    · obtain ⟨k, k1, k2, k3, r, r1, r2, r3⟩ := ih (by omega) (by omega)
      rcases Nat.lt_trichotomy k (ixc x (j + 1)) with z | z | z
      · refine ⟨k, ⟨fun m hm => (k1.1 m hm).trans (g1.1 m (by omega)), fun e => k1.2 (e.trans (g1.1 k z).symm)⟩, ?_, fun r' a b => ?_, r, r1, (by omega), r3⟩
        · rw [← g1.1 k z]; exact k2
        · by_cases e : r' = j + 1
          · rw [e]; omega
          · exact k3 r' a (by omega)
      · refine ⟨k, ⟨fun m hm => (k1.1 m hm).trans (g1.1 m (by omega)), ?_⟩, ?_, fun r' a b => ?_, r, r1, (by omega), r3⟩
        · rw [← z] at g2; omega
        · rw [← z] at g2; omega
        · by_cases e : r' = j + 1
          · rw [e]; omega
          · exact k3 r' a (by omega)
      · refine ⟨ixc x (j + 1), ⟨fun m hm => (k1.1 m (by omega)).trans (g1.1 m hm), fun e => g1.2 ((k1.1 _ z).symm.trans e)⟩, ?_, fun r' a b => ?_, j + 1, (by omega), Nat.le_refl _, rfl⟩
        · rw [k1.1 _ z]; exact g2
        · by_cases e : r' = j + 1
          · rw [e]; exact Nat.le_refl _
          · have := k3 r' a (by omega)
            omega
theorem c_le {x : Ix} (h1 : TxOk x) (h2 : PmOk x) (h3 : SoOk x) {i : Nat} (hi : i < ixn x) : ixc x i ≤ lft x (ixs x i) := by
  cases i with
  | zero => rw [h3.1]; omega
  | succ i => exact (dif_le h1 (h2.1 i (by omega)).1 (h2.1 _ hi).1 (h3.2 i hi).1).2
theorem c_le' {x : Ix} (h1 : TxOk x) (h2 : PmOk x) (h3 : SoOk x) {i : Nat} (hi : i + 1 < ixn x) : ixc x (i + 1) ≤ lft x (ixs x i) := (dif_le h1 (h2.1 i (by omega)).1 (h2.1 _ hi).1 (h3.2 i hi).1).1
/-- the run of rows around a place whose neighbours share so much -/
def Rg (x : Ix) (p len lo hi : Nat) : Prop := p < ixn x ∧ lo ≤ ixr x p ∧ ixr x p < hi ∧ hi ≤ ixn x ∧ (∀ i, lo < i → i < hi → len ≤ ixc x i) ∧ (0 < lo → ixc x lo < len) ∧ (hi < ixn x → ixc x hi < len)
theorem rg_iff {x : Ix} (h2 : PmOk x) (h3 : SoOk x) {p len lo hi : Nat} (g : Rg x p len lo hi) {i : Nat} (hi' : i < ixn x) : (lo ≤ i ∧ i < hi) ↔ Al x (ixs x i) p len := by
  obtain ⟨g1, g2, g3, g4, g5, g6, g7⟩ := g
  have hp := h2.2 p g1
  rcases Nat.lt_trichotomy i (ixr x p) with c | c | c
  · obtain ⟨k, k1, k2, k3, r, r1, r2, r3⟩ := rows_dif h3 (i := i) (ixr x p) c hp.1
    rw [hp.2] at k1
    rw [dif_al k1]
    constructor
    · intro z
      have := g5 r (by omega) (by omega)
      omega
    · intro z
      refine ⟨?_, (by omega)⟩
      by_cases y : lo ≤ i
      · exact y
      · have := k3 lo (by omega) g2
        have := g6 (by omega)
        omega
  · rw [c, hp.2]
    exact ⟨fun _ => al_rf x p len, fun _ => ⟨g2, g3⟩⟩
  · obtain ⟨k, k1, k2, k3, r, r1, r2, r3⟩ := rows_dif h3 (i := ixr x p) i c hi'
    rw [hp.2] at k1
    rw [show Al x (ixs x i) p len ↔ len ≤ k from dif_al (dif_sy k1)]
    constructor
    · intro z
      have := g5 r (by omega) (by omega)
      omega
    · intro z
      refine ⟨(by omega), ?_⟩
      by_cases y : i < hi
      · exact y
      · have := k3 hi g3 (by omega)
        have := g7 (by omega)
        omega
theorem rg_un {x : Ix} (h2 : PmOk x) (h3 : SoOk x) {p q len lo hi lo' hi' : Nat} (g : Rg x p len lo hi) (g' : Rg x q len lo' hi') (a : Al x p q len) : lo' = lo ∧ hi' = hi := by
  have key : ∀ i, i < ixn x → ((lo ≤ i ∧ i < hi) ↔ (lo' ≤ i ∧ i < hi')) := fun i hi => by
    rw [rg_iff h2 h3 g hi, rg_iff h2 h3 g' hi]
    exact ⟨fun z => al_tr z a, fun z => al_tr z (al_sy a)⟩
  obtain ⟨g1, g2, g3, g4, -⟩ := g
  obtain ⟨f1, f2, f3, f4, -⟩ := g'
  have k1 := (key lo (by omega)).1 ⟨Nat.le_refl _, (by omega)⟩
  have k2 := (key lo' (by omega)).2 ⟨Nat.le_refl _, (by omega)⟩
  have k3 := (key (hi - 1) (by omega)).1 ⟨(by omega), (by omega)⟩
  have k4 := (key (hi' - 1) (by omega)).2 ⟨(by omega), (by omega)⟩
  omega
/-- what a run has within it belongs to it -/
theorem rg_of {x : Ix} (h2 : PmOk x) (h3 : SoOk x) {p q len lo hi : Nat} (g : Rg x p len lo hi) (hq : q < ixn x) (a : Al x p q len) : Rg x q len lo hi := by
  have := (rg_iff h2 h3 g (h2.2 q hq).1).2 (by rw [(h2.2 q hq).2]; exact al_sy a)
  obtain ⟨g1, g2, g3, g4, g5⟩ := g
  exact ⟨hq, this.1, this.2, g4, g5⟩
theorem rg_ex {x : Ix} (h2 : PmOk x) (p len : Nat) (hp : p < ixn x) : ∃ lo hi, Rg x p len lo hi := by
  have hr := (h2.2 p hp).1
  obtain ⟨k, k1, k2, k3⟩ := least_ex (P := fun k => k ≤ ixr x p ∧ (ixr x p - k = 0 ∨ ixc x (ixr x p - k) < len)) (m := ixr x p) ⟨Nat.le_refl _, Or.inl (by omega)⟩
  obtain ⟨m, m1, m2, m3⟩ := least_ex (P := fun k => ixr x p + 1 + k = ixn x ∨ ixc x (ixr x p + 1 + k) < len) (m := ixn x - (ixr x p + 1)) (Or.inl (by omega))
  refine ⟨ixr x p - k, ixr x p + 1 + m, hp, (by omega), (by omega), (by omega), fun i i1 i2 => ?_, fun z => ?_, fun z => ?_⟩
  · by_cases c : i ≤ ixr x p
    · have := k3 (ixr x p - i) (by omega)
      rw [show ixr x p - (ixr x p - i) = i by omega] at this
      omega
    · have := m3 (i - (ixr x p + 1)) (by omega)
      rw [show ixr x p + 1 + (i - (ixr x p + 1)) = i by omega] at this
      omega
  · have := k2.2
    omega
  · omega
theorem sX_behind {d : Nat} {A : iz_A} {t : Nat → Int} {n p q k s : Nat} {P : Int → iz_A → Prop} (hn : A.1 5 8 = (n : Int)) (h3 : n ≤ 3000) (ht : ∀ j, j < n → A.1 6 j = t j) (hp : p + k < n) (hq : q + k < n) (hd : (∀ j, j < k → t (p + j) = t (q + j)) ∧ t (p + k) ≠ t (q + k)) (hs : s ≤ k) (hP : P (k : Int) A) : Ci (d + 1) 19 [.inr (.inl 5), .inl (p : Int), .inl (q : Int), .inl (s : Int)] A P := by
  refine e_X2_alikeBehind ?_
  refine dwn (P := fun r => Rn d mX2_alikeBehind _ 3 [some (.inr (.inl 5)), some (.inl (p : Int)), some (.inl (q : Int)), some (.inl (s : Int)), some (.inl (r : Int))] [] A) (n := k) ?_ (fun r hr ih => ?_) s hs
  · refine w_X2_alikeBehind_3 ?_
    rw [show ((p : Int) + (k : Int)).toNat = p + k by omega, show ((q : Int) + (k : Int)).toNat = q + k by omega, ht _ hp, ht _ hq, hn]
    refine ⟨inR_b (by omega) (by omega), fun z => by omega, fun _ => ⟨inR_b (by omega) (by omega), fun z => by omega, fun _ => ⟨inR_b (by omega) (by omega), ⟨by omega, by omega⟩, inR_b (by omega) (by omega), ⟨by omega, by omega⟩, fun _ => ⟨_, rfl, hP⟩, fun z => absurd z hd.2⟩⟩⟩
  · refine w_X2_alikeBehind_3 ?_
    rw [show ((p : Int) + (r : Int)).toNat = p + r by omega, show ((q : Int) + (r : Int)).toNat = q + r by omega, ht (p + r) (by omega), ht (q + r) (by omega), hn]
    exact ⟨inR_b (by omega) (by omega), fun z => by omega, fun _ => ⟨inR_b (by omega) (by omega), fun z => by omega, fun _ => ⟨inR_b (by omega) (by omega), ⟨by omega, by omega⟩, inR_b (by omega) (by omega), ⟨by omega, by omega⟩, fun z => absurd (hd.1 r hr) z, fun _ => ⟨inR_b (by omega) (by omega), ih⟩⟩⟩⟩
theorem tM_in {x : Ix} {A : iz_A} (h1 : TxOk x) (h5 : MI x A) {p j : Nat} (hp : p < ixn x) (hj : j < lft x p) : A.1 59 (p + j) = ixt x (p + j) := by
  have l := lft_in h1 hp
  rw [(h5.2.2.2.1 (p + j) (by omega)).1, if_neg]
  have := (t_in h1 hp hj).1
  omega
theorem sM_alikeOf {d : Nat} {A : iz_A} {x : Ix} {p q k : Nat} {P : Int → iz_A → Prop} (h1 : TxOk x) (h5 : MI x A) (hp : p < ixn x) (hq : q < ixn x) (hk : k ≤ lft x p ∧ k ≤ lft x q) (ha : Al x p q k) (he : k = lft x p ∨ k = lft x q ∨ ixt x (p + k) ≠ ixt x (q + k)) (hP : P (k : Int) A) : Ci (d + 2) 182 [.inr (.inl 55), .inl (p : Int), .inl (q : Int)] A P := by
  have h3 := h1.2.2.1
  have lp := lft_in h1 hp
  have lq := lft_in h1 hq
  refine e_X11_alikeOf (sM_left h1 h5 hp (sM_left h1 h5 hq ?_))
  have main : ∀ m : Nat, k ≤ m → m ≤ lft x p → m ≤ lft x q → (m = lft x p ∨ m = lft x q) → Rn (d + 1) mX11_alikeOf (fun v A' => ∃ y, v = some (.inl y) ∧ P y A') 30 [some (.inr (.inl 55)), some (.inl (p : Int)), some (.inl (q : Int)), some (.inl (m : Int)), some (.inl ((0 : Nat) : Int))] [] A := fun m m1 m2 m3 m4 => by
    refine dwn (P := fun r => Rn (d + 1) mX11_alikeOf _ 30 [some (.inr (.inl 55)), some (.inl (p : Int)), some (.inl (q : Int)), some (.inl (m : Int)), some (.inl (r : Int))] [] A) (n := k) ?_ (fun r hr ih => ?_) 0 (by omega)
    · refine w_X11_alikeOf_30 ⟨fun _ => ⟨_, rfl, hP⟩, fun z => ?_⟩
      rw [show ((p : Int) + (k : Int)).toNat = p + k by omega, show ((q : Int) + (k : Int)).toNat = q + k by omega, tM_in h1 h5 hp (by omega), tM_in h1 h5 hq (by omega)]
      exact ⟨inR_b (by omega) (by omega), ⟨by omega, by omega⟩, inR_b (by omega) (by omega), ⟨by omega, by omega⟩, fun _ => ⟨_, rfl, hP⟩, fun y => by omega⟩
    · refine w_X11_alikeOf_30 ⟨fun z => by omega, fun z => ?_⟩
      rw [show ((p : Int) + (r : Int)).toNat = p + r by omega, show ((q : Int) + (r : Int)).toNat = q + r by omega, tM_in h1 h5 hp (by omega), tM_in h1 h5 hq (by omega)]
      exact ⟨inR_b (by omega) (by omega), ⟨by omega, by omega⟩, inR_b (by omega) (by omega), ⟨by omega, by omega⟩, fun z => absurd (ha r hr) z, fun _ => ⟨inR_b (by omega) (by omega), ih⟩⟩
  exact ⟨fun z => sM_left h1 h5 hq (main _ (by omega) (by omega) (by omega) (Or.inr rfl)), fun z => sM_left h1 h5 hp (main _ (by omega) (by omega) (by omega) (Or.inl rfl))⟩
theorem b_alike {A : iz_A} {I : iz_A → Prop} {v w : Int} (hx : IdxAt A) (hI : I A) : Bo 122 183 [.inl v, .inl w] [.inl v, .inl w] A I := by
  have bad : ∀ {v w : Int}, (¬ (0 ≤ v ∧ v < A.1 5 8) ∧ ¬ (¬ A.1 55 6 = 0 ∧ 0 ≤ v ∧ v < A.1 55 7)) ∨ (¬ (0 ≤ w ∧ w < A.1 5 8) ∧ ¬ (¬ A.1 55 6 = 0 ∧ 0 ≤ w ∧ w < A.1 55 7)) → Bo 122 183 [.inl v, .inl w] [.inl v, .inl w] A I := fun {v w} hb => by
    refine bo_bad (d := 2) (d' := 2) (by decide) (by decide) hI (fun P hP => ?_) (fun P hP => ?_)
    · refine e_X10_alike (d := 1) (sX_has (fun a b => ⟨fun z => absurd z n10, fun _ => sX_has (fun a2 b2 => ?_) (fun _ => ⟨fun _ => ⟨_, rfl, hP⟩, fun z => absurd rfl z⟩)⟩) (fun _ => ⟨fun _ => ⟨_, rfl, hP⟩, fun z => absurd rfl z⟩))
      omega
    · refine e_X11_alike (d := 1) (sM_isRow (fun a b c => ⟨fun z => absurd z n10, fun _ => sM_isRow (fun a2 b2 c2 => ?_) (fun _ => ⟨fun _ => ⟨_, rfl, hP⟩, fun z => absurd rfl z⟩)⟩) (fun _ => ⟨fun _ => ⟨_, rfl, hP⟩, fun z => absurd rfl z⟩))
      omega
  rcases row_cases v hx with ⟨x, p, ⟨h1, h2, h3, h4, h5⟩, rfl, hp⟩ | hn
  · by_cases hw : 0 ≤ w ∧ w < (ixn x : Int)
    · obtain ⟨q, rfl, hq⟩ := nat_of hw.1 hw.2
      have main : ∀ k : Nat, k ≤ lft x p ∧ k ≤ lft x q → Al x p q k → (k = lft x p ∨ k = lft x q ∨ ixt x (p + k) ≠ ixt x (q + k)) → (∀ P : Int → iz_A → Prop, P (k : Int) A → Ci 3 20 [.inr (.inl 5), .inl (p : Int), .inl (q : Int)] A P) → Bo 122 183 [.inl (p : Int), .inl (q : Int)] [.inl (p : Int), .inl (q : Int)] A I := fun k k1 k2 k3 hX => by
        refine bo_both (d := 4) (d' := 3) (by decide) (by decide) (k : Int) hI (fun P hP => ?_) (fun P hP => ?_)
        · exact e_X10_alike (d := 3) (sX_hasK h4 hp ⟨fun z => absurd z n10, fun _ => sX_hasK h4 hq ⟨fun z => absurd z n10, fun _ => hX _ ⟨_, rfl, hP⟩⟩⟩)
        · exact e_X11_alike (d := 2) (sM_isRowK h5 hp ⟨fun z => absurd z n10, fun _ => sM_isRowK h5 hq ⟨fun z => absurd z n10, fun _ => sM_alikeOf h1 h5 hp hq k1 k2 k3 ⟨_, rfl, hP⟩⟩⟩)
      by_cases c : p = q
      · subst c
        exact main (lft x p) ⟨by omega, by omega⟩ (al_rf _ _ _) (Or.inl rfl) (fun P hP => e_X2_alikeFrom ⟨fun z => absurd rfl z, fun _ => sX_left h1 h4 hp ⟨_, rfl, hP⟩⟩)
      · obtain ⟨k, k1, k2, k3⟩ := dif_ex h1 hp hq c
        have lp := lft_in h1 hp
        have lq := lft_in h1 hq
        exact main k ⟨k2, k3⟩ k1.1 (Or.inr (Or.inr k1.2)) (fun P hP => e_X2_alikeFrom (d := 2) ⟨fun _ => sX_behind (s := 0) h4.1 h1.2.2.1 (fun j hj => (h4.2.2.1 j hj).1) (by omega) (by omega) k1 (Nat.zero_le _) ⟨_, rfl, hP⟩, fun z => by omega⟩)
    · refine bad (Or.inr ⟨?_, ?_⟩)
      · rw [h4.1]; exact hw
      · rw [h5.2.1]; exact fun z => hw z.2
  · exact bad (Or.inl hn)
