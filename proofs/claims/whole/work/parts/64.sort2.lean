/-- ranks anew, along a sorted row -/
noncomputable def rho (n : Nat) (t : Nat → Int) (w : Nat) (S : Nat → Nat) : Nat → Nat
  | 0 => 0
  | i + 1 => rho n t w S i + onc (¬ Ew n t w (S i) (S (i + 1)))
theorem rho_s (n : Nat) (t : Nat → Int) (w : Nat) (S : Nat → Nat) (i : Nat) : rho n t w S (i + 1) = rho n t w S i + onc (¬ Ew n t w (S i) (S (i + 1))) := rfl
theorem rho_le (n : Nat) (t : Nat → Int) (w : Nat) (S : Nat → Nat) (i : Nat) : rho n t w S i ≤ i := by
  induction i with
  | zero => exact Nat.le_refl _
  | succ i ih =>
    have := onc_le (¬ Ew n t w (S i) (S (i + 1)))
    rw [rho_s]
    omega
theorem rho_two {n : Nat} {t : Nat → Int} {w : Nat} {S G : Nat → Nat} (h : Srt n t w S G) {i : Nat} : ∀ j, i ≤ j → j < n → (rho n t w S i = rho n t w S j ∧ Ew n t w (S i) (S j)) ∨ (rho n t w S i < rho n t w S j ∧ Lw n t w (S i) (S j)) := by
  intro j
  induction j with
  | zero =>
    intro h1 _
    obtain rfl : i = 0 := (by omega)
    exact Or.inl ⟨rfl, ew_rf _ _ _ _⟩
  | succ j ih =>
    intro h1 h2
    by_cases c : i = j + 1
    · rw [c]; exact Or.inl ⟨rfl, ew_rf _ _ _ _⟩
    · have a := ih (by omega) (by omega)
      rw [rho_s]
      by_cases e : Ew n t w (S j) (S (j + 1))
      · rw [onc_0 (fun y => y e), Nat.add_zero]
        rcases a with ⟨a1, a2⟩ | ⟨a1, a2⟩
        · exact Or.inl ⟨a1, ew_tr a2 e⟩
        · exact Or.inr ⟨a1, lw_er a2 e⟩
      · rw [onc_1 e]
        have l : Lw n t w (S j) (S (j + 1)) := by
          rcases lw_tri n t w (S j) (S (j + 1)) with y | y | y
          · exact y
          · exact absurd y e
          · exact absurd y (h.2 j (j + 1) (by omega) h2)
        rcases a with ⟨a1, a2⟩ | ⟨a1, a2⟩
        · exact Or.inr ⟨(by omega), lw_el a2 l⟩
        · exact Or.inr ⟨(by omega), lw_tr a2 l⟩
theorem rho_ok {n : Nat} {t : Nat → Int} {w : Nat} {S G : Nat → Nat} (h : Srt n t w S G) : RkOk n t w (fun p => rho n t w S (G p)) := by
  intro p q hp hq
  have a := h.1.2 p hp
  have b := h.1.2 q hq
  show rho n t w S (G p) < rho n t w S (G q) ↔ _
  by_cases c : G p ≤ G q
  · rcases rho_two h (G q) c b.1 with ⟨y, z⟩ | ⟨y, z⟩
    · rw [a.2, b.2] at z
      exact ⟨fun u => by omega, fun u => absurd z (lw_ne u)⟩
    · rw [a.2, b.2] at z
      exact ⟨fun _ => z, fun _ => y⟩
  · rcases rho_two h (G p) (show G q ≤ G p by omega) a.1 with ⟨y, z⟩ | ⟨y, z⟩
    · rw [a.2, b.2] at z
      exact ⟨fun u => by omega, fun u => absurd (ew_sy z) (lw_ne u)⟩
    · rw [a.2, b.2] at z
      exact ⟨fun u => by omega, fun u => absurd z (lw_as u)⟩
/-- as many ranks as places: the rank is the row -/
theorem rho_full {n : Nat} {t : Nat → Int} (ht : ∀ p, p < n → -1000 < t p) {w : Nat} {S G : Nat → Nat} (h : Srt n t w S G) (hn : 1 ≤ n) (hf : n ≤ w ∨ rho n t w S (n - 1) + 1 = n) : ∀ i, i < n → rho n t w S i = i := by
  rcases hf with hw | hf
  · intro i
    induction i with
    | zero => exact fun _ => rfl
    | succ i ih =>
      intro hi
      rw [rho_s, ih (by omega), onc_1]
      intro e
      have := ew_big ht hw (h.1.1 i (by omega)).1 (h.1.1 (i + 1) hi).1 e
      have e1 := (h.1.1 i (by omega)).2
      have e2 := (h.1.1 (i + 1) hi).2
      rw [this] at e1
      omega
  · have up : ∀ m, m < n → rho n t w S (n - 1) ≤ rho n t w S (n - 1 - m) + m := by
      intro m
      induction m with
      | zero => exact fun _ => Nat.le_refl _
      | succ m ih =>
        intro hm
        have a := ih (by omega)
        have b := rho_s n t w S (n - 1 - (m + 1))
        rw [show n - 1 - (m + 1) + 1 = n - 1 - m by omega] at b
        have := onc_le (¬ Ew n t w (S (n - 1 - (m + 1))) (S (n - 1 - m)))
        omega
    intro i hi
    have a := up (n - 1 - i) (by omega)
    rw [show n - 1 - (n - 1 - i) = i by omega] at a
    have := rho_le n t w S i
    omega
/-- the order of suffixes -/
def Od (t : Nat → Int) (p q : Nat) : Prop := ∃ k, ((∀ j, j < k → t (p + j) = t (q + j)) ∧ t (p + k) ≠ t (q + k)) ∧ t (p + k) < t (q + k)
theorem od_as {t : Nat → Int} {p q : Nat} (h : Od t p q) : ¬ Od t q p := fun h' => by
  obtain ⟨k, ⟨k1, k2⟩, k3⟩ := h
  obtain ⟨m, ⟨m1, m2⟩, m3⟩ := h'
  rcases Nat.lt_trichotomy k m with y | y | y
  · exact k2 (m1 k y).symm
  · rw [y] at k3; omega
  · exact m2 (k1 m y).symm
theorem lw_od {x : Ix} (h1 : TxOk x) {w p q : Nat} (hp : p < ixn x) (hq : q < ixn x) (h : Lw (ixn x) (ixt x) w p q) : Od (ixt x) p q := by
  have hne : p ≠ q := fun e => lw_ne h (by rw [e]; exact ew_rf _ _ _ _)
  obtain ⟨m, m1, m2, m3⟩ := dif_ex h1 hp hq hne
  obtain ⟨k, k1, k2, k3⟩ := h
  have lp := lft_in h1 hp
  have lq := lft_in h1 hq
  have tin : ∀ j, j ≤ m → Tx (ixn x) (ixt x) (p + j) = ixt x (p + j) ∧ Tx (ixn x) (ixt x) (q + j) = ixt x (q + j) := fun j hj => ⟨if_pos (by omega), if_pos (by omega)⟩
  have e : k = m := by
    rcases Nat.lt_trichotomy k m with y | y | y
    · have a := tin k (by omega)
      have b := m1.1 k y
      rw [a.1, a.2, b] at k3
      omega
    · exact y
    · have a := tin m (Nat.le_refl _)
      have b := k2 m y
      rw [a.1, a.2] at b
      exact absurd b m1.2
  rw [e] at k3
  have a := tin m (Nat.le_refl _)
  rw [a.1, a.2] at k3
  exact ⟨m, m1, k3⟩
/-- a sorted row, each one strictly after the one before -/
def Sod (n : Nat) (t : Nat → Int) (S G : Nat → Nat) : Prop := Pn n S G ∧ ∀ i j, i < j → j < n → Od t (S i) (S j)
theorem sod_cnt {n : Nat} {t : Nat → Int} {S G : Nat → Nat} (h : Sod n t S G) {p : Nat} (hp : p < n) : G p = sm (fun q => onc (Od t q p)) n := by
  have a := h.1.2 p hp
  rw [← sm_perm h.1.1 h.1.2 (fun q => onc (Od t q p))]
  have e : ∀ i, i < n → onc (Od t (S i) p) = if i < G p then 1 else 0 := fun i hi => by
    rcases Nat.lt_trichotomy i (G p) with y | y | y
    · have := h.2 i (G p) y a.1
      rw [a.2] at this
      rw [onc_1 this, if_pos y]
    · rw [y, a.2, onc_0 (fun ⟨k, k1, _⟩ => k1.2 rfl), if_neg (Nat.lt_irrefl _)]
    · have := h.2 (G p) i y hi
      rw [a.2] at this
      rw [onc_0 (od_as this), if_neg (by omega)]
  rw [sm_congr e]
  have := ct_range (P := fun i => i < G p) (n := n) (a := 0) (b := G p) (Nat.zero_le _) (by omega) (fun i _ => ⟨fun z => ⟨Nat.zero_le _, z⟩, fun z => z.2⟩)
  exact this.symm
/-- there is one order -/
theorem sod_un {n : Nat} {t : Nat → Int} {S G S' G' : Nat → Nat} (h : Sod n t S G) (h' : Sod n t S' G') : (∀ p, p < n → G p = G' p) ∧ ∀ i, i < n → S i = S' i := by
  have a : ∀ p, p < n → G p = G' p := fun p hp => by rw [sod_cnt h hp, sod_cnt h' hp]
  refine ⟨a, fun i hi => ?_⟩
  have b := h'.1.1 i hi
  have c := a _ b.1
  rw [b.2] at c
  have d := (h.1.2 _ b.1).2
  rw [c] at d
  exact d
theorem srt_sod {x : Ix} (h1 : TxOk x) {w : Nat} {S G : Nat → Nat} (h : Srt (ixn x) (ixt x) w S G) (hr : ∀ i, i < ixn x → rho (ixn x) (ixt x) w S i = i) : Sod (ixn x) (ixt x) S G := by
  refine ⟨h.1, fun i j hij hj => ?_⟩
  rcases rho_two h j (Nat.le_of_lt hij) hj with ⟨y, -⟩ | ⟨-, y⟩
  · rw [hr i (by omega), hr j hj] at y; omega
  · exact lw_od h1 (h.1.1 i (by omega)).1 (h.1.1 j hj).1 y
/-- the places in the order of their second halves -/
theorem half_ok {n : Nat} {t : Nat → Int} (ht : ∀ p, p < n → -1000 < t p) {w : Nat} {S G H : Nat → Nat} (h : Srt n t w S G) (hw : w < n) (a1 : ∀ j, j < w → H j = n - w + j) (a2 : ∀ i, i < n → w ≤ S i → H (w + ct (fun i => w ≤ S i) i) = S i - w) : ∃ HG, Pn n H HG ∧ ∀ i j, i < j → j < n → ¬ Lw n t w (H j + w) (H i + w) := by
  have cnt : ct (fun i => w ≤ S i) n = n - w := by
    have := sm_perm h.1.1 h.1.2 (fun p => if w ≤ p then 1 else 0)
    unfold ct
    rw [this]
    exact ct_range (P := fun p => w ≤ p) (n := n) (a := w) (b := n) (by omega) (Nat.le_refl _) (fun i hi => ⟨fun z => ⟨z, hi⟩, fun z => z.1⟩)
  have clt : ∀ i, i < n → w ≤ S i → ct (fun i => w ≤ S i) i < n - w := fun i hi hs => by
    have : ct (fun i => w ≤ S i) (i + 1) ≤ ct (fun i => w ≤ S i) n := ct_mono _ hi
    rw [ct_s, if_pos hs] at this
    omega
  -- where a place stands
  have at' : ∀ p, ∃ j, p < n → j < n ∧ H j = p ∧ ((n - w ≤ p ∧ j = p - (n - w)) ∨ (p + w < n ∧ j = w + ct (fun i => w ≤ S i) (G (p + w)))) := fun p => by
    by_cases hp : p < n
    · by_cases c : n - w ≤ p
      · exact ⟨p - (n - w), fun _ => ⟨(by omega), by rw [a1 _ (by omega)]; omega, Or.inl ⟨c, rfl⟩⟩⟩
      · have g := h.1.2 (p + w) (by omega)
        have hs : w ≤ S (G (p + w)) := by rw [g.2]; omega
        have := clt _ g.1 hs
        exact ⟨w + ct (fun i => w ≤ S i) (G (p + w)), fun _ => ⟨(by omega), by rw [a2 _ g.1 hs, g.2]; omega, Or.inr ⟨(by omega), rfl⟩⟩⟩
    · exact ⟨0, fun z => absurd z hp⟩
  obtain ⟨hg, hg'⟩ := Classical.axiomOfChoice at'
  obtain ⟨J, hJ⟩ := pigeon (n := n) (f := hg) (fun p hp => (hg' p hp).1) (fun p q hpq hq e => by
    have a := (hg' p (by omega)).2.1
    have b := (hg' q hq).2.1
    rw [e] at a
    omega)
  have hH : ∀ i, i < n → H i = J i := fun i hi => by
    have a := hJ.2 i hi
    have b := (hg' (J i) a.1).2.1
    rw [a.2] at b
    exact b
  refine ⟨hg, ⟨fun i hi => ?_, fun p hp => ⟨(hg' p hp).1, (hg' p hp).2.1⟩⟩, fun i j hij hj => ?_⟩
  · rw [hH i hi]
    exact hJ.2 i hi
  · have ei := hH i (by omega)
    have ej := hH j hj
    obtain ⟨i1, i2⟩ := hJ.2 i (by omega)
    obtain ⟨j1, j2⟩ := hJ.2 j hj
    rw [← ei] at i1 i2
    rw [← ej] at j1 j2
    generalize H i = p at *
    generalize H j = q at *
    obtain ⟨-, -, hp⟩ := hg' p i1
    obtain ⟨-, -, hq⟩ := hg' q j1
    rcases hq with ⟨q1, q2⟩ | ⟨q1, q2⟩
    · rintro ⟨k, k1, k2, k3⟩
      have a : Tx n t (q + w + k) = -1000 := if_neg (by omega)
      have b : Tx n t (p + w + k) = -1000 := by
        rcases hp with ⟨p1, p2⟩ | ⟨p1, p2⟩
        · exact if_neg (by omega)
        · omega
      omega
    · rcases hp with ⟨p1, p2⟩ | ⟨p1, p2⟩
      · rintro ⟨k, k1, k2, k3⟩
        by_cases c : k = 0
        · subst c
          have a : Tx n t (q + w + 0) = t (q + w) := if_pos q1
          have b : Tx n t (p + w + 0) = -1000 := if_neg (by omega)
          have := ht _ q1
          omega
        · have e := k2 0 (by omega)
          have a : Tx n t (q + w + 0) = t (q + w) := if_pos q1
          have b : Tx n t (p + w + 0) = -1000 := if_neg (by omega)
          have := ht _ q1
          omega
      · have gp := h.1.2 _ p1
        have gq := h.1.2 _ q1
        have lt : G (p + w) < G (q + w) := by
          by_cases c : G (p + w) < G (q + w)
          · exact c
          · have : ct (fun i => w ≤ S i) (G (q + w)) ≤ ct (fun i => w ≤ S i) (G (p + w)) := ct_mono _ (by omega)
            omega
        have := h.2 _ _ lt gq.1
        rw [gp.2, gq.2] at this
        exact this
theorem ct_S {n : Nat} {S G : Nat → Nat} (h : Pn n S G) {w : Nat} (hw : w ≤ n) {i : Nat} (hi : i < n) (hs : w ≤ S i) : w + ct (fun i => w ≤ S i) i < n := by
  have cnt : ct (fun i => w ≤ S i) n = n - w := by
    have := sm_perm h.1 h.2 (fun p => if w ≤ p then 1 else 0)
    unfold ct
    rw [this]
    exact ct_range (P := fun p => w ≤ p) (n := n) (a := w) (b := n) (by omega) (Nat.le_refl _) (fun i hi => ⟨fun z => ⟨z, hi⟩, fun z => z.1⟩)
  have : ct (fun i => w ≤ S i) (i + 1) ≤ ct (fun i => w ≤ S i) n := ct_mono _ hi
  rw [ct_s, if_pos hs] at this
  omega
