/-! ===== sorting: what is shown of it ===== -/
/-- beyond the end a sign that is less than all -/
def Tx (n : Nat) (t : Nat → Int) (p : Nat) : Int := if p < n then t p else -1000
def Ew (n : Nat) (t : Nat → Int) (w p q : Nat) : Prop := ∀ j, j < w → Tx n t (p + j) = Tx n t (q + j)
def Lw (n : Nat) (t : Nat → Int) (w p q : Nat) : Prop := ∃ k, k < w ∧ Ew n t k p q ∧ Tx n t (p + k) < Tx n t (q + k)
theorem ew_rf (n : Nat) (t : Nat → Int) (w p : Nat) : Ew n t w p p := fun _ _ => rfl
theorem ew_sy {n : Nat} {t : Nat → Int} {w p q : Nat} (h : Ew n t w p q) : Ew n t w q p := fun j hj => (h j hj).symm
theorem ew_tr {n : Nat} {t : Nat → Int} {w p q r : Nat} (h : Ew n t w p q) (h' : Ew n t w q r) : Ew n t w p r := fun j hj => (h j hj).trans (h' j hj)
theorem ew_le {n : Nat} {t : Nat → Int} {w v p q : Nat} (h : Ew n t w p q) (hv : v ≤ w) : Ew n t v p q := fun j hj => h j (by omega)
theorem lw_tri (n : Nat) (t : Nat → Int) (w p q : Nat) : Lw n t w p q ∨ Ew n t w p q ∨ Lw n t w q p := by
  by_cases c : ∃ k, k < w ∧ Tx n t (p + k) ≠ Tx n t (q + k)
  · obtain ⟨m, hm⟩ := c
    obtain ⟨k, -, k2, k3⟩ := least_ex (P := fun k => k < w ∧ Tx n t (p + k) ≠ Tx n t (q + k)) hm
    have e : Ew n t k p q := fun j hj => Decidable.of_not_not (fun y => k3 j hj ⟨(by omega), y⟩)
    rcases Int.lt_trichotomy (Tx n t (p + k)) (Tx n t (q + k)) with y | y | y
    · exact Or.inl ⟨k, k2.1, e, y⟩
    · exact absurd y k2.2
    · exact Or.inr (Or.inr ⟨k, k2.1, ew_sy e, y⟩)
  · exact Or.inr (Or.inl (fun j hj => Decidable.of_not_not (fun y => c ⟨j, hj, y⟩)))
theorem lw_ne {n : Nat} {t : Nat → Int} {w p q : Nat} (h : Lw n t w p q) : ¬ Ew n t w p q := fun e => by
  obtain ⟨k, k1, k2, k3⟩ := h
  have := e k k1
  omega
theorem lw_as {n : Nat} {t : Nat → Int} {w p q : Nat} (h : Lw n t w p q) : ¬ Lw n t w q p := fun h' => by
  obtain ⟨k, k1, k2, k3⟩ := h
  obtain ⟨m, m1, m2, m3⟩ := h'
  rcases Nat.lt_trichotomy k m with y | y | y
  · have := m2 k y
    omega
  · rw [y] at k3; omega
  · have := k2 m y
    omega
theorem lw_tr {n : Nat} {t : Nat → Int} {w p q r : Nat} (h : Lw n t w p q) (h' : Lw n t w q r) : Lw n t w p r := by
  obtain ⟨k, k1, k2, k3⟩ := h
  obtain ⟨m, m1, m2, m3⟩ := h'
  rcases Nat.lt_trichotomy k m with y | y | y
  · exact ⟨k, k1, ew_tr k2 (ew_le m2 (by omega)), by rw [← m2 k y]; exact k3⟩
  · subst y
    exact ⟨k, k1, ew_tr k2 m2, (by omega)⟩
  · exact ⟨m, m1, ew_tr (ew_le k2 (by omega)) m2, by rw [k2 m y]; exact m3⟩
theorem lw_el {n : Nat} {t : Nat → Int} {w p q r : Nat} (h : Ew n t w p q) (h' : Lw n t w q r) : Lw n t w p r := by
  obtain ⟨m, m1, m2, m3⟩ := h'
  exact ⟨m, m1, ew_tr (ew_le h (by omega)) m2, by rw [h m m1]; exact m3⟩
theorem lw_er {n : Nat} {t : Nat → Int} {w p q r : Nat} (h : Lw n t w p q) (h' : Ew n t w q r) : Lw n t w p r := by
  obtain ⟨m, m1, m2, m3⟩ := h
  exact ⟨m, m1, ew_tr m2 (ew_le h' (by omega)), by rw [← h' m m1]; exact m3⟩
theorem ew_add {n : Nat} {t : Nat → Int} {w v p q : Nat} : Ew n t (w + v) p q ↔ Ew n t w p q ∧ Ew n t v (p + w) (q + w) := by
  constructor
  · refine fun h => ⟨fun j hj => h j (by omega), fun j hj => ?_⟩
    have := h (w + j) (by omega)
    rw [show p + w + j = p + (w + j) by omega, show q + w + j = q + (w + j) by omega]
    exact this
  · rintro ⟨a, b⟩ j hj
    by_cases c : j < w
    · exact a j c
    · have := b (j - w) (by omega)
      rw [show p + w + (j - w) = p + j by omega, show q + w + (j - w) = q + j by omega] at this
      exact this
theorem lw_add {n : Nat} {t : Nat → Int} {w v p q : Nat} : Lw n t (w + v) p q ↔ Lw n t w p q ∨ (Ew n t w p q ∧ Lw n t v (p + w) (q + w)) := by
  constructor
  · rintro ⟨k, k1, k2, k3⟩
    by_cases c : k < w
    · exact Or.inl ⟨k, c, k2, k3⟩
    · have e := ew_add (n := n) (t := t) (w := w) (v := k - w) (p := p) (q := q)
      rw [show w + (k - w) = k by omega] at e
      obtain ⟨a, b⟩ := e.1 k2
      exact Or.inr ⟨a, k - w, (by omega), b, by rw [show p + w + (k - w) = p + k by omega, show q + w + (k - w) = q + k by omega]; exact k3⟩
  · rintro (⟨k, k1, k2, k3⟩ | ⟨a, k, k1, k2, k3⟩)
    · exact ⟨k, (by omega), k2, k3⟩
    · exact ⟨w + k, (by omega), ew_add.2 ⟨a, k2⟩, by rw [show p + (w + k) = p + w + k by omega, show q + (w + k) = q + w + k by omega]; exact k3⟩
/-- beyond the whole text two places are never equal -/
theorem ew_big {n : Nat} {t : Nat → Int} (ht : ∀ p, p < n → -1000 < t p) {w p q : Nat} (hw : n ≤ w) (hp : p < n) (hq : q < n) (h : Ew n t w p q) : p = q := by
  rcases Nat.lt_trichotomy p q with y | y | y
  · have := h (n - q) (by omega)
    unfold Tx at this
    rw [if_pos (show p + (n - q) < n by omega), if_neg (show ¬ q + (n - q) < n by omega)] at this
    have := ht (p + (n - q)) (by omega)
    omega
  · exact y
  · have := h (n - p) (by omega)
    unfold Tx at this
    rw [if_neg (show ¬ p + (n - p) < n by omega), if_pos (show q + (n - p) < n by omega)] at this
    have := ht (q + (n - p)) (by omega)
    omega
/-- ranks tell the order by w signs -/
def RkOk (n : Nat) (t : Nat → Int) (w : Nat) (R : Nat → Nat) : Prop := ∀ p q, p < n → q < n → (R p < R q ↔ Lw n t w p q)
theorem rk_eq {n : Nat} {t : Nat → Int} {w : Nat} {R : Nat → Nat} (h : RkOk n t w R) {p q : Nat} (hp : p < n) (hq : q < n) : R p = R q ↔ Ew n t w p q := by
  have a := h p q hp hq
  have b := h q p hq hp
  constructor
  · intro e
    rcases lw_tri n t w p q with y | y | y
    · have := a.2 y; omega
    · exact y
    · have := b.2 y; omega
  · intro e
    rcases Nat.lt_trichotomy (R p) (R q) with y | y | y
    · exact absurd e (lw_ne (a.1 y))
    · exact y
    · exact absurd (ew_sy e) (lw_ne (b.1 y))
def rx (n : Nat) (R : Nat → Nat) (p : Nat) : Int := if p < n then (R p : Int) else -2
theorem rx_eq {n : Nat} {t : Nat → Int} (ht : ∀ p, p < n → -1000 < t p) {w : Nat} (hw : 1 ≤ w) {R : Nat → Nat} (h : RkOk n t w R) (p q : Nat) : rx n R p = rx n R q ↔ Ew n t w p q := by
  unfold rx
  by_cases a : p < n
  · by_cases b : q < n
    · rw [if_pos a, if_pos b, ← rk_eq h a b]
      omega
    · rw [if_pos a, if_neg b]
      refine ⟨fun y => by omega, fun y => ?_⟩
      have := y 0 hw
      unfold Tx at this
      rw [if_pos (show p + 0 < n from a), if_neg (show ¬ q + 0 < n from b)] at this
      have := ht (p + 0) a
      omega
  · by_cases b : q < n
    · rw [if_neg a, if_pos b]
      refine ⟨fun y => by omega, fun y => ?_⟩
      have := y 0 hw
      unfold Tx at this
      rw [if_neg (show ¬ p + 0 < n from a), if_pos (show q + 0 < n from b)] at this
      have := ht (q + 0) b
      omega
    · rw [if_neg a, if_neg b]
      refine ⟨fun _ j hj => ?_, fun _ => rfl⟩
      unfold Tx
      rw [if_neg (show ¬ p + j < n by omega), if_neg (show ¬ q + j < n by omega)]
/-- a row of numbers and its inverse -/
def Pn (n : Nat) (S G : Nat → Nat) : Prop := (∀ i, i < n → S i < n ∧ G (S i) = i) ∧ ∀ p, p < n → G p < n ∧ S (G p) = p
/-- different numbers, as many as there can be: none is missing -/
theorem pigeon {n : Nat} {f : Nat → Nat} (h1 : ∀ i, i < n → f i < n) (h2 : ∀ i j, i < j → j < n → f i ≠ f j) : ∃ G, Pn n f G := by
  have inj : ∀ i j, i < n → j < n → f i = f j → i = j := fun i j hi hj e => by
    rcases Nat.lt_trichotomy i j with y | y | y
    · exact absurd e (h2 i j y hj)
    · exact y
    · exact absurd e.symm (h2 j i y hi)
  have s1 : sm (fun i => sm (fun p => if f i = p then 1 else 0) n) n = n := by
    rw [sm_congr (g := fun _ => 1) (fun i hi => by rw [sm_one (k := f i) (h1 i hi) (fun p _ hp => if_neg (fun e => hp e.symm)), if_pos rfl])]
    have : ∀ m, sm (fun _ => 1) m = m := fun m => by
      induction m with
      | zero => rfl
      | succ m ih => rw [sm_s, ih]
    exact this n
  rw [sm_swap] at s1
  have le : ∀ p, p < n → sm (fun i => if f i = p then 1 else 0) n ≤ 1 := fun p hp => by
    by_cases c : ∃ i, i < n ∧ f i = p
    · obtain ⟨i, hi, e⟩ := c
      rw [sm_one (k := i) hi (fun j hj hn => if_neg (fun e' => hn (inj j i hj hi (by rw [e', e]))))]
      split <;> omega
    · rw [sm_z (fun i hi => if_neg (fun e => c ⟨i, hi, e⟩))]
      exact Nat.zero_le _
  have full : ∀ m (g : Nat → Nat), (∀ p, p < m → g p ≤ 1) → sm g m = m → ∀ p, p < m → g p = 1 := by
    intro m
    induction m with
    | zero => intro g _ _ p hp; omega
    | succ m ih =>
      intro g hg hs p hp
      rw [sm_s] at hs
      have a := hg m (by omega)
      have b : sm g m ≤ m := by
        have := sm_le (f := g) (g := fun _ => 1) (n := m) (fun i hi => hg i (by omega))
        have e : ∀ m, sm (fun _ => 1) m = m := fun m => by
          induction m with
          | zero => rfl
          | succ m ih => rw [sm_s, ih]
        rw [e] at this
        exact this
      by_cases c : p = m
      · rw [c]; omega
      · exact ih g (fun q hq => hg q (by omega)) (by omega) p (by omega)
  have one := full n _ le s1
  have ex : ∀ p, ∃ i, p < n → i < n ∧ f i = p := fun p => by
    by_cases hp : p < n
    · refine Classical.byContradiction fun c => ?_
      have := one p hp
      rw [sm_z (fun i hi => if_neg (fun e => c ⟨i, fun _ => ⟨hi, e⟩⟩))] at this
      omega
    · exact ⟨0, fun z => absurd z hp⟩
  obtain ⟨G, hG⟩ := Classical.axiomOfChoice ex
  exact ⟨G, fun i hi => ⟨h1 i hi, inj _ _ (hG (f i) (h1 i hi)).1 hi (hG (f i) (h1 i hi)).2⟩, hG⟩
/-- how many have a lesser rank -/
def cl (R : Nat → Nat) (n k : Nat) : Nat := ct (fun p => R p < k) n
theorem cl_s (R : Nat → Nat) (n k : Nat) : cl R n (k + 1) = cl R n k + ct (fun p => R p + 1 = k + 1) n := by
  unfold cl ct
  rw [← sm_add]
  refine sm_congr fun i _ => ?_
  rcases Nat.lt_trichotomy (R i) k with y | y | y
  · rw [if_pos (show R i < k + 1 by omega), if_pos y, if_neg (show ¬ R i + 1 = k + 1 by omega)]
  · rw [if_pos (show R i < k + 1 by omega), if_neg (show ¬ R i < k by omega), if_pos (show R i + 1 = k + 1 by omega)]
  · rw [if_neg (show ¬ R i < k + 1 by omega), if_neg (show ¬ R i < k by omega), if_neg (show ¬ R i + 1 = k + 1 by omega)]
theorem cl_0 (R : Nat → Nat) (n : Nat) : cl R n 0 = 0 := ct_0 fun i _ z => by omega
theorem cl_mono (R : Nat → Nat) (n : Nat) {j k : Nat} (h : j ≤ k) : cl R n j ≤ cl R n k := ct_sub fun p _ z => by omega
theorem cl_le (R : Nat → Nat) (n k : Nat) : cl R n k ≤ n := ct_le _ _
/-- where the j-th of a row comes when it is sorted by rank -/
def pos (R H : Nat → Nat) (n j : Nat) : Nat := cl R n (R (H j)) + ct (fun i => R (H i) = R (H j)) j
theorem ct_H {n : Nat} {H HG : Nat → Nat} (h : Pn n H HG) (R : Nat → Nat) (k : Nat) : ct (fun i => R (H i) = k) n = ct (fun p => R p + 1 = k + 1) n := by
  have := sm_perm h.1 h.2 (fun p => if R p + 1 = k + 1 then 1 else 0)
  unfold ct
  rw [← this]
  refine sm_congr fun i _ => ?_
  by_cases c : R (H i) = k
  · rw [if_pos c, if_pos (show R (H i) + 1 = k + 1 by omega)]
  · rw [if_neg c, if_neg (show ¬ R (H i) + 1 = k + 1 by omega)]
theorem pos_up {n : Nat} {H HG : Nat → Nat} (h : Pn n H HG) (R : Nat → Nat) {j : Nat} (hj : j < n) : pos R H n j < cl R n (R (H j) + 1) := by
  have a := cl_s R n (R (H j))
  rw [← ct_H h R] at a
  have b : ct (fun i => R (H i) = R (H j)) (j + 1) ≤ ct (fun i => R (H i) = R (H j)) n := ct_mono _ hj
  rw [ct_s, if_pos rfl] at b
  unfold pos
  omega
theorem pos_n {n : Nat} {H HG : Nat → Nat} (h : Pn n H HG) (R : Nat → Nat) {j : Nat} (hj : j < n) : pos R H n j < n := Nat.lt_of_lt_of_le (pos_up h R hj) (cl_le _ _ _)
theorem pos_lt {n : Nat} {H HG : Nat → Nat} (h : Pn n H HG) (R : Nat → Nat) {i j : Nat} (hi : i < n) (hj : j < n) (hl : R (H i) < R (H j) ∨ (R (H i) = R (H j) ∧ i < j)) : pos R H n i < pos R H n j := by
  rcases hl with y | ⟨y, z⟩
  · have a := pos_up h R hi
    have b := cl_mono R n (show R (H i) + 1 ≤ R (H j) from y)
    have c : cl R n (R (H j)) ≤ pos R H n j := Nat.le_add_right _ _
    omega
  · unfold pos
    rw [y]
    have b : ct (fun k => R (H k) = R (H j)) (i + 1) ≤ ct (fun k => R (H k) = R (H j)) j := ct_mono _ z
    rw [ct_s, if_pos y] at b
    omega
theorem pos_ne {n : Nat} {H HG : Nat → Nat} (h : Pn n H HG) (R : Nat → Nat) {i j : Nat} (hi : i < n) (hj : j < n) (hn : i ≠ j) : pos R H n i ≠ pos R H n j := by
  rcases Nat.lt_trichotomy (R (H i)) (R (H j)) with y | y | y
  · exact Nat.ne_of_lt (pos_lt h R hi hj (Or.inl y))
  · rcases Nat.lt_trichotomy i j with z | z | z
    · exact Nat.ne_of_lt (pos_lt h R hi hj (Or.inr ⟨y, z⟩))
    · exact absurd z hn
    · exact Nat.ne_of_gt (pos_lt h R hj hi (Or.inr ⟨y.symm, z⟩))
  · exact Nat.ne_of_gt (pos_lt h R hj hi (Or.inl y))
/-- sorted by w signs -/
def Srt (n : Nat) (t : Nat → Int) (w : Nat) (S G : Nat → Nat) : Prop := Pn n S G ∧ ∀ i j, i < j → j < n → ¬ Lw n t w (S j) (S i)
/-- what stands in the order of pos is sorted by both halves -/
theorem srt_of {n : Nat} {t : Nat → Int} {w v : Nat} {H HG R S : Nat → Nat} (h : Pn n H HG) (hR : RkOk n t w R) (hH : ∀ i j, i < j → j < n → ¬ Lw n t v (H j + w) (H i + w)) (hS : ∀ j, j < n → S (pos R H n j) = H j) : ∃ G, Srt n t (w + v) S G := by
  obtain ⟨J, hJ⟩ := pigeon (f := pos R H n) (fun j hj => pos_n h R hj) (fun i j hi hj => pos_ne h R (by omega) hj (by omega))
  have e : ∀ i, i < n → J i < n ∧ S i = H (J i) := fun i hi => by
    have a := hJ.2 i hi
    have b := hS (J i) a.1
    rw [a.2] at b
    exact ⟨a.1, b⟩
  refine ⟨fun p => pos R H n (HG p), ⟨fun i hi => ?_, fun p hp => ?_⟩, fun i j hij hj => ?_⟩
  · obtain ⟨a, b⟩ := e i hi
    show S i < n ∧ pos R H n (HG (S i)) = i
    rw [b]
    have hh := h.1 (J i) a
    exact ⟨hh.1, by rw [hh.2]; exact (hJ.2 i hi).2⟩
  · have hh := h.2 p hp
    exact ⟨pos_n h R hh.1, by rw [hS _ hh.1, hh.2]⟩
  · obtain ⟨a1, a2⟩ := e i (by omega)
    obtain ⟨b1, b2⟩ := e j hj
    rw [a2, b2, lw_add]
    have p1 := (hJ.2 i (by omega)).2
    have p2 := (hJ.2 j hj).2
    have ha := (h.1 _ a1).1
    have hb := (h.1 _ b1).1
    rintro (y | ⟨y, z⟩)
    · have := (hR _ _ hb ha).2 y
      have := pos_lt h R b1 a1 (Or.inl this)
      omega
    · have eq := (rk_eq hR hb ha).2 y
      rcases Nat.lt_trichotomy (J i) (J j) with w' | w' | w'
      · exact hH _ _ w' b1 z
      · rw [w'] at p1; omega
      · have := pos_lt h R b1 a1 (Or.inr ⟨eq, w'⟩)
        omega
