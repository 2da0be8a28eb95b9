/-! ===== word ===== -/
def dvf (x : Ix) (p E : Nat) : Nat → Nat → Nat → Nat × Nat
  | 0, i, j => (i, j)
  | m + 1, i, j => if j < E ∧ ixt x i ≤ ixt x j then dvf x p E m (if ixt x i < ixt x j then p else i + 1) (j + 1) else (i, j)
def dv (x : Ix) (E p : Nat) : Nat × Nat := dvf x p E (E - (p + 1)) p (p + 1)
theorem dvf_s (x : Ix) (p E m i j : Nat) : dvf x p E (m + 1) i j = if j < E ∧ ixt x i ≤ ixt x j then dvf x p E m (if ixt x i < ixt x j then p else i + 1) (j + 1) else (i, j) := rfl
/-- what is known while a word is looked for -/
def Dv (x : Ix) (p E i j : Nat) : Prop := p ≤ i ∧ i < j ∧ j ≤ E ∧ ∀ q, p + (j - i) ≤ q → q < j → ixt x q = ixt x (q - (j - i))
theorem dv_next {x : Ix} {p E i j : Nat} (h : Dv x p E i j) (h1 : j < E) (h2 : ixt x i ≤ ixt x j) : Dv x p E (if ixt x i < ixt x j then p else i + 1) (j + 1) := by
  obtain ⟨a, b, c, e⟩ := h
  by_cases z : ixt x i < ixt x j
  · rw [if_pos z]
    exact ⟨Nat.le_refl _, (by omega), (by omega), fun q q1 q2 => by omega⟩
  · rw [if_neg z]
    refine ⟨(by omega), (by omega), (by omega), fun q q1 q2 => ?_⟩
    rw [show j + 1 - (i + 1) = j - i by omega] at q1 ⊢
    by_cases y : q = j
    · rw [y, show j - (j - i) = i by omega]
      omega
    · exact e q q1 (by omega)
theorem dvf_ok {x : Ix} {p E : Nat} : ∀ m i j, j + m = E → Dv x p E i j → Dv x p E (dvf x p E m i j).1 (dvf x p E m i j).2 ∧ ((dvf x p E m i j).2 = E ∨ ixt x (dvf x p E m i j).2 < ixt x (dvf x p E m i j).1) := by
  intro m
  induction m with
  | zero => exact fun i j hj h => ⟨h, Or.inl hj⟩
  | succ m ih =>
    intro i j hj h
    rw [dvf_s]
    by_cases z : j < E ∧ ixt x i ≤ ixt x j
    · rw [if_pos z]
      exact ih _ _ (by omega) (dv_next h z.1 z.2)
    · rw [if_neg z]
      exact ⟨h, Or.inr (show ixt x j < ixt x i by omega)⟩
theorem dv_ok {x : Ix} {p E : Nat} (h : p < E) : Dv x p E (dv x E p).1 (dv x E p).2 ∧ ((dv x E p).2 = E ∨ ixt x (dv x E p).2 < ixt x (dv x E p).1) := dvf_ok _ _ _ (by omega) ⟨Nat.le_refl _, (by omega), (by omega), fun q q1 q2 => by omega⟩
theorem sX_period {d : Nat} {A : iz_A} {x : Ix} {p E : Nat} {P : Int → iz_A → Prop} (h1 : TxOk x) (h4 : XI x A) (hp : p < E) (hE : E ≤ ixn x) (hP : P (((dv x E p).2 - (dv x E p).1 : Nat) : Int) A) : Ci (d + 1) 51 [.inr (.inl 48), .inl (p : Int), .inl (E : Int)] A P := by
  have nb := h1.2.2.1
  refine e_X5_periodOfWords ⟨inR_b (by omega) (by omega), ?_⟩
  have main : ∀ m i j, j + m = E → Dv x p E i j → dvf x p E m i j = dv x E p → Rn d mX5_periodOfWords (fun v A' => ∃ y, v = some (.inl y) ∧ P y A') 7 [some (.inr (.inl 48)), some (.inl ((p : Int))), some (.inl ((E : Int))), some (.inl (((j - i : Nat) : Int))), some (.inl ((j : Int)))] [] A := by
    intro m
    induction m with
    | zero =>
      intro i j hj h e
      refine w_X5_periodOfWords_7 ⟨fun _ => ⟨_, rfl, ?_⟩, fun z => by omega⟩
      rw [← e] at hP
      exact hP
    | succ m ih =>
      intro i j hj h e
      obtain ⟨a, b, c, -⟩ := id h
      rw [dvf_s] at e
      refine w_X5_periodOfWords_7 ?_
      rw [tn, show ((j : Int) - ((j - i : Nat) : Int)).toNat = i by omega, (h4.2.2.1 j (by omega)).1, (h4.2.2.1 i (by omega)).1]
      refine ⟨fun z => by omega, fun _ => ⟨⟨by omega, by omega⟩, inR_b (by omega) (by omega), ⟨by omega, by omega⟩, fun z => ⟨_, rfl, ?_⟩, fun z => ⟨⟨by omega, by omega⟩, inR_b (by omega) (by omega), ⟨by omega, by omega⟩, fun z2 => ⟨inR_b (by omega) (by omega), ?_⟩, fun z2 => ⟨inR_b (by omega) (by omega), inR_b (by omega) (by omega), inR_b (by omega) (by omega), ?_⟩⟩⟩⟩
      · rw [if_neg (by omega)] at e
        rw [← e] at hP
        exact hP
      · rw [if_pos ⟨(by omega), (by omega)⟩] at e
        have nx := dv_next h (by omega) (by omega)
        rw [if_neg (show ¬ ixt x i < ixt x j by omega)] at e nx
        have := ih (i + 1) (j + 1) (by omega) nx e
        rw [show j + 1 - (i + 1) = j - i by omega] at this
        exact this
      · rw [if_pos ⟨(by omega), (by omega)⟩] at e
        have nx := dv_next h (by omega) (by omega)
        rw [if_pos (show ixt x i < ixt x j by omega)] at e nx
        have := ih p (j + 1) (by omega) nx e
        rw [show ((j + 1 - p : Nat) : Int) = (j : Int) - (p : Int) + 1 by omega] at this
        exact this
  have := main (E - (p + 1)) p (p + 1) (by omega) ⟨Nat.le_refl _, (by omega), (by omega), fun q q1 q2 => by omega⟩ rfl
  rw [show p + 1 - p = 1 by omega] at this
  exact this
theorem sX_endWords {d : Nat} {A : iz_A} {x : Ix} {p E : Nat} {P : Int → iz_A → Prop} (h1 : TxOk x) (h4 : XI x A) (hp : p < E) (hE : E < ixn x) (hP : P ((dv x E p).2 : Int) A) : Ci (d + 1) 52 [.inr (.inl 48), .inl (p : Int), .inl (E : Int), .inl (((dv x E p).2 - (dv x E p).1 : Nat) : Int)] A P := by
  have nb := h1.2.2.1
  obtain ⟨⟨a, b, c, e⟩, st⟩ := dv_ok (x := x) hp
  generalize (dv x E p).1 = I at *
  generalize (dv x E p).2 = J at *
  refine e_X5_endOfWords ⟨inR_b (by omega) (by omega), ?_⟩
  rw [show (p : Int) + ((J - I : Nat) : Int) = ((p + (J - I) : Nat) : Int) by omega]
  refine dwl (P := fun q => Rn d mX5_endOfWords (fun v A' => ∃ y, v = some (.inl y) ∧ P y A') 5 [some (.inr (.inl 48)), some (.inl ((p : Int))), some (.inl ((E : Int))), some (.inl (((J - I : Nat) : Int))), some (.inl ((q : Int)))] [] A) (a := p + (J - I)) (n := J) ?_ (fun q q1 q2 ih => ?_) (by omega)
  · refine w_X5_endOfWords_5 ?_
    rw [tn, show ((J : Int) - ((J - I : Nat) : Int)).toNat = I by omega, (h4.2.2.1 J (by omega)).1, (h4.2.2.1 I (by omega)).1]
    exact ⟨fun _ => ⟨_, rfl, hP⟩, fun z => ⟨⟨by omega, by omega⟩, inR_b (by omega) (by omega), ⟨by omega, by omega⟩, fun _ => ⟨_, rfl, hP⟩, fun z2 => by omega⟩⟩
  · refine w_X5_endOfWords_5 ?_
    rw [tn, show ((q : Int) - ((J - I : Nat) : Int)).toNat = q - (J - I) by omega, (h4.2.2.1 q (by omega)).1, (h4.2.2.1 (q - (J - I)) (by omega)).1, ← e q q1 q2]
    rw [show ((q + 1 : Nat) : Int) = (q : Int) + 1 by omega] at ih
    exact ⟨fun z => by omega, fun _ => ⟨⟨by omega, by omega⟩, inR_b (by omega) (by omega), ⟨by omega, by omega⟩, fun z => absurd rfl z, fun _ => ⟨inR_b (by omega) (by omega), ih⟩⟩⟩
/-- the words one after the other: begin, up to where the same word may begin, length -/
def wst (x : Ix) (E F : Nat) : Nat → Nat × Nat × Nat
  | 0 => (F, 0, 0)
  | t + 1 => if (wst x E F t).1 < (wst x E F t).2.1 then ((wst x E F t).1 + (wst x E F t).2.2, (wst x E F t).2.1, (wst x E F t).2.2) else ((wst x E F t).1 + ((dv x E (wst x E F t).1).2 - (dv x E (wst x E F t).1).1), (dv x E (wst x E F t).1).1 + 1, (dv x E (wst x E F t).1).2 - (dv x E (wst x E F t).1).1)
theorem wst_s (x : Ix) (E F t : Nat) : wst x E F (t + 1) = if (wst x E F t).1 < (wst x E F t).2.1 then ((wst x E F t).1 + (wst x E F t).2.2, (wst x E F t).2.1, (wst x E F t).2.2) else ((wst x E F t).1 + ((dv x E (wst x E F t).1).2 - (dv x E (wst x E F t).1).1), (dv x E (wst x E F t).1).1 + 1, (dv x E (wst x E F t).1).2 - (dv x E (wst x E F t).1).1) := rfl
theorem wst_ok {x : Ix} {E F : Nat} (hF : F ≤ E) : ∀ t, (∀ s, s < t → (wst x E F s).1 < E) → F + t ≤ (wst x E F t).1 ∧ (wst x E F t).1 ≤ E ∧ (wst x E F t).2.1 + (wst x E F t).2.2 ≤ E + 1 ∧ ((wst x E F t).1 < (wst x E F t).2.1 → 1 ≤ (wst x E F t).2.2) := by
  intro t
  induction t with
  | zero => exact fun _ => ⟨Nat.le_refl _, hF, Nat.zero_le _, fun z => absurd z (Nat.not_lt_zero _)⟩
  | succ t ih =>
    intro hs
    obtain ⟨a, b, c, e⟩ := ih (fun s h => hs s (by omega))
    have hp := hs t (by omega)
    rw [wst_s]
    by_cases z : (wst x E F t).1 < (wst x E F t).2.1
    · rw [if_pos z]
      have := e z
      exact ⟨(by omega), (by omega), c, fun _ => this⟩
    · rw [if_neg z]
      obtain ⟨⟨f1, f2, f3, -⟩, -⟩ := dv_ok (x := x) hp
      exact ⟨(by omega), (by omega), show (dv x E (wst x E F t).1).1 + 1 + ((dv x E (wst x E F t).1).2 - (dv x E (wst x E F t).1).1) ≤ E + 1 by omega, fun _ => show 1 ≤ (dv x E (wst x E F t).1).2 - (dv x E (wst x E F t).1).1 by omega⟩
theorem wst_ex (x : Ix) {E F : Nat} (hF : F ≤ E) : ∃ N, E ≤ (wst x E F N).1 ∧ ∀ t, t < N → (wst x E F t).1 < E := by
  have : ∃ m, E ≤ (wst x E F m).1 := by
    by_cases c : ∀ s, s < E - F → (wst x E F s).1 < E
    · have := (wst_ok hF (E - F) c).1
      exact ⟨E - F, (by omega)⟩
    · refine Classical.byContradiction fun h => c fun s _ => ?_
      have : ¬ E ≤ (wst x E F s).1 := fun z => h ⟨s, z⟩
      omega
  obtain ⟨m, hm⟩ := this
  obtain ⟨k, -, k2, k3⟩ := least_ex (P := fun m => E ≤ (wst x E F m).1) hm
  exact ⟨k, k2, fun t ht => by have := k3 t ht; omega⟩
theorem sX_word {d : Nat} {A : iz_A} {x : Ix} {e N : Nat} {k : Int} {P : Int → iz_A → Prop} (h1 : TxOk x) (h4 : XI x A) (he : e < ixm x) (n1 : ixF x e + ixl x e ≤ (wst x (ixF x e + ixl x e) (ixF x e) N).1) (n2 : ∀ t, t < N → (wst x (ixF x e + ixl x e) (ixF x e) t).1 < ixF x e + ixl x e) (hP0 : k = -1 → P (N : Int) A) (hPn : k ≠ -1 → (∀ t, t < N → (t : Int) ≠ k) → P (-1) A) (hP1 : ∀ t, t < N → (t : Int) = k → P ((wst x (ixF x e + ixl x e) (ixF x e) t).1 : Int) A) : Ci (d + 2) 50 [.inr (.inl 48), .inl (e : Int), .inl k] A P := by
  have nb := h1.2.2.1
  have mb := h1.2.1
  have en := end_lt h1 he
  have ok := wst_ok (x := x) (E := ixF x e + ixl x e) (F := ixF x e) (by omega)
  have N3 := (ok N n2).1
  refine e_X5_fallingWord (sX_endOf h1 h4 he ⟨⟨by omega, by omega⟩, ?_⟩)
  rw [tn, h4.2.2.2.1 e (by omega)]
  generalize hE : ixF x e + ixl x e = E at *
  generalize hF : ixF x e = F at *
  have main := dwl (P := fun t => (∀ s, s < t → (s : Int) ≠ k) → ((wst x E F t).1 < (wst x E F t).2.1 → Rn (d + 1) mX5_fallingWord (fun v A' => ∃ y, v = some (.inl y) ∧ P y A') 56 [some (.inr (.inl 48)), some (.inl ((e : Int))), some (.inl k), some (.inl ((E : Int))), some (.inl (((wst x E F t).1 : Int))), some (.inl ((t : Int))), some (.inl (((wst x E F t).2.2 : Int))), some (.inl (((wst x E F t).2.1 : Int) - 1))] [] A) ∧ (¬ (wst x E F t).1 < (wst x E F t).2.1 → Rn (d + 1) mX5_fallingWord (fun v A' => ∃ y, v = some (.inl y) ∧ P y A') 23 [some (.inr (.inl 48)), some (.inl ((e : Int))), some (.inl k), some (.inl ((E : Int))), some (.inl (((wst x E F t).1 : Int))), some (.inl ((t : Int))), none, none] [] A)) (a := 0) (n := N) ?_ (fun t _ ht ih => ?_) (Nat.zero_le _) (fun s hs => by omega)
  · exact main.2 (Nat.not_lt_zero _)
  · intro hs
    obtain ⟨-, b, c, -⟩ := ok N n2
    refine ⟨fun z => ?_, fun z => w_X5_fallingWord_23 ⟨fun _ => ⟨fun y => ⟨_, rfl, hPn y hs⟩, fun y => ⟨_, rfl, hP0 y⟩⟩, fun z => by omega⟩⟩
    have o := (ok N n2).2.2.2 z
    omega
  · intro hs
    have hp := n2 t ht
    obtain ⟨a, b, c, o⟩ := ok t (fun s h => n2 s (by omega))
    have nx := ok (t + 1) (fun s h => n2 s (by omega))
    rw [wst_s] at ih nx
    have hs' : ¬ (t : Int) = k → ∀ s, s < t + 1 → (s : Int) ≠ k := fun y s h => by
      by_cases w : s = t
      · rw [w]; exact y
      · exact hs s (by omega)
    refine ⟨fun z => ?_, fun z => ?_⟩
    · rw [if_pos z] at ih nx
      refine w_X5_fallingWord_56 ⟨fun y => ⟨inR_b (by omega) (by omega), inR_b (by omega) (by omega), fun w => ?_, fun w => ?_⟩, fun y => ⟨_, rfl, hP1 t ht y⟩⟩
      · have := (ih (hs' y)).1 (show (wst x E F t).1 + (wst x E F t).2.2 < (wst x E F t).2.1 by omega)
        rw [show (((wst x E F t).1 + (wst x E F t).2.2 : Nat) : Int) = ((wst x E F t).1 : Int) + ((wst x E F t).2.2 : Int) by omega] at this
        exact this
      · have := (ih (hs' y)).2 (show ¬ (wst x E F t).1 + (wst x E F t).2.2 < (wst x E F t).2.1 by omega)
        rw [show (((wst x E F t).1 + (wst x E F t).2.2 : Nat) : Int) = ((wst x E F t).1 : Int) + ((wst x E F t).2.2 : Int) by omega] at this
        exact this
    · rw [if_neg z] at ih nx
      obtain ⟨⟨f1, f2, f3, -⟩, -⟩ := dv_ok (x := x) hp
      refine w_X5_fallingWord_23 ⟨fun z => by omega, fun _ => sX_period h1 h4 hp (by omega) ?_⟩
      rw [if_neg (by omega)]
      refine sX_endWords h1 h4 hp (by omega) ⟨inR_b (by omega) (by omega), ?_⟩
      rw [show ((dv x E (wst x E F t).1).2 : Int) - (((dv x E (wst x E F t).1).2 - (dv x E (wst x E F t).1).1 : Nat) : Int) = ((dv x E (wst x E F t).1).1 : Int) by omega]
      refine w_X5_fallingWord_56 ⟨fun y => ⟨inR_b (by omega) (by omega), inR_b (by omega) (by omega), fun w => ?_, fun w => ?_⟩, fun y => ⟨_, rfl, hP1 t ht y⟩⟩
      · have := (ih (hs' y)).1 (show (wst x E F t).1 + ((dv x E (wst x E F t).1).2 - (dv x E (wst x E F t).1).1) < (dv x E (wst x E F t).1).1 + 1 by omega)
        rw [show (((wst x E F t).1 + ((dv x E (wst x E F t).1).2 - (dv x E (wst x E F t).1).1) : Nat) : Int) = ((wst x E F t).1 : Int) + (((dv x E (wst x E F t).1).2 - (dv x E (wst x E F t).1).1 : Nat) : Int) by omega, show (((dv x E (wst x E F t).1).1 + 1 : Nat) : Int) - 1 = ((dv x E (wst x E F t).1).1 : Int) by omega] at this
        exact this
      · have := (ih (hs' y)).2 (show ¬ (wst x E F t).1 + ((dv x E (wst x E F t).1).2 - (dv x E (wst x E F t).1).1) < (dv x E (wst x E F t).1).1 + 1 by omega)
        rw [show (((wst x E F t).1 + ((dv x E (wst x E F t).1).2 - (dv x E (wst x E F t).1).1) : Nat) : Int) = ((wst x E F t).1 : Int) + (((dv x E (wst x E F t).1).2 - (dv x E (wst x E F t).1).1 : Nat) : Int) by omega] at this
        exact this
theorem tM_doc {x : Ix} {A : iz_A} (h1 : TxOk x) (h5 : MI x A) {e q : Nat} (he : e < ixm x) (hq : ixF x e ≤ q) (hq2 : q < ixF x e + ixl x e) : A.1 59 q = ixt x q := by
  have en := end_lt h1 he
  have ho : ixo x (ixF x e) = e := own_of h1 he (Nat.le_refl _) (by omega)
  have hl : lft x (ixF x e) = ixl x e := by unfold lft; rw [ho]; omega
  have := tM_in h1 h5 (p := ixF x e) (j := q - ixF x e) (by omega) (by omega)
  rw [show ixF x e + (q - ixF x e) = q by omega] at this
  exact this
theorem sM_word {d : Nat} {A : iz_A} {x : Ix} {e N : Nat} {k : Int} {P : Int → iz_A → Prop} (h1 : TxOk x) (h5 : MI x A) (he : e < ixm x) (hk : -1 ≤ k) (n1 : ixF x e + ixl x e ≤ (wst x (ixF x e + ixl x e) (ixF x e) N).1) (n2 : ∀ t, t < N → (wst x (ixF x e + ixl x e) (ixF x e) t).1 < ixF x e + ixl x e) (hP0 : k = -1 → P (N : Int) A) (hPn : k ≠ -1 → (∀ t, t < N → (t : Int) ≠ k) → P (-1) A) (hP1 : ∀ t, t < N → (t : Int) = k → P ((wst x (ixF x e + ixl x e) (ixF x e) t).1 : Int) A) : Ci (d + 2) 241 [.inr (.inl 55), .inl (e : Int), .inl k] A P := by
  have nb := h1.2.2.1
  have mb := h1.2.1
  have en := end_lt h1 he
  have ok := wst_ok (x := x) (E := ixF x e + ixl x e) (F := ixF x e) (by omega)
  have N3 := (ok N n2).1
  have td := fun q => tM_doc (q := q) h1 h5 he
  refine e_X11_word (sM_isDocK h5 he ⟨fun z => absurd z n10, fun _ => ⟨fun _ => ?_, fun z => by omega⟩⟩)
  rw [tn, (h5.2.2.2.2.1 e he).1, (h5.2.2.2.2.1 e he).2]
  refine ⟨⟨by omega, by omega⟩, ⟨by omega, by omega⟩, inR_b (by omega) (by omega), ⟨by omega, by omega⟩, ?_⟩
  rw [show (ixF x e : Int) + (ixl x e : Int) = ((ixF x e + ixl x e : Nat) : Int) by omega]
  generalize hE : ixF x e + ixl x e = E at *
  generalize hF : ixF x e = F at *
  -- the words of one run, from word t on
  have main := dwl (P := fun t => (∀ s, s < t → (s : Int) ≠ k) → (∀ I J : Nat, I < J → I + 1 = (wst x E F t).2.1 → J - I = (wst x E F t).2.2 → Rn (d + 1) mX11_word (fun v A' => ∃ y, v = some (.inl y) ∧ P y A') 113 [some (.inr (.inl 55)), some (.inl ((e : Int))), some (.inl k), some (.inl ((E : Int))), some (.inl ((t : Int))), some (.inl (((wst x E F t).1 : Int))), some (.inl ((J : Int))), some (.inl ((I : Int)))] [] A) ∧ (¬ (wst x E F t).1 < (wst x E F t).2.1 → Rn (d + 1) mX11_word (fun v A' => ∃ y, v = some (.inl y) ∧ P y A') 40 [some (.inr (.inl 55)), some (.inl ((e : Int))), some (.inl k), some (.inl ((E : Int))), some (.inl ((t : Int))), some (.inl (((wst x E F t).1 : Int))), none, none] [] A)) (a := 0) (n := N) ?_ (fun t _ ht ih => ?_) (Nat.zero_le _) (fun s hs => by omega)
  · exact main.2 (Nat.not_lt_zero _)
  · intro hs
    obtain ⟨-, b, c, o⟩ := ok N n2
    have fin : Rn (d + 1) mX11_word (fun v A' => ∃ y, v = some (.inl y) ∧ P y A') 40 [some (.inr (.inl 55)), some (.inl ((e : Int))), some (.inl k), some (.inl ((E : Int))), some (.inl ((N : Int))), some (.inl (((wst x E F N).1 : Int))), none, none] [] A := w_X11_word_40 ⟨fun _ => ⟨fun y => ⟨_, rfl, hPn y hs⟩, fun y => ⟨_, rfl, hP0 y⟩⟩, fun z => by omega⟩
    refine ⟨fun I J hIJ i1 i2 => w_X11_word_113 ⟨fun _ => fin, fun z => ?_⟩, fun z => fin⟩
    have := o (by omega)
    omega
  · intro hs
    have hp := n2 t ht
    obtain ⟨a, b, c, o⟩ := ok t (fun s h => n2 s (by omega))
    have nx := ok (t + 1) (fun s h => n2 s (by omega))
    rw [wst_s] at ih nx
    have hs' : ¬ (t : Int) = k → ∀ s, s < t + 1 → (s : Int) ≠ k := fun y s h => by
      by_cases w : s = t
      · rw [w]; exact y
      · exact hs s (by omega)
    -- a new run
    have fresh : ¬ (wst x E F t).1 < (wst x E F t).2.1 → Rn (d + 1) mX11_word (fun v A' => ∃ y, v = some (.inl y) ∧ P y A') 40 [some (.inr (.inl 55)), some (.inl ((e : Int))), some (.inl k), some (.inl ((E : Int))), some (.inl ((t : Int))), some (.inl (((wst x E F t).1 : Int))), none, none] [] A := fun z => by
      rw [if_neg z] at ih nx
      obtain ⟨⟨f1, f2, f3, -⟩, -⟩ := dv_ok (x := x) hp
      generalize hpp : (wst x E F t).1 = p at *
      refine w_X11_word_40 ⟨fun z => by omega, fun _ => ⟨inR_b (by omega) (by omega), ?_⟩⟩
      have last : Rn (d + 1) mX11_word (fun v A' => ∃ y, v = some (.inl y) ∧ P y A') 113 [some (.inr (.inl 55)), some (.inl ((e : Int))), some (.inl k), some (.inl ((E : Int))), some (.inl ((t : Int))), some (.inl ((p : Int))), some (.inl (((dv x E p).2 : Int))), some (.inl (((dv x E p).1 : Int)))] [] A := by
        refine w_X11_word_113 ⟨fun z => by omega, fun _ => ⟨fun y => ⟨inR_b (by omega) (by omega), inR_b (by omega) (by omega), inR_b (by omega) (by omega), ?_⟩, fun y => ⟨_, rfl, by rw [← hpp]; exact hP1 t ht y⟩⟩⟩
        have := (ih (hs' y)).1 _ _ f2 rfl rfl
        rw [show ((t + 1 : Nat) : Int) = (t : Int) + 1 by omega, show ((p + ((dv x E p).2 - (dv x E p).1) : Nat) : Int) = (p : Int) + (((dv x E p).2 : Int) - ((dv x E p).1 : Int)) by omega] at this
        exact this
      have loop : ∀ m i j, j + m = E → p ≤ i → i < j → dvf x p E m i j = dv x E p → Rn (d + 1) mX11_word (fun v A' => ∃ y, v = some (.inl y) ∧ P y A') 56 [some (.inr (.inl 55)), some (.inl ((e : Int))), some (.inl k), some (.inl ((E : Int))), some (.inl ((t : Int))), some (.inl ((p : Int))), some (.inl ((j : Int))), some (.inl ((i : Int)))] [] A := by
        intro m
        induction m with
        | zero =>
          intro i j hj i1 i2 e'
          refine w_X11_word_56 ⟨fun _ => ?_, fun z => by omega⟩
          rw [← e'] at last
          exact last
        | succ m ihm =>
          intro i j hj i1 i2 e'
          rw [dvf_s] at e'
          refine w_X11_word_56 ?_
          rw [tn, tn, td i (by omega) (by omega), td j (by omega) (by omega)]
          refine ⟨fun z => by omega, fun _ => ⟨⟨by omega, by omega⟩, ⟨by omega, by omega⟩, fun z => ?_, fun z => ⟨⟨by omega, by omega⟩, ⟨by omega, by omega⟩, fun z2 => ⟨inR_b (by omega) (by omega), inR_b (by omega) (by omega), ?_⟩, fun z2 => ⟨inR_b (by omega) (by omega), ?_⟩⟩⟩⟩
          · rw [if_neg (by omega)] at e'
            rw [← e'] at last
            exact last
          · rw [if_pos ⟨(by omega), (by omega)⟩, if_neg (show ¬ ixt x i < ixt x j by omega)] at e'
            exact ihm (i + 1) (j + 1) (by omega) (by omega) (by omega) e'
          · rw [if_pos ⟨(by omega), (by omega)⟩, if_pos (show ixt x i < ixt x j by omega)] at e'
            exact ihm p (j + 1) (by omega) (by omega) (by omega) e'
      have := loop (E - (p + 1)) p (p + 1) (by omega) (Nat.le_refl _) (by omega) rfl
      exact this
    refine ⟨fun I J hIJ i1 i2 => w_X11_word_113 ⟨fun z => fresh (by omega), fun z => ⟨fun y => ⟨inR_b (by omega) (by omega), inR_b (by omega) (by omega), inR_b (by omega) (by omega), ?_⟩, fun y => ⟨_, rfl, hP1 t ht y⟩⟩⟩, fresh⟩
    rw [if_pos (show (wst x E F t).1 < (wst x E F t).2.1 by omega)] at ih
    have := (ih (hs' y)).1 I J hIJ i1 i2
    rw [show ((t + 1 : Nat) : Int) = (t : Int) + 1 by omega, show (((wst x E F t).1 + (wst x E F t).2.2 : Nat) : Int) = ((wst x E F t).1 : Int) + ((J : Int) - (I : Int)) by omega] at this
    exact this
theorem b_word {A : iz_A} {I : iz_A → Prop} {v k : Int} (hx : IdxAt A) (hI : I A) : Bo 150 241 [.inl v, .inl k] [.inl v, .inl k] A I := by
  rcases doc_cases v hx with ⟨x, e, ⟨h1, h2, h3, h4, h5⟩, rfl, he⟩ | ⟨n1, n2⟩
  · by_cases hk : -1 ≤ k
    · obtain ⟨N, n1, n2⟩ := wst_ex x (E := ixF x e + ixl x e) (F := ixF x e) (by omega)
      have go : ∀ y : Int, (k = -1 → y = (N : Int)) → (k ≠ -1 → (∀ t, t < N → (t : Int) ≠ k) → y = -1) → (∀ t, t < N → (t : Int) = k → y = ((wst x (ixF x e + ixl x e) (ixF x e) t).1 : Int)) → Bo 150 241 [.inl (e : Int), .inl k] [.inl (e : Int), .inl k] A I := fun y y1 y2 y3 => bo_both (d := 3) (d' := 2) (by decide) (by decide) y hI (fun P hP => e_X10_word (d := 2) (sX_hasDocK h4 he ⟨fun z => absurd z n10, fun _ => ⟨fun z => by omega, fun _ => sX_word h1 h4 he n1 n2 (fun z => ⟨_, rfl, by rw [← y1 z]; exact hP⟩) (fun z w => ⟨_, rfl, by rw [← y2 z w]; exact hP⟩) (fun t ht z => ⟨_, rfl, by rw [← y3 t ht z]; exact hP⟩)⟩⟩)) (fun P hP => sM_word h1 h5 he hk n1 n2 (fun z => by rw [← y1 z]; exact hP) (fun z w => by rw [← y2 z w]; exact hP) (fun t ht z => by rw [← y3 t ht z]; exact hP))
      by_cases c : k = -1
      · exact go N (fun _ => rfl) (fun z => absurd c z) (fun t _ z => by omega)
      · by_cases c2 : ∃ t, t < N ∧ (t : Int) = k
        · obtain ⟨t, t1, t2⟩ := c2
          refine go ((wst x (ixF x e + ixl x e) (ixF x e) t).1 : Int) (fun z => absurd z c) (fun _ w => absurd t2 (w t t1)) (fun t' _ z => ?_)
          rw [show t' = t by omega]
        · exact go (-1) (fun z => absurd z c) (fun _ _ => rfl) (fun t ht z => absurd ⟨t, ht, z⟩ c2)
    · refine bo_bad (d := 2) (d' := 2) (by decide) (by decide) hI (fun P hP => ?_) (fun P hP => ?_)
      · exact e_X10_word (d := 1) (sX_hasDocK h4 he ⟨fun z => absurd z n10, fun _ => ⟨fun _ => ⟨_, rfl, hP⟩, fun z => by omega⟩⟩)
      · exact e_X11_word (d := 1) (sM_isDocK h5 he ⟨fun z => absurd z n10, fun _ => ⟨fun z => by omega, fun _ => ⟨_, rfl, hP⟩⟩⟩)
  · refine bo_bad (d := 2) (d' := 2) (by decide) (by decide) hI (fun P hP => ?_) (fun P hP => ?_)
    · exact e_X10_word (d := 1) (sX_hasDocN n1 ⟨fun _ => ⟨_, rfl, hP⟩, fun z => absurd rfl z⟩)
    · exact e_X11_word (d := 1) (sM_isDocN n2 ⟨fun _ => ⟨_, rfl, hP⟩, fun z => absurd rfl z⟩)
