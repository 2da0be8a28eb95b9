/-! ===== mirror, word ===== -/
/-- how far what is the same from end to beginning reaches around a byte, and around a gap -/
def RcR (x : Ix) (A : iz_A) : Prop := ∀ c, c < ixn x → (∃ r : Nat, A.1 50 c = (r : Int) ∧ r ≤ c + 1 ∧ (∀ j, j < r → c + j < ixn x ∧ ixt x (c - j) = ixt x (c + j)) ∧ ¬ (r ≤ c ∧ c + r < ixn x ∧ ixt x (c - r) = ixt x (c + r))) ∧ ∃ g : Nat, A.1 51 c = (g : Int) ∧ g ≤ c ∧ (∀ j, j < g → c + j < ixn x ∧ ixt x (c - 1 - j) = ixt x (c + j)) ∧ ¬ (g + 1 ≤ c ∧ c + g < ixn x ∧ ixt x (c - 1 - g) = ixt x (c + g))
def Pal (x : Ix) (p L : Nat) : Prop := ∀ j, j < L → ixt x (p + j) = ixt x (p + (L - 1 - j))
/-- an END is nowhere in what is mirrored with bytes -/
theorem pal_odd {x : Ix} (h1 : TxOk x) {p h r : Nat} (hp : p < ixn x) (hh : h < lft x p) (hr : r ≤ p + h + 1) (r1 : ∀ j, j < r → p + h + j < ixn x ∧ ixt x (p + h - j) = ixt x (p + h + j)) (r2 : ¬ (r ≤ p + h ∧ p + h + r < ixn x ∧ ixt x (p + h - r) = ixt x (p + h + r))) : h < r ↔ (2 * h + 1 ≤ lft x p ∧ Pal x p (2 * h + 1)) := by
  have lp := lft_in h1 hp
  constructor
  · intro hr
    refine ⟨?_, fun j hj => ?_⟩
    · by_cases c : 2 * h + 1 ≤ lft x p
      · exact c
      · have e := (r1 (lft x p - h) (by omega)).2
        have t1 := t_end h1 hp
        have t2 := t_in h1 hp (j := h - (lft x p - h)) (by omega)
        rw [show p + h + (lft x p - h) = p + lft x p by omega, show p + h - (lft x p - h) = p + (h - (lft x p - h)) by omega] at e
        have := h1.2.1
        omega
    · by_cases c : j ≤ h
      · have := (r1 (h - j) (by omega)).2
        rw [show p + h - (h - j) = p + j by omega, show p + h + (h - j) = p + (2 * h + 1 - 1 - j) by omega] at this
        exact this
      · have := (r1 (j - h) (by omega)).2
        rw [show p + h - (j - h) = p + (2 * h + 1 - 1 - j) by omega, show p + h + (j - h) = p + j by omega] at this
        exact this.symm
  · rintro ⟨a, b⟩
    by_cases c : h < r
    · exact c
    · refine absurd ⟨(by omega), (by omega), ?_⟩ r2
      have := b (h - r) (by omega)
      rw [show p + (h - r) = p + h - r by omega, show p + (2 * h + 1 - 1 - (h - r)) = p + h + r by omega] at this
      exact this
theorem pal_even {x : Ix} (h1 : TxOk x) {p h g : Nat} (hp : p < ixn x) (hh : h < lft x p) (g1 : ∀ j, j < g → p + h + j < ixn x ∧ ixt x (p + h - 1 - j) = ixt x (p + h + j)) (g2 : ¬ (g + 1 ≤ p + h ∧ p + h + g < ixn x ∧ ixt x (p + h - 1 - g) = ixt x (p + h + g))) : h ≤ g ↔ (2 * h ≤ lft x p ∧ Pal x p (2 * h)) := by
  have lp := lft_in h1 hp
  constructor
  · intro hr
    refine ⟨?_, fun j hj => ?_⟩
    · by_cases c : 2 * h ≤ lft x p
      · exact c
      · have e := (g1 (lft x p - h) (by omega)).2
        have t1 := t_end h1 hp
        have t2 := t_in h1 hp (j := h - 1 - (lft x p - h)) (by omega)
        rw [show p + h + (lft x p - h) = p + lft x p by omega, show p + h - 1 - (lft x p - h) = p + (h - 1 - (lft x p - h)) by omega] at e
        have := h1.2.1
        omega
    · by_cases c : j < h
      · have := (g1 (h - 1 - j) (by omega)).2
        rw [show p + h - 1 - (h - 1 - j) = p + j by omega, show p + h + (h - 1 - j) = p + (2 * h - 1 - j) by omega] at this
        exact this
      · have := (g1 (j - h) (by omega)).2
        rw [show p + h - 1 - (j - h) = p + (2 * h - 1 - j) by omega, show p + h + (j - h) = p + j by omega] at this
        exact this.symm
  · rintro ⟨a, b⟩
    by_cases c : h ≤ g
    · exact c
    · refine absurd ⟨(by omega), (by omega), ?_⟩ g2
      have := b (h - 1 - g) (by omega)
      rw [show p + (h - 1 - g) = p + h - 1 - g by omega, show p + (2 * h - 1 - (h - 1 - g)) = p + h + g by omega] at this
      exact this
/-- the longest one whose middle lies before m -/
def Mri (x : Ix) (p m L : Nat) : Prop := (L ≤ lft x p ∧ Pal x p L) ∧ ∀ L', L' ≤ lft x p → Pal x p L' → L' / 2 < m → L' ≤ L
theorem mri_un {x : Ix} {p m m' L L' : Nat} (h : Mri x p m L) (h' : Mri x p m' L') (hm : lft x p ≤ m) (hm' : lft x p ≤ m') : L = L' := by
  have a : L' ≤ L := by
    by_cases c : L' = 0
    · omega
    · exact h.2 L' h'.1.1 h'.1.2 (by have := h'.1.1; omega)
  have b : L ≤ L' := by
    by_cases c : L = 0
    · omega
    · exact h'.2 L h.1.1 h.1.2 (by have := h.1.1; omega)
  omega
theorem sX_mirror {d : Nat} {A : iz_A} {x : Ix} {p : Nat} {P : Int → iz_A → Prop} (h1 : TxOk x) (h4 : XI x A) (hR : RcR x A) (hp : p < ixn x) (hP : ∀ L, Mri x p (lft x p) L → P (L : Int) A) : Ci (d + 2) 55 [.inr (.inl 48), .inl (p : Int)] A P := by
  have nb := h1.2.2.1
  have mb := h1.2.1
  have lb := lft_bd h1 hp
  have lp := lft_in h1 hp
  refine e_X5_longestMirror ?_
  have := dwl (P := fun h => ∀ L : Nat, Mri x p h L → Rn (d + 1) mX5_longestMirror (fun v A' => ∃ y, v = some (.inl y) ∧ P y A') 4 [some (.inr (.inl 48)), some (.inl ((p : Int))), some (.inl ((L : Int))), some (.inl (((p + h : Nat) : Int)))] [] A) (a := 0) (n := lft x p) ?_ (fun h _ hh ih => ?_) (Nat.zero_le _) 0 ⟨⟨Nat.zero_le _, fun j hj => by omega⟩, fun L' _ _ z => by omega⟩
  · exact this
  · intro L hL
    refine w_X5_longestMirror_4 ⟨⟨by omega, by omega⟩, ?_⟩
    rw [tn, (h4.2.2.1 p hp).2.1]
    exact sX_endOf h1 h4 lp.2.2 ⟨fun _ => ⟨_, rfl, hP L hL⟩, fun z => by omega⟩
  · intro L hL
    have Lb := hL.1.1
    obtain ⟨⟨r, r0, r3, r1, r2⟩, g, g0, g3, g1, g2⟩ := hR (p + h) (by omega)
    have po := pal_odd h1 hp hh r3 r1 r2
    have pe := pal_even h1 hp hh g1 g2
    rw [show ((p + (h + 1) : Nat) : Int) = ((p + h : Nat) : Int) + 1 by omega] at ih
    refine w_X5_longestMirror_4 ⟨⟨by omega, by omega⟩, ?_⟩
    rw [tn p, (h4.2.2.1 p hp).2.1]
    refine sX_endOf h1 h4 lp.2.2 ?_
    rw [tn, r0, g0]
    -- one step's candidates
    have step : ∀ M : Nat, (M ≤ lft x p ∧ Pal x p M) → L ≤ M → (h ≤ g → 2 * h ≤ M) → (h < r → 2 * h + 1 ≤ M) → Mri x p (h + 1) M := fun M m1 m2 m3 m4 => ⟨m1, fun L' l1 l2 l3 => by
      by_cases y : L' / 2 < h
      · have := hL.2 L' l1 l2 y
        omega
      · by_cases w : L' = 2 * h
        · rw [w] at l1 l2
          have := m3 (pe.2 ⟨l1, l2⟩)
          omega
        · have w2 : L' = 2 * h + 1 := (by omega)
          rw [w2] at l1 l2
          have := m4 (po.2 ⟨l1, l2⟩)
          omega⟩
    refine ⟨fun z => by omega, fun _ => ⟨⟨by omega, by omega⟩, inR_b (by omega) (by omega), fun z => ⟨⟨by omega, by omega⟩, inR_b (by omega) (by omega), fun z2 => ⟨inR_b (by omega) (by omega), ih L (step L hL.1 (Nat.le_refl _) fun z => by omega fun z => by omega)⟩, fun z2 => ⟨inR_b (by omega) (by omega), inR_b (by omega) (by omega), inR_b (by omega) (by omega), inR_b (by omega) (by omega), ?_⟩⟩, fun z => ⟨inR_b (by omega) (by omega), inR_b (by omega) (by omega), ⟨by omega, by omega⟩, inR_b (by omega) (by omega), fun z2 => ⟨inR_b (by omega) (by omega), ?_⟩, fun z2 => ⟨inR_b (by omega) (by omega), inR_b (by omega) (by omega), inR_b (by omega) (by omega), inR_b (by omega) (by omega), ?_⟩⟩⟩⟩
    · have ho := po.1 (by omega)
      by_cases y : L < 2 * h + 1
      · rw [if_pos (by omega), show 2 * (((p + h : Nat) : Int) - (p : Int)) + 1 = ((2 * h + 1 : Nat) : Int) by omega]
        exact ih _ (step _ ho (by omega) fun z => by omega fun z => by omega)
      · rw [if_neg (by omega)]
        exact ih L (step L hL.1 (Nat.le_refl _) fun z => by omega fun z => by omega)
    · have he := pe.1 (by omega)
      by_cases y : L < 2 * h
      · rw [if_pos (by omega), show 2 * (((p + h : Nat) : Int) - (p : Int)) = ((2 * h : Nat) : Int) by omega]
        exact ih _ (step _ he (by omega) fun z => by omega fun z => by omega)
      · rw [if_neg (by omega)]
        exact ih L (step L hL.1 (Nat.le_refl _) fun z => by omega fun z => by omega)
    · have ho := po.1 (by omega)
      have he := pe.1 (by omega)
      by_cases y : L < 2 * h + 1
      · rw [if_pos (by split <;> omega), show 2 * (((p + h : Nat) : Int) - (p : Int)) + 1 = ((2 * h + 1 : Nat) : Int) by omega]
        exact ih _ (step _ ho (by omega) fun z => by omega fun z => by omega)
      · rw [if_neg (by split <;> omega), if_neg (by omega)]
        exact ih L (step L hL.1 (Nat.le_refl _) fun z => by omega fun z => by omega)
theorem sM_mirror {d : Nat} {A : iz_A} {x : Ix} {p : Nat} {P : Int → iz_A → Prop} (h1 : TxOk x) (h5 : MI x A) (hp : p < ixn x) (hP : ∀ L, Mri x p (lft x p) L → P (L : Int) A) : Ci (d + 2) 243 [.inr (.inl 55), .inl (p : Int)] A P := by
  have nb := h1.2.2.1
  have lb := lft_bd h1 hp
  have lp := lft_in h1 hp
  refine e_X11_mirror (sM_isRowK h5 hp ⟨fun _ => sM_left h1 h5 hp ?_, fun z => absurd z n10⟩)
  refine upn (P := fun L => L ≤ lft x p → (∀ L', L < L' → L' ≤ lft x p → ¬ Pal x p L') → Rn (d + 1) mX11_mirror (fun v A' => ∃ y, v = some (.inl y) ∧ P y A') 16 [some (.inr (.inl 55)), some (.inl ((p : Int))), some (.inl ((L : Int))), none] [] A) (a := 0) (b := lft x p) ?_ (fun L _ hL ih => ?_) (Nat.zero_le _) (Nat.le_refl _) (fun L' a b => by omega)
  · intro _ hn
    refine w_X11_mirror_16 ⟨fun _ => ⟨_, rfl, hP 0 ⟨⟨Nat.zero_le _, fun j hj => by omega⟩, fun L' a b c => ?_⟩⟩, fun z => absurd (Int.le_refl 0) z⟩
    by_cases y : L' = 0
    · omega
    · exact absurd b (hn L' (by omega) a)
  · intro _ hn
    refine w_X11_mirror_16 ⟨fun z => by omega, fun _ => ?_⟩
    have down : ¬ Pal x p (L + 1) → Rn (d + 1) mX11_mirror (fun v A' => ∃ y, v = some (.inl y) ∧ P y A') 16 [some (.inr (.inl 55)), some (.inl ((p : Int))), some (.inl (((L + 1 : Nat) : Int) + -1)), none] [] A := fun np => by
      rw [show ((L + 1 : Nat) : Int) + -1 = (L : Int) by omega]
      refine ih (by omega) (fun L' a b => ?_)
      by_cases y : L' = L + 1
      · rw [y]; exact np
      · exact hn L' (by omega) b
    have tt : ∀ j, j < lft x p → A.1 59 (p + j) = ixt x (p + j) := fun j hj => tM_in h1 h5 hp hj
    have loop : ∀ m k : Nat, k + m = L + 1 → (∀ j, j < k → ixt x (p + j) = ixt x (p + (L + 1 - 1 - j))) → Rn (d + 1) mX11_mirror (fun v A' => ∃ y, v = some (.inl y) ∧ P y A') 22 [some (.inr (.inl 55)), some (.inl ((p : Int))), some (.inl (((L + 1 : Nat) : Int))), some (.inl ((k : Int)))] [] A := by
      intro m
      induction m with
      | zero =>
        intro k hk hj
        refine w_X11_mirror_22 ⟨inR_b (by omega) (by omega), fun z => ⟨inR_b (by omega) (by omega), fun z => by omega, fun _ => ⟨_, rfl, hP (L + 1) ⟨⟨(by omega), fun j hj' => hj j (by omega)⟩, fun L' a b c => ?_⟩⟩⟩, fun z => by omega⟩
        by_cases y : L' ≤ L + 1
        · exact y
        · exact absurd b (hn L' (by omega) a)
      | succ m ihm =>
        intro k hk hj
        refine w_X11_mirror_22 ⟨inR_b (by omega) (by omega), fun z => ⟨inR_b (by omega) (by omega), fun z => by omega, fun _ => ⟨_, rfl, hP (L + 1) ⟨⟨(by omega), fun j hj' => ?_⟩, fun L' a b c => ?_⟩⟩⟩, fun z => ?_⟩
        · by_cases y : j < k
          · exact hj j y
          · have := hj (L + 1 - 1 - j) (by omega)
            rw [show L + 1 - 1 - (L + 1 - 1 - j) = j by omega] at this
            exact this.symm
        · by_cases y : L' ≤ L + 1
          · exact y
          · exact absurd b (hn L' (by omega) a)
        · rw [show ((p : Int) + (k : Int)).toNat = p + k by omega, show ((p : Int) + ((L + 1 : Nat) : Int) - 1 - (k : Int)).toNat = p + (L + 1 - 1 - k) by omega, tt k (by omega), tt (L + 1 - 1 - k) (by omega)]
          refine ⟨inR_b (by omega) (by omega), ⟨by omega, by omega⟩, inR_b (by omega) (by omega), inR_b (by omega) (by omega), inR_b (by omega) (by omega), ⟨by omega, by omega⟩, fun y => ⟨inR_b (by omega) (by omega), fun _ => ⟨inR_b (by omega) (by omega), down (fun pl => y (pl k (by omega)))⟩, fun z => by omega⟩, fun y => ⟨inR_b (by omega) (by omega), ?_⟩⟩
          rw [show (k : Int) + 1 = ((k + 1 : Nat) : Int) by omega]
          refine ihm (k + 1) (by omega) (fun j hj' => ?_)
          by_cases w : j = k
          · rw [w]; exact y
          · exact hj j (by omega)
    exact loop (L + 1) 0 (by omega) (fun j hj => by omega)
theorem b_mirror {A : iz_A} {I : iz_A → Prop} {v : Int} {x : Ix} (hx : NotB A ∨ (XM x A ∧ RcR x A)) (hI : I A) : Bo 152 243 [.inl v] [.inl v] A I := by
  rcases row_casesx v hx with ⟨p, ⟨h1, h2, h3, h4, h5⟩, hR, rfl, hp⟩ | ⟨n1, n2⟩
  · refine Ci_mono (d := 3) (by decide) (e_X10_mirror (d := 2) (sX_hasK h4 hp ⟨fun z => absurd z n10, fun _ => sX_mirror h1 h4 hR hp fun L hL => ⟨_, rfl, ?_⟩⟩)) (fun _ _ z => z)
    refine Ci_mono (d := 2) (by decide) (sM_mirror (d := 0) (P := fun x2 A2 => _ = x2 ∧ I A2) h1 h5 hp fun L' hL' => ⟨?_, hI⟩) (fun _ _ z => z)
    rw [mri_un hL hL' (Nat.le_refl _) (Nat.le_refl _)]
  · refine bo_bad (d := 2) (d' := 2) (by decide) (by decide) hI (fun P hP => ?_) (fun P hP => ?_)
    · exact e_X10_mirror (d := 1) (sX_hasN n1 ⟨fun _ => ⟨_, rfl, hP⟩, fun z => absurd rfl z⟩)
    · exact e_X11_mirror (d := 1) (sM_isRowN n2 ⟨fun z => absurd rfl z, fun _ => ⟨_, rfl, hP⟩⟩)
