/-! ===== the index: one description for both ===== -/
/-- places, documents; first place and length of a document; sign, document of a place (an END of document d is d - 40); place of a row, row of a place, shared bytes of a row -/
abbrev Ix : Type := Nat × Nat × (Nat → Nat) × (Nat → Nat) × (Nat → Int) × (Nat → Nat) × (Nat → Nat) × (Nat → Nat) × (Nat → Nat)
def ixn (x : Ix) : Nat := x.1
def ixm (x : Ix) : Nat := x.2.1
def ixF (x : Ix) : Nat → Nat := x.2.2.1
def ixl (x : Ix) : Nat → Nat := x.2.2.2.1
def ixt (x : Ix) : Nat → Int := x.2.2.2.2.1
def ixo (x : Ix) : Nat → Nat := x.2.2.2.2.2.1
def ixs (x : Ix) : Nat → Nat := x.2.2.2.2.2.2.1
def ixr (x : Ix) : Nat → Nat := x.2.2.2.2.2.2.2.1
def ixc (x : Ix) : Nat → Nat := x.2.2.2.2.2.2.2.2
/-- bytes from a place on, in its document -/
def lft (x : Ix) (p : Nat) : Nat := ixF x (ixo x p) + ixl x (ixo x p) - p
/-- the documents lie one behind the other, their ENDs are told apart -/
def TxOk (x : Ix) : Prop := 1 ≤ ixm x ∧ ixm x ≤ 40 ∧ ixn x ≤ 3000 ∧ ixF x 0 = 0 ∧ (∀ d, d < ixm x → ixF x (d + 1) = ixF x d + ixl x d + 1) ∧ ixF x (ixm x) = ixn x ∧
  ∀ p, p < ixn x → ixo x p < ixm x ∧ ixF x (ixo x p) ≤ p ∧ p ≤ ixF x (ixo x p) + ixl x (ixo x p) ∧ (p < ixF x (ixo x p) + ixl x (ixo x p) → 0 ≤ ixt x p ∧ ixt x p < 256) ∧ (p = ixF x (ixo x p) + ixl x (ixo x p) → ixt x p = (ixo x p : Int) - 40)
/-- rows and places are each other's -/
def PmOk (x : Ix) : Prop := (∀ i, i < ixn x → ixs x i < ixn x ∧ ixr x (ixs x i) = i) ∧ ∀ p, p < ixn x → ixr x p < ixn x ∧ ixs x (ixr x p) = p
/-- two suffixes are alike in k signs, and not in the next -/
def Dif (x : Ix) (p q k : Nat) : Prop := (∀ j, j < k → ixt x (p + j) = ixt x (q + j)) ∧ ixt x (p + k) ≠ ixt x (q + k)
/-- rows are in order, and how much neighbours share -/
def SoOk (x : Ix) : Prop := ixc x 0 = 0 ∧ ∀ i, i + 1 < ixn x → Dif x (ixs x i) (ixs x (i + 1)) (ixc x (i + 1)) ∧ ixt x (ixs x i + ixc x (i + 1)) < ixt x (ixs x (i + 1) + ixc x (i + 1))
/-- the byte in front of a row's place; -2: none -/
def bef (x : Ix) (i : Nat) : Int := if ixs x i = ixF x (ixo x (ixs x i)) then -2 else ixt x (ixs x i - 1)
/-- the class's cells -/
def XI (x : Ix) (A : iz_A) : Prop := A.1 5 8 = (ixn x : Int) ∧ A.1 5 9 = (ixm x : Int) ∧ (∀ p, p < ixn x → A.1 6 p = ixt x p ∧ A.1 7 p = (ixo x p : Int) ∧ A.1 10 p = (ixr x p : Int)) ∧ (∀ d, d ≤ ixm x → A.1 8 d = (ixF x d : Int)) ∧ ∀ i, i < ixn x → A.1 9 i = (ixs x i : Int) ∧ A.1 11 i = (ixc x i : Int) ∧ A.1 12 i = bef x i
/-- the reference's cells -/
def MI (x : Ix) (A : iz_A) : Prop := A.1 55 6 = 1 ∧ A.1 55 7 = (ixn x : Int) ∧ A.1 55 8 = (ixm x : Int) ∧ (∀ p, p < ixn x → A.1 59 p = (if ixt x p < 0 then -1 else ixt x p) ∧ A.1 60 p = (ixo x p : Int) ∧ A.1 64 p = (ixr x p : Int)) ∧ (∀ d, d < ixm x → A.1 61 d = (ixF x d : Int) ∧ A.1 62 d = (ixl x d : Int)) ∧ (∀ i, i < ixn x → A.1 63 i = (ixs x i : Int) ∧ A.1 65 i = (ixc x i : Int)) ∧ A.1 65 (ixn x) = 0
theorem F_le {x : Ix} (h : TxOk x) : ∀ e d, d ≤ e → e ≤ ixm x → ixF x d ≤ ixF x e := by
  obtain ⟨-, -, -, -, hF, -, -⟩ := h
  intro e
  induction e with
  | zero =>
    intro d h1 _
    obtain rfl : d = 0 := by omega
    exact Nat.le_refl _
  | succ e ih =>
    intro d h1 h2
    by_cases c : d = e + 1
    · rw [c]; exact Nat.le_refl _
    · have := ih d (by omega) (by omega)
      have := hF e (by omega)
      omega
/-- of a document's places its END lies in the index -/
theorem end_lt {x : Ix} (h : TxOk x) {d : Nat} (hd : d < ixm x) : ixF x d + ixl x d < ixn x := by
  have h1 := F_le h (ixm x) (d + 1) (by omega) (Nat.le_refl _)
  obtain ⟨-, -, -, -, hF, hn, -⟩ := h
  have := hF d hd
  omega
theorem n_pos {x : Ix} (h : TxOk x) : 1 ≤ ixn x := by
  have := end_lt h (d := 0) (by have := h.1; omega)
  omega
/-- a document's places are its own -/
theorem own_of {x : Ix} (h : TxOk x) {d p : Nat} (hd : d < ixm x) (h1 : ixF x d ≤ p) (h2 : p ≤ ixF x d + ixl x d) : ixo x p = d := by
  have hp : p < ixn x := by have := end_lt h hd; omega
  have hle := F_le h
  obtain ⟨-, -, -, -, hF, hn, ho⟩ := h
  obtain ⟨a, b, c, -⟩ := ho p hp
  rcases Nat.lt_trichotomy (ixo x p) d with z | z | z
  · have := hle d (ixo x p + 1) (by omega) (by omega)
    have := hF (ixo x p) a
    omega
  · exact z
  · have := hle (ixo x p) (d + 1) (by omega) (by omega)
    have := hF d hd
    omega
theorem sX_has {d : Nat} {A : iz_A} {v : Int} {P : Int → iz_A → Prop} (h1 : 0 ≤ v → v < A.1 5 8 → P 1 A) (h2 : ¬ (0 ≤ v ∧ v < A.1 5 8) → P 0 A) : Ci (d + 1) 21 [.inr (.inl 5), .inl v] A P :=
  e_X2_has ⟨fun z => ⟨Or.inl rfl, _, rfl, h2 (by omega)⟩, fun z => ⟨fun y => ⟨Or.inl rfl, _, rfl, h2 (by omega)⟩, fun y => ⟨Or.inr rfl, _, rfl, h1 (by omega) (by omega)⟩⟩⟩
theorem sX_hasDoc {d : Nat} {A : iz_A} {v : Int} {P : Int → iz_A → Prop} (h1 : 0 ≤ v → v < A.1 5 9 → P 1 A) (h2 : ¬ (0 ≤ v ∧ v < A.1 5 9) → P 0 A) : Ci (d + 1) 22 [.inr (.inl 5), .inl v] A P :=
  e_X2_hasDocument ⟨fun z => ⟨Or.inl rfl, _, rfl, h2 (by omega)⟩, fun z => ⟨fun y => ⟨Or.inl rfl, _, rfl, h2 (by omega)⟩, fun y => ⟨Or.inr rfl, _, rfl, h1 (by omega) (by omega)⟩⟩⟩
theorem sX_isByte {d : Nat} {A : iz_A} {v : Int} {P : Int → iz_A → Prop} (h1 : 0 ≤ v → v < 256 → P 1 A) (h2 : ¬ (0 ≤ v ∧ v < 256) → P 0 A) : Ci (d + 1) 157 [.inl v] A P :=
  e_X10_isByte ⟨fun z => ⟨Or.inl rfl, _, rfl, h2 (by omega)⟩, fun z => ⟨fun y => ⟨Or.inl rfl, _, rfl, h2 (by omega)⟩, fun y => ⟨Or.inr rfl, _, rfl, h1 (by omega) (by omega)⟩⟩⟩
theorem sM_isByte {d : Nat} {A : iz_A} {v : Int} {P : Int → iz_A → Prop} (h1 : 0 ≤ v → v < 256 → P 1 A) (h2 : ¬ (0 ≤ v ∧ v < 256) → P 0 A) : Ci (d + 1) 169 [.inl v] A P :=
  e_X11_isByte ⟨fun z => ⟨Or.inl rfl, _, rfl, h2 (by omega)⟩, fun z => ⟨fun y => ⟨Or.inl rfl, _, rfl, h2 (by omega)⟩, fun y => ⟨Or.inr rfl, _, rfl, h1 (by omega) (by omega)⟩⟩⟩
theorem sM_isRow {d : Nat} {A : iz_A} {v : Int} {P : Int → iz_A → Prop} (h1 : ¬ A.1 55 6 = 0 → 0 ≤ v → v < A.1 55 7 → P 1 A) (h2 : ¬ (¬ A.1 55 6 = 0 ∧ 0 ≤ v ∧ v < A.1 55 7) → P 0 A) : Ci (d + 1) 167 [.inr (.inl 55), .inl v] A P :=
  e_X11_isRow ⟨fun z => ⟨Or.inl rfl, _, rfl, h2 (by omega)⟩, fun w => ⟨fun z => ⟨Or.inl rfl, _, rfl, h2 (by omega)⟩, fun z => ⟨fun y => ⟨Or.inl rfl, _, rfl, h2 (by omega)⟩, fun y => ⟨Or.inr rfl, _, rfl, h1 w (by omega) (by omega)⟩⟩⟩⟩
theorem sM_isDoc {d : Nat} {A : iz_A} {v : Int} {P : Int → iz_A → Prop} (h1 : ¬ A.1 55 6 = 0 → 0 ≤ v → v < A.1 55 8 → P 1 A) (h2 : ¬ (¬ A.1 55 6 = 0 ∧ 0 ≤ v ∧ v < A.1 55 8) → P 0 A) : Ci (d + 1) 168 [.inr (.inl 55), .inl v] A P :=
  e_X11_isDocument ⟨fun z => ⟨Or.inl rfl, _, rfl, h2 (by omega)⟩, fun w => ⟨fun z => ⟨Or.inl rfl, _, rfl, h2 (by omega)⟩, fun z => ⟨fun y => ⟨Or.inl rfl, _, rfl, h2 (by omega)⟩, fun y => ⟨Or.inr rfl, _, rfl, h1 w (by omega) (by omega)⟩⟩⟩⟩
theorem sX_endOf {d : Nat} {A : iz_A} {x : Ix} {e : Nat} {P : Int → iz_A → Prop} (hx : TxOk x) (hA : XI x A) (he : e < ixm x) (hP : P ((ixF x e + ixl x e : Nat) : Int) A) : Ci (d + 1) 23 [.inr (.inl 5), .inl (e : Int)] A P := by
  refine e_X2_endOf ?_
  have e1 : A.1 8 (e + 1) = ((ixF x e + ixl x e + 1 : Nat) : Int) := by rw [hA.2.2.2.1 (e + 1) (by omega), hx.2.2.2.2.1 e he]
  have hb := end_lt hx he
  have h4 := hx.2.1
  have h5 := hx.2.2.1
  rw [show ((e : Int) + 1).toNat = e + 1 by omega, e1]
  refine ⟨inR_b (by omega) (by omega), ⟨by omega, by omega⟩, inR_b (by omega) (by omega), _, rfl, ?_⟩
  rw [show (((ixF x e + ixl x e + 1 : Nat) : Int) - 1) = ((ixF x e + ixl x e : Nat) : Int) by omega]
  exact hP
theorem sX_left {d : Nat} {A : iz_A} {x : Ix} {p : Nat} {P : Int → iz_A → Prop} (hx : TxOk x) (hA : XI x A) (hp : p < ixn x) (hP : P (lft x p : Int) A) : Ci (d + 2) 24 [.inr (.inl 5), .inl (p : Int)] A P := by
  obtain ⟨a, b, c, -⟩ := hx.2.2.2.2.2.2 p hp
  have h5 := hx.2.2.1
  refine e_X2_bytesFrom ⟨⟨by omega, by omega⟩, ?_⟩
  rw [show ((p : Int)).toNat = p from Int.toNat_natCast _, (hA.2.2.1 p hp).2.1]
  have hb := end_lt hx a
  refine sX_endOf hx hA a ⟨inR_b (by omega) (by omega), _, rfl, ?_⟩
  rw [show (((ixF x (ixo x p) + ixl x (ixo x p) : Nat) : Int) - (p : Int)) = (lft x p : Int) by unfold lft; omega]
  exact hP
theorem sM_left {d : Nat} {A : iz_A} {x : Ix} {p : Nat} {P : Int → iz_A → Prop} (hx : TxOk x) (hA : MI x A) (hp : p < ixn x) (hP : P (lft x p : Int) A) : Ci (d + 1) 170 [.inr (.inl 55), .inl (p : Int)] A P := by
  obtain ⟨a, b, c, -⟩ := hx.2.2.2.2.2.2 p hp
  have h5 := hx.2.2.1
  have h4 := hx.2.1
  have hb := end_lt hx a
  refine e_X11_left ?_
  rw [show ((p : Int)).toNat = p from Int.toNat_natCast _, (hA.2.2.2.1 p hp).2.1, show ((ixo x p : Int)).toNat = ixo x p from Int.toNat_natCast _, (hA.2.2.2.2.1 _ a).1, (hA.2.2.2.2.1 _ a).2]
  refine ⟨⟨by omega, by omega⟩, ⟨by omega, by omega⟩, ⟨by omega, by omega⟩, inR_b (by omega) (by omega), inR_b (by omega) (by omega), _, rfl, ?_⟩
  rw [show ((ixF x (ixo x p) : Int) + (ixl x (ixo x p) : Int) - (p : Int)) = (lft x p : Int) by unfold lft; omega]
  exact hP
theorem sM_before {d : Nat} {A : iz_A} {x : Ix} {i : Nat} {P : Int → iz_A → Prop} (hx : TxOk x) (hp : PmOk x) (hA : MI x A) (hi : i < ixn x) (hP : P (bef x i) A) : Ci (d + 1) 175 [.inr (.inl 55), .inl (i : Int)] A P := by
  have hs := (hp.1 i hi).1
  obtain ⟨a, b, c, -⟩ := hx.2.2.2.2.2.2 _ hs
  have h5 := hx.2.2.1
  have h4 := hx.2.1
  refine e_X11_beforeOf ?_
  rw [show ((i : Int)).toNat = i from Int.toNat_natCast _, (hA.2.2.2.2.2.1 i hi).1, show ((ixs x i : Int)).toNat = ixs x i from Int.toNat_natCast _, (hA.2.2.2.1 _ hs).2.1, show ((ixo x (ixs x i) : Int)).toNat = ixo x (ixs x i) from Int.toNat_natCast _, (hA.2.2.2.2.1 _ a).1]
  refine ⟨⟨by omega, by omega⟩, ⟨by omega, by omega⟩, ⟨by omega, by omega⟩, fun z => ?_, fun z => ?_⟩
  · have hne : ixs x i ≠ ixF x (ixo x (ixs x i)) := fun e => z (by rw [← e])
    refine ⟨inR_b (by omega) (by omega), ⟨by omega, by omega⟩, _, rfl, ?_⟩
    have hq : ixs x i - 1 < ixn x := by omega
    rw [show ((ixs x i : Int) - 1).toNat = ixs x i - 1 by omega, (hA.2.2.2.1 _ hq).1]
    have ho : ixo x (ixs x i - 1) = ixo x (ixs x i) := own_of hx a (by omega) (by omega)
    obtain ⟨-, -, -, h6, -⟩ := hx.2.2.2.2.2.2 _ hq
    rw [ho] at h6
    have := h6 (by omega)
    rw [if_neg (by omega)]
    unfold bef at hP
    rw [if_neg hne] at hP
    exact hP
  · refine ⟨_, rfl, ?_⟩
    unfold bef at hP
    rw [if_pos (by omega)] at hP
    exact hP
