/-! ===== where the reference stands in a query ===== -/
def qs (s : Nat → Int) (n j : Nat) : Prop := j < n ∧ (s j = 42 ∨ s j = 43 ∨ s j = 63 ∨ s j = 123)
/-- the bytes that atom i may be -/
def fitA (A : iz_A) (i : Nat) (c : Int) : Prop := A.1 84 i = 256 ∨ (¬ A.1 84 i = 256 ∧ ((1000 ≤ A.1 84 i ∧ ¬ A.1 85 (256 * (A.1 84 i - 1000).toNat + c.toNat) = 0) ∨ (A.1 84 i < 1000 ∧ A.1 84 i = c)))
def Fx (am : Nat) (A C : iz_A) : Prop := ∀ i, i < am → ∀ c : Nat, c < 256 → (fitA C i (c : Int) ↔ fitA A i (c : Int))
theorem fx_rf (am : Nat) (A : iz_A) : Fx am A A := fun _ _ _ _ => Iff.rfl
theorem fx_tr {am am' : Nat} {A B C : iz_A} (h : Fx am A B) (h' : Fx am' B C) (ha : am ≤ am') : Fx am A C := fun i hi c hc => (h' i (by omega) c hc).trans (h i hi c hc)
theorem fx_k {am : Nat} {A C : iz_A} {l : List Nat} (f : fr l A C) (h1 : 84 ∉ l) (h2 : 85 ∉ l) : Fx am A C := fun i _ c _ => by
  unfold fitA
  rw [f.1 84 h1, f.1 85 h2]
/-- atoms and classes that were told so far -/
def AtR (am cm : Nat) (A : iz_A) : Prop := ∀ i, i < am → A.1 84 i = 256 ∨ (0 ≤ A.1 84 i ∧ A.1 84 i < 256) ∨ (1000 ≤ A.1 84 i ∧ A.1 84 i < 1000 + (cm : Int))
def GA (am : Nat) (j : Nat) (A : iz_A) : Prop := A.1 55 53 = 0 ∧ A.1 55 50 = (am : Int) ∧ am ≤ j ∧ ∃ cm : Nat, A.1 55 52 = (cm : Int) ∧ 2 * cm ≤ j ∧ AtR am cm A
theorem ga_k {am j j' : Nat} {A C : iz_A} {l m : List Nat} (h : GA am j A) (f : fr l A C) (hl : 84 ∉ l) (g : ff m (A.1 55) (C.1 55)) (hm : ∀ q ∈ [50, 52, 53], q ∉ m) (hj : j ≤ j') : GA am j' C := by
  obtain ⟨h1, h2, h3, cm, h4, h5, h6⟩ := h
  refine ⟨(g 53 (hm 53 (by decide))).trans h1, (g 50 (hm 50 (by decide))).trans h2, (by omega), cm, (g 52 (hm 52 (by decide))).trans h4, (by omega), ?_⟩
  unfold AtR
  rw [f.1 84 hl]
  exact h6
/-- a piece that was made, with its width in signs -/
def CK (N : Nat) (t : Nat → Int) (A : iz_A) (am : Nat) (c : List Int) (z w D : Nat) (R : Rel) : Prop := c.length + 1 ≤ 2 * w * mx z ∧ ∀ ft : Nat × (Nat → Int → Prop), am ≤ ft.1 → (∀ i, i < am → ∀ c : Nat, c < 256 → (ft.2 i (c : Int) ↔ fitA A i (c : Int))) → Kd N t ft c z D R
theorem ck_k {N : Nat} {t : Nat → Int} {A C : iz_A} {am am' : Nat} {c : List Int} {z w w' D D' : Nat} {R R' : Rel} (h : CK N t A am c z w D R) (f : Fx am A C) (ha : am ≤ am') (hw : w ≤ w') (hD : D ≤ D') (hR : ∀ p q, R p q ↔ R' p q) : CK N t C am' c z w' D' R' :=
  ⟨Nat.le_trans h.1 (Nat.mul_le_mul_right _ (by omega)), fun ft hm hf => kd_mono (h.2 ft (by omega) (fun i hi x hx => (hf i (by omega) x hx).trans (f i hi x hx))) hD hR⟩
theorem ck_join {N : Nat} {t : Nat → Int} {A : iz_A} {am : Nat} {c1 c2 : List Int} {z1 z2 w1 w2 D1 D2 D : Nat} {R1 R2 : Rel} (k1 : CK N t A am c1 z1 w1 D1 R1) (k2 : CK N t A am c2 z2 w2 D2 R2) (h1 : D1 ≤ D) (h2 : D2 + 1 ≤ D) : CK N t A am (c1 ++ c2 ++ [-1]) (z1 + z2) (w1 + w2) D (fun p q => ∃ r, R1 p r ∧ R2 r q) := by
  refine ⟨?_, fun ft hm hf => kd_join (k1.2 ft hm hf) (k2.2 ft hm hf) h1 h2⟩
  have a := k1.1
  have b := k2.1
  have m1 := Nat.mul_le_mul_left (2 * w1) (mx_le (Nat.le_add_right z1 z2))
  have m2 := Nat.mul_le_mul_left (2 * w2) (mx_le (Nat.le_add_left z2 z1))
  rw [List.length_append, List.length_append, Nat.mul_add, Nat.add_mul]
  show c1.length + c2.length + 1 + 1 ≤ _
  omega
theorem ck_or {N : Nat} {t : Nat → Int} {A : iz_A} {am : Nat} {c1 c2 : List Int} {z1 z2 w1 w2 D1 D2 D : Nat} {R1 R2 : Rel} (k1 : CK N t A am c1 z1 w1 D1 R1) (k2 : CK N t A am c2 z2 w2 D2 R2) (h1 : D1 ≤ D) (h2 : D2 + 1 ≤ D) : CK N t A am (c1 ++ c2 ++ [-2]) (z1 + z2) (w1 + w2) D (fun p q => R1 p q ∨ R2 p q) := by
  refine ⟨?_, fun ft hm hf => kd_or (k1.2 ft hm hf) (k2.2 ft hm hf) h1 h2⟩
  have a := k1.1
  have b := k2.1
  have m1 := Nat.mul_le_mul_left (2 * w1) (mx_le (Nat.le_add_right z1 z2))
  have m2 := Nat.mul_le_mul_left (2 * w2) (mx_le (Nat.le_add_left z2 z1))
  rw [List.length_append, List.length_append, Nat.mul_add, Nat.add_mul]
  show c1.length + c2.length + 1 + 1 ≤ _
  omega
theorem ck_empty (N : Nat) (t : Nat → Int) (A : iz_A) (am : Nat) : CK N t A am [-6] 0 1 1 (fun p q => p = q) := ⟨by decide, fun ft _ _ => kd_empty N t ft⟩
/-- the rows of a sum, and the items of its last row, that are ended -/
def LvG (N : Nat) (t : Nat → Int) (d b j z : Nat) (D C : Rel) (M : List Int) (am : Nat) (A : iz_A) : Prop := ∃ (sc rc : List Int) (zs zr ws wr r q : Nat), M = sc ++ rc ∧ z = zs + zr ∧ ws + wr + b ≤ j ∧ A.1 82 d = (r : Int) ∧ A.1 81 d = (q : Int) ∧ r ≤ j ∧ q ≤ j ∧ ((r = 0 ∧ sc = [] ∧ zs = 0 ∧ ∀ p q, ¬ D p q) ∨ (0 < r ∧ CK N t A am sc zs ws (2 * (20 - d) + 2 + mx zs) D)) ∧ ((q = 0 ∧ rc = [] ∧ zr = 0 ∧ ∀ p q, C p q ↔ p = q) ∨ (0 < q ∧ CK N t A am rc zr wr (2 * (20 - d) + 1 + mx zr) C))
theorem lvG_k {N : Nat} {t : Nat → Int} {d b j j' z : Nat} {D C D' C' : Rel} {M : List Int} {am am' : Nat} {A B : iz_A} (h : LvG N t d b j z D C M am A) (f : Fx am A B) (ha : am ≤ am') (hj : j ≤ j') (e1 : B.1 81 d = A.1 81 d) (e2 : B.1 82 d = A.1 82 d) (hD : ∀ p q, D p q ↔ D' p q) (hC : ∀ p q, C p q ↔ C' p q) : LvG N t d b j' z D' C' M am' B := by
  obtain ⟨sc, rc, zs, zr, ws, wr, r, q, h1, h2, h3, h4, h5, h6, h7, h8, h9⟩ := h
  refine ⟨sc, rc, zs, zr, ws, wr, r, q, h1, h2, (by omega), e2.trans h4, e1.trans h5, (by omega), (by omega), ?_, ?_⟩
  · rcases h8 with ⟨a, b, c, e⟩ | ⟨a, b⟩
    · exact Or.inl ⟨a, b, c, fun p q w => e p q ((hD p q).2 w)⟩
    · exact Or.inr ⟨a, ck_k b f ha (Nat.le_refl _) (Nat.le_refl _) hD⟩
  · rcases h9 with ⟨a, b, c, e⟩ | ⟨a, b⟩
    · exact Or.inl ⟨a, b, c, fun p q => by rw [← hC, e]⟩
    · exact Or.inr ⟨a, ck_k b f ha (Nat.le_refl _) (Nat.le_refl _) hC⟩
/-- an item that is ended comes behind the others of its row -/
theorem lvG_item {N : Nat} {t : Nat → Int} {d b j k z za wa : Nat} {D C R : Rel} {M ac : List Int} {am : Nat} {A B : iz_A} {q : Nat} (h : LvG N t d b j z D C M am A) (hb : b ≤ j) (hk : j + wa ≤ k) (w1 : 1 ≤ wa) (ca : CK N t A am ac za wa (2 * (20 - d) + mx za) R) (f : Fx am A B) (e0 : A.1 81 d = (q : Int)) (e1 : B.1 81 d = ((q + 1 : Nat) : Int)) (e2 : B.1 82 d = A.1 82 d) : LvG N t d b k (z + za) D (fun p q => ∃ r, C p r ∧ R r q) (M ++ ac ++ (if q = 0 then [] else [-1])) am B := by
  obtain ⟨sc, rc, zs, zr, ws, wr, r, q', h1, h2, h3, h4, h5, h6, h7, h8, h9⟩ := h
  have eq : q' = q := by omega
  subst eq
  refine ⟨sc, rc ++ ac ++ (if q' = 0 then [] else [-1]), zs, zr + za, ws, wr + wa, r, q' + 1, by rw [h1]; simp only [List.append_assoc], (by omega), (by omega), e2.trans h4, e1, (by omega), (by omega), ?_, Or.inr ⟨Nat.succ_pos _, ?_⟩⟩
  · rcases h8 with h8 | ⟨a, b⟩
    · exact Or.inl h8
    · exact Or.inr ⟨a, ck_k b f (Nat.le_refl _) (Nat.le_refl _) (Nat.le_refl _) (fun _ _ => Iff.rfl)⟩
  · rcases h9 with ⟨a, b, c, e⟩ | ⟨a, b⟩
    · rw [if_pos a, b, c, List.append_nil, List.nil_append, Nat.zero_add]
      exact ck_k ca f (Nat.le_refl _) (by omega) (by omega) (fun p q => ⟨fun w => ⟨p, (e p p).2 rfl, w⟩, fun ⟨r, r1, r2⟩ => by rw [(e p r).1 r1]; exact r2⟩)
    · rw [if_neg (by omega)]
      have m1 := mx_le (Nat.le_add_right zr za)
      have m2 := mx_le (Nat.le_add_left za zr)
      exact ck_k (ck_join (D := 2 * (20 - d) + 1 + mx (zr + za)) b ca (by omega) (by omega)) f (Nat.le_refl _) (Nat.le_refl _) (Nat.le_refl _) (fun _ _ => Iff.rfl)
/-- all of it, once the last row is ended -/
theorem lvG_row {N : Nat} {t : Nat → Int} {d b j z : Nat} {D C : Rel} {M : List Int} {am : Nat} {A : iz_A} {r q : Nat} (h : LvG N t d b j z D C M am A) (hb : b ≤ j) (e1 : A.1 81 d = (q : Int)) (e2 : A.1 82 d = (r : Int)) : CK N t A am (M ++ (if q = 0 then [-6] else []) ++ (if r = 0 then [] else [-2])) z (j + 1 - b) (2 * (20 - d) + 2 + mx z) (fun p q => D p q ∨ C p q) := by
  obtain ⟨sc, rc, zs, zr, ws, wr, r', q', h1, h2, h3, h4, h5, h6, h7, h8, h9⟩ := h
  have eq : q' = q := by omega
  have er : r' = r := by omega
  subst eq er
  subst h2
  have m0 := mx_pos zr
  have m0' := mx_pos zs
  have m1 := mx_le (Nat.le_add_right zs zr)
  have m2 := mx_le (Nat.le_add_left zr zs)
  have row : CK N t A am (rc ++ (if q' = 0 then [-6] else [])) zr (wr + 1) (2 * (20 - d) + 1 + mx zr) C := by
    rcases h9 with ⟨a, b, c, e⟩ | ⟨a, b⟩
    · rw [if_pos a, b, c]
      exact ck_k (ck_empty N t A am) (fx_rf _ _) (Nat.le_refl _) (by omega) (by rw [c] at m0; omega) (fun p q => (e p q).symm)
    · rw [if_neg (by omega), List.append_nil]
      exact ck_k b (fx_rf _ _) (Nat.le_refl _) (by omega) (Nat.le_refl _) (fun _ _ => Iff.rfl)
  rcases h8 with ⟨a, b, c, e⟩ | ⟨a, b⟩
  · rw [if_pos a, h1, b, c, List.append_nil, List.nil_append, Nat.zero_add]
    rw [c, Nat.zero_add] at m2
    exact ck_k row (fx_rf _ _) (Nat.le_refl _) (by omega) (by omega) (fun p q => ⟨Or.inr, fun w => w.elim (fun w => absurd w (e p q)) id⟩)
  · rw [if_neg (show ¬ r' = 0 by omega), h1]
    have := ck_or (D := 2 * (20 - d) + 2 + mx (zs + zr)) b row (by omega) (by omega)
    rw [List.append_assoc sc rc]
    exact ck_k this (fx_rf _ _) (Nat.le_refl _) (by omega) (Nat.le_refl _) (fun _ _ => Iff.rfl)
