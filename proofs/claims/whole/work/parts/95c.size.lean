/-! ===== sizes in long numbers ===== -/
theorem li_add {a b : Int64} (h1 : -4000000000000000000 ≤ a.toInt + b.toInt) (h2 : a.toInt + b.toInt ≤ 4000000000000000000) : (a + b).toInt = a.toInt + b.toInt := by
  rw [Int64.toInt_add]
  exact Int.bmod_eq_of_le (by omega) (by omega)
theorem li_mul {a b : Int64} (h1 : -4000000000000000000 ≤ a.toInt * b.toInt) (h2 : a.toInt * b.toInt ≤ 4000000000000000000) : (a * b).toInt = a.toInt * b.toInt := by
  rw [Int64.toInt_mul]
  exact Int.bmod_eq_of_le (by omega) (by omega)
theorem li_iv {x : Int} (h : inR x) : ((iv x).toInt64).toInt = x := by
  rw [Int32.toInt_toInt64, iv_toInt h]
theorem lcmp_le (x y : Int64) : iz_lcmp x y ≤ 0 ↔ x.toInt ≤ y.toInt := by
  unfold iz_lcmp
  by_cases c : x > y
  · rw [if_pos c]
    have := Int64.lt_iff_toInt_lt.1 c
    exact ⟨fun z => absurd z (by decide), fun z => by omega⟩
  · rw [if_neg c]
    have hn : ¬ y.toInt < x.toInt := fun w => c (Int64.lt_iff_toInt_lt.2 w)
    by_cases e : x = y
    · rw [if_pos e]
      exact ⟨fun _ => by omega, fun _ => by decide⟩
    · rw [if_neg e]
      exact ⟨fun _ => by omega, fun _ => by decide⟩
theorem lM : (ab_lnum 1000000 0).toInt = 1000000 := by decide +kernel
theorem l120 : (ab_lnum 120 0).toInt = 120 := by decide +kernel
theorem li_0 (w : Int64) : w = 0 ↔ w.toInt = 0 := by
  constructor
  · intro h; rw [h]; rfl
  · intro h; exact Int64.toInt_inj.1 (h.trans (by decide))
/-- a size as the reference has it: right, or both are great -/
def szR (w : Int64) (z J : Nat) : Prop := 0 ≤ w.toInt ∧ w.toInt ≤ 1000000 * (J : Int) ∧ (w.toInt = (z : Int) ∨ (1000000 ≤ w.toInt ∧ 1000000 ≤ z))
theorem sz_add {u v : Int64} {a b J K L : Nat} (hu : szR u a J) (hv : szR v b K) (hJ : J + K ≤ L) (hK : L ≤ 1000) : szR (u + v) (a + b) L := by
  obtain ⟨u1, u2, u3⟩ := hu
  obtain ⟨v1, v2, v3⟩ := hv
  have e := li_add (a := u) (b := v) (by omega) (by omega)
  unfold szR
  rw [e]
  exact ⟨by omega, by omega, by omega⟩
theorem sz_0 (J : Nat) : szR 0 0 J := ⟨by decide, by show (0 : Int) ≤ _; omega, Or.inl rfl⟩
theorem sz_1 {J : Nat} (h : 1 ≤ J) : szR 1 1 J := ⟨by decide, by show (1 : Int) ≤ _; omega, Or.inl rfl⟩
theorem sz_z {w : Int64} {z J : Nat} (h : szR w z J) : w = 0 ↔ z = 0 := by
  obtain ⟨u1, u2, u3⟩ := h
  rw [li_0]
  omega
theorem sz_mo {w : Int64} {z J K : Nat} (h : szR w z J) (hJ : J ≤ K) : szR w z K := ⟨h.1, by have := h.2.1; omega, h.2.2⟩
/-- what an item's repeats do to the size of a sum: c copies -/
theorem sz_rep {u v : Int64} {a b J K L c : Nat} {x : Int} (hu : szR u a J) (hv : szR v b K) (hJ : J ≤ 300) (hK : K ≤ 300) (hL : 1 ≤ L) (hc : c ≤ 99) (hx : x = (c : Int)) : ((u + v) + v * (iv (x - 1)).toInt64).toInt = u.toInt + v.toInt * (c : Int) ∧ (u.toInt + v.toInt * (c : Int) ≤ 1000000 → szR ((u + v) + v * (iv (x - 1)).toInt64) (a + b * c) L) ∧ (¬ u.toInt + v.toInt * (c : Int) ≤ 1000000 → szR (ab_lnum 1000000 0) (a + b * c) L) := by
  subst hx
  obtain ⟨u1, u2, u3⟩ := hu
  obtain ⟨v1, v2, v3⟩ := hv
  have ei := li_iv (x := (c : Int) - 1) (inR_b (by omega) (by omega))
  have b1 : v.toInt * ((c : Int) - 1) ≤ 300000000 * 98 := by
    by_cases h : c = 0
    · rw [h]
      have : v.toInt * (((0 : Nat) : Int) - 1) = - v.toInt := by
        show v.toInt * (-1) = _
        rw [Int.mul_neg, Int.mul_one]
      omega
    · exact Int.mul_le_mul (by omega) (by omega) (by omega) (by omega)
  have b2 : -300000000 ≤ v.toInt * ((c : Int) - 1) := by
    by_cases h : c = 0
    · rw [h]
      have : v.toInt * (((0 : Nat) : Int) - 1) = - v.toInt := by
        show v.toInt * (-1) = _
        rw [Int.mul_neg, Int.mul_one]
      omega
    · have := Int.mul_nonneg v1 (show 0 ≤ (c : Int) - 1 by omega)
      omega
  have em := li_mul (a := v) (b := (iv ((c : Int) - 1)).toInt64) (by rw [ei]; omega) (by rw [ei]; omega)
  rw [ei] at em
  have es := li_add (a := u) (b := v) (by omega) (by omega)
  have et := li_add (a := u + v) (b := v * (iv ((c : Int) - 1)).toInt64) (by rw [es, em]; omega) (by rw [es, em]; omega)
  have ed : v.toInt * ((c : Int) - 1) = v.toInt * (c : Int) - v.toInt := by rw [Int.mul_sub, Int.mul_one]
  have e1 : ((u + v) + v * (iv ((c : Int) - 1)).toInt64).toInt = u.toInt + v.toInt * (c : Int) := by
    rw [et, es, em, ed]
    omega
  have pos : 0 ≤ v.toInt * (c : Int) := Int.mul_nonneg v1 (by omega)
  have great : (1000000 ≤ v.toInt ∧ 1000000 ≤ b) → c ≠ 0 → 1000000 ≤ v.toInt * (c : Int) ∧ 1000000 ≤ b * c := fun h hc0 => by
    have p1 : v.toInt * 1 ≤ v.toInt * (c : Int) := Int.mul_le_mul_of_nonneg_left (by omega) v1
    have p2 : b * 1 ≤ b * c := Nat.mul_le_mul_left b (by omega)
    omega
  have same : v.toInt = (b : Int) → v.toInt * (c : Int) = ((b * c : Nat) : Int) := fun h => by rw [h, Int.natCast_mul]
  have z0 : c = 0 → v.toInt * (c : Int) = 0 ∧ b * c = 0 := fun h => by
    subst h
    exact ⟨Int.mul_zero _, Nat.mul_zero _⟩
  refine ⟨e1, fun hle => ?_, fun hgt => ?_⟩
  · unfold szR
    rw [e1]
    refine ⟨by omega, by omega, ?_⟩
    rcases v3 with v3 | v3
    · have := same v3
      omega
    · by_cases hc0 : c = 0
      · have := z0 hc0
        omega
      · have := great v3 hc0
        omega
  · unfold szR
    rw [lM]
    refine ⟨by decide, by omega, Or.inr ⟨by decide, ?_⟩⟩
    rcases v3 with v3 | v3
    · have := same v3
      omega
    · by_cases hc0 : c = 0
      · have := z0 hc0
        omega
      · have := great v3 hc0
        omega
