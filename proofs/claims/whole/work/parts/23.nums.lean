/-! ===== numbers ===== -/
theorem idiv_eq {x y : Int} (hx : inR x) (hy : inR y) (h0 : 0 ≤ x) (h1 : 0 < y) : (iv x / iv y).toInt = x / y := by
  have hne : ¬ iv y = -1 := by
    intro z
    have := congrArg Int32.toInt z
    rw [iv_toInt hy] at this
    have e : (-1 : Int32).toInt = -1 := by decide
    rw [e] at this
    omega
  rw [Int32.toInt_div_of_ne_right _ _ hne, iv_toInt hx, iv_toInt hy, Int.tdiv_eq_ediv_of_nonneg h0]
theorem irem_eq {x y : Int} (hx : inR x) (hy : inR y) (h0 : 0 ≤ x) (h1 : 0 < y) : (iv x - iv x / iv y * iv y).toInt = x % y := by
  have hd := idiv_eq hx hy h0 h1
  have hdr : inR (x / y) := by
    have := Int.ediv_nonneg h0 (Int.le_of_lt h1)
    have := Int.ediv_le_self y h0
    exact ⟨by omega, by have := hx.2; omega⟩
  have e : iv x / iv y = iv (x / y) := by
    apply Int32.toInt_inj.mp
    rw [hd, iv_toInt hdr]
  rw [e]
  have e2 : iv x - iv (x / y) * iv y = iv (x % y) := by
    rw [show iv (x / y) * iv y = iv (x / y * y) from (Int32.ofInt_mul ..).symm, show iv x - iv (x / y * y) = iv (x - x / y * y) from (Int32.ofInt_sub ..).symm]
    congr 1
    have := Int.emod_add_mul_ediv x y
    have := Int.mul_comm y (x / y)
    omega
  rw [e2, iv_toInt]
  have := Int.emod_nonneg x (show y ≠ 0 by omega)
  have := Int.emod_lt_of_pos x h1
  exact ⟨by omega, by have := hy.2; omega⟩
/-- a byte of a number, from bit s on -/
def by4 (x : Int) (s : Nat) : Int := x / 2 ^ s % 256
theorem bvN (x : Int32) : (x.toBitVec.toNat : Int) = x.toInt % 4294967296 := by
  have h : x.toInt = x.toBitVec.toInt := rfl
  rw [h, BitVec.toInt_eq_toNat_cond]
  have := x.toBitVec.isLt
  split <;> omega
theorem and255 (x : Int32) : (x &&& iv 255).toInt = x.toInt % 256 := by
  have e : iv 255 = 255 := by decide +kernel
  rw [e, pk_and x 8 (by decide +kernel), nI_toInt (by omega)]
  have := bvN x
  omega
theorem and63 (x : Int32) : (x &&& iv 63).toInt = x.toInt % 64 := by
  have e : iv 63 = 63 := by decide +kernel
  rw [e, pk_and x 6 (by decide +kernel), nI_toInt (by omega)]
  have := bvN x
  omega
theorem sh_k (k : Nat) (hk : k < 32) : ((iv k &&& 31).toBitVec.smod 32).toNat = k ∧ (((iv k).toUInt32 &&& Int32.toUInt32 31).toBitVec % 32).toNat = k := by
  have h : ∀ k : Fin 32, ((iv (k.val : Int) &&& 31).toBitVec.smod 32).toNat = k.val ∧ (((iv (k.val : Int)).toUInt32 &&& Int32.toUInt32 31).toBitVec % 32).toNat = k.val := by decide +kernel
  exact h ⟨k, hk⟩
theorem pw_pos (k : Nat) : (0 : Int) < 2 ^ k := Int.pow_pos (by decide)
theorem sshr_byte {x : Int} (hx : inR x) (k : Nat) (hk : k < 32) : (iv (iv x >>> (iv k &&& 31)).toInt &&& iv 255).toInt = by4 x k := by
  rw [iv_of, and255, pk_shr _ _ k (sh_k k hk).1, iv_toInt hx, Int.shiftRight_eq_div_pow]
  rfl
theorem ushr_byte {x : Int} (hx : inR x) (k : Nat) (hk : k ≤ 24) : (iv (((iv x).toUInt32 >>> ((iv k).toUInt32 &&& Int32.toUInt32 31)).toInt32.toInt) &&& iv 255).toInt = by4 x k := by
  rw [iv_of, and255]
  have h1 := pk_ushr (iv x) (iv k) k (sh_k k (by omega)).2
  have h2 := bvN ((iv x).toUInt32 >>> ((iv k).toUInt32 &&& Int32.toUInt32 31)).toInt32
  have h3 := bvN (iv x)
  rw [iv_toInt hx] at h3
  rw [h1] at h2
  unfold by4
  generalize (((iv x).toUInt32 >>> ((iv k).toUInt32 &&& Int32.toUInt32 31)).toInt32).toInt = y at h2 ⊢
  generalize (iv x).toBitVec.toNat = m at h2 h3
  have hm : (m : Int) = x % 4294967296 := h3
  have e1 : y % 256 = ((m / 2 ^ k : Nat) : Int) % 256 := by omega
  rw [e1, Int.natCast_ediv, hm]
  have e2 : ((2 ^ k : Nat) : Int) = 2 ^ k := by norm_cast
  rw [e2]
  rcases (show k = 0 ∨ k = 1 ∨ k = 2 ∨ k = 3 ∨ k = 4 ∨ k = 5 ∨ k = 6 ∨ k = 7 ∨ k = 8 ∨ k = 9 ∨ k = 10 ∨ k = 11 ∨ k = 12 ∨ k = 13 ∨ k = 14 ∨ k = 15 ∨ k = 16 ∨ k = 17 ∨ k = 18 ∨ k = 19 ∨ k = 20 ∨ k = 21 ∨ k = 22 ∨ k = 23 ∨ k = 24 by omega) with rfl | rfl | rfl | rfl | rfl | rfl | rfl | rfl | rfl | rfl | rfl | rfl | rfl | rfl | rfl | rfl | rfl | rfl | rfl | rfl | rfl | rfl | rfl | rfl | rfl <;> omega
theorem by4_in (x : Int) (k : Nat) : 0 ≤ by4 x k ∧ by4 x k < 256 := ⟨Int.emod_nonneg _ (by decide), Int.emod_lt_of_pos _ (by decide)⟩
