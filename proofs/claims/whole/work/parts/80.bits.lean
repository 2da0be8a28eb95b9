/-! ===== bits of long numbers ===== -/
def tb (w : Int64) (k : Nat) : Bool := w.toBitVec.getLsbD k
theorem tb_or (a b : Int64) (k : Nat) : tb (a ||| b) k = (tb a k || tb b k) := by
  unfold tb
  rw [Int64.toBitVec_or, BitVec.getLsbD_or]
theorem tb_and (a b : Int64) (k : Nat) : tb (a &&& b) k = (tb a k && tb b k) := by
  unfold tb
  rw [Int64.toBitVec_and, BitVec.getLsbD_and]
theorem tb_0 (k : Nat) : tb 0 k = false := by
  unfold tb
  exact BitVec.getLsbD_zero
theorem tb_not (a : Int64) {k : Nat} (hk : k < 64) : tb (a ^^^ ab_lnum 1 1) k = !(tb a k) := by
  unfold tb
  rw [Int64.toBitVec_xor, BitVec.getLsbD_xor, show (ab_lnum 1 1).toBitVec = BitVec.allOnes 64 by decide +kernel, BitVec.getLsbD_allOnes]
  simp [hk]
theorem tb_one : ∀ k j : Fin 64, tb (1 <<< ((iv (k.val : Int)).toInt64 &&& 63)) j.val = decide (j = k) := by decide +kernel
theorem sh6 : ∀ c : Fin 256, (iv (c.val : Int) >>> (iv 6 &&& 31)).toInt = ((c.val / 64 : Nat) : Int) ∧ (iv (c.val : Int) &&& iv 63).toInt = ((c.val % 64 : Nat) : Int) := by decide +kernel
theorem ush_k : ∀ k : Fin 64, (((iv (k.val : Int)).toInt64.toUInt64 &&& Int64.toUInt64 63).toBitVec % 64).toNat = k.val := by decide +kernel
theorem ssh_k : ∀ k : Fin 64, (((iv (k.val : Int)).toInt64 &&& 63).toBitVec.smod 64).toNat = k.val := by decide +kernel
theorem lcmp0 (w : Int64) : iz_lcmp w 0 = 0 ↔ w = 0 := by
  unfold iz_lcmp
  by_cases c : w > 0
  · rw [if_pos c]
    exact ⟨fun z => absurd z (by decide), fun z => absurd c (by rw [z]; decide)⟩
  · rw [if_neg c]
    by_cases e : w = 0
    · rw [if_pos e]; exact ⟨fun _ => e, fun _ => rfl⟩
    · rw [if_neg e]; exact ⟨fun z => absurd z (by decide), fun z => absurd z e⟩
theorem bv_and1 (x : BitVec 64) : x &&& 1#64 = 0#64 ↔ x.getLsbD 0 = false := by
  constructor
  · intro h
    have := congrArg (fun y => BitVec.getLsbD y 0) h
    simp only [BitVec.getLsbD_and] at this
    simpa using this
  · intro h
    apply BitVec.eq_of_getLsbD_eq
    intro i hi
    rw [BitVec.getLsbD_and, BitVec.getLsbD_zero]
    by_cases c : i = 0
    · rw [c, h]; rfl
    · have : (1#64).getLsbD i = false := by
        simp [BitVec.getLsbD_one, c]
      rw [this, Bool.and_false]
theorem i64_0 (w : Int64) : w = 0 ↔ w.toBitVec = 0#64 := by
  constructor
  · intro h; rw [h]; rfl
  · intro h; exact Int64.toBitVec_inj.mp h
/-- the test of a bit, shifted without a sign -/
theorem tb_ush (w : Int64) {k : Nat} (hk : k < 64) : iz_lcmp (((w.toUInt64 >>> ((iv (k : Int)).toInt64.toUInt64 &&& Int64.toUInt64 63)).toInt64) &&& 1) 0 = 0 ↔ tb w k = false := by
  rw [lcmp0, i64_0, Int64.toBitVec_and]
  have e : ((w.toUInt64 >>> ((iv (k : Int)).toInt64.toUInt64 &&& Int64.toUInt64 63)).toInt64).toBitVec = w.toBitVec >>> k := by
    show (w.toUInt64 >>> ((iv (k : Int)).toInt64.toUInt64 &&& Int64.toUInt64 63)).toBitVec = _
    rw [UInt64.toBitVec_shiftRight]
    have := ush_k ⟨k, hk⟩
    show w.toBitVec >>> ((((iv (k : Int)).toInt64.toUInt64 &&& Int64.toUInt64 63).toBitVec % 64).toNat) = _
    rw [this]
  rw [e, show (1 : Int64).toBitVec = 1#64 from rfl, bv_and1, BitVec.getLsbD_ushiftRight, Nat.add_zero]
  rfl
