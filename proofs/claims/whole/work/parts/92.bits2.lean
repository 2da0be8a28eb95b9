/-! ===== sets of places of a query, in two long numbers ===== -/
def b2 (u v : Int64) (x : Nat) : Prop := (x < 64 ∧ tb u x = true) ∨ (64 ≤ x ∧ x < 128 ∧ tb v (x - 64) = true)
theorem b2_or (u v u' v' : Int64) (x : Nat) : b2 (u ||| u') (v ||| v') x ↔ b2 u v x ∨ b2 u' v' x := by
  unfold b2
  rw [tb_or, tb_or, Bool.or_eq_true, Bool.or_eq_true]
  constructor
  · rintro (⟨a, b | b⟩ | ⟨a, c, b | b⟩)
    · exact Or.inl (Or.inl ⟨a, b⟩)
    · exact Or.inr (Or.inl ⟨a, b⟩)
    · exact Or.inl (Or.inr ⟨a, c, b⟩)
    · exact Or.inr (Or.inr ⟨a, c, b⟩)
  · rintro ((⟨a, b⟩ | ⟨a, c, b⟩) | (⟨a, b⟩ | ⟨a, c, b⟩))
    · exact Or.inl ⟨a, Or.inl b⟩
    · exact Or.inr ⟨a, c, Or.inl b⟩
    · exact Or.inl ⟨a, Or.inr b⟩
    · exact Or.inr ⟨a, c, Or.inr b⟩
theorem b2_and (u v u' v' : Int64) (x : Nat) : b2 (u &&& u') (v &&& v') x ↔ b2 u v x ∧ b2 u' v' x := by
  unfold b2
  rw [tb_and, tb_and, Bool.and_eq_true, Bool.and_eq_true]
  constructor
  · rintro (⟨a, b, b'⟩ | ⟨a, c, b, b'⟩)
    · exact ⟨Or.inl ⟨a, b⟩, Or.inl ⟨a, b'⟩⟩
    · exact ⟨Or.inr ⟨a, c, b⟩, Or.inr ⟨a, c, b'⟩⟩
  · rintro ⟨⟨a, b⟩ | ⟨a, c, b⟩, ⟨a', b'⟩ | ⟨a', c', b'⟩⟩
    · exact Or.inl ⟨a, b, b'⟩
    · omega
    · omega
    · exact Or.inr ⟨a, c, b, b'⟩
theorem b2_0 (x : Nat) : ¬ b2 0 0 x := by
  unfold b2
  rw [tb_0, tb_0]
  rintro (⟨_, b⟩ | ⟨_, _, b⟩) <;> cases b
theorem lcmp1 (w : Int64) : iz_lcmp w 1 = 0 ↔ w = 1 := by
  unfold iz_lcmp
  by_cases c : w > 1
  · rw [if_pos c]
    exact ⟨fun z => absurd z (by decide), fun z => absurd c (by rw [z]; decide)⟩
  · rw [if_neg c]
    by_cases e : w = 1
    · rw [if_pos e]; exact ⟨fun _ => e, fun _ => rfl⟩
    · rw [if_neg e]; exact ⟨fun z => absurd z (by decide), fun z => absurd z e⟩
theorem bv_and1' (x : BitVec 64) : x &&& 1#64 = 1#64 ↔ x.getLsbD 0 = true := by
  constructor
  · intro h
    have := congrArg (fun y => BitVec.getLsbD y 0) h
    simp only [BitVec.getLsbD_and] at this
    simpa using this
  · intro h
    apply BitVec.eq_of_getLsbD_eq
    intro i hi
    rw [BitVec.getLsbD_and]
    by_cases c : i = 0
    · rw [c, h]; rfl
    · have : (1#64).getLsbD i = false := by
        simp [BitVec.getLsbD_one, c]
      rw [this, Bool.and_false]
theorem i64_1 (w : Int64) : w = 1 ↔ w.toBitVec = 1#64 := by
  constructor
  · intro h; rw [h]; rfl
  · intro h; exact Int64.toBitVec_inj.mp h
/-- the test of a bit, shifted with its sign -/
theorem tb_ssh (w : Int64) {k : Nat} (hk : k < 64) : iz_lcmp ((w >>> ((iv (k : Int)).toInt64 &&& 63)) &&& 1) 1 = 0 ↔ tb w k = true := by
  rw [lcmp1, i64_1, Int64.toBitVec_and]
  have e : (w >>> ((iv (k : Int)).toInt64 &&& 63)).toBitVec = w.toBitVec.sshiftRight k := by
    rw [Int64.toBitVec_shiftRight]
    have := ssh_k ⟨k, hk⟩
    show w.toBitVec.sshiftRight ((((iv (k : Int)).toInt64 &&& 63).toBitVec.smod 64).toNat) = _
    rw [this]
  rw [e, show (1 : Int64).toBitVec = 1#64 from rfl, bv_and1', BitVec.getLsbD_sshiftRight]
  rw [if_pos (by omega), Nat.add_zero]
  unfold tb
  simp
theorem tb_lt {w : Int64} {k : Nat} (h : tb w k = true) : k < 64 := by
  unfold tb at h
  exact BitVec.lt_of_getLsbD h
/-- no bit at all -/
theorem lcmp_b2 (u v : Int64) : iz_lcmp (u ||| v) 0 = 0 ↔ ∀ x, ¬ b2 u v x := by
  rw [lcmp0]
  constructor
  · intro h x b
    have hz : ∀ k, tb u k = false ∧ tb v k = false := fun k => by
      have e := congrArg (fun w => tb w k) h
      simp only [tb_or, tb_0] at e
      exact Bool.or_eq_false_iff.1 e
    rcases b with ⟨_, b⟩ | ⟨_, _, b⟩
    · rw [(hz x).1] at b; cases b
    · rw [(hz (x - 64)).2] at b; cases b
  · intro h
    rw [i64_0]
    apply BitVec.eq_of_getLsbD_eq
    intro i hi
    have e : (u ||| v).toBitVec.getLsbD i = (tb u i || tb v i) := tb_or u v i
    rw [e, BitVec.getLsbD_zero, Bool.or_eq_false_iff]
    constructor
    · cases c : tb u i with
      | false => rfl
      | true => exact absurd (Or.inl ⟨hi, c⟩) (h i)
    · cases c : tb v i with
      | false => rfl
      | true => exact absurd (Or.inr ⟨(by omega), (by omega), by rw [show i + 64 - 64 = i by omega]; exact c⟩) (h (i + 64))
theorem iv_mod : ∀ k : Fin 128, (iv ((iv (k.val : Int) - iv (k.val : Int) / iv 64 * iv 64).toInt)) = iv ((k.val % 64 : Nat) : Int) := by decide +kernel
/-- the set of one place alone -/
theorem b2_one {k : Nat} (hk : k < 64) (x : Nat) : b2 (1 <<< ((iv (k : Int)).toInt64 &&& 63)) 0 x ↔ x = k := by
  unfold b2
  rw [tb_0]
  constructor
  · rintro (⟨a, b⟩ | ⟨_, _, b⟩)
    · have := tb_one ⟨k, hk⟩ ⟨x, a⟩
      have e : tb (1 <<< ((iv (k : Int)).toInt64 &&& 63)) x = decide ((⟨x, a⟩ : Fin 64) = ⟨k, hk⟩) := this
      rw [e, decide_eq_true_iff] at b
      exact congrArg Fin.val b
    · cases b
  · intro e
    subst e
    have := tb_one ⟨x, hk⟩ ⟨x, hk⟩
    refine Or.inl ⟨hk, ?_⟩
    have e : tb (1 <<< ((iv (x : Int)).toInt64 &&& 63)) x = decide ((⟨x, hk⟩ : Fin 64) = ⟨x, hk⟩) := this
    rw [e, decide_eq_true_iff]
theorem b2_one' {k : Nat} (hk : k < 64) (x : Nat) : b2 0 (1 <<< ((iv (k : Int)).toInt64 &&& 63)) x ↔ x = k + 64 := by
  unfold b2
  rw [tb_0]
  constructor
  · rintro (⟨_, b⟩ | ⟨a, a', b⟩)
    · cases b
    · have := tb_one ⟨k, hk⟩ ⟨x - 64, (by omega)⟩
      have e : tb (1 <<< ((iv (k : Int)).toInt64 &&& 63)) (x - 64) = decide ((⟨x - 64, (by omega)⟩ : Fin 64) = ⟨k, hk⟩) := this
      rw [e, decide_eq_true_iff] at b
      have := congrArg Fin.val b
      simp only at this
      omega
  · intro e
    subst e
    have := tb_one ⟨k, hk⟩ ⟨k, hk⟩
    refine Or.inr ⟨(by omega), (by omega), ?_⟩
    rw [show k + 64 - 64 = k by omega]
    have e : tb (1 <<< ((iv (k : Int)).toInt64 &&& 63)) k = decide ((⟨k, hk⟩ : Fin 64) = ⟨k, hk⟩) := this
    rw [e, decide_eq_true_iff]
/-- what follows the places of a set -/
theorem sM_follow {d ps : Nat} {A : iz_A} {v1 v3 v5 v7 : Int64} {P : iz_A → Prop} (hp : A.1 55 55 = (ps : Int)) (hb : ps ≤ 128) (hP : ∀ C, fr [88, 89] A C → (∀ x, x < ps → b2 v1 v3 x → C.2 88 x = (A.2 88 x ||| v5) ∧ C.2 89 x = (A.2 89 x ||| v7)) → (∀ x, ¬ (x < ps ∧ b2 v1 v3 x) → C.2 88 x = A.2 88 x ∧ C.2 89 x = A.2 89 x) → P C) : Cv (d + 1) 221 [.inr (.inl 55), .inr (.inr v1), .inr (.inr v3), .inr (.inr v5), .inr (.inr v7)] A P := by
  refine e_X11_follow ?_
  refine dwl (P := fun q => ∀ C, fr [88, 89] A C → (∀ x, x < q → b2 v1 v3 x → C.2 88 x = (A.2 88 x ||| v5) ∧ C.2 89 x = (A.2 89 x ||| v7)) → (∀ x, ¬ (x < q ∧ b2 v1 v3 x) → C.2 88 x = A.2 88 x ∧ C.2 89 x = A.2 89 x) → Rn d mX11_follow (fun v A' => v = none ∧ P A') 3 [some (.inr (.inl 55)), some (.inr (.inr v1)), none, some (.inr (.inr v3)), none, some (.inr (.inr v5)), none, some (.inr (.inr v7)), none, some (.inl ((q : Int))), none] [] C) (a := 0) (n := ps) ?_ (fun q _ hq ih => ?_) (Nat.zero_le _) A (fr_mo (fr_rf A) (by decide)) (fun x hx => absurd hx (Nat.not_lt_zero x)) (fun _ _ => ⟨rfl, rfl⟩)
  · intro C f c1 c2
    have cp : C.1 55 55 = (ps : Int) := by rw [f.1 55 (by decide)]; exact hp
    exact w_X11_follow_3 ⟨fun _ => ⟨rfl, hP C f c1 c2⟩, fun z => by omega⟩
  · intro C f c1 c2
    have cp : C.1 55 55 = (ps : Int) := by rw [f.1 55 (by decide)]; exact hp
    rw [show ((q + 1 : Nat) : Int) = (q : Int) + 1 by omega] at ih
    have no : ¬ b2 v1 v3 q → ∀ v10 : Int, v10 = 0 → Rn d mX11_follow (fun v A' => v = none ∧ P A') 59 [some (.inr (.inl 55)), some (.inr (.inr v1)), none, some (.inr (.inr v3)), none, some (.inr (.inr v5)), none, some (.inr (.inr v7)), none, some (.inl ((q : Int))), some (.inl v10)] [] C := fun hn v10 h0 => w_X11_follow_59 ⟨fun _ => w_X11_follow_88 ⟨inR_b (by omega) (by omega), ih C f (fun x hx b => by
      by_cases e : x = q
      · exact absurd (e ▸ b) hn
      · exact c1 x (by omega) b) (fun x hx => by
      by_cases e : x = q
      · exact c2 x (fun z => by omega)
      · exact c2 x (fun z => hx ⟨(by omega), z.2⟩))⟩, fun z => absurd h0 z⟩
    have yes : b2 v1 v3 q → Rn d mX11_follow (fun v A' => v = none ∧ P A') 59 [some (.inr (.inl 55)), some (.inr (.inr v1)), none, some (.inr (.inr v3)), none, some (.inr (.inr v5)), none, some (.inr (.inr v7)), none, some (.inl ((q : Int))), some (.inl 1)] [] C := fun hy => by
      refine w_X11_follow_59 ⟨fun z => absurd z (by decide), fun _ => ⟨⟨by omega, by omega⟩, ⟨by omega, by omega⟩, ⟨by omega, by omega⟩, ⟨by omega, by omega⟩, w_X11_follow_88 ⟨inR_b (by omega) (by omega), ?_⟩⟩⟩
      rw [tn]
      have old := c2 q (fun z => by omega)
      refine ih _ (fr_pL (fr_pL f (by decide)) (by decide)) (fun x hx b => ?_) (fun x hx => ?_)
      · show vp_updL (C.2 88) q (C.2 88 q ||| v5) x = _ ∧ vp_updL (C.2 89) q (C.2 89 q ||| v7) x = _
        by_cases e : x = q
        · rw [e, up_at, up_at, old.1, old.2]
          exact ⟨rfl, rfl⟩
        · rw [up_ne _ _ e, up_ne _ _ e]
          exact c1 x (by omega) b
      · show vp_updL (C.2 88) q (C.2 88 q ||| v5) x = _ ∧ vp_updL (C.2 89) q (C.2 89 q ||| v7) x = _
        have e : x ≠ q := fun e => hx ⟨(by omega), e ▸ hy⟩
        rw [up_ne _ _ e, up_ne _ _ e]
        exact c2 x (fun z => hx ⟨(by omega), z.2⟩)
    refine w_X11_follow_3 ⟨fun z => by omega, fun _ => ⟨fun z64 => ⟨inR_b (by omega) (by omega), fun z => ?_, fun z => ?_⟩, fun z64 => ⟨fun z => ?_, fun z => ?_⟩⟩⟩
    · rw [show (q : Int) - 64 = ((q - 64 : Nat) : Int) by omega, tb_ssh _ (show q - 64 < 64 by omega)] at z
      exact no (fun b => b.elim (fun w => by omega) (fun w => z w.2.2)) _ rfl
    · rw [show (q : Int) - 64 = ((q - 64 : Nat) : Int) by omega, tb_ssh _ (show q - 64 < 64 by omega)] at z
      exact yes (Or.inr ⟨(by omega), (by omega), z⟩)
    · rw [tb_ssh _ (show q < 64 by omega)] at z
      exact no (fun b => b.elim (fun w => z w.2) (fun w => by omega)) _ rfl
    · rw [tb_ssh _ (show q < 64 by omega)] at z
      exact yes (Or.inl ⟨(by omega), z⟩)
