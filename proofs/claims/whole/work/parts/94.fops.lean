/-! ===== what joins pieces ===== -/
theorem fp_j4 {d k h : Nat} {B : iz_A} {Q : iz_Q} {v3 : Int} (hk : k < 60000) (hh : h + 1 < 400) (hP : Rn d mX11_findPositions Q 9 [some (.inr (.inl 55)), some (.inl (((h + 1 : Nat) : Int))), some (.inl (((k + 1 : Nat) : Int))), none, none, none, none] [] (iz_pI B 90 (uz (B.1 90) h (if B.1 90 h = 0 ∨ B.1 90 (h + 1) = 0 then 0 else 1)))) : Rn d mX11_findPositions Q 367 [some (.inr (.inl 55)), some (.inl (((h + 1 : Nat) : Int))), some (.inl ((k : Int))), some (.inl v3), some (.inl ((h : Int))), none, none] [] B := by
  refine w_X11_findPositions_367 ⟨⟨by omega, by omega⟩, fun z => ⟨⟨by omega, by omega⟩, Or.inl rfl, w_X11_findPositions_398 (fp_584 hk ?_)⟩, fun z => ⟨⟨by omega, by omega⟩, fun z2 => ⟨⟨by omega, by omega⟩, Or.inl rfl, w_X11_findPositions_398 (fp_584 hk ?_)⟩, fun z2 => ⟨⟨by omega, by omega⟩, Or.inr rfl, w_X11_findPositions_398 (fp_584 hk ?_)⟩⟩⟩
  · rw [tn] at z ⊢
    rw [if_pos (Or.inl z)] at hP
    exact hP
  · rw [tn] at z z2 ⊢
    rw [if_pos (Or.inr z2)] at hP
    exact hP
  · rw [tn] at z z2 ⊢
    rw [if_neg (fun w => w.elim z z2)] at hP
    exact hP
theorem fp_j3 {d k h : Nat} {B : iz_A} {Q : iz_Q} {v3 : Int} (hh : h + 1 < 400) (hP : Rn d mX11_findPositions Q 367 [some (.inr (.inl 55)), some (.inl (((h + 1 : Nat) : Int))), some (.inl ((k : Int))), some (.inl v3), some (.inl ((h : Int))), none, none] [] (iz_pL B 94 (vp_updL (B.2 94) h (B.2 94 (h + 1) ||| (if B.1 90 (h + 1) = 0 then 0 else B.2 94 h))))) : Rn d mX11_findPositions Q 333 [some (.inr (.inl 55)), some (.inl (((h + 1 : Nat) : Int))), some (.inl ((k : Int))), some (.inl v3), some (.inl ((h : Int))), none, none] [] B := by
  refine w_X11_findPositions_333 ⟨⟨by omega, by omega⟩, ⟨by omega, by omega⟩, fun z => ⟨⟨by omega, by omega⟩, ?_⟩, fun z => ⟨⟨by omega, by omega⟩, ⟨by omega, by omega⟩, ?_⟩⟩
  · rw [tn] at z ⊢
    rw [tn]
    rw [if_pos z] at hP
    exact hP
  · rw [tn] at z ⊢
    rw [tn]
    rw [if_neg z] at hP
    exact hP
theorem fp_j2 {d k h : Nat} {B : iz_A} {Q : iz_Q} {v3 : Int} (hh : h + 1 < 400) (hP : Rn d mX11_findPositions Q 333 [some (.inr (.inl 55)), some (.inl (((h + 1 : Nat) : Int))), some (.inl ((k : Int))), some (.inl v3), some (.inl ((h : Int))), none, none] [] (iz_pL B 93 (vp_updL (B.2 93) h (B.2 93 (h + 1) ||| (if B.1 90 (h + 1) = 0 then 0 else B.2 93 h))))) : Rn d mX11_findPositions Q 299 [some (.inr (.inl 55)), some (.inl (((h + 1 : Nat) : Int))), some (.inl ((k : Int))), some (.inl v3), some (.inl ((h : Int))), none, none] [] B := by
  refine w_X11_findPositions_299 ⟨⟨by omega, by omega⟩, ⟨by omega, by omega⟩, fun z => ⟨⟨by omega, by omega⟩, ?_⟩, fun z => ⟨⟨by omega, by omega⟩, ⟨by omega, by omega⟩, ?_⟩⟩
  · rw [tn] at z ⊢
    rw [tn]
    rw [if_pos z] at hP
    exact hP
  · rw [tn] at z ⊢
    rw [tn]
    rw [if_neg z] at hP
    exact hP
theorem fp_j1 {d k h : Nat} {B : iz_A} {Q : iz_Q} {v3 : Int} (hh : h + 1 < 400) (hP : Rn d mX11_findPositions Q 299 [some (.inr (.inl 55)), some (.inl (((h + 1 : Nat) : Int))), some (.inl ((k : Int))), some (.inl v3), some (.inl ((h : Int))), none, none] [] (iz_pL B 92 (vp_updL (B.2 92) h (B.2 92 h ||| (if B.1 90 h = 0 then 0 else B.2 92 (h + 1)))))) : Rn d mX11_findPositions Q 269 [some (.inr (.inl 55)), some (.inl (((h + 1 : Nat) : Int))), some (.inl ((k : Int))), some (.inl v3), some (.inl ((h : Int))), none, none] [] B := by
  refine w_X11_findPositions_269 ⟨⟨by omega, by omega⟩, ⟨by omega, by omega⟩, fun z => ⟨⟨by omega, by omega⟩, ?_⟩, fun z => ⟨⟨by omega, by omega⟩, ⟨by omega, by omega⟩, ?_⟩⟩
  · rw [tn] at z ⊢
    rw [if_pos z] at hP
    exact hP
  · rw [tn] at z ⊢
    rw [tn]
    rw [if_neg z] at hP
    exact hP
theorem b2_if (c : Prop) [Decidable c] (u v : Int64) (x : Nat) : b2 (if c then 0 else u) (if c then 0 else v) x ↔ (¬ c ∧ b2 u v x) := by
  by_cases h : c
  · rw [if_pos h, if_pos h]
    exact ⟨fun z => absurd z (b2_0 x), fun z => absurd h z.1⟩
  · rw [if_neg h, if_neg h]
    exact ⟨fun z => ⟨h, z⟩, fun z => z.2⟩
def Oth (h : Nat) (A C : iz_A) : Prop := ∀ i, i ≠ h → C.1 90 i = A.1 90 i ∧ C.2 91 i = A.2 91 i ∧ C.2 92 i = A.2 92 i ∧ C.2 93 i = A.2 93 i ∧ C.2 94 i = A.2 94 i
theorem fp_join {d k h ps mk : Nat} {A : iz_A} {Q : iz_Q} (hw : A.1 83 k = -1) (hmk : A.1 55 48 = (mk : Int)) (hk : k < mk) (hm : mk ≤ 59990) (hps : A.1 55 55 = (ps : Int)) (hp : ps ≤ 120) (hh : h + 1 < 400) (hP : ∀ C, fr [88, 89, 90, 91, 92, 93, 94] A C → Oth h A C → (∀ x, x < ps → b2 (A.2 93 h) (A.2 94 h) x → C.2 88 x = (A.2 88 x ||| A.2 91 (h + 1)) ∧ C.2 89 x = (A.2 89 x ||| A.2 92 (h + 1))) → (∀ x, ¬ (x < ps ∧ b2 (A.2 93 h) (A.2 94 h) x) → C.2 88 x = A.2 88 x ∧ C.2 89 x = A.2 89 x) → C.1 90 h = (if A.1 90 h = 0 ∨ A.1 90 (h + 1) = 0 then 0 else 1) → (∀ x, b2 (C.2 91 h) (C.2 92 h) x ↔ b2 (A.2 91 h) (A.2 92 h) x ∨ (¬ A.1 90 h = 0 ∧ b2 (A.2 91 (h + 1)) (A.2 92 (h + 1)) x)) → (∀ x, b2 (C.2 93 h) (C.2 94 h) x ↔ b2 (A.2 93 (h + 1)) (A.2 94 (h + 1)) x ∨ (¬ A.1 90 (h + 1) = 0 ∧ b2 (A.2 93 h) (A.2 94 h) x)) → Rn (d + 1) mX11_findPositions Q 9 [some (.inr (.inl 55)), some (.inl (((h + 1 : Nat) : Int))), some (.inl (((k + 1 : Nat) : Int))), none, none, none, none] [] C) : Rn (d + 1) mX11_findPositions Q 9 [some (.inr (.inl 55)), some (.inl (((h + 2 : Nat) : Int))), some (.inl ((k : Int))), none, none, none, none] [] A := by
  refine w_X11_findPositions_9 ⟨fun z => by omega, fun _ => ⟨⟨by omega, by omega⟩, ?_, ?_⟩⟩
  · rw [tn, hw]
    exact fun z => absurd z (by decide)
  rw [tn, hw]
  refine fun _ => ⟨fun _ => ⟨fun z => absurd rfl z, fun _ => ?_⟩, fun z => absurd z (by decide)⟩
  rw [show ((h + 2 : Nat) : Int) + -1 = ((h + 1 : Nat) : Int) by omega, show ((h + 1 : Nat) : Int) - 1 = (h : Int) by omega, tn, tn]
  refine ⟨inR_b (by omega) (by omega), inR_b (by omega) (by omega), ⟨by omega, by omega⟩, ⟨by omega, by omega⟩, ⟨by omega, by omega⟩, ⟨by omega, by omega⟩, sM_follow hps (by omega) (fun B f b1 b2' => ⟨⟨by omega, by omega⟩, ⟨by omega, by omega⟩, fun z => ⟨⟨by omega, by omega⟩, ?_⟩, fun z => ⟨⟨by omega, by omega⟩, ⟨by omega, by omega⟩, ?_⟩⟩)⟩
  · refine fp_j1 hh (fp_j2 hh (fp_j3 hh (fp_j4 (by omega) hh (hP _ ?_ ?_ ?_ ?_ ?_ ?_ ?_))))
    · exact fr_pI (fr_pL (fr_pL (fr_pL (fr_pL (fr_mo f (by decide)) (by decide)) (by decide)) (by decide)) (by decide)) (by decide)
    · intro i hi
      refine ⟨(uz_ne _ _ hi).trans ?_, (up_ne _ _ hi).trans ?_, (up_ne _ _ hi).trans ?_, (up_ne _ _ hi).trans ?_, (up_ne _ _ hi).trans ?_⟩
      · show B.1 90 i = _
        rw [f.1 90 (by decide)]
      · show B.2 91 i = _
        rw [f.2 91 (by decide)]
      · show B.2 92 i = _
        rw [f.2 92 (by decide)]
      · show B.2 93 i = _
        rw [f.2 93 (by decide)]
      · show B.2 94 i = _
        rw [f.2 94 (by decide)]
    · exact b1
    · exact b2'
    · refine (uz_at _ _ _).trans ?_
      show (if B.1 90 h = 0 ∨ B.1 90 (h + 1) = 0 then (0 : Int) else 1) = _
      rw [f.1 90 (by decide)]
    · intro x
      show b2 (vp_updL (B.2 91) h (B.2 91 h ||| 0) h) (vp_updL (B.2 92) h (B.2 92 h ||| (if B.1 90 h = 0 then 0 else B.2 92 (h + 1))) h) x ↔ _
      rw [up_at, up_at, f.1 90 (by decide), if_pos (show A.1 90 h = 0 by rw [← f.1 90 (by decide)]; exact z), b2_or, f.2 91 (by decide), f.2 92 (by decide)]
      exact ⟨fun w => w.elim Or.inl (fun w => absurd w (b2_0 x)), fun w => w.elim Or.inl (fun w => absurd (show A.1 90 h = 0 by rw [← f.1 90 (by decide)]; exact z) w.1)⟩
    · intro x
      show b2 (vp_updL (B.2 93) h (B.2 93 (h + 1) ||| (if B.1 90 (h + 1) = 0 then 0 else B.2 93 h)) h) (vp_updL (B.2 94) h (B.2 94 (h + 1) ||| (if B.1 90 (h + 1) = 0 then 0 else B.2 94 h)) h) x ↔ _
      rw [up_at, up_at, b2_or, b2_if, f.1 90 (by decide), f.2 93 (by decide), f.2 94 (by decide)]
  · refine fp_j1 hh (fp_j2 hh (fp_j3 hh (fp_j4 (by omega) hh (hP _ ?_ ?_ ?_ ?_ ?_ ?_ ?_))))
    · exact fr_pI (fr_pL (fr_pL (fr_pL (fr_pL (fr_mo f (by decide)) (by decide)) (by decide)) (by decide)) (by decide)) (by decide)
    · intro i hi
      refine ⟨(uz_ne _ _ hi).trans ?_, (up_ne _ _ hi).trans ?_, (up_ne _ _ hi).trans ?_, (up_ne _ _ hi).trans ?_, (up_ne _ _ hi).trans ?_⟩
      · show B.1 90 i = _
        rw [f.1 90 (by decide)]
      · show B.2 91 i = _
        rw [f.2 91 (by decide)]
      · show B.2 92 i = _
        rw [f.2 92 (by decide)]
      · show B.2 93 i = _
        rw [f.2 93 (by decide)]
      · show B.2 94 i = _
        rw [f.2 94 (by decide)]
    · exact b1
    · exact b2'
    · refine (uz_at _ _ _).trans ?_
      show (if B.1 90 h = 0 ∨ B.1 90 (h + 1) = 0 then (0 : Int) else 1) = _
      rw [f.1 90 (by decide)]
    · intro x
      show b2 (vp_updL (B.2 91) h (B.2 91 h ||| B.2 91 (h + 1)) h) (vp_updL (B.2 92) h (B.2 92 h ||| (if B.1 90 h = 0 then 0 else B.2 92 (h + 1))) h) x ↔ _
      have z' : ¬ A.1 90 h = 0 := by rw [← f.1 90 (by decide)]; exact z
      rw [up_at, up_at, f.1 90 (by decide), if_neg z', b2_or, f.2 91 (by decide), f.2 92 (by decide)]
      exact ⟨fun w => w.elim Or.inl (fun w => Or.inr ⟨z', w⟩), fun w => w.elim Or.inl (fun w => Or.inr w.2)⟩
    · intro x
      show b2 (vp_updL (B.2 93) h (B.2 93 (h + 1) ||| (if B.1 90 (h + 1) = 0 then 0 else B.2 93 h)) h) (vp_updL (B.2 94) h (B.2 94 (h + 1) ||| (if B.1 90 (h + 1) = 0 then 0 else B.2 94 h)) h) x ↔ _
      rw [up_at, up_at, b2_or, b2_if, f.1 90 (by decide), f.2 93 (by decide), f.2 94 (by decide)]
theorem fp_or {d k h mk : Nat} {A : iz_A} {Q : iz_Q} (hw : A.1 83 k = -2) (hmk : A.1 55 48 = (mk : Int)) (hk : k < mk) (hm : mk ≤ 59990) (hh : h + 1 < 400) (hP : ∀ C, fr [90, 91, 92, 93, 94] A C → Oth h A C → C.1 90 h = (if A.1 90 h = 0 ∧ A.1 90 (h + 1) = 0 then 0 else 1) → (∀ x, b2 (C.2 91 h) (C.2 92 h) x ↔ b2 (A.2 91 h) (A.2 92 h) x ∨ b2 (A.2 91 (h + 1)) (A.2 92 (h + 1)) x) → (∀ x, b2 (C.2 93 h) (C.2 94 h) x ↔ b2 (A.2 93 h) (A.2 94 h) x ∨ b2 (A.2 93 (h + 1)) (A.2 94 (h + 1)) x) → Rn d mX11_findPositions Q 9 [some (.inr (.inl 55)), some (.inl (((h + 1 : Nat) : Int))), some (.inl (((k + 1 : Nat) : Int))), none, none, none, none] [] C) : Rn d mX11_findPositions Q 9 [some (.inr (.inl 55)), some (.inl (((h + 2 : Nat) : Int))), some (.inl ((k : Int))), none, none, none, none] [] A := by
  refine w_X11_findPositions_9 ⟨fun z => by omega, fun _ => ⟨⟨by omega, by omega⟩, ?_, ?_⟩⟩
  · rw [tn, hw]
    exact fun z => absurd z (by decide)
  rw [tn, hw]
  refine fun _ => ⟨fun _ => ⟨fun _ => ⟨fun z => absurd rfl z, fun _ => ?_⟩, fun z => absurd z (by decide)⟩, fun z => absurd z (by decide)⟩
  rw [show ((h + 2 : Nat) : Int) + -1 = ((h + 1 : Nat) : Int) by omega, show ((h + 1 : Nat) : Int) - 1 = (h : Int) by omega, tn, tn]
  have fin : ∀ e : Int, e = (if A.1 90 h = 0 ∧ A.1 90 (h + 1) = 0 then 0 else 1) → Rn d mX11_findPositions Q 510 [some (.inr (.inl 55)), some (.inl (((h + 1 : Nat) : Int))), some (.inl ((k : Int))), some (.inl (-2)), some (.inl ((h : Int))), none, none] [] (iz_pI (iz_pL (iz_pL (iz_pL (iz_pL A 91 (vp_updL (A.2 91) h (A.2 91 h ||| A.2 91 (h + 1)))) 92 (vp_updL (A.2 92) h (A.2 92 h ||| A.2 92 (h + 1)))) 93 (vp_updL (A.2 93) h (A.2 93 h ||| A.2 93 (h + 1)))) 94 (vp_updL (A.2 94) h (A.2 94 h ||| A.2 94 (h + 1)))) 90 (uz (A.1 90) h e)) := fun e he => by
    refine w_X11_findPositions_510 (fp_584 (by omega) (hP _ (fr_pI (fr_pL (fr_pL (fr_pL (fr_pL (fr_mo (fr_rf A) (by decide)) (by decide)) (by decide)) (by decide)) (by decide)) (by decide)) (fun i hi => ⟨uz_ne _ _ hi, up_ne _ _ hi, up_ne _ _ hi, up_ne _ _ hi, up_ne _ _ hi⟩) ((uz_at _ _ _).trans he) (fun x => ?_) (fun x => ?_)))
    · show b2 (vp_updL _ h _ h) (vp_updL _ h _ h) x ↔ _
      rw [up_at, up_at, b2_or]
    · show b2 (vp_updL _ h _ h) (vp_updL _ h _ h) x ↔ _
      rw [up_at, up_at, b2_or]
  refine ⟨inR_b (by omega) (by omega), inR_b (by omega) (by omega), ⟨by omega, by omega⟩, ⟨by omega, by omega⟩, ⟨by omega, by omega⟩, ⟨by omega, by omega⟩, ⟨by omega, by omega⟩, ⟨by omega, by omega⟩, ⟨by omega, by omega⟩, ⟨by omega, by omega⟩, ⟨by omega, by omega⟩, ⟨by omega, by omega⟩, ⟨by omega, by omega⟩, ⟨by omega, by omega⟩, ⟨by omega, by omega⟩, fun z => ⟨⟨by omega, by omega⟩, Or.inr rfl, fin 1 (by rw [if_neg (fun w => z w.1)])⟩, fun z => ⟨⟨by omega, by omega⟩, fun z2 => ⟨⟨by omega, by omega⟩, Or.inl rfl, fin 0 (by rw [if_pos ⟨z, z2⟩])⟩, fun z2 => ⟨⟨by omega, by omega⟩, Or.inr rfl, fin 1 (by rw [if_neg (fun w => z2 w.2)])⟩⟩⟩
theorem fp_once {d k h ps mk : Nat} {A : iz_A} {Q : iz_Q} {w : Int} (hw : A.1 83 k = w) (hw2 : w = -3 ∨ w = -4 ∨ w = -5) (hmk : A.1 55 48 = (mk : Int)) (hk : k < mk) (hm : mk ≤ 59990) (hps : A.1 55 55 = (ps : Int)) (hp : ps ≤ 120) (hh : h < 400) (hP : ∀ C, fr [88, 89, 90] A C → (∀ i, i ≠ h → C.1 90 i = A.1 90 i) → (∀ x, ¬ w = -5 → x < ps → b2 (A.2 93 h) (A.2 94 h) x → C.2 88 x = (A.2 88 x ||| A.2 91 h) ∧ C.2 89 x = (A.2 89 x ||| A.2 92 h)) → (∀ x, ¬ (¬ w = -5 ∧ x < ps ∧ b2 (A.2 93 h) (A.2 94 h) x) → C.2 88 x = A.2 88 x ∧ C.2 89 x = A.2 89 x) → C.1 90 h = (if A.1 90 h = 0 ∧ w = -4 then 0 else 1) → Rn (d + 1) mX11_findPositions Q 9 [some (.inr (.inl 55)), some (.inl (((h + 1 : Nat) : Int))), some (.inl (((k + 1 : Nat) : Int))), none, none, none, none] [] C) : Rn (d + 1) mX11_findPositions Q 9 [some (.inr (.inl 55)), some (.inl (((h + 1 : Nat) : Int))), some (.inl ((k : Int))), none, none, none, none] [] A := by
  have last : ∀ B, fr [88, 89] A B → (∀ x, ¬ w = -5 → x < ps → b2 (A.2 93 h) (A.2 94 h) x → B.2 88 x = (A.2 88 x ||| A.2 91 h) ∧ B.2 89 x = (A.2 89 x ||| A.2 92 h)) → (∀ x, ¬ (¬ w = -5 ∧ x < ps ∧ b2 (A.2 93 h) (A.2 94 h) x) → B.2 88 x = A.2 88 x ∧ B.2 89 x = A.2 89 x) → Rn (d + 1) mX11_findPositions Q 556 [some (.inr (.inl 55)), some (.inl (((h + 1 : Nat) : Int))), some (.inl ((k : Int))), some (.inl w), some (.inl ((h : Int))), none, none] [] B := fun B f b1 b2' => by
    have fin : ∀ e : Int, e = (if A.1 90 h = 0 ∧ w = -4 then 0 else 1) → Rn (d + 1) mX11_findPositions Q 584 [some (.inr (.inl 55)), some (.inl (((h + 1 : Nat) : Int))), some (.inl ((k : Int))), some (.inl w), some (.inl ((h : Int))), none, none] [] (iz_pI B 90 (uz (B.1 90) h e)) := fun e he => fp_584 (by omega) (hP _ (fr_pI (fr_mo f (by decide)) (by decide)) (fun i hi => (uz_ne _ _ hi).trans (by rw [f.1 90 (by decide)])) b1 b2' ((uz_at _ _ _).trans he))
    have e90 : B.1 90 h = A.1 90 h := by rw [f.1 90 (by decide)]
    refine w_X11_findPositions_556 ?_
    rw [tn, e90]
    exact ⟨⟨by omega, by omega⟩, fun z => ⟨⟨by omega, by omega⟩, Or.inr rfl, fin 1 (by rw [if_neg (fun y => z y.1)])⟩, fun z => ⟨fun z2 => ⟨⟨by omega, by omega⟩, Or.inl rfl, fin 0 (by rw [if_pos ⟨z, z2⟩])⟩, fun z2 => ⟨⟨by omega, by omega⟩, Or.inr rfl, fin 1 (by rw [if_neg (fun y => z2 y.2)])⟩⟩⟩
  refine w_X11_findPositions_9 ⟨fun z => by omega, fun _ => ⟨⟨by omega, by omega⟩, ?_, ?_⟩⟩
  · rw [tn, hw]
    exact fun z => by omega
  rw [tn, hw, show ((h + 1 : Nat) : Int) - 1 = (h : Int) by omega, tn]
  refine fun _ => ⟨fun _ => ⟨fun _ => ⟨fun _ => ⟨inR_b (by omega) (by omega), fun z => last A (fr_mo (fr_rf A) (by decide)) (fun x y => absurd z y) (fun x y => ⟨rfl, rfl⟩), fun z => ⟨⟨by omega, by omega⟩, ⟨by omega, by omega⟩, ⟨by omega, by omega⟩, ⟨by omega, by omega⟩, sM_follow hps (by omega) (fun B f b1 b2' => last B f (fun x _ => b1 x) (fun x y => b2' x (fun c => y ⟨z, c⟩)))⟩⟩, fun z => by omega⟩, fun z => by omega⟩, fun z => by omega⟩
