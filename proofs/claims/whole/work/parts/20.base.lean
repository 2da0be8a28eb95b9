/-! ===== the two classes' methods over whole numbers ===== -/
abbrev Tn (d : Nat) : Nat → List iz_V → iz_A → iz_Q → Prop := iz_T shF NF prg d
abbrev Rn (d : Nat) (M : ab_M) (Q : iz_Q) : Nat → iz_L → List iz_V → iz_A → Prop := iz_run none shF NF (ab_oc prg) (iz_T shF NF prg d) M.2.2.2.2.1 M.2.2.2.2.2 Q
/-- a call that answers a number; a call that answers nothing -/
def Ci (d k : Nat) (as : List iz_V) (A : iz_A) (P : Int → iz_A → Prop) : Prop := Tn d k as A fun v A' => ∃ x, v = some (.inl x) ∧ P x A'
def Cv (d k : Nat) (as : List iz_V) (A : iz_A) (P : iz_A → Prop) : Prop := Tn d k as A fun v A' => v = none ∧ P A'
theorem Ci_out {d k : Nat} {as : List iz_V} {A : iz_A} {P : Int → iz_A → Prop} {Q : iz_Q} (h : Ci d k as A P) (f : ∀ x A', P x A' → Q (some (.inl x)) A') : iz_T shF NF prg d k as A Q :=
  iz_T_mono d d (Nat.le_refl d) k as A _ Q h fun v A' hv => by
    obtain ⟨x, rfl, hp⟩ := hv
    exact f x A' hp
theorem Cv_out {d k : Nat} {as : List iz_V} {A : iz_A} {P : iz_A → Prop} {Q : iz_Q} (h : Cv d k as A P) (f : ∀ A', P A' → Q none A') : iz_T shF NF prg d k as A Q :=
  iz_T_mono d d (Nat.le_refl d) k as A _ Q h fun v A' hv => by
    obtain ⟨rfl, hp⟩ := hv
    exact f A' hp
theorem Ci_mono {d d' k : Nat} (hd : d ≤ d') {as : List iz_V} {A : iz_A} {P P' : Int → iz_A → Prop} (h : Ci d k as A P) (f : ∀ x A', P x A' → P' x A') : Ci d' k as A P' :=
  iz_T_mono d d' hd k as A _ _ h fun v A' hv => by
    obtain ⟨x, rfl, hp⟩ := hv
    exact ⟨x, rfl, f x A' hp⟩
theorem Cv_mono {d d' k : Nat} (hd : d ≤ d') {as : List iz_V} {A : iz_A} {P P' : iz_A → Prop} (h : Cv d k as A P) (f : ∀ A', P A' → P' A') : Cv d' k as A P' :=
  iz_T_mono d d' hd k as A _ _ h fun v A' hv => by
    obtain ⟨rfl, hp⟩ := hv
    exact ⟨rfl, f A' hp⟩
theorem iz_le_nil : iz_le [] [] := ⟨rfl, fun i v h => by simp at h⟩
theorem iz_le_k {x : Option iz_V} {L0 L : iz_L} (h : iz_le L0 L) : iz_le (x :: L0) (x :: L) := ⟨congrArg (· + 1) h.1, fun i v hv => by
  cases i with
  | zero => exact hv
  | succ i => exact h.2 i v hv⟩
theorem iz_le_n {y : Option iz_V} {L0 L : iz_L} (h : iz_le L0 L) : iz_le (none :: L0) (y :: L) := ⟨congrArg (· + 1) h.1, fun i v hv => by
  cases i with
  | zero => cases hv
  | succ i => exact h.2 i v hv⟩
abbrev Rl (n : Nat) (xs : Nat → Int32) (Q : iz_Q) : Nat → iz_L → List iz_V → iz_A → Prop := iz_run (some (n, xs)) shF NF (ab_oc prg) (iz_T shF NF prg 200) (some .boolean) kL Q
