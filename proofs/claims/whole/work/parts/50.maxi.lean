/-! ===== maximal ===== -/
/-- the first row from k on that shares less than c -/
def lsf (x : Ix) (c : Nat) : Nat → Nat → Nat
  | 0, k => k
  | m + 1, k => if k < ixn x ∧ c ≤ ixc x k then lsf x c m (k + 1) else k
def lsr (x : Ix) (j : Nat) : Nat := lsf x (ixc x j) (ixn x) (j + 1)
theorem lsf_ok (x : Ix) (c : Nat) : ∀ m k, k ≤ ixn x → ixn x ≤ k + m → k ≤ lsf x c m k ∧ lsf x c m k ≤ ixn x ∧ (∀ r, k ≤ r → r < lsf x c m k → c ≤ ixc x r) ∧ (lsf x c m k < ixn x → ixc x (lsf x c m k) < c) := by
  intro m
  induction m with
  | zero => intro k h1 h2; exact ⟨Nat.le_refl _, h1, fun r a b => by have : lsf x c 0 k = k := rfl; omega, fun z => by have : lsf x c 0 k = k := rfl; omega⟩
  | succ m ih =>
    intro k h1 h2
    have e : lsf x c (m + 1) k = if k < ixn x ∧ c ≤ ixc x k then lsf x c m (k + 1) else k := rfl
    by_cases z : k < ixn x ∧ c ≤ ixc x k
    · rw [if_pos z] at e
      obtain ⟨a1, a2, a3, a4⟩ := ih (k + 1) (by omega) (by omega)
      rw [e]
      refine ⟨(by omega), a2, fun r b1 b2 => ?_, a4⟩
      by_cases y : r = k
      · rw [y]; exact z.2
      · exact a3 r (by omega) b2
    · rw [if_neg z] at e
      rw [e]
      exact ⟨Nat.le_refl _, h1, fun r b1 b2 => by omega, fun y => by omega⟩
theorem lsr_ok {x : Ix} {j : Nat} (hj : j < ixn x) : j < lsr x j ∧ lsr x j ≤ ixn x ∧ (∀ r, j < r → r < lsr x j → ixc x j ≤ ixc x r) ∧ (lsr x j < ixn x → ixc x (lsr x j) < ixc x j) := by
  obtain ⟨a1, a2, a3, a4⟩ := lsf_ok x (ixc x j) (ixn x) (j + 1) (by omega) (by omega)
  exact ⟨a1, a2, fun r b1 b2 => a3 r b1 b2, a4⟩
/-- the class's rows that share less -/
def LsR (x : Ix) (A : iz_A) : Prop := ∀ j, j < ixn x → A.1 45 j = (lsr x j : Int)
/-- the rows where runs from row i on become shorter -/
def jn (x : Ix) (i : Nat) : Nat → Nat
  | 0 => i + 1
  | t + 1 => lsr x (jn x i t)
theorem jn_s (x : Ix) (i t : Nat) : jn x i (t + 1) = lsr x (jn x i t) := rfl
def ttf (x : Ix) (i : Nat) : Nat → Nat → Nat
  | 0, t => t
  | m + 1, t => if jn x i t < ixn x ∧ ixc x i < ixc x (jn x i t) then ttf x i m (t + 1) else t
def tt (x : Ix) (i : Nat) : Nat := ttf x i (ixn x) 0
theorem ttf_ok (x : Ix) (i : Nat) : ∀ m t, ixn x ≤ jn x i t + m → (∀ s, s < t → jn x i s < ixn x ∧ ixc x i < ixc x (jn x i s)) → (∀ s, s < ttf x i m t → jn x i s < ixn x ∧ ixc x i < ixc x (jn x i s)) ∧ ¬ (jn x i (ttf x i m t) < ixn x ∧ ixc x i < ixc x (jn x i (ttf x i m t))) := by
  intro m
  induction m with
  | zero =>
    intro t h1 h2
    have e : ttf x i 0 t = t := rfl
    rw [e]
    exact ⟨h2, fun z => by omega⟩
  | succ m ih =>
    intro t h1 h2
    have e : ttf x i (m + 1) t = if jn x i t < ixn x ∧ ixc x i < ixc x (jn x i t) then ttf x i m (t + 1) else t := rfl
    by_cases z : jn x i t < ixn x ∧ ixc x i < ixc x (jn x i t)
    · rw [if_pos z] at e
      rw [e]
      have := (lsr_ok z.1).1
      refine ih (t + 1) (by rw [jn_s]; omega) (fun s hs => ?_)
      by_cases y : s = t
      · rw [y]; exact z
      · exact h2 s (by omega)
    · rw [if_neg z] at e
      rw [e]
      exact ⟨h2, z⟩
theorem tt_ok (x : Ix) (i : Nat) : (∀ s, s < tt x i → jn x i s < ixn x ∧ ixc x i < ixc x (jn x i s)) ∧ ¬ (jn x i (tt x i) < ixn x ∧ ixc x i < ixc x (jn x i (tt x i))) := ttf_ok x i (ixn x) 0 (by omega) (fun s hs => by omega)
theorem jn_ge (x : Ix) {i : Nat} : ∀ t, t ≤ tt x i → i + 1 + t ≤ jn x i t := by
  intro t
  induction t with
  | zero => exact fun _ => Nat.le_refl _
  | succ t ih =>
    intro h
    have := ih (by omega)
    have := (lsr_ok ((tt_ok x i).1 t (by omega)).1).1
    rw [jn_s]
    omega
theorem jn_le (x : Ix) {i : Nat} (hi : i < ixn x) : ∀ t, t ≤ tt x i → jn x i t ≤ ixn x := by
  intro t ht
  cases t with
  | zero => exact hi
  | succ t => exact (lsr_ok ((tt_ok x i).1 t (by omega)).1).2.1
/-- a label counts: the bytes in front of its run differ -/
def lbc (x : Ix) (i n : Nat) : Nat := ct (fun t => chn x (i + 1) < chn x (jn x i (t + 1))) n
theorem lbc_s (x : Ix) (i n : Nat) : lbc x i (n + 1) = lbc x i n + (if chn x (i + 1) < chn x (jn x i (n + 1)) then 1 else 0) := rfl
theorem lbc_mono (x : Ix) (i : Nat) {m n : Nat} (h : m ≤ n) : lbc x i m ≤ lbc x i n := ct_mono _ h
def mxm (x : Ix) (i : Nat) : Nat := lbc x i (tt x i)
theorem tt_le (x : Ix) {i : Nat} (hi : i < ixn x) : tt x i ≤ ixn x := by
  have := jn_ge x (i := i) (tt x i) (Nat.le_refl _)
  have := jn_le x hi (tt x i) (Nat.le_refl _)
  omega
theorem mxm_le (x : Ix) {i : Nat} (hi : i < ixn x) : mxm x i ≤ ixn x := Nat.le_trans (ct_le _ _) (tt_le x hi)
theorem sX_maxFrom {d : Nat} {A : iz_A} {x : Ix} {i : Nat} {P : Int → iz_A → Prop} (h1 : TxOk x) (h4 : XI x A) (hl : LsR x A) (hc : CH x A) (hi : i < ixn x) (hP : P (mxm x i : Int) A) : Ci (d + 1) 91 [.inr (.inl 44), .inl (i : Int)] A P := by
  have nb := h1.2.2.1
  have ok := tt_ok x i
  have tl := tt_le x hi
  refine e_X7_maximalFrom ⟨inR_b (by omega) (by omega), ?_⟩
  refine dwl (P := fun t => Rn d mX7_maximalFrom (fun v A' => ∃ y, v = some (.inl y) ∧ P y A') 6 [some (.inr (.inl 44)), some (.inl ((i : Int))), some (.inl ((lbc x i t : Int))), some (.inl ((jn x i t : Int)))] [] A) (a := 0) (n := tt x i) ?_ (fun t _ ht ih => ?_) (Nat.zero_le _)
  · have jl := jn_le x hi (tt x i) (Nat.le_refl _)
    refine w_X7_maximalFrom_6 ?_
    rw [h4.1, tn, tn, (h4.2.2.2.2 i hi).2.1]
    refine ⟨fun _ => ⟨_, rfl, hP⟩, fun z => ?_⟩
    have hj : jn x i (tt x i) < ixn x := (by omega)
    rw [(h4.2.2.2.2 _ hj).2.1]
    exact ⟨⟨by omega, by omega⟩, ⟨by omega, by omega⟩, fun _ => ⟨_, rfl, hP⟩, fun z2 => absurd ⟨hj, (by omega)⟩ ok.2⟩
  · obtain ⟨k1, k2⟩ := ok.1 t ht
    have lo := lsr_ok k1
    have cb : lbc x i t ≤ t := ct_le _ _
    rw [lbc_s, jn_s] at ih
    refine w_X7_maximalFrom_6 ?_
    rw [h4.1, tn, tn, (h4.2.2.2.2 i hi).2.1, (h4.2.2.2.2 _ k1).2.1, hl _ k1, if_neg (by omega), show ((lsr x (jn x i t) : Int) - 1).toNat = lsr x (jn x i t) - 1 by omega, hc _ (by omega), hc _ hi, show lsr x (jn x i t) - 1 + 1 = lsr x (jn x i t) by omega]
    refine ⟨fun z => by omega, fun _ => ⟨⟨by omega, by omega⟩, ⟨by omega, by omega⟩, fun z => by omega, fun _ => ⟨⟨by omega, by omega⟩, inR_b (by omega) (by omega), inR_b (by omega) (by omega), ⟨by omega, by omega⟩, ⟨by omega, by omega⟩, fun z => ?_, fun z => ⟨inR_b (by omega) (by omega), ?_⟩⟩⟩⟩
    · rw [if_neg (by omega)] at ih; exact ih
    · rw [if_pos (by omega)] at ih; exact ih
theorem sX_maxLen {d : Nat} {A : iz_A} {x : Ix} {i t sk : Nat} {P : Int → iz_A → Prop} (h1 : TxOk x) (h4 : XI x A) (hl : LsR x A) (hc : CH x A) (hi : i < ixn x) (ht : t < tt x i) (hg : chn x (i + 1) < chn x (jn x i (t + 1))) (hk : lbc x i t = sk) (hP : P (ixc x (jn x i t) : Int) A) : Ci (d + 1) 92 [.inr (.inl 44), .inl (i : Int), .inl (sk : Int)] A P := by
  have nb := h1.2.2.1
  have ok := tt_ok x i
  have tl := tt_le x hi
  have skl : sk ≤ t := by rw [← hk]; exact ct_le _ _
  refine e_X7_maximalLength ⟨inR_b (by omega) (by omega), ?_⟩
  have := dwl (P := fun s => Rn d mX7_maximalLength (fun v A' => ∃ y, v = some (.inl y) ∧ P y A') 7 [some (.inr (.inl 44)), some (.inl ((i : Int))), some (.inl ((sk : Int))), some (.inl (((sk - lbc x i s : Nat) : Int))), some (.inl ((jn x i s : Int))), none] [] A) (a := 0) (n := t) ?_ (fun s _ hs ih => ?_) (Nat.zero_le _)
  · exact this
  · obtain ⟨k1, k2⟩ := ok.1 t ht
    have lo := lsr_ok k1
    rw [jn_s] at hg
    refine w_X7_maximalLength_7 ?_
    rw [h4.1, tn, tn, (h4.2.2.2.2 i hi).2.1, (h4.2.2.2.2 _ k1).2.1, hl _ k1, if_neg (by omega), show ((lsr x (jn x i t) : Int) - 1).toNat = lsr x (jn x i t) - 1 by omega, hc _ (by omega), hc _ hi, show lsr x (jn x i t) - 1 + 1 = lsr x (jn x i t) by omega]
    exact ⟨fun z => by omega, fun _ => ⟨⟨by omega, by omega⟩, ⟨by omega, by omega⟩, fun z => by omega, fun _ => ⟨⟨by omega, by omega⟩, ⟨by omega, by omega⟩, inR_b (by omega) (by omega), inR_b (by omega) (by omega), ⟨by omega, by omega⟩, ⟨by omega, by omega⟩, fun z => by omega, fun _ => ⟨fun z => by omega, fun _ => ⟨_, rfl, hP⟩⟩⟩⟩⟩
  · obtain ⟨k1, k2⟩ := ok.1 s (by omega)
    have lo := lsr_ok k1
    have mo := lbc_mono x i (show s + 1 ≤ t by omega)
    rw [lbc_s, jn_s] at ih mo
    refine w_X7_maximalLength_7 ?_
    rw [h4.1, tn, tn, (h4.2.2.2.2 i hi).2.1, (h4.2.2.2.2 _ k1).2.1, hl _ k1, if_neg (by omega), show ((lsr x (jn x i s) : Int) - 1).toNat = lsr x (jn x i s) - 1 by omega, hc _ (by omega), hc _ hi, show lsr x (jn x i s) - 1 + 1 = lsr x (jn x i s) by omega]
    refine ⟨fun z => by omega, fun _ => ⟨⟨by omega, by omega⟩, ⟨by omega, by omega⟩, fun z => by omega, fun _ => ⟨⟨by omega, by omega⟩, ⟨by omega, by omega⟩, inR_b (by omega) (by omega), inR_b (by omega) (by omega), ⟨by omega, by omega⟩, ⟨by omega, by omega⟩, fun z => ?_, fun z => ⟨fun z2 => ⟨inR_b (by omega) (by omega), ?_⟩, fun z2 => ?_⟩⟩⟩⟩
    · rw [if_neg (by omega), Nat.add_zero] at ih; exact ih
    · rw [if_pos (by omega)] at ih
      rw [show ((sk - lbc x i s : Nat) : Int) + -1 = ((sk - (lbc x i s + 1) : Nat) : Int) by omega]
      exact ih
    · rw [if_pos (by omega)] at mo
      omega
theorem mx_bd {x : Ix} (h1 : TxOk x) {n : Nat} (hn : n ≤ ixn x) : sm (mxm x) n ≤ 9000000 := by
  have nb := h1.2.2.1
  have := sm_bd (f := mxm x) (n := n) (fun i hi => by
    have := mxm_le x (i := i) (by omega)
    omega)
  omega
/-- a counted label, told by how many count before it -/
theorem lb_find (x : Ix) (i sk : Nat) : ∀ n, sk < lbc x i n → ∃ t, t < n ∧ chn x (i + 1) < chn x (jn x i (t + 1)) ∧ lbc x i t = sk := by
  intro n
  induction n with
  | zero => exact fun h => absurd h (Nat.not_lt_zero _)
  | succ n ih =>
    intro h
    by_cases c : sk < lbc x i n
    · obtain ⟨t, t1, t2⟩ := ih c
      exact ⟨t, (by omega), t2⟩
    · rw [lbc_s] at h
      by_cases y : chn x (i + 1) < chn x (jn x i (n + 1))
      · rw [if_pos y] at h
        exact ⟨n, (by omega), y, (by omega)⟩
      · rw [if_neg y] at h
        omega
theorem sX_maximal {d : Nat} {A : iz_A} {x : Ix} {v : Int} {dn : Nat} {P : Int → iz_A → Prop} (h1 : TxOk x) (h2 : PmOk x) (h4 : XI x A) (hl : LsR x A) (hc : CH x A) (hv : inR v) (hv1 : -1 ≤ v) (hd : A.1 17 3 = (dn : Int)) (hP0 : v = -1 → P (sm (mxm x) (ixn x) : Int) A) (hPn : (sm (mxm x) (ixn x) : Int) ≤ v → P (-1) A) (hP : ∀ i t, i < ixn x → t < tt x i → chn x (i + 1) < chn x (jn x i (t + 1)) → v = ((sm (mxm x) i + (mxm x i - 1 - lbc x i t) : Nat) : Int) → ∀ C lo hi, fr [17] A C → Rg x (ixs x i) (ixc x (jn x i t)) lo hi → HdX C 0 (ixs x i) (ixc x (jn x i t)) lo hi → P (ixc x (jn x i t) : Int) C) : Ci (d + 3) 90 [.inr (.inl 44), .inl v] A P := by
  have nb := h1.2.2.1
  have v2 := hv.2
  refine e_X7_holdMaximal ?_
  refine dwl (P := fun i => (v = -1 ∨ (sm (mxm x) i : Int) ≤ v) → Rn (d + 2) mX7_holdMaximal (fun v A' => ∃ y, v = some (.inl y) ∧ P y A') 4 [some (.inr (.inl 44)), some (.inl v), some (.inl ((sm (mxm x) i : Int))), some (.inl ((i : Int))), none] [] A) (a := 0) (n := ixn x) ?_ (fun i _ hi ih => ?_) (Nat.zero_le _) (by
    have : sm (mxm x) 0 = 0 := rfl
    rw [this]; omega)
  · intro hs
    refine w_X7_holdMaximal_4 ?_
    rw [h4.1]
    exact ⟨fun _ => ⟨fun z => ⟨_, rfl, hPn (by omega)⟩, fun z => ⟨_, rfl, hP0 z⟩⟩, fun z => by omega⟩
  · intro hs
    have b1 := mx_bd h1 (n := i) (by omega)
    have b2 := mxm_le x hi
    rw [show ((i + 1 : Nat) : Int) = (i : Int) + 1 by omega, sm_s, show ((sm (mxm x) i + mxm x i : Nat) : Int) = (sm (mxm x) i : Int) + (mxm x i : Int) by omega] at ih
    refine w_X7_holdMaximal_4 ?_
    rw [h4.1]
    refine ⟨fun z => by omega, fun _ => sX_maxFrom h1 h4 hl hc hi ⟨fun z => ⟨inR_b (by omega) (by omega), inR_b (by omega) (by omega), ih (by omega)⟩, fun z => ⟨inR_b (by omega) (by omega), fun z2 => ⟨inR_b (by omega) (by omega), inR_b (by omega) (by omega), ih (by omega)⟩, fun z2 => ?_⟩⟩⟩
    obtain ⟨t, t1, t2, t3⟩ := lb_find x i ((mxm x i : Int) - 1 - (v - (sm (mxm x) i : Int))).toNat (tt x i) (by
      have : lbc x i (tt x i) = mxm x i := rfl
      omega)
    obtain ⟨k1, k2⟩ := (tt_ok x i).1 t t1
    refine ⟨⟨by omega, by omega⟩, inR_b (by omega) (by omega), inR_b (by omega) (by omega), inR_b (by omega) (by omega), ?_⟩
    rw [show (mxm x i : Int) - 1 - (v - (sm (mxm x) i : Int)) = ((((mxm x i : Int) - 1 - (v - (sm (mxm x) i : Int))).toNat : Nat) : Int) by omega]
    refine sX_maxLen h1 h4 hl hc hi t1 t2 t3 ?_
    obtain ⟨lo, hh, g⟩ := rg_ex h2 (ixs x i) (ixc x (jn x i t)) (h2.1 i hi).1
    rw [tn, (h4.2.2.2.2 i hi).1]
    refine sX_become h1 h2 h4 g ⟨dn, hd⟩ fun C fC hC => ⟨_, rfl, ?_⟩
    rw [hC.2.2.1]
    exact hP i t hi t1 t2 (by omega) C lo hh fC g hC
