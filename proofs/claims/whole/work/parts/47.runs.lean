/-! ===== repeated, common ===== -/
theorem Td_s (x : Ix) (lo r d : Nat) : Td x lo (r + 1) d = Td x lo r d + (if lo ≤ r ∧ ixo x (ixs x r) = d then 1 else 0) := rfl
theorem ct_sub {P R : Nat → Prop} [DecidablePred P] [DecidablePred R] {n : Nat} (h : ∀ i, i < n → P i → R i) : ct P n ≤ ct R n := sm_le fun i hi => by
  by_cases c : P i
  · rw [if_pos c, if_pos (h i hi c)]; exact Nat.le_refl _
  · rw [if_neg c]; exact Nat.zero_le _
theorem ct_one {P R : Nat → Prop} [DecidablePred P] [DecidablePred R] {n a : Nat} (ha : a < n) (hn : ¬ P a) (h : ∀ i, i < n → (R i ↔ P i ∨ i = a)) : ct R n = ct P n + 1 := by
  have e : ∀ i, i < n → (if R i then 1 else 0) = (if P i then 1 else 0) + (if i = a then 1 else 0) := fun i hi => by
    by_cases c : i = a
    · rw [if_pos ((h i hi).2 (Or.inr c)), if_neg (by rw [c]; exact hn), if_pos c]
    · by_cases c2 : P i
      · rw [if_pos ((h i hi).2 (Or.inl c2)), if_pos c2, if_neg c]
      · rw [if_neg (fun z => ((h i hi).1 z).elim c2 c), if_neg c2, if_neg c]
  unfold ct
  rw [sm_congr e, sm_add, sm_one (k := a) ha (fun i _ hi => if_neg hi), if_pos rfl]
/-- how many rows, or documents -/
def nn (x : Ix) (b : Int) (i e : Nat) : Nat := if b = 0 then e - i else ct (fun d => 0 < Td x i e d) (ixm x)
theorem nn_0 {x : Ix} {b : Int} (i e : Nat) (h : b = 0) : nn x b i e = e - i := if_pos h
theorem nn_1 {x : Ix} {b : Int} (i e : Nat) (h : ¬ b = 0) : nn x b i e = ct (fun d => 0 < Td x i e d) (ixm x) := if_neg h
theorem nn_mono (x : Ix) (b : Int) {i j e e' : Nat} (h1 : i ≤ j) (h2 : e ≤ e') : nn x b j e ≤ nn x b i e' := by
  by_cases c : b = 0
  · rw [nn_0 _ _ c, nn_0 _ _ c]; omega
  · rw [nn_1 _ _ c, nn_1 _ _ c]
    refine ct_sub fun d hd z => Nat.lt_of_lt_of_le z ?_
    exact Nat.le_trans (ct_sub (fun r hr y => ⟨Nat.le_trans h1 y.1, y.2⟩)) (ct_mono _ h2)
theorem nn_same {x : Ix} {b : Int} {i r : Nat} (hb : ¬ b = 0) (hi : i ≤ r) (ht : 0 < Td x i r (ixo x (ixs x r))) : nn x b i (r + 1) = nn x b i r := by
  rw [nn_1 _ _ hb, nn_1 _ _ hb]
  refine ct_congr fun d hd => ?_
  rw [Td_s]
  by_cases c : i ≤ r ∧ ixo x (ixs x r) = d
  · rw [if_pos c]
    have := c.2 ▸ ht
    exact ⟨fun _ => this, fun _ => (by omega)⟩
  · rw [if_neg c, Nat.add_zero]
theorem nn_more {x : Ix} {b : Int} {i r : Nat} (h1 : TxOk x) (h2 : PmOk x) (hr : r < ixn x) (hb : ¬ b = 0) (hi : i ≤ r) (ht : ¬ 0 < Td x i r (ixo x (ixs x r))) : nn x b i (r + 1) = nn x b i r + 1 := by
  rw [nn_1 _ _ hb, nn_1 _ _ hb]
  refine ct_one (lft_in h1 (h2.1 r hr).1).2.2 ht fun d hd => ?_
  rw [Td_s]
  by_cases c : i ≤ r ∧ ixo x (ixs x r) = d
  · rw [if_pos c]
    exact ⟨fun _ => Or.inr c.2.symm, fun _ => (by omega)⟩
  · rw [if_neg c, Nat.add_zero]
    exact ⟨Or.inl, fun z => z.elim id (fun z => absurd ⟨hi, z.symm⟩ c)⟩
theorem nn_z (x : Ix) (b : Int) (i : Nat) : nn x b i i = 0 := by
  by_cases c : b = 0
  · rw [nn_0 _ _ c]; omega
  · rw [nn_1 _ _ c]
    refine ct_0 fun d hd z => ?_
    have : Td x i i d = 0 := ct_0 fun r hr y => by omega
    omega
/-- from this row on enough rows (documents) have so many bytes alike -/
def Wq (x : Ix) (b : Int) (q L i : Nat) : Prop := ∃ e, i < e ∧ e ≤ ixn x ∧ (∀ k, i < k → k < e → L ≤ ixc x k) ∧ L ≤ lft x (ixs x i) ∧ q ≤ nn x b i e
theorem wq_le {x : Ix} {b : Int} {q L L' i : Nat} (h : Wq x b q L i) (hl : L' ≤ L) : Wq x b q L' i := by
  obtain ⟨e, e1, e2, e3, e4, e5⟩ := h
  exact ⟨e, e1, e2, fun k a c => Nat.le_trans hl (e3 k a c), Nat.le_trans hl e4, e5⟩
theorem no_wq {x : Ix} {b : Int} {q L f r have' : Nat} (hr : r = ixn x ∨ (r < ixn x ∧ ixc x r < L)) (i4 : L ≤ lft x (ixs x f) → have' = nn x b f r) (i4' : lft x (ixs x f) < L → r ≤ f + 1) (i5 : have' < q) (i6 : ∀ j, j < f → ¬ Wq x b q L j) : ∀ j, j < r → ¬ Wq x b q L j := by
  intro j hj w
  by_cases c : j < f
  · exact i6 j c w
  · obtain ⟨e, e1, e2, e3, e4, e5⟩ := w
    have he : e ≤ r := by
      rcases hr with h | h
      · omega
      · by_cases y : e ≤ r
        · exact y
        · have := e3 r hj (by omega)
          omega
    by_cases y : L ≤ lft x (ixs x f)
    · have := nn_mono x b (show f ≤ j by omega) he
      have := i4 y
      omega
    · have := i4' (by omega)
      obtain rfl : j = f := (by omega)
      omega
theorem sX_firstRun {d : Nat} {A : iz_A} {x : Ix} {b : Int} {q L : Nat} {P : Int → iz_A → Prop} (h1 : TxOk x) (h2 : PmOk x) (h3 : SoOk x) (h4 : XI x A) (hL : 1 ≤ L) (hL2 : L ≤ 3000) (hq : 1 ≤ q) (hP : ∀ C, fr [47] A C → ∀ y : Int, (y = -2 ∧ ∀ i, i < ixn x → ¬ Wq x b q L i) ∨ (∃ f : Nat, y = (f : Int) ∧ f < ixn x ∧ Wq x b q L f ∧ ∀ j, j < f → ¬ Wq x b q L j) → P y C) : Ci (d + 4) 87 [.inr (.inl 44), .inl (L : Int), .inl (q : Int), .inl b] A P := by
  have nb := h1.2.2.1
  have mb := h1.2.1
  refine e_X7_firstRun (s_all47 fun A1 f1 c1 => ?_)
  refine dwl (P := fun r => ∀ B, fr [47] A B → ∀ f hv : Nat, f ≤ r → (0 < r → f < r) → (∀ k, f < k → k < r → L ≤ ixc x k) → (¬ b = 0 → ∀ e, e < 256 → B.1 47 e ≤ (f : Int) ∧ (B.1 47 e = (f : Int) ↔ 0 < Td x f r e ∧ L ≤ lft x (ixs x f))) → (L ≤ lft x (ixs x f) → hv = nn x b f r) → (lft x (ixs x f) < L → hv = 0 ∧ r ≤ f + 1) → hv < q → (∀ j, j < f → ¬ Wq x b q L j) → Rn (d + 3) mX7_firstRun (fun v A' => ∃ y, v = some (.inl y) ∧ P y A') 18 [some (.inr (.inl 44)), some (.inl ((L : Int))), some (.inl ((q : Int))), some (.inl b), some (.inl ((f : Int))), some (.inl ((hv : Int))), some (.inl ((r : Int))), none] [] B) (a := 0) (n := ixn x) ?_ (fun r _ hr ih => ?_) (Nat.zero_le _) A1 f1 0 0 (Nat.le_refl _) (by omega) (fun k a c => by omega) (fun _ e he => ?_) (fun _ => (nn_z _ _ _).symm) (fun _ => ⟨rfl, (by omega)⟩) (by omega) (fun j hj => by omega)
  · intro B f F hv i1 i2 i3 i7 i4 i4' i5 i6
    refine w_X7_firstRun_18 ?_
    rw [f.1 5 (by decide), h4.1]
    exact ⟨fun _ => ⟨_, rfl, hP B f _ (Or.inl ⟨rfl, no_wq (Or.inl rfl) i4 (fun z => (i4' z).2) i5 i6⟩)⟩, fun z => by omega⟩
  · intro B0 f0 F0 hv0 i1 i2 i3 i7 i4 i4' i5 i6
    have cl := c_le h1 h2 h3 hr
    have hs := (h2.1 r hr).1
    have ho := (lft_in h1 hs).2.2
    have mid : ∀ B, fr [47] A B → ∀ F hv : Nat, F ≤ r → (∀ k, F < k → k ≤ r → L ≤ ixc x k) → (¬ b = 0 → ∀ e, e < 256 → B.1 47 e ≤ (F : Int) ∧ (B.1 47 e = (F : Int) ↔ 0 < Td x F r e ∧ L ≤ lft x (ixs x F))) → (L ≤ lft x (ixs x F) → hv = nn x b F r) → (lft x (ixs x F) < L → hv = 0) → hv < q → (∀ j, j < F → ¬ Wq x b q L j) → hv ≤ 3000 → Rn (d + 3) mX7_firstRun (fun v A' => ∃ y, v = some (.inl y) ∧ P y A') 51 [some (.inr (.inl 44)), some (.inl ((L : Int))), some (.inl ((q : Int))), some (.inl b), some (.inl ((F : Int))), some (.inl ((hv : Int))), some (.inl ((r : Int))), none] [] B := by
      intro B f F hv j1 j3 j7 j4 j4' j5 j6 j8
      have h4' : XI x B := XI_k h4 f (by decide)
      refine w_X7_firstRun_51 ?_
      rw [tn, (h4'.2.2.2.2 r hr).1, tn, (h4'.2.2.1 _ hs).2.1, tn]
      refine ⟨⟨by omega, by omega⟩, ⟨by omega, by omega⟩, sX_len h1 h2 h4' hr ⟨fun z => ?_, fun z => ?_⟩⟩
      · have hF : F = r := by
          by_cases y : F = r
          · exact y
          · have := j3 r (by omega) (Nat.le_refl _)
            omega
        refine w_X7_firstRun_118 ⟨inR_b (by omega) (by omega), ?_⟩
        rw [show (r : Int) + 1 = ((r + 1 : Nat) : Int) by omega]
        refine ih B f F hv (by omega) (by omega) (fun k a c => j3 k a (by omega)) (fun hb e he => ⟨(j7 hb e he).1, ?_⟩) (fun y => by rw [hF] at y; omega) (fun y => ⟨j4' y, (by omega)⟩) j5 j6
        rw [(j7 hb e he).2]
        rw [hF]
        exact ⟨fun y => by omega, fun y => by omega⟩
      · have lF : L ≤ lft x (ixs x F) := by
          by_cases y : F = r
          · rw [y]; omega
          · have := j3 (F + 1) (by omega) (by omega)
            have := c_le' h1 h2 h3 (i := F) (by omega)
            omega
        have rest : ∀ B' (hv' : Nat), fr [47] A B' → hv' = nn x b F (r + 1) → hv' < q → (¬ b = 0 → ∀ e, e < 256 → B'.1 47 e ≤ (F : Int) ∧ (B'.1 47 e = (F : Int) ↔ 0 < Td x F (r + 1) e ∧ L ≤ lft x (ixs x F))) → Rn (d + 3) mX7_firstRun (fun v A' => ∃ y, v = some (.inl y) ∧ P y A') 118 [some (.inr (.inl 44)), some (.inl ((L : Int))), some (.inl ((q : Int))), some (.inl b), some (.inl ((F : Int))), some (.inl ((hv' : Int))), some (.inl ((r : Int))), some (.inl ((ixo x (ixs x r) : Int)))] [] B' := fun B' hv' f' e1 e2 e3 => by
          refine w_X7_firstRun_118 ⟨inR_b (by omega) (by omega), ?_⟩
          rw [show (r : Int) + 1 = ((r + 1 : Nat) : Int) by omega]
          exact ih B' f' F hv' (by omega) (by omega) (fun k a c => j3 k a (by omega)) e3 (fun _ => e1) (fun y => by omega) e2 j6
        have put : nn x b F (r + 1) = hv + 1 → Rn (d + 3) mX7_firstRun (fun v A' => ∃ y, v = some (.inl y) ∧ P y A') 97 [some (.inr (.inl 44)), some (.inl ((L : Int))), some (.inl ((q : Int))), some (.inl b), some (.inl ((F : Int))), some (.inl ((hv : Int))), some (.inl ((r : Int))), some (.inl ((ixo x (ixs x r) : Int)))] [] B := fun en => by
          refine w_X7_firstRun_97 ⟨⟨by omega, by omega⟩, inR_b (by omega) (by omega), fun y => ?_, fun y => ⟨_, rfl, hP _ (fr_pI f (by decide)) _ (Or.inr ⟨F, rfl, (by omega), ⟨r + 1, (by omega), (by omega), fun k a c => j3 k a (by omega), lF, by rw [en]; omega⟩, j6⟩)⟩⟩
          rw [tn, show (hv : Int) + 1 = ((hv + 1 : Nat) : Int) by omega]
          refine rest _ _ (fr_pI f (by decide)) en.symm (by omega) (fun hb e he => ?_)
          show uz (B.1 47) _ _ e ≤ _ ∧ (uz (B.1 47) _ _ e = _ ↔ _)
          rw [Td_s]
          by_cases w : e = ixo x (ixs x r)
          · rw [w, uz_at, if_pos ⟨j1, rfl⟩]
            exact ⟨Int.le_refl _, fun _ => ⟨(by omega), lF⟩, fun _ => rfl⟩
          · rw [uz_ne _ _ w, if_neg (fun z : F ≤ r ∧ _ => w z.2.symm), Nat.add_zero]
            exact j7 hb e he
        refine ⟨fun z0 => put ?_, fun z0 => ⟨⟨by omega, by omega⟩, fun z1 => rest B hv f ?_ j5 (fun hb e he => ⟨(j7 hb e he).1, ?_⟩), fun z1 => put ?_⟩⟩
        · have := j4 lF
          rw [nn_0 _ _ z0] at this ⊢
          omega
        · have t := ((j7 z0 _ (show ixo x (ixs x r) < 256 by omega)).2.1 z1).1
          rw [nn_same z0 j1 t]
          exact j4 lF
        · have t := ((j7 z0 _ (show ixo x (ixs x r) < 256 by omega)).2.1 z1).1
          rw [Td_s]
          by_cases w : F ≤ r ∧ ixo x (ixs x r) = e
          · rw [if_pos w, ← w.2]
            exact ⟨fun _ => ⟨(by omega), lF⟩, fun _ => z1⟩
          · rw [if_neg w, Nat.add_zero]
            exact (j7 hb e he).2
        · have t : ¬ 0 < Td x F r (ixo x (ixs x r)) := fun y => z1 ((j7 z0 _ (show ixo x (ixs x r) < 256 by omega)).2.2 ⟨y, lF⟩)
          rw [nn_more h1 h2 hr z0 j1 t, j4 lF]
    have hv3 : hv0 ≤ 3000 := by
      by_cases y : L ≤ lft x (ixs x F0)
      · rw [i4 y]
        by_cases c : b = 0
        · rw [nn_0 _ _ c]; omega
        · rw [nn_1 _ _ c]
          have := ct_le (fun d => 0 < Td x F0 r d) (ixm x)
          omega
      · have := (i4' (by omega)).1
        omega
    refine w_X7_firstRun_18 ?_
    rw [f0.1 5 (by decide), h4.1, tn, f0.1 11 (by decide), (h4.2.2.2.2 r hr).2.1]
    refine ⟨fun z => by omega, fun _ => ⟨⟨by omega, by omega⟩, fun z => ?_, fun z => ?_⟩⟩
    · have r0 : 0 < r := by
        by_cases y : r = 0
        · rw [y, h3.1] at z; omega
        · omega
      have fr0 := i2 r0
      refine mid B0 f0 F0 hv0 i1 (fun k a c => ?_) i7 i4 (fun y => (i4' y).1) i5 i6 hv3
      by_cases y : k = r
      · rw [y]; omega
      · exact i3 k a (by omega)
    · refine mid B0 f0 r 0 (Nat.le_refl _) (fun k a c => by omega) (fun hb e he => ?_) (fun _ => (nn_z _ _ _).symm) (fun _ => rfl) (by omega) (no_wq (Or.inr ⟨hr, (by omega)⟩) i4 (fun z => (i4' z).2) i5 i6) (by omega)
      have k1 := i7 hb e he
      have tz : Td x r r e = 0 := ct_0 fun i hi y => by omega
      have : B0.1 47 e ≠ (r : Int) := by
        by_cases y : r = 0
        · have : F0 = 0 := (by omega)
          rw [this] at k1
          intro w
          have := (k1.2.1 (by rw [w, y])).1
          rw [y] at tz
          rw [y] at this
          omega
        · have := i2 (by omega)
          omega
      exact ⟨(by omega), fun w => absurd w this, fun w => by omega⟩
  · rw [c1 e he]
    have : Td x 0 0 e = 0 := rfl
    exact ⟨by decide, fun w => absurd w (by decide), fun w => by omega⟩
