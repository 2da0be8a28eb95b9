/-! ===== the class reads a query ===== -/
theorem sX_zero {d i : Nat} {A : iz_A} {P : iz_A → Prop} (hi : i < 200) (hP : ∀ C, fr [29] A C → (∀ c : Nat, c < 256 → ¬ mb C i c) → Ou i A C → P C) : Cv (d + 2) 250 [.inr (.inl 29), .inl ((i : Int) * 4), .inl ((i : Int) * 4 + 4), .inr (.inr 0)] A P := by
  refine e_J7_fill_bad5a_29 (e_J7_rangeCheck_23922 ⟨fun _ => ⟨fun _ => ⟨fun _ => ⟨rfl, ?_⟩, fun z => by omega⟩, fun z => by omega⟩, fun z => by omega⟩)
  have main := dwl (P := fun q => ∀ D, fr [29] A D → (∀ k, 4 * i ≤ k → k < q → D.2 29 k = 0) → (∀ k, ¬ (4 * i ≤ k ∧ k < q) → D.2 29 k = A.2 29 k) → Rn (d + 1) mJ7_fill_bad5a (fun v A' => v = none ∧ P A') 10 [some (.inr (.inl 29)), some (.inl ((i : Int) * 4)), some (.inl ((i : Int) * 4 + 4)), some (.inr (.inr 0)), none, some (.inl (q : Int))] [] D) (a := 4 * i) (n := 4 * i + 4) ?_ (fun q qa hq ih => ?_) (by omega) A (fr_mo (fr_rf A) (by decide)) (fun k a b => by omega) (fun _ _ => rfl)
  · rw [show ((4 * i : Nat) : Int) = (i : Int) * 4 by omega] at main
    exact main
  · intro D f d1 d2
    refine w_J7_fill_bad5a_29_10 ⟨fun _ => ⟨rfl, hP D f (fun c hc => ?_) (fun q hq => d2 q (by omega))⟩, fun z => by omega⟩
    unfold mb
    rw [d1 (4 * i + c / 64) (by omega) (by omega), tb_0]
    decide
  · intro D f d1 d2
    refine w_J7_fill_bad5a_29_10 ?_
    rw [tn q]
    rw [show ((q + 1 : Nat) : Int) = (q : Int) + 1 by omega] at ih
    refine ⟨fun z => by omega, fun _ => ⟨⟨by omega, by omega⟩, inR_b (by omega) (by omega), ih _ (fr_pL f (by decide)) (fun k k1 k2 => ?_) (fun k hk => ?_)⟩⟩
    · rw [pL_at]
      by_cases y : k = q
      · rw [y, up_at]
      · rw [up_ne _ _ y]; exact d1 k k1 (by omega)
    · rw [pL_at, up_ne _ _ (by omega)]; exact d2 k (by omega)
/-- the bytes that an atom may be -/
def gset (s : Nat → Int) (n i : Nat) : Int → Prop := if s i = 91 then (match gcl s n i with
    | .inr (_, S) => S
    | .inl _ => fun _ => False) else if s i = 46 then (fun _ => True) else (match gby s n i with
    | .inr (_, c) => fun c' => c' = c
    | .inl _ => fun _ => False)
/-- nothing before sign e changes in what was read -/
def Pf (e : Nat) (A C : iz_A) : Prop := (∀ q, q < e → C.1 25 q = A.1 25 q ∧ C.1 26 q = A.1 26 q ∧ C.1 27 q = A.1 27 q ∧ C.1 28 q = A.1 28 q) ∧ ∀ r, r < 4 * e → C.2 29 r = A.2 29 r
theorem pf_rf (e : Nat) (A : iz_A) : Pf e A A := ⟨fun _ _ => ⟨rfl, rfl, rfl, rfl⟩, fun _ _ => rfl⟩
theorem pf_tr {e : Nat} {A B C : iz_A} (h : Pf e A B) (h' : Pf e B C) : Pf e A C := ⟨fun q hq => ⟨(h'.1 q hq).1.trans (h.1 q hq).1, (h'.1 q hq).2.1.trans (h.1 q hq).2.1, (h'.1 q hq).2.2.1.trans (h.1 q hq).2.2.1, (h'.1 q hq).2.2.2.trans (h.1 q hq).2.2.2⟩, fun r hr => (h'.2 r hr).trans (h.2 r hr)⟩
theorem pf_le {e e' : Nat} {A C : iz_A} (h : Pf e A C) (he : e' ≤ e) : Pf e' A C := ⟨fun q hq => h.1 q (by omega), fun r hr => h.2 r (by omega)⟩
theorem pf_fr {e : Nat} {A C : iz_A} {l : List Nat} (f : fr l A C) (hl : ∀ q ∈ [25, 26, 27, 28, 29], q ∉ l) : Pf e A C := ⟨fun q _ => by rw [f.1 25 (hl 25 (by decide)), f.1 26 (hl 26 (by decide)), f.1 27 (hl 27 (by decide)), f.1 28 (hl 28 (by decide))]; exact ⟨rfl, rfl, rfl, rfl⟩, fun r _ => by rw [f.2 29 (hl 29 (by decide))]⟩
theorem pf_ou {i : Nat} {A C : iz_A} {l : List Nat} (f : fr l A C) (hl : ∀ q ∈ [25, 26, 27, 28], q ∉ l) (o : Ou i A C) : Pf i A C := ⟨fun q _ => by rw [f.1 25 (hl 25 (by decide)), f.1 26 (hl 26 (by decide)), f.1 27 (hl 27 (by decide)), f.1 28 (hl 28 (by decide))]; exact ⟨rfl, rfl, rfl, rfl⟩, fun r hr => o r (Or.inl hr)⟩
/-- what was read of the items of a sum -/
def RcS (N : Nat) (t s : Nat → Int) (n : Nat) (A : iz_A) : Nat → Nat → Nat → Prop
  | 0, _, _ => True
  | m + 1, d, j => j < n ∧ s j ≠ 41 → (s j = 124 → RcS N t s n A m d (j + 1)) ∧ (s j ≠ 124 → ∀ k1 zR, pat N t s n (fun d' j' => psm N t s n m d' j' 0 (fun _ _ => False) (fun p q => p = q)) d j = .inr (k1, zR) → ∀ k a b, grp s n k1 = .inr (k, a, b) → (A.1 25 j = ((if 121 < zR.1 * cps a b then 121 else zR.1 * cps a b : Nat) : Int) ∧ A.1 26 j = (k : Int) ∧ A.1 27 j = a ∧ A.1 28 j = b) ∧ (s j ≠ 40 → ∀ c : Nat, c < 256 → (mb A j c ↔ gset s n j (c : Int))) ∧ (s j = 40 → RcS N t s n A m (d + 1) (j + 1)) ∧ RcS N t s n A m d k)
theorem gns_ok {s : Nat → Int} {n j k : Nat} {ab : Int × Int} (h : gns s n j = .inr (k, ab)) : j < k ∧ k ≤ n ∧ (0 ≤ ab.1 ∧ ab.1 ≤ 99) ∧ (-1 ≤ ab.2 ∧ ab.2 ≤ 99) ∧ (ab.2 = -1 ∨ ab.1 ≤ ab.2) := by
  have cb : ∀ {k1 : Nat} {a b : Int}, gcb s n k1 a b = .inr (k, ab) → k1 < k ∧ k ≤ n ∧ ab = (a, b) := fun {k1 a b} hb => by
    unfold gcb at hb
    by_cases c : k1 < n ∧ s k1 = 125
    · rw [if_pos c] at hb; cases hb; exact ⟨(by omega), (by omega), rfl⟩
    · rw [if_neg c] at hb; cases hb
  obtain ⟨k1, a, e1, h⟩ := bnd_ok h
  have o1 := gnu_ok e1
  by_cases c : k1 < n ∧ s k1 = 44
  · rw [if_pos c] at h
    by_cases c2 : k1 + 1 < n ∧ s (k1 + 1) = 125
    · rw [if_pos c2] at h; cases h
      exact ⟨(by omega), (by omega), ⟨o1.2.2.1, o1.2.2.2⟩, ⟨show (-1 : Int) ≤ -1 by decide, show (-1 : Int) ≤ 99 by decide⟩, Or.inl rfl⟩
    · rw [if_neg c2] at h
      obtain ⟨k2, b, e2, h⟩ := bnd_ok h
      have o2 := gnu_ok e2
      by_cases c3 : b < a
      · rw [if_pos c3] at h; cases h
      · rw [if_neg c3] at h
        obtain ⟨u1, u2, rfl⟩ := cb h
        exact ⟨(by omega), u2, ⟨o1.2.2.1, o1.2.2.2⟩, ⟨show -1 ≤ b by omega, o2.2.2.2⟩, Or.inr (show a ≤ b by omega)⟩
  · rw [if_neg c] at h
    obtain ⟨u1, u2, rfl⟩ := cb h
    exact ⟨(by omega), u2, ⟨o1.2.2.1, o1.2.2.2⟩, ⟨show -1 ≤ a by omega, o1.2.2.2⟩, Or.inr (Int.le_refl _)⟩
theorem grp_ok {s : Nat → Int} {n j k : Nat} {ab : Int × Int} (hj : j ≤ n) (h : grp s n j = .inr (k, ab)) : j ≤ k ∧ k ≤ n ∧ (0 ≤ ab.1 ∧ ab.1 ≤ 99) ∧ (-1 ≤ ab.2 ∧ ab.2 ≤ 99) ∧ (ab.2 = -1 ∨ ab.1 ≤ ab.2) := by
  unfold grp at h
  by_cases c : j < n
  · rw [if_pos c] at h
    by_cases c1 : s j = 42
    · rw [if_pos c1] at h; cases h; exact ⟨(by omega), (by omega), by decide, by decide, Or.inl rfl⟩
    · rw [if_neg c1] at h
      by_cases c2 : s j = 43
      · rw [if_pos c2] at h; cases h; exact ⟨(by omega), (by omega), by decide, by decide, Or.inl rfl⟩
      · rw [if_neg c2] at h
        by_cases c3 : s j = 63
        · rw [if_pos c3] at h; cases h; exact ⟨(by omega), (by omega), by decide, by decide, Or.inr (by decide)⟩
        · rw [if_neg c3] at h
          by_cases c4 : s j = 123
          · rw [if_pos c4] at h
            have := gns_ok h
            exact ⟨(by omega), this.2⟩
          · rw [if_neg c4] at h; cases h; exact ⟨(by omega), (by omega), by decide, by decide, Or.inr (by decide)⟩
  · rw [if_neg c] at h; cases h; exact ⟨(by omega), (by omega), by decide, by decide, Or.inr (by decide)⟩
theorem grs_ok {s : Nat → Int} {n : Nat} (hs : ∀ i, i < n → 32 ≤ s i ∧ s i ≤ 126) : ∀ m j S k S', grs s n m j S = .inr (k, S') → j < k ∧ k ≤ n := by
  intro m
  induction m with
  | zero => intro j S k S' h; cases h
  | succ m ih =>
    intro j S k S' h
    obtain ⟨k1, ab, e1, h⟩ := bnd_ok h
    have o1 := grg_ok hs e1
    by_cases c : k1 < n
    · rw [if_pos c] at h
      by_cases c2 : s k1 = 93
      · rw [if_pos c2] at h; cases h; omega
      · rw [if_neg c2] at h
        have := ih _ _ _ _ h
        omega
    · rw [if_neg c] at h; cases h
theorem gcl_ok {s : Nat → Int} {n j k : Nat} {S : Int → Prop} (hs : ∀ i, i < n → 32 ≤ s i ∧ s i ≤ 126) (h : gcl s n j = .inr (k, S)) : j < k ∧ k ≤ n := by
  unfold gcl at h
  by_cases c : j + 1 < n ∧ s (j + 1) = 94
  · rw [if_pos c] at h
    obtain ⟨k1, S1, e1, h⟩ := bnd_ok h
    have := grs_ok hs _ _ _ _ _ e1
    cases h; omega
  · rw [if_neg c] at h
    have := grs_ok hs _ _ _ _ _ h
    omega
theorem pat_ok {N : Nat} {t s : Nat → Int} {n : Nat} (hs : ∀ i, i < n → 32 ≤ s i ∧ s i ≤ 126) {f : Nat → Nat → Pr (Nat × Rel)} (hf : ∀ d j k zR, j ≤ n → f d j = .inr (k, zR) → j ≤ k ∧ k ≤ n ∧ (k < n → s k = 41)) {d j k : Nat} {zR : Nat × Rel} (hj : j < n) (h : pat N t s n f d j = .inr (k, zR)) : j < k ∧ k ≤ n := by
  unfold pat at h
  by_cases c1 : s j = 40
  · rw [if_pos c1] at h
    by_cases c2 : d < 20
    · rw [if_pos c2] at h
      obtain ⟨k1, z1, e1, h⟩ := bnd_ok h
      have := hf _ _ _ _ hj e1
      by_cases c3 : k1 < n
      · rw [if_pos c3] at h; cases h; omega
      · rw [if_neg c3] at h; cases h
    · rw [if_neg c2] at h; cases h
  · rw [if_neg c1] at h
    by_cases c2 : s j = 91
    · rw [if_pos c2] at h
      obtain ⟨k1, S, e1, h⟩ := bnd_ok h
      have := gcl_ok hs e1
      cases h; exact this
    · rw [if_neg c2] at h
      by_cases c3 : s j = 46
      · rw [if_pos c3] at h; cases h; omega
      · rw [if_neg c3] at h
        by_cases c4 : s j = 93 ∨ s j = 123 ∨ s j = 125 ∨ s j = 42 ∨ s j = 43 ∨ s j = 63
        · rw [if_pos c4] at h; cases h
        · rw [if_neg c4] at h
          obtain ⟨k1, c, e1, h⟩ := bnd_ok h
          have := gby_ok hs e1
          cases h; omega
theorem psm_ok {N : Nat} {t s : Nat → Int} {n : Nat} (hs : ∀ i, i < n → 32 ≤ s i ∧ s i ≤ 126) : ∀ m d j z D C k zR, j ≤ n → psm N t s n m d j z D C = .inr (k, zR) → j ≤ k ∧ k ≤ n ∧ (k < n → s k = 41) := by
  intro m
  induction m with
  | zero => intro d j z D C k zR _ h; cases h
  | succ m ih =>
    intro d j z D C k zR hj h
    unfold psm at h
    by_cases c : j < n ∧ s j ≠ 41
    · rw [if_pos c] at h
      by_cases c2 : s j = 124
      · rw [if_pos c2] at h
        have := ih _ _ _ _ _ _ _ (show j + 1 ≤ n by omega) h
        omega
      · rw [if_neg c2] at h
        obtain ⟨k1, z1, e1, h⟩ := bnd_ok h
        obtain ⟨k2, z2, e2, e1⟩ := bnd_ok e1
        obtain ⟨k3, ab, e3, e1⟩ := bnd_ok e1
        have o2 := pat_ok hs (fun d j k zR a b => ih d j _ _ _ k zR a b) c.1 e2
        have o3 := grp_ok o2.2 e3
        cases e1
        have := ih _ _ _ _ _ _ _ o3.2.1 h
        omega
    · rw [if_neg c] at h; cases h
      exact ⟨Nat.le_refl _, hj, fun y => Decidable.of_not_not (fun w => c ⟨y, w⟩)⟩
