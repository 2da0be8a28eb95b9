/-! ===== where a query is wrong ===== -/
theorem grg_er {s : Nat → Int} {n j e : Nat} (hs : ∀ i, i < n → 32 ≤ s i ∧ s i ≤ 126) (hj : j ≤ n) (h : grg s n j = .inl e) : e ≤ n := by
  rcases bnd_er h with h | ⟨k, a, e1, h⟩
  · exact (grb_er hj h).1
  · have o := grb_ok hs e1
    by_cases c : k < n ∧ s k = 45
    · rw [if_pos c] at h
      rcases bnd_er h with h | ⟨k2, b, e2, h⟩
      · exact (grb_er (show k + 1 ≤ n by omega) h).1
      · by_cases c2 : b < a
        · rw [if_pos c2] at h; cases h; omega
        · rw [if_neg c2] at h; cases h
    · rw [if_neg c] at h; cases h
theorem grs_er {s : Nat → Int} {n : Nat} (hs : ∀ i, i < n → 32 ≤ s i ∧ s i ≤ 126) : ∀ m j S e, j ≤ n → grs s n m j S = .inl e → e ≤ n := by
  intro m
  induction m with
  | zero => intro j S e hj h; cases h; exact hj
  | succ m ih =>
    intro j S e hj h
    rcases bnd_er h with h | ⟨k, ab, e1, h⟩
    · exact grg_er hs hj h
    · have o := grg_ok hs e1
      by_cases c : k < n
      · rw [if_pos c] at h
        by_cases c2 : s k = 93
        · rw [if_pos c2] at h; cases h
        · rw [if_neg c2] at h
          exact ih _ _ _ o.2 h
      · rw [if_neg c] at h; cases h; exact o.2
theorem gcl_er {s : Nat → Int} {n j e : Nat} (hs : ∀ i, i < n → 32 ≤ s i ∧ s i ≤ 126) (hj : j < n) (h : gcl s n j = .inl e) : e ≤ n := by
  unfold gcl at h
  by_cases c : j + 1 < n ∧ s (j + 1) = 94
  · rw [if_pos c] at h
    rcases bnd_er h with h | ⟨k, ab, e1, h⟩
    · exact grs_er hs _ _ _ _ (show j + 2 ≤ n by omega) h
    · cases h
  · rw [if_neg c] at h
    exact grs_er hs _ _ _ _ (show j + 1 ≤ n by omega) h
theorem gcb_er {s : Nat → Int} {n j e : Nat} {a b : Int} (hj : j ≤ n) (h : gcb s n j a b = .inl e) : e ≤ n := by
  unfold gcb at h
  by_cases c : j < n ∧ s j = 125
  · rw [if_pos c] at h; cases h
  · rw [if_neg c] at h; cases h; exact hj
theorem gns_er {s : Nat → Int} {n j e : Nat} (hj : j < n) (h : gns s n j = .inl e) : e ≤ n := by
  rcases bnd_er h with h | ⟨k, a, e1, h⟩
  · have := gnu_er h; omega
  · have o := gnu_ok e1
    by_cases c : k < n ∧ s k = 44
    · rw [if_pos c] at h
      by_cases c2 : k + 1 < n ∧ s (k + 1) = 125
      · rw [if_pos c2] at h; cases h
      · rw [if_neg c2] at h
        rcases bnd_er h with h | ⟨k2, b, e2, h⟩
        · have := gnu_er h; omega
        · by_cases c3 : b < a
          · rw [if_pos c3] at h; cases h; omega
          · rw [if_neg c3] at h
            exact gcb_er (gnu_ok e2).2.1 h
    · rw [if_neg c] at h
      exact gcb_er o.2.1 h
theorem grp_er {s : Nat → Int} {n j e : Nat} (h : grp s n j = .inl e) : e ≤ n := by
  unfold grp at h
  by_cases c : j < n
  · rw [if_pos c] at h
    by_cases c1 : s j = 42
    · rw [if_pos c1] at h; cases h
    · rw [if_neg c1] at h
      by_cases c2 : s j = 43
      · rw [if_pos c2] at h; cases h
      · rw [if_neg c2] at h
        by_cases c3 : s j = 63
        · rw [if_pos c3] at h; cases h
        · rw [if_neg c3] at h
          by_cases c4 : s j = 123
          · rw [if_pos c4] at h
            exact gns_er c h
          · rw [if_neg c4] at h; cases h
  · rw [if_neg c] at h; cases h
theorem pat_er {N : Nat} {t s : Nat → Int} {n : Nat} (hs : ∀ i, i < n → 32 ≤ s i ∧ s i ≤ 126) {f : Nat → Nat → Pr (Nat × Rel)} (hf : ∀ d j e, j ≤ n → f d j = .inl e → e ≤ n) (hk : ∀ d j k zR, j ≤ n → f d j = .inr (k, zR) → k ≤ n) {d j e : Nat} (hj : j < n) (h : pat N t s n f d j = .inl e) : e ≤ n := by
  unfold pat at h
  by_cases c1 : s j = 40
  · rw [if_pos c1] at h
    by_cases c2 : d < 20
    · rw [if_pos c2] at h
      rcases bnd_er h with h | ⟨k, a, e1, h⟩
      · exact hf _ _ _ (by omega) h
      · by_cases c3 : k < n
        · rw [if_pos c3] at h; cases h
        · rw [if_neg c3] at h; cases h
          exact hk _ _ _ _ (show j + 1 ≤ n by omega) e1
    · rw [if_neg c2] at h; cases h; omega
  · rw [if_neg c1] at h
    by_cases c2 : s j = 91
    · rw [if_pos c2] at h
      rcases bnd_er h with h | ⟨k, a, e1, h⟩
      · exact gcl_er hs hj h
      · cases h
    · rw [if_neg c2] at h
      by_cases c3 : s j = 46
      · rw [if_pos c3] at h; cases h
      · rw [if_neg c3] at h
        by_cases c4 : s j = 93 ∨ s j = 123 ∨ s j = 125 ∨ s j = 42 ∨ s j = 43 ∨ s j = 63
        · rw [if_pos c4] at h; cases h; omega
        · rw [if_neg c4] at h
          rcases bnd_er h with h | ⟨k, a, e1, h⟩
          · exact (gby_er (show j ≤ n by omega) h).1
          · cases h
theorem psm_er {N : Nat} {t s : Nat → Int} {n : Nat} (hs : ∀ i, i < n → 32 ≤ s i ∧ s i ≤ 126) : ∀ m d j z D C e, j ≤ n → psm N t s n m d j z D C = .inl e → e ≤ n := by
  intro m
  induction m with
  | zero => intro d j z D C e hj h; cases h; exact hj
  | succ m ih =>
    intro d j z D C e hj h
    unfold psm at h
    by_cases c : j < n ∧ s j ≠ 41
    · rw [if_pos c] at h
      by_cases c2 : s j = 124
      · rw [if_pos c2] at h
        exact ih _ _ _ _ _ _ (by omega) h
      · rw [if_neg c2] at h
        have hk : ∀ d j k zR, j ≤ n → psm N t s n m d j 0 (fun _ _ => False) (fun p q => p = q) = .inr (k, zR) → k ≤ n := fun d j k zR a b => (psm_ok hs m d j _ _ _ k zR a b).2.1
        rcases bnd_er h with h | ⟨k, a, e1, h⟩
        · rcases bnd_er h with h | ⟨k, a, e1, h⟩
          · exact pat_er hs (fun d j e a b => ih d j 0 _ _ e a b) hk c.1 h
          · rcases bnd_er h with h | ⟨k2, ab, e2, h⟩
            · exact grp_er h
            · cases h
        · obtain ⟨k1, a1, e2, e1⟩ := bnd_ok e1
          obtain ⟨k2, ab, e3, e1⟩ := bnd_ok e1
          have po := pat_ok hs (fun d j k zR a b => psm_ok hs m d j _ _ _ k zR a b) c.1 e2
          have gk := grp_ok po.2 e3
          cases e1
          exact ih _ _ _ _ _ _ gk.2.1 h
    · rw [if_neg c] at h; cases h
