/-! ===== the reference goes over a query ===== -/
theorem psm_ge {N : Nat} {t s : Nat → Int} {n : Nat} : ∀ m d j z D C k zR, psm N t s n m d j z D C = .inr (k, zR) → z ≤ zR.1 := by
  intro m
  induction m with
  | zero => intro d j z D C k zR h; cases h
  | succ m ih =>
    intro d j z D C k zR h
    unfold psm at h
    by_cases c : j < n ∧ s j ≠ 41
    · rw [if_pos c] at h
      by_cases c2 : s j = 124
      · rw [if_pos c2] at h
        exact ih _ _ _ _ _ _ _ h
      · rw [if_neg c2] at h
        obtain ⟨k1, a, e1, h⟩ := bnd_ok h
        have := ih _ _ _ _ _ _ _ h
        omega
    · rw [if_neg c] at h
      cases h
      exact Nat.le_refl _
theorem pat_zero {N : Nat} {t s : Nat → Int} {n : Nat} {f : Nat → Nat → Pr (Nat × Rel)} (hf : ∀ d j k zR, f d j = .inr (k, zR) → zR.1 = 0 → ∀ p q, zR.2 p q ↔ p = q) {d j k : Nat} {zR : Nat × Rel} (h : pat N t s n f d j = .inr (k, zR)) (hz : zR.1 = 0) : ∀ p q, zR.2 p q ↔ p = q := by
  unfold pat at h
  by_cases c1 : s j = 40
  · rw [if_pos c1] at h
    by_cases c2 : d < 20
    · rw [if_pos c2] at h
      obtain ⟨k1, a, e1, h⟩ := bnd_ok h
      by_cases c3 : k1 < n
      · rw [if_pos c3] at h
        cases h
        exact hf _ _ _ _ e1 hz
      · rw [if_neg c3] at h; cases h
    · rw [if_neg c2] at h; cases h
  · rw [if_neg c1] at h
    by_cases c2 : s j = 91
    · rw [if_pos c2] at h
      obtain ⟨k1, a, e1, h⟩ := bnd_ok h
      cases h
      exact absurd hz (by decide : ¬ (1 : Nat) = 0)
    · rw [if_neg c2] at h
      by_cases c3 : s j = 46
      · rw [if_pos c3] at h
        cases h
        exact absurd hz (by decide : ¬ (1 : Nat) = 0)
      · rw [if_neg c3] at h
        by_cases c4 : s j = 93 ∨ s j = 123 ∨ s j = 125 ∨ s j = 42 ∨ s j = 43 ∨ s j = 63
        · rw [if_pos c4] at h; cases h
        · rw [if_neg c4] at h
          obtain ⟨k1, a, e1, h⟩ := bnd_ok h
          cases h
          exact absurd hz (by decide : ¬ (1 : Nat) = 0)
theorem psm_zero {N : Nat} {t s : Nat → Int} {n : Nat} (hs : ∀ i, i < n → 32 ≤ s i ∧ s i ≤ 126) : ∀ m d j z D C k zR, j ≤ n → (∀ p q, D p q → p = q) → (∀ p q, C p q ↔ p = q) → psm N t s n m d j z D C = .inr (k, zR) → zR.1 = 0 → ∀ p q, zR.2 p q ↔ p = q := by
  intro m
  induction m with
  | zero => intro d j z D C k zR _ _ _ h; cases h
  | succ m ih =>
    intro d j z D C k zR hj hD hC h hz
    unfold psm at h
    by_cases c : j < n ∧ s j ≠ 41
    · rw [if_pos c] at h
      by_cases c2 : s j = 124
      · rw [if_pos c2] at h
        exact ih _ _ _ _ _ _ _ (by omega) (fun p q w => w.elim (hD p q) (hC p q).1) (fun _ _ => Iff.rfl) h hz
      · rw [if_neg c2] at h
        obtain ⟨k1, a, e1, h⟩ := bnd_ok h
        have ge := psm_ge _ _ _ _ _ _ _ _ h
        obtain ⟨k2, a2, e2, e1⟩ := bnd_ok e1
        obtain ⟨k3, ab, e3, e1⟩ := bnd_ok e1
        have po := pat_ok hs (fun d j k zR a b => psm_ok hs m d j _ _ _ k zR a b) c.1 e2
        have gk := grp_ok po.2 e3
        cases e1
        have z0 : a2.1 * cps ab.1 ab.2 = 0 := by
          simp only at ge
          omega
        refine ih _ _ _ _ _ _ _ gk.2.1 hD (fun p q => ?_) h hz
        have key : ∀ p q, pwR a2.2 ab.1 ab.2 p q ↔ p = q := fun p q => by
          rcases Nat.mul_eq_zero.1 z0 with w | w
          · have := pat_zero (fun d j k zR e => by
              intro hz0
              by_cases cj : j ≤ n
              · exact ih _ _ _ _ _ _ _ cj (fun _ _ w => w.elim) (fun _ _ => Iff.rfl) e hz0
              · cases m with
                | zero => cases e
                | succ m =>
                  unfold psm at e
                  rw [if_neg (fun w => cj (by omega))] at e
                  cases e
                  exact fun p q => ⟨fun w => w.elim (fun w => w.elim) id, Or.inr⟩) e2 w
            exact (pw_id this gk.2.2.1.1 gk.2.2.2.2 p q).symm
          · have b0 : ab.2 = 0 ∧ ab.1 = 0 := by
              unfold cps at w
              by_cases x1 : ab.2 = -1
              · rw [if_pos x1] at w
                by_cases x2 : ab.1 < 1
                · rw [if_pos x2] at w; omega
                · rw [if_neg x2] at w; omega
              · rw [if_neg x1] at w; omega
            rw [b0.1, b0.2]
            exact (pw_00 a2.2 p q).symm
        constructor
        · rintro ⟨r, r1, r2⟩
          exact ((hC p r).1 r1).trans ((key r q).1 r2)
        · intro e
          exact ⟨p, (hC p p).2 rfl, (key p q).2 e⟩
    · rw [if_neg c] at h
      cases h
      exact fun p q => ⟨fun w => w.elim (hD p q) (hC p q).1, fun w => Or.inr ((hC p q).2 w)⟩
theorem gO_err {dd d e : Nat} {mk : Int} {E : iz_A} {P : iz_A → Prop} (he : E.1 55 37 = (e : Int)) (h : P E) : Rn dd mX11_goOver (fun v A' => v = none ∧ P A') 37 [some (.inr (.inl 55)), some (.inl mk), some (.inl ((d : Int))), none, none] [] E := by
  have h0 : (0 : Int) ≤ E.1 55 37 := by rw [he]; omega
  exact w_X11_goOver_37 ⟨fun _ => w_X11_goOver_298 ⟨fun _ => w_X11_goOver_317 ⟨fun _ => w_X11_goOver_338 ⟨rfl, h⟩, fun z => absurd h0 z⟩, fun z => absurd h0 z⟩, fun z => absurd h0 z⟩
/-- a sign that is no repeat ends the last item -/
theorem gO_end {N : Nat} {t s : Nat → Int} {mk c : Int} {n dd d b j z am : Nat} {D C : Rel} {L0 : List Int} {A : iz_A} {P : iz_A → Prop} (hmk : mk = 0 ∨ mk = 1) (hd : d ≤ 20) (hj : j ≤ 200) (hb : b ≤ j) (hH : Hd N t s n mk d b j z D C L0 am A) (ga : GA am j A) (hP : ∀ A', fr [55, 79, 81, 83] A A' → ff [48, 53] (A.1 55) (A'.1 55) → Lo d A A' → GA am j A' → HC N t mk d b j z D C L0 am A' → Rn (dd + 4) mX11_goOver (fun v A' => v = none ∧ P A') 143 [some (.inr (.inl 55)), some (.inl mk), some (.inl ((d : Int))), some (.inl c), some (.inl 0)] [] A') : Rn (dd + 4) mX11_goOver (fun v A' => v = none ∧ P A') 91 [some (.inr (.inl 55)), some (.inl mk), some (.inl ((d : Int))), some (.inl c), some (.inl 0)] [] A := by
  refine w_X11_goOver_91 ⟨fun _ => ⟨fun z0 => ?_, fun z0 => ?_⟩, fun z => absurd rfl z⟩
  · subst z0
    rw [tn]
    have f : fr [79] A (iz_pI A 79 (uz (A.1 79) d 0)) := fr_pI (fr_mo (fr_rf A) (by decide)) (by decide)
    refine ⟨⟨by omega, by omega⟩, Or.inl rfl, hP _ (fr_mo f (by decide)) (ff_eq rfl) ⟨fun i hi => ⟨uz_ne _ _ (by omega), rfl, rfl, rfl, rfl, rfl⟩, fun _ _ => rfl⟩ (ga_k (m := []) ga f (by decide) (ff_eq rfl) (by decide) (Nat.le_refl _)) ⟨uz_at _ _ _, ?_, fun w => absurd w (by decide)⟩⟩
    show szR (A.2 77 d) z (j - b)
    rcases hH with ⟨c1, c2, c3⟩ | ⟨nq, zp, za, Cp, Ra, hz, hC, p1, p0, jp, p2, p3, ⟨Sp, p4, p5, p6⟩, p7⟩
    · exact c2
    · rw [p6, hz]
      exact sz_add p4 p5 (by omega) (by omega)
  · have e : mk = 1 := hmk.elim (fun w => absurd w z0) id
    subst e
    exact sM_endC hd hj hb hH ga hP
