/-! ===== how far mirrors reach ===== -/
theorem sX_mirrored {d : Nat} {A : iz_A} {x : Ix} {l r : Int} {P : Int → iz_A → Prop} (h1 : TxOk x) (h4 : XI x A) (hr : 0 ≤ r ∧ r < (ixn x : Int)) (h1' : ∀ a b : Nat, l = (a : Int) → r = (b : Int) → a < ixn x → b < ixn x → ixt x a = ixt x b → P 1 A) (h0 : (∀ a b : Nat, l = (a : Int) → r = (b : Int) → b < ixn x → a < ixn x → ¬ ixt x a = ixt x b) → P 0 A) (hl : l < (ixn x : Int)) : Ci (d + 1) 44 [.inr (.inl 48), .inl l, .inl r] A P := by
  have nb := h1.2.2.1
  refine e_X5_mirrored ⟨fun z => ⟨Or.inl rfl, _, rfl, h0 (fun a b e => by omega)⟩, fun z => ?_⟩
  obtain ⟨a, rfl⟩ : ∃ a : Nat, l = (a : Int) := ⟨l.toNat, (by omega)⟩
  obtain ⟨b, rfl⟩ : ∃ b : Nat, r = (b : Int) := ⟨r.toNat, (by omega)⟩
  rw [tn, tn, (h4.2.2.1 a (by omega)).1, (h4.2.2.1 b (by omega)).1]
  refine ⟨⟨by omega, by omega⟩, ⟨by omega, by omega⟩, fun z3 => ⟨Or.inl rfl, _, rfl, h0 (fun a' b' e1 e2 _ _ => ?_)⟩, fun z3 => ⟨Or.inr rfl, _, rfl, h1' a b rfl rfl (by omega) (by omega) z3⟩⟩
  rw [show a' = a by omega, show b' = b by omega]
  exact z3
/-- the mirror that reaches farthest to the right -/
def Far (x : Ix) (p s : Nat) (v1 v2 : Int) : Prop := (v1 = 0 ∧ v2 = -1) ∨ ∃ lf rg : Nat, v1 = (lf : Int) ∧ v2 = (rg : Int) ∧ rg < ixn x ∧ lf + rg + s < 2 * p ∧ ∀ i, lf ≤ i → i ≤ rg → ixt x i = ixt x (lf + rg - i)
def Rch (x : Ix) (c r : Nat) : Prop := r ≤ c + 1 ∧ (∀ j, j < r → c + j < ixn x ∧ ixt x (c - j) = ixt x (c + j)) ∧ ¬ (r ≤ c ∧ c + r < ixn x ∧ ixt x (c - r) = ixt x (c + r))
def Gap (x : Ix) (c g : Nat) : Prop := g ≤ c ∧ (∀ j, j < g → c + j < ixn x ∧ ixt x (c - 1 - j) = ixt x (c + j)) ∧ ¬ (g + 1 ≤ c ∧ c + g < ixn x ∧ ixt x (c - 1 - g) = ixt x (c + g))
theorem sX_reaches {d : Nat} {A : iz_A} {x : Ix} {P : iz_A → Prop} (h1 : TxOk x) (h4 : XI x A) (hP : ∀ C, fr [50] A C → (∀ c, c < ixn x → ∃ r : Nat, C.1 50 c = (r : Int) ∧ Rch x c r) → P C) : Cv (d + 2) 45 [.inr (.inl 48)] A P := by
  have nb := h1.2.2.1
  refine e_X5_learnReaches ?_
  have main := dwl (P := fun p => ∀ B (v1 v2 : Int), fr [50] A B → Far x p 0 v1 v2 → (∀ c, c < p → ∃ r : Nat, B.1 50 c = (r : Int) ∧ Rch x c r) → Rn (d + 1) mX5_learnReaches (fun v A' => v = none ∧ P A') 6 [some (.inr (.inl 48)), some (.inl v1), some (.inl v2), some (.inl ((p : Int))), none] [] B) (a := 0) (n := ixn x) ?_ (fun p _ hp ih => ?_) (Nat.zero_le _) A 0 (-1) (fr_mo (fr_rf A) (by decide)) (Or.inl ⟨rfl, rfl⟩) (fun c hc => by omega)
  · exact main
  · intro B v1 v2 f hF b
    refine w_X5_learnReaches_6 ?_
    rw [f.1 5 (by decide), h4.1]
    exact ⟨fun _ => ⟨rfl, hP B f b⟩, fun z => by omega⟩
  · intro B v1 v2 f hF b
    have h4b : XI x B := XI_k h4 f (by decide)
    have v2b : -1 ≤ v2 ∧ v2 < (ixn x : Int) := by
      rcases hF with ⟨-, y⟩ | ⟨lf, rg, y1, y2, y3, -⟩ <;> omega
    rw [show ((p + 1 : Nat) : Int) = (p : Int) + 1 by omega] at ih
    -- once the reach is known
    have fin : ∀ r : Nat, 1 ≤ r → Rch x p r → ((0 : Int) ≤ (p : Int) ∧ (p : Int) < (3000 : Int)) ∧ (inR ((p : Int) + (r : Int)) ∧ (inR ((p : Int) + (r : Int) - (1 : Int)) ∧ (((p : Int) + (r : Int) - (1 : Int) ≤ v2 → (inR ((p : Int) + (1 : Int)) ∧ Rn (d + 1) mX5_learnReaches (fun v A' => v = none ∧ P A') 6 [some (.inr (.inl 48)), some (.inl v1), some (.inl v2), some (.inl ((p : Int) + (1 : Int))), none] [] (iz_pI B 50 (uz (B.1 50) (p : Int).toNat (r : Int))))) ∧ (¬ (p : Int) + (r : Int) - (1 : Int) ≤ v2 → (inR ((p : Int) - (r : Int)) ∧ (inR ((p : Int) - (r : Int) + (1 : Int)) ∧ (inR ((p : Int) + (r : Int)) ∧ (inR ((p : Int) + (r : Int) - (1 : Int)) ∧ (inR ((p : Int) + (1 : Int)) ∧ Rn (d + 1) mX5_learnReaches (fun v A' => v = none ∧ P A') 6 [some (.inr (.inl 48)), some (.inl ((p : Int) - (r : Int) + (1 : Int))), some (.inl ((p : Int) + (r : Int) - (1 : Int))), some (.inl ((p : Int) + (1 : Int))), none] [] (iz_pI B 50 (uz (B.1 50) (p : Int).toNat (r : Int)))))))))))) := by
      intro r h1r hR
      have hr := hR.1
      have hj := hR.2.1
      have put : ∀ w1 w2 : Int, Far x (p + 1) 0 w1 w2 → Rn (d + 1) mX5_learnReaches (fun v A' => v = none ∧ P A') 6 [some (.inr (.inl 48)), some (.inl w1), some (.inl w2), some (.inl ((p : Int) + 1)), none] [] (iz_pI B 50 (uz (B.1 50) p (r : Int))) := fun w1 w2 hw => ih _ w1 w2 (fr_pI f (by decide)) hw (fun c hc => by
        show ∃ r' : Nat, uz (B.1 50) p (r : Int) c = (r' : Int) ∧ _
        by_cases y : c = p
        · rw [y, uz_at]; exact ⟨r, rfl, hR⟩
        · rw [uz_ne _ _ y]; exact b c (by omega))
      have hj0 := (hj (r - 1) (by omega)).1
      rw [tn]
      refine ⟨⟨by omega, by omega⟩, inR_b (by omega) (by omega), inR_b (by omega) (by omega), fun z => ⟨inR_b (by omega) (by omega), put v1 v2 ?_⟩, fun z => ⟨inR_b (by omega) (by omega), inR_b (by omega) (by omega), inR_b (by omega) (by omega), inR_b (by omega) (by omega), inR_b (by omega) (by omega), ?_⟩⟩
      · rcases hF with y | ⟨lf, rg, y1, y2, y3, y4, y5⟩
        · exact Or.inl y
        · exact Or.inr ⟨lf, rg, y1, y2, y3, (by omega), y5⟩
      · refine put _ _ (Or.inr ⟨p + 1 - r, p + r - 1, (by omega), (by omega), (by omega), (by omega), fun i i1 i2 => ?_⟩)
        by_cases w : i ≤ p
        · have := (hj (p - i) (by omega)).2
          rw [show p - (p - i) = i by omega, show p + (p - i) = p + 1 - r + (p + r - 1) - i by omega] at this
          exact this
        · have := (hj (i - p) (by omega)).2
          rw [show p - (i - p) = p + 1 - r + (p + r - 1) - i by omega, show p + (i - p) = i by omega] at this
          exact this.symm
    -- from a reach that is right so far
    have go : ∀ m r, r + m = p + 1 → 1 ≤ r → (∀ j, j < r → p + j < ixn x ∧ ixt x (p - j) = ixt x (p + j)) → Rn (d + 1) mX5_learnReaches (fun v A' => v = none ∧ P A') 46 [some (.inr (.inl 48)), some (.inl v1), some (.inl v2), some (.inl ((p : Int))), some (.inl ((r : Int)))] [] B := by
      intro m
      induction m with
      | zero =>
        intro r hr h1r hj
        have hR : Rch x p r := ⟨(by omega), hj, fun y => by omega⟩
        refine w_X5_learnReaches_46 ?_
        rw [h4b.1]
        exact ⟨inR_b (by omega) (by omega), fun _ => fin r h1r hR, fun z => ⟨inR_b (by omega) (by omega), inR_b (by omega) (by omega), sX_mirrored h1 h4b ⟨by omega, by omega⟩ (fun a b e => by omega) (fun _ => ⟨fun _ => fin r h1r hR, fun z => absurd rfl z⟩) (by omega)⟩⟩
      | succ m ihm =>
        intro r hr h1r hj
        have hj0 := (hj (r - 1) (by omega)).1
        refine w_X5_learnReaches_46 ?_
        rw [h4b.1]
        refine ⟨inR_b (by omega) (by omega), fun z => fin r h1r ⟨(by omega), hj, fun y => by omega⟩, fun z => ⟨inR_b (by omega) (by omega), inR_b (by omega) (by omega), sX_mirrored h1 h4b ⟨by omega, by omega⟩ (fun a c e1 e2 ha hc et => ⟨fun z => absurd z n10, fun _ => ⟨inR_b (by omega) (by omega), ?_⟩⟩) (fun hno => ⟨fun _ => fin r h1r ⟨(by omega), hj, fun y => hno (p - r) (p + r) (by omega) (by omega) y.2.1 (by omega) y.2.2⟩, fun z => absurd rfl z⟩) (by omega)⟩⟩
        rw [show (r : Int) + 1 = ((r + 1 : Nat) : Int) by omega]
        refine ihm (r + 1) (by omega) (by omega) (fun j hj' => ?_)
        by_cases w : j = r
        · rw [w, show p - r = a by omega, show p + r = c by omega]
          exact ⟨hc, et⟩
        · exact hj j (by omega)
    refine w_X5_learnReaches_6 ?_
    rw [h4b.1]
    refine ⟨fun z => by omega, fun _ => ⟨fun z => ?_, fun z => ?_⟩⟩
    · rcases hF with ⟨-, y⟩ | ⟨lf, rg, y1, y2, y3, y4, y5⟩
      · omega
      · obtain ⟨r, r0, r1, r2, r3⟩ := b (lf + rg - p) (by omega)
        subst y1 y2
        rw [show ((lf : Int) + (rg : Int) - (p : Int)).toNat = lf + rg - p by omega, r0]
        have r1' : 1 ≤ r := by
          by_cases w : r = 0
          · exact absurd ⟨(by omega), (by omega), by rw [w]; rfl⟩ r3
          · omega
        refine ⟨inR_b (by omega) (by omega), inR_b (by omega) (by omega), ⟨by omega, by omega⟩, inR_b (by omega) (by omega), inR_b (by omega) (by omega), ?_⟩
        have key : ∀ k, 1 ≤ k → k ≤ r → k ≤ rg - p + 1 → Rn (d + 1) mX5_learnReaches (fun v A' => v = none ∧ P A') 46 [some (.inr (.inl 48)), some (.inl ((lf : Int))), some (.inl ((rg : Int))), some (.inl ((p : Int))), some (.inl ((k : Int)))] [] B := fun k k1 k2 k3 => go (p + 1 - k) k (by omega) k1 (fun j hj => by
          have m1 := (r2 j (by omega)).2
          have e1 := y5 (p + j) (by omega) (by omega)
          have e2 := y5 (p - j) (by omega) (by omega)
          rw [show lf + rg - (p + j) = lf + rg - p - j by omega] at e1
          rw [show lf + rg - (p - j) = lf + rg - p + j by omega] at e2
          exact ⟨(by omega), by rw [e1, e2, m1]⟩)
        by_cases w : (rg : Int) - (p : Int) + 1 < (r : Int)
        · rw [if_pos w, show (rg : Int) - (p : Int) + 1 = ((rg - p + 1 : Nat) : Int) by omega]
          exact key _ (by omega) (by omega) (Nat.le_refl _)
        · rw [if_neg w]
          exact key _ r1' (Nat.le_refl _) (by omega)
    · exact go p 1 (by omega) (Nat.le_refl _) (fun j hj => by
        obtain rfl : j = 0 := (by omega)
        exact ⟨hp, rfl⟩)
theorem sX_gaps {d : Nat} {A : iz_A} {x : Ix} {P : iz_A → Prop} (h1 : TxOk x) (h4 : XI x A) (hP : ∀ C, fr [51] A C → (∀ c, c < ixn x → ∃ g : Nat, C.1 51 c = (g : Int) ∧ Gap x c g) → P C) : Cv (d + 2) 46 [.inr (.inl 48)] A P := by
  have nb := h1.2.2.1
  refine e_X5_learnGapReaches ?_
  have main := dwl (P := fun p => ∀ B (v1 v2 : Int), fr [51] A B → Far x p 1 v1 v2 → (∀ c, c < p → ∃ r : Nat, B.1 51 c = (r : Int) ∧ Gap x c r) → Rn (d + 1) mX5_learnGapReaches (fun v A' => v = none ∧ P A') 6 [some (.inr (.inl 48)), some (.inl v1), some (.inl v2), some (.inl ((p : Int))), none] [] B) (a := 0) (n := ixn x) ?_ (fun p _ hp ih => ?_) (Nat.zero_le _) A 0 (-1) (fr_mo (fr_rf A) (by decide)) (Or.inl ⟨rfl, rfl⟩) (fun c hc => by omega)
  · exact main
  · intro B v1 v2 f hF b
    refine w_X5_learnGapReaches_6 ?_
    rw [f.1 5 (by decide), h4.1]
    exact ⟨fun _ => ⟨rfl, hP B f b⟩, fun z => by omega⟩
  · intro B v1 v2 f hF b
    have h4b : XI x B := XI_k h4 f (by decide)
    have v2b : -1 ≤ v2 ∧ v2 < (ixn x : Int) := by
      rcases hF with ⟨-, y⟩ | ⟨lf, rg, y1, y2, y3, -⟩ <;> omega
    rw [show ((p + 1 : Nat) : Int) = (p : Int) + 1 by omega] at ih
    have put : ∀ r, Gap x p r → ∀ w1 w2 : Int, Far x (p + 1) 1 w1 w2 → Rn (d + 1) mX5_learnGapReaches (fun v A' => v = none ∧ P A') 6 [some (.inr (.inl 48)), some (.inl w1), some (.inl w2), some (.inl ((p : Int) + 1)), none] [] (iz_pI B 51 (uz (B.1 51) p (r : Int))) := fun r hR w1 w2 hw => ih _ w1 w2 (fr_pI f (by decide)) hw (fun c hc => by
      show ∃ r' : Nat, uz (B.1 51) p (r : Int) c = (r' : Int) ∧ _
      by_cases y : c = p
      · rw [y, uz_at]; exact ⟨r, rfl, hR⟩
      · rw [uz_ne _ _ y]; exact b c (by omega))
    have far1 : Far x (p + 1) 1 v1 v2 := by
      rcases hF with y | ⟨lf, rg, y1, y2, y3, y4, y5⟩
      · exact Or.inl y
      · exact Or.inr ⟨lf, rg, y1, y2, y3, (by omega), y5⟩
    have far2 : ∀ r, r ≤ p → p + r ≤ ixn x → (∀ j, j < r → p + j < ixn x ∧ ixt x (p - 1 - j) = ixt x (p + j)) → ¬ ((p : Int) + (r : Int) - 1 ≤ v2) → (Far x (p + 1) 1 ((p : Int) - (r : Int)) ((p : Int) + (r : Int) - 1)) := fun r hr rb hj z => by
      by_cases r0 : r = 0
      · by_cases p0 : p = 0
        · omega
        · refine Or.inr ⟨p, p - 1, (by omega), (by omega), (by omega), (by omega), fun i i1 i2 => by omega⟩
      · refine Or.inr ⟨p - r, p + r - 1, (by omega), (by omega), (by omega), (by omega), fun i i1 i2 => ?_⟩
        by_cases w : i < p
        · have := (hj (p - 1 - i) (by omega)).2
          rw [show p - 1 - (p - 1 - i) = i by omega, show p + (p - 1 - i) = p - r + (p + r - 1) - i by omega] at this
          exact this
        · have := (hj (i - p) (by omega)).2
          rw [show p - 1 - (i - p) = p - r + (p + r - 1) - i by omega, show p + (i - p) = i by omega] at this
          exact this.symm
    -- once the reach is known
    have fin : ∀ r : Nat, Gap x p r → p + r ≤ ixn x → ((0 : Int) ≤ (p : Int) ∧ (p : Int) < (3000 : Int)) ∧ (inR ((p : Int) + (r : Int)) ∧ (inR ((p : Int) + (r : Int) - (1 : Int)) ∧ (((p : Int) + (r : Int) - (1 : Int) ≤ v2 → (inR ((p : Int) + (1 : Int)) ∧ Rn (d + 1) mX5_learnGapReaches (fun v A' => v = none ∧ P A') 6 [some (.inr (.inl 48)), some (.inl v1), some (.inl v2), some (.inl ((p : Int) + (1 : Int))), none] [] (iz_pI B 51 (uz (B.1 51) (p : Int).toNat (r : Int))))) ∧ (¬ (p : Int) + (r : Int) - (1 : Int) ≤ v2 → (inR ((p : Int) - (r : Int)) ∧ (inR ((p : Int) + (r : Int)) ∧ (inR ((p : Int) + (r : Int) - (1 : Int)) ∧ (inR ((p : Int) + (1 : Int)) ∧ Rn (d + 1) mX5_learnGapReaches (fun v A' => v = none ∧ P A') 6 [some (.inr (.inl 48)), some (.inl ((p : Int) - (r : Int))), some (.inl ((p : Int) + (r : Int) - (1 : Int))), some (.inl ((p : Int) + (1 : Int))), none] [] (iz_pI B 51 (uz (B.1 51) (p : Int).toNat (r : Int))))))))))) := by
      intro r hR rb
      have hr := hR.1
      rw [tn]
      exact ⟨⟨by omega, by omega⟩, inR_b (by omega) (by omega), inR_b (by omega) (by omega), fun z => ⟨inR_b (by omega) (by omega), put r hR v1 v2 far1⟩, fun z => ⟨inR_b (by omega) (by omega), inR_b (by omega) (by omega), inR_b (by omega) (by omega), inR_b (by omega) (by omega), put r hR _ _ (far2 r hr rb hR.2.1 z)⟩⟩
    have go : ∀ m r, r + m = p → (∀ j, j < r → p + j < ixn x ∧ ixt x (p - 1 - j) = ixt x (p + j)) → Rn (d + 1) mX5_learnGapReaches (fun v A' => v = none ∧ P A') 48 [some (.inr (.inl 48)), some (.inl v1), some (.inl v2), some (.inl ((p : Int))), some (.inl ((r : Int)))] [] B := by
      intro m
      induction m with
      | zero =>
        intro r hrm hj
        have rb : p + r ≤ ixn x := by
          by_cases y : r = 0
          · omega
          · have := (hj (r - 1) (by omega)).1
            omega
        have hR : Gap x p r := ⟨(by omega), hj, fun y => by omega⟩
        refine w_X5_learnGapReaches_48 ?_
        rw [h4b.1]
        exact ⟨inR_b (by omega) (by omega), fun _ => fin r hR rb, fun z => ⟨inR_b (by omega) (by omega), inR_b (by omega) (by omega), inR_b (by omega) (by omega), sX_mirrored h1 h4b ⟨by omega, by omega⟩ (fun a b e => by omega) (fun _ => ⟨fun _ => fin r hR rb, fun z => absurd rfl z⟩) (by omega)⟩⟩
      | succ m ihm =>
        intro r hrm hj
        have rb : p + r ≤ ixn x := by
          by_cases y : r = 0
          · omega
          · have := (hj (r - 1) (by omega)).1
            omega
        refine w_X5_learnGapReaches_48 ?_
        rw [h4b.1]
        refine ⟨inR_b (by omega) (by omega), fun z => fin r ⟨(by omega), hj, fun y => by omega⟩ rb, fun z => ⟨inR_b (by omega) (by omega), inR_b (by omega) (by omega), inR_b (by omega) (by omega), sX_mirrored h1 h4b ⟨by omega, by omega⟩ (fun a c e1 e2 ha hc et => ⟨fun z => absurd z n10, fun _ => ⟨inR_b (by omega) (by omega), ?_⟩⟩) (fun hno => ⟨fun _ => fin r ⟨(by omega), hj, fun y => hno (p - 1 - r) (p + r) (by omega) (by omega) y.2.1 (by omega) y.2.2⟩ rb, fun z => absurd rfl z⟩) (by omega)⟩⟩
        rw [show (r : Int) + 1 = ((r + 1 : Nat) : Int) by omega]
        refine ihm (r + 1) (by omega) (fun j hj' => ?_)
        by_cases w : j = r
        · rw [w, show p - 1 - r = a by omega, show p + r = c by omega]
          exact ⟨hc, et⟩
        · exact hj j (by omega)
    refine w_X5_learnGapReaches_6 ?_
    rw [h4b.1]
    refine ⟨fun z => by omega, fun _ => ⟨fun z => ?_, fun z => go p 0 (by omega) (fun j hj => by omega)⟩⟩
    rcases hF with ⟨-, y⟩ | ⟨lf, rg, y1, y2, y3, y4, y5⟩
    · omega
    · obtain ⟨r, r0, r1, r2, r3⟩ := b (lf + rg - p + 1) (by omega)
      subst y1 y2
      rw [show ((lf : Int) + (rg : Int) - (p : Int) + 1).toNat = lf + rg - p + 1 by omega, r0]
      refine ⟨inR_b (by omega) (by omega), inR_b (by omega) (by omega), inR_b (by omega) (by omega), ⟨by omega, by omega⟩, inR_b (by omega) (by omega), inR_b (by omega) (by omega), ?_⟩
      have key : ∀ k, k ≤ r → k ≤ rg - p + 1 → Rn (d + 1) mX5_learnGapReaches (fun v A' => v = none ∧ P A') 48 [some (.inr (.inl 48)), some (.inl ((lf : Int))), some (.inl ((rg : Int))), some (.inl ((p : Int))), some (.inl ((k : Int)))] [] B := fun k k2 k3 => go (p - k) k (by omega) (fun j hj => by
        have m1 := (r2 j (by omega)).2
        have e1 := y5 (p + j) (by omega) (by omega)
        have e2 := y5 (p - 1 - j) (by omega) (by omega)
        rw [show lf + rg - (p + j) = lf + rg - p + 1 - 1 - j by omega] at e1
        rw [show lf + rg - (p - 1 - j) = lf + rg - p + 1 + j by omega] at e2
        exact ⟨(by omega), by rw [e1, e2, m1]⟩)
      by_cases w : (rg : Int) - (p : Int) + 1 < (r : Int)
      · rw [if_pos w, show (rg : Int) - (p : Int) + 1 = ((rg - p + 1 : Nat) : Int) by omega]
        exact key _ (by omega) (Nat.le_refl _)
      · rw [if_neg w]
        exact key _ (Nat.le_refl _) (by omega)
theorem sX_plearn {d : Nat} {A : iz_A} {x : Ix} {P : iz_A → Prop} (h1 : TxOk x) (h2 : PmOk x) (h3 : SoOk x) (h4 : XI x A) (hP : ∀ C, fr [49, 50, 51, 52, 53, 54] A C → (∃ er, ErR x er C) → RcR x C → P C) : Cv (d + 3) 42 [.inr (.inl 48)] A P := by
  refine e_X5_learn (sX_earlier h1 h2 h3 h4 fun B fB hB => sX_reaches h1 (XI_k h4 fB (by decide)) fun C fC hC => sX_gaps h1 (XI_k (XI_k h4 fB (by decide)) fC (by decide)) fun D fD hD => ⟨rfl, hP D (fr_mo (fr_tr fB (fr_tr fC fD)) (by decide)) ?_ (fun c hc => ⟨?_, ?_⟩)⟩)
  · obtain ⟨er, h⟩ := hB
    refine ⟨er, fun p hp => ?_⟩
    rw [fD.1 49 (by decide), fC.1 49 (by decide)]
    exact h p hp
  · rw [fD.1 50 (by decide)]
    obtain ⟨r, r1, r2⟩ := hC c hc
    exact ⟨r, r1, r2⟩
  · obtain ⟨r, r1, r2⟩ := hD c hc
    exact ⟨r, r1, r2⟩
