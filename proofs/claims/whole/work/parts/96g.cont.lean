/-! ===== what comes behind a node ===== -/
def Ah (X C : Nat → Rel) (u : Nat) : Rel := fun p e => ∃ q, X u p q ∧ C u q e
def Af (A : iz_A) (X C : Nat → Rel) (u : Nat) : Rel := fun p e => C u p e ∨ (¬ A.1 43 u = 0 ∧ Ah X C u p e)
def FmC (A : iz_A) (X C : Nat → Rel) (lo v : Nat) : Prop := ∀ u, lo ≤ u → u ≤ v → (A.1 39 u = 1 ∨ A.1 39 u = 2) → ∀ l : Nat, A.1 40 u = (l : Int) → (∀ p e, C (u - 1) p e ↔ Af A X C u p e) ∧ (A.1 39 u = 1 → ∀ p e, C l p e ↔ (Ah X C (u - 1) p e ∨ (¬ A.1 42 (u - 1) = 0 ∧ Af A X C u p e))) ∧ (A.1 39 u = 2 → ∀ p e, C l p e ↔ Af A X C u p e)
/-- steps that go on, within the text -/
def Go (N : Nat) (X : Rel) : Prop := ∀ p q, X p q → p < q ∧ q ≤ N
def Gw (N : Nat) (K : Rel) : Prop := ∀ p e, K p e → p ≤ e ∧ (e ≤ N ∨ e = p)
theorem famC {Ok : Nat → Prop} {A : iz_A} {N : Nat} {X : Nat → Rel} : ∀ m lo v, Sh Ok A m lo v → (∀ u, lo ≤ u → u ≤ v → Go N (X u)) → ∀ K : Rel, Gw N K → ∃ C : Nat → Rel, C v = K ∧ FmC A X C lo v ∧ ∀ u, lo ≤ u → u ≤ v → Gw N (C u) := by
  intro m
  induction m with
  | zero => intro lo v h; exact h.elim
  | succ m ih =>
    intro lo v h hX K hK
    rcases h with ⟨h1, h2, h3⟩ | ⟨h1, l, h2, h3, h4, h5, h6, h7⟩
    · refine ⟨fun _ => K, rfl, fun u a b c => ?_, fun _ _ _ => hK⟩
      have e : u = v := (by omega)
      subst e
      omega
    · have le1 := sh_le _ _ _ h6
      have le2 := sh_le _ _ _ h7
      have hKr : Gw N (fun p e => K p e ∨ (¬ A.1 43 v = 0 ∧ ∃ q, X v p q ∧ K q e)) := fun p e w => by
        rcases w with w | ⟨_, q, w1, w2⟩
        · exact hK p e w
        · have a := hX v (by omega) (Nat.le_refl _) p q w1
          have b := hK q e w2
          exact ⟨(by omega), (by omega)⟩
      have hAr : Gw N (fun p e => ∃ q, X (v - 1) p q ∧ (K q e ∨ (¬ A.1 43 v = 0 ∧ ∃ q', X v q q' ∧ K q' e))) := fun p e ⟨q, w1, w2⟩ => by
        have a := hX (v - 1) (by omega) (by omega) p q w1
        have b := hKr q e w2
        exact ⟨(by omega), (by omega)⟩
      obtain ⟨C2, d1, d2, d3⟩ := ih (l + 1) (v - 1) h7 (fun u a b => hX u (by omega) (by omega)) _ hKr
      obtain ⟨C1, c1, c2, c3⟩ := ih lo l h6 (fun u a b => hX u a (by omega)) (if A.1 39 v = 1 then (fun p e => (∃ q, X (v - 1) p q ∧ (K q e ∨ (¬ A.1 43 v = 0 ∧ ∃ q', X v q q' ∧ K q' e))) ∨ (¬ A.1 42 (v - 1) = 0 ∧ (K p e ∨ (¬ A.1 43 v = 0 ∧ ∃ q, X v p q ∧ K q e)))) else (fun p e => K p e ∨ (¬ A.1 43 v = 0 ∧ ∃ q, X v p q ∧ K q e))) (by
        by_cases c : A.1 39 v = 1
        · rw [if_pos c]
          intro p e w
          rcases w with w | w
          · exact hAr p e w
          · exact hKr p e w.2
        · rw [if_neg c]
          exact hKr)
      have q1 : ∀ u, u ≤ l → (if u ≤ l then C1 u else if u ≤ v - 1 then C2 u else K) = C1 u := fun u hu => if_pos hu
      have q2 : ∀ u, ¬ u ≤ l → u ≤ v - 1 → (if u ≤ l then C1 u else if u ≤ v - 1 then C2 u else K) = C2 u := fun u a b => by rw [if_neg a, if_pos b]
      have q3 : (if v ≤ l then C1 v else if v ≤ v - 1 then C2 v else K) = K := by rw [if_neg (by omega), if_neg (by omega)]
      refine ⟨fun u => if u ≤ l then C1 u else if u ≤ v - 1 then C2 u else K, q3, fun u a b hk l' hl' => ?_, fun u a b => ?_⟩
      · by_cases x1 : u ≤ l
        · have kd := sh_kid m lo l h6 u a x1
          rcases kd with ⟨k, _⟩ | ⟨_, l2, k1, _, k3, k4⟩
          · omega
          · have el : l' = l2 := by omega
            subst el
            have w := c2 u a x1 hk l' hl'
            unfold Af Ah at w ⊢
            simp only [q1 u x1, q1 (u - 1) (by omega), q1 l' (by omega)]
            exact w
        · by_cases x2 : u ≤ v - 1
          · have kd := sh_kid m (l + 1) (v - 1) h7 u (by omega) x2
            rcases kd with ⟨k, _⟩ | ⟨_, l2, k1, _, k3, k4⟩
            · omega
            · have el : l' = l2 := by omega
              subst el
              have w := d2 u (by omega) x2 hk l' hl'
              unfold Af Ah at w ⊢
              simp only [q2 u x1 x2, q2 (u - 1) (by omega) (by omega), q2 l' (by omega) (by omega)]
              exact w
          · have e : u = v := (by omega)
            subst e
            have el : l' = l := by omega
            subst el
            unfold Af Ah
            simp only [q3, q2 (u - 1) (by omega) (Nat.le_refl _), q1 l' (Nat.le_refl _)]
            refine ⟨fun p e => ?_, fun e1 p e => ?_, fun e2 p e => ?_⟩
            · rw [d1]
            · rw [c1, d1, if_pos e1]
            · rw [c1, if_neg (by omega)]
      · show Gw N (if u ≤ l then C1 u else if u ≤ v - 1 then C2 u else K)
        by_cases x1 : u ≤ l
        · rw [q1 u x1]
          exact c3 u a x1
        · by_cases x2 : u ≤ v - 1
          · rw [q2 u x1 x2]
            exact d3 u (by omega) x2
          · have e : u = v := (by omega)
            subst e
            rw [q3]
            exact hK
theorem go_pw {N : Nat} {B : Rel} (h : Go N B) : ∀ k p q, rpw B (k + 1) p q → p < q ∧ q ≤ N := by
  intro k
  induction k with
  | zero =>
    rintro p q ⟨r, r1, r2⟩
    have r2 : r = q := r2
    exact h p q (r2 ▸ r1)
  | succ k ih =>
    rintro p q ⟨r, r1, r2⟩
    have a := h p r r1
    have b := ih r q r2
    exact ⟨(by omega), (by omega)⟩
/-- all nodes go on -/
theorem fmN_go {N : Nat} {t : Nat → Int} {as : Nat → Int → Prop} {Ok : Nat → Prop} {A : iz_A} {X : Nat → Rel} {m lo v : Nat} (sh : Sh Ok A m lo v) (h : FmN N t as A X lo v) : ∀ u, lo ≤ u → u ≤ v → Go N (X u) := by
  intro u
  induction u using Nat.strongRecOn with
  | ind u ih =>
    intro a b
    have kd := sh_kid m lo v sh u a b
    have bs : Go N (Bs N t as A X u) := fun p q w => by
      rcases w with ⟨_, w⟩ | ⟨k1, w⟩ | ⟨k1, w⟩
      · have e := w.2.2.2
        have := w.1
        exact ⟨(by omega), (by omega)⟩
      · rcases kd with ⟨k, _⟩ | ⟨_, l, g1, _, g3, g4⟩
        · omega
        · rw [g1, tn] at w
          have i1 := ih l (by omega) g3 (by omega)
          have i2 := ih (u - 1) (by omega) (by omega) (by omega)
          rcases w with ⟨r, r1, r2⟩ | ⟨_, w⟩ | ⟨_, w⟩
          · have := i1 p r r1
            have := i2 r q r2
            exact ⟨(by omega), (by omega)⟩
          · exact i1 p q w
          · exact i2 p q w
      · rcases kd with ⟨k, _⟩ | ⟨_, l, g1, _, g3, g4⟩
        · omega
        · rw [g1, tn] at w
          exact w.elim (ih l (by omega) g3 (by omega) p q) (ih (u - 1) (by omega) (by omega) (by omega) p q)
    intro p q w
    rcases (h u a b p q).1 w with ⟨_, w⟩ | ⟨_, w⟩
    · exact bs p q w
    · obtain ⟨k, k1, _, r⟩ := w
      cases k with
      | zero => omega
      | succ k => exact go_pw bs k p q r
