/-! ===== the class's tree ===== -/
/-- arrays alike from lo to hi -/
def Ag (lo hi : Nat) (A C : iz_A) : Prop := ∀ u, lo ≤ u → u ≤ hi → C.1 39 u = A.1 39 u ∧ C.1 40 u = A.1 40 u ∧ C.1 41 u = A.1 41 u ∧ C.1 42 u = A.1 42 u ∧ C.1 43 u = A.1 43 u
/-- the nodes from lo to v are a tree with root v -/
def Sh (Ok : Nat → Prop) (A : iz_A) : Nat → Nat → Nat → Prop
  | 0, _, _ => False
  | m + 1, lo, v => (A.1 39 v = 0 ∧ lo = v ∧ ∃ i : Nat, A.1 40 v = (i : Int) ∧ i < 200 ∧ Ok i) ∨ ((A.1 39 v = 1 ∨ A.1 39 v = 2) ∧ ∃ l : Nat, A.1 40 v = (l : Int) ∧ A.1 41 v = (v : Int) - 1 ∧ lo ≤ l ∧ l + 2 ≤ v ∧ Sh Ok A m lo l ∧ Sh Ok A m (l + 1) (v - 1))
theorem sh_mo {Ok : Nat → Prop} {A : iz_A} : ∀ m m' lo v, m ≤ m' → Sh Ok A m lo v → Sh Ok A m' lo v := by
  intro m
  induction m with
  | zero => intro m' lo v _ h; exact h.elim
  | succ m ih =>
    intro m' lo v hm h
    obtain ⟨k, rfl⟩ : ∃ k, m' = k + 1 := ⟨m' - 1, (by omega)⟩
    rcases h with h | ⟨h1, l, h2, h3, h4, h5, h6, h7⟩
    · exact Or.inl h
    · exact Or.inr ⟨h1, l, h2, h3, h4, h5, ih k lo l (by omega) h6, ih k (l + 1) (v - 1) (by omega) h7⟩
theorem sh_le {Ok : Nat → Prop} {A : iz_A} : ∀ m lo v, Sh Ok A m lo v → lo ≤ v := by
  intro m lo v h
  cases m with
  | zero => exact h.elim
  | succ m =>
    rcases h with ⟨_, h, _⟩ | ⟨_, l, _, _, h4, h5, _⟩
    · omega
    · omega
/-- marks of the root don't matter -/
theorem shp_k {Ok : Nat → Prop} {A C : iz_A} : ∀ m lo v, (∀ u, lo ≤ u → u ≤ v → C.1 39 u = A.1 39 u ∧ C.1 40 u = A.1 40 u ∧ C.1 41 u = A.1 41 u) → Sh Ok A m lo v → Sh Ok C m lo v := by
  intro m
  induction m with
  | zero => intro lo v _ h; exact h
  | succ m ih =>
    intro lo v hg h
    have le := sh_le (m + 1) lo v h
    have g := hg v le (Nat.le_refl _)
    rcases h with ⟨h1, h2, h3⟩ | ⟨h1, l, h2, h3, h4, h5, h6, h7⟩
    · exact Or.inl ⟨g.1.trans h1, h2, by rw [g.2.1]; exact h3⟩
    · exact Or.inr ⟨by rw [g.1]; exact h1, l, g.2.1.trans h2, g.2.2.trans h3, h4, h5, ih lo l (fun u a b => hg u a (by omega)) h6, ih (l + 1) (v - 1) (fun u a b => hg u (by omega) (by omega)) h7⟩
/-- what a node means without its own marks, by what others mean -/
def Bs (N : Nat) (t : Nat → Int) (as : Nat → Int → Prop) (A : iz_A) (X : Nat → Rel) (v : Nat) : Rel := fun p q => (A.1 39 v = 0 ∧ atR N t (as (A.1 40 v).toNat) p q) ∨ (A.1 39 v = 1 ∧ ((∃ r, X (A.1 40 v).toNat p r ∧ X (v - 1) r q) ∨ (¬ A.1 42 (v - 1) = 0 ∧ X (A.1 40 v).toNat p q) ∨ (¬ A.1 42 (A.1 40 v).toNat = 0 ∧ X (v - 1) p q))) ∨ (A.1 39 v = 2 ∧ (X (A.1 40 v).toNat p q ∨ X (v - 1) p q))
def FmN (N : Nat) (t : Nat → Int) (as : Nat → Int → Prop) (A : iz_A) (X : Nat → Rel) (lo hi : Nat) : Prop := ∀ u, lo ≤ u → u ≤ hi → ∀ p q, X u p q ↔ ((A.1 43 u = 0 ∧ Bs N t as A X u p q) ∨ (¬ A.1 43 u = 0 ∧ pwR (Bs N t as A X u) 1 (-1) p q))
def Gd (N : Nat) (t : Nat → Int) (as : Nat → Int → Prop) (Ok : Nat → Prop) (A : iz_A) (lo v : Nat) (R : Rel) : Prop := (∃ m, Sh Ok A m lo v) ∧ (∀ u, lo ≤ u → u ≤ v → (A.1 42 u = 0 ∨ A.1 42 u = 1) ∧ (A.1 43 u = 0 ∨ A.1 43 u = 1)) ∧ (∀ p q, R p q → p ≤ q) ∧ (∃ X, FmN N t as A X lo v ∧ ∀ p q, X v p q ↔ (R p q ∧ p < q)) ∧ (A.1 42 v = 0 → ∀ p, ¬ R p p) ∧ (¬ A.1 42 v = 0 → ∀ p, R p p)
theorem pw_cg {R R' : Rel} (h : ∀ p q, R p q ↔ R' p q) (a b : Int) (p q : Nat) : pwR R a b p q ↔ pwR R' a b p q := by
  have e : R = R' := funext fun p => funext fun q => propext (h p q)
  rw [e]
/-- what is below in a tree -/
theorem sh_kid {Ok : Nat → Prop} {A : iz_A} : ∀ m lo v, Sh Ok A m lo v → ∀ u, lo ≤ u → u ≤ v → (A.1 39 u = 0 ∧ ∃ i : Nat, A.1 40 u = (i : Int) ∧ i < 200 ∧ Ok i) ∨ ((A.1 39 u = 1 ∨ A.1 39 u = 2) ∧ ∃ l : Nat, A.1 40 u = (l : Int) ∧ A.1 41 u = (u : Int) - 1 ∧ lo ≤ l ∧ l + 2 ≤ u) := by
  intro m
  induction m with
  | zero => intro lo v h; exact h.elim
  | succ m ih =>
    intro lo v h u a b
    rcases h with ⟨h1, h2, h3⟩ | ⟨h1, l, h2, h3, h4, h5, h6, h7⟩
    · have e : u = v := (by omega)
      subst e
      exact Or.inl ⟨h1, h3⟩
    · by_cases c1 : u ≤ l
      · exact ih lo l h6 u a c1
      · by_cases c2 : u ≤ v - 1
        · rcases ih (l + 1) (v - 1) h7 u (by omega) c2 with h | ⟨g1, l', g2, g3, g4, g5⟩
          · exact Or.inl h
          · exact Or.inr ⟨g1, l', g2, g3, (by omega), g5⟩
        · have e : u = v := (by omega)
          subst e
          exact Or.inr ⟨h1, l, h2, h3, h4, h5⟩
theorem sh_par {Ok : Nat → Prop} {A : iz_A} : ∀ m lo v, Sh Ok A m lo v → ∀ w, lo ≤ w → w < v → ∃ u, w < u ∧ u ≤ v ∧ (A.1 39 u = 1 ∨ A.1 39 u = 2) ∧ (A.1 40 u = (w : Int) ∨ u - 1 = w) := by
  intro m
  induction m with
  | zero => intro lo v h; exact h.elim
  | succ m ih =>
    intro lo v h w a b
    rcases h with ⟨h1, h2, h3⟩ | ⟨h1, l, h2, h3, h4, h5, h6, h7⟩
    · omega
    · by_cases c1 : w < l
      · obtain ⟨u, u1, u2, u3⟩ := ih lo l h6 w a c1
        exact ⟨u, u1, (by omega), u3⟩
      · by_cases c2 : w = l
        · exact ⟨v, (by omega), Nat.le_refl _, h1, Or.inl (by rw [c2]; exact h2)⟩
        · by_cases c3 : w = v - 1
          · exact ⟨v, b, Nat.le_refl _, h1, Or.inr c3.symm⟩
          · obtain ⟨u, u1, u2, u3⟩ := ih (l + 1) (v - 1) h7 w (by omega) (by omega)
            exact ⟨u, u1, (by omega), u3⟩
/-- the meaning of a node looks below only -/
theorem bs_cg {N : Nat} {t : Nat → Int} {as : Nat → Int → Prop} {A C : iz_A} {X Y : Nat → Rel} {lo v l : Nat} (hl : A.1 39 v = 0 ∨ (A.1 40 v = (l : Int) ∧ lo ≤ l ∧ l + 2 ≤ v)) (e39 : C.1 39 v = A.1 39 v) (e40 : C.1 40 v = A.1 40 v) (e42 : ∀ u, lo ≤ u → u < v → C.1 42 u = A.1 42 u) (hX : ∀ u, lo ≤ u → u < v → ∀ p q, X u p q ↔ Y u p q) (p q : Nat) : Bs N t as A X v p q ↔ Bs N t as C Y v p q := by
  unfold Bs
  rw [e39, e40]
  rcases hl with h0 | ⟨h1, h2, h3⟩
  · rw [h0]
    exact or_congr Iff.rfl (or_congr ⟨fun w => absurd w.1 (by decide), fun w => absurd w.1 (by decide)⟩ ⟨fun w => absurd w.1 (by decide), fun w => absurd w.1 (by decide)⟩)
  · rw [h1, tn, e42 (v - 1) (by omega) (by omega), e42 l h2 (by omega)]
    refine or_congr Iff.rfl (or_congr (and_congr Iff.rfl (or_congr (exists_congr fun r => and_congr (hX l h2 (by omega) p r) (hX (v - 1) (by omega) (by omega) r q)) (or_congr (and_congr Iff.rfl (hX l h2 (by omega) p q)) (and_congr Iff.rfl (hX (v - 1) (by omega) (by omega) p q))))) (and_congr Iff.rfl (or_congr (hX l h2 (by omega) p q) (hX (v - 1) (by omega) (by omega) p q))))
theorem fmN_cg {N : Nat} {t : Nat → Int} {as : Nat → Int → Prop} {Ok : Nat → Prop} {A C : iz_A} {X Y : Nat → Rel} {m lo v hi : Nat} (sh : Sh Ok A m lo v) (hv : hi ≤ v) (h : FmN N t as A X lo hi) (hg : ∀ u, lo ≤ u → u ≤ hi → C.1 39 u = A.1 39 u ∧ C.1 40 u = A.1 40 u ∧ C.1 43 u = A.1 43 u) (e42 : ∀ u, lo ≤ u → u < hi → C.1 42 u = A.1 42 u) (hX : ∀ u, lo ≤ u → u ≤ hi → ∀ p q, X u p q ↔ Y u p q) : FmN N t as C Y lo hi := by
  intro u a b p q
  have g := hg u a b
  have kd := sh_kid m lo v sh u a (by omega)
  have hl : ∃ l : Nat, A.1 39 u = 0 ∨ (A.1 40 u = (l : Int) ∧ lo ≤ l ∧ l + 2 ≤ u) := by
    rcases kd with ⟨k, _⟩ | ⟨_, l, k1, _, k3, k4⟩
    · exact ⟨0, Or.inl k⟩
    · exact ⟨l, Or.inr ⟨k1, k3, k4⟩⟩
  obtain ⟨l, hl⟩ := hl
  have bs := fun p q => bs_cg (N := N) (t := t) (as := as) hl g.1 g.2.1 (fun w a' b' => e42 w a' (by omega)) (fun w a' b' => hX w a' (by omega)) p q
  rw [← hX u a b, h u a b p q, g.2.2]
  exact or_congr (and_congr Iff.rfl (bs p q)) (and_congr Iff.rfl (pw_cg bs 1 (-1) p q))
theorem gd_k {N : Nat} {t : Nat → Int} {as : Nat → Int → Prop} {Ok : Nat → Prop} {A C : iz_A} {lo v : Nat} {R R' : Rel} (h : Gd N t as Ok A lo v R) (g : Ag lo v A C) (hR : ∀ p q, R p q ↔ R' p q) : Gd N t as Ok C lo v R' := by
  obtain ⟨⟨m, h1⟩, h2, h3, ⟨X, h4, h5⟩, h6, h7⟩ := h
  have le := sh_le _ _ _ h1
  have gv := g v le (Nat.le_refl _)
  refine ⟨⟨m, shp_k m lo v (fun u a b => ⟨(g u a b).1, (g u a b).2.1, (g u a b).2.2.1⟩) h1⟩, fun u a b => ?_, fun p q w => h3 p q ((hR p q).2 w), ⟨X, fmN_cg h1 (Nat.le_refl _) h4 (fun u a b => ⟨(g u a b).1, (g u a b).2.1, (g u a b).2.2.2.2⟩) (fun u a b => (g u a (by omega)).2.2.2.1) (fun _ _ _ _ _ => Iff.rfl), fun p q => by rw [h5 p q, hR p q]⟩, fun e p w => ?_, fun e p => ?_⟩
  · rw [(g u a b).2.2.2.1, (g u a b).2.2.2.2]
    exact h2 u a b
  · rw [gv.2.2.2.1] at e
    exact h6 e p ((hR p p).2 w)
  · rw [gv.2.2.2.1] at e
    exact (hR p p).1 (h7 e p)
theorem gd_leaf {N : Nat} {t : Nat → Int} {as : Nat → Int → Prop} {Ok : Nat → Prop} {C : iz_A} {v i : Nat} (hi : i < 200) (hok : Ok i) (e39 : C.1 39 v = 0) (e40 : C.1 40 v = (i : Int)) (e42 : C.1 42 v = 0) (e43 : C.1 43 v = 0) : Gd N t as Ok C v v (atR N t (as i)) := by
  refine ⟨⟨1, Or.inl ⟨e39, rfl, i, e40, hi, hok⟩⟩, fun u a b => ?_, fun p q w => by have := w.2.2.2; omega, ⟨fun _ => atR N t (as i), fun u a b p q => ?_, fun p q => ⟨fun w => ⟨w, by have := w.2.2.2; omega⟩, fun w => w.1⟩⟩, fun _ p w => by have := w.2.2.2; omega, fun w => absurd e42 w⟩
  · have e : u = v := (by omega)
    subst e
    exact ⟨Or.inl e42, Or.inl e43⟩
  · have e : u = v := (by omega)
    subst e
    unfold Bs
    rw [e43, e39, e40, tn]
    exact ⟨fun w => Or.inl ⟨rfl, Or.inl ⟨rfl, w⟩⟩, fun w => w.elim (fun w => w.2.elim (fun w => w.2) (fun w => w.elim (fun w => absurd w.1 (by decide)) (fun w => absurd w.1 (by decide)))) (fun w => absurd rfl w.1)⟩
/-- the root may be skipped -/
theorem gd_skip {N : Nat} {t : Nat → Int} {as : Nat → Int → Prop} {Ok : Nat → Prop} {A C : iz_A} {lo v : Nat} {R : Rel} (h : Gd N t as Ok A lo v R) (e42 : C.1 42 = uz (A.1 42) v 1) (f : fr [42] A C) : Gd N t as Ok C lo v (fun p q => R p q ∨ p = q) := by
  obtain ⟨⟨m, h1⟩, h2, h3, ⟨X, h4, h5⟩, h6, h7⟩ := h
  have e39 : C.1 39 = A.1 39 := f.1 39 (by decide)
  have e40 : C.1 40 = A.1 40 := f.1 40 (by decide)
  have e41 : C.1 41 = A.1 41 := f.1 41 (by decide)
  have e43 : C.1 43 = A.1 43 := f.1 43 (by decide)
  refine ⟨⟨m, shp_k m lo v (fun u a b => by rw [e39, e40, e41]; exact ⟨rfl, rfl, rfl⟩) h1⟩, fun u a b => ?_, fun p q w => w.elim (h3 p q) (fun e => by omega), ⟨X, fmN_cg h1 (Nat.le_refl _) h4 (fun u a b => by rw [e39, e40, e43]; exact ⟨rfl, rfl, rfl⟩) (fun u a b => by rw [e42, uz_ne _ _ (by omega)]) (fun _ _ _ _ _ => Iff.rfl), fun p q => ?_⟩, fun e => ?_, fun _ p => Or.inr rfl⟩
  · rw [e42, e43]
    refine ⟨?_, (h2 u a b).2⟩
    by_cases c : u = v
    · rw [c, uz_at]; exact Or.inr rfl
    · rw [uz_ne _ _ c]; exact (h2 u a b).1
  · rw [h5 p q]
    exact ⟨fun w => ⟨Or.inl w.1, w.2⟩, fun w => ⟨w.1.elim id (fun e => by omega), w.2⟩⟩
  · rw [e42, uz_at] at e
    exact absurd e (by decide)
