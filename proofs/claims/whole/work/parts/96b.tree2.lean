theorem rpw_add {R : Rel} : ∀ m k p r q, rpw R m p r → rpw R k r q → rpw R (m + k) p q := by
  intro m
  induction m with
  | zero =>
    intro k p r q h1 h2
    have h1 : p = r := h1
    rw [Nat.zero_add, h1]
    exact h2
  | succ m ih =>
    rintro k p r q ⟨u, u1, u2⟩ h2
    rw [show m + 1 + k = (m + k) + 1 by omega]
    exact ⟨u, u1, ih k u r q u2 h2⟩
theorem pw_tr {R : Rel} {p r q : Nat} (h : pwR R 1 (-1) p r) (h' : pwR R 1 (-1) r q) : pwR R 1 (-1) p q := by
  obtain ⟨m, a, _, h⟩ := h
  obtain ⟨k, b, _, h'⟩ := h'
  exact ⟨m + k, by omega, Or.inl rfl, rpw_add m k p r q h h'⟩
theorem pw_1 {R : Rel} {p q : Nat} (h : R p q) : pwR R 1 (-1) p q := ⟨1, by omega, Or.inl rfl, q, h, rfl⟩
theorem pw_pw {R : Rel} {p q : Nat} : pwR (pwR R 1 (-1)) 1 (-1) p q ↔ pwR R 1 (-1) p q := by
  constructor
  · rintro ⟨m, a, _, h⟩
    cases m with
    | zero => omega
    | succ m =>
      clear a
      induction m generalizing p with
      | zero =>
        obtain ⟨r, r1, r2⟩ := h
        have r2 : r = q := r2
        exact r2 ▸ r1
      | succ m ih =>
        obtain ⟨r, r1, r2⟩ := h
        exact pw_tr r1 (ih (Or.inl rfl) r2)
  · exact pw_1
/-- only steps that go on -/
theorem pw_ne {R X : Rel} (hR : ∀ p q, R p q → p ≤ q) (hX : ∀ p q, X p q ↔ (R p q ∧ p < q)) (p q : Nat) : pwR X 1 (-1) p q ↔ (pwR R 1 (-1) p q ∧ p < q) := by
  constructor
  · rintro ⟨m, a, _, h⟩
    cases m with
    | zero => omega
    | succ m =>
      clear a
      induction m generalizing p with
      | zero =>
        obtain ⟨r, r1, r2⟩ := h
        have r2 : r = q := r2
        subst r2
        have := (hX p r).1 r1
        exact ⟨pw_1 this.1, this.2⟩
      | succ m ih =>
        obtain ⟨r, r1, r2⟩ := h
        have w := (hX p r).1 r1
        have v := ih r (Or.inl rfl) r2
        exact ⟨pw_tr (pw_1 w.1) v.1, by omega⟩
  · rintro ⟨⟨m, a, _, h⟩, lt⟩
    clear a
    induction m generalizing p with
    | zero =>
      have h : p = q := h
      omega
    | succ m ih =>
      obtain ⟨r, r1, r2⟩ := h
      have l1 := hR p r r1
      have l2 := rpw_le hR m r q r2
      by_cases c : p = r
      · subst c
        exact ih p lt (Or.inl rfl) r2
      · have x1 := (hX p r).2 ⟨r1, (by omega)⟩
        by_cases c2 : r = q
        · subst c2
          exact pw_1 x1
        · exact pw_tr (pw_1 x1) (ih r (by omega) (Or.inl rfl) r2)
/-- the root may come again -/
theorem gd_loop {N : Nat} {t : Nat → Int} {as : Nat → Int → Prop} {Ok : Nat → Prop} {A C : iz_A} {lo v : Nat} {R : Rel} (h : Gd N t as Ok A lo v R) (e43 : C.1 43 = uz (A.1 43) v 1) (f : fr [43] A C) : Gd N t as Ok C lo v (pwR R 1 (-1)) := by
  obtain ⟨⟨m, h1⟩, h2, h3, ⟨X, h4, h5⟩, h6, h7⟩ := h
  have le := sh_le _ _ _ h1
  have e39 : C.1 39 = A.1 39 := f.1 39 (by decide)
  have e40 : C.1 40 = A.1 40 := f.1 40 (by decide)
  have e41 : C.1 41 = A.1 41 := f.1 41 (by decide)
  have e42 : C.1 42 = A.1 42 := f.1 42 (by decide)
  have idem : ∀ p, pwR R 1 (-1) p p ↔ R p p := fun p => by
    constructor
    · rintro ⟨k, a, _, r⟩
      cases k with
      | zero => omega
      | succ k =>
        obtain ⟨r', r1, r2⟩ := r
        have := h3 _ _ r1
        have := rpw_le h3 _ _ _ r2
        have e : r' = p := (by omega)
        subst e
        exact r1
    · exact pw_1
  refine ⟨⟨m, shp_k m lo v (fun u a b => by rw [e39, e40, e41]; exact ⟨rfl, rfl, rfl⟩) h1⟩, fun u a b => ?_, fun p q w => by obtain ⟨k, _, _, r⟩ := w; exact rpw_le h3 k p q r, ⟨fun u => if u = v then pwR (X v) 1 (-1) else X u, fun u a b p q => ?_, fun p q => ?_⟩, fun e p w => ?_, fun e p => ?_⟩
  · rw [e42, e43]
    refine ⟨(h2 u a b).1, ?_⟩
    by_cases c : u = v
    · rw [c, uz_at]; exact Or.inr rfl
    · rw [uz_ne _ _ c]; exact (h2 u a b).2
  · have kd := sh_kid m lo v h1 u a b
    have hl : ∃ l : Nat, A.1 39 u = 0 ∨ (A.1 40 u = (l : Int) ∧ lo ≤ l ∧ l + 2 ≤ u) := by
      rcases kd with ⟨k, _⟩ | ⟨_, l, k1, _, k3, k4⟩
      · exact ⟨0, Or.inl k⟩
      · exact ⟨l, Or.inr ⟨k1, k3, k4⟩⟩
    obtain ⟨l, hl⟩ := hl
    have bs : ∀ p q, Bs N t as A X u p q ↔ Bs N t as C (fun u => if u = v then pwR (X v) 1 (-1) else X u) u p q := fun p q => bs_cg (N := N) (t := t) (as := as) hl (by rw [e39]) (by rw [e40]) (fun w _ _ => by rw [e42]) (fun w _ b' p q => by
      show X w p q ↔ (if w = v then pwR (X v) 1 (-1) else X w) p q
      rw [if_neg (show ¬ w = v by omega)]) p q
    show (if u = v then pwR (X v) 1 (-1) else X u) p q ↔ _
    by_cases c : u = v
    · subst c
      rw [if_pos rfl, e43, uz_at, ← pw_cg bs 1 (-1) p q]
      have hv := h4 u a b
      have main : pwR (X u) 1 (-1) p q ↔ pwR (Bs N t as A X u) 1 (-1) p q := by
        by_cases l0 : A.1 43 u = 0
        · exact pw_cg (fun p q => (hv p q).trans ⟨fun w => w.elim (fun w => w.2) (fun w => absurd l0 w.1), fun w => Or.inl ⟨l0, w⟩⟩) 1 (-1) p q
        · rw [pw_cg (R' := pwR (Bs N t as A X u) 1 (-1)) (fun p q => (hv p q).trans ⟨fun w => w.elim (fun w => absurd w.1 l0) (fun w => w.2), fun w => Or.inr ⟨l0, w⟩⟩) 1 (-1) p q]
          exact pw_pw
      rw [main]
      exact ⟨fun w => Or.inr ⟨by decide, w⟩, fun w => w.elim (fun w => absurd w.1 (by decide)) (fun w => w.2)⟩
    · rw [if_neg c, e43, uz_ne _ _ c, h4 u a b p q]
      exact or_congr (and_congr Iff.rfl (bs p q)) (and_congr Iff.rfl (pw_cg bs 1 (-1) p q))
  · show (if v = v then pwR (X v) 1 (-1) else X v) p q ↔ _
    rw [if_pos rfl]
    exact pw_ne h3 h5 p q
  · rw [e42] at e
    exact h6 e p ((idem p).1 w)
  · rw [e42] at e
    exact (idem p).2 (h7 e p)
/-- two trees one behind the other, and a node over them -/
theorem fm_glue {N : Nat} {t : Nat → Int} {as : Nat → Int → Prop} {Ok : Nat → Prop} {A C : iz_A} {X1 X2 : Nat → Rel} {Z : Rel} {m1 m2 lo l r : Nat} (s1 : Sh Ok A m1 lo l) (s2 : Sh Ok A m2 (l + 1) r) (f1 : FmN N t as A X1 lo l) (f2 : FmN N t as A X2 (l + 1) r) (g : Ag lo r A C) (hz : ∀ p q, Z p q ↔ ((C.1 43 (r + 1) = 0 ∧ Bs N t as C (fun u => if u ≤ l then X1 u else if u ≤ r then X2 u else Z) (r + 1) p q) ∨ (¬ C.1 43 (r + 1) = 0 ∧ pwR (Bs N t as C (fun u => if u ≤ l then X1 u else if u ≤ r then X2 u else Z) (r + 1)) 1 (-1) p q))) : FmN N t as C (fun u => if u ≤ l then X1 u else if u ≤ r then X2 u else Z) lo (r + 1) := by
  have le1 := sh_le _ _ _ s1
  have le2 := sh_le _ _ _ s2
  have F1 : FmN N t as C (fun u => if u ≤ l then X1 u else if u ≤ r then X2 u else Z) lo l := fmN_cg s1 (Nat.le_refl _) f1 (fun u a b => ⟨(g u a (by omega)).1, (g u a (by omega)).2.1, (g u a (by omega)).2.2.2.2⟩) (fun u a b => (g u a (by omega)).2.2.2.1) (fun u a b p q => by
    show X1 u p q ↔ (if u ≤ l then X1 u else if u ≤ r then X2 u else Z) p q
    rw [if_pos b])
  have F2 : FmN N t as C (fun u => if u ≤ l then X1 u else if u ≤ r then X2 u else Z) (l + 1) r := fmN_cg s2 (Nat.le_refl _) f2 (fun u a b => ⟨(g u (by omega) b).1, (g u (by omega) b).2.1, (g u (by omega) b).2.2.2.2⟩) (fun u a b => (g u (by omega) (by omega)).2.2.2.1) (fun u a b p q => by
    show X2 u p q ↔ (if u ≤ l then X1 u else if u ≤ r then X2 u else Z) p q
    rw [if_neg (by omega), if_pos b])
  intro u a b p q
  by_cases c1 : u ≤ l
  · exact F1 u a c1 p q
  · by_cases c2 : u ≤ r
    · exact F2 u (by omega) c2 p q
    · have e : u = r + 1 := (by omega)
      subst e
      show (if r + 1 ≤ l then X1 (r + 1) else if r + 1 ≤ r then X2 (r + 1) else Z) p q ↔ _
      rw [if_neg (by omega), if_neg (by omega)]
      exact hz p q
theorem gd_node {N : Nat} {t : Nat → Int} {as : Nat → Int → Prop} {Ok : Nat → Prop} {A C : iz_A} {lo l r : Nat} {R1 R2 : Rel} {kd : Int} (h1 : Gd N t as Ok A lo l R1) (h2 : Gd N t as Ok A (l + 1) r R2) (g : Ag lo r A C) (hk : kd = 1 ∨ kd = 2) (e39 : C.1 39 (r + 1) = kd) (e40 : C.1 40 (r + 1) = (l : Int)) (e41 : C.1 41 (r + 1) = (r : Int)) (e42 : C.1 42 (r + 1) = (if kd = 1 then (if A.1 42 l = 0 ∨ A.1 42 r = 0 then 0 else 1) else (if A.1 42 l = 0 ∧ A.1 42 r = 0 then 0 else 1))) (e43 : C.1 43 (r + 1) = 0) : Gd N t as Ok C lo (r + 1) (if kd = 1 then (fun p q => ∃ u, R1 p u ∧ R2 u q) else (fun p q => R1 p q ∨ R2 p q)) := by
  obtain ⟨⟨m1, a1⟩, a2, a3, ⟨X1, a4, a5⟩, a6, a7⟩ := h1
  obtain ⟨⟨m2, b1⟩, b2', b3, ⟨X2, b4, b5⟩, b6, b7⟩ := h2
  have le1 := sh_le _ _ _ a1
  have le2 := sh_le _ _ _ b1
  have gl := g l le1 (by omega)
  have gr := g r (by omega) (Nat.le_refl _)
  have s1 : Sh Ok C (m1 + m2) lo l := sh_mo m1 _ _ _ (by omega) (shp_k m1 lo l (fun u a b => ⟨(g u a (by omega)).1, (g u a (by omega)).2.1, (g u a (by omega)).2.2.1⟩) a1)
  have s2 : Sh Ok C (m1 + m2) (l + 1) r := sh_mo m2 _ _ _ (by omega) (shp_k m2 (l + 1) r (fun u a b => ⟨(g u (by omega) b).1, (g u (by omega) b).2.1, (g u (by omega) b).2.2.1⟩) b1)
  have x1 : ∀ p q, (if l ≤ l then X1 l else if l ≤ r then X2 l else (fun _ _ => False : Rel)) p q ↔ X1 l p q := fun p q => by rw [if_pos (Nat.le_refl l)]
  -- the meaning of the new node
  have key : ∃ Z : Rel, (∀ p q, Z p q ↔ (if kd = 1 then ((∃ u, X1 l p u ∧ X2 r u q) ∨ (¬ A.1 42 r = 0 ∧ X1 l p q) ∨ (¬ A.1 42 l = 0 ∧ X2 r p q)) else (X1 l p q ∨ X2 r p q))) := ⟨_, fun p q => Iff.rfl⟩
  obtain ⟨Z, hZ⟩ := key
  have bsZ : ∀ p q, Bs N t as C (fun u => if u ≤ l then X1 u else if u ≤ r then X2 u else Z) (r + 1) p q ↔ Z p q := fun p q => by
    rw [hZ p q]
    unfold Bs
    rw [e39, e40, tn, show r + 1 - 1 = r by omega, gl.2.2.2.1, gr.2.2.2.1]
    simp only [Nat.le_refl, if_true, if_neg (show ¬ r ≤ l by omega)]
    rcases hk with rfl | rfl
    · rw [if_pos rfl]
      exact ⟨fun w => w.elim (fun w => absurd w.1 (by decide)) (fun w => w.elim (fun w => w.2) (fun w => absurd w.1 (by decide))), fun w => Or.inr (Or.inl ⟨rfl, w⟩)⟩
    · rw [if_neg (by decide)]
      exact ⟨fun w => w.elim (fun w => absurd w.1 (by decide)) (fun w => w.elim (fun w => absurd w.1 (by decide)) (fun w => w.2)), fun w => Or.inr (Or.inr ⟨rfl, w⟩)⟩
  refine ⟨⟨m1 + m2 + 1, Or.inr ⟨by rw [e39]; exact hk, l, e40, by rw [e41]; omega, le1, (by omega), s1, by rw [show r + 1 - 1 = r by omega]; exact s2⟩⟩, fun u a b => ?_, fun p q w => ?_, ⟨fun u => if u ≤ l then X1 u else if u ≤ r then X2 u else Z, fm_glue a1 b1 a4 b4 g (fun p q => ?_), fun p q => ?_⟩, fun e p w => ?_, fun e p => ?_⟩
  · by_cases c1 : u ≤ l
    · have gu := g u a (by omega)
      rw [gu.2.2.2.1, gu.2.2.2.2]
      exact a2 u a c1
    · by_cases c2 : u ≤ r
      · have gu := g u a c2
        rw [gu.2.2.2.1, gu.2.2.2.2]
        exact b2' u (by omega) c2
      · have e : u = r + 1 := (by omega)
        subst e
        rw [e42, e43]
        refine ⟨?_, Or.inl rfl⟩
        split <;> split <;> first | exact Or.inl rfl | exact Or.inr rfl
  · rcases hk with rfl | rfl
    · rw [if_pos rfl] at w
      obtain ⟨u, w1, w2⟩ := w
      exact Nat.le_trans (a3 _ _ w1) (b3 _ _ w2)
    · rw [if_neg (by decide)] at w
      exact w.elim (a3 p q) (b3 p q)
  · rw [e43, bsZ p q]
    exact ⟨fun w => Or.inl ⟨rfl, w⟩, fun w => w.elim (fun w => w.2) (fun w => absurd rfl w.1)⟩
  · show (if r + 1 ≤ l then X1 (r + 1) else if r + 1 ≤ r then X2 (r + 1) else Z) p q ↔ _
    rw [if_neg (by omega), if_neg (by omega), hZ p q]
    rcases hk with rfl | rfl
    · rw [if_pos rfl, if_pos rfl]
      constructor
      · rintro (⟨u, w1, w2⟩ | ⟨n0, w1⟩ | ⟨n0, w1⟩)
        · have w1 := (a5 _ _).1 w1
          have w2 := (b5 _ _).1 w2
          exact ⟨⟨u, w1.1, w2.1⟩, (by omega)⟩
        · have w1 := (a5 _ _).1 w1
          exact ⟨⟨q, w1.1, b7 n0 q⟩, w1.2⟩
        · have w1 := (b5 _ _).1 w1
          exact ⟨⟨p, a7 n0 p, w1.1⟩, w1.2⟩
      · rintro ⟨⟨u, w1, w2⟩, lt⟩
        have l1 := a3 _ _ w1
        have l2 := b3 _ _ w2
        by_cases c1 : p = u
        · subst c1
          exact Or.inr (Or.inr ⟨fun e => a6 e p w1, (b5 _ _).2 ⟨w2, lt⟩⟩)
        · by_cases c2 : u = q
          · subst c2
            exact Or.inr (Or.inl ⟨fun e => b6 e u w2, (a5 _ _).2 ⟨w1, lt⟩⟩)
          · exact Or.inl ⟨u, (a5 _ _).2 ⟨w1, (by omega)⟩, (b5 _ _).2 ⟨w2, (by omega)⟩⟩
    · rw [if_neg (by decide), if_neg (by decide), a5 p q, b5 p q]
      exact ⟨fun w => w.elim (fun w => ⟨Or.inl w.1, w.2⟩) (fun w => ⟨Or.inr w.1, w.2⟩), fun w => w.1.elim (fun v => Or.inl ⟨v, w.2⟩) (fun v => Or.inr ⟨v, w.2⟩)⟩
  · rcases hk with rfl | rfl
    · rw [if_pos rfl] at w
      rw [e42, if_pos rfl] at e
      obtain ⟨u, w1, w2⟩ := w
      have l1 := a3 _ _ w1
      have l2 := b3 _ _ w2
      have eu : u = p := (by omega)
      subst eu
      by_cases c : A.1 42 l = 0 ∨ A.1 42 r = 0
      · exact c.elim (fun c => a6 c u w1) (fun c => b6 c u w2)
      · rw [if_neg c] at e
        exact absurd e (by decide)
    · rw [if_neg (by decide)] at w
      rw [e42, if_neg (by decide)] at e
      by_cases c : A.1 42 l = 0 ∧ A.1 42 r = 0
      · exact w.elim (a6 c.1 p) (b6 c.2 p)
      · rw [if_neg c] at e
        exact absurd e (by decide)
  · rcases hk with rfl | rfl
    · rw [if_pos rfl]
      rw [e42, if_pos rfl] at e
      by_cases c : A.1 42 l = 0 ∨ A.1 42 r = 0
      · rw [if_pos c] at e
        exact absurd rfl e
      · exact ⟨p, a7 (fun w => c (Or.inl w)) p, b7 (fun w => c (Or.inr w)) p⟩
    · rw [if_neg (by decide)]
      rw [e42, if_neg (by decide)] at e
      by_cases c : A.1 42 l = 0 ∧ A.1 42 r = 0
      · rw [if_pos c] at e
        exact absurd rfl e
      · by_cases c2 : A.1 42 l = 0
        · exact Or.inr (b7 (fun w => c ⟨c2, w⟩) p)
        · exact Or.inl (a7 c2 p)
