/-! ===== the pattern at hand ===== -/
/-- but for these fields the same -/
def ff (l : List Nat) (f g : Nat → Int) : Prop := ∀ j, j ∉ l → g j = f j
theorem ff_eq {l : List Nat} {f g : Nat → Int} (h : g = f) : ff l f g := fun _ _ => by rw [h]
theorem ff_mo {l m : List Nat} {f g : Nat → Int} (h : ff l f g) (hl : ∀ q ∈ l, q ∈ m) : ff m f g := fun j hj => h j (fun z => hj (hl j z))
theorem ff_uz {l : List Nat} {f g : Nat → Int} {q : Nat} {v : Int} (h : ff l f g) (hq : q ∈ l) : ff l f (uz g q v) := fun j hj => by
  have : j ≠ q := fun e => hj (e ▸ hq)
  rw [uz_ne _ _ this]
  exact h j hj
theorem ff_tr {l : List Nat} {f g k : Nat → Int} (h : ff l f g) (h' : ff l g k) : ff l f k := fun j hj => (h' j hj).trans (h j hj)
theorem upn {P : Nat → Prop} {a b : Nat} (h0 : P a) (h1 : ∀ r, a ≤ r → r < b → P r → P (r + 1)) (hab : a ≤ b) : P b := by
  have : ∀ m, a + m ≤ b → P (a + m) := by
    intro m
    induction m with
    | zero => exact fun _ => h0
    | succ m ih => exact fun hm => h1 (a + m) (by omega) (by omega) (ih (by omega))
  have := this (b - a) (by omega)
  rwa [show a + (b - a) = b by omega] at this
theorem XI_k {x : Ix} {A C : iz_A} {l : List Nat} (h : XI x A) (f : fr l A C) (hl : ∀ q ∈ [5, 6, 7, 8, 9, 10, 11, 12], q ∉ l) : XI x C := by
  unfold XI at h ⊢
  rw [f.1 5 (hl 5 (by decide)), f.1 6 (hl 6 (by decide)), f.1 7 (hl 7 (by decide)), f.1 8 (hl 8 (by decide)), f.1 9 (hl 9 (by decide)), f.1 10 (hl 10 (by decide)), f.1 11 (hl 11 (by decide)), f.1 12 (hl 12 (by decide))]
  exact h
theorem MI_k {x : Ix} {A C : iz_A} {l m : List Nat} (h : MI x A) (f : fr l A C) (hl : ∀ q ∈ [59, 60, 61, 62, 63, 64, 65], q ∉ l) (g : ff m (A.1 55) (C.1 55)) (hm : ∀ q ∈ [6, 7, 8], q ∉ m) : MI x C := by
  unfold MI at h ⊢
  rw [f.1 59 (hl 59 (by decide)), f.1 60 (hl 60 (by decide)), f.1 61 (hl 61 (by decide)), f.1 62 (hl 62 (by decide)), f.1 63 (hl 63 (by decide)), f.1 64 (hl 64 (by decide)), f.1 65 (hl 65 (by decide)), g 6 (hm 6 (by decide)), g 7 (hm 7 (by decide)), g 8 (hm 8 (by decide))]
  exact h
def HdX (C : iz_A) (dn p len lo hi : Nat) : Prop := C.1 17 3 = (dn : Int) ∧ C.1 17 4 = (p : Int) ∧ C.1 17 5 = (len : Int) ∧ C.1 17 6 = (lo : Int) ∧ C.1 17 7 = (hi : Int)
def HdM (C : iz_A) (dn len lo hi : Nat) : Prop := C.1 55 22 = (len : Int) ∧ C.1 55 23 = (lo : Int) ∧ C.1 55 24 = (hi : Int) - (lo : Int) ∧ C.1 55 26 = (dn : Int)
theorem dwl {P : Nat → Prop} {a n : Nat} (h0 : P n) (h1 : ∀ r, a ≤ r → r < n → P (r + 1) → P r) (hle : a ≤ n) : P a := by
  refine dwn (P := fun r => a ≤ r → P r) (n := n) (fun _ => h0) (fun r hr ih ha => h1 r ha hr (ih (by omega))) a hle (Nat.le_refl _)
theorem sX_stand {d : Nat} {A : iz_A} {x : Ix} {p len lo hi dn : Nat} {P : iz_A → Prop} (h1 : TxOk x) (h2 : PmOk x) (h4 : XI x A) (g : Rg x p len lo hi) (hd : A.1 17 3 = (dn : Int)) (hP : ∀ C, fr [17] A C → HdX C dn p len lo hi → P C) : Cv (d + 1) 5 [.inr (.inl 17), .inl (p : Int), .inl (len : Int)] A P := by
  obtain ⟨g1, g2, g3, g4, g5, g6, g7⟩ := g
  have hb := h1.2.2.1
  have hr := (h2.2 p g1).1
  refine e_X1_stand ⟨⟨by omega, by omega⟩, ?_⟩
  rw [tn, (h4.2.2.1 p g1).2.2]
  have stop : ∀ B, fr [17] A B → B.1 17 3 = (dn : Int) → B.1 17 4 = (p : Int) → B.1 17 5 = (len : Int) → B.1 17 6 = (lo : Int) → B.1 17 7 = ((ixr x p + 1 : Nat) : Int) → Rn d mX1_stand (fun v A' => v = none ∧ P A') 77 [some (.inr (.inl 17)), some (.inl (p : Int)), some (.inl (len : Int))] [] B := by
    refine dwl (P := fun r => ∀ B, fr [17] A B → B.1 17 3 = (dn : Int) → B.1 17 4 = (p : Int) → B.1 17 5 = (len : Int) → B.1 17 6 = (lo : Int) → B.1 17 7 = (r : Int) → Rn d mX1_stand (fun v A' => v = none ∧ P A') 77 [some (.inr (.inl 17)), some (.inl (p : Int)), some (.inl (len : Int))] [] B) (n := hi) ?_ (fun r ha hr ih => ?_) (by omega)
    · intro B f b3 b4 b5 b6 b7
      refine w_X1_stand_77 ?_
      rw [b7, b5, tn, f.1 5 (by decide), f.1 11 (by decide), h4.1]
      refine ⟨fun _ => ⟨rfl, hP B f ⟨b3, b4, b5, b6, b7⟩⟩, fun z => ⟨⟨by omega, by omega⟩, fun _ => ⟨rfl, hP B f ⟨b3, b4, b5, b6, b7⟩⟩, fun z2 => ?_⟩⟩
      rw [(h4.2.2.2.2 hi (by omega)).2.1] at z2
      have := g7 (by omega)
      omega
    · intro B f b3 b4 b5 b6 b7
      refine w_X1_stand_77 ?_
      rw [b7, b5, tn, f.1 5 (by decide), f.1 11 (by decide), h4.1, (h4.2.2.2.2 r (by omega)).2.1]
      have := g5 r (by omega) (by omega)
      refine ⟨fun z => by omega, fun z => ⟨⟨by omega, by omega⟩, fun z => by omega, fun z2 => ⟨inR_b (by omega) (by omega), ?_⟩⟩⟩
      exact ih _ (fr_pI f (by decide)) b3 b4 b5 b6 rfl
  have top : ∀ B, fr [17] A B → B.1 17 3 = (dn : Int) → B.1 17 4 = (p : Int) → B.1 17 5 = (len : Int) → B.1 17 6 = (lo : Int) → Rn d mX1_stand (fun v A' => v = none ∧ P A') 77 [some (.inr (.inl 17)), some (.inl (p : Int)), some (.inl (len : Int))] [] (iz_pI B 17 (uz (B.1 17) 7 ((ixr x p : Int) + 1))) := fun B f b3 b4 b5 b6 => by
    exact stop _ (fr_pI f (by decide)) b3 b4 b5 b6 rfl
  refine upn (P := fun r => ∀ B, fr [17] A B → B.1 17 3 = (dn : Int) → B.1 17 4 = (p : Int) → B.1 17 5 = (len : Int) → B.1 17 6 = (r : Int) → Rn d mX1_stand (fun v A' => v = none ∧ P A') 23 [some (.inr (.inl 17)), some (.inl (p : Int)), some (.inl (len : Int))] [] B) (a := lo) (b := ixr x p) ?_ (fun r ha hr ih => ?_) g2 _ ?_ ?_ ?_ ?_ ?_
  · intro B f b3 b4 b5 b6
    refine w_X1_stand_23 ?_
    rw [b6, b5, tn, tn, f.1 10 (by decide), f.1 11 (by decide), (h4.2.2.1 p g1).2.2]
    refine ⟨fun _ => ⟨⟨by omega, by omega⟩, inR_b (by omega) (by omega), top B f b3 b4 b5 b6⟩, fun z => ⟨⟨by omega, by omega⟩, fun _ => ⟨⟨by omega, by omega⟩, inR_b (by omega) (by omega), top B f b3 b4 b5 b6⟩, fun z2 => ?_⟩⟩
    rw [(h4.2.2.2.2 lo (by omega)).2.1] at z2
    have := g6 (by omega)
    omega
  · intro B f b3 b4 b5 b6
    refine w_X1_stand_23 ?_
    have := g5 (r + 1) (by omega) (by omega)
    rw [b6, b5, tn, tn, f.1 10 (by decide), f.1 11 (by decide), (h4.2.2.1 p g1).2.2, (h4.2.2.2.2 (r + 1) (by omega)).2.1]
    refine ⟨fun z => by omega, fun z => ⟨⟨by omega, by omega⟩, fun z => by omega, fun z2 => ⟨inR_b (by omega) (by omega), ?_⟩⟩⟩
    exact ih _ (fr_pI f (by decide)) b3 b4 b5 (show ((r + 1 : Nat) : Int) - 1 = (r : Int) by omega)
  · exact fr_pI (fr_pI (fr_pI (fr_mo (fr_rf A) (by decide)) (by decide)) (by decide)) (by decide)
  · exact hd
  · rfl
  · rfl
  · rfl
theorem sX_become {d : Nat} {A : iz_A} {x : Ix} {p len lo hi : Nat} {P : iz_A → Prop} (h1 : TxOk x) (h2 : PmOk x) (h4 : XI x A) (g : Rg x p len lo hi) (hd : ∃ dn : Nat, A.1 17 3 = (dn : Int)) (hP : ∀ C, fr [17] A C → HdX C 0 p len lo hi → P C) : Cv (d + 2) 4 [.inr (.inl 17), .inl (p : Int), .inl (len : Int)] A P := by
  obtain ⟨dn, hd⟩ := hd
  refine e_X1_become (sX_stand h1 h2 h4 g hd fun C f hC => ⟨rfl, hP _ (fr_pI f (by decide)) ?_⟩)
  obtain ⟨c3, c4, c5, c6, c7⟩ := hC
  exact ⟨rfl, c4, c5, c6, c7⟩
theorem sX_rows {d : Nat} {A : iz_A} {dn p len lo hi : Nat} {P : Int → iz_A → Prop} (h : HdX A dn p len lo hi) (h3 : lo ≤ hi) (h4 : hi ≤ 3000) (hP : P ((hi - lo : Nat) : Int) A) : Ci (d + 1) 6 [.inr (.inl 17)] A P := by
  refine e_X1_rows ?_
  rw [h.2.2.2.1, h.2.2.2.2]
  refine ⟨inR_b (by omega) (by omega), _, rfl, ?_⟩
  rw [show ((hi : Int) - (lo : Int)) = ((hi - lo : Nat) : Int) by omega]
  exact hP
theorem sM_findRows {d : Nat} {A : iz_A} {x : Ix} {p len lo hi : Nat} {P : iz_A → Prop} (h1 : TxOk x) (h2 : PmOk x) (h5 : MI x A) (g : Rg x p len lo hi) (hP : ∀ C, fr [55] A C → ff [23, 24] (A.1 55) (C.1 55) → C.1 55 23 = (lo : Int) → C.1 55 24 = (hi : Int) - (lo : Int) → P C) : Cv (d + 1) 186 [.inr (.inl 55), .inl (p : Int), .inl (len : Int)] A P := by
  obtain ⟨g1, g2, g3, g4, g5, g6, g7⟩ := g
  have hb := h1.2.2.1
  have hr := (h2.2 p g1).1
  refine e_X11_findRows ⟨⟨by omega, by omega⟩, ?_⟩
  rw [tn, (h5.2.2.2.1 p g1).2.2]
  have done : ∀ B, fr [55] A B → ff [23, 24] (A.1 55) (B.1 55) → B.1 55 23 = (lo : Int) → P (iz_pI B 55 (uz (B.1 55) 24 ((hi : Int) - (lo : Int)))) := fun B f e b => by
    refine hP _ (fr_pI f (by decide)) (ff_uz e (by decide)) b rfl
  have stop : ∀ B, fr [55] A B → ff [23, 24] (A.1 55) (B.1 55) → B.1 55 23 = (lo : Int) → Rn d mX11_findRows (fun v A' => v = none ∧ P A') 52 [some (.inr (.inl 55)), some (.inl (p : Int)), some (.inl (len : Int)), some (.inl ((ixr x p : Int) + 1))] [] B := fun B f e b => by
    rw [show ((ixr x p : Int) + 1) = ((ixr x p + 1 : Nat) : Int) by omega]
    have e7 : B.1 55 7 = (ixn x : Int) := (e 7 (by decide)).trans h5.2.1
    refine dwl (P := fun r => Rn d mX11_findRows (fun v A' => v = none ∧ P A') 52 [some (.inr (.inl 55)), some (.inl (p : Int)), some (.inl (len : Int)), some (.inl (r : Int))] [] B) (n := hi) ?_ (fun r ha hr ih => ?_) (by omega)
    · refine w_X11_findRows_52 ?_
      rw [e7, b, tn, f.1 65 (by decide)]
      refine ⟨fun _ => ⟨inR_b (by omega) (by omega), rfl, done B f e b⟩, fun z => ⟨⟨by omega, by omega⟩, fun _ => ⟨inR_b (by omega) (by omega), rfl, done B f e b⟩, fun z2 => ?_⟩⟩
      rw [(h5.2.2.2.2.2.1 hi (by omega)).2] at z2
      have := g7 (by omega)
      omega
    · refine w_X11_findRows_52 ?_
      have := g5 r (by omega) (by omega)
      rw [e7, b, tn, f.1 65 (by decide), (h5.2.2.2.2.2.1 r (by omega)).2]
      exact ⟨fun z => by omega, fun z => ⟨⟨by omega, by omega⟩, fun z => by omega, fun z2 => ⟨inR_b (by omega) (by omega), ih⟩⟩⟩
  refine upn (P := fun r => ∀ B, fr [55] A B → ff [23, 24] (A.1 55) (B.1 55) → B.1 55 23 = (r : Int) → Rn d mX11_findRows (fun v A' => v = none ∧ P A') 10 [some (.inr (.inl 55)), some (.inl (p : Int)), some (.inl (len : Int)), none] [] B) (a := lo) (b := ixr x p) ?_ (fun r ha hr ih => ?_) g2 _ ?_ ?_ ?_
  · intro B f e b
    refine w_X11_findRows_10 ?_
    rw [b, tn, tn, f.1 64 (by decide), f.1 65 (by decide), (h5.2.2.2.1 p g1).2.2]
    refine ⟨fun _ => ⟨⟨by omega, by omega⟩, inR_b (by omega) (by omega), stop B f e b⟩, fun z => ⟨⟨by omega, by omega⟩, fun _ => ⟨⟨by omega, by omega⟩, inR_b (by omega) (by omega), stop B f e b⟩, fun z2 => ?_⟩⟩
    rw [(h5.2.2.2.2.2.1 lo (by omega)).2] at z2
    have := g6 (by omega)
    omega
  · intro B f e b
    refine w_X11_findRows_10 ?_
    have := g5 (r + 1) (by omega) (by omega)
    rw [b, tn, tn, f.1 64 (by decide), f.1 65 (by decide), (h5.2.2.2.1 p g1).2.2, (h5.2.2.2.2.2.1 (r + 1) (by omega)).2]
    refine ⟨fun z => by omega, fun z => ⟨⟨by omega, by omega⟩, fun z => by omega, fun z2 => ⟨inR_b (by omega) (by omega), ?_⟩⟩⟩
    exact ih _ (fr_pI f (by decide)) (ff_uz e (by decide)) (show ((r + 1 : Nat) : Int) - 1 = (r : Int) by omega)
  · exact fr_pI (fr_mo (fr_rf A) (by decide)) (by decide)
  · exact ff_uz (ff_eq rfl) (by decide)
  · rfl
theorem sM_become {d : Nat} {A : iz_A} {x : Ix} {p len lo hi : Nat} {P : iz_A → Prop} (h1 : TxOk x) (h2 : PmOk x) (h5 : MI x A) (g : Rg x p len lo hi) (hl : len ≤ lft x p) (hP : ∀ C, fr [55, 69] A C → ff [22, 23, 24, 26] (A.1 55) (C.1 55) → HdM C 0 len lo hi → (∀ j, j < len → C.1 69 j = ixt x (p + j)) → P C) : Cv (d + 2) 187 [.inr (.inl 55), .inl (p : Int), .inl (len : Int)] A P := by
  have hb := h1.2.2.1
  have hp := g.1
  have lp := lft_in h1 hp
  refine e_X11_become ?_
  refine dwl (P := fun r => ∀ B, fr [55, 69] A B → B.1 55 = A.1 55 → (∀ j, j < r → B.1 69 j = ixt x (p + j)) → Rn (d + 1) mX11_become (fun v A' => v = none ∧ P A') 2 [some (.inr (.inl 55)), some (.inl (p : Int)), some (.inl (len : Int)), some (.inl (r : Int))] [] B) (a := 0) (n := len) ?_ (fun r ha hr ih => ?_) (Nat.zero_le _) A (fr_mo (fr_rf A) (by decide)) rfl (fun j hj => by omega)
  · intro B f e b
    refine w_X11_become_2 ⟨fun _ => ?_, fun z => by omega⟩
    have f1 : fr [55, 69] A (iz_pI (iz_pI B 55 (uz (B.1 55) 22 (len : Int))) 55 (uz (uz (B.1 55) 22 (len : Int)) 26 0)) := fr_pI (fr_pI f (by decide)) (by decide)
    have e1 : ff [22, 26] (A.1 55) ((iz_pI (iz_pI B 55 (uz (B.1 55) 22 (len : Int))) 55 (uz (uz (B.1 55) 22 (len : Int)) 26 0)).1 55) := ff_uz (ff_uz (ff_eq e) (by decide)) (by decide)
    refine sM_findRows h1 h2 (MI_k h5 f1 (by decide) e1 (by decide)) g fun C f2 e2 c23 c24 => ⟨rfl, ?_⟩
    refine hP C (fr_mo (fr_tr f1 f2) (by decide)) (ff_tr (ff_mo e1 (by decide)) (ff_mo e2 (by decide))) ⟨(e2 22 (by decide)).trans rfl, c23, c24, (e2 26 (by decide)).trans rfl⟩ (fun j hj => ?_)
    rw [f2.1 69 (by decide)]
    exact b j hj
  · intro B f e b
    refine w_X11_become_2 ⟨fun z => by omega, fun z => ⟨inR_b (by omega) (by omega), ⟨by omega, by omega⟩, ⟨by omega, by omega⟩, inR_b (by omega) (by omega), ?_⟩⟩
    refine ih _ (fr_pI f (by decide)) e (fun j hj => ?_)
    show uz (B.1 69) ((r : Int)).toNat _ j = _
    rw [tn, show ((p : Int) + (r : Int)).toNat = p + r by omega, f.1 59 (by decide), tM_in h1 h5 hp (by omega)]
    by_cases c : j = r
    · rw [c, uz_at]
    · rw [uz_ne _ _ c]
      exact b j (by omega)
/-- class and reference hold the same pattern -/
def HR (x : Ix) (A : iz_A) : Prop := ∃ p len lo hi dn : Nat, Rg x p len lo hi ∧ len ≤ lft x p ∧ dn ≤ len ∧ HdX A dn p len lo hi ∧ HdM A dn len lo hi ∧ (∀ j, j < len → A.1 69 j = ixt x (p + j)) ∧ ∀ j, j < dn → (A.1 70 j = 1 ∧ A.1 18 j = 0) ∨ (A.1 70 j = 0 ∧ A.1 18 j = 1)
theorem al_lft {x : Ix} (h1 : TxOk x) {p q k : Nat} (hp : p < ixn x) (hq : q < ixn x) (a : Al x p q k) (hk : k ≤ lft x p) : k ≤ lft x q := by
  by_cases c : p = q
  · rw [← c]; exact hk
  · obtain ⟨m, m1, m2, m3⟩ := dif_ex h1 hp hq c
    have := (dif_al m1).1 a
    omega
/-- both take what stands at two places that are alike -/
theorem hr_become {x : Ix} {C : iz_A} {p q len lo hi : Nat} (g : Rg x p len lo hi) (hl : len ≤ lft x p) (a : Al x p q len) (hX : HdX C 0 p len lo hi) (hM : HdM C 0 len lo hi) (hp : ∀ j, j < len → C.1 69 j = ixt x (q + j)) : HR x C :=
  ⟨p, len, lo, hi, 0, g, hl, Nat.zero_le _, hX, hM, fun j hj => by rw [hp j hj]; exact (a j hj).symm, fun j hj => by omega⟩
theorem rg_all {x : Ix} (h1 : TxOk x) (h2 : PmOk x) (p : Nat) (hp : p < ixn x) : Rg x p 0 0 (ixn x) := ⟨hp, Nat.zero_le _, (h2.2 p hp).1, Nat.le_refl _, fun _ _ _ => Nat.zero_le _, fun z => by omega, fun z => by omega⟩
/-- nothing is built, or this index and the pattern in it -/
def HdAt (x : Ix) (A : iz_A) : Prop := NotB A ∨ (XM x A ∧ HR x A)
theorem row_casesx {A : iz_A} {x : Ix} {R : Prop} (v : Int) (hx : NotB A ∨ (XM x A ∧ R)) : (∃ k : Nat, XM x A ∧ R ∧ v = (k : Int) ∧ k < ixn x) ∨ (¬ (0 ≤ v ∧ v < A.1 5 8) ∧ ¬ (¬ A.1 55 6 = 0 ∧ 0 ≤ v ∧ v < A.1 55 7)) := by
  rcases hx with hx | ⟨h, hr⟩
  · refine Or.inr ⟨?_, ?_⟩
    · have := hx.1; omega
    · have := hx.2.2.1; omega
  · have h1 := h.2.2.2.1.1
    have h2 := h.2.2.2.2.2.1
    by_cases hr : 0 ≤ v ∧ v < (ixn x : Int)
    · obtain ⟨k, e, hk⟩ := nat_of hr.1 hr.2
      exact Or.inl ⟨k, h, ‹R›, e, hk⟩
    · exact Or.inr ⟨by omega, by omega⟩
theorem doc_casesx {A : iz_A} {x : Ix} {R : Prop} (v : Int) (hx : NotB A ∨ (XM x A ∧ R)) : (∃ k : Nat, XM x A ∧ R ∧ v = (k : Int) ∧ k < ixm x) ∨ (¬ (0 ≤ v ∧ v < A.1 5 9) ∧ ¬ (¬ A.1 55 6 = 0 ∧ 0 ≤ v ∧ v < A.1 55 8)) := by
  rcases hx with hx | ⟨h, hr⟩
  · refine Or.inr ⟨?_, ?_⟩
    · have := hx.2.1; omega
    · have := hx.2.2.1; omega
  · have h1 := h.2.2.2.1.2.1
    have h2 := h.2.2.2.2.2.2.1
    by_cases hr : 0 ≤ v ∧ v < (ixm x : Int)
    · obtain ⟨k, e, hk⟩ := nat_of hr.1 hr.2
      exact Or.inl ⟨k, h, ‹R›, e, hk⟩
    · exact Or.inr ⟨by omega, by omega⟩
theorem b_begin {A : iz_A} {I : iz_A → Prop} {x : Ix} (hx : HdAt x A) (hI0 : I A) (hI : XM x A → ∀ C, fr [17, 55] A C → ff [22, 23, 24, 26] (A.1 55) (C.1 55) → HR x C → I C) : Bo 123 185 [] [] A I := by
  rcases hx with hn | ⟨hx, hh⟩
  · exact bo_bad (d := 1) (d' := 1) (by decide) (by decide) hI0 (fun P hP => e_X10_begin (d := 0) ⟨fun z => absurd hn.1 z, fun _ => ⟨_, rfl, hP⟩⟩) (fun P hP => e_X11_begin (d := 0) ⟨fun z => absurd hn.2.2.1 z, fun _ => ⟨_, rfl, hP⟩⟩)
  · obtain ⟨h1, h2, h3, h4, h5⟩ := id hx
    obtain ⟨p, len, lo, hi, dn, -, -, -, hX, -⟩ := hh
    have np := n_pos h1
    have nb := h1.2.2.1
    refine Ci_mono (d := 4) (by decide) (e_X10_begin (d := 3) ⟨fun z => ?_, fun z => absurd z (by rw [h4.1]; omega)⟩) (fun _ _ z => z)
    refine sX_become (p := 0) (len := 0) h1 h2 h4 (rg_all h1 h2 0 np) ⟨dn, hX.1⟩ fun B fB hB => ?_
    refine sX_rows hB (Nat.zero_le _) nb ⟨_, rfl, ?_⟩
    refine Ci_mono (d := 2) (by decide) (e_X11_begin (d := 1) ⟨fun z => ?_, fun z => absurd (show A.1 55 6 = 0 by rw [← z, fB.1 55 (by decide)]) (by rw [h5.1]; decide)⟩) (fun _ _ z => z)
    refine e_X11_toEmpty (d := 0) ⟨rfl, _, rfl, ?_, ?_⟩
    · show _ = B.1 55 7
      rw [fB.1 55 (by decide), h5.2.1]
      rfl
    · refine hI hx _ (fr_pI (fr_pI (fr_pI (fr_pI (fr_mo fB (by decide)) (by decide)) (by decide)) (by decide)) (by decide)) ?_ ?_
      · rw [← fB.1 55 (by decide)]
        exact ff_uz (ff_uz (ff_uz (ff_uz (ff_eq rfl) (by decide)) (by decide)) (by decide)) (by decide)
      · refine hr_become (p := 0) (q := 0) (rg_all h1 h2 0 np) (Nat.zero_le _) (al_rf _ _ _) hB ⟨rfl, rfl, ?_, rfl⟩ (fun j hj => by omega)
        show B.1 55 7 = _
        rw [fB.1 55 (by decide), h5.2.1]
        omega
theorem b_take {A : iz_A} {I : iz_A → Prop} {v w : Int} {x : Ix} (hx : HdAt x A) (hI0 : I A) (hI : XM x A → ∀ C, fr [17, 55, 69] A C → ff [22, 23, 24, 26] (A.1 55) (C.1 55) → HR x C → I C) : Bo 134 200 [.inl v, .inl w] [.inl v, .inl w] A I := by
  rcases row_casesx v hx with ⟨p, hx, hh, rfl, hp⟩ | hn
  · obtain ⟨h1, h2, h3, h4, h5⟩ := id hx
    have lp := lft_in h1 hp
    have nb := h1.2.2.1
    by_cases hw : 1 ≤ w ∧ w ≤ (lft x p : Int)
    · obtain ⟨len, rfl, hl⟩ := nat_of (v := w) (n := lft x p + 1) (by omega) (by omega)
      obtain ⟨_, _, _, _, dn, -, -, -, hX, -⟩ := hh
      obtain ⟨lo, hi, g⟩ := rg_ex h2 p len hp
      have g' := g.2
      refine Ci_mono (d := 4) (by decide) (e_X10_take (d := 3) (sX_hasK h4 hp ⟨fun z => absurd z n10, fun _ => ⟨fun z => by omega, fun _ => sX_left h1 h4 hp ⟨fun _ => ?_, fun z => by omega⟩⟩⟩)) (fun _ _ z => z)
      refine sX_become h1 h2 h4 g ⟨dn, hX.1⟩ fun B fB hB => ?_
      refine sX_rows hB (by omega) (by omega) ⟨_, rfl, ?_⟩
      have h5' : MI x B := MI_k (m := []) h5 fB (by decide) (ff_eq (fB.1 55 (by decide))) (by decide)
      refine Ci_mono (d := 4) (by decide) (e_X11_take (d := 3) (sM_isRowK h5' hp ⟨fun z => absurd z n10, fun _ => ⟨fun z => by omega, fun _ => sM_left h1 h5' hp ⟨fun _ => ?_, fun z => by omega⟩⟩⟩)) (fun _ _ z => z)
      refine sM_become h1 h2 h5' g (by omega) fun C fC eC hC pC => ⟨_, rfl, ?_, ?_⟩
      · rw [hC.2.2.1]
        omega
      · refine hI hx C (fr_mo (fr_tr fB fC) (by decide)) (by rw [← fB.1 55 (by decide)]; exact eC) (hr_become (q := p) g (by omega) (al_rf _ _ _) ?_ hC pC)
        unfold HdX
        rw [fC.1 17 (by decide)]
        exact hB
    · refine bo_bad (d := 3) (d' := 2) (by decide) (by decide) hI0 (fun P hP => ?_) (fun P hP => ?_)
      · exact e_X10_take (d := 2) (sX_hasK h4 hp ⟨fun z => absurd z n10, fun _ => ⟨fun _ => ⟨_, rfl, hP⟩, fun _ => sX_left h1 h4 hp ⟨fun z => by omega, fun _ => ⟨_, rfl, hP⟩⟩⟩⟩)
      · exact e_X11_take (d := 1) (sM_isRowK h5 hp ⟨fun z => absurd z n10, fun _ => ⟨fun _ => ⟨_, rfl, hP⟩, fun _ => sM_left h1 h5 hp ⟨fun z => by omega, fun _ => ⟨_, rfl, hP⟩⟩⟩⟩)
  · exact bo_bad (d := 2) (d' := 2) (by decide) (by decide) hI0 (fun P hP => e_X10_take (d := 1) (sX_hasN hn.1 ⟨fun _ => ⟨_, rfl, hP⟩, fun z => absurd rfl z⟩)) (fun P hP => e_X11_take (d := 1) (sM_isRowN hn.2 ⟨fun _ => ⟨_, rfl, hP⟩, fun z => absurd rfl z⟩))
