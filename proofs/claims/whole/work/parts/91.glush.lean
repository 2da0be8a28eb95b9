/-! ===== a row of places of a query, one behind the other ===== -/
def Wk (ok G : Nat → Nat → Prop) (L : Nat → Prop) : Nat → Nat → Nat → Prop
  | 0, _, _ => False
  | k + 1, x, p => ok x p ∧ ((k = 0 ∧ L x) ∨ ∃ y, G x y ∧ Wk ok G L k y (p + 1))
def Gl (ok : Nat → Nat → Prop) (lo hi : Nat) (E : Prop) (F L : Nat → Prop) (G : Nat → Nat → Prop) (R : Rel) : Prop := (∀ x, F x → lo ≤ x ∧ x < hi) ∧ (∀ x, L x → lo ≤ x ∧ x < hi) ∧ (∀ x y, lo ≤ x → x < hi → G x y → lo ≤ y ∧ y < hi) ∧ (∀ p q, R p q → p ≤ q) ∧ (∀ p, R p p ↔ E) ∧ ∀ p k, 0 < k → (R p (p + k) ↔ ∃ x, F x ∧ Wk ok G L k x p)
theorem wk_pos {ok G : Nat → Nat → Prop} {L : Nat → Prop} {k x p : Nat} (h : Wk ok G L k x p) : 0 < k := by
  cases k with
  | zero => exact h.elim
  | succ k => exact Nat.succ_pos k
theorem wk_cong {ok ok' G G' : Nat → Nat → Prop} {L L' : Nat → Prop} {lo hi : Nat} (hc : ∀ x y, lo ≤ x → x < hi → G x y → lo ≤ y ∧ y < hi) (ho : ∀ x p, lo ≤ x → x < hi → ok x p → ok' x p) (hg : ∀ x y, lo ≤ x → x < hi → G x y → G' x y) (hl : ∀ x, lo ≤ x → x < hi → L x → L' x) : ∀ k x p, lo ≤ x → x < hi → Wk ok G L k x p → Wk ok' G' L' k x p := by
  intro k
  induction k with
  | zero => intro x p _ _ h; exact h
  | succ k ih =>
    intro x p a b h
    refine ⟨ho x p a b h.1, ?_⟩
    rcases h.2 with ⟨k0, l⟩ | ⟨y, g, w⟩
    · exact Or.inl ⟨k0, hl x a b l⟩
    · have c := hc x y a b g
      exact Or.inr ⟨y, hg x y a b g, ih y (p + 1) c.1 c.2 w⟩
theorem gl_cong {ok ok' G G' : Nat → Nat → Prop} {F F' L L' : Nat → Prop} {lo hi : Nat} {E E' : Prop} {R R' : Rel} (h : Gl ok lo hi E F L G R) (hE : E ↔ E') (hF : ∀ x, F x ↔ F' x) (hL : ∀ x, L x ↔ L' x) (ho : ∀ x p, lo ≤ x → x < hi → (ok x p ↔ ok' x p)) (hG : ∀ x y, lo ≤ x → x < hi → (G x y ↔ G' x y)) (hR : ∀ p q, R p q ↔ R' p q) : Gl ok' lo hi E' F' L' G' R' := by
  obtain ⟨h1, h2, h3, h4, h5, h6⟩ := h
  have h3' : ∀ x y, lo ≤ x → x < hi → G' x y → lo ≤ y ∧ y < hi := fun x y a b g => h3 x y a b ((hG x y a b).2 g)
  refine ⟨fun x y => h1 x ((hF x).2 y), fun x y => h2 x ((hL x).2 y), h3', fun p q y => h4 p q ((hR p q).2 y), fun p => by rw [← hR, ← hE]; exact h5 p, fun p k hk => ?_⟩
  rw [← hR, h6 p k hk]
  constructor
  · rintro ⟨x, f, w⟩
    have c := h1 x f
    exact ⟨x, (hF x).1 f, wk_cong h3 (fun x p a b => (ho x p a b).1) (fun x y a b => (hG x y a b).1) (fun x _ _ => (hL x).1) k x p c.1 c.2 w⟩
  · rintro ⟨x, f, w⟩
    have c := h1 x ((hF x).2 f)
    exact ⟨x, (hF x).2 f, wk_cong h3' (fun x p a b => (ho x p a b).2) (fun x y a b => (hG x y a b).2) (fun x _ _ => (hL x).2) k x p c.1 c.2 w⟩
theorem gl_join {ok G : Nat → Nat → Prop} {Fa La Fb Lb : Nat → Prop} {lo mid hi : Nat} {Ea Eb : Prop} {Ra Rb : Rel} (ha : Gl ok lo mid Ea Fa La G Ra) (hb : Gl ok mid hi Eb Fb Lb G Rb) (m1 : lo ≤ mid) (m2 : mid ≤ hi) : Gl ok lo hi (Ea ∧ Eb) (fun x => Fa x ∨ (Ea ∧ Fb x)) (fun x => Lb x ∨ (Eb ∧ La x)) (fun x y => G x y ∨ (La x ∧ Fb y)) (fun p q => ∃ r, Ra p r ∧ Rb r q) := by
  obtain ⟨a1, a2, a3, a4, a5, a6⟩ := ha
  obtain ⟨b1, b2, b3, b4, b5, b6⟩ := hb
  have inB : ∀ k x p, mid ≤ x → x < hi → (Wk ok (fun x y => G x y ∨ (La x ∧ Fb y)) (fun x => Lb x ∨ (Eb ∧ La x)) k x p ↔ Wk ok G Lb k x p) := fun k x p u v => ⟨wk_cong (lo := mid) (hi := hi) (fun x y a b g => g.elim (b3 x y a b) (fun z => by have := a2 x z.1; omega)) (fun _ _ _ _ z => z) (fun x y a b g => g.elim id (fun z => by have := a2 x z.1; omega)) (fun x a b l => l.elim id (fun z => by have := a2 x z.2; omega)) k x p u v, wk_cong (lo := mid) (hi := hi) b3 (fun _ _ _ _ z => z) (fun x y a b g => Or.inl g) (fun x a b l => Or.inl l) k x p u v⟩
  have inA : ∀ k x p, lo ≤ x → x < mid → (Wk ok (fun x y => G x y ∨ (La x ∧ Fb y)) (fun x => Lb x ∨ (Eb ∧ La x)) k x p ↔ (Eb ∧ Wk ok G La k x p) ∨ ∃ k1 k2, k = k1 + k2 ∧ Wk ok G La k1 x p ∧ ∃ y, Fb y ∧ Wk ok G Lb k2 y (p + k1)) := by
    intro k
    induction k with
    | zero =>
      intro x p _ _
      refine ⟨fun h => h.elim, fun h => ?_⟩
      rcases h with h | ⟨k1, k2, e, w, y, f, w2⟩
      · exact h.2
      · have := wk_pos w; omega
    | succ k ih =>
      intro x p u v
      constructor
      · rintro ⟨o, ⟨k0, l⟩ | ⟨y, g | ⟨l, f⟩, w⟩⟩
        · rcases l with l | ⟨e, l⟩
          · have := b2 x l; omega
          · exact Or.inl ⟨e, o, Or.inl ⟨k0, l⟩⟩
        · have c := a3 x y u v g
          rcases (ih y (p + 1) c.1 c.2).1 w with ⟨e, w⟩ | ⟨k1, k2, e, w, y', f, w2⟩
          · exact Or.inl ⟨e, o, Or.inr ⟨y, g, w⟩⟩
          · exact Or.inr ⟨k1 + 1, k2, (by omega), ⟨o, Or.inr ⟨y, g, w⟩⟩, y', f, by rw [show p + (k1 + 1) = p + 1 + k1 by omega]; exact w2⟩
        · have c := b1 y f
          exact Or.inr ⟨1, k, (by omega), ⟨o, Or.inl ⟨rfl, l⟩⟩, y, f, (inB k y (p + 1) c.1 c.2).1 w⟩
      · rintro (⟨e, o, ⟨k0, l⟩ | ⟨y, g, w⟩⟩ | ⟨k1, k2, e, w, y, f, w2⟩)
        · exact ⟨o, Or.inl ⟨k0, Or.inr ⟨e, l⟩⟩⟩
        · have c := a3 x y u v g
          exact ⟨o, Or.inr ⟨y, Or.inl g, (ih y (p + 1) c.1 c.2).2 (Or.inl ⟨e, w⟩)⟩⟩
        · have cy := b1 y f
          cases k1 with
          | zero => exact w.elim
          | succ j =>
            obtain ⟨o, ⟨k0, l⟩ | ⟨y', g, w⟩⟩ := w
            · subst k0
              refine ⟨o, Or.inr ⟨y, Or.inr ⟨l, f⟩, (inB k y (p + 1) cy.1 cy.2).2 ?_⟩⟩
              rw [show k = k2 by omega]
              exact w2
            · have c := a3 x y' u v g
              refine ⟨o, Or.inr ⟨y', Or.inl g, (ih y' (p + 1) c.1 c.2).2 (Or.inr ⟨j, k2, (by omega), w, y, f, ?_⟩)⟩⟩
              rw [show p + 1 + j = p + (j + 1) by omega]
              exact w2
  refine ⟨fun x h => ?_, fun x h => ?_, fun x y u v g => ?_, fun p q h => ?_, fun p => ⟨fun h => ?_, fun h => ?_⟩, fun p k hk => ⟨fun h => ?_, fun h => ?_⟩⟩
  · rcases h with h | h
    · have := a1 x h; omega
    · have := b1 x h.2; omega
  · rcases h with h | h
    · have := b2 x h; omega
    · have := a2 x h.2; omega
  · rcases g with g | g
    · by_cases c : x < mid
      · have := a3 x y u c g; omega
      · have := b3 x y (by omega) v g; omega
    · have := b1 y g.2; omega
  · obtain ⟨r, r1, r2⟩ := h
    exact Nat.le_trans (a4 _ _ r1) (b4 _ _ r2)
  · obtain ⟨r, r1, r2⟩ := h
    have := a4 _ _ r1
    have := b4 _ _ r2
    have e : r = p := (by omega)
    subst e
    exact ⟨(a5 _).1 r1, (b5 _).1 r2⟩
  · exact ⟨p, (a5 p).2 h.1, (b5 p).2 h.2⟩
  · obtain ⟨r, r1, r2⟩ := h
    have l1 := a4 _ _ r1
    have l2 := b4 _ _ r2
    obtain ⟨k1, rfl⟩ : ∃ k1, r = p + k1 := ⟨r - p, (by omega)⟩
    by_cases z1 : k1 = 0
    · subst z1
      obtain ⟨y, f, w⟩ := (b6 p k hk).1 r2
      have c := b1 y f
      exact ⟨y, Or.inr ⟨(a5 p).1 r1, f⟩, (inB k y p c.1 c.2).2 w⟩
    · obtain ⟨x, f, w⟩ := (a6 p k1 (by omega)).1 r1
      have c := a1 x f
      by_cases z2 : k1 = k
      · subst z2
        exact ⟨x, Or.inl f, (inA k1 x p c.1 c.2).2 (Or.inl ⟨(b5 _).1 r2, w⟩)⟩
      · obtain ⟨k2, rfl⟩ : ∃ k2, k = k1 + k2 := ⟨k - k1, (by omega)⟩
        rw [← Nat.add_assoc] at r2
        obtain ⟨y, f2, w2⟩ := (b6 _ k2 (by omega)).1 r2
        exact ⟨x, Or.inl f, (inA _ x p c.1 c.2).2 (Or.inr ⟨k1, k2, rfl, w, y, f2, w2⟩)⟩
  · obtain ⟨x, f, w⟩ := h
    rcases f with f | ⟨e, f⟩
    · have c := a1 x f
      rcases (inA k x p c.1 c.2).1 w with ⟨e, w⟩ | ⟨k1, k2, e, w, y, f2, w2⟩
      · exact ⟨p + k, (a6 p k hk).2 ⟨x, f, w⟩, (b5 _).2 e⟩
      · refine ⟨p + k1, (a6 p k1 (wk_pos w)).2 ⟨x, f, w⟩, ?_⟩
        rw [e, ← Nat.add_assoc]
        exact (b6 _ k2 (wk_pos w2)).2 ⟨y, f2, w2⟩
    · have c := b1 x f
      exact ⟨p, (a5 p).2 e, (b6 p k hk).2 ⟨x, f, (inB k x p c.1 c.2).1 w⟩⟩
theorem gl_or {ok G : Nat → Nat → Prop} {Fa La Fb Lb : Nat → Prop} {lo mid hi : Nat} {Ea Eb : Prop} {Ra Rb : Rel} (ha : Gl ok lo mid Ea Fa La G Ra) (hb : Gl ok mid hi Eb Fb Lb G Rb) (m1 : lo ≤ mid) (m2 : mid ≤ hi) : Gl ok lo hi (Ea ∨ Eb) (fun x => Fa x ∨ Fb x) (fun x => La x ∨ Lb x) G (fun p q => Ra p q ∨ Rb p q) := by
  obtain ⟨a1, a2, a3, a4, a5, a6⟩ := ha
  obtain ⟨b1, b2, b3, b4, b5, b6⟩ := hb
  have inB : ∀ k x p, mid ≤ x → x < hi → (Wk ok G (fun x => La x ∨ Lb x) k x p ↔ Wk ok G Lb k x p) := fun k x p u v => ⟨wk_cong (lo := mid) (hi := hi) b3 (fun _ _ _ _ z => z) (fun x y a b g => g) (fun x a b l => l.elim (fun z => by have := a2 x z; omega) id) k x p u v, wk_cong (lo := mid) (hi := hi) b3 (fun _ _ _ _ z => z) (fun x y a b g => g) (fun x a b l => Or.inr l) k x p u v⟩
  have inA : ∀ k x p, lo ≤ x → x < mid → (Wk ok G (fun x => La x ∨ Lb x) k x p ↔ Wk ok G La k x p) := fun k x p u v => ⟨wk_cong (lo := lo) (hi := mid) a3 (fun _ _ _ _ z => z) (fun x y a b g => g) (fun x a b l => l.elim id (fun z => by have := b2 x z; omega)) k x p u v, wk_cong (lo := lo) (hi := mid) a3 (fun _ _ _ _ z => z) (fun x y a b g => g) (fun x a b l => Or.inl l) k x p u v⟩
  refine ⟨fun x h => ?_, fun x h => ?_, fun x y u v g => ?_, fun p q h => h.elim (a4 p q) (b4 p q), fun p => ?_, fun p k hk => ⟨fun h => ?_, fun h => ?_⟩⟩
  · rcases h with h | h
    · have := a1 x h; omega
    · have := b1 x h; omega
  · rcases h with h | h
    · have := a2 x h; omega
    · have := b2 x h; omega
  · by_cases c : x < mid
    · have := a3 x y u c g; omega
    · have := b3 x y (by omega) v g; omega
  · show (Ra p p ∨ Rb p p) ↔ _
    rw [a5, b5]
  · rcases h with h | h
    · obtain ⟨x, f, w⟩ := (a6 p k hk).1 h
      have c := a1 x f
      exact ⟨x, Or.inl f, (inA k x p c.1 c.2).2 w⟩
    · obtain ⟨x, f, w⟩ := (b6 p k hk).1 h
      have c := b1 x f
      exact ⟨x, Or.inr f, (inB k x p c.1 c.2).2 w⟩
  · obtain ⟨x, f | f, w⟩ := h
    · have c := a1 x f
      exact Or.inl ((a6 p k hk).2 ⟨x, f, (inA k x p c.1 c.2).1 w⟩)
    · have c := b1 x f
      exact Or.inr ((b6 p k hk).2 ⟨x, f, (inB k x p c.1 c.2).1 w⟩)
theorem rpw_le {R : Rel} (h : ∀ p q, R p q → p ≤ q) : ∀ m p q, rpw R m p q → p ≤ q := by
  intro m
  induction m with
  | zero => intro p q e; exact Nat.le_of_eq e
  | succ m ih =>
    rintro p q ⟨r, r1, r2⟩
    exact Nat.le_trans (h _ _ r1) (ih _ _ r2)
/-- so often as one likes, or at least once -/
theorem gl_many {ok G : Nat → Nat → Prop} {F L : Nat → Prop} {lo hi : Nat} {E : Prop} {R : Rel} (h : Gl ok lo hi E F L G R) (a : Int) (ha : a = 0 ∨ a = 1) : Gl ok lo hi (E ∨ a = 0) F L (fun x y => G x y ∨ (L x ∧ F y)) (pwR R a (-1)) := by
  obtain ⟨h1, h2, h3, h4, h5, h6⟩ := h
  have h3' : ∀ x y, lo ≤ x → x < hi → (G x y ∨ (L x ∧ F y)) → lo ≤ y ∧ y < hi := fun x y u v g => g.elim (h3 x y u v) (fun z => h1 y z.2)
  have wm : ∀ k x p, lo ≤ x → x < hi → Wk ok G L k x p → Wk ok (fun x y => G x y ∨ (L x ∧ F y)) L k x p := fun k x p u v => wk_cong h3 (fun _ _ _ _ z => z) (fun x y _ _ g => Or.inl g) (fun _ _ _ l => l) k x p u v
  have cut : ∀ k x p, lo ≤ x → x < hi → Wk ok (fun x y => G x y ∨ (L x ∧ F y)) L k x p → (Wk ok G L k x p ∨ ∃ k1 k2, k = k1 + k2 ∧ Wk ok G L k1 x p ∧ ∃ y, F y ∧ Wk ok (fun x y => G x y ∨ (L x ∧ F y)) L k2 y (p + k1)) := by
    intro k
    induction k with
    | zero => intro x p _ _ w; exact w.elim
    | succ k ih =>
      rintro x p u v ⟨o, ⟨k0, l⟩ | ⟨y, g | ⟨l, f⟩, w⟩⟩
      · exact Or.inl ⟨o, Or.inl ⟨k0, l⟩⟩
      · have c := h3 x y u v g
        rcases ih y (p + 1) c.1 c.2 w with w | ⟨k1, k2, e, w, y', f, w2⟩
        · exact Or.inl ⟨o, Or.inr ⟨y, g, w⟩⟩
        · exact Or.inr ⟨k1 + 1, k2, (by omega), ⟨o, Or.inr ⟨y, g, w⟩⟩, y', f, by rw [show p + (k1 + 1) = p + 1 + k1 by omega]; exact w2⟩
      · exact Or.inr ⟨1, k, (by omega), ⟨o, Or.inl ⟨rfl, l⟩⟩, y, f, w⟩
  have glue : ∀ k1 k2 x p, lo ≤ x → x < hi → Wk ok G L k1 x p → (∃ y, F y ∧ Wk ok (fun x y => G x y ∨ (L x ∧ F y)) L k2 y (p + k1)) → Wk ok (fun x y => G x y ∨ (L x ∧ F y)) L (k1 + k2) x p := by
    intro k1
    induction k1 with
    | zero => intro k2 x p _ _ w; exact w.elim
    | succ k1 ih =>
      rintro k2 x p u v ⟨o, ⟨k0, l⟩ | ⟨y, g, w⟩⟩ ⟨y', f, w2⟩
      · subst k0
        rw [show 0 + 1 + k2 = k2 + 1 by omega]
        exact ⟨o, Or.inr ⟨y', Or.inr ⟨l, f⟩, w2⟩⟩
      · have c := h3 x y u v g
        rw [show k1 + 1 + k2 = (k1 + k2) + 1 by omega]
        refine ⟨o, Or.inr ⟨y, Or.inl g, ih k2 y (p + 1) c.1 c.2 w ⟨y', f, ?_⟩⟩⟩
        rw [show p + 1 + k1 = p + (k1 + 1) by omega]
        exact w2
  have to : ∀ k p, 0 < k → (∃ x, F x ∧ Wk ok (fun x y => G x y ∨ (L x ∧ F y)) L k x p) → ∃ m, rpw R (m + 1) p (p + k) := by
    intro k
    induction k using Nat.strongRecOn with
    | ind k ih =>
      rintro p hk ⟨x, f, w⟩
      have c := h1 x f
      rcases cut k x p c.1 c.2 w with w | ⟨k1, k2, e, w, y, f2, w2⟩
      · exact ⟨0, p + k, (h6 p k hk).2 ⟨x, f, w⟩, rfl⟩
      · have p1 := wk_pos w
        have p2 := wk_pos w2
        obtain ⟨m, hm⟩ := ih k2 (by omega) (p + k1) p2 ⟨y, f2, w2⟩
        refine ⟨m + 1, p + k1, (h6 p k1 p1).2 ⟨x, f, w⟩, ?_⟩
        rw [e, ← Nat.add_assoc]
        exact hm
  have fro : ∀ m k p, 0 < k → rpw R m p (p + k) → ∃ x, F x ∧ Wk ok (fun x y => G x y ∨ (L x ∧ F y)) L k x p := by
    intro m
    induction m with
    | zero =>
      intro k p hk e
      have e : p = p + k := e
      omega
    | succ m ih =>
      rintro k p hk ⟨r, r1, r2⟩
      have l1 := h4 _ _ r1
      have l2 := rpw_le h4 _ _ _ r2
      obtain ⟨k1, rfl⟩ : ∃ k1, r = p + k1 := ⟨r - p, (by omega)⟩
      by_cases z1 : k1 = 0
      · subst z1
        exact ih k p hk r2
      · obtain ⟨x, f, w⟩ := (h6 p k1 (by omega)).1 r1
        have c := h1 x f
        by_cases z2 : k1 = k
        · subst z2
          exact ⟨x, f, wm k1 x p c.1 c.2 w⟩
        · obtain ⟨k2, rfl⟩ : ∃ k2, k = k1 + k2 := ⟨k - k1, (by omega)⟩
          rw [← Nat.add_assoc] at r2
          exact ⟨x, f, glue k1 k2 x p c.1 c.2 w (ih k2 (p + k1) (by omega) r2)⟩
  refine ⟨h1, h2, h3', fun p q ⟨m, _, _, r⟩ => rpw_le h4 m p q r, fun p => ⟨fun ⟨m, a1, _, r⟩ => ?_, fun e => ?_⟩, fun p k hk => ⟨fun ⟨m, _, _, r⟩ => fro m k p hk r, fun e => ?_⟩⟩
  · rcases ha with rfl | rfl
    · exact Or.inr rfl
    · cases m with
      | zero => exact absurd a1 (by decide)
      | succ m =>
        obtain ⟨r', r1, r2⟩ := r
        have := h4 _ _ r1
        have := rpw_le h4 _ _ _ r2
        have e : r' = p := (by omega)
        subst e
        exact Or.inl ((h5 _).1 r1)
  · rcases e with e | e
    · exact ⟨1, by omega, Or.inl rfl, p, (h5 p).2 e, rfl⟩
    · exact ⟨0, by omega, Or.inl rfl, rfl⟩
  · obtain ⟨m, hm⟩ := to k p hk e
    exact ⟨m + 1, by omega, Or.inl rfl, hm⟩
theorem gl_perhaps {ok G : Nat → Nat → Prop} {F L : Nat → Prop} {lo hi : Nat} {E : Prop} {R : Rel} (h : Gl ok lo hi E F L G R) : Gl ok lo hi True F L G (fun p q => R p q ∨ p = q) := by
  obtain ⟨h1, h2, h3, h4, h5, h6⟩ := h
  refine ⟨h1, h2, h3, fun p q r => r.elim (h4 p q) (fun e => by omega), fun p => ⟨fun _ => trivial, fun _ => Or.inr rfl⟩, fun p k hk => ?_⟩
  show (R p (p + k) ∨ p = p + k) ↔ _
  rw [← h6 p k hk]
  exact ⟨fun r => r.elim id (fun e => by omega), Or.inl⟩
theorem gl_empty (ok G : Nat → Nat → Prop) (lo : Nat) : Gl ok lo lo True (fun _ => False) (fun _ => False) G (fun p q => p = q) := ⟨fun _ h => h.elim, fun _ h => h.elim, fun x y a b => by omega, fun p q e => Nat.le_of_eq e, fun p => ⟨fun _ => trivial, fun _ => rfl⟩, fun p k hk => ⟨fun e => by omega, fun ⟨x, f, _⟩ => f.elim⟩⟩
theorem gl_atom {ok G : Nat → Nat → Prop} {lo : Nat} {R : Rel} (hG : ∀ y, ¬ G lo y) (hR : ∀ p q, R p q ↔ ok lo p ∧ q = p + 1) : Gl ok lo (lo + 1) False (fun x => x = lo) (fun x => x = lo) G R := by
  refine ⟨fun x h => by omega, fun x h => by omega, fun x y a b g => ?_, fun p q r => ?_, fun p => ⟨fun r => ?_, fun h => h.elim⟩, fun p k hk => ⟨fun r => ?_, fun h => ?_⟩⟩
  · have e : x = lo := (by omega)
    subst e
    exact absurd g (hG y)
  · have := ((hR p q).1 r).2; omega
  · have := ((hR p p).1 r).2; omega
  · have z := (hR _ _).1 r
    have e : k = 1 := by omega
    subst e
    exact ⟨lo, rfl, z.1, Or.inl ⟨rfl, rfl⟩⟩
  · obtain ⟨x, rfl, w⟩ := h
    cases k with
    | zero => exact w.elim
    | succ k =>
      obtain ⟨o, ⟨rfl, _⟩ | ⟨y, g, _⟩⟩ := w
      · exact (hR _ _).2 ⟨o, rfl⟩
      · exact absurd g (hG y)
