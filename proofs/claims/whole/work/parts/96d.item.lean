/-! ===== the class writes an item out ===== -/
theorem pw_fin (R : Rel) (k p q : Nat) : (∃ u, pwR R (k : Int) (k : Int) p u ∧ pwR R 1 (-1) u q) ↔ pwR R ((k + 1 : Nat) : Int) (-1) p q := by
  constructor
  · rintro ⟨u, ⟨m, a, b, h⟩, ⟨m', a', -, h'⟩⟩
    exact ⟨m + m', by omega, Or.inl rfl, rpw_add m m' p u q h h'⟩
  · rintro ⟨m, a, -, h⟩
    have cut : ∀ k m p, k + 1 ≤ m → rpw R m p q → ∃ u, rpw R k p u ∧ ∃ j, rpw R (j + 1) u q := by
      intro k
      induction k with
      | zero =>
        intro m p hm h
        obtain ⟨j, rfl⟩ : ∃ j, m = j + 1 := ⟨m - 1, (by omega)⟩
        exact ⟨p, rfl, j, h⟩
      | succ k ih =>
        intro m p hm h
        obtain ⟨j, rfl⟩ : ∃ j, m = j + 1 := ⟨m - 1, (by omega)⟩
        obtain ⟨r, r1, r2⟩ := h
        obtain ⟨u, u1, u2⟩ := ih j r (by omega) r2
        exact ⟨u, ⟨r, r1, u1⟩, u2⟩
    obtain ⟨u, u1, j, u2⟩ := cut k m p (by omega) h
    exact ⟨u, ⟨k, by omega, Or.inr (by omega), u1⟩, ⟨j + 1, by omega, Or.inl rfl, u2⟩⟩
theorem pw_star (R : Rel) (p q : Nat) : pwR (fun p q => R p q ∨ p = q) 1 (-1) p q ↔ pwR R 0 (-1) p q := by
  constructor
  · rintro ⟨m, -, -, h⟩
    have : ∀ m p, rpw (fun p q => R p q ∨ p = q) m p q → ∃ j, rpw R j p q := by
      intro m
      induction m with
      | zero => intro p h; exact ⟨0, h⟩
      | succ m ih =>
        rintro p ⟨r, r1 | r1, r2⟩
        · obtain ⟨j, hj⟩ := ih r r2
          exact ⟨j + 1, r, r1, hj⟩
        · rw [r1]
          exact ih r r2
    obtain ⟨j, hj⟩ := this m p h
    exact ⟨j, by omega, Or.inl rfl, hj⟩
  · rintro ⟨m, -, -, h⟩
    cases m with
    | zero => exact pw_1 (Or.inr h)
    | succ m =>
      have : ∀ m p, rpw R m p q → rpw (fun p q => R p q ∨ p = q) m p q := by
        intro m
        induction m with
        | zero => intro p h; exact h
        | succ m ih =>
          rintro p ⟨r, r1, r2⟩
          exact ⟨r, Or.inl r1, ih r r2⟩
      exact ⟨m + 1, by omega, Or.inl rfl, this (m + 1) p h⟩
/-- the first i copies -/
def Pt (R : Rel) (a b : Int) (i : Nat) : Rel := if i < cps a b then pwR R ((min a.toNat i : Nat) : Int) (i : Int) else pwR R a b
/-- copy number i -/
def Rc1 (R : Rel) (a : Int) (i : Nat) : Rel := if (i : Int) < a then R else (fun p q => R p q ∨ p = q)
def Rc2 (R : Rel) (a b : Int) (i : Nat) : Rel := if (i : Int) = (cps a b : Int) - 1 ∧ b = -1 then pwR (Rc1 R a i) 1 (-1) else Rc1 R a i
theorem pt_step {R : Rel} {a b : Int} {i : Nat} (ha : 0 ≤ a) (hb : -1 ≤ b) (hab : b = -1 ∨ a ≤ b) (hi : i < cps a b) (p q : Nat) : (∃ u, Pt R a b i p u ∧ Rc2 R a b i u q) ↔ Pt R a b (i + 1) p q := by
  unfold Pt Rc2
  rw [if_pos hi]
  by_cases c : b = -1
  · subst c
    have ec : cps a (-1) = if a < 1 then 1 else a.toNat := by unfold cps; rw [if_pos rfl]
    by_cases a0 : a < 1
    · rw [if_pos a0] at ec
      have i0 : i = 0 := (by omega)
      have ea : a = 0 := (by omega)
      subst i0 ea
      rw [ec, if_neg (by decide : ¬ 0 + 1 < 1), if_pos ⟨by decide, rfl⟩]
      unfold Rc1
      rw [if_neg (by decide)]
      constructor
      · rintro ⟨u, u1, u2⟩
        rw [(pw_00 R p u).2 u1]
        exact (pw_star R u q).1 u2
      · intro h
        exact ⟨p, (pw_00 R p p).1 rfl, (pw_star R p q).2 h⟩
    · rw [if_neg a0] at ec
      have i1 : (i : Int) < a := (by omega)
      unfold Rc1
      rw [if_pos i1, show min a.toNat i = i by omega]
      by_cases l : i + 1 < a.toNat
      · rw [ec, if_pos l, if_neg (fun w => by have := w.1; omega), show min a.toNat (i + 1) = i + 1 by omega]
        exact pw_eq R i p q
      · rw [ec, if_neg l, if_pos ⟨by omega, rfl⟩]
        have := pw_fin R i p q
        rw [show ((i + 1 : Nat) : Int) = a by omega] at this
        exact this
  · have ec : cps a b = b.toNat := by unfold cps; rw [if_neg c]
    rw [if_neg (fun w => c w.2)]
    have main : (∃ u, pwR R ((min a.toNat i : Nat) : Int) (i : Int) p u ∧ Rc1 R a i u q) ↔ pwR R ((min a.toNat (i + 1) : Nat) : Int) ((i + 1 : Nat) : Int) p q := by
      unfold Rc1
      by_cases l : (i : Int) < a
      · rw [if_pos l, show min a.toNat i = i by omega, show min a.toNat (i + 1) = i + 1 by omega]
        exact pw_eq R i p q
      · rw [if_neg l, show min a.toNat i = a.toNat by omega, show min a.toNat (i + 1) = a.toNat by omega]
        exact pw_up R a.toNat i p q (by omega)
    rw [main]
    by_cases l : i + 1 < cps a b
    · rw [if_pos l]
    · rw [if_neg l, show ((min a.toNat (i + 1) : Nat) : Int) = a by omega, show ((i + 1 : Nat) : Int) = b by omega]
theorem sX_item {N : Nat} {t : Nat → Int} {as : Nat → Int → Prop} {Ok : Nat → Prop} {D j d za : Nat} {A0 : iz_A} {a b : Int} {Ra : Rel} (hj : j < 200) (ha : 0 ≤ a ∧ a ≤ 99) (hb : -1 ≤ b ∧ b ≤ 99) (hab : b = -1 ∨ a ≤ b) (hz : 0 < za) (r27 : A0.1 27 j = a) (r28 : A0.1 28 j = b) (hAtom : ∀ (B : iz_A) (nd : Nat) (P : Int → iz_A → Prop), fr [38, 39, 40, 41, 42, 43] A0 B → B.1 38 6 = (nd : Int) → nd + 2 * za ≤ 240 → (∀ C v (nd' : Nat), fr [38, 39, 40, 41, 42, 43] A0 C → C.1 38 6 = (nd' : Int) → Und nd B C → Rp N t as Ok C nd za v Ra nd' → P v C) → Ci (D + 2) 104 [.inr (.inl 38), .inl (j : Int), .inl (d : Int)] B P) {A : iz_A} {nd : Nat} {P : Int → iz_A → Prop} (fA : fr [38, 39, 40, 41, 42, 43] A0 A) (h6 : A.1 38 6 = (nd : Int)) (hcap : nd + 2 * (za * cps a b) ≤ 240) (hP : ∀ C v (nd' : Nat), fr [38, 39, 40, 41, 42, 43] A0 C → C.1 38 6 = (nd' : Int) → Und nd A C → Rp N t as Ok C nd (za * cps a b) v (pwR Ra a b) nd' → P v C) : Ci (D + 3) 103 [.inr (.inl 38), .inl (j : Int), .inl (d : Int)] A P := by
  have A27 : ∀ B, fr [38, 39, 40, 41, 42, 43] A0 B → B.1 27 j = a ∧ B.1 28 j = b := fun B f => by rw [f.1 27 (by decide), f.1 28 (by decide)]; exact ⟨r27, r28⟩
  have cb := (cps_ok ha hb).1
  have lE : LmE j A := ⟨by rw [(A27 A fA).1]; exact ha, by rw [(A27 A fA).2]; exact hb⟩
  have loop : ∀ (B : iz_A) (rv : Int) (ni : Nat), fr [38, 39, 40, 41, 42, 43] A0 B → B.1 38 6 = (ni : Int) → Und nd A B → Rp N t as Ok B nd (za * 0) rv (Pt Ra a b 0) ni → Rn (D + 2) mX9_growItem (fun v A' => ∃ y, v = some (.inl y) ∧ P y A') 15 [some (.inr (.inl 38)), some (.inl ((j : Int))), some (.inl ((d : Int))), some (.inl ((cps a b : Int))), some (.inl rv), some (.inl (((0 : Nat) : Int))), none] [] B := by
    refine dwl (P := fun i => ∀ (B : iz_A) (rv : Int) (ni : Nat), fr [38, 39, 40, 41, 42, 43] A0 B → B.1 38 6 = (ni : Int) → Und nd A B → Rp N t as Ok B nd (za * i) rv (Pt Ra a b i) ni → Rn (D + 2) mX9_growItem (fun v A' => ∃ y, v = some (.inl y) ∧ P y A') 15 [some (.inr (.inl 38)), some (.inl ((j : Int))), some (.inl ((d : Int))), some (.inl ((cps a b : Int))), some (.inl rv), some (.inl ((i : Int))), none] [] B) (a := 0) (n := cps a b) ?_ (fun i _ hi ih => ?_) (Nat.zero_le _)
    · intro B rv ni fB b6 uB rB
      refine w_X9_growItem_15 ⟨fun _ => ⟨_, rfl, hP B rv ni fB b6 uB ?_⟩, fun z => absurd (Int.le_refl _) z⟩
      unfold Pt at rB
      rw [if_neg (Nat.lt_irrefl _)] at rB
      exact rB
    · intro B rv ni fB b6 uB rB
      have nb := rp_nd rB
      have m1 : za * i + za ≤ za * cps a b := by
        rw [← Nat.mul_succ]
        exact Nat.mul_le_mul_left za hi
      refine w_X9_growItem_15 ⟨fun z => by omega, fun _ => hAtom B ni _ fB b6 (by omega) (fun C v n2 fC c6 uC rC => ?_)⟩
      rcases rC with ⟨c1, _⟩ | ⟨_, c2, c3, c4⟩
      · omega
      have ev : v = ((n2 - 1 : Nat) : Int) := (by omega)
      have c27 := A27 C fC
      -- joined, once the marks are there
      have join : ∀ E : iz_A, fr [42, 43] C E → Und (n2 - 1) C E → Gd N t as Ok E ni (n2 - 1) (Rc2 Ra a b i) → Rn (D + 2) mX9_growItem (fun v A' => ∃ y, v = some (.inl y) ∧ P y A') 92 [some (.inr (.inl 38)), some (.inl ((j : Int))), some (.inl ((d : Int))), some (.inl ((cps a b : Int))), some (.inl rv), some (.inl ((i : Int))), some (.inl v)] [] E := fun E fE uE gE => by
        have e6 : E.1 38 6 = (n2 : Int) := by rw [fE.1 38 (by decide)]; exact c6
        have fE' : fr [38, 39, 40, 41, 42, 43] A0 E := fr_mo (fr_tr fC fE) (by decide)
        have uBE : Und ni B E := und_tr uC uE (by omega)
        have r1 : Rp N t as Ok E nd (za * i) rv (Pt Ra a b i) ni := by
          rcases rB with r | ⟨q1, q2, q3, q4⟩
          · exact Or.inl r
          · exact Or.inr ⟨q1, q2, q3, gd_k q4 (und_ag uBE (by omega)) (fun _ _ => Iff.rfl)⟩
        refine w_X9_growItem_92 (sX_joined e6 r1 (Or.inr ⟨hz, c2, c3, gE⟩) (by omega) (fun F w n3 fF gF q6 uF rF => ⟨inR_b (by omega) (by omega), ?_⟩))
        rw [show (i : Int) + 1 = ((i + 1 : Nat) : Int) by omega]
        refine ih F w n3 (fr_mo (fr_tr fE' fF) (by decide)) q6 (und_tr (und_tr uB uBE (by omega)) uF (Nat.le_refl _)) ?_
        rw [Nat.mul_succ]
        exact rp_k rF (fun _ _ _ => ⟨rfl, rfl, rfl, rfl, rfl⟩) (fun p q => pt_step ha.1 hb.1 hab hi p q)
      -- the second mark
      have second : ∀ E : iz_A, fr [42] C E → Und (n2 - 1) C E → Gd N t as Ok E ni (n2 - 1) (Rc1 Ra a i) → Rn (D + 2) mX9_growItem (fun v A' => ∃ y, v = some (.inl y) ∧ P y A') 57 [some (.inr (.inl 38)), some (.inl ((j : Int))), some (.inl ((d : Int))), some (.inl ((cps a b : Int))), some (.inl rv), some (.inl ((i : Int))), some (.inl v)] [] E := fun E fE uE gE => by
        have fE' : fr [38, 39, 40, 41, 42, 43] A0 E := fr_mo (fr_tr fC fE) (by decide)
        have e28 := (A27 E fE').2
        have no : ¬ ((i : Int) = (cps a b : Int) - 1 ∧ b = -1) → Rn (D + 2) mX9_growItem (fun v A' => ∃ y, v = some (.inl y) ∧ P y A') 92 [some (.inr (.inl 38)), some (.inl ((j : Int))), some (.inl ((d : Int))), some (.inl ((cps a b : Int))), some (.inl rv), some (.inl ((i : Int))), some (.inl v)] [] E := fun hn => join E (fr_mo fE (by decide)) uE (gd_k gE (fun _ _ _ => ⟨rfl, rfl, rfl, rfl, rfl⟩) (fun p q => by unfold Rc2; rw [if_neg hn]))
        refine w_X9_growItem_57 ?_
        rw [ev, tn, tn, e28, ← ev]
        refine ⟨fun z => by omega, fun _ => ⟨inR_b (by omega) (by omega), fun z => no (fun w => z w.1), fun z => ⟨⟨by omega, by omega⟩, fun z2 => no (fun w => z2 w.2), fun z2 => ⟨⟨by omega, by omega⟩, Or.inr rfl, ?_⟩⟩⟩⟩
        · have f3 : fr [43] E (iz_pI E 43 (uz (E.1 43) (n2 - 1) 1)) := fr_pI (fr_mo (fr_rf E) (by decide)) (by decide)
          refine join _ (fr_mo (fr_tr fE f3) (by decide)) (fun u hu => ?_) (gd_k (gd_loop gE rfl f3) (fun _ _ _ => ⟨rfl, rfl, rfl, rfl, rfl⟩) (fun p q => by unfold Rc2; rw [if_pos ⟨z, z2⟩]))
          have w := uE u hu
          exact ⟨w.1, w.2.1, w.2.2.1, w.2.2.2.1, (uz_ne _ _ (by omega)).trans w.2.2.2.2⟩
      refine ⟨fun z => by omega, fun _ => ?_⟩
      rw [ev, tn, tn, c27.1, ← ev]
      refine ⟨⟨by omega, by omega⟩, fun z => second C (fr_mo (fr_rf C) (by decide)) (und_rf _ _) (gd_k c4 (fun _ _ _ => ⟨rfl, rfl, rfl, rfl, rfl⟩) (fun p q => by unfold Rc1; rw [if_pos z])), fun z => ⟨⟨by omega, by omega⟩, Or.inr rfl, ?_⟩⟩
      · have f3 : fr [42] C (iz_pI C 42 (uz (C.1 42) (n2 - 1) 1)) := fr_pI (fr_mo (fr_rf C) (by decide)) (by decide)
        exact second _ f3 (fun u hu => ⟨rfl, rfl, rfl, uz_ne _ _ (by omega), rfl⟩) (gd_k (gd_skip c4 rfl f3) (fun _ _ _ => ⟨rfl, rfl, rfl, rfl, rfl⟩) (fun p q => by unfold Rc1; rw [if_neg z]))
  refine e_X9_growItem (sX_copies hj lE ?_)
  rw [(A27 A fA).1, (A27 A fA).2]
  refine loop A (-1) nd fA h6 (und_rf _ _) (Or.inl ⟨Nat.mul_zero _, rfl, rfl, fun p q => ?_⟩)
  unfold Pt
  by_cases c : 0 < cps a b
  · rw [if_pos c, show ((min a.toNat 0 : Nat) : Int) = 0 by omega]
    exact (pw_00 Ra p q).symm
  · rw [if_neg c]
    have b0 : b = 0 ∧ a = 0 := by
      unfold cps at c
      by_cases x1 : b = -1
      · rw [if_pos x1] at c
        by_cases x2 : a < 1
        · rw [if_pos x2] at c; omega
        · rw [if_neg x2] at c; omega
      · rw [if_neg x1] at c; omega
    rw [b0.1, b0.2]
    exact (pw_00 Ra p q).symm
