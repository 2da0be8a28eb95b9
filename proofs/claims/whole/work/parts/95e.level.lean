/-! ===== a level of a query ===== -/
def Lo (d : Nat) (A C : iz_A) : Prop := (∀ i, i < d → C.1 79 i = A.1 79 i ∧ C.1 80 i = A.1 80 i ∧ C.1 81 i = A.1 81 i ∧ C.1 82 i = A.1 82 i ∧ C.2 77 i = A.2 77 i ∧ C.2 78 i = A.2 78 i) ∧ ∀ i, i ≤ d → C.1 86 i = A.1 86 i
theorem lo_rf (d : Nat) (A : iz_A) : Lo d A A := ⟨fun _ _ => ⟨rfl, rfl, rfl, rfl, rfl, rfl⟩, fun _ _ => rfl⟩
theorem lo_tr {d d' : Nat} {A B C : iz_A} (h : Lo d A B) (h' : Lo d' B C) (hd : d ≤ d') : Lo d A C := ⟨fun i hi => by
  have a := h.1 i hi
  have b := h'.1 i (by omega)
  exact ⟨b.1.trans a.1, b.2.1.trans a.2.1, b.2.2.1.trans a.2.2.1, b.2.2.2.1.trans a.2.2.2.1, b.2.2.2.2.1.trans a.2.2.2.2.1, b.2.2.2.2.2.trans a.2.2.2.2.2⟩, fun i hi => (h'.2 i (by omega)).trans (h.2 i hi)⟩
theorem lo_k {d : Nat} {A C : iz_A} {l : List Nat} (f : fr l A C) (hl : ∀ q ∈ [77, 78, 79, 80, 81, 82, 86], q ∉ l) : Lo d A C := ⟨fun i _ => by
  rw [f.1 79 (hl 79 (by decide)), f.1 80 (hl 80 (by decide)), f.1 81 (hl 81 (by decide)), f.1 82 (hl 82 (by decide)), f.2 77 (hl 77 (by decide)), f.2 78 (hl 78 (by decide))]
  exact ⟨rfl, rfl, rfl, rfl, rfl, rfl⟩, fun i _ => by rw [f.1 86 (hl 86 (by decide))]⟩
/-- its items are all ended -/
def HC (N : Nat) (t : Nat → Int) (mk : Int) (d b j z : Nat) (D C : Rel) (L0 : List Int) (am : Nat) (A : iz_A) : Prop := A.1 79 d = 0 ∧ szR (A.2 77 d) z (j - b) ∧ (mk = 1 → ∃ M, MkR (L0 ++ M) A ∧ LvG N t d b j z D C M am A)
/-- its last atom may still be repeated -/
def HP (N : Nat) (t : Nat → Int) (mk : Int) (d b k zp za : Nat) (D Cp Ra : Rel) (L0 : List Int) (am : Nat) (A : iz_A) : Prop := A.1 79 d = 1 ∧ (za = 0 → ∀ p q, Ra p q ↔ p = q) ∧ ∃ jp : Nat, b ≤ jp ∧ jp < k ∧ (∃ Sp, szR Sp zp (jp - b) ∧ szR (A.2 78 d) za (k - jp) ∧ A.2 77 d = Sp + A.2 78 d) ∧ (mk = 1 → ∃ (M ac : List Int) (wa : Nat), 1 ≤ wa ∧ jp + wa ≤ k ∧ MkR (L0 ++ M ++ ac) A ∧ LvG N t d b jp zp D Cp M am A ∧ A.1 80 d = ((min (L0 ++ M).length 59990 : Nat) : Int) ∧ CK N t A am ac za wa (2 * (20 - d) + mx za) Ra)
def Hd (N : Nat) (t s : Nat → Int) (n : Nat) (mk : Int) (d b j z : Nat) (D C : Rel) (L0 : List Int) (am : Nat) (A : iz_A) : Prop := HC N t mk d b j z D C L0 am A ∨ (¬ qs s n j ∧ ∃ (zp za : Nat) (Cp Ra : Rel), z = zp + za ∧ (∀ p q, C p q ↔ ∃ r, Cp p r ∧ Ra r q) ∧ HP N t mk d b j zp za D Cp Ra L0 am A)
theorem hC_mo {N : Nat} {t : Nat → Int} {mk : Int} {d b j z : Nat} {D C D' C' : Rel} {L0 : List Int} {am : Nat} {A : iz_A} (h : HC N t mk d b j z D C L0 am A) (hD : ∀ p q, D p q ↔ D' p q) (hC : ∀ p q, C p q ↔ C' p q) : HC N t mk d b j z D' C' L0 am A := ⟨h.1, h.2.1, fun e => by
  obtain ⟨M, m1, m2⟩ := h.2.2 e
  exact ⟨M, m1, lvG_k m2 (fx_rf _ _) (Nat.le_refl _) (Nat.le_refl _) rfl rfl hD hC⟩⟩
/-- an item comes to its row -/
theorem sM_endI {dd d q j : Nat} {L : List Int} {A : iz_A} {P : iz_A → Prop} (hd : d ≤ 20) (hj : j ≤ 200) (hb : A.1 79 d = 1 ∨ (A.1 79 d = 0 ∧ A.1 55 53 = 1)) (hq : A.1 81 d = (q : Int)) (qb : q ≤ j) (m : MkR L A) (hP : ∀ C, fr [55, 79, 81, 83] A C → ff [48, 53] (A.1 55) (C.1 55) → Lo d A C → C.1 79 d = 0 → C.1 81 d = ((q + 1 : Nat) : Int) → C.1 55 53 = 0 → MkR (L ++ (if q = 0 then [] else [-1])) C → P C) : Cv (dd + 2) 215 [.inr (.inl 55), .inl (d : Int)] A P := by
  have key : (((uz (A.1 81) d ((A.1 81 d) + 1)) d) ≤ 1 → (((0 : Int) ≤ (d : Int) ∧ (d : Int) < 22) ∧ ((0 : Int) = 0 ∨ (0 : Int) = 1) ∧ ((0 : Int) = 0 ∨ (0 : Int) = 1) ∧ none = (none : Option iz_V) ∧ P (iz_pI (iz_pI (iz_pI A 81 (uz (A.1 81) d ((A.1 81 d) + 1))) 79 (uz (A.1 79) d 0)) 55 (uz (A.1 55) 53 0)))) ∧ (¬ ((uz (A.1 81) d ((A.1 81 d) + 1)) d) ≤ 1 → Cv (dd + 1) 212 [.inr (.inl 55), .inl (-1)] (iz_pI A 81 (uz (A.1 81) d ((A.1 81 d) + 1))) (fun A1 => ((0 : Int) ≤ (d : Int) ∧ (d : Int) < 22) ∧ ((0 : Int) = 0 ∨ (0 : Int) = 1) ∧ ((0 : Int) = 0 ∨ (0 : Int) = 1) ∧ none = (none : Option iz_V) ∧ P (iz_pI (iz_pI A1 79 (uz (A1.1 79) d 0)) 55 (uz (A1.1 55) 53 0)))) := by
    rw [uz_at, hq]
    have fin : ∀ B, fr [55, 81, 83] A B → ff [48] (A.1 55) (B.1 55) → B.1 81 = uz (A.1 81) d ((q : Int) + 1) → MkR (L ++ (if q = 0 then [] else [-1])) B → P (iz_pI (iz_pI B 79 (uz (B.1 79) d 0)) 55 (uz (B.1 55) 53 0)) := fun B f g e81 mB => by
      refine hP _ (fr_pI (fr_pI (fr_mo f (by decide)) (by decide)) (by decide)) (ff_uz (ff_mo g (by decide)) (by decide)) ⟨fun i hi => ?_, fun i hi => ?_⟩ (uz_at _ _ _) ?_ rfl (mk_k (l := [55, 79]) (m := [53]) mB (fr_pI (fr_pI (fr_mo (fr_rf B) (by decide)) (by decide)) (by decide)) (by decide) (ff_uz (ff_eq rfl) (by decide)) (by decide))
      · refine ⟨(uz_ne _ _ (by omega)).trans (by rw [f.1 79 (by decide)]), ?_, ?_, ?_, ?_, ?_⟩
        · show B.1 80 i = _
          rw [f.1 80 (by decide)]
        · show B.1 81 i = _
          rw [e81, uz_ne _ _ (by omega)]
        · show B.1 82 i = _
          rw [f.1 82 (by decide)]
        · show B.2 77 i = _
          rw [f.2 77 (by decide)]
        · show B.2 78 i = _
          rw [f.2 78 (by decide)]
      · show B.1 86 i = _
        rw [f.1 86 (by decide)]
      · show B.1 81 d = _
        rw [e81, uz_at]
        omega
    refine ⟨fun z => ⟨⟨by omega, by omega⟩, Or.inl rfl, Or.inl rfl, rfl, ?_⟩, fun z => ?_⟩
    · exact fin (iz_pI A 81 (uz (A.1 81) d ((q : Int) + 1))) (fr_pI (fr_mo (fr_rf A) (by decide)) (by decide)) (ff_eq rfl) rfl (by
        rw [if_pos (by omega), List.append_nil]
        exact mk_k (l := [81]) (m := []) m (fr_pI (fr_mo (fr_rf A) (by decide)) (by decide)) (by decide) (ff_eq rfl) (by decide))
    · refine sM_add (mk_k (l := [81]) (m := []) m (fr_pI (fr_mo (fr_rf A) (by decide)) (by decide)) (by decide) (ff_eq rfl) (by decide)) (fun B f g mB => ⟨⟨by omega, by omega⟩, Or.inl rfl, Or.inl rfl, rfl, fin B (fr_mo (fr_tr (fr_pI (l := [81]) (fr_mo (fr_rf A) (by decide)) (by decide)) f) (by decide)) g ?_ ?_⟩)
      · exact f.1 81 (by decide)
      · rw [if_neg (by omega)]
        exact mB
  have bd : inR ((A.1 81 d) + 1) := by rw [hq]; exact inR_b (by omega) (by omega)
  refine e_X11_endItem ?_
  rw [tn]
  refine ⟨⟨by omega, by omega⟩, fun z => ⟨⟨by omega, by omega⟩, bd, ⟨by omega, by omega⟩, ⟨by omega, by omega⟩, key⟩, fun z => ⟨fun z2 => ?_, fun z2 => ⟨⟨by omega, by omega⟩, bd, ⟨by omega, by omega⟩, ⟨by omega, by omega⟩, key⟩⟩⟩
  omega
/-- the last item of a level ends -/
theorem sM_endC {N : Nat} {t s : Nat → Int} {n dd d b j z am : Nat} {D C : Rel} {L0 : List Int} {A : iz_A} {P : iz_A → Prop} (hd : d ≤ 20) (hj : j ≤ 200) (hb : b ≤ j) (hH : Hd N t s n 1 d b j z D C L0 am A) (ga : GA am j A) (hP : ∀ A', fr [55, 79, 81, 83] A A' → ff [48, 53] (A.1 55) (A'.1 55) → Lo d A A' → GA am j A' → HC N t 1 d b j z D C L0 am A' → P A') : Cv (dd + 2) 215 [.inr (.inl 55), .inl (d : Int)] A P := by
  rcases hH with ⟨c1, c2, c3⟩ | ⟨nq, zp, za, Cp, Ra, hz, hC, p1, p0, jp, p2, p3, ⟨Sp, p4, p5, p6⟩, p7⟩
  · obtain ⟨M, m1, m2⟩ := c3 rfl
    refine e_X11_endItem ?_
    rw [tn]
    refine ⟨⟨by omega, by omega⟩, fun z => absurd c1 z, fun _ => ⟨fun _ => ⟨⟨by omega, by omega⟩, Or.inl rfl, Or.inl rfl, rfl, ?_⟩, fun z => absurd ga.1 z⟩⟩
    have f : fr [55, 79] A (iz_pI (iz_pI A 79 (uz (A.1 79) d 0)) 55 (uz (A.1 55) 53 0)) := fr_pI (fr_pI (fr_mo (fr_rf A) (by decide)) (by decide)) (by decide)
    have g : ff [53] (A.1 55) ((iz_pI (iz_pI A 79 (uz (A.1 79) d 0)) 55 (uz (A.1 55) 53 0)).1 55) := ff_uz (ff_eq rfl) (by decide)
    have l : Lo d A (iz_pI (iz_pI A 79 (uz (A.1 79) d 0)) 55 (uz (A.1 55) 53 0)) := ⟨fun i hi => ⟨uz_ne _ _ (by omega), rfl, rfl, rfl, rfl, rfl⟩, fun i hi => rfl⟩
    refine hP _ (fr_mo f (by decide)) (ff_mo g (by decide)) l ⟨rfl, ga.2.1, ga.2.2.1, ga.2.2.2⟩ ⟨uz_at _ _ _, c2, fun _ => ⟨M, mk_k m1 f (by decide) g (by decide), lvG_k m2 (fx_k f (by decide) (by decide)) (Nat.le_refl _) (Nat.le_refl _) rfl rfl (fun _ _ => Iff.rfl) (fun _ _ => Iff.rfl)⟩⟩
  · obtain ⟨M, ac, wa, w1, w2, m1, m2, m3, m4⟩ := p7 rfl
    obtain ⟨q, q1, q2⟩ : ∃ q : Nat, A.1 81 d = (q : Int) ∧ q ≤ j := by
      obtain ⟨sc, rc, zs, zr, ws, wr, r, q, h1, h2, h3, h4, h5, h6, h7, h8, h9⟩ := m2
      exact ⟨q, h5, (by omega)⟩
    refine sM_endI hd hj (Or.inl p1) q1 q2 m1 (fun B f g l e79 e81 e53 mB => hP B f g l ⟨e53, (g 50 (by decide)).trans ga.2.1, ga.2.2.1, ?_⟩ ⟨e79, ?_, fun _ => ⟨M ++ ac ++ (if q = 0 then [] else [-1]), ?_, ?_⟩⟩)
    · obtain ⟨cm, h4, h5, h6⟩ := ga.2.2.2
      refine ⟨cm, (g 52 (by decide)).trans h4, h5, ?_⟩
      unfold AtR
      rw [f.1 84 (by decide)]
      exact h6
    · rw [f.2 77 (by decide), p6, hz]
      exact sz_add p4 p5 (by omega) (by omega)
    · simp only [List.append_assoc] at mB ⊢
      exact mB
    · rw [hz]
      exact lvG_k (lvG_item m2 p2 w2 w1 m4 (fx_k f (by decide) (by decide)) q1 e81 (by rw [f.1 82 (by decide)])) (fx_rf _ _) (Nat.le_refl _) (Nat.le_refl _) rfl rfl (fun _ _ => Iff.rfl) (fun p q => (hC p q).symm)
/-- a row ends -/
theorem sM_endR {N : Nat} {t : Nat → Int} {dd d b j z am : Nat} {D C : Rel} {L0 : List Int} {A : iz_A} {P : iz_A → Prop} (hd : d ≤ 20) (hj : j ≤ 200) (hb : b ≤ j) (hH : HC N t 1 d b j z D C L0 am A) (hP : ∀ (A' : iz_A) (c : List Int) (r : Nat), fr [55, 79, 81, 82, 83] A A' → ff [48] (A.1 55) (A'.1 55) → Lo d A A' → A'.1 79 d = 0 → A'.1 81 d = 0 → A'.1 82 d = (r : Int) → 0 < r → r ≤ j + 1 → MkR (L0 ++ c) A' → CK N t A' am c z (j + 1 - b) (2 * (20 - d) + 2 + mx z) (fun p q => D p q ∨ C p q) → P A') : Cv (dd + 2) 213 [.inr (.inl 55), .inl (d : Int)] A P := by
  obtain ⟨c1, c2, c3⟩ := hH
  obtain ⟨M, m1, m2⟩ := c3 rfl
  obtain ⟨q, r, q1, q2, r1, r2⟩ : ∃ q r : Nat, A.1 81 d = (q : Int) ∧ q ≤ j ∧ A.1 82 d = (r : Int) ∧ r ≤ j := by
    obtain ⟨sc, rc, zs, zr, ws, wr, r, q, h1, h2, h3, h4, h5, h6, h7, h8, h9⟩ := m2
    exact ⟨q, r, h5, h7, h4, h6⟩
  have whole := lvG_row m2 hb q1 r1
  -- from a state where the row has its piece
  have key : ∀ B, fr [55, 83] A B → ff [48] (A.1 55) (B.1 55) → MkR (L0 ++ M ++ (if q = 0 then [-6] else [])) B → ((((0 : Int) ≤ (d : Int) ∧ (d : Int) < 22) ∧ inR ((B.1 82 d) + 1) ∧ ((0 : Int) ≤ (d : Int) ∧ (d : Int) < 22) ∧ ((0 : Int) ≤ (d : Int) ∧ (d : Int) < 22) ∧ (((uz (B.1 82) d ((B.1 82 d) + 1)) d) ≤ 1 → (((0 : Int) ≤ (d : Int) ∧ (d : Int) < 22) ∧ ((0 : Int) ≤ (d : Int) ∧ (d : Int) < 22) ∧ ((0 : Int) = 0 ∨ (0 : Int) = 1) ∧ none = (none : Option iz_V) ∧ P (iz_pI (iz_pI (iz_pI B 82 (uz (B.1 82) d ((B.1 82 d) + 1))) 81 (uz (B.1 81) d 0)) 79 (uz (B.1 79) d 0)))) ∧ (¬ ((uz (B.1 82) d ((B.1 82 d) + 1)) d) ≤ 1 → Cv (dd + 1) 212 [.inr (.inl 55), .inl (-2)] (iz_pI B 82 (uz (B.1 82) d ((B.1 82 d) + 1))) (fun A1 => ((0 : Int) ≤ (d : Int) ∧ (d : Int) < 22) ∧ ((0 : Int) ≤ (d : Int) ∧ (d : Int) < 22) ∧ ((0 : Int) = 0 ∨ (0 : Int) = 1) ∧ none = (none : Option iz_V) ∧ P (iz_pI (iz_pI A1 81 (uz (A1.1 81) d 0)) 79 (uz (A1.1 79) d 0)))))) := by
    intro B f g mB
    have r1' : B.1 82 d = (r : Int) := by rw [f.1 82 (by decide)]; exact r1
    rw [uz_at, r1']
    have fin : ∀ E, fr [55, 82, 83] A E → ff [48] (A.1 55) (E.1 55) → E.1 82 = uz (A.1 82) d ((r : Int) + 1) → MkR (L0 ++ (M ++ (if q = 0 then [-6] else []) ++ (if r = 0 then [] else [-2]))) E → P (iz_pI (iz_pI E 81 (uz (E.1 81) d 0)) 79 (uz (E.1 79) d 0)) := fun E fE gE e82 mE => by
      refine hP _ _ (r + 1) (fr_pI (fr_pI (fr_mo fE (by decide)) (by decide)) (by decide)) gE ⟨fun i hi => ?_, fun i hi => ?_⟩ (uz_at _ _ _) (uz_at _ _ _) ?_ (Nat.succ_pos r) (by omega) (mk_k (l := [79, 81]) (m := []) mE (fr_pI (fr_pI (fr_mo (fr_rf E) (by decide)) (by decide)) (by decide)) (by decide) (ff_eq rfl) (by decide)) (ck_k whole (fx_k (l := [55, 79, 81, 82, 83]) (fr_pI (fr_pI (fr_mo fE (by decide)) (by decide)) (by decide)) (by decide) (by decide)) (Nat.le_refl _) (Nat.le_refl _) (Nat.le_refl _) (fun _ _ => Iff.rfl))
      · refine ⟨(uz_ne _ _ (by omega)).trans (by rw [fE.1 79 (by decide)]), ?_, (uz_ne _ _ (by omega)).trans (by rw [fE.1 81 (by decide)]), ?_, ?_, ?_⟩
        · show E.1 80 i = _
          rw [fE.1 80 (by decide)]
        · show E.1 82 i = _
          rw [e82, uz_ne _ _ (by omega)]
        · show E.2 77 i = _
          rw [fE.2 77 (by decide)]
        · show E.2 78 i = _
          rw [fE.2 78 (by decide)]
      · show E.1 86 i = _
        rw [fE.1 86 (by decide)]
      · show E.1 82 d = _
        rw [e82, uz_at]
        omega
    have fB : fr [82] B (iz_pI B 82 (uz (B.1 82) d ((r : Int) + 1))) := fr_pI (fr_mo (fr_rf B) (by decide)) (by decide)
    have e82 : (iz_pI B 82 (uz (B.1 82) d ((r : Int) + 1))).1 82 = uz (A.1 82) d ((r : Int) + 1) := by
      show uz (B.1 82) d _ = _
      rw [f.1 82 (by decide)]
    refine ⟨⟨by omega, by omega⟩, inR_b (by omega) (by omega), ⟨by omega, by omega⟩, ⟨by omega, by omega⟩, fun z => ⟨⟨by omega, by omega⟩, ⟨by omega, by omega⟩, Or.inl rfl, rfl, ?_⟩, fun z => sM_add (mk_k (m := []) mB fB (by decide) (ff_eq rfl) (by decide)) (fun E f' g' mE => ⟨⟨by omega, by omega⟩, ⟨by omega, by omega⟩, Or.inl rfl, rfl, ?_⟩)⟩
    · refine fin _ (fr_mo (fr_tr f fB) (by decide)) g e82 ?_
      rw [if_pos (show r = 0 by omega), List.append_nil]
      refine mk_k (m := []) ?_ fB (by decide) (ff_eq rfl) (by decide)
      rw [← List.append_assoc]
      exact mB
    · refine fin E (fr_mo (fr_tr f (fr_tr fB f')) (by decide)) (ff_tr g g') ((f'.1 82 (by decide)).trans e82) ?_
      rw [if_neg (show ¬ r = 0 by omega)]
      simp only [List.append_assoc] at mE ⊢
      exact mE
  refine e_X11_endRow ?_
  rw [tn]
  refine ⟨⟨by omega, by omega⟩, fun z => ?_, fun z => ?_⟩
  · refine key A (fr_mo (fr_rf A) (by decide)) (ff_eq rfl) ?_
    rw [if_neg (by omega), List.append_nil]
    exact m1
  · refine sM_add m1 (fun B f g mB => ?_)
    refine key B f g ?_
    rw [if_pos (by omega)]
    exact mB
