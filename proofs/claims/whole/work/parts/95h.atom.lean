/-! ===== the reference reads an atom ===== -/
theorem sM_begun {dd d : Nat} {A : iz_A} {P : iz_A → Prop} {v2 : Int} {v3 : Int64} (hd : d ≤ 20) (hP : ∀ C, fr [77, 78, 79, 80] A C → C.1 79 = uz (A.1 79) d 1 → C.1 80 = uz (A.1 80) d v2 → C.2 78 = vp_updL (A.2 78) d v3 → C.2 77 = vp_updL (A.2 77) d (A.2 77 d + v3) → P C) : Cv (dd + 1) 214 [.inr (.inl 55), .inl (d : Int), .inl v2, .inr (.inr v3)] A P := by
  refine e_X11_begunAtom ?_
  rw [tn]
  exact ⟨⟨by omega, by omega⟩, ⟨by omega, by omega⟩, ⟨by omega, by omega⟩, Or.inr rfl, ⟨by omega, by omega⟩, ⟨by omega, by omega⟩, rfl, hP _ (fr_pL (fr_pI (fr_pL (fr_pI (fr_mo (fr_rf A) (by decide)) (by decide)) (by decide)) (by decide)) (by decide)) rfl rfl rfl rfl⟩
theorem lo_begun {d : Nat} {A C : iz_A} {v2 : Int} {v3 : Int64} (f : fr [77, 78, 79, 80] A C) (e79 : C.1 79 = uz (A.1 79) d 1) (e80 : C.1 80 = uz (A.1 80) d v2) (e78 : C.2 78 = vp_updL (A.2 78) d v3) (e77 : C.2 77 = vp_updL (A.2 77) d (A.2 77 d + v3)) : Lo d A C := ⟨fun i hi => by
  rw [e79, e80, e78, e77, f.1 81 (by decide), f.1 82 (by decide)]
  exact ⟨uz_ne _ _ (by omega), uz_ne _ _ (by omega), rfl, rfl, up_ne _ _ (by omega), up_ne _ _ (by omega)⟩, fun i _ => by rw [f.1 86 (by decide)]⟩
theorem fx_bl {am cm : Nat} {A B : iz_A} (h : AtR am cm A) (b : Bl cm A B) (e : B.1 84 = A.1 84) : Fx am A B := fun i hi c hc => by
  unfold fitA
  rw [e]
  rcases h i hi with h | h | h
  · exact ⟨fun _ => Or.inl h, fun _ => Or.inl h⟩
  · refine or_congr Iff.rfl (and_congr Iff.rfl (or_congr ⟨fun z => by omega, fun z => by omega⟩ Iff.rfl))
  · rw [b (256 * (A.1 84 i - 1000).toNat + (c : Int).toNat) (by omega)]
theorem sM_atom {N : Nat} {t s : Nat → Int} {mk : Int} {n dd d b j z am : Nat} {D C : Rel} {L0 : List Int} {A : iz_A} {P : iz_A → Prop} {f0 : Nat → Nat → Pr (Nat × Rel)} (htb : ∀ p, p < N → 0 ≤ t p → t p < 256) (hmk : mk = 0 ∨ mk = 1) (hd : d ≤ 20) (hs : SgM s n A) (hq : Qm n j (-1) A) (hj : j < n) (hb : b ≤ j) (hc : ¬ s j = 40 ∧ ¬ s j = 41 ∧ ¬ s j = 124 ∧ ¬ qs s n j) (hH : HC N t mk d b j z D C L0 am A) (ga : GA am j A) (hP : PrE (pat N t s n f0 d j) (fun e => ∀ E, fr [55, 77, 78, 79, 80, 83, 84, 85] A E → ff [37, 38, 48, 50, 52] (A.1 55) (E.1 55) → E.1 55 37 = (e : Int) → P E) (fun k zR => ∀ E (am' : Nat), am ≤ am' → fr [55, 77, 78, 79, 80, 83, 84, 85] A E → ff [37, 38, 48, 50, 52] (A.1 55) (E.1 55) → Qm n k (-1) E → GA am' k E → Lo d A E → Fx am A E → HP N t mk d b k z zR.1 D C zR.2 L0 am' E → P E)) : Cv (dd + 4) 220 [.inr (.inl 55), .inl (s j), .inl (d : Int), .inl mk] A P := by
  have nb := hs.1
  have hs2 := fun i hi => (hs.2 i hi).2
  obtain ⟨g53, g50, g0, cm, g52, g1, g2⟩ := ga
  obtain ⟨c1, c2, c3⟩ := hH
  have nqs := hc.2.2.2
  have n42 : ¬ s j = 42 ∧ ¬ s j = 43 ∧ ¬ s j = 63 ∧ ¬ s j = 123 := ⟨fun e => nqs ⟨hj, Or.inl e⟩, fun e => nqs ⟨hj, Or.inr (Or.inl e)⟩, fun e => nqs ⟨hj, Or.inr (Or.inr (Or.inl e))⟩, fun e => nqs ⟨hj, Or.inr (Or.inr (Or.inr e))⟩⟩
  -- what is done once the atom is told
  have tail : ∀ (B : iz_A) (k cm' : Nat) (w : Int) (S : Int → Prop), j < k → k ≤ n → fr [55, 85] A B → ff [37, 38, 52] (A.1 55) (B.1 55) → Qm n k (-1) B → B.1 55 52 = (cm' : Int) → 2 * cm' ≤ k → cm ≤ cm' → Fx am A B → (w = 256 ∨ (0 ≤ w ∧ w < 256) ∨ (1000 ≤ w ∧ w < 1000 + (cm' : Int))) → (∀ E : iz_A, E.1 84 am = w → E.1 85 = B.1 85 → ∀ c : Nat, c < 256 → (fitA E am (c : Int) ↔ S (c : Int))) → (∀ E (am' : Nat), am ≤ am' → fr [55, 77, 78, 79, 80, 83, 84, 85] A E → ff [37, 38, 48, 50, 52] (A.1 55) (E.1 55) → Qm n k (-1) E → GA am' k E → Lo d A E → Fx am A E → HP N t mk d b k z 1 D C (atR N t S) L0 am' E → P E) → ((mk = 0 → Cv (dd + 3) 214 [.inr (.inl 55), .inl (d : Int), .inl (A.1 55 48), .inr (.inr 1)] B (fun A3 => none = (none : Option iz_V) ∧ P A3)) ∧ (¬ mk = 0 → ((0 ≤ B.1 55 50 ∧ B.1 55 50 < 200) ∧ Cv (dd + 3) 212 [.inr (.inl 55), .inl (B.1 55 50)] (iz_pI B 84 (uz (B.1 84) (B.1 55 50).toNat w)) (fun A4 => inR ((A4.1 55 50) + 1) ∧ Cv (dd + 3) 214 [.inr (.inl 55), .inl (d : Int), .inl (A.1 55 48), .inr (.inr 1)] (iz_pI A4 55 (uz (A4.1 55) 50 ((A4.1 55 50) + 1))) (fun A5 => none = (none : Option iz_V) ∧ P A5))))) := by
    intro B k cm' w S jk kn f g q b52 bk cc fx hw hfit h
    have b50 : B.1 55 50 = (am : Int) := (g 50 (by decide)).trans g50
    refine ⟨fun z => sM_begun hd (fun E fE e79 e80 e78 e77 => ⟨rfl, ?_⟩), fun z => ?_⟩
    · have fAE : fr [55, 77, 78, 79, 80, 83, 84, 85] A E := fr_mo (fr_tr f fE) (by decide)
      have gAE : ff [37, 38, 48, 50, 52] (A.1 55) (E.1 55) := by rw [fE.1 55 (by decide)]; exact ff_mo g (by decide)
      refine h E am (Nat.le_refl _) fAE gAE (qm_k (m := []) q (ff_eq (fE.1 55 (by decide))) (by decide)) ⟨by rw [fE.1 55 (by decide)]; exact (g 53 (by decide)).trans g53, by rw [fE.1 55 (by decide)]; exact b50, (by omega), cm', by rw [fE.1 55 (by decide)]; exact b52, bk, fun i hi => ?_⟩ (lo_tr (lo_k f (by decide)) (lo_begun fE e79 e80 e78 e77) (Nat.le_refl _)) (fx_tr fx (fx_k (am := am) fE (by decide) (by decide)) (Nat.le_refl _)) ⟨by rw [e79, uz_at], fun w => absurd w (by decide), j, hb, jk, ⟨A.2 77 d, c2, by rw [e78, up_at]; exact sz_1 (by omega), ?_⟩, fun w => absurd (z.symm.trans w) (by decide)⟩
      · rw [fE.1 84 (by decide), f.1 84 (by decide)]
        have := g2 i hi
        omega
      · rw [e77, e78, up_at, up_at, f.2 77 (by decide)]
    · have mk1 : mk = 1 := hmk.elim (fun w => absurd w z) id
      obtain ⟨M, m1, m2⟩ := c3 mk1
      rw [b50, tn]
      have f2 : fr [84] B (iz_pI B 84 (uz (B.1 84) am w)) := fr_pI (fr_mo (fr_rf B) (by decide)) (by decide)
      have mB : MkR (L0 ++ M) (iz_pI B 84 (uz (B.1 84) am w)) := mk_k (mk_k m1 f (by decide) g (by decide)) f2 (by decide) (ff_eq (l := []) rfl) (by decide)
      refine ⟨⟨by omega, by omega⟩, sM_add mB (fun F fF gF mF => ?_)⟩
      have F50 : F.1 55 50 = (am : Int) := (gF 50 (by decide)).trans b50
      rw [F50]
      refine ⟨inR_b (by omega) (by omega), sM_begun hd (fun E fE e79 e80 e78 e77 => ⟨rfl, ?_⟩)⟩
      have f3 : fr [55] F (iz_pI F 55 (uz (F.1 55) 50 ((am : Int) + 1))) := fr_pI (fr_mo (fr_rf F) (by decide)) (by decide)
      have g3 : ff [50] (F.1 55) ((iz_pI F 55 (uz (F.1 55) 50 ((am : Int) + 1))).1 55) := ff_uz (ff_eq rfl) (by decide)
      have p3 : (iz_pI F 55 (uz (F.1 55) 50 ((am : Int) + 1))).1 55 50 = (am : Int) + 1 := rfl
      generalize iz_pI F 55 (uz (F.1 55) 50 ((am : Int) + 1)) = F2 at *
      have E55 : E.1 55 = F2.1 55 := fE.1 55 (by decide)
      have fAE : fr [55, 77, 78, 79, 80, 83, 84, 85] A E := fr_mo (fr_tr f (fr_tr f2 (fr_tr fF (fr_tr f3 fE)))) (by decide)
      have gBE : ff [48, 50] (B.1 55) (E.1 55) := by
        rw [E55]
        exact ff_tr (ff_mo gF (by decide)) (ff_mo g3 (by decide))
      have gAE : ff [37, 38, 48, 50, 52] (A.1 55) (E.1 55) := ff_tr (ff_mo g (by decide)) (ff_mo gBE (by decide))
      have e84 : E.1 84 = uz (A.1 84) am w := by
        rw [fE.1 84 (by decide), f3.1 84 (by decide), fF.1 84 (by decide)]
        show uz (B.1 84) am w = _
        rw [f.1 84 (by decide)]
      have e85 : E.1 85 = B.1 85 := by
        rw [fE.1 85 (by decide), f3.1 85 (by decide), fF.1 85 (by decide)]
        rfl
      have fxE : Fx am A E := fx_tr fx (fun i hi c hc' => by
        unfold fitA
        rw [e84, e85, uz_ne _ _ (by omega), f.1 84 (by decide)]) (Nat.le_refl _)
      have ef := hfit E (by rw [e84, uz_at]) e85
      have e77' : F2.2 77 = A.2 77 := by
        rw [f3.2 77 (by decide), fF.2 77 (by decide)]
        show B.2 77 = _
        rw [f.2 77 (by decide)]
      refine h E (am + 1) (Nat.le_succ am) fAE gAE (qm_k q gBE (by decide)) ⟨?_, ?_, (by omega), cm', ?_, bk, fun i hi => ?_⟩ (lo_tr (lo_k (l := [55, 83, 84, 85]) (fr_mo (fr_tr f (fr_tr f2 (fr_tr fF f3))) (by decide)) (by decide)) (lo_begun fE e79 e80 e78 e77) (Nat.le_refl _)) fxE ⟨by rw [e79, uz_at], fun w => absurd w (by decide), j, hb, jk, ⟨A.2 77 d, c2, by rw [e78, up_at]; exact sz_1 (by omega), ?_⟩, fun _ => ⟨M, [(am : Int)], 1, Nat.le_refl 1, (by omega), ?_, ?_, ?_, ?_, fun ft hm hft => ?_⟩⟩
      · exact (gAE 53 (by decide)).trans g53
      · rw [E55, p3]
        omega
      · exact (gBE 52 (by decide)).trans b52
      · rw [e84]
        by_cases e : i = am
        · rw [e, uz_at]
          exact hw
        · rw [uz_ne _ _ e]
          have := g2 i (by omega)
          omega
      · rw [e77, e78, up_at, up_at, e77']
      · exact mk_k (mk_k mF f3 (by decide) g3 (by decide)) fE (by decide) (ff_eq (l := []) E55) (by decide)
      · exact lvG_k m2 fxE (Nat.le_succ am) (Nat.le_refl _) (by rw [fAE.1 81 (by decide)]) (by rw [fAE.1 82 (by decide)]) (fun _ _ => Iff.rfl) (fun _ _ => Iff.rfl)
      · rw [e80, uz_at]
        exact m1.1
      · show 1 + 1 ≤ 2 * 1 * mx 1
        decide
      · refine kd_mono (kd_atom (R := atR N t S) (show am < 200 by omega) (show am < ft.1 by omega) (fun p q => ?_)) (by have := mx_pos 1; omega) (fun _ _ => Iff.rfl)
        unfold atR
        constructor
        · rintro ⟨a1, a2, a3, a4⟩
          have a5 := htb p a1 a2
          have w := (hft am (Nat.lt_succ_self am) (t p).toNat (by omega)).trans (ef (t p).toNat (by omega))
          rw [show (((t p).toNat : Nat) : Int) = t p by omega] at w
          exact ⟨⟨a1, a2, w.2 a3⟩, a4⟩
        · rintro ⟨⟨a1, a2, a3⟩, a4⟩
          have a5 := htb p a1 a2
          have w := (hft am (Nat.lt_succ_self am) (t p).toNat (by omega)).trans (ef (t p).toNat (by omega))
          rw [show (((t p).toNat : Nat) : Int) = t p by omega] at w
          exact ⟨a1, a2, w.1 a3, a4⟩
  have bad : (s j = 93 ∨ s j = 125) → Cv (dd + 3) 205 [.inr (.inl 55), .inl (A.1 55 38)] A (fun A1 => none = (none : Option iz_V) ∧ P A1) := fun e => by
    unfold pat at hP
    rw [if_neg hc.1, if_neg (by omega), if_neg (by omega), if_pos (by omega)] at hP
    rw [hq.2.1]
    refine sM_fail hq (fun E f g q => ⟨rfl, hP E (fr_mo f (by decide)) (ff_mo g (by decide)) q.2.2⟩)
  have adv : ∀ {B : iz_A} {k : Nat}, fr [55] A B → ff [37, 38] (A.1 55) (B.1 55) → Qm n k (-1) B → fr [55] A (iz_pI B 55 (uz (B.1 55) 38 ((k : Int) + 1))) ∧ ff [37, 38] (A.1 55) ((iz_pI B 55 (uz (B.1 55) 38 ((k : Int) + 1))).1 55) ∧ Qm n ((k + 1 : Nat) : Int) (-1) (iz_pI B 55 (uz (B.1 55) 38 ((k : Int) + 1))) := fun {B k} f g q => ⟨fr_pI f (by decide), ff_uz g (by decide), q.1, (show (k : Int) + 1 = ((k + 1 : Nat) : Int) by omega), q.2.2⟩
  have a0 := adv (fr_mo (fr_rf A) (by decide)) (ff_eq rfl) hq
  have fx0 : ∀ {B : iz_A}, fr [55] A B → Fx am A B := fun f => fx_k f (by decide) (by decide)
  have fit1 : ∀ c0 : Int, c0 < 256 → ∀ E : iz_A, E.1 84 am = c0 → ∀ c : Nat, c < 256 → (fitA E am (c : Int) ↔ (c : Int) = c0) := fun c0 hc0 E e c hc' => by
    unfold fitA
    rw [e]
    exact ⟨fun w => by omega, fun w => by omega⟩
  refine e_X11_atom ⟨fun e => bad (Or.inl e), fun n93 => ⟨fun n125 => ⟨fun n91 => ⟨fun n92 => ⟨fun n46 => ?_, fun e46 => ?_⟩, fun e92 => ?_⟩, fun e91 => ?_⟩, fun e => bad (Or.inr e)⟩⟩
  · -- a plain sign
    have so := hs2 j hj
    have eg : gby s n j = .inr (j + 1, s j) := by
      unfold gby
      rw [if_pos hj, if_neg n92]
    unfold pat at hP
    rw [if_neg hc.1, if_neg n91, if_neg n46, if_neg (by omega), eg] at hP
    have w37 : ¬ (0 : Int) ≤ A.1 55 37 := by rw [hq.2.2]; decide
    rw [hq.2.1]
    exact ⟨inR_b (by omega) (by omega), fun z => absurd z w37, fun _ => tail _ (j + 1) cm (s j) (fun c' => c' = s j) (Nat.lt_succ_self j) (by omega) (fr_mo a0.1 (by decide)) (ff_mo a0.2.1 (by decide)) a0.2.2 g52 (by omega) (Nat.le_refl _) (fx0 a0.1) (Or.inr (Or.inl ⟨(by omega), (by omega)⟩)) (fun E e _ => fit1 (s j) (by omega) E e) hP⟩
  · -- any byte
    unfold pat at hP
    rw [if_neg hc.1, if_neg n91, if_pos e46] at hP
    have w37 : ¬ (0 : Int) ≤ A.1 55 37 := by rw [hq.2.2]; decide
    rw [hq.2.1]
    exact ⟨inR_b (by omega) (by omega), fun z => absurd z w37, fun _ => tail _ (j + 1) cm 256 (fun _ => True) (Nat.lt_succ_self j) (by omega) (fr_mo a0.1 (by decide)) (ff_mo a0.2.1 (by decide)) a0.2.2 g52 (by omega) (Nat.le_refl _) (fx0 a0.1) (Or.inl rfl) (fun E e _ c _ => ⟨fun _ => trivial, fun _ => Or.inl e⟩) hP⟩
  · -- a sign behind a backslash
    unfold pat at hP
    rw [if_neg hc.1, if_neg n91, if_neg (by omega), if_neg (by omega)] at hP
    unfold gby at hP
    rw [if_pos hj, if_pos e92] at hP
    rw [hq.2.1]
    refine ⟨inR_b (by omega) (by omega), sM_sign (sgM_k hs a0.1 (by decide)) a0.2.2 ⟨fun y => ?_, fun y => ?_⟩⟩
    · have j1 : j + 1 < n := Decidable.of_not_not fun c => y (if_neg c)
      rw [if_pos j1] at hP ⊢
      have so := hs2 (j + 1) j1
      have a1 := adv a0.1 a0.2.1 a0.2.2
      have w37 : ¬ (0 : Int) ≤ (iz_pI A 55 (uz (A.1 55) 38 ((j : Int) + 1))).1 55 37 := by rw [a0.2.2.2.2]; decide
      rw [a0.2.2.2.1]
      exact ⟨inR_b (by omega) (by omega), fun z => absurd z w37, fun _ => tail _ (j + 2) cm (s (j + 1)) (fun c' => c' = s (j + 1)) (by omega) (by omega) (fr_mo a1.1 (by decide)) (ff_mo a1.2.1 (by decide)) a1.2.2 g52 (by omega) (Nat.le_refl _) (fx0 a1.1) (Or.inr (Or.inl ⟨(by omega), (by omega)⟩)) (fun E e _ => fit1 (s (j + 1)) (by omega) E e) hP⟩
    · have j1 : ¬ j + 1 < n := fun c => by
        rw [if_pos c] at y
        have := hs2 (j + 1) c
        omega
      rw [if_neg j1] at hP
      rw [a0.2.2.2.1]
      exact sM_fail a0.2.2 (fun E f g q => ⟨rfl, hP E (fr_mo (fr_tr a0.1 f) (by decide)) (ff_tr (ff_mo a0.2.1 (by decide)) (ff_mo g (by decide))) q.2.2⟩)
  · -- a class
    unfold pat at hP
    rw [if_neg hc.1, if_pos e91] at hP
    have hP := PrE_bnd.1 hP
    rw [g52]
    refine ⟨inR_b (by omega) (by omega), sM_ranges hs hq hj g52 (by omega) (PrE_mono hP (fun e e1 h B j' f g q jb => ?_) (fun k S e1 h B f g q c b cl => ?_))⟩
    · refine ⟨fun _ => sM_begun hd (fun E fE _ _ _ _ => ⟨rfl, h E (fr_mo (fr_tr f fE) (by decide)) (by rw [fE.1 55 (by decide)]; exact ff_mo g (by decide)) (by rw [fE.1 55 (by decide)]; exact q.2.2)⟩), fun z => absurd (by rw [q.2.2]; omega) z⟩
    · have o1 := gcl_ok2 hs2 e1
      have w37 : ¬ (0 : Int) ≤ B.1 55 37 := by rw [q.2.2]; decide
      refine ⟨fun z => absurd z w37, fun _ => tail B k (cm + 1) (1000 + (cm : Int)) S (by omega) o1.2 f g q c (by omega) (Nat.le_succ cm) (fx_bl g2 b (f.1 84 (by decide))) (Or.inr (Or.inr ⟨(by omega), (by omega)⟩)) (fun E e e85 c' hc' => ?_) h⟩
      have w := cl c' hc'
      unfold fitA
      rw [e, e85, show (1000 + (cm : Int) - 1000).toNat = cm by omega, tn]
      constructor
      · rintro (y | ⟨y, y2 | y2⟩)
        · omega
        · exact (w.1 y2.2).elim (fun v => v.2) (fun v => absurd v.1 (by decide))
        · omega
      · intro y
        exact Or.inr ⟨(by omega), Or.inl ⟨(by omega), w.2 (Or.inl ⟨rfl, y⟩)⟩⟩
