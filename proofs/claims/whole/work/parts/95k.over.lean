/-! ===== the reference goes over the whole query ===== -/
theorem sM_over {N : Nat} {t s : Nat → Int} {mk : Int} {n dd : Nat} {A : iz_A} {P : iz_A → Prop} (htb : ∀ p, p < N → 0 ≤ t p → t p < 256) (hmk : mk = 0 ∨ mk = 1) (hs : SgM s n A) (hn : A.1 55 31 = (n : Int)) (hP : PrE (psm N t s n (n + 1) 0 0 0 (fun _ _ => False) (fun p q => p = q)) (fun e => ∀ E, fr [55, 77, 78, 79, 80, 81, 82, 83, 84, 85, 86] A E → ff [37, 38, 45, 46, 48, 50, 52, 53] (A.1 55) (E.1 55) → E.1 55 37 = (e : Int) → P E) (fun k zR => ∀ E, fr [55, 77, 78, 79, 80, 81, 82, 83, 84, 85, 86] A E → ff [37, 38, 45, 46, 48, 50, 52, 53] (A.1 55) (E.1 55) → ((k < n ∧ E.1 55 37 = (k : Int)) ∨ (¬ k < n ∧ E.1 55 37 = -1 ∧ szR (E.2 77 0) zR.1 n ∧ (mk = 1 → ∃ (c : List Int) (am cm : Nat), MkR c E ∧ CK N t E am c zR.1 (n + 1) (42 + mx zR.1) zR.2 ∧ AtR am cm E ∧ 2 * cm ≤ n ∧ am ≤ n))) → P E)) : Cv (dd + 5) 218 [.inr (.inl 55), .inl mk] A P := by
  have nb := hs.1
  have hs2 := fun i hi => (hs.2 i hi).2
  refine e_X11_goOver ⟨Or.inl rfl, e_X11_openOne ?_⟩
  refine ⟨⟨by omega, by omega⟩, ⟨by omega, by omega⟩, Or.inl rfl, ⟨by omega, by omega⟩, ⟨by omega, by omega⟩, rfl, ?_⟩
  rw [show (0 : Int).toNat = 0 from rfl]
  generalize hX : (iz_pI (iz_pI (iz_pI (iz_pL (iz_pI _ 55 _) 77 _) 79 _) 81 _) 82 _) = X
  have f : fr [55, 77, 79, 81, 82] A X := by
    rw [← hX]
    exact fr_pI (fr_pI (fr_pI (fr_pL (fr_pI (fr_pI (fr_pI (fr_pI (fr_pI (fr_pI (fr_mo (fr_rf A) (by decide)) (by decide)) (by decide)) (by decide)) (by decide)) (by decide)) (by decide)) (by decide)) (by decide)) (by decide)) (by decide)
  have g : ff [37, 38, 45, 46, 48, 50, 52, 53] (A.1 55) (X.1 55) := by
    rw [← hX]
    exact ff_uz (ff_uz (ff_uz (ff_uz (ff_uz (ff_uz (ff_eq rfl) (by decide)) (by decide)) (by decide)) (by decide)) (by decide)) (by decide)
  have q : Qm n ((0 : Nat) : Int) (-1) X := by
    rw [← hX]
    exact ⟨hn, rfl, rfl⟩
  have x48 : X.1 55 48 = 0 := by rw [← hX]; rfl
  have x50 : X.1 55 50 = 0 := by rw [← hX]; rfl
  have x52 : X.1 55 52 = 0 := by rw [← hX]; rfl
  have x53 : X.1 55 53 = 0 := by rw [← hX]; rfl
  have x77 : X.2 77 0 = 0 := by rw [← hX]; rfl
  have x79 : X.1 79 0 = 0 := by rw [← hX]; rfl
  have x81 : X.1 81 0 = 0 := by rw [← hX]; rfl
  have x82 : X.1 82 0 = 0 := by rw [← hX]; rfl
  clear hX
  have hX : HC N t mk 0 0 0 0 (fun _ _ => False) (fun p q => p = q) [] 0 X := ⟨x79, by rw [x77]; exact sz_0 _, fun _ => ⟨[], ⟨x48, fun i hi => absurd hi (Nat.not_lt_zero i)⟩, [], [], 0, 0, 0, 0, 0, 0, rfl, rfl, Nat.le_refl _, x82, x81, Nat.le_refl _, Nat.le_refl _, Or.inl ⟨rfl, rfl, rfl, fun _ _ w => w⟩, Or.inl ⟨rfl, rfl, rfl, fun _ _ => Iff.rfl⟩⟩⟩
  have gaX : GA 0 0 X := ⟨x53, x50, Nat.le_refl _, 0, x52, Nat.le_refl _, fun i hi => absurd hi (Nat.not_lt_zero i)⟩
  have big := gO (dd := dd) (P := P) (n := n) (s := s) htb hmk (n + 1) 0 (by decide) 0 0 0 _ _ [] 0 X (sgM_k hs f (by decide)) q (Nat.zero_le _) (by omega) (Nat.le_refl _) gaX (Or.inl hX) (PrE_mono hP (fun e _ h E fE gE wE => h E (fr_mo (fr_tr f fE) (by decide)) (ff_tr g gE) wE) (fun k zR e0 h E am D' K' fE gE qE gaE _ lE xE rE hE => ?_))
  · exact big
  · have ok := psm_ok hs2 _ _ _ _ _ _ _ _ (Nat.zero_le n) e0
    have fAE : fr [55, 77, 78, 79, 80, 81, 82, 83, 84, 85, 86] A E := fr_mo (fr_tr f fE) (by decide)
    have gAE := ff_tr g gE
    have hsE := sgM_k hs fAE (by decide)
    have w37 : ¬ (0 : Int) ≤ E.1 55 37 := by rw [qE.2.2]; decide
    by_cases kn : k < n
    · have s41 := ok.2.2 kn
      refine w_X11_goOver_37 ⟨fun z => absurd z w37, fun _ => ⟨fun z => ?_, fun _ => sM_sign hsE qE ?_⟩⟩
      · rw [qE.1, qE.2.1] at z
        omega
      · rw [if_pos kn]
        refine ⟨fun z => by omega, fun _ => ⟨fun z => by omega, fun _ => ⟨fun z => by omega, fun _ => ⟨fun _ => ?_, fun z => by omega⟩⟩⟩⟩
        refine gO_end (d := 0) hmk (by decide) (by omega) (Nat.zero_le _) hE gaE (fun U fU gU lU gaU hU => ?_)
        have qU : Qm n k (-1) U := qm_k qE gU (by decide)
        refine w_X11_goOver_143 ⟨fun _ => ⟨fun z => absurd s41 z, fun _ => ⟨fun z => absurd rfl z, fun _ => ?_⟩⟩, fun z => by omega⟩
        rw [qU.2.1]
        exact sM_fail qU (fun V fV gV qV => ⟨rfl, h V (fr_mo (fr_tr fAE (fr_tr fU fV)) (by decide)) (ff_tr gAE (ff_tr (ff_mo gU (by decide)) (ff_mo gV (by decide)))) (Or.inl ⟨kn, qV.2.2⟩)⟩)
    · have ek : k = n := by omega
      refine w_X11_goOver_37 ⟨fun z => absurd z w37, fun _ => ⟨fun _ => w_X11_goOver_298 ⟨fun z => absurd z w37, fun _ => ⟨fun _ => w_X11_goOver_317 ⟨fun z => absurd z w37, fun _ => ⟨fun z0 => w_X11_goOver_338 ⟨rfl, ?_⟩, fun z0 => ?_⟩⟩, fun z => absurd (Int.le_refl 0) z⟩⟩, fun z => ?_⟩⟩
      · refine h E fAE gAE (Or.inr ⟨kn, qE.2.2, ?_, fun e => by omega⟩)
        rcases hE with ⟨c1, c2, c3⟩ | ⟨nq, zp, za, Cp, Ra, hz, hC, p1, p0, jp, p2, p3, ⟨Sp, p4, p5, p6⟩, p7⟩
        · rw [ek] at c2
          exact c2
        · rw [p6, hz]
          exact sz_add p4 p5 (by omega) (by omega)
      · have e1 : mk = 1 := hmk.elim (fun w => absurd w z0) id
        subst e1
        refine sM_endC (d := 0) (by decide) (by omega) (Nat.zero_le _) hE gaE (fun U fU gU lU gaU hU => ?_)
        refine sM_endR (d := 0) (by decide) (by omega) (Nat.zero_le _) hU (fun V c r fV gV lV u79 u81 u82 r0 r1 mV kV => w_X11_goOver_338 ⟨rfl, ?_⟩)
        have fUV : fr [55, 79, 81, 82, 83] U V := fV
        refine h V (fr_mo (fr_tr fAE (fr_tr fU fV)) (by decide)) (ff_tr gAE (ff_tr (ff_mo gU (by decide)) (ff_mo gV (by decide)))) (Or.inr ⟨kn, ?_, ?_, fun _ => ?_⟩)
        · exact ((gV 37 (by decide)).trans (gU 37 (by decide))).trans qE.2.2
        · rw [fV.2 77 (by decide)]
          have := hU.2.1
          rw [ek] at this
          exact this
        · obtain ⟨g53, g50, g0, cm, g52, g1, g2⟩ := gaU
          refine ⟨c, am, cm, mV, ck_k kV (fx_rf _ _) (Nat.le_refl _) (by omega) (by omega) (fun p q => (rE p q).symm), ?_, (by omega), (by omega)⟩
          unfold AtR
          rw [fV.1 84 (by decide)]
          exact g2
      · rw [qE.1, qE.2.1] at z
        omega
/-- and finds its places -/
theorem sM_find {N : Nat} {t : Nat → Int} {n dd am z : Nat} {c : List Int} {R : Rel} {A : iz_A} {P : iz_A → Prop} (hn : n ≤ 200) (hz : z ≤ 120) (m : MkR c A) (k : CK N t A am c z (n + 1) (42 + mx z) R) (hP : ∀ C, fr [55, 87, 88, 89, 90, 91, 92, 93, 94] A C → ff [55] (A.1 55) (C.1 55) → C.1 55 55 = (z : Int) → GE N t (am, fitA A) 0 0 z R C → P C) : Cv (dd + 2) 222 [.inr (.inl 55)] A P := by
  have mb : mx z ≤ 120 := by unfold mx; split <;> omega
  have lb : c.length + 1 ≤ 48240 := by
    have h1 := k.1
    have h2 := Nat.mul_le_mul (show 2 * (n + 1) ≤ 402 by omega) mb
    omega
  have kd := k.2 (am, fitA A) (Nat.le_refl _) (fun _ _ _ _ => Iff.rfl)
  refine e_X11_findPositions ?_
  have f : fr [55] A (iz_pI A 55 (uz (A.1 55) 55 0)) := fr_pI (fr_mo (fr_rf A) (by decide)) (by decide)
  have g : ff [55] (A.1 55) ((iz_pI A 55 (uz (A.1 55) 55 0)).1 55) := ff_uz (ff_eq rfl) (by decide)
  have p0 : (iz_pI A 55 (uz (A.1 55) 55 0)).1 55 55 = ((0 : Nat) : Int) := rfl
  have m' := mk_k m f (by decide) g (by decide)
  generalize iz_pI A 55 (uz (A.1 55) 55 0) = B at *
  have mc : B.1 55 48 = (c.length : Int) := by
    have := m'.1
    rw [show min c.length 59990 = c.length by omega] at this
    exact this
  refine kd.2 dd 0 0 0 c.length B _ (fun i hi => ?_) mc (by omega) (by omega) p0 (by omega) (by omega) (fun C fC gC qC bC geC => ?_)
  · rw [Nat.zero_add]
    exact m'.2 i hi (by omega)
  · rw [Nat.zero_add] at qC geC
    refine w_X11_findPositions_9 ⟨fun _ => ⟨rfl, hP C (fr_mo (fr_tr f fC) (by decide)) (ff_tr g gC) qC geC⟩, fun w => ?_⟩
    have : C.1 55 48 = (c.length : Int) := (gC 48 (by decide)).trans mc
    omega
