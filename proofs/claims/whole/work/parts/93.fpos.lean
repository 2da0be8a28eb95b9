/-! ===== the reference finds the places of a query ===== -/
def okf (N : Nat) (t : Nat → Int) (ft : Nat × (Nat → Int → Prop)) (A : iz_A) (x p : Nat) : Prop := p < N ∧ 0 ≤ t p ∧ ft.2 (A.1 87 x).toNat (t p)
def fG (A : iz_A) (x y : Nat) : Prop := b2 (A.2 88 x) (A.2 89 x) y
def GE (N : Nat) (t : Nat → Int) (ft : Nat × (Nat → Int → Prop)) (h lo hi : Nat) (R : Rel) (C : iz_A) : Prop := (C.1 90 h = 0 ∨ C.1 90 h = 1) ∧ (∀ x, lo ≤ x → x < hi → 0 ≤ C.1 87 x ∧ C.1 87 x < (ft.1 : Int)) ∧ Gl (okf N t ft C) lo hi (C.1 90 h = 1) (b2 (C.2 91 h) (C.2 92 h)) (b2 (C.2 93 h) (C.2 94 h)) (fG C) R
/-- what is below place h of the stack, and places below ps, stays -/
def Blw (h ps : Nat) (A C : iz_A) : Prop := (∀ i, i < h → C.1 90 i = A.1 90 i ∧ C.2 91 i = A.2 91 i ∧ C.2 92 i = A.2 92 i ∧ C.2 93 i = A.2 93 i ∧ C.2 94 i = A.2 94 i) ∧ ∀ x, x < ps → C.1 87 x = A.1 87 x ∧ C.2 88 x = A.2 88 x ∧ C.2 89 x = A.2 89 x
theorem blw_tr {h h' ps ps' : Nat} {A B C : iz_A} (a : Blw h ps A B) (b : Blw h' ps' B C) (hh : h ≤ h') (hp : ps ≤ ps') : Blw h ps A C := by
  refine ⟨fun i hi => ?_, fun x hx => ?_⟩
  · have a := a.1 i hi
    have b := b.1 i (by omega)
    exact ⟨b.1.trans a.1, b.2.1.trans a.2.1, b.2.2.1.trans a.2.2.1, b.2.2.2.1.trans a.2.2.2.1, b.2.2.2.2.trans a.2.2.2.2⟩
  · have a := a.2 x hx
    have b := b.2 x (by omega)
    exact ⟨b.1.trans a.1, b.2.1.trans a.2.1, b.2.2.trans a.2.2⟩
theorem blw_w {h h' ps ps' : Nat} {A C : iz_A} (a : Blw h' ps' A C) (hh : h ≤ h') (hp : ps ≤ ps') : Blw h ps A C := ⟨fun i hi => a.1 i (by omega), fun x hx => a.2 x (by omega)⟩
theorem ge_k {N : Nat} {t : Nat → Int} {ft : Nat × (Nat → Int → Prop)} {h lo hi h' ps : Nat} {R : Rel} {A C : iz_A} (g : GE N t ft h lo hi R A) (b : Blw h' ps A C) (hh : h < h') (hp : hi ≤ ps) : GE N t ft h lo hi R C := by
  obtain ⟨g1, g2, g3⟩ := g
  have b1 := b.1 h hh
  refine ⟨by rw [b1.1]; exact g1, fun x u v => by rw [(b.2 x (by omega)).1]; exact g2 x u v, ?_⟩
  rw [b1.1, b1.2.1, b1.2.2.1, b1.2.2.2.1, b1.2.2.2.2]
  refine gl_cong g3 Iff.rfl (fun _ => Iff.rfl) (fun _ => Iff.rfl) (fun x p u v => ?_) (fun x y u v => ?_) (fun _ _ => Iff.rfl)
  · unfold okf
    rw [(b.2 x (by omega)).1]
  · unfold fG
    rw [(b.2 x (by omega)).2.1, (b.2 x (by omega)).2.2]
/-- a piece of what was made, as the walk over it understands it -/
def Kd (N : Nat) (t : Nat → Int) (ft : Nat × (Nat → Int → Prop)) (c : List Int) (z D : Nat) (R : Rel) : Prop := 1 ≤ D ∧ ∀ (d k h ps mk : Nat) (A : iz_A) (Q : iz_Q), (∀ i, i < c.length → A.1 83 (k + i) = c.getD i 0) → A.1 55 48 = (mk : Int) → k + c.length ≤ mk → mk ≤ 59990 → A.1 55 55 = (ps : Int) → ps + z ≤ 120 → h + D ≤ 400 → (∀ C, fr [55, 87, 88, 89, 90, 91, 92, 93, 94] A C → ff [55] (A.1 55) (C.1 55) → C.1 55 55 = ((ps + z : Nat) : Int) → Blw h ps A C → GE N t ft h ps (ps + z) R C → Rn (d + 1) mX11_findPositions Q 9 [some (.inr (.inl 55)), some (.inl (((h + 1 : Nat) : Int))), some (.inl (((k + c.length : Nat) : Int))), none, none, none, none] [] C) → Rn (d + 1) mX11_findPositions Q 9 [some (.inr (.inl 55)), some (.inl ((h : Int))), some (.inl ((k : Int))), none, none, none, none] [] A
theorem kd_mono {N : Nat} {t : Nat → Int} {ft : Nat × (Nat → Int → Prop)} {c : List Int} {z D D' : Nat} {R R' : Rel} (h : Kd N t ft c z D R) (hD : D ≤ D') (hR : ∀ p q, R p q ↔ R' p q) : Kd N t ft c z D' R' := by
  refine ⟨Nat.le_trans h.1 hD, ?_⟩
  intro d k hh ps mk A Q a1 a2 a3 a4 a5 a6 a7 hP
  exact h.2 d k hh ps mk A Q a1 a2 a3 a4 a5 a6 (by omega) (fun C f g q b ge => hP C f g q b ⟨ge.1, ge.2.1, gl_cong ge.2.2 Iff.rfl (fun _ => Iff.rfl) (fun _ => Iff.rfl) (fun _ _ _ _ => Iff.rfl) (fun _ _ _ _ => Iff.rfl) hR⟩)
/-- the last steps of each round -/
theorem fp_584 {d k : Nat} {v1 v3 : Int} {v4 : Int} {A : iz_A} {Q : iz_Q} (hk : k < 60000) (h : Rn d mX11_findPositions Q 9 [some (.inr (.inl 55)), some (.inl v1), some (.inl (((k + 1 : Nat) : Int))), none, none, none, none] [] A) : Rn d mX11_findPositions Q 584 [some (.inr (.inl 55)), some (.inl v1), some (.inl ((k : Int))), some (.inl v3), some (.inl v4), none, none] [] A := by
  refine w_X11_findPositions_584 ⟨inR_b (by omega) (by omega), ?_⟩
  rw [show (k : Int) + 1 = ((k + 1 : Nat) : Int) by omega]
  exact h
theorem fp_push {d k h ps mk : Nat} {A : iz_A} {Q : iz_Q} {w : Int} (hw : A.1 83 k = w) (hw2 : w = -6 ∨ (0 ≤ w ∧ w < 200)) (hmk : A.1 55 48 = (mk : Int)) (hk : k < mk) (hm : mk ≤ 59990) (hps : A.1 55 55 = (ps : Int)) (hp : ps < 120 ∨ (w = -6 ∧ ps ≤ 120)) (hh : h < 400) (hP : ∀ C, fr [55, 87, 88, 89, 90, 91, 92, 93, 94] A C → ff [55] (A.1 55) (C.1 55) → Blw h ps A C → (∀ x, b2 (C.2 91 h) (C.2 92 h) x ↔ (¬ w = -6 ∧ x = ps)) → (∀ x, b2 (C.2 93 h) (C.2 94 h) x ↔ (¬ w = -6 ∧ x = ps)) → ((w = -6 ∧ C.1 90 h = 1 ∧ C.1 55 55 = (ps : Int)) ∨ (¬ w = -6 ∧ C.1 90 h = 0 ∧ C.1 55 55 = ((ps + 1 : Nat) : Int) ∧ C.1 87 ps = w ∧ ∀ y, ¬ fG C ps y)) → Rn d mX11_findPositions Q 9 [some (.inr (.inl 55)), some (.inl (((h + 1 : Nat) : Int))), some (.inl (((k + 1 : Nat) : Int))), none, none, none, none] [] C) : Rn d mX11_findPositions Q 9 [some (.inr (.inl 55)), some (.inl ((h : Int))), some (.inl ((k : Int))), none, none, none, none] [] A := by
  have go : Rn d mX11_findPositions Q 34 [some (.inr (.inl 55)), some (.inl ((h : Int))), some (.inl ((k : Int))), some (.inl w), none, none, none] [] A := by
    rcases hw2 with rfl | hw2
    · refine w_X11_findPositions_34 ⟨fun z => absurd rfl z, fun _ => ⟨⟨by omega, by omega⟩, Or.inr rfl, ?_⟩⟩
      rw [tn]
      have fin : ∀ v4 : Int, (v4 = 0 ∨ v4 = 1) → Rn d mX11_findPositions Q 67 [some (.inr (.inl 55)), some (.inl ((h : Int))), some (.inl ((k : Int))), some (.inl (-6)), some (.inl v4), none, none] [] (iz_pI A 90 (uz (A.1 90) h 1)) := fun v4 h4 => by
        refine w_X11_findPositions_67 ⟨fun z => absurd rfl z, fun _ => ?_⟩
        have last : ∀ B, fr [90, 91, 92] A B → (∀ i, i ≠ h → B.1 90 i = A.1 90 i ∧ B.2 91 i = A.2 91 i ∧ B.2 92 i = A.2 92 i) → B.2 91 h = 0 → B.2 92 h = 0 → B.1 90 h = 1 → Rn d mX11_findPositions Q 122 [some (.inr (.inl 55)), some (.inl ((h : Int))), some (.inl ((k : Int))), some (.inl (-6)), some (.inl v4), some (.inr (.inr 0)), none] [] B := fun B f b b91 b92 b90 => by
          refine w_X11_findPositions_122 ⟨⟨by omega, by omega⟩, ⟨by omega, by omega⟩, ⟨by omega, by omega⟩, ⟨by omega, by omega⟩, fun _ => w_X11_findPositions_190 ⟨inR_b (by omega) (by omega), ?_⟩, fun z => absurd (by decide) z⟩
          rw [show (h : Int) + 1 = ((h + 1 : Nat) : Int) by omega, tn]
          refine fp_584 (by omega) (hP _ (fr_mo (fr_pL (fr_pL (fr_mo f (l' := [90, 91, 92, 93, 94]) (by decide)) (by decide)) (by decide)) (by decide)) (ff_eq (f.1 55 (by decide))) ⟨fun i hi => ?_, fun x hx => ?_⟩ (fun x => ?_) (fun x => ?_) (Or.inl ⟨rfl, b90, ?_⟩))
          · have b := b i (by omega)
            refine ⟨b.1, b.2.1, b.2.2, ?_, ?_⟩
            · show vp_updL (B.2 93) h _ i = _
              rw [up_ne _ _ (by omega), f.2 93 (by decide)]
            · show vp_updL (B.2 94) h _ i = _
              rw [up_ne _ _ (by omega), f.2 94 (by decide)]
          · show B.1 87 x = _ ∧ B.2 88 x = _ ∧ B.2 89 x = _
            rw [f.1 87 (by decide), f.2 88 (by decide), f.2 89 (by decide)]
            exact ⟨rfl, rfl, rfl⟩
          · show b2 (B.2 91 h) (B.2 92 h) x ↔ _
            rw [b91, b92]
            exact ⟨fun z => absurd z (b2_0 x), fun z => absurd rfl z.1⟩
          · show b2 (vp_updL (B.2 93) h (B.2 91 h) h) (vp_updL (B.2 94) h (B.2 92 h) h) x ↔ _
            rw [up_at, up_at, b91, b92]
            exact ⟨fun z => absurd z (b2_0 x), fun z => absurd rfl z.1⟩
          · show B.1 55 55 = _
            rw [f.1 55 (by decide)]; exact hps
        rcases h4 with rfl | rfl
        · refine w_X11_findPositions_88 ⟨fun _ => ⟨⟨by omega, by omega⟩, ?_⟩, fun z => absurd rfl z⟩
          refine w_X11_findPositions_105 ⟨fun _ => ⟨⟨by omega, by omega⟩, ?_⟩, fun z => absurd rfl z⟩
          rw [tn]
          refine last _ (fr_pL (fr_pL (fr_pI (fr_mo (fr_rf A) (by decide)) (by decide)) (by decide)) (by decide)) (fun i hi => ⟨uz_ne _ _ hi, up_ne _ _ hi, up_ne _ _ hi⟩) (up_at _ _ _) (up_at _ _ _) (uz_at _ _ _)
        · refine w_X11_findPositions_88 ⟨fun z => absurd z (by decide), fun _ => ⟨⟨by omega, by omega⟩, ?_⟩⟩
          refine w_X11_findPositions_105 ⟨fun z => absurd z (by decide), fun _ => ⟨⟨by omega, by omega⟩, ?_⟩⟩
          rw [tn]
          refine last _ (fr_pL (fr_pL (fr_pI (fr_mo (fr_rf A) (by decide)) (by decide)) (by decide)) (by decide)) (fun i hi => ⟨uz_ne _ _ hi, up_ne _ _ hi, up_ne _ _ hi⟩) (up_at _ _ _) (up_at _ _ _) (uz_at _ _ _)
      exact w_X11_findPositions_51 ⟨fun _ => fin 0 (Or.inl rfl), fun _ => fin 1 (Or.inr rfl)⟩
    · have wn : ¬ w = -6 := (by omega)
      have hp : ps < 120 := (by omega)
      refine w_X11_findPositions_34 ⟨fun _ => ⟨⟨by omega, by omega⟩, Or.inl rfl, ?_⟩, fun z => absurd z wn⟩
      rw [tn]
      have a55 : (iz_pI A 90 (uz (A.1 90) h 0)).1 55 55 = (ps : Int) := hps
      have fin : ∀ v4 : Int, ((v4 = 0 ∧ 64 ≤ ps) ∨ (v4 = 1 ∧ ps < 64)) → Rn d mX11_findPositions Q 67 [some (.inr (.inl 55)), some (.inl ((h : Int))), some (.inl ((k : Int))), some (.inl w), some (.inl v4), none, none] [] (iz_pI A 90 (uz (A.1 90) h 0)) := fun v4 h4 => by
        refine w_X11_findPositions_67 ⟨fun _ => ⟨by decide, ?_⟩, fun z => absurd z wn⟩
        have im : iv ((iv (ps : Int) - iv (ps : Int) / iv 64 * iv 64).toInt) = iv ((ps % 64 : Nat) : Int) := iv_mod ⟨ps, (by omega)⟩
        rw [a55, im]
        have last : ∀ B (bt : Int64), fr [90, 91, 92] A B → (∀ i, i ≠ h → B.1 90 i = A.1 90 i ∧ B.2 91 i = A.2 91 i ∧ B.2 92 i = A.2 92 i) → (∀ x, b2 (B.2 91 h) (B.2 92 h) x ↔ x = ps) → B.1 90 h = 0 → Rn d mX11_findPositions Q 122 [some (.inr (.inl 55)), some (.inl ((h : Int))), some (.inl ((k : Int))), some (.inl w), some (.inl v4), some (.inr (.inr bt)), none] [] B := fun B bt f b b91 b90 => by
          have b55 : B.1 55 55 = (ps : Int) := by rw [f.1 55 (by decide)]; exact hps
          refine w_X11_findPositions_122 ⟨⟨by omega, by omega⟩, ⟨by omega, by omega⟩, ⟨by omega, by omega⟩, ⟨by omega, by omega⟩, fun z => by omega, fun _ => ⟨⟨by omega, by omega⟩, ⟨by omega, by omega⟩, ⟨by omega, by omega⟩, inR_b (by omega) (by omega), w_X11_findPositions_190 ⟨inR_b (by omega) (by omega), ?_⟩⟩⟩
          rw [show (h : Int) + 1 = ((h + 1 : Nat) : Int) by omega, tn, b55, tn]
          refine fp_584 (by omega) (hP _ (fr_pI (fr_pL (fr_pL (fr_pI (fr_pL (fr_pL (fr_mo f (by decide)) (by decide)) (by decide)) (by decide)) (by decide)) (by decide)) (by decide)) (ff_uz (ff_eq (f.1 55 (by decide))) (by decide)) ⟨fun i hi => ?_, fun x hx => ?_⟩ (fun x => ?_) (fun x => ?_) (Or.inr ⟨wn, b90, (show (ps : Int) + 1 = ((ps + 1 : Nat) : Int) by omega), uz_at _ _ _, fun y => ?_⟩))
          · have b := b i (by omega)
            refine ⟨b.1, b.2.1, b.2.2, ?_, ?_⟩
            · show vp_updL (B.2 93) h _ i = _
              rw [up_ne _ _ (by omega), f.2 93 (by decide)]
            · show vp_updL (B.2 94) h _ i = _
              rw [up_ne _ _ (by omega), f.2 94 (by decide)]
          · show uz (B.1 87) ps w x = _ ∧ vp_updL (B.2 88) ps 0 x = _ ∧ vp_updL (B.2 89) ps 0 x = _
            rw [uz_ne _ _ (by omega), up_ne _ _ (by omega), up_ne _ _ (by omega), f.1 87 (by decide), f.2 88 (by decide), f.2 89 (by decide)]
            exact ⟨rfl, rfl, rfl⟩
          · show b2 (B.2 91 h) (B.2 92 h) x ↔ _
            rw [b91 x]
            exact ⟨fun z => ⟨wn, z⟩, fun z => z.2⟩
          · show b2 (vp_updL (B.2 93) h (B.2 91 h) h) (vp_updL (B.2 94) h (B.2 92 h) h) x ↔ _
            rw [up_at, up_at, b91 x]
            exact ⟨fun z => ⟨wn, z⟩, fun z => z.2⟩
          · show ¬ b2 (vp_updL (B.2 88) ps 0 ps) (vp_updL (B.2 89) ps 0 ps) y
            rw [up_at, up_at]
            exact b2_0 y
        rcases h4 with ⟨rfl, h4⟩ | ⟨rfl, h4⟩
        · refine w_X11_findPositions_88 ⟨fun _ => ⟨⟨by omega, by omega⟩, ?_⟩, fun z => absurd rfl z⟩
          refine w_X11_findPositions_105 ⟨fun _ => ⟨⟨by omega, by omega⟩, ?_⟩, fun z => absurd rfl z⟩
          rw [tn]
          refine last _ _ (fr_pL (fr_pL (fr_pI (fr_mo (fr_rf A) (by decide)) (by decide)) (by decide)) (by decide)) (fun i hi => ⟨uz_ne _ _ hi, up_ne _ _ hi, up_ne _ _ hi⟩) (fun x => ?_) (uz_at _ _ _)
          show b2 (vp_updL _ h _ h) (vp_updL _ h _ h) x ↔ _
          rw [up_at, up_at, b2_one' (Nat.mod_lt _ (by decide))]
          omega
        · refine w_X11_findPositions_88 ⟨fun z => absurd z (by decide), fun _ => ⟨⟨by omega, by omega⟩, ?_⟩⟩
          refine w_X11_findPositions_105 ⟨fun z => absurd z (by decide), fun _ => ⟨⟨by omega, by omega⟩, ?_⟩⟩
          rw [tn]
          refine last _ _ (fr_pL (fr_pL (fr_pI (fr_mo (fr_rf A) (by decide)) (by decide)) (by decide)) (by decide)) (fun i hi => ⟨uz_ne _ _ hi, up_ne _ _ hi, up_ne _ _ hi⟩) (fun x => ?_) (uz_at _ _ _)
          show b2 (vp_updL _ h _ h) (vp_updL _ h _ h) x ↔ _
          rw [up_at, up_at, b2_one (Nat.mod_lt _ (by decide))]
          omega
      refine w_X11_findPositions_51 ⟨fun z => fin 0 (Or.inl ⟨rfl, ?_⟩), fun z => fin 1 (Or.inr ⟨rfl, ?_⟩)⟩
      · rw [a55] at z; omega
      · rw [a55] at z; omega
  refine w_X11_findPositions_9 ⟨fun z => by omega, fun _ => ⟨⟨by omega, by omega⟩, ?_, ?_⟩⟩
  · rw [tn, hw]
    exact fun _ => go
  · rw [tn, hw]
    exact fun z => ⟨fun z2 => by omega, fun _ => go⟩
