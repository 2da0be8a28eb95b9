theorem sM_quant {N : Nat} {t s : Nat → Int} {mk : Int} {n dd d b k zp za am : Nat} {D Cp Ra : Rel} {L0 : List Int} {A : iz_A} {P : iz_A → Prop} (hmk : mk = 0 ∨ mk = 1) (hd : d ≤ 20) (hs : SgM s n A) (hq : Qm n k (-1) A) (hk : qs s n k) (hH : HP N t mk d b k zp za D Cp Ra L0 am A) (ga : GA am k A) (hP : PrE (grp s n k) (fun e => ∀ C, fr [55, 77, 79, 81, 83] A C → ff [37, 38, 45, 46, 48, 53] (A.1 55) (C.1 55) → C.1 55 37 = (e : Int) → P C) (fun k2 ab => ∀ C, fr [55, 77, 79, 81, 83] A C → ff [37, 38, 45, 46, 48, 53] (A.1 55) (C.1 55) → Qm n k2 (-1) C → GA am k2 C → Lo d A C → HC N t mk d b k2 (zp + za * cps ab.1 ab.2) D (fun p q => ∃ r, Cp p r ∧ pwR Ra ab.1 ab.2 r q) L0 am C → P C)) : Cv (dd + 4) 219 [.inr (.inl 55), .inl (s k), .inl (d : Int), .inl mk] A P := by
  have nb := hs.1
  have hb : b ≤ k := by
    obtain ⟨p1, p0, jp, p2, p3, -⟩ := hH
    omega
  -- the end, all told
  have ok : ∀ B (x y : Int) (k2 : Nat), grp s n k = .inr (k2, x, y) → k < k2 → (0 ≤ x ∧ x ≤ 99) → (-1 ≤ y ∧ y ≤ 99) → (y = -1 ∨ x ≤ y) → fr [55] A B → ff [37, 38, 45, 46] (A.1 55) (B.1 55) → Qm n k2 (-1) B → Rn (dd + 3) mX11_quantify (fun v A' => v = none ∧ P A') 95 [some (.inr (.inl 55)), some (.inl (s k)), some (.inl ((d : Int))), some (.inl mk), some (.inl x), some (.inl y), some (.inl ((cps x y : Int))), none, none] [] B := fun B x y k2 e kk hx hy hab f g q => by
    rw [e] at hP
    refine sM_qR hmk hd (by have := hk.1; omega) hH f g ga hx hy (fun C fC gC lC c53 c79 sC mC => ?_)
    refine hP C (fr_mo (fr_tr f fC) (by decide)) (ff_tr (ff_mo g (by decide)) (ff_mo gC (by decide))) (qm_k q gC (by decide)) ⟨c53, ?_, ?_, ?_⟩ (lo_tr (lo_k f (by decide)) lC (Nat.le_refl _)) ⟨c79, sz_mo sC (by omega), fun e1 => ?_⟩
    · exact (gC 50 (by decide)).trans ((g 50 (by decide)).trans ga.2.1)
    · have := ga.2.2.1; omega
    · obtain ⟨cm, h4, h5, h6⟩ := ga.2.2.2
      refine ⟨cm, (gC 52 (by decide)).trans ((g 52 (by decide)).trans h4), (by omega), ?_⟩
      unfold AtR
      rw [fC.1 84 (by decide), f.1 84 (by decide)]
      exact h6
    · obtain ⟨M, m1, m2⟩ := mC e1
      exact ⟨M, m1, lvG_k (m2 hab) (fx_rf _ _) (Nat.le_refl _) (by omega) rfl rfl (fun _ _ => Iff.rfl) (fun _ _ => Iff.rfl)⟩
  have adv : fr [55] A (iz_pI A 55 (uz (A.1 55) 38 ((k : Int) + 1))) ∧ ff [37, 38, 45, 46] (A.1 55) ((iz_pI A 55 (uz (A.1 55) 38 ((k : Int) + 1))).1 55) ∧ Qm n ((k + 1 : Nat) : Int) (-1) (iz_pI A 55 (uz (A.1 55) 38 ((k : Int) + 1))) := ⟨fr_pI (fr_mo (fr_rf A) (by decide)) (by decide), ff_uz (ff_eq rfl) (by decide), hq.1, (show (k : Int) + 1 = ((k + 1 : Nat) : Int) by omega), hq.2.2⟩
  -- one sign
  have one : ∀ x y : Int, ¬ s k = 123 → grp s n k = .inr (k + 1, x, y) → (0 ≤ x ∧ x ≤ 99) → (-1 ≤ y ∧ y ≤ 99) → (y = -1 ∨ x ≤ y) → cps x y = 1 → Rn (dd + 3) mX11_quantify (fun v A' => v = none ∧ P A') 26 [some (.inr (.inl 55)), some (.inl (s k)), some (.inl ((d : Int))), some (.inl mk), some (.inl x), some (.inl y), none, none, none] [] A := fun x y hn e hx hy hab ec => by
    refine w_X11_quantify_26 ⟨fun _ => ?_, fun z => absurd z hn⟩
    rw [hq.2.1]
    refine ⟨by have := hk.1; exact inR_b (by omega) (by omega), w_X11_quantify_61 ⟨fun z => absurd z hn, fun _ => ?_⟩⟩
    have := ok _ x y (k + 1) e (Nat.lt_succ_self k) hx hy hab adv.1 adv.2.1 adv.2.2
    rw [ec] at this
    exact this
  have brc : s k = 123 → ∀ x y : Int, Rn (dd + 3) mX11_quantify (fun v A' => v = none ∧ P A') 26 [some (.inr (.inl 55)), some (.inl (s k)), some (.inl ((d : Int))), some (.inl mk), some (.inl x), some (.inl y), none, none, none] [] A := fun h123 x y => by
    have eg : grp s n k = gns s n k := by
      unfold grp
      rw [if_pos hk.1, if_neg (by omega), if_neg (by omega), if_neg (by omega), if_pos h123]
    have r61 : ∀ B (x y : Int), (0 ≤ x ∧ x ≤ 99) → (-1 ≤ y ∧ y ≤ 99) → Rn (dd + 3) mX11_quantify (fun v A' => v = none ∧ P A') 95 [some (.inr (.inl 55)), some (.inl (s k)), some (.inl ((d : Int))), some (.inl mk), some (.inl x), some (.inl y), some (.inl ((cps x y : Int))), none, none] [] B → Rn (dd + 3) mX11_quantify (fun v A' => v = none ∧ P A') 61 [some (.inr (.inl 55)), some (.inl (s k)), some (.inl ((d : Int))), some (.inl mk), some (.inl x), some (.inl y), none, none, none] [] B := fun B x y hx hy h => by
      have e := (cps_ok hx hy).2
      refine w_X11_quantify_61 ⟨fun _ => ⟨fun z => ?_, fun z => ⟨fun z2 => ?_, fun z2 => ?_⟩⟩, fun z => absurd h123 z⟩
      · rw [if_neg (by omega)] at e
        rw [← e] at h
        exact h
      · rw [if_pos (by omega), if_neg (by omega)] at e
        rw [← e] at h
        exact h
      · rw [if_pos (by omega), if_pos (by omega)] at e
        rw [← e] at h
        exact h
    refine w_X11_quantify_26 ⟨fun z => absurd h123 z, fun _ => ?_⟩
    rw [eg] at hP
    refine sM_braces hs hq hk.1 (PrE_mono hP (fun e e1 h B j' f g q jb hx hy => ?_) (fun k2 ab e1 h B f g q ex ey => ?_))
    · refine r61 B _ _ hx hy (sM_qR hmk hd (by have := hk.1; omega) hH f g ga hx hy (fun C fC gC lC c53 c79 sC mC => ?_))
      refine h C (fr_mo (fr_tr f fC) (by decide)) (ff_tr (ff_mo g (by decide)) (ff_mo gC (by decide))) ?_
      rw [gC 37 (by decide)]
      exact q.2.2
    · have o1 := gns_ok e1
      rw [ex, ey]
      exact r61 B _ _ o1.2.2.1 o1.2.2.2.1 (ok B ab.1 ab.2 k2 (eg.trans e1) o1.1 o1.2.2.1 o1.2.2.2.1 o1.2.2.2.2 f g q)
  have g42 : s k = 42 → grp s n k = .inr (k + 1, 0, -1) := fun e => by
    unfold grp
    rw [if_pos hk.1, if_pos e]
  have g43 : s k = 43 → grp s n k = .inr (k + 1, 1, -1) := fun e => by
    unfold grp
    rw [if_pos hk.1, if_neg (by omega), if_pos e]
  have g63 : s k = 63 → grp s n k = .inr (k + 1, 0, 1) := fun e => by
    unfold grp
    rw [if_pos hk.1, if_neg (by omega), if_neg (by omega), if_pos e]
  refine e_X11_quantify ⟨fun z => w_X11_quantify_13 ⟨fun z2 => ?_, fun z2 => ?_⟩, fun z => w_X11_quantify_13 ⟨fun z2 => ?_, fun z2 => ?_⟩⟩
  · by_cases c : s k = 123
    · exact brc c _ _
    · have e : s k = 42 := by
        have := hk.2
        omega
      exact one 0 (-1) c (g42 e) (by decide) (by decide) (Or.inl rfl) rfl
  · exact one 0 1 (by omega) (g63 z2) (by decide) (by decide) (Or.inr (by decide)) rfl
  · exact one 1 (-1) (by omega) (g43 z) (by decide) (by decide) (Or.inl rfl) rfl
  · omega
