set_option maxHeartbeats 1600000 in
theorem gO {N : Nat} {t s : Nat → Int} {mk : Int} {n dd : Nat} {P : iz_A → Prop} (htb : ∀ p, p < N → 0 ≤ t p → t p < 256) (hmk : mk = 0 ∨ mk = 1) : ∀ m d, d ≤ 20 → ∀ (b j z : Nat) (D K : Rel) (L0 : List Int) (am : Nat) (A : iz_A), SgM s n A → Qm n j (-1) A → j ≤ n → n < j + m → b ≤ j → GA am j A → Hd N t s n mk d b j z D K L0 am A → PrE (psm N t s n m d j z D K) (fun e => ∀ E, fr [55, 77, 78, 79, 80, 81, 82, 83, 84, 85, 86] A E → ff [37, 38, 45, 46, 48, 50, 52, 53] (A.1 55) (E.1 55) → E.1 55 37 = (e : Int) → P E) (fun k zR => ∀ E (am' : Nat) (D' K' : Rel), fr [55, 77, 78, 79, 80, 81, 82, 83, 84, 85, 86] A E → ff [37, 38, 45, 46, 48, 50, 52, 53] (A.1 55) (E.1 55) → Qm n k (-1) E → GA am' k E → am ≤ am' → Lo d A E → Fx am A E → (∀ p q, zR.2 p q ↔ D' p q ∨ K' p q) → Hd N t s n mk d b k zR.1 D' K' L0 am' E → Rn (dd + 4) mX11_goOver (fun v A' => v = none ∧ P A') 37 [some (.inr (.inl 55)), some (.inl mk), some (.inl ((d : Int))), none, none] [] E) → Rn (dd + 4) mX11_goOver (fun v A' => v = none ∧ P A') 37 [some (.inr (.inl 55)), some (.inl mk), some (.inl ((d : Int))), none, none] [] A := by
  intro m
  induction m with
  | zero => intro d hd b j z D K L0 am A h1 h2 h3 h4; omega
  | succ m ih =>
    intro d hd b j z D K L0 am A hsA hq hj hm hb ga hH hP
    have nb := hsA.1
    have hs2 := fun i hi => (hsA.2 i hi).2
    unfold psm at hP
    by_cases hc : j < n ∧ s j ≠ 41
    · rw [if_pos hc] at hP
      have w37 : ∀ {E : iz_A} {k : Nat}, Qm n k (-1) E → ¬ (0 : Int) ≤ E.1 55 37 := fun q => by rw [q.2.2]; decide
      -- an atom that may be repeated
      have after : ∀ (E : iz_A) (k za am' : Nat) (Ra : Rel), j < k → k ≤ n → fr [55, 77, 78, 79, 80, 81, 82, 83, 84, 85, 86] A E → ff [37, 38, 45, 46, 48, 50, 52, 53] (A.1 55) (E.1 55) → Qm n k (-1) E → GA am' k E → am ≤ am' → Lo d A E → Fx am A E → HP N t mk d b k z za D K Ra L0 am' E → PrE (bnd (grp s n k) fun k2 ab => (.inr (k2, za * cps ab.1 ab.2, pwR Ra ab.1 ab.2) : Pr (Nat × Rel))) (fun e => ∀ E, fr [55, 77, 78, 79, 80, 81, 82, 83, 84, 85, 86] A E → ff [37, 38, 45, 46, 48, 50, 52, 53] (A.1 55) (E.1 55) → E.1 55 37 = (e : Int) → P E) (fun k zR => PrE (psm N t s n m d k (z + zR.1) D (fun p q => ∃ r, K p r ∧ zR.2 r q)) (fun e => ∀ E, fr [55, 77, 78, 79, 80, 81, 82, 83, 84, 85, 86] A E → ff [37, 38, 45, 46, 48, 50, 52, 53] (A.1 55) (E.1 55) → E.1 55 37 = (e : Int) → P E) (fun k zR => ∀ E (am' : Nat) (D' K' : Rel), fr [55, 77, 78, 79, 80, 81, 82, 83, 84, 85, 86] A E → ff [37, 38, 45, 46, 48, 50, 52, 53] (A.1 55) (E.1 55) → Qm n k (-1) E → GA am' k E → am ≤ am' → Lo d A E → Fx am A E → (∀ p q, zR.2 p q ↔ D' p q ∨ K' p q) → Hd N t s n mk d b k zR.1 D' K' L0 am' E → Rn (dd + 4) mX11_goOver (fun v A' => v = none ∧ P A') 37 [some (.inr (.inl 55)), some (.inl mk), some (.inl ((d : Int))), none, none] [] E)) → Rn (dd + 4) mX11_goOver (fun v A' => v = none ∧ P A') 37 [some (.inr (.inl 55)), some (.inl mk), some (.inl ((d : Int))), none, none] [] E := by
        intro E k za am' Ra jk kn fE gE qE gaE ha lE xE hE hR
        have hR := PrE_bnd.1 hR
        have hsE := sgM_k hsA fE (by decide)
        have goOn : ∀ (F : iz_A) (k2 : Nat) (z2 : Nat) (K2 : Rel), k ≤ k2 → k2 ≤ n → fr [55, 77, 78, 79, 80, 81, 82, 83, 84, 85, 86] A F → ff [37, 38, 45, 46, 48, 50, 52, 53] (A.1 55) (F.1 55) → Qm n k2 (-1) F → GA am' k2 F → Lo d A F → Fx am A F → Hd N t s n mk d b k2 z2 D K2 L0 am' F → PrE (psm N t s n m d k2 z2 D K2) (fun e => ∀ E, fr [55, 77, 78, 79, 80, 81, 82, 83, 84, 85, 86] A E → ff [37, 38, 45, 46, 48, 50, 52, 53] (A.1 55) (E.1 55) → E.1 55 37 = (e : Int) → P E) (fun k zR => ∀ E (am' : Nat) (D' K' : Rel), fr [55, 77, 78, 79, 80, 81, 82, 83, 84, 85, 86] A E → ff [37, 38, 45, 46, 48, 50, 52, 53] (A.1 55) (E.1 55) → Qm n k (-1) E → GA am' k E → am ≤ am' → Lo d A E → Fx am A E → (∀ p q, zR.2 p q ↔ D' p q ∨ K' p q) → Hd N t s n mk d b k zR.1 D' K' L0 am' E → Rn (dd + 4) mX11_goOver (fun v A' => v = none ∧ P A') 37 [some (.inr (.inl 55)), some (.inl mk), some (.inl ((d : Int))), none, none] [] E) → Rn (dd + 4) mX11_goOver (fun v A' => v = none ∧ P A') 37 [some (.inr (.inl 55)), some (.inl mk), some (.inl ((d : Int))), none, none] [] F := fun F k2 z2 K2 k2k k2n fF gF qF gaF lF xF hF hp => by
          refine ih d hd b k2 z2 D K2 L0 am' F (sgM_k hsA fF (by decide)) qF k2n (by omega) (by omega) gaF hF (PrE_mono hp (fun e _ h G fG gG wG => h G (fr_mo (fr_tr fF fG) (by decide)) (ff_tr gF gG) wG) (fun k3 zR _ h G am2 D' K' fG gG qG gaG haG lG xG rG hG => h G am2 D' K' (fr_mo (fr_tr fF fG) (by decide)) (ff_tr gF gG) qG gaG (by omega) (lo_tr lF lG (Nat.le_refl _)) (fx_tr xF xG ha) rG hG))
        by_cases hk : qs s n k
        · have b79 : ¬ E.1 79 d = 0 := by rw [hE.1]; decide
          have step : Rn (dd + 4) mX11_goOver (fun v A' => v = none ∧ P A') 91 [some (.inr (.inl 55)), some (.inl mk), some (.inl ((d : Int))), some (.inl (s k)), some (.inl 1)] [] E := by
            refine w_X11_goOver_91 ⟨fun z => absurd z (by decide), fun _ => ?_⟩
            rw [tn]
            refine ⟨⟨by omega, by omega⟩, fun _ => sM_quant hmk hd hsE qE hk hE gaE (PrE_mono hR (fun e _ h F fF gF wF => gO_err wF (h F (fr_mo (fr_tr fE fF) (by decide)) (ff_tr gE (ff_mo gF (by decide))) wF)) (fun k2 ab e2 h F fF gF qF gaF lF hF => ?_)), fun z => absurd z b79⟩
            have gk := grp_ok kn e2
            exact goOn F k2 (z + za * cps ab.1 ab.2) _ gk.1 gk.2.1 (fr_mo (fr_tr fE fF) (by decide)) (ff_tr gE (ff_mo gF (by decide))) qF gaF (lo_tr lE lF (Nat.le_refl _)) (fx_tr xE (fx_k (am := am) fF (by decide) (by decide)) (Nat.le_refl _)) (Or.inl hF) h
          refine w_X11_goOver_37 ⟨fun z => absurd z (w37 qE), fun _ => ⟨fun z => ?_, fun _ => sM_sign hsE qE ?_⟩⟩
          · rw [qE.1, qE.2.1] at z
            have := hk.1
            omega
          · rw [if_pos hk.1]
            have h2 := hk.2
            exact ⟨fun _ => w_X11_goOver_84 step, fun _ => ⟨fun _ => w_X11_goOver_84 step, fun _ => ⟨fun _ => w_X11_goOver_84 step, fun _ => ⟨fun z => by omega, fun _ => w_X11_goOver_84 step⟩⟩⟩⟩
        · have eg : grp s n k = .inr (k, 1, 1) := by
            unfold grp
            by_cases ck : k < n
            · rw [if_pos ck, if_neg (fun e => hk ⟨ck, Or.inl e⟩), if_neg (fun e => hk ⟨ck, Or.inr (Or.inl e)⟩), if_neg (fun e => hk ⟨ck, Or.inr (Or.inr (Or.inl e))⟩), if_neg (fun e => hk ⟨ck, Or.inr (Or.inr (Or.inr e))⟩)]
            · rw [if_neg ck]
          rw [eg] at hR
          refine goOn E k _ _ (Nat.le_refl _) kn fE gE qE gaE lE xE (Or.inr ⟨hk, z, za, K, Ra, ?_, fun p q => ?_, hE⟩) hR
          · show z + za * cps 1 1 = z + za
            rw [show cps 1 1 = 1 from rfl, Nat.mul_one]
          · exact exists_congr fun r => and_congr Iff.rfl (pw_11 Ra r q)
      -- this sign
      have enter : (qs s n j → Rn (dd + 4) mX11_goOver (fun v A' => v = none ∧ P A') 91 [some (.inr (.inl 55)), some (.inl mk), some (.inl ((d : Int))), some (.inl (s j)), some (.inl 1)] [] A) → (¬ qs s n j → Rn (dd + 4) mX11_goOver (fun v A' => v = none ∧ P A') 91 [some (.inr (.inl 55)), some (.inl mk), some (.inl ((d : Int))), some (.inl (s j)), some (.inl 0)] [] A) → Rn (dd + 4) mX11_goOver (fun v A' => v = none ∧ P A') 37 [some (.inr (.inl 55)), some (.inl mk), some (.inl ((d : Int))), none, none] [] A := fun h1 h0 => by
        refine w_X11_goOver_37 ⟨fun z => absurd z (w37 hq), fun _ => ⟨fun z => ?_, fun _ => sM_sign hsA hq ?_⟩⟩
        · rw [hq.1, hq.2.1] at z
          omega
        · rw [if_pos hc.1]
          exact ⟨fun e => w_X11_goOver_84 (h1 ⟨hc.1, Or.inl e⟩), fun n1 => ⟨fun e => w_X11_goOver_84 (h1 ⟨hc.1, Or.inr (Or.inl e)⟩), fun n2 => ⟨fun e => w_X11_goOver_84 (h1 ⟨hc.1, Or.inr (Or.inr (Or.inl e))⟩), fun n3 => ⟨fun n4 => h0 (fun w => by have := w.2; omega), fun e => w_X11_goOver_84 (h1 ⟨hc.1, Or.inr (Or.inr (Or.inr e))⟩)⟩⟩⟩⟩
      refine enter (fun hqs => ?_) (fun hqs => ?_)
      · -- a repeat of nothing
        have h2 := hqs.2
        rw [if_neg (by omega)] at hP
        have hP := PrE_bnd.1 (PrE_bnd.1 hP)
        unfold pat at hP
        rw [if_neg (by omega), if_neg (by omega), if_neg (by omega), if_pos (by omega)] at hP
        have h79 : A.1 79 d = 0 := by
          rcases hH with h | h
          · exact h.1
          · exact absurd hqs h.1
        refine w_X11_goOver_91 ⟨fun z => absurd z (by decide), fun _ => ?_⟩
        rw [tn, hq.2.1]
        exact ⟨⟨by omega, by omega⟩, fun z => absurd h79 z, fun _ => sM_fail hq (fun E f g q => ⟨rfl, hP E (fr_mo f (by decide)) (ff_mo g (by decide)) q.2.2⟩)⟩
      · refine gO_end hmk hd (by omega) hb hH ga (fun B fB gB lB gaB hB => ?_)
        have fB' : fr [55, 77, 78, 79, 80, 81, 82, 83, 84, 85, 86] A B := fr_mo fB (by decide)
        have gB' : ff [37, 38, 45, 46, 48, 50, 52, 53] (A.1 55) (B.1 55) := ff_mo gB (by decide)
        have qB : Qm n j (-1) B := qm_k hq gB (by decide)
        have hsB := sgM_k hsA fB (by decide)
        have xB : Fx am A B := fx_k fB (by decide) (by decide)
        by_cases c124 : s j = 124
        · -- the next row
          rw [if_pos c124] at hP
          refine w_X11_goOver_143 ⟨fun _ => ⟨fun _ => ⟨fun z => absurd c124 z, fun _ => ?_⟩, fun z => by omega⟩, fun z => by omega⟩
          have fin : ∀ E, fr [55, 79, 81, 82, 83] B E → ff [48] (B.1 55) (E.1 55) → Lo d B E → HC N t mk d b (j + 1) z (fun p q => D p q ∨ K p q) (fun p q => p = q) L0 am E → Rn (dd + 4) mX11_goOver (fun v A' => v = none ∧ P A') 275 [some (.inr (.inl 55)), some (.inl mk), some (.inl ((d : Int))), some (.inl (s j)), some (.inl 0)] [] E := fun E fE gE lE hE => by
            have qE : Qm n j (-1) E := qm_k qB gE (by decide)
            refine w_X11_goOver_275 ?_
            rw [qE.2.1]
            refine ⟨inR_b (by omega) (by omega), w_X11_goOver_295 ?_⟩
            have f2 : fr [55] E (iz_pI E 55 (uz (E.1 55) 38 ((j : Int) + 1))) := fr_pI (fr_mo (fr_rf E) (by decide)) (by decide)
            have g2 : ff [38] (E.1 55) ((iz_pI E 55 (uz (E.1 55) 38 ((j : Int) + 1))).1 55) := ff_uz (ff_eq rfl) (by decide)
            have q2 : Qm n ((j + 1 : Nat) : Int) (-1) (iz_pI E 55 (uz (E.1 55) 38 ((j : Int) + 1))) := ⟨qE.1, (show (j : Int) + 1 = ((j + 1 : Nat) : Int) by omega), qE.2.2⟩
            generalize iz_pI E 55 (uz (E.1 55) 38 ((j : Int) + 1)) = F at *
            have fAF : fr [55, 77, 78, 79, 80, 81, 82, 83, 84, 85, 86] A F := fr_mo (fr_tr fB (fr_tr fE f2)) (by decide)
            have gAF : ff [37, 38, 45, 46, 48, 50, 52, 53] (A.1 55) (F.1 55) := ff_tr gB' (ff_tr (ff_mo gE (by decide)) (ff_mo g2 (by decide)))
            have lAF : Lo d A F := lo_tr lB (lo_tr lE (lo_k f2 (by decide)) (Nat.le_refl _)) (Nat.le_refl _)
            have xAF : Fx am A F := fx_tr xB (fx_tr (fx_k (am := am) fE (by decide) (by decide)) (fx_k (am := am) f2 (by decide) (by decide)) (Nat.le_refl _)) (Nat.le_refl _)
            have hF : HC N t mk d b (j + 1) z (fun p q => D p q ∨ K p q) (fun p q => p = q) L0 am F := by
              obtain ⟨u1, u2, u3⟩ := hE
              refine ⟨by rw [f2.1 79 (by decide)]; exact u1, by rw [f2.2 77 (by decide)]; exact u2, fun e => ?_⟩
              obtain ⟨M, m1, m2⟩ := u3 e
              exact ⟨M, mk_k m1 f2 (by decide) g2 (by decide), lvG_k m2 (fx_k f2 (by decide) (by decide)) (Nat.le_refl _) (Nat.le_refl _) (by rw [f2.1 81 (by decide)]) (by rw [f2.1 82 (by decide)]) (fun _ _ => Iff.rfl) (fun _ _ => Iff.rfl)⟩
            refine ih d hd b (j + 1) z _ _ L0 am F (sgM_k hsA fAF (by decide)) q2 (by omega) (by omega) (by omega) (ga_k (ga_k gaB fE (by decide) gE (by decide) (Nat.le_refl _)) f2 (by decide) g2 (by decide) (by omega)) (Or.inl hF) (PrE_mono hP (fun e _ h G fG gG wG => h G (fr_mo (fr_tr fAF fG) (by decide)) (ff_tr gAF gG) wG) (fun k3 zR _ h G am2 D' K' fG gG qG gaG haG lG xG rG hG => h G am2 D' K' (fr_mo (fr_tr fAF fG) (by decide)) (ff_tr gAF gG) qG gaG haG (lo_tr lAF lG (Nat.le_refl _)) (fx_tr xAF xG (Nat.le_refl _)) rG hG))
          refine ⟨fun z0 => fin B (fr_mo (fr_rf B) (by decide)) (ff_eq rfl) (lo_rf _ _) ⟨hB.1, sz_mo hB.2.1 (by omega), fun e => by omega⟩, fun z0 => ?_⟩
          have e1 : mk = 1 := hmk.elim (fun w => absurd w z0) id
          subst e1
          refine sM_endR hd (by omega) hb hB (fun E c r fE gE lE u79 u81 u82 r0 r1 mE kE => fin E fE gE lE ⟨u79, ?_, fun _ => ⟨c, mE, c, [], z, 0, j + 1 - b, 0, r, 0, (List.append_nil c).symm, rfl, (by omega), u82, u81, r1, (by omega), Or.inr ⟨r0, kE⟩, Or.inl ⟨rfl, rfl, rfl, fun _ _ => Iff.rfl⟩⟩⟩)
          rw [fE.2 77 (by decide)]
          exact sz_mo hB.2.1 (by omega)
        · rw [if_neg c124] at hP
          have hP := PrE_bnd.1 (PrE_bnd.1 hP)
          by_cases c40 : s j = 40
          · -- brackets
            refine w_X11_goOver_143 ⟨fun z => absurd c40 z, fun _ => ?_⟩
            unfold pat at hP
            rw [if_pos c40] at hP
            by_cases d20 : d < 20
            · rw [if_pos d20] at hP
              have hP := PrE_bnd.1 hP
              refine ⟨fun _ => ⟨inR_b (by omega) (by omega), e_X11_openOne ?_⟩, fun z => by omega⟩
              rw [show (d : Int) + 1 = ((d + 1 : Nat) : Int) by omega, tn]
              refine ⟨⟨by omega, by omega⟩, ⟨by omega, by omega⟩, Or.inl rfl, ⟨by omega, by omega⟩, ⟨by omega, by omega⟩, rfl, ?_⟩
              have f2 : fr [77, 79, 81, 82] B (iz_pI (iz_pI (iz_pI (iz_pL B 77 (vp_updL (B.2 77) (d + 1) 0)) 79 (uz (B.1 79) (d + 1) 0)) 81 (uz (B.1 81) (d + 1) 0)) 82 (uz (B.1 82) (d + 1) 0)) := fr_pI (fr_pI (fr_pI (fr_pL (fr_mo (fr_rf B) (by decide)) (by decide)) (by decide)) (by decide)) (by decide)
              have k77 : (iz_pI (iz_pI (iz_pI (iz_pL B 77 (vp_updL (B.2 77) (d + 1) 0)) 79 (uz (B.1 79) (d + 1) 0)) 81 (uz (B.1 81) (d + 1) 0)) 82 (uz (B.1 82) (d + 1) 0)).2 77 = vp_updL (B.2 77) (d + 1) 0 := rfl
              have k79 : (iz_pI (iz_pI (iz_pI (iz_pL B 77 (vp_updL (B.2 77) (d + 1) 0)) 79 (uz (B.1 79) (d + 1) 0)) 81 (uz (B.1 81) (d + 1) 0)) 82 (uz (B.1 82) (d + 1) 0)).1 79 = uz (B.1 79) (d + 1) 0 := rfl
              have k81 : (iz_pI (iz_pI (iz_pI (iz_pL B 77 (vp_updL (B.2 77) (d + 1) 0)) 79 (uz (B.1 79) (d + 1) 0)) 81 (uz (B.1 81) (d + 1) 0)) 82 (uz (B.1 82) (d + 1) 0)).1 81 = uz (B.1 81) (d + 1) 0 := rfl
              have k82 : (iz_pI (iz_pI (iz_pI (iz_pL B 77 (vp_updL (B.2 77) (d + 1) 0)) 79 (uz (B.1 79) (d + 1) 0)) 81 (uz (B.1 81) (d + 1) 0)) 82 (uz (B.1 82) (d + 1) 0)).1 82 = uz (B.1 82) (d + 1) 0 := rfl
              generalize iz_pI (iz_pI (iz_pI (iz_pL B 77 (vp_updL (B.2 77) (d + 1) 0)) 79 (uz (B.1 79) (d + 1) 0)) 81 (uz (B.1 81) (d + 1) 0)) 82 (uz (B.1 82) (d + 1) 0) = O at *
              have qO : Qm n j (-1) O := qm_k (m := []) qB (ff_eq (f2.1 55 (by decide))) (by decide)
              show ((0 : Int) ≤ ((d + 1 : Nat) : Int) ∧ ((d + 1 : Nat) : Int) < 22) ∧ inR (O.1 55 38 + 1) ∧ Rn (dd + 4) mX11_goOver (fun v A' => v = none ∧ P A') 295 [some (.inr (.inl 55)), some (.inl mk), some (.inl (((d + 1 : Nat) : Int))), some (.inl (s j)), some (.inl 0)] [] (iz_pI (iz_pI O 86 (uz (O.1 86) (d + 1) (O.1 55 48))) 55 (uz (O.1 55) 38 (O.1 55 38 + 1)))
              rw [qO.2.1]
              refine ⟨⟨by omega, by omega⟩, inR_b (by omega) (by omega), w_X11_goOver_295 ?_⟩
              have f3 : fr [55, 86] O (iz_pI (iz_pI O 86 (uz (O.1 86) (d + 1) (O.1 55 48))) 55 (uz (O.1 55) 38 ((j : Int) + 1))) := fr_pI (fr_pI (fr_mo (fr_rf O) (by decide)) (by decide)) (by decide)
              have g3 : ff [38] (O.1 55) ((iz_pI (iz_pI O 86 (uz (O.1 86) (d + 1) (O.1 55 48))) 55 (uz (O.1 55) 38 ((j : Int) + 1))).1 55) := ff_uz (ff_eq rfl) (by decide)
              have q3 : Qm n ((j + 1 : Nat) : Int) (-1) (iz_pI (iz_pI O 86 (uz (O.1 86) (d + 1) (O.1 55 48))) 55 (uz (O.1 55) 38 ((j : Int) + 1))) := ⟨qO.1, (show (j : Int) + 1 = ((j + 1 : Nat) : Int) by omega), qO.2.2⟩
              have k86 : (iz_pI (iz_pI O 86 (uz (O.1 86) (d + 1) (O.1 55 48))) 55 (uz (O.1 55) 38 ((j : Int) + 1))).1 86 = uz (O.1 86) (d + 1) (O.1 55 48) := rfl
              generalize iz_pI (iz_pI O 86 (uz (O.1 86) (d + 1) (O.1 55 48))) 55 (uz (O.1 55) 38 ((j : Int) + 1)) = I at *
              have fBI : fr [55, 77, 79, 81, 82, 86] B I := fr_mo (fr_tr f2 f3) (by decide)
              have gBI : ff [38] (B.1 55) (I.1 55) := by rw [← f2.1 55 (by decide)]; exact g3
              have I77 : I.2 77 = vp_updL (B.2 77) (d + 1) 0 := (f3.2 77 (by decide)).trans k77
              have I79 : I.1 79 = uz (B.1 79) (d + 1) 0 := (f3.1 79 (by decide)).trans k79
              have I81 : I.1 81 = uz (B.1 81) (d + 1) 0 := (f3.1 81 (by decide)).trans k81
              have I82 : I.1 82 = uz (B.1 82) (d + 1) 0 := (f3.1 82 (by decide)).trans k82
              have I86 : I.1 86 = uz (B.1 86) (d + 1) (B.1 55 48) := by rw [k86, f2.1 86 (by decide), f2.1 55 (by decide)]
              have fAI : fr [55, 77, 78, 79, 80, 81, 82, 83, 84, 85, 86] A I := fr_mo (fr_tr fB fBI) (by decide)
              have gAI : ff [37, 38, 45, 46, 48, 50, 52, 53] (A.1 55) (I.1 55) := ff_tr gB' (ff_mo gBI (by decide))
              -- the lower levels, this one too, as they were
              have lBI : ∀ i, i ≤ d → I.1 79 i = B.1 79 i ∧ I.1 80 i = B.1 80 i ∧ I.1 81 i = B.1 81 i ∧ I.1 82 i = B.1 82 i ∧ I.2 77 i = B.2 77 i ∧ I.2 78 i = B.2 78 i ∧ I.1 86 i = B.1 86 i := fun i hi => by
                rw [I79, I81, I82, I77, I86, fBI.1 80 (by decide), fBI.2 78 (by decide)]
                exact ⟨uz_ne _ _ (by omega), rfl, uz_ne _ _ (by omega), uz_ne _ _ (by omega), up_ne _ _ (by omega), rfl, uz_ne _ _ (by omega)⟩
              obtain ⟨M, hM⟩ : ∃ M : List Int, mk = 1 → MkR (L0 ++ M) B ∧ LvG N t d b j z D K M am B := by
                rcases hmk with e | e
                · exact ⟨[], fun w => absurd (e.symm.trans w) (by decide)⟩
                · obtain ⟨M, m1, m2⟩ := hB.2.2 e
                  exact ⟨M, fun _ => ⟨m1, m2⟩⟩
              have hI : HC N t mk (d + 1) (j + 1) (j + 1) 0 (fun _ _ => False) (fun p q => p = q) (L0 ++ M) am I := by
                refine ⟨by rw [I79, uz_at], by rw [I77, up_at]; exact sz_0 _, fun e => ⟨[], ?_, [], [], 0, 0, 0, 0, 0, 0, rfl, rfl, (by omega), by rw [I82, uz_at]; rfl, by rw [I81, uz_at]; rfl, (by omega), (by omega), Or.inl ⟨rfl, rfl, rfl, fun _ _ w => w⟩, Or.inl ⟨rfl, rfl, rfl, fun _ _ => Iff.rfl⟩⟩⟩
                rw [List.append_nil]
                exact mk_k (hM e).1 fBI (by decide) gBI (by decide)
              refine ih (d + 1) d20 (j + 1) (j + 1) 0 _ _ (L0 ++ M) am I (sgM_k hsA fAI (by decide)) q3 (by omega) (by omega) (Nat.le_refl _) (ga_k gaB fBI (by decide) gBI (by decide) (by omega)) (Or.inl hI) (PrE_mono hP (fun e _ h G fG gG wG => h G (fr_mo (fr_tr fAI fG) (by decide)) (ff_tr gAI gG) wG) (fun k zR e0 h G am2 D' K' fG gG qG gaG haG lG xG rG hG => ?_))
              have ok := psm_ok hs2 _ _ _ _ _ _ _ _ (show j + 1 ≤ n by omega) e0
              have fAG : fr [55, 77, 78, 79, 80, 81, 82, 83, 84, 85, 86] A G := fr_mo (fr_tr fAI fG) (by decide)
              have gAG : ff [37, 38, 45, 46, 48, 50, 52, 53] (A.1 55) (G.1 55) := ff_tr gAI gG
              have hsG := sgM_k hsA fAG (by decide)
              by_cases kn : k < n
              · rw [if_pos kn] at h
                have s41 := ok.2.2 kn
                have step : Rn (dd + 4) mX11_goOver (fun v A' => v = none ∧ P A') 91 [some (.inr (.inl 55)), some (.inl mk), some (.inl (((d + 1 : Nat) : Int))), some (.inl (s k)), some (.inl 0)] [] G := by
                  refine gO_end hmk d20 (by omega) ok.1 hG gaG (fun U fU gU lU gaU hU => ?_)
                  have qU : Qm n k (-1) U := qm_k qG gU (by decide)
                  -- the end of the brackets, from a state where its sum is told
                  have fin : ∀ V, fr [55, 79, 81, 82, 83] U V → ff [48] (U.1 55) (V.1 55) → Lo (d + 1) U V → (mk = 1 → ∃ c, MkR (L0 ++ M ++ c) V ∧ CK N t V am2 c zR.1 (k + 1 - (j + 1)) (2 * (20 - (d + 1)) + 2 + mx zR.1) zR.2) → Rn (dd + 4) mX11_goOver (fun v A' => v = none ∧ P A') 223 [some (.inr (.inl 55)), some (.inl mk), some (.inl (((d + 1 : Nat) : Int))), some (.inl (s k)), some (.inl 0)] [] V := fun V fV gV lV hV => by
                    have qV : Qm n k (-1) V := qm_k qU gV (by decide)
                    have all := lo_tr lG (lo_tr lU lV (Nat.le_refl _)) (Nat.le_refl _)
                    refine w_X11_goOver_223 ?_
                    rw [qV.2.1, show ((d + 1 : Nat) : Int) + -1 = (d : Int) by omega, show (d : Int) + 1 = ((d + 1 : Nat) : Int) by omega, tn]
                    have f4 : fr [55] V (iz_pI V 55 (uz (V.1 55) 38 ((k : Int) + 1))) := fr_pI (fr_mo (fr_rf V) (by decide)) (by decide)
                    have g4 : ff [38] (V.1 55) ((iz_pI V 55 (uz (V.1 55) 38 ((k : Int) + 1))).1 55) := ff_uz (ff_eq rfl) (by decide)
                    have q4 : Qm n ((k + 1 : Nat) : Int) (-1) (iz_pI V 55 (uz (V.1 55) 38 ((k : Int) + 1))) := ⟨qV.1, (show (k : Int) + 1 = ((k + 1 : Nat) : Int) by omega), qV.2.2⟩
                    generalize iz_pI V 55 (uz (V.1 55) 38 ((k : Int) + 1)) = V2 at *
                    refine ⟨inR_b (by omega) (by omega), inR_b (by omega) (by omega), inR_b (by omega) (by omega), ⟨by omega, by omega⟩, inR_b (by omega) (by omega), ⟨by omega, by omega⟩, sM_begun hd (fun W fW e79 e80 e78 e77 => w_X11_goOver_295 ?_)⟩
                    have fGW : fr [55, 77, 78, 79, 80, 81, 82, 83] G W := fr_mo (fr_tr fU (fr_tr fV (fr_tr f4 fW))) (by decide)
                    have gVW : ff [38] (V.1 55) (W.1 55) := by rw [fW.1 55 (by decide)]; exact g4
                    have gGW : ff [38, 48, 53] (G.1 55) (W.1 55) := ff_tr (ff_mo gU (by decide)) (ff_tr (ff_mo gV (by decide)) (ff_mo gVW (by decide)))
                    have V277 : V2.2 77 = V.2 77 := f4.2 77 (by decide)
                    have ad := all.1 d (Nat.lt_succ_self d)
                    have bd := lBI d (Nat.le_refl _)
                    have xVW : Fx am2 V W := fx_tr (fx_k (am := am2) f4 (by decide) (by decide)) (fx_k (am := am2) fW (by decide) (by decide)) (Nat.le_refl _)
                    have xBW : Fx am B W := fx_tr (fx_k (am := am) fBI (by decide) (by decide)) (fx_tr xG (fx_k (am := am) fGW (by decide) (by decide)) (Nat.le_refl _)) (Nat.le_refl _)
                    have W81 : W.1 81 d = B.1 81 d := by
                      rw [fW.1 81 (by decide), f4.1 81 (by decide)]
                      exact ad.2.2.1.trans bd.2.2.1
                    have W82 : W.1 82 d = B.1 82 d := by
                      rw [fW.1 82 (by decide), f4.1 82 (by decide)]
                      exact ad.2.2.2.1.trans bd.2.2.2.1
                    refine after W (k + 1) zR.1 am2 zR.2 (by omega) (by omega) (fr_mo (fr_tr fAG fGW) (by decide)) (ff_tr gAG (ff_mo gGW (by decide))) ?_ ?_ (by omega) ?_ (fx_tr xB xBW (Nat.le_refl _)) ⟨by rw [e79, uz_at], ?_, j, hb, (by omega), ⟨B.2 77 d, hB.2.1, ?_, ?_⟩, fun e => ?_⟩ h
                    · exact qm_k (m := []) q4 (ff_eq (fW.1 55 (by decide))) (by decide)
                    · exact ga_k (ga_k gaU fV (by decide) gV (by decide) (Nat.le_refl _)) (l := [55, 77, 78, 79, 80]) (fr_mo (fr_tr f4 fW) (by decide)) (by decide) gVW (by decide) (by omega)
                    · refine lo_tr lB (lo_tr ⟨fun i hi => ?_, fun i hi => ?_⟩ (lo_tr (lo_tr (⟨fun i hi => all.1 i (by omega), fun i hi => all.2 i (by omega)⟩ : Lo d I V) (lo_k f4 (by decide)) (Nat.le_refl _)) (lo_begun fW e79 e80 e78 e77) (Nat.le_refl _)) (Nat.le_refl _)) (Nat.le_refl _)
                      · have w := lBI i (by omega)
                        exact ⟨w.1, w.2.1, w.2.2.1, w.2.2.2.1, w.2.2.2.2.1, w.2.2.2.2.2.1⟩
                      · exact (lBI i hi).2.2.2.2.2.2
                    · exact fun hz => psm_zero hs2 _ _ _ _ _ _ _ _ (show j + 1 ≤ n by omega) (fun _ _ w => w.elim) (fun _ _ => Iff.rfl) e0 hz
                    · rw [e78, up_at, fV.2 77 (by decide)]
                      exact sz_mo hU.2.1 (by omega)
                    · rw [e77, e78, up_at, up_at, V277, ad.2.2.2.2.1, bd.2.2.2.2.1]
                    · obtain ⟨c, mc, kc⟩ := hV e
                      refine ⟨M, c, k - j, (by omega), (by omega), ?_, ?_, ?_, ?_⟩
                      · exact mk_k (mk_k mc f4 (by decide) g4 (by decide)) fW (by decide) (ff_eq (l := []) (fW.1 55 (by decide))) (by decide)
                      · exact lvG_k (hM e).2 xBW haG (Nat.le_refl _) W81 W82 (fun _ _ => Iff.rfl) (fun _ _ => Iff.rfl)
                      · rw [e80, uz_at, all.2 (d + 1) (Nat.le_refl _), I86, uz_at]
                        exact (hM e).1.1
                      · exact ck_k kc xVW (Nat.le_refl _) (by omega) (by omega) (fun _ _ => Iff.rfl)
                  refine w_X11_goOver_143 ⟨fun _ => ⟨fun z => absurd s41 z, fun _ => ⟨fun _ => ⟨fun z0 => fin U (fr_mo (fr_rf U) (by decide)) (ff_eq rfl) (lo_rf _ _) (fun e => by omega), fun z0 => ?_⟩, fun z => by omega⟩⟩, fun z => by omega⟩
                  have e1 : mk = 1 := hmk.elim (fun w => absurd w z0) id
                  subst e1
                  refine sM_endR d20 (by omega) ok.1 hU (fun V c r fV gV lV u79 u81 u82 r0 r1 mV kV => fin V fV gV lV (fun _ => ⟨c, mV, ?_⟩))
                  exact ck_k kV (fx_rf _ _) (Nat.le_refl _) (Nat.le_refl _) (Nat.le_refl _) (fun p q => (rG p q).symm)
                refine w_X11_goOver_37 ⟨fun z => absurd z (w37 qG), fun _ => ⟨fun z => ?_, fun _ => sM_sign hsG qG ?_⟩⟩
                · rw [qG.1, qG.2.1] at z
                  omega
                · rw [if_pos kn]
                  exact ⟨fun z => by omega, fun _ => ⟨fun z => by omega, fun _ => ⟨fun z => by omega, fun _ => ⟨fun _ => step, fun z => by omega⟩⟩⟩⟩
              · rw [if_neg kn] at h
                refine w_X11_goOver_37 ⟨fun z => absurd z (w37 qG), fun _ => ⟨fun _ => w_X11_goOver_298 ⟨fun z => absurd z (w37 qG), fun _ => ⟨fun z => by omega, fun _ => sM_fail qG (fun U fU gU qU => ?_)⟩⟩, fun z => ?_⟩⟩
                · have wU : U.1 55 37 = (k : Int) := by
                    rw [qU.2.2, qG.1]
                    omega
                  have w0 : (0 : Int) ≤ U.1 55 37 := by rw [wU]; omega
                  exact w_X11_goOver_317 ⟨fun _ => w_X11_goOver_338 ⟨rfl, h U (fr_mo (fr_tr fAG fU) (by decide)) (ff_tr gAG (ff_mo gU (by decide))) wU⟩, fun z => absurd w0 z⟩
                · rw [qG.1, qG.2.1] at z
                  omega
            · rw [if_neg d20] at hP
              refine ⟨fun z => by omega, fun _ => ?_⟩
              rw [qB.2.1]
              exact sM_fail qB (fun E f g q => ⟨rfl, hP E (fr_mo (fr_tr fB f) (by decide)) (ff_tr gB' (ff_mo g (by decide))) q.2.2⟩)
          · -- a leaf
            refine w_X11_goOver_143 ⟨fun _ => ⟨fun _ => ⟨fun _ => ?_, fun z => absurd z c124⟩, fun z => absurd z hc.2⟩, fun z => absurd z c40⟩
            refine sM_atom (f0 := fun d' j' => psm N t s n m d' j' 0 (fun _ _ => False) (fun p q => p = q)) htb hmk hd hsB qB hc.1 hb ⟨c40, hc.2, c124, hqs⟩ hB gaB (PrE_mono hP (fun e _ h E fE gE wE => w_X11_goOver_295 (gO_err wE (h E (fr_mo (fr_tr fB fE) (by decide)) (ff_tr gB' (ff_mo gE (by decide))) wE))) (fun k zR e0 h E am' ha fE gE qE gaE lE xE hE => w_X11_goOver_295 ?_))
            have po := pat_ok hs2 (fun d j k zR a b => psm_ok hs2 m d j _ _ _ k zR a b) hc.1 e0
            exact after E k zR.1 am' zR.2 po.1 po.2 (fr_mo (fr_tr fB fE) (by decide)) (ff_tr gB' (ff_mo gE (by decide))) qE gaE ha (lo_tr lB lE (Nat.le_refl _)) (fx_tr xB xE (Nat.le_refl _)) hE h
    · rw [if_neg hc] at hP
      exact hP A am D K (fr_mo (fr_rf A) (by decide)) (ff_eq rfl) hq ga (Nat.le_refl _) (lo_rf _ _) (fx_rf _ _) (fun _ _ => Iff.rfl) hH
