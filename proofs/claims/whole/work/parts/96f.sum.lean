theorem gSum {N : Nat} {t s : Nat → Int} {n : Nat} {A0 : iz_A} (hs : Sg s n A0) (hn : A0.1 23 6 = (n : Int)) : ∀ m, SumSt N t s n A0 m := by
  have nb := hs.1
  intro m
  induction m using Nat.strongRecOn with
  | ind m IH =>
    have hRow := gRow (N := N) (t := t) hs hn m IH
    intro d j k zR hd hj h hR A lo P fA a6 a7 cap hP
    -- the loop over the rows
    have loop : ∀ m1, m1 ≤ m → ∀ (j1 z1 : Nat) (D C1 : Rel) (E : iz_A) (v2 : Int) (nd v3 : Nat), psm N t s n m1 d j1 z1 D C1 = .inr (k, zR) → RcS N t s n A0 m1 d j1 → j1 ≤ n → ¬ (j1 < n ∧ s j1 ≠ 124 ∧ s j1 ≠ 41) → fr [38, 39, 40, 41, 42, 43] A0 E → E.1 38 6 = (nd : Int) → E.1 38 7 = (j1 : Int) → Und lo A E → Rp N t (gset s n) (OkS s n A0) E lo z1 v2 (fun p q => D p q ∨ C1 p q) nd → v3 ≤ j1 + 1 → Rn (4 * (20 - d) + 4) mX9_growSum (fun v A' => ∃ y, v = some (.inl y) ∧ P y A') 8 [some (.inr (.inl 38)), some (.inl ((d : Int))), some (.inl v2), some (.inl ((v3 : Int)))] [] E := by
      intro m1
      induction m1 using Nat.strongRecOn with
      | ind m1 ih =>
        intro hm1 j1 z1 D C1 E v2 nd v3 hp hr hj1 hend fE e6 e7 uE rE hv3
        cases m1 with
        | zero => cases hp
        | succ m2 =>
          have hsE : Sg s n E := sg_k hs fE (by decide)
          have hnE : E.1 23 6 = (n : Int) := by rw [fE.1 23 (by decide)]; exact hn
          have stop : ¬ (j1 < n ∧ s j1 = 124) → P v2 E := fun hno => by
            unfold psm at hp
            rw [if_neg (fun w => hend ⟨w.1, fun e => hno ⟨w.1, e⟩, w.2⟩)] at hp
            cases hp
            exact hP E v2 nd fE e6 e7 uE rE
          refine w_X9_growSum_8 ⟨fun y => ⟨_, rfl, stop (fun w => by omega)⟩, fun y => sX_tcomes hsE hnE e7 (fun jn e => ⟨fun z => absurd z n10, fun _ => ?_⟩) (fun hno => ⟨fun _ => ⟨_, rfl, stop hno⟩, fun z => absurd rfl z⟩)⟩
          rw [e7]
          refine ⟨inR_b (by omega) (by omega), ?_⟩
          have r124 := (hr ⟨jn, by rw [e]; decide⟩).1 e
          unfold psm at hp
          rw [if_pos ⟨jn, by rw [e]; decide⟩, if_pos e] at hp
          have nbE := rp_nd rE
          have hge := psm_ge _ _ _ _ _ _ _ _ hp
          have f2 : fr [38] E (iz_pI E 38 (uz (E.1 38) 7 ((j1 : Int) + 1))) := fr_pI (fr_mo (fr_rf E) (by decide)) (by decide)
          refine e_X9_growRow (hRow m2 (by omega) d (j1 + 1) z1 _ _ k zR hd jn hp r124 _ nd 0 (-1) nd _ (fr_mo (fr_tr fE f2) (by decide)) e6 (show (j1 : Int) + 1 = ((j1 + 1 : Nat) : Int) by omega) (Or.inl ⟨rfl, rfl, rfl, fun _ _ => Iff.rfl⟩) (by omega) (fun F rv' m3 j3 z3 C3 zc3 nd3 hm3 hp3 hr3 hj3 hj3n hend3 fF f6 f7 uF rF ez3 => ?_))
          have uEF : Und nd E F := uF
          have hge3 := psm_ge _ _ _ _ _ _ _ _ hp3
          have r1 : Rp N t (gset s n) (OkS s n A0) F lo z1 v2 (fun p q => D p q ∨ C1 p q) nd := by
            rcases rE with r | ⟨q1, q2, q3, q4⟩
            · exact Or.inl r
            · exact Or.inr ⟨q1, q2, q3, gd_k q4 (und_ag uEF (by omega)) (fun _ _ => Iff.rfl)⟩
          refine sX_choice (d := 4 * (20 - d) + 2) f6 r1 rF (by omega) (fun G w n' fG gG g6 uG rG => ⟨inR_b (by omega) (by omega), ?_⟩)
          rw [show (v3 : Int) + 1 = ((v3 + 1 : Nat) : Int) by omega]
          have ez : z1 + zc3 = z3 := (by omega)
          rw [ez] at rG
          refine ih m3 (by omega) (by omega) j3 z3 _ C3 G w n' (v3 + 1) hp3 hr3 hj3n hend3 (fr_mo (fr_tr fF fG) (by decide)) g6 ?_ (und_tr (und_tr uE uEF nbE.1) uG (Nat.le_refl _)) rG (by omega)
          rw [gG 7 (by decide)]
          exact f7
    refine e_X9_growSum (e_X9_growRow (hRow m (Nat.le_refl _) d j 0 _ _ k zR hd hj h hR A lo 0 (-1) lo _ fA a6 a7 (Or.inl ⟨rfl, rfl, rfl, fun _ _ => Iff.rfl⟩) (by omega) (fun E rv' m1 j1 z1 C1 zc1 nd1 hm1 hp hr hj1 hj1n hend fE e6 e7 uE rE ez => ?_)))
    have ez : zc1 = z1 := (by omega)
    rw [ez] at rE
    exact loop m1 hm1 j1 z1 _ C1 E rv' nd1 1 hp hr hj1n hend fE e6 e7 uE (rp_k rE (fun _ _ _ => ⟨rfl, rfl, rfl, rfl, rfl⟩) (fun p q => ⟨Or.inr, fun w => w.elim (fun w => w.elim) id⟩)) (by omega)
/-- the whole query written out -/
theorem sX_grown {N : Nat} {t s : Nat → Int} {n k : Nat} {zR : Nat × Rel} {A : iz_A} {P : Int → iz_A → Prop} (hs : Sg s n A) (hn : A.1 23 6 = (n : Int)) (h : psm N t s n (n + 1) 0 0 0 (fun _ _ => False) (fun p q => p = q) = .inr (k, zR)) (hR : RcS N t s n A (n + 1) 0 0) (hz : zR.1 ≤ 120) (hP : ∀ C v (nd : Nat), fr [38, 39, 40, 41, 42, 43] A C → Rp N t (gset s n) (OkS s n A) C 0 zR.1 v zR.2 nd → P v C) : Ci 86 99 [.inr (.inl 38)] A P := by
  refine e_X9_grown ?_
  have f : fr [38] A (iz_pI (iz_pI A 38 (uz (A.1 38) 6 0)) 38 (uz (uz (A.1 38) 6 0) 7 0)) := fr_pI (fr_pI (fr_mo (fr_rf A) (by decide)) (by decide)) (by decide)
  exact gSum hs hn (n + 1) 0 0 k zR (by decide) (Nat.zero_le _) h hR _ 0 _ (fr_mo f (by decide)) rfl rfl (by omega) (fun C v nd fC c6 c7 uC rC => ⟨_, rfl, hP C v nd fC rC⟩)
