theorem sX_downTo {d w : Nat} {A : iz_A} {P : iz_A → Prop} {a b : Int} (hw : w < 240) (hP : ∀ E, fr [33, 34] A E → E.1 33 = uz (A.1 33) w a → E.1 34 = uz (A.1 34) w b → P E) : Cv (d + 1) 39 [.inr (.inl 30), .inl (w : Int), .inl a, .inl b] A P := by
  refine e_X3_goDownTo ?_
  rw [tn]
  exact ⟨⟨by omega, by omega⟩, ⟨by omega, by omega⟩, rfl, hP _ (fr_pI (fr_pI (fr_mo (fr_rf A) (by decide)) (by decide)) (by decide)) rfl rfl⟩
def CnV (N : Nat) (C : Nat → Rel) (p w : Nat) (A : iz_A) : Prop := MnV (fun L => C w p (p + L)) (N - p) (A.1 33 w) ∧ MxV (fun L => C w p (p + L)) (N - p) (A.1 34 w)
theorem sX_goDown {N : Nat} {t : Nat → Int} {as : Nat → Int → Prop} {A0 A : iz_A} {d r p : Nat} {X C : Nat → Rel} {P : iz_A → Prop} (T : Tree N t as A0 r X C) (fA : fr [30, 31, 32, 33, 34, 35, 36, 37] A0 A) (hU : UpV N X C (r + 1) p A) (hP : ∀ E, fr [33, 34] A E → DnV N A0 X C r p E → P E) : Cv (d + 3) 37 [.inr (.inl 30), .inl (r : Int)] A P := by
  obtain ⟨hr, hN, ⟨m, sh⟩, fN, fC, gX, gC, cr⟩ := T
  have loop : ∀ k, k ≤ r + 1 → ∀ B, fr [33, 34] A B → (∀ w, k ≤ w → w ≤ r → MnV (fun L => Af A0 X C w p (p + L)) (N - p) (B.1 33 w) ∧ MxV (fun L => Af A0 X C w p (p + L)) (N - p) (B.1 34 w)) → (∀ w, w < k → (w = r ∨ ∃ x, k ≤ x ∧ x ≤ r ∧ (A0.1 39 x = 1 ∨ A0.1 39 x = 2) ∧ (A0.1 40 x = (w : Int) ∨ x - 1 = w)) → CnV N C p w B) → Rn (d + 2) mX3_goDown (fun v A' => v = none ∧ P A') 16 [some (.inr (.inl 30)), some (.inl ((r : Int))), some (.inl ((k : Int) - 1))] [] B := by
    intro k
    induction k with
    | zero =>
      intro _ B f h1 h2
      exact w_X3_goDown_16 ⟨fun _ => ⟨rfl, hP B f (fun w hw => h1 w (Nat.zero_le _) hw)⟩, fun z => absurd (by decide) z⟩
    | succ u ih =>
      intro hu B f h1 h2
      have f0 : fr [30, 31, 32, 33, 34, 35, 36, 37] A0 B := fr_mo (fr_tr fA f) (by decide)
      have cn : CnV N C p u B := h2 u (Nat.lt_succ_self u) (by
        by_cases e : u = r
        · exact Or.inl e
        · obtain ⟨x, x1, x2, x3⟩ := sh_par m 0 r sh u (Nat.zero_le _) (by omega)
          exact Or.inr ⟨x, x1, x2, x3⟩)
      have up := hU u (by omega)
      have eu1 : ((u : Int) - 1).toNat = u - 1 := (by omega)
      -- once this node is done
      have fin : ∀ E, fr [33, 34] B E → (∀ w, u < w → w ≤ r → E.1 33 w = B.1 33 w ∧ E.1 34 w = B.1 34 w) → (MnV (fun L => Af A0 X C u p (p + L)) (N - p) (E.1 33 u) ∧ MxV (fun L => Af A0 X C u p (p + L)) (N - p) (E.1 34 u)) → (∀ w, w < u → (E.1 33 w = B.1 33 w ∧ E.1 34 w = B.1 34 w) ∨ CnV N C p w E) → (∀ w, w < u → (A0.1 39 u = 1 ∨ A0.1 39 u = 2) → (A0.1 40 u = (w : Int) ∨ u - 1 = w) → CnV N C p w E) → inR ((u : Int) + -1) ∧ Rn (d + 2) mX3_goDown (fun v A' => v = none ∧ P A') 16 [some (.inr (.inl 30)), some (.inl ((r : Int))), some (.inl ((u : Int) + -1))] [] E := fun E fE e1 e2 e3 e4 => by
        refine ⟨inR_b (by omega) (by omega), ih (by omega) E (fr_mo (fr_tr f fE) (by decide)) (fun w w1 w2 => ?_) (fun w w1 w2 => ?_)⟩
        · by_cases e : w = u
          · rw [e]
            exact e2
          · rw [(e1 w (by omega) w2).1, (e1 w (by omega) w2).2]
            exact h1 w (by omega) w2
        · rcases e3 w w1 with e | e
          · rcases w2 with w2 | ⟨x, x1, x2, x3, x4⟩
            · omega
            · by_cases ex : x = u
              · rw [ex] at x3 x4
                exact e4 w w1 x3 x4
              · unfold CnV
                rw [e.1, e.2]
                exact h2 w (by omega) (Or.inr ⟨x, (by omega), x2, x3, x4⟩)
          · exact e
      -- its parts, from a state where its own numbers are told
      have parts : ∀ B1, fr [33, 34] B B1 → (∀ w, w ≠ u → B1.1 33 w = B.1 33 w ∧ B1.1 34 w = B.1 34 w) → (MnV (fun L => Af A0 X C u p (p + L)) (N - p) (B1.1 33 u) ∧ MxV (fun L => Af A0 X C u p (p + L)) (N - p) (B1.1 34 u)) → (A0.1 39 u = 0 → inR ((u : Int) + -1) ∧ Rn (d + 2) mX3_goDown (fun v A' => v = none ∧ P A') 16 [some (.inr (.inl 30)), some (.inl ((r : Int))), some (.inl ((u : Int) + -1))] [] B1) ∧ (¬ A0.1 39 u = 0 → Cv (d + 2) 39 [.inr (.inl 30), .inl (A0.1 41 u), .inl (B1.1 33 u), .inl (B1.1 34 u)] B1 (fun A1 => Cv (d + 2) 38 [.inr (.inl 30), .inl (u : Int)] A1 (fun A2 => inR ((u : Int) + -1) ∧ Rn (d + 2) mX3_goDown (fun v A' => v = none ∧ P A') 16 [some (.inr (.inl 30)), some (.inl ((r : Int))), some (.inl ((u : Int) + -1))] [] A2))) := fun B1 f1 o1 v1 => by
        have f01 : fr [30, 31, 32, 33, 34, 35, 36, 37] A0 B1 := fr_mo (fr_tr f0 f1) (by decide)
        refine ⟨fun z => fin B1 f1 (fun w w1 _ => o1 w (by omega)) v1 (fun w w1 => Or.inl (o1 w (by omega))) (fun w _ k _ => by omega), fun z => ?_⟩
        rcases sh_kid m 0 r sh u (Nat.zero_le _) (by omega) with ⟨k0, _⟩ | ⟨k0, l, k1, k2, k3, k4⟩
        · exact absurd k0 z
        have cc := fC u (Nat.zero_le _) (by omega) k0 l k1
        rw [k2, show (u : Int) - 1 = ((u - 1 : Nat) : Int) by omega]
        refine sX_downTo (by omega) (fun E fE e33 e34 => ?_)
        have fE0 : fr [30, 31, 32, 33, 34, 35, 36, 37] A0 E := fr_mo (fr_tr f01 fE) (by decide)
        have E31 : E.1 31 = A.1 31 := by rw [fE.1 31 (by decide), f1.1 31 (by decide), f.1 31 (by decide)]
        have E32 : E.1 32 = A.1 32 := by rw [fE.1 32 (by decide), f1.1 32 (by decide), f.1 32 (by decide)]
        have Eu : E.1 33 u = B1.1 33 u ∧ E.1 34 u = B1.1 34 u := by
          rw [e33, e34, uz_ne _ _ (by omega), uz_ne _ _ (by omega)]
          exact ⟨rfl, rfl⟩
        have upr := hU (u - 1) (by omega)
        -- the left part gets these numbers
        have left : ∀ a b : Int, MnV (fun L => C l p (p + L)) (N - p) a → MxV (fun L => C l p (p + L)) (N - p) b → Cv (d + 1) 39 [.inr (.inl 30), .inl (l : Int), .inl a, .inl b] E (fun A3 => none = (none : Option iz_V) ∧ (inR ((u : Int) + -1) ∧ Rn (d + 2) mX3_goDown (fun v A' => v = none ∧ P A') 16 [some (.inr (.inl 30)), some (.inl ((r : Int))), some (.inl ((u : Int) + -1))] [] A3)) := fun a b ha hb => by
          refine sX_downTo (by omega) (fun F fF g33 g34 => ⟨rfl, ?_⟩)
          have ot : ∀ w, w ≠ u → w ≠ u - 1 → w ≠ l → F.1 33 w = B.1 33 w ∧ F.1 34 w = B.1 34 w := fun w w1 w2 w3 => by
            rw [g33, g34, uz_ne _ _ w3, uz_ne _ _ w3, e33, e34, uz_ne _ _ w2, uz_ne _ _ w2]
            exact o1 w w1
          have cl : CnV N C p l F := by
            unfold CnV
            rw [g33, g34, uz_at, uz_at]
            exact ⟨ha, hb⟩
          have crr : CnV N C p (u - 1) F := by
            unfold CnV
            rw [g33, g34, uz_ne _ _ (by omega), uz_ne _ _ (by omega), e33, e34, uz_at, uz_at]
            exact ⟨mnV_iff v1.1 (Nat.le_refl _) (fun L => (cc.1 p (p + L)).symm), mxV_iff v1.2 (Nat.le_refl _) (fun L => (cc.1 p (p + L)).symm)⟩
          refine fin F (fr_mo (fr_tr f1 (fr_tr fE fF)) (by decide)) (fun w w1 _ => ot w (by omega) (by omega) (by omega)) ?_ (fun w w1 => ?_) (fun w w1 _ w3 => ?_)
          · rw [g33, g34, uz_ne _ _ (by omega), uz_ne _ _ (by omega), Eu.1, Eu.2]
            exact v1
          · by_cases c1 : w = u - 1
            · exact Or.inr (c1 ▸ crr)
            · by_cases c2 : w = l
              · exact Or.inr (c2 ▸ cl)
              · exact Or.inl (ot w (by omega) c1 c2)
          · rcases w3 with w3 | w3
            · have e : w = l := by omega
              exact e ▸ cl
            · exact w3 ▸ crr
        refine e_X3_goDownLeft ?_
        rw [tn, fE0.1 39 (by decide), fE0.1 40 (by decide), fE0.1 41 (by decide), fE0.1 42 (by decide), E31, E32, Eu.1, Eu.2, k1, k2, eu1]
        refine ⟨⟨by omega, by omega⟩, ⟨by omega, by omega⟩, ⟨by omega, by omega⟩, fun n2 => ⟨⟨by omega, by omega⟩, fun s0 => ⟨⟨by omega, by omega⟩, ⟨by omega, by omega⟩, left _ _ ?_ ?_⟩, fun s1 => ⟨⟨by omega, by omega⟩, ⟨by omega, by omega⟩, ⟨by omega, by omega⟩, ⟨by omega, by omega⟩, left _ _ ?_ ?_⟩⟩, fun e2 => ⟨⟨by omega, by omega⟩, ⟨by omega, by omega⟩, left _ _ ?_ ?_⟩⟩
        · exact mnV_iff upr.1 (Nat.le_refl _) (fun L => by rw [cc.2.1 (by omega) p (p + L)]; exact ⟨Or.inl, fun w => w.elim id (fun w => absurd s0 w.1)⟩)
        · exact mxV_iff upr.2 (Nat.le_refl _) (fun L => by rw [cc.2.1 (by omega) p (p + L)]; exact ⟨Or.inl, fun w => w.elim id (fun w => absurd s0 w.1)⟩)
        · exact mnV_iff (mnV_or v1.1 upr.1) (Nat.le_refl _) (fun L => by rw [cc.2.1 (by omega) p (p + L)]; exact ⟨fun w => w.elim (fun w => Or.inr ⟨s1, w⟩) Or.inl, fun w => w.elim Or.inr (fun w => Or.inl w.2)⟩)
        · exact mxV_iff (mxV_or (by omega) v1.2 upr.2) (Nat.le_refl _) (fun L => by rw [cc.2.1 (by omega) p (p + L)]; exact ⟨fun w => w.elim (fun w => Or.inr ⟨s1, w⟩) Or.inl, fun w => w.elim Or.inr (fun w => Or.inl w.2)⟩)
        · exact mnV_iff v1.1 (Nat.le_refl _) (fun L => (cc.2.2 e2 p (p + L)).symm)
        · exact mxV_iff v1.2 (Nat.le_refl _) (fun L => (cc.2.2 e2 p (p + L)).symm)
      have B31 : B.1 31 = A.1 31 := f.1 31 (by decide)
      have B32 : B.1 32 = A.1 32 := f.1 32 (by decide)
      refine w_X3_goDown_16 ⟨fun z => by omega, fun _ => ?_⟩
      rw [show ((u + 1 : Nat) : Int) - 1 = (u : Int) by omega, tn, f0.1 39 (by decide), f0.1 41 (by decide), f0.1 43 (by decide), B31, B32]
      refine ⟨⟨by omega, by omega⟩, fun l0 => ?_, fun l1 => ?_⟩
      · have pr := parts B (fr_mo (fr_rf B) (by decide)) (fun _ _ => ⟨rfl, rfl⟩) ⟨mnV_iff cn.1 (Nat.le_refl _) (fun L => ⟨Or.inl, fun w => w.elim id (fun w => absurd l0 w.1)⟩), mxV_iff cn.2 (Nat.le_refl _) (fun L => ⟨Or.inl, fun w => w.elim id (fun w => absurd l0 w.1)⟩)⟩
        exact ⟨⟨by omega, by omega⟩, pr.1, fun z => ⟨⟨by omega, by omega⟩, ⟨by omega, by omega⟩, ⟨by omega, by omega⟩, pr.2 z⟩⟩
      · have v1 := mnV_iff (T := fun L => Af A0 X C u p (p + L)) (bd' := N - p) (mnV_or cn.1 up.1) (Nat.le_refl _) (fun L => or_congr Iff.rfl ⟨fun w => ⟨l1, w⟩, fun w => w.2⟩)
        have v2 := mxV_iff (T := fun L => Af A0 X C u p (p + L)) (bd' := N - p) (mxV_or (by omega) cn.2 up.2) (Nat.le_refl _) (fun L => or_congr Iff.rfl ⟨fun w => ⟨l1, w⟩, fun w => w.2⟩)
        generalize hx : (if A.1 31 u < B.1 33 u then A.1 31 u else B.1 33 u) = x at *
        generalize hy : (if B.1 34 u < A.1 32 u then A.1 32 u else B.1 34 u) = y at *
        have q33 : (iz_pI (iz_pI B 33 (uz (B.1 33) u x)) 34 (uz (B.1 34) u y)).1 33 = uz (B.1 33) u x := rfl
        have q34 : (iz_pI (iz_pI B 33 (uz (B.1 33) u x)) 34 (uz (B.1 34) u y)).1 34 = uz (B.1 34) u y := rfl
        have pr := parts (iz_pI (iz_pI B 33 (uz (B.1 33) u x)) 34 (uz (B.1 34) u y)) (fr_pI (fr_pI (fr_mo (fr_rf B) (by decide)) (by decide)) (by decide)) (fun w hw => by rw [q33, q34, uz_ne _ _ hw, uz_ne _ _ hw]; exact ⟨rfl, rfl⟩) (by rw [q33, q34, uz_at, uz_at]; exact ⟨v1, v2⟩)
        rw [q33, q34, uz_at, uz_at] at pr
        rw [uz_at, uz_at]
        exact ⟨⟨by omega, by omega⟩, ⟨by omega, by omega⟩, ⟨by omega, by omega⟩, ⟨by omega, by omega⟩, ⟨by omega, by omega⟩, ⟨by omega, by omega⟩, ⟨by omega, by omega⟩, pr.1, fun z => ⟨⟨by omega, by omega⟩, ⟨by omega, by omega⟩, ⟨by omega, by omega⟩, pr.2 z⟩⟩
  refine e_X3_goDown ?_
  rw [tn]
  have e33 : (iz_pI (iz_pI A 33 (uz (A.1 33) r 0)) 34 (uz (A.1 34) r 0)).1 33 = uz (A.1 33) r 0 := rfl
  have e34 : (iz_pI (iz_pI A 33 (uz (A.1 33) r 0)) 34 (uz (A.1 34) r 0)).1 34 = uz (A.1 34) r 0 := rfl
  have := loop (r + 1) (Nat.le_refl _) (iz_pI (iz_pI A 33 (uz (A.1 33) r 0)) 34 (uz (A.1 34) r 0)) (fr_pI (fr_pI (fr_mo (fr_rf A) (by decide)) (by decide)) (by decide)) (fun w w1 w2 => by omega) (fun w w1 w2 => by
    rcases w2 with w2 | ⟨x, x1, x2, _⟩
    · unfold CnV
      rw [w2, e33, e34, uz_at, uz_at]
      have c0 : C r p (p + 0) := (cr p (p + 0)).2 rfl
      exact ⟨Or.inl ⟨0, rfl, by decide, c0, fun _ _ => Nat.zero_le _⟩, Or.inl ⟨0, rfl, by decide, c0, fun l' w => by have := (cr p (p + l')).1 w; omega⟩⟩
    · omega)
  rw [show ((r + 1 : Nat) : Int) - 1 = (r : Int) by omega] at this
  exact ⟨⟨by omega, by omega⟩, ⟨by omega, by omega⟩, this⟩
