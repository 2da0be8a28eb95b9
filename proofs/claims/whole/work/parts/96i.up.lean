/-! ===== the class goes up and down its tree ===== -/
theorem sX_mayBe {d i c : Nat} {A : iz_A} {P : Int → iz_A → Prop} (hi : i < 200) (hc : c < 256) (h1 : mb A i c → P 1 A) (h0 : ¬ mb A i c → P 0 A) : Ci (d + 1) 74 [.inr (.inl 23), .inl (i : Int), .inl (c : Int)] A P := by
  have s6 := sh6 ⟨c, hc⟩
  refine e_X6_mayBe ?_
  rw [s6.1, s6.2, show ((i : Int) * 4 + ((c / 64 : Nat) : Int)).toNat = 4 * i + c / 64 by omega, tb_ush _ (show c % 64 < 64 by omega)]
  refine ⟨inR_b (by omega) (by omega), inR_b (by omega) (by omega), ⟨by omega, by omega⟩, fun z => ⟨Or.inl rfl, _, rfl, h0 (fun w => ?_)⟩, fun z => ⟨Or.inr rfl, _, rfl, h1 ?_⟩⟩
  · unfold mb at w
    rw [z] at w
    cases w
  · unfold mb
    cases e : tb (A.2 29 (4 * i + c / 64)) (c % 64) with
    | true => rfl
    | false => exact absurd e z
/-- a tree and what its nodes mean -/
def Tree (N : Nat) (t : Nat → Int) (as : Nat → Int → Prop) (A0 : iz_A) (r : Nat) (X C : Nat → Rel) : Prop := r < 240 ∧ N ≤ 3000 ∧ (∃ m, Sh (fun i => ∀ c : Nat, c < 256 → (mb A0 i c ↔ as i (c : Int))) A0 m 0 r) ∧ FmN N t as A0 X 0 r ∧ FmC A0 X C 0 r ∧ (∀ u, u ≤ r → Go N (X u)) ∧ (∀ u, u ≤ r → Gw N (C u)) ∧ (∀ p e, C r p e ↔ p = e)
def UpV (N : Nat) (X C : Nat → Rel) (r p : Nat) (A : iz_A) : Prop := ∀ u, u < r → MnV (fun L => Ah X C u p (p + L)) (N - p) (A.1 31 u) ∧ MxV (fun L => Ah X C u p (p + L)) (N - p) (A.1 32 u)
def DnV (N : Nat) (A0 : iz_A) (X C : Nat → Rel) (r p : Nat) (A : iz_A) : Prop := ∀ u, u ≤ r → MnV (fun L => Af A0 X C u p (p + L)) (N - p) (A.1 33 u) ∧ MxV (fun L => Af A0 X C u p (p + L)) (N - p) (A.1 34 u)
theorem af_gw {N : Nat} {A0 : iz_A} {X C : Nat → Rel} {u : Nat} (gX : Go N (X u)) (gC : Gw N (C u)) : Gw N (Af A0 X C u) := fun p e w => by
  rcases w with w | ⟨_, q, w1, w2⟩
  · exact gC p e w
  · have a := gX p q w1
    have b := gC q e w2
    exact ⟨(by omega), (by omega)⟩
theorem sX_goUp {N : Nat} {t : Nat → Int} {as : Nat → Int → Prop} {A0 A : iz_A} {d r p : Nat} {X C : Nat → Rel} {P : iz_A → Prop} (T : Tree N t as A0 r X C) (hp : p < N) (ht : t p < 256) (htl : -100 ≤ t p) (fA : fr [30, 31, 32, 33, 34, 35, 36, 37] A0 A) (hd : 0 ≤ t p → DnV N A0 X C r (p + 1) A) (hP : ∀ E, fr [31, 32] A E → UpV N X C (r + 1) p E → P E) : Cv (d + 2) 36 [.inr (.inl 30), .inl (r : Int), .inl (t p)] A P := by
  obtain ⟨hr, hN, ⟨m, sh⟩, fN, fC, gX, gC, cr⟩ := T
  refine e_X3_goUp ?_
  refine dwl (P := fun u => ∀ B, fr [31, 32] A B → UpV N X C u p B → Rn (d + 1) mX3_goUp (fun v A' => v = none ∧ P A') 2 [some (.inr (.inl 30)), some (.inl ((r : Int))), some (.inl (t p)), some (.inl ((u : Int))), none, none, none] [] B) (a := 0) (n := r + 1) ?_ (fun u _ hu ih => ?_) (Nat.zero_le _) A (fr_mo (fr_rf A) (by decide)) (fun u hu => absurd hu (Nat.not_lt_zero u))
  · intro B f h
    exact w_X3_goUp_2 ⟨fun _ => ⟨rfl, hP B f h⟩, fun z => by omega⟩
  · intro B f h
    have f0 : fr [30, 31, 32, 33, 34, 35, 36, 37] A0 B := fr_mo (fr_tr fA f) (by decide)
    have e39 : B.1 39 = A0.1 39 := f0.1 39 (by decide)
    have e40 : B.1 40 = A0.1 40 := f0.1 40 (by decide)
    have e41 : B.1 41 = A0.1 41 := f0.1 41 (by decide)
    have e42 : B.1 42 = A0.1 42 := f0.1 42 (by decide)
    -- what stands there for the next node
    have put : ∀ E, fr [31, 32] B E → (∀ w, w ≠ u → E.1 31 w = B.1 31 w ∧ E.1 32 w = B.1 32 w) → MnV (fun L => Ah X C u p (p + L)) (N - p) (E.1 31 u) → MxV (fun L => Ah X C u p (p + L)) (N - p) (E.1 32 u) → ∀ v4 v5 : Int, Rn (d + 1) mX3_goUp (fun v A' => v = none ∧ P A') 225 [some (.inr (.inl 30)), some (.inl ((r : Int))), some (.inl (t p)), some (.inl ((u : Int))), some (.inl v4), some (.inl v5), none] [] E := fun E fE oE h1 h2 v4 v5 => by
      refine w_X3_goUp_225 ⟨inR_b (by omega) (by omega), ?_⟩
      rw [show (u : Int) + 1 = ((u + 1 : Nat) : Int) by omega]
      refine ih E (fr_mo (fr_tr f fE) (by decide)) (fun w hw => ?_)
      by_cases e : w = u
      · rw [e]
        exact ⟨h1, h2⟩
      · rw [(oE w e).1, (oE w e).2]
        exact h w (by omega)
    have put2 : ∀ (a b : Int), MnV (fun L => Ah X C u p (p + L)) (N - p) a → MxV (fun L => Ah X C u p (p + L)) (N - p) b → ∀ v4 v5 : Int, Rn (d + 1) mX3_goUp (fun v A' => v = none ∧ P A') 225 [some (.inr (.inl 30)), some (.inl ((r : Int))), some (.inl (t p)), some (.inl ((u : Int))), some (.inl v4), some (.inl v5), none] [] (iz_pI (iz_pI B 31 (uz (B.1 31) u a)) 32 (uz (B.1 32) u b)) := fun a b h1 h2 v4 v5 => by
      have ea : (iz_pI (iz_pI B 31 (uz (B.1 31) u a)) 32 (uz (B.1 32) u b)).1 31 = uz (B.1 31) u a := rfl
      have eb : (iz_pI (iz_pI B 31 (uz (B.1 31) u a)) 32 (uz (B.1 32) u b)).1 32 = uz (B.1 32) u b := rfl
      refine put _ (fr_pI (fr_pI (fr_mo (fr_rf B) (by decide)) (by decide)) (by decide)) (fun w hw => ?_) ?_ ?_ v4 v5
      · rw [ea, eb, uz_ne _ _ hw, uz_ne _ _ hw]
        exact ⟨rfl, rfl⟩
      · rw [ea, uz_at]
        exact h1
      · rw [eb, uz_at]
        exact h2
    have kd := sh_kid m 0 r sh u (Nat.zero_le _) (by omega)
    refine w_X3_goUp_2 ⟨fun z => by omega, fun _ => ?_⟩
    rw [tn, e39, e40, e41, e42]
    rcases kd with ⟨k0, i, k1, k2, k3⟩ | ⟨k0, l, k1, k2, k3, k4⟩
    · -- an atom
      rw [k1]
      refine ⟨⟨by omega, by omega⟩, ⟨by omega, by omega⟩, fun z => absurd k0 z, fun _ => ?_⟩
      have leaf := ah_leaf (C := C) fN (Nat.zero_le u) (show u ≤ r by omega) k0 k1 p
      have no : (∀ L, ¬ Ah X C u p (p + L)) → Rn (d + 1) mX3_goUp (fun v A' => v = none ∧ P A') 51 [some (.inr (.inl 30)), some (.inl ((r : Int))), some (.inl (t p)), some (.inl ((u : Int))), some (.inl ((i : Int))), none, none] [] B := fun hn => by
        refine w_X3_goUp_51 (w_X3_goUp_54 ⟨fun _ => ?_, fun z => absurd rfl z⟩)
        rw [tn]
        refine ⟨⟨by omega, by omega⟩, w_X3_goUp_78 ⟨fun _ => ?_, fun z => absurd rfl z⟩⟩
        rw [tn]
        exact ⟨⟨by omega, by omega⟩, w_X3_goUp_102 (put2 1000000 (-1000000) (Or.inr ⟨hn, by decide, by omega⟩) (Or.inr ⟨hn, by decide, by omega⟩) _ _)⟩
      refine ⟨fun z => no (fun L w => ?_), fun z => ?_⟩
      · have := ((leaf (p + L)).1 w).1.2.1
        omega
      · obtain ⟨c, ec⟩ : ∃ c : Nat, t p = (c : Int) := ⟨(t p).toNat, (by omega)⟩
        have hc : c < 256 := (by omega)
        have mbB : mb B i c ↔ as i (c : Int) := by
          unfold mb
          rw [f0.2 29 (by decide)]
          exact k3 c hc
        rw [ec]
        rw [ec] at no
        refine sX_mayBe k2 hc (fun hm => ⟨fun z => absurd z (by decide), fun _ => ?_⟩) (fun hm => ⟨fun _ => no (fun L w => ?_), fun z => absurd rfl z⟩)
        · have dn := hd (by omega) u (by omega)
          have B33 : B.1 33 = A.1 33 := f.1 33 (by decide)
          have B34 : B.1 34 = A.1 34 := f.1 34 (by decide)
          have gw := af_gw (A0 := A0) (gX u (by omega)) (gC u (by omega))
          have sb : ∀ l, Af A0 X C u (p + 1) (p + 1 + l) → l + 1 ≤ 3000 := fun l w => by
            have := (gw _ _ w).2
            omega
          have st : ∀ L, (∃ l', L = l' + 1 ∧ Af A0 X C u (p + 1) (p + 1 + l')) ↔ Ah X C u p (p + L) := fun L => by
            rw [leaf (p + L)]
            constructor
            · rintro ⟨l', e, w⟩
              rw [show p + L = p + 1 + l' by omega]
              exact ⟨⟨hp, (by omega), by rw [ec]; exact mbB.1 hm⟩, w⟩
            · rintro ⟨_, w⟩
              have := (gw _ _ w).1
              exact ⟨L - 1, (by omega), by rw [show p + 1 + (L - 1) = p + L by omega]; exact w⟩
          have v1 := mnV_iff (bd' := N - p) (mnV_up dn.1 sb) (by omega) st
          have v2 := mxV_iff (bd' := N - p) (mxV_up dn.2 sb) (by omega) st
          have b33 : inR ((A.1 33 u) + 1) := by
            rcases v1 with ⟨l, e, b, _⟩ | ⟨_, b, c⟩
            · exact inR_b (by omega) (by omega)
            · exact inR_b (by omega) (by omega)
          have b34 : inR ((A.1 34 u) + 1) := by
            rcases v2 with ⟨l, e, b, _⟩ | ⟨_, b, c⟩
            · exact inR_b (by omega) (by omega)
            · exact inR_b (by omega) (by omega)
          refine w_X3_goUp_54 ⟨fun z => absurd z (by decide), fun _ => ?_⟩
          rw [tn, B33]
          refine ⟨⟨by omega, by omega⟩, b33, ⟨by omega, by omega⟩, w_X3_goUp_78 ⟨fun z => absurd z (by decide), fun _ => ?_⟩⟩
          rw [tn]
          have e34 : (iz_pI B 31 (uz (B.1 31) u (A.1 33 u + 1))).1 34 = A.1 34 := B34
          rw [e34]
          have go := put2 (A.1 33 u + 1) (A.1 34 u + 1) v1 v2 (i : Int) 1
          rw [ec] at go
          exact ⟨⟨by omega, by omega⟩, b34, ⟨by omega, by omega⟩, w_X3_goUp_102 go⟩
        · have := ((leaf (p + L)).1 w).1.2.2
          rw [ec] at this
          exact hm (mbB.2 this)
    · -- a row or a choice
      rw [k1, k2]
      have hl := h l (by omega)
      have hr' := h (u - 1) (by omega)
      have eu : ((u : Int) - 1).toNat = u - 1 := (by omega)
      refine ⟨⟨by omega, by omega⟩, ⟨by omega, by omega⟩, fun _ => ⟨⟨by omega, by omega⟩, ⟨by omega, by omega⟩, fun z2 => ?_, fun z1 => ?_⟩, fun z => by omega⟩
      · -- both
        have eqv := ah_or fN fC (Nat.zero_le u) (show u ≤ r by omega) z2 k1 p
        have v1 := mnV_iff (bd' := N - p) (mnV_or hl.1 hr'.1) (Nat.le_refl _) (fun L => (eqv (p + L)).symm)
        have v2 := mxV_iff (bd' := N - p) (mxV_or (by omega) hl.2 hr'.2) (Nat.le_refl _) (fun L => (eqv (p + L)).symm)
        refine w_X3_goUp_142 (w_X3_goUp_149 ⟨fun z => absurd z (by decide), fun _ => ?_⟩)
        rw [tn, tn, eu]
        refine ⟨⟨by omega, by omega⟩, ⟨by omega, by omega⟩, ⟨by omega, by omega⟩, w_X3_goUp_187 ⟨fun z => absurd z (by decide), fun _ => ?_⟩⟩
        rw [tn, tn, eu]
        exact ⟨⟨by omega, by omega⟩, ⟨by omega, by omega⟩, ⟨by omega, by omega⟩, put2 _ _ v1 v2 _ _⟩
      · have z1 : A0.1 39 u = 1 := (by omega)
        have eqv := ah_row fN fC (Nat.zero_le u) (show u ≤ r by omega) z1 k1 p
        rw [tn]
        refine ⟨⟨by omega, by omega⟩, fun s0 => ?_, fun s1 => ?_⟩
        · have v1 := mnV_iff (T := fun L => Ah X C u p (p + L)) (bd' := N - p) hl.1 (Nat.le_refl _) (fun L => by rw [eqv (p + L)]; exact ⟨Or.inl, fun w => w.elim id (fun w => absurd s0 w.1)⟩)
          have v2 := mxV_iff (T := fun L => Ah X C u p (p + L)) (bd' := N - p) hl.2 (Nat.le_refl _) (fun L => by rw [eqv (p + L)]; exact ⟨Or.inl, fun w => w.elim id (fun w => absurd s0 w.1)⟩)
          refine w_X3_goUp_149 ⟨fun _ => ?_, fun z => absurd rfl z⟩
          rw [tn, tn]
          refine ⟨⟨by omega, by omega⟩, ⟨by omega, by omega⟩, w_X3_goUp_187 ⟨fun _ => ?_, fun z => absurd rfl z⟩⟩
          rw [tn, tn]
          exact ⟨⟨by omega, by omega⟩, ⟨by omega, by omega⟩, put2 _ _ v1 v2 _ _⟩
        · have v1 := mnV_iff (T := fun L => Ah X C u p (p + L)) (bd' := N - p) (mnV_or hl.1 hr'.1) (Nat.le_refl _) (fun L => by rw [eqv (p + L)]; exact or_congr Iff.rfl ⟨fun w => ⟨s1, w⟩, fun w => w.2⟩)
          have v2 := mxV_iff (T := fun L => Ah X C u p (p + L)) (bd' := N - p) (mxV_or (by omega) hl.2 hr'.2) (Nat.le_refl _) (fun L => by rw [eqv (p + L)]; exact or_congr Iff.rfl ⟨fun w => ⟨s1, w⟩, fun w => w.2⟩)
          refine w_X3_goUp_142 (w_X3_goUp_149 ⟨fun z => absurd z (by decide), fun _ => ?_⟩)
          rw [tn, tn, eu]
          refine ⟨⟨by omega, by omega⟩, ⟨by omega, by omega⟩, ⟨by omega, by omega⟩, w_X3_goUp_187 ⟨fun z => absurd z (by decide), fun _ => ?_⟩⟩
          rw [tn, tn, eu]
          exact ⟨⟨by omega, by omega⟩, ⟨by omega, by omega⟩, ⟨by omega, by omega⟩, put2 _ _ v1 v2 _ _⟩
