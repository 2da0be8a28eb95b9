/-! ===== kth, order, unique, oftenest ===== -/
theorem sX_kth {d : Nat} {A : iz_A} {x : Ix} {k r lo hi dn : Nat} {P : Int → iz_A → Prop} (h1 : TxOk x) (h2 : PmOk x) (h3 : SoOk x) (h4 : XI x A) (hk : (k : Int) < 2147483648) (hr : r < ixn x) (ha : sm (fsh x) r ≤ k) (hb : k < sm (fsh x) r + fsh x r) (g : Rg x (ixs x r) (ixc x r + (k - sm (fsh x) r) + 1) lo hi) (hd : A.1 17 3 = (dn : Int)) (hP : ∀ C, fr [17] A C → HdX C 0 (ixs x r) (ixc x r + (k - sm (fsh x) r) + 1) lo hi → P ((ixc x r + (k - sm (fsh x) r) + 1 : Nat) : Int) C) : Ci (d + 5) 84 [.inr (.inl 44), .inl (k : Int)] A P := by
  have nb := h1.2.2.1
  have fbr := fsh_bd h1 h2 hr
  have clr := c_le h1 h2 h3 hr
  have lbr := lft_bd h1 (h2.1 r hr).1
  refine e_X7_holdInOrder ?_
  have := dwl (P := fun i => Rn (d + 4) mX7_holdInOrder (fun v A' => ∃ y, v = some (.inl y) ∧ P y A') 4 [some (.inr (.inl 44)), some (.inl ((k : Int))), some (.inl (((k - sm (fsh x) i : Nat) : Int))), some (.inl ((i : Int)))] [] A) (a := 0) (n := r) ?_ (fun i _ hi ih => ?_) (Nat.zero_le _)
  · exact this
  · refine w_X7_holdInOrder_4 ?_
    rw [h4.1]
    refine ⟨fun z => by omega, fun _ => sX_new h1 h2 h3 h4 hr ⟨fun z => by omega, fun _ => ⟨⟨by omega, by omega⟩, ⟨by omega, by omega⟩, ?_⟩⟩⟩
    rw [tn, (h4.2.2.2.2 r hr).2.1, (h4.2.2.2.2 r hr).1]
    refine ⟨inR_b (by omega) (by omega), inR_b (by omega) (by omega), ?_⟩
    rw [show ((ixc x r : Int) + ((k - sm (fsh x) r : Nat) : Int) + 1) = ((ixc x r + (k - sm (fsh x) r) + 1 : Nat) : Int) by omega]
    refine sX_become h1 h2 h4 g ⟨dn, hd⟩ fun C fC hC => ⟨_, rfl, ?_⟩
    rw [hC.2.2.1]
    exact hP C fC hC
  · have m1 : sm (fsh x) (i + 1) ≤ sm (fsh x) r := sm_mono _ hi
    rw [sm_s] at m1
    refine w_X7_holdInOrder_4 ?_
    rw [h4.1]
    refine ⟨fun z => by omega, fun _ => sX_new h1 h2 h3 h4 (i := i) (by omega) ⟨fun _ => sX_new h1 h2 h3 h4 (i := i) (by omega) ⟨inR_b (by omega) (by omega), inR_b (by omega) (by omega), ?_⟩, fun z => by omega⟩⟩
    rw [show ((k - sm (fsh x) i : Nat) : Int) - (fsh x i : Int) = ((k - sm (fsh x) (i + 1) : Nat) : Int) by rw [sm_s]; omega]
    exact ih
theorem sX_kthN {d : Nat} {A : iz_A} {x : Ix} {k : Nat} {P : Int → iz_A → Prop} (h1 : TxOk x) (h2 : PmOk x) (h3 : SoOk x) (h4 : XI x A) (hk : (k : Int) < 2147483648) (ha : sm (fsh x) (ixn x) ≤ k) (hP : P (-1) A) : Ci (d + 5) 84 [.inr (.inl 44), .inl (k : Int)] A P := by
  have nb := h1.2.2.1
  refine e_X7_holdInOrder ?_
  have := dwl (P := fun i => Rn (d + 4) mX7_holdInOrder (fun v A' => ∃ y, v = some (.inl y) ∧ P y A') 4 [some (.inr (.inl 44)), some (.inl ((k : Int))), some (.inl (((k - sm (fsh x) i : Nat) : Int))), some (.inl ((i : Int)))] [] A) (a := 0) (n := ixn x) ?_ (fun i _ hi ih => ?_) (Nat.zero_le _)
  · exact this
  · refine w_X7_holdInOrder_4 ?_
    rw [h4.1]
    exact ⟨fun _ => ⟨_, rfl, hP⟩, fun z => by omega⟩
  · have m1 : sm (fsh x) (i + 1) ≤ sm (fsh x) (ixn x) := sm_mono _ hi
    rw [sm_s] at m1
    refine w_X7_holdInOrder_4 ?_
    rw [h4.1]
    refine ⟨fun z => by omega, fun _ => sX_new h1 h2 h3 h4 (i := i) (by omega) ⟨fun _ => sX_new h1 h2 h3 h4 (i := i) (by omega) ⟨inR_b (by omega) (by omega), inR_b (by omega) (by omega), ?_⟩, fun z => by omega⟩⟩
    rw [show ((k - sm (fsh x) i : Nat) : Int) - (fsh x i : Int) = ((k - sm (fsh x) (i + 1) : Nat) : Int) by rw [sm_s]; omega]
    exact ih
theorem sM_kth {d : Nat} {A : iz_A} {x : Ix} {k r lo hi : Nat} {P : Int → iz_A → Prop} (h1 : TxOk x) (h2 : PmOk x) (h3 : SoOk x) (h5 : MI x A) (hk : (k : Int) < 2147483648) (hr : r < ixn x) (ha : sm (fsh x) r ≤ k) (hb : k < sm (fsh x) r + fsh x r) (hk2 : k ≤ 9000000) (g : Rg x (ixs x r) (ixc x r + (k - sm (fsh x) r) + 1) lo hi) (hP : ∀ C, fr [55, 69] A C → ff [22, 23, 24, 26] (A.1 55) (C.1 55) → HdM C 0 (ixc x r + (k - sm (fsh x) r) + 1) lo hi → (∀ j, j < ixc x r + (k - sm (fsh x) r) + 1 → C.1 69 j = ixt x (ixs x r + j)) → P ((ixc x r + (k - sm (fsh x) r) + 1 : Nat) : Int) C) : Ci (d + 4) 229 [.inr (.inl 55), .inl (k : Int)] A P := by
  have nb := h1.2.2.1
  have fbr := fsh_bd h1 h2 hr
  have clr := c_le h1 h2 h3 hr
  have lbr := lft_bd h1 (h2.1 r hr).1
  have fe : fsh x r = lft x (ixs x r) - ixc x r := rfl
  refine e_X11_kth ⟨fun z => absurd z (by rw [h5.1]; decide), fun _ => ⟨fun _ => ?_, fun z => by omega⟩⟩
  refine dwl (P := fun i => Rn (d + 3) mX11_kth (fun v A' => ∃ y, v = some (.inl y) ∧ P y A') 17 [some (.inr (.inl 55)), some (.inl ((k : Int))), some (.inl ((sm (fsh x) i : Int))), some (.inl ((i : Int)))] [] A) (a := 0) (n := r) ?_ (fun i _ hi ih => ?_) (Nat.zero_le _)
  · refine w_X11_kth_17 ?_
    rw [h5.2.1]
    refine ⟨fun z => by omega, fun _ => ⟨inR_b (by omega) (by omega), sM_fresh h1 h2 h3 h5 hr ⟨fun z => by omega, fun _ => ⟨⟨by omega, by omega⟩, ⟨by omega, by omega⟩, ?_⟩⟩⟩⟩
    rw [tn, (h5.2.2.2.2.2.1 r hr).2, (h5.2.2.2.2.2.1 r hr).1]
    refine ⟨inR_b (by omega) (by omega), inR_b (by omega) (by omega), inR_b (by omega) (by omega), ?_⟩
    rw [show ((ixc x r : Int) + 1 + (k : Int) - (sm (fsh x) r : Int)) = ((ixc x r + (k - sm (fsh x) r) + 1 : Nat) : Int) by omega]
    refine sM_become h1 h2 h5 g (by omega) fun C fC eC hC pC => ⟨_, rfl, ?_⟩
    rw [hC.1]
    exact hP C fC eC hC pC
  · have m1 : sm (fsh x) (i + 1) ≤ sm (fsh x) r := sm_mono _ hi
    rw [sm_s] at m1
    refine w_X11_kth_17 ?_
    rw [h5.2.1]
    refine ⟨fun z => by omega, fun _ => ⟨inR_b (by omega) (by omega), sM_fresh h1 h2 h3 h5 (i := i) (by omega) ⟨fun _ => sM_fresh h1 h2 h3 h5 (i := i) (by omega) ⟨inR_b (by omega) (by omega), inR_b (by omega) (by omega), ?_⟩, fun z => by omega⟩⟩⟩
    exact ih
theorem sM_kthN {d : Nat} {A : iz_A} {x : Ix} {k : Nat} {P : Int → iz_A → Prop} (h1 : TxOk x) (h2 : PmOk x) (h3 : SoOk x) (h5 : MI x A) (hk : (k : Int) < 2147483648) (ha : sm (fsh x) (ixn x) ≤ k) (hP : P (-1) A) : Ci (d + 4) 229 [.inr (.inl 55), .inl (k : Int)] A P := by
  have nb := h1.2.2.1
  refine e_X11_kth ⟨fun z => absurd z (by rw [h5.1]; decide), fun _ => ⟨fun _ => ?_, fun z => by omega⟩⟩
  refine dwl (P := fun i => Rn (d + 3) mX11_kth (fun v A' => ∃ y, v = some (.inl y) ∧ P y A') 17 [some (.inr (.inl 55)), some (.inl ((k : Int))), some (.inl ((sm (fsh x) i : Int))), some (.inl ((i : Int)))] [] A) (a := 0) (n := ixn x) ?_ (fun i _ hi ih => ?_) (Nat.zero_le _)
  · refine w_X11_kth_17 ?_
    rw [h5.2.1]
    exact ⟨fun _ => ⟨_, rfl, hP⟩, fun z => by omega⟩
  · have m1 : sm (fsh x) (i + 1) ≤ sm (fsh x) (ixn x) := sm_mono _ hi
    rw [sm_s] at m1
    refine w_X11_kth_17 ?_
    rw [h5.2.1]
    refine ⟨fun z => by omega, fun _ => ⟨inR_b (by omega) (by omega), sM_fresh h1 h2 h3 h5 (i := i) (by omega) ⟨fun _ => sM_fresh h1 h2 h3 h5 (i := i) (by omega) ⟨inR_b (by omega) (by omega), inR_b (by omega) (by omega), ?_⟩, fun z => by omega⟩⟩⟩
    exact ih
theorem sm_find (f : Nat → Nat) {n k : Nat} (h : k < sm f n) : ∃ r, r < n ∧ sm f r ≤ k ∧ k < sm f r + f r := by
  induction n with
  | zero => exact absurd h (Nat.not_lt_zero _)
  | succ n ih =>
    rw [sm_s] at h
    by_cases c : k < sm f n
    · obtain ⟨r, r1, r2⟩ := ih c
      exact ⟨r, (by omega), r2⟩
    · exact ⟨n, (by omega), (by omega), h⟩
theorem b_kth {A : iz_A} {I : iz_A → Prop} {v : Int} {x : Ix} (hv : inR v) (hx : HdAt x A) (hI0 : I A) (hI : XM x A → ∀ C, fr [17, 55, 69] A C → ff [22, 23, 24, 26] (A.1 55) (C.1 55) → HR x C → I C) : Bo 141 229 [.inl v] [.inl v] A I := by
  by_cases h0 : 0 ≤ v
  · obtain ⟨k, rfl⟩ : ∃ k : Nat, v = (k : Int) := ⟨v.toNat, (by omega)⟩
    have hk := hv.2
    rcases hx with hn | ⟨hx, p0, len0, lo0, hi0, dn, g0, hl0, hd0, hX, hM, hp0, hq0⟩
    · refine bo_bad (d := 3) (d' := 1) (by decide) (by decide) hI0 (fun P hP => e_X10_kth (d := 2) ⟨fun z => by omega, fun _ => e_X7_holdInOrder (w_X7_holdInOrder_4 ⟨fun _ => ⟨_, rfl, _, rfl, hP⟩, fun z => absurd (by rw [hn.1]; decide) z⟩)⟩) (fun P hP => e_X11_kth (d := 0) ⟨fun _ => ⟨_, rfl, hP⟩, fun z => absurd hn.2.2.1 z⟩)
    · obtain ⟨h1, h2, h3, h4, h5⟩ := id hx
      by_cases c : k < sm (fsh x) (ixn x)
      · obtain ⟨r, hr, ha, hb⟩ := sm_find (fsh x) c
        have fe : fsh x r = lft x (ixs x r) - ixc x r := rfl
        have bd : sm (fsh x) (ixn x) ≤ 9000000 := dfn_bd h1 h2 (v := 0) (Nat.le_refl _)
        obtain ⟨lo, hi, g⟩ := rg_ex h2 (ixs x r) (ixc x r + (k - sm (fsh x) r) + 1) (h2.1 r hr).1
        refine Ci_mono (d := 6) (by decide) (e_X10_kth (d := 5) ⟨fun z => by omega, fun _ => sX_kth h1 h2 h3 h4 hk hr ha hb g hX.1 fun B fB hB => ⟨_, rfl, ?_⟩⟩) (fun _ _ z => z)
        have h5' : MI x B := MI_k (m := []) h5 fB (by decide) (ff_eq (fB.1 55 (by decide))) (by decide)
        refine Ci_mono (d := 4) (by decide) (sM_kth (d := 0) (P := fun x2 A2 => _ = x2 ∧ I A2) h1 h2 h3 h5' hk hr ha hb (by omega) g fun C fC eC hC pC => ⟨rfl, ?_⟩) (fun _ _ z => z)
        refine hI hx C (fr_mo (fr_tr fB fC) (by decide)) (by rw [← fB.1 55 (by decide)]; exact eC) (hr_become (q := ixs x r) g (by omega) (al_rf _ _ _) ?_ hC pC)
        unfold HdX
        rw [fC.1 17 (by decide)]
        exact hB
      · exact bo_bad (d := 6) (d' := 4) (by decide) (by decide) hI0 (fun P hP => e_X10_kth (d := 5) ⟨fun z => by omega, fun _ => sX_kthN h1 h2 h3 h4 hk (by omega) ⟨_, rfl, hP⟩⟩) (fun P hP => sM_kthN h1 h2 h3 h5 hk (by omega) hP)
  · exact bo_bad (d := 1) (d' := 1) (by decide) (by decide) hI0 (fun P hP => e_X10_kth (d := 0) ⟨fun _ => ⟨_, rfl, hP⟩, fun z => by omega⟩) (fun P hP => e_X11_kth (d := 0) ⟨fun _ => ⟨_, rfl, hP⟩, fun _ => ⟨fun z => by omega, fun _ => ⟨_, rfl, hP⟩⟩⟩)
theorem b_order {A : iz_A} {I : iz_A → Prop} {x : Ix} (hx : HdAt x A) (hI : I A) : Bo 142 230 [] [] A I := by
  rcases hx with hn | ⟨hx, p, len, lo, hi, dn, g, hl, hd, hX, hM, hp, hq⟩
  · exact bo_bad (d := 1) (d' := 1) (by decide) (by decide) hI (fun P hP => e_X10_order (d := 0) ⟨fun _ => ⟨_, rfl, hP⟩, fun z => absurd (by rw [hn.1]; decide) z⟩) (fun P hP => e_X11_order (d := 0) ⟨fun z => absurd hn.2.2.1 z, fun _ => ⟨_, rfl, hP⟩⟩)
  · obtain ⟨h1, h2, h3, h4, h5⟩ := id hx
    have np := n_pos h1
    have nb := h1.2.2.1
    obtain ⟨g1, g2, g3, g4, g5, g6, g7⟩ := g
    have hlo : lo < ixn x := (by omega)
    have lp := lft_bd h1 g1
    have cl := c_le h1 h2 h3 hlo
    have lb := lft_bd h1 (h2.1 lo hlo).1
    by_cases hz : len = 0
    · refine bo_both (d := 2) (d' := 1) (by decide) (by decide) 0 hI (fun P hP => e_X10_order (d := 1) ⟨fun z => by rw [h4.1] at z; omega, fun _ => e_X7_lesserThanHeld (d := 0) ⟨fun z => absurd (by rw [hX.2.2.1, hz]; rfl) z, fun _ => ⟨_, rfl, _, rfl, hP⟩⟩⟩) (fun P hP => e_X11_order (d := 0) ⟨fun _ => ⟨fun z => absurd (by rw [hM.1, hz]; rfl) z, fun _ => ⟨_, rfl, hP⟩⟩, fun z => absurd z (by rw [h5.1]; decide)⟩)
    · have bds : ∀ i, i ≤ lo → sm (fsh x) i ≤ 9000000 := fun i hi => dfn_bd h1 h2 (v := 0) (n := i) (by omega)
      refine bo_both (d := 6) (d' := 4) (by decide) (by decide) ((len : Int) - (ixc x lo : Int) - 1 + (sm (fsh x) lo : Int)) hI (fun P hP => ?_) (fun P hP => ?_)
      · refine e_X10_order (d := 5) ⟨fun z => by rw [h4.1] at z; omega, fun _ => e_X7_lesserThanHeld (d := 4) ?_⟩
        rw [hX.2.2.1, hX.2.2.2.1, tn, (h4.2.2.2.2 lo hlo).2.1]
        refine ⟨fun _ => ⟨⟨by omega, by omega⟩, inR_b (by omega) (by omega), inR_b (by omega) (by omega), ?_⟩, fun z => by omega⟩
        have := dwl (P := fun i => Rn 4 mX7_lesserThanHeld (fun v A' => ∃ y, v = some (.inl y) ∧ ∃ w, (some (.inl y) : Option iz_V) = some (.inl w) ∧ P w A') 40 [some (.inr (.inl 44)), some (.inl ((len : Int) - (ixc x lo : Int) - 1 + (sm (fsh x) i : Int))), some (.inl ((i : Int)))] [] A) (a := 0) (n := lo) ?_ (fun i _ hi ih => ?_) (Nat.zero_le _)
        · rw [show (len : Int) - (ixc x lo : Int) - 1 + ((sm (fsh x) 0 : Nat) : Int) = (len : Int) - (ixc x lo : Int) - 1 from Int.add_zero _] at this
          exact this
        · refine w_X7_lesserThanHeld_40 ?_
          rw [hX.2.2.2.1]
          exact ⟨fun _ => ⟨_, rfl, _, rfl, hP⟩, fun z => by omega⟩
        · have b1 := bds i (by omega)
          have fb := fsh_bd h1 h2 (i := i) (by omega)
          refine w_X7_lesserThanHeld_40 ?_
          rw [hX.2.2.2.1]
          refine ⟨fun z => by omega, fun _ => sX_new h1 h2 h3 h4 (i := i) (by omega) ⟨inR_b (by omega) (by omega), inR_b (by omega) (by omega), ?_⟩⟩
          rw [show (len : Int) - (ixc x lo : Int) - 1 + (sm (fsh x) i : Int) + (fsh x i : Int) = (len : Int) - (ixc x lo : Int) - 1 + (sm (fsh x) (i + 1) : Int) by rw [sm_s]; omega]
          exact ih
      · refine e_X11_order (d := 3) ⟨fun _ => ?_, fun z => absurd z (by rw [h5.1]; decide)⟩
        rw [hM.1, hM.2.1, tn, (h5.2.2.2.2.2.1 lo hlo).2]
        refine ⟨fun _ => ⟨inR_b (by omega) (by omega), ⟨by omega, by omega⟩, inR_b (by omega) (by omega), ?_⟩, fun z => by omega⟩
        have := dwl (P := fun i => Rn 3 mX11_order (fun v A' => ∃ y, v = some (.inl y) ∧ P y A') 37 [some (.inr (.inl 55)), some (.inl ((len : Int) - 1 - (ixc x lo : Int) + (sm (fsh x) i : Int))), some (.inl ((i : Int)))] [] A) (a := 0) (n := lo) ?_ (fun i _ hi ih => ?_) (Nat.zero_le _)
        · rw [show (len : Int) - 1 - (ixc x lo : Int) + ((sm (fsh x) 0 : Nat) : Int) = (len : Int) - 1 - (ixc x lo : Int) from Int.add_zero _] at this
          exact this
        · refine w_X11_order_37 ?_
          rw [hM.2.1]
          refine ⟨fun _ => ⟨_, rfl, ?_⟩, fun z => by omega⟩
          rw [show (len : Int) - 1 - (ixc x lo : Int) + (sm (fsh x) lo : Int) = (len : Int) - (ixc x lo : Int) - 1 + (sm (fsh x) lo : Int) by omega]
          exact hP
        · have b1 := bds i (by omega)
          have fb := fsh_bd h1 h2 (i := i) (by omega)
          refine w_X11_order_37 ?_
          rw [hM.2.1]
          refine ⟨fun z => by omega, fun _ => sM_fresh h1 h2 h3 h5 (i := i) (by omega) ⟨inR_b (by omega) (by omega), inR_b (by omega) (by omega), ?_⟩⟩
          rw [show (len : Int) - 1 - (ixc x lo : Int) + (sm (fsh x) i : Int) + (fsh x i : Int) = (len : Int) - 1 - (ixc x lo : Int) + (sm (fsh x) (i + 1) : Int) by rw [sm_s]; omega]
          exact ih
theorem b_unique {A : iz_A} {I : iz_A → Prop} {v : Int} (hx : IdxAt A) (hI : I A) : Bo 146 235 [.inl v] [.inl v] A I := by
  rcases row_cases v hx with ⟨x, p, ⟨h1, h2, h3, h4, h5⟩, rfl, hp⟩ | ⟨n1, n2⟩
  · have nb := h1.2.2.1
    have hr := (h2.2 p hp).1
    have lb := lft_bd h1 hp
    by_cases hz : ixt x p < 0
    · refine bo_bad (d := 2) (d' := 2) (by decide) (by decide) hI (fun P hP => ?_) (fun P hP => ?_)
      · refine e_X10_unique (d := 1) (sX_hasK h4 hp ⟨fun z => absurd z n10, fun _ => ⟨⟨by omega, by omega⟩, ?_⟩⟩)
        rw [tn, (h4.2.2.1 p hp).1]
        exact ⟨fun _ => ⟨_, rfl, hP⟩, fun z => absurd hz z⟩
      · refine e_X11_unique (d := 1) (sM_isRowK h5 hp ⟨fun z => absurd z n10, fun _ => ⟨⟨by omega, by omega⟩, ?_⟩⟩)
        rw [tn, (h5.2.2.2.1 p hp).1, if_pos hz]
        exact ⟨fun z => absurd z (by decide), fun _ => ⟨_, rfl, hP⟩⟩
    · have hc := c_le h1 h2 h3 hr
      rw [(h2.2 p hp).2] at hc
      by_cases hn : ixr x p + 1 < ixn x
      · have hc2 := c_le' h1 h2 h3 hn
        rw [(h2.2 p hp).2] at hc2
        refine bo_both (d := 5) (d' := 3) (by decide) (by decide) (if (lft x p : Int) ≤ (if (ixc x (ixr x p) : Int) < (ixc x (ixr x p + 1) : Int) then (ixc x (ixr x p + 1) : Int) else (ixc x (ixr x p) : Int)) then 0 else (if (ixc x (ixr x p) : Int) < (ixc x (ixr x p + 1) : Int) then (ixc x (ixr x p + 1) : Int) else (ixc x (ixr x p) : Int)) + 1) hI (fun P hP => ?_) (fun P hP => ?_)
        · refine e_X10_unique (d := 4) (sX_hasK h4 hp ⟨fun z => absurd z n10, fun _ => ⟨⟨by omega, by omega⟩, ?_⟩⟩)
          rw [tn, (h4.2.2.1 p hp).1]
          refine ⟨fun z => absurd z hz, fun _ => e_X7_leastAlone ?_⟩
          rw [h4.1, tn, (h4.2.2.1 p hp).2.2, tn, show ((ixr x p : Int) + 1).toNat = ixr x p + 1 by omega, (h4.2.2.2.2 _ hr).2.1, (h4.2.2.2.2 _ hn).2.1]
          refine ⟨⟨by omega, by omega⟩, ⟨by omega, by omega⟩, inR_b (by omega) (by omega), fun z => by omega, fun _ => ⟨inR_b (by omega) (by omega), ⟨by omega, by omega⟩, sX_left h1 h4 hp ⟨fun z => ⟨_, rfl, _, rfl, ?_⟩, fun z => ⟨?_, _, rfl, _, rfl, ?_⟩⟩⟩⟩
          · rw [if_pos z] at hP; exact hP
          · split <;> exact inR_b (by omega) (by omega)
          · rw [if_neg z] at hP; exact hP
        · refine e_X11_unique (d := 2) (sM_isRowK h5 hp ⟨fun z => absurd z n10, fun _ => ⟨⟨by omega, by omega⟩, ?_⟩⟩)
          rw [h5.2.1, tn, (h5.2.2.2.1 p hp).1, if_neg hz, (h5.2.2.2.1 p hp).2.2, tn, show ((ixr x p : Int) + 1).toNat = ixr x p + 1 by omega, (h5.2.2.2.2.2.1 _ hr).2, (h5.2.2.2.2.2.1 _ hn).2]
          refine ⟨fun _ => ⟨⟨by omega, by omega⟩, inR_b (by omega) (by omega), fun z => by omega, fun _ => ⟨inR_b (by omega) (by omega), ⟨by omega, by omega⟩, ⟨by omega, by omega⟩, fun z => ⟨inR_b (by omega) (by omega), sM_left h1 h5 hp ⟨fun z2 => ⟨_, rfl, ?_⟩, fun z2 => ⟨_, rfl, ?_⟩⟩⟩, fun z => ⟨⟨by omega, by omega⟩, inR_b (by omega) (by omega), sM_left h1 h5 hp ⟨fun z2 => ⟨_, rfl, ?_⟩, fun z2 => ⟨_, rfl, ?_⟩⟩⟩⟩⟩, fun z => absurd (Int.not_lt.mp hz) z⟩
          · rw [if_pos (by split <;> omega)] at hP; exact hP
          · rw [if_neg (by split <;> omega)] at hP
            rw [show (1 + (ixc x (ixr x p + 1) : Int)) = (if (ixc x (ixr x p) : Int) < (ixc x (ixr x p + 1) : Int) then (ixc x (ixr x p + 1) : Int) else (ixc x (ixr x p) : Int)) + 1 by split <;> omega]
            exact hP
          · rw [if_pos (by split <;> omega)] at hP; exact hP
          · rw [if_neg (by split <;> omega)] at hP
            rw [show (1 + (ixc x (ixr x p) : Int)) = (if (ixc x (ixr x p) : Int) < (ixc x (ixr x p + 1) : Int) then (ixc x (ixr x p + 1) : Int) else (ixc x (ixr x p) : Int)) + 1 by split <;> omega]
            exact hP
      · refine bo_both (d := 5) (d' := 3) (by decide) (by decide) (if (lft x p : Int) ≤ (ixc x (ixr x p) : Int) then 0 else (ixc x (ixr x p) : Int) + 1) hI (fun P hP => ?_) (fun P hP => ?_)
        · refine e_X10_unique (d := 4) (sX_hasK h4 hp ⟨fun z => absurd z n10, fun _ => ⟨⟨by omega, by omega⟩, ?_⟩⟩)
          rw [tn, (h4.2.2.1 p hp).1]
          refine ⟨fun z => absurd z hz, fun _ => e_X7_leastAlone ?_⟩
          rw [h4.1, tn, (h4.2.2.1 p hp).2.2, tn, (h4.2.2.2.2 _ hr).2.1]
          refine ⟨⟨by omega, by omega⟩, ⟨by omega, by omega⟩, inR_b (by omega) (by omega), fun _ => sX_left h1 h4 hp ⟨fun z => ⟨_, rfl, _, rfl, ?_⟩, fun z => ⟨inR_b (by omega) (by omega), _, rfl, _, rfl, ?_⟩⟩, fun z => by omega⟩
          · rw [if_pos z] at hP; exact hP
          · rw [if_neg z] at hP; exact hP
        · refine e_X11_unique (d := 2) (sM_isRowK h5 hp ⟨fun z => absurd z n10, fun _ => ⟨⟨by omega, by omega⟩, ?_⟩⟩)
          rw [h5.2.1, tn, (h5.2.2.2.1 p hp).1, if_neg hz, (h5.2.2.2.1 p hp).2.2, tn, (h5.2.2.2.2.2.1 _ hr).2]
          refine ⟨fun _ => ⟨⟨by omega, by omega⟩, inR_b (by omega) (by omega), fun _ => ⟨⟨by omega, by omega⟩, fun z => ⟨inR_b (by omega) (by omega), sM_left h1 h5 hp ⟨fun z2 => ⟨_, rfl, ?_⟩, fun z2 => ⟨_, rfl, ?_⟩⟩⟩, fun z => ⟨⟨by omega, by omega⟩, inR_b (by omega) (by omega), sM_left h1 h5 hp ⟨fun z2 => ⟨_, rfl, ?_⟩, fun z2 => ⟨_, rfl, ?_⟩⟩⟩⟩, fun z => by omega⟩, fun z => absurd (Int.not_lt.mp hz) z⟩
          · rw [if_pos (by omega)] at hP; exact hP
          · rw [if_neg (by omega)] at hP
            rw [show (1 + 0 : Int) = (ixc x (ixr x p) : Int) + 1 by omega]
            exact hP
          · rw [if_pos (by omega)] at hP; exact hP
          · rw [if_neg (by omega)] at hP
            rw [show (1 + (ixc x (ixr x p) : Int)) = (ixc x (ixr x p) : Int) + 1 by omega]
            exact hP
  · refine bo_bad (d := 2) (d' := 2) (by decide) (by decide) hI (fun P hP => ?_) (fun P hP => ?_)
    · exact e_X10_unique (d := 1) (sX_hasN n1 ⟨fun _ => ⟨_, rfl, hP⟩, fun z => absurd rfl z⟩)
    · exact e_X11_unique (d := 1) (sM_isRowN n2 ⟨fun _ => ⟨_, rfl, hP⟩, fun z => absurd rfl z⟩)
