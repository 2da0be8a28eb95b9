/-! ===== unwound, ask, different, kth, order, unique ===== -/
theorem b_unwound {A : iz_A} {I : iz_A → Prop} {v w : Int} (hx : IdxAt A) (hI : I A) : Bo 155 248 [.inl v, .inl w] [.inl v, .inl w] A I := by
  rcases doc_cases v hx with ⟨x, k, ⟨h1, h2, h3, h4, h5⟩, rfl, hk⟩ | ⟨n1, n2⟩
  · have hb := h1.2.2.1
    have hm := h1.2.1
    have he := end_lt h1 hk
    have ho : ixo x (ixF x k) = k := own_of h1 hk (Nat.le_refl _) (by omega)
    have hl : lft x (ixF x k) = ixl x k := by unfold lft; rw [ho]; omega
    by_cases hw : 0 ≤ w ∧ w < (ixl x k : Int)
    · obtain ⟨i, rfl, hi⟩ := nat_of hw.1 hw.2
      have hq : ixF x k + ixl x k - 1 - i < ixn x := (by omega)
      have ht := t_in h1 (p := ixF x k) (j := ixl x k - 1 - i) (by omega) (by omega)
      rw [show ixF x k + (ixl x k - 1 - i) = ixF x k + ixl x k - 1 - i by omega] at ht
      refine bo_both (d := 5) (d' := 2) (by decide) (by decide) (ixt x (ixF x k + ixl x k - 1 - i)) hI (fun P hP => ?_) (fun P hP => ?_)
      · refine e_X10_unwound (d := 4) (sX_hasDocK h4 hk ⟨fun z => absurd z n10, fun _ => ⟨fun z => by omega, fun _ => ⟨⟨by omega, by omega⟩, ?_⟩⟩⟩)
        rw [tn, h4.2.2.2.1 k (by omega)]
        refine sX_left h1 h4 (by omega) ⟨fun _ => sX_endOf h1 h4 hk ⟨inR_b (by omega) (by omega), inR_b (by omega) (by omega), ⟨by omega, by omega⟩, _, rfl, ?_⟩, fun z => absurd (by rw [hl]; omega) z⟩
        rw [show (((ixF x k + ixl x k : Nat) : Int) - 1 - (i : Int)).toNat = ixF x k + ixl x k - 1 - i by omega, (h4.2.2.1 _ hq).1]
        exact hP
      · refine e_X11_unwound (d := 1) (sM_isDocK h5 hk ⟨fun z => absurd z n10, fun _ => ⟨fun z => by omega, fun _ => ⟨⟨by omega, by omega⟩, ?_⟩⟩⟩)
        rw [tn, (h5.2.2.2.2.1 k hk).1, (h5.2.2.2.2.1 k hk).2]
        refine ⟨fun _ => ⟨⟨by omega, by omega⟩, ⟨by omega, by omega⟩, inR_b (by omega) (by omega), inR_b (by omega) (by omega), inR_b (by omega) (by omega), ⟨by omega, by omega⟩, _, rfl, ?_⟩, fun z => by omega⟩
        rw [show ((ixF x k : Int) + (ixl x k : Int) - 1 - (i : Int)).toNat = ixF x k + ixl x k - 1 - i by omega, (h5.2.2.2.1 _ hq).1, if_neg (by omega)]
        exact hP
    · refine bo_bad (d := 5) (d' := 2) (by decide) (by decide) hI (fun P hP => ?_) (fun P hP => ?_)
      · refine e_X10_unwound (d := 4) (sX_hasDocK h4 hk ⟨fun z => absurd z n10, fun _ => ⟨fun _ => ⟨_, rfl, hP⟩, fun _ => ⟨⟨by omega, by omega⟩, ?_⟩⟩⟩)
        rw [tn, h4.2.2.2.1 k (by omega)]
        refine sX_left h1 h4 (by omega) ⟨fun z => absurd z (by rw [hl]; omega), fun _ => ⟨_, rfl, hP⟩⟩
      · refine e_X11_unwound (d := 1) (sM_isDocK h5 hk ⟨fun z => absurd z n10, fun _ => ⟨fun _ => ⟨_, rfl, hP⟩, fun _ => ⟨⟨by omega, by omega⟩, ?_⟩⟩⟩)
        rw [tn, (h5.2.2.2.2.1 k hk).2]
        exact ⟨fun z => by omega, fun _ => ⟨_, rfl, hP⟩⟩
  · refine bo_bad (d := 2) (d' := 2) (by decide) (by decide) hI (fun P hP => ?_) (fun P hP => ?_)
    · exact e_X10_unwound (d := 1) (sX_hasDocN n1 ⟨fun _ => ⟨_, rfl, hP⟩, fun z => absurd rfl z⟩)
    · exact e_X11_unwound (d := 1) (sM_isDocN n2 ⟨fun _ => ⟨_, rfl, hP⟩, fun z => absurd rfl z⟩)
/-- the signs of the query, of both -/
def InvQ (A : iz_A) : Prop := ∃ n : Nat, n ≤ 200 ∧ A.1 23 6 = (n : Int) ∧ A.1 55 31 = (n : Int) ∧ ∀ i, i < n → A.1 24 i = A.1 73 i ∧ 32 ≤ A.1 73 i ∧ A.1 73 i ≤ 126
theorem b_ask {A : iz_A} {I : iz_A → Prop} {v : Int} (hx : InvQ A) (hI0 : I A) (hI : ∀ C, fr [23, 24, 55, 73] A C → ff [6] (A.1 23) (C.1 23) → ff [31] (A.1 55) (C.1 55) → InvQ C → I C) : Bo 137 203 [.inl v] [.inl v] A I := by
  obtain ⟨n, hn, q1, q2, q3⟩ := id hx
  by_cases hv : (32 ≤ v ∧ v ≤ 126) ∧ n < 200
  · refine Ci_mono (d := 2) (by decide) (e_X10_ask (d := 1) ⟨fun z => by omega, fun _ => ⟨fun z => by omega, fun _ => e_X6_add (d := 0) ?_⟩⟩) (fun _ _ z => z)
    rw [q1, tn]
    refine ⟨fun _ => ⟨⟨by omega, by omega⟩, inR_b (by omega) (by omega), _, rfl, _, rfl, ?_⟩, fun z => by omega⟩
    refine Ci_mono (d := 1) (by decide) (e_X11_ask (d := 0) ⟨fun z => by omega, fun _ => ⟨fun z => by omega, fun _ => ?_⟩⟩) (fun _ _ z => z)
    show (¬ A.1 55 31 = 200 → _) ∧ (A.1 55 31 = 200 → _)
    rw [q2]
    refine ⟨fun _ => ⟨?_, ?_, _, rfl, ?_, ?_⟩, fun z => by omega⟩
    · show 0 ≤ A.1 55 31 ∧ A.1 55 31 < 200
      rw [q2]; exact ⟨by omega, by omega⟩
    · show inR (A.1 55 31 + 1)
      rw [q2]; exact inR_b (by omega) (by omega)
    · show _ = A.1 55 31 + 1
      rw [q2]
    · refine hI _ (fr_pI (fr_pI (fr_pI (fr_pI (fr_mo (fr_rf A) (by decide)) (by decide)) (by decide)) (by decide)) (by decide)) (ff_uz (ff_eq rfl) (by decide)) (ff_uz (ff_eq rfl) (by decide)) ⟨n + 1, (by omega), (show (n : Int) + 1 = ((n + 1 : Nat) : Int) by omega), ?_, fun i hi => ?_⟩
      · show A.1 55 31 + 1 = _
        rw [q2]; omega
      · show uz (A.1 24) n v i = uz (A.1 73) (A.1 55 31).toNat v i ∧ 32 ≤ uz (A.1 73) (A.1 55 31).toNat v i ∧ uz (A.1 73) (A.1 55 31).toNat v i ≤ 126
        rw [q2, tn]
        by_cases c : i = n
        · rw [c, uz_at, uz_at]; omega
        · rw [uz_ne _ _ c, uz_ne _ _ c]; exact q3 i (by omega)
  · refine bo_bad (d := 2) (d' := 1) (by decide) (by decide) hI0 (fun P hP => ?_) (fun P hP => ?_)
    · exact e_X10_ask (d := 1) ⟨fun _ => ⟨_, rfl, hP⟩, fun _ => ⟨fun _ => ⟨_, rfl, hP⟩, fun _ => e_X6_add (d := 0) ⟨fun z => by omega, fun _ => ⟨_, rfl, _, rfl, hP⟩⟩⟩⟩
    · exact e_X11_ask (d := 0) ⟨fun _ => ⟨_, rfl, hP⟩, fun _ => ⟨fun _ => ⟨_, rfl, hP⟩, fun _ => ⟨fun z => by omega, fun _ => ⟨_, rfl, hP⟩⟩⟩⟩
def fsh (x : Ix) (i : Nat) : Nat := lft x (ixs x i) - ixc x i
theorem lft_bd {x : Ix} (h1 : TxOk x) {p : Nat} (hp : p < ixn x) : lft x p < 3000 := by
  have := lft_in h1 hp
  have := h1.2.2.1
  omega
theorem sX_len {d : Nat} {A : iz_A} {x : Ix} {i : Nat} {P : Int → iz_A → Prop} (h1 : TxOk x) (h2 : PmOk x) (h4 : XI x A) (hi : i < ixn x) (hP : P (lft x (ixs x i) : Int) A) : Ci (d + 3) 81 [.inr (.inl 44), .inl (i : Int)] A P := by
  have nb := h1.2.2.1
  refine e_X7_lengthOf ⟨⟨by omega, by omega⟩, ?_⟩
  rw [tn, (h4.2.2.2.2 i hi).1]
  exact sX_left h1 h4 (h2.1 i hi).1 ⟨_, rfl, hP⟩
theorem sX_new {d : Nat} {A : iz_A} {x : Ix} {i : Nat} {P : Int → iz_A → Prop} (h1 : TxOk x) (h2 : PmOk x) (h3 : SoOk x) (h4 : XI x A) (hi : i < ixn x) (hP : P (fsh x i : Int) A) : Ci (d + 4) 82 [.inr (.inl 44), .inl (i : Int)] A P := by
  have nb := h1.2.2.1
  have cl := c_le h1 h2 h3 hi
  have lb := lft_bd h1 (h2.1 i hi).1
  refine e_X7_newOf (sX_len h1 h2 h4 hi ⟨⟨by omega, by omega⟩, ?_⟩)
  rw [tn, (h4.2.2.2.2 i hi).2.1]
  refine ⟨inR_b (by omega) (by omega), _, rfl, ?_⟩
  rw [show ((lft x (ixs x i) : Int) - (ixc x i : Int)) = (fsh x i : Int) by unfold fsh; omega]
  exact hP
theorem sM_fresh {d : Nat} {A : iz_A} {x : Ix} {i : Nat} {P : Int → iz_A → Prop} (h1 : TxOk x) (h2 : PmOk x) (h3 : SoOk x) (h5 : MI x A) (hi : i < ixn x) (hP : P (fsh x i : Int) A) : Ci (d + 2) 227 [.inr (.inl 55), .inl (i : Int)] A P := by
  have nb := h1.2.2.1
  have cl := c_le h1 h2 h3 hi
  have lb := lft_bd h1 (h2.1 i hi).1
  refine e_X11_freshOf ⟨⟨by omega, by omega⟩, ?_⟩
  rw [tn, (h5.2.2.2.2.2.1 i hi).1]
  refine sM_left h1 h5 (h2.1 i hi).1 ⟨⟨by omega, by omega⟩, ?_⟩
  rw [(h5.2.2.2.2.2.1 i hi).2]
  refine ⟨inR_b (by omega) (by omega), _, rfl, ?_⟩
  rw [show ((lft x (ixs x i) : Int) - (ixc x i : Int)) = (fsh x i : Int) by unfold fsh; omega]
  exact hP
theorem fsh_bd {x : Ix} (h1 : TxOk x) (h2 : PmOk x) {i : Nat} (hi : i < ixn x) : fsh x i < 3000 := by
  have lb := lft_bd h1 (h2.1 i hi).1
  unfold fsh
  omega
theorem sm_bd {f : Nat → Nat} {n : Nat} (h : ∀ i, i < n → f i ≤ 3000) : sm f n ≤ 3000 * n := by
  induction n with
  | zero => exact Nat.le_refl _
  | succ n ih =>
    rw [sm_s]
    have := ih (fun i hi => h i (by omega))
    have := h n (by omega)
    omega
/-- what a row adds to the substrings of a length (0: of any) -/
def dfn (x : Ix) (v : Int) (i : Nat) : Nat := if v = 0 then fsh x i else if (ixc x i : Int) < v ∧ v ≤ (lft x (ixs x i) : Int) then 1 else 0
theorem dfn_bd {x : Ix} (h1 : TxOk x) (h2 : PmOk x) {v : Int} {n : Nat} (hn : n ≤ ixn x) : sm (dfn x v) n ≤ 9000000 := by
  have := sm_bd (f := dfn x v) (n := n) (fun i hi => by
    have := fsh_bd h1 h2 (i := i) (by omega)
    unfold dfn
    split
    · omega
    · split <;> omega)
  have := h1.2.2.1
  omega
theorem dfn_0 {x : Ix} {v : Int} {r : Nat} (z : v = 0) : dfn x v r = fsh x r := if_pos z
theorem dfn_1 {x : Ix} {v : Int} {r : Nat} (z : ¬ v = 0) (y : (ixc x r : Int) < v ∧ v ≤ (lft x (ixs x r) : Int)) : dfn x v r = 1 := by
  unfold dfn
  rw [if_neg z, if_pos y]
theorem dfn_2 {x : Ix} {v : Int} {r : Nat} (z : ¬ v = 0) (y : ¬ ((ixc x r : Int) < v ∧ v ≤ (lft x (ixs x r) : Int))) : dfn x v r = 0 := by
  unfold dfn
  rw [if_neg z, if_neg y]
theorem sX_howMany {d : Nat} {A : iz_A} {x : Ix} {v : Int} {P : Int → iz_A → Prop} (h1 : TxOk x) (h2 : PmOk x) (h3 : SoOk x) (h4 : XI x A) (hP : P (sm (dfn x v) (ixn x) : Int) A) : Ci (d + 5) 83 [.inr (.inl 44), .inl v] A P := by
  have nb := h1.2.2.1
  refine e_X7_howManyOf ?_
  refine dwl (P := fun r => Rn (d + 4) mX7_howManyOf (fun v A' => ∃ y, v = some (.inl y) ∧ P y A') 4 [some (.inr (.inl 44)), some (.inl v), some (.inl ((sm (dfn x v) r : Int))), some (.inl ((r : Int)))] [] A) (a := 0) (n := ixn x) ?_ (fun r _ hr ih => ?_) (Nat.zero_le _)
  · refine w_X7_howManyOf_4 ?_
    rw [h4.1]
    exact ⟨fun _ => ⟨_, rfl, hP⟩, fun z => by omega⟩
  · have bd := dfn_bd h1 h2 (v := v) (n := r) (by omega)
    have fb := fsh_bd h1 h2 hr
    rw [show ((r + 1 : Nat) : Int) = (r : Int) + 1 by omega, sm_s] at ih
    refine w_X7_howManyOf_4 ?_
    rw [h4.1, tn, (h4.2.2.2.2 r hr).2.1]
    refine ⟨fun z => by omega, fun _ => ⟨fun z0 => ⟨⟨by omega, by omega⟩, fun z => ⟨inR_b (by omega) (by omega), ?_⟩, fun z => sX_len h1 h2 h4 hr ⟨fun z2 => ⟨inR_b (by omega) (by omega), ?_⟩, fun z2 => ⟨inR_b (by omega) (by omega), inR_b (by omega) (by omega), ?_⟩⟩⟩, fun z0 => sX_new h1 h2 h3 h4 hr ⟨inR_b (by omega) (by omega), inR_b (by omega) (by omega), ?_⟩⟩⟩
    · rw [dfn_2 z0 (by omega)] at ih; exact ih
    · rw [dfn_2 z0 (by omega)] at ih; exact ih
    · rw [dfn_1 z0 (by omega)] at ih; exact ih
    · rw [dfn_0 z0] at ih; exact ih
theorem sM_different {d : Nat} {A : iz_A} {x : Ix} {v : Int} {P : Int → iz_A → Prop} (h1 : TxOk x) (h2 : PmOk x) (h3 : SoOk x) (h5 : MI x A) (hv : 0 ≤ v) (hP : P (sm (dfn x v) (ixn x) : Int) A) : Ci (d + 4) 228 [.inr (.inl 55), .inl v] A P := by
  have nb := h1.2.2.1
  refine e_X11_different ⟨fun z => absurd z (by rw [h5.1]; decide), fun _ => ⟨fun _ => ?_, fun z => by omega⟩⟩
  refine dwl (P := fun r => Rn (d + 3) mX11_different (fun v A' => ∃ y, v = some (.inl y) ∧ P y A') 17 [some (.inr (.inl 55)), some (.inl v), some (.inl ((sm (dfn x v) r : Int))), some (.inl ((r : Int)))] [] A) (a := 0) (n := ixn x) ?_ (fun r _ hr ih => ?_) (Nat.zero_le _)
  · refine w_X11_different_17 ?_
    rw [h5.2.1]
    exact ⟨fun _ => ⟨_, rfl, hP⟩, fun z => by omega⟩
  · have bd := dfn_bd h1 h2 (v := v) (n := r) (by omega)
    have fb := fsh_bd h1 h2 hr
    rw [show ((r + 1 : Nat) : Int) = (r : Int) + 1 by omega, sm_s] at ih
    refine w_X11_different_17 ?_
    rw [h5.2.1, tn, (h5.2.2.2.2.2.1 r hr).2, (h5.2.2.2.2.2.1 r hr).1]
    refine ⟨fun z => by omega, fun _ => ⟨fun z0 => ⟨⟨by omega, by omega⟩, fun z => ⟨inR_b (by omega) (by omega), inR_b (by omega) (by omega), ?_⟩, fun z => ⟨⟨by omega, by omega⟩, sM_left h1 h5 (h2.1 r hr).1 ⟨fun z2 => ⟨inR_b (by omega) (by omega), inR_b (by omega) (by omega), ?_⟩, fun z2 => ⟨inR_b (by omega) (by omega), inR_b (by omega) (by omega), ?_⟩⟩⟩⟩, fun z0 => sM_fresh h1 h2 h3 h5 hr ⟨inR_b (by omega) (by omega), inR_b (by omega) (by omega), ?_⟩⟩⟩
    · rw [dfn_2 z0 (by omega)] at ih; exact ih
    · rw [dfn_2 z0 (by omega)] at ih; exact ih
    · rw [dfn_1 z0 (by omega)] at ih; exact ih
    · rw [dfn_0 z0] at ih; exact ih
theorem idx_cases {A : iz_A} (hx : IdxAt A) : NotB A ∨ ∃ x, XM x A ∧ 0 < A.1 5 8 := by
  rcases hx with hn | ⟨x, hx⟩
  · exact Or.inl hn
  · refine Or.inr ⟨x, hx, ?_⟩
    have := n_pos hx.1
    rw [hx.2.2.2.1.1]
    omega
theorem b_different {A : iz_A} {I : iz_A → Prop} {v : Int} (hx : IdxAt A) (hI : I A) : Bo 140 228 [.inl v] [.inl v] A I := by
  by_cases hv : 0 ≤ v
  · rcases idx_cases hx with hn | ⟨x, ⟨h1, h2, h3, h4, h5⟩, np⟩
    · exact bo_bad (d := 1) (d' := 1) (by decide) (by decide) hI (fun P hP => e_X10_different (d := 0) ⟨fun _ => ⟨_, rfl, hP⟩, fun z => absurd (by rw [hn.1]; decide) z⟩) (fun P hP => e_X11_different (d := 0) ⟨fun _ => ⟨_, rfl, hP⟩, fun z => absurd hn.2.2.1 z⟩)
    · exact bo_both (d := 6) (d' := 4) (by decide) (by decide) (sm (dfn x v) (ixn x) : Int) hI (fun P hP => e_X10_different (d := 5) ⟨fun z => by omega, fun _ => ⟨fun z => by omega, fun _ => sX_howMany h1 h2 h3 h4 ⟨_, rfl, hP⟩⟩⟩) (fun P hP => sM_different h1 h2 h3 h5 hv hP)
  · exact bo_bad (d := 1) (d' := 1) (by decide) (by decide) hI (fun P hP => e_X10_different (d := 0) ⟨fun _ => ⟨_, rfl, hP⟩, fun _ => ⟨fun _ => ⟨_, rfl, hP⟩, fun z => by omega⟩⟩) (fun P hP => e_X11_different (d := 0) ⟨fun _ => ⟨_, rfl, hP⟩, fun _ => ⟨fun z => by omega, fun _ => ⟨_, rfl, hP⟩⟩⟩)
