/-! ===== oftenest, count ===== -/
/-- the run that ends with row r - 1 -/
def rnw (x : Ix) (len : Nat) : Nat → Nat
  | 0 => 0
  | r + 1 => if lft x (ixs x r) < len then 0 else if ixc x r < len then 1 else rnw x len r + 1
/-- the longest run up to row r - 1, and the row where it became so long -/
def bst (x : Ix) (len : Nat) : Nat → Nat × Nat
  | 0 => (0, 0)
  | r + 1 => if rnw x len (r + 1) ≤ (bst x len r).1 then bst x len r else (rnw x len (r + 1), r)
theorem rnw_s (x : Ix) (len r : Nat) : rnw x len (r + 1) = if lft x (ixs x r) < len then 0 else if ixc x r < len then 1 else rnw x len r + 1 := rfl
theorem bst_s (x : Ix) (len r : Nat) : bst x len (r + 1) = if rnw x len (r + 1) ≤ (bst x len r).1 then bst x len r else (rnw x len (r + 1), r) := rfl
theorem rnw_le (x : Ix) (len r : Nat) : rnw x len r ≤ r := by
  induction r with
  | zero => exact Nat.le_refl _
  | succ r ih =>
    rw [rnw_s]
    split
    · omega
    · split <;> omega
theorem bst_ok (x : Ix) (len r : Nat) : (bst x len r).1 ≤ r ∧ (0 < (bst x len r).1 → (bst x len r).2 < r ∧ len ≤ lft x (ixs x (bst x len r).2)) := by
  induction r with
  | zero => exact ⟨Nat.le_refl _, fun z => absurd z (Nat.lt_irrefl _)⟩
  | succ r ih =>
    have rl := rnw_le x len (r + 1)
    rw [bst_s]
    split
    · exact ⟨(by omega), fun z => ⟨Nat.lt_succ_of_lt (ih.2 z).1, (ih.2 z).2⟩⟩
    · refine ⟨rl, fun z => ⟨Nat.lt_succ_self _, ?_⟩⟩
      show len ≤ lft x (ixs x r)
      by_cases c : lft x (ixs x r) < len
      · rename_i w
        rw [rnw_s, if_pos c] at w
        omega
      · omega
/-- the class's place of the best run -/
def bpl (x : Ix) (b : Nat × Nat) : Nat := if b.1 = 0 then 0 else ixs x b.2
theorem sX_often {d : Nat} {A : iz_A} {x : Ix} {len lo hi dn : Nat} {P : Int → iz_A → Prop} (h1 : TxOk x) (h2 : PmOk x) (h3 : SoOk x) (h4 : XI x A) (g : 0 < (bst x len (ixn x)).1 → Rg x (ixs x (bst x len (ixn x)).2) len lo hi) (hd : A.1 17 3 = (dn : Int)) (hP0 : (bst x len (ixn x)).1 = 0 → P 0 A) (hP : 0 < (bst x len (ixn x)).1 → ∀ C, fr [17] A C → HdX C 0 (ixs x (bst x len (ixn x)).2) len lo hi → P ((bst x len (ixn x)).1 : Int) C) : Ci (d + 5) 88 [.inr (.inl 44), .inl (len : Int)] A P := by
  have nb := h1.2.2.1
  refine e_X7_holdOftenest ?_
  have := dwl (P := fun r => Rn (d + 4) mX7_holdOftenest (fun v A' => ∃ y, v = some (.inl y) ∧ P y A') 10 [some (.inr (.inl 44)), some (.inl ((len : Int))), some (.inl (((bst x len r).1 : Int))), some (.inl ((bpl x (bst x len r) : Int))), some (.inl ((rnw x len r : Int))), some (.inl ((r : Int)))] [] A) (a := 0) (n := ixn x) ?_ (fun r _ hr ih => ?_) (Nat.zero_le _)
  · exact this
  · refine w_X7_holdOftenest_10 ?_
    rw [h4.1]
    refine ⟨fun _ => ⟨fun z => ⟨_, rfl, ?_⟩, fun z => ?_⟩, fun z => by omega⟩
    · have e : (bst x len (ixn x)).1 = 0 := (by omega)
      rw [e]
      exact hP0 e
    · have e : 0 < (bst x len (ixn x)).1 := (by omega)
      rw [show bpl x (bst x len (ixn x)) = ixs x (bst x len (ixn x)).2 from if_neg (by omega)]
      exact sX_become h1 h2 h4 (g e) ⟨dn, hd⟩ fun C fC hC => ⟨_, rfl, hP e C fC hC⟩
  · have rl := rnw_le x len r
    have bl := (bst_ok x len r).1
    have cl := c_le h1 h2 h3 hr
    rw [show ((r + 1 : Nat) : Int) = (r : Int) + 1 by omega, bst_s, rnw_s] at ih
    refine w_X7_holdOftenest_10 ?_
    rw [h4.1, tn, (h4.2.2.2.2 r hr).2.1]
    have pl : bpl x (rnw x len r + 1, r) = ixs x r := if_neg (Nat.succ_ne_zero _)
    have pl1 : bpl x (1, r) = ixs x r := if_neg (show ¬ 1 = 0 by decide)
    refine ⟨fun z => by omega, fun _ => ⟨⟨by omega, by omega⟩, fun z => sX_len h1 h2 h4 hr ⟨fun z => by omega, fun z2 => ⟨inR_b (by omega) (by omega), fun z3 => ⟨inR_b (by omega) (by omega), ?_⟩, fun z3 => ⟨⟨by omega, by omega⟩, inR_b (by omega) (by omega), ?_⟩⟩⟩, fun z => sX_len h1 h2 h4 hr ⟨fun z2 => ⟨inR_b (by omega) (by omega), ?_⟩, fun z2 => ⟨inR_b (by omega) (by omega), fun z3 => ⟨inR_b (by omega) (by omega), ?_⟩, fun z3 => ⟨⟨by omega, by omega⟩, inR_b (by omega) (by omega), ?_⟩⟩⟩⟩⟩
    · rw [if_neg (show ¬ lft x (ixs x r) < len by omega), if_neg (show ¬ ixc x r < len by omega), if_pos (show rnw x len r + 1 ≤ (bst x len r).1 by omega)] at ih
      exact ih
    · rw [if_neg (show ¬ lft x (ixs x r) < len by omega), if_neg (show ¬ ixc x r < len by omega), if_neg (show ¬ rnw x len r + 1 ≤ (bst x len r).1 by omega), pl] at ih
      rw [(h4.2.2.2.2 r hr).1]
      exact ih
    · rw [if_pos (show lft x (ixs x r) < len by omega), if_pos (Nat.zero_le _)] at ih
      exact ih
    · rw [if_neg (show ¬ lft x (ixs x r) < len by omega), if_pos (show ixc x r < len by omega), if_pos (show 1 ≤ (bst x len r).1 by omega)] at ih
      exact ih
    · rw [if_neg (show ¬ lft x (ixs x r) < len by omega), if_pos (show ixc x r < len by omega), if_neg (show ¬ 1 ≤ (bst x len r).1 by omega), pl1] at ih
      rw [(h4.2.2.2.2 r hr).1]
      exact ih
theorem sM_often {d : Nat} {A : iz_A} {x : Ix} {len lo hi : Nat} {P : Int → iz_A → Prop} (h1 : TxOk x) (h2 : PmOk x) (h3 : SoOk x) (h5 : MI x A) (hl : 1 ≤ len) (g : 0 < (bst x len (ixn x)).1 → Rg x (ixs x (bst x len (ixn x)).2) len lo hi) (hP0 : (bst x len (ixn x)).1 = 0 → P 0 A) (hP : 0 < (bst x len (ixn x)).1 → ∀ C, fr [55, 69] A C → ff [22, 23, 24, 26] (A.1 55) (C.1 55) → HdM C 0 len lo hi → (∀ j, j < len → C.1 69 j = ixt x (ixs x (bst x len (ixn x)).2 + j)) → P ((bst x len (ixn x)).1 : Int) C) : Ci (d + 4) 234 [.inr (.inl 55), .inl (len : Int)] A P := by
  have nb := h1.2.2.1
  refine e_X11_oftenest ⟨fun z => absurd z (by rw [h5.1]; decide), fun _ => ⟨fun _ => ?_, fun z => by omega⟩⟩
  have := dwl (P := fun r => Rn (d + 3) mX11_oftenest (fun v A' => ∃ y, v = some (.inl y) ∧ P y A') 24 [some (.inr (.inl 55)), some (.inl ((len : Int))), some (.inl (((bst x len r).1 : Int))), some (.inl (((bst x len r).2 : Int))), some (.inl ((rnw x len r : Int))), some (.inl ((r : Int))), none] [] A) (a := 0) (n := ixn x) ?_ (fun r _ hr ih => ?_) (Nat.zero_le _)
  · exact this
  · have ok := bst_ok x len (ixn x)
    refine w_X11_oftenest_24 ?_
    rw [h5.2.1]
    refine ⟨fun _ => ⟨fun z => ⟨_, rfl, ?_⟩, fun z => ?_⟩, fun z => by omega⟩
    · have e : (bst x len (ixn x)).1 = 0 := (by omega)
      rw [e]
      exact hP0 e
    · have e : 0 < (bst x len (ixn x)).1 := (by omega)
      have ok2 := ok.2 e
      rw [tn, (h5.2.2.2.2.2.1 _ ok2.1).1]
      exact ⟨⟨by omega, by omega⟩, sM_become h1 h2 h5 (g e) ok2.2 fun C fC eC hC pC => ⟨_, rfl, hP e C fC eC hC pC⟩⟩
  · have rl := rnw_le x len r
    have bl := (bst_ok x len r).1
    have cl := c_le h1 h2 h3 hr
    rw [show ((r + 1 : Nat) : Int) = (r : Int) + 1 by omega, bst_s, rnw_s] at ih
    refine w_X11_oftenest_24 ?_
    rw [h5.2.1, tn r, (h5.2.2.2.2.2.1 r hr).1]
    refine ⟨fun z => by omega, fun _ => ⟨⟨by omega, by omega⟩, sM_left h1 h5 (h2.1 r hr).1 ?_⟩⟩
    rw [(h5.2.2.2.2.2.1 r hr).2]
    refine ⟨fun z => ⟨fun z => absurd rfl z, fun _ => ⟨fun z2 => ⟨inR_b (by omega) (by omega), ?_⟩, fun z => by omega⟩⟩, fun z => ⟨fun _ => ⟨⟨by omega, by omega⟩, fun z2 => ⟨fun z3 => ⟨inR_b (by omega) (by omega), ?_⟩, fun z3 => ⟨inR_b (by omega) (by omega), ?_⟩⟩, fun z2 => ⟨inR_b (by omega) (by omega), fun z3 => ⟨inR_b (by omega) (by omega), ?_⟩, fun z3 => ⟨inR_b (by omega) (by omega), ?_⟩⟩⟩, fun z => absurd z n10⟩⟩
    · rw [if_pos (show lft x (ixs x r) < len by omega), if_pos (Nat.zero_le _)] at ih
      exact ih
    · rw [if_neg (show ¬ lft x (ixs x r) < len by omega), if_pos (show ixc x r < len by omega), if_pos (show 1 ≤ (bst x len r).1 by omega)] at ih
      exact ih
    · rw [if_neg (show ¬ lft x (ixs x r) < len by omega), if_pos (show ixc x r < len by omega), if_neg (show ¬ 1 ≤ (bst x len r).1 by omega)] at ih
      exact ih
    · rw [if_neg (show ¬ lft x (ixs x r) < len by omega), if_neg (show ¬ ixc x r < len by omega), if_pos (show rnw x len r + 1 ≤ (bst x len r).1 by omega)] at ih
      exact ih
    · rw [if_neg (show ¬ lft x (ixs x r) < len by omega), if_neg (show ¬ ixc x r < len by omega), if_neg (show ¬ rnw x len r + 1 ≤ (bst x len r).1 by omega)] at ih
      exact ih
theorem b_oftenest {A : iz_A} {I : iz_A → Prop} {v : Int} {x : Ix} (hx : HdAt x A) (hI0 : I A) (hI : XM x A → ∀ C, fr [17, 55, 69] A C → ff [22, 23, 24, 26] (A.1 55) (C.1 55) → HR x C → I C) : Bo 145 234 [.inl v] [.inl v] A I := by
  by_cases h0 : 1 ≤ v
  · obtain ⟨len, rfl⟩ : ∃ k : Nat, v = (k : Int) := ⟨v.toNat, (by omega)⟩
    rcases hx with hn | ⟨hx, p0, len0, lo0, hi0, dn, g0, hl0, hd0, hX, hM, hp0, hq0⟩
    · exact bo_bad (d := 1) (d' := 1) (by decide) (by decide) hI0 (fun P hP => e_X10_oftenest (d := 0) ⟨fun _ => ⟨_, rfl, hP⟩, fun z => absurd (by rw [hn.1]; decide) z⟩) (fun P hP => e_X11_oftenest (d := 0) ⟨fun _ => ⟨_, rfl, hP⟩, fun z => absurd hn.2.2.1 z⟩)
    · obtain ⟨h1, h2, h3, h4, h5⟩ := id hx
      have np := n_pos h1
      have ok := bst_ok x len (ixn x)
      by_cases c : (bst x len (ixn x)).1 = 0
      · refine bo_both (d := 6) (d' := 4) (by decide) (by decide) 0 hI0 (fun P hP => e_X10_oftenest (d := 5) ⟨fun z => by rw [h4.1] at z; omega, fun _ => ⟨fun z => by omega, fun _ => sX_often (lo := 0) (hi := 0) h1 h2 h3 h4 fun z => by omega hX.1 (fun _ => ⟨_, rfl, hP⟩) fun z => by omega⟩⟩) (fun P hP => sM_often (lo := 0) (hi := 0) h1 h2 h3 h5 (by omega) fun z => by omega (fun _ => hP) fun z => by omega)
      · have c' : 0 < (bst x len (ixn x)).1 := (by omega)
        have ok2 := ok.2 c'
        obtain ⟨lo, hi, g⟩ := rg_ex h2 (ixs x (bst x len (ixn x)).2) len (h2.1 _ ok2.1).1
        refine Ci_mono (d := 6) (by decide) (e_X10_oftenest (d := 5) ⟨fun z => by rw [h4.1] at z; omega, fun _ => ⟨fun z => by omega, fun _ => sX_often h1 h2 h3 h4 (fun _ => g) hX.1 (fun z => absurd z c) fun _ B fB hB => ⟨_, rfl, ?_⟩⟩⟩) (fun _ _ z => z)
        have h5' : MI x B := MI_k (m := []) h5 fB (by decide) (ff_eq (fB.1 55 (by decide))) (by decide)
        refine Ci_mono (d := 4) (by decide) (sM_often (d := 0) (P := fun x2 A2 => _ = x2 ∧ I A2) h1 h2 h3 h5' (by omega) (fun _ => g) (fun z => absurd z c) fun _ C fC eC hC pC => ⟨rfl, ?_⟩) (fun _ _ z => z)
        refine hI hx C (fr_mo (fr_tr fB fC) (by decide)) (by rw [← fB.1 55 (by decide)]; exact eC) (hr_become (q := ixs x (bst x len (ixn x)).2) g ok2.2 (al_rf _ _ _) ?_ hC pC)
        unfold HdX
        rw [fC.1 17 (by decide)]
        exact hB
  · exact bo_bad (d := 1) (d' := 1) (by decide) (by decide) hI0 (fun P hP => e_X10_oftenest (d := 0) ⟨fun _ => ⟨_, rfl, hP⟩, fun _ => ⟨fun _ => ⟨_, rfl, hP⟩, fun z => by omega⟩⟩) (fun P hP => e_X11_oftenest (d := 0) ⟨fun _ => ⟨_, rfl, hP⟩, fun _ => ⟨fun z => by omega, fun _ => ⟨_, rfl, hP⟩⟩⟩)
