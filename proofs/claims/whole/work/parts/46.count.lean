/-! ===== count ===== -/
/-- rows that have another byte in front than the row before them -/
def chn (x : Ix) (n : Nat) : Nat := ct (fun i => i = 0 ∨ bef x i = -2 ∨ bef x i ≠ bef x (i - 1)) n
def CH (x : Ix) (A : iz_A) : Prop := ∀ i, i < ixn x → A.1 46 i = (chn x (i + 1) : Int)
theorem chn_s (x : Ix) (n : Nat) : chn x (n + 1) = chn x n + (if n = 0 ∨ bef x n = -2 ∨ bef x n ≠ bef x (n - 1) then 1 else 0) := rfl
def mxa (x : Ix) : Nat → Nat
  | 0 => 0
  | r + 1 => if mxa x r < ixc x r then ixc x r else mxa x r
theorem mxa_s (x : Ix) (r : Nat) : mxa x (r + 1) = if mxa x r < ixc x r then ixc x r else mxa x r := rfl
theorem sX_sum {d : Nat} {A : iz_A} {x : Ix} {P : Int → iz_A → Prop} (h1 : TxOk x) (h2 : PmOk x) (h3 : SoOk x) (h4 : XI x A) (hP : P (sm (ixc x) (ixn x) : Int) A) : Ci (d + 1) 30 [.inr (.inl 5)] A P := by
  have nb := h1.2.2.1
  refine e_X2_sumOfAlikes ?_
  refine dwl (P := fun r => Rn d mX2_sumOfAlikes (fun v A' => ∃ y, v = some (.inl y) ∧ P y A') 4 [some (.inr (.inl 5)), some (.inl ((sm (ixc x) r : Int))), some (.inl ((r : Int)))] [] A) (a := 0) (n := ixn x) ?_ (fun r _ hr ih => ?_) (Nat.zero_le _)
  · refine w_X2_sumOfAlikes_4 ?_
    rw [h4.1]
    exact ⟨fun _ => ⟨_, rfl, hP⟩, fun z => by omega⟩
  · have cl := c_le h1 h2 h3 hr
    have lb := lft_bd h1 (h2.1 r hr).1
    have bd := sm_bd (f := ixc x) (n := r) (fun i hi => by
      have := c_le h1 h2 h3 (i := i) (by omega)
      have := lft_bd h1 (h2.1 i (by omega)).1
      omega)
    rw [show ((r + 1 : Nat) : Int) = (r : Int) + 1 by omega, sm_s, show ((sm (ixc x) r + ixc x r : Nat) : Int) = (sm (ixc x) r : Int) + (ixc x r : Int) by omega] at ih
    refine w_X2_sumOfAlikes_4 ?_
    rw [h4.1, tn, (h4.2.2.2.2 r hr).2.1]
    exact ⟨fun z => by omega, fun _ => ⟨⟨by omega, by omega⟩, inR_b (by omega) (by omega), inR_b (by omega) (by omega), ih⟩⟩
theorem sX_greatest {d : Nat} {A : iz_A} {x : Ix} {P : Int → iz_A → Prop} (h1 : TxOk x) (h4 : XI x A) (hP : P (mxa x (ixn x) : Int) A) : Ci (d + 1) 31 [.inr (.inl 5)] A P := by
  have nb := h1.2.2.1
  refine e_X2_greatestAlike ?_
  refine dwl (P := fun r => Rn d mX2_greatestAlike (fun v A' => ∃ y, v = some (.inl y) ∧ P y A') 4 [some (.inr (.inl 5)), some (.inl ((mxa x r : Int))), some (.inl ((r : Int)))] [] A) (a := 0) (n := ixn x) ?_ (fun r _ hr ih => ?_) (Nat.zero_le _)
  · refine w_X2_greatestAlike_4 ?_
    rw [h4.1]
    exact ⟨fun _ => ⟨_, rfl, hP⟩, fun z => by omega⟩
  · rw [show ((r + 1 : Nat) : Int) = (r : Int) + 1 by omega] at ih
    refine w_X2_greatestAlike_4 ?_
    rw [h4.1, tn, (h4.2.2.2.2 r hr).2.1]
    rw [show ((mxa x (r + 1) : Nat) : Int) = if (mxa x r : Int) < (ixc x r : Int) then (ixc x r : Int) else (mxa x r : Int) by rw [mxa_s]; split <;> split <;> omega] at ih
    exact ⟨fun z => by omega, fun _ => ⟨⟨by omega, by omega⟩, inR_b (by omega) (by omega), ih⟩⟩
/-- what countRows counts -/
def cnr (x : Ix) (v : Int) (n : Nat) : Nat := if v = 4 then chn x n else if v = 5 then sm (ixc x) n else mxa x n
theorem cnr_4 (x : Ix) {v : Int} (n : Nat) (h : v = 4) : cnr x v n = chn x n := if_pos h
theorem cnr_5 (x : Ix) {v : Int} (n : Nat) (h : v = 5) : cnr x v n = sm (ixc x) n := by unfold cnr; rw [if_neg (by omega), if_pos h]
theorem cnr_6 (x : Ix) {v : Int} (n : Nat) (h : ¬ v = 4) (h' : ¬ v = 5) : cnr x v n = mxa x n := by unfold cnr; rw [if_neg h, if_neg h']
theorem sM_countRows {d : Nat} {A : iz_A} {x : Ix} {v : Int} {P : Int → iz_A → Prop} (h1 : TxOk x) (h2 : PmOk x) (h3 : SoOk x) (h5 : MI x A) (hP : P (cnr x v (ixn x) : Int) A) : Ci (d + 2) 245 [.inr (.inl 55), .inl v] A P := by
  have nb := h1.2.2.1
  refine e_X11_countRows ?_
  have := dwl (P := fun r => Rn (d + 1) mX11_countRows (fun v A' => ∃ y, v = some (.inl y) ∧ P y A') 4 [some (.inr (.inl 55)), some (.inl v), some (.inl ((cnr x v r : Int))), some (.inl ((r : Int))), none] [] A) (a := 0) (n := ixn x) ?_ (fun r _ hr ih => ?_) (Nat.zero_le _)
  · rw [show cnr x v 0 = 0 by unfold cnr; split; rfl; split <;> rfl] at this
    exact this
  · refine w_X11_countRows_4 ?_
    rw [h5.2.1]
    exact ⟨fun _ => ⟨_, rfl, hP⟩, fun z => by omega⟩
  · have cl := c_le h1 h2 h3 hr
    have lb := lft_bd h1 (h2.1 r hr).1
    rw [show ((r + 1 : Nat) : Int) = (r : Int) + 1 by omega] at ih
    refine w_X11_countRows_4 ?_
    rw [h5.2.1, tn r]
    refine ⟨fun z => by omega, fun _ => sM_before h1 h2 h5 hr ?_⟩
    rw [(h5.2.2.2.2.2.1 r hr).2]
    refine ⟨fun z4 => ⟨fun z5 => ?_, fun z5 => ?_⟩, fun z4 => ?_⟩
    · rw [cnr_6 x _ z4 z5] at ih ⊢
      rw [mxa_s] at ih
      refine ⟨⟨by omega, by omega⟩, fun z => ⟨inR_b (by omega) (by omega), ?_⟩, fun z => ⟨⟨by omega, by omega⟩, inR_b (by omega) (by omega), ?_⟩⟩
      · rw [if_neg (by omega)] at ih; exact ih
      · rw [if_pos (by omega)] at ih; exact ih
    · have bd := sm_bd (f := ixc x) (n := r) (fun i hi => by
        have := c_le h1 h2 h3 (i := i) (by omega)
        have := lft_bd h1 (h2.1 i (by omega)).1
        omega)
      rw [cnr_5 x _ z5] at ih ⊢
      rw [sm_s, show ((sm (ixc x) r + ixc x r : Nat) : Int) = (sm (ixc x) r : Int) + (ixc x r : Int) by omega] at ih
      exact ⟨⟨by omega, by omega⟩, inR_b (by omega) (by omega), inR_b (by omega) (by omega), ih⟩
    · have bd : chn x r ≤ r := ct_le _ _
      rw [cnr_4 x _ z4] at ih ⊢
      rw [chn_s] at ih
      refine ⟨fun z => ⟨inR_b (by omega) (by omega), inR_b (by omega) (by omega), ?_⟩, fun z => ⟨fun z2 => ⟨inR_b (by omega) (by omega), inR_b (by omega) (by omega), ?_⟩, fun z2 => ⟨inR_b (by omega) (by omega), ?_⟩⟩⟩
      · rw [if_pos (Or.inl (by omega))] at ih; exact ih
      · rw [if_pos (Or.inr (Or.inl z2))] at ih; exact ih
      · rw [show (r : Int) - 1 = ((r - 1 : Nat) : Int) by omega]
        refine sM_before h1 h2 h5 (i := r - 1) (by omega) ⟨fun z3 => ⟨inR_b (by omega) (by omega), inR_b (by omega) (by omega), ?_⟩, fun z3 => ⟨inR_b (by omega) (by omega), inR_b (by omega) (by omega), ?_⟩⟩
        · rw [if_neg (fun y => by rcases y with y | y | y; omega; exact z2 y; exact y z3)] at ih; exact ih
        · rw [if_pos (Or.inr (Or.inr z3))] at ih; exact ih
theorem sM_countBytes {d : Nat} {A : iz_A} {x : Ix} {P : Int → iz_A → Prop} (h1 : TxOk x) (h5 : MI x A) (hP : P (ct (fun c => 0 < cntE (ixt x) (c : Int) (ixn x)) 256 : Int) A) : Ci (d + 1) 246 [.inr (.inl 55)] A P := by
  have nb := h1.2.2.1
  refine e_X11_countBytes ?_
  refine dwl (P := fun c => Rn d mX11_countBytes (fun v A' => ∃ y, v = some (.inl y) ∧ P y A') 4 [some (.inr (.inl 55)), some (.inl ((ct (fun c => 0 < cntE (ixt x) (c : Int) (ixn x)) c : Int))), some (.inl ((c : Int))), none, none] [] A) (a := 0) (n := 256) ?_ (fun c _ hc ih => ?_) (Nat.zero_le _)
  · exact w_X11_countBytes_4 ⟨fun _ => ⟨_, rfl, hP⟩, fun z => absurd (Int.le_refl _) z⟩
  · have bd := ct_le (fun c => 0 < cntE (ixt x) (c : Int) (ixn x)) c
    rw [show ((c + 1 : Nat) : Int) = (c : Int) + 1 by omega, ct_s] at ih
    refine w_X11_countBytes_4 ⟨fun z => by omega, fun _ => ?_⟩
    have fin : ∀ p, 0 < cntE (ixt x) (c : Int) p → p ≤ ixn x → Rn d mX11_countBytes (fun v A' => ∃ y, v = some (.inl y) ∧ P y A') 16 [some (.inr (.inl 55)), some (.inl ((ct (fun c => 0 < cntE (ixt x) (c : Int) (ixn x)) c : Int))), some (.inl ((c : Int))), some (.inl 1), some (.inl ((p : Int)))] [] A := fun p hp hpn => by
      rw [if_pos (Nat.lt_of_lt_of_le hp (cntE_mono _ _ hpn))] at ih
      refine w_X11_countBytes_16 ⟨fun _ => ⟨fun z => absurd z n10, fun _ => ⟨inR_b (by omega) (by omega), inR_b (by omega) (by omega), ih⟩⟩, fun _ => ⟨fun _ => ⟨fun z => absurd z n10, fun _ => ⟨inR_b (by omega) (by omega), inR_b (by omega) (by omega), ih⟩⟩, fun z => absurd z n10⟩⟩
    refine dwl (P := fun p => cntE (ixt x) (c : Int) p = 0 → Rn d mX11_countBytes (fun v A' => ∃ y, v = some (.inl y) ∧ P y A') 16 [some (.inr (.inl 55)), some (.inl ((ct (fun c => 0 < cntE (ixt x) (c : Int) (ixn x)) c : Int))), some (.inl ((c : Int))), some (.inl 0), some (.inl ((p : Int)))] [] A) (a := 0) (n := ixn x) ?_ (fun p _ hp ihp => ?_) (Nat.zero_le _) rfl
    · intro hz
      refine w_X11_countBytes_16 ?_
      rw [h5.2.1]
      refine ⟨fun _ => ⟨fun _ => ⟨inR_b (by omega) (by omega), inR_b (by omega) (by omega), ?_⟩, fun z => absurd rfl z⟩, fun z => by omega⟩
      rw [if_neg (by omega)] at ih
      exact ih
    · intro hz
      rw [cntE_s] at ihp
      refine w_X11_countBytes_16 ?_
      rw [h5.2.1, tn, (h5.2.2.2.1 p hp).1]
      refine ⟨fun z => by omega, fun _ => ⟨fun z => absurd rfl z, fun _ => ⟨⟨by omega, by omega⟩, fun z => ⟨inR_b (by omega) (by omega), ?_⟩, fun z => ⟨inR_b (by omega) (by omega), ?_⟩⟩⟩⟩
      · have e : ¬ ixt x p = (c : Int) := fun e => by
          rw [if_neg (by omega)] at z
          exact z e
        rw [if_neg e] at ihp
        exact ihp hz
      · have e : ixt x p = (c : Int) := by
          by_cases w : ixt x p < 0
          · rw [if_pos w] at z; omega
          · rw [if_neg w] at z; exact z
        exact fin (p + 1) (by rw [cntE_s, if_pos e]; omega) hp
theorem cntE_ex {f : Nat → Int} {c : Int} {n : Nat} (h : 0 < cntE f c n) : ∃ p, p < n ∧ f p = c := by
  induction n with
  | zero => exact absurd h (Nat.lt_irrefl _)
  | succ n ih =>
    rw [cntE_s] at h
    by_cases e : f n = c
    · exact ⟨n, (by omega), e⟩
    · rw [if_neg e] at h
      obtain ⟨p, hp, e⟩ := ih h
      exact ⟨p, (by omega), e⟩
/-- each byte that stands somewhere has one first row -/
theorem bytes_eq {x : Ix} (h1 : TxOk x) (h2 : PmOk x) (h3 : SoOk x) : sm (dfn x 1) (ixn x) = ct (fun c => 0 < cntE (ixt x) (c : Int) (ixn x)) 256 := by
  have e1 : ∀ r, r < ixn x → dfn x 1 r = sm (fun c => if (ixc x r < 1 ∧ 1 ≤ lft x (ixs x r)) ∧ ixt x (ixs x r) = (c : Int) then 1 else 0) 256 := fun r hr => by
    by_cases z : ixc x r < 1 ∧ 1 ≤ lft x (ixs x r)
    · have hs := (h2.1 r hr).1
      have t := t_in h1 hs (j := 0) (by omega)
      rw [Nat.add_zero] at t
      rw [dfn_1 (by decide) (by omega), sm_one (k := (ixt x (ixs x r)).toNat) (by omega) (fun i hi hn => if_neg (fun y => hn (by rw [y.2]; rfl))), if_pos ⟨z, (by omega)⟩]
    · rw [dfn_2 (by decide) (by omega), sm_z (fun i hi => if_neg (fun y => z y.1))]
  rw [sm_congr e1, sm_swap]
  refine sm_congr fun c hc => ?_
  show ct (fun r => (ixc x r < 1 ∧ 1 ≤ lft x (ixs x r)) ∧ ixt x (ixs x r) = (c : Int)) (ixn x) = _
  by_cases w : 0 < cntE (ixt x) (c : Int) (ixn x)
  · rw [if_pos w]
    obtain ⟨p, hp, e⟩ := cntE_ex w
    obtain ⟨lo, hi, g⟩ := rg_ex h2 p 1 hp
    have gg := g.2
    have key : ∀ i, i < ixn x → ((lo ≤ i ∧ i < hi) ↔ ixt x (ixs x i) = (c : Int)) := fun i hi' => by
      rw [rg_iff h2 h3 g hi']
      constructor
      · intro a
        have := a 0 (by decide)
        rw [Nat.add_zero, Nat.add_zero] at this
        rw [this, e]
      · intro a j hj
        obtain rfl : j = 0 := (by omega)
        rw [Nat.add_zero, Nat.add_zero, a, e]
    rw [ct_range (a := lo) (b := lo + 1) (by omega) (by omega) (fun i hi' => ?_)]
    · omega
    · constructor
      · rintro ⟨⟨a, b⟩, cc⟩
        have k := (key i hi').2 cc
        by_cases y : lo < i
        · have := gg.2.2.2.1 i y k.2
          omega
        · omega
      · rintro ⟨a, b⟩
        obtain rfl : i = lo := (by omega)
        have k := (key i hi').1 (by omega)
        refine ⟨⟨?_, ?_⟩, k⟩
        · by_cases y : i = 0
          · rw [y, h3.1]; decide
          · exact gg.2.2.2.2.1 (by omega)
        · have := t_neg h1 (h2.1 i hi').1
          by_cases y : lft x (ixs x i) = 0
          · have := this.2 y; omega
          · omega
  · rw [if_neg w]
    refine ct_0 fun r hr z => w ?_
    rw [cntE_ct]
    exact ct_pos (h2.1 r hr).1 z.2
theorem b_count {A : iz_A} {I : iz_A → Prop} {v : Int} (e8 : A.1 1 3 = A.1 55 3) (e9 : A.1 1 4 = A.1 55 5) (e10 : A.1 23 6 = A.1 55 31) (hx : NotB A ∨ ∃ (x : Ix) (k : Nat), XM x A ∧ StR k A ∧ CH x A) (hI : I A) : Bo 154 247 [.inl v] [.inl v] A I := by
  have self : ∀ y : Int, (∀ P : Int → iz_A → Prop, P y A → Ci 7 154 [.inr (.inl 0), .inl v] A P) → (∀ P : Int → iz_A → Prop, P y A → Ci 4 247 [.inr (.inl 55), .inl v] A P) → Bo 154 247 [.inl v] [.inl v] A I := fun y hX hM => bo_both (d := 7) (d' := 4) (by decide) (by decide) y hI hX hM
  by_cases c8 : v = 8
  · exact self (A.1 1 3) (fun P hP => e_X10_count (d := 6) ⟨fun z => by omega, fun _ => ⟨_, rfl, hP⟩, fun z => by omega, fun z => by omega⟩) (fun P hP => e_X11_count (d := 3) ⟨fun z => by omega, fun _ => ⟨_, rfl, by rw [e8] at hP; exact hP⟩⟩)
  by_cases c9 : v = 9
  · exact self (A.1 1 4) (fun P hP => e_X10_count (d := 6) ⟨fun z => by omega, fun z => by omega, fun _ => ⟨_, rfl, hP⟩, fun z => by omega⟩) (fun P hP => e_X11_count (d := 3) ⟨fun _ => ⟨fun z => by omega, fun _ => ⟨_, rfl, by rw [e9] at hP; exact hP⟩⟩, fun z => by omega⟩)
  by_cases c10 : v = 10
  · exact self (A.1 23 6) (fun P hP => e_X10_count (d := 6) ⟨fun z => by omega, fun z => by omega, fun z => by omega, fun _ => ⟨_, rfl, hP⟩⟩) (fun P hP => e_X11_count (d := 3) ⟨fun _ => ⟨fun _ => ⟨fun z => by omega, fun _ => ⟨_, rfl, by rw [e10] at hP; exact hP⟩⟩, fun z => by omega⟩, fun z => by omega⟩)
  rcases hx with hn | ⟨x, k, ⟨h1, h2, h3, h4, h5⟩, hst, hch⟩
  · exact self (-1) (fun P hP => e_X10_count (d := 6) ⟨fun _ => ⟨fun _ => ⟨_, rfl, hP⟩, fun z => absurd (by rw [hn.1]; decide) z⟩, fun z => by omega, fun z => by omega, fun z => by omega⟩) (fun P hP => e_X11_count (d := 3) ⟨fun _ => ⟨fun _ => ⟨fun _ => ⟨fun _ => ⟨_, rfl, hP⟩, fun z => absurd hn.2.2.1 z⟩, fun z => by omega⟩, fun z => by omega⟩, fun z => by omega⟩)
  have np := n_pos h1
  have nb := h1.2.2.1
  have b6 : ¬ A.1 55 6 = 0 := by rw [h5.1]; decide
  obtain ⟨rt, st, s1, s2, s3, s4, s5, s6, s7⟩ := hst
  by_cases c0 : v = 0
  · exact self (ixn x : Int) (fun P hP => e_X10_count (d := 6) ⟨fun _ => ⟨fun z => by rw [h4.1] at z; omega, fun _ => e_X10_countOfIndex (d := 5) ⟨fun z => by omega, fun _ => ⟨_, rfl, _, rfl, by rw [h4.1]; exact hP⟩, fun z => by omega, fun z => by omega, fun z => by omega, fun z => by omega, fun z => by omega, fun z => by omega, fun z => by omega⟩⟩, fun z => by omega, fun z => by omega, fun z => by omega⟩) (fun P hP => e_X11_count (d := 3) ⟨fun _ => ⟨fun _ => ⟨fun _ => ⟨fun z => absurd z b6, fun _ => ⟨fun z => by omega, fun _ => ⟨fun _ => ⟨fun z => by omega, fun _ => ⟨_, rfl, by rw [h5.2.1]; exact hP⟩⟩, fun z => by omega⟩⟩⟩, fun z => by omega⟩, fun z => by omega⟩, fun z => by omega⟩)
  by_cases c1 : v = 1
  · exact self (ixm x : Int) (fun P hP => e_X10_count (d := 6) ⟨fun _ => ⟨fun z => by rw [h4.1] at z; omega, fun _ => e_X10_countOfIndex (d := 5) ⟨fun z => by omega, fun z => by omega, fun _ => ⟨_, rfl, _, rfl, by rw [h4.2.1]; exact hP⟩, fun z => by omega, fun z => by omega, fun z => by omega, fun z => by omega, fun z => by omega, fun z => by omega⟩⟩, fun z => by omega, fun z => by omega, fun z => by omega⟩) (fun P hP => e_X11_count (d := 3) ⟨fun _ => ⟨fun _ => ⟨fun _ => ⟨fun z => absurd z b6, fun _ => ⟨fun z => by omega, fun _ => ⟨fun _ => ⟨fun _ => ⟨fun z => by omega, fun _ => ⟨_, rfl, by rw [h5.2.2.1]; exact hP⟩⟩, fun z => by omega⟩, fun z => by omega⟩⟩⟩, fun z => by omega⟩, fun z => by omega⟩, fun z => by omega⟩)
  by_cases c2 : v = 2
  · exact self (rt : Int) (fun P hP => e_X10_count (d := 6) ⟨fun _ => ⟨fun z => by rw [h4.1] at z; omega, fun _ => e_X10_countOfIndex (d := 5) ⟨fun z => by omega, fun z => by omega, fun z => by omega, fun _ => ⟨_, rfl, _, rfl, by rw [s4]; exact hP⟩, fun z => by omega, fun z => by omega, fun z => by omega, fun z => by omega, fun z => by omega⟩⟩, fun z => by omega, fun z => by omega, fun z => by omega⟩) (fun P hP => e_X11_count (d := 3) ⟨fun _ => ⟨fun _ => ⟨fun _ => ⟨fun z => absurd z b6, fun _ => ⟨fun z => by omega, fun _ => ⟨fun _ => ⟨fun _ => ⟨fun _ => ⟨fun z => by omega, fun _ => ⟨_, rfl, by rw [s6]; exact hP⟩⟩, fun z => by omega⟩, fun z => by omega⟩, fun z => by omega⟩⟩⟩, fun z => by omega⟩, fun z => by omega⟩, fun z => by omega⟩)
  by_cases c3 : v = 3
  · exact self (st : Int) (fun P hP => e_X10_count (d := 6) ⟨fun _ => ⟨fun z => by rw [h4.1] at z; omega, fun _ => e_X10_countOfIndex (d := 5) ⟨fun z => by omega, fun z => by omega, fun z => by omega, fun z => by omega, fun _ => ⟨_, rfl, _, rfl, by rw [s5]; exact hP⟩, fun z => by omega, fun z => by omega, fun z => by omega, fun z => by omega⟩⟩, fun z => by omega, fun z => by omega, fun z => by omega⟩) (fun P hP => e_X11_count (d := 3) ⟨fun _ => ⟨fun _ => ⟨fun _ => ⟨fun z => absurd z b6, fun _ => ⟨fun z => by omega, fun _ => ⟨fun _ => ⟨fun _ => ⟨fun _ => ⟨fun _ => ⟨fun z => by omega, fun _ => ⟨_, rfl, by rw [s7]; exact hP⟩⟩, fun z => by omega⟩, fun z => by omega⟩, fun z => by omega⟩, fun z => by omega⟩⟩⟩, fun z => by omega⟩, fun z => by omega⟩, fun z => by omega⟩)
  by_cases c4 : v = 4
  · exact self (chn x (ixn x) : Int) (fun P hP => e_X10_count (d := 6) ⟨fun _ => ⟨fun z => by rw [h4.1] at z; omega, fun _ => e_X10_countOfIndex (d := 5) ⟨fun z => by omega, fun z => by omega, fun z => by omega, fun z => by omega, fun z => by omega, fun _ => ⟨by rw [h4.1]; exact inR_b (by omega) (by omega), by rw [h4.1]; exact ⟨by omega, by omega⟩, _, rfl, _, rfl, by rw [h4.1, show ((ixn x : Int) - 1).toNat = ixn x - 1 by omega, hch _ (by omega), show ixn x - 1 + 1 = ixn x by omega]; exact hP⟩, fun z => by omega, fun z => by omega, fun z => by omega⟩⟩, fun z => by omega, fun z => by omega, fun z => by omega⟩) (fun P hP => e_X11_count (d := 3) ⟨fun _ => ⟨fun _ => ⟨fun _ => ⟨fun z => absurd z b6, fun _ => ⟨fun z => by omega, fun _ => ⟨fun _ => ⟨fun _ => ⟨fun _ => ⟨fun _ => ⟨fun _ => ⟨fun _ => sM_countRows h1 h2 h3 h5 ⟨_, rfl, by rw [cnr_4 x _ c4]; exact hP⟩, fun z => by omega⟩, fun z => by omega⟩, fun z => by omega⟩, fun z => by omega⟩, fun z => by omega⟩, fun z => by omega⟩⟩⟩, fun z => by omega⟩, fun z => by omega⟩, fun z => by omega⟩)
  by_cases c5 : v = 5
  · exact self (sm (ixc x) (ixn x) : Int) (fun P hP => e_X10_count (d := 6) ⟨fun _ => ⟨fun z => by rw [h4.1] at z; omega, fun _ => e_X10_countOfIndex (d := 5) ⟨fun z => by omega, fun z => by omega, fun z => by omega, fun z => by omega, fun z => by omega, fun z => by omega, fun _ => sX_sum h1 h2 h3 h4 ⟨_, rfl, _, rfl, hP⟩, fun z => by omega, fun z => by omega⟩⟩, fun z => by omega, fun z => by omega, fun z => by omega⟩) (fun P hP => e_X11_count (d := 3) ⟨fun _ => ⟨fun _ => ⟨fun _ => ⟨fun z => absurd z b6, fun _ => ⟨fun z => by omega, fun _ => ⟨fun _ => ⟨fun _ => ⟨fun _ => ⟨fun _ => ⟨fun _ => ⟨fun _ => sM_countRows h1 h2 h3 h5 ⟨_, rfl, by rw [cnr_5 x _ c5]; exact hP⟩, fun z => by omega⟩, fun z => by omega⟩, fun z => by omega⟩, fun z => by omega⟩, fun z => by omega⟩, fun z => by omega⟩⟩⟩, fun z => by omega⟩, fun z => by omega⟩, fun z => by omega⟩)
  by_cases c6 : v = 6
  · exact self (mxa x (ixn x) : Int) (fun P hP => e_X10_count (d := 6) ⟨fun _ => ⟨fun z => by rw [h4.1] at z; omega, fun _ => e_X10_countOfIndex (d := 5) ⟨fun z => by omega, fun z => by omega, fun z => by omega, fun z => by omega, fun z => by omega, fun z => by omega, fun z => by omega, fun _ => sX_greatest h1 h4 ⟨_, rfl, _, rfl, hP⟩, fun z => by omega⟩⟩, fun z => by omega, fun z => by omega, fun z => by omega⟩) (fun P hP => e_X11_count (d := 3) ⟨fun _ => ⟨fun _ => ⟨fun _ => ⟨fun z => absurd z b6, fun _ => ⟨fun z => by omega, fun _ => ⟨fun _ => ⟨fun _ => ⟨fun _ => ⟨fun _ => ⟨fun _ => ⟨fun _ => sM_countRows h1 h2 h3 h5 ⟨_, rfl, by rw [cnr_6 x _ (by omega) (by omega)]; exact hP⟩, fun z => by omega⟩, fun z => by omega⟩, fun z => by omega⟩, fun z => by omega⟩, fun z => by omega⟩, fun z => by omega⟩⟩⟩, fun z => by omega⟩, fun z => by omega⟩, fun z => by omega⟩)
  by_cases c7 : v = 7
  · exact self (sm (dfn x 1) (ixn x) : Int) (fun P hP => e_X10_count (d := 6) ⟨fun _ => ⟨fun z => by rw [h4.1] at z; omega, fun _ => e_X10_countOfIndex (d := 5) ⟨fun z => by omega, fun z => by omega, fun z => by omega, fun z => by omega, fun z => by omega, fun z => by omega, fun z => by omega, fun z => by omega, fun _ => sX_howMany h1 h2 h3 h4 ⟨_, rfl, _, rfl, hP⟩⟩⟩, fun z => by omega, fun z => by omega, fun z => by omega⟩) (fun P hP => e_X11_count (d := 3) ⟨fun _ => ⟨fun _ => ⟨fun _ => ⟨fun z => absurd z b6, fun _ => ⟨fun z => by omega, fun _ => ⟨fun _ => ⟨fun _ => ⟨fun _ => ⟨fun _ => ⟨fun _ => ⟨fun z => by omega, fun _ => sM_countBytes h1 h5 ⟨_, rfl, by rw [bytes_eq h1 h2 h3] at hP; exact hP⟩⟩, fun z => by omega⟩, fun z => by omega⟩, fun z => by omega⟩, fun z => by omega⟩, fun z => by omega⟩⟩⟩, fun z => by omega⟩, fun z => by omega⟩, fun z => by omega⟩)
  exact self (-1) (fun P hP => e_X10_count (d := 6) ⟨fun _ => ⟨fun z => by rw [h4.1] at z; omega, fun _ => e_X10_countOfIndex (d := 5) ⟨fun _ => ⟨_, rfl, _, rfl, hP⟩, fun z => by omega, fun z => by omega, fun z => by omega, fun z => by omega, fun z => by omega, fun z => by omega, fun z => by omega, fun z => by omega⟩⟩, fun z => by omega, fun z => by omega, fun z => by omega⟩) (fun P hP => e_X11_count (d := 3) ⟨fun _ => ⟨fun _ => ⟨fun _ => ⟨fun z => absurd z b6, fun _ => ⟨fun _ => ⟨_, rfl, hP⟩, fun _ => ⟨fun z => by omega, fun _ => ⟨_, rfl, hP⟩⟩⟩⟩, fun z => by omega⟩, fun z => by omega⟩, fun z => by omega⟩)
