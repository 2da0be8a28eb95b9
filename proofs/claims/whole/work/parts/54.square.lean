/-! ===== square ===== -/
theorem sX_nearer {d : Nat} {A : iz_A} {v0 v1 v2 : Int} {P : Int → iz_A → Prop} (hP : P (if 0 < v1 ∧ v1 ≤ v2 ∧ (v0 = 0 ∨ v1 < v0) then v1 else v0) A) : Ci (d + 1) 54 [.inl v0, .inl v1, .inl v2] A P := by
  refine e_X5_nearer ⟨fun z => ⟨_, rfl, ?_⟩, fun z => ⟨fun z1 => ⟨_, rfl, ?_⟩, fun z1 => ⟨fun z2 => ⟨_, rfl, ?_⟩, fun z2 => ⟨fun z3 => ⟨_, rfl, ?_⟩, fun z3 => ⟨_, rfl, ?_⟩⟩⟩⟩⟩
  · rw [if_neg (by omega)] at hP; exact hP
  · rw [if_neg (by omega)] at hP; exact hP
  · rw [if_pos (by omega)] at hP; exact hP
  · rw [if_neg (by omega)] at hP; exact hP
  · rw [if_pos (by omega)] at hP; exact hP
/-- the least distance of two that are alike and touch, among the places of a kind -/
def Sqi (x : Ix) (p : Nat) (S : Nat → Prop) (b : Nat) : Prop := (∀ q, q < ixn x → S q → p < q → Al x p q (q - p) → b ≠ 0 ∧ b ≤ q - p) ∧ (b = 0 ∨ (p + b < ixn x ∧ Al x p (p + b) b))
theorem sq_step {x : Ix} {p q0 m b : Nat} {S S' : Nat → Prop} (h : Sqi x p S b) (hq : q0 < ixn x) (hd : Dif x p q0 m) (hS : ∀ q, S' q → S q ∨ q = q0) : ∃ b' : Nat, (if 0 < (q0 : Int) - (p : Int) ∧ (q0 : Int) - (p : Int) ≤ (m : Int) ∧ ((b : Int) = 0 ∨ (q0 : Int) - (p : Int) < (b : Int)) then (q0 : Int) - (p : Int) else (b : Int)) = (b' : Int) ∧ Sqi x p S' b' := by
  by_cases c : 0 < (q0 : Int) - (p : Int) ∧ (q0 : Int) - (p : Int) ≤ (m : Int) ∧ ((b : Int) = 0 ∨ (q0 : Int) - (p : Int) < (b : Int))
  · rw [if_pos c]
    refine ⟨q0 - p, (by omega), fun q q1 q2 q3 q4 => ?_, Or.inr ⟨(by omega), ?_⟩⟩
    · rcases hS q q2 with z | z
      · have := h.1 q q1 z q3 q4
        omega
      · rw [z]; omega
    · rw [show p + (q0 - p) = q0 by omega]
      exact (dif_al hd).2 (by omega)
  · rw [if_neg c]
    refine ⟨b, rfl, fun q q1 q2 q3 q4 => ?_, h.2⟩
    rcases hS q q2 with z | z
    · exact h.1 q q1 z q3 q4
    · rw [z] at q3 q4 ⊢
      have := (dif_al hd).1 q4
      omega
theorem sq_un {x : Ix} {p b b' : Nat} (h : Sqi x p (fun q => q ≠ p) b) (h' : Sqi x p (fun q => q ≠ p) b') : b = b' := by
  have key : ∀ c c', Sqi x p (fun q => q ≠ p) c → Sqi x p (fun q => q ≠ p) c' → c ≠ 0 → c' ≠ 0 ∧ c' ≤ c := fun c c' g g' hc => by
    rcases g.2 with z | ⟨z1, z2⟩
    · exact absurd z hc
    · have := g'.1 (p + c) z1 (by omega) (by omega) (by rw [show p + c - p = c by omega]; exact z2)
      omega
  by_cases c : b = 0
  · by_cases c' : b' = 0
    · omega
    · exact absurd c (key b' b h' h c').1
  · have a := key b b' h h' c
    have b := key b' _ h' h a.1
    omega
theorem sq_bd {x : Ix} (h1 : TxOk x) {p k : Nat} (hp : p < ixn x) (hk : 1 ≤ k) (hn : p + k < ixn x) (a : Al x p (p + k) k) : 2 * k ≤ lft x p := by
  obtain ⟨m, m1, m2, m3⟩ := dif_ex h1 hp hn (by omega)
  have := (dif_al m1).1 a
  have := lft_add h1 hp (j := k) (by omega)
  omega
theorem sX_twice {d : Nat} {A : iz_A} {x : Ix} {p : Nat} {P : Int → iz_A → Prop} (h1 : TxOk x) (h2 : PmOk x) (h3 : SoOk x) (h4 : XI x A) (hp : p < ixn x) (hP : ∀ b, Sqi x p (fun q => q ≠ p) b → P (b : Int) A) : Ci (d + 3) 53 [.inr (.inl 48), .inl (p : Int)] A P := by
  have nb := h1.2.2.1
  have hr := h2.2 p hp
  have lb := lft_bd h1 hp
  have cl := c_lft h1 h2 h3 hp
  have U := fun t a b => mup_dif h3 (m0 := lft x p) (r0 := ixr x p) (t := t) cl.1 a b hr.1
  have W := fun t a b => mdn_dif h3 (m0 := lft x p) (r0 := ixr x p) (t := t) cl.2 a b
  rw [hr.2] at U W
  refine e_X5_leastTwice (sX_left h1 h4 hp ⟨⟨by omega, by omega⟩, ?_⟩)
  rw [tn, (h4.2.2.1 p hp).2.2]
  have low : ∀ b : Nat, Sqi x p (fun q => ixr x q < ixr x p) b → Ci (d + 2) 24 [.inr (.inl 5), .inl (p : Int)] A (fun x1 A1 => ((0 : Int) ≤ (p : Int) ∧ (p : Int) < (3000 : Int)) ∧ inR (A1.1 10 ((p : Int)).toNat + 1) ∧ Rn (d + 2) mX5_leastTwice (fun v A' => ∃ y, v = some (.inl y) ∧ P y A') 94 [some (.inr (.inl 48)), some (.inl ((p : Int))), some (.inl ((b : Int))), some (.inl x1), some (.inl (A1.1 10 ((p : Int)).toNat + 1))] [] A1) := by
    intro b hb
    refine sX_left h1 h4 hp ⟨⟨by omega, by omega⟩, ?_⟩
    rw [tn, (h4.2.2.1 p hp).2.2, show (ixr x p : Int) + 1 = ((ixr x p + 1 : Nat) : Int) by omega]
    refine ⟨inR_b (by omega) (by omega), ?_⟩
    have := dwl (P := fun k => ∀ b : Nat, Sqi x p (fun q => ixr x q < k ∧ q ≠ p) b → Rn (d + 2) mX5_leastTwice (fun v A' => ∃ y, v = some (.inl y) ∧ P y A') 94 [some (.inr (.inl 48)), some (.inl ((p : Int))), some (.inl ((b : Int))), some (.inl ((mdn x (lft x p) (ixr x p) (k - ixr x p - 1) : Int))), some (.inl ((k : Int)))] [] A) (a := ixr x p + 1) (n := ixn x) ?_ (fun k ka hk ih => ?_) (by omega) b ⟨fun q q1 q2 q3 q4 => hb.1 q q1 (by
      have := h2.2 q q1
      have : ixr x q ≠ ixr x p := fun e => q2.2 (by rw [← this.2, e, hr.2])
      have := q2.1
      omega) q3 q4, hb.2⟩
    · rw [show ixr x p + 1 - ixr x p - 1 = 0 by omega] at this
      exact this
    · intro b hb
      refine w_X5_leastTwice_94 ?_
      rw [h4.1]
      exact ⟨fun _ => ⟨_, rfl, hP b ⟨fun q q1 q2 q3 q4 => hb.1 q q1 ⟨(h2.2 q q1).1, q2⟩ q3 q4, hb.2⟩⟩, fun z => by omega⟩
    · intro b hb
      have hs := h2.1 k hk
      have ms := mdn_s x (lft x p) (ixr x p) (k - ixr x p - 1)
      rw [show k - ixr x p - 1 + 1 = k - ixr x p by omega, show ixr x p + 1 + (k - ixr x p - 1) = k by omega] at ms
      have dd := W (k - ixr x p) (by omega) (by omega)
      rw [show ixr x p + (k - ixr x p) = k by omega] at dd
      obtain ⟨b', e', hb'⟩ := sq_step hb hs.1 dd (S' := fun q => q < ixn x ∧ ixr x q < k + 1 ∧ q ≠ p) (fun q z => by
        by_cases y : ixr x q = k
        · exact Or.inr (by rw [← (h2.2 q z.1).2, y])
        · exact Or.inl ⟨by have := z.2.1; omega, z.2.2⟩)
      refine w_X5_leastTwice_94 ?_
      rw [h4.1, tn, (h4.2.2.2.2 k hk).1, (h4.2.2.2.2 k hk).2.1]
      rw [show (if (ixc x k : Int) < (mdn x (lft x p) (ixr x p) (k - ixr x p - 1) : Int) then (ixc x k : Int) else (mdn x (lft x p) (ixr x p) (k - ixr x p - 1) : Int)) = (mdn x (lft x p) (ixr x p) (k - ixr x p) : Int) by rw [ms]; split <;> split <;> omega]
      rw [show ((k + 1 : Nat) : Int) = (k : Int) + 1 by omega, show k + 1 - ixr x p - 1 = k - ixr x p by omega] at ih
      refine ⟨fun z => by omega, fun _ => ⟨fun z => ⟨_, rfl, hP b ⟨fun q q1 q2 q3 q4 => ?_, hb.2⟩⟩, fun z => ⟨⟨by omega, by omega⟩, ⟨by omega, by omega⟩, inR_b (by omega) (by omega), sX_nearer ?_⟩⟩⟩
      · by_cases y : ixr x q < k
        · exact hb.1 q q1 ⟨y, q2⟩ q3 q4
        · have hq := h2.2 q q1
          have d2 := W (ixr x q - ixr x p) (by omega) (by omega)
          rw [show ixr x p + (ixr x q - ixr x p) = ixr x q by omega, hq.2] at d2
          have := (dif_al d2).1 q4
          have := mdn_mono x (lft x p) (ixr x p) (show k - ixr x p - 1 ≤ ixr x q - ixr x p by omega)
          omega
      · rw [e']
        exact ⟨inR_b (by omega) (by omega), ih b' ⟨fun q q1 q2 q3 q4 => hb'.1 q q1 ⟨q1, q2⟩ q3 q4, hb'.2⟩⟩
  have := upn (P := fun k => k ≤ ixr x p → ∀ b : Nat, Sqi x p (fun q => k ≤ ixr x q ∧ ixr x q < ixr x p) b → Rn (d + 2) mX5_leastTwice (fun v A' => ∃ y, v = some (.inl y) ∧ P y A') 22 [some (.inr (.inl 48)), some (.inl ((p : Int))), some (.inl ((b : Int))), some (.inl ((mup x (lft x p) (ixr x p) (ixr x p - k) : Int))), some (.inl ((k : Int)))] [] A) (a := 0) (b := ixr x p) ?_ (fun k _ hk ih => ?_) (Nat.zero_le _) (Nat.le_refl _) 0 ⟨fun q q1 q2 => by omega, Or.inl rfl⟩
  · rw [Nat.sub_self] at this
    exact this
  · intro _ b hb
    exact w_X5_leastTwice_22 ⟨fun _ => low b ⟨fun q q1 q2 q3 q4 => hb.1 q q1 ⟨Nat.zero_le _, q2⟩ q3 q4, hb.2⟩, fun z => absurd (Int.le_refl 0) z⟩
  · intro _ b hb
    have hs := h2.1 k (by omega)
    have ms := mup_s x (lft x p) (ixr x p) (ixr x p - (k + 1))
    rw [show ixr x p - (k + 1) + 1 = ixr x p - k by omega, show ixr x p - (ixr x p - (k + 1)) = k + 1 by omega] at ms
    have dd := U (ixr x p - k) (by omega) (by omega)
    rw [show ixr x p - (ixr x p - k) = k by omega] at dd
    obtain ⟨b', e', hb'⟩ := sq_step hb hs.1 dd (S' := fun q => q < ixn x ∧ k ≤ ixr x q ∧ ixr x q < ixr x p) (fun q z => by
      by_cases y : ixr x q = k
      · exact Or.inr (by rw [← (h2.2 q z.1).2, y])
      · exact Or.inl ⟨by have := z.2.1; omega, z.2.2⟩)
    refine w_X5_leastTwice_22 ⟨fun z => by omega, fun _ => ⟨fun z => low b ⟨fun q q1 q2 q3 q4 => ?_, hb.2⟩, fun z => ?_⟩⟩
    · by_cases y : k + 1 ≤ ixr x q
      · exact hb.1 q q1 ⟨y, q2⟩ q3 q4
      · have hq := h2.2 q q1
        have d2 := U (ixr x p - ixr x q) (by omega) (by omega)
        rw [show ixr x p - (ixr x p - ixr x q) = ixr x q by omega, hq.2] at d2
        have := (dif_al d2).1 q4
        have := mup_mono x (lft x p) (ixr x p) (show ixr x p - (k + 1) ≤ ixr x p - ixr x q by omega)
        omega
    · rw [tn, show (((k + 1 : Nat) : Int) - 1).toNat = k by omega, (h4.2.2.2.2 k (by omega)).1, (h4.2.2.2.2 (k + 1) (by omega)).2.1]
      rw [show (if (ixc x (k + 1) : Int) < (mup x (lft x p) (ixr x p) (ixr x p - (k + 1)) : Int) then (ixc x (k + 1) : Int) else (mup x (lft x p) (ixr x p) (ixr x p - (k + 1)) : Int)) = (mup x (lft x p) (ixr x p) (ixr x p - k) : Int) by rw [ms]; split <;> split <;> omega]
      rw [show ((k + 1 : Nat) : Int) + -1 = (k : Int) by omega]
      refine ⟨⟨by omega, by omega⟩, inR_b (by omega) (by omega), ⟨by omega, by omega⟩, inR_b (by omega) (by omega), sX_nearer ?_⟩
      rw [e']
      exact ⟨inR_b (by omega) (by omega), ih (by omega) b' ⟨fun q q1 q2 q3 q4 => hb'.1 q q1 ⟨q1, q2⟩ q3 q4, hb'.2⟩⟩
theorem sM_square {d : Nat} {A : iz_A} {x : Ix} {p : Nat} {P : Int → iz_A → Prop} (h1 : TxOk x) (h5 : MI x A) (hp : p < ixn x) (hP : ∀ b, Sqi x p (fun q => q ≠ p) b → P (b : Int) A) : Ci (d + 3) 242 [.inr (.inl 55), .inl (p : Int)] A P := by
  have nb := h1.2.2.1
  have lb := lft_bd h1 hp
  have lp := lft_in h1 hp
  refine e_X11_square (sM_isRowK h5 hp ⟨fun _ => ?_, fun z => absurd z n10⟩)
  have := dwl (P := fun k => (∀ j, 1 ≤ j → j < k → p + j < ixn x → ¬ Al x p (p + j) j) → Rn (d + 2) mX11_square (fun v A' => ∃ y, v = some (.inl y) ∧ P y A') 12 [some (.inr (.inl 55)), some (.inl ((p : Int))), some (.inl ((k : Int)))] [] A) (a := 1) (n := lft x p + 1) ?_ (fun k ka hk ih => ?_) (by omega) (fun j a b => by omega)
  · exact this
  · intro hj
    refine w_X11_square_12 ⟨inR_b (by omega) (by omega), sM_left h1 h5 hp ⟨fun _ => ⟨_, rfl, hP 0 ⟨fun q q1 q2 q3 q4 => ?_, Or.inl rfl⟩⟩, fun z => by omega⟩⟩
    have e : p + (q - p) = q := (by omega)
    have := sq_bd h1 hp (k := q - p) (by omega) (by omega) (by rw [e]; exact q4)
    exact absurd (by rw [e]; exact q4) (hj (q - p) (by omega) (by omega) (by omega))
  · intro hj
    refine w_X11_square_12 ⟨inR_b (by omega) (by omega), sM_left h1 h5 hp ⟨fun z => ⟨_, rfl, hP 0 ⟨fun q q1 q2 q3 q4 => ?_, Or.inl rfl⟩⟩, fun z => ⟨inR_b (by omega) (by omega), ?_⟩⟩⟩
    · have e : p + (q - p) = q := (by omega)
      have := sq_bd h1 hp (k := q - p) (by omega) (by omega) (by rw [e]; exact q4)
      exact absurd (by rw [e]; exact q4) (hj (q - p) (by omega) (by omega) (by omega))
    · rw [show (p : Int) + (k : Int) = ((p + k : Nat) : Int) by omega]
      obtain ⟨m, m1, m2, m3⟩ := dif_ex h1 hp (q := p + k) (by omega) (by omega)
      refine sM_alikeOf h1 h5 hp (q := p + k) (k := m) (by omega) ⟨m2, m3⟩ m1.1 (Or.inr (Or.inr m1.2)) ⟨fun y => ⟨inR_b (by omega) (by omega), ?_⟩, fun y => ⟨_, rfl, hP k ⟨fun q q1 q2 q3 q4 => ⟨(by omega), ?_⟩, Or.inr ⟨(by omega), (dif_al m1).2 (by omega)⟩⟩⟩⟩
      · rw [show ((k + 1 : Nat) : Int) = (k : Int) + 1 by omega] at ih
        refine ih (fun j a b c al => ?_)
        by_cases w : j = k
        · rw [w] at al
          have := (dif_al m1).1 al
          omega
        · exact hj j a (by omega) c al
      · by_cases w : k ≤ q - p
        · exact w
        · have e : p + (q - p) = q := (by omega)
          exact absurd (by rw [e]; exact q4) (hj (q - p) (by omega) (by omega) (by omega))
theorem b_square {A : iz_A} {I : iz_A → Prop} {v : Int} (hx : IdxAt A) (hI : I A) : Bo 151 242 [.inl v] [.inl v] A I := by
  rcases row_cases v hx with ⟨x, p, ⟨h1, h2, h3, h4, h5⟩, rfl, hp⟩ | ⟨n1, n2⟩
  · refine Ci_mono (d := 4) (by decide) (e_X10_square (d := 3) (sX_hasK h4 hp ⟨fun z => absurd z n10, fun _ => sX_twice h1 h2 h3 h4 hp fun b hb => ⟨_, rfl, ?_⟩⟩)) (fun _ _ z => z)
    refine Ci_mono (d := 3) (by decide) (sM_square (d := 0) (P := fun x2 A2 => _ = x2 ∧ I A2) h1 h5 hp fun b' hb' => ⟨?_, hI⟩) (fun _ _ z => z)
    rw [sq_un hb hb']
  · refine bo_bad (d := 2) (d' := 2) (by decide) (by decide) hI (fun P hP => ?_) (fun P hP => ?_)
    · exact e_X10_square (d := 1) (sX_hasN n1 ⟨fun _ => ⟨_, rfl, hP⟩, fun z => absurd rfl z⟩)
    · exact e_X11_square (d := 1) (sM_isRowN n2 ⟨fun z => absurd rfl z, fun _ => ⟨_, rfl, hP⟩⟩)
