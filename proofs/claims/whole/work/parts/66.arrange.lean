theorem rk_1 {n : Nat} {t : Nat → Int} (h : ∀ p, p < n → -40 ≤ t p ∧ t p < 256) : RkOk n t (1 + 0) (fun p => (t p + 40).toNat) := by
  intro p q hp hq
  have a := h p hp
  have b := h q hq
  show (t p + 40).toNat < (t q + 40).toNat ↔ _
  constructor
  · intro z
    refine ⟨0, by decide, fun j hj => by omega, ?_⟩
    unfold Tx
    rw [if_pos (show p + 0 < n from hp), if_pos (show q + 0 < n from hq), Nat.add_zero, Nat.add_zero]
    omega
  · rintro ⟨k, k1, k2, k3⟩
    obtain rfl : k = 0 := (by omega)
    unfold Tx at k3
    rw [if_pos (show p + 0 < n from hp), if_pos (show q + 0 < n from hq), Nat.add_zero, Nat.add_zero] at k3
    omega
theorem rho_max {n : Nat} {t : Nat → Int} {w : Nat} {S G : Nat → Nat} (h : Srt n t w S G) {i : Nat} (hi : i < n) : rho n t w S i ≤ rho n t w S (n - 1) := by
  rcases rho_two h (n - 1) (show i ≤ n - 1 by omega) (by omega) with ⟨y, -⟩ | ⟨y, -⟩ <;> omega
theorem rx_0 {n : Nat} {R : Nat → Nat} {p : Nat} (hp : p < n) : rx n R (p + 0) = (R p : Int) := if_pos hp
theorem ew_dbl {n : Nat} {t : Nat → Int} (ht : ∀ p, p < n → -1000 < t p) {w : Nat} (hw : 1 ≤ w) {R : Nat → Nat} (h : RkOk n t w R) {p q : Nat} (hp : p < n) (hq : q < n) : Ew n t (w + w) p q ↔ R p = R q ∧ rx n R (p + w) = rx n R (q + w) := by
  rw [ew_add, rk_eq h hp hq, rx_eq ht hw h]
theorem sX_arrange {d : Nat} {A : iz_A} {x : Ix} {P : iz_A → Prop} (h1 : TxOk x) (h6 : ∀ p, p < ixn x → A.1 6 p = ixt x p) (hP : ∀ C, fr [9, 10, 14, 15, 16] A C → ∀ S G : Nat → Nat, Sod (ixn x) (ixt x) S G → (∀ i, i < ixn x → C.1 9 i = (S i : Int)) → (∀ p, p < ixn x → C.1 10 p = (G p : Int)) → P C) : Cv (d + 4) 94 [.inr (.inl 13), .inr (.inl 6), .inl (ixn x : Int), .inr (.inl 9), .inr (.inl 10)] A P := by
  have nb := h1.2.2.1
  have np := n_pos h1
  have tb : ∀ p, p < ixn x → -40 ≤ ixt x p ∧ ixt x p < 256 := fun p hp => by
    have := t_lt h1 hp
    omega
  have ht : ∀ p, p < ixn x → -1000 < ixt x p := fun p hp => by
    have := tb p hp
    omega
  refine e_X8_arrange ?_
  refine dwl (P := fun p => ∀ B, fr [9, 10, 14, 15, 16] A B → (∀ j, j < p → B.1 10 j = (((ixt x j + 40).toNat : Nat) : Int) ∧ B.1 14 j = (j : Int)) → Rn (d + 3) mX8_arrange (fun v A' => v = none ∧ P A') 3 [some (.inr (.inl 13)), some (.inr (.inl 6)), some (.inl ((ixn x : Int))), some (.inr (.inl 9)), some (.inr (.inl 10)), some (.inl ((p : Int))), none] [] B) (a := 0) (n := ixn x) ?_ (fun p _ hp ih => ?_) (Nat.zero_le _) A (fr_mo (fr_rf A) (by decide)) (fun j hj => by omega)
  · intro B f b
    have idp : Pn (ixn x) (fun i => i) (fun i => i) := ⟨fun i hi => ⟨hi, rfl⟩, fun i hi => ⟨hi, rfl⟩⟩
    have rk := rk_1 tb
    refine w_X8_arrange_3 ⟨fun _ => ?_, fun z => by omega⟩
    refine sX_byRank (K := 296) nb (by decide) idp (fun p hp => ⟨(b p hp).1, by have := tb p hp; omega⟩) (fun i hi => (b i hi).2) fun B1 f1 S b9 bS => ?_
    obtain ⟨G, hS⟩ := srt_of idp rk (v := 0) (fun i j _ _ z => by
      obtain ⟨k, k1, -⟩ := z
      omega) bS
    have b10 : ∀ p, p < ixn x → B1.1 10 p = (((ixt x p + 40).toNat : Nat) : Int) := fun p hp => by rw [f1.1 10 (by decide)]; exact (b p hp).1
    refine sX_rankAnew (w := 0) (W := 1 + 0) nb np (by decide) hS b9 b10 (fun p q hp hq => ?_) fun B2 f2 c10 => ?_
    · rw [← rk_eq rk hp hq, rx_0 hp, rx_0 hq]
      exact ⟨fun z => ⟨z, by rw [z]⟩, fun z => z.1⟩
    · have c9 : ∀ i, i < ixn x → B2.1 9 i = (S i : Int) := fun i hi => by rw [f2.1 9 (by decide)]; exact b9 i hi
      have main : ∀ m W S G C, ixn x ≤ W + m → 1 ≤ W → W ≤ 6000 → fr [9, 10, 14, 15, 16] A C → Srt (ixn x) (ixt x) W S G → (∀ i, i < ixn x → C.1 9 i = (S i : Int)) → (∀ p, p < ixn x → C.1 10 p = (rho (ixn x) (ixt x) W S (G p) : Int)) → Rn (d + 3) mX8_arrange (fun v A' => v = none ∧ P A') 61 [some (.inr (.inl 13)), some (.inr (.inl 6)), some (.inl ((ixn x : Int))), some (.inr (.inl 9)), some (.inr (.inl 10)), some (.inl (((rho (ixn x) (ixt x) W S (ixn x - 1) + 1 : Nat) : Int))), some (.inl ((W : Int)))] [] C := by
        intro m
        induction m with
        | zero =>
          intro W S G C m1 w1 w2 fC hS c9 c10
          have rf := rho_full ht hS np (Or.inl m1)
          exact w_X8_arrange_61 ⟨fun _ => ⟨rfl, hP C fC S G (srt_sod h1 hS rf) c9 (fun p hp => by rw [c10 p hp, rf _ (hS.1.2 p hp).1])⟩, fun z => by omega⟩
        | succ m ihm =>
          intro W S G C m1 w1 w2 fC hS c9 c10
          have rl := rho_le (ixn x) (ixt x) W S (ixn x - 1)
          have stop : (ixn x ≤ W ∨ rho (ixn x) (ixt x) W S (ixn x - 1) + 1 = ixn x) → P C := fun y => by
            have rf := rho_full ht hS np y
            exact hP C fC S G (srt_sod h1 hS rf) c9 (fun p hp => by rw [c10 p hp, rf _ (hS.1.2 p hp).1])
          refine w_X8_arrange_61 ⟨fun z => ⟨rfl, stop (Or.inl (by omega))⟩, fun z => ⟨fun z2 => ⟨rfl, stop (Or.inr (by omega))⟩, fun z2 => ?_⟩⟩
          have ro := rho_ok hS
          refine sX_halves nb hS.1 c9 (w := W) (by omega) fun D fD H d14 dh1 dh2 => ?_
          obtain ⟨HG, hH, hHo⟩ := half_ok ht hS (show W < ixn x by omega) dh1 dh2
          have d10 : ∀ p, p < ixn x → D.1 10 p = ((rho (ixn x) (ixt x) W S (G p) : Nat) : Int) ∧ rho (ixn x) (ixt x) W S (G p) < rho (ixn x) (ixt x) W S (ixn x - 1) + 1 := fun p hp => ⟨by rw [fD.1 10 (by decide)]; exact c10 p hp, by
            have := rho_max hS (hS.1.2 p hp).1
            omega⟩
          refine sX_byRank (R := fun p => rho (ixn x) (ixt x) W S (G p)) nb (by omega) hH d10 d14 fun E fE S' e9 eS => ?_
          obtain ⟨G', hS'⟩ := srt_of hH ro hHo eS
          have e10 : ∀ p, p < ixn x → E.1 10 p = ((rho (ixn x) (ixt x) W S (G p) : Nat) : Int) := fun p hp => by rw [fE.1 10 (by decide)]; exact (d10 p hp).1
          refine sX_rankAnew (R := fun p => rho (ixn x) (ixt x) W S (G p)) (w := W) (W := W + W) nb np (by omega) hS' e9 e10 (fun p q hp hq => ew_dbl ht w1 ro hp hq) fun E2 f2' g10 => ⟨inR_b (by omega) (by omega), ?_⟩
          rw [show (W : Int) + (W : Int) = ((W + W : Nat) : Int) by omega]
          exact ihm (W + W) S' G' E2 (by omega) (by omega) (by omega) (fr_mo (fr_tr fC (fr_tr fD (fr_tr fE f2'))) (by decide)) hS' (fun i hi => by rw [f2'.1 9 (by decide)]; exact e9 i hi) g10
      have := main (ixn x) (1 + 0) S G B2 (by omega) (by decide) (by decide) (fr_mo (fr_tr f (fr_tr f1 f2)) (by decide)) hS c9 c10
      exact this
  · intro B f b
    refine w_X8_arrange_3 ?_
    have tp := tb p hp
    rw [tn, f.1 6 (by decide), h6 p hp]
    rw [show ((p + 1 : Nat) : Int) = (p : Int) + 1 by omega] at ih
    refine ⟨fun z => by omega, fun _ => ⟨⟨by omega, by omega⟩, inR_b (by omega) (by omega), ⟨by omega, by omega⟩, ⟨by omega, by omega⟩, inR_b (by omega) (by omega), ih _ (fr_pI (fr_pI f (by decide)) (by decide)) (fun j hj => ?_)⟩⟩
    show uz (B.1 10) p _ j = _ ∧ uz (B.1 14) p _ j = _
    by_cases y : j = p
    · rw [y, uz_at, uz_at]
      exact ⟨(by omega), rfl⟩
    · rw [uz_ne _ _ y, uz_ne _ _ y]
      exact b j (by omega)
