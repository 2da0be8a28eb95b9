theorem sM_sortAll {d : Nat} {A : iz_A} {x : Ix} {P : iz_A → Prop} (h1 : TxOk x) (h7 : A.1 55 7 = (ixn x : Int)) (h59 : ∀ p, p < ixn x → A.1 59 p = (if ixt x p < 0 then -1 else ixt x p) ∧ A.1 60 p = (ixo x p : Int)) (hP : ∀ C, fr [63, 64, 66, 67, 68] A C → ∀ S G : Nat → Nat, Sod (ixn x) (ixt x) S G → (∀ i, i < ixn x → C.1 63 i = (S i : Int)) → (∀ p, p < ixn x → C.1 64 p = (G p : Int)) → P C) : Cv (d + 3) 164 [.inr (.inl 55)] A P := by
  have nb := h1.2.2.1
  have np := n_pos h1
  have mb := h1.2.1
  have tb : ∀ p, p < ixn x → -40 ≤ ixt x p ∧ ixt x p < 256 := fun p hp => by
    have := t_lt h1 hp
    omega
  have ht : ∀ p, p < ixn x → -1000 < ixt x p := fun p hp => by
    have := tb p hp
    omega
  have rk := rk_1 tb
  have idp : Pn (ixn x) (fun i => i) (fun i => i) := ⟨fun i hi => ⟨hi, rfl⟩, fun i hi => ⟨hi, rfl⟩⟩
  generalize hR : (fun p => (ixt x p + 40).toNat) = R at *
  have rr : ∀ p, (ixt x p + 40).toNat = R p := fun p => by rw [← hR]
  have rb : ∀ p, p < ixn x → R p < 296 := fun p hp => by
    have := tb p hp
    rw [← rr]; omega
  -- the loop over lengths
  have main : ∀ m W S G C, ixn x ≤ W + m → 1 ≤ W → W ≤ 6000 → fr [63, 64, 66, 67, 68] A C → Srt (ixn x) (ixt x) W S G → (∀ i, i < ixn x → C.1 63 i = (S i : Int)) → (∀ p, p < ixn x → C.1 64 p = (rho (ixn x) (ixt x) W S (G p) : Int)) → Rn (d + 2) mX11_sortAll (fun v A' => v = none ∧ P A') 267 [some (.inr (.inl 55)), some (.inl ((rho (ixn x) (ixt x) W S (ixn x - 1) : Int))), some (.inl ((W : Int)))] [] C := by
    intro m
    induction m with
    | zero =>
      intro W S G C m1 w1 w2 fC hS c9 c10
      have rf := rho_full ht hS np (Or.inl m1)
      refine w_X11_sortAll_267 ?_
      rw [fC.1 55 (by decide), h7]
      exact ⟨fun _ => ⟨rfl, hP C fC S G (srt_sod h1 hS rf) c9 (fun p hp => by rw [c10 p hp, rf _ (hS.1.2 p hp).1])⟩, fun z => by omega⟩
    | succ m ihm =>
      intro W S G C m1 w1 w2 fC hS c9 c10
      have rl := rho_le (ixn x) (ixt x) W S (ixn x - 1)
      have stop : (ixn x ≤ W ∨ rho (ixn x) (ixt x) W S (ixn x - 1) + 1 = ixn x) → P C := fun y => by
        have rf := rho_full ht hS np y
        exact hP C fC S G (srt_sod h1 hS rf) c9 (fun p hp => by rw [c10 p hp, rf _ (hS.1.2 p hp).1])
      have c7 : C.1 55 7 = (ixn x : Int) := by rw [fC.1 55 (by decide)]; exact h7
      refine w_X11_sortAll_267 ?_
      rw [c7]
      refine ⟨fun z => ⟨rfl, stop (Or.inl (by omega))⟩, fun z => ⟨inR_b (by omega) (by omega), fun z2 => ⟨rfl, stop (Or.inr (by omega))⟩, fun z2 => ?_⟩⟩
      refine sM_sortBy ht nb np c7 w1 (by omega) hS c9 c10 fun D fD S' G' hS' d63 d64 => ?_
      have d7 : D.1 55 7 = (ixn x : Int) := by rw [fD.1 55 (by decide)]; exact c7
      have sl := hS'.1.1 (ixn x - 1) (by omega)
      rw [d7, show ((ixn x : Int) - 1).toNat = ixn x - 1 by omega, d63 _ (show ixn x - 1 < ixn x by omega), tn, d64 _ sl.1, sl.2, show 2 * (W : Int) = ((W + W : Nat) : Int) by omega]
      exact ⟨inR_b (by omega) (by omega), ⟨by omega, by omega⟩, ⟨by omega, by omega⟩, inR_b (by omega) (by omega), ihm (W + W) S' G' D (by omega) (by omega) (by omega) (fr_mo (fr_tr fC fD) (by decide)) hS' d63 d64⟩
  -- first ranks
  have ranks : ∀ S G B, fr [63, 64, 66, 67, 68] A B → (∀ p, p < ixn x → B.1 67 p = (R p : Int)) → Srt (ixn x) (ixt x) (1 + 0) S G → (∀ i, i < ixn x → B.1 63 i = (S i : Int)) → Rn (d + 2) mX11_sortAll (fun v A' => v = none ∧ P A') 172 [some (.inr (.inl 55)), some (.inl 0), some (.inl 0)] [] B := by
    intro S G B fB b67 hS b63
    have m1 := dwl (P := fun i => ∀ C, fr [63, 64, 66, 67, 68] A C → (∀ p, p < ixn x → C.1 67 p = (R p : Int)) → (∀ i, i < ixn x → C.1 63 i = (S i : Int)) → (∀ j, j < i → C.1 66 (S j) = (rho (ixn x) (ixt x) (1 + 0) S j : Int)) → Rn (d + 2) mX11_sortAll (fun v A' => v = none ∧ P A') 172 [some (.inr (.inl 55)), some (.inl ((rho (ixn x) (ixt x) (1 + 0) S (i - 1) : Int))), some (.inl ((i : Int)))] [] C) (a := 0) (n := ixn x) ?_ (fun i _ hi ih => ?_) (Nat.zero_le _) B fB b67 b63 (fun j hj => by omega)
    · exact m1
    · intro C fC c67 c63 c66
      refine w_X11_sortAll_172 ?_
      rw [fC.1 55 (by decide), h7]
      refine ⟨fun _ => ?_, fun z => by omega⟩
      refine dwl (P := fun p => ∀ D, fr [63, 64, 66, 67, 68] A D → (∀ i, i < ixn x → D.1 63 i = (S i : Int)) → (∀ j, j < ixn x → D.1 66 (S j) = (rho (ixn x) (ixt x) (1 + 0) S j : Int)) → (∀ q, q < p → D.1 64 q = (rho (ixn x) (ixt x) (1 + 0) S (G q) : Int)) → Rn (d + 2) mX11_sortAll (fun v A' => v = none ∧ P A') 239 [some (.inr (.inl 55)), some (.inl ((rho (ixn x) (ixt x) (1 + 0) S (ixn x - 1) : Int))), some (.inl ((p : Int)))] [] D) (a := 0) (n := ixn x) ?_ (fun p _ hp ih => ?_) (Nat.zero_le _) C fC c63 c66 (fun q hq => by omega)
      · intro D fD d63 d66 d64
        refine w_X11_sortAll_239 ?_
        rw [fD.1 55 (by decide), h7]
        exact ⟨fun _ => main (ixn x) (1 + 0) S G D (by omega) (by decide) (by decide) fD hS d63 d64, fun z => by omega⟩
      · intro D fD d63 d66 d64
        have g := hS.1.2 p hp
        have dv := d66 _ g.1
        rw [g.2] at dv
        refine w_X11_sortAll_239 ?_
        rw [fD.1 55 (by decide), h7, tn, dv]
        rw [show ((p + 1 : Nat) : Int) = (p : Int) + 1 by omega] at ih
        refine ⟨fun z => by omega, fun _ => ⟨⟨by omega, by omega⟩, ⟨by omega, by omega⟩, inR_b (by omega) (by omega), ih _ (fr_pI fD (by decide)) d63 d66 (fun q hq => ?_)⟩⟩
        show uz (D.1 64) p _ q = _
        by_cases y : q = p
        · rw [y, uz_at]
        · rw [uz_ne _ _ y]; exact d64 q (by omega)
    · intro C fC c67 c63 c66
      have si := (hS.1.1 i hi).1
      have rl := rho_le (ixn x) (ixt x) (1 + 0) S (i - 1)
      have put : ∀ v : Nat, v = rho (ixn x) (ixt x) (1 + 0) S i → Rn (d + 2) mX11_sortAll (fun v A' => v = none ∧ P A') 172 [some (.inr (.inl 55)), some (.inl ((v : Int))), some (.inl ((i : Int) + 1))] [] (iz_pI C 66 (uz (C.1 66) (S i) (v : Int))) := fun v hv => by
        rw [show ((i + 1 : Nat) : Int) = (i : Int) + 1 by omega, show i + 1 - 1 = i by omega, ← hv] at ih
        refine ih _ (fr_pI fC (by decide)) c67 c63 (fun j hj => ?_)
        show uz (C.1 66) _ _ _ = _
        by_cases y : j = i
        · rw [y, uz_at, hv]
        · have e1 := (hS.1.1 j (by omega)).2
          have e2 := (hS.1.1 i hi).2
          rw [uz_ne _ _ (fun e => y (by rw [← e1, e, e2]))]
          exact c66 j (by omega)
      refine w_X11_sortAll_172 ?_
      rw [fC.1 55 (by decide), h7, tn i, c63 i hi, tn (S i)]
      refine ⟨fun z => by omega, fun _ => ⟨fun z => ⟨inR_b (by omega) (by omega), ⟨by omega, by omega⟩, ⟨by omega, by omega⟩, inR_b (by omega) (by omega), ?_⟩, fun z => ?_⟩⟩
      · have i0 : i = 0 := (by omega)
        have := put (rho (ixn x) (ixt x) (1 + 0) S (i - 1)) (by rw [i0])
        rw [show (rho (ixn x) (ixt x) (1 + 0) S (i - 1) : Int) + 0 = (rho (ixn x) (ixt x) (1 + 0) S (i - 1) : Int) from Int.add_zero _]
        exact this
      · have sj := (hS.1.1 (i - 1) (by omega)).1
        have rs := rho_s (ixn x) (ixt x) (1 + 0) S (i - 1)
        rw [show i - 1 + 1 = i by omega] at rs
        have cc := rk_eq rk sj si
        rw [show ((i : Int) - 1).toNat = i - 1 by omega, c63 (i - 1) (by omega), tn (S (i - 1)), c67 _ si, c67 _ sj]
        refine ⟨⟨by omega, by omega⟩, ⟨by omega, by omega⟩, inR_b (by omega) (by omega), ⟨by omega, by omega⟩, ⟨by omega, by omega⟩, fun y => ⟨inR_b (by omega) (by omega), ⟨by omega, by omega⟩, ⟨by omega, by omega⟩, inR_b (by omega) (by omega), ?_⟩, fun y => ⟨inR_b (by omega) (by omega), ⟨by omega, by omega⟩, ⟨by omega, by omega⟩, inR_b (by omega) (by omega), ?_⟩⟩
        · have := put (rho (ixn x) (ixt x) (1 + 0) S (i - 1)) (by rw [rs, onc_0 (fun e => e (cc.1 (by omega)))]; rfl)
          rw [show (rho (ixn x) (ixt x) (1 + 0) S (i - 1) : Int) + 0 = (rho (ixn x) (ixt x) (1 + 0) S (i - 1) : Int) from Int.add_zero _]
          exact this
        · have := put (rho (ixn x) (ixt x) (1 + 0) S (i - 1) + 1) (by rw [rs, onc_1 (fun e => y (by rw [cc.2 e]))])
          exact this
  refine e_X11_sortAll ?_
  refine dwl (P := fun k => ∀ B, fr [63, 64, 66, 67, 68] A B → (∀ j, j < k → B.1 68 j = 0) → Rn (d + 2) mX11_sortAll (fun v A' => v = none ∧ P A') 2 [some (.inr (.inl 55)), some (.inl ((k : Int))), none] [] B) (a := 0) (n := 300) ?_ (fun k _ hk ih => ?_) (Nat.zero_le _) A (fr_mo (fr_rf A) (by decide)) (fun j hj => by omega)
  · intro B f b
    refine w_X11_sortAll_2 ⟨fun _ => ?_, fun z => absurd (Int.le_refl _) z⟩
    refine dwl (P := fun p => ∀ B, fr [63, 64, 66, 67, 68] A B → (∀ q, q < p → B.1 67 q = (R q : Int)) → (∀ k, k < 300 → B.1 68 k = (ct (fun q => R q + 1 = k) p : Int)) → Rn (d + 2) mX11_sortAll (fun v A' => v = none ∧ P A') 24 [some (.inr (.inl 55)), some (.inl ((p : Int))), none] [] B) (a := 0) (n := ixn x) ?_ (fun p _ hp ih => ?_) (Nat.zero_le _) B f (fun q hq => by omega) (fun k hk => b k hk)
    · intro B f b67 b68
      refine w_X11_sortAll_24 ?_
      rw [f.1 55 (by decide), h7]
      refine ⟨fun _ => ?_, fun z => by omega⟩
      refine dwl (P := fun r => ∀ B, fr [63, 64, 66, 67, 68] A B → (∀ q, q < ixn x → B.1 67 q = (R q : Int)) → (∀ k, k < r → k < 300 → B.1 68 k = (cl R (ixn x) k : Int)) → (∀ k, r ≤ k → k < 300 → B.1 68 k = (ct (fun q => R q + 1 = k) (ixn x) : Int)) → Rn (d + 2) mX11_sortAll (fun v A' => v = none ∧ P A') 90 [some (.inr (.inl 55)), some (.inl ((r : Int))), none] [] B) (a := 1) (n := 300) ?_ (fun r ra hr ih => ?_) (by decide) B f b67 (fun k hk _ => ?_) (fun k _ hk => b68 k hk)
      · intro B f b67 b1 _
        refine w_X11_sortAll_90 ⟨fun _ => ?_, fun z => absurd (Int.le_refl _) z⟩
        refine dwl (P := fun i => ∀ B, fr [63, 64, 66, 67, 68] A B → (∀ q, q < ixn x → B.1 67 q = (R q : Int)) → (∀ k, k < 300 → B.1 68 k = ((cl R (ixn x) k + ct (fun j => R j = k) i : Nat) : Int)) → (∀ j, j < i → B.1 63 (pos R (fun i => i) (ixn x) j) = (j : Int)) → Rn (d + 2) mX11_sortAll (fun v A' => v = none ∧ P A') 122 [some (.inr (.inl 55)), some (.inl ((i : Int))), none] [] B) (a := 0) (n := ixn x) ?_ (fun i _ hi ih => ?_) (Nat.zero_le _) B f b67 (fun k hk => b1 k hk hk) (fun j hj => by omega)
        · intro B f b67 b1 b2
          obtain ⟨J, hJ⟩ := pigeon (f := pos R (fun i => i) (ixn x)) (fun j hj => pos_n idp R hj) (fun i j hi hj => pos_ne idp R (by omega) hj (by omega))
          refine w_X11_sortAll_122 ?_
          rw [f.1 55 (by decide), h7]
          refine ⟨fun _ => ?_, fun z => by omega⟩
          obtain ⟨G, hS⟩ := srt_of (S := fun i => (B.1 63 i).toNat) idp rk (v := 0) (fun i j _ _ z => by
            obtain ⟨k, k1, -⟩ := z
            omega) (fun j hj => by
            show (B.1 63 _).toNat = _
            rw [b2 j hj]; omega)
          refine ranks _ G B f b67 hS (fun i hi => ?_)
          have a := hJ.2 i hi
          have b := b2 _ a.1
          rw [a.2] at b
          show B.1 63 i = ((B.1 63 i).toNat : Int)
          rw [b]; omega
        · intro B f b67 b1 b2
          have hk := rb i hi
          have pn := pos_n idp R hi
          have pe : cl R (ixn x) (R i) + ct (fun j => R j = R i) i = pos R (fun i => i) (ixn x) i := rfl
          refine w_X11_sortAll_122 ?_
          rw [f.1 55 (by decide), h7, tn i, b67 i hi, tn (R i), b1 _ (by omega), pe, tn]
          rw [show ((i + 1 : Nat) : Int) = (i : Int) + 1 by omega] at ih
          refine ⟨fun z => by omega, fun _ => ⟨⟨by omega, by omega⟩, ⟨by omega, by omega⟩, ⟨by omega, by omega⟩, ⟨by omega, by omega⟩, ⟨by omega, by omega⟩, inR_b (by omega) (by omega), ⟨by omega, by omega⟩, inR_b (by omega) (by omega), ih _ (fr_pI (fr_pI f (by decide)) (by decide)) b67 (fun k hk' => ?_) (fun j hj => ?_)⟩⟩
          · show uz (B.1 68) _ _ k = _
            rw [ct_s]
            by_cases y : k = R i
            · rw [y, uz_at, if_pos rfl]; omega
            · rw [uz_ne _ _ y, b1 k hk', if_neg (fun e => y e.symm), Nat.add_zero]
          · show uz (B.1 63) _ _ _ = _
            by_cases y : j = i
            · rw [y, uz_at]
            · rw [uz_ne _ _ (pos_ne idp R (by omega) hi y)]; exact b2 j (by omega)
      · intro B f b67 b1 b2
        have cs := cl_s R (ixn x) (r - 1)
        rw [show r - 1 + 1 = r by omega] at cs
        have cn := cl_le R (ixn x) r
        refine w_X11_sortAll_90 ?_
        rw [tn r, show ((r : Int) - 1).toNat = r - 1 by omega, b1 (r - 1) (by omega) (by omega), b2 r (Nat.le_refl _) (by omega)]
        rw [show ((r + 1 : Nat) : Int) = (r : Int) + 1 by omega] at ih
        refine ⟨fun z => by omega, fun _ => ⟨⟨by omega, by omega⟩, inR_b (by omega) (by omega), ⟨by omega, by omega⟩, inR_b (by omega) (by omega), ⟨by omega, by omega⟩, inR_b (by omega) (by omega), ih _ (fr_pI f (by decide)) b67 (fun k hk1 hk2 => ?_) (fun k hk1 hk2 => ?_)⟩⟩
        · show uz (B.1 68) _ _ k = _
          by_cases y : k = r
          · rw [y, uz_at]; omega
          · rw [uz_ne _ _ y]; exact b1 k (by omega) hk2
        · show uz (B.1 68) _ _ k = _
          rw [uz_ne _ _ (by omega)]; exact b2 k (by omega) hk2
      · obtain rfl : k = 0 := (by omega)
        rw [b68 0 (by decide), cl_0, ct_0 (fun i _ z => by omega)]
    · intro B f b67 b68
      have hk := rb p hp
      have tp := tb p hp
      have cb := ct_le (fun q => R q + 1 = R p + 1) p
      have e59 := (h59 p hp).1
      have e60 := (h59 p hp).2
      have op := (lft_in h1 hp).2.2
      rw [show ((p + 1 : Nat) : Int) = (p : Int) + 1 by omega] at ih
      have nx : ∀ B', fr [63, 64, 66, 67, 68] A B' → B'.1 67 = uz (B.1 67) p (R p : Int) → B'.1 68 = uz (B.1 68) (R p + 1) ((ct (fun q => R q + 1 = R p + 1) p : Int) + 1) → Rn (d + 2) mX11_sortAll (fun v A' => v = none ∧ P A') 24 [some (.inr (.inl 55)), some (.inl ((p : Int) + 1)), none] [] B' := fun B' f' e1 e2 => by
        refine ih B' f' (fun q hq => ?_) (fun k hk' => ?_)
        · rw [e1]
          by_cases y : q = p
          · rw [y, uz_at]
          · rw [uz_ne _ _ y]; exact b67 q (by omega)
        · rw [e2, ct_s]
          by_cases y : k = R p + 1
          · rw [y, uz_at, if_pos rfl]; omega
          · rw [uz_ne _ _ y, b68 k hk', if_neg (fun e => y e.symm), Nat.add_zero]
      refine w_X11_sortAll_24 ?_
      rw [f.1 55 (by decide), h7, tn p, f.1 59 (by decide), f.1 60 (by decide), e59, e60, uz_at, uz_at]
      refine ⟨fun z => by omega, fun _ => ⟨⟨by omega, by omega⟩, fun z => ?_, fun z => ?_⟩⟩
      · have t0 : ¬ ixt x p < 0 := fun y => by rw [if_pos y] at z; omega
        have er : (40 : Int) + ixt x p = (R p : Int) := by rw [← rr]; omega
        rw [if_neg t0, er, show ((R p : Int) + 1).toNat = R p + 1 by omega, b68 _ (by omega)]
        exact ⟨⟨by omega, by omega⟩, inR_b (by omega) (by omega), ⟨by omega, by omega⟩, ⟨by omega, by omega⟩, inR_b (by omega) (by omega), ⟨by omega, by omega⟩, inR_b (by omega) (by omega), ⟨by omega, by omega⟩, inR_b (by omega) (by omega), nx _ (fr_pI (fr_pI f (by decide)) (by decide)) rfl rfl⟩
      · have t0 : ixt x p < 0 := Decidable.of_not_not (fun y => z (by rw [if_neg y]; omega))
        have er : (ixo x p : Int) = (R p : Int) := by
          rw [← rr, (own_end h1 hp t0).1]; omega
        rw [er, show ((R p : Int) + 1).toNat = R p + 1 by omega, b68 _ (by omega)]
        exact ⟨⟨by omega, by omega⟩, ⟨by omega, by omega⟩, ⟨by omega, by omega⟩, inR_b (by omega) (by omega), ⟨by omega, by omega⟩, inR_b (by omega) (by omega), ⟨by omega, by omega⟩, inR_b (by omega) (by omega), nx _ (fr_pI (fr_pI f (by decide)) (by decide)) rfl rfl⟩
  · intro B f b
    refine w_X11_sortAll_2 ?_
    rw [tn k]
    rw [show ((k + 1 : Nat) : Int) = (k : Int) + 1 by omega] at ih
    refine ⟨fun z => by omega, fun _ => ⟨⟨by omega, by omega⟩, inR_b (by omega) (by omega), ih _ (fr_pI f (by decide)) (fun j hj => ?_)⟩⟩
    show uz (B.1 68) _ _ j = _
    by_cases y : j = k
    · rw [y, uz_at]
    · rw [uz_ne _ _ y]; exact b j (by omega)
