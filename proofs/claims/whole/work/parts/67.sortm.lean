/-! ===== the reference sorts ===== -/
def kx (n : Nat) (R : Nat → Nat) (p : Nat) : Int := if p < n then (R p : Int) + 1 else 0
theorem kx_eq (n : Nat) (R : Nat → Nat) (p q : Nat) : kx n R p = kx n R q ↔ rx n R p = rx n R q := by
  unfold kx rx
  by_cases a : p < n
  · by_cases b : q < n
    · rw [if_pos a, if_pos b, if_pos a, if_pos b]; omega
    · rw [if_pos a, if_neg b, if_pos a, if_neg b]; omega
  · by_cases b : q < n
    · rw [if_neg a, if_pos b, if_neg a, if_pos b]; omega
    · rw [if_neg a, if_neg b, if_neg a, if_neg b]; omega
theorem sM_keyAt {d n : Nat} {A : iz_A} {R : Nat → Nat} {p : Nat} {P : Int → iz_A → Prop} (h3 : n ≤ 3000) (h7 : A.1 55 7 = (n : Int)) (h64 : ∀ p, p < n → A.1 64 p = (R p : Int) ∧ R p < 3000) (hP : P (kx n R p) A) : Ci (d + 1) 162 [.inr (.inl 55), .inl (p : Int)] A P := by
  unfold kx at hP
  refine e_X11_keyAt ?_
  rw [h7]
  refine ⟨fun z => ⟨_, rfl, ?_⟩, fun z => ?_⟩
  · rw [if_neg (by omega)] at hP; exact hP
  · rw [if_pos (by omega)] at hP
    have := h64 p (by omega)
    rw [tn, this.1]
    exact ⟨⟨by omega, by omega⟩, inR_b (by omega) (by omega), _, rfl, hP⟩
theorem sM_sortBy {d n w : Nat} {A : iz_A} {t : Nat → Int} {S G : Nat → Nat} {P : iz_A → Prop} (ht : ∀ p, p < n → -1000 < t p) (h3 : n ≤ 3000) (hn : 1 ≤ n) (h7 : A.1 55 7 = (n : Int)) (hw : 1 ≤ w) (hw2 : w < n) (hS : Srt n t w S G) (h63 : ∀ i, i < n → A.1 63 i = (S i : Int)) (h64 : ∀ p, p < n → A.1 64 p = (rho n t w S (G p) : Int)) (hP : ∀ C, fr [63, 64, 66, 67, 68] A C → ∀ S' G' : Nat → Nat, Srt n t (w + w) S' G' → (∀ i, i < n → C.1 63 i = (S' i : Int)) → (∀ p, p < n → C.1 64 p = (rho n t (w + w) S' (G' p) : Int)) → P C) : Cv (d + 2) 163 [.inr (.inl 55), .inl (w : Int)] A P := by
  have ro := rho_ok hS
  have rb : ∀ p, p < n → rho n t w S (G p) < n := fun p hp => by
    have := rho_le n t w S (G p)
    have := (hS.1.2 p hp).1
    omega
  generalize hR : (fun p => rho n t w S (G p)) = R at *
  have rr : ∀ p, rho n t w S (G p) = R p := fun p => by rw [← hR]
  have h64' : ∀ p, p < n → A.1 64 p = (R p : Int) := fun p hp => by rw [h64 p hp, rr]
  have rb' : ∀ p, p < n → R p < n := fun p hp => by rw [← rr]; exact rb p hp
  -- the last steps: ranks
  have ranks : ∀ S' G' B, fr [63, 64, 66, 67, 68] A B → B.1 64 = A.1 64 → Srt n t (w + w) S' G' → (∀ i, i < n → B.1 63 i = (S' i : Int)) → ∀ v2 : Int, Rn (d + 1) mX11_sortBy (fun v A' => v = none ∧ P A') 245 [some (.inr (.inl 55)), some (.inl ((w : Int))), some (.inl v2), some (.inl 0), some (.inl 0), none] [] B := by
    intro S' G' B fB b64 hS' b63 v2
    have main := dwl (P := fun i => ∀ C, fr [63, 64, 66, 67, 68] A C → C.1 64 = A.1 64 → (∀ i, i < n → C.1 63 i = (S' i : Int)) → (∀ j, j < i → C.1 67 (S' j) = (rho n t (w + w) S' j : Int)) → Rn (d + 1) mX11_sortBy (fun v A' => v = none ∧ P A') 245 [some (.inr (.inl 55)), some (.inl ((w : Int))), some (.inl v2), some (.inl ((rho n t (w + w) S' (i - 1) : Int))), some (.inl ((i : Int))), none] [] C) (a := 0) (n := n) ?_ (fun i _ hi ih => ?_) (Nat.zero_le _) B fB b64 b63 (fun j hj => by omega)
    · exact main
    · intro C fC c64 c63 c67
      refine w_X11_sortBy_245 ?_
      rw [fC.1 55 (by decide), h7]
      refine ⟨fun _ => ?_, fun z => by omega⟩
      generalize (rho n t (w + w) S' (n - 1) : Int) = v3
      refine dwl (P := fun p => ∀ D, fr [63, 64, 66, 67, 68] A D → (∀ i, i < n → D.1 63 i = (S' i : Int)) → (∀ j, j < n → D.1 67 (S' j) = (rho n t (w + w) S' j : Int)) → (∀ q, q < p → D.1 64 q = (rho n t (w + w) S' (G' q) : Int)) → Rn (d + 1) mX11_sortBy (fun v A' => v = none ∧ P A') 366 [some (.inr (.inl 55)), some (.inl ((w : Int))), some (.inl v2), some (.inl v3), some (.inl ((p : Int))), none] [] D) (a := 0) (n := n) ?_ (fun p _ hp ih => ?_) (Nat.zero_le _) C fC c63 c67 (fun q hq => by omega)
      · intro D fD d63 d67 d64
        refine w_X11_sortBy_366 ?_
        rw [fD.1 55 (by decide), h7]
        exact ⟨fun _ => ⟨rfl, hP D fD S' G' hS' d63 d64⟩, fun z => by omega⟩
      · intro D fD d63 d67 d64
        refine w_X11_sortBy_366 ?_
        have g := hS'.1.2 p hp
        have dv := d67 _ g.1
        rw [g.2] at dv
        rw [fD.1 55 (by decide), h7, tn, dv]
        rw [show ((p + 1 : Nat) : Int) = (p : Int) + 1 by omega] at ih
        refine ⟨fun z => by omega, fun _ => ⟨⟨by omega, by omega⟩, ⟨by omega, by omega⟩, inR_b (by omega) (by omega), ih _ (fr_pI fD (by decide)) d63 d67 (fun q hq => ?_)⟩⟩
        show uz (D.1 64) p _ q = _
        by_cases y : q = p
        · rw [y, uz_at]
        · rw [uz_ne _ _ y]; exact d64 q (by omega)
    · intro C fC c64 c63 c67
      have si := (hS'.1.1 i hi).1
      have rl := rho_le n t (w + w) S' (i - 1)
      have put : ∀ (v : Nat) (v5 : Int), v = rho n t (w + w) S' i → Rn (d + 1) mX11_sortBy (fun v A' => v = none ∧ P A') 344 [some (.inr (.inl 55)), some (.inl ((w : Int))), some (.inl v2), some (.inl ((v : Int))), some (.inl ((i : Int))), some (.inl v5)] [] C := fun v v5 hv => by
        refine w_X11_sortBy_344 ?_
        rw [tn i, c63 i hi, tn]
        rw [show ((i + 1 : Nat) : Int) = (i : Int) + 1 by omega, show i + 1 - 1 = i by omega, ← hv] at ih
        refine ⟨⟨by omega, by omega⟩, ⟨by omega, by omega⟩, inR_b (by omega) (by omega), ih _ (fr_pI fC (by decide)) c64 c63 (fun j hj => ?_)⟩
        show uz (C.1 67) _ _ _ = _
        by_cases y : j = i
        · rw [y, uz_at, hv]
        · have e1 := (hS'.1.1 j (by omega)).2
          have e2 := (hS'.1.1 i hi).2
          rw [uz_ne _ _ (fun e => y (by rw [← e1, e, e2]))]
          exact c67 j (by omega)
      refine w_X11_sortBy_245 ?_
      rw [fC.1 55 (by decide), h7]
      refine ⟨fun z => by omega, fun _ => ⟨fun z => ?_, fun z => ?_⟩⟩
      · have i0 : i = 0 := (by omega)
        refine w_X11_sortBy_323 (w_X11_sortBy_326 ⟨fun _ => ⟨inR_b (by omega) (by omega), ?_⟩, fun z => by omega⟩)
        refine put _ _ ?_
        rw [i0]
        rfl
      · have sj := (hS'.1.1 (i - 1) (by omega)).1
        have rs := rho_s n t (w + w) S' (i - 1)
        rw [show i - 1 + 1 = i by omega] at rs
        have cc := ew_dbl ht hw ro sj si
        have differ : ¬ Ew n t (w + w) (S' (i - 1)) (S' i) → Rn (d + 1) mX11_sortBy (fun v A' => v = none ∧ P A') 323 [some (.inr (.inl 55)), some (.inl ((w : Int))), some (.inl v2), some (.inl ((rho n t (w + w) S' (i - 1) : Int))), some (.inl ((i : Int))), none] [] C := fun y => by
          refine w_X11_sortBy_323 (w_X11_sortBy_326 ⟨fun z => by omega, fun _ => ⟨fun z => absurd rfl z, fun _ => ⟨inR_b (by omega) (by omega), ?_⟩⟩⟩)
          exact put (rho n t (w + w) S' (i - 1) + 1) _ (by rw [rs, onc_1 y])
        have c64' : ∀ p, p < n → C.1 64 p = (R p : Int) ∧ R p < 3000 := fun p hp => ⟨by rw [c64]; exact h64' p hp, by have := rb' p hp; omega⟩
        rw [tn i, show ((i : Int) - 1).toNat = i - 1 by omega, c63 i hi, c63 (i - 1) (by omega), tn (S' i), tn (S' (i - 1)), (c64' _ si).1, (c64' _ sj).1]
        refine ⟨⟨by omega, by omega⟩, ⟨by omega, by omega⟩, inR_b (by omega) (by omega), ⟨by omega, by omega⟩, ⟨by omega, by omega⟩, fun y => differ (fun e => y (by rw [(cc.1 e).1])), fun y => ⟨⟨by omega, by omega⟩, inR_b (by omega) (by omega), ?_⟩⟩
        rw [show (S' i : Int) + (w : Int) = ((S' i + w : Nat) : Int) by omega]
        refine sM_keyAt h3 (by rw [fC.1 55 (by decide)]; exact h7) c64' ⟨inR_b (by omega) (by omega), ⟨by omega, by omega⟩, ?_⟩
        rw [c63 (i - 1) (by omega), show (S' (i - 1) : Int) + (w : Int) = ((S' (i - 1) + w : Nat) : Int) by omega]
        refine ⟨inR_b (by omega) (by omega), sM_keyAt h3 (by rw [fC.1 55 (by decide)]; exact h7) c64' ⟨fun y2 => differ (fun e => y2 ?_), fun y2 => ?_⟩⟩
        · rw [kx_eq]; exact (cc.1 e).2.symm
        · refine w_X11_sortBy_326 ⟨fun z => by omega, fun _ => ⟨fun _ => ⟨inR_b (by omega) (by omega), ?_⟩, fun z => absurd z n10⟩⟩
          refine put _ _ ?_
          rw [rs, onc_0 (fun e => e (cc.2 ⟨(by omega), ((kx_eq n R _ _).1 y2).symm⟩))]
  -- placing
  have places : ∀ H HG B, fr [63, 64, 66, 67, 68] A B → B.1 64 = A.1 64 → Pn n H HG → (∀ i j, i < j → j < n → ¬ Lw n t w (H j + w) (H i + w)) → (∀ i, i < n → B.1 66 i = (H i : Int)) → ∀ v2 : Int, Rn (d + 1) mX11_sortBy (fun v A' => v = none ∧ P A') 91 [some (.inr (.inl 55)), some (.inl ((w : Int))), some (.inl v2), some (.inl 0), none, none] [] B := by
    intro H HG B fB b64 hH hHo b66 v2
    refine dwl (P := fun k => ∀ C, fr [63, 64, 66, 67, 68] A C → C.1 64 = A.1 64 → (∀ i, i < n → C.1 66 i = (H i : Int)) → (∀ j, j < k → C.1 68 j = 0) → Rn (d + 1) mX11_sortBy (fun v A' => v = none ∧ P A') 91 [some (.inr (.inl 55)), some (.inl ((w : Int))), some (.inl v2), some (.inl ((k : Int))), none, none] [] C) (a := 0) (n := n + 2) ?_ (fun k _ hk ih => ?_) (Nat.zero_le _) B fB b64 b66 (fun j hj => by omega)
    · intro C fC c64 c66 c68
      refine w_X11_sortBy_91 ?_
      rw [fC.1 55 (by decide), h7]
      refine ⟨inR_b (by omega) (by omega), fun _ => ?_, fun z => by omega⟩
      refine dwl (P := fun p => ∀ C, fr [63, 64, 66, 67, 68] A C → C.1 64 = A.1 64 → (∀ i, i < n → C.1 66 i = (H i : Int)) → (∀ k, k < n + 2 → C.1 68 k = (ct (fun q => R q + 1 = k) p : Int)) → Rn (d + 1) mX11_sortBy (fun v A' => v = none ∧ P A') 116 [some (.inr (.inl 55)), some (.inl ((w : Int))), some (.inl v2), some (.inl ((p : Int))), none, none] [] C) (a := 0) (n := n) ?_ (fun p _ hp ih => ?_) (Nat.zero_le _) C fC c64 c66 (fun k hk => c68 k hk)
      · intro C fC c64 c66 c68
        refine w_X11_sortBy_116 ?_
        rw [fC.1 55 (by decide), h7]
        refine ⟨fun _ => ?_, fun z => by omega⟩
        refine dwl (P := fun r => ∀ C, fr [63, 64, 66, 67, 68] A C → C.1 64 = A.1 64 → (∀ i, i < n → C.1 66 i = (H i : Int)) → (∀ k, k < r → k < n + 2 → C.1 68 k = (cl R n k : Int)) → (∀ k, r ≤ k → k < n + 2 → C.1 68 k = (ct (fun q => R q + 1 = k) n : Int)) → Rn (d + 1) mX11_sortBy (fun v A' => v = none ∧ P A') 149 [some (.inr (.inl 55)), some (.inl ((w : Int))), some (.inl v2), some (.inl ((r : Int))), none, none] [] C) (a := 1) (n := n + 2) ?_ (fun r ra hr ih => ?_) (by omega) C fC c64 c66 (fun k hk _ => ?_) (fun k _ hk => c68 k hk)
        · intro C fC c64 c66 c1 _
          refine w_X11_sortBy_149 ?_
          rw [fC.1 55 (by decide), h7]
          refine ⟨inR_b (by omega) (by omega), fun _ => ?_, fun z => by omega⟩
          refine dwl (P := fun i => ∀ C, fr [63, 64, 66, 67, 68] A C → C.1 64 = A.1 64 → (∀ i, i < n → C.1 66 i = (H i : Int)) → (∀ k, k < n + 2 → C.1 68 k = ((cl R n k + ct (fun j => R (H j) = k) i : Nat) : Int)) → (∀ j, j < i → C.1 63 (pos R H n j) = (H j : Int)) → Rn (d + 1) mX11_sortBy (fun v A' => v = none ∧ P A') 184 [some (.inr (.inl 55)), some (.inl ((w : Int))), some (.inl v2), some (.inl ((i : Int))), none, none] [] C) (a := 0) (n := n) ?_ (fun i _ hi ih => ?_) (Nat.zero_le _) C fC c64 c66 (fun k hk => c1 k hk hk) (fun j hj => by omega)
          · intro C fC c64 c66 c1 c2
            obtain ⟨J, hJ⟩ := pigeon (f := pos R H n) (fun j hj => pos_n hH R hj) (fun i j hi hj => pos_ne hH R (by omega) hj (by omega))
            refine w_X11_sortBy_184 ?_
            rw [fC.1 55 (by decide), h7]
            refine ⟨fun _ => ?_, fun z => by omega⟩
            obtain ⟨G', hS'⟩ := srt_of (S := fun i => (C.1 63 i).toNat) hH ro hHo (fun j hj => by
              show (C.1 63 _).toNat = _
              rw [c2 j hj]; omega)
            refine ranks _ G' C fC c64 hS' (fun i hi => ?_) v2
            have a := hJ.2 i hi
            have b := c2 _ a.1
            rw [a.2] at b
            show C.1 63 i = ((C.1 63 i).toNat : Int)
            rw [b]; omega
          · intro C fC c64 c66 c1 c2
            have hh := (hH.1 i hi).1
            have hk := rb' _ hh
            have pn := pos_n hH R hi
            have pe : cl R n (R (H i)) + ct (fun j => R (H j) = R (H i)) i = pos R H n i := rfl
            refine w_X11_sortBy_184 ?_
            rw [fC.1 55 (by decide), h7, tn i, c66 i hi, tn (H i), c64, h64' _ hh, tn (R (H i)), c1 _ (by omega), pe, tn]
            rw [show ((i + 1 : Nat) : Int) = (i : Int) + 1 by omega] at ih
            refine ⟨fun z => by omega, fun _ => ⟨⟨by omega, by omega⟩, ⟨by omega, by omega⟩, ⟨by omega, by omega⟩, ⟨by omega, by omega⟩, ⟨by omega, by omega⟩, ⟨by omega, by omega⟩, inR_b (by omega) (by omega), ⟨by omega, by omega⟩, inR_b (by omega) (by omega), ih _ (fr_pI (fr_pI fC (by decide)) (by decide)) c64 c66 (fun k hk' => ?_) (fun j hj => ?_)⟩⟩
            · show uz (C.1 68) _ _ k = _
              rw [ct_s]
              by_cases y : k = R (H i)
              · rw [y, uz_at, if_pos rfl]; omega
              · rw [uz_ne _ _ y, c1 k hk', if_neg (fun e => y e.symm), Nat.add_zero]
            · show uz (C.1 63) _ _ _ = _
              by_cases y : j = i
              · rw [y, uz_at]
              · rw [uz_ne _ _ (pos_ne hH R (by omega) hi y)]; exact c2 j (by omega)
        · intro C fC c64 c66 b1 b2
          have cs := cl_s R n (r - 1)
          rw [show r - 1 + 1 = r by omega] at cs
          have cn := cl_le R n r
          refine w_X11_sortBy_149 ?_
          rw [fC.1 55 (by decide), h7, tn r, show ((r : Int) - 1).toNat = r - 1 by omega, b1 (r - 1) (by omega) (by omega), b2 r (Nat.le_refl _) (by omega)]
          rw [show ((r + 1 : Nat) : Int) = (r : Int) + 1 by omega] at ih
          refine ⟨inR_b (by omega) (by omega), fun z => by omega, fun _ => ⟨⟨by omega, by omega⟩, inR_b (by omega) (by omega), ⟨by omega, by omega⟩, inR_b (by omega) (by omega), ⟨by omega, by omega⟩, inR_b (by omega) (by omega), ih _ (fr_pI fC (by decide)) c64 c66 (fun k hk1 hk2 => ?_) (fun k hk1 hk2 => ?_)⟩⟩
          · show uz (C.1 68) _ _ k = _
            by_cases y : k = r
            · rw [y, uz_at]; omega
            · rw [uz_ne _ _ y]; exact b1 k (by omega) hk2
          · show uz (C.1 68) _ _ k = _
            rw [uz_ne _ _ (by omega)]; exact b2 k (by omega) hk2
        · obtain rfl : k = 0 := (by omega)
          rw [c68 0 (by omega), cl_0, ct_0 (fun i _ z => by omega)]
      · intro C fC c64 c66 c68
        have hk := rb' p hp
        have cb := ct_le (fun q => R q + 1 = R p + 1) p
        refine w_X11_sortBy_116 ?_
        rw [fC.1 55 (by decide), h7, tn p, c64, h64' p hp, show ((R p : Int) + 1).toNat = R p + 1 by omega, c68 _ (by omega)]
        rw [show ((p + 1 : Nat) : Int) = (p : Int) + 1 by omega] at ih
        refine ⟨fun z => by omega, fun _ => ⟨⟨by omega, by omega⟩, inR_b (by omega) (by omega), ⟨by omega, by omega⟩, inR_b (by omega) (by omega), ⟨by omega, by omega⟩, inR_b (by omega) (by omega), ih _ (fr_pI fC (by decide)) c64 c66 (fun k hk' => ?_)⟩⟩
        show uz (C.1 68) _ _ k = _
        rw [ct_s]
        by_cases y : k = R p + 1
        · rw [y, uz_at, if_pos rfl]; omega
        · rw [uz_ne _ _ y, c68 k hk', if_neg (fun e => y e.symm), Nat.add_zero]
    · intro C fC c64 c66 c68
      refine w_X11_sortBy_91 ?_
      rw [fC.1 55 (by decide), h7, tn k]
      rw [show ((k + 1 : Nat) : Int) = (k : Int) + 1 by omega] at ih
      refine ⟨inR_b (by omega) (by omega), fun z => by omega, fun _ => ⟨⟨by omega, by omega⟩, inR_b (by omega) (by omega), ih _ (fr_pI fC (by decide)) c64 c66 (fun j hj => ?_)⟩⟩
      show uz (C.1 68) _ _ j = _
      by_cases y : j = k
      · rw [y, uz_at]
      · rw [uz_ne _ _ y]; exact c68 j (by omega)
  refine e_X11_sortBy ?_
  rw [h7]
  refine ⟨inR_b (by omega) (by omega), fun _ => ⟨inR_b (by omega) (by omega), ?_⟩, fun z => by omega⟩
  rw [show (n : Int) - (w : Int) = ((n - w : Nat) : Int) by omega]
  have one := dwl (P := fun p => ∀ B, fr [63, 64, 66, 67, 68] A B → B.1 64 = A.1 64 → B.1 63 = A.1 63 → (∀ j, j < p - (n - w) → B.1 66 j = ((n - w + j : Nat) : Int)) → Rn (d + 1) mX11_sortBy (fun v A' => v = none ∧ P A') 22 [some (.inr (.inl 55)), some (.inl ((w : Int))), some (.inl (((p - (n - w) : Nat) : Int))), some (.inl ((p : Int))), none, none] [] B) (a := n - w) (n := n) ?_ (fun p pa hp ih => ?_) (by omega) A (fr_mo (fr_rf A) (by decide)) rfl rfl (fun j hj => by omega)
  · rw [Nat.sub_self] at one
    exact one
  · intro B f b64 b63 b
    refine w_X11_sortBy_22 ?_
    rw [f.1 55 (by decide), h7]
    refine ⟨fun _ => ?_, fun z => by omega⟩
    rw [show n - (n - w) = w by omega] at b ⊢
    have two := dwl (P := fun i => ∀ B, fr [63, 64, 66, 67, 68] A B → B.1 64 = A.1 64 → B.1 63 = A.1 63 → (∀ j, j < w + ct (fun i => w ≤ S i) i → 0 ≤ B.1 66 j) → (∀ j, j < w → B.1 66 j = ((n - w + j : Nat) : Int)) → (∀ k, k < i → w ≤ S k → B.1 66 (w + ct (fun i => w ≤ S i) k) = ((S k - w : Nat) : Int)) → Rn (d + 1) mX11_sortBy (fun v A' => v = none ∧ P A') 48 [some (.inr (.inl 55)), some (.inl ((w : Int))), some (.inl (((w + ct (fun i => w ≤ S i) i : Nat) : Int))), some (.inl ((i : Int))), none, none] [] B) (a := 0) (n := n) ?_ (fun i _ hi ih => ?_) (Nat.zero_le _) B f b64 b63 (fun j hj => by
      have : ct (fun i => w ≤ S i) 0 = 0 := rfl
      rw [b j (by omega)]; omega) b (fun k hk => by omega)
    · exact two
    · intro C fC c64 c63 c0 c1 c2
      rw [ct_Sn hS.1 (Nat.le_of_lt hw2)] at c0
      refine w_X11_sortBy_48 ?_
      rw [fC.1 55 (by decide), h7]
      refine ⟨fun _ => ?_, fun z => by omega⟩
      obtain ⟨HG, hH, hHo⟩ := half_ok (H := fun i => (C.1 66 i).toNat) ht hS hw2 (fun j hj => by
        show (C.1 66 j).toNat = _
        rw [c1 j hj]; omega) (fun i hi hs => by
        show (C.1 66 _).toNat = _
        rw [c2 i hi hs]; omega)
      exact places _ HG C fC c64 hH hHo (fun i hi => by
        have := c0 i (by omega)
        show C.1 66 i = ((C.1 66 i).toNat : Int)
        omega) _
    · intro C fC c64 c63 c0 c1 c2
      rw [show ((i + 1 : Nat) : Int) = (i : Int) + 1 by omega, ct_s] at ih
      refine w_X11_sortBy_48 ?_
      rw [fC.1 55 (by decide), h7, tn i, c63, h63 i hi]
      have hs := (hS.1.1 i hi).1
      refine ⟨fun z => by omega, fun _ => ⟨⟨by omega, by omega⟩, fun z => w_X11_sortBy_83 ⟨inR_b (by omega) (by omega), ?_⟩, fun z => ?_⟩⟩
      · rw [if_neg (by omega), Nat.add_zero] at ih
        refine ih C fC c64 c63 c0 c1 (fun k hk ks => ?_)
        by_cases y : k = i
        · rw [y] at ks; omega
        · exact c2 k (by omega) ks
      · have ub := ct_S hS.1 (Nat.le_of_lt hw2) hi (by omega)
        rw [if_pos (by omega)] at ih
        rw [tn, show (S i : Int) - (w : Int) = ((S i - w : Nat) : Int) by omega, show ((w + ct (fun i => w ≤ S i) i : Nat) : Int) + 1 = ((w + (ct (fun i => w ≤ S i) i + 1) : Nat) : Int) by omega]
        refine ⟨⟨by omega, by omega⟩, inR_b (by omega) (by omega), ⟨by omega, by omega⟩, inR_b (by omega) (by omega), w_X11_sortBy_83 ⟨inR_b (by omega) (by omega), ih _ (fr_pI fC (by decide)) c64 c63 (fun j hj => ?_) (fun j hj => ?_) (fun k hk ks => ?_)⟩⟩
        · show 0 ≤ uz (C.1 66) _ _ j
          by_cases y : j = w + ct (fun i => w ≤ S i) i
          · rw [y, uz_at]; omega
          · rw [uz_ne _ _ y]; exact c0 j (by omega)
        · show uz (C.1 66) _ _ j = _
          rw [uz_ne _ _ (by omega)]; exact c1 j hj
        · show uz (C.1 66) _ _ _ = _
          by_cases y : k = i
          · rw [y, uz_at]
          · have : ct (fun i => w ≤ S i) (k + 1) ≤ ct (fun i => w ≤ S i) i := ct_mono _ (by omega)
            rw [ct_s, if_pos ks] at this
            rw [uz_ne _ _ (by omega)]; exact c2 k (by omega) ks
  · intro B f b64 b63 b
    rw [show ((p + 1 : Nat) : Int) = (p : Int) + 1 by omega, show ((p + 1 - (n - w) : Nat) : Int) = ((p - (n - w) : Nat) : Int) + 1 by omega] at ih
    refine w_X11_sortBy_22 ?_
    rw [f.1 55 (by decide), h7]
    refine ⟨fun z => by omega, fun _ => ⟨⟨by omega, by omega⟩, inR_b (by omega) (by omega), inR_b (by omega) (by omega), ih _ (fr_pI f (by decide)) b64 b63 (fun j hj => ?_)⟩⟩
    show uz (B.1 66) ((p - (n - w) : Nat) : Int).toNat _ j = _
    rw [tn]
    by_cases y : j = p - (n - w)
    · rw [y, uz_at]; omega
    · rw [uz_ne _ _ y]; exact b j (by omega)
