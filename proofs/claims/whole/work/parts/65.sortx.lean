/-! ===== the class sorts ===== -/
theorem ct_Sn {n : Nat} {S G : Nat → Nat} (h : Pn n S G) {w : Nat} (hw : w ≤ n) : ct (fun i => w ≤ S i) n = n - w := by
  have := sm_perm h.1 h.2 (fun p => if w ≤ p then 1 else 0)
  unfold ct
  rw [this]
  exact ct_range (P := fun p => w ≤ p) (n := n) (a := w) (b := n) hw (Nat.le_refl _) (fun i hi => ⟨fun z => ⟨z, hi⟩, fun z => z.1⟩)
theorem sX_halves {d n w : Nat} {A : iz_A} {S G : Nat → Nat} {P : iz_A → Prop} (h3 : n ≤ 3000) (hS : Pn n S G) (h9 : ∀ i, i < n → A.1 9 i = (S i : Int)) (hw : w < n) (hP : ∀ C, fr [14] A C → ∀ H : Nat → Nat, (∀ i, i < n → C.1 14 i = (H i : Int)) → (∀ j, j < w → H j = n - w + j) → (∀ i, i < n → w ≤ S i → H (w + ct (fun i => w ≤ S i) i) = S i - w) → P C) : Cv (d + 1) 95 [.inr (.inl 13), .inl (n : Int), .inl (w : Int), .inr (.inl 9)] A P := by
  refine e_X8_sortByHalves ⟨inR_b (by omega) (by omega), ?_⟩
  rw [show (n : Int) - (w : Int) = ((n - w : Nat) : Int) by omega]
  have one := dwl (P := fun p => ∀ B, fr [14] A B → (∀ j, j < p - (n - w) → B.1 14 j = ((n - w + j : Nat) : Int)) → Rn d mX8_sortByHalves (fun v A' => v = none ∧ P A') 8 [some (.inr (.inl 13)), some (.inl ((n : Int))), some (.inl ((w : Int))), some (.inr (.inl 9)), some (.inl (((p - (n - w) : Nat) : Int))), some (.inl ((p : Int)))] [] B) (a := n - w) (n := n) ?_ (fun p pa hp ih => ?_) (by omega) A (fr_mo (fr_rf A) (by decide)) (fun j hj => by omega)
  · rw [Nat.sub_self] at one
    exact one
  · intro B f b
    refine w_X8_sortByHalves_8 ⟨fun _ => ?_, fun z => by omega⟩
    rw [show n - (n - w) = w by omega] at b ⊢
    have two := dwl (P := fun i => ∀ B, fr [14] A B → (∀ j, j < w + ct (fun i => w ≤ S i) i → 0 ≤ B.1 14 j) → (∀ j, j < w → B.1 14 j = ((n - w + j : Nat) : Int)) → (∀ k, k < i → w ≤ S k → B.1 14 (w + ct (fun i => w ≤ S i) k) = ((S k - w : Nat) : Int)) → Rn d mX8_sortByHalves (fun v A' => v = none ∧ P A') 35 [some (.inr (.inl 13)), some (.inl ((n : Int))), some (.inl ((w : Int))), some (.inr (.inl 9)), some (.inl (((w + ct (fun i => w ≤ S i) i : Nat) : Int))), some (.inl ((i : Int)))] [] B) (a := 0) (n := n) ?_ (fun i _ hi ih => ?_) (Nat.zero_le _) B f (fun j hj => by
      have : ct (fun i => w ≤ S i) 0 = 0 := rfl
      rw [b j (by omega)]; omega) b (fun k hk => by omega)
    · exact two
    · intro C fC c0 c1 c2
      rw [ct_Sn hS (Nat.le_of_lt hw)] at c0
      refine w_X8_sortByHalves_35 ⟨fun _ => ⟨rfl, hP C fC (fun i => (C.1 14 i).toNat) (fun i hi => ?_) (fun j hj => ?_) (fun i hi hs => ?_)⟩, fun z => by omega⟩
      · have := c0 i (by omega)
        omega
      · show (C.1 14 j).toNat = _
        rw [c1 j hj]; omega
      · show (C.1 14 _).toNat = _
        rw [c2 i hi hs]; omega
    · intro C fC c0 c1 c2
      rw [show ((i + 1 : Nat) : Int) = (i : Int) + 1 by omega, ct_s] at ih
      refine w_X8_sortByHalves_35 ?_
      rw [tn i, fC.1 9 (by decide), h9 i hi]
      have hs := (hS.1 i hi).1
      refine ⟨fun z => by omega, fun _ => ⟨⟨by omega, by omega⟩, fun z => ⟨inR_b (by omega) (by omega), ?_⟩, fun z => ?_⟩⟩
      · rw [if_neg (by omega), Nat.add_zero] at ih
        refine ih C fC c0 c1 (fun k hk ks => ?_)
        by_cases y : k = i
        · rw [y] at ks; omega
        · exact c2 k (by omega) ks
      · have ub := ct_S hS (Nat.le_of_lt hw) hi (by omega)
        rw [if_pos (by omega)] at ih
        rw [tn, show (S i : Int) - (w : Int) = ((S i - w : Nat) : Int) by omega, show ((w + ct (fun i => w ≤ S i) i : Nat) : Int) + 1 = ((w + (ct (fun i => w ≤ S i) i + 1) : Nat) : Int) by omega]
        refine ⟨⟨by omega, by omega⟩, inR_b (by omega) (by omega), ⟨by omega, by omega⟩, inR_b (by omega) (by omega), inR_b (by omega) (by omega), ih _ (fr_pI fC (by decide)) (fun j hj => ?_) (fun j hj => ?_) (fun k hk ks => ?_)⟩
        · show 0 ≤ uz (C.1 14) _ _ j
          by_cases y : j = w + ct (fun i => w ≤ S i) i
          · rw [y, uz_at]; omega
          · rw [uz_ne _ _ y]; exact c0 j (by omega)
        · show uz (C.1 14) _ _ j = _
          rw [uz_ne _ _ (by omega)]; exact c1 j hj
        · show uz (C.1 14) _ _ _ = _
          by_cases y : k = i
          · rw [y, uz_at]
          · have : ct (fun i => w ≤ S i) (k + 1) ≤ ct (fun i => w ≤ S i) i := ct_mono _ (by omega)
            rw [ct_s, if_pos ks] at this
            rw [uz_ne _ _ (by omega)]; exact c2 k (by omega) ks
  · intro B f b
    rw [show ((p + 1 : Nat) : Int) = (p : Int) + 1 by omega, show ((p + 1 - (n - w) : Nat) : Int) = ((p - (n - w) : Nat) : Int) + 1 by omega] at ih
    refine w_X8_sortByHalves_8 ⟨fun z => by omega, fun _ => ⟨⟨by omega, by omega⟩, inR_b (by omega) (by omega), inR_b (by omega) (by omega), ih _ (fr_pI f (by decide)) (fun j hj => ?_)⟩⟩
    show uz (B.1 14) ((p - (n - w) : Nat) : Int).toNat _ j = _
    rw [tn]
    by_cases y : j = p - (n - w)
    · rw [y, uz_at]; omega
    · rw [uz_ne _ _ y]; exact b j (by omega)
theorem sX_byRank {d n K : Nat} {A : iz_A} {R H HG : Nat → Nat} {P : iz_A → Prop} (h3 : n ≤ 3000) (hK : K ≤ 3000) (hH : Pn n H HG) (h10 : ∀ p, p < n → A.1 10 p = (R p : Int) ∧ R p < K) (h14 : ∀ i, i < n → A.1 14 i = (H i : Int)) (hP : ∀ C, fr [9, 16] A C → ∀ S : Nat → Nat, (∀ i, i < n → C.1 9 i = (S i : Int)) → (∀ j, j < n → S (pos R H n j) = H j) → P C) : Cv (d + 3) 96 [.inr (.inl 13), .inl (n : Int), .inl (K : Int), .inr (.inl 9), .inr (.inl 10)] A P := by
  refine e_X8_sortByRank ⟨inR_b (by omega) (by omega), ?_⟩
  rw [show (K : Int) + 1 = ((K + 1 : Nat) : Int) by omega]
  refine s_fill16 (a := 0) (b := K + 1) (Nat.zero_le _) (by omega) fun A1 f1 c1 _ => ?_
  -- how many of each rank
  refine dwl (P := fun p => ∀ B, fr [9, 16] A B → (∀ k, k ≤ K → B.1 16 k = (ct (fun q => R q + 1 = k) p : Int)) → Rn (d + 2) mX8_sortByRank (fun v A' => v = none ∧ P A') 15 [some (.inr (.inl 13)), some (.inl ((n : Int))), some (.inl ((K : Int))), some (.inr (.inl 9)), some (.inr (.inl 10)), some (.inl ((p : Int))), none] [] B) (a := 0) (n := n) ?_ (fun p _ hp ih => ?_) (Nat.zero_le _) A1 (fr_mo f1 (by decide)) (fun k hk => c1 k (Nat.zero_le _) (by omega))
  · intro B f b
    refine w_X8_sortByRank_15 ⟨fun _ => ?_, fun z => by omega⟩
    -- sums
    refine dwl (P := fun r => ∀ B, fr [9, 16] A B → (∀ k, k < r → k ≤ K → B.1 16 k = (cl R n k : Int)) → (∀ k, r ≤ k → k ≤ K → B.1 16 k = (ct (fun q => R q + 1 = k) n : Int)) → Rn (d + 2) mX8_sortByRank (fun v A' => v = none ∧ P A') 46 [some (.inr (.inl 13)), some (.inl ((n : Int))), some (.inl ((K : Int))), some (.inr (.inl 9)), some (.inr (.inl 10)), some (.inl ((r : Int))), none] [] B) (a := 1) (n := K + 1) ?_ (fun r ra hr ih => ?_) (by omega) B f (fun k hk _ => ?_) (fun k _ hk => b k hk)
    · intro B f b1 b2
      refine w_X8_sortByRank_46 ⟨fun _ => ?_, fun z => by omega⟩
      -- places
      refine dwl (P := fun i => ∀ B, fr [9, 16] A B → (∀ k, k ≤ K → B.1 16 k = ((cl R n k + ct (fun j => R (H j) = k) i : Nat) : Int)) → (∀ j, j < i → B.1 9 (pos R H n j) = (H j : Int)) → Rn (d + 2) mX8_sortByRank (fun v A' => v = none ∧ P A') 80 [some (.inr (.inl 13)), some (.inl ((n : Int))), some (.inl ((K : Int))), some (.inr (.inl 9)), some (.inr (.inl 10)), some (.inl ((i : Int))), none] [] B) (a := 0) (n := n) ?_ (fun i _ hi ih => ?_) (Nat.zero_le _) B f (fun k hk => b1 k (by omega) hk) (fun j hj => by omega)
      · intro C fC c1 c2
        obtain ⟨J, hJ⟩ := pigeon (f := pos R H n) (fun j hj => pos_n hH R hj) (fun i j hi hj => pos_ne hH R (by omega) hj (by omega))
        refine w_X8_sortByRank_80 ⟨fun _ => ⟨rfl, hP C fC (fun i => (C.1 9 i).toNat) (fun i hi => ?_) (fun j hj => ?_)⟩, fun z => by omega⟩
        · have a := hJ.2 i hi
          have b := c2 _ a.1
          rw [a.2] at b
          show C.1 9 i = ((C.1 9 i).toNat : Int)
          rw [b]; omega
        · show (C.1 9 _).toNat = _
          rw [c2 j hj]; omega
      · intro C fC c1 c2
        have hh := (hH.1 i hi).1
        have hk := h10 _ hh
        have pn := pos_n hH R hi
        have pe : cl R n (R (H i)) + ct (fun j => R (H j) = R (H i)) i = pos R H n i := rfl
        refine w_X8_sortByRank_80 ?_
        rw [tn, fC.1 14 (by decide), h14 i hi, tn, fC.1 10 (by decide), hk.1, tn, c1 _ (by omega), pe, tn]
        rw [show ((i + 1 : Nat) : Int) = (i : Int) + 1 by omega] at ih
        refine ⟨fun z => by omega, fun _ => ⟨⟨by omega, by omega⟩, ⟨by omega, by omega⟩, ⟨by omega, by omega⟩, ⟨by omega, by omega⟩, ⟨by omega, by omega⟩, ⟨by omega, by omega⟩, inR_b (by omega) (by omega), ⟨by omega, by omega⟩, inR_b (by omega) (by omega), ih _ (fr_pI (fr_pI fC (by decide)) (by decide)) (fun k hk' => ?_) (fun j hj => ?_)⟩⟩
        · show uz (C.1 16) _ _ k = _
          rw [ct_s]
          by_cases y : k = R (H i)
          · rw [y, uz_at, if_pos rfl]; omega
          · rw [uz_ne _ _ y, c1 k hk', if_neg (fun e => y e.symm), Nat.add_zero]
        · show uz (C.1 9) _ _ _ = _
          by_cases y : j = i
          · rw [y, uz_at]
          · rw [uz_ne _ _ (pos_ne hH R (by omega) hi y)]; exact c2 j (by omega)
    · intro B f b1 b2
      refine w_X8_sortByRank_46 ?_
      have cs := cl_s R n (r - 1)
      rw [show r - 1 + 1 = r by omega] at cs
      have cn := cl_le R n r
      rw [tn, show ((r : Int) - 1).toNat = r - 1 by omega, b1 (r - 1) (by omega) (by omega), b2 r (Nat.le_refl _) (by omega)]
      rw [show ((r + 1 : Nat) : Int) = (r : Int) + 1 by omega] at ih
      refine ⟨fun z => by omega, fun _ => ⟨⟨by omega, by omega⟩, inR_b (by omega) (by omega), ⟨by omega, by omega⟩, inR_b (by omega) (by omega), ⟨by omega, by omega⟩, inR_b (by omega) (by omega), ih _ (fr_pI f (by decide)) (fun k hk1 hk2 => ?_) (fun k hk1 hk2 => ?_)⟩⟩
      · show uz (B.1 16) _ _ k = _
        by_cases y : k = r
        · rw [y, uz_at]; omega
        · rw [uz_ne _ _ y]; exact b1 k (by omega) hk2
      · show uz (B.1 16) _ _ k = _
        rw [uz_ne _ _ (by omega)]; exact b2 k (by omega) hk2
    · obtain rfl : k = 0 := (by omega)
      rw [b 0 (Nat.zero_le _), cl_0, ct_0 (fun i _ z => by omega)]
  · intro B f b
    have hk := h10 p hp
    have cb := ct_le (fun q => R q + 1 = R p + 1) p
    refine w_X8_sortByRank_15 ?_
    rw [tn, f.1 10 (by decide), hk.1, show ((R p : Int) + 1).toNat = R p + 1 by omega, b _ (by omega)]
    rw [show ((p + 1 : Nat) : Int) = (p : Int) + 1 by omega] at ih
    refine ⟨fun z => by omega, fun _ => ⟨⟨by omega, by omega⟩, inR_b (by omega) (by omega), ⟨by omega, by omega⟩, inR_b (by omega) (by omega), ⟨by omega, by omega⟩, inR_b (by omega) (by omega), ih _ (fr_pI f (by decide)) (fun k hk' => ?_)⟩⟩
    show uz (B.1 16) _ _ k = _
    rw [ct_s]
    by_cases y : k = R p + 1
    · rw [y, uz_at, if_pos rfl]; omega
    · rw [uz_ne _ _ y, b k hk', if_neg (fun e => y e.symm), Nat.add_zero]
theorem sX_rankAt {d n : Nat} {A : iz_A} {R : Nat → Nat} {p : Nat} {P : Int → iz_A → Prop} (h3 : n ≤ 3000) (h10 : ∀ p, p < n → A.1 10 p = (R p : Int)) (hP : P (rx n R p) A) : Ci (d + 1) 98 [.inl (p : Int), .inl (n : Int), .inr (.inl 10)] A P := by
  unfold rx at hP
  refine e_X8_rankAt ⟨fun z => ⟨_, rfl, ?_⟩, fun z => ⟨⟨by omega, by omega⟩, _, rfl, ?_⟩⟩
  · rw [if_neg (by omega)] at hP; exact hP
  · rw [if_pos (by omega)] at hP
    rw [tn, h10 p (by omega)]
    exact hP
theorem sX_rankAnew {d n w W : Nat} {A : iz_A} {t : Nat → Int} {R S G : Nat → Nat} {P : Int → iz_A → Prop} (h3 : n ≤ 3000) (hn : 1 ≤ n) (hw : w ≤ 3000) (hS : Srt n t W S G) (h9 : ∀ i, i < n → A.1 9 i = (S i : Int)) (h10 : ∀ p, p < n → A.1 10 p = (R p : Int)) (hc : ∀ p q, p < n → q < n → (Ew n t W p q ↔ R p = R q ∧ rx n R (p + w) = rx n R (q + w))) (hP : ∀ C, fr [10, 15] A C → (∀ p, p < n → C.1 10 p = (rho n t W S (G p) : Int)) → P ((rho n t W S (n - 1) + 1 : Nat) : Int) C) : Ci (d + 2) 97 [.inr (.inl 13), .inl (n : Int), .inl (w : Int), .inr (.inl 9), .inr (.inl 10)] A P := by
  have s0 := (hS.1.1 0 hn).1
  refine e_X8_rankAnew ?_
  rw [show (0 : Int).toNat = 0 from rfl, h9 0 hn, tn]
  refine ⟨⟨by decide, by decide⟩, ⟨by omega, by omega⟩, ?_⟩
  have main := dwl (P := fun i => ∀ B, fr [15] A B → (∀ j, j < i → B.1 15 (S j) = (rho n t W S j : Int)) → Rn (d + 1) mX8_rankAnew (fun v A' => ∃ y, v = some (.inl y) ∧ P y A') 15 [some (.inr (.inl 13)), some (.inl ((n : Int))), some (.inl ((w : Int))), some (.inr (.inl 9)), some (.inr (.inl 10)), some (.inl ((rho n t W S (i - 1) : Int))), some (.inl ((i : Int))), none, none] [] B) (a := 1) (n := n) ?_ (fun i ia hi ih => ?_) hn (iz_pI A 15 (uz (A.1 15) (S 0) 0)) (fr_pI (fr_mo (fr_rf A) (by decide)) (by decide)) (fun j hj => by
    obtain rfl : j = 0 := (by omega)
    exact uz_at _ _ _)
  · exact main
  · intro B f b
    have rl := rho_le n t W S (n - 1)
    refine w_X8_rankAnew_15 ⟨fun _ => ⟨⟨by decide, by decide, (by omega), (by omega), (by omega)⟩, inR_b (by omega) (by omega), _, rfl, ?_⟩, fun z => by omega⟩
    refine hP _ (fr_pI (fr_mo f (by decide)) (by decide)) (fun p hp => ?_)
    have g := hS.1.2 p hp
    have := b (G p) g.1
    rw [g.2] at this
    show va_cpy (B.1 15) (B.1 10) _ _ _ p = _
    unfold va_cpy
    rw [if_pos (by
      show 0 ≤ p ∧ p < 0 + ((n : Int)).toNat
      omega)]
    show B.1 15 (0 + (p - 0)) = _
    rw [Nat.zero_add]
    exact this
  · intro B f b
    have rl := rho_le n t W S (i - 1)
    have si := (hS.1.1 i hi).1
    have sj := (hS.1.1 (i - 1) (by omega)).1
    have rs := rho_s n t W S (i - 1)
    rw [show i - 1 + 1 = i by omega] at rs
    have h9b : ∀ i, i < n → B.1 9 i = (S i : Int) := fun i hi => by rw [f.1 9 (by decide)]; exact h9 i hi
    have h10b : ∀ p, p < n → B.1 10 p = (R p : Int) := fun i hi => by rw [f.1 10 (by decide)]; exact h10 i hi
    have cc := hc _ _ sj si
    rw [show ((i + 1 : Nat) : Int) = (i : Int) + 1 by omega, show i + 1 - 1 = i by omega] at ih
    have put : ∀ v : Nat, v = rho n t W S i → Rn (d + 1) mX8_rankAnew (fun v A' => ∃ y, v = some (.inl y) ∧ P y A') 15 [some (.inr (.inl 13)), some (.inl ((n : Int))), some (.inl ((w : Int))), some (.inr (.inl 9)), some (.inr (.inl 10)), some (.inl ((v : Int))), some (.inl ((i : Int) + 1)), none, none] [] (iz_pI B 15 (uz (B.1 15) (S i) (v : Int))) := fun v hv => by
      rw [hv]
      refine ih _ (fr_pI f (by decide)) (fun j hj => ?_)
      show uz (B.1 15) _ _ _ = _
      by_cases y : j = i
      · rw [y, uz_at]
      · have e1 := (hS.1.1 j (by omega)).2
        have e2 := (hS.1.1 i hi).2
        rw [uz_ne _ _ (fun e => y (by rw [← e1, e, e2]))]
        exact b j (by omega)
    refine w_X8_rankAnew_15 ?_
    rw [tn i, show ((i : Int) - 1).toNat = i - 1 by omega, h9b _ hi, h9b _ (show i - 1 < n by omega), tn (S i), tn (S (i - 1)), h10b _ si, h10b _ sj]
    refine ⟨fun z => by omega, fun _ => ⟨inR_b (by omega) (by omega), ⟨by omega, by omega⟩, ⟨by omega, by omega⟩, ⟨by omega, by omega⟩, ⟨by omega, by omega⟩, fun z => ⟨inR_b (by omega) (by omega), ⟨by omega, by omega⟩, inR_b (by omega) (by omega), ?_⟩, fun z => ⟨inR_b (by omega) (by omega), ?_⟩⟩⟩
    · have := put (rho n t W S (i - 1) + 1) (by rw [rs, onc_1 (fun e => z (by rw [(cc.1 e).1]))])
      exact this
    · rw [show (S (i - 1) : Int) + (w : Int) = ((S (i - 1) + w : Nat) : Int) by omega, show (S i : Int) + (w : Int) = ((S i + w : Nat) : Int) by omega]
      refine sX_rankAt h3 h10b ⟨inR_b (by omega) (by omega), sX_rankAt h3 h10b ⟨fun z2 => ⟨⟨by omega, by omega⟩, inR_b (by omega) (by omega), ?_⟩, fun z2 => ⟨inR_b (by omega) (by omega), ⟨by omega, by omega⟩, inR_b (by omega) (by omega), ?_⟩⟩⟩
      · exact put _ (by rw [rs, onc_0 (fun y => y (cc.2 ⟨(by omega), z2⟩))]; rfl)
      · have := put (rho n t W S (i - 1) + 1) (by rw [rs, onc_1 (fun e => z2 (cc.1 e).2)])
        exact this
