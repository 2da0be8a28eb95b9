/-! ===== near ===== -/
def dfr (f g : Nat → Int) (most : Int) : Nat → Nat → Nat → Nat
  | 0, _, v => v
  | m + 1, i, v => if most < (v : Int) then v else dfr f g most m (i + 1) (v + if f i = g i then 0 else 1)
theorem dfr_s (f g : Nat → Int) (most : Int) (m i v : Nat) : dfr f g most (m + 1) i v = if most < (v : Int) then v else dfr f g most m (i + 1) (v + if f i = g i then 0 else 1) := rfl
/-- how much a place differs from the pattern; more than most is not counted to its end -/
def dff (x : Ix) (p q len : Nat) (most : Int) : Nat := dfr (fun i => ixt x (p + i)) (fun i => ixt x (q + i)) most len 0 0
theorem ct_ex (P : Nat → Prop) [DecidablePred P] {n j : Nat} (h : j < ct P n) : ∃ q, q < n ∧ P q ∧ ct P q = j := by
  induction n with
  | zero => exact absurd h (Nat.not_lt_zero _)
  | succ n ih =>
    rw [ct_s] at h
    by_cases c : P n
    · rw [if_pos c] at h
      by_cases z : j = ct P n
      · exact ⟨n, (by omega), c, z.symm⟩
      · obtain ⟨q, a, b⟩ := ih (by omega)
        exact ⟨q, (by omega), b⟩
    · rw [if_neg c] at h
      obtain ⟨q, a, b⟩ := ih (by omega)
      exact ⟨q, (by omega), b⟩
theorem ct_lt (P : Nat → Prop) [DecidablePred P] {m n : Nat} (h : m < n) (c : P m) : ct P m < ct P n := by
  have := ct_mono P (show m + 1 ≤ n from h)
  rw [ct_s, if_pos c] at this
  omega
theorem sX_differ {d : Nat} {A : iz_A} {x : Ix} {dn p q len lo hi : Nat} {most : Int} {P : Int → iz_A → Prop} (h1 : TxOk x) (h4 : XI x A) (hX : HdX A dn q len lo hi) (hp : p < ixn x) (hq : q < ixn x) (hl : len ≤ lft x p) (hl2 : len ≤ lft x q) (hP : P (dff x p q len most : Int) A) : Ci (d + 1) 41 [.inr (.inl 20), .inl (p : Int), .inl most] A P := by
  have nb := h1.2.2.1
  have lp := lft_in h1 hp
  have lq := lft_in h1 hq
  refine e_X4_differAt ?_
  refine dwl (P := fun i => ∀ v : Nat, v ≤ i → dff x p q len most = dfr (fun i => ixt x (p + i)) (fun i => ixt x (q + i)) most (len - i) i v → Rn d mX4_differAt (fun v A' => ∃ y, v = some (.inl y) ∧ P y A') 5 [some (.inr (.inl 20)), some (.inl (p : Int)), some (.inl most), some (.inl (v : Int)), some (.inl (i : Int))] [] A) (a := 0) (n := len) ?_ (fun i _ hi ih => ?_) (Nat.zero_le _) 0 (Nat.le_refl _) rfl
  · intro v hv hs
    refine w_X4_differAt_5 ?_
    rw [hX.2.2.1]
    rw [hs, Nat.sub_self] at hP
    exact ⟨fun _ => ⟨_, rfl, hP⟩, fun z => by omega⟩
  · intro v hv hs
    rw [show len - i = (len - (i + 1)) + 1 by omega, dfr_s] at hs
    refine w_X4_differAt_5 ?_
    rw [hX.2.2.1, hX.2.1, show ((p : Int) + (i : Int)).toNat = p + i by omega, show ((q : Int) + (i : Int)).toNat = q + i by omega, (h4.2.2.1 (p + i) (by omega)).1, (h4.2.2.1 (q + i) (by omega)).1]
    refine ⟨fun z => by omega, fun _ => ⟨fun z => ⟨_, rfl, ?_⟩, fun z => ⟨inR_b (by omega) (by omega), ⟨by omega, by omega⟩, inR_b (by omega) (by omega), ⟨by omega, by omega⟩, fun z2 => ⟨inR_b (by omega) (by omega), ?_⟩, fun z2 => ⟨inR_b (by omega) (by omega), inR_b (by omega) (by omega), ?_⟩⟩⟩⟩
    · rw [hs, if_pos z] at hP; exact hP
    · rw [if_neg z, if_pos z2] at hs
      exact ih v (by omega) hs
    · rw [if_neg z, if_neg z2] at hs
      exact ih (v + 1) (by omega) hs
/-- what near() keeps -/
def NkX (x : Ix) (ok : Nat → Prop) [DecidablePred ok] (D : Nat → Nat) (B : iz_A) (n : Nat) : Prop := B.1 20 4 = (ct ok n : Int) ∧ ∀ q, q < n → ok q → B.1 21 (ct ok q) = (q : Int) ∧ B.1 22 (ct ok q) = (D q : Int)
def NkM (x : Ix) (ok : Nat → Prop) [DecidablePred ok] (D : Nat → Nat) (B : iz_A) (n : Nat) : Prop := B.1 55 29 = (ct ok n : Int) ∧ ∀ q, q < n → ok q → B.1 71 (ct ok q) = (q : Int) ∧ B.1 72 (ct ok q) = (D q : Int)
def NR (A : iz_A) : Prop := ∃ f : Nat, A.1 20 4 = (f : Int) ∧ A.1 55 29 = (f : Int) ∧ f ≤ 3000 ∧ ∀ j, j < f → A.1 21 j = A.1 71 j ∧ A.1 22 j = A.1 72 j
theorem sX_find {d : Nat} {A : iz_A} {x : Ix} {dn q len lo hi : Nat} {most : Int} {P : Int → iz_A → Prop} (h1 : TxOk x) (h4 : XI x A) (hX : HdX A dn q len lo hi) (hq : q < ixn x) (hl2 : len ≤ lft x q) (hP : ∀ C, fr [20, 21, 22] A C → NkX x (fun p => len ≤ lft x p ∧ (dff x p q len most : Int) ≤ most) (fun p => dff x p q len most) C (ixn x) → P (ct (fun p => len ≤ lft x p ∧ (dff x p q len most : Int) ≤ most) (ixn x) : Int) C) : Ci (d + 3) 40 [.inr (.inl 20), .inl most] A P := by
  have nb := h1.2.2.1
  have lq := lft_in h1 hq
  refine e_X4_find ?_
  refine dwl (P := fun p => ∀ B, fr [20, 21, 22] A B → NkX x (fun p => len ≤ lft x p ∧ (dff x p q len most : Int) ≤ most) (fun p => dff x p q len most) B p → Rn (d + 2) mX4_find (fun v A' => ∃ y, v = some (.inl y) ∧ P y A') 7 [some (.inr (.inl 20)), some (.inl most), some (.inl (p : Int)), none] [] B) (a := 0) (n := ixn x) ?_ (fun p _ hp ih => ?_) (Nat.zero_le _) _ (fr_pI (fr_mo (fr_rf A) (by decide)) (by decide)) ⟨rfl, fun q hq => by omega⟩
  · intro B f b
    refine w_X4_find_7 ?_
    rw [f.1 5 (by decide), h4.1, b.1]
    exact ⟨fun _ => ⟨_, rfl, hP B f b⟩, fun z => by omega⟩
  · intro B f b
    have h4' : XI x B := XI_k h4 f (by decide)
    have hX' : HdX B dn q len lo hi := by unfold HdX; rw [f.1 17 (by decide)]; exact hX
    have cl := ct_le (fun p => len ≤ lft x p ∧ (dff x p q len most : Int) ≤ most) p
    rw [show ((p + 1 : Nat) : Int) = (p : Int) + 1 by omega] at ih
    have no : ¬ (len ≤ lft x p ∧ (dff x p q len most : Int) ≤ most) → Rn (d + 2) mX4_find (fun v A' => ∃ y, v = some (.inl y) ∧ P y A') 7 [some (.inr (.inl 20)), some (.inl most), some (.inl ((p : Int) + 1)), none] [] B := fun z => by
      refine ih B f ⟨?_, fun q hq oq => ?_⟩
      · rw [ct_s, if_neg z, Nat.add_zero]; exact b.1
      · by_cases w : q = p
        · rw [w] at oq; exact absurd oq z
        · exact b.2 q (by omega) oq
    refine w_X4_find_7 ?_
    rw [h4'.1, hX'.2.2.1]
    refine ⟨fun z => by omega, fun _ => sX_left h1 h4' hp ⟨fun z => ⟨inR_b (by omega) (by omega), no (by omega)⟩, fun z => sX_differ h1 h4' hX' hp hq (by omega) hl2 ⟨fun z2 => ⟨inR_b (by omega) (by omega), no (by omega)⟩, fun z2 => ?_⟩⟩⟩
    have ok : len ≤ lft x p ∧ (dff x p q len most : Int) ≤ most := ⟨by omega, by omega⟩
    rw [b.1, tn]
    refine ⟨⟨by omega, by omega⟩, ⟨by omega, by omega⟩, inR_b (by omega) (by omega), inR_b (by omega) (by omega), ih _ (fr_pI (fr_pI (fr_pI f (by decide)) (by decide)) (by decide)) ⟨?_, fun q' hq' oq => ?_⟩⟩
    · rw [ct_s, if_pos ok]
      rfl
    · show uz (B.1 21) (ct _ p) _ _ = _ ∧ uz (B.1 22) (ct _ p) _ _ = _
      by_cases w : q' = p
      · rw [w, uz_at, uz_at]
        exact ⟨rfl, rfl⟩
      · have := ct_lt (fun p => len ≤ lft x p ∧ (dff x p q len most : Int) ≤ most) (show q' < p by omega) oq
        rw [uz_ne _ _ (by omega), uz_ne _ _ (by omega)]
        exact b.2 q' (by omega) oq
theorem sM_near {d : Nat} {A : iz_A} {x : Ix} {dn q len lo hi : Nat} {most : Int} {P : Int → iz_A → Prop} (h1 : TxOk x) (h5 : MI x A) (hM : HdM A dn len lo hi) (hpt : ∀ j, j < len → A.1 69 j = ixt x (q + j)) (hq : q < ixn x) (h40 : 1 ≤ len ∧ len ≤ 40) (hm : 0 ≤ most ∧ most ≤ 3) (hP : ∀ C, fr [55, 71, 72] A C → ff [29] (A.1 55) (C.1 55) → NkM x (fun p => len ≤ lft x p ∧ (dff x p q len most : Int) ≤ most) (fun p => dff x p q len most) C (ixn x) → P (ct (fun p => len ≤ lft x p ∧ (dff x p q len most : Int) ≤ most) (ixn x) : Int) C) : Ci (d + 2) 201 [.inr (.inl 55), .inl most] A P := by
  have nb := h1.2.2.1
  refine e_X11_near ⟨fun z => absurd z (by rw [h5.1]; decide), fun _ => ⟨fun z => by omega, fun _ => ⟨fun z => by omega, fun _ => ⟨fun z => by rw [hM.1] at z; omega, fun _ => ⟨fun _ => ?_, fun z => by rw [hM.1] at z; omega⟩⟩⟩⟩⟩
  refine dwl (P := fun p => ∀ B, fr [55, 71, 72] A B → ff [29] (A.1 55) (B.1 55) → NkM x (fun p => len ≤ lft x p ∧ (dff x p q len most : Int) ≤ most) (fun p => dff x p q len most) B p → Rn (d + 1) mX11_near (fun v A' => ∃ y, v = some (.inl y) ∧ P y A') 42 [some (.inr (.inl 55)), some (.inl most), some (.inl (p : Int)), none, none] [] B) (a := 0) (n := ixn x) ?_ (fun p _ hp ih => ?_) (Nat.zero_le _) _ (fr_pI (fr_mo (fr_rf A) (by decide)) (by decide)) (ff_uz (ff_eq rfl) (by decide)) ⟨rfl, fun q hq => by omega⟩
  · intro B f e b
    refine w_X11_near_42 ?_
    rw [e 7 (by decide), h5.2.1, b.1]
    exact ⟨fun _ => ⟨_, rfl, hP B f e b⟩, fun z => by omega⟩
  · intro B f e b
    have h5' : MI x B := MI_k h5 f (by decide) e (by decide)
    have m1 : B.1 55 22 = (len : Int) := (e 22 (by decide)).trans hM.1
    have cl := ct_le (fun p => len ≤ lft x p ∧ (dff x p q len most : Int) ≤ most) p
    have lp := lft_in h1 hp
    rw [show ((p + 1 : Nat) : Int) = (p : Int) + 1 by omega] at ih
    have no : ¬ (len ≤ lft x p ∧ (dff x p q len most : Int) ≤ most) → Rn (d + 1) mX11_near (fun v A' => ∃ y, v = some (.inl y) ∧ P y A') 42 [some (.inr (.inl 55)), some (.inl most), some (.inl ((p : Int) + 1)), none, none] [] B := fun z => by
      refine ih B f e ⟨?_, fun q hq oq => ?_⟩
      · rw [ct_s, if_neg z, Nat.add_zero]; exact b.1
      · by_cases w : q = p
        · rw [w] at oq; exact absurd oq z
        · exact b.2 q (by omega) oq
    have yes : len ≤ lft x p ∧ (dff x p q len most : Int) ≤ most → Rn (d + 1) mX11_near (fun v A' => ∃ y, v = some (.inl y) ∧ P y A') 42 [some (.inr (.inl 55)), some (.inl most), some (.inl ((p : Int) + 1)), none, none] [] (iz_pI (iz_pI (iz_pI B 71 (uz (B.1 71) (ct (fun p => len ≤ lft x p ∧ (dff x p q len most : Int) ≤ most) p) (p : Int))) 72 (uz (B.1 72) (ct (fun p => len ≤ lft x p ∧ (dff x p q len most : Int) ≤ most) p) (dff x p q len most : Int))) 55 (uz (B.1 55) 29 ((ct (fun p => len ≤ lft x p ∧ (dff x p q len most : Int) ≤ most) p : Int) + 1))) := fun ok => by
      refine ih _ (fr_pI (fr_pI (fr_pI f (by decide)) (by decide)) (by decide)) (ff_uz e (by decide)) ⟨?_, fun q' hq' oq => ?_⟩
      · rw [ct_s, if_pos ok]
        rfl
      · show uz (B.1 71) (ct _ p) _ _ = _ ∧ uz (B.1 72) (ct _ p) _ _ = _
        by_cases w : q' = p
        · rw [w, uz_at, uz_at]
          exact ⟨rfl, rfl⟩
        · have := ct_lt (fun p => len ≤ lft x p ∧ (dff x p q len most : Int) ≤ most) (show q' < p by omega) oq
          rw [uz_ne _ _ (by omega), uz_ne _ _ (by omega)]
          exact b.2 q' (by omega) oq
    refine w_X11_near_42 ?_
    rw [h5'.2.1]
    refine ⟨fun z => by omega, fun _ => ?_⟩
    refine dwl (P := fun i => ∀ v : Nat, v ≤ i → (len ≤ lft x p → dff x p q len most = dfr (fun i => ixt x (p + i)) (fun i => ixt x (q + i)) most (len - i) i v) → Rn (d + 1) mX11_near (fun v A' => ∃ y, v = some (.inl y) ∧ P y A') 55 [some (.inr (.inl 55)), some (.inl most), some (.inl (p : Int)), some (.inl (v : Int)), some (.inl (i : Int))] [] B) (a := 0) (n := len) ?_ (fun i _ hi ihi => ?_) (Nat.zero_le _) 0 (Nat.le_refl _) (fun _ => rfl)
    · intro v hv hs
      refine w_X11_near_55 ⟨fun _ => sM_left h1 h5' hp ?_, fun z => by rw [m1] at z; omega⟩
      rw [m1, b.1, tn]
      refine ⟨fun y => ⟨inR_b (by omega) (by omega), no (by omega)⟩, fun y => ?_⟩
      have hv2 := hs (by omega)
      rw [Nat.sub_self] at hv2
      have hv2 : dff x p q len most = v := hv2
      refine ⟨fun y2 => ⟨inR_b (by omega) (by omega), no (by omega)⟩, fun y2 => ⟨⟨by omega, by omega⟩, ⟨by omega, by omega⟩, inR_b (by omega) (by omega), inR_b (by omega) (by omega), ?_⟩⟩
      rw [← hv2]
      exact yes ⟨by omega, by omega⟩
    · intro v hv hs
      rw [show len - i = (len - (i + 1)) + 1 by omega, dfr_s] at hs
      refine w_X11_near_55 ⟨fun z => by rw [m1] at z; omega, fun _ => sM_left h1 h5' hp ?_⟩
      rw [m1]
      refine ⟨fun y => sM_left h1 h5' hp ?_, fun y => ⟨fun y2 => sM_left h1 h5' hp ?_, fun y2 => ?_⟩⟩
      · rw [m1, b.1, tn]
        exact ⟨fun y => ⟨inR_b (by omega) (by omega), no (by omega)⟩, fun z => by omega⟩
      · have hv2 := hs (by omega)
        rw [if_pos y2] at hv2
        rw [m1, b.1, tn]
        exact ⟨fun z => by omega, fun _ => ⟨fun _ => ⟨inR_b (by omega) (by omega), no (by omega)⟩, fun z => by omega⟩⟩
      · have hv2 := hs (by omega)
        rw [if_neg y2] at hv2
        rw [show ((p : Int) + (i : Int)).toNat = p + i by omega, tn, tM_in h1 h5' hp (by omega), f.1 69 (by decide), hpt i hi]
        refine ⟨inR_b (by omega) (by omega), ⟨by omega, by omega⟩, ⟨by omega, by omega⟩, fun z2 => ⟨inR_b (by omega) (by omega), inR_b (by omega) (by omega), ?_⟩, fun z2 => ⟨inR_b (by omega) (by omega), inR_b (by omega) (by omega), ?_⟩⟩
        · rw [if_neg z2] at hv2
          exact ihi (v + 1) (by omega) (fun _ => hv2)
        · rw [if_pos z2] at hv2
          exact ihi v (by omega) (fun _ => hv2)
theorem b_near {A : iz_A} {I : iz_A → Prop} {m : Int} {x : Ix} (hx : HdAt x A) (hI0 : I A) (hI : XM x A → ∀ C, fr [20, 21, 22, 55, 71, 72] A C → ff [29] (A.1 55) (C.1 55) → NR C → I C) : Bo 135 201 [.inl m] [.inl m] A I := by
  rcases hx with hn | ⟨hx, p, len, lo, hi, dn, g, hl, hd, hX, hM, hp, hq⟩
  · refine bo_bad (d := 1) (d' := 1) (by decide) (by decide) hI0 (fun P hP => e_X10_near (d := 0) ⟨fun _ => ⟨_, rfl, hP⟩, fun _ => ⟨fun _ => ⟨_, rfl, hP⟩, fun _ => ⟨fun _ => ⟨_, rfl, hP⟩, fun z => absurd (by rw [hn.2.2.2.2.2.1]; decide) z⟩⟩⟩) (fun P hP => e_X11_near (d := 0) ⟨fun _ => ⟨_, rfl, hP⟩, fun z => absurd hn.2.2.1 z⟩)
  · obtain ⟨h1, h2, h3, h4, h5⟩ := id hx
    have nb := h1.2.2.1
    by_cases hm : (0 ≤ m ∧ m ≤ 3) ∧ 1 ≤ len ∧ len ≤ 40
    · refine Ci_mono (d := 4) (by decide) (e_X10_near (d := 3) ⟨fun z => by omega, fun _ => ⟨fun z => by omega, fun _ => ⟨fun z => by rw [hX.2.2.1] at z; omega, fun _ => ⟨fun z => by rw [hX.2.2.1] at z; omega, fun _ => sX_find h1 h4 hX g.1 hl fun B fB hB => ⟨_, rfl, ?_⟩⟩⟩⟩⟩) (fun _ _ z => z)
      have h5' : MI x B := MI_k (m := []) h5 fB (by decide) (ff_eq (fB.1 55 (by decide))) (by decide)
      refine Ci_mono (d := 2) (by decide) (sM_near (d := 0) (q := p) (P := fun x2 A2 => _ = x2 ∧ I A2) h1 h5' (by unfold HdM; rw [fB.1 55 (by decide)]; exact hM) (by rw [fB.1 69 (by decide)]; exact hp) g.1 hm.2 hm.1 fun C fC eC hC => ⟨rfl, ?_⟩) (fun _ _ z => z)
      refine hI hx C (fr_mo (fr_tr fB fC) (by decide)) (by rw [← fB.1 55 (by decide)]; exact eC) ⟨ct (fun q => len ≤ lft x q ∧ (dff x q p len m : Int) ≤ m) (ixn x), ?_, hC.1, ?_, fun j hj => ?_⟩
      · rw [fC.1 20 (by decide)]
        exact hB.1
      · exact Nat.le_trans (ct_le _ _) nb
      · obtain ⟨q, q1, q2, q3⟩ := ct_ex _ hj
        rw [fC.1 21 (by decide), fC.1 22 (by decide), ← q3, (hB.2 q q1 q2).1, (hB.2 q q1 q2).2, (hC.2 q q1 q2).1, (hC.2 q q1 q2).2]
        exact ⟨rfl, rfl⟩
    · have a1 := hX.2.2.1
      have a2 := hM.1
      refine bo_bad (d := 1) (d' := 1) (by decide) (by decide) hI0 (fun P hP => e_X10_near (d := 0) ⟨fun _ => ⟨_, rfl, hP⟩, fun _ => ⟨fun _ => ⟨_, rfl, hP⟩, fun _ => ⟨fun _ => ⟨_, rfl, hP⟩, fun _ => ⟨fun _ => ⟨_, rfl, hP⟩, fun z => by omega⟩⟩⟩⟩) (fun P hP => e_X11_near (d := 0) ⟨fun _ => ⟨_, rfl, hP⟩, fun _ => ⟨fun _ => ⟨_, rfl, hP⟩, fun _ => ⟨fun _ => ⟨_, rfl, hP⟩, fun _ => ⟨fun _ => ⟨_, rfl, hP⟩, fun _ => ⟨fun z => by omega, fun _ => ⟨_, rfl, hP⟩⟩⟩⟩⟩⟩)
theorem b_nearOf {A : iz_A} {I : iz_A → Prop} {k w : Int} {x : Ix} (hx : NotB A ∨ (XM x A ∧ NR A)) (hI : I A) : Bo 136 202 [.inl k, .inl w] [.inl k, .inl w] A I := by
  rcases hx with hn | ⟨⟨h1, h2, h3, h4, h5⟩, f, n1, n2, n3, n4⟩
  · refine bo_bad (d := 1) (d' := 1) (by decide) (by decide) hI (fun P hP => e_X10_nearOf (d := 0) ⟨fun _ => ⟨_, rfl, hP⟩, fun z => ⟨fun _ => ⟨_, rfl, hP⟩, fun z2 => ?_⟩⟩) (fun P hP => e_X11_nearOf (d := 0) ⟨fun _ => ⟨_, rfl, hP⟩, fun z => absurd hn.2.2.1 z⟩)
    have := hn.2.2.2.2.2.2.2.2.1
    omega
  · by_cases hk : (0 ≤ k ∧ k < (f : Int)) ∧ (w = 0 ∨ w = 1)
    · obtain ⟨⟨k0, k1⟩, hw⟩ := hk
      obtain ⟨j, rfl, hj⟩ := nat_of k0 k1
      refine bo_both (d := 1) (d' := 1) (by decide) (by decide) (if w = 0 then A.1 21 j else A.1 22 j) hI (fun P hP => ?_) (fun P hP => ?_)
      · refine e_X10_nearOf (d := 0) ⟨fun z => by omega, fun _ => ⟨fun z => by omega, fun _ => ⟨fun z => by omega, fun _ => ⟨fun _ => ⟨fun z => ⟨⟨by omega, by omega⟩, _, rfl, ?_⟩, fun z => ⟨⟨by omega, by omega⟩, _, rfl, ?_⟩⟩, fun z => by omega⟩⟩⟩⟩
        · rw [if_neg z] at hP; rw [tn]; exact hP
        · rw [if_pos z] at hP; rw [tn]; exact hP
      · refine e_X11_nearOf (d := 0) ⟨fun z => absurd z (by rw [h5.1]; decide), fun _ => ⟨fun z => by omega, fun _ => ⟨fun z => by omega, fun _ => ⟨fun z => by omega, fun _ => ⟨fun _ => ⟨fun z => ⟨⟨by omega, by omega⟩, _, rfl, ?_⟩, fun z => ⟨⟨by omega, by omega⟩, _, rfl, ?_⟩⟩, fun z => by omega⟩⟩⟩⟩⟩
        · rw [if_neg z, (n4 j hj).2] at hP; rw [tn]; exact hP
        · rw [if_pos z, (n4 j hj).1] at hP; rw [tn]; exact hP
    · refine bo_bad (d := 1) (d' := 1) (by decide) (by decide) hI (fun P hP => e_X10_nearOf (d := 0) ⟨fun _ => ⟨_, rfl, hP⟩, fun _ => ⟨fun _ => ⟨_, rfl, hP⟩, fun _ => ⟨fun _ => ⟨_, rfl, hP⟩, fun _ => ⟨fun z => by omega, fun _ => ⟨_, rfl, hP⟩⟩⟩⟩⟩) (fun P hP => e_X11_nearOf (d := 0) ⟨fun _ => ⟨_, rfl, hP⟩, fun _ => ⟨fun _ => ⟨_, rfl, hP⟩, fun _ => ⟨fun _ => ⟨_, rfl, hP⟩, fun _ => ⟨fun _ => ⟨_, rfl, hP⟩, fun _ => ⟨fun z => by omega, fun _ => ⟨_, rfl, hP⟩⟩⟩⟩⟩⟩)
