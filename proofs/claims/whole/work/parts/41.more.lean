/-! ===== the bytes beside the pattern ===== -/
theorem t_lt {x : Ix} (h1 : TxOk x) {p : Nat} (hp : p < ixn x) : ixt x p < 256 ∧ -40 ≤ ixt x p := by
  obtain ⟨a, b, c, d, e⟩ := h1.2.2.2.2.2.2 p hp
  have := h1.2.1
  by_cases z : p = ixF x (ixo x p) + ixl x (ixo x p)
  · have := e z
    omega
  · have := d (by omega)
    omega
theorem bef_lt {x : Ix} (h1 : TxOk x) (h2 : PmOk x) {i : Nat} (hi : i < ixn x) : bef x i < 256 ∧ (bef x i = -2 ∨ 0 ≤ bef x i) := by
  have hs := (h2.1 i hi).1
  obtain ⟨a, b, c, -⟩ := h1.2.2.2.2.2.2 _ hs
  unfold bef
  by_cases z : ixs x i = ixF x (ixo x (ixs x i))
  · rw [if_pos z]
    exact ⟨by decide, Or.inl rfl⟩
  · rw [if_neg z]
    have ho : ixo x (ixs x i - 1) = ixo x (ixs x i) := own_of h1 a (by omega) (by omega)
    obtain ⟨-, -, -, d, -⟩ := h1.2.2.2.2.2.2 (ixs x i - 1) (by omega)
    rw [ho] at d
    have := d (by omega)
    omega
def bsd (x : Ix) (len : Nat) (b : Int) (r : Nat) : Int := if b = 0 then bef x r else ixt x (ixs x r + len)
theorem rg_in {x : Ix} (h1 : TxOk x) (h2 : PmOk x) (h3 : SoOk x) {p len lo hi r : Nat} (g : Rg x p len lo hi) (hl : len ≤ lft x p) (hr : lo ≤ r ∧ r < hi) : ixs x r < ixn x ∧ len ≤ lft x (ixs x r) := by
  have gg := g.2
  have hs := (h2.1 r (by omega)).1
  exact ⟨hs, al_lft h1 g.1 hs (al_sy ((rg_iff h2 h3 g (by omega)).1 hr)) hl⟩
theorem bsd_lt {x : Ix} (h1 : TxOk x) (h2 : PmOk x) (h3 : SoOk x) {p len lo hi r : Nat} {b : Int} (g : Rg x p len lo hi) (hl : len ≤ lft x p) (hr : lo ≤ r ∧ r < hi) : bsd x len b r < 256 := by
  have gg := g.2
  unfold bsd
  by_cases z : b = 0
  · rw [if_pos z]
    exact (bef_lt h1 h2 (by omega)).1
  · rw [if_neg z]
    obtain ⟨a, c⟩ := rg_in h1 h2 h3 g hl hr
    have := lft_in h1 a
    exact (t_lt h1 (by omega)).1
theorem sX_bes {d : Nat} {A : iz_A} {x : Ix} {p len lo hi dn r : Nat} {b : Int} {P : Int → iz_A → Prop} (h1 : TxOk x) (h2 : PmOk x) (h3 : SoOk x) (h4 : XI x A) (g : Rg x p len lo hi) (hl : len ≤ lft x p) (hX : HdX A dn p len lo hi) (hb : b = 0 ∨ b = 1) (hr : lo ≤ r ∧ r < hi) (hP : P (bsd x len b r) A) : Ci (d + 1) 7 [.inr (.inl 17), .inl b, .inl (r : Int)] A P := by
  have gg := g.2
  rcases hb with rfl | rfl
  · exact sX_besideF h1 h4 (by omega) hP
  · exact sX_besideB h1 h2 h3 h4 g hl hX hr hP
/-- whether a row of the run has the byte beside it -/
def has1 (x : Ix) (len lo hi : Nat) (b : Int) (c : Nat) : Int := if 0 < ct (fun r => lo ≤ r ∧ bsd x len b r = (c : Int)) hi then 1 else 0
theorem sX_neighbour {d : Nat} {A : iz_A} {x : Ix} {p len lo hi dn : Nat} {b k : Int} {P : Int → iz_A → Prop} (h1 : TxOk x) (h2 : PmOk x) (h3 : SoOk x) (h4 : XI x A) (g : Rg x p len lo hi) (hl : len ≤ lft x p) (hX : HdX A dn p len lo hi) (hb : b = 0 ∨ b = 1) (hP : ∀ C, fr [19] A C → P (if k = -1 then (cntE (has1 x len lo hi b) 1 256 : Int) else selE (has1 x len lo hi b) 1 k 0 256) C) : Ci (d + 2) 11 [.inr (.inl 17), .inl b, .inl k] A P := by
  have gg := g.2
  have nb := h1.2.2.1
  refine e_X1_neighbour (s_all19 fun A1 f1 c1 => ?_)
  rw [f1.1 17 (by decide), hX.2.2.2.1]
  refine dwl (P := fun r => ∀ B, fr [19] A B → (∀ c : Nat, c < 256 → B.1 19 c = if 0 < ct (fun r => lo ≤ r ∧ bsd x len b r = (c : Int)) r then 1 else 0) → Rn (d + 1) mX1_neighbour (fun v A' => ∃ y, v = some (.inl y) ∧ P y A') 13 [some (.inr (.inl 17)), some (.inl b), some (.inl k), some (.inl (r : Int)), none] [] B) (a := lo) (n := hi) ?_ (fun r ha hr ih => ?_) (by omega) A1 f1 (fun c hc => ?_)
  · intro B f hB
    have fin := hP B f
    refine w_X1_neighbour_13 ?_
    rw [f.1 17 (by decide), hX.2.2.2.2]
    refine ⟨fun _ => ?_, fun z => by omega⟩
    refine dwl (P := fun c => (k ≠ -1 → selE (has1 x len lo hi b) 1 k 0 256 = selE (has1 x len lo hi b) 1 k c (256 - c)) → Rn (d + 1) mX1_neighbour (fun v A' => ∃ y, v = some (.inl y) ∧ P y A') 53 [some (.inr (.inl 17)), some (.inl b), some (.inl k), some (.inl (cntE (has1 x len lo hi b) 1 c : Int)), some (.inl (c : Int))] [] B) (a := 0) (n := 256) ?_ (fun c _ hc ihc => ?_) (Nat.zero_le _) (fun _ => rfl)
    · intro hs
      refine w_X1_neighbour_53 ⟨fun _ => ⟨fun z => ⟨_, rfl, ?_⟩, fun z => ⟨_, rfl, ?_⟩⟩, fun z => by omega⟩
      · rw [if_neg z, hs z] at fin; exact fin
      · rw [if_pos z] at fin; exact fin
    · intro hs
      have cl := cntE_le (has1 x len lo hi b) 1 c
      rw [show ((c + 1 : Nat) : Int) = (c : Int) + 1 by omega, cntE_s] at ihc
      rw [show 256 - c = (256 - (c + 1)) + 1 by omega, selE_s _ _ _ c (256 - (c + 1))] at hs
      refine w_X1_neighbour_53 ⟨fun z => by omega, fun _ => ⟨⟨by omega, by omega⟩, ?_⟩⟩
      rw [tn, hB c hc]
      have e : has1 x len lo hi b c = if 0 < ct (fun r => lo ≤ r ∧ bsd x len b r = (c : Int)) hi then 1 else 0 := rfl
      rw [← e]
      refine ⟨fun z => ⟨inR_b (by omega) (by omega), ?_⟩, fun z => ⟨fun z2 => ⟨inR_b (by omega) (by omega), inR_b (by omega) (by omega), ?_⟩, fun z2 => ⟨_, rfl, ?_⟩⟩⟩
      · have w : ¬ has1 x len lo hi b c = 1 := (by omega)
        rw [if_neg w] at ihc
        exact ihc (fun z3 => by rw [hs z3, if_neg (fun y => w y.1)])
      · have w : has1 x len lo hi b c = 1 := by
          rw [e] at z ⊢
          by_cases y : 0 < ct (fun r => lo ≤ r ∧ bsd x len b r = (c : Int)) hi
          · rw [if_pos y]
          · rw [if_neg y] at z; omega
        rw [if_pos w] at ihc
        exact ihc (fun z3 => by rw [hs z3, if_neg (fun y => z2 y.2)])
      · have w : has1 x len lo hi b c = 1 := by
          rw [e] at z ⊢
          by_cases y : 0 < ct (fun r => lo ≤ r ∧ bsd x len b r = (c : Int)) hi
          · rw [if_pos y]
          · rw [if_neg y] at z; omega
        have z3 : k ≠ -1 := (by omega)
        rw [if_neg z3, hs z3, if_pos ⟨w, z2⟩] at fin
        exact fin
  · intro B f hB
    refine w_X1_neighbour_13 ?_
    rw [f.1 17 (by decide), hX.2.2.2.2]
    have bl := bsd_lt (b := b) h1 h2 h3 g hl ⟨ha, hr⟩
    refine ⟨fun z => by omega, fun _ => sX_bes h1 h2 h3 (XI_k h4 f (by decide)) g hl (by unfold HdX; rw [f.1 17 (by decide)]; exact hX) hb ⟨ha, hr⟩ ⟨fun z => ⟨inR_b (by omega) (by omega), ih B f (fun c hc => ?_)⟩, fun z => ⟨⟨by omega, by omega⟩, inR_b (by omega) (by omega), ih _ (fr_pI f (by decide)) (fun c hc => ?_)⟩⟩⟩
    · rw [hB c hc, ct_s, if_neg (fun y : lo ≤ r ∧ bsd x len b r = (c : Int) => by omega), Nat.add_zero]
    · show uz (B.1 19) (bsd x len b r).toNat 1 c = _
      by_cases w : bsd x len b r = (c : Int)
      · rw [w, tn, uz_at, ct_s, if_pos (show lo ≤ r ∧ bsd x len b r = (c : Int) from ⟨ha, w⟩), if_pos (by omega)]
      · rw [uz_ne _ _ (by omega), hB c hc, ct_s, if_neg (fun y : lo ≤ r ∧ bsd x len b r = (c : Int) => w y.2), Nat.add_zero]
  · rw [c1 c hc, ct_0 (fun i hi => by omega), if_neg (by decide)]
theorem sM_more {d : Nat} {A : iz_A} {x : Ix} {p len lo hi dn : Nat} {b k : Int} {P : Int → iz_A → Prop} (h1 : TxOk x) (h2 : PmOk x) (h3 : SoOk x) (h5 : MI x A) (g : Rg x p len lo hi) (hl : len ≤ lft x p) (hM : HdM A dn len lo hi) (hP : P (if k = -1 then (cntE (has1 x len lo hi b) 1 256 : Int) else selE (has1 x len lo hi b) 1 k 0 256) A) : Ci (d + 2) 196 [.inr (.inl 55), .inl b, .inl k] A P := by
  obtain ⟨m1, m2, m3, m4⟩ := hM
  have gg := g.2
  have nb := h1.2.2.1
  refine e_X11_more ⟨fun _ => ?_, fun z => absurd z (by rw [h5.1]; decide)⟩
  refine dwl (P := fun c => (k ≠ -1 → selE (has1 x len lo hi b) 1 k 0 256 = selE (has1 x len lo hi b) 1 k c (256 - c)) → Rn (d + 1) mX11_more (fun v A' => ∃ y, v = some (.inl y) ∧ P y A') 14 [some (.inr (.inl 55)), some (.inl b), some (.inl k), some (.inl (cntE (has1 x len lo hi b) 1 c : Int)), some (.inl (c : Int)), none, none] [] A) (a := 0) (n := 256) ?_ (fun c _ hc ihc => ?_) (Nat.zero_le _) (fun _ => rfl)
  · intro hs
    refine w_X11_more_14 ⟨fun _ => ⟨fun z => ⟨_, rfl, ?_⟩, fun z => ⟨_, rfl, ?_⟩⟩, fun z => by omega⟩
    · rw [if_neg z, hs z] at hP; exact hP
    · rw [if_pos z] at hP; exact hP
  · intro hs
    have cl := cntE_le (has1 x len lo hi b) 1 c
    rw [show ((c + 1 : Nat) : Int) = (c : Int) + 1 by omega, cntE_s] at ihc
    rw [show 256 - c = (256 - (c + 1)) + 1 by omega, selE_s _ _ _ c (256 - (c + 1))] at hs
    have e : has1 x len lo hi b c = if 0 < ct (fun r => lo ≤ r ∧ bsd x len b r = (c : Int)) hi then 1 else 0 := rfl
    have out1 : ∀ v6 : Nat, has1 x len lo hi b c = 1 → Rn (d + 1) mX11_more (fun v A' => ∃ y, v = some (.inl y) ∧ P y A') 31 [some (.inr (.inl 55)), some (.inl b), some (.inl k), some (.inl (cntE (has1 x len lo hi b) 1 c : Int)), some (.inl (c : Int)), some (.inl 1), some (.inl (v6 : Int))] [] A := fun v6 w => by
      rw [if_pos w] at ihc
      have a1 : ¬ (cntE (has1 x len lo hi b) 1 c : Int) = k → Rn (d + 1) mX11_more (fun v A' => ∃ y, v = some (.inl y) ∧ P y A') 14 [some (.inr (.inl 55)), some (.inl b), some (.inl k), some (.inl ((cntE (has1 x len lo hi b) 1 c : Int) + 1)), some (.inl ((c : Int) + 1)), none, none] [] A := fun z2 => ihc (fun z3 => by rw [hs z3, if_neg (fun y => z2 y.2)])
      have a2 : (cntE (has1 x len lo hi b) 1 c : Int) = k → ∃ y, (some (.inl (c : Int)) : Option iz_V) = some (.inl y) ∧ P y A := fun z2 => by
        have z3 : k ≠ -1 := (by omega)
        rw [if_neg z3, hs z3, if_pos ⟨w, z2⟩] at hP
        exact ⟨_, rfl, hP⟩
      refine w_X11_more_31 ?_
      rw [m2, m3]
      exact ⟨inR_b (by omega) (by omega), fun _ => ⟨fun z => absurd z n10, fun _ => ⟨fun z => ⟨inR_b (by omega) (by omega), inR_b (by omega) (by omega), a1 z⟩, fun z => a2 z⟩⟩, fun _ => ⟨fun _ => ⟨fun z => absurd z n10, fun _ => ⟨fun z => ⟨inR_b (by omega) (by omega), inR_b (by omega) (by omega), a1 z⟩, fun z => a2 z⟩⟩, fun z => absurd z n10⟩⟩
    refine w_X11_more_14 ⟨fun z => by omega, fun _ => ?_⟩
    rw [m2]
    refine dwl (P := fun r => ct (fun r => lo ≤ r ∧ bsd x len b r = (c : Int)) r = 0 → Rn (d + 1) mX11_more (fun v A' => ∃ y, v = some (.inl y) ∧ P y A') 31 [some (.inr (.inl 55)), some (.inl b), some (.inl k), some (.inl (cntE (has1 x len lo hi b) 1 c : Int)), some (.inl (c : Int)), some (.inl 0), some (.inl (r : Int))] [] A) (a := lo) (n := hi) ?_ (fun r ha hr ih => ?_) (by omega) (ct_0 (fun i hi => by omega))
    · intro h0
      have w : ¬ has1 x len lo hi b c = 1 := by rw [e, h0, if_neg (by decide)]; decide
      rw [if_neg w] at ihc
      refine w_X11_more_31 ?_
      rw [m2, m3]
      exact ⟨inR_b (by omega) (by omega), fun _ => ⟨fun _ => ⟨inR_b (by omega) (by omega), ihc (fun z3 => by rw [hs z3, if_neg (fun y => w y.1)])⟩, fun z => absurd rfl z⟩, fun z => by omega⟩
    · intro h0
      obtain ⟨s1, s2⟩ := rg_in h1 h2 h3 g hl ⟨ha, hr⟩
      have ls := lft_in h1 s1
      rw [show ((r + 1 : Nat) : Int) = (r : Int) + 1 by omega, ct_s, h0] at ih
      have no : ¬ bsd x len b r = (c : Int) → Rn (d + 1) mX11_more (fun v A' => ∃ y, v = some (.inl y) ∧ P y A') 31 [some (.inr (.inl 55)), some (.inl b), some (.inl k), some (.inl (cntE (has1 x len lo hi b) 1 c : Int)), some (.inl (c : Int)), some (.inl 0), some (.inl ((r : Int) + 1))] [] A := fun z => ih (by rw [if_neg (fun y : lo ≤ r ∧ bsd x len b r = (c : Int) => z y.2)])
      have yes : bsd x len b r = (c : Int) → Rn (d + 1) mX11_more (fun v A' => ∃ y, v = some (.inl y) ∧ P y A') 31 [some (.inr (.inl 55)), some (.inl b), some (.inl k), some (.inl (cntE (has1 x len lo hi b) 1 c : Int)), some (.inl (c : Int)), some (.inl 1), some (.inl ((r : Int) + 1))] [] A := fun z => by
        have := out1 (r + 1) (by rw [e, if_pos (ct_pos (i := r) (by omega) ⟨ha, z⟩)])
        rw [show ((r + 1 : Nat) : Int) = (r : Int) + 1 by omega] at this
        exact this
      refine w_X11_more_31 ?_
      rw [m2, m3]
      refine ⟨inR_b (by omega) (by omega), fun z => by omega, fun _ => ⟨fun z => absurd rfl z, fun _ => ⟨fun z => ?_, fun z => ?_⟩⟩⟩
      · have eb : bsd x len b r = bef x r := if_pos z
        rw [eb] at no yes
        exact sM_before h1 h2 h5 (i := r) (by omega) ⟨fun z2 => ⟨inR_b (by omega) (by omega), no z2⟩, fun z2 => ⟨inR_b (by omega) (by omega), yes z2⟩⟩
      · have eb : bsd x len b r = ixt x (ixs x r + len) := if_neg z
        rw [eb] at no yes
        refine ⟨⟨by omega, by omega⟩, ?_⟩
        rw [tn, (h5.2.2.2.2.2.1 r (by omega)).1]
        refine sM_left h1 h5 s1 ?_
        rw [m1, (h5.2.2.2.2.2.1 r (by omega)).1, show ((ixs x r : Int) + (len : Int)).toNat = ixs x r + len by omega]
        refine ⟨fun z2 => ⟨inR_b (by omega) (by omega), no ?_⟩, fun z2 => ⟨⟨by omega, by omega⟩, inR_b (by omega) (by omega), ⟨by omega, by omega⟩, ?_⟩⟩
        · have te := t_end h1 s1
          rw [show lft x (ixs x r) = len by omega] at te
          have := h1.2.1
          omega
        · rw [tM_in h1 h5 s1 (by omega)]
          exact ⟨fun z2 => ⟨inR_b (by omega) (by omega), no z2⟩, fun z2 => ⟨inR_b (by omega) (by omega), yes z2⟩⟩
theorem b_more {A : iz_A} {I : iz_A → Prop} {b k : Int} {x : Ix} (hb : b = 0 ∨ b = 1) (hx : HdAt x A) (hI0 : I A) (hI : XM x A → ∀ C, fr [19] A C → I C) : Bo 131 196 [.inl b, .inl k] [.inl b, .inl k] A I := by
  rcases hx with hn | ⟨hx, p, len, lo, hi, dn, g, hl, hd, hX, hM, hp, hq⟩
  · exact bo_bad (d := 1) (d' := 1) (by decide) (by decide) hI0 (fun P hP => e_X10_more (d := 0) ⟨fun _ => ⟨_, rfl, hP⟩, fun z => absurd (by rw [hn.1]; decide) z⟩) (fun P hP => e_X11_more (d := 0) ⟨fun z => absurd hn.2.2.1 z, fun _ => ⟨_, rfl, hP⟩⟩)
  · obtain ⟨h1, h2, h3, h4, h5⟩ := id hx
    have np := n_pos h1
    refine Ci_mono (d := 3) (by decide) (e_X10_more (d := 2) ⟨fun z => by rw [h4.1] at z; omega, fun _ => sX_neighbour h1 h2 h3 h4 g hl hX hb fun B fB => ⟨_, rfl, ?_⟩⟩) (fun _ _ z => z)
    have h5' : MI x B := MI_k (m := []) h5 fB (by decide) (ff_eq (fB.1 55 (by decide))) (by decide)
    exact Ci_mono (d := 2) (by decide) (sM_more (d := 0) (P := fun x2 A2 => _ = x2 ∧ I A2) h1 h2 h3 h5' g hl (by unfold HdM; rw [fB.1 55 (by decide)]; exact hM) ⟨rfl, hI hx B fB⟩) (fun _ _ z => z)
