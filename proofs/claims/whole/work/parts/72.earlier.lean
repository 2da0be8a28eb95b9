theorem jo_bd {x : Ix} (h1 : TxOk x) (h2 : PmOk x) (h3 : SoOk x) {u : Int} {r : Nat} {j : Int} (hu : -1 ≤ u) (hr : r < ixn x) (h : JoR x u r j) : 0 ≤ j ∧ j < 3000 := by
  obtain ⟨m, m0, -, k, k1, k2, k3⟩ := h
  have := c_le h1 h2 h3 (i := k) (by omega)
  have := lft_bd h1 (h2.1 k (by omega)).1
  omega
theorem up_ge {x : Ix} {b r : Nat} {u : Int} (h : UpR x b r u) : -1 ≤ u ∧ u < (r : Int) := by
  rcases h with ⟨h, -⟩ | ⟨k, k1, k2, -⟩ <;> omega
/-- one row is taken out -/
theorem ear_out {x : Ix} (h2 : PmOk x) {p : Nat} {A C : iz_A} (hp : p < ixn x) (h : Ear x (p + 1) A) {below ju : Nat} (e53 : A.1 53 (ixr x p) = (below : Int)) (e54 : A.1 54 (ixr x p) = (ju : Int)) (c53 : ∀ r, r < ixn x → C.1 53 r = if A.1 52 (ixr x p) = (r : Int) then (below : Int) else A.1 53 r) (c52 : ∀ r, r < ixn x → C.1 52 r = if r = below then A.1 52 (ixr x p) else A.1 52 r) (c54 : ∀ r, r < ixn x → C.1 54 r = if r = below then (if A.1 54 below < (ju : Int) then A.1 54 below else (ju : Int)) else A.1 54 r) : Ear x p C := by
  have rp := h2.2 p hp
  obtain ⟨hU, hL, hJ⟩ := h _ rp.1 (by rw [rp.2]; omega)
  obtain ⟨bl, l0, l1, l2, l3, l4⟩ := hL
  obtain rfl : below = bl := (by omega)
  have ug := up_ge hU
  intro r hr hs
  have ne : r ≠ ixr x p := fun e => by rw [e, rp.2] at hs; omega
  obtain ⟨rU, rL, rJ⟩ := h r hr (by omega)
  have less : ∀ k, k < ixn x → (ixs x k < p ↔ ixs x k < p + 1 ∧ k ≠ ixr x p) := fun k hk => by
    refine ⟨fun y => ⟨(by omega), fun e => by rw [e, rp.2] at y; omega⟩, fun y => ?_⟩
    have : ixs x k ≠ p := fun e => y.2 (by rw [← e, (h2.1 k hk).2])
    omega
  rw [c52 r hr, c53 r hr, c54 r hr]
  -- the row behind the one taken out
  by_cases cb : r = below
  · have upb : A.1 52 r = (ixr x p : Int) := by
      rcases rU with ⟨u1, u2⟩ | ⟨k, k1, k2, k3, k4⟩
      · exact absurd (by rw [rp.2]; omega) (u2 (ixr x p) (by omega))
      · rcases Nat.lt_trichotomy k (ixr x p) with y | y | y
        · exact absurd (by rw [rp.2]; omega) (k4 (ixr x p) y (by omega))
        · rw [k2, y]
        · exact absurd k3 (l4 k y (by omega))
    rw [if_pos cb, if_pos cb, if_neg (show ¬ A.1 52 (ixr x p) = (r : Int) by omega)]
    refine ⟨?_, ?_, ?_⟩
    · rcases hU with ⟨u1, u2⟩ | ⟨k, k1, k2, k3, k4⟩
      · refine Or.inl ⟨u1, fun k hk y => ?_⟩
        have y' := (less k (by omega)).1 y
        by_cases w : k < ixr x p
        · exact u2 k w y'.1
        · exact l4 k (by omega) (by omega) y'.1
      · refine Or.inr ⟨k, (by omega), k2, (less k (by omega)).2 ⟨k3, (by omega)⟩, fun k' w1 w2 y => ?_⟩
        have y' := (less k' (by omega)).1 y
        by_cases w : k' < ixr x p
        · exact k4 k' w1 w y'.1
        · exact l4 k' (by omega) (by omega) y'.1
    · obtain ⟨k, k0, k1, k2, k3, k4⟩ := rL
      exact ⟨k, k0, k1, k2, fun w => (less k w).2 ⟨k3 w, (by omega)⟩, fun k' w1 w2 y => k4 k' w1 w2 ((less k' (by omega)).1 y).1⟩
    · obtain ⟨m, m0, m1, m2⟩ := hJ
      obtain ⟨m', n0, n1, n2⟩ := rJ
      rw [upb] at n1 n2
      rw [← cb, n0]
      obtain ⟨k, k1, k2, k3⟩ := m2
      obtain ⟨k', k1', k2', k3'⟩ := n2
      refine ⟨if m' < ju then m' else ju, by split <;> split <;> omega, fun i i1 i2 => ?_, ?_⟩
      · by_cases w : i ≤ ixr x p
        · have := m1 i i1 w
          split <;> omega
        · have := n1 i (by omega) i2
          split <;> omega
      · by_cases w : m' < ju
        · rw [if_pos w]
          exact ⟨k', (by omega), (by omega), k3'⟩
        · rw [if_neg w]
          exact ⟨k, k1, (by omega), (by omega)⟩
  · rw [if_neg cb, if_neg cb]
    refine ⟨?_, ?_, rJ⟩
    · rcases rU with ⟨u1, u2⟩ | ⟨k, k1, k2, k3, k4⟩
      · exact Or.inl ⟨u1, fun k hk y => u2 k hk ((less k (by omega)).1 y).1⟩
      · have kn : k ≠ ixr x p := fun e => by
          rcases Nat.lt_trichotomy r below with y | y | y
          · exact absurd (show ixs x r < p + 1 by omega) (l4 r (by omega) y)
          · exact cb y
          · exact absurd (l3 (by omega)) (k4 below (by omega) y)
        exact Or.inr ⟨k, k1, k2, (less k (by omega)).2 ⟨k3, kn⟩, fun k' w1 w2 y => k4 k' w1 w2 ((less k' (by omega)).1 y).1⟩
    · obtain ⟨k, k0, k1, k2, k3, k4⟩ := rL
      by_cases w : A.1 52 (ixr x p) = (r : Int)
      · rw [if_pos w]
        have lr : r < ixr x p := (by omega)
        refine ⟨below, rfl, (by omega), l2, fun y => (less below y).2 ⟨l3 y, (by omega)⟩, fun k' w1 w2 y => ?_⟩
        have y' := (less k' (by omega)).1 y
        by_cases v : k' < ixr x p
        · rcases hU with ⟨u1, u2⟩ | ⟨i, i1, i2, i3, i4⟩
          · exact u2 k' v y'.1
          · exact i4 k' (by omega) v y'.1
        · exact l4 k' (by omega) w2 y'.1
      · rw [if_neg w]
        have kn : k ≠ ixr x p := fun e => by
          rcases hU with ⟨u1, u2⟩ | ⟨i, i1, i2, i3, i4⟩
          · exact u2 r (by omega) (by omega)
          · rcases Nat.lt_trichotomy i r with y | y | y
            · exact i4 r y (by omega) (by omega)
            · exact w (by rw [i2, y])
            · exact k4 i y (by omega) i3
        exact ⟨k, k0, k1, k2, fun y => (less k y).2 ⟨k3 y, kn⟩, fun k' w1 w2 y => k4 k' w1 w2 ((less k' (by omega)).1 y).1⟩
theorem sX_earlier {d : Nat} {A : iz_A} {x : Ix} {P : iz_A → Prop} (h1 : TxOk x) (h2 : PmOk x) (h3 : SoOk x) (h4 : XI x A) (hP : ∀ C, fr [49, 52, 53, 54] A C → (∃ er, ErR x er C) → P C) : Cv (d + 1) 43 [.inr (.inl 48)] A P := by
  have nb := h1.2.2.1
  have np := n_pos h1
  refine e_X5_learnEarlier ?_
  refine dwl (P := fun i => ∀ B, fr [49, 52, 53, 54] A B → (∀ j, j < i → B.1 52 j = (j : Int) - 1 ∧ B.1 53 j = (j : Int) + 1 ∧ B.1 54 j = (ixc x j : Int)) → Rn d mX5_learnEarlier (fun v A' => v = none ∧ P A') 2 [some (.inr (.inl 48)), some (.inl ((i : Int))), none, none] [] B) (a := 0) (n := ixn x) ?_ (fun i _ hi ih => ?_) (Nat.zero_le _) A (fr_mo (fr_rf A) (by decide)) (fun j hj => by omega)
  · intro B f b
    refine w_X5_learnEarlier_2 ?_
    rw [f.1 5 (by decide), h4.1]
    refine ⟨fun _ => ⟨inR_b (by omega) (by omega), ?_⟩, fun z => by omega⟩
    refine upn (P := fun b => b ≤ ixn x → ∀ B, fr [49, 52, 53, 54] A B → Ear x b B → (∀ p, b ≤ p → p < ixn x → ∃ e : Nat, B.1 49 p = (e : Int) ∧ Mt x p (fun q => q < p) e) → Rn d mX5_learnEarlier (fun v A' => v = none ∧ P A') 62 [some (.inr (.inl 48)), some (.inl ((b : Int) - 1)), none, none] [] B) (a := 0) (b := ixn x) ?_ (fun p _ hp ih => ?_) (Nat.zero_le _) (Nat.le_refl _) B f (fun r hr hs => ?_) (fun p a b => by omega)
    · intro _ B f _ b
      refine w_X5_learnEarlier_62 ⟨fun _ => ⟨rfl, hP B f ?_⟩, fun z => by omega⟩
      have ex : ∀ p, ∃ e : Nat, p < ixn x → B.1 49 p = (e : Int) ∧ Mt x p (fun q => q < p) e := fun p => by
        by_cases hp : p < ixn x
        · obtain ⟨e, h⟩ := b p (Nat.zero_le _) hp
          exact ⟨e, fun _ => h⟩
        · exact ⟨0, fun z => absurd z hp⟩
      obtain ⟨er, h⟩ := Classical.axiomOfChoice ex
      exact ⟨er, fun p hp => h p hp⟩
    · intro _ B f hE b
      have h4b : XI x B := XI_k h4 f (by decide)
      have rp := h2.2 p hp
      obtain ⟨hU, hL, hJ⟩ := hE _ rp.1 (by rw [rp.2]; omega)
      have ug := up_ge hU
      have jb := jo_bd h1 h2 h3 ug.1 rp.1 hJ
      obtain ⟨bl, l0, l1, l2, l3, l4⟩ := hL
      obtain ⟨ju, ej⟩ : ∃ ju : Nat, B.1 54 (ixr x p) = (ju : Int) := ⟨(B.1 54 (ixr x p)).toNat, (by omega)⟩
      rw [show ((p + 1 : Nat) : Int) - 1 = (p : Int) by omega]
      -- after both links
      have last : ∀ C (e : Nat), fr [49, 52, 53, 54] A C → C.1 49 = uz (B.1 49) p (e : Int) → Mt x p (fun q => q < p) e → Ear x p C → Rn d mX5_learnEarlier (fun v A' => v = none ∧ P A') 191 [some (.inr (.inl 48)), some (.inl ((p : Int))), some (.inl ((ixr x p : Int))), none] [] C := fun C e fC c49 hm hC => by
        refine w_X5_learnEarlier_191 ⟨inR_b (by omega) (by omega), ?_⟩
        rw [show (p : Int) + -1 = (p : Int) - 1 by omega]
        refine ih (by omega) C fC hC (fun q q1 q2 => ?_)
        rw [c49]
        by_cases y : q = p
        · rw [y, uz_at]; exact ⟨e, rfl, hm⟩
        · rw [uz_ne _ _ y]; exact b q (by omega) q2
      have mid : ∀ C, fr [49, 52, 53, 54] A C → C.1 49 = uz (B.1 49) p (ju : Int) → C.1 52 = B.1 52 → C.1 54 = B.1 54 → (∀ r, r < ixn x → C.1 53 r = if B.1 52 (ixr x p) = (r : Int) then (bl : Int) else B.1 53 r) → Rn d mX5_learnEarlier (fun v A' => v = none ∧ P A') 114 [some (.inr (.inl 48)), some (.inl ((p : Int))), some (.inl ((ixr x p : Int))), none] [] C := fun C fC c49 c52 c54 c53 => by
        have c53p : C.1 53 (ixr x p) = (bl : Int) := by
          rw [c53 _ rp.1, if_neg (by omega)]; exact l0
        refine w_X5_learnEarlier_114 ?_
        rw [tn, c53p, fC.1 5 (by decide), h4.1]
        refine ⟨⟨by omega, by omega⟩, fun z => ?_, fun z => ?_⟩
        · have hm := ear_mt h2 h3 (jb := 0) hp hU (by rw [← ej]; exact hJ) l1 l2 l3 l4 fun z => by omega (fun _ => rfl)
          rw [if_neg (Nat.not_lt_zero _)] at hm
          refine last C ju fC c49 hm (ear_out h2 hp hE l0 ej c53 (fun r hr => ?_) (fun r hr => ?_))
          · rw [c52, if_neg (by omega)]
          · rw [c54, if_neg (by omega)]
        · have hbl : bl < ixn x := (by omega)
          obtain ⟨bU, bL, bJ⟩ := hE bl hbl (l3 hbl)
          have upb : B.1 52 bl = (ixr x p : Int) := by
            rcases bU with ⟨u1, u2⟩ | ⟨k, k1, k2, k3, k4⟩
            · exact absurd (by rw [rp.2]; omega) (u2 (ixr x p) l1)
            · rcases Nat.lt_trichotomy k (ixr x p) with y | y | y
              · exact absurd (by rw [rp.2]; omega) (k4 (ixr x p) y l1)
              · rw [k2, y]
              · exact absurd k3 (l4 k y k1)
          have jbb := jo_bd h1 h2 h3 (by rw [upb]; omega) hbl bJ
          obtain ⟨jb', ejb⟩ : ∃ j : Nat, B.1 54 bl = (j : Int) := ⟨(B.1 54 bl).toNat, (by omega)⟩
          rw [upb, ejb] at bJ
          have hm := ear_mt h2 h3 (jb := jb') hp hU (by rw [← ej]; exact hJ) l1 l2 l3 l4 (fun _ => bJ) (fun w => absurd hbl w)
          rw [tn p, tn bl, c54, ej, ejb, c52, c49]
          refine ⟨⟨by omega, by omega⟩, ⟨by omega, by omega⟩, ⟨by omega, by omega⟩, ⟨by omega, by omega⟩, ⟨by omega, by omega⟩, ⟨by omega, by omega⟩, ⟨by omega, by omega⟩, ⟨by omega, by omega⟩, ⟨by omega, by omega⟩, ?_⟩
          refine last _ (if ju < jb' then jb' else ju) (fr_pI (fr_pI (fr_pI fC (by decide)) (by decide)) (by decide)) ?_ hm (ear_out h2 hp hE l0 ej ?_ (fun r hr => ?_) (fun r hr => ?_))
          · show uz (uz (B.1 49) p (ju : Int)) p _ = _
            funext j
            by_cases y : j = p
            · rw [y, uz_at, uz_at]
              split <;> split <;> omega
            · rw [uz_ne _ _ y, uz_ne _ _ y, uz_ne _ _ y]
          · exact c53
          · show uz (B.1 52) bl _ r = _
            by_cases y : r = bl
            · rw [if_pos y, y, uz_at]
            · rw [if_neg y, uz_ne _ _ y]
          · show uz (B.1 54) bl _ r = _
            by_cases y : r = bl
            · rw [if_pos y, y, uz_at, ejb]
            · rw [if_neg y, uz_ne _ _ y]
      refine w_X5_learnEarlier_62 ?_
      rw [tn p, (h4b.2.2.1 p hp).2.2, tn (ixr x p), ej]
      refine ⟨fun z => by omega, fun _ => ⟨⟨by omega, by omega⟩, ⟨by omega, by omega⟩, ⟨by omega, by omega⟩, ⟨by omega, by omega⟩, fun z => mid _ (fr_pI f (by decide)) rfl rfl rfl (fun r hr => ?_), fun z => ?_⟩⟩
      · rw [if_neg (by omega)]; rfl
      · obtain ⟨u, eu⟩ : ∃ u : Nat, B.1 52 (ixr x p) = (u : Int) := ⟨(B.1 52 (ixr x p)).toNat, (by omega)⟩
        rw [eu, tn, l0]
        refine ⟨⟨by omega, by omega⟩, ⟨by omega, by omega⟩, ⟨by omega, by omega⟩, mid _ (fr_pI (fr_pI f (by decide)) (by decide)) rfl rfl rfl (fun r hr => ?_)⟩
        show uz (B.1 53) u _ r = _
        rw [eu]
        by_cases y : r = u
        · rw [y, uz_at, if_pos rfl]
        · rw [uz_ne _ _ y, if_neg (by omega)]
    · obtain ⟨b1, b2, b3⟩ := b r hr
      rw [b1, b2, b3]
      refine ⟨?_, ⟨r + 1, (by omega), (by omega), (by omega), fun w => (h2.1 _ w).1, fun k' w1 w2 => by omega⟩, ixc x r, rfl, fun k k1 k2 => ?_, r, (by omega), Nat.le_refl _, rfl⟩
      · by_cases y : r = 0
        · exact Or.inl ⟨(by omega), fun k hk => by omega⟩
        · exact Or.inr ⟨r - 1, (by omega), (by omega), (h2.1 _ (by omega)).1, fun k' w1 w2 => by omega⟩
      · rw [show k = r by omega]; exact Nat.le_refl _
  · intro B f b
    have h4b : XI x B := XI_k h4 f (by decide)
    refine w_X5_learnEarlier_2 ?_
    rw [h4b.1, tn i, (h4b.2.2.2.2 i hi).2.1]
    rw [show ((i + 1 : Nat) : Int) = (i : Int) + 1 by omega] at ih
    refine ⟨fun z => by omega, fun _ => ⟨inR_b (by omega) (by omega), ⟨by omega, by omega⟩, inR_b (by omega) (by omega), ⟨by omega, by omega⟩, ⟨by omega, by omega⟩, ⟨by omega, by omega⟩, inR_b (by omega) (by omega), ih _ (fr_pI (fr_pI (fr_pI f (by decide)) (by decide)) (by decide)) (fun j hj => ?_)⟩⟩
    show uz (B.1 52) i _ j = _ ∧ uz (B.1 53) i _ j = _ ∧ uz (B.1 54) i _ j = _
    by_cases y : j = i
    · rw [y, uz_at, uz_at, uz_at]; exact ⟨rfl, rfl, rfl⟩
    · rw [uz_ne _ _ y, uz_ne _ _ y, uz_ne _ _ y]; exact b j (by omega)
