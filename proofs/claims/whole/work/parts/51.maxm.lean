/-- no byte in front differs -/
def One (x : Ix) (i e : Nat) : Prop := ¬ bef x i = -2 ∧ ∀ m, i < m → m < e → bef x m = bef x i
theorem one_chn {x : Ix} {i : Nat} : ∀ e, i + 1 < e → (One x i e ↔ ¬ chn x (i + 1) < chn x e) := by
  intro e
  induction e with
  | zero => intro h; omega
  | succ e ih =>
    intro h
    rw [chn_s x e]
    have mo : chn x (i + 1) ≤ chn x e := ct_mono _ (by omega)
    by_cases c : i + 1 = e
    · subst c
      constructor
      · rintro ⟨o1, o2⟩
        have := o2 (i + 1) (by omega) (by omega)
        rw [if_neg (fun y => by rcases y with y | y | y; omega; exact o1 (by rw [← this]; exact y); exact y this)]
        omega
      · intro y
        by_cases z : i + 1 = 0 ∨ bef x (i + 1) = -2 ∨ bef x (i + 1) ≠ bef x (i + 1 - 1)
        · rw [if_pos z] at y; omega
        · have z2 : bef x (i + 1) = bef x i := Decidable.of_not_not (fun w => z (Or.inr (Or.inr w)))
          refine ⟨fun w => z (Or.inr (Or.inl (by rw [z2]; exact w))), fun m m1 m2 => ?_⟩
          obtain rfl : m = i + 1 := (by omega)
          exact z2
    · have ih' := ih (by omega)
      constructor
      · rintro ⟨o1, o2⟩
        have a := ih'.1 ⟨o1, fun m m1 m2 => o2 m m1 (by omega)⟩
        have e1 := o2 e (by omega) (by omega)
        have e2 := o2 (e - 1) (by omega) (by omega)
        rw [if_neg (fun y => by rcases y with y | y | y; omega; exact o1 (by rw [← e1]; exact y); exact y (by rw [e1, e2]))]
        omega
      · intro y
        by_cases z : e = 0 ∨ bef x e = -2 ∨ bef x e ≠ bef x (e - 1)
        · rw [if_pos z] at y; omega
        · rw [if_neg z] at y
          obtain ⟨o1, o2⟩ := ih'.2 y
          refine ⟨o1, fun m m1 m2 => ?_⟩
          by_cases w : m = e
          · have z2 : bef x e = bef x (e - 1) := Decidable.of_not_not (fun w => z (Or.inr (Or.inr w)))
            rw [w, z2]
            exact o2 (e - 1) (by omega) (by omega)
          · exact o2 m m1 (by omega)
theorem sM_one {d : Nat} {A : iz_A} {x : Ix} {i e : Nat} {P : Int → iz_A → Prop} (h1 : TxOk x) (h2 : PmOk x) (h5 : MI x A) (hi : i + 1 < e) (he : e ≤ ixn x) (hP : P (if chn x (i + 1) < chn x e then 0 else 1) A) : Ci (d + 2) 236 [.inr (.inl 55), .inl (i : Int), .inl (e : Int)] A P := by
  have nb := h1.2.2.1
  have oc := one_chn (x := x) (i := i) e hi
  have no : ¬ One x i e → P 0 A := fun z => by
    rw [if_pos (Decidable.of_not_not (fun y => z (oc.2 y)))] at hP; exact hP
  have stop : ∀ k : Nat, i < k → k ≤ e → ¬ One x i e → Rn (d + 1) mX11_isOneBefore (fun v A' => ∃ y, v = some (.inl y) ∧ P y A') 24 [some (.inr (.inl 55)), some (.inl ((i : Int))), some (.inl ((e : Int))), some (.inl (bef x i)), some (.inl 0), some (.inl ((k : Int)))] [] A := fun k k1 k2 z =>
    w_X11_isOneBefore_24 ⟨fun _ => ⟨Or.inl rfl, _, rfl, no z⟩, fun _ => ⟨fun _ => ⟨Or.inl rfl, _, rfl, no z⟩, fun z => absurd rfl z⟩⟩
  refine e_X11_isOneBefore (sM_before h1 h2 h5 (i := i) (by omega) ⟨fun z => ⟨inR_b (by omega) (by omega), ?_⟩, fun z => ⟨inR_b (by omega) (by omega), ?_⟩⟩)
  · rw [show (i : Int) + 1 = ((i + 1 : Nat) : Int) by omega]
    exact stop (i + 1) (by omega) (by omega) (fun y => y.1 z)
  · rw [show (i : Int) + 1 = ((i + 1 : Nat) : Int) by omega]
    refine dwl (P := fun k => (∀ m, i < m → m < k → bef x m = bef x i) → Rn (d + 1) mX11_isOneBefore (fun v A' => ∃ y, v = some (.inl y) ∧ P y A') 24 [some (.inr (.inl 55)), some (.inl ((i : Int))), some (.inl ((e : Int))), some (.inl (bef x i)), some (.inl 1), some (.inl ((k : Int)))] [] A) (a := i + 1) (n := e) ?_ (fun k k1 k2 ih => ?_) (by omega) (fun m m1 m2 => by omega)
    · intro hm
      refine w_X11_isOneBefore_24 ⟨fun _ => ⟨Or.inr rfl, _, rfl, ?_⟩, fun y => absurd (Int.le_refl _) y⟩
      rw [if_neg (oc.1 ⟨z, hm⟩)] at hP
      exact hP
    · intro hm
      refine w_X11_isOneBefore_24 ⟨fun z => by omega, fun _ => ⟨fun z => absurd z n10, fun _ => sM_before h1 h2 h5 (i := k) (by omega) ⟨fun y => ⟨inR_b (by omega) (by omega), ?_⟩, fun y => ⟨inR_b (by omega) (by omega), ?_⟩⟩⟩⟩
      · rw [show (k : Int) + 1 = ((k + 1 : Nat) : Int) by omega]
        exact stop (k + 1) (by omega) (by omega) (fun o => y (o.2 k (by omega) k2))
      · rw [show ((k + 1 : Nat) : Int) = (k : Int) + 1 by omega] at ih
        refine ih (fun m m1 m2 => ?_)
        by_cases w : m = k
        · rw [w]; exact y
        · exact hm m m1 (by omega)
/-- a label is no longer than what stands at the row -/
theorem jn_lft {x : Ix} (h1 : TxOk x) (h2 : PmOk x) (h3 : SoOk x) {i t : Nat} (hi : i < ixn x) (ht : t < tt x i) : ixc x (jn x i t) ≤ lft x (ixs x i) := by
  have : ∀ s, s ≤ t → ixc x (jn x i s) ≤ ixc x (i + 1) := by
    intro s
    induction s with
    | zero => exact fun _ => Nat.le_refl _
    | succ s ihs =>
      intro hs2
      have a := ihs (by omega)
      obtain ⟨q1, q2⟩ := (tt_ok x i).1 s (by omega)
      obtain ⟨q3, q4⟩ := (tt_ok x i).1 (s + 1) (by omega)
      rw [jn_s] at q3
      have := (lsr_ok q1).2.2.2 q3
      rw [jn_s]
      omega
  have a := this t (Nat.le_refl _)
  have b := ((tt_ok x i).1 0 (by omega)).1
  have : ixc x (i + 1) ≤ lft x (ixs x i) := c_le' h1 h2 h3 b
  omega
theorem sM_maximal {d : Nat} {A : iz_A} {x : Ix} {v : Int} {P : Int → iz_A → Prop} (h1 : TxOk x) (h2 : PmOk x) (h3 : SoOk x) (h5 : MI x A) (hv1 : -1 ≤ v) (hP0 : v = -1 → ∀ C, fr [96, 97] A C → P (sm (mxm x) (ixn x) : Int) C) (hPn : (sm (mxm x) (ixn x) : Int) ≤ v → ∀ C, fr [96, 97] A C → P (-1) C) (hP : ∀ i t, i < ixn x → t < tt x i → chn x (i + 1) < chn x (jn x i (t + 1)) → v = ((sm (mxm x) i + (mxm x i - 1 - lbc x i t) : Nat) : Int) → ∀ C lo hi, fr [55, 69, 96, 97] A C → ff [22, 23, 24, 26] (A.1 55) (C.1 55) → Rg x (ixs x i) (ixc x (jn x i t)) lo hi → HdM C 0 (ixc x (jn x i t)) lo hi → (∀ j, j < ixc x (jn x i t) → C.1 69 j = ixt x (ixs x i + j)) → P (ixc x (jn x i t) : Int) C) : Ci (d + 3) 237 [.inr (.inl 55), .inl v] A P := by
  have nb := h1.2.2.1
  refine e_X11_maximal ⟨fun z => absurd z (by rw [h5.1]; decide), fun _ => ⟨fun _ => ?_, fun z => by omega⟩⟩
  refine dwl (P := fun i => (v = -1 ∨ (sm (mxm x) i : Int) ≤ v) → ∀ B, fr [96, 97] A B → Rn (d + 2) mX11_maximal (fun v A' => ∃ y, v = some (.inl y) ∧ P y A') 18 [some (.inr (.inl 55)), some (.inl v), some (.inl ((sm (mxm x) i : Int))), some (.inl ((i : Int))), none, none, none, none] [] B) (a := 0) (n := ixn x) ?_ (fun i _ hi ih => ?_) (Nat.zero_le _) (by
    have : sm (mxm x) 0 = 0 := rfl
    rw [this]; omega) A (fr_mo (fr_rf A) (by decide))
  · intro hs B f
    refine w_X11_maximal_18 ?_
    rw [f.1 55 (by decide), h5.2.1]
    exact ⟨fun _ => ⟨fun z => ⟨_, rfl, hPn (by omega) B f⟩, fun z => ⟨_, rfl, hP0 z B f⟩⟩, fun z => by omega⟩
  · intro hs B0 f0
    have b1 := mx_bd h1 (n := i) (by omega)
    have b2 := mxm_le x hi
    have tl := tt_le x hi
    have cb : ∀ j, j < ixn x → ixc x j < 3000 := fun j hj => by
      have := c_le h1 h2 h3 hj
      have := lft_bd h1 (h2.1 j hj).1
      omega
    rw [show ((i + 1 : Nat) : Int) = (i : Int) + 1 by omega, sm_s, show ((sm (mxm x) i + mxm x i : Nat) : Int) = (sm (mxm x) i : Int) + (mxm x i : Int) by omega] at ih
    refine w_X11_maximal_18 ?_
    rw [f0.1 55 (by decide), h5.2.1]
    refine ⟨fun z => by omega, fun _ => ⟨inR_b (by omega) (by omega), ?_⟩⟩
    -- the labels from the last one on
    have back : ∀ B, fr [96, 97] A B → ∀ (v4 v5 v6 : Int), (∀ s, s < tt x i → B.1 96 s = (ixc x (jn x i s) : Int) ∧ B.1 97 s = (jn x i (s + 1) : Int)) → Rn (d + 2) mX11_maximal (fun v A' => ∃ y, v = some (.inl y) ∧ P y A') 141 [some (.inr (.inl 55)), some (.inl v), some (.inl ((sm (mxm x) i : Int))), some (.inl ((i : Int))), some (.inl v4), some (.inl v5), some (.inl v6), some (.inl ((tt x i : Int) - 1))] [] B := by
      intro B f v4 v5 v6 hb
      have h5' : MI x B := MI_k (m := []) h5 f (by decide) (ff_eq (f.1 55 (by decide))) (by decide)
      have := upn (P := fun t => t ≤ tt x i → (v = -1 ∨ ((sm (mxm x) i + (mxm x i - lbc x i t) : Nat) : Int) ≤ v) → Rn (d + 2) mX11_maximal (fun v A' => ∃ y, v = some (.inl y) ∧ P y A') 141 [some (.inr (.inl 55)), some (.inl v), some (.inl (((sm (mxm x) i + (mxm x i - lbc x i t) : Nat) : Int))), some (.inl ((i : Int))), some (.inl v4), some (.inl v5), some (.inl v6), some (.inl ((t : Int) - 1))] [] B) (a := 0) (b := tt x i) ?_ (fun t _ ht iht => ?_) (Nat.zero_le _) (Nat.le_refl _)
      · rw [show mxm x i - lbc x i (tt x i) = 0 from Nat.sub_self _, Nat.add_zero] at this
        exact this hs
      · intro _ hs'
        refine w_X11_maximal_141 ⟨fun _ => ⟨inR_b (by omega) (by omega), ?_⟩, fun z => by omega⟩
        have e0 : lbc x i 0 = 0 := rfl
        rw [e0] at hs' ⊢
        rw [show ((sm (mxm x) i + (mxm x i - 0) : Nat) : Int) = (sm (mxm x) i : Int) + (mxm x i : Int) by omega]
        exact ih (by omega) B f
      · intro _ hs'
        obtain ⟨k1, k2⟩ := (tt_ok x i).1 t ht
        have lo := lsr_ok k1
        have ge := jn_ge x (i := i) t (by omega)
        have mo1 : lbc x i (t + 1) ≤ mxm x i := lbc_mono x i ht
        have cbt := cb _ k1
        have ls := lbc_s x i t
        refine w_X11_maximal_141 ⟨fun z => by omega, fun _ => ?_⟩
        rw [show (((t + 1 : Nat) : Int) - 1).toNat = t by omega, (hb t ht).2, show ((t + 1 : Nat) : Int) - 1 = (t : Int) by omega]
        refine ⟨⟨by omega, by omega⟩, sM_one h1 h2 h5' (by rw [jn_s]; omega) (by rw [jn_s]; omega) ?_⟩
        rw [(hb t ht).1, tn i]
        by_cases c : chn x (i + 1) < chn x (jn x i (t + 1))
        · rw [if_pos c] at ls ⊢
          refine ⟨fun z => absurd rfl z, fun _ => ⟨fun z => ⟨inR_b (by omega) (by omega), inR_b (by omega) (by omega), ?_⟩, fun z => ⟨⟨by omega, by omega⟩, ⟨by omega, by omega⟩, ?_⟩⟩⟩
          · rw [show ((sm (mxm x) i + (mxm x i - lbc x i (t + 1)) : Nat) : Int) + 1 = ((sm (mxm x) i + (mxm x i - lbc x i t) : Nat) : Int) by omega]
            exact iht (by omega) (by omega)
          · rw [(h5'.2.2.2.2.2.1 i hi).1]
            obtain ⟨lo', hh, g⟩ := rg_ex h2 (ixs x i) (ixc x (jn x i t)) (h2.1 i hi).1
            refine sM_become h1 h2 h5' g ?_ fun C fC eC hC pC => ⟨_, rfl, ?_⟩
            · exact jn_lft h1 h2 h3 hi ht
            · rw [hC.1]
              refine hP i t hi ht c (by omega) C lo' hh (fr_mo (fr_tr f fC) (by decide)) (by rw [← f.1 55 (by decide)]; exact eC) g hC pC
        · rw [if_neg c] at ls ⊢
          refine ⟨fun _ => ⟨inR_b (by omega) (by omega), ?_⟩, fun z => absurd z n10⟩
          rw [show lbc x i (t + 1) = lbc x i t by omega] at hs' ⊢
          exact iht (by omega) hs'
    -- the labels are collected
    have end1 : ∀ (t : Nat) (B : iz_A) (v5 : Int), t = tt x i → fr [96, 97] A B → (∀ s, s < t → B.1 96 s = (ixc x (jn x i s) : Int)) → (∀ s, s + 1 < t → B.1 97 s = (jn x i (s + 1) : Int)) → ((t : Int) ≤ 0 → inR ((t : Int) - 1) ∧ Rn (d + 2) mX11_maximal (fun v A' => ∃ y, v = some (.inl y) ∧ P y A') 141 [some (.inr (.inl 55)), some (.inl v), some (.inl ((sm (mxm x) i : Int))), some (.inl ((i : Int))), some (.inl ((t : Int))), some (.inl v5), some (.inl ((jn x i t : Int))), some (.inl ((t : Int) - 1))] [] B) ∧ (¬ (t : Int) ≤ 0 → inR ((t : Int) - 1) ∧ ((0 : Int) ≤ (t : Int) - 1 ∧ (t : Int) - 1 < (3001 : Int)) ∧ inR ((t : Int) - 1) ∧ Rn (d + 2) mX11_maximal (fun v A' => ∃ y, v = some (.inl y) ∧ P y A') 141 [some (.inr (.inl 55)), some (.inl v), some (.inl ((sm (mxm x) i : Int))), some (.inl ((i : Int))), some (.inl ((t : Int))), some (.inl v5), some (.inl ((jn x i t : Int))), some (.inl ((t : Int) - 1))] [] (iz_pI B 97 (uz (B.1 97) ((t : Int) - 1).toNat (jn x i t : Int)))) := by
      intro t B v5 et f l1 l2
      subst et
      refine ⟨fun z => ⟨inR_b (by omega) (by omega), back B f _ _ _ (fun s hs' => by omega)⟩, fun z => ⟨inR_b (by omega) (by omega), ⟨by omega, by omega⟩, inR_b (by omega) (by omega), back _ (fr_pI f (by decide)) _ _ _ (fun s hs' => ⟨l1 s hs', ?_⟩)⟩⟩
      show uz (B.1 97) _ _ s = _
      rw [show ((tt x i : Int) - 1).toNat = tt x i - 1 by omega]
      by_cases w : s = tt x i - 1
      · rw [w, uz_at, show tt x i - 1 + 1 = tt x i by omega]
      · rw [uz_ne _ _ w]; exact l2 s (by omega)
    have coll : ∀ m j (t : Nat) B, j + m = ixn x → fr [96, 97] A B → t ≤ tt x i → (t = 0 → j = i + 1) → (0 < t → jn x i (t - 1) < j ∧ j ≤ jn x i t) → (∀ s, s < t → B.1 96 s = (ixc x (jn x i s) : Int)) → (∀ s, s + 1 < t → B.1 97 s = (jn x i (s + 1) : Int)) → Rn (d + 2) mX11_maximal (fun v A' => ∃ y, v = some (.inl y) ∧ P y A') 39 [some (.inr (.inl 55)), some (.inl v), some (.inl ((sm (mxm x) i : Int))), some (.inl ((i : Int))), some (.inl ((t : Int))), some (.inl (((if t = 0 then 3000 else ixc x (jn x i (t - 1)) : Nat) : Int))), some (.inl ((j : Int))), none] [] B := by
      intro m
      induction m with
      | zero =>
        intro j t B hj f t1 t2 t3 l1 l2
        have ej : j = jn x i t := by
          by_cases y : t = 0
          · rw [t2 y, y]; rfl
          · have := t3 (by omega)
            have := jn_le x hi t t1
            omega
        have et : t = tt x i := by
          by_cases y : t < tt x i
          · have := ((tt_ok x i).1 t y).1
            omega
          · omega
        refine w_X11_maximal_39 ?_
        rw [f.1 55 (by decide), h5.2.1, ej]
        rw [ej] at hj
        exact ⟨fun _ => end1 t B _ et f l1 l2, fun z => by omega⟩
      | succ m ihm =>
        intro j t B hj f t1 t2 t3 l1 l2
        have h5' : MI x B := MI_k (m := []) h5 f (by decide) (ff_eq (f.1 55 (by decide))) (by decide)
        have hjn : j < ixn x := (by omega)
        have cbj := cb j hjn
        -- a row that shares less than the label is the next one
        have nextJ : (t = 0 ∨ ixc x j < ixc x (jn x i (t - 1))) → j = jn x i t := fun y => by
          by_cases y0 : t = 0
          · rw [t2 y0, y0]; rfl
          · have a := t3 (by omega)
            have hk := ((tt_ok x i).1 (t - 1) (by omega)).1
            have b := lsr_ok hk
            have e : jn x i t = lsr x (jn x i (t - 1)) := by
              rw [← jn_s, show t - 1 + 1 = t by omega]
            by_cases w : j = jn x i t
            · exact w
            · have := b.2.2.1 j a.1 (by omega)
              omega
        have notJ : t ≠ 0 → ixc x (jn x i (t - 1)) ≤ ixc x j → j < jn x i t := fun y0 y => by
          have a := t3 (by omega)
          have hk := ((tt_ok x i).1 (t - 1) (by omega)).1
          have b := lsr_ok hk
          have e : jn x i t = lsr x (jn x i (t - 1)) := by
            rw [← jn_s, show t - 1 + 1 = t by omega]
          by_cases w : j = jn x i t
          · have := b.2.2.2 (by omega)
            rw [← e, ← w] at this
            omega
          · omega
        have nx := fun t' B' => ihm (j + 1) t' B' (by omega)
        rw [show ((j + 1 : Nat) : Int) = (j : Int) + 1 by omega] at nx
        refine w_X11_maximal_39 ?_
        rw [h5'.2.1, tn, tn, (h5'.2.2.2.2.2.1 i hi).2, (h5'.2.2.2.2.2.1 j hjn).2]
        refine ⟨fun z => by omega, fun _ => ⟨⟨by omega, by omega⟩, ⟨by omega, by omega⟩, fun z => ?_, fun z => ⟨⟨by omega, by omega⟩, fun z2 => ⟨inR_b (by omega) (by omega), ?_⟩, fun z2 => ?_⟩⟩⟩
        · have ej : j = jn x i t := by
            by_cases y : t = 0
            · exact nextJ (Or.inl y)
            · have := ((tt_ok x i).1 (t - 1) (by omega)).2
              exact nextJ (Or.inr (by omega))
          have et : t = tt x i := by
            by_cases y : t < tt x i
            · have := ((tt_ok x i).1 t y).2
              rw [← ej] at this
              omega
            · omega
          rw [ej]
          exact end1 t B _ et f l1 l2
        · have y0 : t ≠ 0 := fun y => by
            rw [if_pos y] at z2
            omega
          rw [if_neg y0] at z2
          have a := t3 (by omega)
          exact nx t B f t1 (fun y => absurd y y0) (fun _ => ⟨(by omega), notJ y0 (by omega)⟩) l1 l2
        · have ej : j = jn x i t := by
            by_cases y : t = 0
            · exact nextJ (Or.inl y)
            · rw [if_neg y] at z2
              exact nextJ (Or.inr (by omega))
          have tlt : t < tt x i := by
            by_cases y : t < tt x i
            · exact y
            · have : t = tt x i := (by omega)
              exact absurd (by rw [← this, ← ej]; exact ⟨hjn, (by omega)⟩) (tt_ok x i).2
          have go : ∀ B', fr [96, 97] A B' → (∀ s, s < t + 1 → B'.1 96 s = (ixc x (jn x i s) : Int)) → (∀ s, s + 1 < t + 1 → B'.1 97 s = (jn x i (s + 1) : Int)) → Rn (d + 2) mX11_maximal (fun v A' => ∃ y, v = some (.inl y) ∧ P y A') 39 [some (.inr (.inl 55)), some (.inl v), some (.inl ((sm (mxm x) i : Int))), some (.inl ((i : Int))), some (.inl ((t : Int) + 1)), some (.inl ((ixc x j : Int))), some (.inl ((j : Int) + 1)), none] [] B' := fun B' f' l1' l2' => by
            have := nx (t + 1) B' f' (by omega) fun z => by omega (fun _ => ⟨by rw [Nat.add_sub_cancel, ← ej]; omega, by
              have := (lsr_ok hjn).1
              rw [jn_s, ← ej]; omega⟩) l1' l2'
            rw [if_neg (Nat.succ_ne_zero t), Nat.add_sub_cancel, ← ej, show ((t + 1 : Nat) : Int) = (t : Int) + 1 by omega] at this
            exact this
          refine ⟨fun z3 => ⟨⟨by omega, by omega⟩, ⟨by omega, by omega⟩, inR_b (by omega) (by omega), inR_b (by omega) (by omega), go _ (fr_pI f (by decide)) (fun s hs' => ?_) (fun s hs' => by omega)⟩, fun z3 => ⟨inR_b (by omega) (by omega), ⟨by omega, by omega⟩, ⟨by omega, by omega⟩, ⟨by omega, by omega⟩, inR_b (by omega) (by omega), inR_b (by omega) (by omega), go _ (fr_pI (fr_pI f (by decide)) (by decide)) (fun s hs' => ?_) (fun s hs' => ?_)⟩⟩
          · show uz (B.1 96) ((t : Int)).toNat _ s = _
            rw [tn]
            by_cases w : s = t
            · rw [w, uz_at, ← ej]
            · rw [uz_ne _ _ w]; exact l1 s (by omega)
          · show uz (B.1 96) ((t : Int)).toNat _ s = _
            rw [tn]
            by_cases w : s = t
            · rw [w, uz_at, ← ej]
            · rw [uz_ne _ _ w]; exact l1 s (by omega)
          · show uz (B.1 97) ((t : Int) - 1).toNat _ s = _
            rw [show ((t : Int) - 1).toNat = t - 1 by omega]
            by_cases w : s = t - 1
            · rw [w, uz_at, show t - 1 + 1 = t by omega, ← ej]
            · rw [uz_ne _ _ w]; exact l2 s (by omega)
    have := coll (ixn x - (i + 1)) (i + 1) 0 B0 (by omega) f0 (Nat.zero_le _) (fun _ => rfl) fun z => by omega (fun s hs' => by omega) (fun s hs' => by omega)
    rw [show ((i + 1 : Nat) : Int) = (i : Int) + 1 by omega] at this
    exact this
theorem b_maximal {A : iz_A} {I : iz_A → Prop} {v : Int} {x : Ix} (hv : inR v) (hx : NotB A ∨ (XM x A ∧ HR x A ∧ LsR x A ∧ CH x A)) (hI0 : I A) (hI1 : XM x A → ∀ C, fr [96, 97] A C → I C) (hI : XM x A → ∀ C, fr [17, 55, 69, 96, 97] A C → ff [22, 23, 24, 26] (A.1 55) (C.1 55) → HR x C → I C) : Bo 147 237 [.inl v] [.inl v] A I := by
  by_cases h0 : -1 ≤ v
  · rcases hx with hn | ⟨hx, ⟨p0, len0, lo0, hi0, dn, g0, hl0, hd0, hX, hM, hp0, hq0⟩, hls, hch⟩
    · exact bo_bad (d := 1) (d' := 1) (by decide) (by decide) hI0 (fun P hP => e_X10_maximal (d := 0) ⟨fun _ => ⟨_, rfl, hP⟩, fun z => absurd (by rw [hn.1]; decide) z⟩) (fun P hP => e_X11_maximal (d := 0) ⟨fun _ => ⟨_, rfl, hP⟩, fun z => absurd hn.2.2.1 z⟩)
    · obtain ⟨h1, h2, h3, h4, h5⟩ := id hx
      have np := n_pos h1
      -- one place: k tells row and label
      have un : ∀ i t i' t', i < ixn x → t < tt x i → chn x (i + 1) < chn x (jn x i (t + 1)) → i' < ixn x → t' < tt x i' → chn x (i' + 1) < chn x (jn x i' (t' + 1)) → v = ((sm (mxm x) i + (mxm x i - 1 - lbc x i t) : Nat) : Int) → v = ((sm (mxm x) i' + (mxm x i' - 1 - lbc x i' t') : Nat) : Int) → i = i' ∧ t = t' := by
        intro i t i' t' a1 a2 a3 b1 b2 b3 e e'
        have ls := lbc_s x i t
        have ls' := lbc_s x i' t'
        rw [if_pos a3] at ls
        rw [if_pos b3] at ls'
        have mo : lbc x i (t + 1) ≤ mxm x i := lbc_mono x i a2
        have mo' : lbc x i' (t' + 1) ≤ mxm x i' := lbc_mono x i' b2
        have ei : i = i' := by
          rcases Nat.lt_trichotomy i i' with y | y | y
          · have := sm_mono (mxm x) (show i + 1 ≤ i' from y)
            rw [sm_s] at this
            omega
          · exact y
          · have := sm_mono (mxm x) (show i' + 1 ≤ i from y)
            rw [sm_s] at this
            omega
        subst ei
        refine ⟨rfl, ?_⟩
        rcases Nat.lt_trichotomy t t' with y | y | y
        · have := lbc_mono x i (show t + 1 ≤ t' from y)
          omega
        · exact y
        · have := lbc_mono x i (show t' + 1 ≤ t from y)
          omega
      have no : ∀ i t, i < ixn x → t < tt x i → chn x (i + 1) < chn x (jn x i (t + 1)) → v = ((sm (mxm x) i + (mxm x i - 1 - lbc x i t) : Nat) : Int) → 0 ≤ v ∧ v < (sm (mxm x) (ixn x) : Int) := by
        intro i t a1 a2 a3 e
        have ls := lbc_s x i t
        rw [if_pos a3] at ls
        have mo : lbc x i (t + 1) ≤ mxm x i := lbc_mono x i a2
        have := sm_mono (mxm x) (show i + 1 ≤ ixn x from a1)
        rw [sm_s] at this
        omega
      refine Ci_mono (d := 4) (by decide) (e_X10_maximal (d := 3) ⟨fun z => by rw [h4.1] at z; omega, fun _ => ⟨fun z => by omega, fun _ => sX_maximal h1 h2 h4 hls hch hv h0 hX.1 (fun z => ⟨_, rfl, ?_⟩) (fun z => ⟨_, rfl, ?_⟩) (fun i t hi ht hg e B lo hi' fB g hB => ⟨_, rfl, ?_⟩)⟩⟩) (fun _ _ z => z)
      · exact Ci_mono (d := 3) (by decide) (sM_maximal (d := 0) (P := fun x2 A2 => _ = x2 ∧ I A2) h1 h2 h3 h5 h0 (fun _ C fC => ⟨rfl, hI1 hx C fC⟩) (fun z2 => by omega) (fun i t hi ht hg e => by have := no i t hi ht hg e; omega)) (fun _ _ z => z)
      · exact Ci_mono (d := 3) (by decide) (sM_maximal (d := 0) (P := fun x2 A2 => _ = x2 ∧ I A2) h1 h2 h3 h5 h0 (fun z2 => by omega) (fun _ C fC => ⟨rfl, hI1 hx C fC⟩) (fun i t hi ht hg e => by have := no i t hi ht hg e; omega)) (fun _ _ z => z)
      · have h5' : MI x B := MI_k (m := []) h5 fB (by decide) (ff_eq (fB.1 55 (by decide))) (by decide)
        have nv := no i t hi ht hg e
        refine Ci_mono (d := 3) (by decide) (sM_maximal (d := 0) (P := fun x2 A2 => _ = x2 ∧ I A2) h1 h2 h3 h5' h0 (fun z2 => by omega) (fun z2 => by omega) (fun i' t' hi2 ht' hg' e' C lo' hi'' fC eC g' hC pC => ?_)) (fun _ _ z => z)
        obtain ⟨rfl, rfl⟩ := un i t i' t' hi ht hg hi2 ht' hg' e e'
        obtain ⟨rfl, rfl⟩ := rg_un h2 h3 g g' (al_rf _ _ _)
        refine ⟨rfl, hI hx C (fr_mo (fr_tr fB fC) (by decide)) (by rw [← fB.1 55 (by decide)]; exact eC) (hr_become (q := ixs x i) g ?_ (al_rf _ _ _) ?_ hC pC)⟩
        · exact jn_lft h1 h2 h3 hi ht
        · unfold HdX
          rw [fC.1 17 (by decide)]
          exact hB
  · exact bo_bad (d := 1) (d' := 1) (by decide) (by decide) hI0 (fun P hP => e_X10_maximal (d := 0) ⟨fun _ => ⟨_, rfl, hP⟩, fun _ => ⟨fun _ => ⟨_, rfl, hP⟩, fun z => by omega⟩⟩) (fun P hP => e_X11_maximal (d := 0) ⟨fun _ => ⟨_, rfl, hP⟩, fun _ => ⟨fun z => by omega, fun _ => ⟨_, rfl, hP⟩⟩⟩)
