/-! ===== what repeats and pieces learn ===== -/
theorem lsr_un {x : Ix} {i e : Nat} (hi : i < ixn x) (h1 : i < e) (h2 : e ≤ ixn x) (h3 : ∀ k, i < k → k < e → ixc x i ≤ ixc x k) (h4 : e < ixn x → ixc x e < ixc x i) : e = lsr x i := by
  obtain ⟨a1, a2, a3, a4⟩ := lsr_ok hi
  rcases Nat.lt_trichotomy e (lsr x i) with y | y | y
  · have := a3 e h1 y
    have := h4 (by omega)
    omega
  · exact y
  · have := h3 _ a1 y
    have := a4 (by omega)
    omega
theorem sX_rlearn {d : Nat} {A : iz_A} {x : Ix} {P : iz_A → Prop} (h1 : TxOk x) (h4 : XI x A) (hP : ∀ C, fr [45, 46] A C → CH x C → LsR x C → P C) : Cv (d + 1) 80 [.inr (.inl 44)] A P := by
  have nb := h1.2.2.1
  have np := n_pos h1
  refine e_X7_learn ?_
  have main := dwl (P := fun i => ∀ B, fr [45, 46] A B → (∀ j, j < i → B.1 46 j = (chn x (j + 1) : Int)) → Rn d mX7_learn (fun v A' => v = none ∧ P A') 4 [some (.inr (.inl 44)), some (.inl ((chn x i : Int))), some (.inl ((i : Int))), none] [] B) (a := 0) (n := ixn x) ?_ (fun i _ hi ih => ?_) (Nat.zero_le _) A (fr_mo (fr_rf A) (by decide)) (fun j hj => by omega)
  · exact main
  · intro B f b
    refine w_X7_learn_4 ?_
    rw [f.1 5 (by decide), h4.1]
    refine ⟨fun _ => ⟨inR_b (by omega) (by omega), ?_⟩, fun z => by omega⟩
    generalize (chn x (ixn x) : Int) = cv
    refine upn (P := fun i => i ≤ ixn x → ∀ B, fr [45, 46] A B → (∀ j, j < ixn x → B.1 46 j = (chn x (j + 1) : Int)) → (∀ j, i ≤ j → j < ixn x → B.1 45 j = (lsr x j : Int)) → Rn d mX7_learn (fun v A' => v = none ∧ P A') 82 [some (.inr (.inl 44)), some (.inl cv), some (.inl ((i : Int) - 1)), none] [] B) (a := 0) (b := ixn x) ?_ (fun i _ hi ih => ?_) (Nat.zero_le _) (Nat.le_refl _) B f b (fun j a b => by omega)
    · intro _ B f b c
      exact w_X7_learn_82 ⟨fun _ => ⟨rfl, hP B f b (fun j hj => c j (Nat.zero_le _) hj)⟩, fun z => by omega⟩
    · intro _ B f b c
      have h4b : XI x B := XI_k h4 f (by decide)
      refine w_X7_learn_82 ⟨fun z => by omega, fun _ => ⟨inR_b (by omega) (by omega), ?_⟩⟩
      rw [show ((i + 1 : Nat) : Int) - 1 = (i : Int) by omega]
      have inner : ∀ m e, e + m = ixn x → i < e → (∀ k, i < k → k < e → ixc x i ≤ ixc x k) → Rn d mX7_learn (fun v A' => v = none ∧ P A') 90 [some (.inr (.inl 44)), some (.inl cv), some (.inl ((i : Int))), some (.inl ((e : Int)))] [] B := by
        intro m
        induction m using Nat.strongRecOn with
        | _ m ihm =>
          intro e he hie hk
          have fin : (e < ixn x → ixc x e < ixc x i) → ((0 : Int) ≤ (i : Int) ∧ (i : Int) < (3000 : Int)) ∧ inR ((i : Int) + -1) ∧ Rn d mX7_learn (fun v A' => v = none ∧ P A') 82 [some (.inr (.inl 44)), some (.inl cv), some (.inl ((i : Int) + -1)), none] [] (iz_pI B 45 (uz (B.1 45) ((i : Int)).toNat (e : Int))) := fun hlt => by
            have el := lsr_un hi hie (by omega) hk hlt
            refine ⟨⟨by omega, by omega⟩, inR_b (by omega) (by omega), ?_⟩
            rw [show (i : Int) + -1 = (i : Int) - 1 by omega]
            refine ih (by omega) _ (fr_pI f (by decide)) b (fun j j1 j2 => ?_)
            show uz (B.1 45) ((i : Int)).toNat _ j = _
            rw [tn]
            by_cases y : j = i
            · rw [y, uz_at, el]
            · rw [uz_ne _ _ y]; exact c j (by omega) j2
          refine w_X7_learn_90 ?_
          rw [h4b.1]
          refine ⟨fun z => fin fun z => by omega, fun z => ?_⟩
          have hen : e < ixn x := (by omega)
          have lo := lsr_ok hen
          rw [tn e, tn i, (h4b.2.2.2.2 e hen).2.1, (h4b.2.2.2.2 i hi).2.1]
          refine ⟨⟨by omega, by omega⟩, ⟨by omega, by omega⟩, fun y => ?_, fun y => ⟨⟨by omega, by omega⟩, inR_b (by omega) (by omega), ?_⟩⟩
          · have := fin (fun _ => (by omega))
            rw [tn i] at this
            exact this
          · rw [c e (by omega) hen, if_neg (by omega)]
            refine ihm (ixn x - lsr x e) (by omega) (lsr x e) (by omega) (by omega) (fun k k1 k2 => ?_)
            by_cases y1 : k < e
            · exact hk k k1 y1
            · by_cases y2 : k = e
              · rw [y2]; omega
              · have := lo.2.2.1 k (by omega) k2
                omega
      have := inner (ixn x - (i + 1)) (i + 1) (by omega) (by omega) (fun k k1 k2 => by omega)
      rw [show ((i + 1 : Nat) : Int) = (i : Int) + 1 by omega] at this
      exact this
  · intro B f b
    have h4b : XI x B := XI_k h4 f (by decide)
    have cb : chn x i ≤ i := ct_le _ _
    rw [show ((i + 1 : Nat) : Int) = (i : Int) + 1 by omega] at ih
    have cs := chn_s x i
    have put : ∀ v : Nat, v = chn x (i + 1) → Rn d mX7_learn (fun v A' => v = none ∧ P A') 4 [some (.inr (.inl 44)), some (.inl ((v : Int))), some (.inl ((i : Int) + 1)), none] [] (iz_pI B 46 (uz (B.1 46) i (v : Int))) := fun v hv => by
      rw [hv]
      refine ih _ (fr_pI f (by decide)) (fun j hj => ?_)
      show uz (B.1 46) i _ j = _
      by_cases y : j = i
      · rw [y, uz_at]
      · rw [uz_ne _ _ y]; exact b j (by omega)
    refine w_X7_learn_4 ?_
    rw [h4b.1, tn i, (h4b.2.2.2.2 i hi).2.2]
    refine ⟨fun z => by omega, fun _ => ⟨fun z => ⟨inR_b (by omega) (by omega), ⟨by omega, by omega⟩, inR_b (by omega) (by omega), ?_⟩, fun z => ⟨⟨by omega, by omega⟩, fun z2 => ⟨inR_b (by omega) (by omega), ⟨by omega, by omega⟩, inR_b (by omega) (by omega), ?_⟩, fun z2 => ?_⟩⟩⟩
    · exact put (chn x i + 1) (by rw [cs, if_pos (Or.inl (by omega))])
    · exact put (chn x i + 1) (by rw [cs, if_pos (Or.inr (Or.inl z2))])
    · rw [show ((i : Int) - 1).toNat = i - 1 by omega, (h4b.2.2.2.2 (i - 1) (by omega)).2.2]
      refine ⟨⟨by omega, by omega⟩, inR_b (by omega) (by omega), ⟨by omega, by omega⟩, fun y => ⟨⟨by omega, by omega⟩, inR_b (by omega) (by omega), ?_⟩, fun y => ⟨inR_b (by omega) (by omega), ⟨by omega, by omega⟩, inR_b (by omega) (by omega), ?_⟩⟩
      · exact put (chn x i) (by rw [cs, if_neg (fun w => by rcases w with w | w | w; omega; exact z2 w; exact w y)]; rfl)
      · exact put (chn x i + 1) (by rw [cs, if_pos (Or.inr (Or.inr y))])
/-! ===== earlier ===== -/
def UpR (x : Ix) (b r : Nat) (u : Int) : Prop := (u = -1 ∧ ∀ k, k < r → ¬ ixs x k < b) ∨ ∃ k, k < r ∧ u = (k : Int) ∧ ixs x k < b ∧ ∀ k', k < k' → k' < r → ¬ ixs x k' < b
def LoR (x : Ix) (b r : Nat) (l : Int) : Prop := ∃ k : Nat, l = (k : Int) ∧ r < k ∧ k ≤ ixn x ∧ (k < ixn x → ixs x k < b) ∧ ∀ k', r < k' → k' < k → ¬ ixs x k' < b
def JoR (x : Ix) (u : Int) (r : Nat) (j : Int) : Prop := ∃ m : Nat, j = (m : Int) ∧ (∀ k : Nat, u < (k : Int) → k ≤ r → m ≤ ixc x k) ∧ ∃ k : Nat, u < (k : Int) ∧ k ≤ r ∧ ixc x k = m
def Ear (x : Ix) (b : Nat) (A : iz_A) : Prop := ∀ r, r < ixn x → ixs x r < b → UpR x b r (A.1 52 r) ∧ LoR x b r (A.1 53 r) ∧ JoR x (A.1 52 r) r (A.1 54 r)
/-- of two neighbours in the list: what they share -/
theorem jo_dif {x : Ix} (h3 : SoOk x) {u r m : Nat} (hu : u < r) (hr : r < ixn x) (a : ∀ k : Nat, (u : Int) < (k : Int) → k ≤ r → m ≤ ixc x k) (b : ∃ k : Nat, (u : Int) < (k : Int) ∧ k ≤ r ∧ ixc x k = m) : Dif x (ixs x u) (ixs x r) m := by
  obtain ⟨k, k1, -, k3, j, j1, j2, j3⟩ := rows_dif h3 (i := u) r hu hr
  obtain ⟨i, i1, i2, i3⟩ := b
  have := k3 i (by omega) i2
  have := a j (by omega) j2
  rw [show m = k by omega]
  exact k1
theorem dif_rows {x : Ix} (h3 : SoOk x) {u r k : Nat} (hu : u < r) (hr : r < ixn x) (h : Dif x (ixs x u) (ixs x r) k) : ∀ j, u < j → j ≤ r → k ≤ ixc x j := by
  obtain ⟨k', k1, -, k3, -⟩ := rows_dif h3 (i := u) r hu hr
  rw [dif_un h k1]
  exact k3
theorem ear_mt {x : Ix} (h2 : PmOk x) (h3 : SoOk x) {p below ju jb : Nat} {u : Int} (hp : p < ixn x) (hU : UpR x (p + 1) (ixr x p) u) (hJ : JoR x u (ixr x p) (ju : Int)) (hl : ixr x p < below) (hl1 : below ≤ ixn x) (hl2 : below < ixn x → ixs x below < p + 1) (hl3 : ∀ k', ixr x p < k' → k' < below → ¬ ixs x k' < p + 1) (hJb : below < ixn x → JoR x (ixr x p : Int) below (jb : Int)) (hj0 : ¬ below < ixn x → jb = 0) : Mt x p (fun q => q < p) (if ju < jb then jb else ju) := by
  have rp := h2.2 p hp
  obtain ⟨m, m0, m1, m2⟩ := hJ
  obtain rfl : ju = m := (by omega)
  have ub : ∀ q, q < ixn x → q ≠ p → q < p → ∀ k, Dif x p q k → (ixr x q < ixr x p → k ≤ ju) ∧ (ixr x p < ixr x q → k ≤ jb) := fun q q1 q2 q3 k q4 => by
    have rq := h2.2 q q1
    refine ⟨fun y => ?_, fun y => ?_⟩
    · rcases hU with ⟨-, e2⟩ | ⟨v, v1, v2, v3, v4⟩
      · exact absurd (by rw [rq.2]; omega) (e2 _ y)
      · obtain ⟨i, i1, i2, i3⟩ := m2
        have dr := dif_rows h3 y rp.1 (by rw [rq.2, rp.2]; exact dif_sy q4)
        have : ixr x q ≤ v := by
          by_cases w : ixr x q ≤ v
          · exact w
          · exact absurd (by rw [rq.2]; omega) (v4 _ (by omega) y)
        have := dr i (by omega) i2
        omega
    · have hb : below ≤ ixr x q := by
        by_cases w : below ≤ ixr x q
        · exact w
        · exact absurd (by rw [rq.2]; omega) (hl3 _ y (by omega))
      obtain ⟨m', n0, n1, i, i1, i2, i3⟩ := hJb (by omega)
      have dr := dif_rows h3 y rq.1 (by rw [rq.2, rp.2]; exact q4)
      have := dr i (by omega) (by omega)
      omega
  constructor
  · intro q q1 q2 q3 k q4
    have := ub q q1 q2 q3 k q4
    have rq := h2.2 q q1
    have ne : ixr x q ≠ ixr x p := fun e => q2 (by rw [← rq.2, e, rp.2])
    by_cases y : ixr x q < ixr x p
    · have := this.1 y
      split <;> omega
    · have := this.2 (by omega)
      split <;> omega
  · by_cases c : ju < jb
    · rw [if_pos c]
      have hb : below < ixn x := by
        by_cases w : below < ixn x
        · exact w
        · have := hj0 w
          omega
      obtain ⟨m', n0, n1, n2⟩ := hJb hb
      obtain rfl : jb = m' := (by omega)
      have dd := jo_dif h3 hl hb n1 n2
      rw [rp.2] at dd
      have sb := h2.1 below hb
      have ne : ixs x below ≠ p := fun e => by rw [e] at sb; omega
      have := hl2 hb
      exact Or.inr ⟨_, sb.1, ne, (by omega), dd⟩
    · rw [if_neg c]
      rcases hU with ⟨e1, e2⟩ | ⟨v, v1, v2, v3, v4⟩
      · left
        have := m1 0 (by rw [e1]; decide) (Nat.zero_le _)
        rw [h3.1] at this
        omega
      · rw [v2] at m1 m2
        have dd := jo_dif h3 v1 rp.1 m1 m2
        rw [rp.2] at dd
        have sv := h2.1 v (by omega)
        have ne : ixs x v ≠ p := fun e => by rw [e] at sv; omega
        exact Or.inr ⟨_, sv.1, ne, (by omega), dif_sy dd⟩
