/-! ===== what neighbours share ===== -/
/-- the index out of its text and its order -/
theorem mk_ix {x : Ix} {S G : Nat → Nat} (h : Sod (ixn x) (ixt x) S G) : ∃ c : Nat → Nat, PmOk (ixn x, ixm x, ixF x, ixl x, ixt x, ixo x, S, G, c) ∧ SoOk (ixn x, ixm x, ixF x, ixl x, ixt x, ixo x, S, G, c) := by
  have ex : ∀ i, ∃ k, i + 1 < ixn x → ((∀ j, j < k → ixt x (S i + j) = ixt x (S (i + 1) + j)) ∧ ixt x (S i + k) ≠ ixt x (S (i + 1) + k)) ∧ ixt x (S i + k) < ixt x (S (i + 1) + k) := fun i => by
    by_cases hi : i + 1 < ixn x
    · obtain ⟨k, k1, k2⟩ := h.2 i (i + 1) (by omega) hi
      exact ⟨k, fun _ => ⟨k1, k2⟩⟩
    · exact ⟨0, fun z => absurd z hi⟩
  obtain ⟨c, hc⟩ := Classical.axiomOfChoice ex
  refine ⟨fun i => if i = 0 then 0 else c (i - 1), h.1, rfl, fun i hi => ?_⟩
  exact hc i hi
theorem kasai {x : Ix} (h1 : TxOk x) (h2 : PmOk x) (h3 : SoOk x) {p : Nat} (hp : p < ixn x) (hr : 0 < ixr x p) (hc : 2 ≤ ixc x (ixr x p)) : p + 1 < ixn x ∧ 0 < ixr x (p + 1) ∧ ixc x (ixr x p) - 1 ≤ ixc x (ixr x (p + 1)) := by
  have rp := h2.2 p hp
  have d0 := h3.2 (ixr x p - 1) (by omega)
  rw [show ixr x p - 1 + 1 = ixr x p by omega, rp.2] at d0
  have sq := h2.1 (ixr x p - 1) (by omega)
  generalize ixs x (ixr x p - 1) = q at *
  generalize ixc x (ixr x p) = k at *
  obtain ⟨⟨a1, a2⟩, a3⟩ := d0
  have dl := dif_le h1 sq.1 hp ⟨a1, a2⟩
  have lp := lft_in h1 hp
  have lq := lft_in h1 sq.1
  have hp1 : p + 1 < ixn x := (by omega)
  have hq1 : q + 1 < ixn x := (by omega)
  have dd : Dif x (q + 1) (p + 1) (k - 1) := by
    refine ⟨fun j hj => ?_, ?_⟩
    · have := a1 (j + 1) (by omega)
      rw [show q + 1 + j = q + (j + 1) by omega, show p + 1 + j = p + (j + 1) by omega]
      exact this
    · rw [show q + 1 + (k - 1) = q + k by omega, show p + 1 + (k - 1) = p + k by omega]
      exact a2
  have lt : ixt x (q + 1 + (k - 1)) < ixt x (p + 1 + (k - 1)) := by
    rw [show q + 1 + (k - 1) = q + k by omega, show p + 1 + (k - 1) = p + k by omega]
    exact a3
  have r1 := h2.2 _ hp1
  have r2 := h2.2 _ hq1
  rcases Nat.lt_trichotomy (ixr x (q + 1)) (ixr x (p + 1)) with y | y | y
  · obtain ⟨k', k1, k2, k3, -⟩ := rows_dif h3 (i := ixr x (q + 1)) _ y r1.1
    rw [r1.2, r2.2] at k1
    have := dif_un k1 dd
    have := k3 (ixr x (p + 1)) y (Nat.le_refl _)
    exact ⟨hp1, (by omega), (by omega)⟩
  · have : q + 1 = p + 1 := by rw [← r1.2, ← r2.2, y]
    rw [show q = p by omega] at a2
    exact absurd rfl a2
  · obtain ⟨k', k1, k2, k3, -⟩ := rows_dif h3 (i := ixr x (p + 1)) _ y r2.1
    rw [r1.2, r2.2] at k1 k2
    have := dif_un (dif_sy k1) dd
    rw [this] at k2
    omega
/-- the class's cells as far as they are sorted -/
def X0 (x : Ix) (A : iz_A) : Prop := A.1 5 8 = (ixn x : Int) ∧ A.1 5 9 = (ixm x : Int) ∧ (∀ p, p < ixn x → A.1 6 p = ixt x p ∧ A.1 7 p = (ixo x p : Int) ∧ A.1 10 p = (ixr x p : Int)) ∧ (∀ d, d ≤ ixm x → A.1 8 d = (ixF x d : Int)) ∧ ∀ i, i < ixn x → A.1 9 i = (ixs x i : Int)
theorem X0_k {x : Ix} {A C : iz_A} {l : List Nat} (h : X0 x A) (f : fr l A C) (hl : ∀ q ∈ [5, 6, 7, 8, 9, 10], q ∉ l) : X0 x C := by
  unfold X0 at h ⊢
  rw [f.1 5 (hl 5 (by decide)), f.1 6 (hl 6 (by decide)), f.1 7 (hl 7 (by decide)), f.1 8 (hl 8 (by decide)), f.1 9 (hl 9 (by decide)), f.1 10 (hl 10 (by decide))]
  exact h
theorem sX_alikes {d : Nat} {A : iz_A} {x : Ix} {P : iz_A → Prop} (h1 : TxOk x) (h2 : PmOk x) (h3 : SoOk x) (h0 : X0 x A) (hP : ∀ C, fr [11] A C → (∀ i, i < ixn x → C.1 11 i = (ixc x i : Int)) → P C) : Cv (d + 2) 17 [.inr (.inl 5)] A P := by
  have nb := h1.2.2.1
  refine e_X2_learnAlikes ?_
  have main := dwl (P := fun p => ∀ B (sa : Nat), fr [11] A B → (p < ixn x → sa = 0 ∨ (0 < ixr x p ∧ sa ≤ ixc x (ixr x p))) → sa < 3000 → (∀ q, q < p → B.1 11 (ixr x q) = (ixc x (ixr x q) : Int)) → Rn (d + 1) mX2_learnAlikes (fun v A' => v = none ∧ P A') 4 [some (.inr (.inl 5)), some (.inl ((sa : Int))), some (.inl ((p : Int))), none] [] B) (a := 0) (n := ixn x) ?_ (fun p _ hp ih => ?_) (Nat.zero_le _) A 0 (fr_mo (fr_rf A) (by decide)) (fun _ => Or.inl rfl) (by omega) (fun q hq => by omega)
  · exact main
  · intro B sa f _ _ b
    refine w_X2_learnAlikes_4 ?_
    rw [f.1 5 (by decide), h0.1]
    refine ⟨fun _ => ⟨rfl, hP B f (fun i hi => ?_)⟩, fun z => by omega⟩
    have hs := h2.1 i hi
    have := b _ hs.1
    rw [hs.2] at this
    exact this
  · intro B sa f hsa sb b
    have h0b : X0 x B := X0_k h0 f (by decide)
    have rp := h2.2 p hp
    rw [show ((p + 1 : Nat) : Int) = (p : Int) + 1 by omega] at ih
    have put : ∀ B', fr [11] A B' → B'.1 11 = uz (B.1 11) (ixr x p) (ixc x (ixr x p) : Int) → ∀ q, q < p + 1 → B'.1 11 (ixr x q) = (ixc x (ixr x q) : Int) := fun B' f' e q hq => by
      rw [e]
      by_cases y : q = p
      · rw [y, uz_at]
      · have rq := h2.2 q (by omega)
        rw [uz_ne _ _ (fun e => y (by rw [← rq.2, e, rp.2]))]
        exact b q (by omega)
    refine w_X2_learnAlikes_4 ?_
    rw [h0b.1, tn p, (h0b.2.2.1 p hp).2.2]
    refine ⟨fun z => by omega, fun _ => ⟨⟨by omega, by omega⟩, fun z => ⟨inR_b (by omega) (by omega), ⟨by omega, by omega⟩, ?_⟩, fun z => ⟨⟨by omega, by omega⟩, inR_b (by omega) (by omega), inR_b (by omega) (by omega), ?_⟩⟩⟩
    · have rp0 : 0 < ixr x p := (by omega)
      have d0 := h3.2 (ixr x p - 1) (by omega)
      rw [show ixr x p - 1 + 1 = ixr x p by omega, rp.2] at d0
      have sq := h2.1 (ixr x p - 1) (by omega)
      have dl := dif_le h1 sq.1 hp d0.1
      have lp := lft_in h1 hp
      have lq := lft_in h1 sq.1
      rw [show ((ixr x p : Int) - 1).toNat = ixr x p - 1 by omega, h0b.2.2.2.2 _ (by omega)]
      have sk : sa ≤ ixc x (ixr x p) := by
        rcases hsa hp with y | y
        · omega
        · exact y.2
      refine sX_behind (t := ixt x) (n := ixn x) h0b.1 nb (fun j hj => (h0b.2.2.1 j hj).1) (by omega) (by omega) (dif_sy d0.1) sk ⟨⟨by omega, by omega⟩, inR_b (by omega) (by omega), inR_b (by omega) (by omega), ?_⟩
      rw [tn]
      have := ih _ (ixc x (ixr x p) - 1) (fr_pI f (by decide)) (fun hp1 => ?_) (by omega) (put (iz_pI B 11 (uz (B.1 11) (ixr x p) (ixc x (ixr x p) : Int))) (fr_pI f (by decide)) rfl)
      · rw [show (if (ixc x (ixr x p) : Int) - 1 < 0 then 0 else (ixc x (ixr x p) : Int) - 1) = ((ixc x (ixr x p) - 1 : Nat) : Int) by split <;> omega]
        exact this
      · by_cases y : 2 ≤ ixc x (ixr x p)
        · exact Or.inr (kasai h1 h2 h3 hp rp0 y).2
        · exact Or.inl (by omega)
    · have r0 : ixr x p = 0 := (by omega)
      have := ih _ 0 (fr_pI f (by decide)) (fun _ => Or.inl rfl) (by omega) (put (iz_pI B 11 (uz (B.1 11) (ixr x p) (ixc x (ixr x p) : Int))) (fr_pI f (by decide)) rfl)
      rw [r0, h3.1] at this
      rw [r0]
      exact this
theorem sX_fronts {d : Nat} {A : iz_A} {x : Ix} {P : iz_A → Prop} (h1 : TxOk x) (h2 : PmOk x) (h0 : X0 x A) (hP : ∀ C, fr [12] A C → (∀ i, i < ixn x → C.1 12 i = bef x i) → P C) : Cv (d + 1) 18 [.inr (.inl 5)] A P := by
  have nb := h1.2.2.1
  have mb := h1.2.1
  refine e_X2_learnFronts ?_
  refine dwl (P := fun i => ∀ B, fr [12] A B → (∀ j, j < i → B.1 12 j = bef x j) → Rn d mX2_learnFronts (fun v A' => v = none ∧ P A') 2 [some (.inr (.inl 5)), some (.inl ((i : Int))), none] [] B) (a := 0) (n := ixn x) ?_ (fun i _ hi ih => ?_) (Nat.zero_le _) A (fr_mo (fr_rf A) (by decide)) (fun q hq => by omega)
  · intro B f b
    refine w_X2_learnFronts_2 ?_
    rw [f.1 5 (by decide), h0.1]
    exact ⟨fun _ => ⟨rfl, hP B f b⟩, fun z => by omega⟩
  · intro B f b
    have h0b : X0 x B := X0_k h0 f (by decide)
    have hs := (h2.1 i hi).1
    obtain ⟨o1, o2, o3, -⟩ := h1.2.2.2.2.2.2 _ hs
    rw [show ((i + 1 : Nat) : Int) = (i : Int) + 1 by omega] at ih
    have put : ∀ v : Int, v = bef x i → Rn d mX2_learnFronts (fun v A' => v = none ∧ P A') 2 [some (.inr (.inl 5)), some (.inl ((i : Int) + 1)), none] [] (iz_pI B 12 (uz (B.1 12) i v)) := fun v hv => ih _ (fr_pI f (by decide)) (fun j hj => by
      show uz (B.1 12) i v j = _
      by_cases y : j = i
      · rw [y, uz_at, hv]
      · rw [uz_ne _ _ y]; exact b j (by omega))
    refine w_X2_learnFronts_2 ?_
    rw [h0b.1, tn i, h0b.2.2.2.2 i hi, tn (ixs x i), (h0b.2.2.1 _ hs).2.1, tn, h0b.2.2.2.1 _ (Nat.le_of_lt o1)]
    refine ⟨fun z => by omega, fun _ => ⟨⟨by omega, by omega⟩, ⟨by omega, by omega⟩, ⟨by omega, by omega⟩, fun z => ?_, fun z => ⟨⟨by omega, by omega⟩, inR_b (by omega) (by omega), put _ ?_⟩⟩⟩
    · have ne : ixs x i ≠ ixF x (ixo x (ixs x i)) := fun e => z (by rw [← e])
      rw [show ((ixs x i : Int) - 1).toNat = ixs x i - 1 by omega, (h0b.2.2.1 (ixs x i - 1) (by omega)).1]
      refine ⟨inR_b (by omega) (by omega), ⟨by omega, by omega⟩, ⟨by omega, by omega⟩, inR_b (by omega) (by omega), put _ ?_⟩
      unfold bef
      rw [if_neg ne]
    · unfold bef
      rw [if_pos (by omega)]
/-- the reference's cells as far as they are sorted -/
def M0 (x : Ix) (A : iz_A) : Prop := A.1 55 6 = 1 ∧ A.1 55 7 = (ixn x : Int) ∧ A.1 55 8 = (ixm x : Int) ∧ (∀ p, p < ixn x → A.1 59 p = (if ixt x p < 0 then -1 else ixt x p) ∧ A.1 60 p = (ixo x p : Int) ∧ A.1 64 p = (ixr x p : Int)) ∧ (∀ d, d < ixm x → A.1 61 d = (ixF x d : Int) ∧ A.1 62 d = (ixl x d : Int)) ∧ ∀ i, i < ixn x → A.1 63 i = (ixs x i : Int)
theorem M0_k {x : Ix} {A C : iz_A} {l : List Nat} (h : M0 x A) (f : fr l A C) (hl : ∀ q ∈ [55, 59, 60, 61, 62, 63, 64], q ∉ l) : M0 x C := by
  unfold M0 at h ⊢
  rw [f.1 55 (hl 55 (by decide)), f.1 59 (hl 59 (by decide)), f.1 60 (hl 60 (by decide)), f.1 61 (hl 61 (by decide)), f.1 62 (hl 62 (by decide)), f.1 63 (hl 63 (by decide)), f.1 64 (hl 64 (by decide))]
  exact h
theorem sM_shares {d : Nat} {A : iz_A} {x : Ix} {P : iz_A → Prop} (h1 : TxOk x) (h2 : PmOk x) (h3 : SoOk x) (h0 : M0 x A) (hP : ∀ C, fr [65] A C → (∀ i, i < ixn x → C.1 65 i = (ixc x i : Int)) → C.1 65 (ixn x) = 0 → P C) : Cv (d + 1) 165 [.inr (.inl 55)] A P := by
  have nb := h1.2.2.1
  refine e_X11_findShares ?_
  rw [h0.2.1, tn]
  refine ⟨⟨by omega, by omega⟩, ?_⟩
  have main := dwl (P := fun p => ∀ B (sa : Nat), fr [65] A B → (p < ixn x → sa = 0 ∨ (0 < ixr x p ∧ sa ≤ ixc x (ixr x p))) → (∀ q, q < p → B.1 65 (ixr x q) = (ixc x (ixr x q) : Int)) → B.1 65 (ixn x) = 0 → Rn d mX11_findShares (fun v A' => v = none ∧ P A') 14 [some (.inr (.inl 55)), some (.inl ((sa : Int))), some (.inl ((p : Int))), none] [] B) (a := 0) (n := ixn x) ?_ (fun p _ hp ih => ?_) (Nat.zero_le _) (iz_pI A 65 (uz (A.1 65) (ixn x) 0)) 0 (fr_pI (fr_mo (fr_rf A) (by decide)) (by decide)) (fun _ => Or.inl rfl) (fun q hq => by omega) (uz_at _ _ _)
  · exact main
  · intro B sa f _ b b2
    refine w_X11_findShares_14 ?_
    rw [f.1 55 (by decide), h0.2.1]
    refine ⟨fun _ => ⟨rfl, hP B f (fun i hi => ?_) b2⟩, fun z => by omega⟩
    have hs := h2.1 i hi
    have := b _ hs.1
    rw [hs.2] at this
    exact this
  · intro B sa f hsa b b2
    have h0b : M0 x B := M0_k h0 f (by decide)
    have rp := h2.2 p hp
    rw [show ((p + 1 : Nat) : Int) = (p : Int) + 1 by omega] at ih
    have nx : ∀ v : Nat, v = ixc x (ixr x p) → ∀ sa' : Nat, (p + 1 < ixn x → sa' = 0 ∨ (0 < ixr x (p + 1) ∧ sa' ≤ ixc x (ixr x (p + 1)))) → Rn d mX11_findShares (fun v A' => v = none ∧ P A') 14 [some (.inr (.inl 55)), some (.inl ((sa' : Int))), some (.inl ((p : Int) + 1)), none] [] (iz_pI B 65 (uz (B.1 65) (ixr x p) (v : Int))) := fun v hv sa' hs' => ih _ sa' (fr_pI f (by decide)) hs' (fun q hq => by
      show uz (B.1 65) _ _ _ = _
      by_cases y : q = p
      · rw [y, uz_at, hv]
      · have rq := h2.2 q (by omega)
        rw [uz_ne _ _ (fun e => y (by rw [← rq.2, e, rp.2]))]
        exact b q (by omega)) (by
      show uz (B.1 65) _ _ _ = _
      rw [uz_ne _ _ (by omega)]; exact b2)
    refine w_X11_findShares_14 ?_
    rw [h0b.2.1, tn p, (h0b.2.2.2.1 p hp).2.2]
    refine ⟨fun z => by omega, fun _ => ⟨⟨by omega, by omega⟩, fun z => ⟨⟨by omega, by omega⟩, inR_b (by omega) (by omega), ⟨by omega, by omega⟩, ?_⟩, fun z => ⟨⟨by decide, by decide⟩, inR_b (by omega) (by omega), ?_⟩⟩⟩
    · have rp0 : 0 < ixr x p := (by omega)
      have d0 := h3.2 (ixr x p - 1) (by omega)
      rw [show ixr x p - 1 + 1 = ixr x p by omega, rp.2] at d0
      have sq := h2.1 (ixr x p - 1) (by omega)
      have dl := dif_le h1 sq.1 hp d0.1
      have lp := lft_in h1 hp
      have lq := lft_in h1 sq.1
      rw [show ((ixr x p : Int) - 1).toNat = ixr x p - 1 by omega, h0b.2.2.2.2.2 _ (by omega)]
      have sk : sa ≤ ixc x (ixr x p) := by
        rcases hsa hp with y | y
        · omega
        · exact y.2
      generalize ixs x (ixr x p - 1) = q at *
      have tp : ∀ j, j ≤ lft x p → B.1 59 (p + j) = (if ixt x (p + j) < 0 then -1 else ixt x (p + j)) := fun j hj => (h0b.2.2.2.1 (p + j) (by omega)).1
      have tq : ∀ j, j ≤ lft x q → B.1 59 (q + j) = (if ixt x (q + j) < 0 then -1 else ixt x (q + j)) := fun j hj => (h0b.2.2.2.1 (q + j) (by omega)).1
      have kas : ixc x (ixr x p) ≤ 1 ∨ (p + 1 < ixn x ∧ 0 < ixr x (p + 1) ∧ ixc x (ixr x p) - 1 ≤ ixc x (ixr x (p + 1))) := by
        by_cases y : 2 ≤ ixc x (ixr x p)
        · exact Or.inr (kasai h1 h2 h3 hp rp0 y)
        · exact Or.inl (by omega)
      have stop : ((0 : Int) ≤ (p : Int) ∧ (p : Int) < (3001 : Int)) ∧ (((0 : Int) ≤ B.1 64 ((p : Int)).toNat ∧ B.1 64 ((p : Int)).toNat < (3001 : Int)) ∧ (((ixc x (ixr x p) : Int) ≤ 0 → inR ((p : Int) + 1) ∧ Rn d mX11_findShares (fun v A' => v = none ∧ P A') 14 [some (.inr (.inl 55)), some (.inl 0), some (.inl ((p : Int) + 1)), none] [] (iz_pI B 65 (uz (B.1 65) (B.1 64 ((p : Int)).toNat).toNat (ixc x (ixr x p) : Int)))) ∧ (¬ (ixc x (ixr x p) : Int) ≤ 0 → inR ((ixc x (ixr x p) : Int) - 1) ∧ inR ((p : Int) + 1) ∧ Rn d mX11_findShares (fun v A' => v = none ∧ P A') 14 [some (.inr (.inl 55)), some (.inl ((ixc x (ixr x p) : Int) - 1)), some (.inl ((p : Int) + 1)), none] [] (iz_pI B 65 (uz (B.1 65) (B.1 64 ((p : Int)).toNat).toNat (ixc x (ixr x p) : Int)))))) := by
        rw [tn p, (h0b.2.2.2.1 p hp).2.2, tn]
        refine ⟨⟨by omega, by omega⟩, ⟨by omega, by omega⟩, fun y => ⟨inR_b (by omega) (by omega), nx _ rfl 0 (fun _ => Or.inl rfl)⟩, fun y => ⟨inR_b (by omega) (by omega), inR_b (by omega) (by omega), ?_⟩⟩
        have := nx _ rfl (ixc x (ixr x p) - 1) (fun _ => by
          rcases kas with w | w
          · exact Or.inl (by omega)
          · exact Or.inr w.2)
        rw [show ((ixc x (ixr x p) - 1 : Nat) : Int) = (ixc x (ixr x p) : Int) - 1 by omega] at this
        exact this
      refine dwl (P := fun h => Rn d mX11_findShares (fun v A' => v = none ∧ P A') 57 [some (.inr (.inl 55)), some (.inl ((h : Int))), some (.inl ((p : Int))), some (.inl ((q : Int)))] [] B) (a := sa) (n := ixc x (ixr x p)) ?_ (fun h ha hh ihh => ?_) sk
      · refine w_X11_findShares_57 ?_
        rw [show ((p : Int) + (ixc x (ixr x p) : Int)).toNat = p + ixc x (ixr x p) by omega, show ((q : Int) + (ixc x (ixr x p) : Int)).toNat = q + ixc x (ixr x p) by omega, tp _ dl.2, tq _ dl.1]
        refine ⟨inR_b (by omega) (by omega), ⟨by omega, by omega⟩, fun _ => stop, fun y => ⟨inR_b (by omega) (by omega), ⟨by omega, by omega⟩, inR_b (by omega) (by omega), ⟨by omega, by omega⟩, fun _ => stop, fun y2 => ?_⟩⟩
        have n2 := d0.1.2
        by_cases w1 : ixt x (p + ixc x (ixr x p)) < 0
        · rw [if_pos w1] at y; omega
        · by_cases w2 : ixt x (q + ixc x (ixr x p)) < 0
          · rw [if_pos w2, if_neg w1] at y2; omega
          · rw [if_neg w2, if_neg w1] at y2
            exact absurd y2.symm n2
      · have al := d0.1.1 h hh
        have t0 := (t_in h1 hp (j := h) (by omega)).1
        refine w_X11_findShares_57 ?_
        rw [show ((p : Int) + (h : Int)).toNat = p + h by omega, show ((q : Int) + (h : Int)).toNat = q + h by omega, tp _ (by omega), tq _ (by omega), al]
        rw [show ((h + 1 : Nat) : Int) = (h : Int) + 1 by omega] at ihh
        refine ⟨inR_b (by omega) (by omega), ⟨by omega, by omega⟩, fun y => ?_, fun _ => ⟨inR_b (by omega) (by omega), ⟨by omega, by omega⟩, inR_b (by omega) (by omega), ⟨by omega, by omega⟩, fun z => absurd rfl z, fun _ => ⟨inR_b (by omega) (by omega), ihh⟩⟩⟩
        rw [if_neg (by omega)] at y
        omega
    · have r0 : ixr x p = 0 := (by omega)
      have := nx 0 (by rw [r0, h3.1]) 0 (fun _ => Or.inl rfl)
      rw [r0] at this
      exact this
