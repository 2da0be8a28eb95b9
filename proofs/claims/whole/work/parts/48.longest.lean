/-- the greatest length that is enough, and its first row -/
def Bq (x : Ix) (b : Int) (q best at' : Nat) : Prop := (∀ L i, 1 ≤ L → i < ixn x → Wq x b q L i → L ≤ best) ∧ (0 < best → at' < ixn x ∧ Wq x b q best at' ∧ ∀ j, j < at' → ¬ Wq x b q best j)
theorem bq_un {x : Ix} {b : Int} {q m i m' i' : Nat} (h : Bq x b q m i) (h' : Bq x b q m' i') : m = m' ∧ (0 < m → i = i') := by
  have le1 : m ≤ m' := by
    by_cases c : 0 < m
    · exact h'.1 m i c (h.2 c).1 (h.2 c).2.1
    · omega
  have le2 : m' ≤ m := by
    by_cases c : 0 < m'
    · exact h.1 m' i' c (h'.2 c).1 (h'.2 c).2.1
    · omega
  obtain rfl : m = m' := (by omega)
  refine ⟨rfl, fun c => ?_⟩
  obtain ⟨-, a2, a3⟩ := h.2 c
  obtain ⟨-, b2, b3⟩ := h'.2 c
  rcases Nat.lt_trichotomy i i' with y | y | y
  · exact absurd a2 (b3 i y)
  · exact y
  · exact absurd b2 (a3 i' y)
theorem wq_lft {x : Ix} {b : Int} {q L i : Nat} (h : Wq x b q L i) : L ≤ lft x (ixs x i) := by
  obtain ⟨e, -, -, -, h, -⟩ := h
  exact h
theorem half_eq {a b : Nat} (h : a ≤ b) (hb : b ≤ 3000) : (iv ((b : Int) - (a : Int) + 1) / iv 2).toInt = (((b - a + 1) / 2 : Nat) : Int) := by
  rw [idiv_eq (inR_b (by omega) (by omega)) (inR_b (by omega) (by omega)) (by omega) (by decide), show (b : Int) - (a : Int) + 1 = ((b - a + 1 : Nat) : Int) by omega]
  exact (Int.natCast_ediv _ 2).symm
theorem sX_longest {d : Nat} {A : iz_A} {x : Ix} {b : Int} {q dn : Nat} {P : Int → iz_A → Prop} (h1 : TxOk x) (h2 : PmOk x) (h3 : SoOk x) (h4 : XI x A) (hq : 1 ≤ q) (hd : A.1 17 3 = (dn : Int)) (hP0 : Bq x b q 0 0 → ∀ C, fr [47] A C → P 0 C) (hP : ∀ best i, 0 < best → Bq x b q best i → ∀ C lo hi, fr [17, 47] A C → Rg x (ixs x i) best lo hi → HdX C 0 (ixs x i) best lo hi → P (best : Int) C) : Ci (d + 5) 86 [.inr (.inl 44), .inl (q : Int), .inl b] A P := by
  have nb := h1.2.2.1
  refine e_X7_holdLongest ?_
  rw [h4.1]
  have main : ∀ m len lim B, lim - len ≤ m → len ≤ lim → lim ≤ ixn x → fr [47] A B → (0 < len → ∃ i, i < ixn x ∧ Wq x b q len i) → (∀ L i, lim < L → i < ixn x → ¬ Wq x b q L i) → Rn (d + 4) mX7_holdLongest (fun v A' => ∃ y, v = some (.inl y) ∧ P y A') 11 [some (.inr (.inl 44)), some (.inl ((q : Int))), some (.inl b), some (.inl ((len : Int))), some (.inl ((lim : Int))), none] [] B := by
    intro m
    induction m with
    | zero =>
      intro len lim B m1 m2 m3 f a1 a2
      obtain rfl : len = lim := (by omega)
      have h4' : XI x B := XI_k h4 f (by decide)
      refine w_X7_holdLongest_11 ⟨fun _ => ⟨fun z => ⟨_, rfl, ?_⟩, fun z => ?_⟩, fun z => by omega⟩
      · obtain rfl : len = 0 := (by omega)
        refine hP0 ⟨fun L i l1 l2 l3 => absurd l3 (a2 L i l1 l2), fun z => by omega⟩ B f
      · obtain ⟨i0, i1, i2⟩ := a1 (by omega)
        refine sX_firstRun h1 h2 h3 h4' (b := b) (L := len) (by omega) (by omega) hq fun C fC y hy => ?_
        rcases hy with ⟨-, hy⟩ | ⟨F, rfl, hF, w1, w2⟩
        · exact absurd i2 (hy i0 i1)
        · have h4c : XI x C := XI_k h4' fC (by decide)
          obtain ⟨lo, hi, g⟩ := rg_ex h2 (ixs x F) len (h2.1 F hF).1
          refine ⟨⟨by omega, by omega⟩, ?_⟩
          rw [tn, (h4c.2.2.2.2 F hF).1]
          refine sX_become h1 h2 h4c g ⟨dn, by rw [fC.1 17 (by decide), f.1 17 (by decide)]; exact hd⟩ fun E fE hE => ⟨_, rfl, ?_⟩
          refine hP len F (by omega) ⟨fun L i l1 l2 l3 => ?_, fun _ => ⟨hF, w1, w2⟩⟩ E lo hi (fr_mo (fr_tr (fr_tr f fC) fE) (by decide)) g hE
          by_cases c : L ≤ len
          · exact c
          · exact absurd l3 (a2 L i (by omega) l2)
    | succ m ih =>
      intro len lim B m1 m2 m3 f a1 a2
      by_cases c : len = lim
      · exact ih len lim B (by omega) m2 m3 f a1 a2
      have h4' : XI x B := XI_k h4 f (by decide)
      have ed := half_eq m2 (show lim ≤ 3000 from Nat.le_trans m3 nb)
      refine w_X7_holdLongest_11 ⟨fun z => by omega, fun _ => ?_⟩
      rw [ed, show (len : Int) + (((lim - len + 1) / 2 : Nat) : Int) = ((len + (lim - len + 1) / 2 : Nat) : Int) by omega]
      refine ⟨inR_b (by omega) (by omega), inR_b (by omega) (by omega), by decide, inR_b (by omega) (by omega), ?_⟩
      refine sX_firstRun h1 h2 h3 h4' (b := b) (L := len + (lim - len + 1) / 2) (by omega) (by omega) hq fun C fC y hy => ⟨fun z => ?_, fun z => ⟨inR_b (by omega) (by omega), ?_⟩⟩
      · rcases hy with ⟨rfl, -⟩ | ⟨F, rfl, hF, w1, w2⟩
        · exact absurd rfl z
        · exact ih _ lim C (by omega) (by omega) m3 (fr_mo (fr_tr f fC) (by decide)) (fun _ => ⟨F, hF, w1⟩) a2
      · rcases hy with ⟨-, hy⟩ | ⟨F, rfl, hF, w1, w2⟩
        · rw [show ((len + (lim - len + 1) / 2 : Nat) : Int) - 1 = ((len + (lim - len + 1) / 2 - 1 : Nat) : Int) by omega]
          refine ih len _ C (by omega) (by omega) (by omega) (fr_mo (fr_tr f fC) (by decide)) a1 (fun L i l1 l2 l3 => hy i l2 (wq_le l3 (by omega)))
        · omega
  exact main (ixn x) 0 (ixn x) A (by omega) (Nat.zero_le _) (Nat.le_refl _) (fr_mo (fr_rf A) (by decide)) fun z => by omega (fun L i l1 l2 l3 => by
    have := wq_lft l3
    have := lft_in h1 (h2.1 i l2).1
    omega)
theorem sM_best {d : Nat} {A : iz_A} {x : Ix} {b : Int} {q best i : Nat} {P : Int → iz_A → Prop} (h1 : TxOk x) (h2 : PmOk x) (h5 : MI x A) (hB : Bq x b q best i) (hP0 : best = 0 → P 0 A) (hP : 0 < best → ∀ C lo hi, fr [55, 69] A C → ff [22, 23, 24, 26] (A.1 55) (C.1 55) → Rg x (ixs x i) best lo hi → HdM C 0 best lo hi → (∀ j, j < best → C.1 69 j = ixt x (ixs x i + j)) → P (best : Int) C) : Ci (d + 3) 231 [.inr (.inl 55), .inl (i : Int), .inl (best : Int)] A P := by
  have nb := h1.2.2.1
  refine e_X11_becomeBest ⟨fun z => ⟨_, rfl, ?_⟩, fun z => ?_⟩
  · obtain rfl : best = 0 := (by omega)
    exact hP0 rfl
  · have hb : 0 < best := (by omega)
    obtain ⟨b1, b2, b3⟩ := hB.2 hb
    obtain ⟨lo, hi, g⟩ := rg_ex h2 (ixs x i) best (h2.1 i b1).1
    refine ⟨⟨by omega, by omega⟩, ?_⟩
    rw [tn, (h5.2.2.2.2.2.1 i b1).1]
    exact sM_become h1 h2 h5 g (wq_lft b2) fun C fC eC hC pC => ⟨_, rfl, hP hb C lo hi fC eC g hC pC⟩
theorem bq_up {x : Ix} {b : Int} {q best i best' i' k : Nat} (hk : k < ixn x) (hB : (∀ L j, 1 ≤ L → j < k → Wq x b q L j → L ≤ best) ∧ (0 < best → i < k ∧ Wq x b q best i ∧ ∀ j, j < i → ¬ Wq x b q best j)) (hu : (best < best' ∧ i' = k ∧ Wq x b q best' k ∧ ∀ L, Wq x b q L k → L ≤ best') ∨ (best' = best ∧ i' = i ∧ ∀ L, Wq x b q L k → L ≤ best)) : (∀ L j, 1 ≤ L → j < k + 1 → Wq x b q L j → L ≤ best') ∧ (0 < best' → i' < k + 1 ∧ Wq x b q best' i' ∧ ∀ j, j < i' → ¬ Wq x b q best' j) := by
  rcases hu with ⟨u1, rfl, u3, u4⟩ | ⟨rfl, rfl, u3⟩
  · refine ⟨fun L j l1 l2 l3 => ?_, fun _ => ⟨(by omega), u3, fun j hj w => ?_⟩⟩
    · by_cases c : j = i'
      · rw [c] at l3; exact u4 L l3
      · have := hB.1 L j l1 (by omega) l3
        omega
    · have := hB.1 best' j (by omega) hj w
      omega
  · refine ⟨fun L j l1 l2 l3 => ?_, fun y => ?_⟩
    · by_cases c : j = k
      · rw [c] at l3; exact u3 L l3
      · exact hB.1 L j l1 (by omega) l3
    · obtain ⟨y1, y2⟩ := hB.2 y
      exact ⟨(by omega), y2⟩
theorem sM_repeated {d : Nat} {A : iz_A} {x : Ix} {q : Nat} {P : Int → iz_A → Prop} (h1 : TxOk x) (h2 : PmOk x) (h3 : SoOk x) (h5 : MI x A) (hq : 2 ≤ q) (hq2 : (q : Int) < 2147483648) (hP0 : Bq x 0 q 0 0 → P 0 A) (hP : ∀ best i, 0 < best → Bq x 0 q best i → ∀ C lo hi, fr [55, 69] A C → ff [22, 23, 24, 26] (A.1 55) (C.1 55) → Rg x (ixs x i) best lo hi → HdM C 0 best lo hi → (∀ j, j < best → C.1 69 j = ixt x (ixs x i + j)) → P (best : Int) C) : Ci (d + 4) 232 [.inr (.inl 55), .inl (q : Int)] A P := by
  have nb := h1.2.2.1
  have np := n_pos h1
  refine e_X11_repeated ⟨fun z => absurd z (by rw [h5.1]; decide), fun _ => ⟨fun _ => ?_, fun z => by omega⟩⟩
  have stop : ∀ best i, Bq x 0 q best i → Ci (d + 3) 231 [.inr (.inl 55), .inl (i : Int), .inl (best : Int)] A (fun x1 A1 => ∃ y, (some (.inl x1) : Option iz_V) = some (.inl y) ∧ P y A1) := fun best i hB => by
    refine sM_best h1 h2 h5 hB (fun z => ⟨_, rfl, ?_⟩) (fun z C lo hi fC eC g hC pC => ⟨_, rfl, hP best i z hB C lo hi fC eC g hC pC⟩)
    exact hP0 ⟨by rw [z] at hB; exact hB.1, fun z => by omega⟩
  by_cases big : ixn x < q
  · have : Bq x 0 q 0 0 := ⟨fun L i l1 l2 l3 => by
      obtain ⟨e, e1, e2, e3, e4, e5⟩ := l3
      rw [nn_0 _ _ rfl] at e5
      omega, fun z => by omega⟩
    refine w_X11_repeated_21 ?_
    rw [h5.2.1]
    exact ⟨fun z => by omega, fun _ => ⟨fun _ => stop 0 0 this, fun z => by omega⟩⟩
  refine dwl (P := fun k => ∀ best i : Nat, best < 3000 → (∀ L j, 1 ≤ L → j < k → Wq x 0 q L j → L ≤ best) ∧ (0 < best → i < k ∧ Wq x 0 q best i ∧ ∀ j, j < i → ¬ Wq x 0 q best j) → Rn (d + 3) mX11_repeated (fun v A' => ∃ y, v = some (.inl y) ∧ P y A') 21 [some (.inr (.inl 55)), some (.inl ((q : Int))), some (.inl ((best : Int))), some (.inl ((i : Int))), some (.inl ((k : Int))), none, none] [] A) (a := 0) (n := ixn x) ?_ (fun k _ hk ih => ?_) (Nat.zero_le _) 0 0 (by omega) ⟨fun L j _ hj => by omega, fun z => by omega⟩
  · intro best i b3 hB
    refine w_X11_repeated_21 ?_
    rw [h5.2.1]
    exact ⟨fun _ => stop best i hB, fun z => by omega⟩
  · intro best i b3 hB
    rw [show ((k + 1 : Nat) : Int) = (k : Int) + 1 by omega] at ih
    have lk := lft_bd h1 (h2.1 k hk).1
    refine w_X11_repeated_21 ?_
    rw [h5.2.1]
    refine ⟨fun z => by omega, fun _ => ⟨fun z => by omega, fun _ => ⟨inR_b (by omega) (by omega), ?_⟩⟩⟩
    have cc : ∀ m, m ≤ ixn x → A.1 65 m = ((if m < ixn x then ixc x m else 0 : Nat) : Int) := fun m hm => by
      by_cases y : m < ixn x
      · rw [if_pos y]; exact (h5.2.2.2.2.2.1 m y).2
      · obtain rfl : m = ixn x := (by omega)
        rw [if_neg y]; exact h5.2.2.2.2.2.2
    have leave : ∀ j ls : Nat, ls ≤ 3000 → k < j → j ≤ k + q → (∀ m, k < m → m < j → ls ≤ (if m < ixn x then ixc x m else 0)) → (∀ L, L ≤ 3000 → (∀ m, k < m → m < j → L ≤ (if m < ixn x then ixc x m else 0)) → L ≤ ls) → (k + q ≤ ixn x → best < ls → j = k + q) → (inR ((k : Int) + (q : Int)) ∧ (((ixn x : Int) < (k : Int) + (q : Int) → inR ((k : Int) + 1) ∧ Rn (d + 3) mX11_repeated (fun v A' => ∃ y, v = some (.inl y) ∧ P y A') 21 [some (.inr (.inl 55)), some (.inl ((q : Int))), some (.inl ((best : Int))), some (.inl ((i : Int))), some (.inl ((k : Int) + 1)), none, none] [] A) ∧ (¬ (ixn x : Int) < (k : Int) + (q : Int) → ((ls : Int) ≤ (best : Int) → inR ((k : Int) + 1) ∧ Rn (d + 3) mX11_repeated (fun v A' => ∃ y, v = some (.inl y) ∧ P y A') 21 [some (.inr (.inl 55)), some (.inl ((q : Int))), some (.inl ((best : Int))), some (.inl ((i : Int))), some (.inl ((k : Int) + 1)), none, none] [] A) ∧ (¬ (ls : Int) ≤ (best : Int) → inR ((k : Int) + 1) ∧ Rn (d + 3) mX11_repeated (fun v A' => ∃ y, v = some (.inl y) ∧ P y A') 21 [some (.inr (.inl 55)), some (.inl ((q : Int))), some (.inl ((ls : Int))), some (.inl ((k : Int))), some (.inl ((k : Int) + 1)), none, none] [] A)))) := by
      intro j ls l3 j1 j2 ja jb jx
      have keep : (k + q ≤ ixn x → ls ≤ best) → ∀ L, Wq x 0 q L k → L ≤ best := fun hl L w => by
        have wl := wq_lft w
        obtain ⟨e, e1, e2, e3, e4, e5⟩ := w
        rw [nn_0 _ _ rfl] at e5
        have := jb L (by omega) (fun m m1 m2 => by rw [if_pos (by omega)]; exact e3 m m1 (by omega))
        have := hl (by omega)
        omega
      refine ⟨inR_b (by omega) (by omega), fun z => ⟨inR_b (by omega) (by omega), ih best i b3 (bq_up hk hB (Or.inr ⟨rfl, rfl, keep fun z => by omega⟩))⟩, fun z => ⟨fun z2 => ⟨inR_b (by omega) (by omega), ih best i b3 (bq_up hk hB (Or.inr ⟨rfl, rfl, keep fun z => by omega⟩))⟩, fun z2 => ⟨inR_b (by omega) (by omega), ?_⟩⟩⟩
      have je := jx (by omega) (by omega)
      have c1 := ja (k + 1) (by omega) (by omega)
      rw [if_pos (by omega)] at c1
      have c2 := c_le' h1 h2 h3 (i := k) (by omega)
      refine ih ls k (by omega) (bq_up hk hB (Or.inl ⟨(by omega), rfl, ⟨k + q, (by omega), (by omega), fun m m1 m2 => ?_, (by omega), by rw [nn_0 _ _ rfl]; omega⟩, fun L w => ?_⟩))
      · have := ja m m1 (by omega)
        rw [if_pos (by omega)] at this
        exact this
      · have wl := wq_lft w
        obtain ⟨e, e1, e2, e3, e4, e5⟩ := w
        rw [nn_0 _ _ rfl] at e5
        exact jb L (by omega) (fun m m1 m2 => by rw [if_pos (by omega)]; exact e3 m m1 (by omega))
    have loop : ∀ m j ls : Nat, j + m = k + q → ls ≤ 3000 → k < j → (∀ m, k < m → m < j → ls ≤ (if m < ixn x then ixc x m else 0)) → (∀ L, L ≤ 3000 → (∀ m, k < m → m < j → L ≤ (if m < ixn x then ixc x m else 0)) → L ≤ ls) → Rn (d + 3) mX11_repeated (fun v A' => ∃ y, v = some (.inl y) ∧ P y A') 49 [some (.inr (.inl 55)), some (.inl ((q : Int))), some (.inl ((best : Int))), some (.inl ((i : Int))), some (.inl ((k : Int))), some (.inl ((ls : Int))), some (.inl ((j : Int)))] [] A := by
      intro m
      induction m with
      | zero =>
        intro j ls hj l3 j1 ja jb
        refine w_X11_repeated_49 ?_
        rw [h5.2.1]
        exact ⟨inR_b (by omega) (by omega), fun _ => leave j ls l3 j1 (by omega) ja jb fun z => by omega, fun z => by omega⟩
      | succ m ihm =>
        intro j ls hj l3 j1 ja jb
        refine w_X11_repeated_49 ?_
        rw [h5.2.1, tn]
        refine ⟨inR_b (by omega) (by omega), fun z => by omega, fun _ => ⟨fun z => leave j ls l3 j1 (by omega) ja jb fun z => by omega, fun z => ⟨fun z2 => leave j ls l3 j1 (by omega) ja jb fun z => by omega, fun z2 => ?_⟩⟩⟩
        rw [cc j (by omega)]
        generalize hc : (if j < ixn x then ixc x j else 0) = c
        have nx := fun ls' l3' ja' jb' => ihm (j + 1) ls' (by omega) l3' (by omega) ja' jb'
        rw [show ((j + 1 : Nat) : Int) = (j : Int) + 1 by omega] at nx
        refine ⟨⟨by omega, by omega⟩, fun z3 => ⟨inR_b (by omega) (by omega), nx ls l3 (fun m' m1 m2 => ?_) (fun L L1 L2 => jb L L1 (fun m' m1 m2 => L2 m' m1 (by omega)))⟩, fun z3 => ⟨⟨by omega, by omega⟩, inR_b (by omega) (by omega), nx c (by omega) (fun m' m1 m2 => ?_) (fun L L1 L2 => ?_)⟩⟩
        · by_cases y : m' = j
          · rw [y, hc]; omega
          · exact ja m' m1 (by omega)
        · by_cases y : m' = j
          · rw [y, hc]; exact Nat.le_refl _
          · have := ja m' m1 (by omega)
            omega
        · have := L2 j j1 (by omega)
          rw [hc] at this
          exact this
    have := loop (q - 1) (k + 1) 3000 (by omega) (Nat.le_refl _) (by omega) (fun m m1 m2 => by omega) (fun L L1 _ => L1)
    rw [show ((k + 1 : Nat) : Int) = (k : Int) + 1 by omega] at this
    exact this
