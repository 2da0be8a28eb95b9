theorem sM_common {d : Nat} {A : iz_A} {x : Ix} {q : Nat} {P : Int → iz_A → Prop} (h1 : TxOk x) (h2 : PmOk x) (h3 : SoOk x) (h5 : MI x A) (hq : 1 ≤ q) (hP0 : Bq x 1 q 0 0 → ∀ C, fr [95] A C → P 0 C) (hP : ∀ best i, 0 < best → Bq x 1 q best i → ∀ C lo hi, fr [55, 69, 95] A C → ff [22, 23, 24, 26] (A.1 55) (C.1 55) → Rg x (ixs x i) best lo hi → HdM C 0 best lo hi → (∀ j, j < best → C.1 69 j = ixt x (ixs x i + j)) → P (best : Int) C) : Ci (d + 4) 233 [.inr (.inl 55), .inl (q : Int)] A P := by
  have nb := h1.2.2.1
  have mb := h1.2.1
  have np := n_pos h1
  refine e_X11_common ⟨fun z => absurd z (by rw [h5.1]; decide), fun _ => ⟨fun _ => ?_, fun z => by omega⟩⟩
  have stop : ∀ best i B, fr [95] A B → Bq x 1 q best i → Ci (d + 3) 231 [.inr (.inl 55), .inl (i : Int), .inl (best : Int)] B (fun x1 A1 => ∃ y, (some (.inl x1) : Option iz_V) = some (.inl y) ∧ P y A1) := fun best i B f hB => by
    have h5' : MI x B := MI_k (m := []) h5 f (by decide) (ff_eq (f.1 55 (by decide))) (by decide)
    refine sM_best h1 h2 h5' hB (fun z => ⟨_, rfl, ?_⟩) (fun z C lo hi fC eC g hC pC => ⟨_, rfl, hP best i z hB C lo hi (fr_mo (fr_tr f fC) (by decide)) (by rw [← f.1 55 (by decide)]; exact eC) g hC pC⟩)
    exact hP0 ⟨by rw [z] at hB; exact hB.1, fun z => by omega⟩ B f
  refine dwl (P := fun k => ∀ B, fr [95] A B → ∀ best i : Nat, best < 3000 → (∀ L j, 1 ≤ L → j < k → Wq x 1 q L j → L ≤ best) ∧ (0 < best → i < k ∧ Wq x 1 q best i ∧ ∀ j, j < i → ¬ Wq x 1 q best j) → Rn (d + 3) mX11_common (fun v A' => ∃ y, v = some (.inl y) ∧ P y A') 21 [some (.inr (.inl 55)), some (.inl ((q : Int))), some (.inl ((best : Int))), some (.inl ((i : Int))), some (.inl ((k : Int))), none, none, none, none] [] B) (a := 0) (n := ixn x) ?_ (fun k _ hk ih => ?_) (Nat.zero_le _) A (fr_mo (fr_rf A) (by decide)) 0 0 (by omega) ⟨fun L j _ hj => by omega, fun z => by omega⟩
  · intro B f best i b3 hB
    refine w_X11_common_21 ?_
    rw [f.1 55 (by decide), h5.2.1]
    exact ⟨fun _ => stop best i B f hB, fun z => by omega⟩
  · intro B0 f0 best i b3 hB
    rw [show ((k + 1 : Nat) : Int) = (k : Int) + 1 by omega] at ih
    have hs := (h2.1 k hk).1
    have lk := lft_bd h1 hs
    refine w_X11_common_21 ?_
    rw [f0.1 55 (by decide), h5.2.1]
    refine ⟨fun z => by omega, fun _ => ?_⟩
    have leave : ∀ B (j ls hd : Nat), fr [95] A B → k ≤ j → j ≤ ixn x → hd = nn x 1 k j → hd ≤ q → (∀ e, k < e → e < j → nn x 1 k e < q) → ls ≤ lft x (ixs x k) → (∀ m, k < m → m < j → ls ≤ ixc x m) → (∀ L, L ≤ lft x (ixs x k) → (∀ m, k < m → m < j → L ≤ ixc x m) → L ≤ ls) → (¬ (hd = q ∧ best < ls) → j = ixn x ∨ ls ≤ best) → Rn (d + 3) mX11_common (fun v A' => ∃ y, v = some (.inl y) ∧ P y A') 178 [some (.inr (.inl 55)), some (.inl ((q : Int))), some (.inl ((best : Int))), some (.inl ((i : Int))), some (.inl ((k : Int))), some (.inl ((ls : Int))), some (.inl ((hd : Int))), some (.inl ((j : Int))), none] [] B := by
      intro B j ls hd f j1 j2 jh jq je jl ja jb jx
      have keep : (hd = q → ls ≤ best) → ∀ L, Wq x 1 q L k → L ≤ best := fun hl L w => by
        have wl := wq_lft w
        obtain ⟨e, e1, e2, e3, e4, e5⟩ := w
        by_cases c : e < j
        · have := je e e1 c
          omega
        · have hle := jb L wl (fun m m1 m2 => e3 m m1 (by omega))
          rcases jx (fun y => by have := hl y.1; omega) with y | y
          · have : e = j := (by omega)
            rw [this, ← jh] at e5
            have := hl (by omega)
            omega
          · omega
      refine w_X11_common_178 ⟨fun z => ?_, fun z => ⟨fun z2 => ?_, fun z2 => ?_⟩⟩
      · exact w_X11_common_196 ⟨inR_b (by omega) (by omega), ih B f best i b3 (bq_up hk hB (Or.inr ⟨rfl, rfl, keep fun z => by omega⟩))⟩
      · exact w_X11_common_196 ⟨inR_b (by omega) (by omega), ih B f best i b3 (bq_up hk hB (Or.inr ⟨rfl, rfl, keep fun z => by omega⟩))⟩
      · have jk : k < j := by
          by_cases y : k = j
          · rw [← y, nn_z] at jh; omega
          · omega
        refine w_X11_common_196 ⟨inR_b (by omega) (by omega), ih B f ls k (by omega) (bq_up hk hB (Or.inl ⟨(by omega), rfl, ⟨j, jk, j2, ja, jl, (by omega)⟩, fun L w => ?_⟩))⟩
        have wl := wq_lft w
        obtain ⟨e, e1, e2, e3, e4, e5⟩ := w
        by_cases c : e < j
        · have := je e e1 c
          omega
        · exact jb L wl (fun m m1 m2 => e3 m m1 (by omega))
    have loop : ∀ m j B (ls hd : Nat), j + m = ixn x → fr [95] A B → k ≤ j → hd = nn x 1 k j → hd ≤ q → (∀ e, k < e → e < j → nn x 1 k e < q) → ls ≤ lft x (ixs x k) → (∀ m, k < m → m < j → ls ≤ ixc x m) → (∀ L, L ≤ lft x (ixs x k) → (∀ m, k < m → m < j → L ≤ ixc x m) → L ≤ ls) → (∀ e, e < ixm x → (B.1 95 e = 0 ↔ ¬ 0 < Td x k j e)) → Rn (d + 3) mX11_common (fun v A' => ∃ y, v = some (.inl y) ∧ P y A') 76 [some (.inr (.inl 55)), some (.inl ((q : Int))), some (.inl ((best : Int))), some (.inl ((i : Int))), some (.inl ((k : Int))), some (.inl ((ls : Int))), some (.inl ((hd : Int))), some (.inl ((j : Int))), none] [] B := by
      intro m
      induction m with
      | zero =>
        intro j B ls hd hj f j1 jh jq je jl ja jb js
        refine w_X11_common_76 ?_
        rw [f.1 55 (by decide), h5.2.1]
        exact ⟨fun _ => leave B j ls hd f j1 (by omega) jh jq je jl ja jb (fun _ => Or.inl (by omega)), fun z => by omega⟩
      | succ m ihm =>
        intro j B ls hd hj f j1 jh jq je jl ja jb js
        have h5' : MI x B := MI_k (m := []) h5 f (by decide) (ff_eq (f.1 55 (by decide))) (by decide)
        have hsj := (h2.1 j (by omega)).1
        have ho := (lft_in h1 hsj).2.2
        have go : ∀ ls' : Nat, hd < q → ls' ≤ lft x (ixs x k) → (∀ m, k < m → m < j + 1 → ls' ≤ ixc x m) → (∀ L, L ≤ lft x (ixs x k) → (∀ m, k < m → m < j + 1 → L ≤ ixc x m) → L ≤ ls') → Rn (d + 3) mX11_common (fun v A' => ∃ y, v = some (.inl y) ∧ P y A') 130 [some (.inr (.inl 55)), some (.inl ((q : Int))), some (.inl ((best : Int))), some (.inl ((i : Int))), some (.inl ((k : Int))), some (.inl ((ls' : Int))), some (.inl ((hd : Int))), some (.inl ((j : Int))), none] [] B := fun ls' hlt kl ka kb => by
          have je' : ∀ e, k < e → e < j + 1 → nn x 1 k e < q := fun e e1 e2 => by
            by_cases y : e = j
            · rw [y]; omega
            · exact je e e1 (by omega)
          have js' : ∀ e, e < ixm x → (uz (B.1 95) (ixo x (ixs x j)) 1 e = 0 ↔ ¬ 0 < Td x k (j + 1) e) := fun e he => by
            rw [Td_s]
            by_cases w : e = ixo x (ixs x j)
            · rw [w, uz_at, if_pos ⟨j1, rfl⟩]
              exact ⟨fun y => absurd y (by decide), fun y => absurd (Nat.succ_pos _) y⟩
            · rw [uz_ne _ _ w, if_neg (fun y : k ≤ j ∧ _ => w y.2.symm), Nat.add_zero]
              exact js e he
          have hdb : hd ≤ 40 := by
            rw [jh, nn_1 _ _ (by decide)]
            have := ct_le (fun d => 0 < Td x k j d) (ixm x)
            omega
          refine w_X11_common_130 ?_
          rw [tn, (h5'.2.2.2.2.2.1 j (by omega)).1, tn, (h5'.2.2.2.1 _ hsj).2.1, tn]
          refine ⟨⟨by omega, by omega⟩, ⟨by omega, by omega⟩, ⟨by omega, by omega⟩, fun z => ⟨inR_b (by omega) (by omega), w_X11_common_164 ⟨⟨by omega, by omega⟩, Or.inr rfl, inR_b (by omega) (by omega), ?_⟩⟩, fun z => ⟨inR_b (by omega) (by omega), w_X11_common_164 ⟨⟨by omega, by omega⟩, Or.inr rfl, inR_b (by omega) (by omega), ?_⟩⟩⟩
          · rw [tn, show (hd : Int) + 1 = ((hd + 1 : Nat) : Int) by omega, show (j : Int) + 1 = ((j + 1 : Nat) : Int) by omega]
            exact ihm (j + 1) _ ls' (hd + 1) (by omega) (fr_pI f (by decide)) (by omega) (by rw [nn_more h1 h2 (by omega) (by decide) j1 ((js _ ho).1 z), jh]) (by omega) je' kl ka kb js'
          · have t : 0 < Td x k j (ixo x (ixs x j)) := Decidable.of_not_not (fun y => z ((js _ ho).2 y))
            rw [tn, show (hd : Int) + 0 = (hd : Int) from Int.add_zero _, show (j : Int) + 1 = ((j + 1 : Nat) : Int) by omega]
            exact ihm (j + 1) _ ls' hd (by omega) (fr_pI f (by decide)) (by omega) (by rw [nn_same (by decide) j1 t, jh]) (by omega) je' kl ka kb js'
        refine w_X11_common_76 ?_
        rw [h5'.2.1, tn]
        refine ⟨fun z => by omega, fun _ => ⟨fun z => leave B j ls hd f j1 (by omega) jh jq je jl ja jb (fun _ => Or.inr (by omega)), fun z => ⟨fun z2 => leave B j ls hd f j1 (by omega) jh jq je jl ja jb (fun y => absurd ⟨(by omega), (by omega)⟩ y), fun z2 => ⟨fun z3 => ?_, fun z3 => ?_⟩⟩⟩⟩
        · exact w_X11_common_126 (go ls (by omega) jl (fun m m1 m2 => by omega) (fun L L1 L2 => jb L L1 (fun m m1 m2 => by omega)))
        · rw [(h5'.2.2.2.2.2.1 j (by omega)).2]
          refine ⟨⟨by omega, by omega⟩, fun z4 => w_X11_common_126 (go ls (by omega) jl (fun m m1 m2 => ?_) (fun L L1 L2 => jb L L1 (fun m m1 m2 => L2 m m1 (by omega)))), fun z4 => ⟨⟨by omega, by omega⟩, go (ixc x j) (by omega) (by omega) (fun m m1 m2 => ?_) (fun L L1 L2 => L2 j (by omega) (by omega))⟩⟩
          · by_cases y : m = j
            · rw [y]; omega
            · exact ja m m1 (by omega)
          · by_cases y : m = j
            · rw [y]; exact Nat.le_refl _
            · have := ja m m1 (by omega)
              omega
    refine dwl (P := fun e => ∀ B, fr [95] A B → (∀ j, j < e → B.1 95 j = 0) → Rn (d + 3) mX11_common (fun v A' => ∃ y, v = some (.inl y) ∧ P y A') 33 [some (.inr (.inl 55)), some (.inl ((q : Int))), some (.inl ((best : Int))), some (.inl ((i : Int))), some (.inl ((k : Int))), some (.inl ((e : Int))), none, none, none] [] B) (a := 0) (n := ixm x) ?_ (fun e _ he ihe => ?_) (Nat.zero_le _) B0 f0 (fun j hj => by omega)
    · intro B f b
      have h5' : MI x B := MI_k (m := []) h5 f (by decide) (ff_eq (f.1 55 (by decide))) (by decide)
      refine w_X11_common_33 ?_
      rw [h5'.2.2.1, tn, (h5'.2.2.2.2.2.1 k hk).1]
      refine ⟨fun _ => ⟨⟨by omega, by omega⟩, sM_left h1 h5' hs ?_⟩, fun z => by omega⟩
      refine loop (ixn x - k) k B (lft x (ixs x k)) 0 (by omega) f (Nat.le_refl _) (nn_z _ _ _).symm (by omega) (fun e e1 e2 => by omega) (Nat.le_refl _) (fun m m1 m2 => by omega) (fun L L1 _ => L1) (fun e he => ?_)
      rw [b e he]
      have : Td x k k e = 0 := ct_0 fun r hr y => by omega
      rw [this]
      exact ⟨fun _ => Nat.lt_irrefl _, fun _ => rfl⟩
    · intro B f b
      refine w_X11_common_33 ?_
      rw [f.1 55 (by decide), h5.2.2.1, tn]
      rw [show ((e + 1 : Nat) : Int) = (e : Int) + 1 by omega] at ihe
      refine ⟨fun z => by omega, fun _ => ⟨⟨by omega, by omega⟩, Or.inl rfl, inR_b (by omega) (by omega), ihe _ (fr_pI f (by decide)) (fun j hj => ?_)⟩⟩
      show uz (B.1 95) e 0 j = 0
      by_cases w : j = e
      · rw [w, uz_at]
      · rw [uz_ne _ _ w]; exact b j (by omega)
theorem b_repeated {A : iz_A} {I : iz_A → Prop} {v : Int} {x : Ix} (hv : inR v) (hx : HdAt x A) (hI0 : I A) (hI1 : XM x A → ∀ C, fr [47] A C → I C) (hI : XM x A → ∀ C, fr [17, 47, 55, 69] A C → ff [22, 23, 24, 26] (A.1 55) (C.1 55) → HR x C → I C) : Bo 143 232 [.inl v] [.inl v] A I := by
  by_cases h0 : 2 ≤ v
  · obtain ⟨q, rfl⟩ : ∃ k : Nat, v = (k : Int) := ⟨v.toNat, (by omega)⟩
    have hk := hv.2
    rcases hx with hn | ⟨hx, p0, len0, lo0, hi0, dn, g0, hl0, hd0, hX, hM, hp0, hq0⟩
    · exact bo_bad (d := 1) (d' := 1) (by decide) (by decide) hI0 (fun P hP => e_X10_repeated (d := 0) ⟨fun _ => ⟨_, rfl, hP⟩, fun z => absurd (by rw [hn.1]; decide) z⟩) (fun P hP => e_X11_repeated (d := 0) ⟨fun _ => ⟨_, rfl, hP⟩, fun z => absurd hn.2.2.1 z⟩)
    · obtain ⟨h1, h2, h3, h4, h5⟩ := id hx
      have np := n_pos h1
      refine Ci_mono (d := 6) (by decide) (e_X10_repeated (d := 5) ⟨fun z => by rw [h4.1] at z; omega, fun _ => ⟨fun z => by omega, fun _ => sX_longest h1 h2 h3 h4 (by omega) hX.1 (fun hB B fB => ⟨_, rfl, ?_⟩) (fun best i hb hB B lo hi fB g hHB => ⟨_, rfl, ?_⟩)⟩⟩) (fun _ _ z => z)
      · have h5' : MI x B := MI_k (m := []) h5 fB (by decide) (ff_eq (fB.1 55 (by decide))) (by decide)
        refine Ci_mono (d := 4) (by decide) (sM_repeated (d := 0) (P := fun x2 A2 => _ = x2 ∧ I A2) h1 h2 h3 h5' (by omega) hk (fun _ => ⟨rfl, hI1 hx B fB⟩) (fun best i hb hB' C lo hi fC eC g hC pC => ?_)) (fun _ _ z => z)
        have := (bq_un hB hB').1
        omega
      · have h5' : MI x B := MI_k (m := []) h5 fB (by decide) (ff_eq (fB.1 55 (by decide))) (by decide)
        refine Ci_mono (d := 4) (by decide) (sM_repeated (d := 0) (P := fun x2 A2 => _ = x2 ∧ I A2) h1 h2 h3 h5' (by omega) hk (fun hB' => ?_) (fun best' i' hb' hB' C lo' hi' fC eC g' hC pC => ?_)) (fun _ _ z => z)
        · have := (bq_un hB hB').1
          omega
        · obtain ⟨rfl, e⟩ := bq_un hB hB'
          obtain rfl := e hb
          obtain ⟨rfl, rfl⟩ := rg_un h2 h3 g g' (al_rf _ _ _)
          refine ⟨rfl, hI hx C (fr_mo (fr_tr fB fC) (by decide)) (by rw [← fB.1 55 (by decide)]; exact eC) (hr_become (q := ixs x i) g (wq_lft (hB.2 hb).2.1) (al_rf _ _ _) ?_ hC pC)⟩
          unfold HdX
          rw [fC.1 17 (by decide)]
          exact hHB
  · exact bo_bad (d := 1) (d' := 1) (by decide) (by decide) hI0 (fun P hP => e_X10_repeated (d := 0) ⟨fun _ => ⟨_, rfl, hP⟩, fun _ => ⟨fun _ => ⟨_, rfl, hP⟩, fun z => by omega⟩⟩) (fun P hP => e_X11_repeated (d := 0) ⟨fun _ => ⟨_, rfl, hP⟩, fun _ => ⟨fun z => by omega, fun _ => ⟨_, rfl, hP⟩⟩⟩)
theorem b_common {A : iz_A} {I : iz_A → Prop} {v : Int} {x : Ix} (hx : HdAt x A) (hI0 : I A) (hI1 : XM x A → ∀ C, fr [47, 95] A C → I C) (hI : XM x A → ∀ C, fr [17, 47, 55, 69, 95] A C → ff [22, 23, 24, 26] (A.1 55) (C.1 55) → HR x C → I C) : Bo 144 233 [.inl v] [.inl v] A I := by
  by_cases h0 : 1 ≤ v
  · obtain ⟨q, rfl⟩ : ∃ k : Nat, v = (k : Int) := ⟨v.toNat, (by omega)⟩
    rcases hx with hn | ⟨hx, p0, len0, lo0, hi0, dn, g0, hl0, hd0, hX, hM, hp0, hq0⟩
    · exact bo_bad (d := 1) (d' := 1) (by decide) (by decide) hI0 (fun P hP => e_X10_common (d := 0) ⟨fun _ => ⟨_, rfl, hP⟩, fun z => absurd (by rw [hn.1]; decide) z⟩) (fun P hP => e_X11_common (d := 0) ⟨fun _ => w_X11_common_12 ⟨_, rfl, hP⟩, fun z => absurd hn.2.2.1 z⟩)
    · obtain ⟨h1, h2, h3, h4, h5⟩ := id hx
      have np := n_pos h1
      refine Ci_mono (d := 6) (by decide) (e_X10_common (d := 5) ⟨fun z => by rw [h4.1] at z; omega, fun _ => ⟨fun z => by omega, fun _ => sX_longest h1 h2 h3 h4 (by omega) hX.1 (fun hB B fB => ⟨_, rfl, ?_⟩) (fun best i hb hB B lo hi fB g hHB => ⟨_, rfl, ?_⟩)⟩⟩) (fun _ _ z => z)
      · have h5' : MI x B := MI_k (m := []) h5 fB (by decide) (ff_eq (fB.1 55 (by decide))) (by decide)
        refine Ci_mono (d := 4) (by decide) (sM_common (d := 0) (P := fun x2 A2 => _ = x2 ∧ I A2) h1 h2 h3 h5' (by omega) (fun _ C fC => ⟨rfl, hI1 hx C (fr_mo (fr_tr fB fC) (by decide))⟩) (fun best i hb hB' C lo hi fC eC g hC pC => ?_)) (fun _ _ z => z)
        have := (bq_un hB hB').1
        omega
      · have h5' : MI x B := MI_k (m := []) h5 fB (by decide) (ff_eq (fB.1 55 (by decide))) (by decide)
        refine Ci_mono (d := 4) (by decide) (sM_common (d := 0) (P := fun x2 A2 => _ = x2 ∧ I A2) h1 h2 h3 h5' (by omega) (fun hB' => ?_) (fun best' i' hb' hB' C lo' hi' fC eC g' hC pC => ?_)) (fun _ _ z => z)
        · have := (bq_un hB hB').1
          omega
        · obtain ⟨rfl, e⟩ := bq_un hB hB'
          obtain rfl := e hb
          obtain ⟨rfl, rfl⟩ := rg_un h2 h3 g g' (al_rf _ _ _)
          refine ⟨rfl, hI hx C (fr_mo (fr_tr fB fC) (by decide)) (by rw [← fB.1 55 (by decide)]; exact eC) (hr_become (q := ixs x i) g (wq_lft (hB.2 hb).2.1) (al_rf _ _ _) ?_ hC pC)⟩
          unfold HdX
          rw [fC.1 17 (by decide)]
          exact hHB
  · exact bo_bad (d := 1) (d' := 1) (by decide) (by decide) hI0 (fun P hP => e_X10_common (d := 0) ⟨fun _ => ⟨_, rfl, hP⟩, fun _ => ⟨fun _ => ⟨_, rfl, hP⟩, fun z => by omega⟩⟩) (fun P hP => e_X11_common (d := 0) ⟨fun _ => w_X11_common_12 ⟨_, rfl, hP⟩, fun _ => ⟨fun z => by omega, fun _ => w_X11_common_12 ⟨_, rfl, hP⟩⟩⟩)
