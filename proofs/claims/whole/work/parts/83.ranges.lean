theorem gby_ok {s : Nat → Int} {n j k : Nat} {c : Int} (hs : ∀ i, i < n → 32 ≤ s i ∧ s i ≤ 126) (h : gby s n j = .inr (k, c)) : j < k ∧ k ≤ n ∧ 32 ≤ c ∧ c ≤ 126 := by
  unfold gby at h
  by_cases h1 : j < n
  · rw [if_pos h1] at h
    by_cases h2 : s j = 92
    · rw [if_pos h2] at h
      by_cases h3 : j + 1 < n
      · rw [if_pos h3] at h
        cases h
        have := hs (j + 1) h3
        omega
      · rw [if_neg h3] at h; cases h
    · rw [if_neg h2] at h
      cases h
      have := hs j h1
      omega
  · rw [if_neg h1] at h; cases h
theorem gby_er {s : Nat → Int} {n j e : Nat} (hj : j ≤ n) (h : gby s n j = .inl e) : e ≤ n ∧ j ≤ e := by
  unfold gby at h
  by_cases h1 : j < n
  · rw [if_pos h1] at h
    by_cases h2 : s j = 92
    · rw [if_pos h2] at h
      by_cases h3 : j + 1 < n
      · rw [if_pos h3] at h; cases h
      · rw [if_neg h3] at h; cases h; omega
    · rw [if_neg h2] at h; cases h
  · rw [if_neg h1] at h; cases h; omega
theorem grb_ok {s : Nat → Int} {n j k : Nat} {c : Int} (hs : ∀ i, i < n → 32 ≤ s i ∧ s i ≤ 126) (h : grb s n j = .inr (k, c)) : j < k ∧ k ≤ n ∧ 32 ≤ c ∧ c ≤ 126 := by
  unfold grb at h
  by_cases h1 : j < n ∧ (s j = 91 ∨ s j = 93 ∨ s j = 45)
  · rw [if_pos h1] at h; cases h
  · rw [if_neg h1] at h; exact gby_ok hs h
theorem grb_er {s : Nat → Int} {n j e : Nat} (hj : j ≤ n) (h : grb s n j = .inl e) : e ≤ n ∧ j ≤ e := by
  unfold grb at h
  by_cases h1 : j < n ∧ (s j = 91 ∨ s j = 93 ∨ s j = 45)
  · rw [if_pos h1] at h; cases h; omega
  · rw [if_neg h1] at h; exact gby_er hj h
theorem grg_ok {s : Nat → Int} {n j k : Nat} {ab : Int × Int} (hs : ∀ i, i < n → 32 ≤ s i ∧ s i ≤ 126) (h : grg s n j = .inr (k, ab)) : j < k ∧ k ≤ n := by
  obtain ⟨k1, a, e1, h⟩ := bnd_ok h
  have o1 := grb_ok hs e1
  by_cases c : k1 < n ∧ s k1 = 45
  · rw [if_pos c] at h
    obtain ⟨k2, b, e2, h⟩ := bnd_ok h
    have o2 := grb_ok hs e2
    by_cases y : b < a
    · rw [if_pos y] at h; cases h
    · rw [if_neg y] at h; cases h; omega
  · rw [if_neg c] at h; cases h; omega
/-- nothing but the set of item i changes among the sets -/
def Ou (i : Nat) (A C : iz_A) : Prop := ∀ q, (q < 4 * i ∨ 4 * i + 4 ≤ q) → C.2 29 q = A.2 29 q
theorem ou_tr {i : Nat} {A B C : iz_A} (h : Ou i A B) (h' : Ou i B C) : Ou i A C := fun q hq => (h' q hq).trans (h q hq)
theorem ou_23 {i : Nat} {A C : iz_A} {l : List Nat} (f : fr l A C) (hl : 29 ∉ l) : Ou i A C := fun q _ => by rw [f.2 29 hl]
theorem mb_23 {A C : iz_A} {l : List Nat} (f : fr l A C) (hl : 29 ∉ l) (i c : Nat) : mb C i c ↔ mb A i c := by
  unfold mb
  rw [f.2 29 hl]
theorem sX_range {d n j i : Nat} {A : iz_A} {s : Nat → Int} {P : iz_A → Prop} (hs : Sg s n A) (hq : Qo n j (-2) A) (hi : i < 200) (hj : j ≤ n) (hP : PrE (grg s n j) (fun e => ∀ C (j' : Nat), fr [23, 29] A C → Qo n j' e C → j' ≤ n + 1 → Ou i A C → P C) (fun k ab => ∀ C, fr [23, 29] A C → Qo n k (-2) C → (∀ c : Nat, c < 256 → (mb C i c ↔ mb A i c ∨ (ab.1 ≤ (c : Int) ∧ (c : Int) ≤ ab.2))) → Ou i A C → P C)) : Cv (d + 4) 71 [.inr (.inl 23), .inl (i : Int)] A P := by
  have nb := hs.1
  have hs2 := fun i hi => (hs.2 i hi).2
  have hP := PrE_bnd.1 hP
  refine e_X6_readRange (sX_rbyte hs hq (PrE_mono hP (fun e e1 h C f hC => ?_) (fun k a e1 h C f hC => ?_)))
  · have eb := grb_er hj e1
    refine ⟨fun _ => sX_addBytes hi (by decide) (by decide) fun D fD _ oD => ⟨rfl, h D e (fr_mo (fr_tr f fD) (by decide)) ⟨?_, ?_, ?_⟩ (by omega) (ou_tr (ou_23 f (by decide)) oD)⟩, fun z => ?_⟩
    · rw [fD.1 23 (by decide)]; exact hC.1
    · rw [fD.1 23 (by decide)]; exact hC.2.1
    · rw [fD.1 23 (by decide)]; exact hC.2.2
    · have := hC.2.2
      omega
  · have o1 := grb_ok hs2 e1
    have hsC := sg_k hs f (by decide)
    refine ⟨fun z => absurd hC.2.2 z, fun _ => sX_comes hsC hC (fun hk h45 => ⟨fun z => absurd z n10, fun _ => ?_⟩) (fun hn => ⟨fun _ => ?_, fun z => absurd rfl z⟩)⟩
    · rw [if_pos ⟨hk, h45⟩] at h
      have h := PrE_bnd.1 h
      rw [hC.2.1]
      refine ⟨inR_b (by omega) (by omega), ?_⟩
      have fC2 : fr [23] A (iz_pI C 23 (uz (C.1 23) 7 ((k : Int) + 1))) := fr_pI f (by decide)
      have qC2 : Qo n ((k + 1 : Nat) : Int) (-2) (iz_pI C 23 (uz (C.1 23) 7 ((k : Int) + 1))) := ⟨hC.1, (show (k : Int) + 1 = ((k + 1 : Nat) : Int) by omega), hC.2.2⟩
      refine sX_rbyte (sg_k hs fC2 (by decide)) qC2 (PrE_mono h (fun e e2 h D fD hD => ?_) (fun k2 b e2 h D fD hD => ?_))
      · have eb := grb_er (show k + 1 ≤ n by omega) e2
        refine ⟨fun _ => sX_addBytes hi (by omega) (by decide) fun E fE _ oE => ⟨rfl, h E e (fr_mo (fr_tr fC2 (fr_tr fD fE)) (by decide)) ⟨?_, ?_, ?_⟩ (by omega) (ou_tr (ou_23 fC2 (by decide)) (ou_tr (ou_23 fD (by decide)) oE))⟩, fun z => ?_⟩
        · rw [fE.1 23 (by decide)]; exact hD.1
        · rw [fE.1 23 (by decide)]; exact hD.2.1
        · rw [fE.1 23 (by decide)]; exact hD.2.2
        · have := hD.2.2
          omega
      · have o2 := grb_ok hs2 e2
        refine ⟨fun z => absurd hD.2.2 z, fun _ => ⟨fun y => ?_, fun y => ?_⟩⟩
        · rw [if_neg (by omega)] at h
          refine sX_addBytes hi (by omega) (by omega) fun E fE mE oE => ⟨rfl, h E (fr_mo (fr_tr fC2 (fr_tr fD fE)) (by decide)) ⟨?_, ?_, ?_⟩ (fun c hc => ?_) (ou_tr (ou_23 fC2 (by decide)) (ou_tr (ou_23 fD (by decide)) oE))⟩
          · rw [fE.1 23 (by decide)]; exact hD.1
          · rw [fE.1 23 (by decide)]; exact hD.2.1
          · rw [fE.1 23 (by decide)]; exact hD.2.2
          · rw [mE c hc, mb_23 fD (by decide), mb_23 fC2 (by decide)]
        · rw [if_pos (by omega)] at h
          have fD2 : fr [23] D (iz_pI D 23 (uz (D.1 23) 8 ((k : Int) + 1))) := fr_pI (fr_mo (fr_rf D) (by decide)) (by decide)
          refine sX_addBytes hi (by omega) (by omega) fun E fE _ oE => ⟨rfl, h E k2 (fr_mo (fr_tr fC2 (fr_tr fD (fr_tr fD2 fE))) (by decide)) ⟨?_, ?_, ?_⟩ (by omega) (ou_tr (ou_23 fC2 (by decide)) (ou_tr (ou_23 fD (by decide)) (ou_tr (ou_23 fD2 (by decide)) oE)))⟩
          · rw [fE.1 23 (by decide)]; exact hD.1
          · rw [fE.1 23 (by decide)]; exact hD.2.1
          · rw [fE.1 23 (by decide)]; exact (show (k : Int) + 1 = ((k + 1 : Nat) : Int) by omega)
    · rw [if_neg hn] at h
      refine sX_addBytes hi (by omega) (by omega) fun E fE mE oE => ⟨rfl, h E (fr_mo (fr_tr f fE) (by decide)) ⟨?_, ?_, ?_⟩ (fun c hc => ?_) (ou_tr (ou_23 f (by decide)) oE)⟩
      · rw [fE.1 23 (by decide)]; exact hC.1
      · rw [fE.1 23 (by decide)]; exact hC.2.1
      · rw [fE.1 23 (by decide)]; exact hC.2.2
      · rw [mE c hc, mb_23 f (by decide)]
