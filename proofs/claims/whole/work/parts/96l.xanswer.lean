theorem sX_read {N : Nat} {t s : Nat → Int} {n : Nat} {A : iz_A} {P : Int → iz_A → Prop} (hs : Sg s n A) (hn : A.1 23 6 = (n : Int)) (hP : PrE (psm N t s n (n + 1) 0 0 0 (fun _ _ => False) (fun p q => p = q)) (fun e => ∀ C (v : Int), fr [23, 25, 26, 27, 28, 29] A C → C.1 23 8 = (e : Int) → P v C) (fun k zR => ∀ C, fr [23, 25, 26, 27, 28, 29] A C → C.1 23 6 = (n : Int) → RcS N t s n C (n + 1) 0 0 → ((k < n ∧ C.1 23 8 = (k : Int)) ∨ (¬ k < n ∧ C.1 23 8 = -2)) → P ((if 121 < zR.1 then 121 else zR.1 : Nat) : Int) C)) : Ci 93 58 [.inr (.inl 23)] A P := by
  have nb := hs.1
  have hs2 := fun i hi => (hs.2 i hi).2
  refine e_X6_read ?_
  have f : fr [23] A (iz_pI (iz_pI A 23 (uz (A.1 23) 7 0)) 23 (uz (uz (A.1 23) 7 0) 8 (-2))) := fr_pI (fr_pI (fr_mo (fr_rf A) (by decide)) (by decide)) (by decide)
  have q : Qo n ((0 : Nat) : Int) (-2) (iz_pI (iz_pI A 23 (uz (A.1 23) 7 0)) 23 (uz (uz (A.1 23) 7 0) 8 (-2))) := ⟨hn, rfl, rfl⟩
  generalize iz_pI (iz_pI A 23 (uz (A.1 23) 7 0)) 23 (uz (uz (A.1 23) 7 0) 8 (-2)) = B at *
  have big := sX_readSum (N := N) (t := t) (n + 1) 0 (by decide) 0 0 (fun _ _ => False) (fun p q => p = q) 0 B (fun x1 A1 => (¬ A1.1 23 8 = -2 → ∃ y, (some (.inl x1) : Option iz_V) = some (.inl y) ∧ P y A1) ∧ (A1.1 23 8 = -2 → ((A1.1 23 6 ≤ A1.1 23 7 → ∃ y, (some (.inl x1) : Option iz_V) = some (.inl y) ∧ P y A1) ∧ (¬ A1.1 23 6 ≤ A1.1 23 7 → ∃ y, (some (.inl x1) : Option iz_V) = some (.inl y) ∧ P y (iz_pI A1 23 (uz (A1.1 23) 8 (A1.1 23 7))))))) (sg_k hs f (by decide)) q (Nat.zero_le _) (by omega) (Nat.le_refl _) (PrE_mono hP (fun e _ h C v j' fC qC _ _ => ⟨fun _ => ⟨_, rfl, h C _ (fr_mo (fr_tr f fC) (by decide)) qC.2.2⟩, fun z => by rw [qC.2.2] at z; omega⟩) (fun k zR e0 h C fC qC pC rC => ⟨fun z => absurd qC.2.2 z, fun _ => ⟨fun z => ⟨_, rfl, ?_⟩, fun z => ⟨_, rfl, ?_⟩⟩⟩))
  · exact e_X6_readSum big
  · rw [qC.1, qC.2.1] at z
    exact h C (fr_mo (fr_tr f fC) (by decide)) qC.1 rC (Or.inr ⟨(by omega), qC.2.2⟩)
  · rw [qC.1, qC.2.1] at z
    have f2 : fr [23] C (iz_pI C 23 (uz (C.1 23) 8 (C.1 23 7))) := fr_pI (fr_mo (fr_rf C) (by decide)) (by decide)
    refine h _ (fr_mo (fr_tr f (fr_tr fC f2)) (by decide)) qC.1 ?_ (Or.inl ⟨(by omega), ?_⟩)
    · exact rcS_k (A := C) hs2 _ _ _ _ _ _ _ _ (Nat.zero_le n) e0 (un_pf (pf_fr (e := k) f2 (by decide)) _) rC
    · show C.1 23 7 = _
      exact qC.2.1
theorem sX_answer {x : Ix} {s : Nat → Int} {n : Nat} {A : iz_A} {P : Int → iz_A → Prop} (hx : TxOk x) (hA : XI x A) (hs : Sg s n A) (hn : A.1 23 6 = (n : Int)) (hP : PrE (psm (ixn x) (ixt x) s n (n + 1) 0 0 0 (fun _ _ => False) (fun p q => p = q)) (fun e => ∀ C, fr [23, 25, 26, 27, 28, 29] A C → C.1 23 6 = 0 → P (-2 - (e : Int)) C) (fun k zR => (k < n → ∀ C, fr [23, 25, 26, 27, 28, 29] A C → C.1 23 6 = 0 → P (-2 - (k : Int)) C) ∧ (¬ k < n → 120 < zR.1 → ∀ C, fr [23, 25, 26, 27, 28, 29] A C → C.1 23 6 = 0 → P (-1000) C) ∧ (¬ k < n → ¬ 120 < zR.1 → ∀ C, fr [23, 25, 26, 27, 28, 29, 30, 31, 32, 33, 34, 35, 36, 37, 38, 39, 40, 41, 42, 43] A C → C.1 23 6 = 0 → FdX zR.2 (ixn x) C → P (cnM (Mp zR.2) (ixn x) : Int) C))) : Ci 94 138 [.inr (.inl 0)] A P := by
  have nb := hs.1
  have n1 := n_pos hx
  have n3 := hx.2.2.1
  have hs2 := fun i hi => (hs.2 i hi).2
  have put : ∀ {B : iz_A} {l : List Nat}, fr l A B → 23 ∈ l → fr l A (iz_pI B 23 (uz (B.1 23) 6 0)) := fun f h => fr_pI f h
  refine e_X10_answer ⟨fun _ => ?_, fun z => by rw [hA.1] at z; omega⟩
  -- a wrong sign
  have bad : ∀ (B : iz_A) (e : Nat) (x1 : Int) (Z : Prop), e ≤ 300 → B.1 23 8 = (e : Int) → P (-2 - (e : Int)) (iz_pI B 23 (uz (B.1 23) 6 0)) → ((¬ B.1 23 8 = -2 → ((B.1 23 8 = -2 → Z) ∧ (¬ B.1 23 8 = -2 → inR (-2 - B.1 23 8) ∧ ∃ y, (some (.inl (-2 - B.1 23 8)) : Option iz_V) = some (.inl y) ∧ P y (iz_pI B 23 (uz (B.1 23) 6 0)))))) := fun B e x1 Z eb e8 h => by
    rw [e8]
    exact fun _ => ⟨fun w => by omega, fun _ => ⟨inR_b (by omega) (by omega), _, rfl, h⟩⟩
  refine sX_read (N := ixn x) (t := ixt x) hs hn ?_
  rcases hr : psm (ixn x) (ixt x) s n (n + 1) 0 0 0 (fun _ _ => False) (fun p q => p = q) with e | ⟨k, zR⟩
  · rw [hr] at hP
    have eb := psm_er hs2 _ _ _ _ _ _ _ (Nat.zero_le n) hr
    intro C v f e8
    exact ⟨bad C e v _ (by omega) e8 (hP _ (put f (by decide)) rfl), fun z => by rw [e8] at z; omega⟩
  · rw [hr] at hP
    have kb := (psm_ok hs2 _ _ _ _ _ _ _ _ (Nat.zero_le n) hr).2.1
    intro C f c6 rc h8
    rcases h8 with ⟨kn, e8⟩ | ⟨kn, e8⟩
    · exact ⟨bad C k 0 _ (by omega) e8 (hP.1 kn _ (put f (by decide)) rfl), fun z => by rw [e8] at z; omega⟩
    · refine ⟨fun z => absurd e8 z, fun _ => ?_⟩
      by_cases g : 120 < zR.1
      · have big : (120 : Int) < ((if 121 < zR.1 then 121 else zR.1 : Nat) : Int) := by split <;> omega
        refine ⟨fun _ => ⟨fun _ => ⟨fun w => by omega, fun _ => ⟨_, rfl, hP.2.1 kn g _ (put f (by decide)) rfl⟩⟩, fun z => absurd e8 z⟩, fun z => absurd big z⟩
      · have sm : (if 121 < zR.1 then 121 else zR.1 : Nat) = zR.1 := by rw [if_neg (by omega)]
        rw [sm]
        refine ⟨fun z => by omega, fun _ => ?_⟩
        have XC : XI x C := XI_k hA f (by decide)
        refine Cv_mono (d := 87) (by decide) (sX_query hx XC (sg_k hs f (by decide)) c6 hr rc (by omega) (P := fun A4 => (C.1 23 8 = -2 → ((((zR.1 : Nat) : Int) ≤ 120 → Ci 93 33 [.inr (.inl 30)] (iz_pI A4 23 (uz (A4.1 23) 6 0)) (fun x5 A5 => ∃ y, (some (.inl x5) : Option iz_V) = some (.inl y) ∧ P y A5)) ∧ (¬ ((zR.1 : Nat) : Int) ≤ 120 → ∃ y, (some (.inl (-1000)) : Option iz_V) = some (.inl y) ∧ P y (iz_pI A4 23 (uz (A4.1 23) 6 0))))) ∧ (¬ C.1 23 8 = -2 → inR (-2 - C.1 23 8) ∧ ∃ y, (some (.inl (-2 - C.1 23 8)) : Option iz_V) = some (.inl y) ∧ P y (iz_pI A4 23 (uz (A4.1 23) 6 0)))) (fun E fE gE fd => ⟨fun _ => ⟨fun _ => ?_, fun z => by omega⟩, fun z => absurd e8 z⟩)) (fun _ h => h)
        have cN := cnM_le (Mp zR.2) (ixn x)
        have fd' : FdX zR.2 (ixn x) (iz_pI E 23 (uz (E.1 23) 6 0)) := fd
        have e10 : (iz_pI E 23 (uz (E.1 23) 6 0)).1 30 10 = 3000 - (cnM (Mp zR.2) (ixn x) : Int) := fd.1
        refine e_X3_found ?_
        rw [e10]
        refine ⟨inR_b (by omega) (by omega), _, rfl, _, rfl, ?_⟩
        rw [show (3000 : Int) - (3000 - (cnM (Mp zR.2) (ixn x) : Int)) = (cnM (Mp zR.2) (ixn x) : Int) by omega]
        exact hP.2.2 kn g _ (fr_pI (fr_mo (fr_tr f fE) (by decide)) (by decide)) rfl fd'
