/-! ===== the reference reads signs ===== -/
def Qm (n : Nat) (j w : Int) (C : iz_A) : Prop := C.1 55 31 = (n : Int) ∧ C.1 55 38 = j ∧ C.1 55 37 = w
def SgM (s : Nat → Int) (n : Nat) (A : iz_A) : Prop := n ≤ 200 ∧ ∀ i, i < n → A.1 73 i = s i ∧ 32 ≤ s i ∧ s i ≤ 126
theorem sgM_k {s : Nat → Int} {n : Nat} {A C : iz_A} {l : List Nat} (h : SgM s n A) (f : fr l A C) (hl : 73 ∉ l) : SgM s n C := by
  unfold SgM at h ⊢
  rw [f.1 73 hl]
  exact h
theorem qm_k {n : Nat} {j w : Int} {A C : iz_A} {m : List Nat} (h : Qm n j w A) (g : ff m (A.1 55) (C.1 55)) (hm : ∀ q ∈ [31, 37, 38], q ∉ m) : Qm n j w C := ⟨(g 31 (hm 31 (by decide))).trans h.1, (g 38 (hm 38 (by decide))).trans h.2.1, (g 37 (hm 37 (by decide))).trans h.2.2⟩
theorem sM_sign {d n j : Nat} {A : iz_A} {s : Nat → Int} {w : Int} {P : Int → iz_A → Prop} (hs : SgM s n A) (hq : Qm n j w A) (hP : P (if j < n then s j else -1) A) : Ci (d + 1) 204 [.inr (.inl 55)] A P := by
  have nb := hs.1
  refine e_X11_sign ?_
  rw [hq.1, hq.2.1]
  refine ⟨fun z => ⟨_, rfl, ?_⟩, fun z => ?_⟩
  · rw [if_neg (by omega)] at hP; exact hP
  · rw [if_pos (by omega)] at hP
    rw [tn, (hs.2 j (by omega)).1]
    exact ⟨⟨by omega, by omega⟩, _, rfl, hP⟩
theorem sM_fail {d n : Nat} {A : iz_A} {j v : Int} {P : iz_A → Prop} (hq : Qm n j (-1) A) (hP : ∀ C, fr [55] A C → ff [37] (A.1 55) (C.1 55) → Qm n j v C → P C) : Cv (d + 1) 205 [.inr (.inl 55), .inl v] A P := by
  refine e_X11_fail ?_
  rw [hq.2.2]
  exact ⟨fun z => absurd z (by decide), fun _ => ⟨rfl, hP _ (fr_pI (fr_mo (fr_rf A) (by decide)) (by decide)) (ff_uz (ff_eq rfl) (by decide)) ⟨hq.1, hq.2.1, rfl⟩⟩⟩
theorem sM_number {d n j : Nat} {A : iz_A} {s : Nat → Int} {P : Int → iz_A → Prop} (hs : SgM s n A) (hq : Qm n j (-1) A) (hP : PrE (gnu s n j) (fun e => ∀ C, fr [55] A C → ff [37, 38] (A.1 55) (C.1 55) → Qm n e e C → P 0 C) (fun k v => ∀ C, fr [55] A C → ff [37, 38] (A.1 55) (C.1 55) → Qm n k (-1) C → P v C)) : Ci (d + 2) 207 [.inr (.inl 55)] A P := by
  have nb := hs.1
  have isf : ∀ {d : Nat} {B : iz_A} {v : Int} {R : Int → iz_A → Prop}, (48 ≤ v ∧ v ≤ 57 → R 1 B) → (¬ (48 ≤ v ∧ v ≤ 57) → R 0 B) → Ci (d + 1) 206 [.inl v] B R := fun h1 h0 => e_X11_isFigure ⟨fun z => ⟨Or.inl rfl, _, rfl, h0 (by omega)⟩, fun z => ⟨fun z2 => ⟨Or.inl rfl, _, rfl, h0 (by omega)⟩, fun z2 => ⟨Or.inr rfl, _, rfl, h1 (by omega)⟩⟩⟩
  unfold gnu at hP
  refine e_X11_number (sM_sign hs hq (isf (fun hf => ⟨fun _ => sM_sign hs hq ?_, fun z => absurd z n10⟩) (fun hn => ⟨fun z => absurd rfl z, fun _ => ?_⟩)))
  · have hj : j < n := by
      by_cases c : j < n
      · exact c
      · rw [if_neg c] at hf; omega
    rw [if_pos hj] at hf ⊢
    rw [if_pos ⟨hj, hf⟩] at hP
    rw [hq.2.1]
    have fB : fr [55] A (iz_pI A 55 (uz (A.1 55) 38 ((j : Int) + 1))) := fr_pI (fr_mo (fr_rf A) (by decide)) (by decide)
    have gB : ff [37, 38] (A.1 55) ((iz_pI A 55 (uz (A.1 55) 38 ((j : Int) + 1))).1 55) := ff_uz (ff_eq rfl) (by decide)
    have qB : Qm n ((j + 1 : Nat) : Int) (-1) (iz_pI A 55 (uz (A.1 55) 38 ((j : Int) + 1))) := ⟨hq.1, (show (j : Int) + 1 = ((j + 1 : Nat) : Int) by omega), hq.2.2⟩
    have hsB := sgM_k hs fB (by decide)
    refine ⟨inR_b (by omega) (by omega), inR_b (by omega) (by omega), sM_sign hsB qB (isf (fun hf2 => ⟨fun z => absurd z n10, fun _ => ⟨inR_b (by omega) (by omega), sM_sign hsB qB ?_⟩⟩) (fun hn2 => ⟨fun _ => ⟨_, rfl, ?_⟩, fun z => absurd rfl z⟩))⟩
    · have hj2 : j + 1 < n := by
        by_cases c : j + 1 < n
        · exact c
        · rw [if_neg c] at hf2; omega
      rw [if_pos hj2] at hf2 ⊢
      rw [if_pos ⟨hj2, hf2⟩] at hP
      rw [qB.2.1]
      exact ⟨inR_b (by omega) (by omega), inR_b (by omega) (by omega), inR_b (by omega) (by omega), _, rfl, hP _ (fr_pI fB (by decide)) (ff_uz gB (by decide)) ⟨qB.1, (show ((j + 1 : Nat) : Int) + 1 = ((j + 2 : Nat) : Int) by omega), qB.2.2⟩⟩
    · rw [if_neg (fun y => hn2 (by rw [if_pos y.1]; exact y.2))] at hP
      exact hP _ fB gB qB
  · rw [if_neg (fun y => hn (by rw [if_pos y.1]; exact y.2))] at hP
    rw [hq.2.1]
    refine sM_fail hq fun C fC gC qC => ⟨_, rfl, hP C fC (ff_mo gC (by decide)) qC⟩
theorem sM_braces {d n j : Nat} {A : iz_A} {s : Nat → Int} {P : iz_A → Prop} (hs : SgM s n A) (hq : Qm n j (-1) A) (hj : j < n) (hP : PrE (gns s n j) (fun e => ∀ C (j' : Nat), fr [55] A C → ff [37, 38, 45, 46] (A.1 55) (C.1 55) → Qm n j' e C → j' ≤ n + 2 → (0 ≤ C.1 55 45 ∧ C.1 55 45 ≤ 99) → (-1 ≤ C.1 55 46 ∧ C.1 55 46 ≤ 99) → P C) (fun k ab => ∀ C, fr [55] A C → ff [37, 38, 45, 46] (A.1 55) (C.1 55) → Qm n k (-1) C → C.1 55 45 = ab.1 → C.1 55 46 = ab.2 → P C)) : Cv (d + 3) 208 [.inr (.inl 55)] A P := by
  have nb := hs.1
  have hP := PrE_bnd.1 hP
  refine e_X11_braces ?_
  rw [hq.2.1]
  have fB : fr [55] A (iz_pI A 55 (uz (A.1 55) 38 ((j : Int) + 1))) := fr_pI (fr_mo (fr_rf A) (by decide)) (by decide)
  have gB : ff [37, 38, 45, 46] (A.1 55) ((iz_pI A 55 (uz (A.1 55) 38 ((j : Int) + 1))).1 55) := ff_uz (ff_eq rfl) (by decide)
  have qB : Qm n ((j + 1 : Nat) : Int) (-1) (iz_pI A 55 (uz (A.1 55) 38 ((j : Int) + 1))) := ⟨hq.1, (show (j : Int) + 1 = ((j + 1 : Nat) : Int) by omega), hq.2.2⟩
  -- the end of the braces
  have close : ∀ B (k : Nat) (a b : Int), fr [55] A B → ff [37, 38, 45, 46] (A.1 55) (B.1 55) → Qm n k (-1) B → k ≤ n → B.1 55 45 = a → B.1 55 46 = b → (0 ≤ a ∧ a ≤ 99) → (-1 ≤ b ∧ b ≤ 99) → PrE (gcb s n k a b) (fun e => ∀ C (j' : Nat), fr [55] A C → ff [37, 38, 45, 46] (A.1 55) (C.1 55) → Qm n j' e C → j' ≤ n + 2 → (0 ≤ C.1 55 45 ∧ C.1 55 45 ≤ 99) → (-1 ≤ C.1 55 46 ∧ C.1 55 46 ≤ 99) → P C) (fun k ab => ∀ C, fr [55] A C → ff [37, 38, 45, 46] (A.1 55) (C.1 55) → Qm n k (-1) C → C.1 55 45 = ab.1 → C.1 55 46 = ab.2 → P C) → Ci (d + 2) 204 [.inr (.inl 55)] B (fun x2 A2 => (x2 = 125 → inR (A2.1 55 38 + 1) ∧ none = (none : Option iz_V) ∧ P (iz_pI A2 55 (uz (A2.1 55) 38 (A2.1 55 38 + 1)))) ∧ (¬ x2 = 125 → Cv (d + 2) 205 [.inr (.inl 55), .inl (A2.1 55 38)] A2 (fun A3 => inR (A3.1 55 38 + 1) ∧ none = (none : Option iz_V) ∧ P (iz_pI A3 55 (uz (A3.1 55) 38 (A3.1 55 38 + 1)))))) := fun B k a b fB gB qB kb ea eb ha hb h => by
    unfold gcb at h
    refine sM_sign (sgM_k hs fB (by decide)) qB ⟨fun y => ?_, fun y => ?_⟩
    · have kn : k < n := by
        by_cases c : k < n
        · exact c
        · rw [if_neg c] at y; omega
      rw [if_pos kn] at y
      rw [if_pos ⟨kn, y⟩] at h
      rw [qB.2.1]
      exact ⟨inR_b (by omega) (by omega), rfl, h _ (fr_pI fB (by decide)) (ff_uz gB (by decide)) ⟨qB.1, (show (k : Int) + 1 = ((k + 1 : Nat) : Int) by omega), qB.2.2⟩ ea eb⟩
    · rw [if_neg (fun w => y (by rw [if_pos w.1]; exact w.2))] at h
      rw [qB.2.1]
      refine sM_fail qB fun C fC gC qC => ?_
      rw [qC.2.1]
      refine ⟨inR_b (by omega) (by omega), rfl, h _ (k + 1) (fr_pI (fr_mo (fr_tr fB fC) (by decide)) (by decide)) (ff_uz (ff_tr gB (ff_mo gC (by decide))) (by decide)) ⟨qC.1, (show (k : Int) + 1 = ((k + 1 : Nat) : Int) by omega), qC.2.2⟩ (by omega) ?_ ?_⟩
      · show 0 ≤ C.1 55 45 ∧ C.1 55 45 ≤ 99
        rw [gC 45 (by decide), ea]; exact ha
      · show -1 ≤ C.1 55 46 ∧ C.1 55 46 ≤ 99
        rw [gC 46 (by decide), eb]; exact hb
  have err : ∀ B (e k : Nat), fr [55] A B → ff [37, 38, 45, 46] (A.1 55) (B.1 55) → Qm n k e B → k ≤ n + 1 → (0 ≤ B.1 55 45 ∧ B.1 55 45 ≤ 99) → (-1 ≤ B.1 55 46 ∧ B.1 55 46 ≤ 99) → (∀ C (j' : Nat), fr [55] A C → ff [37, 38, 45, 46] (A.1 55) (C.1 55) → Qm n j' e C → j' ≤ n + 2 → (0 ≤ C.1 55 45 ∧ C.1 55 45 ≤ 99) → (-1 ≤ C.1 55 46 ∧ C.1 55 46 ≤ 99) → P C) → inR (B.1 55 38 + 1) ∧ none = (none : Option iz_V) ∧ P (iz_pI B 55 (uz (B.1 55) 38 (B.1 55 38 + 1))) := fun B e k fB gB qB kb ha hb h => by
    rw [qB.2.1]
    exact ⟨inR_b (by omega) (by omega), rfl, h _ (k + 1) (fr_pI fB (by decide)) (ff_uz gB (by decide)) ⟨qB.1, (show (k : Int) + 1 = ((k + 1 : Nat) : Int) by omega), qB.2.2⟩ (by omega) ha hb⟩
  refine ⟨inR_b (by omega) (by omega), sM_number (sgM_k hs fB (by decide)) qB (PrE_mono hP (fun e e1 h C fC gC qC => ?_) (fun k a e1 h C fC gC qC => ?_))⟩
  · have := gnu_er e1
    have fC2 : fr [55] A (iz_pI (iz_pI C 55 (uz (C.1 55) 45 0)) 55 (uz (uz (C.1 55) 45 0) 46 0)) := fr_pI (fr_pI (fr_mo (fr_tr fB fC) (by decide)) (by decide)) (by decide)
    have gC2 : ff [37, 38, 45, 46] (A.1 55) ((iz_pI (iz_pI C 55 (uz (C.1 55) 45 0)) 55 (uz (uz (C.1 55) 45 0) 46 0)).1 55) := ff_uz (ff_uz (ff_tr gB (ff_mo gC (by decide))) (by decide)) (by decide)
    refine ⟨fun _ => ⟨fun _ => ?_, fun z => ?_⟩, fun z => ?_⟩
    · exact err _ e e fC2 gC2 ⟨qC.1, qC.2.1, qC.2.2⟩ (by omega) ⟨(show (0 : Int) ≤ 0 by decide), (show (0 : Int) ≤ 99 by decide)⟩ ⟨(show (-1 : Int) ≤ 0 by decide), (show (0 : Int) ≤ 99 by decide)⟩ h
    · have := qC.2.2
      omega
    · have := qC.2.2
      omega
  · have o1 := gnu_ok e1
    have fC2 : fr [55] A (iz_pI (iz_pI C 55 (uz (C.1 55) 45 a)) 55 (uz (uz (C.1 55) 45 a) 46 a)) := fr_pI (fr_pI (fr_mo (fr_tr fB fC) (by decide)) (by decide)) (by decide)
    have gC2 : ff [37, 38, 45, 46] (A.1 55) ((iz_pI (iz_pI C 55 (uz (C.1 55) 45 a)) 55 (uz (uz (C.1 55) 45 a) 46 a)).1 55) := ff_uz (ff_uz (ff_tr gB (ff_mo gC (by decide))) (by decide)) (by decide)
    have qC2 : Qm n k (-1) (iz_pI (iz_pI C 55 (uz (C.1 55) 45 a)) 55 (uz (uz (C.1 55) 45 a) 46 a)) := ⟨qC.1, qC.2.1, qC.2.2⟩
    have a45 : (iz_pI (iz_pI C 55 (uz (C.1 55) 45 a)) 55 (uz (uz (C.1 55) 45 a) 46 a)).1 55 45 = a := rfl
    have a46 : (iz_pI (iz_pI C 55 (uz (C.1 55) 45 a)) 55 (uz (uz (C.1 55) 45 a) 46 a)).1 55 46 = a := rfl
    refine ⟨fun z => by have := qC.2.2; omega, fun _ => ?_⟩
    generalize iz_pI (iz_pI C 55 (uz (C.1 55) 45 a)) 55 (uz (uz (C.1 55) 45 a) 46 a) = C2 at *
    have hsC2 := sgM_k hs fC2 (by decide)
    refine sM_sign hsC2 qC2 ⟨fun y => ⟨fun z => by have := qC2.2.2; omega, fun _ => ?_⟩, fun y => ?_⟩
    · rw [if_neg (fun w => y (by rw [if_pos w.1]; exact w.2))] at h
      exact close C2 k a a fC2 gC2 qC2 (by omega) a45 a46 (by omega) (by omega) h
    · have kn : k < n := by
        by_cases c : k < n
        · exact c
        · rw [if_neg c] at y; omega
      rw [if_pos kn] at y
      rw [if_pos ⟨kn, y⟩] at h
      rw [qC2.2.1]
      have fD : fr [55] A (iz_pI (iz_pI C2 55 (uz (C2.1 55) 38 ((k : Int) + 1))) 55 (uz (uz (C2.1 55) 38 ((k : Int) + 1)) 46 (-1))) := fr_pI (fr_pI fC2 (by decide)) (by decide)
      have gD : ff [37, 38, 45, 46] (A.1 55) ((iz_pI (iz_pI C2 55 (uz (C2.1 55) 38 ((k : Int) + 1))) 55 (uz (uz (C2.1 55) 38 ((k : Int) + 1)) 46 (-1))).1 55) := ff_uz (ff_uz gC2 (by decide)) (by decide)
      have qD : Qm n ((k + 1 : Nat) : Int) (-1) (iz_pI (iz_pI C2 55 (uz (C2.1 55) 38 ((k : Int) + 1))) 55 (uz (uz (C2.1 55) 38 ((k : Int) + 1)) 46 (-1))) := ⟨qC2.1, (show (k : Int) + 1 = ((k + 1 : Nat) : Int) by omega), qC2.2.2⟩
      have d45 : (iz_pI (iz_pI C2 55 (uz (C2.1 55) 38 ((k : Int) + 1))) 55 (uz (uz (C2.1 55) 38 ((k : Int) + 1)) 46 (-1))).1 55 45 = a := a45
      have d46 : (iz_pI (iz_pI C2 55 (uz (C2.1 55) 38 ((k : Int) + 1))) 55 (uz (uz (C2.1 55) 38 ((k : Int) + 1)) 46 (-1))).1 55 46 = -1 := rfl
      generalize iz_pI (iz_pI C2 55 (uz (C2.1 55) 38 ((k : Int) + 1))) 55 (uz (uz (C2.1 55) 38 ((k : Int) + 1)) 46 (-1)) = D at *
      have hsD := sgM_k hs fD (by decide)
      refine ⟨inR_b (by omega) (by omega), sM_sign hsD qD ⟨fun w => ⟨fun z => by have := qD.2.2; omega, fun _ => ?_⟩, fun w => ?_⟩⟩
      · have kn2 : k + 1 < n := by
          by_cases c : k + 1 < n
          · exact c
          · rw [if_neg c] at w; omega
        rw [if_pos kn2] at w
        rw [if_pos ⟨kn2, w⟩] at h
        refine close D (k + 1) a (-1) fD gD qD (by omega) d45 d46 (by omega) (by decide) ?_
        unfold gcb
        rw [if_pos ⟨kn2, w⟩]
        exact h
      · rw [if_neg (fun u => w (by rw [if_pos u.1]; exact u.2))] at h
        have h := PrE_bnd.1 h
        refine sM_number hsD qD (PrE_mono h (fun e e2 h E fE gE qE => ?_) (fun k2 b e2 h E fE gE qE => ?_))
        · have := gnu_er e2
          have fE2 : fr [55] A (iz_pI E 55 (uz (E.1 55) 46 0)) := fr_pI (fr_mo (fr_tr fD fE) (by decide)) (by decide)
          have gE2 : ff [37, 38, 45, 46] (A.1 55) ((iz_pI E 55 (uz (E.1 55) 46 0)).1 55) := ff_uz (ff_tr gD (ff_mo gE (by decide))) (by decide)
          refine ⟨fun _ => ⟨fun _ => ?_, fun z => by have := qE.2.2; omega⟩, fun z => by have := qE.2.2; omega⟩
          refine err _ e e fE2 gE2 ⟨qE.1, qE.2.1, qE.2.2⟩ (by omega) ?_ ⟨(show (-1 : Int) ≤ 0 by decide), (show (0 : Int) ≤ 99 by decide)⟩ h
          show 0 ≤ E.1 55 45 ∧ E.1 55 45 ≤ 99
          rw [gE 45 (by decide), d45]; omega
        · have o2 := gnu_ok e2
          have fE2 : fr [55] A (iz_pI E 55 (uz (E.1 55) 46 b)) := fr_pI (fr_mo (fr_tr fD fE) (by decide)) (by decide)
          have gE2 : ff [37, 38, 45, 46] (A.1 55) ((iz_pI E 55 (uz (E.1 55) 46 b)).1 55) := ff_uz (ff_tr gD (ff_mo gE (by decide))) (by decide)
          have e45 : (iz_pI E 55 (uz (E.1 55) 46 b)).1 55 45 = a := (gE 45 (by decide)).trans d45
          have qE2 : Qm n k2 (-1) (iz_pI E 55 (uz (E.1 55) 46 b)) := ⟨qE.1, qE.2.1, qE.2.2⟩
          refine ⟨fun z => by have := qE.2.2; omega, fun _ => ⟨fun u => ⟨fun z => by have := qE.2.2; omega, fun _ => ?_⟩, fun u => ?_⟩⟩
          · rw [show E.1 55 45 = a from e45] at u
            rw [if_neg (by omega)] at h
            exact close _ k2 a b fE2 gE2 qE2 (by omega) e45 rfl (by omega) (by omega) h
          · rw [show E.1 55 45 = a from e45] at u
            rw [if_pos (by omega)] at h
            rw [qD.2.1]
            refine sM_fail qE2 fun G fG gG qG => ⟨fun _ => ?_, fun z => by have := qG.2.2; omega⟩
            refine err G (k + 1) k2 (fr_mo (fr_tr fE2 fG) (by decide)) (ff_tr gE2 (ff_mo gG (by decide))) qG (by omega) ?_ ?_ h
            · rw [gG 45 (by decide), e45]; omega
            · rw [gG 46 (by decide)]
              show -1 ≤ b ∧ b ≤ 99
              omega
