theorem gnu_ok {s : Nat → Int} {n j k : Nat} {v : Int} (h : gnu s n j = .inr (k, v)) : j < k ∧ k ≤ n ∧ 0 ≤ v ∧ v ≤ 99 := by
  unfold gnu at h
  by_cases h1 : j < n ∧ 48 ≤ s j ∧ s j ≤ 57
  · rw [if_pos h1] at h
    by_cases h2 : j + 1 < n ∧ 48 ≤ s (j + 1) ∧ s (j + 1) ≤ 57
    · rw [if_pos h2] at h; cases h; omega
    · rw [if_neg h2] at h; cases h; omega
  · rw [if_neg h1] at h; cases h
theorem gnu_er {s : Nat → Int} {n j e : Nat} (h : gnu s n j = .inl e) : e = j := by
  unfold gnu at h
  by_cases h1 : j < n ∧ 48 ≤ s j ∧ s j ≤ 57
  · rw [if_pos h1] at h
    by_cases h2 : j + 1 < n ∧ 48 ≤ s (j + 1) ∧ s (j + 1) ≤ 57
    · rw [if_pos h2] at h; cases h
    · rw [if_neg h2] at h; cases h
  · rw [if_neg h1] at h; cases h; rfl
theorem sX_figure {d n j : Nat} {A : iz_A} {s : Nat → Int} {w : Int} {P : Int → iz_A → Prop} (hs : Sg s n A) (hq : Qo n j w A) (h1 : j < n ∧ 48 ≤ s j ∧ s j ≤ 57 → P 1 A) (h0 : ¬ (j < n ∧ 48 ≤ s j ∧ s j ≤ 57) → P 0 A) : Ci (d + 1) 79 [.inr (.inl 23)] A P := by
  refine e_X6_figureComes ?_
  rw [hq.1, hq.2.1]
  refine ⟨fun z => ⟨Or.inl rfl, _, rfl, h0 (by omega)⟩, fun z => ?_⟩
  have := hs.1
  rw [tn, (hs.2 j (by omega)).1]
  exact ⟨⟨by omega, by omega⟩, fun y => ⟨Or.inl rfl, _, rfl, h0 (by omega)⟩, fun y => ⟨⟨by omega, by omega⟩, fun y2 => ⟨Or.inl rfl, _, rfl, h0 (by omega)⟩, fun y2 => ⟨Or.inr rfl, _, rfl, h1 (by omega)⟩⟩⟩
theorem sX_number {d n j : Nat} {A : iz_A} {s : Nat → Int} {P : Int → iz_A → Prop} (hs : Sg s n A) (hq : Qo n j (-2) A) (hP : PrE (gnu s n j) (fun e => ∀ C, fr [23] A C → Qo n e e C → P 0 C) (fun k c => ∀ C, fr [23] A C → Qo n k (-2) C → P c C)) : Ci (d + 2) 78 [.inr (.inl 23)] A P := by
  have nb := hs.1
  refine e_X6_readNumber (sX_figure hs hq (fun hj => ⟨fun _ => ?_, fun z => absurd z n10⟩) (fun hn => ⟨fun z => absurd rfl z, fun _ => ⟨_, rfl, ?_⟩⟩))
  · unfold gnu at hP
    rw [if_pos hj] at hP
    rw [hq.2.1, tn, (hs.2 j hj.1).1]
    have fB : fr [23] A (iz_pI A 23 (uz (A.1 23) 7 ((j : Int) + 1))) := fr_pI (fr_mo (fr_rf A) (by decide)) (by decide)
    have qB : Qo n ((j + 1 : Nat) : Int) (-2) (iz_pI A 23 (uz (A.1 23) 7 ((j : Int) + 1))) := ⟨hq.1, (show (j : Int) + 1 = ((j + 1 : Nat) : Int) by omega), hq.2.2⟩
    have hsB := sg_k hs fB (by decide)
    refine ⟨⟨by omega, by omega⟩, inR_b (by omega) (by omega), inR_b (by omega) (by omega), sX_figure hsB qB (fun h2 => ⟨fun z => absurd z n10, fun _ => ?_⟩) (fun h2 => ⟨fun _ => ⟨_, rfl, ?_⟩, fun z => absurd rfl z⟩)⟩
    · rw [if_pos h2] at hP
      rw [qB.2.1, tn, (hsB.2 _ h2.1).1]
      refine ⟨inR_b (by omega) (by omega), ⟨by omega, by omega⟩, inR_b (by omega) (by omega), inR_b (by omega) (by omega), inR_b (by omega) (by omega), _, rfl, ?_⟩
      rw [show (s j - 48) * 10 + s (j + 1) - 48 = 10 * (s j - 48) + s (j + 1) - 48 by omega]
      exact hP _ (fr_pI fB (by decide)) ⟨qB.1, (show ((j + 1 : Nat) : Int) + 1 = ((j + 2 : Nat) : Int) by omega), qB.2.2⟩
    · rw [if_neg h2] at hP
      exact hP _ fB qB
  · unfold gnu at hP
    rw [if_neg hn] at hP
    exact hP _ (fr_pI (fr_mo (fr_rf A) (by decide)) (by decide)) ⟨hq.1, hq.2.1, hq.2.1⟩
/-- least and most of item i, and nothing else -/
def Lm (i : Nat) (a b : Int) (A C : iz_A) : Prop := C.1 27 i = a ∧ C.1 28 i = b ∧ ∀ q, q ≠ i → C.1 27 q = A.1 27 q ∧ C.1 28 q = A.1 28 q
def LmE (i : Nat) (C : iz_A) : Prop := (0 ≤ C.1 27 i ∧ C.1 27 i ≤ 99) ∧ (-1 ≤ C.1 28 i ∧ C.1 28 i ≤ 99)
theorem lm_put {i : Nat} {B : iz_A} (a b : Int) : Lm i a b B (iz_pI (iz_pI B 27 (uz (B.1 27) i a)) 28 (uz (B.1 28) i b)) := ⟨uz_at _ _ _, uz_at _ _ _, fun q hq => ⟨uz_ne _ _ hq, uz_ne _ _ hq⟩⟩
theorem lm_k {i : Nat} {a b : Int} {A B C D : iz_A} {l l' : List Nat} (f : fr l A B) (hl : 27 ∉ l ∧ 28 ∉ l) (h : Lm i a b B C) (f' : fr l' C D) (hl' : 27 ∉ l' ∧ 28 ∉ l') : Lm i a b A D := by
  unfold Lm at h ⊢
  rw [f'.1 27 hl'.1, f'.1 28 hl'.2, ← f.1 27 hl.1, ← f.1 28 hl.2]
  exact h
theorem sX_rep {d n j i : Nat} {A : iz_A} {s : Nat → Int} {P : iz_A → Prop} (hs : Sg s n A) (hq : Qo n j (-2) A) (hj : j < n) (hi : i < 200) (h27 : A.1 27 i = 1 ∧ A.1 28 i = 1) (hP : PrE (grp s n j) (fun e => ∀ C (j' : Nat), fr [23, 27, 28] A C → Qo n j' e C → j' ≤ n + 1 → LmE i C → P C) (fun k ab => ∀ C, fr [23, 27, 28] A C → Qo n k (-2) C → Lm i ab.1 ab.2 A C → P C)) : Cv (d + 4) 75 [.inr (.inl 23), .inl (i : Int)] A P := by
  have nb := hs.1
  unfold grp at hP
  rw [if_pos hj] at hP
  have simple : ∀ a b : Int, (∀ C, fr [23, 27, 28] A C → Qo n ((j + 1 : Nat) : Int) (-2) C → Lm i a b A C → P C) → Cv (d + 3) 76 [.inr (.inl 23), .inl (i : Int), .inl a, .inl b] A (fun A1 => none = (none : Option iz_V) ∧ P A1) := fun a b h => by
    refine e_X6_repeat ?_
    rw [hq.2.1, tn]
    refine ⟨⟨by omega, by omega⟩, ⟨by omega, by omega⟩, inR_b (by omega) (by omega), rfl, rfl, h _ (fr_pI (fr_pI (fr_pI (fr_mo (fr_rf A) (by decide)) (by decide)) (by decide)) (by decide)) ⟨hq.1, (show (j : Int) + 1 = ((j + 1 : Nat) : Int) by omega), hq.2.2⟩ (lm_put a b)⟩
  refine e_X6_readRepeat ?_
  rw [hq.2.1, tn, (hs.2 j hj).1]
  refine ⟨⟨by omega, by omega⟩, fun n1 n2 n3 n4 => ⟨rfl, ?_⟩, fun y => ?_, fun y => ?_, fun y => ?_, fun y => ?_⟩
  · rw [if_neg n1, if_neg n2, if_neg n3, if_neg n4] at hP
    exact hP A (fr_mo (fr_rf A) (by decide)) hq ⟨h27.1, h27.2, fun _ _ => ⟨rfl, rfl⟩⟩
  · rw [if_pos y] at hP
    exact simple 0 (-1) hP
  · rw [if_neg (by omega), if_pos y] at hP
    exact simple 1 (-1) hP
  · rw [if_neg (by omega), if_neg (by omega), if_pos y] at hP
    exact simple 0 1 hP
  · rw [if_neg (by omega), if_neg (by omega), if_neg (by omega), if_pos y] at hP
    have hP := PrE_bnd.1 hP
    -- the end of the braces
    have close : ∀ B (k : Nat) (a b : Int), fr [23] A B → Qo n k (-2) B → k ≤ n → (0 ≤ a ∧ a ≤ 99) → (-1 ≤ b ∧ b ≤ 99) → PrE (gcb s n k a b) (fun e => ∀ C (j' : Nat), fr [23, 27, 28] A C → Qo n j' e C → j' ≤ n + 1 → LmE i C → P C) (fun k ab => ∀ C, fr [23, 27, 28] A C → Qo n k (-2) C → Lm i ab.1 ab.2 A C → P C) → ((0 : Int) ≤ (i : Int) ∧ (i : Int) < (200 : Int)) ∧ (((0 : Int) ≤ (i : Int) ∧ (i : Int) < (200 : Int)) ∧ Cv (d + 2) 68 [.inr (.inl 23), .inl 125] (iz_pI (iz_pI B 27 (uz (B.1 27) ((i : Int)).toNat a)) 28 (uz (B.1 28) ((i : Int)).toNat b)) (fun A2 => none = (none : Option iz_V) ∧ none = (none : Option iz_V) ∧ P A2)) := fun B k a b fB qB kb ha hb h => by
      refine ⟨⟨by omega, by omega⟩, ⟨by omega, by omega⟩, ?_⟩
      rw [tn]
      have fB2 : fr [27, 28] B (iz_pI (iz_pI B 27 (uz (B.1 27) i a)) 28 (uz (B.1 28) i b)) := fr_pI (fr_pI (fr_mo (fr_rf B) (by decide)) (by decide)) (by decide)
      unfold gcb at h
      refine sX_sign (sg_k (sg_k hs fB (by decide)) fB2 (by decide)) (qo_k qB fB2 (by decide)) (fun z1 z2 C fC qC => ⟨rfl, rfl, ?_⟩) (fun z C fC qC => ⟨rfl, rfl, ?_⟩) (by omega)
      · rw [if_pos ⟨z1, z2⟩] at h
        exact h C (fr_mo (fr_tr fB (fr_tr fB2 fC)) (by decide)) qC (lm_k fB (by decide) (lm_put a b) fC (by decide))
      · rw [if_neg z] at h
        refine h C (k + 1) (fr_mo (fr_tr fB (fr_tr fB2 fC)) (by decide)) qC (by omega) ?_
        have l := lm_k fB (by decide) (lm_put (i := i) (B := B) a b) fC (by decide)
        exact ⟨by rw [l.1]; exact ha, by rw [l.2.1]; exact hb⟩
    have closeE : ∀ B (e k : Nat) (a b : Int), fr [23] A B → Qo n k (e : Int) B → k ≤ n → (0 ≤ a ∧ a ≤ 99) → (-1 ≤ b ∧ b ≤ 99) → (∀ C (j' : Nat), fr [23, 27, 28] A C → Qo n j' e C → j' ≤ n + 1 → LmE i C → P C) → ((0 : Int) ≤ (i : Int) ∧ (i : Int) < (200 : Int)) ∧ (((0 : Int) ≤ (i : Int) ∧ (i : Int) < (200 : Int)) ∧ Cv (d + 2) 68 [.inr (.inl 23), .inl 125] (iz_pI (iz_pI B 27 (uz (B.1 27) ((i : Int)).toNat a)) 28 (uz (B.1 28) ((i : Int)).toNat b)) (fun A2 => none = (none : Option iz_V) ∧ none = (none : Option iz_V) ∧ P A2)) := fun B e k a b fB qB kb ha hb h => by
      refine ⟨⟨by omega, by omega⟩, ⟨by omega, by omega⟩, ?_⟩
      rw [tn]
      have fB2 : fr [27, 28] B (iz_pI (iz_pI B 27 (uz (B.1 27) i a)) 28 (uz (B.1 28) i b)) := fr_pI (fr_pI (fr_mo (fr_rf B) (by decide)) (by decide)) (by decide)
      refine sX_signW (qo_k qB fB2 (by decide)) (by omega) (by omega) (fun C fC qC => ⟨rfl, rfl, ?_⟩)
      rw [show (k : Int) + 1 = ((k + 1 : Nat) : Int) by omega] at qC
      refine h C (k + 1) (fr_mo (fr_tr fB (fr_tr fB2 fC)) (by decide)) qC (by omega) ?_
      have l := lm_k fB (by decide) (lm_put (i := i) (B := B) a b) fC (by decide)
      exact ⟨by rw [l.1]; exact ha, by rw [l.2.1]; exact hb⟩
    refine e_X6_readNumbers ?_
    rw [hq.2.1]
    have fB : fr [23] A (iz_pI A 23 (uz (A.1 23) 7 ((j : Int) + 1))) := fr_pI (fr_mo (fr_rf A) (by decide)) (by decide)
    have qB : Qo n ((j + 1 : Nat) : Int) (-2) (iz_pI A 23 (uz (A.1 23) 7 ((j : Int) + 1))) := ⟨hq.1, (show (j : Int) + 1 = ((j + 1 : Nat) : Int) by omega), hq.2.2⟩
    refine ⟨inR_b (by omega) (by omega), sX_number (sg_k hs fB (by decide)) qB (PrE_mono hP (fun e e1 h C fC qC => ?_) (fun k a e1 h C fC qC => ?_))⟩
    · have := gnu_er e1
      exact ⟨fun _ => closeE C e e 0 0 (fr_mo (fr_tr fB fC) (by decide)) qC (by omega) (by decide) (by decide) h, fun z => by have := qC.2.2; omega⟩
    · have o1 := gnu_ok e1
      have fAC : fr [23] A C := fr_mo (fr_tr fB fC) (by decide)
      have hsC := sg_k hs fAC (by decide)
      refine ⟨fun z => absurd qC.2.2 z, fun _ => sX_comes hsC qC (fun z1 z2 => ⟨fun z => absurd z n10, fun _ => ?_⟩) (fun z => ⟨fun _ => ?_, fun z => absurd rfl z⟩)⟩
      · rw [if_pos ⟨z1, z2⟩] at h
        rw [qC.2.1]
        have fD : fr [23] C (iz_pI C 23 (uz (C.1 23) 7 ((k : Int) + 1))) := fr_pI (fr_mo (fr_rf C) (by decide)) (by decide)
        have qD : Qo n ((k + 1 : Nat) : Int) (-2) (iz_pI C 23 (uz (C.1 23) 7 ((k : Int) + 1))) := ⟨qC.1, (show (k : Int) + 1 = ((k + 1 : Nat) : Int) by omega), qC.2.2⟩
        have fAD : fr [23] A (iz_pI C 23 (uz (C.1 23) 7 ((k : Int) + 1))) := fr_mo (fr_tr fAC fD) (by decide)
        have hsD := sg_k hs fAD (by decide)
        refine ⟨inR_b (by omega) (by omega), sX_comes hsD qD (fun w1 w2 => ⟨fun z => absurd z n10, fun _ => ⟨fun w => absurd qD.2.2 w, fun _ => ⟨fun _ => ?_, fun z => absurd rfl z⟩⟩⟩) (fun w => ⟨fun _ => ?_, fun z => absurd rfl z⟩)⟩
        · rw [if_pos ⟨w1, w2⟩] at h
          refine close _ (k + 1) a (-1) fAD qD (by omega) (by omega) (by decide) ?_
          unfold gcb
          rw [if_pos ⟨w1, w2⟩]
          exact h
        · rw [if_neg w] at h
          have h := PrE_bnd.1 h
          refine sX_number hsD qD (PrE_mono h (fun e e2 h E fE qE => ?_) (fun k2 b e2 h E fE qE => ?_))
          · have := gnu_er e2
            exact ⟨fun _ => closeE E e e a 0 (fr_mo (fr_tr fAD fE) (by decide)) qE (by omega) (by omega) (by decide) h, fun z => by have := qE.2.2; omega⟩
          · have o2 := gnu_ok e2
            refine ⟨fun z => absurd qE.2.2 z, fun _ => ⟨fun z => by omega, fun _ => ⟨fun y => ?_, fun y => ?_⟩⟩⟩
            · rw [if_neg (by omega)] at h
              exact close E k2 a b (fr_mo (fr_tr fAD fE) (by decide)) qE (by omega) (by omega) (by omega) h
            · rw [if_pos (by omega)] at h
              have fG : fr [23] E (iz_pI E 23 (uz (E.1 23) 8 ((k : Int) + 1))) := fr_pI (fr_mo (fr_rf E) (by decide)) (by decide)
              exact closeE _ (k + 1) k2 a b (fr_mo (fr_tr fAD (fr_tr fE fG)) (by decide)) ⟨qE.1, qE.2.1, (show (k : Int) + 1 = ((k + 1 : Nat) : Int) by omega)⟩ (by omega) (by omega) (by omega) h
      · rw [if_neg z] at h
        exact close C k a a fAC qC (by omega) (by omega) (by omega) h
