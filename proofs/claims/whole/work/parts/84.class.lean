theorem qo_k {n : Nat} {j w : Int} {A C : iz_A} {l : List Nat} (h : Qo n j w A) (f : fr l A C) (hl : 23 ∉ l) : Qo n j w C := by
  unfold Qo at h ⊢
  rw [f.1 23 hl]
  exact h
theorem lX_flip {d i : Nat} {B : iz_A} {v2 : Int} {P : iz_A → Prop} (hi : i < 200) (hP : ∀ C, fr [29] B C → (∀ c : Nat, c < 256 → (mb C i c ↔ ¬ mb B i c)) → Ou i B C → P C) : Rn d mX6_readRanges (fun v A' => v = none ∧ P A') 91 [some (.inr (.inl 23)), some (.inl ((i : Int))), some (.inl v2), some (.inl ((i : Int) * 4))] [] B := by
  have main := dwl (P := fun q => ∀ D, fr [29] B D → (∀ k, 4 * i ≤ k → k < q → D.2 29 k = B.2 29 k ^^^ ab_lnum 1 1) → (∀ k, ¬ (4 * i ≤ k ∧ k < q) → D.2 29 k = B.2 29 k) → Rn d mX6_readRanges (fun v A' => v = none ∧ P A') 91 [some (.inr (.inl 23)), some (.inl ((i : Int))), some (.inl v2), some (.inl ((q : Int)))] [] D) (a := 4 * i) (n := 4 * i + 4) ?_ (fun q qa hq ih => ?_) (by omega) B (fr_mo (fr_rf B) (by decide)) (fun k a b => by omega) (fun _ _ => rfl)
  · rw [show (i : Int) * 4 = ((4 * i : Nat) : Int) by omega]
    exact main
  · intro D f d1 d2
    refine w_X6_readRanges_91 ⟨inR_b (by omega) (by omega), inR_b (by omega) (by omega), fun _ => ⟨rfl, hP D f (fun c hc => ?_) (fun q hq => d2 q (by omega))⟩, fun z => by omega⟩
    unfold mb
    rw [d1 (4 * i + c / 64) (by omega) (by omega), tb_not _ (show c % 64 < 64 by omega)]
    cases tb (B.2 29 (4 * i + c / 64)) (c % 64) with
    | true => exact ⟨fun z => absurd z (by decide), fun z => absurd rfl z⟩
    | false => exact ⟨fun _ z => absurd z (by decide), fun _ => rfl⟩
  · intro D f d1 d2
    refine w_X6_readRanges_91 ?_
    rw [tn q, d2 q (by omega)]
    rw [show ((q + 1 : Nat) : Int) = (q : Int) + 1 by omega] at ih
    refine ⟨inR_b (by omega) (by omega), inR_b (by omega) (by omega), fun z => by omega, fun _ => ⟨⟨by omega, by omega⟩, ⟨by omega, by omega⟩, inR_b (by omega) (by omega), ih _ (fr_pL f (by decide)) (fun k k1 k2 => ?_) (fun k hk => ?_)⟩⟩
    · rw [pL_at]
      by_cases y : k = q
      · rw [y, up_at]
      · rw [up_ne _ _ y]; exact d1 k k1 (by omega)
    · rw [pL_at, up_ne _ _ (by omega)]; exact d2 k (by omega)
theorem sX_ranges {d n i : Nat} {A : iz_A} {s : Nat → Int} {P : iz_A → Prop} (hs : Sg s n A) (hq : Qo n i (-2) A) (hi : i < n) (h0 : ∀ c : Nat, c < 256 → ¬ mb A i c) (hP : PrE (gcl s n i) (fun e => ∀ C (j' : Nat), fr [23, 29] A C → Qo n j' e C → j' ≤ n + 2 → Ou i A C → P C) (fun k S => ∀ C, fr [23, 29] A C → Qo n k (-2) C → (∀ c : Nat, c < 256 → (mb C i c ↔ S (c : Int))) → Ou i A C → P C)) : Cv (d + 5) 70 [.inr (.inl 23), .inl (i : Int)] A P := by
  have nb := hs.1
  have hs2 := fun i hi => (hs.2 i hi).2
  -- the end, whatever the flag is
  have last : ∀ (v2 : Int) C, (v2 = 0 ∨ v2 = 1) → (∀ D, (v2 = 0 ∧ D = C) ∨ (v2 = 1 ∧ fr [29] C D ∧ (∀ c : Nat, c < 256 → (mb D i c ↔ ¬ mb C i c)) ∧ Ou i C D) → P D) → ((v2 = 0 → none = (none : Option iz_V) ∧ P C) ∧ (¬ v2 = 0 → inR ((i : Int) * 4) ∧ Rn (d + 4) mX6_readRanges (fun v A' => v = none ∧ P A') 91 [some (.inr (.inl 23)), some (.inl ((i : Int))), some (.inl v2), some (.inl ((i : Int) * 4))] [] C)) := fun v2 C hv h => ⟨fun z => ⟨rfl, h C (Or.inl ⟨z, rfl⟩)⟩, fun z => ⟨inR_b (by omega) (by omega), lX_flip (by omega) fun D f m o => h D (Or.inr ⟨(by omega), f, m, o⟩)⟩⟩
  -- from some range on
  have loop : ∀ (v2 : Int), (v2 = 0 ∨ v2 = 1) → ∀ m j B (v3 : Nat) S, n < j + m → j ≤ n → v3 ≤ j → fr [23, 29] A B → Qo n j (-2) B → (∀ c : Nat, c < 256 → (mb B i c ↔ S (c : Int))) → Ou i A B → PrE (if j < n then (if s j = 93 then (.inr (j + 1, S) : Pr (Int → Prop)) else grs s n m j S) else .inl j) (fun e => ∀ C (j' : Nat), fr [23, 29] A C → Qo n j' e C → j' ≤ n + 2 → Ou i A C → P C) (fun k S => ∀ C, fr [23, 29] A C → Qo n k (-2) C → (∀ c : Nat, c < 256 → (mb C i c ↔ (if v2 = 0 then S (c : Int) else ¬ S (c : Int)))) → Ou i A C → P C) → Rn (d + 4) mX6_readRanges (fun v A' => v = none ∧ P A') 38 [some (.inr (.inl 23)), some (.inl ((i : Int))), some (.inl v2), some (.inl ((v3 : Int)))] [] B := by
    intro v2 hv m
    induction m with
    | zero => intro j B v3 S h1 h2; omega
    | succ m ih =>
      intro j B v3 S h1 h2 h3 fB qB mB oB hR
      have hsB := sg_k hs fB (by decide)
      -- the bracket is missing
      have miss : ¬ j < n → Cv (d + 4) 68 [.inr (.inl 23), .inl 93] B (fun A1 => (v2 = 0 → none = (none : Option iz_V) ∧ P A1) ∧ (¬ v2 = 0 → inR ((i : Int) * 4) ∧ Rn (d + 4) mX6_readRanges (fun v A' => v = none ∧ P A') 91 [some (.inr (.inl 23)), some (.inl ((i : Int))), some (.inl v2), some (.inl ((i : Int) * 4))] [] A1)) := fun z => by
        rw [if_neg z] at hR
        refine sX_sign hsB qB (fun a => absurd a z) (fun _ C fC qC => last v2 C hv (fun D hD => ?_)) (by omega)
        rcases hD with ⟨-, rfl⟩ | ⟨-, fD, -, oD⟩
        · exact hR D (j + 1) (fr_mo (fr_tr fB fC) (by decide)) qC (by omega) (ou_tr oB (ou_23 fC (by decide)))
        · exact hR D (j + 1) (fr_mo (fr_tr fB (fr_tr fC fD)) (by decide)) (qo_k qC fD (by decide)) (by omega) (ou_tr oB (ou_tr (ou_23 fC (by decide)) oD))
      refine w_X6_readRanges_38 ⟨fun z => miss (by omega), fun z => sX_goesOn qB (fun _ hj => ⟨fun z => absurd z n10, fun _ => ?_⟩) (fun hn => ⟨fun _ => miss (by omega), fun z => absurd rfl z⟩)⟩
      rw [if_pos hj] at hR
      rw [qB.2.1, tn, (hsB.2 j hj).1]
      refine ⟨⟨by omega, by omega⟩, fun y => ?_, fun y => ?_⟩
      · rw [if_pos y] at hR
        refine sX_sign hsB qB (fun _ _ C fC qC => last v2 C hv (fun D hD => ?_)) (fun z => absurd ⟨hj, y⟩ z) (by omega)
        rcases hD with ⟨e2, rfl⟩ | ⟨e2, fD, mD, oD⟩
        · exact hR D (fr_mo (fr_tr fB fC) (by decide)) qC (fun c hc => by rw [if_pos e2, mb_23 fC (by decide)]; exact mB c hc) (ou_tr oB (ou_23 fC (by decide)))
        · exact hR D (fr_mo (fr_tr fB (fr_tr fC fD)) (by decide)) (qo_k qC fD (by decide)) (fun c hc => by rw [if_neg (by omega), mD c hc, mb_23 fC (by decide), mB c hc]) (ou_tr oB (ou_tr (ou_23 fC (by decide)) oD))
      · rw [if_neg y] at hR
        have hR := PrE_bnd.1 hR
        refine sX_range hsB qB (by omega) h2 (PrE_mono hR (fun e e1 h C j' fC qC jb oC => ⟨inR_b (by omega) (by omega), ?_⟩) (fun k ab e1 h C fC qC mC oC => ⟨inR_b (by omega) (by omega), ?_⟩))
        · -- wrong: it goes on to the end
          have ne : ¬ (e : Int) = -2 := (by omega)
          refine w_X6_readRanges_38 ⟨fun z => sX_signW qC ne (by omega) (fun D fD qD => last v2 D hv (fun E hE => ?_)), fun z => sX_goesOn qC (fun w => absurd w ne) (fun _ => ⟨fun _ => sX_signW qC ne (by omega) (fun D fD qD => last v2 D hv (fun E hE => ?_)), fun z => absurd rfl z⟩)⟩
          · rw [show (j' : Int) + 1 = ((j' + 1 : Nat) : Int) by omega] at qD
            rcases hE with ⟨-, rfl⟩ | ⟨-, fE, -, oE⟩
            · exact h E (j' + 1) (fr_mo (fr_tr fB (fr_tr fC fD)) (by decide)) qD (by omega) (ou_tr oB (ou_tr oC (ou_23 fD (by decide))))
            · exact h E (j' + 1) (fr_mo (fr_tr fB (fr_tr fC (fr_tr fD fE))) (by decide)) (qo_k qD fE (by decide)) (by omega) (ou_tr oB (ou_tr oC (ou_tr (ou_23 fD (by decide)) oE)))
          · rw [show (j' : Int) + 1 = ((j' + 1 : Nat) : Int) by omega] at qD
            rcases hE with ⟨-, rfl⟩ | ⟨-, fE, -, oE⟩
            · exact h E (j' + 1) (fr_mo (fr_tr fB (fr_tr fC fD)) (by decide)) qD (by omega) (ou_tr oB (ou_tr oC (ou_23 fD (by decide))))
            · exact h E (j' + 1) (fr_mo (fr_tr fB (fr_tr fC (fr_tr fD fE))) (by decide)) (qo_k qD fE (by decide)) (by omega) (ou_tr oB (ou_tr oC (ou_tr (ou_23 fD (by decide)) oE)))
        · have o1 := grg_ok hs2 e1
          rw [show (v3 : Int) + 1 = ((v3 + 1 : Nat) : Int) by omega]
          exact ih k C (v3 + 1) _ (by omega) (by omega) (by omega) (fr_mo (fr_tr fB fC) (by decide)) qC (fun c hc => by rw [mC c hc, mB c hc]) (ou_tr oB oC) h
  -- the first range
  have first : ∀ (v2 : Int), (v2 = 0 ∨ v2 = 1) → ∀ j B, j ≤ n → 2 ≤ j + 1 → fr [23] A B → Qo n j (-2) B → PrE (grs s n (n + 1) j (fun _ => False)) (fun e => ∀ C (j' : Nat), fr [23, 29] A C → Qo n j' e C → j' ≤ n + 2 → Ou i A C → P C) (fun k S => ∀ C, fr [23, 29] A C → Qo n k (-2) C → (∀ c : Nat, c < 256 → (mb C i c ↔ (if v2 = 0 then S (c : Int) else ¬ S (c : Int)))) → Ou i A C → P C) → Cv (d + 4) 71 [.inr (.inl 23), .inl (i : Int)] B (fun A2 => Rn (d + 4) mX6_readRanges (fun v A' => v = none ∧ P A') 38 [some (.inr (.inl 23)), some (.inl ((i : Int))), some (.inl v2), some (.inl 1)] [] A2) := by
    intro v2 hv j B h2 h3 fB qB hR
    have hsB := sg_k hs fB (by decide)
    have hR := PrE_bnd.1 hR
    have oB : Ou i A B := ou_23 fB (by decide)
    refine sX_range hsB qB (by omega) h2 (PrE_mono hR (fun e e1 h C j' fC qC jb oC => ?_) (fun k ab e1 h C fC qC mC oC => ?_))
    · have ne : ¬ (e : Int) = -2 := (by omega)
      refine w_X6_readRanges_38 ⟨fun z => absurd z (by decide), fun z => sX_goesOn qC (fun w => absurd w ne) (fun _ => ⟨fun _ => sX_signW qC ne (by omega) (fun D fD qD => last v2 D hv (fun E hE => ?_)), fun z => absurd rfl z⟩)⟩
      rw [show (j' : Int) + 1 = ((j' + 1 : Nat) : Int) by omega] at qD
      rcases hE with ⟨-, rfl⟩ | ⟨-, fE, -, oE⟩
      · exact h E (j' + 1) (fr_mo (fr_tr fB (fr_tr fC fD)) (by decide)) qD (by omega) (ou_tr oB (ou_tr oC (ou_23 fD (by decide))))
      · exact h E (j' + 1) (fr_mo (fr_tr fB (fr_tr fC (fr_tr fD fE))) (by decide)) (qo_k qD fE (by decide)) (by omega) (ou_tr oB (ou_tr oC (ou_tr (ou_23 fD (by decide)) oE)))
    · have o1 := grg_ok hs2 e1
      exact loop v2 hv n k C 1 _ (by omega) (by omega) (by omega) (fr_mo (fr_tr fB fC) (by decide)) qC (fun c hc => by rw [mC c hc, mb_23 fB (by decide)]; exact ⟨fun y => y.elim (fun w => absurd w (h0 c hc)) Or.inr, fun y => y.elim (fun w => absurd w id) Or.inr⟩) (ou_tr oB oC) h
  refine e_X6_readRanges ?_
  rw [hq.2.1]
  have fB : fr [23] A (iz_pI A 23 (uz (A.1 23) 7 ((i : Int) + 1))) := fr_pI (fr_mo (fr_rf A) (by decide)) (by decide)
  have qB : Qo n ((i + 1 : Nat) : Int) (-2) (iz_pI A 23 (uz (A.1 23) 7 ((i : Int) + 1))) := ⟨hq.1, (show (i : Int) + 1 = ((i + 1 : Nat) : Int) by omega), hq.2.2⟩
  unfold gcl at hP
  refine ⟨inR_b (by omega) (by omega), sX_comes (sg_k hs fB (by decide)) qB (fun a b => ⟨fun z => absurd z n10, fun _ => ?_⟩) (fun a => ⟨fun _ => ?_, fun z => absurd rfl z⟩)⟩
  · rw [if_pos ⟨a, b⟩] at hP
    have hP := PrE_bnd.1 hP
    rw [qB.2.1]
    refine ⟨inR_b (by omega) (by omega), first 1 (Or.inr rfl) (i + 2) _ (by omega) (by omega) (fr_pI fB (by decide)) ⟨qB.1, (show ((i + 1 : Nat) : Int) + 1 = ((i + 2 : Nat) : Int) by omega), qB.2.2⟩ (PrE_mono hP (fun e _ h => h) (fun k S _ h C fC qC mC oC => h C fC qC (fun c hc => ?_) oC))⟩
    rw [mC c hc, if_neg (by decide)]
  · rw [if_neg a] at hP
    refine first 0 (Or.inl rfl) (i + 1) _ (by omega) (by omega) fB qB (PrE_mono hP (fun e _ h => h) (fun k S _ h C fC qC mC oC => h C fC qC (fun c hc => ?_) oC))
    rw [mC c hc, if_pos rfl]
