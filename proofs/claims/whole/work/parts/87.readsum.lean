/-- between these signs nothing changes in what was read -/
def Un (lo hi : Nat) (A C : iz_A) : Prop := ∀ q, lo ≤ q → q < hi → (C.1 25 q = A.1 25 q ∧ C.1 26 q = A.1 26 q ∧ C.1 27 q = A.1 27 q ∧ C.1 28 q = A.1 28 q) ∧ ∀ r, r < 4 → C.2 29 (4 * q + r) = A.2 29 (4 * q + r)
theorem un_pf {e : Nat} {A C : iz_A} (h : Pf e A C) (lo : Nat) : Un lo e A C := fun q _ hq => ⟨h.1 q hq, fun r hr => h.2 _ (by omega)⟩
theorem un_le {lo hi lo' hi' : Nat} {A C : iz_A} (h : Un lo hi A C) (h1 : lo ≤ lo') (h2 : hi' ≤ hi) : Un lo' hi' A C := fun q a b => h q (by omega) (by omega)
theorem un_tr {lo hi : Nat} {A B C : iz_A} (h : Un lo hi A B) (h' : Un lo hi B C) : Un lo hi A C := fun q a b => by
  obtain ⟨⟨x1, x2, x3, x4⟩, x5⟩ := h q a b
  obtain ⟨⟨y1, y2, y3, y4⟩, y5⟩ := h' q a b
  exact ⟨⟨y1.trans x1, y2.trans x2, y3.trans x3, y4.trans x4⟩, fun r hr => (y5 r hr).trans (x5 r hr)⟩
theorem rcS_k {N : Nat} {t s : Nat → Int} {n : Nat} (hs : ∀ i, i < n → 32 ≤ s i ∧ s i ≤ 126) {A C : iz_A} : ∀ m d j z D K e zR, j ≤ n → psm N t s n m d j z D K = .inr (e, zR) → Un j e A C → RcS N t s n A m d j → RcS N t s n C m d j := by
  intro m
  induction m with
  | zero => intro d j z D K e zR _ _ _ _; trivial
  | succ m ih =>
    intro d j z D K e zR hj hp pf h hc
    obtain ⟨h1, h2⟩ := h hc
    unfold psm at hp
    rw [if_pos hc] at hp
    refine ⟨fun y => ?_, fun y k1 z1 e1 k a b e2 => ?_⟩
    · rw [if_pos y] at hp
      exact ih _ _ _ _ _ _ _ (by omega) hp (un_le pf (by omega) (Nat.le_refl _)) (h1 y)
    · rw [if_neg y] at hp
      obtain ⟨g1, g2, g3, g4⟩ := h2 y k1 z1 e1 k a b e2
      have pk := pat_ok hs (fun d j k zR a b => psm_ok hs m d j _ _ _ k zR a b) hc.1 e1
      have gk := grp_ok pk.2 e2
      have ep : pit N t s n (fun d' j' => psm N t s n m d' j' 0 (fun _ _ => False) (fun p q => p = q)) d j = .inr (k, z1.1 * cps a b, pwR z1.2 a b) := by
        unfold pit
        rw [e1]
        show bnd (grp s n k1) _ = _
        rw [e2]
        rfl
      rw [ep] at hp
      have hp : psm N t s n m d k _ _ _ = .inr (e, zR) := hp
      have ek := psm_ok hs _ _ _ _ _ _ _ _ gk.2.1 hp
      obtain ⟨pj, pj2⟩ := pf j (Nat.le_refl _) (by omega)
      refine ⟨⟨pj.1.trans g1.1, pj.2.1.trans g1.2.1, pj.2.2.1.trans g1.2.2.1, pj.2.2.2.trans g1.2.2.2⟩, fun w c hc' => ?_, fun w => ?_, ih _ _ _ _ _ _ _ gk.2.1 hp (un_le pf (by omega) (Nat.le_refl _)) g4⟩
      · have := g2 w c hc'
        unfold mb at this ⊢
        rw [pj2 (c / 64) (by omega)]
        exact this
      · unfold pat at e1
        rw [if_pos w] at e1
        by_cases cd : d < 20
        · rw [if_pos cd] at e1
          obtain ⟨k2, z2, e3, e1⟩ := bnd_ok e1
          by_cases ck : k2 < n
          · rw [if_pos ck] at e1
            cases e1
            exact ih _ _ _ _ _ _ _ (by omega) e3 (un_le pf (by omega) (by omega)) (g3 w)
          · rw [if_neg ck] at e1; cases e1
        · rw [if_neg cd] at e1; cases e1
theorem mn_add (a b : Nat) : (if (121 : Int) < ((if 121 < a then 121 else a : Nat) : Int) + ((if 121 < b then 121 else b : Nat) : Int) then (121 : Int) else ((if 121 < a then 121 else a : Nat) : Int) + ((if 121 < b then 121 else b : Nat) : Int)) = ((if 121 < a + b then 121 else a + b : Nat) : Int) := by
  by_cases c1 : 121 < a
  · rw [if_pos c1, if_pos (show 121 < a + b by omega)]
    by_cases c2 : 121 < b
    · rw [if_pos c2]; rfl
    · rw [if_neg c2]
      split <;> omega
  · rw [if_neg c1]
    by_cases c2 : 121 < b
    · rw [if_pos c2, if_pos (show 121 < a + b by omega)]
      split <;> omega
    · rw [if_neg c2]
      split <;> split <;> omega
theorem mn_mul (a c : Nat) (hc : c ≤ 99) : (if (121 : Int) < ((if 121 < a then 121 else a : Nat) : Int) * (c : Int) then (121 : Int) else ((if 121 < a then 121 else a : Nat) : Int) * (c : Int)) = ((if 121 < a * c then 121 else a * c : Nat) : Int) := by
  rw [← Int.natCast_mul]
  by_cases c1 : 121 < a
  · rw [if_pos c1]
    by_cases c0 : c = 0
    · rw [c0, Nat.mul_zero, Nat.mul_zero]; rfl
    · have h1 : 121 * 1 ≤ 121 * c := Nat.mul_le_mul_left _ (by omega)
      have h2 : 122 * 1 ≤ a * c := Nat.mul_le_mul (by omega) (by omega)
      rw [if_pos (show 121 < a * c by omega)]
      split <;> omega
  · rw [if_neg c1]
    generalize a * c = m
    split <;> split <;> omega
theorem cps_ok {a b : Int} (ha : 0 ≤ a ∧ a ≤ 99) (hb : -1 ≤ b ∧ b ≤ 99) : cps a b ≤ 99 ∧ (if b = -1 then (if a < 1 then 1 else a) else b) = (cps a b : Int) := by
  unfold cps
  by_cases c : b = -1
  · rw [if_pos c, if_pos c]
    by_cases c2 : a < 1
    · rw [if_pos c2, if_pos c2]; exact ⟨by decide, rfl⟩
    · rw [if_neg c2, if_neg c2]; omega
  · rw [if_neg c, if_neg c]; omega
theorem sX_copies {d i : Nat} {A : iz_A} {P : Int → iz_A → Prop} (hi : i < 200) (hl : LmE i A) (hP : P (cps (A.1 27 i) (A.1 28 i) : Int) A) : Ci (d + 1) 64 [.inr (.inl 23), .inl (i : Int)] A P := by
  have := cps_ok hl.1 hl.2
  refine e_X6_copies ?_
  rw [tn]
  rw [← this.2] at hP
  refine ⟨⟨by omega, by omega⟩, fun z => ⟨⟨by omega, by omega⟩, _, rfl, ?_⟩, fun z => ⟨⟨by omega, by omega⟩, _, rfl, ?_⟩⟩
  · rw [if_neg z] at hP; exact hP
  · rw [if_pos z] at hP; exact hP
/-- what comes behind an item -/
def RdB (d z v3 : Nat) (Q : Int → iz_A → Prop) (y : Int) (F : iz_A) : Prop := inR (((if 121 < z then 121 else z : Nat) : Int) + y) ∧ Ci (4 * (20 - d) + 11) 61 [.inl (((if 121 < z then 121 else z : Nat) : Int) + y)] F (fun x3 A3 => inR ((v3 : Int) + 1) ∧ Rn (4 * (20 - d) + 11) mX6_readSum (fun v A' => ∃ y, v = some (.inl y) ∧ Q y A') 4 [some (.inr (.inl 23)), some (.inl ((d : Int))), some (.inl x3), some (.inl ((v3 : Int) + 1))] [] A3)
set_option maxHeartbeats 800000 in
theorem sX_readSum {N : Nat} {t s : Nat → Int} {n : Nat} : ∀ m d, d ≤ 20 → ∀ (j z : Nat) (D K : Rel) (v3 : Nat) (A : iz_A) (Q : Int → iz_A → Prop), Sg s n A → Qo n j (-2) A → j ≤ n → n < j + m → v3 ≤ j → PrE (psm N t s n m d j z D K) (fun e => ∀ C (v j' : Nat), fr [23, 25, 26, 27, 28, 29] A C → Qo n j' e C → j' ≤ n + 23 - d → v ≤ 121 → Q (v : Int) C) (fun k zR => ∀ C, fr [23, 25, 26, 27, 28, 29] A C → Qo n k (-2) C → Pf j A C → RcS N t s n C m d j → Q ((if 121 < zR.1 then 121 else zR.1 : Nat) : Int) C) → Rn (4 * (20 - d) + 11) mX6_readSum (fun v A' => ∃ y, v = some (.inl y) ∧ Q y A') 4 [some (.inr (.inl 23)), some (.inl ((d : Int))), some (.inl (((if 121 < z then 121 else z : Nat) : Int))), some (.inl ((v3 : Int)))] [] A := by
  intro m
  induction m with
  | zero => intro d hd j z D K v3 A Q h1 h2 h3 h4; omega
  | succ m ih =>
    intro d hd j z D K v3 A Q hsA hq hj hm hv hP
    have nb := hsA.1
    have hs2 := fun i hi => (hsA.2 i hi).2
    have zb : (if 121 < z then 121 else z : Nat) ≤ 121 := by split <;> omega
    unfold psm at hP
    have stop : ¬ (j < n ∧ s j ≠ 41) → Q ((if 121 < z then 121 else z : Nat) : Int) A := fun y => by
      rw [if_neg y] at hP
      exact hP A (fr_mo (fr_rf A) (by decide)) hq (pf_rf _ _) (fun w => absurd w y)
    refine w_X6_readSum_4 ⟨fun y => ⟨_, rfl, stop (by omega)⟩, fun y => sX_goesOn hq (fun _ hjn => ⟨fun z => absurd z n10, fun _ => ?_⟩) (fun w => ⟨fun _ => ⟨_, rfl, stop (by omega)⟩, fun z => absurd rfl z⟩)⟩
    rw [hq.2.1, tn, (hsA.2 j hjn).1]
    refine ⟨⟨by omega, by omega⟩, fun y41 => ⟨_, rfl, stop (fun w => w.2 y41)⟩, fun y41 => ⟨⟨by omega, by omega⟩, fun y124 => ?_, fun y124 => ?_⟩⟩
    · have hc : j < n ∧ s j ≠ 41 := ⟨hjn, y41⟩
      rw [if_pos hc, if_neg y124] at hP
      have hP := PrE_bnd.1 hP
      have hP := PrE_bnd.1 hP
      -- the atom
      have atom : ∀ (R : Int → iz_A → Prop), PrE (pat N t s n (fun d' j' => psm N t s n m d' j' 0 (fun _ _ => False) (fun p q => p = q)) d j) (fun e => ∀ C (v j' : Nat), fr [23, 25, 26, 27, 28, 29] A C → Qo n j' e C → j' ≤ n + 23 - d → v ≤ 121 → R (v : Int) C) (fun k zR => ∀ C, fr [23, 25, 26, 27, 28, 29] A C → Qo n k (-2) C → Pf j A C → (s j ≠ 40 → ∀ c : Nat, c < 256 → (mb C j c ↔ gset s n j (c : Int))) → (s j = 40 → RcS N t s n C m (d + 1) (j + 1)) → R ((if 121 < zR.1 then 121 else zR.1 : Nat) : Int) C) → Ci (4 * (20 - d) + 10) 65 [.inr (.inl 23), .inl (d : Int)] A R := by
        intro R hR
        refine e_X6_readAtom ?_
        rw [hq.2.1]
        refine ⟨inR_b (by omega) (by omega), inR_b (by omega) (by omega), inR_b (by omega) (by omega), sX_zero (by omega) fun B fB mB oB => ?_⟩
        have qB := qo_k hq fB (by decide)
        have hsB := sg_k hsA fB (by decide)
        rw [tn, (hsB.2 j hjn).1]
        unfold pat at hR
        have bad : (s j = 93 ∨ s j = 123 ∨ s j = 125 ∨ s j = 42 ∨ s j = 43 ∨ s j = 63) → some (.inl 0) = (some (.inl 0) : Option iz_V) ∧ R 0 (iz_pI B 23 (uz (B.1 23) 8 (j : Int))) := fun w => by
          rw [if_neg (by omega), if_neg (by omega), if_neg (by omega), if_pos w] at hR
          exact ⟨rfl, hR _ 0 j (fr_pI (fr_mo fB (by decide)) (by decide)) ⟨qB.1, qB.2.1, rfl⟩ (by omega) (by decide)⟩
        refine ⟨⟨by omega, by omega⟩, fun n1 n2 n3 n4 n5 n6 n7 n8 n9 => ?_, fun w => ?_, fun w => ⟨_, bad (by omega)⟩, fun w => ⟨_, bad (by omega)⟩, fun w => ?_, fun w => ⟨_, bad (by omega)⟩, fun w => ?_, fun w => ⟨_, bad (by omega)⟩, fun w => ⟨_, bad (by omega)⟩, fun w => ⟨_, bad (by omega)⟩⟩
        · rw [if_neg n1, if_neg n6, if_neg n4, if_neg (by omega)] at hR
          have hR := PrE_bnd.1 hR
          refine e_X6_readPlain (sX_byte hsB qB (PrE_mono hR (fun e e1 h C fC qC => ?_) (fun k c e1 h C fC qC => ?_)))
          · have := gby_er hj e1
            refine sX_addBytes (by omega) (by decide) (by decide) fun E fE _ _ => ⟨rfl, _, rfl, ?_⟩
            exact h E 1 e (fr_mo (fr_tr fB (fr_tr fC fE)) (by decide)) (qo_k qC fE (by decide)) (by omega) (by decide)
          · have o1 := gby_ok hs2 e1
            refine sX_addBytes (by omega) (by omega) (by omega) fun E fE mE oE => ⟨rfl, _, rfl, ?_⟩
            refine h E (fr_mo (fr_tr fB (fr_tr fC fE)) (by decide)) (qo_k qC fE (by decide)) (pf_ou (l := [23, 29]) (fr_mo (fr_tr fB (fr_tr fC fE)) (by decide)) (by decide) (ou_tr oB (ou_tr (ou_23 fC (by decide)) oE))) (fun _ c' hc' => ?_) (fun w => absurd w n1)
            rw [mE c' hc', mb_23 fC (by decide)]
            unfold gset
            rw [if_neg n6, if_neg n4, e1]
            show _ ↔ (c' : Int) = c
            exact ⟨fun y => y.elim (fun y => absurd y (mB c' hc')) (fun y => by omega), fun y => Or.inr (by omega)⟩
        · rw [if_pos w] at hR
          by_cases d20 : d < 20
          · rw [if_pos d20] at hR
            have hR := PrE_bnd.1 hR
            refine e_X6_readBrackets ⟨fun _ => ?_, fun y => by omega⟩
            rw [qB.2.1]
            refine ⟨inR_b (by omega) (by omega), inR_b (by omega) (by omega), ?_⟩
            have fC : fr [23] B (iz_pI B 23 (uz (B.1 23) 7 ((j : Int) + 1))) := fr_pI (fr_mo (fr_rf B) (by decide)) (by decide)
            have qC : Qo n ((j + 1 : Nat) : Int) (-2) (iz_pI B 23 (uz (B.1 23) 7 ((j : Int) + 1))) := ⟨qB.1, (show (j : Int) + 1 = ((j + 1 : Nat) : Int) by omega), qB.2.2⟩
            have fAC : fr [23, 29] A (iz_pI B 23 (uz (B.1 23) 7 ((j : Int) + 1))) := fr_mo (fr_tr fB fC) (by decide)
            have pAC : Pf j A (iz_pI B 23 (uz (B.1 23) 7 ((j : Int) + 1))) := pf_ou fAC (by decide) (ou_tr oB (ou_23 fC (by decide)))
            have inner := ih (d + 1) (by omega) (j + 1) 0 (fun _ _ => False) (fun p q => p = q) 0 _ (fun x1 A1 => Cv (4 * (20 - (d + 1)) + 12) 68 [.inr (.inl 23), .inl 41] A1 (fun A2 => ∃ y, (some (.inl x1) : Option iz_V) = some (.inl y) ∧ ∃ y', (some (.inl y) : Option iz_V) = some (.inl y') ∧ R y' A2)) (sg_k hsA fAC (by decide)) qC (by omega) (by omega) (Nat.zero_le _) (PrE_mono hR (fun e e1 h D v j' fD qD jb vb => ?_) (fun k zR e1 h D fD qD pD rD => ?_))
            · have e4 : 4 * (20 - d) + 8 = 4 * (20 - (d + 1)) + 12 := by omega
              rw [e4]
              rw [show (d : Int) + 1 = ((d + 1 : Nat) : Int) by omega]
              exact e_X6_readSum inner
            · refine sX_signW qD (by omega) (by omega) (fun E fE qE => ⟨_, rfl, _, rfl, ?_⟩)
              rw [show (j' : Int) + 1 = ((j' + 1 : Nat) : Int) by omega] at qE
              exact h E v (j' + 1) (fr_mo (fr_tr fAC (fr_tr fD fE)) (by decide)) qE (by omega) vb
            · have ok := psm_ok hs2 _ _ _ _ _ _ _ _ (show j + 1 ≤ n by omega) e1
              refine sX_sign (sg_k (sg_k hsA fAC (by decide)) fD (by decide)) qD (fun k1 _ E fE qE => ⟨_, rfl, _, rfl, ?_⟩) (fun kn E fE qE => ⟨_, rfl, _, rfl, ?_⟩) (by omega)
              · rw [if_pos k1] at h
                have pE : Pf (j + 1) _ E := pf_tr pD (pf_fr fE (by decide))
                refine h E (fr_mo (fr_tr fAC (fr_tr fD fE)) (by decide)) qE (pf_tr pAC (pf_le pE (by omega))) (fun y => absurd w y) (fun _ => ?_)
                exact rcS_k hs2 _ _ _ _ _ _ _ _ (show j + 1 ≤ n by omega) e1 (un_pf (pf_fr (e := k) fE (by decide)) _) rD
              · have nk : ¬ k < n := fun y => kn ⟨y, ok.2.2 y⟩
                rw [if_neg nk] at h
                refine h E _ (k + 1) (fr_mo (fr_tr fAC (fr_tr fD fE)) (by decide)) qE (by omega) ?_
                split <;> omega
          · rw [if_neg d20] at hR
            refine e_X6_readBrackets ⟨fun y => by omega, fun _ => ⟨_, rfl, _, rfl, ?_⟩⟩
            rw [qB.2.1]
            exact hR _ 0 j (fr_pI (fr_mo fB (by decide)) (by decide)) ⟨qB.1, qB.2.1, rfl⟩ (by omega) (by decide)
        · rw [if_neg (by omega), if_neg (by omega), if_pos w] at hR
          refine sX_addBytes (a := 0) (b := 255) (by omega) (by decide) (by decide) fun E fE mE oE => ?_
          have qE := qo_k qB fE (by decide)
          rw [qE.2.1]
          refine ⟨inR_b (by omega) (by omega), _, rfl, hR _ (fr_pI (fr_mo (fr_tr fB fE) (by decide)) (by decide)) ⟨qE.1, (show (j : Int) + 1 = ((j + 1 : Nat) : Int) by omega), qE.2.2⟩ (pf_tr (pf_ou (l := [29]) (fr_mo (fr_tr fB fE) (by decide)) (by decide) (ou_tr oB oE)) (pf_fr (l := [23]) (fr_pI (fr_mo (fr_rf E) (by decide)) (by decide)) (by decide))) (fun _ c hc' => ?_) (fun y => by omega)⟩
          show mb E j c ↔ _
          rw [mE c hc']
          unfold gset
          rw [if_neg (by omega), if_pos w]
          exact ⟨fun _ => trivial, fun _ => Or.inr (by omega)⟩
        · rw [if_neg (by omega), if_pos w] at hR
          have hR := PrE_bnd.1 hR
          refine sX_ranges hsB qB hjn mB (PrE_mono hR (fun e e1 h C j' fC qC jb oC => ⟨_, rfl, ?_⟩) (fun k S e1 h C fC qC mC oC => ⟨_, rfl, ?_⟩))
          · exact h C 1 j' (fr_mo (fr_tr fB fC) (by decide)) qC (by omega) (by decide)
          · refine h C (fr_mo (fr_tr fB fC) (by decide)) qC (pf_ou (l := [23, 29]) (fr_mo (fr_tr fB fC) (by decide)) (by decide) (ou_tr oB oC)) (fun _ c hc' => ?_) (fun y => by omega)
            rw [mC c hc']
            unfold gset
            rw [if_pos w, e1]
      -- what is done with the size of an item, from a state where its least and most are told
      have tail : ∀ D (J : Nat) (w : Int) (x1 : Nat), Qo n J w D → LmE j D → J ≤ 300 → (∀ F, fr [25, 26] D F → F.1 25 = uz (D.1 25) j ((if 121 < x1 * cps (D.1 27 j) (D.1 28 j) then 121 else x1 * cps (D.1 27 j) (D.1 28 j) : Nat) : Int) → F.1 26 = uz (D.1 26) j (J : Int) → RdB d z v3 Q ((if 121 < x1 * cps (D.1 27 j) (D.1 28 j) then 121 else x1 * cps (D.1 27 j) (D.1 28 j) : Nat) : Int) F) → Ci (4 * (20 - d) + 10) 64 [.inr (.inl 23), .inl (j : Int)] D (fun x3 A3 => inR (((if 121 < x1 then 121 else x1 : Nat) : Int) * x3) ∧ Ci (4 * (20 - d) + 10) 61 [.inl (((if 121 < x1 then 121 else x1 : Nat) : Int) * x3)] A3 (fun x4 A4 => ((0 : Int) ≤ (j : Int) ∧ (j : Int) < (200 : Int)) ∧ ((0 : Int) ≤ (j : Int) ∧ (j : Int) < (200 : Int)) ∧ ((0 : Int) ≤ (j : Int) ∧ (j : Int) < (200 : Int)) ∧ ∃ y, (some (.inl ((uz (A4.1 25) j x4) j)) : Option iz_V) = some (.inl y) ∧ RdB d z v3 Q y (iz_pI (iz_pI A4 25 (uz (A4.1 25) j x4)) 26 (uz (A4.1 26) j (A4.1 23 7))))) := fun D J w x1 qD lD Jb hR => by
        have cb := (cps_ok lD.1 lD.2).1
        have xb : (if 121 < x1 then 121 else x1 : Nat) ≤ 121 := by split <;> omega
        have mb' := Nat.mul_le_mul xb cb
        refine sX_copies (by omega) lD ⟨?_, e_X6_bounded ⟨_, rfl, ?_⟩⟩
        · rw [← Int.natCast_mul]
          exact inR_b (by omega) (by omega)
        · rw [mn_mul _ _ cb]
          refine ⟨⟨by omega, by omega⟩, ⟨by omega, by omega⟩, ⟨by omega, by omega⟩, _, rfl, ?_⟩
          rw [uz_at, qD.2.1]
          exact hR _ (fr_pI (fr_pI (fr_mo (fr_rf D) (by decide)) (by decide)) (by decide)) rfl rfl
      refine e_X6_readItem (atom _ (PrE_mono hP (fun e e1 h C v j' fC qC jb vb => ?_) (fun k zR e1 h C fC qC pC mC rC => ?_)))
      · rw [hq.2.1]
        refine ⟨⟨by omega, by omega⟩, ⟨by omega, by omega⟩, ?_⟩
        rw [tn]
        have fC2 : fr [27, 28] C (iz_pI (iz_pI C 27 (uz (C.1 27) j 1)) 28 (uz (C.1 28) j 1)) := fr_pI (fr_pI (fr_mo (fr_rf C) (by decide)) (by decide)) (by decide)
        have qC2 := qo_k qC fC2 (by decide)
        have l2 : LmE j (iz_pI (iz_pI C 27 (uz (C.1 27) j 1)) 28 (uz (C.1 28) j 1)) := by
          have := lm_put (i := j) (B := C) 1 1
          exact ⟨by rw [this.1]; decide, by rw [this.2.1]; decide⟩
        refine sX_goesOn qC2 (fun w => by omega) (fun _ => ⟨fun _ => ?_, fun z => absurd rfl z⟩)
        have ve : (v : Int) = ((if 121 < v then 121 else v : Nat) : Int) := by rw [if_neg (by omega)]
        rw [ve]
        refine tail _ j' _ v qC2 l2 (by omega) (fun F fF _ _ => ?_)
        have qF := qo_k qC2 fF (by decide)
        generalize hX : (if 121 < v * cps _ _ then 121 else v * cps _ _ : Nat) = X
        have Xb : X ≤ 121 := by rw [← hX]; split <;> omega
        refine ⟨inR_b (by omega) (by omega), e_X6_bounded ⟨_, rfl, inR_b (by omega) (by omega), ?_⟩⟩
        have fin : ∀ y : Nat, y ≤ 121 → Rn (4 * (20 - d) + 11) mX6_readSum (fun v A' => ∃ y, v = some (.inl y) ∧ Q y A') 4 [some (.inr (.inl 23)), some (.inl ((d : Int))), some (.inl ((y : Int))), some (.inl ((v3 : Int) + 1))] [] F := fun y yb => by
          have fin := h F y j' (fr_mo (fr_tr fC (fr_tr fC2 fF)) (by decide)) qF jb yb
          exact w_X6_readSum_4 ⟨fun _ => ⟨_, rfl, fin⟩, fun _ => sX_goesOn qF (fun w => by omega) (fun _ => ⟨fun _ => ⟨_, rfl, fin⟩, fun z => absurd rfl z⟩)⟩
        have := fin (if 121 < (if 121 < z then 121 else z) + X then 121 else (if 121 < z then 121 else z) + X) (by generalize (if 121 < z then 121 else z) = zz; split <;> omega)
        rw [show (if (121 : Int) < ((if 121 < z then 121 else z : Nat) : Int) + (X : Int) then (121 : Int) else ((if 121 < z then 121 else z : Nat) : Int) + (X : Int)) = ((if 121 < (if 121 < z then 121 else z) + X then 121 else (if 121 < z then 121 else z) + X : Nat) : Int) by generalize (if 121 < z then 121 else z) = zz; split <;> split <;> omega]
        exact this
      · rw [hq.2.1]
        refine ⟨⟨by omega, by omega⟩, ⟨by omega, by omega⟩, ?_⟩
        rw [tn]
        have pk := pat_ok hs2 (fun d j k zR a b => psm_ok hs2 m d j _ _ _ k zR a b) hjn e1
        have fC2 : fr [27, 28] C (iz_pI (iz_pI C 27 (uz (C.1 27) j 1)) 28 (uz (C.1 28) j 1)) := fr_pI (fr_pI (fr_mo (fr_rf C) (by decide)) (by decide)) (by decide)
        have qC2 := qo_k qC fC2 (by decide)
        have lp := lm_put (i := j) (B := C) 1 1
        generalize hC2 : iz_pI (iz_pI C 27 (uz (C.1 27) j 1)) 28 (uz (C.1 28) j 1) = C2 at *
        have hsC2 := sg_k (sg_k hsA fC (by decide)) fC2 (by decide)
        have h := PrE_bnd.1 h
        -- least and most are told
        have go : ∀ G (k2 : Nat) (ab : Int × Int), grp s n k = .inr (k2, ab) → fr [23, 27, 28] C G → Qo n k2 (-2) G → Lm j ab.1 ab.2 C G → PrE (psm N t s n m d k2 (z + zR.1 * cps ab.1 ab.2) D (fun p q => ∃ r, K p r ∧ pwR zR.2 ab.1 ab.2 r q)) (fun e => ∀ C (v j' : Nat), fr [23, 25, 26, 27, 28, 29] A C → Qo n j' e C → j' ≤ n + 23 - d → v ≤ 121 → Q (v : Int) C) (fun k zR => ∀ C, fr [23, 25, 26, 27, 28, 29] A C → Qo n k (-2) C → Pf j A C → RcS N t s n C (m + 1) d j → Q ((if 121 < zR.1 then 121 else zR.1 : Nat) : Int) C) → Ci (4 * (20 - d) + 10) 64 [.inr (.inl 23), .inl (j : Int)] G (fun x3 A3 => inR (((if 121 < zR.1 then 121 else zR.1 : Nat) : Int) * x3) ∧ Ci (4 * (20 - d) + 10) 61 [.inl (((if 121 < zR.1 then 121 else zR.1 : Nat) : Int) * x3)] A3 (fun x4 A4 => ((0 : Int) ≤ (j : Int) ∧ (j : Int) < (200 : Int)) ∧ ((0 : Int) ≤ (j : Int) ∧ (j : Int) < (200 : Int)) ∧ ((0 : Int) ≤ (j : Int) ∧ (j : Int) < (200 : Int)) ∧ ∃ y, (some (.inl ((uz (A4.1 25) j x4) j)) : Option iz_V) = some (.inl y) ∧ RdB d z v3 Q y (iz_pI (iz_pI A4 25 (uz (A4.1 25) j x4)) 26 (uz (A4.1 26) j (A4.1 23 7))))) := fun G k2 ab e2 fG qG lG hK => by
          have gk := grp_ok pk.2 e2
          have lE : LmE j G := ⟨by rw [lG.1]; exact gk.2.2.1, by rw [lG.2.1]; exact gk.2.2.2.1⟩
          refine tail G k2 _ zR.1 qG lE (by omega) (fun F fF f25 f26 => ?_)
          have qF := qo_k qG fF (by decide)
          rw [lG.1, lG.2.1] at f25 ⊢
          have Xb : (if 121 < zR.1 * cps ab.1 ab.2 then 121 else zR.1 * cps ab.1 ab.2 : Nat) ≤ 121 := by split <;> omega
          refine ⟨inR_b (by omega) (by omega), e_X6_bounded ⟨_, rfl, inR_b (by omega) (by omega), ?_⟩⟩
          rw [mn_add, show (v3 : Int) + 1 = ((v3 + 1 : Nat) : Int) by omega]
          have fAF : fr [23, 25, 26, 27, 28, 29] A F := fr_mo (fr_tr fC (fr_tr fG fF)) (by decide)
          -- only item j changes
          have pGF : ∀ q, q ≠ j → (F.1 25 q = C.1 25 q ∧ F.1 26 q = C.1 26 q ∧ F.1 27 q = C.1 27 q ∧ F.1 28 q = C.1 28 q) := fun q hq' => by
            rw [f25, f26, uz_ne _ _ hq', uz_ne _ _ hq', fF.1 27 (by decide), fF.1 28 (by decide), fG.1 25 (by decide), fG.1 26 (by decide)]
            exact ⟨rfl, rfl, (lG.2.2 q hq').1, (lG.2.2 q hq').2⟩
          have sGF : F.2 29 = C.2 29 := by rw [fF.2 29 (by decide), fG.2 29 (by decide)]
          have pF : Pf j A F := pf_tr pC ⟨fun q hq' => pGF q (by omega), fun r _ => by rw [sGF]⟩
          have uF : ∀ hi, Un (j + 1) hi C F := fun hi q q1 _ => ⟨pGF q (by omega), fun r _ => by rw [sGF]⟩
          refine ih d hd k2 (z + zR.1 * cps ab.1 ab.2) _ _ (v3 + 1) F Q (sg_k hsA fAF (by decide)) qF gk.2.1 (by omega) (by omega) (PrE_mono hK (fun e _ h E v j' fE => h E v j' (fr_mo (fr_tr fAF fE) (by decide))) (fun k3 z3 e3 h E fE qE pE rE => h E (fr_mo (fr_tr fAF fE) (by decide)) qE (pf_tr pF (pf_le pE (by omega))) (fun _ => ⟨fun w => absurd w y124, fun _ k1 zR' e1' k' a b e2' => ?_⟩)))
          have eq1 : k1 = k ∧ zR' = zR := by
            rw [e1] at e1'
            cases e1'
            exact ⟨rfl, rfl⟩
          obtain ⟨rfl, rfl⟩ := eq1
          have eq2 : k' = k2 ∧ (a, b) = ab := by
            rw [e2] at e2'
            cases e2'
            exact ⟨rfl, rfl⟩
          obtain ⟨rfl, rfl⟩ := eq2
          have pj := pE.1 j (by omega)
          refine ⟨⟨?_, ?_, ?_, ?_⟩, fun w c hc' => ?_, fun w => ?_, rE⟩
          · rw [pj.1, f25, uz_at]
          · rw [pj.2.1, f26, uz_at]
          · rw [pj.2.2.1, fF.1 27 (by decide)]; exact lG.1
          · rw [pj.2.2.2, fF.1 28 (by decide)]; exact lG.2.1
          · rw [← mC w c hc']
            unfold mb
            rw [pE.2 (4 * j + c / 64) (by omega), sGF]
          · have e1' := e1
            unfold pat at e1'
            rw [if_pos w] at e1'
            by_cases cd : d < 20
            · rw [if_pos cd] at e1'
              obtain ⟨k9, z9, e9, e1'⟩ := bnd_ok e1'
              by_cases ck : k9 < n
              · rw [if_pos ck] at e1'
                cases e1'
                exact rcS_k hs2 _ _ _ _ _ _ _ _ (show j + 1 ≤ n by omega) e9 (un_tr (uF _) (un_le (un_pf pE (j + 1)) (Nat.le_refl _) (by omega))) (rC w)
              · rw [if_neg ck] at e1'; cases e1'
            · rw [if_neg cd] at e1'; cases e1'
        refine sX_goesOn qC2 (fun _ hk => ⟨fun z => absurd z n10, fun _ => ?_⟩) (fun hn => ⟨fun _ => ?_, fun z => absurd rfl z⟩)
        · refine sX_rep hsC2 qC2 hk (by omega) ⟨lp.1, lp.2.1⟩ (PrE_mono h (fun e e2 h G j' fG qG jb lG => ?_) (fun k2 ab e2 h G fG qG lG => ?_))
          · refine tail G j' _ zR.1 qG lG (by omega) (fun F fF _ _ => ?_)
            have qF := qo_k qG fF (by decide)
            generalize hX : (if 121 < zR.1 * cps _ _ then 121 else zR.1 * cps _ _ : Nat) = X
            have Xb : X ≤ 121 := by rw [← hX]; split <;> omega
            refine ⟨inR_b (by omega) (by omega), e_X6_bounded ⟨_, rfl, inR_b (by omega) (by omega), ?_⟩⟩
            have fin : ∀ y : Nat, y ≤ 121 → Rn (4 * (20 - d) + 11) mX6_readSum (fun v A' => ∃ y, v = some (.inl y) ∧ Q y A') 4 [some (.inr (.inl 23)), some (.inl ((d : Int))), some (.inl ((y : Int))), some (.inl ((v3 : Int) + 1))] [] F := fun y yb => by
              have fin := h F y j' (fr_mo (fr_tr fC (fr_tr fC2 (fr_tr fG fF))) (by decide)) qF (by omega) yb
              exact w_X6_readSum_4 ⟨fun _ => ⟨_, rfl, fin⟩, fun _ => sX_goesOn qF (fun w => by omega) (fun _ => ⟨fun _ => ⟨_, rfl, fin⟩, fun z => absurd rfl z⟩)⟩
            have := fin (if 121 < (if 121 < z then 121 else z) + X then 121 else (if 121 < z then 121 else z) + X) (by generalize (if 121 < z then 121 else z) = zz; split <;> omega)
            rw [show (if (121 : Int) < ((if 121 < z then 121 else z : Nat) : Int) + (X : Int) then (121 : Int) else ((if 121 < z then 121 else z : Nat) : Int) + (X : Int)) = ((if 121 < (if 121 < z then 121 else z) + X then 121 else (if 121 < z then 121 else z) + X : Nat) : Int) by generalize (if 121 < z then 121 else z) = zz; split <;> split <;> omega]
            exact this
          · refine go G k2 ab e2 (fr_mo (fr_tr fC2 fG) (by decide)) qG ⟨lG.1, lG.2.1, fun q hq' => ?_⟩ h
            have a1 := lG.2.2 q hq'
            have a2 := lp.2.2 q hq'
            exact ⟨a1.1.trans a2.1, a1.2.trans a2.2⟩
        · have eg : grp s n k = .inr (k, 1, 1) := by
            unfold grp
            rw [if_neg (fun y => hn ⟨rfl, y⟩)]
          rw [eg] at h
          exact go C2 k (1, 1) eg (fr_mo fC2 (by decide)) qC2 lp h
    · have hc : j < n ∧ s j ≠ 41 := ⟨hjn, y41⟩
      rw [if_pos hc, if_pos y124] at hP
      refine ⟨inR_b (by omega) (by omega), inR_b (by omega) (by omega), ?_⟩
      rw [show (v3 : Int) + 1 = ((v3 + 1 : Nat) : Int) by omega]
      have fB : fr [23] A (iz_pI A 23 (uz (A.1 23) 7 ((j : Int) + 1))) := fr_pI (fr_mo (fr_rf A) (by decide)) (by decide)
      refine ih d hd (j + 1) z _ _ (v3 + 1) _ Q (sg_k hsA fB (by decide)) ⟨hq.1, (show (j : Int) + 1 = ((j + 1 : Nat) : Int) by omega), hq.2.2⟩ (by omega) (by omega) (by omega) (PrE_mono hP (fun e _ h C v j' fC => h C v j' (fr_mo (fr_tr fB fC) (by decide))) (fun k zR _ h C fC qC pC rC => h C (fr_mo (fr_tr fB fC) (by decide)) qC (pf_tr (pf_fr fB (by decide)) (pf_le pC (by omega))) (fun _ => ⟨fun _ => rC, fun w => absurd y124 w⟩)))
