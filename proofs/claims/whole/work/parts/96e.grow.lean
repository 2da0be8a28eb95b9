/-! ===== the class writes a query out ===== -/
theorem pat_leaf {N : Nat} {t s : Nat → Int} {n : Nat} {f : Nat → Nat → Pr (Nat × Rel)} {d j k : Nat} {zR : Nat × Rel} (hn : ¬ s j = 40) (h : pat N t s n f d j = .inr (k, zR)) : zR.1 = 1 ∧ zR.2 = atR N t (gset s n j) := by
  unfold pat at h
  unfold gset
  rw [if_neg hn] at h
  by_cases c2 : s j = 91
  · rw [if_pos c2] at h ⊢
    obtain ⟨k1, S, e1, h⟩ := bnd_ok h
    cases h
    rw [e1]
    exact ⟨rfl, rfl⟩
  · rw [if_neg c2] at h ⊢
    by_cases c3 : s j = 46
    · rw [if_pos c3] at h ⊢
      cases h
      exact ⟨rfl, rfl⟩
    · rw [if_neg c3] at h ⊢
      by_cases c4 : s j = 93 ∨ s j = 123 ∨ s j = 125 ∨ s j = 42 ∨ s j = 43 ∨ s j = 63
      · rw [if_pos c4] at h; cases h
      · rw [if_neg c4] at h
        obtain ⟨k1, a, e1, h⟩ := bnd_ok h
        cases h
        rw [e1]
        exact ⟨rfl, rfl⟩
theorem sX_tcomes {d n j : Nat} {A : iz_A} {s : Nat → Int} {c : Int} {P : Int → iz_A → Prop} (hs : Sg s n A) (hn : A.1 23 6 = (n : Int)) (hj : A.1 38 7 = (j : Int)) (h1 : j < n → s j = c → P 1 A) (h0 : ¬ (j < n ∧ s j = c) → P 0 A) : Ci (d + 1) 100 [.inr (.inl 38), .inl c] A P := by
  refine e_X9_comes ?_
  rw [hn, hj]
  refine ⟨fun z => ⟨Or.inl rfl, _, rfl, h0 (by omega)⟩, fun z => ?_⟩
  have := hs.1
  rw [tn, (hs.2 j (by omega)).1]
  exact ⟨⟨by omega, by omega⟩, fun y => ⟨Or.inl rfl, _, rfl, h0 (fun w => y w.2)⟩, fun y => ⟨Or.inr rfl, _, rfl, h1 (by omega) y⟩⟩
/-- the class's sets are right for sign i -/
def OkS (s : Nat → Int) (n : Nat) (A : iz_A) (i : Nat) : Prop := ∀ c : Nat, c < 256 → (mb A i c ↔ gset s n i (c : Int))
def SumSt (N : Nat) (t s : Nat → Int) (n : Nat) (A0 : iz_A) (m : Nat) : Prop := ∀ (d j k : Nat) (zR : Nat × Rel), d ≤ 20 → j ≤ n → psm N t s n m d j 0 (fun _ _ => False) (fun p q => p = q) = .inr (k, zR) → RcS N t s n A0 m d j → ∀ (A : iz_A) (lo : Nat) (P : Int → iz_A → Prop), fr [38, 39, 40, 41, 42, 43] A0 A → A.1 38 6 = (lo : Int) → A.1 38 7 = (j : Int) → lo + 2 * zR.1 ≤ 240 → (∀ C v (nd : Nat), fr [38, 39, 40, 41, 42, 43] A0 C → C.1 38 6 = (nd : Int) → C.1 38 7 = (k : Int) → Und lo A C → Rp N t (gset s n) (OkS s n A0) C lo zR.1 v zR.2 nd → P v C) → Ci (4 * (20 - d) + 5) 101 [.inr (.inl 38), .inl (d : Int)] A P
def RowSt (N : Nat) (t s : Nat → Int) (n : Nat) (A0 : iz_A) (m : Nat) : Prop := ∀ (d j z : Nat) (D C : Rel) (k : Nat) (zR : Nat × Rel), d ≤ 20 → j ≤ n → psm N t s n m d j z D C = .inr (k, zR) → RcS N t s n A0 m d j → ∀ (A : iz_A) (lo zc : Nat) (rv : Int) (nd : Nat) (P : Int → iz_A → Prop), fr [38, 39, 40, 41, 42, 43] A0 A → A.1 38 6 = (nd : Int) → A.1 38 7 = (j : Int) → Rp N t (gset s n) (OkS s n A0) A lo zc rv C nd → lo + 2 * (zc + (zR.1 - z)) ≤ 240 → (∀ (E : iz_A) (rv' : Int) (m1 j1 z1 : Nat) (C1 : Rel) (zc1 nd1 : Nat), m1 ≤ m → psm N t s n m1 d j1 z1 D C1 = .inr (k, zR) → RcS N t s n A0 m1 d j1 → j ≤ j1 → j1 ≤ n → ¬ (j1 < n ∧ s j1 ≠ 124 ∧ s j1 ≠ 41) → fr [38, 39, 40, 41, 42, 43] A0 E → E.1 38 6 = (nd1 : Int) → E.1 38 7 = (j1 : Int) → Und lo A E → Rp N t (gset s n) (OkS s n A0) E lo zc1 rv' C1 nd1 → z1 + zc = z + zc1 → P rv' E) → Rn (4 * (20 - d) + 3) mX9_growRow (fun v A' => ∃ y, v = some (.inl y) ∧ P y A') 2 [some (.inr (.inl 38)), some (.inl ((d : Int))), some (.inl rv), none] [] A
theorem gRow {N : Nat} {t s : Nat → Int} {n : Nat} {A0 : iz_A} (hs : Sg s n A0) (hn : A0.1 23 6 = (n : Int)) (M : Nat) (hS : ∀ m, m < M → SumSt N t s n A0 m) : ∀ m, m ≤ M → RowSt N t s n A0 m := by
  have nb := hs.1
  have hs2 := fun i hi => (hs.2 i hi).2
  intro m
  induction m with
  | zero => intro _ d j z D C k zR _ _ h; cases h
  | succ m ih =>
    intro hm d j z D C k zR hd hj h hR A lo zc rv nd P fA a6 a7 rA cap hP
    have hsA : Sg s n A := sg_k hs fA (by decide)
    have hnA : A.1 23 6 = (n : Int) := by rw [fA.1 23 (by decide)]; exact hn
    have stop : ¬ (j < n ∧ s j ≠ 124 ∧ s j ≠ 41) → P rv A := fun hstop => hP A rv (m + 1) j z C zc nd (Nat.le_refl _) h hR (Nat.le_refl _) hj hstop fA a6 a7 (und_rf _ _) rA rfl
    refine w_X9_growRow_2 ⟨fun y => ⟨_, rfl, stop (fun w => ?_)⟩, fun y => sX_tcomes hsA hnA a7 (fun _ e => ⟨fun _ => ⟨_, rfl, stop (fun w => w.2.1 e)⟩, fun z => absurd z n10⟩) (fun n124 => ⟨fun z => absurd rfl z, fun _ => sX_tcomes hsA hnA a7 (fun _ e => ⟨fun _ => ⟨_, rfl, stop (fun w => w.2.2 e)⟩, fun z => absurd z n10⟩) (fun n41 => ⟨fun z => absurd rfl z, fun _ => ?_⟩)⟩)⟩
    · rw [hnA, a7] at y
      omega
    · rw [hnA, a7] at y
      have jn : j < n := (by omega)
      have c41 : s j ≠ 41 := fun e => n41 ⟨jn, e⟩
      have c124 : ¬ s j = 124 := fun e => n124 ⟨jn, e⟩
      have hR' := (hR ⟨jn, c41⟩).2 c124
      unfold psm at h
      rw [if_pos ⟨jn, c41⟩, if_neg c124] at h
      obtain ⟨k1, zi, ei, h⟩ := bnd_ok h
      obtain ⟨ka, a2, ea, ei⟩ := bnd_ok ei
      obtain ⟨k2, ab, eg, ei⟩ := bnd_ok ei
      obtain ⟨a, b⟩ := ab
      have po := pat_ok hs2 (fun d j k zR a b => psm_ok hs2 m d j _ _ _ k zR a b) jn ea
      have gk := grp_ok po.2 eg
      cases ei
      have hge := psm_ge _ _ _ _ _ _ _ _ h
      simp only at hge h gk
      obtain ⟨⟨r25, r26, r27, r28⟩, rset, rin, rrest⟩ := hR' ka a2 ea k1 a b eg
      have nb0 := rp_nd rA
      -- on behind the item, from a state where its node is told
      have next : ∀ (E : iz_A) (w : Int) (zn nn : Nat) (Cn : Rel), fr [38, 39, 40, 41, 42, 43] A0 E → ff [6] (A.1 38) (A.1 38) → E.1 38 6 = (nn : Int) → Und lo A E → Rp N t (gset s n) (OkS s n A0) E lo zn w Cn nn → zn = zc + a2.1 * cps a b → (∀ p q, Cn p q ↔ ∃ r, C p r ∧ pwR a2.2 a b r q) → (((0 : Int) ≤ (j : Int) ∧ (j : Int) < 200) ∧ inR ((j : Int) + 1) ∧ Rn (4 * (20 - d) + 3) mX9_growRow (fun v A' => ∃ y, v = some (.inl y) ∧ P y A') 2 [some (.inr (.inl 38)), some (.inl ((d : Int))), some (.inl w), none] [] (iz_pI E 38 (uz (E.1 38) 7 (if E.1 26 j < (j : Int) + 1 then (j : Int) + 1 else E.1 26 j)))) := fun E w zn nn Cn fE _ e6 uE rE ez eC => by
        refine ⟨⟨by omega, by omega⟩, inR_b (by omega) (by omega), ?_⟩
        have e26 : E.1 26 j = (k1 : Int) := by rw [fE.1 26 (by decide)]; exact r26
        rw [e26, if_neg (by omega)]
        have f2 : fr [38] E (iz_pI E 38 (uz (E.1 38) 7 (k1 : Int))) := fr_pI (fr_mo (fr_rf E) (by decide)) (by decide)
        refine ih (by omega) d k1 (z + a2.1 * cps a b) D _ k zR hd gk.2.1 h rrest _ lo zn w nn P (fr_mo (fr_tr fE f2) (by decide)) e6 rfl (rp_k rE (fun _ _ _ => ⟨rfl, rfl, rfl, rfl, rfl⟩) eC) (by omega) (fun F rv' m1 j1 z1 C1 zc1 nd1 hm1 hp hr hj1 hj1n hend fF f6 f7 uF rF ez1 => hP F rv' m1 j1 z1 C1 zc1 nd1 (by omega) hp hr (by omega) hj1n hend fF f6 f7 (und_tr uE uF (Nat.le_refl _)) rF (by omega))
      rw [a7, tn]
      have zi121 : ¬ 121 < a2.1 * cps a b := by
        have := nb0
        omega
      rw [if_neg zi121] at r25
      have A25 : A.1 25 j = ((a2.1 * cps a b : Nat) : Int) := by rw [fA.1 25 (by decide)]; exact r25
      rw [A25]
      refine ⟨⟨by omega, by omega⟩, fun zn => ?_, fun z0 => ?_⟩
      · have zpos : 0 < a2.1 := Nat.pos_of_ne_zero fun e => zn (by rw [e, Nat.zero_mul]; rfl)
        refine sX_item (D := 4 * (20 - d)) (A0 := A0) (N := N) (t := t) (as := gset s n) (Ok := OkS s n A0) (Ra := a2.2) (za := a2.1) (a := a) (b := b) (by omega) gk.2.2.1 gk.2.2.2.1 gk.2.2.2.2 zpos r27 r28 (fun B nB PB fB b6 bcap hPB => ?_) fA a6 (by omega) (fun C' v nd' fC c6 uC rC => sX_joined (z1 := zc) (n1 := nd) (R1 := C) c6 ?_ rC (by omega) (fun E w n' fE gE e6 uE rE => next E w _ n' _ (fr_mo (fr_tr fC fE) (by decide)) (ff_eq rfl) e6 (und_tr (und_tr (und_rf lo A) uC nb0.1) uE (Nat.le_refl _)) rE rfl (fun _ _ => Iff.rfl)))
        · -- its atom
          have B24 : B.1 24 j = s j := by rw [fB.1 24 (by decide)]; exact (hs.2 j jn).1
          refine e_X9_growAtom ?_
          rw [tn, B24]
          refine ⟨⟨by omega, by omega⟩, fun e40 => ?_, fun n40 => ?_⟩
          · unfold pat at ea
            rw [if_pos e40] at ea
            by_cases d20 : d < 20
            · rw [if_pos d20] at ea
              obtain ⟨k9, z9, e9, ea⟩ := bnd_ok ea
              by_cases ck : k9 < n
              · rw [if_pos ck] at ea
                cases ea
                refine ⟨fun _ => ⟨inR_b (by omega) (by omega), inR_b (by omega) (by omega), ?_⟩, fun y => by omega⟩
                have f2 : fr [38] B (iz_pI B 38 (uz (B.1 38) 7 ((j : Int) + 1))) := fr_pI (fr_mo (fr_rf B) (by decide)) (by decide)
                have := hS m hm (d + 1) (j + 1) k9 a2 d20 (by omega) e9 (rin e40) (iz_pI B 38 (uz (B.1 38) 7 ((j : Int) + 1))) nB (fun x A' => ∃ y, (some (.inl x) : Option iz_V) = some (.inl y) ∧ PB y A') (fr_mo (fr_tr fB f2) (by decide)) b6 (show (j : Int) + 1 = ((j + 1 : Nat) : Int) by omega) bcap (fun C' v nd' fC c6 c7 uC rC => ⟨_, rfl, hPB C' v nd' fC c6 uC rC⟩)
                rw [show 4 * (20 - (d + 1)) + 5 = 4 * (20 - d) + 1 by omega, show ((d + 1 : Nat) : Int) = (d : Int) + 1 by omega] at this
                exact this
              · rw [if_neg ck] at ea; cases ea
            · rw [if_neg d20] at ea; cases ea
          · have pl := pat_leaf n40 ea
            refine sX_node b6 (by omega) (Or.inl rfl) (fun C' f g c6 c39 c40 c41 c42 c43 un => ⟨_, rfl, hPB C' _ (nB + 1) (fr_mo (fr_tr fB f) (by decide)) c6 un (Or.inr ⟨zpos, (by omega), (by omega), ?_⟩)⟩)
            rw [show nB + 1 - 1 = nB by omega, pl.2]
            exact gd_leaf (i := j) (by omega) (rset n40) c39 c40 c42 c43
        · rcases rA with ⟨q1, q2, q3, q4⟩ | ⟨q1, q2, q3, q4⟩
          · exact Or.inl ⟨q1, q2, q3, q4⟩
          · exact Or.inr ⟨q1, q2, q3, gd_k q4 (und_ag uC (by omega)) (fun _ _ => Iff.rfl)⟩
      · have z0' : a2.1 * cps a b = 0 := (by omega)
        have key : ∀ p q, pwR a2.2 a b p q ↔ p = q := fun p q => by
          rcases Nat.mul_eq_zero.1 z0' with w | w
          · have := pat_zero (fun d j k zR e => by
              intro hz0
              by_cases cj : j ≤ n
              · exact psm_zero hs2 _ _ _ _ _ _ _ _ cj (fun _ _ w => w.elim) (fun _ _ => Iff.rfl) e hz0
              · cases m with
                | zero => cases e
                | succ m =>
                  unfold psm at e
                  rw [if_neg (fun w => cj (by omega))] at e
                  cases e
                  exact fun p q => ⟨fun w => w.elim (fun w => w.elim) id, Or.inr⟩) ea w
            exact (pw_id this gk.2.2.1.1 gk.2.2.2.2 p q).symm
          · have b0 : b = 0 ∧ a = 0 := by
              unfold cps at w
              by_cases x1 : b = -1
              · rw [if_pos x1] at w
                by_cases x2 : a < 1
                · rw [if_pos x2] at w; omega
                · rw [if_neg x2] at w; omega
              · rw [if_neg x1] at w; omega
            rw [b0.1, b0.2]
            exact (pw_00 a2.2 p q).symm
        have cap0 : lo + 2 * (zc + 0) ≤ 240 := (by omega)
        refine sX_joined (z1 := zc) (z2 := 0) (n1 := nd) (R2 := fun p q => p = q) a6 rA (Or.inl ⟨rfl, rfl, rfl, fun _ _ => Iff.rfl⟩) cap0 (fun E w n' fE gE e6 uE rE => next E w _ n' _ (fr_mo (fr_tr fA fE) (by decide)) (ff_eq rfl) e6 uE rE (by rw [z0']) (fun p q => exists_congr fun r => and_congr Iff.rfl (key r q).symm))
