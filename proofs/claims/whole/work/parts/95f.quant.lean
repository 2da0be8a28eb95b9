/-! ===== the reference repeats an atom ===== -/
theorem mx_rep {z c : Nat} (hz : ¬ z = 0) (hc : ¬ c = 0) : mx z + (c - 1) ≤ mx (z * c) := by
  obtain ⟨x, rfl⟩ : ∃ x, z = x + 1 := ⟨z - 1, (by omega)⟩
  obtain ⟨y, rfl⟩ : ∃ y, c = y + 1 := ⟨c - 1, (by omega)⟩
  have e : (x + 1) * (y + 1) = x * y + x + y + 1 := by
    rw [Nat.add_mul, Nat.mul_add, Nat.one_mul, Nat.mul_one]
    omega
  unfold mx
  rw [if_neg (by omega), e, if_neg (by omega)]
  omega
theorem ck_rep {N : Nat} {t : Nat → Int} {A : iz_A} {am : Nat} {c : List Int} {z w d : Nat} {R : Rel} {a b : Int} (h : CK N t A am c z w (2 * (20 - d) + mx z) R) (hz : z = 0 → ∀ p q, R p q ↔ p = q) (ha : 0 ≤ a) (hb : -1 ≤ b) (hab : b = -1 ∨ a ≤ b) : CK N t A am (rpc c z a b) (z * cps a b) (w + 1) (2 * (20 - d) + mx (z * cps a b)) (pwR R a b) := by
  have m1 := mx_pos (z * cps a b)
  refine ⟨len_rpc ha hb h.1, fun ft hm hf => kd_rpc (h.2 ft hm hf) hz ha hb hab (by omega) (fun c0 => ?_)⟩
  have := mx_rep (z := z) (c := cps a b) (fun e => c0 (Or.inl e)) (fun e => by
    unfold cps at e
    by_cases c1 : b = -1
    · rw [if_pos c1] at e
      by_cases c2 : a < 1
      · rw [if_pos c2] at e; omega
      · rw [if_neg c2] at e; omega
    · rw [if_neg c1] at e
      exact c0 (Or.inr (by omega)))
  omega
theorem sM_qR {N : Nat} {t : Nat → Int} {mk : Int} {dd d b k zp za am : Nat} {D Cp Ra : Rel} {L0 : List Int} {A B : iz_A} {P : iz_A → Prop} {c x y : Int} (hmk : mk = 0 ∨ mk = 1) (hd : d ≤ 20) (hk : k ≤ 200) (hH : HP N t mk d b k zp za D Cp Ra L0 am A) (f : fr [55] A B) (g : ff [37, 38, 45, 46] (A.1 55) (B.1 55)) (ga : GA am k A) (hx : 0 ≤ x ∧ x ≤ 99) (hy : -1 ≤ y ∧ y ≤ 99) (hP : ∀ C, fr [55, 77, 79, 81, 83] B C → ff [48, 53] (B.1 55) (C.1 55) → Lo d B C → C.1 55 53 = 0 → C.1 79 d = 0 → szR (C.2 77 d) (zp + za * cps x y) (k + 1 - b) → (mk = 1 → ∃ M, MkR (L0 ++ M) C ∧ ((y = -1 ∨ x ≤ y) → LvG N t d b (k + 1) (zp + za * cps x y) D (fun p q => ∃ r, Cp p r ∧ pwR Ra x y r q) M am C)) → P C) : Rn (dd + 3) mX11_quantify (fun v A' => v = none ∧ P A') 95 [some (.inr (.inl 55)), some (.inl c), some (.inl ((d : Int))), some (.inl mk), some (.inl x), some (.inl y), some (.inl ((cps x y : Int))), none, none] [] B := by
  obtain ⟨p1, p0, jp, p2, p3, ⟨Sp, p4, p5, p6⟩, p7⟩ := hH
  have cb := (cps_ok hx hy).1
  have e77 : B.2 77 = A.2 77 := f.2 77 (by decide)
  have e78 : B.2 78 = A.2 78 := f.2 78 (by decide)
  obtain ⟨s1, s2, s3⟩ := sz_rep (L := k + 1 - b) (c := cps x y) (x := (cps x y : Int)) p4 p5 (by omega) (by omega) (by omega) cb rfl
  -- from the state with the new size
  have go : ∀ E (v7 : Int64), fr [77] B E → (∀ i, i ≠ d → E.2 77 i = B.2 77 i) → szR (E.2 77 d) (zp + za * cps x y) (k + 1 - b) → Rn (dd + 3) mX11_quantify (fun v A' => v = none ∧ P A') 151 [some (.inr (.inl 55)), some (.inl c), some (.inl ((d : Int))), some (.inl mk), some (.inl x), some (.inl y), some (.inl ((cps x y : Int))), some (.inr (.inr v7)), none] [] E := fun E v7 fE o7 sE => by
    have f2 : fr [77, 79] B (iz_pI E 79 (uz (E.1 79) d 0)) := fr_pI (fr_mo fE (by decide)) (by decide)
    have l2 : Lo d B (iz_pI E 79 (uz (E.1 79) d 0)) := ⟨fun i hi => by
      refine ⟨(uz_ne _ _ (by omega)).trans (by rw [fE.1 79 (by decide)]), ?_, ?_, ?_, ?_, ?_⟩
      · show E.1 80 i = _
        rw [fE.1 80 (by decide)]
      · show E.1 81 i = _
        rw [fE.1 81 (by decide)]
      · show E.1 82 i = _
        rw [fE.1 82 (by decide)]
      · exact o7 i (by omega)
      · show E.2 78 i = _
        rw [fE.2 78 (by decide)], fun i _ => by
      show E.1 86 i = _
      rw [fE.1 86 (by decide)]⟩
    have e53 : B.1 55 53 = 0 := (g 53 (by decide)).trans ga.1
    have e79 : (iz_pI E 79 (uz (E.1 79) d 0)).1 79 d = 0 := uz_at _ _ _
    have s77 : szR ((iz_pI E 79 (uz (E.1 79) d 0)).2 77 d) (zp + za * cps x y) (k + 1 - b) := sE
    refine w_X11_quantify_151 ?_
    rw [tn]
    generalize iz_pI E 79 (uz (E.1 79) d 0) = E2 at *
    refine ⟨⟨by omega, by omega⟩, Or.inl rfl, fun z => w_X11_quantify_181 ⟨rfl, hP E2 (fr_mo f2 (by decide)) (ff_eq (f2.1 55 (by decide))) l2 (by rw [f2.1 55 (by decide)]; exact e53) e79 s77 (fun w => absurd (z.symm.trans w) (by decide))⟩, fun z => ?_⟩
    have mk1 : mk = 1 := hmk.elim (fun w => absurd w z) id
    obtain ⟨M, ac, wa, w1, w2, m1, m2, m3, m4⟩ := p7 mk1
    obtain ⟨q, q1, q2⟩ : ∃ q : Nat, A.1 81 d = (q : Int) ∧ q ≤ k := by
      obtain ⟨sc, rc, zs, zr, ws, wr, r, q, h1, h2, h3, h4, h5, h6, h7, h8, h9⟩ := m2
      exact ⟨q, h5, (by omega)⟩
    have fA2 : fr [55, 77, 79] A E2 := fr_mo (fr_tr f f2) (by decide)
    have gA2 : ff [37, 38, 45, 46] (A.1 55) (E2.1 55) := by rw [f2.1 55 (by decide)]; exact g
    refine sM_repeat (z := za) (Lp := L0 ++ M) (c := ac) (by omega) (mk_k m1 fA2 (by decide) gA2 (by decide)) (by rw [fA2.1 80 (by decide)]; exact m3) (by rw [fA2.2 78 (by decide)]; exact sz_z p5) hx hy (fun F fF gF mF => ⟨Or.inr rfl, ?_⟩)
    have f3 : fr [55] F (iz_pI F 55 (uz (F.1 55) 53 1)) := fr_pI (fr_mo (fr_rf F) (by decide)) (by decide)
    refine sM_endI (q := q) (j := k) hd hk (Or.inr ⟨?_, rfl⟩) ?_ q2 (mk_k mF f3 (by decide) (ff_uz (l := [53]) (ff_eq rfl) (by decide)) (by decide)) (fun G fG gG lG e79' e81' e53' mG => w_X11_quantify_181 ⟨rfl, hP G ?_ ?_ ?_ e53' e79' ?_ (fun _ => ⟨M ++ rpc ac za x y ++ (if q = 0 then [] else [-1]), ?_, fun hab => ?_⟩)⟩)
    · show F.1 79 d = 0
      rw [fF.1 79 (by decide)]
      exact e79
    · show F.1 81 d = _
      rw [fF.1 81 (by decide), fA2.1 81 (by decide)]
      exact q1
    · exact fr_mo (fr_tr f2 (fr_tr fF (fr_tr f3 fG))) (by decide)
    · refine ff_tr ?_ gG
      rw [← f2.1 55 (by decide)]
      exact ff_uz (ff_mo gF (by decide)) (by decide)
    · exact lo_tr (lo_tr l2 (lo_k fF (by decide)) (Nat.le_refl _)) (lo_tr (lo_k f3 (by decide)) lG (Nat.le_refl _)) (Nat.le_refl _)
    · rw [fG.2 77 (by decide)]
      show szR (F.2 77 d) _ _
      rw [fF.2 77 (by decide)]
      exact s77
    · simp only [List.append_assoc] at mG ⊢
      exact mG
    · have fAG : fr [55, 77, 79, 81, 83] A G := fr_mo (fr_tr fA2 (fr_tr fF (fr_tr f3 fG))) (by decide)
      refine lvG_item m2 p2 (wa := wa + 1) (by omega) (by omega) (ck_rep m4 p0 hx.1 hy.1 hab) (fx_k fAG (by decide) (by decide)) q1 e81' (by rw [fAG.1 82 (by decide)])
  refine w_X11_quantify_95 ?_
  rw [tn, up_at, lcmp_le, lM]
  have eS : B.2 77 d = Sp + B.2 78 d := by rw [e77, e78]; exact p6
  rw [eS]
  rw [← e78] at s1 s2 s3
  rw [s1]
  have ff7 : ∀ X Y : Int64, fr [77] B (iz_pL (iz_pL B 77 (vp_updL (B.2 77) d X)) 77 (vp_updL (vp_updL (B.2 77) d X) d Y)) := fun X Y => fr_pL (fr_pL (fr_mo (fr_rf B) (by decide)) (by decide)) (by decide)
  have ff8 : ∀ X Y : Int64, ∀ i, i ≠ d → (iz_pL (iz_pL B 77 (vp_updL (B.2 77) d X)) 77 (vp_updL (vp_updL (B.2 77) d X) d Y)).2 77 i = B.2 77 i := fun X Y i hi => (up_ne _ _ hi).trans (up_ne _ _ hi)
  have ff9 : ∀ X Y : Int64, (iz_pL (iz_pL B 77 (vp_updL (B.2 77) d X)) 77 (vp_updL (vp_updL (B.2 77) d X) d Y)).2 77 d = Y := fun X Y => up_at _ _ _
  refine ⟨⟨by omega, by omega⟩, inR_b (by omega) (by omega), ⟨by omega, by omega⟩, ⟨by omega, by omega⟩, ⟨by omega, by omega⟩, fun z => ⟨⟨by omega, by omega⟩, ⟨by omega, by omega⟩, go _ _ (ff7 _ _) (ff8 _ _) ?_⟩, fun z => ⟨⟨by omega, by omega⟩, go _ _ (ff7 _ _) (ff8 _ _) ?_⟩⟩
  · rw [ff9]
    exact s2 z
  · rw [ff9]
    exact s3 z
