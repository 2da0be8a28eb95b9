/-! ===== pieces of what was made ===== -/
theorem gd_l {a b : List Int} {i : Nat} (h : i < a.length) : (a ++ b).getD i 0 = a.getD i 0 := by
  rw [List.getD_eq_getElem?_getD, List.getD_eq_getElem?_getD, List.getElem?_append_left h]
theorem gd_r {a b : List Int} (i : Nat) : (a ++ b).getD (a.length + i) 0 = b.getD i 0 := by
  rw [List.getD_eq_getElem?_getD, List.getD_eq_getElem?_getD, List.getElem?_append_right (Nat.le_add_right _ _), Nat.add_sub_cancel_left]
theorem kd_atom {N : Nat} {t : Nat → Int} {ft : Nat × (Nat → Int → Prop)} {i : Nat} {R : Rel} (hi : i < 200) (hf : i < ft.1) (hR : ∀ p q, R p q ↔ (p < N ∧ 0 ≤ t p ∧ ft.2 i (t p)) ∧ q = p + 1) : Kd N t ft [(i : Int)] 1 1 R := by
  refine ⟨Nat.le_refl 1, fun d k h ps mk A Q a1 a2 a3 a4 a5 a6 a7 hP => ?_⟩
  have a3 : k + 1 ≤ mk := a3
  refine fp_push (w := (i : Int)) (a1 0 (Nat.succ_pos 0)) (Or.inr ⟨(by omega), (by omega)⟩) a2 (by omega) a4 a5 (Or.inl (by omega)) (by omega) (fun C f g b cF cL c => ?_)
  rcases c with ⟨c1, _⟩ | ⟨wn, c1, c2, c3, c4⟩
  · omega
  refine hP C f g c2 b ⟨Or.inl c1, fun x u v => ?_, ?_⟩
  · have e : x = ps := (by omega)
    rw [e, c3]
    exact ⟨(by omega), (by omega)⟩
  · have base := gl_atom (ok := okf N t ft C) (G := fG C) (lo := ps) (R := R) c4 (fun p q => by
      rw [hR p q]
      unfold okf
      rw [c3, tn])
    exact gl_cong base ⟨fun z => z.elim, fun z => by omega⟩ (fun x => by rw [cF x]; exact ⟨fun z => ⟨wn, z⟩, fun z => z.2⟩) (fun x => by rw [cL x]; exact ⟨fun z => ⟨wn, z⟩, fun z => z.2⟩) (fun _ _ _ _ => Iff.rfl) (fun _ _ _ _ => Iff.rfl) (fun _ _ => Iff.rfl)
theorem kd_empty (N : Nat) (t : Nat → Int) (ft : Nat × (Nat → Int → Prop)) : Kd N t ft [-6] 0 1 (fun p q => p = q) := by
  refine ⟨Nat.le_refl 1, fun d k h ps mk A Q a1 a2 a3 a4 a5 a6 a7 hP => ?_⟩
  have a3 : k + 1 ≤ mk := a3
  refine fp_push (w := -6) (a1 0 (by decide)) (Or.inl rfl) a2 (by omega) a4 a5 (Or.inr ⟨rfl, (by omega)⟩) (by omega) (fun C f g b cF cL c => ?_)
  rcases c with ⟨_, c1, c2⟩ | ⟨wn, _⟩
  · refine hP C f g c2 b ⟨Or.inr c1, fun x u v => by omega, ?_⟩
    exact gl_cong (gl_empty (okf N t ft C) (fG C) ps) ⟨fun _ => c1, fun _ => trivial⟩ (fun x => by rw [cF x]; exact ⟨fun z => z.elim, fun z => absurd rfl z.1⟩) (fun x => by rw [cL x]; exact ⟨fun z => z.elim, fun z => absurd rfl z.1⟩) (fun _ _ _ _ => Iff.rfl) (fun _ _ _ _ => Iff.rfl) (fun _ _ => Iff.rfl)
  · exact absurd rfl wn
theorem kd_join {N : Nat} {t : Nat → Int} {ft : Nat × (Nat → Int → Prop)} {c1 c2 : List Int} {z1 z2 D1 D2 D : Nat} {R1 R2 : Rel} (k1 : Kd N t ft c1 z1 D1 R1) (k2 : Kd N t ft c2 z2 D2 R2) (hD1 : D1 ≤ D) (hD2 : D2 + 1 ≤ D) : Kd N t ft (c1 ++ c2 ++ [-1]) (z1 + z2) D (fun p q => ∃ r, R1 p r ∧ R2 r q) := by
  have d2 := k2.1
  refine ⟨(by omega), fun d k h ps mk A Q a1 a2 a3 a4 a5 a6 a7 hP => ?_⟩
  have len : (c1 ++ c2 ++ [-1]).length = c1.length + c2.length + 1 := by simp only [List.length_append, List.length_cons, List.length_nil, Nat.zero_add]
  rw [len] at a1 a3 hP
  refine k1.2 d k h ps mk A Q (fun i hi => ?_) a2 (by omega) a4 a5 (by omega) (by omega) (fun B f g q b ge => ?_)
  · rw [a1 i (by omega), gd_l (by simp; omega), gd_l hi]
  have e83 : B.1 83 = A.1 83 := f.1 83 (by decide)
  refine k2.2 d (k + c1.length) (h + 1) (ps + z1) mk B Q (fun i hi => ?_) ((g 48 (by decide)).trans a2) (by omega) a4 q (by omega) (by omega) (fun C f' g' q' b' ge' => ?_)
  · rw [e83, Nat.add_assoc, a1 (c1.length + i) (by omega), gd_l (by simp; omega), gd_r]
  have e83' : C.1 83 = A.1 83 := (f'.1 83 (by decide)).trans e83
  have ge1 := ge_k ge b' (Nat.lt_succ_self h) (Nat.le_refl _)
  have last : A.1 83 (k + c1.length + c2.length) = -1 := by
    rw [Nat.add_assoc, a1 (c1.length + c2.length) (by omega)]
    have := gd_r (a := c1 ++ c2) (b := [-1]) 0
    rw [show (c1 ++ c2).length + 0 = c1.length + c2.length by simp] at this
    exact this
  refine fp_join (ps := ps + z1 + z2) (mk := mk) (by rw [e83']; exact last) ((g' 48 (by decide)).trans ((g 48 (by decide)).trans a2)) (by omega) a4 q' (by omega) (by omega) (fun E fE oE e1 e2 e90 eF eL => ?_)
  have fAE : fr [55, 87, 88, 89, 90, 91, 92, 93, 94] A E := fr_mo (fr_tr f (fr_tr f' fE)) (by decide)
  have e55 : E.1 55 = C.1 55 := fE.1 55 (by decide)
  have e87 : E.1 87 = C.1 87 := fE.1 87 (by decide)
  obtain ⟨u1, u2, u3⟩ := ge1
  obtain ⟨v1, v2, v3⟩ := ge'
  have n0 : ∀ j, (C.1 90 j = 0 ∨ C.1 90 j = 1) → (¬ C.1 90 j = 0 ↔ C.1 90 j = 1) := fun j hj => by omega
  rw [show k + (c1.length + c2.length + 1) = k + c1.length + c2.length + 1 by omega] at hP
  have bCE : Blw h ps C E := ⟨fun i hi => oE i (by omega), fun x hx => ⟨by rw [e87], e2 x (fun w => by have := u3.2.1 x w.2; omega)⟩⟩
  refine hP E fAE (by rw [e55]; exact ff_tr g g') (by rw [e55, q', Nat.add_assoc]) (blw_tr b (blw_tr (blw_w b' (Nat.le_succ h) (Nat.le_add_right _ _)) bCE (Nat.le_refl _) (Nat.le_refl _)) (Nat.le_refl _) (Nat.le_refl _)) ⟨?_, fun x x1 x2 => ?_, ?_⟩
  · rw [e90]
    split
    · exact Or.inl rfl
    · exact Or.inr rfl
  · rw [e87]
    by_cases c : x < ps + z1
    · exact u2 x x1 c
    · exact v2 x (by omega) (by omega)
  · rw [show ps + (z1 + z2) = ps + z1 + z2 by omega]
    refine gl_cong (gl_join u3 v3 (Nat.le_add_right _ _) (Nat.le_add_right _ _)) ?_ (fun x => ?_) (fun x => ?_) (fun x p _ _ => ?_) (fun x y x1 x2 => ?_) (fun _ _ => Iff.rfl)
    · rw [e90]
      by_cases c : C.1 90 h = 0 ∨ C.1 90 (h + 1) = 0
      · rw [if_pos c]
        exact ⟨fun z => by omega, fun z => absurd z (by decide)⟩
      · rw [if_neg c]
        exact ⟨fun _ => rfl, fun _ => by omega⟩
    · rw [eF x, n0 h u1]
    · rw [eL x, n0 (h + 1) v1]
    · unfold okf
      rw [e87]
    · unfold fG
      by_cases c : b2 (C.2 93 h) (C.2 94 h) x
      · have w := e1 x (by omega) c
        rw [w.1, w.2, b2_or]
        exact ⟨fun z => z.elim Or.inl (fun z => Or.inr z.2), fun z => z.elim Or.inl (fun z => Or.inr ⟨c, z⟩)⟩
      · have w := e2 x (fun w => c w.2)
        rw [w.1, w.2]
        exact ⟨fun z => z.elim id (fun z => absurd z.1 c), Or.inl⟩
theorem kd_or {N : Nat} {t : Nat → Int} {ft : Nat × (Nat → Int → Prop)} {c1 c2 : List Int} {z1 z2 D1 D2 D : Nat} {R1 R2 : Rel} (k1 : Kd N t ft c1 z1 D1 R1) (k2 : Kd N t ft c2 z2 D2 R2) (hD1 : D1 ≤ D) (hD2 : D2 + 1 ≤ D) : Kd N t ft (c1 ++ c2 ++ [-2]) (z1 + z2) D (fun p q => R1 p q ∨ R2 p q) := by
  have d2 := k2.1
  refine ⟨(by omega), fun d k h ps mk A Q a1 a2 a3 a4 a5 a6 a7 hP => ?_⟩
  have len : (c1 ++ c2 ++ [-2]).length = c1.length + c2.length + 1 := by simp only [List.length_append, List.length_cons, List.length_nil, Nat.zero_add]
  rw [len] at a1 a3 hP
  refine k1.2 d k h ps mk A Q (fun i hi => ?_) a2 (by omega) a4 a5 (by omega) (by omega) (fun B f g q b ge => ?_)
  · rw [a1 i (by omega), gd_l (by simp; omega), gd_l hi]
  have e83 : B.1 83 = A.1 83 := f.1 83 (by decide)
  refine k2.2 d (k + c1.length) (h + 1) (ps + z1) mk B Q (fun i hi => ?_) ((g 48 (by decide)).trans a2) (by omega) a4 q (by omega) (by omega) (fun C f' g' q' b' ge' => ?_)
  · rw [e83, Nat.add_assoc, a1 (c1.length + i) (by omega), gd_l (by simp; omega), gd_r]
  have e83' : C.1 83 = A.1 83 := (f'.1 83 (by decide)).trans e83
  have ge1 := ge_k ge b' (Nat.lt_succ_self h) (Nat.le_refl _)
  have last : A.1 83 (k + c1.length + c2.length) = -2 := by
    rw [Nat.add_assoc, a1 (c1.length + c2.length) (by omega)]
    have := gd_r (a := c1 ++ c2) (b := [-2]) 0
    rw [show (c1 ++ c2).length + 0 = c1.length + c2.length by simp] at this
    exact this
  refine fp_or (mk := mk) (by rw [e83']; exact last) ((g' 48 (by decide)).trans ((g 48 (by decide)).trans a2)) (by omega) a4 (by omega) (fun E fE oE e90 eF eL => ?_)
  have fAE : fr [55, 87, 88, 89, 90, 91, 92, 93, 94] A E := fr_mo (fr_tr f (fr_tr f' fE)) (by decide)
  have e55 : E.1 55 = C.1 55 := fE.1 55 (by decide)
  have e87 : E.1 87 = C.1 87 := fE.1 87 (by decide)
  obtain ⟨u1, u2, u3⟩ := ge1
  obtain ⟨v1, v2, v3⟩ := ge'
  rw [show k + (c1.length + c2.length + 1) = k + c1.length + c2.length + 1 by omega] at hP
  have bCE : Blw h ps C E := ⟨fun i hi => oE i (by omega), fun x hx => ⟨by rw [e87], by rw [fE.2 88 (by decide)], by rw [fE.2 89 (by decide)]⟩⟩
  refine hP E fAE (by rw [e55]; exact ff_tr g g') (by rw [e55, q', Nat.add_assoc]) (blw_tr b (blw_tr (blw_w b' (Nat.le_succ h) (Nat.le_add_right _ _)) bCE (Nat.le_refl _) (Nat.le_refl _)) (Nat.le_refl _) (Nat.le_refl _)) ⟨?_, fun x x1 x2 => ?_, ?_⟩
  · rw [e90]
    split
    · exact Or.inl rfl
    · exact Or.inr rfl
  · rw [e87]
    by_cases c : x < ps + z1
    · exact u2 x x1 c
    · exact v2 x (by omega) (by omega)
  · rw [show ps + (z1 + z2) = ps + z1 + z2 by omega]
    refine gl_cong (gl_or u3 v3 (Nat.le_add_right _ _) (Nat.le_add_right _ _)) ?_ (fun x => ?_) (fun x => ?_) (fun x p _ _ => ?_) (fun x y x1 x2 => ?_) (fun _ _ => Iff.rfl)
    · rw [e90]
      by_cases c : C.1 90 h = 0 ∧ C.1 90 (h + 1) = 0
      · rw [if_pos c]
        exact ⟨fun z => by omega, fun z => absurd z (by decide)⟩
      · rw [if_neg c]
        exact ⟨fun _ => rfl, fun _ => by omega⟩
    · rw [eF x]
    · rw [eL x]
    · unfold okf
      rw [e87]
    · unfold fG
      rw [fE.2 88 (by decide), fE.2 89 (by decide)]
theorem kd_un {N : Nat} {t : Nat → Int} {ft : Nat × (Nat → Int → Prop)} {c : List Int} {z D : Nat} {R R' : Rel} {w : Int} (k1 : Kd N t ft c z D R) (hw : (w = -3 ∧ ∀ p q, pwR R 0 (-1) p q ↔ R' p q) ∨ (w = -4 ∧ ∀ p q, pwR R 1 (-1) p q ↔ R' p q) ∨ (w = -5 ∧ ∀ p q, (R p q ∨ p = q) ↔ R' p q)) : Kd N t ft (c ++ [w]) z D R' := by
  have d1 := k1.1
  refine ⟨d1, fun d k h ps mk A Q a1 a2 a3 a4 a5 a6 a7 hP => ?_⟩
  have len : (c ++ [w]).length = c.length + 1 := by simp
  rw [len] at a1 a3 hP
  refine k1.2 d k h ps mk A Q (fun i hi => ?_) a2 (by omega) a4 a5 (by omega) (by omega) (fun C f g q b ge => ?_)
  · rw [a1 i (by omega), gd_l hi]
  have e83 : C.1 83 = A.1 83 := f.1 83 (by decide)
  have last : C.1 83 (k + c.length) = w := by
    rw [e83, a1 c.length (by omega)]
    exact gd_r (a := c) (b := [w]) 0
  obtain ⟨u1, u2, u3⟩ := ge
  refine fp_once (ps := ps + z) (mk := mk) last (by omega) ((g 48 (by decide)).trans a2) (by omega) a4 q (by omega) (by omega) (fun E fE oE e1 e2 e90 => ?_)
  have fAE : fr [55, 87, 88, 89, 90, 91, 92, 93, 94] A E := fr_mo (fr_tr f fE) (by decide)
  have e55 : E.1 55 = C.1 55 := fE.1 55 (by decide)
  have e87 : E.1 87 = C.1 87 := fE.1 87 (by decide)
  have e91 : E.2 91 = C.2 91 := fE.2 91 (by decide)
  have e92 : E.2 92 = C.2 92 := fE.2 92 (by decide)
  have e93 : E.2 93 = C.2 93 := fE.2 93 (by decide)
  have e94 : E.2 94 = C.2 94 := fE.2 94 (by decide)
  have bCE : Blw h ps C E := ⟨fun i hi => ⟨oE i (by omega), by rw [e91], by rw [e92], by rw [e93], by rw [e94]⟩, fun x hx => ⟨by rw [e87], e2 x (fun w => by have := u3.2.1 x w.2.2; omega)⟩⟩
  rw [show k + (c.length + 1) = k + c.length + 1 by omega] at hP
  refine hP E fAE (by rw [e55]; exact g) (by rw [e55]; exact q) (blw_tr b bCE (Nat.le_refl _) (Nat.le_refl _)) ⟨?_, fun x x1 x2 => ?_, ?_⟩
  · rw [e90]
    split
    · exact Or.inl rfl
    · exact Or.inr rfl
  · rw [e87]
    exact u2 x x1 x2
  · rw [e91, e92, e93, e94]
    rcases hw with ⟨rfl, hR⟩ | ⟨rfl, hR⟩ | ⟨rfl, hR⟩
    · refine gl_cong (gl_many u3 0 (Or.inl rfl)) ?_ (fun x => Iff.rfl) (fun x => Iff.rfl) (fun x p _ _ => ?_) (fun x y x1 x2 => ?_) hR
      · rw [e90, if_neg (fun z => absurd z.2 (by decide))]
        exact ⟨fun _ => rfl, fun _ => Or.inr rfl⟩
      · unfold okf
        rw [e87]
      · unfold fG
        by_cases c : b2 (C.2 93 h) (C.2 94 h) x
        · have w := e1 x (by decide) (by omega) c
          rw [w.1, w.2, b2_or]
          exact ⟨fun z => z.elim Or.inl (fun z => Or.inr z.2), fun z => z.elim Or.inl (fun z => Or.inr ⟨c, z⟩)⟩
        · have w := e2 x (fun w => c w.2.2)
          rw [w.1, w.2]
          exact ⟨fun z => z.elim id (fun z => absurd z.1 c), Or.inl⟩
    · refine gl_cong (gl_many u3 1 (Or.inr rfl)) ?_ (fun x => Iff.rfl) (fun x => Iff.rfl) (fun x p _ _ => ?_) (fun x y x1 x2 => ?_) hR
      · rw [e90]
        by_cases c : C.1 90 h = 0
        · rw [if_pos ⟨c, rfl⟩]
          exact ⟨fun z => z.elim (fun z => by omega) (fun z => absurd z (by decide)), fun z => absurd z (by decide)⟩
        · rw [if_neg (fun z => c z.1)]
          exact ⟨fun _ => rfl, fun _ => Or.inl (by omega)⟩
      · unfold okf
        rw [e87]
      · unfold fG
        by_cases c : b2 (C.2 93 h) (C.2 94 h) x
        · have w := e1 x (by decide) (by omega) c
          rw [w.1, w.2, b2_or]
          exact ⟨fun z => z.elim Or.inl (fun z => Or.inr z.2), fun z => z.elim Or.inl (fun z => Or.inr ⟨c, z⟩)⟩
        · have w := e2 x (fun w => c w.2.2)
          rw [w.1, w.2]
          exact ⟨fun z => z.elim id (fun z => absurd z.1 c), Or.inl⟩
    · refine gl_cong (gl_perhaps u3) ?_ (fun x => Iff.rfl) (fun x => Iff.rfl) (fun x p _ _ => ?_) (fun x y x1 x2 => ?_) hR
      · rw [e90, if_neg (fun z => absurd z.2 (by decide))]
        exact ⟨fun _ => rfl, fun _ => trivial⟩
      · unfold okf
        rw [e87]
      · unfold fG
        have w := e2 x (fun w => absurd rfl w.1)
        rw [w.1, w.2]
