/-! ===== places that are told, and counted by document ===== -/
theorem XI_k5 {x : Ix} {A C : iz_A} {l m : List Nat} (h : XI x A) (f : fr l A C) (hl : ∀ q ∈ [6, 7, 8, 9, 10, 11, 12], q ∉ l) (g : ff m (A.1 5) (C.1 5)) (hm : ∀ q ∈ [8, 9], q ∉ m) : XI x C := by
  unfold XI at h ⊢
  rw [g 8 (hm 8 (by decide)), g 9 (hm 9 (by decide)), f.1 6 (hl 6 (by decide)), f.1 7 (hl 7 (by decide)), f.1 8 (hl 8 (by decide)), f.1 9 (hl 9 (by decide)), f.1 10 (hl 10 (by decide)), f.1 11 (hl 11 (by decide)), f.1 12 (hl 12 (by decide))]
  exact h
/-- rate and steps of both -/
def StR (k : Nat) (A : iz_A) : Prop := ∃ rt st : Nat, 1 ≤ rt ∧ rt ≤ 64 ∧ st ≤ 64 * k ∧ A.1 5 10 = (rt : Int) ∧ A.1 5 11 = (st : Int) ∧ A.1 55 9 = (rt : Int) ∧ A.1 55 10 = (st : Int)
theorem md_eq {p F rt : Nat} (hp : F ≤ p) (h3 : p < 3000) (h1 : 1 ≤ rt) (h2 : rt ≤ 64) : (iv ((p : Int) - (F : Int)) - iv ((p : Int) - (F : Int)) / iv (rt : Int) * iv (rt : Int)).toInt = (((p - F) % rt : Nat) : Int) := by
  rw [irem_eq (inR_b (by omega) (by omega)) (inR_b (by omega) (by omega)) (by omega) (by omega), show (p : Int) - (F : Int) = ((p - F : Nat) : Int) by omega]
  exact (Int.natCast_emod _ _).symm
theorem sX_tell {d : Nat} {A : iz_A} {x : Ix} {p rt st : Nat} {P : Int → iz_A → Prop} (h1 : TxOk x) (h4 : XI x A) (hp : p < ixn x) (hr : 1 ≤ rt ∧ rt ≤ 64) (hs : st ≤ 4096) (e1 : A.1 5 10 = (rt : Int)) (e2 : A.1 5 11 = (st : Int)) (hP : ∀ C, fr [5] A C → ff [11] (A.1 5) (C.1 5) → C.1 5 11 = ((st + (p - ixF x (ixo x p)) % rt : Nat) : Int) → P (p : Int) C) : Ci (d + 1) 26 [.inr (.inl 5), .inl (p : Int)] A P := by
  obtain ⟨a, b, c, -⟩ := h1.2.2.2.2.2.2 p hp
  have nb := h1.2.2.1
  have mb := h1.2.1
  have lt := Nat.mod_lt (p - ixF x (ixo x p)) (show rt > 0 by omega)
  refine e_X2_tell ?_
  rw [tn, (h4.2.2.1 p hp).2.1, tn, h4.2.2.2.1 _ (Nat.le_of_lt a), e1, e2, if_neg (by omega), md_eq b (by omega) hr.1 hr.2]
  refine ⟨⟨by omega, by omega⟩, ⟨by omega, by omega⟩, inR_b (by omega) (by omega), (by omega), inR_b (by omega) (by omega), _, rfl, hP _ (fr_pI (fr_mo (fr_rf A) (by decide)) (by decide)) (ff_uz (ff_eq rfl) (by decide)) ?_⟩
  exact (by omega : (st : Int) + (((p - ixF x (ixo x p)) % rt : Nat) : Int) = ((st + (p - ixF x (ixo x p)) % rt : Nat) : Int))
theorem sM_place {d : Nat} {A : iz_A} {x : Ix} {i rt st : Nat} {P : Int → iz_A → Prop} (h1 : TxOk x) (h2 : PmOk x) (h5 : MI x A) (hi : i < ixn x) (hr : 1 ≤ rt ∧ rt ≤ 64) (hs : st ≤ 4096) (e1 : A.1 55 9 = (rt : Int)) (e2 : A.1 55 10 = (st : Int)) (hP : ∀ C, fr [55] A C → ff [10] (A.1 55) (C.1 55) → C.1 55 10 = ((st + (ixs x i - ixF x (ixo x (ixs x i))) % rt : Nat) : Int) → P (ixs x i : Int) C) : Ci (d + 2) 172 [.inr (.inl 55), .inl (i : Int)] A P := by
  have hp := (h2.1 i hi).1
  obtain ⟨a, b, c, -⟩ := h1.2.2.2.2.2.2 _ hp
  have nb := h1.2.2.1
  have mb := h1.2.1
  have lt := Nat.mod_lt (ixs x i - ixF x (ixo x (ixs x i))) (show rt > 0 by omega)
  refine e_X11_place (sM_isRowK h5 hi ⟨fun _ => ⟨⟨by omega, by omega⟩, ?_⟩, fun z => absurd z n10⟩)
  rw [tn, (h5.2.2.2.2.2.1 i hi).1]
  refine e_X11_stepsOf ?_
  rw [tn, (h5.2.2.2.1 _ hp).2.1, tn, (h5.2.2.2.2.1 _ a).1, e1, md_eq b (by omega) hr.1 hr.2]
  refine ⟨⟨by omega, by omega⟩, ⟨by omega, by omega⟩, inR_b (by omega) (by omega), (by omega), _, rfl, ?_, ⟨by omega, by omega⟩, _, rfl, ?_⟩
  · show inR (A.1 55 10 + _)
    rw [e2]
    exact inR_b (by omega) (by omega)
  · show P (A.1 63 i) _
    rw [(h5.2.2.2.2.2.1 i hi).1]
    refine hP _ (fr_pI (fr_mo (fr_rf A) (by decide)) (by decide)) (ff_uz (ff_eq rfl) (by decide)) ?_
    show A.1 55 10 + _ = _
    rw [e2]
    omega
/-- both tell the place of a row -/
theorem both_tell {A : iz_A} {x : Ix} {k i : Nat} {R : iz_A → Prop} (hk : k < 64) (hx : XM x A) (hi : i < ixn x) (hst : StR k A) (hR : ∀ C, fr [5, 55] A C → ff [11] (A.1 5) (C.1 5) → ff [10] (A.1 55) (C.1 55) → StR (k + 1) C → R C) {d : Nat} {P : Int → iz_A → Prop} (hP : ∀ B, fr [5] A B → (∀ {d : Nat} (P' : Int → iz_A → Prop), (∀ C, R C → P' (ixs x i : Int) C) → Ci (d + 2) 172 [.inr (.inl 55), .inl (i : Int)] B P') → P (ixs x i : Int) B) : Ci (d + 1) 26 [.inr (.inl 5), .inl (ixs x i : Int)] A P := by
  obtain ⟨h1, h2, h3, h4, h5⟩ := hx
  obtain ⟨rt, st, a1, a2, a3, a4, a5, a6, a7⟩ := hst
  have lt := Nat.mod_lt (ixs x i - ixF x (ixo x (ixs x i))) (show rt > 0 by omega)
  refine sX_tell h1 h4 (h2.1 i hi).1 ⟨a1, a2⟩ (by omega) a4 a5 fun B fB eB sB => hP B fB fun {d} P' hP' => ?_
  have h5' : MI x B := MI_k (m := []) h5 fB (by decide) (ff_eq (fB.1 55 (by decide))) (by decide)
  refine sM_place h1 h2 h5' hi ⟨a1, a2⟩ (show st ≤ 4096 by omega) (by rw [fB.1 55 (by decide)]; exact a6) (by rw [fB.1 55 (by decide)]; exact a7) fun C fC eC sC => hP' C ?_
  refine hR C (fr_mo (fr_tr fB fC) (by decide)) (by rw [fC.1 5 (by decide)]; exact eB) (by rw [← fB.1 55 (by decide)]; exact eC) ⟨rt, st + (ixs x i - ixF x (ixo x (ixs x i))) % rt, a1, a2, (by omega), ?_, ?_, ?_, sC⟩
  · rw [fC.1 5 (by decide), eB 10 (by decide), a4]
  · rw [fC.1 5 (by decide), sB]
  · rw [eC 9 (by decide), fB.1 55 (by decide), a6]
theorem b_place {A : iz_A} {I : iz_A → Prop} {v : Int} {x : Ix} {k : Nat} (hk : k < 64) (hx : NotB A ∨ (XM x A ∧ StR k A)) (hI0 : I A) (hI : XM x A → ∀ C, fr [5, 55] A C → ff [11] (A.1 5) (C.1 5) → ff [10] (A.1 55) (C.1 55) → StR (k + 1) C → I C) : Bo 113 172 [.inl v] [.inl v] A I := by
  rcases row_casesx v hx with ⟨i, hx, hst, rfl, hi⟩ | hn
  · obtain ⟨h1, h2, h3, h4, h5⟩ := id hx
    have nb := h1.2.2.1
    refine Ci_mono (d := 2) (by decide) (e_X10_place (d := 1) (sX_hasK h4 hi ⟨fun z => absurd z n10, fun _ => ⟨⟨by omega, by omega⟩, ?_⟩⟩)) (fun _ _ z => z)
    rw [tn, (h4.2.2.2.2 i hi).1]
    refine both_tell hk hx hi hst (R := I) (hI hx) fun B fB hB => ⟨_, rfl, ?_⟩
    exact Ci_mono (d := 2) (by decide) (hB (d := 0) (fun x2 A2 => (ixs x i : Int) = x2 ∧ I A2) (fun C hC => ⟨rfl, hC⟩)) (fun _ _ z => z)
  · exact bo_bad (d := 2) (d' := 2) (by decide) (by decide) hI0 (fun P hP => e_X10_place (d := 1) (sX_hasN hn.1 ⟨fun _ => ⟨_, rfl, hP⟩, fun z => absurd rfl z⟩)) (fun P hP => e_X11_place (d := 1) (sM_isRowN hn.2 ⟨fun z => absurd rfl z, fun _ => ⟨_, rfl, hP⟩⟩))
theorem b_at {A : iz_A} {I : iz_A → Prop} {v : Int} {x : Ix} {k : Nat} (hk : k < 64) (hx : NotB A ∨ (XM x A ∧ HR x A ∧ StR k A)) (hI0 : I A) (hI : XM x A → ∀ C, fr [5, 55] A C → ff [11] (A.1 5) (C.1 5) → ff [10] (A.1 55) (C.1 55) → StR (k + 1) C → I C) : Bo 129 193 [.inl v] [.inl v] A I := by
  rcases hx with hn | ⟨hx, ⟨p, len, lo, hi, dn, g, hl, hd, hX, hM, hp, hq⟩, hst⟩
  · refine bo_bad (d := 2) (d' := 2) (by decide) (by decide) hI0 (fun P hP => ?_) (fun P hP => e_X11_at (d := 1) ⟨fun _ => ⟨_, rfl, hP⟩, fun z => absurd hn.2.2.1 z⟩)
    refine e_X10_at (d := 1) ⟨fun _ => ⟨_, rfl, hP⟩, fun z => e_X1_rows ?_⟩
    rw [hn.2.2.2.2.2.2.1, hn.2.2.2.2.2.2.2.1]
    exact ⟨inR_b (by omega) (by omega), _, rfl, fun _ => ⟨_, rfl, hP⟩, fun z => by omega⟩
  · obtain ⟨h1, h2, h3, h4, h5⟩ := id hx
    have nb := h1.2.2.1
    have gg := g.2
    by_cases hv : 0 ≤ v ∧ v < ((hi - lo : Nat) : Int)
    · obtain ⟨i, rfl, hi'⟩ := nat_of hv.1 hv.2
      refine Ci_mono (d := 2) (by decide) (e_X10_at (d := 1) ⟨fun z => by omega, fun _ => sX_rows hX (by omega) (by omega) ⟨fun z => by omega, fun _ => ?_⟩⟩) (fun _ _ z => z)
      rw [hX.2.2.2.1, show ((lo : Int) + (i : Int)).toNat = lo + i by omega, (h4.2.2.2.2 (lo + i) (by omega)).1]
      refine ⟨inR_b (by omega) (by omega), ⟨by omega, by omega⟩, both_tell hk hx (i := lo + i) (by omega) hst (R := I) (hI hx) fun B fB hB => ⟨_, rfl, ?_⟩⟩
      have h5' : MI x B := MI_k (m := []) h5 fB (by decide) (ff_eq (fB.1 55 (by decide))) (by decide)
      obtain ⟨m1, m2, m3, m4⟩ := hM
      refine Ci_mono (d := 3) (by decide) (e_X11_at (d := 2) ⟨fun z => absurd z (by rw [h5'.1]; decide), fun _ => ⟨fun z => by omega, fun _ => ⟨fun _ => ?_, fun z => absurd (by rw [fB.1 55 (by decide), m3]; omega) z⟩⟩⟩) (fun _ _ z => z)
      rw [fB.1 55 (by decide), m2]
      refine ⟨inR_b (by omega) (by omega), ?_⟩
      rw [show ((lo : Int) + (i : Int)) = ((lo + i : Nat) : Int) by omega]
      exact hB _ (fun C hC => ⟨_, rfl, rfl, hC⟩)
    · refine bo_bad (d := 2) (d' := 2) (by decide) (by decide) hI0 (fun P hP => ?_) (fun P hP => ?_)
      · exact e_X10_at (d := 1) ⟨fun _ => ⟨_, rfl, hP⟩, fun z => sX_rows hX (by omega) (by omega) ⟨fun _ => ⟨_, rfl, hP⟩, fun z => by omega⟩⟩
      · refine e_X11_at (d := 1) ⟨fun _ => ⟨_, rfl, hP⟩, fun _ => ⟨fun _ => ⟨_, rfl, hP⟩, fun z => ⟨fun z2 => ?_, fun _ => ⟨_, rfl, hP⟩⟩⟩⟩
        rw [hM.2.2.1] at z2
        omega
theorem cntE_ct (f : Nat → Int) (c : Int) (i : Nat) : cntE f c i = ct (fun j => f j = c) i := by
  induction i with
  | zero => rfl
  | succ i ih => rw [ct_s, ← ih]; rfl
theorem cntE_mono (f : Nat → Int) (c : Int) {m n : Nat} (h : m ≤ n) : cntE f c m ≤ cntE f c n := by
  rw [cntE_ct, cntE_ct]
  exact ct_mono _ h
theorem cntE_s (f : Nat → Int) (c : Int) (i : Nat) : cntE f c (i + 1) = cntE f c i + (if f i = c then 1 else 0) := rfl
theorem selE_none (f : Nat → Int) (c k : Int) : ∀ m r, (cntE f c (r + m) : Int) ≤ k → selE f c k r m = -1 := by
  intro m
  induction m with
  | zero => intro r _; rfl
  | succ m ih =>
    intro r h
    rw [selE_s, if_neg, ih (r + 1) (by rw [show r + 1 + m = r + (m + 1) by omega]; exact h)]
    rintro ⟨a, b⟩
    have := cntE_mono f c (show r + 1 ≤ r + (m + 1) by omega)
    rw [cntE_s, if_pos a] at this
    omega
def inr1 (x : Ix) (lo hi p : Nat) : Int := if lo ≤ ixr x p ∧ ixr x p < hi then 1 else 0
theorem inr1_ct {x : Ix} (h2 : PmOk x) {lo hi : Nat} (h : lo ≤ hi) (hn : hi ≤ ixn x) : cntE (inr1 x lo hi) 1 (ixn x) = hi - lo := by
  rw [cntE_ct, ← ct_range (P := fun i => lo ≤ i ∧ i < hi) (n := ixn x) h hn (fun _ _ => Iff.rfl)]
  unfold ct
  rw [← sm_perm h2.1 h2.2]
  refine sm_congr fun i hi' => ?_
  show (if (if lo ≤ ixr x (ixs x i) ∧ ixr x (ixs x i) < hi then (1 : Int) else 0) = 1 then 1 else 0) = if lo ≤ i ∧ i < hi then 1 else 0
  rw [(h2.1 i hi').2]
  by_cases z : lo ≤ i ∧ i < hi
  · rw [if_pos z, if_pos rfl, if_pos z]
  · rw [if_neg z, if_neg (by decide), if_neg z]
theorem sM_isAt {d : Nat} {A : iz_A} {x : Ix} {p len lo hi dn : Nat} {P : Int → iz_A → Prop} (h1 : TxOk x) (h2 : PmOk x) (h5 : MI x A) (hM : HdM A dn len lo hi) (hl : lo ≤ hi) (hh : hi ≤ ixn x) (hp : p < ixn x) (hP : P (inr1 x lo hi p) A) : Ci (d + 1) 194 [.inr (.inl 55), .inl (p : Int)] A P := by
  have nb := h1.2.2.1
  have hr := (h2.2 p hp).1
  refine e_X11_isAt ?_
  rw [tn, (h5.2.2.2.1 p hp).2.2, hM.2.1, hM.2.2.1]
  unfold inr1 at hP
  refine ⟨⟨by omega, by omega⟩, fun z => ⟨Or.inl rfl, _, rfl, ?_⟩, fun z => ⟨⟨by omega, by omega⟩, inR_b (by omega) (by omega), fun z2 => ⟨Or.inl rfl, _, rfl, ?_⟩, fun z2 => ⟨Or.inr rfl, _, rfl, ?_⟩⟩⟩
  · rw [if_neg (by omega)] at hP; exact hP
  · rw [if_neg (by omega)] at hP; exact hP
  · rw [if_pos (by omega)] at hP; exact hP
theorem lX_sorted {d : Nat} {Q : iz_Q} {A : iz_A} {x : Ix} {dn p len lo hi : Nat} {k : Int} (h1 : TxOk x) (h2 : PmOk x) (hA : XI x A) (hX : HdX A dn p len lo hi) (hk : inR k) (hQ : Q (some (.inl (selE (inr1 x lo hi) 1 k 0 (ixn x)))) A) : ∀ m r, r + m = ixn x → (cntE (inr1 x lo hi) 1 r : Int) ≤ k → selE (inr1 x lo hi) 1 k 0 (ixn x) = selE (inr1 x lo hi) 1 k r m → Rn d mX1_placeInOrder Q 4 [some (.inr (.inl 17)), some (.inl k), some (.inl (k - (cntE (inr1 x lo hi) 1 r : Int))), some (.inl (r : Int))] [] A := by
  have hb := h1.2.2.1
  intro m
  induction m with
  | zero =>
    intro r hr hle hs
    refine w_X1_placeInOrder_4 ⟨fun _ => ?_, fun z => absurd (by rw [hA.1]; omega) z⟩
    rw [hs] at hQ
    exact hQ
  | succ m ih =>
    intro r hr hle hs
    have hcl := cntE_le (inr1 x lo hi) 1 r
    have hrr := (h2.2 r (by omega)).1
    rw [selE_s] at hs
    refine w_X1_placeInOrder_4 ⟨fun z => by rw [hA.1] at z; omega, fun _ => ⟨⟨by omega, by omega⟩, ?_⟩⟩
    rw [tn, (hA.2.2.1 r (by omega)).2.2, hX.2.2.2.1, hX.2.2.2.2]
    have nx := ih (r + 1) (by omega)
    rw [show (((r + 1 : Nat)) : Int) = (r : Int) + 1 by omega, cntE_s] at nx
    have hk2 := hk.2
    have no : ¬ (lo ≤ ixr x r ∧ ixr x r < hi) → Rn d mX1_placeInOrder Q 4 [some (.inr (.inl 17)), some (.inl k), some (.inl (k - (cntE (inr1 x lo hi) 1 r : Int))), some (.inl ((r : Int) + 1))] [] A := fun z => by
      have e : ¬ inr1 x lo hi r = 1 := by unfold inr1; rw [if_neg z]; decide
      rw [if_neg (fun w => e w.1)] at hs
      rw [if_neg e, Nat.add_zero] at nx
      exact nx hle hs
    refine ⟨fun z => ⟨inR_b (by omega) (by omega), no (by omega)⟩, fun z => ⟨⟨by omega, by omega⟩, fun z2 => ⟨inR_b (by omega) (by omega), no (by omega)⟩, fun z2 => ?_⟩⟩
    have e : inr1 x lo hi r = 1 := by unfold inr1; rw [if_pos (by omega)]
    refine ⟨fun z3 => ⟨inR_b (by omega) (by omega), inR_b (by omega) (by omega), ?_⟩, fun z3 => ?_⟩
    · rw [if_neg (fun w => z3 (by omega))] at hs
      rw [if_pos e] at nx
      have := nx (by omega) hs
      rw [show k - ((cntE (inr1 x lo hi) 1 r + 1 : Nat) : Int) = k - (cntE (inr1 x lo hi) 1 r : Int) + -1 by omega] at this
      exact this
    · rw [if_pos ⟨e, (by omega)⟩] at hs
      rw [hs] at hQ
      exact hQ
theorem lM_sorted {d : Nat} {Q : iz_Q} {A : iz_A} {x : Ix} {dn len lo hi : Nat} {k : Int} (h1 : TxOk x) (h2 : PmOk x) (hA : MI x A) (hM : HdM A dn len lo hi) (hl : lo ≤ hi) (hh : hi ≤ ixn x) (h0 : 0 ≤ k) (hQ : Q (some (.inl (selE (inr1 x lo hi) 1 k 0 (ixn x)))) A) : ∀ m r, r + m = ixn x → selE (inr1 x lo hi) 1 k 0 (ixn x) = selE (inr1 x lo hi) 1 k r m → Rn (d + 1) mX11_sorted Q 4 [some (.inr (.inl 55)), some (.inl k), some (.inl (cntE (inr1 x lo hi) 1 r : Int)), some (.inl (r : Int))] [] A := by
  have hb := h1.2.2.1
  intro m
  induction m with
  | zero =>
    intro r hr hs
    refine w_X11_sorted_4 ⟨fun _ => ?_, fun z => absurd (by rw [hA.2.1]; omega) z⟩
    rw [hs] at hQ
    exact hQ
  | succ m ih =>
    intro r hr hs
    have hcl := cntE_le (inr1 x lo hi) 1 r
    rw [selE_s] at hs
    have nx := ih (r + 1) (by omega)
    rw [show (((r + 1 : Nat)) : Int) = (r : Int) + 1 by omega, cntE_s] at nx
    refine w_X11_sorted_4 ⟨fun z => by rw [hA.2.1] at z; omega, fun _ => ⟨fun z => absurd z (by rw [hA.1]; decide), fun _ => ⟨fun z => by omega, fun _ => sM_isAt (p := r) h1 h2 hA hM hl hh (by omega) ?_⟩⟩⟩
    refine ⟨fun z => ⟨inR_b (by omega) (by omega), ?_⟩, fun z => ?_⟩
    · have e : ¬ inr1 x lo hi r = 1 := by rw [z]; decide
      rw [if_neg (fun w => e w.1)] at hs
      rw [if_neg e, Nat.add_zero] at nx
      exact nx hs
    · have e : inr1 x lo hi r = 1 := by
        unfold inr1 at z ⊢
        by_cases w : lo ≤ ixr x r ∧ ixr x r < hi
        · rw [if_pos w]
        · rw [if_neg w] at z; exact absurd rfl z
      refine ⟨fun z3 => ⟨inR_b (by omega) (by omega), inR_b (by omega) (by omega), ?_⟩, fun z3 => ?_⟩
      · rw [if_neg (fun w => z3 w.2)] at hs
        rw [if_pos e] at nx
        exact nx hs
      · rw [if_pos ⟨e, z3⟩] at hs
        rw [hs] at hQ
        exact hQ
theorem b_sorted {A : iz_A} {I : iz_A → Prop} {k : Int} {x : Ix} (hk : inR k) (hx : HdAt x A) (hI : I A) : Bo 130 195 [.inl k] [.inl k] A I := by
  rcases hx with hn | ⟨⟨h1, h2, h3, h4, h5⟩, p, len, lo, hi, dn, g, hl, hd, hX, hM, hp, hq⟩
  · refine bo_bad (d := 2) (d' := 2) (by decide) (by decide) hI (fun P hP => ?_) (fun P hP => e_X11_sorted (d := 1) (w_X11_sorted_4 ⟨fun _ => ⟨_, rfl, hP⟩, fun z => absurd (by rw [hn.2.2.2.1]; decide) z⟩))
    refine e_X10_sorted (d := 1) ⟨fun _ => ⟨_, rfl, hP⟩, fun z => e_X1_rows ?_⟩
    rw [hn.2.2.2.2.2.2.1, hn.2.2.2.2.2.2.2.1]
    exact ⟨inR_b (by omega) (by omega), _, rfl, fun _ => ⟨_, rfl, hP⟩, fun z => by omega⟩
  · have nb := h1.2.2.1
    have gg := g.2
    by_cases h0 : 0 ≤ k
    · refine bo_both (d := 2) (d' := 3) (by decide) (by decide) (selE (inr1 x lo hi) 1 k 0 (ixn x)) hI (fun P hP => ?_) (fun P hP => ?_)
      · refine e_X10_sorted (d := 1) ⟨fun z => by omega, fun _ => sX_rows hX (by omega) (by omega) ⟨fun z => ?_, fun z => e_X1_placeInOrder (d := 0) ?_⟩⟩
        · rw [selE_none _ _ _ _ _ (by rw [Nat.zero_add, inr1_ct h2 (by omega) (by omega)]; exact z)] at hP
          exact ⟨_, rfl, hP⟩
        · have := lX_sorted (d := 0) (Q := fun v A' => ∃ y, v = some (.inl y) ∧ ∃ z, (some (.inl y) : Option iz_V) = some (.inl z) ∧ P z A') h1 h2 h4 hX hk ⟨_, rfl, _, rfl, hP⟩ (ixn x) 0 (by omega) (by show ((0 : Nat) : Int) ≤ k; omega) rfl
          rw [show k - ((cntE (inr1 x lo hi) 1 0 : Nat) : Int) = k by show k - ((0 : Nat) : Int) = k; omega] at this
          exact this
      · exact e_X11_sorted (d := 2) (lM_sorted h1 h2 h5 hM (by omega) (by omega) h0 ⟨_, rfl, hP⟩ (ixn x) 0 (by omega) rfl)
    · refine bo_bad (d := 2) (d' := 2) (by decide) (by decide) hI (fun P hP => ?_) (fun P hP => ?_)
      · exact e_X10_sorted (d := 1) ⟨fun _ => ⟨_, rfl, hP⟩, fun z => by omega⟩
      · exact e_X11_sorted (d := 1) (w_X11_sorted_4 ⟨fun _ => ⟨_, rfl, hP⟩, fun _ => ⟨fun _ => ⟨_, rfl, hP⟩, fun _ => ⟨fun _ => ⟨_, rfl, hP⟩, fun z => by omega⟩⟩⟩)
