/-! ===== answer ===== -/
theorem anR_of {R : Rel} {N : Nat} {A : iz_A} (hN : N ≤ 3000) (hX : FdX R N A) (hM : FdM R N A) (h32 : A.1 55 32 = 1) : AnR A := by
  have cN := cnM_le (Mp R) N
  refine ⟨cnM (Mp R) N, (by omega), hX.1, hM.1, fun z => by omega, fun k hk => ?_⟩
  obtain ⟨p, p1, p2, p3⟩ := cnM_ex (Mp R) N k hk
  have a := hX.2 p p1 p2
  have b := hM.2 p p1 p2
  rw [p3] at a b
  have u := lm_uq a.2 b.2
  exact ⟨a.1.trans b.1.symm, u.1, u.2⟩
theorem p_answer : Sp_answer IV := by
  intro k A hk hI
  rcases hI.2 with hb | ⟨x, hb⟩
  · -- no index
    refine bo_bad (d := 1) (d' := 1) (by decide) (by decide) (IV_m hI) (fun P hP => ?_) (fun P hP => ?_)
    · exact e_X10_answer (d := 0) ⟨fun z => absurd hb.1 z, fun _ => ⟨_, rfl, hP⟩⟩
    · exact e_X11_answer (d := 0) ⟨fun z => absurd hb.2.2.1 z, fun _ => ⟨_, rfl, hP⟩⟩
  · obtain ⟨hB, hQ, hSp, hAn⟩ := hI.1
    obtain ⟨n, n1, q1, q2, q3⟩ := hQ
    have hxm := hb.1
    have hx : TxOk x := hxm.1
    have hXI : XI x A := hxm.2.2.2.1
    have hMI : MI x A := hxm.2.2.2.2
    have sg : Sg (A.1 73) n A := ⟨n1, fun i hi => ⟨(q3 i hi).1, (q3 i hi).2⟩⟩
    have sgM : SgM (A.1 73) n A := ⟨n1, fun i hi => ⟨rfl, (q3 i hi).2⟩⟩
    -- the state at the end
    have fin : ∀ (l m : List Nat) (E : iz_A), fr l A E → ff m (A.1 55) (E.1 55) → (∀ q ∈ [1, 2, 3, 4, 56, 57, 58], q ∉ l) → (∀ q ∈ [1, 3, 5], q ∉ m) → (∀ q ∈ [98, 99, 100], q ∉ l) → 70 ∉ m → (∀ q ∈ [5, 6, 7, 8, 9, 10, 11, 12, 59, 60, 61, 62, 63, 64, 65, 17, 18, 69, 70, 20, 21, 22, 71, 72, 101, 102, 45, 46, 49, 50, 51], q ∉ l) → (∀ q ∈ [6, 7, 8, 22, 23, 24, 26, 29, 9, 10, 71], q ∉ m) → E.1 23 6 = 0 → E.1 55 31 = 0 → AnR E → IV (k + 1) E := fun l m E f g a1 a2 a3 a4 a5 a6 e6 e31 an => ⟨⟨invB_k hB f a1 g a2, ⟨0, by decide, e6, e31, fun i hi => absurd hi (Nat.not_lt_zero i)⟩, spR_k hSp f a3 g a4, an⟩, Or.inr ⟨x, IB_k hb f a5 g a6⟩⟩
    -- the reference behind the class
    have ref : ∀ (l : List Nat) (B : iz_A), fr l A B → (∀ q ∈ [55, 59, 60, 61, 62, 63, 64, 65, 73], q ∉ l) → MI x B ∧ SgM (A.1 73) n B ∧ B.1 55 31 = (n : Int) := fun l B f hl => by
      have e55 : B.1 55 = A.1 55 := f.1 55 (hl 55 (by decide))
      exact ⟨MI_k hMI f (fun q hq => hl q (by revert hq; revert q; decide)) (ff_eq (l := []) e55) (by decide), sgM_k sgM f (hl 73 (by decide)), by rw [e55]; exact q2⟩
    refine Ci_mono (d := 94) (by decide) (sX_answer hx hXI sg q1 (P := fun x1 A1 => Ci 200 225 [.inr (.inl 55)] A1 (fun x2 A2 => x1 = x2 ∧ IV (k + 1) A2)) ?_) (fun _ _ h => h)
    have run : ∀ (B : iz_A) (P : Int → iz_A → Prop), Ci 6 225 [.inr (.inl 55)] B P → Ci 200 225 [.inr (.inl 55)] B P := fun B P h => Ci_mono (by decide) h (fun _ _ w => w)
    rcases hr : psm (ixn x) (ixt x) (A.1 73) n (n + 1) 0 0 0 (fun _ _ => False) (fun p q => p = q) with e | ⟨k', zR⟩
    · intro B fB b6
      have rB := ref _ B fB (by decide)
      refine run B _ (sM_answer (dd := 0) hx rB.1 rB.2.1 rB.2.2 ?_)
      rw [hr]
      intro E fE gE e31
      refine ⟨rfl, fin [23, 25, 26, 27, 28, 29, 55, 77, 78, 79, 80, 81, 82, 83, 84, 85, 86] _ E (fr_mo (fr_tr fB fE) (by decide)) (by rw [← fB.1 55 (by decide)]; exact gE) (by decide) (by decide) (by decide) (by decide) (by decide) (by decide) (by rw [fE.1 23 (by decide)]; exact b6) e31 (anR_k hAn (l := [23, 25, 26, 27, 28, 29, 55, 77, 78, 79, 80, 81, 82, 83, 84, 85, 86]) (fr_mo (fr_tr fB fE) (by decide)) (by decide) (by rw [← fB.1 55 (by decide)]; exact gE) (by decide))⟩
    · refine ⟨fun kn B fB b6 => ?_, fun kn gr B fB b6 => ?_, fun kn gr B fB b6 fd => ?_⟩
      · have rB := ref _ B fB (by decide)
        refine run B _ (sM_answer (dd := 0) hx rB.1 rB.2.1 rB.2.2 ?_)
        rw [hr]
        refine ⟨fun _ E fE gE e31 => ?_, fun w => absurd kn w, fun w => absurd kn w⟩
        refine ⟨rfl, fin [23, 25, 26, 27, 28, 29, 55, 77, 78, 79, 80, 81, 82, 83, 84, 85, 86] _ E (fr_mo (fr_tr fB fE) (by decide)) (by rw [← fB.1 55 (by decide)]; exact gE) (by decide) (by decide) (by decide) (by decide) (by decide) (by decide) (by rw [fE.1 23 (by decide)]; exact b6) e31 (anR_k hAn (l := [23, 25, 26, 27, 28, 29, 55, 77, 78, 79, 80, 81, 82, 83, 84, 85, 86]) (fr_mo (fr_tr fB fE) (by decide)) (by decide) (by rw [← fB.1 55 (by decide)]; exact gE) (by decide))⟩
      · have rB := ref _ B fB (by decide)
        refine run B _ (sM_answer (dd := 0) hx rB.1 rB.2.1 rB.2.2 ?_)
        rw [hr]
        refine ⟨fun w => absurd w kn, fun _ _ E fE gE e31 => ?_, fun _ w => absurd gr w⟩
        refine ⟨rfl, fin [23, 25, 26, 27, 28, 29, 55, 77, 78, 79, 80, 81, 82, 83, 84, 85, 86] _ E (fr_mo (fr_tr fB fE) (by decide)) (by rw [← fB.1 55 (by decide)]; exact gE) (by decide) (by decide) (by decide) (by decide) (by decide) (by decide) (by rw [fE.1 23 (by decide)]; exact b6) e31 (anR_k hAn (l := [23, 25, 26, 27, 28, 29, 55, 77, 78, 79, 80, 81, 82, 83, 84, 85, 86]) (fr_mo (fr_tr fB fE) (by decide)) (by decide) (by rw [← fB.1 55 (by decide)]; exact gE) (by decide))⟩
      · have rB := ref _ B fB (by decide)
        refine run B _ (sM_answer (dd := 0) hx rB.1 rB.2.1 rB.2.2 ?_)
        rw [hr]
        refine ⟨fun w => absurd w kn, fun _ w => absurd w gr, fun _ _ E fE gE e31 e32 fdM => ?_⟩
        refine ⟨rfl, fin [23, 25, 26, 27, 28, 29, 30, 31, 32, 33, 34, 35, 36, 37, 38, 39, 40, 41, 42, 43, 55, 74, 75, 76, 77, 78, 79, 80, 81, 82, 83, 84, 85, 86, 87, 88, 89, 90, 91, 92, 93, 94] _ E (fr_mo (fr_tr fB fE) (by decide)) (by rw [← fB.1 55 (by decide)]; exact gE) (by decide) (by decide) (by decide) (by decide) (by decide) (by decide) (by rw [fE.1 23 (by decide)]; exact b6) e31 (anR_of hx.2.2.1 ?_ fdM e32)⟩
        unfold FdX at fd ⊢
        rw [fE.1 30 (by decide), fE.1 35 (by decide), fE.1 36 (by decide), fE.1 37 (by decide)]
        exact fd
