/-! ===== build ===== -/
theorem b_build {A : iz_A} {I : iz_A → Prop} {v : Int} (hB : InvB A) (hd : ∃ dn : Nat, A.1 17 3 = (dn : Int)) (hI0 : I A) (hI : ∀ C x, fr [5, 6, 7, 8, 9, 10, 11, 12, 14, 15, 16, 17, 20, 30, 45, 46, 49, 50, 51, 52, 53, 54, 55, 59, 60, 61, 62, 63, 64, 65, 66, 67, 68] A C → ff [6, 7, 8, 9, 10, 22, 23, 24, 26, 29, 32, 33, 71] (A.1 55) (C.1 55) → ff [4] (A.1 20) (C.1 20) → ff [10] (A.1 30) (C.1 30) → C.1 20 4 = 0 → C.1 30 10 = 3000 → XM x C → HR x C → StR 0 C → CH x C → LsR x C → (∃ er, ErR x er C) → RcR x C → C.1 55 29 = 0 → C.1 55 32 = 0 → C.1 55 33 = 0 → C.1 55 71 = 0 → I C) : Bo 112 166 [.inl v] [.inl v] A I := by
  have e13 : A.1 1 3 = A.1 55 3 := by
    obtain ⟨D, h, F, q1, q2, q3, q4, -⟩ := hB
    rw [q3, q4]
  by_cases h0 : A.1 1 3 = 0
  · exact bo_bad (d := 1) (d' := 1) (by decide) (by decide) hI0 (fun P hP => e_X10_build (d := 0) ⟨fun _ => ⟨_, rfl, hP⟩, fun z => absurd h0 z⟩) (fun P hP => e_X11_build (d := 0) ⟨fun _ => ⟨_, rfl, hP⟩, fun z => absurd (by rw [← e13]; exact h0) z⟩)
  by_cases hv : 1 ≤ v ∧ v ≤ 64
  · obtain ⟨rt, rfl, hrt⟩ := nat_of (v := v) (n := 65) (by omega) (by omega)
    obtain ⟨x, hx⟩ := bx_of hB h0
    have h1 := hx.1
    have nb := h1.2.2.1
    have np := n_pos h1
    refine Ci_mono (d := 6) (by decide) (e_X10_build (d := 5) ⟨fun z => absurd z h0, fun _ => ⟨fun z => by omega, fun _ => ⟨fun _ => ?_, fun z => by omega⟩⟩⟩) (fun _ _ z => z)
    refine sX_learn hx fun S G c hS p2 p3 B1 f1 x1 r10 r11 => ?_
    have h1' : TxOk (ixn x, ixm x, ixF x, ixl x, ixt x, ixo x, S, G, c) := h1
    generalize hy : ((ixn x, ixm x, ixF x, ixl x, ixt x, ixo x, S, G, c) : Ix) = y at *
    have yn : ixn y = ixn x := by rw [← hy]; rfl
    have ym : ixm y = ixm x := by rw [← hy]; rfl
    have yF : ixF y = ixF x := by rw [← hy]; rfl
    have yl : ixl y = ixl x := by rw [← hy]; rfl
    have yt : ixt y = ixt x := by rw [← hy]; rfl
    have yo : ixo y = ixo x := by rw [← hy]; rfl
    have ys : ixs y = S := by rw [← hy]; rfl
    have yr : ixr y = G := by rw [← hy]; rfl
    refine sX_rlearn h1' x1 fun B2 f2 ch2 ls2 => ?_
    have x2 := XI_k x1 f2 (by decide)
    refine sX_plearn h1' p2 p3 x2 fun B3 f3 er3 rc3 => ?_
    have x3 := XI_k x2 f3 (by decide)
    have hd3 : ∃ dn : Nat, B3.1 17 3 = (dn : Int) := by rw [f3.1 17 (by decide), f2.1 17 (by decide), f1.1 17 (by decide)]; exact hd
    have np' := n_pos h1'
    refine sX_become (p := 0) (len := 0) h1' p2 x3 (rg_all h1' p2 0 np') hd3 fun B4 f4 hB4 => ?_
    have x4 := XI_k x3 f4 (by decide)
    refine e_X3_forget ⟨rfl, _, rfl, ?_⟩
    -- the class is done
    generalize hE : iz_pI (iz_pI B4 20 (uz (B4.1 20) 4 0)) 30 (uz ((iz_pI B4 20 (uz (B4.1 20) 4 0)).1 30) 10 3000) = E
    have fE : fr [20, 30] B4 E := by rw [← hE]; exact fr_pI (fr_pI (fr_mo (fr_rf _) (by decide)) (by decide)) (by decide)
    have e20 : E.1 20 = uz (B4.1 20) 4 0 := by rw [← hE]; rfl
    have e30 : E.1 30 = uz (B4.1 30) 10 3000 := by rw [← hE]; rfl
    have xE := XI_k x4 fE (by decide)
    have fAE : fr [5, 6, 7, 8, 9, 10, 11, 12, 14, 15, 16, 17, 20, 30, 45, 46, 49, 50, 51, 52, 53, 54] A E := fr_mo (fr_tr f1 (fr_tr f2 (fr_tr f3 (fr_tr f4 fE)))) (by decide)
    have eA : ∀ q, q ∈ [1, 2, 3, 55, 56, 57] → E.1 q = A.1 q := fun q hq => fAE.1 q (by
      intro z
      simp only [List.mem_cons, List.mem_nil_iff, or_false] at hq z
      omega)
    have hxE : Bx E x := by
      unfold Bx
      rw [eA 1 (by decide), eA 2 (by decide), eA 3 (by decide), eA 55 (by decide), eA 56 (by decide), eA 57 (by decide)]
      exact hx
    have E3 : ¬ E.1 55 3 = 0 := by rw [eA 55 (by decide), ← e13]; exact h0
    have E1 : E.1 55 1 = (ixn x : Int) := hxE.2.2.2.1
    have E3' : E.1 55 3 = (ixm x : Int) := hxE.2.2.2.2.1
    rw [xE.1]
    refine Ci_mono (d := 5) (by decide) (e_X11_build (d := 4) ⟨fun z => absurd z E3, fun _ => ⟨fun z => by omega, fun _ => ⟨fun _ => ⟨Or.inr rfl, ?_⟩, fun z => by omega⟩⟩⟩) (fun _ _ z => z)
    refine sM_text (P := fun x2 A2 => (ixn y : Int) = x2 ∧ I A2) hxE (fr_pI (fr_pI (fr_pI (fr_pI (fr_mo (fr_rf E) (by decide)) (by decide)) (by decide)) (by decide)) (by decide)) E3' fun M1 v2 g1 m55 m61 m59 => ?_
    have M6 : M1.1 55 6 = 1 := by rw [m55]; rfl
    have M9 : M1.1 55 9 = (rt : Int) := by rw [m55]; rfl
    have M7 : M1.1 55 7 = (ixn x : Int) := by rw [m55]; exact E1
    have M8 : M1.1 55 8 = (ixm x : Int) := by rw [m55]; exact E3'
    have mff : ff [6, 7, 8, 9] (E.1 55) (M1.1 55) := by
      rw [m55]
      exact ff_uz (ff_uz (ff_uz (ff_uz (ff_eq rfl) (by decide)) (by decide)) (by decide)) (by decide)
    refine w_X11_build_50 ?_
    rw [M8]
    refine ⟨fun _ => ?_, fun z => by omega⟩
    refine sM_sortAll h1 M7 m59 fun M2 g2 S' G' hS' s63 s64 => ?_
    obtain ⟨u1, u2⟩ := sod_un hS hS'
    have e55 : M2.1 55 = M1.1 55 := g2.1 55 (by decide)
    have hM0 : M0 y M2 := by
      unfold M0
      rw [yn, ym, yF, yl, yt, yo, ys, yr, e55]
      refine ⟨M6, M7, M8, fun p hp => ⟨?_, ?_, ?_⟩, fun e he => ?_, fun i hi => ?_⟩
      · rw [g2.1 59 (by decide)]; exact (m59 p hp).1
      · rw [g2.1 60 (by decide)]; exact (m59 p hp).2
      · rw [u1 p hp]; exact s64 p hp
      · rw [g2.1 61 (by decide), g2.1 62 (by decide)]; exact m61 e he
      · rw [u2 i hi]; exact s63 i hi
    refine sM_shares h1' p2 p3 hM0 fun M3 g3 s65 s65n => ?_
    have hM3 := M0_k hM0 g3 (by decide)
    have e55' : M3.1 55 = M1.1 55 := by rw [g3.1 55 (by decide), e55]
    refine e_X11_toEmpty (d := 3) ⟨rfl, Or.inl rfl, Or.inl rfl, _, rfl, ?_, ?_⟩
    · show (ixn y : Int) = M3.1 55 7
      rw [hM3.2.1]
    · generalize hF : iz_pI (iz_pI (iz_pI (iz_pI (iz_pI _ 55 _) 55 _) 55 _) 55 _) 55 _ = F
      have fF : fr [55] M3 F := by
        rw [← hF]
        exact fr_pI (fr_pI (fr_pI (fr_pI (fr_pI (fr_pI (fr_pI (fr_pI (fr_pI (fr_mo (fr_rf _) (by decide)) (by decide)) (by decide)) (by decide)) (by decide)) (by decide)) (by decide)) (by decide)) (by decide)) (by decide)
      have ffF : ff [22, 23, 24, 26, 29, 32, 33, 10, 71] (M3.1 55) (F.1 55) := by
        rw [← hF]
        exact ff_uz (ff_uz (ff_uz (ff_uz (ff_uz (ff_uz (ff_uz (ff_uz (ff_uz (ff_eq rfl) (by decide)) (by decide)) (by decide)) (by decide)) (by decide)) (by decide)) (by decide)) (by decide)) (by decide)
      have F22 : F.1 55 22 = 0 := by rw [← hF]; rfl
      have F23 : F.1 55 23 = 0 := by rw [← hF]; rfl
      have F24 : F.1 55 24 = (ixn y : Int) := by rw [← hF]; exact hM3.2.1
      have F26 : F.1 55 26 = 0 := by rw [← hF]; rfl
      have F29 : F.1 55 29 = 0 := by rw [← hF]; rfl
      have F32 : F.1 55 32 = 0 := by rw [← hF]; rfl
      have F33 : F.1 55 33 = 0 := by rw [← hF]; rfl
      have F10 : F.1 55 10 = 0 := by rw [← hF]; rfl
      have F71 : F.1 55 71 = 0 := by rw [← hF]; rfl
      clear hF
      have fEF : fr [55, 59, 60, 61, 62, 63, 64, 65, 66, 67, 68] E F := fr_mo (fr_tr g1 (fr_tr g2 (fr_tr g3 fF))) (by decide)
      have xF := XI_k xE fEF (by decide)
      have mF : MI y F := by
        refine ⟨(ffF 6 (by decide)).trans hM3.1, (ffF 7 (by decide)).trans hM3.2.1, (ffF 8 (by decide)).trans hM3.2.2.1, ?_, ?_, fun i hi => ⟨?_, ?_⟩, ?_⟩
        · rw [fF.1 59 (by decide), fF.1 60 (by decide), fF.1 64 (by decide)]; exact hM3.2.2.2.1
        · rw [fF.1 61 (by decide), fF.1 62 (by decide)]; exact hM3.2.2.2.2.1
        · rw [fF.1 63 (by decide)]; exact hM3.2.2.2.2.2 i hi
        · rw [fF.1 65 (by decide)]; exact s65 i hi
        · rw [fF.1 65 (by decide)]; exact s65n
      have e17 : F.1 17 = B4.1 17 := by rw [fEF.1 17 (by decide), fE.1 17 (by decide)]
      refine hI F y (fr_mo (fr_tr fAE fEF) (by decide)) ?_ ?_ ?_ ?_ ?_ ⟨h1', p2, p3, xF, mF⟩ ?_ ?_ ?_ ?_ ?_ ?_ F29 F32 F33 F71
      · have := ff_tr (ff_mo mff (m := [6, 7, 8, 9, 10, 22, 23, 24, 26, 29, 32, 33, 71]) (by decide)) (by rw [← e55']; exact ff_mo ffF (by decide))
        rw [eA 55 (by decide)] at this
        exact this
      · rw [fEF.1 20 (by decide), e20, f4.1 20 (by decide), f3.1 20 (by decide), f2.1 20 (by decide), f1.1 20 (by decide)]
        exact ff_uz (ff_eq rfl) (by decide)
      · rw [fEF.1 30 (by decide), e30, f4.1 30 (by decide), f3.1 30 (by decide), f2.1 30 (by decide), f1.1 30 (by decide)]
        exact ff_uz (ff_eq rfl) (by decide)
      · rw [fEF.1 20 (by decide), e20]; rfl
      · rw [fEF.1 30 (by decide), e30]; rfl
      · refine hr_become (p := 0) (q := 0) (rg_all h1' p2 0 np') (Nat.zero_le _) (al_rf _ _ _) ?_ ⟨F22, F23, by rw [F24]; omega, F26⟩ (fun j hj => by omega)
        unfold HdX
        rw [e17]
        exact hB4
      · refine ⟨rt, 0, (by omega), (by omega), Nat.zero_le _, ?_, ?_, ?_, F10⟩
        · rw [fEF.1 5 (by decide), fE.1 5 (by decide), f4.1 5 (by decide), f3.1 5 (by decide), f2.1 5 (by decide)]; exact r10
        · rw [fEF.1 5 (by decide), fE.1 5 (by decide), f4.1 5 (by decide), f3.1 5 (by decide), f2.1 5 (by decide)]; exact r11
        · rw [ffF 9 (by decide), e55']; exact M9
      · unfold CH
        rw [fEF.1 46 (by decide), fE.1 46 (by decide), f4.1 46 (by decide), f3.1 46 (by decide)]; exact ch2
      · unfold LsR
        rw [fEF.1 45 (by decide), fE.1 45 (by decide), f4.1 45 (by decide), f3.1 45 (by decide)]; exact ls2
      · unfold ErR
        rw [fEF.1 49 (by decide), fE.1 49 (by decide), f4.1 49 (by decide)]; exact er3
      · unfold RcR
        rw [fEF.1 50 (by decide), fE.1 50 (by decide), f4.1 50 (by decide), fEF.1 51 (by decide), fE.1 51 (by decide), f4.1 51 (by decide)]; exact rc3
  · exact bo_bad (d := 1) (d' := 1) (by decide) (by decide) hI0 (fun P hP => e_X10_build (d := 0) ⟨fun _ => ⟨_, rfl, hP⟩, fun _ => ⟨fun _ => ⟨_, rfl, hP⟩, fun _ => ⟨fun z => by omega, fun _ => ⟨_, rfl, hP⟩⟩⟩⟩) (fun P hP => e_X11_build (d := 0) ⟨fun _ => ⟨_, rfl, hP⟩, fun _ => ⟨fun _ => ⟨_, rfl, hP⟩, fun _ => ⟨fun z => by omega, fun _ => ⟨_, rfl, hP⟩⟩⟩⟩)
