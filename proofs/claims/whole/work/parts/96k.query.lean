/-! ===== the class answers ===== -/
theorem sh_ok {Ok Ok' : Nat → Prop} {A : iz_A} (h : ∀ i, Ok i → Ok' i) : ∀ m lo v, Sh Ok A m lo v → Sh Ok' A m lo v := by
  intro m
  induction m with
  | zero => intro lo v w; exact w
  | succ m ih =>
    intro lo v w
    rcases w with ⟨h1, h2, i, h3, h4, h5⟩ | ⟨h1, l, h2, h3, h4, h5, h6, h7⟩
    · exact Or.inl ⟨h1, h2, i, h3, h4, h i h5⟩
    · exact Or.inr ⟨h1, l, h2, h3, h4, h5, ih lo l h6, ih (l + 1) (v - 1) h7⟩
theorem cnM_zero {M : Nat → Prop} (h : ∀ p, ¬ M p) : ∀ N, cnM M N = 0 := by
  intro N
  induction N with
  | zero => rfl
  | succ N ih =>
    show cnM M N + onc (M N) = 0
    rw [ih, onc_0 (h N)]
def FdX (R : Rel) (N : Nat) (C : iz_A) : Prop := C.1 30 10 = 3000 - (cnM (Mp R) N : Int) ∧ ∀ p, p < N → Mp R p → C.1 35 (3000 - cnM (Mp R) N + cnM (Mp R) p) = (p : Int) ∧ Lmo R p (C.1 36 (3000 - cnM (Mp R) N + cnM (Mp R) p)) (C.1 37 (3000 - cnM (Mp R) N + cnM (Mp R) p))
theorem sX_query {x : Ix} {s : Nat → Int} {n k : Nat} {zR : Nat × Rel} {A : iz_A} {P : iz_A → Prop} (hx : TxOk x) (hA : XI x A) (hs : Sg s n A) (hn : A.1 23 6 = (n : Int)) (h : psm (ixn x) (ixt x) s n (n + 1) 0 0 0 (fun _ _ => False) (fun p q => p = q) = .inr (k, zR)) (hR : RcS (ixn x) (ixt x) s n A (n + 1) 0 0) (hz : zR.1 ≤ 120) (hP : ∀ C, fr [30, 31, 32, 33, 34, 35, 36, 37, 38, 39, 40, 41, 42, 43] A C → ff [10] (A.1 30) (C.1 30) → FdX zR.2 (ixn x) C → P C) : Cv 87 35 [.inr (.inl 30)] A P := by
  have n3 := hx.2.2.1
  have n1 := n_pos hx
  have hs2 := fun i hi => (hs.2 i hi).2
  have tb : ∀ p, p < ixn x → ixt x p < 256 ∧ -100 ≤ ixt x p ∧ (0 ≤ ixt x p → p + 1 < ixn x) := fun p hp => by
    have w := hx.2.2.2.2.2.2 p hp
    have e := end_lt hx w.1
    have m40 := hx.2.1
    by_cases c : p < ixF x (ixo x p) + ixl x (ixo x p)
    · have := w.2.2.2.1 c
      exact ⟨(by omega), (by omega), fun _ => (by omega)⟩
    · have := w.2.2.2.2 (by omega)
      exact ⟨(by omega), (by omega), fun _ => (by omega)⟩
  refine e_X3_answerQuery (e_X3_forget ⟨rfl, ?_⟩)
  have f1 : fr [30] A (iz_pI A 30 (uz (A.1 30) 10 3000)) := fr_pI (fr_mo (fr_rf A) (by decide)) (by decide)
  have g1 : ff [10] (A.1 30) ((iz_pI A 30 (uz (A.1 30) 10 3000)).1 30) := ff_uz (ff_eq rfl) (by decide)
  have q1 : (iz_pI A 30 (uz (A.1 30) 10 3000)).1 30 10 = 3000 := rfl
  have rc1 : RcS (ixn x) (ixt x) s n (iz_pI A 30 (uz (A.1 30) 10 3000)) (n + 1) 0 0 := rcS_k (A := A) hs2 _ _ _ _ _ _ _ _ (Nat.zero_le n) h (fun q _ _ => ⟨⟨rfl, rfl, rfl, rfl⟩, fun _ _ => rfl⟩) hR
  have n23 : (iz_pI A 30 (uz (A.1 30) 10 3000)).1 23 6 = (n : Int) := hn
  generalize iz_pI A 30 (uz (A.1 30) 10 3000) = A1 at *
  refine sX_grown (sg_k hs f1 (by decide)) n23 h rc1 hz (fun E v nd fE rE => ?_)
  have fAE : fr [30, 31, 32, 33, 34, 35, 36, 37, 38, 39, 40, 41, 42, 43] A E := fr_mo (fr_tr f1 fE) (by decide)
  have E30 : E.1 30 = A1.1 30 := fE.1 30 (by decide)
  have gAE : ff [10] (A.1 30) (E.1 30) := by rw [E30]; exact g1
  rcases rE with ⟨z0, rfl, _, hid⟩ | ⟨z1, z2, z3, gd⟩
  · -- it means nothing but the empty row
    refine ⟨fun z => absurd rfl z, fun _ => ⟨rfl, hP E fAE gAE ?_⟩⟩
    have no : ∀ p, ¬ Mp zR.2 p := fun p ⟨k, k1, k2⟩ => by
      have := (hid p (p + k)).1 k2
      omega
    refine ⟨?_, fun p _ m => absurd m (no p)⟩
    rw [cnM_zero no, E30, q1]
    rfl
  · obtain ⟨⟨m, sh⟩, mk, mono, ⟨X, fN, xr⟩, -, -⟩ := gd
    have sh' : Sh (fun i => ∀ c : Nat, c < 256 → (mb E i c ↔ gset s n i (c : Int))) E m 0 (nd - 1) := sh_ok (fun i w c hc => by
      have := w c hc
      unfold mb at this ⊢
      rw [fE.2 29 (by decide)]
      exact this) m 0 (nd - 1) sh
    have gX := fmN_go sh' fN
    obtain ⟨C, c1, c2, c3⟩ := famC m 0 (nd - 1) sh' gX (fun p e => p = e) (fun p e w => ⟨(by omega), Or.inr w.symm⟩)
    have T : Tree (ixn x) (ixt x) (gset s n) E (nd - 1) X C := ⟨(by omega), n3, ⟨m, sh'⟩, fN, c2, fun u hu => gX u (Nat.zero_le _) hu, fun u hu => c3 u (Nat.zero_le _) hu, fun p e => by rw [c1]⟩
    have root : ∀ p L, Ah X C (nd - 1) p (p + L) ↔ Mlen zR.2 p L := fun p L => by
      unfold Ah Mlen
      rw [c1]
      constructor
      · rintro ⟨q, w1, w2⟩
        have w2 : q = p + L := w2
        rw [w2] at w1
        have := (xr _ _).1 w1
        exact ⟨(by omega), this.1⟩
      · rintro ⟨w1, w2⟩
        exact ⟨p + L, (xr _ _).2 ⟨w2, (by omega)⟩, rfl⟩
    have ev : v = ((nd - 1 : Nat) : Int) := (by omega)
    have e58 : E.1 5 8 = (ixn x : Int) := by rw [fAE.1 5 (by decide)]; exact hA.1
    have cN := cnM_le (Mp zR.2) (ixn x)
    have loop : ∀ k, k ≤ ixn x → ∀ B, fr [30, 31, 32, 33, 34, 35, 36, 37] E B → ff [10] (E.1 30) (B.1 30) → B.1 30 10 = 3000 - ((cnM (Mp zR.2) (ixn x) : Int) - (cnM (Mp zR.2) k : Int)) → (∀ q, k ≤ q → q < ixn x → Mp zR.2 q → B.1 35 (3000 - cnM (Mp zR.2) (ixn x) + cnM (Mp zR.2) q) = (q : Int) ∧ Lmo zR.2 q (B.1 36 (3000 - cnM (Mp zR.2) (ixn x) + cnM (Mp zR.2) q)) (B.1 37 (3000 - cnM (Mp zR.2) (ixn x) + cnM (Mp zR.2) q))) → (k < ixn x → DnV (ixn x) E X C (nd - 1) k B) → Rn 86 mX3_answerQuery (fun v A' => v = none ∧ P A') 28 [some (.inr (.inl 30)), some (.inl (((nd - 1 : Nat) : Int))), some (.inl ((k : Int) - 1))] [] B := by
      intro k
      induction k with
      | zero =>
        intro _ B fB gB b10 st _
        refine w_X3_answerQuery_28 ⟨fun _ => ⟨rfl, hP B (fr_mo (fr_tr fAE fB) (by decide)) (ff_tr gAE gB) ⟨?_, fun p hp m => st p (Nat.zero_le _) hp m⟩⟩, fun z => absurd (by decide) z⟩
        rw [b10]
        show (3000 : Int) - (_ - ((0 : Nat) : Int)) = _
        omega
      | succ p ih =>
        intro hp B fB gB b10 st dn
        have tp := tb p hp
        have cm := cnM_mono (Mp zR.2) (show p + 1 ≤ ixn x from hp)
        have ec : cnM (Mp zR.2) (p + 1) = cnM (Mp zR.2) p + onc (Mp zR.2 p) := rfl
        have B6 : B.1 6 p = ixt x p := by rw [fB.1 6 (by decide), fAE.1 6 (by decide)]; exact (hA.2.2.1 p hp).1
        refine w_X3_answerQuery_28 ⟨fun z => by omega, fun _ => ?_⟩
        rw [show ((p + 1 : Nat) : Int) - 1 = (p : Int) by omega, tn, B6]
        refine ⟨⟨by omega, by omega⟩, sX_goUp (d := 84) T hp tp.1 tp.2.1 fB (fun h0 => dn (tp.2.2 h0)) (fun F fF uF => ?_)⟩
        have fEF : fr [30, 31, 32, 33, 34, 35, 36, 37] E F := fr_mo (fr_tr fB fF) (by decide)
        have ur := uF (nd - 1) (by omega)
        have F30 : F.1 30 = B.1 30 := fF.1 30 (by decide)
        rw [tn, F30]
        -- and down, then the place in front
        have down : ∀ G, fr [30, 35, 36, 37] F G → ff [10] (B.1 30) (G.1 30) → G.1 30 10 = 3000 - ((cnM (Mp zR.2) (ixn x) : Int) - (cnM (Mp zR.2) p : Int)) → (∀ q, p ≤ q → q < ixn x → Mp zR.2 q → G.1 35 (3000 - cnM (Mp zR.2) (ixn x) + cnM (Mp zR.2) q) = (q : Int) ∧ Lmo zR.2 q (G.1 36 (3000 - cnM (Mp zR.2) (ixn x) + cnM (Mp zR.2) q)) (G.1 37 (3000 - cnM (Mp zR.2) (ixn x) + cnM (Mp zR.2) q))) → Cv 86 37 [.inr (.inl 30), .inl ((nd - 1 : Nat) : Int)] G (fun A2 => inR ((p : Int) + -1) ∧ Rn 86 mX3_answerQuery (fun v A' => v = none ∧ P A') 28 [some (.inr (.inl 30)), some (.inl (((nd - 1 : Nat) : Int))), some (.inl ((p : Int) + -1))] [] A2) := fun G fG gG g10 stG => by
          have fEG : fr [30, 31, 32, 33, 34, 35, 36, 37] E G := fr_mo (fr_tr fEF fG) (by decide)
          refine sX_goDown (d := 83) T fEG (fun u hu => by rw [fG.1 31 (by decide), fG.1 32 (by decide)]; exact uF u hu) (fun H fH dH => ⟨inR_b (by omega) (by omega), ?_⟩)
          have := ih (by omega) H (fr_mo (fr_tr fEG fH) (by decide)) (by rw [fH.1 30 (by decide)]; exact ff_tr gB gG) (by rw [fH.1 30 (by decide)]; exact g10) (fun q w1 w2 w3 => by rw [fH.1 35 (by decide), fH.1 36 (by decide), fH.1 37 (by decide)]; exact stG q w1 w2 w3) (fun _ => dH)
          exact this
        have F35 : F.1 35 = B.1 35 := fF.1 35 (by decide)
        have F36 : F.1 36 = B.1 36 := fF.1 36 (by decide)
        have F37 : F.1 37 = B.1 37 := fF.1 37 (by decide)
        refine ⟨⟨by omega, by omega⟩, fun c => down F (fr_mo (fr_rf F) (by decide)) (ff_eq F30) ?_ (fun q w1 w2 w3 => ?_), fun c => ?_⟩
        · have no : ¬ Mp zR.2 p := fun ⟨L, hL⟩ => by
            have := hL.1
            rcases ur.2 with ⟨l, e, _, _, d⟩ | ⟨d, _⟩
            · have := d L ((root p L).2 hL)
              omega
            · exact d L ((root p L).2 hL)
          rw [F30, b10, ec, onc_0 no, Nat.add_zero]
        · rw [F35, F36, F37]
          refine st q (Nat.lt_of_le_of_ne w1 (fun e => ?_)) w2 w3
          rw [← e] at w3
          obtain ⟨L, hL⟩ := w3
          have := hL.1
          rcases ur.2 with ⟨l, e, _, _, d⟩ | ⟨d, _⟩
          · have := d L ((root p L).2 hL)
            omega
          · exact d L ((root p L).2 hL)
        · -- it matches here
          have lm : Lmo zR.2 p (F.1 31 (nd - 1)) (F.1 32 (nd - 1)) := by
            rcases ur.2 with ⟨b, eb, _, mb', hb⟩ | ⟨_, _, d⟩
            · rcases ur.1 with ⟨a, ea, _, ma, ha⟩ | ⟨d, _⟩
              · exact ⟨a, b, ea, eb, (root p a).1 ma, (root p b).1 mb', fun L hL => ⟨ha L ((root p L).2 hL), hb L ((root p L).2 hL)⟩⟩
              · exact absurd mb' (d b)
            · omega
          have yes : Mp zR.2 p := by
            obtain ⟨a, _, _, _, ma, _⟩ := lm
            exact ⟨a, ma⟩
          rw [onc_1 yes] at ec
          have e10 : B.1 30 10 - 1 = ((3000 - cnM (Mp zR.2) (ixn x) + cnM (Mp zR.2) p : Nat) : Int) := by
            rw [b10]
            omega
          rw [e10, tn]
          have k0 : 3000 - cnM (Mp zR.2) (ixn x) + cnM (Mp zR.2) p < 3000 := (by omega)
          generalize hI : 3000 - cnM (Mp zR.2) (ixn x) + cnM (Mp zR.2) p = I at *
          refine ⟨inR_b (by omega) (by omega), ⟨by omega, by omega⟩, ⟨by omega, by omega⟩, ⟨by omega, by omega⟩, ⟨by omega, by omega⟩, ⟨by omega, by omega⟩, down _ (fr_pI (fr_pI (fr_pI (fr_pI (fr_mo (fr_rf F) (by decide)) (by decide)) (by decide)) (by decide)) (by decide)) (ff_uz (ff_eq rfl) (by decide)) ?_ (fun q w1 w2 w3 => ?_)⟩
          · show ((I : Nat) : Int) = _
            omega
          · show uz (F.1 35) I (p : Int) _ = _ ∧ Lmo zR.2 q (uz (F.1 36) I _ _) (uz (F.1 37) I _ _)
            by_cases e : q = p
            · rw [e, hI, uz_at, uz_at, uz_at]
              exact ⟨rfl, lm⟩
            · have lt := cnM_lt (M := Mp zR.2) (show p < q by omega) yes
              rw [uz_ne _ _ (by omega), uz_ne _ _ (by omega), uz_ne _ _ (by omega), F35, F36, F37]
              exact st q (by omega) w2 w3
    refine ⟨fun _ => ?_, fun z => by omega⟩
    rw [e58, ev]
    refine ⟨inR_b (by omega) (by omega), ?_⟩
    refine loop (ixn x) (Nat.le_refl _) E (fr_mo (fr_rf E) (by decide)) (ff_eq rfl) (by rw [E30, q1]; omega) (fun q w1 w2 => by omega) (fun w => by omega)
