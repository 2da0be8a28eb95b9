/-! ===== the reference reads a class of bytes ===== -/
def rgD (d : Nat) (Q : iz_Q) (v1 v2 : Int) (B : iz_A) : Prop := (Ci d 209 [.inr (.inl 55)] B (fun x6 A6 => ((0 : Int) ≤ (A6.1 55 37) → (Rn d mX11_ranges Q 172 [some (.inr (.inl 55)), some (.inl v1), some (.inl v2), some (.inl (0 : Int)), some (.inl x6), some (.inl x6), some (.inl x6)] [] A6)) ∧ (¬ (0 : Int) ≤ (A6.1 55 37) → (Ci d 204 [.inr (.inl 55)] A6 (fun x7 A7 => (¬ x7 = (45 : Int) → (Rn d mX11_ranges Q 172 [some (.inr (.inl 55)), some (.inl v1), some (.inl v2), some (.inl (0 : Int)), some (.inl x6), some (.inl x6), some (.inl x6)] [] A7)) ∧ (x7 = (45 : Int) → (inR ((A7.1 55 38) + (1 : Int)) ∧ (Ci d 209 [.inr (.inl 55)] (iz_pI A7 55 (uz (A7.1 55) 38 ((A7.1 55 38) + (1 : Int)))) (fun x8 A8 => ((0 : Int) ≤ (A8.1 55 37) → (Rn d mX11_ranges Q 172 [some (.inr (.inl 55)), some (.inl v1), some (.inl v2), some (.inl (0 : Int)), some (.inl x6), some (.inl x8), some (.inl x6)] [] A8)) ∧ (¬ (0 : Int) ≤ (A8.1 55 37) → ((x6 ≤ x8 → (Rn d mX11_ranges Q 172 [some (.inr (.inl 55)), some (.inl v1), some (.inl v2), some (.inl (0 : Int)), some (.inl x6), some (.inl x8), some (.inl x6)] [] A8)) ∧ (¬ x6 ≤ x8 → (Cv d 205 [.inr (.inl 55), .inl ((A7.1 55 38) + (1 : Int))] A8 (fun A9 => Rn d mX11_ranges Q 172 [some (.inr (.inl 55)), some (.inl v1), some (.inl v2), some (.inl (0 : Int)), some (.inl x6), some (.inl x8), some (.inl x6)] [] A9))))))))))))))
theorem grg_ok2 {s : Nat → Int} {n j k : Nat} {ab : Int × Int} (hs : ∀ i, i < n → 32 ≤ s i ∧ s i ≤ 126) (h : grg s n j = .inr (k, ab)) : 32 ≤ ab.1 ∧ ab.1 ≤ ab.2 ∧ ab.2 ≤ 126 := by
  obtain ⟨k1, a, e1, h⟩ := bnd_ok h
  have o1 := grb_ok hs e1
  by_cases c : k1 < n ∧ s k1 = 45
  · rw [if_pos c] at h
    obtain ⟨k2, b, e2, h⟩ := bnd_ok h
    have o2 := grb_ok hs e2
    by_cases c3 : b < a
    · rw [if_pos c3] at h; cases h
    · rw [if_neg c3] at h; cases h
      exact ⟨o1.2.2.1, Int.not_lt.1 c3, o2.2.2.2⟩
  · rw [if_neg c] at h; cases h
    exact ⟨o1.2.2.1, Int.le_refl _, o1.2.2.2⟩
theorem lM_one {d n j : Nat} {B : iz_A} {s : Nat → Int} {Q : iz_Q} {v1 v2 : Int} (hs : SgM s n B) (hq : Qm n j (-1) B) (hj : j ≤ n) (hP : PrE (grg s n j) (fun e => ∀ C (j' : Nat), fr [55] B C → ff [37, 38] (B.1 55) (C.1 55) → Qm n j' e C → j' ≤ n + 3 → ∀ x y z : Int, Rn (d + 2) mX11_ranges Q 172 [some (.inr (.inl 55)), some (.inl v1), some (.inl v2), some (.inl 0), some (.inl x), some (.inl y), some (.inl z)] [] C) (fun k ab => ∀ C, fr [55] B C → ff [37, 38] (B.1 55) (C.1 55) → Qm n k (-1) C → Rn (d + 2) mX11_ranges Q 172 [some (.inr (.inl 55)), some (.inl v1), some (.inl v2), some (.inl 0), some (.inl (ab.1)), some (.inl (ab.2)), some (.inl (ab.1))] [] C)) : rgD (d + 2) Q v1 v2 B := by
  have nb := hs.1
  have hs2 := fun i hi => (hs.2 i hi).2
  have hP := PrE_bnd.1 hP
  refine sM_rbyte hs hq hj (PrE_mono hP (fun e e1 h C j' x f g q jb => ⟨fun _ => h C j' f g q (by omega) x x x, fun z => absurd (by rw [q.2.2]; omega) z⟩) (fun k a e1 h C f g q => ⟨fun z => absurd z (by rw [q.2.2]; decide), fun _ => sM_sign (sgM_k hs f (by decide)) q ⟨fun y => ?_, fun y => ?_⟩⟩))
  · rw [if_neg (fun w => y (by rw [if_pos w.1]; exact w.2))] at h
    exact h C f g q
  · have o1 := grb_ok hs2 e1
    have kn : k < n := Decidable.of_not_not fun c => by
      rw [if_neg c] at y
      exact absurd y (by decide)
    rw [if_pos kn] at y
    rw [if_pos ⟨kn, y⟩] at h
    have h := PrE_bnd.1 h
    rw [q.2.1]
    have f2 : fr [55] B (iz_pI C 55 (uz (C.1 55) 38 ((k : Int) + 1))) := fr_pI f (by decide)
    have g2 : ff [37, 38] (B.1 55) ((iz_pI C 55 (uz (C.1 55) 38 ((k : Int) + 1))).1 55) := ff_uz g (by decide)
    have q2 : Qm n ((k + 1 : Nat) : Int) (-1) (iz_pI C 55 (uz (C.1 55) 38 ((k : Int) + 1))) := ⟨q.1, (show (k : Int) + 1 = ((k + 1 : Nat) : Int) by omega), q.2.2⟩
    generalize iz_pI C 55 (uz (C.1 55) 38 ((k : Int) + 1)) = C2 at *
    refine ⟨inR_b (by omega) (by omega), sM_rbyte (sgM_k hs f2 (by decide)) q2 (by omega) (PrE_mono h (fun e e2 h D j' x f3 g3 q3 jb => ⟨fun _ => h D j' (fr_mo (fr_tr f2 f3) (by decide)) (ff_tr g2 g3) q3 (by omega) _ _ _, fun z => absurd (by rw [q3.2.2]; omega) z⟩) (fun k2 b e2 h D f3 g3 q3 => ⟨fun z => absurd z (by rw [q3.2.2]; decide), fun _ => ⟨fun z => ?_, fun z => ?_⟩⟩))⟩
    · rw [if_neg (show ¬ b < a by omega)] at h
      exact h D (fr_mo (fr_tr f2 f3) (by decide)) (ff_tr g2 g3) q3
    · rw [if_pos (show b < a by omega)] at h
      have o2 := grb_ok hs2 e2
      refine sM_fail q3 fun E f4 g4 q4 => ?_
      rw [show (k : Int) + 1 = ((k + 1 : Nat) : Int) by omega] at q4
      exact h E k2 (fr_mo (fr_tr f2 (fr_tr f3 f4)) (by decide)) (ff_tr g2 (ff_tr g3 (ff_mo g4 (by decide)))) q4 (by omega) _ _ _
theorem gcl_ok2 {s : Nat → Int} {n j k : Nat} {S : Int → Prop} (hs : ∀ i, i < n → 32 ≤ s i ∧ s i ≤ 126) (h : gcl s n j = .inr (k, S)) : j + 2 ≤ k ∧ k ≤ n := by
  unfold gcl at h
  by_cases c : j + 1 < n ∧ s (j + 1) = 94
  · rw [if_pos c] at h
    obtain ⟨k1, S1, e1, h⟩ := bnd_ok h
    have := grs_ok hs _ _ _ _ _ e1
    cases h
    exact ⟨(by omega), (by omega)⟩
  · rw [if_neg c] at h
    have := grs_ok hs _ _ _ _ _ h
    exact ⟨(by omega), (by omega)⟩
theorem sM_ranges {d n j cm : Nat} {A : iz_A} {s : Nat → Int} {P : iz_A → Prop} (hs : SgM s n A) (hq : Qm n j (-1) A) (hj : j < n) (hcm : A.1 55 52 = (cm : Int)) (hm : cm < 100) (hP : PrE (gcl s n j) (fun e => ∀ C (j' : Nat), fr [55, 85] A C → ff [37, 38, 52] (A.1 55) (C.1 55) → Qm n j' e C → j' ≤ n + 5 → P C) (fun k S => ∀ C, fr [55, 85] A C → ff [37, 38, 52] (A.1 55) (C.1 55) → Qm n k (-1) C → C.1 55 52 = ((cm + 1 : Nat) : Int) → Bl cm A C → Cl cm 0 S C → P C)) : Cv (d + 3) 210 [.inr (.inl 55)] A P := by
  have nb := hs.1
  have hs2 := fun i hi => (hs.2 i hi).2
  -- the end
  have last : ∀ (B : iz_A) (w : Int) (k : Nat), k ≤ n + 4 → fr [55, 85] A B → ff [37, 38] (A.1 55) (B.1 55) → Qm n k w B → (∀ C, fr [55, 85] A C → ff [37, 38, 52] (A.1 55) (C.1 55) → Qm n ((k + 1 : Nat) : Int) w C → C.1 55 52 = ((cm + 1 : Nat) : Int) → C.1 85 = B.1 85 → P C) → (inR ((B.1 55 38) + (1 : Int)) ∧ (inR ((B.1 55 52) + (1 : Int)) ∧ (none = (none : Option iz_V) ∧ P (iz_pI (iz_pI B 55 (uz (B.1 55) 38 ((B.1 55 38) + (1 : Int)))) 55 (uz (uz (B.1 55) 38 ((B.1 55 38) + (1 : Int))) 52 ((B.1 55 52) + (1 : Int))))))) := fun B w k kb f g q h => by
    have c52 : B.1 55 52 = (cm : Int) := (g 52 (by decide)).trans hcm
    rw [q.2.1, c52]
    refine ⟨inR_b (by omega) (by omega), inR_b (by omega) (by omega), rfl, h _ (fr_pI (fr_pI f (by decide)) (by decide)) (ff_uz (ff_uz (ff_mo g (by decide)) (by decide)) (by decide)) ⟨q.1, (show (k : Int) + 1 = ((k + 1 : Nat) : Int) by omega), q.2.2⟩ (show (cm : Int) + 1 = ((cm + 1 : Nat) : Int) by omega) rfl⟩
  have loop : ∀ v1 : Int, (v1 = 0 ∨ v1 = 1) → ∀ m j B S (v3 : Int), n < j + m → j ≤ n → fr [55, 85] A B → ff [37, 38] (A.1 55) (B.1 55) → Qm n j (-1) B → Cl cm v1 S B → Bl cm A B → ((v3 = 1 ∧ PrE (grs s n m j S) (fun e => ∀ C (j' : Nat), fr [55, 85] A C → ff [37, 38, 52] (A.1 55) (C.1 55) → Qm n j' e C → j' ≤ n + 5 → P C) (fun k S => ∀ C, fr [55, 85] A C → ff [37, 38, 52] (A.1 55) (C.1 55) → Qm n k (-1) C → C.1 55 52 = ((cm + 1 : Nat) : Int) → Bl cm A C → Cl cm v1 S C → P C)) ∨ (v3 = 0 ∧ PrE (if j < n then (if s j = 93 then (.inr (j + 1, S) : Pr (Int → Prop)) else grs s n m j S) else .inl j) (fun e => ∀ C (j' : Nat), fr [55, 85] A C → ff [37, 38, 52] (A.1 55) (C.1 55) → Qm n j' e C → j' ≤ n + 5 → P C) (fun k S => ∀ C, fr [55, 85] A C → ff [37, 38, 52] (A.1 55) (C.1 55) → Qm n k (-1) C → C.1 55 52 = ((cm + 1 : Nat) : Int) → Bl cm A C → Cl cm v1 S C → P C))) → Rn (d + 2) mX11_ranges (fun v A' => v = none ∧ P A') 78 [some (.inr (.inl 55)), some (.inl v1), some (.inl (256 * (cm : Int))), some (.inl v3), none, none, none] [] B := by
    intro v1 hv m
    induction m with
    | zero => intro j B S v3 h1 h2; omega
    | succ m ih =>
      intro j B S v3 h1 h2 fB gB qB cB bB hR
      have hsB := sgM_k hs fB (by decide)
      have one : PrE (grs s n (m + 1) j S) (fun e => ∀ C (j' : Nat), fr [55, 85] A C → ff [37, 38, 52] (A.1 55) (C.1 55) → Qm n j' e C → j' ≤ n + 5 → P C) (fun k S => ∀ C, fr [55, 85] A C → ff [37, 38, 52] (A.1 55) (C.1 55) → Qm n k (-1) C → C.1 55 52 = ((cm + 1 : Nat) : Int) → Bl cm A C → Cl cm v1 S C → P C) → rgD (d + 2) (fun v A' => v = none ∧ P A') v1 (256 * (cm : Int)) B := fun hg => by
        have hg := PrE_bnd.1 hg
        refine lM_one hsB qB h2 (PrE_mono hg (fun e e1 h C j' f g q jb x y z => ?_) (fun k ab e1 h C f g q => ?_))
        · have fC : fr [55, 85] A C := fr_mo (fr_tr fB f) (by decide)
          have gC := ff_tr gB g
          have fin : Rn (d + 2) mX11_ranges (fun v A' => v = none ∧ P A') 78 [some (.inr (.inl 55)), some (.inl v1), some (.inl (256 * (cm : Int))), some (.inl 0), none, none, none] [] C := w_X11_ranges_78 ⟨fun _ => last C _ j' (by omega) fC gC q (fun E fE gE qE _ _ => h E (j' + 1) fE gE qE (by omega)), fun z => absurd (by rw [q.2.2]; omega) z⟩
          exact w_X11_ranges_172 ⟨fun _ => fin, fun _ => ⟨fun _ => fin, fun z => absurd (by rw [q.2.2]; omega) z⟩⟩
        · have o1 := grg_ok hs2 e1
          have o2 := grg_ok2 hs2 e1
          obtain ⟨a, b⟩ := ab
          obtain ⟨an, rfl⟩ : ∃ an : Nat, a = (an : Int) := ⟨a.toNat, by have := o2.1; simp only at this; omega⟩
          obtain ⟨bn, rfl⟩ : ∃ bn : Nat, b = (bn : Int) := ⟨b.toNat, by have := o2.1; have := o2.2.1; simp only at *; omega⟩
          simp only at o2
          have fC : fr [55, 85] A C := fr_mo (fr_tr fB f) (by decide)
          have gC := ff_tr gB g
          refine lM_fill (P := P) hv hm (by omega) (by omega) q.2.2 (cl_k cB f (by decide)) (fun E fE bE cE => ?_)
          have gE : ff [37, 38] (A.1 55) (E.1 55) := by rw [fE.1 55 (by decide)]; exact gC
          have qE : Qm n k (-1) E := qm_k (m := []) q (ff_eq (fE.1 55 (by decide))) (by decide)
          exact ih k E _ 0 (by omega) o1.2 (fr_mo (fr_tr fC fE) (by decide)) gE qE cE (blc_tr bB (blc_tr (blc_k f (by decide)) bE)) (Or.inr ⟨rfl, h⟩)
      refine w_X11_ranges_78 ⟨fun z => absurd z (by rw [qB.2.2]; decide), fun _ => ⟨fun z => ?_, fun z => ?_⟩⟩
      · rcases hR with ⟨-, hR⟩ | ⟨w, -⟩
        · exact one hR
        · exact absurd w z
      · rcases hR with ⟨w, -⟩ | ⟨-, hR⟩
        · omega
        · refine sM_sign hsB qB ⟨fun y => ?_, fun y => ?_⟩
          · have jn : j < n := Decidable.of_not_not fun c => by
              rw [if_neg c] at y
              exact absurd y (by decide)
            rw [if_pos jn] at y hR
            rw [if_pos y] at hR
            exact last B _ j (by omega) fB gB qB (fun E fE gE qE cE eE => hR E fE gE qE cE (fun i hi => by rw [eE]; exact bB i hi) (fun c hc => by rw [eE]; exact cB c hc))
          · by_cases jn : j < n
            · rw [if_pos jn] at y hR
              rw [if_neg y] at hR
              exact one hR
            · rw [if_neg jn] at hR
              refine one ?_
              unfold grs grg grb gby
              rw [if_neg (fun w => jn w.1), if_neg jn]
              exact hR
  -- the first fill
  have fill : ∀ v1 : Int, (v1 = 0 ∨ v1 = 1) → ∀ (j : Nat) B, j ≤ n → fr [55] A B → ff [37, 38] (A.1 55) (B.1 55) → Qm n j (-1) B → PrE (grs s n (n + 1) j (fun _ => False)) (fun e => ∀ C (j' : Nat), fr [55, 85] A C → ff [37, 38, 52] (A.1 55) (C.1 55) → Qm n j' e C → j' ≤ n + 5 → P C) (fun k S => ∀ C, fr [55, 85] A C → ff [37, 38, 52] (A.1 55) (C.1 55) → Qm n k (-1) C → C.1 55 52 = ((cm + 1 : Nat) : Int) → Bl cm A C → Cl cm v1 S C → P C) → Rn (d + 2) mX11_ranges (fun v A' => v = none ∧ P A') 54 [some (.inr (.inl 55)), some (.inl v1), some (.inl (256 * (cm : Int))), some (.inl 0), none, none, none] [] B := by
    intro v1 hv j B hj fB gB qB hR
    refine dwl (P := fun q => ∀ D, fr [85] B D → Bl cm B D → (∀ c, c < q → D.1 85 (256 * cm + c) = v1) → Rn (d + 2) mX11_ranges (fun v A' => v = none ∧ P A') 54 [some (.inr (.inl 55)), some (.inl v1), some (.inl (256 * (cm : Int))), some (.inl ((q : Int))), none, none, none] [] D) (a := 0) (n := 256) ?_ (fun q _ hq ih => ?_) (by decide) B (fr_mo (fr_rf B) (by decide)) (fun _ _ => rfl) (fun c hc => absurd hc (Nat.not_lt_zero c))
    · intro D f b h
      have gD : ff [37, 38] (A.1 55) (D.1 55) := by rw [f.1 55 (by decide)]; exact gB
      have qD : Qm n j (-1) D := qm_k (m := []) qB (ff_eq (f.1 55 (by decide))) (by decide)
      refine w_X11_ranges_54 ⟨fun _ => loop v1 hv (n + 1) j D (fun _ => False) 1 (by omega) hj (fr_mo (fr_tr fB f) (by decide)) gD qD (fun c hc => ?_) (blc_tr (blc_k fB (by decide)) b) (Or.inl ⟨rfl, hR⟩), fun z => by omega⟩
      rw [h c hc]
      exact ⟨fun z => Or.inr ⟨by omega, id⟩, fun z => z.elim (fun w => absurd w.2 id) (fun w => by omega)⟩
    · intro D f b h
      rw [show ((q + 1 : Nat) : Int) = (q : Int) + 1 by omega] at ih
      have et : (256 * (cm : Int) + (q : Int)).toNat = 256 * cm + q := by omega
      refine w_X11_ranges_54 ⟨fun z => by omega, fun _ => ⟨inR_b (by omega) (by omega), ⟨by omega, by omega⟩, hv, inR_b (by omega) (by omega), ?_⟩⟩
      rw [et]
      refine ih _ (fr_pI f (by decide)) (fun i hi => ?_) (fun c hc => ?_)
      · rw [pI_at', uz_ne _ _ (by omega)]; exact b i hi
      · rw [pI_at']
        by_cases y : c = q
        · rw [y, uz_at]
        · rw [uz_ne _ _ (by omega)]; exact h c (by omega)
  refine e_X11_ranges ?_
  rw [hq.2.1]
  have fB : fr [55] A (iz_pI A 55 (uz (A.1 55) 38 ((j : Int) + 1))) := fr_pI (fr_mo (fr_rf A) (by decide)) (by decide)
  have gB : ff [37, 38] (A.1 55) ((iz_pI A 55 (uz (A.1 55) 38 ((j : Int) + 1))).1 55) := ff_uz (ff_eq rfl) (by decide)
  have qB : Qm n ((j + 1 : Nat) : Int) (-1) (iz_pI A 55 (uz (A.1 55) 38 ((j : Int) + 1))) := ⟨hq.1, (show (j : Int) + 1 = ((j + 1 : Nat) : Int) by omega), hq.2.2⟩
  generalize iz_pI A 55 (uz (A.1 55) 38 ((j : Int) + 1)) = B at *
  have c52 : B.1 55 52 = (cm : Int) := (gB 52 (by decide)).trans hcm
  unfold gcl at hP
  refine ⟨inR_b (by omega) (by omega), sM_sign (sgM_k hs fB (by decide)) qB ⟨fun y => ⟨fun _ => ?_, fun z => absurd rfl z⟩, fun y => ⟨fun z => absurd z (by decide), fun _ => ?_⟩⟩⟩
  · rw [if_neg (fun w => y (by rw [if_pos w.1]; exact w.2))] at hP
    rw [qB.2.1, c52]
    exact ⟨inR_b (by omega) (by omega), inR_b (by omega) (by omega), fill 0 (Or.inl rfl) (j + 1) _ (by omega) (fr_pI fB (by decide)) (ff_uz gB (by decide)) ⟨qB.1, (show ((j + 1 : Nat) : Int) + 0 = ((j + 1 : Nat) : Int) by omega), qB.2.2⟩ hP⟩
  · have kn : j + 1 < n := Decidable.of_not_not fun c => by
      rw [if_neg c] at y
      exact absurd y (by decide)
    rw [if_pos kn] at y
    rw [if_pos ⟨kn, y⟩] at hP
    have hP := PrE_bnd.1 hP
    rw [qB.2.1, c52]
    refine ⟨inR_b (by omega) (by omega), inR_b (by omega) (by omega), fill 1 (Or.inr rfl) (j + 2) _ (by omega) (fr_pI fB (by decide)) (ff_uz gB (by decide)) ⟨qB.1, (show ((j + 1 : Nat) : Int) + 1 = ((j + 2 : Nat) : Int) by omega), qB.2.2⟩ (PrE_mono hP (fun e _ h => h) (fun k S _ h C f g q c b l => h C f g q c b (fun x hx => ?_)))⟩
    rw [l x hx]
    exact ⟨fun z => z.elim (fun w => absurd w.1 (by decide)) (fun w => Or.inl ⟨rfl, w.2⟩), fun z => z.elim (fun w => Or.inr ⟨rfl, w.2⟩) (fun w => absurd w.1 (by decide))⟩
