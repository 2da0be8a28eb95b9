/-- the class's greatest length that stands at a lesser place too -/
def ErR (x : Ix) (er : Nat → Nat) (A : iz_A) : Prop := ∀ p, p < ixn x → A.1 49 p = (er p : Int) ∧ Mt x p (fun q => q < p) (er p)
def FcR (x : Ix) (A : iz_A) : Prop := A.1 55 71 = 0 ∨ (A.1 55 71 = 1 ∧ ∀ p, p < ixn x → ∃ b a : Nat, A.1 101 p = (b : Int) ∧ A.1 102 p = (a : Int) ∧ Mt x p (fun q => q < p) b ∧ Lp x p b a)
def fcs (er : Nat → Nat) (F : Nat) : Nat → Nat
  | 0 => F
  | t + 1 => fcs er F t + (if er (fcs er F t) < 1 then 1 else er (fcs er F t))
theorem fcs_s (er : Nat → Nat) (F t : Nat) : fcs er F (t + 1) = fcs er F t + (if er (fcs er F t) < 1 then 1 else er (fcs er F t)) := rfl
theorem mt_lft {x : Ix} (h1 : TxOk x) {p b : Nat} {C : Nat → Prop} (hp : p < ixn x) (h : Mt x p C b) : b ≤ lft x p := by
  rcases h.2 with z | ⟨q, q1, q2, q3, q4⟩
  · omega
  · exact (dif_le h1 hp q1 q4).1
theorem fcs_ok {er : Nat → Nat} {F E : Nat} (hF : F ≤ E) (he : ∀ p, F ≤ p → p < E → er p ≤ E - p) : ∀ t, (∀ s, s < t → fcs er F s < E) → F + t ≤ fcs er F t ∧ fcs er F t ≤ E := by
  intro t
  induction t with
  | zero => exact fun _ => ⟨Nat.le_refl _, hF⟩
  | succ t ih =>
    intro hs
    obtain ⟨a, b⟩ := ih (fun s h => hs s (by omega))
    have hp := hs t (by omega)
    have := he _ (show F ≤ fcs er F t by omega) hp
    rw [fcs_s]
    split <;> omega
theorem fcs_ex {er : Nat → Nat} {F E : Nat} (hF : F ≤ E) (he : ∀ p, F ≤ p → p < E → er p ≤ E - p) : ∃ N, E ≤ fcs er F N ∧ ∀ t, t < N → fcs er F t < E := by
  have : ∃ m, E ≤ fcs er F m := by
    by_cases c : ∀ s, s < E - F → fcs er F s < E
    · have := (fcs_ok hF he (E - F) c).1
      exact ⟨E - F, (by omega)⟩
    · refine Classical.byContradiction fun h => c fun s _ => ?_
      have : ¬ E ≤ fcs er F s := fun z => h ⟨s, z⟩
      omega
  obtain ⟨m, hm⟩ := this
  obtain ⟨k, -, k2, k3⟩ := least_ex (P := fun m => E ≤ fcs er F m) hm
  exact ⟨k, k2, fun t ht => by have := k3 t ht; omega⟩
/-- what factor() must answer -/
def Fa (x : Ix) (er : Nat → Nat) (F N : Nat) (k w y : Int) : Prop := (k = -1 ∧ y = (N : Int)) ∨ ((N : Int) ≤ k ∧ y = -1) ∨ ∃ t, t < N ∧ k = (t : Int) ∧ ((w = 0 ∧ y = (fcs er F t : Int)) ∨ (w = 1 ∧ y = ((if er (fcs er F t) < 1 then 1 else er (fcs er F t) : Nat) : Int)) ∨ (w = 2 ∧ ((er (fcs er F t) = 0 ∧ y = -2) ∨ (¬ er (fcs er F t) = 0 ∧ ∃ a : Nat, y = (a : Int) ∧ Lp x (fcs er F t) (er (fcs er F t)) a))))
theorem fa_un {x : Ix} {er : Nat → Nat} {F N : Nat} {k w y y' : Int} (h : Fa x er F N k w y) (h' : Fa x er F N k w y') : y = y' := by
  rcases h with ⟨a1, a2⟩ | ⟨a1, a2⟩ | ⟨t, t1, t2, t3⟩
  · rcases h' with ⟨b1, b2⟩ | ⟨b1, b2⟩ | ⟨s, s1, s2, s3⟩
    · omega
    · omega
    · omega
  · rcases h' with ⟨b1, b2⟩ | ⟨b1, b2⟩ | ⟨s, s1, s2, s3⟩
    · omega
    · omega
    · omega
  · rcases h' with ⟨b1, b2⟩ | ⟨b1, b2⟩ | ⟨s, s1, s2, s3⟩
    · omega
    · omega
    · obtain rfl : s = t := (by omega)
      rcases t3 with ⟨a1, a2⟩ | ⟨a1, a2⟩ | ⟨a1, a2⟩
      · rcases s3 with ⟨b1, b2⟩ | ⟨b1, b2⟩ | ⟨b1, b2⟩
        · omega
        · omega
        · omega
      · rcases s3 with ⟨b1, b2⟩ | ⟨b1, b2⟩ | ⟨b1, b2⟩
        · omega
        · rw [a2, b2]
        · omega
      · rcases s3 with ⟨b1, b2⟩ | ⟨b1, b2⟩ | ⟨b1, b2⟩
        · omega
        · omega
        · rcases a2 with ⟨c1, c2⟩ | ⟨c1, a, c2, c3⟩
          · rcases b2 with ⟨d1, d2⟩ | ⟨d1, d2⟩
            · omega
            · exact absurd c1 d1
          · rcases b2 with ⟨d1, d2⟩ | ⟨d1, a', d2, d3⟩
            · exact absurd d1 c1
            · rw [c2, d2, lp_un c1 c3 d3]
theorem sX_factor {d : Nat} {A : iz_A} {x : Ix} {er : Nat → Nat} {e N : Nat} {k w : Int} {P : Int → iz_A → Prop} (h1 : TxOk x) (h2 : PmOk x) (h3 : SoOk x) (h4 : XI x A) (hE : ErR x er A) (he : e < ixm x) (hk : -1 ≤ k) (hk2 : k < 2147483648) (hw : k = -1 ∨ (0 ≤ w ∧ w ≤ 2)) (n1 : ixF x e + ixl x e ≤ fcs er (ixF x e) N) (n2 : ∀ t, t < N → fcs er (ixF x e) t < ixF x e + ixl x e) (hP : ∀ y, Fa x er (ixF x e) N k w y → P y A) : Ci (d + 3) 149 [.inr (.inl 0), .inl (e : Int), .inl k, .inl w] A P := by
  have nb := h1.2.2.1
  have mb := h1.2.1
  have en := end_lt h1 he
  have hl : ∀ p, ixF x e ≤ p → p < ixF x e + ixl x e → er p ≤ ixF x e + ixl x e - p := fun p p1 p2 => by
    have := mt_lft h1 (p := p) (by omega) (hE p (by omega)).2
    have ho := own_of h1 he p1 (by omega)
    unfold lft at this
    rw [ho] at this
    exact this
  have ok := fcs_ok (er := er) (F := ixF x e) (E := ixF x e + ixl x e) (by omega) hl
  have N3 := ok N n2
  have er' : ∀ p, p < ixn x → (if A.1 49 p < 1 then 1 else A.1 49 p) = ((if er p < 1 then 1 else er p : Nat) : Int) := fun p hp => by
    rw [(hE p hp).1]
    split <;> split <;> omega
  refine e_X10_factor (sX_hasDocK h4 he ⟨fun z => absurd z n10, fun _ => ⟨fun _ => ⟨fun z => ⟨fun z => by omega, fun _ => ⟨fun z => by omega, fun _ => ?_⟩⟩, fun z => ?_⟩, fun z => by omega⟩⟩)
  · obtain ⟨kk, rfl⟩ : ∃ kk : Nat, k = (kk : Int) := ⟨k.toNat, (by omega)⟩
    refine e_X5_tellFactor ⟨⟨by omega, by omega⟩, ?_⟩
    rw [tn, h4.2.2.2.1 e (by omega)]
    generalize hFe : ixF x e = F at *
    have main := dwl (P := fun t => t ≤ kk → Rn (d + 1) mX5_tellFactor (fun v A' => ∃ y, v = some (.inl y) ∧ ∃ y', (some (.inl y) : Option iz_V) = some (.inl y') ∧ P y' A') 14 [some (.inr (.inl 48)), some (.inl ((e : Int))), some (.inl ((kk : Int))), some (.inl w), some (.inl (((kk - t : Nat) : Int))), some (.inl ((fcs er F t : Int)))] [] A) (a := 0) (n := N) ?_ (fun t _ ht ih => ?_) (Nat.zero_le _) (Nat.zero_le _)
    · exact main
    · intro tk
      refine w_X5_tellFactor_14 (sX_endOf h1 h4 he ?_)
      rw [hFe]
      refine ⟨fun _ => sX_endOf h1 h4 he ?_, fun z => by omega⟩
      rw [hFe]
      exact ⟨fun z => by omega, fun _ => ⟨_, rfl, _, rfl, hP _ (Or.inr (Or.inl ⟨(by omega), rfl⟩))⟩⟩
    · intro tk
      have hp := n2 t ht
      have hpn : fcs er F t < ixn x := (by omega)
      obtain ⟨a, b⟩ := ok t (fun s h => n2 s (by omega))
      have lb := hl _ (show F ≤ fcs er F t by omega) hp
      refine w_X5_tellFactor_14 (sX_endOf h1 h4 he ?_)
      rw [hFe]
      refine ⟨fun z => by omega, fun _ => ⟨fun z2 => sX_endOf h1 h4 he ?_, fun z2 => ?_⟩⟩
      · rw [hFe]
        have et : kk = t := (by omega)
        refine ⟨fun _ => ⟨fun w0 => ⟨fun w1 => ?_, fun w1 => ⟨⟨by omega, by omega⟩, _, rfl, _, rfl, hP _ (Or.inr (Or.inr ⟨t, ht, (by omega), Or.inr (Or.inl ⟨w1, ?_⟩)⟩))⟩⟩, fun w0 => ⟨_, rfl, _, rfl, hP _ (Or.inr (Or.inr ⟨t, ht, (by omega), Or.inl ⟨w0, rfl⟩⟩))⟩⟩, fun z => by omega⟩
        · refine sX_leastEarlier h1 h2 h3 h4 hpn (hE _ hpn).1 (fun y => ⟨_, rfl, _, rfl, hP _ (Or.inr (Or.inr ⟨t, ht, (by omega), Or.inr (Or.inr ⟨(by omega), Or.inl ⟨y, rfl⟩⟩)⟩))⟩) (fun y a' ha => ⟨_, rfl, _, rfl, hP _ (Or.inr (Or.inr ⟨t, ht, (by omega), Or.inr (Or.inr ⟨(by omega), Or.inr ⟨y, a', rfl, ha⟩⟩)⟩))⟩)
        · rw [tn]
          exact er' _ hpn
      · rw [tn, er' _ hpn]
        have := ih (by omega)
        rw [fcs_s, show ((kk - (t + 1) : Nat) : Int) = ((kk - t : Nat) : Int) + -1 by omega, show ((fcs er F t + (if er (fcs er F t) < 1 then 1 else er (fcs er F t)) : Nat) : Int) = (fcs er F t : Int) + ((if er (fcs er F t) < 1 then 1 else er (fcs er F t) : Nat) : Int) by omega] at this
        refine ⟨⟨by omega, by omega⟩, ?_, inR_b (by omega) (by omega), this⟩
        split <;> exact inR_b (by omega) (by omega)
  · refine e_X5_factors ⟨⟨by omega, by omega⟩, ?_⟩
    rw [tn, h4.2.2.2.1 e (by omega)]
    generalize hFe : ixF x e = F at *
    have main := dwl (P := fun t => Rn (d + 1) mX5_factors (fun v A' => ∃ y, v = some (.inl y) ∧ ∃ y', (some (.inl y) : Option iz_V) = some (.inl y') ∧ P y' A') 12 [some (.inr (.inl 48)), some (.inl ((e : Int))), some (.inl ((t : Int))), some (.inl ((fcs er F t : Int)))] [] A) (a := 0) (n := N) ?_ (fun t _ ht ih => ?_) (Nat.zero_le _)
    · exact main
    · refine w_X5_factors_12 (sX_endOf h1 h4 he ?_)
      rw [hFe]
      exact ⟨fun _ => ⟨_, rfl, _, rfl, hP _ (Or.inl ⟨z, rfl⟩)⟩, fun z => by omega⟩
    · have hp := n2 t ht
      have hpn : fcs er F t < ixn x := (by omega)
      obtain ⟨a, b⟩ := ok t (fun s h => n2 s (by omega))
      have lb := hl _ (show F ≤ fcs er F t by omega) hp
      refine w_X5_factors_12 (sX_endOf h1 h4 he ?_)
      rw [hFe, tn, er' _ hpn]
      rw [fcs_s, show ((t + 1 : Nat) : Int) = (t : Int) + 1 by omega, show ((fcs er F t + (if er (fcs er F t) < 1 then 1 else er (fcs er F t)) : Nat) : Int) = (fcs er F t : Int) + ((if er (fcs er F t) < 1 then 1 else er (fcs er F t) : Nat) : Int) by omega] at ih
      refine ⟨fun z => by omega, fun _ => ⟨inR_b (by omega) (by omega), ⟨by omega, by omega⟩, ?_, ih⟩⟩
      split <;> exact inR_b (by omega) (by omega)
theorem lM_factor {d : Nat} {A : iz_A} {x : Ix} {er : Nat → Nat} {e N : Nat} {k w : Int} {P : Int → iz_A → Prop} (h1 : TxOk x) (h5 : MI x A) (hE : ∀ p, p < ixn x → Mt x p (fun q => q < p) (er p)) (hF : ∀ p, p < ixn x → ∃ b a : Nat, A.1 101 p = (b : Int) ∧ A.1 102 p = (a : Int) ∧ Mt x p (fun q => q < p) b ∧ Lp x p b a) (he : e < ixm x) (hk : -1 ≤ k) (hw : k = -1 ∨ (0 ≤ w ∧ w ≤ 2)) (n1 : ixF x e + ixl x e ≤ fcs er (ixF x e) N) (n2 : ∀ t, t < N → fcs er (ixF x e) t < ixF x e + ixl x e) (hP : ∀ y, Fa x er (ixF x e) N k w y → P y A) : Rn d mX11_factor (fun v A' => ∃ y, v = some (.inl y) ∧ P y A') 65 [some (.inr (.inl 55)), some (.inl ((e : Int))), some (.inl k), some (.inl w), some (.inl 0), some (.inl (((ixF x e + ixl x e : Nat) : Int))), some (.inl ((ixF x e : Int))), none] [] A := by
  have nb := h1.2.2.1
  have en := end_lt h1 he
  have hl : ∀ p, ixF x e ≤ p → p < ixF x e + ixl x e → er p ≤ ixF x e + ixl x e - p := fun p p1 p2 => by
    have := mt_lft h1 (p := p) (by omega) (hE p (by omega))
    have ho := own_of h1 he p1 (by omega)
    unfold lft at this
    rw [ho] at this
    exact this
  have ok := fcs_ok (er := er) (F := ixF x e) (E := ixF x e + ixl x e) (by omega) hl
  have N3 := ok N n2
  have F1 : ∀ p, p < ixn x → A.1 101 p = (er p : Int) ∧ ∃ a : Nat, A.1 102 p = (a : Int) ∧ Lp x p (er p) a := fun p hp => by
    obtain ⟨b, a, b1, b2, b3, b4⟩ := hF p hp
    rw [← mt_un b3 (hE p hp)]
    exact ⟨b1, a, b2, b4⟩
  generalize hEe : ixF x e + ixl x e = E at *
  generalize hFe : ixF x e = F at *
  refine dwl (P := fun t => (∀ s, s < t → (s : Int) ≠ k) → Rn d mX11_factor (fun v A' => ∃ y, v = some (.inl y) ∧ P y A') 65 [some (.inr (.inl 55)), some (.inl ((e : Int))), some (.inl k), some (.inl w), some (.inl ((t : Int))), some (.inl ((E : Int))), some (.inl ((fcs er F t : Int))), none] [] A) (a := 0) (n := N) ?_ (fun t _ ht ih => ?_) (Nat.zero_le _) (fun s hs => by omega)
  · intro hs
    refine w_X11_factor_65 ⟨fun _ => ⟨fun z => ⟨_, rfl, hP _ (Or.inr (Or.inl ⟨?_, rfl⟩))⟩, fun z => ⟨_, rfl, hP _ (Or.inl ⟨z, rfl⟩)⟩⟩, fun z => by omega⟩
    by_cases y : (N : Int) ≤ k
    · exact y
    · by_cases y2 : 0 ≤ k
      · exact absurd (show ((k.toNat : Nat) : Int) = k by omega) (hs k.toNat (by omega))
      · omega
  · intro hs
    have hp := n2 t ht
    have hpn : fcs er F t < ixn x := (by omega)
    obtain ⟨a, b⟩ := ok t (fun s h => n2 s (by omega))
    have lb := hl _ (show F ≤ fcs er F t by omega) hp
    obtain ⟨f1, a', f2, f3⟩ := F1 _ hpn
    have hs' : ¬ (t : Int) = k → ∀ s, s < t + 1 → (s : Int) ≠ k := fun y s h => by
      by_cases w : s = t
      · rw [w]; exact y
      · exact hs s (by omega)
    rw [fcs_s, show ((t + 1 : Nat) : Int) = (t : Int) + 1 by omega] at ih
    refine w_X11_factor_65 ?_
    rw [tn, f1, f2]
    refine ⟨fun z => by omega, fun _ => ⟨⟨by omega, by omega⟩, fun z => ⟨⟨by omega, by omega⟩, fun y => ⟨inR_b (by omega) (by omega), inR_b (by omega) (by omega), ?_⟩, fun y => ⟨fun w0 => ⟨fun w1 => ⟨⟨by omega, by omega⟩, fun _ => ⟨⟨by omega, by omega⟩, _, rfl, hP _ (Or.inr (Or.inr ⟨t, ht, y.symm, Or.inr (Or.inr ⟨(by omega), Or.inr ⟨(by omega), a', rfl, f3⟩⟩)⟩))⟩, fun z' => absurd z' z⟩, fun w1 => ⟨_, rfl, hP _ (Or.inr (Or.inr ⟨t, ht, y.symm, Or.inr (Or.inl ⟨w1, by rw [if_neg (by omega)]⟩)⟩))⟩⟩, fun w0 => ⟨_, rfl, hP _ (Or.inr (Or.inr ⟨t, ht, y.symm, Or.inl ⟨w0, rfl⟩⟩))⟩⟩⟩, fun z => ⟨fun y => ⟨inR_b (by omega) (by omega), inR_b (by omega) (by omega), ?_⟩, fun y => ⟨fun w0 => ⟨fun w1 => ⟨⟨by omega, by omega⟩, fun z' => absurd z z', fun _ => ⟨_, rfl, hP _ (Or.inr (Or.inr ⟨t, ht, y.symm, Or.inr (Or.inr ⟨(by omega), Or.inl ⟨(by omega), rfl⟩⟩)⟩))⟩⟩, fun w1 => ⟨_, rfl, hP _ (Or.inr (Or.inr ⟨t, ht, y.symm, Or.inr (Or.inl ⟨w1, by rw [if_pos (by omega)]; rfl⟩)⟩))⟩⟩, fun w0 => ⟨_, rfl, hP _ (Or.inr (Or.inr ⟨t, ht, y.symm, Or.inl ⟨w0, rfl⟩⟩))⟩⟩⟩⟩⟩
    · have := ih (hs' y)
      rw [if_neg (by omega), show ((fcs er F t + er (fcs er F t) : Nat) : Int) = (fcs er F t : Int) + (er (fcs er F t) : Int) by omega] at this
      exact this
    · have := ih (hs' y)
      rw [if_pos (by omega), show ((fcs er F t + 1 : Nat) : Int) = (fcs er F t : Int) + 1 by omega] at this
      exact this
theorem b_factor {A : iz_A} {I : iz_A → Prop} {v k w : Int} {x : Ix} (hk : inR k) (hx : NotB A ∨ (XM x A ∧ (∃ er, ErR x er A) ∧ FcR x A)) (hI0 : I A) (hI : XM x A → ∀ C, fr [55, 101, 102] A C → ff [71] (A.1 55) (C.1 55) → FcR x C → I C) : Bo 149 240 [.inl v, .inl k, .inl w] [.inl v, .inl k, .inl w] A I := by
  rcases doc_casesx v hx with ⟨e, hXM, ⟨⟨er, hE⟩, hF⟩, rfl, he⟩ | ⟨n1, n2⟩
  · obtain ⟨h1, h2, h3, h4, h5⟩ := id hXM
    have mb := h1.2.1
    have nb := h1.2.2.1
    have en := end_lt h1 he
    by_cases hkw : -1 ≤ k ∧ (k = -1 ∨ (0 ≤ w ∧ w ≤ 2))
    · obtain ⟨k1, kw⟩ := hkw
      have hl : ∀ p, ixF x e ≤ p → p < ixF x e + ixl x e → er p ≤ ixF x e + ixl x e - p := fun p p1 p2 => by
        have := mt_lft h1 (p := p) (by omega) (hE p (by omega)).2
        have ho := own_of h1 he p1 (by omega)
        unfold lft at this
        rw [ho] at this
        exact this
      obtain ⟨N, m1, m2⟩ := fcs_ex (er := er) (F := ixF x e) (E := ixF x e + ixl x e) (by omega) hl
      refine Ci_mono (d := 3) (by decide) (sX_factor (d := 0) h1 h2 h3 h4 hE he k1 hk.2 kw m1 m2 fun y hy => ?_) (fun _ _ z => z)
      have walk : ∀ C, MI x C → (∀ p, p < ixn x → ∃ b a : Nat, C.1 101 p = (b : Int) ∧ C.1 102 p = (a : Int) ∧ Mt x p (fun q => q < p) b ∧ Lp x p b a) → I C → ((0 : Int) ≤ (e : Int) ∧ (e : Int) < (40 : Int)) ∧ ((0 : Int) ≤ (e : Int) ∧ (e : Int) < (40 : Int)) ∧ inR (C.1 61 ((e : Int)).toNat + C.1 62 ((e : Int)).toNat) ∧ ((0 : Int) ≤ (e : Int) ∧ (e : Int) < (40 : Int)) ∧ Rn 2 mX11_factor (fun v A' => ∃ y', v = some (.inl y') ∧ y = y' ∧ I A') 65 [some (.inr (.inl 55)), some (.inl ((e : Int))), some (.inl k), some (.inl w), some (.inl 0), some (.inl (C.1 61 ((e : Int)).toNat + C.1 62 ((e : Int)).toNat)), some (.inl (C.1 61 ((e : Int)).toNat)), none] [] C := fun C h5c hFc hIc => by
        rw [tn, (h5c.2.2.2.2.1 e he).1, (h5c.2.2.2.2.1 e he).2]
        refine ⟨⟨by omega, by omega⟩, ⟨by omega, by omega⟩, inR_b (by omega) (by omega), ⟨by omega, by omega⟩, ?_⟩
        rw [show (ixF x e : Int) + (ixl x e : Int) = ((ixF x e + ixl x e : Nat) : Int) by omega]
        exact lM_factor (P := fun y' A' => y = y' ∧ I A') h1 h5c (fun p hp => (hE p hp).2) hFc he k1 kw m1 m2 fun y' hy' => ⟨fa_un hy hy', hIc⟩
      have go : (¬ A.1 55 71 = 0 → ((0 : Int) ≤ (e : Int) ∧ (e : Int) < (40 : Int)) ∧ ((0 : Int) ≤ (e : Int) ∧ (e : Int) < (40 : Int)) ∧ inR (A.1 61 ((e : Int)).toNat + A.1 62 ((e : Int)).toNat) ∧ ((0 : Int) ≤ (e : Int) ∧ (e : Int) < (40 : Int)) ∧ Rn 2 mX11_factor (fun v A' => ∃ y', v = some (.inl y') ∧ y = y' ∧ I A') 65 [some (.inr (.inl 55)), some (.inl ((e : Int))), some (.inl k), some (.inl w), some (.inl 0), some (.inl (A.1 61 ((e : Int)).toNat + A.1 62 ((e : Int)).toNat)), some (.inl (A.1 61 ((e : Int)).toNat)), none] [] A) ∧ (A.1 55 71 = 0 → Cv 2 239 [.inr (.inl 55)] A (fun C => ((0 : Int) ≤ (e : Int) ∧ (e : Int) < (40 : Int)) ∧ ((0 : Int) ≤ (e : Int) ∧ (e : Int) < (40 : Int)) ∧ inR (C.1 61 ((e : Int)).toNat + C.1 62 ((e : Int)).toNat) ∧ ((0 : Int) ≤ (e : Int) ∧ (e : Int) < (40 : Int)) ∧ Rn 2 mX11_factor (fun v A' => ∃ y', v = some (.inl y') ∧ y = y' ∧ I A') 65 [some (.inr (.inl 55)), some (.inl ((e : Int))), some (.inl k), some (.inl w), some (.inl 0), some (.inl (C.1 61 ((e : Int)).toNat + C.1 62 ((e : Int)).toNat)), some (.inl (C.1 61 ((e : Int)).toNat)), none] [] C)) := by
        refine ⟨fun z => ?_, fun z => ?_⟩
        · rcases hF with hF | ⟨-, hF⟩
          · exact absurd hF z
          · exact walk A h5 hF hI0
        · exact sM_findFactors h1 h2 h3 h5 fun C fC eC c1 hFc => walk C (MI_k h5 fC (by decide) eC (by decide)) hFc (hI hXM C fC eC (Or.inr ⟨c1, hFc⟩))
      exact Ci_mono (d := 3) (by decide) (e_X11_factor (d := 2) (sM_isDocK h5 he ⟨fun z => absurd z n10, fun _ => ⟨fun z => by omega, fun _ => ⟨fun _ => go, fun _ => ⟨fun z => by omega, fun _ => ⟨fun _ => go, fun z => by omega⟩⟩⟩⟩⟩)) (fun _ _ z => z)
    · refine bo_bad (d := 2) (d' := 2) (by decide) (by decide) hI0 (fun P hP => ?_) (fun P hP => ?_)
      · exact e_X10_factor (d := 1) (sX_hasDocK h4 he ⟨fun z => absurd z n10, fun _ => ⟨fun _ => ⟨fun _ => ⟨fun _ => ⟨_, rfl, hP⟩, fun _ => ⟨fun _ => ⟨_, rfl, hP⟩, fun z => by omega⟩⟩, fun z => by omega⟩, fun _ => ⟨_, rfl, hP⟩⟩⟩)
      · exact e_X11_factor (d := 1) (sM_isDocK h5 he ⟨fun z => absurd z n10, fun _ => ⟨fun _ => ⟨_, rfl, hP⟩, fun _ => ⟨fun z => by omega, fun _ => ⟨fun _ => ⟨_, rfl, hP⟩, fun _ => ⟨fun z => by omega, fun _ => ⟨_, rfl, hP⟩⟩⟩⟩⟩⟩)
  · refine bo_bad (d := 2) (d' := 2) (by decide) (by decide) hI0 (fun P hP => ?_) (fun P hP => ?_)
    · exact e_X10_factor (d := 1) (sX_hasDocN n1 ⟨fun _ => ⟨_, rfl, hP⟩, fun z => absurd rfl z⟩)
    · exact e_X11_factor (d := 1) (sM_isDocN n2 ⟨fun _ => ⟨_, rfl, hP⟩, fun z => absurd rfl z⟩)
