/-! ===== times, ranked ===== -/
def Td (x : Ix) (lo hi d : Nat) : Nat := ct (fun r => lo ≤ r ∧ ixo x (ixs x r) = d) hi
theorem Td_le (x : Ix) (lo hi d : Nat) : Td x lo hi d ≤ hi := ct_le _ _
theorem ct_perm {x : Ix} (h2 : PmOk x) (P : Nat → Prop) [DecidablePred P] : ct (fun i => P (ixs x i)) (ixn x) = ct P (ixn x) := sm_perm h2.1 h2.2 (fun p => if P p then 1 else 0)
theorem td_eq {x : Ix} (h2 : PmOk x) {lo hi d : Nat} (hh : hi ≤ ixn x) : ct (fun p => (lo ≤ ixr x p ∧ ixr x p < hi) ∧ ixo x p = d) (ixn x) = Td x lo hi d := by
  have s1 : Td x lo hi d = ct (fun r => (lo ≤ r ∧ r < hi) ∧ ixo x (ixs x r) = d) (ixn x) := by
    rw [ct_cut (m := hi) (n := ixn x) hh (fun i a b z => by omega)]
    exact ct_congr (fun i hi => ⟨fun z => ⟨⟨z.1, hi⟩, z.2⟩, fun z => ⟨z.1.1, z.2⟩⟩)
  rw [s1, ← ct_perm h2]
  exact ct_congr fun i hi => by rw [(h2.1 i hi).2]
theorem sX_countBy {d : Nat} {A : iz_A} {x : Ix} {dn p len lo hi : Nat} {P : iz_A → Prop} (h1 : TxOk x) (h2 : PmOk x) (h4 : XI x A) (hX : HdX A dn p len lo hi) (hl : lo ≤ hi) (hh : hi ≤ ixn x) (hP : ∀ C, fr [19] A C → (∀ e, e < 40 → C.1 19 e = (Td x lo hi e : Int)) → P C) : Cv (d + 3) 13 [.inr (.inl 17)] A P := by
  have nb := h1.2.2.1
  have mb := h1.2.1
  refine e_X1_countByDocument (s_fill19 (a := 0) (b := 40) (Nat.zero_le _) (by decide) fun A1 f1 c1 _ => ?_)
  rw [f1.1 17 (by decide), hX.2.2.2.1]
  refine dwl (P := fun r => ∀ B, fr [19] A B → (∀ e, e < 40 → B.1 19 e = (ct (fun r => lo ≤ r ∧ ixo x (ixs x r) = e) r : Int)) → Rn (d + 2) mX1_countByDocument (fun v' A' => v' = none ∧ P A') 16 [some (.inr (.inl 17)), some (.inl (r : Int))] [] B) (a := lo) (n := hi) ?_ (fun r ha hr ih => ?_) hl A1 f1 (fun e he => ?_)
  · intro B f b
    refine w_X1_countByDocument_16 ?_
    rw [f.1 17 (by decide), hX.2.2.2.2]
    exact ⟨fun _ => ⟨rfl, hP B f b⟩, fun z => by omega⟩
  · intro B f b
    have hs := (h2.1 r (by omega)).1
    have ho := (h1.2.2.2.2.2.2 _ hs).1
    have cl := ct_le (fun r' => lo ≤ r' ∧ ixo x (ixs x r') = ixo x (ixs x r)) r
    refine w_X1_countByDocument_16 ?_
    rw [f.1 17 (by decide), hX.2.2.2.2, f.1 9 (by decide), f.1 7 (by decide), tn, (h4.2.2.2.2 r (by omega)).1, tn, (h4.2.2.1 _ hs).2.1, tn, b _ (by omega)]
    refine ⟨fun z => by omega, fun _ => ⟨⟨by omega, by omega⟩, ⟨by omega, by omega⟩, ⟨by omega, by omega⟩, inR_b (by omega) (by omega), ⟨by omega, by omega⟩, inR_b (by omega) (by omega), ih _ (fr_pI f (by decide)) (fun e he => ?_)⟩⟩
    show uz (B.1 19) (ixo x (ixs x r)) _ e = _
    rw [ct_s]
    by_cases w : e = ixo x (ixs x r)
    · rw [w, uz_at, if_pos (show lo ≤ r ∧ _ from ⟨ha, rfl⟩)]
      omega
    · rw [uz_ne _ _ w, b e he, if_neg (fun z : lo ≤ r ∧ _ => w z.2.symm)]
      omega
  · rw [c1 e (by omega) he, ct_0 (fun i hi => by omega)]
    rfl
theorem sM_timesOf {d : Nat} {A : iz_A} {x : Ix} {dn len lo hi e : Nat} {P : Int → iz_A → Prop} (h1 : TxOk x) (h2 : PmOk x) (h5 : MI x A) (hM : HdM A dn len lo hi) (hl : lo ≤ hi) (hh : hi ≤ ixn x) (he : e < ixm x) (hP : P (Td x lo hi e : Int) A) : Ci (d + 2) 197 [.inr (.inl 55), .inl (e : Int)] A P := by
  have nb := h1.2.2.1
  have mb := h1.2.1
  have en := end_lt h1 he
  refine e_X11_timesOf ⟨⟨by omega, by omega⟩, ?_⟩
  rw [tn, (h5.2.2.2.2.1 e he).1]
  have := dwl (P := fun p => Rn (d + 1) mX11_timesOf (fun v A' => ∃ y, v = some (.inl y) ∧ P y A') 9 [some (.inr (.inl 55)), some (.inl (e : Int)), some (.inl (ct (fun p => (lo ≤ ixr x p ∧ ixr x p < hi) ∧ ixo x p = e) p : Int)), some (.inl (p : Int))] [] A) (a := ixF x e) (n := ixF x e + ixl x e + 1) ?_ (fun p ha hp ih => ?_) (by omega)
  · rw [ct_0 (fun i hi z => by
      have := h1.2.2.2.2.2.2 i (by omega)
      rw [z.2] at this
      omega)] at this
    exact this
  · refine w_X11_timesOf_9 ?_
    rw [tn, (h5.2.2.2.2.1 e he).1, (h5.2.2.2.2.1 e he).2]
    refine ⟨⟨by omega, by omega⟩, ⟨by omega, by omega⟩, inR_b (by omega) (by omega), fun _ => ⟨_, rfl, ?_⟩, fun z => by omega⟩
    rw [← td_eq h2 hh, ct_cut (m := ixF x e + ixl x e + 1) (n := ixn x) (by omega) (fun i a b z => by
      have := h1.2.2.2.2.2.2 i b
      rw [z.2] at this
      omega)] at hP
    exact hP
  · have cl := ct_le (fun p => (lo ≤ ixr x p ∧ ixr x p < hi) ∧ ixo x p = e) p
    have ho := own_of h1 he ha (by omega)
    refine w_X11_timesOf_9 ?_
    rw [tn, (h5.2.2.2.2.1 e he).1, (h5.2.2.2.2.1 e he).2]
    rw [show ((p + 1 : Nat) : Int) = (p : Int) + 1 by omega, ct_s] at ih
    refine ⟨⟨by omega, by omega⟩, ⟨by omega, by omega⟩, inR_b (by omega) (by omega), fun z => by omega, fun _ => sM_isAt (p := p) h1 h2 h5 hM hl hh (by omega) ⟨fun z => ⟨inR_b (by omega) (by omega), inR_b (by omega) (by omega), ?_⟩, fun z => ⟨inR_b (by omega) (by omega), inR_b (by omega) (by omega), ?_⟩⟩⟩
    · unfold inr1 at z
      have w : ¬ (lo ≤ ixr x p ∧ ixr x p < hi) := fun w => by rw [if_pos w] at z; exact absurd z (by decide)
      rw [if_neg (fun y : (lo ≤ ixr x p ∧ ixr x p < hi) ∧ _ => w y.1)] at ih
      exact ih
    · unfold inr1 at z
      have w : lo ≤ ixr x p ∧ ixr x p < hi := by
        by_cases w : lo ≤ ixr x p ∧ ixr x p < hi
        · exact w
        · rw [if_neg w] at z; exact absurd rfl z
      rw [if_pos (show (lo ≤ ixr x p ∧ ixr x p < hi) ∧ ixo x p = e from ⟨w, ho⟩)] at ih
      exact ih
theorem b_times {A : iz_A} {I : iz_A → Prop} {v : Int} {x : Ix} (hx : HdAt x A) (hI0 : I A) (hI : XM x A → ∀ C, fr [19] A C → I C) : Bo 133 199 [.inl v] [.inl v] A I := by
  rcases doc_casesx v hx with ⟨e, hx, ⟨p, len, lo, hi, dn, g, hl, hd, hX, hM, hp, hq⟩, rfl, he⟩ | hn
  · obtain ⟨h1, h2, h3, h4, h5⟩ := id hx
    have gg := g.2
    have mb := h1.2.1
    refine Ci_mono (d := 5) (by decide) (e_X10_times (d := 4) (sX_hasDocK h4 he ⟨fun z => absurd z n10, fun _ => e_X1_placesIn (sX_countBy h1 h2 h4 hX (by omega) (by omega) fun B fB hB => ⟨⟨by omega, by omega⟩, _, rfl, _, rfl, ?_⟩)⟩)) (fun _ _ z => z)
    rw [tn, hB e (by omega)]
    have h5' : MI x B := MI_k (m := []) h5 fB (by decide) (ff_eq (fB.1 55 (by decide))) (by decide)
    exact Ci_mono (d := 3) (by decide) (e_X11_times (d := 2) (sM_isDocK h5' he ⟨fun z => absurd z n10, fun _ => sM_timesOf h1 h2 h5' (by unfold HdM; rw [fB.1 55 (by decide)]; exact hM) (by omega) (by omega) he ⟨_, rfl, rfl, hI hx B fB⟩⟩)) (fun _ _ z => z)
  · exact bo_bad (d := 2) (d' := 2) (by decide) (by decide) hI0 (fun P hP => e_X10_times (d := 1) (sX_hasDocN hn.1 ⟨fun _ => ⟨_, rfl, hP⟩, fun z => absurd rfl z⟩)) (fun P hP => e_X11_times (d := 1) (sM_isDocN hn.2 ⟨fun _ => ⟨_, rfl, hP⟩, fun z => absurd rfl z⟩))
/-- how many documents stand ahead -/
def ahd (T : Nat → Nat) (m d : Nat) : Nat := ct (fun e => T d < T e ∨ (T e = T d ∧ e < d)) m
/-- the k-th document by how often, from d on -/
def rnk (T : Nat → Nat) (M : Nat) (k : Int) : Nat → Nat → Int
  | _, 0 => -1
  | d, m + 1 => if 0 < T d ∧ k = (ahd T M d : Int) then (d : Int) else rnk T M k (d + 1) m
theorem rnk_s (T : Nat → Nat) (M : Nat) (k : Int) (d m : Nat) : rnk T M k d (m + 1) = if 0 < T d ∧ k = (ahd T M d : Int) then (d : Int) else rnk T M k (d + 1) m := rfl
theorem sX_ahead {d : Nat} {A : iz_A} {x : Ix} {T : Nat → Nat} {e : Nat} {P : Int → iz_A → Prop} (h1 : TxOk x) (h4 : XI x A) (hT : ∀ e, e < 40 → A.1 19 e = (T e : Int)) (he : e < ixm x) (hP : P (ahd T (ixm x) e : Int) A) : Ci (d + 1) 15 [.inr (.inl 17), .inl (e : Int)] A P := by
  have mb := h1.2.1
  refine e_X1_documentsAheadOf ?_
  refine dwl (P := fun r => Rn d mX1_documentsAheadOf (fun v A' => ∃ y, v = some (.inl y) ∧ P y A') 4 [some (.inr (.inl 17)), some (.inl (e : Int)), some (.inl (ahd T r e : Int)), some (.inl (r : Int))] [] A) (a := 0) (n := ixm x) ?_ (fun r _ hr ih => ?_) (Nat.zero_le _)
  · refine w_X1_documentsAheadOf_4 ?_
    rw [h4.2.1]
    exact ⟨fun _ => ⟨_, rfl, hP⟩, fun z => by omega⟩
  · have cl : ahd T r e ≤ r := ct_le _ _
    have es : ahd T (r + 1) e = ahd T r e + (if T e < T r ∨ (T r = T e ∧ r < e) then 1 else 0) := rfl
    rw [show ((r + 1 : Nat) : Int) = (r : Int) + 1 by omega, es] at ih
    refine w_X1_documentsAheadOf_4 ?_
    rw [h4.2.1, tn, tn, hT r (by omega), hT e (by omega)]
    refine ⟨fun z => by omega, fun _ => ⟨⟨by omega, by omega⟩, ⟨by omega, by omega⟩, fun z => ⟨inR_b (by omega) (by omega), inR_b (by omega) (by omega), ?_⟩, fun z => ⟨⟨by omega, by omega⟩, ⟨by omega, by omega⟩, fun z2 => ⟨inR_b (by omega) (by omega), ?_⟩, fun z2 => ⟨fun z3 => ⟨inR_b (by omega) (by omega), ?_⟩, fun z3 => ⟨inR_b (by omega) (by omega), inR_b (by omega) (by omega), ?_⟩⟩⟩⟩⟩
    · rw [if_pos (by omega)] at ih; exact ih
    · rw [if_neg (by omega)] at ih; exact ih
    · rw [if_neg (by omega)] at ih; exact ih
    · rw [if_pos (by omega)] at ih; exact ih
theorem sX_inOrder {d : Nat} {A : iz_A} {x : Ix} {dn p len lo hi : Nat} {k : Int} {P : Int → iz_A → Prop} (h1 : TxOk x) (h2 : PmOk x) (h4 : XI x A) (hX : HdX A dn p len lo hi) (hl : lo ≤ hi) (hh : hi ≤ ixn x) (hP : ∀ C, fr [19] A C → P (if k = -1 then (ct (fun e => 0 < Td x lo hi e) (ixm x) : Int) else rnk (Td x lo hi) (ixm x) k 0 (ixm x)) C) : Ci (d + 4) 14 [.inr (.inl 17), .inl k] A P := by
  have mb := h1.2.1
  refine e_X1_documentInOrder (sX_countBy h1 h2 h4 hX hl hh fun B f b => ?_)
  have h4' : XI x B := XI_k h4 f (by decide)
  have fin := hP B f
  have := dwl (P := fun r => (k ≠ -1 → rnk (Td x lo hi) (ixm x) k 0 (ixm x) = rnk (Td x lo hi) (ixm x) k r (ixm x - r)) → Rn (d + 3) mX1_documentInOrder (fun v A' => ∃ y, v = some (.inl y) ∧ P y A') 8 [some (.inr (.inl 17)), some (.inl k), some (.inl (ct (fun e => 0 < Td x lo hi e) r : Int)), some (.inl (r : Int))] [] B) (a := 0) (n := ixm x) ?_ (fun r _ hr ih => ?_) (Nat.zero_le _) (fun _ => rfl)
  · exact this
  · intro hs
    refine w_X1_documentInOrder_8 ?_
    rw [h4'.2.1]
    refine ⟨fun _ => ⟨fun z => ⟨_, rfl, ?_⟩, fun z => ⟨_, rfl, ?_⟩⟩, fun z => by omega⟩
    · rw [if_neg z, hs z, Nat.sub_self] at fin
      exact fin
    · rw [if_pos z] at fin
      exact fin
  · intro hs
    have cl := ct_le (fun e => 0 < Td x lo hi e) r
    rw [show ((r + 1 : Nat) : Int) = (r : Int) + 1 by omega, ct_s] at ih
    rw [show ixm x - r = (ixm x - (r + 1)) + 1 by omega, rnk_s] at hs
    refine w_X1_documentInOrder_8 ?_
    rw [h4'.2.1, tn, b r (by omega)]
    refine ⟨fun z => by omega, fun _ => ⟨⟨by omega, by omega⟩, fun z => ⟨inR_b (by omega) (by omega), ?_⟩, fun z => sX_ahead h1 h4' b hr ⟨fun z2 => ⟨inR_b (by omega) (by omega), inR_b (by omega) (by omega), ?_⟩, fun z2 => ⟨_, rfl, ?_⟩⟩⟩⟩
    · rw [if_neg (show ¬ 0 < Td x lo hi r by omega)] at ih
      exact ih (fun z3 => by rw [hs z3, if_neg (fun y => by omega)])
    · rw [if_pos (show 0 < Td x lo hi r by omega)] at ih
      exact ih (fun z3 => by rw [hs z3, if_neg (fun y => z2 y.2)])
    · have : k ≠ -1 := (by omega)
      rw [if_neg this, hs this, if_pos ⟨(by omega), z2⟩] at fin
      exact fin
theorem sM_ranked {d : Nat} {A : iz_A} {x : Ix} {dn len lo hi : Nat} {k : Int} {P : Int → iz_A → Prop} (h1 : TxOk x) (h2 : PmOk x) (h5 : MI x A) (hM : HdM A dn len lo hi) (hl : lo ≤ hi) (hh : hi ≤ ixn x) (hk : -1 ≤ k) (hP : ∀ C, fr [68] A C → P (if k = -1 then (ct (fun e => 0 < Td x lo hi e) (ixm x) : Int) else rnk (Td x lo hi) (ixm x) k 0 (ixm x)) C) : Ci (d + 3) 198 [.inr (.inl 55), .inl k] A P := by
  have mb := h1.2.1
  refine e_X11_ranked ⟨fun z => absurd z (by rw [h5.1]; decide), fun _ => ⟨fun _ => ?_, fun z => by omega⟩⟩
  refine dwl (P := fun r => ∀ B, fr [68] A B → (∀ e, e < r → B.1 68 e = (Td x lo hi e : Int)) → Rn (d + 2) mX11_ranked (fun v A' => ∃ y, v = some (.inl y) ∧ P y A') 18 [some (.inr (.inl 55)), some (.inl k), some (.inl (ct (fun e => 0 < Td x lo hi e) r : Int)), some (.inl (r : Int)), none, none] [] B) (a := 0) (n := ixm x) ?_ (fun r _ hr ih => ?_) (Nat.zero_le _) A (fr_mo (fr_rf A) (by decide)) (fun e he => by omega)
  · intro B f b
    have h5' : MI x B := MI_k (m := []) h5 f (by decide) (ff_eq (f.1 55 (by decide))) (by decide)
    have fin := hP B f
    refine w_X11_ranked_18 ?_
    rw [h5'.2.2.1]
    refine ⟨fun _ => ⟨fun z => ?_, fun z => ⟨_, rfl, by rw [if_pos z] at fin; exact fin⟩⟩, fun z => by omega⟩
    rw [if_neg z] at fin
    generalize (ct (fun e => 0 < Td x lo hi e) (ixm x) : Int) = al
    refine dwl (P := fun r => rnk (Td x lo hi) (ixm x) k 0 (ixm x) = rnk (Td x lo hi) (ixm x) k r (ixm x - r) → Rn (d + 2) mX11_ranked (fun v A' => ∃ y, v = some (.inl y) ∧ P y A') 69 [some (.inr (.inl 55)), some (.inl k), some (.inl al), some (.inl (r : Int)), none, none] [] B) (a := 0) (n := ixm x) ?_ (fun r _ hr ih => ?_) (Nat.zero_le _) rfl
    · intro hs
      refine w_X11_ranked_69 ?_
      rw [h5'.2.2.1]
      refine ⟨fun _ => ⟨_, rfl, ?_⟩, fun z => by omega⟩
      rw [hs, Nat.sub_self] at fin
      exact fin
    · intro hs
      rw [show ((r + 1 : Nat) : Int) = (r : Int) + 1 by omega] at ih
      rw [show ixm x - r = (ixm x - (r + 1)) + 1 by omega, rnk_s] at hs
      refine w_X11_ranked_69 ?_
      rw [h5'.2.2.1]
      refine ⟨fun z => by omega, fun _ => ?_⟩
      refine dwl (P := fun q => Rn (d + 2) mX11_ranked (fun v A' => ∃ y, v = some (.inl y) ∧ P y A') 83 [some (.inr (.inl 55)), some (.inl k), some (.inl al), some (.inl (r : Int)), some (.inl (ahd (Td x lo hi) q r : Int)), some (.inl (q : Int))] [] B) (a := 0) (n := ixm x) ?_ (fun q _ hq ihq => ?_) (Nat.zero_le _)
      · refine w_X11_ranked_83 ?_
        rw [h5'.2.2.1, tn, b r hr]
        refine ⟨fun _ => ⟨⟨by omega, by omega⟩, fun z1 => ⟨inR_b (by omega) (by omega), ih (by rw [hs, if_neg (fun y => by omega)])⟩, fun z1 => ⟨fun z2 => ⟨inR_b (by omega) (by omega), ih (by rw [hs, if_neg (fun y => z2 y.2.symm)])⟩, fun z2 => ⟨_, rfl, ?_⟩⟩⟩, fun z => by omega⟩
        rw [hs, if_pos ⟨(by omega), z2.symm⟩] at fin
        exact fin
      · have cl : ahd (Td x lo hi) q r ≤ q := ct_le _ _
        have es : ahd (Td x lo hi) (q + 1) r = ahd (Td x lo hi) q r + (if Td x lo hi r < Td x lo hi q ∨ (Td x lo hi q = Td x lo hi r ∧ q < r) then 1 else 0) := rfl
        rw [show ((q + 1 : Nat) : Int) = (q : Int) + 1 by omega, es] at ihq
        refine w_X11_ranked_83 ?_
        rw [h5'.2.2.1, tn, tn, b r hr, b q hq]
        refine ⟨fun z => by omega, fun _ => ⟨⟨by omega, by omega⟩, ⟨by omega, by omega⟩, fun z => ⟨inR_b (by omega) (by omega), inR_b (by omega) (by omega), ?_⟩, fun z => ⟨⟨by omega, by omega⟩, ⟨by omega, by omega⟩, fun z2 => ⟨inR_b (by omega) (by omega), inR_b (by omega) (by omega), ?_⟩, fun z2 => ⟨fun z3 => ⟨inR_b (by omega) (by omega), inR_b (by omega) (by omega), ?_⟩, fun z3 => ⟨inR_b (by omega) (by omega), inR_b (by omega) (by omega), ?_⟩⟩⟩⟩⟩
        · rw [if_pos (by omega)] at ihq; exact ihq
        · rw [if_neg (by omega)] at ihq; exact ihq
        · rw [if_neg (by omega)] at ihq; exact ihq
        · rw [if_pos (by omega)] at ihq; exact ihq
  · intro B f b
    have h5' : MI x B := MI_k (m := []) h5 f (by decide) (ff_eq (f.1 55 (by decide))) (by decide)
    have cl := ct_le (fun e => 0 < Td x lo hi e) r
    rw [show ((r + 1 : Nat) : Int) = (r : Int) + 1 by omega, ct_s] at ih
    refine w_X11_ranked_18 ?_
    rw [h5'.2.2.1]
    refine ⟨fun z => by omega, fun _ => sM_timesOf h1 h2 h5' (by unfold HdM; rw [f.1 55 (by decide)]; exact hM) hl hh hr ?_⟩
    rw [tn, uz_at]
    have nx : ∀ e, e < r + 1 → (iz_pI B 68 (uz (B.1 68) r (Td x lo hi r : Int))).1 68 e = (Td x lo hi e : Int) := fun e he => by
      show uz (B.1 68) r _ e = _
      by_cases w : e = r
      · rw [w, uz_at]
      · rw [uz_ne _ _ w, b e (by omega)]
    refine ⟨⟨by omega, by omega⟩, ⟨by omega, by omega⟩, fun z => ⟨inR_b (by omega) (by omega), inR_b (by omega) (by omega), ?_⟩, fun z => ⟨inR_b (by omega) (by omega), inR_b (by omega) (by omega), ?_⟩⟩
    · rw [if_neg (show ¬ 0 < Td x lo hi r by omega)] at ih
      exact ih _ (fr_pI f (by decide)) nx
    · rw [if_pos (show 0 < Td x lo hi r by omega)] at ih
      exact ih _ (fr_pI f (by decide)) nx
theorem rnk_neg (T : Nat → Nat) (M : Nat) (k : Int) (hk : k < 0) : ∀ m d, rnk T M k d m = -1 := by
  intro m
  induction m with
  | zero => intro d; rfl
  | succ m ih => intro d; rw [rnk_s, if_neg (fun z => by omega), ih]
theorem b_ranked {A : iz_A} {I : iz_A → Prop} {k : Int} {x : Ix} (hx : HdAt x A) (hI0 : I A) (hI : XM x A → ∀ C, fr [19, 68] A C → I C) : Bo 132 198 [.inl k] [.inl k] A I := by
  rcases hx with hn | ⟨hx, p, len, lo, hi, dn, g, hl, hd, hX, hM, hp, hq⟩
  · exact bo_bad (d := 1) (d' := 1) (by decide) (by decide) hI0 (fun P hP => e_X10_ranked (d := 0) ⟨fun _ => ⟨_, rfl, hP⟩, fun z => absurd (by rw [hn.1]; decide) z⟩) (fun P hP => e_X11_ranked (d := 0) ⟨fun _ => ⟨_, rfl, hP⟩, fun z => absurd hn.2.2.1 z⟩)
  · obtain ⟨h1, h2, h3, h4, h5⟩ := id hx
    have gg := g.2
    have np := n_pos h1
    refine Ci_mono (d := 5) (by decide) (e_X10_ranked (d := 4) ⟨fun z => by rw [h4.1] at z; omega, fun _ => sX_inOrder h1 h2 h4 hX (by omega) (by omega) fun B fB => ⟨_, rfl, ?_⟩⟩) (fun _ _ z => z)
    have h5' : MI x B := MI_k (m := []) h5 fB (by decide) (ff_eq (fB.1 55 (by decide))) (by decide)
    by_cases hk : -1 ≤ k
    · exact Ci_mono (d := 3) (by decide) (sM_ranked (d := 0) (P := fun x2 A2 => _ = x2 ∧ I A2) h1 h2 h5' (by unfold HdM; rw [fB.1 55 (by decide)]; exact hM) (by omega) (by omega) hk fun C fC => ⟨rfl, hI hx C (fr_mo (fr_tr fB fC) (by decide))⟩) (fun _ _ z => z)
    · rw [if_neg (by omega), rnk_neg _ _ _ (by omega)]
      exact Ci_mono (d := 1) (by decide) (e_X11_ranked (d := 0) ⟨fun _ => ⟨_, rfl, rfl, hI hx B (fr_mo fB (by decide))⟩, fun _ => ⟨fun z => by omega, fun _ => ⟨_, rfl, rfl, hI hx B (fr_mo fB (by decide))⟩⟩⟩) (fun _ _ z => z)
