theorem sX_absent {d : Nat} {A : iz_A} {x : Ix} {m : Nat} {P : Int → iz_A → Prop} (h1 : TxOk x) (h2 : PmOk x) (h3 : SoOk x) (h4 : XI x A) (hm : ((m + 2 : Nat) : Int) < 2147483648) (hP : ∀ C, fr [47] A C → P ((ptl x m (ixn x) : Int) - (sm (dfn x ((m + 2 : Nat) : Int)) (ixn x) : Int)) C) : Ci (d + 6) 93 [.inr (.inl 44), .inl ((m + 2 : Nat) : Int)] A P := by
  have nb := h1.2.2.1
  refine e_X7_howManyAbsent ⟨inR_b (by omega) (by omega), s_all47 fun A1 f1 c1 => ?_⟩
  rw [show ((m + 2 : Nat) : Int) - 2 = (m : Int) by omega]
  have main := dwl (P := fun r => ∀ B, fr [47] A B → (∀ c : Nat, c < 256 → B.1 47 c ≤ ((stc x m r).1 : Int) ∧ (B.1 47 c = ((stc x m r).1 : Int) ↔ ∃ k, (stc x m r).1 ≤ k ∧ k < r ∧ m ≤ lft x (ixs x k) ∧ bef x k = (c : Int))) → Rn (d + 5) mX7_howManyAbsent (fun v A' => ∃ y, v = some (.inl y) ∧ P y A') 27 [some (.inr (.inl 44)), some (.inl (((m + 2 : Nat) : Int))), some (.inl ((m : Int))), some (.inl (((stc x m r).1 : Int))), some (.inl (((stc x m r).2.1 : Int))), some (.inl (((stc x m r).2.2.1 : Int))), some (.inl (((stc x m r).2.2.2 : Int))), some (.inl ((r : Int))), none] [] B) (a := 0) (n := ixn x) ?_ (fun r _ hr ih => ?_) (Nat.zero_le _) A1 f1 (fun c hc => ?_)
  · exact main
  · intro B f hB
    have h4' : XI x B := XI_k h4 f (by decide)
    have pb := ptl_bd x m nb
    have db := dfn_bd h1 h2 (v := ((m + 2 : Nat) : Int)) (Nat.le_refl (ixn x))
    have pe : ((stc x m (ixn x)).2.2.2 : Int) + ((stc x m (ixn x)).2.1 : Int) * ((stc x m (ixn x)).2.2.1 : Int) = (ptl x m (ixn x) : Int) := by
      unfold ptl
      rw [Int.natCast_add, Int.natCast_mul]
    refine w_X7_howManyAbsent_27 ?_
    rw [pe, h4'.1, show ((stc x m (ixn x)).2.1 : Int) * ((stc x m (ixn x)).2.2.1 : Int) = (((stc x m (ixn x)).2.1 * (stc x m (ixn x)).2.2.1 : Nat) : Int) from (Int.natCast_mul _ _).symm]
    exact ⟨fun _ => ⟨inR_b (by omega) (by omega), inR_b (by omega) (by omega), sX_howMany h1 h2 h3 h4' ⟨inR_b (by omega) (by omega), _, rfl, hP B f⟩⟩, fun z => by omega⟩
  · intro B0 f0 hB
    have pb := ptl_bd x m (show r ≤ 3000 by omega)
    obtain ⟨a1, a2, a3, a4, a5, a6, a7⟩ := stc_ok x m r
    have cl := c_le h1 h2 h3 hr
    have lb := lft_bd h1 (h2.1 r hr).1
    have mid : ∀ F a b p : Nat, F ≤ r → a ≤ 3000 → b ≤ 3000 → (F = 0 ∨ ixc x F < m) → (∀ j, F < j → j ≤ r → m ≤ ixc x j) → stc x m (r + 1) = (F, a + onc (NFr x m r), b + onc (NBr x m r), p) → (∀ c : Nat, c < 256 → B0.1 47 c ≤ (F : Int) ∧ (B0.1 47 c = (F : Int) ↔ ∃ k, F ≤ k ∧ k < r ∧ m ≤ lft x (ixs x k) ∧ bef x k = (c : Int))) → Rn (d + 5) mX7_howManyAbsent (fun v A' => ∃ y, v = some (.inl y) ∧ P y A') 72 [some (.inr (.inl 44)), some (.inl (((m + 2 : Nat) : Int))), some (.inl ((m : Int))), some (.inl ((F : Int))), some (.inl ((a : Int))), some (.inl ((b : Int))), some (.inl ((p : Int))), some (.inl ((r : Int))), none] [] B0 := by
      intro F a b p F1 ab bb F0 Fj es hF
      have h4' : XI x B0 := XI_k h4 f0 (by decide)
      rw [es, show ((r + 1 : Nat) : Int) = (r : Int) + 1 by omega] at ih
      have nbi := nb_iff h3 (m := m) hr
      -- the byte behind, and on
      have tail : ∀ B (a' : Nat) (v8 : Int), fr [47] A B → a' = a + onc (NFr x m r) → m ≤ lft x (ixs x r) → (∀ c : Nat, c < 256 → B.1 47 c ≤ (F : Int) ∧ (B.1 47 c = (F : Int) ↔ ∃ k, F ≤ k ∧ k < r + 1 ∧ m ≤ lft x (ixs x k) ∧ bef x k = (c : Int))) → Rn (d + 5) mX7_howManyAbsent (fun v A' => ∃ y, v = some (.inl y) ∧ P y A') 121 [some (.inr (.inl 44)), some (.inl (((m + 2 : Nat) : Int))), some (.inl ((m : Int))), some (.inl ((F : Int))), some (.inl ((a' : Int))), some (.inl ((b : Int))), some (.inl ((p : Int))), some (.inl ((r : Int))), some (.inl v8)] [] B := by
        intro B a' v8 f ea hl hc
        have h4b : XI x B := XI_k h4 f (by decide)
        have nx := ih B f hc
        rw [← ea] at nx
        refine w_X7_howManyAbsent_121 ?_
        rw [tn, (h4b.2.2.2.2 r hr).2.1]
        refine ⟨⟨by omega, by omega⟩, fun z => w_X7_howManyAbsent_148 ⟨inR_b (by omega) (by omega), ?_⟩, fun z => sX_len h1 h2 h4b hr ⟨fun z2 => w_X7_howManyAbsent_148 ⟨inR_b (by omega) (by omega), ?_⟩, fun z2 => ⟨inR_b (by omega) (by omega), w_X7_howManyAbsent_148 ⟨inR_b (by omega) (by omega), ?_⟩⟩⟩⟩
        · rw [onc_0 (fun y => by have := (nbi.1 y).1; omega), Nat.add_zero] at nx
          exact nx
        · rw [onc_0 (fun y => by have := (nbi.1 y).2; omega), Nat.add_zero] at nx
          exact nx
        · rw [onc_1 (nbi.2 (by omega))] at nx
          exact nx
      have same : ¬ NFr x m r → (∀ c : Nat, c < 256 → bef x r = (c : Int) → B0.1 47 c = (F : Int)) → ∀ c : Nat, c < 256 → B0.1 47 c ≤ (F : Int) ∧ (B0.1 47 c = (F : Int) ↔ ∃ k, F ≤ k ∧ k < r + 1 ∧ m ≤ lft x (ixs x k) ∧ bef x k = (c : Int)) := fun _ hs c hc => ⟨(hF c hc).1, fun y => by
        obtain ⟨k, k1, k2, k3⟩ := (hF c hc).2.1 y
        exact ⟨k, k1, (by omega), k3⟩, fun ⟨k, k1, k2, k3, k4⟩ => by
        by_cases w : k = r
        · exact hs c hc (by rw [← w]; exact k4)
        · exact (hF c hc).2.2 ⟨k, k1, (by omega), k3, k4⟩⟩
      refine w_X7_howManyAbsent_72 (sX_len h1 h2 h4' hr ⟨fun z => ?_, fun z => ?_⟩)
      · have hFr : F = r := by
          by_cases y : F = r
          · exact y
          · have := Fj r (by omega) (Nat.le_refl _)
            omega
        have nx := ih B0 f0 (fun c hc => ⟨(hF c hc).1, fun y => by
          obtain ⟨k, k1, k2, k3⟩ := (hF c hc).2.1 y
          exact ⟨k, k1, (by omega), k3⟩, fun ⟨k, k1, k2, k3, k4⟩ => by
          by_cases w : k = r
          · rw [w] at k3; omega
          · exact (hF c hc).2.2 ⟨k, k1, (by omega), k3, k4⟩⟩)
        rw [onc_0 (fun y : NFr x m r => by have := y.1; omega), onc_0 (fun y : NBr x m r => by have := y.1; omega), Nat.add_zero, Nat.add_zero] at nx
        exact w_X7_howManyAbsent_148 ⟨inR_b (by omega) (by omega), nx⟩
      · rw [tn, (h4'.2.2.2.2 r hr).2.2]
        refine ⟨⟨by omega, by omega⟩, fun z2 => ?_, fun z2 => ?_⟩
        · have nf : ¬ NFr x m r := fun y => by
            have := bef_lt h1 h2 hr
            have := y.2.1
            omega
          exact tail B0 a _ f0 (by rw [onc_0 nf]; rfl) (by omega) (same nf (fun c hc y => by omega))
        · have bl := bef_lt h1 h2 hr
          obtain ⟨c, ec⟩ : ∃ c : Nat, bef x r = (c : Int) := ⟨(bef x r).toNat, (by omega)⟩
          rw [ec, tn]
          have ra := fun k (hk : k < r) => run_al h3 (m := m) (f := F) hr F0 Fj F1 hk
          refine ⟨⟨by omega, by omega⟩, fun z3 => ?_, fun z3 => ⟨⟨by omega, by omega⟩, inR_b (by omega) (by omega), ?_⟩⟩
          · have nf : ¬ NFr x m r := fun y => by
              obtain ⟨k, k1, k2, k3, k4⟩ := (hF c (by omega)).2.1 z3
              exact y.2.2 k k2 ((ra k k2).2 k1) (by rw [k4, ec])
            exact tail B0 a _ f0 (by rw [onc_0 nf]; rfl) (by omega) (same nf (fun c' hc' y => by rw [show c' = c by omega]; exact z3))
          · have nf : NFr x m r := ⟨(by omega), (by omega), fun k hk al eb => z3 ((hF c (by omega)).2.2 ⟨k, (ra k hk).1 al, hk, ?_, by rw [eb, ec]⟩)⟩
            · have := tail (iz_pI B0 47 (uz (B0.1 47) c (F : Int))) (a + 1) (c : Int) (fr_pI f0 (by decide)) (by rw [onc_1 nf]) (by omega) (fun c' hc' => by
                show uz (B0.1 47) c _ c' ≤ _ ∧ (uz (B0.1 47) c _ c' = _ ↔ _)
                by_cases w : c' = c
                · rw [w, uz_at]
                  exact ⟨Int.le_refl _, fun _ => ⟨r, F1, (by omega), (by omega), ec⟩, fun _ => rfl⟩
                · rw [uz_ne _ _ w]
                  refine ⟨(hF c' hc').1, fun y => ?_, fun ⟨k, k1, k2, k3, k4⟩ => ?_⟩
                  · obtain ⟨k, k1, k2, k3⟩ := (hF c' hc').2.1 y
                    exact ⟨k, k1, (by omega), k3⟩
                  · by_cases w2 : k = r
                    · rw [w2, ec] at k4; omega
                    · exact (hF c' hc').2.2 ⟨k, k1, (by omega), k3, k4⟩)
              exact this
            · -- a row before in the run has as many bytes
              have := (ra k hk).1 al
              exact al_lft h1 (h2.1 r hr).1 (h2.1 k (by omega)).1 (al_sy al) (by omega)
    refine w_X7_howManyAbsent_27 ?_
    rw [f0.1 5 (by decide), h4.1, tn, f0.1 11 (by decide), (h4.2.2.2.2 r hr).2.1]
    refine ⟨fun z => by omega, fun _ => ⟨⟨by omega, by omega⟩, fun z => ?_, fun z => ?_⟩⟩
    · refine mid _ _ _ _ a1 (by omega) (by omega) a4 (fun j j1 j2 => ?_) (by rw [stc_s, if_neg (by omega)]) hB
      by_cases y : j = r
      · rw [y]; omega
      · exact a3 j j1 (by omega)
    · have pe : ((stc x m r).2.2.2 : Int) + ((stc x m r).2.1 : Int) * ((stc x m r).2.2.1 : Int) = (ptl x m r : Int) := by
        unfold ptl
        rw [Int.natCast_add, Int.natCast_mul]
      rw [pe, show ((stc x m r).2.1 : Int) * ((stc x m r).2.2.1 : Int) = (((stc x m r).2.1 * (stc x m r).2.2.1 : Nat) : Int) from (Int.natCast_mul _ _).symm]
      refine ⟨inR_b (by omega) (by omega), inR_b (by omega) (by omega), mid r 0 0 (ptl x m r) (Nat.le_refl _) (by omega) (by omega) (Or.inr (by omega)) (fun j j1 j2 => by omega) (by rw [stc_s, if_pos (by omega), Nat.zero_add, Nat.zero_add]; rfl) (fun c hc => ?_)⟩
      have k1 := hB c hc
      have ne : B0.1 47 c ≠ (r : Int) := by
        by_cases y : r = 0
        · have e0 : (stc x m r).1 = 0 := (by omega)
          intro w
          obtain ⟨k, -, k2, -⟩ := k1.2.1 (by rw [w, e0, y])
          omega
        · have := a2 (by omega)
          omega
      exact ⟨(by omega), fun w => absurd w ne, fun ⟨k, k1, k2, _⟩ => by omega⟩
  · rw [c1 c hc]
    have e : (stc x m 0).1 = 0 := rfl
    rw [e]
    exact ⟨by decide, fun w => absurd w (by decide), fun ⟨k, _, k2, _⟩ => by omega⟩
