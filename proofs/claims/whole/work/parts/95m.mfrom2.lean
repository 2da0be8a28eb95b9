theorem sM_mfrom {x : Ix} {dd z am cm p f : Nat} {A : iz_A} {R : Rel} {P : iz_A → Prop} {ft : Nat → Int → Prop} (hx : TxOk x) (hM : MI x A) (hp : p < ixn x) (hz : A.1 55 55 = (z : Int)) (hzb : z ≤ 120) (ha : AtR am cm A) (hc : 2 * cm ≤ 200) (ham : am ≤ 200) (hft : ∀ i, i < am → ∀ c : Nat, c < 256 → (ft i (c : Int) ↔ fitA A i (c : Int))) (ge : GE (ixn x) (ixt x) (am, ft) 0 0 z R A) (h33 : A.1 55 33 = (f : Int)) (hf3 : f < 3000) (h0 : (∀ k, ¬ Mlen R p k) → P A) (h1 : ∀ a b : Nat, Mlen R p a → Mlen R p b → (∀ k, Mlen R p k → a ≤ k ∧ k ≤ b) → P (iz_pI (iz_pI (iz_pI (iz_pI A 74 (uz (A.1 74) f (p : Int))) 75 (uz (A.1 75) f (a : Int))) 76 (uz (A.1 76) f (b : Int))) 55 (uz (A.1 55) 33 ((f : Int) + 1)))) : Cv (dd + 2) 224 [.inr (.inl 55), .inl (p : Int)] A P := by
  obtain ⟨q1, q2, q3, q4⟩ := hx.2.2.2.2.2.2 p hp
  have n3 := hx.2.2.1
  have el : p + lft x p = ixF x (ixo x p) + ixl x (ixo x p) := by unfold lft; omega
  have eN := end_lt hx q1
  have own : ∀ k, k ≤ lft x p → ixo x (p + k) = ixo x p := fun k hk => own_of hx q1 (by omega) (by omega)
  have txt : ∀ k, k < lft x p → 0 ≤ ixt x (p + k) ∧ ixt x (p + k) < 256 := fun k hk => by
    have := (hx.2.2.2.2.2.2 (p + k) (by omega)).2.2.2.1
    rw [own k (by omega)] at this
    exact this (by omega)
  have tend : ixt x (p + lft x p) < 0 := by
    have := (hx.2.2.2.2.2.2 (p + lft x p) (by omega)).2.2.2.2
    rw [own _ (Nat.le_refl _)] at this
    have := this (by omega)
    have m40 := hx.2.1
    omega
  obtain ⟨ge1, ge2, ge3⟩ := ge
  -- the end
  have fin : ∀ (v2 v4 : Int64) (v6 v7 v9 : Int), ((v6 = 0 ∧ v7 = 0 ∧ ∀ j, ¬ Mlen R p j) ∨ ∃ a b : Nat, v6 = (a : Int) ∧ v7 = (b : Int) ∧ Mlen R p a ∧ Mlen R p b ∧ ∀ j, Mlen R p j → a ≤ j ∧ j ≤ b) → Rn (dd + 1) mX11_matchFrom (fun v A' => v = none ∧ P A') 273 [some (.inr (.inl 55)), some (.inl ((p : Int))), some (.inr (.inr v2)), none, some (.inr (.inr v4)), none, some (.inl v6), some (.inl v7), some (.inl ((lft x p : Int))), some (.inl v9), none, none, none, none, none, none, none, none, none, none, none] [] A := fun v2 v4 v6 v7 v9 h => by
    rcases h with ⟨e6, e7, h⟩ | ⟨a, b, rfl, rfl, ma, mb, h⟩
    · exact w_X11_matchFrom_273 ⟨fun _ => w_X11_matchFrom_320 ⟨rfl, h0 h⟩, fun w => by omega⟩
    · have := mb.1
      refine w_X11_matchFrom_273 ⟨fun w => by omega, fun _ => ?_⟩
      rw [h33, tn]
      exact ⟨⟨by omega, by omega⟩, ⟨by omega, by omega⟩, ⟨by omega, by omega⟩, inR_b (by omega) (by omega), w_X11_matchFrom_320 ⟨rfl, h1 a b ma mb h⟩⟩
  -- from k bytes on nothing comes
  have done : ∀ k, (∀ y, ¬ (Fw (okf (ixn x) (ixt x) (am, ft) A) (fG A) (b2 (A.2 91 0) (A.2 92 0)) p k y ∧ okf (ixn x) (ixt x) (am, ft) A y (p + k))) → ∀ v6 v7 : Int, ((v6 = 0 ∧ v7 = 0 ∧ ∀ j, j ≤ k → ¬ Mlen R p j) ∨ ∃ a b : Nat, v6 = (a : Int) ∧ v7 = (b : Int) ∧ Mlen R p a ∧ a ≤ k ∧ Mlen R p b ∧ ∀ j, j ≤ k → Mlen R p j → a ≤ j ∧ j ≤ b) → ((v6 = 0 ∧ v7 = 0 ∧ ∀ j, ¬ Mlen R p j) ∨ ∃ a b : Nat, v6 = (a : Int) ∧ v7 = (b : Int) ∧ Mlen R p a ∧ Mlen R p b ∧ ∀ j, Mlen R p j → a ≤ j ∧ j ≤ b) := fun k hn v6 v7 h => by
    have le : ∀ j, Mlen R p j → j ≤ k := fun j hj => Decidable.of_not_not fun c => by
      obtain ⟨i, rfl⟩ : ∃ i, j = k + i + 1 := ⟨j - k - 1, (by omega)⟩
      obtain ⟨y, f, o, -⟩ := (mt_fw ge3 p (k + i)).1 hj
      exact fw_none hn i y ⟨f, o⟩
    rcases h with ⟨e6, e7, h⟩ | ⟨a, b, e6, e7, ma, ak, mb, h⟩
    · exact Or.inl ⟨e6, e7, fun j hj => h j (le j hj) hj⟩
    · exact Or.inr ⟨a, b, e6, e7, ma, mb, fun j hj => h j (le j hj) hj⟩
  have loop : ∀ (v2 v4 : Int64) (v6 v7 : Int), (∀ y, b2 v2 v4 y ↔ Fw (okf (ixn x) (ixt x) (am, ft) A) (fG A) (b2 (A.2 91 0) (A.2 92 0)) p 0 y) → ((v6 = 0 ∧ v7 = 0 ∧ ∀ j, j ≤ 0 → ¬ Mlen R p j) ∨ ∃ a b : Nat, v6 = (a : Int) ∧ v7 = (b : Int) ∧ Mlen R p a ∧ a ≤ 0 ∧ Mlen R p b ∧ ∀ j, j ≤ 0 → Mlen R p j → a ≤ j ∧ j ≤ b) → Rn (dd + 1) mX11_matchFrom (fun v A' => v = none ∧ P A') 31 [some (.inr (.inl 55)), some (.inl ((p : Int))), some (.inr (.inr v2)), none, some (.inr (.inr v4)), none, some (.inl v6), some (.inl v7), some (.inl ((lft x p : Int))), some (.inl (((0 : Nat) : Int))), none, none, none, none, none, none, none, none, none, none, none] [] A := by
    refine dwl (P := fun k => ∀ (v2 v4 : Int64) (v6 v7 : Int), (∀ y, b2 v2 v4 y ↔ Fw (okf (ixn x) (ixt x) (am, ft) A) (fG A) (b2 (A.2 91 0) (A.2 92 0)) p k y) → ((v6 = 0 ∧ v7 = 0 ∧ ∀ j, j ≤ k → ¬ Mlen R p j) ∨ ∃ a b : Nat, v6 = (a : Int) ∧ v7 = (b : Int) ∧ Mlen R p a ∧ a ≤ k ∧ Mlen R p b ∧ ∀ j, j ≤ k → Mlen R p j → a ≤ j ∧ j ≤ b) → Rn (dd + 1) mX11_matchFrom (fun v A' => v = none ∧ P A') 31 [some (.inr (.inl 55)), some (.inl ((p : Int))), some (.inr (.inr v2)), none, some (.inr (.inr v4)), none, some (.inl v6), some (.inl v7), some (.inl ((lft x p : Int))), some (.inl ((k : Int))), none, none, none, none, none, none, none, none, none, none, none] [] A) (a := 0) (n := lft x p) ?_ (fun k _ hk ih => ?_) (Nat.zero_le _)
    · intro v2 v4 v6 v7 hv hl
      refine w_X11_matchFrom_31 ⟨fun _ => fin v2 v4 v6 v7 _ (done _ (fun y w => ?_) v6 v7 hl), fun w => absurd (Int.le_refl _) w⟩
      have := w.2.2.1
      omega
    · intro v2 v4 v6 v7 hv hl
      have tk := txt k hk
      refine w_X11_matchFrom_31 ⟨fun w => by omega, fun _ => ⟨fun w => ?_, fun w => ?_⟩⟩
      · rw [lcmp_b2] at w
        exact fin v2 v4 v6 v7 _ (done k (fun y u => w y ((hv y).2 u.1)) v6 v7 hl)
      · have e59 : A.1 59 ((p : Int) + (k : Int)).toNat = (((ixt x (p + k)).toNat : Nat) : Int) := by
          rw [show ((p : Int) + (k : Int)).toNat = p + k by omega, (hM.2.2.2.1 (p + k) (by omega)).1, if_neg (by omega)]
          omega
        rw [e59]
        refine ⟨inR_b (by omega) (by omega), ⟨by omega, by omega⟩, ?_⟩
        have okx : ∀ y, y < z → (okf (ixn x) (ixt x) (am, ft) A y (p + k) ↔ fitA A (A.1 87 y).toNat (((ixt x (p + k)).toNat : Nat) : Int)) := fun y hy => by
          have b87 := ge2 y (Nat.zero_le _) hy
          have b87' : A.1 87 y < (am : Int) := b87.2
          have w := hft (A.1 87 y).toNat (by have := b87.1; omega) (ixt x (p + k)).toNat (by omega)
          rw [← w]
          unfold okf
          rw [show (((ixt x (p + k)).toNat : Nat) : Int) = ixt x (p + k) by omega]
          exact ⟨fun u => u.2.2, fun u => ⟨(by omega), tk.1, u⟩⟩
        refine sM_inner (am := am) (cm := cm) hz hzb ha hc ham (fun y hy => ge2 y (Nat.zero_le _) hy) (by omega) (fun v11 v13 v15 v17 hs hn => ?_)
        have hit : (∃ y, b2 v11 v13 y ∧ b2 (A.2 93 0) (A.2 94 0) y) ↔ Mlen R p (k + 1) := by
          rw [mt_fw ge3 p k]
          constructor
          · rintro ⟨y, u, l⟩
            obtain ⟨u1, u2, u3⟩ := (hs y).1 u
            exact ⟨y, (hv y).1 u2, (okx y u1).2 u3, l⟩
          · rintro ⟨y, u, o, l⟩
            have c := fw_in ge3 p k y u
            exact ⟨y, (hs y).2 ⟨c.2, (hv y).2 u, (okx y c.2).1 o⟩, l⟩
        have nxt : ∀ y, b2 v15 v17 y ↔ Fw (okf (ixn x) (ixt x) (am, ft) A) (fG A) (b2 (A.2 91 0) (A.2 92 0)) p (k + 1) y := fun y => by
          rw [hn y]
          constructor
          · rintro ⟨u, u1, u2, u3, u4⟩
            exact ⟨u, (hv u).1 u2, (okx u u1).2 u3, u4⟩
          · rintro ⟨u, u1, u2, u3⟩
            have c := fw_in ge3 p k u u1
            exact ⟨u, c.2, (hv u).2 u1, (okx u c.2).1 u2, u3⟩
        have r260 : ∀ w6 w7 : Int, ((w6 = 0 ∧ w7 = 0 ∧ ∀ j, j ≤ k + 1 → ¬ Mlen R p j) ∨ ∃ a b : Nat, w6 = (a : Int) ∧ w7 = (b : Int) ∧ Mlen R p a ∧ a ≤ k + 1 ∧ Mlen R p b ∧ ∀ j, j ≤ k + 1 → Mlen R p j → a ≤ j ∧ j ≤ b) → Rn (dd + 1) mX11_matchFrom (fun v A' => v = none ∧ P A') 260 [some (.inr (.inl 55)), some (.inl ((p : Int))), some (.inr (.inr v2)), none, some (.inr (.inr v4)), none, some (.inl w6), some (.inl w7), some (.inl ((lft x p : Int))), some (.inl ((k : Int))), some (.inl ((((ixt x (p + k)).toNat : Nat) : Int))), some (.inr (.inr v11)), none, some (.inr (.inr v13)), none, some (.inr (.inr v15)), none, some (.inr (.inr v17)), none, some (.inl ((z : Int))), none] [] A := fun w6 w7 hw => by
          refine w_X11_matchFrom_260 ⟨inR_b (by omega) (by omega), ?_⟩
          rw [show (k : Int) + 1 = ((k + 1 : Nat) : Int) by omega]
          exact ih v15 v17 w6 w7 nxt hw
        refine w_X11_matchFrom_73 ⟨fun _ => ?_, fun w => by omega⟩
        rw [show (0 : Int).toNat = 0 from rfl, lcmp_b2]
        refine ⟨⟨by omega, by omega⟩, ⟨by omega, by omega⟩, fun e => r260 v6 v7 ?_, fun e => ?_⟩
        · have nm : ¬ Mlen R p (k + 1) := fun m => by
            obtain ⟨y, y1, y2⟩ := hit.2 m
            exact e y ((b2_and _ _ _ _ y).2 ⟨y1, y2⟩)
          have sp : ∀ j, j ≤ k + 1 → Mlen R p j → j ≤ k := fun j hj m => Decidable.of_not_not fun c => nm (by rw [show k + 1 = j by omega]; exact m)
          rcases hl with ⟨e6, e7, hl⟩ | ⟨a, b, e6, e7, ma, ak, mb, hl⟩
          · exact Or.inl ⟨e6, e7, fun j hj m => hl j (sp j hj m) m⟩
          · exact Or.inr ⟨a, b, e6, e7, ma, (by omega), mb, fun j hj m => hl j (sp j hj m) m⟩
        · have m : Mlen R p (k + 1) := by
            refine hit.1 (Classical.byContradiction fun c => e (fun y u => c ⟨y, (b2_and _ _ _ _ y).1 u⟩))
          have r254 : ∀ w6 : Int, (∃ a : Nat, w6 = (a : Int) ∧ Mlen R p a ∧ a ≤ k + 1 ∧ ∀ j, j ≤ k + 1 → Mlen R p j → a ≤ j) → Rn (dd + 1) mX11_matchFrom (fun v A' => v = none ∧ P A') 254 [some (.inr (.inl 55)), some (.inl ((p : Int))), some (.inr (.inr v2)), none, some (.inr (.inr v4)), none, some (.inl w6), some (.inl v7), some (.inl ((lft x p : Int))), some (.inl ((k : Int))), some (.inl ((((ixt x (p + k)).toNat : Nat) : Int))), some (.inr (.inr v11)), none, some (.inr (.inr v13)), none, some (.inr (.inr v15)), none, some (.inr (.inr v17)), none, some (.inl ((z : Int))), none] [] A := fun w6 ⟨a, e6, ma, ak, hw⟩ => by
            refine w_X11_matchFrom_254 ⟨inR_b (by omega) (by omega), r260 _ _ (Or.inr ⟨a, k + 1, e6, (by omega), ma, ak, m, fun j hj mj => ⟨hw j hj mj, hj⟩⟩)⟩
          refine ⟨fun c => r254 v6 ?_, fun c => ⟨inR_b (by omega) (by omega), r254 _ ?_⟩⟩
          · rcases hl with ⟨e6, e7, hl⟩ | ⟨a, b, e6, e7, ma, ak, mb, hl⟩
            · exact absurd e6 c
            · refine ⟨a, e6, ma, (by omega), fun j hj mj => ?_⟩
              by_cases cj : j ≤ k
              · exact (hl j cj mj).1
              · omega
          · rcases hl with ⟨e6, e7, hl⟩ | ⟨a, b, e6, e7, ma, ak, mb, hl⟩
            · exact ⟨k + 1, (by omega), m, Nat.le_refl _, fun j hj mj => Decidable.of_not_not fun cj => hl j (by omega) mj⟩
            · have := ma.1
              omega
  refine e_X11_matchFrom ⟨⟨by omega, by omega⟩, ⟨by omega, by omega⟩, sM_left hx hM hp ?_⟩
  refine loop _ _ 0 0 (fun y => Iff.rfl) (Or.inl ⟨rfl, rfl, fun j hj m => ?_⟩)
  have := m.1
  omega
