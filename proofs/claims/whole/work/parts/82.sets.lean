theorem up_at (f : Nat → Int64) (j : Nat) (x : Int64) : vp_updL f j x j = x := by
  unfold vp_updL
  exact if_pos rfl
theorem up_ne (f : Nat → Int64) {i j : Nat} (x : Int64) (h : i ≠ j) : vp_updL f j x i = f i := by
  unfold vp_updL
  exact if_neg h
theorem pL_at (A : iz_A) (q : Nat) (f : Nat → Int64) : (iz_pL A q f).2 q = f := if_pos rfl
/-- the class's set of item i has this byte -/
def mb (A : iz_A) (i c : Nat) : Prop := tb (A.2 29 (4 * i + c / 64)) (c % 64) = true
theorem sX_addBytes {d i : Nat} {A : iz_A} {a b : Int} {P : iz_A → Prop} (hi : i < 200) (ha : 0 ≤ a) (hb : b ≤ 255) (hP : ∀ C, fr [29] A C → (∀ c : Nat, c < 256 → (mb C i c ↔ mb A i c ∨ (a ≤ (c : Int) ∧ (c : Int) ≤ b))) → (∀ q, (q < 4 * i ∨ 4 * i + 4 ≤ q) → C.2 29 q = A.2 29 q) → P C) : Cv (d + 1) 73 [.inr (.inl 23), .inl (i : Int), .inl a, .inl b] A P := by
  refine e_X6_addBytes ?_
  by_cases hab : b < a
  · exact w_X6_addBytes_3 ⟨fun _ => ⟨rfl, hP A (fr_mo (fr_rf A) (by decide)) (fun c _ => ⟨Or.inl, fun y => y.elim id (fun w => by omega)⟩) (fun _ _ => rfl)⟩, fun z => absurd hab z⟩
  obtain ⟨an, ea⟩ : ∃ an : Nat, a = (an : Int) := ⟨a.toNat, (by omega)⟩
  obtain ⟨bn, eb⟩ : ∃ bn : Nat, b = (bn : Int) := ⟨b.toNat, (by omega)⟩
  subst ea eb
  refine dwl (P := fun c => ∀ B, fr [29] A B → (∀ k : Nat, k < 256 → (mb B i k ↔ mb A i k ∨ (an ≤ k ∧ k < c))) → (∀ q, (q < 4 * i ∨ 4 * i + 4 ≤ q) → B.2 29 q = A.2 29 q) → Rn d mX6_addBytes (fun v A' => v = none ∧ P A') 3 [some (.inr (.inl 23)), some (.inl ((i : Int))), some (.inl ((an : Int))), some (.inl ((bn : Int))), some (.inl ((c : Int)))] [] B) (a := an) (n := bn + 1) ?_ (fun c ca hc ih => ?_) (by omega) A (fr_mo (fr_rf A) (by decide)) (fun k _ => ⟨Or.inl, fun y => y.elim id (fun w => by omega)⟩) (fun _ _ => rfl)
  · intro B f b1 b2
    refine w_X6_addBytes_3 ⟨fun _ => ⟨rfl, hP B f (fun k hk => ?_) b2⟩, fun z => by omega⟩
    rw [b1 k hk]
    exact ⟨fun y => y.elim Or.inl (fun w => Or.inr (by omega)), fun y => y.elim Or.inl (fun w => Or.inr (by omega))⟩
  · intro B f b1 b2
    have s6 := sh6 ⟨c, (by omega)⟩
    refine w_X6_addBytes_3 ?_
    rw [s6.1, s6.2, show ((i : Int) * 4 + ((c / 64 : Nat) : Int)).toNat = 4 * i + c / 64 by omega]
    rw [show ((c + 1 : Nat) : Int) = (c : Int) + 1 by omega] at ih
    refine ⟨fun z => by omega, fun _ => ⟨inR_b (by omega) (by omega), inR_b (by omega) (by omega), ⟨by omega, by omega⟩, ⟨by omega, by omega⟩, inR_b (by omega) (by omega), ih _ (fr_pL f (by decide)) (fun k hk => ?_) (fun q hq => ?_)⟩⟩
    · unfold mb
      rw [pL_at]
      by_cases y : 4 * i + k / 64 = 4 * i + c / 64
      · rw [y, up_at, tb_or]
        have t1 := tb_one ⟨c % 64, (by omega)⟩ ⟨k % 64, (by omega)⟩
        show (tb (B.2 29 (4 * i + c / 64)) (k % 64) || tb (1 <<< ((iv ((c % 64 : Nat) : Int)).toInt64 &&& 63)) (k % 64)) = true ↔ _
        rw [t1, ← y]
        have b1k := b1 k hk
        unfold mb at b1k
        rw [Bool.or_eq_true, b1k, decide_eq_true_iff]
        constructor
        · rintro ((w | w) | w)
          · exact Or.inl w
          · exact Or.inr (by omega)
          · have := congrArg Fin.val w
            exact Or.inr (by simp only at this; omega)
        · rintro (w | w)
          · exact Or.inl (Or.inl w)
          · by_cases e : k = c
            · exact Or.inr (Fin.ext (by show k % 64 = c % 64; rw [e]))
            · exact Or.inl (Or.inr (by omega))
      · rw [up_ne _ _ y]
        have b1k := b1 k hk
        unfold mb at b1k
        rw [b1k]
        exact ⟨fun z => z.elim Or.inl (fun w => Or.inr (by omega)), fun z => z.elim Or.inl (fun w => Or.inr (by
          have : k ≠ c := fun e => y (by rw [e])
          omega))⟩
    · rw [pL_at, up_ne _ _ (by omega)]
      exact b2 q hq
