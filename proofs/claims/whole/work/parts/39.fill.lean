/-! ===== rows that are filled ===== -/
theorem s_fill7 {d : Nat} {A : iz_A} {a b : Nat} {v : Int} {P : iz_A → Prop} (h1 : a ≤ b) (h2 : b ≤ 3000) (hP : ∀ C, fr [7] A C → (∀ j, a ≤ j → j < b → C.1 7 j = v) → (∀ j, ¬ (a ≤ j ∧ j < b) → C.1 7 j = A.1 7 j) → P C) : Cv (d + 2) 252 [.inr (.inl 7), .inl (a : Int), .inl (b : Int), .inl v] A P := by
  refine e_J7_fill_fda19_7 (e_J7_rangeCheck_23922 ⟨fun _ => ⟨fun _ => ⟨fun _ => ⟨rfl, ?_⟩, fun z => by omega⟩, fun z => by omega⟩, fun z => by omega⟩)
  refine dwl (P := fun r => ∀ B, fr [7] A B → (∀ j, a ≤ j → j < r → B.1 7 j = v) → (∀ j, ¬ (a ≤ j ∧ j < r) → B.1 7 j = A.1 7 j) → Rn (d + 1) mJ7_fill_fda19 (fun v' A' => v' = none ∧ P A') 10 [some (.inr (.inl 7)), some (.inl (a : Int)), some (.inl (b : Int)), some (.inl v), some (.inl (r : Int))] [] B) (a := a) (n := b) ?_ (fun r ha hr ih => ?_) h1 A (fr_mo (fr_rf A) (by decide)) (fun j a b => by omega) (fun j _ => rfl)
  · intro B f b1 b2
    exact w_J7_fill_fda19_7_10 ⟨fun _ => ⟨rfl, hP B f b1 b2⟩, fun z => by omega⟩
  · intro B f b1 b2
    refine w_J7_fill_fda19_7_10 ⟨fun z => by omega, fun _ => ⟨⟨by omega, by omega⟩, inR_b (by omega) (by omega), ih _ (fr_pI f (by decide)) (fun j j1 j2 => ?_) (fun j hj => ?_)⟩⟩
    · show uz (B.1 7) ((r : Int)).toNat v j = _
      rw [tn]
      by_cases w : j = r
      · rw [w, uz_at]
      · rw [uz_ne _ _ w, b1 j j1 (by omega)]
    · show uz (B.1 7) ((r : Int)).toNat v j = _
      rw [tn, uz_ne _ _ (by omega), b2 j (by omega)]
theorem s_fill16 {d : Nat} {A : iz_A} {a b : Nat} {v : Int} {P : iz_A → Prop} (h1 : a ≤ b) (h2 : b ≤ 3001) (hP : ∀ C, fr [16] A C → (∀ j, a ≤ j → j < b → C.1 16 j = v) → (∀ j, ¬ (a ≤ j ∧ j < b) → C.1 16 j = A.1 16 j) → P C) : Cv (d + 2) 252 [.inr (.inl 16), .inl (a : Int), .inl (b : Int), .inl v] A P := by
  refine e_J7_fill_fda19_16 (e_J7_rangeCheck_23922 ⟨fun _ => ⟨fun _ => ⟨fun _ => ⟨rfl, ?_⟩, fun z => by omega⟩, fun z => by omega⟩, fun z => by omega⟩)
  refine dwl (P := fun r => ∀ B, fr [16] A B → (∀ j, a ≤ j → j < r → B.1 16 j = v) → (∀ j, ¬ (a ≤ j ∧ j < r) → B.1 16 j = A.1 16 j) → Rn (d + 1) mJ7_fill_fda19 (fun v' A' => v' = none ∧ P A') 10 [some (.inr (.inl 16)), some (.inl (a : Int)), some (.inl (b : Int)), some (.inl v), some (.inl (r : Int))] [] B) (a := a) (n := b) ?_ (fun r ha hr ih => ?_) h1 A (fr_mo (fr_rf A) (by decide)) (fun j a b => by omega) (fun j _ => rfl)
  · intro B f b1 b2
    exact w_J7_fill_fda19_16_10 ⟨fun _ => ⟨rfl, hP B f b1 b2⟩, fun z => by omega⟩
  · intro B f b1 b2
    refine w_J7_fill_fda19_16_10 ⟨fun z => by omega, fun _ => ⟨⟨by omega, by omega⟩, inR_b (by omega) (by omega), ih _ (fr_pI f (by decide)) (fun j j1 j2 => ?_) (fun j hj => ?_)⟩⟩
    · show uz (B.1 16) ((r : Int)).toNat v j = _
      rw [tn]
      by_cases w : j = r
      · rw [w, uz_at]
      · rw [uz_ne _ _ w, b1 j j1 (by omega)]
    · show uz (B.1 16) ((r : Int)).toNat v j = _
      rw [tn, uz_ne _ _ (by omega), b2 j (by omega)]
theorem s_fill19 {d : Nat} {A : iz_A} {a b : Nat} {v : Int} {P : iz_A → Prop} (h1 : a ≤ b) (h2 : b ≤ 256) (hP : ∀ C, fr [19] A C → (∀ j, a ≤ j → j < b → C.1 19 j = v) → (∀ j, ¬ (a ≤ j ∧ j < b) → C.1 19 j = A.1 19 j) → P C) : Cv (d + 2) 252 [.inr (.inl 19), .inl (a : Int), .inl (b : Int), .inl v] A P := by
  refine e_J7_fill_fda19_19 (e_J7_rangeCheck_23922 ⟨fun _ => ⟨fun _ => ⟨fun _ => ⟨rfl, ?_⟩, fun z => by omega⟩, fun z => by omega⟩, fun z => by omega⟩)
  refine dwl (P := fun r => ∀ B, fr [19] A B → (∀ j, a ≤ j → j < r → B.1 19 j = v) → (∀ j, ¬ (a ≤ j ∧ j < r) → B.1 19 j = A.1 19 j) → Rn (d + 1) mJ7_fill_fda19 (fun v' A' => v' = none ∧ P A') 10 [some (.inr (.inl 19)), some (.inl (a : Int)), some (.inl (b : Int)), some (.inl v), some (.inl (r : Int))] [] B) (a := a) (n := b) ?_ (fun r ha hr ih => ?_) h1 A (fr_mo (fr_rf A) (by decide)) (fun j a b => by omega) (fun j _ => rfl)
  · intro B f b1 b2
    exact w_J7_fill_fda19_19_10 ⟨fun _ => ⟨rfl, hP B f b1 b2⟩, fun z => by omega⟩
  · intro B f b1 b2
    refine w_J7_fill_fda19_19_10 ⟨fun z => by omega, fun _ => ⟨⟨by omega, by omega⟩, inR_b (by omega) (by omega), ih _ (fr_pI f (by decide)) (fun j j1 j2 => ?_) (fun j hj => ?_)⟩⟩
    · show uz (B.1 19) ((r : Int)).toNat v j = _
      rw [tn]
      by_cases w : j = r
      · rw [w, uz_at]
      · rw [uz_ne _ _ w, b1 j j1 (by omega)]
    · show uz (B.1 19) ((r : Int)).toNat v j = _
      rw [tn, uz_ne _ _ (by omega), b2 j (by omega)]
theorem s_all19 {d : Nat} {A : iz_A} {v : Int} {P : iz_A → Prop} (hP : ∀ C, fr [19] A C → (∀ j, j < 256 → C.1 19 j = v) → P C) : Cv (d + 1) 251 [.inr (.inl 19), .inl v] A P := by
  refine e_J7_fill_53178_19 ?_
  refine dwl (P := fun r => ∀ B, fr [19] A B → (∀ j, j < r → B.1 19 j = v) → Rn d mJ7_fill_53178 (fun v' A' => v' = none ∧ P A') 5 [some (.inr (.inl 19)), some (.inl v), some (.inl (r : Int)), some (.inl 256)] [] B) (a := 0) (n := 256) ?_ (fun r ha hr ih => ?_) (Nat.zero_le _) A (fr_mo (fr_rf A) (by decide)) (fun j a => by omega)
  · intro B f b1
    exact w_J7_fill_53178_19_5 ⟨fun _ => ⟨rfl, hP B f b1⟩, fun z => by omega⟩
  · intro B f b1
    refine w_J7_fill_53178_19_5 ⟨fun z => by omega, fun _ => ⟨⟨by omega, by omega⟩, inR_b (by omega) (by omega), ih _ (fr_pI f (by decide)) (fun j j2 => ?_)⟩⟩
    show uz (B.1 19) ((r : Int)).toNat v j = _
    rw [tn]
    by_cases w : j = r
    · rw [w, uz_at]
    · rw [uz_ne _ _ w, b1 j (by omega)]
theorem s_all47 {d : Nat} {A : iz_A} {v : Int} {P : iz_A → Prop} (hP : ∀ C, fr [47] A C → (∀ j, j < 256 → C.1 47 j = v) → P C) : Cv (d + 1) 251 [.inr (.inl 47), .inl v] A P := by
  refine e_J7_fill_53178_47 ?_
  refine dwl (P := fun r => ∀ B, fr [47] A B → (∀ j, j < r → B.1 47 j = v) → Rn d mJ7_fill_53178 (fun v' A' => v' = none ∧ P A') 5 [some (.inr (.inl 47)), some (.inl v), some (.inl (r : Int)), some (.inl 256)] [] B) (a := 0) (n := 256) ?_ (fun r ha hr ih => ?_) (Nat.zero_le _) A (fr_mo (fr_rf A) (by decide)) (fun j a => by omega)
  · intro B f b1
    exact w_J7_fill_53178_47_5 ⟨fun _ => ⟨rfl, hP B f b1⟩, fun z => by omega⟩
  · intro B f b1
    refine w_J7_fill_53178_47_5 ⟨fun z => by omega, fun _ => ⟨⟨by omega, by omega⟩, inR_b (by omega) (by omega), ih _ (fr_pI f (by decide)) (fun j j2 => ?_)⟩⟩
    show uz (B.1 47) ((r : Int)).toNat v j = _
    rw [tn]
    by_cases w : j = r
    · rw [w, uz_at]
    · rw [uz_ne _ _ w, b1 j (by omega)]
