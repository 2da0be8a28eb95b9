/-! ===== the reference reads ranges ===== -/
theorem sM_rbyte {d n j : Nat} {A : iz_A} {s : Nat → Int} {P : Int → iz_A → Prop} (hs : SgM s n A) (hq : Qm n j (-1) A) (hj : j ≤ n) (hP : PrE (grb s n j) (fun e => ∀ C (j' : Nat) (x : Int), fr [55] A C → ff [37, 38] (A.1 55) (C.1 55) → Qm n j' e C → j' ≤ j + 2 → P x C) (fun k c => ∀ C, fr [55] A C → ff [37, 38] (A.1 55) (C.1 55) → Qm n k (-1) C → P c C)) : Ci (d + 2) 209 [.inr (.inl 55)] A P := by
  have nb := hs.1
  have adv : ∀ {B : iz_A} {k : Nat} {w : Int}, fr [55] A B → ff [37, 38] (A.1 55) (B.1 55) → Qm n k w B → fr [55] A (iz_pI B 55 (uz (B.1 55) 38 ((k : Int) + 1))) ∧ ff [37, 38] (A.1 55) ((iz_pI B 55 (uz (B.1 55) 38 ((k : Int) + 1))).1 55) ∧ Qm n ((k + 1 : Nat) : Int) w (iz_pI B 55 (uz (B.1 55) 38 ((k : Int) + 1))) := fun {B k w} f g q => ⟨fr_pI f (by decide), ff_uz g (by decide), q.1, (show (k : Int) + 1 = ((k + 1 : Nat) : Int) by omega), q.2.2⟩
  have a0 := adv (fr_mo (fr_rf A) (by decide)) (ff_eq rfl) hq
  have bad : ∀ x : Int, (∀ C (j' : Nat) (x : Int), fr [55] A C → ff [37, 38] (A.1 55) (C.1 55) → Qm n j' (j : Int) C → j' ≤ j + 2 → P x C) → Cv (d + 1) 205 [.inr (.inl 55), .inl (A.1 55 38)] A (fun A2 => inR ((A2.1 55 38) + 1) ∧ ∃ y, (some (.inl x) : Option iz_V) = some (.inl y) ∧ P y (iz_pI A2 55 (uz (A2.1 55) 38 ((A2.1 55 38) + 1)))) := fun x h => by
    rw [hq.2.1]
    refine sM_fail hq fun C f g q => ?_
    have a1 := adv (fr_mo f (by decide)) (ff_mo g (by decide)) q
    rw [q.2.1]
    exact ⟨inR_b (by omega) (by omega), _, rfl, h _ (j + 1) x a1.1 a1.2.1 a1.2.2 (by omega)⟩
  unfold grb at hP
  refine e_X11_rangeByte (sM_sign hs hq ⟨fun z => ⟨fun y => bad _ ?_, fun y => ⟨fun w => bad _ ?_, fun w => ⟨fun u => bad _ ?_, fun u => ⟨fun v => ?_, fun v => bad _ ?_⟩⟩⟩⟩, fun z => ?_⟩)
  · have c : ¬ j < n := fun c => by
      rw [if_pos c] at y
      have := hs.2 j c
      omega
    rw [if_neg (fun x => c x.1)] at hP
    unfold gby at hP
    rw [if_neg c] at hP
    exact hP
  · have c : j < n := Decidable.of_not_not fun c => y (if_neg c)
    rw [if_pos c] at w
    rw [if_pos ⟨c, Or.inl w⟩] at hP
    exact hP
  · have c : j < n := Decidable.of_not_not fun c => y (if_neg c)
    rw [if_pos c] at u
    rw [if_pos ⟨c, Or.inr (Or.inl u)⟩] at hP
    exact hP
  · have c : j < n := Decidable.of_not_not fun c => y (if_neg c)
    rw [if_pos c] at z w u v
    rw [if_neg (fun x => by omega)] at hP
    unfold gby at hP
    rw [if_pos c, if_neg z] at hP
    rw [hq.2.1, if_pos c]
    exact ⟨inR_b (by omega) (by omega), _, rfl, hP _ a0.1 a0.2.1 a0.2.2⟩
  · have c : j < n := Decidable.of_not_not fun c => y (if_neg c)
    rw [if_pos c] at v
    rw [if_pos ⟨c, Or.inr (Or.inr v)⟩] at hP
    exact hP
  · have c : j < n := Decidable.of_not_not fun c => by
      rw [if_neg c] at z
      exact absurd z (by decide)
    rw [if_pos c] at z
    rw [if_neg (fun x => by omega)] at hP
    unfold gby at hP
    rw [if_pos c, if_pos z] at hP
    rw [hq.2.1]
    refine ⟨inR_b (by omega) (by omega), sM_sign (sgM_k hs a0.1 (by decide)) a0.2.2 ⟨fun y => ?_, fun y => ?_⟩⟩
    · have c2 : j + 1 < n := Decidable.of_not_not fun c => y (if_neg c)
      rw [if_pos c2] at hP ⊢
      have a1 := adv a0.1 a0.2.1 a0.2.2
      rw [a0.2.2.2.1]
      exact ⟨inR_b (by omega) (by omega), _, rfl, hP _ a1.1 a1.2.1 a1.2.2⟩
    · have c2 : ¬ j + 1 < n := fun c => by
        rw [if_pos c] at y
        have := hs.2 (j + 1) c
        omega
      rw [if_neg c2] at hP
      rw [a0.2.2.2.1]
      refine sM_fail a0.2.2 fun C f g q => ?_
      have a1 := adv (fr_mo (fr_tr a0.1 f) (by decide)) (ff_tr a0.2.1 (ff_mo g (by decide))) q
      rw [q.2.1]
      exact ⟨inR_b (by omega) (by omega), _, rfl, hP _ (j + 1 + 1) _ a1.1 a1.2.1 a1.2.2 (by omega)⟩
/-- the set of class number cm, or what is not in it -/
def Cl (cm : Nat) (v1 : Int) (S : Int → Prop) (A : iz_A) : Prop := ∀ c : Nat, c < 256 → (¬ A.1 85 (256 * cm + c) = 0 ↔ ((v1 = 0 ∧ S (c : Int)) ∨ (v1 = 1 ∧ ¬ S (c : Int))))
def Bl (cm : Nat) (A C : iz_A) : Prop := ∀ i, i < 256 * cm → C.1 85 i = A.1 85 i
theorem blc_tr {cm : Nat} {A B C : iz_A} (h : Bl cm A B) (h' : Bl cm B C) : Bl cm A C := fun i hi => (h' i hi).trans (h i hi)
theorem blc_k {cm : Nat} {A B : iz_A} {l : List Nat} (h : fr l A B) (hl : 85 ∉ l) : Bl cm A B := fun i _ => by rw [h.1 85 hl]
theorem cl_k {cm : Nat} {v : Int} {S : Int → Prop} {A B : iz_A} {l : List Nat} (c : Cl cm v S A) (h : fr l A B) (hl : 85 ∉ l) : Cl cm v S B := by
  unfold Cl at c ⊢
  rw [h.1 85 hl]
  exact c
theorem pI_at' (A : iz_A) (q : Nat) (f : Nat → Int) : (iz_pI A q f).1 q = f := if_pos rfl
theorem lM_fill {d cm : Nat} {A : iz_A} {v1 : Int} {a b : Nat} {S : Int → Prop} {P : iz_A → Prop} (hv : v1 = 0 ∨ v1 = 1) (hm : cm < 100) (hab : a ≤ b + 1) (hb : b < 256) (hw : A.1 55 37 = -1) (hc : Cl cm v1 S A) (hP : ∀ C, fr [85] A C → Bl cm A C → Cl cm v1 (fun c => S c ∨ ((a : Int) ≤ c ∧ c ≤ (b : Int))) C → Rn d mX11_ranges (fun v A' => v = none ∧ P A') 78 [some (.inr (.inl 55)), some (.inl v1), some (.inl (256 * (cm : Int))), some (.inl 0), none, none, none] [] C) : Rn d mX11_ranges (fun v A' => v = none ∧ P A') 172 [some (.inr (.inl 55)), some (.inl v1), some (.inl (256 * (cm : Int))), some (.inl 0), some (.inl ((a : Int))), some (.inl ((b : Int))), some (.inl ((a : Int)))] [] A := by
  refine dwl (P := fun q => ∀ D, fr [85] A D → Bl cm A D → Cl cm v1 (fun c => S c ∨ ((a : Int) ≤ c ∧ c < (q : Int))) D → Rn d mX11_ranges (fun v A' => v = none ∧ P A') 172 [some (.inr (.inl 55)), some (.inl v1), some (.inl (256 * (cm : Int))), some (.inl 0), some (.inl ((a : Int))), some (.inl ((b : Int))), some (.inl ((q : Int)))] [] D) (a := a) (n := b + 1) ?_ (fun q qa hq ih => ?_) hab A (fr_mo (fr_rf A) (by decide)) (fun _ _ => rfl) (fun c hc' => by
    rw [hc c hc']
    have : ¬ ((a : Int) ≤ c ∧ (c : Int) < a) := by omega
    constructor
    · rintro (⟨x, y⟩ | ⟨x, y⟩)
      · exact Or.inl ⟨x, Or.inl y⟩
      · exact Or.inr ⟨x, fun w => w.elim y this⟩
    · rintro (⟨x, y⟩ | ⟨x, y⟩)
      · exact Or.inl ⟨x, y.elim id (fun w => absurd w this)⟩
      · exact Or.inr ⟨x, fun w => y (Or.inl w)⟩)
  · intro D f g h
    refine w_X11_ranges_172 ⟨fun _ => hP D f g (fun c hc' => ?_), fun z => by omega⟩
    rw [h c hc']
    have e : ((a : Int) ≤ c ∧ (c : Int) < ((b + 1 : Nat) : Int)) = ((a : Int) ≤ c ∧ (c : Int) ≤ b) := propext ⟨fun z => by omega, fun z => by omega⟩
    show _ ↔ ((v1 = 0 ∧ (S c ∨ ((a : Int) ≤ c ∧ (c : Int) ≤ b))) ∨ (v1 = 1 ∧ ¬ (S c ∨ ((a : Int) ≤ c ∧ (c : Int) ≤ b))))
    rw [← e]
  · intro D f g h
    have dw : D.1 55 37 = -1 := by rw [f.1 55 (by decide)]; exact hw
    rw [show ((q + 1 : Nat) : Int) = (q : Int) + 1 by omega] at ih
    have key : ∀ x : Int, (v1 = 0 ∧ x = 1) ∨ (v1 = 1 ∧ x = 0) → Rn d mX11_ranges (fun v A' => v = none ∧ P A') 172 [some (.inr (.inl 55)), some (.inl v1), some (.inl (256 * (cm : Int))), some (.inl 0), some (.inl ((a : Int))), some (.inl ((b : Int))), some (.inl ((q : Int) + 1))] [] (iz_pI D 85 (uz (D.1 85) (256 * (cm : Int) + (q : Int)).toNat x)) := fun x hx => by
      have et : (256 * (cm : Int) + (q : Int)).toNat = 256 * cm + q := by omega
      rw [et]
      refine ih _ (fr_pI f (by decide)) (fun i hi => ?_) (fun c hc' => ?_)
      · rw [pI_at', uz_ne _ _ (by omega)]; exact g i hi
      · rw [pI_at']
        by_cases y : c = q
        · rw [y, uz_at]
          rcases hx with ⟨x1, x2⟩ | ⟨x1, x2⟩
          · exact ⟨fun _ => Or.inl ⟨x1, Or.inr ⟨by omega, by omega⟩⟩, fun _ => by omega⟩
          · exact ⟨fun z => absurd x2 z, fun z => by
              rcases z with ⟨z1, _⟩ | ⟨_, z2⟩
              · omega
              · exact absurd (Or.inr ⟨by omega, by omega⟩) z2⟩
        · rw [uz_ne _ _ (by omega), h c hc']
          have e : ((a : Int) ≤ c ∧ (c : Int) < (q : Int) + 1) = ((a : Int) ≤ c ∧ (c : Int) < q) := propext ⟨fun z => by omega, fun z => by omega⟩
          show _ ↔ ((v1 = 0 ∧ (S c ∨ ((a : Int) ≤ c ∧ (c : Int) < (q : Int) + 1))) ∨ (v1 = 1 ∧ ¬ (S c ∨ ((a : Int) ≤ c ∧ (c : Int) < (q : Int) + 1))))
          rw [e]
    exact w_X11_ranges_172 ⟨fun z => by omega, fun _ => ⟨fun z => by omega, fun _ => ⟨inR_b (by omega) (by omega), fun z => ⟨⟨by omega, by omega⟩, by decide, inR_b (by omega) (by omega), key 0 (Or.inr (by omega))⟩, fun z => ⟨⟨by omega, by omega⟩, by decide, inR_b (by omega) (by omega), key 1 (Or.inl (by omega))⟩⟩⟩⟩
