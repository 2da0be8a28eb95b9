/-! ===== the class makes nodes ===== -/
def Und (lo : Nat) (A C : iz_A) : Prop := ∀ u, u < lo → C.1 39 u = A.1 39 u ∧ C.1 40 u = A.1 40 u ∧ C.1 41 u = A.1 41 u ∧ C.1 42 u = A.1 42 u ∧ C.1 43 u = A.1 43 u
theorem und_rf (lo : Nat) (A : iz_A) : Und lo A A := fun _ _ => ⟨rfl, rfl, rfl, rfl, rfl⟩
theorem und_tr {lo lo' : Nat} {A B C : iz_A} (h : Und lo A B) (h' : Und lo' B C) (hl : lo ≤ lo') : Und lo A C := fun u hu => by
  have a := h u hu
  have b := h' u (by omega)
  exact ⟨b.1.trans a.1, b.2.1.trans a.2.1, b.2.2.1.trans a.2.2.1, b.2.2.2.1.trans a.2.2.2.1, b.2.2.2.2.trans a.2.2.2.2⟩
theorem und_ag {lo hi b : Nat} {A C : iz_A} (h : Und b A C) (hb : hi < b) : Ag lo hi A C := fun u _ hu => h u (by omega)
/-- a piece of the tree that means R: nothing, or the nodes from lo to nd -/
def Rp (N : Nat) (t : Nat → Int) (as : Nat → Int → Prop) (Ok : Nat → Prop) (A : iz_A) (lo z : Nat) (rv : Int) (R : Rel) (nd : Nat) : Prop := (z = 0 ∧ rv = -1 ∧ nd = lo ∧ ∀ p q, R p q ↔ p = q) ∨ (0 < z ∧ nd + 1 = lo + 2 * z ∧ rv = (nd : Int) - 1 ∧ Gd N t as Ok A lo (nd - 1) R)
theorem rp_k {N : Nat} {t : Nat → Int} {as : Nat → Int → Prop} {Ok : Nat → Prop} {A C : iz_A} {lo z nd : Nat} {rv : Int} {R R' : Rel} (h : Rp N t as Ok A lo z rv R nd) (g : Ag lo (nd - 1) A C) (hR : ∀ p q, R p q ↔ R' p q) : Rp N t as Ok C lo z rv R' nd := by
  rcases h with ⟨h1, h2, h3, h4⟩ | ⟨h1, h2, h3, h4⟩
  · exact Or.inl ⟨h1, h2, h3, fun p q => by rw [← hR, h4]⟩
  · exact Or.inr ⟨h1, h2, h3, gd_k h4 g hR⟩
theorem rp_nd {N : Nat} {t : Nat → Int} {as : Nat → Int → Prop} {Ok : Nat → Prop} {A : iz_A} {lo z nd : Nat} {rv : Int} {R : Rel} (h : Rp N t as Ok A lo z rv R nd) : lo ≤ nd ∧ nd ≤ lo + 2 * z := by
  rcases h with ⟨h1, h2, h3, h4⟩ | ⟨h1, h2, h3, h4⟩
  · exact ⟨(by omega), (by omega)⟩
  · exact ⟨(by omega), (by omega)⟩
theorem sX_node {d nd : Nat} {A : iz_A} {P : Int → iz_A → Prop} {kd l r mb : Int} (h6 : A.1 38 6 = (nd : Int)) (hb : nd < 240) (hm : mb = 0 ∨ mb = 1) (hP : ∀ C, fr [38, 39, 40, 41, 42, 43] A C → ff [6] (A.1 38) (C.1 38) → C.1 38 6 = ((nd + 1 : Nat) : Int) → C.1 39 nd = kd → C.1 40 nd = l → C.1 41 nd = r → C.1 42 nd = mb → C.1 43 nd = 0 → Und nd A C → P (nd : Int) C) : Ci (d + 1) 107 [.inr (.inl 38), .inl kd, .inl l, .inl r, .inl mb] A P := by
  refine e_X9_node ?_
  rw [h6, tn]
  refine ⟨fun _ => ⟨⟨by omega, by omega⟩, ⟨by omega, by omega⟩, ⟨by omega, by omega⟩, ⟨by omega, by omega⟩, hm, ⟨by omega, by omega⟩, Or.inl rfl, inR_b (by omega) (by omega), inR_b (by omega) (by omega), _, rfl, ?_⟩, fun z => by omega⟩
  rw [show (nd : Int) + 1 - 1 = (nd : Int) by omega]
  refine hP _ (fr_pI (fr_pI (fr_pI (fr_pI (fr_pI (fr_pI (fr_mo (fr_rf A) (by decide)) (by decide)) (by decide)) (by decide)) (by decide)) (by decide)) (by decide)) (ff_uz (ff_eq rfl) (by decide)) ?_ (uz_at _ _ _) (uz_at _ _ _) (uz_at _ _ _) (uz_at _ _ _) (uz_at _ _ _) (fun u hu => ⟨uz_ne _ _ (by omega), uz_ne _ _ (by omega), uz_ne _ _ (by omega), uz_ne _ _ (by omega), uz_ne _ _ (by omega)⟩)
  show (nd : Int) + 1 = _
  omega
theorem sX_joined {N : Nat} {t : Nat → Int} {as : Nat → Int → Prop} {Ok : Nat → Prop} {d lo z1 z2 n1 nd : Nat} {A : iz_A} {P : Int → iz_A → Prop} {v1 v2 : Int} {R1 R2 : Rel} (h6 : A.1 38 6 = (nd : Int)) (h1 : Rp N t as Ok A lo z1 v1 R1 n1) (h2 : Rp N t as Ok A n1 z2 v2 R2 nd) (hb : lo + 2 * (z1 + z2) ≤ 240) (hP : ∀ C v (n' : Nat), fr [38, 39, 40, 41, 42, 43] A C → ff [6] (A.1 38) (C.1 38) → C.1 38 6 = (n' : Int) → Und lo A C → Rp N t as Ok C lo (z1 + z2) v (fun p q => ∃ u, R1 p u ∧ R2 u q) n' → P v C) : Ci (d + 2) 105 [.inr (.inl 38), .inl v1, .inl v2] A P := by
  have f0 : fr [38, 39, 40, 41, 42, 43] A A := fr_mo (fr_rf A) (by decide)
  rcases h1 with ⟨a1, rfl, a3, a4⟩ | ⟨a1, a2, a3, a4⟩
  · refine e_X9_joined ⟨fun _ => ⟨fun z => absurd rfl z, fun _ => ⟨_, rfl, hP A v2 nd f0 (ff_eq rfl) h6 (und_rf _ _) ?_⟩⟩, fun z => absurd rfl z⟩
    rw [a1, Nat.zero_add, ← a3]
    exact rp_k h2 (fun _ _ _ => ⟨rfl, rfl, rfl, rfl, rfl⟩) (fun p q => ⟨fun w => ⟨p, (a4 p p).2 rfl, w⟩, fun ⟨u, u1, u2⟩ => by rw [(a4 p u).1 u1]; exact u2⟩)
  · rcases h2 with ⟨b1, rfl, b3, b4⟩ | ⟨b1, b2', b3, b4⟩
    · refine e_X9_joined ⟨fun z => by omega, fun _ => ⟨fun z => absurd rfl z, fun _ => ⟨fun _ => ⟨_, rfl, hP A v1 nd f0 (ff_eq rfl) h6 (und_rf _ _) ?_⟩, fun z => by omega⟩⟩⟩
      rw [b1, Nat.add_zero, b3]
      exact Or.inr ⟨a1, a2, a3, gd_k a4 (fun _ _ _ => ⟨rfl, rfl, rfl, rfl, rfl⟩) (fun p q => ⟨fun w => ⟨q, w, (b4 q q).2 rfl⟩, fun ⟨u, u1, u2⟩ => by rw [← (b4 u q).1 u2]; exact u1⟩)⟩
    · have e1 : v1 = ((n1 - 1 : Nat) : Int) := (by omega)
      have e2 : v2 = ((nd - 1 : Nat) : Int) := (by omega)
      have sk : ∀ u, (lo ≤ u ∧ u ≤ n1 - 1) ∨ (n1 ≤ u ∧ u ≤ nd - 1) → (A.1 42 u = 0 ∨ A.1 42 u = 1) := fun u hu => by
        rcases hu with hu | hu
        · exact (a4.2.1 u hu.1 hu.2).1
        · exact (b4.2.1 u hu.1 hu.2).1
      have go : ∀ mb : Int, mb = (if A.1 42 (n1 - 1) = 0 ∨ A.1 42 (nd - 1) = 0 then 0 else 1) → Ci (d + 1) 107 [.inr (.inl 38), .inl 1, .inl v1, .inl v2, .inl mb] A (fun x A' => ∃ y, (some (.inl x) : Option iz_V) = some (.inl y) ∧ P y A') := fun mb hm => by
        refine sX_node h6 (by omega) (by rw [hm]; split <;> first | exact Or.inl rfl | exact Or.inr rfl) (fun C f g c6 c39 c40 c41 c42 c43 un => ⟨_, rfl, hP C _ (nd + 1) f g c6 (fun u hu => un u (by omega)) (Or.inr ⟨(by omega), (by omega), (by omega), ?_⟩)⟩)
        have b4' : Gd N t as Ok A (n1 - 1 + 1) (nd - 1) R2 := by rw [show n1 - 1 + 1 = n1 by omega]; exact b4
        have en : nd - 1 + 1 = nd := (by omega)
        have := gd_node (C := C) (kd := 1) a4 b4' (und_ag un (by omega)) (Or.inl rfl) (by rw [en]; exact c39) (by rw [en, c40]; exact e1) (by rw [en, c41]; exact e2) (by rw [en, c42, hm, if_pos rfl]) (by rw [en]; exact c43)
        rw [if_pos rfl, en] at this
        rw [show nd + 1 - 1 = nd by omega]
        exact this
      refine e_X9_joined ⟨fun z => by omega, fun _ => ⟨fun _ => ?_, fun z => by omega⟩⟩
      rw [e1, e2, tn, tn]
      rw [e1, e2] at go
      exact ⟨⟨by omega, by omega⟩, fun z => go 0 (by rw [if_pos (Or.inl z)]), fun z => ⟨⟨by omega, by omega⟩, fun z2 => go 0 (by rw [if_pos (Or.inr z2)]), fun z2 => go 1 (by rw [if_neg (fun w => w.elim z z2)])⟩⟩
theorem sX_choice {N : Nat} {t : Nat → Int} {as : Nat → Int → Prop} {Ok : Nat → Prop} {d lo z1 z2 n1 nd : Nat} {A : iz_A} {P : Int → iz_A → Prop} {v1 v2 : Int} {R1 R2 : Rel} (h6 : A.1 38 6 = (nd : Int)) (h1 : Rp N t as Ok A lo z1 v1 R1 n1) (h2 : Rp N t as Ok A n1 z2 v2 R2 nd) (hb : lo + 2 * (z1 + z2) ≤ 240) (hP : ∀ C v (n' : Nat), fr [38, 39, 40, 41, 42, 43] A C → ff [6] (A.1 38) (C.1 38) → C.1 38 6 = (n' : Int) → Und lo A C → Rp N t as Ok C lo (z1 + z2) v (fun p q => R1 p q ∨ R2 p q) n' → P v C) : Ci (d + 2) 106 [.inr (.inl 38), .inl v1, .inl v2] A P := by
  have f0 : fr [38, 39, 40, 41, 42, 43] A A := fr_mo (fr_rf A) (by decide)
  -- one of them alone, with its mark
  have mark : ∀ (v : Int) (z : Nat) (R : Rel), 0 < z → nd + 1 = lo + 2 * z → v = (nd : Int) - 1 → Gd N t as Ok A lo (nd - 1) R → (∀ p q, (R p q ∨ p = q) ↔ (R1 p q ∨ R2 p q)) → z = z1 + z2 → (((0 : Int) ≤ v ∧ v < 240) ∧ ((1 : Int) = 0 ∨ (1 : Int) = 1) ∧ ∃ y, (some (.inl v) : Option iz_V) = some (.inl y) ∧ P y (iz_pI A 42 (uz (A.1 42) v.toNat 1))) := fun v z R z0 ez ev gd hR es => by
    have e1 : v = ((nd - 1 : Nat) : Int) := (by omega)
    refine ⟨⟨by omega, by omega⟩, Or.inr rfl, _, rfl, ?_⟩
    rw [e1, tn]
    have f : fr [42] A (iz_pI A 42 (uz (A.1 42) (nd - 1) 1)) := fr_pI (fr_mo (fr_rf A) (by decide)) (by decide)
    refine hP _ _ nd (fr_mo f (by decide)) (ff_eq rfl) h6 (fun u hu => ⟨rfl, rfl, rfl, uz_ne _ _ (by omega), rfl⟩) (Or.inr ⟨(by omega), (by omega), (by omega), ?_⟩)
    exact gd_k (gd_skip gd rfl f) (fun _ _ _ => ⟨rfl, rfl, rfl, rfl, rfl⟩) hR
  rcases h1 with ⟨a1, rfl, a3, a4⟩ | ⟨a1, a2, a3, a4⟩
  · rcases h2 with ⟨b1, rfl, b3, b4⟩ | ⟨b1, b2', b3, b4⟩
    · refine e_X9_choice ⟨fun _ => ⟨fun z => absurd rfl z, fun _ => ⟨fun _ => ⟨_, rfl, hP A _ nd f0 (ff_eq rfl) h6 (und_rf _ _) (Or.inl ⟨(by omega), rfl, (by omega), fun p q => ?_⟩)⟩, fun z => absurd rfl z⟩⟩, fun z => absurd rfl z⟩
      show (R1 p q ∨ R2 p q) ↔ p = q
      rw [a4, b4]
      exact ⟨fun w => w.elim id id, Or.inl⟩
    · refine e_X9_choice ⟨fun _ => ⟨fun z => absurd rfl z, fun _ => ⟨fun z => by omega, fun _ => mark v2 z2 R2 b1 (by omega) b3 (by rw [← a3]; exact b4) (fun p q => ?_) (by omega)⟩⟩, fun z => absurd rfl z⟩
      rw [a4]
      exact Or.comm
  · rcases h2 with ⟨b1, rfl, b3, b4⟩ | ⟨b1, b2', b3, b4⟩
    · refine e_X9_choice ⟨fun z => by omega, fun _ => ⟨fun z => absurd rfl z, fun _ => ⟨fun _ => ⟨fun z => by omega, fun _ => mark v1 z1 R1 a1 (by omega) (by omega) (by rw [b3]; exact a4) (fun p q => by rw [b4]) (by omega)⟩, fun z => by omega⟩⟩⟩
    · have e1 : v1 = ((n1 - 1 : Nat) : Int) := (by omega)
      have e2 : v2 = ((nd - 1 : Nat) : Int) := (by omega)
      have go : ∀ mb : Int, mb = (if A.1 42 (n1 - 1) = 0 ∧ A.1 42 (nd - 1) = 0 then 0 else 1) → Ci (d + 1) 107 [.inr (.inl 38), .inl 2, .inl v1, .inl v2, .inl mb] A (fun x A' => ∃ y, (some (.inl x) : Option iz_V) = some (.inl y) ∧ P y A') := fun mb hm => by
        refine sX_node h6 (by omega) (by rw [hm]; split <;> first | exact Or.inl rfl | exact Or.inr rfl) (fun C f g c6 c39 c40 c41 c42 c43 un => ⟨_, rfl, hP C _ (nd + 1) f g c6 (fun u hu => un u (by omega)) (Or.inr ⟨(by omega), (by omega), (by omega), ?_⟩)⟩)
        have b4' : Gd N t as Ok A (n1 - 1 + 1) (nd - 1) R2 := by rw [show n1 - 1 + 1 = n1 by omega]; exact b4
        have en : nd - 1 + 1 = nd := (by omega)
        have := gd_node (C := C) (kd := 2) a4 b4' (und_ag un (by omega)) (Or.inr rfl) (by rw [en]; exact c39) (by rw [en, c40]; exact e1) (by rw [en, c41]; exact e2) (by rw [en, c42, hm, if_neg (show ¬ (2 : Int) = 1 by decide)]) (by rw [en]; exact c43)
        rw [if_neg (show ¬ (2 : Int) = 1 by decide), en] at this
        rw [show nd + 1 - 1 = nd by omega]
        exact this
      refine e_X9_choice ⟨fun z => by omega, fun _ => ⟨fun _ => ?_, fun z => by omega⟩⟩
      rw [e1, e2, tn, tn]
      rw [e1, e2] at go
      exact ⟨⟨by omega, by omega⟩, fun z => go 1 (by rw [if_neg (fun w => z w.1)]), fun z => ⟨⟨by omega, by omega⟩, fun z2 => go 0 (by rw [if_pos ⟨z, z2⟩]), fun z2 => go 1 (by rw [if_neg (fun w => z2 w.2)])⟩⟩
theorem or01 {x : Int} (h : x = 0 ∨ x = 1) : (iv x ||| iv 0).toInt = x ∧ (iv x ||| iv 1).toInt = 1 := by
  rcases h with rfl | rfl
  · exact ⟨by decide +kernel, by decide +kernel⟩
  · exact ⟨by decide +kernel, by decide +kernel⟩
