/-! ===== the signs of a query ===== -/
abbrev Pr (α : Type) : Type := Sum Nat (Nat × α)
abbrev Rel : Type := Nat → Nat → Prop
def PrE {α : Type} (r : Pr α) (E : Nat → Prop) (K : Nat → α → Prop) : Prop := match r with
  | .inl e => E e
  | .inr (k, a) => K k a
theorem PrE_mono {α : Type} {r : Pr α} {E E' : Nat → Prop} {K K' : Nat → α → Prop} (h : PrE r E K) (hE : ∀ e, r = .inl e → E e → E' e) (hK : ∀ k a, r = .inr (k, a) → K k a → K' k a) : PrE r E' K' := by
  cases r with
  | inl e => exact hE e rfl h
  | inr p => exact hK p.1 p.2 rfl h
def bnd {α β : Type} (r : Pr α) (f : Nat → α → Pr β) : Pr β := match r with
  | .inl e => .inl e
  | .inr (k, a) => f k a
theorem PrE_bnd {α β : Type} {r : Pr α} {f : Nat → α → Pr β} {E : Nat → Prop} {K : Nat → β → Prop} : PrE (bnd r f) E K ↔ PrE r E (fun k a => PrE (f k a) E K) := by
  cases r with
  | inl e => exact Iff.rfl
  | inr p => exact Iff.rfl
theorem bnd_ok {α β : Type} {r : Pr α} {f : Nat → α → Pr β} {k : Nat} {b : β} (h : bnd r f = .inr (k, b)) : ∃ k1 a, r = .inr (k1, a) ∧ f k1 a = .inr (k, b) := by
  cases r with
  | inl e => cases h
  | inr p => exact ⟨p.1, p.2, rfl, h⟩
theorem bnd_er {α β : Type} {r : Pr α} {f : Nat → α → Pr β} {e : Nat} (h : bnd r f = .inl e) : r = .inl e ∨ ∃ k1 a, r = .inr (k1, a) ∧ f k1 a = .inl e := by
  cases r with
  | inl e' => cases h; exact Or.inl rfl
  | inr p => exact Or.inr ⟨p.1, p.2, rfl, h⟩
def gby (s : Nat → Int) (n j : Nat) : Pr Int := if j < n then (if s j = 92 then (if j + 1 < n then .inr (j + 2, s (j + 1)) else .inl (j + 1)) else .inr (j + 1, s j)) else .inl j
def grb (s : Nat → Int) (n j : Nat) : Pr Int := if j < n ∧ (s j = 91 ∨ s j = 93 ∨ s j = 45) then .inl j else gby s n j
def grg (s : Nat → Int) (n j : Nat) : Pr (Int × Int) := bnd (grb s n j) fun k a => if k < n ∧ s k = 45 then (bnd (grb s n (k + 1)) fun k2 b => if b < a then .inl (k + 1) else .inr (k2, a, b)) else .inr (k, a, a)
/-- the ranges up to the bracket that ends them; S: what was there before -/
def grs (s : Nat → Int) (n : Nat) : Nat → Nat → (Int → Prop) → Pr (Int → Prop)
  | 0, j, _ => .inl j
  | m + 1, j, S => bnd (grg s n j) fun k ab => if k < n then (if s k = 93 then .inr (k + 1, fun c => S c ∨ (ab.1 ≤ c ∧ c ≤ ab.2)) else grs s n m k (fun c => S c ∨ (ab.1 ≤ c ∧ c ≤ ab.2))) else .inl k
def gcl (s : Nat → Int) (n j : Nat) : Pr (Int → Prop) := if j + 1 < n ∧ s (j + 1) = 94 then (bnd (grs s n (n + 1) (j + 2) (fun _ => False)) fun k S => .inr (k, fun c => ¬ S c)) else grs s n (n + 1) (j + 1) (fun _ => False)
def gnu (s : Nat → Int) (n j : Nat) : Pr Int := if j < n ∧ 48 ≤ s j ∧ s j ≤ 57 then (if j + 1 < n ∧ 48 ≤ s (j + 1) ∧ s (j + 1) ≤ 57 then .inr (j + 2, 10 * (s j - 48) + s (j + 1) - 48) else .inr (j + 1, s j - 48)) else .inl j
def gcb (s : Nat → Int) (n j : Nat) (a b : Int) : Pr (Int × Int) := if j < n ∧ s j = 125 then .inr (j + 1, a, b) else .inl j
def gns (s : Nat → Int) (n j : Nat) : Pr (Int × Int) := bnd (gnu s n (j + 1)) fun k a => if k < n ∧ s k = 44 then (if k + 1 < n ∧ s (k + 1) = 125 then .inr (k + 2, a, -1) else bnd (gnu s n (k + 1)) fun k2 b => if b < a then .inl (k + 1) else gcb s n k2 a b) else gcb s n k a a
def grp (s : Nat → Int) (n j : Nat) : Pr (Int × Int) := if j < n then (if s j = 42 then .inr (j + 1, 0, -1) else if s j = 43 then .inr (j + 1, 1, -1) else if s j = 63 then .inr (j + 1, 0, 1) else if s j = 123 then gns s n j else .inr (j, 1, 1)) else .inr (j, 1, 1)
/-- one byte of the text that is of a kind -/
def atR (N : Nat) (t : Nat → Int) (S : Int → Prop) : Rel := fun p q => p < N ∧ 0 ≤ t p ∧ S (t p) ∧ q = p + 1
def rpw (R : Rel) : Nat → Rel
  | 0 => fun p q => p = q
  | m + 1 => fun p q => ∃ r, R p r ∧ rpw R m r q
def pwR (R : Rel) (a b : Int) : Rel := fun p q => ∃ m : Nat, a ≤ (m : Int) ∧ (b = -1 ∨ (m : Int) ≤ b) ∧ rpw R m p q
def cps (a b : Int) : Nat := if b = -1 then (if a < 1 then 1 else a.toNat) else b.toNat
def pat (N : Nat) (t s : Nat → Int) (n : Nat) (f : Nat → Nat → Pr (Nat × Rel)) (d j : Nat) : Pr (Nat × Rel) :=
  if s j = 40 then (if d < 20 then (bnd (f (d + 1) (j + 1)) fun k z => if k < n then .inr (k + 1, z) else .inl k) else .inl j)
  else if s j = 91 then (bnd (gcl s n j) fun k S => .inr (k, 1, atR N t S))
  else if s j = 46 then .inr (j + 1, 1, atR N t (fun _ => True))
  else if s j = 93 ∨ s j = 123 ∨ s j = 125 ∨ s j = 42 ∨ s j = 43 ∨ s j = 63 then .inl j
  else (bnd (gby s n j) fun k c => .inr (k, 1, atR N t (fun c' => c' = c)))
def pit (N : Nat) (t s : Nat → Int) (n : Nat) (f : Nat → Nat → Pr (Nat × Rel)) (d j : Nat) : Pr (Nat × Rel) := bnd (pat N t s n f d j) fun k zR => bnd (grp s n k) fun k2 ab => .inr (k2, zR.1 * cps ab.1 ab.2, pwR zR.2 ab.1 ab.2)
def psm (N : Nat) (t s : Nat → Int) (n : Nat) : Nat → Nat → Nat → Nat → Rel → Rel → Pr (Nat × Rel)
  | 0, _, j, _, _, _ => .inl j
  | m + 1, d, j, z, D, C => if j < n ∧ s j ≠ 41 then (if s j = 124 then psm N t s n m d (j + 1) z (fun p q => D p q ∨ C p q) (fun p q => p = q) else (bnd (pit N t s n (fun d' j' => psm N t s n m d' j' 0 (fun _ _ => False) (fun p q => p = q)) d j) fun k zR => psm N t s n m d k (z + zR.1) D (fun p q => ∃ r, C p r ∧ zR.2 r q))) else .inr (j, z, fun p q => D p q ∨ C p q)
/-! ===== the class reads signs ===== -/
def Qo (n : Nat) (j w : Int) (C : iz_A) : Prop := C.1 23 6 = (n : Int) ∧ C.1 23 7 = j ∧ C.1 23 8 = w
def Sg (s : Nat → Int) (n : Nat) (A : iz_A) : Prop := n ≤ 200 ∧ ∀ i, i < n → A.1 24 i = s i ∧ 32 ≤ s i ∧ s i ≤ 126
theorem sg_k {s : Nat → Int} {n : Nat} {A C : iz_A} {l : List Nat} (h : Sg s n A) (f : fr l A C) (hl : 24 ∉ l) : Sg s n C := by
  unfold Sg at h ⊢
  rw [f.1 24 hl]
  exact h
theorem sX_comes {d n j : Nat} {A : iz_A} {s : Nat → Int} {c w : Int} {P : Int → iz_A → Prop} (hs : Sg s n A) (hq : Qo n j w A) (h1 : j < n → s j = c → P 1 A) (h0 : ¬ (j < n ∧ s j = c) → P 0 A) : Ci (d + 1) 59 [.inr (.inl 23), .inl c] A P := by
  refine e_X6_comes ?_
  rw [hq.1, hq.2.1]
  refine ⟨fun z => ⟨Or.inl rfl, _, rfl, h0 (by omega)⟩, fun z => ?_⟩
  have := hs.1
  rw [tn, (hs.2 j (by omega)).1]
  exact ⟨⟨by omega, by omega⟩, fun y => ⟨Or.inl rfl, _, rfl, h0 (fun w => y w.2)⟩, fun y => ⟨Or.inr rfl, _, rfl, h1 (by omega) y⟩⟩
theorem sX_goesOn {d n j : Nat} {A : iz_A} {w : Int} {P : Int → iz_A → Prop} (hq : Qo n j w A) (h1 : w = -2 → j < n → P 1 A) (h0 : ¬ (w = -2 ∧ j < n) → P 0 A) : Ci (d + 1) 60 [.inr (.inl 23)] A P := by
  refine e_X6_goesOn ?_
  rw [hq.1, hq.2.1, hq.2.2]
  exact ⟨fun z => ⟨Or.inl rfl, _, rfl, h0 (fun y => z y.1)⟩, fun z => ⟨fun y => ⟨Or.inl rfl, _, rfl, h0 (by omega)⟩, fun y => ⟨Or.inr rfl, _, rfl, h1 z (by omega)⟩⟩⟩
theorem sX_byte {d n j : Nat} {A : iz_A} {s : Nat → Int} {P : Int → iz_A → Prop} (hs : Sg s n A) (hq : Qo n j (-2) A) (hP : PrE (gby s n j) (fun e => ∀ C, fr [23] A C → Qo n e e C → P 0 C) (fun k c => ∀ C, fr [23] A C → Qo n k (-2) C → P c C)) : Ci (d + 2) 69 [.inr (.inl 23)] A P := by
  have nb := hs.1
  refine e_X6_readByte (sX_comes hs hq (fun hj hc => ?_) (fun hn => ?_))
  · rw [hq.1, hq.2.1]
    unfold gby at hP
    rw [if_pos hj, if_pos hc] at hP
    refine ⟨fun z => absurd z n10, fun _ => ⟨inR_b (by omega) (by omega), fun z => ?_, fun z => ?_⟩⟩
    · rw [if_pos (show j + 1 < n by omega)] at hP
      rw [show ((j : Int) + 1 + 1 - 1).toNat = j + 1 by omega, (hs.2 (j + 1) (by omega)).1]
      exact ⟨inR_b (by omega) (by omega), inR_b (by omega) (by omega), ⟨by omega, by omega⟩, _, rfl, hP _ (fr_pI (fr_pI (fr_mo (fr_rf A) (by decide)) (by decide)) (by decide)) ⟨hq.1, (show (j : Int) + 1 + 1 = ((j + 2 : Nat) : Int) by omega), hq.2.2⟩⟩
    · rw [if_neg (show ¬ j + 1 < n by omega)] at hP
      exact ⟨_, rfl, hP _ (fr_pI (fr_pI (fr_mo (fr_rf A) (by decide)) (by decide)) (by decide)) ⟨hq.1, (show (j : Int) + 1 = ((j + 1 : Nat) : Int) by omega), (show (j : Int) + 1 = ((j + 1 : Nat) : Int) by omega)⟩⟩
  · rw [hq.1, hq.2.1]
    unfold gby at hP
    refine ⟨fun _ => ⟨fun z => ?_, fun z => ?_⟩, fun z => absurd rfl z⟩
    · rw [if_pos (show j < n by omega), if_neg (fun y => hn ⟨(by omega), y⟩)] at hP
      rw [show ((j : Int) + 1 - 1).toNat = j by omega, (hs.2 j (by omega)).1]
      exact ⟨inR_b (by omega) (by omega), inR_b (by omega) (by omega), ⟨by omega, by omega⟩, _, rfl, hP _ (fr_pI (fr_mo (fr_rf A) (by decide)) (by decide)) ⟨hq.1, (show (j : Int) + 1 = ((j + 1 : Nat) : Int) by omega), hq.2.2⟩⟩
    · rw [if_neg (show ¬ j < n by omega)] at hP
      exact ⟨_, rfl, hP _ (fr_pI (fr_mo (fr_rf A) (by decide)) (by decide)) ⟨hq.1, hq.2.1, rfl⟩⟩
theorem sX_rbyte {d n j : Nat} {A : iz_A} {s : Nat → Int} {P : Int → iz_A → Prop} (hs : Sg s n A) (hq : Qo n j (-2) A) (hP : PrE (grb s n j) (fun e => ∀ C, fr [23] A C → Qo n e e C → P 0 C) (fun k c => ∀ C, fr [23] A C → Qo n k (-2) C → P c C)) : Ci (d + 3) 72 [.inr (.inl 23)] A P := by
  have bad : j < n ∧ (s j = 91 ∨ s j = 93 ∨ s j = 45) → P 0 (iz_pI A 23 (uz (A.1 23) 8 (A.1 23 7))) := fun z => by
    unfold grb at hP
    rw [if_pos z] at hP
    exact hP _ (fr_pI (fr_mo (fr_rf A) (by decide)) (by decide)) ⟨hq.1, hq.2.1, hq.2.1⟩
  refine e_X6_readRangeByte (sX_comes hs hq (fun hj hc => ⟨fun _ => ⟨_, rfl, bad ⟨hj, Or.inl hc⟩⟩, fun z => absurd z n10⟩) (fun n1 => ⟨fun z => absurd rfl z, fun _ => sX_comes hs hq (fun hj hc => ⟨fun _ => ⟨_, rfl, bad ⟨hj, Or.inr (Or.inl hc)⟩⟩, fun z => absurd z n10⟩) (fun n2 => ⟨fun z => absurd rfl z, fun _ => sX_comes hs hq (fun hj hc => ⟨fun z => absurd z n10, fun _ => ⟨_, rfl, bad ⟨hj, Or.inr (Or.inr hc)⟩⟩⟩) (fun n3 => ⟨fun _ => ?_, fun z => absurd rfl z⟩)⟩)⟩))
  unfold grb at hP
  rw [if_neg (fun y => by
    rcases y.2 with w | w | w
    · exact n1 ⟨y.1, w⟩
    · exact n2 ⟨y.1, w⟩
    · exact n3 ⟨y.1, w⟩)] at hP
  refine sX_byte hs hq ?_
  exact PrE_mono hP (fun e _ h C f hC => ⟨_, rfl, h C f hC⟩) (fun k c _ h C f hC => ⟨_, rfl, h C f hC⟩)
/-- the class's sign: if it comes it is taken, else it is wrong here -/
theorem sX_sign {d n j : Nat} {A : iz_A} {s : Nat → Int} {c : Int} {P : iz_A → Prop} (hs : Sg s n A) (hq : Qo n j (-2) A) (h1 : j < n → s j = c → ∀ C, fr [23] A C → Qo n ((j + 1 : Nat) : Int) (-2) C → P C) (h0 : ¬ (j < n ∧ s j = c) → ∀ C, fr [23] A C → Qo n ((j + 1 : Nat) : Int) (j : Int) C → P C) (hj : j ≤ 300) : Cv (d + 2) 68 [.inr (.inl 23), .inl c] A P := by
  refine e_X6_readSign ⟨fun z => absurd hq.2.2 z, fun _ => sX_comes hs hq (fun a b => ⟨fun _ => ?_, fun z => absurd z n10⟩) (fun a => ⟨fun z => absurd rfl z, fun _ => ?_⟩)⟩
  · rw [hq.2.1]
    exact ⟨inR_b (by omega) (by omega), rfl, h1 a b _ (fr_pI (fr_mo (fr_rf A) (by decide)) (by decide)) ⟨hq.1, (show (j : Int) + 1 = ((j + 1 : Nat) : Int) by omega), hq.2.2⟩⟩
  · rw [hq.2.1]
    exact ⟨inR_b (by omega) (by omega), rfl, h0 a _ (fr_pI (fr_pI (fr_mo (fr_rf A) (by decide)) (by decide)) (by decide)) ⟨hq.1, (show (j : Int) + 1 = ((j + 1 : Nat) : Int) by omega), rfl⟩⟩
/-- once something was wrong it only goes on -/
theorem sX_signW {d n : Nat} {A : iz_A} {c j w : Int} {P : iz_A → Prop} (hq : Qo n j w A) (hw : ¬ w = -2) (hj : 0 ≤ j ∧ j ≤ 300) (hP : ∀ C, fr [23] A C → Qo n (j + 1) w C → P C) : Cv (d + 1) 68 [.inr (.inl 23), .inl c] A P := by
  refine e_X6_readSign ⟨fun _ => ?_, fun z => absurd (by rw [← hq.2.2]; exact z) hw⟩
  rw [hq.2.1]
  exact ⟨inR_b (by omega) (by omega), rfl, hP _ (fr_pI (fr_mo (fr_rf A) (by decide)) (by decide)) ⟨hq.1, rfl, hq.2.2⟩⟩
