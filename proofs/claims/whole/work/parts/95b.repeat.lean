/-! ===== copies of a piece ===== -/
def crep (c : List Int) : Nat → List Int
  | 0 => []
  | j + 1 => c ++ crep c j
theorem crep_snoc (c : List Int) : ∀ j, crep c (j + 1) = crep c j ++ c := by
  intro j
  induction j with
  | zero => show c ++ [] = [] ++ c; simp
  | succ j ih =>
    show c ++ crep c (j + 1) = (c ++ crep c j) ++ c
    rw [ih, List.append_assoc]
theorem crep_len (c : List Int) : ∀ j, (crep c j).length = j * c.length := by
  intro j
  induction j with
  | zero => show 0 = 0 * _; rw [Nat.zero_mul]
  | succ j ih =>
    show (c ++ crep c j).length = _
    rw [List.length_append, ih, Nat.succ_mul, Nat.add_comm]
def cun (c : List Int) (j : Nat) : List Int := crep c (j + 1) ++ [-4] ++ List.replicate j (-1)
theorem cun_succ (c : List Int) (j : Nat) : cun c (j + 1) = c ++ cun c j ++ [-1] := by
  unfold cun
  show (c ++ crep c (j + 1)) ++ [-4] ++ List.replicate (j + 1) (-1) = _
  rw [List.replicate_succ']
  simp only [List.append_assoc]
theorem kd_cun {N : Nat} {t : Nat → Int} {ft : Nat × (Nat → Int → Prop)} {c : List Int} {z D : Nat} {R : Rel} (h : Kd N t ft c z D R) : ∀ j : Nat, Kd N t ft (cun c j) (z * (j + 1)) (D + j) (pwR R ((j + 1 : Nat) : Int) (-1)) := by
  intro j
  induction j with
  | zero =>
    have := kd_un (w := -4) (R' := pwR R 1 (-1)) h (Or.inr (Or.inl ⟨rfl, fun _ _ => Iff.rfl⟩))
    unfold cun
    show Kd N t ft ((c ++ []) ++ [-4] ++ []) (z * 1) (D + 0) (pwR R 1 (-1))
    rw [List.append_nil, List.append_nil, Nat.mul_one, Nat.add_zero]
    exact this
  | succ j ih =>
    have := kd_join (D := D + (j + 1)) h ih (by omega) (by omega)
    rw [cun_succ, Nat.mul_succ, Nat.add_comm]
    exact kd_mono this (Nat.le_refl _) (fun p q => pw_in R (j + 1) p q)
def cbo (c : List Int) (a : Nat) : Nat → List Int
  | 0 => c ++ (if a = 0 then [-5] else [])
  | k + 1 => cbo c a k ++ (c ++ (if a ≤ k + 1 then [-5] else [])) ++ [-1]
theorem kd_cbo {N : Nat} {t : Nat → Int} {ft : Nat × (Nat → Int → Prop)} {c : List Int} {z D a : Nat} {R : Rel} (h : Kd N t ft c z D R) : ∀ k : Nat, Kd N t ft (cbo c a k) (z * (k + 1)) (D + k) (pwR R ((min a (k + 1) : Nat) : Int) ((k + 1 : Nat) : Int)) := by
  intro k
  induction k with
  | zero =>
    unfold cbo
    rw [Nat.zero_add, Nat.mul_one, Nat.add_zero]
    by_cases e : a = 0
    · rw [if_pos e, e]
      exact kd_un (w := -5) (R' := pwR R 0 1) h (Or.inr (Or.inr ⟨rfl, fun p q => pw_01 R p q⟩))
    · rw [if_neg e, List.append_nil, show min a 1 = 1 by omega]
      exact kd_mono h (Nat.le_refl _) (fun p q => (pw_11 R p q).symm)
  | succ k ih =>
    unfold cbo
    rw [Nat.mul_succ]
    by_cases e : a ≤ k + 1
    · rw [if_pos e]
      have h2 := kd_un (w := -5) (R' := fun p q => R p q ∨ p = q) h (Or.inr (Or.inr ⟨rfl, fun p q => Iff.rfl⟩))
      have := kd_join (D := D + (k + 1)) ih h2 (by omega) (by omega)
      refine kd_mono this (Nat.le_refl _) (fun p q => ?_)
      rw [show min a (k + 1) = a by omega, show min a (k + 1 + 1) = a by omega]
      exact pw_up R a (k + 1) p q e
    · rw [if_neg e, List.append_nil]
      have := kd_join (D := D + (k + 1)) ih h (by omega) (by omega)
      refine kd_mono this (Nat.le_refl _) (fun p q => ?_)
      rw [show min a (k + 1) = k + 1 by omega, show min a (k + 1 + 1) = k + 1 + 1 by omega]
      exact pw_eq R (k + 1) p q
theorem cbo_len (c : List Int) (a : Nat) : ∀ k, (cbo c a k).length + 1 ≤ (k + 1) * (c.length + 2) := by
  intro k
  have ib : ∀ (P : Prop) [Decidable P], (if P then [(-5 : Int)] else []).length ≤ 1 := fun P _ => by split <;> simp
  induction k with
  | zero =>
    unfold cbo
    rw [List.length_append]
    have := ib (a = 0)
    omega
  | succ k ih =>
    unfold cbo
    rw [List.length_append, List.length_append, List.length_append]
    have := ib (a ≤ k + 1)
    have e := Nat.succ_mul (k + 1) (c.length + 2)
    show (cbo c a k).length + (c.length + _) + 1 + 1 ≤ (k + 1 + 1) * (c.length + 2)
    have e : (k + 1 + 1) * (c.length + 2) = (k + 1) * (c.length + 2) + (c.length + 2) := e
    omega
def rpc (c : List Int) (z : Nat) (a b : Int) : List Int := if z = 0 ∨ b = 0 then [-6] else if b < 0 then (if a = 0 then c ++ [-3] else cun c (a.toNat - 1)) else cbo c a.toNat (b.toNat - 1)
theorem rpw_id {m p q : Nat} {R : Rel} (h : ∀ p q, R p q ↔ p = q) : rpw R m p q ↔ p = q := by
  induction m generalizing p with
  | zero => exact Iff.rfl
  | succ m ih =>
    constructor
    · rintro ⟨r, r1, r2⟩
      exact ((h p r).1 r1).trans (ih.1 r2)
    · intro e
      exact ⟨p, (h p p).2 rfl, ih.2 e⟩
theorem pw_id {R : Rel} {a b : Int} (h : ∀ p q, R p q ↔ p = q) (ha : 0 ≤ a) (hb : b = -1 ∨ a ≤ b) (p q : Nat) : p = q ↔ pwR R a b p q := by
  constructor
  · intro e
    exact ⟨a.toNat, by omega, by omega, (rpw_id h).2 e⟩
  · rintro ⟨m, _, _, r⟩
    exact (rpw_id h).1 r
theorem pw_00 (R : Rel) (p q : Nat) : p = q ↔ pwR R 0 0 p q := by
  constructor
  · intro e
    exact ⟨0, by omega, by omega, e⟩
  · rintro ⟨m, _, b, r⟩
    have e : m = 0 := by omega
    subst e
    exact r
theorem kd_rpc {N : Nat} {t : Nat → Int} {ft : Nat × (Nat → Int → Prop)} {c : List Int} {z D D' : Nat} {R : Rel} {a b : Int} (h : Kd N t ft c z D R) (hz : z = 0 → ∀ p q, R p q ↔ p = q) (ha : 0 ≤ a) (hb : -1 ≤ b) (hab : b = -1 ∨ a ≤ b) (h1 : 1 ≤ D') (hD : ¬ (z = 0 ∨ b = 0) → D + (cps a b - 1) ≤ D') : Kd N t ft (rpc c z a b) (z * cps a b) D' (pwR R a b) := by
  have d1 := h.1
  unfold rpc
  by_cases c0 : z = 0 ∨ b = 0
  · rw [if_pos c0]
    rcases c0 with e | e
    · rw [e, Nat.zero_mul]
      exact kd_mono (kd_empty N t ft) (by omega) (pw_id (hz e) ha hab)
    · have ea : a = 0 := by omega
      subst e ea
      rw [show cps 0 0 = 0 from rfl, Nat.mul_zero]
      exact kd_mono (kd_empty N t ft) (by omega) (pw_00 R)
  · have hD := hD c0
    rw [if_neg c0]
    by_cases cb : b < 0
    · rw [if_pos cb]
      have eb : b = -1 := by omega
      subst eb
      by_cases ca : a = 0
      · rw [if_pos ca, ca, show cps 0 (-1) = 1 from rfl, Nat.mul_one]
        exact kd_mono (kd_un (w := -3) (R' := pwR R 0 (-1)) h (Or.inl ⟨rfl, fun _ _ => Iff.rfl⟩)) (by omega) (fun _ _ => Iff.rfl)
      · have e : cps a (-1) = a.toNat - 1 + 1 := by
          unfold cps
          rw [if_pos rfl, if_neg (by omega)]
          omega
        rw [if_neg ca]
        rw [e] at hD ⊢
        have := kd_cun h (a.toNat - 1)
        refine kd_mono this (by omega) (fun p q => ?_)
        rw [show ((a.toNat - 1 + 1 : Nat) : Int) = a by omega]
    · rw [if_neg cb]
      have e : cps a b = b.toNat - 1 + 1 := by
        unfold cps
        rw [if_neg (by omega)]
        omega
      rw [e] at hD ⊢
      have := kd_cbo (a := a.toNat) h (b.toNat - 1)
      refine kd_mono this (by omega) (fun p q => ?_)
      rw [show ((b.toNat - 1 + 1 : Nat) : Int) = b by omega, show ((min a.toNat (b.toNat - 1 + 1) : Nat) : Int) = a by omega]
def mx (z : Nat) : Nat := if z = 0 then 1 else z
theorem mx_pos (z : Nat) : 1 ≤ mx z := by unfold mx; split <;> omega
theorem mx_le {a b : Nat} (h : a ≤ b) : mx a ≤ mx b := by unfold mx; split <;> split <;> omega
theorem len_rpc {c : List Int} {z w : Nat} {a b : Int} (ha : 0 ≤ a) (hb : -1 ≤ b) (hc : c.length + 1 ≤ 2 * w * mx z) : (rpc c z a b).length + 1 ≤ 2 * (w + 1) * mx (z * cps a b) := by
  have key : ¬ z = 0 → ∀ L m : Nat, 1 ≤ m → L + 1 ≤ m * (c.length + 2) → L + 1 ≤ 2 * (w + 1) * mx (z * m) := fun zn L m hm hL => by
    have e1 : mx (z * m) = z * m := by
      unfold mx
      rw [if_neg]
      intro e
      rcases Nat.mul_eq_zero.1 e with e | e
      · exact zn e
      · omega
    have e2 : mx z = z := by unfold mx; rw [if_neg zn]
    rw [e1]
    rw [e2] at hc
    have s1 : m * (c.length + 2) ≤ m * (2 * w * z + 1) := Nat.mul_le_mul_left m (by omega)
    have s2 : m * (2 * w * z + 1) = 2 * w * (z * m) + m := by
      rw [Nat.mul_add, Nat.mul_one, Nat.mul_comm m (2 * w * z), Nat.mul_assoc (2 * w) z m]
    have s3 : 2 * (w + 1) * (z * m) = 2 * w * (z * m) + 2 * (z * m) := by
      rw [Nat.mul_add, Nat.add_mul]
    have s4 : m ≤ z * m := Nat.le_mul_of_pos_left m (by omega)
    omega
  unfold rpc
  by_cases c0 : z = 0 ∨ b = 0
  · rw [if_pos c0]
    show 1 + 1 ≤ _
    have := mx_pos (z * cps a b)
    have := Nat.mul_le_mul (show 2 ≤ 2 * (w + 1) by omega) this
    omega
  · rw [if_neg c0]
    have zn : ¬ z = 0 := fun e => c0 (Or.inl e)
    by_cases cb : b < 0
    · rw [if_pos cb]
      have eb : b = -1 := by omega
      subst eb
      by_cases ca : a = 0
      · rw [if_pos ca, ca, show cps 0 (-1) = 1 from rfl]
        refine key zn _ 1 (by omega) ?_
        rw [List.length_append]
        show c.length + 1 + 1 ≤ _
        omega
      · have e : cps a (-1) = a.toNat - 1 + 1 := by
          unfold cps
          rw [if_pos rfl, if_neg (by omega)]
          omega
        rw [if_neg ca, e]
        refine key zn _ _ (by omega) ?_
        unfold cun
        rw [List.length_append, List.length_append, crep_len, List.length_replicate]
        show (a.toNat - 1 + 1) * c.length + 1 + (a.toNat - 1) + 1 ≤ _
        generalize a.toNat - 1 = j
        rw [Nat.mul_add]
        omega
    · rw [if_neg cb]
      have e : cps a b = b.toNat - 1 + 1 := by
        unfold cps
        rw [if_neg (by omega)]
        omega
      rw [e]
      exact key zn _ _ (by omega) (cbo_len c a.toNat (b.toNat - 1))
theorem sM_repeat {d dd z : Nat} {Lp c : List Int} {A : iz_A} {P : iz_A → Prop} {a b : Int} (hd : dd < 22) (h : MkR (Lp ++ c) A) (h80 : A.1 80 dd = ((min Lp.length 59990 : Nat) : Int)) (h78 : A.2 78 dd = 0 ↔ z = 0) (ha : 0 ≤ a ∧ a ≤ 99) (hb : -1 ≤ b ∧ b ≤ 99) (hP : ∀ C, fr [55, 83] A C → ff [48] (A.1 55) (C.1 55) → MkR (Lp ++ rpc c z a b) C → P C) : Cv (d + 3) 217 [.inr (.inl 55), .inl (dd : Int), .inl a, .inl b] A P := by
  have h48 : A.1 55 48 = ((min (Lp.length + c.length) 59990 : Nat) : Int) := by
    have := h.1
    rw [List.length_append] at this
    exact this
  have drop : (z = 0 ∨ b = 0) → Cv (d + 2) 212 [.inr (.inl 55), .inl (-6)] (iz_pI A 55 (uz (A.1 55) 48 ((A.1 80) dd))) (fun A1 => none = (none : Option iz_V) ∧ P A1) := fun hz => by
    have m : MkR Lp (iz_pI A 55 (uz (A.1 55) 48 ((A.1 80) dd))) := mk_cut h rfl h80
    refine sM_add m (fun C f g m' => ⟨rfl, hP C (fr_mo (fr_tr (fr_pI (l := [55]) (fr_mo (fr_rf A) (by decide)) (by decide)) f) (by decide)) (ff_tr (ff_uz (ff_eq rfl) (by decide)) g) ?_⟩)
    unfold rpc
    rw [if_pos hz]
    exact m'
  refine e_X11_repeat ?_
  rw [tn, lcmp0]
  refine ⟨⟨by omega, by omega⟩, ⟨by omega, by omega⟩, fun y => drop (Or.inl (h78.1 y)), fun y => ⟨fun b0 => ?_, fun b0 => drop (Or.inr b0)⟩⟩
  have zn : ¬ z = 0 := fun e => y (h78.2 e)
  have c0 : ¬ (z = 0 ∨ b = 0) := fun w => w.elim zn b0
  unfold rpc at hP
  rw [if_neg c0] at hP
  refine ⟨fun bp => ?_, fun bn => ?_⟩
  · -- so often
    rw [if_neg (by omega)] at hP
    have loop : ∀ B, fr [55, 83] A B → ff [48] (A.1 55) (B.1 55) → MkR (Lp ++ cbo c a.toNat 0) B → Rn (d + 2) mX11_repeat (fun v A' => v = none ∧ P A') 118 [some (.inr (.inl 55)), some (.inl ((dd : Int))), some (.inl a), some (.inl b), some (.inl (A.1 80 dd)), some (.inl (A.1 55 48)), some (.inl 1)] [] B := by
      intro B f g m
      refine dwl (P := fun k => ∀ B, fr [55, 83] A B → ff [48] (A.1 55) (B.1 55) → MkR (Lp ++ cbo c a.toNat (k - 1)) B → Rn (d + 2) mX11_repeat (fun v A' => v = none ∧ P A') 118 [some (.inr (.inl 55)), some (.inl ((dd : Int))), some (.inl a), some (.inl b), some (.inl (A.1 80 dd)), some (.inl (A.1 55 48)), some (.inl ((k : Int)))] [] B) (a := 1) (n := b.toNat) ?_ (fun k k1 hk ih => ?_) (by omega) B f g m
      · intro B f g m
        exact w_X11_repeat_118 ⟨fun _ => ⟨rfl, hP B f g m⟩, fun z => by omega⟩
      · intro B f g m
        obtain ⟨k, rfl⟩ : ∃ k', k = k' + 1 := ⟨k - 1, (by omega)⟩
        rw [show k + 1 - 1 = k by omega] at m
        rw [show k + 1 + 1 - 1 = k + 1 by omega] at ih
        have pre : ∃ X, cbo c a.toNat k = c ++ X := by
          clear ih m hk
          induction k with
          | zero => exact ⟨_, rfl⟩
          | succ k ihk =>
            obtain ⟨X, e⟩ := ihk (by omega)
            exact ⟨X ++ (c ++ (if a.toNat ≤ k + 1 then [-5] else [])) ++ [-1], by unfold cbo; rw [e]; simp only [List.append_assoc]⟩
        obtain ⟨X, eX⟩ := pre
        refine w_X11_repeat_118 ⟨fun z => by omega, fun _ => ?_⟩
        rw [eX, ← List.append_assoc] at m
        refine sM_again m h80 h48 (fun C f' g' m' => ?_)
        have fC := fr_mo (fr_tr f f') (l' := [55, 83]) (by decide)
        have gC := ff_tr g g'
        refine ⟨fun w => sM_add m' (fun E f2 g2 m2 => ⟨inR_b (by omega) (by omega), ?_⟩), fun w => sM_add m' (fun E f2 g2 m2 => sM_add m2 (fun F f3 g3 m3 => ⟨inR_b (by omega) (by omega), ?_⟩))⟩
        · have := ih E (fr_mo (fr_tr fC f2) (by decide)) (ff_tr gC g2) (by
            unfold cbo
            rw [if_neg (by omega), eX, List.append_nil]
            simp only [List.append_assoc] at m2 ⊢
            exact m2)
          rw [show ((k + 1 : Nat) : Int) + 1 = ((k + 1 + 1 : Nat) : Int) by omega]
          exact this
        · have := ih F (fr_mo (fr_tr fC (fr_tr f2 f3)) (by decide)) (ff_tr gC (ff_tr g2 g3)) (by
            unfold cbo
            rw [if_pos (by omega), eX]
            simp only [List.append_assoc] at m3 ⊢
            exact m3)
          rw [show ((k + 1 : Nat) : Int) + 1 = ((k + 1 + 1 : Nat) : Int) by omega]
          exact this
    refine ⟨fun an => loop A (fr_mo (fr_rf A) (by decide)) (ff_eq rfl) (by unfold cbo; rw [if_neg (by omega), List.append_nil]; exact h), fun a0 => sM_add h (fun C f g m => loop C f g (by unfold cbo; rw [if_pos (by omega), ← List.append_assoc]; exact m))⟩
  · -- without an end
    rw [if_pos (by omega)] at hP
    have join : ∀ (j : Nat) B, (j : Int) + 1 = a → fr [55, 83] A B → ff [48] (A.1 55) (B.1 55) → MkR (Lp ++ crep c (j + 1) ++ [-4]) B → Rn (d + 2) mX11_repeat (fun v A' => v = none ∧ P A') 87 [some (.inr (.inl 55)), some (.inl ((dd : Int))), some (.inl a), some (.inl b), some (.inl (A.1 80 dd)), some (.inl (A.1 55 48)), some (.inl 1)] [] B := by
      intro j B ja f g m
      refine dwl (P := fun k => ∀ B, fr [55, 83] A B → ff [48] (A.1 55) (B.1 55) → MkR (Lp ++ crep c (j + 1) ++ [-4] ++ List.replicate (k - 1) (-1)) B → Rn (d + 2) mX11_repeat (fun v A' => v = none ∧ P A') 87 [some (.inr (.inl 55)), some (.inl ((dd : Int))), some (.inl a), some (.inl b), some (.inl (A.1 80 dd)), some (.inl (A.1 55 48)), some (.inl ((k : Int)))] [] B) (a := 1) (n := j + 1) ?_ (fun k k1 hk ih => ?_) (by omega) B f g (by simpa using m)
      · intro B f g m
        refine w_X11_repeat_87 ⟨fun _ => ⟨rfl, hP B f g ?_⟩, fun z => by omega⟩
        rw [if_neg (by omega), show a.toNat - 1 = j by omega]
        unfold cun
        rw [show j + 1 - 1 = j by omega] at m
        simp only [List.append_assoc] at m ⊢
        exact m
      · intro B f g m
        refine w_X11_repeat_87 ⟨fun z => by omega, fun _ => sM_add m (fun C f' g' m' => ⟨inR_b (by omega) (by omega), ?_⟩)⟩
        rw [show (k : Int) + 1 = ((k + 1 : Nat) : Int) by omega]
        refine ih C (fr_mo (fr_tr f f') (by decide)) (ff_tr g g') ?_
        rw [show k + 1 - 1 = (k - 1) + 1 by omega, List.replicate_succ', ← List.append_assoc]
        exact m'
    by_cases a0 : a = 0
    · refine w_X11_repeat_49 ⟨fun _ => ⟨fun w => absurd a0 w, fun _ => sM_add h (fun C f g m => w_X11_repeat_87 ⟨fun _ => ⟨rfl, hP C f g ?_⟩, fun z => by omega⟩)⟩, fun z => by omega⟩
      rw [if_pos a0, ← List.append_assoc]
      exact m
    · refine dwl (P := fun k => ∀ B, fr [55, 83] A B → ff [48] (A.1 55) (B.1 55) → MkR (Lp ++ crep c k) B → Rn (d + 2) mX11_repeat (fun v A' => v = none ∧ P A') 49 [some (.inr (.inl 55)), some (.inl ((dd : Int))), some (.inl a), some (.inl b), some (.inl (A.1 80 dd)), some (.inl (A.1 55 48)), some (.inl ((k : Int)))] [] B) (a := 1) (n := a.toNat) ?_ (fun k k1 hk ih => ?_) (by omega) A (fr_mo (fr_rf A) (by decide)) (ff_eq rfl) (by show MkR (Lp ++ (c ++ [])) A; rw [List.append_nil]; exact h)
      · intro B f g m
        refine w_X11_repeat_49 ⟨fun _ => ⟨fun _ => sM_add m (fun C f' g' m' => ?_), fun w => absurd w a0⟩, fun z => by omega⟩
        refine join (a.toNat - 1) C (by omega) (fr_mo (fr_tr f f') (by decide)) (ff_tr g g') ?_
        rw [show a.toNat - 1 + 1 = a.toNat by omega]
        exact m'
      · intro B f g m
        obtain ⟨k, rfl⟩ : ∃ k', k = k' + 1 := ⟨k - 1, (by omega)⟩
        refine w_X11_repeat_49 ⟨fun z => by omega, fun _ => ?_⟩
        have m : MkR (Lp ++ c ++ crep c k) B := by rw [List.append_assoc]; exact m
        refine sM_again m h80 h48 (fun C f' g' m' => ⟨inR_b (by omega) (by omega), ?_⟩)
        rw [show ((k + 1 : Nat) : Int) + 1 = ((k + 1 + 1 : Nat) : Int) by omega]
        refine ih C (fr_mo (fr_tr f f') (by decide)) (ff_tr g g') ?_
        rw [crep_snoc]
        show MkR (Lp ++ ((c ++ crep c k) ++ c)) C
        simp only [List.append_assoc] at m' ⊢
        exact m'
