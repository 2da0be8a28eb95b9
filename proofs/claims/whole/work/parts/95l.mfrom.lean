/-! ===== the reference matches from a place ===== -/
def Fw (ok G : Nat → Nat → Prop) (F : Nat → Prop) (p : Nat) : Nat → Nat → Prop
  | 0, x => F x
  | k + 1, x => ∃ y, Fw ok G F p k y ∧ ok y (p + k) ∧ G y x
theorem fw_wk {ok G : Nat → Nat → Prop} {F L : Nat → Prop} {p : Nat} : ∀ j i, (∃ x, Fw ok G F p i x ∧ Wk ok G L (j + 1) x (p + i)) ↔ ∃ x, Fw ok G F p (i + j) x ∧ ok x (p + (i + j)) ∧ L x := by
  intro j
  induction j with
  | zero =>
    intro i
    constructor
    · rintro ⟨x, f, o, ⟨-, l⟩ | ⟨y, g, w⟩⟩
      · exact ⟨x, f, o, l⟩
      · exact w.elim
    · rintro ⟨x, f, o, l⟩
      exact ⟨x, f, o, Or.inl ⟨rfl, l⟩⟩
  | succ j ih =>
    intro i
    have e := ih (i + 1)
    rw [show i + 1 + j = i + (j + 1) by omega] at e
    rw [← e]
    constructor
    · rintro ⟨x, f, o, ⟨h, -⟩ | ⟨y, g, w⟩⟩
      · omega
      · exact ⟨y, ⟨x, f, o, g⟩, w⟩
    · rintro ⟨y, ⟨x, f, o, g⟩, w⟩
      exact ⟨x, f, o, Or.inr ⟨y, g, w⟩⟩
/-- the lengths at a place -/
def Mlen (R : Rel) (p k : Nat) : Prop := 0 < k ∧ R p (p + k)
theorem mt_fw {ok G : Nat → Nat → Prop} {F L : Nat → Prop} {lo hi : Nat} {E : Prop} {R : Rel} (h : Gl ok lo hi E F L G R) (p k : Nat) : Mlen R p (k + 1) ↔ ∃ x, Fw ok G F p k x ∧ ok x (p + k) ∧ L x := by
  have w := fw_wk (ok := ok) (G := G) (F := F) (L := L) (p := p) k 0
  rw [Nat.zero_add] at w
  rw [← w]
  unfold Mlen
  rw [h.2.2.2.2.2 p (k + 1) (Nat.succ_pos k)]
  exact ⟨fun z => z.2, fun z => ⟨Nat.succ_pos k, z⟩⟩
theorem fw_in {ok G : Nat → Nat → Prop} {F L : Nat → Prop} {lo hi : Nat} {E : Prop} {R : Rel} (h : Gl ok lo hi E F L G R) (p : Nat) : ∀ k x, Fw ok G F p k x → lo ≤ x ∧ x < hi := by
  intro k
  induction k with
  | zero => intro x f; exact h.1 x f
  | succ k ih =>
    rintro x ⟨y, f, o, g⟩
    have c := ih y f
    exact h.2.2.1 y x c.1 c.2 g
theorem fw_none {ok G : Nat → Nat → Prop} {F : Nat → Prop} {p k : Nat} (h : ∀ x, ¬ (Fw ok G F p k x ∧ ok x (p + k))) : ∀ j x, ¬ (Fw ok G F p (k + j) x ∧ ok x (p + (k + j))) := by
  intro j
  induction j with
  | zero => exact h
  | succ j ih =>
    rintro x ⟨⟨y, f, o, g⟩, -⟩
    exact ih y ⟨f, o⟩
theorem sM_fits {d am cm i c : Nat} {A : iz_A} {P : Int → iz_A → Prop} (hi : i < 128) (ha : AtR am cm A) (hc : 2 * cm ≤ 200) (ham : am ≤ 200) (h87 : 0 ≤ A.1 87 i ∧ A.1 87 i < (am : Int)) (hcb : c < 256) (h1 : fitA A (A.1 87 i).toNat (c : Int) → P 1 A) (h0 : ¬ fitA A (A.1 87 i).toNat (c : Int) → P 0 A) : Ci (d + 1) 223 [.inr (.inl 55), .inl (i : Int), .inl (c : Int)] A P := by
  have at' := ha (A.1 87 i).toNat (by omega)
  refine e_X11_fits ?_
  rw [tn]
  unfold fitA at h1 h0
  generalize A.1 84 (A.1 87 i).toNat = w at *
  refine ⟨⟨by omega, by omega⟩, ⟨by omega, by omega⟩, fun z => ⟨Or.inr rfl, _, rfl, h1 (Or.inl z)⟩, fun z => ⟨fun y => ⟨fun v => ⟨Or.inl rfl, _, rfl, h0 (fun u => by omega)⟩, fun v => ⟨Or.inr rfl, _, rfl, h1 (Or.inr ⟨z, Or.inr ⟨y, v⟩⟩)⟩⟩, fun y => ?_⟩⟩
  have e : (256 * (w - 1000) + (c : Int)).toNat = 256 * (w - 1000).toNat + (c : Int).toNat := (by omega)
  rw [e]
  refine ⟨inR_b (by omega) (by omega), inR_b (by omega) (by omega), inR_b (by omega) (by omega), ⟨by omega, by omega⟩, fun v => ⟨Or.inl rfl, _, rfl, h0 (fun u => ?_)⟩, fun v => ⟨Or.inr rfl, _, rfl, h1 (Or.inr ⟨z, Or.inl ⟨(by omega), v⟩⟩)⟩⟩
  rcases u with u | ⟨-, ⟨-, u⟩ | ⟨u, -⟩⟩
  · exact z u
  · exact u v
  · exact y u
/-- one byte -/
theorem sM_inner {dd z am cm c p : Nat} {A : iz_A} {P : iz_A → Prop} {v2 v4 : Int64} {v6 v7 v8 v9 : Int} (hz : A.1 55 55 = (z : Int)) (hzb : z ≤ 120) (ha : AtR am cm A) (hc : 2 * cm ≤ 200) (ham : am ≤ 200) (h87 : ∀ x, x < z → 0 ≤ A.1 87 x ∧ A.1 87 x < (am : Int)) (hcb : c < 256) (h : ∀ v11 v13 v15 v17 : Int64, (∀ x, b2 v11 v13 x ↔ (x < z ∧ b2 v2 v4 x ∧ fitA A (A.1 87 x).toNat (c : Int))) → (∀ y, b2 v15 v17 y ↔ ∃ x, x < z ∧ b2 v2 v4 x ∧ fitA A (A.1 87 x).toNat (c : Int) ∧ fG A x y) → Rn (dd + 1) mX11_matchFrom (fun v A' => v = none ∧ P A') 73 [some (.inr (.inl 55)), some (.inl ((p : Int))), some (.inr (.inr v2)), none, some (.inr (.inr v4)), none, some (.inl v6), some (.inl v7), some (.inl v8), some (.inl v9), some (.inl ((c : Int))), some (.inr (.inr v11)), none, some (.inr (.inr v13)), none, some (.inr (.inr v15)), none, some (.inr (.inr v17)), none, some (.inl ((z : Int))), none] [] A) : Rn (dd + 1) mX11_matchFrom (fun v A' => v = none ∧ P A') 73 [some (.inr (.inl 55)), some (.inl ((p : Int))), some (.inr (.inr v2)), none, some (.inr (.inr v4)), none, some (.inl v6), some (.inl v7), some (.inl v8), some (.inl v9), some (.inl ((c : Int))), some (.inr (.inr 0)), none, some (.inr (.inr 0)), none, some (.inr (.inr 0)), none, some (.inr (.inr 0)), none, some (.inl 0), none] [] A := by
  refine dwl (P := fun i => ∀ v11 v13 v15 v17 : Int64, (∀ x, b2 v11 v13 x ↔ (x < i ∧ b2 v2 v4 x ∧ fitA A (A.1 87 x).toNat (c : Int))) → (∀ y, b2 v15 v17 y ↔ ∃ x, x < i ∧ b2 v2 v4 x ∧ fitA A (A.1 87 x).toNat (c : Int) ∧ fG A x y) → Rn (dd + 1) mX11_matchFrom (fun v A' => v = none ∧ P A') 73 [some (.inr (.inl 55)), some (.inl ((p : Int))), some (.inr (.inr v2)), none, some (.inr (.inr v4)), none, some (.inl v6), some (.inl v7), some (.inl v8), some (.inl v9), some (.inl ((c : Int))), some (.inr (.inr v11)), none, some (.inr (.inr v13)), none, some (.inr (.inr v15)), none, some (.inr (.inr v17)), none, some (.inl ((i : Int))), none] [] A) (a := 0) (n := z) h (fun i _ hi ih => ?_) (Nat.zero_le _) 0 0 0 0 (fun x => ⟨fun b => absurd b (b2_0 x), fun b => absurd b.1 (Nat.not_lt_zero x)⟩) (fun y => ⟨fun b => absurd b (b2_0 y), fun ⟨x, b, _⟩ => absurd b (Nat.not_lt_zero x)⟩)
  intro v11 v13 v15 v17 hs hn
  rw [show ((i + 1 : Nat) : Int) = (i : Int) + 1 by omega] at ih
  have no : ¬ (b2 v2 v4 i ∧ fitA A (A.1 87 i).toNat (c : Int)) → Rn (dd + 1) mX11_matchFrom (fun v A' => v = none ∧ P A') 136 [some (.inr (.inl 55)), some (.inl ((p : Int))), some (.inr (.inr v2)), none, some (.inr (.inr v4)), none, some (.inl v6), some (.inl v7), some (.inl v8), some (.inl v9), some (.inl ((c : Int))), some (.inr (.inr v11)), none, some (.inr (.inr v13)), none, some (.inr (.inr v15)), none, some (.inr (.inr v17)), none, some (.inl ((i : Int))), some (.inl 0)] [] A := fun hno => by
    refine w_X11_matchFrom_136 ⟨fun _ => w_X11_matchFrom_208 ⟨inR_b (by omega) (by omega), ih v11 v13 v15 v17 (fun x => ?_) (fun y => ?_)⟩, fun w => absurd rfl w⟩
    · rw [hs x]
      constructor
      · rintro ⟨a, b⟩
        exact ⟨(by omega), b⟩
      · rintro ⟨a, b⟩
        refine ⟨?_, b⟩
        have : x ≠ i := fun e => hno (e ▸ b)
        omega
    · rw [hn y]
      constructor
      · rintro ⟨x, a, b⟩
        exact ⟨x, (by omega), b⟩
      · rintro ⟨x, a, b, b', g⟩
        have : x ≠ i := fun e => hno (e ▸ ⟨b, b'⟩)
        exact ⟨x, (by omega), b, b', g⟩
  have yes : b2 v2 v4 i → fitA A (A.1 87 i).toNat (c : Int) → Rn (dd + 1) mX11_matchFrom (fun v A' => v = none ∧ P A') 136 [some (.inr (.inl 55)), some (.inl ((p : Int))), some (.inr (.inr v2)), none, some (.inr (.inr v4)), none, some (.inl v6), some (.inl v7), some (.inl v8), some (.inl v9), some (.inl ((c : Int))), some (.inr (.inr v11)), none, some (.inr (.inr v13)), none, some (.inr (.inr v15)), none, some (.inr (.inr v17)), none, some (.inl ((i : Int))), some (.inl 1)] [] A := fun hb hf => by
    have fin : ∀ u11 u13 : Int64, (∀ x, b2 u11 u13 x ↔ (b2 v11 v13 x ∨ x = i)) → Rn (dd + 1) mX11_matchFrom (fun v A' => v = none ∧ P A') 184 [some (.inr (.inl 55)), some (.inl ((p : Int))), some (.inr (.inr v2)), none, some (.inr (.inr v4)), none, some (.inl v6), some (.inl v7), some (.inl v8), some (.inl v9), some (.inl ((c : Int))), some (.inr (.inr u11)), none, some (.inr (.inr u13)), none, some (.inr (.inr v15)), none, some (.inr (.inr v17)), none, some (.inl ((i : Int))), some (.inl 1)] [] A := fun u11 u13 hu => by
      refine w_X11_matchFrom_184 ?_
      rw [tn]
      refine ⟨⟨by omega, by omega⟩, ⟨by omega, by omega⟩, w_X11_matchFrom_208 ⟨inR_b (by omega) (by omega), ih u11 u13 _ _ (fun x => ?_) (fun y => ?_)⟩⟩
      · rw [hu x, hs x]
        constructor
        · rintro (⟨a, b⟩ | a)
          · exact ⟨(by omega), b⟩
          · exact ⟨(by omega), a ▸ hb, a ▸ hf⟩
        · rintro ⟨a, b⟩
          by_cases e : x = i
          · exact Or.inr e
          · exact Or.inl ⟨(by omega), b⟩
      · rw [b2_or, hn y]
        constructor
        · rintro (⟨x, a, b⟩ | a)
          · exact ⟨x, (by omega), b⟩
          · exact ⟨i, (by omega), hb, hf, a⟩
        · rintro ⟨x, a, b, b', g⟩
          by_cases e : x = i
          · exact Or.inr (e ▸ g)
          · exact Or.inl ⟨x, (by omega), b, b', g⟩
    refine w_X11_matchFrom_136 ⟨fun w => absurd w (by decide), fun _ => ⟨fun w => ?_, fun w => ?_⟩⟩
    · refine w_X11_matchFrom_161 ⟨fun _ => ⟨inR_b (by omega) (by omega), ?_⟩, fun w' => absurd w w'⟩
      rw [show (i : Int) - 64 = ((i - 64 : Nat) : Int) by omega]
      refine fin _ _ (fun x => ?_)
      rw [b2_or, b2_one' (show i - 64 < 64 by omega)]
      exact or_congr Iff.rfl ⟨fun e => by omega, fun e => by omega⟩
    · refine w_X11_matchFrom_161 ⟨fun w' => absurd w' w, fun _ => ?_⟩
      refine fin _ _ (fun x => ?_)
      rw [b2_or, b2_one (show i < 64 by omega)]
  have test : b2 v2 v4 i → Rn (dd + 1) mX11_matchFrom (fun v A' => v = none ∧ P A') 118 [some (.inr (.inl 55)), some (.inl ((p : Int))), some (.inr (.inr v2)), none, some (.inr (.inr v4)), none, some (.inl v6), some (.inl v7), some (.inl v8), some (.inl v9), some (.inl ((c : Int))), some (.inr (.inr v11)), none, some (.inr (.inr v13)), none, some (.inr (.inr v15)), none, some (.inr (.inr v17)), none, some (.inl ((i : Int))), none] [] A := fun hb => w_X11_matchFrom_118 (sM_fits (by omega) ha hc ham (h87 i hi) hcb (fun hf => ⟨fun w => absurd w (by decide), fun _ => yes hb hf⟩) (fun hf => ⟨fun _ => w_X11_matchFrom_133 (no (fun w => hf w.2)), fun w => absurd rfl w⟩))
  refine w_X11_matchFrom_73 ⟨fun w => by omega, fun _ => ⟨fun z64 => ⟨inR_b (by omega) (by omega), fun w => ?_, fun w => ?_⟩, fun z64 => ⟨fun w => ?_, fun w => ?_⟩⟩⟩
  · rw [show (i : Int) - 64 = ((i - 64 : Nat) : Int) by omega, tb_ssh _ (show i - 64 < 64 by omega)] at w
    exact w_X11_matchFrom_133 (no (fun b => b.1.elim (fun u => by omega) (fun u => w u.2.2)))
  · rw [show (i : Int) - 64 = ((i - 64 : Nat) : Int) by omega, tb_ssh _ (show i - 64 < 64 by omega)] at w
    exact test (Or.inr ⟨(by omega), (by omega), w⟩)
  · rw [tb_ssh _ (show i < 64 by omega)] at w
    exact w_X11_matchFrom_133 (no (fun b => b.1.elim (fun u => w u.2) (fun u => by omega)))
  · rw [tb_ssh _ (show i < 64 by omega)] at w
    exact test (Or.inl ⟨(by omega), w⟩)
