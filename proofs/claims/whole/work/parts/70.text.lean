/-! ===== the text of an index ===== -/
/-- x has the text that the book has -/
def Bx (A : iz_A) (x : Ix) : Prop := TxOk x ∧ A.1 1 3 = (ixm x : Int) ∧ (∀ d, d ≤ ixm x → A.1 3 d = (ixF x d : Int)) ∧ A.1 55 1 = (ixn x : Int) ∧ A.1 55 3 = (ixm x : Int) ∧ (∀ d, d < ixm x → A.1 57 d = (ixl x d : Int)) ∧ ∀ p, p < ixn x → (p < ixF x (ixo x p) + ixl x (ixo x p) → A.1 2 p = ixt x p) ∧ A.1 56 p = (if ixt x p < 0 then -1 else ixt x p)
theorem bx_of {A : iz_A} (h : InvB A) (h0 : ¬ A.1 1 3 = 0) : ∃ x, Bx A x := by
  obtain ⟨D, hh, F, q1, q2, q3, q4, q5, q6, q7, q8, q9, q10, q11, q12, q13⟩ := h
  have D1 : 1 ≤ D := (by omega)
  have ex : ∀ p, ∃ d, p < F D → d < D ∧ F d ≤ p ∧ p < F (d + 1) := fun p => by
    by_cases hp : p < F D
    · obtain ⟨k, k1, k2, k3⟩ := least_ex (P := fun d => p < F d) hp
      have k0 : k ≠ 0 := fun e => by rw [e, q7] at k2; omega
      have := k3 (k - 1) (by omega)
      exact ⟨k - 1, fun _ => ⟨(by omega), (by omega), by rw [show k - 1 + 1 = k by omega]; exact k2⟩⟩
    · exact ⟨0, fun z => absurd z hp⟩
  obtain ⟨o, ho⟩ := Classical.axiomOfChoice ex
  have hF : ∀ d, d < D → F (d + 1) = F d + (A.1 57 d).toNat + 1 := fun d hd => (q9 d hd).2
  refine ⟨(F D, D, F, fun d => (A.1 57 d).toNat, fun p => if p = F (o p) + (A.1 57 (o p)).toNat then (o p : Int) - 40 else A.1 2 p, o, fun _ => 0, fun _ => 0, fun _ => 0), ⟨D1, q1, q10, q7, hF, rfl, fun p hp => ?_⟩, q3, q8, q11, q4, fun d hd => ?_, fun p hp => ?_⟩
  · obtain ⟨o1, o2, o3⟩ := ho p hp
    have := hF (o p) o1
    refine ⟨o1, o2, ?_, fun z => ?_, fun z => ?_⟩
    · show p ≤ F (o p) + (A.1 57 (o p)).toNat
      omega
    · show 0 ≤ (if p = F (o p) + (A.1 57 (o p)).toNat then (o p : Int) - 40 else A.1 2 p) ∧ (if p = F (o p) + (A.1 57 (o p)).toNat then (o p : Int) - 40 else A.1 2 p) < 256
      have z' : p < F (o p) + (A.1 57 (o p)).toNat := z
      rw [if_neg (by omega)]
      exact ((q13 (o p) o1).1 p o2 z').2
    · exact if_pos z
  · have := (q9 d hd).1
    show A.1 57 d = ((A.1 57 d).toNat : Int)
    omega
  · obtain ⟨o1, o2, o3⟩ := ho p hp
    have := hF (o p) o1
    show (p < F (o p) + (A.1 57 (o p)).toNat → A.1 2 p = (if p = F (o p) + (A.1 57 (o p)).toNat then (o p : Int) - 40 else A.1 2 p)) ∧ A.1 56 p = (if (if p = F (o p) + (A.1 57 (o p)).toNat then (o p : Int) - 40 else A.1 2 p) < 0 then -1 else (if p = F (o p) + (A.1 57 (o p)).toNat then (o p : Int) - 40 else A.1 2 p))
    by_cases c : p = F (o p) + (A.1 57 (o p)).toNat
    · rw [if_pos c, if_pos (by omega)]
      refine ⟨fun z => by omega, ?_⟩
      have := (q13 (o p) o1).2.2
      rw [← c] at this
      exact this
    · rw [if_neg c]
      have k := (q13 (o p) o1).1 p o2 (by omega)
      rw [if_neg (by omega)]
      exact ⟨fun _ => rfl, k.1.symm⟩
theorem F_in {x : Ix} (h1 : TxOk x) {d : Nat} (hd : d ≤ ixm x) : ixF x d ≤ ixn x := by
  have := F_le h1 (ixm x) d hd (Nat.le_refl _)
  rw [h1.2.2.2.2.2.1] at this
  exact this
theorem F_own {x : Ix} (h1 : TxOk x) {p d : Nat} (hp : p < ixn x) (hd : d ≤ ixm x) : p < ixF x d ↔ ixo x p < d := by
  obtain ⟨a, b, c, -⟩ := h1.2.2.2.2.2.2 p hp
  have e := h1.2.2.2.2.1 (ixo x p) a
  constructor
  · intro z
    by_cases y : ixo x p < d
    · exact y
    · have := F_le h1 (ixo x p) d (by omega) (Nat.le_of_lt a)
      omega
  · intro z
    have := F_le h1 d (ixo x p + 1) z hd
    omega
theorem sX_learn {d : Nat} {A : iz_A} {x : Ix} {rt : Nat} {P : iz_A → Prop} (hb : Bx A x) (hP : ∀ S G c : Nat → Nat, Sod (ixn x) (ixt x) S G → PmOk (ixn x, ixm x, ixF x, ixl x, ixt x, ixo x, S, G, c) → SoOk (ixn x, ixm x, ixF x, ixl x, ixt x, ixo x, S, G, c) → ∀ C, fr [5, 6, 7, 8, 9, 10, 11, 12, 14, 15, 16] A C → XI (ixn x, ixm x, ixF x, ixl x, ixt x, ixo x, S, G, c) C → C.1 5 10 = (rt : Int) → C.1 5 11 = 0 → P C) : Cv (d + 5) 16 [.inr (.inl 5), .inr (.inl 1), .inl (rt : Int)] A P := by
  obtain ⟨h1, b3, b4, b5, b6, b7, b8⟩ := hb
  have nb := h1.2.2.1
  have mb := h1.2.1
  have hFn := h1.2.2.2.2.2.1
  refine e_X2_learn ?_
  rw [b3, tn, b4 _ (Nat.le_refl _), hFn]
  refine ⟨⟨by omega, by omega⟩, inR_b (by omega) (by omega), ⟨by decide, by decide, (by omega), (by omega), (by omega)⟩, ⟨by decide, by decide, (by omega), (by omega), (by omega)⟩, ?_⟩
  have start : ∀ B0, fr [5, 6, 7, 8, 9, 10, 11, 12, 14, 15, 16] A B0 → B0.1 5 8 = (ixn x : Int) → B0.1 5 9 = (ixm x : Int) → B0.1 5 10 = (rt : Int) → B0.1 5 11 = 0 → (∀ e, e ≤ ixm x → B0.1 8 e = (ixF x e : Int)) → (∀ p, p < ixn x → B0.1 6 p = A.1 2 p) → Rn (d + 4) mX2_learn (fun v A' => v = none ∧ P A') 69 [some (.inr (.inl 5)), some (.inr (.inl 1)), some (.inl ((rt : Int))), some (.inl 0)] [] B0 := by
    intro B0 f0 c8 c9 c10 c11 cF cT
    refine dwl (P := fun e => ∀ B, fr [5, 6, 7, 8, 9, 10, 11, 12, 14, 15, 16] A B → B.1 5 = B0.1 5 → B.1 8 = B0.1 8 → (∀ p, p < ixn x → B.1 6 p = (if ixo x p < e ∧ p = ixF x (ixo x p) + ixl x (ixo x p) then (ixo x p : Int) - 40 else A.1 2 p)) → (∀ p, p < ixn x → ixo x p < e → B.1 7 p = (ixo x p : Int)) → Rn (d + 4) mX2_learn (fun v A' => v = none ∧ P A') 69 [some (.inr (.inl 5)), some (.inr (.inl 1)), some (.inl ((rt : Int))), some (.inl ((e : Int)))] [] B) (a := 0) (n := ixm x) ?_ (fun e _ he ih => ?_) (Nat.zero_le _) B0 f0 rfl rfl (fun p hp => by rw [if_neg (by omega)]; exact cT p hp) (fun p _ z => by omega)
    · intro B f e5 e8 t6 t7
      refine w_X2_learn_69 ?_
      rw [e5, c9, c8]
      refine ⟨fun _ => ?_, fun z => by omega⟩
      have t6' : ∀ p, p < ixn x → B.1 6 p = ixt x p := fun p hp => by
        obtain ⟨a, b, c, -, g⟩ := h1.2.2.2.2.2.2 p hp
        rw [t6 p hp]
        by_cases y : p = ixF x (ixo x p) + ixl x (ixo x p)
        · rw [if_pos ⟨a, y⟩, g y]
        · rw [if_neg (fun z => y z.2)]
          exact (b8 p hp).1 (by omega)
      refine sX_arrange h1 t6' fun C fC S G hS s9 s10 => ?_
      obtain ⟨c, p2, p3⟩ := mk_ix hS
      have h0 : X0 (ixn x, ixm x, ixF x, ixl x, ixt x, ixo x, S, G, c) C := by
        refine ⟨by rw [fC.1 5 (by decide), e5]; exact c8, by rw [fC.1 5 (by decide), e5]; exact c9, fun p hp => ⟨by rw [fC.1 6 (by decide)]; exact t6' p hp, by rw [fC.1 7 (by decide)]; exact t7 p hp (h1.2.2.2.2.2.2 p hp).1, s10 p hp⟩, fun e he => by rw [fC.1 8 (by decide), e8]; exact cF e he, s9⟩
      have h1' : TxOk (ixn x, ixm x, ixF x, ixl x, ixt x, ixo x, S, G, c) := h1
      refine sX_alikes h1' p2 p3 h0 fun D fD d11 => ?_
      have h0d : X0 (ixn x, ixm x, ixF x, ixl x, ixt x, ixo x, S, G, c) D := X0_k h0 fD (by decide)
      refine sX_fronts h1' p2 h0d fun E fE e12 => ⟨rfl, ?_⟩
      have h0e : X0 (ixn x, ixm x, ixF x, ixl x, ixt x, ixo x, S, G, c) E := X0_k h0d fE (by decide)
      have e55 : E.1 5 = B0.1 5 := by rw [fE.1 5 (by decide), fD.1 5 (by decide), fC.1 5 (by decide), e5]
      exact hP S G c hS p2 p3 E (fr_mo (fr_tr f (fr_tr fC (fr_tr fD fE))) (by decide)) ⟨h0e.1, h0e.2.1, h0e.2.2.1, h0e.2.2.2.1, fun i hi => ⟨h0e.2.2.2.2 i hi, by rw [fE.1 11 (by decide)]; exact d11 i hi, e12 i hi⟩⟩ (by rw [e55]; exact c10) (by rw [e55]; exact c11)
    · intro B f e5 e8 t6 t7
      have Fe := h1.2.2.2.2.1 e he
      have F1 := F_in h1 (d := e + 1) he
      refine w_X2_learn_69 ?_
      rw [e5, c9, e8, tn e, show ((e : Int) + 1).toNat = e + 1 by omega, cF e (by omega), cF (e + 1) he]
      refine ⟨fun z => by omega, fun _ => ⟨⟨by omega, by omega⟩, inR_b (by omega) (by omega), ⟨by omega, by omega⟩, s_fill7 (by omega) (by omega) fun C fC c7 c7' => ?_⟩⟩
      refine e_X2_endOf ?_
      rw [show ((e : Int) + 1).toNat = e + 1 by omega, fC.1 8 (by decide), e8, cF (e + 1) he]
      refine ⟨inR_b (by omega) (by omega), ⟨by omega, by omega⟩, inR_b (by omega) (by omega), _, rfl, inR_b (by omega) (by omega), ⟨by omega, by omega⟩, inR_b (by omega) (by omega), ?_⟩
      rw [show ((e : Int) + 1) = ((e + 1 : Nat) : Int) by omega, show ((ixF x (e + 1) : Int) - 1).toNat = ixF x e + ixl x e by omega]
      refine ih _ (fr_pI (fr_mo (fr_tr f fC) (by decide)) (by decide)) (by show C.1 5 = _; rw [fC.1 5 (by decide)]; exact e5) (by show C.1 8 = _; rw [fC.1 8 (by decide)]; exact e8) (fun p hp => ?_) (fun p hp ho => ?_)
      · show uz (C.1 6) (ixF x e + ixl x e) _ p = _
        obtain ⟨a, b, c, -⟩ := h1.2.2.2.2.2.2 p hp
        by_cases y : p = ixF x e + ixl x e
        · have oe : ixo x p = e := own_of h1 he (by omega) (by omega)
          rw [oe, if_pos ⟨(by omega), y⟩, y, uz_at]
        · rw [uz_ne _ _ y, fC.1 6 (by decide), t6 p hp]
          by_cases w : ixo x p < e ∧ p = ixF x (ixo x p) + ixl x (ixo x p)
          · rw [if_pos w, if_pos ⟨(by omega), w.2⟩]
          · rw [if_neg w, if_neg]
            rintro ⟨w1, w2⟩
            by_cases w3 : ixo x p = e
            · rw [w3] at w2; exact y w2
            · exact w ⟨(by omega), w2⟩
      · show C.1 7 p = _
        obtain ⟨a, b, c, -⟩ := h1.2.2.2.2.2.2 p hp
        by_cases y : ixo x p = e
        · rw [c7 p (by rw [← y]; exact b) (by rw [y] at c; omega), y]
        · have := (F_own h1 hp (Nat.le_of_lt he)).2 (show ixo x p < e by omega)
          rw [c7' p (fun z => by omega)]
          exact t7 p hp (by omega)
  refine start _ (fr_pI (fr_pI (fr_pI (fr_pI (fr_pI (fr_pI (fr_mo (fr_rf A) (by decide)) (by decide)) (by decide)) (by decide)) (by decide)) (by decide)) (by decide)) rfl rfl rfl rfl (fun e he => ?_) (fun p hp => ?_)
  · show va_cpy (A.1 3) (A.1 8) 0 0 ((ixm x : Int) + 1).toNat e = _
    unfold va_cpy
    rw [if_pos ⟨Nat.zero_le _, (by omega)⟩, show 0 + (e - 0) = e by omega]
    exact b4 e he
  · show va_cpy (A.1 2) (A.1 6) 0 0 ((ixn x : Int)).toNat p = _
    unfold va_cpy
    rw [if_pos ⟨Nat.zero_le _, (by omega)⟩, show 0 + (p - 0) = p by omega]
theorem sM_text {d : Nat} {A B0 : iz_A} {x : Ix} {rt : Int} {P : Int → iz_A → Prop} (hb : Bx A x) (f0 : fr [55, 59, 60, 61, 62] A B0) (b8 : B0.1 55 8 = (ixm x : Int)) (hK : ∀ C (v2 : Int), fr [55, 59, 60, 61, 62] A C → C.1 55 = B0.1 55 → (∀ e, e < ixm x → C.1 61 e = (ixF x e : Int) ∧ C.1 62 e = (ixl x e : Int)) → (∀ p, p < ixn x → C.1 59 p = (if ixt x p < 0 then -1 else ixt x p) ∧ C.1 60 p = (ixo x p : Int)) → Rn d mX11_build (fun v A' => ∃ y, v = some (.inl y) ∧ P y A') 50 [some (.inr (.inl 55)), some (.inl rt), some (.inl v2), some (.inl ((ixm x : Int))), none] [] C) : Rn d mX11_build (fun v A' => ∃ y, v = some (.inl y) ∧ P y A') 50 [some (.inr (.inl 55)), some (.inl rt), some (.inl 0), some (.inl 0), none] [] B0 := by
  obtain ⟨h1, b3, b4, b5, b6, b7, b9⟩ := hb
  have nb := h1.2.2.1
  have mb := h1.2.1
  have F0 := h1.2.2.2.1
  have main := dwl (P := fun e => ∀ C, fr [55, 59, 60, 61, 62] A C → C.1 55 = B0.1 55 → (∀ j, j < e → C.1 61 j = (ixF x j : Int) ∧ C.1 62 j = (ixl x j : Int)) → (∀ p, p < ixn x → ixo x p < e → C.1 59 p = (if ixt x p < 0 then -1 else ixt x p) ∧ C.1 60 p = (ixo x p : Int)) → Rn d mX11_build (fun v A' => ∃ y, v = some (.inl y) ∧ P y A') 50 [some (.inr (.inl 55)), some (.inl rt), some (.inl ((ixF x e : Int))), some (.inl ((e : Int))), none] [] C) (a := 0) (n := ixm x) ?_ (fun e _ he ih => ?_) (Nat.zero_le _) B0 f0 rfl (fun j hj => by omega) (fun p _ z => by omega)
  · rw [F0] at main
    exact main
  · intro C fC e55 c1 c2
    exact hK C _ fC e55 c1 (fun p hp => c2 p hp (h1.2.2.2.2.2.2 p hp).1)
  · intro C fC e55 c1 c2
    have Fe := h1.2.2.2.2.1 e he
    have F1 := F_in h1 (d := e + 1) he
    refine w_X11_build_50 ?_
    rw [e55, b8, tn e, fC.1 57 (by decide), b7 e he]
    refine ⟨fun z => by omega, fun _ => ⟨⟨by omega, by omega⟩, ⟨by omega, by omega⟩, ⟨by omega, by omega⟩, ?_⟩⟩
    have c61 : ∀ C' : iz_A, C'.1 61 = uz (C.1 61) e (ixF x e : Int) → C'.1 62 = uz (C.1 62) e (ixl x e : Int) → ∀ j, j < e + 1 → C'.1 61 j = (ixF x j : Int) ∧ C'.1 62 j = (ixl x j : Int) := fun C' z1 z2 j hj => by
      rw [z1, z2]
      by_cases y : j = e
      · rw [y, uz_at, uz_at]; exact ⟨rfl, rfl⟩
      · rw [uz_ne _ _ y, uz_ne _ _ y]; exact c1 j (by omega)
    refine dwl (P := fun k => ∀ D, fr [55, 59, 60, 61, 62] A D → D.1 55 = B0.1 55 → (∀ j, j < e + 1 → D.1 61 j = (ixF x j : Int) ∧ D.1 62 j = (ixl x j : Int)) → (∀ p, p < ixn x → p < ixF x e + k → D.1 59 p = (if ixt x p < 0 then -1 else ixt x p) ∧ D.1 60 p = (ixo x p : Int)) → Rn d mX11_build (fun v A' => ∃ y, v = some (.inl y) ∧ P y A') 80 [some (.inr (.inl 55)), some (.inl rt), some (.inl (((ixF x e + k : Nat) : Int))), some (.inl ((e : Int))), some (.inl ((k : Int)))] [] D) (a := 0) (n := ixl x e + 1) ?_ (fun k _ hk ihk => ?_) (Nat.zero_le _) _ (fr_pI (fr_pI fC (by decide)) (by decide)) e55 (c61 _ rfl rfl) (fun p hp z => c2 p hp ((F_own h1 hp (Nat.le_of_lt he)).1 z))
    · intro D fD e55d d1 d2
      refine w_X11_build_80 ?_
      rw [tn e, fD.1 57 (by decide), b7 e he]
      rw [show ((e + 1 : Nat) : Int) = (e : Int) + 1 by omega, Fe, show ixF x e + ixl x e + 1 = ixF x e + (ixl x e + 1) by omega] at ih
      refine ⟨⟨by omega, by omega⟩, fun _ => ⟨inR_b (by omega) (by omega), ih D fD e55d d1 (fun p hp z => d2 p hp ?_)⟩, fun z => by omega⟩
      have := (F_own h1 hp (show e + 1 ≤ ixm x from he)).2 z
      omega
    · intro D fD e55d d1 d2
      have hp : ixF x e + k < ixn x := (by omega)
      have oe : ixo x (ixF x e + k) = e := own_of h1 he (by omega) (by omega)
      refine w_X11_build_80 ?_
      rw [tn e, fD.1 57 (by decide), b7 e he, tn (ixF x e + k), fD.1 56 (by decide), (b9 _ hp).2]
      rw [show ((ixF x e + (k + 1) : Nat) : Int) = ((ixF x e + k : Nat) : Int) + 1 by omega, show ((k + 1 : Nat) : Int) = (k : Int) + 1 by omega] at ihk
      refine ⟨⟨by omega, by omega⟩, fun z => by omega, fun _ => ⟨⟨by omega, by omega⟩, ⟨by omega, by omega⟩, ⟨by omega, by omega⟩, inR_b (by omega) (by omega), inR_b (by omega) (by omega), ihk _ (fr_pI (fr_pI fD (by decide)) (by decide)) e55d d1 (fun p hp' z => ?_)⟩⟩
      show uz (D.1 59) (ixF x e + k) _ p = _ ∧ uz (D.1 60) (ixF x e + k) _ p = _
      by_cases y : p = ixF x e + k
      · rw [y, uz_at, uz_at, oe]; exact ⟨rfl, rfl⟩
      · rw [uz_ne _ _ y, uz_ne _ _ y]; exact d2 p hp' (by omega)
