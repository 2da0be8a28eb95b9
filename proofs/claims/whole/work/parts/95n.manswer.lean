/-! ===== the reference answers ===== -/
noncomputable def cnM (M : Nat → Prop) : Nat → Nat
  | 0 => 0
  | p + 1 => cnM M p + onc (M p)
theorem cnM_le (M : Nat → Prop) : ∀ p, cnM M p ≤ p := by
  intro p
  induction p with
  | zero => exact Nat.le_refl 0
  | succ p ih =>
    have := onc_le (M p)
    show cnM M p + onc (M p) ≤ p + 1
    omega
theorem cnM_mono (M : Nat → Prop) {p q : Nat} (h : p ≤ q) : cnM M p ≤ cnM M q := by
  induction q with
  | zero =>
    have e : p = 0 := (by omega)
    rw [e]
    exact Nat.le_refl _
  | succ q ih =>
    by_cases e : p = q + 1
    · rw [e]
      exact Nat.le_refl _
    · have := ih (by omega)
      show cnM M p ≤ cnM M q + onc (M q)
      omega
theorem cnM_lt {M : Nat → Prop} {p q : Nat} (h : p < q) (m : M p) : cnM M p < cnM M q := by
  have := cnM_mono M (show p + 1 ≤ q from h)
  have e : cnM M (p + 1) = cnM M p + onc (M p) := rfl
  rw [onc_1 m] at e
  omega
theorem cnM_ex (M : Nat → Prop) : ∀ N k, k < cnM M N → ∃ p, p < N ∧ M p ∧ cnM M p = k := by
  intro N
  induction N with
  | zero => intro k h; exact absurd h (Nat.not_lt_zero k)
  | succ N ih =>
    intro k h
    by_cases c : k < cnM M N
    · obtain ⟨p, p1, p2, p3⟩ := ih k c
      exact ⟨p, (by omega), p2, p3⟩
    · have h : k < cnM M N + onc (M N) := h
      have ol := onc_le (M N)
      refine ⟨N, (by omega), Classical.byContradiction fun m => ?_, (by omega)⟩
      rw [onc_0 m] at h
      omega
/-- the place is one, with its least and its greatest length -/
def Mp (R : Rel) (p : Nat) : Prop := ∃ k, Mlen R p k
def Lmo (R : Rel) (p : Nat) (a b : Int) : Prop := ∃ a' b' : Nat, a = (a' : Int) ∧ b = (b' : Int) ∧ Mlen R p a' ∧ Mlen R p b' ∧ ∀ k, Mlen R p k → a' ≤ k ∧ k ≤ b'
theorem lm_uq {R : Rel} {p : Nat} {a b a2 b2 : Int} (h : Lmo R p a b) (h' : Lmo R p a2 b2) : a = a2 ∧ b = b2 := by
  obtain ⟨x, y, rfl, rfl, m1, m2, m3⟩ := h
  obtain ⟨x', y', rfl, rfl, m1', m2', m3'⟩ := h'
  have := m3 x' m1'
  have := m3 y' m2'
  have := m3' x m1
  have := m3' y m2
  exact ⟨(by omega), (by omega)⟩
def FdM (R : Rel) (N : Nat) (C : iz_A) : Prop := C.1 55 33 = (cnM (Mp R) N : Int) ∧ ∀ p, p < N → Mp R p → C.1 74 (cnM (Mp R) p) = (p : Int) ∧ Lmo R p (C.1 75 (cnM (Mp R) p)) (C.1 76 (cnM (Mp R) p))
theorem ge_fr {N : Nat} {t : Nat → Int} {ft : Nat × (Nat → Int → Prop)} {h lo hi : Nat} {R : Rel} {A C : iz_A} {l : List Nat} (g : GE N t ft h lo hi R A) (f : fr l A C) (hl : ∀ q ∈ [87, 88, 89, 90, 91, 92, 93, 94], q ∉ l) : GE N t ft h lo hi R C := ge_k (h' := h + 1) (ps := hi) g ⟨fun i _ => by
  rw [f.1 90 (hl 90 (by decide)), f.2 91 (hl 91 (by decide)), f.2 92 (hl 92 (by decide)), f.2 93 (hl 93 (by decide)), f.2 94 (hl 94 (by decide))]
  exact ⟨rfl, rfl, rfl, rfl, rfl⟩, fun x _ => by
  rw [f.1 87 (hl 87 (by decide)), f.2 88 (hl 88 (by decide)), f.2 89 (hl 89 (by decide))]
  exact ⟨rfl, rfl, rfl⟩⟩ (Nat.lt_succ_self h) (Nat.le_refl _)
/-- place by place -/
theorem sM_places {x : Ix} {dd z am cm : Nat} {A : iz_A} {R : Rel} {P : Int → iz_A → Prop} {ft : Nat → Int → Prop} {v1 : Int} (hx : TxOk x) (hM : MI x A) (hz : A.1 55 55 = (z : Int)) (hzb : z ≤ 120) (ha : AtR am cm A) (hc : 2 * cm ≤ 200) (ham : am ≤ 200) (hft : ∀ i, i < am → ∀ c : Nat, c < 256 → (ft i (c : Int) ↔ fitA A i (c : Int))) (ge : GE (ixn x) (ixt x) (am, ft) 0 0 z R A) (h33 : A.1 55 33 = 0) (hP : ∀ C, fr [55, 74, 75, 76] A C → ff [33] (A.1 55) (C.1 55) → FdM R (ixn x) C → P (cnM (Mp R) (ixn x) : Int) C) : Rn (dd + 2) mX11_answer (fun v A' => ∃ y, v = some (.inl y) ∧ P y A') 96 [some (.inr (.inl 55)), some (.inl v1), some (.inl 0)] [] A := by
  have n3 := hx.2.2.1
  refine dwl (P := fun p => ∀ B, fr [55, 74, 75, 76] A B → ff [33] (A.1 55) (B.1 55) → B.1 55 33 = (cnM (Mp R) p : Int) → (∀ q, q < p → Mp R q → B.1 74 (cnM (Mp R) q) = (q : Int) ∧ Lmo R q (B.1 75 (cnM (Mp R) q)) (B.1 76 (cnM (Mp R) q))) → Rn (dd + 2) mX11_answer (fun v A' => ∃ y, v = some (.inl y) ∧ P y A') 96 [some (.inr (.inl 55)), some (.inl v1), some (.inl ((p : Int)))] [] B) (a := 0) (n := ixn x) ?_ (fun p _ hp ih => ?_) (Nat.zero_le _) A (fr_mo (fr_rf A) (by decide)) (ff_eq rfl) h33 (fun q hq => absurd hq (Nat.not_lt_zero q))
  · intro B f g e33 st
    have e7 : B.1 55 7 = (ixn x : Int) := (g 7 (by decide)).trans hM.2.1
    refine w_X11_answer_96 ⟨fun _ => ⟨_, rfl, ?_⟩, fun w => by omega⟩
    rw [e33]
    exact hP B f g ⟨e33, st⟩
  · intro B f g e33 st
    have e7 : B.1 55 7 = (ixn x : Int) := (g 7 (by decide)).trans hM.2.1
    have cl := cnM_le (Mp R) p
    have ec : cnM (Mp R) (p + 1) = cnM (Mp R) p + onc (Mp R p) := rfl
    refine w_X11_answer_96 ⟨fun w => by omega, fun _ => ?_⟩
    rw [show ((p + 1 : Nat) : Int) = (p : Int) + 1 by omega] at ih
    have fitB : Fx am A B := fx_k f (by decide) (by decide)
    refine sM_mfrom (am := am) (cm := cm) (ft := ft) (z := z) hx (MI_k hM f (by decide) g (by decide)) hp ((g 55 (by decide)).trans hz) hzb (fun i hi => by rw [f.1 84 (by decide)]; exact ha i hi) hc ham (fun i hi c hc' => (hft i hi c hc').trans (fitB i hi c hc').symm) (ge_fr ge f (by decide)) e33 (by omega) (fun hn => ⟨inR_b (by omega) (by omega), ?_⟩) (fun a b ma mb mm => ⟨inR_b (by omega) (by omega), ?_⟩)
    · have no : ¬ Mp R p := fun ⟨k, hk⟩ => hn k hk
      refine ih B f g ?_ (fun q hq mq => st q (Nat.lt_of_le_of_ne (by omega) (fun e => no (e ▸ mq))) mq)
      rw [ec, onc_0 no]
      exact e33
    · have yes : Mp R p := ⟨a, ma⟩
      refine ih _ (fr_pI (fr_pI (fr_pI (fr_pI f (by decide)) (by decide)) (by decide)) (by decide)) (ff_uz g (by decide)) ?_ (fun q hq mq => ?_)
      · rw [ec, onc_1 yes]
        show (cnM (Mp R) p : Int) + 1 = _
        omega
      · show uz (B.1 74) (cnM (Mp R) p) (p : Int) (cnM (Mp R) q) = _ ∧ Lmo R q (uz (B.1 75) (cnM (Mp R) p) (a : Int) (cnM (Mp R) q)) (uz (B.1 76) (cnM (Mp R) p) (b : Int) (cnM (Mp R) q))
        by_cases e : q = p
        · rw [e, uz_at, uz_at, uz_at]
          exact ⟨rfl, a, b, rfl, rfl, ma, mb, mm⟩
        · have l := cnM_lt (M := Mp R) (show q < p by omega) mq
          rw [uz_ne _ _ (by omega), uz_ne _ _ (by omega), uz_ne _ _ (by omega)]
          exact st q (by omega) mq
theorem sM_answer {x : Ix} {s : Nat → Int} {n dd : Nat} {A : iz_A} {P : Int → iz_A → Prop} (hx : TxOk x) (hM : MI x A) (hs : SgM s n A) (hn : A.1 55 31 = (n : Int)) (hP : PrE (psm (ixn x) (ixt x) s n (n + 1) 0 0 0 (fun _ _ => False) (fun p q => p = q)) (fun e => ∀ C, fr [55, 77, 78, 79, 80, 81, 82, 83, 84, 85, 86] A C → ff [31, 37, 38, 45, 46, 48, 50, 52, 53] (A.1 55) (C.1 55) → C.1 55 31 = 0 → P (-2 - (e : Int)) C) (fun k zR => (k < n → ∀ C, fr [55, 77, 78, 79, 80, 81, 82, 83, 84, 85, 86] A C → ff [31, 37, 38, 45, 46, 48, 50, 52, 53] (A.1 55) (C.1 55) → C.1 55 31 = 0 → P (-2 - (k : Int)) C) ∧ (¬ k < n → 120 < zR.1 → ∀ C, fr [55, 77, 78, 79, 80, 81, 82, 83, 84, 85, 86] A C → ff [31, 37, 38, 45, 46, 48, 50, 52, 53] (A.1 55) (C.1 55) → C.1 55 31 = 0 → P (-1000) C) ∧ (¬ k < n → ¬ 120 < zR.1 → ∀ C, fr [55, 74, 75, 76, 77, 78, 79, 80, 81, 82, 83, 84, 85, 86, 87, 88, 89, 90, 91, 92, 93, 94] A C → ff [31, 32, 33, 37, 38, 45, 46, 48, 50, 52, 53, 55] (A.1 55) (C.1 55) → C.1 55 31 = 0 → C.1 55 32 = 1 → FdM zR.2 (ixn x) C → P (cnM (Mp zR.2) (ixn x) : Int) C))) : Ci (dd + 6) 225 [.inr (.inl 55)] A P := by
  have nb := hs.1
  have n3 := hx.2.2.1
  have htb : ∀ p, p < ixn x → 0 ≤ ixt x p → ixt x p < 256 := fun p hp h0 => by
    have w := hx.2.2.2.2.2.2 p hp
    by_cases c : p < ixF x (ixo x p) + ixl x (ixo x p)
    · exact (w.2.2.2.1 c).2
    · have := w.2.2.2.2 (by omega)
      have := hx.2.1
      omega
  have put : ∀ {B : iz_A}, fr [55, 77, 78, 79, 80, 81, 82, 83, 84, 85, 86] A B → ff [37, 38, 45, 46, 48, 50, 52, 53] (A.1 55) (B.1 55) → fr [55, 77, 78, 79, 80, 81, 82, 83, 84, 85, 86] A (iz_pI B 55 (uz (B.1 55) 31 0)) ∧ ff [31, 37, 38, 45, 46, 48, 50, 52, 53] (A.1 55) ((iz_pI B 55 (uz (B.1 55) 31 0)).1 55) := fun f g => ⟨fr_pI f (by decide), ff_uz (ff_mo g (by decide)) (by decide)⟩
  refine e_X11_answer ⟨fun _ => ?_, fun z => by rw [hM.1] at z; exact absurd z (by decide)⟩
  have errQ : ∀ (B : iz_A) (e : Nat), e ≤ 300 → B.1 55 37 = (e : Int) → P (-2 - (e : Int)) (iz_pI B 55 (uz (B.1 55) 31 0)) → (0 ≤ B.1 55 37 → ((B.1 55 37 < 0 → ∃ y, (some (.inl (-1000)) : Option iz_V) = some (.inl y) ∧ P y (iz_pI B 55 (uz (B.1 55) 31 0))) ∧ (¬ B.1 55 37 < 0 → inR (-2 - B.1 55 37) ∧ ∃ y, (some (.inl (-2 - B.1 55 37)) : Option iz_V) = some (.inl y) ∧ P y (iz_pI B 55 (uz (B.1 55) 31 0))))) := fun B e eb e37 h => by
    rw [e37]
    exact fun _ => ⟨fun w => by omega, fun _ => ⟨inR_b (by omega) (by omega), _, rfl, h⟩⟩
  have errT : ∀ (B : iz_A) (e : Nat) (X Y : Prop), B.1 55 37 = (e : Int) → ((¬ (0 : Int) ≤ B.1 55 37 → X) ∧ (¬ (0 : Int) ≤ B.1 55 37 → Y)) := fun B e X Y e37 => ⟨fun w => absurd (by rw [e37]; omega) w, fun w => absurd (by rw [e37]; omega) w⟩
  have hs2 := fun i hi => (hs.2 i hi).2
  refine sM_over (N := ixn x) (t := ixt x) (mk := 0) htb (Or.inl rfl) hs hn ?_
  rcases hr : psm (ixn x) (ixt x) s n (n + 1) 0 0 0 (fun _ _ => False) (fun p q => p = q) with e | ⟨k, zR⟩
  · rw [hr] at hP
    have eb := psm_er hs2 _ _ _ _ _ _ _ (Nat.zero_le n) hr
    intro E f g w
    have pp := put f g
    have er := errQ E e (by omega) w (hP _ pp.1 pp.2 rfl)
    exact ⟨by decide, fun _ => ⟨er, (errT E e _ True w).1⟩, fun _ => ⟨er, (errT E e _ True w).1⟩⟩
  · rw [hr] at hP
    have kb := (psm_ok hs2 _ _ _ _ _ _ _ _ (Nat.zero_le n) hr).2.1
    intro E f g h
    have pp := put f g
    rcases h with ⟨kn, w⟩ | ⟨kn, w, sz, -⟩
    · have er := errQ E k (by omega) w (hP.1 kn _ pp.1 pp.2 rfl)
      exact ⟨by decide, fun _ => ⟨er, (errT E k _ True w).1⟩, fun _ => ⟨er, (errT E k _ True w).1⟩⟩
    · have w37 : ¬ (0 : Int) ≤ E.1 55 37 := by rw [w]; decide
      have le : (iz_lcmp ((E.2 77) (0 : Int).toNat) (ab_lnum 120 0)) ≤ 0 ↔ ¬ 120 < zR.1 := by
        rw [lcmp_le, l120]
        have := sz.2.2
        show (E.2 77 0).toInt ≤ 120 ↔ _
        omega
      refine ⟨by decide, fun y => ⟨fun v => absurd v w37, fun _ => ⟨fun _ => ?_, fun v => absurd rfl v⟩⟩, fun y => ⟨fun v => absurd v w37, fun _ => ⟨fun v => absurd v (by decide), fun _ => ⟨fun _ => ⟨_, rfl, hP.2.1 kn (Decidable.of_not_not fun c => y (le.2 c)) _ pp.1 pp.2 rfl⟩, fun v => absurd (by rw [w]; decide) v⟩⟩⟩⟩
      have small := le.1 y
      have hP := hP.2.2 kn small
      refine sM_over (N := ixn x) (t := ixt x) (mk := 1) htb (Or.inr rfl) (sgM_k hs f (by decide)) ((g 31 (by decide)).trans hn) ?_
      rw [hr]
      intro F fF gF hF
      rcases hF with ⟨kn', -⟩ | ⟨-, wF, szF, hF⟩
      · exact absurd kn' kn
      obtain ⟨c, am, cm, mF, kF, aF, cb, ab⟩ := hF rfl
      have f2 : fr [55] F (iz_pI F 55 (uz (F.1 55) 31 0)) := fr_pI (fr_mo (fr_rf F) (by decide)) (by decide)
      have g2 : ff [31] (F.1 55) ((iz_pI F 55 (uz (F.1 55) 31 0)).1 55) := ff_uz (ff_eq rfl) (by decide)
      have q2 : (iz_pI F 55 (uz (F.1 55) 31 0)).1 55 31 = 0 := rfl
      generalize iz_pI F 55 (uz (F.1 55) 31 0) = F2 at *
      refine sM_find (n := n) nb (by omega) (mk_k mF f2 (by decide) g2 (by decide)) (ck_k kF (fx_k f2 (by decide) (by decide)) (Nat.le_refl _) (Nat.le_refl _) (Nat.le_refl _) (fun _ _ => Iff.rfl)) (fun G fG gG zG geG => ⟨Or.inr rfl, ?_⟩)
      have f3 : fr [55] G (iz_pI (iz_pI G 55 (uz (G.1 55) 32 1)) 55 (uz (uz (G.1 55) 32 1) 33 0)) := fr_pI (fr_pI (fr_mo (fr_rf G) (by decide)) (by decide)) (by decide)
      have g3 : ff [32, 33] (G.1 55) ((iz_pI (iz_pI G 55 (uz (G.1 55) 32 1)) 55 (uz (uz (G.1 55) 32 1) 33 0)).1 55) := ff_uz (ff_uz (ff_eq rfl) (by decide)) (by decide)
      have q32 : (iz_pI (iz_pI G 55 (uz (G.1 55) 32 1)) 55 (uz (uz (G.1 55) 32 1) 33 0)).1 55 32 = 1 := rfl
      have q33 : (iz_pI (iz_pI G 55 (uz (G.1 55) 32 1)) 55 (uz (uz (G.1 55) 32 1) 33 0)).1 55 33 = 0 := rfl
      generalize iz_pI (iz_pI G 55 (uz (G.1 55) 32 1)) 55 (uz (uz (G.1 55) 32 1) 33 0) = H at *
      have fAH : fr [55, 74, 75, 76, 77, 78, 79, 80, 81, 82, 83, 84, 85, 86, 87, 88, 89, 90, 91, 92, 93, 94] A H := fr_mo (fr_tr f (fr_tr fF (fr_tr f2 (fr_tr fG f3)))) (by decide)
      have gAH : ff [31, 32, 33, 37, 38, 45, 46, 48, 50, 52, 53, 55] (A.1 55) (H.1 55) := ff_tr (ff_mo g (by decide)) (ff_tr (ff_mo gF (by decide)) (ff_tr (ff_mo g2 (by decide)) (ff_tr (ff_mo gG (by decide)) (ff_mo g3 (by decide)))))
      have fxH : Fx am F2 H := fx_tr (fx_k (am := am) fG (by decide) (by decide)) (fx_k (am := am) f3 (by decide) (by decide)) (Nat.le_refl _)
      refine sM_places (am := am) (cm := cm) (ft := fitA F2) (z := zR.1) hx (MI_k hM fAH (by decide) gAH (by decide)) ((g3 55 (by decide)).trans zG) (by omega) (fun i hi => ?_) (by omega) (by omega) (fun i hi c hc' => (fxH i hi c hc').symm) (ge_fr geG f3 (by decide)) q33 (fun C fC gC fd => hP C (fr_mo (fr_tr fAH fC) (by decide)) (ff_tr gAH (ff_mo gC (by decide))) ?_ ?_ fd)
      · rw [f3.1 84 (by decide), fG.1 84 (by decide), f2.1 84 (by decide)]
        exact aF i hi
      · exact (gC 31 (by decide)).trans ((g3 31 (by decide)).trans ((gG 31 (by decide)).trans q2))
      · exact (gC 32 (by decide)).trans q32
