/-- no mark is later than the last one -/
def SpR (k : Nat) (A : iz_A) : Prop := ∃ sv : Nat, A.1 55 70 = (sv : Int) ∧ sv ≤ 3000 * k ∧ (∀ c, c < 256 → A.1 99 c ≤ (sv : Int) ∧ A.1 100 c ≤ (sv : Int)) ∧ ∀ q, q < 65536 → A.1 98 q ≤ (sv : Int)
/-- which bytes were marked in front, behind, on both sides -/
def S1 (x : Ix) (i j st : Nat) (f : Nat → Int) : Prop := ∀ c : Nat, c < 256 → f c ≤ (st : Int) ∧ (f c = (st : Int) ↔ ∃ k, i ≤ k ∧ k < j ∧ bef x k = (c : Int))
def S2 (x : Ix) (m i j st : Nat) (f : Nat → Int) : Prop := ∀ c : Nat, c < 256 → f c ≤ (st : Int) ∧ (f c = (st : Int) ↔ ∃ k, i ≤ k ∧ k < j ∧ m < lft x (ixs x k) ∧ ixt x (ixs x k + m) = (c : Int))
def S3 (x : Ix) (m i j st : Nat) (f : Nat → Int) : Prop := ∀ q : Nat, q < 65536 → f q ≤ (st : Int) ∧ (f q = (st : Int) ↔ ∃ k, i ≤ k ∧ k < j ∧ bef x k = ((q / 256 : Nat) : Int) ∧ m < lft x (ixs x k) ∧ ixt x (ixs x k + m) = ((q % 256 : Nat) : Int))
theorem s1_same {x : Ix} {i j st : Nat} {f : Nat → Int} (h : S1 x i j st f) (hn : ∀ c : Nat, c < 256 → bef x j = (c : Int) → f c = (st : Int)) : S1 x i (j + 1) st f := fun c hc => ⟨(h c hc).1, fun y => by
  obtain ⟨k, k1, k2, k3⟩ := (h c hc).2.1 y
  exact ⟨k, k1, (by omega), k3⟩, fun ⟨k, k1, k2, k3⟩ => by
  by_cases w : k = j
  · exact hn c hc (by rw [← w]; exact k3)
  · exact (h c hc).2.2 ⟨k, k1, (by omega), k3⟩⟩
theorem s1_put {x : Ix} {i j st c : Nat} {f : Nat → Int} (h : S1 x i j st f) (hi : i ≤ j) (hc : bef x j = (c : Int)) : S1 x i (j + 1) st (uz f c (st : Int)) := fun c' hc' => by
  by_cases w : c' = c
  · rw [w, uz_at]
    exact ⟨Int.le_refl _, fun _ => ⟨j, hi, (by omega), hc⟩, fun _ => rfl⟩
  · rw [uz_ne _ _ w]
    refine ⟨(h c' hc').1, fun y => ?_, fun ⟨k, k1, k2, k3⟩ => ?_⟩
    · obtain ⟨k, k1, k2, k3⟩ := (h c' hc').2.1 y
      exact ⟨k, k1, (by omega), k3⟩
    · by_cases w2 : k = j
      · rw [w2, hc] at k3; omega
      · exact (h c' hc').2.2 ⟨k, k1, (by omega), k3⟩
theorem s2_same {x : Ix} {m i j st : Nat} {f : Nat → Int} (h : S2 x m i j st f) (hn : ∀ c : Nat, c < 256 → m < lft x (ixs x j) → ixt x (ixs x j + m) = (c : Int) → f c = (st : Int)) : S2 x m i (j + 1) st f := fun c hc => ⟨(h c hc).1, fun y => by
  obtain ⟨k, k1, k2, k3⟩ := (h c hc).2.1 y
  exact ⟨k, k1, (by omega), k3⟩, fun ⟨k, k1, k2, k3, k4⟩ => by
  by_cases w : k = j
  · exact hn c hc (by rw [← w]; exact k3) (by rw [← w]; exact k4)
  · exact (h c hc).2.2 ⟨k, k1, (by omega), k3, k4⟩⟩
theorem s2_put {x : Ix} {m i j st c : Nat} {f : Nat → Int} (h : S2 x m i j st f) (hi : i ≤ j) (hl : m < lft x (ixs x j)) (hc : ixt x (ixs x j + m) = (c : Int)) : S2 x m i (j + 1) st (uz f c (st : Int)) := fun c' hc' => by
  by_cases w : c' = c
  · rw [w, uz_at]
    exact ⟨Int.le_refl _, fun _ => ⟨j, hi, (by omega), hl, hc⟩, fun _ => rfl⟩
  · rw [uz_ne _ _ w]
    refine ⟨(h c' hc').1, fun y => ?_, fun ⟨k, k1, k2, k3, k4⟩ => ?_⟩
    · obtain ⟨k, k1, k2, k3⟩ := (h c' hc').2.1 y
      exact ⟨k, k1, (by omega), k3⟩
    · by_cases w2 : k = j
      · rw [w2, hc] at k4; omega
      · exact (h c' hc').2.2 ⟨k, k1, (by omega), k3, k4⟩
theorem s3_same {x : Ix} {m i j st : Nat} {f : Nat → Int} (h : S3 x m i j st f) (hn : ∀ q : Nat, q < 65536 → bef x j = ((q / 256 : Nat) : Int) → m < lft x (ixs x j) → ixt x (ixs x j + m) = ((q % 256 : Nat) : Int) → f q = (st : Int)) : S3 x m i (j + 1) st f := fun c hc => ⟨(h c hc).1, fun y => by
  obtain ⟨k, k1, k2, k3⟩ := (h c hc).2.1 y
  exact ⟨k, k1, (by omega), k3⟩, fun ⟨k, k1, k2, k3, k4, k5⟩ => by
  by_cases w : k = j
  · rw [w] at k3 k4 k5
    exact hn c hc k3 k4 k5
  · exact (h c hc).2.2 ⟨k, k1, (by omega), k3, k4, k5⟩⟩
theorem s3_put {x : Ix} {m i j st c e : Nat} {f : Nat → Int} (h : S3 x m i j st f) (hi : i ≤ j) (hb : bef x j = (c : Int)) (hl : m < lft x (ixs x j)) (hc : ixt x (ixs x j + m) = (e : Int)) (he : e < 256) : S3 x m i (j + 1) st (uz f (256 * c + e) (st : Int)) := fun q hq => by
  by_cases w : q = 256 * c + e
  · rw [w, uz_at]
    exact ⟨Int.le_refl _, fun _ => ⟨j, hi, (by omega), by rw [hb]; omega, hl, by rw [hc]; omega⟩, fun _ => rfl⟩
  · rw [uz_ne _ _ w]
    refine ⟨(h q hq).1, fun y => ?_, fun ⟨k, k1, k2, k3, k4, k5⟩ => ?_⟩
    · obtain ⟨k, k1, k2, k3⟩ := (h q hq).2.1 y
      exact ⟨k, k1, (by omega), k3⟩
    · by_cases w2 : k = j
      · rw [w2] at k3 k5
        rw [hb] at k3
        rw [hc] at k5
        omega
      · exact (h q hq).2.2 ⟨k, k1, (by omega), k3, k4, k5⟩
theorem al_snoc {x : Ix} {p q m : Nat} : Al x p q (m + 1) ↔ Al x p q m ∧ ixt x (p + m) = ixt x (q + m) := by
  constructor
  · exact fun a => ⟨fun j hj => a j (by omega), a m (by omega)⟩
  · rintro ⟨a, b⟩ j hj
    by_cases c : j = m
    · rw [c]; exact b
    · exact a j (by omega)
theorem npc_le (x : Ix) (m r : Nat) : npc x m r ≤ r := by
  induction r with
  | zero => exact Nat.le_refl _
  | succ r ih =>
    have := onc_le (NPr x m r)
    rw [npc_s]
    omega
theorem sM_absent {d : Nat} {A : iz_A} {x : Ix} {m k0 : Nat} {P : Int → iz_A → Prop} (h1 : TxOk x) (h2 : PmOk x) (h3 : SoOk x) (h5 : MI x A) (hm : ((m + 2 : Nat) : Int) < 2147483648) (hk0 : k0 ≤ 64) (hsp : SpR k0 A) (hP : ∀ C, fr [55, 98, 99, 100] A C → ff [70] (A.1 55) (C.1 55) → SpR (k0 + 1) C → P ((ptl x m (ixn x) : Int) - (npc x m (ixn x) : Int)) C) : Ci (d + 3) 238 [.inr (.inl 55), .inl ((m + 2 : Nat) : Int)] A P := by
  have nb := h1.2.2.1
  have np := n_pos h1
  obtain ⟨sv, s0, s1, s2, s3⟩ := hsp
  refine e_X11_absent ⟨fun z => absurd z (by rw [h5.1]; decide), fun _ => ⟨fun _ => ⟨inR_b (by omega) (by omega), ?_⟩, fun z => by omega⟩⟩
  rw [show ((m + 2 : Nat) : Int) - 2 = (m : Int) by omega]
  have main : ∀ w i, i ≤ ixn x → ixn x ≤ i + w → ∀ B, fr [55, 98, 99, 100] A B → ff [70] (A.1 55) (B.1 55) → ∀ st : Nat, st ≤ sv + i → B.1 55 70 = (st : Int) → (∀ c, c < 256 → B.1 99 c ≤ (st : Int) ∧ B.1 100 c ≤ (st : Int)) → (∀ q, q < 65536 → B.1 98 q ≤ (st : Int)) → (i = 0 ∨ i = ixn x ∨ ixc x i < m) → Rn (d + 2) mX11_absent (fun v A' => ∃ y, v = some (.inl y) ∧ P y A') 23 [some (.inr (.inl 55)), some (.inl (((m + 2 : Nat) : Int))), some (.inl ((m : Int))), some (.inl ((ptl x m i : Int) - (npc x m i : Int))), some (.inl ((i : Int))), none, none, none, none, none, none] [] B := by
    intro w
    induction w with
    | zero =>
      intro i i1 i2 B f e st t1 t2 t3 t4 _
      obtain rfl : i = ixn x := (by omega)
      refine w_X11_absent_23 ?_
      rw [e 7 (by decide), h5.2.1]
      exact ⟨fun _ => ⟨_, rfl, hP B f e ⟨st, t2, (by omega), t3, t4⟩⟩, fun z => by omega⟩
    | succ w ih =>
      intro i i1 i2 B f e st t1 t2 t3 t4 t5
      by_cases hn : i = ixn x
      · exact ih i i1 (by omega) B f e st t1 t2 t3 t4 t5
      have hi : i < ixn x := (by omega)
      have h5' : MI x B := MI_k h5 f (by decide) e (by decide)
      have lbi := lft_bd h1 (h2.1 i hi).1
      have cli := c_le h1 h2 h3 hi
      refine w_X11_absent_23 ?_
      rw [h5'.2.1, tn, (h5'.2.2.2.2.2.1 i hi).1]
      refine ⟨fun z => by omega, fun _ => ⟨⟨by omega, by omega⟩, sM_left h1 h5' (h2.1 i hi).1 ⟨fun z => ?_, fun z => ⟨inR_b (by omega) (by omega), ?_⟩⟩⟩⟩
      · rw [t2]
        refine ⟨inR_b (by omega) (by omega), ?_⟩
        -- one run
        have hc0 : i = 0 ∨ ixc x i < m := by omega
        have leave : ∀ j C (a b bo : Nat), i < j → j ≤ ixn x → fr [55, 98, 99, 100] A C → ff [70] (A.1 55) (C.1 55) → C.1 55 70 = ((st + 1 : Nat) : Int) → S1 x i j (st + 1) (C.1 99) → S2 x m i j (st + 1) (C.1 100) → S3 x m i j (st + 1) (C.1 98) → stc x m j = (i, a, b, ptl x m i) → npc x m j = npc x m i + bo → (j = ixn x ∨ ixc x j < m) → Rn (d + 2) mX11_absent (fun v A' => ∃ y, v = some (.inl y) ∧ P y A') 279 [some (.inr (.inl 55)), some (.inl (((m + 2 : Nat) : Int))), some (.inl ((m : Int))), some (.inl ((ptl x m i : Int) - (npc x m i : Int))), some (.inl ((i : Int))), some (.inl ((a : Int))), some (.inl ((b : Int))), some (.inl ((bo : Int))), some (.inl ((j : Int))), none, none] [] C := by
          intro j C a b bo j1 j2 fC eC c0 cs1 cs2 cs3 es en ej
          have pi := ptl_bd x m (show i ≤ 3000 by omega)
          have pj := ptl_bd x m (show j ≤ 3000 by omega)
          have ni := npc_le x m i
          have nj := npc_le x m j
          have ep : ptl x m j = ptl x m i + a * b := by
            show (stc x m j).2.2.2 + (stc x m j).2.1 * (stc x m j).2.2.1 = _
            rw [es]
          rw [es] at pj
          have pj1 : a * b ≤ 9000000 := pj.1
          have ec : (a : Int) * (b : Int) = ((a * b : Nat) : Int) := (Int.natCast_mul _ _).symm
          refine w_X11_absent_279 ?_
          rw [ec]
          refine ⟨inR_b (by omega) (by omega), inR_b (by omega) (by omega), inR_b (by omega) (by omega), ?_⟩
          have := ih j j2 (by omega) C fC eC (st + 1) (by omega) c0 (fun c hc => ⟨(cs1 c hc).1, (cs2 c hc).1⟩) (fun q hq => (cs3 q hq).1) (Or.inr ej)
          rw [ep, en] at this
          rw [show (ptl x m i : Int) - (npc x m i : Int) + (((a * b : Nat) : Int) - (bo : Int)) = ((ptl x m i + a * b : Nat) : Int) - ((npc x m i + bo : Nat) : Int) by omega]
          exact this
        have loop : ∀ u j C (a b bo : Nat), j + u = ixn x → i ≤ j → a ≤ j → b ≤ j → bo ≤ j → fr [55, 98, 99, 100] A C → ff [70] (A.1 55) (C.1 55) → C.1 55 70 = ((st + 1 : Nat) : Int) → S1 x i j (st + 1) (C.1 99) → S2 x m i j (st + 1) (C.1 100) → S3 x m i j (st + 1) (C.1 98) → ((j = i ∧ a = 0 ∧ b = 0) ∨ (i < j ∧ stc x m j = (i, a, b, ptl x m i))) → npc x m j = npc x m i + bo → (∀ k, i < k → k < j → m ≤ ixc x k) → Rn (d + 2) mX11_absent (fun v A' => ∃ y, v = some (.inl y) ∧ P y A') 76 [some (.inr (.inl 55)), some (.inl (((m + 2 : Nat) : Int))), some (.inl ((m : Int))), some (.inl ((ptl x m i : Int) - (npc x m i : Int))), some (.inl ((i : Int))), some (.inl ((a : Int))), some (.inl ((b : Int))), some (.inl ((bo : Int))), some (.inl ((j : Int))), none, none] [] C := by
          intro u
          induction u with
          | zero =>
            intro j C a b bo j0 j1 ja jb jo fC eC c0 cs1 cs2 cs3 es en ej
            refine w_X11_absent_76 ?_
            rw [eC 7 (by decide), h5.2.1]
            refine ⟨fun _ => leave j C a b bo (by omega) (by omega) fC eC c0 cs1 cs2 cs3 ?_ en (Or.inl (by omega)), fun z => by omega⟩
            rcases es with es | es
            · omega
            · exact es.2
          | succ u ihu =>
            intro j C a b bo j0 j1 ja jb jo fC eC c0 cs1 cs2 cs3 es en ej
            have hj : j < ixn x := (by omega)
            have h5c : MI x C := MI_k h5 fC (by decide) eC (by decide)
            have hs := (h2.1 j hj).1
            have lbj := lft_bd h1 hs
            have ls := lft_in h1 hs
            have clj := c_le h1 h2 h3 hj
            have bl := bef_lt h1 h2 hj
            -- row j belongs to the run
            have body : (j = i ∨ m ≤ ixc x j) → Rn (d + 2) mX11_absent (fun v A' => ∃ y, v = some (.inl y) ∧ P y A') 103 [some (.inr (.inl 55)), some (.inl (((m + 2 : Nat) : Int))), some (.inl ((m : Int))), some (.inl ((ptl x m i : Int) - (npc x m i : Int))), some (.inl ((i : Int))), some (.inl ((a : Int))), some (.inl ((b : Int))), some (.inl ((bo : Int))), some (.inl ((j : Int))), none, none] [] C := by
              intro hin
              have lj : m ≤ lft x (ixs x j) := by
                rcases hin with y | y
                · rw [y]; omega
                · omega
              have ej' : ∀ k, i < k → k ≤ j → m ≤ ixc x k := fun k k1 k2 => by
                by_cases y : k = j
                · rw [y]; omega
                · exact ej k k1 (by omega)
              have ra := fun k (hk : k < j) => run_al h3 (m := m) (f := i) hj hc0 ej' j1 hk
              have est : stc x m (j + 1) = (i, a + onc (NFr x m j), b + onc (NBr x m j), ptl x m i) := by
                rw [stc_s]
                rcases es with ⟨y1, y2, y3⟩ | ⟨y1, y2⟩
                · rw [y1, y2, y3, Nat.zero_add, Nat.zero_add]
                  by_cases y : ixc x i < m
                  · rw [if_pos y]; rfl
                  · have : i = 0 := (by omega)
                    rw [if_neg y, this]
                    show (0, 0 + _, 0 + _, 0) = _
                    rw [Nat.zero_add, Nat.zero_add]
                    rfl
                · have : ¬ ixc x j < m := by have := ej' j y1 (Nat.le_refl _); omega
                  rw [if_neg this, y2]
              -- the three marks
              have fin : ∀ D (a' b' bo' : Nat) (v9 v10 : Int), fr [55, 98, 99, 100] A D → ff [70] (A.1 55) (D.1 55) → D.1 55 70 = ((st + 1 : Nat) : Int) → S1 x i (j + 1) (st + 1) (D.1 99) → S2 x m i (j + 1) (st + 1) (D.1 100) → S3 x m i (j + 1) (st + 1) (D.1 98) → a' = a + onc (NFr x m j) → b' = b + onc (NBr x m j) → bo' = bo + onc (NPr x m j) → Rn (d + 2) mX11_absent (fun v A' => ∃ y, v = some (.inl y) ∧ P y A') 273 [some (.inr (.inl 55)), some (.inl (((m + 2 : Nat) : Int))), some (.inl ((m : Int))), some (.inl ((ptl x m i : Int) - (npc x m i : Int))), some (.inl ((i : Int))), some (.inl ((a' : Int))), some (.inl ((b' : Int))), some (.inl ((bo' : Int))), some (.inl ((j : Int))), some (.inl v9), some (.inl v10)] [] D := by
                intro D a' b' bo' v9 v10 fD eD d0 ds1 ds2 ds3 ea eb eo
                have o1 := onc_le (NFr x m j)
                have o2 := onc_le (NBr x m j)
                have o3 := onc_le (NPr x m j)
                refine w_X11_absent_273 ⟨inR_b (by omega) (by omega), ?_⟩
                rw [show (j : Int) + 1 = ((j + 1 : Nat) : Int) by omega]
                exact ihu (j + 1) D a' b' bo' (by omega) (by omega) (by omega) (by omega) (by omega) fD eD d0 ds1 ds2 ds3 (Or.inr ⟨(by omega), by rw [ea, eb]; exact est⟩) (by rw [npc_s, en, eo, Nat.add_assoc]) (fun k k1 k2 => ej' k k1 (by omega))
              have seenF : ∀ c : Nat, bef x j = (c : Int) → c < 256 → ((∃ k, i ≤ k ∧ k < j ∧ bef x k = (c : Int)) ↔ ¬ NFr x m j) := fun c ec hc => ⟨fun ⟨k, k1, k2, k3⟩ y => y.2.2 k k2 ((ra k k2).2 k1) (by rw [k3, ec]), fun y => Classical.byContradiction fun n => y ⟨lj, (by omega), fun k k1 al eb => n ⟨k, (ra k k1).1 al, k1, by rw [eb, ec]⟩⟩⟩
              have seenB : ∀ c : Nat, m < lft x (ixs x j) → ixt x (ixs x j + m) = (c : Int) → ((∃ k, i ≤ k ∧ k < j ∧ m < lft x (ixs x k) ∧ ixt x (ixs x k + m) = (c : Int)) ↔ ¬ NBr x m j) := fun c hl ec => ⟨fun ⟨k, k1, k2, k3, k4⟩ y => y.2 k k2 (al_snoc.2 ⟨(ra k k2).2 k1, by rw [k4, ec]⟩), fun y => Classical.byContradiction fun n => y ⟨hl, fun k k1 al => n ⟨k, (ra k k1).1 (al_snoc.1 al).1, k1, al_lft h1 hs (h2.1 k (by omega)).1 (al_sy al) hl, by rw [(al_snoc.1 al).2, ec]⟩⟩⟩
              have seenP : ∀ c e' : Nat, bef x j = (c : Int) → m < lft x (ixs x j) → ixt x (ixs x j + m) = (e' : Int) → ((∃ k, i ≤ k ∧ k < j ∧ bef x k = (c : Int) ∧ m < lft x (ixs x k) ∧ ixt x (ixs x k + m) = (e' : Int)) ↔ ¬ NPr x m j) := fun c e' eb hl ec => ⟨fun ⟨k, k1, k2, k3, k4, k5⟩ y => y.2.2 k k2 (al_snoc.2 ⟨(ra k k2).2 k1, by rw [k5, ec]⟩) (by rw [k3, eb]), fun y => Classical.byContradiction fun n => y ⟨(by omega), hl, fun k k1 al ebb => n ⟨k, (ra k k1).1 (al_snoc.1 al).1, k1, by rw [ebb, eb], al_lft h1 hs (h2.1 k (by omega)).1 (al_sy al) hl, by rw [(al_snoc.1 al).2, ec]⟩⟩⟩
              have oj3 : a ≤ 3000 ∧ b ≤ 3000 ∧ bo ≤ 3000 := (by omega)
              -- pairs
              have third : ∀ D (a' b' : Nat) (v10 : Int), fr [55, 98, 99, 100] A D → ff [70] (A.1 55) (D.1 55) → D.1 55 70 = ((st + 1 : Nat) : Int) → S1 x i (j + 1) (st + 1) (D.1 99) → S2 x m i (j + 1) (st + 1) (D.1 100) → S3 x m i j (st + 1) (D.1 98) → a' = a + onc (NFr x m j) → b' = b + onc (NBr x m j) → ((v10 = -2 ∧ ¬ m < lft x (ixs x j)) ∨ (m < lft x (ixs x j) ∧ v10 = ixt x (ixs x j + m))) → Rn (d + 2) mX11_absent (fun v A' => ∃ y, v = some (.inl y) ∧ P y A') 217 [some (.inr (.inl 55)), some (.inl (((m + 2 : Nat) : Int))), some (.inl ((m : Int))), some (.inl ((ptl x m i : Int) - (npc x m i : Int))), some (.inl ((i : Int))), some (.inl ((a' : Int))), some (.inl ((b' : Int))), some (.inl ((bo : Int))), some (.inl ((j : Int))), some (.inl (bef x j)), some (.inl v10)] [] D := by
                intro D a' b' v10 fD eD d0 ds1 ds2 ds3 ea eb hv
                refine w_X11_absent_217 ⟨fun z => ?_, fun z => ⟨fun z2 => ?_, fun z2 => ?_⟩⟩
                · exact fin D a' b' bo _ _ fD eD d0 ds1 ds2 (s3_same ds3 (fun q hq y => by omega)) ea eb (by rw [onc_0 (fun y => y.1 z)]; rfl)
                · have nl : ¬ m < lft x (ixs x j) := by
                    rcases hv with hv | hv
                    · exact hv.2
                    · have := (t_in h1 hs hv.1).1
                      omega
                  exact fin D a' b' bo _ _ fD eD d0 ds1 ds2 (s3_same ds3 (fun q hq y hl => absurd hl nl)) ea eb (by rw [onc_0 (fun y => nl y.2.1)]; rfl)
                · obtain ⟨hl, ev⟩ : m < lft x (ixs x j) ∧ v10 = ixt x (ixs x j + m) := by
                    rcases hv with hv | hv
                    · exact absurd hv.1 z2
                    · exact hv
                  have tb := t_in h1 hs hl
                  obtain ⟨c, ec⟩ : ∃ c : Nat, bef x j = (c : Int) := ⟨(bef x j).toNat, (by omega)⟩
                  obtain ⟨e', ee⟩ : ∃ e' : Nat, ixt x (ixs x j + m) = (e' : Int) := ⟨(ixt x (ixs x j + m)).toNat, (by omega)⟩
                  have hc : c < 256 := (by omega)
                  have he : e' < 256 := (by omega)
                  have sp := seenP c e' ec hl ee
                  have dd := ds3 (256 * c + e') (by omega)
                  rw [show (256 * c + e') / 256 = c by omega, show (256 * c + e') % 256 = e' by omega] at dd
                  rw [ev, ec, ee, show (256 * (c : Int) + (e' : Int)).toNat = 256 * c + e' by omega, d0]
                  refine ⟨inR_b (by omega) (by omega), inR_b (by omega) (by omega), ⟨by omega, by omega⟩, fun y => ?_, fun y => ⟨inR_b (by omega) (by omega), inR_b (by omega) (by omega), ⟨by omega, by omega⟩, inR_b (by omega) (by omega), ?_⟩⟩
                  · refine fin D a' b' bo _ _ fD eD d0 ds1 ds2 (s3_same ds3 (fun q hq q1 q2 q3 => ?_)) ea eb (by rw [onc_0 (sp.1 (dd.2.1 y))]; rfl)
                    rw [show q = 256 * c + e' by omega]
                    exact y
                  · have := fin (iz_pI D 98 (uz (D.1 98) (256 * c + e') ((st + 1 : Nat) : Int))) a' b' (bo + 1) (c : Int) (e' : Int) (fr_pI fD (by decide)) eD d0 ds1 ds2 (s3_put ds3 j1 ec hl ee he) ea eb (by rw [onc_1 (Classical.byContradiction fun n => y (dd.2.2 (sp.2 n)))])
                    exact this
              have second : ∀ D (a' : Nat) (v10 : Int), fr [55, 98, 99, 100] A D → ff [70] (A.1 55) (D.1 55) → D.1 55 70 = ((st + 1 : Nat) : Int) → S1 x i (j + 1) (st + 1) (D.1 99) → S2 x m i j (st + 1) (D.1 100) → S3 x m i j (st + 1) (D.1 98) → a' = a + onc (NFr x m j) → ((v10 = -2 ∧ ¬ m < lft x (ixs x j)) ∨ (m < lft x (ixs x j) ∧ v10 = ixt x (ixs x j + m))) → Rn (d + 2) mX11_absent (fun v A' => ∃ y, v = some (.inl y) ∧ P y A') 182 [some (.inr (.inl 55)), some (.inl (((m + 2 : Nat) : Int))), some (.inl ((m : Int))), some (.inl ((ptl x m i : Int) - (npc x m i : Int))), some (.inl ((i : Int))), some (.inl ((a' : Int))), some (.inl ((b : Int))), some (.inl ((bo : Int))), some (.inl ((j : Int))), some (.inl (bef x j)), some (.inl v10)] [] D := by
                intro D a' v10 fD eD d0 ds1 ds2 ds3 ea hv
                refine w_X11_absent_182 ⟨fun z => ?_, fun z => ?_⟩
                · have nl : ¬ m < lft x (ixs x j) := by
                    rcases hv with hv | hv
                    · exact hv.2
                    · have := (t_in h1 hs hv.1).1
                      omega
                  exact third D a' b v10 fD eD d0 ds1 (s2_same ds2 (fun c hc hl => absurd hl nl)) ds3 ea (by rw [onc_0 (fun y => nl y.1)]; rfl) hv
                · obtain ⟨hl, ev⟩ : m < lft x (ixs x j) ∧ v10 = ixt x (ixs x j + m) := by
                    rcases hv with hv | hv
                    · exact absurd hv.1 z
                    · exact hv
                  have tb := t_in h1 hs hl
                  obtain ⟨e', ee⟩ : ∃ e' : Nat, ixt x (ixs x j + m) = (e' : Int) := ⟨(ixt x (ixs x j + m)).toNat, (by omega)⟩
                  have he : e' < 256 := (by omega)
                  have sb := seenB e' hl ee
                  have dd := ds2 e' he
                  rw [ev, ee, tn, d0]
                  refine ⟨⟨by omega, by omega⟩, fun y => ?_, fun y => ⟨⟨by omega, by omega⟩, inR_b (by omega) (by omega), ?_⟩⟩
                  · refine third D a' b _ fD eD d0 ds1 (s2_same ds2 (fun c hc q1 q2 => ?_)) ds3 ea (by rw [onc_0 (sb.1 (dd.2.1 y))]; rfl) (Or.inr ⟨hl, ee.symm⟩)
                    rw [show c = e' by omega]
                    exact y
                  · have := third (iz_pI D 100 (uz (D.1 100) e' ((st + 1 : Nat) : Int))) a' (b + 1) (e' : Int) (fr_pI fD (by decide)) eD d0 ds1 (s2_put ds2 j1 hl ee) ds3 ea (by rw [onc_1 (Classical.byContradiction fun n => y (dd.2.2 (sb.2 n)))]) (Or.inr ⟨hl, ee.symm⟩)
                    exact this
              have first : ∀ v10 : Int, ((v10 = -2 ∧ ¬ m < lft x (ixs x j)) ∨ (m < lft x (ixs x j) ∧ v10 = ixt x (ixs x j + m))) → Rn (d + 2) mX11_absent (fun v A' => ∃ y, v = some (.inl y) ∧ P y A') 147 [some (.inr (.inl 55)), some (.inl (((m + 2 : Nat) : Int))), some (.inl ((m : Int))), some (.inl ((ptl x m i : Int) - (npc x m i : Int))), some (.inl ((i : Int))), some (.inl ((a : Int))), some (.inl ((b : Int))), some (.inl ((bo : Int))), some (.inl ((j : Int))), some (.inl (bef x j)), some (.inl v10)] [] C := by
                intro v10 hv
                refine w_X11_absent_147 ⟨fun z => ?_, fun z => ?_⟩
                · exact second C a v10 fC eC c0 (s1_same cs1 (fun c hc y => by omega)) cs2 cs3 (by rw [onc_0 (fun y => y.2.1 z)]; rfl) hv
                · obtain ⟨c, ec⟩ : ∃ c : Nat, bef x j = (c : Int) := ⟨(bef x j).toNat, (by omega)⟩
                  have hc : c < 256 := (by omega)
                  have sf := seenF c ec hc
                  have dd := cs1 c hc
                  rw [ec] at second
                  rw [ec, tn, c0]
                  refine ⟨⟨by omega, by omega⟩, fun y => ?_, fun y => ⟨⟨by omega, by omega⟩, inR_b (by omega) (by omega), ?_⟩⟩
                  · refine second C a v10 fC eC c0 (s1_same cs1 (fun c' hc' y' => ?_)) cs2 cs3 (by rw [onc_0 (sf.1 (dd.2.1 y))]; rfl) hv
                    rw [show c' = c by omega]
                    exact y
                  · have := second (iz_pI C 99 (uz (C.1 99) c ((st + 1 : Nat) : Int))) (a + 1) v10 (fr_pI fC (by decide)) eC c0 (s1_put cs1 j1 ec) cs2 cs3 (by rw [onc_1 (Classical.byContradiction fun n => y (dd.2.2 (sf.2 n)))]) hv
                    exact this
              refine w_X11_absent_103 (sM_before h1 h2 h5c hj ⟨⟨by omega, by omega⟩, ?_⟩)
              rw [tn, (h5c.2.2.2.2.2.1 j hj).1]
              refine sM_left h1 h5c hs ?_
              rw [(h5c.2.2.2.2.2.1 j hj).1]
              refine ⟨fun y => first _ (Or.inl ⟨rfl, (by omega)⟩), fun y => ⟨⟨by omega, by omega⟩, inR_b (by omega) (by omega), ⟨by omega, by omega⟩, ?_⟩⟩
              rw [show ((ixs x j : Int) + (m : Int)).toNat = ixs x j + m by omega, tM_in h1 h5c hs (by omega)]
              exact first _ (Or.inr ⟨(by omega), rfl⟩)
            refine w_X11_absent_76 ?_
            rw [h5c.2.1, tn]
            refine ⟨fun z => by omega, fun _ => ⟨fun y => body (Or.inl (by omega)), fun y => ?_⟩⟩
            rw [(h5c.2.2.2.2.2.1 j hj).2]
            refine ⟨⟨by omega, by omega⟩, fun y2 => leave j C a b bo (by omega) (by omega) fC eC c0 cs1 cs2 cs3 ?_ en (Or.inr (by omega)), fun y2 => body (Or.inr (by omega))⟩
            rcases es with es | es
            · omega
            · exact es.2
        refine loop (ixn x - i) i _ 0 0 0 (by omega) (Nat.le_refl _) (Nat.zero_le _) (Nat.zero_le _) (Nat.zero_le _) (fr_pI f (by decide)) (ff_uz e (by decide)) rfl (fun c hc => ?_) (fun c hc => ?_) (fun q hq => ?_) (Or.inl ⟨rfl, rfl, rfl⟩) rfl (fun k k1 k2 => by omega)
        · have := (t3 c hc).1
          show B.1 99 c ≤ _ ∧ (B.1 99 c = _ ↔ _)
          exact ⟨(by omega), fun y => by omega, fun ⟨k, k1, k2, _⟩ => by omega⟩
        · have := (t3 c hc).2
          show B.1 100 c ≤ _ ∧ (B.1 100 c = _ ↔ _)
          exact ⟨(by omega), fun y => by omega, fun ⟨k, k1, k2, _⟩ => by omega⟩
        · have := t4 q hq
          show B.1 98 q ≤ _ ∧ (B.1 98 q = _ ↔ _)
          exact ⟨(by omega), fun y => by omega, fun ⟨k, k1, k2, _⟩ => by omega⟩
      · -- a row with too few bytes
        have nx := ih (i + 1) (by omega) (by omega) B f e st (by omega) t2 t3 t4 (by
          by_cases y : i + 1 = ixn x
          · exact Or.inr (Or.inl y)
          · have := c_le' h1 h2 h3 (i := i) (by omega)
            exact Or.inr (Or.inr (by omega)))
        have e1 : ptl x m (i + 1) = ptl x m i := by
          show (stc x m (i + 1)).2.2.2 + (stc x m (i + 1)).2.1 * (stc x m (i + 1)).2.2.1 = _
          rw [stc_s, if_pos (by omega), onc_0 (fun y : NFr x m i => by have := y.1; omega)]
          show ptl x m i + 0 * _ = _
          rw [Nat.zero_mul, Nat.add_zero]
        have e2 : npc x m (i + 1) = npc x m i := by
          rw [npc_s, onc_0 (fun y => by have := y.2.1; omega), Nat.add_zero]
        rw [e1, e2] at nx
        exact nx
  have := main (ixn x) 0 (Nat.zero_le _) (by omega) A (fr_mo (fr_rf A) (by decide)) (ff_eq rfl) sv (by omega) s0 s2 s3 (Or.inl rfl)
  exact this
theorem b_absent {A : iz_A} {I : iz_A → Prop} {v : Int} {x : Ix} {k : Nat} (hk : k < 64) (hv : inR v) (hs : SpR k A) (hx : NotB A ∨ (XM x A ∧ True)) (hI0 : I A) (hI : XM x A → ∀ C, fr [47, 55, 98, 99, 100] A C → ff [70] (A.1 55) (C.1 55) → SpR (k + 1) C → I C) : Bo 148 238 [.inl v] [.inl v] A I := by
  by_cases h0 : 2 ≤ v
  · obtain ⟨m, rfl⟩ : ∃ m : Nat, v = ((m + 2 : Nat) : Int) := ⟨(v - 2).toNat, (by omega)⟩
    rcases hx with hn | ⟨hx, -⟩
    · exact bo_bad (d := 1) (d' := 1) (by decide) (by decide) hI0 (fun P hP => e_X10_absent (d := 0) ⟨fun _ => ⟨_, rfl, hP⟩, fun z => absurd (by rw [hn.1]; decide) z⟩) (fun P hP => e_X11_absent (d := 0) ⟨fun _ => w_X11_absent_12 ⟨_, rfl, hP⟩, fun z => absurd hn.2.2.1 z⟩)
    · obtain ⟨h1, h2, h3, h4, h5⟩ := id hx
      have np := n_pos h1
      refine Ci_mono (d := 7) (by decide) (e_X10_absent (d := 6) ⟨fun z => by rw [h4.1] at z; omega, fun _ => ⟨fun z => by omega, fun _ => sX_absent h1 h2 h3 h4 hv.2 fun B fB => ⟨_, rfl, ?_⟩⟩⟩) (fun _ _ z => z)
      have h5' : MI x B := MI_k (m := []) h5 fB (by decide) (ff_eq (fB.1 55 (by decide))) (by decide)
      have hs' : SpR k B := by
        unfold SpR
        rw [fB.1 55 (by decide), fB.1 98 (by decide), fB.1 99 (by decide), fB.1 100 (by decide)]
        exact hs
      refine Ci_mono (d := 3) (by decide) (sM_absent (d := 0) (P := fun x2 A2 => _ = x2 ∧ I A2) h1 h2 h3 h5' hv.2 (Nat.le_of_lt hk) hs' fun C fC eC sC => ⟨by rw [npc_eq h1 h2 h3], hI hx C (fr_mo (fr_tr fB fC) (by decide)) (by rw [← fB.1 55 (by decide)]; exact eC) sC⟩) (fun _ _ z => z)
  · exact bo_bad (d := 1) (d' := 1) (by decide) (by decide) hI0 (fun P hP => e_X10_absent (d := 0) ⟨fun _ => ⟨_, rfl, hP⟩, fun _ => ⟨fun _ => ⟨_, rfl, hP⟩, fun z => by omega⟩⟩) (fun P hP => e_X11_absent (d := 0) ⟨fun _ => w_X11_absent_12 ⟨_, rfl, hP⟩, fun _ => ⟨fun z => by omega, fun _ => w_X11_absent_12 ⟨_, rfl, hP⟩⟩⟩)
