/-! ===== the machine over whole numbers is the small machine ===== -/
theorem iz_okt_cons {v : iz_V} {st : List iz_V} (hv : iz_okV v) (h : iz_okt st) : iz_okt (v :: st) := fun w hw => by
  rcases List.mem_cons.mp hw with rfl | hw
  · exact hv
  · exact h w hw
theorem iz_okt_triv {q : Nat ⊕ Int64} {st : List iz_V} (h : iz_okt st) : iz_okt (.inr q :: st) := iz_okt_cons (v := .inr q) trivial h
theorem inR_0 : inR 0 := ⟨by decide, by decide⟩
theorem inR_1 : inR 1 := ⟨by decide, by decide⟩
theorem inR_m1 : inR (-1) := ⟨by decide, by decide⟩
theorem iz_okt_tail {v : iz_V} {st : List iz_V} (h : iz_okt (v :: st)) : iz_okt st := fun w hw => h w (List.mem_cons_of_mem _ hw)
theorem iz_okt_head {v : iz_V} {st : List iz_V} (h : iz_okt (v :: st)) : iz_okV v := h v List.mem_cons_self
theorem iz_okA_pI {A : iz_A} {q : Nat} {f : Nat → Int} (h : iz_okA A) (hf : ∀ j, inR (f j)) : iz_okA (iz_pI A q f) := by
  intro a j
  simp only [iz_pI]
  split
  · exact hf j
  · exact h a j
theorem iz_okA_uz {A : iz_A} {q j : Nat} {x : Int} (h : iz_okA A) (hx : inR x) : iz_okA (iz_pI A q (uz (A.1 q) j x)) := iz_okA_pI h fun i => by
  unfold uz
  split
  · exact hx
  · exact h q i
theorem iz_S_pI (A : iz_A) (q : Nat) (f : Nat → Int) : iz_S (iz_pI A q f) = ab_pI (iz_S A) q (fun j => iv (f j)) := by
  unfold iz_S iz_pI ab_pI
  simp only [Prod.mk.injEq, and_true]
  funext a j
  split <;> rfl
theorem iz_S_uz (A : iz_A) (q j : Nat) (x : Int) : iz_S (iz_pI A q (uz (A.1 q) j x)) = ab_pI (iz_S A) q (upd ((iz_S A).1 q) j (iv x)) := by
  rw [iz_S_pI]
  congr 1
  funext i
  unfold uz upd iz_S
  split <;> rfl
theorem iz_S_pL (A : iz_A) (q : Nat) (f : Nat → Int64) : iz_S (iz_pL A q f) = ab_pL (iz_S A) q f := rfl
theorem iz_cmp_of {c : Jvm.ClassFile.Cond} {x y : Int} {A B A' B' : Prop} (hx : inR x) (hy : inR y) (h : iz_cmp c x y A B) (f : A → A') (g : B → B') : ab_cmp c (iv x) (iv y) A' B' := by
  cases c with
  | eq => exact ⟨fun z => f (h.1 ((iv_eq hx hy).mp z)), fun z => g (h.2 (fun w => z ((iv_eq hx hy).mpr w)))⟩
  | ne => exact ⟨fun z => f (h.1 (fun w => z ((iv_eq hx hy).mpr w))), fun z => g (h.2 ((iv_eq hx hy).mp z))⟩
  | lt => exact ⟨fun z => f (h.1 ((iv_lt hx hy).mp z)), fun z => g (h.2 (fun w => z ((iv_lt hx hy).mpr w)))⟩
  | ge => exact ⟨fun z => f (h.1 ((iv_le hy hx).mp z)), fun z => g (h.2 (fun w => z ((iv_le hy hx).mpr w)))⟩
  | gt => exact ⟨fun z => f (h.1 ((iv_lt hy hx).mp z)), fun z => g (h.2 (fun w => z ((iv_lt hy hx).mpr w)))⟩
  | le => exact ⟨fun z => f (h.1 ((iv_le hx hy).mp z)), fun z => g (h.2 (fun w => z ((iv_le hx hy).mpr w)))⟩
theorem ld_i_cL {L : iz_L} {i : Nat} {x : Int} {k : Int32 → Prop} (e : L[i]? = some (some (.inl x))) (h : k (iv x)) : ld_i (iz_cL L) i k := by
  unfold ld_i
  rw [iz_cL_get, e]
  exact h
theorem ld_l_cL {L : iz_L} {i : Nat} {x : Int64} {k : Int64 → Prop} (e : L[i]? = some (some (.inr (.inr x)))) (h : k x) : ld_l (iz_cL L) i k := by
  unfold ld_l
  rw [iz_cL_get, e]
  exact h
theorem ld_r_cL {L : iz_L} {i : Nat} {x : Nat} {k : Nat → Prop} (e : L[i]? = some (some (.inr (.inl x)))) (h : k x) : ld_r (iz_cL L) i k := by
  unfold ld_r
  rw [iz_cL_get, e]
  exact h
theorem iv_0 : iv 0 = 0 := by decide +kernel
theorem iv_1 : iv 1 = 1 := by decide +kernel
theorem iv_01 {x : Int} (h : x = 0 ∨ x = 1) : iv x = 0 ∨ iv x = 1 := h.imp (fun e => by rw [e]; exact iv_0) (fun e => by rw [e]; exact iv_1)
theorem iv_num {a b : Nat} : iv (iz_num a b) = ab_num a b := by
  unfold iz_num ab_num iv nI
  split
  · exact Int32.ofInt_eq_ofNat
  · rw [Int32.ofInt_neg, Int32.ofInt_eq_ofNat]
theorem iv_lcmp (x y : Int64) : iv (iz_lcmp x y) = lg_cmp x y := by
  unfold iz_lcmp lg_cmp
  split
  · decide +kernel
  · split <;> decide +kernel
theorem inR_lcmp (x y : Int64) : inR (iz_lcmp x y) := by
  unfold iz_lcmp
  split
  · exact inR_1
  · split
    · exact inR_0
    · exact inR_m1
theorem inR_num {a b : Nat} (h : a < 2000000) : inR (iz_num a b) := by
  unfold iz_num
  split <;> constructor <;> omega
theorem iv_i8 : ∀ n : Int, -128 ≤ n → n < 128 → (Int8.ofInt n).toInt32 = iv n := by
  intro n h1 h2
  apply Int32.toInt_inj.mp
  rw [iv_toInt ⟨by omega, by omega⟩, Int8.toInt_toInt32, Int8.toInt_ofInt_of_le (by omega) (by omega)]
theorem iv_i16 : ∀ n : Int, -32768 ≤ n → n < 32768 → (Int16.ofInt n).toInt32 = iv n := by
  intro n h1 h2
  apply Int32.toInt_inj.mp
  rw [iv_toInt ⟨by omega, by omega⟩, Int16.toInt_toInt32, Int16.toInt_ofInt_of_le (by omega) (by omega)]
theorem iv_ofNat (n : Nat) : Int32.ofNat n = iv (n : Int) := Int32.ofInt_eq_ofNat.symm
theorem iz_toList (v : Option iz_V) (r : List iz_V) : (v.toList ++ r).map iz_c = (v.map iz_c).toList ++ r.map iz_c := by
  cases v <;> rfl
theorem iz_okt_app {v : Option iz_V} {r : List iz_V} (hv : iz_okO v) (h : iz_okt r) : iz_okt (v.toList ++ r) := by
  cases v with
  | none => exact h
  | some w => exact iz_okt_cons (hv w rfl) h
theorem iz_okt_drop {st : List iz_V} (n : Nat) (h : iz_okt st) : iz_okt (st.drop n) := fun v hv => h v (List.mem_of_mem_drop hv)
theorem iz_okt_take {st : List iz_V} (n : Nat) (h : iz_okt st) : iz_okt ((st.take n).reverse) := fun v hv => h v (List.mem_of_mem_take (List.mem_reverse.mp hv))
set_option maxHeartbeats 4000000 in
theorem iz_1_sound {sc : ab_X} {sh : ab_Sh} {N : Nat} {oc : Nat → Nat} {T : Nat → List Value → ab_S → ab_Q → Prop} {TI : Nat → List iz_V → iz_A → iz_Q → Prop} {J : Nat → ab_L → List Value → ab_S → Prop} {JI : Nat → iz_L → List iz_V → iz_A → Prop} {Q : ab_Q} {QI : iz_Q} {ret : Option FieldType} {pc : Nat} {i : Instr} {a b : Nat} {L : iz_L} {st : List iz_V} {A : iz_A} {k : ab_L → List Value → ab_S → Prop} {kI : iz_L → List iz_V → iz_A → Prop}
    (hT : ∀ (a : Nat) (as : List iz_V) (A : iz_A) (P : iz_Q) (P' : ab_Q), TI a as A P → iz_okt as → iz_okA A → (∀ v A', iz_okO v → iz_okA A' → P v A' → P' (v.map iz_c) (iz_S A')) → T a (as.map iz_c) (iz_S A) P')
    (hJ : ∀ pc L st A, iz_okL L → iz_okt st → iz_okA A → JI pc L st A → J pc (iz_cL L) (st.map iz_c) (iz_S A))
    (hQ : ∀ v A, iz_okO v → iz_okA A → QI v A → Q (v.map iz_c) (iz_S A))
    (hk : ∀ L st A, iz_okL L → iz_okt st → iz_okA A → kI L st A → k (iz_cL L) (st.map iz_c) (iz_S A))
    (oL : iz_okL L) (ot : iz_okt st) (oA : iz_okA A) (h : iz_1 sc sh N oc TI JI QI ret pc i a b L st A kI) : ab_1 sc sh N oc T J Q ret pc i a b (iz_cL L) (st.map iz_c) (iz_S A) k := by
  cases i with
  | iload n =>
    obtain ⟨x, e, h2⟩ := li_of h
    exact ld_i_cL e (hk _ _ _ oL (iz_okt_cons (oL _ _ e) ot) oA h2)
  | iload_n n =>
    obtain ⟨x, e, h2⟩ := li_of h
    exact ld_i_cL e (hk _ _ _ oL (iz_okt_cons (oL _ _ e) ot) oA h2)
  | lload n =>
    obtain ⟨x, e, h2⟩ := ll_of h
    exact ld_l_cL e (hk _ _ _ oL (iz_okt_cons (oL _ _ e) ot) oA h2)
  | lload_n n =>
    obtain ⟨x, e, h2⟩ := ll_of h
    exact ld_l_cL e (hk _ _ _ oL (iz_okt_cons (oL _ _ e) ot) oA h2)
  | aload n =>
    obtain ⟨x, e, h2⟩ := lr_of h
    exact ld_r_cL e (hk _ _ _ oL (iz_okt_cons (oL _ _ e) ot) oA h2)
  | aload_n n =>
    obtain ⟨x, e, h2⟩ := lr_of h
    exact ld_r_cL e (hk _ _ _ oL (iz_okt_cons (oL _ _ e) ot) oA h2)
  | istore n =>
    obtain ⟨x, r, rfl, h2⟩ := qi_of h
    obtain ⟨hn, h3⟩ := ab_if h2
    rw [Bool.and_eq_true, decide_eq_true_eq] at hn
    obtain ⟨hn, hnl⟩ := hn
    show if _ then _ else _
    rw [iz_len1, if_pos hn]
    have := hk _ _ _ (iz_okL_set1 (i := n) oL (iz_okt_head ot)) (iz_okt_tail ot) oA h3
    rw [← iz_cL_set1 hnl] at this
    exact this
  | istore_n n =>
    obtain ⟨x, r, rfl, h2⟩ := qi_of h
    obtain ⟨hn, h3⟩ := ab_if h2
    rw [Bool.and_eq_true, decide_eq_true_eq] at hn
    obtain ⟨hn, hnl⟩ := hn
    show if _ then _ else _
    rw [iz_len1, if_pos hn]
    have := hk _ _ _ (iz_okL_set1 (i := n) oL (iz_okt_head ot)) (iz_okt_tail ot) oA h3
    rw [← iz_cL_set1 hnl] at this
    exact this
  | lstore n =>
    obtain ⟨x, r, rfl, h2⟩ := ql_of h
    obtain ⟨hn, h3⟩ := ab_if h2
    rw [Bool.and_eq_true, decide_eq_true_eq] at hn
    obtain ⟨hn, hnl⟩ := hn
    show if _ then _ else _
    rw [iz_len1, if_pos hn]
    have := hk _ _ _ (iz_okL_set2 (i := n) oL (iz_okt_head ot)) (iz_okt_tail ot) oA h3
    rw [← iz_cL_set2 hnl] at this
    exact this
  | lstore_n n =>
    obtain ⟨x, r, rfl, h2⟩ := ql_of h
    obtain ⟨hn, h3⟩ := ab_if h2
    rw [Bool.and_eq_true, decide_eq_true_eq] at hn
    obtain ⟨hn, hnl⟩ := hn
    show if _ then _ else _
    rw [iz_len1, if_pos hn]
    have := hk _ _ _ (iz_okL_set2 (i := n) oL (iz_okt_head ot)) (iz_okt_tail ot) oA h3
    rw [← iz_cL_set2 hnl] at this
    exact this
  | iinc n w =>
    obtain ⟨x, e, h2⟩ := li_of h
    obtain ⟨hn, h3, h4⟩ := ab_if h2
    rw [Bool.and_eq_true, decide_eq_true_eq] at hn
    obtain ⟨hn, hnl⟩ := hn
    refine ld_i_cL e ?_
    rw [iz_len1, if_pos hn]
    have := hk _ _ _ (iz_okL_set1 (i := n) (v := .inl (x + w)) oL h3) ot oA h4
    rw [← iz_cL_set1 hnl] at this
    have e2 : iz_c (.inl (x + w)) = .int (iv x + Int32.ofInt w) := congrArg Value.int (Int32.ofInt_add ..)
    rw [e2] at this
    exact this
  | iconst n =>
    obtain ⟨hn, h2⟩ := ab_if h
    have hn := of_decide_eq_true hn
    exact hk _ _ _ oL (iz_okt_cons (v := .inl n) (show inR n from ⟨by omega, by omega⟩) ot) oA h2
  | bipush n =>
    obtain ⟨hn, h2⟩ := ab_if h
    have hn := of_decide_eq_true hn
    show k _ (.int (Int8.ofInt n).toInt32 :: _) _
    rw [iv_i8 n hn.1 hn.2]
    exact hk _ _ _ oL (iz_okt_cons (v := .inl n) (show inR n from ⟨by omega, by omega⟩) ot) oA h2
  | sipush n =>
    obtain ⟨hn, h2⟩ := ab_if h
    have hn := of_decide_eq_true hn
    show k _ (.int (Int16.ofInt n).toInt32 :: _) _
    rw [iv_i16 n hn.1 hn.2]
    exact hk _ _ _ oL (iz_okt_cons (v := .inl n) (show inR n from ⟨by omega, by omega⟩) ot) oA h2
  | lconst n => exact hk _ _ _ oL (iz_okt_triv ot) oA h
  | ldc n =>
    obtain ⟨hn, h2⟩ := ab_if h
    show k _ (.int (ab_num a b) :: _) _
    rw [← iv_num]
    exact hk _ _ _ oL (iz_okt_cons (v := .inl (iz_num a b)) (inR_num hn) ot) oA h2
  | ldc_w n =>
    obtain ⟨hn, h2⟩ := ab_if h
    show k _ (.int (ab_num a b) :: _) _
    rw [← iv_num]
    exact hk _ _ _ oL (iz_okt_cons (v := .inl (iz_num a b)) (inR_num hn) ot) oA h2
  | ldc2_w n => exact hk _ _ _ oL (iz_okt_triv ot) oA h
  | dup =>
    match st, ot, h with
    | v :: r, ot, h =>
      obtain ⟨h1, h2⟩ := ab_if h
      show if (iz_c v).category = 1 then _ else _
      rw [iz_c_cat, if_pos h1]
      exact hk _ _ _ oL (iz_okt_cons (iz_okt_head ot) ot) oA h2
    | [], ot, h => exact h.elim
  | dup2 =>
    match st, ot, h with
    | v :: w :: r, ot, h =>
      obtain ⟨h1, h2⟩ := ab_if h
      obtain ⟨h3, h4⟩ := ab_if h2
      show if (iz_c v).category = 1 then (if (iz_c w).category = 1 then _ else _) else _
      rw [iz_c_cat, if_pos h1, iz_c_cat, if_pos h3]
      exact hk _ _ _ oL (iz_okt_cons (iz_okt_head ot) (iz_okt_cons (iz_okt_head (iz_okt_tail ot)) ot)) oA h4
    | [_], ot, h => exact h.elim
    | [], ot, h => exact h.elim
  | iadd =>
    obtain ⟨y, r1, e1, h1⟩ := qi_of h
    obtain ⟨x, r2, e2, h2, h3⟩ := qi_of h1
    subst e2; subst e1
    show k _ (.int (iv x + iv y) :: _) _
    rw [show iv x + iv y = iv (x + y) from (Int32.ofInt_add ..).symm]
    exact hk _ _ _ oL (iz_okt_cons (v := .inl (x + y)) h2 (iz_okt_tail (iz_okt_tail ot))) oA h3
  | isub =>
    obtain ⟨y, r1, e1, h1⟩ := qi_of h
    obtain ⟨x, r2, e2, h2, h3⟩ := qi_of h1
    subst e2; subst e1
    show k _ (.int (iv x - iv y) :: _) _
    rw [show iv x - iv y = iv (x - y) from (Int32.ofInt_sub ..).symm]
    exact hk _ _ _ oL (iz_okt_cons (v := .inl (x - y)) h2 (iz_okt_tail (iz_okt_tail ot))) oA h3
  | imul =>
    obtain ⟨y, r1, e1, h1⟩ := qi_of h
    obtain ⟨x, r2, e2, h2, h3⟩ := qi_of h1
    subst e2; subst e1
    show k _ (.int (iv x * iv y) :: _) _
    rw [show iv x * iv y = iv (x * y) from (Int32.ofInt_mul ..).symm]
    exact hk _ _ _ oL (iz_okt_cons (v := .inl (x * y)) h2 (iz_okt_tail (iz_okt_tail ot))) oA h3
  | idiv =>
    obtain ⟨y, r1, e1, h1⟩ := qi_of h
    obtain ⟨x, r2, e2, h2, h3⟩ := qi_of h1
    subst e2; subst e1
    have hy : inR y := iz_okt_head ot
    refine ⟨fun z => h2 ((iv_eq hy inR_0).mp (z.trans iv_0.symm)), ?_⟩
    have := hk _ _ _ oL (iz_okt_cons (v := .inl (iv x / iv y).toInt) (inR_of _) (iz_okt_tail (iz_okt_tail ot))) oA h3
    rw [List.map_cons, show iz_c (.inl (iv x / iv y).toInt) = .int (iv x / iv y) from congrArg Value.int (iv_of _)] at this
    exact this
  | irem =>
    obtain ⟨y, r1, e1, h1⟩ := qi_of h
    obtain ⟨x, r2, e2, h2, h3⟩ := qi_of h1
    subst e2; subst e1
    have hy : inR y := iz_okt_head ot
    refine ⟨fun z => h2 ((iv_eq hy inR_0).mp (z.trans iv_0.symm)), ?_⟩
    have := hk _ _ _ oL (iz_okt_cons (v := .inl (iv x - iv x / iv y * iv y).toInt) (inR_of _) (iz_okt_tail (iz_okt_tail ot))) oA h3
    rw [List.map_cons, show iz_c (.inl (iv x - iv x / iv y * iv y).toInt) = .int (iv x - iv x / iv y * iv y) from congrArg Value.int (iv_of _)] at this
    exact this
  | iand =>
    obtain ⟨y, r1, e1, h1⟩ := qi_of h
    obtain ⟨x, r2, e2, h2⟩ := qi_of h1
    subst e2; subst e1
    have := hk _ _ _ oL (iz_okt_cons (v := .inl (iv x &&& iv y).toInt) (inR_of _) (iz_okt_tail (iz_okt_tail ot))) oA h2
    rw [List.map_cons, show iz_c (.inl (iv x &&& iv y).toInt) = .int (iv x &&& iv y) from congrArg Value.int (iv_of _)] at this
    exact this
  | ior =>
    obtain ⟨y, r1, e1, h1⟩ := qi_of h
    obtain ⟨x, r2, e2, h2⟩ := qi_of h1
    subst e2; subst e1
    have := hk _ _ _ oL (iz_okt_cons (v := .inl (iv x ||| iv y).toInt) (inR_of _) (iz_okt_tail (iz_okt_tail ot))) oA h2
    rw [List.map_cons, show iz_c (.inl (iv x ||| iv y).toInt) = .int (iv x ||| iv y) from congrArg Value.int (iv_of _)] at this
    exact this
  | ishr =>
    obtain ⟨y, r1, e1, h1⟩ := qi_of h
    obtain ⟨x, r2, e2, h2⟩ := qi_of h1
    subst e2; subst e1
    have := hk _ _ _ oL (iz_okt_cons (v := .inl (iv x >>> (iv y &&& 31)).toInt) (inR_of _) (iz_okt_tail (iz_okt_tail ot))) oA h2
    rw [List.map_cons, show iz_c (.inl (iv x >>> (iv y &&& 31)).toInt) = .int (iv x >>> (iv y &&& 31)) from congrArg Value.int (iv_of _)] at this
    exact this
  | iushr =>
    obtain ⟨y, r1, e1, h1⟩ := qi_of h
    obtain ⟨x, r2, e2, h2⟩ := qi_of h1
    subst e2; subst e1
    have := hk _ _ _ oL (iz_okt_cons (v := .inl ((iv x).toUInt32 >>> ((iv y).toUInt32 &&& Int32.toUInt32 31)).toInt32.toInt) (inR_of _) (iz_okt_tail (iz_okt_tail ot))) oA h2
    rw [List.map_cons, show iz_c (.inl ((iv x).toUInt32 >>> ((iv y).toUInt32 &&& Int32.toUInt32 31)).toInt32.toInt) = .int ((iv x).toUInt32 >>> ((iv y).toUInt32 &&& Int32.toUInt32 31)).toInt32 from congrArg Value.int (iv_of _)] at this
    exact this
  | i2l =>
    obtain ⟨x, r1, e1, h1⟩ := qi_of h
    subst e1
    exact hk _ _ _ oL (iz_okt_triv (iz_okt_tail ot)) oA h1
  | ladd =>
    obtain ⟨y, r1, e1, h1⟩ := ql_of h
    obtain ⟨x, r2, e2, h2⟩ := ql_of h1
    subst e2; subst e1
    exact hk _ _ _ oL (iz_okt_triv (iz_okt_tail (iz_okt_tail ot))) oA h2
  | lmul =>
    obtain ⟨y, r1, e1, h1⟩ := ql_of h
    obtain ⟨x, r2, e2, h2⟩ := ql_of h1
    subst e2; subst e1
    exact hk _ _ _ oL (iz_okt_triv (iz_okt_tail (iz_okt_tail ot))) oA h2
  | land =>
    obtain ⟨y, r1, e1, h1⟩ := ql_of h
    obtain ⟨x, r2, e2, h2⟩ := ql_of h1
    subst e2; subst e1
    exact hk _ _ _ oL (iz_okt_triv (iz_okt_tail (iz_okt_tail ot))) oA h2
  | lor =>
    obtain ⟨y, r1, e1, h1⟩ := ql_of h
    obtain ⟨x, r2, e2, h2⟩ := ql_of h1
    subst e2; subst e1
    exact hk _ _ _ oL (iz_okt_triv (iz_okt_tail (iz_okt_tail ot))) oA h2
  | lxor =>
    obtain ⟨y, r1, e1, h1⟩ := ql_of h
    obtain ⟨x, r2, e2, h2⟩ := ql_of h1
    subst e2; subst e1
    exact hk _ _ _ oL (iz_okt_triv (iz_okt_tail (iz_okt_tail ot))) oA h2
  | lshl =>
    obtain ⟨y, r1, e1, h1⟩ := qi_of h
    obtain ⟨x, r2, e2, h2⟩ := ql_of h1
    subst e2; subst e1
    exact hk _ _ _ oL (iz_okt_triv (iz_okt_tail (iz_okt_tail ot))) oA h2
  | lshr =>
    obtain ⟨y, r1, e1, h1⟩ := qi_of h
    obtain ⟨x, r2, e2, h2⟩ := ql_of h1
    subst e2; subst e1
    exact hk _ _ _ oL (iz_okt_triv (iz_okt_tail (iz_okt_tail ot))) oA h2
  | lushr =>
    obtain ⟨y, r1, e1, h1⟩ := qi_of h
    obtain ⟨x, r2, e2, h2⟩ := ql_of h1
    subst e2; subst e1
    exact hk _ _ _ oL (iz_okt_triv (iz_okt_tail (iz_okt_tail ot))) oA h2
  | lcmp =>
    obtain ⟨y, r1, e1, h1⟩ := ql_of h
    obtain ⟨x, r2, e2, h2⟩ := ql_of h1
    subst e2; subst e1
    show k _ (.int (lg_cmp x y) :: _) _
    rw [← iv_lcmp]
    exact hk _ _ _ oL (iz_okt_cons (v := .inl (iz_lcmp x y)) (inR_lcmp x y) (iz_okt_tail (iz_okt_tail ot))) oA h2
  | getfield idx =>
    obtain ⟨q, r, rfl, h2⟩ := qr_of h
    refine ab_obj_mono h2 fun fl h => ?_
    cases he : fl[b]? with
    | none => rw [he] at h; exact h.elim
    | some o =>
      cases o with
      | some r' => rw [he] at h; exact hk _ _ _ oL (iz_okt_triv (iz_okt_tail ot)) oA h
      | none => rw [he] at h; exact hk _ _ _ oL (iz_okt_cons (v := .inl (A.1 q b)) (oA q b) (iz_okt_tail ot)) oA h
  | putfield idx =>
    obtain ⟨x, r1, e1, h1⟩ := qi_of h
    obtain ⟨q, r2, e2, h2⟩ := qr_of h1
    subst e2; subst e1
    have hx : inR x := iz_okt_head ot
    refine ab_obj_mono h2 fun fl h => ite_mono h (fun h => ?_) (fun h => ?_)
    · cases he : fl[b]? with
      | none => rw [he] at h; exact h.elim
      | some o =>
        cases o with
        | some r => rw [he] at h; exact h.elim
        | none =>
          rw [he] at h
          have := hk _ _ _ oL (iz_okt_tail (iz_okt_tail ot)) (iz_okA_uz oA hx) h
          rw [iz_S_uz] at this
          exact this
    · cases he : fl[b - 1000]? with
      | none => rw [he] at h; exact h.elim
      | some o =>
        cases o with
        | some r => rw [he] at h; exact h.elim
        | none =>
          rw [he] at h
          have := hk _ _ _ oL (iz_okt_tail (iz_okt_tail ot)) (iz_okA_uz oA hx) h.2
          rw [iz_S_uz] at this
          exact ⟨iv_01 h.1, this⟩
  | iaload =>
    obtain ⟨j, r1, e1, h1⟩ := qi_of h
    obtain ⟨q, r2, e2, h2⟩ := qr_of h1
    subst e2; subst e1
    have hj : inR j := iz_okt_head ot
    refine ite_mono h2 (fun h => ab_sx_mono h fun n xs h => ⟨(iv_in hj).mpr h.1, ?_⟩) (fun h => ab_arr_mono h fun n h => ⟨(iv_in hj).mpr h.1, ?_⟩)
    · have := hk _ _ _ oL (iz_okt_cons (v := .inl (xs j.toNat).toInt) (inR_of _) (iz_okt_tail (iz_okt_tail ot))) oA h.2
      rw [List.map_cons, show iz_c (.inl (xs j.toNat).toInt) = .int (xs (iv j).toNatClampNeg) from by rw [iv_cl hj]; exact congrArg Value.int (iv_of _)] at this
      exact this
    · rw [iv_cl hj]
      exact hk _ _ _ oL (iz_okt_cons (v := .inl (A.1 q j.toNat)) (oA q j.toNat) (iz_okt_tail (iz_okt_tail ot))) oA h.2
  | baload =>
    obtain ⟨j, r1, e1, h1⟩ := qi_of h
    obtain ⟨q, r2, e2, h2⟩ := qr_of h1
    subst e2; subst e1
    have hj : inR j := iz_okt_head ot
    refine ab_arr_mono h2 fun n h => ⟨(iv_in hj).mpr h.1, ?_⟩
    rw [iv_cl hj]
    exact hk _ _ _ oL (iz_okt_cons (v := .inl (A.1 q j.toNat)) (oA q j.toNat) (iz_okt_tail (iz_okt_tail ot))) oA h.2
  | laload =>
    obtain ⟨j, r1, e1, h1⟩ := qi_of h
    obtain ⟨q, r2, e2, h2⟩ := qr_of h1
    subst e2; subst e1
    have hj : inR j := iz_okt_head ot
    refine ab_arr_mono h2 fun n h => ⟨(iv_in hj).mpr h.1, ?_⟩
    rw [iv_cl hj]
    exact hk _ _ _ oL (iz_okt_triv (iz_okt_tail (iz_okt_tail ot))) oA h.2
  | iastore =>
    obtain ⟨x, r0, e0, h0⟩ := qi_of h
    obtain ⟨j, r1, e1, h1⟩ := qi_of h0
    obtain ⟨q, r2, e2, h2⟩ := qr_of h1
    subst e2; subst e1; subst e0
    have hx : inR x := iz_okt_head ot
    have hj : inR j := iz_okt_head (iz_okt_tail ot)
    refine ab_arr_mono h2 fun n h => ⟨(iv_in hj).mpr h.1, ?_⟩
    have := hk _ _ _ oL (iz_okt_tail (iz_okt_tail (iz_okt_tail ot))) (iz_okA_uz oA hx) h.2
    rw [iz_S_uz, ← iv_cl hj] at this
    exact this
  | bastore =>
    obtain ⟨x, r0, e0, h0⟩ := qi_of h
    obtain ⟨j, r1, e1, h1⟩ := qi_of h0
    obtain ⟨q, r2, e2, h2⟩ := qr_of h1
    subst e2; subst e1; subst e0
    have hx : inR x := iz_okt_head ot
    have hj : inR j := iz_okt_head (iz_okt_tail ot)
    refine ab_arr_mono h2 fun n h => ⟨(iv_in hj).mpr h.1, iv_01 h.2.1, ?_⟩
    have := hk _ _ _ oL (iz_okt_tail (iz_okt_tail (iz_okt_tail ot))) (iz_okA_uz oA hx) h.2.2
    rw [iz_S_uz, ← iv_cl hj] at this
    exact this
  | lastore =>
    obtain ⟨x, r0, e0, h0⟩ := ql_of h
    obtain ⟨j, r1, e1, h1⟩ := qi_of h0
    obtain ⟨q, r2, e2, h2⟩ := qr_of h1
    subst e2; subst e1; subst e0
    have hj : inR j := iz_okt_head (iz_okt_tail ot)
    refine ab_arr_mono h2 fun n h => ⟨(iv_in hj).mpr h.1, ?_⟩
    have := hk _ _ _ oL (iz_okt_tail (iz_okt_tail (iz_okt_tail ot))) (show iz_okA (iz_pL A q (vp_updL (A.2 q) j.toNat x)) from oA) h.2
    rw [iz_S_pL, ← iv_cl hj] at this
    exact this
  | arraylength =>
    obtain ⟨q, r2, e2, h2⟩ := qr_of h
    subst e2
    refine ite_mono h2 (fun h => ab_sx_mono h fun n xs h => ?_) (fun h => ab_arr_mono h fun n h => ?_)
    · have hn : inR (n : Int) := ⟨by omega, by have := h.1; omega⟩
      have := hk _ _ _ oL (iz_okt_cons (v := .inl (n : Int)) hn (iz_okt_tail ot)) oA h.2
      rw [List.map_cons, show iz_c (.inl (n : Int)) = .int (nI n) from congrArg Value.int (iv_ofNat n).symm] at this
      exact this
    · obtain ⟨h3, h4⟩ := ab_if h
      have hn : inR (n : Int) := ⟨by omega, by omega⟩
      rw [iv_ofNat]
      exact hk _ _ _ oL (iz_okt_cons (v := .inl (n : Int)) hn (iz_okt_tail ot)) oA h4
  | goto off => exact hJ _ _ _ _ oL ot oA h
  | if_icmp c off =>
    obtain ⟨y, r1, e1, h1⟩ := qi_of h
    obtain ⟨x, r2, e2, h2⟩ := qi_of h1
    subst e2; subst e1
    have o2 := iz_okt_tail (iz_okt_tail ot)
    exact iz_cmp_of (x := x) (y := y) (iz_okt_head (iz_okt_tail ot)) (iz_okt_head ot) h2 (hJ _ _ _ _ oL o2 oA) (hk _ _ _ oL o2 oA)
  | ifCond c off =>
    obtain ⟨x, r1, e1, h1⟩ := qi_of h
    subst e1
    have o2 := iz_okt_tail ot
    have := iz_cmp_of (x := x) (y := 0) (iz_okt_head ot) inR_0 h1 (hJ _ _ _ _ oL o2 oA) (hk _ _ _ oL o2 oA)
    rw [iv_0] at this
    exact this
  | tableswitch df lo hi offs =>
    obtain ⟨x, r1, e1, h1⟩ := qi_of h
    subst e1
    have hx : inR x := iz_okt_head ot
    have o2 := iz_okt_tail ot
    show ((iv x).toInt < lo ∨ hi < (iv x).toInt → _) ∧ (¬ (iv x).toInt < lo → ¬ hi < (iv x).toInt → ∃ o : Nat, offs[((iv x).toInt - lo).toNat]? = some (o : Int) ∧ _)
    rw [iv_toInt hx]
    exact ⟨fun z => hJ _ _ _ _ oL o2 oA (h1.1 z), fun z1 z2 => (h1.2 z1 z2).imp fun o h => ⟨h.1, hJ _ _ _ _ oL o2 oA h.2⟩⟩
  | lookupswitch df ps =>
    obtain ⟨x, r1, e1, h1⟩ := qi_of h
    subst e1
    have hx : inR x := iz_okt_head ot
    show ∃ o : Nat, Op.lookupswitch.offset ps.toList df (iv x).toInt = (o : Int) ∧ _
    rw [iv_toInt hx]
    exact h1.imp fun o h => ⟨h.1, hJ _ _ _ _ oL (iz_okt_tail ot) oA h.2⟩
  | invokevirtual idx =>
    obtain ⟨h4, h1⟩ := ab_if h
    show if ((st.map iz_c).drop (b + 1)).length ≤ 4 then _ else _
    rw [← List.map_drop, List.length_map, if_pos h4]
    split at h1
    · rename_i q r e1
      have e2 : (st.map iz_c).drop b = .ref q :: r.map iz_c := by rw [← List.map_drop, e1]; rfl
      have or : iz_okt r := iz_okt_tail (e1 ▸ iz_okt_drop b ot)
      rw [e2]
      refine ab_obj_mono h1 fun _ h => ?_
      have := hT _ _ _ _ (fun v S' => k (iz_cL L) (v.toList ++ r.map iz_c) S') h (iz_okt_triv (iz_okt_take b ot)) oA (fun v A' ov oA' hp => by
        have := hk _ _ _ oL (iz_okt_app ov or) oA' hp
        rw [iz_toList] at this
        exact this)
      rw [List.map_cons, List.map_reverse, List.map_take] at this
      exact this
    · exact h1.elim
  | invokestatic idx =>
    refine ite_mono h (fun h => ?_) fun h => ite_mono h (fun h => ?_) fun h => ite_mono h (fun h => ?_) fun h => ?_
    · obtain ⟨y, r1, e1, h1⟩ := qi_of h
      obtain ⟨x, r2, e2, h2⟩ := qi_of h1
      subst e2; subst e1
      obtain ⟨h3, h4⟩ := ab_if h2
      have hy : inR y := iz_okt_head ot
      have hx : inR x := iz_okt_head (iz_okt_tail ot)
      show if (r2.map iz_c).length ≤ 4 then k _ (.int (if iv x < iv y then iv y else iv x) :: _) _ else _
      rw [List.length_map, if_pos h3]
      have := hk _ _ _ oL (iz_okt_cons (v := .inl (if x < y then y else x)) (show inR (if x < y then y else x) by split <;> assumption) (iz_okt_tail (iz_okt_tail ot))) oA h4
      rw [List.map_cons, show iz_c (.inl (if x < y then y else x)) = .int (if iv x < iv y then iv y else iv x) from by
        simp only [iv_lt hx hy]
        split <;> rfl] at this
      exact this
    · obtain ⟨y, r1, e1, h1⟩ := qi_of h
      obtain ⟨x, r2, e2, h2⟩ := qi_of h1
      subst e2; subst e1
      obtain ⟨h3, h4⟩ := ab_if h2
      have hy : inR y := iz_okt_head ot
      have hx : inR x := iz_okt_head (iz_okt_tail ot)
      show if (r2.map iz_c).length ≤ 4 then k _ (.int (if iv y < iv x then iv y else iv x) :: _) _ else _
      rw [List.length_map, if_pos h3]
      have := hk _ _ _ oL (iz_okt_cons (v := .inl (if y < x then y else x)) (show inR (if y < x then y else x) by split <;> assumption) (iz_okt_tail (iz_okt_tail ot))) oA h4
      rw [List.map_cons, show iz_c (.inl (if y < x then y else x)) = .int (if iv y < iv x then iv y else iv x) from by
        simp only [iv_lt hy hx]
        split <;> rfl] at this
      exact this
    · obtain ⟨n, r1, e1, g1⟩ := qi_of h
      obtain ⟨dp, r2, e2, g2⟩ := qi_of g1
      obtain ⟨q1, r3, e3, g3⟩ := qr_of g2
      obtain ⟨sp, r4, e4, g4⟩ := qi_of g3
      obtain ⟨q0, r, e5, g5⟩ := qr_of g4
      subst e5; subst e4; subst e3; subst e2; subst e1
      obtain ⟨h3, h4⟩ := ab_if g5
      have hn : inR n := iz_okt_head ot
      have hdp : inR dp := iz_okt_head (iz_okt_tail ot)
      have hsp : inR sp := iz_okt_head (iz_okt_tail (iz_okt_tail (iz_okt_tail ot)))
      have o2 := iz_okt_tail (iz_okt_tail (iz_okt_tail (iz_okt_tail (iz_okt_tail ot))))
      show if (r.map iz_c).length ≤ 4 then _ else _
      rw [List.length_map, if_pos h3]
      refine ab_arr_mono h4 fun n0 h => ab_arr_mono h fun n1 h => ?_
      obtain ⟨⟨c1, c2, c3, c4, c5⟩, h⟩ := h
      rw [iv_cl hsp, iv_cl hdp, iv_cl hn]
      have hneg : ∀ {z : Int}, inR z → 0 ≤ z → ¬ iv z < 0 := fun {z} hz h0 w => by
        rw [← iv_0, iv_lt hz inR_0] at w
        omega
      refine ⟨hneg hsp c1, hneg hdp c2, hneg hn c3, by omega, by omega, ?_⟩
      have := hk _ _ _ oL o2 (iz_okA_pI (f := va_cpy (A.1 q0) (A.1 q1) sp.toNat dp.toNat n.toNat) oA (fun j => by
        unfold va_cpy
        split
        · exact oA _ _
        · exact oA _ _)) h
      rw [iz_S_pI, show (fun j => iv (va_cpy (A.1 q0) (A.1 q1) sp.toNat dp.toNat n.toNat j)) = va_cpy ((iz_S A).1 q0) ((iz_S A).1 q1) sp.toNat dp.toNat n.toNat from by
        funext j
        unfold va_cpy iz_S
        split <;> rfl] at this
      exact this
    · obtain ⟨h3, h4⟩ := ab_if h
      obtain ⟨h5, h6⟩ := ab_if h4
      show if b ≤ (st.map iz_c).length then (if ((st.map iz_c).drop b).length ≤ 4 then _ else _) else _
      rw [List.length_map, if_pos h3, ← List.map_drop, List.length_map, if_pos h5]
      have := hT _ _ _ _ (fun v S' => k (iz_cL L) (v.toList ++ (st.drop b).map iz_c) S') h6 (iz_okt_take b ot) oA (fun v A' ov oA' hp => by
        have := hk _ _ _ oL (iz_okt_app ov (iz_okt_drop b ot)) oA' hp
        rw [iz_toList] at this
        exact this)
      rw [List.map_reverse, List.map_take] at this
      exact this
  | ireturn =>
    obtain ⟨x, r1, e1, h1⟩ := qi_of h
    subst e1
    obtain ⟨h3, h4⟩ := ab_if h1
    show if (r1.map iz_c).length = 0 then _ else _
    rw [List.length_map, if_pos h3]
    have ov : iz_okO (some (.inl x)) := fun w e => by cases e; exact iz_okt_head ot
    split at h4
    · exact hQ _ _ ov oA h4
    · exact ⟨iv_01 h4.1, hQ _ _ ov oA h4.2⟩
    · exact h4.elim
  | return_ =>
    obtain ⟨h3, h4⟩ := ab_if h
    show if (st.map iz_c).length = 0 then _ else _
    rw [List.length_map, if_pos h3]
    have ov : iz_okO none := fun w e => by cases e
    split at h4
    · exact hQ _ _ ov oA h4
    · exact h4.elim
  | monitorexit => exact hJ _ _ _ _ oL ot oA h
  | _ => exact h.elim
theorem iz_run_sound {sc : ab_X} {sh : ab_Sh} {N : Nat} {oc : Nat → Nat} {T : Nat → List Value → ab_S → ab_Q → Prop} {TI : Nat → List iz_V → iz_A → iz_Q → Prop} {Q : ab_Q} {QI : iz_Q} {ret : Option FieldType} {cd : List ab_I}
    (hTm : ab_Tm T T) (hT : ∀ (a : Nat) (as : List iz_V) (A : iz_A) (P : iz_Q) (P' : ab_Q), TI a as A P → iz_okt as → iz_okA A → (∀ v A', iz_okO v → iz_okA A' → P v A' → P' (v.map iz_c) (iz_S A')) → T a (as.map iz_c) (iz_S A) P')
    (hQ : ∀ v A, iz_okO v → iz_okA A → QI v A → Q (v.map iz_c) (iz_S A)) {pc : Nat} {L : iz_L} {st : List iz_V} {A : iz_A} (h : iz_run sc sh N oc TI ret cd QI pc L st A) (oL : iz_okL L) (ot : iz_okt st) (oA : iz_okA A) : ab_run sc sh N oc T ret cd Q pc (iz_cL L) (st.map iz_c) (iz_S A) := by
  refine h (fun pc L st A => iz_okL L → iz_okt st → iz_okA A → ab_run sc sh N oc T ret cd Q pc (iz_cL L) (st.map iz_c) (iz_S A)) (fun pc L L0 st A hle h oL ot oA => ?_) oL ot oA
  intro X hX
  refine hX _ _ _ _ _ (iz_le_c hle) ?_
  have go : ∀ (r : List ab_I) (L : iz_L) (st : List iz_V) (A : iz_A), iz_okL L → iz_okt st → iz_okA A → iz_w sc sh N oc TI (fun pc L st A => iz_okL L → iz_okt st → iz_okA A → ab_run sc sh N oc T ret cd Q pc (iz_cL L) (st.map iz_c) (iz_S A)) QI ret r L st A → ab_w sc sh N oc T X Q ret r (iz_cL L) (st.map iz_c) (iz_S A) := by
    intro r
    induction r with
    | nil => intro L st A _ _ _ h; exact h.elim
    | cons q r ih =>
      intro L st A oL ot oA h
      obtain ⟨pc, i, len, a, b⟩ := q
      exact iz_1_sound hT (fun pc L st A oL ot oA h => h oL ot oA X hX) hQ ih oL ot oA h
  exact go _ L0 st A (iz_le_ok hle oL) ot oA h
theorem iz_cL_app (L : iz_L) (n : Nat) : iz_cL (L ++ List.replicate n none) = iz_cL L ++ List.replicate n none := by simp [iz_cL]
theorem iz_cL_en (vs : List iz_V) : iz_cL (iz_en vs) = ab_en (vs.map iz_c) := by
  induction vs with
  | nil => rfl
  | cons v vs ih =>
    simp only [iz_en, List.map_cons, ab_en, iz_c_cat]
    split
    · simp only [iz_cL, List.map_cons, Option.map_some, Option.map_none] at ih ⊢
      rw [ih]
    · simp only [iz_cL, List.map_cons, Option.map_some] at ih ⊢
      rw [ih]
theorem iz_en_mem {vs : List iz_V} {v : iz_V} (h : some v ∈ iz_en vs) : v ∈ vs := by
  induction vs with
  | nil => simp [iz_en] at h
  | cons w vs ih =>
    unfold iz_en at h
    split at h
    · simp only [List.mem_cons, Option.some.injEq, reduceCtorEq, false_or] at h
      rcases h with rfl | h
      · exact List.mem_cons_self
      · exact List.mem_cons_of_mem _ (ih h)
    · simp only [List.mem_cons, Option.some.injEq] at h
      rcases h with rfl | h
      · exact List.mem_cons_self
      · exact List.mem_cons_of_mem _ (ih h)
theorem iz_okL_en {vs : List iz_V} (n : Nat) (h : iz_okt vs) : iz_okL (iz_en vs ++ List.replicate n none) := by
  intro i v hv
  have := List.mem_of_getElem? hv
  rcases List.mem_append.mp this with h1 | h1
  · exact h v (iz_en_mem h1)
  · cases (List.eq_of_mem_replicate h1)
theorem iz_T_sound {sh : ab_Sh} {N : Nat} {pr : List ab_M} : ∀ (d a : Nat) (as : List iz_V) (A : iz_A) (P : iz_Q) (P' : ab_Q), iz_T sh N pr d a as A P → iz_okt as → iz_okA A → (∀ v A', iz_okO v → iz_okA A' → P v A' → P' (v.map iz_c) (iz_S A')) → ab_T sh N pr d a (as.map iz_c) (iz_S A) P' := by
  intro d
  induction d with
  | zero => intro a as A P P' h; exact h.elim
  | succ d ih =>
    intro a as A P P' h ot oA hP
    unfold iz_T at h
    unfold ab_T
    cases hM : pr[a]? with
    | none => rw [hM] at h; exact h.elim
    | some M =>
      rw [hM] at h
      obtain ⟨h1, h2⟩ := h
      have e1 : (ab_en (as.map iz_c)).length = (iz_en as).length := by rw [← iz_cL_en, iz_len1]
      refine ⟨by rw [e1]; exact h1, ?_⟩
      have := iz_run_sound (ab_T_mono d d (Nat.le_refl d)) ih hP h2 (iz_okL_en _ ot) (fun v hv => absurd hv List.not_mem_nil) oA
      rw [iz_cL_app, iz_cL_en] at this
      rw [e1]
      exact this
