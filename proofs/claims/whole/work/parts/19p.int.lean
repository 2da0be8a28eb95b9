/-! ===== the same machine over whole numbers: where it adds, the sum must be in range ===== -/
abbrev iz_V : Type := Int ⊕ (Nat ⊕ Int64)
abbrev iz_L : Type := List (Option iz_V)
abbrev iz_A : Type := (Nat → Nat → Int) × (Nat → Nat → Int64)
abbrev iz_Q : Type := Option iz_V → iz_A → Prop
def inR (x : Int) : Prop := -2147483648 ≤ x ∧ x < 2147483648
def iv (x : Int) : Int32 := Int32.ofInt x
theorem iv_toInt {x : Int} (h : inR x) : (iv x).toInt = x := Int32.toInt_ofInt_of_le (by have := h.1; omega) (by have := h.2; omega)
theorem iv_of (x : Int32) : iv x.toInt = x := Int32.ofInt_toInt x
theorem inR_of (x : Int32) : inR x.toInt := ⟨by have := Int32.le_toInt x; omega, by have := Int32.toInt_lt x; omega⟩
theorem iv_lt {x y : Int} (hx : inR x) (hy : inR y) : iv x < iv y ↔ x < y := by rw [Int32.lt_iff_toInt_lt, iv_toInt hx, iv_toInt hy]
theorem iv_le {x y : Int} (hx : inR x) (hy : inR y) : iv x ≤ iv y ↔ x ≤ y := by rw [Int32.le_iff_toInt_le, iv_toInt hx, iv_toInt hy]
theorem iv_eq {x y : Int} (hx : inR x) (hy : inR y) : iv x = iv y ↔ x = y := by rw [← Int32.toInt_inj, iv_toInt hx, iv_toInt hy]
theorem iv_cl {x : Int} (h : inR x) : (iv x).toNatClampNeg = x.toNat := by
  show (iv x).toInt.toNat = x.toNat
  rw [iv_toInt h]
theorem iv_in {x : Int} (h : inR x) {n : Nat} : vp_in (iv x) n ↔ 0 ≤ x ∧ x < (n : Int) := by rw [vp_in_iff, iv_toInt h]
def iz_c : iz_V → Value
  | .inl x => .int (iv x)
  | .inr (.inl q) => .ref q
  | .inr (.inr w) => .long w
def iz_cat : iz_V → Nat
  | .inr (.inr _) => 2
  | _ => 1
theorem iz_c_cat (v : iz_V) : (iz_c v).category = iz_cat v := by
  rcases v with x | q | w <;> rfl
def iz_S (A : iz_A) : ab_S := (fun q j => iv (A.1 q j), A.2)
def iz_okA (A : iz_A) : Prop := ∀ q j, inR (A.1 q j)
def iz_okV : iz_V → Prop
  | .inl x => inR x
  | _ => True
def iz_cL (L : iz_L) : ab_L := L.map (Option.map iz_c)
def iz_okL (L : iz_L) : Prop := ∀ (i : Nat) (v : iz_V), L[i]? = some (some v) → iz_okV v
def iz_okt (st : List iz_V) : Prop := ∀ v ∈ st, iz_okV v
def iz_okO (v : Option iz_V) : Prop := ∀ w, v = some w → iz_okV w
def qi (st : List iz_V) (k : Int → List iz_V → Prop) : Prop := match st with
  | .inl x :: r => k x r
  | _ => False
def ql (st : List iz_V) (k : Int64 → List iz_V → Prop) : Prop := match st with
  | .inr (.inr x) :: r => k x r
  | _ => False
def qr (st : List iz_V) (k : Nat → List iz_V → Prop) : Prop := match st with
  | .inr (.inl x) :: r => k x r
  | _ => False
theorem qi_of {st : List iz_V} {k : Int → List iz_V → Prop} (h : qi st k) : ∃ x r, st = .inl x :: r ∧ k x r := by
  unfold qi at h
  split at h
  · exact ⟨_, _, rfl, h⟩
  · exact h.elim
theorem ql_of {st : List iz_V} {k : Int64 → List iz_V → Prop} (h : ql st k) : ∃ x r, st = .inr (.inr x) :: r ∧ k x r := by
  unfold ql at h
  split at h
  · exact ⟨_, _, rfl, h⟩
  · exact h.elim
theorem qr_of {st : List iz_V} {k : Nat → List iz_V → Prop} (h : qr st k) : ∃ x r, st = .inr (.inl x) :: r ∧ k x r := by
  unfold qr at h
  split at h
  · exact ⟨_, _, rfl, h⟩
  · exact h.elim
def li (L : iz_L) (i : Nat) (k : Int → Prop) : Prop := match L[i]? with
  | some (some (.inl x)) => k x
  | _ => False
def ll (L : iz_L) (i : Nat) (k : Int64 → Prop) : Prop := match L[i]? with
  | some (some (.inr (.inr x))) => k x
  | _ => False
def lr (L : iz_L) (i : Nat) (k : Nat → Prop) : Prop := match L[i]? with
  | some (some (.inr (.inl x))) => k x
  | _ => False
theorem li_of {L : iz_L} {i : Nat} {k : Int → Prop} (h : li L i k) : ∃ x, L[i]? = some (some (.inl x)) ∧ k x := by
  unfold li at h
  split at h
  · exact ⟨_, by assumption, h⟩
  · exact h.elim
theorem ll_of {L : iz_L} {i : Nat} {k : Int64 → Prop} (h : ll L i k) : ∃ x, L[i]? = some (some (.inr (.inr x))) ∧ k x := by
  unfold ll at h
  split at h
  · exact ⟨_, by assumption, h⟩
  · exact h.elim
theorem lr_of {L : iz_L} {i : Nat} {k : Nat → Prop} (h : lr L i k) : ∃ x, L[i]? = some (some (.inr (.inl x))) ∧ k x := by
  unfold lr at h
  split at h
  · exact ⟨_, by assumption, h⟩
  · exact h.elim
/-- no long has its second half at i -/
def iz_nl (L : iz_L) (i : Nat) : Bool := match i with
  | 0 => true
  | j + 1 => match L[j]? with
    | some (some w) => iz_cat w == 1
    | _ => true
def iz_set1 (L : iz_L) (i : Nat) (v : iz_V) : iz_L := L.set i (some v)
def iz_set2 (L : iz_L) (i : Nat) (v : iz_V) : iz_L := (L.set i (some v)).set (i + 1) none
theorem iz_cL_get (L : iz_L) (i : Nat) : (iz_cL L)[i]? = L[i]?.map (Option.map iz_c) := by simp [iz_cL]
theorem iz_cL_clr {L : iz_L} {i : Nat} (hn : iz_nl L i = true) : ab_clr (iz_cL L) i = iz_cL L := by
  unfold ab_clr
  unfold iz_nl at hn
  cases i with
  | zero => rfl
  | succ j =>
    simp only [iz_cL_get]
    cases h : L[j]? with
    | none => rfl
    | some o =>
      cases o with
      | none => rfl
      | some w =>
        simp only [h, beq_iff_eq] at hn
        simp only [Option.map_some, iz_c_cat, hn]
        rfl
theorem iz_cL_set1 {L : iz_L} {i : Nat} (hn : iz_nl L i = true) (v : iz_V) : ab_set1 (iz_cL L) i (iz_c v) = iz_cL (iz_set1 L i v) := by
  unfold ab_set1 iz_set1
  rw [iz_cL_clr hn]
  simp [iz_cL, List.map_set]
theorem iz_cL_set2 {L : iz_L} {i : Nat} (hn : iz_nl L i = true) (v : iz_V) : ab_set2 (iz_cL L) i (iz_c v) = iz_cL (iz_set2 L i v) := by
  unfold ab_set2 iz_set2
  rw [iz_cL_clr hn]
  simp [iz_cL, List.map_set]
theorem iz_okL_set1 {L : iz_L} {i : Nat} {v : iz_V} (h : iz_okL L) (hv : iz_okV v) : iz_okL (iz_set1 L i v) := by
  intro j w hw
  unfold iz_set1 at hw
  rw [List.getElem?_set] at hw
  split at hw
  · split at hw
    · cases hw; exact hv
    · cases hw
  · exact h j w hw
theorem iz_okL_set2 {L : iz_L} {i : Nat} {v : iz_V} (h : iz_okL L) (hv : iz_okV v) : iz_okL (iz_set2 L i v) := by
  intro j w hw
  unfold iz_set2 at hw
  rw [List.getElem?_set] at hw
  split at hw
  · split at hw <;> cases hw
  · rw [List.getElem?_set] at hw
    split at hw
    · split at hw
      · cases hw; exact hv
      · cases hw
    · exact h j w hw
theorem iz_len1 (L : iz_L) : (iz_cL L).length = L.length := by simp [iz_cL]
/-- a place of a row is another number -/
def uz (f : Nat → Int) (j : Nat) (x : Int) : Nat → Int := fun i => if i = j then x else f i
def iz_pI (A : iz_A) (q : Nat) (f : Nat → Int) : iz_A := (fun a => if a = q then f else A.1 a, A.2)
def iz_pL (A : iz_A) (q : Nat) (f : Nat → Int64) : iz_A := (A.1, fun a => if a = q then f else A.2 a)
def iz_cmp (c : Jvm.ClassFile.Cond) (x y : Int) (A B : Prop) : Prop := match c with
  | .eq => (x = y → A) ∧ (¬ x = y → B)
  | .ne => (¬ x = y → A) ∧ (x = y → B)
  | .lt => (x < y → A) ∧ (¬ x < y → B)
  | .ge => (y ≤ x → A) ∧ (¬ y ≤ x → B)
  | .gt => (y < x → A) ∧ (¬ y < x → B)
  | .le => (x ≤ y → A) ∧ (¬ x ≤ y → B)
def iz_lcmp (x y : Int64) : Int := if x > y then 1 else if x = y then 0 else -1
def iz_num (a b : Nat) : Int := if b = 0 then (a : Int) else - (a : Int)
theorem inR_lit {x : Int} (h : decide (-32768 ≤ x ∧ x < 100000) = true) : inR x := by
  have := of_decide_eq_true h
  exact ⟨by omega, by omega⟩
def iz_1 (sc : ab_X) (sh : ab_Sh) (N : Nat) (oc : Nat → Nat) (T : Nat → List iz_V → iz_A → iz_Q → Prop) (J : Nat → iz_L → List iz_V → iz_A → Prop) (Q : iz_Q) (ret : Option FieldType) (pc : Nat) (i : Instr) (a b : Nat) (L : iz_L) (st : List iz_V) (A : iz_A) (k : iz_L → List iz_V → iz_A → Prop) : Prop := match i with
  | .iload n => li L n fun x => k L (.inl x :: st) A
  | .iload_n n => li L n fun x => k L (.inl x :: st) A
  | .lload n => ll L n fun x => k L (.inr (.inr x) :: st) A
  | .lload_n n => ll L n fun x => k L (.inr (.inr x) :: st) A
  | .aload n => lr L n fun x => k L (.inr (.inl x) :: st) A
  | .aload_n n => lr L n fun x => k L (.inr (.inl x) :: st) A
  | .istore n => qi st fun x st => if (decide (n < L.length) && iz_nl L n) = true then k (iz_set1 L n (.inl x)) st A else False
  | .istore_n n => qi st fun x st => if (decide (n < L.length) && iz_nl L n) = true then k (iz_set1 L n (.inl x)) st A else False
  | .lstore n => ql st fun x st => if (decide (n + 1 < L.length) && iz_nl L n) = true then k (iz_set2 L n (.inr (.inr x))) st A else False
  | .lstore_n n => ql st fun x st => if (decide (n + 1 < L.length) && iz_nl L n) = true then k (iz_set2 L n (.inr (.inr x))) st A else False
  | .iinc n d => li L n fun x => if (decide (n < L.length) && iz_nl L n) = true then inR (x + d) ∧ k (iz_set1 L n (.inl (x + d))) st A else False
  | .iconst n => if decide (-32768 ≤ n ∧ n < 32768) then k L (.inl n :: st) A else False
  | .bipush n => if decide (-128 ≤ n ∧ n < 128) then k L (.inl n :: st) A else False
  | .sipush n => if decide (-32768 ≤ n ∧ n < 32768) then k L (.inl n :: st) A else False
  | .lconst n => k L (.inr (.inr (Int64.ofNat n)) :: st) A
  | .ldc _ => if a < 2000000 then k L (.inl (iz_num a b) :: st) A else False
  | .ldc_w _ => if a < 2000000 then k L (.inl (iz_num a b) :: st) A else False
  | .ldc2_w _ => k L (.inr (.inr (ab_lnum a b)) :: st) A
  | .dup => (match st with
    | v :: st => if iz_cat v = 1 then k L (v :: v :: st) A else False
    | [] => False)
  | .dup2 => (match st with
    | v :: w :: st => if iz_cat v = 1 then (if iz_cat w = 1 then k L (v :: w :: v :: w :: st) A else False) else False
    | _ => False)
  | .iadd => qi st fun y st => qi st fun x st => inR (x + y) ∧ k L (.inl (x + y) :: st) A
  | .isub => qi st fun y st => qi st fun x st => inR (x - y) ∧ k L (.inl (x - y) :: st) A
  | .imul => qi st fun y st => qi st fun x st => inR (x * y) ∧ k L (.inl (x * y) :: st) A
  | .idiv => qi st fun y st => qi st fun x st => ¬ y = 0 ∧ k L (.inl (iv x / iv y).toInt :: st) A
  | .irem => qi st fun y st => qi st fun x st => ¬ y = 0 ∧ k L (.inl (iv x - iv x / iv y * iv y).toInt :: st) A
  | .iand => qi st fun y st => qi st fun x st => k L (.inl (iv x &&& iv y).toInt :: st) A
  | .ior => qi st fun y st => qi st fun x st => k L (.inl (iv x ||| iv y).toInt :: st) A
  | .ishr => qi st fun y st => qi st fun x st => k L (.inl (iv x >>> (iv y &&& 31)).toInt :: st) A
  | .iushr => qi st fun y st => qi st fun x st => k L (.inl ((iv x).toUInt32 >>> ((iv y).toUInt32 &&& Int32.toUInt32 31)).toInt32.toInt :: st) A
  | .i2l => qi st fun x st => k L (.inr (.inr (iv x).toInt64) :: st) A
  | .ladd => ql st fun y st => ql st fun x st => k L (.inr (.inr (x + y)) :: st) A
  | .lmul => ql st fun y st => ql st fun x st => k L (.inr (.inr (x * y)) :: st) A
  | .land => ql st fun y st => ql st fun x st => k L (.inr (.inr (x &&& y)) :: st) A
  | .lor => ql st fun y st => ql st fun x st => k L (.inr (.inr (x ||| y)) :: st) A
  | .lxor => ql st fun y st => ql st fun x st => k L (.inr (.inr (x ^^^ y)) :: st) A
  | .lshl => qi st fun y st => ql st fun x st => k L (.inr (.inr (x <<< ((iv y).toInt64 &&& 63))) :: st) A
  | .lshr => qi st fun y st => ql st fun x st => k L (.inr (.inr (x >>> ((iv y).toInt64 &&& 63))) :: st) A
  | .lushr => qi st fun y st => ql st fun x st => k L (.inr (.inr (x.toUInt64 >>> ((iv y).toInt64.toUInt64 &&& Int64.toUInt64 63)).toInt64) :: st) A
  | .lcmp => ql st fun y st => ql st fun x st => k L (.inl (iz_lcmp x y) :: st) A
  | .getfield _ => qr st fun q st => ab_obj sh N q a fun fl => (match fl[b]? with
    | some (some r) => k L (.inr (.inl r) :: st) A
    | some none => k L (.inl (A.1 q b) :: st) A
    | none => False)
  | .putfield _ => qi st fun x st => qr st fun q st => ab_obj sh N q a fun fl => if b < 1000
      then (match fl[b]? with
        | some none => k L st (iz_pI A q (uz (A.1 q) b x))
        | _ => False)
      else (match fl[b - 1000]? with
        | some none => (x = 0 ∨ x = 1) ∧ k L st (iz_pI A q (uz (A.1 q) (b - 1000) x))
        | _ => False)
  | .iaload => qi st fun j st => qr st fun q st => if q = ab_scr then ab_sx sc fun n xs => (0 ≤ j ∧ j < (n : Int)) ∧ k L (.inl (xs j.toNat).toInt :: st) A else ab_arr sh N q 0 fun n => (0 ≤ j ∧ j < (n : Int)) ∧ k L (.inl (A.1 q j.toNat) :: st) A
  | .baload => qi st fun j st => qr st fun q st => ab_arr sh N q 1 fun n => (0 ≤ j ∧ j < (n : Int)) ∧ k L (.inl (A.1 q j.toNat) :: st) A
  | .laload => qi st fun j st => qr st fun q st => ab_arr sh N q 2 fun n => (0 ≤ j ∧ j < (n : Int)) ∧ k L (.inr (.inr (A.2 q j.toNat)) :: st) A
  | .iastore => qi st fun x st => qi st fun j st => qr st fun q st => ab_arr sh N q 0 fun n => (0 ≤ j ∧ j < (n : Int)) ∧ k L st (iz_pI A q (uz (A.1 q) j.toNat x))
  | .bastore => qi st fun x st => qi st fun j st => qr st fun q st => ab_arr sh N q 1 fun n => (0 ≤ j ∧ j < (n : Int)) ∧ (x = 0 ∨ x = 1) ∧ k L st (iz_pI A q (uz (A.1 q) j.toNat x))
  | .lastore => ql st fun x st => qi st fun j st => qr st fun q st => ab_arr sh N q 2 fun n => (0 ≤ j ∧ j < (n : Int)) ∧ k L st (iz_pL A q (vp_updL (A.2 q) j.toNat x))
  | .arraylength => qr st fun q st => if q = ab_scr then ab_sx sc fun n _ => n < 100000 ∧ k L (.inl (n : Int) :: st) A else ab_arr sh N q a fun n => if n < 100000 then k L (.inl (n : Int) :: st) A else False
  | .goto _ => J a L st A
  | .if_icmp c _ => qi st fun y st => qi st fun x st => iz_cmp c x y (J a L st A) (k L st A)
  | .ifCond c _ => qi st fun x st => iz_cmp c x 0 (J a L st A) (k L st A)
  | .tableswitch d lo hi offs => qi st fun x st => (x < lo ∨ hi < x → J (pc + d.toNat) L st A) ∧ (¬ x < lo → ¬ hi < x → ∃ o : Nat, offs[(x - lo).toNat]? = some (o : Int) ∧ J (pc + o) L st A)
  | .lookupswitch d ps => qi st fun x st => ∃ o : Nat, Op.lookupswitch.offset ps.toList d x = (o : Int) ∧ J (pc + o) L st A
  | .invokevirtual _ => if (st.drop (b + 1)).length ≤ 4 then (match st.drop b with
    | .inr (.inl q) :: r => ab_obj sh N q (oc a) fun _ => T a (.inr (.inl q) :: (st.take b).reverse) A fun v A' => k L (v.toList ++ r) A'
    | _ => False) else False
  | .invokestatic _ => if a = 1000 then qi st fun y st => qi st fun x st => if st.length ≤ 4 then k L (.inl (if x < y then y else x) :: st) A else False
    else if a = 1001 then qi st fun y st => qi st fun x st => if st.length ≤ 4 then k L (.inl (if y < x then y else x) :: st) A else False
    else if a = 1002 then qi st fun n st => qi st fun dp st => qr st fun q1 st => qi st fun sp st => qr st fun q0 st => if st.length ≤ 4 then ab_arr sh N q0 0 fun n0 => ab_arr sh N q1 0 fun n1 => (0 ≤ sp ∧ 0 ≤ dp ∧ 0 ≤ n ∧ sp + n ≤ (n0 : Int) ∧ dp + n ≤ (n1 : Int)) ∧ k L st (iz_pI A q1 (va_cpy (A.1 q0) (A.1 q1) sp.toNat dp.toNat n.toNat)) else False
    else if b ≤ st.length then (if (st.drop b).length ≤ 4 then T a (st.take b).reverse A fun v A' => k L (v.toList ++ st.drop b) A' else False) else False
  | .ireturn => qi st fun x st => if st.length = 0 then (match ret with
    | some .int => Q (some (.inl x)) A
    | some .boolean => (x = 0 ∨ x = 1) ∧ Q (some (.inl x)) A
    | _ => False) else False
  | .return_ => if st.length = 0 then (match ret with
    | none => Q none A
    | _ => False) else False
  | .monitorexit => J pc L st A
  | _ => False
def iz_w (sc : ab_X) (sh : ab_Sh) (N : Nat) (oc : Nat → Nat) (T : Nat → List iz_V → iz_A → iz_Q → Prop) (J : Nat → iz_L → List iz_V → iz_A → Prop) (Q : iz_Q) (ret : Option FieldType) : List ab_I → iz_L → List iz_V → iz_A → Prop
  | [], _, _, _ => False
  | (pc, i, _, a, b) :: r, L, st, A => iz_1 sc sh N oc T J Q ret pc i a b L st A fun L st A => iz_w sc sh N oc T J Q ret r L st A
def iz_le (L0 L : iz_L) : Prop := L0.length = L.length ∧ ∀ (i : Nat) (v : iz_V), L0[i]? = some (some v) → L[i]? = some (some v)
theorem iz_le_rf (L : iz_L) : iz_le L L := ⟨rfl, fun _ _ h => h⟩
theorem iz_le_c {L0 L : iz_L} (h : iz_le L0 L) : ab_le (iz_cL L0) (iz_cL L) := by
  refine ⟨by rw [iz_len1, iz_len1]; exact h.1, fun i v hv => ?_⟩
  rw [iz_cL_get] at hv ⊢
  cases hi : L0[i]? with
  | none => rw [hi] at hv; cases hv
  | some o =>
    cases o with
    | none => rw [hi] at hv; cases hv
    | some w =>
      rw [hi] at hv
      rw [h.2 i w hi]
      exact hv
theorem iz_le_ok {L0 L : iz_L} (h : iz_le L0 L) (o : iz_okL L) : iz_okL L0 := fun i v hv => o i v (h.2 i v hv)
def iz_run (sc : ab_X) (sh : ab_Sh) (N : Nat) (oc : Nat → Nat) (T : Nat → List iz_V → iz_A → iz_Q → Prop) (ret : Option FieldType) (cd : List ab_I) (Q : iz_Q) (pc : Nat) (L : iz_L) (st : List iz_V) (A : iz_A) : Prop :=
  ∀ X : Nat → iz_L → List iz_V → iz_A → Prop, (∀ (pc : Nat) (L L0 : iz_L) (st : List iz_V) (A : iz_A), iz_le L0 L → iz_w sc sh N oc T X Q ret (ab_from pc cd) L0 st A → X pc L st A) → X pc L st A
def iz_en : List iz_V → iz_L
  | [] => []
  | v :: vs => if iz_cat v = 2 then some v :: none :: iz_en vs else some v :: iz_en vs
def iz_T (sh : ab_Sh) (N : Nat) (pr : List ab_M) : Nat → Nat → List iz_V → iz_A → iz_Q → Prop
  | 0, _, _, _, _ => False
  | d + 1, k, as, A, Q => match pr[k]? with
    | none => False
    | some M => (iz_en as).length ≤ M.2.2.2.1 ∧ iz_run none sh N (ab_oc pr) (iz_T sh N pr d) M.2.2.2.2.1 M.2.2.2.2.2 Q 0 (iz_en as ++ List.replicate (M.2.2.2.1 - (iz_en as).length) none) [] A
