section
/-! ===== THE SMALL MACHINE: a state is two tables of numbers (ints and longs by cell and place), references are numbers of cells, the shape of all cells stays as it is; what an instruction asks is a proposition that can be computed. ===== -/
abbrev ab_S : Type := (Nat → Nat → Int32) × (Nat → Nat → Int64)
abbrev ab_L : Type := List (Option Value)
/-- pc, instruction, its length, two resolved operands -/
abbrev ab_I : Type := Nat × Instr × Nat × Nat × Nat
/-- a cell: an array (type number, length), or an object (number of its kind, its fields: some r a reference to cell r, none a number) -/
abbrev ab_Sh : Type := Nat → (Nat × Nat) ⊕ (Nat × List (Option Nat))
/-- name, own kind's number, code, locals, what it returns, instructions -/
abbrev ab_M : Type := MethodName × Nat × ByteArray × Nat × Option FieldType × List ab_I
abbrev ab_Q : Type := Option Value → ab_S → Prop
def pop_i (st : List Value) (k : Int32 → List Value → Prop) : Prop := match st with
  | .int x :: r => k x r
  | _ => False
def pop_l (st : List Value) (k : Int64 → List Value → Prop) : Prop := match st with
  | .long x :: r => k x r
  | _ => False
def pop_r (st : List Value) (k : Nat → List Value → Prop) : Prop := match st with
  | .ref x :: r => k x r
  | _ => False
theorem pop_i_of {st : List Value} {k : Int32 → List Value → Prop} (h : pop_i st k) : ∃ x r, st = .int x :: r ∧ k x r := by
  unfold pop_i at h
  split at h
  · exact ⟨_, _, rfl, h⟩
  · exact h.elim
theorem pop_l_of {st : List Value} {k : Int64 → List Value → Prop} (h : pop_l st k) : ∃ x r, st = .long x :: r ∧ k x r := by
  unfold pop_l at h
  split at h
  · exact ⟨_, _, rfl, h⟩
  · exact h.elim
theorem pop_r_of {st : List Value} {k : Nat → List Value → Prop} (h : pop_r st k) : ∃ x r, st = .ref x :: r ∧ k x r := by
  unfold pop_r at h
  split at h
  · exact ⟨_, _, rfl, h⟩
  · exact h.elim
def ld_i (L : ab_L) (i : Nat) (k : Int32 → Prop) : Prop := match L[i]? with
  | some (some (.int x)) => k x
  | _ => False
def ld_l (L : ab_L) (i : Nat) (k : Int64 → Prop) : Prop := match L[i]? with
  | some (some (.long x)) => k x
  | _ => False
def ld_r (L : ab_L) (i : Nat) (k : Nat → Prop) : Prop := match L[i]? with
  | some (some (.ref x)) => k x
  | _ => False
theorem ld_i_of {L : ab_L} {i : Nat} {k : Int32 → Prop} (h : ld_i L i k) : ∃ x, L[i]? = some (some (.int x)) ∧ k x := by
  unfold ld_i at h
  split at h
  · exact ⟨_, by assumption, h⟩
  · exact h.elim
theorem ld_l_of {L : ab_L} {i : Nat} {k : Int64 → Prop} (h : ld_l L i k) : ∃ x, L[i]? = some (some (.long x)) ∧ k x := by
  unfold ld_l at h
  split at h
  · exact ⟨_, by assumption, h⟩
  · exact h.elim
theorem ld_r_of {L : ab_L} {i : Nat} {k : Nat → Prop} (h : ld_r L i k) : ∃ x, L[i]? = some (some (.ref x)) ∧ k x := by
  unfold ld_r at h
  split at h
  · exact ⟨_, by assumption, h⟩
  · exact h.elim
/-- before a store at i: a long whose second half lies at i is gone -/
def ab_clr (L : ab_L) (i : Nat) : ab_L := match i with
  | 0 => L
  | j + 1 => match L[j]? with
    | some (some w) => if w.category = 2 then L.set j none else L
    | _ => L
def ab_set1 (L : ab_L) (i : Nat) (v : Value) : ab_L := (ab_clr L i).set i (some v)
def ab_set2 (L : ab_L) (i : Nat) (v : Value) : ab_L := ((ab_clr L i).set i (some v)).set (i + 1) none
/-- a row of ints, of longs is another one -/
def ab_pI (S : ab_S) (q : Nat) (f : Nat → Int32) : ab_S := (fun a => if a = q then f else S.1 a, S.2)
def ab_pL (S : ab_S) (q : Nat) (f : Nat → Int64) : ab_S := (S.1, fun a => if a = q then f else S.2 a)
def ab_cmp (c : Jvm.ClassFile.Cond) (x y : Int32) (A B : Prop) : Prop := match c with
  | .eq => (x = y → A) ∧ (¬ x = y → B)
  | .ne => (¬ x = y → A) ∧ (x = y → B)
  | .lt => (x < y → A) ∧ (¬ x < y → B)
  | .ge => (y ≤ x → A) ∧ (¬ y ≤ x → B)
  | .gt => (y < x → A) ∧ (¬ y < x → B)
  | .le => (x ≤ y → A) ∧ (¬ x ≤ y → B)
/-- an array of a type: its length goes on -/
def ab_arr (sh : ab_Sh) (N q t : Nat) (k : Nat → Prop) : Prop := if q < N then (match sh q with
  | .inl (t', n) => if t' = t then k n else False
  | .inr _ => False) else False
/-- an object of a kind: its fields go on -/
def ab_obj (sh : ab_Sh) (N q ci : Nat) (k : List (Option Nat) → Prop) : Prop := if q < N then (match sh q with
  | .inr (c, fl) => if c = ci then k fl else False
  | .inl _ => False) else False
theorem ab_arr_of {sh : ab_Sh} {N q t : Nat} {k : Nat → Prop} (h : ab_arr sh N q t k) : q < N ∧ ∃ n, sh q = .inl (t, n) ∧ k n := by
  unfold ab_arr at h
  split at h
  · rename_i hq
    refine ⟨hq, ?_⟩
    split at h
    · rename_i t' n e
      split at h
      · rename_i e2
        subst e2
        exact ⟨n, e, h⟩
      · exact h.elim
    · exact h.elim
  · exact h.elim
theorem ab_obj_of {sh : ab_Sh} {N q ci : Nat} {k : List (Option Nat) → Prop} (h : ab_obj sh N q ci k) : q < N ∧ ∃ fl, sh q = .inr (ci, fl) ∧ k fl := by
  unfold ab_obj at h
  split at h
  · rename_i hq
    refine ⟨hq, ?_⟩
    split at h
    · rename_i t' n e
      split at h
      · rename_i e2
        subst e2
        exact ⟨n, e, h⟩
      · exact h.elim
    · exact h.elim
  · exact h.elim
/-- the script's own number -/
def ab_scr : Nat := 777
abbrev ab_X : Type := Option (Nat × (Nat → Int32))
def ab_sx (sc : ab_X) (k : Nat → (Nat → Int32) → Prop) : Prop := match sc with
  | some (n, xs) => k n xs
  | none => False
theorem ab_sx_of {sc : ab_X} {k : Nat → (Nat → Int32) → Prop} (h : ab_sx sc k) : ∃ n xs, sc = some (n, xs) ∧ k n xs := by
  unfold ab_sx at h
  split at h
  · exact ⟨_, _, rfl, h⟩
  · exact h.elim
def ab_num (a b : Nat) : Int32 := if b = 0 then nI a else - nI a
def ab_lnum (a b : Nat) : Int64 := if b = 0 then lN a else - lN a
/-- one instruction: k what follows behind it, J what holds at a jump's goal, T a called method, Q the method's end -/
def ab_1 (sc : ab_X) (sh : ab_Sh) (N : Nat) (oc : Nat → Nat) (T : Nat → List Value → ab_S → ab_Q → Prop) (J : Nat → ab_L → List Value → ab_S → Prop) (Q : ab_Q) (ret : Option FieldType) (pc : Nat) (i : Instr) (a b : Nat) (L : ab_L) (st : List Value) (S : ab_S) (k : ab_L → List Value → ab_S → Prop) : Prop := match i with
  | .iload n => ld_i L n fun x => k L (.int x :: st) S
  | .iload_n n => ld_i L n fun x => k L (.int x :: st) S
  | .lload n => ld_l L n fun x => k L (.long x :: st) S
  | .lload_n n => ld_l L n fun x => k L (.long x :: st) S
  | .aload n => ld_r L n fun x => k L (.ref x :: st) S
  | .aload_n n => ld_r L n fun x => k L (.ref x :: st) S
  | .istore n => pop_i st fun x st => if n < L.length then k (ab_set1 L n (.int x)) st S else False
  | .istore_n n => pop_i st fun x st => if n < L.length then k (ab_set1 L n (.int x)) st S else False
  | .lstore n => pop_l st fun x st => if n + 1 < L.length then k (ab_set2 L n (.long x)) st S else False
  | .lstore_n n => pop_l st fun x st => if n + 1 < L.length then k (ab_set2 L n (.long x)) st S else False
  | .iinc n d => ld_i L n fun x => if n < L.length then k (ab_set1 L n (.int (x + Int32.ofInt d))) st S else False
  | .iconst n => k L (.int (Int32.ofInt n) :: st) S
  | .bipush n => k L (.int (Int8.ofInt n).toInt32 :: st) S
  | .sipush n => k L (.int (Int16.ofInt n).toInt32 :: st) S
  | .lconst n => k L (.long (Int64.ofNat n) :: st) S
  | .ldc _ => k L (.int (ab_num a b) :: st) S
  | .ldc_w _ => k L (.int (ab_num a b) :: st) S
  | .ldc2_w _ => k L (.long (ab_lnum a b) :: st) S
  | .dup => (match st with
    | v :: st => if v.category = 1 then k L (v :: v :: st) S else False
    | [] => False)
  | .dup2 => (match st with
    | v :: w :: st => if v.category = 1 then (if w.category = 1 then k L (v :: w :: v :: w :: st) S else False) else False
    | _ => False)
  | .iadd => pop_i st fun y st => pop_i st fun x st => k L (.int (x + y) :: st) S
  | .isub => pop_i st fun y st => pop_i st fun x st => k L (.int (x - y) :: st) S
  | .imul => pop_i st fun y st => pop_i st fun x st => k L (.int (x * y) :: st) S
  | .idiv => pop_i st fun y st => pop_i st fun x st => ¬ y = 0 ∧ k L (.int (x / y) :: st) S
  | .irem => pop_i st fun y st => pop_i st fun x st => ¬ y = 0 ∧ k L (.int (x - x / y * y) :: st) S
  | .iand => pop_i st fun y st => pop_i st fun x st => k L (.int (x &&& y) :: st) S
  | .ior => pop_i st fun y st => pop_i st fun x st => k L (.int (x ||| y) :: st) S
  | .ishr => pop_i st fun y st => pop_i st fun x st => k L (.int (x >>> (y &&& 31)) :: st) S
  | .iushr => pop_i st fun y st => pop_i st fun x st => k L (.int (x.toUInt32 >>> (y.toUInt32 &&& Int32.toUInt32 31)).toInt32 :: st) S
  | .i2l => pop_i st fun x st => k L (.long x.toInt64 :: st) S
  | .ladd => pop_l st fun y st => pop_l st fun x st => k L (.long (x + y) :: st) S
  | .lmul => pop_l st fun y st => pop_l st fun x st => k L (.long (x * y) :: st) S
  | .land => pop_l st fun y st => pop_l st fun x st => k L (.long (x &&& y) :: st) S
  | .lor => pop_l st fun y st => pop_l st fun x st => k L (.long (x ||| y) :: st) S
  | .lxor => pop_l st fun y st => pop_l st fun x st => k L (.long (x ^^^ y) :: st) S
  | .lshl => pop_i st fun y st => pop_l st fun x st => k L (.long (x <<< (y.toInt64 &&& 63)) :: st) S
  | .lshr => pop_i st fun y st => pop_l st fun x st => k L (.long (x >>> (y.toInt64 &&& 63)) :: st) S
  | .lushr => pop_i st fun y st => pop_l st fun x st => k L (.long (x.toUInt64 >>> (y.toInt64.toUInt64 &&& Int64.toUInt64 63)).toInt64 :: st) S
  | .lcmp => pop_l st fun y st => pop_l st fun x st => k L (.int (lg_cmp x y) :: st) S
  | .getfield _ => pop_r st fun q st => ab_obj sh N q a fun fl => (match fl[b]? with
    | some (some r) => k L (.ref r :: st) S
    | some none => k L (.int (S.1 q b) :: st) S
    | none => False)
  | .putfield _ => pop_i st fun x st => pop_r st fun q st => ab_obj sh N q a fun fl => if b < 1000
      then (match fl[b]? with
        | some none => k L st (ab_pI S q (upd (S.1 q) b x))
        | _ => False)
      else (match fl[b - 1000]? with
        | some none => (x = 0 ∨ x = 1) ∧ k L st (ab_pI S q (upd (S.1 q) (b - 1000) x))
        | _ => False)
  | .iaload => pop_i st fun j st => pop_r st fun q st => if q = ab_scr then ab_sx sc fun n xs => vp_in j n ∧ k L (.int (xs j.toNatClampNeg) :: st) S else ab_arr sh N q 0 fun n => vp_in j n ∧ k L (.int (S.1 q j.toNatClampNeg) :: st) S
  | .baload => pop_i st fun j st => pop_r st fun q st => ab_arr sh N q 1 fun n => vp_in j n ∧ k L (.int (S.1 q j.toNatClampNeg) :: st) S
  | .laload => pop_i st fun j st => pop_r st fun q st => ab_arr sh N q 2 fun n => vp_in j n ∧ k L (.long (S.2 q j.toNatClampNeg) :: st) S
  | .iastore => pop_i st fun x st => pop_i st fun j st => pop_r st fun q st => ab_arr sh N q 0 fun n => vp_in j n ∧ k L st (ab_pI S q (upd (S.1 q) j.toNatClampNeg x))
  | .bastore => pop_i st fun x st => pop_i st fun j st => pop_r st fun q st => ab_arr sh N q 1 fun n => vp_in j n ∧ (x = 0 ∨ x = 1) ∧ k L st (ab_pI S q (upd (S.1 q) j.toNatClampNeg x))
  | .lastore => pop_l st fun x st => pop_i st fun j st => pop_r st fun q st => ab_arr sh N q 2 fun n => vp_in j n ∧ k L st (ab_pL S q (vp_updL (S.2 q) j.toNatClampNeg x))
  | .arraylength => pop_r st fun q st => if q = ab_scr then ab_sx sc fun n _ => k L (.int (nI n) :: st) S else ab_arr sh N q a fun n => k L (.int (Int32.ofNat n) :: st) S
  | .goto _ => J a L st S
  | .if_icmp c _ => pop_i st fun y st => pop_i st fun x st => ab_cmp c x y (J a L st S) (k L st S)
  | .ifCond c _ => pop_i st fun x st => ab_cmp c x 0 (J a L st S) (k L st S)
  | .tableswitch d lo hi offs => pop_i st fun x st => (x.toInt < lo ∨ hi < x.toInt → J (pc + d.toNat) L st S) ∧ (¬ x.toInt < lo → ¬ hi < x.toInt → ∃ o : Nat, offs[(x.toInt - lo).toNat]? = some (o : Int) ∧ J (pc + o) L st S)
  | .lookupswitch d ps => pop_i st fun x st => ∃ o : Nat, Op.lookupswitch.offset ps.toList d x.toInt = (o : Int) ∧ J (pc + o) L st S
  | .invokevirtual _ => if (st.drop (b + 1)).length ≤ 4 then (match st.drop b with
    | .ref q :: r => ab_obj sh N q (oc a) fun _ => T a (.ref q :: (st.take b).reverse) S fun v S' => k L (v.toList ++ r) S'
    | _ => False) else False
  | .invokestatic _ => if a = 1000 then pop_i st fun y st => pop_i st fun x st => if st.length ≤ 4 then k L (.int (if x < y then y else x) :: st) S else False
    else if a = 1001 then pop_i st fun y st => pop_i st fun x st => if st.length ≤ 4 then k L (.int (if y < x then y else x) :: st) S else False
    else if a = 1002 then pop_i st fun n st => pop_i st fun dp st => pop_r st fun q1 st => pop_i st fun sp st => pop_r st fun q0 st => if st.length ≤ 4 then ab_arr sh N q0 0 fun n0 => ab_arr sh N q1 0 fun n1 => ¬ sp < 0 ∧ ¬ dp < 0 ∧ ¬ n < 0 ∧ sp.toNatClampNeg + n.toNatClampNeg ≤ n0 ∧ dp.toNatClampNeg + n.toNatClampNeg ≤ n1 ∧ k L st (ab_pI S q1 (va_cpy (S.1 q0) (S.1 q1) sp.toNatClampNeg dp.toNatClampNeg n.toNatClampNeg)) else False
    else if b ≤ st.length then (if (st.drop b).length ≤ 4 then T a (st.take b).reverse S fun v S' => k L (v.toList ++ st.drop b) S' else False) else False
  | .ireturn => pop_i st fun x st => if st.length = 0 then (match ret with
    | some .int => Q (some (.int x)) S
    | some .boolean => (x = 0 ∨ x = 1) ∧ Q (some (.int x)) S
    | _ => False) else False
  | .return_ => if st.length = 0 then (match ret with
    | none => Q none S
    | _ => False) else False
  | .monitorexit => J pc L st S
  | _ => False
def ab_w (sc : ab_X) (sh : ab_Sh) (N : Nat) (oc : Nat → Nat) (T : Nat → List Value → ab_S → ab_Q → Prop) (J : Nat → ab_L → List Value → ab_S → Prop) (Q : ab_Q) (ret : Option FieldType) : List ab_I → ab_L → List Value → ab_S → Prop
  | [], _, _, _ => False
  | (pc, i, _, a, b) :: r, L, st, S => ab_1 sc sh N oc T J Q ret pc i a b L st S fun L st S => ab_w sc sh N oc T J Q ret r L st S
/-- the instructions from a pc on; a row of length 0 is a mark (monitorexit, which no code here has): the run may be cut there -/
def ab_from (pc : Nat) : List ab_I → List ab_I
  | [] => []
  | q :: r => if q.1 = pc then (if q.2.2.1 = 0 then ab_from pc r else q :: r) else ab_from pc r
/-- fewer locals are known -/
def ab_le (L0 L : ab_L) : Prop := L0.length = L.length ∧ ∀ (i : Nat) (v : Value), L0[i]? = some (some v) → L[i]? = some (some v)
theorem ab_le_rf (L : ab_L) : ab_le L L := ⟨rfl, fun _ _ h => h⟩
/-- the run from a pc on ends well: the least predicate that every row's own demand closes; locals may be forgotten -/
def ab_run (sc : ab_X) (sh : ab_Sh) (N : Nat) (oc : Nat → Nat) (T : Nat → List Value → ab_S → ab_Q → Prop) (ret : Option FieldType) (cd : List ab_I) (Q : ab_Q) (pc : Nat) (L : ab_L) (st : List Value) (S : ab_S) : Prop :=
  ∀ X : Nat → ab_L → List Value → ab_S → Prop, (∀ (pc : Nat) (L L0 : ab_L) (st : List Value) (S : ab_S), ab_le L0 L → ab_w sc sh N oc T X Q ret (ab_from pc cd) L0 st S → X pc L st S) → X pc L st S
/-- the locals at a method's entry -/
def ab_en : List Value → ab_L
  | [] => []
  | v :: vs => if v.category = 2 then some v :: none :: ab_en vs else some v :: ab_en vs
def ab_oc (pr : List ab_M) (k : Nat) : Nat := match pr[k]? with
  | some M => M.2.1
  | none => 0
def ab_T (sh : ab_Sh) (N : Nat) (pr : List ab_M) : Nat → Nat → List Value → ab_S → ab_Q → Prop
  | 0, _, _, _, _ => False
  | d + 1, k, as, S, Q => match pr[k]? with
    | none => False
    | some M => (ab_en as).length ≤ M.2.2.2.1 ∧ ab_run none sh N (ab_oc pr) (ab_T sh N pr d) M.2.2.2.2.1 M.2.2.2.2.2 Q 0 (ab_en as ++ List.replicate (M.2.2.2.1 - (ab_en as).length) none) [] S
end
section
/-! ===== the small machine is sound: relations between its states and the heap ===== -/
def ab_v (ad : Nat → Nat) : Value → Value
  | .ref k => .ref (ad k)
  | v => v
theorem ab_v_cat (ad : Nat → Nat) (v : Value) : (ab_v ad v).category = v.category := by cases v <;> rfl
def ab_as (ad : Nat → Nat) (L : ab_L) : List (Nat × Value) := (List.range L.length).filterMap fun j => match L[j]? with
  | some (some v) => some (j, ab_v ad v)
  | _ => none
theorem ab_as_mem {ad : Nat → Nat} {L : ab_L} {j : Nat} {w : Value} : (j, w) ∈ ab_as ad L ↔ ∃ v, L[j]? = some (some v) ∧ w = ab_v ad v := by
  unfold ab_as
  rw [List.mem_filterMap]
  constructor
  · rintro ⟨k, -, h⟩
    split at h
    · rename_i v e
      cases h
      exact ⟨v, e, rfl⟩
    · cases h
  · rintro ⟨v, e, rfl⟩
    refine ⟨j, List.mem_range.mpr ?_, ?_⟩
    · exact (List.getElem?_eq_some_iff.mp e).1
    · rw [e]
def ab_Lr (ad : Nat → Nat) (L : ab_L) (ls : Array Slot) (nL : Nat) : Prop := L.length = nL ∧ lv_has ls nL (ab_as ad L)
theorem ab_Lr.at {ad : Nat → Nat} {L : ab_L} {ls : Array Slot} {nL i : Nat} {v : Value} (h : ab_Lr ad L ls nL) (hv : L[i]? = some (some v)) : ls[i]? = some (.val (ab_v ad v)) := h.2.2.2 (i, _) (ab_as_mem.mpr ⟨v, hv, rfl⟩)
theorem ab_Lr.forget {ad : Nat → Nat} {L L0 : ab_L} {ls : Array Slot} {nL : Nat} (hle : ab_le L0 L) (h : ab_Lr ad L ls nL) : ab_Lr ad L0 ls nL := by
  refine ⟨hle.1.trans h.1, h.2.1, h.2.2.1, fun q hq => ?_⟩
  obtain ⟨j, w⟩ := q
  obtain ⟨u, hu, rfl⟩ := ab_as_mem.mp hq
  exact h.at (hle.2 j u hu)
theorem ab_clr_len (L : ab_L) (i : Nat) : (ab_clr L i).length = L.length := by
  unfold ab_clr
  split
  · rfl
  · split
    · split
      · simp
      · rfl
    · rfl
theorem ab_clr_get {L : ab_L} {i j : Nat} {u : Value} (h : (ab_clr L i)[j]? = some (some u)) : L[j]? = some (some u) ∧ (j + 1 = i → u.category ≠ 2) := by
  unfold ab_clr at h
  split at h
  · exact ⟨h, fun e => by omega⟩
  · rename_i k
    split at h
    · rename_i w e
      split at h
      · rename_i hw
        rw [List.getElem?_set] at h
        split at h
        · split at h
          · cases h
          · cases h
        · rename_i hne
          exact ⟨h, fun e2 => absurd (by omega : k = j) hne⟩
      · rename_i hw
        refine ⟨h, fun e2 => ?_⟩
        have : j = k := by omega
        subst this
        rw [e] at h
        cases h
        exact hw
    · rename_i hno
      refine ⟨h, fun e2 => ?_⟩
      have : j = k := by omega
      subst this
      exact absurd h (hno u)
theorem ab_Lr.set1 {ad : Nat → Nat} {L : ab_L} {ls ls' : Array Slot} {nL i : Nat} {v : Value} (h : ab_Lr ad L ls nL) (hi : i < L.length)
    (h' : lv_has ls' nL ((i, ab_v ad v) :: (ab_as ad L).filter (fun q => !(q.1 == i) && !(q.1 + 1 == i && q.2.category == 2)))) : ab_Lr ad (ab_set1 L i v) ls' nL := by
  refine ⟨by unfold ab_set1; rw [List.length_set, ab_clr_len]; exact h.1, h'.1, h'.2.1, fun q hq => ?_⟩
  obtain ⟨j, w⟩ := q
  obtain ⟨u, hu, rfl⟩ := ab_as_mem.mp hq
  unfold ab_set1 at hu
  rw [List.getElem?_set] at hu
  split at hu
  · rename_i e
    subst e
    split at hu
    · cases hu
      exact h'.2.2 _ List.mem_cons_self
    · cases hu
  · rename_i e
    obtain ⟨h1, h2⟩ := ab_clr_get hu
    refine h'.2.2 _ (List.mem_cons_of_mem _ (List.mem_filter.mpr ⟨ab_as_mem.mpr ⟨u, h1, rfl⟩, ?_⟩))
    have e2 : ¬ j = i := fun z => e z.symm
    simp only [Bool.and_eq_true, Bool.not_eq_true', beq_eq_false_iff_ne, ne_eq, Bool.and_eq_false_iff]
    refine ⟨e2, ?_⟩
    by_cases z : j + 1 = i
    · exact Or.inr (by rw [ab_v_cat]; exact h2 z)
    · exact Or.inl z
theorem ab_Lr.set2 {ad : Nat → Nat} {L : ab_L} {ls ls' : Array Slot} {nL i : Nat} {v : Value} (h : ab_Lr ad L ls nL) (hi : i + 1 < L.length)
    (h' : lv_has ls' nL ((i, ab_v ad v) :: (ab_as ad L).filter (fun q => !(q.1 == i) && (!(q.1 == i + 1) && !(q.1 + 1 == i && q.2.category == 2))))) : ab_Lr ad (ab_set2 L i v) ls' nL := by
  refine ⟨by unfold ab_set2; rw [List.length_set, List.length_set, ab_clr_len]; exact h.1, h'.1, h'.2.1, fun q hq => ?_⟩
  obtain ⟨j, w⟩ := q
  obtain ⟨u, hu, rfl⟩ := ab_as_mem.mp hq
  unfold ab_set2 at hu
  rw [List.getElem?_set] at hu
  split at hu
  · split at hu
    · cases hu
    · cases hu
  · rename_i e1
    rw [List.getElem?_set] at hu
    split at hu
    · rename_i e
      subst e
      split at hu
      · cases hu
        exact h'.2.2 _ List.mem_cons_self
      · cases hu
    · rename_i e
      obtain ⟨h1, h2⟩ := ab_clr_get hu
      refine h'.2.2 _ (List.mem_cons_of_mem _ (List.mem_filter.mpr ⟨ab_as_mem.mpr ⟨u, h1, rfl⟩, ?_⟩))
      have e2 : ¬ j = i := fun z => e z.symm
      have e3 : ¬ j = i + 1 := fun z => e1 z.symm
      simp only [Bool.and_eq_true, Bool.not_eq_true', beq_eq_false_iff_ne, ne_eq, Bool.and_eq_false_iff]
      refine ⟨e2, e3, ?_⟩
      by_cases z : j + 1 = i
      · exact Or.inr (by rw [ab_v_cat]; exact h2 z)
      · exact Or.inl z
theorem ab_en_get (ad : Nat → Nat) (vs : List Value) : ∀ (i j : Nat) (u : Value), (ab_en vs)[j]? = some (some u) → (i + j, ab_v ad u) ∈ lv_args i (vs.map (ab_v ad)) := by
  induction vs with
  | nil => intro i j u h; simp [ab_en] at h
  | cons v vs ih =>
    intro i j u h
    simp only [List.map_cons, lv_args, ab_v_cat]
    unfold ab_en at h
    by_cases hc : v.category = 2
    · rw [if_pos hc] at h
      rw [if_pos hc]
      match j, h with
      | 0, h => simp at h; subst h; exact List.mem_cons_self
      | 1, h => simp at h
      | j + 2, h =>
        have := ih (i + 2) j u (by simpa using h)
        rw [show i + (j + 2) = i + 2 + j by omega]
        exact List.mem_cons_of_mem _ this
    · rw [if_neg hc] at h
      rw [if_neg hc]
      match j, h with
      | 0, h => simp at h; subst h; exact List.mem_cons_self
      | j + 1, h =>
        have := ih (i + 1) j u (by simpa using h)
        rw [show i + (j + 1) = i + 1 + j by omega]
        exact List.mem_cons_of_mem _ this
theorem ab_en_len (ad : Nat → Nat) (vs : List Value) : (lg_sl (vs.map (ab_v ad))).length = (ab_en vs).length := by
  induction vs with
  | nil => rfl
  | cons v vs ih =>
    unfold ab_en
    unfold lg_sl at ih ⊢
    simp only [List.map_cons, List.flatMap_cons, List.length_append, ab_v_cat, ih]
    by_cases hc : v.category = 2
    · simp [hc]; omega
    · simp [hc]; omega
theorem ab_Lr.entry {ad : Nat → Nat} {vs : List Value} {ls : Array Slot} {n : Nat} (hn : (ab_en vs).length ≤ n) (h : lv_has ls n (lv_args 0 (vs.map (ab_v ad)))) : ab_Lr ad (ab_en vs ++ List.replicate (n - (ab_en vs).length) none) ls n := by
  refine ⟨by simp; omega, h.1, h.2.1, fun q hq => ?_⟩
  obtain ⟨j, w⟩ := q
  obtain ⟨u, hu, rfl⟩ := ab_as_mem.mp hq
  rw [List.getElem?_append] at hu
  split at hu
  · have := ab_en_get ad vs 0 j u hu
    rw [Nat.zero_add] at this
    exact h.2.2 _ this
  · rw [List.getElem?_replicate] at hu
    split at hu <;> cases hu
def ab_fs (ad : Nat → Nat) (f : Nat → Int32) : Nat → List (Option Nat) → List Value
  | _, [] => []
  | j, some r :: t => .ref (ad r) :: ab_fs ad f (j + 1) t
  | j, none :: t => .int (f j) :: ab_fs ad f (j + 1) t
theorem ab_fs_ref {ad : Nat → Nat} {f : Nat → Int32} {fl : List (Option Nat)} : ∀ {j k r : Nat}, fl[k]? = some (some r) → (ab_fs ad f j fl)[k]? = some (.ref (ad r)) := by
  induction fl with
  | nil => intro j k r h; simp at h
  | cons o t ih =>
    intro j k r h
    match k, h with
    | 0, h => simp at h; subst h; simp [ab_fs]
    | k + 1, h =>
      have := ih (j := j + 1) (k := k) (r := r) (by simpa using h)
      cases o <;> simpa [ab_fs] using this
theorem ab_fs_int {ad : Nat → Nat} {f : Nat → Int32} {fl : List (Option Nat)} : ∀ {j k : Nat}, fl[k]? = some none → (ab_fs ad f j fl)[k]? = some (.int (f (j + k))) := by
  induction fl with
  | nil => intro j k h; simp at h
  | cons o t ih =>
    intro j k h
    match k, h with
    | 0, h => simp at h; subst h; simp [ab_fs]
    | k + 1, h =>
      have := ih (j := j + 1) (k := k) (by simpa using h)
      rw [show j + (k + 1) = j + 1 + k by omega]
      cases o <;> simpa [ab_fs] using this
theorem ab_fs_off {ad : Nat → Nat} {f g : Nat → Int32} {fl : List (Option Nat)} : ∀ {j : Nat}, (∀ k, j ≤ k → f k = g k) → ab_fs ad f j fl = ab_fs ad g j fl := by
  induction fl with
  | nil => intro j h; rfl
  | cons o t ih =>
    intro j h
    have := ih (j := j + 1) (fun k hk => h k (by omega))
    cases o
    · simp [ab_fs, this, h j (Nat.le_refl j)]
    · simp [ab_fs, this]
theorem ab_fs_set {ad : Nat → Nat} {x : Int32} {fl : List (Option Nat)} : ∀ {f : Nat → Int32} {j k : Nat}, fl[k]? = some none → (ab_fs ad f j fl).set k (.int x) = ab_fs ad (upd f (j + k) x) j fl := by
  induction fl with
  | nil => intro f j k h; simp at h
  | cons o t ih =>
    intro f j k h
    match k, h with
    | 0, h =>
      simp at h
      subst h
      have e : ab_fs ad f (j + 1) t = ab_fs ad (upd f j x) (j + 1) t := ab_fs_off (fun k hk => by unfold upd; rw [if_neg (by omega)])
      simp [ab_fs, e, upd]
    | k + 1, h =>
      have := ih (f := f) (j := j + 1) (k := k) (by simpa using h)
      rw [show j + (k + 1) = j + 1 + k by omega]
      cases o
      · have e : upd f (j + 1 + k) x j = f j := by unfold upd; rw [if_neg (by omega)]
        simp [ab_fs, this, e]
      · simp [ab_fs, this]
theorem ab_fs_len {ad : Nat → Nat} {f : Nat → Int32} {fl : List (Option Nat)} : ∀ {j : Nat}, (ab_fs ad f j fl).length = fl.length := by
  induction fl with
  | nil => intro j; rfl
  | cons o t ih => intro j; cases o <;> simp [ab_fs, ih]
def ab_cell (sh : ab_Sh) (ad : Nat → Nat) (dA : Nat → ClassId) (S : ab_S) (k : Nat) : va_E := match sh k with
  | .inl (t, n) => .inl (dA t, n, if t = 2 then .inr (.inl (S.2 k)) else .inl (S.1 k))
  | .inr (ci, fl) => .inr (ci, ab_fs ad (S.1 k) 0 fl)
def ab_W (sh : ab_Sh) (N : Nat) (ad : Nat → Nat) (dA : Nat → ClassId) (S : ab_S) : va_W := (List.range N).map fun k => (ad k, ab_cell sh ad dA S k)
theorem ab_W_get {sh : ab_Sh} {N : Nat} {ad : Nat → Nat} {dA : Nat → ClassId} {S : ab_S} {k : Nat} (hk : k < N) : (ab_W sh N ad dA S)[k]? = some (ad k, ab_cell sh ad dA S k) := by
  simp [ab_W, hk]
theorem ab_W_some {sh : ab_Sh} {N : Nat} {ad : Nat → Nat} {dA : Nat → ClassId} {S : ab_S} {k : Nat} {q : Nat × va_E} (h : (ab_W sh N ad dA S)[k]? = some q) : k < N ∧ q = (ad k, ab_cell sh ad dA S k) := by
  have hk : k < N := by
    have := (List.getElem?_eq_some_iff.mp h).1
    simpa [ab_W] using this
  rw [ab_W_get hk] at h
  cases h
  exact ⟨hk, rfl⟩
theorem ab_W_set {sh : ab_Sh} {N : Nat} {ad : Nat → Nat} {dA : Nat → ClassId} {S S' : ab_S} {q : Nat} {E : va_E} (hq : q < N) (e : ab_cell sh ad dA S' q = E) (o : ∀ k, k ≠ q → ab_cell sh ad dA S' k = ab_cell sh ad dA S k) : (ab_W sh N ad dA S).set q (ad q, E) = ab_W sh N ad dA S' := by
  apply List.ext_getElem?
  intro k
  rw [List.getElem?_set]
  by_cases hk : k < N
  · split
    · rename_i h
      subst h
      split
      · rw [ab_W_get hk, e]
      · rename_i h2
        exact absurd (by simpa [ab_W] using hq) h2
    · rename_i h
      rw [ab_W_get hk, ab_W_get hk, o k (fun z => h z.symm)]
  · have h1 : (ab_W sh N ad dA S')[k]? = none := by simp [ab_W]; omega
    have h2 : (ab_W sh N ad dA S)[k]? = none := by simp [ab_W]; omega
    rw [h1]
    split
    · omega
    · exact h2
/-- the cells' own addresses -/
def ab_A (N : Nat) (ad : Nat → Nat) : Nat → Prop := fun q => ∃ k, k < N ∧ q = ad k
theorem ab_D {sh : ab_Sh} {N : Nat} {ad : Nat → Nat} {dA : Nat → ClassId} {S : ab_S} (hinj : ∀ i j, i < N → j < N → ad i = ad j → i = j) : va_D (ab_A N ad) (ab_W sh N ad dA S) := by
  refine ⟨fun i j p q hi hj e => ?_, fun k q hk => ?_⟩
  · obtain ⟨h1, rfl⟩ := ab_W_some hi
    obtain ⟨h2, rfl⟩ := ab_W_some hj
    exact hinj i j h1 h2 e
  · obtain ⟨h1, rfl⟩ := ab_W_some hk
    exact ⟨k, h1, rfl⟩
theorem ab_cell_pI {sh : ab_Sh} {ad : Nat → Nat} {dA : Nat → ClassId} {S : ab_S} {q k : Nat} {f : Nat → Int32} (h : k ≠ q) : ab_cell sh ad dA (ab_pI S q f) k = ab_cell sh ad dA S k := by
  simp [ab_cell, ab_pI, h]
theorem ab_cell_pL {sh : ab_Sh} {ad : Nat → Nat} {dA : Nat → ClassId} {S : ab_S} {q k : Nat} {f : Nat → Int64} (h : k ≠ q) : ab_cell sh ad dA (ab_pL S q f) k = ab_cell sh ad dA S k := by
  simp [ab_cell, ab_pL, h]
theorem ab_cell_arr {sh : ab_Sh} {ad : Nat → Nat} {dA : Nat → ClassId} {S : ab_S} {q t n : Nat} (h : sh q = .inl (t, n)) (ht : t ≠ 2) : ab_cell sh ad dA S q = .inl (dA t, n, .inl (S.1 q)) := by
  simp [ab_cell, h, ht]
theorem ab_cell_arrL {sh : ab_Sh} {ad : Nat → Nat} {dA : Nat → ClassId} {S : ab_S} {q n : Nat} (h : sh q = .inl (2, n)) : ab_cell sh ad dA S q = .inl (dA 2, n, .inr (.inl (S.2 q))) := by
  simp [ab_cell, h]
theorem ab_cell_obj {sh : ab_Sh} {ad : Nat → Nat} {dA : Nat → ClassId} {S : ab_S} {q ci : Nat} {fl : List (Option Nat)} (h : sh q = .inr (ci, fl)) : ab_cell sh ad dA S q = .inr (ci, ab_fs ad (S.1 q) 0 fl) := by
  simp [ab_cell, h]
theorem ab_pI_at (S : ab_S) (q : Nat) (f : Nat → Int32) : (ab_pI S q f).1 q = f := by simp [ab_pI]
theorem ab_pL_at (S : ab_S) (q : Nat) (f : Nat → Int64) : (ab_pL S q f).2 q = f := by simp [ab_pL]
end
section
/-! ===== one instruction of the small machine is one of the great one ===== -/
/-- what the tables must say for an instruction -/
def ab_lk (U : List Cond) (cl : List vw_C) (pr : List ab_M) (own : String) (pc : Nat) (i : Instr) (a b : Nat) : Prop := match i with
  | .getfield idx => ∃ C T N', cl[a]? = some (C, T, N') ∧ b < N' ∧ Cond.fieldLink own idx (T b).1 (T b).2.1 (T b).2.2.1 ∈ U
  | .putfield idx => ∃ C T N', cl[a]? = some (C, T, N') ∧ (if b < 1000 then b else b - 1000) < N' ∧ Cond.fieldLink own idx (T (if b < 1000 then b else b - 1000)).1 (T (if b < 1000 then b else b - 1000)).2.1 (T (if b < 1000 then b else b - 1000)).2.2.1 ∈ U ∧ (T (if b < 1000 then b else b - 1000)).2.2.2 = false ∧ parseFieldDescriptor (T (if b < 1000 then b else b - 1000)).2.2.1 = some (if b < 1000 then .int else .boolean)
  | .ldc idx => Cond.constant own idx (ab_num a b) ∈ U
  | .ldc_w idx => Cond.constant own idx (ab_num a b) ∈ U
  | .ldc2_w idx => Cond.constantLong own idx (ab_lnum a b) ∈ U
  | .goto off => (pc : Int) + off = (a : Int)
  | .if_icmp _ off => (pc : Int) + off = (a : Int)
  | .ifCond _ off => (pc : Int) + off = (a : Int)
  | .tableswitch d _ _ _ => 0 ≤ d
  | .lookupswitch _ ps => (ps.toList.zip (ps.toList.drop 1)).all (fun (a, next) => a.1 < next.1) = true
  | .arraylength => a ≤ 2
  | .invokevirtual idx => ∃ M, pr[a]? = some M ∧ Cond.methodLink own idx M.1 ∈ U ∧ Cond.instanceMethod M.1 ∈ U ∧ Cond.selects M.1.cls M.1 M.1 ∈ U ∧ (∃ T N', cl[M.2.1]? = some (M.1.cls, T, N')) ∧ (parseMethodDescriptor M.1.desc).map (fun d => d.parameters.length) = some b
  | .invokestatic idx => if a = 1000 then Cond.methodLink own idx Lib.Math.max.name ∈ U ∧ Cond.static Lib.Math.max.name ∈ U ∧ Cond.initialized "java/lang/Math" ∈ U ∧ Cond.code Lib.Math.max.name Lib.Math.max.code 2 (some .int) ∈ U
    else if a = 1001 then Cond.methodLink own idx Lib.Math.min.name ∈ U ∧ Cond.static Lib.Math.min.name ∈ U ∧ Cond.initialized "java/lang/Math" ∈ U ∧ Cond.code Lib.Math.min.name Lib.Math.min.code 2 (some .int) ∈ U
    else if a = 1002 then Cond.methodLink own idx arraycopyName ∈ U ∧ Cond.native arraycopyName ∈ U ∧ Cond.static arraycopyName ∈ U ∧ Cond.initialized "java/lang/System" ∈ U
    else ∃ M, pr[a]? = some M ∧ Cond.methodLink own idx M.1 ∈ U ∧ Cond.static M.1 ∈ U ∧ (parseMethodDescriptor M.1.desc).map (fun d => d.parameters.length) = some b
  | _ => True
/-- what the tables must say for a method as it is called -/
def ab_mk (U : List Cond) (M : ab_M) : Prop := Cond.code M.1 M.2.2.1 M.2.2.2.1 M.2.2.2.2.1 ∈ U ∧ Cond.initialized M.1.cls ∈ U ∧ M.1.cls ≠ "java/lang/invoke/MethodHandle" ∧ M.1.cls ≠ "java/lang/invoke/VarHandle" ∧ plainName M.1.cls = true ∧ M.2.2.2.1 ≤ 21
/-- what the tables must say for a kind of objects -/
def ab_ck (U : List Cond) (cl : List vw_C) : Prop := ∀ (ci : Nat) (C : String) (T : u_T) (N' : Nat), cl[ci]? = some (C, T, N') → (∀ w ∈ u_ws C T N', w ∈ U) ∧ (∃ ty0 : Nat → FieldType, ∀ k, k < N' → parseFieldDescriptor (T k).2.2.1 = some (ty0 k)) ∧ ∀ a, a < N' → ∀ b, b < N' → a ≠ b → (T a).2.1 ≠ (T b).2.1
def ab_rm (d : Nat) : Room := { frames := d, cells := 0, slots := 0, locals := 100 * d }
def ab_tys (dA : Nat → ClassId) : List (ClassId × FieldType) := [(dA 0, .int), (dA 1, .boolean), (dA 2, .long)]
def ab_Pc (D : va_G) (cl : List vw_C) (sh : ab_Sh) (N : Nat) (ad : Nat → Nat) (dA : Nat → ClassId) (as : List Value) (S : ab_S) : Array Value → State → Prop := va_Pc (as.map (ab_v ad)) fun u => va_P D cl (ab_W sh N ad dA S) u.heap ∧ va_K D cl (ab_tys dA) u
def ab_Qc (D : va_G) (cl : List vw_C) (sh : ab_Sh) (N : Nat) (ad : Nat → Nat) (dA : Nat → ClassId) (Q : ab_Q) : Array Value → State → Outcome → State → Prop := fun _ st oc t => (∃ (r : Option Value) (u : ab_S), oc = .returned r ∧ (r = none ∨ ∃ z : Int32, r = some (.int z)) ∧ Q r u ∧ va_P D cl (ab_W sh N ad dA u) t.heap) ∧ va_F (ab_A N ad) st t
def ab_met (l : Launch) (D : va_G) (cl : List vw_C) (sh : ab_Sh) (N : Nat) (ad : Nat → Nat) (dA : Nat → ClassId) (U : List Cond) (d : Nat) (M : ab_M) (as : List Value) (S : ab_S) (Q : ab_Q) : Prop := Met l M.1 (Cond.code M.1 M.2.2.1 M.2.2.2.1 M.2.2.2.2.1 :: U) (ab_rm d) (ab_Pc D cl sh N ad dA as S) (ab_Qc D cl sh N ad dA Q) 0 0 (ab_A N ad)
section AB
variable {p : Program} {l : Launch} {e : Env} {R : Room} {s : State} {m : MethodId} {args : Array Value} {below : List Frame} {meth : Method} {c : Code} {Z : State → Prop}
variable {D : va_G} {cl : List vw_C} {sh : ab_Sh} {N : Nat} {ad : Nat → Nat} {dA : Nat → ClassId} {nL : Nat}
/-- a call has come back -/
theorem ab_back {A : Nat → Prop} {cells slots : Nat} (hA : ∀ q, ab_A N ad q → A q) {Q : ab_Q} {H : Heap} {locs : List Loc} {pc : Nat} {ls : Array Slot} {st0 rest : List Value} {a : Array Value}
    (hr : va_Run p l e R s m args below meth c H locs cells slots 0 0 (F0 m pc ls st0) rest (ab_Qc D cl sh N ad dA Q a) (ab_A N ad)) (hS : va_S A s.heap H locs)
    (kk : ∀ (r : Option Value) (u : ab_S) (H1 : Heap) (locs1 : List Loc), (r = none ∨ ∃ z : Int32, r = some (.int z)) → Q r u → va_P D cl (ab_W sh N ad dA u) H1 → va_S A s.heap H1 locs1 → W p l e R s m args below meth c H1 locs1 cells slots Z (F0 m (pc + 3) ls (r.toList ++ rest))) :
    W p l e R s m args below meth c H locs cells slots Z (F0 m pc ls st0) := by
  intro T hT X
  obtain ⟨v, st₀, t, T', L, h0, X', hL, e1, e2, ⟨⟨r, u, hv, hz0, hp, hb⟩, hz, hk⟩, st⟩ := hr T hT X
  cases hv
  rw [h0] at hz hk
  obtain ⟨t2, a1, b1⟩ := kk _ u T'.heap (locs ++ L) hz0 hp (by rw [e1]; exact hb)
    ⟨Nat.le_trans hS.1 (by rw [e1]; exact hz), fun q h1 h2 => by rw [e1, hk q (Nat.lt_of_lt_of_le h1 hS.1) (fun z => h2 (hA q z))]; exact hS.2.1 q h1 h2, fun q hq => by
      rcases List.mem_append.mp hq with h | h
      · exact hS.2.2 q h
      · exact hA _ (hL q h)⟩ T' rfl X'
  exact ⟨t2, st t2 a1, b1⟩
/-- the great machine goes on well from here -/
def ab_G (p : Program) (l : Launch) (e : Env) (R : Room) (s : State) (m : MethodId) (args : Array Value) (below : List Frame) (meth : Method) (c : Code) (Z : State → Prop) (D : va_G) (cl : List vw_C) (sh : ab_Sh) (N : Nat) (ad : Nat → Nat) (dA : Nat → ClassId) (A : Nat → Prop) (cells slots : Nat) (nL : Nat) (pc : Nat) (L : ab_L) (st : List Value) (S : ab_S) : Prop :=
  ∀ (H : Heap) (locs : List Loc) (ls : Array Slot), va_P D cl (ab_W sh N ad dA S) H → va_S A s.heap H locs → ab_Lr ad L ls nL → W p l e R s m args below meth c H locs cells slots Z (F0 m pc ls (st.map (ab_v ad)))
theorem ab_sum4 : ∀ (st : List Value), st.length ≤ 4 → (st.map fun v => v.category).sum ≤ 8 := by
  have h : ∀ v : Value, v.category ≤ 2 := fun v => by rcases lv_cat v with h | h <;> omega
  intro st hst
  match st, hst with
  | [], _ => decide
  | [a], _ => have := h a; simp; omega
  | [a, b], _ => have := h a; have := h b; simp; omega
  | [a, b, c], _ => have := h a; have := h b; have := h c; simp; omega
  | [a, b, c, d], _ => have := h a; have := h b; have := h c; have := h d; simp; omega
theorem ab_bool {x : Int32} (h : x = 0 ∨ x = 1) : narrow .boolean (.int x) = .int x ∧ fits .boolean (.int x) = true ∧ vp_nar .boolean x = x := by
  rcases h with rfl | rfl <;> decide +kernel
theorem ab_blind {as : List Value} {S : ab_S} : FrameBlind (ab_Pc D cl sh N ad dA as S) := fun a U g mk q => by
  obtain ⟨q0, q1, q2⟩ := q
  exact ⟨q0, q1, va_K.moved (u := U) (U := U.calling g mk a) (Vm.Alike.refl U.vm) q2⟩
theorem ab_ri (ad : Nat → Nat) {r : Option Value} (h : r = none ∨ ∃ z : Int32, r = some (.int z)) (rest : List Value) : (r.toList ++ rest).map (ab_v ad) = r.toList ++ rest.map (ab_v ad) := by
  rcases h with rfl | ⟨z, rfl⟩ <;> rfl
end AB
end
section
/-- how long an instruction is -/
def ab_ln (i : Instr) (len : Nat) : Prop := match i with
  | .iload _ => len = 2
  | .lload _ => len = 2
  | .aload _ => len = 2
  | .istore _ => len = 2
  | .lstore _ => len = 2
  | .iinc _ _ => len = 3
  | .bipush _ => len = 2
  | .sipush _ => len = 3
  | .ldc _ => len = 2
  | .ldc_w _ => len = 3
  | .ldc2_w _ => len = 3
  | .getfield _ => len = 3
  | .putfield _ => len = 3
  | .goto _ => len = 3
  | .if_icmp _ _ => len = 3
  | .ifCond _ _ => len = 3
  | .invokevirtual _ => len = 3
  | .invokestatic _ => len = 3
  | .tableswitch _ _ _ _ => True
  | .lookupswitch _ _ => True
  | .new _ => True
  | .invokespecial _ => True
  | _ => len = 1
theorem ab_if {c A : Prop} [Decidable c] (h : if c then A else False) : c ∧ A := by
  split at h
  · exact ⟨by assumption, h⟩
  · exact h.elim
section AB2
variable {p : Program} {l : Launch} {e : Env} {R : Room} {s : State} {m : MethodId} {args : Array Value} {below : List Frame} {meth : Method} {c : Code}
variable {D : va_G} {cl : List vw_C} {sh : ab_Sh} {N : Nat} {ad : Nat → Nat} {dA : Nat → ClassId} {nL : Nat}
set_option maxHeartbeats 8000000 in
set_option maxRecDepth 20000 in
theorem ab_step {Z : State → Prop} {A : Nat → Prop} {cells slots : Nat} {sc : ab_X} {U : List Cond} {pr : List ab_M} {own : String} {cc : ByteArray} {d : Nat} {Q : ab_Q} {J : Nat → ab_L → List Value → ab_S → Prop} {K : ab_L → List Value → ab_S → Prop} {ret : Option FieldType} {pc len a b : Nat} {i : Instr} {L : ab_L} {st : List Value} {S : ab_S}
    (hx : p.tables.exec = Jvm.exec) (hb : c.code = cc) (hml : c.maxLocals = nL) (hown : s.vm.findClass own = some m.cls) 
    (hts : ∀ w ∈ U, w.before args s = true) (hU : ∀ w ∈ U, (w.onTables && w.keeps) = true ∨ ∃ ty, w = Cond.arrayClass ty)
    (hK : va_K D cl (ab_tys dA) s) (hck : ab_ck U cl) (hpr : ∀ (k : Nat) (M : ab_M), pr[k]? = some M → ab_mk U M)
    (hinj : ∀ i j, i < N → j < N → ad i = ad j → i = j) (hA : ∀ q, ab_A N ad q → A q) (hR : d + 1 ≤ R.frames ∧ 100 * (d + 1) ≤ R.locals ∧ cells ≤ R.cells ∧ slots ≤ R.slots)
    (hsc : ∀ n xs, sc = some (n, xs) → va_X (ad ab_scr) n xs s s.heap ∧ ad ab_scr < s.heap.size ∧ ¬ A (ad ab_scr))
    (hT : ∀ (k : Nat) (M : ab_M) (as : List Value) (S : ab_S) (Q : ab_Q), pr[k]? = some M → ab_T sh N pr d k as S Q → ab_met l D cl sh N ad dA U d M as S Q)
    (hd : decode cc pc = .ok (i, len)) (hln : ab_ln i len) (hlk : ab_lk U cl pr own pc i a b)
    (kK : ∀ L st S, K L st S → ab_G p l e R s m args below meth c Z D cl sh N ad dA A cells slots nL (pc + len) L st S)
    (kJ : ∀ t L st S, J t L st S → ab_G p l e R s m args below meth c Z D cl sh N ad dA A cells slots nL t L st S)
    (kR : ∀ (x : Int32) (S : ab_S) (H : Heap) (locs : List Loc) (ls : Array Slot), i = .ireturn → (ret = some .int ∨ (ret = some .boolean ∧ (x = 0 ∨ x = 1))) → Q (some (.int x)) S → va_P D cl (ab_W sh N ad dA S) H → va_S A s.heap H locs → W p l e R s m args below meth c H locs cells slots Z (F0 m pc ls [.int x]))
    (kV : ∀ (S : ab_S) (H : Heap) (locs : List Loc) (ls : Array Slot), i = .return_ → ret = none → Q none S → va_P D cl (ab_W sh N ad dA S) H → va_S A s.heap H locs → W p l e R s m args below meth c H locs cells slots Z (F0 m pc ls []))
    (h : ab_1 sc sh N (ab_oc pr) (ab_T sh N pr d) J Q ret pc i a b L st S K) :
    ab_G p l e R s m args below meth c Z D cl sh N ad dA A cells slots nL pc L st S := by
  intro H locs ls hP hS hL
  have hD : ∀ S : ab_S, va_D A (ab_W sh N ad dA S) := fun S => (ab_D hinj).weaken (fun _ _ _ z => hA _ z)
  cases i with
  | iload n =>
    obtain ⟨x, h1, h2⟩ := ld_i_of h
    obtain rfl : len = 2 := hln
    exact lv_iload hx hb hd (hL.at h1) (kK _ _ _ h2 H locs ls hP hS hL)
  | iload_n n =>
    obtain ⟨x, h1, h2⟩ := ld_i_of h
    obtain rfl : len = 1 := hln
    exact lv_iload_n hx hb hd rfl (hL.at h1) (kK _ _ _ h2 H locs ls hP hS hL)
  | lload n =>
    obtain ⟨x, h1, h2⟩ := ld_l_of h
    obtain rfl : len = 2 := hln
    exact lv_lload hx hb hd (hL.at h1) (kK _ _ _ h2 H locs ls hP hS hL)
  | lload_n n =>
    obtain ⟨x, h1, h2⟩ := ld_l_of h
    obtain rfl : len = 1 := hln
    exact lv_lload_n hx hb hd rfl (hL.at h1) (kK _ _ _ h2 H locs ls hP hS hL)
  | aload n =>
    obtain ⟨x, h1, h2⟩ := ld_r_of h
    obtain rfl : len = 2 := hln
    exact lv_aload hx hb hd (hL.at h1) (kK _ _ _ h2 H locs ls hP hS hL)
  | aload_n n =>
    obtain ⟨x, h1, h2⟩ := ld_r_of h
    obtain rfl : len = 1 := hln
    exact lv_aload_n hx hb hd rfl (hL.at h1) (kK _ _ _ h2 H locs ls hP hS hL)
  | istore n =>
    obtain ⟨x, r, rfl, h2⟩ := pop_i_of h
    obtain ⟨hn, h2⟩ := ab_if h2
    obtain rfl : len = 2 := hln
    exact lv_istore hx hb hd hL.2 (by rw [← hL.1]; exact hn) rfl (fun ls' h' => kK _ _ _ h2 H locs ls' hP hS (hL.set1 (v := .int x) hn h'))
  | istore_n n =>
    obtain ⟨x, r, rfl, h2⟩ := pop_i_of h
    obtain ⟨hn, h2⟩ := ab_if h2
    obtain rfl : len = 1 := hln
    exact lv_istore_n hx hb hd rfl hL.2 (by rw [← hL.1]; exact hn) rfl (fun ls' h' => kK _ _ _ h2 H locs ls' hP hS (hL.set1 (v := .int x) hn h'))
  | lstore n =>
    obtain ⟨x, r, rfl, h2⟩ := pop_l_of h
    obtain ⟨hn, h2⟩ := ab_if h2
    obtain rfl : len = 2 := hln
    exact lv_lstore hx hb hd hL.2 (by rw [← hL.1]; exact hn) rfl (fun ls' h' => kK _ _ _ h2 H locs ls' hP hS (hL.set2 (v := .long x) hn h'))
  | lstore_n n =>
    obtain ⟨x, r, rfl, h2⟩ := pop_l_of h
    obtain ⟨hn, h2⟩ := ab_if h2
    obtain rfl : len = 1 := hln
    exact lv_lstore_n hx hb hd rfl hL.2 (by rw [← hL.1]; exact hn) rfl (fun ls' h' => kK _ _ _ h2 H locs ls' hP hS (hL.set2 (v := .long x) hn h'))
  | iinc n w =>
    obtain ⟨x, h1, h2⟩ := ld_i_of h
    obtain ⟨hn, h2⟩ := ab_if h2
    obtain rfl : len = 3 := hln
    obtain ⟨k, hk⟩ := List.getElem?_of_mem (ab_as_mem (ad := ad).mpr ⟨_, h1, rfl⟩)
    exact lv_iinc hx hb hd hL.2 hk rfl (by rw [← hL.1]; exact hn) rfl (fun ls' h' => kK _ _ _ h2 H locs ls' hP hS (hL.set1 (v := .int (x + Int32.ofInt w)) hn h'))
  | iconst n =>
    obtain rfl : len = 1 := hln
    exact lv_iconst hx hb hd rfl (kK _ _ _ h H locs ls hP hS hL)
  | bipush n =>
    obtain rfl : len = 2 := hln
    exact lv_bipush hx hb hd rfl (kK _ _ _ h H locs ls hP hS hL)
  | sipush n =>
    obtain rfl : len = 3 := hln
    exact lv_sipush hx hb hd rfl (kK _ _ _ h H locs ls hP hS hL)
  | lconst n =>
    obtain rfl : len = 1 := hln
    exact lv_lconst hx hb hd rfl (kK _ _ _ h H locs ls hP hS hL)
  | ldc n =>
    obtain rfl : len = 2 := hln
    exact lv_ldc hx hb hown (hts _ hlk) hd (kK _ _ _ h H locs ls hP hS hL)
  | ldc_w n =>
    obtain rfl : len = 3 := hln
    exact lv_ldcw hx hb hown (hts _ hlk) hd (kK _ _ _ h H locs ls hP hS hL)
  | ldc2_w n =>
    obtain rfl : len = 3 := hln
    exact lv_ldc2 hx hb hown (hts _ hlk) hd (kK _ _ _ h H locs ls hP hS hL)
  | dup =>
    obtain rfl : len = 1 := hln
    match st, h with
    | v :: r, h =>
      obtain ⟨h1, h2⟩ := ab_if h
      exact lv_dup hx hb hd ((ab_v_cat ad v).trans h1) (kK _ _ _ h2 H locs ls hP hS hL)
    | [], h => exact h.elim
  | dup2 =>
    obtain rfl : len = 1 := hln
    match st, h with
    | v :: w :: r, h =>
      obtain ⟨h1, h2⟩ := ab_if h
      obtain ⟨h3, h4⟩ := ab_if h2
      exact lv_dup2_11 hx hb hd ((ab_v_cat ad v).trans h1) ((ab_v_cat ad w).trans h3) (kK _ _ _ h4 H locs ls hP hS hL)
    | [_], h => exact h.elim
    | [], h => exact h.elim
  | iadd =>
    obtain rfl : len = 1 := hln
    obtain ⟨y, r, rfl, h2⟩ := pop_i_of h
    obtain ⟨x, r, rfl, h2⟩ := pop_i_of h2
    exact lv_iadd hx hb hd (kK _ _ _ h2 H locs ls hP hS hL)
  | isub =>
    obtain rfl : len = 1 := hln
    obtain ⟨y, r, rfl, h2⟩ := pop_i_of h
    obtain ⟨x, r, rfl, h2⟩ := pop_i_of h2
    exact lv_isub hx hb hd (kK _ _ _ h2 H locs ls hP hS hL)
  | imul =>
    obtain rfl : len = 1 := hln
    obtain ⟨y, r, rfl, h2⟩ := pop_i_of h
    obtain ⟨x, r, rfl, h2⟩ := pop_i_of h2
    exact lv_imul hx hb hd (kK _ _ _ h2 H locs ls hP hS hL)
  | idiv =>
    obtain rfl : len = 1 := hln
    obtain ⟨y, r, rfl, h2⟩ := pop_i_of h
    obtain ⟨x, r, rfl, h2⟩ := pop_i_of h2
    exact lv_idiv hx hb hd h2.1 (kK _ _ _ h2.2 H locs ls hP hS hL)
  | irem =>
    obtain rfl : len = 1 := hln
    obtain ⟨y, r, rfl, h2⟩ := pop_i_of h
    obtain ⟨x, r, rfl, h2⟩ := pop_i_of h2
    exact lv_irem hx hb hd h2.1 (kK _ _ _ h2.2 H locs ls hP hS hL)
  | iand =>
    obtain rfl : len = 1 := hln
    obtain ⟨y, r, rfl, h2⟩ := pop_i_of h
    obtain ⟨x, r, rfl, h2⟩ := pop_i_of h2
    exact lv_iand hx hb hd (kK _ _ _ h2 H locs ls hP hS hL)
  | ior =>
    obtain rfl : len = 1 := hln
    obtain ⟨y, r, rfl, h2⟩ := pop_i_of h
    obtain ⟨x, r, rfl, h2⟩ := pop_i_of h2
    exact lv_ior hx hb hd (kK _ _ _ h2 H locs ls hP hS hL)
  | ishr =>
    obtain rfl : len = 1 := hln
    obtain ⟨y, r, rfl, h2⟩ := pop_i_of h
    obtain ⟨x, r, rfl, h2⟩ := pop_i_of h2
    exact lv_ishr hx hb hd (kK _ _ _ h2 H locs ls hP hS hL)
  | iushr =>
    obtain rfl : len = 1 := hln
    obtain ⟨y, r, rfl, h2⟩ := pop_i_of h
    obtain ⟨x, r, rfl, h2⟩ := pop_i_of h2
    exact lv_iushr hx hb hd rfl (kK _ _ _ h2 H locs ls hP hS hL)
  | i2l =>
    obtain rfl : len = 1 := hln
    obtain ⟨x, r, rfl, h2⟩ := pop_i_of h
    exact lv_i2l hx hb hd rfl (kK _ _ _ h2 H locs ls hP hS hL)
  | ladd =>
    obtain rfl : len = 1 := hln
    obtain ⟨y, r, rfl, h2⟩ := pop_l_of h
    obtain ⟨x, r, rfl, h2⟩ := pop_l_of h2
    exact lv_ladd hx hb hd (kK _ _ _ h2 H locs ls hP hS hL)
  | lmul =>
    obtain rfl : len = 1 := hln
    obtain ⟨y, r, rfl, h2⟩ := pop_l_of h
    obtain ⟨x, r, rfl, h2⟩ := pop_l_of h2
    exact lv_lmul hx hb hd (kK _ _ _ h2 H locs ls hP hS hL)
  | land =>
    obtain rfl : len = 1 := hln
    obtain ⟨y, r, rfl, h2⟩ := pop_l_of h
    obtain ⟨x, r, rfl, h2⟩ := pop_l_of h2
    exact lv_land hx hb hd (kK _ _ _ h2 H locs ls hP hS hL)
  | lor =>
    obtain rfl : len = 1 := hln
    obtain ⟨y, r, rfl, h2⟩ := pop_l_of h
    obtain ⟨x, r, rfl, h2⟩ := pop_l_of h2
    exact lv_lor hx hb hd (kK _ _ _ h2 H locs ls hP hS hL)
  | lxor =>
    obtain rfl : len = 1 := hln
    obtain ⟨y, r, rfl, h2⟩ := pop_l_of h
    obtain ⟨x, r, rfl, h2⟩ := pop_l_of h2
    exact lv_lxor hx hb hd (kK _ _ _ h2 H locs ls hP hS hL)
  | lshl =>
    obtain rfl : len = 1 := hln
    obtain ⟨y, r, rfl, h2⟩ := pop_i_of h
    obtain ⟨x, r, rfl, h2⟩ := pop_l_of h2
    exact lv_lshl hx hb hd rfl (kK _ _ _ h2 H locs ls hP hS hL)
  | lshr =>
    obtain rfl : len = 1 := hln
    obtain ⟨y, r, rfl, h2⟩ := pop_i_of h
    obtain ⟨x, r, rfl, h2⟩ := pop_l_of h2
    exact lv_lshr hx hb hd rfl (kK _ _ _ h2 H locs ls hP hS hL)
  | lushr =>
    obtain rfl : len = 1 := hln
    obtain ⟨y, r, rfl, h2⟩ := pop_i_of h
    obtain ⟨x, r, rfl, h2⟩ := pop_l_of h2
    exact lv_lushr hx hb hd rfl (kK _ _ _ h2 H locs ls hP hS hL)
  | lcmp =>
    obtain rfl : len = 1 := hln
    obtain ⟨y, r, rfl, h2⟩ := pop_l_of h
    obtain ⟨x, r, rfl, h2⟩ := pop_l_of h2
    exact W.lcmp hx hb hd (kK _ _ _ h2 H locs ls hP hS hL)
  | getfield idx =>
    obtain rfl : len = 3 := hln
    obtain ⟨q, r, rfl, h2⟩ := pop_r_of h
    obtain ⟨hq, fl, hsh, h3⟩ := ab_obj_of h2
    obtain ⟨C, T, N', hc, hk, hlink⟩ := hlk
    obtain ⟨w1, -, -⟩ := hck a C T N' hc
    have hcell : (ab_W sh N ad dA S)[q]? = some (ad q, .inr (a, ab_fs ad (S.1 q) 0 fl)) := by rw [ab_W_get hq, ab_cell_obj hsh]
    split at h3
    · rename_i r' e
      exact va_get hx hb hts w1 hown hK hP q hcell hc b hk (hts _ hlink) (fun _ h9 => h9) (ab_fs_ref e) hd (kK _ _ _ h3 H locs ls hP hS hL)
    · rename_i e
      have e2 := ab_fs_int (ad := ad) (f := S.1 q) (j := 0) e
      rw [Nat.zero_add] at e2
      exact va_get hx hb hts w1 hown hK hP q hcell hc b hk (hts _ hlink) (fun _ h9 => h9) e2 hd (kK _ _ _ h3 H locs ls hP hS hL)
    · exact h3.elim
  | putfield idx =>
    obtain rfl : len = 3 := hln
    obtain ⟨x, r, rfl, h2⟩ := pop_i_of h
    obtain ⟨q, r, rfl, h2⟩ := pop_r_of h2
    obtain ⟨hq, fl, hsh, h3⟩ := ab_obj_of h2
    obtain ⟨C, T, N', hc, hk, hlink, hfin, hpd⟩ := hlk
    obtain ⟨w1, ⟨ty0, w2⟩, w3⟩ := hck a C T N' hc
    have hcell : (ab_W sh N ad dA S)[q]? = some (ad q, .inr (a, ab_fs ad (S.1 q) 0 fl)) := by rw [ab_W_get hq, ab_cell_obj hsh]
    by_cases hb1 : b < 1000
    · rw [if_pos hb1] at h3 hk hlink hfin hpd
      rw [if_pos hb1] at hpd
      split at h3
      · rename_i e
        refine va_put (v := .int x) hx hb hts w1 ty0 w2 w3 hown hK hP (hD S) hS q hcell hc b hk (hts _ hlink) (fun _ h9 => h9) hfin hpd rfl rfl (by rw [ab_fs_len]; exact (List.getElem?_eq_some_iff.mp e).1) hd (fun H1 locs1 hP1 hD1 hS1 => ?_)
        rw [ab_fs_set e, Nat.zero_add, ab_W_set (S' := ab_pI S q (upd (S.1 q) b x)) hq (by rw [ab_cell_obj hsh, ab_pI_at]) (fun k hk => ab_cell_pI hk)] at hP1
        exact kK _ _ _ h3 H1 locs1 ls hP1 hS1 hL
      · exact h3.elim
    · rw [if_neg hb1] at h3 hk hlink hfin hpd
      rw [if_neg hb1] at hpd
      split at h3
      · rename_i e
        obtain ⟨hx1, h3⟩ := h3
        refine va_put (v := .int x) hx hb hts w1 ty0 w2 w3 hown hK hP (hD S) hS q hcell hc (b - 1000) hk (hts _ hlink) (fun _ h9 => h9) hfin hpd (ab_bool hx1).1 (ab_bool hx1).2.1 (by rw [ab_fs_len]; exact (List.getElem?_eq_some_iff.mp e).1) hd (fun H1 locs1 hP1 hD1 hS1 => ?_)
        rw [ab_fs_set e, Nat.zero_add, ab_W_set (S' := ab_pI S q (upd (S.1 q) (b - 1000) x)) hq (by rw [ab_cell_obj hsh, ab_pI_at]) (fun k hk => ab_cell_pI hk)] at hP1
        exact kK _ _ _ h3 H1 locs1 ls hP1 hS1 hL
      · exact h3.elim
  | iaload =>
    obtain rfl : len = 1 := hln
    obtain ⟨j, r, rfl, h2⟩ := pop_i_of h
    obtain ⟨q, r, rfl, h5⟩ := pop_r_of h2
    by_cases hsq : q = ab_scr
    · rw [if_pos hsq] at h5
      subst hsq
      obtain ⟨n, xs, e1, h6⟩ := ab_sx_of h5
      obtain ⟨hX, hbl, hbA⟩ := hsc n xs e1
      exact va_sld hx hb hX hbl hbA hS h6.1 hd (kK _ _ _ h6.2 H locs ls hP hS hL)
    rw [if_neg hsq] at h5
    obtain ⟨hq, n, hsh, h3, h4⟩ := ab_arr_of h5
    have hcell : (ab_W sh N ad dA S)[q]? = some (ad q, .inl (dA 0, n, .inl (S.1 q))) := by rw [ab_W_get hq, ab_cell_arr hsh (by decide)]
    exact va_iald hx hb hK hP q 0 hcell rfl h3 hd (kK _ _ _ h4 H locs ls hP hS hL)
  | baload =>
    obtain rfl : len = 1 := hln
    obtain ⟨j, r, rfl, h2⟩ := pop_i_of h
    obtain ⟨q, r, rfl, h2⟩ := pop_r_of h2
    obtain ⟨hq, n, hsh, h3, h4⟩ := ab_arr_of h2
    have hcell : (ab_W sh N ad dA S)[q]? = some (ad q, .inl (dA 1, n, .inl (S.1 q))) := by rw [ab_W_get hq, ab_cell_arr hsh (by decide)]
    exact va_zald hx hb hK hP q 1 hcell rfl h3 hd (kK _ _ _ h4 H locs ls hP hS hL)
  | laload =>
    obtain rfl : len = 1 := hln
    obtain ⟨j, r, rfl, h2⟩ := pop_i_of h
    obtain ⟨q, r, rfl, h2⟩ := pop_r_of h2
    obtain ⟨hq, n, hsh, h3, h4⟩ := ab_arr_of h2
    have hcell : (ab_W sh N ad dA S)[q]? = some (ad q, .inl (dA 2, n, .inr (.inl (S.2 q)))) := by rw [ab_W_get hq, ab_cell_arrL hsh]
    exact va_lald hx hb hK hP q 2 hcell rfl h3 hd (kK _ _ _ h4 H locs ls hP hS hL)
  | iastore =>
    obtain rfl : len = 1 := hln
    obtain ⟨x, r, rfl, h2⟩ := pop_i_of h
    obtain ⟨j, r, rfl, h2⟩ := pop_i_of h2
    obtain ⟨q, r, rfl, h2⟩ := pop_r_of h2
    obtain ⟨hq, n, hsh, h3, h4⟩ := ab_arr_of h2
    have hcell : (ab_W sh N ad dA S)[q]? = some (ad q, .inl (dA 0, n, .inl (S.1 q))) := by rw [ab_W_get hq, ab_cell_arr hsh (by decide)]
    refine va_iast hx hb hK hP (hD S) hS q 0 hcell rfl h3 hd (fun H1 locs1 hP1 hD1 hS1 => ?_)
    rw [ab_W_set (S' := ab_pI S q (upd (S.1 q) j.toNatClampNeg x)) hq (by rw [ab_cell_arr hsh (by decide), ab_pI_at]) (fun k hk => ab_cell_pI hk)] at hP1
    exact kK _ _ _ h4 H1 locs1 ls hP1 hS1 hL
  | bastore =>
    obtain rfl : len = 1 := hln
    obtain ⟨x, r, rfl, h2⟩ := pop_i_of h
    obtain ⟨j, r, rfl, h2⟩ := pop_i_of h2
    obtain ⟨q, r, rfl, h2⟩ := pop_r_of h2
    obtain ⟨hq, n, hsh, h3, h5, h4⟩ := ab_arr_of h2
    have hcell : (ab_W sh N ad dA S)[q]? = some (ad q, .inl (dA 1, n, .inl (S.1 q))) := by rw [ab_W_get hq, ab_cell_arr hsh (by decide)]
    refine va_zast hx hb hK hP (hD S) hS q 1 hcell rfl h3 hd (fun H1 locs1 hP1 hD1 hS1 => ?_)
    rw [(ab_bool h5).2.2, ab_W_set (S' := ab_pI S q (upd (S.1 q) j.toNatClampNeg x)) hq (by rw [ab_cell_arr hsh (by decide), ab_pI_at]) (fun k hk => ab_cell_pI hk)] at hP1
    exact kK _ _ _ h4 H1 locs1 ls hP1 hS1 hL
  | lastore =>
    obtain rfl : len = 1 := hln
    obtain ⟨x, r, rfl, h2⟩ := pop_l_of h
    obtain ⟨j, r, rfl, h2⟩ := pop_i_of h2
    obtain ⟨q, r, rfl, h2⟩ := pop_r_of h2
    obtain ⟨hq, n, hsh, h3, h4⟩ := ab_arr_of h2
    have hcell : (ab_W sh N ad dA S)[q]? = some (ad q, .inl (dA 2, n, .inr (.inl (S.2 q)))) := by rw [ab_W_get hq, ab_cell_arrL hsh]
    refine va_last hx hb hK hP (hD S) hS q 2 hcell rfl h3 hd (fun H1 locs1 hP1 hD1 hS1 => ?_)
    rw [ab_W_set (S' := ab_pL S q (vp_updL (S.2 q) j.toNatClampNeg x)) hq (by rw [ab_cell_arrL hsh, ab_pL_at]) (fun k hk => ab_cell_pL hk)] at hP1
    exact kK _ _ _ h4 H1 locs1 ls hP1 hS1 hL
  | arraylength =>
    obtain rfl : len = 1 := hln
    obtain ⟨q, r, rfl, h2⟩ := pop_r_of h
    by_cases hsq : q = ab_scr
    · rw [if_pos hsq] at h2
      subst hsq
      obtain ⟨n, xs, e1, h6⟩ := ab_sx_of h2
      obtain ⟨hX, hbl, hbA⟩ := hsc n xs e1
      exact va_slen hx hb hX hbl hbA hS hd (kK _ _ _ h6 H locs ls hP hS hL)
    rw [if_neg hsq] at h2
    obtain ⟨hq, n, hsh, h3⟩ := ab_arr_of h2
    obtain ⟨ty, hty⟩ : ∃ ty, (ab_tys dA)[a]? = some (dA a, ty) := by
      have ha : a ≤ 2 := hlk
      rcases (show a = 0 ∨ a = 1 ∨ a = 2 by omega) with rfl | rfl | rfl
      · exact ⟨_, rfl⟩
      · exact ⟨_, rfl⟩
      · exact ⟨_, rfl⟩
    have hcell : (ab_W sh N ad dA S)[q]? = some (ad q, .inl (dA a, n, if a = 2 then .inr (.inl (S.2 q)) else .inl (S.1 q))) := by rw [ab_W_get hq]; simp [ab_cell, hsh]
    exact va_alen hx hb hK hP q a hcell hty rfl hd (kK _ _ _ h3 H locs ls hP hS hL)
  | goto off =>
    exact lv_goto hx hb (by obtain rfl : len = 3 := hln; exact hd) hlk (kJ _ _ _ _ h H locs ls hP hS hL)
  | if_icmp cn off =>
    obtain rfl : len = 3 := hln
    obtain ⟨y, r, rfl, h2⟩ := pop_i_of h
    obtain ⟨x, r, rfl, h2⟩ := pop_i_of h2
    cases cn with
    | eq => exact lv_icmp_eq hx hb hd hlk (fun z => kJ _ _ _ _ (h2.1 z) H locs ls hP hS hL) (fun z => kK _ _ _ (h2.2 z) H locs ls hP hS hL)
    | ne => exact lv_icmp_ne hx hb hd hlk (fun z => kJ _ _ _ _ (h2.1 z) H locs ls hP hS hL) (fun z => kK _ _ _ (h2.2 z) H locs ls hP hS hL)
    | lt => exact lv_icmp_lt hx hb hd hlk (fun z => kJ _ _ _ _ (h2.1 z) H locs ls hP hS hL) (fun z => kK _ _ _ (h2.2 z) H locs ls hP hS hL)
    | ge => exact lv_icmp_ge hx hb hd hlk (fun z => kJ _ _ _ _ (h2.1 z) H locs ls hP hS hL) (fun z => kK _ _ _ (h2.2 z) H locs ls hP hS hL)
    | gt => exact lv_icmp_gt hx hb hd hlk (fun z => kJ _ _ _ _ (h2.1 z) H locs ls hP hS hL) (fun z => kK _ _ _ (h2.2 z) H locs ls hP hS hL)
    | le => exact lv_icmp_le hx hb hd hlk (fun z => kJ _ _ _ _ (h2.1 z) H locs ls hP hS hL) (fun z => kK _ _ _ (h2.2 z) H locs ls hP hS hL)
  | ifCond cn off =>
    obtain rfl : len = 3 := hln
    obtain ⟨x, r, rfl, h2⟩ := pop_i_of h
    cases cn with
    | eq => exact lv_if_eq hx hb hd hlk (fun z => kJ _ _ _ _ (h2.1 z) H locs ls hP hS hL) (fun z => kK _ _ _ (h2.2 z) H locs ls hP hS hL)
    | ne => exact lv_if_ne hx hb hd hlk (fun z => kJ _ _ _ _ (h2.1 z) H locs ls hP hS hL) (fun z => kK _ _ _ (h2.2 z) H locs ls hP hS hL)
    | lt => exact lv_if_lt hx hb hd hlk (fun z => kJ _ _ _ _ (h2.1 z) H locs ls hP hS hL) (fun z => kK _ _ _ (h2.2 z) H locs ls hP hS hL)
    | ge => exact lv_if_ge hx hb hd hlk (fun z => kJ _ _ _ _ (h2.1 z) H locs ls hP hS hL) (fun z => kK _ _ _ (h2.2 z) H locs ls hP hS hL)
    | gt => exact lv_if_gt hx hb hd hlk (fun z => kJ _ _ _ _ (h2.1 z) H locs ls hP hS hL) (fun z => kK _ _ _ (h2.2 z) H locs ls hP hS hL)
    | le => exact lv_if_le hx hb hd hlk (fun z => kJ _ _ _ _ (h2.1 z) H locs ls hP hS hL) (fun z => kK _ _ _ (h2.2 z) H locs ls hP hS hL)
  | tableswitch df lo hi offs =>
    obtain ⟨x, r, rfl, h2⟩ := pop_i_of h
    have hdf : 0 ≤ df := hlk
    by_cases z : x.toInt < lo ∨ hi < x.toInt
    · exact lv_tableOut hx hb hd z (by omega) (kJ _ _ _ _ (h2.1 z) H locs ls hP hS hL)
    · obtain ⟨o, ho, hj⟩ := h2.2 (fun y => z (Or.inl y)) (fun y => z (Or.inr y))
      exact lv_tableIn hx hb hd (fun y => z (Or.inl y)) (fun y => z (Or.inr y)) ho (by omega) (kJ _ _ _ _ hj H locs ls hP hS hL)
  | lookupswitch df ps =>
    obtain ⟨x, r, rfl, h2⟩ := pop_i_of h
    obtain ⟨o, ho, hj⟩ := h2
    exact lv_lookup hx hb hd hlk ho (by omega) (kJ _ _ _ _ hj H locs ls hP hS hL)
  | invokevirtual idx =>
    obtain rfl : len = 3 := hln
    obtain ⟨h4, h⟩ := ab_if h
    split at h
    · rename_i q r e1
      obtain ⟨hq, fl, hsh, h2⟩ := ab_obj_of h
      obtain ⟨M, hM, k1, k2, k3, ⟨T, N', hc⟩, hpar⟩ := hlk
      have hoc : ab_oc pr a = M.2.1 := by simp [ab_oc, hM]
      rw [hoc] at hsh
      obtain ⟨m1, m2, m3, m4, m5, m6⟩ := hpr a M hM
      have hmet := hT a M _ S _ hM h2
      have hst : st = st.take b ++ .ref q :: r := by rw [← e1, List.take_append_drop]
      have hlen : b < st.length := by
        have : (st.drop b).length = r.length + 1 := by rw [e1]; rfl
        rw [List.length_drop] at this
        omega
      have hr1 : st.drop (b + 1) = r := by rw [← List.tail_drop, e1]; rfl
      have hcell : (ab_W sh N ad dA S)[q]? = some (ad q, .inr (M.2.1, ab_fs ad (S.1 q) 0 fl)) := by rw [ab_W_get hq, ab_cell_obj hsh]
      have hG : GoodIn U (Cond.code M.1 M.2.2.1 M.2.2.2.1 M.2.2.2.2.1 :: U) := fun w hw => by
        rcases List.mem_cons.mp hw with rfl | hw
        · exact ⟨m1, hU _ m1⟩
        · exact ⟨hw, hU _ hw⟩
      refine ab_back hA (va_runV (As := ((st.take b).reverse).map (ab_v ad)) (rest := r.map (ab_v ad)) (n := b) (C := M.1.cls) ⟨hx, hb, hml, hown, hts⟩ hmet
        ⟨callB_of b hts hG rfl rfl rfl (hts _ m2) (hts _ k1) ⟨m3, m4, hpar⟩ (by simp only [ab_rm]; omega), hts _ k2, hts _ k3⟩
        ⟨ab_blind, va_recv hK hP hc hcell, fun u hu hW => ⟨rfl, by rw [hu]; exact hP, va_K.moved hW.alike hK⟩⟩
        rfl (by simp; omega) hL.2.1 (by show st.map (ab_v ad) = _; conv => lhs; rw [hst]
                                        simp [ab_v]) (lv_room (ab_sum4 _ (by rw [List.length_map, ← hr1]; exact h4))) hd ⟨hR.2.2.1, hR.2.2.2⟩) hS
        (fun v u H1 locs1 hz hq1 hP1 hS1 => ?_)
      have := kK _ _ _ hq1 H1 locs1 ls hP1 hS1 hL
      rw [ab_ri ad hz] at this
      exact this
    · exact h.elim
  | invokestatic idx =>
    obtain rfl : len = 3 := hln
    obtain ⟨hRf, hRl, hRc, hRs⟩ := id hR
    have hls : c.maxLocals = ls.size := by rw [hml]; exact hL.2.1.symm
    by_cases a1 : a = 1000
    · subst a1
      obtain ⟨y, r, rfl, h2⟩ := pop_i_of h
      obtain ⟨x, r, rfl, h2⟩ := pop_i_of h2
      obtain ⟨h3, h2⟩ := ab_if h2
      obtain ⟨k1, k2, k3, k4⟩ := hlk
      have h5 := ab_sum4 (r.map (ab_v ad)) (by rw [List.length_map]; exact h3)
      exact va_mmax hx hb hls hown (hts _ k1) (hts _ k2) (hts _ k3) (hts _ k4) (by omega) (by omega) hRc hRs hd (kK _ _ _ h2 H locs ls hP hS hL)
    · by_cases a2 : a = 1001
      · subst a2
        obtain ⟨y, r, rfl, h2⟩ := pop_i_of h
        obtain ⟨x, r, rfl, h2⟩ := pop_i_of h2
        obtain ⟨h3, h2⟩ := ab_if h2
        obtain ⟨k1, k2, k3, k4⟩ := hlk
        have h5 := ab_sum4 (r.map (ab_v ad)) (by rw [List.length_map]; exact h3)
        exact va_mmin hx hb hls hown (hts _ k1) (hts _ k2) (hts _ k3) (hts _ k4) (by omega) (by omega) hRc hRs hd (kK _ _ _ h2 H locs ls hP hS hL)
      · by_cases a3 : a = 1002
        · subst a3
          obtain ⟨n, r1, e1, g1⟩ := pop_i_of h
          obtain ⟨dp, r2, e2, g2⟩ := pop_i_of g1
          obtain ⟨q1, r3, e3, g3⟩ := pop_r_of g2
          obtain ⟨sp, r4, e4, g4⟩ := pop_i_of g3
          obtain ⟨q0, r, e5, g5⟩ := pop_r_of g4
          subst e5; subst e4; subst e3; subst e2; subst e1
          obtain ⟨h3, h2⟩ := ab_if g5
          obtain ⟨hq0, n0, hs0, h2⟩ := ab_arr_of h2
          obtain ⟨hq1, n1, hs1, c1, c2, c3, c4, c5, h2⟩ := ab_arr_of h2
          obtain ⟨k1, k2, k3, k4⟩ := hlk
          have h5 := ab_sum4 (r.map (ab_v ad)) (by rw [List.length_map]; exact h3)
          have h6 : nativeFrameWords "java/lang/System" "arraycopy" 5 + 11 ≤ 60 := by decide +kernel
          have hc0 : (ab_W sh N ad dA S)[q0]? = some (ad q0, .inl (dA 0, n0, .inl (S.1 q0))) := by rw [ab_W_get hq0, ab_cell_arr hs0 (by decide)]
          have hc1 : (ab_W sh N ad dA S)[q1]? = some (ad q1, .inl (dA 0, n1, .inl (S.1 q1))) := by rw [ab_W_get hq1, ab_cell_arr hs1 (by decide)]
          refine va_copyi hx hb hls hown (hts _ k1) (hts _ k2) (hts _ k3) (hts _ k4) hK hP (hD S) hS q0 q1 0 0 hc0 hc1 rfl rfl rfl c1 c2 c3 c4 c5 (fun _ _ => rfl) (by omega) (by omega) hd (fun H1 locs1 hP1 hD1 hS1 => ?_)
          rw [ab_W_set (S' := ab_pI S q1 (va_cpy (S.1 q0) (S.1 q1) sp.toNatClampNeg dp.toNatClampNeg n.toNatClampNeg)) hq1 (by rw [ab_cell_arr hs1 (by decide), ab_pI_at]) (fun k hk => ab_cell_pI hk)] at hP1
          exact kK _ _ _ h2 H1 locs1 ls hP1 hS1 hL
        · have h : if a = 1000 then _ else if a = 1001 then _ else if a = 1002 then _ else if b ≤ st.length then (if (st.drop b).length ≤ 4 then ab_T sh N pr d a (st.take b).reverse S fun v S' => K L (v.toList ++ st.drop b) S' else False) else False := h
          have hlk : if a = 1000 then _ else if a = 1001 then _ else if a = 1002 then _ else ∃ M, pr[a]? = some M ∧ Cond.methodLink own idx M.1 ∈ U ∧ Cond.static M.1 ∈ U ∧ (parseMethodDescriptor M.1.desc).map (fun d => d.parameters.length) = some b := hlk
          rw [if_neg a1, if_neg a2, if_neg a3] at h hlk
          obtain ⟨hlen, h⟩ := ab_if h
          obtain ⟨h4, h2⟩ := ab_if h
          obtain ⟨M, hM, k1, k2, hpar⟩ := hlk
          obtain ⟨m1, m2, m3, m4, m5, m6⟩ := hpr a M hM
          have hmet := hT a M _ S _ hM h2
          have hst : st = st.take b ++ st.drop b := by rw [List.take_append_drop]
          have hG : GoodIn U (Cond.code M.1 M.2.2.1 M.2.2.2.1 M.2.2.2.2.1 :: U) := fun w hw => by
            rcases List.mem_cons.mp hw with rfl | hw
            · exact ⟨m1, hU _ m1⟩
            · exact ⟨hw, hU _ hw⟩
          refine ab_back hA (va_runS (As := ((st.take b).reverse).map (ab_v ad)) (rest := (st.drop b).map (ab_v ad)) (n := b) ⟨hx, hb, hml, hown, hts⟩ hmet
            ⟨callB_of b hts hG rfl rfl rfl (hts _ m2) (hts _ k1) ⟨m3, m4, hpar⟩ (by simp only [ab_rm]; omega), hts _ k2⟩
            ⟨ab_blind, fun u hu hW => ⟨rfl, by rw [hu]; exact hP, va_K.moved hW.alike hK⟩⟩
            rfl (by simp; omega) hL.2.1 (by show st.map (ab_v ad) = _; conv => lhs; rw [hst]
                                            simp) (lv_room (ab_sum4 _ (by rw [List.length_map]; exact h4))) hd ⟨hR.2.2.1, hR.2.2.2⟩) hS
            (fun v u H1 locs1 hz hq1 hP1 hS1 => ?_)
          have := kK _ _ _ hq1 H1 locs1 ls hP1 hS1 hL
          rw [ab_ri ad hz] at this
          exact this
  | ireturn =>
    obtain rfl : len = 1 := hln
    obtain ⟨x, r, rfl, h2⟩ := pop_i_of h
    obtain ⟨h3, h2⟩ := ab_if h2
    have h3 := List.eq_nil_of_length_eq_zero h3
    subst h3
    cases ret with
    | none => exact h2.elim
    | some ty =>
    cases ty with
    | int => exact kR x S H locs ls rfl (Or.inl rfl) h2 hP hS
    | boolean => exact kR x S H locs ls rfl (Or.inr ⟨rfl, h2.1⟩) h2.2 hP hS
    | _ => exact h2.elim
  | return_ =>
    obtain rfl : len = 1 := hln
    obtain ⟨h3, h2⟩ := ab_if h
    have h3 := List.eq_nil_of_length_eq_zero h3
    subst h3
    cases ret with
    | none => exact kV S H locs ls rfl rfl h2 hP hS
    | some ty => exact h2.elim
  | monitorexit => exact kJ _ _ _ _ h H locs ls hP hS hL
  | _ => exact h.elim
end AB2
end
section
/-! ===== a method of the small machine keeps its contract on the great one ===== -/
def ab_ch : List ab_I → Bool
  | [] => true
  | [_] => true
  | q :: q' :: r => (q'.1 == q.1 + q.2.2.1) && ab_ch (q' :: r)
/-- what the tables must say for a method's code -/
def ab_cd (U : List Cond) (cl : List vw_C) (pr : List ab_M) (M : ab_M) : Prop := ab_ch M.2.2.2.2.2 = true ∧ ∀ q ∈ M.2.2.2.2.2, q.2.1 = .nop ∨ q.2.1 = .monitorexit ∨ (decode M.2.2.1 q.1 = .ok (q.2.1, q.2.2.1) ∧ ab_ln q.2.1 q.2.2.1 ∧ ab_lk U cl pr M.1.cls q.1 q.2.1 q.2.2.2.1 q.2.2.2.2)
theorem ab_ch_tail {q : ab_I} {r : List ab_I} (h : ab_ch (q :: r) = true) : ab_ch r = true := by
  cases r with
  | nil => rfl
  | cons q' r =>
    simp only [ab_ch, Bool.and_eq_true] at h
    exact h.2
theorem ab_from_spec {pc : Nat} {cd : List ab_I} : ∀ {q : ab_I} {r : List ab_I}, ab_from pc cd = q :: r → ab_ch cd = true → q.1 = pc ∧ ab_ch (q :: r) = true ∧ ∀ z ∈ q :: r, z ∈ cd := by
  induction cd with
  | nil => intro q r h; cases h
  | cons z t ih =>
    intro q r h hc
    unfold ab_from at h
    split at h
    · rename_i e
      split at h
      · obtain ⟨h1, h2, h3⟩ := ih h (ab_ch_tail hc)
        exact ⟨h1, h2, fun y hy => List.mem_cons_of_mem _ (h3 y hy)⟩
      · cases h
        exact ⟨e, hc, fun _ hz => hz⟩
    · obtain ⟨h1, h2, h3⟩ := ih h (ab_ch_tail hc)
      exact ⟨h1, h2, fun y hy => List.mem_cons_of_mem _ (h3 y hy)⟩
set_option maxHeartbeats 2000000 in
theorem ab_sound {l : Launch} {D : va_G} {cl : List vw_C} {sh : ab_Sh} {N : Nat} {ad : Nat → Nat} {dA : Nat → ClassId} {U : List Cond} {pr : List ab_M}
    (hU : ∀ w ∈ U, (w.onTables && w.keeps) = true ∨ ∃ ty, w = Cond.arrayClass ty) (hck : ab_ck U cl) (hpr : ∀ (k : Nat) (M : ab_M), pr[k]? = some M → ab_mk U M) (hcd : ∀ (k : Nat) (M : ab_M), pr[k]? = some M → ab_cd U cl pr M)
    (hinj : ∀ i j, i < N → j < N → ad i = ad j → i = j) : ∀ (d k : Nat) (M : ab_M) (as : List Value) (S : ab_S) (Q : ab_Q), pr[k]? = some M → ab_T sh N pr d k as S Q → ab_met l D cl sh N ad dA U d M as S Q := by
  intro d
  induction d with
  | zero => intro k M as S Q _ h; exact h.elim
  | succ d ih =>
    intro k M as S Q hM h
    obtain ⟨m1, m2, m3, m4, m5, m6⟩ := hpr k M hM
    obtain ⟨c1, c2⟩ := hcd k M hM
    unfold ab_T at h
    rw [hM] at h
    obtain ⟨hlen, hrun⟩ := h
    refine Met.ofW (cc := M.2.2.1) (maxL := M.2.2.2.1) (ret := M.2.2.2.2.1) m5 rfl ?_
    intro p e s m args below meth c s₁ B hml hv
    obtain ⟨rfl, hP, hK⟩ := hv
    have hx := B.exec
    have hb := B.bytes
    have hr := B.returns
    have hts0 := atoms_spec (ws := Cond.code M.1 M.2.2.1 M.2.2.2.1 M.2.2.2.2.1 :: U) B.pre
    have hts : ∀ w ∈ U, w.before (as.map (ab_v ad)).toArray s = true := fun w hw => hts0 w (List.mem_cons_of_mem _ hw)
    have hown : s.vm.findClass M.1.cls = some m.cls := findClass_of_methodNamed B.named
    have hlocks := B.notSynchronized
    have go : ∀ (r : List ab_I), (∀ z ∈ r, z ∈ M.2.2.2.2.2) → ab_ch r = true → ∀ (pc : Nat) (L : ab_L) (st : List Value) (S : ab_S), (∀ q t, r = q :: t → q.1 = pc) → ab_w none sh N (ab_oc pr) (ab_T sh N pr d) (ab_G p l e (ab_rm (d + 1)) s m (as.map (ab_v ad)).toArray below meth c (MQ below (ab_Qc D cl sh N ad dA Q) (as.map (ab_v ad)).toArray s 0 0 (ab_A N ad)) D cl sh N ad dA (ab_A N ad) 0 0 M.2.2.2.1) Q M.2.2.2.2.1 r L st S → ab_G p l e (ab_rm (d + 1)) s m (as.map (ab_v ad)).toArray below meth c (MQ below (ab_Qc D cl sh N ad dA Q) (as.map (ab_v ad)).toArray s 0 0 (ab_A N ad)) D cl sh N ad dA (ab_A N ad) 0 0 M.2.2.2.1 pc L st S := by
      intro r
      induction r with
      | nil => intro _ _ pc L st S _ h; exact h.elim
      | cons q r ihr =>
        intro hin hch pc L st S hpc h
        obtain ⟨pc0, i, len, a, b⟩ := q
        obtain rfl : pc0 = pc := hpc _ _ rfl
        rcases c2 _ (hin _ List.mem_cons_self) with hnop | hmx | ⟨q1, q2, q3⟩
        · dsimp only at hnop
          subst hnop
          exact h.elim
        · dsimp only at hmx
          subst hmx
          exact h
        refine ab_step hx hb hml hown hts hU hK hck hpr hinj (fun _ z => z) ⟨Nat.le_refl _, Nat.le_refl _, Nat.zero_le _, Nat.zero_le _⟩ (fun _ _ z => by cases z) ih q1 q2 q3 (fun L st S hk => ?_) (fun t L st S hj => hj) (fun x S H locs ls hi hre hQ hP hS => ?_) (fun S H locs ls hi hre hQ hP hS => ?_) h
        rotate_left
        · subst hi
          obtain rfl : len = 1 := q2
          rcases hre with hre | ⟨hre, hx1⟩
          · rw [hre] at hr
            exact W.iret hx hb hr (fun t ht hW => ⟨⟨some (.int x), S, rfl, Or.inr ⟨x, rfl⟩, hQ, by rw [ht]; exact hP⟩, hS.F ht⟩) hS.2.2 q1
          · rw [hre] at hr
            exact W.zret hx hb hr (ab_bool hx1).1 (fun t ht hW => ⟨⟨some (.int x), S, rfl, Or.inr ⟨x, rfl⟩, hQ, by rw [ht]; exact hP⟩, hS.F ht⟩) hS.2.2 q1
        · subst hi
          obtain rfl : len = 1 := q2
          rw [hre] at hr
          exact W.vret hx hb hr (fun t ht hW => ⟨⟨none, S, rfl, Or.inl rfl, hQ, by rw [ht]; exact hP⟩, hS.F ht⟩) hS.2.2 q1
        refine ihr (fun z hz => hin z (List.mem_cons_of_mem _ hz)) (ab_ch_tail hch) (pc0 + len) L st S (fun q' t e => ?_) hk
        subst e
        simp only [ab_ch, Bool.and_eq_true, beq_iff_eq] at hch
        exact hch.1
    have key : ∀ (pc : Nat) (L : ab_L) (st : List Value) (S : ab_S), ab_w none sh N (ab_oc pr) (ab_T sh N pr d) (ab_G p l e (ab_rm (d + 1)) s m (as.map (ab_v ad)).toArray below meth c (MQ below (ab_Qc D cl sh N ad dA Q) (as.map (ab_v ad)).toArray s 0 0 (ab_A N ad)) D cl sh N ad dA (ab_A N ad) 0 0 M.2.2.2.1) Q M.2.2.2.2.1 (ab_from pc M.2.2.2.2.2) L st S → ab_G p l e (ab_rm (d + 1)) s m (as.map (ab_v ad)).toArray below meth c (MQ below (ab_Qc D cl sh N ad dA Q) (as.map (ab_v ad)).toArray s 0 0 (ab_A N ad)) D cl sh N ad dA (ab_A N ad) 0 0 M.2.2.2.1 pc L st S := by
      intro pc L st S h
      cases hf : ab_from pc M.2.2.2.2.2 with
      | nil => rw [hf] at h; exact h.elim
      | cons q r =>
        obtain ⟨h1, h2, h3⟩ := ab_from_spec hf c1
        rw [hf] at h
        exact go (q :: r) h3 h2 pc L st S (fun q' t e => by cases e; exact h1) h
    have hl := lv_entry (as.map (ab_v ad)) (n := M.2.2.2.1) (by rw [ab_en_len]; exact hlen)
    rw [lg_entry_eq]
    exact hrun _ (fun pc L L0 st S hle h H locs ls hP hS hL => key pc L0 st S h H locs ls hP hS (hL.forget hle)) s.heap [] _ hP va_S.rf (ab_Lr.entry hlen hl)
end
section
/-! ===== the tables' words, by program ===== -/
def ab_bln (i : Instr) (len : Nat) : Bool := match i with
  | .iload _ => len == 2
  | .lload _ => len == 2
  | .aload _ => len == 2
  | .istore _ => len == 2
  | .lstore _ => len == 2
  | .iinc _ _ => len == 3
  | .bipush _ => len == 2
  | .sipush _ => len == 3
  | .ldc _ => len == 2
  | .ldc_w _ => len == 3
  | .ldc2_w _ => len == 3
  | .getfield _ => len == 3
  | .putfield _ => len == 3
  | .goto _ => len == 3
  | .if_icmp _ _ => len == 3
  | .ifCond _ _ => len == 3
  | .invokevirtual _ => len == 3
  | .invokestatic _ => len == 3
  | .tableswitch _ _ _ _ => true
  | .lookupswitch _ _ => true
  | .new _ => true
  | .invokespecial _ => true
  | _ => len == 1
theorem ab_bln_of {i : Instr} {len : Nat} (h : ab_bln i len = true) : ab_ln i len := by
  cases i <;> first | exact eq_of_beq h | exact trivial
abbrev ab_3 : Type := Nat × Nat × Nat
def ab_okF (U : List Cond) (cl : List vw_C) (own : String) (q : ab_3) : Prop := ∃ C T N', cl[q.2.1]? = some (C, T, N') ∧ q.2.2 < N' ∧ Cond.fieldLink own q.1 (T q.2.2).1 (T q.2.2).2.1 (T q.2.2).2.2.1 ∈ U
def ab_okK (U : List Cond) (own : String) (q : ab_3) : Prop := if q.2.2 < 2 then Cond.constant own q.1 (ab_num q.2.1 q.2.2) ∈ U else Cond.constantLong own q.1 (ab_lnum q.2.1 (q.2.2 - 2)) ∈ U
def ab_okV (U : List Cond) (cl : List vw_C) (pr : List ab_M) (own : String) (q : ab_3) : Prop := ab_lk U cl pr own 0 (.invokevirtual q.1) q.2.1 q.2.2
def ab_okS (U : List Cond) (cl : List vw_C) (pr : List ab_M) (own : String) (q : ab_3) : Prop := ab_lk U cl pr own 0 (.invokestatic q.1) q.2.1 q.2.2
def ab_bI (cl : List vw_C) (FL KL VL SL : List ab_3) (pc : Nat) (i : Instr) (a b : Nat) : Bool := match i with
  | .getfield idx => FL.contains (idx, a, b)
  | .putfield idx => FL.contains (idx, a, if b < 1000 then b else b - 1000) && (match cl[a]? with
    | some (_, T, _) => (!(T (if b < 1000 then b else b - 1000)).2.2.2) && decide (parseFieldDescriptor (T (if b < 1000 then b else b - 1000)).2.2.1 = some (if b < 1000 then .int else .boolean))
    | none => false)
  | .ldc idx => decide (b < 2) && KL.contains (idx, a, b)
  | .ldc_w idx => decide (b < 2) && KL.contains (idx, a, b)
  | .ldc2_w idx => KL.contains (idx, a, b + 2)
  | .goto off => decide ((pc : Int) + off = (a : Int))
  | .if_icmp _ off => decide ((pc : Int) + off = (a : Int))
  | .ifCond _ off => decide ((pc : Int) + off = (a : Int))
  | .tableswitch d _ _ _ => decide (0 ≤ d)
  | .lookupswitch _ ps => (ps.toList.zip (ps.toList.drop 1)).all (fun (a, next) => a.1 < next.1)
  | .arraylength => decide (a ≤ 2)
  | .invokevirtual idx => VL.contains (idx, a, b)
  | .invokestatic idx => SL.contains (idx, a, b)
  | _ => true
theorem ab_bI_of {U : List Cond} {cl : List vw_C} {pr : List ab_M} {own : String} {FL KL VL SL : List ab_3} (hF : ∀ q ∈ FL, ab_okF U cl own q) (hK : ∀ q ∈ KL, ab_okK U own q) (hV : ∀ q ∈ VL, ab_okV U cl pr own q) (hS : ∀ q ∈ SL, ab_okS U cl pr own q) {pc : Nat} {i : Instr} {a b : Nat} (h : ab_bI cl FL KL VL SL pc i a b = true) : ab_lk U cl pr own pc i a b := by
  cases i with
  | getfield idx => exact hF (idx, a, b) (List.contains_iff_mem.mp h)
  | putfield idx =>
    simp only [ab_bI, Bool.and_eq_true] at h
    obtain ⟨C, T, N', h1, h2, h3⟩ := hF _ (List.contains_iff_mem.mp h.1)
    have h4 := h.2
    simp only [h1, Bool.and_eq_true, Bool.not_eq_true', decide_eq_true_eq] at h4
    exact ⟨C, T, N', h1, h2, h3, h4.1, h4.2⟩
  | ldc idx =>
    simp only [ab_bI, Bool.and_eq_true, decide_eq_true_eq] at h
    have h2 := hK _ (List.contains_iff_mem.mp h.2)
    simp only [ab_okK, if_pos h.1] at h2
    exact h2
  | ldc_w idx =>
    simp only [ab_bI, Bool.and_eq_true, decide_eq_true_eq] at h
    have h2 := hK _ (List.contains_iff_mem.mp h.2)
    simp only [ab_okK, if_pos h.1] at h2
    exact h2
  | ldc2_w idx =>
    simp only [ab_bI] at h
    have h2 := hK _ (List.contains_iff_mem.mp h)
    have n : ¬ b + 2 < 2 := by omega
    simp only [ab_okK, if_neg n, Nat.add_sub_cancel] at h2
    exact h2
  | goto off => exact (of_decide_eq_true h : (pc : Int) + off = (a : Int))
  | if_icmp cn off => exact (of_decide_eq_true h : (pc : Int) + off = (a : Int))
  | ifCond cn off => exact (of_decide_eq_true h : (pc : Int) + off = (a : Int))
  | tableswitch d lo hi offs => exact (of_decide_eq_true h : 0 ≤ d)
  | lookupswitch d ps => exact h
  | arraylength => exact (of_decide_eq_true h : a ≤ 2)
  | invokevirtual idx => exact hV (idx, a, b) (List.contains_iff_mem.mp h)
  | invokestatic idx => exact hS (idx, a, b) (List.contains_iff_mem.mp h)
  | _ => exact trivial
def ab_bM (cl : List vw_C) (FL KL VL SL : List ab_3) (M : ab_M) : Bool := ab_ch M.2.2.2.2.2 && M.2.2.2.2.2.all fun q => decide (q.2.1 = .nop) || (decide (q.2.1 = .monitorexit) || (decide (decode M.2.2.1 q.1 = .ok (q.2.1, q.2.2.1)) && (ab_bln q.2.1 q.2.2.1 && ab_bI cl FL KL VL SL q.1 q.2.1 q.2.2.2.1 q.2.2.2.2)))
theorem ab_bM_of {U : List Cond} {cl : List vw_C} {pr : List ab_M} {M : ab_M} {FL KL VL SL : List ab_3} (hF : ∀ q ∈ FL, ab_okF U cl M.1.cls q) (hK : ∀ q ∈ KL, ab_okK U M.1.cls q) (hV : ∀ q ∈ VL, ab_okV U cl pr M.1.cls q) (hS : ∀ q ∈ SL, ab_okS U cl pr M.1.cls q) (h : ab_bM cl FL KL VL SL M = true) : ab_cd U cl pr M := by
  simp only [ab_bM, Bool.and_eq_true, List.all_eq_true, Bool.or_eq_true] at h
  refine ⟨h.1, fun q hq => ?_⟩
  rcases h.2 q hq with h0 | h0 | ⟨h1, h2, h3⟩
  · exact Or.inl (of_decide_eq_true h0)
  · exact Or.inr (Or.inl (of_decide_eq_true h0))
  · exact Or.inr (Or.inr ⟨of_decide_eq_true h1, ab_bln_of h2, ab_bI_of hF hK hV hS h3⟩)
end
section
/-! ===== a run of rows that are no method's own: the law's body ===== -/
section AB3
variable {p : Program} {l : Launch} {e : Env} {R : Room} {s : State} {m : MethodId} {args : Array Value} {below : List Frame} {meth : Method} {c : Code}
variable {D : va_G} {cl : List vw_C} {sh : ab_Sh} {N : Nat} {ad : Nat → Nat} {dA : Nat → ClassId} {nL : Nat}
set_option maxHeartbeats 2000000 in
theorem ab_runs {Z : State → Prop} {A : Nat → Prop} {cells slots : Nat} {sc : ab_X} {U : List Cond} {pr : List ab_M} {own : String} {cc : ByteArray} {d : Nat} {Q : ab_Q} {ret : Option FieldType} {cd : List ab_I}
    (hx : p.tables.exec = Jvm.exec) (hb : c.code = cc) (hml : c.maxLocals = nL) (hown : s.vm.findClass own = some m.cls)
    (hts : ∀ w ∈ U, w.before args s = true) (hU : ∀ w ∈ U, (w.onTables && w.keeps) = true ∨ ∃ ty, w = Cond.arrayClass ty)
    (hK : va_K D cl (ab_tys dA) s) (hck : ab_ck U cl) (hpr : ∀ (k : Nat) (M : ab_M), pr[k]? = some M → ab_mk U M)
    (hinj : ∀ i j, i < N → j < N → ad i = ad j → i = j) (hA : ∀ q, ab_A N ad q → A q) (hR : d + 1 ≤ R.frames ∧ 100 * (d + 1) ≤ R.locals ∧ cells ≤ R.cells ∧ slots ≤ R.slots)
    (hsc : ∀ n xs, sc = some (n, xs) → va_X (ad ab_scr) n xs s s.heap ∧ ad ab_scr < s.heap.size ∧ ¬ A (ad ab_scr))
    (hT : ∀ (k : Nat) (M : ab_M) (as : List Value) (S : ab_S) (Q : ab_Q), pr[k]? = some M → ab_T sh N pr d k as S Q → ab_met l D cl sh N ad dA U d M as S Q)
    (c1 : ab_ch cd = true) (c2 : ∀ q ∈ cd, q.2.1 = .nop ∨ q.2.1 = .monitorexit ∨ (decode cc q.1 = .ok (q.2.1, q.2.2.1) ∧ ab_ln q.2.1 q.2.2.1 ∧ ab_lk U cl pr own q.1 q.2.1 q.2.2.2.1 q.2.2.2.2))
    (kR : ∀ (pc : Nat) (x : Int32) (S : ab_S) (H : Heap) (locs : List Loc) (ls : Array Slot), decode cc pc = .ok (.ireturn, 1) → (ret = some .int ∨ (ret = some .boolean ∧ (x = 0 ∨ x = 1))) → Q (some (.int x)) S → va_P D cl (ab_W sh N ad dA S) H → va_S A s.heap H locs → W p l e R s m args below meth c H locs cells slots Z (F0 m pc ls [.int x]))
    (kV : ret ≠ none) :
    ∀ (pc : Nat) (L : ab_L) (st : List Value) (S : ab_S), ab_run sc sh N (ab_oc pr) (ab_T sh N pr d) ret cd Q pc L st S → ab_G p l e R s m args below meth c Z D cl sh N ad dA A cells slots nL pc L st S := by
  have go : ∀ (r : List ab_I), (∀ z ∈ r, z ∈ cd) → ab_ch r = true → ∀ (pc : Nat) (L : ab_L) (st : List Value) (S : ab_S), (∀ q t, r = q :: t → q.1 = pc) → ab_w sc sh N (ab_oc pr) (ab_T sh N pr d) (ab_G p l e R s m args below meth c Z D cl sh N ad dA A cells slots nL) Q ret r L st S → ab_G p l e R s m args below meth c Z D cl sh N ad dA A cells slots nL pc L st S := by
    intro r
    induction r with
    | nil => intro _ _ pc L st S _ h; exact h.elim
    | cons q r ihr =>
      intro hin hch pc L st S hpc h
      obtain ⟨pc0, i, len, a, b⟩ := q
      obtain rfl : pc0 = pc := hpc _ _ rfl
      rcases c2 _ (hin _ List.mem_cons_self) with hnop | hmx | ⟨q1, q2, q3⟩
      · dsimp only at hnop
        subst hnop
        exact h.elim
      · dsimp only at hmx
        subst hmx
        exact h
      refine ab_step hx hb hml hown hts hU hK hck hpr hinj hA hR hsc hT q1 q2 q3 (fun L st S hk => ?_) (fun t L st S hj => hj) (fun x S H locs ls hi hre hQ hP hS => ?_) (fun S H locs ls hi hre hQ hP hS => ?_) h
      rotate_left
      · subst hi
        obtain rfl : len = 1 := q2
        exact kR _ x S H locs ls q1 hre hQ hP hS
      · exact absurd hre kV
      refine ihr (fun z hz => hin z (List.mem_cons_of_mem _ hz)) (ab_ch_tail hch) (pc0 + len) L st S (fun q' t e => ?_) hk
      subst e
      simp only [ab_ch, Bool.and_eq_true, beq_iff_eq] at hch
      exact hch.1
  intro pc L st S hrun
  refine hrun _ (fun pc L L0 st S hle h => ?_)
  suffices hG : ab_G p l e R s m args below meth c Z D cl sh N ad dA A cells slots nL pc L0 st S from fun H locs ls hP hS hL => hG H locs ls hP hS (hL.forget hle)
  cases hf : ab_from pc cd with
  | nil => rw [hf] at h; exact h.elim
  | cons q r =>
    obtain ⟨h1, h2, h3⟩ := ab_from_spec hf c1
    rw [hf] at h
    exact go (q :: r) h3 h2 pc L0 st S (fun q' t e => by cases e; exact h1) h
end AB3
end
section
/-! ===== the small machine's demands are monotone ===== -/
theorem pop_i_mono {st : List Value} {k k' : Int32 → List Value → Prop} (h : pop_i st k) (f : ∀ x r, k x r → k' x r) : pop_i st k' := by
  obtain ⟨x, r, rfl, h2⟩ := pop_i_of h
  exact f x r h2
theorem pop_l_mono {st : List Value} {k k' : Int64 → List Value → Prop} (h : pop_l st k) (f : ∀ x r, k x r → k' x r) : pop_l st k' := by
  obtain ⟨x, r, rfl, h2⟩ := pop_l_of h
  exact f x r h2
theorem pop_r_mono {st : List Value} {k k' : Nat → List Value → Prop} (h : pop_r st k) (f : ∀ x r, k x r → k' x r) : pop_r st k' := by
  obtain ⟨x, r, rfl, h2⟩ := pop_r_of h
  exact f x r h2
theorem ld_i_mono {L : ab_L} {i : Nat} {k k' : Int32 → Prop} (h : ld_i L i k) (f : ∀ x, k x → k' x) : ld_i L i k' := by
  obtain ⟨x, e, h2⟩ := ld_i_of h
  unfold ld_i
  rw [e]
  exact f x h2
theorem ld_l_mono {L : ab_L} {i : Nat} {k k' : Int64 → Prop} (h : ld_l L i k) (f : ∀ x, k x → k' x) : ld_l L i k' := by
  obtain ⟨x, e, h2⟩ := ld_l_of h
  unfold ld_l
  rw [e]
  exact f x h2
theorem ld_r_mono {L : ab_L} {i : Nat} {k k' : Nat → Prop} (h : ld_r L i k) (f : ∀ x, k x → k' x) : ld_r L i k' := by
  obtain ⟨x, e, h2⟩ := ld_r_of h
  unfold ld_r
  rw [e]
  exact f x h2
theorem ab_arr_mono {sh : ab_Sh} {N q t : Nat} {k k' : Nat → Prop} (h : ab_arr sh N q t k) (f : ∀ n, k n → k' n) : ab_arr sh N q t k' := by
  obtain ⟨h1, n, h2, h3⟩ := ab_arr_of h
  unfold ab_arr
  rw [if_pos h1, h2]
  simp only [if_pos]
  exact f n h3
theorem ab_obj_mono {sh : ab_Sh} {N q t : Nat} {k k' : List (Option Nat) → Prop} (h : ab_obj sh N q t k) (f : ∀ n, k n → k' n) : ab_obj sh N q t k' := by
  obtain ⟨h1, n, h2, h3⟩ := ab_obj_of h
  unfold ab_obj
  rw [if_pos h1, h2]
  simp only [if_pos]
  exact f n h3
theorem ab_sx_mono {sc : ab_X} {k k' : Nat → (Nat → Int32) → Prop} (h : ab_sx sc k) (f : ∀ n xs, k n xs → k' n xs) : ab_sx sc k' := by
  obtain ⟨n, xs, rfl, h2⟩ := ab_sx_of h
  exact f n xs h2
theorem ite_mono {c A B A' B' : Prop} [Decidable c] (h : if c then A else B) (f : A → A') (g : B → B') : if c then A' else B' := by
  split at h
  · rename_i hc; rw [if_pos hc]; exact f h
  · rename_i hc; rw [if_neg hc]; exact g h
theorem ab_cmp_mono {c : Jvm.ClassFile.Cond} {x y : Int32} {A B A' B' : Prop} (h : ab_cmp c x y A B) (f : A → A') (g : B → B') : ab_cmp c x y A' B' := by
  cases c <;> exact ⟨fun z => f (h.1 z), fun z => g (h.2 z)⟩
def ab_Tm (T T' : Nat → List Value → ab_S → ab_Q → Prop) : Prop := ∀ (a : Nat) (as : List Value) (S : ab_S) (P P' : ab_Q), T a as S P → (∀ v S, P v S → P' v S) → T' a as S P'
set_option maxHeartbeats 2000000 in
theorem ab_1_mono {sc : ab_X} {sh : ab_Sh} {N : Nat} {oc : Nat → Nat} {T T' : Nat → List Value → ab_S → ab_Q → Prop} {J J' : Nat → ab_L → List Value → ab_S → Prop} {Q Q' : ab_Q} {ret : Option FieldType} {pc : Nat} {i : Instr} {a b : Nat} {L : ab_L} {st : List Value} {S : ab_S} {k k' : ab_L → List Value → ab_S → Prop}
    (hT : ab_Tm T T') (hJ : ∀ pc L st S, J pc L st S → J' pc L st S) (hQ : ∀ v S, Q v S → Q' v S) (hk : ∀ L st S, k L st S → k' L st S)
    (h : ab_1 sc sh N oc T J Q ret pc i a b L st S k) : ab_1 sc sh N oc T' J' Q' ret pc i a b L st S k' := by
  cases i with
  | iload n => exact ld_i_mono h fun x h => hk _ _ _ h
  | iload_n n => exact ld_i_mono h fun x h => hk _ _ _ h
  | lload n => exact ld_l_mono h fun x h => hk _ _ _ h
  | lload_n n => exact ld_l_mono h fun x h => hk _ _ _ h
  | aload n => exact ld_r_mono h fun x h => hk _ _ _ h
  | aload_n n => exact ld_r_mono h fun x h => hk _ _ _ h
  | istore n => exact pop_i_mono h fun x r h => ite_mono h (hk _ _ _) id
  | istore_n n => exact pop_i_mono h fun x r h => ite_mono h (hk _ _ _) id
  | lstore n => exact pop_l_mono h fun x r h => ite_mono h (hk _ _ _) id
  | lstore_n n => exact pop_l_mono h fun x r h => ite_mono h (hk _ _ _) id
  | iinc n w => exact ld_i_mono h fun x h => ite_mono h (hk _ _ _) id
  | iconst n => exact hk _ _ _ h
  | bipush n => exact hk _ _ _ h
  | sipush n => exact hk _ _ _ h
  | lconst n => exact hk _ _ _ h
  | ldc n => exact hk _ _ _ h
  | ldc_w n => exact hk _ _ _ h
  | ldc2_w n => exact hk _ _ _ h
  | dup =>
    match st, h with
    | v :: r, h => exact ite_mono h (hk _ _ _) id
    | [], h => exact h.elim
  | dup2 =>
    match st, h with
    | v :: w :: r, h => exact ite_mono h (fun h => ite_mono h (hk _ _ _) id) id
    | [_], h => exact h.elim
    | [], h => exact h.elim
  | iadd => exact pop_i_mono h fun x r h => pop_i_mono h fun x r h => hk _ _ _ h
  | isub => exact pop_i_mono h fun x r h => pop_i_mono h fun x r h => hk _ _ _ h
  | imul => exact pop_i_mono h fun x r h => pop_i_mono h fun x r h => hk _ _ _ h
  | idiv => exact pop_i_mono h fun x r h => pop_i_mono h fun x r h => ⟨h.1, hk _ _ _ h.2⟩
  | irem => exact pop_i_mono h fun x r h => pop_i_mono h fun x r h => ⟨h.1, hk _ _ _ h.2⟩
  | iand => exact pop_i_mono h fun x r h => pop_i_mono h fun x r h => hk _ _ _ h
  | ior => exact pop_i_mono h fun x r h => pop_i_mono h fun x r h => hk _ _ _ h
  | ishr => exact pop_i_mono h fun x r h => pop_i_mono h fun x r h => hk _ _ _ h
  | iushr => exact pop_i_mono h fun x r h => pop_i_mono h fun x r h => hk _ _ _ h
  | i2l => exact pop_i_mono h fun x r h => hk _ _ _ h
  | ladd => exact pop_l_mono h fun x r h => pop_l_mono h fun x r h => hk _ _ _ h
  | lmul => exact pop_l_mono h fun x r h => pop_l_mono h fun x r h => hk _ _ _ h
  | land => exact pop_l_mono h fun x r h => pop_l_mono h fun x r h => hk _ _ _ h
  | lor => exact pop_l_mono h fun x r h => pop_l_mono h fun x r h => hk _ _ _ h
  | lxor => exact pop_l_mono h fun x r h => pop_l_mono h fun x r h => hk _ _ _ h
  | lshl => exact pop_i_mono h fun x r h => pop_l_mono h fun x r h => hk _ _ _ h
  | lshr => exact pop_i_mono h fun x r h => pop_l_mono h fun x r h => hk _ _ _ h
  | lushr => exact pop_i_mono h fun x r h => pop_l_mono h fun x r h => hk _ _ _ h
  | lcmp => exact pop_l_mono h fun x r h => pop_l_mono h fun x r h => hk _ _ _ h
  | getfield idx =>
    refine pop_r_mono h fun q r h => ab_obj_mono h fun fl h => ?_
    split at h
    · exact hk _ _ _ h
    · exact hk _ _ _ h
    · exact h.elim
  | putfield idx =>
    refine pop_i_mono h fun x r h => pop_r_mono h fun q r h => ab_obj_mono h fun fl h => ite_mono h (fun h => ?_) (fun h => ?_)
    · split at h
      · exact hk _ _ _ h
      · exact h.elim
    · split at h
      · exact ⟨h.1, hk _ _ _ h.2⟩
      · exact h.elim
  | iaload => exact pop_i_mono h fun j r h => pop_r_mono h fun q r h => ite_mono h (fun h => ab_sx_mono h fun n xs h => ⟨h.1, hk _ _ _ h.2⟩) (fun h => ab_arr_mono h fun n h => ⟨h.1, hk _ _ _ h.2⟩)
  | baload => exact pop_i_mono h fun j r h => pop_r_mono h fun q r h => ab_arr_mono h fun n h => ⟨h.1, hk _ _ _ h.2⟩
  | laload => exact pop_i_mono h fun j r h => pop_r_mono h fun q r h => ab_arr_mono h fun n h => ⟨h.1, hk _ _ _ h.2⟩
  | iastore => exact pop_i_mono h fun x r h => pop_i_mono h fun j r h => pop_r_mono h fun q r h => ab_arr_mono h fun n h => ⟨h.1, hk _ _ _ h.2⟩
  | bastore => exact pop_i_mono h fun x r h => pop_i_mono h fun j r h => pop_r_mono h fun q r h => ab_arr_mono h fun n h => ⟨h.1, h.2.1, hk _ _ _ h.2.2⟩
  | lastore => exact pop_l_mono h fun x r h => pop_i_mono h fun j r h => pop_r_mono h fun q r h => ab_arr_mono h fun n h => ⟨h.1, hk _ _ _ h.2⟩
  | arraylength => exact pop_r_mono h fun q r h => ite_mono h (fun h => ab_sx_mono h fun n xs h => hk _ _ _ h) (fun h => ab_arr_mono h fun n h => hk _ _ _ h)
  | goto off => exact hJ _ _ _ _ h
  | if_icmp c off => exact pop_i_mono h fun y r h => pop_i_mono h fun x r h => ab_cmp_mono h (hJ _ _ _ _) (hk _ _ _)
  | ifCond c off => exact pop_i_mono h fun x r h => ab_cmp_mono h (hJ _ _ _ _) (hk _ _ _)
  | tableswitch df lo hi offs => exact pop_i_mono h fun x r h => ⟨fun z => hJ _ _ _ _ (h.1 z), fun z1 z2 => (h.2 z1 z2).imp fun o h => ⟨h.1, hJ _ _ _ _ h.2⟩⟩
  | lookupswitch df ps => exact pop_i_mono h fun x r h => h.imp fun o h => ⟨h.1, hJ _ _ _ _ h.2⟩
  | invokevirtual idx =>
    refine ite_mono h (fun h => ?_) id
    split at h
    · exact ab_obj_mono h fun _ h => hT _ _ _ _ _ h fun v S h => hk _ _ _ h
    · exact h.elim
  | invokestatic idx =>
    exact ite_mono h (fun h => pop_i_mono h fun y r h => pop_i_mono h fun x r h => ite_mono h (hk _ _ _) id) fun h =>
      ite_mono h (fun h => pop_i_mono h fun y r h => pop_i_mono h fun x r h => ite_mono h (hk _ _ _) id) fun h =>
      ite_mono h (fun h => pop_i_mono h fun n r h => pop_i_mono h fun dp r h => pop_r_mono h fun q1 r h => pop_i_mono h fun sp r h => pop_r_mono h fun q0 r h => ite_mono h (fun h => ab_arr_mono h fun n0 h => ab_arr_mono h fun n1 h => ⟨h.1, h.2.1, h.2.2.1, h.2.2.2.1, h.2.2.2.2.1, hk _ _ _ h.2.2.2.2.2⟩) id) fun h =>
      ite_mono h (fun h => ite_mono h (fun h => hT _ _ _ _ _ h fun v S h => hk _ _ _ h) id) id
  | ireturn =>
    refine pop_i_mono h fun x r h => ite_mono h (fun h => ?_) id
    split at h
    · exact hQ _ _ h
    · exact ⟨h.1, hQ _ _ h.2⟩
    · exact h.elim
  | return_ =>
    refine ite_mono h (fun h => ?_) id
    split at h
    · exact hQ _ _ h
    · exact h.elim
  | monitorexit => exact hJ _ _ _ _ h
  | _ => exact h.elim
theorem ab_w_mono {sc : ab_X} {sh : ab_Sh} {N : Nat} {oc : Nat → Nat} {T T' : Nat → List Value → ab_S → ab_Q → Prop} {J J' : Nat → ab_L → List Value → ab_S → Prop} {Q Q' : ab_Q} {ret : Option FieldType}
    (hT : ab_Tm T T') (hJ : ∀ pc L st S, J pc L st S → J' pc L st S) (hQ : ∀ v S, Q v S → Q' v S) : ∀ (r : List ab_I) (L : ab_L) (st : List Value) (S : ab_S), ab_w sc sh N oc T J Q ret r L st S → ab_w sc sh N oc T' J' Q' ret r L st S := by
  intro r
  induction r with
  | nil => intro L st S h; exact h
  | cons q r ih =>
    intro L st S h
    obtain ⟨pc, i, len, a, b⟩ := q
    exact ab_1_mono hT hJ hQ ih h
theorem ab_run_mono {sc : ab_X} {sh : ab_Sh} {N : Nat} {oc : Nat → Nat} {T T' : Nat → List Value → ab_S → ab_Q → Prop} {Q Q' : ab_Q} {ret : Option FieldType} {cd : List ab_I} {pc : Nat} {L : ab_L} {st : List Value} {S : ab_S}
    (hT : ab_Tm T T') (hQ : ∀ v S, Q v S → Q' v S) (h : ab_run sc sh N oc T ret cd Q pc L st S) : ab_run sc sh N oc T' ret cd Q' pc L st S := by
  intro X hX
  exact h X fun pc L L0 st S hle h => hX pc L L0 st S hle (ab_w_mono hT (fun _ _ _ _ z => z) hQ _ L0 st S h)
theorem ab_T_mono {sh : ab_Sh} {N : Nat} {pr : List ab_M} : ∀ (d d' : Nat), d ≤ d' → ab_Tm (ab_T sh N pr d) (ab_T sh N pr d') := by
  intro d
  induction d with
  | zero => intro d' _ a as S P P' h; exact h.elim
  | succ d ih =>
    intro d' hd a as S P P' h hP
    obtain ⟨e, rfl⟩ : ∃ e, d' = e + 1 := ⟨d' - 1, by omega⟩
    unfold ab_T at h ⊢
    cases hM : pr[a]? with
    | none => rw [hM] at h; exact h.elim
    | some M =>
      rw [hM] at h
      exact ⟨h.1, ab_run_mono (ih e (by omega)) hP h.2⟩
/-- a run goes on by what its next rows demand -/
theorem run_step {sc : ab_X} {sh : ab_Sh} {N : Nat} {pr : List ab_M} {d : Nat} {ret : Option FieldType} {cd : List ab_I} {Q : ab_Q} {pc : Nat} {L : ab_L} {st : List Value} {S : ab_S}
    (h : ab_w sc sh N (ab_oc pr) (ab_T sh N pr d) (ab_run sc sh N (ab_oc pr) (ab_T sh N pr d) ret cd Q) Q ret (ab_from pc cd) L st S) : ab_run sc sh N (ab_oc pr) (ab_T sh N pr d) ret cd Q pc L st S := by
  intro X hX
  exact hX pc L L st S (ab_le_rf L) (ab_w_mono (ab_T_mono d d (Nat.le_refl d)) (fun pc L st S z => z X hX) (fun _ _ z => z) _ L st S h)
theorem T_intro {sh : ab_Sh} {N : Nat} {pr : List ab_M} {d k : Nat} (M : ab_M) {as : List Value} {S : ab_S} {Q : ab_Q} (hM : pr[k]? = some M) (hl : (ab_en as).length ≤ M.2.2.2.1)
    (h : ab_run none sh N (ab_oc pr) (ab_T sh N pr d) M.2.2.2.2.1 M.2.2.2.2.2 Q 0 (ab_en as ++ List.replicate (M.2.2.2.1 - (ab_en as).length) none) [] S) : ab_T sh N pr (d + 1) k as S Q := by
  unfold ab_T
  rw [hM]
  exact ⟨hl, h⟩
end
section
/-! ===== the same machine over whole numbers: where it adds, the sum must be in range ===== -/
abbrev iz_V : Type := Int ⊕ (Nat ⊕ Int64)
abbrev iz_L : Type := List (Option iz_V)
abbrev iz_A : Type := (Nat → Nat → Int) × (Nat → Nat → Int64)
abbrev iz_Q : Type := Option iz_V → iz_A → Prop
def inR (x : Int) : Prop := -2147483648 ≤ x ∧ x < 2147483648
def iv (x : Int) : Int32 := Int32.ofInt x
theorem iv_toInt {x : Int} (h : inR x) : (iv x).toInt = x := Int32.toInt_ofInt_of_le (by have := h.1; omega) (by have := h.2; omega)
theorem iv_of (x : Int32) : iv x.toInt = x := Int32.ofInt_toInt x
theorem inR_of (x : Int32) : inR x.toInt := ⟨by have := Int32.le_toInt x; omega, by have := Int32.toInt_lt x; omega⟩
theorem iv_lt {x y : Int} (hx : inR x) (hy : inR y) : iv x < iv y ↔ x < y := by rw [Int32.lt_iff_toInt_lt, iv_toInt hx, iv_toInt hy]
theorem iv_le {x y : Int} (hx : inR x) (hy : inR y) : iv x ≤ iv y ↔ x ≤ y := by rw [Int32.le_iff_toInt_le, iv_toInt hx, iv_toInt hy]
theorem iv_eq {x y : Int} (hx : inR x) (hy : inR y) : iv x = iv y ↔ x = y := by rw [← Int32.toInt_inj, iv_toInt hx, iv_toInt hy]
theorem iv_cl {x : Int} (h : inR x) : (iv x).toNatClampNeg = x.toNat := by
  show (iv x).toInt.toNat = x.toNat
  rw [iv_toInt h]
theorem iv_in {x : Int} (h : inR x) {n : Nat} : vp_in (iv x) n ↔ 0 ≤ x ∧ x < (n : Int) := by rw [vp_in_iff, iv_toInt h]
def iz_c : iz_V → Value
  | .inl x => .int (iv x)
  | .inr (.inl q) => .ref q
  | .inr (.inr w) => .long w
def iz_cat : iz_V → Nat
  | .inr (.inr _) => 2
  | _ => 1
theorem iz_c_cat (v : iz_V) : (iz_c v).category = iz_cat v := by
  rcases v with x | q | w <;> rfl
def iz_S (A : iz_A) : ab_S := (fun q j => iv (A.1 q j), A.2)
def iz_okA (A : iz_A) : Prop := ∀ q j, inR (A.1 q j)
def iz_okV : iz_V → Prop
  | .inl x => inR x
  | _ => True
def iz_cL (L : iz_L) : ab_L := L.map (Option.map iz_c)
def iz_okL (L : iz_L) : Prop := ∀ (i : Nat) (v : iz_V), L[i]? = some (some v) → iz_okV v
def iz_okt (st : List iz_V) : Prop := ∀ v ∈ st, iz_okV v
def iz_okO (v : Option iz_V) : Prop := ∀ w, v = some w → iz_okV w
def qi (st : List iz_V) (k : Int → List iz_V → Prop) : Prop := match st with
  | .inl x :: r => k x r
  | _ => False
def ql (st : List iz_V) (k : Int64 → List iz_V → Prop) : Prop := match st with
  | .inr (.inr x) :: r => k x r
  | _ => False
def qr (st : List iz_V) (k : Nat → List iz_V → Prop) : Prop := match st with
  | .inr (.inl x) :: r => k x r
  | _ => False
theorem qi_of {st : List iz_V} {k : Int → List iz_V → Prop} (h : qi st k) : ∃ x r, st = .inl x :: r ∧ k x r := by
  unfold qi at h
  split at h
  · exact ⟨_, _, rfl, h⟩
  · exact h.elim
theorem ql_of {st : List iz_V} {k : Int64 → List iz_V → Prop} (h : ql st k) : ∃ x r, st = .inr (.inr x) :: r ∧ k x r := by
  unfold ql at h
  split at h
  · exact ⟨_, _, rfl, h⟩
  · exact h.elim
theorem qr_of {st : List iz_V} {k : Nat → List iz_V → Prop} (h : qr st k) : ∃ x r, st = .inr (.inl x) :: r ∧ k x r := by
  unfold qr at h
  split at h
  · exact ⟨_, _, rfl, h⟩
  · exact h.elim
def li (L : iz_L) (i : Nat) (k : Int → Prop) : Prop := match L[i]? with
  | some (some (.inl x)) => k x
  | _ => False
def ll (L : iz_L) (i : Nat) (k : Int64 → Prop) : Prop := match L[i]? with
  | some (some (.inr (.inr x))) => k x
  | _ => False
def lr (L : iz_L) (i : Nat) (k : Nat → Prop) : Prop := match L[i]? with
  | some (some (.inr (.inl x))) => k x
  | _ => False
theorem li_of {L : iz_L} {i : Nat} {k : Int → Prop} (h : li L i k) : ∃ x, L[i]? = some (some (.inl x)) ∧ k x := by
  unfold li at h
  split at h
  · exact ⟨_, by assumption, h⟩
  · exact h.elim
theorem ll_of {L : iz_L} {i : Nat} {k : Int64 → Prop} (h : ll L i k) : ∃ x, L[i]? = some (some (.inr (.inr x))) ∧ k x := by
  unfold ll at h
  split at h
  · exact ⟨_, by assumption, h⟩
  · exact h.elim
theorem lr_of {L : iz_L} {i : Nat} {k : Nat → Prop} (h : lr L i k) : ∃ x, L[i]? = some (some (.inr (.inl x))) ∧ k x := by
  unfold lr at h
  split at h
  · exact ⟨_, by assumption, h⟩
  · exact h.elim
/-- no long has its second half at i -/
def iz_nl (L : iz_L) (i : Nat) : Bool := match i with
  | 0 => true
  | j + 1 => match L[j]? with
    | some (some w) => iz_cat w == 1
    | _ => true
def iz_set1 (L : iz_L) (i : Nat) (v : iz_V) : iz_L := L.set i (some v)
def iz_set2 (L : iz_L) (i : Nat) (v : iz_V) : iz_L := (L.set i (some v)).set (i + 1) none
theorem iz_cL_get (L : iz_L) (i : Nat) : (iz_cL L)[i]? = L[i]?.map (Option.map iz_c) := by simp [iz_cL]
theorem iz_cL_clr {L : iz_L} {i : Nat} (hn : iz_nl L i = true) : ab_clr (iz_cL L) i = iz_cL L := by
  unfold ab_clr
  unfold iz_nl at hn
  cases i with
  | zero => rfl
  | succ j =>
    simp only [iz_cL_get]
    cases h : L[j]? with
    | none => rfl
    | some o =>
      cases o with
      | none => rfl
      | some w =>
        simp only [h, beq_iff_eq] at hn
        simp only [Option.map_some, iz_c_cat, hn]
        rfl
theorem iz_cL_set1 {L : iz_L} {i : Nat} (hn : iz_nl L i = true) (v : iz_V) : ab_set1 (iz_cL L) i (iz_c v) = iz_cL (iz_set1 L i v) := by
  unfold ab_set1 iz_set1
  rw [iz_cL_clr hn]
  simp [iz_cL, List.map_set]
theorem iz_cL_set2 {L : iz_L} {i : Nat} (hn : iz_nl L i = true) (v : iz_V) : ab_set2 (iz_cL L) i (iz_c v) = iz_cL (iz_set2 L i v) := by
  unfold ab_set2 iz_set2
  rw [iz_cL_clr hn]
  simp [iz_cL, List.map_set]
theorem iz_okL_set1 {L : iz_L} {i : Nat} {v : iz_V} (h : iz_okL L) (hv : iz_okV v) : iz_okL (iz_set1 L i v) := by
  intro j w hw
  unfold iz_set1 at hw
  rw [List.getElem?_set] at hw
  split at hw
  · split at hw
    · cases hw; exact hv
    · cases hw
  · exact h j w hw
theorem iz_okL_set2 {L : iz_L} {i : Nat} {v : iz_V} (h : iz_okL L) (hv : iz_okV v) : iz_okL (iz_set2 L i v) := by
  intro j w hw
  unfold iz_set2 at hw
  rw [List.getElem?_set] at hw
  split at hw
  · split at hw <;> cases hw
  · rw [List.getElem?_set] at hw
    split at hw
    · split at hw
      · cases hw; exact hv
      · cases hw
    · exact h j w hw
theorem iz_len1 (L : iz_L) : (iz_cL L).length = L.length := by simp [iz_cL]
/-- a place of a row is another number -/
def uz (f : Nat → Int) (j : Nat) (x : Int) : Nat → Int := fun i => if i = j then x else f i
def iz_pI (A : iz_A) (q : Nat) (f : Nat → Int) : iz_A := (fun a => if a = q then f else A.1 a, A.2)
def iz_pL (A : iz_A) (q : Nat) (f : Nat → Int64) : iz_A := (A.1, fun a => if a = q then f else A.2 a)
def iz_cmp (c : Jvm.ClassFile.Cond) (x y : Int) (A B : Prop) : Prop := match c with
  | .eq => (x = y → A) ∧ (¬ x = y → B)
  | .ne => (¬ x = y → A) ∧ (x = y → B)
  | .lt => (x < y → A) ∧ (¬ x < y → B)
  | .ge => (y ≤ x → A) ∧ (¬ y ≤ x → B)
  | .gt => (y < x → A) ∧ (¬ y < x → B)
  | .le => (x ≤ y → A) ∧ (¬ x ≤ y → B)
def iz_lcmp (x y : Int64) : Int := if x > y then 1 else if x = y then 0 else -1
def iz_num (a b : Nat) : Int := if b = 0 then (a : Int) else - (a : Int)
theorem inR_lit {x : Int} (h : decide (-32768 ≤ x ∧ x < 100000) = true) : inR x := by
  have := of_decide_eq_true h
  exact ⟨by omega, by omega⟩
def iz_1 (sc : ab_X) (sh : ab_Sh) (N : Nat) (oc : Nat → Nat) (T : Nat → List iz_V → iz_A → iz_Q → Prop) (J : Nat → iz_L → List iz_V → iz_A → Prop) (Q : iz_Q) (ret : Option FieldType) (pc : Nat) (i : Instr) (a b : Nat) (L : iz_L) (st : List iz_V) (A : iz_A) (k : iz_L → List iz_V → iz_A → Prop) : Prop := match i with
  | .iload n => li L n fun x => k L (.inl x :: st) A
  | .iload_n n => li L n fun x => k L (.inl x :: st) A
  | .lload n => ll L n fun x => k L (.inr (.inr x) :: st) A
  | .lload_n n => ll L n fun x => k L (.inr (.inr x) :: st) A
  | .aload n => lr L n fun x => k L (.inr (.inl x) :: st) A
  | .aload_n n => lr L n fun x => k L (.inr (.inl x) :: st) A
  | .istore n => qi st fun x st => if (decide (n < L.length) && iz_nl L n) = true then k (iz_set1 L n (.inl x)) st A else False
  | .istore_n n => qi st fun x st => if (decide (n < L.length) && iz_nl L n) = true then k (iz_set1 L n (.inl x)) st A else False
  | .lstore n => ql st fun x st => if (decide (n + 1 < L.length) && iz_nl L n) = true then k (iz_set2 L n (.inr (.inr x))) st A else False
  | .lstore_n n => ql st fun x st => if (decide (n + 1 < L.length) && iz_nl L n) = true then k (iz_set2 L n (.inr (.inr x))) st A else False
  | .iinc n d => li L n fun x => if (decide (n < L.length) && iz_nl L n) = true then inR (x + d) ∧ k (iz_set1 L n (.inl (x + d))) st A else False
  | .iconst n => if decide (-32768 ≤ n ∧ n < 32768) then k L (.inl n :: st) A else False
  | .bipush n => if decide (-128 ≤ n ∧ n < 128) then k L (.inl n :: st) A else False
  | .sipush n => if decide (-32768 ≤ n ∧ n < 32768) then k L (.inl n :: st) A else False
  | .lconst n => k L (.inr (.inr (Int64.ofNat n)) :: st) A
  | .ldc _ => if a < 2000000 then k L (.inl (iz_num a b) :: st) A else False
  | .ldc_w _ => if a < 2000000 then k L (.inl (iz_num a b) :: st) A else False
  | .ldc2_w _ => k L (.inr (.inr (ab_lnum a b)) :: st) A
  | .dup => (match st with
    | v :: st => if iz_cat v = 1 then k L (v :: v :: st) A else False
    | [] => False)
  | .dup2 => (match st with
    | v :: w :: st => if iz_cat v = 1 then (if iz_cat w = 1 then k L (v :: w :: v :: w :: st) A else False) else False
    | _ => False)
  | .iadd => qi st fun y st => qi st fun x st => inR (x + y) ∧ k L (.inl (x + y) :: st) A
  | .isub => qi st fun y st => qi st fun x st => inR (x - y) ∧ k L (.inl (x - y) :: st) A
  | .imul => qi st fun y st => qi st fun x st => inR (x * y) ∧ k L (.inl (x * y) :: st) A
  | .idiv => qi st fun y st => qi st fun x st => ¬ y = 0 ∧ k L (.inl (iv x / iv y).toInt :: st) A
  | .irem => qi st fun y st => qi st fun x st => ¬ y = 0 ∧ k L (.inl (iv x - iv x / iv y * iv y).toInt :: st) A
  | .iand => qi st fun y st => qi st fun x st => k L (.inl (iv x &&& iv y).toInt :: st) A
  | .ior => qi st fun y st => qi st fun x st => k L (.inl (iv x ||| iv y).toInt :: st) A
  | .ishr => qi st fun y st => qi st fun x st => k L (.inl (iv x >>> (iv y &&& 31)).toInt :: st) A
  | .iushr => qi st fun y st => qi st fun x st => k L (.inl ((iv x).toUInt32 >>> ((iv y).toUInt32 &&& Int32.toUInt32 31)).toInt32.toInt :: st) A
  | .i2l => qi st fun x st => k L (.inr (.inr (iv x).toInt64) :: st) A
  | .ladd => ql st fun y st => ql st fun x st => k L (.inr (.inr (x + y)) :: st) A
  | .lmul => ql st fun y st => ql st fun x st => k L (.inr (.inr (x * y)) :: st) A
  | .land => ql st fun y st => ql st fun x st => k L (.inr (.inr (x &&& y)) :: st) A
  | .lor => ql st fun y st => ql st fun x st => k L (.inr (.inr (x ||| y)) :: st) A
  | .lxor => ql st fun y st => ql st fun x st => k L (.inr (.inr (x ^^^ y)) :: st) A
  | .lshl => qi st fun y st => ql st fun x st => k L (.inr (.inr (x <<< ((iv y).toInt64 &&& 63))) :: st) A
  | .lshr => qi st fun y st => ql st fun x st => k L (.inr (.inr (x >>> ((iv y).toInt64 &&& 63))) :: st) A
  | .lushr => qi st fun y st => ql st fun x st => k L (.inr (.inr (x.toUInt64 >>> ((iv y).toInt64.toUInt64 &&& Int64.toUInt64 63)).toInt64) :: st) A
  | .lcmp => ql st fun y st => ql st fun x st => k L (.inl (iz_lcmp x y) :: st) A
  | .getfield _ => qr st fun q st => ab_obj sh N q a fun fl => (match fl[b]? with
    | some (some r) => k L (.inr (.inl r) :: st) A
    | some none => k L (.inl (A.1 q b) :: st) A
    | none => False)
  | .putfield _ => qi st fun x st => qr st fun q st => ab_obj sh N q a fun fl => if b < 1000
      then (match fl[b]? with
        | some none => k L st (iz_pI A q (uz (A.1 q) b x))
        | _ => False)
      else (match fl[b - 1000]? with
        | some none => (x = 0 ∨ x = 1) ∧ k L st (iz_pI A q (uz (A.1 q) (b - 1000) x))
        | _ => False)
  | .iaload => qi st fun j st => qr st fun q st => if q = ab_scr then ab_sx sc fun n xs => (0 ≤ j ∧ j < (n : Int)) ∧ k L (.inl (xs j.toNat).toInt :: st) A else ab_arr sh N q 0 fun n => (0 ≤ j ∧ j < (n : Int)) ∧ k L (.inl (A.1 q j.toNat) :: st) A
  | .baload => qi st fun j st => qr st fun q st => ab_arr sh N q 1 fun n => (0 ≤ j ∧ j < (n : Int)) ∧ k L (.inl (A.1 q j.toNat) :: st) A
  | .laload => qi st fun j st => qr st fun q st => ab_arr sh N q 2 fun n => (0 ≤ j ∧ j < (n : Int)) ∧ k L (.inr (.inr (A.2 q j.toNat)) :: st) A
  | .iastore => qi st fun x st => qi st fun j st => qr st fun q st => ab_arr sh N q 0 fun n => (0 ≤ j ∧ j < (n : Int)) ∧ k L st (iz_pI A q (uz (A.1 q) j.toNat x))
  | .bastore => qi st fun x st => qi st fun j st => qr st fun q st => ab_arr sh N q 1 fun n => (0 ≤ j ∧ j < (n : Int)) ∧ (x = 0 ∨ x = 1) ∧ k L st (iz_pI A q (uz (A.1 q) j.toNat x))
  | .lastore => ql st fun x st => qi st fun j st => qr st fun q st => ab_arr sh N q 2 fun n => (0 ≤ j ∧ j < (n : Int)) ∧ k L st (iz_pL A q (vp_updL (A.2 q) j.toNat x))
  | .arraylength => qr st fun q st => if q = ab_scr then ab_sx sc fun n _ => n < 100000 ∧ k L (.inl (n : Int) :: st) A else ab_arr sh N q a fun n => if n < 100000 then k L (.inl (n : Int) :: st) A else False
  | .goto _ => J a L st A
  | .if_icmp c _ => qi st fun y st => qi st fun x st => iz_cmp c x y (J a L st A) (k L st A)
  | .ifCond c _ => qi st fun x st => iz_cmp c x 0 (J a L st A) (k L st A)
  | .tableswitch d lo hi offs => qi st fun x st => (x < lo ∨ hi < x → J (pc + d.toNat) L st A) ∧ (¬ x < lo → ¬ hi < x → ∃ o : Nat, offs[(x - lo).toNat]? = some (o : Int) ∧ J (pc + o) L st A)
  | .lookupswitch d ps => qi st fun x st => ∃ o : Nat, Op.lookupswitch.offset ps.toList d x = (o : Int) ∧ J (pc + o) L st A
  | .invokevirtual _ => if (st.drop (b + 1)).length ≤ 4 then (match st.drop b with
    | .inr (.inl q) :: r => ab_obj sh N q (oc a) fun _ => T a (.inr (.inl q) :: (st.take b).reverse) A fun v A' => k L (v.toList ++ r) A'
    | _ => False) else False
  | .invokestatic _ => if a = 1000 then qi st fun y st => qi st fun x st => if st.length ≤ 4 then k L (.inl (if x < y then y else x) :: st) A else False
    else if a = 1001 then qi st fun y st => qi st fun x st => if st.length ≤ 4 then k L (.inl (if y < x then y else x) :: st) A else False
    else if a = 1002 then qi st fun n st => qi st fun dp st => qr st fun q1 st => qi st fun sp st => qr st fun q0 st => if st.length ≤ 4 then ab_arr sh N q0 0 fun n0 => ab_arr sh N q1 0 fun n1 => (0 ≤ sp ∧ 0 ≤ dp ∧ 0 ≤ n ∧ sp + n ≤ (n0 : Int) ∧ dp + n ≤ (n1 : Int)) ∧ k L st (iz_pI A q1 (va_cpy (A.1 q0) (A.1 q1) sp.toNat dp.toNat n.toNat)) else False
    else if b ≤ st.length then (if (st.drop b).length ≤ 4 then T a (st.take b).reverse A fun v A' => k L (v.toList ++ st.drop b) A' else False) else False
  | .ireturn => qi st fun x st => if st.length = 0 then (match ret with
    | some .int => Q (some (.inl x)) A
    | some .boolean => (x = 0 ∨ x = 1) ∧ Q (some (.inl x)) A
    | _ => False) else False
  | .return_ => if st.length = 0 then (match ret with
    | none => Q none A
    | _ => False) else False
  | .monitorexit => J pc L st A
  | _ => False
def iz_w (sc : ab_X) (sh : ab_Sh) (N : Nat) (oc : Nat → Nat) (T : Nat → List iz_V → iz_A → iz_Q → Prop) (J : Nat → iz_L → List iz_V → iz_A → Prop) (Q : iz_Q) (ret : Option FieldType) : List ab_I → iz_L → List iz_V → iz_A → Prop
  | [], _, _, _ => False
  | (pc, i, _, a, b) :: r, L, st, A => iz_1 sc sh N oc T J Q ret pc i a b L st A fun L st A => iz_w sc sh N oc T J Q ret r L st A
def iz_le (L0 L : iz_L) : Prop := L0.length = L.length ∧ ∀ (i : Nat) (v : iz_V), L0[i]? = some (some v) → L[i]? = some (some v)
theorem iz_le_rf (L : iz_L) : iz_le L L := ⟨rfl, fun _ _ h => h⟩
theorem iz_le_c {L0 L : iz_L} (h : iz_le L0 L) : ab_le (iz_cL L0) (iz_cL L) := by
  refine ⟨by rw [iz_len1, iz_len1]; exact h.1, fun i v hv => ?_⟩
  rw [iz_cL_get] at hv ⊢
  cases hi : L0[i]? with
  | none => rw [hi] at hv; cases hv
  | some o =>
    cases o with
    | none => rw [hi] at hv; cases hv
    | some w =>
      rw [hi] at hv
      rw [h.2 i w hi]
      exact hv
theorem iz_le_ok {L0 L : iz_L} (h : iz_le L0 L) (o : iz_okL L) : iz_okL L0 := fun i v hv => o i v (h.2 i v hv)
def iz_run (sc : ab_X) (sh : ab_Sh) (N : Nat) (oc : Nat → Nat) (T : Nat → List iz_V → iz_A → iz_Q → Prop) (ret : Option FieldType) (cd : List ab_I) (Q : iz_Q) (pc : Nat) (L : iz_L) (st : List iz_V) (A : iz_A) : Prop :=
  ∀ X : Nat → iz_L → List iz_V → iz_A → Prop, (∀ (pc : Nat) (L L0 : iz_L) (st : List iz_V) (A : iz_A), iz_le L0 L → iz_w sc sh N oc T X Q ret (ab_from pc cd) L0 st A → X pc L st A) → X pc L st A
def iz_en : List iz_V → iz_L
  | [] => []
  | v :: vs => if iz_cat v = 2 then some v :: none :: iz_en vs else some v :: iz_en vs
def iz_T (sh : ab_Sh) (N : Nat) (pr : List ab_M) : Nat → Nat → List iz_V → iz_A → iz_Q → Prop
  | 0, _, _, _, _ => False
  | d + 1, k, as, A, Q => match pr[k]? with
    | none => False
    | some M => (iz_en as).length ≤ M.2.2.2.1 ∧ iz_run none sh N (ab_oc pr) (iz_T sh N pr d) M.2.2.2.2.1 M.2.2.2.2.2 Q 0 (iz_en as ++ List.replicate (M.2.2.2.1 - (iz_en as).length) none) [] A
end
section
/-! ===== the machine over whole numbers is the small machine ===== -/
theorem iz_okt_cons {v : iz_V} {st : List iz_V} (hv : iz_okV v) (h : iz_okt st) : iz_okt (v :: st) := fun w hw => by
  rcases List.mem_cons.mp hw with rfl | hw
  · exact hv
  · exact h w hw
theorem iz_okt_triv {q : Nat ⊕ Int64} {st : List iz_V} (h : iz_okt st) : iz_okt (.inr q :: st) := iz_okt_cons (v := .inr q) trivial h
theorem inR_0 : inR 0 := ⟨by decide, by decide⟩
theorem inR_1 : inR 1 := ⟨by decide, by decide⟩
theorem inR_m1 : inR (-1) := ⟨by decide, by decide⟩
theorem iz_okt_tail {v : iz_V} {st : List iz_V} (h : iz_okt (v :: st)) : iz_okt st := fun w hw => h w (List.mem_cons_of_mem _ hw)
theorem iz_okt_head {v : iz_V} {st : List iz_V} (h : iz_okt (v :: st)) : iz_okV v := h v List.mem_cons_self
theorem iz_okA_pI {A : iz_A} {q : Nat} {f : Nat → Int} (h : iz_okA A) (hf : ∀ j, inR (f j)) : iz_okA (iz_pI A q f) := by
  intro a j
  simp only [iz_pI]
  split
  · exact hf j
  · exact h a j
theorem iz_okA_uz {A : iz_A} {q j : Nat} {x : Int} (h : iz_okA A) (hx : inR x) : iz_okA (iz_pI A q (uz (A.1 q) j x)) := iz_okA_pI h fun i => by
  unfold uz
  split
  · exact hx
  · exact h q i
theorem iz_S_pI (A : iz_A) (q : Nat) (f : Nat → Int) : iz_S (iz_pI A q f) = ab_pI (iz_S A) q (fun j => iv (f j)) := by
  unfold iz_S iz_pI ab_pI
  simp only [Prod.mk.injEq, and_true]
  funext a j
  split <;> rfl
theorem iz_S_uz (A : iz_A) (q j : Nat) (x : Int) : iz_S (iz_pI A q (uz (A.1 q) j x)) = ab_pI (iz_S A) q (upd ((iz_S A).1 q) j (iv x)) := by
  rw [iz_S_pI]
  congr 1
  funext i
  unfold uz upd iz_S
  split <;> rfl
theorem iz_S_pL (A : iz_A) (q : Nat) (f : Nat → Int64) : iz_S (iz_pL A q f) = ab_pL (iz_S A) q f := rfl
theorem iz_cmp_of {c : Jvm.ClassFile.Cond} {x y : Int} {A B A' B' : Prop} (hx : inR x) (hy : inR y) (h : iz_cmp c x y A B) (f : A → A') (g : B → B') : ab_cmp c (iv x) (iv y) A' B' := by
  cases c with
  | eq => exact ⟨fun z => f (h.1 ((iv_eq hx hy).mp z)), fun z => g (h.2 (fun w => z ((iv_eq hx hy).mpr w)))⟩
  | ne => exact ⟨fun z => f (h.1 (fun w => z ((iv_eq hx hy).mpr w))), fun z => g (h.2 ((iv_eq hx hy).mp z))⟩
  | lt => exact ⟨fun z => f (h.1 ((iv_lt hx hy).mp z)), fun z => g (h.2 (fun w => z ((iv_lt hx hy).mpr w)))⟩
  | ge => exact ⟨fun z => f (h.1 ((iv_le hy hx).mp z)), fun z => g (h.2 (fun w => z ((iv_le hy hx).mpr w)))⟩
  | gt => exact ⟨fun z => f (h.1 ((iv_lt hy hx).mp z)), fun z => g (h.2 (fun w => z ((iv_lt hy hx).mpr w)))⟩
  | le => exact ⟨fun z => f (h.1 ((iv_le hx hy).mp z)), fun z => g (h.2 (fun w => z ((iv_le hx hy).mpr w)))⟩
theorem ld_i_cL {L : iz_L} {i : Nat} {x : Int} {k : Int32 → Prop} (e : L[i]? = some (some (.inl x))) (h : k (iv x)) : ld_i (iz_cL L) i k := by
  unfold ld_i
  rw [iz_cL_get, e]
  exact h
theorem ld_l_cL {L : iz_L} {i : Nat} {x : Int64} {k : Int64 → Prop} (e : L[i]? = some (some (.inr (.inr x)))) (h : k x) : ld_l (iz_cL L) i k := by
  unfold ld_l
  rw [iz_cL_get, e]
  exact h
theorem ld_r_cL {L : iz_L} {i : Nat} {x : Nat} {k : Nat → Prop} (e : L[i]? = some (some (.inr (.inl x)))) (h : k x) : ld_r (iz_cL L) i k := by
  unfold ld_r
  rw [iz_cL_get, e]
  exact h
theorem iv_0 : iv 0 = 0 := by decide +kernel
theorem iv_1 : iv 1 = 1 := by decide +kernel
theorem iv_01 {x : Int} (h : x = 0 ∨ x = 1) : iv x = 0 ∨ iv x = 1 := h.imp (fun e => by rw [e]; exact iv_0) (fun e => by rw [e]; exact iv_1)
theorem iv_num {a b : Nat} : iv (iz_num a b) = ab_num a b := by
  unfold iz_num ab_num iv nI
  split
  · exact Int32.ofInt_eq_ofNat
  · rw [Int32.ofInt_neg, Int32.ofInt_eq_ofNat]
theorem iv_lcmp (x y : Int64) : iv (iz_lcmp x y) = lg_cmp x y := by
  unfold iz_lcmp lg_cmp
  split
  · decide +kernel
  · split <;> decide +kernel
theorem inR_lcmp (x y : Int64) : inR (iz_lcmp x y) := by
  unfold iz_lcmp
  split
  · exact inR_1
  · split
    · exact inR_0
    · exact inR_m1
theorem inR_num {a b : Nat} (h : a < 2000000) : inR (iz_num a b) := by
  unfold iz_num
  split <;> constructor <;> omega
theorem iv_i8 : ∀ n : Int, -128 ≤ n → n < 128 → (Int8.ofInt n).toInt32 = iv n := by
  intro n h1 h2
  apply Int32.toInt_inj.mp
  rw [iv_toInt ⟨by omega, by omega⟩, Int8.toInt_toInt32, Int8.toInt_ofInt_of_le (by omega) (by omega)]
theorem iv_i16 : ∀ n : Int, -32768 ≤ n → n < 32768 → (Int16.ofInt n).toInt32 = iv n := by
  intro n h1 h2
  apply Int32.toInt_inj.mp
  rw [iv_toInt ⟨by omega, by omega⟩, Int16.toInt_toInt32, Int16.toInt_ofInt_of_le (by omega) (by omega)]
theorem iv_ofNat (n : Nat) : Int32.ofNat n = iv (n : Int) := Int32.ofInt_eq_ofNat.symm
theorem iz_toList (v : Option iz_V) (r : List iz_V) : (v.toList ++ r).map iz_c = (v.map iz_c).toList ++ r.map iz_c := by
  cases v <;> rfl
theorem iz_okt_app {v : Option iz_V} {r : List iz_V} (hv : iz_okO v) (h : iz_okt r) : iz_okt (v.toList ++ r) := by
  cases v with
  | none => exact h
  | some w => exact iz_okt_cons (hv w rfl) h
theorem iz_okt_drop {st : List iz_V} (n : Nat) (h : iz_okt st) : iz_okt (st.drop n) := fun v hv => h v (List.mem_of_mem_drop hv)
theorem iz_okt_take {st : List iz_V} (n : Nat) (h : iz_okt st) : iz_okt ((st.take n).reverse) := fun v hv => h v (List.mem_of_mem_take (List.mem_reverse.mp hv))
set_option maxHeartbeats 4000000 in
theorem iz_1_sound {sc : ab_X} {sh : ab_Sh} {N : Nat} {oc : Nat → Nat} {T : Nat → List Value → ab_S → ab_Q → Prop} {TI : Nat → List iz_V → iz_A → iz_Q → Prop} {J : Nat → ab_L → List Value → ab_S → Prop} {JI : Nat → iz_L → List iz_V → iz_A → Prop} {Q : ab_Q} {QI : iz_Q} {ret : Option FieldType} {pc : Nat} {i : Instr} {a b : Nat} {L : iz_L} {st : List iz_V} {A : iz_A} {k : ab_L → List Value → ab_S → Prop} {kI : iz_L → List iz_V → iz_A → Prop}
    (hT : ∀ (a : Nat) (as : List iz_V) (A : iz_A) (P : iz_Q) (P' : ab_Q), TI a as A P → iz_okt as → iz_okA A → (∀ v A', iz_okO v → iz_okA A' → P v A' → P' (v.map iz_c) (iz_S A')) → T a (as.map iz_c) (iz_S A) P')
    (hJ : ∀ pc L st A, iz_okL L → iz_okt st → iz_okA A → JI pc L st A → J pc (iz_cL L) (st.map iz_c) (iz_S A))
    (hQ : ∀ v A, iz_okO v → iz_okA A → QI v A → Q (v.map iz_c) (iz_S A))
    (hk : ∀ L st A, iz_okL L → iz_okt st → iz_okA A → kI L st A → k (iz_cL L) (st.map iz_c) (iz_S A))
    (oL : iz_okL L) (ot : iz_okt st) (oA : iz_okA A) (h : iz_1 sc sh N oc TI JI QI ret pc i a b L st A kI) : ab_1 sc sh N oc T J Q ret pc i a b (iz_cL L) (st.map iz_c) (iz_S A) k := by
  cases i with
  | iload n =>
    obtain ⟨x, e, h2⟩ := li_of h
    exact ld_i_cL e (hk _ _ _ oL (iz_okt_cons (oL _ _ e) ot) oA h2)
  | iload_n n =>
    obtain ⟨x, e, h2⟩ := li_of h
    exact ld_i_cL e (hk _ _ _ oL (iz_okt_cons (oL _ _ e) ot) oA h2)
  | lload n =>
    obtain ⟨x, e, h2⟩ := ll_of h
    exact ld_l_cL e (hk _ _ _ oL (iz_okt_cons (oL _ _ e) ot) oA h2)
  | lload_n n =>
    obtain ⟨x, e, h2⟩ := ll_of h
    exact ld_l_cL e (hk _ _ _ oL (iz_okt_cons (oL _ _ e) ot) oA h2)
  | aload n =>
    obtain ⟨x, e, h2⟩ := lr_of h
    exact ld_r_cL e (hk _ _ _ oL (iz_okt_cons (oL _ _ e) ot) oA h2)
  | aload_n n =>
    obtain ⟨x, e, h2⟩ := lr_of h
    exact ld_r_cL e (hk _ _ _ oL (iz_okt_cons (oL _ _ e) ot) oA h2)
  | istore n =>
    obtain ⟨x, r, rfl, h2⟩ := qi_of h
    obtain ⟨hn, h3⟩ := ab_if h2
    rw [Bool.and_eq_true, decide_eq_true_eq] at hn
    obtain ⟨hn, hnl⟩ := hn
    show if _ then _ else _
    rw [iz_len1, if_pos hn]
    have := hk _ _ _ (iz_okL_set1 (i := n) oL (iz_okt_head ot)) (iz_okt_tail ot) oA h3
    rw [← iz_cL_set1 hnl] at this
    exact this
  | istore_n n =>
    obtain ⟨x, r, rfl, h2⟩ := qi_of h
    obtain ⟨hn, h3⟩ := ab_if h2
    rw [Bool.and_eq_true, decide_eq_true_eq] at hn
    obtain ⟨hn, hnl⟩ := hn
    show if _ then _ else _
    rw [iz_len1, if_pos hn]
    have := hk _ _ _ (iz_okL_set1 (i := n) oL (iz_okt_head ot)) (iz_okt_tail ot) oA h3
    rw [← iz_cL_set1 hnl] at this
    exact this
  | lstore n =>
    obtain ⟨x, r, rfl, h2⟩ := ql_of h
    obtain ⟨hn, h3⟩ := ab_if h2
    rw [Bool.and_eq_true, decide_eq_true_eq] at hn
    obtain ⟨hn, hnl⟩ := hn
    show if _ then _ else _
    rw [iz_len1, if_pos hn]
    have := hk _ _ _ (iz_okL_set2 (i := n) oL (iz_okt_head ot)) (iz_okt_tail ot) oA h3
    rw [← iz_cL_set2 hnl] at this
    exact this
  | lstore_n n =>
    obtain ⟨x, r, rfl, h2⟩ := ql_of h
    obtain ⟨hn, h3⟩ := ab_if h2
    rw [Bool.and_eq_true, decide_eq_true_eq] at hn
    obtain ⟨hn, hnl⟩ := hn
    show if _ then _ else _
    rw [iz_len1, if_pos hn]
    have := hk _ _ _ (iz_okL_set2 (i := n) oL (iz_okt_head ot)) (iz_okt_tail ot) oA h3
    rw [← iz_cL_set2 hnl] at this
    exact this
  | iinc n w =>
    obtain ⟨x, e, h2⟩ := li_of h
    obtain ⟨hn, h3, h4⟩ := ab_if h2
    rw [Bool.and_eq_true, decide_eq_true_eq] at hn
    obtain ⟨hn, hnl⟩ := hn
    refine ld_i_cL e ?_
    rw [iz_len1, if_pos hn]
    have := hk _ _ _ (iz_okL_set1 (i := n) (v := .inl (x + w)) oL h3) ot oA h4
    rw [← iz_cL_set1 hnl] at this
    have e2 : iz_c (.inl (x + w)) = .int (iv x + Int32.ofInt w) := congrArg Value.int (Int32.ofInt_add ..)
    rw [e2] at this
    exact this
  | iconst n =>
    obtain ⟨hn, h2⟩ := ab_if h
    have hn := of_decide_eq_true hn
    exact hk _ _ _ oL (iz_okt_cons (v := .inl n) (show inR n from ⟨by omega, by omega⟩) ot) oA h2
  | bipush n =>
    obtain ⟨hn, h2⟩ := ab_if h
    have hn := of_decide_eq_true hn
    show k _ (.int (Int8.ofInt n).toInt32 :: _) _
    rw [iv_i8 n hn.1 hn.2]
    exact hk _ _ _ oL (iz_okt_cons (v := .inl n) (show inR n from ⟨by omega, by omega⟩) ot) oA h2
  | sipush n =>
    obtain ⟨hn, h2⟩ := ab_if h
    have hn := of_decide_eq_true hn
    show k _ (.int (Int16.ofInt n).toInt32 :: _) _
    rw [iv_i16 n hn.1 hn.2]
    exact hk _ _ _ oL (iz_okt_cons (v := .inl n) (show inR n from ⟨by omega, by omega⟩) ot) oA h2
  | lconst n => exact hk _ _ _ oL (iz_okt_triv ot) oA h
  | ldc n =>
    obtain ⟨hn, h2⟩ := ab_if h
    show k _ (.int (ab_num a b) :: _) _
    rw [← iv_num]
    exact hk _ _ _ oL (iz_okt_cons (v := .inl (iz_num a b)) (inR_num hn) ot) oA h2
  | ldc_w n =>
    obtain ⟨hn, h2⟩ := ab_if h
    show k _ (.int (ab_num a b) :: _) _
    rw [← iv_num]
    exact hk _ _ _ oL (iz_okt_cons (v := .inl (iz_num a b)) (inR_num hn) ot) oA h2
  | ldc2_w n => exact hk _ _ _ oL (iz_okt_triv ot) oA h
  | dup =>
    match st, ot, h with
    | v :: r, ot, h =>
      obtain ⟨h1, h2⟩ := ab_if h
      show if (iz_c v).category = 1 then _ else _
      rw [iz_c_cat, if_pos h1]
      exact hk _ _ _ oL (iz_okt_cons (iz_okt_head ot) ot) oA h2
    | [], ot, h => exact h.elim
  | dup2 =>
    match st, ot, h with
    | v :: w :: r, ot, h =>
      obtain ⟨h1, h2⟩ := ab_if h
      obtain ⟨h3, h4⟩ := ab_if h2
      show if (iz_c v).category = 1 then (if (iz_c w).category = 1 then _ else _) else _
      rw [iz_c_cat, if_pos h1, iz_c_cat, if_pos h3]
      exact hk _ _ _ oL (iz_okt_cons (iz_okt_head ot) (iz_okt_cons (iz_okt_head (iz_okt_tail ot)) ot)) oA h4
    | [_], ot, h => exact h.elim
    | [], ot, h => exact h.elim
  | iadd =>
    obtain ⟨y, r1, e1, h1⟩ := qi_of h
    obtain ⟨x, r2, e2, h2, h3⟩ := qi_of h1
    subst e2; subst e1
    show k _ (.int (iv x + iv y) :: _) _
    rw [show iv x + iv y = iv (x + y) from (Int32.ofInt_add ..).symm]
    exact hk _ _ _ oL (iz_okt_cons (v := .inl (x + y)) h2 (iz_okt_tail (iz_okt_tail ot))) oA h3
  | isub =>
    obtain ⟨y, r1, e1, h1⟩ := qi_of h
    obtain ⟨x, r2, e2, h2, h3⟩ := qi_of h1
    subst e2; subst e1
    show k _ (.int (iv x - iv y) :: _) _
    rw [show iv x - iv y = iv (x - y) from (Int32.ofInt_sub ..).symm]
    exact hk _ _ _ oL (iz_okt_cons (v := .inl (x - y)) h2 (iz_okt_tail (iz_okt_tail ot))) oA h3
  | imul =>
    obtain ⟨y, r1, e1, h1⟩ := qi_of h
    obtain ⟨x, r2, e2, h2, h3⟩ := qi_of h1
    subst e2; subst e1
    show k _ (.int (iv x * iv y) :: _) _
    rw [show iv x * iv y = iv (x * y) from (Int32.ofInt_mul ..).symm]
    exact hk _ _ _ oL (iz_okt_cons (v := .inl (x * y)) h2 (iz_okt_tail (iz_okt_tail ot))) oA h3
  | idiv =>
    obtain ⟨y, r1, e1, h1⟩ := qi_of h
    obtain ⟨x, r2, e2, h2, h3⟩ := qi_of h1
    subst e2; subst e1
    have hy : inR y := iz_okt_head ot
    refine ⟨fun z => h2 ((iv_eq hy inR_0).mp (z.trans iv_0.symm)), ?_⟩
    have := hk _ _ _ oL (iz_okt_cons (v := .inl (iv x / iv y).toInt) (inR_of _) (iz_okt_tail (iz_okt_tail ot))) oA h3
    rw [List.map_cons, show iz_c (.inl (iv x / iv y).toInt) = .int (iv x / iv y) from congrArg Value.int (iv_of _)] at this
    exact this
  | irem =>
    obtain ⟨y, r1, e1, h1⟩ := qi_of h
    obtain ⟨x, r2, e2, h2, h3⟩ := qi_of h1
    subst e2; subst e1
    have hy : inR y := iz_okt_head ot
    refine ⟨fun z => h2 ((iv_eq hy inR_0).mp (z.trans iv_0.symm)), ?_⟩
    have := hk _ _ _ oL (iz_okt_cons (v := .inl (iv x - iv x / iv y * iv y).toInt) (inR_of _) (iz_okt_tail (iz_okt_tail ot))) oA h3
    rw [List.map_cons, show iz_c (.inl (iv x - iv x / iv y * iv y).toInt) = .int (iv x - iv x / iv y * iv y) from congrArg Value.int (iv_of _)] at this
    exact this
  | iand =>
    obtain ⟨y, r1, e1, h1⟩ := qi_of h
    obtain ⟨x, r2, e2, h2⟩ := qi_of h1
    subst e2; subst e1
    have := hk _ _ _ oL (iz_okt_cons (v := .inl (iv x &&& iv y).toInt) (inR_of _) (iz_okt_tail (iz_okt_tail ot))) oA h2
    rw [List.map_cons, show iz_c (.inl (iv x &&& iv y).toInt) = .int (iv x &&& iv y) from congrArg Value.int (iv_of _)] at this
    exact this
  | ior =>
    obtain ⟨y, r1, e1, h1⟩ := qi_of h
    obtain ⟨x, r2, e2, h2⟩ := qi_of h1
    subst e2; subst e1
    have := hk _ _ _ oL (iz_okt_cons (v := .inl (iv x ||| iv y).toInt) (inR_of _) (iz_okt_tail (iz_okt_tail ot))) oA h2
    rw [List.map_cons, show iz_c (.inl (iv x ||| iv y).toInt) = .int (iv x ||| iv y) from congrArg Value.int (iv_of _)] at this
    exact this
  | ishr =>
    obtain ⟨y, r1, e1, h1⟩ := qi_of h
    obtain ⟨x, r2, e2, h2⟩ := qi_of h1
    subst e2; subst e1
    have := hk _ _ _ oL (iz_okt_cons (v := .inl (iv x >>> (iv y &&& 31)).toInt) (inR_of _) (iz_okt_tail (iz_okt_tail ot))) oA h2
    rw [List.map_cons, show iz_c (.inl (iv x >>> (iv y &&& 31)).toInt) = .int (iv x >>> (iv y &&& 31)) from congrArg Value.int (iv_of _)] at this
    exact this
  | iushr =>
    obtain ⟨y, r1, e1, h1⟩ := qi_of h
    obtain ⟨x, r2, e2, h2⟩ := qi_of h1
    subst e2; subst e1
    have := hk _ _ _ oL (iz_okt_cons (v := .inl ((iv x).toUInt32 >>> ((iv y).toUInt32 &&& Int32.toUInt32 31)).toInt32.toInt) (inR_of _) (iz_okt_tail (iz_okt_tail ot))) oA h2
    rw [List.map_cons, show iz_c (.inl ((iv x).toUInt32 >>> ((iv y).toUInt32 &&& Int32.toUInt32 31)).toInt32.toInt) = .int ((iv x).toUInt32 >>> ((iv y).toUInt32 &&& Int32.toUInt32 31)).toInt32 from congrArg Value.int (iv_of _)] at this
    exact this
  | i2l =>
    obtain ⟨x, r1, e1, h1⟩ := qi_of h
    subst e1
    exact hk _ _ _ oL (iz_okt_triv (iz_okt_tail ot)) oA h1
  | ladd =>
    obtain ⟨y, r1, e1, h1⟩ := ql_of h
    obtain ⟨x, r2, e2, h2⟩ := ql_of h1
    subst e2; subst e1
    exact hk _ _ _ oL (iz_okt_triv (iz_okt_tail (iz_okt_tail ot))) oA h2
  | lmul =>
    obtain ⟨y, r1, e1, h1⟩ := ql_of h
    obtain ⟨x, r2, e2, h2⟩ := ql_of h1
    subst e2; subst e1
    exact hk _ _ _ oL (iz_okt_triv (iz_okt_tail (iz_okt_tail ot))) oA h2
  | land =>
    obtain ⟨y, r1, e1, h1⟩ := ql_of h
    obtain ⟨x, r2, e2, h2⟩ := ql_of h1
    subst e2; subst e1
    exact hk _ _ _ oL (iz_okt_triv (iz_okt_tail (iz_okt_tail ot))) oA h2
  | lor =>
    obtain ⟨y, r1, e1, h1⟩ := ql_of h
    obtain ⟨x, r2, e2, h2⟩ := ql_of h1
    subst e2; subst e1
    exact hk _ _ _ oL (iz_okt_triv (iz_okt_tail (iz_okt_tail ot))) oA h2
  | lxor =>
    obtain ⟨y, r1, e1, h1⟩ := ql_of h
    obtain ⟨x, r2, e2, h2⟩ := ql_of h1
    subst e2; subst e1
    exact hk _ _ _ oL (iz_okt_triv (iz_okt_tail (iz_okt_tail ot))) oA h2
  | lshl =>
    obtain ⟨y, r1, e1, h1⟩ := qi_of h
    obtain ⟨x, r2, e2, h2⟩ := ql_of h1
    subst e2; subst e1
    exact hk _ _ _ oL (iz_okt_triv (iz_okt_tail (iz_okt_tail ot))) oA h2
  | lshr =>
    obtain ⟨y, r1, e1, h1⟩ := qi_of h
    obtain ⟨x, r2, e2, h2⟩ := ql_of h1
    subst e2; subst e1
    exact hk _ _ _ oL (iz_okt_triv (iz_okt_tail (iz_okt_tail ot))) oA h2
  | lushr =>
    obtain ⟨y, r1, e1, h1⟩ := qi_of h
    obtain ⟨x, r2, e2, h2⟩ := ql_of h1
    subst e2; subst e1
    exact hk _ _ _ oL (iz_okt_triv (iz_okt_tail (iz_okt_tail ot))) oA h2
  | lcmp =>
    obtain ⟨y, r1, e1, h1⟩ := ql_of h
    obtain ⟨x, r2, e2, h2⟩ := ql_of h1
    subst e2; subst e1
    show k _ (.int (lg_cmp x y) :: _) _
    rw [← iv_lcmp]
    exact hk _ _ _ oL (iz_okt_cons (v := .inl (iz_lcmp x y)) (inR_lcmp x y) (iz_okt_tail (iz_okt_tail ot))) oA h2
  | getfield idx =>
    obtain ⟨q, r, rfl, h2⟩ := qr_of h
    refine ab_obj_mono h2 fun fl h => ?_
    cases he : fl[b]? with
    | none => rw [he] at h; exact h.elim
    | some o =>
      cases o with
      | some r' => rw [he] at h; exact hk _ _ _ oL (iz_okt_triv (iz_okt_tail ot)) oA h
      | none => rw [he] at h; exact hk _ _ _ oL (iz_okt_cons (v := .inl (A.1 q b)) (oA q b) (iz_okt_tail ot)) oA h
  | putfield idx =>
    obtain ⟨x, r1, e1, h1⟩ := qi_of h
    obtain ⟨q, r2, e2, h2⟩ := qr_of h1
    subst e2; subst e1
    have hx : inR x := iz_okt_head ot
    refine ab_obj_mono h2 fun fl h => ite_mono h (fun h => ?_) (fun h => ?_)
    · cases he : fl[b]? with
      | none => rw [he] at h; exact h.elim
      | some o =>
        cases o with
        | some r => rw [he] at h; exact h.elim
        | none =>
          rw [he] at h
          have := hk _ _ _ oL (iz_okt_tail (iz_okt_tail ot)) (iz_okA_uz oA hx) h
          rw [iz_S_uz] at this
          exact this
    · cases he : fl[b - 1000]? with
      | none => rw [he] at h; exact h.elim
      | some o =>
        cases o with
        | some r => rw [he] at h; exact h.elim
        | none =>
          rw [he] at h
          have := hk _ _ _ oL (iz_okt_tail (iz_okt_tail ot)) (iz_okA_uz oA hx) h.2
          rw [iz_S_uz] at this
          exact ⟨iv_01 h.1, this⟩
  | iaload =>
    obtain ⟨j, r1, e1, h1⟩ := qi_of h
    obtain ⟨q, r2, e2, h2⟩ := qr_of h1
    subst e2; subst e1
    have hj : inR j := iz_okt_head ot
    refine ite_mono h2 (fun h => ab_sx_mono h fun n xs h => ⟨(iv_in hj).mpr h.1, ?_⟩) (fun h => ab_arr_mono h fun n h => ⟨(iv_in hj).mpr h.1, ?_⟩)
    · have := hk _ _ _ oL (iz_okt_cons (v := .inl (xs j.toNat).toInt) (inR_of _) (iz_okt_tail (iz_okt_tail ot))) oA h.2
      rw [List.map_cons, show iz_c (.inl (xs j.toNat).toInt) = .int (xs (iv j).toNatClampNeg) from by rw [iv_cl hj]; exact congrArg Value.int (iv_of _)] at this
      exact this
    · rw [iv_cl hj]
      exact hk _ _ _ oL (iz_okt_cons (v := .inl (A.1 q j.toNat)) (oA q j.toNat) (iz_okt_tail (iz_okt_tail ot))) oA h.2
  | baload =>
    obtain ⟨j, r1, e1, h1⟩ := qi_of h
    obtain ⟨q, r2, e2, h2⟩ := qr_of h1
    subst e2; subst e1
    have hj : inR j := iz_okt_head ot
    refine ab_arr_mono h2 fun n h => ⟨(iv_in hj).mpr h.1, ?_⟩
    rw [iv_cl hj]
    exact hk _ _ _ oL (iz_okt_cons (v := .inl (A.1 q j.toNat)) (oA q j.toNat) (iz_okt_tail (iz_okt_tail ot))) oA h.2
  | laload =>
    obtain ⟨j, r1, e1, h1⟩ := qi_of h
    obtain ⟨q, r2, e2, h2⟩ := qr_of h1
    subst e2; subst e1
    have hj : inR j := iz_okt_head ot
    refine ab_arr_mono h2 fun n h => ⟨(iv_in hj).mpr h.1, ?_⟩
    rw [iv_cl hj]
    exact hk _ _ _ oL (iz_okt_triv (iz_okt_tail (iz_okt_tail ot))) oA h.2
  | iastore =>
    obtain ⟨x, r0, e0, h0⟩ := qi_of h
    obtain ⟨j, r1, e1, h1⟩ := qi_of h0
    obtain ⟨q, r2, e2, h2⟩ := qr_of h1
    subst e2; subst e1; subst e0
    have hx : inR x := iz_okt_head ot
    have hj : inR j := iz_okt_head (iz_okt_tail ot)
    refine ab_arr_mono h2 fun n h => ⟨(iv_in hj).mpr h.1, ?_⟩
    have := hk _ _ _ oL (iz_okt_tail (iz_okt_tail (iz_okt_tail ot))) (iz_okA_uz oA hx) h.2
    rw [iz_S_uz, ← iv_cl hj] at this
    exact this
  | bastore =>
    obtain ⟨x, r0, e0, h0⟩ := qi_of h
    obtain ⟨j, r1, e1, h1⟩ := qi_of h0
    obtain ⟨q, r2, e2, h2⟩ := qr_of h1
    subst e2; subst e1; subst e0
    have hx : inR x := iz_okt_head ot
    have hj : inR j := iz_okt_head (iz_okt_tail ot)
    refine ab_arr_mono h2 fun n h => ⟨(iv_in hj).mpr h.1, iv_01 h.2.1, ?_⟩
    have := hk _ _ _ oL (iz_okt_tail (iz_okt_tail (iz_okt_tail ot))) (iz_okA_uz oA hx) h.2.2
    rw [iz_S_uz, ← iv_cl hj] at this
    exact this
  | lastore =>
    obtain ⟨x, r0, e0, h0⟩ := ql_of h
    obtain ⟨j, r1, e1, h1⟩ := qi_of h0
    obtain ⟨q, r2, e2, h2⟩ := qr_of h1
    subst e2; subst e1; subst e0
    have hj : inR j := iz_okt_head (iz_okt_tail ot)
    refine ab_arr_mono h2 fun n h => ⟨(iv_in hj).mpr h.1, ?_⟩
    have := hk _ _ _ oL (iz_okt_tail (iz_okt_tail (iz_okt_tail ot))) (show iz_okA (iz_pL A q (vp_updL (A.2 q) j.toNat x)) from oA) h.2
    rw [iz_S_pL, ← iv_cl hj] at this
    exact this
  | arraylength =>
    obtain ⟨q, r2, e2, h2⟩ := qr_of h
    subst e2
    refine ite_mono h2 (fun h => ab_sx_mono h fun n xs h => ?_) (fun h => ab_arr_mono h fun n h => ?_)
    · have hn : inR (n : Int) := ⟨by omega, by have := h.1; omega⟩
      have := hk _ _ _ oL (iz_okt_cons (v := .inl (n : Int)) hn (iz_okt_tail ot)) oA h.2
      rw [List.map_cons, show iz_c (.inl (n : Int)) = .int (nI n) from congrArg Value.int (iv_ofNat n).symm] at this
      exact this
    · obtain ⟨h3, h4⟩ := ab_if h
      have hn : inR (n : Int) := ⟨by omega, by omega⟩
      rw [iv_ofNat]
      exact hk _ _ _ oL (iz_okt_cons (v := .inl (n : Int)) hn (iz_okt_tail ot)) oA h4
  | goto off => exact hJ _ _ _ _ oL ot oA h
  | if_icmp c off =>
    obtain ⟨y, r1, e1, h1⟩ := qi_of h
    obtain ⟨x, r2, e2, h2⟩ := qi_of h1
    subst e2; subst e1
    have o2 := iz_okt_tail (iz_okt_tail ot)
    exact iz_cmp_of (x := x) (y := y) (iz_okt_head (iz_okt_tail ot)) (iz_okt_head ot) h2 (hJ _ _ _ _ oL o2 oA) (hk _ _ _ oL o2 oA)
  | ifCond c off =>
    obtain ⟨x, r1, e1, h1⟩ := qi_of h
    subst e1
    have o2 := iz_okt_tail ot
    have := iz_cmp_of (x := x) (y := 0) (iz_okt_head ot) inR_0 h1 (hJ _ _ _ _ oL o2 oA) (hk _ _ _ oL o2 oA)
    rw [iv_0] at this
    exact this
  | tableswitch df lo hi offs =>
    obtain ⟨x, r1, e1, h1⟩ := qi_of h
    subst e1
    have hx : inR x := iz_okt_head ot
    have o2 := iz_okt_tail ot
    show ((iv x).toInt < lo ∨ hi < (iv x).toInt → _) ∧ (¬ (iv x).toInt < lo → ¬ hi < (iv x).toInt → ∃ o : Nat, offs[((iv x).toInt - lo).toNat]? = some (o : Int) ∧ _)
    rw [iv_toInt hx]
    exact ⟨fun z => hJ _ _ _ _ oL o2 oA (h1.1 z), fun z1 z2 => (h1.2 z1 z2).imp fun o h => ⟨h.1, hJ _ _ _ _ oL o2 oA h.2⟩⟩
  | lookupswitch df ps =>
    obtain ⟨x, r1, e1, h1⟩ := qi_of h
    subst e1
    have hx : inR x := iz_okt_head ot
    show ∃ o : Nat, Op.lookupswitch.offset ps.toList df (iv x).toInt = (o : Int) ∧ _
    rw [iv_toInt hx]
    exact h1.imp fun o h => ⟨h.1, hJ _ _ _ _ oL (iz_okt_tail ot) oA h.2⟩
  | invokevirtual idx =>
    obtain ⟨h4, h1⟩ := ab_if h
    show if ((st.map iz_c).drop (b + 1)).length ≤ 4 then _ else _
    rw [← List.map_drop, List.length_map, if_pos h4]
    split at h1
    · rename_i q r e1
      have e2 : (st.map iz_c).drop b = .ref q :: r.map iz_c := by rw [← List.map_drop, e1]; rfl
      have or : iz_okt r := iz_okt_tail (e1 ▸ iz_okt_drop b ot)
      rw [e2]
      refine ab_obj_mono h1 fun _ h => ?_
      have := hT _ _ _ _ (fun v S' => k (iz_cL L) (v.toList ++ r.map iz_c) S') h (iz_okt_triv (iz_okt_take b ot)) oA (fun v A' ov oA' hp => by
        have := hk _ _ _ oL (iz_okt_app ov or) oA' hp
        rw [iz_toList] at this
        exact this)
      rw [List.map_cons, List.map_reverse, List.map_take] at this
      exact this
    · exact h1.elim
  | invokestatic idx =>
    refine ite_mono h (fun h => ?_) fun h => ite_mono h (fun h => ?_) fun h => ite_mono h (fun h => ?_) fun h => ?_
    · obtain ⟨y, r1, e1, h1⟩ := qi_of h
      obtain ⟨x, r2, e2, h2⟩ := qi_of h1
      subst e2; subst e1
      obtain ⟨h3, h4⟩ := ab_if h2
      have hy : inR y := iz_okt_head ot
      have hx : inR x := iz_okt_head (iz_okt_tail ot)
      show if (r2.map iz_c).length ≤ 4 then k _ (.int (if iv x < iv y then iv y else iv x) :: _) _ else _
      rw [List.length_map, if_pos h3]
      have := hk _ _ _ oL (iz_okt_cons (v := .inl (if x < y then y else x)) (show inR (if x < y then y else x) by split <;> assumption) (iz_okt_tail (iz_okt_tail ot))) oA h4
      rw [List.map_cons, show iz_c (.inl (if x < y then y else x)) = .int (if iv x < iv y then iv y else iv x) from by
        simp only [iv_lt hx hy]
        split <;> rfl] at this
      exact this
    · obtain ⟨y, r1, e1, h1⟩ := qi_of h
      obtain ⟨x, r2, e2, h2⟩ := qi_of h1
      subst e2; subst e1
      obtain ⟨h3, h4⟩ := ab_if h2
      have hy : inR y := iz_okt_head ot
      have hx : inR x := iz_okt_head (iz_okt_tail ot)
      show if (r2.map iz_c).length ≤ 4 then k _ (.int (if iv y < iv x then iv y else iv x) :: _) _ else _
      rw [List.length_map, if_pos h3]
      have := hk _ _ _ oL (iz_okt_cons (v := .inl (if y < x then y else x)) (show inR (if y < x then y else x) by split <;> assumption) (iz_okt_tail (iz_okt_tail ot))) oA h4
      rw [List.map_cons, show iz_c (.inl (if y < x then y else x)) = .int (if iv y < iv x then iv y else iv x) from by
        simp only [iv_lt hy hx]
        split <;> rfl] at this
      exact this
    · obtain ⟨n, r1, e1, g1⟩ := qi_of h
      obtain ⟨dp, r2, e2, g2⟩ := qi_of g1
      obtain ⟨q1, r3, e3, g3⟩ := qr_of g2
      obtain ⟨sp, r4, e4, g4⟩ := qi_of g3
      obtain ⟨q0, r, e5, g5⟩ := qr_of g4
      subst e5; subst e4; subst e3; subst e2; subst e1
      obtain ⟨h3, h4⟩ := ab_if g5
      have hn : inR n := iz_okt_head ot
      have hdp : inR dp := iz_okt_head (iz_okt_tail ot)
      have hsp : inR sp := iz_okt_head (iz_okt_tail (iz_okt_tail (iz_okt_tail ot)))
      have o2 := iz_okt_tail (iz_okt_tail (iz_okt_tail (iz_okt_tail (iz_okt_tail ot))))
      show if (r.map iz_c).length ≤ 4 then _ else _
      rw [List.length_map, if_pos h3]
      refine ab_arr_mono h4 fun n0 h => ab_arr_mono h fun n1 h => ?_
      obtain ⟨⟨c1, c2, c3, c4, c5⟩, h⟩ := h
      rw [iv_cl hsp, iv_cl hdp, iv_cl hn]
      have hneg : ∀ {z : Int}, inR z → 0 ≤ z → ¬ iv z < 0 := fun {z} hz h0 w => by
        rw [← iv_0, iv_lt hz inR_0] at w
        omega
      refine ⟨hneg hsp c1, hneg hdp c2, hneg hn c3, by omega, by omega, ?_⟩
      have := hk _ _ _ oL o2 (iz_okA_pI (f := va_cpy (A.1 q0) (A.1 q1) sp.toNat dp.toNat n.toNat) oA (fun j => by
        unfold va_cpy
        split
        · exact oA _ _
        · exact oA _ _)) h
      rw [iz_S_pI, show (fun j => iv (va_cpy (A.1 q0) (A.1 q1) sp.toNat dp.toNat n.toNat j)) = va_cpy ((iz_S A).1 q0) ((iz_S A).1 q1) sp.toNat dp.toNat n.toNat from by
        funext j
        unfold va_cpy iz_S
        split <;> rfl] at this
      exact this
    · obtain ⟨h3, h4⟩ := ab_if h
      obtain ⟨h5, h6⟩ := ab_if h4
      show if b ≤ (st.map iz_c).length then (if ((st.map iz_c).drop b).length ≤ 4 then _ else _) else _
      rw [List.length_map, if_pos h3, ← List.map_drop, List.length_map, if_pos h5]
      have := hT _ _ _ _ (fun v S' => k (iz_cL L) (v.toList ++ (st.drop b).map iz_c) S') h6 (iz_okt_take b ot) oA (fun v A' ov oA' hp => by
        have := hk _ _ _ oL (iz_okt_app ov (iz_okt_drop b ot)) oA' hp
        rw [iz_toList] at this
        exact this)
      rw [List.map_reverse, List.map_take] at this
      exact this
  | ireturn =>
    obtain ⟨x, r1, e1, h1⟩ := qi_of h
    subst e1
    obtain ⟨h3, h4⟩ := ab_if h1
    show if (r1.map iz_c).length = 0 then _ else _
    rw [List.length_map, if_pos h3]
    have ov : iz_okO (some (.inl x)) := fun w e => by cases e; exact iz_okt_head ot
    split at h4
    · exact hQ _ _ ov oA h4
    · exact ⟨iv_01 h4.1, hQ _ _ ov oA h4.2⟩
    · exact h4.elim
  | return_ =>
    obtain ⟨h3, h4⟩ := ab_if h
    show if (st.map iz_c).length = 0 then _ else _
    rw [List.length_map, if_pos h3]
    have ov : iz_okO none := fun w e => by cases e
    split at h4
    · exact hQ _ _ ov oA h4
    · exact h4.elim
  | monitorexit => exact hJ _ _ _ _ oL ot oA h
  | _ => exact h.elim
theorem iz_run_sound {sc : ab_X} {sh : ab_Sh} {N : Nat} {oc : Nat → Nat} {T : Nat → List Value → ab_S → ab_Q → Prop} {TI : Nat → List iz_V → iz_A → iz_Q → Prop} {Q : ab_Q} {QI : iz_Q} {ret : Option FieldType} {cd : List ab_I}
    (hTm : ab_Tm T T) (hT : ∀ (a : Nat) (as : List iz_V) (A : iz_A) (P : iz_Q) (P' : ab_Q), TI a as A P → iz_okt as → iz_okA A → (∀ v A', iz_okO v → iz_okA A' → P v A' → P' (v.map iz_c) (iz_S A')) → T a (as.map iz_c) (iz_S A) P')
    (hQ : ∀ v A, iz_okO v → iz_okA A → QI v A → Q (v.map iz_c) (iz_S A)) {pc : Nat} {L : iz_L} {st : List iz_V} {A : iz_A} (h : iz_run sc sh N oc TI ret cd QI pc L st A) (oL : iz_okL L) (ot : iz_okt st) (oA : iz_okA A) : ab_run sc sh N oc T ret cd Q pc (iz_cL L) (st.map iz_c) (iz_S A) := by
  refine h (fun pc L st A => iz_okL L → iz_okt st → iz_okA A → ab_run sc sh N oc T ret cd Q pc (iz_cL L) (st.map iz_c) (iz_S A)) (fun pc L L0 st A hle h oL ot oA => ?_) oL ot oA
  intro X hX
  refine hX _ _ _ _ _ (iz_le_c hle) ?_
  have go : ∀ (r : List ab_I) (L : iz_L) (st : List iz_V) (A : iz_A), iz_okL L → iz_okt st → iz_okA A → iz_w sc sh N oc TI (fun pc L st A => iz_okL L → iz_okt st → iz_okA A → ab_run sc sh N oc T ret cd Q pc (iz_cL L) (st.map iz_c) (iz_S A)) QI ret r L st A → ab_w sc sh N oc T X Q ret r (iz_cL L) (st.map iz_c) (iz_S A) := by
    intro r
    induction r with
    | nil => intro L st A _ _ _ h; exact h.elim
    | cons q r ih =>
      intro L st A oL ot oA h
      obtain ⟨pc, i, len, a, b⟩ := q
      exact iz_1_sound hT (fun pc L st A oL ot oA h => h oL ot oA X hX) hQ ih oL ot oA h
  exact go _ L0 st A (iz_le_ok hle oL) ot oA h
theorem iz_cL_app (L : iz_L) (n : Nat) : iz_cL (L ++ List.replicate n none) = iz_cL L ++ List.replicate n none := by simp [iz_cL]
theorem iz_cL_en (vs : List iz_V) : iz_cL (iz_en vs) = ab_en (vs.map iz_c) := by
  induction vs with
  | nil => rfl
  | cons v vs ih =>
    simp only [iz_en, List.map_cons, ab_en, iz_c_cat]
    split
    · simp only [iz_cL, List.map_cons, Option.map_some, Option.map_none] at ih ⊢
      rw [ih]
    · simp only [iz_cL, List.map_cons, Option.map_some] at ih ⊢
      rw [ih]
theorem iz_en_mem {vs : List iz_V} {v : iz_V} (h : some v ∈ iz_en vs) : v ∈ vs := by
  induction vs with
  | nil => simp [iz_en] at h
  | cons w vs ih =>
    unfold iz_en at h
    split at h
    · simp only [List.mem_cons, Option.some.injEq, reduceCtorEq, false_or] at h
      rcases h with rfl | h
      · exact List.mem_cons_self
      · exact List.mem_cons_of_mem _ (ih h)
    · simp only [List.mem_cons, Option.some.injEq] at h
      rcases h with rfl | h
      · exact List.mem_cons_self
      · exact List.mem_cons_of_mem _ (ih h)
theorem iz_okL_en {vs : List iz_V} (n : Nat) (h : iz_okt vs) : iz_okL (iz_en vs ++ List.replicate n none) := by
  intro i v hv
  have := List.mem_of_getElem? hv
  rcases List.mem_append.mp this with h1 | h1
  · exact h v (iz_en_mem h1)
  · cases (List.eq_of_mem_replicate h1)
theorem iz_T_sound {sh : ab_Sh} {N : Nat} {pr : List ab_M} : ∀ (d a : Nat) (as : List iz_V) (A : iz_A) (P : iz_Q) (P' : ab_Q), iz_T sh N pr d a as A P → iz_okt as → iz_okA A → (∀ v A', iz_okO v → iz_okA A' → P v A' → P' (v.map iz_c) (iz_S A')) → ab_T sh N pr d a (as.map iz_c) (iz_S A) P' := by
  intro d
  induction d with
  | zero => intro a as A P P' h; exact h.elim
  | succ d ih =>
    intro a as A P P' h ot oA hP
    unfold iz_T at h
    unfold ab_T
    cases hM : pr[a]? with
    | none => rw [hM] at h; exact h.elim
    | some M =>
      rw [hM] at h
      obtain ⟨h1, h2⟩ := h
      have e1 : (ab_en (as.map iz_c)).length = (iz_en as).length := by rw [← iz_cL_en, iz_len1]
      refine ⟨by rw [e1]; exact h1, ?_⟩
      have := iz_run_sound (ab_T_mono d d (Nat.le_refl d)) ih hP h2 (iz_okL_en _ ot) (fun v hv => absurd hv List.not_mem_nil) oA
      rw [iz_cL_app, iz_cL_en] at this
      rw [e1]
      exact this
end
section
/-! ===== likewise over whole numbers ===== -/
theorem qi_mono {st : List iz_V} {k k' : Int → List iz_V → Prop} (h : qi st k) (f : ∀ x r, k x r → k' x r) : qi st k' := by
  obtain ⟨x, r, rfl, h2⟩ := qi_of h
  exact f x r h2
theorem ql_mono {st : List iz_V} {k k' : Int64 → List iz_V → Prop} (h : ql st k) (f : ∀ x r, k x r → k' x r) : ql st k' := by
  obtain ⟨x, r, rfl, h2⟩ := ql_of h
  exact f x r h2
theorem qr_mono {st : List iz_V} {k k' : Nat → List iz_V → Prop} (h : qr st k) (f : ∀ x r, k x r → k' x r) : qr st k' := by
  obtain ⟨x, r, rfl, h2⟩ := qr_of h
  exact f x r h2
theorem li_mono {L : iz_L} {i : Nat} {k k' : Int → Prop} (h : li L i k) (f : ∀ x, k x → k' x) : li L i k' := by
  obtain ⟨x, e, h2⟩ := li_of h
  unfold li
  rw [e]
  exact f x h2
theorem ll_mono {L : iz_L} {i : Nat} {k k' : Int64 → Prop} (h : ll L i k) (f : ∀ x, k x → k' x) : ll L i k' := by
  obtain ⟨x, e, h2⟩ := ll_of h
  unfold ll
  rw [e]
  exact f x h2
theorem lr_mono {L : iz_L} {i : Nat} {k k' : Nat → Prop} (h : lr L i k) (f : ∀ x, k x → k' x) : lr L i k' := by
  obtain ⟨x, e, h2⟩ := lr_of h
  unfold lr
  rw [e]
  exact f x h2
theorem iz_cmp_mono {c : Jvm.ClassFile.Cond} {x y : Int} {A B A' B' : Prop} (h : iz_cmp c x y A B) (f : A → A') (g : B → B') : iz_cmp c x y A' B' := by
  cases c <;> exact ⟨fun z => f (h.1 z), fun z => g (h.2 z)⟩
def iz_Tm (T T' : Nat → List iz_V → iz_A → iz_Q → Prop) : Prop := ∀ (a : Nat) (as : List iz_V) (S : iz_A) (P P' : iz_Q), T a as S P → (∀ v S, P v S → P' v S) → T' a as S P'
set_option maxHeartbeats 2000000 in
theorem iz_1_mono {sc : ab_X} {sh : ab_Sh} {N : Nat} {oc : Nat → Nat} {T T' : Nat → List iz_V → iz_A → iz_Q → Prop} {J J' : Nat → iz_L → List iz_V → iz_A → Prop} {Q Q' : iz_Q} {ret : Option FieldType} {pc : Nat} {i : Instr} {a b : Nat} {L : iz_L} {st : List iz_V} {S : iz_A} {k k' : iz_L → List iz_V → iz_A → Prop}
    (hT : iz_Tm T T') (hJ : ∀ pc L st S, J pc L st S → J' pc L st S) (hQ : ∀ v S, Q v S → Q' v S) (hk : ∀ L st S, k L st S → k' L st S)
    (h : iz_1 sc sh N oc T J Q ret pc i a b L st S k) : iz_1 sc sh N oc T' J' Q' ret pc i a b L st S k' := by
  cases i with
  | iload n => exact li_mono h fun x h => hk _ _ _ h
  | iload_n n => exact li_mono h fun x h => hk _ _ _ h
  | lload n => exact ll_mono h fun x h => hk _ _ _ h
  | lload_n n => exact ll_mono h fun x h => hk _ _ _ h
  | aload n => exact lr_mono h fun x h => hk _ _ _ h
  | aload_n n => exact lr_mono h fun x h => hk _ _ _ h
  | istore n => exact qi_mono h fun x r h => ite_mono h (hk _ _ _) id
  | istore_n n => exact qi_mono h fun x r h => ite_mono h (hk _ _ _) id
  | lstore n => exact ql_mono h fun x r h => ite_mono h (hk _ _ _) id
  | lstore_n n => exact ql_mono h fun x r h => ite_mono h (hk _ _ _) id
  | iinc n w => exact li_mono h fun x h => ite_mono h (fun h => ⟨h.1, hk _ _ _ h.2⟩) id
  | iconst n => exact ite_mono h (hk _ _ _) id
  | bipush n => exact ite_mono h (hk _ _ _) id
  | sipush n => exact ite_mono h (hk _ _ _) id
  | lconst n => exact hk _ _ _ h
  | ldc n => exact ite_mono h (hk _ _ _) id
  | ldc_w n => exact ite_mono h (hk _ _ _) id
  | ldc2_w n => exact hk _ _ _ h
  | dup =>
    match st, h with
    | v :: r, h => exact ite_mono h (hk _ _ _) id
    | [], h => exact h.elim
  | dup2 =>
    match st, h with
    | v :: w :: r, h => exact ite_mono h (fun h => ite_mono h (hk _ _ _) id) id
    | [_], h => exact h.elim
    | [], h => exact h.elim
  | iadd => exact qi_mono h fun x r h => qi_mono h fun x r h => ⟨h.1, hk _ _ _ h.2⟩
  | isub => exact qi_mono h fun x r h => qi_mono h fun x r h => ⟨h.1, hk _ _ _ h.2⟩
  | imul => exact qi_mono h fun x r h => qi_mono h fun x r h => ⟨h.1, hk _ _ _ h.2⟩
  | idiv => exact qi_mono h fun x r h => qi_mono h fun x r h => ⟨h.1, hk _ _ _ h.2⟩
  | irem => exact qi_mono h fun x r h => qi_mono h fun x r h => ⟨h.1, hk _ _ _ h.2⟩
  | iand => exact qi_mono h fun x r h => qi_mono h fun x r h => hk _ _ _ h
  | ior => exact qi_mono h fun x r h => qi_mono h fun x r h => hk _ _ _ h
  | ishr => exact qi_mono h fun x r h => qi_mono h fun x r h => hk _ _ _ h
  | iushr => exact qi_mono h fun x r h => qi_mono h fun x r h => hk _ _ _ h
  | i2l => exact qi_mono h fun x r h => hk _ _ _ h
  | ladd => exact ql_mono h fun x r h => ql_mono h fun x r h => hk _ _ _ h
  | lmul => exact ql_mono h fun x r h => ql_mono h fun x r h => hk _ _ _ h
  | land => exact ql_mono h fun x r h => ql_mono h fun x r h => hk _ _ _ h
  | lor => exact ql_mono h fun x r h => ql_mono h fun x r h => hk _ _ _ h
  | lxor => exact ql_mono h fun x r h => ql_mono h fun x r h => hk _ _ _ h
  | lshl => exact qi_mono h fun x r h => ql_mono h fun x r h => hk _ _ _ h
  | lshr => exact qi_mono h fun x r h => ql_mono h fun x r h => hk _ _ _ h
  | lushr => exact qi_mono h fun x r h => ql_mono h fun x r h => hk _ _ _ h
  | lcmp => exact ql_mono h fun x r h => ql_mono h fun x r h => hk _ _ _ h
  | getfield idx =>
    refine qr_mono h fun q r h => ab_obj_mono h fun fl h => ?_
    split at h
    · exact hk _ _ _ h
    · exact hk _ _ _ h
    · exact h.elim
  | putfield idx =>
    refine qi_mono h fun x r h => qr_mono h fun q r h => ab_obj_mono h fun fl h => ite_mono h (fun h => ?_) (fun h => ?_)
    · split at h
      · exact hk _ _ _ h
      · exact h.elim
    · split at h
      · exact ⟨h.1, hk _ _ _ h.2⟩
      · exact h.elim
  | iaload => exact qi_mono h fun j r h => qr_mono h fun q r h => ite_mono h (fun h => ab_sx_mono h fun n xs h => ⟨h.1, hk _ _ _ h.2⟩) (fun h => ab_arr_mono h fun n h => ⟨h.1, hk _ _ _ h.2⟩)
  | baload => exact qi_mono h fun j r h => qr_mono h fun q r h => ab_arr_mono h fun n h => ⟨h.1, hk _ _ _ h.2⟩
  | laload => exact qi_mono h fun j r h => qr_mono h fun q r h => ab_arr_mono h fun n h => ⟨h.1, hk _ _ _ h.2⟩
  | iastore => exact qi_mono h fun x r h => qi_mono h fun j r h => qr_mono h fun q r h => ab_arr_mono h fun n h => ⟨h.1, hk _ _ _ h.2⟩
  | bastore => exact qi_mono h fun x r h => qi_mono h fun j r h => qr_mono h fun q r h => ab_arr_mono h fun n h => ⟨h.1, h.2.1, hk _ _ _ h.2.2⟩
  | lastore => exact ql_mono h fun x r h => qi_mono h fun j r h => qr_mono h fun q r h => ab_arr_mono h fun n h => ⟨h.1, hk _ _ _ h.2⟩
  | arraylength => exact qr_mono h fun q r h => ite_mono h (fun h => ab_sx_mono h fun n xs h => ⟨h.1, hk _ _ _ h.2⟩) (fun h => ab_arr_mono h fun n h => ite_mono h (hk _ _ _) id)
  | goto off => exact hJ _ _ _ _ h
  | if_icmp c off => exact qi_mono h fun y r h => qi_mono h fun x r h => iz_cmp_mono h (hJ _ _ _ _) (hk _ _ _)
  | ifCond c off => exact qi_mono h fun x r h => iz_cmp_mono h (hJ _ _ _ _) (hk _ _ _)
  | tableswitch df lo hi offs => exact qi_mono h fun x r h => ⟨fun z => hJ _ _ _ _ (h.1 z), fun z1 z2 => (h.2 z1 z2).imp fun o h => ⟨h.1, hJ _ _ _ _ h.2⟩⟩
  | lookupswitch df ps => exact qi_mono h fun x r h => h.imp fun o h => ⟨h.1, hJ _ _ _ _ h.2⟩
  | invokevirtual idx =>
    refine ite_mono h (fun h => ?_) id
    split at h
    · exact ab_obj_mono h fun _ h => hT _ _ _ _ _ h fun v S h => hk _ _ _ h
    · exact h.elim
  | invokestatic idx =>
    exact ite_mono h (fun h => qi_mono h fun y r h => qi_mono h fun x r h => ite_mono h (hk _ _ _) id) fun h =>
      ite_mono h (fun h => qi_mono h fun y r h => qi_mono h fun x r h => ite_mono h (hk _ _ _) id) fun h =>
      ite_mono h (fun h => qi_mono h fun n r h => qi_mono h fun dp r h => qr_mono h fun q1 r h => qi_mono h fun sp r h => qr_mono h fun q0 r h => ite_mono h (fun h => ab_arr_mono h fun n0 h => ab_arr_mono h fun n1 h => ⟨h.1, hk _ _ _ h.2⟩) id) fun h =>
      ite_mono h (fun h => ite_mono h (fun h => hT _ _ _ _ _ h fun v S h => hk _ _ _ h) id) id
  | ireturn =>
    refine qi_mono h fun x r h => ite_mono h (fun h => ?_) id
    split at h
    · exact hQ _ _ h
    · exact ⟨h.1, hQ _ _ h.2⟩
    · exact h.elim
  | return_ =>
    refine ite_mono h (fun h => ?_) id
    split at h
    · exact hQ _ _ h
    · exact h.elim
  | monitorexit => exact hJ _ _ _ _ h
  | _ => exact h.elim
theorem iz_w_mono {sc : ab_X} {sh : ab_Sh} {N : Nat} {oc : Nat → Nat} {T T' : Nat → List iz_V → iz_A → iz_Q → Prop} {J J' : Nat → iz_L → List iz_V → iz_A → Prop} {Q Q' : iz_Q} {ret : Option FieldType}
    (hT : iz_Tm T T') (hJ : ∀ pc L st S, J pc L st S → J' pc L st S) (hQ : ∀ v S, Q v S → Q' v S) : ∀ (r : List ab_I) (L : iz_L) (st : List iz_V) (S : iz_A), iz_w sc sh N oc T J Q ret r L st S → iz_w sc sh N oc T' J' Q' ret r L st S := by
  intro r
  induction r with
  | nil => intro L st S h; exact h
  | cons q r ih =>
    intro L st S h
    obtain ⟨pc, i, len, a, b⟩ := q
    exact iz_1_mono hT hJ hQ ih h
theorem iz_run_mono {sc : ab_X} {sh : ab_Sh} {N : Nat} {oc : Nat → Nat} {T T' : Nat → List iz_V → iz_A → iz_Q → Prop} {Q Q' : iz_Q} {ret : Option FieldType} {cd : List ab_I} {pc : Nat} {L : iz_L} {st : List iz_V} {S : iz_A}
    (hT : iz_Tm T T') (hQ : ∀ v S, Q v S → Q' v S) (h : iz_run sc sh N oc T ret cd Q pc L st S) : iz_run sc sh N oc T' ret cd Q' pc L st S := by
  intro X hX
  exact h X fun pc L L0 st S hle h => hX pc L L0 st S hle (iz_w_mono hT (fun _ _ _ _ z => z) hQ _ L0 st S h)
theorem iz_T_mono {sh : ab_Sh} {N : Nat} {pr : List ab_M} : ∀ (d d' : Nat), d ≤ d' → iz_Tm (iz_T sh N pr d) (iz_T sh N pr d') := by
  intro d
  induction d with
  | zero => intro d' _ a as S P P' h; exact h.elim
  | succ d ih =>
    intro d' hd a as S P P' h hP
    obtain ⟨e, rfl⟩ : ∃ e, d' = e + 1 := ⟨d' - 1, by omega⟩
    unfold iz_T at h ⊢
    cases hM : pr[a]? with
    | none => rw [hM] at h; exact h.elim
    | some M =>
      rw [hM] at h
      exact ⟨h.1, iz_run_mono (ih e (by omega)) hP h.2⟩
/-- a run goes on by what its next rows demand -/
theorem iz_step {sc : ab_X} {sh : ab_Sh} {N : Nat} {pr : List ab_M} {d : Nat} {ret : Option FieldType} {cd : List ab_I} {Q : iz_Q} {pc : Nat} {L : iz_L} {st : List iz_V} {S : iz_A}
    (h : iz_w sc sh N (ab_oc pr) (iz_T sh N pr d) (iz_run sc sh N (ab_oc pr) (iz_T sh N pr d) ret cd Q) Q ret (ab_from pc cd) L st S) : iz_run sc sh N (ab_oc pr) (iz_T sh N pr d) ret cd Q pc L st S := by
  intro X hX
  exact hX pc L L st S (iz_le_rf L) (iz_w_mono (iz_T_mono d d (Nat.le_refl d)) (fun pc L st S z => z X hX) (fun _ _ z => z) _ L st S h)
theorem iz_intro {sh : ab_Sh} {N : Nat} {pr : List ab_M} {d k : Nat} (M : ab_M) {as : List iz_V} {S : iz_A} {Q : iz_Q} (hM : pr[k]? = some M) (hl : (iz_en as).length ≤ M.2.2.2.1)
    (h : iz_run none sh N (ab_oc pr) (iz_T sh N pr d) M.2.2.2.2.1 M.2.2.2.2.2 Q 0 (iz_en as ++ List.replicate (M.2.2.2.1 - (iz_en as).length) none) [] S) : iz_T sh N pr (d + 1) k as S Q := by
  unfold iz_T
  rw [hM]
  exact ⟨hl, h⟩
theorem iz_le_tr {L0 L1 L2 : iz_L} (h : iz_le L0 L1) (h' : iz_le L1 L2) : iz_le L0 L2 := ⟨h.1.trans h'.1, fun i v z => h'.2 i v (h.2 i v z)⟩
/-- what is known less of the locals -/
theorem iz_forget {sc : ab_X} {sh : ab_Sh} {N : Nat} {pr : List ab_M} {d : Nat} {ret : Option FieldType} {cd : List ab_I} {Q : iz_Q} {pc : Nat} {L L0 : iz_L} {st : List iz_V} {S : iz_A} (hle : iz_le L0 L)
    (h : iz_run sc sh N (ab_oc pr) (iz_T sh N pr d) ret cd Q pc L0 st S) : iz_run sc sh N (ab_oc pr) (iz_T sh N pr d) ret cd Q pc L st S := by
  refine h (fun pc L0 st S => ∀ L, iz_le L0 L → iz_run sc sh N (ab_oc pr) (iz_T sh N pr d) ret cd Q pc L st S) (fun pc L L0 st S hl h L2 hl2 => ?_) L hle
  intro X hX
  exact hX pc L2 L0 st S (iz_le_tr hl hl2) (iz_w_mono (iz_T_mono d d (Nat.le_refl d)) (fun pc L st S z => z L (iz_le_rf L) X hX) (fun _ _ z => z) _ L0 st S h)
/-- what a state keeps but for some cells -/
def fr (l : List Nat) (A B : iz_A) : Prop := (∀ q, q ∉ l → B.1 q = A.1 q) ∧ ∀ q, q ∉ l → B.2 q = A.2 q
theorem fr_rf (A : iz_A) : fr [] A A := ⟨fun _ _ => rfl, fun _ _ => rfl⟩
theorem fr_tr {l l' : List Nat} {A B C : iz_A} (h : fr l A B) (h' : fr l' B C) : fr (l ++ l') A C :=
  ⟨fun q hq => (h'.1 q (fun z => hq (List.mem_append_right _ z))).trans (h.1 q (fun z => hq (List.mem_append_left _ z))), fun q hq => (h'.2 q (fun z => hq (List.mem_append_right _ z))).trans (h.2 q (fun z => hq (List.mem_append_left _ z)))⟩
theorem fr_mo {l l' : List Nat} {A B : iz_A} (h : fr l A B) (hl : ∀ q ∈ l, q ∈ l') : fr l' A B := ⟨fun q hq => h.1 q (fun z => hq (hl q z)), fun q hq => h.2 q (fun z => hq (hl q z))⟩
theorem fr_pI {l : List Nat} {A B : iz_A} {q : Nat} {f : Nat → Int} (h : fr l A B) (hq : q ∈ l) : fr l A (iz_pI B q f) :=
  ⟨fun a ha => by
    show (if a = q then f else B.1 a) = _
    rw [if_neg (fun e : a = q => ha (e ▸ hq))]
    exact h.1 a ha, h.2⟩
theorem fr_pL {l : List Nat} {A B : iz_A} {q : Nat} {f : Nat → Int64} (h : fr l A B) (hq : q ∈ l) : fr l A (iz_pL B q f) :=
  ⟨h.1, fun a ha => by
    show (if a = q then f else B.2 a) = _
    rw [if_neg (fun e : a = q => ha (e ▸ hq))]
    exact h.2 a ha⟩
theorem uz_at (f : Nat → Int) (j : Nat) (x : Int) : uz f j x j = x := if_pos rfl
theorem uz_ne (f : Nat → Int) {i j : Nat} (x : Int) (h : i ≠ j) : uz f j x i = f i := if_neg h
end
