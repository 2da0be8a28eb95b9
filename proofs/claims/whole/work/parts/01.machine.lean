/-! ===== THE SMALL MACHINE: a state is two tables of numbers (ints and longs by cell and place), references are numbers of cells, the shape of all cells stays as it is; what an instruction asks is a proposition that can be computed. ===== -/
abbrev ab_S : Type := (Nat → Nat → Int32) × (Nat → Nat → Int64)
abbrev ab_L : Type := List (Option Value)
/-- pc, instruction, its length, two resolved operands -/
abbrev ab_I : Type := Nat × Instr × Nat × Nat × Nat
/-- a cell: an array (type number, length), or an object (number of its kind, its fields: some r a reference to cell r, none a number) -/
abbrev ab_Sh : Type := Nat → (Nat × Nat) ⊕ (Nat × List (Option Nat))
/-- name, own kind's number, code, locals, what it returns, instructions -/
abbrev ab_M : Type := MethodName × Nat × ByteArray × Nat × Option FieldType × List ab_I
abbrev ab_Q : Type := Option Value → ab_S → Prop
def pop_i (st : List Value) (k : Int32 → List Value → Prop) : Prop := match st with
  | .int x :: r => k x r
  | _ => False
def pop_l (st : List Value) (k : Int64 → List Value → Prop) : Prop := match st with
  | .long x :: r => k x r
  | _ => False
def pop_r (st : List Value) (k : Nat → List Value → Prop) : Prop := match st with
  | .ref x :: r => k x r
  | _ => False
theorem pop_i_of {st : List Value} {k : Int32 → List Value → Prop} (h : pop_i st k) : ∃ x r, st = .int x :: r ∧ k x r := by
  unfold pop_i at h
  split at h
  · exact ⟨_, _, rfl, h⟩
  · exact h.elim
theorem pop_l_of {st : List Value} {k : Int64 → List Value → Prop} (h : pop_l st k) : ∃ x r, st = .long x :: r ∧ k x r := by
  unfold pop_l at h
  split at h
  · exact ⟨_, _, rfl, h⟩
  · exact h.elim
theorem pop_r_of {st : List Value} {k : Nat → List Value → Prop} (h : pop_r st k) : ∃ x r, st = .ref x :: r ∧ k x r := by
  unfold pop_r at h
  split at h
  · exact ⟨_, _, rfl, h⟩
  · exact h.elim
def ld_i (L : ab_L) (i : Nat) (k : Int32 → Prop) : Prop := match L[i]? with
  | some (some (.int x)) => k x
  | _ => False
def ld_l (L : ab_L) (i : Nat) (k : Int64 → Prop) : Prop := match L[i]? with
  | some (some (.long x)) => k x
  | _ => False
def ld_r (L : ab_L) (i : Nat) (k : Nat → Prop) : Prop := match L[i]? with
  | some (some (.ref x)) => k x
  | _ => False
theorem ld_i_of {L : ab_L} {i : Nat} {k : Int32 → Prop} (h : ld_i L i k) : ∃ x, L[i]? = some (some (.int x)) ∧ k x := by
  unfold ld_i at h
  split at h
  · exact ⟨_, by assumption, h⟩
  · exact h.elim
theorem ld_l_of {L : ab_L} {i : Nat} {k : Int64 → Prop} (h : ld_l L i k) : ∃ x, L[i]? = some (some (.long x)) ∧ k x := by
  unfold ld_l at h
  split at h
  · exact ⟨_, by assumption, h⟩
  · exact h.elim
theorem ld_r_of {L : ab_L} {i : Nat} {k : Nat → Prop} (h : ld_r L i k) : ∃ x, L[i]? = some (some (.ref x)) ∧ k x := by
  unfold ld_r at h
  split at h
  · exact ⟨_, by assumption, h⟩
  · exact h.elim
/-- before a store at i: a long whose second half lies at i is gone -/
def ab_clr (L : ab_L) (i : Nat) : ab_L := match i with
  | 0 => L
  | j + 1 => match L[j]? with
    | some (some w) => if w.category = 2 then L.set j none else L
    | _ => L
def ab_set1 (L : ab_L) (i : Nat) (v : Value) : ab_L := (ab_clr L i).set i (some v)
def ab_set2 (L : ab_L) (i : Nat) (v : Value) : ab_L := ((ab_clr L i).set i (some v)).set (i + 1) none
/-- a row of ints, of longs is another one -/
def ab_pI (S : ab_S) (q : Nat) (f : Nat → Int32) : ab_S := (fun a => if a = q then f else S.1 a, S.2)
def ab_pL (S : ab_S) (q : Nat) (f : Nat → Int64) : ab_S := (S.1, fun a => if a = q then f else S.2 a)
def ab_cmp (c : Jvm.ClassFile.Cond) (x y : Int32) (A B : Prop) : Prop := match c with
  | .eq => (x = y → A) ∧ (¬ x = y → B)
  | .ne => (¬ x = y → A) ∧ (x = y → B)
  | .lt => (x < y → A) ∧ (¬ x < y → B)
  | .ge => (y ≤ x → A) ∧ (¬ y ≤ x → B)
  | .gt => (y < x → A) ∧ (¬ y < x → B)
  | .le => (x ≤ y → A) ∧ (¬ x ≤ y → B)
/-- an array of a type: its length goes on -/
def ab_arr (sh : ab_Sh) (N q t : Nat) (k : Nat → Prop) : Prop := if q < N then (match sh q with
  | .inl (t', n) => if t' = t then k n else False
  | .inr _ => False) else False
/-- an object of a kind: its fields go on -/
def ab_obj (sh : ab_Sh) (N q ci : Nat) (k : List (Option Nat) → Prop) : Prop := if q < N then (match sh q with
  | .inr (c, fl) => if c = ci then k fl else False
  | .inl _ => False) else False
theorem ab_arr_of {sh : ab_Sh} {N q t : Nat} {k : Nat → Prop} (h : ab_arr sh N q t k) : q < N ∧ ∃ n, sh q = .inl (t, n) ∧ k n := by
  unfold ab_arr at h
  split at h
  · rename_i hq
    refine ⟨hq, ?_⟩
    split at h
    · rename_i t' n e
      split at h
      · rename_i e2
        subst e2
        exact ⟨n, e, h⟩
      · exact h.elim
    · exact h.elim
  · exact h.elim
theorem ab_obj_of {sh : ab_Sh} {N q ci : Nat} {k : List (Option Nat) → Prop} (h : ab_obj sh N q ci k) : q < N ∧ ∃ fl, sh q = .inr (ci, fl) ∧ k fl := by
  unfold ab_obj at h
  split at h
  · rename_i hq
    refine ⟨hq, ?_⟩
    split at h
    · rename_i t' n e
      split at h
      · rename_i e2
        subst e2
        exact ⟨n, e, h⟩
      · exact h.elim
    · exact h.elim
  · exact h.elim
/-- the script's own number -/
def ab_scr : Nat := 777
abbrev ab_X : Type := Option (Nat × (Nat → Int32))
def ab_sx (sc : ab_X) (k : Nat → (Nat → Int32) → Prop) : Prop := match sc with
  | some (n, xs) => k n xs
  | none => False
theorem ab_sx_of {sc : ab_X} {k : Nat → (Nat → Int32) → Prop} (h : ab_sx sc k) : ∃ n xs, sc = some (n, xs) ∧ k n xs := by
  unfold ab_sx at h
  split at h
  · exact ⟨_, _, rfl, h⟩
  · exact h.elim
def ab_num (a b : Nat) : Int32 := if b = 0 then nI a else - nI a
def ab_lnum (a b : Nat) : Int64 := if b = 0 then lN a else - lN a
/-- one instruction: k what follows behind it, J what holds at a jump's goal, T a called method, Q the method's end -/
def ab_1 (sc : ab_X) (sh : ab_Sh) (N : Nat) (oc : Nat → Nat) (T : Nat → List Value → ab_S → ab_Q → Prop) (J : Nat → ab_L → List Value → ab_S → Prop) (Q : ab_Q) (ret : Option FieldType) (pc : Nat) (i : Instr) (a b : Nat) (L : ab_L) (st : List Value) (S : ab_S) (k : ab_L → List Value → ab_S → Prop) : Prop := match i with
  | .iload n => ld_i L n fun x => k L (.int x :: st) S
  | .iload_n n => ld_i L n fun x => k L (.int x :: st) S
  | .lload n => ld_l L n fun x => k L (.long x :: st) S
  | .lload_n n => ld_l L n fun x => k L (.long x :: st) S
  | .aload n => ld_r L n fun x => k L (.ref x :: st) S
  | .aload_n n => ld_r L n fun x => k L (.ref x :: st) S
  | .istore n => pop_i st fun x st => if n < L.length then k (ab_set1 L n (.int x)) st S else False
  | .istore_n n => pop_i st fun x st => if n < L.length then k (ab_set1 L n (.int x)) st S else False
  | .lstore n => pop_l st fun x st => if n + 1 < L.length then k (ab_set2 L n (.long x)) st S else False
  | .lstore_n n => pop_l st fun x st => if n + 1 < L.length then k (ab_set2 L n (.long x)) st S else False
  | .iinc n d => ld_i L n fun x => if n < L.length then k (ab_set1 L n (.int (x + Int32.ofInt d))) st S else False
  | .iconst n => k L (.int (Int32.ofInt n) :: st) S
  | .bipush n => k L (.int (Int8.ofInt n).toInt32 :: st) S
  | .sipush n => k L (.int (Int16.ofInt n).toInt32 :: st) S
  | .lconst n => k L (.long (Int64.ofNat n) :: st) S
  | .ldc _ => k L (.int (ab_num a b) :: st) S
  | .ldc_w _ => k L (.int (ab_num a b) :: st) S
  | .ldc2_w _ => k L (.long (ab_lnum a b) :: st) S
  | .dup => (match st with
    | v :: st => if v.category = 1 then k L (v :: v :: st) S else False
    | [] => False)
  | .dup2 => (match st with
    | v :: w :: st => if v.category = 1 then (if w.category = 1 then k L (v :: w :: v :: w :: st) S else False) else False
    | _ => False)
  | .iadd => pop_i st fun y st => pop_i st fun x st => k L (.int (x + y) :: st) S
  | .isub => pop_i st fun y st => pop_i st fun x st => k L (.int (x - y) :: st) S
  | .imul => pop_i st fun y st => pop_i st fun x st => k L (.int (x * y) :: st) S
  | .idiv => pop_i st fun y st => pop_i st fun x st => ¬ y = 0 ∧ k L (.int (x / y) :: st) S
  | .irem => pop_i st fun y st => pop_i st fun x st => ¬ y = 0 ∧ k L (.int (x - x / y * y) :: st) S
  | .iand => pop_i st fun y st => pop_i st fun x st => k L (.int (x &&& y) :: st) S
  | .ior => pop_i st fun y st => pop_i st fun x st => k L (.int (x ||| y) :: st) S
  | .ishr => pop_i st fun y st => pop_i st fun x st => k L (.int (x >>> (y &&& 31)) :: st) S
  | .iushr => pop_i st fun y st => pop_i st fun x st => k L (.int (x.toUInt32 >>> (y.toUInt32 &&& Int32.toUInt32 31)).toInt32 :: st) S
  | .i2l => pop_i st fun x st => k L (.long x.toInt64 :: st) S
  | .ladd => pop_l st fun y st => pop_l st fun x st => k L (.long (x + y) :: st) S
  | .lmul => pop_l st fun y st => pop_l st fun x st => k L (.long (x * y) :: st) S
  | .land => pop_l st fun y st => pop_l st fun x st => k L (.long (x &&& y) :: st) S
  | .lor => pop_l st fun y st => pop_l st fun x st => k L (.long (x ||| y) :: st) S
  | .lxor => pop_l st fun y st => pop_l st fun x st => k L (.long (x ^^^ y) :: st) S
  | .lshl => pop_i st fun y st => pop_l st fun x st => k L (.long (x <<< (y.toInt64 &&& 63)) :: st) S
  | .lshr => pop_i st fun y st => pop_l st fun x st => k L (.long (x >>> (y.toInt64 &&& 63)) :: st) S
  | .lushr => pop_i st fun y st => pop_l st fun x st => k L (.long (x.toUInt64 >>> (y.toInt64.toUInt64 &&& Int64.toUInt64 63)).toInt64 :: st) S
  | .lcmp => pop_l st fun y st => pop_l st fun x st => k L (.int (lg_cmp x y) :: st) S
  | .getfield _ => pop_r st fun q st => ab_obj sh N q a fun fl => (match fl[b]? with
    | some (some r) => k L (.ref r :: st) S
    | some none => k L (.int (S.1 q b) :: st) S
    | none => False)
  | .putfield _ => pop_i st fun x st => pop_r st fun q st => ab_obj sh N q a fun fl => if b < 1000
      then (match fl[b]? with
        | some none => k L st (ab_pI S q (upd (S.1 q) b x))
        | _ => False)
      else (match fl[b - 1000]? with
        | some none => (x = 0 ∨ x = 1) ∧ k L st (ab_pI S q (upd (S.1 q) (b - 1000) x))
        | _ => False)
  | .iaload => pop_i st fun j st => pop_r st fun q st => if q = ab_scr then ab_sx sc fun n xs => vp_in j n ∧ k L (.int (xs j.toNatClampNeg) :: st) S else ab_arr sh N q 0 fun n => vp_in j n ∧ k L (.int (S.1 q j.toNatClampNeg) :: st) S
  | .baload => pop_i st fun j st => pop_r st fun q st => ab_arr sh N q 1 fun n => vp_in j n ∧ k L (.int (S.1 q j.toNatClampNeg) :: st) S
  | .laload => pop_i st fun j st => pop_r st fun q st => ab_arr sh N q 2 fun n => vp_in j n ∧ k L (.long (S.2 q j.toNatClampNeg) :: st) S
  | .iastore => pop_i st fun x st => pop_i st fun j st => pop_r st fun q st => ab_arr sh N q 0 fun n => vp_in j n ∧ k L st (ab_pI S q (upd (S.1 q) j.toNatClampNeg x))
  | .bastore => pop_i st fun x st => pop_i st fun j st => pop_r st fun q st => ab_arr sh N q 1 fun n => vp_in j n ∧ (x = 0 ∨ x = 1) ∧ k L st (ab_pI S q (upd (S.1 q) j.toNatClampNeg x))
  | .lastore => pop_l st fun x st => pop_i st fun j st => pop_r st fun q st => ab_arr sh N q 2 fun n => vp_in j n ∧ k L st (ab_pL S q (vp_updL (S.2 q) j.toNatClampNeg x))
  | .arraylength => pop_r st fun q st => if q = ab_scr then ab_sx sc fun n _ => k L (.int (nI n) :: st) S else ab_arr sh N q a fun n => k L (.int (Int32.ofNat n) :: st) S
  | .goto _ => J a L st S
  | .if_icmp c _ => pop_i st fun y st => pop_i st fun x st => ab_cmp c x y (J a L st S) (k L st S)
  | .ifCond c _ => pop_i st fun x st => ab_cmp c x 0 (J a L st S) (k L st S)
  | .tableswitch d lo hi offs => pop_i st fun x st => (x.toInt < lo ∨ hi < x.toInt → J (pc + d.toNat) L st S) ∧ (¬ x.toInt < lo → ¬ hi < x.toInt → ∃ o : Nat, offs[(x.toInt - lo).toNat]? = some (o : Int) ∧ J (pc + o) L st S)
  | .lookupswitch d ps => pop_i st fun x st => ∃ o : Nat, Op.lookupswitch.offset ps.toList d x.toInt = (o : Int) ∧ J (pc + o) L st S
  | .invokevirtual _ => if (st.drop (b + 1)).length ≤ 4 then (match st.drop b with
    | .ref q :: r => ab_obj sh N q (oc a) fun _ => T a (.ref q :: (st.take b).reverse) S fun v S' => k L (v.toList ++ r) S'
    | _ => False) else False
  | .invokestatic _ => if a = 1000 then pop_i st fun y st => pop_i st fun x st => if st.length ≤ 4 then k L (.int (if x < y then y else x) :: st) S else False
    else if a = 1001 then pop_i st fun y st => pop_i st fun x st => if st.length ≤ 4 then k L (.int (if y < x then y else x) :: st) S else False
    else if a = 1002 then pop_i st fun n st => pop_i st fun dp st => pop_r st fun q1 st => pop_i st fun sp st => pop_r st fun q0 st => if st.length ≤ 4 then ab_arr sh N q0 0 fun n0 => ab_arr sh N q1 0 fun n1 => ¬ sp < 0 ∧ ¬ dp < 0 ∧ ¬ n < 0 ∧ sp.toNatClampNeg + n.toNatClampNeg ≤ n0 ∧ dp.toNatClampNeg + n.toNatClampNeg ≤ n1 ∧ k L st (ab_pI S q1 (va_cpy (S.1 q0) (S.1 q1) sp.toNatClampNeg dp.toNatClampNeg n.toNatClampNeg)) else False
    else if b ≤ st.length then (if (st.drop b).length ≤ 4 then T a (st.take b).reverse S fun v S' => k L (v.toList ++ st.drop b) S' else False) else False
  | .ireturn => pop_i st fun x st => if st.length = 0 then (match ret with
    | some .int => Q (some (.int x)) S
    | some .boolean => (x = 0 ∨ x = 1) ∧ Q (some (.int x)) S
    | _ => False) else False
  | .return_ => if st.length = 0 then (match ret with
    | none => Q none S
    | _ => False) else False
  | .monitorexit => J pc L st S
  | _ => False
def ab_w (sc : ab_X) (sh : ab_Sh) (N : Nat) (oc : Nat → Nat) (T : Nat → List Value → ab_S → ab_Q → Prop) (J : Nat → ab_L → List Value → ab_S → Prop) (Q : ab_Q) (ret : Option FieldType) : List ab_I → ab_L → List Value → ab_S → Prop
  | [], _, _, _ => False
  | (pc, i, _, a, b) :: r, L, st, S => ab_1 sc sh N oc T J Q ret pc i a b L st S fun L st S => ab_w sc sh N oc T J Q ret r L st S
/-- the instructions from a pc on; a row of length 0 is a mark (monitorexit, which no code here has): the run may be cut there -/
def ab_from (pc : Nat) : List ab_I → List ab_I
  | [] => []
  | q :: r => if q.1 = pc then (if q.2.2.1 = 0 then ab_from pc r else q :: r) else ab_from pc r
/-- fewer locals are known -/
def ab_le (L0 L : ab_L) : Prop := L0.length = L.length ∧ ∀ (i : Nat) (v : Value), L0[i]? = some (some v) → L[i]? = some (some v)
theorem ab_le_rf (L : ab_L) : ab_le L L := ⟨rfl, fun _ _ h => h⟩
/-- the run from a pc on ends well: the least predicate that every row's own demand closes; locals may be forgotten -/
def ab_run (sc : ab_X) (sh : ab_Sh) (N : Nat) (oc : Nat → Nat) (T : Nat → List Value → ab_S → ab_Q → Prop) (ret : Option FieldType) (cd : List ab_I) (Q : ab_Q) (pc : Nat) (L : ab_L) (st : List Value) (S : ab_S) : Prop :=
  ∀ X : Nat → ab_L → List Value → ab_S → Prop, (∀ (pc : Nat) (L L0 : ab_L) (st : List Value) (S : ab_S), ab_le L0 L → ab_w sc sh N oc T X Q ret (ab_from pc cd) L0 st S → X pc L st S) → X pc L st S
/-- the locals at a method's entry -/
def ab_en : List Value → ab_L
  | [] => []
  | v :: vs => if v.category = 2 then some v :: none :: ab_en vs else some v :: ab_en vs
def ab_oc (pr : List ab_M) (k : Nat) : Nat := match pr[k]? with
  | some M => M.2.1
  | none => 0
def ab_T (sh : ab_Sh) (N : Nat) (pr : List ab_M) : Nat → Nat → List Value → ab_S → ab_Q → Prop
  | 0, _, _, _, _ => False
  | d + 1, k, as, S, Q => match pr[k]? with
    | none => False
    | some M => (ab_en as).length ≤ M.2.2.2.1 ∧ ab_run none sh N (ab_oc pr) (ab_T sh N pr d) M.2.2.2.2.1 M.2.2.2.2.2 Q 0 (ab_en as ++ List.replicate (M.2.2.2.1 - (ab_en as).length) none) [] S
