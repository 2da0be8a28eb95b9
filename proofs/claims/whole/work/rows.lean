section
/-! ===== THE SMALL MACHINE: a state is two tables of numbers (ints and longs by cell and place), references are numbers of cells, the shape of all cells stays as it is; what an instruction asks is a proposition that can be computed. ===== -/
abbrev ab_S : Type := (Nat → Nat → Int32) × (Nat → Nat → Int64)
abbrev ab_L : Type := List (Option Value)
/-- pc, instruction, its length, two resolved operands -/
abbrev ab_I : Type := Nat × Instr × Nat × Nat × Nat
/-- a cell: an array (type number, length), or an object (number of its kind, its fields: some r a reference to cell r, none a number) -/
abbrev ab_Sh : Type := Nat → (Nat × Nat) ⊕ (Nat × List (Option Nat))
/-- name, own kind's number, code, locals, what it returns, instructions -/
abbrev ab_M : Type := MethodName × Nat × ByteArray × Nat × Option FieldType × List ab_I
abbrev ab_Q : Type := Option Value → ab_S → Prop
def pop_i (st : List Value) (k : Int32 → List Value → Prop) : Prop := match st with
  | .int x :: r => k x r
  | _ => False
def pop_l (st : List Value) (k : Int64 → List Value → Prop) : Prop := match st with
  | .long x :: r => k x r
  | _ => False
def pop_r (st : List Value) (k : Nat → List Value → Prop) : Prop := match st with
  | .ref x :: r => k x r
  | _ => False
theorem pop_i_of {st : List Value} {k : Int32 → List Value → Prop} (h : pop_i st k) : ∃ x r, st = .int x :: r ∧ k x r := by
  unfold pop_i at h
  split at h
  · exact ⟨_, _, rfl, h⟩
  · exact h.elim
theorem pop_l_of {st : List Value} {k : Int64 → List Value → Prop} (h : pop_l st k) : ∃ x r, st = .long x :: r ∧ k x r := by
  unfold pop_l at h
  split at h
  · exact ⟨_, _, rfl, h⟩
  · exact h.elim
theorem pop_r_of {st : List Value} {k : Nat → List Value → Prop} (h : pop_r st k) : ∃ x r, st = .ref x :: r ∧ k x r := by
  unfold pop_r at h
  split at h
  · exact ⟨_, _, rfl, h⟩
  · exact h.elim
def ld_i (L : ab_L) (i : Nat) (k : Int32 → Prop) : Prop := match L[i]? with
  | some (some (.int x)) => k x
  | _ => False
def ld_l (L : ab_L) (i : Nat) (k : Int64 → Prop) : Prop := match L[i]? with
  | some (some (.long x)) => k x
  | _ => False
def ld_r (L : ab_L) (i : Nat) (k : Nat → Prop) : Prop := match L[i]? with
  | some (some (.ref x)) => k x
  | _ => False
theorem ld_i_of {L : ab_L} {i : Nat} {k : Int32 → Prop} (h : ld_i L i k) : ∃ x, L[i]? = some (some (.int x)) ∧ k x := by
  unfold ld_i at h
  split at h
  · exact ⟨_, by assumption, h⟩
  · exact h.elim
theorem ld_l_of {L : ab_L} {i : Nat} {k : Int64 → Prop} (h : ld_l L i k) : ∃ x, L[i]? = some (some (.long x)) ∧ k x := by
  unfold ld_l at h
  split at h
  · exact ⟨_, by assumption, h⟩
  · exact h.elim
theorem ld_r_of {L : ab_L} {i : Nat} {k : Nat → Prop} (h : ld_r L i k) : ∃ x, L[i]? = some (some (.ref x)) ∧ k x := by
  unfold ld_r at h
  split at h
  · exact ⟨_, by assumption, h⟩
  · exact h.elim
/-- before a store at i: a long whose second half lies at i is gone -/
def ab_clr (L : ab_L) (i : Nat) : ab_L := match i with
  | 0 => L
  | j + 1 => match L[j]? with
    | some (some w) => if w.category = 2 then L.set j none else L
    | _ => L
def ab_set1 (L : ab_L) (i : Nat) (v : Value) : ab_L := (ab_clr L i).set i (some v)
def ab_set2 (L : ab_L) (i : Nat) (v : Value) : ab_L := ((ab_clr L i).set i (some v)).set (i + 1) none
/-- a row of ints, of longs is another one -/
def ab_pI (S : ab_S) (q : Nat) (f : Nat → Int32) : ab_S := (fun a => if a = q then f else S.1 a, S.2)
def ab_pL (S : ab_S) (q : Nat) (f : Nat → Int64) : ab_S := (S.1, fun a => if a = q then f else S.2 a)
def ab_cmp (c : Jvm.ClassFile.Cond) (x y : Int32) (A B : Prop) : Prop := match c with
  | .eq => (x = y → A) ∧ (¬ x = y → B)
  | .ne => (¬ x = y → A) ∧ (x = y → B)
  | .lt => (x < y → A) ∧ (¬ x < y → B)
  | .ge => (y ≤ x → A) ∧ (¬ y ≤ x → B)
  | .gt => (y < x → A) ∧ (¬ y < x → B)
  | .le => (x ≤ y → A) ∧ (¬ x ≤ y → B)
/-- an array of a type: its length goes on -/
def ab_arr (sh : ab_Sh) (N q t : Nat) (k : Nat → Prop) : Prop := if q < N then (match sh q with
  | .inl (t', n) => if t' = t then k n else False
  | .inr _ => False) else False
/-- an object of a kind: its fields go on -/
def ab_obj (sh : ab_Sh) (N q ci : Nat) (k : List (Option Nat) → Prop) : Prop := if q < N then (match sh q with
  | .inr (c, fl) => if c = ci then k fl else False
  | .inl _ => False) else False
theorem ab_arr_of {sh : ab_Sh} {N q t : Nat} {k : Nat → Prop} (h : ab_arr sh N q t k) : q < N ∧ ∃ n, sh q = .inl (t, n) ∧ k n := by
  unfold ab_arr at h
  split at h
  · rename_i hq
    refine ⟨hq, ?_⟩
    split at h
    · rename_i t' n e
      split at h
      · rename_i e2
        subst e2
        exact ⟨n, e, h⟩
      · exact h.elim
    · exact h.elim
  · exact h.elim
theorem ab_obj_of {sh : ab_Sh} {N q ci : Nat} {k : List (Option Nat) → Prop} (h : ab_obj sh N q ci k) : q < N ∧ ∃ fl, sh q = .inr (ci, fl) ∧ k fl := by
  unfold ab_obj at h
  split at h
  · rename_i hq
    refine ⟨hq, ?_⟩
    split at h
    · rename_i t' n e
      split at h
      · rename_i e2
        subst e2
        exact ⟨n, e, h⟩
      · exact h.elim
    · exact h.elim
  · exact h.elim
/-- the script's own number -/
def ab_scr : Nat := 777
abbrev ab_X : Type := Option (Nat × (Nat → Int32))
def ab_sx (sc : ab_X) (k : Nat → (Nat → Int32) → Prop) : Prop := match sc with
  | some (n, xs) => k n xs
  | none => False
theorem ab_sx_of {sc : ab_X} {k : Nat → (Nat → Int32) → Prop} (h : ab_sx sc k) : ∃ n xs, sc = some (n, xs) ∧ k n xs := by
  unfold ab_sx at h
  split at h
  · exact ⟨_, _, rfl, h⟩
  · exact h.elim
def ab_num (a b : Nat) : Int32 := if b = 0 then nI a else - nI a
def ab_lnum (a b : Nat) : Int64 := if b = 0 then lN a else - lN a
/-- one instruction: k what follows behind it, J what holds at a jump's goal, T a called method, Q the method's end -/
def ab_1 (sc : ab_X) (sh : ab_Sh) (N : Nat) (oc : Nat → Nat) (T : Nat → List Value → ab_S → ab_Q → Prop) (J : Nat → ab_L → List Value → ab_S → Prop) (Q : ab_Q) (ret : Option FieldType) (pc : Nat) (i : Instr) (a b : Nat) (L : ab_L) (st : List Value) (S : ab_S) (k : ab_L → List Value → ab_S → Prop) : Prop := match i with
  | .iload n => ld_i L n fun x => k L (.int x :: st) S
  | .iload_n n => ld_i L n fun x => k L (.int x :: st) S
  | .lload n => ld_l L n fun x => k L (.long x :: st) S
  | .lload_n n => ld_l L n fun x => k L (.long x :: st) S
  | .aload n => ld_r L n fun x => k L (.ref x :: st) S
  | .aload_n n => ld_r L n fun x => k L (.ref x :: st) S
  | .istore n => pop_i st fun x st => if n < L.length then k (ab_set1 L n (.int x)) st S else False
  | .istore_n n => pop_i st fun x st => if n < L.length then k (ab_set1 L n (.int x)) st S else False
  | .lstore n => pop_l st fun x st => if n + 1 < L.length then k (ab_set2 L n (.long x)) st S else False
  | .lstore_n n => pop_l st fun x st => if n + 1 < L.length then k (ab_set2 L n (.long x)) st S else False
  | .iinc n d => ld_i L n fun x => if n < L.length then k (ab_set1 L n (.int (x + Int32.ofInt d))) st S else False
  | .iconst n => k L (.int (Int32.ofInt n) :: st) S
  | .bipush n => k L (.int (Int8.ofInt n).toInt32 :: st) S
  | .sipush n => k L (.int (Int16.ofInt n).toInt32 :: st) S
  | .lconst n => k L (.long (Int64.ofNat n) :: st) S
  | .ldc _ => k L (.int (ab_num a b) :: st) S
  | .ldc_w _ => k L (.int (ab_num a b) :: st) S
  | .ldc2_w _ => k L (.long (ab_lnum a b) :: st) S
  | .dup => (match st with
    | v :: st => if v.category = 1 then k L (v :: v :: st) S else False
    | [] => False)
  | .dup2 => (match st with
    | v :: w :: st => if v.category = 1 then (if w.category = 1 then k L (v :: w :: v :: w :: st) S else False) else False
    | _ => False)
  | .iadd => pop_i st fun y st => pop_i st fun x st => k L (.int (x + y) :: st) S
  | .isub => pop_i st fun y st => pop_i st fun x st => k L (.int (x - y) :: st) S
  | .imul => pop_i st fun y st => pop_i st fun x st => k L (.int (x * y) :: st) S
  | .idiv => pop_i st fun y st => pop_i st fun x st => ¬ y = 0 ∧ k L (.int (x / y) :: st) S
  | .irem => pop_i st fun y st => pop_i st fun x st => ¬ y = 0 ∧ k L (.int (x - x / y * y) :: st) S
  | .iand => pop_i st fun y st => pop_i st fun x st => k L (.int (x &&& y) :: st) S
  | .ior => pop_i st fun y st => pop_i st fun x st => k L (.int (x ||| y) :: st) S
  | .ishr => pop_i st fun y st => pop_i st fun x st => k L (.int (x >>> (y &&& 31)) :: st) S
  | .iushr => pop_i st fun y st => pop_i st fun x st => k L (.int (x.toUInt32 >>> (y.toUInt32 &&& Int32.toUInt32 31)).toInt32 :: st) S
  | .i2l => pop_i st fun x st => k L (.long x.toInt64 :: st) S
  | .ladd => pop_l st fun y st => pop_l st fun x st => k L (.long (x + y) :: st) S
  | .lmul => pop_l st fun y st => pop_l st fun x st => k L (.long (x * y) :: st) S
  | .land => pop_l st fun y st => pop_l st fun x st => k L (.long (x &&& y) :: st) S
  | .lor => pop_l st fun y st => pop_l st fun x st => k L (.long (x ||| y) :: st) S
  | .lxor => pop_l st fun y st => pop_l st fun x st => k L (.long (x ^^^ y) :: st) S
  | .lshl => pop_i st fun y st => pop_l st fun x st => k L (.long (x <<< (y.toInt64 &&& 63)) :: st) S
  | .lshr => pop_i st fun y st => pop_l st fun x st => k L (.long (x >>> (y.toInt64 &&& 63)) :: st) S
  | .lushr => pop_i st fun y st => pop_l st fun x st => k L (.long (x.toUInt64 >>> (y.toInt64.toUInt64 &&& Int64.toUInt64 63)).toInt64 :: st) S
  | .lcmp => pop_l st fun y st => pop_l st fun x st => k L (.int (lg_cmp x y) :: st) S
  | .getfield _ => pop_r st fun q st => ab_obj sh N q a fun fl => (match fl[b]? with
    | some (some r) => k L (.ref r :: st) S
    | some none => k L (.int (S.1 q b) :: st) S
    | none => False)
  | .putfield _ => pop_i st fun x st => pop_r st fun q st => ab_obj sh N q a fun fl => if b < 1000
      then (match fl[b]? with
        | some none => k L st (ab_pI S q (upd (S.1 q) b x))
        | _ => False)
      else (match fl[b - 1000]? with
        | some none => (x = 0 ∨ x = 1) ∧ k L st (ab_pI S q (upd (S.1 q) (b - 1000) x))
        | _ => False)
  | .iaload => pop_i st fun j st => pop_r st fun q st => if q = ab_scr then ab_sx sc fun n xs => vp_in j n ∧ k L (.int (xs j.toNatClampNeg) :: st) S else ab_arr sh N q 0 fun n => vp_in j n ∧ k L (.int (S.1 q j.toNatClampNeg) :: st) S
  | .baload => pop_i st fun j st => pop_r st fun q st => ab_arr sh N q 1 fun n => vp_in j n ∧ k L (.int (S.1 q j.toNatClampNeg) :: st) S
  | .laload => pop_i st fun j st => pop_r st fun q st => ab_arr sh N q 2 fun n => vp_in j n ∧ k L (.long (S.2 q j.toNatClampNeg) :: st) S
  | .iastore => pop_i st fun x st => pop_i st fun j st => pop_r st fun q st => ab_arr sh N q 0 fun n => vp_in j n ∧ k L st (ab_pI S q (upd (S.1 q) j.toNatClampNeg x))
  | .bastore => pop_i st fun x st => pop_i st fun j st => pop_r st fun q st => ab_arr sh N q 1 fun n => vp_in j n ∧ (x = 0 ∨ x = 1) ∧ k L st (ab_pI S q (upd (S.1 q) j.toNatClampNeg x))
  | .lastore => pop_l st fun x st => pop_i st fun j st => pop_r st fun q st => ab_arr sh N q 2 fun n => vp_in j n ∧ k L st (ab_pL S q (vp_updL (S.2 q) j.toNatClampNeg x))
  | .arraylength => pop_r st fun q st => if q = ab_scr then ab_sx sc fun n _ => k L (.int (nI n) :: st) S else ab_arr sh N q a fun n => k L (.int (Int32.ofNat n) :: st) S
  | .goto _ => J a L st S
  | .if_icmp c _ => pop_i st fun y st => pop_i st fun x st => ab_cmp c x y (J a L st S) (k L st S)
  | .ifCond c _ => pop_i st fun x st => ab_cmp c x 0 (J a L st S) (k L st S)
  | .tableswitch d lo hi offs => pop_i st fun x st => (x.toInt < lo ∨ hi < x.toInt → J (pc + d.toNat) L st S) ∧ (¬ x.toInt < lo → ¬ hi < x.toInt → ∃ o : Nat, offs[(x.toInt - lo).toNat]? = some (o : Int) ∧ J (pc + o) L st S)
  | .lookupswitch d ps => pop_i st fun x st => ∃ o : Nat, Op.lookupswitch.offset ps.toList d x.toInt = (o : Int) ∧ J (pc + o) L st S
  | .invokevirtual _ => if (st.drop (b + 1)).length ≤ 4 then (match st.drop b with
    | .ref q :: r => ab_obj sh N q (oc a) fun _ => T a (.ref q :: (st.take b).reverse) S fun v S' => k L (v.toList ++ r) S'
    | _ => False) else False
  | .invokestatic _ => if a = 1000 then pop_i st fun y st => pop_i st fun x st => if st.length ≤ 4 then k L (.int (if x < y then y else x) :: st) S else False
    else if a = 1001 then pop_i st fun y st => pop_i st fun x st => if st.length ≤ 4 then k L (.int (if y < x then y else x) :: st) S else False
    else if a = 1002 then pop_i st fun n st => pop_i st fun dp st => pop_r st fun q1 st => pop_i st fun sp st => pop_r st fun q0 st => if st.length ≤ 4 then ab_arr sh N q0 0 fun n0 => ab_arr sh N q1 0 fun n1 => ¬ sp < 0 ∧ ¬ dp < 0 ∧ ¬ n < 0 ∧ sp.toNatClampNeg + n.toNatClampNeg ≤ n0 ∧ dp.toNatClampNeg + n.toNatClampNeg ≤ n1 ∧ k L st (ab_pI S q1 (va_cpy (S.1 q0) (S.1 q1) sp.toNatClampNeg dp.toNatClampNeg n.toNatClampNeg)) else False
    else if b ≤ st.length then (if (st.drop b).length ≤ 4 then T a (st.take b).reverse S fun v S' => k L (v.toList ++ st.drop b) S' else False) else False
  | .ireturn => pop_i st fun x st => if st.length = 0 then (match ret with
    | some .int => Q (some (.int x)) S
    | some .boolean => (x = 0 ∨ x = 1) ∧ Q (some (.int x)) S
    | _ => False) else False
  | .return_ => if st.length = 0 then (match ret with
    | none => Q none S
    | _ => False) else False
  | _ => False
def ab_w (sc : ab_X) (sh : ab_Sh) (N : Nat) (oc : Nat → Nat) (T : Nat → List Value → ab_S → ab_Q → Prop) (J : Nat → ab_L → List Value → ab_S → Prop) (Q : ab_Q) (ret : Option FieldType) : List ab_I → ab_L → List Value → ab_S → Prop
  | [], _, _, _ => False
  | (pc, i, _, a, b) :: r, L, st, S => ab_1 sc sh N oc T J Q ret pc i a b L st S fun L st S => ab_w sc sh N oc T J Q ret r L st S
/-- the instructions from a pc on -/
def ab_from (pc : Nat) : List ab_I → List ab_I
  | [] => []
  | q :: r => if q.1 = pc then q :: r else ab_from pc r
def ab_run (sc : ab_X) (sh : ab_Sh) (N : Nat) (oc : Nat → Nat) (T : Nat → List Value → ab_S → ab_Q → Prop) (ret : Option FieldType) (cd : List ab_I) (Q : ab_Q) : Nat → Nat → ab_L → List Value → ab_S → Prop
  | 0, _, _, _, _ => False
  | n + 1, pc, L, st, S => ab_w sc sh N oc T (fun pc L st S => ab_run sc sh N oc T ret cd Q n pc L st S) Q ret (ab_from pc cd) L st S
/-- the locals at a method's entry -/
def ab_en : List Value → ab_L
  | [] => []
  | v :: vs => if v.category = 2 then some v :: none :: ab_en vs else some v :: ab_en vs
def ab_oc (pr : List ab_M) (k : Nat) : Nat := match pr[k]? with
  | some M => M.2.1
  | none => 0
def ab_T (sh : ab_Sh) (N : Nat) (pr : List ab_M) : Nat → Nat → List Value → ab_S → ab_Q → Prop
  | 0, _, _, _, _ => False
  | d + 1, k, as, S, Q => match pr[k]? with
    | none => False
    | some M => (ab_en as).length ≤ M.2.2.2.1 ∧ ∃ n, ab_run none sh N (ab_oc pr) (ab_T sh N pr d) M.2.2.2.2.1 M.2.2.2.2.2 Q n 0 (ab_en as ++ List.replicate (M.2.2.2.1 - (ab_en as).length) none) [] S
end
section
/-! ===== the small machine is sound: relations between its states and the heap ===== -/
def ab_v (ad : Nat → Nat) : Value → Value
  | .ref k => .ref (ad k)
  | v => v
theorem ab_v_cat (ad : Nat → Nat) (v : Value) : (ab_v ad v).category = v.category := by cases v <;> rfl
def ab_as (ad : Nat → Nat) (L : ab_L) : List (Nat × Value) := (List.range L.length).filterMap fun j => match L[j]? with
  | some (some v) => some (j, ab_v ad v)
  | _ => none
theorem ab_as_mem {ad : Nat → Nat} {L : ab_L} {j : Nat} {w : Value} : (j, w) ∈ ab_as ad L ↔ ∃ v, L[j]? = some (some v) ∧ w = ab_v ad v := by
  unfold ab_as
  rw [List.mem_filterMap]
  constructor
  · rintro ⟨k, -, h⟩
    split at h
    · rename_i v e
      cases h
      exact ⟨v, e, rfl⟩
    · cases h
  · rintro ⟨v, e, rfl⟩
    refine ⟨j, List.mem_range.mpr ?_, ?_⟩
    · exact (List.getElem?_eq_some_iff.mp e).1
    · rw [e]
def ab_Lr (ad : Nat → Nat) (L : ab_L) (ls : Array Slot) (nL : Nat) : Prop := L.length = nL ∧ lv_has ls nL (ab_as ad L)
theorem ab_Lr.at {ad : Nat → Nat} {L : ab_L} {ls : Array Slot} {nL i : Nat} {v : Value} (h : ab_Lr ad L ls nL) (hv : L[i]? = some (some v)) : ls[i]? = some (.val (ab_v ad v)) := h.2.2.2 (i, _) (ab_as_mem.mpr ⟨v, hv, rfl⟩)
theorem ab_clr_len (L : ab_L) (i : Nat) : (ab_clr L i).length = L.length := by
  unfold ab_clr
  split
  · rfl
  · split
    · split
      · simp
      · rfl
    · rfl
theorem ab_clr_get {L : ab_L} {i j : Nat} {u : Value} (h : (ab_clr L i)[j]? = some (some u)) : L[j]? = some (some u) ∧ (j + 1 = i → u.category ≠ 2) := by
  unfold ab_clr at h
  split at h
  · exact ⟨h, fun e => by omega⟩
  · rename_i k
    split at h
    · rename_i w e
      split at h
      · rename_i hw
        rw [List.getElem?_set] at h
        split at h
        · split at h
          · cases h
          · cases h
        · rename_i hne
          exact ⟨h, fun e2 => absurd (by omega : k = j) hne⟩
      · rename_i hw
        refine ⟨h, fun e2 => ?_⟩
        have : j = k := by omega
        subst this
        rw [e] at h
        cases h
        exact hw
    · rename_i hno
      refine ⟨h, fun e2 => ?_⟩
      have : j = k := by omega
      subst this
      exact absurd h (hno u)
theorem ab_Lr.set1 {ad : Nat → Nat} {L : ab_L} {ls ls' : Array Slot} {nL i : Nat} {v : Value} (h : ab_Lr ad L ls nL) (hi : i < L.length)
    (h' : lv_has ls' nL ((i, ab_v ad v) :: (ab_as ad L).filter (fun q => !(q.1 == i) && !(q.1 + 1 == i && q.2.category == 2)))) : ab_Lr ad (ab_set1 L i v) ls' nL := by
  refine ⟨by unfold ab_set1; rw [List.length_set, ab_clr_len]; exact h.1, h'.1, h'.2.1, fun q hq => ?_⟩
  obtain ⟨j, w⟩ := q
  obtain ⟨u, hu, rfl⟩ := ab_as_mem.mp hq
  unfold ab_set1 at hu
  rw [List.getElem?_set] at hu
  split at hu
  · rename_i e
    subst e
    split at hu
    · cases hu
      exact h'.2.2 _ List.mem_cons_self
    · cases hu
  · rename_i e
    obtain ⟨h1, h2⟩ := ab_clr_get hu
    refine h'.2.2 _ (List.mem_cons_of_mem _ (List.mem_filter.mpr ⟨ab_as_mem.mpr ⟨u, h1, rfl⟩, ?_⟩))
    have e2 : ¬ j = i := fun z => e z.symm
    simp only [Bool.and_eq_true, Bool.not_eq_true', beq_eq_false_iff_ne, ne_eq, Bool.and_eq_false_iff]
    refine ⟨e2, ?_⟩
    by_cases z : j + 1 = i
    · exact Or.inr (by rw [ab_v_cat]; exact h2 z)
    · exact Or.inl z
theorem ab_Lr.set2 {ad : Nat → Nat} {L : ab_L} {ls ls' : Array Slot} {nL i : Nat} {v : Value} (h : ab_Lr ad L ls nL) (hi : i + 1 < L.length)
    (h' : lv_has ls' nL ((i, ab_v ad v) :: (ab_as ad L).filter (fun q => !(q.1 == i) && (!(q.1 == i + 1) && !(q.1 + 1 == i && q.2.category == 2))))) : ab_Lr ad (ab_set2 L i v) ls' nL := by
  refine ⟨by unfold ab_set2; rw [List.length_set, List.length_set, ab_clr_len]; exact h.1, h'.1, h'.2.1, fun q hq => ?_⟩
  obtain ⟨j, w⟩ := q
  obtain ⟨u, hu, rfl⟩ := ab_as_mem.mp hq
  unfold ab_set2 at hu
  rw [List.getElem?_set] at hu
  split at hu
  · split at hu
    · cases hu
    · cases hu
  · rename_i e1
    rw [List.getElem?_set] at hu
    split at hu
    · rename_i e
      subst e
      split at hu
      · cases hu
        exact h'.2.2 _ List.mem_cons_self
      · cases hu
    · rename_i e
      obtain ⟨h1, h2⟩ := ab_clr_get hu
      refine h'.2.2 _ (List.mem_cons_of_mem _ (List.mem_filter.mpr ⟨ab_as_mem.mpr ⟨u, h1, rfl⟩, ?_⟩))
      have e2 : ¬ j = i := fun z => e z.symm
      have e3 : ¬ j = i + 1 := fun z => e1 z.symm
      simp only [Bool.and_eq_true, Bool.not_eq_true', beq_eq_false_iff_ne, ne_eq, Bool.and_eq_false_iff]
      refine ⟨e2, e3, ?_⟩
      by_cases z : j + 1 = i
      · exact Or.inr (by rw [ab_v_cat]; exact h2 z)
      · exact Or.inl z
theorem ab_en_get (ad : Nat → Nat) (vs : List Value) : ∀ (i j : Nat) (u : Value), (ab_en vs)[j]? = some (some u) → (i + j, ab_v ad u) ∈ lv_args i (vs.map (ab_v ad)) := by
  induction vs with
  | nil => intro i j u h; simp [ab_en] at h
  | cons v vs ih =>
    intro i j u h
    simp only [List.map_cons, lv_args, ab_v_cat]
    unfold ab_en at h
    by_cases hc : v.category = 2
    · rw [if_pos hc] at h
      rw [if_pos hc]
      match j, h with
      | 0, h => simp at h; subst h; exact List.mem_cons_self
      | 1, h => simp at h
      | j + 2, h =>
        have := ih (i + 2) j u (by simpa using h)
        rw [show i + (j + 2) = i + 2 + j by omega]
        exact List.mem_cons_of_mem _ this
    · rw [if_neg hc] at h
      rw [if_neg hc]
      match j, h with
      | 0, h => simp at h; subst h; exact List.mem_cons_self
      | j + 1, h =>
        have := ih (i + 1) j u (by simpa using h)
        rw [show i + (j + 1) = i + 1 + j by omega]
        exact List.mem_cons_of_mem _ this
theorem ab_en_len (ad : Nat → Nat) (vs : List Value) : (lg_sl (vs.map (ab_v ad))).length = (ab_en vs).length := by
  induction vs with
  | nil => rfl
  | cons v vs ih =>
    unfold ab_en
    unfold lg_sl at ih ⊢
    simp only [List.map_cons, List.flatMap_cons, List.length_append, ab_v_cat, ih]
    by_cases hc : v.category = 2
    · simp [hc]; omega
    · simp [hc]; omega
theorem ab_Lr.entry {ad : Nat → Nat} {vs : List Value} {ls : Array Slot} {n : Nat} (hn : (ab_en vs).length ≤ n) (h : lv_has ls n (lv_args 0 (vs.map (ab_v ad)))) : ab_Lr ad (ab_en vs ++ List.replicate (n - (ab_en vs).length) none) ls n := by
  refine ⟨by simp; omega, h.1, h.2.1, fun q hq => ?_⟩
  obtain ⟨j, w⟩ := q
  obtain ⟨u, hu, rfl⟩ := ab_as_mem.mp hq
  rw [List.getElem?_append] at hu
  split at hu
  · have := ab_en_get ad vs 0 j u hu
    rw [Nat.zero_add] at this
    exact h.2.2 _ this
  · rw [List.getElem?_replicate] at hu
    split at hu <;> cases hu
def ab_fs (ad : Nat → Nat) (f : Nat → Int32) : Nat → List (Option Nat) → List Value
  | _, [] => []
  | j, some r :: t => .ref (ad r) :: ab_fs ad f (j + 1) t
  | j, none :: t => .int (f j) :: ab_fs ad f (j + 1) t
theorem ab_fs_ref {ad : Nat → Nat} {f : Nat → Int32} {fl : List (Option Nat)} : ∀ {j k r : Nat}, fl[k]? = some (some r) → (ab_fs ad f j fl)[k]? = some (.ref (ad r)) := by
  induction fl with
  | nil => intro j k r h; simp at h
  | cons o t ih =>
    intro j k r h
    match k, h with
    | 0, h => simp at h; subst h; simp [ab_fs]
    | k + 1, h =>
      have := ih (j := j + 1) (k := k) (r := r) (by simpa using h)
      cases o <;> simpa [ab_fs] using this
theorem ab_fs_int {ad : Nat → Nat} {f : Nat → Int32} {fl : List (Option Nat)} : ∀ {j k : Nat}, fl[k]? = some none → (ab_fs ad f j fl)[k]? = some (.int (f (j + k))) := by
  induction fl with
  | nil => intro j k h; simp at h
  | cons o t ih =>
    intro j k h
    match k, h with
    | 0, h => simp at h; subst h; simp [ab_fs]
    | k + 1, h =>
      have := ih (j := j + 1) (k := k) (by simpa using h)
      rw [show j + (k + 1) = j + 1 + k by omega]
      cases o <;> simpa [ab_fs] using this
theorem ab_fs_off {ad : Nat → Nat} {f g : Nat → Int32} {fl : List (Option Nat)} : ∀ {j : Nat}, (∀ k, j ≤ k → f k = g k) → ab_fs ad f j fl = ab_fs ad g j fl := by
  induction fl with
  | nil => intro j h; rfl
  | cons o t ih =>
    intro j h
    have := ih (j := j + 1) (fun k hk => h k (by omega))
    cases o
    · simp [ab_fs, this, h j (Nat.le_refl j)]
    · simp [ab_fs, this]
theorem ab_fs_set {ad : Nat → Nat} {x : Int32} {fl : List (Option Nat)} : ∀ {f : Nat → Int32} {j k : Nat}, fl[k]? = some none → (ab_fs ad f j fl).set k (.int x) = ab_fs ad (upd f (j + k) x) j fl := by
  induction fl with
  | nil => intro f j k h; simp at h
  | cons o t ih =>
    intro f j k h
    match k, h with
    | 0, h =>
      simp at h
      subst h
      have e : ab_fs ad f (j + 1) t = ab_fs ad (upd f j x) (j + 1) t := ab_fs_off (fun k hk => by unfold upd; rw [if_neg (by omega)])
      simp [ab_fs, e, upd]
    | k + 1, h =>
      have := ih (f := f) (j := j + 1) (k := k) (by simpa using h)
      rw [show j + (k + 1) = j + 1 + k by omega]
      cases o
      · have e : upd f (j + 1 + k) x j = f j := by unfold upd; rw [if_neg (by omega)]
        simp [ab_fs, this, e]
      · simp [ab_fs, this]
theorem ab_fs_len {ad : Nat → Nat} {f : Nat → Int32} {fl : List (Option Nat)} : ∀ {j : Nat}, (ab_fs ad f j fl).length = fl.length := by
  induction fl with
  | nil => intro j; rfl
  | cons o t ih => intro j; cases o <;> simp [ab_fs, ih]
def ab_cell (sh : ab_Sh) (ad : Nat → Nat) (dA : Nat → ClassId) (S : ab_S) (k : Nat) : va_E := match sh k with
  | .inl (t, n) => .inl (dA t, n, if t = 2 then .inr (.inl (S.2 k)) else .inl (S.1 k))
  | .inr (ci, fl) => .inr (ci, ab_fs ad (S.1 k) 0 fl)
def ab_W (sh : ab_Sh) (N : Nat) (ad : Nat → Nat) (dA : Nat → ClassId) (S : ab_S) : va_W := (List.range N).map fun k => (ad k, ab_cell sh ad dA S k)
theorem ab_W_get {sh : ab_Sh} {N : Nat} {ad : Nat → Nat} {dA : Nat → ClassId} {S : ab_S} {k : Nat} (hk : k < N) : (ab_W sh N ad dA S)[k]? = some (ad k, ab_cell sh ad dA S k) := by
  simp [ab_W, hk]
theorem ab_W_some {sh : ab_Sh} {N : Nat} {ad : Nat → Nat} {dA : Nat → ClassId} {S : ab_S} {k : Nat} {q : Nat × va_E} (h : (ab_W sh N ad dA S)[k]? = some q) : k < N ∧ q = (ad k, ab_cell sh ad dA S k) := by
  have hk : k < N := by
    have := (List.getElem?_eq_some_iff.mp h).1
    simpa [ab_W] using this
  rw [ab_W_get hk] at h
  cases h
  exact ⟨hk, rfl⟩
theorem ab_W_set {sh : ab_Sh} {N : Nat} {ad : Nat → Nat} {dA : Nat → ClassId} {S S' : ab_S} {q : Nat} {E : va_E} (hq : q < N) (e : ab_cell sh ad dA S' q = E) (o : ∀ k, k ≠ q → ab_cell sh ad dA S' k = ab_cell sh ad dA S k) : (ab_W sh N ad dA S).set q (ad q, E) = ab_W sh N ad dA S' := by
  apply List.ext_getElem?
  intro k
  rw [List.getElem?_set]
  by_cases hk : k < N
  · split
    · rename_i h
      subst h
      split
      · rw [ab_W_get hk, e]
      · rename_i h2
        exact absurd (by simpa [ab_W] using hq) h2
    · rename_i h
      rw [ab_W_get hk, ab_W_get hk, o k (fun z => h z.symm)]
  · have h1 : (ab_W sh N ad dA S')[k]? = none := by simp [ab_W]; omega
    have h2 : (ab_W sh N ad dA S)[k]? = none := by simp [ab_W]; omega
    rw [h1]
    split
    · omega
    · exact h2
/-- the cells' own addresses -/
def ab_A (N : Nat) (ad : Nat → Nat) : Nat → Prop := fun q => ∃ k, k < N ∧ q = ad k
theorem ab_D {sh : ab_Sh} {N : Nat} {ad : Nat → Nat} {dA : Nat → ClassId} {S : ab_S} (hinj : ∀ i j, i < N → j < N → ad i = ad j → i = j) : va_D (ab_A N ad) (ab_W sh N ad dA S) := by
  refine ⟨fun i j p q hi hj e => ?_, fun k q hk => ?_⟩
  · obtain ⟨h1, rfl⟩ := ab_W_some hi
    obtain ⟨h2, rfl⟩ := ab_W_some hj
    exact hinj i j h1 h2 e
  · obtain ⟨h1, rfl⟩ := ab_W_some hk
    exact ⟨k, h1, rfl⟩
theorem ab_cell_pI {sh : ab_Sh} {ad : Nat → Nat} {dA : Nat → ClassId} {S : ab_S} {q k : Nat} {f : Nat → Int32} (h : k ≠ q) : ab_cell sh ad dA (ab_pI S q f) k = ab_cell sh ad dA S k := by
  simp [ab_cell, ab_pI, h]
theorem ab_cell_pL {sh : ab_Sh} {ad : Nat → Nat} {dA : Nat → ClassId} {S : ab_S} {q k : Nat} {f : Nat → Int64} (h : k ≠ q) : ab_cell sh ad dA (ab_pL S q f) k = ab_cell sh ad dA S k := by
  simp [ab_cell, ab_pL, h]
theorem ab_cell_arr {sh : ab_Sh} {ad : Nat → Nat} {dA : Nat → ClassId} {S : ab_S} {q t n : Nat} (h : sh q = .inl (t, n)) (ht : t ≠ 2) : ab_cell sh ad dA S q = .inl (dA t, n, .inl (S.1 q)) := by
  simp [ab_cell, h, ht]
theorem ab_cell_arrL {sh : ab_Sh} {ad : Nat → Nat} {dA : Nat → ClassId} {S : ab_S} {q n : Nat} (h : sh q = .inl (2, n)) : ab_cell sh ad dA S q = .inl (dA 2, n, .inr (.inl (S.2 q))) := by
  simp [ab_cell, h]
theorem ab_cell_obj {sh : ab_Sh} {ad : Nat → Nat} {dA : Nat → ClassId} {S : ab_S} {q ci : Nat} {fl : List (Option Nat)} (h : sh q = .inr (ci, fl)) : ab_cell sh ad dA S q = .inr (ci, ab_fs ad (S.1 q) 0 fl) := by
  simp [ab_cell, h]
theorem ab_pI_at (S : ab_S) (q : Nat) (f : Nat → Int32) : (ab_pI S q f).1 q = f := by simp [ab_pI]
theorem ab_pL_at (S : ab_S) (q : Nat) (f : Nat → Int64) : (ab_pL S q f).2 q = f := by simp [ab_pL]
end
section
/-! ===== one instruction of the small machine is one of the great one ===== -/
/-- what the tables must say for an instruction -/
def ab_lk (U : List Cond) (cl : List vw_C) (pr : List ab_M) (own : String) (pc : Nat) (i : Instr) (a b : Nat) : Prop := match i with
  | .getfield idx => ∃ C T N', cl[a]? = some (C, T, N') ∧ b < N' ∧ Cond.fieldLink own idx (T b).1 (T b).2.1 (T b).2.2.1 ∈ U
  | .putfield idx => ∃ C T N', cl[a]? = some (C, T, N') ∧ (if b < 1000 then b else b - 1000) < N' ∧ Cond.fieldLink own idx (T (if b < 1000 then b else b - 1000)).1 (T (if b < 1000 then b else b - 1000)).2.1 (T (if b < 1000 then b else b - 1000)).2.2.1 ∈ U ∧ (T (if b < 1000 then b else b - 1000)).2.2.2 = false ∧ parseFieldDescriptor (T (if b < 1000 then b else b - 1000)).2.2.1 = some (if b < 1000 then .int else .boolean)
  | .ldc idx => Cond.constant own idx (ab_num a b) ∈ U
  | .ldc_w idx => Cond.constant own idx (ab_num a b) ∈ U
  | .ldc2_w idx => Cond.constantLong own idx (ab_lnum a b) ∈ U
  | .goto off => (pc : Int) + off = (a : Int)
  | .if_icmp _ off => (pc : Int) + off = (a : Int)
  | .ifCond _ off => (pc : Int) + off = (a : Int)
  | .tableswitch d _ _ _ => 0 ≤ d
  | .lookupswitch _ ps => (ps.toList.zip (ps.toList.drop 1)).all (fun (a, next) => a.1 < next.1) = true
  | .arraylength => a ≤ 2
  | .invokevirtual idx => ∃ M, pr[a]? = some M ∧ Cond.methodLink own idx M.1 ∈ U ∧ Cond.instanceMethod M.1 ∈ U ∧ Cond.selects M.1.cls M.1 M.1 ∈ U ∧ (∃ T N', cl[M.2.1]? = some (M.1.cls, T, N')) ∧ (parseMethodDescriptor M.1.desc).map (fun d => d.parameters.length) = some b
  | .invokestatic idx => if a = 1000 then Cond.methodLink own idx Lib.Math.max.name ∈ U ∧ Cond.static Lib.Math.max.name ∈ U ∧ Cond.initialized "java/lang/Math" ∈ U ∧ Cond.code Lib.Math.max.name Lib.Math.max.code 2 (some .int) ∈ U
    else if a = 1001 then Cond.methodLink own idx Lib.Math.min.name ∈ U ∧ Cond.static Lib.Math.min.name ∈ U ∧ Cond.initialized "java/lang/Math" ∈ U ∧ Cond.code Lib.Math.min.name Lib.Math.min.code 2 (some .int) ∈ U
    else if a = 1002 then Cond.methodLink own idx arraycopyName ∈ U ∧ Cond.native arraycopyName ∈ U ∧ Cond.static arraycopyName ∈ U ∧ Cond.initialized "java/lang/System" ∈ U
    else ∃ M, pr[a]? = some M ∧ Cond.methodLink own idx M.1 ∈ U ∧ Cond.static M.1 ∈ U ∧ (parseMethodDescriptor M.1.desc).map (fun d => d.parameters.length) = some b
  | _ => True
/-- what the tables must say for a method as it is called -/
def ab_mk (U : List Cond) (M : ab_M) : Prop := Cond.code M.1 M.2.2.1 M.2.2.2.1 M.2.2.2.2.1 ∈ U ∧ Cond.initialized M.1.cls ∈ U ∧ M.1.cls ≠ "java/lang/invoke/MethodHandle" ∧ M.1.cls ≠ "java/lang/invoke/VarHandle" ∧ plainName M.1.cls = true ∧ M.2.2.2.1 ≤ 21
/-- what the tables must say for a kind of objects -/
def ab_ck (U : List Cond) (cl : List vw_C) : Prop := ∀ (ci : Nat) (C : String) (T : u_T) (N' : Nat), cl[ci]? = some (C, T, N') → (∀ w ∈ u_ws C T N', w ∈ U) ∧ (∃ ty0 : Nat → FieldType, ∀ k, k < N' → parseFieldDescriptor (T k).2.2.1 = some (ty0 k)) ∧ ∀ a, a < N' → ∀ b, b < N' → a ≠ b → (T a).2.1 ≠ (T b).2.1
def ab_rm (d : Nat) : Room := { frames := d, cells := 0, slots := 0, locals := 100 * d }
def ab_tys (dA : Nat → ClassId) : List (ClassId × FieldType) := [(dA 0, .int), (dA 1, .boolean), (dA 2, .long)]
def ab_Pc (D : va_G) (cl : List vw_C) (sh : ab_Sh) (N : Nat) (ad : Nat → Nat) (dA : Nat → ClassId) (as : List Value) (S : ab_S) : Array Value → State → Prop := va_Pc (as.map (ab_v ad)) fun u => va_P D cl (ab_W sh N ad dA S) u.heap ∧ va_K D cl (ab_tys dA) u
def ab_Qc (D : va_G) (cl : List vw_C) (sh : ab_Sh) (N : Nat) (ad : Nat → Nat) (dA : Nat → ClassId) (Q : ab_Q) : Array Value → State → Outcome → State → Prop := fun _ st oc t => (∃ (r : Option Value) (u : ab_S), oc = .returned r ∧ (r = none ∨ ∃ z : Int32, r = some (.int z)) ∧ Q r u ∧ va_P D cl (ab_W sh N ad dA u) t.heap) ∧ va_F (ab_A N ad) st t
def ab_met (l : Launch) (D : va_G) (cl : List vw_C) (sh : ab_Sh) (N : Nat) (ad : Nat → Nat) (dA : Nat → ClassId) (U : List Cond) (d : Nat) (M : ab_M) (as : List Value) (S : ab_S) (Q : ab_Q) : Prop := Met l M.1 (Cond.code M.1 M.2.2.1 M.2.2.2.1 M.2.2.2.2.1 :: U) (ab_rm d) (ab_Pc D cl sh N ad dA as S) (ab_Qc D cl sh N ad dA Q) 0 0 (ab_A N ad)
section AB
variable {p : Program} {l : Launch} {e : Env} {R : Room} {s : State} {m : MethodId} {args : Array Value} {below : List Frame} {meth : Method} {c : Code} {Z : State → Prop}
variable {D : va_G} {cl : List vw_C} {sh : ab_Sh} {N : Nat} {ad : Nat → Nat} {dA : Nat → ClassId} {nL : Nat}
/-- a call has come back -/
theorem ab_back {A : Nat → Prop} {cells slots : Nat} (hA : ∀ q, ab_A N ad q → A q) {Q : ab_Q} {H : Heap} {locs : List Loc} {pc : Nat} {ls : Array Slot} {st0 rest : List Value} {a : Array Value}
    (hr : va_Run p l e R s m args below meth c H locs cells slots 0 0 (F0 m pc ls st0) rest (ab_Qc D cl sh N ad dA Q a) (ab_A N ad)) (hS : va_S A s.heap H locs)
    (kk : ∀ (r : Option Value) (u : ab_S) (H1 : Heap) (locs1 : List Loc), (r = none ∨ ∃ z : Int32, r = some (.int z)) → Q r u → va_P D cl (ab_W sh N ad dA u) H1 → va_S A s.heap H1 locs1 → W p l e R s m args below meth c H1 locs1 cells slots Z (F0 m (pc + 3) ls (r.toList ++ rest))) :
    W p l e R s m args below meth c H locs cells slots Z (F0 m pc ls st0) := by
  intro T hT X
  obtain ⟨v, st₀, t, T', L, h0, X', hL, e1, e2, ⟨⟨r, u, hv, hz0, hp, hb⟩, hz, hk⟩, st⟩ := hr T hT X
  cases hv
  rw [h0] at hz hk
  obtain ⟨t2, a1, b1⟩ := kk _ u T'.heap (locs ++ L) hz0 hp (by rw [e1]; exact hb)
    ⟨Nat.le_trans hS.1 (by rw [e1]; exact hz), fun q h1 h2 => by rw [e1, hk q (Nat.lt_of_lt_of_le h1 hS.1) (fun z => h2 (hA q z))]; exact hS.2.1 q h1 h2, fun q hq => by
      rcases List.mem_append.mp hq with h | h
      · exact hS.2.2 q h
      · exact hA _ (hL q h)⟩ T' rfl X'
  exact ⟨t2, st t2 a1, b1⟩
/-- the great machine goes on well from here -/
def ab_G (p : Program) (l : Launch) (e : Env) (R : Room) (s : State) (m : MethodId) (args : Array Value) (below : List Frame) (meth : Method) (c : Code) (Z : State → Prop) (D : va_G) (cl : List vw_C) (sh : ab_Sh) (N : Nat) (ad : Nat → Nat) (dA : Nat → ClassId) (A : Nat → Prop) (cells slots : Nat) (nL : Nat) (pc : Nat) (L : ab_L) (st : List Value) (S : ab_S) : Prop :=
  ∀ (H : Heap) (locs : List Loc) (ls : Array Slot), va_P D cl (ab_W sh N ad dA S) H → va_S A s.heap H locs → ab_Lr ad L ls nL → W p l e R s m args below meth c H locs cells slots Z (F0 m pc ls (st.map (ab_v ad)))
theorem ab_sum4 : ∀ (st : List Value), st.length ≤ 4 → (st.map fun v => v.category).sum ≤ 8 := by
  have h : ∀ v : Value, v.category ≤ 2 := fun v => by rcases lv_cat v with h | h <;> omega
  intro st hst
  match st, hst with
  | [], _ => decide
  | [a], _ => have := h a; simp; omega
  | [a, b], _ => have := h a; have := h b; simp; omega
  | [a, b, c], _ => have := h a; have := h b; have := h c; simp; omega
  | [a, b, c, d], _ => have := h a; have := h b; have := h c; have := h d; simp; omega
theorem ab_bool {x : Int32} (h : x = 0 ∨ x = 1) : narrow .boolean (.int x) = .int x ∧ fits .boolean (.int x) = true ∧ vp_nar .boolean x = x := by
  rcases h with rfl | rfl <;> decide +kernel
theorem ab_blind {as : List Value} {S : ab_S} : FrameBlind (ab_Pc D cl sh N ad dA as S) := fun a U g mk q => by
  obtain ⟨q0, q1, q2⟩ := q
  exact ⟨q0, q1, va_K.moved (u := U) (U := U.calling g mk a) (Vm.Alike.refl U.vm) q2⟩
theorem ab_ri (ad : Nat → Nat) {r : Option Value} (h : r = none ∨ ∃ z : Int32, r = some (.int z)) (rest : List Value) : (r.toList ++ rest).map (ab_v ad) = r.toList ++ rest.map (ab_v ad) := by
  rcases h with rfl | ⟨z, rfl⟩ <;> rfl
end AB
end
section
/-- how long an instruction is -/
def ab_ln (i : Instr) (len : Nat) : Prop := match i with
  | .iload _ => len = 2
  | .lload _ => len = 2
  | .aload _ => len = 2
  | .istore _ => len = 2
  | .lstore _ => len = 2
  | .iinc _ _ => len = 3
  | .bipush _ => len = 2
  | .sipush _ => len = 3
  | .ldc _ => len = 2
  | .ldc_w _ => len = 3
  | .ldc2_w _ => len = 3
  | .getfield _ => len = 3
  | .putfield _ => len = 3
  | .goto _ => len = 3
  | .if_icmp _ _ => len = 3
  | .ifCond _ _ => len = 3
  | .invokevirtual _ => len = 3
  | .invokestatic _ => len = 3
  | .tableswitch _ _ _ _ => True
  | .lookupswitch _ _ => True
  | .new _ => True
  | .invokespecial _ => True
  | _ => len = 1
theorem ab_if {c A : Prop} [Decidable c] (h : if c then A else False) : c ∧ A := by
  split at h
  · exact ⟨by assumption, h⟩
  · exact h.elim
section AB2
variable {p : Program} {l : Launch} {e : Env} {R : Room} {s : State} {m : MethodId} {args : Array Value} {below : List Frame} {meth : Method} {c : Code}
variable {D : va_G} {cl : List vw_C} {sh : ab_Sh} {N : Nat} {ad : Nat → Nat} {dA : Nat → ClassId} {nL : Nat}
set_option maxHeartbeats 8000000 in
set_option maxRecDepth 20000 in
theorem ab_step {Z : State → Prop} {A : Nat → Prop} {cells slots : Nat} {sc : ab_X} {U : List Cond} {pr : List ab_M} {own : String} {cc : ByteArray} {d : Nat} {Q : ab_Q} {J : Nat → ab_L → List Value → ab_S → Prop} {K : ab_L → List Value → ab_S → Prop} {ret : Option FieldType} {pc len a b : Nat} {i : Instr} {L : ab_L} {st : List Value} {S : ab_S}
    (hx : p.tables.exec = Jvm.exec) (hb : c.code = cc) (hml : c.maxLocals = nL) (hown : s.vm.findClass own = some m.cls) 
    (hts : ∀ w ∈ U, w.before args s = true) (hU : ∀ w ∈ U, (w.onTables && w.keeps) = true ∨ ∃ ty, w = Cond.arrayClass ty)
    (hK : va_K D cl (ab_tys dA) s) (hck : ab_ck U cl) (hpr : ∀ (k : Nat) (M : ab_M), pr[k]? = some M → ab_mk U M)
    (hinj : ∀ i j, i < N → j < N → ad i = ad j → i = j) (hA : ∀ q, ab_A N ad q → A q) (hR : d + 1 ≤ R.frames ∧ 100 * (d + 1) ≤ R.locals ∧ cells ≤ R.cells ∧ slots ≤ R.slots)
    (hsc : ∀ n xs, sc = some (n, xs) → va_X (ad ab_scr) n xs s s.heap ∧ ad ab_scr < s.heap.size ∧ ¬ A (ad ab_scr))
    (hT : ∀ (k : Nat) (M : ab_M) (as : List Value) (S : ab_S) (Q : ab_Q), pr[k]? = some M → ab_T sh N pr d k as S Q → ab_met l D cl sh N ad dA U d M as S Q)
    (hd : decode cc pc = .ok (i, len)) (hln : ab_ln i len) (hlk : ab_lk U cl pr own pc i a b)
    (kK : ∀ L st S, K L st S → ab_G p l e R s m args below meth c Z D cl sh N ad dA A cells slots nL (pc + len) L st S)
    (kJ : ∀ t L st S, J t L st S → ab_G p l e R s m args below meth c Z D cl sh N ad dA A cells slots nL t L st S)
    (kR : ∀ (x : Int32) (S : ab_S) (H : Heap) (locs : List Loc) (ls : Array Slot), i = .ireturn → (ret = some .int ∨ (ret = some .boolean ∧ (x = 0 ∨ x = 1))) → Q (some (.int x)) S → va_P D cl (ab_W sh N ad dA S) H → va_S A s.heap H locs → W p l e R s m args below meth c H locs cells slots Z (F0 m pc ls [.int x]))
    (kV : ∀ (S : ab_S) (H : Heap) (locs : List Loc) (ls : Array Slot), i = .return_ → ret = none → Q none S → va_P D cl (ab_W sh N ad dA S) H → va_S A s.heap H locs → W p l e R s m args below meth c H locs cells slots Z (F0 m pc ls []))
    (h : ab_1 sc sh N (ab_oc pr) (ab_T sh N pr d) J Q ret pc i a b L st S K) :
    ab_G p l e R s m args below meth c Z D cl sh N ad dA A cells slots nL pc L st S := by
  intro H locs ls hP hS hL
  have hD : ∀ S : ab_S, va_D A (ab_W sh N ad dA S) := fun S => (ab_D hinj).weaken (fun _ _ _ z => hA _ z)
  cases i with
  | iload n =>
    obtain ⟨x, h1, h2⟩ := ld_i_of h
    obtain rfl : len = 2 := hln
    exact lv_iload hx hb hd (hL.at h1) (kK _ _ _ h2 H locs ls hP hS hL)
  | iload_n n =>
    obtain ⟨x, h1, h2⟩ := ld_i_of h
    obtain rfl : len = 1 := hln
    exact lv_iload_n hx hb hd rfl (hL.at h1) (kK _ _ _ h2 H locs ls hP hS hL)
  | lload n =>
    obtain ⟨x, h1, h2⟩ := ld_l_of h
    obtain rfl : len = 2 := hln
    exact lv_lload hx hb hd (hL.at h1) (kK _ _ _ h2 H locs ls hP hS hL)
  | lload_n n =>
    obtain ⟨x, h1, h2⟩ := ld_l_of h
    obtain rfl : len = 1 := hln
    exact lv_lload_n hx hb hd rfl (hL.at h1) (kK _ _ _ h2 H locs ls hP hS hL)
  | aload n =>
    obtain ⟨x, h1, h2⟩ := ld_r_of h
    obtain rfl : len = 2 := hln
    exact lv_aload hx hb hd (hL.at h1) (kK _ _ _ h2 H locs ls hP hS hL)
  | aload_n n =>
    obtain ⟨x, h1, h2⟩ := ld_r_of h
    obtain rfl : len = 1 := hln
    exact lv_aload_n hx hb hd rfl (hL.at h1) (kK _ _ _ h2 H locs ls hP hS hL)
  | istore n =>
    obtain ⟨x, r, rfl, h2⟩ := pop_i_of h
    obtain ⟨hn, h2⟩ := ab_if h2
    obtain rfl : len = 2 := hln
    exact lv_istore hx hb hd hL.2 (by rw [← hL.1]; exact hn) rfl (fun ls' h' => kK _ _ _ h2 H locs ls' hP hS (hL.set1 (v := .int x) hn h'))
  | istore_n n =>
    obtain ⟨x, r, rfl, h2⟩ := pop_i_of h
    obtain ⟨hn, h2⟩ := ab_if h2
    obtain rfl : len = 1 := hln
    exact lv_istore_n hx hb hd rfl hL.2 (by rw [← hL.1]; exact hn) rfl (fun ls' h' => kK _ _ _ h2 H locs ls' hP hS (hL.set1 (v := .int x) hn h'))
  | lstore n =>
    obtain ⟨x, r, rfl, h2⟩ := pop_l_of h
    obtain ⟨hn, h2⟩ := ab_if h2
    obtain rfl : len = 2 := hln
    exact lv_lstore hx hb hd hL.2 (by rw [← hL.1]; exact hn) rfl (fun ls' h' => kK _ _ _ h2 H locs ls' hP hS (hL.set2 (v := .long x) hn h'))
  | lstore_n n =>
    obtain ⟨x, r, rfl, h2⟩ := pop_l_of h
    obtain ⟨hn, h2⟩ := ab_if h2
    obtain rfl : len = 1 := hln
    exact lv_lstore_n hx hb hd rfl hL.2 (by rw [← hL.1]; exact hn) rfl (fun ls' h' => kK _ _ _ h2 H locs ls' hP hS (hL.set2 (v := .long x) hn h'))
  | iinc n w =>
    obtain ⟨x, h1, h2⟩ := ld_i_of h
    obtain ⟨hn, h2⟩ := ab_if h2
    obtain rfl : len = 3 := hln
    obtain ⟨k, hk⟩ := List.getElem?_of_mem (ab_as_mem (ad := ad).mpr ⟨_, h1, rfl⟩)
    exact lv_iinc hx hb hd hL.2 hk rfl (by rw [← hL.1]; exact hn) rfl (fun ls' h' => kK _ _ _ h2 H locs ls' hP hS (hL.set1 (v := .int (x + Int32.ofInt w)) hn h'))
  | iconst n =>
    obtain rfl : len = 1 := hln
    exact lv_iconst hx hb hd rfl (kK _ _ _ h H locs ls hP hS hL)
  | bipush n =>
    obtain rfl : len = 2 := hln
    exact lv_bipush hx hb hd rfl (kK _ _ _ h H locs ls hP hS hL)
  | sipush n =>
    obtain rfl : len = 3 := hln
    exact lv_sipush hx hb hd rfl (kK _ _ _ h H locs ls hP hS hL)
  | lconst n =>
    obtain rfl : len = 1 := hln
    exact lv_lconst hx hb hd rfl (kK _ _ _ h H locs ls hP hS hL)
  | ldc n =>
    obtain rfl : len = 2 := hln
    exact lv_ldc hx hb hown (hts _ hlk) hd (kK _ _ _ h H locs ls hP hS hL)
  | ldc_w n =>
    obtain rfl : len = 3 := hln
    exact lv_ldcw hx hb hown (hts _ hlk) hd (kK _ _ _ h H locs ls hP hS hL)
  | ldc2_w n =>
    obtain rfl : len = 3 := hln
    exact lv_ldc2 hx hb hown (hts _ hlk) hd (kK _ _ _ h H locs ls hP hS hL)
  | dup =>
    obtain rfl : len = 1 := hln
    match st, h with
    | v :: r, h =>
      obtain ⟨h1, h2⟩ := ab_if h
      exact lv_dup hx hb hd ((ab_v_cat ad v).trans h1) (kK _ _ _ h2 H locs ls hP hS hL)
    | [], h => exact h.elim
  | dup2 =>
    obtain rfl : len = 1 := hln
    match st, h with
    | v :: w :: r, h =>
      obtain ⟨h1, h2⟩ := ab_if h
      obtain ⟨h3, h4⟩ := ab_if h2
      exact lv_dup2_11 hx hb hd ((ab_v_cat ad v).trans h1) ((ab_v_cat ad w).trans h3) (kK _ _ _ h4 H locs ls hP hS hL)
    | [_], h => exact h.elim
    | [], h => exact h.elim
  | iadd =>
    obtain rfl : len = 1 := hln
    obtain ⟨y, r, rfl, h2⟩ := pop_i_of h
    obtain ⟨x, r, rfl, h2⟩ := pop_i_of h2
    exact lv_iadd hx hb hd (kK _ _ _ h2 H locs ls hP hS hL)
  | isub =>
    obtain rfl : len = 1 := hln
    obtain ⟨y, r, rfl, h2⟩ := pop_i_of h
    obtain ⟨x, r, rfl, h2⟩ := pop_i_of h2
    exact lv_isub hx hb hd (kK _ _ _ h2 H locs ls hP hS hL)
  | imul =>
    obtain rfl : len = 1 := hln
    obtain ⟨y, r, rfl, h2⟩ := pop_i_of h
    obtain ⟨x, r, rfl, h2⟩ := pop_i_of h2
    exact lv_imul hx hb hd (kK _ _ _ h2 H locs ls hP hS hL)
  | idiv =>
    obtain rfl : len = 1 := hln
    obtain ⟨y, r, rfl, h2⟩ := pop_i_of h
    obtain ⟨x, r, rfl, h2⟩ := pop_i_of h2
    exact lv_idiv hx hb hd h2.1 (kK _ _ _ h2.2 H locs ls hP hS hL)
  | irem =>
    obtain rfl : len = 1 := hln
    obtain ⟨y, r, rfl, h2⟩ := pop_i_of h
    obtain ⟨x, r, rfl, h2⟩ := pop_i_of h2
    exact lv_irem hx hb hd h2.1 (kK _ _ _ h2.2 H locs ls hP hS hL)
  | iand =>
    obtain rfl : len = 1 := hln
    obtain ⟨y, r, rfl, h2⟩ := pop_i_of h
    obtain ⟨x, r, rfl, h2⟩ := pop_i_of h2
    exact lv_iand hx hb hd (kK _ _ _ h2 H locs ls hP hS hL)
  | ior =>
    obtain rfl : len = 1 := hln
    obtain ⟨y, r, rfl, h2⟩ := pop_i_of h
    obtain ⟨x, r, rfl, h2⟩ := pop_i_of h2
    exact lv_ior hx hb hd (kK _ _ _ h2 H locs ls hP hS hL)
  | ishr =>
    obtain rfl : len = 1 := hln
    obtain ⟨y, r, rfl, h2⟩ := pop_i_of h
    obtain ⟨x, r, rfl, h2⟩ := pop_i_of h2
    exact lv_ishr hx hb hd (kK _ _ _ h2 H locs ls hP hS hL)
  | iushr =>
    obtain rfl : len = 1 := hln
    obtain ⟨y, r, rfl, h2⟩ := pop_i_of h
    obtain ⟨x, r, rfl, h2⟩ := pop_i_of h2
    exact lv_iushr hx hb hd rfl (kK _ _ _ h2 H locs ls hP hS hL)
  | i2l =>
    obtain rfl : len = 1 := hln
    obtain ⟨x, r, rfl, h2⟩ := pop_i_of h
    exact lv_i2l hx hb hd rfl (kK _ _ _ h2 H locs ls hP hS hL)
  | ladd =>
    obtain rfl : len = 1 := hln
    obtain ⟨y, r, rfl, h2⟩ := pop_l_of h
    obtain ⟨x, r, rfl, h2⟩ := pop_l_of h2
    exact lv_ladd hx hb hd (kK _ _ _ h2 H locs ls hP hS hL)
  | lmul =>
    obtain rfl : len = 1 := hln
    obtain ⟨y, r, rfl, h2⟩ := pop_l_of h
    obtain ⟨x, r, rfl, h2⟩ := pop_l_of h2
    exact lv_lmul hx hb hd (kK _ _ _ h2 H locs ls hP hS hL)
  | land =>
    obtain rfl : len = 1 := hln
    obtain ⟨y, r, rfl, h2⟩ := pop_l_of h
    obtain ⟨x, r, rfl, h2⟩ := pop_l_of h2
    exact lv_land hx hb hd (kK _ _ _ h2 H locs ls hP hS hL)
  | lor =>
    obtain rfl : len = 1 := hln
    obtain ⟨y, r, rfl, h2⟩ := pop_l_of h
    obtain ⟨x, r, rfl, h2⟩ := pop_l_of h2
    exact lv_lor hx hb hd (kK _ _ _ h2 H locs ls hP hS hL)
  | lxor =>
    obtain rfl : len = 1 := hln
    obtain ⟨y, r, rfl, h2⟩ := pop_l_of h
    obtain ⟨x, r, rfl, h2⟩ := pop_l_of h2
    exact lv_lxor hx hb hd (kK _ _ _ h2 H locs ls hP hS hL)
  | lshl =>
    obtain rfl : len = 1 := hln
    obtain ⟨y, r, rfl, h2⟩ := pop_i_of h
    obtain ⟨x, r, rfl, h2⟩ := pop_l_of h2
    exact lv_lshl hx hb hd rfl (kK _ _ _ h2 H locs ls hP hS hL)
  | lshr =>
    obtain rfl : len = 1 := hln
    obtain ⟨y, r, rfl, h2⟩ := pop_i_of h
    obtain ⟨x, r, rfl, h2⟩ := pop_l_of h2
    exact lv_lshr hx hb hd rfl (kK _ _ _ h2 H locs ls hP hS hL)
  | lushr =>
    obtain rfl : len = 1 := hln
    obtain ⟨y, r, rfl, h2⟩ := pop_i_of h
    obtain ⟨x, r, rfl, h2⟩ := pop_l_of h2
    exact lv_lushr hx hb hd rfl (kK _ _ _ h2 H locs ls hP hS hL)
  | lcmp =>
    obtain rfl : len = 1 := hln
    obtain ⟨y, r, rfl, h2⟩ := pop_l_of h
    obtain ⟨x, r, rfl, h2⟩ := pop_l_of h2
    exact W.lcmp hx hb hd (kK _ _ _ h2 H locs ls hP hS hL)
  | getfield idx =>
    obtain rfl : len = 3 := hln
    obtain ⟨q, r, rfl, h2⟩ := pop_r_of h
    obtain ⟨hq, fl, hsh, h3⟩ := ab_obj_of h2
    obtain ⟨C, T, N', hc, hk, hlink⟩ := hlk
    obtain ⟨w1, -, -⟩ := hck a C T N' hc
    have hcell : (ab_W sh N ad dA S)[q]? = some (ad q, .inr (a, ab_fs ad (S.1 q) 0 fl)) := by rw [ab_W_get hq, ab_cell_obj hsh]
    split at h3
    · rename_i r' e
      exact va_get hx hb hts w1 hown hK hP q hcell hc b hk (hts _ hlink) (fun _ h9 => h9) (ab_fs_ref e) hd (kK _ _ _ h3 H locs ls hP hS hL)
    · rename_i e
      have e2 := ab_fs_int (ad := ad) (f := S.1 q) (j := 0) e
      rw [Nat.zero_add] at e2
      exact va_get hx hb hts w1 hown hK hP q hcell hc b hk (hts _ hlink) (fun _ h9 => h9) e2 hd (kK _ _ _ h3 H locs ls hP hS hL)
    · exact h3.elim
  | putfield idx =>
    obtain rfl : len = 3 := hln
    obtain ⟨x, r, rfl, h2⟩ := pop_i_of h
    obtain ⟨q, r, rfl, h2⟩ := pop_r_of h2
    obtain ⟨hq, fl, hsh, h3⟩ := ab_obj_of h2
    obtain ⟨C, T, N', hc, hk, hlink, hfin, hpd⟩ := hlk
    obtain ⟨w1, ⟨ty0, w2⟩, w3⟩ := hck a C T N' hc
    have hcell : (ab_W sh N ad dA S)[q]? = some (ad q, .inr (a, ab_fs ad (S.1 q) 0 fl)) := by rw [ab_W_get hq, ab_cell_obj hsh]
    by_cases hb1 : b < 1000
    · rw [if_pos hb1] at h3 hk hlink hfin hpd
      rw [if_pos hb1] at hpd
      split at h3
      · rename_i e
        refine va_put (v := .int x) hx hb hts w1 ty0 w2 w3 hown hK hP (hD S) hS q hcell hc b hk (hts _ hlink) (fun _ h9 => h9) hfin hpd rfl rfl (by rw [ab_fs_len]; exact (List.getElem?_eq_some_iff.mp e).1) hd (fun H1 locs1 hP1 hD1 hS1 => ?_)
        rw [ab_fs_set e, Nat.zero_add, ab_W_set (S' := ab_pI S q (upd (S.1 q) b x)) hq (by rw [ab_cell_obj hsh, ab_pI_at]) (fun k hk => ab_cell_pI hk)] at hP1
        exact kK _ _ _ h3 H1 locs1 ls hP1 hS1 hL
      · exact h3.elim
    · rw [if_neg hb1] at h3 hk hlink hfin hpd
      rw [if_neg hb1] at hpd
      split at h3
      · rename_i e
        obtain ⟨hx1, h3⟩ := h3
        refine va_put (v := .int x) hx hb hts w1 ty0 w2 w3 hown hK hP (hD S) hS q hcell hc (b - 1000) hk (hts _ hlink) (fun _ h9 => h9) hfin hpd (ab_bool hx1).1 (ab_bool hx1).2.1 (by rw [ab_fs_len]; exact (List.getElem?_eq_some_iff.mp e).1) hd (fun H1 locs1 hP1 hD1 hS1 => ?_)
        rw [ab_fs_set e, Nat.zero_add, ab_W_set (S' := ab_pI S q (upd (S.1 q) (b - 1000) x)) hq (by rw [ab_cell_obj hsh, ab_pI_at]) (fun k hk => ab_cell_pI hk)] at hP1
        exact kK _ _ _ h3 H1 locs1 ls hP1 hS1 hL
      · exact h3.elim
  | iaload =>
    obtain rfl : len = 1 := hln
    obtain ⟨j, r, rfl, h2⟩ := pop_i_of h
    obtain ⟨q, r, rfl, h5⟩ := pop_r_of h2
    by_cases hsq : q = ab_scr
    · rw [if_pos hsq] at h5
      subst hsq
      obtain ⟨n, xs, e1, h6⟩ := ab_sx_of h5
      obtain ⟨hX, hbl, hbA⟩ := hsc n xs e1
      exact va_sld hx hb hX hbl hbA hS h6.1 hd (kK _ _ _ h6.2 H locs ls hP hS hL)
    rw [if_neg hsq] at h5
    obtain ⟨hq, n, hsh, h3, h4⟩ := ab_arr_of h5
    have hcell : (ab_W sh N ad dA S)[q]? = some (ad q, .inl (dA 0, n, .inl (S.1 q))) := by rw [ab_W_get hq, ab_cell_arr hsh (by decide)]
    exact va_iald hx hb hK hP q 0 hcell rfl h3 hd (kK _ _ _ h4 H locs ls hP hS hL)
  | baload =>
    obtain rfl : len = 1 := hln
    obtain ⟨j, r, rfl, h2⟩ := pop_i_of h
    obtain ⟨q, r, rfl, h2⟩ := pop_r_of h2
    obtain ⟨hq, n, hsh, h3, h4⟩ := ab_arr_of h2
    have hcell : (ab_W sh N ad dA S)[q]? = some (ad q, .inl (dA 1, n, .inl (S.1 q))) := by rw [ab_W_get hq, ab_cell_arr hsh (by decide)]
    exact va_zald hx hb hK hP q 1 hcell rfl h3 hd (kK _ _ _ h4 H locs ls hP hS hL)
  | laload =>
    obtain rfl : len = 1 := hln
    obtain ⟨j, r, rfl, h2⟩ := pop_i_of h
    obtain ⟨q, r, rfl, h2⟩ := pop_r_of h2
    obtain ⟨hq, n, hsh, h3, h4⟩ := ab_arr_of h2
    have hcell : (ab_W sh N ad dA S)[q]? = some (ad q, .inl (dA 2, n, .inr (.inl (S.2 q)))) := by rw [ab_W_get hq, ab_cell_arrL hsh]
    exact va_lald hx hb hK hP q 2 hcell rfl h3 hd (kK _ _ _ h4 H locs ls hP hS hL)
  | iastore =>
    obtain rfl : len = 1 := hln
    obtain ⟨x, r, rfl, h2⟩ := pop_i_of h
    obtain ⟨j, r, rfl, h2⟩ := pop_i_of h2
    obtain ⟨q, r, rfl, h2⟩ := pop_r_of h2
    obtain ⟨hq, n, hsh, h3, h4⟩ := ab_arr_of h2
    have hcell : (ab_W sh N ad dA S)[q]? = some (ad q, .inl (dA 0, n, .inl (S.1 q))) := by rw [ab_W_get hq, ab_cell_arr hsh (by decide)]
    refine va_iast hx hb hK hP (hD S) hS q 0 hcell rfl h3 hd (fun H1 locs1 hP1 hD1 hS1 => ?_)
    rw [ab_W_set (S' := ab_pI S q (upd (S.1 q) j.toNatClampNeg x)) hq (by rw [ab_cell_arr hsh (by decide), ab_pI_at]) (fun k hk => ab_cell_pI hk)] at hP1
    exact kK _ _ _ h4 H1 locs1 ls hP1 hS1 hL
  | bastore =>
    obtain rfl : len = 1 := hln
    obtain ⟨x, r, rfl, h2⟩ := pop_i_of h
    obtain ⟨j, r, rfl, h2⟩ := pop_i_of h2
    obtain ⟨q, r, rfl, h2⟩ := pop_r_of h2
    obtain ⟨hq, n, hsh, h3, h5, h4⟩ := ab_arr_of h2
    have hcell : (ab_W sh N ad dA S)[q]? = some (ad q, .inl (dA 1, n, .inl (S.1 q))) := by rw [ab_W_get hq, ab_cell_arr hsh (by decide)]
    refine va_zast hx hb hK hP (hD S) hS q 1 hcell rfl h3 hd (fun H1 locs1 hP1 hD1 hS1 => ?_)
    rw [(ab_bool h5).2.2, ab_W_set (S' := ab_pI S q (upd (S.1 q) j.toNatClampNeg x)) hq (by rw [ab_cell_arr hsh (by decide), ab_pI_at]) (fun k hk => ab_cell_pI hk)] at hP1
    exact kK _ _ _ h4 H1 locs1 ls hP1 hS1 hL
  | lastore =>
    obtain rfl : len = 1 := hln
    obtain ⟨x, r, rfl, h2⟩ := pop_l_of h
    obtain ⟨j, r, rfl, h2⟩ := pop_i_of h2
    obtain ⟨q, r, rfl, h2⟩ := pop_r_of h2
    obtain ⟨hq, n, hsh, h3, h4⟩ := ab_arr_of h2
    have hcell : (ab_W sh N ad dA S)[q]? = some (ad q, .inl (dA 2, n, .inr (.inl (S.2 q)))) := by rw [ab_W_get hq, ab_cell_arrL hsh]
    refine va_last hx hb hK hP (hD S) hS q 2 hcell rfl h3 hd (fun H1 locs1 hP1 hD1 hS1 => ?_)
    rw [ab_W_set (S' := ab_pL S q (vp_updL (S.2 q) j.toNatClampNeg x)) hq (by rw [ab_cell_arrL hsh, ab_pL_at]) (fun k hk => ab_cell_pL hk)] at hP1
    exact kK _ _ _ h4 H1 locs1 ls hP1 hS1 hL
  | arraylength =>
    obtain rfl : len = 1 := hln
    obtain ⟨q, r, rfl, h2⟩ := pop_r_of h
    by_cases hsq : q = ab_scr
    · rw [if_pos hsq] at h2
      subst hsq
      obtain ⟨n, xs, e1, h6⟩ := ab_sx_of h2
      obtain ⟨hX, hbl, hbA⟩ := hsc n xs e1
      exact va_slen hx hb hX hbl hbA hS hd (kK _ _ _ h6 H locs ls hP hS hL)
    rw [if_neg hsq] at h2
    obtain ⟨hq, n, hsh, h3⟩ := ab_arr_of h2
    obtain ⟨ty, hty⟩ : ∃ ty, (ab_tys dA)[a]? = some (dA a, ty) := by
      have ha : a ≤ 2 := hlk
      rcases (show a = 0 ∨ a = 1 ∨ a = 2 by omega) with rfl | rfl | rfl
      · exact ⟨_, rfl⟩
      · exact ⟨_, rfl⟩
      · exact ⟨_, rfl⟩
    have hcell : (ab_W sh N ad dA S)[q]? = some (ad q, .inl (dA a, n, if a = 2 then .inr (.inl (S.2 q)) else .inl (S.1 q))) := by rw [ab_W_get hq]; simp [ab_cell, hsh]
    exact va_alen hx hb hK hP q a hcell hty rfl hd (kK _ _ _ h3 H locs ls hP hS hL)
  | goto off =>
    exact lv_goto hx hb (by obtain rfl : len = 3 := hln; exact hd) hlk (kJ _ _ _ _ h H locs ls hP hS hL)
  | if_icmp cn off =>
    obtain rfl : len = 3 := hln
    obtain ⟨y, r, rfl, h2⟩ := pop_i_of h
    obtain ⟨x, r, rfl, h2⟩ := pop_i_of h2
    cases cn with
    | eq => exact lv_icmp_eq hx hb hd hlk (fun z => kJ _ _ _ _ (h2.1 z) H locs ls hP hS hL) (fun z => kK _ _ _ (h2.2 z) H locs ls hP hS hL)
    | ne => exact lv_icmp_ne hx hb hd hlk (fun z => kJ _ _ _ _ (h2.1 z) H locs ls hP hS hL) (fun z => kK _ _ _ (h2.2 z) H locs ls hP hS hL)
    | lt => exact lv_icmp_lt hx hb hd hlk (fun z => kJ _ _ _ _ (h2.1 z) H locs ls hP hS hL) (fun z => kK _ _ _ (h2.2 z) H locs ls hP hS hL)
    | ge => exact lv_icmp_ge hx hb hd hlk (fun z => kJ _ _ _ _ (h2.1 z) H locs ls hP hS hL) (fun z => kK _ _ _ (h2.2 z) H locs ls hP hS hL)
    | gt => exact lv_icmp_gt hx hb hd hlk (fun z => kJ _ _ _ _ (h2.1 z) H locs ls hP hS hL) (fun z => kK _ _ _ (h2.2 z) H locs ls hP hS hL)
    | le => exact lv_icmp_le hx hb hd hlk (fun z => kJ _ _ _ _ (h2.1 z) H locs ls hP hS hL) (fun z => kK _ _ _ (h2.2 z) H locs ls hP hS hL)
  | ifCond cn off =>
    obtain rfl : len = 3 := hln
    obtain ⟨x, r, rfl, h2⟩ := pop_i_of h
    cases cn with
    | eq => exact lv_if_eq hx hb hd hlk (fun z => kJ _ _ _ _ (h2.1 z) H locs ls hP hS hL) (fun z => kK _ _ _ (h2.2 z) H locs ls hP hS hL)
    | ne => exact lv_if_ne hx hb hd hlk (fun z => kJ _ _ _ _ (h2.1 z) H locs ls hP hS hL) (fun z => kK _ _ _ (h2.2 z) H locs ls hP hS hL)
    | lt => exact lv_if_lt hx hb hd hlk (fun z => kJ _ _ _ _ (h2.1 z) H locs ls hP hS hL) (fun z => kK _ _ _ (h2.2 z) H locs ls hP hS hL)
    | ge => exact lv_if_ge hx hb hd hlk (fun z => kJ _ _ _ _ (h2.1 z) H locs ls hP hS hL) (fun z => kK _ _ _ (h2.2 z) H locs ls hP hS hL)
    | gt => exact lv_if_gt hx hb hd hlk (fun z => kJ _ _ _ _ (h2.1 z) H locs ls hP hS hL) (fun z => kK _ _ _ (h2.2 z) H locs ls hP hS hL)
    | le => exact lv_if_le hx hb hd hlk (fun z => kJ _ _ _ _ (h2.1 z) H locs ls hP hS hL) (fun z => kK _ _ _ (h2.2 z) H locs ls hP hS hL)
  | tableswitch df lo hi offs =>
    obtain ⟨x, r, rfl, h2⟩ := pop_i_of h
    have hdf : 0 ≤ df := hlk
    by_cases z : x.toInt < lo ∨ hi < x.toInt
    · exact lv_tableOut hx hb hd z (by omega) (kJ _ _ _ _ (h2.1 z) H locs ls hP hS hL)
    · obtain ⟨o, ho, hj⟩ := h2.2 (fun y => z (Or.inl y)) (fun y => z (Or.inr y))
      exact lv_tableIn hx hb hd (fun y => z (Or.inl y)) (fun y => z (Or.inr y)) ho (by omega) (kJ _ _ _ _ hj H locs ls hP hS hL)
  | lookupswitch df ps =>
    obtain ⟨x, r, rfl, h2⟩ := pop_i_of h
    obtain ⟨o, ho, hj⟩ := h2
    exact lv_lookup hx hb hd hlk ho (by omega) (kJ _ _ _ _ hj H locs ls hP hS hL)
  | invokevirtual idx =>
    obtain rfl : len = 3 := hln
    obtain ⟨h4, h⟩ := ab_if h
    split at h
    · rename_i q r e1
      obtain ⟨hq, fl, hsh, h2⟩ := ab_obj_of h
      obtain ⟨M, hM, k1, k2, k3, ⟨T, N', hc⟩, hpar⟩ := hlk
      have hoc : ab_oc pr a = M.2.1 := by simp [ab_oc, hM]
      rw [hoc] at hsh
      obtain ⟨m1, m2, m3, m4, m5, m6⟩ := hpr a M hM
      have hmet := hT a M _ S _ hM h2
      have hst : st = st.take b ++ .ref q :: r := by rw [← e1, List.take_append_drop]
      have hlen : b < st.length := by
        have : (st.drop b).length = r.length + 1 := by rw [e1]; rfl
        rw [List.length_drop] at this
        omega
      have hr1 : st.drop (b + 1) = r := by rw [← List.tail_drop, e1]; rfl
      have hcell : (ab_W sh N ad dA S)[q]? = some (ad q, .inr (M.2.1, ab_fs ad (S.1 q) 0 fl)) := by rw [ab_W_get hq, ab_cell_obj hsh]
      have hG : GoodIn U (Cond.code M.1 M.2.2.1 M.2.2.2.1 M.2.2.2.2.1 :: U) := fun w hw => by
        rcases List.mem_cons.mp hw with rfl | hw
        · exact ⟨m1, hU _ m1⟩
        · exact ⟨hw, hU _ hw⟩
      refine ab_back hA (va_runV (As := ((st.take b).reverse).map (ab_v ad)) (rest := r.map (ab_v ad)) (n := b) (C := M.1.cls) ⟨hx, hb, hml, hown, hts⟩ hmet
        ⟨callB_of b hts hG rfl rfl rfl (hts _ m2) (hts _ k1) ⟨m3, m4, hpar⟩ (by simp only [ab_rm]; omega), hts _ k2, hts _ k3⟩
        ⟨ab_blind, va_recv hK hP hc hcell, fun u hu hW => ⟨rfl, by rw [hu]; exact hP, va_K.moved hW.alike hK⟩⟩
        rfl (by simp; omega) hL.2.1 (by show st.map (ab_v ad) = _; conv => lhs; rw [hst]
                                        simp [ab_v]) (lv_room (ab_sum4 _ (by rw [List.length_map, ← hr1]; exact h4))) hd ⟨hR.2.2.1, hR.2.2.2⟩) hS
        (fun v u H1 locs1 hz hq1 hP1 hS1 => ?_)
      have := kK _ _ _ hq1 H1 locs1 ls hP1 hS1 hL
      rw [ab_ri ad hz] at this
      exact this
    · exact h.elim
  | invokestatic idx =>
    obtain rfl : len = 3 := hln
    obtain ⟨hRf, hRl, hRc, hRs⟩ := id hR
    have hls : c.maxLocals = ls.size := by rw [hml]; exact hL.2.1.symm
    by_cases a1 : a = 1000
    · subst a1
      obtain ⟨y, r, rfl, h2⟩ := pop_i_of h
      obtain ⟨x, r, rfl, h2⟩ := pop_i_of h2
      obtain ⟨h3, h2⟩ := ab_if h2
      obtain ⟨k1, k2, k3, k4⟩ := hlk
      have h5 := ab_sum4 (r.map (ab_v ad)) (by rw [List.length_map]; exact h3)
      exact va_mmax hx hb hls hown (hts _ k1) (hts _ k2) (hts _ k3) (hts _ k4) (by omega) (by omega) hRc hRs hd (kK _ _ _ h2 H locs ls hP hS hL)
    · by_cases a2 : a = 1001
      · subst a2
        obtain ⟨y, r, rfl, h2⟩ := pop_i_of h
        obtain ⟨x, r, rfl, h2⟩ := pop_i_of h2
        obtain ⟨h3, h2⟩ := ab_if h2
        obtain ⟨k1, k2, k3, k4⟩ := hlk
        have h5 := ab_sum4 (r.map (ab_v ad)) (by rw [List.length_map]; exact h3)
        exact va_mmin hx hb hls hown (hts _ k1) (hts _ k2) (hts _ k3) (hts _ k4) (by omega) (by omega) hRc hRs hd (kK _ _ _ h2 H locs ls hP hS hL)
      · by_cases a3 : a = 1002
        · subst a3
          obtain ⟨n, r1, e1, g1⟩ := pop_i_of h
          obtain ⟨dp, r2, e2, g2⟩ := pop_i_of g1
          obtain ⟨q1, r3, e3, g3⟩ := pop_r_of g2
          obtain ⟨sp, r4, e4, g4⟩ := pop_i_of g3
          obtain ⟨q0, r, e5, g5⟩ := pop_r_of g4
          subst e5; subst e4; subst e3; subst e2; subst e1
          obtain ⟨h3, h2⟩ := ab_if g5
          obtain ⟨hq0, n0, hs0, h2⟩ := ab_arr_of h2
          obtain ⟨hq1, n1, hs1, c1, c2, c3, c4, c5, h2⟩ := ab_arr_of h2
          obtain ⟨k1, k2, k3, k4⟩ := hlk
          have h5 := ab_sum4 (r.map (ab_v ad)) (by rw [List.length_map]; exact h3)
          have h6 : nativeFrameWords "java/lang/System" "arraycopy" 5 + 11 ≤ 60 := by decide +kernel
          have hc0 : (ab_W sh N ad dA S)[q0]? = some (ad q0, .inl (dA 0, n0, .inl (S.1 q0))) := by rw [ab_W_get hq0, ab_cell_arr hs0 (by decide)]
          have hc1 : (ab_W sh N ad dA S)[q1]? = some (ad q1, .inl (dA 0, n1, .inl (S.1 q1))) := by rw [ab_W_get hq1, ab_cell_arr hs1 (by decide)]
          refine va_copyi hx hb hls hown (hts _ k1) (hts _ k2) (hts _ k3) (hts _ k4) hK hP (hD S) hS q0 q1 0 0 hc0 hc1 rfl rfl rfl c1 c2 c3 c4 c5 (fun _ _ => rfl) (by omega) (by omega) hd (fun H1 locs1 hP1 hD1 hS1 => ?_)
          rw [ab_W_set (S' := ab_pI S q1 (va_cpy (S.1 q0) (S.1 q1) sp.toNatClampNeg dp.toNatClampNeg n.toNatClampNeg)) hq1 (by rw [ab_cell_arr hs1 (by decide), ab_pI_at]) (fun k hk => ab_cell_pI hk)] at hP1
          exact kK _ _ _ h2 H1 locs1 ls hP1 hS1 hL
        · have h : if a = 1000 then _ else if a = 1001 then _ else if a = 1002 then _ else if b ≤ st.length then (if (st.drop b).length ≤ 4 then ab_T sh N pr d a (st.take b).reverse S fun v S' => K L (v.toList ++ st.drop b) S' else False) else False := h
          have hlk : if a = 1000 then _ else if a = 1001 then _ else if a = 1002 then _ else ∃ M, pr[a]? = some M ∧ Cond.methodLink own idx M.1 ∈ U ∧ Cond.static M.1 ∈ U ∧ (parseMethodDescriptor M.1.desc).map (fun d => d.parameters.length) = some b := hlk
          rw [if_neg a1, if_neg a2, if_neg a3] at h hlk
          obtain ⟨hlen, h⟩ := ab_if h
          obtain ⟨h4, h2⟩ := ab_if h
          obtain ⟨M, hM, k1, k2, hpar⟩ := hlk
          obtain ⟨m1, m2, m3, m4, m5, m6⟩ := hpr a M hM
          have hmet := hT a M _ S _ hM h2
          have hst : st = st.take b ++ st.drop b := by rw [List.take_append_drop]
          have hG : GoodIn U (Cond.code M.1 M.2.2.1 M.2.2.2.1 M.2.2.2.2.1 :: U) := fun w hw => by
            rcases List.mem_cons.mp hw with rfl | hw
            · exact ⟨m1, hU _ m1⟩
            · exact ⟨hw, hU _ hw⟩
          refine ab_back hA (va_runS (As := ((st.take b).reverse).map (ab_v ad)) (rest := (st.drop b).map (ab_v ad)) (n := b) ⟨hx, hb, hml, hown, hts⟩ hmet
            ⟨callB_of b hts hG rfl rfl rfl (hts _ m2) (hts _ k1) ⟨m3, m4, hpar⟩ (by simp only [ab_rm]; omega), hts _ k2⟩
            ⟨ab_blind, fun u hu hW => ⟨rfl, by rw [hu]; exact hP, va_K.moved hW.alike hK⟩⟩
            rfl (by simp; omega) hL.2.1 (by show st.map (ab_v ad) = _; conv => lhs; rw [hst]
                                            simp) (lv_room (ab_sum4 _ (by rw [List.length_map]; exact h4))) hd ⟨hR.2.2.1, hR.2.2.2⟩) hS
            (fun v u H1 locs1 hz hq1 hP1 hS1 => ?_)
          have := kK _ _ _ hq1 H1 locs1 ls hP1 hS1 hL
          rw [ab_ri ad hz] at this
          exact this
  | ireturn =>
    obtain rfl : len = 1 := hln
    obtain ⟨x, r, rfl, h2⟩ := pop_i_of h
    obtain ⟨h3, h2⟩ := ab_if h2
    have h3 := List.eq_nil_of_length_eq_zero h3
    subst h3
    cases ret with
    | none => exact h2.elim
    | some ty =>
    cases ty with
    | int => exact kR x S H locs ls rfl (Or.inl rfl) h2 hP hS
    | boolean => exact kR x S H locs ls rfl (Or.inr ⟨rfl, h2.1⟩) h2.2 hP hS
    | _ => exact h2.elim
  | return_ =>
    obtain rfl : len = 1 := hln
    obtain ⟨h3, h2⟩ := ab_if h
    have h3 := List.eq_nil_of_length_eq_zero h3
    subst h3
    cases ret with
    | none => exact kV S H locs ls rfl rfl h2 hP hS
    | some ty => exact h2.elim
  | _ => exact h.elim
end AB2
end
section
/-! ===== a method of the small machine keeps its contract on the great one ===== -/
def ab_ch : List ab_I → Bool
  | [] => true
  | [_] => true
  | q :: q' :: r => (q'.1 == q.1 + q.2.2.1) && ab_ch (q' :: r)
/-- what the tables must say for a method's code -/
def ab_cd (U : List Cond) (cl : List vw_C) (pr : List ab_M) (M : ab_M) : Prop := ab_ch M.2.2.2.2.2 = true ∧ ∀ q ∈ M.2.2.2.2.2, q.2.1 = .nop ∨ (decode M.2.2.1 q.1 = .ok (q.2.1, q.2.2.1) ∧ ab_ln q.2.1 q.2.2.1 ∧ ab_lk U cl pr M.1.cls q.1 q.2.1 q.2.2.2.1 q.2.2.2.2)
theorem ab_ch_tail {q : ab_I} {r : List ab_I} (h : ab_ch (q :: r) = true) : ab_ch r = true := by
  cases r with
  | nil => rfl
  | cons q' r =>
    simp only [ab_ch, Bool.and_eq_true] at h
    exact h.2
theorem ab_from_spec {pc : Nat} {cd : List ab_I} : ∀ {q : ab_I} {r : List ab_I}, ab_from pc cd = q :: r → ab_ch cd = true → q.1 = pc ∧ ab_ch (q :: r) = true ∧ ∀ z ∈ q :: r, z ∈ cd := by
  induction cd with
  | nil => intro q r h; cases h
  | cons z t ih =>
    intro q r h hc
    unfold ab_from at h
    split at h
    · rename_i e
      cases h
      exact ⟨e, hc, fun _ hz => hz⟩
    · obtain ⟨h1, h2, h3⟩ := ih h (ab_ch_tail hc)
      exact ⟨h1, h2, fun y hy => List.mem_cons_of_mem _ (h3 y hy)⟩
set_option maxHeartbeats 2000000 in
theorem ab_sound {l : Launch} {D : va_G} {cl : List vw_C} {sh : ab_Sh} {N : Nat} {ad : Nat → Nat} {dA : Nat → ClassId} {U : List Cond} {pr : List ab_M}
    (hU : ∀ w ∈ U, (w.onTables && w.keeps) = true ∨ ∃ ty, w = Cond.arrayClass ty) (hck : ab_ck U cl) (hpr : ∀ (k : Nat) (M : ab_M), pr[k]? = some M → ab_mk U M) (hcd : ∀ (k : Nat) (M : ab_M), pr[k]? = some M → ab_cd U cl pr M)
    (hinj : ∀ i j, i < N → j < N → ad i = ad j → i = j) : ∀ (d k : Nat) (M : ab_M) (as : List Value) (S : ab_S) (Q : ab_Q), pr[k]? = some M → ab_T sh N pr d k as S Q → ab_met l D cl sh N ad dA U d M as S Q := by
  intro d
  induction d with
  | zero => intro k M as S Q _ h; exact h.elim
  | succ d ih =>
    intro k M as S Q hM h
    obtain ⟨m1, m2, m3, m4, m5, m6⟩ := hpr k M hM
    obtain ⟨c1, c2⟩ := hcd k M hM
    unfold ab_T at h
    rw [hM] at h
    obtain ⟨hlen, n, hrun⟩ := h
    refine Met.ofW (cc := M.2.2.1) (maxL := M.2.2.2.1) (ret := M.2.2.2.2.1) m5 rfl ?_
    intro p e s m args below meth c s₁ B hml hv
    obtain ⟨rfl, hP, hK⟩ := hv
    have hx := B.exec
    have hb := B.bytes
    have hr := B.returns
    have hts0 := atoms_spec (ws := Cond.code M.1 M.2.2.1 M.2.2.2.1 M.2.2.2.2.1 :: U) B.pre
    have hts : ∀ w ∈ U, w.before (as.map (ab_v ad)).toArray s = true := fun w hw => hts0 w (List.mem_cons_of_mem _ hw)
    have hown : s.vm.findClass M.1.cls = some m.cls := findClass_of_methodNamed B.named
    have hlocks := B.notSynchronized
    have key : ∀ (n pc : Nat) (L : ab_L) (st : List Value) (S : ab_S), ab_run none sh N (ab_oc pr) (ab_T sh N pr d) M.2.2.2.2.1 M.2.2.2.2.2 Q n pc L st S → ab_G p l e (ab_rm (d + 1)) s m (as.map (ab_v ad)).toArray below meth c (MQ below (ab_Qc D cl sh N ad dA Q) (as.map (ab_v ad)).toArray s 0 0 (ab_A N ad)) D cl sh N ad dA (ab_A N ad) 0 0 M.2.2.2.1 pc L st S := by
      intro n
      induction n with
      | zero => intro pc L st S h; exact h.elim
      | succ n ihn =>
        have go : ∀ (r : List ab_I), (∀ z ∈ r, z ∈ M.2.2.2.2.2) → ab_ch r = true → ∀ (pc : Nat) (L : ab_L) (st : List Value) (S : ab_S), (∀ q t, r = q :: t → q.1 = pc) → ab_w none sh N (ab_oc pr) (ab_T sh N pr d) (fun pc L st S => ab_run none sh N (ab_oc pr) (ab_T sh N pr d) M.2.2.2.2.1 M.2.2.2.2.2 Q n pc L st S) Q M.2.2.2.2.1 r L st S → ab_G p l e (ab_rm (d + 1)) s m (as.map (ab_v ad)).toArray below meth c (MQ below (ab_Qc D cl sh N ad dA Q) (as.map (ab_v ad)).toArray s 0 0 (ab_A N ad)) D cl sh N ad dA (ab_A N ad) 0 0 M.2.2.2.1 pc L st S := by
          intro r
          induction r with
          | nil => intro _ _ pc L st S _ h; exact h.elim
          | cons q r ihr =>
            intro hin hch pc L st S hpc h
            obtain ⟨pc0, i, len, a, b⟩ := q
            obtain rfl : pc0 = pc := hpc _ _ rfl
            rcases c2 _ (hin _ List.mem_cons_self) with hnop | ⟨q1, q2, q3⟩
            · dsimp only at hnop
              subst hnop
              exact h.elim
            refine ab_step hx hb hml hown hts hU hK hck hpr hinj (fun _ z => z) ⟨Nat.le_refl _, Nat.le_refl _, Nat.zero_le _, Nat.zero_le _⟩ (fun _ _ z => by cases z) ih q1 q2 q3 (fun L st S hk => ?_) (fun t L st S hj => ihn t L st S hj) (fun x S H locs ls hi hre hQ hP hS => ?_) (fun S H locs ls hi hre hQ hP hS => ?_) h
            rotate_left
            · subst hi
              obtain rfl : len = 1 := q2
              rcases hre with hre | ⟨hre, hx1⟩
              · rw [hre] at hr
                exact W.iret hx hb hr (fun t ht hW => ⟨⟨some (.int x), S, rfl, Or.inr ⟨x, rfl⟩, hQ, by rw [ht]; exact hP⟩, hS.F ht⟩) hS.2.2 q1
              · rw [hre] at hr
                exact W.zret hx hb hr (ab_bool hx1).1 (fun t ht hW => ⟨⟨some (.int x), S, rfl, Or.inr ⟨x, rfl⟩, hQ, by rw [ht]; exact hP⟩, hS.F ht⟩) hS.2.2 q1
            · subst hi
              obtain rfl : len = 1 := q2
              rw [hre] at hr
              exact W.vret hx hb hr (fun t ht hW => ⟨⟨none, S, rfl, Or.inl rfl, hQ, by rw [ht]; exact hP⟩, hS.F ht⟩) hS.2.2 q1
            refine ihr (fun z hz => hin z (List.mem_cons_of_mem _ hz)) (ab_ch_tail hch) (pc0 + len) L st S (fun q' t e => ?_) hk
            subst e
            simp only [ab_ch, Bool.and_eq_true, beq_iff_eq] at hch
            exact hch.1
        intro pc L st S h
        have h : ab_w none sh N (ab_oc pr) (ab_T sh N pr d) (fun pc L st S => ab_run none sh N (ab_oc pr) (ab_T sh N pr d) M.2.2.2.2.1 M.2.2.2.2.2 Q n pc L st S) Q M.2.2.2.2.1 (ab_from pc M.2.2.2.2.2) L st S := h
        cases hf : ab_from pc M.2.2.2.2.2 with
        | nil => rw [hf] at h; exact h.elim
        | cons q r =>
          obtain ⟨h1, h2, h3⟩ := ab_from_spec hf c1
          rw [hf] at h
          exact go (q :: r) h3 h2 pc L st S (fun q' t e => by cases e; exact h1) h
    have hl := lv_entry (as.map (ab_v ad)) (n := M.2.2.2.1) (by rw [ab_en_len]; exact hlen)
    rw [lg_entry_eq]
    exact key n 0 _ [] S hrun s.heap [] _ hP va_S.rf (ab_Lr.entry hlen hl)
end
section
/-! ===== the tables' words, by program ===== -/
def ab_bln (i : Instr) (len : Nat) : Bool := match i with
  | .iload _ => len == 2
  | .lload _ => len == 2
  | .aload _ => len == 2
  | .istore _ => len == 2
  | .lstore _ => len == 2
  | .iinc _ _ => len == 3
  | .bipush _ => len == 2
  | .sipush _ => len == 3
  | .ldc _ => len == 2
  | .ldc_w _ => len == 3
  | .ldc2_w _ => len == 3
  | .getfield _ => len == 3
  | .putfield _ => len == 3
  | .goto _ => len == 3
  | .if_icmp _ _ => len == 3
  | .ifCond _ _ => len == 3
  | .invokevirtual _ => len == 3
  | .invokestatic _ => len == 3
  | .tableswitch _ _ _ _ => true
  | .lookupswitch _ _ => true
  | .new _ => true
  | .invokespecial _ => true
  | _ => len == 1
theorem ab_bln_of {i : Instr} {len : Nat} (h : ab_bln i len = true) : ab_ln i len := by
  cases i <;> first | exact eq_of_beq h | exact trivial
abbrev ab_3 : Type := Nat × Nat × Nat
def ab_okF (U : List Cond) (cl : List vw_C) (own : String) (q : ab_3) : Prop := ∃ C T N', cl[q.2.1]? = some (C, T, N') ∧ q.2.2 < N' ∧ Cond.fieldLink own q.1 (T q.2.2).1 (T q.2.2).2.1 (T q.2.2).2.2.1 ∈ U
def ab_okK (U : List Cond) (own : String) (q : ab_3) : Prop := if q.2.2 < 2 then Cond.constant own q.1 (ab_num q.2.1 q.2.2) ∈ U else Cond.constantLong own q.1 (ab_lnum q.2.1 (q.2.2 - 2)) ∈ U
def ab_okV (U : List Cond) (cl : List vw_C) (pr : List ab_M) (own : String) (q : ab_3) : Prop := ab_lk U cl pr own 0 (.invokevirtual q.1) q.2.1 q.2.2
def ab_okS (U : List Cond) (cl : List vw_C) (pr : List ab_M) (own : String) (q : ab_3) : Prop := ab_lk U cl pr own 0 (.invokestatic q.1) q.2.1 q.2.2
def ab_bI (cl : List vw_C) (FL KL VL SL : List ab_3) (pc : Nat) (i : Instr) (a b : Nat) : Bool := match i with
  | .getfield idx => FL.contains (idx, a, b)
  | .putfield idx => FL.contains (idx, a, if b < 1000 then b else b - 1000) && (match cl[a]? with
    | some (_, T, _) => (!(T (if b < 1000 then b else b - 1000)).2.2.2) && decide (parseFieldDescriptor (T (if b < 1000 then b else b - 1000)).2.2.1 = some (if b < 1000 then .int else .boolean))
    | none => false)
  | .ldc idx => decide (b < 2) && KL.contains (idx, a, b)
  | .ldc_w idx => decide (b < 2) && KL.contains (idx, a, b)
  | .ldc2_w idx => KL.contains (idx, a, b + 2)
  | .goto off => decide ((pc : Int) + off = (a : Int))
  | .if_icmp _ off => decide ((pc : Int) + off = (a : Int))
  | .ifCond _ off => decide ((pc : Int) + off = (a : Int))
  | .tableswitch d _ _ _ => decide (0 ≤ d)
  | .lookupswitch _ ps => (ps.toList.zip (ps.toList.drop 1)).all (fun (a, next) => a.1 < next.1)
  | .arraylength => decide (a ≤ 2)
  | .invokevirtual idx => VL.contains (idx, a, b)
  | .invokestatic idx => SL.contains (idx, a, b)
  | _ => true
theorem ab_bI_of {U : List Cond} {cl : List vw_C} {pr : List ab_M} {own : String} {FL KL VL SL : List ab_3} (hF : ∀ q ∈ FL, ab_okF U cl own q) (hK : ∀ q ∈ KL, ab_okK U own q) (hV : ∀ q ∈ VL, ab_okV U cl pr own q) (hS : ∀ q ∈ SL, ab_okS U cl pr own q) {pc : Nat} {i : Instr} {a b : Nat} (h : ab_bI cl FL KL VL SL pc i a b = true) : ab_lk U cl pr own pc i a b := by
  cases i with
  | getfield idx => exact hF (idx, a, b) (List.contains_iff_mem.mp h)
  | putfield idx =>
    simp only [ab_bI, Bool.and_eq_true] at h
    obtain ⟨C, T, N', h1, h2, h3⟩ := hF _ (List.contains_iff_mem.mp h.1)
    have h4 := h.2
    simp only [h1, Bool.and_eq_true, Bool.not_eq_true', decide_eq_true_eq] at h4
    exact ⟨C, T, N', h1, h2, h3, h4.1, h4.2⟩
  | ldc idx =>
    simp only [ab_bI, Bool.and_eq_true, decide_eq_true_eq] at h
    have h2 := hK _ (List.contains_iff_mem.mp h.2)
    simp only [ab_okK, if_pos h.1] at h2
    exact h2
  | ldc_w idx =>
    simp only [ab_bI, Bool.and_eq_true, decide_eq_true_eq] at h
    have h2 := hK _ (List.contains_iff_mem.mp h.2)
    simp only [ab_okK, if_pos h.1] at h2
    exact h2
  | ldc2_w idx =>
    simp only [ab_bI] at h
    have h2 := hK _ (List.contains_iff_mem.mp h)
    have n : ¬ b + 2 < 2 := by omega
    simp only [ab_okK, if_neg n, Nat.add_sub_cancel] at h2
    exact h2
  | goto off => exact (of_decide_eq_true h : (pc : Int) + off = (a : Int))
  | if_icmp cn off => exact (of_decide_eq_true h : (pc : Int) + off = (a : Int))
  | ifCond cn off => exact (of_decide_eq_true h : (pc : Int) + off = (a : Int))
  | tableswitch d lo hi offs => exact (of_decide_eq_true h : 0 ≤ d)
  | lookupswitch d ps => exact h
  | arraylength => exact (of_decide_eq_true h : a ≤ 2)
  | invokevirtual idx => exact hV (idx, a, b) (List.contains_iff_mem.mp h)
  | invokestatic idx => exact hS (idx, a, b) (List.contains_iff_mem.mp h)
  | _ => exact trivial
def ab_bM (cl : List vw_C) (FL KL VL SL : List ab_3) (M : ab_M) : Bool := ab_ch M.2.2.2.2.2 && M.2.2.2.2.2.all fun q => decide (q.2.1 = .nop) || (decide (decode M.2.2.1 q.1 = .ok (q.2.1, q.2.2.1)) && (ab_bln q.2.1 q.2.2.1 && ab_bI cl FL KL VL SL q.1 q.2.1 q.2.2.2.1 q.2.2.2.2))
theorem ab_bM_of {U : List Cond} {cl : List vw_C} {pr : List ab_M} {M : ab_M} {FL KL VL SL : List ab_3} (hF : ∀ q ∈ FL, ab_okF U cl M.1.cls q) (hK : ∀ q ∈ KL, ab_okK U M.1.cls q) (hV : ∀ q ∈ VL, ab_okV U cl pr M.1.cls q) (hS : ∀ q ∈ SL, ab_okS U cl pr M.1.cls q) (h : ab_bM cl FL KL VL SL M = true) : ab_cd U cl pr M := by
  simp only [ab_bM, Bool.and_eq_true, List.all_eq_true, Bool.or_eq_true] at h
  refine ⟨h.1, fun q hq => ?_⟩
  rcases h.2 q hq with h0 | ⟨h1, h2, h3⟩
  · exact Or.inl (of_decide_eq_true h0)
  · exact Or.inr ⟨of_decide_eq_true h1, ab_bln_of h2, ab_bI_of hF hK hV hS h3⟩
end
section
/-! ===== a run of rows that are no method's own: the law's body ===== -/
section AB3
variable {p : Program} {l : Launch} {e : Env} {R : Room} {s : State} {m : MethodId} {args : Array Value} {below : List Frame} {meth : Method} {c : Code}
variable {D : va_G} {cl : List vw_C} {sh : ab_Sh} {N : Nat} {ad : Nat → Nat} {dA : Nat → ClassId} {nL : Nat}
set_option maxHeartbeats 2000000 in
theorem ab_runs {Z : State → Prop} {A : Nat → Prop} {cells slots : Nat} {sc : ab_X} {U : List Cond} {pr : List ab_M} {own : String} {cc : ByteArray} {d : Nat} {Q : ab_Q} {ret : Option FieldType} {cd : List ab_I}
    (hx : p.tables.exec = Jvm.exec) (hb : c.code = cc) (hml : c.maxLocals = nL) (hown : s.vm.findClass own = some m.cls)
    (hts : ∀ w ∈ U, w.before args s = true) (hU : ∀ w ∈ U, (w.onTables && w.keeps) = true ∨ ∃ ty, w = Cond.arrayClass ty)
    (hK : va_K D cl (ab_tys dA) s) (hck : ab_ck U cl) (hpr : ∀ (k : Nat) (M : ab_M), pr[k]? = some M → ab_mk U M)
    (hinj : ∀ i j, i < N → j < N → ad i = ad j → i = j) (hA : ∀ q, ab_A N ad q → A q) (hR : d + 1 ≤ R.frames ∧ 100 * (d + 1) ≤ R.locals ∧ cells ≤ R.cells ∧ slots ≤ R.slots)
    (hsc : ∀ n xs, sc = some (n, xs) → va_X (ad ab_scr) n xs s s.heap ∧ ad ab_scr < s.heap.size ∧ ¬ A (ad ab_scr))
    (hT : ∀ (k : Nat) (M : ab_M) (as : List Value) (S : ab_S) (Q : ab_Q), pr[k]? = some M → ab_T sh N pr d k as S Q → ab_met l D cl sh N ad dA U d M as S Q)
    (c1 : ab_ch cd = true) (c2 : ∀ q ∈ cd, q.2.1 = .nop ∨ (decode cc q.1 = .ok (q.2.1, q.2.2.1) ∧ ab_ln q.2.1 q.2.2.1 ∧ ab_lk U cl pr own q.1 q.2.1 q.2.2.2.1 q.2.2.2.2))
    (kR : ∀ (pc : Nat) (x : Int32) (S : ab_S) (H : Heap) (locs : List Loc) (ls : Array Slot), decode cc pc = .ok (.ireturn, 1) → (ret = some .int ∨ (ret = some .boolean ∧ (x = 0 ∨ x = 1))) → Q (some (.int x)) S → va_P D cl (ab_W sh N ad dA S) H → va_S A s.heap H locs → W p l e R s m args below meth c H locs cells slots Z (F0 m pc ls [.int x]))
    (kV : ret ≠ none) :
    ∀ (n pc : Nat) (L : ab_L) (st : List Value) (S : ab_S), ab_run sc sh N (ab_oc pr) (ab_T sh N pr d) ret cd Q n pc L st S → ab_G p l e R s m args below meth c Z D cl sh N ad dA A cells slots nL pc L st S := by
  intro n
  induction n with
  | zero => intro pc L st S h; exact h.elim
  | succ n ihn =>
    have go : ∀ (r : List ab_I), (∀ z ∈ r, z ∈ cd) → ab_ch r = true → ∀ (pc : Nat) (L : ab_L) (st : List Value) (S : ab_S), (∀ q t, r = q :: t → q.1 = pc) → ab_w sc sh N (ab_oc pr) (ab_T sh N pr d) (fun pc L st S => ab_run sc sh N (ab_oc pr) (ab_T sh N pr d) ret cd Q n pc L st S) Q ret r L st S → ab_G p l e R s m args below meth c Z D cl sh N ad dA A cells slots nL pc L st S := by
      intro r
      induction r with
      | nil => intro _ _ pc L st S _ h; exact h.elim
      | cons q r ihr =>
        intro hin hch pc L st S hpc h
        obtain ⟨pc0, i, len, a, b⟩ := q
        obtain rfl : pc0 = pc := hpc _ _ rfl
        rcases c2 _ (hin _ List.mem_cons_self) with hnop | ⟨q1, q2, q3⟩
        · dsimp only at hnop
          subst hnop
          exact h.elim
        refine ab_step hx hb hml hown hts hU hK hck hpr hinj hA hR hsc hT q1 q2 q3 (fun L st S hk => ?_) (fun t L st S hj => ihn t L st S hj) (fun x S H locs ls hi hre hQ hP hS => ?_) (fun S H locs ls hi hre hQ hP hS => ?_) h
        rotate_left
        · subst hi
          obtain rfl : len = 1 := q2
          exact kR _ x S H locs ls q1 hre hQ hP hS
        · exact absurd hre kV
        refine ihr (fun z hz => hin z (List.mem_cons_of_mem _ hz)) (ab_ch_tail hch) (pc0 + len) L st S (fun q' t e => ?_) hk
        subst e
        simp only [ab_ch, Bool.and_eq_true, beq_iff_eq] at hch
        exact hch.1
    intro pc L st S h
    have h : ab_w sc sh N (ab_oc pr) (ab_T sh N pr d) (fun pc L st S => ab_run sc sh N (ab_oc pr) (ab_T sh N pr d) ret cd Q n pc L st S) Q ret (ab_from pc cd) L st S := h
    cases hf : ab_from pc cd with
    | nil => rw [hf] at h; exact h.elim
    | cons q r =>
      obtain ⟨h1, h2, h3⟩ := ab_from_spec hf c1
      rw [hf] at h
      exact go (q :: r) h3 h2 pc L st S (fun q' t e => by cases e; exact h1) h
end AB3
end
section
-- ===== PART A: goes FIRST, ahead of the names: the tables' words, and 'selects' of the private methods out of them =====
/-- a private method of a class that the tables say can be made, by its rows of tables_1 -/
def lw_okq (q : MethodName × Nat) : Prop := (q.1.cls ≠ "java/lang/invoke/MethodHandle" ∧ q.1.cls ≠ "java/lang/invoke/VarHandle") ∧ Cond.instantiable q.1.cls q.2 ∈ tables_1 ∧ Cond.privateMethod q.1 ∈ tables_1 ∧ Cond.instanceMethod q.1 ∈ tables_1
theorem lw_p0 : lw_okq (⟨"TextRows$Sorter", "sortByRank", "(II[I[I)V"⟩, 3) := ⟨⟨by decide +kernel, by decide +kernel⟩, List.mem_of_getElem? (i := 59) (by decide +kernel), List.mem_of_getElem? (i := 466) (by decide +kernel), List.mem_of_getElem? (i := 467) (by decide +kernel)⟩
theorem lw_p1 : lw_okq (⟨"TextRows$Sorter", "rankAnew", "(II[I[I)I"⟩, 3) := ⟨⟨by decide +kernel, by decide +kernel⟩, List.mem_of_getElem? (i := 59) (by decide +kernel), List.mem_of_getElem? (i := 471) (by decide +kernel), List.mem_of_getElem? (i := 472) (by decide +kernel)⟩
theorem lw_p2 : lw_okq (⟨"TextRows$Sorter", "sortByHalves", "(II[I)V"⟩, 3) := ⟨⟨by decide +kernel, by decide +kernel⟩, List.mem_of_getElem? (i := 59) (by decide +kernel), List.mem_of_getElem? (i := 479) (by decide +kernel), List.mem_of_getElem? (i := 480) (by decide +kernel)⟩
theorem lw_p3 : lw_okq (⟨"TextRows$Index", "learnAlikes", "()V"⟩, 12) := ⟨⟨by decide +kernel, by decide +kernel⟩, List.mem_of_getElem? (i := 53) (by decide +kernel), List.mem_of_getElem? (i := 483) (by decide +kernel), List.mem_of_getElem? (i := 484) (by decide +kernel)⟩
theorem lw_p4 : lw_okq (⟨"TextRows$Index", "alikeBehind", "(III)I"⟩, 12) := ⟨⟨by decide +kernel, by decide +kernel⟩, List.mem_of_getElem? (i := 53) (by decide +kernel), List.mem_of_getElem? (i := 487) (by decide +kernel), List.mem_of_getElem? (i := 488) (by decide +kernel)⟩
theorem lw_p5 : lw_okq (⟨"TextRows$Index", "learnFronts", "()V"⟩, 12) := ⟨⟨by decide +kernel, by decide +kernel⟩, List.mem_of_getElem? (i := 53) (by decide +kernel), List.mem_of_getElem? (i := 494) (by decide +kernel), List.mem_of_getElem? (i := 495) (by decide +kernel)⟩
theorem lw_p6 : lw_okq (⟨"TextRows$Pieces", "learnEarlier", "()V"⟩, 7) := ⟨⟨by decide +kernel, by decide +kernel⟩, List.mem_of_getElem? (i := 355) (by decide +kernel), List.mem_of_getElem? (i := 507) (by decide +kernel), List.mem_of_getElem? (i := 508) (by decide +kernel)⟩
theorem lw_p7 : lw_okq (⟨"TextRows$Pieces", "learnReaches", "()V"⟩, 7) := ⟨⟨by decide +kernel, by decide +kernel⟩, List.mem_of_getElem? (i := 355) (by decide +kernel), List.mem_of_getElem? (i := 515) (by decide +kernel), List.mem_of_getElem? (i := 516) (by decide +kernel)⟩
theorem lw_p8 : lw_okq (⟨"TextRows$Pieces", "mirrored", "(II)Z"⟩, 7) := ⟨⟨by decide +kernel, by decide +kernel⟩, List.mem_of_getElem? (i := 355) (by decide +kernel), List.mem_of_getElem? (i := 519) (by decide +kernel), List.mem_of_getElem? (i := 520) (by decide +kernel)⟩
theorem lw_p9 : lw_okq (⟨"TextRows$Pieces", "learnGapReaches", "()V"⟩, 7) := ⟨⟨by decide +kernel, by decide +kernel⟩, List.mem_of_getElem? (i := 355) (by decide +kernel), List.mem_of_getElem? (i := 523) (by decide +kernel), List.mem_of_getElem? (i := 524) (by decide +kernel)⟩
theorem lw_p10 : lw_okq (⟨"TextRows$Held", "stand", "(II)V"⟩, 8) := ⟨⟨by decide +kernel, by decide +kernel⟩, List.mem_of_getElem? (i := 148) (by decide +kernel), List.mem_of_getElem? (i := 531) (by decide +kernel), List.mem_of_getElem? (i := 532) (by decide +kernel)⟩
theorem lw_p11 : lw_okq (⟨"TextRows$Held", "beside", "(ZI)I"⟩, 8) := ⟨⟨by decide +kernel, by decide +kernel⟩, List.mem_of_getElem? (i := 148) (by decide +kernel), List.mem_of_getElem? (i := 635) (by decide +kernel), List.mem_of_getElem? (i := 636) (by decide +kernel)⟩
theorem lw_p12 : lw_okq (⟨"TextRows$Held", "countByDocument", "()V"⟩, 8) := ⟨⟨by decide +kernel, by decide +kernel⟩, List.mem_of_getElem? (i := 148) (by decide +kernel), List.mem_of_getElem? (i := 691) (by decide +kernel), List.mem_of_getElem? (i := 692) (by decide +kernel)⟩
theorem lw_p13 : lw_okq (⟨"TextRows$Held", "documentsAheadOf", "(I)I"⟩, 8) := ⟨⟨by decide +kernel, by decide +kernel⟩, List.mem_of_getElem? (i := 148) (by decide +kernel), List.mem_of_getElem? (i := 696) (by decide +kernel), List.mem_of_getElem? (i := 697) (by decide +kernel)⟩
theorem lw_p14 : lw_okq (⟨"TextRows$Near", "differAt", "(II)I"⟩, 5) := ⟨⟨by decide +kernel, by decide +kernel⟩, List.mem_of_getElem? (i := 188) (by decide +kernel), List.mem_of_getElem? (i := 721) (by decide +kernel), List.mem_of_getElem? (i := 722) (by decide +kernel)⟩
theorem lw_p15 : lw_okq (⟨"TextRows$Query", "readSum", "(I)I"⟩, 9) := ⟨⟨by decide +kernel, by decide +kernel⟩, List.mem_of_getElem? (i := 213) (by decide +kernel), List.mem_of_getElem? (i := 745) (by decide +kernel), List.mem_of_getElem? (i := 746) (by decide +kernel)⟩
def lw_privs_1 : List (MethodName × Nat) := [(⟨"TextRows$Sorter", "sortByRank", "(II[I[I)V"⟩, 3), (⟨"TextRows$Sorter", "rankAnew", "(II[I[I)I"⟩, 3), (⟨"TextRows$Sorter", "sortByHalves", "(II[I)V"⟩, 3), (⟨"TextRows$Index", "learnAlikes", "()V"⟩, 12), (⟨"TextRows$Index", "alikeBehind", "(III)I"⟩, 12), (⟨"TextRows$Index", "learnFronts", "()V"⟩, 12), (⟨"TextRows$Pieces", "learnEarlier", "()V"⟩, 7), (⟨"TextRows$Pieces", "learnReaches", "()V"⟩, 7), (⟨"TextRows$Pieces", "mirrored", "(II)Z"⟩, 7), (⟨"TextRows$Pieces", "learnGapReaches", "()V"⟩, 7), (⟨"TextRows$Held", "stand", "(II)V"⟩, 8), (⟨"TextRows$Held", "beside", "(ZI)I"⟩, 8), (⟨"TextRows$Held", "countByDocument", "()V"⟩, 8), (⟨"TextRows$Held", "documentsAheadOf", "(I)I"⟩, 8), (⟨"TextRows$Near", "differAt", "(II)I"⟩, 5), (⟨"TextRows$Query", "readSum", "(I)I"⟩, 9)]
theorem lw_r1 : ∀ q ∈ lw_privs_1, lw_okq q := List.forall_mem_cons.mpr ⟨lw_p0, List.forall_mem_cons.mpr ⟨lw_p1, List.forall_mem_cons.mpr ⟨lw_p2, List.forall_mem_cons.mpr ⟨lw_p3, List.forall_mem_cons.mpr ⟨lw_p4, List.forall_mem_cons.mpr ⟨lw_p5, List.forall_mem_cons.mpr ⟨lw_p6, List.forall_mem_cons.mpr ⟨lw_p7, List.forall_mem_cons.mpr ⟨lw_p8, List.forall_mem_cons.mpr ⟨lw_p9, List.forall_mem_cons.mpr ⟨lw_p10, List.forall_mem_cons.mpr ⟨lw_p11, List.forall_mem_cons.mpr ⟨lw_p12, List.forall_mem_cons.mpr ⟨lw_p13, List.forall_mem_cons.mpr ⟨lw_p14, List.forall_mem_cons.mpr ⟨lw_p15, fun _ h => absurd h List.not_mem_nil⟩⟩⟩⟩⟩⟩⟩⟩⟩⟩⟩⟩⟩⟩⟩⟩
theorem lw_p16 : lw_okq (⟨"TextRows$Query", "goesOn", "()Z"⟩, 9) := ⟨⟨by decide +kernel, by decide +kernel⟩, List.mem_of_getElem? (i := 213) (by decide +kernel), List.mem_of_getElem? (i := 749) (by decide +kernel), List.mem_of_getElem? (i := 750) (by decide +kernel)⟩
theorem lw_p17 : lw_okq (⟨"TextRows$Query", "readItem", "(I)I"⟩, 9) := ⟨⟨by decide +kernel, by decide +kernel⟩, List.mem_of_getElem? (i := 213) (by decide +kernel), List.mem_of_getElem? (i := 753) (by decide +kernel), List.mem_of_getElem? (i := 754) (by decide +kernel)⟩
theorem lw_p18 : lw_okq (⟨"TextRows$Query", "readAtom", "(I)I"⟩, 9) := ⟨⟨by decide +kernel, by decide +kernel⟩, List.mem_of_getElem? (i := 213) (by decide +kernel), List.mem_of_getElem? (i := 757) (by decide +kernel), List.mem_of_getElem? (i := 758) (by decide +kernel)⟩
theorem lw_p19 : lw_okq (⟨"TextRows$Query", "readBrackets", "(I)I"⟩, 9) := ⟨⟨by decide +kernel, by decide +kernel⟩, List.mem_of_getElem? (i := 213) (by decide +kernel), List.mem_of_getElem? (i := 764) (by decide +kernel), List.mem_of_getElem? (i := 765) (by decide +kernel)⟩
theorem lw_p20 : lw_okq (⟨"TextRows$Query", "readSign", "(I)V"⟩, 9) := ⟨⟨by decide +kernel, by decide +kernel⟩, List.mem_of_getElem? (i := 213) (by decide +kernel), List.mem_of_getElem? (i := 768) (by decide +kernel), List.mem_of_getElem? (i := 769) (by decide +kernel)⟩
theorem lw_p21 : lw_okq (⟨"TextRows$Query", "comes", "(I)Z"⟩, 9) := ⟨⟨by decide +kernel, by decide +kernel⟩, List.mem_of_getElem? (i := 213) (by decide +kernel), List.mem_of_getElem? (i := 772) (by decide +kernel), List.mem_of_getElem? (i := 773) (by decide +kernel)⟩
theorem lw_p22 : lw_okq (⟨"TextRows$Query", "readRanges", "(I)V"⟩, 9) := ⟨⟨by decide +kernel, by decide +kernel⟩, List.mem_of_getElem? (i := 213) (by decide +kernel), List.mem_of_getElem? (i := 776) (by decide +kernel), List.mem_of_getElem? (i := 777) (by decide +kernel)⟩
theorem lw_p23 : lw_okq (⟨"TextRows$Query", "readRange", "(I)V"⟩, 9) := ⟨⟨by decide +kernel, by decide +kernel⟩, List.mem_of_getElem? (i := 213) (by decide +kernel), List.mem_of_getElem? (i := 780) (by decide +kernel), List.mem_of_getElem? (i := 781) (by decide +kernel)⟩
theorem lw_p24 : lw_okq (⟨"TextRows$Query", "readRangeByte", "()I"⟩, 9) := ⟨⟨by decide +kernel, by decide +kernel⟩, List.mem_of_getElem? (i := 213) (by decide +kernel), List.mem_of_getElem? (i := 784) (by decide +kernel), List.mem_of_getElem? (i := 785) (by decide +kernel)⟩
theorem lw_p25 : lw_okq (⟨"TextRows$Query", "readByte", "()I"⟩, 9) := ⟨⟨by decide +kernel, by decide +kernel⟩, List.mem_of_getElem? (i := 213) (by decide +kernel), List.mem_of_getElem? (i := 788) (by decide +kernel), List.mem_of_getElem? (i := 789) (by decide +kernel)⟩
theorem lw_p26 : lw_okq (⟨"TextRows$Query", "addBytes", "(III)V"⟩, 9) := ⟨⟨by decide +kernel, by decide +kernel⟩, List.mem_of_getElem? (i := 213) (by decide +kernel), List.mem_of_getElem? (i := 792) (by decide +kernel), List.mem_of_getElem? (i := 793) (by decide +kernel)⟩
theorem lw_p27 : lw_okq (⟨"TextRows$Query", "readPlain", "(I)V"⟩, 9) := ⟨⟨by decide +kernel, by decide +kernel⟩, List.mem_of_getElem? (i := 213) (by decide +kernel), List.mem_of_getElem? (i := 797) (by decide +kernel), List.mem_of_getElem? (i := 798) (by decide +kernel)⟩
theorem lw_p28 : lw_okq (⟨"TextRows$Query", "readRepeat", "(I)V"⟩, 9) := ⟨⟨by decide +kernel, by decide +kernel⟩, List.mem_of_getElem? (i := 213) (by decide +kernel), List.mem_of_getElem? (i := 801) (by decide +kernel), List.mem_of_getElem? (i := 802) (by decide +kernel)⟩
theorem lw_p29 : lw_okq (⟨"TextRows$Query", "repeat", "(III)V"⟩, 9) := ⟨⟨by decide +kernel, by decide +kernel⟩, List.mem_of_getElem? (i := 213) (by decide +kernel), List.mem_of_getElem? (i := 805) (by decide +kernel), List.mem_of_getElem? (i := 806) (by decide +kernel)⟩
theorem lw_p30 : lw_okq (⟨"TextRows$Query", "readNumbers", "(I)V"⟩, 9) := ⟨⟨by decide +kernel, by decide +kernel⟩, List.mem_of_getElem? (i := 213) (by decide +kernel), List.mem_of_getElem? (i := 809) (by decide +kernel), List.mem_of_getElem? (i := 810) (by decide +kernel)⟩
theorem lw_p31 : lw_okq (⟨"TextRows$Query", "readNumber", "()I"⟩, 9) := ⟨⟨by decide +kernel, by decide +kernel⟩, List.mem_of_getElem? (i := 213) (by decide +kernel), List.mem_of_getElem? (i := 813) (by decide +kernel), List.mem_of_getElem? (i := 814) (by decide +kernel)⟩
def lw_privs_2 : List (MethodName × Nat) := [(⟨"TextRows$Query", "goesOn", "()Z"⟩, 9), (⟨"TextRows$Query", "readItem", "(I)I"⟩, 9), (⟨"TextRows$Query", "readAtom", "(I)I"⟩, 9), (⟨"TextRows$Query", "readBrackets", "(I)I"⟩, 9), (⟨"TextRows$Query", "readSign", "(I)V"⟩, 9), (⟨"TextRows$Query", "comes", "(I)Z"⟩, 9), (⟨"TextRows$Query", "readRanges", "(I)V"⟩, 9), (⟨"TextRows$Query", "readRange", "(I)V"⟩, 9), (⟨"TextRows$Query", "readRangeByte", "()I"⟩, 9), (⟨"TextRows$Query", "readByte", "()I"⟩, 9), (⟨"TextRows$Query", "addBytes", "(III)V"⟩, 9), (⟨"TextRows$Query", "readPlain", "(I)V"⟩, 9), (⟨"TextRows$Query", "readRepeat", "(I)V"⟩, 9), (⟨"TextRows$Query", "repeat", "(III)V"⟩, 9), (⟨"TextRows$Query", "readNumbers", "(I)V"⟩, 9), (⟨"TextRows$Query", "readNumber", "()I"⟩, 9)]
theorem lw_r2 : ∀ q ∈ lw_privs_2, lw_okq q := List.forall_mem_cons.mpr ⟨lw_p16, List.forall_mem_cons.mpr ⟨lw_p17, List.forall_mem_cons.mpr ⟨lw_p18, List.forall_mem_cons.mpr ⟨lw_p19, List.forall_mem_cons.mpr ⟨lw_p20, List.forall_mem_cons.mpr ⟨lw_p21, List.forall_mem_cons.mpr ⟨lw_p22, List.forall_mem_cons.mpr ⟨lw_p23, List.forall_mem_cons.mpr ⟨lw_p24, List.forall_mem_cons.mpr ⟨lw_p25, List.forall_mem_cons.mpr ⟨lw_p26, List.forall_mem_cons.mpr ⟨lw_p27, List.forall_mem_cons.mpr ⟨lw_p28, List.forall_mem_cons.mpr ⟨lw_p29, List.forall_mem_cons.mpr ⟨lw_p30, List.forall_mem_cons.mpr ⟨lw_p31, fun _ h => absurd h List.not_mem_nil⟩⟩⟩⟩⟩⟩⟩⟩⟩⟩⟩⟩⟩⟩⟩⟩
theorem lw_p32 : lw_okq (⟨"TextRows$Query", "figureComes", "()Z"⟩, 9) := ⟨⟨by decide +kernel, by decide +kernel⟩, List.mem_of_getElem? (i := 213) (by decide +kernel), List.mem_of_getElem? (i := 817) (by decide +kernel), List.mem_of_getElem? (i := 818) (by decide +kernel)⟩
theorem lw_p33 : lw_okq (⟨"TextRows$Tree", "growSum", "(I)I"⟩, 8) := ⟨⟨by decide +kernel, by decide +kernel⟩, List.mem_of_getElem? (i := 262) (by decide +kernel), List.mem_of_getElem? (i := 839) (by decide +kernel), List.mem_of_getElem? (i := 840) (by decide +kernel)⟩
theorem lw_p34 : lw_okq (⟨"TextRows$Tree", "growRow", "(I)I"⟩, 8) := ⟨⟨by decide +kernel, by decide +kernel⟩, List.mem_of_getElem? (i := 262) (by decide +kernel), List.mem_of_getElem? (i := 843) (by decide +kernel), List.mem_of_getElem? (i := 844) (by decide +kernel)⟩
theorem lw_p35 : lw_okq (⟨"TextRows$Tree", "comes", "(I)Z"⟩, 8) := ⟨⟨by decide +kernel, by decide +kernel⟩, List.mem_of_getElem? (i := 262) (by decide +kernel), List.mem_of_getElem? (i := 847) (by decide +kernel), List.mem_of_getElem? (i := 848) (by decide +kernel)⟩
theorem lw_p36 : lw_okq (⟨"TextRows$Tree", "growItem", "(II)I"⟩, 8) := ⟨⟨by decide +kernel, by decide +kernel⟩, List.mem_of_getElem? (i := 262) (by decide +kernel), List.mem_of_getElem? (i := 851) (by decide +kernel), List.mem_of_getElem? (i := 852) (by decide +kernel)⟩
theorem lw_p37 : lw_okq (⟨"TextRows$Tree", "growAtom", "(II)I"⟩, 8) := ⟨⟨by decide +kernel, by decide +kernel⟩, List.mem_of_getElem? (i := 262) (by decide +kernel), List.mem_of_getElem? (i := 856) (by decide +kernel), List.mem_of_getElem? (i := 857) (by decide +kernel)⟩
theorem lw_p38 : lw_okq (⟨"TextRows$Tree", "node", "(IIIZ)I"⟩, 8) := ⟨⟨by decide +kernel, by decide +kernel⟩, List.mem_of_getElem? (i := 262) (by decide +kernel), List.mem_of_getElem? (i := 860) (by decide +kernel), List.mem_of_getElem? (i := 861) (by decide +kernel)⟩
theorem lw_p39 : lw_okq (⟨"TextRows$Tree", "joined", "(II)I"⟩, 8) := ⟨⟨by decide +kernel, by decide +kernel⟩, List.mem_of_getElem? (i := 262) (by decide +kernel), List.mem_of_getElem? (i := 864) (by decide +kernel), List.mem_of_getElem? (i := 865) (by decide +kernel)⟩
theorem lw_p40 : lw_okq (⟨"TextRows$Tree", "choice", "(II)I"⟩, 8) := ⟨⟨by decide +kernel, by decide +kernel⟩, List.mem_of_getElem? (i := 262) (by decide +kernel), List.mem_of_getElem? (i := 869) (by decide +kernel), List.mem_of_getElem? (i := 870) (by decide +kernel)⟩
theorem lw_p41 : lw_okq (⟨"TextRows$Matcher", "goUp", "(II)V"⟩, 11) := ⟨⟨by decide +kernel, by decide +kernel⟩, List.mem_of_getElem? (i := 256) (by decide +kernel), List.mem_of_getElem? (i := 873) (by decide +kernel), List.mem_of_getElem? (i := 874) (by decide +kernel)⟩
theorem lw_p42 : lw_okq (⟨"TextRows$Matcher", "goDown", "(I)V"⟩, 11) := ⟨⟨by decide +kernel, by decide +kernel⟩, List.mem_of_getElem? (i := 256) (by decide +kernel), List.mem_of_getElem? (i := 885) (by decide +kernel), List.mem_of_getElem? (i := 886) (by decide +kernel)⟩
theorem lw_p43 : lw_okq (⟨"TextRows$Matcher", "goDownTo", "(III)V"⟩, 11) := ⟨⟨by decide +kernel, by decide +kernel⟩, List.mem_of_getElem? (i := 256) (by decide +kernel), List.mem_of_getElem? (i := 889) (by decide +kernel), List.mem_of_getElem? (i := 890) (by decide +kernel)⟩
theorem lw_p44 : lw_okq (⟨"TextRows$Matcher", "goDownLeft", "(I)V"⟩, 11) := ⟨⟨by decide +kernel, by decide +kernel⟩, List.mem_of_getElem? (i := 256) (by decide +kernel), List.mem_of_getElem? (i := 893) (by decide +kernel), List.mem_of_getElem? (i := 894) (by decide +kernel)⟩
theorem lw_p45 : lw_okq (⟨"TextRows$Repeats", "newOf", "(I)I"⟩, 5) := ⟨⟨by decide +kernel, by decide +kernel⟩, List.mem_of_getElem? (i := 332) (by decide +kernel), List.mem_of_getElem? (i := 917) (by decide +kernel), List.mem_of_getElem? (i := 918) (by decide +kernel)⟩
theorem lw_p46 : lw_okq (⟨"TextRows$Repeats", "lengthOf", "(I)I"⟩, 5) := ⟨⟨by decide +kernel, by decide +kernel⟩, List.mem_of_getElem? (i := 332) (by decide +kernel), List.mem_of_getElem? (i := 921) (by decide +kernel), List.mem_of_getElem? (i := 922) (by decide +kernel)⟩
theorem lw_p47 : lw_okq (⟨"TextRows$Repeats", "firstRun", "(IIZ)I"⟩, 5) := ⟨⟨by decide +kernel, by decide +kernel⟩, List.mem_of_getElem? (i := 332) (by decide +kernel), List.mem_of_getElem? (i := 951) (by decide +kernel), List.mem_of_getElem? (i := 952) (by decide +kernel)⟩
def lw_privs_3 : List (MethodName × Nat) := [(⟨"TextRows$Query", "figureComes", "()Z"⟩, 9), (⟨"TextRows$Tree", "growSum", "(I)I"⟩, 8), (⟨"TextRows$Tree", "growRow", "(I)I"⟩, 8), (⟨"TextRows$Tree", "comes", "(I)Z"⟩, 8), (⟨"TextRows$Tree", "growItem", "(II)I"⟩, 8), (⟨"TextRows$Tree", "growAtom", "(II)I"⟩, 8), (⟨"TextRows$Tree", "node", "(IIIZ)I"⟩, 8), (⟨"TextRows$Tree", "joined", "(II)I"⟩, 8), (⟨"TextRows$Tree", "choice", "(II)I"⟩, 8), (⟨"TextRows$Matcher", "goUp", "(II)V"⟩, 11), (⟨"TextRows$Matcher", "goDown", "(I)V"⟩, 11), (⟨"TextRows$Matcher", "goDownTo", "(III)V"⟩, 11), (⟨"TextRows$Matcher", "goDownLeft", "(I)V"⟩, 11), (⟨"TextRows$Repeats", "newOf", "(I)I"⟩, 5), (⟨"TextRows$Repeats", "lengthOf", "(I)I"⟩, 5), (⟨"TextRows$Repeats", "firstRun", "(IIZ)I"⟩, 5)]
theorem lw_r3 : ∀ q ∈ lw_privs_3, lw_okq q := List.forall_mem_cons.mpr ⟨lw_p32, List.forall_mem_cons.mpr ⟨lw_p33, List.forall_mem_cons.mpr ⟨lw_p34, List.forall_mem_cons.mpr ⟨lw_p35, List.forall_mem_cons.mpr ⟨lw_p36, List.forall_mem_cons.mpr ⟨lw_p37, List.forall_mem_cons.mpr ⟨lw_p38, List.forall_mem_cons.mpr ⟨lw_p39, List.forall_mem_cons.mpr ⟨lw_p40, List.forall_mem_cons.mpr ⟨lw_p41, List.forall_mem_cons.mpr ⟨lw_p42, List.forall_mem_cons.mpr ⟨lw_p43, List.forall_mem_cons.mpr ⟨lw_p44, List.forall_mem_cons.mpr ⟨lw_p45, List.forall_mem_cons.mpr ⟨lw_p46, List.forall_mem_cons.mpr ⟨lw_p47, fun _ h => absurd h List.not_mem_nil⟩⟩⟩⟩⟩⟩⟩⟩⟩⟩⟩⟩⟩⟩⟩⟩
theorem lw_p48 : lw_okq (⟨"TextRows$Repeats", "maximalFrom", "(I)I"⟩, 5) := ⟨⟨by decide +kernel, by decide +kernel⟩, List.mem_of_getElem? (i := 332) (by decide +kernel), List.mem_of_getElem? (i := 984) (by decide +kernel), List.mem_of_getElem? (i := 985) (by decide +kernel)⟩
theorem lw_p49 : lw_okq (⟨"TextRows$Repeats", "maximalLength", "(II)I"⟩, 5) := ⟨⟨by decide +kernel, by decide +kernel⟩, List.mem_of_getElem? (i := 332) (by decide +kernel), List.mem_of_getElem? (i := 988) (by decide +kernel), List.mem_of_getElem? (i := 989) (by decide +kernel)⟩
theorem lw_p50 : lw_okq (⟨"TextRows$Pieces", "leastEarlier", "(I)I"⟩, 7) := ⟨⟨by decide +kernel, by decide +kernel⟩, List.mem_of_getElem? (i := 355) (by decide +kernel), List.mem_of_getElem? (i := 1014) (by decide +kernel), List.mem_of_getElem? (i := 1015) (by decide +kernel)⟩
theorem lw_p51 : lw_okq (⟨"TextRows$Pieces", "periodOfWords", "(II)I"⟩, 7) := ⟨⟨by decide +kernel, by decide +kernel⟩, List.mem_of_getElem? (i := 355) (by decide +kernel), List.mem_of_getElem? (i := 1026) (by decide +kernel), List.mem_of_getElem? (i := 1027) (by decide +kernel)⟩
theorem lw_p52 : lw_okq (⟨"TextRows$Pieces", "endOfWords", "(III)I"⟩, 7) := ⟨⟨by decide +kernel, by decide +kernel⟩, List.mem_of_getElem? (i := 355) (by decide +kernel), List.mem_of_getElem? (i := 1030) (by decide +kernel), List.mem_of_getElem? (i := 1031) (by decide +kernel)⟩
theorem lw_p53 : lw_okq (⟨"TextRows", "countOfIndex", "(I)I"⟩, 8) := ⟨⟨by decide +kernel, by decide +kernel⟩, List.mem_of_getElem? (i := 17) (by decide +kernel), List.mem_of_getElem? (i := 1066) (by decide +kernel), List.mem_of_getElem? (i := 1067) (by decide +kernel)⟩
theorem lw_p54 : lw_okq (⟨"TextRowsModel", "sortAll", "()V"⟩, 74) := ⟨⟨by decide +kernel, by decide +kernel⟩, List.mem_of_getElem? (i := 1083) (by decide +kernel), List.mem_of_getElem? (i := 1334) (by decide +kernel), List.mem_of_getElem? (i := 1335) (by decide +kernel)⟩
theorem lw_p55 : lw_okq (⟨"TextRowsModel", "sortBy", "(I)V"⟩, 74) := ⟨⟨by decide +kernel, by decide +kernel⟩, List.mem_of_getElem? (i := 1083) (by decide +kernel), List.mem_of_getElem? (i := 1338) (by decide +kernel), List.mem_of_getElem? (i := 1339) (by decide +kernel)⟩
theorem lw_p56 : lw_okq (⟨"TextRowsModel", "keyAt", "(I)I"⟩, 74) := ⟨⟨by decide +kernel, by decide +kernel⟩, List.mem_of_getElem? (i := 1083) (by decide +kernel), List.mem_of_getElem? (i := 1342) (by decide +kernel), List.mem_of_getElem? (i := 1343) (by decide +kernel)⟩
theorem lw_p57 : lw_okq (⟨"TextRowsModel", "findShares", "()V"⟩, 74) := ⟨⟨by decide +kernel, by decide +kernel⟩, List.mem_of_getElem? (i := 1083) (by decide +kernel), List.mem_of_getElem? (i := 1346) (by decide +kernel), List.mem_of_getElem? (i := 1347) (by decide +kernel)⟩
theorem lw_p58 : lw_okq (⟨"TextRowsModel", "toEmpty", "()V"⟩, 74) := ⟨⟨by decide +kernel, by decide +kernel⟩, List.mem_of_getElem? (i := 1083) (by decide +kernel), List.mem_of_getElem? (i := 1350) (by decide +kernel), List.mem_of_getElem? (i := 1351) (by decide +kernel)⟩
theorem lw_p59 : lw_okq (⟨"TextRowsModel", "isRow", "(I)Z"⟩, 74) := ⟨⟨by decide +kernel, by decide +kernel⟩, List.mem_of_getElem? (i := 1083) (by decide +kernel), List.mem_of_getElem? (i := 1358) (by decide +kernel), List.mem_of_getElem? (i := 1359) (by decide +kernel)⟩
theorem lw_p60 : lw_okq (⟨"TextRowsModel", "stepsOf", "(I)I"⟩, 74) := ⟨⟨by decide +kernel, by decide +kernel⟩, List.mem_of_getElem? (i := 1083) (by decide +kernel), List.mem_of_getElem? (i := 1362) (by decide +kernel), List.mem_of_getElem? (i := 1363) (by decide +kernel)⟩
theorem lw_p61 : lw_okq (⟨"TextRowsModel", "beforeOf", "(I)I"⟩, 74) := ⟨⟨by decide +kernel, by decide +kernel⟩, List.mem_of_getElem? (i := 1083) (by decide +kernel), List.mem_of_getElem? (i := 1378) (by decide +kernel), List.mem_of_getElem? (i := 1379) (by decide +kernel)⟩
theorem lw_p62 : lw_okq (⟨"TextRowsModel", "isDocument", "(I)Z"⟩, 74) := ⟨⟨by decide +kernel, by decide +kernel⟩, List.mem_of_getElem? (i := 1083) (by decide +kernel), List.mem_of_getElem? (i := 1405) (by decide +kernel), List.mem_of_getElem? (i := 1406) (by decide +kernel)⟩
theorem lw_p63 : lw_okq (⟨"TextRowsModel", "alikeOf", "(II)I"⟩, 74) := ⟨⟨by decide +kernel, by decide +kernel⟩, List.mem_of_getElem? (i := 1083) (by decide +kernel), List.mem_of_getElem? (i := 1413) (by decide +kernel), List.mem_of_getElem? (i := 1414) (by decide +kernel)⟩
def lw_privs_4 : List (MethodName × Nat) := [(⟨"TextRows$Repeats", "maximalFrom", "(I)I"⟩, 5), (⟨"TextRows$Repeats", "maximalLength", "(II)I"⟩, 5), (⟨"TextRows$Pieces", "leastEarlier", "(I)I"⟩, 7), (⟨"TextRows$Pieces", "periodOfWords", "(II)I"⟩, 7), (⟨"TextRows$Pieces", "endOfWords", "(III)I"⟩, 7), (⟨"TextRows", "countOfIndex", "(I)I"⟩, 8), (⟨"TextRowsModel", "sortAll", "()V"⟩, 74), (⟨"TextRowsModel", "sortBy", "(I)V"⟩, 74), (⟨"TextRowsModel", "keyAt", "(I)I"⟩, 74), (⟨"TextRowsModel", "findShares", "()V"⟩, 74), (⟨"TextRowsModel", "toEmpty", "()V"⟩, 74), (⟨"TextRowsModel", "isRow", "(I)Z"⟩, 74), (⟨"TextRowsModel", "stepsOf", "(I)I"⟩, 74), (⟨"TextRowsModel", "beforeOf", "(I)I"⟩, 74), (⟨"TextRowsModel", "isDocument", "(I)Z"⟩, 74), (⟨"TextRowsModel", "alikeOf", "(II)I"⟩, 74)]
theorem lw_r4 : ∀ q ∈ lw_privs_4, lw_okq q := List.forall_mem_cons.mpr ⟨lw_p48, List.forall_mem_cons.mpr ⟨lw_p49, List.forall_mem_cons.mpr ⟨lw_p50, List.forall_mem_cons.mpr ⟨lw_p51, List.forall_mem_cons.mpr ⟨lw_p52, List.forall_mem_cons.mpr ⟨lw_p53, List.forall_mem_cons.mpr ⟨lw_p54, List.forall_mem_cons.mpr ⟨lw_p55, List.forall_mem_cons.mpr ⟨lw_p56, List.forall_mem_cons.mpr ⟨lw_p57, List.forall_mem_cons.mpr ⟨lw_p58, List.forall_mem_cons.mpr ⟨lw_p59, List.forall_mem_cons.mpr ⟨lw_p60, List.forall_mem_cons.mpr ⟨lw_p61, List.forall_mem_cons.mpr ⟨lw_p62, List.forall_mem_cons.mpr ⟨lw_p63, fun _ h => absurd h List.not_mem_nil⟩⟩⟩⟩⟩⟩⟩⟩⟩⟩⟩⟩⟩⟩⟩⟩
theorem lw_p64 : lw_okq (⟨"TextRowsModel", "left", "(I)I"⟩, 74) := ⟨⟨by decide +kernel, by decide +kernel⟩, List.mem_of_getElem? (i := 1083) (by decide +kernel), List.mem_of_getElem? (i := 1417) (by decide +kernel), List.mem_of_getElem? (i := 1418) (by decide +kernel)⟩
theorem lw_p65 : lw_okq (⟨"TextRowsModel", "findRows", "(II)V"⟩, 74) := ⟨⟨by decide +kernel, by decide +kernel⟩, List.mem_of_getElem? (i := 1083) (by decide +kernel), List.mem_of_getElem? (i := 1437) (by decide +kernel), List.mem_of_getElem? (i := 1438) (by decide +kernel)⟩
theorem lw_p66 : lw_okq (⟨"TextRowsModel", "isAt", "(I)Z"⟩, 74) := ⟨⟨by decide +kernel, by decide +kernel⟩, List.mem_of_getElem? (i := 1083) (by decide +kernel), List.mem_of_getElem? (i := 1458) (by decide +kernel), List.mem_of_getElem? (i := 1459) (by decide +kernel)⟩
theorem lw_p67 : lw_okq (⟨"TextRowsModel", "timesOf", "(I)I"⟩, 74) := ⟨⟨by decide +kernel, by decide +kernel⟩, List.mem_of_getElem? (i := 1083) (by decide +kernel), List.mem_of_getElem? (i := 1470) (by decide +kernel), List.mem_of_getElem? (i := 1471) (by decide +kernel)⟩
theorem lw_p68 : lw_okq (⟨"TextRowsModel", "become", "(II)V"⟩, 74) := ⟨⟨by decide +kernel, by decide +kernel⟩, List.mem_of_getElem? (i := 1083) (by decide +kernel), List.mem_of_getElem? (i := 1482) (by decide +kernel), List.mem_of_getElem? (i := 1483) (by decide +kernel)⟩
theorem lw_p69 : lw_okq (⟨"TextRowsModel", "goOver", "(Z)V"⟩, 74) := ⟨⟨by decide +kernel, by decide +kernel⟩, List.mem_of_getElem? (i := 1083) (by decide +kernel), List.mem_of_getElem? (i := 1502) (by decide +kernel), List.mem_of_getElem? (i := 1503) (by decide +kernel)⟩
theorem lw_p70 : lw_okq (⟨"TextRowsModel", "openOne", "(I)V"⟩, 74) := ⟨⟨by decide +kernel, by decide +kernel⟩, List.mem_of_getElem? (i := 1083) (by decide +kernel), List.mem_of_getElem? (i := 1506) (by decide +kernel), List.mem_of_getElem? (i := 1507) (by decide +kernel)⟩
theorem lw_p71 : lw_okq (⟨"TextRowsModel", "sign", "()I"⟩, 74) := ⟨⟨by decide +kernel, by decide +kernel⟩, List.mem_of_getElem? (i := 1083) (by decide +kernel), List.mem_of_getElem? (i := 1510) (by decide +kernel), List.mem_of_getElem? (i := 1511) (by decide +kernel)⟩
theorem lw_p72 : lw_okq (⟨"TextRowsModel", "fail", "(I)V"⟩, 74) := ⟨⟨by decide +kernel, by decide +kernel⟩, List.mem_of_getElem? (i := 1083) (by decide +kernel), List.mem_of_getElem? (i := 1514) (by decide +kernel), List.mem_of_getElem? (i := 1515) (by decide +kernel)⟩
theorem lw_p73 : lw_okq (⟨"TextRowsModel", "quantify", "(IIZ)V"⟩, 74) := ⟨⟨by decide +kernel, by decide +kernel⟩, List.mem_of_getElem? (i := 1083) (by decide +kernel), List.mem_of_getElem? (i := 1518) (by decide +kernel), List.mem_of_getElem? (i := 1519) (by decide +kernel)⟩
theorem lw_p74 : lw_okq (⟨"TextRowsModel", "braces", "()V"⟩, 74) := ⟨⟨by decide +kernel, by decide +kernel⟩, List.mem_of_getElem? (i := 1083) (by decide +kernel), List.mem_of_getElem? (i := 1522) (by decide +kernel), List.mem_of_getElem? (i := 1523) (by decide +kernel)⟩
theorem lw_p75 : lw_okq (⟨"TextRowsModel", "number", "()I"⟩, 74) := ⟨⟨by decide +kernel, by decide +kernel⟩, List.mem_of_getElem? (i := 1083) (by decide +kernel), List.mem_of_getElem? (i := 1526) (by decide +kernel), List.mem_of_getElem? (i := 1527) (by decide +kernel)⟩
theorem lw_p76 : lw_okq (⟨"TextRowsModel", "repeat", "(III)V"⟩, 74) := ⟨⟨by decide +kernel, by decide +kernel⟩, List.mem_of_getElem? (i := 1083) (by decide +kernel), List.mem_of_getElem? (i := 1534) (by decide +kernel), List.mem_of_getElem? (i := 1535) (by decide +kernel)⟩
theorem lw_p77 : lw_okq (⟨"TextRowsModel", "addMade", "(I)V"⟩, 74) := ⟨⟨by decide +kernel, by decide +kernel⟩, List.mem_of_getElem? (i := 1083) (by decide +kernel), List.mem_of_getElem? (i := 1538) (by decide +kernel), List.mem_of_getElem? (i := 1539) (by decide +kernel)⟩
theorem lw_p78 : lw_okq (⟨"TextRowsModel", "again", "(II)V"⟩, 74) := ⟨⟨by decide +kernel, by decide +kernel⟩, List.mem_of_getElem? (i := 1083) (by decide +kernel), List.mem_of_getElem? (i := 1543) (by decide +kernel), List.mem_of_getElem? (i := 1544) (by decide +kernel)⟩
theorem lw_p79 : lw_okq (⟨"TextRowsModel", "endItem", "(I)V"⟩, 74) := ⟨⟨by decide +kernel, by decide +kernel⟩, List.mem_of_getElem? (i := 1083) (by decide +kernel), List.mem_of_getElem? (i := 1547) (by decide +kernel), List.mem_of_getElem? (i := 1548) (by decide +kernel)⟩
def lw_privs_5 : List (MethodName × Nat) := [(⟨"TextRowsModel", "left", "(I)I"⟩, 74), (⟨"TextRowsModel", "findRows", "(II)V"⟩, 74), (⟨"TextRowsModel", "isAt", "(I)Z"⟩, 74), (⟨"TextRowsModel", "timesOf", "(I)I"⟩, 74), (⟨"TextRowsModel", "become", "(II)V"⟩, 74), (⟨"TextRowsModel", "goOver", "(Z)V"⟩, 74), (⟨"TextRowsModel", "openOne", "(I)V"⟩, 74), (⟨"TextRowsModel", "sign", "()I"⟩, 74), (⟨"TextRowsModel", "fail", "(I)V"⟩, 74), (⟨"TextRowsModel", "quantify", "(IIZ)V"⟩, 74), (⟨"TextRowsModel", "braces", "()V"⟩, 74), (⟨"TextRowsModel", "number", "()I"⟩, 74), (⟨"TextRowsModel", "repeat", "(III)V"⟩, 74), (⟨"TextRowsModel", "addMade", "(I)V"⟩, 74), (⟨"TextRowsModel", "again", "(II)V"⟩, 74), (⟨"TextRowsModel", "endItem", "(I)V"⟩, 74)]
theorem lw_r5 : ∀ q ∈ lw_privs_5, lw_okq q := List.forall_mem_cons.mpr ⟨lw_p64, List.forall_mem_cons.mpr ⟨lw_p65, List.forall_mem_cons.mpr ⟨lw_p66, List.forall_mem_cons.mpr ⟨lw_p67, List.forall_mem_cons.mpr ⟨lw_p68, List.forall_mem_cons.mpr ⟨lw_p69, List.forall_mem_cons.mpr ⟨lw_p70, List.forall_mem_cons.mpr ⟨lw_p71, List.forall_mem_cons.mpr ⟨lw_p72, List.forall_mem_cons.mpr ⟨lw_p73, List.forall_mem_cons.mpr ⟨lw_p74, List.forall_mem_cons.mpr ⟨lw_p75, List.forall_mem_cons.mpr ⟨lw_p76, List.forall_mem_cons.mpr ⟨lw_p77, List.forall_mem_cons.mpr ⟨lw_p78, List.forall_mem_cons.mpr ⟨lw_p79, fun _ h => absurd h List.not_mem_nil⟩⟩⟩⟩⟩⟩⟩⟩⟩⟩⟩⟩⟩⟩⟩⟩
theorem lw_p80 : lw_okq (⟨"TextRowsModel", "endRow", "(I)V"⟩, 74) := ⟨⟨by decide +kernel, by decide +kernel⟩, List.mem_of_getElem? (i := 1083) (by decide +kernel), List.mem_of_getElem? (i := 1551) (by decide +kernel), List.mem_of_getElem? (i := 1552) (by decide +kernel)⟩
theorem lw_p81 : lw_okq (⟨"TextRowsModel", "begunAtom", "(IIJ)V"⟩, 74) := ⟨⟨by decide +kernel, by decide +kernel⟩, List.mem_of_getElem? (i := 1083) (by decide +kernel), List.mem_of_getElem? (i := 1555) (by decide +kernel), List.mem_of_getElem? (i := 1556) (by decide +kernel)⟩
theorem lw_p82 : lw_okq (⟨"TextRowsModel", "atom", "(IIZ)V"⟩, 74) := ⟨⟨by decide +kernel, by decide +kernel⟩, List.mem_of_getElem? (i := 1083) (by decide +kernel), List.mem_of_getElem? (i := 1559) (by decide +kernel), List.mem_of_getElem? (i := 1560) (by decide +kernel)⟩
theorem lw_p83 : lw_okq (⟨"TextRowsModel", "ranges", "()V"⟩, 74) := ⟨⟨by decide +kernel, by decide +kernel⟩, List.mem_of_getElem? (i := 1083) (by decide +kernel), List.mem_of_getElem? (i := 1563) (by decide +kernel), List.mem_of_getElem? (i := 1564) (by decide +kernel)⟩
theorem lw_p84 : lw_okq (⟨"TextRowsModel", "rangeByte", "()I"⟩, 74) := ⟨⟨by decide +kernel, by decide +kernel⟩, List.mem_of_getElem? (i := 1083) (by decide +kernel), List.mem_of_getElem? (i := 1567) (by decide +kernel), List.mem_of_getElem? (i := 1568) (by decide +kernel)⟩
theorem lw_p85 : lw_okq (⟨"TextRowsModel", "findPositions", "()V"⟩, 74) := ⟨⟨by decide +kernel, by decide +kernel⟩, List.mem_of_getElem? (i := 1083) (by decide +kernel), List.mem_of_getElem? (i := 1572) (by decide +kernel), List.mem_of_getElem? (i := 1573) (by decide +kernel)⟩
theorem lw_p86 : lw_okq (⟨"TextRowsModel", "follow", "(JJJJ)V"⟩, 74) := ⟨⟨by decide +kernel, by decide +kernel⟩, List.mem_of_getElem? (i := 1083) (by decide +kernel), List.mem_of_getElem? (i := 1576) (by decide +kernel), List.mem_of_getElem? (i := 1577) (by decide +kernel)⟩
theorem lw_p87 : lw_okq (⟨"TextRowsModel", "matchFrom", "(I)V"⟩, 74) := ⟨⟨by decide +kernel, by decide +kernel⟩, List.mem_of_getElem? (i := 1083) (by decide +kernel), List.mem_of_getElem? (i := 1580) (by decide +kernel), List.mem_of_getElem? (i := 1581) (by decide +kernel)⟩
theorem lw_p88 : lw_okq (⟨"TextRowsModel", "fits", "(II)Z"⟩, 74) := ⟨⟨by decide +kernel, by decide +kernel⟩, List.mem_of_getElem? (i := 1083) (by decide +kernel), List.mem_of_getElem? (i := 1584) (by decide +kernel), List.mem_of_getElem? (i := 1585) (by decide +kernel)⟩
theorem lw_p89 : lw_okq (⟨"TextRowsModel", "freshOf", "(I)I"⟩, 74) := ⟨⟨by decide +kernel, by decide +kernel⟩, List.mem_of_getElem? (i := 1083) (by decide +kernel), List.mem_of_getElem? (i := 1596) (by decide +kernel), List.mem_of_getElem? (i := 1597) (by decide +kernel)⟩
theorem lw_p90 : lw_okq (⟨"TextRowsModel", "becomeBest", "(II)I"⟩, 74) := ⟨⟨by decide +kernel, by decide +kernel⟩, List.mem_of_getElem? (i := 1083) (by decide +kernel), List.mem_of_getElem? (i := 1612) (by decide +kernel), List.mem_of_getElem? (i := 1613) (by decide +kernel)⟩
theorem lw_p91 : lw_okq (⟨"TextRowsModel", "isOneBefore", "(II)Z"⟩, 74) := ⟨⟨by decide +kernel, by decide +kernel⟩, List.mem_of_getElem? (i := 1083) (by decide +kernel), List.mem_of_getElem? (i := 1632) (by decide +kernel), List.mem_of_getElem? (i := 1633) (by decide +kernel)⟩
theorem lw_p92 : lw_okq (⟨"TextRowsModel", "findFactors", "()V"⟩, 74) := ⟨⟨by decide +kernel, by decide +kernel⟩, List.mem_of_getElem? (i := 1083) (by decide +kernel), List.mem_of_getElem? (i := 1644) (by decide +kernel), List.mem_of_getElem? (i := 1645) (by decide +kernel)⟩
theorem lw_p93 : lw_okq (⟨"TextRowsModel", "countBytes", "()I"⟩, 74) := ⟨⟨by decide +kernel, by decide +kernel⟩, List.mem_of_getElem? (i := 1083) (by decide +kernel), List.mem_of_getElem? (i := 1668) (by decide +kernel), List.mem_of_getElem? (i := 1669) (by decide +kernel)⟩
theorem lw_p94 : lw_okq (⟨"TextRowsModel", "countRows", "(I)I"⟩, 74) := ⟨⟨by decide +kernel, by decide +kernel⟩, List.mem_of_getElem? (i := 1083) (by decide +kernel), List.mem_of_getElem? (i := 1672) (by decide +kernel), List.mem_of_getElem? (i := 1673) (by decide +kernel)⟩
def lw_privs_6 : List (MethodName × Nat) := [(⟨"TextRowsModel", "endRow", "(I)V"⟩, 74), (⟨"TextRowsModel", "begunAtom", "(IIJ)V"⟩, 74), (⟨"TextRowsModel", "atom", "(IIZ)V"⟩, 74), (⟨"TextRowsModel", "ranges", "()V"⟩, 74), (⟨"TextRowsModel", "rangeByte", "()I"⟩, 74), (⟨"TextRowsModel", "findPositions", "()V"⟩, 74), (⟨"TextRowsModel", "follow", "(JJJJ)V"⟩, 74), (⟨"TextRowsModel", "matchFrom", "(I)V"⟩, 74), (⟨"TextRowsModel", "fits", "(II)Z"⟩, 74), (⟨"TextRowsModel", "freshOf", "(I)I"⟩, 74), (⟨"TextRowsModel", "becomeBest", "(II)I"⟩, 74), (⟨"TextRowsModel", "isOneBefore", "(II)Z"⟩, 74), (⟨"TextRowsModel", "findFactors", "()V"⟩, 74), (⟨"TextRowsModel", "countBytes", "()I"⟩, 74), (⟨"TextRowsModel", "countRows", "(I)I"⟩, 74)]
theorem lw_r6 : ∀ q ∈ lw_privs_6, lw_okq q := List.forall_mem_cons.mpr ⟨lw_p80, List.forall_mem_cons.mpr ⟨lw_p81, List.forall_mem_cons.mpr ⟨lw_p82, List.forall_mem_cons.mpr ⟨lw_p83, List.forall_mem_cons.mpr ⟨lw_p84, List.forall_mem_cons.mpr ⟨lw_p85, List.forall_mem_cons.mpr ⟨lw_p86, List.forall_mem_cons.mpr ⟨lw_p87, List.forall_mem_cons.mpr ⟨lw_p88, List.forall_mem_cons.mpr ⟨lw_p89, List.forall_mem_cons.mpr ⟨lw_p90, List.forall_mem_cons.mpr ⟨lw_p91, List.forall_mem_cons.mpr ⟨lw_p92, List.forall_mem_cons.mpr ⟨lw_p93, List.forall_mem_cons.mpr ⟨lw_p94, fun _ h => absurd h List.not_mem_nil⟩⟩⟩⟩⟩⟩⟩⟩⟩⟩⟩⟩⟩⟩⟩
def lw_privs : List (MethodName × Nat) := lw_privs_1 ++ (lw_privs_2 ++ (lw_privs_3 ++ (lw_privs_4 ++ (lw_privs_5 ++ (lw_privs_6)))))
def lw_tbl : List Cond := k2_sels lw_privs ++ tables_1
theorem lw_privs_ok : ∀ q ∈ lw_privs, lw_okq q := by
  show ∀ q ∈ lw_privs_1 ++ (lw_privs_2 ++ (lw_privs_3 ++ (lw_privs_4 ++ (lw_privs_5 ++ (lw_privs_6))))), lw_okq q
  exact List.forall_mem_append.mpr ⟨lw_r1, List.forall_mem_append.mpr ⟨lw_r2, List.forall_mem_append.mpr ⟨lw_r3, List.forall_mem_append.mpr ⟨lw_r4, List.forall_mem_append.mpr ⟨lw_r5, lw_r6⟩⟩⟩⟩⟩
-- ===== end of PART A; then your names; then what follows =====
end
section
/-! ===== names, out of the printed ones ===== -/
def RX0 : String := "TextRows$Book"
def TX0 : u_T := fun k => match k with
  | 0 => ("TextRows$Book", "text", "[I", true)
  | 1 => ("TextRows$Book", "firsts", "[I", true)
  | 2 => ("TextRows$Book", "hand", "[I", true)
  | 3 => ("TextRows$Book", "documents", "I", false)
  | _ => ("TextRows$Book", "atHand", "I", false)
def tyX0 : Nat → FieldType := fun k => match k with
  | 0 => .array .int
  | 1 => .array .int
  | 2 => .array .int
  | 3 => .int
  | _ => .int
theorem nmX0 : ∀ a, a < 5 → ∀ b, b < 5 → a ≠ b → (TX0 a).2.1 ≠ (TX0 b).2.1 := by decide +kernel
theorem tyX0_ok : ∀ k, k < 5 → parseFieldDescriptor (TX0 k).2.2.1 = some (tyX0 k) := by decide +kernel
def RX1 : String := "TextRows$Held"
def TX1 : u_T := fun k => match k with
  | 0 => ("TextRows$Held", "index", "LTextRows$Index;", true)
  | 1 => ("TextRows$Held", "grown", "[Z", true)
  | 2 => ("TextRows$Held", "tally", "[I", true)
  | 3 => ("TextRows$Held", "done", "I", false)
  | 4 => ("TextRows$Held", "start", "I", false)
  | 5 => ("TextRows$Held", "length", "I", false)
  | 6 => ("TextRows$Held", "low", "I", false)
  | _ => ("TextRows$Held", "high", "I", false)
def tyX1 : Nat → FieldType := fun k => match k with
  | 0 => .object "TextRows$Index"
  | 1 => .array .boolean
  | 2 => .array .int
  | 3 => .int
  | 4 => .int
  | 5 => .int
  | 6 => .int
  | _ => .int
theorem nmX1 : ∀ a, a < 8 → ∀ b, b < 8 → a ≠ b → (TX1 a).2.1 ≠ (TX1 b).2.1 := by decide +kernel
theorem tyX1_ok : ∀ k, k < 8 → parseFieldDescriptor (TX1 k).2.2.1 = some (tyX1 k) := by decide +kernel
def RX2 : String := "TextRows$Index"
def TX2 : u_T := fun k => match k with
  | 0 => ("TextRows$Index", "text", "[I", true)
  | 1 => ("TextRows$Index", "owners", "[I", true)
  | 2 => ("TextRows$Index", "firsts", "[I", true)
  | 3 => ("TextRows$Index", "places", "[I", true)
  | 4 => ("TextRows$Index", "rows", "[I", true)
  | 5 => ("TextRows$Index", "alikes", "[I", true)
  | 6 => ("TextRows$Index", "fronts", "[I", true)
  | 7 => ("TextRows$Index", "sorter", "LTextRows$Sorter;", true)
  | 8 => ("TextRows$Index", "size", "I", false)
  | 9 => ("TextRows$Index", "documents", "I", false)
  | 10 => ("TextRows$Index", "rate", "I", false)
  | _ => ("TextRows$Index", "steps", "I", false)
def tyX2 : Nat → FieldType := fun k => match k with
  | 0 => .array .int
  | 1 => .array .int
  | 2 => .array .int
  | 3 => .array .int
  | 4 => .array .int
  | 5 => .array .int
  | 6 => .array .int
  | 7 => .object "TextRows$Sorter"
  | 8 => .int
  | 9 => .int
  | 10 => .int
  | _ => .int
theorem nmX2 : ∀ a, a < 12 → ∀ b, b < 12 → a ≠ b → (TX2 a).2.1 ≠ (TX2 b).2.1 := by decide +kernel
theorem tyX2_ok : ∀ k, k < 12 → parseFieldDescriptor (TX2 k).2.2.1 = some (tyX2 k) := by decide +kernel
def RX3 : String := "TextRows$Matcher"
def TX3 : u_T := fun k => match k with
  | 0 => ("TextRows$Matcher", "index", "LTextRows$Index;", true)
  | 1 => ("TextRows$Matcher", "query", "LTextRows$Query;", true)
  | 2 => ("TextRows$Matcher", "tree", "LTextRows$Tree;", true)
  | 3 => ("TextRows$Matcher", "leastAhead", "[I", true)
  | 4 => ("TextRows$Matcher", "mostAhead", "[I", true)
  | 5 => ("TextRows$Matcher", "leastAfter", "[I", true)
  | 6 => ("TextRows$Matcher", "mostAfter", "[I", true)
  | 7 => ("TextRows$Matcher", "places", "[I", true)
  | 8 => ("TextRows$Matcher", "least", "[I", true)
  | 9 => ("TextRows$Matcher", "most", "[I", true)
  | _ => ("TextRows$Matcher", "firstFound", "I", false)
def tyX3 : Nat → FieldType := fun k => match k with
  | 0 => .object "TextRows$Index"
  | 1 => .object "TextRows$Query"
  | 2 => .object "TextRows$Tree"
  | 3 => .array .int
  | 4 => .array .int
  | 5 => .array .int
  | 6 => .array .int
  | 7 => .array .int
  | 8 => .array .int
  | 9 => .array .int
  | _ => .int
theorem nmX3 : ∀ a, a < 11 → ∀ b, b < 11 → a ≠ b → (TX3 a).2.1 ≠ (TX3 b).2.1 := by decide +kernel
theorem tyX3_ok : ∀ k, k < 11 → parseFieldDescriptor (TX3 k).2.2.1 = some (tyX3 k) := by decide +kernel
def RX4 : String := "TextRows$Near"
def TX4 : u_T := fun k => match k with
  | 0 => ("TextRows$Near", "index", "LTextRows$Index;", true)
  | 1 => ("TextRows$Near", "held", "LTextRows$Held;", true)
  | 2 => ("TextRows$Near", "places", "[I", true)
  | 3 => ("TextRows$Near", "others", "[I", true)
  | _ => ("TextRows$Near", "found", "I", false)
def tyX4 : Nat → FieldType := fun k => match k with
  | 0 => .object "TextRows$Index"
  | 1 => .object "TextRows$Held"
  | 2 => .array .int
  | 3 => .array .int
  | _ => .int
theorem nmX4 : ∀ a, a < 5 → ∀ b, b < 5 → a ≠ b → (TX4 a).2.1 ≠ (TX4 b).2.1 := by decide +kernel
theorem tyX4_ok : ∀ k, k < 5 → parseFieldDescriptor (TX4 k).2.2.1 = some (tyX4 k) := by decide +kernel
def RX5 : String := "TextRows$Pieces"
def TX5 : u_T := fun k => match k with
  | 0 => ("TextRows$Pieces", "index", "LTextRows$Index;", true)
  | 1 => ("TextRows$Pieces", "earlier", "[I", true)
  | 2 => ("TextRows$Pieces", "reaches", "[I", true)
  | 3 => ("TextRows$Pieces", "gapReaches", "[I", true)
  | 4 => ("TextRows$Pieces", "upper", "[I", true)
  | 5 => ("TextRows$Pieces", "lower", "[I", true)
  | _ => ("TextRows$Pieces", "joint", "[I", true)
def tyX5 : Nat → FieldType := fun k => match k with
  | 0 => .object "TextRows$Index"
  | 1 => .array .int
  | 2 => .array .int
  | 3 => .array .int
  | 4 => .array .int
  | 5 => .array .int
  | _ => .array .int
theorem nmX5 : ∀ a, a < 7 → ∀ b, b < 7 → a ≠ b → (TX5 a).2.1 ≠ (TX5 b).2.1 := by decide +kernel
theorem tyX5_ok : ∀ k, k < 7 → parseFieldDescriptor (TX5 k).2.2.1 = some (tyX5 k) := by decide +kernel
def RX6 : String := "TextRows$Query"
def TX6 : u_T := fun k => match k with
  | 0 => ("TextRows$Query", "signs", "[I", true)
  | 1 => ("TextRows$Query", "sizes", "[I", true)
  | 2 => ("TextRows$Query", "ends", "[I", true)
  | 3 => ("TextRows$Query", "least", "[I", true)
  | 4 => ("TextRows$Query", "most", "[I", true)
  | 5 => ("TextRows$Query", "sets", "[J", true)
  | 6 => ("TextRows$Query", "signCount", "I", false)
  | 7 => ("TextRows$Query", "next", "I", false)
  | _ => ("TextRows$Query", "wrong", "I", false)
def tyX6 : Nat → FieldType := fun k => match k with
  | 0 => .array .int
  | 1 => .array .int
  | 2 => .array .int
  | 3 => .array .int
  | 4 => .array .int
  | 5 => .array .long
  | 6 => .int
  | 7 => .int
  | _ => .int
theorem nmX6 : ∀ a, a < 9 → ∀ b, b < 9 → a ≠ b → (TX6 a).2.1 ≠ (TX6 b).2.1 := by decide +kernel
theorem tyX6_ok : ∀ k, k < 9 → parseFieldDescriptor (TX6 k).2.2.1 = some (tyX6 k) := by decide +kernel
def RX7 : String := "TextRows$Repeats"
def TX7 : u_T := fun k => match k with
  | 0 => ("TextRows$Repeats", "index", "LTextRows$Index;", true)
  | 1 => ("TextRows$Repeats", "held", "LTextRows$Held;", true)
  | 2 => ("TextRows$Repeats", "lesser", "[I", true)
  | 3 => ("TextRows$Repeats", "changes", "[I", true)
  | _ => ("TextRows$Repeats", "seenIn", "[I", true)
def tyX7 : Nat → FieldType := fun k => match k with
  | 0 => .object "TextRows$Index"
  | 1 => .object "TextRows$Held"
  | 2 => .array .int
  | 3 => .array .int
  | _ => .array .int
theorem nmX7 : ∀ a, a < 5 → ∀ b, b < 5 → a ≠ b → (TX7 a).2.1 ≠ (TX7 b).2.1 := by decide +kernel
theorem tyX7_ok : ∀ k, k < 5 → parseFieldDescriptor (TX7 k).2.2.1 = some (tyX7 k) := by decide +kernel
def RX8 : String := "TextRows$Sorter"
def TX8 : u_T := fun k => match k with
  | 0 => ("TextRows$Sorter", "halves", "[I", true)
  | 1 => ("TextRows$Sorter", "newRanks", "[I", true)
  | _ => ("TextRows$Sorter", "starts", "[I", true)
def tyX8 : Nat → FieldType := fun k => match k with
  | 0 => .array .int
  | 1 => .array .int
  | _ => .array .int
theorem nmX8 : ∀ a, a < 3 → ∀ b, b < 3 → a ≠ b → (TX8 a).2.1 ≠ (TX8 b).2.1 := by decide +kernel
theorem tyX8_ok : ∀ k, k < 3 → parseFieldDescriptor (TX8 k).2.2.1 = some (tyX8 k) := by decide +kernel
def RX9 : String := "TextRows$Tree"
def TX9 : u_T := fun k => match k with
  | 0 => ("TextRows$Tree", "query", "LTextRows$Query;", true)
  | 1 => ("TextRows$Tree", "kinds", "[I", true)
  | 2 => ("TextRows$Tree", "lefts", "[I", true)
  | 3 => ("TextRows$Tree", "rights", "[I", true)
  | 4 => ("TextRows$Tree", "skips", "[Z", true)
  | 5 => ("TextRows$Tree", "loops", "[Z", true)
  | 6 => ("TextRows$Tree", "nodes", "I", false)
  | _ => ("TextRows$Tree", "next", "I", false)
def tyX9 : Nat → FieldType := fun k => match k with
  | 0 => .object "TextRows$Query"
  | 1 => .array .int
  | 2 => .array .int
  | 3 => .array .int
  | 4 => .array .boolean
  | 5 => .array .boolean
  | 6 => .int
  | _ => .int
theorem nmX9 : ∀ a, a < 8 → ∀ b, b < 8 → a ≠ b → (TX9 a).2.1 ≠ (TX9 b).2.1 := by decide +kernel
theorem tyX9_ok : ∀ k, k < 8 → parseFieldDescriptor (TX9 k).2.2.1 = some (tyX9 k) := by decide +kernel
def RX10 : String := "TextRows"
def TX10 : u_T := fun k => match k with
  | 0 => ("TextRows", "book", "LTextRows$Book;", true)
  | 1 => ("TextRows", "index", "LTextRows$Index;", true)
  | 2 => ("TextRows", "held", "LTextRows$Held;", true)
  | 3 => ("TextRows", "likes", "LTextRows$Near;", true)
  | 4 => ("TextRows", "query", "LTextRows$Query;", true)
  | 5 => ("TextRows", "matcher", "LTextRows$Matcher;", true)
  | 6 => ("TextRows", "repeats", "LTextRows$Repeats;", true)
  | _ => ("TextRows", "pieces", "LTextRows$Pieces;", true)
def tyX10 : Nat → FieldType := fun k => match k with
  | 0 => .object "TextRows$Book"
  | 1 => .object "TextRows$Index"
  | 2 => .object "TextRows$Held"
  | 3 => .object "TextRows$Near"
  | 4 => .object "TextRows$Query"
  | 5 => .object "TextRows$Matcher"
  | 6 => .object "TextRows$Repeats"
  | _ => .object "TextRows$Pieces"
theorem nmX10 : ∀ a, a < 8 → ∀ b, b < 8 → a ≠ b → (TX10 a).2.1 ≠ (TX10 b).2.1 := by decide +kernel
theorem tyX10_ok : ∀ k, k < 8 → parseFieldDescriptor (TX10 k).2.2.1 = some (tyX10 k) := by decide +kernel
def RX11 : String := "TextRowsModel"
def TX11 : u_T := fun k => match k with
  | 0 => ("TextRowsModel", "written", "[I", true)
  | 1 => ("TextRowsModel", "writtenMany", "I", false)
  | 2 => ("TextRowsModel", "sizes", "[I", true)
  | 3 => ("TextRowsModel", "documents", "I", false)
  | 4 => ("TextRowsModel", "hand", "[I", true)
  | 5 => ("TextRowsModel", "handMany", "I", false)
  | 6 => ("TextRowsModel", "built", "Z", false)
  | 7 => ("TextRowsModel", "n", "I", false)
  | 8 => ("TextRowsModel", "many", "I", false)
  | 9 => ("TextRowsModel", "rate", "I", false)
  | 10 => ("TextRowsModel", "steps", "I", false)
  | 11 => ("TextRowsModel", "text", "[I", true)
  | 12 => ("TextRowsModel", "documentOf", "[I", true)
  | 13 => ("TextRowsModel", "firsts", "[I", true)
  | 14 => ("TextRowsModel", "lengths", "[I", true)
  | 15 => ("TextRowsModel", "rows", "[I", true)
  | 16 => ("TextRowsModel", "rowOf", "[I", true)
  | 17 => ("TextRowsModel", "share", "[I", true)
  | 18 => ("TextRowsModel", "next", "[I", true)
  | 19 => ("TextRowsModel", "keys", "[I", true)
  | 20 => ("TextRowsModel", "counts", "[I", true)
  | 21 => ("TextRowsModel", "pattern", "[I", true)
  | 22 => ("TextRowsModel", "size", "I", false)
  | 23 => ("TextRowsModel", "low", "I", false)
  | 24 => ("TextRowsModel", "amount", "I", false)
  | 25 => ("TextRowsModel", "fronts", "[Z", true)
  | 26 => ("TextRowsModel", "history", "I", false)
  | 27 => ("TextRowsModel", "nearPlace", "[I", true)
  | 28 => ("TextRowsModel", "nearMany", "[I", true)
  | 29 => ("TextRowsModel", "nears", "I", false)
  | 30 => ("TextRowsModel", "query", "[I", true)
  | 31 => ("TextRowsModel", "signs", "I", false)
  | 32 => ("TextRowsModel", "hasAnswer", "Z", false)
  | 33 => ("TextRowsModel", "matches", "I", false)
  | 34 => ("TextRowsModel", "matchAt", "[I", true)
  | 35 => ("TextRowsModel", "matchLeast", "[I", true)
  | 36 => ("TextRowsModel", "matchMost", "[I", true)
  | 37 => ("TextRowsModel", "wrong", "I", false)
  | 38 => ("TextRowsModel", "reading", "I", false)
  | 39 => ("TextRowsModel", "sumSize", "[J", true)
  | 40 => ("TextRowsModel", "atomSize", "[J", true)
  | 41 => ("TextRowsModel", "bare", "[Z", true)
  | 42 => ("TextRowsModel", "atomFrom", "[I", true)
  | 43 => ("TextRowsModel", "rowItems", "[I", true)
  | 44 => ("TextRowsModel", "sumRows", "[I", true)
  | 45 => ("TextRowsModel", "numberFirst", "I", false)
  | 46 => ("TextRowsModel", "numberSecond", "I", false)
  | 47 => ("TextRowsModel", "made", "[I", true)
  | 48 => ("TextRowsModel", "makes", "I", false)
  | 49 => ("TextRowsModel", "atoms", "[I", true)
  | 50 => ("TextRowsModel", "atomMany", "I", false)
  | 51 => ("TextRowsModel", "classes", "[Z", true)
  | 52 => ("TextRowsModel", "classMany", "I", false)
  | 53 => ("TextRowsModel", "closed", "Z", false)
  | 54 => ("TextRowsModel", "beganAt", "[I", true)
  | 55 => ("TextRowsModel", "positions", "I", false)
  | 56 => ("TextRowsModel", "positionAtom", "[I", true)
  | 57 => ("TextRowsModel", "followLow", "[J", true)
  | 58 => ("TextRowsModel", "followHigh", "[J", true)
  | 59 => ("TextRowsModel", "empties", "[Z", true)
  | 60 => ("TextRowsModel", "firstLow", "[J", true)
  | 61 => ("TextRowsModel", "firstHigh", "[J", true)
  | 62 => ("TextRowsModel", "lastLow", "[J", true)
  | 63 => ("TextRowsModel", "lastHigh", "[J", true)
  | 64 => ("TextRowsModel", "seen", "[Z", true)
  | 65 => ("TextRowsModel", "labels", "[I", true)
  | 66 => ("TextRowsModel", "labelEnds", "[I", true)
  | 67 => ("TextRowsModel", "pairs", "[I", true)
  | 68 => ("TextRowsModel", "fore", "[I", true)
  | 69 => ("TextRowsModel", "hind", "[I", true)
  | 70 => ("TextRowsModel", "stamp", "I", false)
  | 71 => ("TextRowsModel", "hasFactors", "Z", false)
  | 72 => ("TextRowsModel", "factorLength", "[I", true)
  | _ => ("TextRowsModel", "factorPlace", "[I", true)
def tyX11 : Nat → FieldType := fun k => match k with
  | 0 => .array .int
  | 1 => .int
  | 2 => .array .int
  | 3 => .int
  | 4 => .array .int
  | 5 => .int
  | 6 => .boolean
  | 7 => .int
  | 8 => .int
  | 9 => .int
  | 10 => .int
  | 11 => .array .int
  | 12 => .array .int
  | 13 => .array .int
  | 14 => .array .int
  | 15 => .array .int
  | 16 => .array .int
  | 17 => .array .int
  | 18 => .array .int
  | 19 => .array .int
  | 20 => .array .int
  | 21 => .array .int
  | 22 => .int
  | 23 => .int
  | 24 => .int
  | 25 => .array .boolean
  | 26 => .int
  | 27 => .array .int
  | 28 => .array .int
  | 29 => .int
  | 30 => .array .int
  | 31 => .int
  | 32 => .boolean
  | 33 => .int
  | 34 => .array .int
  | 35 => .array .int
  | 36 => .array .int
  | 37 => .int
  | 38 => .int
  | 39 => .array .long
  | 40 => .array .long
  | 41 => .array .boolean
  | 42 => .array .int
  | 43 => .array .int
  | 44 => .array .int
  | 45 => .int
  | 46 => .int
  | 47 => .array .int
  | 48 => .int
  | 49 => .array .int
  | 50 => .int
  | 51 => .array .boolean
  | 52 => .int
  | 53 => .boolean
  | 54 => .array .int
  | 55 => .int
  | 56 => .array .int
  | 57 => .array .long
  | 58 => .array .long
  | 59 => .array .boolean
  | 60 => .array .long
  | 61 => .array .long
  | 62 => .array .long
  | 63 => .array .long
  | 64 => .array .boolean
  | 65 => .array .int
  | 66 => .array .int
  | 67 => .array .int
  | 68 => .array .int
  | 69 => .array .int
  | 70 => .int
  | 71 => .boolean
  | 72 => .array .int
  | _ => .array .int
theorem nmX11 : ∀ a, a < 74 → ∀ b, b < 74 → a ≠ b → (TX11 a).2.1 ≠ (TX11 b).2.1 := by decide +kernel
theorem tyX11_ok : ∀ k, k < 74 → parseFieldDescriptor (TX11 k).2.2.1 = some (tyX11 k) := by decide +kernel
def RJ7 : String := "java/util/Arrays"
def RJ9 : String := "java/lang/Math"
def RJ10 : String := "java/lang/System"
abbrev cX0_init : ByteArray := prog_2_method_1_code
def yX0_init : MethodName := ⟨RX0, "<init>", "()V"⟩
abbrev cX0_addFour : ByteArray := prog_2_method_2_code
def yX0_addFour : MethodName := ⟨RX0, "addFour", "(I)V"⟩
abbrev cX0_keepOfLast : ByteArray := prog_2_method_3_code
def yX0_keepOfLast : MethodName := ⟨RX0, "keepOfLast", "(I)I"⟩
abbrev cX0_endDocument : ByteArray := prog_2_method_4_code
def yX0_endDocument : MethodName := ⟨RX0, "endDocument", "()I"⟩
abbrev cX0_dropAll : ByteArray := prog_2_method_5_code
def yX0_dropAll : MethodName := ⟨RX0, "dropAll", "()I"⟩
abbrev cX1_init : ByteArray := prog_3_method_1_code
def yX1_init : MethodName := ⟨RX1, "<init>", "(LTextRows$Index;)V"⟩
abbrev cX1_become : ByteArray := prog_3_method_2_code
def yX1_become : MethodName := ⟨RX1, "become", "(II)V"⟩
abbrev cX1_stand : ByteArray := prog_3_method_3_code
def yX1_stand : MethodName := ⟨RX1, "stand", "(II)V"⟩
abbrev cX1_rows : ByteArray := prog_3_method_4_code
def yX1_rows : MethodName := ⟨RX1, "rows", "()I"⟩
abbrev cX1_beside : ByteArray := prog_3_method_5_code
def yX1_beside : MethodName := ⟨RX1, "beside", "(ZI)I"⟩
abbrev cX1_extend : ByteArray := prog_3_method_6_code
def yX1_extend : MethodName := ⟨RX1, "extend", "(ZI)I"⟩
abbrev cX1_undo : ByteArray := prog_3_method_7_code
def yX1_undo : MethodName := ⟨RX1, "undo", "()I"⟩
abbrev cX1_placeInOrder : ByteArray := prog_3_method_8_code
def yX1_placeInOrder : MethodName := ⟨RX1, "placeInOrder", "(I)I"⟩
abbrev cX1_neighbour : ByteArray := prog_3_method_9_code
def yX1_neighbour : MethodName := ⟨RX1, "neighbour", "(ZI)I"⟩
abbrev cX1_placesIn : ByteArray := prog_3_method_10_code
def yX1_placesIn : MethodName := ⟨RX1, "placesIn", "(I)I"⟩
abbrev cX1_countByDocument : ByteArray := prog_3_method_11_code
def yX1_countByDocument : MethodName := ⟨RX1, "countByDocument", "()V"⟩
abbrev cX1_documentInOrder : ByteArray := prog_3_method_12_code
def yX1_documentInOrder : MethodName := ⟨RX1, "documentInOrder", "(I)I"⟩
abbrev cX1_documentsAheadOf : ByteArray := prog_3_method_13_code
def yX1_documentsAheadOf : MethodName := ⟨RX1, "documentsAheadOf", "(I)I"⟩
abbrev cX2_init : ByteArray := prog_4_method_1_code
def yX2_init : MethodName := ⟨RX2, "<init>", "()V"⟩
abbrev cX2_learn : ByteArray := prog_4_method_2_code
def yX2_learn : MethodName := ⟨RX2, "learn", "(LTextRows$Book;I)V"⟩
abbrev cX2_learnAlikes : ByteArray := prog_4_method_3_code
def yX2_learnAlikes : MethodName := ⟨RX2, "learnAlikes", "()V"⟩
abbrev cX2_learnFronts : ByteArray := prog_4_method_4_code
def yX2_learnFronts : MethodName := ⟨RX2, "learnFronts", "()V"⟩
abbrev cX2_alikeBehind : ByteArray := prog_4_method_5_code
def yX2_alikeBehind : MethodName := ⟨RX2, "alikeBehind", "(III)I"⟩
abbrev cX2_alikeFrom : ByteArray := prog_4_method_6_code
def yX2_alikeFrom : MethodName := ⟨RX2, "alikeFrom", "(II)I"⟩
abbrev cX2_has : ByteArray := prog_4_method_7_code
def yX2_has : MethodName := ⟨RX2, "has", "(I)Z"⟩
abbrev cX2_hasDocument : ByteArray := prog_4_method_8_code
def yX2_hasDocument : MethodName := ⟨RX2, "hasDocument", "(I)Z"⟩
abbrev cX2_endOf : ByteArray := prog_4_method_9_code
def yX2_endOf : MethodName := ⟨RX2, "endOf", "(I)I"⟩
abbrev cX2_bytesFrom : ByteArray := prog_4_method_10_code
def yX2_bytesFrom : MethodName := ⟨RX2, "bytesFrom", "(I)I"⟩
abbrev cX2_byteOf : ByteArray := prog_4_method_11_code
def yX2_byteOf : MethodName := ⟨RX2, "byteOf", "(I)I"⟩
abbrev cX2_tell : ByteArray := prog_4_method_12_code
def yX2_tell : MethodName := ⟨RX2, "tell", "(I)I"⟩
abbrev cX2_rowInFront : ByteArray := prog_4_method_13_code
def yX2_rowInFront : MethodName := ⟨RX2, "rowInFront", "(I)I"⟩
abbrev cX2_frontsUpTo : ByteArray := prog_4_method_14_code
def yX2_frontsUpTo : MethodName := ⟨RX2, "frontsUpTo", "(II)I"⟩
abbrev cX2_rowOfFront : ByteArray := prog_4_method_15_code
def yX2_rowOfFront : MethodName := ⟨RX2, "rowOfFront", "(II)I"⟩
abbrev cX2_sumOfAlikes : ByteArray := prog_4_method_16_code
def yX2_sumOfAlikes : MethodName := ⟨RX2, "sumOfAlikes", "()I"⟩
abbrev cX2_greatestAlike : ByteArray := prog_4_method_17_code
def yX2_greatestAlike : MethodName := ⟨RX2, "greatestAlike", "()I"⟩
abbrev cX3_init : ByteArray := prog_5_method_1_code
def yX3_init : MethodName := ⟨RX3, "<init>", "(LTextRows$Index;LTextRows$Query;)V"⟩
abbrev cX3_forget : ByteArray := prog_5_method_2_code
def yX3_forget : MethodName := ⟨RX3, "forget", "()V"⟩
abbrev cX3_found : ByteArray := prog_5_method_3_code
def yX3_found : MethodName := ⟨RX3, "found", "()I"⟩
abbrev cX3_tellFound : ByteArray := prog_5_method_4_code
def yX3_tellFound : MethodName := ⟨RX3, "tellFound", "(II)I"⟩
abbrev cX3_answerQuery : ByteArray := prog_5_method_5_code
def yX3_answerQuery : MethodName := ⟨RX3, "answerQuery", "()V"⟩
abbrev cX3_goUp : ByteArray := prog_5_method_6_code
def yX3_goUp : MethodName := ⟨RX3, "goUp", "(II)V"⟩
abbrev cX3_goDown : ByteArray := prog_5_method_7_code
def yX3_goDown : MethodName := ⟨RX3, "goDown", "(I)V"⟩
abbrev cX3_goDownLeft : ByteArray := prog_5_method_8_code
def yX3_goDownLeft : MethodName := ⟨RX3, "goDownLeft", "(I)V"⟩
abbrev cX3_goDownTo : ByteArray := prog_5_method_9_code
def yX3_goDownTo : MethodName := ⟨RX3, "goDownTo", "(III)V"⟩
abbrev cX4_init : ByteArray := prog_6_method_1_code
def yX4_init : MethodName := ⟨RX4, "<init>", "(LTextRows$Index;LTextRows$Held;)V"⟩
abbrev cX4_find : ByteArray := prog_6_method_2_code
def yX4_find : MethodName := ⟨RX4, "find", "(I)I"⟩
abbrev cX4_differAt : ByteArray := prog_6_method_3_code
def yX4_differAt : MethodName := ⟨RX4, "differAt", "(II)I"⟩
abbrev cX5_init : ByteArray := prog_7_method_1_code
def yX5_init : MethodName := ⟨RX5, "<init>", "(LTextRows$Index;)V"⟩
abbrev cX5_learn : ByteArray := prog_7_method_2_code
def yX5_learn : MethodName := ⟨RX5, "learn", "()V"⟩
abbrev cX5_learnEarlier : ByteArray := prog_7_method_3_code
def yX5_learnEarlier : MethodName := ⟨RX5, "learnEarlier", "()V"⟩
abbrev cX5_mirrored : ByteArray := prog_7_method_4_code
def yX5_mirrored : MethodName := ⟨RX5, "mirrored", "(II)Z"⟩
abbrev cX5_learnReaches : ByteArray := prog_7_method_5_code
def yX5_learnReaches : MethodName := ⟨RX5, "learnReaches", "()V"⟩
abbrev cX5_learnGapReaches : ByteArray := prog_7_method_6_code
def yX5_learnGapReaches : MethodName := ⟨RX5, "learnGapReaches", "()V"⟩
abbrev cX5_factors : ByteArray := prog_7_method_7_code
def yX5_factors : MethodName := ⟨RX5, "factors", "(I)I"⟩
abbrev cX5_tellFactor : ByteArray := prog_7_method_8_code
def yX5_tellFactor : MethodName := ⟨RX5, "tellFactor", "(III)I"⟩
abbrev cX5_leastEarlier : ByteArray := prog_7_method_9_code
def yX5_leastEarlier : MethodName := ⟨RX5, "leastEarlier", "(I)I"⟩
abbrev cX5_fallingWord : ByteArray := prog_7_method_10_code
def yX5_fallingWord : MethodName := ⟨RX5, "fallingWord", "(II)I"⟩
abbrev cX5_periodOfWords : ByteArray := prog_7_method_11_code
def yX5_periodOfWords : MethodName := ⟨RX5, "periodOfWords", "(II)I"⟩
abbrev cX5_endOfWords : ByteArray := prog_7_method_12_code
def yX5_endOfWords : MethodName := ⟨RX5, "endOfWords", "(III)I"⟩
abbrev cX5_leastTwice : ByteArray := prog_7_method_13_code
def yX5_leastTwice : MethodName := ⟨RX5, "leastTwice", "(I)I"⟩
abbrev cX5_nearer : ByteArray := prog_7_method_14_code
def yX5_nearer : MethodName := ⟨RX5, "nearer", "(III)I"⟩
abbrev cX5_longestMirror : ByteArray := prog_7_method_15_code
def yX5_longestMirror : MethodName := ⟨RX5, "longestMirror", "(I)I"⟩
abbrev cX5_longestIn : ByteArray := prog_7_method_16_code
def yX5_longestIn : MethodName := ⟨RX5, "longestIn", "(II)I"⟩
abbrev cX6_init : ByteArray := prog_8_method_1_code
def yX6_init : MethodName := ⟨RX6, "<init>", "()V"⟩
abbrev cX6_add : ByteArray := prog_8_method_2_code
def yX6_add : MethodName := ⟨RX6, "add", "(I)I"⟩
abbrev cX6_read : ByteArray := prog_8_method_3_code
def yX6_read : MethodName := ⟨RX6, "read", "()I"⟩
abbrev cX6_comes : ByteArray := prog_8_method_4_code
def yX6_comes : MethodName := ⟨RX6, "comes", "(I)Z"⟩
abbrev cX6_goesOn : ByteArray := prog_8_method_5_code
def yX6_goesOn : MethodName := ⟨RX6, "goesOn", "()Z"⟩
abbrev cX6_bounded : ByteArray := prog_8_method_6_code
def yX6_bounded : MethodName := ⟨RX6, "bounded", "(I)I"⟩
abbrev cX6_readSum : ByteArray := prog_8_method_7_code
def yX6_readSum : MethodName := ⟨RX6, "readSum", "(I)I"⟩
abbrev cX6_readItem : ByteArray := prog_8_method_8_code
def yX6_readItem : MethodName := ⟨RX6, "readItem", "(I)I"⟩
abbrev cX6_copies : ByteArray := prog_8_method_9_code
def yX6_copies : MethodName := ⟨RX6, "copies", "(I)I"⟩
abbrev cX6_readAtom : ByteArray := prog_8_method_10_code
def yX6_readAtom : MethodName := ⟨RX6, "readAtom", "(I)I"⟩
abbrev cX6_readPlain : ByteArray := prog_8_method_11_code
def yX6_readPlain : MethodName := ⟨RX6, "readPlain", "(I)V"⟩
abbrev cX6_readBrackets : ByteArray := prog_8_method_12_code
def yX6_readBrackets : MethodName := ⟨RX6, "readBrackets", "(I)I"⟩
abbrev cX6_readSign : ByteArray := prog_8_method_13_code
def yX6_readSign : MethodName := ⟨RX6, "readSign", "(I)V"⟩
abbrev cX6_readByte : ByteArray := prog_8_method_14_code
def yX6_readByte : MethodName := ⟨RX6, "readByte", "()I"⟩
abbrev cX6_readRanges : ByteArray := prog_8_method_15_code
def yX6_readRanges : MethodName := ⟨RX6, "readRanges", "(I)V"⟩
abbrev cX6_readRange : ByteArray := prog_8_method_16_code
def yX6_readRange : MethodName := ⟨RX6, "readRange", "(I)V"⟩
abbrev cX6_readRangeByte : ByteArray := prog_8_method_17_code
def yX6_readRangeByte : MethodName := ⟨RX6, "readRangeByte", "()I"⟩
abbrev cX6_addBytes : ByteArray := prog_8_method_18_code
def yX6_addBytes : MethodName := ⟨RX6, "addBytes", "(III)V"⟩
abbrev cX6_mayBe : ByteArray := prog_8_method_19_code
def yX6_mayBe : MethodName := ⟨RX6, "mayBe", "(II)Z"⟩
abbrev cX6_readRepeat : ByteArray := prog_8_method_20_code
def yX6_readRepeat : MethodName := ⟨RX6, "readRepeat", "(I)V"⟩
abbrev cX6_repeat : ByteArray := prog_8_method_21_code
def yX6_repeat : MethodName := ⟨RX6, "repeat", "(III)V"⟩
abbrev cX6_readNumbers : ByteArray := prog_8_method_22_code
def yX6_readNumbers : MethodName := ⟨RX6, "readNumbers", "(I)V"⟩
abbrev cX6_readNumber : ByteArray := prog_8_method_23_code
def yX6_readNumber : MethodName := ⟨RX6, "readNumber", "()I"⟩
abbrev cX6_figureComes : ByteArray := prog_8_method_24_code
def yX6_figureComes : MethodName := ⟨RX6, "figureComes", "()Z"⟩
abbrev cX7_init : ByteArray := prog_9_method_1_code
def yX7_init : MethodName := ⟨RX7, "<init>", "(LTextRows$Index;LTextRows$Held;)V"⟩
abbrev cX7_learn : ByteArray := prog_9_method_2_code
def yX7_learn : MethodName := ⟨RX7, "learn", "()V"⟩
abbrev cX7_lengthOf : ByteArray := prog_9_method_3_code
def yX7_lengthOf : MethodName := ⟨RX7, "lengthOf", "(I)I"⟩
abbrev cX7_newOf : ByteArray := prog_9_method_4_code
def yX7_newOf : MethodName := ⟨RX7, "newOf", "(I)I"⟩
abbrev cX7_howManyOf : ByteArray := prog_9_method_5_code
def yX7_howManyOf : MethodName := ⟨RX7, "howManyOf", "(I)I"⟩
abbrev cX7_holdInOrder : ByteArray := prog_9_method_6_code
def yX7_holdInOrder : MethodName := ⟨RX7, "holdInOrder", "(I)I"⟩
abbrev cX7_lesserThanHeld : ByteArray := prog_9_method_7_code
def yX7_lesserThanHeld : MethodName := ⟨RX7, "lesserThanHeld", "()I"⟩
abbrev cX7_holdLongest : ByteArray := prog_9_method_8_code
def yX7_holdLongest : MethodName := ⟨RX7, "holdLongest", "(IZ)I"⟩
abbrev cX7_firstRun : ByteArray := prog_9_method_9_code
def yX7_firstRun : MethodName := ⟨RX7, "firstRun", "(IIZ)I"⟩
abbrev cX7_holdOftenest : ByteArray := prog_9_method_10_code
def yX7_holdOftenest : MethodName := ⟨RX7, "holdOftenest", "(I)I"⟩
abbrev cX7_leastAlone : ByteArray := prog_9_method_11_code
def yX7_leastAlone : MethodName := ⟨RX7, "leastAlone", "(I)I"⟩
abbrev cX7_holdMaximal : ByteArray := prog_9_method_12_code
def yX7_holdMaximal : MethodName := ⟨RX7, "holdMaximal", "(I)I"⟩
abbrev cX7_maximalFrom : ByteArray := prog_9_method_13_code
def yX7_maximalFrom : MethodName := ⟨RX7, "maximalFrom", "(I)I"⟩
abbrev cX7_maximalLength : ByteArray := prog_9_method_14_code
def yX7_maximalLength : MethodName := ⟨RX7, "maximalLength", "(II)I"⟩
abbrev cX7_howManyAbsent : ByteArray := prog_9_method_15_code
def yX7_howManyAbsent : MethodName := ⟨RX7, "howManyAbsent", "(I)I"⟩
abbrev cX8_init : ByteArray := prog_10_method_1_code
def yX8_init : MethodName := ⟨RX8, "<init>", "()V"⟩
abbrev cX8_arrange : ByteArray := prog_10_method_2_code
def yX8_arrange : MethodName := ⟨RX8, "arrange", "([II[I[I)V"⟩
abbrev cX8_sortByHalves : ByteArray := prog_10_method_3_code
def yX8_sortByHalves : MethodName := ⟨RX8, "sortByHalves", "(II[I)V"⟩
abbrev cX8_sortByRank : ByteArray := prog_10_method_4_code
def yX8_sortByRank : MethodName := ⟨RX8, "sortByRank", "(II[I[I)V"⟩
abbrev cX8_rankAnew : ByteArray := prog_10_method_5_code
def yX8_rankAnew : MethodName := ⟨RX8, "rankAnew", "(II[I[I)I"⟩
abbrev cX8_rankAt : ByteArray := prog_10_method_6_code
def yX8_rankAt : MethodName := ⟨RX8, "rankAt", "(II[I)I"⟩
abbrev cX9_init : ByteArray := prog_11_method_1_code
def yX9_init : MethodName := ⟨RX9, "<init>", "(LTextRows$Query;)V"⟩
abbrev cX9_grown : ByteArray := prog_11_method_2_code
def yX9_grown : MethodName := ⟨RX9, "grown", "()I"⟩
abbrev cX9_comes : ByteArray := prog_11_method_3_code
def yX9_comes : MethodName := ⟨RX9, "comes", "(I)Z"⟩
abbrev cX9_growSum : ByteArray := prog_11_method_4_code
def yX9_growSum : MethodName := ⟨RX9, "growSum", "(I)I"⟩
abbrev cX9_growRow : ByteArray := prog_11_method_5_code
def yX9_growRow : MethodName := ⟨RX9, "growRow", "(I)I"⟩
abbrev cX9_growItem : ByteArray := prog_11_method_6_code
def yX9_growItem : MethodName := ⟨RX9, "growItem", "(II)I"⟩
abbrev cX9_growAtom : ByteArray := prog_11_method_7_code
def yX9_growAtom : MethodName := ⟨RX9, "growAtom", "(II)I"⟩
abbrev cX9_joined : ByteArray := prog_11_method_8_code
def yX9_joined : MethodName := ⟨RX9, "joined", "(II)I"⟩
abbrev cX9_choice : ByteArray := prog_11_method_9_code
def yX9_choice : MethodName := ⟨RX9, "choice", "(II)I"⟩
abbrev cX9_node : ByteArray := prog_11_method_10_code
def yX9_node : MethodName := ⟨RX9, "node", "(IIIZ)I"⟩
abbrev cX10_init : ByteArray := prog_1_method_1_code
def yX10_init : MethodName := ⟨RX10, "<init>", "()V"⟩
abbrev cX10_feed : ByteArray := prog_1_method_2_code
def yX10_feed : MethodName := ⟨RX10, "feed", "(IIIII)I"⟩
abbrev cX10_end : ByteArray := prog_1_method_3_code
def yX10_end : MethodName := ⟨RX10, "end", "(I)I"⟩
abbrev cX10_cut : ByteArray := prog_1_method_4_code
def yX10_cut : MethodName := ⟨RX10, "cut", "()I"⟩
abbrev cX10_clear : ByteArray := prog_1_method_5_code
def yX10_clear : MethodName := ⟨RX10, "clear", "()I"⟩
abbrev cX10_build : ByteArray := prog_1_method_6_code
def yX10_build : MethodName := ⟨RX10, "build", "(I)I"⟩
abbrev cX10_place : ByteArray := prog_1_method_7_code
def yX10_place : MethodName := ⟨RX10, "place", "(I)I"⟩
abbrev cX10_row : ByteArray := prog_1_method_8_code
def yX10_row : MethodName := ⟨RX10, "row", "(I)I"⟩
abbrev cX10_shared : ByteArray := prog_1_method_9_code
def yX10_shared : MethodName := ⟨RX10, "shared", "(I)I"⟩
abbrev cX10_before : ByteArray := prog_1_method_10_code
def yX10_before : MethodName := ⟨RX10, "before", "(I)I"⟩
abbrev cX10_step : ByteArray := prog_1_method_11_code
def yX10_step : MethodName := ⟨RX10, "step", "(I)I"⟩
abbrev cX10_rank : ByteArray := prog_1_method_12_code
def yX10_rank : MethodName := ⟨RX10, "rank", "(II)I"⟩
abbrev cX10_select : ByteArray := prog_1_method_13_code
def yX10_select : MethodName := ⟨RX10, "select", "(II)I"⟩
abbrev cX10_byteAt : ByteArray := prog_1_method_14_code
def yX10_byteAt : MethodName := ⟨RX10, "byteAt", "(I)I"⟩
abbrev cX10_document : ByteArray := prog_1_method_15_code
def yX10_document : MethodName := ⟨RX10, "document", "(II)I"⟩
abbrev cX10_alike : ByteArray := prog_1_method_16_code
def yX10_alike : MethodName := ⟨RX10, "alike", "(II)I"⟩
abbrev cX10_begin : ByteArray := prog_1_method_17_code
def yX10_begin : MethodName := ⟨RX10, "begin", "()I"⟩
abbrev cX10_grow : ByteArray := prog_1_method_18_code
def yX10_grow : MethodName := ⟨RX10, "grow", "(I)I"⟩
abbrev cX10_front : ByteArray := prog_1_method_19_code
def yX10_front : MethodName := ⟨RX10, "front", "(I)I"⟩
abbrev cX10_back : ByteArray := prog_1_method_20_code
def yX10_back : MethodName := ⟨RX10, "back", "()I"⟩
abbrev cX10_pattern : ByteArray := prog_1_method_21_code
def yX10_pattern : MethodName := ⟨RX10, "pattern", "(I)I"⟩
abbrev cX10_patternByte : ByteArray := prog_1_method_22_code
def yX10_patternByte : MethodName := ⟨RX10, "patternByte", "(I)I"⟩
abbrev cX10_at : ByteArray := prog_1_method_23_code
def yX10_at : MethodName := ⟨RX10, "at", "(I)I"⟩
abbrev cX10_sorted : ByteArray := prog_1_method_24_code
def yX10_sorted : MethodName := ⟨RX10, "sorted", "(I)I"⟩
abbrev cX10_more : ByteArray := prog_1_method_25_code
def yX10_more : MethodName := ⟨RX10, "more", "(ZI)I"⟩
abbrev cX10_ranked : ByteArray := prog_1_method_26_code
def yX10_ranked : MethodName := ⟨RX10, "ranked", "(I)I"⟩
abbrev cX10_times : ByteArray := prog_1_method_27_code
def yX10_times : MethodName := ⟨RX10, "times", "(I)I"⟩
abbrev cX10_take : ByteArray := prog_1_method_28_code
def yX10_take : MethodName := ⟨RX10, "take", "(II)I"⟩
abbrev cX10_near : ByteArray := prog_1_method_29_code
def yX10_near : MethodName := ⟨RX10, "near", "(I)I"⟩
abbrev cX10_nearOf : ByteArray := prog_1_method_30_code
def yX10_nearOf : MethodName := ⟨RX10, "nearOf", "(II)I"⟩
abbrev cX10_ask : ByteArray := prog_1_method_31_code
def yX10_ask : MethodName := ⟨RX10, "ask", "(I)I"⟩
abbrev cX10_answer : ByteArray := prog_1_method_32_code
def yX10_answer : MethodName := ⟨RX10, "answer", "()I"⟩
abbrev cX10_answered : ByteArray := prog_1_method_33_code
def yX10_answered : MethodName := ⟨RX10, "answered", "(II)I"⟩
abbrev cX10_different : ByteArray := prog_1_method_34_code
def yX10_different : MethodName := ⟨RX10, "different", "(I)I"⟩
abbrev cX10_kth : ByteArray := prog_1_method_35_code
def yX10_kth : MethodName := ⟨RX10, "kth", "(I)I"⟩
abbrev cX10_order : ByteArray := prog_1_method_36_code
def yX10_order : MethodName := ⟨RX10, "order", "()I"⟩
abbrev cX10_repeated : ByteArray := prog_1_method_37_code
def yX10_repeated : MethodName := ⟨RX10, "repeated", "(I)I"⟩
abbrev cX10_common : ByteArray := prog_1_method_38_code
def yX10_common : MethodName := ⟨RX10, "common", "(I)I"⟩
abbrev cX10_oftenest : ByteArray := prog_1_method_39_code
def yX10_oftenest : MethodName := ⟨RX10, "oftenest", "(I)I"⟩
abbrev cX10_unique : ByteArray := prog_1_method_40_code
def yX10_unique : MethodName := ⟨RX10, "unique", "(I)I"⟩
abbrev cX10_maximal : ByteArray := prog_1_method_41_code
def yX10_maximal : MethodName := ⟨RX10, "maximal", "(I)I"⟩
abbrev cX10_absent : ByteArray := prog_1_method_42_code
def yX10_absent : MethodName := ⟨RX10, "absent", "(I)I"⟩
abbrev cX10_factor : ByteArray := prog_1_method_43_code
def yX10_factor : MethodName := ⟨RX10, "factor", "(III)I"⟩
abbrev cX10_word : ByteArray := prog_1_method_44_code
def yX10_word : MethodName := ⟨RX10, "word", "(II)I"⟩
abbrev cX10_square : ByteArray := prog_1_method_45_code
def yX10_square : MethodName := ⟨RX10, "square", "(I)I"⟩
abbrev cX10_mirror : ByteArray := prog_1_method_46_code
def yX10_mirror : MethodName := ⟨RX10, "mirror", "(I)I"⟩
abbrev cX10_match : ByteArray := prog_1_method_47_code
def yX10_match : MethodName := ⟨RX10, "match", "(II)I"⟩
abbrev cX10_count : ByteArray := prog_1_method_48_code
def yX10_count : MethodName := ⟨RX10, "count", "(I)I"⟩
abbrev cX10_unwound : ByteArray := prog_1_method_49_code
def yX10_unwound : MethodName := ⟨RX10, "unwound", "(II)I"⟩
abbrev cX10_countOfIndex : ByteArray := prog_1_method_50_code
def yX10_countOfIndex : MethodName := ⟨RX10, "countOfIndex", "(I)I"⟩
abbrev cX10_isByte : ByteArray := prog_1_method_51_code
def yX10_isByte : MethodName := ⟨RX10, "isByte", "(I)Z"⟩
abbrev cX11_init : ByteArray := prog_13_method_1_code
def yX11_init : MethodName := ⟨RX11, "<init>", "()V"⟩
abbrev cX11_feed : ByteArray := prog_13_method_2_code
def yX11_feed : MethodName := ⟨RX11, "feed", "(IIIII)I"⟩
abbrev cX11_end : ByteArray := prog_13_method_3_code
def yX11_end : MethodName := ⟨RX11, "end", "(I)I"⟩
abbrev cX11_cut : ByteArray := prog_13_method_4_code
def yX11_cut : MethodName := ⟨RX11, "cut", "()I"⟩
abbrev cX11_clear : ByteArray := prog_13_method_5_code
def yX11_clear : MethodName := ⟨RX11, "clear", "()I"⟩
abbrev cX11_keyAt : ByteArray := prog_13_method_6_code
def yX11_keyAt : MethodName := ⟨RX11, "keyAt", "(I)I"⟩
abbrev cX11_sortBy : ByteArray := prog_13_method_7_code
def yX11_sortBy : MethodName := ⟨RX11, "sortBy", "(I)V"⟩
abbrev cX11_sortAll : ByteArray := prog_13_method_8_code
def yX11_sortAll : MethodName := ⟨RX11, "sortAll", "()V"⟩
abbrev cX11_findShares : ByteArray := prog_13_method_9_code
def yX11_findShares : MethodName := ⟨RX11, "findShares", "()V"⟩
abbrev cX11_build : ByteArray := prog_13_method_10_code
def yX11_build : MethodName := ⟨RX11, "build", "(I)I"⟩
abbrev cX11_isRow : ByteArray := prog_13_method_11_code
def yX11_isRow : MethodName := ⟨RX11, "isRow", "(I)Z"⟩
abbrev cX11_isDocument : ByteArray := prog_13_method_12_code
def yX11_isDocument : MethodName := ⟨RX11, "isDocument", "(I)Z"⟩
abbrev cX11_isByte : ByteArray := prog_13_method_13_code
def yX11_isByte : MethodName := ⟨RX11, "isByte", "(I)Z"⟩
abbrev cX11_left : ByteArray := prog_13_method_14_code
def yX11_left : MethodName := ⟨RX11, "left", "(I)I"⟩
abbrev cX11_stepsOf : ByteArray := prog_13_method_15_code
def yX11_stepsOf : MethodName := ⟨RX11, "stepsOf", "(I)I"⟩
abbrev cX11_place : ByteArray := prog_13_method_16_code
def yX11_place : MethodName := ⟨RX11, "place", "(I)I"⟩
abbrev cX11_row : ByteArray := prog_13_method_17_code
def yX11_row : MethodName := ⟨RX11, "row", "(I)I"⟩
abbrev cX11_shared : ByteArray := prog_13_method_18_code
def yX11_shared : MethodName := ⟨RX11, "shared", "(I)I"⟩
abbrev cX11_beforeOf : ByteArray := prog_13_method_19_code
def yX11_beforeOf : MethodName := ⟨RX11, "beforeOf", "(I)I"⟩
abbrev cX11_before : ByteArray := prog_13_method_20_code
def yX11_before : MethodName := ⟨RX11, "before", "(I)I"⟩
abbrev cX11_step : ByteArray := prog_13_method_21_code
def yX11_step : MethodName := ⟨RX11, "step", "(I)I"⟩
abbrev cX11_rank : ByteArray := prog_13_method_22_code
def yX11_rank : MethodName := ⟨RX11, "rank", "(II)I"⟩
abbrev cX11_select : ByteArray := prog_13_method_23_code
def yX11_select : MethodName := ⟨RX11, "select", "(II)I"⟩
abbrev cX11_byteAt : ByteArray := prog_13_method_24_code
def yX11_byteAt : MethodName := ⟨RX11, "byteAt", "(I)I"⟩
abbrev cX11_document : ByteArray := prog_13_method_25_code
def yX11_document : MethodName := ⟨RX11, "document", "(II)I"⟩
abbrev cX11_alikeOf : ByteArray := prog_13_method_26_code
def yX11_alikeOf : MethodName := ⟨RX11, "alikeOf", "(II)I"⟩
abbrev cX11_alike : ByteArray := prog_13_method_27_code
def yX11_alike : MethodName := ⟨RX11, "alike", "(II)I"⟩
abbrev cX11_toEmpty : ByteArray := prog_13_method_28_code
def yX11_toEmpty : MethodName := ⟨RX11, "toEmpty", "()V"⟩
abbrev cX11_begin : ByteArray := prog_13_method_29_code
def yX11_begin : MethodName := ⟨RX11, "begin", "()I"⟩
abbrev cX11_findRows : ByteArray := prog_13_method_30_code
def yX11_findRows : MethodName := ⟨RX11, "findRows", "(II)V"⟩
abbrev cX11_become : ByteArray := prog_13_method_31_code
def yX11_become : MethodName := ⟨RX11, "become", "(II)V"⟩
abbrev cX11_grow : ByteArray := prog_13_method_32_code
def yX11_grow : MethodName := ⟨RX11, "grow", "(I)I"⟩
abbrev cX11_front : ByteArray := prog_13_method_33_code
def yX11_front : MethodName := ⟨RX11, "front", "(I)I"⟩
abbrev cX11_back : ByteArray := prog_13_method_34_code
def yX11_back : MethodName := ⟨RX11, "back", "()I"⟩
abbrev cX11_pattern : ByteArray := prog_13_method_35_code
def yX11_pattern : MethodName := ⟨RX11, "pattern", "(I)I"⟩
abbrev cX11_patternByte : ByteArray := prog_13_method_36_code
def yX11_patternByte : MethodName := ⟨RX11, "patternByte", "(I)I"⟩
abbrev cX11_at : ByteArray := prog_13_method_37_code
def yX11_at : MethodName := ⟨RX11, "at", "(I)I"⟩
abbrev cX11_isAt : ByteArray := prog_13_method_38_code
def yX11_isAt : MethodName := ⟨RX11, "isAt", "(I)Z"⟩
abbrev cX11_sorted : ByteArray := prog_13_method_39_code
def yX11_sorted : MethodName := ⟨RX11, "sorted", "(I)I"⟩
abbrev cX11_more : ByteArray := prog_13_method_40_code
def yX11_more : MethodName := ⟨RX11, "more", "(ZI)I"⟩
abbrev cX11_timesOf : ByteArray := prog_13_method_41_code
def yX11_timesOf : MethodName := ⟨RX11, "timesOf", "(I)I"⟩
abbrev cX11_ranked : ByteArray := prog_13_method_42_code
def yX11_ranked : MethodName := ⟨RX11, "ranked", "(I)I"⟩
abbrev cX11_times : ByteArray := prog_13_method_43_code
def yX11_times : MethodName := ⟨RX11, "times", "(I)I"⟩
abbrev cX11_take : ByteArray := prog_13_method_44_code
def yX11_take : MethodName := ⟨RX11, "take", "(II)I"⟩
abbrev cX11_near : ByteArray := prog_13_method_45_code
def yX11_near : MethodName := ⟨RX11, "near", "(I)I"⟩
abbrev cX11_nearOf : ByteArray := prog_13_method_46_code
def yX11_nearOf : MethodName := ⟨RX11, "nearOf", "(II)I"⟩
abbrev cX11_ask : ByteArray := prog_13_method_47_code
def yX11_ask : MethodName := ⟨RX11, "ask", "(I)I"⟩
abbrev cX11_sign : ByteArray := prog_13_method_48_code
def yX11_sign : MethodName := ⟨RX11, "sign", "()I"⟩
abbrev cX11_fail : ByteArray := prog_13_method_49_code
def yX11_fail : MethodName := ⟨RX11, "fail", "(I)V"⟩
abbrev cX11_isFigure : ByteArray := prog_13_method_50_code
def yX11_isFigure : MethodName := ⟨RX11, "isFigure", "(I)Z"⟩
abbrev cX11_number : ByteArray := prog_13_method_51_code
def yX11_number : MethodName := ⟨RX11, "number", "()I"⟩
abbrev cX11_braces : ByteArray := prog_13_method_52_code
def yX11_braces : MethodName := ⟨RX11, "braces", "()V"⟩
abbrev cX11_rangeByte : ByteArray := prog_13_method_53_code
def yX11_rangeByte : MethodName := ⟨RX11, "rangeByte", "()I"⟩
abbrev cX11_ranges : ByteArray := prog_13_method_54_code
def yX11_ranges : MethodName := ⟨RX11, "ranges", "()V"⟩
abbrev cX11_openOne : ByteArray := prog_13_method_55_code
def yX11_openOne : MethodName := ⟨RX11, "openOne", "(I)V"⟩
abbrev cX11_addMade : ByteArray := prog_13_method_56_code
def yX11_addMade : MethodName := ⟨RX11, "addMade", "(I)V"⟩
abbrev cX11_endRow : ByteArray := prog_13_method_57_code
def yX11_endRow : MethodName := ⟨RX11, "endRow", "(I)V"⟩
abbrev cX11_begunAtom : ByteArray := prog_13_method_58_code
def yX11_begunAtom : MethodName := ⟨RX11, "begunAtom", "(IIJ)V"⟩
abbrev cX11_endItem : ByteArray := prog_13_method_59_code
def yX11_endItem : MethodName := ⟨RX11, "endItem", "(I)V"⟩
abbrev cX11_again : ByteArray := prog_13_method_60_code
def yX11_again : MethodName := ⟨RX11, "again", "(II)V"⟩
abbrev cX11_repeat : ByteArray := prog_13_method_61_code
def yX11_repeat : MethodName := ⟨RX11, "repeat", "(III)V"⟩
abbrev cX11_goOver : ByteArray := prog_13_method_62_code
def yX11_goOver : MethodName := ⟨RX11, "goOver", "(Z)V"⟩
abbrev cX11_quantify : ByteArray := prog_13_method_63_code
def yX11_quantify : MethodName := ⟨RX11, "quantify", "(IIZ)V"⟩
abbrev cX11_atom : ByteArray := prog_13_method_64_code
def yX11_atom : MethodName := ⟨RX11, "atom", "(IIZ)V"⟩
abbrev cX11_follow : ByteArray := prog_13_method_65_code
def yX11_follow : MethodName := ⟨RX11, "follow", "(JJJJ)V"⟩
abbrev cX11_findPositions : ByteArray := prog_13_method_66_code
def yX11_findPositions : MethodName := ⟨RX11, "findPositions", "()V"⟩
abbrev cX11_fits : ByteArray := prog_13_method_67_code
def yX11_fits : MethodName := ⟨RX11, "fits", "(II)Z"⟩
abbrev cX11_matchFrom : ByteArray := prog_13_method_68_code
def yX11_matchFrom : MethodName := ⟨RX11, "matchFrom", "(I)V"⟩
abbrev cX11_answer : ByteArray := prog_13_method_69_code
def yX11_answer : MethodName := ⟨RX11, "answer", "()I"⟩
abbrev cX11_answered : ByteArray := prog_13_method_70_code
def yX11_answered : MethodName := ⟨RX11, "answered", "(II)I"⟩
abbrev cX11_freshOf : ByteArray := prog_13_method_71_code
def yX11_freshOf : MethodName := ⟨RX11, "freshOf", "(I)I"⟩
abbrev cX11_different : ByteArray := prog_13_method_72_code
def yX11_different : MethodName := ⟨RX11, "different", "(I)I"⟩
abbrev cX11_kth : ByteArray := prog_13_method_73_code
def yX11_kth : MethodName := ⟨RX11, "kth", "(I)I"⟩
abbrev cX11_order : ByteArray := prog_13_method_74_code
def yX11_order : MethodName := ⟨RX11, "order", "()I"⟩
abbrev cX11_becomeBest : ByteArray := prog_13_method_75_code
def yX11_becomeBest : MethodName := ⟨RX11, "becomeBest", "(II)I"⟩
abbrev cX11_repeated : ByteArray := prog_13_method_76_code
def yX11_repeated : MethodName := ⟨RX11, "repeated", "(I)I"⟩
abbrev cX11_common : ByteArray := prog_13_method_77_code
def yX11_common : MethodName := ⟨RX11, "common", "(I)I"⟩
abbrev cX11_oftenest : ByteArray := prog_13_method_78_code
def yX11_oftenest : MethodName := ⟨RX11, "oftenest", "(I)I"⟩
abbrev cX11_unique : ByteArray := prog_13_method_79_code
def yX11_unique : MethodName := ⟨RX11, "unique", "(I)I"⟩
abbrev cX11_isOneBefore : ByteArray := prog_13_method_80_code
def yX11_isOneBefore : MethodName := ⟨RX11, "isOneBefore", "(II)Z"⟩
abbrev cX11_maximal : ByteArray := prog_13_method_81_code
def yX11_maximal : MethodName := ⟨RX11, "maximal", "(I)I"⟩
abbrev cX11_absent : ByteArray := prog_13_method_82_code
def yX11_absent : MethodName := ⟨RX11, "absent", "(I)I"⟩
abbrev cX11_findFactors : ByteArray := prog_13_method_83_code
def yX11_findFactors : MethodName := ⟨RX11, "findFactors", "()V"⟩
abbrev cX11_factor : ByteArray := prog_13_method_84_code
def yX11_factor : MethodName := ⟨RX11, "factor", "(III)I"⟩
abbrev cX11_word : ByteArray := prog_13_method_85_code
def yX11_word : MethodName := ⟨RX11, "word", "(II)I"⟩
abbrev cX11_square : ByteArray := prog_13_method_86_code
def yX11_square : MethodName := ⟨RX11, "square", "(I)I"⟩
abbrev cX11_mirror : ByteArray := prog_13_method_87_code
def yX11_mirror : MethodName := ⟨RX11, "mirror", "(I)I"⟩
abbrev cX11_match : ByteArray := prog_13_method_88_code
def yX11_match : MethodName := ⟨RX11, "match", "(II)I"⟩
abbrev cX11_countRows : ByteArray := prog_13_method_89_code
def yX11_countRows : MethodName := ⟨RX11, "countRows", "(I)I"⟩
abbrev cX11_countBytes : ByteArray := prog_13_method_90_code
def yX11_countBytes : MethodName := ⟨RX11, "countBytes", "()I"⟩
abbrev cX11_count : ByteArray := prog_13_method_91_code
def yX11_count : MethodName := ⟨RX11, "count", "(I)I"⟩
abbrev cX11_unwound : ByteArray := prog_13_method_92_code
def yX11_unwound : MethodName := ⟨RX11, "unwound", "(II)I"⟩
abbrev cJ9_max_7cf53 : ByteArray := prog_14_method_65_code
def yJ9_max_7cf53 : MethodName := ⟨RJ9, "max", "(II)I"⟩
abbrev cJ9_min_7cf53 : ByteArray := prog_14_method_69_code
def yJ9_min_7cf53 : MethodName := ⟨RJ9, "min", "(II)I"⟩
abbrev cJ7_rangeCheck_23922 : ByteArray := prog_16_method_30_code
def yJ7_rangeCheck_23922 : MethodName := ⟨RJ7, "rangeCheck", "(III)V"⟩
abbrev cJ7_fill_bad5a : ByteArray := prog_16_method_102_code
def yJ7_fill_bad5a : MethodName := ⟨RJ7, "fill", "([JIIJ)V"⟩
abbrev cJ7_fill_53178 : ByteArray := prog_16_method_103_code
def yJ7_fill_53178 : MethodName := ⟨RJ7, "fill", "([II)V"⟩
abbrev cJ7_fill_fda19 : ByteArray := prog_16_method_104_code
def yJ7_fill_fda19 : MethodName := ⟨RJ7, "fill", "([IIII)V"⟩
abbrev vwCl : List vw_C := [(RX0, TX0, 5), (RX1, TX1, 8), (RX2, TX2, 12), (RX3, TX3, 11), (RX4, TX4, 5), (RX5, TX5, 7), (RX6, TX6, 9), (RX7, TX7, 5), (RX8, TX8, 3), (RX9, TX9, 8), (RX10, TX10, 8), (RX11, TX11, 74)]
end
section
/-! ===== the methods as rows of the small machine ===== -/
def kX0_addFour : List ab_I := [(0, .bipush 24, 2, 0, 0), (2, .istore_n 2, 1, 0, 0), (3, .iload_n 2, 1, 0, 0), (4, .ifCond .lt 45, 3, 49, 0), (7, .aload_n 0, 1, 0, 0), (8, .getfield 21, 3, 0, 4), (11, .sipush 3000, 3, 0, 0), (14, .if_icmp .ge 29, 3, 43, 0), (17, .aload_n 0, 1, 0, 0), (18, .getfield 18, 3, 0, 2), (21, .aload_n 0, 1, 0, 0), (22, .getfield 21, 3, 0, 4), (25, .iload_n 1, 1, 0, 0), (26, .iload_n 2, 1, 0, 0), (27, .iushr, 1, 0, 0), (28, .sipush 255, 3, 0, 0), (31, .iand, 1, 0, 0), (32, .iastore, 1, 0, 0), (33, .aload_n 0, 1, 0, 0), (34, .dup, 1, 0, 0), (35, .getfield 21, 3, 0, 4), (38, .iconst 1, 1, 0, 0), (39, .iadd, 1, 0, 0), (40, .putfield 21, 3, 0, 4), (43, .iinc 2 (-8), 3, 0, 0), (46, .goto (-43), 3, 3, 0), (49, .return_, 1, 0, 0)]
def mX0_addFour : ab_M := (yX0_addFour, 0, cX0_addFour, 3, none, kX0_addFour)
def kX0_keepOfLast : List ab_I := [(0, .iload_n 1, 1, 0, 0), (1, .ifCond .lt 18, 3, 19, 0), (4, .iload_n 1, 1, 0, 0), (5, .bipush 20, 2, 0, 0), (7, .if_icmp .gt 12, 3, 19, 0), (10, .aload_n 0, 1, 0, 0), (11, .getfield 21, 3, 0, 4), (14, .bipush 20, 2, 0, 0), (16, .if_icmp .ge 5, 3, 21, 0), (19, .iconst (-1), 1, 0, 0), (20, .ireturn, 1, 0, 0), (21, .aload_n 0, 1, 0, 0), (22, .dup, 1, 0, 0), (23, .getfield 21, 3, 0, 4), (26, .bipush 20, 2, 0, 0), (28, .iload_n 1, 1, 0, 0), (29, .isub, 1, 0, 0), (30, .isub, 1, 0, 0), (31, .putfield 21, 3, 0, 4), (34, .aload_n 0, 1, 0, 0), (35, .getfield 21, 3, 0, 4), (38, .ireturn, 1, 0, 0)]
def mX0_keepOfLast : ab_M := (yX0_keepOfLast, 0, cX0_keepOfLast, 2, (some .int), kX0_keepOfLast)
def kX0_endDocument : List ab_I := [(0, .aload_n 0, 1, 0, 0), (1, .getfield 25, 3, 0, 3), (4, .bipush 40, 2, 0, 0), (6, .if_icmp .ge 23, 3, 29, 0), (9, .aload_n 0, 1, 0, 0), (10, .getfield 21, 3, 0, 4), (13, .sipush 3000, 3, 0, 0), (16, .aload_n 0, 1, 0, 0), (17, .getfield 15, 3, 0, 1), (20, .aload_n 0, 1, 0, 0), (21, .getfield 25, 3, 0, 3), (24, .iaload, 1, 0, 0), (25, .isub, 1, 0, 0), (26, .if_icmp .lt 5, 3, 31, 0), (29, .iconst (-1), 1, 0, 0), (30, .ireturn, 1, 0, 0), (31, .aload_n 0, 1, 0, 0), (32, .getfield 15, 3, 0, 1), (35, .aload_n 0, 1, 0, 0), (36, .getfield 25, 3, 0, 3), (39, .iaload, 1, 0, 0), (40, .istore_n 1, 1, 0, 0), (41, .aload_n 0, 1, 0, 0), (42, .getfield 18, 3, 0, 2), (45, .iconst 0, 1, 0, 0), (46, .aload_n 0, 1, 0, 0), (47, .getfield 9, 3, 0, 0), (50, .iload_n 1, 1, 0, 0), (51, .aload_n 0, 1, 0, 0), (52, .getfield 21, 3, 0, 4), (55, .invokestatic 28, 3, 1002, 5), (58, .aload_n 0, 1, 0, 0), (59, .getfield 9, 3, 0, 0), (62, .iload_n 1, 1, 0, 0), (63, .aload_n 0, 1, 0, 0), (64, .getfield 21, 3, 0, 4), (67, .iadd, 1, 0, 0), (68, .bipush (-2), 2, 0, 0), (70, .iastore, 1, 0, 0), (71, .aload_n 0, 1, 0, 0), (72, .dup, 1, 0, 0), (73, .getfield 25, 3, 0, 3), (76, .iconst 1, 1, 0, 0), (77, .iadd, 1, 0, 0), (78, .putfield 25, 3, 0, 3), (81, .aload_n 0, 1, 0, 0), (82, .getfield 15, 3, 0, 1), (85, .aload_n 0, 1, 0, 0), (86, .getfield 25, 3, 0, 3), (89, .iload_n 1, 1, 0, 0), (90, .aload_n 0, 1, 0, 0), (91, .getfield 21, 3, 0, 4), (94, .iadd, 1, 0, 0), (95, .iconst 1, 1, 0, 0), (96, .iadd, 1, 0, 0), (97, .iastore, 1, 0, 0), (98, .aload_n 0, 1, 0, 0), (99, .iconst 0, 1, 0, 0), (100, .putfield 21, 3, 0, 4), (103, .aload_n 0, 1, 0, 0), (104, .getfield 25, 3, 0, 3), (107, .iconst 1, 1, 0, 0), (108, .isub, 1, 0, 0), (109, .ireturn, 1, 0, 0)]
def mX0_endDocument : ab_M := (yX0_endDocument, 0, cX0_endDocument, 2, (some .int), kX0_endDocument)
def kX0_dropAll : List ab_I := [(0, .aload_n 0, 1, 0, 0), (1, .getfield 25, 3, 0, 3), (4, .istore_n 1, 1, 0, 0), (5, .aload_n 0, 1, 0, 0), (6, .iconst 0, 1, 0, 0), (7, .putfield 25, 3, 0, 3), (10, .aload_n 0, 1, 0, 0), (11, .iconst 0, 1, 0, 0), (12, .putfield 21, 3, 0, 4), (15, .iload_n 1, 1, 0, 0), (16, .ireturn, 1, 0, 0)]
def mX0_dropAll : ab_M := (yX0_dropAll, 0, cX0_dropAll, 2, (some .int), kX0_dropAll)
def kX1_become : List ab_I := [(0, .aload_n 0, 1, 0, 0), (1, .iload_n 1, 1, 0, 0), (2, .iload_n 2, 1, 0, 0), (3, .invokevirtual 23, 3, 5, 2), (6, .aload_n 0, 1, 0, 0), (7, .iconst 0, 1, 0, 0), (8, .putfield 27, 3, 1, 3), (11, .return_, 1, 0, 0)]
def mX1_become : ab_M := (yX1_become, 1, cX1_become, 3, none, kX1_become)
def kX1_stand : List ab_I := [(0, .aload_n 0, 1, 0, 0), (1, .iload_n 1, 1, 0, 0), (2, .putfield 31, 3, 1, 4), (5, .aload_n 0, 1, 0, 0), (6, .iload_n 2, 1, 0, 0), (7, .putfield 34, 3, 1, 5), (10, .aload_n 0, 1, 0, 0), (11, .aload_n 0, 1, 0, 0), (12, .getfield 19, 3, 1, 0), (15, .getfield 37, 3, 2, 4), (18, .iload_n 1, 1, 0, 0), (19, .iaload, 1, 0, 0), (20, .putfield 42, 3, 1, 6), (23, .aload_n 0, 1, 0, 0), (24, .getfield 42, 3, 1, 6), (27, .ifCond .le 35, 3, 62, 0), (30, .aload_n 0, 1, 0, 0), (31, .getfield 19, 3, 1, 0), (34, .getfield 45, 3, 2, 5), (37, .aload_n 0, 1, 0, 0), (38, .getfield 42, 3, 1, 6), (41, .iaload, 1, 0, 0), (42, .aload_n 0, 1, 0, 0), (43, .getfield 34, 3, 1, 5), (46, .if_icmp .lt 16, 3, 62, 0), (49, .aload_n 0, 1, 0, 0), (50, .dup, 1, 0, 0), (51, .getfield 42, 3, 1, 6), (54, .iconst 1, 1, 0, 0), (55, .isub, 1, 0, 0), (56, .putfield 42, 3, 1, 6), (59, .goto (-36), 3, 23, 0), (62, .aload_n 0, 1, 0, 0), (63, .aload_n 0, 1, 0, 0), (64, .getfield 19, 3, 1, 0), (67, .getfield 37, 3, 2, 4), (70, .iload_n 1, 1, 0, 0), (71, .iaload, 1, 0, 0), (72, .iconst 1, 1, 0, 0), (73, .iadd, 1, 0, 0), (74, .putfield 48, 3, 1, 7), (77, .aload_n 0, 1, 0, 0), (78, .getfield 48, 3, 1, 7), (81, .aload_n 0, 1, 0, 0), (82, .getfield 19, 3, 1, 0), (85, .getfield 51, 3, 2, 8), (88, .if_icmp .ge 35, 3, 123, 0), (91, .aload_n 0, 1, 0, 0), (92, .getfield 19, 3, 1, 0), (95, .getfield 45, 3, 2, 5), (98, .aload_n 0, 1, 0, 0), (99, .getfield 48, 3, 1, 7), (102, .iaload, 1, 0, 0), (103, .aload_n 0, 1, 0, 0), (104, .getfield 34, 3, 1, 5), (107, .if_icmp .lt 16, 3, 123, 0), (110, .aload_n 0, 1, 0, 0), (111, .dup, 1, 0, 0), (112, .getfield 48, 3, 1, 7), (115, .iconst 1, 1, 0, 0), (116, .iadd, 1, 0, 0), (117, .putfield 48, 3, 1, 7), (120, .goto (-43), 3, 77, 0), (123, .return_, 1, 0, 0)]
def mX1_stand : ab_M := (yX1_stand, 1, cX1_stand, 3, none, kX1_stand)
def kX1_rows : List ab_I := [(0, .aload_n 0, 1, 0, 0), (1, .getfield 48, 3, 1, 7), (4, .aload_n 0, 1, 0, 0), (5, .getfield 42, 3, 1, 6), (8, .isub, 1, 0, 0), (9, .ireturn, 1, 0, 0)]
def mX1_rows : ab_M := (yX1_rows, 1, cX1_rows, 1, (some .int), kX1_rows)
def kX1_beside : List ab_I := [(0, .iload_n 1, 1, 0, 0), (1, .ifCond .eq 28, 3, 29, 0), (4, .aload_n 0, 1, 0, 0), (5, .getfield 19, 3, 1, 0), (8, .getfield 54, 3, 2, 0), (11, .aload_n 0, 1, 0, 0), (12, .getfield 19, 3, 1, 0), (15, .getfield 57, 3, 2, 3), (18, .iload_n 2, 1, 0, 0), (19, .iaload, 1, 0, 0), (20, .aload_n 0, 1, 0, 0), (21, .getfield 34, 3, 1, 5), (24, .iadd, 1, 0, 0), (25, .iaload, 1, 0, 0), (26, .goto 12, 3, 38, 0), (29, .aload_n 0, 1, 0, 0), (30, .getfield 19, 3, 1, 0), (33, .getfield 60, 3, 2, 6), (36, .iload_n 2, 1, 0, 0), (37, .iaload, 1, 0, 0), (38, .ireturn, 1, 0, 0)]
def mX1_beside : ab_M := (yX1_beside, 1, cX1_beside, 3, (some .int), kX1_beside)
def kX1_extend : List ab_I := [(0, .aload_n 0, 1, 0, 0), (1, .getfield 42, 3, 1, 6), (4, .istore_n 3, 1, 0, 0), (5, .iload_n 3, 1, 0, 0), (6, .aload_n 0, 1, 0, 0), (7, .getfield 48, 3, 1, 7), (10, .if_icmp .ge 19, 3, 29, 0), (13, .aload_n 0, 1, 0, 0), (14, .iload_n 1, 1, 0, 0), (15, .iload_n 3, 1, 0, 0), (16, .invokevirtual 63, 3, 7, 2), (19, .iload_n 2, 1, 0, 0), (20, .if_icmp .eq 9, 3, 29, 0), (23, .iinc 3 1, 3, 0, 0), (26, .goto (-21), 3, 5, 0), (29, .iload_n 3, 1, 0, 0), (30, .aload_n 0, 1, 0, 0), (31, .getfield 48, 3, 1, 7), (34, .if_icmp .eq 13, 3, 47, 0), (37, .aload_n 0, 1, 0, 0), (38, .getfield 27, 3, 1, 3), (41, .sipush 3000, 3, 0, 0), (44, .if_icmp .lt 5, 3, 49, 0), (47, .iconst 0, 1, 0, 0), (48, .ireturn, 1, 0, 0), (49, .aload_n 0, 1, 0, 0), (50, .iload_n 1, 1, 0, 0), (51, .ifCond .eq 15, 3, 66, 0), (54, .aload_n 0, 1, 0, 0), (55, .getfield 19, 3, 1, 0), (58, .getfield 57, 3, 2, 3), (61, .iload_n 3, 1, 0, 0), (62, .iaload, 1, 0, 0), (63, .goto 14, 3, 77, 0), (66, .aload_n 0, 1, 0, 0), (67, .getfield 19, 3, 1, 0), (70, .getfield 57, 3, 2, 3), (73, .iload_n 3, 1, 0, 0), (74, .iaload, 1, 0, 0), (75, .iconst 1, 1, 0, 0), (76, .isub, 1, 0, 0), (77, .aload_n 0, 1, 0, 0), (78, .getfield 34, 3, 1, 5), (81, .iconst 1, 1, 0, 0), (82, .iadd, 1, 0, 0), (83, .invokevirtual 23, 3, 5, 2), (86, .aload_n 0, 1, 0, 0), (87, .getfield 9, 3, 1, 1), (90, .aload_n 0, 1, 0, 0), (91, .getfield 27, 3, 1, 3), (94, .iload_n 1, 1, 0, 0), (95, .bastore, 1, 0, 0), (96, .aload_n 0, 1, 0, 0), (97, .dup, 1, 0, 0), (98, .getfield 27, 3, 1, 3), (101, .iconst 1, 1, 0, 0), (102, .iadd, 1, 0, 0), (103, .putfield 27, 3, 1, 3), (106, .aload_n 0, 1, 0, 0), (107, .invokevirtual 67, 3, 6, 0), (110, .ireturn, 1, 0, 0)]
def mX1_extend : ab_M := (yX1_extend, 1, cX1_extend, 4, (some .int), kX1_extend)
def kX1_undo : List ab_I := [(0, .aload_n 0, 1, 0, 0), (1, .getfield 27, 3, 1, 3), (4, .ifCond .ne 5, 3, 9, 0), (7, .iconst (-1), 1, 0, 0), (8, .ireturn, 1, 0, 0), (9, .aload_n 0, 1, 0, 0), (10, .dup, 1, 0, 0), (11, .getfield 27, 3, 1, 3), (14, .iconst 1, 1, 0, 0), (15, .isub, 1, 0, 0), (16, .putfield 27, 3, 1, 3), (19, .aload_n 0, 1, 0, 0), (20, .aload_n 0, 1, 0, 0), (21, .getfield 9, 3, 1, 1), (24, .aload_n 0, 1, 0, 0), (25, .getfield 27, 3, 1, 3), (28, .baload, 1, 0, 0), (29, .ifCond .eq 10, 3, 39, 0), (32, .aload_n 0, 1, 0, 0), (33, .getfield 31, 3, 1, 4), (36, .goto 9, 3, 45, 0), (39, .aload_n 0, 1, 0, 0), (40, .getfield 31, 3, 1, 4), (43, .iconst 1, 1, 0, 0), (44, .iadd, 1, 0, 0), (45, .aload_n 0, 1, 0, 0), (46, .getfield 34, 3, 1, 5), (49, .iconst 1, 1, 0, 0), (50, .isub, 1, 0, 0), (51, .invokevirtual 23, 3, 5, 2), (54, .aload_n 0, 1, 0, 0), (55, .getfield 34, 3, 1, 5), (58, .ireturn, 1, 0, 0)]
def mX1_undo : ab_M := (yX1_undo, 1, cX1_undo, 1, (some .int), kX1_undo)
def kX1_placeInOrder : List ab_I := [(0, .iload_n 1, 1, 0, 0), (1, .istore_n 2, 1, 0, 0), (2, .iconst 0, 1, 0, 0), (3, .istore_n 3, 1, 0, 0), (4, .iload_n 3, 1, 0, 0), (5, .aload_n 0, 1, 0, 0), (6, .getfield 19, 3, 1, 0), (9, .getfield 51, 3, 2, 8), (12, .if_icmp .ge 50, 3, 62, 0), (15, .aload_n 0, 1, 0, 0), (16, .getfield 19, 3, 1, 0), (19, .getfield 37, 3, 2, 4), (22, .iload_n 3, 1, 0, 0), (23, .iaload, 1, 0, 0), (24, .aload_n 0, 1, 0, 0), (25, .getfield 42, 3, 1, 6), (28, .if_icmp .lt 28, 3, 56, 0), (31, .aload_n 0, 1, 0, 0), (32, .getfield 19, 3, 1, 0), (35, .getfield 37, 3, 2, 4), (38, .iload_n 3, 1, 0, 0), (39, .iaload, 1, 0, 0), (40, .aload_n 0, 1, 0, 0), (41, .getfield 48, 3, 1, 7), (44, .if_icmp .ge 12, 3, 56, 0), (47, .iload_n 2, 1, 0, 0), (48, .ifCond .ne 5, 3, 53, 0), (51, .iload_n 3, 1, 0, 0), (52, .ireturn, 1, 0, 0), (53, .iinc 2 (-1), 3, 0, 0), (56, .iinc 3 1, 3, 0, 0), (59, .goto (-55), 3, 4, 0), (62, .iconst (-1), 1, 0, 0), (63, .ireturn, 1, 0, 0)]
def mX1_placeInOrder : ab_M := (yX1_placeInOrder, 1, cX1_placeInOrder, 4, (some .int), kX1_placeInOrder)
def kX1_neighbour : List ab_I := [(0, .aload_n 0, 1, 0, 0), (1, .getfield 15, 3, 1, 2), (4, .iconst 0, 1, 0, 0), (5, .invokestatic 70, 3, 251, 2), (8, .aload_n 0, 1, 0, 0), (9, .getfield 42, 3, 1, 6), (12, .istore_n 3, 1, 0, 0), (13, .iload_n 3, 1, 0, 0), (14, .aload_n 0, 1, 0, 0), (15, .getfield 48, 3, 1, 7), (18, .if_icmp .ge 30, 3, 48, 0), (21, .aload_n 0, 1, 0, 0), (22, .iload_n 1, 1, 0, 0), (23, .iload_n 3, 1, 0, 0), (24, .invokevirtual 63, 3, 7, 2), (27, .istore 4, 2, 0, 0), (29, .iload 4, 2, 0, 0), (31, .ifCond .lt 11, 3, 42, 0), (34, .aload_n 0, 1, 0, 0), (35, .getfield 15, 3, 1, 2), (38, .iload 4, 2, 0, 0), (40, .iconst 1, 1, 0, 0), (41, .iastore, 1, 0, 0), (42, .iinc 3 1, 3, 0, 0), (45, .goto (-32), 3, 13, 0), (48, .iconst 0, 1, 0, 0), (49, .istore_n 3, 1, 0, 0), (50, .iconst 0, 1, 0, 0), (51, .istore 4, 2, 0, 0), (53, .iload 4, 2, 0, 0), (55, .sipush 256, 3, 0, 0), (58, .if_icmp .ge 30, 3, 88, 0), (61, .aload_n 0, 1, 0, 0), (62, .getfield 15, 3, 1, 2), (65, .iload 4, 2, 0, 0), (67, .iaload, 1, 0, 0), (68, .ifCond .le 14, 3, 82, 0), (71, .iload_n 3, 1, 0, 0), (72, .iload_n 2, 1, 0, 0), (73, .if_icmp .ne 6, 3, 79, 0), (76, .iload 4, 2, 0, 0), (78, .ireturn, 1, 0, 0), (79, .iinc 3 1, 3, 0, 0), (82, .iinc 4 1, 3, 0, 0), (85, .goto (-32), 3, 53, 0), (88, .iload_n 2, 1, 0, 0), (89, .iconst (-1), 1, 0, 0), (90, .if_icmp .ne 7, 3, 97, 0), (93, .iload_n 3, 1, 0, 0), (94, .goto 4, 3, 98, 0), (97, .iconst (-1), 1, 0, 0), (98, .ireturn, 1, 0, 0)]
def mX1_neighbour : ab_M := (yX1_neighbour, 1, cX1_neighbour, 5, (some .int), kX1_neighbour)
def kX1_placesIn : List ab_I := [(0, .aload_n 0, 1, 0, 0), (1, .invokevirtual 76, 3, 13, 0), (4, .aload_n 0, 1, 0, 0), (5, .getfield 15, 3, 1, 2), (8, .iload_n 1, 1, 0, 0), (9, .iaload, 1, 0, 0), (10, .ireturn, 1, 0, 0)]
def mX1_placesIn : ab_M := (yX1_placesIn, 1, cX1_placesIn, 2, (some .int), kX1_placesIn)
def kX1_countByDocument : List ab_I := [(0, .aload_n 0, 1, 0, 0), (1, .getfield 15, 3, 1, 2), (4, .iconst 0, 1, 0, 0), (5, .bipush 40, 2, 0, 0), (7, .iconst 0, 1, 0, 0), (8, .invokestatic 79, 3, 252, 4), (11, .aload_n 0, 1, 0, 0), (12, .getfield 42, 3, 1, 6), (15, .istore_n 1, 1, 0, 0), (16, .iload_n 1, 1, 0, 0), (17, .aload_n 0, 1, 0, 0), (18, .getfield 48, 3, 1, 7), (21, .if_icmp .ge 35, 3, 56, 0), (24, .aload_n 0, 1, 0, 0), (25, .getfield 15, 3, 1, 2), (28, .aload_n 0, 1, 0, 0), (29, .getfield 19, 3, 1, 0), (32, .getfield 82, 3, 2, 1), (35, .aload_n 0, 1, 0, 0), (36, .getfield 19, 3, 1, 0), (39, .getfield 57, 3, 2, 3), (42, .iload_n 1, 1, 0, 0), (43, .iaload, 1, 0, 0), (44, .iaload, 1, 0, 0), (45, .dup2, 1, 0, 0), (46, .iaload, 1, 0, 0), (47, .iconst 1, 1, 0, 0), (48, .iadd, 1, 0, 0), (49, .iastore, 1, 0, 0), (50, .iinc 1 1, 3, 0, 0), (53, .goto (-37), 3, 16, 0), (56, .return_, 1, 0, 0)]
def mX1_countByDocument : ab_M := (yX1_countByDocument, 1, cX1_countByDocument, 2, none, kX1_countByDocument)
def kX1_documentInOrder : List ab_I := [(0, .aload_n 0, 1, 0, 0), (1, .invokevirtual 76, 3, 13, 0), (4, .iconst 0, 1, 0, 0), (5, .istore_n 2, 1, 0, 0), (6, .iconst 0, 1, 0, 0), (7, .istore_n 3, 1, 0, 0), (8, .iload_n 3, 1, 0, 0), (9, .aload_n 0, 1, 0, 0), (10, .getfield 19, 3, 1, 0), (13, .getfield 85, 3, 2, 9), (16, .if_icmp .ge 32, 3, 48, 0), (19, .aload_n 0, 1, 0, 0), (20, .getfield 15, 3, 1, 2), (23, .iload_n 3, 1, 0, 0), (24, .iaload, 1, 0, 0), (25, .ifCond .le 17, 3, 42, 0), (28, .iload_n 1, 1, 0, 0), (29, .aload_n 0, 1, 0, 0), (30, .iload_n 3, 1, 0, 0), (31, .invokevirtual 88, 3, 15, 1), (34, .if_icmp .ne 5, 3, 39, 0), (37, .iload_n 3, 1, 0, 0), (38, .ireturn, 1, 0, 0), (39, .iinc 2 1, 3, 0, 0), (42, .iinc 3 1, 3, 0, 0), (45, .goto (-37), 3, 8, 0), (48, .iload_n 1, 1, 0, 0), (49, .iconst (-1), 1, 0, 0), (50, .if_icmp .ne 7, 3, 57, 0), (53, .iload_n 2, 1, 0, 0), (54, .goto 4, 3, 58, 0), (57, .iconst (-1), 1, 0, 0), (58, .ireturn, 1, 0, 0)]
def mX1_documentInOrder : ab_M := (yX1_documentInOrder, 1, cX1_documentInOrder, 4, (some .int), kX1_documentInOrder)
def kX1_documentsAheadOf : List ab_I := [(0, .iconst 0, 1, 0, 0), (1, .istore_n 2, 1, 0, 0), (2, .iconst 0, 1, 0, 0), (3, .istore_n 3, 1, 0, 0), (4, .iload_n 3, 1, 0, 0), (5, .aload_n 0, 1, 0, 0), (6, .getfield 19, 3, 1, 0), (9, .getfield 85, 3, 2, 9), (12, .if_icmp .ge 47, 3, 59, 0), (15, .aload_n 0, 1, 0, 0), (16, .getfield 15, 3, 1, 2), (19, .iload_n 3, 1, 0, 0), (20, .iaload, 1, 0, 0), (21, .aload_n 0, 1, 0, 0), (22, .getfield 15, 3, 1, 2), (25, .iload_n 1, 1, 0, 0), (26, .iaload, 1, 0, 0), (27, .if_icmp .gt 23, 3, 50, 0), (30, .aload_n 0, 1, 0, 0), (31, .getfield 15, 3, 1, 2), (34, .iload_n 3, 1, 0, 0), (35, .iaload, 1, 0, 0), (36, .aload_n 0, 1, 0, 0), (37, .getfield 15, 3, 1, 2), (40, .iload_n 1, 1, 0, 0), (41, .iaload, 1, 0, 0), (42, .if_icmp .ne 11, 3, 53, 0), (45, .iload_n 3, 1, 0, 0), (46, .iload_n 1, 1, 0, 0), (47, .if_icmp .ge 6, 3, 53, 0), (50, .iinc 2 1, 3, 0, 0), (53, .iinc 3 1, 3, 0, 0), (56, .goto (-52), 3, 4, 0), (59, .iload_n 2, 1, 0, 0), (60, .ireturn, 1, 0, 0)]
def mX1_documentsAheadOf : ab_M := (yX1_documentsAheadOf, 1, cX1_documentsAheadOf, 4, (some .int), kX1_documentsAheadOf)
def kX2_learn : List ab_I := [(0, .aload_n 0, 1, 0, 0), (1, .iload_n 2, 1, 0, 0), (2, .putfield 40, 3, 2, 10), (5, .aload_n 0, 1, 0, 0), (6, .iconst 0, 1, 0, 0), (7, .putfield 44, 3, 2, 11), (10, .aload_n 0, 1, 0, 0), (11, .aload_n 1, 1, 0, 0), (12, .getfield 47, 3, 0, 3), (15, .putfield 52, 3, 2, 9), (18, .aload_n 0, 1, 0, 0), (19, .aload_n 1, 1, 0, 0), (20, .getfield 53, 3, 0, 1), (23, .aload_n 0, 1, 0, 0), (24, .getfield 52, 3, 2, 9), (27, .iaload, 1, 0, 0), (28, .putfield 54, 3, 2, 8), (31, .aload_n 1, 1, 0, 0), (32, .getfield 53, 3, 0, 1), (35, .iconst 0, 1, 0, 0), (36, .aload_n 0, 1, 0, 0), (37, .getfield 18, 3, 2, 2), (40, .iconst 0, 1, 0, 0), (41, .aload_n 0, 1, 0, 0), (42, .getfield 52, 3, 2, 9), (45, .iconst 1, 1, 0, 0), (46, .iadd, 1, 0, 0), (47, .invokestatic 57, 3, 1002, 5), (50, .aload_n 1, 1, 0, 0), (51, .getfield 63, 3, 0, 0), (54, .iconst 0, 1, 0, 0), (55, .aload_n 0, 1, 0, 0), (56, .getfield 9, 3, 2, 0), (59, .iconst 0, 1, 0, 0), (60, .aload_n 0, 1, 0, 0), (61, .getfield 54, 3, 2, 8), (64, .invokestatic 57, 3, 1002, 5), (67, .iconst 0, 1, 0, 0), (68, .istore_n 3, 1, 0, 0), (69, .iload_n 3, 1, 0, 0), (70, .aload_n 0, 1, 0, 0), (71, .getfield 52, 3, 2, 9), (74, .if_icmp .ge 45, 3, 119, 0), (77, .aload_n 0, 1, 0, 0), (78, .getfield 15, 3, 2, 1), (81, .aload_n 0, 1, 0, 0), (82, .getfield 18, 3, 2, 2), (85, .iload_n 3, 1, 0, 0), (86, .iaload, 1, 0, 0), (87, .aload_n 0, 1, 0, 0), (88, .getfield 18, 3, 2, 2), (91, .iload_n 3, 1, 0, 0), (92, .iconst 1, 1, 0, 0), (93, .iadd, 1, 0, 0), (94, .iaload, 1, 0, 0), (95, .iload_n 3, 1, 0, 0), (96, .invokestatic 64, 3, 252, 4), (99, .aload_n 0, 1, 0, 0), (100, .getfield 9, 3, 2, 0), (103, .aload_n 0, 1, 0, 0), (104, .iload_n 3, 1, 0, 0), (105, .invokevirtual 70, 3, 23, 1), (108, .iload_n 3, 1, 0, 0), (109, .bipush 40, 2, 0, 0), (111, .isub, 1, 0, 0), (112, .iastore, 1, 0, 0), (113, .iinc 3 1, 3, 0, 0), (116, .goto (-47), 3, 69, 0), (119, .aload_n 0, 1, 0, 0), (120, .getfield 36, 3, 2, 7), (123, .aload_n 0, 1, 0, 0), (124, .getfield 9, 3, 2, 0), (127, .aload_n 0, 1, 0, 0), (128, .getfield 54, 3, 2, 8), (131, .aload_n 0, 1, 0, 0), (132, .getfield 21, 3, 2, 3), (135, .aload_n 0, 1, 0, 0), (136, .getfield 24, 3, 2, 4), (139, .invokevirtual 74, 3, 94, 4), (142, .aload_n 0, 1, 0, 0), (143, .invokevirtual 78, 3, 17, 0), (146, .aload_n 0, 1, 0, 0), (147, .invokevirtual 81, 3, 18, 0), (150, .return_, 1, 0, 0)]
def mX2_learn : ab_M := (yX2_learn, 2, cX2_learn, 4, none, kX2_learn)
def kX2_learnAlikes : List ab_I := [(0, .iconst 0, 1, 0, 0), (1, .istore_n 1, 1, 0, 0), (2, .iconst 0, 1, 0, 0), (3, .istore_n 2, 1, 0, 0), (4, .iload_n 2, 1, 0, 0), (5, .aload_n 0, 1, 0, 0), (6, .getfield 54, 3, 2, 8), (9, .if_icmp .ge 54, 3, 63, 0), (12, .aload_n 0, 1, 0, 0), (13, .getfield 24, 3, 2, 4), (16, .iload_n 2, 1, 0, 0), (17, .iaload, 1, 0, 0), (18, .istore_n 3, 1, 0, 0), (19, .iload_n 3, 1, 0, 0), (20, .ifCond .ne 7, 3, 27, 0), (23, .iconst 0, 1, 0, 0), (24, .goto 17, 3, 41, 0), (27, .aload_n 0, 1, 0, 0), (28, .iload_n 2, 1, 0, 0), (29, .aload_n 0, 1, 0, 0), (30, .getfield 21, 3, 2, 3), (33, .iload_n 3, 1, 0, 0), (34, .iconst 1, 1, 0, 0), (35, .isub, 1, 0, 0), (36, .iaload, 1, 0, 0), (37, .iload_n 1, 1, 0, 0), (38, .invokevirtual 84, 3, 19, 3), (41, .istore_n 1, 1, 0, 0), (42, .aload_n 0, 1, 0, 0), (43, .getfield 27, 3, 2, 5), (46, .iload_n 3, 1, 0, 0), (47, .iload_n 1, 1, 0, 0), (48, .iastore, 1, 0, 0), (49, .iload_n 1, 1, 0, 0), (50, .iconst 1, 1, 0, 0), (51, .isub, 1, 0, 0), (52, .iconst 0, 1, 0, 0), (53, .invokestatic 88, 3, 1000, 2), (56, .istore_n 1, 1, 0, 0), (57, .iinc 2 1, 3, 0, 0), (60, .goto (-56), 3, 4, 0), (63, .return_, 1, 0, 0)]
def mX2_learnAlikes : ab_M := (yX2_learnAlikes, 2, cX2_learnAlikes, 4, none, kX2_learnAlikes)
def kX2_learnFronts : List ab_I := [(0, .iconst 0, 1, 0, 0), (1, .istore_n 1, 1, 0, 0), (2, .iload_n 1, 1, 0, 0), (3, .aload_n 0, 1, 0, 0), (4, .getfield 54, 3, 2, 8), (7, .if_icmp .ge 50, 3, 57, 0), (10, .aload_n 0, 1, 0, 0), (11, .getfield 21, 3, 2, 3), (14, .iload_n 1, 1, 0, 0), (15, .iaload, 1, 0, 0), (16, .istore_n 2, 1, 0, 0), (17, .aload_n 0, 1, 0, 0), (18, .getfield 30, 3, 2, 6), (21, .iload_n 1, 1, 0, 0), (22, .iload_n 2, 1, 0, 0), (23, .aload_n 0, 1, 0, 0), (24, .getfield 18, 3, 2, 2), (27, .aload_n 0, 1, 0, 0), (28, .getfield 15, 3, 2, 1), (31, .iload_n 2, 1, 0, 0), (32, .iaload, 1, 0, 0), (33, .iaload, 1, 0, 0), (34, .if_icmp .ne 8, 3, 42, 0), (37, .bipush (-2), 2, 0, 0), (39, .goto 11, 3, 50, 0), (42, .aload_n 0, 1, 0, 0), (43, .getfield 9, 3, 2, 0), (46, .iload_n 2, 1, 0, 0), (47, .iconst 1, 1, 0, 0), (48, .isub, 1, 0, 0), (49, .iaload, 1, 0, 0), (50, .iastore, 1, 0, 0), (51, .iinc 1 1, 3, 0, 0), (54, .goto (-52), 3, 2, 0), (57, .return_, 1, 0, 0)]
def mX2_learnFronts : ab_M := (yX2_learnFronts, 2, cX2_learnFronts, 3, none, kX2_learnFronts)
def kX2_alikeBehind : List ab_I := [(0, .iload_n 3, 1, 0, 0), (1, .istore 4, 2, 0, 0), (3, .iload_n 1, 1, 0, 0), (4, .iload 4, 2, 0, 0), (6, .iadd, 1, 0, 0), (7, .aload_n 0, 1, 0, 0), (8, .getfield 54, 3, 2, 8), (11, .if_icmp .ge 41, 3, 52, 0), (14, .iload_n 2, 1, 0, 0), (15, .iload 4, 2, 0, 0), (17, .iadd, 1, 0, 0), (18, .aload_n 0, 1, 0, 0), (19, .getfield 54, 3, 2, 8), (22, .if_icmp .ge 30, 3, 52, 0), (25, .aload_n 0, 1, 0, 0), (26, .getfield 9, 3, 2, 0), (29, .iload_n 1, 1, 0, 0), (30, .iload 4, 2, 0, 0), (32, .iadd, 1, 0, 0), (33, .iaload, 1, 0, 0), (34, .aload_n 0, 1, 0, 0), (35, .getfield 9, 3, 2, 0), (38, .iload_n 2, 1, 0, 0), (39, .iload 4, 2, 0, 0), (41, .iadd, 1, 0, 0), (42, .iaload, 1, 0, 0), (43, .if_icmp .ne 9, 3, 52, 0), (46, .iinc 4 1, 3, 0, 0), (49, .goto (-46), 3, 3, 0), (52, .iload 4, 2, 0, 0), (54, .ireturn, 1, 0, 0)]
def mX2_alikeBehind : ab_M := (yX2_alikeBehind, 2, cX2_alikeBehind, 5, (some .int), kX2_alikeBehind)
def kX2_alikeFrom : List ab_I := [(0, .iload_n 1, 1, 0, 0), (1, .iload_n 2, 1, 0, 0), (2, .if_icmp .ne 11, 3, 13, 0), (5, .aload_n 0, 1, 0, 0), (6, .iload_n 1, 1, 0, 0), (7, .invokevirtual 94, 3, 24, 1), (10, .goto 10, 3, 20, 0), (13, .aload_n 0, 1, 0, 0), (14, .iload_n 1, 1, 0, 0), (15, .iload_n 2, 1, 0, 0), (16, .iconst 0, 1, 0, 0), (17, .invokevirtual 84, 3, 19, 3), (20, .ireturn, 1, 0, 0)]
def mX2_alikeFrom : ab_M := (yX2_alikeFrom, 2, cX2_alikeFrom, 3, (some .int), kX2_alikeFrom)
def kX2_has : List ab_I := [(0, .iload_n 1, 1, 0, 0), (1, .ifCond .lt 15, 3, 16, 0), (4, .iload_n 1, 1, 0, 0), (5, .aload_n 0, 1, 0, 0), (6, .getfield 54, 3, 2, 8), (9, .if_icmp .ge 7, 3, 16, 0), (12, .iconst 1, 1, 0, 0), (13, .goto 4, 3, 17, 0), (16, .iconst 0, 1, 0, 0), (17, .ireturn, 1, 0, 0)]
def mX2_has : ab_M := (yX2_has, 2, cX2_has, 2, (some .boolean), kX2_has)
def kX2_hasDocument : List ab_I := [(0, .iload_n 1, 1, 0, 0), (1, .ifCond .lt 15, 3, 16, 0), (4, .iload_n 1, 1, 0, 0), (5, .aload_n 0, 1, 0, 0), (6, .getfield 52, 3, 2, 9), (9, .if_icmp .ge 7, 3, 16, 0), (12, .iconst 1, 1, 0, 0), (13, .goto 4, 3, 17, 0), (16, .iconst 0, 1, 0, 0), (17, .ireturn, 1, 0, 0)]
def mX2_hasDocument : ab_M := (yX2_hasDocument, 2, cX2_hasDocument, 2, (some .boolean), kX2_hasDocument)
def kX2_endOf : List ab_I := [(0, .aload_n 0, 1, 0, 0), (1, .getfield 18, 3, 2, 2), (4, .iload_n 1, 1, 0, 0), (5, .iconst 1, 1, 0, 0), (6, .iadd, 1, 0, 0), (7, .iaload, 1, 0, 0), (8, .iconst 1, 1, 0, 0), (9, .isub, 1, 0, 0), (10, .ireturn, 1, 0, 0)]
def mX2_endOf : ab_M := (yX2_endOf, 2, cX2_endOf, 2, (some .int), kX2_endOf)
def kX2_bytesFrom : List ab_I := [(0, .aload_n 0, 1, 0, 0), (1, .aload_n 0, 1, 0, 0), (2, .getfield 15, 3, 2, 1), (5, .iload_n 1, 1, 0, 0), (6, .iaload, 1, 0, 0), (7, .invokevirtual 70, 3, 23, 1), (10, .iload_n 1, 1, 0, 0), (11, .isub, 1, 0, 0), (12, .ireturn, 1, 0, 0)]
def mX2_bytesFrom : ab_M := (yX2_bytesFrom, 2, cX2_bytesFrom, 2, (some .int), kX2_bytesFrom)
def kX2_byteOf : List ab_I := [(0, .aload_n 0, 1, 0, 0), (1, .getfield 9, 3, 2, 0), (4, .iload_n 1, 1, 0, 0), (5, .iaload, 1, 0, 0), (6, .ifCond .ge 8, 3, 14, 0), (9, .bipush (-2), 2, 0, 0), (11, .goto 9, 3, 20, 0), (14, .aload_n 0, 1, 0, 0), (15, .getfield 9, 3, 2, 0), (18, .iload_n 1, 1, 0, 0), (19, .iaload, 1, 0, 0), (20, .ireturn, 1, 0, 0)]
def mX2_byteOf : ab_M := (yX2_byteOf, 2, cX2_byteOf, 2, (some .int), kX2_byteOf)
def kX2_tell : List ab_I := [(0, .aload_n 0, 1, 0, 0), (1, .dup, 1, 0, 0), (2, .getfield 44, 3, 2, 11), (5, .iload_n 1, 1, 0, 0), (6, .aload_n 0, 1, 0, 0), (7, .getfield 18, 3, 2, 2), (10, .aload_n 0, 1, 0, 0), (11, .getfield 15, 3, 2, 1), (14, .iload_n 1, 1, 0, 0), (15, .iaload, 1, 0, 0), (16, .iaload, 1, 0, 0), (17, .isub, 1, 0, 0), (18, .aload_n 0, 1, 0, 0), (19, .getfield 40, 3, 2, 10), (22, .iconst 1, 1, 0, 0), (23, .invokestatic 88, 3, 1000, 2), (26, .irem, 1, 0, 0), (27, .iadd, 1, 0, 0), (28, .putfield 44, 3, 2, 11), (31, .iload_n 1, 1, 0, 0), (32, .ireturn, 1, 0, 0)]
def mX2_tell : ab_M := (yX2_tell, 2, cX2_tell, 2, (some .int), kX2_tell)
def kX2_rowInFront : List ab_I := [(0, .aload_n 0, 1, 0, 0), (1, .getfield 30, 3, 2, 6), (4, .iload_n 1, 1, 0, 0), (5, .iaload, 1, 0, 0), (6, .bipush (-2), 2, 0, 0), (8, .if_icmp .ne 8, 3, 16, 0), (11, .bipush (-2), 2, 0, 0), (13, .goto 16, 3, 29, 0), (16, .aload_n 0, 1, 0, 0), (17, .getfield 24, 3, 2, 4), (20, .aload_n 0, 1, 0, 0), (21, .getfield 21, 3, 2, 3), (24, .iload_n 1, 1, 0, 0), (25, .iaload, 1, 0, 0), (26, .iconst 1, 1, 0, 0), (27, .isub, 1, 0, 0), (28, .iaload, 1, 0, 0), (29, .ireturn, 1, 0, 0)]
def mX2_rowInFront : ab_M := (yX2_rowInFront, 2, cX2_rowInFront, 2, (some .int), kX2_rowInFront)
def kX2_frontsUpTo : List ab_I := [(0, .iconst 0, 1, 0, 0), (1, .istore_n 3, 1, 0, 0), (2, .iconst 0, 1, 0, 0), (3, .istore 4, 2, 0, 0), (5, .iload 4, 2, 0, 0), (7, .iload_n 2, 1, 0, 0), (8, .if_icmp .ge 23, 3, 31, 0), (11, .aload_n 0, 1, 0, 0), (12, .getfield 30, 3, 2, 6), (15, .iload 4, 2, 0, 0), (17, .iaload, 1, 0, 0), (18, .iload_n 1, 1, 0, 0), (19, .if_icmp .ne 6, 3, 25, 0), (22, .iinc 3 1, 3, 0, 0), (25, .iinc 4 1, 3, 0, 0), (28, .goto (-23), 3, 5, 0), (31, .iload_n 3, 1, 0, 0), (32, .ireturn, 1, 0, 0)]
def mX2_frontsUpTo : ab_M := (yX2_frontsUpTo, 2, cX2_frontsUpTo, 5, (some .int), kX2_frontsUpTo)
def kX2_rowOfFront : List ab_I := [(0, .iload_n 2, 1, 0, 0), (1, .istore_n 3, 1, 0, 0), (2, .iconst 0, 1, 0, 0), (3, .istore 4, 2, 0, 0), (5, .iload 4, 2, 0, 0), (7, .aload_n 0, 1, 0, 0), (8, .getfield 54, 3, 2, 8), (11, .if_icmp .ge 30, 3, 41, 0), (14, .aload_n 0, 1, 0, 0), (15, .getfield 30, 3, 2, 6), (18, .iload 4, 2, 0, 0), (20, .iaload, 1, 0, 0), (21, .iload_n 1, 1, 0, 0), (22, .if_icmp .ne 13, 3, 35, 0), (25, .iload_n 3, 1, 0, 0), (26, .ifCond .ne 6, 3, 32, 0), (29, .iload 4, 2, 0, 0), (31, .ireturn, 1, 0, 0), (32, .iinc 3 (-1), 3, 0, 0), (35, .iinc 4 1, 3, 0, 0), (38, .goto (-33), 3, 5, 0), (41, .iconst (-1), 1, 0, 0), (42, .ireturn, 1, 0, 0)]
def mX2_rowOfFront : ab_M := (yX2_rowOfFront, 2, cX2_rowOfFront, 5, (some .int), kX2_rowOfFront)
def kX2_sumOfAlikes : List ab_I := [(0, .iconst 0, 1, 0, 0), (1, .istore_n 1, 1, 0, 0), (2, .iconst 0, 1, 0, 0), (3, .istore_n 2, 1, 0, 0), (4, .iload_n 2, 1, 0, 0), (5, .aload_n 0, 1, 0, 0), (6, .getfield 54, 3, 2, 8), (9, .if_icmp .ge 18, 3, 27, 0), (12, .iload_n 1, 1, 0, 0), (13, .aload_n 0, 1, 0, 0), (14, .getfield 27, 3, 2, 5), (17, .iload_n 2, 1, 0, 0), (18, .iaload, 1, 0, 0), (19, .iadd, 1, 0, 0), (20, .istore_n 1, 1, 0, 0), (21, .iinc 2 1, 3, 0, 0), (24, .goto (-20), 3, 4, 0), (27, .iload_n 1, 1, 0, 0), (28, .ireturn, 1, 0, 0)]
def mX2_sumOfAlikes : ab_M := (yX2_sumOfAlikes, 2, cX2_sumOfAlikes, 3, (some .int), kX2_sumOfAlikes)
def kX2_greatestAlike : List ab_I := [(0, .iconst 0, 1, 0, 0), (1, .istore_n 1, 1, 0, 0), (2, .iconst 0, 1, 0, 0), (3, .istore_n 2, 1, 0, 0), (4, .iload_n 2, 1, 0, 0), (5, .aload_n 0, 1, 0, 0), (6, .getfield 54, 3, 2, 8), (9, .if_icmp .ge 20, 3, 29, 0), (12, .iload_n 1, 1, 0, 0), (13, .aload_n 0, 1, 0, 0), (14, .getfield 27, 3, 2, 5), (17, .iload_n 2, 1, 0, 0), (18, .iaload, 1, 0, 0), (19, .invokestatic 88, 3, 1000, 2), (22, .istore_n 1, 1, 0, 0), (23, .iinc 2 1, 3, 0, 0), (26, .goto (-22), 3, 4, 0), (29, .iload_n 1, 1, 0, 0), (30, .ireturn, 1, 0, 0)]
def mX2_greatestAlike : ab_M := (yX2_greatestAlike, 2, cX2_greatestAlike, 3, (some .int), kX2_greatestAlike)
def kX3_forget : List ab_I := [(0, .aload_n 0, 1, 0, 0), (1, .sipush 3000, 3, 0, 0), (4, .putfield 35, 3, 3, 10), (7, .return_, 1, 0, 0)]
def mX3_forget : ab_M := (yX3_forget, 3, cX3_forget, 1, none, kX3_forget)
def kX3_found : List ab_I := [(0, .sipush 3000, 3, 0, 0), (3, .aload_n 0, 1, 0, 0), (4, .getfield 35, 3, 3, 10), (7, .isub, 1, 0, 0), (8, .ireturn, 1, 0, 0)]
def mX3_found : ab_M := (yX3_found, 3, cX3_found, 1, (some .int), kX3_found)
def kX3_tellFound : List ab_I := [(0, .aload_n 0, 1, 0, 0), (1, .getfield 35, 3, 3, 10), (4, .iload_n 1, 1, 0, 0), (5, .iadd, 1, 0, 0), (6, .istore_n 3, 1, 0, 0), (7, .iload_n 2, 1, 0, 0), (8, .tableswitch 49 0 2 #[28, 35, 42], 28, 0, 0), (36, .aload_n 0, 1, 0, 0), (37, .getfield 26, 3, 3, 7), (40, .iload_n 3, 1, 0, 0), (41, .iaload, 1, 0, 0), (42, .ireturn, 1, 0, 0), (43, .aload_n 0, 1, 0, 0), (44, .getfield 29, 3, 3, 8), (47, .iload_n 3, 1, 0, 0), (48, .iaload, 1, 0, 0), (49, .ireturn, 1, 0, 0), (50, .aload_n 0, 1, 0, 0), (51, .getfield 32, 3, 3, 9), (54, .iload_n 3, 1, 0, 0), (55, .iaload, 1, 0, 0), (56, .ireturn, 1, 0, 0), (57, .iconst (-1), 1, 0, 0), (58, .ireturn, 1, 0, 0)]
def mX3_tellFound : ab_M := (yX3_tellFound, 3, cX3_tellFound, 4, (some .int), kX3_tellFound)
def kX3_answerQuery : List ab_I := [(0, .aload_n 0, 1, 0, 0), (1, .invokevirtual 54, 3, 32, 0), (4, .aload_n 0, 1, 0, 0), (5, .getfield 50, 3, 3, 2), (8, .invokevirtual 57, 3, 99, 0), (11, .istore_n 1, 1, 0, 0), (12, .iload_n 1, 1, 0, 0), (13, .iconst (-1), 1, 0, 0), (14, .if_icmp .ne 4, 3, 18, 0), (17, .return_, 1, 0, 0), (18, .aload_n 0, 1, 0, 0), (19, .getfield 39, 3, 3, 0), (22, .getfield 61, 3, 2, 8), (25, .iconst 1, 1, 0, 0), (26, .isub, 1, 0, 0), (27, .istore_n 2, 1, 0, 0), (28, .iload_n 2, 1, 0, 0), (29, .ifCond .lt 87, 3, 116, 0), (32, .aload_n 0, 1, 0, 0), (33, .iload_n 1, 1, 0, 0), (34, .aload_n 0, 1, 0, 0), (35, .getfield 39, 3, 3, 0), (38, .getfield 66, 3, 2, 0), (41, .iload_n 2, 1, 0, 0), (42, .iaload, 1, 0, 0), (43, .invokevirtual 69, 3, 36, 2), (46, .aload_n 0, 1, 0, 0), (47, .getfield 17, 3, 3, 4), (50, .iload_n 1, 1, 0, 0), (51, .iaload, 1, 0, 0), (52, .ifCond .le 53, 3, 105, 0), (55, .aload_n 0, 1, 0, 0), (56, .dup, 1, 0, 0), (57, .getfield 35, 3, 3, 10), (60, .iconst 1, 1, 0, 0), (61, .isub, 1, 0, 0), (62, .putfield 35, 3, 3, 10), (65, .aload_n 0, 1, 0, 0), (66, .getfield 26, 3, 3, 7), (69, .aload_n 0, 1, 0, 0), (70, .getfield 35, 3, 3, 10), (73, .iload_n 2, 1, 0, 0), (74, .iastore, 1, 0, 0), (75, .aload_n 0, 1, 0, 0), (76, .getfield 29, 3, 3, 8), (79, .aload_n 0, 1, 0, 0), (80, .getfield 35, 3, 3, 10), (83, .aload_n 0, 1, 0, 0), (84, .getfield 11, 3, 3, 3), (87, .iload_n 1, 1, 0, 0), (88, .iaload, 1, 0, 0), (89, .iastore, 1, 0, 0), (90, .aload_n 0, 1, 0, 0), (91, .getfield 32, 3, 3, 9), (94, .aload_n 0, 1, 0, 0), (95, .getfield 35, 3, 3, 10), (98, .aload_n 0, 1, 0, 0), (99, .getfield 17, 3, 3, 4), (102, .iload_n 1, 1, 0, 0), (103, .iaload, 1, 0, 0), (104, .iastore, 1, 0, 0), (105, .aload_n 0, 1, 0, 0), (106, .iload_n 1, 1, 0, 0), (107, .invokevirtual 73, 3, 37, 1), (110, .iinc 2 (-1), 3, 0, 0), (113, .goto (-85), 3, 28, 0), (116, .return_, 1, 0, 0)]
def mX3_answerQuery : ab_M := (yX3_answerQuery, 3, cX3_answerQuery, 3, none, kX3_answerQuery)
def kX3_goUp : List ab_I := [(0, .iconst 0, 1, 0, 0), (1, .istore_n 3, 1, 0, 0), (2, .iload_n 3, 1, 0, 0), (3, .iload_n 1, 1, 0, 0), (4, .if_icmp .gt 227, 3, 231, 0), (7, .aload_n 0, 1, 0, 0), (8, .getfield 50, 3, 3, 2), (11, .getfield 77, 3, 9, 2), (14, .iload_n 3, 1, 0, 0), (15, .iaload, 1, 0, 0), (16, .istore 4, 2, 0, 0), (18, .aload_n 0, 1, 0, 0), (19, .getfield 50, 3, 3, 2), (22, .getfield 80, 3, 9, 1), (25, .iload_n 3, 1, 0, 0), (26, .iaload, 1, 0, 0), (27, .ifCond .ne 78, 3, 105, 0), (30, .iload_n 2, 1, 0, 0), (31, .ifCond .lt 20, 3, 51, 0), (34, .aload_n 0, 1, 0, 0), (35, .getfield 43, 3, 3, 1), (38, .iload 4, 2, 0, 0), (40, .iload_n 2, 1, 0, 0), (41, .invokevirtual 83, 3, 74, 2), (44, .ifCond .eq 7, 3, 51, 0), (47, .iconst 1, 1, 0, 0), (48, .goto 4, 3, 52, 0), (51, .iconst 0, 1, 0, 0), (52, .istore 5, 2, 0, 0), (54, .aload_n 0, 1, 0, 0), (55, .getfield 11, 3, 3, 3), (58, .iload_n 3, 1, 0, 0), (59, .iload 5, 2, 0, 0), (61, .ifCond .eq 14, 3, 75, 0), (64, .aload_n 0, 1, 0, 0), (65, .getfield 20, 3, 3, 5), (68, .iload_n 3, 1, 0, 0), (69, .iaload, 1, 0, 0), (70, .iconst 1, 1, 0, 0), (71, .iadd, 1, 0, 0), (72, .goto 5, 3, 77, 0), (75, .ldc 89, 2, 1000000, 0), (77, .iastore, 1, 0, 0), (78, .aload_n 0, 1, 0, 0), (79, .getfield 17, 3, 3, 4), (82, .iload_n 3, 1, 0, 0), (83, .iload 5, 2, 0, 0), (85, .ifCond .eq 14, 3, 99, 0), (88, .aload_n 0, 1, 0, 0), (89, .getfield 23, 3, 3, 6), (92, .iload_n 3, 1, 0, 0), (93, .iaload, 1, 0, 0), (94, .iconst 1, 1, 0, 0), (95, .iadd, 1, 0, 0), (96, .goto 5, 3, 101, 0), (99, .ldc 90, 2, 1000000, 1), (101, .iastore, 1, 0, 0), (102, .goto 123, 3, 225, 0), (105, .aload_n 0, 1, 0, 0), (106, .getfield 50, 3, 3, 2), (109, .getfield 91, 3, 9, 3), (112, .iload_n 3, 1, 0, 0), (113, .iaload, 1, 0, 0), (114, .istore 5, 2, 0, 0), (116, .aload_n 0, 1, 0, 0), (117, .getfield 50, 3, 3, 2), (120, .getfield 80, 3, 9, 1), (123, .iload_n 3, 1, 0, 0), (124, .iaload, 1, 0, 0), (125, .iconst 2, 1, 0, 0), (126, .if_icmp .eq 16, 3, 142, 0), (129, .aload_n 0, 1, 0, 0), (130, .getfield 50, 3, 3, 2), (133, .getfield 94, 3, 9, 4), (136, .iload 4, 2, 0, 0), (138, .baload, 1, 0, 0), (139, .ifCond .eq 7, 3, 146, 0), (142, .iconst 1, 1, 0, 0), (143, .goto 4, 3, 147, 0), (146, .iconst 0, 1, 0, 0), (147, .istore 6, 2, 0, 0), (149, .aload_n 0, 1, 0, 0), (150, .getfield 11, 3, 3, 3), (153, .iload_n 3, 1, 0, 0), (154, .iload 6, 2, 0, 0), (156, .ifCond .eq 23, 3, 179, 0), (159, .aload_n 0, 1, 0, 0), (160, .getfield 11, 3, 3, 3), (163, .iload 4, 2, 0, 0), (165, .iaload, 1, 0, 0), (166, .aload_n 0, 1, 0, 0), (167, .getfield 11, 3, 3, 3), (170, .iload 5, 2, 0, 0), (172, .iaload, 1, 0, 0), (173, .invokestatic 98, 3, 1001, 2), (176, .goto 10, 3, 186, 0), (179, .aload_n 0, 1, 0, 0), (180, .getfield 11, 3, 3, 3), (183, .iload 4, 2, 0, 0), (185, .iaload, 1, 0, 0), (186, .iastore, 1, 0, 0), (187, .aload_n 0, 1, 0, 0), (188, .getfield 17, 3, 3, 4), (191, .iload_n 3, 1, 0, 0), (192, .iload 6, 2, 0, 0), (194, .ifCond .eq 23, 3, 217, 0), (197, .aload_n 0, 1, 0, 0), (198, .getfield 17, 3, 3, 4), (201, .iload 4, 2, 0, 0), (203, .iaload, 1, 0, 0), (204, .aload_n 0, 1, 0, 0), (205, .getfield 17, 3, 3, 4), (208, .iload 5, 2, 0, 0), (210, .iaload, 1, 0, 0), (211, .invokestatic 104, 3, 1000, 2), (214, .goto 10, 3, 224, 0), (217, .aload_n 0, 1, 0, 0), (218, .getfield 17, 3, 3, 4), (221, .iload 4, 2, 0, 0), (223, .iaload, 1, 0, 0), (224, .iastore, 1, 0, 0), (225, .iinc 3 1, 3, 0, 0), (228, .goto (-226), 3, 2, 0), (231, .return_, 1, 0, 0)]
def mX3_goUp : ab_M := (yX3_goUp, 3, cX3_goUp, 7, none, kX3_goUp)
def kX3_goDown : List ab_I := [(0, .aload_n 0, 1, 0, 0), (1, .getfield 20, 3, 3, 5), (4, .iload_n 1, 1, 0, 0), (5, .iconst 0, 1, 0, 0), (6, .iastore, 1, 0, 0), (7, .aload_n 0, 1, 0, 0), (8, .getfield 23, 3, 3, 6), (11, .iload_n 1, 1, 0, 0), (12, .iconst 0, 1, 0, 0), (13, .iastore, 1, 0, 0), (14, .iload_n 1, 1, 0, 0), (15, .istore_n 2, 1, 0, 0), (16, .iload_n 2, 1, 0, 0), (17, .ifCond .lt 105, 3, 122, 0), (20, .aload_n 0, 1, 0, 0), (21, .getfield 50, 3, 3, 2), (24, .getfield 107, 3, 9, 5), (27, .iload_n 2, 1, 0, 0), (28, .baload, 1, 0, 0), (29, .ifCond .eq 45, 3, 74, 0), (32, .aload_n 0, 1, 0, 0), (33, .getfield 20, 3, 3, 5), (36, .iload_n 2, 1, 0, 0), (37, .aload_n 0, 1, 0, 0), (38, .getfield 20, 3, 3, 5), (41, .iload_n 2, 1, 0, 0), (42, .iaload, 1, 0, 0), (43, .aload_n 0, 1, 0, 0), (44, .getfield 11, 3, 3, 3), (47, .iload_n 2, 1, 0, 0), (48, .iaload, 1, 0, 0), (49, .invokestatic 98, 3, 1001, 2), (52, .iastore, 1, 0, 0), (53, .aload_n 0, 1, 0, 0), (54, .getfield 23, 3, 3, 6), (57, .iload_n 2, 1, 0, 0), (58, .aload_n 0, 1, 0, 0), (59, .getfield 23, 3, 3, 6), (62, .iload_n 2, 1, 0, 0), (63, .iaload, 1, 0, 0), (64, .aload_n 0, 1, 0, 0), (65, .getfield 17, 3, 3, 4), (68, .iload_n 2, 1, 0, 0), (69, .iaload, 1, 0, 0), (70, .invokestatic 104, 3, 1000, 2), (73, .iastore, 1, 0, 0), (74, .aload_n 0, 1, 0, 0), (75, .getfield 50, 3, 3, 2), (78, .getfield 80, 3, 9, 1), (81, .iload_n 2, 1, 0, 0), (82, .iaload, 1, 0, 0), (83, .ifCond .eq 33, 3, 116, 0), (86, .aload_n 0, 1, 0, 0), (87, .aload_n 0, 1, 0, 0), (88, .getfield 50, 3, 3, 2), (91, .getfield 91, 3, 9, 3), (94, .iload_n 2, 1, 0, 0), (95, .iaload, 1, 0, 0), (96, .aload_n 0, 1, 0, 0), (97, .getfield 20, 3, 3, 5), (100, .iload_n 2, 1, 0, 0), (101, .iaload, 1, 0, 0), (102, .aload_n 0, 1, 0, 0), (103, .getfield 23, 3, 3, 6), (106, .iload_n 2, 1, 0, 0), (107, .iaload, 1, 0, 0), (108, .invokevirtual 110, 3, 39, 3), (111, .aload_n 0, 1, 0, 0), (112, .iload_n 2, 1, 0, 0), (113, .invokevirtual 114, 3, 38, 1), (116, .iinc 2 (-1), 3, 0, 0), (119, .goto (-103), 3, 16, 0), (122, .return_, 1, 0, 0)]
def mX3_goDown : ab_M := (yX3_goDown, 3, cX3_goDown, 3, none, kX3_goDown)
def kX3_goDownLeft : List ab_I := [(0, .aload_n 0, 1, 0, 0), (1, .getfield 50, 3, 3, 2), (4, .getfield 77, 3, 9, 2), (7, .iload_n 1, 1, 0, 0), (8, .iaload, 1, 0, 0), (9, .istore_n 2, 1, 0, 0), (10, .aload_n 0, 1, 0, 0), (11, .getfield 50, 3, 3, 2), (14, .getfield 91, 3, 9, 3), (17, .iload_n 1, 1, 0, 0), (18, .iaload, 1, 0, 0), (19, .istore_n 3, 1, 0, 0), (20, .aload_n 0, 1, 0, 0), (21, .getfield 50, 3, 3, 2), (24, .getfield 80, 3, 9, 1), (27, .iload_n 1, 1, 0, 0), (28, .iaload, 1, 0, 0), (29, .iconst 2, 1, 0, 0), (30, .if_icmp .ne 23, 3, 53, 0), (33, .aload_n 0, 1, 0, 0), (34, .iload_n 2, 1, 0, 0), (35, .aload_n 0, 1, 0, 0), (36, .getfield 20, 3, 3, 5), (39, .iload_n 1, 1, 0, 0), (40, .iaload, 1, 0, 0), (41, .aload_n 0, 1, 0, 0), (42, .getfield 23, 3, 3, 6), (45, .iload_n 1, 1, 0, 0), (46, .iaload, 1, 0, 0), (47, .invokevirtual 110, 3, 39, 3), (50, .goto 70, 3, 120, 0), (53, .aload_n 0, 1, 0, 0), (54, .getfield 50, 3, 3, 2), (57, .getfield 94, 3, 9, 4), (60, .iload_n 3, 1, 0, 0), (61, .baload, 1, 0, 0), (62, .ifCond .eq 41, 3, 103, 0), (65, .aload_n 0, 1, 0, 0), (66, .iload_n 2, 1, 0, 0), (67, .aload_n 0, 1, 0, 0), (68, .getfield 20, 3, 3, 5), (71, .iload_n 1, 1, 0, 0), (72, .iaload, 1, 0, 0), (73, .aload_n 0, 1, 0, 0), (74, .getfield 11, 3, 3, 3), (77, .iload_n 3, 1, 0, 0), (78, .iaload, 1, 0, 0), (79, .invokestatic 98, 3, 1001, 2), (82, .aload_n 0, 1, 0, 0), (83, .getfield 23, 3, 3, 6), (86, .iload_n 1, 1, 0, 0), (87, .iaload, 1, 0, 0), (88, .aload_n 0, 1, 0, 0), (89, .getfield 17, 3, 3, 4), (92, .iload_n 3, 1, 0, 0), (93, .iaload, 1, 0, 0), (94, .invokestatic 104, 3, 1000, 2), (97, .invokevirtual 110, 3, 39, 3), (100, .goto 20, 3, 120, 0), (103, .aload_n 0, 1, 0, 0), (104, .iload_n 2, 1, 0, 0), (105, .aload_n 0, 1, 0, 0), (106, .getfield 11, 3, 3, 3), (109, .iload_n 3, 1, 0, 0), (110, .iaload, 1, 0, 0), (111, .aload_n 0, 1, 0, 0), (112, .getfield 17, 3, 3, 4), (115, .iload_n 3, 1, 0, 0), (116, .iaload, 1, 0, 0), (117, .invokevirtual 110, 3, 39, 3), (120, .return_, 1, 0, 0)]
def mX3_goDownLeft : ab_M := (yX3_goDownLeft, 3, cX3_goDownLeft, 4, none, kX3_goDownLeft)
def kX3_goDownTo : List ab_I := [(0, .aload_n 0, 1, 0, 0), (1, .getfield 20, 3, 3, 5), (4, .iload_n 1, 1, 0, 0), (5, .iload_n 2, 1, 0, 0), (6, .iastore, 1, 0, 0), (7, .aload_n 0, 1, 0, 0), (8, .getfield 23, 3, 3, 6), (11, .iload_n 1, 1, 0, 0), (12, .iload_n 3, 1, 0, 0), (13, .iastore, 1, 0, 0), (14, .return_, 1, 0, 0)]
def mX3_goDownTo : ab_M := (yX3_goDownTo, 3, cX3_goDownTo, 4, none, kX3_goDownTo)
def kX4_find : List ab_I := [(0, .aload_n 0, 1, 0, 0), (1, .iconst 0, 1, 0, 0), (2, .putfield 26, 3, 4, 4), (5, .iconst 0, 1, 0, 0), (6, .istore_n 2, 1, 0, 0), (7, .iload_n 2, 1, 0, 0), (8, .aload_n 0, 1, 0, 0), (9, .getfield 18, 3, 4, 0), (12, .getfield 30, 3, 2, 8), (15, .if_icmp .ge 69, 3, 84, 0), (18, .aload_n 0, 1, 0, 0), (19, .getfield 22, 3, 4, 1), (22, .getfield 35, 3, 1, 5), (25, .aload_n 0, 1, 0, 0), (26, .getfield 18, 3, 4, 0), (29, .iload_n 2, 1, 0, 0), (30, .invokevirtual 40, 3, 24, 1), (33, .if_icmp .gt 45, 3, 78, 0), (36, .aload_n 0, 1, 0, 0), (37, .iload_n 2, 1, 0, 0), (38, .iload_n 1, 1, 0, 0), (39, .invokevirtual 44, 3, 41, 2), (42, .istore_n 3, 1, 0, 0), (43, .iload_n 3, 1, 0, 0), (44, .iload_n 1, 1, 0, 0), (45, .if_icmp .gt 33, 3, 78, 0), (48, .aload_n 0, 1, 0, 0), (49, .getfield 9, 3, 4, 2), (52, .aload_n 0, 1, 0, 0), (53, .getfield 26, 3, 4, 4), (56, .iload_n 2, 1, 0, 0), (57, .iastore, 1, 0, 0), (58, .aload_n 0, 1, 0, 0), (59, .getfield 15, 3, 4, 3), (62, .aload_n 0, 1, 0, 0), (63, .getfield 26, 3, 4, 4), (66, .iload_n 3, 1, 0, 0), (67, .iastore, 1, 0, 0), (68, .aload_n 0, 1, 0, 0), (69, .dup, 1, 0, 0), (70, .getfield 26, 3, 4, 4), (73, .iconst 1, 1, 0, 0), (74, .iadd, 1, 0, 0), (75, .putfield 26, 3, 4, 4), (78, .iinc 2 1, 3, 0, 0), (81, .goto (-74), 3, 7, 0), (84, .aload_n 0, 1, 0, 0), (85, .getfield 26, 3, 4, 4), (88, .ireturn, 1, 0, 0)]
def mX4_find : ab_M := (yX4_find, 4, cX4_find, 4, (some .int), kX4_find)
def kX4_differAt : List ab_I := [(0, .iconst 0, 1, 0, 0), (1, .istore_n 3, 1, 0, 0), (2, .iconst 0, 1, 0, 0), (3, .istore 4, 2, 0, 0), (5, .iload 4, 2, 0, 0), (7, .aload_n 0, 1, 0, 0), (8, .getfield 22, 3, 4, 1), (11, .getfield 35, 3, 1, 5), (14, .if_icmp .ge 50, 3, 64, 0), (17, .iload_n 3, 1, 0, 0), (18, .iload_n 2, 1, 0, 0), (19, .if_icmp .gt 45, 3, 64, 0), (22, .aload_n 0, 1, 0, 0), (23, .getfield 18, 3, 4, 0), (26, .getfield 48, 3, 2, 0), (29, .iload_n 1, 1, 0, 0), (30, .iload 4, 2, 0, 0), (32, .iadd, 1, 0, 0), (33, .iaload, 1, 0, 0), (34, .aload_n 0, 1, 0, 0), (35, .getfield 18, 3, 4, 0), (38, .getfield 48, 3, 2, 0), (41, .aload_n 0, 1, 0, 0), (42, .getfield 22, 3, 4, 1), (45, .getfield 51, 3, 1, 4), (48, .iload 4, 2, 0, 0), (50, .iadd, 1, 0, 0), (51, .iaload, 1, 0, 0), (52, .if_icmp .eq 6, 3, 58, 0), (55, .iinc 3 1, 3, 0, 0), (58, .iinc 4 1, 3, 0, 0), (61, .goto (-56), 3, 5, 0), (64, .iload_n 3, 1, 0, 0), (65, .ireturn, 1, 0, 0)]
def mX4_differAt : ab_M := (yX4_differAt, 4, cX4_differAt, 5, (some .int), kX4_differAt)
def kX5_learn : List ab_I := [(0, .aload_n 0, 1, 0, 0), (1, .invokevirtual 34, 3, 43, 0), (4, .aload_n 0, 1, 0, 0), (5, .invokevirtual 37, 3, 45, 0), (8, .aload_n 0, 1, 0, 0), (9, .invokevirtual 40, 3, 46, 0), (12, .return_, 1, 0, 0)]
def mX5_learn : ab_M := (yX5_learn, 5, cX5_learn, 1, none, kX5_learn)
def kX5_learnEarlier : List ab_I := [(0, .iconst 0, 1, 0, 0), (1, .istore_n 1, 1, 0, 0), (2, .iload_n 1, 1, 0, 0), (3, .aload_n 0, 1, 0, 0), (4, .getfield 30, 3, 5, 0), (7, .getfield 43, 3, 2, 8), (10, .if_icmp .ge 42, 3, 52, 0), (13, .aload_n 0, 1, 0, 0), (14, .getfield 21, 3, 5, 4), (17, .iload_n 1, 1, 0, 0), (18, .iload_n 1, 1, 0, 0), (19, .iconst 1, 1, 0, 0), (20, .isub, 1, 0, 0), (21, .iastore, 1, 0, 0), (22, .aload_n 0, 1, 0, 0), (23, .getfield 24, 3, 5, 5), (26, .iload_n 1, 1, 0, 0), (27, .iload_n 1, 1, 0, 0), (28, .iconst 1, 1, 0, 0), (29, .iadd, 1, 0, 0), (30, .iastore, 1, 0, 0), (31, .aload_n 0, 1, 0, 0), (32, .getfield 27, 3, 5, 6), (35, .iload_n 1, 1, 0, 0), (36, .aload_n 0, 1, 0, 0), (37, .getfield 30, 3, 5, 0), (40, .getfield 49, 3, 2, 5), (43, .iload_n 1, 1, 0, 0), (44, .iaload, 1, 0, 0), (45, .iastore, 1, 0, 0), (46, .iinc 1 1, 3, 0, 0), (49, .goto (-47), 3, 2, 0), (52, .aload_n 0, 1, 0, 0), (53, .getfield 30, 3, 5, 0), (56, .getfield 43, 3, 2, 8), (59, .iconst 1, 1, 0, 0), (60, .isub, 1, 0, 0), (61, .istore_n 1, 1, 0, 0), (62, .iload_n 1, 1, 0, 0), (63, .ifCond .lt 134, 3, 197, 0), (66, .aload_n 0, 1, 0, 0), (67, .getfield 30, 3, 5, 0), (70, .getfield 52, 3, 2, 4), (73, .iload_n 1, 1, 0, 0), (74, .iaload, 1, 0, 0), (75, .istore_n 2, 1, 0, 0), (76, .aload_n 0, 1, 0, 0), (77, .getfield 9, 3, 5, 1), (80, .iload_n 1, 1, 0, 0), (81, .aload_n 0, 1, 0, 0), (82, .getfield 27, 3, 5, 6), (85, .iload_n 2, 1, 0, 0), (86, .iaload, 1, 0, 0), (87, .iastore, 1, 0, 0), (88, .aload_n 0, 1, 0, 0), (89, .getfield 21, 3, 5, 4), (92, .iload_n 2, 1, 0, 0), (93, .iaload, 1, 0, 0), (94, .ifCond .lt 20, 3, 114, 0), (97, .aload_n 0, 1, 0, 0), (98, .getfield 24, 3, 5, 5), (101, .aload_n 0, 1, 0, 0), (102, .getfield 21, 3, 5, 4), (105, .iload_n 2, 1, 0, 0), (106, .iaload, 1, 0, 0), (107, .aload_n 0, 1, 0, 0), (108, .getfield 24, 3, 5, 5), (111, .iload_n 2, 1, 0, 0), (112, .iaload, 1, 0, 0), (113, .iastore, 1, 0, 0), (114, .aload_n 0, 1, 0, 0), (115, .getfield 24, 3, 5, 5), (118, .iload_n 2, 1, 0, 0), (119, .iaload, 1, 0, 0), (120, .aload_n 0, 1, 0, 0), (121, .getfield 30, 3, 5, 0), (124, .getfield 43, 3, 2, 8), (127, .if_icmp .ge 64, 3, 191, 0), (130, .aload_n 0, 1, 0, 0), (131, .getfield 24, 3, 5, 5), (134, .iload_n 2, 1, 0, 0), (135, .iaload, 1, 0, 0), (136, .istore_n 3, 1, 0, 0), (137, .aload_n 0, 1, 0, 0), (138, .getfield 9, 3, 5, 1), (141, .iload_n 1, 1, 0, 0), (142, .aload_n 0, 1, 0, 0), (143, .getfield 27, 3, 5, 6), (146, .iload_n 2, 1, 0, 0), (147, .iaload, 1, 0, 0), (148, .aload_n 0, 1, 0, 0), (149, .getfield 27, 3, 5, 6), (152, .iload_n 3, 1, 0, 0), (153, .iaload, 1, 0, 0), (154, .invokestatic 55, 3, 1000, 2), (157, .iastore, 1, 0, 0), (158, .aload_n 0, 1, 0, 0), (159, .getfield 27, 3, 5, 6), (162, .iload_n 3, 1, 0, 0), (163, .aload_n 0, 1, 0, 0), (164, .getfield 27, 3, 5, 6), (167, .iload_n 2, 1, 0, 0), (168, .iaload, 1, 0, 0), (169, .aload_n 0, 1, 0, 0), (170, .getfield 27, 3, 5, 6), (173, .iload_n 3, 1, 0, 0), (174, .iaload, 1, 0, 0), (175, .invokestatic 61, 3, 1001, 2), (178, .iastore, 1, 0, 0), (179, .aload_n 0, 1, 0, 0), (180, .getfield 21, 3, 5, 4), (183, .iload_n 3, 1, 0, 0), (184, .aload_n 0, 1, 0, 0), (185, .getfield 21, 3, 5, 4), (188, .iload_n 2, 1, 0, 0), (189, .iaload, 1, 0, 0), (190, .iastore, 1, 0, 0), (191, .iinc 1 (-1), 3, 0, 0), (194, .goto (-132), 3, 62, 0), (197, .return_, 1, 0, 0)]
def mX5_learnEarlier : ab_M := (yX5_learnEarlier, 5, cX5_learnEarlier, 4, none, kX5_learnEarlier)
def kX5_mirrored : List ab_I := [(0, .iload_n 1, 1, 0, 0), (1, .ifCond .lt 39, 3, 40, 0), (4, .iload_n 2, 1, 0, 0), (5, .aload_n 0, 1, 0, 0), (6, .getfield 30, 3, 5, 0), (9, .getfield 43, 3, 2, 8), (12, .if_icmp .ge 28, 3, 40, 0), (15, .aload_n 0, 1, 0, 0), (16, .getfield 30, 3, 5, 0), (19, .getfield 64, 3, 2, 0), (22, .iload_n 1, 1, 0, 0), (23, .iaload, 1, 0, 0), (24, .aload_n 0, 1, 0, 0), (25, .getfield 30, 3, 5, 0), (28, .getfield 64, 3, 2, 0), (31, .iload_n 2, 1, 0, 0), (32, .iaload, 1, 0, 0), (33, .if_icmp .ne 7, 3, 40, 0), (36, .iconst 1, 1, 0, 0), (37, .goto 4, 3, 41, 0), (40, .iconst 0, 1, 0, 0), (41, .ireturn, 1, 0, 0)]
def mX5_mirrored : ab_M := (yX5_mirrored, 5, cX5_mirrored, 3, (some .boolean), kX5_mirrored)
def kX5_learnReaches : List ab_I := [(0, .iconst 0, 1, 0, 0), (1, .istore_n 1, 1, 0, 0), (2, .iconst (-1), 1, 0, 0), (3, .istore_n 2, 1, 0, 0), (4, .iconst 0, 1, 0, 0), (5, .istore_n 3, 1, 0, 0), (6, .iload_n 3, 1, 0, 0), (7, .aload_n 0, 1, 0, 0), (8, .getfield 30, 3, 5, 0), (11, .getfield 43, 3, 2, 8), (14, .if_icmp .ge 91, 3, 105, 0), (17, .iload_n 3, 1, 0, 0), (18, .iload_n 2, 1, 0, 0), (19, .if_icmp .le 7, 3, 26, 0), (22, .iconst 1, 1, 0, 0), (23, .goto 21, 3, 44, 0), (26, .aload_n 0, 1, 0, 0), (27, .getfield 15, 3, 5, 2), (30, .iload_n 1, 1, 0, 0), (31, .iload_n 2, 1, 0, 0), (32, .iadd, 1, 0, 0), (33, .iload_n 3, 1, 0, 0), (34, .isub, 1, 0, 0), (35, .iaload, 1, 0, 0), (36, .iload_n 2, 1, 0, 0), (37, .iload_n 3, 1, 0, 0), (38, .isub, 1, 0, 0), (39, .iconst 1, 1, 0, 0), (40, .iadd, 1, 0, 0), (41, .invokestatic 61, 3, 1001, 2), (44, .istore 4, 2, 0, 0), (46, .aload_n 0, 1, 0, 0), (47, .iload_n 3, 1, 0, 0), (48, .iload 4, 2, 0, 0), (50, .isub, 1, 0, 0), (51, .iload_n 3, 1, 0, 0), (52, .iload 4, 2, 0, 0), (54, .iadd, 1, 0, 0), (55, .invokevirtual 67, 3, 44, 2), (58, .ifCond .eq 9, 3, 67, 0), (61, .iinc 4 1, 3, 0, 0), (64, .goto (-18), 3, 46, 0), (67, .aload_n 0, 1, 0, 0), (68, .getfield 15, 3, 5, 2), (71, .iload_n 3, 1, 0, 0), (72, .iload 4, 2, 0, 0), (74, .iastore, 1, 0, 0), (75, .iload_n 3, 1, 0, 0), (76, .iload 4, 2, 0, 0), (78, .iadd, 1, 0, 0), (79, .iconst 1, 1, 0, 0), (80, .isub, 1, 0, 0), (81, .iload_n 2, 1, 0, 0), (82, .if_icmp .le 17, 3, 99, 0), (85, .iload_n 3, 1, 0, 0), (86, .iload 4, 2, 0, 0), (88, .isub, 1, 0, 0), (89, .iconst 1, 1, 0, 0), (90, .iadd, 1, 0, 0), (91, .istore_n 1, 1, 0, 0), (92, .iload_n 3, 1, 0, 0), (93, .iload 4, 2, 0, 0), (95, .iadd, 1, 0, 0), (96, .iconst 1, 1, 0, 0), (97, .isub, 1, 0, 0), (98, .istore_n 2, 1, 0, 0), (99, .iinc 3 1, 3, 0, 0), (102, .goto (-96), 3, 6, 0), (105, .return_, 1, 0, 0)]
def mX5_learnReaches : ab_M := (yX5_learnReaches, 5, cX5_learnReaches, 5, none, kX5_learnReaches)
def kX5_learnGapReaches : List ab_I := [(0, .iconst 0, 1, 0, 0), (1, .istore_n 1, 1, 0, 0), (2, .iconst (-1), 1, 0, 0), (3, .istore_n 2, 1, 0, 0), (4, .iconst 0, 1, 0, 0), (5, .istore_n 3, 1, 0, 0), (6, .iload_n 3, 1, 0, 0), (7, .aload_n 0, 1, 0, 0), (8, .getfield 30, 3, 5, 0), (11, .getfield 43, 3, 2, 8), (14, .if_icmp .ge 93, 3, 107, 0), (17, .iload_n 3, 1, 0, 0), (18, .iload_n 2, 1, 0, 0), (19, .if_icmp .le 7, 3, 26, 0), (22, .iconst 0, 1, 0, 0), (23, .goto 23, 3, 46, 0), (26, .aload_n 0, 1, 0, 0), (27, .getfield 18, 3, 5, 3), (30, .iload_n 1, 1, 0, 0), (31, .iload_n 2, 1, 0, 0), (32, .iadd, 1, 0, 0), (33, .iload_n 3, 1, 0, 0), (34, .isub, 1, 0, 0), (35, .iconst 1, 1, 0, 0), (36, .iadd, 1, 0, 0), (37, .iaload, 1, 0, 0), (38, .iload_n 2, 1, 0, 0), (39, .iload_n 3, 1, 0, 0), (40, .isub, 1, 0, 0), (41, .iconst 1, 1, 0, 0), (42, .iadd, 1, 0, 0), (43, .invokestatic 61, 3, 1001, 2), (46, .istore 4, 2, 0, 0), (48, .aload_n 0, 1, 0, 0), (49, .iload_n 3, 1, 0, 0), (50, .iload 4, 2, 0, 0), (52, .isub, 1, 0, 0), (53, .iconst 1, 1, 0, 0), (54, .isub, 1, 0, 0), (55, .iload_n 3, 1, 0, 0), (56, .iload 4, 2, 0, 0), (58, .iadd, 1, 0, 0), (59, .invokevirtual 67, 3, 44, 2), (62, .ifCond .eq 9, 3, 71, 0), (65, .iinc 4 1, 3, 0, 0), (68, .goto (-20), 3, 48, 0), (71, .aload_n 0, 1, 0, 0), (72, .getfield 18, 3, 5, 3), (75, .iload_n 3, 1, 0, 0), (76, .iload 4, 2, 0, 0), (78, .iastore, 1, 0, 0), (79, .iload_n 3, 1, 0, 0), (80, .iload 4, 2, 0, 0), (82, .iadd, 1, 0, 0), (83, .iconst 1, 1, 0, 0), (84, .isub, 1, 0, 0), (85, .iload_n 2, 1, 0, 0), (86, .if_icmp .le 15, 3, 101, 0), (89, .iload_n 3, 1, 0, 0), (90, .iload 4, 2, 0, 0), (92, .isub, 1, 0, 0), (93, .istore_n 1, 1, 0, 0), (94, .iload_n 3, 1, 0, 0), (95, .iload 4, 2, 0, 0), (97, .iadd, 1, 0, 0), (98, .iconst 1, 1, 0, 0), (99, .isub, 1, 0, 0), (100, .istore_n 2, 1, 0, 0), (101, .iinc 3 1, 3, 0, 0), (104, .goto (-98), 3, 6, 0), (107, .return_, 1, 0, 0)]
def mX5_learnGapReaches : ab_M := (yX5_learnGapReaches, 5, cX5_learnGapReaches, 5, none, kX5_learnGapReaches)
def kX5_factors : List ab_I := [(0, .iconst 0, 1, 0, 0), (1, .istore_n 2, 1, 0, 0), (2, .aload_n 0, 1, 0, 0), (3, .getfield 30, 3, 5, 0), (6, .getfield 71, 3, 2, 2), (9, .iload_n 1, 1, 0, 0), (10, .iaload, 1, 0, 0), (11, .istore_n 3, 1, 0, 0), (12, .iload_n 3, 1, 0, 0), (13, .aload_n 0, 1, 0, 0), (14, .getfield 30, 3, 5, 0), (17, .iload_n 1, 1, 0, 0), (18, .invokevirtual 74, 3, 23, 1), (21, .if_icmp .ge 22, 3, 43, 0), (24, .iinc 2 1, 3, 0, 0), (27, .iload_n 3, 1, 0, 0), (28, .aload_n 0, 1, 0, 0), (29, .getfield 9, 3, 5, 1), (32, .iload_n 3, 1, 0, 0), (33, .iaload, 1, 0, 0), (34, .iconst 1, 1, 0, 0), (35, .invokestatic 55, 3, 1000, 2), (38, .iadd, 1, 0, 0), (39, .istore_n 3, 1, 0, 0), (40, .goto (-28), 3, 12, 0), (43, .iload_n 2, 1, 0, 0), (44, .ireturn, 1, 0, 0)]
def mX5_factors : ab_M := (yX5_factors, 5, cX5_factors, 4, (some .int), kX5_factors)
def kX5_tellFactor : List ab_I := [(0, .iload_n 2, 1, 0, 0), (1, .istore 4, 2, 0, 0), (3, .aload_n 0, 1, 0, 0), (4, .getfield 30, 3, 5, 0), (7, .getfield 71, 3, 2, 2), (10, .iload_n 1, 1, 0, 0), (11, .iaload, 1, 0, 0), (12, .istore 5, 2, 0, 0), (14, .iload 5, 2, 0, 0), (16, .aload_n 0, 1, 0, 0), (17, .getfield 30, 3, 5, 0), (20, .iload_n 1, 1, 0, 0), (21, .invokevirtual 74, 3, 23, 1), (24, .if_icmp .ge 30, 3, 54, 0), (27, .iload 4, 2, 0, 0), (29, .ifCond .le 25, 3, 54, 0), (32, .iload 5, 2, 0, 0), (34, .aload_n 0, 1, 0, 0), (35, .getfield 9, 3, 5, 1), (38, .iload 5, 2, 0, 0), (40, .iaload, 1, 0, 0), (41, .iconst 1, 1, 0, 0), (42, .invokestatic 55, 3, 1000, 2), (45, .iadd, 1, 0, 0), (46, .istore 5, 2, 0, 0), (48, .iinc 4 (-1), 3, 0, 0), (51, .goto (-37), 3, 14, 0), (54, .iload 5, 2, 0, 0), (56, .aload_n 0, 1, 0, 0), (57, .getfield 30, 3, 5, 0), (60, .iload_n 1, 1, 0, 0), (61, .invokevirtual 74, 3, 23, 1), (64, .if_icmp .lt 5, 3, 69, 0), (67, .iconst (-1), 1, 0, 0), (68, .ireturn, 1, 0, 0), (69, .iload_n 3, 1, 0, 0), (70, .ifCond .ne 6, 3, 76, 0), (73, .iload 5, 2, 0, 0), (75, .ireturn, 1, 0, 0), (76, .iload_n 3, 1, 0, 0), (77, .iconst 1, 1, 0, 0), (78, .if_icmp .ne 17, 3, 95, 0), (81, .aload_n 0, 1, 0, 0), (82, .getfield 9, 3, 5, 1), (85, .iload 5, 2, 0, 0), (87, .iaload, 1, 0, 0), (88, .iconst 1, 1, 0, 0), (89, .invokestatic 55, 3, 1000, 2), (92, .goto 9, 3, 101, 0), (95, .aload_n 0, 1, 0, 0), (96, .iload 5, 2, 0, 0), (98, .invokevirtual 78, 3, 49, 1), (101, .ireturn, 1, 0, 0)]
def mX5_tellFactor : ab_M := (yX5_tellFactor, 5, cX5_tellFactor, 6, (some .int), kX5_tellFactor)
def kX5_leastEarlier : List ab_I := [(0, .aload_n 0, 1, 0, 0), (1, .getfield 9, 3, 5, 1), (4, .iload_n 1, 1, 0, 0), (5, .iaload, 1, 0, 0), (6, .ifCond .ne 6, 3, 12, 0), (9, .bipush (-2), 2, 0, 0), (11, .ireturn, 1, 0, 0), (12, .iload_n 1, 1, 0, 0), (13, .istore_n 2, 1, 0, 0), (14, .aload_n 0, 1, 0, 0), (15, .getfield 30, 3, 5, 0), (18, .getfield 52, 3, 2, 4), (21, .iload_n 1, 1, 0, 0), (22, .iaload, 1, 0, 0), (23, .istore_n 3, 1, 0, 0), (24, .iload_n 3, 1, 0, 0), (25, .ifCond .le 43, 3, 68, 0), (28, .aload_n 0, 1, 0, 0), (29, .getfield 30, 3, 5, 0), (32, .getfield 49, 3, 2, 5), (35, .iload_n 3, 1, 0, 0), (36, .iaload, 1, 0, 0), (37, .aload_n 0, 1, 0, 0), (38, .getfield 9, 3, 5, 1), (41, .iload_n 1, 1, 0, 0), (42, .iaload, 1, 0, 0), (43, .if_icmp .lt 25, 3, 68, 0), (46, .iload_n 2, 1, 0, 0), (47, .aload_n 0, 1, 0, 0), (48, .getfield 30, 3, 5, 0), (51, .getfield 81, 3, 2, 3), (54, .iload_n 3, 1, 0, 0), (55, .iconst 1, 1, 0, 0), (56, .isub, 1, 0, 0), (57, .iaload, 1, 0, 0), (58, .invokestatic 61, 3, 1001, 2), (61, .istore_n 2, 1, 0, 0), (62, .iinc 3 (-1), 3, 0, 0), (65, .goto (-41), 3, 24, 0), (68, .aload_n 0, 1, 0, 0), (69, .getfield 30, 3, 5, 0), (72, .getfield 52, 3, 2, 4), (75, .iload_n 1, 1, 0, 0), (76, .iaload, 1, 0, 0), (77, .iconst 1, 1, 0, 0), (78, .iadd, 1, 0, 0), (79, .istore_n 3, 1, 0, 0), (80, .iload_n 3, 1, 0, 0), (81, .aload_n 0, 1, 0, 0), (82, .getfield 30, 3, 5, 0), (85, .getfield 43, 3, 2, 8), (88, .if_icmp .ge 41, 3, 129, 0), (91, .aload_n 0, 1, 0, 0), (92, .getfield 30, 3, 5, 0), (95, .getfield 49, 3, 2, 5), (98, .iload_n 3, 1, 0, 0), (99, .iaload, 1, 0, 0), (100, .aload_n 0, 1, 0, 0), (101, .getfield 9, 3, 5, 1), (104, .iload_n 1, 1, 0, 0), (105, .iaload, 1, 0, 0), (106, .if_icmp .lt 23, 3, 129, 0), (109, .iload_n 2, 1, 0, 0), (110, .aload_n 0, 1, 0, 0), (111, .getfield 30, 3, 5, 0), (114, .getfield 81, 3, 2, 3), (117, .iload_n 3, 1, 0, 0), (118, .iaload, 1, 0, 0), (119, .invokestatic 61, 3, 1001, 2), (122, .istore_n 2, 1, 0, 0), (123, .iinc 3 1, 3, 0, 0), (126, .goto (-46), 3, 80, 0), (129, .iload_n 2, 1, 0, 0), (130, .ireturn, 1, 0, 0)]
def mX5_leastEarlier : ab_M := (yX5_leastEarlier, 5, cX5_leastEarlier, 4, (some .int), kX5_leastEarlier)
def kX5_fallingWord : List ab_I := [(0, .aload_n 0, 1, 0, 0), (1, .getfield 30, 3, 5, 0), (4, .iload_n 1, 1, 0, 0), (5, .invokevirtual 74, 3, 23, 1), (8, .istore_n 3, 1, 0, 0), (9, .aload_n 0, 1, 0, 0), (10, .getfield 30, 3, 5, 0), (13, .getfield 71, 3, 2, 2), (16, .iload_n 1, 1, 0, 0), (17, .iaload, 1, 0, 0), (18, .istore 4, 2, 0, 0), (20, .iconst 0, 1, 0, 0), (21, .istore 5, 2, 0, 0), (23, .iload 4, 2, 0, 0), (25, .iload_n 3, 1, 0, 0), (26, .if_icmp .ge 59, 3, 85, 0), (29, .aload_n 0, 1, 0, 0), (30, .iload 4, 2, 0, 0), (32, .iload_n 3, 1, 0, 0), (33, .invokevirtual 84, 3, 51, 2), (36, .iconst 1, 1, 0, 0), (37, .invokestatic 55, 3, 1000, 2), (40, .istore 6, 2, 0, 0), (42, .aload_n 0, 1, 0, 0), (43, .iload 4, 2, 0, 0), (45, .iload_n 3, 1, 0, 0), (46, .iload 6, 2, 0, 0), (48, .invokevirtual 87, 3, 52, 3), (51, .iload 6, 2, 0, 0), (53, .isub, 1, 0, 0), (54, .istore 7, 2, 0, 0), (56, .iload 5, 2, 0, 0), (58, .iload_n 2, 1, 0, 0), (59, .if_icmp .ne 6, 3, 65, 0), (62, .iload 4, 2, 0, 0), (64, .ireturn, 1, 0, 0), (65, .iinc 5 1, 3, 0, 0), (68, .iload 4, 2, 0, 0), (70, .iload 6, 2, 0, 0), (72, .iadd, 1, 0, 0), (73, .istore 4, 2, 0, 0), (75, .iload 4, 2, 0, 0), (77, .iload 7, 2, 0, 0), (79, .if_icmp .le (-23), 3, 56, 0), (82, .goto (-59), 3, 23, 0), (85, .iload_n 2, 1, 0, 0), (86, .iconst (-1), 1, 0, 0), (87, .if_icmp .ne 8, 3, 95, 0), (90, .iload 5, 2, 0, 0), (92, .goto 4, 3, 96, 0), (95, .iconst (-1), 1, 0, 0), (96, .ireturn, 1, 0, 0)]
def mX5_fallingWord : ab_M := (yX5_fallingWord, 5, cX5_fallingWord, 8, (some .int), kX5_fallingWord)
def kX5_periodOfWords : List ab_I := [(0, .iconst 1, 1, 0, 0), (1, .istore_n 3, 1, 0, 0), (2, .iload_n 1, 1, 0, 0), (3, .iconst 1, 1, 0, 0), (4, .iadd, 1, 0, 0), (5, .istore 4, 2, 0, 0), (7, .iload 4, 2, 0, 0), (9, .iload_n 2, 1, 0, 0), (10, .if_icmp .ge 66, 3, 76, 0), (13, .aload_n 0, 1, 0, 0), (14, .getfield 30, 3, 5, 0), (17, .getfield 64, 3, 2, 0), (20, .iload 4, 2, 0, 0), (22, .iaload, 1, 0, 0), (23, .aload_n 0, 1, 0, 0), (24, .getfield 30, 3, 5, 0), (27, .getfield 64, 3, 2, 0), (30, .iload 4, 2, 0, 0), (32, .iload_n 3, 1, 0, 0), (33, .isub, 1, 0, 0), (34, .iaload, 1, 0, 0), (35, .if_icmp .lt 41, 3, 76, 0), (38, .aload_n 0, 1, 0, 0), (39, .getfield 30, 3, 5, 0), (42, .getfield 64, 3, 2, 0), (45, .iload 4, 2, 0, 0), (47, .iaload, 1, 0, 0), (48, .aload_n 0, 1, 0, 0), (49, .getfield 30, 3, 5, 0), (52, .getfield 64, 3, 2, 0), (55, .iload 4, 2, 0, 0), (57, .iload_n 3, 1, 0, 0), (58, .isub, 1, 0, 0), (59, .iaload, 1, 0, 0), (60, .if_icmp .le 10, 3, 70, 0), (63, .iload 4, 2, 0, 0), (65, .iload_n 1, 1, 0, 0), (66, .isub, 1, 0, 0), (67, .iconst 1, 1, 0, 0), (68, .iadd, 1, 0, 0), (69, .istore_n 3, 1, 0, 0), (70, .iinc 4 1, 3, 0, 0), (73, .goto (-66), 3, 7, 0), (76, .iload_n 3, 1, 0, 0), (77, .ireturn, 1, 0, 0)]
def mX5_periodOfWords : ab_M := (yX5_periodOfWords, 5, cX5_periodOfWords, 5, (some .int), kX5_periodOfWords)
def kX5_endOfWords : List ab_I := [(0, .iload_n 1, 1, 0, 0), (1, .iload_n 3, 1, 0, 0), (2, .iadd, 1, 0, 0), (3, .istore 4, 2, 0, 0), (5, .iload 4, 2, 0, 0), (7, .iload_n 2, 1, 0, 0), (8, .if_icmp .ge 34, 3, 42, 0), (11, .aload_n 0, 1, 0, 0), (12, .getfield 30, 3, 5, 0), (15, .getfield 64, 3, 2, 0), (18, .iload 4, 2, 0, 0), (20, .iaload, 1, 0, 0), (21, .aload_n 0, 1, 0, 0), (22, .getfield 30, 3, 5, 0), (25, .getfield 64, 3, 2, 0), (28, .iload 4, 2, 0, 0), (30, .iload_n 3, 1, 0, 0), (31, .isub, 1, 0, 0), (32, .iaload, 1, 0, 0), (33, .if_icmp .ne 9, 3, 42, 0), (36, .iinc 4 1, 3, 0, 0), (39, .goto (-34), 3, 5, 0), (42, .iload 4, 2, 0, 0), (44, .ireturn, 1, 0, 0)]
def mX5_endOfWords : ab_M := (yX5_endOfWords, 5, cX5_endOfWords, 5, (some .int), kX5_endOfWords)
def kX5_leastTwice : List ab_I := [(0, .iconst 0, 1, 0, 0), (1, .istore_n 2, 1, 0, 0), (2, .aload_n 0, 1, 0, 0), (3, .getfield 30, 3, 5, 0), (6, .iload_n 1, 1, 0, 0), (7, .invokevirtual 91, 3, 24, 1), (10, .istore_n 3, 1, 0, 0), (11, .aload_n 0, 1, 0, 0), (12, .getfield 30, 3, 5, 0), (15, .getfield 52, 3, 2, 4), (18, .iload_n 1, 1, 0, 0), (19, .iaload, 1, 0, 0), (20, .istore 4, 2, 0, 0), (22, .iload 4, 2, 0, 0), (24, .ifCond .le 48, 3, 72, 0), (27, .iload_n 3, 1, 0, 0), (28, .ifCond .le 44, 3, 72, 0), (31, .iload_n 3, 1, 0, 0), (32, .aload_n 0, 1, 0, 0), (33, .getfield 30, 3, 5, 0), (36, .getfield 49, 3, 2, 5), (39, .iload 4, 2, 0, 0), (41, .iaload, 1, 0, 0), (42, .invokestatic 61, 3, 1001, 2), (45, .istore_n 3, 1, 0, 0), (46, .iload_n 2, 1, 0, 0), (47, .aload_n 0, 1, 0, 0), (48, .getfield 30, 3, 5, 0), (51, .getfield 81, 3, 2, 3), (54, .iload 4, 2, 0, 0), (56, .iconst 1, 1, 0, 0), (57, .isub, 1, 0, 0), (58, .iaload, 1, 0, 0), (59, .iload_n 1, 1, 0, 0), (60, .isub, 1, 0, 0), (61, .iload_n 3, 1, 0, 0), (62, .invokestatic 94, 3, 54, 3), (65, .istore_n 2, 1, 0, 0), (66, .iinc 4 (-1), 3, 0, 0), (69, .goto (-47), 3, 22, 0), (72, .aload_n 0, 1, 0, 0), (73, .getfield 30, 3, 5, 0), (76, .iload_n 1, 1, 0, 0), (77, .invokevirtual 91, 3, 24, 1), (80, .istore_n 3, 1, 0, 0), (81, .aload_n 0, 1, 0, 0), (82, .getfield 30, 3, 5, 0), (85, .getfield 52, 3, 2, 4), (88, .iload_n 1, 1, 0, 0), (89, .iaload, 1, 0, 0), (90, .iconst 1, 1, 0, 0), (91, .iadd, 1, 0, 0), (92, .istore 4, 2, 0, 0), (94, .iload 4, 2, 0, 0), (96, .aload_n 0, 1, 0, 0), (97, .getfield 30, 3, 5, 0), (100, .getfield 43, 3, 2, 8), (103, .if_icmp .ge 46, 3, 149, 0), (106, .iload_n 3, 1, 0, 0), (107, .ifCond .le 42, 3, 149, 0), (110, .iload_n 3, 1, 0, 0), (111, .aload_n 0, 1, 0, 0), (112, .getfield 30, 3, 5, 0), (115, .getfield 49, 3, 2, 5), (118, .iload 4, 2, 0, 0), (120, .iaload, 1, 0, 0), (121, .invokestatic 61, 3, 1001, 2), (124, .istore_n 3, 1, 0, 0), (125, .iload_n 2, 1, 0, 0), (126, .aload_n 0, 1, 0, 0), (127, .getfield 30, 3, 5, 0), (130, .getfield 81, 3, 2, 3), (133, .iload 4, 2, 0, 0), (135, .iaload, 1, 0, 0), (136, .iload_n 1, 1, 0, 0), (137, .isub, 1, 0, 0), (138, .iload_n 3, 1, 0, 0), (139, .invokestatic 94, 3, 54, 3), (142, .istore_n 2, 1, 0, 0), (143, .iinc 4 1, 3, 0, 0), (146, .goto (-52), 3, 94, 0), (149, .iload_n 2, 1, 0, 0), (150, .ireturn, 1, 0, 0)]
def mX5_leastTwice : ab_M := (yX5_leastTwice, 5, cX5_leastTwice, 5, (some .int), kX5_leastTwice)
def kX5_nearer : List ab_I := [(0, .iload_n 1, 1, 0, 0), (1, .ifCond .le 21, 3, 22, 0), (4, .iload_n 1, 1, 0, 0), (5, .iload_n 2, 1, 0, 0), (6, .if_icmp .gt 16, 3, 22, 0), (9, .iload_n 0, 1, 0, 0), (10, .ifCond .eq 8, 3, 18, 0), (13, .iload_n 1, 1, 0, 0), (14, .iload_n 0, 1, 0, 0), (15, .if_icmp .ge 7, 3, 22, 0), (18, .iload_n 1, 1, 0, 0), (19, .goto 4, 3, 23, 0), (22, .iload_n 0, 1, 0, 0), (23, .ireturn, 1, 0, 0)]
def mX5_nearer : ab_M := (yX5_nearer, 5, cX5_nearer, 3, (some .int), kX5_nearer)
def kX5_longestMirror : List ab_I := [(0, .iconst 0, 1, 0, 0), (1, .istore_n 2, 1, 0, 0), (2, .iload_n 1, 1, 0, 0), (3, .istore_n 3, 1, 0, 0), (4, .iload_n 3, 1, 0, 0), (5, .aload_n 0, 1, 0, 0), (6, .getfield 30, 3, 5, 0), (9, .aload_n 0, 1, 0, 0), (10, .getfield 30, 3, 5, 0), (13, .getfield 97, 3, 2, 1), (16, .iload_n 1, 1, 0, 0), (17, .iaload, 1, 0, 0), (18, .invokevirtual 74, 3, 23, 1), (21, .if_icmp .ge 55, 3, 76, 0), (24, .iload_n 3, 1, 0, 0), (25, .aload_n 0, 1, 0, 0), (26, .getfield 18, 3, 5, 3), (29, .iload_n 3, 1, 0, 0), (30, .iaload, 1, 0, 0), (31, .isub, 1, 0, 0), (32, .iload_n 1, 1, 0, 0), (33, .if_icmp .gt 13, 3, 46, 0), (36, .iload_n 2, 1, 0, 0), (37, .iconst 2, 1, 0, 0), (38, .iload_n 3, 1, 0, 0), (39, .iload_n 1, 1, 0, 0), (40, .isub, 1, 0, 0), (41, .imul, 1, 0, 0), (42, .invokestatic 55, 3, 1000, 2), (45, .istore_n 2, 1, 0, 0), (46, .iload_n 3, 1, 0, 0), (47, .aload_n 0, 1, 0, 0), (48, .getfield 15, 3, 5, 2), (51, .iload_n 3, 1, 0, 0), (52, .iaload, 1, 0, 0), (53, .isub, 1, 0, 0), (54, .iload_n 1, 1, 0, 0), (55, .if_icmp .ge 15, 3, 70, 0), (58, .iload_n 2, 1, 0, 0), (59, .iconst 2, 1, 0, 0), (60, .iload_n 3, 1, 0, 0), (61, .iload_n 1, 1, 0, 0), (62, .isub, 1, 0, 0), (63, .imul, 1, 0, 0), (64, .iconst 1, 1, 0, 0), (65, .iadd, 1, 0, 0), (66, .invokestatic 55, 3, 1000, 2), (69, .istore_n 2, 1, 0, 0), (70, .iinc 3 1, 3, 0, 0), (73, .goto (-69), 3, 4, 0), (76, .iload_n 2, 1, 0, 0), (77, .ireturn, 1, 0, 0)]
def mX5_longestMirror : ab_M := (yX5_longestMirror, 5, cX5_longestMirror, 4, (some .int), kX5_longestMirror)
def kX5_longestIn : List ab_I := [(0, .iconst 0, 1, 0, 0), (1, .istore_n 3, 1, 0, 0), (2, .aload_n 0, 1, 0, 0), (3, .getfield 30, 3, 5, 0), (6, .iload_n 1, 1, 0, 0), (7, .invokevirtual 91, 3, 24, 1), (10, .istore 4, 2, 0, 0), (12, .aload_n 0, 1, 0, 0), (13, .getfield 30, 3, 5, 0), (16, .getfield 52, 3, 2, 4), (19, .iload_n 1, 1, 0, 0), (20, .iaload, 1, 0, 0), (21, .istore 5, 2, 0, 0), (23, .iload 5, 2, 0, 0), (25, .ifCond .le 59, 3, 84, 0), (28, .iload 4, 2, 0, 0), (30, .iload_n 3, 1, 0, 0), (31, .if_icmp .le 53, 3, 84, 0), (34, .iload 4, 2, 0, 0), (36, .aload_n 0, 1, 0, 0), (37, .getfield 30, 3, 5, 0), (40, .getfield 49, 3, 2, 5), (43, .iload 5, 2, 0, 0), (45, .iaload, 1, 0, 0), (46, .invokestatic 61, 3, 1001, 2), (49, .istore 4, 2, 0, 0), (51, .aload_n 0, 1, 0, 0), (52, .getfield 30, 3, 5, 0), (55, .getfield 97, 3, 2, 1), (58, .aload_n 0, 1, 0, 0), (59, .getfield 30, 3, 5, 0), (62, .getfield 81, 3, 2, 3), (65, .iload 5, 2, 0, 0), (67, .iconst 1, 1, 0, 0), (68, .isub, 1, 0, 0), (69, .iaload, 1, 0, 0), (70, .iaload, 1, 0, 0), (71, .iload_n 2, 1, 0, 0), (72, .if_icmp .ne 6, 3, 78, 0), (75, .iload 4, 2, 0, 0), (77, .istore_n 3, 1, 0, 0), (78, .iinc 5 (-1), 3, 0, 0), (81, .goto (-58), 3, 23, 0), (84, .aload_n 0, 1, 0, 0), (85, .getfield 30, 3, 5, 0), (88, .iload_n 1, 1, 0, 0), (89, .invokevirtual 91, 3, 24, 1), (92, .istore 4, 2, 0, 0), (94, .aload_n 0, 1, 0, 0), (95, .getfield 30, 3, 5, 0), (98, .getfield 52, 3, 2, 4), (101, .iload_n 1, 1, 0, 0), (102, .iaload, 1, 0, 0), (103, .iconst 1, 1, 0, 0), (104, .iadd, 1, 0, 0), (105, .istore 5, 2, 0, 0), (107, .iload 5, 2, 0, 0), (109, .aload_n 0, 1, 0, 0), (110, .getfield 30, 3, 5, 0), (113, .getfield 43, 3, 2, 8), (116, .if_icmp .ge 61, 3, 177, 0), (119, .iload 4, 2, 0, 0), (121, .iload_n 3, 1, 0, 0), (122, .if_icmp .le 55, 3, 177, 0), (125, .iload 4, 2, 0, 0), (127, .aload_n 0, 1, 0, 0), (128, .getfield 30, 3, 5, 0), (131, .getfield 49, 3, 2, 5), (134, .iload 5, 2, 0, 0), (136, .iaload, 1, 0, 0), (137, .invokestatic 61, 3, 1001, 2), (140, .istore 4, 2, 0, 0), (142, .aload_n 0, 1, 0, 0), (143, .getfield 30, 3, 5, 0), (146, .getfield 97, 3, 2, 1), (149, .aload_n 0, 1, 0, 0), (150, .getfield 30, 3, 5, 0), (153, .getfield 81, 3, 2, 3), (156, .iload 5, 2, 0, 0), (158, .iaload, 1, 0, 0), (159, .iaload, 1, 0, 0), (160, .iload_n 2, 1, 0, 0), (161, .if_icmp .ne 10, 3, 171, 0), (164, .iload_n 3, 1, 0, 0), (165, .iload 4, 2, 0, 0), (167, .invokestatic 55, 3, 1000, 2), (170, .istore_n 3, 1, 0, 0), (171, .iinc 5 1, 3, 0, 0), (174, .goto (-67), 3, 107, 0), (177, .iload_n 3, 1, 0, 0), (178, .ireturn, 1, 0, 0)]
def mX5_longestIn : ab_M := (yX5_longestIn, 5, cX5_longestIn, 6, (some .int), kX5_longestIn)
def kX6_add : List ab_I := [(0, .aload_n 0, 1, 0, 0), (1, .getfield 35, 3, 6, 6), (4, .sipush 200, 3, 0, 0), (7, .if_icmp .lt 5, 3, 12, 0), (10, .iconst (-1), 1, 0, 0), (11, .ireturn, 1, 0, 0), (12, .aload_n 0, 1, 0, 0), (13, .getfield 9, 3, 6, 0), (16, .aload_n 0, 1, 0, 0), (17, .getfield 35, 3, 6, 6), (20, .iload_n 1, 1, 0, 0), (21, .iastore, 1, 0, 0), (22, .aload_n 0, 1, 0, 0), (23, .dup, 1, 0, 0), (24, .getfield 35, 3, 6, 6), (27, .iconst 1, 1, 0, 0), (28, .iadd, 1, 0, 0), (29, .putfield 35, 3, 6, 6), (32, .aload_n 0, 1, 0, 0), (33, .getfield 35, 3, 6, 6), (36, .ireturn, 1, 0, 0)]
def mX6_add : ab_M := (yX6_add, 6, cX6_add, 2, (some .int), kX6_add)
def kX6_read : List ab_I := [(0, .aload_n 0, 1, 0, 0), (1, .iconst 0, 1, 0, 0), (2, .putfield 38, 3, 6, 7), (5, .aload_n 0, 1, 0, 0), (6, .bipush (-2), 2, 0, 0), (8, .putfield 31, 3, 6, 8), (11, .aload_n 0, 1, 0, 0), (12, .iconst 0, 1, 0, 0), (13, .invokevirtual 41, 3, 62, 1), (16, .istore_n 1, 1, 0, 0), (17, .aload_n 0, 1, 0, 0), (18, .getfield 31, 3, 6, 8), (21, .bipush (-2), 2, 0, 0), (23, .if_icmp .ne 22, 3, 45, 0), (26, .aload_n 0, 1, 0, 0), (27, .getfield 38, 3, 6, 7), (30, .aload_n 0, 1, 0, 0), (31, .getfield 35, 3, 6, 6), (34, .if_icmp .ge 11, 3, 45, 0), (37, .aload_n 0, 1, 0, 0), (38, .aload_n 0, 1, 0, 0), (39, .getfield 38, 3, 6, 7), (42, .putfield 31, 3, 6, 8), (45, .iload_n 1, 1, 0, 0), (46, .ireturn, 1, 0, 0)]
def mX6_read : ab_M := (yX6_read, 6, cX6_read, 2, (some .int), kX6_read)
def kX6_comes : List ab_I := [(0, .aload_n 0, 1, 0, 0), (1, .getfield 38, 3, 6, 7), (4, .aload_n 0, 1, 0, 0), (5, .getfield 35, 3, 6, 6), (8, .if_icmp .ge 20, 3, 28, 0), (11, .aload_n 0, 1, 0, 0), (12, .getfield 9, 3, 6, 0), (15, .aload_n 0, 1, 0, 0), (16, .getfield 38, 3, 6, 7), (19, .iaload, 1, 0, 0), (20, .iload_n 1, 1, 0, 0), (21, .if_icmp .ne 7, 3, 28, 0), (24, .iconst 1, 1, 0, 0), (25, .goto 4, 3, 29, 0), (28, .iconst 0, 1, 0, 0), (29, .ireturn, 1, 0, 0)]
def mX6_comes : ab_M := (yX6_comes, 6, cX6_comes, 2, (some .boolean), kX6_comes)
def kX6_goesOn : List ab_I := [(0, .aload_n 0, 1, 0, 0), (1, .getfield 31, 3, 6, 8), (4, .bipush (-2), 2, 0, 0), (6, .if_icmp .ne 18, 3, 24, 0), (9, .aload_n 0, 1, 0, 0), (10, .getfield 38, 3, 6, 7), (13, .aload_n 0, 1, 0, 0), (14, .getfield 35, 3, 6, 6), (17, .if_icmp .ge 7, 3, 24, 0), (20, .iconst 1, 1, 0, 0), (21, .goto 4, 3, 25, 0), (24, .iconst 0, 1, 0, 0), (25, .ireturn, 1, 0, 0)]
def mX6_goesOn : ab_M := (yX6_goesOn, 6, cX6_goesOn, 1, (some .boolean), kX6_goesOn)
def kX6_bounded : List ab_I := [(0, .iload_n 0, 1, 0, 0), (1, .bipush 121, 2, 0, 0), (3, .invokestatic 45, 3, 1001, 2), (6, .ireturn, 1, 0, 0)]
def mX6_bounded : ab_M := (yX6_bounded, 6, cX6_bounded, 1, (some .int), kX6_bounded)
def kX6_readSum : List ab_I := [(0, .iconst 0, 1, 0, 0), (1, .istore_n 2, 1, 0, 0), (2, .iconst 0, 1, 0, 0), (3, .istore_n 3, 1, 0, 0), (4, .iload_n 3, 1, 0, 0), (5, .sipush 200, 3, 0, 0), (8, .if_icmp .ge 68, 3, 76, 0), (11, .aload_n 0, 1, 0, 0), (12, .invokevirtual 51, 3, 60, 0), (15, .ifCond .eq 61, 3, 76, 0), (18, .aload_n 0, 1, 0, 0), (19, .getfield 9, 3, 6, 0), (22, .aload_n 0, 1, 0, 0), (23, .getfield 38, 3, 6, 7), (26, .iaload, 1, 0, 0), (27, .bipush 41, 2, 0, 0), (29, .if_icmp .eq 47, 3, 76, 0), (32, .aload_n 0, 1, 0, 0), (33, .getfield 9, 3, 6, 0), (36, .aload_n 0, 1, 0, 0), (37, .getfield 38, 3, 6, 7), (40, .iaload, 1, 0, 0), (41, .bipush 124, 2, 0, 0), (43, .if_icmp .ne 16, 3, 59, 0), (46, .aload_n 0, 1, 0, 0), (47, .dup, 1, 0, 0), (48, .getfield 38, 3, 6, 7), (51, .iconst 1, 1, 0, 0), (52, .iadd, 1, 0, 0), (53, .putfield 38, 3, 6, 7), (56, .goto 14, 3, 70, 0), (59, .iload_n 2, 1, 0, 0), (60, .aload_n 0, 1, 0, 0), (61, .iload_n 1, 1, 0, 0), (62, .invokevirtual 55, 3, 63, 1), (65, .iadd, 1, 0, 0), (66, .invokestatic 58, 3, 61, 1), (69, .istore_n 2, 1, 0, 0), (70, .iinc 3 1, 3, 0, 0), (73, .goto (-69), 3, 4, 0), (76, .iload_n 2, 1, 0, 0), (77, .ireturn, 1, 0, 0)]
def mX6_readSum : ab_M := (yX6_readSum, 6, cX6_readSum, 4, (some .int), kX6_readSum)
def kX6_readItem : List ab_I := [(0, .aload_n 0, 1, 0, 0), (1, .getfield 38, 3, 6, 7), (4, .istore_n 2, 1, 0, 0), (5, .aload_n 0, 1, 0, 0), (6, .iload_n 1, 1, 0, 0), (7, .invokevirtual 61, 3, 65, 1), (10, .istore_n 3, 1, 0, 0), (11, .aload_n 0, 1, 0, 0), (12, .getfield 21, 3, 6, 3), (15, .iload_n 2, 1, 0, 0), (16, .iconst 1, 1, 0, 0), (17, .iastore, 1, 0, 0), (18, .aload_n 0, 1, 0, 0), (19, .getfield 24, 3, 6, 4), (22, .iload_n 2, 1, 0, 0), (23, .iconst 1, 1, 0, 0), (24, .iastore, 1, 0, 0), (25, .aload_n 0, 1, 0, 0), (26, .invokevirtual 51, 3, 60, 0), (29, .ifCond .eq 8, 3, 37, 0), (32, .aload_n 0, 1, 0, 0), (33, .iload_n 2, 1, 0, 0), (34, .invokevirtual 64, 3, 75, 1), (37, .aload_n 0, 1, 0, 0), (38, .getfield 15, 3, 6, 1), (41, .iload_n 2, 1, 0, 0), (42, .iload_n 3, 1, 0, 0), (43, .aload_n 0, 1, 0, 0), (44, .iload_n 2, 1, 0, 0), (45, .invokevirtual 68, 3, 64, 1), (48, .imul, 1, 0, 0), (49, .invokestatic 58, 3, 61, 1), (52, .iastore, 1, 0, 0), (53, .aload_n 0, 1, 0, 0), (54, .getfield 18, 3, 6, 2), (57, .iload_n 2, 1, 0, 0), (58, .aload_n 0, 1, 0, 0), (59, .getfield 38, 3, 6, 7), (62, .iastore, 1, 0, 0), (63, .aload_n 0, 1, 0, 0), (64, .getfield 15, 3, 6, 1), (67, .iload_n 2, 1, 0, 0), (68, .iaload, 1, 0, 0), (69, .ireturn, 1, 0, 0)]
def mX6_readItem : ab_M := (yX6_readItem, 6, cX6_readItem, 4, (some .int), kX6_readItem)
def kX6_copies : List ab_I := [(0, .aload_n 0, 1, 0, 0), (1, .getfield 24, 3, 6, 4), (4, .iload_n 1, 1, 0, 0), (5, .iaload, 1, 0, 0), (6, .iconst (-1), 1, 0, 0), (7, .if_icmp .ne 16, 3, 23, 0), (10, .aload_n 0, 1, 0, 0), (11, .getfield 21, 3, 6, 3), (14, .iload_n 1, 1, 0, 0), (15, .iaload, 1, 0, 0), (16, .iconst 1, 1, 0, 0), (17, .invokestatic 71, 3, 1000, 2), (20, .goto 9, 3, 29, 0), (23, .aload_n 0, 1, 0, 0), (24, .getfield 24, 3, 6, 4), (27, .iload_n 1, 1, 0, 0), (28, .iaload, 1, 0, 0), (29, .ireturn, 1, 0, 0)]
def mX6_copies : ab_M := (yX6_copies, 6, cX6_copies, 2, (some .int), kX6_copies)
def kX6_readAtom : List ab_I := [(0, .aload_n 0, 1, 0, 0), (1, .getfield 38, 3, 6, 7), (4, .istore_n 2, 1, 0, 0), (5, .aload_n 0, 1, 0, 0), (6, .getfield 27, 3, 6, 5), (9, .iload_n 2, 1, 0, 0), (10, .iconst 4, 1, 0, 0), (11, .imul, 1, 0, 0), (12, .iload_n 2, 1, 0, 0), (13, .iconst 4, 1, 0, 0), (14, .imul, 1, 0, 0), (15, .iconst 4, 1, 0, 0), (16, .iadd, 1, 0, 0), (17, .lconst 0, 1, 0, 0), (18, .invokestatic 74, 3, 250, 4), (21, .aload_n 0, 1, 0, 0), (22, .getfield 9, 3, 6, 0), (25, .iload_n 2, 1, 0, 0), (26, .iaload, 1, 0, 0), (27, .lookupswitch 122 #[(40, 81), (42, 115), (43, 115), (46, 94), (63, 115), (91, 87), (93, 115), (123, 115), (125, 115)], 81, 0, 0), (108, .aload_n 0, 1, 0, 0), (109, .iload_n 1, 1, 0, 0), (110, .invokevirtual 80, 3, 67, 1), (113, .ireturn, 1, 0, 0), (114, .aload_n 0, 1, 0, 0), (115, .iload_n 2, 1, 0, 0), (116, .invokevirtual 83, 3, 70, 1), (119, .iconst 1, 1, 0, 0), (120, .ireturn, 1, 0, 0), (121, .aload_n 0, 1, 0, 0), (122, .iload_n 2, 1, 0, 0), (123, .iconst 0, 1, 0, 0), (124, .sipush 255, 3, 0, 0), (127, .invokevirtual 86, 3, 73, 3), (130, .aload_n 0, 1, 0, 0), (131, .dup, 1, 0, 0), (132, .getfield 38, 3, 6, 7), (135, .iconst 1, 1, 0, 0), (136, .iadd, 1, 0, 0), (137, .putfield 38, 3, 6, 7), (140, .iconst 1, 1, 0, 0), (141, .ireturn, 1, 0, 0), (142, .aload_n 0, 1, 0, 0), (143, .iload_n 2, 1, 0, 0), (144, .putfield 31, 3, 6, 8), (147, .iconst 0, 1, 0, 0), (148, .ireturn, 1, 0, 0), (149, .aload_n 0, 1, 0, 0), (150, .iload_n 2, 1, 0, 0), (151, .invokevirtual 90, 3, 66, 1), (154, .iconst 1, 1, 0, 0), (155, .ireturn, 1, 0, 0)]
def mX6_readAtom : ab_M := (yX6_readAtom, 6, cX6_readAtom, 3, (some .int), kX6_readAtom)
def kX6_readPlain : List ab_I := [(0, .aload_n 0, 1, 0, 0), (1, .invokevirtual 93, 3, 69, 0), (4, .istore_n 2, 1, 0, 0), (5, .aload_n 0, 1, 0, 0), (6, .iload_n 1, 1, 0, 0), (7, .iload_n 2, 1, 0, 0), (8, .iload_n 2, 1, 0, 0), (9, .invokevirtual 86, 3, 73, 3), (12, .return_, 1, 0, 0)]
def mX6_readPlain : ab_M := (yX6_readPlain, 6, cX6_readPlain, 3, none, kX6_readPlain)
def kX6_readBrackets : List ab_I := [(0, .iload_n 1, 1, 0, 0), (1, .bipush 20, 2, 0, 0), (3, .if_icmp .lt 13, 3, 16, 0), (6, .aload_n 0, 1, 0, 0), (7, .aload_n 0, 1, 0, 0), (8, .getfield 38, 3, 6, 7), (11, .putfield 31, 3, 6, 8), (14, .iconst 0, 1, 0, 0), (15, .ireturn, 1, 0, 0), (16, .aload_n 0, 1, 0, 0), (17, .dup, 1, 0, 0), (18, .getfield 38, 3, 6, 7), (21, .iconst 1, 1, 0, 0), (22, .iadd, 1, 0, 0), (23, .putfield 38, 3, 6, 7), (26, .aload_n 0, 1, 0, 0), (27, .iload_n 1, 1, 0, 0), (28, .iconst 1, 1, 0, 0), (29, .iadd, 1, 0, 0), (30, .invokevirtual 41, 3, 62, 1), (33, .istore_n 2, 1, 0, 0), (34, .aload_n 0, 1, 0, 0), (35, .bipush 41, 2, 0, 0), (37, .invokevirtual 97, 3, 68, 1), (40, .iload_n 2, 1, 0, 0), (41, .ireturn, 1, 0, 0)]
def mX6_readBrackets : ab_M := (yX6_readBrackets, 6, cX6_readBrackets, 3, (some .int), kX6_readBrackets)
def kX6_readSign : List ab_I := [(0, .aload_n 0, 1, 0, 0), (1, .getfield 31, 3, 6, 8), (4, .bipush (-2), 2, 0, 0), (6, .if_icmp .ne 19, 3, 25, 0), (9, .aload_n 0, 1, 0, 0), (10, .iload_n 1, 1, 0, 0), (11, .invokevirtual 100, 3, 59, 1), (14, .ifCond .ne 11, 3, 25, 0), (17, .aload_n 0, 1, 0, 0), (18, .aload_n 0, 1, 0, 0), (19, .getfield 38, 3, 6, 7), (22, .putfield 31, 3, 6, 8), (25, .aload_n 0, 1, 0, 0), (26, .dup, 1, 0, 0), (27, .getfield 38, 3, 6, 7), (30, .iconst 1, 1, 0, 0), (31, .iadd, 1, 0, 0), (32, .putfield 38, 3, 6, 7), (35, .return_, 1, 0, 0)]
def mX6_readSign : ab_M := (yX6_readSign, 6, cX6_readSign, 2, none, kX6_readSign)
def kX6_readByte : List ab_I := [(0, .aload_n 0, 1, 0, 0), (1, .bipush 92, 2, 0, 0), (3, .invokevirtual 100, 3, 59, 1), (6, .ifCond .eq 13, 3, 19, 0), (9, .aload_n 0, 1, 0, 0), (10, .dup, 1, 0, 0), (11, .getfield 38, 3, 6, 7), (14, .iconst 1, 1, 0, 0), (15, .iadd, 1, 0, 0), (16, .putfield 38, 3, 6, 7), (19, .aload_n 0, 1, 0, 0), (20, .getfield 38, 3, 6, 7), (23, .aload_n 0, 1, 0, 0), (24, .getfield 35, 3, 6, 6), (27, .if_icmp .lt 13, 3, 40, 0), (30, .aload_n 0, 1, 0, 0), (31, .aload_n 0, 1, 0, 0), (32, .getfield 38, 3, 6, 7), (35, .putfield 31, 3, 6, 8), (38, .iconst 0, 1, 0, 0), (39, .ireturn, 1, 0, 0), (40, .aload_n 0, 1, 0, 0), (41, .dup, 1, 0, 0), (42, .getfield 38, 3, 6, 7), (45, .iconst 1, 1, 0, 0), (46, .iadd, 1, 0, 0), (47, .putfield 38, 3, 6, 7), (50, .aload_n 0, 1, 0, 0), (51, .getfield 9, 3, 6, 0), (54, .aload_n 0, 1, 0, 0), (55, .getfield 38, 3, 6, 7), (58, .iconst 1, 1, 0, 0), (59, .isub, 1, 0, 0), (60, .iaload, 1, 0, 0), (61, .ireturn, 1, 0, 0)]
def mX6_readByte : ab_M := (yX6_readByte, 6, cX6_readByte, 1, (some .int), kX6_readByte)
def kX6_readRanges : List ab_I := [(0, .aload_n 0, 1, 0, 0), (1, .dup, 1, 0, 0), (2, .getfield 38, 3, 6, 7), (5, .iconst 1, 1, 0, 0), (6, .iadd, 1, 0, 0), (7, .putfield 38, 3, 6, 7), (10, .aload_n 0, 1, 0, 0), (11, .bipush 94, 2, 0, 0), (13, .invokevirtual 100, 3, 59, 1), (16, .istore_n 2, 1, 0, 0), (17, .iload_n 2, 1, 0, 0), (18, .ifCond .eq 13, 3, 31, 0), (21, .aload_n 0, 1, 0, 0), (22, .dup, 1, 0, 0), (23, .getfield 38, 3, 6, 7), (26, .iconst 1, 1, 0, 0), (27, .iadd, 1, 0, 0), (28, .putfield 38, 3, 6, 7), (31, .aload_n 0, 1, 0, 0), (32, .iload_n 1, 1, 0, 0), (33, .invokevirtual 104, 3, 71, 1), (36, .iconst 1, 1, 0, 0), (37, .istore_n 3, 1, 0, 0), (38, .iload_n 3, 1, 0, 0), (39, .sipush 200, 3, 0, 0), (42, .if_icmp .ge 35, 3, 77, 0), (45, .aload_n 0, 1, 0, 0), (46, .invokevirtual 51, 3, 60, 0), (49, .ifCond .eq 28, 3, 77, 0), (52, .aload_n 0, 1, 0, 0), (53, .getfield 9, 3, 6, 0), (56, .aload_n 0, 1, 0, 0), (57, .getfield 38, 3, 6, 7), (60, .iaload, 1, 0, 0), (61, .bipush 93, 2, 0, 0), (63, .if_icmp .eq 14, 3, 77, 0), (66, .aload_n 0, 1, 0, 0), (67, .iload_n 1, 1, 0, 0), (68, .invokevirtual 104, 3, 71, 1), (71, .iinc 3 1, 3, 0, 0), (74, .goto (-36), 3, 38, 0), (77, .aload_n 0, 1, 0, 0), (78, .bipush 93, 2, 0, 0), (80, .invokevirtual 97, 3, 68, 1), (83, .iload_n 2, 1, 0, 0), (84, .ifCond .eq 38, 3, 122, 0), (87, .iload_n 1, 1, 0, 0), (88, .iconst 4, 1, 0, 0), (89, .imul, 1, 0, 0), (90, .istore_n 3, 1, 0, 0), (91, .iload_n 3, 1, 0, 0), (92, .iload_n 1, 1, 0, 0), (93, .iconst 4, 1, 0, 0), (94, .imul, 1, 0, 0), (95, .iconst 4, 1, 0, 0), (96, .iadd, 1, 0, 0), (97, .if_icmp .ge 25, 3, 122, 0), (100, .aload_n 0, 1, 0, 0), (101, .getfield 27, 3, 6, 5), (104, .iload_n 3, 1, 0, 0), (105, .aload_n 0, 1, 0, 0), (106, .getfield 27, 3, 6, 5), (109, .iload_n 3, 1, 0, 0), (110, .laload, 1, 0, 0), (111, .ldc2_w 107, 3, 1, 1), (114, .lxor, 1, 0, 0), (115, .lastore, 1, 0, 0), (116, .iinc 3 1, 3, 0, 0), (119, .goto (-28), 3, 91, 0), (122, .return_, 1, 0, 0)]
def mX6_readRanges : ab_M := (yX6_readRanges, 6, cX6_readRanges, 4, none, kX6_readRanges)
def kX6_readRange : List ab_I := [(0, .aload_n 0, 1, 0, 0), (1, .invokevirtual 109, 3, 72, 0), (4, .istore_n 2, 1, 0, 0), (5, .iload_n 2, 1, 0, 0), (6, .istore_n 3, 1, 0, 0), (7, .aload_n 0, 1, 0, 0), (8, .getfield 31, 3, 6, 8), (11, .bipush (-2), 2, 0, 0), (13, .if_icmp .ne 53, 3, 66, 0), (16, .aload_n 0, 1, 0, 0), (17, .bipush 45, 2, 0, 0), (19, .invokevirtual 100, 3, 59, 1), (22, .ifCond .eq 44, 3, 66, 0), (25, .aload_n 0, 1, 0, 0), (26, .dup, 1, 0, 0), (27, .getfield 38, 3, 6, 7), (30, .iconst 1, 1, 0, 0), (31, .iadd, 1, 0, 0), (32, .putfield 38, 3, 6, 7), (35, .aload_n 0, 1, 0, 0), (36, .getfield 38, 3, 6, 7), (39, .istore 4, 2, 0, 0), (41, .aload_n 0, 1, 0, 0), (42, .invokevirtual 109, 3, 72, 0), (45, .istore_n 3, 1, 0, 0), (46, .aload_n 0, 1, 0, 0), (47, .getfield 31, 3, 6, 8), (50, .bipush (-2), 2, 0, 0), (52, .if_icmp .ne 14, 3, 66, 0), (55, .iload_n 3, 1, 0, 0), (56, .iload_n 2, 1, 0, 0), (57, .if_icmp .ge 9, 3, 66, 0), (60, .aload_n 0, 1, 0, 0), (61, .iload 4, 2, 0, 0), (63, .putfield 31, 3, 6, 8), (66, .aload_n 0, 1, 0, 0), (67, .iload_n 1, 1, 0, 0), (68, .iload_n 2, 1, 0, 0), (69, .iload_n 3, 1, 0, 0), (70, .invokevirtual 86, 3, 73, 3), (73, .return_, 1, 0, 0)]
def mX6_readRange : ab_M := (yX6_readRange, 6, cX6_readRange, 5, none, kX6_readRange)
def kX6_readRangeByte : List ab_I := [(0, .aload_n 0, 1, 0, 0), (1, .bipush 91, 2, 0, 0), (3, .invokevirtual 100, 3, 59, 1), (6, .ifCond .ne 21, 3, 27, 0), (9, .aload_n 0, 1, 0, 0), (10, .bipush 93, 2, 0, 0), (12, .invokevirtual 100, 3, 59, 1), (15, .ifCond .ne 12, 3, 27, 0), (18, .aload_n 0, 1, 0, 0), (19, .bipush 45, 2, 0, 0), (21, .invokevirtual 100, 3, 59, 1), (24, .ifCond .eq 13, 3, 37, 0), (27, .aload_n 0, 1, 0, 0), (28, .aload_n 0, 1, 0, 0), (29, .getfield 38, 3, 6, 7), (32, .putfield 31, 3, 6, 8), (35, .iconst 0, 1, 0, 0), (36, .ireturn, 1, 0, 0), (37, .aload_n 0, 1, 0, 0), (38, .invokevirtual 93, 3, 69, 0), (41, .ireturn, 1, 0, 0)]
def mX6_readRangeByte : ab_M := (yX6_readRangeByte, 6, cX6_readRangeByte, 1, (some .int), kX6_readRangeByte)
def kX6_addBytes : List ab_I := [(0, .iload_n 2, 1, 0, 0), (1, .istore 4, 2, 0, 0), (3, .iload 4, 2, 0, 0), (5, .iload_n 3, 1, 0, 0), (6, .if_icmp .gt 33, 3, 39, 0), (9, .aload_n 0, 1, 0, 0), (10, .getfield 27, 3, 6, 5), (13, .iload_n 1, 1, 0, 0), (14, .iconst 4, 1, 0, 0), (15, .imul, 1, 0, 0), (16, .iload 4, 2, 0, 0), (18, .bipush 6, 2, 0, 0), (20, .ishr, 1, 0, 0), (21, .iadd, 1, 0, 0), (22, .dup2, 1, 0, 0), (23, .laload, 1, 0, 0), (24, .lconst 1, 1, 0, 0), (25, .iload 4, 2, 0, 0), (27, .bipush 63, 2, 0, 0), (29, .iand, 1, 0, 0), (30, .lshl, 1, 0, 0), (31, .lor, 1, 0, 0), (32, .lastore, 1, 0, 0), (33, .iinc 4 1, 3, 0, 0), (36, .goto (-33), 3, 3, 0), (39, .return_, 1, 0, 0)]
def mX6_addBytes : ab_M := (yX6_addBytes, 6, cX6_addBytes, 5, none, kX6_addBytes)
def kX6_mayBe : List ab_I := [(0, .aload_n 0, 1, 0, 0), (1, .getfield 27, 3, 6, 5), (4, .iload_n 1, 1, 0, 0), (5, .iconst 4, 1, 0, 0), (6, .imul, 1, 0, 0), (7, .iload_n 2, 1, 0, 0), (8, .bipush 6, 2, 0, 0), (10, .ishr, 1, 0, 0), (11, .iadd, 1, 0, 0), (12, .laload, 1, 0, 0), (13, .iload_n 2, 1, 0, 0), (14, .bipush 63, 2, 0, 0), (16, .iand, 1, 0, 0), (17, .lushr, 1, 0, 0), (18, .lconst 1, 1, 0, 0), (19, .land, 1, 0, 0), (20, .lconst 0, 1, 0, 0), (21, .lcmp, 1, 0, 0), (22, .ifCond .eq 7, 3, 29, 0), (25, .iconst 1, 1, 0, 0), (26, .goto 4, 3, 30, 0), (29, .iconst 0, 1, 0, 0), (30, .ireturn, 1, 0, 0)]
def mX6_mayBe : ab_M := (yX6_mayBe, 6, cX6_mayBe, 3, (some .boolean), kX6_mayBe)
def kX6_readRepeat : List ab_I := [(0, .aload_n 0, 1, 0, 0), (1, .getfield 9, 3, 6, 0), (4, .aload_n 0, 1, 0, 0), (5, .getfield 38, 3, 6, 7), (8, .iaload, 1, 0, 0), (9, .lookupswitch 81 #[(42, 43), (43, 53), (63, 63), (123, 73)], 43, 0, 0), (52, .aload_n 0, 1, 0, 0), (53, .iload_n 1, 1, 0, 0), (54, .iconst 0, 1, 0, 0), (55, .iconst (-1), 1, 0, 0), (56, .invokevirtual 112, 3, 76, 3), (59, .goto 31, 3, 90, 0), (62, .aload_n 0, 1, 0, 0), (63, .iload_n 1, 1, 0, 0), (64, .iconst 1, 1, 0, 0), (65, .iconst (-1), 1, 0, 0), (66, .invokevirtual 112, 3, 76, 3), (69, .goto 21, 3, 90, 0), (72, .aload_n 0, 1, 0, 0), (73, .iload_n 1, 1, 0, 0), (74, .iconst 0, 1, 0, 0), (75, .iconst 1, 1, 0, 0), (76, .invokevirtual 112, 3, 76, 3), (79, .goto 11, 3, 90, 0), (82, .aload_n 0, 1, 0, 0), (83, .iload_n 1, 1, 0, 0), (84, .invokevirtual 115, 3, 77, 1), (87, .goto 3, 3, 90, 0), (90, .return_, 1, 0, 0)]
def mX6_readRepeat : ab_M := (yX6_readRepeat, 6, cX6_readRepeat, 2, none, kX6_readRepeat)
def kX6_repeat : List ab_I := [(0, .aload_n 0, 1, 0, 0), (1, .getfield 21, 3, 6, 3), (4, .iload_n 1, 1, 0, 0), (5, .iload_n 2, 1, 0, 0), (6, .iastore, 1, 0, 0), (7, .aload_n 0, 1, 0, 0), (8, .getfield 24, 3, 6, 4), (11, .iload_n 1, 1, 0, 0), (12, .iload_n 3, 1, 0, 0), (13, .iastore, 1, 0, 0), (14, .aload_n 0, 1, 0, 0), (15, .dup, 1, 0, 0), (16, .getfield 38, 3, 6, 7), (19, .iconst 1, 1, 0, 0), (20, .iadd, 1, 0, 0), (21, .putfield 38, 3, 6, 7), (24, .return_, 1, 0, 0)]
def mX6_repeat : ab_M := (yX6_repeat, 6, cX6_repeat, 4, none, kX6_repeat)
def kX6_readNumbers : List ab_I := [(0, .aload_n 0, 1, 0, 0), (1, .dup, 1, 0, 0), (2, .getfield 38, 3, 6, 7), (5, .iconst 1, 1, 0, 0), (6, .iadd, 1, 0, 0), (7, .putfield 38, 3, 6, 7), (10, .aload_n 0, 1, 0, 0), (11, .invokevirtual 118, 3, 78, 0), (14, .istore_n 2, 1, 0, 0), (15, .iload_n 2, 1, 0, 0), (16, .istore_n 3, 1, 0, 0), (17, .aload_n 0, 1, 0, 0), (18, .getfield 31, 3, 6, 8), (21, .bipush (-2), 2, 0, 0), (23, .if_icmp .ne 71, 3, 94, 0), (26, .aload_n 0, 1, 0, 0), (27, .bipush 44, 2, 0, 0), (29, .invokevirtual 100, 3, 59, 1), (32, .ifCond .eq 62, 3, 94, 0), (35, .aload_n 0, 1, 0, 0), (36, .dup, 1, 0, 0), (37, .getfield 38, 3, 6, 7), (40, .iconst 1, 1, 0, 0), (41, .iadd, 1, 0, 0), (42, .putfield 38, 3, 6, 7), (45, .aload_n 0, 1, 0, 0), (46, .getfield 38, 3, 6, 7), (49, .istore 4, 2, 0, 0), (51, .aload_n 0, 1, 0, 0), (52, .bipush 125, 2, 0, 0), (54, .invokevirtual 100, 3, 59, 1), (57, .ifCond .eq 7, 3, 64, 0), (60, .iconst (-1), 1, 0, 0), (61, .goto 7, 3, 68, 0), (64, .aload_n 0, 1, 0, 0), (65, .invokevirtual 118, 3, 78, 0), (68, .istore_n 3, 1, 0, 0), (69, .aload_n 0, 1, 0, 0), (70, .getfield 31, 3, 6, 8), (73, .bipush (-2), 2, 0, 0), (75, .if_icmp .ne 19, 3, 94, 0), (78, .iload_n 3, 1, 0, 0), (79, .iconst (-1), 1, 0, 0), (80, .if_icmp .eq 14, 3, 94, 0), (83, .iload_n 3, 1, 0, 0), (84, .iload_n 2, 1, 0, 0), (85, .if_icmp .ge 9, 3, 94, 0), (88, .aload_n 0, 1, 0, 0), (89, .iload 4, 2, 0, 0), (91, .putfield 31, 3, 6, 8), (94, .aload_n 0, 1, 0, 0), (95, .getfield 21, 3, 6, 3), (98, .iload_n 1, 1, 0, 0), (99, .iload_n 2, 1, 0, 0), (100, .iastore, 1, 0, 0), (101, .aload_n 0, 1, 0, 0), (102, .getfield 24, 3, 6, 4), (105, .iload_n 1, 1, 0, 0), (106, .iload_n 3, 1, 0, 0), (107, .iastore, 1, 0, 0), (108, .aload_n 0, 1, 0, 0), (109, .bipush 125, 2, 0, 0), (111, .invokevirtual 97, 3, 68, 1), (114, .return_, 1, 0, 0)]
def mX6_readNumbers : ab_M := (yX6_readNumbers, 6, cX6_readNumbers, 5, none, kX6_readNumbers)
def kX6_readNumber : List ab_I := [(0, .aload_n 0, 1, 0, 0), (1, .invokevirtual 121, 3, 79, 0), (4, .ifCond .ne 13, 3, 17, 0), (7, .aload_n 0, 1, 0, 0), (8, .aload_n 0, 1, 0, 0), (9, .getfield 38, 3, 6, 7), (12, .putfield 31, 3, 6, 8), (15, .iconst 0, 1, 0, 0), (16, .ireturn, 1, 0, 0), (17, .aload_n 0, 1, 0, 0), (18, .getfield 9, 3, 6, 0), (21, .aload_n 0, 1, 0, 0), (22, .getfield 38, 3, 6, 7), (25, .iaload, 1, 0, 0), (26, .bipush 48, 2, 0, 0), (28, .isub, 1, 0, 0), (29, .istore_n 1, 1, 0, 0), (30, .aload_n 0, 1, 0, 0), (31, .dup, 1, 0, 0), (32, .getfield 38, 3, 6, 7), (35, .iconst 1, 1, 0, 0), (36, .iadd, 1, 0, 0), (37, .putfield 38, 3, 6, 7), (40, .aload_n 0, 1, 0, 0), (41, .invokevirtual 121, 3, 79, 0), (44, .ifCond .eq 31, 3, 75, 0), (47, .iload_n 1, 1, 0, 0), (48, .bipush 10, 2, 0, 0), (50, .imul, 1, 0, 0), (51, .aload_n 0, 1, 0, 0), (52, .getfield 9, 3, 6, 0), (55, .aload_n 0, 1, 0, 0), (56, .getfield 38, 3, 6, 7), (59, .iaload, 1, 0, 0), (60, .iadd, 1, 0, 0), (61, .bipush 48, 2, 0, 0), (63, .isub, 1, 0, 0), (64, .istore_n 1, 1, 0, 0), (65, .aload_n 0, 1, 0, 0), (66, .dup, 1, 0, 0), (67, .getfield 38, 3, 6, 7), (70, .iconst 1, 1, 0, 0), (71, .iadd, 1, 0, 0), (72, .putfield 38, 3, 6, 7), (75, .iload_n 1, 1, 0, 0), (76, .ireturn, 1, 0, 0)]
def mX6_readNumber : ab_M := (yX6_readNumber, 6, cX6_readNumber, 2, (some .int), kX6_readNumber)
def kX6_figureComes : List ab_I := [(0, .aload_n 0, 1, 0, 0), (1, .getfield 38, 3, 6, 7), (4, .aload_n 0, 1, 0, 0), (5, .getfield 35, 3, 6, 6), (8, .if_icmp .ge 35, 3, 43, 0), (11, .aload_n 0, 1, 0, 0), (12, .getfield 9, 3, 6, 0), (15, .aload_n 0, 1, 0, 0), (16, .getfield 38, 3, 6, 7), (19, .iaload, 1, 0, 0), (20, .bipush 48, 2, 0, 0), (22, .if_icmp .lt 21, 3, 43, 0), (25, .aload_n 0, 1, 0, 0), (26, .getfield 9, 3, 6, 0), (29, .aload_n 0, 1, 0, 0), (30, .getfield 38, 3, 6, 7), (33, .iaload, 1, 0, 0), (34, .bipush 57, 2, 0, 0), (36, .if_icmp .gt 7, 3, 43, 0), (39, .iconst 1, 1, 0, 0), (40, .goto 4, 3, 44, 0), (43, .iconst 0, 1, 0, 0), (44, .ireturn, 1, 0, 0)]
def mX6_figureComes : ab_M := (yX6_figureComes, 6, cX6_figureComes, 1, (some .boolean), kX6_figureComes)
def kX7_learn : List ab_I := [(0, .iconst 0, 1, 0, 0), (1, .istore_n 1, 1, 0, 0), (2, .iconst 0, 1, 0, 0), (3, .istore_n 2, 1, 0, 0), (4, .iload_n 2, 1, 0, 0), (5, .aload_n 0, 1, 0, 0), (6, .getfield 21, 3, 7, 0), (9, .getfield 29, 3, 2, 8), (12, .if_icmp .ge 60, 3, 72, 0), (15, .iload_n 2, 1, 0, 0), (16, .ifCond .eq 40, 3, 56, 0), (19, .aload_n 0, 1, 0, 0), (20, .getfield 21, 3, 7, 0), (23, .getfield 35, 3, 2, 6), (26, .iload_n 2, 1, 0, 0), (27, .iaload, 1, 0, 0), (28, .bipush (-2), 2, 0, 0), (30, .if_icmp .eq 26, 3, 56, 0), (33, .aload_n 0, 1, 0, 0), (34, .getfield 21, 3, 7, 0), (37, .getfield 35, 3, 2, 6), (40, .iload_n 2, 1, 0, 0), (41, .iaload, 1, 0, 0), (42, .aload_n 0, 1, 0, 0), (43, .getfield 21, 3, 7, 0), (46, .getfield 35, 3, 2, 6), (49, .iload_n 2, 1, 0, 0), (50, .iconst 1, 1, 0, 0), (51, .isub, 1, 0, 0), (52, .iaload, 1, 0, 0), (53, .if_icmp .eq 6, 3, 59, 0), (56, .iinc 1 1, 3, 0, 0), (59, .aload_n 0, 1, 0, 0), (60, .getfield 15, 3, 7, 3), (63, .iload_n 2, 1, 0, 0), (64, .iload_n 1, 1, 0, 0), (65, .iastore, 1, 0, 0), (66, .iinc 2 1, 3, 0, 0), (69, .goto (-65), 3, 4, 0), (72, .aload_n 0, 1, 0, 0), (73, .getfield 21, 3, 7, 0), (76, .getfield 29, 3, 2, 8), (79, .iconst 1, 1, 0, 0), (80, .isub, 1, 0, 0), (81, .istore_n 2, 1, 0, 0), (82, .iload_n 2, 1, 0, 0), (83, .ifCond .lt 68, 3, 151, 0), (86, .iload_n 2, 1, 0, 0), (87, .iconst 1, 1, 0, 0), (88, .iadd, 1, 0, 0), (89, .istore_n 3, 1, 0, 0), (90, .iload_n 3, 1, 0, 0), (91, .aload_n 0, 1, 0, 0), (92, .getfield 21, 3, 7, 0), (95, .getfield 29, 3, 2, 8), (98, .if_icmp .ge 40, 3, 138, 0), (101, .aload_n 0, 1, 0, 0), (102, .getfield 21, 3, 7, 0), (105, .getfield 38, 3, 2, 5), (108, .iload_n 3, 1, 0, 0), (109, .iaload, 1, 0, 0), (110, .aload_n 0, 1, 0, 0), (111, .getfield 21, 3, 7, 0), (114, .getfield 38, 3, 2, 5), (117, .iload_n 2, 1, 0, 0), (118, .iaload, 1, 0, 0), (119, .if_icmp .lt 19, 3, 138, 0), (122, .aload_n 0, 1, 0, 0), (123, .getfield 9, 3, 7, 2), (126, .iload_n 3, 1, 0, 0), (127, .iaload, 1, 0, 0), (128, .iload_n 3, 1, 0, 0), (129, .iconst 1, 1, 0, 0), (130, .iadd, 1, 0, 0), (131, .invokestatic 41, 3, 1000, 2), (134, .istore_n 3, 1, 0, 0), (135, .goto (-45), 3, 90, 0), (138, .aload_n 0, 1, 0, 0), (139, .getfield 9, 3, 7, 2), (142, .iload_n 2, 1, 0, 0), (143, .iload_n 3, 1, 0, 0), (144, .iastore, 1, 0, 0), (145, .iinc 2 (-1), 3, 0, 0), (148, .goto (-66), 3, 82, 0), (151, .return_, 1, 0, 0)]
def mX7_learn : ab_M := (yX7_learn, 7, cX7_learn, 4, none, kX7_learn)
def kX7_lengthOf : List ab_I := [(0, .aload_n 0, 1, 0, 0), (1, .getfield 21, 3, 7, 0), (4, .aload_n 0, 1, 0, 0), (5, .getfield 21, 3, 7, 0), (8, .getfield 47, 3, 2, 3), (11, .iload_n 1, 1, 0, 0), (12, .iaload, 1, 0, 0), (13, .invokevirtual 50, 3, 24, 1), (16, .ireturn, 1, 0, 0)]
def mX7_lengthOf : ab_M := (yX7_lengthOf, 7, cX7_lengthOf, 2, (some .int), kX7_lengthOf)
def kX7_newOf : List ab_I := [(0, .aload_n 0, 1, 0, 0), (1, .iload_n 1, 1, 0, 0), (2, .invokevirtual 54, 3, 81, 1), (5, .aload_n 0, 1, 0, 0), (6, .getfield 21, 3, 7, 0), (9, .getfield 38, 3, 2, 5), (12, .iload_n 1, 1, 0, 0), (13, .iaload, 1, 0, 0), (14, .isub, 1, 0, 0), (15, .ireturn, 1, 0, 0)]
def mX7_newOf : ab_M := (yX7_newOf, 7, cX7_newOf, 2, (some .int), kX7_newOf)
def kX7_howManyOf : List ab_I := [(0, .iconst 0, 1, 0, 0), (1, .istore_n 2, 1, 0, 0), (2, .iconst 0, 1, 0, 0), (3, .istore_n 3, 1, 0, 0), (4, .iload_n 3, 1, 0, 0), (5, .aload_n 0, 1, 0, 0), (6, .getfield 21, 3, 7, 0), (9, .getfield 29, 3, 2, 8), (12, .if_icmp .ge 49, 3, 61, 0), (15, .iload_n 1, 1, 0, 0), (16, .ifCond .ne 14, 3, 30, 0), (19, .iload_n 2, 1, 0, 0), (20, .aload_n 0, 1, 0, 0), (21, .iload_n 3, 1, 0, 0), (22, .invokevirtual 57, 3, 82, 1), (25, .iadd, 1, 0, 0), (26, .istore_n 2, 1, 0, 0), (27, .goto 28, 3, 55, 0), (30, .aload_n 0, 1, 0, 0), (31, .getfield 21, 3, 7, 0), (34, .getfield 38, 3, 2, 5), (37, .iload_n 3, 1, 0, 0), (38, .iaload, 1, 0, 0), (39, .iload_n 1, 1, 0, 0), (40, .if_icmp .ge 15, 3, 55, 0), (43, .iload_n 1, 1, 0, 0), (44, .aload_n 0, 1, 0, 0), (45, .iload_n 3, 1, 0, 0), (46, .invokevirtual 54, 3, 81, 1), (49, .if_icmp .gt 6, 3, 55, 0), (52, .iinc 2 1, 3, 0, 0), (55, .iinc 3 1, 3, 0, 0), (58, .goto (-54), 3, 4, 0), (61, .iload_n 2, 1, 0, 0), (62, .ireturn, 1, 0, 0)]
def mX7_howManyOf : ab_M := (yX7_howManyOf, 7, cX7_howManyOf, 4, (some .int), kX7_howManyOf)
def kX7_holdInOrder : List ab_I := [(0, .iload_n 1, 1, 0, 0), (1, .istore_n 2, 1, 0, 0), (2, .iconst 0, 1, 0, 0), (3, .istore_n 3, 1, 0, 0), (4, .iload_n 3, 1, 0, 0), (5, .aload_n 0, 1, 0, 0), (6, .getfield 21, 3, 7, 0), (9, .getfield 29, 3, 2, 8), (12, .if_icmp .ge 63, 3, 75, 0), (15, .iload_n 2, 1, 0, 0), (16, .aload_n 0, 1, 0, 0), (17, .iload_n 3, 1, 0, 0), (18, .invokevirtual 57, 3, 82, 1), (21, .if_icmp .ge 40, 3, 61, 0), (24, .aload_n 0, 1, 0, 0), (25, .getfield 25, 3, 7, 1), (28, .aload_n 0, 1, 0, 0), (29, .getfield 21, 3, 7, 0), (32, .getfield 47, 3, 2, 3), (35, .iload_n 3, 1, 0, 0), (36, .iaload, 1, 0, 0), (37, .aload_n 0, 1, 0, 0), (38, .getfield 21, 3, 7, 0), (41, .getfield 38, 3, 2, 5), (44, .iload_n 3, 1, 0, 0), (45, .iaload, 1, 0, 0), (46, .iload_n 2, 1, 0, 0), (47, .iadd, 1, 0, 0), (48, .iconst 1, 1, 0, 0), (49, .iadd, 1, 0, 0), (50, .invokevirtual 60, 3, 4, 2), (53, .aload_n 0, 1, 0, 0), (54, .getfield 25, 3, 7, 1), (57, .getfield 66, 3, 1, 5), (60, .ireturn, 1, 0, 0), (61, .iload_n 2, 1, 0, 0), (62, .aload_n 0, 1, 0, 0), (63, .iload_n 3, 1, 0, 0), (64, .invokevirtual 57, 3, 82, 1), (67, .isub, 1, 0, 0), (68, .istore_n 2, 1, 0, 0), (69, .iinc 3 1, 3, 0, 0), (72, .goto (-68), 3, 4, 0), (75, .iconst (-1), 1, 0, 0), (76, .ireturn, 1, 0, 0)]
def mX7_holdInOrder : ab_M := (yX7_holdInOrder, 7, cX7_holdInOrder, 4, (some .int), kX7_holdInOrder)
def kX7_lesserThanHeld : List ab_I := [(0, .aload_n 0, 1, 0, 0), (1, .getfield 25, 3, 7, 1), (4, .getfield 66, 3, 1, 5), (7, .ifCond .ne 5, 3, 12, 0), (10, .iconst 0, 1, 0, 0), (11, .ireturn, 1, 0, 0), (12, .aload_n 0, 1, 0, 0), (13, .getfield 25, 3, 7, 1), (16, .getfield 66, 3, 1, 5), (19, .aload_n 0, 1, 0, 0), (20, .getfield 21, 3, 7, 0), (23, .getfield 38, 3, 2, 5), (26, .aload_n 0, 1, 0, 0), (27, .getfield 25, 3, 7, 1), (30, .getfield 69, 3, 1, 6), (33, .iaload, 1, 0, 0), (34, .isub, 1, 0, 0), (35, .iconst 1, 1, 0, 0), (36, .isub, 1, 0, 0), (37, .istore_n 1, 1, 0, 0), (38, .iconst 0, 1, 0, 0), (39, .istore_n 2, 1, 0, 0), (40, .iload_n 2, 1, 0, 0), (41, .aload_n 0, 1, 0, 0), (42, .getfield 25, 3, 7, 1), (45, .getfield 69, 3, 1, 6), (48, .if_icmp .ge 17, 3, 65, 0), (51, .iload_n 1, 1, 0, 0), (52, .aload_n 0, 1, 0, 0), (53, .iload_n 2, 1, 0, 0), (54, .invokevirtual 57, 3, 82, 1), (57, .iadd, 1, 0, 0), (58, .istore_n 1, 1, 0, 0), (59, .iinc 2 1, 3, 0, 0), (62, .goto (-22), 3, 40, 0), (65, .iload_n 1, 1, 0, 0), (66, .ireturn, 1, 0, 0)]
def mX7_lesserThanHeld : ab_M := (yX7_lesserThanHeld, 7, cX7_lesserThanHeld, 3, (some .int), kX7_lesserThanHeld)
def kX7_holdLongest : List ab_I := [(0, .iconst 0, 1, 0, 0), (1, .istore_n 3, 1, 0, 0), (2, .aload_n 0, 1, 0, 0), (3, .getfield 21, 3, 7, 0), (6, .getfield 29, 3, 2, 8), (9, .istore 4, 2, 0, 0), (11, .iload_n 3, 1, 0, 0), (12, .iload 4, 2, 0, 0), (14, .if_icmp .ge 43, 3, 57, 0), (17, .iload_n 3, 1, 0, 0), (18, .iload 4, 2, 0, 0), (20, .iload_n 3, 1, 0, 0), (21, .isub, 1, 0, 0), (22, .iconst 1, 1, 0, 0), (23, .iadd, 1, 0, 0), (24, .iconst 2, 1, 0, 0), (25, .idiv, 1, 0, 0), (26, .iadd, 1, 0, 0), (27, .istore 5, 2, 0, 0), (29, .aload_n 0, 1, 0, 0), (30, .iload 5, 2, 0, 0), (32, .iload_n 1, 1, 0, 0), (33, .iload_n 2, 1, 0, 0), (34, .invokevirtual 72, 3, 87, 3), (37, .bipush (-2), 2, 0, 0), (39, .if_icmp .ne 12, 3, 51, 0), (42, .iload 5, 2, 0, 0), (44, .iconst 1, 1, 0, 0), (45, .isub, 1, 0, 0), (46, .istore 4, 2, 0, 0), (48, .goto 6, 3, 54, 0), (51, .iload 5, 2, 0, 0), (53, .istore_n 3, 1, 0, 0), (54, .goto (-43), 3, 11, 0), (57, .iload_n 3, 1, 0, 0), (58, .ifCond .le 26, 3, 84, 0), (61, .aload_n 0, 1, 0, 0), (62, .getfield 25, 3, 7, 1), (65, .aload_n 0, 1, 0, 0), (66, .getfield 21, 3, 7, 0), (69, .getfield 47, 3, 2, 3), (72, .aload_n 0, 1, 0, 0), (73, .iload_n 3, 1, 0, 0), (74, .iload_n 1, 1, 0, 0), (75, .iload_n 2, 1, 0, 0), (76, .invokevirtual 72, 3, 87, 3), (79, .iaload, 1, 0, 0), (80, .iload_n 3, 1, 0, 0), (81, .invokevirtual 60, 3, 4, 2), (84, .iload_n 3, 1, 0, 0), (85, .ireturn, 1, 0, 0)]
def mX7_holdLongest : ab_M := (yX7_holdLongest, 7, cX7_holdLongest, 6, (some .int), kX7_holdLongest)
def kX7_firstRun : List ab_I := [(0, .aload_n 0, 1, 0, 0), (1, .getfield 18, 3, 7, 4), (4, .bipush (-2), 2, 0, 0), (6, .invokestatic 76, 3, 251, 2), (9, .iconst 0, 1, 0, 0), (10, .istore 4, 2, 0, 0), (12, .iconst 0, 1, 0, 0), (13, .istore 5, 2, 0, 0), (15, .iconst 0, 1, 0, 0), (16, .istore 6, 2, 0, 0), (18, .iload 6, 2, 0, 0), (20, .aload_n 0, 1, 0, 0), (21, .getfield 21, 3, 7, 0), (24, .getfield 29, 3, 2, 8), (27, .if_icmp .ge 97, 3, 124, 0), (30, .aload_n 0, 1, 0, 0), (31, .getfield 21, 3, 7, 0), (34, .getfield 38, 3, 2, 5), (37, .iload 6, 2, 0, 0), (39, .iaload, 1, 0, 0), (40, .iload_n 1, 1, 0, 0), (41, .if_icmp .ge 10, 3, 51, 0), (44, .iload 6, 2, 0, 0), (46, .istore 4, 2, 0, 0), (48, .iconst 0, 1, 0, 0), (49, .istore 5, 2, 0, 0), (51, .aload_n 0, 1, 0, 0), (52, .getfield 21, 3, 7, 0), (55, .getfield 82, 3, 2, 1), (58, .aload_n 0, 1, 0, 0), (59, .getfield 21, 3, 7, 0), (62, .getfield 47, 3, 2, 3), (65, .iload 6, 2, 0, 0), (67, .iaload, 1, 0, 0), (68, .iaload, 1, 0, 0), (69, .istore 7, 2, 0, 0), (71, .iload_n 1, 1, 0, 0), (72, .aload_n 0, 1, 0, 0), (73, .iload 6, 2, 0, 0), (75, .invokevirtual 54, 3, 81, 1), (78, .if_icmp .gt 40, 3, 118, 0), (81, .iload_n 3, 1, 0, 0), (82, .ifCond .eq 15, 3, 97, 0), (85, .aload_n 0, 1, 0, 0), (86, .getfield 18, 3, 7, 4), (89, .iload 7, 2, 0, 0), (91, .iaload, 1, 0, 0), (92, .iload 4, 2, 0, 0), (94, .if_icmp .eq 24, 3, 118, 0), (97, .aload_n 0, 1, 0, 0), (98, .getfield 18, 3, 7, 4), (101, .iload 7, 2, 0, 0), (103, .iload 4, 2, 0, 0), (105, .iastore, 1, 0, 0), (106, .iinc 5 1, 3, 0, 0), (109, .iload 5, 2, 0, 0), (111, .iload_n 2, 1, 0, 0), (112, .if_icmp .lt 6, 3, 118, 0), (115, .iload 4, 2, 0, 0), (117, .ireturn, 1, 0, 0), (118, .iinc 6 1, 3, 0, 0), (121, .goto (-103), 3, 18, 0), (124, .bipush (-2), 2, 0, 0), (126, .ireturn, 1, 0, 0)]
def mX7_firstRun : ab_M := (yX7_firstRun, 7, cX7_firstRun, 8, (some .int), kX7_firstRun)
def kX7_holdOftenest : List ab_I := [(0, .iconst 0, 1, 0, 0), (1, .istore_n 2, 1, 0, 0), (2, .iconst 0, 1, 0, 0), (3, .istore_n 3, 1, 0, 0), (4, .iconst 0, 1, 0, 0), (5, .istore 4, 2, 0, 0), (7, .iconst 0, 1, 0, 0), (8, .istore 5, 2, 0, 0), (10, .iload 5, 2, 0, 0), (12, .aload_n 0, 1, 0, 0), (13, .getfield 21, 3, 7, 0), (16, .getfield 29, 3, 2, 8), (19, .if_icmp .ge 59, 3, 78, 0), (22, .aload_n 0, 1, 0, 0), (23, .getfield 21, 3, 7, 0), (26, .getfield 38, 3, 2, 5), (29, .iload 5, 2, 0, 0), (31, .iaload, 1, 0, 0), (32, .iload_n 1, 1, 0, 0), (33, .if_icmp .ge 6, 3, 39, 0), (36, .iconst 0, 1, 0, 0), (37, .istore 4, 2, 0, 0), (39, .iload_n 1, 1, 0, 0), (40, .aload_n 0, 1, 0, 0), (41, .iload 5, 2, 0, 0), (43, .invokevirtual 54, 3, 81, 1), (46, .if_icmp .gt 26, 3, 72, 0), (49, .iinc 4 1, 3, 0, 0), (52, .iload 4, 2, 0, 0), (54, .iload_n 2, 1, 0, 0), (55, .if_icmp .le 17, 3, 72, 0), (58, .iload 4, 2, 0, 0), (60, .istore_n 2, 1, 0, 0), (61, .aload_n 0, 1, 0, 0), (62, .getfield 21, 3, 7, 0), (65, .getfield 47, 3, 2, 3), (68, .iload 5, 2, 0, 0), (70, .iaload, 1, 0, 0), (71, .istore_n 3, 1, 0, 0), (72, .iinc 5 1, 3, 0, 0), (75, .goto (-65), 3, 10, 0), (78, .iload_n 2, 1, 0, 0), (79, .ifCond .le 12, 3, 91, 0), (82, .aload_n 0, 1, 0, 0), (83, .getfield 25, 3, 7, 1), (86, .iload_n 3, 1, 0, 0), (87, .iload_n 1, 1, 0, 0), (88, .invokevirtual 60, 3, 4, 2), (91, .iload_n 2, 1, 0, 0), (92, .ireturn, 1, 0, 0)]
def mX7_holdOftenest : ab_M := (yX7_holdOftenest, 7, cX7_holdOftenest, 6, (some .int), kX7_holdOftenest)
def kX7_leastAlone : List ab_I := [(0, .aload_n 0, 1, 0, 0), (1, .getfield 21, 3, 7, 0), (4, .getfield 85, 3, 2, 4), (7, .iload_n 1, 1, 0, 0), (8, .iaload, 1, 0, 0), (9, .istore_n 2, 1, 0, 0), (10, .aload_n 0, 1, 0, 0), (11, .getfield 21, 3, 7, 0), (14, .getfield 38, 3, 2, 5), (17, .iload_n 2, 1, 0, 0), (18, .iaload, 1, 0, 0), (19, .istore_n 3, 1, 0, 0), (20, .iload_n 2, 1, 0, 0), (21, .iconst 1, 1, 0, 0), (22, .iadd, 1, 0, 0), (23, .aload_n 0, 1, 0, 0), (24, .getfield 21, 3, 7, 0), (27, .getfield 29, 3, 2, 8), (30, .if_icmp .ge 19, 3, 49, 0), (33, .iload_n 3, 1, 0, 0), (34, .aload_n 0, 1, 0, 0), (35, .getfield 21, 3, 7, 0), (38, .getfield 38, 3, 2, 5), (41, .iload_n 2, 1, 0, 0), (42, .iconst 1, 1, 0, 0), (43, .iadd, 1, 0, 0), (44, .iaload, 1, 0, 0), (45, .invokestatic 41, 3, 1000, 2), (48, .istore_n 3, 1, 0, 0), (49, .iload_n 3, 1, 0, 0), (50, .aload_n 0, 1, 0, 0), (51, .getfield 21, 3, 7, 0), (54, .iload_n 1, 1, 0, 0), (55, .invokevirtual 50, 3, 24, 1), (58, .if_icmp .ge 9, 3, 67, 0), (61, .iload_n 3, 1, 0, 0), (62, .iconst 1, 1, 0, 0), (63, .iadd, 1, 0, 0), (64, .goto 4, 3, 68, 0), (67, .iconst 0, 1, 0, 0), (68, .ireturn, 1, 0, 0)]
def mX7_leastAlone : ab_M := (yX7_leastAlone, 7, cX7_leastAlone, 4, (some .int), kX7_leastAlone)
def kX7_holdMaximal : List ab_I := [(0, .iconst 0, 1, 0, 0), (1, .istore_n 2, 1, 0, 0), (2, .iconst 0, 1, 0, 0), (3, .istore_n 3, 1, 0, 0), (4, .iload_n 3, 1, 0, 0), (5, .aload_n 0, 1, 0, 0), (6, .getfield 21, 3, 7, 0), (9, .getfield 29, 3, 2, 8), (12, .if_icmp .ge 71, 3, 83, 0), (15, .aload_n 0, 1, 0, 0), (16, .iload_n 3, 1, 0, 0), (17, .invokevirtual 88, 3, 91, 1), (20, .istore 4, 2, 0, 0), (22, .iload_n 1, 1, 0, 0), (23, .iload_n 2, 1, 0, 0), (24, .if_icmp .lt 48, 3, 72, 0), (27, .iload_n 1, 1, 0, 0), (28, .iload_n 2, 1, 0, 0), (29, .isub, 1, 0, 0), (30, .iload 4, 2, 0, 0), (32, .if_icmp .ge 40, 3, 72, 0), (35, .aload_n 0, 1, 0, 0), (36, .getfield 25, 3, 7, 1), (39, .aload_n 0, 1, 0, 0), (40, .getfield 21, 3, 7, 0), (43, .getfield 47, 3, 2, 3), (46, .iload_n 3, 1, 0, 0), (47, .iaload, 1, 0, 0), (48, .aload_n 0, 1, 0, 0), (49, .iload_n 3, 1, 0, 0), (50, .iload 4, 2, 0, 0), (52, .iconst 1, 1, 0, 0), (53, .isub, 1, 0, 0), (54, .iload_n 1, 1, 0, 0), (55, .iload_n 2, 1, 0, 0), (56, .isub, 1, 0, 0), (57, .isub, 1, 0, 0), (58, .invokevirtual 91, 3, 92, 2), (61, .invokevirtual 60, 3, 4, 2), (64, .aload_n 0, 1, 0, 0), (65, .getfield 25, 3, 7, 1), (68, .getfield 66, 3, 1, 5), (71, .ireturn, 1, 0, 0), (72, .iload_n 2, 1, 0, 0), (73, .iload 4, 2, 0, 0), (75, .iadd, 1, 0, 0), (76, .istore_n 2, 1, 0, 0), (77, .iinc 3 1, 3, 0, 0), (80, .goto (-76), 3, 4, 0), (83, .iload_n 1, 1, 0, 0), (84, .iconst (-1), 1, 0, 0), (85, .if_icmp .ne 7, 3, 92, 0), (88, .iload_n 2, 1, 0, 0), (89, .goto 4, 3, 93, 0), (92, .iconst (-1), 1, 0, 0), (93, .ireturn, 1, 0, 0)]
def mX7_holdMaximal : ab_M := (yX7_holdMaximal, 7, cX7_holdMaximal, 5, (some .int), kX7_holdMaximal)
def kX7_maximalFrom : List ab_I := [(0, .iconst 0, 1, 0, 0), (1, .istore_n 2, 1, 0, 0), (2, .iload_n 1, 1, 0, 0), (3, .iconst 1, 1, 0, 0), (4, .iadd, 1, 0, 0), (5, .istore_n 3, 1, 0, 0), (6, .iload_n 3, 1, 0, 0), (7, .aload_n 0, 1, 0, 0), (8, .getfield 21, 3, 7, 0), (11, .getfield 29, 3, 2, 8), (14, .if_icmp .ge 60, 3, 74, 0), (17, .aload_n 0, 1, 0, 0), (18, .getfield 21, 3, 7, 0), (21, .getfield 38, 3, 2, 5), (24, .iload_n 3, 1, 0, 0), (25, .iaload, 1, 0, 0), (26, .aload_n 0, 1, 0, 0), (27, .getfield 21, 3, 7, 0), (30, .getfield 38, 3, 2, 5), (33, .iload_n 1, 1, 0, 0), (34, .iaload, 1, 0, 0), (35, .if_icmp .le 39, 3, 74, 0), (38, .aload_n 0, 1, 0, 0), (39, .getfield 9, 3, 7, 2), (42, .iload_n 3, 1, 0, 0), (43, .iaload, 1, 0, 0), (44, .iload_n 3, 1, 0, 0), (45, .iconst 1, 1, 0, 0), (46, .iadd, 1, 0, 0), (47, .invokestatic 41, 3, 1000, 2), (50, .istore_n 3, 1, 0, 0), (51, .aload_n 0, 1, 0, 0), (52, .getfield 15, 3, 7, 3), (55, .iload_n 3, 1, 0, 0), (56, .iconst 1, 1, 0, 0), (57, .isub, 1, 0, 0), (58, .iaload, 1, 0, 0), (59, .aload_n 0, 1, 0, 0), (60, .getfield 15, 3, 7, 3), (63, .iload_n 1, 1, 0, 0), (64, .iaload, 1, 0, 0), (65, .if_icmp .le (-59), 3, 6, 0), (68, .iinc 2 1, 3, 0, 0), (71, .goto (-65), 3, 6, 0), (74, .iload_n 2, 1, 0, 0), (75, .ireturn, 1, 0, 0)]
def mX7_maximalFrom : ab_M := (yX7_maximalFrom, 7, cX7_maximalFrom, 4, (some .int), kX7_maximalFrom)
def kX7_maximalLength : List ab_I := [(0, .iload_n 2, 1, 0, 0), (1, .istore_n 3, 1, 0, 0), (2, .iload_n 1, 1, 0, 0), (3, .iconst 1, 1, 0, 0), (4, .iadd, 1, 0, 0), (5, .istore 4, 2, 0, 0), (7, .iload 4, 2, 0, 0), (9, .aload_n 0, 1, 0, 0), (10, .getfield 21, 3, 7, 0), (13, .getfield 29, 3, 2, 8), (16, .if_icmp .ge 84, 3, 100, 0), (19, .aload_n 0, 1, 0, 0), (20, .getfield 21, 3, 7, 0), (23, .getfield 38, 3, 2, 5), (26, .iload 4, 2, 0, 0), (28, .iaload, 1, 0, 0), (29, .aload_n 0, 1, 0, 0), (30, .getfield 21, 3, 7, 0), (33, .getfield 38, 3, 2, 5), (36, .iload_n 1, 1, 0, 0), (37, .iaload, 1, 0, 0), (38, .if_icmp .le 62, 3, 100, 0), (41, .aload_n 0, 1, 0, 0), (42, .getfield 21, 3, 7, 0), (45, .getfield 38, 3, 2, 5), (48, .iload 4, 2, 0, 0), (50, .iaload, 1, 0, 0), (51, .istore 5, 2, 0, 0), (53, .aload_n 0, 1, 0, 0), (54, .getfield 9, 3, 7, 2), (57, .iload 4, 2, 0, 0), (59, .iaload, 1, 0, 0), (60, .iload 4, 2, 0, 0), (62, .iconst 1, 1, 0, 0), (63, .iadd, 1, 0, 0), (64, .invokestatic 41, 3, 1000, 2), (67, .istore 4, 2, 0, 0), (69, .aload_n 0, 1, 0, 0), (70, .getfield 15, 3, 7, 3), (73, .iload 4, 2, 0, 0), (75, .iconst 1, 1, 0, 0), (76, .isub, 1, 0, 0), (77, .iaload, 1, 0, 0), (78, .aload_n 0, 1, 0, 0), (79, .getfield 15, 3, 7, 3), (82, .iload_n 1, 1, 0, 0), (83, .iaload, 1, 0, 0), (84, .if_icmp .le 13, 3, 97, 0), (87, .iload_n 3, 1, 0, 0), (88, .ifCond .ne 6, 3, 94, 0), (91, .iload 5, 2, 0, 0), (93, .ireturn, 1, 0, 0), (94, .iinc 3 (-1), 3, 0, 0), (97, .goto (-90), 3, 7, 0), (100, .iconst 0, 1, 0, 0), (101, .ireturn, 1, 0, 0)]
def mX7_maximalLength : ab_M := (yX7_maximalLength, 7, cX7_maximalLength, 6, (some .int), kX7_maximalLength)
def kX7_howManyAbsent : List ab_I := [(0, .iload_n 1, 1, 0, 0), (1, .iconst 2, 1, 0, 0), (2, .isub, 1, 0, 0), (3, .istore_n 2, 1, 0, 0), (4, .aload_n 0, 1, 0, 0), (5, .getfield 18, 3, 7, 4), (8, .bipush (-2), 2, 0, 0), (10, .invokestatic 76, 3, 251, 2), (13, .iconst 0, 1, 0, 0), (14, .istore_n 3, 1, 0, 0), (15, .iconst 0, 1, 0, 0), (16, .istore 4, 2, 0, 0), (18, .iconst 0, 1, 0, 0), (19, .istore 5, 2, 0, 0), (21, .iconst 0, 1, 0, 0), (22, .istore 6, 2, 0, 0), (24, .iconst 0, 1, 0, 0), (25, .istore 7, 2, 0, 0), (27, .iload 7, 2, 0, 0), (29, .aload_n 0, 1, 0, 0), (30, .getfield 21, 3, 7, 0), (33, .getfield 29, 3, 2, 8), (36, .if_icmp .ge 118, 3, 154, 0), (39, .aload_n 0, 1, 0, 0), (40, .getfield 21, 3, 7, 0), (43, .getfield 38, 3, 2, 5), (46, .iload 7, 2, 0, 0), (48, .iaload, 1, 0, 0), (49, .iload_n 2, 1, 0, 0), (50, .if_icmp .ge 22, 3, 72, 0), (53, .iload 6, 2, 0, 0), (55, .iload 4, 2, 0, 0), (57, .iload 5, 2, 0, 0), (59, .imul, 1, 0, 0), (60, .iadd, 1, 0, 0), (61, .istore 6, 2, 0, 0), (63, .iload 7, 2, 0, 0), (65, .istore_n 3, 1, 0, 0), (66, .iconst 0, 1, 0, 0), (67, .istore 4, 2, 0, 0), (69, .iconst 0, 1, 0, 0), (70, .istore 5, 2, 0, 0), (72, .iload_n 2, 1, 0, 0), (73, .aload_n 0, 1, 0, 0), (74, .iload 7, 2, 0, 0), (76, .invokevirtual 54, 3, 81, 1), (79, .if_icmp .gt 69, 3, 148, 0), (82, .aload_n 0, 1, 0, 0), (83, .getfield 21, 3, 7, 0), (86, .getfield 35, 3, 2, 6), (89, .iload 7, 2, 0, 0), (91, .iaload, 1, 0, 0), (92, .istore 8, 2, 0, 0), (94, .iload 8, 2, 0, 0), (96, .ifCond .lt 25, 3, 121, 0), (99, .aload_n 0, 1, 0, 0), (100, .getfield 18, 3, 7, 4), (103, .iload 8, 2, 0, 0), (105, .iaload, 1, 0, 0), (106, .iload_n 3, 1, 0, 0), (107, .if_icmp .eq 14, 3, 121, 0), (110, .aload_n 0, 1, 0, 0), (111, .getfield 18, 3, 7, 4), (114, .iload 8, 2, 0, 0), (116, .iload_n 3, 1, 0, 0), (117, .iastore, 1, 0, 0), (118, .iinc 4 1, 3, 0, 0), (121, .aload_n 0, 1, 0, 0), (122, .getfield 21, 3, 7, 0), (125, .getfield 38, 3, 2, 5), (128, .iload 7, 2, 0, 0), (130, .iaload, 1, 0, 0), (131, .iload_n 2, 1, 0, 0), (132, .if_icmp .gt 16, 3, 148, 0), (135, .iload_n 2, 1, 0, 0), (136, .aload_n 0, 1, 0, 0), (137, .iload 7, 2, 0, 0), (139, .invokevirtual 54, 3, 81, 1), (142, .if_icmp .ge 6, 3, 148, 0), (145, .iinc 5 1, 3, 0, 0), (148, .iinc 7 1, 3, 0, 0), (151, .goto (-124), 3, 27, 0), (154, .iload 6, 2, 0, 0), (156, .iload 4, 2, 0, 0), (158, .iload 5, 2, 0, 0), (160, .imul, 1, 0, 0), (161, .iadd, 1, 0, 0), (162, .aload_n 0, 1, 0, 0), (163, .iload_n 1, 1, 0, 0), (164, .invokevirtual 94, 3, 83, 1), (167, .isub, 1, 0, 0), (168, .ireturn, 1, 0, 0)]
def mX7_howManyAbsent : ab_M := (yX7_howManyAbsent, 7, cX7_howManyAbsent, 9, (some .int), kX7_howManyAbsent)
def kX8_arrange : List ab_I := [(0, .iconst 0, 1, 0, 0), (1, .istore 5, 2, 0, 0), (3, .iload 5, 2, 0, 0), (5, .iload_n 2, 1, 0, 0), (6, .if_icmp .ge 30, 3, 36, 0), (9, .aload 4, 2, 0, 0), (11, .iload 5, 2, 0, 0), (13, .aload_n 1, 1, 0, 0), (14, .iload 5, 2, 0, 0), (16, .iaload, 1, 0, 0), (17, .bipush 40, 2, 0, 0), (19, .iadd, 1, 0, 0), (20, .iastore, 1, 0, 0), (21, .aload_n 0, 1, 0, 0), (22, .getfield 9, 3, 8, 0), (25, .iload 5, 2, 0, 0), (27, .iload 5, 2, 0, 0), (29, .iastore, 1, 0, 0), (30, .iinc 5 1, 3, 0, 0), (33, .goto (-30), 3, 3, 0), (36, .aload_n 0, 1, 0, 0), (37, .iload_n 2, 1, 0, 0), (38, .sipush 296, 3, 0, 0), (41, .aload_n 3, 1, 0, 0), (42, .aload 4, 2, 0, 0), (44, .invokevirtual 21, 3, 96, 4), (47, .aload_n 0, 1, 0, 0), (48, .iload_n 2, 1, 0, 0), (49, .iconst 0, 1, 0, 0), (50, .aload_n 3, 1, 0, 0), (51, .aload 4, 2, 0, 0), (53, .invokevirtual 25, 3, 97, 4), (56, .istore 5, 2, 0, 0), (58, .iconst 1, 1, 0, 0), (59, .istore 6, 2, 0, 0), (61, .iload 6, 2, 0, 0), (63, .iload_n 2, 1, 0, 0), (64, .if_icmp .ge 49, 3, 113, 0), (67, .iload 5, 2, 0, 0), (69, .iload_n 2, 1, 0, 0), (70, .if_icmp .ge 43, 3, 113, 0), (73, .aload_n 0, 1, 0, 0), (74, .iload_n 2, 1, 0, 0), (75, .iload 6, 2, 0, 0), (77, .aload_n 3, 1, 0, 0), (78, .invokevirtual 29, 3, 95, 3), (81, .aload_n 0, 1, 0, 0), (82, .iload_n 2, 1, 0, 0), (83, .iload 5, 2, 0, 0), (85, .aload_n 3, 1, 0, 0), (86, .aload 4, 2, 0, 0), (88, .invokevirtual 21, 3, 96, 4), (91, .aload_n 0, 1, 0, 0), (92, .iload_n 2, 1, 0, 0), (93, .iload 6, 2, 0, 0), (95, .aload_n 3, 1, 0, 0), (96, .aload 4, 2, 0, 0), (98, .invokevirtual 25, 3, 97, 4), (101, .istore 5, 2, 0, 0), (103, .iload 6, 2, 0, 0), (105, .iload 6, 2, 0, 0), (107, .iadd, 1, 0, 0), (108, .istore 6, 2, 0, 0), (110, .goto (-49), 3, 61, 0), (113, .return_, 1, 0, 0)]
def mX8_arrange : ab_M := (yX8_arrange, 8, cX8_arrange, 7, none, kX8_arrange)
def kX8_sortByHalves : List ab_I := [(0, .iconst 0, 1, 0, 0), (1, .istore 4, 2, 0, 0), (3, .iload_n 1, 1, 0, 0), (4, .iload_n 2, 1, 0, 0), (5, .isub, 1, 0, 0), (6, .istore 5, 2, 0, 0), (8, .iload 5, 2, 0, 0), (10, .iload_n 1, 1, 0, 0), (11, .if_icmp .ge 21, 3, 32, 0), (14, .aload_n 0, 1, 0, 0), (15, .getfield 9, 3, 8, 0), (18, .iload 4, 2, 0, 0), (20, .iload 5, 2, 0, 0), (22, .iastore, 1, 0, 0), (23, .iinc 4 1, 3, 0, 0), (26, .iinc 5 1, 3, 0, 0), (29, .goto (-21), 3, 8, 0), (32, .iconst 0, 1, 0, 0), (33, .istore 5, 2, 0, 0), (35, .iload 5, 2, 0, 0), (37, .iload_n 1, 1, 0, 0), (38, .if_icmp .ge 33, 3, 71, 0), (41, .aload_n 3, 1, 0, 0), (42, .iload 5, 2, 0, 0), (44, .iaload, 1, 0, 0), (45, .iload_n 2, 1, 0, 0), (46, .if_icmp .lt 19, 3, 65, 0), (49, .aload_n 0, 1, 0, 0), (50, .getfield 9, 3, 8, 0), (53, .iload 4, 2, 0, 0), (55, .aload_n 3, 1, 0, 0), (56, .iload 5, 2, 0, 0), (58, .iaload, 1, 0, 0), (59, .iload_n 2, 1, 0, 0), (60, .isub, 1, 0, 0), (61, .iastore, 1, 0, 0), (62, .iinc 4 1, 3, 0, 0), (65, .iinc 5 1, 3, 0, 0), (68, .goto (-33), 3, 35, 0), (71, .return_, 1, 0, 0)]
def mX8_sortByHalves : ab_M := (yX8_sortByHalves, 8, cX8_sortByHalves, 6, none, kX8_sortByHalves)
def kX8_sortByRank : List ab_I := [(0, .aload_n 0, 1, 0, 0), (1, .getfield 18, 3, 8, 2), (4, .iconst 0, 1, 0, 0), (5, .iload_n 2, 1, 0, 0), (6, .iconst 1, 1, 0, 0), (7, .iadd, 1, 0, 0), (8, .iconst 0, 1, 0, 0), (9, .invokestatic 33, 3, 252, 4), (12, .iconst 0, 1, 0, 0), (13, .istore 5, 2, 0, 0), (15, .iload 5, 2, 0, 0), (17, .iload_n 1, 1, 0, 0), (18, .if_icmp .ge 25, 3, 43, 0), (21, .aload_n 0, 1, 0, 0), (22, .getfield 18, 3, 8, 2), (25, .aload 4, 2, 0, 0), (27, .iload 5, 2, 0, 0), (29, .iaload, 1, 0, 0), (30, .iconst 1, 1, 0, 0), (31, .iadd, 1, 0, 0), (32, .dup2, 1, 0, 0), (33, .iaload, 1, 0, 0), (34, .iconst 1, 1, 0, 0), (35, .iadd, 1, 0, 0), (36, .iastore, 1, 0, 0), (37, .iinc 5 1, 3, 0, 0), (40, .goto (-25), 3, 15, 0), (43, .iconst 1, 1, 0, 0), (44, .istore 5, 2, 0, 0), (46, .iload 5, 2, 0, 0), (48, .iload_n 2, 1, 0, 0), (49, .if_icmp .gt 28, 3, 77, 0), (52, .aload_n 0, 1, 0, 0), (53, .getfield 18, 3, 8, 2), (56, .iload 5, 2, 0, 0), (58, .dup2, 1, 0, 0), (59, .iaload, 1, 0, 0), (60, .aload_n 0, 1, 0, 0), (61, .getfield 18, 3, 8, 2), (64, .iload 5, 2, 0, 0), (66, .iconst 1, 1, 0, 0), (67, .isub, 1, 0, 0), (68, .iaload, 1, 0, 0), (69, .iadd, 1, 0, 0), (70, .iastore, 1, 0, 0), (71, .iinc 5 1, 3, 0, 0), (74, .goto (-28), 3, 46, 0), (77, .iconst 0, 1, 0, 0), (78, .istore 5, 2, 0, 0), (80, .iload 5, 2, 0, 0), (82, .iload_n 1, 1, 0, 0), (83, .if_icmp .ge 46, 3, 129, 0), (86, .aload_n 0, 1, 0, 0), (87, .getfield 9, 3, 8, 0), (90, .iload 5, 2, 0, 0), (92, .iaload, 1, 0, 0), (93, .istore 6, 2, 0, 0), (95, .aload_n 3, 1, 0, 0), (96, .aload_n 0, 1, 0, 0), (97, .getfield 18, 3, 8, 2), (100, .aload 4, 2, 0, 0), (102, .iload 6, 2, 0, 0), (104, .iaload, 1, 0, 0), (105, .iaload, 1, 0, 0), (106, .iload 6, 2, 0, 0), (108, .iastore, 1, 0, 0), (109, .aload_n 0, 1, 0, 0), (110, .getfield 18, 3, 8, 2), (113, .aload 4, 2, 0, 0), (115, .iload 6, 2, 0, 0), (117, .iaload, 1, 0, 0), (118, .dup2, 1, 0, 0), (119, .iaload, 1, 0, 0), (120, .iconst 1, 1, 0, 0), (121, .iadd, 1, 0, 0), (122, .iastore, 1, 0, 0), (123, .iinc 5 1, 3, 0, 0), (126, .goto (-46), 3, 80, 0), (129, .return_, 1, 0, 0)]
def mX8_sortByRank : ab_M := (yX8_sortByRank, 8, cX8_sortByRank, 7, none, kX8_sortByRank)
def kX8_rankAnew : List ab_I := [(0, .iconst 0, 1, 0, 0), (1, .istore 5, 2, 0, 0), (3, .aload_n 0, 1, 0, 0), (4, .getfield 15, 3, 8, 1), (7, .aload_n 3, 1, 0, 0), (8, .iconst 0, 1, 0, 0), (9, .iaload, 1, 0, 0), (10, .iconst 0, 1, 0, 0), (11, .iastore, 1, 0, 0), (12, .iconst 1, 1, 0, 0), (13, .istore 6, 2, 0, 0), (15, .iload 6, 2, 0, 0), (17, .iload_n 1, 1, 0, 0), (18, .if_icmp .ge 71, 3, 89, 0), (21, .aload_n 3, 1, 0, 0), (22, .iload 6, 2, 0, 0), (24, .iconst 1, 1, 0, 0), (25, .isub, 1, 0, 0), (26, .iaload, 1, 0, 0), (27, .istore 7, 2, 0, 0), (29, .aload_n 3, 1, 0, 0), (30, .iload 6, 2, 0, 0), (32, .iaload, 1, 0, 0), (33, .istore 8, 2, 0, 0), (35, .aload 4, 2, 0, 0), (37, .iload 7, 2, 0, 0), (39, .iaload, 1, 0, 0), (40, .aload 4, 2, 0, 0), (42, .iload 8, 2, 0, 0), (44, .iaload, 1, 0, 0), (45, .if_icmp .ne 26, 3, 71, 0), (48, .iload 7, 2, 0, 0), (50, .iload_n 2, 1, 0, 0), (51, .iadd, 1, 0, 0), (52, .iload_n 1, 1, 0, 0), (53, .aload 4, 2, 0, 0), (55, .invokestatic 39, 3, 98, 3), (58, .iload 8, 2, 0, 0), (60, .iload_n 2, 1, 0, 0), (61, .iadd, 1, 0, 0), (62, .iload_n 1, 1, 0, 0), (63, .aload 4, 2, 0, 0), (65, .invokestatic 39, 3, 98, 3), (68, .if_icmp .eq 6, 3, 74, 0), (71, .iinc 5 1, 3, 0, 0), (74, .aload_n 0, 1, 0, 0), (75, .getfield 15, 3, 8, 1), (78, .iload 8, 2, 0, 0), (80, .iload 5, 2, 0, 0), (82, .iastore, 1, 0, 0), (83, .iinc 6 1, 3, 0, 0), (86, .goto (-71), 3, 15, 0), (89, .aload_n 0, 1, 0, 0), (90, .getfield 15, 3, 8, 1), (93, .iconst 0, 1, 0, 0), (94, .aload 4, 2, 0, 0), (96, .iconst 0, 1, 0, 0), (97, .iload_n 1, 1, 0, 0), (98, .invokestatic 43, 3, 1002, 5), (101, .iload 5, 2, 0, 0), (103, .iconst 1, 1, 0, 0), (104, .iadd, 1, 0, 0), (105, .ireturn, 1, 0, 0)]
def mX8_rankAnew : ab_M := (yX8_rankAnew, 8, cX8_rankAnew, 9, (some .int), kX8_rankAnew)
def kX8_rankAt : List ab_I := [(0, .iload_n 0, 1, 0, 0), (1, .iload_n 1, 1, 0, 0), (2, .if_icmp .ge 9, 3, 11, 0), (5, .aload_n 2, 1, 0, 0), (6, .iload_n 0, 1, 0, 0), (7, .iaload, 1, 0, 0), (8, .goto 5, 3, 13, 0), (11, .bipush (-2), 2, 0, 0), (13, .ireturn, 1, 0, 0)]
def mX8_rankAt : ab_M := (yX8_rankAt, 8, cX8_rankAt, 3, (some .int), kX8_rankAt)
def kX9_grown : List ab_I := [(0, .aload_n 0, 1, 0, 0), (1, .iconst 0, 1, 0, 0), (2, .putfield 32, 3, 9, 6), (5, .aload_n 0, 1, 0, 0), (6, .iconst 0, 1, 0, 0), (7, .putfield 36, 3, 9, 7), (10, .aload_n 0, 1, 0, 0), (11, .iconst 0, 1, 0, 0), (12, .invokevirtual 39, 3, 101, 1), (15, .ireturn, 1, 0, 0)]
def mX9_grown : ab_M := (yX9_grown, 9, cX9_grown, 1, (some .int), kX9_grown)
def kX9_comes : List ab_I := [(0, .aload_n 0, 1, 0, 0), (1, .getfield 36, 3, 9, 7), (4, .aload_n 0, 1, 0, 0), (5, .getfield 28, 3, 9, 0), (8, .getfield 43, 3, 6, 6), (11, .if_icmp .ge 23, 3, 34, 0), (14, .aload_n 0, 1, 0, 0), (15, .getfield 28, 3, 9, 0), (18, .getfield 48, 3, 6, 0), (21, .aload_n 0, 1, 0, 0), (22, .getfield 36, 3, 9, 7), (25, .iaload, 1, 0, 0), (26, .iload_n 1, 1, 0, 0), (27, .if_icmp .ne 7, 3, 34, 0), (30, .iconst 1, 1, 0, 0), (31, .goto 4, 3, 35, 0), (34, .iconst 0, 1, 0, 0), (35, .ireturn, 1, 0, 0)]
def mX9_comes : ab_M := (yX9_comes, 9, cX9_comes, 2, (some .boolean), kX9_comes)
def kX9_growSum : List ab_I := [(0, .aload_n 0, 1, 0, 0), (1, .iload_n 1, 1, 0, 0), (2, .invokevirtual 51, 3, 102, 1), (5, .istore_n 2, 1, 0, 0), (6, .iconst 1, 1, 0, 0), (7, .istore_n 3, 1, 0, 0), (8, .iload_n 3, 1, 0, 0), (9, .sipush 200, 3, 0, 0), (12, .if_icmp .gt 39, 3, 51, 0), (15, .aload_n 0, 1, 0, 0), (16, .bipush 124, 2, 0, 0), (18, .invokevirtual 54, 3, 100, 1), (21, .ifCond .eq 30, 3, 51, 0), (24, .aload_n 0, 1, 0, 0), (25, .dup, 1, 0, 0), (26, .getfield 36, 3, 9, 7), (29, .iconst 1, 1, 0, 0), (30, .iadd, 1, 0, 0), (31, .putfield 36, 3, 9, 7), (34, .aload_n 0, 1, 0, 0), (35, .iload_n 2, 1, 0, 0), (36, .aload_n 0, 1, 0, 0), (37, .iload_n 1, 1, 0, 0), (38, .invokevirtual 51, 3, 102, 1), (41, .invokevirtual 58, 3, 106, 2), (44, .istore_n 2, 1, 0, 0), (45, .iinc 3 1, 3, 0, 0), (48, .goto (-40), 3, 8, 0), (51, .iload_n 2, 1, 0, 0), (52, .ireturn, 1, 0, 0)]
def mX9_growSum : ab_M := (yX9_growSum, 9, cX9_growSum, 4, (some .int), kX9_growSum)
def kX9_growRow : List ab_I := [(0, .iconst (-1), 1, 0, 0), (1, .istore_n 2, 1, 0, 0), (2, .aload_n 0, 1, 0, 0), (3, .getfield 36, 3, 9, 7), (6, .aload_n 0, 1, 0, 0), (7, .getfield 28, 3, 9, 0), (10, .getfield 43, 3, 6, 6), (13, .if_icmp .ge 76, 3, 89, 0), (16, .aload_n 0, 1, 0, 0), (17, .bipush 124, 2, 0, 0), (19, .invokevirtual 54, 3, 100, 1), (22, .ifCond .ne 67, 3, 89, 0), (25, .aload_n 0, 1, 0, 0), (26, .bipush 41, 2, 0, 0), (28, .invokevirtual 54, 3, 100, 1), (31, .ifCond .ne 58, 3, 89, 0), (34, .aload_n 0, 1, 0, 0), (35, .getfield 36, 3, 9, 7), (38, .istore_n 3, 1, 0, 0), (39, .aload_n 0, 1, 0, 0), (40, .iload_n 2, 1, 0, 0), (41, .aload_n 0, 1, 0, 0), (42, .getfield 28, 3, 9, 0), (45, .getfield 62, 3, 6, 1), (48, .iload_n 3, 1, 0, 0), (49, .iaload, 1, 0, 0), (50, .ifCond .ne 7, 3, 57, 0), (53, .iconst (-1), 1, 0, 0), (54, .goto 9, 3, 63, 0), (57, .aload_n 0, 1, 0, 0), (58, .iload_n 3, 1, 0, 0), (59, .iload_n 1, 1, 0, 0), (60, .invokevirtual 65, 3, 103, 2), (63, .invokevirtual 68, 3, 105, 2), (66, .istore_n 2, 1, 0, 0), (67, .aload_n 0, 1, 0, 0), (68, .aload_n 0, 1, 0, 0), (69, .getfield 28, 3, 9, 0), (72, .getfield 71, 3, 6, 2), (75, .iload_n 3, 1, 0, 0), (76, .iaload, 1, 0, 0), (77, .iload_n 3, 1, 0, 0), (78, .iconst 1, 1, 0, 0), (79, .iadd, 1, 0, 0), (80, .invokestatic 74, 3, 1000, 2), (83, .putfield 36, 3, 9, 7), (86, .goto (-84), 3, 2, 0), (89, .iload_n 2, 1, 0, 0), (90, .ireturn, 1, 0, 0)]
def mX9_growRow : ab_M := (yX9_growRow, 9, cX9_growRow, 4, (some .int), kX9_growRow)
def kX9_growItem : List ab_I := [(0, .aload_n 0, 1, 0, 0), (1, .getfield 28, 3, 9, 0), (4, .iload_n 1, 1, 0, 0), (5, .invokevirtual 79, 3, 64, 1), (8, .istore_n 3, 1, 0, 0), (9, .iconst (-1), 1, 0, 0), (10, .istore 4, 2, 0, 0), (12, .iconst 0, 1, 0, 0), (13, .istore 5, 2, 0, 0), (15, .iload 5, 2, 0, 0), (17, .iload_n 3, 1, 0, 0), (18, .if_icmp .ge 98, 3, 116, 0), (21, .aload_n 0, 1, 0, 0), (22, .iload_n 1, 1, 0, 0), (23, .iload_n 2, 1, 0, 0), (24, .invokevirtual 82, 3, 104, 2), (27, .istore 6, 2, 0, 0), (29, .iload 6, 2, 0, 0), (31, .iconst (-1), 1, 0, 0), (32, .if_icmp .eq 68, 3, 100, 0), (35, .aload_n 0, 1, 0, 0), (36, .getfield 21, 3, 9, 4), (39, .iload 6, 2, 0, 0), (41, .dup2, 1, 0, 0), (42, .baload, 1, 0, 0), (43, .iload 5, 2, 0, 0), (45, .aload_n 0, 1, 0, 0), (46, .getfield 28, 3, 9, 0), (49, .getfield 85, 3, 6, 3), (52, .iload_n 1, 1, 0, 0), (53, .iaload, 1, 0, 0), (54, .if_icmp .lt 7, 3, 61, 0), (57, .iconst 1, 1, 0, 0), (58, .goto 4, 3, 62, 0), (61, .iconst 0, 1, 0, 0), (62, .ior, 1, 0, 0), (63, .bastore, 1, 0, 0), (64, .aload_n 0, 1, 0, 0), (65, .getfield 25, 3, 9, 5), (68, .iload 6, 2, 0, 0), (70, .dup2, 1, 0, 0), (71, .baload, 1, 0, 0), (72, .iload 5, 2, 0, 0), (74, .iload_n 3, 1, 0, 0), (75, .iconst 1, 1, 0, 0), (76, .isub, 1, 0, 0), (77, .if_icmp .ne 20, 3, 97, 0), (80, .aload_n 0, 1, 0, 0), (81, .getfield 28, 3, 9, 0), (84, .getfield 88, 3, 6, 4), (87, .iload_n 1, 1, 0, 0), (88, .iaload, 1, 0, 0), (89, .iconst (-1), 1, 0, 0), (90, .if_icmp .ne 7, 3, 97, 0), (93, .iconst 1, 1, 0, 0), (94, .goto 4, 3, 98, 0), (97, .iconst 0, 1, 0, 0), (98, .ior, 1, 0, 0), (99, .bastore, 1, 0, 0), (100, .aload_n 0, 1, 0, 0), (101, .iload 4, 2, 0, 0), (103, .iload 6, 2, 0, 0), (105, .invokevirtual 68, 3, 105, 2), (108, .istore 4, 2, 0, 0), (110, .iinc 5 1, 3, 0, 0), (113, .goto (-98), 3, 15, 0), (116, .iload 4, 2, 0, 0), (118, .ireturn, 1, 0, 0)]
def mX9_growItem : ab_M := (yX9_growItem, 9, cX9_growItem, 7, (some .int), kX9_growItem)
def kX9_growAtom : List ab_I := [(0, .aload_n 0, 1, 0, 0), (1, .getfield 28, 3, 9, 0), (4, .getfield 48, 3, 6, 0), (7, .iload_n 1, 1, 0, 0), (8, .iaload, 1, 0, 0), (9, .bipush 40, 2, 0, 0), (11, .if_icmp .eq 12, 3, 23, 0), (14, .aload_n 0, 1, 0, 0), (15, .iconst 0, 1, 0, 0), (16, .iload_n 1, 1, 0, 0), (17, .iconst (-1), 1, 0, 0), (18, .iconst 0, 1, 0, 0), (19, .invokevirtual 91, 3, 107, 4), (22, .ireturn, 1, 0, 0), (23, .iload_n 2, 1, 0, 0), (24, .bipush 20, 2, 0, 0), (26, .if_icmp .lt 5, 3, 31, 0), (29, .iconst (-1), 1, 0, 0), (30, .ireturn, 1, 0, 0), (31, .aload_n 0, 1, 0, 0), (32, .iload_n 1, 1, 0, 0), (33, .iconst 1, 1, 0, 0), (34, .iadd, 1, 0, 0), (35, .putfield 36, 3, 9, 7), (38, .aload_n 0, 1, 0, 0), (39, .iload_n 2, 1, 0, 0), (40, .iconst 1, 1, 0, 0), (41, .iadd, 1, 0, 0), (42, .invokevirtual 39, 3, 101, 1), (45, .ireturn, 1, 0, 0)]
def mX9_growAtom : ab_M := (yX9_growAtom, 9, cX9_growAtom, 3, (some .int), kX9_growAtom)
def kX9_joined : List ab_I := [(0, .iload_n 1, 1, 0, 0), (1, .iconst (-1), 1, 0, 0), (2, .if_icmp .eq 8, 3, 10, 0), (5, .iload_n 2, 1, 0, 0), (6, .iconst (-1), 1, 0, 0), (7, .if_icmp .ne 14, 3, 21, 0), (10, .iload_n 1, 1, 0, 0), (11, .iconst (-1), 1, 0, 0), (12, .if_icmp .ne 7, 3, 19, 0), (15, .iload_n 2, 1, 0, 0), (16, .goto 4, 3, 20, 0), (19, .iload_n 1, 1, 0, 0), (20, .ireturn, 1, 0, 0), (21, .aload_n 0, 1, 0, 0), (22, .iconst 1, 1, 0, 0), (23, .iload_n 1, 1, 0, 0), (24, .iload_n 2, 1, 0, 0), (25, .aload_n 0, 1, 0, 0), (26, .getfield 21, 3, 9, 4), (29, .iload_n 1, 1, 0, 0), (30, .baload, 1, 0, 0), (31, .ifCond .eq 16, 3, 47, 0), (34, .aload_n 0, 1, 0, 0), (35, .getfield 21, 3, 9, 4), (38, .iload_n 2, 1, 0, 0), (39, .baload, 1, 0, 0), (40, .ifCond .eq 7, 3, 47, 0), (43, .iconst 1, 1, 0, 0), (44, .goto 4, 3, 48, 0), (47, .iconst 0, 1, 0, 0), (48, .invokevirtual 91, 3, 107, 4), (51, .ireturn, 1, 0, 0)]
def mX9_joined : ab_M := (yX9_joined, 9, cX9_joined, 3, (some .int), kX9_joined)
def kX9_choice : List ab_I := [(0, .iload_n 1, 1, 0, 0), (1, .iconst (-1), 1, 0, 0), (2, .if_icmp .eq 8, 3, 10, 0), (5, .iload_n 2, 1, 0, 0), (6, .iconst (-1), 1, 0, 0), (7, .if_icmp .ne 28, 3, 35, 0), (10, .iload_n 1, 1, 0, 0), (11, .iconst (-1), 1, 0, 0), (12, .if_icmp .ne 7, 3, 19, 0), (15, .iload_n 2, 1, 0, 0), (16, .goto 4, 3, 20, 0), (19, .iload_n 1, 1, 0, 0), (20, .istore_n 3, 1, 0, 0), (21, .iload_n 3, 1, 0, 0), (22, .iconst (-1), 1, 0, 0), (23, .if_icmp .eq 10, 3, 33, 0), (26, .aload_n 0, 1, 0, 0), (27, .getfield 21, 3, 9, 4), (30, .iload_n 3, 1, 0, 0), (31, .iconst 1, 1, 0, 0), (32, .bastore, 1, 0, 0), (33, .iload_n 3, 1, 0, 0), (34, .ireturn, 1, 0, 0), (35, .aload_n 0, 1, 0, 0), (36, .iconst 2, 1, 0, 0), (37, .iload_n 1, 1, 0, 0), (38, .iload_n 2, 1, 0, 0), (39, .aload_n 0, 1, 0, 0), (40, .getfield 21, 3, 9, 4), (43, .iload_n 1, 1, 0, 0), (44, .baload, 1, 0, 0), (45, .ifCond .ne 12, 3, 57, 0), (48, .aload_n 0, 1, 0, 0), (49, .getfield 21, 3, 9, 4), (52, .iload_n 2, 1, 0, 0), (53, .baload, 1, 0, 0), (54, .ifCond .eq 7, 3, 61, 0), (57, .iconst 1, 1, 0, 0), (58, .goto 4, 3, 62, 0), (61, .iconst 0, 1, 0, 0), (62, .invokevirtual 91, 3, 107, 4), (65, .ireturn, 1, 0, 0)]
def mX9_choice : ab_M := (yX9_choice, 9, cX9_choice, 4, (some .int), kX9_choice)
def kX9_node : List ab_I := [(0, .aload_n 0, 1, 0, 0), (1, .getfield 32, 3, 9, 6), (4, .sipush 240, 3, 0, 0), (7, .if_icmp .lt 5, 3, 12, 0), (10, .iconst (-1), 1, 0, 0), (11, .ireturn, 1, 0, 0), (12, .aload_n 0, 1, 0, 0), (13, .getfield 11, 3, 9, 1), (16, .aload_n 0, 1, 0, 0), (17, .getfield 32, 3, 9, 6), (20, .iload_n 1, 1, 0, 0), (21, .iastore, 1, 0, 0), (22, .aload_n 0, 1, 0, 0), (23, .getfield 15, 3, 9, 2), (26, .aload_n 0, 1, 0, 0), (27, .getfield 32, 3, 9, 6), (30, .iload_n 2, 1, 0, 0), (31, .iastore, 1, 0, 0), (32, .aload_n 0, 1, 0, 0), (33, .getfield 18, 3, 9, 3), (36, .aload_n 0, 1, 0, 0), (37, .getfield 32, 3, 9, 6), (40, .iload_n 3, 1, 0, 0), (41, .iastore, 1, 0, 0), (42, .aload_n 0, 1, 0, 0), (43, .getfield 21, 3, 9, 4), (46, .aload_n 0, 1, 0, 0), (47, .getfield 32, 3, 9, 6), (50, .iload 4, 2, 0, 0), (52, .bastore, 1, 0, 0), (53, .aload_n 0, 1, 0, 0), (54, .getfield 25, 3, 9, 5), (57, .aload_n 0, 1, 0, 0), (58, .getfield 32, 3, 9, 6), (61, .iconst 0, 1, 0, 0), (62, .bastore, 1, 0, 0), (63, .aload_n 0, 1, 0, 0), (64, .dup, 1, 0, 0), (65, .getfield 32, 3, 9, 6), (68, .iconst 1, 1, 0, 0), (69, .iadd, 1, 0, 0), (70, .putfield 32, 3, 9, 6), (73, .aload_n 0, 1, 0, 0), (74, .getfield 32, 3, 9, 6), (77, .iconst 1, 1, 0, 0), (78, .isub, 1, 0, 0), (79, .ireturn, 1, 0, 0)]
def mX9_node : ab_M := (yX9_node, 9, cX9_node, 5, (some .int), kX9_node)
def kX10_feed : List ab_I := [(0, .aload_n 0, 1, 0, 0), (1, .getfield 10, 3, 10, 0), (4, .getfield 71, 3, 0, 4), (7, .sipush 2980, 3, 0, 0), (10, .if_icmp .le 5, 3, 15, 0), (13, .iconst (-1), 1, 0, 0), (14, .ireturn, 1, 0, 0), (15, .aload_n 0, 1, 0, 0), (16, .getfield 10, 3, 10, 0), (19, .iload_n 1, 1, 0, 0), (20, .invokevirtual 75, 3, 0, 1), (23, .aload_n 0, 1, 0, 0), (24, .getfield 10, 3, 10, 0), (27, .iload_n 2, 1, 0, 0), (28, .invokevirtual 75, 3, 0, 1), (31, .aload_n 0, 1, 0, 0), (32, .getfield 10, 3, 10, 0), (35, .iload_n 3, 1, 0, 0), (36, .invokevirtual 75, 3, 0, 1), (39, .aload_n 0, 1, 0, 0), (40, .getfield 10, 3, 10, 0), (43, .iload 4, 2, 0, 0), (45, .invokevirtual 75, 3, 0, 1), (48, .aload_n 0, 1, 0, 0), (49, .getfield 10, 3, 10, 0), (52, .iload 5, 2, 0, 0), (54, .invokevirtual 75, 3, 0, 1), (57, .aload_n 0, 1, 0, 0), (58, .getfield 10, 3, 10, 0), (61, .getfield 71, 3, 0, 4), (64, .ireturn, 1, 0, 0)]
def mX10_feed : ab_M := (yX10_feed, 10, cX10_feed, 6, (some .int), kX10_feed)
def kX10_end : List ab_I := [(0, .aload_n 0, 1, 0, 0), (1, .getfield 10, 3, 10, 0), (4, .iload_n 1, 1, 0, 0), (5, .invokevirtual 79, 3, 1, 1), (8, .ireturn, 1, 0, 0)]
def mX10_end : ab_M := (yX10_end, 10, cX10_end, 2, (some .int), kX10_end)
def kX10_cut : List ab_I := [(0, .aload_n 0, 1, 0, 0), (1, .getfield 10, 3, 10, 0), (4, .invokevirtual 83, 3, 2, 0), (7, .ireturn, 1, 0, 0)]
def mX10_cut : ab_M := (yX10_cut, 10, cX10_cut, 1, (some .int), kX10_cut)
def kX10_clear : List ab_I := [(0, .aload_n 0, 1, 0, 0), (1, .getfield 10, 3, 10, 0), (4, .invokevirtual 87, 3, 3, 0), (7, .ireturn, 1, 0, 0)]
def mX10_clear : ab_M := (yX10_clear, 10, cX10_clear, 1, (some .int), kX10_clear)
def kX10_build : List ab_I := [(0, .aload_n 0, 1, 0, 0), (1, .getfield 10, 3, 10, 0), (4, .getfield 90, 3, 0, 3), (7, .ifCond .eq 14, 3, 21, 0), (10, .iload_n 1, 1, 0, 0), (11, .iconst 1, 1, 0, 0), (12, .if_icmp .lt 9, 3, 21, 0), (15, .iload_n 1, 1, 0, 0), (16, .bipush 64, 2, 0, 0), (18, .if_icmp .le 5, 3, 23, 0), (21, .iconst (-1), 1, 0, 0), (22, .ireturn, 1, 0, 0), (23, .aload_n 0, 1, 0, 0), (24, .getfield 19, 3, 10, 1), (27, .aload_n 0, 1, 0, 0), (28, .getfield 10, 3, 10, 0), (31, .iload_n 1, 1, 0, 0), (32, .invokevirtual 93, 3, 16, 2), (35, .aload_n 0, 1, 0, 0), (36, .getfield 60, 3, 10, 6), (39, .invokevirtual 97, 3, 80, 0), (42, .aload_n 0, 1, 0, 0), (43, .getfield 67, 3, 10, 7), (46, .invokevirtual 99, 3, 42, 0), (49, .aload_n 0, 1, 0, 0), (50, .getfield 28, 3, 10, 2), (53, .iconst 0, 1, 0, 0), (54, .iconst 0, 1, 0, 0), (55, .invokevirtual 100, 3, 4, 2), (58, .aload_n 0, 1, 0, 0), (59, .getfield 37, 3, 10, 3), (62, .iconst 0, 1, 0, 0), (63, .putfield 104, 3, 4, 4), (66, .aload_n 0, 1, 0, 0), (67, .getfield 53, 3, 10, 5), (70, .invokevirtual 107, 3, 32, 0), (73, .aload_n 0, 1, 0, 0), (74, .getfield 19, 3, 10, 1), (77, .getfield 110, 3, 2, 8), (80, .ireturn, 1, 0, 0)]
def mX10_build : ab_M := (yX10_build, 10, cX10_build, 2, (some .int), kX10_build)
def kX10_place : List ab_I := [(0, .aload_n 0, 1, 0, 0), (1, .getfield 19, 3, 10, 1), (4, .iload_n 1, 1, 0, 0), (5, .invokevirtual 113, 3, 21, 1), (8, .ifCond .eq 22, 3, 30, 0), (11, .aload_n 0, 1, 0, 0), (12, .getfield 19, 3, 10, 1), (15, .aload_n 0, 1, 0, 0), (16, .getfield 19, 3, 10, 1), (19, .getfield 117, 3, 2, 3), (22, .iload_n 1, 1, 0, 0), (23, .iaload, 1, 0, 0), (24, .invokevirtual 121, 3, 26, 1), (27, .goto 4, 3, 31, 0), (30, .iconst (-1), 1, 0, 0), (31, .ireturn, 1, 0, 0)]
def mX10_place : ab_M := (yX10_place, 10, cX10_place, 2, (some .int), kX10_place)
def kX10_row : List ab_I := [(0, .aload_n 0, 1, 0, 0), (1, .getfield 19, 3, 10, 1), (4, .iload_n 1, 1, 0, 0), (5, .invokevirtual 113, 3, 21, 1), (8, .ifCond .eq 15, 3, 23, 0), (11, .aload_n 0, 1, 0, 0), (12, .getfield 19, 3, 10, 1), (15, .getfield 124, 3, 2, 4), (18, .iload_n 1, 1, 0, 0), (19, .iaload, 1, 0, 0), (20, .goto 4, 3, 24, 0), (23, .iconst (-1), 1, 0, 0), (24, .ireturn, 1, 0, 0)]
def mX10_row : ab_M := (yX10_row, 10, cX10_row, 2, (some .int), kX10_row)
def kX10_shared : List ab_I := [(0, .aload_n 0, 1, 0, 0), (1, .getfield 19, 3, 10, 1), (4, .iload_n 1, 1, 0, 0), (5, .invokevirtual 113, 3, 21, 1), (8, .ifCond .eq 15, 3, 23, 0), (11, .aload_n 0, 1, 0, 0), (12, .getfield 19, 3, 10, 1), (15, .getfield 127, 3, 2, 5), (18, .iload_n 1, 1, 0, 0), (19, .iaload, 1, 0, 0), (20, .goto 4, 3, 24, 0), (23, .iconst (-1), 1, 0, 0), (24, .ireturn, 1, 0, 0)]
def mX10_shared : ab_M := (yX10_shared, 10, cX10_shared, 2, (some .int), kX10_shared)
def kX10_before : List ab_I := [(0, .aload_n 0, 1, 0, 0), (1, .getfield 19, 3, 10, 1), (4, .iload_n 1, 1, 0, 0), (5, .invokevirtual 113, 3, 21, 1), (8, .ifCond .eq 15, 3, 23, 0), (11, .aload_n 0, 1, 0, 0), (12, .getfield 19, 3, 10, 1), (15, .getfield 130, 3, 2, 6), (18, .iload_n 1, 1, 0, 0), (19, .iaload, 1, 0, 0), (20, .goto 4, 3, 24, 0), (23, .iconst (-1), 1, 0, 0), (24, .ireturn, 1, 0, 0)]
def mX10_before : ab_M := (yX10_before, 10, cX10_before, 2, (some .int), kX10_before)
def kX10_step : List ab_I := [(0, .aload_n 0, 1, 0, 0), (1, .getfield 19, 3, 10, 1), (4, .iload_n 1, 1, 0, 0), (5, .invokevirtual 113, 3, 21, 1), (8, .ifCond .eq 14, 3, 22, 0), (11, .aload_n 0, 1, 0, 0), (12, .getfield 19, 3, 10, 1), (15, .iload_n 1, 1, 0, 0), (16, .invokevirtual 133, 3, 27, 1), (19, .goto 4, 3, 23, 0), (22, .iconst (-1), 1, 0, 0), (23, .ireturn, 1, 0, 0)]
def mX10_step : ab_M := (yX10_step, 10, cX10_step, 2, (some .int), kX10_step)
def kX10_rank : List ab_I := [(0, .iload_n 1, 1, 0, 0), (1, .invokestatic 136, 3, 157, 1), (4, .ifCond .eq 47, 3, 51, 0), (7, .iload_n 2, 1, 0, 0), (8, .aload_n 0, 1, 0, 0), (9, .getfield 19, 3, 10, 1), (12, .getfield 110, 3, 2, 8), (15, .if_icmp .eq 14, 3, 29, 0), (18, .aload_n 0, 1, 0, 0), (19, .getfield 19, 3, 10, 1), (22, .iload_n 2, 1, 0, 0), (23, .invokevirtual 113, 3, 21, 1), (26, .ifCond .eq 25, 3, 51, 0), (29, .aload_n 0, 1, 0, 0), (30, .getfield 19, 3, 10, 1), (33, .getfield 110, 3, 2, 8), (36, .ifCond .le 15, 3, 51, 0), (39, .aload_n 0, 1, 0, 0), (40, .getfield 19, 3, 10, 1), (43, .iload_n 1, 1, 0, 0), (44, .iload_n 2, 1, 0, 0), (45, .invokevirtual 139, 3, 28, 2), (48, .goto 4, 3, 52, 0), (51, .iconst (-1), 1, 0, 0), (52, .ireturn, 1, 0, 0)]
def mX10_rank : ab_M := (yX10_rank, 10, cX10_rank, 3, (some .int), kX10_rank)
def kX10_select : List ab_I := [(0, .iload_n 1, 1, 0, 0), (1, .invokestatic 136, 3, 157, 1), (4, .ifCond .eq 19, 3, 23, 0), (7, .iload_n 2, 1, 0, 0), (8, .ifCond .lt 15, 3, 23, 0), (11, .aload_n 0, 1, 0, 0), (12, .getfield 19, 3, 10, 1), (15, .iload_n 1, 1, 0, 0), (16, .iload_n 2, 1, 0, 0), (17, .invokevirtual 143, 3, 29, 2), (20, .goto 4, 3, 24, 0), (23, .iconst (-1), 1, 0, 0), (24, .ireturn, 1, 0, 0)]
def mX10_select : ab_M := (yX10_select, 10, cX10_select, 3, (some .int), kX10_select)
def kX10_byteAt : List ab_I := [(0, .aload_n 0, 1, 0, 0), (1, .getfield 19, 3, 10, 1), (4, .iload_n 1, 1, 0, 0), (5, .invokevirtual 113, 3, 21, 1), (8, .ifCond .eq 14, 3, 22, 0), (11, .aload_n 0, 1, 0, 0), (12, .getfield 19, 3, 10, 1), (15, .iload_n 1, 1, 0, 0), (16, .invokevirtual 146, 3, 25, 1), (19, .goto 4, 3, 23, 0), (22, .iconst (-1), 1, 0, 0), (23, .ireturn, 1, 0, 0)]
def mX10_byteAt : ab_M := (yX10_byteAt, 10, cX10_byteAt, 2, (some .int), kX10_byteAt)
def kX10_document : List ab_I := [(0, .iload_n 2, 1, 0, 0), (1, .iconst 2, 1, 0, 0), (2, .if_icmp .ne 28, 3, 30, 0), (5, .aload_n 0, 1, 0, 0), (6, .getfield 19, 3, 10, 1), (9, .iload_n 1, 1, 0, 0), (10, .invokevirtual 113, 3, 21, 1), (13, .ifCond .eq 15, 3, 28, 0), (16, .aload_n 0, 1, 0, 0), (17, .getfield 19, 3, 10, 1), (20, .getfield 149, 3, 2, 1), (23, .iload_n 1, 1, 0, 0), (24, .iaload, 1, 0, 0), (25, .goto 4, 3, 29, 0), (28, .iconst (-1), 1, 0, 0), (29, .ireturn, 1, 0, 0), (30, .iload_n 2, 1, 0, 0), (31, .ifCond .lt 19, 3, 50, 0), (34, .iload_n 2, 1, 0, 0), (35, .iconst 2, 1, 0, 0), (36, .if_icmp .gt 14, 3, 50, 0), (39, .aload_n 0, 1, 0, 0), (40, .getfield 19, 3, 10, 1), (43, .iload_n 1, 1, 0, 0), (44, .invokevirtual 152, 3, 22, 1), (47, .ifCond .ne 5, 3, 52, 0), (50, .iconst (-1), 1, 0, 0), (51, .ireturn, 1, 0, 0), (52, .iload_n 2, 1, 0, 0), (53, .ifCond .ne 15, 3, 68, 0), (56, .aload_n 0, 1, 0, 0), (57, .getfield 19, 3, 10, 1), (60, .getfield 155, 3, 2, 2), (63, .iload_n 1, 1, 0, 0), (64, .iaload, 1, 0, 0), (65, .goto 19, 3, 84, 0), (68, .aload_n 0, 1, 0, 0), (69, .getfield 19, 3, 10, 1), (72, .aload_n 0, 1, 0, 0), (73, .getfield 19, 3, 10, 1), (76, .getfield 155, 3, 2, 2), (79, .iload_n 1, 1, 0, 0), (80, .iaload, 1, 0, 0), (81, .invokevirtual 158, 3, 24, 1), (84, .ireturn, 1, 0, 0)]
def mX10_document : ab_M := (yX10_document, 10, cX10_document, 3, (some .int), kX10_document)
def kX10_alike : List ab_I := [(0, .aload_n 0, 1, 0, 0), (1, .getfield 19, 3, 10, 1), (4, .iload_n 1, 1, 0, 0), (5, .invokevirtual 113, 3, 21, 1), (8, .ifCond .eq 26, 3, 34, 0), (11, .aload_n 0, 1, 0, 0), (12, .getfield 19, 3, 10, 1), (15, .iload_n 2, 1, 0, 0), (16, .invokevirtual 113, 3, 21, 1), (19, .ifCond .eq 15, 3, 34, 0), (22, .aload_n 0, 1, 0, 0), (23, .getfield 19, 3, 10, 1), (26, .iload_n 1, 1, 0, 0), (27, .iload_n 2, 1, 0, 0), (28, .invokevirtual 161, 3, 20, 2), (31, .goto 4, 3, 35, 0), (34, .iconst (-1), 1, 0, 0), (35, .ireturn, 1, 0, 0)]
def mX10_alike : ab_M := (yX10_alike, 10, cX10_alike, 3, (some .int), kX10_alike)
def kX10_begin : List ab_I := [(0, .aload_n 0, 1, 0, 0), (1, .getfield 19, 3, 10, 1), (4, .getfield 110, 3, 2, 8), (7, .ifCond .ne 5, 3, 12, 0), (10, .iconst (-1), 1, 0, 0), (11, .ireturn, 1, 0, 0), (12, .aload_n 0, 1, 0, 0), (13, .getfield 28, 3, 10, 2), (16, .iconst 0, 1, 0, 0), (17, .iconst 0, 1, 0, 0), (18, .invokevirtual 100, 3, 4, 2), (21, .aload_n 0, 1, 0, 0), (22, .getfield 28, 3, 10, 2), (25, .invokevirtual 164, 3, 6, 0), (28, .ireturn, 1, 0, 0)]
def mX10_begin : ab_M := (yX10_begin, 10, cX10_begin, 1, (some .int), kX10_begin)
def kX10_grow : List ab_I := [(0, .aload_n 0, 1, 0, 0), (1, .getfield 19, 3, 10, 1), (4, .getfield 110, 3, 2, 8), (7, .ifCond .le 22, 3, 29, 0), (10, .iload_n 1, 1, 0, 0), (11, .invokestatic 136, 3, 157, 1), (14, .ifCond .eq 15, 3, 29, 0), (17, .aload_n 0, 1, 0, 0), (18, .getfield 28, 3, 10, 2), (21, .iconst 1, 1, 0, 0), (22, .iload_n 1, 1, 0, 0), (23, .invokevirtual 166, 3, 8, 2), (26, .goto 4, 3, 30, 0), (29, .iconst (-1), 1, 0, 0), (30, .ireturn, 1, 0, 0)]
def mX10_grow : ab_M := (yX10_grow, 10, cX10_grow, 2, (some .int), kX10_grow)
def kX10_front : List ab_I := [(0, .aload_n 0, 1, 0, 0), (1, .getfield 19, 3, 10, 1), (4, .getfield 110, 3, 2, 8), (7, .ifCond .le 22, 3, 29, 0), (10, .iload_n 1, 1, 0, 0), (11, .invokestatic 136, 3, 157, 1), (14, .ifCond .eq 15, 3, 29, 0), (17, .aload_n 0, 1, 0, 0), (18, .getfield 28, 3, 10, 2), (21, .iconst 0, 1, 0, 0), (22, .iload_n 1, 1, 0, 0), (23, .invokevirtual 166, 3, 8, 2), (26, .goto 4, 3, 30, 0), (29, .iconst (-1), 1, 0, 0), (30, .ireturn, 1, 0, 0)]
def mX10_front : ab_M := (yX10_front, 10, cX10_front, 2, (some .int), kX10_front)
def kX10_back : List ab_I := [(0, .aload_n 0, 1, 0, 0), (1, .getfield 28, 3, 10, 2), (4, .invokevirtual 170, 3, 9, 0), (7, .ireturn, 1, 0, 0)]
def mX10_back : ab_M := (yX10_back, 10, cX10_back, 1, (some .int), kX10_back)
def kX10_pattern : List ab_I := [(0, .aload_n 0, 1, 0, 0), (1, .getfield 19, 3, 10, 1), (4, .getfield 110, 3, 2, 8), (7, .ifCond .ne 5, 3, 12, 0), (10, .iconst (-1), 1, 0, 0), (11, .ireturn, 1, 0, 0), (12, .iload_n 1, 1, 0, 0), (13, .tableswitch 63 0 3 #[31, 39, 47, 55], 31, 0, 0), (44, .aload_n 0, 1, 0, 0), (45, .getfield 28, 3, 10, 2), (48, .getfield 173, 3, 1, 5), (51, .ireturn, 1, 0, 0), (52, .aload_n 0, 1, 0, 0), (53, .getfield 28, 3, 10, 2), (56, .getfield 176, 3, 1, 6), (59, .ireturn, 1, 0, 0), (60, .aload_n 0, 1, 0, 0), (61, .getfield 28, 3, 10, 2), (64, .invokevirtual 164, 3, 6, 0), (67, .ireturn, 1, 0, 0), (68, .aload_n 0, 1, 0, 0), (69, .getfield 28, 3, 10, 2), (72, .getfield 179, 3, 1, 3), (75, .ireturn, 1, 0, 0), (76, .iconst (-1), 1, 0, 0), (77, .ireturn, 1, 0, 0)]
def mX10_pattern : ab_M := (yX10_pattern, 10, cX10_pattern, 2, (some .int), kX10_pattern)
def kX10_patternByte : List ab_I := [(0, .iload_n 1, 1, 0, 0), (1, .ifCond .lt 34, 3, 35, 0), (4, .iload_n 1, 1, 0, 0), (5, .aload_n 0, 1, 0, 0), (6, .getfield 28, 3, 10, 2), (9, .getfield 173, 3, 1, 5), (12, .if_icmp .ge 23, 3, 35, 0), (15, .aload_n 0, 1, 0, 0), (16, .getfield 19, 3, 10, 1), (19, .getfield 182, 3, 2, 0), (22, .aload_n 0, 1, 0, 0), (23, .getfield 28, 3, 10, 2), (26, .getfield 185, 3, 1, 4), (29, .iload_n 1, 1, 0, 0), (30, .iadd, 1, 0, 0), (31, .iaload, 1, 0, 0), (32, .goto 4, 3, 36, 0), (35, .iconst (-1), 1, 0, 0), (36, .ireturn, 1, 0, 0)]
def mX10_patternByte : ab_M := (yX10_patternByte, 10, cX10_patternByte, 2, (some .int), kX10_patternByte)
def kX10_at : List ab_I := [(0, .iload_n 1, 1, 0, 0), (1, .ifCond .lt 41, 3, 42, 0), (4, .iload_n 1, 1, 0, 0), (5, .aload_n 0, 1, 0, 0), (6, .getfield 28, 3, 10, 2), (9, .invokevirtual 164, 3, 6, 0), (12, .if_icmp .ge 30, 3, 42, 0), (15, .aload_n 0, 1, 0, 0), (16, .getfield 19, 3, 10, 1), (19, .aload_n 0, 1, 0, 0), (20, .getfield 19, 3, 10, 1), (23, .getfield 117, 3, 2, 3), (26, .aload_n 0, 1, 0, 0), (27, .getfield 28, 3, 10, 2), (30, .getfield 176, 3, 1, 6), (33, .iload_n 1, 1, 0, 0), (34, .iadd, 1, 0, 0), (35, .iaload, 1, 0, 0), (36, .invokevirtual 121, 3, 26, 1), (39, .goto 4, 3, 43, 0), (42, .iconst (-1), 1, 0, 0), (43, .ireturn, 1, 0, 0)]
def mX10_at : ab_M := (yX10_at, 10, cX10_at, 2, (some .int), kX10_at)
def kX10_sorted : List ab_I := [(0, .iload_n 1, 1, 0, 0), (1, .ifCond .lt 25, 3, 26, 0), (4, .iload_n 1, 1, 0, 0), (5, .aload_n 0, 1, 0, 0), (6, .getfield 28, 3, 10, 2), (9, .invokevirtual 164, 3, 6, 0), (12, .if_icmp .ge 14, 3, 26, 0), (15, .aload_n 0, 1, 0, 0), (16, .getfield 28, 3, 10, 2), (19, .iload_n 1, 1, 0, 0), (20, .invokevirtual 188, 3, 10, 1), (23, .goto 4, 3, 27, 0), (26, .iconst (-1), 1, 0, 0), (27, .ireturn, 1, 0, 0)]
def mX10_sorted : ab_M := (yX10_sorted, 10, cX10_sorted, 2, (some .int), kX10_sorted)
def kX10_more : List ab_I := [(0, .aload_n 0, 1, 0, 0), (1, .getfield 19, 3, 10, 1), (4, .getfield 110, 3, 2, 8), (7, .ifCond .le 15, 3, 22, 0), (10, .aload_n 0, 1, 0, 0), (11, .getfield 28, 3, 10, 2), (14, .iload_n 1, 1, 0, 0), (15, .iload_n 2, 1, 0, 0), (16, .invokevirtual 191, 3, 11, 2), (19, .goto 4, 3, 23, 0), (22, .iconst (-1), 1, 0, 0), (23, .ireturn, 1, 0, 0)]
def mX10_more : ab_M := (yX10_more, 10, cX10_more, 3, (some .int), kX10_more)
def kX10_ranked : List ab_I := [(0, .aload_n 0, 1, 0, 0), (1, .getfield 19, 3, 10, 1), (4, .getfield 110, 3, 2, 8), (7, .ifCond .le 14, 3, 21, 0), (10, .aload_n 0, 1, 0, 0), (11, .getfield 28, 3, 10, 2), (14, .iload_n 1, 1, 0, 0), (15, .invokevirtual 194, 3, 14, 1), (18, .goto 4, 3, 22, 0), (21, .iconst (-1), 1, 0, 0), (22, .ireturn, 1, 0, 0)]
def mX10_ranked : ab_M := (yX10_ranked, 10, cX10_ranked, 2, (some .int), kX10_ranked)
def kX10_times : List ab_I := [(0, .aload_n 0, 1, 0, 0), (1, .getfield 19, 3, 10, 1), (4, .iload_n 1, 1, 0, 0), (5, .invokevirtual 152, 3, 22, 1), (8, .ifCond .eq 14, 3, 22, 0), (11, .aload_n 0, 1, 0, 0), (12, .getfield 28, 3, 10, 2), (15, .iload_n 1, 1, 0, 0), (16, .invokevirtual 197, 3, 12, 1), (19, .goto 4, 3, 23, 0), (22, .iconst (-1), 1, 0, 0), (23, .ireturn, 1, 0, 0)]
def mX10_times : ab_M := (yX10_times, 10, cX10_times, 2, (some .int), kX10_times)
def kX10_take : List ab_I := [(0, .aload_n 0, 1, 0, 0), (1, .getfield 19, 3, 10, 1), (4, .iload_n 1, 1, 0, 0), (5, .invokevirtual 113, 3, 21, 1), (8, .ifCond .eq 20, 3, 28, 0), (11, .iload_n 2, 1, 0, 0), (12, .iconst 1, 1, 0, 0), (13, .if_icmp .lt 15, 3, 28, 0), (16, .iload_n 2, 1, 0, 0), (17, .aload_n 0, 1, 0, 0), (18, .getfield 19, 3, 10, 1), (21, .iload_n 1, 1, 0, 0), (22, .invokevirtual 158, 3, 24, 1), (25, .if_icmp .le 5, 3, 30, 0), (28, .iconst (-1), 1, 0, 0), (29, .ireturn, 1, 0, 0), (30, .aload_n 0, 1, 0, 0), (31, .getfield 28, 3, 10, 2), (34, .iload_n 1, 1, 0, 0), (35, .iload_n 2, 1, 0, 0), (36, .invokevirtual 100, 3, 4, 2), (39, .aload_n 0, 1, 0, 0), (40, .getfield 28, 3, 10, 2), (43, .invokevirtual 164, 3, 6, 0), (46, .ireturn, 1, 0, 0)]
def mX10_take : ab_M := (yX10_take, 10, cX10_take, 3, (some .int), kX10_take)
def kX10_near : List ab_I := [(0, .iload_n 1, 1, 0, 0), (1, .ifCond .lt 41, 3, 42, 0), (4, .iload_n 1, 1, 0, 0), (5, .iconst 3, 1, 0, 0), (6, .if_icmp .gt 36, 3, 42, 0), (9, .aload_n 0, 1, 0, 0), (10, .getfield 28, 3, 10, 2), (13, .getfield 173, 3, 1, 5), (16, .ifCond .le 26, 3, 42, 0), (19, .aload_n 0, 1, 0, 0), (20, .getfield 28, 3, 10, 2), (23, .getfield 173, 3, 1, 5), (26, .bipush 40, 2, 0, 0), (28, .if_icmp .gt 14, 3, 42, 0), (31, .aload_n 0, 1, 0, 0), (32, .getfield 37, 3, 10, 3), (35, .iload_n 1, 1, 0, 0), (36, .invokevirtual 200, 3, 40, 1), (39, .goto 4, 3, 43, 0), (42, .iconst (-1), 1, 0, 0), (43, .ireturn, 1, 0, 0)]
def mX10_near : ab_M := (yX10_near, 10, cX10_near, 2, (some .int), kX10_near)
def kX10_nearOf : List ab_I := [(0, .iload_n 1, 1, 0, 0), (1, .ifCond .lt 23, 3, 24, 0), (4, .iload_n 1, 1, 0, 0), (5, .aload_n 0, 1, 0, 0), (6, .getfield 37, 3, 10, 3), (9, .getfield 104, 3, 4, 4), (12, .if_icmp .ge 12, 3, 24, 0), (15, .iload_n 2, 1, 0, 0), (16, .ifCond .lt 8, 3, 24, 0), (19, .iload_n 2, 1, 0, 0), (20, .iconst 1, 1, 0, 0), (21, .if_icmp .le 5, 3, 26, 0), (24, .iconst (-1), 1, 0, 0), (25, .ireturn, 1, 0, 0), (26, .iload_n 2, 1, 0, 0), (27, .ifCond .ne 15, 3, 42, 0), (30, .aload_n 0, 1, 0, 0), (31, .getfield 37, 3, 10, 3), (34, .getfield 203, 3, 4, 2), (37, .iload_n 1, 1, 0, 0), (38, .iaload, 1, 0, 0), (39, .goto 12, 3, 51, 0), (42, .aload_n 0, 1, 0, 0), (43, .getfield 37, 3, 10, 3), (46, .getfield 204, 3, 4, 3), (49, .iload_n 1, 1, 0, 0), (50, .iaload, 1, 0, 0), (51, .ireturn, 1, 0, 0)]
def mX10_nearOf : ab_M := (yX10_nearOf, 10, cX10_nearOf, 3, (some .int), kX10_nearOf)
def kX10_ask : List ab_I := [(0, .iload_n 1, 1, 0, 0), (1, .bipush 32, 2, 0, 0), (3, .if_icmp .lt 20, 3, 23, 0), (6, .iload_n 1, 1, 0, 0), (7, .bipush 126, 2, 0, 0), (9, .if_icmp .gt 14, 3, 23, 0), (12, .aload_n 0, 1, 0, 0), (13, .getfield 44, 3, 10, 4), (16, .iload_n 1, 1, 0, 0), (17, .invokevirtual 207, 3, 57, 1), (20, .goto 4, 3, 24, 0), (23, .iconst (-1), 1, 0, 0), (24, .ireturn, 1, 0, 0)]
def mX10_ask : ab_M := (yX10_ask, 10, cX10_ask, 2, (some .int), kX10_ask)
def kX10_answer : List ab_I := [(0, .aload_n 0, 1, 0, 0), (1, .getfield 19, 3, 10, 1), (4, .getfield 110, 3, 2, 8), (7, .ifCond .ne 5, 3, 12, 0), (10, .iconst (-1), 1, 0, 0), (11, .ireturn, 1, 0, 0), (12, .aload_n 0, 1, 0, 0), (13, .getfield 44, 3, 10, 4), (16, .invokevirtual 210, 3, 58, 0), (19, .istore_n 1, 1, 0, 0), (20, .aload_n 0, 1, 0, 0), (21, .getfield 44, 3, 10, 4), (24, .getfield 213, 3, 6, 8), (27, .istore_n 2, 1, 0, 0), (28, .iload_n 2, 1, 0, 0), (29, .bipush (-2), 2, 0, 0), (31, .if_icmp .ne 16, 3, 47, 0), (34, .iload_n 1, 1, 0, 0), (35, .bipush 120, 2, 0, 0), (37, .if_icmp .gt 10, 3, 47, 0), (40, .aload_n 0, 1, 0, 0), (41, .getfield 53, 3, 10, 5), (44, .invokevirtual 216, 3, 35, 0), (47, .aload_n 0, 1, 0, 0), (48, .getfield 44, 3, 10, 4), (51, .iconst 0, 1, 0, 0), (52, .putfield 219, 3, 6, 6), (55, .iload_n 2, 1, 0, 0), (56, .bipush (-2), 2, 0, 0), (58, .if_icmp .eq 8, 3, 66, 0), (61, .bipush (-2), 2, 0, 0), (63, .iload_n 2, 1, 0, 0), (64, .isub, 1, 0, 0), (65, .ireturn, 1, 0, 0), (66, .iload_n 1, 1, 0, 0), (67, .bipush 120, 2, 0, 0), (69, .if_icmp .le 9, 3, 78, 0), (72, .sipush (-1000), 3, 0, 0), (75, .goto 10, 3, 85, 0), (78, .aload_n 0, 1, 0, 0), (79, .getfield 53, 3, 10, 5), (82, .invokevirtual 222, 3, 33, 0), (85, .ireturn, 1, 0, 0)]
def mX10_answer : ab_M := (yX10_answer, 10, cX10_answer, 3, (some .int), kX10_answer)
def kX10_answered : List ab_I := [(0, .iload_n 1, 1, 0, 0), (1, .ifCond .lt 26, 3, 27, 0), (4, .iload_n 1, 1, 0, 0), (5, .aload_n 0, 1, 0, 0), (6, .getfield 53, 3, 10, 5), (9, .invokevirtual 222, 3, 33, 0), (12, .if_icmp .ge 15, 3, 27, 0), (15, .aload_n 0, 1, 0, 0), (16, .getfield 53, 3, 10, 5), (19, .iload_n 1, 1, 0, 0), (20, .iload_n 2, 1, 0, 0), (21, .invokevirtual 224, 3, 34, 2), (24, .goto 4, 3, 28, 0), (27, .iconst (-1), 1, 0, 0), (28, .ireturn, 1, 0, 0)]
def mX10_answered : ab_M := (yX10_answered, 10, cX10_answered, 3, (some .int), kX10_answered)
def kX10_different : List ab_I := [(0, .aload_n 0, 1, 0, 0), (1, .getfield 19, 3, 10, 1), (4, .getfield 110, 3, 2, 8), (7, .ifCond .le 18, 3, 25, 0), (10, .iload_n 1, 1, 0, 0), (11, .ifCond .lt 14, 3, 25, 0), (14, .aload_n 0, 1, 0, 0), (15, .getfield 60, 3, 10, 6), (18, .iload_n 1, 1, 0, 0), (19, .invokevirtual 227, 3, 83, 1), (22, .goto 4, 3, 26, 0), (25, .iconst (-1), 1, 0, 0), (26, .ireturn, 1, 0, 0)]
def mX10_different : ab_M := (yX10_different, 10, cX10_different, 2, (some .int), kX10_different)
def kX10_kth : List ab_I := [(0, .iload_n 1, 1, 0, 0), (1, .ifCond .lt 14, 3, 15, 0), (4, .aload_n 0, 1, 0, 0), (5, .getfield 60, 3, 10, 6), (8, .iload_n 1, 1, 0, 0), (9, .invokevirtual 230, 3, 84, 1), (12, .goto 4, 3, 16, 0), (15, .iconst (-1), 1, 0, 0), (16, .ireturn, 1, 0, 0)]
def mX10_kth : ab_M := (yX10_kth, 10, cX10_kth, 2, (some .int), kX10_kth)
def kX10_order : List ab_I := [(0, .aload_n 0, 1, 0, 0), (1, .getfield 19, 3, 10, 1), (4, .getfield 110, 3, 2, 8), (7, .ifCond .le 13, 3, 20, 0), (10, .aload_n 0, 1, 0, 0), (11, .getfield 60, 3, 10, 6), (14, .invokevirtual 233, 3, 85, 0), (17, .goto 4, 3, 21, 0), (20, .iconst (-1), 1, 0, 0), (21, .ireturn, 1, 0, 0)]
def mX10_order : ab_M := (yX10_order, 10, cX10_order, 1, (some .int), kX10_order)
def kX10_repeated : List ab_I := [(0, .aload_n 0, 1, 0, 0), (1, .getfield 19, 3, 10, 1), (4, .getfield 110, 3, 2, 8), (7, .ifCond .le 20, 3, 27, 0), (10, .iload_n 1, 1, 0, 0), (11, .iconst 2, 1, 0, 0), (12, .if_icmp .lt 15, 3, 27, 0), (15, .aload_n 0, 1, 0, 0), (16, .getfield 60, 3, 10, 6), (19, .iload_n 1, 1, 0, 0), (20, .iconst 0, 1, 0, 0), (21, .invokevirtual 236, 3, 86, 2), (24, .goto 4, 3, 28, 0), (27, .iconst (-1), 1, 0, 0), (28, .ireturn, 1, 0, 0)]
def mX10_repeated : ab_M := (yX10_repeated, 10, cX10_repeated, 2, (some .int), kX10_repeated)
def kX10_common : List ab_I := [(0, .aload_n 0, 1, 0, 0), (1, .getfield 19, 3, 10, 1), (4, .getfield 110, 3, 2, 8), (7, .ifCond .le 20, 3, 27, 0), (10, .iload_n 1, 1, 0, 0), (11, .iconst 1, 1, 0, 0), (12, .if_icmp .lt 15, 3, 27, 0), (15, .aload_n 0, 1, 0, 0), (16, .getfield 60, 3, 10, 6), (19, .iload_n 1, 1, 0, 0), (20, .iconst 1, 1, 0, 0), (21, .invokevirtual 236, 3, 86, 2), (24, .goto 4, 3, 28, 0), (27, .iconst (-1), 1, 0, 0), (28, .ireturn, 1, 0, 0)]
def mX10_common : ab_M := (yX10_common, 10, cX10_common, 2, (some .int), kX10_common)
def kX10_oftenest : List ab_I := [(0, .aload_n 0, 1, 0, 0), (1, .getfield 19, 3, 10, 1), (4, .getfield 110, 3, 2, 8), (7, .ifCond .le 19, 3, 26, 0), (10, .iload_n 1, 1, 0, 0), (11, .iconst 1, 1, 0, 0), (12, .if_icmp .lt 14, 3, 26, 0), (15, .aload_n 0, 1, 0, 0), (16, .getfield 60, 3, 10, 6), (19, .iload_n 1, 1, 0, 0), (20, .invokevirtual 240, 3, 88, 1), (23, .goto 4, 3, 27, 0), (26, .iconst (-1), 1, 0, 0), (27, .ireturn, 1, 0, 0)]
def mX10_oftenest : ab_M := (yX10_oftenest, 10, cX10_oftenest, 2, (some .int), kX10_oftenest)
def kX10_unique : List ab_I := [(0, .aload_n 0, 1, 0, 0), (1, .getfield 19, 3, 10, 1), (4, .iload_n 1, 1, 0, 0), (5, .invokevirtual 113, 3, 21, 1), (8, .ifCond .eq 26, 3, 34, 0), (11, .aload_n 0, 1, 0, 0), (12, .getfield 19, 3, 10, 1), (15, .getfield 182, 3, 2, 0), (18, .iload_n 1, 1, 0, 0), (19, .iaload, 1, 0, 0), (20, .ifCond .lt 14, 3, 34, 0), (23, .aload_n 0, 1, 0, 0), (24, .getfield 60, 3, 10, 6), (27, .iload_n 1, 1, 0, 0), (28, .invokevirtual 243, 3, 89, 1), (31, .goto 4, 3, 35, 0), (34, .iconst (-1), 1, 0, 0), (35, .ireturn, 1, 0, 0)]
def mX10_unique : ab_M := (yX10_unique, 10, cX10_unique, 2, (some .int), kX10_unique)
def kX10_maximal : List ab_I := [(0, .aload_n 0, 1, 0, 0), (1, .getfield 19, 3, 10, 1), (4, .getfield 110, 3, 2, 8), (7, .ifCond .le 19, 3, 26, 0), (10, .iload_n 1, 1, 0, 0), (11, .iconst (-1), 1, 0, 0), (12, .if_icmp .lt 14, 3, 26, 0), (15, .aload_n 0, 1, 0, 0), (16, .getfield 60, 3, 10, 6), (19, .iload_n 1, 1, 0, 0), (20, .invokevirtual 246, 3, 90, 1), (23, .goto 4, 3, 27, 0), (26, .iconst (-1), 1, 0, 0), (27, .ireturn, 1, 0, 0)]
def mX10_maximal : ab_M := (yX10_maximal, 10, cX10_maximal, 2, (some .int), kX10_maximal)
def kX10_absent : List ab_I := [(0, .aload_n 0, 1, 0, 0), (1, .getfield 19, 3, 10, 1), (4, .getfield 110, 3, 2, 8), (7, .ifCond .le 19, 3, 26, 0), (10, .iload_n 1, 1, 0, 0), (11, .iconst 2, 1, 0, 0), (12, .if_icmp .lt 14, 3, 26, 0), (15, .aload_n 0, 1, 0, 0), (16, .getfield 60, 3, 10, 6), (19, .iload_n 1, 1, 0, 0), (20, .invokevirtual 249, 3, 93, 1), (23, .goto 4, 3, 27, 0), (26, .iconst (-1), 1, 0, 0), (27, .ireturn, 1, 0, 0)]
def mX10_absent : ab_M := (yX10_absent, 10, cX10_absent, 2, (some .int), kX10_absent)
def kX10_factor : List ab_I := [(0, .aload_n 0, 1, 0, 0), (1, .getfield 19, 3, 10, 1), (4, .iload_n 1, 1, 0, 0), (5, .invokevirtual 152, 3, 22, 1), (8, .ifCond .eq 8, 3, 16, 0), (11, .iload_n 2, 1, 0, 0), (12, .iconst (-1), 1, 0, 0), (13, .if_icmp .ge 5, 3, 18, 0), (16, .iconst (-1), 1, 0, 0), (17, .ireturn, 1, 0, 0), (18, .iload_n 2, 1, 0, 0), (19, .iconst (-1), 1, 0, 0), (20, .if_icmp .ne 12, 3, 32, 0), (23, .aload_n 0, 1, 0, 0), (24, .getfield 67, 3, 10, 7), (27, .iload_n 1, 1, 0, 0), (28, .invokevirtual 252, 3, 47, 1), (31, .ireturn, 1, 0, 0), (32, .iload_n 3, 1, 0, 0), (33, .ifCond .lt 21, 3, 54, 0), (36, .iload_n 3, 1, 0, 0), (37, .iconst 2, 1, 0, 0), (38, .if_icmp .gt 16, 3, 54, 0), (41, .aload_n 0, 1, 0, 0), (42, .getfield 67, 3, 10, 7), (45, .iload_n 1, 1, 0, 0), (46, .iload_n 2, 1, 0, 0), (47, .iload_n 3, 1, 0, 0), (48, .invokevirtual 255, 3, 48, 3), (51, .goto 4, 3, 55, 0), (54, .iconst (-1), 1, 0, 0), (55, .ireturn, 1, 0, 0)]
def mX10_factor : ab_M := (yX10_factor, 10, cX10_factor, 4, (some .int), kX10_factor)
def kX10_word : List ab_I := [(0, .aload_n 0, 1, 0, 0), (1, .getfield 19, 3, 10, 1), (4, .iload_n 1, 1, 0, 0), (5, .invokevirtual 152, 3, 22, 1), (8, .ifCond .eq 20, 3, 28, 0), (11, .iload_n 2, 1, 0, 0), (12, .iconst (-1), 1, 0, 0), (13, .if_icmp .lt 15, 3, 28, 0), (16, .aload_n 0, 1, 0, 0), (17, .getfield 67, 3, 10, 7), (20, .iload_n 1, 1, 0, 0), (21, .iload_n 2, 1, 0, 0), (22, .invokevirtual 259, 3, 50, 2), (25, .goto 4, 3, 29, 0), (28, .iconst (-1), 1, 0, 0), (29, .ireturn, 1, 0, 0)]
def mX10_word : ab_M := (yX10_word, 10, cX10_word, 3, (some .int), kX10_word)
def kX10_square : List ab_I := [(0, .aload_n 0, 1, 0, 0), (1, .getfield 19, 3, 10, 1), (4, .iload_n 1, 1, 0, 0), (5, .invokevirtual 113, 3, 21, 1), (8, .ifCond .eq 14, 3, 22, 0), (11, .aload_n 0, 1, 0, 0), (12, .getfield 67, 3, 10, 7), (15, .iload_n 1, 1, 0, 0), (16, .invokevirtual 262, 3, 53, 1), (19, .goto 4, 3, 23, 0), (22, .iconst (-1), 1, 0, 0), (23, .ireturn, 1, 0, 0)]
def mX10_square : ab_M := (yX10_square, 10, cX10_square, 2, (some .int), kX10_square)
def kX10_mirror : List ab_I := [(0, .aload_n 0, 1, 0, 0), (1, .getfield 19, 3, 10, 1), (4, .iload_n 1, 1, 0, 0), (5, .invokevirtual 113, 3, 21, 1), (8, .ifCond .eq 14, 3, 22, 0), (11, .aload_n 0, 1, 0, 0), (12, .getfield 67, 3, 10, 7), (15, .iload_n 1, 1, 0, 0), (16, .invokevirtual 265, 3, 55, 1), (19, .goto 4, 3, 23, 0), (22, .iconst (-1), 1, 0, 0), (23, .ireturn, 1, 0, 0)]
def mX10_mirror : ab_M := (yX10_mirror, 10, cX10_mirror, 2, (some .int), kX10_mirror)
def kX10_match : List ab_I := [(0, .aload_n 0, 1, 0, 0), (1, .getfield 19, 3, 10, 1), (4, .iload_n 1, 1, 0, 0), (5, .invokevirtual 113, 3, 21, 1), (8, .ifCond .eq 26, 3, 34, 0), (11, .aload_n 0, 1, 0, 0), (12, .getfield 19, 3, 10, 1), (15, .iload_n 2, 1, 0, 0), (16, .invokevirtual 152, 3, 22, 1), (19, .ifCond .eq 15, 3, 34, 0), (22, .aload_n 0, 1, 0, 0), (23, .getfield 67, 3, 10, 7), (26, .iload_n 1, 1, 0, 0), (27, .iload_n 2, 1, 0, 0), (28, .invokevirtual 268, 3, 56, 2), (31, .goto 4, 3, 35, 0), (34, .iconst (-1), 1, 0, 0), (35, .ireturn, 1, 0, 0)]
def mX10_match : ab_M := (yX10_match, 10, cX10_match, 3, (some .int), kX10_match)
def kX10_count : List ab_I := [(0, .iload_n 1, 1, 0, 0), (1, .tableswitch 51 8 10 #[27, 35, 43], 27, 0, 0), (28, .aload_n 0, 1, 0, 0), (29, .getfield 10, 3, 10, 0), (32, .getfield 90, 3, 0, 3), (35, .ireturn, 1, 0, 0), (36, .aload_n 0, 1, 0, 0), (37, .getfield 10, 3, 10, 0), (40, .getfield 71, 3, 0, 4), (43, .ireturn, 1, 0, 0), (44, .aload_n 0, 1, 0, 0), (45, .getfield 44, 3, 10, 4), (48, .getfield 219, 3, 6, 6), (51, .ireturn, 1, 0, 0), (52, .aload_n 0, 1, 0, 0), (53, .getfield 19, 3, 10, 1), (56, .getfield 110, 3, 2, 8), (59, .ifCond .le 11, 3, 70, 0), (62, .aload_n 0, 1, 0, 0), (63, .iload_n 1, 1, 0, 0), (64, .invokevirtual 271, 3, 156, 1), (67, .goto 4, 3, 71, 0), (70, .iconst (-1), 1, 0, 0), (71, .ireturn, 1, 0, 0)]
def mX10_count : ab_M := (yX10_count, 10, cX10_count, 2, (some .int), kX10_count)
def kX10_unwound : List ab_I := [(0, .aload_n 0, 1, 0, 0), (1, .getfield 19, 3, 10, 1), (4, .iload_n 1, 1, 0, 0), (5, .invokevirtual 152, 3, 22, 1), (8, .ifCond .eq 27, 3, 35, 0), (11, .iload_n 2, 1, 0, 0), (12, .ifCond .lt 23, 3, 35, 0), (15, .iload_n 2, 1, 0, 0), (16, .aload_n 0, 1, 0, 0), (17, .getfield 19, 3, 10, 1), (20, .aload_n 0, 1, 0, 0), (21, .getfield 19, 3, 10, 1), (24, .getfield 155, 3, 2, 2), (27, .iload_n 1, 1, 0, 0), (28, .iaload, 1, 0, 0), (29, .invokevirtual 158, 3, 24, 1), (32, .if_icmp .lt 5, 3, 37, 0), (35, .iconst (-1), 1, 0, 0), (36, .ireturn, 1, 0, 0), (37, .aload_n 0, 1, 0, 0), (38, .getfield 19, 3, 10, 1), (41, .getfield 182, 3, 2, 0), (44, .aload_n 0, 1, 0, 0), (45, .getfield 19, 3, 10, 1), (48, .iload_n 1, 1, 0, 0), (49, .invokevirtual 274, 3, 23, 1), (52, .iconst 1, 1, 0, 0), (53, .isub, 1, 0, 0), (54, .iload_n 2, 1, 0, 0), (55, .isub, 1, 0, 0), (56, .iaload, 1, 0, 0), (57, .ireturn, 1, 0, 0)]
def mX10_unwound : ab_M := (yX10_unwound, 10, cX10_unwound, 3, (some .int), kX10_unwound)
def kX10_countOfIndex : List ab_I := [(0, .iload_n 1, 1, 0, 0), (1, .tableswitch 122 0 7 #[47, 55, 63, 71, 79, 97, 105, 113], 47, 0, 0), (48, .aload_n 0, 1, 0, 0), (49, .getfield 19, 3, 10, 1), (52, .getfield 110, 3, 2, 8), (55, .ireturn, 1, 0, 0), (56, .aload_n 0, 1, 0, 0), (57, .getfield 19, 3, 10, 1), (60, .getfield 277, 3, 2, 9), (63, .ireturn, 1, 0, 0), (64, .aload_n 0, 1, 0, 0), (65, .getfield 19, 3, 10, 1), (68, .getfield 278, 3, 2, 10), (71, .ireturn, 1, 0, 0), (72, .aload_n 0, 1, 0, 0), (73, .getfield 19, 3, 10, 1), (76, .getfield 281, 3, 2, 11), (79, .ireturn, 1, 0, 0), (80, .aload_n 0, 1, 0, 0), (81, .getfield 60, 3, 10, 6), (84, .getfield 284, 3, 7, 3), (87, .aload_n 0, 1, 0, 0), (88, .getfield 19, 3, 10, 1), (91, .getfield 110, 3, 2, 8), (94, .iconst 1, 1, 0, 0), (95, .isub, 1, 0, 0), (96, .iaload, 1, 0, 0), (97, .ireturn, 1, 0, 0), (98, .aload_n 0, 1, 0, 0), (99, .getfield 19, 3, 10, 1), (102, .invokevirtual 287, 3, 30, 0), (105, .ireturn, 1, 0, 0), (106, .aload_n 0, 1, 0, 0), (107, .getfield 19, 3, 10, 1), (110, .invokevirtual 290, 3, 31, 0), (113, .ireturn, 1, 0, 0), (114, .aload_n 0, 1, 0, 0), (115, .getfield 60, 3, 10, 6), (118, .iconst 1, 1, 0, 0), (119, .invokevirtual 227, 3, 83, 1), (122, .ireturn, 1, 0, 0), (123, .iconst (-1), 1, 0, 0), (124, .ireturn, 1, 0, 0)]
def mX10_countOfIndex : ab_M := (yX10_countOfIndex, 10, cX10_countOfIndex, 2, (some .int), kX10_countOfIndex)
def kX10_isByte : List ab_I := [(0, .iload_n 0, 1, 0, 0), (1, .ifCond .lt 14, 3, 15, 0), (4, .iload_n 0, 1, 0, 0), (5, .sipush 256, 3, 0, 0), (8, .if_icmp .ge 7, 3, 15, 0), (11, .iconst 1, 1, 0, 0), (12, .goto 4, 3, 16, 0), (15, .iconst 0, 1, 0, 0), (16, .ireturn, 1, 0, 0)]
def mX10_isByte : ab_M := (yX10_isByte, 10, cX10_isByte, 1, (some .boolean), kX10_isByte)
def kX11_feed : List ab_I := [(0, .aload_n 0, 1, 0, 0), (1, .getfield 155, 3, 11, 5), (4, .bipush 20, 2, 0, 0), (6, .iadd, 1, 0, 0), (7, .sipush 3000, 3, 0, 0), (10, .if_icmp .le 5, 3, 15, 0), (13, .iconst (-1), 1, 0, 0), (14, .ireturn, 1, 0, 0), (15, .iconst 0, 1, 0, 0), (16, .istore 6, 2, 0, 0), (18, .iload 6, 2, 0, 0), (20, .bipush 20, 2, 0, 0), (22, .if_icmp .ge 93, 3, 115, 0), (25, .iload 6, 2, 0, 0), (27, .iconst 4, 1, 0, 0), (28, .if_icmp .ge 7, 3, 35, 0), (31, .iload_n 1, 1, 0, 0), (32, .goto 39, 3, 71, 0), (35, .iload 6, 2, 0, 0), (37, .bipush 8, 2, 0, 0), (39, .if_icmp .ge 7, 3, 46, 0), (42, .iload_n 2, 1, 0, 0), (43, .goto 28, 3, 71, 0), (46, .iload 6, 2, 0, 0), (48, .bipush 12, 2, 0, 0), (50, .if_icmp .ge 7, 3, 57, 0), (53, .iload_n 3, 1, 0, 0), (54, .goto 17, 3, 71, 0), (57, .iload 6, 2, 0, 0), (59, .bipush 16, 2, 0, 0), (61, .if_icmp .ge 8, 3, 69, 0), (64, .iload 4, 2, 0, 0), (66, .goto 5, 3, 71, 0), (69, .iload 5, 2, 0, 0), (71, .istore 7, 2, 0, 0), (73, .aload_n 0, 1, 0, 0), (74, .getfield 16, 3, 11, 4), (77, .aload_n 0, 1, 0, 0), (78, .getfield 155, 3, 11, 5), (81, .iload 7, 2, 0, 0), (83, .bipush 24, 2, 0, 0), (85, .iload 6, 2, 0, 0), (87, .iconst 4, 1, 0, 0), (88, .irem, 1, 0, 0), (89, .bipush 8, 2, 0, 0), (91, .imul, 1, 0, 0), (92, .isub, 1, 0, 0), (93, .ishr, 1, 0, 0), (94, .sipush 255, 3, 0, 0), (97, .iand, 1, 0, 0), (98, .iastore, 1, 0, 0), (99, .aload_n 0, 1, 0, 0), (100, .dup, 1, 0, 0), (101, .getfield 155, 3, 11, 5), (104, .iconst 1, 1, 0, 0), (105, .iadd, 1, 0, 0), (106, .putfield 155, 3, 11, 5), (109, .iinc 6 1, 3, 0, 0), (112, .goto (-94), 3, 18, 0), (115, .aload_n 0, 1, 0, 0), (116, .getfield 155, 3, 11, 5), (119, .ireturn, 1, 0, 0)]
def mX11_feed : ab_M := (yX11_feed, 11, cX11_feed, 8, (some .int), kX11_feed)
def kX11_end : List ab_I := [(0, .iload_n 1, 1, 0, 0), (1, .ifCond .lt 18, 3, 19, 0), (4, .iload_n 1, 1, 0, 0), (5, .bipush 20, 2, 0, 0), (7, .if_icmp .gt 12, 3, 19, 0), (10, .aload_n 0, 1, 0, 0), (11, .getfield 155, 3, 11, 5), (14, .bipush 20, 2, 0, 0), (16, .if_icmp .ge 5, 3, 21, 0), (19, .iconst (-1), 1, 0, 0), (20, .ireturn, 1, 0, 0), (21, .aload_n 0, 1, 0, 0), (22, .dup, 1, 0, 0), (23, .getfield 155, 3, 11, 5), (26, .iload_n 1, 1, 0, 0), (27, .bipush 20, 2, 0, 0), (29, .isub, 1, 0, 0), (30, .iadd, 1, 0, 0), (31, .putfield 155, 3, 11, 5), (34, .aload_n 0, 1, 0, 0), (35, .getfield 155, 3, 11, 5), (38, .ireturn, 1, 0, 0)]
def mX11_end : ab_M := (yX11_end, 11, cX11_end, 2, (some .int), kX11_end)
def kX11_cut : List ab_I := [(0, .aload_n 0, 1, 0, 0), (1, .getfield 159, 3, 11, 3), (4, .bipush 40, 2, 0, 0), (6, .if_icmp .eq 20, 3, 26, 0), (9, .aload_n 0, 1, 0, 0), (10, .getfield 162, 3, 11, 1), (13, .aload_n 0, 1, 0, 0), (14, .getfield 155, 3, 11, 5), (17, .iadd, 1, 0, 0), (18, .iconst 1, 1, 0, 0), (19, .iadd, 1, 0, 0), (20, .sipush 3000, 3, 0, 0), (23, .if_icmp .le 5, 3, 28, 0), (26, .iconst (-1), 1, 0, 0), (27, .ireturn, 1, 0, 0), (28, .iconst 0, 1, 0, 0), (29, .istore_n 1, 1, 0, 0), (30, .iload_n 1, 1, 0, 0), (31, .aload_n 0, 1, 0, 0), (32, .getfield 155, 3, 11, 5), (35, .if_icmp .ge 26, 3, 61, 0), (38, .aload_n 0, 1, 0, 0), (39, .getfield 7, 3, 11, 0), (42, .aload_n 0, 1, 0, 0), (43, .getfield 162, 3, 11, 1), (46, .iload_n 1, 1, 0, 0), (47, .iadd, 1, 0, 0), (48, .aload_n 0, 1, 0, 0), (49, .getfield 16, 3, 11, 4), (52, .iload_n 1, 1, 0, 0), (53, .iaload, 1, 0, 0), (54, .iastore, 1, 0, 0), (55, .iinc 1 1, 3, 0, 0), (58, .goto (-28), 3, 30, 0), (61, .aload_n 0, 1, 0, 0), (62, .dup, 1, 0, 0), (63, .getfield 162, 3, 11, 1), (66, .aload_n 0, 1, 0, 0), (67, .getfield 155, 3, 11, 5), (70, .iadd, 1, 0, 0), (71, .putfield 162, 3, 11, 1), (74, .aload_n 0, 1, 0, 0), (75, .getfield 7, 3, 11, 0), (78, .aload_n 0, 1, 0, 0), (79, .getfield 162, 3, 11, 1), (82, .iconst (-1), 1, 0, 0), (83, .iastore, 1, 0, 0), (84, .aload_n 0, 1, 0, 0), (85, .dup, 1, 0, 0), (86, .getfield 162, 3, 11, 1), (89, .iconst 1, 1, 0, 0), (90, .iadd, 1, 0, 0), (91, .putfield 162, 3, 11, 1), (94, .aload_n 0, 1, 0, 0), (95, .getfield 13, 3, 11, 2), (98, .aload_n 0, 1, 0, 0), (99, .getfield 159, 3, 11, 3), (102, .aload_n 0, 1, 0, 0), (103, .getfield 155, 3, 11, 5), (106, .iastore, 1, 0, 0), (107, .aload_n 0, 1, 0, 0), (108, .iconst 0, 1, 0, 0), (109, .putfield 155, 3, 11, 5), (112, .aload_n 0, 1, 0, 0), (113, .dup, 1, 0, 0), (114, .getfield 159, 3, 11, 3), (117, .iconst 1, 1, 0, 0), (118, .iadd, 1, 0, 0), (119, .putfield 159, 3, 11, 3), (122, .aload_n 0, 1, 0, 0), (123, .getfield 159, 3, 11, 3), (126, .iconst 1, 1, 0, 0), (127, .isub, 1, 0, 0), (128, .ireturn, 1, 0, 0)]
def mX11_cut : ab_M := (yX11_cut, 11, cX11_cut, 2, (some .int), kX11_cut)
def kX11_clear : List ab_I := [(0, .aload_n 0, 1, 0, 0), (1, .getfield 159, 3, 11, 3), (4, .istore_n 1, 1, 0, 0), (5, .aload_n 0, 1, 0, 0), (6, .iconst 0, 1, 0, 0), (7, .putfield 159, 3, 11, 3), (10, .aload_n 0, 1, 0, 0), (11, .iconst 0, 1, 0, 0), (12, .putfield 162, 3, 11, 1), (15, .aload_n 0, 1, 0, 0), (16, .iconst 0, 1, 0, 0), (17, .putfield 155, 3, 11, 5), (20, .iload_n 1, 1, 0, 0), (21, .ireturn, 1, 0, 0)]
def mX11_clear : ab_M := (yX11_clear, 11, cX11_clear, 2, (some .int), kX11_clear)
def kX11_keyAt : List ab_I := [(0, .iload_n 1, 1, 0, 0), (1, .aload_n 0, 1, 0, 0), (2, .getfield 165, 3, 11, 7), (5, .if_icmp .ge 14, 3, 19, 0), (8, .aload_n 0, 1, 0, 0), (9, .getfield 34, 3, 11, 16), (12, .iload_n 1, 1, 0, 0), (13, .iaload, 1, 0, 0), (14, .iconst 1, 1, 0, 0), (15, .iadd, 1, 0, 0), (16, .goto 4, 3, 20, 0), (19, .iconst 0, 1, 0, 0), (20, .ireturn, 1, 0, 0)]
def mX11_keyAt : ab_M := (yX11_keyAt, 11, cX11_keyAt, 2, (some .int), kX11_keyAt)
def kX11_sortBy : List ab_I := [(0, .iconst 0, 1, 0, 0), (1, .istore_n 2, 1, 0, 0), (2, .aload_n 0, 1, 0, 0), (3, .getfield 165, 3, 11, 7), (6, .iload_n 1, 1, 0, 0), (7, .isub, 1, 0, 0), (8, .ifCond .ge 7, 3, 15, 0), (11, .iconst 0, 1, 0, 0), (12, .goto 9, 3, 21, 0), (15, .aload_n 0, 1, 0, 0), (16, .getfield 165, 3, 11, 7), (19, .iload_n 1, 1, 0, 0), (20, .isub, 1, 0, 0), (21, .istore_n 3, 1, 0, 0), (22, .iload_n 3, 1, 0, 0), (23, .aload_n 0, 1, 0, 0), (24, .getfield 165, 3, 11, 7), (27, .if_icmp .ge 19, 3, 46, 0), (30, .aload_n 0, 1, 0, 0), (31, .getfield 40, 3, 11, 18), (34, .iload_n 2, 1, 0, 0), (35, .iload_n 3, 1, 0, 0), (36, .iastore, 1, 0, 0), (37, .iinc 2 1, 3, 0, 0), (40, .iinc 3 1, 3, 0, 0), (43, .goto (-21), 3, 22, 0), (46, .iconst 0, 1, 0, 0), (47, .istore_n 3, 1, 0, 0), (48, .iload_n 3, 1, 0, 0), (49, .aload_n 0, 1, 0, 0), (50, .getfield 165, 3, 11, 7), (53, .if_icmp .ge 36, 3, 89, 0), (56, .aload_n 0, 1, 0, 0), (57, .getfield 31, 3, 11, 15), (60, .iload_n 3, 1, 0, 0), (61, .iaload, 1, 0, 0), (62, .iload_n 1, 1, 0, 0), (63, .if_icmp .lt 20, 3, 83, 0), (66, .aload_n 0, 1, 0, 0), (67, .getfield 40, 3, 11, 18), (70, .iload_n 2, 1, 0, 0), (71, .aload_n 0, 1, 0, 0), (72, .getfield 31, 3, 11, 15), (75, .iload_n 3, 1, 0, 0), (76, .iaload, 1, 0, 0), (77, .iload_n 1, 1, 0, 0), (78, .isub, 1, 0, 0), (79, .iastore, 1, 0, 0), (80, .iinc 2 1, 3, 0, 0), (83, .iinc 3 1, 3, 0, 0), (86, .goto (-38), 3, 48, 0), (89, .iconst 0, 1, 0, 0), (90, .istore_n 3, 1, 0, 0), (91, .iload_n 3, 1, 0, 0), (92, .aload_n 0, 1, 0, 0), (93, .getfield 165, 3, 11, 7), (96, .iconst 2, 1, 0, 0), (97, .iadd, 1, 0, 0), (98, .if_icmp .ge 16, 3, 114, 0), (101, .aload_n 0, 1, 0, 0), (102, .getfield 46, 3, 11, 20), (105, .iload_n 3, 1, 0, 0), (106, .iconst 0, 1, 0, 0), (107, .iastore, 1, 0, 0), (108, .iinc 3 1, 3, 0, 0), (111, .goto (-20), 3, 91, 0), (114, .iconst 0, 1, 0, 0), (115, .istore_n 3, 1, 0, 0), (116, .iload_n 3, 1, 0, 0), (117, .aload_n 0, 1, 0, 0), (118, .getfield 165, 3, 11, 7), (121, .if_icmp .ge 26, 3, 147, 0), (124, .aload_n 0, 1, 0, 0), (125, .getfield 46, 3, 11, 20), (128, .aload_n 0, 1, 0, 0), (129, .getfield 34, 3, 11, 16), (132, .iload_n 3, 1, 0, 0), (133, .iaload, 1, 0, 0), (134, .iconst 1, 1, 0, 0), (135, .iadd, 1, 0, 0), (136, .dup2, 1, 0, 0), (137, .iaload, 1, 0, 0), (138, .iconst 1, 1, 0, 0), (139, .iadd, 1, 0, 0), (140, .iastore, 1, 0, 0), (141, .iinc 3 1, 3, 0, 0), (144, .goto (-28), 3, 116, 0), (147, .iconst 1, 1, 0, 0), (148, .istore_n 3, 1, 0, 0), (149, .iload_n 3, 1, 0, 0), (150, .aload_n 0, 1, 0, 0), (151, .getfield 165, 3, 11, 7), (154, .iconst 2, 1, 0, 0), (155, .iadd, 1, 0, 0), (156, .if_icmp .ge 26, 3, 182, 0), (159, .aload_n 0, 1, 0, 0), (160, .getfield 46, 3, 11, 20), (163, .iload_n 3, 1, 0, 0), (164, .dup2, 1, 0, 0), (165, .iaload, 1, 0, 0), (166, .aload_n 0, 1, 0, 0), (167, .getfield 46, 3, 11, 20), (170, .iload_n 3, 1, 0, 0), (171, .iconst 1, 1, 0, 0), (172, .isub, 1, 0, 0), (173, .iaload, 1, 0, 0), (174, .iadd, 1, 0, 0), (175, .iastore, 1, 0, 0), (176, .iinc 3 1, 3, 0, 0), (179, .goto (-30), 3, 149, 0), (182, .iconst 0, 1, 0, 0), (183, .istore_n 3, 1, 0, 0), (184, .iload_n 3, 1, 0, 0), (185, .aload_n 0, 1, 0, 0), (186, .getfield 165, 3, 11, 7), (189, .if_icmp .ge 51, 3, 240, 0), (192, .aload_n 0, 1, 0, 0), (193, .getfield 34, 3, 11, 16), (196, .aload_n 0, 1, 0, 0), (197, .getfield 40, 3, 11, 18), (200, .iload_n 3, 1, 0, 0), (201, .iaload, 1, 0, 0), (202, .iaload, 1, 0, 0), (203, .istore 4, 2, 0, 0), (205, .aload_n 0, 1, 0, 0), (206, .getfield 31, 3, 11, 15), (209, .aload_n 0, 1, 0, 0), (210, .getfield 46, 3, 11, 20), (213, .iload 4, 2, 0, 0), (215, .iaload, 1, 0, 0), (216, .aload_n 0, 1, 0, 0), (217, .getfield 40, 3, 11, 18), (220, .iload_n 3, 1, 0, 0), (221, .iaload, 1, 0, 0), (222, .iastore, 1, 0, 0), (223, .aload_n 0, 1, 0, 0), (224, .getfield 46, 3, 11, 20), (227, .iload 4, 2, 0, 0), (229, .dup2, 1, 0, 0), (230, .iaload, 1, 0, 0), (231, .iconst 1, 1, 0, 0), (232, .iadd, 1, 0, 0), (233, .iastore, 1, 0, 0), (234, .iinc 3 1, 3, 0, 0), (237, .goto (-53), 3, 184, 0), (240, .iconst 0, 1, 0, 0), (241, .istore_n 3, 1, 0, 0), (242, .iconst 0, 1, 0, 0), (243, .istore 4, 2, 0, 0), (245, .iload 4, 2, 0, 0), (247, .aload_n 0, 1, 0, 0), (248, .getfield 165, 3, 11, 7), (251, .if_icmp .ge 112, 3, 363, 0), (254, .iload 4, 2, 0, 0), (256, .ifCond .le 67, 3, 323, 0), (259, .aload_n 0, 1, 0, 0), (260, .getfield 34, 3, 11, 16), (263, .aload_n 0, 1, 0, 0), (264, .getfield 31, 3, 11, 15), (267, .iload 4, 2, 0, 0), (269, .iaload, 1, 0, 0), (270, .iaload, 1, 0, 0), (271, .aload_n 0, 1, 0, 0), (272, .getfield 34, 3, 11, 16), (275, .aload_n 0, 1, 0, 0), (276, .getfield 31, 3, 11, 15), (279, .iload 4, 2, 0, 0), (281, .iconst 1, 1, 0, 0), (282, .isub, 1, 0, 0), (283, .iaload, 1, 0, 0), (284, .iaload, 1, 0, 0), (285, .if_icmp .ne 38, 3, 323, 0), (288, .aload_n 0, 1, 0, 0), (289, .aload_n 0, 1, 0, 0), (290, .getfield 31, 3, 11, 15), (293, .iload 4, 2, 0, 0), (295, .iaload, 1, 0, 0), (296, .iload_n 1, 1, 0, 0), (297, .iadd, 1, 0, 0), (298, .invokevirtual 168, 3, 162, 1), (301, .aload_n 0, 1, 0, 0), (302, .aload_n 0, 1, 0, 0), (303, .getfield 31, 3, 11, 15), (306, .iload 4, 2, 0, 0), (308, .iconst 1, 1, 0, 0), (309, .isub, 1, 0, 0), (310, .iaload, 1, 0, 0), (311, .iload_n 1, 1, 0, 0), (312, .iadd, 1, 0, 0), (313, .invokevirtual 168, 3, 162, 1), (316, .if_icmp .ne 7, 3, 323, 0), (319, .iconst 1, 1, 0, 0), (320, .goto 4, 3, 324, 0), (323, .iconst 0, 1, 0, 0), (324, .istore 5, 2, 0, 0), (326, .iload_n 3, 1, 0, 0), (327, .iload 4, 2, 0, 0), (329, .ifCond .le 12, 3, 341, 0), (332, .iload 5, 2, 0, 0), (334, .ifCond .ne 7, 3, 341, 0), (337, .iconst 1, 1, 0, 0), (338, .goto 4, 3, 342, 0), (341, .iconst 0, 1, 0, 0), (342, .iadd, 1, 0, 0), (343, .istore_n 3, 1, 0, 0), (344, .aload_n 0, 1, 0, 0), (345, .getfield 43, 3, 11, 19), (348, .aload_n 0, 1, 0, 0), (349, .getfield 31, 3, 11, 15), (352, .iload 4, 2, 0, 0), (354, .iaload, 1, 0, 0), (355, .iload_n 3, 1, 0, 0), (356, .iastore, 1, 0, 0), (357, .iinc 4 1, 3, 0, 0), (360, .goto (-115), 3, 245, 0), (363, .iconst 0, 1, 0, 0), (364, .istore 4, 2, 0, 0), (366, .iload 4, 2, 0, 0), (368, .aload_n 0, 1, 0, 0), (369, .getfield 165, 3, 11, 7), (372, .if_icmp .ge 23, 3, 395, 0), (375, .aload_n 0, 1, 0, 0), (376, .getfield 34, 3, 11, 16), (379, .iload 4, 2, 0, 0), (381, .aload_n 0, 1, 0, 0), (382, .getfield 43, 3, 11, 19), (385, .iload 4, 2, 0, 0), (387, .iaload, 1, 0, 0), (388, .iastore, 1, 0, 0), (389, .iinc 4 1, 3, 0, 0), (392, .goto (-26), 3, 366, 0), (395, .return_, 1, 0, 0)]
def mX11_sortBy : ab_M := (yX11_sortBy, 11, cX11_sortBy, 6, none, kX11_sortBy)
def kX11_sortAll : List ab_I := [(0, .iconst 0, 1, 0, 0), (1, .istore_n 1, 1, 0, 0), (2, .iload_n 1, 1, 0, 0), (3, .sipush 300, 3, 0, 0), (6, .if_icmp .ge 16, 3, 22, 0), (9, .aload_n 0, 1, 0, 0), (10, .getfield 46, 3, 11, 20), (13, .iload_n 1, 1, 0, 0), (14, .iconst 0, 1, 0, 0), (15, .iastore, 1, 0, 0), (16, .iinc 1 1, 3, 0, 0), (19, .goto (-17), 3, 2, 0), (22, .iconst 0, 1, 0, 0), (23, .istore_n 1, 1, 0, 0), (24, .iload_n 1, 1, 0, 0), (25, .aload_n 0, 1, 0, 0), (26, .getfield 165, 3, 11, 7), (29, .if_icmp .ge 59, 3, 88, 0), (32, .aload_n 0, 1, 0, 0), (33, .getfield 43, 3, 11, 19), (36, .iload_n 1, 1, 0, 0), (37, .aload_n 0, 1, 0, 0), (38, .getfield 19, 3, 11, 11), (41, .iload_n 1, 1, 0, 0), (42, .iaload, 1, 0, 0), (43, .ifCond .ge 12, 3, 55, 0), (46, .aload_n 0, 1, 0, 0), (47, .getfield 22, 3, 11, 12), (50, .iload_n 1, 1, 0, 0), (51, .iaload, 1, 0, 0), (52, .goto 12, 3, 64, 0), (55, .bipush 40, 2, 0, 0), (57, .aload_n 0, 1, 0, 0), (58, .getfield 19, 3, 11, 11), (61, .iload_n 1, 1, 0, 0), (62, .iaload, 1, 0, 0), (63, .iadd, 1, 0, 0), (64, .iastore, 1, 0, 0), (65, .aload_n 0, 1, 0, 0), (66, .getfield 46, 3, 11, 20), (69, .aload_n 0, 1, 0, 0), (70, .getfield 43, 3, 11, 19), (73, .iload_n 1, 1, 0, 0), (74, .iaload, 1, 0, 0), (75, .iconst 1, 1, 0, 0), (76, .iadd, 1, 0, 0), (77, .dup2, 1, 0, 0), (78, .iaload, 1, 0, 0), (79, .iconst 1, 1, 0, 0), (80, .iadd, 1, 0, 0), (81, .iastore, 1, 0, 0), (82, .iinc 1 1, 3, 0, 0), (85, .goto (-61), 3, 24, 0), (88, .iconst 1, 1, 0, 0), (89, .istore_n 1, 1, 0, 0), (90, .iload_n 1, 1, 0, 0), (91, .sipush 300, 3, 0, 0), (94, .if_icmp .ge 26, 3, 120, 0), (97, .aload_n 0, 1, 0, 0), (98, .getfield 46, 3, 11, 20), (101, .iload_n 1, 1, 0, 0), (102, .dup2, 1, 0, 0), (103, .iaload, 1, 0, 0), (104, .aload_n 0, 1, 0, 0), (105, .getfield 46, 3, 11, 20), (108, .iload_n 1, 1, 0, 0), (109, .iconst 1, 1, 0, 0), (110, .isub, 1, 0, 0), (111, .iaload, 1, 0, 0), (112, .iadd, 1, 0, 0), (113, .iastore, 1, 0, 0), (114, .iinc 1 1, 3, 0, 0), (117, .goto (-27), 3, 90, 0), (120, .iconst 0, 1, 0, 0), (121, .istore_n 1, 1, 0, 0), (122, .iload_n 1, 1, 0, 0), (123, .aload_n 0, 1, 0, 0), (124, .getfield 165, 3, 11, 7), (127, .if_icmp .ge 41, 3, 168, 0), (130, .aload_n 0, 1, 0, 0), (131, .getfield 31, 3, 11, 15), (134, .aload_n 0, 1, 0, 0), (135, .getfield 46, 3, 11, 20), (138, .aload_n 0, 1, 0, 0), (139, .getfield 43, 3, 11, 19), (142, .iload_n 1, 1, 0, 0), (143, .iaload, 1, 0, 0), (144, .iaload, 1, 0, 0), (145, .iload_n 1, 1, 0, 0), (146, .iastore, 1, 0, 0), (147, .aload_n 0, 1, 0, 0), (148, .getfield 46, 3, 11, 20), (151, .aload_n 0, 1, 0, 0), (152, .getfield 43, 3, 11, 19), (155, .iload_n 1, 1, 0, 0), (156, .iaload, 1, 0, 0), (157, .dup2, 1, 0, 0), (158, .iaload, 1, 0, 0), (159, .iconst 1, 1, 0, 0), (160, .iadd, 1, 0, 0), (161, .iastore, 1, 0, 0), (162, .iinc 1 1, 3, 0, 0), (165, .goto (-43), 3, 122, 0), (168, .iconst 0, 1, 0, 0), (169, .istore_n 1, 1, 0, 0), (170, .iconst 0, 1, 0, 0), (171, .istore_n 2, 1, 0, 0), (172, .iload_n 2, 1, 0, 0), (173, .aload_n 0, 1, 0, 0), (174, .getfield 165, 3, 11, 7), (177, .if_icmp .ge 60, 3, 237, 0), (180, .iload_n 1, 1, 0, 0), (181, .iload_n 2, 1, 0, 0), (182, .ifCond .le 34, 3, 216, 0), (185, .aload_n 0, 1, 0, 0), (186, .getfield 43, 3, 11, 19), (189, .aload_n 0, 1, 0, 0), (190, .getfield 31, 3, 11, 15), (193, .iload_n 2, 1, 0, 0), (194, .iaload, 1, 0, 0), (195, .iaload, 1, 0, 0), (196, .aload_n 0, 1, 0, 0), (197, .getfield 43, 3, 11, 19), (200, .aload_n 0, 1, 0, 0), (201, .getfield 31, 3, 11, 15), (204, .iload_n 2, 1, 0, 0), (205, .iconst 1, 1, 0, 0), (206, .isub, 1, 0, 0), (207, .iaload, 1, 0, 0), (208, .iaload, 1, 0, 0), (209, .if_icmp .eq 7, 3, 216, 0), (212, .iconst 1, 1, 0, 0), (213, .goto 4, 3, 217, 0), (216, .iconst 0, 1, 0, 0), (217, .iadd, 1, 0, 0), (218, .istore_n 1, 1, 0, 0), (219, .aload_n 0, 1, 0, 0), (220, .getfield 40, 3, 11, 18), (223, .aload_n 0, 1, 0, 0), (224, .getfield 31, 3, 11, 15), (227, .iload_n 2, 1, 0, 0), (228, .iaload, 1, 0, 0), (229, .iload_n 1, 1, 0, 0), (230, .iastore, 1, 0, 0), (231, .iinc 2 1, 3, 0, 0), (234, .goto (-62), 3, 172, 0), (237, .iconst 0, 1, 0, 0), (238, .istore_n 2, 1, 0, 0), (239, .iload_n 2, 1, 0, 0), (240, .aload_n 0, 1, 0, 0), (241, .getfield 165, 3, 11, 7), (244, .if_icmp .ge 21, 3, 265, 0), (247, .aload_n 0, 1, 0, 0), (248, .getfield 34, 3, 11, 16), (251, .iload_n 2, 1, 0, 0), (252, .aload_n 0, 1, 0, 0), (253, .getfield 40, 3, 11, 18), (256, .iload_n 2, 1, 0, 0), (257, .iaload, 1, 0, 0), (258, .iastore, 1, 0, 0), (259, .iinc 2 1, 3, 0, 0), (262, .goto (-23), 3, 239, 0), (265, .iconst 1, 1, 0, 0), (266, .istore_n 2, 1, 0, 0), (267, .iload_n 2, 1, 0, 0), (268, .aload_n 0, 1, 0, 0), (269, .getfield 165, 3, 11, 7), (272, .if_icmp .ge 42, 3, 314, 0), (275, .iload_n 1, 1, 0, 0), (276, .aload_n 0, 1, 0, 0), (277, .getfield 165, 3, 11, 7), (280, .iconst 1, 1, 0, 0), (281, .isub, 1, 0, 0), (282, .if_icmp .ge 32, 3, 314, 0), (285, .aload_n 0, 1, 0, 0), (286, .iload_n 2, 1, 0, 0), (287, .invokevirtual 172, 3, 163, 1), (290, .aload_n 0, 1, 0, 0), (291, .getfield 34, 3, 11, 16), (294, .aload_n 0, 1, 0, 0), (295, .getfield 31, 3, 11, 15), (298, .aload_n 0, 1, 0, 0), (299, .getfield 165, 3, 11, 7), (302, .iconst 1, 1, 0, 0), (303, .isub, 1, 0, 0), (304, .iaload, 1, 0, 0), (305, .iaload, 1, 0, 0), (306, .istore_n 1, 1, 0, 0), (307, .iconst 2, 1, 0, 0), (308, .iload_n 2, 1, 0, 0), (309, .imul, 1, 0, 0), (310, .istore_n 2, 1, 0, 0), (311, .goto (-44), 3, 267, 0), (314, .return_, 1, 0, 0)]
def mX11_sortAll : ab_M := (yX11_sortAll, 11, cX11_sortAll, 3, none, kX11_sortAll)
def kX11_findShares : List ab_I := [(0, .iconst 0, 1, 0, 0), (1, .istore_n 1, 1, 0, 0), (2, .aload_n 0, 1, 0, 0), (3, .getfield 37, 3, 11, 17), (6, .aload_n 0, 1, 0, 0), (7, .getfield 165, 3, 11, 7), (10, .iconst 0, 1, 0, 0), (11, .iastore, 1, 0, 0), (12, .iconst 0, 1, 0, 0), (13, .istore_n 2, 1, 0, 0), (14, .iload_n 2, 1, 0, 0), (15, .aload_n 0, 1, 0, 0), (16, .getfield 165, 3, 11, 7), (19, .if_icmp .ge 104, 3, 123, 0), (22, .aload_n 0, 1, 0, 0), (23, .getfield 34, 3, 11, 16), (26, .iload_n 2, 1, 0, 0), (27, .iaload, 1, 0, 0), (28, .ifCond .ne 15, 3, 43, 0), (31, .iconst 0, 1, 0, 0), (32, .istore_n 1, 1, 0, 0), (33, .aload_n 0, 1, 0, 0), (34, .getfield 37, 3, 11, 17), (37, .iconst 0, 1, 0, 0), (38, .iconst 0, 1, 0, 0), (39, .iastore, 1, 0, 0), (40, .goto 77, 3, 117, 0), (43, .aload_n 0, 1, 0, 0), (44, .getfield 31, 3, 11, 15), (47, .aload_n 0, 1, 0, 0), (48, .getfield 34, 3, 11, 16), (51, .iload_n 2, 1, 0, 0), (52, .iaload, 1, 0, 0), (53, .iconst 1, 1, 0, 0), (54, .isub, 1, 0, 0), (55, .iaload, 1, 0, 0), (56, .istore_n 3, 1, 0, 0), (57, .aload_n 0, 1, 0, 0), (58, .getfield 19, 3, 11, 11), (61, .iload_n 2, 1, 0, 0), (62, .iload_n 1, 1, 0, 0), (63, .iadd, 1, 0, 0), (64, .iaload, 1, 0, 0), (65, .ifCond .lt 28, 3, 93, 0), (68, .aload_n 0, 1, 0, 0), (69, .getfield 19, 3, 11, 11), (72, .iload_n 2, 1, 0, 0), (73, .iload_n 1, 1, 0, 0), (74, .iadd, 1, 0, 0), (75, .iaload, 1, 0, 0), (76, .aload_n 0, 1, 0, 0), (77, .getfield 19, 3, 11, 11), (80, .iload_n 3, 1, 0, 0), (81, .iload_n 1, 1, 0, 0), (82, .iadd, 1, 0, 0), (83, .iaload, 1, 0, 0), (84, .if_icmp .ne 9, 3, 93, 0), (87, .iinc 1 1, 3, 0, 0), (90, .goto (-33), 3, 57, 0), (93, .aload_n 0, 1, 0, 0), (94, .getfield 37, 3, 11, 17), (97, .aload_n 0, 1, 0, 0), (98, .getfield 34, 3, 11, 16), (101, .iload_n 2, 1, 0, 0), (102, .iaload, 1, 0, 0), (103, .iload_n 1, 1, 0, 0), (104, .iastore, 1, 0, 0), (105, .iload_n 1, 1, 0, 0), (106, .ifCond .le 9, 3, 115, 0), (109, .iload_n 1, 1, 0, 0), (110, .iconst 1, 1, 0, 0), (111, .isub, 1, 0, 0), (112, .goto 4, 3, 116, 0), (115, .iconst 0, 1, 0, 0), (116, .istore_n 1, 1, 0, 0), (117, .iinc 2 1, 3, 0, 0), (120, .goto (-106), 3, 14, 0), (123, .return_, 1, 0, 0)]
def mX11_findShares : ab_M := (yX11_findShares, 11, cX11_findShares, 4, none, kX11_findShares)
def kX11_build : List ab_I := [(0, .aload_n 0, 1, 0, 0), (1, .getfield 159, 3, 11, 3), (4, .ifCond .eq 14, 3, 18, 0), (7, .iload_n 1, 1, 0, 0), (8, .iconst 1, 1, 0, 0), (9, .if_icmp .lt 9, 3, 18, 0), (12, .iload_n 1, 1, 0, 0), (13, .bipush 64, 2, 0, 0), (15, .if_icmp .le 5, 3, 20, 0), (18, .iconst (-1), 1, 0, 0), (19, .ireturn, 1, 0, 0), (20, .aload_n 0, 1, 0, 0), (21, .iconst 1, 1, 0, 0), (22, .putfield 176, 3, 11, 1006), (25, .aload_n 0, 1, 0, 0), (26, .iload_n 1, 1, 0, 0), (27, .putfield 180, 3, 11, 9), (30, .aload_n 0, 1, 0, 0), (31, .aload_n 0, 1, 0, 0), (32, .getfield 162, 3, 11, 1), (35, .putfield 165, 3, 11, 7), (38, .aload_n 0, 1, 0, 0), (39, .aload_n 0, 1, 0, 0), (40, .getfield 159, 3, 11, 3), (43, .putfield 183, 3, 11, 8), (46, .iconst 0, 1, 0, 0), (47, .istore_n 2, 1, 0, 0), (48, .iconst 0, 1, 0, 0), (49, .istore_n 3, 1, 0, 0), (50, .iload_n 3, 1, 0, 0), (51, .aload_n 0, 1, 0, 0), (52, .getfield 183, 3, 11, 8), (55, .if_icmp .ge 70, 3, 125, 0), (58, .aload_n 0, 1, 0, 0), (59, .getfield 25, 3, 11, 13), (62, .iload_n 3, 1, 0, 0), (63, .iload_n 2, 1, 0, 0), (64, .iastore, 1, 0, 0), (65, .aload_n 0, 1, 0, 0), (66, .getfield 28, 3, 11, 14), (69, .iload_n 3, 1, 0, 0), (70, .aload_n 0, 1, 0, 0), (71, .getfield 13, 3, 11, 2), (74, .iload_n 3, 1, 0, 0), (75, .iaload, 1, 0, 0), (76, .iastore, 1, 0, 0), (77, .iconst 0, 1, 0, 0), (78, .istore 4, 2, 0, 0), (80, .iload 4, 2, 0, 0), (82, .aload_n 0, 1, 0, 0), (83, .getfield 13, 3, 11, 2), (86, .iload_n 3, 1, 0, 0), (87, .iaload, 1, 0, 0), (88, .if_icmp .gt 31, 3, 119, 0), (91, .aload_n 0, 1, 0, 0), (92, .getfield 19, 3, 11, 11), (95, .iload_n 2, 1, 0, 0), (96, .aload_n 0, 1, 0, 0), (97, .getfield 7, 3, 11, 0), (100, .iload_n 2, 1, 0, 0), (101, .iaload, 1, 0, 0), (102, .iastore, 1, 0, 0), (103, .aload_n 0, 1, 0, 0), (104, .getfield 22, 3, 11, 12), (107, .iload_n 2, 1, 0, 0), (108, .iload_n 3, 1, 0, 0), (109, .iastore, 1, 0, 0), (110, .iinc 2 1, 3, 0, 0), (113, .iinc 4 1, 3, 0, 0), (116, .goto (-36), 3, 80, 0), (119, .iinc 3 1, 3, 0, 0), (122, .goto (-72), 3, 50, 0), (125, .aload_n 0, 1, 0, 0), (126, .invokevirtual 186, 3, 164, 0), (129, .aload_n 0, 1, 0, 0), (130, .invokevirtual 189, 3, 165, 0), (133, .aload_n 0, 1, 0, 0), (134, .invokevirtual 192, 3, 184, 0), (137, .aload_n 0, 1, 0, 0), (138, .iconst 0, 1, 0, 0), (139, .putfield 195, 3, 11, 29), (142, .aload_n 0, 1, 0, 0), (143, .iconst 0, 1, 0, 0), (144, .putfield 198, 3, 11, 1032), (147, .aload_n 0, 1, 0, 0), (148, .iconst 0, 1, 0, 0), (149, .putfield 201, 3, 11, 33), (152, .aload_n 0, 1, 0, 0), (153, .iconst 0, 1, 0, 0), (154, .putfield 204, 3, 11, 10), (157, .aload_n 0, 1, 0, 0), (158, .iconst 0, 1, 0, 0), (159, .putfield 207, 3, 11, 1071), (162, .aload_n 0, 1, 0, 0), (163, .getfield 165, 3, 11, 7), (166, .ireturn, 1, 0, 0)]
def mX11_build : ab_M := (yX11_build, 11, cX11_build, 5, (some .int), kX11_build)
def kX11_isRow : List ab_I := [(0, .aload_n 0, 1, 0, 0), (1, .getfield 176, 3, 11, 6), (4, .ifCond .eq 19, 3, 23, 0), (7, .iload_n 1, 1, 0, 0), (8, .ifCond .lt 15, 3, 23, 0), (11, .iload_n 1, 1, 0, 0), (12, .aload_n 0, 1, 0, 0), (13, .getfield 165, 3, 11, 7), (16, .if_icmp .ge 7, 3, 23, 0), (19, .iconst 1, 1, 0, 0), (20, .goto 4, 3, 24, 0), (23, .iconst 0, 1, 0, 0), (24, .ireturn, 1, 0, 0)]
def mX11_isRow : ab_M := (yX11_isRow, 11, cX11_isRow, 2, (some .boolean), kX11_isRow)
def kX11_isDocument : List ab_I := [(0, .aload_n 0, 1, 0, 0), (1, .getfield 176, 3, 11, 6), (4, .ifCond .eq 19, 3, 23, 0), (7, .iload_n 1, 1, 0, 0), (8, .ifCond .lt 15, 3, 23, 0), (11, .iload_n 1, 1, 0, 0), (12, .aload_n 0, 1, 0, 0), (13, .getfield 183, 3, 11, 8), (16, .if_icmp .ge 7, 3, 23, 0), (19, .iconst 1, 1, 0, 0), (20, .goto 4, 3, 24, 0), (23, .iconst 0, 1, 0, 0), (24, .ireturn, 1, 0, 0)]
def mX11_isDocument : ab_M := (yX11_isDocument, 11, cX11_isDocument, 2, (some .boolean), kX11_isDocument)
def kX11_isByte : List ab_I := [(0, .iload_n 0, 1, 0, 0), (1, .ifCond .lt 14, 3, 15, 0), (4, .iload_n 0, 1, 0, 0), (5, .sipush 256, 3, 0, 0), (8, .if_icmp .ge 7, 3, 15, 0), (11, .iconst 1, 1, 0, 0), (12, .goto 4, 3, 16, 0), (15, .iconst 0, 1, 0, 0), (16, .ireturn, 1, 0, 0)]
def mX11_isByte : ab_M := (yX11_isByte, 11, cX11_isByte, 1, (some .boolean), kX11_isByte)
def kX11_left : List ab_I := [(0, .aload_n 0, 1, 0, 0), (1, .getfield 22, 3, 11, 12), (4, .iload_n 1, 1, 0, 0), (5, .iaload, 1, 0, 0), (6, .istore_n 2, 1, 0, 0), (7, .aload_n 0, 1, 0, 0), (8, .getfield 25, 3, 11, 13), (11, .iload_n 2, 1, 0, 0), (12, .iaload, 1, 0, 0), (13, .aload_n 0, 1, 0, 0), (14, .getfield 28, 3, 11, 14), (17, .iload_n 2, 1, 0, 0), (18, .iaload, 1, 0, 0), (19, .iadd, 1, 0, 0), (20, .iload_n 1, 1, 0, 0), (21, .isub, 1, 0, 0), (22, .ireturn, 1, 0, 0)]
def mX11_left : ab_M := (yX11_left, 11, cX11_left, 3, (some .int), kX11_left)
def kX11_stepsOf : List ab_I := [(0, .iload_n 1, 1, 0, 0), (1, .aload_n 0, 1, 0, 0), (2, .getfield 25, 3, 11, 13), (5, .aload_n 0, 1, 0, 0), (6, .getfield 22, 3, 11, 12), (9, .iload_n 1, 1, 0, 0), (10, .iaload, 1, 0, 0), (11, .iaload, 1, 0, 0), (12, .isub, 1, 0, 0), (13, .aload_n 0, 1, 0, 0), (14, .getfield 180, 3, 11, 9), (17, .irem, 1, 0, 0), (18, .ireturn, 1, 0, 0)]
def mX11_stepsOf : ab_M := (yX11_stepsOf, 11, cX11_stepsOf, 2, (some .int), kX11_stepsOf)
def kX11_place : List ab_I := [(0, .aload_n 0, 1, 0, 0), (1, .iload_n 1, 1, 0, 0), (2, .invokevirtual 210, 3, 167, 1), (5, .ifCond .ne 5, 3, 10, 0), (8, .iconst (-1), 1, 0, 0), (9, .ireturn, 1, 0, 0), (10, .aload_n 0, 1, 0, 0), (11, .dup, 1, 0, 0), (12, .getfield 204, 3, 11, 10), (15, .aload_n 0, 1, 0, 0), (16, .aload_n 0, 1, 0, 0), (17, .getfield 31, 3, 11, 15), (20, .iload_n 1, 1, 0, 0), (21, .iaload, 1, 0, 0), (22, .invokevirtual 214, 3, 171, 1), (25, .iadd, 1, 0, 0), (26, .putfield 204, 3, 11, 10), (29, .aload_n 0, 1, 0, 0), (30, .getfield 31, 3, 11, 15), (33, .iload_n 1, 1, 0, 0), (34, .iaload, 1, 0, 0), (35, .ireturn, 1, 0, 0)]
def mX11_place : ab_M := (yX11_place, 11, cX11_place, 2, (some .int), kX11_place)
def kX11_row : List ab_I := [(0, .aload_n 0, 1, 0, 0), (1, .iload_n 1, 1, 0, 0), (2, .invokevirtual 210, 3, 167, 1), (5, .ifCond .eq 12, 3, 17, 0), (8, .aload_n 0, 1, 0, 0), (9, .getfield 34, 3, 11, 16), (12, .iload_n 1, 1, 0, 0), (13, .iaload, 1, 0, 0), (14, .goto 4, 3, 18, 0), (17, .iconst (-1), 1, 0, 0), (18, .ireturn, 1, 0, 0)]
def mX11_row : ab_M := (yX11_row, 11, cX11_row, 2, (some .int), kX11_row)
def kX11_shared : List ab_I := [(0, .aload_n 0, 1, 0, 0), (1, .iload_n 1, 1, 0, 0), (2, .invokevirtual 210, 3, 167, 1), (5, .ifCond .eq 12, 3, 17, 0), (8, .aload_n 0, 1, 0, 0), (9, .getfield 37, 3, 11, 17), (12, .iload_n 1, 1, 0, 0), (13, .iaload, 1, 0, 0), (14, .goto 4, 3, 18, 0), (17, .iconst (-1), 1, 0, 0), (18, .ireturn, 1, 0, 0)]
def mX11_shared : ab_M := (yX11_shared, 11, cX11_shared, 2, (some .int), kX11_shared)
def kX11_beforeOf : List ab_I := [(0, .aload_n 0, 1, 0, 0), (1, .getfield 31, 3, 11, 15), (4, .iload_n 1, 1, 0, 0), (5, .iaload, 1, 0, 0), (6, .istore_n 2, 1, 0, 0), (7, .iload_n 2, 1, 0, 0), (8, .aload_n 0, 1, 0, 0), (9, .getfield 25, 3, 11, 13), (12, .aload_n 0, 1, 0, 0), (13, .getfield 22, 3, 11, 12), (16, .iload_n 2, 1, 0, 0), (17, .iaload, 1, 0, 0), (18, .iaload, 1, 0, 0), (19, .if_icmp .ne 8, 3, 27, 0), (22, .bipush (-2), 2, 0, 0), (24, .goto 11, 3, 35, 0), (27, .aload_n 0, 1, 0, 0), (28, .getfield 19, 3, 11, 11), (31, .iload_n 2, 1, 0, 0), (32, .iconst 1, 1, 0, 0), (33, .isub, 1, 0, 0), (34, .iaload, 1, 0, 0), (35, .ireturn, 1, 0, 0)]
def mX11_beforeOf : ab_M := (yX11_beforeOf, 11, cX11_beforeOf, 3, (some .int), kX11_beforeOf)
def kX11_before : List ab_I := [(0, .aload_n 0, 1, 0, 0), (1, .iload_n 1, 1, 0, 0), (2, .invokevirtual 210, 3, 167, 1), (5, .ifCond .eq 11, 3, 16, 0), (8, .aload_n 0, 1, 0, 0), (9, .iload_n 1, 1, 0, 0), (10, .invokevirtual 217, 3, 175, 1), (13, .goto 4, 3, 17, 0), (16, .iconst (-1), 1, 0, 0), (17, .ireturn, 1, 0, 0)]
def mX11_before : ab_M := (yX11_before, 11, cX11_before, 2, (some .int), kX11_before)
def kX11_step : List ab_I := [(0, .aload_n 0, 1, 0, 0), (1, .iload_n 1, 1, 0, 0), (2, .invokevirtual 210, 3, 167, 1), (5, .ifCond .ne 7, 3, 12, 0), (8, .iconst (-1), 1, 0, 0), (9, .goto 31, 3, 40, 0), (12, .aload_n 0, 1, 0, 0), (13, .iload_n 1, 1, 0, 0), (14, .invokevirtual 217, 3, 175, 1), (17, .bipush (-2), 2, 0, 0), (19, .if_icmp .ne 8, 3, 27, 0), (22, .bipush (-2), 2, 0, 0), (24, .goto 16, 3, 40, 0), (27, .aload_n 0, 1, 0, 0), (28, .getfield 34, 3, 11, 16), (31, .aload_n 0, 1, 0, 0), (32, .getfield 31, 3, 11, 15), (35, .iload_n 1, 1, 0, 0), (36, .iaload, 1, 0, 0), (37, .iconst 1, 1, 0, 0), (38, .isub, 1, 0, 0), (39, .iaload, 1, 0, 0), (40, .ireturn, 1, 0, 0)]
def mX11_step : ab_M := (yX11_step, 11, cX11_step, 2, (some .int), kX11_step)
def kX11_rank : List ab_I := [(0, .aload_n 0, 1, 0, 0), (1, .getfield 176, 3, 11, 6), (4, .ifCond .eq 22, 3, 26, 0), (7, .iload_n 1, 1, 0, 0), (8, .invokestatic 220, 3, 169, 1), (11, .ifCond .eq 15, 3, 26, 0), (14, .iload_n 2, 1, 0, 0), (15, .ifCond .lt 11, 3, 26, 0), (18, .iload_n 2, 1, 0, 0), (19, .aload_n 0, 1, 0, 0), (20, .getfield 165, 3, 11, 7), (23, .if_icmp .le 5, 3, 28, 0), (26, .iconst (-1), 1, 0, 0), (27, .ireturn, 1, 0, 0), (28, .iconst 0, 1, 0, 0), (29, .istore_n 3, 1, 0, 0), (30, .iconst 0, 1, 0, 0), (31, .istore 4, 2, 0, 0), (33, .iload 4, 2, 0, 0), (35, .iload_n 2, 1, 0, 0), (36, .if_icmp .ge 27, 3, 63, 0), (39, .iload_n 3, 1, 0, 0), (40, .aload_n 0, 1, 0, 0), (41, .iload 4, 2, 0, 0), (43, .invokevirtual 217, 3, 175, 1), (46, .iload_n 1, 1, 0, 0), (47, .if_icmp .ne 7, 3, 54, 0), (50, .iconst 1, 1, 0, 0), (51, .goto 4, 3, 55, 0), (54, .iconst 0, 1, 0, 0), (55, .iadd, 1, 0, 0), (56, .istore_n 3, 1, 0, 0), (57, .iinc 4 1, 3, 0, 0), (60, .goto (-27), 3, 33, 0), (63, .iload_n 3, 1, 0, 0), (64, .ireturn, 1, 0, 0)]
def mX11_rank : ab_M := (yX11_rank, 11, cX11_rank, 5, (some .int), kX11_rank)
def kX11_select : List ab_I := [(0, .iconst 0, 1, 0, 0), (1, .istore_n 3, 1, 0, 0), (2, .iconst 0, 1, 0, 0), (3, .istore 4, 2, 0, 0), (5, .iload 4, 2, 0, 0), (7, .aload_n 0, 1, 0, 0), (8, .getfield 165, 3, 11, 7), (11, .if_icmp .ge 48, 3, 59, 0), (14, .aload_n 0, 1, 0, 0), (15, .getfield 176, 3, 11, 6), (18, .ifCond .eq 41, 3, 59, 0), (21, .iload_n 1, 1, 0, 0), (22, .invokestatic 220, 3, 169, 1), (25, .ifCond .eq 34, 3, 59, 0), (28, .iload_n 2, 1, 0, 0), (29, .ifCond .lt 30, 3, 59, 0), (32, .aload_n 0, 1, 0, 0), (33, .iload 4, 2, 0, 0), (35, .invokevirtual 217, 3, 175, 1), (38, .iload_n 1, 1, 0, 0), (39, .if_icmp .ne 14, 3, 53, 0), (42, .iload_n 3, 1, 0, 0), (43, .iload_n 2, 1, 0, 0), (44, .if_icmp .ne 6, 3, 50, 0), (47, .iload 4, 2, 0, 0), (49, .ireturn, 1, 0, 0), (50, .iinc 3 1, 3, 0, 0), (53, .iinc 4 1, 3, 0, 0), (56, .goto (-51), 3, 5, 0), (59, .iconst (-1), 1, 0, 0), (60, .ireturn, 1, 0, 0)]
def mX11_select : ab_M := (yX11_select, 11, cX11_select, 5, (some .int), kX11_select)
def kX11_byteAt : List ab_I := [(0, .aload_n 0, 1, 0, 0), (1, .iload_n 1, 1, 0, 0), (2, .invokevirtual 210, 3, 167, 1), (5, .ifCond .ne 7, 3, 12, 0), (8, .iconst (-1), 1, 0, 0), (9, .goto 23, 3, 32, 0), (12, .aload_n 0, 1, 0, 0), (13, .getfield 19, 3, 11, 11), (16, .iload_n 1, 1, 0, 0), (17, .iaload, 1, 0, 0), (18, .ifCond .ge 8, 3, 26, 0), (21, .bipush (-2), 2, 0, 0), (23, .goto 9, 3, 32, 0), (26, .aload_n 0, 1, 0, 0), (27, .getfield 19, 3, 11, 11), (30, .iload_n 1, 1, 0, 0), (31, .iaload, 1, 0, 0), (32, .ireturn, 1, 0, 0)]
def mX11_byteAt : ab_M := (yX11_byteAt, 11, cX11_byteAt, 2, (some .int), kX11_byteAt)
def kX11_document : List ab_I := [(0, .iload_n 2, 1, 0, 0), (1, .iconst 2, 1, 0, 0), (2, .if_icmp .ne 22, 3, 24, 0), (5, .aload_n 0, 1, 0, 0), (6, .iload_n 1, 1, 0, 0), (7, .invokevirtual 210, 3, 167, 1), (10, .ifCond .eq 12, 3, 22, 0), (13, .aload_n 0, 1, 0, 0), (14, .getfield 22, 3, 11, 12), (17, .iload_n 1, 1, 0, 0), (18, .iaload, 1, 0, 0), (19, .goto 4, 3, 23, 0), (22, .iconst (-1), 1, 0, 0), (23, .ireturn, 1, 0, 0), (24, .aload_n 0, 1, 0, 0), (25, .iload_n 1, 1, 0, 0), (26, .invokevirtual 223, 3, 168, 1), (29, .ifCond .eq 12, 3, 41, 0), (32, .iload_n 2, 1, 0, 0), (33, .ifCond .lt 8, 3, 41, 0), (36, .iload_n 2, 1, 0, 0), (37, .iconst 1, 1, 0, 0), (38, .if_icmp .le 7, 3, 45, 0), (41, .iconst (-1), 1, 0, 0), (42, .goto 22, 3, 64, 0), (45, .iload_n 2, 1, 0, 0), (46, .ifCond .ne 12, 3, 58, 0), (49, .aload_n 0, 1, 0, 0), (50, .getfield 25, 3, 11, 13), (53, .iload_n 1, 1, 0, 0), (54, .iaload, 1, 0, 0), (55, .goto 9, 3, 64, 0), (58, .aload_n 0, 1, 0, 0), (59, .getfield 28, 3, 11, 14), (62, .iload_n 1, 1, 0, 0), (63, .iaload, 1, 0, 0), (64, .ireturn, 1, 0, 0)]
def mX11_document : ab_M := (yX11_document, 11, cX11_document, 3, (some .int), kX11_document)
def kX11_alikeOf : List ab_I := [(0, .aload_n 0, 1, 0, 0), (1, .iload_n 1, 1, 0, 0), (2, .invokevirtual 226, 3, 170, 1), (5, .aload_n 0, 1, 0, 0), (6, .iload_n 2, 1, 0, 0), (7, .invokevirtual 226, 3, 170, 1), (10, .if_icmp .ge 11, 3, 21, 0), (13, .aload_n 0, 1, 0, 0), (14, .iload_n 1, 1, 0, 0), (15, .invokevirtual 226, 3, 170, 1), (18, .goto 8, 3, 26, 0), (21, .aload_n 0, 1, 0, 0), (22, .iload_n 2, 1, 0, 0), (23, .invokevirtual 226, 3, 170, 1), (26, .istore_n 3, 1, 0, 0), (27, .iconst 0, 1, 0, 0), (28, .istore 4, 2, 0, 0), (30, .iload 4, 2, 0, 0), (32, .iload_n 3, 1, 0, 0), (33, .if_icmp .ge 30, 3, 63, 0), (36, .aload_n 0, 1, 0, 0), (37, .getfield 19, 3, 11, 11), (40, .iload_n 1, 1, 0, 0), (41, .iload 4, 2, 0, 0), (43, .iadd, 1, 0, 0), (44, .iaload, 1, 0, 0), (45, .aload_n 0, 1, 0, 0), (46, .getfield 19, 3, 11, 11), (49, .iload_n 2, 1, 0, 0), (50, .iload 4, 2, 0, 0), (52, .iadd, 1, 0, 0), (53, .iaload, 1, 0, 0), (54, .if_icmp .ne 9, 3, 63, 0), (57, .iinc 4 1, 3, 0, 0), (60, .goto (-30), 3, 30, 0), (63, .iload 4, 2, 0, 0), (65, .ireturn, 1, 0, 0)]
def mX11_alikeOf : ab_M := (yX11_alikeOf, 11, cX11_alikeOf, 5, (some .int), kX11_alikeOf)
def kX11_alike : List ab_I := [(0, .aload_n 0, 1, 0, 0), (1, .iload_n 1, 1, 0, 0), (2, .invokevirtual 210, 3, 167, 1), (5, .ifCond .eq 20, 3, 25, 0), (8, .aload_n 0, 1, 0, 0), (9, .iload_n 2, 1, 0, 0), (10, .invokevirtual 210, 3, 167, 1), (13, .ifCond .eq 12, 3, 25, 0), (16, .aload_n 0, 1, 0, 0), (17, .iload_n 1, 1, 0, 0), (18, .iload_n 2, 1, 0, 0), (19, .invokevirtual 229, 3, 182, 2), (22, .goto 4, 3, 26, 0), (25, .iconst (-1), 1, 0, 0), (26, .ireturn, 1, 0, 0)]
def mX11_alike : ab_M := (yX11_alike, 11, cX11_alike, 3, (some .int), kX11_alike)
def kX11_toEmpty : List ab_I := [(0, .aload_n 0, 1, 0, 0), (1, .iconst 0, 1, 0, 0), (2, .putfield 233, 3, 11, 22), (5, .aload_n 0, 1, 0, 0), (6, .iconst 0, 1, 0, 0), (7, .putfield 236, 3, 11, 23), (10, .aload_n 0, 1, 0, 0), (11, .aload_n 0, 1, 0, 0), (12, .getfield 165, 3, 11, 7), (15, .putfield 239, 3, 11, 24), (18, .aload_n 0, 1, 0, 0), (19, .iconst 0, 1, 0, 0), (20, .putfield 242, 3, 11, 26), (23, .return_, 1, 0, 0)]
def mX11_toEmpty : ab_M := (yX11_toEmpty, 11, cX11_toEmpty, 1, none, kX11_toEmpty)
def kX11_begin : List ab_I := [(0, .aload_n 0, 1, 0, 0), (1, .getfield 176, 3, 11, 6), (4, .ifCond .ne 5, 3, 9, 0), (7, .iconst (-1), 1, 0, 0), (8, .ireturn, 1, 0, 0), (9, .aload_n 0, 1, 0, 0), (10, .invokevirtual 192, 3, 184, 0), (13, .aload_n 0, 1, 0, 0), (14, .getfield 165, 3, 11, 7), (17, .ireturn, 1, 0, 0)]
def mX11_begin : ab_M := (yX11_begin, 11, cX11_begin, 1, (some .int), kX11_begin)
def kX11_findRows : List ab_I := [(0, .aload_n 0, 1, 0, 0), (1, .aload_n 0, 1, 0, 0), (2, .getfield 34, 3, 11, 16), (5, .iload_n 1, 1, 0, 0), (6, .iaload, 1, 0, 0), (7, .putfield 236, 3, 11, 23), (10, .aload_n 0, 1, 0, 0), (11, .getfield 236, 3, 11, 23), (14, .ifCond .le 29, 3, 43, 0), (17, .aload_n 0, 1, 0, 0), (18, .getfield 37, 3, 11, 17), (21, .aload_n 0, 1, 0, 0), (22, .getfield 236, 3, 11, 23), (25, .iaload, 1, 0, 0), (26, .iload_n 2, 1, 0, 0), (27, .if_icmp .lt 16, 3, 43, 0), (30, .aload_n 0, 1, 0, 0), (31, .dup, 1, 0, 0), (32, .getfield 236, 3, 11, 23), (35, .iconst 1, 1, 0, 0), (36, .isub, 1, 0, 0), (37, .putfield 236, 3, 11, 23), (40, .goto (-30), 3, 10, 0), (43, .aload_n 0, 1, 0, 0), (44, .getfield 34, 3, 11, 16), (47, .iload_n 1, 1, 0, 0), (48, .iaload, 1, 0, 0), (49, .iconst 1, 1, 0, 0), (50, .iadd, 1, 0, 0), (51, .istore_n 3, 1, 0, 0), (52, .iload_n 3, 1, 0, 0), (53, .aload_n 0, 1, 0, 0), (54, .getfield 165, 3, 11, 7), (57, .if_icmp .ge 19, 3, 76, 0), (60, .aload_n 0, 1, 0, 0), (61, .getfield 37, 3, 11, 17), (64, .iload_n 3, 1, 0, 0), (65, .iaload, 1, 0, 0), (66, .iload_n 2, 1, 0, 0), (67, .if_icmp .lt 9, 3, 76, 0), (70, .iinc 3 1, 3, 0, 0), (73, .goto (-21), 3, 52, 0), (76, .aload_n 0, 1, 0, 0), (77, .iload_n 3, 1, 0, 0), (78, .aload_n 0, 1, 0, 0), (79, .getfield 236, 3, 11, 23), (82, .isub, 1, 0, 0), (83, .putfield 239, 3, 11, 24), (86, .return_, 1, 0, 0)]
def mX11_findRows : ab_M := (yX11_findRows, 11, cX11_findRows, 4, none, kX11_findRows)
def kX11_become : List ab_I := [(0, .iconst 0, 1, 0, 0), (1, .istore_n 3, 1, 0, 0), (2, .iload_n 3, 1, 0, 0), (3, .iload_n 2, 1, 0, 0), (4, .if_icmp .ge 23, 3, 27, 0), (7, .aload_n 0, 1, 0, 0), (8, .getfield 49, 3, 11, 21), (11, .iload_n 3, 1, 0, 0), (12, .aload_n 0, 1, 0, 0), (13, .getfield 19, 3, 11, 11), (16, .iload_n 1, 1, 0, 0), (17, .iload_n 3, 1, 0, 0), (18, .iadd, 1, 0, 0), (19, .iaload, 1, 0, 0), (20, .iastore, 1, 0, 0), (21, .iinc 3 1, 3, 0, 0), (24, .goto (-22), 3, 2, 0), (27, .aload_n 0, 1, 0, 0), (28, .iload_n 2, 1, 0, 0), (29, .putfield 233, 3, 11, 22), (32, .aload_n 0, 1, 0, 0), (33, .iconst 0, 1, 0, 0), (34, .putfield 242, 3, 11, 26), (37, .aload_n 0, 1, 0, 0), (38, .iload_n 1, 1, 0, 0), (39, .iload_n 2, 1, 0, 0), (40, .invokevirtual 245, 3, 186, 2), (43, .return_, 1, 0, 0)]
def mX11_become : ab_M := (yX11_become, 11, cX11_become, 4, none, kX11_become)
def kX11_grow : List ab_I := [(0, .aload_n 0, 1, 0, 0), (1, .getfield 176, 3, 11, 6), (4, .ifCond .eq 10, 3, 14, 0), (7, .iload_n 1, 1, 0, 0), (8, .invokestatic 220, 3, 169, 1), (11, .ifCond .ne 5, 3, 16, 0), (14, .iconst (-1), 1, 0, 0), (15, .ireturn, 1, 0, 0), (16, .iconst (-1), 1, 0, 0), (17, .istore_n 2, 1, 0, 0), (18, .iconst 0, 1, 0, 0), (19, .istore_n 3, 1, 0, 0), (20, .aload_n 0, 1, 0, 0), (21, .getfield 236, 3, 11, 23), (24, .istore 4, 2, 0, 0), (26, .iload 4, 2, 0, 0), (28, .aload_n 0, 1, 0, 0), (29, .getfield 236, 3, 11, 23), (32, .aload_n 0, 1, 0, 0), (33, .getfield 239, 3, 11, 24), (36, .iadd, 1, 0, 0), (37, .if_icmp .ge 62, 3, 99, 0), (40, .aload_n 0, 1, 0, 0), (41, .aload_n 0, 1, 0, 0), (42, .getfield 31, 3, 11, 15), (45, .iload 4, 2, 0, 0), (47, .iaload, 1, 0, 0), (48, .invokevirtual 226, 3, 170, 1), (51, .aload_n 0, 1, 0, 0), (52, .getfield 233, 3, 11, 22), (55, .if_icmp .le 38, 3, 93, 0), (58, .aload_n 0, 1, 0, 0), (59, .getfield 19, 3, 11, 11), (62, .aload_n 0, 1, 0, 0), (63, .getfield 31, 3, 11, 15), (66, .iload 4, 2, 0, 0), (68, .iaload, 1, 0, 0), (69, .aload_n 0, 1, 0, 0), (70, .getfield 233, 3, 11, 22), (73, .iadd, 1, 0, 0), (74, .iaload, 1, 0, 0), (75, .iload_n 1, 1, 0, 0), (76, .if_icmp .ne 17, 3, 93, 0), (79, .iload_n 2, 1, 0, 0), (80, .ifCond .ge 8, 3, 88, 0), (83, .iload 4, 2, 0, 0), (85, .goto 4, 3, 89, 0), (88, .iload_n 2, 1, 0, 0), (89, .istore_n 2, 1, 0, 0), (90, .iinc 3 1, 3, 0, 0), (93, .iinc 4 1, 3, 0, 0), (96, .goto (-70), 3, 26, 0), (99, .iload_n 3, 1, 0, 0), (100, .ifCond .le 53, 3, 153, 0), (103, .aload_n 0, 1, 0, 0), (104, .getfield 49, 3, 11, 21), (107, .aload_n 0, 1, 0, 0), (108, .getfield 233, 3, 11, 22), (111, .iload_n 1, 1, 0, 0), (112, .iastore, 1, 0, 0), (113, .aload_n 0, 1, 0, 0), (114, .dup, 1, 0, 0), (115, .getfield 233, 3, 11, 22), (118, .iconst 1, 1, 0, 0), (119, .iadd, 1, 0, 0), (120, .putfield 233, 3, 11, 22), (123, .aload_n 0, 1, 0, 0), (124, .iload_n 2, 1, 0, 0), (125, .putfield 236, 3, 11, 23), (128, .aload_n 0, 1, 0, 0), (129, .iload_n 3, 1, 0, 0), (130, .putfield 239, 3, 11, 24), (133, .aload_n 0, 1, 0, 0), (134, .getfield 52, 3, 11, 25), (137, .aload_n 0, 1, 0, 0), (138, .getfield 242, 3, 11, 26), (141, .iconst 0, 1, 0, 0), (142, .bastore, 1, 0, 0), (143, .aload_n 0, 1, 0, 0), (144, .dup, 1, 0, 0), (145, .getfield 242, 3, 11, 26), (148, .iconst 1, 1, 0, 0), (149, .iadd, 1, 0, 0), (150, .putfield 242, 3, 11, 26), (153, .iload_n 3, 1, 0, 0), (154, .ireturn, 1, 0, 0)]
def mX11_grow : ab_M := (yX11_grow, 11, cX11_grow, 5, (some .int), kX11_grow)
def kX11_front : List ab_I := [(0, .aload_n 0, 1, 0, 0), (1, .getfield 176, 3, 11, 6), (4, .ifCond .eq 10, 3, 14, 0), (7, .iload_n 1, 1, 0, 0), (8, .invokestatic 220, 3, 169, 1), (11, .ifCond .ne 5, 3, 16, 0), (14, .iconst (-1), 1, 0, 0), (15, .ireturn, 1, 0, 0), (16, .aload_n 0, 1, 0, 0), (17, .getfield 165, 3, 11, 7), (20, .istore_n 2, 1, 0, 0), (21, .iconst 0, 1, 0, 0), (22, .istore_n 3, 1, 0, 0), (23, .aload_n 0, 1, 0, 0), (24, .getfield 236, 3, 11, 23), (27, .istore 4, 2, 0, 0), (29, .iload 4, 2, 0, 0), (31, .aload_n 0, 1, 0, 0), (32, .getfield 236, 3, 11, 23), (35, .aload_n 0, 1, 0, 0), (36, .getfield 239, 3, 11, 24), (39, .iadd, 1, 0, 0), (40, .if_icmp .ge 51, 3, 91, 0), (43, .aload_n 0, 1, 0, 0), (44, .iload 4, 2, 0, 0), (46, .invokevirtual 217, 3, 175, 1), (49, .iload_n 1, 1, 0, 0), (50, .if_icmp .ne 35, 3, 85, 0), (53, .aload_n 0, 1, 0, 0), (54, .getfield 34, 3, 11, 16), (57, .aload_n 0, 1, 0, 0), (58, .getfield 31, 3, 11, 15), (61, .iload 4, 2, 0, 0), (63, .iaload, 1, 0, 0), (64, .iconst 1, 1, 0, 0), (65, .isub, 1, 0, 0), (66, .iaload, 1, 0, 0), (67, .istore 5, 2, 0, 0), (69, .iload 5, 2, 0, 0), (71, .iload_n 2, 1, 0, 0), (72, .if_icmp .ge 8, 3, 80, 0), (75, .iload 5, 2, 0, 0), (77, .goto 4, 3, 81, 0), (80, .iload_n 2, 1, 0, 0), (81, .istore_n 2, 1, 0, 0), (82, .iinc 3 1, 3, 0, 0), (85, .iinc 4 1, 3, 0, 0), (88, .goto (-59), 3, 29, 0), (91, .iload_n 3, 1, 0, 0), (92, .ifCond .le 83, 3, 175, 0), (95, .aload_n 0, 1, 0, 0), (96, .getfield 233, 3, 11, 22), (99, .istore 4, 2, 0, 0), (101, .iload 4, 2, 0, 0), (103, .ifCond .le 25, 3, 128, 0), (106, .aload_n 0, 1, 0, 0), (107, .getfield 49, 3, 11, 21), (110, .iload 4, 2, 0, 0), (112, .aload_n 0, 1, 0, 0), (113, .getfield 49, 3, 11, 21), (116, .iload 4, 2, 0, 0), (118, .iconst 1, 1, 0, 0), (119, .isub, 1, 0, 0), (120, .iaload, 1, 0, 0), (121, .iastore, 1, 0, 0), (122, .iinc 4 (-1), 3, 0, 0), (125, .goto (-24), 3, 101, 0), (128, .aload_n 0, 1, 0, 0), (129, .getfield 49, 3, 11, 21), (132, .iconst 0, 1, 0, 0), (133, .iload_n 1, 1, 0, 0), (134, .iastore, 1, 0, 0), (135, .aload_n 0, 1, 0, 0), (136, .dup, 1, 0, 0), (137, .getfield 233, 3, 11, 22), (140, .iconst 1, 1, 0, 0), (141, .iadd, 1, 0, 0), (142, .putfield 233, 3, 11, 22), (145, .aload_n 0, 1, 0, 0), (146, .iload_n 2, 1, 0, 0), (147, .putfield 236, 3, 11, 23), (150, .aload_n 0, 1, 0, 0), (151, .iload_n 3, 1, 0, 0), (152, .putfield 239, 3, 11, 24), (155, .aload_n 0, 1, 0, 0), (156, .getfield 52, 3, 11, 25), (159, .aload_n 0, 1, 0, 0), (160, .getfield 242, 3, 11, 26), (163, .iconst 1, 1, 0, 0), (164, .bastore, 1, 0, 0), (165, .aload_n 0, 1, 0, 0), (166, .dup, 1, 0, 0), (167, .getfield 242, 3, 11, 26), (170, .iconst 1, 1, 0, 0), (171, .iadd, 1, 0, 0), (172, .putfield 242, 3, 11, 26), (175, .iload_n 3, 1, 0, 0), (176, .ireturn, 1, 0, 0)]
def mX11_front : ab_M := (yX11_front, 11, cX11_front, 6, (some .int), kX11_front)
def kX11_back : List ab_I := [(0, .aload_n 0, 1, 0, 0), (1, .getfield 176, 3, 11, 6), (4, .ifCond .eq 10, 3, 14, 0), (7, .aload_n 0, 1, 0, 0), (8, .getfield 242, 3, 11, 26), (11, .ifCond .ne 5, 3, 16, 0), (14, .iconst (-1), 1, 0, 0), (15, .ireturn, 1, 0, 0), (16, .aload_n 0, 1, 0, 0), (17, .dup, 1, 0, 0), (18, .getfield 242, 3, 11, 26), (21, .iconst 1, 1, 0, 0), (22, .isub, 1, 0, 0), (23, .putfield 242, 3, 11, 26), (26, .aload_n 0, 1, 0, 0), (27, .dup, 1, 0, 0), (28, .getfield 233, 3, 11, 22), (31, .iconst 1, 1, 0, 0), (32, .isub, 1, 0, 0), (33, .putfield 233, 3, 11, 22), (36, .aload_n 0, 1, 0, 0), (37, .getfield 31, 3, 11, 15), (40, .aload_n 0, 1, 0, 0), (41, .getfield 236, 3, 11, 23), (44, .iaload, 1, 0, 0), (45, .istore_n 1, 1, 0, 0), (46, .aload_n 0, 1, 0, 0), (47, .getfield 52, 3, 11, 25), (50, .aload_n 0, 1, 0, 0), (51, .getfield 242, 3, 11, 26), (54, .baload, 1, 0, 0), (55, .ifCond .eq 36, 3, 91, 0), (58, .iconst 0, 1, 0, 0), (59, .istore_n 2, 1, 0, 0), (60, .iload_n 2, 1, 0, 0), (61, .aload_n 0, 1, 0, 0), (62, .getfield 233, 3, 11, 22), (65, .if_icmp .ge 23, 3, 88, 0), (68, .aload_n 0, 1, 0, 0), (69, .getfield 49, 3, 11, 21), (72, .iload_n 2, 1, 0, 0), (73, .aload_n 0, 1, 0, 0), (74, .getfield 49, 3, 11, 21), (77, .iload_n 2, 1, 0, 0), (78, .iconst 1, 1, 0, 0), (79, .iadd, 1, 0, 0), (80, .iaload, 1, 0, 0), (81, .iastore, 1, 0, 0), (82, .iinc 2 1, 3, 0, 0), (85, .goto (-25), 3, 60, 0), (88, .iinc 1 1, 3, 0, 0), (91, .aload_n 0, 1, 0, 0), (92, .getfield 233, 3, 11, 22), (95, .ifCond .ne 19, 3, 114, 0), (98, .aload_n 0, 1, 0, 0), (99, .iconst 0, 1, 0, 0), (100, .putfield 236, 3, 11, 23), (103, .aload_n 0, 1, 0, 0), (104, .aload_n 0, 1, 0, 0), (105, .getfield 165, 3, 11, 7), (108, .putfield 239, 3, 11, 24), (111, .goto 12, 3, 123, 0), (114, .aload_n 0, 1, 0, 0), (115, .iload_n 1, 1, 0, 0), (116, .aload_n 0, 1, 0, 0), (117, .getfield 233, 3, 11, 22), (120, .invokevirtual 245, 3, 186, 2), (123, .aload_n 0, 1, 0, 0), (124, .getfield 233, 3, 11, 22), (127, .ireturn, 1, 0, 0)]
def mX11_back : ab_M := (yX11_back, 11, cX11_back, 3, (some .int), kX11_back)
def kX11_pattern : List ab_I := [(0, .aload_n 0, 1, 0, 0), (1, .getfield 176, 3, 11, 6), (4, .ifCond .eq 12, 3, 16, 0), (7, .iload_n 1, 1, 0, 0), (8, .ifCond .lt 8, 3, 16, 0), (11, .iload_n 1, 1, 0, 0), (12, .iconst 3, 1, 0, 0), (13, .if_icmp .le 5, 3, 18, 0), (16, .iconst (-1), 1, 0, 0), (17, .ireturn, 1, 0, 0), (18, .iload_n 1, 1, 0, 0), (19, .ifCond .ne 10, 3, 29, 0), (22, .aload_n 0, 1, 0, 0), (23, .getfield 233, 3, 11, 22), (26, .goto 31, 3, 57, 0), (29, .iload_n 1, 1, 0, 0), (30, .iconst 1, 1, 0, 0), (31, .if_icmp .ne 10, 3, 41, 0), (34, .aload_n 0, 1, 0, 0), (35, .getfield 236, 3, 11, 23), (38, .goto 19, 3, 57, 0), (41, .iload_n 1, 1, 0, 0), (42, .iconst 2, 1, 0, 0), (43, .if_icmp .ne 10, 3, 53, 0), (46, .aload_n 0, 1, 0, 0), (47, .getfield 239, 3, 11, 24), (50, .goto 7, 3, 57, 0), (53, .aload_n 0, 1, 0, 0), (54, .getfield 242, 3, 11, 26), (57, .ireturn, 1, 0, 0)]
def mX11_pattern : ab_M := (yX11_pattern, 11, cX11_pattern, 2, (some .int), kX11_pattern)
def kX11_patternByte : List ab_I := [(0, .aload_n 0, 1, 0, 0), (1, .getfield 176, 3, 11, 6), (4, .ifCond .eq 15, 3, 19, 0), (7, .iload_n 1, 1, 0, 0), (8, .ifCond .lt 11, 3, 19, 0), (11, .iload_n 1, 1, 0, 0), (12, .aload_n 0, 1, 0, 0), (13, .getfield 233, 3, 11, 22), (16, .if_icmp .lt 7, 3, 23, 0), (19, .iconst (-1), 1, 0, 0), (20, .goto 9, 3, 29, 0), (23, .aload_n 0, 1, 0, 0), (24, .getfield 49, 3, 11, 21), (27, .iload_n 1, 1, 0, 0), (28, .iaload, 1, 0, 0), (29, .ireturn, 1, 0, 0)]
def mX11_patternByte : ab_M := (yX11_patternByte, 11, cX11_patternByte, 2, (some .int), kX11_patternByte)
def kX11_at : List ab_I := [(0, .aload_n 0, 1, 0, 0), (1, .getfield 176, 3, 11, 6), (4, .ifCond .eq 15, 3, 19, 0), (7, .iload_n 1, 1, 0, 0), (8, .ifCond .lt 11, 3, 19, 0), (11, .iload_n 1, 1, 0, 0), (12, .aload_n 0, 1, 0, 0), (13, .getfield 239, 3, 11, 24), (16, .if_icmp .lt 7, 3, 23, 0), (19, .iconst (-1), 1, 0, 0), (20, .goto 13, 3, 33, 0), (23, .aload_n 0, 1, 0, 0), (24, .aload_n 0, 1, 0, 0), (25, .getfield 236, 3, 11, 23), (28, .iload_n 1, 1, 0, 0), (29, .iadd, 1, 0, 0), (30, .invokevirtual 249, 3, 172, 1), (33, .ireturn, 1, 0, 0)]
def mX11_at : ab_M := (yX11_at, 11, cX11_at, 2, (some .int), kX11_at)
def kX11_isAt : List ab_I := [(0, .aload_n 0, 1, 0, 0), (1, .getfield 34, 3, 11, 16), (4, .iload_n 1, 1, 0, 0), (5, .iaload, 1, 0, 0), (6, .aload_n 0, 1, 0, 0), (7, .getfield 236, 3, 11, 23), (10, .if_icmp .lt 25, 3, 35, 0), (13, .aload_n 0, 1, 0, 0), (14, .getfield 34, 3, 11, 16), (17, .iload_n 1, 1, 0, 0), (18, .iaload, 1, 0, 0), (19, .aload_n 0, 1, 0, 0), (20, .getfield 236, 3, 11, 23), (23, .aload_n 0, 1, 0, 0), (24, .getfield 239, 3, 11, 24), (27, .iadd, 1, 0, 0), (28, .if_icmp .ge 7, 3, 35, 0), (31, .iconst 1, 1, 0, 0), (32, .goto 4, 3, 36, 0), (35, .iconst 0, 1, 0, 0), (36, .ireturn, 1, 0, 0)]
def mX11_isAt : ab_M := (yX11_isAt, 11, cX11_isAt, 2, (some .boolean), kX11_isAt)
def kX11_sorted : List ab_I := [(0, .iconst 0, 1, 0, 0), (1, .istore_n 2, 1, 0, 0), (2, .iconst 0, 1, 0, 0), (3, .istore_n 3, 1, 0, 0), (4, .iload_n 3, 1, 0, 0), (5, .aload_n 0, 1, 0, 0), (6, .getfield 165, 3, 11, 7), (9, .if_icmp .ge 38, 3, 47, 0), (12, .aload_n 0, 1, 0, 0), (13, .getfield 176, 3, 11, 6), (16, .ifCond .eq 31, 3, 47, 0), (19, .iload_n 1, 1, 0, 0), (20, .ifCond .lt 27, 3, 47, 0), (23, .aload_n 0, 1, 0, 0), (24, .iload_n 3, 1, 0, 0), (25, .invokevirtual 252, 3, 194, 1), (28, .ifCond .eq 13, 3, 41, 0), (31, .iload_n 2, 1, 0, 0), (32, .iload_n 1, 1, 0, 0), (33, .if_icmp .ne 5, 3, 38, 0), (36, .iload_n 3, 1, 0, 0), (37, .ireturn, 1, 0, 0), (38, .iinc 2 1, 3, 0, 0), (41, .iinc 3 1, 3, 0, 0), (44, .goto (-40), 3, 4, 0), (47, .iconst (-1), 1, 0, 0), (48, .ireturn, 1, 0, 0)]
def mX11_sorted : ab_M := (yX11_sorted, 11, cX11_sorted, 4, (some .int), kX11_sorted)
def kX11_more : List ab_I := [(0, .aload_n 0, 1, 0, 0), (1, .getfield 176, 3, 11, 6), (4, .ifCond .ne 5, 3, 9, 0), (7, .iconst (-1), 1, 0, 0), (8, .ireturn, 1, 0, 0), (9, .iconst 0, 1, 0, 0), (10, .istore_n 3, 1, 0, 0), (11, .iconst 0, 1, 0, 0), (12, .istore 4, 2, 0, 0), (14, .iload 4, 2, 0, 0), (16, .sipush 256, 3, 0, 0), (19, .if_icmp .ge 129, 3, 148, 0), (22, .iconst 0, 1, 0, 0), (23, .istore 5, 2, 0, 0), (25, .aload_n 0, 1, 0, 0), (26, .getfield 236, 3, 11, 23), (29, .istore 6, 2, 0, 0), (31, .iload 6, 2, 0, 0), (33, .aload_n 0, 1, 0, 0), (34, .getfield 236, 3, 11, 23), (37, .aload_n 0, 1, 0, 0), (38, .getfield 239, 3, 11, 24), (41, .iadd, 1, 0, 0), (42, .if_icmp .ge 84, 3, 126, 0), (45, .iload 5, 2, 0, 0), (47, .ifCond .ne 79, 3, 126, 0), (50, .iload_n 1, 1, 0, 0), (51, .ifCond .eq 51, 3, 102, 0), (54, .aload_n 0, 1, 0, 0), (55, .aload_n 0, 1, 0, 0), (56, .getfield 31, 3, 11, 15), (59, .iload 6, 2, 0, 0), (61, .iaload, 1, 0, 0), (62, .invokevirtual 226, 3, 170, 1), (65, .aload_n 0, 1, 0, 0), (66, .getfield 233, 3, 11, 22), (69, .if_icmp .le 29, 3, 98, 0), (72, .aload_n 0, 1, 0, 0), (73, .getfield 19, 3, 11, 11), (76, .aload_n 0, 1, 0, 0), (77, .getfield 31, 3, 11, 15), (80, .iload 6, 2, 0, 0), (82, .iaload, 1, 0, 0), (83, .aload_n 0, 1, 0, 0), (84, .getfield 233, 3, 11, 22), (87, .iadd, 1, 0, 0), (88, .iaload, 1, 0, 0), (89, .iload 4, 2, 0, 0), (91, .if_icmp .ne 7, 3, 98, 0), (94, .iconst 1, 1, 0, 0), (95, .goto 23, 3, 118, 0), (98, .iconst 0, 1, 0, 0), (99, .goto 19, 3, 118, 0), (102, .aload_n 0, 1, 0, 0), (103, .iload 6, 2, 0, 0), (105, .invokevirtual 217, 3, 175, 1), (108, .iload 4, 2, 0, 0), (110, .if_icmp .ne 7, 3, 117, 0), (113, .iconst 1, 1, 0, 0), (114, .goto 4, 3, 118, 0), (117, .iconst 0, 1, 0, 0), (118, .istore 5, 2, 0, 0), (120, .iinc 6 1, 3, 0, 0), (123, .goto (-92), 3, 31, 0), (126, .iload 5, 2, 0, 0), (128, .ifCond .eq 14, 3, 142, 0), (131, .iload_n 3, 1, 0, 0), (132, .iload_n 2, 1, 0, 0), (133, .if_icmp .ne 6, 3, 139, 0), (136, .iload 4, 2, 0, 0), (138, .ireturn, 1, 0, 0), (139, .iinc 3 1, 3, 0, 0), (142, .iinc 4 1, 3, 0, 0), (145, .goto (-131), 3, 14, 0), (148, .iload_n 2, 1, 0, 0), (149, .iconst (-1), 1, 0, 0), (150, .if_icmp .ne 7, 3, 157, 0), (153, .iload_n 3, 1, 0, 0), (154, .goto 4, 3, 158, 0), (157, .iconst (-1), 1, 0, 0), (158, .ireturn, 1, 0, 0)]
def mX11_more : ab_M := (yX11_more, 11, cX11_more, 7, (some .int), kX11_more)
def kX11_timesOf : List ab_I := [(0, .iconst 0, 1, 0, 0), (1, .istore_n 2, 1, 0, 0), (2, .aload_n 0, 1, 0, 0), (3, .getfield 25, 3, 11, 13), (6, .iload_n 1, 1, 0, 0), (7, .iaload, 1, 0, 0), (8, .istore_n 3, 1, 0, 0), (9, .iload_n 3, 1, 0, 0), (10, .aload_n 0, 1, 0, 0), (11, .getfield 25, 3, 11, 13), (14, .iload_n 1, 1, 0, 0), (15, .iaload, 1, 0, 0), (16, .aload_n 0, 1, 0, 0), (17, .getfield 28, 3, 11, 14), (20, .iload_n 1, 1, 0, 0), (21, .iaload, 1, 0, 0), (22, .iadd, 1, 0, 0), (23, .if_icmp .gt 25, 3, 48, 0), (26, .iload_n 2, 1, 0, 0), (27, .aload_n 0, 1, 0, 0), (28, .iload_n 3, 1, 0, 0), (29, .invokevirtual 252, 3, 194, 1), (32, .ifCond .eq 7, 3, 39, 0), (35, .iconst 1, 1, 0, 0), (36, .goto 4, 3, 40, 0), (39, .iconst 0, 1, 0, 0), (40, .iadd, 1, 0, 0), (41, .istore_n 2, 1, 0, 0), (42, .iinc 3 1, 3, 0, 0), (45, .goto (-36), 3, 9, 0), (48, .iload_n 2, 1, 0, 0), (49, .ireturn, 1, 0, 0)]
def mX11_timesOf : ab_M := (yX11_timesOf, 11, cX11_timesOf, 4, (some .int), kX11_timesOf)
def kX11_ranked : List ab_I := [(0, .aload_n 0, 1, 0, 0), (1, .getfield 176, 3, 11, 6), (4, .ifCond .eq 8, 3, 12, 0), (7, .iload_n 1, 1, 0, 0), (8, .iconst (-1), 1, 0, 0), (9, .if_icmp .ge 5, 3, 14, 0), (12, .iconst (-1), 1, 0, 0), (13, .ireturn, 1, 0, 0), (14, .iconst 0, 1, 0, 0), (15, .istore_n 2, 1, 0, 0), (16, .iconst 0, 1, 0, 0), (17, .istore_n 3, 1, 0, 0), (18, .iload_n 3, 1, 0, 0), (19, .aload_n 0, 1, 0, 0), (20, .getfield 183, 3, 11, 8), (23, .if_icmp .ge 37, 3, 60, 0), (26, .aload_n 0, 1, 0, 0), (27, .getfield 46, 3, 11, 20), (30, .iload_n 3, 1, 0, 0), (31, .aload_n 0, 1, 0, 0), (32, .iload_n 3, 1, 0, 0), (33, .invokevirtual 255, 3, 197, 1), (36, .iastore, 1, 0, 0), (37, .iload_n 2, 1, 0, 0), (38, .aload_n 0, 1, 0, 0), (39, .getfield 46, 3, 11, 20), (42, .iload_n 3, 1, 0, 0), (43, .iaload, 1, 0, 0), (44, .ifCond .le 7, 3, 51, 0), (47, .iconst 1, 1, 0, 0), (48, .goto 4, 3, 52, 0), (51, .iconst 0, 1, 0, 0), (52, .iadd, 1, 0, 0), (53, .istore_n 2, 1, 0, 0), (54, .iinc 3 1, 3, 0, 0), (57, .goto (-39), 3, 18, 0), (60, .iload_n 1, 1, 0, 0), (61, .iconst (-1), 1, 0, 0), (62, .if_icmp .ne 5, 3, 67, 0), (65, .iload_n 2, 1, 0, 0), (66, .ireturn, 1, 0, 0), (67, .iconst 0, 1, 0, 0), (68, .istore_n 3, 1, 0, 0), (69, .iload_n 3, 1, 0, 0), (70, .aload_n 0, 1, 0, 0), (71, .getfield 183, 3, 11, 8), (74, .if_icmp .ge 95, 3, 169, 0), (77, .iconst 0, 1, 0, 0), (78, .istore 4, 2, 0, 0), (80, .iconst 0, 1, 0, 0), (81, .istore 5, 2, 0, 0), (83, .iload 5, 2, 0, 0), (85, .aload_n 0, 1, 0, 0), (86, .getfield 183, 3, 11, 8), (89, .if_icmp .ge 57, 3, 146, 0), (92, .iload 4, 2, 0, 0), (94, .aload_n 0, 1, 0, 0), (95, .getfield 46, 3, 11, 20), (98, .iload 5, 2, 0, 0), (100, .iaload, 1, 0, 0), (101, .aload_n 0, 1, 0, 0), (102, .getfield 46, 3, 11, 20), (105, .iload_n 3, 1, 0, 0), (106, .iaload, 1, 0, 0), (107, .if_icmp .gt 25, 3, 132, 0), (110, .aload_n 0, 1, 0, 0), (111, .getfield 46, 3, 11, 20), (114, .iload 5, 2, 0, 0), (116, .iaload, 1, 0, 0), (117, .aload_n 0, 1, 0, 0), (118, .getfield 46, 3, 11, 20), (121, .iload_n 3, 1, 0, 0), (122, .iaload, 1, 0, 0), (123, .if_icmp .ne 13, 3, 136, 0), (126, .iload 5, 2, 0, 0), (128, .iload_n 3, 1, 0, 0), (129, .if_icmp .ge 7, 3, 136, 0), (132, .iconst 1, 1, 0, 0), (133, .goto 4, 3, 137, 0), (136, .iconst 0, 1, 0, 0), (137, .iadd, 1, 0, 0), (138, .istore 4, 2, 0, 0), (140, .iinc 5 1, 3, 0, 0), (143, .goto (-60), 3, 83, 0), (146, .aload_n 0, 1, 0, 0), (147, .getfield 46, 3, 11, 20), (150, .iload_n 3, 1, 0, 0), (151, .iaload, 1, 0, 0), (152, .ifCond .le 11, 3, 163, 0), (155, .iload 4, 2, 0, 0), (157, .iload_n 1, 1, 0, 0), (158, .if_icmp .ne 5, 3, 163, 0), (161, .iload_n 3, 1, 0, 0), (162, .ireturn, 1, 0, 0), (163, .iinc 3 1, 3, 0, 0), (166, .goto (-97), 3, 69, 0), (169, .iconst (-1), 1, 0, 0), (170, .ireturn, 1, 0, 0)]
def mX11_ranked : ab_M := (yX11_ranked, 11, cX11_ranked, 6, (some .int), kX11_ranked)
def kX11_times : List ab_I := [(0, .aload_n 0, 1, 0, 0), (1, .iload_n 1, 1, 0, 0), (2, .invokevirtual 223, 3, 168, 1), (5, .ifCond .eq 11, 3, 16, 0), (8, .aload_n 0, 1, 0, 0), (9, .iload_n 1, 1, 0, 0), (10, .invokevirtual 255, 3, 197, 1), (13, .goto 4, 3, 17, 0), (16, .iconst (-1), 1, 0, 0), (17, .ireturn, 1, 0, 0)]
def mX11_times : ab_M := (yX11_times, 11, cX11_times, 2, (some .int), kX11_times)
def kX11_take : List ab_I := [(0, .aload_n 0, 1, 0, 0), (1, .iload_n 1, 1, 0, 0), (2, .invokevirtual 210, 3, 167, 1), (5, .ifCond .eq 17, 3, 22, 0), (8, .iload_n 2, 1, 0, 0), (9, .iconst 1, 1, 0, 0), (10, .if_icmp .lt 12, 3, 22, 0), (13, .iload_n 2, 1, 0, 0), (14, .aload_n 0, 1, 0, 0), (15, .iload_n 1, 1, 0, 0), (16, .invokevirtual 226, 3, 170, 1), (19, .if_icmp .le 5, 3, 24, 0), (22, .iconst (-1), 1, 0, 0), (23, .ireturn, 1, 0, 0), (24, .aload_n 0, 1, 0, 0), (25, .iload_n 1, 1, 0, 0), (26, .iload_n 2, 1, 0, 0), (27, .invokevirtual 258, 3, 187, 2), (30, .aload_n 0, 1, 0, 0), (31, .getfield 239, 3, 11, 24), (34, .ireturn, 1, 0, 0)]
def mX11_take : ab_M := (yX11_take, 11, cX11_take, 3, (some .int), kX11_take)
def kX11_near : List ab_I := [(0, .aload_n 0, 1, 0, 0), (1, .getfield 176, 3, 11, 6), (4, .ifCond .eq 29, 3, 33, 0), (7, .iload_n 1, 1, 0, 0), (8, .ifCond .lt 25, 3, 33, 0), (11, .iload_n 1, 1, 0, 0), (12, .iconst 3, 1, 0, 0), (13, .if_icmp .gt 20, 3, 33, 0), (16, .aload_n 0, 1, 0, 0), (17, .getfield 233, 3, 11, 22), (20, .iconst 1, 1, 0, 0), (21, .if_icmp .lt 12, 3, 33, 0), (24, .aload_n 0, 1, 0, 0), (25, .getfield 233, 3, 11, 22), (28, .bipush 40, 2, 0, 0), (30, .if_icmp .le 5, 3, 35, 0), (33, .iconst (-1), 1, 0, 0), (34, .ireturn, 1, 0, 0), (35, .aload_n 0, 1, 0, 0), (36, .iconst 0, 1, 0, 0), (37, .putfield 195, 3, 11, 29), (40, .iconst 0, 1, 0, 0), (41, .istore_n 2, 1, 0, 0), (42, .iload_n 2, 1, 0, 0), (43, .aload_n 0, 1, 0, 0), (44, .getfield 165, 3, 11, 7), (47, .if_icmp .ge 120, 3, 167, 0), (50, .iconst 0, 1, 0, 0), (51, .istore_n 3, 1, 0, 0), (52, .iconst 0, 1, 0, 0), (53, .istore 4, 2, 0, 0), (55, .iload 4, 2, 0, 0), (57, .aload_n 0, 1, 0, 0), (58, .getfield 233, 3, 11, 22), (61, .if_icmp .ge 53, 3, 114, 0), (64, .aload_n 0, 1, 0, 0), (65, .iload_n 2, 1, 0, 0), (66, .invokevirtual 226, 3, 170, 1), (69, .aload_n 0, 1, 0, 0), (70, .getfield 233, 3, 11, 22), (73, .if_icmp .lt 41, 3, 114, 0), (76, .iload_n 3, 1, 0, 0), (77, .iload_n 1, 1, 0, 0), (78, .if_icmp .gt 36, 3, 114, 0), (81, .iload_n 3, 1, 0, 0), (82, .aload_n 0, 1, 0, 0), (83, .getfield 19, 3, 11, 11), (86, .iload_n 2, 1, 0, 0), (87, .iload 4, 2, 0, 0), (89, .iadd, 1, 0, 0), (90, .iaload, 1, 0, 0), (91, .aload_n 0, 1, 0, 0), (92, .getfield 49, 3, 11, 21), (95, .iload 4, 2, 0, 0), (97, .iaload, 1, 0, 0), (98, .if_icmp .ne 7, 3, 105, 0), (101, .iconst 0, 1, 0, 0), (102, .goto 4, 3, 106, 0), (105, .iconst 1, 1, 0, 0), (106, .iadd, 1, 0, 0), (107, .istore_n 3, 1, 0, 0), (108, .iinc 4 1, 3, 0, 0), (111, .goto (-56), 3, 55, 0), (114, .aload_n 0, 1, 0, 0), (115, .iload_n 2, 1, 0, 0), (116, .invokevirtual 226, 3, 170, 1), (119, .aload_n 0, 1, 0, 0), (120, .getfield 233, 3, 11, 22), (123, .if_icmp .lt 38, 3, 161, 0), (126, .iload_n 3, 1, 0, 0), (127, .iload_n 1, 1, 0, 0), (128, .if_icmp .gt 33, 3, 161, 0), (131, .aload_n 0, 1, 0, 0), (132, .getfield 56, 3, 11, 27), (135, .aload_n 0, 1, 0, 0), (136, .getfield 195, 3, 11, 29), (139, .iload_n 2, 1, 0, 0), (140, .iastore, 1, 0, 0), (141, .aload_n 0, 1, 0, 0), (142, .getfield 59, 3, 11, 28), (145, .aload_n 0, 1, 0, 0), (146, .getfield 195, 3, 11, 29), (149, .iload_n 3, 1, 0, 0), (150, .iastore, 1, 0, 0), (151, .aload_n 0, 1, 0, 0), (152, .dup, 1, 0, 0), (153, .getfield 195, 3, 11, 29), (156, .iconst 1, 1, 0, 0), (157, .iadd, 1, 0, 0), (158, .putfield 195, 3, 11, 29), (161, .iinc 2 1, 3, 0, 0), (164, .goto (-122), 3, 42, 0), (167, .aload_n 0, 1, 0, 0), (168, .getfield 195, 3, 11, 29), (171, .ireturn, 1, 0, 0)]
def mX11_near : ab_M := (yX11_near, 11, cX11_near, 5, (some .int), kX11_near)
def kX11_nearOf : List ab_I := [(0, .aload_n 0, 1, 0, 0), (1, .getfield 176, 3, 11, 6), (4, .ifCond .eq 24, 3, 28, 0), (7, .iload_n 1, 1, 0, 0), (8, .ifCond .lt 20, 3, 28, 0), (11, .iload_n 1, 1, 0, 0), (12, .aload_n 0, 1, 0, 0), (13, .getfield 195, 3, 11, 29), (16, .if_icmp .ge 12, 3, 28, 0), (19, .iload_n 2, 1, 0, 0), (20, .ifCond .lt 8, 3, 28, 0), (23, .iload_n 2, 1, 0, 0), (24, .iconst 1, 1, 0, 0), (25, .if_icmp .le 7, 3, 32, 0), (28, .iconst (-1), 1, 0, 0), (29, .goto 22, 3, 51, 0), (32, .iload_n 2, 1, 0, 0), (33, .ifCond .ne 12, 3, 45, 0), (36, .aload_n 0, 1, 0, 0), (37, .getfield 56, 3, 11, 27), (40, .iload_n 1, 1, 0, 0), (41, .iaload, 1, 0, 0), (42, .goto 9, 3, 51, 0), (45, .aload_n 0, 1, 0, 0), (46, .getfield 59, 3, 11, 28), (49, .iload_n 1, 1, 0, 0), (50, .iaload, 1, 0, 0), (51, .ireturn, 1, 0, 0)]
def mX11_nearOf : ab_M := (yX11_nearOf, 11, cX11_nearOf, 3, (some .int), kX11_nearOf)
def kX11_ask : List ab_I := [(0, .iload_n 1, 1, 0, 0), (1, .bipush 32, 2, 0, 0), (3, .if_icmp .lt 19, 3, 22, 0), (6, .iload_n 1, 1, 0, 0), (7, .bipush 126, 2, 0, 0), (9, .if_icmp .gt 13, 3, 22, 0), (12, .aload_n 0, 1, 0, 0), (13, .getfield 261, 3, 11, 31), (16, .sipush 200, 3, 0, 0), (19, .if_icmp .ne 5, 3, 24, 0), (22, .iconst (-1), 1, 0, 0), (23, .ireturn, 1, 0, 0), (24, .aload_n 0, 1, 0, 0), (25, .getfield 62, 3, 11, 30), (28, .aload_n 0, 1, 0, 0), (29, .getfield 261, 3, 11, 31), (32, .iload_n 1, 1, 0, 0), (33, .iastore, 1, 0, 0), (34, .aload_n 0, 1, 0, 0), (35, .dup, 1, 0, 0), (36, .getfield 261, 3, 11, 31), (39, .iconst 1, 1, 0, 0), (40, .iadd, 1, 0, 0), (41, .putfield 261, 3, 11, 31), (44, .aload_n 0, 1, 0, 0), (45, .getfield 261, 3, 11, 31), (48, .ireturn, 1, 0, 0)]
def mX11_ask : ab_M := (yX11_ask, 11, cX11_ask, 2, (some .int), kX11_ask)
def kX11_sign : List ab_I := [(0, .aload_n 0, 1, 0, 0), (1, .getfield 264, 3, 11, 38), (4, .aload_n 0, 1, 0, 0), (5, .getfield 261, 3, 11, 31), (8, .if_icmp .ge 15, 3, 23, 0), (11, .aload_n 0, 1, 0, 0), (12, .getfield 62, 3, 11, 30), (15, .aload_n 0, 1, 0, 0), (16, .getfield 264, 3, 11, 38), (19, .iaload, 1, 0, 0), (20, .goto 4, 3, 24, 0), (23, .iconst (-1), 1, 0, 0), (24, .ireturn, 1, 0, 0)]
def mX11_sign : ab_M := (yX11_sign, 11, cX11_sign, 1, (some .int), kX11_sign)
def kX11_fail : List ab_I := [(0, .aload_n 0, 1, 0, 0), (1, .aload_n 0, 1, 0, 0), (2, .getfield 267, 3, 11, 37), (5, .ifCond .ge 7, 3, 12, 0), (8, .iload_n 1, 1, 0, 0), (9, .goto 7, 3, 16, 0), (12, .aload_n 0, 1, 0, 0), (13, .getfield 267, 3, 11, 37), (16, .putfield 267, 3, 11, 37), (19, .return_, 1, 0, 0)]
def mX11_fail : ab_M := (yX11_fail, 11, cX11_fail, 2, none, kX11_fail)
def kX11_isFigure : List ab_I := [(0, .iload_n 0, 1, 0, 0), (1, .bipush 48, 2, 0, 0), (3, .if_icmp .lt 13, 3, 16, 0), (6, .iload_n 0, 1, 0, 0), (7, .bipush 57, 2, 0, 0), (9, .if_icmp .gt 7, 3, 16, 0), (12, .iconst 1, 1, 0, 0), (13, .goto 4, 3, 17, 0), (16, .iconst 0, 1, 0, 0), (17, .ireturn, 1, 0, 0)]
def mX11_isFigure : ab_M := (yX11_isFigure, 11, cX11_isFigure, 1, (some .boolean), kX11_isFigure)
def kX11_number : List ab_I := [(0, .aload_n 0, 1, 0, 0), (1, .invokevirtual 270, 3, 204, 0), (4, .invokestatic 274, 3, 206, 1), (7, .ifCond .ne 13, 3, 20, 0), (10, .aload_n 0, 1, 0, 0), (11, .aload_n 0, 1, 0, 0), (12, .getfield 264, 3, 11, 38), (15, .invokevirtual 277, 3, 205, 1), (18, .iconst 0, 1, 0, 0), (19, .ireturn, 1, 0, 0), (20, .aload_n 0, 1, 0, 0), (21, .invokevirtual 270, 3, 204, 0), (24, .bipush 48, 2, 0, 0), (26, .isub, 1, 0, 0), (27, .istore_n 1, 1, 0, 0), (28, .aload_n 0, 1, 0, 0), (29, .dup, 1, 0, 0), (30, .getfield 264, 3, 11, 38), (33, .iconst 1, 1, 0, 0), (34, .iadd, 1, 0, 0), (35, .putfield 264, 3, 11, 38), (38, .aload_n 0, 1, 0, 0), (39, .invokevirtual 270, 3, 204, 0), (42, .invokestatic 274, 3, 206, 1), (45, .ifCond .eq 26, 3, 71, 0), (48, .bipush 10, 2, 0, 0), (50, .iload_n 1, 1, 0, 0), (51, .imul, 1, 0, 0), (52, .aload_n 0, 1, 0, 0), (53, .invokevirtual 270, 3, 204, 0), (56, .iadd, 1, 0, 0), (57, .bipush 48, 2, 0, 0), (59, .isub, 1, 0, 0), (60, .istore_n 1, 1, 0, 0), (61, .aload_n 0, 1, 0, 0), (62, .dup, 1, 0, 0), (63, .getfield 264, 3, 11, 38), (66, .iconst 1, 1, 0, 0), (67, .iadd, 1, 0, 0), (68, .putfield 264, 3, 11, 38), (71, .iload_n 1, 1, 0, 0), (72, .ireturn, 1, 0, 0)]
def mX11_number : ab_M := (yX11_number, 11, cX11_number, 2, (some .int), kX11_number)
def kX11_braces : List ab_I := [(0, .aload_n 0, 1, 0, 0), (1, .dup, 1, 0, 0), (2, .getfield 264, 3, 11, 38), (5, .iconst 1, 1, 0, 0), (6, .iadd, 1, 0, 0), (7, .putfield 264, 3, 11, 38), (10, .aload_n 0, 1, 0, 0), (11, .aload_n 0, 1, 0, 0), (12, .invokevirtual 280, 3, 207, 0), (15, .putfield 283, 3, 11, 45), (18, .aload_n 0, 1, 0, 0), (19, .aload_n 0, 1, 0, 0), (20, .getfield 283, 3, 11, 45), (23, .putfield 286, 3, 11, 46), (26, .aload_n 0, 1, 0, 0), (27, .getfield 267, 3, 11, 37), (30, .ifCond .ge 72, 3, 102, 0), (33, .aload_n 0, 1, 0, 0), (34, .invokevirtual 270, 3, 204, 0), (37, .bipush 44, 2, 0, 0), (39, .if_icmp .ne 63, 3, 102, 0), (42, .aload_n 0, 1, 0, 0), (43, .dup, 1, 0, 0), (44, .getfield 264, 3, 11, 38), (47, .iconst 1, 1, 0, 0), (48, .iadd, 1, 0, 0), (49, .putfield 264, 3, 11, 38), (52, .aload_n 0, 1, 0, 0), (53, .iconst (-1), 1, 0, 0), (54, .putfield 286, 3, 11, 46), (57, .aload_n 0, 1, 0, 0), (58, .invokevirtual 270, 3, 204, 0), (61, .bipush 125, 2, 0, 0), (63, .if_icmp .eq 39, 3, 102, 0), (66, .aload_n 0, 1, 0, 0), (67, .getfield 264, 3, 11, 38), (70, .istore_n 1, 1, 0, 0), (71, .aload_n 0, 1, 0, 0), (72, .aload_n 0, 1, 0, 0), (73, .invokevirtual 280, 3, 207, 0), (76, .putfield 286, 3, 11, 46), (79, .aload_n 0, 1, 0, 0), (80, .getfield 267, 3, 11, 37), (83, .ifCond .ge 19, 3, 102, 0), (86, .aload_n 0, 1, 0, 0), (87, .getfield 286, 3, 11, 46), (90, .aload_n 0, 1, 0, 0), (91, .getfield 283, 3, 11, 45), (94, .if_icmp .ge 8, 3, 102, 0), (97, .aload_n 0, 1, 0, 0), (98, .iload_n 1, 1, 0, 0), (99, .invokevirtual 277, 3, 205, 1), (102, .aload_n 0, 1, 0, 0), (103, .getfield 267, 3, 11, 37), (106, .ifCond .ge 20, 3, 126, 0), (109, .aload_n 0, 1, 0, 0), (110, .invokevirtual 270, 3, 204, 0), (113, .bipush 125, 2, 0, 0), (115, .if_icmp .eq 11, 3, 126, 0), (118, .aload_n 0, 1, 0, 0), (119, .aload_n 0, 1, 0, 0), (120, .getfield 264, 3, 11, 38), (123, .invokevirtual 277, 3, 205, 1), (126, .aload_n 0, 1, 0, 0), (127, .dup, 1, 0, 0), (128, .getfield 264, 3, 11, 38), (131, .iconst 1, 1, 0, 0), (132, .iadd, 1, 0, 0), (133, .putfield 264, 3, 11, 38), (136, .return_, 1, 0, 0)]
def mX11_braces : ab_M := (yX11_braces, 11, cX11_braces, 2, none, kX11_braces)
def kX11_rangeByte : List ab_I := [(0, .aload_n 0, 1, 0, 0), (1, .invokevirtual 270, 3, 204, 0), (4, .istore_n 1, 1, 0, 0), (5, .iload_n 1, 1, 0, 0), (6, .bipush 92, 2, 0, 0), (8, .if_icmp .ne 43, 3, 51, 0), (11, .aload_n 0, 1, 0, 0), (12, .dup, 1, 0, 0), (13, .getfield 264, 3, 11, 38), (16, .iconst 1, 1, 0, 0), (17, .iadd, 1, 0, 0), (18, .putfield 264, 3, 11, 38), (21, .aload_n 0, 1, 0, 0), (22, .invokevirtual 270, 3, 204, 0), (25, .istore_n 1, 1, 0, 0), (26, .iload_n 1, 1, 0, 0), (27, .iconst (-1), 1, 0, 0), (28, .if_icmp .ne 11, 3, 39, 0), (31, .aload_n 0, 1, 0, 0), (32, .aload_n 0, 1, 0, 0), (33, .getfield 264, 3, 11, 38), (36, .invokevirtual 277, 3, 205, 1), (39, .aload_n 0, 1, 0, 0), (40, .dup, 1, 0, 0), (41, .getfield 264, 3, 11, 38), (44, .iconst 1, 1, 0, 0), (45, .iadd, 1, 0, 0), (46, .putfield 264, 3, 11, 38), (49, .iload_n 1, 1, 0, 0), (50, .ireturn, 1, 0, 0), (51, .iload_n 1, 1, 0, 0), (52, .iconst (-1), 1, 0, 0), (53, .if_icmp .eq 21, 3, 74, 0), (56, .iload_n 1, 1, 0, 0), (57, .bipush 91, 2, 0, 0), (59, .if_icmp .eq 15, 3, 74, 0), (62, .iload_n 1, 1, 0, 0), (63, .bipush 93, 2, 0, 0), (65, .if_icmp .eq 9, 3, 74, 0), (68, .iload_n 1, 1, 0, 0), (69, .bipush 45, 2, 0, 0), (71, .if_icmp .ne 11, 3, 82, 0), (74, .aload_n 0, 1, 0, 0), (75, .aload_n 0, 1, 0, 0), (76, .getfield 264, 3, 11, 38), (79, .invokevirtual 277, 3, 205, 1), (82, .aload_n 0, 1, 0, 0), (83, .dup, 1, 0, 0), (84, .getfield 264, 3, 11, 38), (87, .iconst 1, 1, 0, 0), (88, .iadd, 1, 0, 0), (89, .putfield 264, 3, 11, 38), (92, .iload_n 1, 1, 0, 0), (93, .ireturn, 1, 0, 0)]
def mX11_rangeByte : ab_M := (yX11_rangeByte, 11, cX11_rangeByte, 2, (some .int), kX11_rangeByte)
def kX11_ranges : List ab_I := [(0, .aload_n 0, 1, 0, 0), (1, .dup, 1, 0, 0), (2, .getfield 264, 3, 11, 38), (5, .iconst 1, 1, 0, 0), (6, .iadd, 1, 0, 0), (7, .putfield 264, 3, 11, 38), (10, .aload_n 0, 1, 0, 0), (11, .invokevirtual 270, 3, 204, 0), (14, .bipush 94, 2, 0, 0), (16, .if_icmp .ne 7, 3, 23, 0), (19, .iconst 1, 1, 0, 0), (20, .goto 4, 3, 24, 0), (23, .iconst 0, 1, 0, 0), (24, .istore_n 1, 1, 0, 0), (25, .aload_n 0, 1, 0, 0), (26, .dup, 1, 0, 0), (27, .getfield 264, 3, 11, 38), (30, .iload_n 1, 1, 0, 0), (31, .ifCond .eq 7, 3, 38, 0), (34, .iconst 1, 1, 0, 0), (35, .goto 4, 3, 39, 0), (38, .iconst 0, 1, 0, 0), (39, .iadd, 1, 0, 0), (40, .putfield 264, 3, 11, 38), (43, .sipush 256, 3, 0, 0), (46, .aload_n 0, 1, 0, 0), (47, .getfield 289, 3, 11, 52), (50, .imul, 1, 0, 0), (51, .istore_n 2, 1, 0, 0), (52, .iconst 0, 1, 0, 0), (53, .istore_n 3, 1, 0, 0), (54, .iload_n 3, 1, 0, 0), (55, .sipush 256, 3, 0, 0), (58, .if_icmp .ge 18, 3, 76, 0), (61, .aload_n 0, 1, 0, 0), (62, .getfield 100, 3, 11, 51), (65, .iload_n 2, 1, 0, 0), (66, .iload_n 3, 1, 0, 0), (67, .iadd, 1, 0, 0), (68, .iload_n 1, 1, 0, 0), (69, .bastore, 1, 0, 0), (70, .iinc 3 1, 3, 0, 0), (73, .goto (-19), 3, 54, 0), (76, .iconst 1, 1, 0, 0), (77, .istore_n 3, 1, 0, 0), (78, .aload_n 0, 1, 0, 0), (79, .getfield 267, 3, 11, 37), (82, .ifCond .ge 131, 3, 213, 0), (85, .iload_n 3, 1, 0, 0), (86, .ifCond .ne 12, 3, 98, 0), (89, .aload_n 0, 1, 0, 0), (90, .invokevirtual 270, 3, 204, 0), (93, .bipush 93, 2, 0, 0), (95, .if_icmp .eq 118, 3, 213, 0), (98, .iconst 0, 1, 0, 0), (99, .istore_n 3, 1, 0, 0), (100, .aload_n 0, 1, 0, 0), (101, .invokevirtual 292, 3, 209, 0), (104, .istore 4, 2, 0, 0), (106, .iload 4, 2, 0, 0), (108, .istore 5, 2, 0, 0), (110, .aload_n 0, 1, 0, 0), (111, .getfield 267, 3, 11, 37), (114, .ifCond .ge 54, 3, 168, 0), (117, .aload_n 0, 1, 0, 0), (118, .invokevirtual 270, 3, 204, 0), (121, .bipush 45, 2, 0, 0), (123, .if_icmp .ne 45, 3, 168, 0), (126, .aload_n 0, 1, 0, 0), (127, .dup, 1, 0, 0), (128, .getfield 264, 3, 11, 38), (131, .iconst 1, 1, 0, 0), (132, .iadd, 1, 0, 0), (133, .putfield 264, 3, 11, 38), (136, .aload_n 0, 1, 0, 0), (137, .getfield 264, 3, 11, 38), (140, .istore 6, 2, 0, 0), (142, .aload_n 0, 1, 0, 0), (143, .invokevirtual 292, 3, 209, 0), (146, .istore 5, 2, 0, 0), (148, .aload_n 0, 1, 0, 0), (149, .getfield 267, 3, 11, 37), (152, .ifCond .ge 16, 3, 168, 0), (155, .iload 5, 2, 0, 0), (157, .iload 4, 2, 0, 0), (159, .if_icmp .ge 9, 3, 168, 0), (162, .aload_n 0, 1, 0, 0), (163, .iload 6, 2, 0, 0), (165, .invokevirtual 277, 3, 205, 1), (168, .iload 4, 2, 0, 0), (170, .istore 6, 2, 0, 0), (172, .iload 6, 2, 0, 0), (174, .iload 5, 2, 0, 0), (176, .if_icmp .gt 34, 3, 210, 0), (179, .aload_n 0, 1, 0, 0), (180, .getfield 267, 3, 11, 37), (183, .ifCond .ge 27, 3, 210, 0), (186, .aload_n 0, 1, 0, 0), (187, .getfield 100, 3, 11, 51), (190, .iload_n 2, 1, 0, 0), (191, .iload 6, 2, 0, 0), (193, .iadd, 1, 0, 0), (194, .iload_n 1, 1, 0, 0), (195, .ifCond .ne 7, 3, 202, 0), (198, .iconst 1, 1, 0, 0), (199, .goto 4, 3, 203, 0), (202, .iconst 0, 1, 0, 0), (203, .bastore, 1, 0, 0), (204, .iinc 6 1, 3, 0, 0), (207, .goto (-35), 3, 172, 0), (210, .goto (-132), 3, 78, 0), (213, .aload_n 0, 1, 0, 0), (214, .dup, 1, 0, 0), (215, .getfield 264, 3, 11, 38), (218, .iconst 1, 1, 0, 0), (219, .iadd, 1, 0, 0), (220, .putfield 264, 3, 11, 38), (223, .aload_n 0, 1, 0, 0), (224, .dup, 1, 0, 0), (225, .getfield 289, 3, 11, 52), (228, .iconst 1, 1, 0, 0), (229, .iadd, 1, 0, 0), (230, .putfield 289, 3, 11, 52), (233, .return_, 1, 0, 0)]
def mX11_ranges : ab_M := (yX11_ranges, 11, cX11_ranges, 7, none, kX11_ranges)
def kX11_openOne : List ab_I := [(0, .aload_n 0, 1, 0, 0), (1, .getfield 74, 3, 11, 39), (4, .iload_n 1, 1, 0, 0), (5, .lconst 0, 1, 0, 0), (6, .lastore, 1, 0, 0), (7, .aload_n 0, 1, 0, 0), (8, .getfield 81, 3, 11, 41), (11, .iload_n 1, 1, 0, 0), (12, .iconst 0, 1, 0, 0), (13, .bastore, 1, 0, 0), (14, .aload_n 0, 1, 0, 0), (15, .getfield 87, 3, 11, 43), (18, .iload_n 1, 1, 0, 0), (19, .iconst 0, 1, 0, 0), (20, .iastore, 1, 0, 0), (21, .aload_n 0, 1, 0, 0), (22, .getfield 90, 3, 11, 44), (25, .iload_n 1, 1, 0, 0), (26, .iconst 0, 1, 0, 0), (27, .iastore, 1, 0, 0), (28, .return_, 1, 0, 0)]
def mX11_openOne : ab_M := (yX11_openOne, 11, cX11_openOne, 2, none, kX11_openOne)
def kX11_addMade : List ab_I := [(0, .aload_n 0, 1, 0, 0), (1, .getfield 295, 3, 11, 48), (4, .ldc_w 298, 3, 59990, 0), (7, .if_icmp .ge 23, 3, 30, 0), (10, .aload_n 0, 1, 0, 0), (11, .getfield 94, 3, 11, 47), (14, .aload_n 0, 1, 0, 0), (15, .getfield 295, 3, 11, 48), (18, .iload_n 1, 1, 0, 0), (19, .iastore, 1, 0, 0), (20, .aload_n 0, 1, 0, 0), (21, .dup, 1, 0, 0), (22, .getfield 295, 3, 11, 48), (25, .iconst 1, 1, 0, 0), (26, .iadd, 1, 0, 0), (27, .putfield 295, 3, 11, 48), (30, .return_, 1, 0, 0)]
def mX11_addMade : ab_M := (yX11_addMade, 11, cX11_addMade, 2, none, kX11_addMade)
def kX11_endRow : List ab_I := [(0, .aload_n 0, 1, 0, 0), (1, .getfield 87, 3, 11, 43), (4, .iload_n 1, 1, 0, 0), (5, .iaload, 1, 0, 0), (6, .ifCond .ne 9, 3, 15, 0), (9, .aload_n 0, 1, 0, 0), (10, .bipush (-6), 2, 0, 0), (12, .invokevirtual 299, 3, 212, 1), (15, .aload_n 0, 1, 0, 0), (16, .getfield 90, 3, 11, 44), (19, .iload_n 1, 1, 0, 0), (20, .dup2, 1, 0, 0), (21, .iaload, 1, 0, 0), (22, .iconst 1, 1, 0, 0), (23, .iadd, 1, 0, 0), (24, .iastore, 1, 0, 0), (25, .aload_n 0, 1, 0, 0), (26, .getfield 90, 3, 11, 44), (29, .iload_n 1, 1, 0, 0), (30, .iaload, 1, 0, 0), (31, .iconst 1, 1, 0, 0), (32, .if_icmp .le 9, 3, 41, 0), (35, .aload_n 0, 1, 0, 0), (36, .bipush (-2), 2, 0, 0), (38, .invokevirtual 299, 3, 212, 1), (41, .aload_n 0, 1, 0, 0), (42, .getfield 87, 3, 11, 43), (45, .iload_n 1, 1, 0, 0), (46, .iconst 0, 1, 0, 0), (47, .iastore, 1, 0, 0), (48, .aload_n 0, 1, 0, 0), (49, .getfield 81, 3, 11, 41), (52, .iload_n 1, 1, 0, 0), (53, .iconst 0, 1, 0, 0), (54, .bastore, 1, 0, 0), (55, .return_, 1, 0, 0)]
def mX11_endRow : ab_M := (yX11_endRow, 11, cX11_endRow, 2, none, kX11_endRow)
def kX11_begunAtom : List ab_I := [(0, .aload_n 0, 1, 0, 0), (1, .getfield 84, 3, 11, 42), (4, .iload_n 1, 1, 0, 0), (5, .iload_n 2, 1, 0, 0), (6, .iastore, 1, 0, 0), (7, .aload_n 0, 1, 0, 0), (8, .getfield 78, 3, 11, 40), (11, .iload_n 1, 1, 0, 0), (12, .lload_n 3, 1, 0, 0), (13, .lastore, 1, 0, 0), (14, .aload_n 0, 1, 0, 0), (15, .getfield 81, 3, 11, 41), (18, .iload_n 1, 1, 0, 0), (19, .iconst 1, 1, 0, 0), (20, .bastore, 1, 0, 0), (21, .aload_n 0, 1, 0, 0), (22, .getfield 74, 3, 11, 39), (25, .iload_n 1, 1, 0, 0), (26, .dup2, 1, 0, 0), (27, .laload, 1, 0, 0), (28, .lload_n 3, 1, 0, 0), (29, .ladd, 1, 0, 0), (30, .lastore, 1, 0, 0), (31, .return_, 1, 0, 0)]
def mX11_begunAtom : ab_M := (yX11_begunAtom, 11, cX11_begunAtom, 5, none, kX11_begunAtom)
def kX11_endItem : List ab_I := [(0, .aload_n 0, 1, 0, 0), (1, .getfield 81, 3, 11, 41), (4, .iload_n 1, 1, 0, 0), (5, .baload, 1, 0, 0), (6, .ifCond .ne 10, 3, 16, 0), (9, .aload_n 0, 1, 0, 0), (10, .getfield 302, 3, 11, 53), (13, .ifCond .eq 28, 3, 41, 0), (16, .aload_n 0, 1, 0, 0), (17, .getfield 87, 3, 11, 43), (20, .iload_n 1, 1, 0, 0), (21, .dup2, 1, 0, 0), (22, .iaload, 1, 0, 0), (23, .iconst 1, 1, 0, 0), (24, .iadd, 1, 0, 0), (25, .iastore, 1, 0, 0), (26, .aload_n 0, 1, 0, 0), (27, .getfield 87, 3, 11, 43), (30, .iload_n 1, 1, 0, 0), (31, .iaload, 1, 0, 0), (32, .iconst 1, 1, 0, 0), (33, .if_icmp .le 8, 3, 41, 0), (36, .aload_n 0, 1, 0, 0), (37, .iconst (-1), 1, 0, 0), (38, .invokevirtual 299, 3, 212, 1), (41, .aload_n 0, 1, 0, 0), (42, .getfield 81, 3, 11, 41), (45, .iload_n 1, 1, 0, 0), (46, .iconst 0, 1, 0, 0), (47, .bastore, 1, 0, 0), (48, .aload_n 0, 1, 0, 0), (49, .iconst 0, 1, 0, 0), (50, .putfield 302, 3, 11, 1053), (53, .return_, 1, 0, 0)]
def mX11_endItem : ab_M := (yX11_endItem, 11, cX11_endItem, 2, none, kX11_endItem)
def kX11_again : List ab_I := [(0, .iload_n 1, 1, 0, 0), (1, .istore_n 3, 1, 0, 0), (2, .iload_n 3, 1, 0, 0), (3, .iload_n 2, 1, 0, 0), (4, .if_icmp .ge 19, 3, 23, 0), (7, .aload_n 0, 1, 0, 0), (8, .aload_n 0, 1, 0, 0), (9, .getfield 94, 3, 11, 47), (12, .iload_n 3, 1, 0, 0), (13, .iaload, 1, 0, 0), (14, .invokevirtual 299, 3, 212, 1), (17, .iinc 3 1, 3, 0, 0), (20, .goto (-18), 3, 2, 0), (23, .return_, 1, 0, 0)]
def mX11_again : ab_M := (yX11_again, 11, cX11_again, 4, none, kX11_again)
def kX11_repeat : List ab_I := [(0, .aload_n 0, 1, 0, 0), (1, .getfield 84, 3, 11, 42), (4, .iload_n 1, 1, 0, 0), (5, .iaload, 1, 0, 0), (6, .istore 4, 2, 0, 0), (8, .aload_n 0, 1, 0, 0), (9, .getfield 295, 3, 11, 48), (12, .istore 5, 2, 0, 0), (14, .aload_n 0, 1, 0, 0), (15, .getfield 78, 3, 11, 40), (18, .iload_n 1, 1, 0, 0), (19, .laload, 1, 0, 0), (20, .lconst 0, 1, 0, 0), (21, .lcmp, 1, 0, 0), (22, .ifCond .eq 7, 3, 29, 0), (25, .iload_n 3, 1, 0, 0), (26, .ifCond .ne 16, 3, 42, 0), (29, .aload_n 0, 1, 0, 0), (30, .iload 4, 2, 0, 0), (32, .putfield 295, 3, 11, 48), (35, .aload_n 0, 1, 0, 0), (36, .bipush (-6), 2, 0, 0), (38, .invokevirtual 299, 3, 212, 1), (41, .return_, 1, 0, 0), (42, .iload_n 3, 1, 0, 0), (43, .ifCond .ge 62, 3, 105, 0), (46, .iconst 1, 1, 0, 0), (47, .istore 6, 2, 0, 0), (49, .iload 6, 2, 0, 0), (51, .iload_n 2, 1, 0, 0), (52, .if_icmp .ge 17, 3, 69, 0), (55, .aload_n 0, 1, 0, 0), (56, .iload 4, 2, 0, 0), (58, .iload 5, 2, 0, 0), (60, .invokevirtual 305, 3, 216, 2), (63, .iinc 6 1, 3, 0, 0), (66, .goto (-17), 3, 49, 0), (69, .aload_n 0, 1, 0, 0), (70, .iload_n 2, 1, 0, 0), (71, .ifCond .ne 8, 3, 79, 0), (74, .bipush (-3), 2, 0, 0), (76, .goto 5, 3, 81, 0), (79, .bipush (-4), 2, 0, 0), (81, .invokevirtual 299, 3, 212, 1), (84, .iconst 1, 1, 0, 0), (85, .istore 6, 2, 0, 0), (87, .iload 6, 2, 0, 0), (89, .iload_n 2, 1, 0, 0), (90, .if_icmp .ge 14, 3, 104, 0), (93, .aload_n 0, 1, 0, 0), (94, .iconst (-1), 1, 0, 0), (95, .invokevirtual 299, 3, 212, 1), (98, .iinc 6 1, 3, 0, 0), (101, .goto (-14), 3, 87, 0), (104, .return_, 1, 0, 0), (105, .iload_n 2, 1, 0, 0), (106, .ifCond .ne 9, 3, 115, 0), (109, .aload_n 0, 1, 0, 0), (110, .bipush (-5), 2, 0, 0), (112, .invokevirtual 299, 3, 212, 1), (115, .iconst 1, 1, 0, 0), (116, .istore 6, 2, 0, 0), (118, .iload 6, 2, 0, 0), (120, .iload_n 3, 1, 0, 0), (121, .if_icmp .ge 34, 3, 155, 0), (124, .aload_n 0, 1, 0, 0), (125, .iload 4, 2, 0, 0), (127, .iload 5, 2, 0, 0), (129, .invokevirtual 305, 3, 216, 2), (132, .iload 6, 2, 0, 0), (134, .iload_n 2, 1, 0, 0), (135, .if_icmp .lt 9, 3, 144, 0), (138, .aload_n 0, 1, 0, 0), (139, .bipush (-5), 2, 0, 0), (141, .invokevirtual 299, 3, 212, 1), (144, .aload_n 0, 1, 0, 0), (145, .iconst (-1), 1, 0, 0), (146, .invokevirtual 299, 3, 212, 1), (149, .iinc 6 1, 3, 0, 0), (152, .goto (-34), 3, 118, 0), (155, .return_, 1, 0, 0)]
def mX11_repeat : ab_M := (yX11_repeat, 11, cX11_repeat, 7, none, kX11_repeat)
def kX11_goOver : List ab_I := [(0, .aload_n 0, 1, 0, 0), (1, .iconst 0, 1, 0, 0), (2, .putfield 264, 3, 11, 38), (5, .aload_n 0, 1, 0, 0), (6, .iconst (-1), 1, 0, 0), (7, .putfield 267, 3, 11, 37), (10, .aload_n 0, 1, 0, 0), (11, .iconst 0, 1, 0, 0), (12, .putfield 295, 3, 11, 48), (15, .aload_n 0, 1, 0, 0), (16, .iconst 0, 1, 0, 0), (17, .putfield 308, 3, 11, 50), (20, .aload_n 0, 1, 0, 0), (21, .iconst 0, 1, 0, 0), (22, .putfield 289, 3, 11, 52), (25, .aload_n 0, 1, 0, 0), (26, .iconst 0, 1, 0, 0), (27, .putfield 302, 3, 11, 1053), (30, .iconst 0, 1, 0, 0), (31, .istore_n 2, 1, 0, 0), (32, .aload_n 0, 1, 0, 0), (33, .iconst 0, 1, 0, 0), (34, .invokevirtual 311, 3, 211, 1), (37, .aload_n 0, 1, 0, 0), (38, .getfield 267, 3, 11, 37), (41, .ifCond .ge 257, 3, 298, 0), (44, .aload_n 0, 1, 0, 0), (45, .getfield 264, 3, 11, 38), (48, .aload_n 0, 1, 0, 0), (49, .getfield 261, 3, 11, 31), (52, .if_icmp .ge 246, 3, 298, 0), (55, .aload_n 0, 1, 0, 0), (56, .invokevirtual 270, 3, 204, 0), (59, .istore_n 3, 1, 0, 0), (60, .iload_n 3, 1, 0, 0), (61, .bipush 42, 2, 0, 0), (63, .if_icmp .eq 21, 3, 84, 0), (66, .iload_n 3, 1, 0, 0), (67, .bipush 43, 2, 0, 0), (69, .if_icmp .eq 15, 3, 84, 0), (72, .iload_n 3, 1, 0, 0), (73, .bipush 63, 2, 0, 0), (75, .if_icmp .eq 9, 3, 84, 0), (78, .iload_n 3, 1, 0, 0), (79, .bipush 123, 2, 0, 0), (81, .if_icmp .ne 7, 3, 88, 0), (84, .iconst 1, 1, 0, 0), (85, .goto 4, 3, 89, 0), (88, .iconst 0, 1, 0, 0), (89, .istore 4, 2, 0, 0), (91, .iload 4, 2, 0, 0), (93, .ifCond .eq 31, 3, 124, 0), (96, .aload_n 0, 1, 0, 0), (97, .getfield 81, 3, 11, 41), (100, .iload_n 2, 1, 0, 0), (101, .baload, 1, 0, 0), (102, .ifCond .ne 12, 3, 114, 0), (105, .aload_n 0, 1, 0, 0), (106, .aload_n 0, 1, 0, 0), (107, .getfield 264, 3, 11, 38), (110, .invokevirtual 277, 3, 205, 1), (113, .return_, 1, 0, 0), (114, .aload_n 0, 1, 0, 0), (115, .iload_n 3, 1, 0, 0), (116, .iload_n 2, 1, 0, 0), (117, .iload_n 1, 1, 0, 0), (118, .invokevirtual 314, 3, 219, 3), (121, .goto (-84), 3, 37, 0), (124, .iload_n 1, 1, 0, 0), (125, .ifCond .eq 11, 3, 136, 0), (128, .aload_n 0, 1, 0, 0), (129, .iload_n 2, 1, 0, 0), (130, .invokevirtual 318, 3, 215, 1), (133, .goto 10, 3, 143, 0), (136, .aload_n 0, 1, 0, 0), (137, .getfield 81, 3, 11, 41), (140, .iload_n 2, 1, 0, 0), (141, .iconst 0, 1, 0, 0), (142, .bastore, 1, 0, 0), (143, .iload_n 3, 1, 0, 0), (144, .bipush 40, 2, 0, 0), (146, .if_icmp .ne 49, 3, 195, 0), (149, .iload_n 2, 1, 0, 0), (150, .bipush 20, 2, 0, 0), (152, .if_icmp .ne 12, 3, 164, 0), (155, .aload_n 0, 1, 0, 0), (156, .aload_n 0, 1, 0, 0), (157, .getfield 264, 3, 11, 38), (160, .invokevirtual 277, 3, 205, 1), (163, .return_, 1, 0, 0), (164, .iinc 2 1, 3, 0, 0), (167, .aload_n 0, 1, 0, 0), (168, .iload_n 2, 1, 0, 0), (169, .invokevirtual 311, 3, 211, 1), (172, .aload_n 0, 1, 0, 0), (173, .getfield 103, 3, 11, 54), (176, .iload_n 2, 1, 0, 0), (177, .aload_n 0, 1, 0, 0), (178, .getfield 295, 3, 11, 48), (181, .iastore, 1, 0, 0), (182, .aload_n 0, 1, 0, 0), (183, .dup, 1, 0, 0), (184, .getfield 264, 3, 11, 38), (187, .iconst 1, 1, 0, 0), (188, .iadd, 1, 0, 0), (189, .putfield 264, 3, 11, 38), (192, .goto 103, 3, 295, 0), (195, .iload_n 3, 1, 0, 0), (196, .bipush 41, 2, 0, 0), (198, .if_icmp .ne 62, 3, 260, 0), (201, .iload_n 2, 1, 0, 0), (202, .ifCond .ne 12, 3, 214, 0), (205, .aload_n 0, 1, 0, 0), (206, .aload_n 0, 1, 0, 0), (207, .getfield 264, 3, 11, 38), (210, .invokevirtual 277, 3, 205, 1), (213, .return_, 1, 0, 0), (214, .iload_n 1, 1, 0, 0), (215, .ifCond .eq 8, 3, 223, 0), (218, .aload_n 0, 1, 0, 0), (219, .iload_n 2, 1, 0, 0), (220, .invokevirtual 321, 3, 213, 1), (223, .iinc 2 (-1), 3, 0, 0), (226, .aload_n 0, 1, 0, 0), (227, .dup, 1, 0, 0), (228, .getfield 264, 3, 11, 38), (231, .iconst 1, 1, 0, 0), (232, .iadd, 1, 0, 0), (233, .putfield 264, 3, 11, 38), (236, .aload_n 0, 1, 0, 0), (237, .iload_n 2, 1, 0, 0), (238, .aload_n 0, 1, 0, 0), (239, .getfield 103, 3, 11, 54), (242, .iload_n 2, 1, 0, 0), (243, .iconst 1, 1, 0, 0), (244, .iadd, 1, 0, 0), (245, .iaload, 1, 0, 0), (246, .aload_n 0, 1, 0, 0), (247, .getfield 74, 3, 11, 39), (250, .iload_n 2, 1, 0, 0), (251, .iconst 1, 1, 0, 0), (252, .iadd, 1, 0, 0), (253, .laload, 1, 0, 0), (254, .invokevirtual 324, 3, 214, 3), (257, .goto 38, 3, 295, 0), (260, .iload_n 3, 1, 0, 0), (261, .bipush 124, 2, 0, 0), (263, .if_icmp .ne 25, 3, 288, 0), (266, .iload_n 1, 1, 0, 0), (267, .ifCond .eq 8, 3, 275, 0), (270, .aload_n 0, 1, 0, 0), (271, .iload_n 2, 1, 0, 0), (272, .invokevirtual 321, 3, 213, 1), (275, .aload_n 0, 1, 0, 0), (276, .dup, 1, 0, 0), (277, .getfield 264, 3, 11, 38), (280, .iconst 1, 1, 0, 0), (281, .iadd, 1, 0, 0), (282, .putfield 264, 3, 11, 38), (285, .goto 10, 3, 295, 0), (288, .aload_n 0, 1, 0, 0), (289, .iload_n 3, 1, 0, 0), (290, .iload_n 2, 1, 0, 0), (291, .iload_n 1, 1, 0, 0), (292, .invokevirtual 328, 3, 220, 3), (295, .goto (-258), 3, 37, 0), (298, .aload_n 0, 1, 0, 0), (299, .getfield 267, 3, 11, 37), (302, .ifCond .ge 15, 3, 317, 0), (305, .iload_n 2, 1, 0, 0), (306, .ifCond .le 11, 3, 317, 0), (309, .aload_n 0, 1, 0, 0), (310, .aload_n 0, 1, 0, 0), (311, .getfield 261, 3, 11, 31), (314, .invokevirtual 277, 3, 205, 1), (317, .aload_n 0, 1, 0, 0), (318, .getfield 267, 3, 11, 37), (321, .ifCond .ge 17, 3, 338, 0), (324, .iload_n 1, 1, 0, 0), (325, .ifCond .eq 13, 3, 338, 0), (328, .aload_n 0, 1, 0, 0), (329, .iconst 0, 1, 0, 0), (330, .invokevirtual 318, 3, 215, 1), (333, .aload_n 0, 1, 0, 0), (334, .iconst 0, 1, 0, 0), (335, .invokevirtual 321, 3, 213, 1), (338, .return_, 1, 0, 0)]
def mX11_goOver : ab_M := (yX11_goOver, 11, cX11_goOver, 5, none, kX11_goOver)
def kX11_quantify : List ab_I := [(0, .iload_n 1, 1, 0, 0), (1, .bipush 43, 2, 0, 0), (3, .if_icmp .ne 7, 3, 10, 0), (6, .iconst 1, 1, 0, 0), (7, .goto 4, 3, 11, 0), (10, .iconst 0, 1, 0, 0), (11, .istore 4, 2, 0, 0), (13, .iload_n 1, 1, 0, 0), (14, .bipush 63, 2, 0, 0), (16, .if_icmp .ne 7, 3, 23, 0), (19, .iconst 1, 1, 0, 0), (20, .goto 4, 3, 24, 0), (23, .iconst (-1), 1, 0, 0), (24, .istore 5, 2, 0, 0), (26, .iload_n 1, 1, 0, 0), (27, .bipush 123, 2, 0, 0), (29, .if_icmp .ne 22, 3, 51, 0), (32, .aload_n 0, 1, 0, 0), (33, .invokevirtual 331, 3, 208, 0), (36, .aload_n 0, 1, 0, 0), (37, .getfield 283, 3, 11, 45), (40, .istore 4, 2, 0, 0), (42, .aload_n 0, 1, 0, 0), (43, .getfield 286, 3, 11, 46), (46, .istore 5, 2, 0, 0), (48, .goto 13, 3, 61, 0), (51, .aload_n 0, 1, 0, 0), (52, .dup, 1, 0, 0), (53, .getfield 264, 3, 11, 38), (56, .iconst 1, 1, 0, 0), (57, .iadd, 1, 0, 0), (58, .putfield 264, 3, 11, 38), (61, .iload_n 1, 1, 0, 0), (62, .bipush 123, 2, 0, 0), (64, .if_icmp .eq 7, 3, 71, 0), (67, .iconst 1, 1, 0, 0), (68, .goto 25, 3, 93, 0), (71, .iload 5, 2, 0, 0), (73, .ifCond .ge 18, 3, 91, 0), (76, .iload 4, 2, 0, 0), (78, .iconst 1, 1, 0, 0), (79, .if_icmp .ge 7, 3, 86, 0), (82, .iconst 1, 1, 0, 0), (83, .goto 10, 3, 93, 0), (86, .iload 4, 2, 0, 0), (88, .goto 5, 3, 93, 0), (91, .iload 5, 2, 0, 0), (93, .istore 6, 2, 0, 0), (95, .aload_n 0, 1, 0, 0), (96, .getfield 78, 3, 11, 40), (99, .iload_n 2, 1, 0, 0), (100, .laload, 1, 0, 0), (101, .iload 6, 2, 0, 0), (103, .iconst 1, 1, 0, 0), (104, .isub, 1, 0, 0), (105, .i2l, 1, 0, 0), (106, .lmul, 1, 0, 0), (107, .lstore 7, 2, 0, 0), (109, .aload_n 0, 1, 0, 0), (110, .getfield 74, 3, 11, 39), (113, .iload_n 2, 1, 0, 0), (114, .dup2, 1, 0, 0), (115, .laload, 1, 0, 0), (116, .lload 7, 2, 0, 0), (118, .ladd, 1, 0, 0), (119, .lastore, 1, 0, 0), (120, .aload_n 0, 1, 0, 0), (121, .getfield 74, 3, 11, 39), (124, .iload_n 2, 1, 0, 0), (125, .aload_n 0, 1, 0, 0), (126, .getfield 74, 3, 11, 39), (129, .iload_n 2, 1, 0, 0), (130, .laload, 1, 0, 0), (131, .ldc2_w 334, 3, 1000000, 0), (134, .lcmp, 1, 0, 0), (135, .ifCond .le 9, 3, 144, 0), (138, .ldc2_w 334, 3, 1000000, 0), (141, .goto 9, 3, 150, 0), (144, .aload_n 0, 1, 0, 0), (145, .getfield 74, 3, 11, 39), (148, .iload_n 2, 1, 0, 0), (149, .laload, 1, 0, 0), (150, .lastore, 1, 0, 0), (151, .aload_n 0, 1, 0, 0), (152, .getfield 81, 3, 11, 41), (155, .iload_n 2, 1, 0, 0), (156, .iconst 0, 1, 0, 0), (157, .bastore, 1, 0, 0), (158, .iload_n 3, 1, 0, 0), (159, .ifCond .eq 22, 3, 181, 0), (162, .aload_n 0, 1, 0, 0), (163, .iload_n 2, 1, 0, 0), (164, .iload 4, 2, 0, 0), (166, .iload 5, 2, 0, 0), (168, .invokevirtual 336, 3, 217, 3), (171, .aload_n 0, 1, 0, 0), (172, .iconst 1, 1, 0, 0), (173, .putfield 302, 3, 11, 1053), (176, .aload_n 0, 1, 0, 0), (177, .iload_n 2, 1, 0, 0), (178, .invokevirtual 318, 3, 215, 1), (181, .return_, 1, 0, 0)]
def mX11_quantify : ab_M := (yX11_quantify, 11, cX11_quantify, 9, none, kX11_quantify)
def kX11_atom : List ab_I := [(0, .aload_n 0, 1, 0, 0), (1, .getfield 295, 3, 11, 48), (4, .istore 4, 2, 0, 0), (6, .iload_n 1, 1, 0, 0), (7, .istore 5, 2, 0, 0), (9, .iload_n 1, 1, 0, 0), (10, .bipush 93, 2, 0, 0), (12, .if_icmp .eq 9, 3, 21, 0), (15, .iload_n 1, 1, 0, 0), (16, .bipush 125, 2, 0, 0), (18, .if_icmp .ne 12, 3, 30, 0), (21, .aload_n 0, 1, 0, 0), (22, .aload_n 0, 1, 0, 0), (23, .getfield 264, 3, 11, 38), (26, .invokevirtual 277, 3, 205, 1), (29, .return_, 1, 0, 0), (30, .iload_n 1, 1, 0, 0), (31, .bipush 91, 2, 0, 0), (33, .if_icmp .ne 20, 3, 53, 0), (36, .sipush 1000, 3, 0, 0), (39, .aload_n 0, 1, 0, 0), (40, .getfield 289, 3, 11, 52), (43, .iadd, 1, 0, 0), (44, .istore 5, 2, 0, 0), (46, .aload_n 0, 1, 0, 0), (47, .invokevirtual 340, 3, 210, 0), (50, .goto 78, 3, 128, 0), (53, .iload_n 1, 1, 0, 0), (54, .bipush 92, 2, 0, 0), (56, .if_icmp .ne 47, 3, 103, 0), (59, .aload_n 0, 1, 0, 0), (60, .dup, 1, 0, 0), (61, .getfield 264, 3, 11, 38), (64, .iconst 1, 1, 0, 0), (65, .iadd, 1, 0, 0), (66, .putfield 264, 3, 11, 38), (69, .aload_n 0, 1, 0, 0), (70, .invokevirtual 270, 3, 204, 0), (73, .istore 5, 2, 0, 0), (75, .iload 5, 2, 0, 0), (77, .iconst (-1), 1, 0, 0), (78, .if_icmp .ne 12, 3, 90, 0), (81, .aload_n 0, 1, 0, 0), (82, .aload_n 0, 1, 0, 0), (83, .getfield 264, 3, 11, 38), (86, .invokevirtual 277, 3, 205, 1), (89, .return_, 1, 0, 0), (90, .aload_n 0, 1, 0, 0), (91, .dup, 1, 0, 0), (92, .getfield 264, 3, 11, 38), (95, .iconst 1, 1, 0, 0), (96, .iadd, 1, 0, 0), (97, .putfield 264, 3, 11, 38), (100, .goto 28, 3, 128, 0), (103, .iload_n 1, 1, 0, 0), (104, .bipush 46, 2, 0, 0), (106, .if_icmp .ne 9, 3, 115, 0), (109, .sipush 256, 3, 0, 0), (112, .goto 4, 3, 116, 0), (115, .iload_n 1, 1, 0, 0), (116, .istore 5, 2, 0, 0), (118, .aload_n 0, 1, 0, 0), (119, .dup, 1, 0, 0), (120, .getfield 264, 3, 11, 38), (123, .iconst 1, 1, 0, 0), (124, .iadd, 1, 0, 0), (125, .putfield 264, 3, 11, 38), (128, .aload_n 0, 1, 0, 0), (129, .getfield 267, 3, 11, 37), (132, .ifCond .ge 36, 3, 168, 0), (135, .iload_n 3, 1, 0, 0), (136, .ifCond .eq 32, 3, 168, 0), (139, .aload_n 0, 1, 0, 0), (140, .getfield 97, 3, 11, 49), (143, .aload_n 0, 1, 0, 0), (144, .getfield 308, 3, 11, 50), (147, .iload 5, 2, 0, 0), (149, .iastore, 1, 0, 0), (150, .aload_n 0, 1, 0, 0), (151, .aload_n 0, 1, 0, 0), (152, .getfield 308, 3, 11, 50), (155, .invokevirtual 299, 3, 212, 1), (158, .aload_n 0, 1, 0, 0), (159, .dup, 1, 0, 0), (160, .getfield 308, 3, 11, 50), (163, .iconst 1, 1, 0, 0), (164, .iadd, 1, 0, 0), (165, .putfield 308, 3, 11, 50), (168, .aload_n 0, 1, 0, 0), (169, .iload_n 2, 1, 0, 0), (170, .iload 4, 2, 0, 0), (172, .lconst 1, 1, 0, 0), (173, .invokevirtual 324, 3, 214, 3), (176, .return_, 1, 0, 0)]
def mX11_atom : ab_M := (yX11_atom, 11, cX11_atom, 6, none, kX11_atom)
def kX11_follow : List ab_I := [(0, .iconst 0, 1, 0, 0), (1, .istore 9, 2, 0, 0), (3, .iload 9, 2, 0, 0), (5, .aload_n 0, 1, 0, 0), (6, .getfield 343, 3, 11, 55), (9, .if_icmp .ge 85, 3, 94, 0), (12, .iload 9, 2, 0, 0), (14, .bipush 64, 2, 0, 0), (16, .if_icmp .ge 22, 3, 38, 0), (19, .lload_n 1, 1, 0, 0), (20, .iload 9, 2, 0, 0), (22, .lshr, 1, 0, 0), (23, .lconst 1, 1, 0, 0), (24, .land, 1, 0, 0), (25, .lconst 1, 1, 0, 0), (26, .lcmp, 1, 0, 0), (27, .ifCond .ne 7, 3, 34, 0), (30, .iconst 1, 1, 0, 0), (31, .goto 26, 3, 57, 0), (34, .iconst 0, 1, 0, 0), (35, .goto 22, 3, 57, 0), (38, .lload_n 3, 1, 0, 0), (39, .iload 9, 2, 0, 0), (41, .bipush 64, 2, 0, 0), (43, .isub, 1, 0, 0), (44, .lshr, 1, 0, 0), (45, .lconst 1, 1, 0, 0), (46, .land, 1, 0, 0), (47, .lconst 1, 1, 0, 0), (48, .lcmp, 1, 0, 0), (49, .ifCond .ne 7, 3, 56, 0), (52, .iconst 1, 1, 0, 0), (53, .goto 4, 3, 57, 0), (56, .iconst 0, 1, 0, 0), (57, .istore 10, 2, 0, 0), (59, .iload 10, 2, 0, 0), (61, .ifCond .eq 27, 3, 88, 0), (64, .aload_n 0, 1, 0, 0), (65, .getfield 109, 3, 11, 57), (68, .iload 9, 2, 0, 0), (70, .dup2, 1, 0, 0), (71, .laload, 1, 0, 0), (72, .lload 5, 2, 0, 0), (74, .lor, 1, 0, 0), (75, .lastore, 1, 0, 0), (76, .aload_n 0, 1, 0, 0), (77, .getfield 112, 3, 11, 58), (80, .iload 9, 2, 0, 0), (82, .dup2, 1, 0, 0), (83, .laload, 1, 0, 0), (84, .lload 7, 2, 0, 0), (86, .lor, 1, 0, 0), (87, .lastore, 1, 0, 0), (88, .iinc 9 1, 3, 0, 0), (91, .goto (-88), 3, 3, 0), (94, .return_, 1, 0, 0)]
def mX11_follow : ab_M := (yX11_follow, 11, cX11_follow, 11, none, kX11_follow)
def kX11_findPositions : List ab_I := [(0, .aload_n 0, 1, 0, 0), (1, .iconst 0, 1, 0, 0), (2, .putfield 343, 3, 11, 55), (5, .iconst 0, 1, 0, 0), (6, .istore_n 1, 1, 0, 0), (7, .iconst 0, 1, 0, 0), (8, .istore_n 2, 1, 0, 0), (9, .iload_n 2, 1, 0, 0), (10, .aload_n 0, 1, 0, 0), (11, .getfield 295, 3, 11, 48), (14, .if_icmp .ge 576, 3, 590, 0), (17, .aload_n 0, 1, 0, 0), (18, .getfield 94, 3, 11, 47), (21, .iload_n 2, 1, 0, 0), (22, .iaload, 1, 0, 0), (23, .istore_n 3, 1, 0, 0), (24, .iload_n 3, 1, 0, 0), (25, .ifCond .ge 9, 3, 34, 0), (28, .iload_n 3, 1, 0, 0), (29, .bipush (-6), 2, 0, 0), (31, .if_icmp .ne 165, 3, 196, 0), (34, .aload_n 0, 1, 0, 0), (35, .getfield 115, 3, 11, 59), (38, .iload_n 1, 1, 0, 0), (39, .iload_n 3, 1, 0, 0), (40, .bipush (-6), 2, 0, 0), (42, .if_icmp .ne 7, 3, 49, 0), (45, .iconst 1, 1, 0, 0), (46, .goto 4, 3, 50, 0), (49, .iconst 0, 1, 0, 0), (50, .bastore, 1, 0, 0), (51, .aload_n 0, 1, 0, 0), (52, .getfield 343, 3, 11, 55), (55, .bipush 64, 2, 0, 0), (57, .if_icmp .ge 7, 3, 64, 0), (60, .iconst 1, 1, 0, 0), (61, .goto 4, 3, 65, 0), (64, .iconst 0, 1, 0, 0), (65, .istore 4, 2, 0, 0), (67, .iload_n 3, 1, 0, 0), (68, .bipush (-6), 2, 0, 0), (70, .if_icmp .ne 7, 3, 77, 0), (73, .lconst 0, 1, 0, 0), (74, .goto 12, 3, 86, 0), (77, .lconst 1, 1, 0, 0), (78, .aload_n 0, 1, 0, 0), (79, .getfield 343, 3, 11, 55), (82, .bipush 64, 2, 0, 0), (84, .irem, 1, 0, 0), (85, .lshl, 1, 0, 0), (86, .lstore 5, 2, 0, 0), (88, .aload_n 0, 1, 0, 0), (89, .getfield 118, 3, 11, 60), (92, .iload_n 1, 1, 0, 0), (93, .iload 4, 2, 0, 0), (95, .ifCond .eq 8, 3, 103, 0), (98, .lload 5, 2, 0, 0), (100, .goto 4, 3, 104, 0), (103, .lconst 0, 1, 0, 0), (104, .lastore, 1, 0, 0), (105, .aload_n 0, 1, 0, 0), (106, .getfield 121, 3, 11, 61), (109, .iload_n 1, 1, 0, 0), (110, .iload 4, 2, 0, 0), (112, .ifCond .eq 7, 3, 119, 0), (115, .lconst 0, 1, 0, 0), (116, .goto 5, 3, 121, 0), (119, .lload 5, 2, 0, 0), (121, .lastore, 1, 0, 0), (122, .aload_n 0, 1, 0, 0), (123, .getfield 124, 3, 11, 62), (126, .iload_n 1, 1, 0, 0), (127, .aload_n 0, 1, 0, 0), (128, .getfield 118, 3, 11, 60), (131, .iload_n 1, 1, 0, 0), (132, .laload, 1, 0, 0), (133, .lastore, 1, 0, 0), (134, .aload_n 0, 1, 0, 0), (135, .getfield 127, 3, 11, 63), (138, .iload_n 1, 1, 0, 0), (139, .aload_n 0, 1, 0, 0), (140, .getfield 121, 3, 11, 61), (143, .iload_n 1, 1, 0, 0), (144, .laload, 1, 0, 0), (145, .lastore, 1, 0, 0), (146, .iload_n 3, 1, 0, 0), (147, .ifCond .lt 43, 3, 190, 0), (150, .aload_n 0, 1, 0, 0), (151, .getfield 106, 3, 11, 56), (154, .aload_n 0, 1, 0, 0), (155, .getfield 343, 3, 11, 55), (158, .iload_n 3, 1, 0, 0), (159, .iastore, 1, 0, 0), (160, .aload_n 0, 1, 0, 0), (161, .getfield 109, 3, 11, 57), (164, .aload_n 0, 1, 0, 0), (165, .getfield 343, 3, 11, 55), (168, .lconst 0, 1, 0, 0), (169, .lastore, 1, 0, 0), (170, .aload_n 0, 1, 0, 0), (171, .getfield 112, 3, 11, 58), (174, .aload_n 0, 1, 0, 0), (175, .getfield 343, 3, 11, 55), (178, .lconst 0, 1, 0, 0), (179, .lastore, 1, 0, 0), (180, .aload_n 0, 1, 0, 0), (181, .dup, 1, 0, 0), (182, .getfield 343, 3, 11, 55), (185, .iconst 1, 1, 0, 0), (186, .iadd, 1, 0, 0), (187, .putfield 343, 3, 11, 55), (190, .iinc 1 1, 3, 0, 0), (193, .goto 391, 3, 584, 0), (196, .iload_n 3, 1, 0, 0), (197, .iconst (-1), 1, 0, 0), (198, .if_icmp .ne 203, 3, 401, 0), (201, .iinc 1 (-1), 3, 0, 0), (204, .iload_n 1, 1, 0, 0), (205, .iconst 1, 1, 0, 0), (206, .isub, 1, 0, 0), (207, .istore 4, 2, 0, 0), (209, .aload_n 0, 1, 0, 0), (210, .aload_n 0, 1, 0, 0), (211, .getfield 124, 3, 11, 62), (214, .iload 4, 2, 0, 0), (216, .laload, 1, 0, 0), (217, .aload_n 0, 1, 0, 0), (218, .getfield 127, 3, 11, 63), (221, .iload 4, 2, 0, 0), (223, .laload, 1, 0, 0), (224, .aload_n 0, 1, 0, 0), (225, .getfield 118, 3, 11, 60), (228, .iload_n 1, 1, 0, 0), (229, .laload, 1, 0, 0), (230, .aload_n 0, 1, 0, 0), (231, .getfield 121, 3, 11, 61), (234, .iload_n 1, 1, 0, 0), (235, .laload, 1, 0, 0), (236, .invokevirtual 346, 3, 221, 4), (239, .aload_n 0, 1, 0, 0), (240, .getfield 118, 3, 11, 60), (243, .iload 4, 2, 0, 0), (245, .dup2, 1, 0, 0), (246, .laload, 1, 0, 0), (247, .aload_n 0, 1, 0, 0), (248, .getfield 115, 3, 11, 59), (251, .iload 4, 2, 0, 0), (253, .baload, 1, 0, 0), (254, .ifCond .eq 12, 3, 266, 0), (257, .aload_n 0, 1, 0, 0), (258, .getfield 118, 3, 11, 60), (261, .iload_n 1, 1, 0, 0), (262, .laload, 1, 0, 0), (263, .goto 4, 3, 267, 0), (266, .lconst 0, 1, 0, 0), (267, .lor, 1, 0, 0), (268, .lastore, 1, 0, 0), (269, .aload_n 0, 1, 0, 0), (270, .getfield 121, 3, 11, 61), (273, .iload 4, 2, 0, 0), (275, .dup2, 1, 0, 0), (276, .laload, 1, 0, 0), (277, .aload_n 0, 1, 0, 0), (278, .getfield 115, 3, 11, 59), (281, .iload 4, 2, 0, 0), (283, .baload, 1, 0, 0), (284, .ifCond .eq 12, 3, 296, 0), (287, .aload_n 0, 1, 0, 0), (288, .getfield 121, 3, 11, 61), (291, .iload_n 1, 1, 0, 0), (292, .laload, 1, 0, 0), (293, .goto 4, 3, 297, 0), (296, .lconst 0, 1, 0, 0), (297, .lor, 1, 0, 0), (298, .lastore, 1, 0, 0), (299, .aload_n 0, 1, 0, 0), (300, .getfield 124, 3, 11, 62), (303, .iload 4, 2, 0, 0), (305, .aload_n 0, 1, 0, 0), (306, .getfield 124, 3, 11, 62), (309, .iload_n 1, 1, 0, 0), (310, .laload, 1, 0, 0), (311, .aload_n 0, 1, 0, 0), (312, .getfield 115, 3, 11, 59), (315, .iload_n 1, 1, 0, 0), (316, .baload, 1, 0, 0), (317, .ifCond .eq 13, 3, 330, 0), (320, .aload_n 0, 1, 0, 0), (321, .getfield 124, 3, 11, 62), (324, .iload 4, 2, 0, 0), (326, .laload, 1, 0, 0), (327, .goto 4, 3, 331, 0), (330, .lconst 0, 1, 0, 0), (331, .lor, 1, 0, 0), (332, .lastore, 1, 0, 0), (333, .aload_n 0, 1, 0, 0), (334, .getfield 127, 3, 11, 63), (337, .iload 4, 2, 0, 0), (339, .aload_n 0, 1, 0, 0), (340, .getfield 127, 3, 11, 63), (343, .iload_n 1, 1, 0, 0), (344, .laload, 1, 0, 0), (345, .aload_n 0, 1, 0, 0), (346, .getfield 115, 3, 11, 59), (349, .iload_n 1, 1, 0, 0), (350, .baload, 1, 0, 0), (351, .ifCond .eq 13, 3, 364, 0), (354, .aload_n 0, 1, 0, 0), (355, .getfield 127, 3, 11, 63), (358, .iload 4, 2, 0, 0), (360, .laload, 1, 0, 0), (361, .goto 4, 3, 365, 0), (364, .lconst 0, 1, 0, 0), (365, .lor, 1, 0, 0), (366, .lastore, 1, 0, 0), (367, .aload_n 0, 1, 0, 0), (368, .getfield 115, 3, 11, 59), (371, .iload 4, 2, 0, 0), (373, .aload_n 0, 1, 0, 0), (374, .getfield 115, 3, 11, 59), (377, .iload 4, 2, 0, 0), (379, .baload, 1, 0, 0), (380, .ifCond .eq 16, 3, 396, 0), (383, .aload_n 0, 1, 0, 0), (384, .getfield 115, 3, 11, 59), (387, .iload_n 1, 1, 0, 0), (388, .baload, 1, 0, 0), (389, .ifCond .eq 7, 3, 396, 0), (392, .iconst 1, 1, 0, 0), (393, .goto 4, 3, 397, 0), (396, .iconst 0, 1, 0, 0), (397, .bastore, 1, 0, 0), (398, .goto 186, 3, 584, 0), (401, .iload_n 3, 1, 0, 0), (402, .bipush (-2), 2, 0, 0), (404, .if_icmp .ne 109, 3, 513, 0), (407, .iinc 1 (-1), 3, 0, 0), (410, .iload_n 1, 1, 0, 0), (411, .iconst 1, 1, 0, 0), (412, .isub, 1, 0, 0), (413, .istore 4, 2, 0, 0), (415, .aload_n 0, 1, 0, 0), (416, .getfield 118, 3, 11, 60), (419, .iload 4, 2, 0, 0), (421, .dup2, 1, 0, 0), (422, .laload, 1, 0, 0), (423, .aload_n 0, 1, 0, 0), (424, .getfield 118, 3, 11, 60), (427, .iload_n 1, 1, 0, 0), (428, .laload, 1, 0, 0), (429, .lor, 1, 0, 0), (430, .lastore, 1, 0, 0), (431, .aload_n 0, 1, 0, 0), (432, .getfield 121, 3, 11, 61), (435, .iload 4, 2, 0, 0), (437, .dup2, 1, 0, 0), (438, .laload, 1, 0, 0), (439, .aload_n 0, 1, 0, 0), (440, .getfield 121, 3, 11, 61), (443, .iload_n 1, 1, 0, 0), (444, .laload, 1, 0, 0), (445, .lor, 1, 0, 0), (446, .lastore, 1, 0, 0), (447, .aload_n 0, 1, 0, 0), (448, .getfield 124, 3, 11, 62), (451, .iload 4, 2, 0, 0), (453, .dup2, 1, 0, 0), (454, .laload, 1, 0, 0), (455, .aload_n 0, 1, 0, 0), (456, .getfield 124, 3, 11, 62), (459, .iload_n 1, 1, 0, 0), (460, .laload, 1, 0, 0), (461, .lor, 1, 0, 0), (462, .lastore, 1, 0, 0), (463, .aload_n 0, 1, 0, 0), (464, .getfield 127, 3, 11, 63), (467, .iload 4, 2, 0, 0), (469, .dup2, 1, 0, 0), (470, .laload, 1, 0, 0), (471, .aload_n 0, 1, 0, 0), (472, .getfield 127, 3, 11, 63), (475, .iload_n 1, 1, 0, 0), (476, .laload, 1, 0, 0), (477, .lor, 1, 0, 0), (478, .lastore, 1, 0, 0), (479, .aload_n 0, 1, 0, 0), (480, .getfield 115, 3, 11, 59), (483, .iload 4, 2, 0, 0), (485, .aload_n 0, 1, 0, 0), (486, .getfield 115, 3, 11, 59), (489, .iload 4, 2, 0, 0), (491, .baload, 1, 0, 0), (492, .ifCond .ne 12, 3, 504, 0), (495, .aload_n 0, 1, 0, 0), (496, .getfield 115, 3, 11, 59), (499, .iload_n 1, 1, 0, 0), (500, .baload, 1, 0, 0), (501, .ifCond .eq 7, 3, 508, 0), (504, .iconst 1, 1, 0, 0), (505, .goto 4, 3, 509, 0), (508, .iconst 0, 1, 0, 0), (509, .bastore, 1, 0, 0), (510, .goto 74, 3, 584, 0), (513, .iload_n 1, 1, 0, 0), (514, .iconst 1, 1, 0, 0), (515, .isub, 1, 0, 0), (516, .istore 4, 2, 0, 0), (518, .iload_n 3, 1, 0, 0), (519, .bipush (-5), 2, 0, 0), (521, .if_icmp .eq 35, 3, 556, 0), (524, .aload_n 0, 1, 0, 0), (525, .aload_n 0, 1, 0, 0), (526, .getfield 124, 3, 11, 62), (529, .iload 4, 2, 0, 0), (531, .laload, 1, 0, 0), (532, .aload_n 0, 1, 0, 0), (533, .getfield 127, 3, 11, 63), (536, .iload 4, 2, 0, 0), (538, .laload, 1, 0, 0), (539, .aload_n 0, 1, 0, 0), (540, .getfield 118, 3, 11, 60), (543, .iload 4, 2, 0, 0), (545, .laload, 1, 0, 0), (546, .aload_n 0, 1, 0, 0), (547, .getfield 121, 3, 11, 61), (550, .iload 4, 2, 0, 0), (552, .laload, 1, 0, 0), (553, .invokevirtual 346, 3, 221, 4), (556, .aload_n 0, 1, 0, 0), (557, .getfield 115, 3, 11, 59), (560, .iload 4, 2, 0, 0), (562, .aload_n 0, 1, 0, 0), (563, .getfield 115, 3, 11, 59), (566, .iload 4, 2, 0, 0), (568, .baload, 1, 0, 0), (569, .ifCond .ne 9, 3, 578, 0), (572, .iload_n 3, 1, 0, 0), (573, .bipush (-4), 2, 0, 0), (575, .if_icmp .eq 7, 3, 582, 0), (578, .iconst 1, 1, 0, 0), (579, .goto 4, 3, 583, 0), (582, .iconst 0, 1, 0, 0), (583, .bastore, 1, 0, 0), (584, .iinc 2 1, 3, 0, 0), (587, .goto (-578), 3, 9, 0), (590, .return_, 1, 0, 0)]
def mX11_findPositions : ab_M := (yX11_findPositions, 11, cX11_findPositions, 7, none, kX11_findPositions)
def kX11_fits : List ab_I := [(0, .aload_n 0, 1, 0, 0), (1, .getfield 97, 3, 11, 49), (4, .aload_n 0, 1, 0, 0), (5, .getfield 106, 3, 11, 56), (8, .iload_n 1, 1, 0, 0), (9, .iaload, 1, 0, 0), (10, .iaload, 1, 0, 0), (11, .istore_n 3, 1, 0, 0), (12, .iload_n 3, 1, 0, 0), (13, .sipush 256, 3, 0, 0), (16, .if_icmp .eq 37, 3, 53, 0), (19, .iload_n 3, 1, 0, 0), (20, .sipush 1000, 3, 0, 0), (23, .if_icmp .lt 25, 3, 48, 0), (26, .aload_n 0, 1, 0, 0), (27, .getfield 100, 3, 11, 51), (30, .sipush 256, 3, 0, 0), (33, .iload_n 3, 1, 0, 0), (34, .sipush 1000, 3, 0, 0), (37, .isub, 1, 0, 0), (38, .imul, 1, 0, 0), (39, .iload_n 2, 1, 0, 0), (40, .iadd, 1, 0, 0), (41, .baload, 1, 0, 0), (42, .ifCond .eq 15, 3, 57, 0), (45, .goto 8, 3, 53, 0), (48, .iload_n 3, 1, 0, 0), (49, .iload_n 2, 1, 0, 0), (50, .if_icmp .ne 7, 3, 57, 0), (53, .iconst 1, 1, 0, 0), (54, .goto 4, 3, 58, 0), (57, .iconst 0, 1, 0, 0), (58, .ireturn, 1, 0, 0)]
def mX11_fits : ab_M := (yX11_fits, 11, cX11_fits, 4, (some .boolean), kX11_fits)
def kX11_matchFrom : List ab_I := [(0, .aload_n 0, 1, 0, 0), (1, .getfield 118, 3, 11, 60), (4, .iconst 0, 1, 0, 0), (5, .laload, 1, 0, 0), (6, .lstore_n 2, 1, 0, 0), (7, .aload_n 0, 1, 0, 0), (8, .getfield 121, 3, 11, 61), (11, .iconst 0, 1, 0, 0), (12, .laload, 1, 0, 0), (13, .lstore 4, 2, 0, 0), (15, .iconst 0, 1, 0, 0), (16, .istore 6, 2, 0, 0), (18, .iconst 0, 1, 0, 0), (19, .istore 7, 2, 0, 0), (21, .aload_n 0, 1, 0, 0), (22, .iload_n 1, 1, 0, 0), (23, .invokevirtual 226, 3, 170, 1), (26, .istore 8, 2, 0, 0), (28, .iconst 0, 1, 0, 0), (29, .istore 9, 2, 0, 0), (31, .iload 9, 2, 0, 0), (33, .iload 8, 2, 0, 0), (35, .if_icmp .ge 238, 3, 273, 0), (38, .lload_n 2, 1, 0, 0), (39, .lload 4, 2, 0, 0), (41, .lor, 1, 0, 0), (42, .lconst 0, 1, 0, 0), (43, .lcmp, 1, 0, 0), (44, .ifCond .eq 229, 3, 273, 0), (47, .aload_n 0, 1, 0, 0), (48, .getfield 19, 3, 11, 11), (51, .iload_n 1, 1, 0, 0), (52, .iload 9, 2, 0, 0), (54, .iadd, 1, 0, 0), (55, .iaload, 1, 0, 0), (56, .istore 10, 2, 0, 0), (58, .lconst 0, 1, 0, 0), (59, .lstore 11, 2, 0, 0), (61, .lconst 0, 1, 0, 0), (62, .lstore 13, 2, 0, 0), (64, .lconst 0, 1, 0, 0), (65, .lstore 15, 2, 0, 0), (67, .lconst 0, 1, 0, 0), (68, .lstore 17, 2, 0, 0), (70, .iconst 0, 1, 0, 0), (71, .istore 19, 2, 0, 0), (73, .iload 19, 2, 0, 0), (75, .aload_n 0, 1, 0, 0), (76, .getfield 343, 3, 11, 55), (79, .if_icmp .ge 135, 3, 214, 0), (82, .iload 19, 2, 0, 0), (84, .bipush 64, 2, 0, 0), (86, .if_icmp .ge 17, 3, 103, 0), (89, .lload_n 2, 1, 0, 0), (90, .iload 19, 2, 0, 0), (92, .lshr, 1, 0, 0), (93, .lconst 1, 1, 0, 0), (94, .land, 1, 0, 0), (95, .lconst 1, 1, 0, 0), (96, .lcmp, 1, 0, 0), (97, .ifCond .ne 36, 3, 133, 0), (100, .goto 18, 3, 118, 0), (103, .lload 4, 2, 0, 0), (105, .iload 19, 2, 0, 0), (107, .bipush 64, 2, 0, 0), (109, .isub, 1, 0, 0), (110, .lshr, 1, 0, 0), (111, .lconst 1, 1, 0, 0), (112, .land, 1, 0, 0), (113, .lconst 1, 1, 0, 0), (114, .lcmp, 1, 0, 0), (115, .ifCond .ne 18, 3, 133, 0), (118, .aload_n 0, 1, 0, 0), (119, .iload 19, 2, 0, 0), (121, .iload 10, 2, 0, 0), (123, .invokevirtual 350, 3, 223, 2), (126, .ifCond .eq 7, 3, 133, 0), (129, .iconst 1, 1, 0, 0), (130, .goto 4, 3, 134, 0), (133, .iconst 0, 1, 0, 0), (134, .istore 20, 2, 0, 0), (136, .iload 20, 2, 0, 0), (138, .ifCond .eq 70, 3, 208, 0), (141, .lload 11, 2, 0, 0), (143, .iload 19, 2, 0, 0), (145, .bipush 64, 2, 0, 0), (147, .if_icmp .ge 10, 3, 157, 0), (150, .lconst 1, 1, 0, 0), (151, .iload 19, 2, 0, 0), (153, .lshl, 1, 0, 0), (154, .goto 4, 3, 158, 0), (157, .lconst 0, 1, 0, 0), (158, .lor, 1, 0, 0), (159, .lstore 11, 2, 0, 0), (161, .lload 13, 2, 0, 0), (163, .iload 19, 2, 0, 0), (165, .bipush 64, 2, 0, 0), (167, .if_icmp .ge 7, 3, 174, 0), (170, .lconst 0, 1, 0, 0), (171, .goto 10, 3, 181, 0), (174, .lconst 1, 1, 0, 0), (175, .iload 19, 2, 0, 0), (177, .bipush 64, 2, 0, 0), (179, .isub, 1, 0, 0), (180, .lshl, 1, 0, 0), (181, .lor, 1, 0, 0), (182, .lstore 13, 2, 0, 0), (184, .lload 15, 2, 0, 0), (186, .aload_n 0, 1, 0, 0), (187, .getfield 109, 3, 11, 57), (190, .iload 19, 2, 0, 0), (192, .laload, 1, 0, 0), (193, .lor, 1, 0, 0), (194, .lstore 15, 2, 0, 0), (196, .lload 17, 2, 0, 0), (198, .aload_n 0, 1, 0, 0), (199, .getfield 112, 3, 11, 58), (202, .iload 19, 2, 0, 0), (204, .laload, 1, 0, 0), (205, .lor, 1, 0, 0), (206, .lstore 17, 2, 0, 0), (208, .iinc 19 1, 3, 0, 0), (211, .goto (-138), 3, 73, 0), (214, .lload 11, 2, 0, 0), (216, .aload_n 0, 1, 0, 0), (217, .getfield 124, 3, 11, 62), (220, .iconst 0, 1, 0, 0), (221, .laload, 1, 0, 0), (222, .land, 1, 0, 0), (223, .lload 13, 2, 0, 0), (225, .aload_n 0, 1, 0, 0), (226, .getfield 127, 3, 11, 63), (229, .iconst 0, 1, 0, 0), (230, .laload, 1, 0, 0), (231, .land, 1, 0, 0), (232, .lor, 1, 0, 0), (233, .lconst 0, 1, 0, 0), (234, .lcmp, 1, 0, 0), (235, .ifCond .eq 25, 3, 260, 0), (238, .iload 6, 2, 0, 0), (240, .ifCond .ne 10, 3, 250, 0), (243, .iload 9, 2, 0, 0), (245, .iconst 1, 1, 0, 0), (246, .iadd, 1, 0, 0), (247, .goto 5, 3, 252, 0), (250, .iload 6, 2, 0, 0), (252, .istore 6, 2, 0, 0), (254, .iload 9, 2, 0, 0), (256, .iconst 1, 1, 0, 0), (257, .iadd, 1, 0, 0), (258, .istore 7, 2, 0, 0), (260, .lload 15, 2, 0, 0), (262, .lstore_n 2, 1, 0, 0), (263, .lload 17, 2, 0, 0), (265, .lstore 4, 2, 0, 0), (267, .iinc 9 1, 3, 0, 0), (270, .goto (-239), 3, 31, 0), (273, .iload 7, 2, 0, 0), (275, .ifCond .le 45, 3, 320, 0), (278, .aload_n 0, 1, 0, 0), (279, .getfield 65, 3, 11, 34), (282, .aload_n 0, 1, 0, 0), (283, .getfield 201, 3, 11, 33), (286, .iload_n 1, 1, 0, 0), (287, .iastore, 1, 0, 0), (288, .aload_n 0, 1, 0, 0), (289, .getfield 68, 3, 11, 35), (292, .aload_n 0, 1, 0, 0), (293, .getfield 201, 3, 11, 33), (296, .iload 6, 2, 0, 0), (298, .iastore, 1, 0, 0), (299, .aload_n 0, 1, 0, 0), (300, .getfield 71, 3, 11, 36), (303, .aload_n 0, 1, 0, 0), (304, .getfield 201, 3, 11, 33), (307, .iload 7, 2, 0, 0), (309, .iastore, 1, 0, 0), (310, .aload_n 0, 1, 0, 0), (311, .dup, 1, 0, 0), (312, .getfield 201, 3, 11, 33), (315, .iconst 1, 1, 0, 0), (316, .iadd, 1, 0, 0), (317, .putfield 201, 3, 11, 33), (320, .return_, 1, 0, 0)]
def mX11_matchFrom : ab_M := (yX11_matchFrom, 11, cX11_matchFrom, 21, none, kX11_matchFrom)
def kX11_answer : List ab_I := [(0, .aload_n 0, 1, 0, 0), (1, .getfield 176, 3, 11, 6), (4, .ifCond .ne 5, 3, 9, 0), (7, .iconst (-1), 1, 0, 0), (8, .ireturn, 1, 0, 0), (9, .aload_n 0, 1, 0, 0), (10, .iconst 0, 1, 0, 0), (11, .invokevirtual 354, 3, 218, 1), (14, .aload_n 0, 1, 0, 0), (15, .getfield 74, 3, 11, 39), (18, .iconst 0, 1, 0, 0), (19, .laload, 1, 0, 0), (20, .ldc2_w 358, 3, 120, 0), (23, .lcmp, 1, 0, 0), (24, .ifCond .le 7, 3, 31, 0), (27, .iconst 1, 1, 0, 0), (28, .goto 4, 3, 32, 0), (31, .iconst 0, 1, 0, 0), (32, .istore_n 1, 1, 0, 0), (33, .aload_n 0, 1, 0, 0), (34, .getfield 267, 3, 11, 37), (37, .ifCond .ge 7, 3, 44, 0), (40, .iload_n 1, 1, 0, 0), (41, .ifCond .eq 29, 3, 70, 0), (44, .aload_n 0, 1, 0, 0), (45, .iconst 0, 1, 0, 0), (46, .putfield 261, 3, 11, 31), (49, .aload_n 0, 1, 0, 0), (50, .getfield 267, 3, 11, 37), (53, .ifCond .lt 13, 3, 66, 0), (56, .bipush (-2), 2, 0, 0), (58, .aload_n 0, 1, 0, 0), (59, .getfield 267, 3, 11, 37), (62, .isub, 1, 0, 0), (63, .goto 6, 3, 69, 0), (66, .sipush (-1000), 3, 0, 0), (69, .ireturn, 1, 0, 0), (70, .aload_n 0, 1, 0, 0), (71, .iconst 1, 1, 0, 0), (72, .invokevirtual 354, 3, 218, 1), (75, .aload_n 0, 1, 0, 0), (76, .iconst 0, 1, 0, 0), (77, .putfield 261, 3, 11, 31), (80, .aload_n 0, 1, 0, 0), (81, .invokevirtual 360, 3, 222, 0), (84, .aload_n 0, 1, 0, 0), (85, .iconst 1, 1, 0, 0), (86, .putfield 198, 3, 11, 1032), (89, .aload_n 0, 1, 0, 0), (90, .iconst 0, 1, 0, 0), (91, .putfield 201, 3, 11, 33), (94, .iconst 0, 1, 0, 0), (95, .istore_n 2, 1, 0, 0), (96, .iload_n 2, 1, 0, 0), (97, .aload_n 0, 1, 0, 0), (98, .getfield 165, 3, 11, 7), (101, .if_icmp .ge 14, 3, 115, 0), (104, .aload_n 0, 1, 0, 0), (105, .iload_n 2, 1, 0, 0), (106, .invokevirtual 363, 3, 224, 1), (109, .iinc 2 1, 3, 0, 0), (112, .goto (-16), 3, 96, 0), (115, .aload_n 0, 1, 0, 0), (116, .getfield 201, 3, 11, 33), (119, .ireturn, 1, 0, 0)]
def mX11_answer : ab_M := (yX11_answer, 11, cX11_answer, 3, (some .int), kX11_answer)
def kX11_answered : List ab_I := [(0, .aload_n 0, 1, 0, 0), (1, .getfield 176, 3, 11, 6), (4, .ifCond .eq 31, 3, 35, 0), (7, .aload_n 0, 1, 0, 0), (8, .getfield 198, 3, 11, 32), (11, .ifCond .eq 24, 3, 35, 0), (14, .iload_n 1, 1, 0, 0), (15, .ifCond .lt 20, 3, 35, 0), (18, .iload_n 1, 1, 0, 0), (19, .aload_n 0, 1, 0, 0), (20, .getfield 201, 3, 11, 33), (23, .if_icmp .ge 12, 3, 35, 0), (26, .iload_n 2, 1, 0, 0), (27, .ifCond .lt 8, 3, 35, 0), (30, .iload_n 2, 1, 0, 0), (31, .iconst 2, 1, 0, 0), (32, .if_icmp .le 5, 3, 37, 0), (35, .iconst (-1), 1, 0, 0), (36, .ireturn, 1, 0, 0), (37, .iload_n 2, 1, 0, 0), (38, .ifCond .ne 12, 3, 50, 0), (41, .aload_n 0, 1, 0, 0), (42, .getfield 65, 3, 11, 34), (45, .iload_n 1, 1, 0, 0), (46, .iaload, 1, 0, 0), (47, .goto 23, 3, 70, 0), (50, .iload_n 2, 1, 0, 0), (51, .iconst 1, 1, 0, 0), (52, .if_icmp .ne 12, 3, 64, 0), (55, .aload_n 0, 1, 0, 0), (56, .getfield 68, 3, 11, 35), (59, .iload_n 1, 1, 0, 0), (60, .iaload, 1, 0, 0), (61, .goto 9, 3, 70, 0), (64, .aload_n 0, 1, 0, 0), (65, .getfield 71, 3, 11, 36), (68, .iload_n 1, 1, 0, 0), (69, .iaload, 1, 0, 0), (70, .ireturn, 1, 0, 0)]
def mX11_answered : ab_M := (yX11_answered, 11, cX11_answered, 3, (some .int), kX11_answered)
def kX11_freshOf : List ab_I := [(0, .aload_n 0, 1, 0, 0), (1, .aload_n 0, 1, 0, 0), (2, .getfield 31, 3, 11, 15), (5, .iload_n 1, 1, 0, 0), (6, .iaload, 1, 0, 0), (7, .invokevirtual 226, 3, 170, 1), (10, .aload_n 0, 1, 0, 0), (11, .getfield 37, 3, 11, 17), (14, .iload_n 1, 1, 0, 0), (15, .iaload, 1, 0, 0), (16, .isub, 1, 0, 0), (17, .ireturn, 1, 0, 0)]
def mX11_freshOf : ab_M := (yX11_freshOf, 11, cX11_freshOf, 2, (some .int), kX11_freshOf)
def kX11_different : List ab_I := [(0, .aload_n 0, 1, 0, 0), (1, .getfield 176, 3, 11, 6), (4, .ifCond .eq 7, 3, 11, 0), (7, .iload_n 1, 1, 0, 0), (8, .ifCond .ge 5, 3, 13, 0), (11, .iconst (-1), 1, 0, 0), (12, .ireturn, 1, 0, 0), (13, .iconst 0, 1, 0, 0), (14, .istore_n 2, 1, 0, 0), (15, .iconst 0, 1, 0, 0), (16, .istore_n 3, 1, 0, 0), (17, .iload_n 3, 1, 0, 0), (18, .aload_n 0, 1, 0, 0), (19, .getfield 165, 3, 11, 7), (22, .if_icmp .ge 53, 3, 75, 0), (25, .iload_n 2, 1, 0, 0), (26, .iload_n 1, 1, 0, 0), (27, .ifCond .ne 11, 3, 38, 0), (30, .aload_n 0, 1, 0, 0), (31, .iload_n 3, 1, 0, 0), (32, .invokevirtual 366, 3, 227, 1), (35, .goto 32, 3, 67, 0), (38, .aload_n 0, 1, 0, 0), (39, .getfield 37, 3, 11, 17), (42, .iload_n 3, 1, 0, 0), (43, .iaload, 1, 0, 0), (44, .iload_n 1, 1, 0, 0), (45, .if_icmp .ge 21, 3, 66, 0), (48, .iload_n 1, 1, 0, 0), (49, .aload_n 0, 1, 0, 0), (50, .aload_n 0, 1, 0, 0), (51, .getfield 31, 3, 11, 15), (54, .iload_n 3, 1, 0, 0), (55, .iaload, 1, 0, 0), (56, .invokevirtual 226, 3, 170, 1), (59, .if_icmp .gt 7, 3, 66, 0), (62, .iconst 1, 1, 0, 0), (63, .goto 4, 3, 67, 0), (66, .iconst 0, 1, 0, 0), (67, .iadd, 1, 0, 0), (68, .istore_n 2, 1, 0, 0), (69, .iinc 3 1, 3, 0, 0), (72, .goto (-55), 3, 17, 0), (75, .iload_n 2, 1, 0, 0), (76, .ireturn, 1, 0, 0)]
def mX11_different : ab_M := (yX11_different, 11, cX11_different, 4, (some .int), kX11_different)
def kX11_kth : List ab_I := [(0, .aload_n 0, 1, 0, 0), (1, .getfield 176, 3, 11, 6), (4, .ifCond .eq 7, 3, 11, 0), (7, .iload_n 1, 1, 0, 0), (8, .ifCond .ge 5, 3, 13, 0), (11, .iconst (-1), 1, 0, 0), (12, .ireturn, 1, 0, 0), (13, .iconst 0, 1, 0, 0), (14, .istore_n 2, 1, 0, 0), (15, .iconst 0, 1, 0, 0), (16, .istore_n 3, 1, 0, 0), (17, .iload_n 3, 1, 0, 0), (18, .aload_n 0, 1, 0, 0), (19, .getfield 165, 3, 11, 7), (22, .if_icmp .ge 55, 3, 77, 0), (25, .iload_n 1, 1, 0, 0), (26, .iload_n 2, 1, 0, 0), (27, .isub, 1, 0, 0), (28, .aload_n 0, 1, 0, 0), (29, .iload_n 3, 1, 0, 0), (30, .invokevirtual 366, 3, 227, 1), (33, .if_icmp .ge 30, 3, 63, 0), (36, .aload_n 0, 1, 0, 0), (37, .aload_n 0, 1, 0, 0), (38, .getfield 31, 3, 11, 15), (41, .iload_n 3, 1, 0, 0), (42, .iaload, 1, 0, 0), (43, .aload_n 0, 1, 0, 0), (44, .getfield 37, 3, 11, 17), (47, .iload_n 3, 1, 0, 0), (48, .iaload, 1, 0, 0), (49, .iconst 1, 1, 0, 0), (50, .iadd, 1, 0, 0), (51, .iload_n 1, 1, 0, 0), (52, .iadd, 1, 0, 0), (53, .iload_n 2, 1, 0, 0), (54, .isub, 1, 0, 0), (55, .invokevirtual 258, 3, 187, 2), (58, .aload_n 0, 1, 0, 0), (59, .getfield 233, 3, 11, 22), (62, .ireturn, 1, 0, 0), (63, .iload_n 2, 1, 0, 0), (64, .aload_n 0, 1, 0, 0), (65, .iload_n 3, 1, 0, 0), (66, .invokevirtual 366, 3, 227, 1), (69, .iadd, 1, 0, 0), (70, .istore_n 2, 1, 0, 0), (71, .iinc 3 1, 3, 0, 0), (74, .goto (-57), 3, 17, 0), (77, .iconst (-1), 1, 0, 0), (78, .ireturn, 1, 0, 0)]
def mX11_kth : ab_M := (yX11_kth, 11, cX11_kth, 4, (some .int), kX11_kth)
def kX11_order : List ab_I := [(0, .aload_n 0, 1, 0, 0), (1, .getfield 176, 3, 11, 6), (4, .ifCond .ne 5, 3, 9, 0), (7, .iconst (-1), 1, 0, 0), (8, .ireturn, 1, 0, 0), (9, .aload_n 0, 1, 0, 0), (10, .getfield 233, 3, 11, 22), (13, .ifCond .ne 5, 3, 18, 0), (16, .iconst 0, 1, 0, 0), (17, .ireturn, 1, 0, 0), (18, .aload_n 0, 1, 0, 0), (19, .getfield 233, 3, 11, 22), (22, .iconst 1, 1, 0, 0), (23, .isub, 1, 0, 0), (24, .aload_n 0, 1, 0, 0), (25, .getfield 37, 3, 11, 17), (28, .aload_n 0, 1, 0, 0), (29, .getfield 236, 3, 11, 23), (32, .iaload, 1, 0, 0), (33, .isub, 1, 0, 0), (34, .istore_n 1, 1, 0, 0), (35, .iconst 0, 1, 0, 0), (36, .istore_n 2, 1, 0, 0), (37, .iload_n 2, 1, 0, 0), (38, .aload_n 0, 1, 0, 0), (39, .getfield 236, 3, 11, 23), (42, .if_icmp .ge 17, 3, 59, 0), (45, .iload_n 1, 1, 0, 0), (46, .aload_n 0, 1, 0, 0), (47, .iload_n 2, 1, 0, 0), (48, .invokevirtual 366, 3, 227, 1), (51, .iadd, 1, 0, 0), (52, .istore_n 1, 1, 0, 0), (53, .iinc 2 1, 3, 0, 0), (56, .goto (-19), 3, 37, 0), (59, .iload_n 1, 1, 0, 0), (60, .ireturn, 1, 0, 0)]
def mX11_order : ab_M := (yX11_order, 11, cX11_order, 3, (some .int), kX11_order)
def kX11_becomeBest : List ab_I := [(0, .iload_n 2, 1, 0, 0), (1, .ifCond .le 14, 3, 15, 0), (4, .aload_n 0, 1, 0, 0), (5, .aload_n 0, 1, 0, 0), (6, .getfield 31, 3, 11, 15), (9, .iload_n 1, 1, 0, 0), (10, .iaload, 1, 0, 0), (11, .iload_n 2, 1, 0, 0), (12, .invokevirtual 258, 3, 187, 2), (15, .iload_n 2, 1, 0, 0), (16, .ireturn, 1, 0, 0)]
def mX11_becomeBest : ab_M := (yX11_becomeBest, 11, cX11_becomeBest, 3, (some .int), kX11_becomeBest)
def kX11_repeated : List ab_I := [(0, .aload_n 0, 1, 0, 0), (1, .getfield 176, 3, 11, 6), (4, .ifCond .eq 8, 3, 12, 0), (7, .iload_n 1, 1, 0, 0), (8, .iconst 2, 1, 0, 0), (9, .if_icmp .ge 5, 3, 14, 0), (12, .iconst (-1), 1, 0, 0), (13, .ireturn, 1, 0, 0), (14, .iconst 0, 1, 0, 0), (15, .istore_n 2, 1, 0, 0), (16, .iconst 0, 1, 0, 0), (17, .istore_n 3, 1, 0, 0), (18, .iconst 0, 1, 0, 0), (19, .istore 4, 2, 0, 0), (21, .iload 4, 2, 0, 0), (23, .aload_n 0, 1, 0, 0), (24, .getfield 165, 3, 11, 7), (27, .if_icmp .ge 107, 3, 134, 0), (30, .iload_n 1, 1, 0, 0), (31, .aload_n 0, 1, 0, 0), (32, .getfield 165, 3, 11, 7), (35, .if_icmp .gt 99, 3, 134, 0), (38, .sipush 3000, 3, 0, 0), (41, .istore 5, 2, 0, 0), (43, .iload 4, 2, 0, 0), (45, .iconst 1, 1, 0, 0), (46, .iadd, 1, 0, 0), (47, .istore 6, 2, 0, 0), (49, .iload 6, 2, 0, 0), (51, .iload 4, 2, 0, 0), (53, .iload_n 1, 1, 0, 0), (54, .iadd, 1, 0, 0), (55, .if_icmp .ge 50, 3, 105, 0), (58, .iload 6, 2, 0, 0), (60, .aload_n 0, 1, 0, 0), (61, .getfield 165, 3, 11, 7), (64, .if_icmp .gt 41, 3, 105, 0), (67, .iload 5, 2, 0, 0), (69, .iload_n 2, 1, 0, 0), (70, .if_icmp .le 35, 3, 105, 0), (73, .aload_n 0, 1, 0, 0), (74, .getfield 37, 3, 11, 17), (77, .iload 6, 2, 0, 0), (79, .iaload, 1, 0, 0), (80, .iload 5, 2, 0, 0), (82, .if_icmp .ge 13, 3, 95, 0), (85, .aload_n 0, 1, 0, 0), (86, .getfield 37, 3, 11, 17), (89, .iload 6, 2, 0, 0), (91, .iaload, 1, 0, 0), (92, .goto 5, 3, 97, 0), (95, .iload 5, 2, 0, 0), (97, .istore 5, 2, 0, 0), (99, .iinc 6 1, 3, 0, 0), (102, .goto (-53), 3, 49, 0), (105, .iload 4, 2, 0, 0), (107, .iload_n 1, 1, 0, 0), (108, .iadd, 1, 0, 0), (109, .aload_n 0, 1, 0, 0), (110, .getfield 165, 3, 11, 7), (113, .if_icmp .gt 15, 3, 128, 0), (116, .iload 5, 2, 0, 0), (118, .iload_n 2, 1, 0, 0), (119, .if_icmp .le 9, 3, 128, 0), (122, .iload 5, 2, 0, 0), (124, .istore_n 2, 1, 0, 0), (125, .iload 4, 2, 0, 0), (127, .istore_n 3, 1, 0, 0), (128, .iinc 4 1, 3, 0, 0), (131, .goto (-110), 3, 21, 0), (134, .aload_n 0, 1, 0, 0), (135, .iload_n 3, 1, 0, 0), (136, .iload_n 2, 1, 0, 0), (137, .invokevirtual 369, 3, 231, 2), (140, .ireturn, 1, 0, 0)]
def mX11_repeated : ab_M := (yX11_repeated, 11, cX11_repeated, 7, (some .int), kX11_repeated)
def kX11_common : List ab_I := [(0, .aload_n 0, 1, 0, 0), (1, .getfield 176, 3, 11, 6), (4, .ifCond .eq 8, 3, 12, 0), (7, .iload_n 1, 1, 0, 0), (8, .iconst 1, 1, 0, 0), (9, .if_icmp .ge 5, 3, 14, 0), (12, .iconst (-1), 1, 0, 0), (13, .ireturn, 1, 0, 0), (14, .iconst 0, 1, 0, 0), (15, .istore_n 2, 1, 0, 0), (16, .iconst 0, 1, 0, 0), (17, .istore_n 3, 1, 0, 0), (18, .iconst 0, 1, 0, 0), (19, .istore 4, 2, 0, 0), (21, .iload 4, 2, 0, 0), (23, .aload_n 0, 1, 0, 0), (24, .getfield 165, 3, 11, 7), (27, .if_icmp .ge 175, 3, 202, 0), (30, .iconst 0, 1, 0, 0), (31, .istore 5, 2, 0, 0), (33, .iload 5, 2, 0, 0), (35, .aload_n 0, 1, 0, 0), (36, .getfield 183, 3, 11, 8), (39, .if_icmp .ge 17, 3, 56, 0), (42, .aload_n 0, 1, 0, 0), (43, .getfield 130, 3, 11, 64), (46, .iload 5, 2, 0, 0), (48, .iconst 0, 1, 0, 0), (49, .bastore, 1, 0, 0), (50, .iinc 5 1, 3, 0, 0), (53, .goto (-20), 3, 33, 0), (56, .aload_n 0, 1, 0, 0), (57, .aload_n 0, 1, 0, 0), (58, .getfield 31, 3, 11, 15), (61, .iload 4, 2, 0, 0), (63, .iaload, 1, 0, 0), (64, .invokevirtual 226, 3, 170, 1), (67, .istore 5, 2, 0, 0), (69, .iconst 0, 1, 0, 0), (70, .istore 6, 2, 0, 0), (72, .iload 4, 2, 0, 0), (74, .istore 7, 2, 0, 0), (76, .iload 7, 2, 0, 0), (78, .aload_n 0, 1, 0, 0), (79, .getfield 165, 3, 11, 7), (82, .if_icmp .ge 96, 3, 178, 0), (85, .iload 5, 2, 0, 0), (87, .iload_n 2, 1, 0, 0), (88, .if_icmp .le 90, 3, 178, 0), (91, .iload 6, 2, 0, 0), (93, .iload_n 1, 1, 0, 0), (94, .if_icmp .ge 84, 3, 178, 0), (97, .iload 7, 2, 0, 0), (99, .iload 4, 2, 0, 0), (101, .if_icmp .le 25, 3, 126, 0), (104, .aload_n 0, 1, 0, 0), (105, .getfield 37, 3, 11, 17), (108, .iload 7, 2, 0, 0), (110, .iaload, 1, 0, 0), (111, .iload 5, 2, 0, 0), (113, .if_icmp .ge 13, 3, 126, 0), (116, .aload_n 0, 1, 0, 0), (117, .getfield 37, 3, 11, 17), (120, .iload 7, 2, 0, 0), (122, .iaload, 1, 0, 0), (123, .goto 5, 3, 128, 0), (126, .iload 5, 2, 0, 0), (128, .istore 5, 2, 0, 0), (130, .aload_n 0, 1, 0, 0), (131, .getfield 22, 3, 11, 12), (134, .aload_n 0, 1, 0, 0), (135, .getfield 31, 3, 11, 15), (138, .iload 7, 2, 0, 0), (140, .iaload, 1, 0, 0), (141, .iaload, 1, 0, 0), (142, .istore 8, 2, 0, 0), (144, .iload 6, 2, 0, 0), (146, .aload_n 0, 1, 0, 0), (147, .getfield 130, 3, 11, 64), (150, .iload 8, 2, 0, 0), (152, .baload, 1, 0, 0), (153, .ifCond .eq 7, 3, 160, 0), (156, .iconst 0, 1, 0, 0), (157, .goto 4, 3, 161, 0), (160, .iconst 1, 1, 0, 0), (161, .iadd, 1, 0, 0), (162, .istore 6, 2, 0, 0), (164, .aload_n 0, 1, 0, 0), (165, .getfield 130, 3, 11, 64), (168, .iload 8, 2, 0, 0), (170, .iconst 1, 1, 0, 0), (171, .bastore, 1, 0, 0), (172, .iinc 7 1, 3, 0, 0), (175, .goto (-99), 3, 76, 0), (178, .iload 6, 2, 0, 0), (180, .iload_n 1, 1, 0, 0), (181, .if_icmp .ne 15, 3, 196, 0), (184, .iload 5, 2, 0, 0), (186, .iload_n 2, 1, 0, 0), (187, .if_icmp .le 9, 3, 196, 0), (190, .iload 5, 2, 0, 0), (192, .istore_n 2, 1, 0, 0), (193, .iload 4, 2, 0, 0), (195, .istore_n 3, 1, 0, 0), (196, .iinc 4 1, 3, 0, 0), (199, .goto (-178), 3, 21, 0), (202, .aload_n 0, 1, 0, 0), (203, .iload_n 3, 1, 0, 0), (204, .iload_n 2, 1, 0, 0), (205, .invokevirtual 369, 3, 231, 2), (208, .ireturn, 1, 0, 0)]
def mX11_common : ab_M := (yX11_common, 11, cX11_common, 9, (some .int), kX11_common)
def kX11_oftenest : List ab_I := [(0, .aload_n 0, 1, 0, 0), (1, .getfield 176, 3, 11, 6), (4, .ifCond .eq 8, 3, 12, 0), (7, .iload_n 1, 1, 0, 0), (8, .iconst 1, 1, 0, 0), (9, .if_icmp .ge 5, 3, 14, 0), (12, .iconst (-1), 1, 0, 0), (13, .ireturn, 1, 0, 0), (14, .iconst 0, 1, 0, 0), (15, .istore_n 2, 1, 0, 0), (16, .iconst 0, 1, 0, 0), (17, .istore_n 3, 1, 0, 0), (18, .iconst 0, 1, 0, 0), (19, .istore 4, 2, 0, 0), (21, .iconst 0, 1, 0, 0), (22, .istore 5, 2, 0, 0), (24, .iload 5, 2, 0, 0), (26, .aload_n 0, 1, 0, 0), (27, .getfield 165, 3, 11, 7), (30, .if_icmp .ge 73, 3, 103, 0), (33, .aload_n 0, 1, 0, 0), (34, .aload_n 0, 1, 0, 0), (35, .getfield 31, 3, 11, 15), (38, .iload 5, 2, 0, 0), (40, .iaload, 1, 0, 0), (41, .invokevirtual 226, 3, 170, 1), (44, .iload_n 1, 1, 0, 0), (45, .if_icmp .lt 7, 3, 52, 0), (48, .iconst 1, 1, 0, 0), (49, .goto 4, 3, 53, 0), (52, .iconst 0, 1, 0, 0), (53, .istore 6, 2, 0, 0), (55, .iload 6, 2, 0, 0), (57, .ifCond .ne 7, 3, 64, 0), (60, .iconst 0, 1, 0, 0), (61, .goto 22, 3, 83, 0), (64, .aload_n 0, 1, 0, 0), (65, .getfield 37, 3, 11, 17), (68, .iload 5, 2, 0, 0), (70, .iaload, 1, 0, 0), (71, .iload_n 1, 1, 0, 0), (72, .if_icmp .lt 10, 3, 82, 0), (75, .iload 4, 2, 0, 0), (77, .iconst 1, 1, 0, 0), (78, .iadd, 1, 0, 0), (79, .goto 4, 3, 83, 0), (82, .iconst 1, 1, 0, 0), (83, .istore 4, 2, 0, 0), (85, .iload 4, 2, 0, 0), (87, .iload_n 2, 1, 0, 0), (88, .if_icmp .le 9, 3, 97, 0), (91, .iload 4, 2, 0, 0), (93, .istore_n 2, 1, 0, 0), (94, .iload 5, 2, 0, 0), (96, .istore_n 3, 1, 0, 0), (97, .iinc 5 1, 3, 0, 0), (100, .goto (-76), 3, 24, 0), (103, .iload_n 2, 1, 0, 0), (104, .ifCond .le 14, 3, 118, 0), (107, .aload_n 0, 1, 0, 0), (108, .aload_n 0, 1, 0, 0), (109, .getfield 31, 3, 11, 15), (112, .iload_n 3, 1, 0, 0), (113, .iaload, 1, 0, 0), (114, .iload_n 1, 1, 0, 0), (115, .invokevirtual 258, 3, 187, 2), (118, .iload_n 2, 1, 0, 0), (119, .ireturn, 1, 0, 0)]
def mX11_oftenest : ab_M := (yX11_oftenest, 11, cX11_oftenest, 7, (some .int), kX11_oftenest)
def kX11_unique : List ab_I := [(0, .aload_n 0, 1, 0, 0), (1, .iload_n 1, 1, 0, 0), (2, .invokevirtual 210, 3, 167, 1), (5, .ifCond .eq 12, 3, 17, 0), (8, .aload_n 0, 1, 0, 0), (9, .getfield 19, 3, 11, 11), (12, .iload_n 1, 1, 0, 0), (13, .iaload, 1, 0, 0), (14, .ifCond .ge 5, 3, 19, 0), (17, .iconst (-1), 1, 0, 0), (18, .ireturn, 1, 0, 0), (19, .aload_n 0, 1, 0, 0), (20, .getfield 34, 3, 11, 16), (23, .iload_n 1, 1, 0, 0), (24, .iaload, 1, 0, 0), (25, .istore_n 2, 1, 0, 0), (26, .iload_n 2, 1, 0, 0), (27, .iconst 1, 1, 0, 0), (28, .iadd, 1, 0, 0), (29, .aload_n 0, 1, 0, 0), (30, .getfield 165, 3, 11, 7), (33, .if_icmp .ge 14, 3, 47, 0), (36, .aload_n 0, 1, 0, 0), (37, .getfield 37, 3, 11, 17), (40, .iload_n 2, 1, 0, 0), (41, .iconst 1, 1, 0, 0), (42, .iadd, 1, 0, 0), (43, .iaload, 1, 0, 0), (44, .goto 4, 3, 48, 0), (47, .iconst 0, 1, 0, 0), (48, .istore_n 3, 1, 0, 0), (49, .iconst 1, 1, 0, 0), (50, .aload_n 0, 1, 0, 0), (51, .getfield 37, 3, 11, 17), (54, .iload_n 2, 1, 0, 0), (55, .iaload, 1, 0, 0), (56, .iload_n 3, 1, 0, 0), (57, .if_icmp .le 12, 3, 69, 0), (60, .aload_n 0, 1, 0, 0), (61, .getfield 37, 3, 11, 17), (64, .iload_n 2, 1, 0, 0), (65, .iaload, 1, 0, 0), (66, .goto 4, 3, 70, 0), (69, .iload_n 3, 1, 0, 0), (70, .iadd, 1, 0, 0), (71, .istore 4, 2, 0, 0), (73, .iload 4, 2, 0, 0), (75, .aload_n 0, 1, 0, 0), (76, .iload_n 1, 1, 0, 0), (77, .invokevirtual 226, 3, 170, 1), (80, .if_icmp .gt 8, 3, 88, 0), (83, .iload 4, 2, 0, 0), (85, .goto 4, 3, 89, 0), (88, .iconst 0, 1, 0, 0), (89, .ireturn, 1, 0, 0)]
def mX11_unique : ab_M := (yX11_unique, 11, cX11_unique, 5, (some .int), kX11_unique)
def kX11_isOneBefore : List ab_I := [(0, .aload_n 0, 1, 0, 0), (1, .iload_n 1, 1, 0, 0), (2, .invokevirtual 217, 3, 175, 1), (5, .istore_n 3, 1, 0, 0), (6, .iload_n 3, 1, 0, 0), (7, .bipush (-2), 2, 0, 0), (9, .if_icmp .eq 7, 3, 16, 0), (12, .iconst 1, 1, 0, 0), (13, .goto 4, 3, 17, 0), (16, .iconst 0, 1, 0, 0), (17, .istore 4, 2, 0, 0), (19, .iload_n 1, 1, 0, 0), (20, .iconst 1, 1, 0, 0), (21, .iadd, 1, 0, 0), (22, .istore 5, 2, 0, 0), (24, .iload 5, 2, 0, 0), (26, .iload_n 2, 1, 0, 0), (27, .if_icmp .ge 31, 3, 58, 0), (30, .iload 4, 2, 0, 0), (32, .ifCond .eq 26, 3, 58, 0), (35, .aload_n 0, 1, 0, 0), (36, .iload 5, 2, 0, 0), (38, .invokevirtual 217, 3, 175, 1), (41, .iload_n 3, 1, 0, 0), (42, .if_icmp .ne 7, 3, 49, 0), (45, .iconst 1, 1, 0, 0), (46, .goto 4, 3, 50, 0), (49, .iconst 0, 1, 0, 0), (50, .istore 4, 2, 0, 0), (52, .iinc 5 1, 3, 0, 0), (55, .goto (-31), 3, 24, 0), (58, .iload 4, 2, 0, 0), (60, .ireturn, 1, 0, 0)]
def mX11_isOneBefore : ab_M := (yX11_isOneBefore, 11, cX11_isOneBefore, 6, (some .boolean), kX11_isOneBefore)
def kX11_maximal : List ab_I := [(0, .aload_n 0, 1, 0, 0), (1, .getfield 176, 3, 11, 6), (4, .ifCond .eq 8, 3, 12, 0), (7, .iload_n 1, 1, 0, 0), (8, .iconst (-1), 1, 0, 0), (9, .if_icmp .ge 5, 3, 14, 0), (12, .iconst (-1), 1, 0, 0), (13, .ireturn, 1, 0, 0), (14, .iconst 0, 1, 0, 0), (15, .istore_n 2, 1, 0, 0), (16, .iconst 0, 1, 0, 0), (17, .istore_n 3, 1, 0, 0), (18, .iload_n 3, 1, 0, 0), (19, .aload_n 0, 1, 0, 0), (20, .getfield 165, 3, 11, 7), (23, .if_icmp .ge 180, 3, 203, 0), (26, .iconst 0, 1, 0, 0), (27, .istore 4, 2, 0, 0), (29, .sipush 3000, 3, 0, 0), (32, .istore 5, 2, 0, 0), (34, .iload_n 3, 1, 0, 0), (35, .iconst 1, 1, 0, 0), (36, .iadd, 1, 0, 0), (37, .istore 6, 2, 0, 0), (39, .iload 6, 2, 0, 0), (41, .aload_n 0, 1, 0, 0), (42, .getfield 165, 3, 11, 7), (45, .if_icmp .ge 74, 3, 119, 0), (48, .aload_n 0, 1, 0, 0), (49, .getfield 37, 3, 11, 17), (52, .iload 6, 2, 0, 0), (54, .iaload, 1, 0, 0), (55, .aload_n 0, 1, 0, 0), (56, .getfield 37, 3, 11, 17), (59, .iload_n 3, 1, 0, 0), (60, .iaload, 1, 0, 0), (61, .if_icmp .le 58, 3, 119, 0), (64, .aload_n 0, 1, 0, 0), (65, .getfield 37, 3, 11, 17), (68, .iload 6, 2, 0, 0), (70, .iaload, 1, 0, 0), (71, .iload 5, 2, 0, 0), (73, .if_icmp .ge 40, 3, 113, 0), (76, .iload 4, 2, 0, 0), (78, .ifCond .le 14, 3, 92, 0), (81, .aload_n 0, 1, 0, 0), (82, .getfield 136, 3, 11, 66), (85, .iload 4, 2, 0, 0), (87, .iconst 1, 1, 0, 0), (88, .isub, 1, 0, 0), (89, .iload 6, 2, 0, 0), (91, .iastore, 1, 0, 0), (92, .aload_n 0, 1, 0, 0), (93, .getfield 37, 3, 11, 17), (96, .iload 6, 2, 0, 0), (98, .iaload, 1, 0, 0), (99, .istore 5, 2, 0, 0), (101, .aload_n 0, 1, 0, 0), (102, .getfield 133, 3, 11, 65), (105, .iload 4, 2, 0, 0), (107, .iload 5, 2, 0, 0), (109, .iastore, 1, 0, 0), (110, .iinc 4 1, 3, 0, 0), (113, .iinc 6 1, 3, 0, 0), (116, .goto (-77), 3, 39, 0), (119, .iload 4, 2, 0, 0), (121, .ifCond .le 14, 3, 135, 0), (124, .aload_n 0, 1, 0, 0), (125, .getfield 136, 3, 11, 66), (128, .iload 4, 2, 0, 0), (130, .iconst 1, 1, 0, 0), (131, .isub, 1, 0, 0), (132, .iload 6, 2, 0, 0), (134, .iastore, 1, 0, 0), (135, .iload 4, 2, 0, 0), (137, .iconst 1, 1, 0, 0), (138, .isub, 1, 0, 0), (139, .istore 7, 2, 0, 0), (141, .iload 7, 2, 0, 0), (143, .ifCond .lt 54, 3, 197, 0), (146, .aload_n 0, 1, 0, 0), (147, .iload_n 3, 1, 0, 0), (148, .aload_n 0, 1, 0, 0), (149, .getfield 136, 3, 11, 66), (152, .iload 7, 2, 0, 0), (154, .iaload, 1, 0, 0), (155, .invokevirtual 372, 3, 236, 2), (158, .ifCond .ne 33, 3, 191, 0), (161, .iload_n 2, 1, 0, 0), (162, .iload_n 1, 1, 0, 0), (163, .if_icmp .ne 25, 3, 188, 0), (166, .aload_n 0, 1, 0, 0), (167, .aload_n 0, 1, 0, 0), (168, .getfield 31, 3, 11, 15), (171, .iload_n 3, 1, 0, 0), (172, .iaload, 1, 0, 0), (173, .aload_n 0, 1, 0, 0), (174, .getfield 133, 3, 11, 65), (177, .iload 7, 2, 0, 0), (179, .iaload, 1, 0, 0), (180, .invokevirtual 258, 3, 187, 2), (183, .aload_n 0, 1, 0, 0), (184, .getfield 233, 3, 11, 22), (187, .ireturn, 1, 0, 0), (188, .iinc 2 1, 3, 0, 0), (191, .iinc 7 (-1), 3, 0, 0), (194, .goto (-53), 3, 141, 0), (197, .iinc 3 1, 3, 0, 0), (200, .goto (-182), 3, 18, 0), (203, .iload_n 1, 1, 0, 0), (204, .iconst (-1), 1, 0, 0), (205, .if_icmp .ne 7, 3, 212, 0), (208, .iload_n 2, 1, 0, 0), (209, .goto 4, 3, 213, 0), (212, .iconst (-1), 1, 0, 0), (213, .ireturn, 1, 0, 0)]
def mX11_maximal : ab_M := (yX11_maximal, 11, cX11_maximal, 8, (some .int), kX11_maximal)
def kX11_absent : List ab_I := [(0, .aload_n 0, 1, 0, 0), (1, .getfield 176, 3, 11, 6), (4, .ifCond .eq 8, 3, 12, 0), (7, .iload_n 1, 1, 0, 0), (8, .iconst 2, 1, 0, 0), (9, .if_icmp .ge 5, 3, 14, 0), (12, .iconst (-1), 1, 0, 0), (13, .ireturn, 1, 0, 0), (14, .iload_n 1, 1, 0, 0), (15, .iconst 2, 1, 0, 0), (16, .isub, 1, 0, 0), (17, .istore_n 2, 1, 0, 0), (18, .iconst 0, 1, 0, 0), (19, .istore_n 3, 1, 0, 0), (20, .iconst 0, 1, 0, 0), (21, .istore 4, 2, 0, 0), (23, .iload 4, 2, 0, 0), (25, .aload_n 0, 1, 0, 0), (26, .getfield 165, 3, 11, 7), (29, .if_icmp .ge 268, 3, 297, 0), (32, .aload_n 0, 1, 0, 0), (33, .aload_n 0, 1, 0, 0), (34, .getfield 31, 3, 11, 15), (37, .iload 4, 2, 0, 0), (39, .iaload, 1, 0, 0), (40, .invokevirtual 226, 3, 170, 1), (43, .iload_n 2, 1, 0, 0), (44, .if_icmp .ge 9, 3, 53, 0), (47, .iinc 4 1, 3, 0, 0), (50, .goto (-27), 3, 23, 0), (53, .aload_n 0, 1, 0, 0), (54, .dup, 1, 0, 0), (55, .getfield 375, 3, 11, 70), (58, .iconst 1, 1, 0, 0), (59, .iadd, 1, 0, 0), (60, .putfield 375, 3, 11, 70), (63, .iconst 0, 1, 0, 0), (64, .istore 5, 2, 0, 0), (66, .iconst 0, 1, 0, 0), (67, .istore 6, 2, 0, 0), (69, .iconst 0, 1, 0, 0), (70, .istore 7, 2, 0, 0), (72, .iload 4, 2, 0, 0), (74, .istore 8, 2, 0, 0), (76, .iload 8, 2, 0, 0), (78, .aload_n 0, 1, 0, 0), (79, .getfield 165, 3, 11, 7), (82, .if_icmp .ge 197, 3, 279, 0), (85, .iload 8, 2, 0, 0), (87, .iload 4, 2, 0, 0), (89, .if_icmp .eq 14, 3, 103, 0), (92, .aload_n 0, 1, 0, 0), (93, .getfield 37, 3, 11, 17), (96, .iload 8, 2, 0, 0), (98, .iaload, 1, 0, 0), (99, .iload_n 2, 1, 0, 0), (100, .if_icmp .lt 179, 3, 279, 0), (103, .aload_n 0, 1, 0, 0), (104, .iload 8, 2, 0, 0), (106, .invokevirtual 217, 3, 175, 1), (109, .istore 9, 2, 0, 0), (111, .aload_n 0, 1, 0, 0), (112, .aload_n 0, 1, 0, 0), (113, .getfield 31, 3, 11, 15), (116, .iload 8, 2, 0, 0), (118, .iaload, 1, 0, 0), (119, .invokevirtual 226, 3, 170, 1), (122, .iload_n 2, 1, 0, 0), (123, .if_icmp .le 20, 3, 143, 0), (126, .aload_n 0, 1, 0, 0), (127, .getfield 19, 3, 11, 11), (130, .aload_n 0, 1, 0, 0), (131, .getfield 31, 3, 11, 15), (134, .iload 8, 2, 0, 0), (136, .iaload, 1, 0, 0), (137, .iload_n 2, 1, 0, 0), (138, .iadd, 1, 0, 0), (139, .iaload, 1, 0, 0), (140, .goto 5, 3, 145, 0), (143, .bipush (-2), 2, 0, 0), (145, .istore 10, 2, 0, 0), (147, .iload 9, 2, 0, 0), (149, .bipush (-2), 2, 0, 0), (151, .if_icmp .eq 31, 3, 182, 0), (154, .aload_n 0, 1, 0, 0), (155, .getfield 143, 3, 11, 68), (158, .iload 9, 2, 0, 0), (160, .iaload, 1, 0, 0), (161, .aload_n 0, 1, 0, 0), (162, .getfield 375, 3, 11, 70), (165, .if_icmp .eq 17, 3, 182, 0), (168, .aload_n 0, 1, 0, 0), (169, .getfield 143, 3, 11, 68), (172, .iload 9, 2, 0, 0), (174, .aload_n 0, 1, 0, 0), (175, .getfield 375, 3, 11, 70), (178, .iastore, 1, 0, 0), (179, .iinc 5 1, 3, 0, 0), (182, .iload 10, 2, 0, 0), (184, .bipush (-2), 2, 0, 0), (186, .if_icmp .eq 31, 3, 217, 0), (189, .aload_n 0, 1, 0, 0), (190, .getfield 146, 3, 11, 69), (193, .iload 10, 2, 0, 0), (195, .iaload, 1, 0, 0), (196, .aload_n 0, 1, 0, 0), (197, .getfield 375, 3, 11, 70), (200, .if_icmp .eq 17, 3, 217, 0), (203, .aload_n 0, 1, 0, 0), (204, .getfield 146, 3, 11, 69), (207, .iload 10, 2, 0, 0), (209, .aload_n 0, 1, 0, 0), (210, .getfield 375, 3, 11, 70), (213, .iastore, 1, 0, 0), (214, .iinc 6 1, 3, 0, 0), (217, .iload 9, 2, 0, 0), (219, .bipush (-2), 2, 0, 0), (221, .if_icmp .eq 52, 3, 273, 0), (224, .iload 10, 2, 0, 0), (226, .bipush (-2), 2, 0, 0), (228, .if_icmp .eq 45, 3, 273, 0), (231, .aload_n 0, 1, 0, 0), (232, .getfield 140, 3, 11, 67), (235, .sipush 256, 3, 0, 0), (238, .iload 9, 2, 0, 0), (240, .imul, 1, 0, 0), (241, .iload 10, 2, 0, 0), (243, .iadd, 1, 0, 0), (244, .iaload, 1, 0, 0), (245, .aload_n 0, 1, 0, 0), (246, .getfield 375, 3, 11, 70), (249, .if_icmp .eq 24, 3, 273, 0), (252, .aload_n 0, 1, 0, 0), (253, .getfield 140, 3, 11, 67), (256, .sipush 256, 3, 0, 0), (259, .iload 9, 2, 0, 0), (261, .imul, 1, 0, 0), (262, .iload 10, 2, 0, 0), (264, .iadd, 1, 0, 0), (265, .aload_n 0, 1, 0, 0), (266, .getfield 375, 3, 11, 70), (269, .iastore, 1, 0, 0), (270, .iinc 7 1, 3, 0, 0), (273, .iinc 8 1, 3, 0, 0), (276, .goto (-200), 3, 76, 0), (279, .iload_n 3, 1, 0, 0), (280, .iload 5, 2, 0, 0), (282, .iload 6, 2, 0, 0), (284, .imul, 1, 0, 0), (285, .iload 7, 2, 0, 0), (287, .isub, 1, 0, 0), (288, .iadd, 1, 0, 0), (289, .istore_n 3, 1, 0, 0), (290, .iload 8, 2, 0, 0), (292, .istore 4, 2, 0, 0), (294, .goto (-271), 3, 23, 0), (297, .iload_n 3, 1, 0, 0), (298, .ireturn, 1, 0, 0)]
def mX11_absent : ab_M := (yX11_absent, 11, cX11_absent, 11, (some .int), kX11_absent)
def kX11_findFactors : List ab_I := [(0, .aload_n 0, 1, 0, 0), (1, .iconst 1, 1, 0, 0), (2, .putfield 207, 3, 11, 1071), (5, .iconst 0, 1, 0, 0), (6, .istore_n 1, 1, 0, 0), (7, .iload_n 1, 1, 0, 0), (8, .aload_n 0, 1, 0, 0), (9, .getfield 165, 3, 11, 7), (12, .if_icmp .ge 323, 3, 335, 0), (15, .iconst 0, 1, 0, 0), (16, .istore_n 2, 1, 0, 0), (17, .sipush 3000, 3, 0, 0), (20, .istore_n 3, 1, 0, 0), (21, .aload_n 0, 1, 0, 0), (22, .getfield 34, 3, 11, 16), (25, .iload_n 1, 1, 0, 0), (26, .iaload, 1, 0, 0), (27, .istore 4, 2, 0, 0), (29, .iload 4, 2, 0, 0), (31, .ifCond .le 66, 3, 97, 0), (34, .aload_n 0, 1, 0, 0), (35, .getfield 37, 3, 11, 17), (38, .iload 4, 2, 0, 0), (40, .iaload, 1, 0, 0), (41, .ifCond .le 56, 3, 97, 0), (44, .aload_n 0, 1, 0, 0), (45, .getfield 37, 3, 11, 17), (48, .iload 4, 2, 0, 0), (50, .iaload, 1, 0, 0), (51, .iload_n 3, 1, 0, 0), (52, .if_icmp .ge 13, 3, 65, 0), (55, .aload_n 0, 1, 0, 0), (56, .getfield 37, 3, 11, 17), (59, .iload 4, 2, 0, 0), (61, .iaload, 1, 0, 0), (62, .goto 4, 3, 66, 0), (65, .iload_n 3, 1, 0, 0), (66, .istore_n 3, 1, 0, 0), (67, .aload_n 0, 1, 0, 0), (68, .getfield 31, 3, 11, 15), (71, .iload 4, 2, 0, 0), (73, .iconst 1, 1, 0, 0), (74, .isub, 1, 0, 0), (75, .iaload, 1, 0, 0), (76, .iload_n 1, 1, 0, 0), (77, .if_icmp .ge 12, 3, 89, 0), (80, .iload_n 3, 1, 0, 0), (81, .iload_n 2, 1, 0, 0), (82, .if_icmp .le 7, 3, 89, 0), (85, .iload_n 3, 1, 0, 0), (86, .goto 4, 3, 90, 0), (89, .iload_n 2, 1, 0, 0), (90, .istore_n 2, 1, 0, 0), (91, .iinc 4 (-1), 3, 0, 0), (94, .goto (-65), 3, 29, 0), (97, .sipush 3000, 3, 0, 0), (100, .istore_n 3, 1, 0, 0), (101, .aload_n 0, 1, 0, 0), (102, .getfield 34, 3, 11, 16), (105, .iload_n 1, 1, 0, 0), (106, .iaload, 1, 0, 0), (107, .iconst 1, 1, 0, 0), (108, .iadd, 1, 0, 0), (109, .istore 4, 2, 0, 0), (111, .iload 4, 2, 0, 0), (113, .aload_n 0, 1, 0, 0), (114, .getfield 165, 3, 11, 7), (117, .if_icmp .ge 64, 3, 181, 0), (120, .aload_n 0, 1, 0, 0), (121, .getfield 37, 3, 11, 17), (124, .iload 4, 2, 0, 0), (126, .iaload, 1, 0, 0), (127, .ifCond .le 54, 3, 181, 0), (130, .aload_n 0, 1, 0, 0), (131, .getfield 37, 3, 11, 17), (134, .iload 4, 2, 0, 0), (136, .iaload, 1, 0, 0), (137, .iload_n 3, 1, 0, 0), (138, .if_icmp .ge 13, 3, 151, 0), (141, .aload_n 0, 1, 0, 0), (142, .getfield 37, 3, 11, 17), (145, .iload 4, 2, 0, 0), (147, .iaload, 1, 0, 0), (148, .goto 4, 3, 152, 0), (151, .iload_n 3, 1, 0, 0), (152, .istore_n 3, 1, 0, 0), (153, .aload_n 0, 1, 0, 0), (154, .getfield 31, 3, 11, 15), (157, .iload 4, 2, 0, 0), (159, .iaload, 1, 0, 0), (160, .iload_n 1, 1, 0, 0), (161, .if_icmp .ge 12, 3, 173, 0), (164, .iload_n 3, 1, 0, 0), (165, .iload_n 2, 1, 0, 0), (166, .if_icmp .le 7, 3, 173, 0), (169, .iload_n 3, 1, 0, 0), (170, .goto 4, 3, 174, 0), (173, .iload_n 2, 1, 0, 0), (174, .istore_n 2, 1, 0, 0), (175, .iinc 4 1, 3, 0, 0), (178, .goto (-67), 3, 111, 0), (181, .iload_n 1, 1, 0, 0), (182, .istore 4, 2, 0, 0), (184, .aload_n 0, 1, 0, 0), (185, .getfield 34, 3, 11, 16), (188, .iload_n 1, 1, 0, 0), (189, .iaload, 1, 0, 0), (190, .istore 5, 2, 0, 0), (192, .iload_n 2, 1, 0, 0), (193, .ifCond .le 55, 3, 248, 0), (196, .iload 5, 2, 0, 0), (198, .ifCond .le 50, 3, 248, 0), (201, .aload_n 0, 1, 0, 0), (202, .getfield 37, 3, 11, 17), (205, .iload 5, 2, 0, 0), (207, .iaload, 1, 0, 0), (208, .iload_n 2, 1, 0, 0), (209, .if_icmp .lt 39, 3, 248, 0), (212, .aload_n 0, 1, 0, 0), (213, .getfield 31, 3, 11, 15), (216, .iload 5, 2, 0, 0), (218, .iconst 1, 1, 0, 0), (219, .isub, 1, 0, 0), (220, .iaload, 1, 0, 0), (221, .iload 4, 2, 0, 0), (223, .if_icmp .ge 15, 3, 238, 0), (226, .aload_n 0, 1, 0, 0), (227, .getfield 31, 3, 11, 15), (230, .iload 5, 2, 0, 0), (232, .iconst 1, 1, 0, 0), (233, .isub, 1, 0, 0), (234, .iaload, 1, 0, 0), (235, .goto 5, 3, 240, 0), (238, .iload 4, 2, 0, 0), (240, .istore 4, 2, 0, 0), (242, .iinc 5 (-1), 3, 0, 0), (245, .goto (-53), 3, 192, 0), (248, .aload_n 0, 1, 0, 0), (249, .getfield 34, 3, 11, 16), (252, .iload_n 1, 1, 0, 0), (253, .iaload, 1, 0, 0), (254, .iconst 1, 1, 0, 0), (255, .iadd, 1, 0, 0), (256, .istore 5, 2, 0, 0), (258, .iload_n 2, 1, 0, 0), (259, .ifCond .le 55, 3, 314, 0), (262, .iload 5, 2, 0, 0), (264, .aload_n 0, 1, 0, 0), (265, .getfield 165, 3, 11, 7), (268, .if_icmp .ge 46, 3, 314, 0), (271, .aload_n 0, 1, 0, 0), (272, .getfield 37, 3, 11, 17), (275, .iload 5, 2, 0, 0), (277, .iaload, 1, 0, 0), (278, .iload_n 2, 1, 0, 0), (279, .if_icmp .lt 35, 3, 314, 0), (282, .aload_n 0, 1, 0, 0), (283, .getfield 31, 3, 11, 15), (286, .iload 5, 2, 0, 0), (288, .iaload, 1, 0, 0), (289, .iload 4, 2, 0, 0), (291, .if_icmp .ge 13, 3, 304, 0), (294, .aload_n 0, 1, 0, 0), (295, .getfield 31, 3, 11, 15), (298, .iload 5, 2, 0, 0), (300, .iaload, 1, 0, 0), (301, .goto 5, 3, 306, 0), (304, .iload 4, 2, 0, 0), (306, .istore 4, 2, 0, 0), (308, .iinc 5 1, 3, 0, 0), (311, .goto (-53), 3, 258, 0), (314, .aload_n 0, 1, 0, 0), (315, .getfield 149, 3, 11, 72), (318, .iload_n 1, 1, 0, 0), (319, .iload_n 2, 1, 0, 0), (320, .iastore, 1, 0, 0), (321, .aload_n 0, 1, 0, 0), (322, .getfield 152, 3, 11, 73), (325, .iload_n 1, 1, 0, 0), (326, .iload 4, 2, 0, 0), (328, .iastore, 1, 0, 0), (329, .iinc 1 1, 3, 0, 0), (332, .goto (-325), 3, 7, 0), (335, .return_, 1, 0, 0)]
def mX11_findFactors : ab_M := (yX11_findFactors, 11, cX11_findFactors, 6, none, kX11_findFactors)
def kX11_factor : List ab_I := [(0, .aload_n 0, 1, 0, 0), (1, .iload_n 1, 1, 0, 0), (2, .invokevirtual 223, 3, 168, 1), (5, .ifCond .eq 21, 3, 26, 0), (8, .iload_n 2, 1, 0, 0), (9, .iconst (-1), 1, 0, 0), (10, .if_icmp .lt 16, 3, 26, 0), (13, .iload_n 2, 1, 0, 0), (14, .ifCond .lt 14, 3, 28, 0), (17, .iload_n 3, 1, 0, 0), (18, .ifCond .lt 8, 3, 26, 0), (21, .iload_n 3, 1, 0, 0), (22, .iconst 2, 1, 0, 0), (23, .if_icmp .le 5, 3, 28, 0), (26, .iconst (-1), 1, 0, 0), (27, .ireturn, 1, 0, 0), (28, .aload_n 0, 1, 0, 0), (29, .getfield 207, 3, 11, 71), (32, .ifCond .ne 7, 3, 39, 0), (35, .aload_n 0, 1, 0, 0), (36, .invokevirtual 378, 3, 239, 0), (39, .iconst 0, 1, 0, 0), (40, .istore 4, 2, 0, 0), (42, .aload_n 0, 1, 0, 0), (43, .getfield 25, 3, 11, 13), (46, .iload_n 1, 1, 0, 0), (47, .iaload, 1, 0, 0), (48, .aload_n 0, 1, 0, 0), (49, .getfield 28, 3, 11, 14), (52, .iload_n 1, 1, 0, 0), (53, .iaload, 1, 0, 0), (54, .iadd, 1, 0, 0), (55, .istore 5, 2, 0, 0), (57, .aload_n 0, 1, 0, 0), (58, .getfield 25, 3, 11, 13), (61, .iload_n 1, 1, 0, 0), (62, .iaload, 1, 0, 0), (63, .istore 6, 2, 0, 0), (65, .iload 6, 2, 0, 0), (67, .iload 5, 2, 0, 0), (69, .if_icmp .ge 87, 3, 156, 0), (72, .aload_n 0, 1, 0, 0), (73, .getfield 149, 3, 11, 72), (76, .iload 6, 2, 0, 0), (78, .iaload, 1, 0, 0), (79, .ifCond .ne 7, 3, 86, 0), (82, .iconst 1, 1, 0, 0), (83, .goto 10, 3, 93, 0), (86, .aload_n 0, 1, 0, 0), (87, .getfield 149, 3, 11, 72), (90, .iload 6, 2, 0, 0), (92, .iaload, 1, 0, 0), (93, .istore 7, 2, 0, 0), (95, .iload 4, 2, 0, 0), (97, .iload_n 2, 1, 0, 0), (98, .if_icmp .ne 45, 3, 143, 0), (101, .iload_n 3, 1, 0, 0), (102, .ifCond .ne 8, 3, 110, 0), (105, .iload 6, 2, 0, 0), (107, .goto 35, 3, 142, 0), (110, .iload_n 3, 1, 0, 0), (111, .iconst 1, 1, 0, 0), (112, .if_icmp .ne 8, 3, 120, 0), (115, .iload 7, 2, 0, 0), (117, .goto 25, 3, 142, 0), (120, .aload_n 0, 1, 0, 0), (121, .getfield 149, 3, 11, 72), (124, .iload 6, 2, 0, 0), (126, .iaload, 1, 0, 0), (127, .ifCond .ne 8, 3, 135, 0), (130, .bipush (-2), 2, 0, 0), (132, .goto 10, 3, 142, 0), (135, .aload_n 0, 1, 0, 0), (136, .getfield 152, 3, 11, 73), (139, .iload 6, 2, 0, 0), (141, .iaload, 1, 0, 0), (142, .ireturn, 1, 0, 0), (143, .iinc 4 1, 3, 0, 0), (146, .iload 6, 2, 0, 0), (148, .iload 7, 2, 0, 0), (150, .iadd, 1, 0, 0), (151, .istore 6, 2, 0, 0), (153, .goto (-88), 3, 65, 0), (156, .iload_n 2, 1, 0, 0), (157, .iconst (-1), 1, 0, 0), (158, .if_icmp .ne 8, 3, 166, 0), (161, .iload 4, 2, 0, 0), (163, .goto 4, 3, 167, 0), (166, .iconst (-1), 1, 0, 0), (167, .ireturn, 1, 0, 0)]
def mX11_factor : ab_M := (yX11_factor, 11, cX11_factor, 8, (some .int), kX11_factor)
def kX11_word : List ab_I := [(0, .aload_n 0, 1, 0, 0), (1, .iload_n 1, 1, 0, 0), (2, .invokevirtual 223, 3, 168, 1), (5, .ifCond .eq 8, 3, 13, 0), (8, .iload_n 2, 1, 0, 0), (9, .iconst (-1), 1, 0, 0), (10, .if_icmp .ge 5, 3, 15, 0), (13, .iconst (-1), 1, 0, 0), (14, .ireturn, 1, 0, 0), (15, .aload_n 0, 1, 0, 0), (16, .getfield 25, 3, 11, 13), (19, .iload_n 1, 1, 0, 0), (20, .iaload, 1, 0, 0), (21, .aload_n 0, 1, 0, 0), (22, .getfield 28, 3, 11, 14), (25, .iload_n 1, 1, 0, 0), (26, .iaload, 1, 0, 0), (27, .iadd, 1, 0, 0), (28, .istore_n 3, 1, 0, 0), (29, .iconst 0, 1, 0, 0), (30, .istore 4, 2, 0, 0), (32, .aload_n 0, 1, 0, 0), (33, .getfield 25, 3, 11, 13), (36, .iload_n 1, 1, 0, 0), (37, .iaload, 1, 0, 0), (38, .istore 5, 2, 0, 0), (40, .iload 5, 2, 0, 0), (42, .iload_n 3, 1, 0, 0), (43, .if_icmp .ge 105, 3, 148, 0), (46, .iload 5, 2, 0, 0), (48, .iconst 1, 1, 0, 0), (49, .iadd, 1, 0, 0), (50, .istore 6, 2, 0, 0), (52, .iload 5, 2, 0, 0), (54, .istore 7, 2, 0, 0), (56, .iload 6, 2, 0, 0), (58, .iload_n 3, 1, 0, 0), (59, .if_icmp .ge 54, 3, 113, 0), (62, .aload_n 0, 1, 0, 0), (63, .getfield 19, 3, 11, 11), (66, .iload 7, 2, 0, 0), (68, .iaload, 1, 0, 0), (69, .aload_n 0, 1, 0, 0), (70, .getfield 19, 3, 11, 11), (73, .iload 6, 2, 0, 0), (75, .iaload, 1, 0, 0), (76, .if_icmp .gt 37, 3, 113, 0), (79, .aload_n 0, 1, 0, 0), (80, .getfield 19, 3, 11, 11), (83, .iload 7, 2, 0, 0), (85, .iaload, 1, 0, 0), (86, .aload_n 0, 1, 0, 0), (87, .getfield 19, 3, 11, 11), (90, .iload 6, 2, 0, 0), (92, .iaload, 1, 0, 0), (93, .if_icmp .ge 8, 3, 101, 0), (96, .iload 5, 2, 0, 0), (98, .goto 7, 3, 105, 0), (101, .iload 7, 2, 0, 0), (103, .iconst 1, 1, 0, 0), (104, .iadd, 1, 0, 0), (105, .istore 7, 2, 0, 0), (107, .iinc 6 1, 3, 0, 0), (110, .goto (-54), 3, 56, 0), (113, .iload 5, 2, 0, 0), (115, .iload 7, 2, 0, 0), (117, .if_icmp .gt 28, 3, 145, 0), (120, .iload 4, 2, 0, 0), (122, .iload_n 2, 1, 0, 0), (123, .if_icmp .ne 6, 3, 129, 0), (126, .iload 5, 2, 0, 0), (128, .ireturn, 1, 0, 0), (129, .iinc 4 1, 3, 0, 0), (132, .iload 5, 2, 0, 0), (134, .iload 6, 2, 0, 0), (136, .iload 7, 2, 0, 0), (138, .isub, 1, 0, 0), (139, .iadd, 1, 0, 0), (140, .istore 5, 2, 0, 0), (142, .goto (-29), 3, 113, 0), (145, .goto (-105), 3, 40, 0), (148, .iload_n 2, 1, 0, 0), (149, .iconst (-1), 1, 0, 0), (150, .if_icmp .ne 8, 3, 158, 0), (153, .iload 4, 2, 0, 0), (155, .goto 4, 3, 159, 0), (158, .iconst (-1), 1, 0, 0), (159, .ireturn, 1, 0, 0)]
def mX11_word : ab_M := (yX11_word, 11, cX11_word, 8, (some .int), kX11_word)
def kX11_square : List ab_I := [(0, .aload_n 0, 1, 0, 0), (1, .iload_n 1, 1, 0, 0), (2, .invokevirtual 210, 3, 167, 1), (5, .ifCond .ne 5, 3, 10, 0), (8, .iconst (-1), 1, 0, 0), (9, .ireturn, 1, 0, 0), (10, .iconst 1, 1, 0, 0), (11, .istore_n 2, 1, 0, 0), (12, .iconst 2, 1, 0, 0), (13, .iload_n 2, 1, 0, 0), (14, .imul, 1, 0, 0), (15, .aload_n 0, 1, 0, 0), (16, .iload_n 1, 1, 0, 0), (17, .invokevirtual 226, 3, 170, 1), (20, .if_icmp .gt 23, 3, 43, 0), (23, .aload_n 0, 1, 0, 0), (24, .iload_n 1, 1, 0, 0), (25, .iload_n 1, 1, 0, 0), (26, .iload_n 2, 1, 0, 0), (27, .iadd, 1, 0, 0), (28, .invokevirtual 229, 3, 182, 2), (31, .iload_n 2, 1, 0, 0), (32, .if_icmp .lt 5, 3, 37, 0), (35, .iload_n 2, 1, 0, 0), (36, .ireturn, 1, 0, 0), (37, .iinc 2 1, 3, 0, 0), (40, .goto (-28), 3, 12, 0), (43, .iconst 0, 1, 0, 0), (44, .ireturn, 1, 0, 0)]
def mX11_square : ab_M := (yX11_square, 11, cX11_square, 3, (some .int), kX11_square)
def kX11_mirror : List ab_I := [(0, .aload_n 0, 1, 0, 0), (1, .iload_n 1, 1, 0, 0), (2, .invokevirtual 210, 3, 167, 1), (5, .ifCond .ne 5, 3, 10, 0), (8, .iconst (-1), 1, 0, 0), (9, .ireturn, 1, 0, 0), (10, .aload_n 0, 1, 0, 0), (11, .iload_n 1, 1, 0, 0), (12, .invokevirtual 226, 3, 170, 1), (15, .istore_n 2, 1, 0, 0), (16, .iload_n 2, 1, 0, 0), (17, .ifCond .le 56, 3, 73, 0), (20, .iconst 0, 1, 0, 0), (21, .istore_n 3, 1, 0, 0), (22, .iconst 2, 1, 0, 0), (23, .iload_n 3, 1, 0, 0), (24, .imul, 1, 0, 0), (25, .iload_n 2, 1, 0, 0), (26, .if_icmp .ge 32, 3, 58, 0), (29, .aload_n 0, 1, 0, 0), (30, .getfield 19, 3, 11, 11), (33, .iload_n 1, 1, 0, 0), (34, .iload_n 3, 1, 0, 0), (35, .iadd, 1, 0, 0), (36, .iaload, 1, 0, 0), (37, .aload_n 0, 1, 0, 0), (38, .getfield 19, 3, 11, 11), (41, .iload_n 1, 1, 0, 0), (42, .iload_n 2, 1, 0, 0), (43, .iadd, 1, 0, 0), (44, .iconst 1, 1, 0, 0), (45, .isub, 1, 0, 0), (46, .iload_n 3, 1, 0, 0), (47, .isub, 1, 0, 0), (48, .iaload, 1, 0, 0), (49, .if_icmp .ne 9, 3, 58, 0), (52, .iinc 3 1, 3, 0, 0), (55, .goto (-33), 3, 22, 0), (58, .iconst 2, 1, 0, 0), (59, .iload_n 3, 1, 0, 0), (60, .imul, 1, 0, 0), (61, .iload_n 2, 1, 0, 0), (62, .if_icmp .lt 5, 3, 67, 0), (65, .iload_n 2, 1, 0, 0), (66, .ireturn, 1, 0, 0), (67, .iinc 2 (-1), 3, 0, 0), (70, .goto (-54), 3, 16, 0), (73, .iconst 0, 1, 0, 0), (74, .ireturn, 1, 0, 0)]
def mX11_mirror : ab_M := (yX11_mirror, 11, cX11_mirror, 4, (some .int), kX11_mirror)
def kX11_match : List ab_I := [(0, .aload_n 0, 1, 0, 0), (1, .iload_n 1, 1, 0, 0), (2, .invokevirtual 210, 3, 167, 1), (5, .ifCond .eq 11, 3, 16, 0), (8, .aload_n 0, 1, 0, 0), (9, .iload_n 2, 1, 0, 0), (10, .invokevirtual 223, 3, 168, 1), (13, .ifCond .ne 5, 3, 18, 0), (16, .iconst (-1), 1, 0, 0), (17, .ireturn, 1, 0, 0), (18, .iconst 0, 1, 0, 0), (19, .istore_n 3, 1, 0, 0), (20, .sipush 3000, 3, 0, 0), (23, .istore 4, 2, 0, 0), (25, .aload_n 0, 1, 0, 0), (26, .getfield 34, 3, 11, 16), (29, .iload_n 1, 1, 0, 0), (30, .iaload, 1, 0, 0), (31, .istore 5, 2, 0, 0), (33, .iload 5, 2, 0, 0), (35, .ifCond .le 76, 3, 111, 0), (38, .aload_n 0, 1, 0, 0), (39, .getfield 37, 3, 11, 17), (42, .iload 5, 2, 0, 0), (44, .iaload, 1, 0, 0), (45, .ifCond .le 66, 3, 111, 0), (48, .aload_n 0, 1, 0, 0), (49, .getfield 37, 3, 11, 17), (52, .iload 5, 2, 0, 0), (54, .iaload, 1, 0, 0), (55, .iload 4, 2, 0, 0), (57, .if_icmp .ge 13, 3, 70, 0), (60, .aload_n 0, 1, 0, 0), (61, .getfield 37, 3, 11, 17), (64, .iload 5, 2, 0, 0), (66, .iaload, 1, 0, 0), (67, .goto 5, 3, 72, 0), (70, .iload 4, 2, 0, 0), (72, .istore 4, 2, 0, 0), (74, .aload_n 0, 1, 0, 0), (75, .getfield 22, 3, 11, 12), (78, .aload_n 0, 1, 0, 0), (79, .getfield 31, 3, 11, 15), (82, .iload 5, 2, 0, 0), (84, .iconst 1, 1, 0, 0), (85, .isub, 1, 0, 0), (86, .iaload, 1, 0, 0), (87, .iaload, 1, 0, 0), (88, .iload_n 2, 1, 0, 0), (89, .if_icmp .ne 14, 3, 103, 0), (92, .iload 4, 2, 0, 0), (94, .iload_n 3, 1, 0, 0), (95, .if_icmp .le 8, 3, 103, 0), (98, .iload 4, 2, 0, 0), (100, .goto 4, 3, 104, 0), (103, .iload_n 3, 1, 0, 0), (104, .istore_n 3, 1, 0, 0), (105, .iinc 5 (-1), 3, 0, 0), (108, .goto (-75), 3, 33, 0), (111, .sipush 3000, 3, 0, 0), (114, .istore 4, 2, 0, 0), (116, .aload_n 0, 1, 0, 0), (117, .getfield 34, 3, 11, 16), (120, .iload_n 1, 1, 0, 0), (121, .iaload, 1, 0, 0), (122, .iconst 1, 1, 0, 0), (123, .iadd, 1, 0, 0), (124, .istore 5, 2, 0, 0), (126, .iload 5, 2, 0, 0), (128, .aload_n 0, 1, 0, 0), (129, .getfield 165, 3, 11, 7), (132, .if_icmp .ge 74, 3, 206, 0), (135, .aload_n 0, 1, 0, 0), (136, .getfield 37, 3, 11, 17), (139, .iload 5, 2, 0, 0), (141, .iaload, 1, 0, 0), (142, .ifCond .le 64, 3, 206, 0), (145, .aload_n 0, 1, 0, 0), (146, .getfield 37, 3, 11, 17), (149, .iload 5, 2, 0, 0), (151, .iaload, 1, 0, 0), (152, .iload 4, 2, 0, 0), (154, .if_icmp .ge 13, 3, 167, 0), (157, .aload_n 0, 1, 0, 0), (158, .getfield 37, 3, 11, 17), (161, .iload 5, 2, 0, 0), (163, .iaload, 1, 0, 0), (164, .goto 5, 3, 169, 0), (167, .iload 4, 2, 0, 0), (169, .istore 4, 2, 0, 0), (171, .aload_n 0, 1, 0, 0), (172, .getfield 22, 3, 11, 12), (175, .aload_n 0, 1, 0, 0), (176, .getfield 31, 3, 11, 15), (179, .iload 5, 2, 0, 0), (181, .iaload, 1, 0, 0), (182, .iaload, 1, 0, 0), (183, .iload_n 2, 1, 0, 0), (184, .if_icmp .ne 14, 3, 198, 0), (187, .iload 4, 2, 0, 0), (189, .iload_n 3, 1, 0, 0), (190, .if_icmp .le 8, 3, 198, 0), (193, .iload 4, 2, 0, 0), (195, .goto 4, 3, 199, 0), (198, .iload_n 3, 1, 0, 0), (199, .istore_n 3, 1, 0, 0), (200, .iinc 5 1, 3, 0, 0), (203, .goto (-77), 3, 126, 0), (206, .iload_n 3, 1, 0, 0), (207, .ireturn, 1, 0, 0)]
def mX11_match : ab_M := (yX11_match, 11, cX11_match, 6, (some .int), kX11_match)
def kX11_countRows : List ab_I := [(0, .iconst 0, 1, 0, 0), (1, .istore_n 2, 1, 0, 0), (2, .iconst 0, 1, 0, 0), (3, .istore_n 3, 1, 0, 0), (4, .iload_n 3, 1, 0, 0), (5, .aload_n 0, 1, 0, 0), (6, .getfield 165, 3, 11, 7), (9, .if_icmp .ge 93, 3, 102, 0), (12, .aload_n 0, 1, 0, 0), (13, .iload_n 3, 1, 0, 0), (14, .invokevirtual 217, 3, 175, 1), (17, .istore 4, 2, 0, 0), (19, .iload_n 1, 1, 0, 0), (20, .iconst 4, 1, 0, 0), (21, .if_icmp .ne 37, 3, 58, 0), (24, .iload_n 2, 1, 0, 0), (25, .iload_n 3, 1, 0, 0), (26, .ifCond .eq 22, 3, 48, 0), (29, .iload 4, 2, 0, 0), (31, .bipush (-2), 2, 0, 0), (33, .if_icmp .eq 15, 3, 48, 0), (36, .iload 4, 2, 0, 0), (38, .aload_n 0, 1, 0, 0), (39, .iload_n 3, 1, 0, 0), (40, .iconst 1, 1, 0, 0), (41, .isub, 1, 0, 0), (42, .invokevirtual 217, 3, 175, 1), (45, .if_icmp .eq 7, 3, 52, 0), (48, .iconst 1, 1, 0, 0), (49, .goto 4, 3, 53, 0), (52, .iconst 0, 1, 0, 0), (53, .iadd, 1, 0, 0), (54, .istore_n 2, 1, 0, 0), (55, .goto 41, 3, 96, 0), (58, .iload_n 1, 1, 0, 0), (59, .iconst 5, 1, 0, 0), (60, .if_icmp .ne 15, 3, 75, 0), (63, .iload_n 2, 1, 0, 0), (64, .aload_n 0, 1, 0, 0), (65, .getfield 37, 3, 11, 17), (68, .iload_n 3, 1, 0, 0), (69, .iaload, 1, 0, 0), (70, .iadd, 1, 0, 0), (71, .istore_n 2, 1, 0, 0), (72, .goto 24, 3, 96, 0), (75, .aload_n 0, 1, 0, 0), (76, .getfield 37, 3, 11, 17), (79, .iload_n 3, 1, 0, 0), (80, .iaload, 1, 0, 0), (81, .iload_n 2, 1, 0, 0), (82, .if_icmp .le 12, 3, 94, 0), (85, .aload_n 0, 1, 0, 0), (86, .getfield 37, 3, 11, 17), (89, .iload_n 3, 1, 0, 0), (90, .iaload, 1, 0, 0), (91, .goto 4, 3, 95, 0), (94, .iload_n 2, 1, 0, 0), (95, .istore_n 2, 1, 0, 0), (96, .iinc 3 1, 3, 0, 0), (99, .goto (-95), 3, 4, 0), (102, .iload_n 2, 1, 0, 0), (103, .ireturn, 1, 0, 0)]
def mX11_countRows : ab_M := (yX11_countRows, 11, cX11_countRows, 5, (some .int), kX11_countRows)
def kX11_countBytes : List ab_I := [(0, .iconst 0, 1, 0, 0), (1, .istore_n 1, 1, 0, 0), (2, .iconst 0, 1, 0, 0), (3, .istore_n 2, 1, 0, 0), (4, .iload_n 2, 1, 0, 0), (5, .sipush 256, 3, 0, 0), (8, .if_icmp .ge 62, 3, 70, 0), (11, .iconst 0, 1, 0, 0), (12, .istore_n 3, 1, 0, 0), (13, .iconst 0, 1, 0, 0), (14, .istore 4, 2, 0, 0), (16, .iload 4, 2, 0, 0), (18, .aload_n 0, 1, 0, 0), (19, .getfield 165, 3, 11, 7), (22, .if_icmp .ge 30, 3, 52, 0), (25, .iload_n 3, 1, 0, 0), (26, .ifCond .ne 26, 3, 52, 0), (29, .aload_n 0, 1, 0, 0), (30, .getfield 19, 3, 11, 11), (33, .iload 4, 2, 0, 0), (35, .iaload, 1, 0, 0), (36, .iload_n 2, 1, 0, 0), (37, .if_icmp .ne 7, 3, 44, 0), (40, .iconst 1, 1, 0, 0), (41, .goto 4, 3, 45, 0), (44, .iconst 0, 1, 0, 0), (45, .istore_n 3, 1, 0, 0), (46, .iinc 4 1, 3, 0, 0), (49, .goto (-33), 3, 16, 0), (52, .iload_n 1, 1, 0, 0), (53, .iload_n 3, 1, 0, 0), (54, .ifCond .eq 7, 3, 61, 0), (57, .iconst 1, 1, 0, 0), (58, .goto 4, 3, 62, 0), (61, .iconst 0, 1, 0, 0), (62, .iadd, 1, 0, 0), (63, .istore_n 1, 1, 0, 0), (64, .iinc 2 1, 3, 0, 0), (67, .goto (-63), 3, 4, 0), (70, .iload_n 1, 1, 0, 0), (71, .ireturn, 1, 0, 0)]
def mX11_countBytes : ab_M := (yX11_countBytes, 11, cX11_countBytes, 5, (some .int), kX11_countBytes)
def kX11_count : List ab_I := [(0, .iload_n 1, 1, 0, 0), (1, .bipush 8, 2, 0, 0), (3, .if_icmp .ne 8, 3, 11, 0), (6, .aload_n 0, 1, 0, 0), (7, .getfield 159, 3, 11, 3), (10, .ireturn, 1, 0, 0), (11, .iload_n 1, 1, 0, 0), (12, .bipush 9, 2, 0, 0), (14, .if_icmp .ne 8, 3, 22, 0), (17, .aload_n 0, 1, 0, 0), (18, .getfield 155, 3, 11, 5), (21, .ireturn, 1, 0, 0), (22, .iload_n 1, 1, 0, 0), (23, .bipush 10, 2, 0, 0), (25, .if_icmp .ne 8, 3, 33, 0), (28, .aload_n 0, 1, 0, 0), (29, .getfield 261, 3, 11, 31), (32, .ireturn, 1, 0, 0), (33, .aload_n 0, 1, 0, 0), (34, .getfield 176, 3, 11, 6), (37, .ifCond .eq 13, 3, 50, 0), (40, .iload_n 1, 1, 0, 0), (41, .ifCond .lt 9, 3, 50, 0), (44, .iload_n 1, 1, 0, 0), (45, .bipush 10, 2, 0, 0), (47, .if_icmp .le 5, 3, 52, 0), (50, .iconst (-1), 1, 0, 0), (51, .ireturn, 1, 0, 0), (52, .iload_n 1, 1, 0, 0), (53, .ifCond .ne 10, 3, 63, 0), (56, .aload_n 0, 1, 0, 0), (57, .getfield 165, 3, 11, 7), (60, .goto 57, 3, 117, 0), (63, .iload_n 1, 1, 0, 0), (64, .iconst 1, 1, 0, 0), (65, .if_icmp .ne 10, 3, 75, 0), (68, .aload_n 0, 1, 0, 0), (69, .getfield 183, 3, 11, 8), (72, .goto 45, 3, 117, 0), (75, .iload_n 1, 1, 0, 0), (76, .iconst 2, 1, 0, 0), (77, .if_icmp .ne 10, 3, 87, 0), (80, .aload_n 0, 1, 0, 0), (81, .getfield 180, 3, 11, 9), (84, .goto 33, 3, 117, 0), (87, .iload_n 1, 1, 0, 0), (88, .iconst 3, 1, 0, 0), (89, .if_icmp .ne 10, 3, 99, 0), (92, .aload_n 0, 1, 0, 0), (93, .getfield 204, 3, 11, 10), (96, .goto 21, 3, 117, 0), (99, .iload_n 1, 1, 0, 0), (100, .bipush 7, 2, 0, 0), (102, .if_icmp .ne 10, 3, 112, 0), (105, .aload_n 0, 1, 0, 0), (106, .invokevirtual 381, 3, 246, 0), (109, .goto 8, 3, 117, 0), (112, .aload_n 0, 1, 0, 0), (113, .iload_n 1, 1, 0, 0), (114, .invokevirtual 384, 3, 245, 1), (117, .ireturn, 1, 0, 0)]
def mX11_count : ab_M := (yX11_count, 11, cX11_count, 2, (some .int), kX11_count)
def kX11_unwound : List ab_I := [(0, .aload_n 0, 1, 0, 0), (1, .iload_n 1, 1, 0, 0), (2, .invokevirtual 223, 3, 168, 1), (5, .ifCond .eq 17, 3, 22, 0), (8, .iload_n 2, 1, 0, 0), (9, .ifCond .lt 13, 3, 22, 0), (12, .iload_n 2, 1, 0, 0), (13, .aload_n 0, 1, 0, 0), (14, .getfield 28, 3, 11, 14), (17, .iload_n 1, 1, 0, 0), (18, .iaload, 1, 0, 0), (19, .if_icmp .lt 7, 3, 26, 0), (22, .iconst (-1), 1, 0, 0), (23, .goto 25, 3, 48, 0), (26, .aload_n 0, 1, 0, 0), (27, .getfield 19, 3, 11, 11), (30, .aload_n 0, 1, 0, 0), (31, .getfield 25, 3, 11, 13), (34, .iload_n 1, 1, 0, 0), (35, .iaload, 1, 0, 0), (36, .aload_n 0, 1, 0, 0), (37, .getfield 28, 3, 11, 14), (40, .iload_n 1, 1, 0, 0), (41, .iaload, 1, 0, 0), (42, .iadd, 1, 0, 0), (43, .iconst 1, 1, 0, 0), (44, .isub, 1, 0, 0), (45, .iload_n 2, 1, 0, 0), (46, .isub, 1, 0, 0), (47, .iaload, 1, 0, 0), (48, .ireturn, 1, 0, 0)]
def mX11_unwound : ab_M := (yX11_unwound, 11, cX11_unwound, 3, (some .int), kX11_unwound)
def kJ7_rangeCheck_23922 : List ab_I := [(0, .iload_n 1, 1, 0, 0), (1, .iload_n 2, 1, 0, 0), (2, .if_icmp .le 44, 3, 46, 0), (5, .nop, 3, 0, 0), (8, .nop, 1, 0, 0), (9, .nop, 3, 0, 0), (12, .nop, 1, 0, 0), (13, .nop, 3, 0, 0), (16, .nop, 2, 0, 0), (18, .nop, 3, 0, 0), (21, .iload_n 1, 1, 0, 0), (22, .nop, 3, 0, 0), (25, .nop, 2, 0, 0), (27, .nop, 3, 0, 0), (30, .iload_n 2, 1, 0, 0), (31, .nop, 3, 0, 0), (34, .nop, 2, 0, 0), (36, .nop, 3, 0, 0), (39, .nop, 3, 0, 0), (42, .nop, 3, 0, 0), (45, .nop, 1, 0, 0), (46, .iload_n 1, 1, 0, 0), (47, .ifCond .ge 12, 3, 59, 0), (50, .nop, 3, 0, 0), (53, .nop, 1, 0, 0), (54, .iload_n 1, 1, 0, 0), (55, .nop, 3, 0, 0), (58, .nop, 1, 0, 0), (59, .iload_n 2, 1, 0, 0), (60, .iload_n 0, 1, 0, 0), (61, .if_icmp .le 12, 3, 73, 0), (64, .nop, 3, 0, 0), (67, .nop, 1, 0, 0), (68, .iload_n 2, 1, 0, 0), (69, .nop, 3, 0, 0), (72, .nop, 1, 0, 0), (73, .return_, 1, 0, 0)]
def mJ7_rangeCheck_23922 : ab_M := (yJ7_rangeCheck_23922, 0, cJ7_rangeCheck_23922, 3, none, kJ7_rangeCheck_23922)
def kJ7_fill_bad5a : List ab_I := [(0, .aload_n 0, 1, 0, 0), (1, .arraylength, 1, 2, 0), (2, .iload_n 1, 1, 0, 0), (3, .iload_n 2, 1, 0, 0), (4, .invokestatic 13, 3, 249, 3), (7, .iload_n 1, 1, 0, 0), (8, .istore 5, 2, 0, 0), (10, .iload 5, 2, 0, 0), (12, .iload_n 2, 1, 0, 0), (13, .if_icmp .ge 14, 3, 27, 0), (16, .aload_n 0, 1, 0, 0), (17, .iload 5, 2, 0, 0), (19, .lload_n 3, 1, 0, 0), (20, .lastore, 1, 0, 0), (21, .iinc 5 1, 3, 0, 0), (24, .goto (-14), 3, 10, 0), (27, .return_, 1, 0, 0)]
def mJ7_fill_bad5a : ab_M := (yJ7_fill_bad5a, 0, cJ7_fill_bad5a, 6, none, kJ7_fill_bad5a)
def kJ7_fill_53178 : List ab_I := [(0, .iconst 0, 1, 0, 0), (1, .istore_n 2, 1, 0, 0), (2, .aload_n 0, 1, 0, 0), (3, .arraylength, 1, 0, 0), (4, .istore_n 3, 1, 0, 0), (5, .iload_n 2, 1, 0, 0), (6, .iload_n 3, 1, 0, 0), (7, .if_icmp .ge 13, 3, 20, 0), (10, .aload_n 0, 1, 0, 0), (11, .iload_n 2, 1, 0, 0), (12, .iload_n 1, 1, 0, 0), (13, .iastore, 1, 0, 0), (14, .iinc 2 1, 3, 0, 0), (17, .goto (-12), 3, 5, 0), (20, .return_, 1, 0, 0)]
def mJ7_fill_53178 : ab_M := (yJ7_fill_53178, 0, cJ7_fill_53178, 4, none, kJ7_fill_53178)
def kJ7_fill_fda19 : List ab_I := [(0, .aload_n 0, 1, 0, 0), (1, .arraylength, 1, 0, 0), (2, .iload_n 1, 1, 0, 0), (3, .iload_n 2, 1, 0, 0), (4, .invokestatic 13, 3, 249, 3), (7, .iload_n 1, 1, 0, 0), (8, .istore 4, 2, 0, 0), (10, .iload 4, 2, 0, 0), (12, .iload_n 2, 1, 0, 0), (13, .if_icmp .ge 14, 3, 27, 0), (16, .aload_n 0, 1, 0, 0), (17, .iload 4, 2, 0, 0), (19, .iload_n 3, 1, 0, 0), (20, .iastore, 1, 0, 0), (21, .iinc 4 1, 3, 0, 0), (24, .goto (-14), 3, 10, 0), (27, .return_, 1, 0, 0)]
def mJ7_fill_fda19 : ab_M := (yJ7_fill_fda19, 0, cJ7_fill_fda19, 5, none, kJ7_fill_fda19)
def prg : List ab_M := [mX0_addFour, mX0_keepOfLast, mX0_endDocument, mX0_dropAll, mX1_become, mX1_stand, mX1_rows, mX1_beside, mX1_extend, mX1_undo, mX1_placeInOrder, mX1_neighbour, mX1_placesIn, mX1_countByDocument, mX1_documentInOrder, mX1_documentsAheadOf, mX2_learn, mX2_learnAlikes, mX2_learnFronts, mX2_alikeBehind, mX2_alikeFrom, mX2_has, mX2_hasDocument, mX2_endOf, mX2_bytesFrom, mX2_byteOf, mX2_tell, mX2_rowInFront, mX2_frontsUpTo, mX2_rowOfFront, mX2_sumOfAlikes, mX2_greatestAlike, mX3_forget, mX3_found, mX3_tellFound, mX3_answerQuery, mX3_goUp, mX3_goDown, mX3_goDownLeft, mX3_goDownTo, mX4_find, mX4_differAt, mX5_learn, mX5_learnEarlier, mX5_mirrored, mX5_learnReaches, mX5_learnGapReaches, mX5_factors, mX5_tellFactor, mX5_leastEarlier, mX5_fallingWord, mX5_periodOfWords, mX5_endOfWords, mX5_leastTwice, mX5_nearer, mX5_longestMirror, mX5_longestIn, mX6_add, mX6_read, mX6_comes, mX6_goesOn, mX6_bounded, mX6_readSum, mX6_readItem, mX6_copies, mX6_readAtom, mX6_readPlain, mX6_readBrackets, mX6_readSign, mX6_readByte, mX6_readRanges, mX6_readRange, mX6_readRangeByte, mX6_addBytes, mX6_mayBe, mX6_readRepeat, mX6_repeat, mX6_readNumbers, mX6_readNumber, mX6_figureComes, mX7_learn, mX7_lengthOf, mX7_newOf, mX7_howManyOf, mX7_holdInOrder, mX7_lesserThanHeld, mX7_holdLongest, mX7_firstRun, mX7_holdOftenest, mX7_leastAlone, mX7_holdMaximal, mX7_maximalFrom, mX7_maximalLength, mX7_howManyAbsent, mX8_arrange, mX8_sortByHalves, mX8_sortByRank, mX8_rankAnew, mX8_rankAt, mX9_grown, mX9_comes, mX9_growSum, mX9_growRow, mX9_growItem, mX9_growAtom, mX9_joined, mX9_choice, mX9_node, mX10_feed, mX10_end, mX10_cut, mX10_clear, mX10_build, mX10_place, mX10_row, mX10_shared, mX10_before, mX10_step, mX10_rank, mX10_select, mX10_byteAt, mX10_document, mX10_alike, mX10_begin, mX10_grow, mX10_front, mX10_back, mX10_pattern, mX10_patternByte, mX10_at, mX10_sorted, mX10_more, mX10_ranked, mX10_times, mX10_take, mX10_near, mX10_nearOf, mX10_ask, mX10_answer, mX10_answered, mX10_different, mX10_kth, mX10_order, mX10_repeated, mX10_common, mX10_oftenest, mX10_unique, mX10_maximal, mX10_absent, mX10_factor, mX10_word, mX10_square, mX10_mirror, mX10_match, mX10_count, mX10_unwound, mX10_countOfIndex, mX10_isByte, mX11_feed, mX11_end, mX11_cut, mX11_clear, mX11_keyAt, mX11_sortBy, mX11_sortAll, mX11_findShares, mX11_build, mX11_isRow, mX11_isDocument, mX11_isByte, mX11_left, mX11_stepsOf, mX11_place, mX11_row, mX11_shared, mX11_beforeOf, mX11_before, mX11_step, mX11_rank, mX11_select, mX11_byteAt, mX11_document, mX11_alikeOf, mX11_alike, mX11_toEmpty, mX11_begin, mX11_findRows, mX11_become, mX11_grow, mX11_front, mX11_back, mX11_pattern, mX11_patternByte, mX11_at, mX11_isAt, mX11_sorted, mX11_more, mX11_timesOf, mX11_ranked, mX11_times, mX11_take, mX11_near, mX11_nearOf, mX11_ask, mX11_sign, mX11_fail, mX11_isFigure, mX11_number, mX11_braces, mX11_rangeByte, mX11_ranges, mX11_openOne, mX11_addMade, mX11_endRow, mX11_begunAtom, mX11_endItem, mX11_again, mX11_repeat, mX11_goOver, mX11_quantify, mX11_atom, mX11_follow, mX11_findPositions, mX11_fits, mX11_matchFrom, mX11_answer, mX11_answered, mX11_freshOf, mX11_different, mX11_kth, mX11_order, mX11_becomeBest, mX11_repeated, mX11_common, mX11_oftenest, mX11_unique, mX11_isOneBefore, mX11_maximal, mX11_absent, mX11_findFactors, mX11_factor, mX11_word, mX11_square, mX11_mirror, mX11_match, mX11_countRows, mX11_countBytes, mX11_count, mX11_unwound, mJ7_rangeCheck_23922, mJ7_fill_bad5a, mJ7_fill_53178, mJ7_fill_fda19]
end
section
/-! ===== the tables' words for every method, by program ===== -/
def uw : List Cond := lw_tbl.filter goodWord
theorem uw_mem (i : Nat) {w : Cond} (h : lw_tbl[i]? = some w) (g : goodWord w = true) : w ∈ uw := List.mem_filter.mpr ⟨List.mem_of_getElem? h, g⟩
theorem uw_of {w : Cond} (h : w ∈ tables_1) (g : goodWord w = true) : w ∈ uw := List.mem_filter.mpr ⟨List.mem_append_right _ h, g⟩
theorem uw_m1 (i : Nat) {w : Cond} (h : tables_1_1[i]? = some w) (g : goodWord w = true) : w ∈ uw := uw_of (List.mem_append_left _ (List.mem_of_getElem? h)) g
theorem uw_m2 (i : Nat) {w : Cond} (h : tables_1_2[i]? = some w) (g : goodWord w = true) : w ∈ uw := uw_of (List.mem_append_right _ (List.mem_append_left _ (List.mem_of_getElem? h))) g
theorem uw_m3 (i : Nat) {w : Cond} (h : tables_1_3[i]? = some w) (g : goodWord w = true) : w ∈ uw := uw_of (List.mem_append_right _ (List.mem_append_right _ (List.mem_append_left _ (List.mem_of_getElem? h)))) g
theorem uw_m4 (i : Nat) {w : Cond} (h : tables_1_4[i]? = some w) (g : goodWord w = true) : w ∈ uw := uw_of (List.mem_append_right _ (List.mem_append_right _ (List.mem_append_right _ (List.mem_append_left _ (List.mem_of_getElem? h))))) g
theorem uw_m5 (i : Nat) {w : Cond} (h : tables_1_5[i]? = some w) (g : goodWord w = true) : w ∈ uw := uw_of (List.mem_append_right _ (List.mem_append_right _ (List.mem_append_right _ (List.mem_append_right _ (List.mem_append_left _ (List.mem_of_getElem? h)))))) g
theorem uw_m6 (i : Nat) {w : Cond} (h : tables_1_6[i]? = some w) (g : goodWord w = true) : w ∈ uw := uw_of (List.mem_append_right _ (List.mem_append_right _ (List.mem_append_right _ (List.mem_append_right _ (List.mem_append_right _ (List.mem_append_left _ (List.mem_of_getElem? h))))))) g
theorem uw_m7 (i : Nat) {w : Cond} (h : tables_1_7[i]? = some w) (g : goodWord w = true) : w ∈ uw := uw_of (List.mem_append_right _ (List.mem_append_right _ (List.mem_append_right _ (List.mem_append_right _ (List.mem_append_right _ (List.mem_append_right _ ((List.mem_of_getElem? h)))))))) g
theorem uw_good : ∀ w ∈ uw, (w.onTables && w.keeps) = true ∨ ∃ ty, w = Cond.arrayClass ty := fun w hw => good_of_word (List.mem_filter.mp hw).2
set_option maxRecDepth 20000 in
theorem uc_X0_addFour : ab_mk uw mX0_addFour := ⟨(uw_m2 174 rfl rfl), (uw_m1 2 rfl rfl), by decide +kernel, by decide +kernel, by decide +kernel, by decide⟩
set_option maxRecDepth 20000 in
theorem uc_X0_keepOfLast : ab_mk uw mX0_keepOfLast := ⟨(uw_m2 182 rfl rfl), (uw_m1 2 rfl rfl), by decide +kernel, by decide +kernel, by decide +kernel, by decide⟩
set_option maxRecDepth 20000 in
theorem uc_X0_endDocument : ab_mk uw mX0_endDocument := ⟨(uw_m2 190 rfl rfl), (uw_m1 2 rfl rfl), by decide +kernel, by decide +kernel, by decide +kernel, by decide⟩
set_option maxRecDepth 20000 in
theorem uc_X0_dropAll : ab_mk uw mX0_dropAll := ⟨(uw_m2 201 rfl rfl), (uw_m1 2 rfl rfl), by decide +kernel, by decide +kernel, by decide +kernel, by decide⟩
set_option maxRecDepth 20000 in
theorem uc_X1_become : ab_mk uw mX1_become := ⟨(uw_m3 49 rfl rfl), (uw_m1 5 rfl rfl), by decide +kernel, by decide +kernel, by decide +kernel, by decide⟩
set_option maxRecDepth 20000 in
theorem uc_X1_stand : ab_mk uw mX1_stand := ⟨(uw_m3 53 rfl rfl), (uw_m1 5 rfl rfl), by decide +kernel, by decide +kernel, by decide +kernel, by decide⟩
set_option maxRecDepth 20000 in
theorem uc_X1_rows : ab_mk uw mX1_rows := ⟨(uw_m3 145 rfl rfl), (uw_m1 5 rfl rfl), by decide +kernel, by decide +kernel, by decide +kernel, by decide⟩
set_option maxRecDepth 20000 in
theorem uc_X1_beside : ab_mk uw mX1_beside := ⟨(uw_m3 157 rfl rfl), (uw_m1 5 rfl rfl), by decide +kernel, by decide +kernel, by decide +kernel, by decide⟩
set_option maxRecDepth 20000 in
theorem uc_X1_extend : ab_mk uw mX1_extend := ⟨(uw_m3 153 rfl rfl), (uw_m1 5 rfl rfl), by decide +kernel, by decide +kernel, by decide +kernel, by decide⟩
set_option maxRecDepth 20000 in
theorem uc_X1_undo : ab_mk uw mX1_undo := ⟨(uw_m3 170 rfl rfl), (uw_m1 5 rfl rfl), by decide +kernel, by decide +kernel, by decide +kernel, by decide⟩
set_option maxRecDepth 20000 in
theorem uc_X1_placeInOrder : ab_mk uw mX1_placeInOrder := ⟨(uw_m3 190 rfl rfl), (uw_m1 5 rfl rfl), by decide +kernel, by decide +kernel, by decide +kernel, by decide⟩
set_option maxRecDepth 20000 in
theorem uc_X1_neighbour : ab_mk uw mX1_neighbour := ⟨(uw_m3 198 rfl rfl), (uw_m1 5 rfl rfl), by decide +kernel, by decide +kernel, by decide +kernel, by decide⟩
set_option maxRecDepth 20000 in
theorem uc_X1_placesIn : ab_mk uw mX1_placesIn := ⟨(uw_m3 226 rfl rfl), (uw_m1 5 rfl rfl), by decide +kernel, by decide +kernel, by decide +kernel, by decide⟩
set_option maxRecDepth 20000 in
theorem uc_X1_countByDocument : ab_mk uw mX1_countByDocument := ⟨(uw_m3 213 rfl rfl), (uw_m1 5 rfl rfl), by decide +kernel, by decide +kernel, by decide +kernel, by decide⟩
set_option maxRecDepth 20000 in
theorem uc_X1_documentInOrder : ab_mk uw mX1_documentInOrder := ⟨(uw_m3 209 rfl rfl), (uw_m1 5 rfl rfl), by decide +kernel, by decide +kernel, by decide +kernel, by decide⟩
set_option maxRecDepth 20000 in
theorem uc_X1_documentsAheadOf : ab_mk uw mX1_documentsAheadOf := ⟨(uw_m3 218 rfl rfl), (uw_m1 5 rfl rfl), by decide +kernel, by decide +kernel, by decide +kernel, by decide⟩
set_option maxRecDepth 20000 in
theorem uc_X2_learn : ab_mk uw mX2_learn := ⟨(uw_m2 209 rfl rfl), (uw_m1 3 rfl rfl), by decide +kernel, by decide +kernel, by decide +kernel, by decide⟩
set_option maxRecDepth 20000 in
theorem uc_X2_learnAlikes : ab_mk uw mX2_learnAlikes := ⟨(uw_m3 5 rfl rfl), (uw_m1 3 rfl rfl), by decide +kernel, by decide +kernel, by decide +kernel, by decide⟩
set_option maxRecDepth 20000 in
theorem uc_X2_learnFronts : ab_mk uw mX2_learnFronts := ⟨(uw_m3 16 rfl rfl), (uw_m1 3 rfl rfl), by decide +kernel, by decide +kernel, by decide +kernel, by decide⟩
set_option maxRecDepth 20000 in
theorem uc_X2_alikeBehind : ab_mk uw mX2_alikeBehind := ⟨(uw_m3 9 rfl rfl), (uw_m1 3 rfl rfl), by decide +kernel, by decide +kernel, by decide +kernel, by decide⟩
set_option maxRecDepth 20000 in
theorem uc_X2_alikeFrom : ab_mk uw mX2_alikeFrom := ⟨(uw_m3 136 rfl rfl), (uw_m1 3 rfl rfl), by decide +kernel, by decide +kernel, by decide +kernel, by decide⟩
set_option maxRecDepth 20000 in
theorem uc_X2_has : ab_mk uw mX2_has := ⟨(uw_m3 65 rfl rfl), (uw_m1 3 rfl rfl), by decide +kernel, by decide +kernel, by decide +kernel, by decide⟩
set_option maxRecDepth 20000 in
theorem uc_X2_hasDocument : ab_mk uw mX2_hasDocument := ⟨(uw_m3 124 rfl rfl), (uw_m1 3 rfl rfl), by decide +kernel, by decide +kernel, by decide +kernel, by decide⟩
set_option maxRecDepth 20000 in
theorem uc_X2_endOf : ab_mk uw mX2_endOf := ⟨(uw_m2 220 rfl rfl), (uw_m1 3 rfl rfl), by decide +kernel, by decide +kernel, by decide +kernel, by decide⟩
set_option maxRecDepth 20000 in
theorem uc_X2_bytesFrom : ab_mk uw mX2_bytesFrom := ⟨(uw_m3 128 rfl rfl), (uw_m1 3 rfl rfl), by decide +kernel, by decide +kernel, by decide +kernel, by decide⟩
set_option maxRecDepth 20000 in
theorem uc_X2_byteOf : ab_mk uw mX2_byteOf := ⟨(uw_m3 116 rfl rfl), (uw_m1 3 rfl rfl), by decide +kernel, by decide +kernel, by decide +kernel, by decide⟩
set_option maxRecDepth 20000 in
theorem uc_X2_tell : ab_mk uw mX2_tell := ⟨(uw_m3 69 rfl rfl), (uw_m1 3 rfl rfl), by decide +kernel, by decide +kernel, by decide +kernel, by decide⟩
set_option maxRecDepth 20000 in
theorem uc_X2_rowInFront : ab_mk uw mX2_rowInFront := ⟨(uw_m3 89 rfl rfl), (uw_m1 3 rfl rfl), by decide +kernel, by decide +kernel, by decide +kernel, by decide⟩
set_option maxRecDepth 20000 in
theorem uc_X2_frontsUpTo : ab_mk uw mX2_frontsUpTo := ⟨(uw_m3 100 rfl rfl), (uw_m1 3 rfl rfl), by decide +kernel, by decide +kernel, by decide +kernel, by decide⟩
set_option maxRecDepth 20000 in
theorem uc_X2_rowOfFront : ab_mk uw mX2_rowOfFront := ⟨(uw_m3 108 rfl rfl), (uw_m1 3 rfl rfl), by decide +kernel, by decide +kernel, by decide +kernel, by decide⟩
set_option maxRecDepth 20000 in
theorem uc_X2_sumOfAlikes : ab_mk uw mX2_sumOfAlikes := ⟨(uw_m5 112 rfl rfl), (uw_m1 3 rfl rfl), by decide +kernel, by decide +kernel, by decide +kernel, by decide⟩
set_option maxRecDepth 20000 in
theorem uc_X2_greatestAlike : ab_mk uw mX2_greatestAlike := ⟨(uw_m5 116 rfl rfl), (uw_m1 3 rfl rfl), by decide +kernel, by decide +kernel, by decide +kernel, by decide⟩
set_option maxRecDepth 20000 in
theorem uc_X3_forget : ab_mk uw mX3_forget := ⟨(uw_m3 57 rfl rfl), (uw_m1 8 rfl rfl), by decide +kernel, by decide +kernel, by decide +kernel, by decide⟩
set_option maxRecDepth 20000 in
theorem uc_X3_found : ab_mk uw mX3_found := ⟨(uw_m4 179 rfl rfl), (uw_m1 8 rfl rfl), by decide +kernel, by decide +kernel, by decide +kernel, by decide⟩
set_option maxRecDepth 20000 in
theorem uc_X3_tellFound : ab_mk uw mX3_tellFound := ⟨(uw_m4 187 rfl rfl), (uw_m1 8 rfl rfl), by decide +kernel, by decide +kernel, by decide +kernel, by decide⟩
set_option maxRecDepth 20000 in
theorem uc_X3_answerQuery : ab_mk uw mX3_answerQuery := ⟨(uw_m4 112 rfl rfl), (uw_m1 8 rfl rfl), by decide +kernel, by decide +kernel, by decide +kernel, by decide⟩
set_option maxRecDepth 20000 in
theorem uc_X3_goUp : ab_mk uw mX3_goUp := ⟨(uw_m4 155 rfl rfl), (uw_m1 8 rfl rfl), by decide +kernel, by decide +kernel, by decide +kernel, by decide⟩
set_option maxRecDepth 20000 in
theorem uc_X3_goDown : ab_mk uw mX3_goDown := ⟨(uw_m4 167 rfl rfl), (uw_m1 8 rfl rfl), by decide +kernel, by decide +kernel, by decide +kernel, by decide⟩
set_option maxRecDepth 20000 in
theorem uc_X3_goDownLeft : ab_mk uw mX3_goDownLeft := ⟨(uw_m4 175 rfl rfl), (uw_m1 8 rfl rfl), by decide +kernel, by decide +kernel, by decide +kernel, by decide⟩
set_option maxRecDepth 20000 in
theorem uc_X3_goDownTo : ab_mk uw mX3_goDownTo := ⟨(uw_m4 171 rfl rfl), (uw_m1 8 rfl rfl), by decide +kernel, by decide +kernel, by decide +kernel, by decide⟩
set_option maxRecDepth 20000 in
theorem uc_X4_find : ab_mk uw mX4_find := ⟨(uw_m3 238 rfl rfl), (uw_m1 6 rfl rfl), by decide +kernel, by decide +kernel, by decide +kernel, by decide⟩
set_option maxRecDepth 20000 in
theorem uc_X4_differAt : ab_mk uw mX4_differAt := ⟨(uw_m4 3 rfl rfl), (uw_m1 6 rfl rfl), by decide +kernel, by decide +kernel, by decide +kernel, by decide⟩
set_option maxRecDepth 20000 in
theorem uc_X5_learn : ab_mk uw mX5_learn := ⟨(uw_m3 25 rfl rfl), (uw_m1 11 rfl rfl), by decide +kernel, by decide +kernel, by decide +kernel, by decide⟩
set_option maxRecDepth 20000 in
theorem uc_X5_learnEarlier : ab_mk uw mX5_learnEarlier := ⟨(uw_m3 29 rfl rfl), (uw_m1 11 rfl rfl), by decide +kernel, by decide +kernel, by decide +kernel, by decide⟩
set_option maxRecDepth 20000 in
theorem uc_X5_mirrored : ab_mk uw mX5_mirrored := ⟨(uw_m3 41 rfl rfl), (uw_m1 11 rfl rfl), by decide +kernel, by decide +kernel, by decide +kernel, by decide⟩
set_option maxRecDepth 20000 in
theorem uc_X5_learnReaches : ab_mk uw mX5_learnReaches := ⟨(uw_m3 37 rfl rfl), (uw_m1 11 rfl rfl), by decide +kernel, by decide +kernel, by decide +kernel, by decide⟩
set_option maxRecDepth 20000 in
theorem uc_X5_learnGapReaches : ab_mk uw mX5_learnGapReaches := ⟨(uw_m3 45 rfl rfl), (uw_m1 11 rfl rfl), by decide +kernel, by decide +kernel, by decide +kernel, by decide⟩
set_option maxRecDepth 20000 in
theorem uc_X5_factors : ab_mk uw mX5_factors := ⟨(uw_m5 47 rfl rfl), (uw_m1 11 rfl rfl), by decide +kernel, by decide +kernel, by decide +kernel, by decide⟩
set_option maxRecDepth 20000 in
theorem uc_X5_tellFactor : ab_mk uw mX5_tellFactor := ⟨(uw_m5 52 rfl rfl), (uw_m1 11 rfl rfl), by decide +kernel, by decide +kernel, by decide +kernel, by decide⟩
set_option maxRecDepth 20000 in
theorem uc_X5_leastEarlier : ab_mk uw mX5_leastEarlier := ⟨(uw_m5 56 rfl rfl), (uw_m1 11 rfl rfl), by decide +kernel, by decide +kernel, by decide +kernel, by decide⟩
set_option maxRecDepth 20000 in
theorem uc_X5_fallingWord : ab_mk uw mX5_fallingWord := ⟨(uw_m5 64 rfl rfl), (uw_m1 11 rfl rfl), by decide +kernel, by decide +kernel, by decide +kernel, by decide⟩
set_option maxRecDepth 20000 in
theorem uc_X5_periodOfWords : ab_mk uw mX5_periodOfWords := ⟨(uw_m5 68 rfl rfl), (uw_m1 11 rfl rfl), by decide +kernel, by decide +kernel, by decide +kernel, by decide⟩
set_option maxRecDepth 20000 in
theorem uc_X5_endOfWords : ab_mk uw mX5_endOfWords := ⟨(uw_m5 72 rfl rfl), (uw_m1 11 rfl rfl), by decide +kernel, by decide +kernel, by decide +kernel, by decide⟩
set_option maxRecDepth 20000 in
theorem uc_X5_leastTwice : ab_mk uw mX5_leastTwice := ⟨(uw_m5 80 rfl rfl), (uw_m1 11 rfl rfl), by decide +kernel, by decide +kernel, by decide +kernel, by decide⟩
set_option maxRecDepth 20000 in
theorem uc_X5_nearer : ab_mk uw mX5_nearer := ⟨(uw_m5 84 rfl rfl), (uw_m1 11 rfl rfl), by decide +kernel, by decide +kernel, by decide +kernel, by decide⟩
set_option maxRecDepth 20000 in
theorem uc_X5_longestMirror : ab_mk uw mX5_longestMirror := ⟨(uw_m5 92 rfl rfl), (uw_m1 11 rfl rfl), by decide +kernel, by decide +kernel, by decide +kernel, by decide⟩
set_option maxRecDepth 20000 in
theorem uc_X5_longestIn : ab_mk uw mX5_longestIn := ⟨(uw_m5 100 rfl rfl), (uw_m1 11 rfl rfl), by decide +kernel, by decide +kernel, by decide +kernel, by decide⟩
set_option maxRecDepth 20000 in
theorem uc_X6_add : ab_mk uw mX6_add := ⟨(uw_m4 15 rfl rfl), (uw_m1 7 rfl rfl), by decide +kernel, by decide +kernel, by decide +kernel, by decide⟩
set_option maxRecDepth 20000 in
theorem uc_X6_read : ab_mk uw mX6_read := ⟨(uw_m4 23 rfl rfl), (uw_m1 7 rfl rfl), by decide +kernel, by decide +kernel, by decide +kernel, by decide⟩
set_option maxRecDepth 20000 in
theorem uc_X6_comes : ab_mk uw mX6_comes := ⟨(uw_m4 54 rfl rfl), (uw_m1 7 rfl rfl), by decide +kernel, by decide +kernel, by decide +kernel, by decide⟩
set_option maxRecDepth 20000 in
theorem uc_X6_goesOn : ab_mk uw mX6_goesOn := ⟨(uw_m4 31 rfl rfl), (uw_m1 7 rfl rfl), by decide +kernel, by decide +kernel, by decide +kernel, by decide⟩
set_option maxRecDepth 20000 in
theorem uc_X6_bounded : ab_mk uw mX6_bounded := ⟨(uw_m4 107 rfl rfl), (uw_m1 7 rfl rfl), by decide +kernel, by decide +kernel, by decide +kernel, by decide⟩
set_option maxRecDepth 20000 in
theorem uc_X6_readSum : ab_mk uw mX6_readSum := ⟨(uw_m4 27 rfl rfl), (uw_m1 7 rfl rfl), by decide +kernel, by decide +kernel, by decide +kernel, by decide⟩
set_option maxRecDepth 20000 in
theorem uc_X6_readItem : ab_mk uw mX6_readItem := ⟨(uw_m4 35 rfl rfl), (uw_m1 7 rfl rfl), by decide +kernel, by decide +kernel, by decide +kernel, by decide⟩
set_option maxRecDepth 20000 in
theorem uc_X6_copies : ab_mk uw mX6_copies := ⟨(uw_m4 103 rfl rfl), (uw_m1 7 rfl rfl), by decide +kernel, by decide +kernel, by decide +kernel, by decide⟩
set_option maxRecDepth 20000 in
theorem uc_X6_readAtom : ab_mk uw mX6_readAtom := ⟨(uw_m4 39 rfl rfl), (uw_m1 7 rfl rfl), by decide +kernel, by decide +kernel, by decide +kernel, by decide⟩
set_option maxRecDepth 20000 in
theorem uc_X6_readPlain : ab_mk uw mX6_readPlain := ⟨(uw_m4 79 rfl rfl), (uw_m1 7 rfl rfl), by decide +kernel, by decide +kernel, by decide +kernel, by decide⟩
set_option maxRecDepth 20000 in
theorem uc_X6_readBrackets : ab_mk uw mX6_readBrackets := ⟨(uw_m4 46 rfl rfl), (uw_m1 7 rfl rfl), by decide +kernel, by decide +kernel, by decide +kernel, by decide⟩
set_option maxRecDepth 20000 in
theorem uc_X6_readSign : ab_mk uw mX6_readSign := ⟨(uw_m4 50 rfl rfl), (uw_m1 7 rfl rfl), by decide +kernel, by decide +kernel, by decide +kernel, by decide⟩
set_option maxRecDepth 20000 in
theorem uc_X6_readByte : ab_mk uw mX6_readByte := ⟨(uw_m4 70 rfl rfl), (uw_m1 7 rfl rfl), by decide +kernel, by decide +kernel, by decide +kernel, by decide⟩
set_option maxRecDepth 20000 in
theorem uc_X6_readRanges : ab_mk uw mX6_readRanges := ⟨(uw_m4 58 rfl rfl), (uw_m1 7 rfl rfl), by decide +kernel, by decide +kernel, by decide +kernel, by decide⟩
set_option maxRecDepth 20000 in
theorem uc_X6_readRange : ab_mk uw mX6_readRange := ⟨(uw_m4 62 rfl rfl), (uw_m1 7 rfl rfl), by decide +kernel, by decide +kernel, by decide +kernel, by decide⟩
set_option maxRecDepth 20000 in
theorem uc_X6_readRangeByte : ab_mk uw mX6_readRangeByte := ⟨(uw_m4 66 rfl rfl), (uw_m1 7 rfl rfl), by decide +kernel, by decide +kernel, by decide +kernel, by decide⟩
set_option maxRecDepth 20000 in
theorem uc_X6_addBytes : ab_mk uw mX6_addBytes := ⟨(uw_m4 74 rfl rfl), (uw_m1 7 rfl rfl), by decide +kernel, by decide +kernel, by decide +kernel, by decide⟩
set_option maxRecDepth 20000 in
theorem uc_X6_mayBe : ab_mk uw mX6_mayBe := ⟨(uw_m4 159 rfl rfl), (uw_m1 7 rfl rfl), by decide +kernel, by decide +kernel, by decide +kernel, by decide⟩
set_option maxRecDepth 20000 in
theorem uc_X6_readRepeat : ab_mk uw mX6_readRepeat := ⟨(uw_m4 83 rfl rfl), (uw_m1 7 rfl rfl), by decide +kernel, by decide +kernel, by decide +kernel, by decide⟩
set_option maxRecDepth 20000 in
theorem uc_X6_repeat : ab_mk uw mX6_repeat := ⟨(uw_m4 87 rfl rfl), (uw_m1 7 rfl rfl), by decide +kernel, by decide +kernel, by decide +kernel, by decide⟩
set_option maxRecDepth 20000 in
theorem uc_X6_readNumbers : ab_mk uw mX6_readNumbers := ⟨(uw_m4 91 rfl rfl), (uw_m1 7 rfl rfl), by decide +kernel, by decide +kernel, by decide +kernel, by decide⟩
set_option maxRecDepth 20000 in
theorem uc_X6_readNumber : ab_mk uw mX6_readNumber := ⟨(uw_m4 95 rfl rfl), (uw_m1 7 rfl rfl), by decide +kernel, by decide +kernel, by decide +kernel, by decide⟩
set_option maxRecDepth 20000 in
theorem uc_X6_figureComes : ab_mk uw mX6_figureComes := ⟨(uw_m4 99 rfl rfl), (uw_m1 7 rfl rfl), by decide +kernel, by decide +kernel, by decide +kernel, by decide⟩
set_option maxRecDepth 20000 in
theorem uc_X7_learn : ab_mk uw mX7_learn := ⟨(uw_m3 20 rfl rfl), (uw_m1 10 rfl rfl), by decide +kernel, by decide +kernel, by decide +kernel, by decide⟩
set_option maxRecDepth 20000 in
theorem uc_X7_lengthOf : ab_mk uw mX7_lengthOf := ⟨(uw_m4 203 rfl rfl), (uw_m1 10 rfl rfl), by decide +kernel, by decide +kernel, by decide +kernel, by decide⟩
set_option maxRecDepth 20000 in
theorem uc_X7_newOf : ab_mk uw mX7_newOf := ⟨(uw_m4 199 rfl rfl), (uw_m1 10 rfl rfl), by decide +kernel, by decide +kernel, by decide +kernel, by decide⟩
set_option maxRecDepth 20000 in
theorem uc_X7_howManyOf : ab_mk uw mX7_howManyOf := ⟨(uw_m4 195 rfl rfl), (uw_m1 10 rfl rfl), by decide +kernel, by decide +kernel, by decide +kernel, by decide⟩
set_option maxRecDepth 20000 in
theorem uc_X7_holdInOrder : ab_mk uw mX7_holdInOrder := ⟨(uw_m4 212 rfl rfl), (uw_m1 10 rfl rfl), by decide +kernel, by decide +kernel, by decide +kernel, by decide⟩
set_option maxRecDepth 20000 in
theorem uc_X7_lesserThanHeld : ab_mk uw mX7_lesserThanHeld := ⟨(uw_m4 221 rfl rfl), (uw_m1 10 rfl rfl), by decide +kernel, by decide +kernel, by decide +kernel, by decide⟩
set_option maxRecDepth 20000 in
theorem uc_X7_holdLongest : ab_mk uw mX7_holdLongest := ⟨(uw_m4 229 rfl rfl), (uw_m1 10 rfl rfl), by decide +kernel, by decide +kernel, by decide +kernel, by decide⟩
set_option maxRecDepth 20000 in
theorem uc_X7_firstRun : ab_mk uw mX7_firstRun := ⟨(uw_m4 233 rfl rfl), (uw_m1 10 rfl rfl), by decide +kernel, by decide +kernel, by decide +kernel, by decide⟩
set_option maxRecDepth 20000 in
theorem uc_X7_holdOftenest : ab_mk uw mX7_holdOftenest := ⟨(uw_m5 6 rfl rfl), (uw_m1 10 rfl rfl), by decide +kernel, by decide +kernel, by decide +kernel, by decide⟩
set_option maxRecDepth 20000 in
theorem uc_X7_leastAlone : ab_mk uw mX7_leastAlone := ⟨(uw_m5 14 rfl rfl), (uw_m1 10 rfl rfl), by decide +kernel, by decide +kernel, by decide +kernel, by decide⟩
set_option maxRecDepth 20000 in
theorem uc_X7_holdMaximal : ab_mk uw mX7_holdMaximal := ⟨(uw_m5 22 rfl rfl), (uw_m1 10 rfl rfl), by decide +kernel, by decide +kernel, by decide +kernel, by decide⟩
set_option maxRecDepth 20000 in
theorem uc_X7_maximalFrom : ab_mk uw mX7_maximalFrom := ⟨(uw_m5 26 rfl rfl), (uw_m1 10 rfl rfl), by decide +kernel, by decide +kernel, by decide +kernel, by decide⟩
set_option maxRecDepth 20000 in
theorem uc_X7_maximalLength : ab_mk uw mX7_maximalLength := ⟨(uw_m5 30 rfl rfl), (uw_m1 10 rfl rfl), by decide +kernel, by decide +kernel, by decide +kernel, by decide⟩
set_option maxRecDepth 20000 in
theorem uc_X7_howManyAbsent : ab_mk uw mX7_howManyAbsent := ⟨(uw_m5 38 rfl rfl), (uw_m1 10 rfl rfl), by decide +kernel, by decide +kernel, by decide +kernel, by decide⟩
set_option maxRecDepth 20000 in
theorem uc_X8_arrange : ab_mk uw mX8_arrange := ⟨(uw_m2 224 rfl rfl), (uw_m1 4 rfl rfl), by decide +kernel, by decide +kernel, by decide +kernel, by decide⟩
set_option maxRecDepth 20000 in
theorem uc_X8_sortByHalves : ab_mk uw mX8_sortByHalves := ⟨(uw_m3 1 rfl rfl), (uw_m1 4 rfl rfl), by decide +kernel, by decide +kernel, by decide +kernel, by decide⟩
set_option maxRecDepth 20000 in
theorem uc_X8_sortByRank : ab_mk uw mX8_sortByRank := ⟨(uw_m2 228 rfl rfl), (uw_m1 4 rfl rfl), by decide +kernel, by decide +kernel, by decide +kernel, by decide⟩
set_option maxRecDepth 20000 in
theorem uc_X8_rankAnew : ab_mk uw mX8_rankAnew := ⟨(uw_m2 233 rfl rfl), (uw_m1 4 rfl rfl), by decide +kernel, by decide +kernel, by decide +kernel, by decide⟩
set_option maxRecDepth 20000 in
theorem uc_X8_rankAt : ab_mk uw mX8_rankAt := ⟨(uw_m2 236 rfl rfl), (uw_m1 4 rfl rfl), by decide +kernel, by decide +kernel, by decide +kernel, by decide⟩
set_option maxRecDepth 20000 in
theorem uc_X9_grown : ab_mk uw mX9_grown := ⟨(uw_m4 117 rfl rfl), (uw_m1 9 rfl rfl), by decide +kernel, by decide +kernel, by decide +kernel, by decide⟩
set_option maxRecDepth 20000 in
theorem uc_X9_comes : ab_mk uw mX9_comes := ⟨(uw_m4 129 rfl rfl), (uw_m1 9 rfl rfl), by decide +kernel, by decide +kernel, by decide +kernel, by decide⟩
set_option maxRecDepth 20000 in
theorem uc_X9_growSum : ab_mk uw mX9_growSum := ⟨(uw_m4 121 rfl rfl), (uw_m1 9 rfl rfl), by decide +kernel, by decide +kernel, by decide +kernel, by decide⟩
set_option maxRecDepth 20000 in
theorem uc_X9_growRow : ab_mk uw mX9_growRow := ⟨(uw_m4 125 rfl rfl), (uw_m1 9 rfl rfl), by decide +kernel, by decide +kernel, by decide +kernel, by decide⟩
set_option maxRecDepth 20000 in
theorem uc_X9_growItem : ab_mk uw mX9_growItem := ⟨(uw_m4 133 rfl rfl), (uw_m1 9 rfl rfl), by decide +kernel, by decide +kernel, by decide +kernel, by decide⟩
set_option maxRecDepth 20000 in
theorem uc_X9_growAtom : ab_mk uw mX9_growAtom := ⟨(uw_m4 138 rfl rfl), (uw_m1 9 rfl rfl), by decide +kernel, by decide +kernel, by decide +kernel, by decide⟩
set_option maxRecDepth 20000 in
theorem uc_X9_joined : ab_mk uw mX9_joined := ⟨(uw_m4 146 rfl rfl), (uw_m1 9 rfl rfl), by decide +kernel, by decide +kernel, by decide +kernel, by decide⟩
set_option maxRecDepth 20000 in
theorem uc_X9_choice : ab_mk uw mX9_choice := ⟨(uw_m4 151 rfl rfl), (uw_m1 9 rfl rfl), by decide +kernel, by decide +kernel, by decide +kernel, by decide⟩
set_option maxRecDepth 20000 in
theorem uc_X9_node : ab_mk uw mX9_node := ⟨(uw_m4 142 rfl rfl), (uw_m1 9 rfl rfl), by decide +kernel, by decide +kernel, by decide +kernel, by decide⟩
set_option maxRecDepth 20000 in
theorem uc_X10_feed : ab_mk uw mX10_feed := ⟨(uw_m2 170 rfl rfl), (uw_m1 1 rfl rfl), by decide +kernel, by decide +kernel, by decide +kernel, by decide⟩
set_option maxRecDepth 20000 in
theorem uc_X10_end : ab_mk uw mX10_end := ⟨(uw_m2 178 rfl rfl), (uw_m1 1 rfl rfl), by decide +kernel, by decide +kernel, by decide +kernel, by decide⟩
set_option maxRecDepth 20000 in
theorem uc_X10_cut : ab_mk uw mX10_cut := ⟨(uw_m2 186 rfl rfl), (uw_m1 1 rfl rfl), by decide +kernel, by decide +kernel, by decide +kernel, by decide⟩
set_option maxRecDepth 20000 in
theorem uc_X10_clear : ab_mk uw mX10_clear := ⟨(uw_m2 197 rfl rfl), (uw_m1 1 rfl rfl), by decide +kernel, by decide +kernel, by decide +kernel, by decide⟩
set_option maxRecDepth 20000 in
theorem uc_X10_build : ab_mk uw mX10_build := ⟨(uw_m2 205 rfl rfl), (uw_m1 1 rfl rfl), by decide +kernel, by decide +kernel, by decide +kernel, by decide⟩
set_option maxRecDepth 20000 in
theorem uc_X10_place : ab_mk uw mX10_place := ⟨(uw_m3 61 rfl rfl), (uw_m1 1 rfl rfl), by decide +kernel, by decide +kernel, by decide +kernel, by decide⟩
set_option maxRecDepth 20000 in
theorem uc_X10_row : ab_mk uw mX10_row := ⟨(uw_m3 73 rfl rfl), (uw_m1 1 rfl rfl), by decide +kernel, by decide +kernel, by decide +kernel, by decide⟩
set_option maxRecDepth 20000 in
theorem uc_X10_shared : ab_mk uw mX10_shared := ⟨(uw_m3 77 rfl rfl), (uw_m1 1 rfl rfl), by decide +kernel, by decide +kernel, by decide +kernel, by decide⟩
set_option maxRecDepth 20000 in
theorem uc_X10_before : ab_mk uw mX10_before := ⟨(uw_m3 81 rfl rfl), (uw_m1 1 rfl rfl), by decide +kernel, by decide +kernel, by decide +kernel, by decide⟩
set_option maxRecDepth 20000 in
theorem uc_X10_step : ab_mk uw mX10_step := ⟨(uw_m3 85 rfl rfl), (uw_m1 1 rfl rfl), by decide +kernel, by decide +kernel, by decide +kernel, by decide⟩
set_option maxRecDepth 20000 in
theorem uc_X10_rank : ab_mk uw mX10_rank := ⟨(uw_m3 93 rfl rfl), (uw_m1 1 rfl rfl), by decide +kernel, by decide +kernel, by decide +kernel, by decide⟩
set_option maxRecDepth 20000 in
theorem uc_X10_select : ab_mk uw mX10_select := ⟨(uw_m3 104 rfl rfl), (uw_m1 1 rfl rfl), by decide +kernel, by decide +kernel, by decide +kernel, by decide⟩
set_option maxRecDepth 20000 in
theorem uc_X10_byteAt : ab_mk uw mX10_byteAt := ⟨(uw_m3 112 rfl rfl), (uw_m1 1 rfl rfl), by decide +kernel, by decide +kernel, by decide +kernel, by decide⟩
set_option maxRecDepth 20000 in
theorem uc_X10_document : ab_mk uw mX10_document := ⟨(uw_m3 120 rfl rfl), (uw_m1 1 rfl rfl), by decide +kernel, by decide +kernel, by decide +kernel, by decide⟩
set_option maxRecDepth 20000 in
theorem uc_X10_alike : ab_mk uw mX10_alike := ⟨(uw_m3 132 rfl rfl), (uw_m1 1 rfl rfl), by decide +kernel, by decide +kernel, by decide +kernel, by decide⟩
set_option maxRecDepth 20000 in
theorem uc_X10_begin : ab_mk uw mX10_begin := ⟨(uw_m3 141 rfl rfl), (uw_m1 1 rfl rfl), by decide +kernel, by decide +kernel, by decide +kernel, by decide⟩
set_option maxRecDepth 20000 in
theorem uc_X10_grow : ab_mk uw mX10_grow := ⟨(uw_m3 149 rfl rfl), (uw_m1 1 rfl rfl), by decide +kernel, by decide +kernel, by decide +kernel, by decide⟩
set_option maxRecDepth 20000 in
theorem uc_X10_front : ab_mk uw mX10_front := ⟨(uw_m3 162 rfl rfl), (uw_m1 1 rfl rfl), by decide +kernel, by decide +kernel, by decide +kernel, by decide⟩
set_option maxRecDepth 20000 in
theorem uc_X10_back : ab_mk uw mX10_back := ⟨(uw_m3 166 rfl rfl), (uw_m1 1 rfl rfl), by decide +kernel, by decide +kernel, by decide +kernel, by decide⟩
set_option maxRecDepth 20000 in
theorem uc_X10_pattern : ab_mk uw mX10_pattern := ⟨(uw_m3 174 rfl rfl), (uw_m1 1 rfl rfl), by decide +kernel, by decide +kernel, by decide +kernel, by decide⟩
set_option maxRecDepth 20000 in
theorem uc_X10_patternByte : ab_mk uw mX10_patternByte := ⟨(uw_m3 178 rfl rfl), (uw_m1 1 rfl rfl), by decide +kernel, by decide +kernel, by decide +kernel, by decide⟩
set_option maxRecDepth 20000 in
theorem uc_X10_at : ab_mk uw mX10_at := ⟨(uw_m3 182 rfl rfl), (uw_m1 1 rfl rfl), by decide +kernel, by decide +kernel, by decide +kernel, by decide⟩
set_option maxRecDepth 20000 in
theorem uc_X10_sorted : ab_mk uw mX10_sorted := ⟨(uw_m3 186 rfl rfl), (uw_m1 1 rfl rfl), by decide +kernel, by decide +kernel, by decide +kernel, by decide⟩
set_option maxRecDepth 20000 in
theorem uc_X10_more : ab_mk uw mX10_more := ⟨(uw_m3 194 rfl rfl), (uw_m1 1 rfl rfl), by decide +kernel, by decide +kernel, by decide +kernel, by decide⟩
set_option maxRecDepth 20000 in
theorem uc_X10_ranked : ab_mk uw mX10_ranked := ⟨(uw_m3 205 rfl rfl), (uw_m1 1 rfl rfl), by decide +kernel, by decide +kernel, by decide +kernel, by decide⟩
set_option maxRecDepth 20000 in
theorem uc_X10_times : ab_mk uw mX10_times := ⟨(uw_m3 222 rfl rfl), (uw_m1 1 rfl rfl), by decide +kernel, by decide +kernel, by decide +kernel, by decide⟩
set_option maxRecDepth 20000 in
theorem uc_X10_take : ab_mk uw mX10_take := ⟨(uw_m3 230 rfl rfl), (uw_m1 1 rfl rfl), by decide +kernel, by decide +kernel, by decide +kernel, by decide⟩
set_option maxRecDepth 20000 in
theorem uc_X10_near : ab_mk uw mX10_near := ⟨(uw_m3 234 rfl rfl), (uw_m1 1 rfl rfl), by decide +kernel, by decide +kernel, by decide +kernel, by decide⟩
set_option maxRecDepth 20000 in
theorem uc_X10_nearOf : ab_mk uw mX10_nearOf := ⟨(uw_m4 7 rfl rfl), (uw_m1 1 rfl rfl), by decide +kernel, by decide +kernel, by decide +kernel, by decide⟩
set_option maxRecDepth 20000 in
theorem uc_X10_ask : ab_mk uw mX10_ask := ⟨(uw_m4 11 rfl rfl), (uw_m1 1 rfl rfl), by decide +kernel, by decide +kernel, by decide +kernel, by decide⟩
set_option maxRecDepth 20000 in
theorem uc_X10_answer : ab_mk uw mX10_answer := ⟨(uw_m4 19 rfl rfl), (uw_m1 1 rfl rfl), by decide +kernel, by decide +kernel, by decide +kernel, by decide⟩
set_option maxRecDepth 20000 in
theorem uc_X10_answered : ab_mk uw mX10_answered := ⟨(uw_m4 183 rfl rfl), (uw_m1 1 rfl rfl), by decide +kernel, by decide +kernel, by decide +kernel, by decide⟩
set_option maxRecDepth 20000 in
theorem uc_X10_different : ab_mk uw mX10_different := ⟨(uw_m4 191 rfl rfl), (uw_m1 1 rfl rfl), by decide +kernel, by decide +kernel, by decide +kernel, by decide⟩
set_option maxRecDepth 20000 in
theorem uc_X10_kth : ab_mk uw mX10_kth := ⟨(uw_m4 208 rfl rfl), (uw_m1 1 rfl rfl), by decide +kernel, by decide +kernel, by decide +kernel, by decide⟩
set_option maxRecDepth 20000 in
theorem uc_X10_order : ab_mk uw mX10_order := ⟨(uw_m4 217 rfl rfl), (uw_m1 1 rfl rfl), by decide +kernel, by decide +kernel, by decide +kernel, by decide⟩
set_option maxRecDepth 20000 in
theorem uc_X10_repeated : ab_mk uw mX10_repeated := ⟨(uw_m4 225 rfl rfl), (uw_m1 1 rfl rfl), by decide +kernel, by decide +kernel, by decide +kernel, by decide⟩
set_option maxRecDepth 20000 in
theorem uc_X10_common : ab_mk uw mX10_common := ⟨(uw_m4 238 rfl rfl), (uw_m1 1 rfl rfl), by decide +kernel, by decide +kernel, by decide +kernel, by decide⟩
set_option maxRecDepth 20000 in
theorem uc_X10_oftenest : ab_mk uw mX10_oftenest := ⟨(uw_m5 2 rfl rfl), (uw_m1 1 rfl rfl), by decide +kernel, by decide +kernel, by decide +kernel, by decide⟩
set_option maxRecDepth 20000 in
theorem uc_X10_unique : ab_mk uw mX10_unique := ⟨(uw_m5 10 rfl rfl), (uw_m1 1 rfl rfl), by decide +kernel, by decide +kernel, by decide +kernel, by decide⟩
set_option maxRecDepth 20000 in
theorem uc_X10_maximal : ab_mk uw mX10_maximal := ⟨(uw_m5 18 rfl rfl), (uw_m1 1 rfl rfl), by decide +kernel, by decide +kernel, by decide +kernel, by decide⟩
set_option maxRecDepth 20000 in
theorem uc_X10_absent : ab_mk uw mX10_absent := ⟨(uw_m5 34 rfl rfl), (uw_m1 1 rfl rfl), by decide +kernel, by decide +kernel, by decide +kernel, by decide⟩
set_option maxRecDepth 20000 in
theorem uc_X10_factor : ab_mk uw mX10_factor := ⟨(uw_m5 43 rfl rfl), (uw_m1 1 rfl rfl), by decide +kernel, by decide +kernel, by decide +kernel, by decide⟩
set_option maxRecDepth 20000 in
theorem uc_X10_word : ab_mk uw mX10_word := ⟨(uw_m5 60 rfl rfl), (uw_m1 1 rfl rfl), by decide +kernel, by decide +kernel, by decide +kernel, by decide⟩
set_option maxRecDepth 20000 in
theorem uc_X10_square : ab_mk uw mX10_square := ⟨(uw_m5 76 rfl rfl), (uw_m1 1 rfl rfl), by decide +kernel, by decide +kernel, by decide +kernel, by decide⟩
set_option maxRecDepth 20000 in
theorem uc_X10_mirror : ab_mk uw mX10_mirror := ⟨(uw_m5 88 rfl rfl), (uw_m1 1 rfl rfl), by decide +kernel, by decide +kernel, by decide +kernel, by decide⟩
set_option maxRecDepth 20000 in
theorem uc_X10_match : ab_mk uw mX10_match := ⟨(uw_m5 96 rfl rfl), (uw_m1 1 rfl rfl), by decide +kernel, by decide +kernel, by decide +kernel, by decide⟩
set_option maxRecDepth 20000 in
theorem uc_X10_count : ab_mk uw mX10_count := ⟨(uw_m5 104 rfl rfl), (uw_m1 1 rfl rfl), by decide +kernel, by decide +kernel, by decide +kernel, by decide⟩
set_option maxRecDepth 20000 in
theorem uc_X10_unwound : ab_mk uw mX10_unwound := ⟨(uw_m5 120 rfl rfl), (uw_m1 1 rfl rfl), by decide +kernel, by decide +kernel, by decide +kernel, by decide⟩
set_option maxRecDepth 20000 in
theorem uc_X10_countOfIndex : ab_mk uw mX10_countOfIndex := ⟨(uw_m5 108 rfl rfl), (uw_m1 1 rfl rfl), by decide +kernel, by decide +kernel, by decide +kernel, by decide⟩
set_option maxRecDepth 20000 in
theorem uc_X10_isByte : ab_mk uw mX10_isByte := ⟨(uw_m3 96 rfl rfl), (uw_m1 1 rfl rfl), by decide +kernel, by decide +kernel, by decide +kernel, by decide⟩
set_option maxRecDepth 20000 in
theorem uc_X11_feed : ab_mk uw mX11_feed := ⟨(uw_m6 116 rfl rfl), (uw_m1 12 rfl rfl), by decide +kernel, by decide +kernel, by decide +kernel, by decide⟩
set_option maxRecDepth 20000 in
theorem uc_X11_end : ab_mk uw mX11_end := ⟨(uw_m6 120 rfl rfl), (uw_m1 12 rfl rfl), by decide +kernel, by decide +kernel, by decide +kernel, by decide⟩
set_option maxRecDepth 20000 in
theorem uc_X11_cut : ab_mk uw mX11_cut := ⟨(uw_m6 124 rfl rfl), (uw_m1 12 rfl rfl), by decide +kernel, by decide +kernel, by decide +kernel, by decide⟩
set_option maxRecDepth 20000 in
theorem uc_X11_clear : ab_mk uw mX11_clear := ⟨(uw_m6 128 rfl rfl), (uw_m1 12 rfl rfl), by decide +kernel, by decide +kernel, by decide +kernel, by decide⟩
set_option maxRecDepth 20000 in
theorem uc_X11_keyAt : ab_mk uw mX11_keyAt := ⟨(uw_m6 144 rfl rfl), (uw_m1 12 rfl rfl), by decide +kernel, by decide +kernel, by decide +kernel, by decide⟩
set_option maxRecDepth 20000 in
theorem uc_X11_sortBy : ab_mk uw mX11_sortBy := ⟨(uw_m6 140 rfl rfl), (uw_m1 12 rfl rfl), by decide +kernel, by decide +kernel, by decide +kernel, by decide⟩
set_option maxRecDepth 20000 in
theorem uc_X11_sortAll : ab_mk uw mX11_sortAll := ⟨(uw_m6 136 rfl rfl), (uw_m1 12 rfl rfl), by decide +kernel, by decide +kernel, by decide +kernel, by decide⟩
set_option maxRecDepth 20000 in
theorem uc_X11_findShares : ab_mk uw mX11_findShares := ⟨(uw_m6 148 rfl rfl), (uw_m1 12 rfl rfl), by decide +kernel, by decide +kernel, by decide +kernel, by decide⟩
set_option maxRecDepth 20000 in
theorem uc_X11_build : ab_mk uw mX11_build := ⟨(uw_m6 132 rfl rfl), (uw_m1 12 rfl rfl), by decide +kernel, by decide +kernel, by decide +kernel, by decide⟩
set_option maxRecDepth 20000 in
theorem uc_X11_isRow : ab_mk uw mX11_isRow := ⟨(uw_m6 160 rfl rfl), (uw_m1 12 rfl rfl), by decide +kernel, by decide +kernel, by decide +kernel, by decide⟩
set_option maxRecDepth 20000 in
theorem uc_X11_isDocument : ab_mk uw mX11_isDocument := ⟨(uw_m6 207 rfl rfl), (uw_m1 12 rfl rfl), by decide +kernel, by decide +kernel, by decide +kernel, by decide⟩
set_option maxRecDepth 20000 in
theorem uc_X11_isByte : ab_mk uw mX11_isByte := ⟨(uw_m6 191 rfl rfl), (uw_m1 12 rfl rfl), by decide +kernel, by decide +kernel, by decide +kernel, by decide⟩
set_option maxRecDepth 20000 in
theorem uc_X11_left : ab_mk uw mX11_left := ⟨(uw_m6 219 rfl rfl), (uw_m1 12 rfl rfl), by decide +kernel, by decide +kernel, by decide +kernel, by decide⟩
set_option maxRecDepth 20000 in
theorem uc_X11_stepsOf : ab_mk uw mX11_stepsOf := ⟨(uw_m6 164 rfl rfl), (uw_m1 12 rfl rfl), by decide +kernel, by decide +kernel, by decide +kernel, by decide⟩
set_option maxRecDepth 20000 in
theorem uc_X11_place : ab_mk uw mX11_place := ⟨(uw_m6 156 rfl rfl), (uw_m1 12 rfl rfl), by decide +kernel, by decide +kernel, by decide +kernel, by decide⟩
set_option maxRecDepth 20000 in
theorem uc_X11_row : ab_mk uw mX11_row := ⟨(uw_m6 168 rfl rfl), (uw_m1 12 rfl rfl), by decide +kernel, by decide +kernel, by decide +kernel, by decide⟩
set_option maxRecDepth 20000 in
theorem uc_X11_shared : ab_mk uw mX11_shared := ⟨(uw_m6 172 rfl rfl), (uw_m1 12 rfl rfl), by decide +kernel, by decide +kernel, by decide +kernel, by decide⟩
set_option maxRecDepth 20000 in
theorem uc_X11_beforeOf : ab_mk uw mX11_beforeOf := ⟨(uw_m6 180 rfl rfl), (uw_m1 12 rfl rfl), by decide +kernel, by decide +kernel, by decide +kernel, by decide⟩
set_option maxRecDepth 20000 in
theorem uc_X11_before : ab_mk uw mX11_before := ⟨(uw_m6 176 rfl rfl), (uw_m1 12 rfl rfl), by decide +kernel, by decide +kernel, by decide +kernel, by decide⟩
set_option maxRecDepth 20000 in
theorem uc_X11_step : ab_mk uw mX11_step := ⟨(uw_m6 184 rfl rfl), (uw_m1 12 rfl rfl), by decide +kernel, by decide +kernel, by decide +kernel, by decide⟩
set_option maxRecDepth 20000 in
theorem uc_X11_rank : ab_mk uw mX11_rank := ⟨(uw_m6 188 rfl rfl), (uw_m1 12 rfl rfl), by decide +kernel, by decide +kernel, by decide +kernel, by decide⟩
set_option maxRecDepth 20000 in
theorem uc_X11_select : ab_mk uw mX11_select := ⟨(uw_m6 195 rfl rfl), (uw_m1 12 rfl rfl), by decide +kernel, by decide +kernel, by decide +kernel, by decide⟩
set_option maxRecDepth 20000 in
theorem uc_X11_byteAt : ab_mk uw mX11_byteAt := ⟨(uw_m6 199 rfl rfl), (uw_m1 12 rfl rfl), by decide +kernel, by decide +kernel, by decide +kernel, by decide⟩
set_option maxRecDepth 20000 in
theorem uc_X11_document : ab_mk uw mX11_document := ⟨(uw_m6 203 rfl rfl), (uw_m1 12 rfl rfl), by decide +kernel, by decide +kernel, by decide +kernel, by decide⟩
set_option maxRecDepth 20000 in
theorem uc_X11_alikeOf : ab_mk uw mX11_alikeOf := ⟨(uw_m6 215 rfl rfl), (uw_m1 12 rfl rfl), by decide +kernel, by decide +kernel, by decide +kernel, by decide⟩
set_option maxRecDepth 20000 in
theorem uc_X11_alike : ab_mk uw mX11_alike := ⟨(uw_m6 211 rfl rfl), (uw_m1 12 rfl rfl), by decide +kernel, by decide +kernel, by decide +kernel, by decide⟩
set_option maxRecDepth 20000 in
theorem uc_X11_toEmpty : ab_mk uw mX11_toEmpty := ⟨(uw_m6 152 rfl rfl), (uw_m1 12 rfl rfl), by decide +kernel, by decide +kernel, by decide +kernel, by decide⟩
set_option maxRecDepth 20000 in
theorem uc_X11_begin : ab_mk uw mX11_begin := ⟨(uw_m6 223 rfl rfl), (uw_m1 12 rfl rfl), by decide +kernel, by decide +kernel, by decide +kernel, by decide⟩
set_option maxRecDepth 20000 in
theorem uc_X11_findRows : ab_mk uw mX11_findRows := ⟨(uw_m6 239 rfl rfl), (uw_m1 12 rfl rfl), by decide +kernel, by decide +kernel, by decide +kernel, by decide⟩
set_option maxRecDepth 20000 in
theorem uc_X11_become : ab_mk uw mX11_become := ⟨(uw_m7 44 rfl rfl), (uw_m1 12 rfl rfl), by decide +kernel, by decide +kernel, by decide +kernel, by decide⟩
set_option maxRecDepth 20000 in
theorem uc_X11_grow : ab_mk uw mX11_grow := ⟨(uw_m6 227 rfl rfl), (uw_m1 12 rfl rfl), by decide +kernel, by decide +kernel, by decide +kernel, by decide⟩
set_option maxRecDepth 20000 in
theorem uc_X11_front : ab_mk uw mX11_front := ⟨(uw_m6 231 rfl rfl), (uw_m1 12 rfl rfl), by decide +kernel, by decide +kernel, by decide +kernel, by decide⟩
set_option maxRecDepth 20000 in
theorem uc_X11_back : ab_mk uw mX11_back := ⟨(uw_m6 235 rfl rfl), (uw_m1 12 rfl rfl), by decide +kernel, by decide +kernel, by decide +kernel, by decide⟩
set_option maxRecDepth 20000 in
theorem uc_X11_pattern : ab_mk uw mX11_pattern := ⟨(uw_m7 3 rfl rfl), (uw_m1 12 rfl rfl), by decide +kernel, by decide +kernel, by decide +kernel, by decide⟩
set_option maxRecDepth 20000 in
theorem uc_X11_patternByte : ab_mk uw mX11_patternByte := ⟨(uw_m7 7 rfl rfl), (uw_m1 12 rfl rfl), by decide +kernel, by decide +kernel, by decide +kernel, by decide⟩
set_option maxRecDepth 20000 in
theorem uc_X11_at : ab_mk uw mX11_at := ⟨(uw_m7 11 rfl rfl), (uw_m1 12 rfl rfl), by decide +kernel, by decide +kernel, by decide +kernel, by decide⟩
set_option maxRecDepth 20000 in
theorem uc_X11_isAt : ab_mk uw mX11_isAt := ⟨(uw_m7 20 rfl rfl), (uw_m1 12 rfl rfl), by decide +kernel, by decide +kernel, by decide +kernel, by decide⟩
set_option maxRecDepth 20000 in
theorem uc_X11_sorted : ab_mk uw mX11_sorted := ⟨(uw_m7 16 rfl rfl), (uw_m1 12 rfl rfl), by decide +kernel, by decide +kernel, by decide +kernel, by decide⟩
set_option maxRecDepth 20000 in
theorem uc_X11_more : ab_mk uw mX11_more := ⟨(uw_m7 24 rfl rfl), (uw_m1 12 rfl rfl), by decide +kernel, by decide +kernel, by decide +kernel, by decide⟩
set_option maxRecDepth 20000 in
theorem uc_X11_timesOf : ab_mk uw mX11_timesOf := ⟨(uw_m7 32 rfl rfl), (uw_m1 12 rfl rfl), by decide +kernel, by decide +kernel, by decide +kernel, by decide⟩
set_option maxRecDepth 20000 in
theorem uc_X11_ranked : ab_mk uw mX11_ranked := ⟨(uw_m7 28 rfl rfl), (uw_m1 12 rfl rfl), by decide +kernel, by decide +kernel, by decide +kernel, by decide⟩
set_option maxRecDepth 20000 in
theorem uc_X11_times : ab_mk uw mX11_times := ⟨(uw_m7 36 rfl rfl), (uw_m1 12 rfl rfl), by decide +kernel, by decide +kernel, by decide +kernel, by decide⟩
set_option maxRecDepth 20000 in
theorem uc_X11_take : ab_mk uw mX11_take := ⟨(uw_m7 40 rfl rfl), (uw_m1 12 rfl rfl), by decide +kernel, by decide +kernel, by decide +kernel, by decide⟩
set_option maxRecDepth 20000 in
theorem uc_X11_near : ab_mk uw mX11_near := ⟨(uw_m7 48 rfl rfl), (uw_m1 12 rfl rfl), by decide +kernel, by decide +kernel, by decide +kernel, by decide⟩
set_option maxRecDepth 20000 in
theorem uc_X11_nearOf : ab_mk uw mX11_nearOf := ⟨(uw_m7 52 rfl rfl), (uw_m1 12 rfl rfl), by decide +kernel, by decide +kernel, by decide +kernel, by decide⟩
set_option maxRecDepth 20000 in
theorem uc_X11_ask : ab_mk uw mX11_ask := ⟨(uw_m7 56 rfl rfl), (uw_m1 12 rfl rfl), by decide +kernel, by decide +kernel, by decide +kernel, by decide⟩
set_option maxRecDepth 20000 in
theorem uc_X11_sign : ab_mk uw mX11_sign := ⟨(uw_m7 72 rfl rfl), (uw_m1 12 rfl rfl), by decide +kernel, by decide +kernel, by decide +kernel, by decide⟩
set_option maxRecDepth 20000 in
theorem uc_X11_fail : ab_mk uw mX11_fail := ⟨(uw_m7 76 rfl rfl), (uw_m1 12 rfl rfl), by decide +kernel, by decide +kernel, by decide +kernel, by decide⟩
set_option maxRecDepth 20000 in
theorem uc_X11_isFigure : ab_mk uw mX11_isFigure := ⟨(uw_m7 91 rfl rfl), (uw_m1 12 rfl rfl), by decide +kernel, by decide +kernel, by decide +kernel, by decide⟩
set_option maxRecDepth 20000 in
theorem uc_X11_number : ab_mk uw mX11_number := ⟨(uw_m7 88 rfl rfl), (uw_m1 12 rfl rfl), by decide +kernel, by decide +kernel, by decide +kernel, by decide⟩
set_option maxRecDepth 20000 in
theorem uc_X11_braces : ab_mk uw mX11_braces := ⟨(uw_m7 84 rfl rfl), (uw_m1 12 rfl rfl), by decide +kernel, by decide +kernel, by decide +kernel, by decide⟩
set_option maxRecDepth 20000 in
theorem uc_X11_rangeByte : ab_mk uw mX11_rangeByte := ⟨(uw_m7 129 rfl rfl), (uw_m1 12 rfl rfl), by decide +kernel, by decide +kernel, by decide +kernel, by decide⟩
set_option maxRecDepth 20000 in
theorem uc_X11_ranges : ab_mk uw mX11_ranges := ⟨(uw_m7 125 rfl rfl), (uw_m1 12 rfl rfl), by decide +kernel, by decide +kernel, by decide +kernel, by decide⟩
set_option maxRecDepth 20000 in
theorem uc_X11_openOne : ab_mk uw mX11_openOne := ⟨(uw_m7 68 rfl rfl), (uw_m1 12 rfl rfl), by decide +kernel, by decide +kernel, by decide +kernel, by decide⟩
set_option maxRecDepth 20000 in
theorem uc_X11_addMade : ab_mk uw mX11_addMade := ⟨(uw_m7 100 rfl rfl), (uw_m1 12 rfl rfl), by decide +kernel, by decide +kernel, by decide +kernel, by decide⟩
set_option maxRecDepth 20000 in
theorem uc_X11_endRow : ab_mk uw mX11_endRow := ⟨(uw_m7 113 rfl rfl), (uw_m1 12 rfl rfl), by decide +kernel, by decide +kernel, by decide +kernel, by decide⟩
set_option maxRecDepth 20000 in
theorem uc_X11_begunAtom : ab_mk uw mX11_begunAtom := ⟨(uw_m7 117 rfl rfl), (uw_m1 12 rfl rfl), by decide +kernel, by decide +kernel, by decide +kernel, by decide⟩
set_option maxRecDepth 20000 in
theorem uc_X11_endItem : ab_mk uw mX11_endItem := ⟨(uw_m7 109 rfl rfl), (uw_m1 12 rfl rfl), by decide +kernel, by decide +kernel, by decide +kernel, by decide⟩
set_option maxRecDepth 20000 in
theorem uc_X11_again : ab_mk uw mX11_again := ⟨(uw_m7 105 rfl rfl), (uw_m1 12 rfl rfl), by decide +kernel, by decide +kernel, by decide +kernel, by decide⟩
set_option maxRecDepth 20000 in
theorem uc_X11_repeat : ab_mk uw mX11_repeat := ⟨(uw_m7 96 rfl rfl), (uw_m1 12 rfl rfl), by decide +kernel, by decide +kernel, by decide +kernel, by decide⟩
set_option maxRecDepth 20000 in
theorem uc_X11_goOver : ab_mk uw mX11_goOver := ⟨(uw_m7 64 rfl rfl), (uw_m1 12 rfl rfl), by decide +kernel, by decide +kernel, by decide +kernel, by decide⟩
set_option maxRecDepth 20000 in
theorem uc_X11_quantify : ab_mk uw mX11_quantify := ⟨(uw_m7 80 rfl rfl), (uw_m1 12 rfl rfl), by decide +kernel, by decide +kernel, by decide +kernel, by decide⟩
set_option maxRecDepth 20000 in
theorem uc_X11_atom : ab_mk uw mX11_atom := ⟨(uw_m7 121 rfl rfl), (uw_m1 12 rfl rfl), by decide +kernel, by decide +kernel, by decide +kernel, by decide⟩
set_option maxRecDepth 20000 in
theorem uc_X11_follow : ab_mk uw mX11_follow := ⟨(uw_m7 138 rfl rfl), (uw_m1 12 rfl rfl), by decide +kernel, by decide +kernel, by decide +kernel, by decide⟩
set_option maxRecDepth 20000 in
theorem uc_X11_findPositions : ab_mk uw mX11_findPositions := ⟨(uw_m7 134 rfl rfl), (uw_m1 12 rfl rfl), by decide +kernel, by decide +kernel, by decide +kernel, by decide⟩
set_option maxRecDepth 20000 in
theorem uc_X11_fits : ab_mk uw mX11_fits := ⟨(uw_m7 146 rfl rfl), (uw_m1 12 rfl rfl), by decide +kernel, by decide +kernel, by decide +kernel, by decide⟩
set_option maxRecDepth 20000 in
theorem uc_X11_matchFrom : ab_mk uw mX11_matchFrom := ⟨(uw_m7 142 rfl rfl), (uw_m1 12 rfl rfl), by decide +kernel, by decide +kernel, by decide +kernel, by decide⟩
set_option maxRecDepth 20000 in
theorem uc_X11_answer : ab_mk uw mX11_answer := ⟨(uw_m7 60 rfl rfl), (uw_m1 12 rfl rfl), by decide +kernel, by decide +kernel, by decide +kernel, by decide⟩
set_option maxRecDepth 20000 in
theorem uc_X11_answered : ab_mk uw mX11_answered := ⟨(uw_m7 150 rfl rfl), (uw_m1 12 rfl rfl), by decide +kernel, by decide +kernel, by decide +kernel, by decide⟩
set_option maxRecDepth 20000 in
theorem uc_X11_freshOf : ab_mk uw mX11_freshOf := ⟨(uw_m7 158 rfl rfl), (uw_m1 12 rfl rfl), by decide +kernel, by decide +kernel, by decide +kernel, by decide⟩
set_option maxRecDepth 20000 in
theorem uc_X11_different : ab_mk uw mX11_different := ⟨(uw_m7 154 rfl rfl), (uw_m1 12 rfl rfl), by decide +kernel, by decide +kernel, by decide +kernel, by decide⟩
set_option maxRecDepth 20000 in
theorem uc_X11_kth : ab_mk uw mX11_kth := ⟨(uw_m7 162 rfl rfl), (uw_m1 12 rfl rfl), by decide +kernel, by decide +kernel, by decide +kernel, by decide⟩
set_option maxRecDepth 20000 in
theorem uc_X11_order : ab_mk uw mX11_order := ⟨(uw_m7 166 rfl rfl), (uw_m1 12 rfl rfl), by decide +kernel, by decide +kernel, by decide +kernel, by decide⟩
set_option maxRecDepth 20000 in
theorem uc_X11_becomeBest : ab_mk uw mX11_becomeBest := ⟨(uw_m7 174 rfl rfl), (uw_m1 12 rfl rfl), by decide +kernel, by decide +kernel, by decide +kernel, by decide⟩
set_option maxRecDepth 20000 in
theorem uc_X11_repeated : ab_mk uw mX11_repeated := ⟨(uw_m7 170 rfl rfl), (uw_m1 12 rfl rfl), by decide +kernel, by decide +kernel, by decide +kernel, by decide⟩
set_option maxRecDepth 20000 in
theorem uc_X11_common : ab_mk uw mX11_common := ⟨(uw_m7 178 rfl rfl), (uw_m1 12 rfl rfl), by decide +kernel, by decide +kernel, by decide +kernel, by decide⟩
set_option maxRecDepth 20000 in
theorem uc_X11_oftenest : ab_mk uw mX11_oftenest := ⟨(uw_m7 182 rfl rfl), (uw_m1 12 rfl rfl), by decide +kernel, by decide +kernel, by decide +kernel, by decide⟩
set_option maxRecDepth 20000 in
theorem uc_X11_unique : ab_mk uw mX11_unique := ⟨(uw_m7 186 rfl rfl), (uw_m1 12 rfl rfl), by decide +kernel, by decide +kernel, by decide +kernel, by decide⟩
set_option maxRecDepth 20000 in
theorem uc_X11_isOneBefore : ab_mk uw mX11_isOneBefore := ⟨(uw_m7 194 rfl rfl), (uw_m1 12 rfl rfl), by decide +kernel, by decide +kernel, by decide +kernel, by decide⟩
set_option maxRecDepth 20000 in
theorem uc_X11_maximal : ab_mk uw mX11_maximal := ⟨(uw_m7 190 rfl rfl), (uw_m1 12 rfl rfl), by decide +kernel, by decide +kernel, by decide +kernel, by decide⟩
set_option maxRecDepth 20000 in
theorem uc_X11_absent : ab_mk uw mX11_absent := ⟨(uw_m7 198 rfl rfl), (uw_m1 12 rfl rfl), by decide +kernel, by decide +kernel, by decide +kernel, by decide⟩
set_option maxRecDepth 20000 in
theorem uc_X11_findFactors : ab_mk uw mX11_findFactors := ⟨(uw_m7 206 rfl rfl), (uw_m1 12 rfl rfl), by decide +kernel, by decide +kernel, by decide +kernel, by decide⟩
set_option maxRecDepth 20000 in
theorem uc_X11_factor : ab_mk uw mX11_factor := ⟨(uw_m7 202 rfl rfl), (uw_m1 12 rfl rfl), by decide +kernel, by decide +kernel, by decide +kernel, by decide⟩
set_option maxRecDepth 20000 in
theorem uc_X11_word : ab_mk uw mX11_word := ⟨(uw_m7 210 rfl rfl), (uw_m1 12 rfl rfl), by decide +kernel, by decide +kernel, by decide +kernel, by decide⟩
set_option maxRecDepth 20000 in
theorem uc_X11_square : ab_mk uw mX11_square := ⟨(uw_m7 214 rfl rfl), (uw_m1 12 rfl rfl), by decide +kernel, by decide +kernel, by decide +kernel, by decide⟩
set_option maxRecDepth 20000 in
theorem uc_X11_mirror : ab_mk uw mX11_mirror := ⟨(uw_m7 218 rfl rfl), (uw_m1 12 rfl rfl), by decide +kernel, by decide +kernel, by decide +kernel, by decide⟩
set_option maxRecDepth 20000 in
theorem uc_X11_match : ab_mk uw mX11_match := ⟨(uw_m7 222 rfl rfl), (uw_m1 12 rfl rfl), by decide +kernel, by decide +kernel, by decide +kernel, by decide⟩
set_option maxRecDepth 20000 in
theorem uc_X11_countRows : ab_mk uw mX11_countRows := ⟨(uw_m7 234 rfl rfl), (uw_m1 12 rfl rfl), by decide +kernel, by decide +kernel, by decide +kernel, by decide⟩
set_option maxRecDepth 20000 in
theorem uc_X11_countBytes : ab_mk uw mX11_countBytes := ⟨(uw_m7 230 rfl rfl), (uw_m1 12 rfl rfl), by decide +kernel, by decide +kernel, by decide +kernel, by decide⟩
set_option maxRecDepth 20000 in
theorem uc_X11_count : ab_mk uw mX11_count := ⟨(uw_m7 226 rfl rfl), (uw_m1 12 rfl rfl), by decide +kernel, by decide +kernel, by decide +kernel, by decide⟩
set_option maxRecDepth 20000 in
theorem uc_X11_unwound : ab_mk uw mX11_unwound := ⟨(uw_m7 238 rfl rfl), (uw_m1 12 rfl rfl), by decide +kernel, by decide +kernel, by decide +kernel, by decide⟩
set_option maxRecDepth 20000 in
theorem uc_J7_rangeCheck_23922 : ab_mk uw mJ7_rangeCheck_23922 := ⟨(uw_m2 216 rfl rfl), (uw_m1 14 rfl rfl), by decide +kernel, by decide +kernel, by decide +kernel, by decide⟩
set_option maxRecDepth 20000 in
theorem uc_J7_fill_bad5a : ab_mk uw mJ7_fill_bad5a := ⟨(uw_m4 42 rfl rfl), (uw_m1 14 rfl rfl), by decide +kernel, by decide +kernel, by decide +kernel, by decide⟩
set_option maxRecDepth 20000 in
theorem uc_J7_fill_53178 : ab_mk uw mJ7_fill_53178 := ⟨(uw_m3 201 rfl rfl), (uw_m1 14 rfl rfl), by decide +kernel, by decide +kernel, by decide +kernel, by decide⟩
set_option maxRecDepth 20000 in
theorem uc_J7_fill_fda19 : ab_mk uw mJ7_fill_fda19 := ⟨(uw_m2 213 rfl rfl), (uw_m1 14 rfl rfl), by decide +kernel, by decide +kernel, by decide +kernel, by decide⟩
def ufl_J7 : List ab_3 := []
set_option maxRecDepth 20000 in
theorem uf_J7 : ∀ q ∈ ufl_J7, ab_okF uw vwCl RJ7 q := fun _ h => absurd h List.not_mem_nil
def ukl_J7 : List ab_3 := []
set_option maxRecDepth 20000 in
theorem uk_J7 : ∀ q ∈ ukl_J7, ab_okK uw RJ7 q := fun _ h => absurd h List.not_mem_nil
def uvl_J7 : List ab_3 := []
set_option maxRecDepth 20000 in
theorem uv_J7 : ∀ q ∈ uvl_J7, ab_okV uw vwCl prg RJ7 q := fun _ h => absurd h List.not_mem_nil
set_option maxRecDepth 20000 in
theorem us_J7_0 : ab_okS uw vwCl prg RJ7 (13, 249, 3) := ⟨mJ7_rangeCheck_23922, rfl, (uw_m2 214 rfl rfl), (uw_m2 215 rfl rfl), by decide +kernel⟩
def usl_J7 : List ab_3 := [(13, 249, 3)]
set_option maxRecDepth 20000 in
theorem us_J7 : ∀ q ∈ usl_J7, ab_okS uw vwCl prg RJ7 q := List.forall_mem_cons.mpr ⟨us_J7_0, fun _ h => absurd h List.not_mem_nil⟩
set_option maxRecDepth 20000 in
theorem uf_X0_0 : ab_okF uw vwCl RX0 (9, 0, 0) := ⟨RX0, TX0, 5, rfl, by decide, (uw_m1 30 rfl rfl)⟩
set_option maxRecDepth 20000 in
theorem uf_X0_1 : ab_okF uw vwCl RX0 (15, 0, 1) := ⟨RX0, TX0, 5, rfl, by decide, (uw_m1 32 rfl rfl)⟩
set_option maxRecDepth 20000 in
theorem uf_X0_2 : ab_okF uw vwCl RX0 (18, 0, 2) := ⟨RX0, TX0, 5, rfl, by decide, (uw_m1 34 rfl rfl)⟩
set_option maxRecDepth 20000 in
theorem uf_X0_3 : ab_okF uw vwCl RX0 (21, 0, 4) := ⟨RX0, TX0, 5, rfl, by decide, (uw_m1 39 rfl rfl)⟩
set_option maxRecDepth 20000 in
theorem uf_X0_4 : ab_okF uw vwCl RX0 (25, 0, 3) := ⟨RX0, TX0, 5, rfl, by decide, (uw_m1 36 rfl rfl)⟩
def ufl_X0 : List ab_3 := [(9, 0, 0), (15, 0, 1), (18, 0, 2), (21, 0, 4), (25, 0, 3)]
set_option maxRecDepth 20000 in
theorem uf_X0 : ∀ q ∈ ufl_X0, ab_okF uw vwCl RX0 q := List.forall_mem_cons.mpr ⟨uf_X0_0, List.forall_mem_cons.mpr ⟨uf_X0_1, List.forall_mem_cons.mpr ⟨uf_X0_2, List.forall_mem_cons.mpr ⟨uf_X0_3, List.forall_mem_cons.mpr ⟨uf_X0_4, fun _ h => absurd h List.not_mem_nil⟩⟩⟩⟩⟩
def ukl_X0 : List ab_3 := []
set_option maxRecDepth 20000 in
theorem uk_X0 : ∀ q ∈ ukl_X0, ab_okK uw RX0 q := fun _ h => absurd h List.not_mem_nil
def uvl_X0 : List ab_3 := []
set_option maxRecDepth 20000 in
theorem uv_X0 : ∀ q ∈ uvl_X0, ab_okV uw vwCl prg RX0 q := fun _ h => absurd h List.not_mem_nil
set_option maxRecDepth 20000 in
theorem us_X0_0 : ab_okS uw vwCl prg RX0 (28, 1002, 5) := ⟨(uw_m2 191 rfl rfl), (uw_m2 193 rfl rfl), (uw_m2 192 rfl rfl), (uw_m1 13 rfl rfl)⟩
def usl_X0 : List ab_3 := [(28, 1002, 5)]
set_option maxRecDepth 20000 in
theorem us_X0 : ∀ q ∈ usl_X0, ab_okS uw vwCl prg RX0 q := List.forall_mem_cons.mpr ⟨us_X0_0, fun _ h => absurd h List.not_mem_nil⟩
set_option maxRecDepth 20000 in
theorem uf_X1_0 : ab_okF uw vwCl RX1 (9, 1, 1) := ⟨RX1, TX1, 8, rfl, by decide, (uw_m1 154 rfl rfl)⟩
set_option maxRecDepth 20000 in
theorem uf_X1_1 : ab_okF uw vwCl RX1 (15, 1, 2) := ⟨RX1, TX1, 8, rfl, by decide, (uw_m1 155 rfl rfl)⟩
set_option maxRecDepth 20000 in
theorem uf_X1_2 : ab_okF uw vwCl RX1 (19, 1, 0) := ⟨RX1, TX1, 8, rfl, by decide, (uw_m1 153 rfl rfl)⟩
set_option maxRecDepth 20000 in
theorem uf_X1_3 : ab_okF uw vwCl RX1 (27, 1, 3) := ⟨RX1, TX1, 8, rfl, by decide, (uw_m1 156 rfl rfl)⟩
set_option maxRecDepth 20000 in
theorem uf_X1_4 : ab_okF uw vwCl RX1 (31, 1, 4) := ⟨RX1, TX1, 8, rfl, by decide, (uw_m1 158 rfl rfl)⟩
set_option maxRecDepth 20000 in
theorem uf_X1_5 : ab_okF uw vwCl RX1 (34, 1, 5) := ⟨RX1, TX1, 8, rfl, by decide, (uw_m1 162 rfl rfl)⟩
set_option maxRecDepth 20000 in
theorem uf_X1_6 : ab_okF uw vwCl RX1 (37, 2, 4) := ⟨RX2, TX2, 12, rfl, by decide, (uw_m1 94 rfl rfl)⟩
set_option maxRecDepth 20000 in
theorem uf_X1_7 : ab_okF uw vwCl RX1 (42, 1, 6) := ⟨RX1, TX1, 8, rfl, by decide, (uw_m1 165 rfl rfl)⟩
set_option maxRecDepth 20000 in
theorem uf_X1_8 : ab_okF uw vwCl RX1 (45, 2, 5) := ⟨RX2, TX2, 12, rfl, by decide, (uw_m1 100 rfl rfl)⟩
set_option maxRecDepth 20000 in
theorem uf_X1_9 : ab_okF uw vwCl RX1 (48, 1, 7) := ⟨RX1, TX1, 8, rfl, by decide, (uw_m1 168 rfl rfl)⟩
set_option maxRecDepth 20000 in
theorem uf_X1_10 : ab_okF uw vwCl RX1 (51, 2, 8) := ⟨RX2, TX2, 12, rfl, by decide, (uw_m1 112 rfl rfl)⟩
set_option maxRecDepth 20000 in
theorem uf_X1_11 : ab_okF uw vwCl RX1 (54, 2, 0) := ⟨RX2, TX2, 12, rfl, by decide, (uw_m1 77 rfl rfl)⟩
set_option maxRecDepth 20000 in
theorem uf_X1_12 : ab_okF uw vwCl RX1 (57, 2, 3) := ⟨RX2, TX2, 12, rfl, by decide, (uw_m1 90 rfl rfl)⟩
set_option maxRecDepth 20000 in
theorem uf_X1_13 : ab_okF uw vwCl RX1 (60, 2, 6) := ⟨RX2, TX2, 12, rfl, by decide, (uw_m1 105 rfl rfl)⟩
set_option maxRecDepth 20000 in
theorem uf_X1_14 : ab_okF uw vwCl RX1 (82, 2, 1) := ⟨RX2, TX2, 12, rfl, by decide, (uw_m1 82 rfl rfl)⟩
set_option maxRecDepth 20000 in
theorem uf_X1_15 : ab_okF uw vwCl RX1 (85, 2, 9) := ⟨RX2, TX2, 12, rfl, by decide, (uw_m1 116 rfl rfl)⟩
def ufl_X1 : List ab_3 := [(9, 1, 1), (15, 1, 2), (19, 1, 0), (27, 1, 3), (31, 1, 4), (34, 1, 5), (37, 2, 4), (42, 1, 6), (45, 2, 5), (48, 1, 7), (51, 2, 8), (54, 2, 0), (57, 2, 3), (60, 2, 6), (82, 2, 1), (85, 2, 9)]
set_option maxRecDepth 20000 in
theorem uf_X1 : ∀ q ∈ ufl_X1, ab_okF uw vwCl RX1 q := List.forall_mem_cons.mpr ⟨uf_X1_0, List.forall_mem_cons.mpr ⟨uf_X1_1, List.forall_mem_cons.mpr ⟨uf_X1_2, List.forall_mem_cons.mpr ⟨uf_X1_3, List.forall_mem_cons.mpr ⟨uf_X1_4, List.forall_mem_cons.mpr ⟨uf_X1_5, List.forall_mem_cons.mpr ⟨uf_X1_6, List.forall_mem_cons.mpr ⟨uf_X1_7, List.forall_mem_cons.mpr ⟨uf_X1_8, List.forall_mem_cons.mpr ⟨uf_X1_9, List.forall_mem_cons.mpr ⟨uf_X1_10, List.forall_mem_cons.mpr ⟨uf_X1_11, List.forall_mem_cons.mpr ⟨uf_X1_12, List.forall_mem_cons.mpr ⟨uf_X1_13, List.forall_mem_cons.mpr ⟨uf_X1_14, List.forall_mem_cons.mpr ⟨uf_X1_15, fun _ h => absurd h List.not_mem_nil⟩⟩⟩⟩⟩⟩⟩⟩⟩⟩⟩⟩⟩⟩⟩⟩
def ukl_X1 : List ab_3 := []
set_option maxRecDepth 20000 in
theorem uk_X1 : ∀ q ∈ ukl_X1, ab_okK uw RX1 q := fun _ h => absurd h List.not_mem_nil
set_option maxRecDepth 20000 in
theorem uv_X1_0 : ab_okV uw vwCl prg RX1 (23, 5, 2) := ⟨mX1_stand, rfl, (uw_m3 50 rfl rfl), (uw_m3 52 rfl rfl), (uw_mem 10 (by decide +kernel) rfl), ⟨TX1, 8, rfl⟩, by decide +kernel⟩
set_option maxRecDepth 20000 in
theorem uv_X1_1 : ab_okV uw vwCl prg RX1 (63, 7, 2) := ⟨mX1_beside, rfl, (uw_m3 154 rfl rfl), (uw_m3 156 rfl rfl), (uw_mem 11 (by decide +kernel) rfl), ⟨TX1, 8, rfl⟩, by decide +kernel⟩
set_option maxRecDepth 20000 in
theorem uv_X1_2 : ab_okV uw vwCl prg RX1 (67, 6, 0) := ⟨mX1_rows, rfl, (uw_m3 158 rfl rfl), (uw_m3 143 rfl rfl), (uw_m3 144 rfl rfl), ⟨TX1, 8, rfl⟩, by decide +kernel⟩
set_option maxRecDepth 20000 in
theorem uv_X1_3 : ab_okV uw vwCl prg RX1 (76, 13, 0) := ⟨mX1_countByDocument, rfl, (uw_m3 210 rfl rfl), (uw_m3 212 rfl rfl), (uw_mem 12 (by decide +kernel) rfl), ⟨TX1, 8, rfl⟩, by decide +kernel⟩
set_option maxRecDepth 20000 in
theorem uv_X1_4 : ab_okV uw vwCl prg RX1 (88, 15, 1) := ⟨mX1_documentsAheadOf, rfl, (uw_m3 215 rfl rfl), (uw_m3 217 rfl rfl), (uw_mem 13 (by decide +kernel) rfl), ⟨TX1, 8, rfl⟩, by decide +kernel⟩
def uvl_X1 : List ab_3 := [(23, 5, 2), (63, 7, 2), (67, 6, 0), (76, 13, 0), (88, 15, 1)]
set_option maxRecDepth 20000 in
theorem uv_X1 : ∀ q ∈ uvl_X1, ab_okV uw vwCl prg RX1 q := List.forall_mem_cons.mpr ⟨uv_X1_0, List.forall_mem_cons.mpr ⟨uv_X1_1, List.forall_mem_cons.mpr ⟨uv_X1_2, List.forall_mem_cons.mpr ⟨uv_X1_3, List.forall_mem_cons.mpr ⟨uv_X1_4, fun _ h => absurd h List.not_mem_nil⟩⟩⟩⟩⟩
set_option maxRecDepth 20000 in
theorem us_X1_0 : ab_okS uw vwCl prg RX1 (70, 251, 2) := ⟨mJ7_fill_53178, rfl, (uw_m3 199 rfl rfl), (uw_m3 200 rfl rfl), by decide +kernel⟩
set_option maxRecDepth 20000 in
theorem us_X1_1 : ab_okS uw vwCl prg RX1 (79, 252, 4) := ⟨mJ7_fill_fda19, rfl, (uw_m3 214 rfl rfl), (uw_m2 212 rfl rfl), by decide +kernel⟩
def usl_X1 : List ab_3 := [(70, 251, 2), (79, 252, 4)]
set_option maxRecDepth 20000 in
theorem us_X1 : ∀ q ∈ usl_X1, ab_okS uw vwCl prg RX1 q := List.forall_mem_cons.mpr ⟨us_X1_0, List.forall_mem_cons.mpr ⟨us_X1_1, fun _ h => absurd h List.not_mem_nil⟩⟩
set_option maxRecDepth 20000 in
theorem uf_X10_0 : ab_okF uw vwCl RX10 (10, 10, 0) := ⟨RX10, TX10, 8, rfl, by decide, (uw_m2 142 rfl rfl)⟩
set_option maxRecDepth 20000 in
theorem uf_X10_1 : ab_okF uw vwCl RX10 (19, 10, 1) := ⟨RX10, TX10, 8, rfl, by decide, (uw_m2 143 rfl rfl)⟩
set_option maxRecDepth 20000 in
theorem uf_X10_2 : ab_okF uw vwCl RX10 (28, 10, 2) := ⟨RX10, TX10, 8, rfl, by decide, (uw_m2 144 rfl rfl)⟩
set_option maxRecDepth 20000 in
theorem uf_X10_3 : ab_okF uw vwCl RX10 (37, 10, 3) := ⟨RX10, TX10, 8, rfl, by decide, (uw_m2 145 rfl rfl)⟩
set_option maxRecDepth 20000 in
theorem uf_X10_4 : ab_okF uw vwCl RX10 (44, 10, 4) := ⟨RX10, TX10, 8, rfl, by decide, (uw_m2 146 rfl rfl)⟩
set_option maxRecDepth 20000 in
theorem uf_X10_5 : ab_okF uw vwCl RX10 (53, 10, 5) := ⟨RX10, TX10, 8, rfl, by decide, (uw_m2 147 rfl rfl)⟩
set_option maxRecDepth 20000 in
theorem uf_X10_6 : ab_okF uw vwCl RX10 (60, 10, 6) := ⟨RX10, TX10, 8, rfl, by decide, (uw_m2 148 rfl rfl)⟩
set_option maxRecDepth 20000 in
theorem uf_X10_7 : ab_okF uw vwCl RX10 (67, 10, 7) := ⟨RX10, TX10, 8, rfl, by decide, (uw_m2 149 rfl rfl)⟩
set_option maxRecDepth 20000 in
theorem uf_X10_8 : ab_okF uw vwCl RX10 (71, 0, 4) := ⟨RX0, TX0, 5, rfl, by decide, (uw_m1 38 rfl rfl)⟩
set_option maxRecDepth 20000 in
theorem uf_X10_9 : ab_okF uw vwCl RX10 (90, 0, 3) := ⟨RX0, TX0, 5, rfl, by decide, (uw_m1 37 rfl rfl)⟩
set_option maxRecDepth 20000 in
theorem uf_X10_10 : ab_okF uw vwCl RX10 (104, 4, 4) := ⟨RX4, TX4, 5, rfl, by decide, (uw_m1 200 rfl rfl)⟩
set_option maxRecDepth 20000 in
theorem uf_X10_11 : ab_okF uw vwCl RX10 (110, 2, 8) := ⟨RX2, TX2, 12, rfl, by decide, (uw_m1 114 rfl rfl)⟩
set_option maxRecDepth 20000 in
theorem uf_X10_12 : ab_okF uw vwCl RX10 (117, 2, 3) := ⟨RX2, TX2, 12, rfl, by decide, (uw_m1 91 rfl rfl)⟩
set_option maxRecDepth 20000 in
theorem uf_X10_13 : ab_okF uw vwCl RX10 (124, 2, 4) := ⟨RX2, TX2, 12, rfl, by decide, (uw_m1 96 rfl rfl)⟩
set_option maxRecDepth 20000 in
theorem uf_X10_14 : ab_okF uw vwCl RX10 (127, 2, 5) := ⟨RX2, TX2, 12, rfl, by decide, (uw_m1 102 rfl rfl)⟩
set_option maxRecDepth 20000 in
theorem uf_X10_15 : ab_okF uw vwCl RX10 (130, 2, 6) := ⟨RX2, TX2, 12, rfl, by decide, (uw_m1 106 rfl rfl)⟩
set_option maxRecDepth 20000 in
theorem uf_X10_16 : ab_okF uw vwCl RX10 (149, 2, 1) := ⟨RX2, TX2, 12, rfl, by decide, (uw_m1 84 rfl rfl)⟩
set_option maxRecDepth 20000 in
theorem uf_X10_17 : ab_okF uw vwCl RX10 (155, 2, 2) := ⟨RX2, TX2, 12, rfl, by decide, (uw_m1 87 rfl rfl)⟩
set_option maxRecDepth 20000 in
theorem uf_X10_18 : ab_okF uw vwCl RX10 (173, 1, 5) := ⟨RX1, TX1, 8, rfl, by decide, (uw_m1 164 rfl rfl)⟩
set_option maxRecDepth 20000 in
theorem uf_X10_19 : ab_okF uw vwCl RX10 (176, 1, 6) := ⟨RX1, TX1, 8, rfl, by decide, (uw_m1 167 rfl rfl)⟩
set_option maxRecDepth 20000 in
theorem uf_X10_20 : ab_okF uw vwCl RX10 (179, 1, 3) := ⟨RX1, TX1, 8, rfl, by decide, (uw_m1 157 rfl rfl)⟩
set_option maxRecDepth 20000 in
theorem uf_X10_21 : ab_okF uw vwCl RX10 (182, 2, 0) := ⟨RX2, TX2, 12, rfl, by decide, (uw_m1 79 rfl rfl)⟩
set_option maxRecDepth 20000 in
theorem uf_X10_22 : ab_okF uw vwCl RX10 (185, 1, 4) := ⟨RX1, TX1, 8, rfl, by decide, (uw_m1 160 rfl rfl)⟩
set_option maxRecDepth 20000 in
theorem uf_X10_23 : ab_okF uw vwCl RX10 (203, 4, 2) := ⟨RX4, TX4, 5, rfl, by decide, (uw_m1 196 rfl rfl)⟩
set_option maxRecDepth 20000 in
theorem uf_X10_24 : ab_okF uw vwCl RX10 (204, 4, 3) := ⟨RX4, TX4, 5, rfl, by decide, (uw_m1 198 rfl rfl)⟩
set_option maxRecDepth 20000 in
theorem uf_X10_25 : ab_okF uw vwCl RX10 (213, 6, 8) := ⟨RX6, TX6, 9, rfl, by decide, (uw_m1 234 rfl rfl)⟩
set_option maxRecDepth 20000 in
theorem uf_X10_26 : ab_okF uw vwCl RX10 (219, 6, 6) := ⟨RX6, TX6, 9, rfl, by decide, (uw_m1 231 rfl rfl)⟩
set_option maxRecDepth 20000 in
theorem uf_X10_27 : ab_okF uw vwCl RX10 (277, 2, 9) := ⟨RX2, TX2, 12, rfl, by decide, (uw_m1 117 rfl rfl)⟩
set_option maxRecDepth 20000 in
theorem uf_X10_28 : ab_okF uw vwCl RX10 (278, 2, 10) := ⟨RX2, TX2, 12, rfl, by decide, (uw_m1 119 rfl rfl)⟩
set_option maxRecDepth 20000 in
theorem uf_X10_29 : ab_okF uw vwCl RX10 (281, 2, 11) := ⟨RX2, TX2, 12, rfl, by decide, (uw_m1 121 rfl rfl)⟩
set_option maxRecDepth 20000 in
theorem uf_X10_30 : ab_okF uw vwCl RX10 (284, 7, 3) := ⟨RX7, TX7, 5, rfl, by decide, (uw_m2 101 rfl rfl)⟩
def ufl_X10 : List ab_3 := [(10, 10, 0), (19, 10, 1), (28, 10, 2), (37, 10, 3), (44, 10, 4), (53, 10, 5), (60, 10, 6), (67, 10, 7), (71, 0, 4), (90, 0, 3), (104, 4, 4), (110, 2, 8), (117, 2, 3), (124, 2, 4), (127, 2, 5), (130, 2, 6), (149, 2, 1), (155, 2, 2), (173, 1, 5), (176, 1, 6), (179, 1, 3), (182, 2, 0), (185, 1, 4), (203, 4, 2), (204, 4, 3), (213, 6, 8), (219, 6, 6), (277, 2, 9), (278, 2, 10), (281, 2, 11), (284, 7, 3)]
set_option maxRecDepth 20000 in
theorem uf_X10 : ∀ q ∈ ufl_X10, ab_okF uw vwCl RX10 q := List.forall_mem_cons.mpr ⟨uf_X10_0, List.forall_mem_cons.mpr ⟨uf_X10_1, List.forall_mem_cons.mpr ⟨uf_X10_2, List.forall_mem_cons.mpr ⟨uf_X10_3, List.forall_mem_cons.mpr ⟨uf_X10_4, List.forall_mem_cons.mpr ⟨uf_X10_5, List.forall_mem_cons.mpr ⟨uf_X10_6, List.forall_mem_cons.mpr ⟨uf_X10_7, List.forall_mem_cons.mpr ⟨uf_X10_8, List.forall_mem_cons.mpr ⟨uf_X10_9, List.forall_mem_cons.mpr ⟨uf_X10_10, List.forall_mem_cons.mpr ⟨uf_X10_11, List.forall_mem_cons.mpr ⟨uf_X10_12, List.forall_mem_cons.mpr ⟨uf_X10_13, List.forall_mem_cons.mpr ⟨uf_X10_14, List.forall_mem_cons.mpr ⟨uf_X10_15, List.forall_mem_cons.mpr ⟨uf_X10_16, List.forall_mem_cons.mpr ⟨uf_X10_17, List.forall_mem_cons.mpr ⟨uf_X10_18, List.forall_mem_cons.mpr ⟨uf_X10_19, List.forall_mem_cons.mpr ⟨uf_X10_20, List.forall_mem_cons.mpr ⟨uf_X10_21, List.forall_mem_cons.mpr ⟨uf_X10_22, List.forall_mem_cons.mpr ⟨uf_X10_23, List.forall_mem_cons.mpr ⟨uf_X10_24, List.forall_mem_cons.mpr ⟨uf_X10_25, List.forall_mem_cons.mpr ⟨uf_X10_26, List.forall_mem_cons.mpr ⟨uf_X10_27, List.forall_mem_cons.mpr ⟨uf_X10_28, List.forall_mem_cons.mpr ⟨uf_X10_29, List.forall_mem_cons.mpr ⟨uf_X10_30, fun _ h => absurd h List.not_mem_nil⟩⟩⟩⟩⟩⟩⟩⟩⟩⟩⟩⟩⟩⟩⟩⟩⟩⟩⟩⟩⟩⟩⟩⟩⟩⟩⟩⟩⟩⟩⟩
def ukl_X10 : List ab_3 := []
set_option maxRecDepth 20000 in
theorem uk_X10 : ∀ q ∈ ukl_X10, ab_okK uw RX10 q := fun _ h => absurd h List.not_mem_nil
set_option maxRecDepth 20000 in
theorem uv_X10_0 : ab_okV uw vwCl prg RX10 (75, 0, 1) := ⟨mX0_addFour, rfl, (uw_m2 171 rfl rfl), (uw_m2 172 rfl rfl), (uw_m2 173 rfl rfl), ⟨TX0, 5, rfl⟩, by decide +kernel⟩
set_option maxRecDepth 20000 in
theorem uv_X10_1 : ab_okV uw vwCl prg RX10 (79, 1, 1) := ⟨mX0_keepOfLast, rfl, (uw_m2 179 rfl rfl), (uw_m2 180 rfl rfl), (uw_m2 181 rfl rfl), ⟨TX0, 5, rfl⟩, by decide +kernel⟩
set_option maxRecDepth 20000 in
theorem uv_X10_2 : ab_okV uw vwCl prg RX10 (83, 2, 0) := ⟨mX0_endDocument, rfl, (uw_m2 187 rfl rfl), (uw_m2 188 rfl rfl), (uw_m2 189 rfl rfl), ⟨TX0, 5, rfl⟩, by decide +kernel⟩
set_option maxRecDepth 20000 in
theorem uv_X10_3 : ab_okV uw vwCl prg RX10 (87, 3, 0) := ⟨mX0_dropAll, rfl, (uw_m2 198 rfl rfl), (uw_m2 199 rfl rfl), (uw_m2 200 rfl rfl), ⟨TX0, 5, rfl⟩, by decide +kernel⟩
set_option maxRecDepth 20000 in
theorem uv_X10_4 : ab_okV uw vwCl prg RX10 (93, 16, 2) := ⟨mX2_learn, rfl, (uw_m2 206 rfl rfl), (uw_m2 207 rfl rfl), (uw_m2 208 rfl rfl), ⟨TX2, 12, rfl⟩, by decide +kernel⟩
set_option maxRecDepth 20000 in
theorem uv_X10_5 : ab_okV uw vwCl prg RX10 (97, 80, 0) := ⟨mX7_learn, rfl, (uw_m3 17 rfl rfl), (uw_m3 18 rfl rfl), (uw_m3 19 rfl rfl), ⟨TX7, 5, rfl⟩, by decide +kernel⟩
set_option maxRecDepth 20000 in
theorem uv_X10_6 : ab_okV uw vwCl prg RX10 (99, 42, 0) := ⟨mX5_learn, rfl, (uw_m3 22 rfl rfl), (uw_m3 23 rfl rfl), (uw_m3 24 rfl rfl), ⟨TX5, 7, rfl⟩, by decide +kernel⟩
set_option maxRecDepth 20000 in
theorem uv_X10_7 : ab_okV uw vwCl prg RX10 (100, 4, 2) := ⟨mX1_become, rfl, (uw_m3 46 rfl rfl), (uw_m3 47 rfl rfl), (uw_m3 48 rfl rfl), ⟨TX1, 8, rfl⟩, by decide +kernel⟩
set_option maxRecDepth 20000 in
theorem uv_X10_8 : ab_okV uw vwCl prg RX10 (107, 32, 0) := ⟨mX3_forget, rfl, (uw_m3 54 rfl rfl), (uw_m3 55 rfl rfl), (uw_m3 56 rfl rfl), ⟨TX3, 11, rfl⟩, by decide +kernel⟩
set_option maxRecDepth 20000 in
theorem uv_X10_9 : ab_okV uw vwCl prg RX10 (113, 21, 1) := ⟨mX2_has, rfl, (uw_m3 62 rfl rfl), (uw_m3 63 rfl rfl), (uw_m3 64 rfl rfl), ⟨TX2, 12, rfl⟩, by decide +kernel⟩
set_option maxRecDepth 20000 in
theorem uv_X10_10 : ab_okV uw vwCl prg RX10 (121, 26, 1) := ⟨mX2_tell, rfl, (uw_m3 66 rfl rfl), (uw_m3 67 rfl rfl), (uw_m3 68 rfl rfl), ⟨TX2, 12, rfl⟩, by decide +kernel⟩
set_option maxRecDepth 20000 in
theorem uv_X10_11 : ab_okV uw vwCl prg RX10 (133, 27, 1) := ⟨mX2_rowInFront, rfl, (uw_m3 86 rfl rfl), (uw_m3 87 rfl rfl), (uw_m3 88 rfl rfl), ⟨TX2, 12, rfl⟩, by decide +kernel⟩
set_option maxRecDepth 20000 in
theorem uv_X10_12 : ab_okV uw vwCl prg RX10 (139, 28, 2) := ⟨mX2_frontsUpTo, rfl, (uw_m3 97 rfl rfl), (uw_m3 98 rfl rfl), (uw_m3 99 rfl rfl), ⟨TX2, 12, rfl⟩, by decide +kernel⟩
set_option maxRecDepth 20000 in
theorem uv_X10_13 : ab_okV uw vwCl prg RX10 (143, 29, 2) := ⟨mX2_rowOfFront, rfl, (uw_m3 105 rfl rfl), (uw_m3 106 rfl rfl), (uw_m3 107 rfl rfl), ⟨TX2, 12, rfl⟩, by decide +kernel⟩
set_option maxRecDepth 20000 in
theorem uv_X10_14 : ab_okV uw vwCl prg RX10 (146, 25, 1) := ⟨mX2_byteOf, rfl, (uw_m3 113 rfl rfl), (uw_m3 114 rfl rfl), (uw_m3 115 rfl rfl), ⟨TX2, 12, rfl⟩, by decide +kernel⟩
set_option maxRecDepth 20000 in
theorem uv_X10_15 : ab_okV uw vwCl prg RX10 (152, 22, 1) := ⟨mX2_hasDocument, rfl, (uw_m3 121 rfl rfl), (uw_m3 122 rfl rfl), (uw_m3 123 rfl rfl), ⟨TX2, 12, rfl⟩, by decide +kernel⟩
set_option maxRecDepth 20000 in
theorem uv_X10_16 : ab_okV uw vwCl prg RX10 (158, 24, 1) := ⟨mX2_bytesFrom, rfl, (uw_m3 125 rfl rfl), (uw_m3 126 rfl rfl), (uw_m3 127 rfl rfl), ⟨TX2, 12, rfl⟩, by decide +kernel⟩
set_option maxRecDepth 20000 in
theorem uv_X10_17 : ab_okV uw vwCl prg RX10 (161, 20, 2) := ⟨mX2_alikeFrom, rfl, (uw_m3 133 rfl rfl), (uw_m3 134 rfl rfl), (uw_m3 135 rfl rfl), ⟨TX2, 12, rfl⟩, by decide +kernel⟩
set_option maxRecDepth 20000 in
theorem uv_X10_18 : ab_okV uw vwCl prg RX10 (164, 6, 0) := ⟨mX1_rows, rfl, (uw_m3 142 rfl rfl), (uw_m3 143 rfl rfl), (uw_m3 144 rfl rfl), ⟨TX1, 8, rfl⟩, by decide +kernel⟩
set_option maxRecDepth 20000 in
theorem uv_X10_19 : ab_okV uw vwCl prg RX10 (166, 8, 2) := ⟨mX1_extend, rfl, (uw_m3 150 rfl rfl), (uw_m3 151 rfl rfl), (uw_m3 152 rfl rfl), ⟨TX1, 8, rfl⟩, by decide +kernel⟩
set_option maxRecDepth 20000 in
theorem uv_X10_20 : ab_okV uw vwCl prg RX10 (170, 9, 0) := ⟨mX1_undo, rfl, (uw_m3 167 rfl rfl), (uw_m3 168 rfl rfl), (uw_m3 169 rfl rfl), ⟨TX1, 8, rfl⟩, by decide +kernel⟩
set_option maxRecDepth 20000 in
theorem uv_X10_21 : ab_okV uw vwCl prg RX10 (188, 10, 1) := ⟨mX1_placeInOrder, rfl, (uw_m3 187 rfl rfl), (uw_m3 188 rfl rfl), (uw_m3 189 rfl rfl), ⟨TX1, 8, rfl⟩, by decide +kernel⟩
set_option maxRecDepth 20000 in
theorem uv_X10_22 : ab_okV uw vwCl prg RX10 (191, 11, 2) := ⟨mX1_neighbour, rfl, (uw_m3 195 rfl rfl), (uw_m3 196 rfl rfl), (uw_m3 197 rfl rfl), ⟨TX1, 8, rfl⟩, by decide +kernel⟩
set_option maxRecDepth 20000 in
theorem uv_X10_23 : ab_okV uw vwCl prg RX10 (194, 14, 1) := ⟨mX1_documentInOrder, rfl, (uw_m3 206 rfl rfl), (uw_m3 207 rfl rfl), (uw_m3 208 rfl rfl), ⟨TX1, 8, rfl⟩, by decide +kernel⟩
set_option maxRecDepth 20000 in
theorem uv_X10_24 : ab_okV uw vwCl prg RX10 (197, 12, 1) := ⟨mX1_placesIn, rfl, (uw_m3 223 rfl rfl), (uw_m3 224 rfl rfl), (uw_m3 225 rfl rfl), ⟨TX1, 8, rfl⟩, by decide +kernel⟩
set_option maxRecDepth 20000 in
theorem uv_X10_25 : ab_okV uw vwCl prg RX10 (200, 40, 1) := ⟨mX4_find, rfl, (uw_m3 235 rfl rfl), (uw_m3 236 rfl rfl), (uw_m3 237 rfl rfl), ⟨TX4, 5, rfl⟩, by decide +kernel⟩
set_option maxRecDepth 20000 in
theorem uv_X10_26 : ab_okV uw vwCl prg RX10 (207, 57, 1) := ⟨mX6_add, rfl, (uw_m4 12 rfl rfl), (uw_m4 13 rfl rfl), (uw_m4 14 rfl rfl), ⟨TX6, 9, rfl⟩, by decide +kernel⟩
set_option maxRecDepth 20000 in
theorem uv_X10_27 : ab_okV uw vwCl prg RX10 (210, 58, 0) := ⟨mX6_read, rfl, (uw_m4 20 rfl rfl), (uw_m4 21 rfl rfl), (uw_m4 22 rfl rfl), ⟨TX6, 9, rfl⟩, by decide +kernel⟩
set_option maxRecDepth 20000 in
theorem uv_X10_28 : ab_okV uw vwCl prg RX10 (216, 35, 0) := ⟨mX3_answerQuery, rfl, (uw_m4 109 rfl rfl), (uw_m4 110 rfl rfl), (uw_m4 111 rfl rfl), ⟨TX3, 11, rfl⟩, by decide +kernel⟩
set_option maxRecDepth 20000 in
theorem uv_X10_29 : ab_okV uw vwCl prg RX10 (222, 33, 0) := ⟨mX3_found, rfl, (uw_m4 176 rfl rfl), (uw_m4 177 rfl rfl), (uw_m4 178 rfl rfl), ⟨TX3, 11, rfl⟩, by decide +kernel⟩
set_option maxRecDepth 20000 in
theorem uv_X10_30 : ab_okV uw vwCl prg RX10 (224, 34, 2) := ⟨mX3_tellFound, rfl, (uw_m4 184 rfl rfl), (uw_m4 185 rfl rfl), (uw_m4 186 rfl rfl), ⟨TX3, 11, rfl⟩, by decide +kernel⟩
set_option maxRecDepth 20000 in
theorem uv_X10_31 : ab_okV uw vwCl prg RX10 (227, 83, 1) := ⟨mX7_howManyOf, rfl, (uw_m4 192 rfl rfl), (uw_m4 193 rfl rfl), (uw_m4 194 rfl rfl), ⟨TX7, 5, rfl⟩, by decide +kernel⟩
set_option maxRecDepth 20000 in
theorem uv_X10_32 : ab_okV uw vwCl prg RX10 (230, 84, 1) := ⟨mX7_holdInOrder, rfl, (uw_m4 209 rfl rfl), (uw_m4 210 rfl rfl), (uw_m4 211 rfl rfl), ⟨TX7, 5, rfl⟩, by decide +kernel⟩
set_option maxRecDepth 20000 in
theorem uv_X10_33 : ab_okV uw vwCl prg RX10 (233, 85, 0) := ⟨mX7_lesserThanHeld, rfl, (uw_m4 218 rfl rfl), (uw_m4 219 rfl rfl), (uw_m4 220 rfl rfl), ⟨TX7, 5, rfl⟩, by decide +kernel⟩
set_option maxRecDepth 20000 in
theorem uv_X10_34 : ab_okV uw vwCl prg RX10 (236, 86, 2) := ⟨mX7_holdLongest, rfl, (uw_m4 226 rfl rfl), (uw_m4 227 rfl rfl), (uw_m4 228 rfl rfl), ⟨TX7, 5, rfl⟩, by decide +kernel⟩
set_option maxRecDepth 20000 in
theorem uv_X10_35 : ab_okV uw vwCl prg RX10 (240, 88, 1) := ⟨mX7_holdOftenest, rfl, (uw_m5 3 rfl rfl), (uw_m5 4 rfl rfl), (uw_m5 5 rfl rfl), ⟨TX7, 5, rfl⟩, by decide +kernel⟩
set_option maxRecDepth 20000 in
theorem uv_X10_36 : ab_okV uw vwCl prg RX10 (243, 89, 1) := ⟨mX7_leastAlone, rfl, (uw_m5 11 rfl rfl), (uw_m5 12 rfl rfl), (uw_m5 13 rfl rfl), ⟨TX7, 5, rfl⟩, by decide +kernel⟩
set_option maxRecDepth 20000 in
theorem uv_X10_37 : ab_okV uw vwCl prg RX10 (246, 90, 1) := ⟨mX7_holdMaximal, rfl, (uw_m5 19 rfl rfl), (uw_m5 20 rfl rfl), (uw_m5 21 rfl rfl), ⟨TX7, 5, rfl⟩, by decide +kernel⟩
set_option maxRecDepth 20000 in
theorem uv_X10_38 : ab_okV uw vwCl prg RX10 (249, 93, 1) := ⟨mX7_howManyAbsent, rfl, (uw_m5 35 rfl rfl), (uw_m5 36 rfl rfl), (uw_m5 37 rfl rfl), ⟨TX7, 5, rfl⟩, by decide +kernel⟩
set_option maxRecDepth 20000 in
theorem uv_X10_39 : ab_okV uw vwCl prg RX10 (252, 47, 1) := ⟨mX5_factors, rfl, (uw_m5 44 rfl rfl), (uw_m5 45 rfl rfl), (uw_m5 46 rfl rfl), ⟨TX5, 7, rfl⟩, by decide +kernel⟩
set_option maxRecDepth 20000 in
theorem uv_X10_40 : ab_okV uw vwCl prg RX10 (255, 48, 3) := ⟨mX5_tellFactor, rfl, (uw_m5 49 rfl rfl), (uw_m5 50 rfl rfl), (uw_m5 51 rfl rfl), ⟨TX5, 7, rfl⟩, by decide +kernel⟩
set_option maxRecDepth 20000 in
theorem uv_X10_41 : ab_okV uw vwCl prg RX10 (259, 50, 2) := ⟨mX5_fallingWord, rfl, (uw_m5 61 rfl rfl), (uw_m5 62 rfl rfl), (uw_m5 63 rfl rfl), ⟨TX5, 7, rfl⟩, by decide +kernel⟩
set_option maxRecDepth 20000 in
theorem uv_X10_42 : ab_okV uw vwCl prg RX10 (262, 53, 1) := ⟨mX5_leastTwice, rfl, (uw_m5 77 rfl rfl), (uw_m5 78 rfl rfl), (uw_m5 79 rfl rfl), ⟨TX5, 7, rfl⟩, by decide +kernel⟩
set_option maxRecDepth 20000 in
theorem uv_X10_43 : ab_okV uw vwCl prg RX10 (265, 55, 1) := ⟨mX5_longestMirror, rfl, (uw_m5 89 rfl rfl), (uw_m5 90 rfl rfl), (uw_m5 91 rfl rfl), ⟨TX5, 7, rfl⟩, by decide +kernel⟩
set_option maxRecDepth 20000 in
theorem uv_X10_44 : ab_okV uw vwCl prg RX10 (268, 56, 2) := ⟨mX5_longestIn, rfl, (uw_m5 97 rfl rfl), (uw_m5 98 rfl rfl), (uw_m5 99 rfl rfl), ⟨TX5, 7, rfl⟩, by decide +kernel⟩
set_option maxRecDepth 20000 in
theorem uv_X10_45 : ab_okV uw vwCl prg RX10 (271, 156, 1) := ⟨mX10_countOfIndex, rfl, (uw_m5 105 rfl rfl), (uw_m5 107 rfl rfl), (uw_mem 53 (by decide +kernel) rfl), ⟨TX10, 8, rfl⟩, by decide +kernel⟩
set_option maxRecDepth 20000 in
theorem uv_X10_46 : ab_okV uw vwCl prg RX10 (274, 23, 1) := ⟨mX2_endOf, rfl, (uw_m5 121 rfl rfl), (uw_m2 218 rfl rfl), (uw_m2 219 rfl rfl), ⟨TX2, 12, rfl⟩, by decide +kernel⟩
set_option maxRecDepth 20000 in
theorem uv_X10_47 : ab_okV uw vwCl prg RX10 (287, 30, 0) := ⟨mX2_sumOfAlikes, rfl, (uw_m5 109 rfl rfl), (uw_m5 110 rfl rfl), (uw_m5 111 rfl rfl), ⟨TX2, 12, rfl⟩, by decide +kernel⟩
set_option maxRecDepth 20000 in
theorem uv_X10_48 : ab_okV uw vwCl prg RX10 (290, 31, 0) := ⟨mX2_greatestAlike, rfl, (uw_m5 113 rfl rfl), (uw_m5 114 rfl rfl), (uw_m5 115 rfl rfl), ⟨TX2, 12, rfl⟩, by decide +kernel⟩
def uvl_X10 : List ab_3 := [(75, 0, 1), (79, 1, 1), (83, 2, 0), (87, 3, 0), (93, 16, 2), (97, 80, 0), (99, 42, 0), (100, 4, 2), (107, 32, 0), (113, 21, 1), (121, 26, 1), (133, 27, 1), (139, 28, 2), (143, 29, 2), (146, 25, 1), (152, 22, 1), (158, 24, 1), (161, 20, 2), (164, 6, 0), (166, 8, 2), (170, 9, 0), (188, 10, 1), (191, 11, 2), (194, 14, 1), (197, 12, 1), (200, 40, 1), (207, 57, 1), (210, 58, 0), (216, 35, 0), (222, 33, 0), (224, 34, 2), (227, 83, 1), (230, 84, 1), (233, 85, 0), (236, 86, 2), (240, 88, 1), (243, 89, 1), (246, 90, 1), (249, 93, 1), (252, 47, 1), (255, 48, 3), (259, 50, 2), (262, 53, 1), (265, 55, 1), (268, 56, 2), (271, 156, 1), (274, 23, 1), (287, 30, 0), (290, 31, 0)]
set_option maxRecDepth 20000 in
theorem uv_X10 : ∀ q ∈ uvl_X10, ab_okV uw vwCl prg RX10 q := List.forall_mem_cons.mpr ⟨uv_X10_0, List.forall_mem_cons.mpr ⟨uv_X10_1, List.forall_mem_cons.mpr ⟨uv_X10_2, List.forall_mem_cons.mpr ⟨uv_X10_3, List.forall_mem_cons.mpr ⟨uv_X10_4, List.forall_mem_cons.mpr ⟨uv_X10_5, List.forall_mem_cons.mpr ⟨uv_X10_6, List.forall_mem_cons.mpr ⟨uv_X10_7, List.forall_mem_cons.mpr ⟨uv_X10_8, List.forall_mem_cons.mpr ⟨uv_X10_9, List.forall_mem_cons.mpr ⟨uv_X10_10, List.forall_mem_cons.mpr ⟨uv_X10_11, List.forall_mem_cons.mpr ⟨uv_X10_12, List.forall_mem_cons.mpr ⟨uv_X10_13, List.forall_mem_cons.mpr ⟨uv_X10_14, List.forall_mem_cons.mpr ⟨uv_X10_15, List.forall_mem_cons.mpr ⟨uv_X10_16, List.forall_mem_cons.mpr ⟨uv_X10_17, List.forall_mem_cons.mpr ⟨uv_X10_18, List.forall_mem_cons.mpr ⟨uv_X10_19, List.forall_mem_cons.mpr ⟨uv_X10_20, List.forall_mem_cons.mpr ⟨uv_X10_21, List.forall_mem_cons.mpr ⟨uv_X10_22, List.forall_mem_cons.mpr ⟨uv_X10_23, List.forall_mem_cons.mpr ⟨uv_X10_24, List.forall_mem_cons.mpr ⟨uv_X10_25, List.forall_mem_cons.mpr ⟨uv_X10_26, List.forall_mem_cons.mpr ⟨uv_X10_27, List.forall_mem_cons.mpr ⟨uv_X10_28, List.forall_mem_cons.mpr ⟨uv_X10_29, List.forall_mem_cons.mpr ⟨uv_X10_30, List.forall_mem_cons.mpr ⟨uv_X10_31, List.forall_mem_cons.mpr ⟨uv_X10_32, List.forall_mem_cons.mpr ⟨uv_X10_33, List.forall_mem_cons.mpr ⟨uv_X10_34, List.forall_mem_cons.mpr ⟨uv_X10_35, List.forall_mem_cons.mpr ⟨uv_X10_36, List.forall_mem_cons.mpr ⟨uv_X10_37, List.forall_mem_cons.mpr ⟨uv_X10_38, List.forall_mem_cons.mpr ⟨uv_X10_39, List.forall_mem_cons.mpr ⟨uv_X10_40, List.forall_mem_cons.mpr ⟨uv_X10_41, List.forall_mem_cons.mpr ⟨uv_X10_42, List.forall_mem_cons.mpr ⟨uv_X10_43, List.forall_mem_cons.mpr ⟨uv_X10_44, List.forall_mem_cons.mpr ⟨uv_X10_45, List.forall_mem_cons.mpr ⟨uv_X10_46, List.forall_mem_cons.mpr ⟨uv_X10_47, List.forall_mem_cons.mpr ⟨uv_X10_48, fun _ h => absurd h List.not_mem_nil⟩⟩⟩⟩⟩⟩⟩⟩⟩⟩⟩⟩⟩⟩⟩⟩⟩⟩⟩⟩⟩⟩⟩⟩⟩⟩⟩⟩⟩⟩⟩⟩⟩⟩⟩⟩⟩⟩⟩⟩⟩⟩⟩⟩⟩⟩⟩⟩⟩
set_option maxRecDepth 20000 in
theorem us_X10_0 : ab_okS uw vwCl prg RX10 (136, 157, 1) := ⟨mX10_isByte, rfl, (uw_m3 94 rfl rfl), (uw_m3 95 rfl rfl), by decide +kernel⟩
def usl_X10 : List ab_3 := [(136, 157, 1)]
set_option maxRecDepth 20000 in
theorem us_X10 : ∀ q ∈ usl_X10, ab_okS uw vwCl prg RX10 q := List.forall_mem_cons.mpr ⟨us_X10_0, fun _ h => absurd h List.not_mem_nil⟩
set_option maxRecDepth 20000 in
theorem uf_X11_0 : ab_okF uw vwCl RX11 (7, 11, 0) := ⟨RX11, TX11, 74, rfl, by decide, (uw_m5 130 rfl rfl)⟩
set_option maxRecDepth 20000 in
theorem uf_X11_1 : ab_okF uw vwCl RX11 (13, 11, 2) := ⟨RX11, TX11, 74, rfl, by decide, (uw_m5 132 rfl rfl)⟩
set_option maxRecDepth 20000 in
theorem uf_X11_2 : ab_okF uw vwCl RX11 (16, 11, 4) := ⟨RX11, TX11, 74, rfl, by decide, (uw_m5 134 rfl rfl)⟩
set_option maxRecDepth 20000 in
theorem uf_X11_3 : ab_okF uw vwCl RX11 (19, 11, 11) := ⟨RX11, TX11, 74, rfl, by decide, (uw_m5 141 rfl rfl)⟩
set_option maxRecDepth 20000 in
theorem uf_X11_4 : ab_okF uw vwCl RX11 (22, 11, 12) := ⟨RX11, TX11, 74, rfl, by decide, (uw_m5 142 rfl rfl)⟩
set_option maxRecDepth 20000 in
theorem uf_X11_5 : ab_okF uw vwCl RX11 (25, 11, 13) := ⟨RX11, TX11, 74, rfl, by decide, (uw_m5 143 rfl rfl)⟩
set_option maxRecDepth 20000 in
theorem uf_X11_6 : ab_okF uw vwCl RX11 (28, 11, 14) := ⟨RX11, TX11, 74, rfl, by decide, (uw_m5 144 rfl rfl)⟩
set_option maxRecDepth 20000 in
theorem uf_X11_7 : ab_okF uw vwCl RX11 (31, 11, 15) := ⟨RX11, TX11, 74, rfl, by decide, (uw_m5 145 rfl rfl)⟩
set_option maxRecDepth 20000 in
theorem uf_X11_8 : ab_okF uw vwCl RX11 (34, 11, 16) := ⟨RX11, TX11, 74, rfl, by decide, (uw_m5 146 rfl rfl)⟩
set_option maxRecDepth 20000 in
theorem uf_X11_9 : ab_okF uw vwCl RX11 (37, 11, 17) := ⟨RX11, TX11, 74, rfl, by decide, (uw_m5 147 rfl rfl)⟩
set_option maxRecDepth 20000 in
theorem uf_X11_10 : ab_okF uw vwCl RX11 (40, 11, 18) := ⟨RX11, TX11, 74, rfl, by decide, (uw_m5 148 rfl rfl)⟩
set_option maxRecDepth 20000 in
theorem uf_X11_11 : ab_okF uw vwCl RX11 (43, 11, 19) := ⟨RX11, TX11, 74, rfl, by decide, (uw_m5 149 rfl rfl)⟩
set_option maxRecDepth 20000 in
theorem uf_X11_12 : ab_okF uw vwCl RX11 (46, 11, 20) := ⟨RX11, TX11, 74, rfl, by decide, (uw_m5 150 rfl rfl)⟩
set_option maxRecDepth 20000 in
theorem uf_X11_13 : ab_okF uw vwCl RX11 (49, 11, 21) := ⟨RX11, TX11, 74, rfl, by decide, (uw_m5 151 rfl rfl)⟩
set_option maxRecDepth 20000 in
theorem uf_X11_14 : ab_okF uw vwCl RX11 (52, 11, 25) := ⟨RX11, TX11, 74, rfl, by decide, (uw_m5 155 rfl rfl)⟩
set_option maxRecDepth 20000 in
theorem uf_X11_15 : ab_okF uw vwCl RX11 (56, 11, 27) := ⟨RX11, TX11, 74, rfl, by decide, (uw_m5 157 rfl rfl)⟩
set_option maxRecDepth 20000 in
theorem uf_X11_16 : ab_okF uw vwCl RX11 (59, 11, 28) := ⟨RX11, TX11, 74, rfl, by decide, (uw_m5 158 rfl rfl)⟩
set_option maxRecDepth 20000 in
theorem uf_X11_17 : ab_okF uw vwCl RX11 (62, 11, 30) := ⟨RX11, TX11, 74, rfl, by decide, (uw_m5 160 rfl rfl)⟩
set_option maxRecDepth 20000 in
theorem uf_X11_18 : ab_okF uw vwCl RX11 (65, 11, 34) := ⟨RX11, TX11, 74, rfl, by decide, (uw_m5 164 rfl rfl)⟩
set_option maxRecDepth 20000 in
theorem uf_X11_19 : ab_okF uw vwCl RX11 (68, 11, 35) := ⟨RX11, TX11, 74, rfl, by decide, (uw_m5 165 rfl rfl)⟩
set_option maxRecDepth 20000 in
theorem uf_X11_20 : ab_okF uw vwCl RX11 (71, 11, 36) := ⟨RX11, TX11, 74, rfl, by decide, (uw_m5 166 rfl rfl)⟩
set_option maxRecDepth 20000 in
theorem uf_X11_21 : ab_okF uw vwCl RX11 (74, 11, 39) := ⟨RX11, TX11, 74, rfl, by decide, (uw_m5 169 rfl rfl)⟩
set_option maxRecDepth 20000 in
theorem uf_X11_22 : ab_okF uw vwCl RX11 (78, 11, 40) := ⟨RX11, TX11, 74, rfl, by decide, (uw_m5 170 rfl rfl)⟩
set_option maxRecDepth 20000 in
theorem uf_X11_23 : ab_okF uw vwCl RX11 (81, 11, 41) := ⟨RX11, TX11, 74, rfl, by decide, (uw_m5 171 rfl rfl)⟩
set_option maxRecDepth 20000 in
theorem uf_X11_24 : ab_okF uw vwCl RX11 (84, 11, 42) := ⟨RX11, TX11, 74, rfl, by decide, (uw_m5 172 rfl rfl)⟩
set_option maxRecDepth 20000 in
theorem uf_X11_25 : ab_okF uw vwCl RX11 (87, 11, 43) := ⟨RX11, TX11, 74, rfl, by decide, (uw_m5 173 rfl rfl)⟩
set_option maxRecDepth 20000 in
theorem uf_X11_26 : ab_okF uw vwCl RX11 (90, 11, 44) := ⟨RX11, TX11, 74, rfl, by decide, (uw_m5 174 rfl rfl)⟩
set_option maxRecDepth 20000 in
theorem uf_X11_27 : ab_okF uw vwCl RX11 (94, 11, 47) := ⟨RX11, TX11, 74, rfl, by decide, (uw_m5 177 rfl rfl)⟩
set_option maxRecDepth 20000 in
theorem uf_X11_28 : ab_okF uw vwCl RX11 (97, 11, 49) := ⟨RX11, TX11, 74, rfl, by decide, (uw_m5 179 rfl rfl)⟩
set_option maxRecDepth 20000 in
theorem uf_X11_29 : ab_okF uw vwCl RX11 (100, 11, 51) := ⟨RX11, TX11, 74, rfl, by decide, (uw_m5 181 rfl rfl)⟩
set_option maxRecDepth 20000 in
theorem uf_X11_30 : ab_okF uw vwCl RX11 (103, 11, 54) := ⟨RX11, TX11, 74, rfl, by decide, (uw_m5 184 rfl rfl)⟩
set_option maxRecDepth 20000 in
theorem uf_X11_31 : ab_okF uw vwCl RX11 (106, 11, 56) := ⟨RX11, TX11, 74, rfl, by decide, (uw_m5 186 rfl rfl)⟩
set_option maxRecDepth 20000 in
theorem uf_X11_32 : ab_okF uw vwCl RX11 (109, 11, 57) := ⟨RX11, TX11, 74, rfl, by decide, (uw_m5 187 rfl rfl)⟩
set_option maxRecDepth 20000 in
theorem uf_X11_33 : ab_okF uw vwCl RX11 (112, 11, 58) := ⟨RX11, TX11, 74, rfl, by decide, (uw_m5 188 rfl rfl)⟩
set_option maxRecDepth 20000 in
theorem uf_X11_34 : ab_okF uw vwCl RX11 (115, 11, 59) := ⟨RX11, TX11, 74, rfl, by decide, (uw_m5 189 rfl rfl)⟩
set_option maxRecDepth 20000 in
theorem uf_X11_35 : ab_okF uw vwCl RX11 (118, 11, 60) := ⟨RX11, TX11, 74, rfl, by decide, (uw_m5 190 rfl rfl)⟩
set_option maxRecDepth 20000 in
theorem uf_X11_36 : ab_okF uw vwCl RX11 (121, 11, 61) := ⟨RX11, TX11, 74, rfl, by decide, (uw_m5 191 rfl rfl)⟩
set_option maxRecDepth 20000 in
theorem uf_X11_37 : ab_okF uw vwCl RX11 (124, 11, 62) := ⟨RX11, TX11, 74, rfl, by decide, (uw_m5 192 rfl rfl)⟩
set_option maxRecDepth 20000 in
theorem uf_X11_38 : ab_okF uw vwCl RX11 (127, 11, 63) := ⟨RX11, TX11, 74, rfl, by decide, (uw_m5 193 rfl rfl)⟩
set_option maxRecDepth 20000 in
theorem uf_X11_39 : ab_okF uw vwCl RX11 (130, 11, 64) := ⟨RX11, TX11, 74, rfl, by decide, (uw_m5 194 rfl rfl)⟩
set_option maxRecDepth 20000 in
theorem uf_X11_40 : ab_okF uw vwCl RX11 (133, 11, 65) := ⟨RX11, TX11, 74, rfl, by decide, (uw_m5 195 rfl rfl)⟩
set_option maxRecDepth 20000 in
theorem uf_X11_41 : ab_okF uw vwCl RX11 (136, 11, 66) := ⟨RX11, TX11, 74, rfl, by decide, (uw_m5 196 rfl rfl)⟩
set_option maxRecDepth 20000 in
theorem uf_X11_42 : ab_okF uw vwCl RX11 (140, 11, 67) := ⟨RX11, TX11, 74, rfl, by decide, (uw_m5 197 rfl rfl)⟩
set_option maxRecDepth 20000 in
theorem uf_X11_43 : ab_okF uw vwCl RX11 (143, 11, 68) := ⟨RX11, TX11, 74, rfl, by decide, (uw_m5 198 rfl rfl)⟩
set_option maxRecDepth 20000 in
theorem uf_X11_44 : ab_okF uw vwCl RX11 (146, 11, 69) := ⟨RX11, TX11, 74, rfl, by decide, (uw_m5 199 rfl rfl)⟩
set_option maxRecDepth 20000 in
theorem uf_X11_45 : ab_okF uw vwCl RX11 (149, 11, 72) := ⟨RX11, TX11, 74, rfl, by decide, (uw_m5 202 rfl rfl)⟩
set_option maxRecDepth 20000 in
theorem uf_X11_46 : ab_okF uw vwCl RX11 (152, 11, 73) := ⟨RX11, TX11, 74, rfl, by decide, (uw_m5 203 rfl rfl)⟩
set_option maxRecDepth 20000 in
theorem uf_X11_47 : ab_okF uw vwCl RX11 (155, 11, 5) := ⟨RX11, TX11, 74, rfl, by decide, (uw_m5 135 rfl rfl)⟩
set_option maxRecDepth 20000 in
theorem uf_X11_48 : ab_okF uw vwCl RX11 (159, 11, 3) := ⟨RX11, TX11, 74, rfl, by decide, (uw_m5 133 rfl rfl)⟩
set_option maxRecDepth 20000 in
theorem uf_X11_49 : ab_okF uw vwCl RX11 (162, 11, 1) := ⟨RX11, TX11, 74, rfl, by decide, (uw_m5 131 rfl rfl)⟩
set_option maxRecDepth 20000 in
theorem uf_X11_50 : ab_okF uw vwCl RX11 (165, 11, 7) := ⟨RX11, TX11, 74, rfl, by decide, (uw_m5 137 rfl rfl)⟩
set_option maxRecDepth 20000 in
theorem uf_X11_51 : ab_okF uw vwCl RX11 (176, 11, 6) := ⟨RX11, TX11, 74, rfl, by decide, (uw_m5 136 rfl rfl)⟩
set_option maxRecDepth 20000 in
theorem uf_X11_52 : ab_okF uw vwCl RX11 (180, 11, 9) := ⟨RX11, TX11, 74, rfl, by decide, (uw_m5 139 rfl rfl)⟩
set_option maxRecDepth 20000 in
theorem uf_X11_53 : ab_okF uw vwCl RX11 (183, 11, 8) := ⟨RX11, TX11, 74, rfl, by decide, (uw_m5 138 rfl rfl)⟩
set_option maxRecDepth 20000 in
theorem uf_X11_54 : ab_okF uw vwCl RX11 (195, 11, 29) := ⟨RX11, TX11, 74, rfl, by decide, (uw_m5 159 rfl rfl)⟩
set_option maxRecDepth 20000 in
theorem uf_X11_55 : ab_okF uw vwCl RX11 (198, 11, 32) := ⟨RX11, TX11, 74, rfl, by decide, (uw_m5 162 rfl rfl)⟩
set_option maxRecDepth 20000 in
theorem uf_X11_56 : ab_okF uw vwCl RX11 (201, 11, 33) := ⟨RX11, TX11, 74, rfl, by decide, (uw_m5 163 rfl rfl)⟩
set_option maxRecDepth 20000 in
theorem uf_X11_57 : ab_okF uw vwCl RX11 (204, 11, 10) := ⟨RX11, TX11, 74, rfl, by decide, (uw_m5 140 rfl rfl)⟩
set_option maxRecDepth 20000 in
theorem uf_X11_58 : ab_okF uw vwCl RX11 (207, 11, 71) := ⟨RX11, TX11, 74, rfl, by decide, (uw_m5 201 rfl rfl)⟩
set_option maxRecDepth 20000 in
theorem uf_X11_59 : ab_okF uw vwCl RX11 (233, 11, 22) := ⟨RX11, TX11, 74, rfl, by decide, (uw_m5 152 rfl rfl)⟩
set_option maxRecDepth 20000 in
theorem uf_X11_60 : ab_okF uw vwCl RX11 (236, 11, 23) := ⟨RX11, TX11, 74, rfl, by decide, (uw_m5 153 rfl rfl)⟩
set_option maxRecDepth 20000 in
theorem uf_X11_61 : ab_okF uw vwCl RX11 (239, 11, 24) := ⟨RX11, TX11, 74, rfl, by decide, (uw_m5 154 rfl rfl)⟩
set_option maxRecDepth 20000 in
theorem uf_X11_62 : ab_okF uw vwCl RX11 (242, 11, 26) := ⟨RX11, TX11, 74, rfl, by decide, (uw_m5 156 rfl rfl)⟩
set_option maxRecDepth 20000 in
theorem uf_X11_63 : ab_okF uw vwCl RX11 (261, 11, 31) := ⟨RX11, TX11, 74, rfl, by decide, (uw_m5 161 rfl rfl)⟩
set_option maxRecDepth 20000 in
theorem uf_X11_64 : ab_okF uw vwCl RX11 (264, 11, 38) := ⟨RX11, TX11, 74, rfl, by decide, (uw_m5 168 rfl rfl)⟩
set_option maxRecDepth 20000 in
theorem uf_X11_65 : ab_okF uw vwCl RX11 (267, 11, 37) := ⟨RX11, TX11, 74, rfl, by decide, (uw_m5 167 rfl rfl)⟩
set_option maxRecDepth 20000 in
theorem uf_X11_66 : ab_okF uw vwCl RX11 (283, 11, 45) := ⟨RX11, TX11, 74, rfl, by decide, (uw_m5 175 rfl rfl)⟩
set_option maxRecDepth 20000 in
theorem uf_X11_67 : ab_okF uw vwCl RX11 (286, 11, 46) := ⟨RX11, TX11, 74, rfl, by decide, (uw_m5 176 rfl rfl)⟩
set_option maxRecDepth 20000 in
theorem uf_X11_68 : ab_okF uw vwCl RX11 (289, 11, 52) := ⟨RX11, TX11, 74, rfl, by decide, (uw_m5 182 rfl rfl)⟩
set_option maxRecDepth 20000 in
theorem uf_X11_69 : ab_okF uw vwCl RX11 (295, 11, 48) := ⟨RX11, TX11, 74, rfl, by decide, (uw_m5 178 rfl rfl)⟩
set_option maxRecDepth 20000 in
theorem uf_X11_70 : ab_okF uw vwCl RX11 (302, 11, 53) := ⟨RX11, TX11, 74, rfl, by decide, (uw_m5 183 rfl rfl)⟩
set_option maxRecDepth 20000 in
theorem uf_X11_71 : ab_okF uw vwCl RX11 (308, 11, 50) := ⟨RX11, TX11, 74, rfl, by decide, (uw_m5 180 rfl rfl)⟩
set_option maxRecDepth 20000 in
theorem uf_X11_72 : ab_okF uw vwCl RX11 (343, 11, 55) := ⟨RX11, TX11, 74, rfl, by decide, (uw_m5 185 rfl rfl)⟩
set_option maxRecDepth 20000 in
theorem uf_X11_73 : ab_okF uw vwCl RX11 (375, 11, 70) := ⟨RX11, TX11, 74, rfl, by decide, (uw_m5 200 rfl rfl)⟩
def ufl_X11 : List ab_3 := [(7, 11, 0), (13, 11, 2), (16, 11, 4), (19, 11, 11), (22, 11, 12), (25, 11, 13), (28, 11, 14), (31, 11, 15), (34, 11, 16), (37, 11, 17), (40, 11, 18), (43, 11, 19), (46, 11, 20), (49, 11, 21), (52, 11, 25), (56, 11, 27), (59, 11, 28), (62, 11, 30), (65, 11, 34), (68, 11, 35), (71, 11, 36), (74, 11, 39), (78, 11, 40), (81, 11, 41), (84, 11, 42), (87, 11, 43), (90, 11, 44), (94, 11, 47), (97, 11, 49), (100, 11, 51), (103, 11, 54), (106, 11, 56), (109, 11, 57), (112, 11, 58), (115, 11, 59), (118, 11, 60), (121, 11, 61), (124, 11, 62), (127, 11, 63), (130, 11, 64), (133, 11, 65), (136, 11, 66), (140, 11, 67), (143, 11, 68), (146, 11, 69), (149, 11, 72), (152, 11, 73), (155, 11, 5), (159, 11, 3), (162, 11, 1), (165, 11, 7), (176, 11, 6), (180, 11, 9), (183, 11, 8), (195, 11, 29), (198, 11, 32), (201, 11, 33), (204, 11, 10), (207, 11, 71), (233, 11, 22), (236, 11, 23), (239, 11, 24), (242, 11, 26), (261, 11, 31), (264, 11, 38), (267, 11, 37), (283, 11, 45), (286, 11, 46), (289, 11, 52), (295, 11, 48), (302, 11, 53), (308, 11, 50), (343, 11, 55), (375, 11, 70)]
set_option maxRecDepth 20000 in
theorem uf_X11 : ∀ q ∈ ufl_X11, ab_okF uw vwCl RX11 q := List.forall_mem_cons.mpr ⟨uf_X11_0, List.forall_mem_cons.mpr ⟨uf_X11_1, List.forall_mem_cons.mpr ⟨uf_X11_2, List.forall_mem_cons.mpr ⟨uf_X11_3, List.forall_mem_cons.mpr ⟨uf_X11_4, List.forall_mem_cons.mpr ⟨uf_X11_5, List.forall_mem_cons.mpr ⟨uf_X11_6, List.forall_mem_cons.mpr ⟨uf_X11_7, List.forall_mem_cons.mpr ⟨uf_X11_8, List.forall_mem_cons.mpr ⟨uf_X11_9, List.forall_mem_cons.mpr ⟨uf_X11_10, List.forall_mem_cons.mpr ⟨uf_X11_11, List.forall_mem_cons.mpr ⟨uf_X11_12, List.forall_mem_cons.mpr ⟨uf_X11_13, List.forall_mem_cons.mpr ⟨uf_X11_14, List.forall_mem_cons.mpr ⟨uf_X11_15, List.forall_mem_cons.mpr ⟨uf_X11_16, List.forall_mem_cons.mpr ⟨uf_X11_17, List.forall_mem_cons.mpr ⟨uf_X11_18, List.forall_mem_cons.mpr ⟨uf_X11_19, List.forall_mem_cons.mpr ⟨uf_X11_20, List.forall_mem_cons.mpr ⟨uf_X11_21, List.forall_mem_cons.mpr ⟨uf_X11_22, List.forall_mem_cons.mpr ⟨uf_X11_23, List.forall_mem_cons.mpr ⟨uf_X11_24, List.forall_mem_cons.mpr ⟨uf_X11_25, List.forall_mem_cons.mpr ⟨uf_X11_26, List.forall_mem_cons.mpr ⟨uf_X11_27, List.forall_mem_cons.mpr ⟨uf_X11_28, List.forall_mem_cons.mpr ⟨uf_X11_29, List.forall_mem_cons.mpr ⟨uf_X11_30, List.forall_mem_cons.mpr ⟨uf_X11_31, List.forall_mem_cons.mpr ⟨uf_X11_32, List.forall_mem_cons.mpr ⟨uf_X11_33, List.forall_mem_cons.mpr ⟨uf_X11_34, List.forall_mem_cons.mpr ⟨uf_X11_35, List.forall_mem_cons.mpr ⟨uf_X11_36, List.forall_mem_cons.mpr ⟨uf_X11_37, List.forall_mem_cons.mpr ⟨uf_X11_38, List.forall_mem_cons.mpr ⟨uf_X11_39, List.forall_mem_cons.mpr ⟨uf_X11_40, List.forall_mem_cons.mpr ⟨uf_X11_41, List.forall_mem_cons.mpr ⟨uf_X11_42, List.forall_mem_cons.mpr ⟨uf_X11_43, List.forall_mem_cons.mpr ⟨uf_X11_44, List.forall_mem_cons.mpr ⟨uf_X11_45, List.forall_mem_cons.mpr ⟨uf_X11_46, List.forall_mem_cons.mpr ⟨uf_X11_47, List.forall_mem_cons.mpr ⟨uf_X11_48, List.forall_mem_cons.mpr ⟨uf_X11_49, List.forall_mem_cons.mpr ⟨uf_X11_50, List.forall_mem_cons.mpr ⟨uf_X11_51, List.forall_mem_cons.mpr ⟨uf_X11_52, List.forall_mem_cons.mpr ⟨uf_X11_53, List.forall_mem_cons.mpr ⟨uf_X11_54, List.forall_mem_cons.mpr ⟨uf_X11_55, List.forall_mem_cons.mpr ⟨uf_X11_56, List.forall_mem_cons.mpr ⟨uf_X11_57, List.forall_mem_cons.mpr ⟨uf_X11_58, List.forall_mem_cons.mpr ⟨uf_X11_59, List.forall_mem_cons.mpr ⟨uf_X11_60, List.forall_mem_cons.mpr ⟨uf_X11_61, List.forall_mem_cons.mpr ⟨uf_X11_62, List.forall_mem_cons.mpr ⟨uf_X11_63, List.forall_mem_cons.mpr ⟨uf_X11_64, List.forall_mem_cons.mpr ⟨uf_X11_65, List.forall_mem_cons.mpr ⟨uf_X11_66, List.forall_mem_cons.mpr ⟨uf_X11_67, List.forall_mem_cons.mpr ⟨uf_X11_68, List.forall_mem_cons.mpr ⟨uf_X11_69, List.forall_mem_cons.mpr ⟨uf_X11_70, List.forall_mem_cons.mpr ⟨uf_X11_71, List.forall_mem_cons.mpr ⟨uf_X11_72, List.forall_mem_cons.mpr ⟨uf_X11_73, fun _ h => absurd h List.not_mem_nil⟩⟩⟩⟩⟩⟩⟩⟩⟩⟩⟩⟩⟩⟩⟩⟩⟩⟩⟩⟩⟩⟩⟩⟩⟩⟩⟩⟩⟩⟩⟩⟩⟩⟩⟩⟩⟩⟩⟩⟩⟩⟩⟩⟩⟩⟩⟩⟩⟩⟩⟩⟩⟩⟩⟩⟩⟩⟩⟩⟩⟩⟩⟩⟩⟩⟩⟩⟩⟩⟩⟩⟩⟩⟩
set_option maxRecDepth 20000 in
theorem uk_X11_0 : ab_okK uw RX11 (298, 59990, 0) := (uw_m7 101 rfl rfl)
set_option maxRecDepth 20000 in
theorem uk_X11_1 : ab_okK uw RX11 (334, 1000000, 2) := (uw_m7 92 rfl rfl)
set_option maxRecDepth 20000 in
theorem uk_X11_2 : ab_okK uw RX11 (358, 120, 2) := (uw_m7 130 rfl rfl)
def ukl_X11 : List ab_3 := [(298, 59990, 0), (334, 1000000, 2), (358, 120, 2)]
set_option maxRecDepth 20000 in
theorem uk_X11 : ∀ q ∈ ukl_X11, ab_okK uw RX11 q := List.forall_mem_cons.mpr ⟨uk_X11_0, List.forall_mem_cons.mpr ⟨uk_X11_1, List.forall_mem_cons.mpr ⟨uk_X11_2, fun _ h => absurd h List.not_mem_nil⟩⟩⟩
set_option maxRecDepth 20000 in
theorem uv_X11_0 : ab_okV uw vwCl prg RX11 (168, 162, 1) := ⟨mX11_keyAt, rfl, (uw_m6 141 rfl rfl), (uw_m6 143 rfl rfl), (uw_mem 56 (by decide +kernel) rfl), ⟨TX11, 74, rfl⟩, by decide +kernel⟩
set_option maxRecDepth 20000 in
theorem uv_X11_1 : ab_okV uw vwCl prg RX11 (172, 163, 1) := ⟨mX11_sortBy, rfl, (uw_m6 137 rfl rfl), (uw_m6 139 rfl rfl), (uw_mem 55 (by decide +kernel) rfl), ⟨TX11, 74, rfl⟩, by decide +kernel⟩
set_option maxRecDepth 20000 in
theorem uv_X11_2 : ab_okV uw vwCl prg RX11 (186, 164, 0) := ⟨mX11_sortAll, rfl, (uw_m6 133 rfl rfl), (uw_m6 135 rfl rfl), (uw_mem 54 (by decide +kernel) rfl), ⟨TX11, 74, rfl⟩, by decide +kernel⟩
set_option maxRecDepth 20000 in
theorem uv_X11_3 : ab_okV uw vwCl prg RX11 (189, 165, 0) := ⟨mX11_findShares, rfl, (uw_m6 145 rfl rfl), (uw_m6 147 rfl rfl), (uw_mem 57 (by decide +kernel) rfl), ⟨TX11, 74, rfl⟩, by decide +kernel⟩
set_option maxRecDepth 20000 in
theorem uv_X11_4 : ab_okV uw vwCl prg RX11 (192, 184, 0) := ⟨mX11_toEmpty, rfl, (uw_m6 149 rfl rfl), (uw_m6 151 rfl rfl), (uw_mem 58 (by decide +kernel) rfl), ⟨TX11, 74, rfl⟩, by decide +kernel⟩
set_option maxRecDepth 20000 in
theorem uv_X11_5 : ab_okV uw vwCl prg RX11 (210, 167, 1) := ⟨mX11_isRow, rfl, (uw_m6 157 rfl rfl), (uw_m6 159 rfl rfl), (uw_mem 59 (by decide +kernel) rfl), ⟨TX11, 74, rfl⟩, by decide +kernel⟩
set_option maxRecDepth 20000 in
theorem uv_X11_6 : ab_okV uw vwCl prg RX11 (214, 171, 1) := ⟨mX11_stepsOf, rfl, (uw_m6 161 rfl rfl), (uw_m6 163 rfl rfl), (uw_mem 60 (by decide +kernel) rfl), ⟨TX11, 74, rfl⟩, by decide +kernel⟩
set_option maxRecDepth 20000 in
theorem uv_X11_7 : ab_okV uw vwCl prg RX11 (217, 175, 1) := ⟨mX11_beforeOf, rfl, (uw_m6 177 rfl rfl), (uw_m6 179 rfl rfl), (uw_mem 61 (by decide +kernel) rfl), ⟨TX11, 74, rfl⟩, by decide +kernel⟩
set_option maxRecDepth 20000 in
theorem uv_X11_8 : ab_okV uw vwCl prg RX11 (223, 168, 1) := ⟨mX11_isDocument, rfl, (uw_m6 204 rfl rfl), (uw_m6 206 rfl rfl), (uw_mem 62 (by decide +kernel) rfl), ⟨TX11, 74, rfl⟩, by decide +kernel⟩
set_option maxRecDepth 20000 in
theorem uv_X11_9 : ab_okV uw vwCl prg RX11 (226, 170, 1) := ⟨mX11_left, rfl, (uw_m6 216 rfl rfl), (uw_m6 218 rfl rfl), (uw_mem 64 (by decide +kernel) rfl), ⟨TX11, 74, rfl⟩, by decide +kernel⟩
set_option maxRecDepth 20000 in
theorem uv_X11_10 : ab_okV uw vwCl prg RX11 (229, 182, 2) := ⟨mX11_alikeOf, rfl, (uw_m6 212 rfl rfl), (uw_m6 214 rfl rfl), (uw_mem 63 (by decide +kernel) rfl), ⟨TX11, 74, rfl⟩, by decide +kernel⟩
set_option maxRecDepth 20000 in
theorem uv_X11_11 : ab_okV uw vwCl prg RX11 (245, 186, 2) := ⟨mX11_findRows, rfl, (uw_m6 236 rfl rfl), (uw_m6 238 rfl rfl), (uw_mem 65 (by decide +kernel) rfl), ⟨TX11, 74, rfl⟩, by decide +kernel⟩
set_option maxRecDepth 20000 in
theorem uv_X11_12 : ab_okV uw vwCl prg RX11 (249, 172, 1) := ⟨mX11_place, rfl, (uw_m7 12 rfl rfl), (uw_m6 154 rfl rfl), (uw_m6 155 rfl rfl), ⟨TX11, 74, rfl⟩, by decide +kernel⟩
set_option maxRecDepth 20000 in
theorem uv_X11_13 : ab_okV uw vwCl prg RX11 (252, 194, 1) := ⟨mX11_isAt, rfl, (uw_m7 17 rfl rfl), (uw_m7 19 rfl rfl), (uw_mem 66 (by decide +kernel) rfl), ⟨TX11, 74, rfl⟩, by decide +kernel⟩
set_option maxRecDepth 20000 in
theorem uv_X11_14 : ab_okV uw vwCl prg RX11 (255, 197, 1) := ⟨mX11_timesOf, rfl, (uw_m7 29 rfl rfl), (uw_m7 31 rfl rfl), (uw_mem 67 (by decide +kernel) rfl), ⟨TX11, 74, rfl⟩, by decide +kernel⟩
set_option maxRecDepth 20000 in
theorem uv_X11_15 : ab_okV uw vwCl prg RX11 (258, 187, 2) := ⟨mX11_become, rfl, (uw_m7 41 rfl rfl), (uw_m7 43 rfl rfl), (uw_mem 68 (by decide +kernel) rfl), ⟨TX11, 74, rfl⟩, by decide +kernel⟩
set_option maxRecDepth 20000 in
theorem uv_X11_16 : ab_okV uw vwCl prg RX11 (270, 204, 0) := ⟨mX11_sign, rfl, (uw_m7 69 rfl rfl), (uw_m7 71 rfl rfl), (uw_mem 71 (by decide +kernel) rfl), ⟨TX11, 74, rfl⟩, by decide +kernel⟩
set_option maxRecDepth 20000 in
theorem uv_X11_17 : ab_okV uw vwCl prg RX11 (277, 205, 1) := ⟨mX11_fail, rfl, (uw_m7 73 rfl rfl), (uw_m7 75 rfl rfl), (uw_mem 72 (by decide +kernel) rfl), ⟨TX11, 74, rfl⟩, by decide +kernel⟩
set_option maxRecDepth 20000 in
theorem uv_X11_18 : ab_okV uw vwCl prg RX11 (280, 207, 0) := ⟨mX11_number, rfl, (uw_m7 85 rfl rfl), (uw_m7 87 rfl rfl), (uw_mem 75 (by decide +kernel) rfl), ⟨TX11, 74, rfl⟩, by decide +kernel⟩
set_option maxRecDepth 20000 in
theorem uv_X11_19 : ab_okV uw vwCl prg RX11 (292, 209, 0) := ⟨mX11_rangeByte, rfl, (uw_m7 126 rfl rfl), (uw_m7 128 rfl rfl), (uw_mem 84 (by decide +kernel) rfl), ⟨TX11, 74, rfl⟩, by decide +kernel⟩
set_option maxRecDepth 20000 in
theorem uv_X11_20 : ab_okV uw vwCl prg RX11 (299, 212, 1) := ⟨mX11_addMade, rfl, (uw_m7 97 rfl rfl), (uw_m7 99 rfl rfl), (uw_mem 77 (by decide +kernel) rfl), ⟨TX11, 74, rfl⟩, by decide +kernel⟩
set_option maxRecDepth 20000 in
theorem uv_X11_21 : ab_okV uw vwCl prg RX11 (305, 216, 2) := ⟨mX11_again, rfl, (uw_m7 102 rfl rfl), (uw_m7 104 rfl rfl), (uw_mem 78 (by decide +kernel) rfl), ⟨TX11, 74, rfl⟩, by decide +kernel⟩
set_option maxRecDepth 20000 in
theorem uv_X11_22 : ab_okV uw vwCl prg RX11 (311, 211, 1) := ⟨mX11_openOne, rfl, (uw_m7 65 rfl rfl), (uw_m7 67 rfl rfl), (uw_mem 70 (by decide +kernel) rfl), ⟨TX11, 74, rfl⟩, by decide +kernel⟩
set_option maxRecDepth 20000 in
theorem uv_X11_23 : ab_okV uw vwCl prg RX11 (314, 219, 3) := ⟨mX11_quantify, rfl, (uw_m7 77 rfl rfl), (uw_m7 79 rfl rfl), (uw_mem 73 (by decide +kernel) rfl), ⟨TX11, 74, rfl⟩, by decide +kernel⟩
set_option maxRecDepth 20000 in
theorem uv_X11_24 : ab_okV uw vwCl prg RX11 (318, 215, 1) := ⟨mX11_endItem, rfl, (uw_m7 106 rfl rfl), (uw_m7 108 rfl rfl), (uw_mem 79 (by decide +kernel) rfl), ⟨TX11, 74, rfl⟩, by decide +kernel⟩
set_option maxRecDepth 20000 in
theorem uv_X11_25 : ab_okV uw vwCl prg RX11 (321, 213, 1) := ⟨mX11_endRow, rfl, (uw_m7 110 rfl rfl), (uw_m7 112 rfl rfl), (uw_mem 80 (by decide +kernel) rfl), ⟨TX11, 74, rfl⟩, by decide +kernel⟩
set_option maxRecDepth 20000 in
theorem uv_X11_26 : ab_okV uw vwCl prg RX11 (324, 214, 3) := ⟨mX11_begunAtom, rfl, (uw_m7 114 rfl rfl), (uw_m7 116 rfl rfl), (uw_mem 81 (by decide +kernel) rfl), ⟨TX11, 74, rfl⟩, by decide +kernel⟩
set_option maxRecDepth 20000 in
theorem uv_X11_27 : ab_okV uw vwCl prg RX11 (328, 220, 3) := ⟨mX11_atom, rfl, (uw_m7 118 rfl rfl), (uw_m7 120 rfl rfl), (uw_mem 82 (by decide +kernel) rfl), ⟨TX11, 74, rfl⟩, by decide +kernel⟩
set_option maxRecDepth 20000 in
theorem uv_X11_28 : ab_okV uw vwCl prg RX11 (331, 208, 0) := ⟨mX11_braces, rfl, (uw_m7 81 rfl rfl), (uw_m7 83 rfl rfl), (uw_mem 74 (by decide +kernel) rfl), ⟨TX11, 74, rfl⟩, by decide +kernel⟩
set_option maxRecDepth 20000 in
theorem uv_X11_29 : ab_okV uw vwCl prg RX11 (336, 217, 3) := ⟨mX11_repeat, rfl, (uw_m7 93 rfl rfl), (uw_m7 95 rfl rfl), (uw_mem 76 (by decide +kernel) rfl), ⟨TX11, 74, rfl⟩, by decide +kernel⟩
set_option maxRecDepth 20000 in
theorem uv_X11_30 : ab_okV uw vwCl prg RX11 (340, 210, 0) := ⟨mX11_ranges, rfl, (uw_m7 122 rfl rfl), (uw_m7 124 rfl rfl), (uw_mem 83 (by decide +kernel) rfl), ⟨TX11, 74, rfl⟩, by decide +kernel⟩
set_option maxRecDepth 20000 in
theorem uv_X11_31 : ab_okV uw vwCl prg RX11 (346, 221, 4) := ⟨mX11_follow, rfl, (uw_m7 135 rfl rfl), (uw_m7 137 rfl rfl), (uw_mem 86 (by decide +kernel) rfl), ⟨TX11, 74, rfl⟩, by decide +kernel⟩
set_option maxRecDepth 20000 in
theorem uv_X11_32 : ab_okV uw vwCl prg RX11 (350, 223, 2) := ⟨mX11_fits, rfl, (uw_m7 143 rfl rfl), (uw_m7 145 rfl rfl), (uw_mem 88 (by decide +kernel) rfl), ⟨TX11, 74, rfl⟩, by decide +kernel⟩
set_option maxRecDepth 20000 in
theorem uv_X11_33 : ab_okV uw vwCl prg RX11 (354, 218, 1) := ⟨mX11_goOver, rfl, (uw_m7 61 rfl rfl), (uw_m7 63 rfl rfl), (uw_mem 69 (by decide +kernel) rfl), ⟨TX11, 74, rfl⟩, by decide +kernel⟩
set_option maxRecDepth 20000 in
theorem uv_X11_34 : ab_okV uw vwCl prg RX11 (360, 222, 0) := ⟨mX11_findPositions, rfl, (uw_m7 131 rfl rfl), (uw_m7 133 rfl rfl), (uw_mem 85 (by decide +kernel) rfl), ⟨TX11, 74, rfl⟩, by decide +kernel⟩
set_option maxRecDepth 20000 in
theorem uv_X11_35 : ab_okV uw vwCl prg RX11 (363, 224, 1) := ⟨mX11_matchFrom, rfl, (uw_m7 139 rfl rfl), (uw_m7 141 rfl rfl), (uw_mem 87 (by decide +kernel) rfl), ⟨TX11, 74, rfl⟩, by decide +kernel⟩
set_option maxRecDepth 20000 in
theorem uv_X11_36 : ab_okV uw vwCl prg RX11 (366, 227, 1) := ⟨mX11_freshOf, rfl, (uw_m7 155 rfl rfl), (uw_m7 157 rfl rfl), (uw_mem 89 (by decide +kernel) rfl), ⟨TX11, 74, rfl⟩, by decide +kernel⟩
set_option maxRecDepth 20000 in
theorem uv_X11_37 : ab_okV uw vwCl prg RX11 (369, 231, 2) := ⟨mX11_becomeBest, rfl, (uw_m7 171 rfl rfl), (uw_m7 173 rfl rfl), (uw_mem 90 (by decide +kernel) rfl), ⟨TX11, 74, rfl⟩, by decide +kernel⟩
set_option maxRecDepth 20000 in
theorem uv_X11_38 : ab_okV uw vwCl prg RX11 (372, 236, 2) := ⟨mX11_isOneBefore, rfl, (uw_m7 191 rfl rfl), (uw_m7 193 rfl rfl), (uw_mem 91 (by decide +kernel) rfl), ⟨TX11, 74, rfl⟩, by decide +kernel⟩
set_option maxRecDepth 20000 in
theorem uv_X11_39 : ab_okV uw vwCl prg RX11 (378, 239, 0) := ⟨mX11_findFactors, rfl, (uw_m7 203 rfl rfl), (uw_m7 205 rfl rfl), (uw_mem 92 (by decide +kernel) rfl), ⟨TX11, 74, rfl⟩, by decide +kernel⟩
set_option maxRecDepth 20000 in
theorem uv_X11_40 : ab_okV uw vwCl prg RX11 (381, 246, 0) := ⟨mX11_countBytes, rfl, (uw_m7 227 rfl rfl), (uw_m7 229 rfl rfl), (uw_mem 93 (by decide +kernel) rfl), ⟨TX11, 74, rfl⟩, by decide +kernel⟩
set_option maxRecDepth 20000 in
theorem uv_X11_41 : ab_okV uw vwCl prg RX11 (384, 245, 1) := ⟨mX11_countRows, rfl, (uw_m7 231 rfl rfl), (uw_m7 233 rfl rfl), (uw_mem 94 (by decide +kernel) rfl), ⟨TX11, 74, rfl⟩, by decide +kernel⟩
def uvl_X11 : List ab_3 := [(168, 162, 1), (172, 163, 1), (186, 164, 0), (189, 165, 0), (192, 184, 0), (210, 167, 1), (214, 171, 1), (217, 175, 1), (223, 168, 1), (226, 170, 1), (229, 182, 2), (245, 186, 2), (249, 172, 1), (252, 194, 1), (255, 197, 1), (258, 187, 2), (270, 204, 0), (277, 205, 1), (280, 207, 0), (292, 209, 0), (299, 212, 1), (305, 216, 2), (311, 211, 1), (314, 219, 3), (318, 215, 1), (321, 213, 1), (324, 214, 3), (328, 220, 3), (331, 208, 0), (336, 217, 3), (340, 210, 0), (346, 221, 4), (350, 223, 2), (354, 218, 1), (360, 222, 0), (363, 224, 1), (366, 227, 1), (369, 231, 2), (372, 236, 2), (378, 239, 0), (381, 246, 0), (384, 245, 1)]
set_option maxRecDepth 20000 in
theorem uv_X11 : ∀ q ∈ uvl_X11, ab_okV uw vwCl prg RX11 q := List.forall_mem_cons.mpr ⟨uv_X11_0, List.forall_mem_cons.mpr ⟨uv_X11_1, List.forall_mem_cons.mpr ⟨uv_X11_2, List.forall_mem_cons.mpr ⟨uv_X11_3, List.forall_mem_cons.mpr ⟨uv_X11_4, List.forall_mem_cons.mpr ⟨uv_X11_5, List.forall_mem_cons.mpr ⟨uv_X11_6, List.forall_mem_cons.mpr ⟨uv_X11_7, List.forall_mem_cons.mpr ⟨uv_X11_8, List.forall_mem_cons.mpr ⟨uv_X11_9, List.forall_mem_cons.mpr ⟨uv_X11_10, List.forall_mem_cons.mpr ⟨uv_X11_11, List.forall_mem_cons.mpr ⟨uv_X11_12, List.forall_mem_cons.mpr ⟨uv_X11_13, List.forall_mem_cons.mpr ⟨uv_X11_14, List.forall_mem_cons.mpr ⟨uv_X11_15, List.forall_mem_cons.mpr ⟨uv_X11_16, List.forall_mem_cons.mpr ⟨uv_X11_17, List.forall_mem_cons.mpr ⟨uv_X11_18, List.forall_mem_cons.mpr ⟨uv_X11_19, List.forall_mem_cons.mpr ⟨uv_X11_20, List.forall_mem_cons.mpr ⟨uv_X11_21, List.forall_mem_cons.mpr ⟨uv_X11_22, List.forall_mem_cons.mpr ⟨uv_X11_23, List.forall_mem_cons.mpr ⟨uv_X11_24, List.forall_mem_cons.mpr ⟨uv_X11_25, List.forall_mem_cons.mpr ⟨uv_X11_26, List.forall_mem_cons.mpr ⟨uv_X11_27, List.forall_mem_cons.mpr ⟨uv_X11_28, List.forall_mem_cons.mpr ⟨uv_X11_29, List.forall_mem_cons.mpr ⟨uv_X11_30, List.forall_mem_cons.mpr ⟨uv_X11_31, List.forall_mem_cons.mpr ⟨uv_X11_32, List.forall_mem_cons.mpr ⟨uv_X11_33, List.forall_mem_cons.mpr ⟨uv_X11_34, List.forall_mem_cons.mpr ⟨uv_X11_35, List.forall_mem_cons.mpr ⟨uv_X11_36, List.forall_mem_cons.mpr ⟨uv_X11_37, List.forall_mem_cons.mpr ⟨uv_X11_38, List.forall_mem_cons.mpr ⟨uv_X11_39, List.forall_mem_cons.mpr ⟨uv_X11_40, List.forall_mem_cons.mpr ⟨uv_X11_41, fun _ h => absurd h List.not_mem_nil⟩⟩⟩⟩⟩⟩⟩⟩⟩⟩⟩⟩⟩⟩⟩⟩⟩⟩⟩⟩⟩⟩⟩⟩⟩⟩⟩⟩⟩⟩⟩⟩⟩⟩⟩⟩⟩⟩⟩⟩⟩⟩
set_option maxRecDepth 20000 in
theorem us_X11_0 : ab_okS uw vwCl prg RX11 (220, 169, 1) := ⟨mX11_isByte, rfl, (uw_m6 189 rfl rfl), (uw_m6 190 rfl rfl), by decide +kernel⟩
set_option maxRecDepth 20000 in
theorem us_X11_1 : ab_okS uw vwCl prg RX11 (274, 206, 1) := ⟨mX11_isFigure, rfl, (uw_m7 89 rfl rfl), (uw_m7 90 rfl rfl), by decide +kernel⟩
def usl_X11 : List ab_3 := [(220, 169, 1), (274, 206, 1)]
set_option maxRecDepth 20000 in
theorem us_X11 : ∀ q ∈ usl_X11, ab_okS uw vwCl prg RX11 q := List.forall_mem_cons.mpr ⟨us_X11_0, List.forall_mem_cons.mpr ⟨us_X11_1, fun _ h => absurd h List.not_mem_nil⟩⟩
set_option maxRecDepth 20000 in
theorem uf_X2_0 : ab_okF uw vwCl RX2 (9, 2, 0) := ⟨RX2, TX2, 12, rfl, by decide, (uw_m1 74 rfl rfl)⟩
set_option maxRecDepth 20000 in
theorem uf_X2_1 : ab_okF uw vwCl RX2 (15, 2, 1) := ⟨RX2, TX2, 12, rfl, by decide, (uw_m1 80 rfl rfl)⟩
set_option maxRecDepth 20000 in
theorem uf_X2_2 : ab_okF uw vwCl RX2 (18, 2, 2) := ⟨RX2, TX2, 12, rfl, by decide, (uw_m1 85 rfl rfl)⟩
set_option maxRecDepth 20000 in
theorem uf_X2_3 : ab_okF uw vwCl RX2 (21, 2, 3) := ⟨RX2, TX2, 12, rfl, by decide, (uw_m1 88 rfl rfl)⟩
set_option maxRecDepth 20000 in
theorem uf_X2_4 : ab_okF uw vwCl RX2 (24, 2, 4) := ⟨RX2, TX2, 12, rfl, by decide, (uw_m1 93 rfl rfl)⟩
set_option maxRecDepth 20000 in
theorem uf_X2_5 : ab_okF uw vwCl RX2 (27, 2, 5) := ⟨RX2, TX2, 12, rfl, by decide, (uw_m1 98 rfl rfl)⟩
set_option maxRecDepth 20000 in
theorem uf_X2_6 : ab_okF uw vwCl RX2 (30, 2, 6) := ⟨RX2, TX2, 12, rfl, by decide, (uw_m1 103 rfl rfl)⟩
set_option maxRecDepth 20000 in
theorem uf_X2_7 : ab_okF uw vwCl RX2 (36, 2, 7) := ⟨RX2, TX2, 12, rfl, by decide, (uw_m1 107 rfl rfl)⟩
set_option maxRecDepth 20000 in
theorem uf_X2_8 : ab_okF uw vwCl RX2 (40, 2, 10) := ⟨RX2, TX2, 12, rfl, by decide, (uw_m1 118 rfl rfl)⟩
set_option maxRecDepth 20000 in
theorem uf_X2_9 : ab_okF uw vwCl RX2 (44, 2, 11) := ⟨RX2, TX2, 12, rfl, by decide, (uw_m1 120 rfl rfl)⟩
set_option maxRecDepth 20000 in
theorem uf_X2_10 : ab_okF uw vwCl RX2 (47, 0, 3) := ⟨RX0, TX0, 5, rfl, by decide, (uw_m1 35 rfl rfl)⟩
set_option maxRecDepth 20000 in
theorem uf_X2_11 : ab_okF uw vwCl RX2 (52, 2, 9) := ⟨RX2, TX2, 12, rfl, by decide, (uw_m1 115 rfl rfl)⟩
set_option maxRecDepth 20000 in
theorem uf_X2_12 : ab_okF uw vwCl RX2 (53, 0, 1) := ⟨RX0, TX0, 5, rfl, by decide, (uw_m1 33 rfl rfl)⟩
set_option maxRecDepth 20000 in
theorem uf_X2_13 : ab_okF uw vwCl RX2 (54, 2, 8) := ⟨RX2, TX2, 12, rfl, by decide, (uw_m1 110 rfl rfl)⟩
set_option maxRecDepth 20000 in
theorem uf_X2_14 : ab_okF uw vwCl RX2 (63, 0, 0) := ⟨RX0, TX0, 5, rfl, by decide, (uw_m1 31 rfl rfl)⟩
def ufl_X2 : List ab_3 := [(9, 2, 0), (15, 2, 1), (18, 2, 2), (21, 2, 3), (24, 2, 4), (27, 2, 5), (30, 2, 6), (36, 2, 7), (40, 2, 10), (44, 2, 11), (47, 0, 3), (52, 2, 9), (53, 0, 1), (54, 2, 8), (63, 0, 0)]
set_option maxRecDepth 20000 in
theorem uf_X2 : ∀ q ∈ ufl_X2, ab_okF uw vwCl RX2 q := List.forall_mem_cons.mpr ⟨uf_X2_0, List.forall_mem_cons.mpr ⟨uf_X2_1, List.forall_mem_cons.mpr ⟨uf_X2_2, List.forall_mem_cons.mpr ⟨uf_X2_3, List.forall_mem_cons.mpr ⟨uf_X2_4, List.forall_mem_cons.mpr ⟨uf_X2_5, List.forall_mem_cons.mpr ⟨uf_X2_6, List.forall_mem_cons.mpr ⟨uf_X2_7, List.forall_mem_cons.mpr ⟨uf_X2_8, List.forall_mem_cons.mpr ⟨uf_X2_9, List.forall_mem_cons.mpr ⟨uf_X2_10, List.forall_mem_cons.mpr ⟨uf_X2_11, List.forall_mem_cons.mpr ⟨uf_X2_12, List.forall_mem_cons.mpr ⟨uf_X2_13, List.forall_mem_cons.mpr ⟨uf_X2_14, fun _ h => absurd h List.not_mem_nil⟩⟩⟩⟩⟩⟩⟩⟩⟩⟩⟩⟩⟩⟩⟩
def ukl_X2 : List ab_3 := []
set_option maxRecDepth 20000 in
theorem uk_X2 : ∀ q ∈ ukl_X2, ab_okK uw RX2 q := fun _ h => absurd h List.not_mem_nil
set_option maxRecDepth 20000 in
theorem uv_X2_0 : ab_okV uw vwCl prg RX2 (70, 23, 1) := ⟨mX2_endOf, rfl, (uw_m2 217 rfl rfl), (uw_m2 218 rfl rfl), (uw_m2 219 rfl rfl), ⟨TX2, 12, rfl⟩, by decide +kernel⟩
set_option maxRecDepth 20000 in
theorem uv_X2_1 : ab_okV uw vwCl prg RX2 (74, 94, 4) := ⟨mX8_arrange, rfl, (uw_m2 221 rfl rfl), (uw_m2 222 rfl rfl), (uw_m2 223 rfl rfl), ⟨TX8, 3, rfl⟩, by decide +kernel⟩
set_option maxRecDepth 20000 in
theorem uv_X2_2 : ab_okV uw vwCl prg RX2 (78, 17, 0) := ⟨mX2_learnAlikes, rfl, (uw_m3 2 rfl rfl), (uw_m3 4 rfl rfl), (uw_mem 3 (by decide +kernel) rfl), ⟨TX2, 12, rfl⟩, by decide +kernel⟩
set_option maxRecDepth 20000 in
theorem uv_X2_3 : ab_okV uw vwCl prg RX2 (81, 18, 0) := ⟨mX2_learnFronts, rfl, (uw_m3 13 rfl rfl), (uw_m3 15 rfl rfl), (uw_mem 5 (by decide +kernel) rfl), ⟨TX2, 12, rfl⟩, by decide +kernel⟩
set_option maxRecDepth 20000 in
theorem uv_X2_4 : ab_okV uw vwCl prg RX2 (84, 19, 3) := ⟨mX2_alikeBehind, rfl, (uw_m3 6 rfl rfl), (uw_m3 8 rfl rfl), (uw_mem 4 (by decide +kernel) rfl), ⟨TX2, 12, rfl⟩, by decide +kernel⟩
set_option maxRecDepth 20000 in
theorem uv_X2_5 : ab_okV uw vwCl prg RX2 (94, 24, 1) := ⟨mX2_bytesFrom, rfl, (uw_m3 137 rfl rfl), (uw_m3 126 rfl rfl), (uw_m3 127 rfl rfl), ⟨TX2, 12, rfl⟩, by decide +kernel⟩
def uvl_X2 : List ab_3 := [(70, 23, 1), (74, 94, 4), (78, 17, 0), (81, 18, 0), (84, 19, 3), (94, 24, 1)]
set_option maxRecDepth 20000 in
theorem uv_X2 : ∀ q ∈ uvl_X2, ab_okV uw vwCl prg RX2 q := List.forall_mem_cons.mpr ⟨uv_X2_0, List.forall_mem_cons.mpr ⟨uv_X2_1, List.forall_mem_cons.mpr ⟨uv_X2_2, List.forall_mem_cons.mpr ⟨uv_X2_3, List.forall_mem_cons.mpr ⟨uv_X2_4, List.forall_mem_cons.mpr ⟨uv_X2_5, fun _ h => absurd h List.not_mem_nil⟩⟩⟩⟩⟩⟩
set_option maxRecDepth 20000 in
theorem us_X2_0 : ab_okS uw vwCl prg RX2 (57, 1002, 5) := ⟨(uw_m2 210 rfl rfl), (uw_m2 193 rfl rfl), (uw_m2 192 rfl rfl), (uw_m1 13 rfl rfl)⟩
set_option maxRecDepth 20000 in
theorem us_X2_1 : ab_okS uw vwCl prg RX2 (64, 252, 4) := ⟨mJ7_fill_fda19, rfl, (uw_m2 211 rfl rfl), (uw_m2 212 rfl rfl), by decide +kernel⟩
set_option maxRecDepth 20000 in
theorem us_X2_2 : ab_okS uw vwCl prg RX2 (88, 1000, 2) := ⟨(uw_m3 10 rfl rfl), (uw_m3 11 rfl rfl), (uw_m1 15 rfl rfl), (uw_m3 12 rfl rfl)⟩
def usl_X2 : List ab_3 := [(57, 1002, 5), (64, 252, 4), (88, 1000, 2)]
set_option maxRecDepth 20000 in
theorem us_X2 : ∀ q ∈ usl_X2, ab_okS uw vwCl prg RX2 q := List.forall_mem_cons.mpr ⟨us_X2_0, List.forall_mem_cons.mpr ⟨us_X2_1, List.forall_mem_cons.mpr ⟨us_X2_2, fun _ h => absurd h List.not_mem_nil⟩⟩⟩
set_option maxRecDepth 20000 in
theorem uf_X3_0 : ab_okF uw vwCl RX3 (11, 3, 3) := ⟨RX3, TX3, 11, rfl, by decide, (uw_m2 60 rfl rfl)⟩
set_option maxRecDepth 20000 in
theorem uf_X3_1 : ab_okF uw vwCl RX3 (17, 3, 4) := ⟨RX3, TX3, 11, rfl, by decide, (uw_m2 61 rfl rfl)⟩
set_option maxRecDepth 20000 in
theorem uf_X3_2 : ab_okF uw vwCl RX3 (20, 3, 5) := ⟨RX3, TX3, 11, rfl, by decide, (uw_m2 62 rfl rfl)⟩
set_option maxRecDepth 20000 in
theorem uf_X3_3 : ab_okF uw vwCl RX3 (23, 3, 6) := ⟨RX3, TX3, 11, rfl, by decide, (uw_m2 63 rfl rfl)⟩
set_option maxRecDepth 20000 in
theorem uf_X3_4 : ab_okF uw vwCl RX3 (26, 3, 7) := ⟨RX3, TX3, 11, rfl, by decide, (uw_m2 64 rfl rfl)⟩
set_option maxRecDepth 20000 in
theorem uf_X3_5 : ab_okF uw vwCl RX3 (29, 3, 8) := ⟨RX3, TX3, 11, rfl, by decide, (uw_m2 65 rfl rfl)⟩
set_option maxRecDepth 20000 in
theorem uf_X3_6 : ab_okF uw vwCl RX3 (32, 3, 9) := ⟨RX3, TX3, 11, rfl, by decide, (uw_m2 66 rfl rfl)⟩
set_option maxRecDepth 20000 in
theorem uf_X3_7 : ab_okF uw vwCl RX3 (35, 3, 10) := ⟨RX3, TX3, 11, rfl, by decide, (uw_m2 67 rfl rfl)⟩
set_option maxRecDepth 20000 in
theorem uf_X3_8 : ab_okF uw vwCl RX3 (39, 3, 0) := ⟨RX3, TX3, 11, rfl, by decide, (uw_m2 57 rfl rfl)⟩
set_option maxRecDepth 20000 in
theorem uf_X3_9 : ab_okF uw vwCl RX3 (43, 3, 1) := ⟨RX3, TX3, 11, rfl, by decide, (uw_m2 58 rfl rfl)⟩
set_option maxRecDepth 20000 in
theorem uf_X3_10 : ab_okF uw vwCl RX3 (50, 3, 2) := ⟨RX3, TX3, 11, rfl, by decide, (uw_m2 59 rfl rfl)⟩
set_option maxRecDepth 20000 in
theorem uf_X3_11 : ab_okF uw vwCl RX3 (61, 2, 8) := ⟨RX2, TX2, 12, rfl, by decide, (uw_m1 113 rfl rfl)⟩
set_option maxRecDepth 20000 in
theorem uf_X3_12 : ab_okF uw vwCl RX3 (66, 2, 0) := ⟨RX2, TX2, 12, rfl, by decide, (uw_m1 78 rfl rfl)⟩
set_option maxRecDepth 20000 in
theorem uf_X3_13 : ab_okF uw vwCl RX3 (77, 9, 2) := ⟨RX9, TX9, 8, rfl, by decide, (uw_m2 31 rfl rfl)⟩
set_option maxRecDepth 20000 in
theorem uf_X3_14 : ab_okF uw vwCl RX3 (80, 9, 1) := ⟨RX9, TX9, 8, rfl, by decide, (uw_m2 29 rfl rfl)⟩
set_option maxRecDepth 20000 in
theorem uf_X3_15 : ab_okF uw vwCl RX3 (91, 9, 3) := ⟨RX9, TX9, 8, rfl, by decide, (uw_m2 33 rfl rfl)⟩
set_option maxRecDepth 20000 in
theorem uf_X3_16 : ab_okF uw vwCl RX3 (94, 9, 4) := ⟨RX9, TX9, 8, rfl, by decide, (uw_m2 35 rfl rfl)⟩
set_option maxRecDepth 20000 in
theorem uf_X3_17 : ab_okF uw vwCl RX3 (107, 9, 5) := ⟨RX9, TX9, 8, rfl, by decide, (uw_m2 37 rfl rfl)⟩
def ufl_X3 : List ab_3 := [(11, 3, 3), (17, 3, 4), (20, 3, 5), (23, 3, 6), (26, 3, 7), (29, 3, 8), (32, 3, 9), (35, 3, 10), (39, 3, 0), (43, 3, 1), (50, 3, 2), (61, 2, 8), (66, 2, 0), (77, 9, 2), (80, 9, 1), (91, 9, 3), (94, 9, 4), (107, 9, 5)]
set_option maxRecDepth 20000 in
theorem uf_X3 : ∀ q ∈ ufl_X3, ab_okF uw vwCl RX3 q := List.forall_mem_cons.mpr ⟨uf_X3_0, List.forall_mem_cons.mpr ⟨uf_X3_1, List.forall_mem_cons.mpr ⟨uf_X3_2, List.forall_mem_cons.mpr ⟨uf_X3_3, List.forall_mem_cons.mpr ⟨uf_X3_4, List.forall_mem_cons.mpr ⟨uf_X3_5, List.forall_mem_cons.mpr ⟨uf_X3_6, List.forall_mem_cons.mpr ⟨uf_X3_7, List.forall_mem_cons.mpr ⟨uf_X3_8, List.forall_mem_cons.mpr ⟨uf_X3_9, List.forall_mem_cons.mpr ⟨uf_X3_10, List.forall_mem_cons.mpr ⟨uf_X3_11, List.forall_mem_cons.mpr ⟨uf_X3_12, List.forall_mem_cons.mpr ⟨uf_X3_13, List.forall_mem_cons.mpr ⟨uf_X3_14, List.forall_mem_cons.mpr ⟨uf_X3_15, List.forall_mem_cons.mpr ⟨uf_X3_16, List.forall_mem_cons.mpr ⟨uf_X3_17, fun _ h => absurd h List.not_mem_nil⟩⟩⟩⟩⟩⟩⟩⟩⟩⟩⟩⟩⟩⟩⟩⟩⟩⟩
set_option maxRecDepth 20000 in
theorem uk_X3_0 : ab_okK uw RX3 (89, 1000000, 0) := (uw_m4 160 rfl rfl)
set_option maxRecDepth 20000 in
theorem uk_X3_1 : ab_okK uw RX3 (90, 1000000, 1) := (uw_m4 161 rfl rfl)
def ukl_X3 : List ab_3 := [(89, 1000000, 0), (90, 1000000, 1)]
set_option maxRecDepth 20000 in
theorem uk_X3 : ∀ q ∈ ukl_X3, ab_okK uw RX3 q := List.forall_mem_cons.mpr ⟨uk_X3_0, List.forall_mem_cons.mpr ⟨uk_X3_1, fun _ h => absurd h List.not_mem_nil⟩⟩
set_option maxRecDepth 20000 in
theorem uv_X3_0 : ab_okV uw vwCl prg RX3 (54, 32, 0) := ⟨mX3_forget, rfl, (uw_m4 113 rfl rfl), (uw_m3 55 rfl rfl), (uw_m3 56 rfl rfl), ⟨TX3, 11, rfl⟩, by decide +kernel⟩
set_option maxRecDepth 20000 in
theorem uv_X3_1 : ab_okV uw vwCl prg RX3 (57, 99, 0) := ⟨mX9_grown, rfl, (uw_m4 114 rfl rfl), (uw_m4 115 rfl rfl), (uw_m4 116 rfl rfl), ⟨TX9, 8, rfl⟩, by decide +kernel⟩
set_option maxRecDepth 20000 in
theorem uv_X3_2 : ab_okV uw vwCl prg RX3 (69, 36, 2) := ⟨mX3_goUp, rfl, (uw_m4 152 rfl rfl), (uw_m4 154 rfl rfl), (uw_mem 41 (by decide +kernel) rfl), ⟨TX3, 11, rfl⟩, by decide +kernel⟩
set_option maxRecDepth 20000 in
theorem uv_X3_3 : ab_okV uw vwCl prg RX3 (73, 37, 1) := ⟨mX3_goDown, rfl, (uw_m4 164 rfl rfl), (uw_m4 166 rfl rfl), (uw_mem 42 (by decide +kernel) rfl), ⟨TX3, 11, rfl⟩, by decide +kernel⟩
set_option maxRecDepth 20000 in
theorem uv_X3_4 : ab_okV uw vwCl prg RX3 (83, 74, 2) := ⟨mX6_mayBe, rfl, (uw_m4 156 rfl rfl), (uw_m4 157 rfl rfl), (uw_m4 158 rfl rfl), ⟨TX6, 9, rfl⟩, by decide +kernel⟩
set_option maxRecDepth 20000 in
theorem uv_X3_5 : ab_okV uw vwCl prg RX3 (110, 39, 3) := ⟨mX3_goDownTo, rfl, (uw_m4 168 rfl rfl), (uw_m4 170 rfl rfl), (uw_mem 43 (by decide +kernel) rfl), ⟨TX3, 11, rfl⟩, by decide +kernel⟩
set_option maxRecDepth 20000 in
theorem uv_X3_6 : ab_okV uw vwCl prg RX3 (114, 38, 1) := ⟨mX3_goDownLeft, rfl, (uw_m4 172 rfl rfl), (uw_m4 174 rfl rfl), (uw_mem 44 (by decide +kernel) rfl), ⟨TX3, 11, rfl⟩, by decide +kernel⟩
def uvl_X3 : List ab_3 := [(54, 32, 0), (57, 99, 0), (69, 36, 2), (73, 37, 1), (83, 74, 2), (110, 39, 3), (114, 38, 1)]
set_option maxRecDepth 20000 in
theorem uv_X3 : ∀ q ∈ uvl_X3, ab_okV uw vwCl prg RX3 q := List.forall_mem_cons.mpr ⟨uv_X3_0, List.forall_mem_cons.mpr ⟨uv_X3_1, List.forall_mem_cons.mpr ⟨uv_X3_2, List.forall_mem_cons.mpr ⟨uv_X3_3, List.forall_mem_cons.mpr ⟨uv_X3_4, List.forall_mem_cons.mpr ⟨uv_X3_5, List.forall_mem_cons.mpr ⟨uv_X3_6, fun _ h => absurd h List.not_mem_nil⟩⟩⟩⟩⟩⟩⟩
set_option maxRecDepth 20000 in
theorem us_X3_0 : ab_okS uw vwCl prg RX3 (98, 1001, 2) := ⟨(uw_m4 162 rfl rfl), (uw_m3 32 rfl rfl), (uw_m1 15 rfl rfl), (uw_m3 33 rfl rfl)⟩
set_option maxRecDepth 20000 in
theorem us_X3_1 : ab_okS uw vwCl prg RX3 (104, 1000, 2) := ⟨(uw_m4 163 rfl rfl), (uw_m3 11 rfl rfl), (uw_m1 15 rfl rfl), (uw_m3 12 rfl rfl)⟩
def usl_X3 : List ab_3 := [(98, 1001, 2), (104, 1000, 2)]
set_option maxRecDepth 20000 in
theorem us_X3 : ∀ q ∈ usl_X3, ab_okS uw vwCl prg RX3 q := List.forall_mem_cons.mpr ⟨us_X3_0, List.forall_mem_cons.mpr ⟨us_X3_1, fun _ h => absurd h List.not_mem_nil⟩⟩
set_option maxRecDepth 20000 in
theorem uf_X4_0 : ab_okF uw vwCl RX4 (9, 4, 2) := ⟨RX4, TX4, 5, rfl, by decide, (uw_m1 195 rfl rfl)⟩
set_option maxRecDepth 20000 in
theorem uf_X4_1 : ab_okF uw vwCl RX4 (15, 4, 3) := ⟨RX4, TX4, 5, rfl, by decide, (uw_m1 197 rfl rfl)⟩
set_option maxRecDepth 20000 in
theorem uf_X4_2 : ab_okF uw vwCl RX4 (18, 4, 0) := ⟨RX4, TX4, 5, rfl, by decide, (uw_m1 193 rfl rfl)⟩
set_option maxRecDepth 20000 in
theorem uf_X4_3 : ab_okF uw vwCl RX4 (22, 4, 1) := ⟨RX4, TX4, 5, rfl, by decide, (uw_m1 194 rfl rfl)⟩
set_option maxRecDepth 20000 in
theorem uf_X4_4 : ab_okF uw vwCl RX4 (26, 4, 4) := ⟨RX4, TX4, 5, rfl, by decide, (uw_m1 199 rfl rfl)⟩
set_option maxRecDepth 20000 in
theorem uf_X4_5 : ab_okF uw vwCl RX4 (30, 2, 8) := ⟨RX2, TX2, 12, rfl, by decide, (uw_m1 109 rfl rfl)⟩
set_option maxRecDepth 20000 in
theorem uf_X4_6 : ab_okF uw vwCl RX4 (35, 1, 5) := ⟨RX1, TX1, 8, rfl, by decide, (uw_m1 161 rfl rfl)⟩
set_option maxRecDepth 20000 in
theorem uf_X4_7 : ab_okF uw vwCl RX4 (48, 2, 0) := ⟨RX2, TX2, 12, rfl, by decide, (uw_m1 75 rfl rfl)⟩
set_option maxRecDepth 20000 in
theorem uf_X4_8 : ab_okF uw vwCl RX4 (51, 1, 4) := ⟨RX1, TX1, 8, rfl, by decide, (uw_m1 159 rfl rfl)⟩
def ufl_X4 : List ab_3 := [(9, 4, 2), (15, 4, 3), (18, 4, 0), (22, 4, 1), (26, 4, 4), (30, 2, 8), (35, 1, 5), (48, 2, 0), (51, 1, 4)]
set_option maxRecDepth 20000 in
theorem uf_X4 : ∀ q ∈ ufl_X4, ab_okF uw vwCl RX4 q := List.forall_mem_cons.mpr ⟨uf_X4_0, List.forall_mem_cons.mpr ⟨uf_X4_1, List.forall_mem_cons.mpr ⟨uf_X4_2, List.forall_mem_cons.mpr ⟨uf_X4_3, List.forall_mem_cons.mpr ⟨uf_X4_4, List.forall_mem_cons.mpr ⟨uf_X4_5, List.forall_mem_cons.mpr ⟨uf_X4_6, List.forall_mem_cons.mpr ⟨uf_X4_7, List.forall_mem_cons.mpr ⟨uf_X4_8, fun _ h => absurd h List.not_mem_nil⟩⟩⟩⟩⟩⟩⟩⟩⟩
def ukl_X4 : List ab_3 := []
set_option maxRecDepth 20000 in
theorem uk_X4 : ∀ q ∈ ukl_X4, ab_okK uw RX4 q := fun _ h => absurd h List.not_mem_nil
set_option maxRecDepth 20000 in
theorem uv_X4_0 : ab_okV uw vwCl prg RX4 (40, 24, 1) := ⟨mX2_bytesFrom, rfl, (uw_m3 239 rfl rfl), (uw_m3 126 rfl rfl), (uw_m3 127 rfl rfl), ⟨TX2, 12, rfl⟩, by decide +kernel⟩
set_option maxRecDepth 20000 in
theorem uv_X4_1 : ab_okV uw vwCl prg RX4 (44, 41, 2) := ⟨mX4_differAt, rfl, (uw_m4 0 rfl rfl), (uw_m4 2 rfl rfl), (uw_mem 14 (by decide +kernel) rfl), ⟨TX4, 5, rfl⟩, by decide +kernel⟩
def uvl_X4 : List ab_3 := [(40, 24, 1), (44, 41, 2)]
set_option maxRecDepth 20000 in
theorem uv_X4 : ∀ q ∈ uvl_X4, ab_okV uw vwCl prg RX4 q := List.forall_mem_cons.mpr ⟨uv_X4_0, List.forall_mem_cons.mpr ⟨uv_X4_1, fun _ h => absurd h List.not_mem_nil⟩⟩
def usl_X4 : List ab_3 := []
set_option maxRecDepth 20000 in
theorem us_X4 : ∀ q ∈ usl_X4, ab_okS uw vwCl prg RX4 q := fun _ h => absurd h List.not_mem_nil
set_option maxRecDepth 20000 in
theorem uf_X5_0 : ab_okF uw vwCl RX5 (9, 5, 1) := ⟨RX5, TX5, 7, rfl, by decide, (uw_m2 121 rfl rfl)⟩
set_option maxRecDepth 20000 in
theorem uf_X5_1 : ab_okF uw vwCl RX5 (15, 5, 2) := ⟨RX5, TX5, 7, rfl, by decide, (uw_m2 122 rfl rfl)⟩
set_option maxRecDepth 20000 in
theorem uf_X5_2 : ab_okF uw vwCl RX5 (18, 5, 3) := ⟨RX5, TX5, 7, rfl, by decide, (uw_m2 123 rfl rfl)⟩
set_option maxRecDepth 20000 in
theorem uf_X5_3 : ab_okF uw vwCl RX5 (21, 5, 4) := ⟨RX5, TX5, 7, rfl, by decide, (uw_m2 124 rfl rfl)⟩
set_option maxRecDepth 20000 in
theorem uf_X5_4 : ab_okF uw vwCl RX5 (24, 5, 5) := ⟨RX5, TX5, 7, rfl, by decide, (uw_m2 125 rfl rfl)⟩
set_option maxRecDepth 20000 in
theorem uf_X5_5 : ab_okF uw vwCl RX5 (27, 5, 6) := ⟨RX5, TX5, 7, rfl, by decide, (uw_m2 126 rfl rfl)⟩
set_option maxRecDepth 20000 in
theorem uf_X5_6 : ab_okF uw vwCl RX5 (30, 5, 0) := ⟨RX5, TX5, 7, rfl, by decide, (uw_m2 120 rfl rfl)⟩
set_option maxRecDepth 20000 in
theorem uf_X5_7 : ab_okF uw vwCl RX5 (43, 2, 8) := ⟨RX2, TX2, 12, rfl, by decide, (uw_m1 111 rfl rfl)⟩
set_option maxRecDepth 20000 in
theorem uf_X5_8 : ab_okF uw vwCl RX5 (49, 2, 5) := ⟨RX2, TX2, 12, rfl, by decide, (uw_m1 101 rfl rfl)⟩
set_option maxRecDepth 20000 in
theorem uf_X5_9 : ab_okF uw vwCl RX5 (52, 2, 4) := ⟨RX2, TX2, 12, rfl, by decide, (uw_m1 95 rfl rfl)⟩
set_option maxRecDepth 20000 in
theorem uf_X5_10 : ab_okF uw vwCl RX5 (64, 2, 0) := ⟨RX2, TX2, 12, rfl, by decide, (uw_m1 76 rfl rfl)⟩
set_option maxRecDepth 20000 in
theorem uf_X5_11 : ab_okF uw vwCl RX5 (71, 2, 2) := ⟨RX2, TX2, 12, rfl, by decide, (uw_m1 86 rfl rfl)⟩
set_option maxRecDepth 20000 in
theorem uf_X5_12 : ab_okF uw vwCl RX5 (81, 2, 3) := ⟨RX2, TX2, 12, rfl, by decide, (uw_m1 92 rfl rfl)⟩
set_option maxRecDepth 20000 in
theorem uf_X5_13 : ab_okF uw vwCl RX5 (97, 2, 1) := ⟨RX2, TX2, 12, rfl, by decide, (uw_m1 83 rfl rfl)⟩
def ufl_X5 : List ab_3 := [(9, 5, 1), (15, 5, 2), (18, 5, 3), (21, 5, 4), (24, 5, 5), (27, 5, 6), (30, 5, 0), (43, 2, 8), (49, 2, 5), (52, 2, 4), (64, 2, 0), (71, 2, 2), (81, 2, 3), (97, 2, 1)]
set_option maxRecDepth 20000 in
theorem uf_X5 : ∀ q ∈ ufl_X5, ab_okF uw vwCl RX5 q := List.forall_mem_cons.mpr ⟨uf_X5_0, List.forall_mem_cons.mpr ⟨uf_X5_1, List.forall_mem_cons.mpr ⟨uf_X5_2, List.forall_mem_cons.mpr ⟨uf_X5_3, List.forall_mem_cons.mpr ⟨uf_X5_4, List.forall_mem_cons.mpr ⟨uf_X5_5, List.forall_mem_cons.mpr ⟨uf_X5_6, List.forall_mem_cons.mpr ⟨uf_X5_7, List.forall_mem_cons.mpr ⟨uf_X5_8, List.forall_mem_cons.mpr ⟨uf_X5_9, List.forall_mem_cons.mpr ⟨uf_X5_10, List.forall_mem_cons.mpr ⟨uf_X5_11, List.forall_mem_cons.mpr ⟨uf_X5_12, List.forall_mem_cons.mpr ⟨uf_X5_13, fun _ h => absurd h List.not_mem_nil⟩⟩⟩⟩⟩⟩⟩⟩⟩⟩⟩⟩⟩⟩
def ukl_X5 : List ab_3 := []
set_option maxRecDepth 20000 in
theorem uk_X5 : ∀ q ∈ ukl_X5, ab_okK uw RX5 q := fun _ h => absurd h List.not_mem_nil
set_option maxRecDepth 20000 in
theorem uv_X5_0 : ab_okV uw vwCl prg RX5 (34, 43, 0) := ⟨mX5_learnEarlier, rfl, (uw_m3 26 rfl rfl), (uw_m3 28 rfl rfl), (uw_mem 6 (by decide +kernel) rfl), ⟨TX5, 7, rfl⟩, by decide +kernel⟩
set_option maxRecDepth 20000 in
theorem uv_X5_1 : ab_okV uw vwCl prg RX5 (37, 45, 0) := ⟨mX5_learnReaches, rfl, (uw_m3 34 rfl rfl), (uw_m3 36 rfl rfl), (uw_mem 7 (by decide +kernel) rfl), ⟨TX5, 7, rfl⟩, by decide +kernel⟩
set_option maxRecDepth 20000 in
theorem uv_X5_2 : ab_okV uw vwCl prg RX5 (40, 46, 0) := ⟨mX5_learnGapReaches, rfl, (uw_m3 42 rfl rfl), (uw_m3 44 rfl rfl), (uw_mem 9 (by decide +kernel) rfl), ⟨TX5, 7, rfl⟩, by decide +kernel⟩
set_option maxRecDepth 20000 in
theorem uv_X5_3 : ab_okV uw vwCl prg RX5 (67, 44, 2) := ⟨mX5_mirrored, rfl, (uw_m3 38 rfl rfl), (uw_m3 40 rfl rfl), (uw_mem 8 (by decide +kernel) rfl), ⟨TX5, 7, rfl⟩, by decide +kernel⟩
set_option maxRecDepth 20000 in
theorem uv_X5_4 : ab_okV uw vwCl prg RX5 (74, 23, 1) := ⟨mX2_endOf, rfl, (uw_m5 48 rfl rfl), (uw_m2 218 rfl rfl), (uw_m2 219 rfl rfl), ⟨TX2, 12, rfl⟩, by decide +kernel⟩
set_option maxRecDepth 20000 in
theorem uv_X5_5 : ab_okV uw vwCl prg RX5 (78, 49, 1) := ⟨mX5_leastEarlier, rfl, (uw_m5 53 rfl rfl), (uw_m5 55 rfl rfl), (uw_mem 50 (by decide +kernel) rfl), ⟨TX5, 7, rfl⟩, by decide +kernel⟩
set_option maxRecDepth 20000 in
theorem uv_X5_6 : ab_okV uw vwCl prg RX5 (84, 51, 2) := ⟨mX5_periodOfWords, rfl, (uw_m5 65 rfl rfl), (uw_m5 67 rfl rfl), (uw_mem 51 (by decide +kernel) rfl), ⟨TX5, 7, rfl⟩, by decide +kernel⟩
set_option maxRecDepth 20000 in
theorem uv_X5_7 : ab_okV uw vwCl prg RX5 (87, 52, 3) := ⟨mX5_endOfWords, rfl, (uw_m5 69 rfl rfl), (uw_m5 71 rfl rfl), (uw_mem 52 (by decide +kernel) rfl), ⟨TX5, 7, rfl⟩, by decide +kernel⟩
set_option maxRecDepth 20000 in
theorem uv_X5_8 : ab_okV uw vwCl prg RX5 (91, 24, 1) := ⟨mX2_bytesFrom, rfl, (uw_m5 81 rfl rfl), (uw_m3 126 rfl rfl), (uw_m3 127 rfl rfl), ⟨TX2, 12, rfl⟩, by decide +kernel⟩
def uvl_X5 : List ab_3 := [(34, 43, 0), (37, 45, 0), (40, 46, 0), (67, 44, 2), (74, 23, 1), (78, 49, 1), (84, 51, 2), (87, 52, 3), (91, 24, 1)]
set_option maxRecDepth 20000 in
theorem uv_X5 : ∀ q ∈ uvl_X5, ab_okV uw vwCl prg RX5 q := List.forall_mem_cons.mpr ⟨uv_X5_0, List.forall_mem_cons.mpr ⟨uv_X5_1, List.forall_mem_cons.mpr ⟨uv_X5_2, List.forall_mem_cons.mpr ⟨uv_X5_3, List.forall_mem_cons.mpr ⟨uv_X5_4, List.forall_mem_cons.mpr ⟨uv_X5_5, List.forall_mem_cons.mpr ⟨uv_X5_6, List.forall_mem_cons.mpr ⟨uv_X5_7, List.forall_mem_cons.mpr ⟨uv_X5_8, fun _ h => absurd h List.not_mem_nil⟩⟩⟩⟩⟩⟩⟩⟩⟩
set_option maxRecDepth 20000 in
theorem us_X5_0 : ab_okS uw vwCl prg RX5 (55, 1000, 2) := ⟨(uw_m3 30 rfl rfl), (uw_m3 11 rfl rfl), (uw_m1 15 rfl rfl), (uw_m3 12 rfl rfl)⟩
set_option maxRecDepth 20000 in
theorem us_X5_1 : ab_okS uw vwCl prg RX5 (61, 1001, 2) := ⟨(uw_m3 31 rfl rfl), (uw_m3 32 rfl rfl), (uw_m1 15 rfl rfl), (uw_m3 33 rfl rfl)⟩
set_option maxRecDepth 20000 in
theorem us_X5_2 : ab_okS uw vwCl prg RX5 (94, 54, 3) := ⟨mX5_nearer, rfl, (uw_m5 82 rfl rfl), (uw_m5 83 rfl rfl), by decide +kernel⟩
def usl_X5 : List ab_3 := [(55, 1000, 2), (61, 1001, 2), (94, 54, 3)]
set_option maxRecDepth 20000 in
theorem us_X5 : ∀ q ∈ usl_X5, ab_okS uw vwCl prg RX5 q := List.forall_mem_cons.mpr ⟨us_X5_0, List.forall_mem_cons.mpr ⟨us_X5_1, List.forall_mem_cons.mpr ⟨us_X5_2, fun _ h => absurd h List.not_mem_nil⟩⟩⟩
set_option maxRecDepth 20000 in
theorem uf_X6_0 : ab_okF uw vwCl RX6 (9, 6, 0) := ⟨RX6, TX6, 9, rfl, by decide, (uw_m1 218 rfl rfl)⟩
set_option maxRecDepth 20000 in
theorem uf_X6_1 : ab_okF uw vwCl RX6 (15, 6, 1) := ⟨RX6, TX6, 9, rfl, by decide, (uw_m1 220 rfl rfl)⟩
set_option maxRecDepth 20000 in
theorem uf_X6_2 : ab_okF uw vwCl RX6 (18, 6, 2) := ⟨RX6, TX6, 9, rfl, by decide, (uw_m1 222 rfl rfl)⟩
set_option maxRecDepth 20000 in
theorem uf_X6_3 : ab_okF uw vwCl RX6 (21, 6, 3) := ⟨RX6, TX6, 9, rfl, by decide, (uw_m1 224 rfl rfl)⟩
set_option maxRecDepth 20000 in
theorem uf_X6_4 : ab_okF uw vwCl RX6 (24, 6, 4) := ⟨RX6, TX6, 9, rfl, by decide, (uw_m1 226 rfl rfl)⟩
set_option maxRecDepth 20000 in
theorem uf_X6_5 : ab_okF uw vwCl RX6 (27, 6, 5) := ⟨RX6, TX6, 9, rfl, by decide, (uw_m1 228 rfl rfl)⟩
set_option maxRecDepth 20000 in
theorem uf_X6_6 : ab_okF uw vwCl RX6 (31, 6, 8) := ⟨RX6, TX6, 9, rfl, by decide, (uw_m1 233 rfl rfl)⟩
set_option maxRecDepth 20000 in
theorem uf_X6_7 : ab_okF uw vwCl RX6 (35, 6, 6) := ⟨RX6, TX6, 9, rfl, by decide, (uw_m1 229 rfl rfl)⟩
set_option maxRecDepth 20000 in
theorem uf_X6_8 : ab_okF uw vwCl RX6 (38, 6, 7) := ⟨RX6, TX6, 9, rfl, by decide, (uw_m1 232 rfl rfl)⟩
def ufl_X6 : List ab_3 := [(9, 6, 0), (15, 6, 1), (18, 6, 2), (21, 6, 3), (24, 6, 4), (27, 6, 5), (31, 6, 8), (35, 6, 6), (38, 6, 7)]
set_option maxRecDepth 20000 in
theorem uf_X6 : ∀ q ∈ ufl_X6, ab_okF uw vwCl RX6 q := List.forall_mem_cons.mpr ⟨uf_X6_0, List.forall_mem_cons.mpr ⟨uf_X6_1, List.forall_mem_cons.mpr ⟨uf_X6_2, List.forall_mem_cons.mpr ⟨uf_X6_3, List.forall_mem_cons.mpr ⟨uf_X6_4, List.forall_mem_cons.mpr ⟨uf_X6_5, List.forall_mem_cons.mpr ⟨uf_X6_6, List.forall_mem_cons.mpr ⟨uf_X6_7, List.forall_mem_cons.mpr ⟨uf_X6_8, fun _ h => absurd h List.not_mem_nil⟩⟩⟩⟩⟩⟩⟩⟩⟩
set_option maxRecDepth 20000 in
theorem uk_X6_0 : ab_okK uw RX6 (107, 1, 3) := (uw_m4 75 rfl rfl)
def ukl_X6 : List ab_3 := [(107, 1, 3)]
set_option maxRecDepth 20000 in
theorem uk_X6 : ∀ q ∈ ukl_X6, ab_okK uw RX6 q := List.forall_mem_cons.mpr ⟨uk_X6_0, fun _ h => absurd h List.not_mem_nil⟩
set_option maxRecDepth 20000 in
theorem uv_X6_0 : ab_okV uw vwCl prg RX6 (41, 62, 1) := ⟨mX6_readSum, rfl, (uw_m4 24 rfl rfl), (uw_m4 26 rfl rfl), (uw_mem 15 (by decide +kernel) rfl), ⟨TX6, 9, rfl⟩, by decide +kernel⟩
set_option maxRecDepth 20000 in
theorem uv_X6_1 : ab_okV uw vwCl prg RX6 (51, 60, 0) := ⟨mX6_goesOn, rfl, (uw_m4 28 rfl rfl), (uw_m4 30 rfl rfl), (uw_mem 16 (by decide +kernel) rfl), ⟨TX6, 9, rfl⟩, by decide +kernel⟩
set_option maxRecDepth 20000 in
theorem uv_X6_2 : ab_okV uw vwCl prg RX6 (55, 63, 1) := ⟨mX6_readItem, rfl, (uw_m4 32 rfl rfl), (uw_m4 34 rfl rfl), (uw_mem 17 (by decide +kernel) rfl), ⟨TX6, 9, rfl⟩, by decide +kernel⟩
set_option maxRecDepth 20000 in
theorem uv_X6_3 : ab_okV uw vwCl prg RX6 (61, 65, 1) := ⟨mX6_readAtom, rfl, (uw_m4 36 rfl rfl), (uw_m4 38 rfl rfl), (uw_mem 18 (by decide +kernel) rfl), ⟨TX6, 9, rfl⟩, by decide +kernel⟩
set_option maxRecDepth 20000 in
theorem uv_X6_4 : ab_okV uw vwCl prg RX6 (64, 75, 1) := ⟨mX6_readRepeat, rfl, (uw_m4 80 rfl rfl), (uw_m4 82 rfl rfl), (uw_mem 28 (by decide +kernel) rfl), ⟨TX6, 9, rfl⟩, by decide +kernel⟩
set_option maxRecDepth 20000 in
theorem uv_X6_5 : ab_okV uw vwCl prg RX6 (68, 64, 1) := ⟨mX6_copies, rfl, (uw_m4 100 rfl rfl), (uw_m4 101 rfl rfl), (uw_m4 102 rfl rfl), ⟨TX6, 9, rfl⟩, by decide +kernel⟩
set_option maxRecDepth 20000 in
theorem uv_X6_6 : ab_okV uw vwCl prg RX6 (80, 67, 1) := ⟨mX6_readBrackets, rfl, (uw_m4 43 rfl rfl), (uw_m4 45 rfl rfl), (uw_mem 19 (by decide +kernel) rfl), ⟨TX6, 9, rfl⟩, by decide +kernel⟩
set_option maxRecDepth 20000 in
theorem uv_X6_7 : ab_okV uw vwCl prg RX6 (83, 70, 1) := ⟨mX6_readRanges, rfl, (uw_m4 55 rfl rfl), (uw_m4 57 rfl rfl), (uw_mem 22 (by decide +kernel) rfl), ⟨TX6, 9, rfl⟩, by decide +kernel⟩
set_option maxRecDepth 20000 in
theorem uv_X6_8 : ab_okV uw vwCl prg RX6 (86, 73, 3) := ⟨mX6_addBytes, rfl, (uw_m4 71 rfl rfl), (uw_m4 73 rfl rfl), (uw_mem 26 (by decide +kernel) rfl), ⟨TX6, 9, rfl⟩, by decide +kernel⟩
set_option maxRecDepth 20000 in
theorem uv_X6_9 : ab_okV uw vwCl prg RX6 (90, 66, 1) := ⟨mX6_readPlain, rfl, (uw_m4 76 rfl rfl), (uw_m4 78 rfl rfl), (uw_mem 27 (by decide +kernel) rfl), ⟨TX6, 9, rfl⟩, by decide +kernel⟩
set_option maxRecDepth 20000 in
theorem uv_X6_10 : ab_okV uw vwCl prg RX6 (93, 69, 0) := ⟨mX6_readByte, rfl, (uw_m4 67 rfl rfl), (uw_m4 69 rfl rfl), (uw_mem 25 (by decide +kernel) rfl), ⟨TX6, 9, rfl⟩, by decide +kernel⟩
set_option maxRecDepth 20000 in
theorem uv_X6_11 : ab_okV uw vwCl prg RX6 (97, 68, 1) := ⟨mX6_readSign, rfl, (uw_m4 47 rfl rfl), (uw_m4 49 rfl rfl), (uw_mem 20 (by decide +kernel) rfl), ⟨TX6, 9, rfl⟩, by decide +kernel⟩
set_option maxRecDepth 20000 in
theorem uv_X6_12 : ab_okV uw vwCl prg RX6 (100, 59, 1) := ⟨mX6_comes, rfl, (uw_m4 51 rfl rfl), (uw_m4 53 rfl rfl), (uw_mem 21 (by decide +kernel) rfl), ⟨TX6, 9, rfl⟩, by decide +kernel⟩
set_option maxRecDepth 20000 in
theorem uv_X6_13 : ab_okV uw vwCl prg RX6 (104, 71, 1) := ⟨mX6_readRange, rfl, (uw_m4 59 rfl rfl), (uw_m4 61 rfl rfl), (uw_mem 23 (by decide +kernel) rfl), ⟨TX6, 9, rfl⟩, by decide +kernel⟩
set_option maxRecDepth 20000 in
theorem uv_X6_14 : ab_okV uw vwCl prg RX6 (109, 72, 0) := ⟨mX6_readRangeByte, rfl, (uw_m4 63 rfl rfl), (uw_m4 65 rfl rfl), (uw_mem 24 (by decide +kernel) rfl), ⟨TX6, 9, rfl⟩, by decide +kernel⟩
set_option maxRecDepth 20000 in
theorem uv_X6_15 : ab_okV uw vwCl prg RX6 (112, 76, 3) := ⟨mX6_repeat, rfl, (uw_m4 84 rfl rfl), (uw_m4 86 rfl rfl), (uw_mem 29 (by decide +kernel) rfl), ⟨TX6, 9, rfl⟩, by decide +kernel⟩
set_option maxRecDepth 20000 in
theorem uv_X6_16 : ab_okV uw vwCl prg RX6 (115, 77, 1) := ⟨mX6_readNumbers, rfl, (uw_m4 88 rfl rfl), (uw_m4 90 rfl rfl), (uw_mem 30 (by decide +kernel) rfl), ⟨TX6, 9, rfl⟩, by decide +kernel⟩
set_option maxRecDepth 20000 in
theorem uv_X6_17 : ab_okV uw vwCl prg RX6 (118, 78, 0) := ⟨mX6_readNumber, rfl, (uw_m4 92 rfl rfl), (uw_m4 94 rfl rfl), (uw_mem 31 (by decide +kernel) rfl), ⟨TX6, 9, rfl⟩, by decide +kernel⟩
set_option maxRecDepth 20000 in
theorem uv_X6_18 : ab_okV uw vwCl prg RX6 (121, 79, 0) := ⟨mX6_figureComes, rfl, (uw_m4 96 rfl rfl), (uw_m4 98 rfl rfl), (uw_mem 32 (by decide +kernel) rfl), ⟨TX6, 9, rfl⟩, by decide +kernel⟩
def uvl_X6 : List ab_3 := [(41, 62, 1), (51, 60, 0), (55, 63, 1), (61, 65, 1), (64, 75, 1), (68, 64, 1), (80, 67, 1), (83, 70, 1), (86, 73, 3), (90, 66, 1), (93, 69, 0), (97, 68, 1), (100, 59, 1), (104, 71, 1), (109, 72, 0), (112, 76, 3), (115, 77, 1), (118, 78, 0), (121, 79, 0)]
set_option maxRecDepth 20000 in
theorem uv_X6 : ∀ q ∈ uvl_X6, ab_okV uw vwCl prg RX6 q := List.forall_mem_cons.mpr ⟨uv_X6_0, List.forall_mem_cons.mpr ⟨uv_X6_1, List.forall_mem_cons.mpr ⟨uv_X6_2, List.forall_mem_cons.mpr ⟨uv_X6_3, List.forall_mem_cons.mpr ⟨uv_X6_4, List.forall_mem_cons.mpr ⟨uv_X6_5, List.forall_mem_cons.mpr ⟨uv_X6_6, List.forall_mem_cons.mpr ⟨uv_X6_7, List.forall_mem_cons.mpr ⟨uv_X6_8, List.forall_mem_cons.mpr ⟨uv_X6_9, List.forall_mem_cons.mpr ⟨uv_X6_10, List.forall_mem_cons.mpr ⟨uv_X6_11, List.forall_mem_cons.mpr ⟨uv_X6_12, List.forall_mem_cons.mpr ⟨uv_X6_13, List.forall_mem_cons.mpr ⟨uv_X6_14, List.forall_mem_cons.mpr ⟨uv_X6_15, List.forall_mem_cons.mpr ⟨uv_X6_16, List.forall_mem_cons.mpr ⟨uv_X6_17, List.forall_mem_cons.mpr ⟨uv_X6_18, fun _ h => absurd h List.not_mem_nil⟩⟩⟩⟩⟩⟩⟩⟩⟩⟩⟩⟩⟩⟩⟩⟩⟩⟩⟩
set_option maxRecDepth 20000 in
theorem us_X6_0 : ab_okS uw vwCl prg RX6 (45, 1001, 2) := ⟨(uw_m4 108 rfl rfl), (uw_m3 32 rfl rfl), (uw_m1 15 rfl rfl), (uw_m3 33 rfl rfl)⟩
set_option maxRecDepth 20000 in
theorem us_X6_1 : ab_okS uw vwCl prg RX6 (58, 61, 1) := ⟨mX6_bounded, rfl, (uw_m4 105 rfl rfl), (uw_m4 106 rfl rfl), by decide +kernel⟩
set_option maxRecDepth 20000 in
theorem us_X6_2 : ab_okS uw vwCl prg RX6 (71, 1000, 2) := ⟨(uw_m4 104 rfl rfl), (uw_m3 11 rfl rfl), (uw_m1 15 rfl rfl), (uw_m3 12 rfl rfl)⟩
set_option maxRecDepth 20000 in
theorem us_X6_3 : ab_okS uw vwCl prg RX6 (74, 250, 4) := ⟨mJ7_fill_bad5a, rfl, (uw_m4 40 rfl rfl), (uw_m4 41 rfl rfl), by decide +kernel⟩
def usl_X6 : List ab_3 := [(45, 1001, 2), (58, 61, 1), (71, 1000, 2), (74, 250, 4)]
set_option maxRecDepth 20000 in
theorem us_X6 : ∀ q ∈ usl_X6, ab_okS uw vwCl prg RX6 q := List.forall_mem_cons.mpr ⟨us_X6_0, List.forall_mem_cons.mpr ⟨us_X6_1, List.forall_mem_cons.mpr ⟨us_X6_2, List.forall_mem_cons.mpr ⟨us_X6_3, fun _ h => absurd h List.not_mem_nil⟩⟩⟩⟩
set_option maxRecDepth 20000 in
theorem uf_X7_0 : ab_okF uw vwCl RX7 (9, 7, 2) := ⟨RX7, TX7, 5, rfl, by decide, (uw_m2 99 rfl rfl)⟩
set_option maxRecDepth 20000 in
theorem uf_X7_1 : ab_okF uw vwCl RX7 (15, 7, 3) := ⟨RX7, TX7, 5, rfl, by decide, (uw_m2 100 rfl rfl)⟩
set_option maxRecDepth 20000 in
theorem uf_X7_2 : ab_okF uw vwCl RX7 (18, 7, 4) := ⟨RX7, TX7, 5, rfl, by decide, (uw_m2 102 rfl rfl)⟩
set_option maxRecDepth 20000 in
theorem uf_X7_3 : ab_okF uw vwCl RX7 (21, 7, 0) := ⟨RX7, TX7, 5, rfl, by decide, (uw_m2 97 rfl rfl)⟩
set_option maxRecDepth 20000 in
theorem uf_X7_4 : ab_okF uw vwCl RX7 (25, 7, 1) := ⟨RX7, TX7, 5, rfl, by decide, (uw_m2 98 rfl rfl)⟩
set_option maxRecDepth 20000 in
theorem uf_X7_5 : ab_okF uw vwCl RX7 (29, 2, 8) := ⟨RX2, TX2, 12, rfl, by decide, (uw_m1 108 rfl rfl)⟩
set_option maxRecDepth 20000 in
theorem uf_X7_6 : ab_okF uw vwCl RX7 (35, 2, 6) := ⟨RX2, TX2, 12, rfl, by decide, (uw_m1 104 rfl rfl)⟩
set_option maxRecDepth 20000 in
theorem uf_X7_7 : ab_okF uw vwCl RX7 (38, 2, 5) := ⟨RX2, TX2, 12, rfl, by decide, (uw_m1 99 rfl rfl)⟩
set_option maxRecDepth 20000 in
theorem uf_X7_8 : ab_okF uw vwCl RX7 (47, 2, 3) := ⟨RX2, TX2, 12, rfl, by decide, (uw_m1 89 rfl rfl)⟩
set_option maxRecDepth 20000 in
theorem uf_X7_9 : ab_okF uw vwCl RX7 (66, 1, 5) := ⟨RX1, TX1, 8, rfl, by decide, (uw_m1 163 rfl rfl)⟩
set_option maxRecDepth 20000 in
theorem uf_X7_10 : ab_okF uw vwCl RX7 (69, 1, 6) := ⟨RX1, TX1, 8, rfl, by decide, (uw_m1 166 rfl rfl)⟩
set_option maxRecDepth 20000 in
theorem uf_X7_11 : ab_okF uw vwCl RX7 (82, 2, 1) := ⟨RX2, TX2, 12, rfl, by decide, (uw_m1 81 rfl rfl)⟩
set_option maxRecDepth 20000 in
theorem uf_X7_12 : ab_okF uw vwCl RX7 (85, 2, 4) := ⟨RX2, TX2, 12, rfl, by decide, (uw_m1 97 rfl rfl)⟩
def ufl_X7 : List ab_3 := [(9, 7, 2), (15, 7, 3), (18, 7, 4), (21, 7, 0), (25, 7, 1), (29, 2, 8), (35, 2, 6), (38, 2, 5), (47, 2, 3), (66, 1, 5), (69, 1, 6), (82, 2, 1), (85, 2, 4)]
set_option maxRecDepth 20000 in
theorem uf_X7 : ∀ q ∈ ufl_X7, ab_okF uw vwCl RX7 q := List.forall_mem_cons.mpr ⟨uf_X7_0, List.forall_mem_cons.mpr ⟨uf_X7_1, List.forall_mem_cons.mpr ⟨uf_X7_2, List.forall_mem_cons.mpr ⟨uf_X7_3, List.forall_mem_cons.mpr ⟨uf_X7_4, List.forall_mem_cons.mpr ⟨uf_X7_5, List.forall_mem_cons.mpr ⟨uf_X7_6, List.forall_mem_cons.mpr ⟨uf_X7_7, List.forall_mem_cons.mpr ⟨uf_X7_8, List.forall_mem_cons.mpr ⟨uf_X7_9, List.forall_mem_cons.mpr ⟨uf_X7_10, List.forall_mem_cons.mpr ⟨uf_X7_11, List.forall_mem_cons.mpr ⟨uf_X7_12, fun _ h => absurd h List.not_mem_nil⟩⟩⟩⟩⟩⟩⟩⟩⟩⟩⟩⟩⟩
def ukl_X7 : List ab_3 := []
set_option maxRecDepth 20000 in
theorem uk_X7 : ∀ q ∈ ukl_X7, ab_okK uw RX7 q := fun _ h => absurd h List.not_mem_nil
set_option maxRecDepth 20000 in
theorem uv_X7_0 : ab_okV uw vwCl prg RX7 (50, 24, 1) := ⟨mX2_bytesFrom, rfl, (uw_m4 204 rfl rfl), (uw_m3 126 rfl rfl), (uw_m3 127 rfl rfl), ⟨TX2, 12, rfl⟩, by decide +kernel⟩
set_option maxRecDepth 20000 in
theorem uv_X7_1 : ab_okV uw vwCl prg RX7 (54, 81, 1) := ⟨mX7_lengthOf, rfl, (uw_m4 200 rfl rfl), (uw_m4 202 rfl rfl), (uw_mem 46 (by decide +kernel) rfl), ⟨TX7, 5, rfl⟩, by decide +kernel⟩
set_option maxRecDepth 20000 in
theorem uv_X7_2 : ab_okV uw vwCl prg RX7 (57, 82, 1) := ⟨mX7_newOf, rfl, (uw_m4 196 rfl rfl), (uw_m4 198 rfl rfl), (uw_mem 45 (by decide +kernel) rfl), ⟨TX7, 5, rfl⟩, by decide +kernel⟩
set_option maxRecDepth 20000 in
theorem uv_X7_3 : ab_okV uw vwCl prg RX7 (60, 4, 2) := ⟨mX1_become, rfl, (uw_m4 213 rfl rfl), (uw_m3 47 rfl rfl), (uw_m3 48 rfl rfl), ⟨TX1, 8, rfl⟩, by decide +kernel⟩
set_option maxRecDepth 20000 in
theorem uv_X7_4 : ab_okV uw vwCl prg RX7 (72, 87, 3) := ⟨mX7_firstRun, rfl, (uw_m4 230 rfl rfl), (uw_m4 232 rfl rfl), (uw_mem 47 (by decide +kernel) rfl), ⟨TX7, 5, rfl⟩, by decide +kernel⟩
set_option maxRecDepth 20000 in
theorem uv_X7_5 : ab_okV uw vwCl prg RX7 (88, 91, 1) := ⟨mX7_maximalFrom, rfl, (uw_m5 23 rfl rfl), (uw_m5 25 rfl rfl), (uw_mem 48 (by decide +kernel) rfl), ⟨TX7, 5, rfl⟩, by decide +kernel⟩
set_option maxRecDepth 20000 in
theorem uv_X7_6 : ab_okV uw vwCl prg RX7 (91, 92, 2) := ⟨mX7_maximalLength, rfl, (uw_m5 27 rfl rfl), (uw_m5 29 rfl rfl), (uw_mem 49 (by decide +kernel) rfl), ⟨TX7, 5, rfl⟩, by decide +kernel⟩
set_option maxRecDepth 20000 in
theorem uv_X7_7 : ab_okV uw vwCl prg RX7 (94, 83, 1) := ⟨mX7_howManyOf, rfl, (uw_m5 39 rfl rfl), (uw_m4 193 rfl rfl), (uw_m4 194 rfl rfl), ⟨TX7, 5, rfl⟩, by decide +kernel⟩
def uvl_X7 : List ab_3 := [(50, 24, 1), (54, 81, 1), (57, 82, 1), (60, 4, 2), (72, 87, 3), (88, 91, 1), (91, 92, 2), (94, 83, 1)]
set_option maxRecDepth 20000 in
theorem uv_X7 : ∀ q ∈ uvl_X7, ab_okV uw vwCl prg RX7 q := List.forall_mem_cons.mpr ⟨uv_X7_0, List.forall_mem_cons.mpr ⟨uv_X7_1, List.forall_mem_cons.mpr ⟨uv_X7_2, List.forall_mem_cons.mpr ⟨uv_X7_3, List.forall_mem_cons.mpr ⟨uv_X7_4, List.forall_mem_cons.mpr ⟨uv_X7_5, List.forall_mem_cons.mpr ⟨uv_X7_6, List.forall_mem_cons.mpr ⟨uv_X7_7, fun _ h => absurd h List.not_mem_nil⟩⟩⟩⟩⟩⟩⟩⟩
set_option maxRecDepth 20000 in
theorem us_X7_0 : ab_okS uw vwCl prg RX7 (41, 1000, 2) := ⟨(uw_m3 21 rfl rfl), (uw_m3 11 rfl rfl), (uw_m1 15 rfl rfl), (uw_m3 12 rfl rfl)⟩
set_option maxRecDepth 20000 in
theorem us_X7_1 : ab_okS uw vwCl prg RX7 (76, 251, 2) := ⟨mJ7_fill_53178, rfl, (uw_m4 234 rfl rfl), (uw_m3 200 rfl rfl), by decide +kernel⟩
def usl_X7 : List ab_3 := [(41, 1000, 2), (76, 251, 2)]
set_option maxRecDepth 20000 in
theorem us_X7 : ∀ q ∈ usl_X7, ab_okS uw vwCl prg RX7 q := List.forall_mem_cons.mpr ⟨us_X7_0, List.forall_mem_cons.mpr ⟨us_X7_1, fun _ h => absurd h List.not_mem_nil⟩⟩
set_option maxRecDepth 20000 in
theorem uf_X8_0 : ab_okF uw vwCl RX8 (9, 8, 0) := ⟨RX8, TX8, 3, rfl, by decide, (uw_m1 64 rfl rfl)⟩
set_option maxRecDepth 20000 in
theorem uf_X8_1 : ab_okF uw vwCl RX8 (15, 8, 1) := ⟨RX8, TX8, 3, rfl, by decide, (uw_m1 65 rfl rfl)⟩
set_option maxRecDepth 20000 in
theorem uf_X8_2 : ab_okF uw vwCl RX8 (18, 8, 2) := ⟨RX8, TX8, 3, rfl, by decide, (uw_m1 66 rfl rfl)⟩
def ufl_X8 : List ab_3 := [(9, 8, 0), (15, 8, 1), (18, 8, 2)]
set_option maxRecDepth 20000 in
theorem uf_X8 : ∀ q ∈ ufl_X8, ab_okF uw vwCl RX8 q := List.forall_mem_cons.mpr ⟨uf_X8_0, List.forall_mem_cons.mpr ⟨uf_X8_1, List.forall_mem_cons.mpr ⟨uf_X8_2, fun _ h => absurd h List.not_mem_nil⟩⟩⟩
def ukl_X8 : List ab_3 := []
set_option maxRecDepth 20000 in
theorem uk_X8 : ∀ q ∈ ukl_X8, ab_okK uw RX8 q := fun _ h => absurd h List.not_mem_nil
set_option maxRecDepth 20000 in
theorem uv_X8_0 : ab_okV uw vwCl prg RX8 (21, 96, 4) := ⟨mX8_sortByRank, rfl, (uw_m2 225 rfl rfl), (uw_m2 227 rfl rfl), (uw_mem 0 (by decide +kernel) rfl), ⟨TX8, 3, rfl⟩, by decide +kernel⟩
set_option maxRecDepth 20000 in
theorem uv_X8_1 : ab_okV uw vwCl prg RX8 (25, 97, 4) := ⟨mX8_rankAnew, rfl, (uw_m2 230 rfl rfl), (uw_m2 232 rfl rfl), (uw_mem 1 (by decide +kernel) rfl), ⟨TX8, 3, rfl⟩, by decide +kernel⟩
set_option maxRecDepth 20000 in
theorem uv_X8_2 : ab_okV uw vwCl prg RX8 (29, 95, 3) := ⟨mX8_sortByHalves, rfl, (uw_m2 238 rfl rfl), (uw_m3 0 rfl rfl), (uw_mem 2 (by decide +kernel) rfl), ⟨TX8, 3, rfl⟩, by decide +kernel⟩
def uvl_X8 : List ab_3 := [(21, 96, 4), (25, 97, 4), (29, 95, 3)]
set_option maxRecDepth 20000 in
theorem uv_X8 : ∀ q ∈ uvl_X8, ab_okV uw vwCl prg RX8 q := List.forall_mem_cons.mpr ⟨uv_X8_0, List.forall_mem_cons.mpr ⟨uv_X8_1, List.forall_mem_cons.mpr ⟨uv_X8_2, fun _ h => absurd h List.not_mem_nil⟩⟩⟩
set_option maxRecDepth 20000 in
theorem us_X8_0 : ab_okS uw vwCl prg RX8 (33, 252, 4) := ⟨mJ7_fill_fda19, rfl, (uw_m2 229 rfl rfl), (uw_m2 212 rfl rfl), by decide +kernel⟩
set_option maxRecDepth 20000 in
theorem us_X8_1 : ab_okS uw vwCl prg RX8 (39, 98, 3) := ⟨mX8_rankAt, rfl, (uw_m2 234 rfl rfl), (uw_m2 235 rfl rfl), by decide +kernel⟩
set_option maxRecDepth 20000 in
theorem us_X8_2 : ab_okS uw vwCl prg RX8 (43, 1002, 5) := ⟨(uw_m2 237 rfl rfl), (uw_m2 193 rfl rfl), (uw_m2 192 rfl rfl), (uw_m1 13 rfl rfl)⟩
def usl_X8 : List ab_3 := [(33, 252, 4), (39, 98, 3), (43, 1002, 5)]
set_option maxRecDepth 20000 in
theorem us_X8 : ∀ q ∈ usl_X8, ab_okS uw vwCl prg RX8 q := List.forall_mem_cons.mpr ⟨us_X8_0, List.forall_mem_cons.mpr ⟨us_X8_1, List.forall_mem_cons.mpr ⟨us_X8_2, fun _ h => absurd h List.not_mem_nil⟩⟩⟩
set_option maxRecDepth 20000 in
theorem uf_X9_0 : ab_okF uw vwCl RX9 (11, 9, 1) := ⟨RX9, TX9, 8, rfl, by decide, (uw_m2 28 rfl rfl)⟩
set_option maxRecDepth 20000 in
theorem uf_X9_1 : ab_okF uw vwCl RX9 (15, 9, 2) := ⟨RX9, TX9, 8, rfl, by decide, (uw_m2 30 rfl rfl)⟩
set_option maxRecDepth 20000 in
theorem uf_X9_2 : ab_okF uw vwCl RX9 (18, 9, 3) := ⟨RX9, TX9, 8, rfl, by decide, (uw_m2 32 rfl rfl)⟩
set_option maxRecDepth 20000 in
theorem uf_X9_3 : ab_okF uw vwCl RX9 (21, 9, 4) := ⟨RX9, TX9, 8, rfl, by decide, (uw_m2 34 rfl rfl)⟩
set_option maxRecDepth 20000 in
theorem uf_X9_4 : ab_okF uw vwCl RX9 (25, 9, 5) := ⟨RX9, TX9, 8, rfl, by decide, (uw_m2 36 rfl rfl)⟩
set_option maxRecDepth 20000 in
theorem uf_X9_5 : ab_okF uw vwCl RX9 (28, 9, 0) := ⟨RX9, TX9, 8, rfl, by decide, (uw_m2 27 rfl rfl)⟩
set_option maxRecDepth 20000 in
theorem uf_X9_6 : ab_okF uw vwCl RX9 (32, 9, 6) := ⟨RX9, TX9, 8, rfl, by decide, (uw_m2 38 rfl rfl)⟩
set_option maxRecDepth 20000 in
theorem uf_X9_7 : ab_okF uw vwCl RX9 (36, 9, 7) := ⟨RX9, TX9, 8, rfl, by decide, (uw_m2 39 rfl rfl)⟩
set_option maxRecDepth 20000 in
theorem uf_X9_8 : ab_okF uw vwCl RX9 (43, 6, 6) := ⟨RX6, TX6, 9, rfl, by decide, (uw_m1 230 rfl rfl)⟩
set_option maxRecDepth 20000 in
theorem uf_X9_9 : ab_okF uw vwCl RX9 (48, 6, 0) := ⟨RX6, TX6, 9, rfl, by decide, (uw_m1 219 rfl rfl)⟩
set_option maxRecDepth 20000 in
theorem uf_X9_10 : ab_okF uw vwCl RX9 (62, 6, 1) := ⟨RX6, TX6, 9, rfl, by decide, (uw_m1 221 rfl rfl)⟩
set_option maxRecDepth 20000 in
theorem uf_X9_11 : ab_okF uw vwCl RX9 (71, 6, 2) := ⟨RX6, TX6, 9, rfl, by decide, (uw_m1 223 rfl rfl)⟩
set_option maxRecDepth 20000 in
theorem uf_X9_12 : ab_okF uw vwCl RX9 (85, 6, 3) := ⟨RX6, TX6, 9, rfl, by decide, (uw_m1 225 rfl rfl)⟩
set_option maxRecDepth 20000 in
theorem uf_X9_13 : ab_okF uw vwCl RX9 (88, 6, 4) := ⟨RX6, TX6, 9, rfl, by decide, (uw_m1 227 rfl rfl)⟩
def ufl_X9 : List ab_3 := [(11, 9, 1), (15, 9, 2), (18, 9, 3), (21, 9, 4), (25, 9, 5), (28, 9, 0), (32, 9, 6), (36, 9, 7), (43, 6, 6), (48, 6, 0), (62, 6, 1), (71, 6, 2), (85, 6, 3), (88, 6, 4)]
set_option maxRecDepth 20000 in
theorem uf_X9 : ∀ q ∈ ufl_X9, ab_okF uw vwCl RX9 q := List.forall_mem_cons.mpr ⟨uf_X9_0, List.forall_mem_cons.mpr ⟨uf_X9_1, List.forall_mem_cons.mpr ⟨uf_X9_2, List.forall_mem_cons.mpr ⟨uf_X9_3, List.forall_mem_cons.mpr ⟨uf_X9_4, List.forall_mem_cons.mpr ⟨uf_X9_5, List.forall_mem_cons.mpr ⟨uf_X9_6, List.forall_mem_cons.mpr ⟨uf_X9_7, List.forall_mem_cons.mpr ⟨uf_X9_8, List.forall_mem_cons.mpr ⟨uf_X9_9, List.forall_mem_cons.mpr ⟨uf_X9_10, List.forall_mem_cons.mpr ⟨uf_X9_11, List.forall_mem_cons.mpr ⟨uf_X9_12, List.forall_mem_cons.mpr ⟨uf_X9_13, fun _ h => absurd h List.not_mem_nil⟩⟩⟩⟩⟩⟩⟩⟩⟩⟩⟩⟩⟩⟩
def ukl_X9 : List ab_3 := []
set_option maxRecDepth 20000 in
theorem uk_X9 : ∀ q ∈ ukl_X9, ab_okK uw RX9 q := fun _ h => absurd h List.not_mem_nil
set_option maxRecDepth 20000 in
theorem uv_X9_0 : ab_okV uw vwCl prg RX9 (39, 101, 1) := ⟨mX9_growSum, rfl, (uw_m4 118 rfl rfl), (uw_m4 120 rfl rfl), (uw_mem 33 (by decide +kernel) rfl), ⟨TX9, 8, rfl⟩, by decide +kernel⟩
set_option maxRecDepth 20000 in
theorem uv_X9_1 : ab_okV uw vwCl prg RX9 (51, 102, 1) := ⟨mX9_growRow, rfl, (uw_m4 122 rfl rfl), (uw_m4 124 rfl rfl), (uw_mem 34 (by decide +kernel) rfl), ⟨TX9, 8, rfl⟩, by decide +kernel⟩
set_option maxRecDepth 20000 in
theorem uv_X9_2 : ab_okV uw vwCl prg RX9 (54, 100, 1) := ⟨mX9_comes, rfl, (uw_m4 126 rfl rfl), (uw_m4 128 rfl rfl), (uw_mem 35 (by decide +kernel) rfl), ⟨TX9, 8, rfl⟩, by decide +kernel⟩
set_option maxRecDepth 20000 in
theorem uv_X9_3 : ab_okV uw vwCl prg RX9 (58, 106, 2) := ⟨mX9_choice, rfl, (uw_m4 148 rfl rfl), (uw_m4 150 rfl rfl), (uw_mem 40 (by decide +kernel) rfl), ⟨TX9, 8, rfl⟩, by decide +kernel⟩
set_option maxRecDepth 20000 in
theorem uv_X9_4 : ab_okV uw vwCl prg RX9 (65, 103, 2) := ⟨mX9_growItem, rfl, (uw_m4 130 rfl rfl), (uw_m4 132 rfl rfl), (uw_mem 36 (by decide +kernel) rfl), ⟨TX9, 8, rfl⟩, by decide +kernel⟩
set_option maxRecDepth 20000 in
theorem uv_X9_5 : ab_okV uw vwCl prg RX9 (68, 105, 2) := ⟨mX9_joined, rfl, (uw_m4 143 rfl rfl), (uw_m4 145 rfl rfl), (uw_mem 39 (by decide +kernel) rfl), ⟨TX9, 8, rfl⟩, by decide +kernel⟩
set_option maxRecDepth 20000 in
theorem uv_X9_6 : ab_okV uw vwCl prg RX9 (79, 64, 1) := ⟨mX6_copies, rfl, (uw_m4 134 rfl rfl), (uw_m4 101 rfl rfl), (uw_m4 102 rfl rfl), ⟨TX6, 9, rfl⟩, by decide +kernel⟩
set_option maxRecDepth 20000 in
theorem uv_X9_7 : ab_okV uw vwCl prg RX9 (82, 104, 2) := ⟨mX9_growAtom, rfl, (uw_m4 135 rfl rfl), (uw_m4 137 rfl rfl), (uw_mem 37 (by decide +kernel) rfl), ⟨TX9, 8, rfl⟩, by decide +kernel⟩
set_option maxRecDepth 20000 in
theorem uv_X9_8 : ab_okV uw vwCl prg RX9 (91, 107, 4) := ⟨mX9_node, rfl, (uw_m4 139 rfl rfl), (uw_m4 141 rfl rfl), (uw_mem 38 (by decide +kernel) rfl), ⟨TX9, 8, rfl⟩, by decide +kernel⟩
def uvl_X9 : List ab_3 := [(39, 101, 1), (51, 102, 1), (54, 100, 1), (58, 106, 2), (65, 103, 2), (68, 105, 2), (79, 64, 1), (82, 104, 2), (91, 107, 4)]
set_option maxRecDepth 20000 in
theorem uv_X9 : ∀ q ∈ uvl_X9, ab_okV uw vwCl prg RX9 q := List.forall_mem_cons.mpr ⟨uv_X9_0, List.forall_mem_cons.mpr ⟨uv_X9_1, List.forall_mem_cons.mpr ⟨uv_X9_2, List.forall_mem_cons.mpr ⟨uv_X9_3, List.forall_mem_cons.mpr ⟨uv_X9_4, List.forall_mem_cons.mpr ⟨uv_X9_5, List.forall_mem_cons.mpr ⟨uv_X9_6, List.forall_mem_cons.mpr ⟨uv_X9_7, List.forall_mem_cons.mpr ⟨uv_X9_8, fun _ h => absurd h List.not_mem_nil⟩⟩⟩⟩⟩⟩⟩⟩⟩
set_option maxRecDepth 20000 in
theorem us_X9_0 : ab_okS uw vwCl prg RX9 (74, 1000, 2) := ⟨(uw_m4 147 rfl rfl), (uw_m3 11 rfl rfl), (uw_m1 15 rfl rfl), (uw_m3 12 rfl rfl)⟩
def usl_X9 : List ab_3 := [(74, 1000, 2)]
set_option maxRecDepth 20000 in
theorem us_X9 : ∀ q ∈ usl_X9, ab_okS uw vwCl prg RX9 q := List.forall_mem_cons.mpr ⟨us_X9_0, fun _ h => absurd h List.not_mem_nil⟩
end
section
/-! ===== every method's code is as the small machine has it ===== -/
set_option maxRecDepth 20000 in
theorem ux_X0_addFour : ab_cd uw vwCl prg mX0_addFour := ab_bM_of uf_X0 uk_X0 uv_X0 us_X0 (FL := ufl_X0) (KL := ukl_X0) (VL := uvl_X0) (SL := usl_X0) (by decide +kernel)
set_option maxRecDepth 20000 in
theorem ux_X0_keepOfLast : ab_cd uw vwCl prg mX0_keepOfLast := ab_bM_of uf_X0 uk_X0 uv_X0 us_X0 (FL := ufl_X0) (KL := ukl_X0) (VL := uvl_X0) (SL := usl_X0) (by decide +kernel)
set_option maxRecDepth 20000 in
theorem ux_X0_endDocument : ab_cd uw vwCl prg mX0_endDocument := ab_bM_of uf_X0 uk_X0 uv_X0 us_X0 (FL := ufl_X0) (KL := ukl_X0) (VL := uvl_X0) (SL := usl_X0) (by decide +kernel)
set_option maxRecDepth 20000 in
theorem ux_X0_dropAll : ab_cd uw vwCl prg mX0_dropAll := ab_bM_of uf_X0 uk_X0 uv_X0 us_X0 (FL := ufl_X0) (KL := ukl_X0) (VL := uvl_X0) (SL := usl_X0) (by decide +kernel)
set_option maxRecDepth 20000 in
theorem ux_X1_become : ab_cd uw vwCl prg mX1_become := ab_bM_of uf_X1 uk_X1 uv_X1 us_X1 (FL := ufl_X1) (KL := ukl_X1) (VL := uvl_X1) (SL := usl_X1) (by decide +kernel)
set_option maxRecDepth 20000 in
theorem ux_X1_stand : ab_cd uw vwCl prg mX1_stand := ab_bM_of uf_X1 uk_X1 uv_X1 us_X1 (FL := ufl_X1) (KL := ukl_X1) (VL := uvl_X1) (SL := usl_X1) (by decide +kernel)
set_option maxRecDepth 20000 in
theorem ux_X1_rows : ab_cd uw vwCl prg mX1_rows := ab_bM_of uf_X1 uk_X1 uv_X1 us_X1 (FL := ufl_X1) (KL := ukl_X1) (VL := uvl_X1) (SL := usl_X1) (by decide +kernel)
set_option maxRecDepth 20000 in
theorem ux_X1_beside : ab_cd uw vwCl prg mX1_beside := ab_bM_of uf_X1 uk_X1 uv_X1 us_X1 (FL := ufl_X1) (KL := ukl_X1) (VL := uvl_X1) (SL := usl_X1) (by decide +kernel)
set_option maxRecDepth 20000 in
theorem ux_X1_extend : ab_cd uw vwCl prg mX1_extend := ab_bM_of uf_X1 uk_X1 uv_X1 us_X1 (FL := ufl_X1) (KL := ukl_X1) (VL := uvl_X1) (SL := usl_X1) (by decide +kernel)
set_option maxRecDepth 20000 in
theorem ux_X1_undo : ab_cd uw vwCl prg mX1_undo := ab_bM_of uf_X1 uk_X1 uv_X1 us_X1 (FL := ufl_X1) (KL := ukl_X1) (VL := uvl_X1) (SL := usl_X1) (by decide +kernel)
set_option maxRecDepth 20000 in
theorem ux_X1_placeInOrder : ab_cd uw vwCl prg mX1_placeInOrder := ab_bM_of uf_X1 uk_X1 uv_X1 us_X1 (FL := ufl_X1) (KL := ukl_X1) (VL := uvl_X1) (SL := usl_X1) (by decide +kernel)
set_option maxRecDepth 20000 in
theorem ux_X1_neighbour : ab_cd uw vwCl prg mX1_neighbour := ab_bM_of uf_X1 uk_X1 uv_X1 us_X1 (FL := ufl_X1) (KL := ukl_X1) (VL := uvl_X1) (SL := usl_X1) (by decide +kernel)
set_option maxRecDepth 20000 in
theorem ux_X1_placesIn : ab_cd uw vwCl prg mX1_placesIn := ab_bM_of uf_X1 uk_X1 uv_X1 us_X1 (FL := ufl_X1) (KL := ukl_X1) (VL := uvl_X1) (SL := usl_X1) (by decide +kernel)
set_option maxRecDepth 20000 in
theorem ux_X1_countByDocument : ab_cd uw vwCl prg mX1_countByDocument := ab_bM_of uf_X1 uk_X1 uv_X1 us_X1 (FL := ufl_X1) (KL := ukl_X1) (VL := uvl_X1) (SL := usl_X1) (by decide +kernel)
set_option maxRecDepth 20000 in
theorem ux_X1_documentInOrder : ab_cd uw vwCl prg mX1_documentInOrder := ab_bM_of uf_X1 uk_X1 uv_X1 us_X1 (FL := ufl_X1) (KL := ukl_X1) (VL := uvl_X1) (SL := usl_X1) (by decide +kernel)
set_option maxRecDepth 20000 in
theorem ux_X1_documentsAheadOf : ab_cd uw vwCl prg mX1_documentsAheadOf := ab_bM_of uf_X1 uk_X1 uv_X1 us_X1 (FL := ufl_X1) (KL := ukl_X1) (VL := uvl_X1) (SL := usl_X1) (by decide +kernel)
set_option maxRecDepth 20000 in
theorem ux_X2_learn : ab_cd uw vwCl prg mX2_learn := ab_bM_of uf_X2 uk_X2 uv_X2 us_X2 (FL := ufl_X2) (KL := ukl_X2) (VL := uvl_X2) (SL := usl_X2) (by decide +kernel)
set_option maxRecDepth 20000 in
theorem ux_X2_learnAlikes : ab_cd uw vwCl prg mX2_learnAlikes := ab_bM_of uf_X2 uk_X2 uv_X2 us_X2 (FL := ufl_X2) (KL := ukl_X2) (VL := uvl_X2) (SL := usl_X2) (by decide +kernel)
set_option maxRecDepth 20000 in
theorem ux_X2_learnFronts : ab_cd uw vwCl prg mX2_learnFronts := ab_bM_of uf_X2 uk_X2 uv_X2 us_X2 (FL := ufl_X2) (KL := ukl_X2) (VL := uvl_X2) (SL := usl_X2) (by decide +kernel)
set_option maxRecDepth 20000 in
theorem ux_X2_alikeBehind : ab_cd uw vwCl prg mX2_alikeBehind := ab_bM_of uf_X2 uk_X2 uv_X2 us_X2 (FL := ufl_X2) (KL := ukl_X2) (VL := uvl_X2) (SL := usl_X2) (by decide +kernel)
set_option maxRecDepth 20000 in
theorem ux_X2_alikeFrom : ab_cd uw vwCl prg mX2_alikeFrom := ab_bM_of uf_X2 uk_X2 uv_X2 us_X2 (FL := ufl_X2) (KL := ukl_X2) (VL := uvl_X2) (SL := usl_X2) (by decide +kernel)
set_option maxRecDepth 20000 in
theorem ux_X2_has : ab_cd uw vwCl prg mX2_has := ab_bM_of uf_X2 uk_X2 uv_X2 us_X2 (FL := ufl_X2) (KL := ukl_X2) (VL := uvl_X2) (SL := usl_X2) (by decide +kernel)
set_option maxRecDepth 20000 in
theorem ux_X2_hasDocument : ab_cd uw vwCl prg mX2_hasDocument := ab_bM_of uf_X2 uk_X2 uv_X2 us_X2 (FL := ufl_X2) (KL := ukl_X2) (VL := uvl_X2) (SL := usl_X2) (by decide +kernel)
set_option maxRecDepth 20000 in
theorem ux_X2_endOf : ab_cd uw vwCl prg mX2_endOf := ab_bM_of uf_X2 uk_X2 uv_X2 us_X2 (FL := ufl_X2) (KL := ukl_X2) (VL := uvl_X2) (SL := usl_X2) (by decide +kernel)
set_option maxRecDepth 20000 in
theorem ux_X2_bytesFrom : ab_cd uw vwCl prg mX2_bytesFrom := ab_bM_of uf_X2 uk_X2 uv_X2 us_X2 (FL := ufl_X2) (KL := ukl_X2) (VL := uvl_X2) (SL := usl_X2) (by decide +kernel)
set_option maxRecDepth 20000 in
theorem ux_X2_byteOf : ab_cd uw vwCl prg mX2_byteOf := ab_bM_of uf_X2 uk_X2 uv_X2 us_X2 (FL := ufl_X2) (KL := ukl_X2) (VL := uvl_X2) (SL := usl_X2) (by decide +kernel)
set_option maxRecDepth 20000 in
theorem ux_X2_tell : ab_cd uw vwCl prg mX2_tell := ab_bM_of uf_X2 uk_X2 uv_X2 us_X2 (FL := ufl_X2) (KL := ukl_X2) (VL := uvl_X2) (SL := usl_X2) (by decide +kernel)
set_option maxRecDepth 20000 in
theorem ux_X2_rowInFront : ab_cd uw vwCl prg mX2_rowInFront := ab_bM_of uf_X2 uk_X2 uv_X2 us_X2 (FL := ufl_X2) (KL := ukl_X2) (VL := uvl_X2) (SL := usl_X2) (by decide +kernel)
set_option maxRecDepth 20000 in
theorem ux_X2_frontsUpTo : ab_cd uw vwCl prg mX2_frontsUpTo := ab_bM_of uf_X2 uk_X2 uv_X2 us_X2 (FL := ufl_X2) (KL := ukl_X2) (VL := uvl_X2) (SL := usl_X2) (by decide +kernel)
set_option maxRecDepth 20000 in
theorem ux_X2_rowOfFront : ab_cd uw vwCl prg mX2_rowOfFront := ab_bM_of uf_X2 uk_X2 uv_X2 us_X2 (FL := ufl_X2) (KL := ukl_X2) (VL := uvl_X2) (SL := usl_X2) (by decide +kernel)
set_option maxRecDepth 20000 in
theorem ux_X2_sumOfAlikes : ab_cd uw vwCl prg mX2_sumOfAlikes := ab_bM_of uf_X2 uk_X2 uv_X2 us_X2 (FL := ufl_X2) (KL := ukl_X2) (VL := uvl_X2) (SL := usl_X2) (by decide +kernel)
set_option maxRecDepth 20000 in
theorem ux_X2_greatestAlike : ab_cd uw vwCl prg mX2_greatestAlike := ab_bM_of uf_X2 uk_X2 uv_X2 us_X2 (FL := ufl_X2) (KL := ukl_X2) (VL := uvl_X2) (SL := usl_X2) (by decide +kernel)
set_option maxRecDepth 20000 in
theorem ux_X3_forget : ab_cd uw vwCl prg mX3_forget := ab_bM_of uf_X3 uk_X3 uv_X3 us_X3 (FL := ufl_X3) (KL := ukl_X3) (VL := uvl_X3) (SL := usl_X3) (by decide +kernel)
set_option maxRecDepth 20000 in
theorem ux_X3_found : ab_cd uw vwCl prg mX3_found := ab_bM_of uf_X3 uk_X3 uv_X3 us_X3 (FL := ufl_X3) (KL := ukl_X3) (VL := uvl_X3) (SL := usl_X3) (by decide +kernel)
set_option maxRecDepth 20000 in
theorem ux_X3_tellFound : ab_cd uw vwCl prg mX3_tellFound := ab_bM_of uf_X3 uk_X3 uv_X3 us_X3 (FL := ufl_X3) (KL := ukl_X3) (VL := uvl_X3) (SL := usl_X3) (by decide +kernel)
set_option maxRecDepth 20000 in
theorem ux_X3_answerQuery : ab_cd uw vwCl prg mX3_answerQuery := ab_bM_of uf_X3 uk_X3 uv_X3 us_X3 (FL := ufl_X3) (KL := ukl_X3) (VL := uvl_X3) (SL := usl_X3) (by decide +kernel)
set_option maxRecDepth 20000 in
theorem ux_X3_goUp : ab_cd uw vwCl prg mX3_goUp := ab_bM_of uf_X3 uk_X3 uv_X3 us_X3 (FL := ufl_X3) (KL := ukl_X3) (VL := uvl_X3) (SL := usl_X3) (by decide +kernel)
set_option maxRecDepth 20000 in
theorem ux_X3_goDown : ab_cd uw vwCl prg mX3_goDown := ab_bM_of uf_X3 uk_X3 uv_X3 us_X3 (FL := ufl_X3) (KL := ukl_X3) (VL := uvl_X3) (SL := usl_X3) (by decide +kernel)
set_option maxRecDepth 20000 in
theorem ux_X3_goDownLeft : ab_cd uw vwCl prg mX3_goDownLeft := ab_bM_of uf_X3 uk_X3 uv_X3 us_X3 (FL := ufl_X3) (KL := ukl_X3) (VL := uvl_X3) (SL := usl_X3) (by decide +kernel)
set_option maxRecDepth 20000 in
theorem ux_X3_goDownTo : ab_cd uw vwCl prg mX3_goDownTo := ab_bM_of uf_X3 uk_X3 uv_X3 us_X3 (FL := ufl_X3) (KL := ukl_X3) (VL := uvl_X3) (SL := usl_X3) (by decide +kernel)
set_option maxRecDepth 20000 in
theorem ux_X4_find : ab_cd uw vwCl prg mX4_find := ab_bM_of uf_X4 uk_X4 uv_X4 us_X4 (FL := ufl_X4) (KL := ukl_X4) (VL := uvl_X4) (SL := usl_X4) (by decide +kernel)
set_option maxRecDepth 20000 in
theorem ux_X4_differAt : ab_cd uw vwCl prg mX4_differAt := ab_bM_of uf_X4 uk_X4 uv_X4 us_X4 (FL := ufl_X4) (KL := ukl_X4) (VL := uvl_X4) (SL := usl_X4) (by decide +kernel)
set_option maxRecDepth 20000 in
theorem ux_X5_learn : ab_cd uw vwCl prg mX5_learn := ab_bM_of uf_X5 uk_X5 uv_X5 us_X5 (FL := ufl_X5) (KL := ukl_X5) (VL := uvl_X5) (SL := usl_X5) (by decide +kernel)
set_option maxRecDepth 20000 in
theorem ux_X5_learnEarlier : ab_cd uw vwCl prg mX5_learnEarlier := ab_bM_of uf_X5 uk_X5 uv_X5 us_X5 (FL := ufl_X5) (KL := ukl_X5) (VL := uvl_X5) (SL := usl_X5) (by decide +kernel)
set_option maxRecDepth 20000 in
theorem ux_X5_mirrored : ab_cd uw vwCl prg mX5_mirrored := ab_bM_of uf_X5 uk_X5 uv_X5 us_X5 (FL := ufl_X5) (KL := ukl_X5) (VL := uvl_X5) (SL := usl_X5) (by decide +kernel)
set_option maxRecDepth 20000 in
theorem ux_X5_learnReaches : ab_cd uw vwCl prg mX5_learnReaches := ab_bM_of uf_X5 uk_X5 uv_X5 us_X5 (FL := ufl_X5) (KL := ukl_X5) (VL := uvl_X5) (SL := usl_X5) (by decide +kernel)
set_option maxRecDepth 20000 in
theorem ux_X5_learnGapReaches : ab_cd uw vwCl prg mX5_learnGapReaches := ab_bM_of uf_X5 uk_X5 uv_X5 us_X5 (FL := ufl_X5) (KL := ukl_X5) (VL := uvl_X5) (SL := usl_X5) (by decide +kernel)
set_option maxRecDepth 20000 in
theorem ux_X5_factors : ab_cd uw vwCl prg mX5_factors := ab_bM_of uf_X5 uk_X5 uv_X5 us_X5 (FL := ufl_X5) (KL := ukl_X5) (VL := uvl_X5) (SL := usl_X5) (by decide +kernel)
set_option maxRecDepth 20000 in
theorem ux_X5_tellFactor : ab_cd uw vwCl prg mX5_tellFactor := ab_bM_of uf_X5 uk_X5 uv_X5 us_X5 (FL := ufl_X5) (KL := ukl_X5) (VL := uvl_X5) (SL := usl_X5) (by decide +kernel)
set_option maxRecDepth 20000 in
theorem ux_X5_leastEarlier : ab_cd uw vwCl prg mX5_leastEarlier := ab_bM_of uf_X5 uk_X5 uv_X5 us_X5 (FL := ufl_X5) (KL := ukl_X5) (VL := uvl_X5) (SL := usl_X5) (by decide +kernel)
set_option maxRecDepth 20000 in
theorem ux_X5_fallingWord : ab_cd uw vwCl prg mX5_fallingWord := ab_bM_of uf_X5 uk_X5 uv_X5 us_X5 (FL := ufl_X5) (KL := ukl_X5) (VL := uvl_X5) (SL := usl_X5) (by decide +kernel)
set_option maxRecDepth 20000 in
theorem ux_X5_periodOfWords : ab_cd uw vwCl prg mX5_periodOfWords := ab_bM_of uf_X5 uk_X5 uv_X5 us_X5 (FL := ufl_X5) (KL := ukl_X5) (VL := uvl_X5) (SL := usl_X5) (by decide +kernel)
set_option maxRecDepth 20000 in
theorem ux_X5_endOfWords : ab_cd uw vwCl prg mX5_endOfWords := ab_bM_of uf_X5 uk_X5 uv_X5 us_X5 (FL := ufl_X5) (KL := ukl_X5) (VL := uvl_X5) (SL := usl_X5) (by decide +kernel)
set_option maxRecDepth 20000 in
theorem ux_X5_leastTwice : ab_cd uw vwCl prg mX5_leastTwice := ab_bM_of uf_X5 uk_X5 uv_X5 us_X5 (FL := ufl_X5) (KL := ukl_X5) (VL := uvl_X5) (SL := usl_X5) (by decide +kernel)
set_option maxRecDepth 20000 in
theorem ux_X5_nearer : ab_cd uw vwCl prg mX5_nearer := ab_bM_of uf_X5 uk_X5 uv_X5 us_X5 (FL := ufl_X5) (KL := ukl_X5) (VL := uvl_X5) (SL := usl_X5) (by decide +kernel)
set_option maxRecDepth 20000 in
theorem ux_X5_longestMirror : ab_cd uw vwCl prg mX5_longestMirror := ab_bM_of uf_X5 uk_X5 uv_X5 us_X5 (FL := ufl_X5) (KL := ukl_X5) (VL := uvl_X5) (SL := usl_X5) (by decide +kernel)
set_option maxRecDepth 20000 in
theorem ux_X5_longestIn : ab_cd uw vwCl prg mX5_longestIn := ab_bM_of uf_X5 uk_X5 uv_X5 us_X5 (FL := ufl_X5) (KL := ukl_X5) (VL := uvl_X5) (SL := usl_X5) (by decide +kernel)
set_option maxRecDepth 20000 in
theorem ux_X6_add : ab_cd uw vwCl prg mX6_add := ab_bM_of uf_X6 uk_X6 uv_X6 us_X6 (FL := ufl_X6) (KL := ukl_X6) (VL := uvl_X6) (SL := usl_X6) (by decide +kernel)
set_option maxRecDepth 20000 in
theorem ux_X6_read : ab_cd uw vwCl prg mX6_read := ab_bM_of uf_X6 uk_X6 uv_X6 us_X6 (FL := ufl_X6) (KL := ukl_X6) (VL := uvl_X6) (SL := usl_X6) (by decide +kernel)
set_option maxRecDepth 20000 in
theorem ux_X6_comes : ab_cd uw vwCl prg mX6_comes := ab_bM_of uf_X6 uk_X6 uv_X6 us_X6 (FL := ufl_X6) (KL := ukl_X6) (VL := uvl_X6) (SL := usl_X6) (by decide +kernel)
set_option maxRecDepth 20000 in
theorem ux_X6_goesOn : ab_cd uw vwCl prg mX6_goesOn := ab_bM_of uf_X6 uk_X6 uv_X6 us_X6 (FL := ufl_X6) (KL := ukl_X6) (VL := uvl_X6) (SL := usl_X6) (by decide +kernel)
set_option maxRecDepth 20000 in
theorem ux_X6_bounded : ab_cd uw vwCl prg mX6_bounded := ab_bM_of uf_X6 uk_X6 uv_X6 us_X6 (FL := ufl_X6) (KL := ukl_X6) (VL := uvl_X6) (SL := usl_X6) (by decide +kernel)
set_option maxRecDepth 20000 in
theorem ux_X6_readSum : ab_cd uw vwCl prg mX6_readSum := ab_bM_of uf_X6 uk_X6 uv_X6 us_X6 (FL := ufl_X6) (KL := ukl_X6) (VL := uvl_X6) (SL := usl_X6) (by decide +kernel)
set_option maxRecDepth 20000 in
theorem ux_X6_readItem : ab_cd uw vwCl prg mX6_readItem := ab_bM_of uf_X6 uk_X6 uv_X6 us_X6 (FL := ufl_X6) (KL := ukl_X6) (VL := uvl_X6) (SL := usl_X6) (by decide +kernel)
set_option maxRecDepth 20000 in
theorem ux_X6_copies : ab_cd uw vwCl prg mX6_copies := ab_bM_of uf_X6 uk_X6 uv_X6 us_X6 (FL := ufl_X6) (KL := ukl_X6) (VL := uvl_X6) (SL := usl_X6) (by decide +kernel)
set_option maxRecDepth 20000 in
theorem ux_X6_readAtom : ab_cd uw vwCl prg mX6_readAtom := ab_bM_of uf_X6 uk_X6 uv_X6 us_X6 (FL := ufl_X6) (KL := ukl_X6) (VL := uvl_X6) (SL := usl_X6) (by decide +kernel)
set_option maxRecDepth 20000 in
theorem ux_X6_readPlain : ab_cd uw vwCl prg mX6_readPlain := ab_bM_of uf_X6 uk_X6 uv_X6 us_X6 (FL := ufl_X6) (KL := ukl_X6) (VL := uvl_X6) (SL := usl_X6) (by decide +kernel)
set_option maxRecDepth 20000 in
theorem ux_X6_readBrackets : ab_cd uw vwCl prg mX6_readBrackets := ab_bM_of uf_X6 uk_X6 uv_X6 us_X6 (FL := ufl_X6) (KL := ukl_X6) (VL := uvl_X6) (SL := usl_X6) (by decide +kernel)
set_option maxRecDepth 20000 in
theorem ux_X6_readSign : ab_cd uw vwCl prg mX6_readSign := ab_bM_of uf_X6 uk_X6 uv_X6 us_X6 (FL := ufl_X6) (KL := ukl_X6) (VL := uvl_X6) (SL := usl_X6) (by decide +kernel)
set_option maxRecDepth 20000 in
theorem ux_X6_readByte : ab_cd uw vwCl prg mX6_readByte := ab_bM_of uf_X6 uk_X6 uv_X6 us_X6 (FL := ufl_X6) (KL := ukl_X6) (VL := uvl_X6) (SL := usl_X6) (by decide +kernel)
set_option maxRecDepth 20000 in
theorem ux_X6_readRanges : ab_cd uw vwCl prg mX6_readRanges := ab_bM_of uf_X6 uk_X6 uv_X6 us_X6 (FL := ufl_X6) (KL := ukl_X6) (VL := uvl_X6) (SL := usl_X6) (by decide +kernel)
set_option maxRecDepth 20000 in
theorem ux_X6_readRange : ab_cd uw vwCl prg mX6_readRange := ab_bM_of uf_X6 uk_X6 uv_X6 us_X6 (FL := ufl_X6) (KL := ukl_X6) (VL := uvl_X6) (SL := usl_X6) (by decide +kernel)
set_option maxRecDepth 20000 in
theorem ux_X6_readRangeByte : ab_cd uw vwCl prg mX6_readRangeByte := ab_bM_of uf_X6 uk_X6 uv_X6 us_X6 (FL := ufl_X6) (KL := ukl_X6) (VL := uvl_X6) (SL := usl_X6) (by decide +kernel)
set_option maxRecDepth 20000 in
theorem ux_X6_addBytes : ab_cd uw vwCl prg mX6_addBytes := ab_bM_of uf_X6 uk_X6 uv_X6 us_X6 (FL := ufl_X6) (KL := ukl_X6) (VL := uvl_X6) (SL := usl_X6) (by decide +kernel)
set_option maxRecDepth 20000 in
theorem ux_X6_mayBe : ab_cd uw vwCl prg mX6_mayBe := ab_bM_of uf_X6 uk_X6 uv_X6 us_X6 (FL := ufl_X6) (KL := ukl_X6) (VL := uvl_X6) (SL := usl_X6) (by decide +kernel)
set_option maxRecDepth 20000 in
theorem ux_X6_readRepeat : ab_cd uw vwCl prg mX6_readRepeat := ab_bM_of uf_X6 uk_X6 uv_X6 us_X6 (FL := ufl_X6) (KL := ukl_X6) (VL := uvl_X6) (SL := usl_X6) (by decide +kernel)
set_option maxRecDepth 20000 in
theorem ux_X6_repeat : ab_cd uw vwCl prg mX6_repeat := ab_bM_of uf_X6 uk_X6 uv_X6 us_X6 (FL := ufl_X6) (KL := ukl_X6) (VL := uvl_X6) (SL := usl_X6) (by decide +kernel)
set_option maxRecDepth 20000 in
theorem ux_X6_readNumbers : ab_cd uw vwCl prg mX6_readNumbers := ab_bM_of uf_X6 uk_X6 uv_X6 us_X6 (FL := ufl_X6) (KL := ukl_X6) (VL := uvl_X6) (SL := usl_X6) (by decide +kernel)
set_option maxRecDepth 20000 in
theorem ux_X6_readNumber : ab_cd uw vwCl prg mX6_readNumber := ab_bM_of uf_X6 uk_X6 uv_X6 us_X6 (FL := ufl_X6) (KL := ukl_X6) (VL := uvl_X6) (SL := usl_X6) (by decide +kernel)
set_option maxRecDepth 20000 in
theorem ux_X6_figureComes : ab_cd uw vwCl prg mX6_figureComes := ab_bM_of uf_X6 uk_X6 uv_X6 us_X6 (FL := ufl_X6) (KL := ukl_X6) (VL := uvl_X6) (SL := usl_X6) (by decide +kernel)
set_option maxRecDepth 20000 in
theorem ux_X7_learn : ab_cd uw vwCl prg mX7_learn := ab_bM_of uf_X7 uk_X7 uv_X7 us_X7 (FL := ufl_X7) (KL := ukl_X7) (VL := uvl_X7) (SL := usl_X7) (by decide +kernel)
set_option maxRecDepth 20000 in
theorem ux_X7_lengthOf : ab_cd uw vwCl prg mX7_lengthOf := ab_bM_of uf_X7 uk_X7 uv_X7 us_X7 (FL := ufl_X7) (KL := ukl_X7) (VL := uvl_X7) (SL := usl_X7) (by decide +kernel)
set_option maxRecDepth 20000 in
theorem ux_X7_newOf : ab_cd uw vwCl prg mX7_newOf := ab_bM_of uf_X7 uk_X7 uv_X7 us_X7 (FL := ufl_X7) (KL := ukl_X7) (VL := uvl_X7) (SL := usl_X7) (by decide +kernel)
set_option maxRecDepth 20000 in
theorem ux_X7_howManyOf : ab_cd uw vwCl prg mX7_howManyOf := ab_bM_of uf_X7 uk_X7 uv_X7 us_X7 (FL := ufl_X7) (KL := ukl_X7) (VL := uvl_X7) (SL := usl_X7) (by decide +kernel)
set_option maxRecDepth 20000 in
theorem ux_X7_holdInOrder : ab_cd uw vwCl prg mX7_holdInOrder := ab_bM_of uf_X7 uk_X7 uv_X7 us_X7 (FL := ufl_X7) (KL := ukl_X7) (VL := uvl_X7) (SL := usl_X7) (by decide +kernel)
set_option maxRecDepth 20000 in
theorem ux_X7_lesserThanHeld : ab_cd uw vwCl prg mX7_lesserThanHeld := ab_bM_of uf_X7 uk_X7 uv_X7 us_X7 (FL := ufl_X7) (KL := ukl_X7) (VL := uvl_X7) (SL := usl_X7) (by decide +kernel)
set_option maxRecDepth 20000 in
theorem ux_X7_holdLongest : ab_cd uw vwCl prg mX7_holdLongest := ab_bM_of uf_X7 uk_X7 uv_X7 us_X7 (FL := ufl_X7) (KL := ukl_X7) (VL := uvl_X7) (SL := usl_X7) (by decide +kernel)
set_option maxRecDepth 20000 in
theorem ux_X7_firstRun : ab_cd uw vwCl prg mX7_firstRun := ab_bM_of uf_X7 uk_X7 uv_X7 us_X7 (FL := ufl_X7) (KL := ukl_X7) (VL := uvl_X7) (SL := usl_X7) (by decide +kernel)
set_option maxRecDepth 20000 in
theorem ux_X7_holdOftenest : ab_cd uw vwCl prg mX7_holdOftenest := ab_bM_of uf_X7 uk_X7 uv_X7 us_X7 (FL := ufl_X7) (KL := ukl_X7) (VL := uvl_X7) (SL := usl_X7) (by decide +kernel)
set_option maxRecDepth 20000 in
theorem ux_X7_leastAlone : ab_cd uw vwCl prg mX7_leastAlone := ab_bM_of uf_X7 uk_X7 uv_X7 us_X7 (FL := ufl_X7) (KL := ukl_X7) (VL := uvl_X7) (SL := usl_X7) (by decide +kernel)
set_option maxRecDepth 20000 in
theorem ux_X7_holdMaximal : ab_cd uw vwCl prg mX7_holdMaximal := ab_bM_of uf_X7 uk_X7 uv_X7 us_X7 (FL := ufl_X7) (KL := ukl_X7) (VL := uvl_X7) (SL := usl_X7) (by decide +kernel)
set_option maxRecDepth 20000 in
theorem ux_X7_maximalFrom : ab_cd uw vwCl prg mX7_maximalFrom := ab_bM_of uf_X7 uk_X7 uv_X7 us_X7 (FL := ufl_X7) (KL := ukl_X7) (VL := uvl_X7) (SL := usl_X7) (by decide +kernel)
set_option maxRecDepth 20000 in
theorem ux_X7_maximalLength : ab_cd uw vwCl prg mX7_maximalLength := ab_bM_of uf_X7 uk_X7 uv_X7 us_X7 (FL := ufl_X7) (KL := ukl_X7) (VL := uvl_X7) (SL := usl_X7) (by decide +kernel)
set_option maxRecDepth 20000 in
theorem ux_X7_howManyAbsent : ab_cd uw vwCl prg mX7_howManyAbsent := ab_bM_of uf_X7 uk_X7 uv_X7 us_X7 (FL := ufl_X7) (KL := ukl_X7) (VL := uvl_X7) (SL := usl_X7) (by decide +kernel)
set_option maxRecDepth 20000 in
theorem ux_X8_arrange : ab_cd uw vwCl prg mX8_arrange := ab_bM_of uf_X8 uk_X8 uv_X8 us_X8 (FL := ufl_X8) (KL := ukl_X8) (VL := uvl_X8) (SL := usl_X8) (by decide +kernel)
set_option maxRecDepth 20000 in
theorem ux_X8_sortByHalves : ab_cd uw vwCl prg mX8_sortByHalves := ab_bM_of uf_X8 uk_X8 uv_X8 us_X8 (FL := ufl_X8) (KL := ukl_X8) (VL := uvl_X8) (SL := usl_X8) (by decide +kernel)
set_option maxRecDepth 20000 in
theorem ux_X8_sortByRank : ab_cd uw vwCl prg mX8_sortByRank := ab_bM_of uf_X8 uk_X8 uv_X8 us_X8 (FL := ufl_X8) (KL := ukl_X8) (VL := uvl_X8) (SL := usl_X8) (by decide +kernel)
set_option maxRecDepth 20000 in
theorem ux_X8_rankAnew : ab_cd uw vwCl prg mX8_rankAnew := ab_bM_of uf_X8 uk_X8 uv_X8 us_X8 (FL := ufl_X8) (KL := ukl_X8) (VL := uvl_X8) (SL := usl_X8) (by decide +kernel)
set_option maxRecDepth 20000 in
theorem ux_X8_rankAt : ab_cd uw vwCl prg mX8_rankAt := ab_bM_of uf_X8 uk_X8 uv_X8 us_X8 (FL := ufl_X8) (KL := ukl_X8) (VL := uvl_X8) (SL := usl_X8) (by decide +kernel)
set_option maxRecDepth 20000 in
theorem ux_X9_grown : ab_cd uw vwCl prg mX9_grown := ab_bM_of uf_X9 uk_X9 uv_X9 us_X9 (FL := ufl_X9) (KL := ukl_X9) (VL := uvl_X9) (SL := usl_X9) (by decide +kernel)
set_option maxRecDepth 20000 in
theorem ux_X9_comes : ab_cd uw vwCl prg mX9_comes := ab_bM_of uf_X9 uk_X9 uv_X9 us_X9 (FL := ufl_X9) (KL := ukl_X9) (VL := uvl_X9) (SL := usl_X9) (by decide +kernel)
set_option maxRecDepth 20000 in
theorem ux_X9_growSum : ab_cd uw vwCl prg mX9_growSum := ab_bM_of uf_X9 uk_X9 uv_X9 us_X9 (FL := ufl_X9) (KL := ukl_X9) (VL := uvl_X9) (SL := usl_X9) (by decide +kernel)
set_option maxRecDepth 20000 in
theorem ux_X9_growRow : ab_cd uw vwCl prg mX9_growRow := ab_bM_of uf_X9 uk_X9 uv_X9 us_X9 (FL := ufl_X9) (KL := ukl_X9) (VL := uvl_X9) (SL := usl_X9) (by decide +kernel)
set_option maxRecDepth 20000 in
theorem ux_X9_growItem : ab_cd uw vwCl prg mX9_growItem := ab_bM_of uf_X9 uk_X9 uv_X9 us_X9 (FL := ufl_X9) (KL := ukl_X9) (VL := uvl_X9) (SL := usl_X9) (by decide +kernel)
set_option maxRecDepth 20000 in
theorem ux_X9_growAtom : ab_cd uw vwCl prg mX9_growAtom := ab_bM_of uf_X9 uk_X9 uv_X9 us_X9 (FL := ufl_X9) (KL := ukl_X9) (VL := uvl_X9) (SL := usl_X9) (by decide +kernel)
set_option maxRecDepth 20000 in
theorem ux_X9_joined : ab_cd uw vwCl prg mX9_joined := ab_bM_of uf_X9 uk_X9 uv_X9 us_X9 (FL := ufl_X9) (KL := ukl_X9) (VL := uvl_X9) (SL := usl_X9) (by decide +kernel)
set_option maxRecDepth 20000 in
theorem ux_X9_choice : ab_cd uw vwCl prg mX9_choice := ab_bM_of uf_X9 uk_X9 uv_X9 us_X9 (FL := ufl_X9) (KL := ukl_X9) (VL := uvl_X9) (SL := usl_X9) (by decide +kernel)
set_option maxRecDepth 20000 in
theorem ux_X9_node : ab_cd uw vwCl prg mX9_node := ab_bM_of uf_X9 uk_X9 uv_X9 us_X9 (FL := ufl_X9) (KL := ukl_X9) (VL := uvl_X9) (SL := usl_X9) (by decide +kernel)
set_option maxRecDepth 20000 in
theorem ux_X10_feed : ab_cd uw vwCl prg mX10_feed := ab_bM_of uf_X10 uk_X10 uv_X10 us_X10 (FL := ufl_X10) (KL := ukl_X10) (VL := uvl_X10) (SL := usl_X10) (by decide +kernel)
set_option maxRecDepth 20000 in
theorem ux_X10_end : ab_cd uw vwCl prg mX10_end := ab_bM_of uf_X10 uk_X10 uv_X10 us_X10 (FL := ufl_X10) (KL := ukl_X10) (VL := uvl_X10) (SL := usl_X10) (by decide +kernel)
set_option maxRecDepth 20000 in
theorem ux_X10_cut : ab_cd uw vwCl prg mX10_cut := ab_bM_of uf_X10 uk_X10 uv_X10 us_X10 (FL := ufl_X10) (KL := ukl_X10) (VL := uvl_X10) (SL := usl_X10) (by decide +kernel)
set_option maxRecDepth 20000 in
theorem ux_X10_clear : ab_cd uw vwCl prg mX10_clear := ab_bM_of uf_X10 uk_X10 uv_X10 us_X10 (FL := ufl_X10) (KL := ukl_X10) (VL := uvl_X10) (SL := usl_X10) (by decide +kernel)
set_option maxRecDepth 20000 in
theorem ux_X10_build : ab_cd uw vwCl prg mX10_build := ab_bM_of uf_X10 uk_X10 uv_X10 us_X10 (FL := ufl_X10) (KL := ukl_X10) (VL := uvl_X10) (SL := usl_X10) (by decide +kernel)
set_option maxRecDepth 20000 in
theorem ux_X10_place : ab_cd uw vwCl prg mX10_place := ab_bM_of uf_X10 uk_X10 uv_X10 us_X10 (FL := ufl_X10) (KL := ukl_X10) (VL := uvl_X10) (SL := usl_X10) (by decide +kernel)
set_option maxRecDepth 20000 in
theorem ux_X10_row : ab_cd uw vwCl prg mX10_row := ab_bM_of uf_X10 uk_X10 uv_X10 us_X10 (FL := ufl_X10) (KL := ukl_X10) (VL := uvl_X10) (SL := usl_X10) (by decide +kernel)
set_option maxRecDepth 20000 in
theorem ux_X10_shared : ab_cd uw vwCl prg mX10_shared := ab_bM_of uf_X10 uk_X10 uv_X10 us_X10 (FL := ufl_X10) (KL := ukl_X10) (VL := uvl_X10) (SL := usl_X10) (by decide +kernel)
set_option maxRecDepth 20000 in
theorem ux_X10_before : ab_cd uw vwCl prg mX10_before := ab_bM_of uf_X10 uk_X10 uv_X10 us_X10 (FL := ufl_X10) (KL := ukl_X10) (VL := uvl_X10) (SL := usl_X10) (by decide +kernel)
set_option maxRecDepth 20000 in
theorem ux_X10_step : ab_cd uw vwCl prg mX10_step := ab_bM_of uf_X10 uk_X10 uv_X10 us_X10 (FL := ufl_X10) (KL := ukl_X10) (VL := uvl_X10) (SL := usl_X10) (by decide +kernel)
set_option maxRecDepth 20000 in
theorem ux_X10_rank : ab_cd uw vwCl prg mX10_rank := ab_bM_of uf_X10 uk_X10 uv_X10 us_X10 (FL := ufl_X10) (KL := ukl_X10) (VL := uvl_X10) (SL := usl_X10) (by decide +kernel)
set_option maxRecDepth 20000 in
theorem ux_X10_select : ab_cd uw vwCl prg mX10_select := ab_bM_of uf_X10 uk_X10 uv_X10 us_X10 (FL := ufl_X10) (KL := ukl_X10) (VL := uvl_X10) (SL := usl_X10) (by decide +kernel)
set_option maxRecDepth 20000 in
theorem ux_X10_byteAt : ab_cd uw vwCl prg mX10_byteAt := ab_bM_of uf_X10 uk_X10 uv_X10 us_X10 (FL := ufl_X10) (KL := ukl_X10) (VL := uvl_X10) (SL := usl_X10) (by decide +kernel)
set_option maxRecDepth 20000 in
theorem ux_X10_document : ab_cd uw vwCl prg mX10_document := ab_bM_of uf_X10 uk_X10 uv_X10 us_X10 (FL := ufl_X10) (KL := ukl_X10) (VL := uvl_X10) (SL := usl_X10) (by decide +kernel)
set_option maxRecDepth 20000 in
theorem ux_X10_alike : ab_cd uw vwCl prg mX10_alike := ab_bM_of uf_X10 uk_X10 uv_X10 us_X10 (FL := ufl_X10) (KL := ukl_X10) (VL := uvl_X10) (SL := usl_X10) (by decide +kernel)
set_option maxRecDepth 20000 in
theorem ux_X10_begin : ab_cd uw vwCl prg mX10_begin := ab_bM_of uf_X10 uk_X10 uv_X10 us_X10 (FL := ufl_X10) (KL := ukl_X10) (VL := uvl_X10) (SL := usl_X10) (by decide +kernel)
set_option maxRecDepth 20000 in
theorem ux_X10_grow : ab_cd uw vwCl prg mX10_grow := ab_bM_of uf_X10 uk_X10 uv_X10 us_X10 (FL := ufl_X10) (KL := ukl_X10) (VL := uvl_X10) (SL := usl_X10) (by decide +kernel)
set_option maxRecDepth 20000 in
theorem ux_X10_front : ab_cd uw vwCl prg mX10_front := ab_bM_of uf_X10 uk_X10 uv_X10 us_X10 (FL := ufl_X10) (KL := ukl_X10) (VL := uvl_X10) (SL := usl_X10) (by decide +kernel)
end
section
set_option maxRecDepth 20000 in
theorem ux_X10_back : ab_cd uw vwCl prg mX10_back := ab_bM_of uf_X10 uk_X10 uv_X10 us_X10 (FL := ufl_X10) (KL := ukl_X10) (VL := uvl_X10) (SL := usl_X10) (by decide +kernel)
set_option maxRecDepth 20000 in
theorem ux_X10_pattern : ab_cd uw vwCl prg mX10_pattern := ab_bM_of uf_X10 uk_X10 uv_X10 us_X10 (FL := ufl_X10) (KL := ukl_X10) (VL := uvl_X10) (SL := usl_X10) (by decide +kernel)
set_option maxRecDepth 20000 in
theorem ux_X10_patternByte : ab_cd uw vwCl prg mX10_patternByte := ab_bM_of uf_X10 uk_X10 uv_X10 us_X10 (FL := ufl_X10) (KL := ukl_X10) (VL := uvl_X10) (SL := usl_X10) (by decide +kernel)
set_option maxRecDepth 20000 in
theorem ux_X10_at : ab_cd uw vwCl prg mX10_at := ab_bM_of uf_X10 uk_X10 uv_X10 us_X10 (FL := ufl_X10) (KL := ukl_X10) (VL := uvl_X10) (SL := usl_X10) (by decide +kernel)
set_option maxRecDepth 20000 in
theorem ux_X10_sorted : ab_cd uw vwCl prg mX10_sorted := ab_bM_of uf_X10 uk_X10 uv_X10 us_X10 (FL := ufl_X10) (KL := ukl_X10) (VL := uvl_X10) (SL := usl_X10) (by decide +kernel)
set_option maxRecDepth 20000 in
theorem ux_X10_more : ab_cd uw vwCl prg mX10_more := ab_bM_of uf_X10 uk_X10 uv_X10 us_X10 (FL := ufl_X10) (KL := ukl_X10) (VL := uvl_X10) (SL := usl_X10) (by decide +kernel)
set_option maxRecDepth 20000 in
theorem ux_X10_ranked : ab_cd uw vwCl prg mX10_ranked := ab_bM_of uf_X10 uk_X10 uv_X10 us_X10 (FL := ufl_X10) (KL := ukl_X10) (VL := uvl_X10) (SL := usl_X10) (by decide +kernel)
set_option maxRecDepth 20000 in
theorem ux_X10_times : ab_cd uw vwCl prg mX10_times := ab_bM_of uf_X10 uk_X10 uv_X10 us_X10 (FL := ufl_X10) (KL := ukl_X10) (VL := uvl_X10) (SL := usl_X10) (by decide +kernel)
set_option maxRecDepth 20000 in
theorem ux_X10_take : ab_cd uw vwCl prg mX10_take := ab_bM_of uf_X10 uk_X10 uv_X10 us_X10 (FL := ufl_X10) (KL := ukl_X10) (VL := uvl_X10) (SL := usl_X10) (by decide +kernel)
set_option maxRecDepth 20000 in
theorem ux_X10_near : ab_cd uw vwCl prg mX10_near := ab_bM_of uf_X10 uk_X10 uv_X10 us_X10 (FL := ufl_X10) (KL := ukl_X10) (VL := uvl_X10) (SL := usl_X10) (by decide +kernel)
set_option maxRecDepth 20000 in
theorem ux_X10_nearOf : ab_cd uw vwCl prg mX10_nearOf := ab_bM_of uf_X10 uk_X10 uv_X10 us_X10 (FL := ufl_X10) (KL := ukl_X10) (VL := uvl_X10) (SL := usl_X10) (by decide +kernel)
set_option maxRecDepth 20000 in
theorem ux_X10_ask : ab_cd uw vwCl prg mX10_ask := ab_bM_of uf_X10 uk_X10 uv_X10 us_X10 (FL := ufl_X10) (KL := ukl_X10) (VL := uvl_X10) (SL := usl_X10) (by decide +kernel)
set_option maxRecDepth 20000 in
theorem ux_X10_answer : ab_cd uw vwCl prg mX10_answer := ab_bM_of uf_X10 uk_X10 uv_X10 us_X10 (FL := ufl_X10) (KL := ukl_X10) (VL := uvl_X10) (SL := usl_X10) (by decide +kernel)
set_option maxRecDepth 20000 in
theorem ux_X10_answered : ab_cd uw vwCl prg mX10_answered := ab_bM_of uf_X10 uk_X10 uv_X10 us_X10 (FL := ufl_X10) (KL := ukl_X10) (VL := uvl_X10) (SL := usl_X10) (by decide +kernel)
set_option maxRecDepth 20000 in
theorem ux_X10_different : ab_cd uw vwCl prg mX10_different := ab_bM_of uf_X10 uk_X10 uv_X10 us_X10 (FL := ufl_X10) (KL := ukl_X10) (VL := uvl_X10) (SL := usl_X10) (by decide +kernel)
set_option maxRecDepth 20000 in
theorem ux_X10_kth : ab_cd uw vwCl prg mX10_kth := ab_bM_of uf_X10 uk_X10 uv_X10 us_X10 (FL := ufl_X10) (KL := ukl_X10) (VL := uvl_X10) (SL := usl_X10) (by decide +kernel)
set_option maxRecDepth 20000 in
theorem ux_X10_order : ab_cd uw vwCl prg mX10_order := ab_bM_of uf_X10 uk_X10 uv_X10 us_X10 (FL := ufl_X10) (KL := ukl_X10) (VL := uvl_X10) (SL := usl_X10) (by decide +kernel)
set_option maxRecDepth 20000 in
theorem ux_X10_repeated : ab_cd uw vwCl prg mX10_repeated := ab_bM_of uf_X10 uk_X10 uv_X10 us_X10 (FL := ufl_X10) (KL := ukl_X10) (VL := uvl_X10) (SL := usl_X10) (by decide +kernel)
set_option maxRecDepth 20000 in
theorem ux_X10_common : ab_cd uw vwCl prg mX10_common := ab_bM_of uf_X10 uk_X10 uv_X10 us_X10 (FL := ufl_X10) (KL := ukl_X10) (VL := uvl_X10) (SL := usl_X10) (by decide +kernel)
set_option maxRecDepth 20000 in
theorem ux_X10_oftenest : ab_cd uw vwCl prg mX10_oftenest := ab_bM_of uf_X10 uk_X10 uv_X10 us_X10 (FL := ufl_X10) (KL := ukl_X10) (VL := uvl_X10) (SL := usl_X10) (by decide +kernel)
set_option maxRecDepth 20000 in
theorem ux_X10_unique : ab_cd uw vwCl prg mX10_unique := ab_bM_of uf_X10 uk_X10 uv_X10 us_X10 (FL := ufl_X10) (KL := ukl_X10) (VL := uvl_X10) (SL := usl_X10) (by decide +kernel)
set_option maxRecDepth 20000 in
theorem ux_X10_maximal : ab_cd uw vwCl prg mX10_maximal := ab_bM_of uf_X10 uk_X10 uv_X10 us_X10 (FL := ufl_X10) (KL := ukl_X10) (VL := uvl_X10) (SL := usl_X10) (by decide +kernel)
set_option maxRecDepth 20000 in
theorem ux_X10_absent : ab_cd uw vwCl prg mX10_absent := ab_bM_of uf_X10 uk_X10 uv_X10 us_X10 (FL := ufl_X10) (KL := ukl_X10) (VL := uvl_X10) (SL := usl_X10) (by decide +kernel)
set_option maxRecDepth 20000 in
theorem ux_X10_factor : ab_cd uw vwCl prg mX10_factor := ab_bM_of uf_X10 uk_X10 uv_X10 us_X10 (FL := ufl_X10) (KL := ukl_X10) (VL := uvl_X10) (SL := usl_X10) (by decide +kernel)
set_option maxRecDepth 20000 in
theorem ux_X10_word : ab_cd uw vwCl prg mX10_word := ab_bM_of uf_X10 uk_X10 uv_X10 us_X10 (FL := ufl_X10) (KL := ukl_X10) (VL := uvl_X10) (SL := usl_X10) (by decide +kernel)
set_option maxRecDepth 20000 in
theorem ux_X10_square : ab_cd uw vwCl prg mX10_square := ab_bM_of uf_X10 uk_X10 uv_X10 us_X10 (FL := ufl_X10) (KL := ukl_X10) (VL := uvl_X10) (SL := usl_X10) (by decide +kernel)
set_option maxRecDepth 20000 in
theorem ux_X10_mirror : ab_cd uw vwCl prg mX10_mirror := ab_bM_of uf_X10 uk_X10 uv_X10 us_X10 (FL := ufl_X10) (KL := ukl_X10) (VL := uvl_X10) (SL := usl_X10) (by decide +kernel)
set_option maxRecDepth 20000 in
theorem ux_X10_match : ab_cd uw vwCl prg mX10_match := ab_bM_of uf_X10 uk_X10 uv_X10 us_X10 (FL := ufl_X10) (KL := ukl_X10) (VL := uvl_X10) (SL := usl_X10) (by decide +kernel)
set_option maxRecDepth 20000 in
theorem ux_X10_count : ab_cd uw vwCl prg mX10_count := ab_bM_of uf_X10 uk_X10 uv_X10 us_X10 (FL := ufl_X10) (KL := ukl_X10) (VL := uvl_X10) (SL := usl_X10) (by decide +kernel)
set_option maxRecDepth 20000 in
theorem ux_X10_unwound : ab_cd uw vwCl prg mX10_unwound := ab_bM_of uf_X10 uk_X10 uv_X10 us_X10 (FL := ufl_X10) (KL := ukl_X10) (VL := uvl_X10) (SL := usl_X10) (by decide +kernel)
set_option maxRecDepth 20000 in
theorem ux_X10_countOfIndex : ab_cd uw vwCl prg mX10_countOfIndex := ab_bM_of uf_X10 uk_X10 uv_X10 us_X10 (FL := ufl_X10) (KL := ukl_X10) (VL := uvl_X10) (SL := usl_X10) (by decide +kernel)
set_option maxRecDepth 20000 in
theorem ux_X10_isByte : ab_cd uw vwCl prg mX10_isByte := ab_bM_of uf_X10 uk_X10 uv_X10 us_X10 (FL := ufl_X10) (KL := ukl_X10) (VL := uvl_X10) (SL := usl_X10) (by decide +kernel)
set_option maxRecDepth 20000 in
theorem ux_X11_feed : ab_cd uw vwCl prg mX11_feed := ab_bM_of uf_X11 uk_X11 uv_X11 us_X11 (FL := ufl_X11) (KL := ukl_X11) (VL := uvl_X11) (SL := usl_X11) (by decide +kernel)
set_option maxRecDepth 20000 in
theorem ux_X11_end : ab_cd uw vwCl prg mX11_end := ab_bM_of uf_X11 uk_X11 uv_X11 us_X11 (FL := ufl_X11) (KL := ukl_X11) (VL := uvl_X11) (SL := usl_X11) (by decide +kernel)
set_option maxRecDepth 20000 in
theorem ux_X11_cut : ab_cd uw vwCl prg mX11_cut := ab_bM_of uf_X11 uk_X11 uv_X11 us_X11 (FL := ufl_X11) (KL := ukl_X11) (VL := uvl_X11) (SL := usl_X11) (by decide +kernel)
set_option maxRecDepth 20000 in
theorem ux_X11_clear : ab_cd uw vwCl prg mX11_clear := ab_bM_of uf_X11 uk_X11 uv_X11 us_X11 (FL := ufl_X11) (KL := ukl_X11) (VL := uvl_X11) (SL := usl_X11) (by decide +kernel)
set_option maxRecDepth 20000 in
theorem ux_X11_keyAt : ab_cd uw vwCl prg mX11_keyAt := ab_bM_of uf_X11 uk_X11 uv_X11 us_X11 (FL := ufl_X11) (KL := ukl_X11) (VL := uvl_X11) (SL := usl_X11) (by decide +kernel)
set_option maxRecDepth 20000 in
theorem ux_X11_sortBy : ab_cd uw vwCl prg mX11_sortBy := ab_bM_of uf_X11 uk_X11 uv_X11 us_X11 (FL := ufl_X11) (KL := ukl_X11) (VL := uvl_X11) (SL := usl_X11) (by decide +kernel)
set_option maxRecDepth 20000 in
theorem ux_X11_sortAll : ab_cd uw vwCl prg mX11_sortAll := ab_bM_of uf_X11 uk_X11 uv_X11 us_X11 (FL := ufl_X11) (KL := ukl_X11) (VL := uvl_X11) (SL := usl_X11) (by decide +kernel)
set_option maxRecDepth 20000 in
theorem ux_X11_findShares : ab_cd uw vwCl prg mX11_findShares := ab_bM_of uf_X11 uk_X11 uv_X11 us_X11 (FL := ufl_X11) (KL := ukl_X11) (VL := uvl_X11) (SL := usl_X11) (by decide +kernel)
set_option maxRecDepth 20000 in
theorem ux_X11_build : ab_cd uw vwCl prg mX11_build := ab_bM_of uf_X11 uk_X11 uv_X11 us_X11 (FL := ufl_X11) (KL := ukl_X11) (VL := uvl_X11) (SL := usl_X11) (by decide +kernel)
set_option maxRecDepth 20000 in
theorem ux_X11_isRow : ab_cd uw vwCl prg mX11_isRow := ab_bM_of uf_X11 uk_X11 uv_X11 us_X11 (FL := ufl_X11) (KL := ukl_X11) (VL := uvl_X11) (SL := usl_X11) (by decide +kernel)
set_option maxRecDepth 20000 in
theorem ux_X11_isDocument : ab_cd uw vwCl prg mX11_isDocument := ab_bM_of uf_X11 uk_X11 uv_X11 us_X11 (FL := ufl_X11) (KL := ukl_X11) (VL := uvl_X11) (SL := usl_X11) (by decide +kernel)
set_option maxRecDepth 20000 in
theorem ux_X11_isByte : ab_cd uw vwCl prg mX11_isByte := ab_bM_of uf_X11 uk_X11 uv_X11 us_X11 (FL := ufl_X11) (KL := ukl_X11) (VL := uvl_X11) (SL := usl_X11) (by decide +kernel)
set_option maxRecDepth 20000 in
theorem ux_X11_left : ab_cd uw vwCl prg mX11_left := ab_bM_of uf_X11 uk_X11 uv_X11 us_X11 (FL := ufl_X11) (KL := ukl_X11) (VL := uvl_X11) (SL := usl_X11) (by decide +kernel)
set_option maxRecDepth 20000 in
theorem ux_X11_stepsOf : ab_cd uw vwCl prg mX11_stepsOf := ab_bM_of uf_X11 uk_X11 uv_X11 us_X11 (FL := ufl_X11) (KL := ukl_X11) (VL := uvl_X11) (SL := usl_X11) (by decide +kernel)
set_option maxRecDepth 20000 in
theorem ux_X11_place : ab_cd uw vwCl prg mX11_place := ab_bM_of uf_X11 uk_X11 uv_X11 us_X11 (FL := ufl_X11) (KL := ukl_X11) (VL := uvl_X11) (SL := usl_X11) (by decide +kernel)
set_option maxRecDepth 20000 in
theorem ux_X11_row : ab_cd uw vwCl prg mX11_row := ab_bM_of uf_X11 uk_X11 uv_X11 us_X11 (FL := ufl_X11) (KL := ukl_X11) (VL := uvl_X11) (SL := usl_X11) (by decide +kernel)
set_option maxRecDepth 20000 in
theorem ux_X11_shared : ab_cd uw vwCl prg mX11_shared := ab_bM_of uf_X11 uk_X11 uv_X11 us_X11 (FL := ufl_X11) (KL := ukl_X11) (VL := uvl_X11) (SL := usl_X11) (by decide +kernel)
set_option maxRecDepth 20000 in
theorem ux_X11_beforeOf : ab_cd uw vwCl prg mX11_beforeOf := ab_bM_of uf_X11 uk_X11 uv_X11 us_X11 (FL := ufl_X11) (KL := ukl_X11) (VL := uvl_X11) (SL := usl_X11) (by decide +kernel)
set_option maxRecDepth 20000 in
theorem ux_X11_before : ab_cd uw vwCl prg mX11_before := ab_bM_of uf_X11 uk_X11 uv_X11 us_X11 (FL := ufl_X11) (KL := ukl_X11) (VL := uvl_X11) (SL := usl_X11) (by decide +kernel)
set_option maxRecDepth 20000 in
theorem ux_X11_step : ab_cd uw vwCl prg mX11_step := ab_bM_of uf_X11 uk_X11 uv_X11 us_X11 (FL := ufl_X11) (KL := ukl_X11) (VL := uvl_X11) (SL := usl_X11) (by decide +kernel)
set_option maxRecDepth 20000 in
theorem ux_X11_rank : ab_cd uw vwCl prg mX11_rank := ab_bM_of uf_X11 uk_X11 uv_X11 us_X11 (FL := ufl_X11) (KL := ukl_X11) (VL := uvl_X11) (SL := usl_X11) (by decide +kernel)
set_option maxRecDepth 20000 in
theorem ux_X11_select : ab_cd uw vwCl prg mX11_select := ab_bM_of uf_X11 uk_X11 uv_X11 us_X11 (FL := ufl_X11) (KL := ukl_X11) (VL := uvl_X11) (SL := usl_X11) (by decide +kernel)
set_option maxRecDepth 20000 in
theorem ux_X11_byteAt : ab_cd uw vwCl prg mX11_byteAt := ab_bM_of uf_X11 uk_X11 uv_X11 us_X11 (FL := ufl_X11) (KL := ukl_X11) (VL := uvl_X11) (SL := usl_X11) (by decide +kernel)
set_option maxRecDepth 20000 in
theorem ux_X11_document : ab_cd uw vwCl prg mX11_document := ab_bM_of uf_X11 uk_X11 uv_X11 us_X11 (FL := ufl_X11) (KL := ukl_X11) (VL := uvl_X11) (SL := usl_X11) (by decide +kernel)
set_option maxRecDepth 20000 in
theorem ux_X11_alikeOf : ab_cd uw vwCl prg mX11_alikeOf := ab_bM_of uf_X11 uk_X11 uv_X11 us_X11 (FL := ufl_X11) (KL := ukl_X11) (VL := uvl_X11) (SL := usl_X11) (by decide +kernel)
set_option maxRecDepth 20000 in
theorem ux_X11_alike : ab_cd uw vwCl prg mX11_alike := ab_bM_of uf_X11 uk_X11 uv_X11 us_X11 (FL := ufl_X11) (KL := ukl_X11) (VL := uvl_X11) (SL := usl_X11) (by decide +kernel)
set_option maxRecDepth 20000 in
theorem ux_X11_toEmpty : ab_cd uw vwCl prg mX11_toEmpty := ab_bM_of uf_X11 uk_X11 uv_X11 us_X11 (FL := ufl_X11) (KL := ukl_X11) (VL := uvl_X11) (SL := usl_X11) (by decide +kernel)
set_option maxRecDepth 20000 in
theorem ux_X11_begin : ab_cd uw vwCl prg mX11_begin := ab_bM_of uf_X11 uk_X11 uv_X11 us_X11 (FL := ufl_X11) (KL := ukl_X11) (VL := uvl_X11) (SL := usl_X11) (by decide +kernel)
set_option maxRecDepth 20000 in
theorem ux_X11_findRows : ab_cd uw vwCl prg mX11_findRows := ab_bM_of uf_X11 uk_X11 uv_X11 us_X11 (FL := ufl_X11) (KL := ukl_X11) (VL := uvl_X11) (SL := usl_X11) (by decide +kernel)
set_option maxRecDepth 20000 in
theorem ux_X11_become : ab_cd uw vwCl prg mX11_become := ab_bM_of uf_X11 uk_X11 uv_X11 us_X11 (FL := ufl_X11) (KL := ukl_X11) (VL := uvl_X11) (SL := usl_X11) (by decide +kernel)
set_option maxRecDepth 20000 in
theorem ux_X11_grow : ab_cd uw vwCl prg mX11_grow := ab_bM_of uf_X11 uk_X11 uv_X11 us_X11 (FL := ufl_X11) (KL := ukl_X11) (VL := uvl_X11) (SL := usl_X11) (by decide +kernel)
set_option maxRecDepth 20000 in
theorem ux_X11_front : ab_cd uw vwCl prg mX11_front := ab_bM_of uf_X11 uk_X11 uv_X11 us_X11 (FL := ufl_X11) (KL := ukl_X11) (VL := uvl_X11) (SL := usl_X11) (by decide +kernel)
set_option maxRecDepth 20000 in
theorem ux_X11_back : ab_cd uw vwCl prg mX11_back := ab_bM_of uf_X11 uk_X11 uv_X11 us_X11 (FL := ufl_X11) (KL := ukl_X11) (VL := uvl_X11) (SL := usl_X11) (by decide +kernel)
set_option maxRecDepth 20000 in
theorem ux_X11_pattern : ab_cd uw vwCl prg mX11_pattern := ab_bM_of uf_X11 uk_X11 uv_X11 us_X11 (FL := ufl_X11) (KL := ukl_X11) (VL := uvl_X11) (SL := usl_X11) (by decide +kernel)
set_option maxRecDepth 20000 in
theorem ux_X11_patternByte : ab_cd uw vwCl prg mX11_patternByte := ab_bM_of uf_X11 uk_X11 uv_X11 us_X11 (FL := ufl_X11) (KL := ukl_X11) (VL := uvl_X11) (SL := usl_X11) (by decide +kernel)
set_option maxRecDepth 20000 in
theorem ux_X11_at : ab_cd uw vwCl prg mX11_at := ab_bM_of uf_X11 uk_X11 uv_X11 us_X11 (FL := ufl_X11) (KL := ukl_X11) (VL := uvl_X11) (SL := usl_X11) (by decide +kernel)
set_option maxRecDepth 20000 in
theorem ux_X11_isAt : ab_cd uw vwCl prg mX11_isAt := ab_bM_of uf_X11 uk_X11 uv_X11 us_X11 (FL := ufl_X11) (KL := ukl_X11) (VL := uvl_X11) (SL := usl_X11) (by decide +kernel)
set_option maxRecDepth 20000 in
theorem ux_X11_sorted : ab_cd uw vwCl prg mX11_sorted := ab_bM_of uf_X11 uk_X11 uv_X11 us_X11 (FL := ufl_X11) (KL := ukl_X11) (VL := uvl_X11) (SL := usl_X11) (by decide +kernel)
set_option maxRecDepth 20000 in
theorem ux_X11_more : ab_cd uw vwCl prg mX11_more := ab_bM_of uf_X11 uk_X11 uv_X11 us_X11 (FL := ufl_X11) (KL := ukl_X11) (VL := uvl_X11) (SL := usl_X11) (by decide +kernel)
set_option maxRecDepth 20000 in
theorem ux_X11_timesOf : ab_cd uw vwCl prg mX11_timesOf := ab_bM_of uf_X11 uk_X11 uv_X11 us_X11 (FL := ufl_X11) (KL := ukl_X11) (VL := uvl_X11) (SL := usl_X11) (by decide +kernel)
set_option maxRecDepth 20000 in
theorem ux_X11_ranked : ab_cd uw vwCl prg mX11_ranked := ab_bM_of uf_X11 uk_X11 uv_X11 us_X11 (FL := ufl_X11) (KL := ukl_X11) (VL := uvl_X11) (SL := usl_X11) (by decide +kernel)
set_option maxRecDepth 20000 in
theorem ux_X11_times : ab_cd uw vwCl prg mX11_times := ab_bM_of uf_X11 uk_X11 uv_X11 us_X11 (FL := ufl_X11) (KL := ukl_X11) (VL := uvl_X11) (SL := usl_X11) (by decide +kernel)
set_option maxRecDepth 20000 in
theorem ux_X11_take : ab_cd uw vwCl prg mX11_take := ab_bM_of uf_X11 uk_X11 uv_X11 us_X11 (FL := ufl_X11) (KL := ukl_X11) (VL := uvl_X11) (SL := usl_X11) (by decide +kernel)
set_option maxRecDepth 20000 in
theorem ux_X11_near : ab_cd uw vwCl prg mX11_near := ab_bM_of uf_X11 uk_X11 uv_X11 us_X11 (FL := ufl_X11) (KL := ukl_X11) (VL := uvl_X11) (SL := usl_X11) (by decide +kernel)
set_option maxRecDepth 20000 in
theorem ux_X11_nearOf : ab_cd uw vwCl prg mX11_nearOf := ab_bM_of uf_X11 uk_X11 uv_X11 us_X11 (FL := ufl_X11) (KL := ukl_X11) (VL := uvl_X11) (SL := usl_X11) (by decide +kernel)
set_option maxRecDepth 20000 in
theorem ux_X11_ask : ab_cd uw vwCl prg mX11_ask := ab_bM_of uf_X11 uk_X11 uv_X11 us_X11 (FL := ufl_X11) (KL := ukl_X11) (VL := uvl_X11) (SL := usl_X11) (by decide +kernel)
set_option maxRecDepth 20000 in
theorem ux_X11_sign : ab_cd uw vwCl prg mX11_sign := ab_bM_of uf_X11 uk_X11 uv_X11 us_X11 (FL := ufl_X11) (KL := ukl_X11) (VL := uvl_X11) (SL := usl_X11) (by decide +kernel)
set_option maxRecDepth 20000 in
theorem ux_X11_fail : ab_cd uw vwCl prg mX11_fail := ab_bM_of uf_X11 uk_X11 uv_X11 us_X11 (FL := ufl_X11) (KL := ukl_X11) (VL := uvl_X11) (SL := usl_X11) (by decide +kernel)
set_option maxRecDepth 20000 in
theorem ux_X11_isFigure : ab_cd uw vwCl prg mX11_isFigure := ab_bM_of uf_X11 uk_X11 uv_X11 us_X11 (FL := ufl_X11) (KL := ukl_X11) (VL := uvl_X11) (SL := usl_X11) (by decide +kernel)
set_option maxRecDepth 20000 in
theorem ux_X11_number : ab_cd uw vwCl prg mX11_number := ab_bM_of uf_X11 uk_X11 uv_X11 us_X11 (FL := ufl_X11) (KL := ukl_X11) (VL := uvl_X11) (SL := usl_X11) (by decide +kernel)
set_option maxRecDepth 20000 in
theorem ux_X11_braces : ab_cd uw vwCl prg mX11_braces := ab_bM_of uf_X11 uk_X11 uv_X11 us_X11 (FL := ufl_X11) (KL := ukl_X11) (VL := uvl_X11) (SL := usl_X11) (by decide +kernel)
set_option maxRecDepth 20000 in
theorem ux_X11_rangeByte : ab_cd uw vwCl prg mX11_rangeByte := ab_bM_of uf_X11 uk_X11 uv_X11 us_X11 (FL := ufl_X11) (KL := ukl_X11) (VL := uvl_X11) (SL := usl_X11) (by decide +kernel)
set_option maxRecDepth 20000 in
theorem ux_X11_ranges : ab_cd uw vwCl prg mX11_ranges := ab_bM_of uf_X11 uk_X11 uv_X11 us_X11 (FL := ufl_X11) (KL := ukl_X11) (VL := uvl_X11) (SL := usl_X11) (by decide +kernel)
set_option maxRecDepth 20000 in
theorem ux_X11_openOne : ab_cd uw vwCl prg mX11_openOne := ab_bM_of uf_X11 uk_X11 uv_X11 us_X11 (FL := ufl_X11) (KL := ukl_X11) (VL := uvl_X11) (SL := usl_X11) (by decide +kernel)
set_option maxRecDepth 20000 in
theorem ux_X11_addMade : ab_cd uw vwCl prg mX11_addMade := ab_bM_of uf_X11 uk_X11 uv_X11 us_X11 (FL := ufl_X11) (KL := ukl_X11) (VL := uvl_X11) (SL := usl_X11) (by decide +kernel)
set_option maxRecDepth 20000 in
theorem ux_X11_endRow : ab_cd uw vwCl prg mX11_endRow := ab_bM_of uf_X11 uk_X11 uv_X11 us_X11 (FL := ufl_X11) (KL := ukl_X11) (VL := uvl_X11) (SL := usl_X11) (by decide +kernel)
set_option maxRecDepth 20000 in
theorem ux_X11_begunAtom : ab_cd uw vwCl prg mX11_begunAtom := ab_bM_of uf_X11 uk_X11 uv_X11 us_X11 (FL := ufl_X11) (KL := ukl_X11) (VL := uvl_X11) (SL := usl_X11) (by decide +kernel)
set_option maxRecDepth 20000 in
theorem ux_X11_endItem : ab_cd uw vwCl prg mX11_endItem := ab_bM_of uf_X11 uk_X11 uv_X11 us_X11 (FL := ufl_X11) (KL := ukl_X11) (VL := uvl_X11) (SL := usl_X11) (by decide +kernel)
set_option maxRecDepth 20000 in
theorem ux_X11_again : ab_cd uw vwCl prg mX11_again := ab_bM_of uf_X11 uk_X11 uv_X11 us_X11 (FL := ufl_X11) (KL := ukl_X11) (VL := uvl_X11) (SL := usl_X11) (by decide +kernel)
set_option maxRecDepth 20000 in
theorem ux_X11_repeat : ab_cd uw vwCl prg mX11_repeat := ab_bM_of uf_X11 uk_X11 uv_X11 us_X11 (FL := ufl_X11) (KL := ukl_X11) (VL := uvl_X11) (SL := usl_X11) (by decide +kernel)
set_option maxRecDepth 20000 in
theorem ux_X11_goOver : ab_cd uw vwCl prg mX11_goOver := ab_bM_of uf_X11 uk_X11 uv_X11 us_X11 (FL := ufl_X11) (KL := ukl_X11) (VL := uvl_X11) (SL := usl_X11) (by decide +kernel)
set_option maxRecDepth 20000 in
theorem ux_X11_quantify : ab_cd uw vwCl prg mX11_quantify := ab_bM_of uf_X11 uk_X11 uv_X11 us_X11 (FL := ufl_X11) (KL := ukl_X11) (VL := uvl_X11) (SL := usl_X11) (by decide +kernel)
set_option maxRecDepth 20000 in
theorem ux_X11_atom : ab_cd uw vwCl prg mX11_atom := ab_bM_of uf_X11 uk_X11 uv_X11 us_X11 (FL := ufl_X11) (KL := ukl_X11) (VL := uvl_X11) (SL := usl_X11) (by decide +kernel)
set_option maxRecDepth 20000 in
theorem ux_X11_follow : ab_cd uw vwCl prg mX11_follow := ab_bM_of uf_X11 uk_X11 uv_X11 us_X11 (FL := ufl_X11) (KL := ukl_X11) (VL := uvl_X11) (SL := usl_X11) (by decide +kernel)
set_option maxRecDepth 20000 in
theorem ux_X11_findPositions : ab_cd uw vwCl prg mX11_findPositions := ab_bM_of uf_X11 uk_X11 uv_X11 us_X11 (FL := ufl_X11) (KL := ukl_X11) (VL := uvl_X11) (SL := usl_X11) (by decide +kernel)
set_option maxRecDepth 20000 in
theorem ux_X11_fits : ab_cd uw vwCl prg mX11_fits := ab_bM_of uf_X11 uk_X11 uv_X11 us_X11 (FL := ufl_X11) (KL := ukl_X11) (VL := uvl_X11) (SL := usl_X11) (by decide +kernel)
set_option maxRecDepth 20000 in
theorem ux_X11_matchFrom : ab_cd uw vwCl prg mX11_matchFrom := ab_bM_of uf_X11 uk_X11 uv_X11 us_X11 (FL := ufl_X11) (KL := ukl_X11) (VL := uvl_X11) (SL := usl_X11) (by decide +kernel)
set_option maxRecDepth 20000 in
theorem ux_X11_answer : ab_cd uw vwCl prg mX11_answer := ab_bM_of uf_X11 uk_X11 uv_X11 us_X11 (FL := ufl_X11) (KL := ukl_X11) (VL := uvl_X11) (SL := usl_X11) (by decide +kernel)
set_option maxRecDepth 20000 in
theorem ux_X11_answered : ab_cd uw vwCl prg mX11_answered := ab_bM_of uf_X11 uk_X11 uv_X11 us_X11 (FL := ufl_X11) (KL := ukl_X11) (VL := uvl_X11) (SL := usl_X11) (by decide +kernel)
set_option maxRecDepth 20000 in
theorem ux_X11_freshOf : ab_cd uw vwCl prg mX11_freshOf := ab_bM_of uf_X11 uk_X11 uv_X11 us_X11 (FL := ufl_X11) (KL := ukl_X11) (VL := uvl_X11) (SL := usl_X11) (by decide +kernel)
set_option maxRecDepth 20000 in
theorem ux_X11_different : ab_cd uw vwCl prg mX11_different := ab_bM_of uf_X11 uk_X11 uv_X11 us_X11 (FL := ufl_X11) (KL := ukl_X11) (VL := uvl_X11) (SL := usl_X11) (by decide +kernel)
set_option maxRecDepth 20000 in
theorem ux_X11_kth : ab_cd uw vwCl prg mX11_kth := ab_bM_of uf_X11 uk_X11 uv_X11 us_X11 (FL := ufl_X11) (KL := ukl_X11) (VL := uvl_X11) (SL := usl_X11) (by decide +kernel)
set_option maxRecDepth 20000 in
theorem ux_X11_order : ab_cd uw vwCl prg mX11_order := ab_bM_of uf_X11 uk_X11 uv_X11 us_X11 (FL := ufl_X11) (KL := ukl_X11) (VL := uvl_X11) (SL := usl_X11) (by decide +kernel)
set_option maxRecDepth 20000 in
theorem ux_X11_becomeBest : ab_cd uw vwCl prg mX11_becomeBest := ab_bM_of uf_X11 uk_X11 uv_X11 us_X11 (FL := ufl_X11) (KL := ukl_X11) (VL := uvl_X11) (SL := usl_X11) (by decide +kernel)
set_option maxRecDepth 20000 in
theorem ux_X11_repeated : ab_cd uw vwCl prg mX11_repeated := ab_bM_of uf_X11 uk_X11 uv_X11 us_X11 (FL := ufl_X11) (KL := ukl_X11) (VL := uvl_X11) (SL := usl_X11) (by decide +kernel)
set_option maxRecDepth 20000 in
theorem ux_X11_common : ab_cd uw vwCl prg mX11_common := ab_bM_of uf_X11 uk_X11 uv_X11 us_X11 (FL := ufl_X11) (KL := ukl_X11) (VL := uvl_X11) (SL := usl_X11) (by decide +kernel)
set_option maxRecDepth 20000 in
theorem ux_X11_oftenest : ab_cd uw vwCl prg mX11_oftenest := ab_bM_of uf_X11 uk_X11 uv_X11 us_X11 (FL := ufl_X11) (KL := ukl_X11) (VL := uvl_X11) (SL := usl_X11) (by decide +kernel)
set_option maxRecDepth 20000 in
theorem ux_X11_unique : ab_cd uw vwCl prg mX11_unique := ab_bM_of uf_X11 uk_X11 uv_X11 us_X11 (FL := ufl_X11) (KL := ukl_X11) (VL := uvl_X11) (SL := usl_X11) (by decide +kernel)
set_option maxRecDepth 20000 in
theorem ux_X11_isOneBefore : ab_cd uw vwCl prg mX11_isOneBefore := ab_bM_of uf_X11 uk_X11 uv_X11 us_X11 (FL := ufl_X11) (KL := ukl_X11) (VL := uvl_X11) (SL := usl_X11) (by decide +kernel)
set_option maxRecDepth 20000 in
theorem ux_X11_maximal : ab_cd uw vwCl prg mX11_maximal := ab_bM_of uf_X11 uk_X11 uv_X11 us_X11 (FL := ufl_X11) (KL := ukl_X11) (VL := uvl_X11) (SL := usl_X11) (by decide +kernel)
set_option maxRecDepth 20000 in
theorem ux_X11_absent : ab_cd uw vwCl prg mX11_absent := ab_bM_of uf_X11 uk_X11 uv_X11 us_X11 (FL := ufl_X11) (KL := ukl_X11) (VL := uvl_X11) (SL := usl_X11) (by decide +kernel)
set_option maxRecDepth 20000 in
theorem ux_X11_findFactors : ab_cd uw vwCl prg mX11_findFactors := ab_bM_of uf_X11 uk_X11 uv_X11 us_X11 (FL := ufl_X11) (KL := ukl_X11) (VL := uvl_X11) (SL := usl_X11) (by decide +kernel)
set_option maxRecDepth 20000 in
theorem ux_X11_factor : ab_cd uw vwCl prg mX11_factor := ab_bM_of uf_X11 uk_X11 uv_X11 us_X11 (FL := ufl_X11) (KL := ukl_X11) (VL := uvl_X11) (SL := usl_X11) (by decide +kernel)
set_option maxRecDepth 20000 in
theorem ux_X11_word : ab_cd uw vwCl prg mX11_word := ab_bM_of uf_X11 uk_X11 uv_X11 us_X11 (FL := ufl_X11) (KL := ukl_X11) (VL := uvl_X11) (SL := usl_X11) (by decide +kernel)
set_option maxRecDepth 20000 in
theorem ux_X11_square : ab_cd uw vwCl prg mX11_square := ab_bM_of uf_X11 uk_X11 uv_X11 us_X11 (FL := ufl_X11) (KL := ukl_X11) (VL := uvl_X11) (SL := usl_X11) (by decide +kernel)
set_option maxRecDepth 20000 in
theorem ux_X11_mirror : ab_cd uw vwCl prg mX11_mirror := ab_bM_of uf_X11 uk_X11 uv_X11 us_X11 (FL := ufl_X11) (KL := ukl_X11) (VL := uvl_X11) (SL := usl_X11) (by decide +kernel)
set_option maxRecDepth 20000 in
theorem ux_X11_match : ab_cd uw vwCl prg mX11_match := ab_bM_of uf_X11 uk_X11 uv_X11 us_X11 (FL := ufl_X11) (KL := ukl_X11) (VL := uvl_X11) (SL := usl_X11) (by decide +kernel)
set_option maxRecDepth 20000 in
theorem ux_X11_countRows : ab_cd uw vwCl prg mX11_countRows := ab_bM_of uf_X11 uk_X11 uv_X11 us_X11 (FL := ufl_X11) (KL := ukl_X11) (VL := uvl_X11) (SL := usl_X11) (by decide +kernel)
set_option maxRecDepth 20000 in
theorem ux_X11_countBytes : ab_cd uw vwCl prg mX11_countBytes := ab_bM_of uf_X11 uk_X11 uv_X11 us_X11 (FL := ufl_X11) (KL := ukl_X11) (VL := uvl_X11) (SL := usl_X11) (by decide +kernel)
set_option maxRecDepth 20000 in
theorem ux_X11_count : ab_cd uw vwCl prg mX11_count := ab_bM_of uf_X11 uk_X11 uv_X11 us_X11 (FL := ufl_X11) (KL := ukl_X11) (VL := uvl_X11) (SL := usl_X11) (by decide +kernel)
set_option maxRecDepth 20000 in
theorem ux_X11_unwound : ab_cd uw vwCl prg mX11_unwound := ab_bM_of uf_X11 uk_X11 uv_X11 us_X11 (FL := ufl_X11) (KL := ukl_X11) (VL := uvl_X11) (SL := usl_X11) (by decide +kernel)
set_option maxRecDepth 20000 in
theorem ux_J7_rangeCheck_23922 : ab_cd uw vwCl prg mJ7_rangeCheck_23922 := ab_bM_of uf_J7 uk_J7 uv_J7 us_J7 (FL := ufl_J7) (KL := ukl_J7) (VL := uvl_J7) (SL := usl_J7) (by decide +kernel)
set_option maxRecDepth 20000 in
theorem ux_J7_fill_bad5a : ab_cd uw vwCl prg mJ7_fill_bad5a := ab_bM_of uf_J7 uk_J7 uv_J7 us_J7 (FL := ufl_J7) (KL := ukl_J7) (VL := uvl_J7) (SL := usl_J7) (by decide +kernel)
set_option maxRecDepth 20000 in
theorem ux_J7_fill_53178 : ab_cd uw vwCl prg mJ7_fill_53178 := ab_bM_of uf_J7 uk_J7 uv_J7 us_J7 (FL := ufl_J7) (KL := ukl_J7) (VL := uvl_J7) (SL := usl_J7) (by decide +kernel)
set_option maxRecDepth 20000 in
theorem ux_J7_fill_fda19 : ab_cd uw vwCl prg mJ7_fill_fda19 := ab_bM_of uf_J7 uk_J7 uv_J7 us_J7 (FL := ufl_J7) (KL := ukl_J7) (VL := uvl_J7) (SL := usl_J7) (by decide +kernel)
end
section
/-! ===== all methods and kinds together ===== -/
set_option maxRecDepth 20000 in
theorem uy_0_0 : u_lay RX0 TX0 0 ∈ uw := (uw_m1 40 rfl rfl)
set_option maxRecDepth 20000 in
theorem uy_0_1 : u_lay RX0 TX0 1 ∈ uw := (uw_m1 42 rfl rfl)
set_option maxRecDepth 20000 in
theorem uy_0_2 : u_lay RX0 TX0 2 ∈ uw := (uw_m1 44 rfl rfl)
set_option maxRecDepth 20000 in
theorem uy_0_3 : u_lay RX0 TX0 3 ∈ uw := (uw_m1 46 rfl rfl)
set_option maxRecDepth 20000 in
theorem uy_0_4 : u_lay RX0 TX0 4 ∈ uw := (uw_m1 48 rfl rfl)
set_option maxRecDepth 20000 in
theorem uy_0 : ∀ w ∈ u_ws RX0 TX0 5, w ∈ uw := List.forall_mem_cons.mpr ⟨uy_0_0, List.forall_mem_cons.mpr ⟨uy_0_1, List.forall_mem_cons.mpr ⟨uy_0_2, List.forall_mem_cons.mpr ⟨uy_0_3, List.forall_mem_cons.mpr ⟨uy_0_4, fun _ h => absurd h List.not_mem_nil⟩⟩⟩⟩⟩
set_option maxRecDepth 20000 in
theorem uy_1_0 : u_lay RX1 TX1 0 ∈ uw := (uw_m1 169 rfl rfl)
set_option maxRecDepth 20000 in
theorem uy_1_1 : u_lay RX1 TX1 1 ∈ uw := (uw_m1 171 rfl rfl)
set_option maxRecDepth 20000 in
theorem uy_1_2 : u_lay RX1 TX1 2 ∈ uw := (uw_m1 173 rfl rfl)
set_option maxRecDepth 20000 in
theorem uy_1_3 : u_lay RX1 TX1 3 ∈ uw := (uw_m1 175 rfl rfl)
set_option maxRecDepth 20000 in
theorem uy_1_4 : u_lay RX1 TX1 4 ∈ uw := (uw_m1 177 rfl rfl)
set_option maxRecDepth 20000 in
theorem uy_1_5 : u_lay RX1 TX1 5 ∈ uw := (uw_m1 179 rfl rfl)
set_option maxRecDepth 20000 in
theorem uy_1_6 : u_lay RX1 TX1 6 ∈ uw := (uw_m1 181 rfl rfl)
set_option maxRecDepth 20000 in
theorem uy_1_7 : u_lay RX1 TX1 7 ∈ uw := (uw_m1 183 rfl rfl)
set_option maxRecDepth 20000 in
theorem uy_1 : ∀ w ∈ u_ws RX1 TX1 8, w ∈ uw := List.forall_mem_cons.mpr ⟨uy_1_0, List.forall_mem_cons.mpr ⟨uy_1_1, List.forall_mem_cons.mpr ⟨uy_1_2, List.forall_mem_cons.mpr ⟨uy_1_3, List.forall_mem_cons.mpr ⟨uy_1_4, List.forall_mem_cons.mpr ⟨uy_1_5, List.forall_mem_cons.mpr ⟨uy_1_6, List.forall_mem_cons.mpr ⟨uy_1_7, fun _ h => absurd h List.not_mem_nil⟩⟩⟩⟩⟩⟩⟩⟩
set_option maxRecDepth 20000 in
theorem uy_2_0 : u_lay RX2 TX2 0 ∈ uw := (uw_m1 122 rfl rfl)
set_option maxRecDepth 20000 in
theorem uy_2_1 : u_lay RX2 TX2 1 ∈ uw := (uw_m1 124 rfl rfl)
set_option maxRecDepth 20000 in
theorem uy_2_2 : u_lay RX2 TX2 2 ∈ uw := (uw_m1 126 rfl rfl)
set_option maxRecDepth 20000 in
theorem uy_2_3 : u_lay RX2 TX2 3 ∈ uw := (uw_m1 128 rfl rfl)
set_option maxRecDepth 20000 in
theorem uy_2_4 : u_lay RX2 TX2 4 ∈ uw := (uw_m1 130 rfl rfl)
set_option maxRecDepth 20000 in
theorem uy_2_5 : u_lay RX2 TX2 5 ∈ uw := (uw_m1 132 rfl rfl)
set_option maxRecDepth 20000 in
theorem uy_2_6 : u_lay RX2 TX2 6 ∈ uw := (uw_m1 134 rfl rfl)
set_option maxRecDepth 20000 in
theorem uy_2_7 : u_lay RX2 TX2 7 ∈ uw := (uw_m1 136 rfl rfl)
set_option maxRecDepth 20000 in
theorem uy_2_8 : u_lay RX2 TX2 8 ∈ uw := (uw_m1 138 rfl rfl)
set_option maxRecDepth 20000 in
theorem uy_2_9 : u_lay RX2 TX2 9 ∈ uw := (uw_m1 140 rfl rfl)
set_option maxRecDepth 20000 in
theorem uy_2_10 : u_lay RX2 TX2 10 ∈ uw := (uw_m1 142 rfl rfl)
set_option maxRecDepth 20000 in
theorem uy_2_11 : u_lay RX2 TX2 11 ∈ uw := (uw_m1 144 rfl rfl)
set_option maxRecDepth 20000 in
theorem uy_2 : ∀ w ∈ u_ws RX2 TX2 12, w ∈ uw := List.forall_mem_cons.mpr ⟨uy_2_0, List.forall_mem_cons.mpr ⟨uy_2_1, List.forall_mem_cons.mpr ⟨uy_2_2, List.forall_mem_cons.mpr ⟨uy_2_3, List.forall_mem_cons.mpr ⟨uy_2_4, List.forall_mem_cons.mpr ⟨uy_2_5, List.forall_mem_cons.mpr ⟨uy_2_6, List.forall_mem_cons.mpr ⟨uy_2_7, List.forall_mem_cons.mpr ⟨uy_2_8, List.forall_mem_cons.mpr ⟨uy_2_9, List.forall_mem_cons.mpr ⟨uy_2_10, List.forall_mem_cons.mpr ⟨uy_2_11, fun _ h => absurd h List.not_mem_nil⟩⟩⟩⟩⟩⟩⟩⟩⟩⟩⟩⟩
set_option maxRecDepth 20000 in
theorem uy_3_0 : u_lay RX3 TX3 0 ∈ uw := (uw_m2 68 rfl rfl)
set_option maxRecDepth 20000 in
theorem uy_3_1 : u_lay RX3 TX3 1 ∈ uw := (uw_m2 70 rfl rfl)
set_option maxRecDepth 20000 in
theorem uy_3_2 : u_lay RX3 TX3 2 ∈ uw := (uw_m2 72 rfl rfl)
set_option maxRecDepth 20000 in
theorem uy_3_3 : u_lay RX3 TX3 3 ∈ uw := (uw_m2 74 rfl rfl)
set_option maxRecDepth 20000 in
theorem uy_3_4 : u_lay RX3 TX3 4 ∈ uw := (uw_m2 76 rfl rfl)
set_option maxRecDepth 20000 in
theorem uy_3_5 : u_lay RX3 TX3 5 ∈ uw := (uw_m2 78 rfl rfl)
set_option maxRecDepth 20000 in
theorem uy_3_6 : u_lay RX3 TX3 6 ∈ uw := (uw_m2 80 rfl rfl)
set_option maxRecDepth 20000 in
theorem uy_3_7 : u_lay RX3 TX3 7 ∈ uw := (uw_m2 82 rfl rfl)
set_option maxRecDepth 20000 in
theorem uy_3_8 : u_lay RX3 TX3 8 ∈ uw := (uw_m2 84 rfl rfl)
set_option maxRecDepth 20000 in
theorem uy_3_9 : u_lay RX3 TX3 9 ∈ uw := (uw_m2 86 rfl rfl)
set_option maxRecDepth 20000 in
theorem uy_3_10 : u_lay RX3 TX3 10 ∈ uw := (uw_m2 88 rfl rfl)
set_option maxRecDepth 20000 in
theorem uy_3 : ∀ w ∈ u_ws RX3 TX3 11, w ∈ uw := List.forall_mem_cons.mpr ⟨uy_3_0, List.forall_mem_cons.mpr ⟨uy_3_1, List.forall_mem_cons.mpr ⟨uy_3_2, List.forall_mem_cons.mpr ⟨uy_3_3, List.forall_mem_cons.mpr ⟨uy_3_4, List.forall_mem_cons.mpr ⟨uy_3_5, List.forall_mem_cons.mpr ⟨uy_3_6, List.forall_mem_cons.mpr ⟨uy_3_7, List.forall_mem_cons.mpr ⟨uy_3_8, List.forall_mem_cons.mpr ⟨uy_3_9, List.forall_mem_cons.mpr ⟨uy_3_10, fun _ h => absurd h List.not_mem_nil⟩⟩⟩⟩⟩⟩⟩⟩⟩⟩⟩
set_option maxRecDepth 20000 in
theorem uy_4_0 : u_lay RX4 TX4 0 ∈ uw := (uw_m1 201 rfl rfl)
set_option maxRecDepth 20000 in
theorem uy_4_1 : u_lay RX4 TX4 1 ∈ uw := (uw_m1 203 rfl rfl)
set_option maxRecDepth 20000 in
theorem uy_4_2 : u_lay RX4 TX4 2 ∈ uw := (uw_m1 205 rfl rfl)
set_option maxRecDepth 20000 in
theorem uy_4_3 : u_lay RX4 TX4 3 ∈ uw := (uw_m1 207 rfl rfl)
set_option maxRecDepth 20000 in
theorem uy_4_4 : u_lay RX4 TX4 4 ∈ uw := (uw_m1 209 rfl rfl)
set_option maxRecDepth 20000 in
theorem uy_4 : ∀ w ∈ u_ws RX4 TX4 5, w ∈ uw := List.forall_mem_cons.mpr ⟨uy_4_0, List.forall_mem_cons.mpr ⟨uy_4_1, List.forall_mem_cons.mpr ⟨uy_4_2, List.forall_mem_cons.mpr ⟨uy_4_3, List.forall_mem_cons.mpr ⟨uy_4_4, fun _ h => absurd h List.not_mem_nil⟩⟩⟩⟩⟩
set_option maxRecDepth 20000 in
theorem uy_5_0 : u_lay RX5 TX5 0 ∈ uw := (uw_m2 127 rfl rfl)
set_option maxRecDepth 20000 in
theorem uy_5_1 : u_lay RX5 TX5 1 ∈ uw := (uw_m2 129 rfl rfl)
set_option maxRecDepth 20000 in
theorem uy_5_2 : u_lay RX5 TX5 2 ∈ uw := (uw_m2 131 rfl rfl)
set_option maxRecDepth 20000 in
theorem uy_5_3 : u_lay RX5 TX5 3 ∈ uw := (uw_m2 133 rfl rfl)
set_option maxRecDepth 20000 in
theorem uy_5_4 : u_lay RX5 TX5 4 ∈ uw := (uw_m2 135 rfl rfl)
set_option maxRecDepth 20000 in
theorem uy_5_5 : u_lay RX5 TX5 5 ∈ uw := (uw_m2 137 rfl rfl)
set_option maxRecDepth 20000 in
theorem uy_5_6 : u_lay RX5 TX5 6 ∈ uw := (uw_m2 139 rfl rfl)
set_option maxRecDepth 20000 in
theorem uy_5 : ∀ w ∈ u_ws RX5 TX5 7, w ∈ uw := List.forall_mem_cons.mpr ⟨uy_5_0, List.forall_mem_cons.mpr ⟨uy_5_1, List.forall_mem_cons.mpr ⟨uy_5_2, List.forall_mem_cons.mpr ⟨uy_5_3, List.forall_mem_cons.mpr ⟨uy_5_4, List.forall_mem_cons.mpr ⟨uy_5_5, List.forall_mem_cons.mpr ⟨uy_5_6, fun _ h => absurd h List.not_mem_nil⟩⟩⟩⟩⟩⟩⟩
set_option maxRecDepth 20000 in
theorem uy_6_0 : u_lay RX6 TX6 0 ∈ uw := (uw_m1 235 rfl rfl)
set_option maxRecDepth 20000 in
theorem uy_6_1 : u_lay RX6 TX6 1 ∈ uw := (uw_m1 237 rfl rfl)
set_option maxRecDepth 20000 in
theorem uy_6_2 : u_lay RX6 TX6 2 ∈ uw := (uw_m1 239 rfl rfl)
set_option maxRecDepth 20000 in
theorem uy_6_3 : u_lay RX6 TX6 3 ∈ uw := (uw_m2 1 rfl rfl)
set_option maxRecDepth 20000 in
theorem uy_6_4 : u_lay RX6 TX6 4 ∈ uw := (uw_m2 3 rfl rfl)
set_option maxRecDepth 20000 in
theorem uy_6_5 : u_lay RX6 TX6 5 ∈ uw := (uw_m2 5 rfl rfl)
set_option maxRecDepth 20000 in
theorem uy_6_6 : u_lay RX6 TX6 6 ∈ uw := (uw_m2 7 rfl rfl)
set_option maxRecDepth 20000 in
theorem uy_6_7 : u_lay RX6 TX6 7 ∈ uw := (uw_m2 9 rfl rfl)
set_option maxRecDepth 20000 in
theorem uy_6_8 : u_lay RX6 TX6 8 ∈ uw := (uw_m2 11 rfl rfl)
set_option maxRecDepth 20000 in
theorem uy_6 : ∀ w ∈ u_ws RX6 TX6 9, w ∈ uw := List.forall_mem_cons.mpr ⟨uy_6_0, List.forall_mem_cons.mpr ⟨uy_6_1, List.forall_mem_cons.mpr ⟨uy_6_2, List.forall_mem_cons.mpr ⟨uy_6_3, List.forall_mem_cons.mpr ⟨uy_6_4, List.forall_mem_cons.mpr ⟨uy_6_5, List.forall_mem_cons.mpr ⟨uy_6_6, List.forall_mem_cons.mpr ⟨uy_6_7, List.forall_mem_cons.mpr ⟨uy_6_8, fun _ h => absurd h List.not_mem_nil⟩⟩⟩⟩⟩⟩⟩⟩⟩
set_option maxRecDepth 20000 in
theorem uy_7_0 : u_lay RX7 TX7 0 ∈ uw := (uw_m2 103 rfl rfl)
set_option maxRecDepth 20000 in
theorem uy_7_1 : u_lay RX7 TX7 1 ∈ uw := (uw_m2 105 rfl rfl)
set_option maxRecDepth 20000 in
theorem uy_7_2 : u_lay RX7 TX7 2 ∈ uw := (uw_m2 107 rfl rfl)
set_option maxRecDepth 20000 in
theorem uy_7_3 : u_lay RX7 TX7 3 ∈ uw := (uw_m2 109 rfl rfl)
set_option maxRecDepth 20000 in
theorem uy_7_4 : u_lay RX7 TX7 4 ∈ uw := (uw_m2 111 rfl rfl)
set_option maxRecDepth 20000 in
theorem uy_7 : ∀ w ∈ u_ws RX7 TX7 5, w ∈ uw := List.forall_mem_cons.mpr ⟨uy_7_0, List.forall_mem_cons.mpr ⟨uy_7_1, List.forall_mem_cons.mpr ⟨uy_7_2, List.forall_mem_cons.mpr ⟨uy_7_3, List.forall_mem_cons.mpr ⟨uy_7_4, fun _ h => absurd h List.not_mem_nil⟩⟩⟩⟩⟩
set_option maxRecDepth 20000 in
theorem uy_8_0 : u_lay RX8 TX8 0 ∈ uw := (uw_m1 67 rfl rfl)
set_option maxRecDepth 20000 in
theorem uy_8_1 : u_lay RX8 TX8 1 ∈ uw := (uw_m1 69 rfl rfl)
set_option maxRecDepth 20000 in
theorem uy_8_2 : u_lay RX8 TX8 2 ∈ uw := (uw_m1 71 rfl rfl)
set_option maxRecDepth 20000 in
theorem uy_8 : ∀ w ∈ u_ws RX8 TX8 3, w ∈ uw := List.forall_mem_cons.mpr ⟨uy_8_0, List.forall_mem_cons.mpr ⟨uy_8_1, List.forall_mem_cons.mpr ⟨uy_8_2, fun _ h => absurd h List.not_mem_nil⟩⟩⟩
set_option maxRecDepth 20000 in
theorem uy_9_0 : u_lay RX9 TX9 0 ∈ uw := (uw_m2 40 rfl rfl)
set_option maxRecDepth 20000 in
theorem uy_9_1 : u_lay RX9 TX9 1 ∈ uw := (uw_m2 42 rfl rfl)
set_option maxRecDepth 20000 in
theorem uy_9_2 : u_lay RX9 TX9 2 ∈ uw := (uw_m2 44 rfl rfl)
set_option maxRecDepth 20000 in
theorem uy_9_3 : u_lay RX9 TX9 3 ∈ uw := (uw_m2 46 rfl rfl)
set_option maxRecDepth 20000 in
theorem uy_9_4 : u_lay RX9 TX9 4 ∈ uw := (uw_m2 48 rfl rfl)
set_option maxRecDepth 20000 in
theorem uy_9_5 : u_lay RX9 TX9 5 ∈ uw := (uw_m2 50 rfl rfl)
set_option maxRecDepth 20000 in
theorem uy_9_6 : u_lay RX9 TX9 6 ∈ uw := (uw_m2 52 rfl rfl)
set_option maxRecDepth 20000 in
theorem uy_9_7 : u_lay RX9 TX9 7 ∈ uw := (uw_m2 54 rfl rfl)
set_option maxRecDepth 20000 in
theorem uy_9 : ∀ w ∈ u_ws RX9 TX9 8, w ∈ uw := List.forall_mem_cons.mpr ⟨uy_9_0, List.forall_mem_cons.mpr ⟨uy_9_1, List.forall_mem_cons.mpr ⟨uy_9_2, List.forall_mem_cons.mpr ⟨uy_9_3, List.forall_mem_cons.mpr ⟨uy_9_4, List.forall_mem_cons.mpr ⟨uy_9_5, List.forall_mem_cons.mpr ⟨uy_9_6, List.forall_mem_cons.mpr ⟨uy_9_7, fun _ h => absurd h List.not_mem_nil⟩⟩⟩⟩⟩⟩⟩⟩
set_option maxRecDepth 20000 in
theorem uy_10_0 : u_lay RX10 TX10 0 ∈ uw := (uw_m2 150 rfl rfl)
set_option maxRecDepth 20000 in
theorem uy_10_1 : u_lay RX10 TX10 1 ∈ uw := (uw_m2 152 rfl rfl)
set_option maxRecDepth 20000 in
theorem uy_10_2 : u_lay RX10 TX10 2 ∈ uw := (uw_m2 154 rfl rfl)
set_option maxRecDepth 20000 in
theorem uy_10_3 : u_lay RX10 TX10 3 ∈ uw := (uw_m2 156 rfl rfl)
set_option maxRecDepth 20000 in
theorem uy_10_4 : u_lay RX10 TX10 4 ∈ uw := (uw_m2 158 rfl rfl)
set_option maxRecDepth 20000 in
theorem uy_10_5 : u_lay RX10 TX10 5 ∈ uw := (uw_m2 160 rfl rfl)
set_option maxRecDepth 20000 in
theorem uy_10_6 : u_lay RX10 TX10 6 ∈ uw := (uw_m2 162 rfl rfl)
set_option maxRecDepth 20000 in
theorem uy_10_7 : u_lay RX10 TX10 7 ∈ uw := (uw_m2 164 rfl rfl)
set_option maxRecDepth 20000 in
theorem uy_10 : ∀ w ∈ u_ws RX10 TX10 8, w ∈ uw := List.forall_mem_cons.mpr ⟨uy_10_0, List.forall_mem_cons.mpr ⟨uy_10_1, List.forall_mem_cons.mpr ⟨uy_10_2, List.forall_mem_cons.mpr ⟨uy_10_3, List.forall_mem_cons.mpr ⟨uy_10_4, List.forall_mem_cons.mpr ⟨uy_10_5, List.forall_mem_cons.mpr ⟨uy_10_6, List.forall_mem_cons.mpr ⟨uy_10_7, fun _ h => absurd h List.not_mem_nil⟩⟩⟩⟩⟩⟩⟩⟩
set_option maxRecDepth 20000 in
theorem uy_11_0 : u_lay RX11 TX11 0 ∈ uw := (uw_m5 204 rfl rfl)
set_option maxRecDepth 20000 in
theorem uy_11_1 : u_lay RX11 TX11 1 ∈ uw := (uw_m5 206 rfl rfl)
set_option maxRecDepth 20000 in
theorem uy_11_2 : u_lay RX11 TX11 2 ∈ uw := (uw_m5 208 rfl rfl)
set_option maxRecDepth 20000 in
theorem uy_11_3 : u_lay RX11 TX11 3 ∈ uw := (uw_m5 210 rfl rfl)
set_option maxRecDepth 20000 in
theorem uy_11_4 : u_lay RX11 TX11 4 ∈ uw := (uw_m5 212 rfl rfl)
set_option maxRecDepth 20000 in
theorem uy_11_5 : u_lay RX11 TX11 5 ∈ uw := (uw_m5 214 rfl rfl)
set_option maxRecDepth 20000 in
theorem uy_11_6 : u_lay RX11 TX11 6 ∈ uw := (uw_m5 216 rfl rfl)
set_option maxRecDepth 20000 in
theorem uy_11_7 : u_lay RX11 TX11 7 ∈ uw := (uw_m5 218 rfl rfl)
set_option maxRecDepth 20000 in
theorem uy_11_8 : u_lay RX11 TX11 8 ∈ uw := (uw_m5 220 rfl rfl)
set_option maxRecDepth 20000 in
theorem uy_11_9 : u_lay RX11 TX11 9 ∈ uw := (uw_m5 222 rfl rfl)
set_option maxRecDepth 20000 in
theorem uy_11_10 : u_lay RX11 TX11 10 ∈ uw := (uw_m5 224 rfl rfl)
set_option maxRecDepth 20000 in
theorem uy_11_11 : u_lay RX11 TX11 11 ∈ uw := (uw_m5 226 rfl rfl)
set_option maxRecDepth 20000 in
theorem uy_11_12 : u_lay RX11 TX11 12 ∈ uw := (uw_m5 228 rfl rfl)
set_option maxRecDepth 20000 in
theorem uy_11_13 : u_lay RX11 TX11 13 ∈ uw := (uw_m5 230 rfl rfl)
set_option maxRecDepth 20000 in
theorem uy_11_14 : u_lay RX11 TX11 14 ∈ uw := (uw_m5 232 rfl rfl)
set_option maxRecDepth 20000 in
theorem uy_11_15 : u_lay RX11 TX11 15 ∈ uw := (uw_m5 234 rfl rfl)
set_option maxRecDepth 20000 in
theorem uy_11_16 : u_lay RX11 TX11 16 ∈ uw := (uw_m5 236 rfl rfl)
set_option maxRecDepth 20000 in
theorem uy_11_17 : u_lay RX11 TX11 17 ∈ uw := (uw_m5 238 rfl rfl)
set_option maxRecDepth 20000 in
theorem uy_11_18 : u_lay RX11 TX11 18 ∈ uw := (uw_m6 0 rfl rfl)
set_option maxRecDepth 20000 in
theorem uy_11_19 : u_lay RX11 TX11 19 ∈ uw := (uw_m6 2 rfl rfl)
set_option maxRecDepth 20000 in
theorem uy_11_20 : u_lay RX11 TX11 20 ∈ uw := (uw_m6 4 rfl rfl)
set_option maxRecDepth 20000 in
theorem uy_11_21 : u_lay RX11 TX11 21 ∈ uw := (uw_m6 6 rfl rfl)
set_option maxRecDepth 20000 in
theorem uy_11_22 : u_lay RX11 TX11 22 ∈ uw := (uw_m6 8 rfl rfl)
set_option maxRecDepth 20000 in
theorem uy_11_23 : u_lay RX11 TX11 23 ∈ uw := (uw_m6 10 rfl rfl)
set_option maxRecDepth 20000 in
theorem uy_11_24 : u_lay RX11 TX11 24 ∈ uw := (uw_m6 12 rfl rfl)
set_option maxRecDepth 20000 in
theorem uy_11_25 : u_lay RX11 TX11 25 ∈ uw := (uw_m6 14 rfl rfl)
set_option maxRecDepth 20000 in
theorem uy_11_26 : u_lay RX11 TX11 26 ∈ uw := (uw_m6 16 rfl rfl)
set_option maxRecDepth 20000 in
theorem uy_11_27 : u_lay RX11 TX11 27 ∈ uw := (uw_m6 18 rfl rfl)
set_option maxRecDepth 20000 in
theorem uy_11_28 : u_lay RX11 TX11 28 ∈ uw := (uw_m6 20 rfl rfl)
set_option maxRecDepth 20000 in
theorem uy_11_29 : u_lay RX11 TX11 29 ∈ uw := (uw_m6 22 rfl rfl)
set_option maxRecDepth 20000 in
theorem uy_11_30 : u_lay RX11 TX11 30 ∈ uw := (uw_m6 24 rfl rfl)
set_option maxRecDepth 20000 in
theorem uy_11_31 : u_lay RX11 TX11 31 ∈ uw := (uw_m6 26 rfl rfl)
set_option maxRecDepth 20000 in
theorem uy_11_32 : u_lay RX11 TX11 32 ∈ uw := (uw_m6 28 rfl rfl)
set_option maxRecDepth 20000 in
theorem uy_11_33 : u_lay RX11 TX11 33 ∈ uw := (uw_m6 30 rfl rfl)
set_option maxRecDepth 20000 in
theorem uy_11_34 : u_lay RX11 TX11 34 ∈ uw := (uw_m6 32 rfl rfl)
set_option maxRecDepth 20000 in
theorem uy_11_35 : u_lay RX11 TX11 35 ∈ uw := (uw_m6 34 rfl rfl)
set_option maxRecDepth 20000 in
theorem uy_11_36 : u_lay RX11 TX11 36 ∈ uw := (uw_m6 36 rfl rfl)
set_option maxRecDepth 20000 in
theorem uy_11_37 : u_lay RX11 TX11 37 ∈ uw := (uw_m6 38 rfl rfl)
set_option maxRecDepth 20000 in
theorem uy_11_38 : u_lay RX11 TX11 38 ∈ uw := (uw_m6 40 rfl rfl)
set_option maxRecDepth 20000 in
theorem uy_11_39 : u_lay RX11 TX11 39 ∈ uw := (uw_m6 42 rfl rfl)
set_option maxRecDepth 20000 in
theorem uy_11_40 : u_lay RX11 TX11 40 ∈ uw := (uw_m6 44 rfl rfl)
set_option maxRecDepth 20000 in
theorem uy_11_41 : u_lay RX11 TX11 41 ∈ uw := (uw_m6 46 rfl rfl)
set_option maxRecDepth 20000 in
theorem uy_11_42 : u_lay RX11 TX11 42 ∈ uw := (uw_m6 48 rfl rfl)
set_option maxRecDepth 20000 in
theorem uy_11_43 : u_lay RX11 TX11 43 ∈ uw := (uw_m6 50 rfl rfl)
set_option maxRecDepth 20000 in
theorem uy_11_44 : u_lay RX11 TX11 44 ∈ uw := (uw_m6 52 rfl rfl)
set_option maxRecDepth 20000 in
theorem uy_11_45 : u_lay RX11 TX11 45 ∈ uw := (uw_m6 54 rfl rfl)
set_option maxRecDepth 20000 in
theorem uy_11_46 : u_lay RX11 TX11 46 ∈ uw := (uw_m6 56 rfl rfl)
set_option maxRecDepth 20000 in
theorem uy_11_47 : u_lay RX11 TX11 47 ∈ uw := (uw_m6 58 rfl rfl)
set_option maxRecDepth 20000 in
theorem uy_11_48 : u_lay RX11 TX11 48 ∈ uw := (uw_m6 60 rfl rfl)
set_option maxRecDepth 20000 in
theorem uy_11_49 : u_lay RX11 TX11 49 ∈ uw := (uw_m6 62 rfl rfl)
set_option maxRecDepth 20000 in
theorem uy_11_50 : u_lay RX11 TX11 50 ∈ uw := (uw_m6 64 rfl rfl)
set_option maxRecDepth 20000 in
theorem uy_11_51 : u_lay RX11 TX11 51 ∈ uw := (uw_m6 66 rfl rfl)
set_option maxRecDepth 20000 in
theorem uy_11_52 : u_lay RX11 TX11 52 ∈ uw := (uw_m6 68 rfl rfl)
set_option maxRecDepth 20000 in
theorem uy_11_53 : u_lay RX11 TX11 53 ∈ uw := (uw_m6 70 rfl rfl)
set_option maxRecDepth 20000 in
theorem uy_11_54 : u_lay RX11 TX11 54 ∈ uw := (uw_m6 72 rfl rfl)
set_option maxRecDepth 20000 in
theorem uy_11_55 : u_lay RX11 TX11 55 ∈ uw := (uw_m6 74 rfl rfl)
set_option maxRecDepth 20000 in
theorem uy_11_56 : u_lay RX11 TX11 56 ∈ uw := (uw_m6 76 rfl rfl)
set_option maxRecDepth 20000 in
theorem uy_11_57 : u_lay RX11 TX11 57 ∈ uw := (uw_m6 78 rfl rfl)
set_option maxRecDepth 20000 in
theorem uy_11_58 : u_lay RX11 TX11 58 ∈ uw := (uw_m6 80 rfl rfl)
set_option maxRecDepth 20000 in
theorem uy_11_59 : u_lay RX11 TX11 59 ∈ uw := (uw_m6 82 rfl rfl)
set_option maxRecDepth 20000 in
theorem uy_11_60 : u_lay RX11 TX11 60 ∈ uw := (uw_m6 84 rfl rfl)
set_option maxRecDepth 20000 in
theorem uy_11_61 : u_lay RX11 TX11 61 ∈ uw := (uw_m6 86 rfl rfl)
set_option maxRecDepth 20000 in
theorem uy_11_62 : u_lay RX11 TX11 62 ∈ uw := (uw_m6 88 rfl rfl)
set_option maxRecDepth 20000 in
theorem uy_11_63 : u_lay RX11 TX11 63 ∈ uw := (uw_m6 90 rfl rfl)
set_option maxRecDepth 20000 in
theorem uy_11_64 : u_lay RX11 TX11 64 ∈ uw := (uw_m6 92 rfl rfl)
set_option maxRecDepth 20000 in
theorem uy_11_65 : u_lay RX11 TX11 65 ∈ uw := (uw_m6 94 rfl rfl)
set_option maxRecDepth 20000 in
theorem uy_11_66 : u_lay RX11 TX11 66 ∈ uw := (uw_m6 96 rfl rfl)
set_option maxRecDepth 20000 in
theorem uy_11_67 : u_lay RX11 TX11 67 ∈ uw := (uw_m6 98 rfl rfl)
set_option maxRecDepth 20000 in
theorem uy_11_68 : u_lay RX11 TX11 68 ∈ uw := (uw_m6 100 rfl rfl)
set_option maxRecDepth 20000 in
theorem uy_11_69 : u_lay RX11 TX11 69 ∈ uw := (uw_m6 102 rfl rfl)
set_option maxRecDepth 20000 in
theorem uy_11_70 : u_lay RX11 TX11 70 ∈ uw := (uw_m6 104 rfl rfl)
set_option maxRecDepth 20000 in
theorem uy_11_71 : u_lay RX11 TX11 71 ∈ uw := (uw_m6 106 rfl rfl)
set_option maxRecDepth 20000 in
theorem uy_11_72 : u_lay RX11 TX11 72 ∈ uw := (uw_m6 108 rfl rfl)
set_option maxRecDepth 20000 in
theorem uy_11_73 : u_lay RX11 TX11 73 ∈ uw := (uw_m6 110 rfl rfl)
set_option maxRecDepth 20000 in
theorem uy_11 : ∀ w ∈ u_ws RX11 TX11 74, w ∈ uw := List.forall_mem_cons.mpr ⟨uy_11_0, List.forall_mem_cons.mpr ⟨uy_11_1, List.forall_mem_cons.mpr ⟨uy_11_2, List.forall_mem_cons.mpr ⟨uy_11_3, List.forall_mem_cons.mpr ⟨uy_11_4, List.forall_mem_cons.mpr ⟨uy_11_5, List.forall_mem_cons.mpr ⟨uy_11_6, List.forall_mem_cons.mpr ⟨uy_11_7, List.forall_mem_cons.mpr ⟨uy_11_8, List.forall_mem_cons.mpr ⟨uy_11_9, List.forall_mem_cons.mpr ⟨uy_11_10, List.forall_mem_cons.mpr ⟨uy_11_11, List.forall_mem_cons.mpr ⟨uy_11_12, List.forall_mem_cons.mpr ⟨uy_11_13, List.forall_mem_cons.mpr ⟨uy_11_14, List.forall_mem_cons.mpr ⟨uy_11_15, List.forall_mem_cons.mpr ⟨uy_11_16, List.forall_mem_cons.mpr ⟨uy_11_17, List.forall_mem_cons.mpr ⟨uy_11_18, List.forall_mem_cons.mpr ⟨uy_11_19, List.forall_mem_cons.mpr ⟨uy_11_20, List.forall_mem_cons.mpr ⟨uy_11_21, List.forall_mem_cons.mpr ⟨uy_11_22, List.forall_mem_cons.mpr ⟨uy_11_23, List.forall_mem_cons.mpr ⟨uy_11_24, List.forall_mem_cons.mpr ⟨uy_11_25, List.forall_mem_cons.mpr ⟨uy_11_26, List.forall_mem_cons.mpr ⟨uy_11_27, List.forall_mem_cons.mpr ⟨uy_11_28, List.forall_mem_cons.mpr ⟨uy_11_29, List.forall_mem_cons.mpr ⟨uy_11_30, List.forall_mem_cons.mpr ⟨uy_11_31, List.forall_mem_cons.mpr ⟨uy_11_32, List.forall_mem_cons.mpr ⟨uy_11_33, List.forall_mem_cons.mpr ⟨uy_11_34, List.forall_mem_cons.mpr ⟨uy_11_35, List.forall_mem_cons.mpr ⟨uy_11_36, List.forall_mem_cons.mpr ⟨uy_11_37, List.forall_mem_cons.mpr ⟨uy_11_38, List.forall_mem_cons.mpr ⟨uy_11_39, List.forall_mem_cons.mpr ⟨uy_11_40, List.forall_mem_cons.mpr ⟨uy_11_41, List.forall_mem_cons.mpr ⟨uy_11_42, List.forall_mem_cons.mpr ⟨uy_11_43, List.forall_mem_cons.mpr ⟨uy_11_44, List.forall_mem_cons.mpr ⟨uy_11_45, List.forall_mem_cons.mpr ⟨uy_11_46, List.forall_mem_cons.mpr ⟨uy_11_47, List.forall_mem_cons.mpr ⟨uy_11_48, List.forall_mem_cons.mpr ⟨uy_11_49, List.forall_mem_cons.mpr ⟨uy_11_50, List.forall_mem_cons.mpr ⟨uy_11_51, List.forall_mem_cons.mpr ⟨uy_11_52, List.forall_mem_cons.mpr ⟨uy_11_53, List.forall_mem_cons.mpr ⟨uy_11_54, List.forall_mem_cons.mpr ⟨uy_11_55, List.forall_mem_cons.mpr ⟨uy_11_56, List.forall_mem_cons.mpr ⟨uy_11_57, List.forall_mem_cons.mpr ⟨uy_11_58, List.forall_mem_cons.mpr ⟨uy_11_59, List.forall_mem_cons.mpr ⟨uy_11_60, List.forall_mem_cons.mpr ⟨uy_11_61, List.forall_mem_cons.mpr ⟨uy_11_62, List.forall_mem_cons.mpr ⟨uy_11_63, List.forall_mem_cons.mpr ⟨uy_11_64, List.forall_mem_cons.mpr ⟨uy_11_65, List.forall_mem_cons.mpr ⟨uy_11_66, List.forall_mem_cons.mpr ⟨uy_11_67, List.forall_mem_cons.mpr ⟨uy_11_68, List.forall_mem_cons.mpr ⟨uy_11_69, List.forall_mem_cons.mpr ⟨uy_11_70, List.forall_mem_cons.mpr ⟨uy_11_71, List.forall_mem_cons.mpr ⟨uy_11_72, List.forall_mem_cons.mpr ⟨uy_11_73, fun _ h => absurd h List.not_mem_nil⟩⟩⟩⟩⟩⟩⟩⟩⟩⟩⟩⟩⟩⟩⟩⟩⟩⟩⟩⟩⟩⟩⟩⟩⟩⟩⟩⟩⟩⟩⟩⟩⟩⟩⟩⟩⟩⟩⟩⟩⟩⟩⟩⟩⟩⟩⟩⟩⟩⟩⟩⟩⟩⟩⟩⟩⟩⟩⟩⟩⟩⟩⟩⟩⟩⟩⟩⟩⟩⟩⟩⟩⟩⟩
set_option maxRecDepth 20000 in
theorem uy_all : ab_ck uw vwCl := by
  intro ci C T N' h
  match ci, h with
  | 0, h => cases h; exact ⟨uy_0, ⟨tyX0, tyX0_ok⟩, nmX0⟩
  | 1, h => cases h; exact ⟨uy_1, ⟨tyX1, tyX1_ok⟩, nmX1⟩
  | 2, h => cases h; exact ⟨uy_2, ⟨tyX2, tyX2_ok⟩, nmX2⟩
  | 3, h => cases h; exact ⟨uy_3, ⟨tyX3, tyX3_ok⟩, nmX3⟩
  | 4, h => cases h; exact ⟨uy_4, ⟨tyX4, tyX4_ok⟩, nmX4⟩
  | 5, h => cases h; exact ⟨uy_5, ⟨tyX5, tyX5_ok⟩, nmX5⟩
  | 6, h => cases h; exact ⟨uy_6, ⟨tyX6, tyX6_ok⟩, nmX6⟩
  | 7, h => cases h; exact ⟨uy_7, ⟨tyX7, tyX7_ok⟩, nmX7⟩
  | 8, h => cases h; exact ⟨uy_8, ⟨tyX8, tyX8_ok⟩, nmX8⟩
  | 9, h => cases h; exact ⟨uy_9, ⟨tyX9, tyX9_ok⟩, nmX9⟩
  | 10, h => cases h; exact ⟨uy_10, ⟨tyX10, tyX10_ok⟩, nmX10⟩
  | 11, h => cases h; exact ⟨uy_11, ⟨tyX11, tyX11_ok⟩, nmX11⟩
  | k + 12, h => simp [vwCl] at h
set_option maxRecDepth 20000 in
theorem uc_all : ∀ M ∈ prg, ab_mk uw M := List.forall_mem_cons.mpr ⟨uc_X0_addFour, List.forall_mem_cons.mpr ⟨uc_X0_keepOfLast, List.forall_mem_cons.mpr ⟨uc_X0_endDocument, List.forall_mem_cons.mpr ⟨uc_X0_dropAll, List.forall_mem_cons.mpr ⟨uc_X1_become, List.forall_mem_cons.mpr ⟨uc_X1_stand, List.forall_mem_cons.mpr ⟨uc_X1_rows, List.forall_mem_cons.mpr ⟨uc_X1_beside, List.forall_mem_cons.mpr ⟨uc_X1_extend, List.forall_mem_cons.mpr ⟨uc_X1_undo, List.forall_mem_cons.mpr ⟨uc_X1_placeInOrder, List.forall_mem_cons.mpr ⟨uc_X1_neighbour, List.forall_mem_cons.mpr ⟨uc_X1_placesIn, List.forall_mem_cons.mpr ⟨uc_X1_countByDocument, List.forall_mem_cons.mpr ⟨uc_X1_documentInOrder, List.forall_mem_cons.mpr ⟨uc_X1_documentsAheadOf, List.forall_mem_cons.mpr ⟨uc_X2_learn, List.forall_mem_cons.mpr ⟨uc_X2_learnAlikes, List.forall_mem_cons.mpr ⟨uc_X2_learnFronts, List.forall_mem_cons.mpr ⟨uc_X2_alikeBehind, List.forall_mem_cons.mpr ⟨uc_X2_alikeFrom, List.forall_mem_cons.mpr ⟨uc_X2_has, List.forall_mem_cons.mpr ⟨uc_X2_hasDocument, List.forall_mem_cons.mpr ⟨uc_X2_endOf, List.forall_mem_cons.mpr ⟨uc_X2_bytesFrom, List.forall_mem_cons.mpr ⟨uc_X2_byteOf, List.forall_mem_cons.mpr ⟨uc_X2_tell, List.forall_mem_cons.mpr ⟨uc_X2_rowInFront, List.forall_mem_cons.mpr ⟨uc_X2_frontsUpTo, List.forall_mem_cons.mpr ⟨uc_X2_rowOfFront, List.forall_mem_cons.mpr ⟨uc_X2_sumOfAlikes, List.forall_mem_cons.mpr ⟨uc_X2_greatestAlike, List.forall_mem_cons.mpr ⟨uc_X3_forget, List.forall_mem_cons.mpr ⟨uc_X3_found, List.forall_mem_cons.mpr ⟨uc_X3_tellFound, List.forall_mem_cons.mpr ⟨uc_X3_answerQuery, List.forall_mem_cons.mpr ⟨uc_X3_goUp, List.forall_mem_cons.mpr ⟨uc_X3_goDown, List.forall_mem_cons.mpr ⟨uc_X3_goDownLeft, List.forall_mem_cons.mpr ⟨uc_X3_goDownTo, List.forall_mem_cons.mpr ⟨uc_X4_find, List.forall_mem_cons.mpr ⟨uc_X4_differAt, List.forall_mem_cons.mpr ⟨uc_X5_learn, List.forall_mem_cons.mpr ⟨uc_X5_learnEarlier, List.forall_mem_cons.mpr ⟨uc_X5_mirrored, List.forall_mem_cons.mpr ⟨uc_X5_learnReaches, List.forall_mem_cons.mpr ⟨uc_X5_learnGapReaches, List.forall_mem_cons.mpr ⟨uc_X5_factors, List.forall_mem_cons.mpr ⟨uc_X5_tellFactor, List.forall_mem_cons.mpr ⟨uc_X5_leastEarlier, List.forall_mem_cons.mpr ⟨uc_X5_fallingWord, List.forall_mem_cons.mpr ⟨uc_X5_periodOfWords, List.forall_mem_cons.mpr ⟨uc_X5_endOfWords, List.forall_mem_cons.mpr ⟨uc_X5_leastTwice, List.forall_mem_cons.mpr ⟨uc_X5_nearer, List.forall_mem_cons.mpr ⟨uc_X5_longestMirror, List.forall_mem_cons.mpr ⟨uc_X5_longestIn, List.forall_mem_cons.mpr ⟨uc_X6_add, List.forall_mem_cons.mpr ⟨uc_X6_read, List.forall_mem_cons.mpr ⟨uc_X6_comes, List.forall_mem_cons.mpr ⟨uc_X6_goesOn, List.forall_mem_cons.mpr ⟨uc_X6_bounded, List.forall_mem_cons.mpr ⟨uc_X6_readSum, List.forall_mem_cons.mpr ⟨uc_X6_readItem, List.forall_mem_cons.mpr ⟨uc_X6_copies, List.forall_mem_cons.mpr ⟨uc_X6_readAtom, List.forall_mem_cons.mpr ⟨uc_X6_readPlain, List.forall_mem_cons.mpr ⟨uc_X6_readBrackets, List.forall_mem_cons.mpr ⟨uc_X6_readSign, List.forall_mem_cons.mpr ⟨uc_X6_readByte, List.forall_mem_cons.mpr ⟨uc_X6_readRanges, List.forall_mem_cons.mpr ⟨uc_X6_readRange, List.forall_mem_cons.mpr ⟨uc_X6_readRangeByte, List.forall_mem_cons.mpr ⟨uc_X6_addBytes, List.forall_mem_cons.mpr ⟨uc_X6_mayBe, List.forall_mem_cons.mpr ⟨uc_X6_readRepeat, List.forall_mem_cons.mpr ⟨uc_X6_repeat, List.forall_mem_cons.mpr ⟨uc_X6_readNumbers, List.forall_mem_cons.mpr ⟨uc_X6_readNumber, List.forall_mem_cons.mpr ⟨uc_X6_figureComes, List.forall_mem_cons.mpr ⟨uc_X7_learn, List.forall_mem_cons.mpr ⟨uc_X7_lengthOf, List.forall_mem_cons.mpr ⟨uc_X7_newOf, List.forall_mem_cons.mpr ⟨uc_X7_howManyOf, List.forall_mem_cons.mpr ⟨uc_X7_holdInOrder, List.forall_mem_cons.mpr ⟨uc_X7_lesserThanHeld, List.forall_mem_cons.mpr ⟨uc_X7_holdLongest, List.forall_mem_cons.mpr ⟨uc_X7_firstRun, List.forall_mem_cons.mpr ⟨uc_X7_holdOftenest, List.forall_mem_cons.mpr ⟨uc_X7_leastAlone, List.forall_mem_cons.mpr ⟨uc_X7_holdMaximal, List.forall_mem_cons.mpr ⟨uc_X7_maximalFrom, List.forall_mem_cons.mpr ⟨uc_X7_maximalLength, List.forall_mem_cons.mpr ⟨uc_X7_howManyAbsent, List.forall_mem_cons.mpr ⟨uc_X8_arrange, List.forall_mem_cons.mpr ⟨uc_X8_sortByHalves, List.forall_mem_cons.mpr ⟨uc_X8_sortByRank, List.forall_mem_cons.mpr ⟨uc_X8_rankAnew, List.forall_mem_cons.mpr ⟨uc_X8_rankAt, List.forall_mem_cons.mpr ⟨uc_X9_grown, List.forall_mem_cons.mpr ⟨uc_X9_comes, List.forall_mem_cons.mpr ⟨uc_X9_growSum, List.forall_mem_cons.mpr ⟨uc_X9_growRow, List.forall_mem_cons.mpr ⟨uc_X9_growItem, List.forall_mem_cons.mpr ⟨uc_X9_growAtom, List.forall_mem_cons.mpr ⟨uc_X9_joined, List.forall_mem_cons.mpr ⟨uc_X9_choice, List.forall_mem_cons.mpr ⟨uc_X9_node, List.forall_mem_cons.mpr ⟨uc_X10_feed, List.forall_mem_cons.mpr ⟨uc_X10_end, List.forall_mem_cons.mpr ⟨uc_X10_cut, List.forall_mem_cons.mpr ⟨uc_X10_clear, List.forall_mem_cons.mpr ⟨uc_X10_build, List.forall_mem_cons.mpr ⟨uc_X10_place, List.forall_mem_cons.mpr ⟨uc_X10_row, List.forall_mem_cons.mpr ⟨uc_X10_shared, List.forall_mem_cons.mpr ⟨uc_X10_before, List.forall_mem_cons.mpr ⟨uc_X10_step, List.forall_mem_cons.mpr ⟨uc_X10_rank, List.forall_mem_cons.mpr ⟨uc_X10_select, List.forall_mem_cons.mpr ⟨uc_X10_byteAt, List.forall_mem_cons.mpr ⟨uc_X10_document, List.forall_mem_cons.mpr ⟨uc_X10_alike, List.forall_mem_cons.mpr ⟨uc_X10_begin, List.forall_mem_cons.mpr ⟨uc_X10_grow, List.forall_mem_cons.mpr ⟨uc_X10_front, List.forall_mem_cons.mpr ⟨uc_X10_back, List.forall_mem_cons.mpr ⟨uc_X10_pattern, List.forall_mem_cons.mpr ⟨uc_X10_patternByte, List.forall_mem_cons.mpr ⟨uc_X10_at, List.forall_mem_cons.mpr ⟨uc_X10_sorted, List.forall_mem_cons.mpr ⟨uc_X10_more, List.forall_mem_cons.mpr ⟨uc_X10_ranked, List.forall_mem_cons.mpr ⟨uc_X10_times, List.forall_mem_cons.mpr ⟨uc_X10_take, List.forall_mem_cons.mpr ⟨uc_X10_near, List.forall_mem_cons.mpr ⟨uc_X10_nearOf, List.forall_mem_cons.mpr ⟨uc_X10_ask, List.forall_mem_cons.mpr ⟨uc_X10_answer, List.forall_mem_cons.mpr ⟨uc_X10_answered, List.forall_mem_cons.mpr ⟨uc_X10_different, List.forall_mem_cons.mpr ⟨uc_X10_kth, List.forall_mem_cons.mpr ⟨uc_X10_order, List.forall_mem_cons.mpr ⟨uc_X10_repeated, List.forall_mem_cons.mpr ⟨uc_X10_common, List.forall_mem_cons.mpr ⟨uc_X10_oftenest, List.forall_mem_cons.mpr ⟨uc_X10_unique, List.forall_mem_cons.mpr ⟨uc_X10_maximal, List.forall_mem_cons.mpr ⟨uc_X10_absent, List.forall_mem_cons.mpr ⟨uc_X10_factor, List.forall_mem_cons.mpr ⟨uc_X10_word, List.forall_mem_cons.mpr ⟨uc_X10_square, List.forall_mem_cons.mpr ⟨uc_X10_mirror, List.forall_mem_cons.mpr ⟨uc_X10_match, List.forall_mem_cons.mpr ⟨uc_X10_count, List.forall_mem_cons.mpr ⟨uc_X10_unwound, List.forall_mem_cons.mpr ⟨uc_X10_countOfIndex, List.forall_mem_cons.mpr ⟨uc_X10_isByte, List.forall_mem_cons.mpr ⟨uc_X11_feed, List.forall_mem_cons.mpr ⟨uc_X11_end, List.forall_mem_cons.mpr ⟨uc_X11_cut, List.forall_mem_cons.mpr ⟨uc_X11_clear, List.forall_mem_cons.mpr ⟨uc_X11_keyAt, List.forall_mem_cons.mpr ⟨uc_X11_sortBy, List.forall_mem_cons.mpr ⟨uc_X11_sortAll, List.forall_mem_cons.mpr ⟨uc_X11_findShares, List.forall_mem_cons.mpr ⟨uc_X11_build, List.forall_mem_cons.mpr ⟨uc_X11_isRow, List.forall_mem_cons.mpr ⟨uc_X11_isDocument, List.forall_mem_cons.mpr ⟨uc_X11_isByte, List.forall_mem_cons.mpr ⟨uc_X11_left, List.forall_mem_cons.mpr ⟨uc_X11_stepsOf, List.forall_mem_cons.mpr ⟨uc_X11_place, List.forall_mem_cons.mpr ⟨uc_X11_row, List.forall_mem_cons.mpr ⟨uc_X11_shared, List.forall_mem_cons.mpr ⟨uc_X11_beforeOf, List.forall_mem_cons.mpr ⟨uc_X11_before, List.forall_mem_cons.mpr ⟨uc_X11_step, List.forall_mem_cons.mpr ⟨uc_X11_rank, List.forall_mem_cons.mpr ⟨uc_X11_select, List.forall_mem_cons.mpr ⟨uc_X11_byteAt, List.forall_mem_cons.mpr ⟨uc_X11_document, List.forall_mem_cons.mpr ⟨uc_X11_alikeOf, List.forall_mem_cons.mpr ⟨uc_X11_alike, List.forall_mem_cons.mpr ⟨uc_X11_toEmpty, List.forall_mem_cons.mpr ⟨uc_X11_begin, List.forall_mem_cons.mpr ⟨uc_X11_findRows, List.forall_mem_cons.mpr ⟨uc_X11_become, List.forall_mem_cons.mpr ⟨uc_X11_grow, List.forall_mem_cons.mpr ⟨uc_X11_front, List.forall_mem_cons.mpr ⟨uc_X11_back, List.forall_mem_cons.mpr ⟨uc_X11_pattern, List.forall_mem_cons.mpr ⟨uc_X11_patternByte, List.forall_mem_cons.mpr ⟨uc_X11_at, List.forall_mem_cons.mpr ⟨uc_X11_isAt, List.forall_mem_cons.mpr ⟨uc_X11_sorted, List.forall_mem_cons.mpr ⟨uc_X11_more, List.forall_mem_cons.mpr ⟨uc_X11_timesOf, List.forall_mem_cons.mpr ⟨uc_X11_ranked, List.forall_mem_cons.mpr ⟨uc_X11_times, List.forall_mem_cons.mpr ⟨uc_X11_take, List.forall_mem_cons.mpr ⟨uc_X11_near, List.forall_mem_cons.mpr ⟨uc_X11_nearOf, List.forall_mem_cons.mpr ⟨uc_X11_ask, List.forall_mem_cons.mpr ⟨uc_X11_sign, List.forall_mem_cons.mpr ⟨uc_X11_fail, List.forall_mem_cons.mpr ⟨uc_X11_isFigure, List.forall_mem_cons.mpr ⟨uc_X11_number, List.forall_mem_cons.mpr ⟨uc_X11_braces, List.forall_mem_cons.mpr ⟨uc_X11_rangeByte, List.forall_mem_cons.mpr ⟨uc_X11_ranges, List.forall_mem_cons.mpr ⟨uc_X11_openOne, List.forall_mem_cons.mpr ⟨uc_X11_addMade, List.forall_mem_cons.mpr ⟨uc_X11_endRow, List.forall_mem_cons.mpr ⟨uc_X11_begunAtom, List.forall_mem_cons.mpr ⟨uc_X11_endItem, List.forall_mem_cons.mpr ⟨uc_X11_again, List.forall_mem_cons.mpr ⟨uc_X11_repeat, List.forall_mem_cons.mpr ⟨uc_X11_goOver, List.forall_mem_cons.mpr ⟨uc_X11_quantify, List.forall_mem_cons.mpr ⟨uc_X11_atom, List.forall_mem_cons.mpr ⟨uc_X11_follow, List.forall_mem_cons.mpr ⟨uc_X11_findPositions, List.forall_mem_cons.mpr ⟨uc_X11_fits, List.forall_mem_cons.mpr ⟨uc_X11_matchFrom, List.forall_mem_cons.mpr ⟨uc_X11_answer, List.forall_mem_cons.mpr ⟨uc_X11_answered, List.forall_mem_cons.mpr ⟨uc_X11_freshOf, List.forall_mem_cons.mpr ⟨uc_X11_different, List.forall_mem_cons.mpr ⟨uc_X11_kth, List.forall_mem_cons.mpr ⟨uc_X11_order, List.forall_mem_cons.mpr ⟨uc_X11_becomeBest, List.forall_mem_cons.mpr ⟨uc_X11_repeated, List.forall_mem_cons.mpr ⟨uc_X11_common, List.forall_mem_cons.mpr ⟨uc_X11_oftenest, List.forall_mem_cons.mpr ⟨uc_X11_unique, List.forall_mem_cons.mpr ⟨uc_X11_isOneBefore, List.forall_mem_cons.mpr ⟨uc_X11_maximal, List.forall_mem_cons.mpr ⟨uc_X11_absent, List.forall_mem_cons.mpr ⟨uc_X11_findFactors, List.forall_mem_cons.mpr ⟨uc_X11_factor, List.forall_mem_cons.mpr ⟨uc_X11_word, List.forall_mem_cons.mpr ⟨uc_X11_square, List.forall_mem_cons.mpr ⟨uc_X11_mirror, List.forall_mem_cons.mpr ⟨uc_X11_match, List.forall_mem_cons.mpr ⟨uc_X11_countRows, List.forall_mem_cons.mpr ⟨uc_X11_countBytes, List.forall_mem_cons.mpr ⟨uc_X11_count, List.forall_mem_cons.mpr ⟨uc_X11_unwound, List.forall_mem_cons.mpr ⟨uc_J7_rangeCheck_23922, List.forall_mem_cons.mpr ⟨uc_J7_fill_bad5a, List.forall_mem_cons.mpr ⟨uc_J7_fill_53178, List.forall_mem_cons.mpr ⟨uc_J7_fill_fda19, fun _ h => absurd h List.not_mem_nil⟩⟩⟩⟩⟩⟩⟩⟩⟩⟩⟩⟩⟩⟩⟩⟩⟩⟩⟩⟩⟩⟩⟩⟩⟩⟩⟩⟩⟩⟩⟩⟩⟩⟩⟩⟩⟩⟩⟩⟩⟩⟩⟩⟩⟩⟩⟩⟩⟩⟩⟩⟩⟩⟩⟩⟩⟩⟩⟩⟩⟩⟩⟩⟩⟩⟩⟩⟩⟩⟩⟩⟩⟩⟩⟩⟩⟩⟩⟩⟩⟩⟩⟩⟩⟩⟩⟩⟩⟩⟩⟩⟩⟩⟩⟩⟩⟩⟩⟩⟩⟩⟩⟩⟩⟩⟩⟩⟩⟩⟩⟩⟩⟩⟩⟩⟩⟩⟩⟩⟩⟩⟩⟩⟩⟩⟩⟩⟩⟩⟩⟩⟩⟩⟩⟩⟩⟩⟩⟩⟩⟩⟩⟩⟩⟩⟩⟩⟩⟩⟩⟩⟩⟩⟩⟩⟩⟩⟩⟩⟩⟩⟩⟩⟩⟩⟩⟩⟩⟩⟩⟩⟩⟩⟩⟩⟩⟩⟩⟩⟩⟩⟩⟩⟩⟩⟩⟩⟩⟩⟩⟩⟩⟩⟩⟩⟩⟩⟩⟩⟩⟩⟩⟩⟩⟩⟩⟩⟩⟩⟩⟩⟩⟩⟩⟩⟩⟩⟩⟩⟩⟩⟩⟩⟩⟩⟩⟩⟩⟩⟩⟩⟩⟩⟩⟩⟩⟩⟩⟩⟩⟩⟩⟩⟩⟩⟩⟩⟩⟩⟩⟩⟩⟩
set_option maxRecDepth 20000 in
theorem ux_all : ∀ M ∈ prg, ab_cd uw vwCl prg M := List.forall_mem_cons.mpr ⟨ux_X0_addFour, List.forall_mem_cons.mpr ⟨ux_X0_keepOfLast, List.forall_mem_cons.mpr ⟨ux_X0_endDocument, List.forall_mem_cons.mpr ⟨ux_X0_dropAll, List.forall_mem_cons.mpr ⟨ux_X1_become, List.forall_mem_cons.mpr ⟨ux_X1_stand, List.forall_mem_cons.mpr ⟨ux_X1_rows, List.forall_mem_cons.mpr ⟨ux_X1_beside, List.forall_mem_cons.mpr ⟨ux_X1_extend, List.forall_mem_cons.mpr ⟨ux_X1_undo, List.forall_mem_cons.mpr ⟨ux_X1_placeInOrder, List.forall_mem_cons.mpr ⟨ux_X1_neighbour, List.forall_mem_cons.mpr ⟨ux_X1_placesIn, List.forall_mem_cons.mpr ⟨ux_X1_countByDocument, List.forall_mem_cons.mpr ⟨ux_X1_documentInOrder, List.forall_mem_cons.mpr ⟨ux_X1_documentsAheadOf, List.forall_mem_cons.mpr ⟨ux_X2_learn, List.forall_mem_cons.mpr ⟨ux_X2_learnAlikes, List.forall_mem_cons.mpr ⟨ux_X2_learnFronts, List.forall_mem_cons.mpr ⟨ux_X2_alikeBehind, List.forall_mem_cons.mpr ⟨ux_X2_alikeFrom, List.forall_mem_cons.mpr ⟨ux_X2_has, List.forall_mem_cons.mpr ⟨ux_X2_hasDocument, List.forall_mem_cons.mpr ⟨ux_X2_endOf, List.forall_mem_cons.mpr ⟨ux_X2_bytesFrom, List.forall_mem_cons.mpr ⟨ux_X2_byteOf, List.forall_mem_cons.mpr ⟨ux_X2_tell, List.forall_mem_cons.mpr ⟨ux_X2_rowInFront, List.forall_mem_cons.mpr ⟨ux_X2_frontsUpTo, List.forall_mem_cons.mpr ⟨ux_X2_rowOfFront, List.forall_mem_cons.mpr ⟨ux_X2_sumOfAlikes, List.forall_mem_cons.mpr ⟨ux_X2_greatestAlike, List.forall_mem_cons.mpr ⟨ux_X3_forget, List.forall_mem_cons.mpr ⟨ux_X3_found, List.forall_mem_cons.mpr ⟨ux_X3_tellFound, List.forall_mem_cons.mpr ⟨ux_X3_answerQuery, List.forall_mem_cons.mpr ⟨ux_X3_goUp, List.forall_mem_cons.mpr ⟨ux_X3_goDown, List.forall_mem_cons.mpr ⟨ux_X3_goDownLeft, List.forall_mem_cons.mpr ⟨ux_X3_goDownTo, List.forall_mem_cons.mpr ⟨ux_X4_find, List.forall_mem_cons.mpr ⟨ux_X4_differAt, List.forall_mem_cons.mpr ⟨ux_X5_learn, List.forall_mem_cons.mpr ⟨ux_X5_learnEarlier, List.forall_mem_cons.mpr ⟨ux_X5_mirrored, List.forall_mem_cons.mpr ⟨ux_X5_learnReaches, List.forall_mem_cons.mpr ⟨ux_X5_learnGapReaches, List.forall_mem_cons.mpr ⟨ux_X5_factors, List.forall_mem_cons.mpr ⟨ux_X5_tellFactor, List.forall_mem_cons.mpr ⟨ux_X5_leastEarlier, List.forall_mem_cons.mpr ⟨ux_X5_fallingWord, List.forall_mem_cons.mpr ⟨ux_X5_periodOfWords, List.forall_mem_cons.mpr ⟨ux_X5_endOfWords, List.forall_mem_cons.mpr ⟨ux_X5_leastTwice, List.forall_mem_cons.mpr ⟨ux_X5_nearer, List.forall_mem_cons.mpr ⟨ux_X5_longestMirror, List.forall_mem_cons.mpr ⟨ux_X5_longestIn, List.forall_mem_cons.mpr ⟨ux_X6_add, List.forall_mem_cons.mpr ⟨ux_X6_read, List.forall_mem_cons.mpr ⟨ux_X6_comes, List.forall_mem_cons.mpr ⟨ux_X6_goesOn, List.forall_mem_cons.mpr ⟨ux_X6_bounded, List.forall_mem_cons.mpr ⟨ux_X6_readSum, List.forall_mem_cons.mpr ⟨ux_X6_readItem, List.forall_mem_cons.mpr ⟨ux_X6_copies, List.forall_mem_cons.mpr ⟨ux_X6_readAtom, List.forall_mem_cons.mpr ⟨ux_X6_readPlain, List.forall_mem_cons.mpr ⟨ux_X6_readBrackets, List.forall_mem_cons.mpr ⟨ux_X6_readSign, List.forall_mem_cons.mpr ⟨ux_X6_readByte, List.forall_mem_cons.mpr ⟨ux_X6_readRanges, List.forall_mem_cons.mpr ⟨ux_X6_readRange, List.forall_mem_cons.mpr ⟨ux_X6_readRangeByte, List.forall_mem_cons.mpr ⟨ux_X6_addBytes, List.forall_mem_cons.mpr ⟨ux_X6_mayBe, List.forall_mem_cons.mpr ⟨ux_X6_readRepeat, List.forall_mem_cons.mpr ⟨ux_X6_repeat, List.forall_mem_cons.mpr ⟨ux_X6_readNumbers, List.forall_mem_cons.mpr ⟨ux_X6_readNumber, List.forall_mem_cons.mpr ⟨ux_X6_figureComes, List.forall_mem_cons.mpr ⟨ux_X7_learn, List.forall_mem_cons.mpr ⟨ux_X7_lengthOf, List.forall_mem_cons.mpr ⟨ux_X7_newOf, List.forall_mem_cons.mpr ⟨ux_X7_howManyOf, List.forall_mem_cons.mpr ⟨ux_X7_holdInOrder, List.forall_mem_cons.mpr ⟨ux_X7_lesserThanHeld, List.forall_mem_cons.mpr ⟨ux_X7_holdLongest, List.forall_mem_cons.mpr ⟨ux_X7_firstRun, List.forall_mem_cons.mpr ⟨ux_X7_holdOftenest, List.forall_mem_cons.mpr ⟨ux_X7_leastAlone, List.forall_mem_cons.mpr ⟨ux_X7_holdMaximal, List.forall_mem_cons.mpr ⟨ux_X7_maximalFrom, List.forall_mem_cons.mpr ⟨ux_X7_maximalLength, List.forall_mem_cons.mpr ⟨ux_X7_howManyAbsent, List.forall_mem_cons.mpr ⟨ux_X8_arrange, List.forall_mem_cons.mpr ⟨ux_X8_sortByHalves, List.forall_mem_cons.mpr ⟨ux_X8_sortByRank, List.forall_mem_cons.mpr ⟨ux_X8_rankAnew, List.forall_mem_cons.mpr ⟨ux_X8_rankAt, List.forall_mem_cons.mpr ⟨ux_X9_grown, List.forall_mem_cons.mpr ⟨ux_X9_comes, List.forall_mem_cons.mpr ⟨ux_X9_growSum, List.forall_mem_cons.mpr ⟨ux_X9_growRow, List.forall_mem_cons.mpr ⟨ux_X9_growItem, List.forall_mem_cons.mpr ⟨ux_X9_growAtom, List.forall_mem_cons.mpr ⟨ux_X9_joined, List.forall_mem_cons.mpr ⟨ux_X9_choice, List.forall_mem_cons.mpr ⟨ux_X9_node, List.forall_mem_cons.mpr ⟨ux_X10_feed, List.forall_mem_cons.mpr ⟨ux_X10_end, List.forall_mem_cons.mpr ⟨ux_X10_cut, List.forall_mem_cons.mpr ⟨ux_X10_clear, List.forall_mem_cons.mpr ⟨ux_X10_build, List.forall_mem_cons.mpr ⟨ux_X10_place, List.forall_mem_cons.mpr ⟨ux_X10_row, List.forall_mem_cons.mpr ⟨ux_X10_shared, List.forall_mem_cons.mpr ⟨ux_X10_before, List.forall_mem_cons.mpr ⟨ux_X10_step, List.forall_mem_cons.mpr ⟨ux_X10_rank, List.forall_mem_cons.mpr ⟨ux_X10_select, List.forall_mem_cons.mpr ⟨ux_X10_byteAt, List.forall_mem_cons.mpr ⟨ux_X10_document, List.forall_mem_cons.mpr ⟨ux_X10_alike, List.forall_mem_cons.mpr ⟨ux_X10_begin, List.forall_mem_cons.mpr ⟨ux_X10_grow, List.forall_mem_cons.mpr ⟨ux_X10_front, List.forall_mem_cons.mpr ⟨ux_X10_back, List.forall_mem_cons.mpr ⟨ux_X10_pattern, List.forall_mem_cons.mpr ⟨ux_X10_patternByte, List.forall_mem_cons.mpr ⟨ux_X10_at, List.forall_mem_cons.mpr ⟨ux_X10_sorted, List.forall_mem_cons.mpr ⟨ux_X10_more, List.forall_mem_cons.mpr ⟨ux_X10_ranked, List.forall_mem_cons.mpr ⟨ux_X10_times, List.forall_mem_cons.mpr ⟨ux_X10_take, List.forall_mem_cons.mpr ⟨ux_X10_near, List.forall_mem_cons.mpr ⟨ux_X10_nearOf, List.forall_mem_cons.mpr ⟨ux_X10_ask, List.forall_mem_cons.mpr ⟨ux_X10_answer, List.forall_mem_cons.mpr ⟨ux_X10_answered, List.forall_mem_cons.mpr ⟨ux_X10_different, List.forall_mem_cons.mpr ⟨ux_X10_kth, List.forall_mem_cons.mpr ⟨ux_X10_order, List.forall_mem_cons.mpr ⟨ux_X10_repeated, List.forall_mem_cons.mpr ⟨ux_X10_common, List.forall_mem_cons.mpr ⟨ux_X10_oftenest, List.forall_mem_cons.mpr ⟨ux_X10_unique, List.forall_mem_cons.mpr ⟨ux_X10_maximal, List.forall_mem_cons.mpr ⟨ux_X10_absent, List.forall_mem_cons.mpr ⟨ux_X10_factor, List.forall_mem_cons.mpr ⟨ux_X10_word, List.forall_mem_cons.mpr ⟨ux_X10_square, List.forall_mem_cons.mpr ⟨ux_X10_mirror, List.forall_mem_cons.mpr ⟨ux_X10_match, List.forall_mem_cons.mpr ⟨ux_X10_count, List.forall_mem_cons.mpr ⟨ux_X10_unwound, List.forall_mem_cons.mpr ⟨ux_X10_countOfIndex, List.forall_mem_cons.mpr ⟨ux_X10_isByte, List.forall_mem_cons.mpr ⟨ux_X11_feed, List.forall_mem_cons.mpr ⟨ux_X11_end, List.forall_mem_cons.mpr ⟨ux_X11_cut, List.forall_mem_cons.mpr ⟨ux_X11_clear, List.forall_mem_cons.mpr ⟨ux_X11_keyAt, List.forall_mem_cons.mpr ⟨ux_X11_sortBy, List.forall_mem_cons.mpr ⟨ux_X11_sortAll, List.forall_mem_cons.mpr ⟨ux_X11_findShares, List.forall_mem_cons.mpr ⟨ux_X11_build, List.forall_mem_cons.mpr ⟨ux_X11_isRow, List.forall_mem_cons.mpr ⟨ux_X11_isDocument, List.forall_mem_cons.mpr ⟨ux_X11_isByte, List.forall_mem_cons.mpr ⟨ux_X11_left, List.forall_mem_cons.mpr ⟨ux_X11_stepsOf, List.forall_mem_cons.mpr ⟨ux_X11_place, List.forall_mem_cons.mpr ⟨ux_X11_row, List.forall_mem_cons.mpr ⟨ux_X11_shared, List.forall_mem_cons.mpr ⟨ux_X11_beforeOf, List.forall_mem_cons.mpr ⟨ux_X11_before, List.forall_mem_cons.mpr ⟨ux_X11_step, List.forall_mem_cons.mpr ⟨ux_X11_rank, List.forall_mem_cons.mpr ⟨ux_X11_select, List.forall_mem_cons.mpr ⟨ux_X11_byteAt, List.forall_mem_cons.mpr ⟨ux_X11_document, List.forall_mem_cons.mpr ⟨ux_X11_alikeOf, List.forall_mem_cons.mpr ⟨ux_X11_alike, List.forall_mem_cons.mpr ⟨ux_X11_toEmpty, List.forall_mem_cons.mpr ⟨ux_X11_begin, List.forall_mem_cons.mpr ⟨ux_X11_findRows, List.forall_mem_cons.mpr ⟨ux_X11_become, List.forall_mem_cons.mpr ⟨ux_X11_grow, List.forall_mem_cons.mpr ⟨ux_X11_front, List.forall_mem_cons.mpr ⟨ux_X11_back, List.forall_mem_cons.mpr ⟨ux_X11_pattern, List.forall_mem_cons.mpr ⟨ux_X11_patternByte, List.forall_mem_cons.mpr ⟨ux_X11_at, List.forall_mem_cons.mpr ⟨ux_X11_isAt, List.forall_mem_cons.mpr ⟨ux_X11_sorted, List.forall_mem_cons.mpr ⟨ux_X11_more, List.forall_mem_cons.mpr ⟨ux_X11_timesOf, List.forall_mem_cons.mpr ⟨ux_X11_ranked, List.forall_mem_cons.mpr ⟨ux_X11_times, List.forall_mem_cons.mpr ⟨ux_X11_take, List.forall_mem_cons.mpr ⟨ux_X11_near, List.forall_mem_cons.mpr ⟨ux_X11_nearOf, List.forall_mem_cons.mpr ⟨ux_X11_ask, List.forall_mem_cons.mpr ⟨ux_X11_sign, List.forall_mem_cons.mpr ⟨ux_X11_fail, List.forall_mem_cons.mpr ⟨ux_X11_isFigure, List.forall_mem_cons.mpr ⟨ux_X11_number, List.forall_mem_cons.mpr ⟨ux_X11_braces, List.forall_mem_cons.mpr ⟨ux_X11_rangeByte, List.forall_mem_cons.mpr ⟨ux_X11_ranges, List.forall_mem_cons.mpr ⟨ux_X11_openOne, List.forall_mem_cons.mpr ⟨ux_X11_addMade, List.forall_mem_cons.mpr ⟨ux_X11_endRow, List.forall_mem_cons.mpr ⟨ux_X11_begunAtom, List.forall_mem_cons.mpr ⟨ux_X11_endItem, List.forall_mem_cons.mpr ⟨ux_X11_again, List.forall_mem_cons.mpr ⟨ux_X11_repeat, List.forall_mem_cons.mpr ⟨ux_X11_goOver, List.forall_mem_cons.mpr ⟨ux_X11_quantify, List.forall_mem_cons.mpr ⟨ux_X11_atom, List.forall_mem_cons.mpr ⟨ux_X11_follow, List.forall_mem_cons.mpr ⟨ux_X11_findPositions, List.forall_mem_cons.mpr ⟨ux_X11_fits, List.forall_mem_cons.mpr ⟨ux_X11_matchFrom, List.forall_mem_cons.mpr ⟨ux_X11_answer, List.forall_mem_cons.mpr ⟨ux_X11_answered, List.forall_mem_cons.mpr ⟨ux_X11_freshOf, List.forall_mem_cons.mpr ⟨ux_X11_different, List.forall_mem_cons.mpr ⟨ux_X11_kth, List.forall_mem_cons.mpr ⟨ux_X11_order, List.forall_mem_cons.mpr ⟨ux_X11_becomeBest, List.forall_mem_cons.mpr ⟨ux_X11_repeated, List.forall_mem_cons.mpr ⟨ux_X11_common, List.forall_mem_cons.mpr ⟨ux_X11_oftenest, List.forall_mem_cons.mpr ⟨ux_X11_unique, List.forall_mem_cons.mpr ⟨ux_X11_isOneBefore, List.forall_mem_cons.mpr ⟨ux_X11_maximal, List.forall_mem_cons.mpr ⟨ux_X11_absent, List.forall_mem_cons.mpr ⟨ux_X11_findFactors, List.forall_mem_cons.mpr ⟨ux_X11_factor, List.forall_mem_cons.mpr ⟨ux_X11_word, List.forall_mem_cons.mpr ⟨ux_X11_square, List.forall_mem_cons.mpr ⟨ux_X11_mirror, List.forall_mem_cons.mpr ⟨ux_X11_match, List.forall_mem_cons.mpr ⟨ux_X11_countRows, List.forall_mem_cons.mpr ⟨ux_X11_countBytes, List.forall_mem_cons.mpr ⟨ux_X11_count, List.forall_mem_cons.mpr ⟨ux_X11_unwound, List.forall_mem_cons.mpr ⟨ux_J7_rangeCheck_23922, List.forall_mem_cons.mpr ⟨ux_J7_fill_bad5a, List.forall_mem_cons.mpr ⟨ux_J7_fill_53178, List.forall_mem_cons.mpr ⟨ux_J7_fill_fda19, fun _ h => absurd h List.not_mem_nil⟩⟩⟩⟩⟩⟩⟩⟩⟩⟩⟩⟩⟩⟩⟩⟩⟩⟩⟩⟩⟩⟩⟩⟩⟩⟩⟩⟩⟩⟩⟩⟩⟩⟩⟩⟩⟩⟩⟩⟩⟩⟩⟩⟩⟩⟩⟩⟩⟩⟩⟩⟩⟩⟩⟩⟩⟩⟩⟩⟩⟩⟩⟩⟩⟩⟩⟩⟩⟩⟩⟩⟩⟩⟩⟩⟩⟩⟩⟩⟩⟩⟩⟩⟩⟩⟩⟩⟩⟩⟩⟩⟩⟩⟩⟩⟩⟩⟩⟩⟩⟩⟩⟩⟩⟩⟩⟩⟩⟩⟩⟩⟩⟩⟩⟩⟩⟩⟩⟩⟩⟩⟩⟩⟩⟩⟩⟩⟩⟩⟩⟩⟩⟩⟩⟩⟩⟩⟩⟩⟩⟩⟩⟩⟩⟩⟩⟩⟩⟩⟩⟩⟩⟩⟩⟩⟩⟩⟩⟩⟩⟩⟩⟩⟩⟩⟩⟩⟩⟩⟩⟩⟩⟩⟩⟩⟩⟩⟩⟩⟩⟩⟩⟩⟩⟩⟩⟩⟩⟩⟩⟩⟩⟩⟩⟩⟩⟩⟩⟩⟩⟩⟩⟩⟩⟩⟩⟩⟩⟩⟩⟩⟩⟩⟩⟩⟩⟩⟩⟩⟩⟩⟩⟩⟩⟩⟩⟩⟩⟩⟩⟩⟩⟩⟩⟩⟩⟩⟩⟩⟩⟩⟩⟩⟩⟩⟩⟩⟩⟩⟩⟩⟩⟩
theorem sound_all {l : Launch} {D : va_G} {sh : ab_Sh} {N : Nat} {ad : Nat → Nat} {dA : Nat → ClassId} (hinj : ∀ i j, i < N → j < N → ad i = ad j → i = j) (d k : Nat) (M : ab_M) (as : List Value) (S : ab_S) (Q : ab_Q) (hM : prg[k]? = some M) (h : ab_T sh N prg d k as S Q) : ab_met l D vwCl sh N ad dA uw d M as S Q :=
  ab_sound uw_good uy_all (fun k M h => uc_all M (List.mem_of_getElem? h)) (fun k M h => ux_all M (List.mem_of_getElem? h)) hinj d k M as S Q hM h
end
section
/-! THE CLAIM OUT OF ONE WALK OF THE LAW'S BODY. Your part is whole_start (and what it stands on); all else here is the same for every law, but numbers. -/
def R_law : String := "TextRowsLaw"
def lw_P (b : Addr) (xs : List Int32) (args : Array Value) (s : State) : Prop := args = #[.ref b] ∧ s.IntsAt b xs ∧ xs.length ≤ 384 ∧ (Jvm.Cond.and given_1 narrow_1).before args s = true
def lw_Q (_ : Array Value) (s : State) (o : Outcome) (t : State) : Prop := o = .returned (some (.int 1)) ∧ Framed s o t [] 600000 7302249
def lw_Z (below : List Frame) (a : Array Value) (s : State) : State → Prop := fun t => ∃ o, t.status = .running ∧ Ended t below o ∧ lw_Q a s o t
/-- the law's own end, with 1 on the stack, nothing written that was there before, its room as the claim has it -/
theorem lw_ret {p : Program} {l : Launch} {e : Env} {s : State} {m : MethodId} {below : List Frame} {meth : Method} {c : Code} {b : Nat} (hx : p.tables.exec = Jvm.exec) (hb : c.code = code) (hr : meth.sig.returnType = ret) (hlocks : meth.locks = false) {pc : Nat} {H : Heap} {ls : Array Slot} (hdg : decode code pc = .ok (.ireturn, 1)) : W p l e room_1 s m #[Value.ref b] below meth c H [] 600000 7302249 (lw_Z below #[Value.ref b] s) (F0 m pc ls [.int 1]) := by
  intro T hT X
  obtain ⟨fs, hret, hrun, hended, hW, hframe⟩ := X.leave (v := some (.int 1)) (hlocks := hlocks) (fun h => by rw [hr] at h; cases h)
  have hmeth' : T.vm.method? m = some meth := X.method'
  refine ⟨T.setFrames fs, ?_, .returned (some (.int 1)), hrun, hended, rfl, ⟨_, rfl⟩, hW, hframe⟩
  jvm_step X.here [X.here.top, hx, hb, hdg, hmeth', hr, ret, narrow_b1]
  (try refine ⟨rfl, ?_⟩); (try refine ⟨rfl, ?_⟩)
  first | (intro acts; rw [hret _ acts rfl rfl rfl]) | rw [hret _ _ rfl rfl rfl]
  exact Steps.refl _
/-- what holds at the law's entry: the machine, the code, the tables' words (any of lw_tbl by 'hts w (by decide +kernel)'), the script of L ints xs at the cell b, what the Statement gives of the start (any of its parts by flat_of_before) -/
def lw_At (p : Program) (s : State) (m : MethodId) (meth : Method) (c : Code) (b L : Nat) (xs : Nat → Int32) : Prop :=
  p.tables.exec = Jvm.exec ∧ c.code = code ∧ meth.sig.returnType = ret ∧ c.maxLocals = 4 ∧ s.vm.findClass R_law = some m.cls ∧ (∀ w ∈ lw_tbl, w.before #[Value.ref b] s = true) ∧ va_X b L xs s s.heap ∧ b < s.heap.size ∧ meth.locks = false ∧ (Jvm.Cond.and given_1 narrow_1).before #[Value.ref b] s = true
def kL : List ab_I := [(16, .iconst 0, 1, 0, 0), (17, .istore_n 3, 1, 0, 0), (18, .iload_n 3, 1, 0, 0), (19, .aload_n 0, 1, 0, 0), (20, .arraylength, 1, 0, 0), (21, .bipush 6, 2, 0, 0), (23, .isub, 1, 0, 0), (24, .if_icmp .gt 1452, 3, 1476, 0), (27, .aload_n 0, 1, 0, 0), (28, .iload_n 3, 1, 0, 0), (29, .iaload, 1, 0, 0), (30, .bipush 63, 2, 0, 0), (32, .iand, 1, 0, 0), (33, .tableswitch 1437 0 47 #[207, 270, 293, 306, 319, 342, 365, 388, 411, 434, 457, 490, 523, 546, 579, 612, 625, 648, 671, 684, 707, 730, 753, 776, 825, 848, 871, 904, 927, 960, 983, 996, 1029, 1052, 1075, 1088, 1111, 1134, 1157, 1180, 1203, 1226, 1269, 1302, 1325, 1348, 1381, 1404], 207, 0, 0), (240, .aload_n 1, 1, 0, 0), (241, .aload_n 0, 1, 0, 0), (242, .iload_n 3, 1, 0, 0), (243, .iconst 1, 1, 0, 0), (244, .iadd, 1, 0, 0), (245, .iaload, 1, 0, 0), (246, .aload_n 0, 1, 0, 0), (247, .iload_n 3, 1, 0, 0), (248, .iconst 2, 1, 0, 0), (249, .iadd, 1, 0, 0), (250, .iaload, 1, 0, 0), (251, .aload_n 0, 1, 0, 0), (252, .iload_n 3, 1, 0, 0), (253, .iconst 3, 1, 0, 0), (254, .iadd, 1, 0, 0), (255, .iaload, 1, 0, 0), (256, .aload_n 0, 1, 0, 0), (257, .iload_n 3, 1, 0, 0), (258, .iconst 4, 1, 0, 0), (259, .iadd, 1, 0, 0), (260, .iaload, 1, 0, 0), (261, .aload_n 0, 1, 0, 0), (262, .iload_n 3, 1, 0, 0), (263, .iconst 5, 1, 0, 0), (264, .iadd, 1, 0, 0), (265, .iaload, 1, 0, 0), (266, .invokevirtual 13, 3, 108, 5), (269, .aload_n 2, 1, 0, 0), (270, .aload_n 0, 1, 0, 0), (271, .iload_n 3, 1, 0, 0), (272, .iconst 1, 1, 0, 0), (273, .iadd, 1, 0, 0), (274, .iaload, 1, 0, 0), (275, .aload_n 0, 1, 0, 0), (276, .iload_n 3, 1, 0, 0), (277, .iconst 2, 1, 0, 0), (278, .iadd, 1, 0, 0), (279, .iaload, 1, 0, 0), (280, .aload_n 0, 1, 0, 0), (281, .iload_n 3, 1, 0, 0), (282, .iconst 3, 1, 0, 0), (283, .iadd, 1, 0, 0), (284, .iaload, 1, 0, 0), (285, .aload_n 0, 1, 0, 0), (286, .iload_n 3, 1, 0, 0), (287, .iconst 4, 1, 0, 0), (288, .iadd, 1, 0, 0), (289, .iaload, 1, 0, 0), (290, .aload_n 0, 1, 0, 0), (291, .iload_n 3, 1, 0, 0), (292, .iconst 5, 1, 0, 0), (293, .iadd, 1, 0, 0), (294, .iaload, 1, 0, 0), (295, .invokevirtual 17, 3, 158, 5), (298, .if_icmp .eq 1172, 3, 1470, 0), (301, .iconst 0, 1, 0, 0), (302, .ireturn, 1, 0, 0), (303, .aload_n 1, 1, 0, 0), (304, .aload_n 0, 1, 0, 0), (305, .iload_n 3, 1, 0, 0), (306, .iconst 1, 1, 0, 0), (307, .iadd, 1, 0, 0), (308, .iaload, 1, 0, 0), (309, .invokevirtual 18, 3, 109, 1), (312, .aload_n 2, 1, 0, 0), (313, .aload_n 0, 1, 0, 0), (314, .iload_n 3, 1, 0, 0), (315, .iconst 1, 1, 0, 0), (316, .iadd, 1, 0, 0), (317, .iaload, 1, 0, 0), (318, .invokevirtual 22, 3, 159, 1), (321, .if_icmp .eq 1149, 3, 1470, 0), (324, .iconst 0, 1, 0, 0), (325, .ireturn, 1, 0, 0), (326, .aload_n 1, 1, 0, 0), (327, .invokevirtual 23, 3, 110, 0), (330, .aload_n 2, 1, 0, 0), (331, .invokevirtual 27, 3, 160, 0), (334, .if_icmp .eq 1136, 3, 1470, 0), (337, .iconst 0, 1, 0, 0), (338, .ireturn, 1, 0, 0), (339, .aload_n 1, 1, 0, 0), (340, .invokevirtual 28, 3, 111, 0), (343, .aload_n 2, 1, 0, 0), (344, .invokevirtual 31, 3, 161, 0), (347, .if_icmp .eq 1123, 3, 1470, 0), (350, .iconst 0, 1, 0, 0), (351, .ireturn, 1, 0, 0), (352, .aload_n 1, 1, 0, 0), (353, .aload_n 0, 1, 0, 0), (354, .iload_n 3, 1, 0, 0), (355, .iconst 1, 1, 0, 0), (356, .iadd, 1, 0, 0), (357, .iaload, 1, 0, 0), (358, .invokevirtual 32, 3, 112, 1), (361, .aload_n 2, 1, 0, 0), (362, .aload_n 0, 1, 0, 0), (363, .iload_n 3, 1, 0, 0), (364, .iconst 1, 1, 0, 0), (365, .iadd, 1, 0, 0), (366, .iaload, 1, 0, 0), (367, .invokevirtual 35, 3, 166, 1), (370, .if_icmp .eq 1100, 3, 1470, 0), (373, .iconst 0, 1, 0, 0), (374, .ireturn, 1, 0, 0), (375, .aload_n 1, 1, 0, 0), (376, .aload_n 0, 1, 0, 0), (377, .iload_n 3, 1, 0, 0), (378, .iconst 1, 1, 0, 0), (379, .iadd, 1, 0, 0), (380, .iaload, 1, 0, 0), (381, .invokevirtual 36, 3, 113, 1), (384, .aload_n 2, 1, 0, 0), (385, .aload_n 0, 1, 0, 0), (386, .iload_n 3, 1, 0, 0), (387, .iconst 1, 1, 0, 0), (388, .iadd, 1, 0, 0), (389, .iaload, 1, 0, 0), (390, .invokevirtual 39, 3, 172, 1), (393, .if_icmp .eq 1077, 3, 1470, 0), (396, .iconst 0, 1, 0, 0), (397, .ireturn, 1, 0, 0), (398, .aload_n 1, 1, 0, 0), (399, .aload_n 0, 1, 0, 0), (400, .iload_n 3, 1, 0, 0), (401, .iconst 1, 1, 0, 0), (402, .iadd, 1, 0, 0), (403, .iaload, 1, 0, 0), (404, .invokevirtual 40, 3, 114, 1), (407, .aload_n 2, 1, 0, 0), (408, .aload_n 0, 1, 0, 0), (409, .iload_n 3, 1, 0, 0), (410, .iconst 1, 1, 0, 0), (411, .iadd, 1, 0, 0), (412, .iaload, 1, 0, 0), (413, .invokevirtual 43, 3, 173, 1), (416, .if_icmp .eq 1054, 3, 1470, 0), (419, .iconst 0, 1, 0, 0), (420, .ireturn, 1, 0, 0), (421, .aload_n 1, 1, 0, 0), (422, .aload_n 0, 1, 0, 0), (423, .iload_n 3, 1, 0, 0), (424, .iconst 1, 1, 0, 0), (425, .iadd, 1, 0, 0), (426, .iaload, 1, 0, 0), (427, .invokevirtual 44, 3, 115, 1), (430, .aload_n 2, 1, 0, 0), (431, .aload_n 0, 1, 0, 0), (432, .iload_n 3, 1, 0, 0), (433, .iconst 1, 1, 0, 0), (434, .iadd, 1, 0, 0), (435, .iaload, 1, 0, 0), (436, .invokevirtual 47, 3, 174, 1), (439, .if_icmp .eq 1031, 3, 1470, 0), (442, .iconst 0, 1, 0, 0), (443, .ireturn, 1, 0, 0), (444, .aload_n 1, 1, 0, 0), (445, .aload_n 0, 1, 0, 0), (446, .iload_n 3, 1, 0, 0), (447, .iconst 1, 1, 0, 0), (448, .iadd, 1, 0, 0), (449, .iaload, 1, 0, 0), (450, .invokevirtual 48, 3, 116, 1), (453, .aload_n 2, 1, 0, 0), (454, .aload_n 0, 1, 0, 0), (455, .iload_n 3, 1, 0, 0), (456, .iconst 1, 1, 0, 0), (457, .iadd, 1, 0, 0), (458, .iaload, 1, 0, 0), (459, .invokevirtual 51, 3, 176, 1), (462, .if_icmp .eq 1008, 3, 1470, 0), (465, .iconst 0, 1, 0, 0), (466, .ireturn, 1, 0, 0), (467, .aload_n 1, 1, 0, 0), (468, .aload_n 0, 1, 0, 0), (469, .iload_n 3, 1, 0, 0), (470, .iconst 1, 1, 0, 0), (471, .iadd, 1, 0, 0), (472, .iaload, 1, 0, 0), (473, .invokevirtual 52, 3, 117, 1), (476, .aload_n 2, 1, 0, 0), (477, .aload_n 0, 1, 0, 0), (478, .iload_n 3, 1, 0, 0), (479, .iconst 1, 1, 0, 0), (480, .iadd, 1, 0, 0), (481, .iaload, 1, 0, 0), (482, .invokevirtual 55, 3, 177, 1), (485, .if_icmp .eq 985, 3, 1470, 0), (488, .iconst 0, 1, 0, 0), (489, .ireturn, 1, 0, 0), (490, .aload_n 1, 1, 0, 0), (491, .aload_n 0, 1, 0, 0), (492, .iload_n 3, 1, 0, 0), (493, .iconst 1, 1, 0, 0), (494, .iadd, 1, 0, 0), (495, .iaload, 1, 0, 0), (496, .aload_n 0, 1, 0, 0), (497, .iload_n 3, 1, 0, 0), (498, .iconst 2, 1, 0, 0), (499, .iadd, 1, 0, 0), (500, .iaload, 1, 0, 0), (501, .invokevirtual 56, 3, 118, 2), (504, .aload_n 2, 1, 0, 0), (505, .aload_n 0, 1, 0, 0), (506, .iload_n 3, 1, 0, 0), (507, .iconst 1, 1, 0, 0), (508, .iadd, 1, 0, 0), (509, .iaload, 1, 0, 0), (510, .aload_n 0, 1, 0, 0), (511, .iload_n 3, 1, 0, 0), (512, .iconst 2, 1, 0, 0), (513, .iadd, 1, 0, 0), (514, .iaload, 1, 0, 0), (515, .invokevirtual 60, 3, 178, 2), (518, .if_icmp .eq 952, 3, 1470, 0), (521, .iconst 0, 1, 0, 0), (522, .ireturn, 1, 0, 0), (523, .aload_n 1, 1, 0, 0), (524, .aload_n 0, 1, 0, 0), (525, .iload_n 3, 1, 0, 0), (526, .iconst 1, 1, 0, 0), (527, .iadd, 1, 0, 0), (528, .iaload, 1, 0, 0), (529, .aload_n 0, 1, 0, 0), (530, .iload_n 3, 1, 0, 0), (531, .iconst 2, 1, 0, 0), (532, .iadd, 1, 0, 0), (533, .iaload, 1, 0, 0), (534, .invokevirtual 61, 3, 119, 2), (537, .aload_n 2, 1, 0, 0), (538, .aload_n 0, 1, 0, 0), (539, .iload_n 3, 1, 0, 0), (540, .iconst 1, 1, 0, 0), (541, .iadd, 1, 0, 0), (542, .iaload, 1, 0, 0), (543, .aload_n 0, 1, 0, 0), (544, .iload_n 3, 1, 0, 0), (545, .iconst 2, 1, 0, 0), (546, .iadd, 1, 0, 0), (547, .iaload, 1, 0, 0), (548, .invokevirtual 64, 3, 179, 2), (551, .if_icmp .eq 919, 3, 1470, 0), (554, .iconst 0, 1, 0, 0), (555, .ireturn, 1, 0, 0), (556, .aload_n 1, 1, 0, 0), (557, .aload_n 0, 1, 0, 0), (558, .iload_n 3, 1, 0, 0), (559, .iconst 1, 1, 0, 0), (560, .iadd, 1, 0, 0), (561, .iaload, 1, 0, 0), (562, .invokevirtual 65, 3, 120, 1), (565, .aload_n 2, 1, 0, 0), (566, .aload_n 0, 1, 0, 0), (567, .iload_n 3, 1, 0, 0), (568, .iconst 1, 1, 0, 0), (569, .iadd, 1, 0, 0), (570, .iaload, 1, 0, 0), (571, .invokevirtual 68, 3, 180, 1), (574, .if_icmp .eq 896, 3, 1470, 0), (577, .iconst 0, 1, 0, 0), (578, .ireturn, 1, 0, 0), (579, .aload_n 1, 1, 0, 0), (580, .aload_n 0, 1, 0, 0), (581, .iload_n 3, 1, 0, 0), (582, .iconst 1, 1, 0, 0), (583, .iadd, 1, 0, 0), (584, .iaload, 1, 0, 0), (585, .aload_n 0, 1, 0, 0), (586, .iload_n 3, 1, 0, 0), (587, .iconst 2, 1, 0, 0), (588, .iadd, 1, 0, 0), (589, .iaload, 1, 0, 0), (590, .invokevirtual 69, 3, 121, 2), (593, .aload_n 2, 1, 0, 0), (594, .aload_n 0, 1, 0, 0), (595, .iload_n 3, 1, 0, 0), (596, .iconst 1, 1, 0, 0), (597, .iadd, 1, 0, 0), (598, .iaload, 1, 0, 0), (599, .aload_n 0, 1, 0, 0), (600, .iload_n 3, 1, 0, 0), (601, .iconst 2, 1, 0, 0), (602, .iadd, 1, 0, 0), (603, .iaload, 1, 0, 0), (604, .invokevirtual 72, 3, 181, 2), (607, .if_icmp .eq 863, 3, 1470, 0), (610, .iconst 0, 1, 0, 0), (611, .ireturn, 1, 0, 0), (612, .aload_n 1, 1, 0, 0), (613, .aload_n 0, 1, 0, 0), (614, .iload_n 3, 1, 0, 0), (615, .iconst 1, 1, 0, 0), (616, .iadd, 1, 0, 0), (617, .iaload, 1, 0, 0), (618, .aload_n 0, 1, 0, 0), (619, .iload_n 3, 1, 0, 0), (620, .iconst 2, 1, 0, 0), (621, .iadd, 1, 0, 0), (622, .iaload, 1, 0, 0), (623, .invokevirtual 73, 3, 122, 2), (626, .aload_n 2, 1, 0, 0), (627, .aload_n 0, 1, 0, 0), (628, .iload_n 3, 1, 0, 0), (629, .iconst 1, 1, 0, 0), (630, .iadd, 1, 0, 0), (631, .iaload, 1, 0, 0), (632, .aload_n 0, 1, 0, 0), (633, .iload_n 3, 1, 0, 0), (634, .iconst 2, 1, 0, 0), (635, .iadd, 1, 0, 0), (636, .iaload, 1, 0, 0), (637, .invokevirtual 76, 3, 183, 2), (640, .if_icmp .eq 830, 3, 1470, 0), (643, .iconst 0, 1, 0, 0), (644, .ireturn, 1, 0, 0), (645, .aload_n 1, 1, 0, 0), (646, .invokevirtual 77, 3, 123, 0), (649, .aload_n 2, 1, 0, 0), (650, .invokevirtual 80, 3, 185, 0), (653, .if_icmp .eq 817, 3, 1470, 0), (656, .iconst 0, 1, 0, 0), (657, .ireturn, 1, 0, 0), (658, .aload_n 1, 1, 0, 0), (659, .aload_n 0, 1, 0, 0), (660, .iload_n 3, 1, 0, 0), (661, .iconst 1, 1, 0, 0), (662, .iadd, 1, 0, 0), (663, .iaload, 1, 0, 0), (664, .invokevirtual 81, 3, 124, 1), (667, .aload_n 2, 1, 0, 0), (668, .aload_n 0, 1, 0, 0), (669, .iload_n 3, 1, 0, 0), (670, .iconst 1, 1, 0, 0), (671, .iadd, 1, 0, 0), (672, .iaload, 1, 0, 0), (673, .invokevirtual 84, 3, 188, 1), (676, .if_icmp .eq 794, 3, 1470, 0), (679, .iconst 0, 1, 0, 0), (680, .ireturn, 1, 0, 0), (681, .aload_n 1, 1, 0, 0), (682, .aload_n 0, 1, 0, 0), (683, .iload_n 3, 1, 0, 0), (684, .iconst 1, 1, 0, 0), (685, .iadd, 1, 0, 0), (686, .iaload, 1, 0, 0), (687, .invokevirtual 85, 3, 125, 1), (690, .aload_n 2, 1, 0, 0), (691, .aload_n 0, 1, 0, 0), (692, .iload_n 3, 1, 0, 0), (693, .iconst 1, 1, 0, 0), (694, .iadd, 1, 0, 0), (695, .iaload, 1, 0, 0), (696, .invokevirtual 88, 3, 189, 1), (699, .if_icmp .eq 771, 3, 1470, 0), (702, .iconst 0, 1, 0, 0), (703, .ireturn, 1, 0, 0), (704, .aload_n 1, 1, 0, 0), (705, .invokevirtual 89, 3, 126, 0), (708, .aload_n 2, 1, 0, 0), (709, .invokevirtual 92, 3, 190, 0), (712, .if_icmp .eq 758, 3, 1470, 0), (715, .iconst 0, 1, 0, 0), (716, .ireturn, 1, 0, 0), (717, .aload_n 1, 1, 0, 0), (718, .aload_n 0, 1, 0, 0), (719, .iload_n 3, 1, 0, 0), (720, .iconst 1, 1, 0, 0), (721, .iadd, 1, 0, 0), (722, .iaload, 1, 0, 0), (723, .invokevirtual 93, 3, 127, 1), (726, .aload_n 2, 1, 0, 0), (727, .aload_n 0, 1, 0, 0), (728, .iload_n 3, 1, 0, 0), (729, .iconst 1, 1, 0, 0), (730, .iadd, 1, 0, 0), (731, .iaload, 1, 0, 0), (732, .invokevirtual 96, 3, 191, 1), (735, .if_icmp .eq 735, 3, 1470, 0), (738, .iconst 0, 1, 0, 0), (739, .ireturn, 1, 0, 0), (740, .aload_n 1, 1, 0, 0), (741, .aload_n 0, 1, 0, 0), (742, .iload_n 3, 1, 0, 0), (743, .iconst 1, 1, 0, 0), (744, .iadd, 1, 0, 0), (745, .iaload, 1, 0, 0), (746, .invokevirtual 97, 3, 128, 1), (749, .aload_n 2, 1, 0, 0), (750, .aload_n 0, 1, 0, 0), (751, .iload_n 3, 1, 0, 0), (752, .iconst 1, 1, 0, 0), (753, .iadd, 1, 0, 0), (754, .iaload, 1, 0, 0), (755, .invokevirtual 100, 3, 192, 1), (758, .if_icmp .eq 712, 3, 1470, 0), (761, .iconst 0, 1, 0, 0), (762, .ireturn, 1, 0, 0), (763, .aload_n 1, 1, 0, 0), (764, .aload_n 0, 1, 0, 0), (765, .iload_n 3, 1, 0, 0), (766, .iconst 1, 1, 0, 0), (767, .iadd, 1, 0, 0), (768, .iaload, 1, 0, 0), (769, .invokevirtual 101, 3, 129, 1), (772, .aload_n 2, 1, 0, 0), (773, .aload_n 0, 1, 0, 0), (774, .iload_n 3, 1, 0, 0), (775, .iconst 1, 1, 0, 0), (776, .iadd, 1, 0, 0), (777, .iaload, 1, 0, 0), (778, .invokevirtual 104, 3, 193, 1), (781, .if_icmp .eq 689, 3, 1470, 0), (784, .iconst 0, 1, 0, 0), (785, .ireturn, 1, 0, 0), (786, .aload_n 1, 1, 0, 0), (787, .aload_n 0, 1, 0, 0), (788, .iload_n 3, 1, 0, 0), (789, .iconst 1, 1, 0, 0), (790, .iadd, 1, 0, 0), (791, .iaload, 1, 0, 0), (792, .invokevirtual 105, 3, 130, 1), (795, .aload_n 2, 1, 0, 0), (796, .aload_n 0, 1, 0, 0), (797, .iload_n 3, 1, 0, 0), (798, .iconst 1, 1, 0, 0), (799, .iadd, 1, 0, 0), (800, .iaload, 1, 0, 0), (801, .invokevirtual 108, 3, 195, 1), (804, .if_icmp .eq 666, 3, 1470, 0), (807, .iconst 0, 1, 0, 0), (808, .ireturn, 1, 0, 0), (809, .aload_n 1, 1, 0, 0), (810, .aload_n 0, 1, 0, 0), (811, .iload_n 3, 1, 0, 0), (812, .iconst 1, 1, 0, 0), (813, .iadd, 1, 0, 0), (814, .iaload, 1, 0, 0), (815, .ifCond .eq 7, 3, 822, 0), (818, .iconst 1, 1, 0, 0), (819, .goto 4, 3, 823, 0), (822, .iconst 0, 1, 0, 0), (823, .aload_n 0, 1, 0, 0), (824, .iload_n 3, 1, 0, 0), (825, .iconst 2, 1, 0, 0), (826, .iadd, 1, 0, 0), (827, .iaload, 1, 0, 0), (828, .invokevirtual 109, 3, 131, 2), (831, .aload_n 2, 1, 0, 0), (832, .aload_n 0, 1, 0, 0), (833, .iload_n 3, 1, 0, 0), (834, .iconst 1, 1, 0, 0), (835, .iadd, 1, 0, 0), (836, .iaload, 1, 0, 0), (837, .ifCond .eq 7, 3, 844, 0), (840, .iconst 1, 1, 0, 0), (841, .goto 4, 3, 845, 0), (844, .iconst 0, 1, 0, 0), (845, .aload_n 0, 1, 0, 0), (846, .iload_n 3, 1, 0, 0), (847, .iconst 2, 1, 0, 0), (848, .iadd, 1, 0, 0), (849, .iaload, 1, 0, 0), (850, .invokevirtual 113, 3, 196, 2), (853, .if_icmp .eq 617, 3, 1470, 0), (856, .iconst 0, 1, 0, 0), (857, .ireturn, 1, 0, 0), (858, .aload_n 1, 1, 0, 0), (859, .aload_n 0, 1, 0, 0), (860, .iload_n 3, 1, 0, 0), (861, .iconst 1, 1, 0, 0), (862, .iadd, 1, 0, 0), (863, .iaload, 1, 0, 0), (864, .invokevirtual 114, 3, 132, 1), (867, .aload_n 2, 1, 0, 0), (868, .aload_n 0, 1, 0, 0), (869, .iload_n 3, 1, 0, 0), (870, .iconst 1, 1, 0, 0), (871, .iadd, 1, 0, 0), (872, .iaload, 1, 0, 0), (873, .invokevirtual 117, 3, 198, 1), (876, .if_icmp .eq 594, 3, 1470, 0), (879, .iconst 0, 1, 0, 0), (880, .ireturn, 1, 0, 0), (881, .aload_n 1, 1, 0, 0), (882, .aload_n 0, 1, 0, 0), (883, .iload_n 3, 1, 0, 0), (884, .iconst 1, 1, 0, 0), (885, .iadd, 1, 0, 0), (886, .iaload, 1, 0, 0), (887, .invokevirtual 118, 3, 133, 1), (890, .aload_n 2, 1, 0, 0), (891, .aload_n 0, 1, 0, 0), (892, .iload_n 3, 1, 0, 0), (893, .iconst 1, 1, 0, 0), (894, .iadd, 1, 0, 0), (895, .iaload, 1, 0, 0), (896, .invokevirtual 121, 3, 199, 1), (899, .if_icmp .eq 571, 3, 1470, 0), (902, .iconst 0, 1, 0, 0), (903, .ireturn, 1, 0, 0), (904, .aload_n 1, 1, 0, 0), (905, .aload_n 0, 1, 0, 0), (906, .iload_n 3, 1, 0, 0), (907, .iconst 1, 1, 0, 0), (908, .iadd, 1, 0, 0), (909, .iaload, 1, 0, 0), (910, .aload_n 0, 1, 0, 0), (911, .iload_n 3, 1, 0, 0), (912, .iconst 2, 1, 0, 0), (913, .iadd, 1, 0, 0), (914, .iaload, 1, 0, 0), (915, .invokevirtual 122, 3, 134, 2), (918, .aload_n 2, 1, 0, 0), (919, .aload_n 0, 1, 0, 0), (920, .iload_n 3, 1, 0, 0), (921, .iconst 1, 1, 0, 0), (922, .iadd, 1, 0, 0), (923, .iaload, 1, 0, 0), (924, .aload_n 0, 1, 0, 0), (925, .iload_n 3, 1, 0, 0), (926, .iconst 2, 1, 0, 0), (927, .iadd, 1, 0, 0), (928, .iaload, 1, 0, 0), (929, .invokevirtual 125, 3, 200, 2), (932, .if_icmp .eq 538, 3, 1470, 0), (935, .iconst 0, 1, 0, 0), (936, .ireturn, 1, 0, 0), (937, .aload_n 1, 1, 0, 0), (938, .aload_n 0, 1, 0, 0), (939, .iload_n 3, 1, 0, 0), (940, .iconst 1, 1, 0, 0), (941, .iadd, 1, 0, 0), (942, .iaload, 1, 0, 0), (943, .invokevirtual 126, 3, 135, 1), (946, .aload_n 2, 1, 0, 0), (947, .aload_n 0, 1, 0, 0), (948, .iload_n 3, 1, 0, 0), (949, .iconst 1, 1, 0, 0), (950, .iadd, 1, 0, 0), (951, .iaload, 1, 0, 0), (952, .invokevirtual 129, 3, 201, 1), (955, .if_icmp .eq 515, 3, 1470, 0), (958, .iconst 0, 1, 0, 0), (959, .ireturn, 1, 0, 0), (960, .aload_n 1, 1, 0, 0), (961, .aload_n 0, 1, 0, 0), (962, .iload_n 3, 1, 0, 0), (963, .iconst 1, 1, 0, 0), (964, .iadd, 1, 0, 0), (965, .iaload, 1, 0, 0), (966, .aload_n 0, 1, 0, 0), (967, .iload_n 3, 1, 0, 0), (968, .iconst 2, 1, 0, 0), (969, .iadd, 1, 0, 0), (970, .iaload, 1, 0, 0), (971, .invokevirtual 130, 3, 136, 2), (974, .aload_n 2, 1, 0, 0), (975, .aload_n 0, 1, 0, 0), (976, .iload_n 3, 1, 0, 0), (977, .iconst 1, 1, 0, 0), (978, .iadd, 1, 0, 0), (979, .iaload, 1, 0, 0), (980, .aload_n 0, 1, 0, 0), (981, .iload_n 3, 1, 0, 0), (982, .iconst 2, 1, 0, 0), (983, .iadd, 1, 0, 0), (984, .iaload, 1, 0, 0), (985, .invokevirtual 133, 3, 202, 2), (988, .if_icmp .eq 482, 3, 1470, 0), (991, .iconst 0, 1, 0, 0), (992, .ireturn, 1, 0, 0), (993, .aload_n 1, 1, 0, 0), (994, .aload_n 0, 1, 0, 0), (995, .iload_n 3, 1, 0, 0), (996, .iconst 1, 1, 0, 0), (997, .iadd, 1, 0, 0), (998, .iaload, 1, 0, 0), (999, .invokevirtual 134, 3, 137, 1), (1002, .aload_n 2, 1, 0, 0), (1003, .aload_n 0, 1, 0, 0), (1004, .iload_n 3, 1, 0, 0), (1005, .iconst 1, 1, 0, 0), (1006, .iadd, 1, 0, 0), (1007, .iaload, 1, 0, 0), (1008, .invokevirtual 137, 3, 203, 1), (1011, .if_icmp .eq 459, 3, 1470, 0), (1014, .iconst 0, 1, 0, 0), (1015, .ireturn, 1, 0, 0), (1016, .aload_n 1, 1, 0, 0), (1017, .invokevirtual 138, 3, 138, 0), (1020, .aload_n 2, 1, 0, 0), (1021, .invokevirtual 141, 3, 225, 0), (1024, .if_icmp .eq 446, 3, 1470, 0), (1027, .iconst 0, 1, 0, 0), (1028, .ireturn, 1, 0, 0), (1029, .aload_n 1, 1, 0, 0), (1030, .aload_n 0, 1, 0, 0), (1031, .iload_n 3, 1, 0, 0), (1032, .iconst 1, 1, 0, 0), (1033, .iadd, 1, 0, 0), (1034, .iaload, 1, 0, 0), (1035, .aload_n 0, 1, 0, 0), (1036, .iload_n 3, 1, 0, 0), (1037, .iconst 2, 1, 0, 0), (1038, .iadd, 1, 0, 0), (1039, .iaload, 1, 0, 0), (1040, .invokevirtual 142, 3, 139, 2), (1043, .aload_n 2, 1, 0, 0), (1044, .aload_n 0, 1, 0, 0), (1045, .iload_n 3, 1, 0, 0), (1046, .iconst 1, 1, 0, 0), (1047, .iadd, 1, 0, 0), (1048, .iaload, 1, 0, 0), (1049, .aload_n 0, 1, 0, 0), (1050, .iload_n 3, 1, 0, 0), (1051, .iconst 2, 1, 0, 0), (1052, .iadd, 1, 0, 0), (1053, .iaload, 1, 0, 0), (1054, .invokevirtual 145, 3, 226, 2), (1057, .if_icmp .eq 413, 3, 1470, 0), (1060, .iconst 0, 1, 0, 0), (1061, .ireturn, 1, 0, 0), (1062, .aload_n 1, 1, 0, 0), (1063, .aload_n 0, 1, 0, 0), (1064, .iload_n 3, 1, 0, 0), (1065, .iconst 1, 1, 0, 0), (1066, .iadd, 1, 0, 0), (1067, .iaload, 1, 0, 0), (1068, .invokevirtual 146, 3, 140, 1), (1071, .aload_n 2, 1, 0, 0), (1072, .aload_n 0, 1, 0, 0), (1073, .iload_n 3, 1, 0, 0), (1074, .iconst 1, 1, 0, 0), (1075, .iadd, 1, 0, 0), (1076, .iaload, 1, 0, 0), (1077, .invokevirtual 149, 3, 228, 1), (1080, .if_icmp .eq 390, 3, 1470, 0), (1083, .iconst 0, 1, 0, 0), (1084, .ireturn, 1, 0, 0), (1085, .aload_n 1, 1, 0, 0), (1086, .aload_n 0, 1, 0, 0), (1087, .iload_n 3, 1, 0, 0), (1088, .iconst 1, 1, 0, 0), (1089, .iadd, 1, 0, 0), (1090, .iaload, 1, 0, 0), (1091, .invokevirtual 150, 3, 141, 1), (1094, .aload_n 2, 1, 0, 0), (1095, .aload_n 0, 1, 0, 0), (1096, .iload_n 3, 1, 0, 0), (1097, .iconst 1, 1, 0, 0), (1098, .iadd, 1, 0, 0), (1099, .iaload, 1, 0, 0), (1100, .invokevirtual 153, 3, 229, 1), (1103, .if_icmp .eq 367, 3, 1470, 0), (1106, .iconst 0, 1, 0, 0), (1107, .ireturn, 1, 0, 0), (1108, .aload_n 1, 1, 0, 0), (1109, .invokevirtual 154, 3, 142, 0), (1112, .aload_n 2, 1, 0, 0), (1113, .invokevirtual 157, 3, 230, 0), (1116, .if_icmp .eq 354, 3, 1470, 0), (1119, .iconst 0, 1, 0, 0), (1120, .ireturn, 1, 0, 0), (1121, .aload_n 1, 1, 0, 0), (1122, .aload_n 0, 1, 0, 0), (1123, .iload_n 3, 1, 0, 0), (1124, .iconst 1, 1, 0, 0), (1125, .iadd, 1, 0, 0), (1126, .iaload, 1, 0, 0), (1127, .invokevirtual 158, 3, 143, 1), (1130, .aload_n 2, 1, 0, 0), (1131, .aload_n 0, 1, 0, 0), (1132, .iload_n 3, 1, 0, 0), (1133, .iconst 1, 1, 0, 0), (1134, .iadd, 1, 0, 0), (1135, .iaload, 1, 0, 0), (1136, .invokevirtual 161, 3, 232, 1), (1139, .if_icmp .eq 331, 3, 1470, 0), (1142, .iconst 0, 1, 0, 0), (1143, .ireturn, 1, 0, 0), (1144, .aload_n 1, 1, 0, 0), (1145, .aload_n 0, 1, 0, 0), (1146, .iload_n 3, 1, 0, 0), (1147, .iconst 1, 1, 0, 0), (1148, .iadd, 1, 0, 0), (1149, .iaload, 1, 0, 0), (1150, .invokevirtual 162, 3, 144, 1), (1153, .aload_n 2, 1, 0, 0), (1154, .aload_n 0, 1, 0, 0), (1155, .iload_n 3, 1, 0, 0), (1156, .iconst 1, 1, 0, 0), (1157, .iadd, 1, 0, 0), (1158, .iaload, 1, 0, 0), (1159, .invokevirtual 165, 3, 233, 1), (1162, .if_icmp .eq 308, 3, 1470, 0), (1165, .iconst 0, 1, 0, 0), (1166, .ireturn, 1, 0, 0), (1167, .aload_n 1, 1, 0, 0), (1168, .aload_n 0, 1, 0, 0), (1169, .iload_n 3, 1, 0, 0), (1170, .iconst 1, 1, 0, 0), (1171, .iadd, 1, 0, 0), (1172, .iaload, 1, 0, 0), (1173, .invokevirtual 166, 3, 145, 1), (1176, .aload_n 2, 1, 0, 0), (1177, .aload_n 0, 1, 0, 0), (1178, .iload_n 3, 1, 0, 0), (1179, .iconst 1, 1, 0, 0), (1180, .iadd, 1, 0, 0), (1181, .iaload, 1, 0, 0), (1182, .invokevirtual 169, 3, 234, 1), (1185, .if_icmp .eq 285, 3, 1470, 0), (1188, .iconst 0, 1, 0, 0), (1189, .ireturn, 1, 0, 0), (1190, .aload_n 1, 1, 0, 0), (1191, .aload_n 0, 1, 0, 0), (1192, .iload_n 3, 1, 0, 0), (1193, .iconst 1, 1, 0, 0), (1194, .iadd, 1, 0, 0), (1195, .iaload, 1, 0, 0), (1196, .invokevirtual 170, 3, 146, 1), (1199, .aload_n 2, 1, 0, 0), (1200, .aload_n 0, 1, 0, 0), (1201, .iload_n 3, 1, 0, 0), (1202, .iconst 1, 1, 0, 0), (1203, .iadd, 1, 0, 0), (1204, .iaload, 1, 0, 0), (1205, .invokevirtual 173, 3, 235, 1), (1208, .if_icmp .eq 262, 3, 1470, 0), (1211, .iconst 0, 1, 0, 0), (1212, .ireturn, 1, 0, 0), (1213, .aload_n 1, 1, 0, 0), (1214, .aload_n 0, 1, 0, 0), (1215, .iload_n 3, 1, 0, 0), (1216, .iconst 1, 1, 0, 0), (1217, .iadd, 1, 0, 0), (1218, .iaload, 1, 0, 0), (1219, .invokevirtual 174, 3, 147, 1), (1222, .aload_n 2, 1, 0, 0), (1223, .aload_n 0, 1, 0, 0), (1224, .iload_n 3, 1, 0, 0), (1225, .iconst 1, 1, 0, 0), (1226, .iadd, 1, 0, 0), (1227, .iaload, 1, 0, 0), (1228, .invokevirtual 177, 3, 237, 1), (1231, .if_icmp .eq 239, 3, 1470, 0), (1234, .iconst 0, 1, 0, 0), (1235, .ireturn, 1, 0, 0), (1236, .aload_n 1, 1, 0, 0), (1237, .aload_n 0, 1, 0, 0), (1238, .iload_n 3, 1, 0, 0), (1239, .iconst 1, 1, 0, 0), (1240, .iadd, 1, 0, 0), (1241, .iaload, 1, 0, 0), (1242, .invokevirtual 178, 3, 148, 1), (1245, .aload_n 2, 1, 0, 0), (1246, .aload_n 0, 1, 0, 0), (1247, .iload_n 3, 1, 0, 0), (1248, .iconst 1, 1, 0, 0), (1249, .iadd, 1, 0, 0), (1250, .iaload, 1, 0, 0), (1251, .invokevirtual 181, 3, 238, 1), (1254, .if_icmp .eq 216, 3, 1470, 0), (1257, .iconst 0, 1, 0, 0), (1258, .ireturn, 1, 0, 0), (1259, .aload_n 1, 1, 0, 0), (1260, .aload_n 0, 1, 0, 0), (1261, .iload_n 3, 1, 0, 0), (1262, .iconst 1, 1, 0, 0), (1263, .iadd, 1, 0, 0), (1264, .iaload, 1, 0, 0), (1265, .aload_n 0, 1, 0, 0), (1266, .iload_n 3, 1, 0, 0), (1267, .iconst 2, 1, 0, 0), (1268, .iadd, 1, 0, 0), (1269, .iaload, 1, 0, 0), (1270, .aload_n 0, 1, 0, 0), (1271, .iload_n 3, 1, 0, 0), (1272, .iconst 3, 1, 0, 0), (1273, .iadd, 1, 0, 0), (1274, .iaload, 1, 0, 0), (1275, .invokevirtual 182, 3, 149, 3), (1278, .aload_n 2, 1, 0, 0), (1279, .aload_n 0, 1, 0, 0), (1280, .iload_n 3, 1, 0, 0), (1281, .iconst 1, 1, 0, 0), (1282, .iadd, 1, 0, 0), (1283, .iaload, 1, 0, 0), (1284, .aload_n 0, 1, 0, 0), (1285, .iload_n 3, 1, 0, 0), (1286, .iconst 2, 1, 0, 0), (1287, .iadd, 1, 0, 0), (1288, .iaload, 1, 0, 0), (1289, .aload_n 0, 1, 0, 0), (1290, .iload_n 3, 1, 0, 0), (1291, .iconst 3, 1, 0, 0), (1292, .iadd, 1, 0, 0), (1293, .iaload, 1, 0, 0), (1294, .invokevirtual 186, 3, 240, 3), (1297, .if_icmp .eq 173, 3, 1470, 0), (1300, .iconst 0, 1, 0, 0), (1301, .ireturn, 1, 0, 0), (1302, .aload_n 1, 1, 0, 0), (1303, .aload_n 0, 1, 0, 0), (1304, .iload_n 3, 1, 0, 0), (1305, .iconst 1, 1, 0, 0), (1306, .iadd, 1, 0, 0), (1307, .iaload, 1, 0, 0), (1308, .aload_n 0, 1, 0, 0), (1309, .iload_n 3, 1, 0, 0), (1310, .iconst 2, 1, 0, 0), (1311, .iadd, 1, 0, 0), (1312, .iaload, 1, 0, 0), (1313, .invokevirtual 187, 3, 150, 2), (1316, .aload_n 2, 1, 0, 0), (1317, .aload_n 0, 1, 0, 0), (1318, .iload_n 3, 1, 0, 0), (1319, .iconst 1, 1, 0, 0), (1320, .iadd, 1, 0, 0), (1321, .iaload, 1, 0, 0), (1322, .aload_n 0, 1, 0, 0), (1323, .iload_n 3, 1, 0, 0), (1324, .iconst 2, 1, 0, 0), (1325, .iadd, 1, 0, 0), (1326, .iaload, 1, 0, 0), (1327, .invokevirtual 190, 3, 241, 2), (1330, .if_icmp .eq 140, 3, 1470, 0), (1333, .iconst 0, 1, 0, 0), (1334, .ireturn, 1, 0, 0), (1335, .aload_n 1, 1, 0, 0), (1336, .aload_n 0, 1, 0, 0), (1337, .iload_n 3, 1, 0, 0), (1338, .iconst 1, 1, 0, 0), (1339, .iadd, 1, 0, 0), (1340, .iaload, 1, 0, 0), (1341, .invokevirtual 191, 3, 151, 1), (1344, .aload_n 2, 1, 0, 0), (1345, .aload_n 0, 1, 0, 0), (1346, .iload_n 3, 1, 0, 0), (1347, .iconst 1, 1, 0, 0), (1348, .iadd, 1, 0, 0), (1349, .iaload, 1, 0, 0), (1350, .invokevirtual 194, 3, 242, 1), (1353, .if_icmp .eq 117, 3, 1470, 0), (1356, .iconst 0, 1, 0, 0), (1357, .ireturn, 1, 0, 0), (1358, .aload_n 1, 1, 0, 0), (1359, .aload_n 0, 1, 0, 0), (1360, .iload_n 3, 1, 0, 0), (1361, .iconst 1, 1, 0, 0), (1362, .iadd, 1, 0, 0), (1363, .iaload, 1, 0, 0), (1364, .invokevirtual 195, 3, 152, 1), (1367, .aload_n 2, 1, 0, 0), (1368, .aload_n 0, 1, 0, 0), (1369, .iload_n 3, 1, 0, 0), (1370, .iconst 1, 1, 0, 0), (1371, .iadd, 1, 0, 0), (1372, .iaload, 1, 0, 0), (1373, .invokevirtual 198, 3, 243, 1), (1376, .if_icmp .eq 94, 3, 1470, 0), (1379, .iconst 0, 1, 0, 0), (1380, .ireturn, 1, 0, 0), (1381, .aload_n 1, 1, 0, 0), (1382, .aload_n 0, 1, 0, 0), (1383, .iload_n 3, 1, 0, 0), (1384, .iconst 1, 1, 0, 0), (1385, .iadd, 1, 0, 0), (1386, .iaload, 1, 0, 0), (1387, .aload_n 0, 1, 0, 0), (1388, .iload_n 3, 1, 0, 0), (1389, .iconst 2, 1, 0, 0), (1390, .iadd, 1, 0, 0), (1391, .iaload, 1, 0, 0), (1392, .invokevirtual 199, 3, 153, 2), (1395, .aload_n 2, 1, 0, 0), (1396, .aload_n 0, 1, 0, 0), (1397, .iload_n 3, 1, 0, 0), (1398, .iconst 1, 1, 0, 0), (1399, .iadd, 1, 0, 0), (1400, .iaload, 1, 0, 0), (1401, .aload_n 0, 1, 0, 0), (1402, .iload_n 3, 1, 0, 0), (1403, .iconst 2, 1, 0, 0), (1404, .iadd, 1, 0, 0), (1405, .iaload, 1, 0, 0), (1406, .invokevirtual 202, 3, 244, 2), (1409, .if_icmp .eq 61, 3, 1470, 0), (1412, .iconst 0, 1, 0, 0), (1413, .ireturn, 1, 0, 0), (1414, .aload_n 1, 1, 0, 0), (1415, .aload_n 0, 1, 0, 0), (1416, .iload_n 3, 1, 0, 0), (1417, .iconst 1, 1, 0, 0), (1418, .iadd, 1, 0, 0), (1419, .iaload, 1, 0, 0), (1420, .invokevirtual 203, 3, 154, 1), (1423, .aload_n 2, 1, 0, 0), (1424, .aload_n 0, 1, 0, 0), (1425, .iload_n 3, 1, 0, 0), (1426, .iconst 1, 1, 0, 0), (1427, .iadd, 1, 0, 0), (1428, .iaload, 1, 0, 0), (1429, .invokevirtual 206, 3, 247, 1), (1432, .if_icmp .eq 38, 3, 1470, 0), (1435, .iconst 0, 1, 0, 0), (1436, .ireturn, 1, 0, 0), (1437, .aload_n 1, 1, 0, 0), (1438, .aload_n 0, 1, 0, 0), (1439, .iload_n 3, 1, 0, 0), (1440, .iconst 1, 1, 0, 0), (1441, .iadd, 1, 0, 0), (1442, .iaload, 1, 0, 0), (1443, .aload_n 0, 1, 0, 0), (1444, .iload_n 3, 1, 0, 0), (1445, .iconst 2, 1, 0, 0), (1446, .iadd, 1, 0, 0), (1447, .iaload, 1, 0, 0), (1448, .invokevirtual 207, 3, 155, 2), (1451, .aload_n 2, 1, 0, 0), (1452, .aload_n 0, 1, 0, 0), (1453, .iload_n 3, 1, 0, 0), (1454, .iconst 1, 1, 0, 0), (1455, .iadd, 1, 0, 0), (1456, .iaload, 1, 0, 0), (1457, .aload_n 0, 1, 0, 0), (1458, .iload_n 3, 1, 0, 0), (1459, .iconst 2, 1, 0, 0), (1460, .iadd, 1, 0, 0), (1461, .iaload, 1, 0, 0), (1462, .invokevirtual 210, 3, 248, 2), (1465, .if_icmp .eq 5, 3, 1470, 0), (1468, .iconst 0, 1, 0, 0), (1469, .ireturn, 1, 0, 0), (1470, .iinc 3 6, 3, 0, 0), (1473, .goto (-1455), 3, 18, 0), (1476, .iconst 1, 1, 0, 0), (1477, .ireturn, 1, 0, 0)]
def kL_0 : List ab_I := [(16, .iconst 0, 1, 0, 0), (17, .istore_n 3, 1, 0, 0), (18, .iload_n 3, 1, 0, 0), (19, .aload_n 0, 1, 0, 0), (20, .arraylength, 1, 0, 0), (21, .bipush 6, 2, 0, 0), (23, .isub, 1, 0, 0), (24, .if_icmp .gt 1452, 3, 1476, 0), (27, .aload_n 0, 1, 0, 0), (28, .iload_n 3, 1, 0, 0), (29, .iaload, 1, 0, 0), (30, .bipush 63, 2, 0, 0), (32, .iand, 1, 0, 0), (33, .tableswitch 1437 0 47 #[207, 270, 293, 306, 319, 342, 365, 388, 411, 434, 457, 490, 523, 546, 579, 612, 625, 648, 671, 684, 707, 730, 753, 776, 825, 848, 871, 904, 927, 960, 983, 996, 1029, 1052, 1075, 1088, 1111, 1134, 1157, 1180, 1203, 1226, 1269, 1302, 1325, 1348, 1381, 1404], 207, 0, 0), (240, .aload_n 1, 1, 0, 0), (241, .aload_n 0, 1, 0, 0), (242, .iload_n 3, 1, 0, 0), (243, .iconst 1, 1, 0, 0), (244, .iadd, 1, 0, 0), (245, .iaload, 1, 0, 0), (246, .aload_n 0, 1, 0, 0), (247, .iload_n 3, 1, 0, 0), (248, .iconst 2, 1, 0, 0), (249, .iadd, 1, 0, 0), (250, .iaload, 1, 0, 0), (251, .aload_n 0, 1, 0, 0), (252, .iload_n 3, 1, 0, 0), (253, .iconst 3, 1, 0, 0), (254, .iadd, 1, 0, 0), (255, .iaload, 1, 0, 0), (256, .aload_n 0, 1, 0, 0), (257, .iload_n 3, 1, 0, 0), (258, .iconst 4, 1, 0, 0), (259, .iadd, 1, 0, 0), (260, .iaload, 1, 0, 0), (261, .aload_n 0, 1, 0, 0), (262, .iload_n 3, 1, 0, 0), (263, .iconst 5, 1, 0, 0), (264, .iadd, 1, 0, 0), (265, .iaload, 1, 0, 0), (266, .invokevirtual 13, 3, 108, 5), (269, .aload_n 2, 1, 0, 0), (270, .aload_n 0, 1, 0, 0), (271, .iload_n 3, 1, 0, 0), (272, .iconst 1, 1, 0, 0), (273, .iadd, 1, 0, 0), (274, .iaload, 1, 0, 0), (275, .aload_n 0, 1, 0, 0), (276, .iload_n 3, 1, 0, 0), (277, .iconst 2, 1, 0, 0), (278, .iadd, 1, 0, 0), (279, .iaload, 1, 0, 0), (280, .aload_n 0, 1, 0, 0), (281, .iload_n 3, 1, 0, 0), (282, .iconst 3, 1, 0, 0), (283, .iadd, 1, 0, 0), (284, .iaload, 1, 0, 0), (285, .aload_n 0, 1, 0, 0), (286, .iload_n 3, 1, 0, 0), (287, .iconst 4, 1, 0, 0)]
def kL_1 : List ab_I := [(288, .iadd, 1, 0, 0), (289, .iaload, 1, 0, 0), (290, .aload_n 0, 1, 0, 0), (291, .iload_n 3, 1, 0, 0), (292, .iconst 5, 1, 0, 0), (293, .iadd, 1, 0, 0), (294, .iaload, 1, 0, 0), (295, .invokevirtual 17, 3, 158, 5), (298, .if_icmp .eq 1172, 3, 1470, 0), (301, .iconst 0, 1, 0, 0), (302, .ireturn, 1, 0, 0), (303, .aload_n 1, 1, 0, 0), (304, .aload_n 0, 1, 0, 0), (305, .iload_n 3, 1, 0, 0), (306, .iconst 1, 1, 0, 0), (307, .iadd, 1, 0, 0), (308, .iaload, 1, 0, 0), (309, .invokevirtual 18, 3, 109, 1), (312, .aload_n 2, 1, 0, 0), (313, .aload_n 0, 1, 0, 0), (314, .iload_n 3, 1, 0, 0), (315, .iconst 1, 1, 0, 0), (316, .iadd, 1, 0, 0), (317, .iaload, 1, 0, 0), (318, .invokevirtual 22, 3, 159, 1), (321, .if_icmp .eq 1149, 3, 1470, 0), (324, .iconst 0, 1, 0, 0), (325, .ireturn, 1, 0, 0), (326, .aload_n 1, 1, 0, 0), (327, .invokevirtual 23, 3, 110, 0), (330, .aload_n 2, 1, 0, 0), (331, .invokevirtual 27, 3, 160, 0), (334, .if_icmp .eq 1136, 3, 1470, 0), (337, .iconst 0, 1, 0, 0), (338, .ireturn, 1, 0, 0), (339, .aload_n 1, 1, 0, 0), (340, .invokevirtual 28, 3, 111, 0), (343, .aload_n 2, 1, 0, 0), (344, .invokevirtual 31, 3, 161, 0), (347, .if_icmp .eq 1123, 3, 1470, 0), (350, .iconst 0, 1, 0, 0), (351, .ireturn, 1, 0, 0), (352, .aload_n 1, 1, 0, 0), (353, .aload_n 0, 1, 0, 0), (354, .iload_n 3, 1, 0, 0), (355, .iconst 1, 1, 0, 0), (356, .iadd, 1, 0, 0), (357, .iaload, 1, 0, 0), (358, .invokevirtual 32, 3, 112, 1), (361, .aload_n 2, 1, 0, 0), (362, .aload_n 0, 1, 0, 0), (363, .iload_n 3, 1, 0, 0), (364, .iconst 1, 1, 0, 0), (365, .iadd, 1, 0, 0), (366, .iaload, 1, 0, 0), (367, .invokevirtual 35, 3, 166, 1), (370, .if_icmp .eq 1100, 3, 1470, 0), (373, .iconst 0, 1, 0, 0), (374, .ireturn, 1, 0, 0), (375, .aload_n 1, 1, 0, 0)]
def kL_2 : List ab_I := [(376, .aload_n 0, 1, 0, 0), (377, .iload_n 3, 1, 0, 0), (378, .iconst 1, 1, 0, 0), (379, .iadd, 1, 0, 0), (380, .iaload, 1, 0, 0), (381, .invokevirtual 36, 3, 113, 1), (384, .aload_n 2, 1, 0, 0), (385, .aload_n 0, 1, 0, 0), (386, .iload_n 3, 1, 0, 0), (387, .iconst 1, 1, 0, 0), (388, .iadd, 1, 0, 0), (389, .iaload, 1, 0, 0), (390, .invokevirtual 39, 3, 172, 1), (393, .if_icmp .eq 1077, 3, 1470, 0), (396, .iconst 0, 1, 0, 0), (397, .ireturn, 1, 0, 0), (398, .aload_n 1, 1, 0, 0), (399, .aload_n 0, 1, 0, 0), (400, .iload_n 3, 1, 0, 0), (401, .iconst 1, 1, 0, 0), (402, .iadd, 1, 0, 0), (403, .iaload, 1, 0, 0), (404, .invokevirtual 40, 3, 114, 1), (407, .aload_n 2, 1, 0, 0), (408, .aload_n 0, 1, 0, 0), (409, .iload_n 3, 1, 0, 0), (410, .iconst 1, 1, 0, 0), (411, .iadd, 1, 0, 0), (412, .iaload, 1, 0, 0), (413, .invokevirtual 43, 3, 173, 1), (416, .if_icmp .eq 1054, 3, 1470, 0), (419, .iconst 0, 1, 0, 0), (420, .ireturn, 1, 0, 0), (421, .aload_n 1, 1, 0, 0), (422, .aload_n 0, 1, 0, 0), (423, .iload_n 3, 1, 0, 0), (424, .iconst 1, 1, 0, 0), (425, .iadd, 1, 0, 0), (426, .iaload, 1, 0, 0), (427, .invokevirtual 44, 3, 115, 1), (430, .aload_n 2, 1, 0, 0), (431, .aload_n 0, 1, 0, 0), (432, .iload_n 3, 1, 0, 0), (433, .iconst 1, 1, 0, 0), (434, .iadd, 1, 0, 0), (435, .iaload, 1, 0, 0), (436, .invokevirtual 47, 3, 174, 1), (439, .if_icmp .eq 1031, 3, 1470, 0), (442, .iconst 0, 1, 0, 0), (443, .ireturn, 1, 0, 0), (444, .aload_n 1, 1, 0, 0), (445, .aload_n 0, 1, 0, 0), (446, .iload_n 3, 1, 0, 0), (447, .iconst 1, 1, 0, 0), (448, .iadd, 1, 0, 0), (449, .iaload, 1, 0, 0), (450, .invokevirtual 48, 3, 116, 1), (453, .aload_n 2, 1, 0, 0), (454, .aload_n 0, 1, 0, 0), (455, .iload_n 3, 1, 0, 0)]
def kL_3 : List ab_I := [(456, .iconst 1, 1, 0, 0), (457, .iadd, 1, 0, 0), (458, .iaload, 1, 0, 0), (459, .invokevirtual 51, 3, 176, 1), (462, .if_icmp .eq 1008, 3, 1470, 0), (465, .iconst 0, 1, 0, 0), (466, .ireturn, 1, 0, 0), (467, .aload_n 1, 1, 0, 0), (468, .aload_n 0, 1, 0, 0), (469, .iload_n 3, 1, 0, 0), (470, .iconst 1, 1, 0, 0), (471, .iadd, 1, 0, 0), (472, .iaload, 1, 0, 0), (473, .invokevirtual 52, 3, 117, 1), (476, .aload_n 2, 1, 0, 0), (477, .aload_n 0, 1, 0, 0), (478, .iload_n 3, 1, 0, 0), (479, .iconst 1, 1, 0, 0), (480, .iadd, 1, 0, 0), (481, .iaload, 1, 0, 0), (482, .invokevirtual 55, 3, 177, 1), (485, .if_icmp .eq 985, 3, 1470, 0), (488, .iconst 0, 1, 0, 0), (489, .ireturn, 1, 0, 0), (490, .aload_n 1, 1, 0, 0), (491, .aload_n 0, 1, 0, 0), (492, .iload_n 3, 1, 0, 0), (493, .iconst 1, 1, 0, 0), (494, .iadd, 1, 0, 0), (495, .iaload, 1, 0, 0), (496, .aload_n 0, 1, 0, 0), (497, .iload_n 3, 1, 0, 0), (498, .iconst 2, 1, 0, 0), (499, .iadd, 1, 0, 0), (500, .iaload, 1, 0, 0), (501, .invokevirtual 56, 3, 118, 2), (504, .aload_n 2, 1, 0, 0), (505, .aload_n 0, 1, 0, 0), (506, .iload_n 3, 1, 0, 0), (507, .iconst 1, 1, 0, 0), (508, .iadd, 1, 0, 0), (509, .iaload, 1, 0, 0), (510, .aload_n 0, 1, 0, 0), (511, .iload_n 3, 1, 0, 0), (512, .iconst 2, 1, 0, 0), (513, .iadd, 1, 0, 0), (514, .iaload, 1, 0, 0), (515, .invokevirtual 60, 3, 178, 2), (518, .if_icmp .eq 952, 3, 1470, 0), (521, .iconst 0, 1, 0, 0), (522, .ireturn, 1, 0, 0), (523, .aload_n 1, 1, 0, 0), (524, .aload_n 0, 1, 0, 0), (525, .iload_n 3, 1, 0, 0), (526, .iconst 1, 1, 0, 0), (527, .iadd, 1, 0, 0), (528, .iaload, 1, 0, 0), (529, .aload_n 0, 1, 0, 0), (530, .iload_n 3, 1, 0, 0), (531, .iconst 2, 1, 0, 0)]
def kL_4 : List ab_I := [(532, .iadd, 1, 0, 0), (533, .iaload, 1, 0, 0), (534, .invokevirtual 61, 3, 119, 2), (537, .aload_n 2, 1, 0, 0), (538, .aload_n 0, 1, 0, 0), (539, .iload_n 3, 1, 0, 0), (540, .iconst 1, 1, 0, 0), (541, .iadd, 1, 0, 0), (542, .iaload, 1, 0, 0), (543, .aload_n 0, 1, 0, 0), (544, .iload_n 3, 1, 0, 0), (545, .iconst 2, 1, 0, 0), (546, .iadd, 1, 0, 0), (547, .iaload, 1, 0, 0), (548, .invokevirtual 64, 3, 179, 2), (551, .if_icmp .eq 919, 3, 1470, 0), (554, .iconst 0, 1, 0, 0), (555, .ireturn, 1, 0, 0), (556, .aload_n 1, 1, 0, 0), (557, .aload_n 0, 1, 0, 0), (558, .iload_n 3, 1, 0, 0), (559, .iconst 1, 1, 0, 0), (560, .iadd, 1, 0, 0), (561, .iaload, 1, 0, 0), (562, .invokevirtual 65, 3, 120, 1), (565, .aload_n 2, 1, 0, 0), (566, .aload_n 0, 1, 0, 0), (567, .iload_n 3, 1, 0, 0), (568, .iconst 1, 1, 0, 0), (569, .iadd, 1, 0, 0), (570, .iaload, 1, 0, 0), (571, .invokevirtual 68, 3, 180, 1), (574, .if_icmp .eq 896, 3, 1470, 0), (577, .iconst 0, 1, 0, 0), (578, .ireturn, 1, 0, 0), (579, .aload_n 1, 1, 0, 0), (580, .aload_n 0, 1, 0, 0), (581, .iload_n 3, 1, 0, 0), (582, .iconst 1, 1, 0, 0), (583, .iadd, 1, 0, 0), (584, .iaload, 1, 0, 0), (585, .aload_n 0, 1, 0, 0), (586, .iload_n 3, 1, 0, 0), (587, .iconst 2, 1, 0, 0), (588, .iadd, 1, 0, 0), (589, .iaload, 1, 0, 0), (590, .invokevirtual 69, 3, 121, 2), (593, .aload_n 2, 1, 0, 0), (594, .aload_n 0, 1, 0, 0), (595, .iload_n 3, 1, 0, 0), (596, .iconst 1, 1, 0, 0), (597, .iadd, 1, 0, 0), (598, .iaload, 1, 0, 0), (599, .aload_n 0, 1, 0, 0), (600, .iload_n 3, 1, 0, 0), (601, .iconst 2, 1, 0, 0), (602, .iadd, 1, 0, 0), (603, .iaload, 1, 0, 0), (604, .invokevirtual 72, 3, 181, 2), (607, .if_icmp .eq 863, 3, 1470, 0)]
def kL_5 : List ab_I := [(610, .iconst 0, 1, 0, 0), (611, .ireturn, 1, 0, 0), (612, .aload_n 1, 1, 0, 0), (613, .aload_n 0, 1, 0, 0), (614, .iload_n 3, 1, 0, 0), (615, .iconst 1, 1, 0, 0), (616, .iadd, 1, 0, 0), (617, .iaload, 1, 0, 0), (618, .aload_n 0, 1, 0, 0), (619, .iload_n 3, 1, 0, 0), (620, .iconst 2, 1, 0, 0), (621, .iadd, 1, 0, 0), (622, .iaload, 1, 0, 0), (623, .invokevirtual 73, 3, 122, 2), (626, .aload_n 2, 1, 0, 0), (627, .aload_n 0, 1, 0, 0), (628, .iload_n 3, 1, 0, 0), (629, .iconst 1, 1, 0, 0), (630, .iadd, 1, 0, 0), (631, .iaload, 1, 0, 0), (632, .aload_n 0, 1, 0, 0), (633, .iload_n 3, 1, 0, 0), (634, .iconst 2, 1, 0, 0), (635, .iadd, 1, 0, 0), (636, .iaload, 1, 0, 0), (637, .invokevirtual 76, 3, 183, 2), (640, .if_icmp .eq 830, 3, 1470, 0), (643, .iconst 0, 1, 0, 0), (644, .ireturn, 1, 0, 0), (645, .aload_n 1, 1, 0, 0), (646, .invokevirtual 77, 3, 123, 0), (649, .aload_n 2, 1, 0, 0), (650, .invokevirtual 80, 3, 185, 0), (653, .if_icmp .eq 817, 3, 1470, 0), (656, .iconst 0, 1, 0, 0), (657, .ireturn, 1, 0, 0), (658, .aload_n 1, 1, 0, 0), (659, .aload_n 0, 1, 0, 0), (660, .iload_n 3, 1, 0, 0), (661, .iconst 1, 1, 0, 0), (662, .iadd, 1, 0, 0), (663, .iaload, 1, 0, 0), (664, .invokevirtual 81, 3, 124, 1), (667, .aload_n 2, 1, 0, 0), (668, .aload_n 0, 1, 0, 0), (669, .iload_n 3, 1, 0, 0), (670, .iconst 1, 1, 0, 0), (671, .iadd, 1, 0, 0), (672, .iaload, 1, 0, 0), (673, .invokevirtual 84, 3, 188, 1), (676, .if_icmp .eq 794, 3, 1470, 0), (679, .iconst 0, 1, 0, 0), (680, .ireturn, 1, 0, 0), (681, .aload_n 1, 1, 0, 0), (682, .aload_n 0, 1, 0, 0), (683, .iload_n 3, 1, 0, 0), (684, .iconst 1, 1, 0, 0), (685, .iadd, 1, 0, 0), (686, .iaload, 1, 0, 0), (687, .invokevirtual 85, 3, 125, 1)]
def kL_6 : List ab_I := [(690, .aload_n 2, 1, 0, 0), (691, .aload_n 0, 1, 0, 0), (692, .iload_n 3, 1, 0, 0), (693, .iconst 1, 1, 0, 0), (694, .iadd, 1, 0, 0), (695, .iaload, 1, 0, 0), (696, .invokevirtual 88, 3, 189, 1), (699, .if_icmp .eq 771, 3, 1470, 0), (702, .iconst 0, 1, 0, 0), (703, .ireturn, 1, 0, 0), (704, .aload_n 1, 1, 0, 0), (705, .invokevirtual 89, 3, 126, 0), (708, .aload_n 2, 1, 0, 0), (709, .invokevirtual 92, 3, 190, 0), (712, .if_icmp .eq 758, 3, 1470, 0), (715, .iconst 0, 1, 0, 0), (716, .ireturn, 1, 0, 0), (717, .aload_n 1, 1, 0, 0), (718, .aload_n 0, 1, 0, 0), (719, .iload_n 3, 1, 0, 0), (720, .iconst 1, 1, 0, 0), (721, .iadd, 1, 0, 0), (722, .iaload, 1, 0, 0), (723, .invokevirtual 93, 3, 127, 1), (726, .aload_n 2, 1, 0, 0), (727, .aload_n 0, 1, 0, 0), (728, .iload_n 3, 1, 0, 0), (729, .iconst 1, 1, 0, 0), (730, .iadd, 1, 0, 0), (731, .iaload, 1, 0, 0), (732, .invokevirtual 96, 3, 191, 1), (735, .if_icmp .eq 735, 3, 1470, 0), (738, .iconst 0, 1, 0, 0), (739, .ireturn, 1, 0, 0), (740, .aload_n 1, 1, 0, 0), (741, .aload_n 0, 1, 0, 0), (742, .iload_n 3, 1, 0, 0), (743, .iconst 1, 1, 0, 0), (744, .iadd, 1, 0, 0), (745, .iaload, 1, 0, 0), (746, .invokevirtual 97, 3, 128, 1), (749, .aload_n 2, 1, 0, 0), (750, .aload_n 0, 1, 0, 0), (751, .iload_n 3, 1, 0, 0), (752, .iconst 1, 1, 0, 0), (753, .iadd, 1, 0, 0), (754, .iaload, 1, 0, 0), (755, .invokevirtual 100, 3, 192, 1), (758, .if_icmp .eq 712, 3, 1470, 0), (761, .iconst 0, 1, 0, 0), (762, .ireturn, 1, 0, 0), (763, .aload_n 1, 1, 0, 0), (764, .aload_n 0, 1, 0, 0), (765, .iload_n 3, 1, 0, 0), (766, .iconst 1, 1, 0, 0), (767, .iadd, 1, 0, 0), (768, .iaload, 1, 0, 0), (769, .invokevirtual 101, 3, 129, 1), (772, .aload_n 2, 1, 0, 0), (773, .aload_n 0, 1, 0, 0)]
def kL_7 : List ab_I := [(774, .iload_n 3, 1, 0, 0), (775, .iconst 1, 1, 0, 0), (776, .iadd, 1, 0, 0), (777, .iaload, 1, 0, 0), (778, .invokevirtual 104, 3, 193, 1), (781, .if_icmp .eq 689, 3, 1470, 0), (784, .iconst 0, 1, 0, 0), (785, .ireturn, 1, 0, 0), (786, .aload_n 1, 1, 0, 0), (787, .aload_n 0, 1, 0, 0), (788, .iload_n 3, 1, 0, 0), (789, .iconst 1, 1, 0, 0), (790, .iadd, 1, 0, 0), (791, .iaload, 1, 0, 0), (792, .invokevirtual 105, 3, 130, 1), (795, .aload_n 2, 1, 0, 0), (796, .aload_n 0, 1, 0, 0), (797, .iload_n 3, 1, 0, 0), (798, .iconst 1, 1, 0, 0), (799, .iadd, 1, 0, 0), (800, .iaload, 1, 0, 0), (801, .invokevirtual 108, 3, 195, 1), (804, .if_icmp .eq 666, 3, 1470, 0), (807, .iconst 0, 1, 0, 0), (808, .ireturn, 1, 0, 0), (809, .aload_n 1, 1, 0, 0), (810, .aload_n 0, 1, 0, 0), (811, .iload_n 3, 1, 0, 0), (812, .iconst 1, 1, 0, 0), (813, .iadd, 1, 0, 0), (814, .iaload, 1, 0, 0), (815, .ifCond .eq 7, 3, 822, 0), (818, .iconst 1, 1, 0, 0), (819, .goto 4, 3, 823, 0), (822, .iconst 0, 1, 0, 0), (823, .aload_n 0, 1, 0, 0), (824, .iload_n 3, 1, 0, 0), (825, .iconst 2, 1, 0, 0), (826, .iadd, 1, 0, 0), (827, .iaload, 1, 0, 0), (828, .invokevirtual 109, 3, 131, 2), (831, .aload_n 2, 1, 0, 0), (832, .aload_n 0, 1, 0, 0), (833, .iload_n 3, 1, 0, 0), (834, .iconst 1, 1, 0, 0), (835, .iadd, 1, 0, 0), (836, .iaload, 1, 0, 0), (837, .ifCond .eq 7, 3, 844, 0), (840, .iconst 1, 1, 0, 0), (841, .goto 4, 3, 845, 0), (844, .iconst 0, 1, 0, 0), (845, .aload_n 0, 1, 0, 0), (846, .iload_n 3, 1, 0, 0), (847, .iconst 2, 1, 0, 0), (848, .iadd, 1, 0, 0), (849, .iaload, 1, 0, 0), (850, .invokevirtual 113, 3, 196, 2), (853, .if_icmp .eq 617, 3, 1470, 0), (856, .iconst 0, 1, 0, 0), (857, .ireturn, 1, 0, 0)]
def kL_8 : List ab_I := [(858, .aload_n 1, 1, 0, 0), (859, .aload_n 0, 1, 0, 0), (860, .iload_n 3, 1, 0, 0), (861, .iconst 1, 1, 0, 0), (862, .iadd, 1, 0, 0), (863, .iaload, 1, 0, 0), (864, .invokevirtual 114, 3, 132, 1), (867, .aload_n 2, 1, 0, 0), (868, .aload_n 0, 1, 0, 0), (869, .iload_n 3, 1, 0, 0), (870, .iconst 1, 1, 0, 0), (871, .iadd, 1, 0, 0), (872, .iaload, 1, 0, 0), (873, .invokevirtual 117, 3, 198, 1), (876, .if_icmp .eq 594, 3, 1470, 0), (879, .iconst 0, 1, 0, 0), (880, .ireturn, 1, 0, 0), (881, .aload_n 1, 1, 0, 0), (882, .aload_n 0, 1, 0, 0), (883, .iload_n 3, 1, 0, 0), (884, .iconst 1, 1, 0, 0), (885, .iadd, 1, 0, 0), (886, .iaload, 1, 0, 0), (887, .invokevirtual 118, 3, 133, 1), (890, .aload_n 2, 1, 0, 0), (891, .aload_n 0, 1, 0, 0), (892, .iload_n 3, 1, 0, 0), (893, .iconst 1, 1, 0, 0), (894, .iadd, 1, 0, 0), (895, .iaload, 1, 0, 0), (896, .invokevirtual 121, 3, 199, 1), (899, .if_icmp .eq 571, 3, 1470, 0), (902, .iconst 0, 1, 0, 0), (903, .ireturn, 1, 0, 0), (904, .aload_n 1, 1, 0, 0), (905, .aload_n 0, 1, 0, 0), (906, .iload_n 3, 1, 0, 0), (907, .iconst 1, 1, 0, 0), (908, .iadd, 1, 0, 0), (909, .iaload, 1, 0, 0), (910, .aload_n 0, 1, 0, 0), (911, .iload_n 3, 1, 0, 0), (912, .iconst 2, 1, 0, 0), (913, .iadd, 1, 0, 0), (914, .iaload, 1, 0, 0), (915, .invokevirtual 122, 3, 134, 2), (918, .aload_n 2, 1, 0, 0), (919, .aload_n 0, 1, 0, 0), (920, .iload_n 3, 1, 0, 0), (921, .iconst 1, 1, 0, 0), (922, .iadd, 1, 0, 0), (923, .iaload, 1, 0, 0), (924, .aload_n 0, 1, 0, 0), (925, .iload_n 3, 1, 0, 0), (926, .iconst 2, 1, 0, 0), (927, .iadd, 1, 0, 0), (928, .iaload, 1, 0, 0), (929, .invokevirtual 125, 3, 200, 2), (932, .if_icmp .eq 538, 3, 1470, 0), (935, .iconst 0, 1, 0, 0)]
def kL_9 : List ab_I := [(936, .ireturn, 1, 0, 0), (937, .aload_n 1, 1, 0, 0), (938, .aload_n 0, 1, 0, 0), (939, .iload_n 3, 1, 0, 0), (940, .iconst 1, 1, 0, 0), (941, .iadd, 1, 0, 0), (942, .iaload, 1, 0, 0), (943, .invokevirtual 126, 3, 135, 1), (946, .aload_n 2, 1, 0, 0), (947, .aload_n 0, 1, 0, 0), (948, .iload_n 3, 1, 0, 0), (949, .iconst 1, 1, 0, 0), (950, .iadd, 1, 0, 0), (951, .iaload, 1, 0, 0), (952, .invokevirtual 129, 3, 201, 1), (955, .if_icmp .eq 515, 3, 1470, 0), (958, .iconst 0, 1, 0, 0), (959, .ireturn, 1, 0, 0), (960, .aload_n 1, 1, 0, 0), (961, .aload_n 0, 1, 0, 0), (962, .iload_n 3, 1, 0, 0), (963, .iconst 1, 1, 0, 0), (964, .iadd, 1, 0, 0), (965, .iaload, 1, 0, 0), (966, .aload_n 0, 1, 0, 0), (967, .iload_n 3, 1, 0, 0), (968, .iconst 2, 1, 0, 0), (969, .iadd, 1, 0, 0), (970, .iaload, 1, 0, 0), (971, .invokevirtual 130, 3, 136, 2), (974, .aload_n 2, 1, 0, 0), (975, .aload_n 0, 1, 0, 0), (976, .iload_n 3, 1, 0, 0), (977, .iconst 1, 1, 0, 0), (978, .iadd, 1, 0, 0), (979, .iaload, 1, 0, 0), (980, .aload_n 0, 1, 0, 0), (981, .iload_n 3, 1, 0, 0), (982, .iconst 2, 1, 0, 0), (983, .iadd, 1, 0, 0), (984, .iaload, 1, 0, 0), (985, .invokevirtual 133, 3, 202, 2), (988, .if_icmp .eq 482, 3, 1470, 0), (991, .iconst 0, 1, 0, 0), (992, .ireturn, 1, 0, 0), (993, .aload_n 1, 1, 0, 0), (994, .aload_n 0, 1, 0, 0), (995, .iload_n 3, 1, 0, 0), (996, .iconst 1, 1, 0, 0), (997, .iadd, 1, 0, 0), (998, .iaload, 1, 0, 0), (999, .invokevirtual 134, 3, 137, 1), (1002, .aload_n 2, 1, 0, 0), (1003, .aload_n 0, 1, 0, 0), (1004, .iload_n 3, 1, 0, 0), (1005, .iconst 1, 1, 0, 0), (1006, .iadd, 1, 0, 0), (1007, .iaload, 1, 0, 0), (1008, .invokevirtual 137, 3, 203, 1), (1011, .if_icmp .eq 459, 3, 1470, 0)]
def kL_10 : List ab_I := [(1014, .iconst 0, 1, 0, 0), (1015, .ireturn, 1, 0, 0), (1016, .aload_n 1, 1, 0, 0), (1017, .invokevirtual 138, 3, 138, 0), (1020, .aload_n 2, 1, 0, 0), (1021, .invokevirtual 141, 3, 225, 0), (1024, .if_icmp .eq 446, 3, 1470, 0), (1027, .iconst 0, 1, 0, 0), (1028, .ireturn, 1, 0, 0), (1029, .aload_n 1, 1, 0, 0), (1030, .aload_n 0, 1, 0, 0), (1031, .iload_n 3, 1, 0, 0), (1032, .iconst 1, 1, 0, 0), (1033, .iadd, 1, 0, 0), (1034, .iaload, 1, 0, 0), (1035, .aload_n 0, 1, 0, 0), (1036, .iload_n 3, 1, 0, 0), (1037, .iconst 2, 1, 0, 0), (1038, .iadd, 1, 0, 0), (1039, .iaload, 1, 0, 0), (1040, .invokevirtual 142, 3, 139, 2), (1043, .aload_n 2, 1, 0, 0), (1044, .aload_n 0, 1, 0, 0), (1045, .iload_n 3, 1, 0, 0), (1046, .iconst 1, 1, 0, 0), (1047, .iadd, 1, 0, 0), (1048, .iaload, 1, 0, 0), (1049, .aload_n 0, 1, 0, 0), (1050, .iload_n 3, 1, 0, 0), (1051, .iconst 2, 1, 0, 0), (1052, .iadd, 1, 0, 0), (1053, .iaload, 1, 0, 0), (1054, .invokevirtual 145, 3, 226, 2), (1057, .if_icmp .eq 413, 3, 1470, 0), (1060, .iconst 0, 1, 0, 0), (1061, .ireturn, 1, 0, 0), (1062, .aload_n 1, 1, 0, 0), (1063, .aload_n 0, 1, 0, 0), (1064, .iload_n 3, 1, 0, 0), (1065, .iconst 1, 1, 0, 0), (1066, .iadd, 1, 0, 0), (1067, .iaload, 1, 0, 0), (1068, .invokevirtual 146, 3, 140, 1), (1071, .aload_n 2, 1, 0, 0), (1072, .aload_n 0, 1, 0, 0), (1073, .iload_n 3, 1, 0, 0), (1074, .iconst 1, 1, 0, 0), (1075, .iadd, 1, 0, 0), (1076, .iaload, 1, 0, 0), (1077, .invokevirtual 149, 3, 228, 1), (1080, .if_icmp .eq 390, 3, 1470, 0), (1083, .iconst 0, 1, 0, 0), (1084, .ireturn, 1, 0, 0), (1085, .aload_n 1, 1, 0, 0), (1086, .aload_n 0, 1, 0, 0), (1087, .iload_n 3, 1, 0, 0), (1088, .iconst 1, 1, 0, 0), (1089, .iadd, 1, 0, 0), (1090, .iaload, 1, 0, 0), (1091, .invokevirtual 150, 3, 141, 1)]
def kL_11 : List ab_I := [(1094, .aload_n 2, 1, 0, 0), (1095, .aload_n 0, 1, 0, 0), (1096, .iload_n 3, 1, 0, 0), (1097, .iconst 1, 1, 0, 0), (1098, .iadd, 1, 0, 0), (1099, .iaload, 1, 0, 0), (1100, .invokevirtual 153, 3, 229, 1), (1103, .if_icmp .eq 367, 3, 1470, 0), (1106, .iconst 0, 1, 0, 0), (1107, .ireturn, 1, 0, 0), (1108, .aload_n 1, 1, 0, 0), (1109, .invokevirtual 154, 3, 142, 0), (1112, .aload_n 2, 1, 0, 0), (1113, .invokevirtual 157, 3, 230, 0), (1116, .if_icmp .eq 354, 3, 1470, 0), (1119, .iconst 0, 1, 0, 0), (1120, .ireturn, 1, 0, 0), (1121, .aload_n 1, 1, 0, 0), (1122, .aload_n 0, 1, 0, 0), (1123, .iload_n 3, 1, 0, 0), (1124, .iconst 1, 1, 0, 0), (1125, .iadd, 1, 0, 0), (1126, .iaload, 1, 0, 0), (1127, .invokevirtual 158, 3, 143, 1), (1130, .aload_n 2, 1, 0, 0), (1131, .aload_n 0, 1, 0, 0), (1132, .iload_n 3, 1, 0, 0), (1133, .iconst 1, 1, 0, 0), (1134, .iadd, 1, 0, 0), (1135, .iaload, 1, 0, 0), (1136, .invokevirtual 161, 3, 232, 1), (1139, .if_icmp .eq 331, 3, 1470, 0), (1142, .iconst 0, 1, 0, 0), (1143, .ireturn, 1, 0, 0), (1144, .aload_n 1, 1, 0, 0), (1145, .aload_n 0, 1, 0, 0), (1146, .iload_n 3, 1, 0, 0), (1147, .iconst 1, 1, 0, 0), (1148, .iadd, 1, 0, 0), (1149, .iaload, 1, 0, 0), (1150, .invokevirtual 162, 3, 144, 1), (1153, .aload_n 2, 1, 0, 0), (1154, .aload_n 0, 1, 0, 0), (1155, .iload_n 3, 1, 0, 0), (1156, .iconst 1, 1, 0, 0), (1157, .iadd, 1, 0, 0), (1158, .iaload, 1, 0, 0), (1159, .invokevirtual 165, 3, 233, 1), (1162, .if_icmp .eq 308, 3, 1470, 0), (1165, .iconst 0, 1, 0, 0), (1166, .ireturn, 1, 0, 0), (1167, .aload_n 1, 1, 0, 0), (1168, .aload_n 0, 1, 0, 0), (1169, .iload_n 3, 1, 0, 0), (1170, .iconst 1, 1, 0, 0), (1171, .iadd, 1, 0, 0), (1172, .iaload, 1, 0, 0), (1173, .invokevirtual 166, 3, 145, 1), (1176, .aload_n 2, 1, 0, 0), (1177, .aload_n 0, 1, 0, 0)]
def kL_12 : List ab_I := [(1178, .iload_n 3, 1, 0, 0), (1179, .iconst 1, 1, 0, 0), (1180, .iadd, 1, 0, 0), (1181, .iaload, 1, 0, 0), (1182, .invokevirtual 169, 3, 234, 1), (1185, .if_icmp .eq 285, 3, 1470, 0), (1188, .iconst 0, 1, 0, 0), (1189, .ireturn, 1, 0, 0), (1190, .aload_n 1, 1, 0, 0), (1191, .aload_n 0, 1, 0, 0), (1192, .iload_n 3, 1, 0, 0), (1193, .iconst 1, 1, 0, 0), (1194, .iadd, 1, 0, 0), (1195, .iaload, 1, 0, 0), (1196, .invokevirtual 170, 3, 146, 1), (1199, .aload_n 2, 1, 0, 0), (1200, .aload_n 0, 1, 0, 0), (1201, .iload_n 3, 1, 0, 0), (1202, .iconst 1, 1, 0, 0), (1203, .iadd, 1, 0, 0), (1204, .iaload, 1, 0, 0), (1205, .invokevirtual 173, 3, 235, 1), (1208, .if_icmp .eq 262, 3, 1470, 0), (1211, .iconst 0, 1, 0, 0), (1212, .ireturn, 1, 0, 0), (1213, .aload_n 1, 1, 0, 0), (1214, .aload_n 0, 1, 0, 0), (1215, .iload_n 3, 1, 0, 0), (1216, .iconst 1, 1, 0, 0), (1217, .iadd, 1, 0, 0), (1218, .iaload, 1, 0, 0), (1219, .invokevirtual 174, 3, 147, 1), (1222, .aload_n 2, 1, 0, 0), (1223, .aload_n 0, 1, 0, 0), (1224, .iload_n 3, 1, 0, 0), (1225, .iconst 1, 1, 0, 0), (1226, .iadd, 1, 0, 0), (1227, .iaload, 1, 0, 0), (1228, .invokevirtual 177, 3, 237, 1), (1231, .if_icmp .eq 239, 3, 1470, 0), (1234, .iconst 0, 1, 0, 0), (1235, .ireturn, 1, 0, 0), (1236, .aload_n 1, 1, 0, 0), (1237, .aload_n 0, 1, 0, 0), (1238, .iload_n 3, 1, 0, 0), (1239, .iconst 1, 1, 0, 0), (1240, .iadd, 1, 0, 0), (1241, .iaload, 1, 0, 0), (1242, .invokevirtual 178, 3, 148, 1), (1245, .aload_n 2, 1, 0, 0), (1246, .aload_n 0, 1, 0, 0), (1247, .iload_n 3, 1, 0, 0), (1248, .iconst 1, 1, 0, 0), (1249, .iadd, 1, 0, 0), (1250, .iaload, 1, 0, 0), (1251, .invokevirtual 181, 3, 238, 1), (1254, .if_icmp .eq 216, 3, 1470, 0), (1257, .iconst 0, 1, 0, 0), (1258, .ireturn, 1, 0, 0), (1259, .aload_n 1, 1, 0, 0)]
def kL_13 : List ab_I := [(1260, .aload_n 0, 1, 0, 0), (1261, .iload_n 3, 1, 0, 0), (1262, .iconst 1, 1, 0, 0), (1263, .iadd, 1, 0, 0), (1264, .iaload, 1, 0, 0), (1265, .aload_n 0, 1, 0, 0), (1266, .iload_n 3, 1, 0, 0), (1267, .iconst 2, 1, 0, 0), (1268, .iadd, 1, 0, 0), (1269, .iaload, 1, 0, 0), (1270, .aload_n 0, 1, 0, 0), (1271, .iload_n 3, 1, 0, 0), (1272, .iconst 3, 1, 0, 0), (1273, .iadd, 1, 0, 0), (1274, .iaload, 1, 0, 0), (1275, .invokevirtual 182, 3, 149, 3), (1278, .aload_n 2, 1, 0, 0), (1279, .aload_n 0, 1, 0, 0), (1280, .iload_n 3, 1, 0, 0), (1281, .iconst 1, 1, 0, 0), (1282, .iadd, 1, 0, 0), (1283, .iaload, 1, 0, 0), (1284, .aload_n 0, 1, 0, 0), (1285, .iload_n 3, 1, 0, 0), (1286, .iconst 2, 1, 0, 0), (1287, .iadd, 1, 0, 0), (1288, .iaload, 1, 0, 0), (1289, .aload_n 0, 1, 0, 0), (1290, .iload_n 3, 1, 0, 0), (1291, .iconst 3, 1, 0, 0), (1292, .iadd, 1, 0, 0), (1293, .iaload, 1, 0, 0), (1294, .invokevirtual 186, 3, 240, 3), (1297, .if_icmp .eq 173, 3, 1470, 0), (1300, .iconst 0, 1, 0, 0), (1301, .ireturn, 1, 0, 0), (1302, .aload_n 1, 1, 0, 0), (1303, .aload_n 0, 1, 0, 0), (1304, .iload_n 3, 1, 0, 0), (1305, .iconst 1, 1, 0, 0), (1306, .iadd, 1, 0, 0), (1307, .iaload, 1, 0, 0), (1308, .aload_n 0, 1, 0, 0), (1309, .iload_n 3, 1, 0, 0), (1310, .iconst 2, 1, 0, 0), (1311, .iadd, 1, 0, 0), (1312, .iaload, 1, 0, 0), (1313, .invokevirtual 187, 3, 150, 2), (1316, .aload_n 2, 1, 0, 0), (1317, .aload_n 0, 1, 0, 0), (1318, .iload_n 3, 1, 0, 0), (1319, .iconst 1, 1, 0, 0), (1320, .iadd, 1, 0, 0), (1321, .iaload, 1, 0, 0), (1322, .aload_n 0, 1, 0, 0), (1323, .iload_n 3, 1, 0, 0), (1324, .iconst 2, 1, 0, 0), (1325, .iadd, 1, 0, 0), (1326, .iaload, 1, 0, 0), (1327, .invokevirtual 190, 3, 241, 2)]
def kL_14 : List ab_I := [(1330, .if_icmp .eq 140, 3, 1470, 0), (1333, .iconst 0, 1, 0, 0), (1334, .ireturn, 1, 0, 0), (1335, .aload_n 1, 1, 0, 0), (1336, .aload_n 0, 1, 0, 0), (1337, .iload_n 3, 1, 0, 0), (1338, .iconst 1, 1, 0, 0), (1339, .iadd, 1, 0, 0), (1340, .iaload, 1, 0, 0), (1341, .invokevirtual 191, 3, 151, 1), (1344, .aload_n 2, 1, 0, 0), (1345, .aload_n 0, 1, 0, 0), (1346, .iload_n 3, 1, 0, 0), (1347, .iconst 1, 1, 0, 0), (1348, .iadd, 1, 0, 0), (1349, .iaload, 1, 0, 0), (1350, .invokevirtual 194, 3, 242, 1), (1353, .if_icmp .eq 117, 3, 1470, 0), (1356, .iconst 0, 1, 0, 0), (1357, .ireturn, 1, 0, 0), (1358, .aload_n 1, 1, 0, 0), (1359, .aload_n 0, 1, 0, 0), (1360, .iload_n 3, 1, 0, 0), (1361, .iconst 1, 1, 0, 0), (1362, .iadd, 1, 0, 0), (1363, .iaload, 1, 0, 0), (1364, .invokevirtual 195, 3, 152, 1), (1367, .aload_n 2, 1, 0, 0), (1368, .aload_n 0, 1, 0, 0), (1369, .iload_n 3, 1, 0, 0), (1370, .iconst 1, 1, 0, 0), (1371, .iadd, 1, 0, 0), (1372, .iaload, 1, 0, 0), (1373, .invokevirtual 198, 3, 243, 1), (1376, .if_icmp .eq 94, 3, 1470, 0), (1379, .iconst 0, 1, 0, 0), (1380, .ireturn, 1, 0, 0), (1381, .aload_n 1, 1, 0, 0), (1382, .aload_n 0, 1, 0, 0), (1383, .iload_n 3, 1, 0, 0), (1384, .iconst 1, 1, 0, 0), (1385, .iadd, 1, 0, 0), (1386, .iaload, 1, 0, 0), (1387, .aload_n 0, 1, 0, 0), (1388, .iload_n 3, 1, 0, 0), (1389, .iconst 2, 1, 0, 0), (1390, .iadd, 1, 0, 0), (1391, .iaload, 1, 0, 0), (1392, .invokevirtual 199, 3, 153, 2), (1395, .aload_n 2, 1, 0, 0), (1396, .aload_n 0, 1, 0, 0), (1397, .iload_n 3, 1, 0, 0), (1398, .iconst 1, 1, 0, 0), (1399, .iadd, 1, 0, 0), (1400, .iaload, 1, 0, 0), (1401, .aload_n 0, 1, 0, 0), (1402, .iload_n 3, 1, 0, 0), (1403, .iconst 2, 1, 0, 0), (1404, .iadd, 1, 0, 0), (1405, .iaload, 1, 0, 0)]
def kL_15 : List ab_I := [(1406, .invokevirtual 202, 3, 244, 2), (1409, .if_icmp .eq 61, 3, 1470, 0), (1412, .iconst 0, 1, 0, 0), (1413, .ireturn, 1, 0, 0), (1414, .aload_n 1, 1, 0, 0), (1415, .aload_n 0, 1, 0, 0), (1416, .iload_n 3, 1, 0, 0), (1417, .iconst 1, 1, 0, 0), (1418, .iadd, 1, 0, 0), (1419, .iaload, 1, 0, 0), (1420, .invokevirtual 203, 3, 154, 1), (1423, .aload_n 2, 1, 0, 0), (1424, .aload_n 0, 1, 0, 0), (1425, .iload_n 3, 1, 0, 0), (1426, .iconst 1, 1, 0, 0), (1427, .iadd, 1, 0, 0), (1428, .iaload, 1, 0, 0), (1429, .invokevirtual 206, 3, 247, 1), (1432, .if_icmp .eq 38, 3, 1470, 0), (1435, .iconst 0, 1, 0, 0), (1436, .ireturn, 1, 0, 0), (1437, .aload_n 1, 1, 0, 0), (1438, .aload_n 0, 1, 0, 0), (1439, .iload_n 3, 1, 0, 0), (1440, .iconst 1, 1, 0, 0), (1441, .iadd, 1, 0, 0), (1442, .iaload, 1, 0, 0), (1443, .aload_n 0, 1, 0, 0), (1444, .iload_n 3, 1, 0, 0), (1445, .iconst 2, 1, 0, 0), (1446, .iadd, 1, 0, 0), (1447, .iaload, 1, 0, 0), (1448, .invokevirtual 207, 3, 155, 2), (1451, .aload_n 2, 1, 0, 0), (1452, .aload_n 0, 1, 0, 0), (1453, .iload_n 3, 1, 0, 0), (1454, .iconst 1, 1, 0, 0), (1455, .iadd, 1, 0, 0), (1456, .iaload, 1, 0, 0), (1457, .aload_n 0, 1, 0, 0), (1458, .iload_n 3, 1, 0, 0), (1459, .iconst 2, 1, 0, 0), (1460, .iadd, 1, 0, 0), (1461, .iaload, 1, 0, 0), (1462, .invokevirtual 210, 3, 248, 2), (1465, .if_icmp .eq 5, 3, 1470, 0), (1468, .iconst 0, 1, 0, 0), (1469, .ireturn, 1, 0, 0), (1470, .iinc 3 6, 3, 0, 0), (1473, .goto (-1455), 3, 18, 0), (1476, .iconst 1, 1, 0, 0), (1477, .ireturn, 1, 0, 0)]
set_option maxRecDepth 20000 in
theorem kL_all : kL = kL_0 ++ (kL_1 ++ (kL_2 ++ (kL_3 ++ (kL_4 ++ (kL_5 ++ (kL_6 ++ (kL_7 ++ (kL_8 ++ (kL_9 ++ (kL_10 ++ (kL_11 ++ (kL_12 ++ (kL_13 ++ (kL_14 ++ (kL_15))))))))))))))) := rfl
set_option maxRecDepth 20000 in
theorem uv_L_0 : ab_okV uw vwCl prg R_law (13, 108, 5) := ⟨mX10_feed, rfl, (uw_m2 167 rfl rfl), (uw_m2 168 rfl rfl), (uw_m2 169 rfl rfl), ⟨TX10, 8, rfl⟩, by decide +kernel⟩
set_option maxRecDepth 20000 in
theorem uv_L_1 : ab_okV uw vwCl prg R_law (17, 158, 5) := ⟨mX11_feed, rfl, (uw_m6 113 rfl rfl), (uw_m6 114 rfl rfl), (uw_m6 115 rfl rfl), ⟨TX11, 74, rfl⟩, by decide +kernel⟩
set_option maxRecDepth 20000 in
theorem uv_L_2 : ab_okV uw vwCl prg R_law (18, 109, 1) := ⟨mX10_end, rfl, (uw_m2 175 rfl rfl), (uw_m2 176 rfl rfl), (uw_m2 177 rfl rfl), ⟨TX10, 8, rfl⟩, by decide +kernel⟩
set_option maxRecDepth 20000 in
theorem uv_L_3 : ab_okV uw vwCl prg R_law (22, 159, 1) := ⟨mX11_end, rfl, (uw_m6 117 rfl rfl), (uw_m6 118 rfl rfl), (uw_m6 119 rfl rfl), ⟨TX11, 74, rfl⟩, by decide +kernel⟩
set_option maxRecDepth 20000 in
theorem uv_L_4 : ab_okV uw vwCl prg R_law (23, 110, 0) := ⟨mX10_cut, rfl, (uw_m2 183 rfl rfl), (uw_m2 184 rfl rfl), (uw_m2 185 rfl rfl), ⟨TX10, 8, rfl⟩, by decide +kernel⟩
set_option maxRecDepth 20000 in
theorem uv_L_5 : ab_okV uw vwCl prg R_law (27, 160, 0) := ⟨mX11_cut, rfl, (uw_m6 121 rfl rfl), (uw_m6 122 rfl rfl), (uw_m6 123 rfl rfl), ⟨TX11, 74, rfl⟩, by decide +kernel⟩
set_option maxRecDepth 20000 in
theorem uv_L_6 : ab_okV uw vwCl prg R_law (28, 111, 0) := ⟨mX10_clear, rfl, (uw_m2 194 rfl rfl), (uw_m2 195 rfl rfl), (uw_m2 196 rfl rfl), ⟨TX10, 8, rfl⟩, by decide +kernel⟩
set_option maxRecDepth 20000 in
theorem uv_L_7 : ab_okV uw vwCl prg R_law (31, 161, 0) := ⟨mX11_clear, rfl, (uw_m6 125 rfl rfl), (uw_m6 126 rfl rfl), (uw_m6 127 rfl rfl), ⟨TX11, 74, rfl⟩, by decide +kernel⟩
set_option maxRecDepth 20000 in
theorem uv_L_8 : ab_okV uw vwCl prg R_law (32, 112, 1) := ⟨mX10_build, rfl, (uw_m2 202 rfl rfl), (uw_m2 203 rfl rfl), (uw_m2 204 rfl rfl), ⟨TX10, 8, rfl⟩, by decide +kernel⟩
set_option maxRecDepth 20000 in
theorem uv_L_9 : ab_okV uw vwCl prg R_law (35, 166, 1) := ⟨mX11_build, rfl, (uw_m6 129 rfl rfl), (uw_m6 130 rfl rfl), (uw_m6 131 rfl rfl), ⟨TX11, 74, rfl⟩, by decide +kernel⟩
set_option maxRecDepth 20000 in
theorem uv_L_10 : ab_okV uw vwCl prg R_law (36, 113, 1) := ⟨mX10_place, rfl, (uw_m3 58 rfl rfl), (uw_m3 59 rfl rfl), (uw_m3 60 rfl rfl), ⟨TX10, 8, rfl⟩, by decide +kernel⟩
set_option maxRecDepth 20000 in
theorem uv_L_11 : ab_okV uw vwCl prg R_law (39, 172, 1) := ⟨mX11_place, rfl, (uw_m6 153 rfl rfl), (uw_m6 154 rfl rfl), (uw_m6 155 rfl rfl), ⟨TX11, 74, rfl⟩, by decide +kernel⟩
set_option maxRecDepth 20000 in
theorem uv_L_12 : ab_okV uw vwCl prg R_law (40, 114, 1) := ⟨mX10_row, rfl, (uw_m3 70 rfl rfl), (uw_m3 71 rfl rfl), (uw_m3 72 rfl rfl), ⟨TX10, 8, rfl⟩, by decide +kernel⟩
set_option maxRecDepth 20000 in
theorem uv_L_13 : ab_okV uw vwCl prg R_law (43, 173, 1) := ⟨mX11_row, rfl, (uw_m6 165 rfl rfl), (uw_m6 166 rfl rfl), (uw_m6 167 rfl rfl), ⟨TX11, 74, rfl⟩, by decide +kernel⟩
set_option maxRecDepth 20000 in
theorem uv_L_14 : ab_okV uw vwCl prg R_law (44, 115, 1) := ⟨mX10_shared, rfl, (uw_m3 74 rfl rfl), (uw_m3 75 rfl rfl), (uw_m3 76 rfl rfl), ⟨TX10, 8, rfl⟩, by decide +kernel⟩
set_option maxRecDepth 20000 in
theorem uv_L_15 : ab_okV uw vwCl prg R_law (47, 174, 1) := ⟨mX11_shared, rfl, (uw_m6 169 rfl rfl), (uw_m6 170 rfl rfl), (uw_m6 171 rfl rfl), ⟨TX11, 74, rfl⟩, by decide +kernel⟩
set_option maxRecDepth 20000 in
theorem uv_L_16 : ab_okV uw vwCl prg R_law (48, 116, 1) := ⟨mX10_before, rfl, (uw_m3 78 rfl rfl), (uw_m3 79 rfl rfl), (uw_m3 80 rfl rfl), ⟨TX10, 8, rfl⟩, by decide +kernel⟩
set_option maxRecDepth 20000 in
theorem uv_L_17 : ab_okV uw vwCl prg R_law (51, 176, 1) := ⟨mX11_before, rfl, (uw_m6 173 rfl rfl), (uw_m6 174 rfl rfl), (uw_m6 175 rfl rfl), ⟨TX11, 74, rfl⟩, by decide +kernel⟩
set_option maxRecDepth 20000 in
theorem uv_L_18 : ab_okV uw vwCl prg R_law (52, 117, 1) := ⟨mX10_step, rfl, (uw_m3 82 rfl rfl), (uw_m3 83 rfl rfl), (uw_m3 84 rfl rfl), ⟨TX10, 8, rfl⟩, by decide +kernel⟩
set_option maxRecDepth 20000 in
theorem uv_L_19 : ab_okV uw vwCl prg R_law (55, 177, 1) := ⟨mX11_step, rfl, (uw_m6 181 rfl rfl), (uw_m6 182 rfl rfl), (uw_m6 183 rfl rfl), ⟨TX11, 74, rfl⟩, by decide +kernel⟩
set_option maxRecDepth 20000 in
theorem uv_L_20 : ab_okV uw vwCl prg R_law (56, 118, 2) := ⟨mX10_rank, rfl, (uw_m3 90 rfl rfl), (uw_m3 91 rfl rfl), (uw_m3 92 rfl rfl), ⟨TX10, 8, rfl⟩, by decide +kernel⟩
set_option maxRecDepth 20000 in
theorem uv_L_21 : ab_okV uw vwCl prg R_law (60, 178, 2) := ⟨mX11_rank, rfl, (uw_m6 185 rfl rfl), (uw_m6 186 rfl rfl), (uw_m6 187 rfl rfl), ⟨TX11, 74, rfl⟩, by decide +kernel⟩
set_option maxRecDepth 20000 in
theorem uv_L_22 : ab_okV uw vwCl prg R_law (61, 119, 2) := ⟨mX10_select, rfl, (uw_m3 101 rfl rfl), (uw_m3 102 rfl rfl), (uw_m3 103 rfl rfl), ⟨TX10, 8, rfl⟩, by decide +kernel⟩
set_option maxRecDepth 20000 in
theorem uv_L_23 : ab_okV uw vwCl prg R_law (64, 179, 2) := ⟨mX11_select, rfl, (uw_m6 192 rfl rfl), (uw_m6 193 rfl rfl), (uw_m6 194 rfl rfl), ⟨TX11, 74, rfl⟩, by decide +kernel⟩
set_option maxRecDepth 20000 in
theorem uv_L_24 : ab_okV uw vwCl prg R_law (65, 120, 1) := ⟨mX10_byteAt, rfl, (uw_m3 109 rfl rfl), (uw_m3 110 rfl rfl), (uw_m3 111 rfl rfl), ⟨TX10, 8, rfl⟩, by decide +kernel⟩
set_option maxRecDepth 20000 in
theorem uv_L_25 : ab_okV uw vwCl prg R_law (68, 180, 1) := ⟨mX11_byteAt, rfl, (uw_m6 196 rfl rfl), (uw_m6 197 rfl rfl), (uw_m6 198 rfl rfl), ⟨TX11, 74, rfl⟩, by decide +kernel⟩
set_option maxRecDepth 20000 in
theorem uv_L_26 : ab_okV uw vwCl prg R_law (69, 121, 2) := ⟨mX10_document, rfl, (uw_m3 117 rfl rfl), (uw_m3 118 rfl rfl), (uw_m3 119 rfl rfl), ⟨TX10, 8, rfl⟩, by decide +kernel⟩
set_option maxRecDepth 20000 in
theorem uv_L_27 : ab_okV uw vwCl prg R_law (72, 181, 2) := ⟨mX11_document, rfl, (uw_m6 200 rfl rfl), (uw_m6 201 rfl rfl), (uw_m6 202 rfl rfl), ⟨TX11, 74, rfl⟩, by decide +kernel⟩
set_option maxRecDepth 20000 in
theorem uv_L_28 : ab_okV uw vwCl prg R_law (73, 122, 2) := ⟨mX10_alike, rfl, (uw_m3 129 rfl rfl), (uw_m3 130 rfl rfl), (uw_m3 131 rfl rfl), ⟨TX10, 8, rfl⟩, by decide +kernel⟩
set_option maxRecDepth 20000 in
theorem uv_L_29 : ab_okV uw vwCl prg R_law (76, 183, 2) := ⟨mX11_alike, rfl, (uw_m6 208 rfl rfl), (uw_m6 209 rfl rfl), (uw_m6 210 rfl rfl), ⟨TX11, 74, rfl⟩, by decide +kernel⟩
set_option maxRecDepth 20000 in
theorem uv_L_30 : ab_okV uw vwCl prg R_law (77, 123, 0) := ⟨mX10_begin, rfl, (uw_m3 138 rfl rfl), (uw_m3 139 rfl rfl), (uw_m3 140 rfl rfl), ⟨TX10, 8, rfl⟩, by decide +kernel⟩
set_option maxRecDepth 20000 in
theorem uv_L_31 : ab_okV uw vwCl prg R_law (80, 185, 0) := ⟨mX11_begin, rfl, (uw_m6 220 rfl rfl), (uw_m6 221 rfl rfl), (uw_m6 222 rfl rfl), ⟨TX11, 74, rfl⟩, by decide +kernel⟩
set_option maxRecDepth 20000 in
theorem uv_L_32 : ab_okV uw vwCl prg R_law (81, 124, 1) := ⟨mX10_grow, rfl, (uw_m3 146 rfl rfl), (uw_m3 147 rfl rfl), (uw_m3 148 rfl rfl), ⟨TX10, 8, rfl⟩, by decide +kernel⟩
set_option maxRecDepth 20000 in
theorem uv_L_33 : ab_okV uw vwCl prg R_law (84, 188, 1) := ⟨mX11_grow, rfl, (uw_m6 224 rfl rfl), (uw_m6 225 rfl rfl), (uw_m6 226 rfl rfl), ⟨TX11, 74, rfl⟩, by decide +kernel⟩
set_option maxRecDepth 20000 in
theorem uv_L_34 : ab_okV uw vwCl prg R_law (85, 125, 1) := ⟨mX10_front, rfl, (uw_m3 159 rfl rfl), (uw_m3 160 rfl rfl), (uw_m3 161 rfl rfl), ⟨TX10, 8, rfl⟩, by decide +kernel⟩
set_option maxRecDepth 20000 in
theorem uv_L_35 : ab_okV uw vwCl prg R_law (88, 189, 1) := ⟨mX11_front, rfl, (uw_m6 228 rfl rfl), (uw_m6 229 rfl rfl), (uw_m6 230 rfl rfl), ⟨TX11, 74, rfl⟩, by decide +kernel⟩
set_option maxRecDepth 20000 in
theorem uv_L_36 : ab_okV uw vwCl prg R_law (89, 126, 0) := ⟨mX10_back, rfl, (uw_m3 163 rfl rfl), (uw_m3 164 rfl rfl), (uw_m3 165 rfl rfl), ⟨TX10, 8, rfl⟩, by decide +kernel⟩
set_option maxRecDepth 20000 in
theorem uv_L_37 : ab_okV uw vwCl prg R_law (92, 190, 0) := ⟨mX11_back, rfl, (uw_m6 232 rfl rfl), (uw_m6 233 rfl rfl), (uw_m6 234 rfl rfl), ⟨TX11, 74, rfl⟩, by decide +kernel⟩
set_option maxRecDepth 20000 in
theorem uv_L_38 : ab_okV uw vwCl prg R_law (93, 127, 1) := ⟨mX10_pattern, rfl, (uw_m3 171 rfl rfl), (uw_m3 172 rfl rfl), (uw_m3 173 rfl rfl), ⟨TX10, 8, rfl⟩, by decide +kernel⟩
set_option maxRecDepth 20000 in
theorem uv_L_39 : ab_okV uw vwCl prg R_law (96, 191, 1) := ⟨mX11_pattern, rfl, (uw_m7 0 rfl rfl), (uw_m7 1 rfl rfl), (uw_m7 2 rfl rfl), ⟨TX11, 74, rfl⟩, by decide +kernel⟩
set_option maxRecDepth 20000 in
theorem uv_L_40 : ab_okV uw vwCl prg R_law (97, 128, 1) := ⟨mX10_patternByte, rfl, (uw_m3 175 rfl rfl), (uw_m3 176 rfl rfl), (uw_m3 177 rfl rfl), ⟨TX10, 8, rfl⟩, by decide +kernel⟩
set_option maxRecDepth 20000 in
theorem uv_L_41 : ab_okV uw vwCl prg R_law (100, 192, 1) := ⟨mX11_patternByte, rfl, (uw_m7 4 rfl rfl), (uw_m7 5 rfl rfl), (uw_m7 6 rfl rfl), ⟨TX11, 74, rfl⟩, by decide +kernel⟩
set_option maxRecDepth 20000 in
theorem uv_L_42 : ab_okV uw vwCl prg R_law (101, 129, 1) := ⟨mX10_at, rfl, (uw_m3 179 rfl rfl), (uw_m3 180 rfl rfl), (uw_m3 181 rfl rfl), ⟨TX10, 8, rfl⟩, by decide +kernel⟩
set_option maxRecDepth 20000 in
theorem uv_L_43 : ab_okV uw vwCl prg R_law (104, 193, 1) := ⟨mX11_at, rfl, (uw_m7 8 rfl rfl), (uw_m7 9 rfl rfl), (uw_m7 10 rfl rfl), ⟨TX11, 74, rfl⟩, by decide +kernel⟩
set_option maxRecDepth 20000 in
theorem uv_L_44 : ab_okV uw vwCl prg R_law (105, 130, 1) := ⟨mX10_sorted, rfl, (uw_m3 183 rfl rfl), (uw_m3 184 rfl rfl), (uw_m3 185 rfl rfl), ⟨TX10, 8, rfl⟩, by decide +kernel⟩
set_option maxRecDepth 20000 in
theorem uv_L_45 : ab_okV uw vwCl prg R_law (108, 195, 1) := ⟨mX11_sorted, rfl, (uw_m7 13 rfl rfl), (uw_m7 14 rfl rfl), (uw_m7 15 rfl rfl), ⟨TX11, 74, rfl⟩, by decide +kernel⟩
set_option maxRecDepth 20000 in
theorem uv_L_46 : ab_okV uw vwCl prg R_law (109, 131, 2) := ⟨mX10_more, rfl, (uw_m3 191 rfl rfl), (uw_m3 192 rfl rfl), (uw_m3 193 rfl rfl), ⟨TX10, 8, rfl⟩, by decide +kernel⟩
set_option maxRecDepth 20000 in
theorem uv_L_47 : ab_okV uw vwCl prg R_law (113, 196, 2) := ⟨mX11_more, rfl, (uw_m7 21 rfl rfl), (uw_m7 22 rfl rfl), (uw_m7 23 rfl rfl), ⟨TX11, 74, rfl⟩, by decide +kernel⟩
set_option maxRecDepth 20000 in
theorem uv_L_48 : ab_okV uw vwCl prg R_law (114, 132, 1) := ⟨mX10_ranked, rfl, (uw_m3 202 rfl rfl), (uw_m3 203 rfl rfl), (uw_m3 204 rfl rfl), ⟨TX10, 8, rfl⟩, by decide +kernel⟩
set_option maxRecDepth 20000 in
theorem uv_L_49 : ab_okV uw vwCl prg R_law (117, 198, 1) := ⟨mX11_ranked, rfl, (uw_m7 25 rfl rfl), (uw_m7 26 rfl rfl), (uw_m7 27 rfl rfl), ⟨TX11, 74, rfl⟩, by decide +kernel⟩
set_option maxRecDepth 20000 in
theorem uv_L_50 : ab_okV uw vwCl prg R_law (118, 133, 1) := ⟨mX10_times, rfl, (uw_m3 219 rfl rfl), (uw_m3 220 rfl rfl), (uw_m3 221 rfl rfl), ⟨TX10, 8, rfl⟩, by decide +kernel⟩
set_option maxRecDepth 20000 in
theorem uv_L_51 : ab_okV uw vwCl prg R_law (121, 199, 1) := ⟨mX11_times, rfl, (uw_m7 33 rfl rfl), (uw_m7 34 rfl rfl), (uw_m7 35 rfl rfl), ⟨TX11, 74, rfl⟩, by decide +kernel⟩
set_option maxRecDepth 20000 in
theorem uv_L_52 : ab_okV uw vwCl prg R_law (122, 134, 2) := ⟨mX10_take, rfl, (uw_m3 227 rfl rfl), (uw_m3 228 rfl rfl), (uw_m3 229 rfl rfl), ⟨TX10, 8, rfl⟩, by decide +kernel⟩
set_option maxRecDepth 20000 in
theorem uv_L_53 : ab_okV uw vwCl prg R_law (125, 200, 2) := ⟨mX11_take, rfl, (uw_m7 37 rfl rfl), (uw_m7 38 rfl rfl), (uw_m7 39 rfl rfl), ⟨TX11, 74, rfl⟩, by decide +kernel⟩
set_option maxRecDepth 20000 in
theorem uv_L_54 : ab_okV uw vwCl prg R_law (126, 135, 1) := ⟨mX10_near, rfl, (uw_m3 231 rfl rfl), (uw_m3 232 rfl rfl), (uw_m3 233 rfl rfl), ⟨TX10, 8, rfl⟩, by decide +kernel⟩
set_option maxRecDepth 20000 in
theorem uv_L_55 : ab_okV uw vwCl prg R_law (129, 201, 1) := ⟨mX11_near, rfl, (uw_m7 45 rfl rfl), (uw_m7 46 rfl rfl), (uw_m7 47 rfl rfl), ⟨TX11, 74, rfl⟩, by decide +kernel⟩
set_option maxRecDepth 20000 in
theorem uv_L_56 : ab_okV uw vwCl prg R_law (130, 136, 2) := ⟨mX10_nearOf, rfl, (uw_m4 4 rfl rfl), (uw_m4 5 rfl rfl), (uw_m4 6 rfl rfl), ⟨TX10, 8, rfl⟩, by decide +kernel⟩
set_option maxRecDepth 20000 in
theorem uv_L_57 : ab_okV uw vwCl prg R_law (133, 202, 2) := ⟨mX11_nearOf, rfl, (uw_m7 49 rfl rfl), (uw_m7 50 rfl rfl), (uw_m7 51 rfl rfl), ⟨TX11, 74, rfl⟩, by decide +kernel⟩
set_option maxRecDepth 20000 in
theorem uv_L_58 : ab_okV uw vwCl prg R_law (134, 137, 1) := ⟨mX10_ask, rfl, (uw_m4 8 rfl rfl), (uw_m4 9 rfl rfl), (uw_m4 10 rfl rfl), ⟨TX10, 8, rfl⟩, by decide +kernel⟩
set_option maxRecDepth 20000 in
theorem uv_L_59 : ab_okV uw vwCl prg R_law (137, 203, 1) := ⟨mX11_ask, rfl, (uw_m7 53 rfl rfl), (uw_m7 54 rfl rfl), (uw_m7 55 rfl rfl), ⟨TX11, 74, rfl⟩, by decide +kernel⟩
set_option maxRecDepth 20000 in
theorem uv_L_60 : ab_okV uw vwCl prg R_law (138, 138, 0) := ⟨mX10_answer, rfl, (uw_m4 16 rfl rfl), (uw_m4 17 rfl rfl), (uw_m4 18 rfl rfl), ⟨TX10, 8, rfl⟩, by decide +kernel⟩
set_option maxRecDepth 20000 in
theorem uv_L_61 : ab_okV uw vwCl prg R_law (141, 225, 0) := ⟨mX11_answer, rfl, (uw_m7 57 rfl rfl), (uw_m7 58 rfl rfl), (uw_m7 59 rfl rfl), ⟨TX11, 74, rfl⟩, by decide +kernel⟩
set_option maxRecDepth 20000 in
theorem uv_L_62 : ab_okV uw vwCl prg R_law (142, 139, 2) := ⟨mX10_answered, rfl, (uw_m4 180 rfl rfl), (uw_m4 181 rfl rfl), (uw_m4 182 rfl rfl), ⟨TX10, 8, rfl⟩, by decide +kernel⟩
set_option maxRecDepth 20000 in
theorem uv_L_63 : ab_okV uw vwCl prg R_law (145, 226, 2) := ⟨mX11_answered, rfl, (uw_m7 147 rfl rfl), (uw_m7 148 rfl rfl), (uw_m7 149 rfl rfl), ⟨TX11, 74, rfl⟩, by decide +kernel⟩
set_option maxRecDepth 20000 in
theorem uv_L_64 : ab_okV uw vwCl prg R_law (146, 140, 1) := ⟨mX10_different, rfl, (uw_m4 188 rfl rfl), (uw_m4 189 rfl rfl), (uw_m4 190 rfl rfl), ⟨TX10, 8, rfl⟩, by decide +kernel⟩
set_option maxRecDepth 20000 in
theorem uv_L_65 : ab_okV uw vwCl prg R_law (149, 228, 1) := ⟨mX11_different, rfl, (uw_m7 151 rfl rfl), (uw_m7 152 rfl rfl), (uw_m7 153 rfl rfl), ⟨TX11, 74, rfl⟩, by decide +kernel⟩
set_option maxRecDepth 20000 in
theorem uv_L_66 : ab_okV uw vwCl prg R_law (150, 141, 1) := ⟨mX10_kth, rfl, (uw_m4 205 rfl rfl), (uw_m4 206 rfl rfl), (uw_m4 207 rfl rfl), ⟨TX10, 8, rfl⟩, by decide +kernel⟩
set_option maxRecDepth 20000 in
theorem uv_L_67 : ab_okV uw vwCl prg R_law (153, 229, 1) := ⟨mX11_kth, rfl, (uw_m7 159 rfl rfl), (uw_m7 160 rfl rfl), (uw_m7 161 rfl rfl), ⟨TX11, 74, rfl⟩, by decide +kernel⟩
set_option maxRecDepth 20000 in
theorem uv_L_68 : ab_okV uw vwCl prg R_law (154, 142, 0) := ⟨mX10_order, rfl, (uw_m4 214 rfl rfl), (uw_m4 215 rfl rfl), (uw_m4 216 rfl rfl), ⟨TX10, 8, rfl⟩, by decide +kernel⟩
set_option maxRecDepth 20000 in
theorem uv_L_69 : ab_okV uw vwCl prg R_law (157, 230, 0) := ⟨mX11_order, rfl, (uw_m7 163 rfl rfl), (uw_m7 164 rfl rfl), (uw_m7 165 rfl rfl), ⟨TX11, 74, rfl⟩, by decide +kernel⟩
set_option maxRecDepth 20000 in
theorem uv_L_70 : ab_okV uw vwCl prg R_law (158, 143, 1) := ⟨mX10_repeated, rfl, (uw_m4 222 rfl rfl), (uw_m4 223 rfl rfl), (uw_m4 224 rfl rfl), ⟨TX10, 8, rfl⟩, by decide +kernel⟩
set_option maxRecDepth 20000 in
theorem uv_L_71 : ab_okV uw vwCl prg R_law (161, 232, 1) := ⟨mX11_repeated, rfl, (uw_m7 167 rfl rfl), (uw_m7 168 rfl rfl), (uw_m7 169 rfl rfl), ⟨TX11, 74, rfl⟩, by decide +kernel⟩
set_option maxRecDepth 20000 in
theorem uv_L_72 : ab_okV uw vwCl prg R_law (162, 144, 1) := ⟨mX10_common, rfl, (uw_m4 235 rfl rfl), (uw_m4 236 rfl rfl), (uw_m4 237 rfl rfl), ⟨TX10, 8, rfl⟩, by decide +kernel⟩
set_option maxRecDepth 20000 in
theorem uv_L_73 : ab_okV uw vwCl prg R_law (165, 233, 1) := ⟨mX11_common, rfl, (uw_m7 175 rfl rfl), (uw_m7 176 rfl rfl), (uw_m7 177 rfl rfl), ⟨TX11, 74, rfl⟩, by decide +kernel⟩
set_option maxRecDepth 20000 in
theorem uv_L_74 : ab_okV uw vwCl prg R_law (166, 145, 1) := ⟨mX10_oftenest, rfl, (uw_m4 239 rfl rfl), (uw_m5 0 rfl rfl), (uw_m5 1 rfl rfl), ⟨TX10, 8, rfl⟩, by decide +kernel⟩
set_option maxRecDepth 20000 in
theorem uv_L_75 : ab_okV uw vwCl prg R_law (169, 234, 1) := ⟨mX11_oftenest, rfl, (uw_m7 179 rfl rfl), (uw_m7 180 rfl rfl), (uw_m7 181 rfl rfl), ⟨TX11, 74, rfl⟩, by decide +kernel⟩
set_option maxRecDepth 20000 in
theorem uv_L_76 : ab_okV uw vwCl prg R_law (170, 146, 1) := ⟨mX10_unique, rfl, (uw_m5 7 rfl rfl), (uw_m5 8 rfl rfl), (uw_m5 9 rfl rfl), ⟨TX10, 8, rfl⟩, by decide +kernel⟩
set_option maxRecDepth 20000 in
theorem uv_L_77 : ab_okV uw vwCl prg R_law (173, 235, 1) := ⟨mX11_unique, rfl, (uw_m7 183 rfl rfl), (uw_m7 184 rfl rfl), (uw_m7 185 rfl rfl), ⟨TX11, 74, rfl⟩, by decide +kernel⟩
set_option maxRecDepth 20000 in
theorem uv_L_78 : ab_okV uw vwCl prg R_law (174, 147, 1) := ⟨mX10_maximal, rfl, (uw_m5 15 rfl rfl), (uw_m5 16 rfl rfl), (uw_m5 17 rfl rfl), ⟨TX10, 8, rfl⟩, by decide +kernel⟩
set_option maxRecDepth 20000 in
theorem uv_L_79 : ab_okV uw vwCl prg R_law (177, 237, 1) := ⟨mX11_maximal, rfl, (uw_m7 187 rfl rfl), (uw_m7 188 rfl rfl), (uw_m7 189 rfl rfl), ⟨TX11, 74, rfl⟩, by decide +kernel⟩
set_option maxRecDepth 20000 in
theorem uv_L_80 : ab_okV uw vwCl prg R_law (178, 148, 1) := ⟨mX10_absent, rfl, (uw_m5 31 rfl rfl), (uw_m5 32 rfl rfl), (uw_m5 33 rfl rfl), ⟨TX10, 8, rfl⟩, by decide +kernel⟩
set_option maxRecDepth 20000 in
theorem uv_L_81 : ab_okV uw vwCl prg R_law (181, 238, 1) := ⟨mX11_absent, rfl, (uw_m7 195 rfl rfl), (uw_m7 196 rfl rfl), (uw_m7 197 rfl rfl), ⟨TX11, 74, rfl⟩, by decide +kernel⟩
set_option maxRecDepth 20000 in
theorem uv_L_82 : ab_okV uw vwCl prg R_law (182, 149, 3) := ⟨mX10_factor, rfl, (uw_m5 40 rfl rfl), (uw_m5 41 rfl rfl), (uw_m5 42 rfl rfl), ⟨TX10, 8, rfl⟩, by decide +kernel⟩
set_option maxRecDepth 20000 in
theorem uv_L_83 : ab_okV uw vwCl prg R_law (186, 240, 3) := ⟨mX11_factor, rfl, (uw_m7 199 rfl rfl), (uw_m7 200 rfl rfl), (uw_m7 201 rfl rfl), ⟨TX11, 74, rfl⟩, by decide +kernel⟩
set_option maxRecDepth 20000 in
theorem uv_L_84 : ab_okV uw vwCl prg R_law (187, 150, 2) := ⟨mX10_word, rfl, (uw_m5 57 rfl rfl), (uw_m5 58 rfl rfl), (uw_m5 59 rfl rfl), ⟨TX10, 8, rfl⟩, by decide +kernel⟩
set_option maxRecDepth 20000 in
theorem uv_L_85 : ab_okV uw vwCl prg R_law (190, 241, 2) := ⟨mX11_word, rfl, (uw_m7 207 rfl rfl), (uw_m7 208 rfl rfl), (uw_m7 209 rfl rfl), ⟨TX11, 74, rfl⟩, by decide +kernel⟩
set_option maxRecDepth 20000 in
theorem uv_L_86 : ab_okV uw vwCl prg R_law (191, 151, 1) := ⟨mX10_square, rfl, (uw_m5 73 rfl rfl), (uw_m5 74 rfl rfl), (uw_m5 75 rfl rfl), ⟨TX10, 8, rfl⟩, by decide +kernel⟩
set_option maxRecDepth 20000 in
theorem uv_L_87 : ab_okV uw vwCl prg R_law (194, 242, 1) := ⟨mX11_square, rfl, (uw_m7 211 rfl rfl), (uw_m7 212 rfl rfl), (uw_m7 213 rfl rfl), ⟨TX11, 74, rfl⟩, by decide +kernel⟩
set_option maxRecDepth 20000 in
theorem uv_L_88 : ab_okV uw vwCl prg R_law (195, 152, 1) := ⟨mX10_mirror, rfl, (uw_m5 85 rfl rfl), (uw_m5 86 rfl rfl), (uw_m5 87 rfl rfl), ⟨TX10, 8, rfl⟩, by decide +kernel⟩
set_option maxRecDepth 20000 in
theorem uv_L_89 : ab_okV uw vwCl prg R_law (198, 243, 1) := ⟨mX11_mirror, rfl, (uw_m7 215 rfl rfl), (uw_m7 216 rfl rfl), (uw_m7 217 rfl rfl), ⟨TX11, 74, rfl⟩, by decide +kernel⟩
set_option maxRecDepth 20000 in
theorem uv_L_90 : ab_okV uw vwCl prg R_law (199, 153, 2) := ⟨mX10_match, rfl, (uw_m5 93 rfl rfl), (uw_m5 94 rfl rfl), (uw_m5 95 rfl rfl), ⟨TX10, 8, rfl⟩, by decide +kernel⟩
set_option maxRecDepth 20000 in
theorem uv_L_91 : ab_okV uw vwCl prg R_law (202, 244, 2) := ⟨mX11_match, rfl, (uw_m7 219 rfl rfl), (uw_m7 220 rfl rfl), (uw_m7 221 rfl rfl), ⟨TX11, 74, rfl⟩, by decide +kernel⟩
set_option maxRecDepth 20000 in
theorem uv_L_92 : ab_okV uw vwCl prg R_law (203, 154, 1) := ⟨mX10_count, rfl, (uw_m5 101 rfl rfl), (uw_m5 102 rfl rfl), (uw_m5 103 rfl rfl), ⟨TX10, 8, rfl⟩, by decide +kernel⟩
set_option maxRecDepth 20000 in
theorem uv_L_93 : ab_okV uw vwCl prg R_law (206, 247, 1) := ⟨mX11_count, rfl, (uw_m7 223 rfl rfl), (uw_m7 224 rfl rfl), (uw_m7 225 rfl rfl), ⟨TX11, 74, rfl⟩, by decide +kernel⟩
set_option maxRecDepth 20000 in
theorem uv_L_94 : ab_okV uw vwCl prg R_law (207, 155, 2) := ⟨mX10_unwound, rfl, (uw_m5 117 rfl rfl), (uw_m5 118 rfl rfl), (uw_m5 119 rfl rfl), ⟨TX10, 8, rfl⟩, by decide +kernel⟩
set_option maxRecDepth 20000 in
theorem uv_L_95 : ab_okV uw vwCl prg R_law (210, 248, 2) := ⟨mX11_unwound, rfl, (uw_m7 235 rfl rfl), (uw_m7 236 rfl rfl), (uw_m7 237 rfl rfl), ⟨TX11, 74, rfl⟩, by decide +kernel⟩
def uvl_L : List ab_3 := [(13, 108, 5), (17, 158, 5), (18, 109, 1), (22, 159, 1), (23, 110, 0), (27, 160, 0), (28, 111, 0), (31, 161, 0), (32, 112, 1), (35, 166, 1), (36, 113, 1), (39, 172, 1), (40, 114, 1), (43, 173, 1), (44, 115, 1), (47, 174, 1), (48, 116, 1), (51, 176, 1), (52, 117, 1), (55, 177, 1), (56, 118, 2), (60, 178, 2), (61, 119, 2), (64, 179, 2), (65, 120, 1), (68, 180, 1), (69, 121, 2), (72, 181, 2), (73, 122, 2), (76, 183, 2), (77, 123, 0), (80, 185, 0), (81, 124, 1), (84, 188, 1), (85, 125, 1), (88, 189, 1), (89, 126, 0), (92, 190, 0), (93, 127, 1), (96, 191, 1), (97, 128, 1), (100, 192, 1), (101, 129, 1), (104, 193, 1), (105, 130, 1), (108, 195, 1), (109, 131, 2), (113, 196, 2), (114, 132, 1), (117, 198, 1), (118, 133, 1), (121, 199, 1), (122, 134, 2), (125, 200, 2), (126, 135, 1), (129, 201, 1), (130, 136, 2), (133, 202, 2), (134, 137, 1), (137, 203, 1), (138, 138, 0), (141, 225, 0), (142, 139, 2), (145, 226, 2), (146, 140, 1), (149, 228, 1), (150, 141, 1), (153, 229, 1), (154, 142, 0), (157, 230, 0), (158, 143, 1), (161, 232, 1), (162, 144, 1), (165, 233, 1), (166, 145, 1), (169, 234, 1), (170, 146, 1), (173, 235, 1), (174, 147, 1), (177, 237, 1), (178, 148, 1), (181, 238, 1), (182, 149, 3), (186, 240, 3), (187, 150, 2), (190, 241, 2), (191, 151, 1), (194, 242, 1), (195, 152, 1), (198, 243, 1), (199, 153, 2), (202, 244, 2), (203, 154, 1), (206, 247, 1), (207, 155, 2), (210, 248, 2)]
theorem uv_L : ∀ q ∈ uvl_L, ab_okV uw vwCl prg R_law q := List.forall_mem_cons.mpr ⟨uv_L_0, List.forall_mem_cons.mpr ⟨uv_L_1, List.forall_mem_cons.mpr ⟨uv_L_2, List.forall_mem_cons.mpr ⟨uv_L_3, List.forall_mem_cons.mpr ⟨uv_L_4, List.forall_mem_cons.mpr ⟨uv_L_5, List.forall_mem_cons.mpr ⟨uv_L_6, List.forall_mem_cons.mpr ⟨uv_L_7, List.forall_mem_cons.mpr ⟨uv_L_8, List.forall_mem_cons.mpr ⟨uv_L_9, List.forall_mem_cons.mpr ⟨uv_L_10, List.forall_mem_cons.mpr ⟨uv_L_11, List.forall_mem_cons.mpr ⟨uv_L_12, List.forall_mem_cons.mpr ⟨uv_L_13, List.forall_mem_cons.mpr ⟨uv_L_14, List.forall_mem_cons.mpr ⟨uv_L_15, List.forall_mem_cons.mpr ⟨uv_L_16, List.forall_mem_cons.mpr ⟨uv_L_17, List.forall_mem_cons.mpr ⟨uv_L_18, List.forall_mem_cons.mpr ⟨uv_L_19, List.forall_mem_cons.mpr ⟨uv_L_20, List.forall_mem_cons.mpr ⟨uv_L_21, List.forall_mem_cons.mpr ⟨uv_L_22, List.forall_mem_cons.mpr ⟨uv_L_23, List.forall_mem_cons.mpr ⟨uv_L_24, List.forall_mem_cons.mpr ⟨uv_L_25, List.forall_mem_cons.mpr ⟨uv_L_26, List.forall_mem_cons.mpr ⟨uv_L_27, List.forall_mem_cons.mpr ⟨uv_L_28, List.forall_mem_cons.mpr ⟨uv_L_29, List.forall_mem_cons.mpr ⟨uv_L_30, List.forall_mem_cons.mpr ⟨uv_L_31, List.forall_mem_cons.mpr ⟨uv_L_32, List.forall_mem_cons.mpr ⟨uv_L_33, List.forall_mem_cons.mpr ⟨uv_L_34, List.forall_mem_cons.mpr ⟨uv_L_35, List.forall_mem_cons.mpr ⟨uv_L_36, List.forall_mem_cons.mpr ⟨uv_L_37, List.forall_mem_cons.mpr ⟨uv_L_38, List.forall_mem_cons.mpr ⟨uv_L_39, List.forall_mem_cons.mpr ⟨uv_L_40, List.forall_mem_cons.mpr ⟨uv_L_41, List.forall_mem_cons.mpr ⟨uv_L_42, List.forall_mem_cons.mpr ⟨uv_L_43, List.forall_mem_cons.mpr ⟨uv_L_44, List.forall_mem_cons.mpr ⟨uv_L_45, List.forall_mem_cons.mpr ⟨uv_L_46, List.forall_mem_cons.mpr ⟨uv_L_47, List.forall_mem_cons.mpr ⟨uv_L_48, List.forall_mem_cons.mpr ⟨uv_L_49, List.forall_mem_cons.mpr ⟨uv_L_50, List.forall_mem_cons.mpr ⟨uv_L_51, List.forall_mem_cons.mpr ⟨uv_L_52, List.forall_mem_cons.mpr ⟨uv_L_53, List.forall_mem_cons.mpr ⟨uv_L_54, List.forall_mem_cons.mpr ⟨uv_L_55, List.forall_mem_cons.mpr ⟨uv_L_56, List.forall_mem_cons.mpr ⟨uv_L_57, List.forall_mem_cons.mpr ⟨uv_L_58, List.forall_mem_cons.mpr ⟨uv_L_59, List.forall_mem_cons.mpr ⟨uv_L_60, List.forall_mem_cons.mpr ⟨uv_L_61, List.forall_mem_cons.mpr ⟨uv_L_62, List.forall_mem_cons.mpr ⟨uv_L_63, List.forall_mem_cons.mpr ⟨uv_L_64, List.forall_mem_cons.mpr ⟨uv_L_65, List.forall_mem_cons.mpr ⟨uv_L_66, List.forall_mem_cons.mpr ⟨uv_L_67, List.forall_mem_cons.mpr ⟨uv_L_68, List.forall_mem_cons.mpr ⟨uv_L_69, List.forall_mem_cons.mpr ⟨uv_L_70, List.forall_mem_cons.mpr ⟨uv_L_71, List.forall_mem_cons.mpr ⟨uv_L_72, List.forall_mem_cons.mpr ⟨uv_L_73, List.forall_mem_cons.mpr ⟨uv_L_74, List.forall_mem_cons.mpr ⟨uv_L_75, List.forall_mem_cons.mpr ⟨uv_L_76, List.forall_mem_cons.mpr ⟨uv_L_77, List.forall_mem_cons.mpr ⟨uv_L_78, List.forall_mem_cons.mpr ⟨uv_L_79, List.forall_mem_cons.mpr ⟨uv_L_80, List.forall_mem_cons.mpr ⟨uv_L_81, List.forall_mem_cons.mpr ⟨uv_L_82, List.forall_mem_cons.mpr ⟨uv_L_83, List.forall_mem_cons.mpr ⟨uv_L_84, List.forall_mem_cons.mpr ⟨uv_L_85, List.forall_mem_cons.mpr ⟨uv_L_86, List.forall_mem_cons.mpr ⟨uv_L_87, List.forall_mem_cons.mpr ⟨uv_L_88, List.forall_mem_cons.mpr ⟨uv_L_89, List.forall_mem_cons.mpr ⟨uv_L_90, List.forall_mem_cons.mpr ⟨uv_L_91, List.forall_mem_cons.mpr ⟨uv_L_92, List.forall_mem_cons.mpr ⟨uv_L_93, List.forall_mem_cons.mpr ⟨uv_L_94, List.forall_mem_cons.mpr ⟨uv_L_95, fun _ h => absurd h List.not_mem_nil⟩⟩⟩⟩⟩⟩⟩⟩⟩⟩⟩⟩⟩⟩⟩⟩⟩⟩⟩⟩⟩⟩⟩⟩⟩⟩⟩⟩⟩⟩⟩⟩⟩⟩⟩⟩⟩⟩⟩⟩⟩⟩⟩⟩⟩⟩⟩⟩⟩⟩⟩⟩⟩⟩⟩⟩⟩⟩⟩⟩⟩⟩⟩⟩⟩⟩⟩⟩⟩⟩⟩⟩⟩⟩⟩⟩⟩⟩⟩⟩⟩⟩⟩⟩⟩⟩⟩⟩⟩⟩⟩⟩⟩⟩⟩⟩
def ab_bL (r : List ab_I) : Bool := r.all fun q => decide (decode code q.1 = .ok (q.2.1, q.2.2.1)) && (ab_bln q.2.1 q.2.2.1 && ab_bI vwCl [] [] uvl_L [] q.1 q.2.1 q.2.2.2.1 q.2.2.2.2)
def ab_okL (q : ab_I) : Prop := q.2.1 = .nop ∨ (decode code q.1 = .ok (q.2.1, q.2.2.1) ∧ ab_ln q.2.1 q.2.2.1 ∧ ab_lk uw vwCl prg R_law q.1 q.2.1 q.2.2.2.1 q.2.2.2.2)
theorem ab_bL_of {r : List ab_I} (h : ab_bL r = true) : ∀ q ∈ r, ab_okL q := by
  intro q hq
  simp only [ab_bL, List.all_eq_true, Bool.and_eq_true] at h
  obtain ⟨h1, h2, h3⟩ := h q hq
  exact Or.inr ⟨of_decide_eq_true h1, ab_bln_of h2, ab_bI_of (FL := []) (KL := []) (VL := uvl_L) (SL := []) (fun _ h => absurd h List.not_mem_nil) (fun _ h => absurd h List.not_mem_nil) uv_L (fun _ h => absurd h List.not_mem_nil) h3⟩
set_option maxRecDepth 20000 in
theorem kL_0_ok : ∀ q ∈ kL_0, ab_okL q := ab_bL_of (by decide +kernel)
set_option maxRecDepth 20000 in
theorem kL_1_ok : ∀ q ∈ kL_1, ab_okL q := ab_bL_of (by decide +kernel)
set_option maxRecDepth 20000 in
theorem kL_2_ok : ∀ q ∈ kL_2, ab_okL q := ab_bL_of (by decide +kernel)
set_option maxRecDepth 20000 in
theorem kL_3_ok : ∀ q ∈ kL_3, ab_okL q := ab_bL_of (by decide +kernel)
set_option maxRecDepth 20000 in
theorem kL_4_ok : ∀ q ∈ kL_4, ab_okL q := ab_bL_of (by decide +kernel)
set_option maxRecDepth 20000 in
theorem kL_5_ok : ∀ q ∈ kL_5, ab_okL q := ab_bL_of (by decide +kernel)
set_option maxRecDepth 20000 in
theorem kL_6_ok : ∀ q ∈ kL_6, ab_okL q := ab_bL_of (by decide +kernel)
set_option maxRecDepth 20000 in
theorem kL_7_ok : ∀ q ∈ kL_7, ab_okL q := ab_bL_of (by decide +kernel)
set_option maxRecDepth 20000 in
theorem kL_8_ok : ∀ q ∈ kL_8, ab_okL q := ab_bL_of (by decide +kernel)
set_option maxRecDepth 20000 in
theorem kL_9_ok : ∀ q ∈ kL_9, ab_okL q := ab_bL_of (by decide +kernel)
set_option maxRecDepth 20000 in
theorem kL_10_ok : ∀ q ∈ kL_10, ab_okL q := ab_bL_of (by decide +kernel)
set_option maxRecDepth 20000 in
theorem kL_11_ok : ∀ q ∈ kL_11, ab_okL q := ab_bL_of (by decide +kernel)
set_option maxRecDepth 20000 in
theorem kL_12_ok : ∀ q ∈ kL_12, ab_okL q := ab_bL_of (by decide +kernel)
set_option maxRecDepth 20000 in
theorem kL_13_ok : ∀ q ∈ kL_13, ab_okL q := ab_bL_of (by decide +kernel)
set_option maxRecDepth 20000 in
theorem kL_14_ok : ∀ q ∈ kL_14, ab_okL q := ab_bL_of (by decide +kernel)
set_option maxRecDepth 20000 in
theorem kL_15_ok : ∀ q ∈ kL_15, ab_okL q := ab_bL_of (by decide +kernel)
theorem kL_ok : ∀ q ∈ kL, ab_okL q := by
  intro q h
  rw [kL_all] at h
  rcases List.mem_append.mp h with h | h
  · exact kL_0_ok q h
  rcases List.mem_append.mp h with h | h
  · exact kL_1_ok q h
  rcases List.mem_append.mp h with h | h
  · exact kL_2_ok q h
  rcases List.mem_append.mp h with h | h
  · exact kL_3_ok q h
  rcases List.mem_append.mp h with h | h
  · exact kL_4_ok q h
  rcases List.mem_append.mp h with h | h
  · exact kL_5_ok q h
  rcases List.mem_append.mp h with h | h
  · exact kL_6_ok q h
  rcases List.mem_append.mp h with h | h
  · exact kL_7_ok q h
  rcases List.mem_append.mp h with h | h
  · exact kL_8_ok q h
  rcases List.mem_append.mp h with h | h
  · exact kL_9_ok q h
  rcases List.mem_append.mp h with h | h
  · exact kL_10_ok q h
  rcases List.mem_append.mp h with h | h
  · exact kL_11_ok q h
  rcases List.mem_append.mp h with h | h
  · exact kL_12_ok q h
  rcases List.mem_append.mp h with h | h
  · exact kL_13_ok q h
  rcases List.mem_append.mp h with h | h
  · exact kL_14_ok q h
  exact kL_15_ok q h
set_option maxRecDepth 20000 in
theorem kL_ch : ab_ch kL = true := by decide +kernel
end
section
/-! ===== the small machine of constructors: cells come one behind the other, at the places where the heap ends ===== -/
abbrev cn_K : Type := (Nat × Nat) ⊕ (Nat × List Value)
/-- cells made, slots made, all cells -/
abbrev cn_S : Type := Nat × Nat × List cn_K
/-- name, code, locals, cells and slots that it makes, rows -/
abbrev cn_M : Type := MethodName × ByteArray × Nat × Nat × Nat × List ab_I
def cn_E (ad : Nat → Nat) (dA : Nat → ClassId) : cn_K → va_E
  | .inl (t, n) => .inl (dA t, n, if t = 2 then .inr (.inl (fun _ => 0)) else .inl (fun _ => 0))
  | .inr (ci, fs) => .inr (ci, fs.map (ab_v ad))
def cn_W (ad : Nat → Nat) (dA : Nat → ClassId) (cs : List cn_K) : va_W := cs.mapIdx fun k x => (ad k, cn_E ad dA x)
theorem cn_W_get {ad : Nat → Nat} {dA : Nat → ClassId} {cs : List cn_K} {k : Nat} {x : cn_K} (h : cs[k]? = some x) : (cn_W ad dA cs)[k]? = some (ad k, cn_E ad dA x) := by
  simp [cn_W, List.getElem?_mapIdx, h]
theorem cn_W_some {ad : Nat → Nat} {dA : Nat → ClassId} {cs : List cn_K} {k : Nat} {q : Nat × va_E} (h : (cn_W ad dA cs)[k]? = some q) : ∃ x, cs[k]? = some x ∧ q = (ad k, cn_E ad dA x) := by
  simp only [cn_W, List.getElem?_mapIdx, Option.map_eq_some_iff] at h
  obtain ⟨x, h1, h2⟩ := h
  exact ⟨x, h1, h2.symm⟩
theorem cn_W_push {ad : Nat → Nat} {dA : Nat → ClassId} (cs : List cn_K) (x : cn_K) : cn_W ad dA (cs ++ [x]) = cn_W ad dA cs ++ [(ad cs.length, cn_E ad dA x)] := by
  simp [cn_W, List.mapIdx_append]
theorem cn_W_set {ad : Nat → Nat} {dA : Nat → ClassId} {cs : List cn_K} {q : Nat} (x : cn_K) : (cn_W ad dA cs).set q (ad q, cn_E ad dA x) = cn_W ad dA (cs.set q x) := by
  apply List.ext_getElem?
  intro k
  rw [List.getElem?_set]
  simp only [cn_W, List.getElem?_mapIdx, List.getElem?_set, List.length_mapIdx]
  split
  · rename_i h
    subst h
    split <;> simp
  · rfl
def vr_lt (n : Nat) : Value → Bool
  | .ref r => decide (r < n ∨ r = ab_scr)
  | _ => true
def cn_okc (n : Nat) : cn_K → Bool
  | .inl _ => true
  | .inr (_, fs) => fs.all (vr_lt n)
def cn_okl (n : Nat) : Option Value → Bool
  | some v => vr_lt n v
  | none => true
/-- all references are to cells that are there -/
def cn_ok (cs : List cn_K) (L : ab_L) (st : List Value) : Bool := decide (cs.length < 700) && cs.all (cn_okc cs.length) && (L.all (cn_okl cs.length) && st.all (vr_lt cs.length))
theorem vr_ext {ad ad' : Nat → Nat} {n : Nat} (h : ∀ k, (k < n ∨ k = ab_scr) → ad' k = ad k) {v : Value} (hv : vr_lt n v = true) : ab_v ad' v = ab_v ad v := by
  cases v with
  | ref r => exact congrArg Value.ref (h r (of_decide_eq_true hv))
  | _ => rfl
theorem vr_exts {ad ad' : Nat → Nat} {n : Nat} (h : ∀ k, (k < n ∨ k = ab_scr) → ad' k = ad k) {vs : List Value} (hv : vs.all (vr_lt n) = true) : vs.map (ab_v ad') = vs.map (ab_v ad) := by
  apply List.map_congr_left
  intro v hm
  exact vr_ext h (List.all_eq_true.mp hv v hm)
theorem cn_E_ext {ad ad' : Nat → Nat} {dA : Nat → ClassId} {n : Nat} (h : ∀ k, (k < n ∨ k = ab_scr) → ad' k = ad k) {x : cn_K} (hx : cn_okc n x = true) : cn_E ad' dA x = cn_E ad dA x := by
  cases x with
  | inl a => rfl
  | inr o => exact congrArg (fun z => Sum.inr (o.1, z)) (vr_exts h hx)
theorem cn_W_ext {ad ad' : Nat → Nat} {dA : Nat → ClassId} {cs : List cn_K} (h : ∀ k, (k < cs.length ∨ k = ab_scr) → ad' k = ad k) (hc : cs.all (cn_okc cs.length) = true) : cn_W ad' dA cs = cn_W ad dA cs := by
  apply List.ext_getElem?
  intro k
  simp only [cn_W, List.getElem?_mapIdx]
  cases hk : cs[k]? with
  | none => rfl
  | some x =>
    have h1 := (List.getElem?_eq_some_iff.mp hk).1
    simp [h k (Or.inl h1), cn_E_ext (dA := dA) h (List.all_eq_true.mp hc x (List.mem_of_getElem? hk))]
theorem ab_Lr.ext {ad ad' : Nat → Nat} {n : Nat} {L : ab_L} {ls : Array Slot} {nL : Nat} (h : ∀ k, (k < n ∨ k = ab_scr) → ad' k = ad k) (hl : L.all (cn_okl n) = true) (hL : ab_Lr ad L ls nL) : ab_Lr ad' L ls nL := by
  refine ⟨hL.1, hL.2.1, hL.2.2.1, fun q hq => ?_⟩
  obtain ⟨j, w⟩ := q
  obtain ⟨u, hu, rfl⟩ := ab_as_mem.mp hq
  have h1 := List.all_eq_true.mp hl (some u) (List.mem_of_getElem? hu)
  rw [vr_ext h h1]
  exact hL.at hu
def pb_i (st : List Value) (k : Int32 → List Value → Bool) : Bool := match st with
  | .int x :: r => k x r
  | _ => false
def pb_r (st : List Value) (k : Nat → List Value → Bool) : Bool := match st with
  | .ref x :: r => k x r
  | _ => false
theorem pb_i_of {st : List Value} {k : Int32 → List Value → Bool} (h : pb_i st k = true) : ∃ x r, st = .int x :: r ∧ k x r = true := by
  unfold pb_i at h
  split at h
  · exact ⟨_, _, rfl, h⟩
  · cases h
theorem pb_r_of {st : List Value} {k : Nat → List Value → Bool} (h : pb_r st k = true) : ∃ x r, st = .ref x :: r ∧ k x r = true := by
  unfold pb_r at h
  split at h
  · exact ⟨_, _, rfl, h⟩
  · cases h
def lb_r (L : ab_L) (i : Nat) (k : Nat → Bool) : Bool := match L[i]? with
  | some (some (.ref x)) => k x
  | _ => false
theorem lb_r_of {L : ab_L} {i : Nat} {k : Nat → Bool} (h : lb_r L i k = true) : ∃ x, L[i]? = some (some (.ref x)) ∧ k x = true := by
  unfold lb_r at h
  split at h
  · exact ⟨_, by assumption, h⟩
  · cases h
theorem and_d {c : Prop} [Decidable c] {b : Bool} (h : (decide c && b) = true) : c ∧ b = true := by
  rw [Bool.and_eq_true, decide_eq_true_eq] at h
  exact h
def cn_obj (cs : List cn_K) (q ci : Nat) (k : List Value → Bool) : Bool := match cs[q]? with
  | some (.inr (c, fs)) => decide (c = ci) && k fs
  | _ => false
theorem cn_obj_of {cs : List cn_K} {q ci : Nat} {k : List Value → Bool} (h : cn_obj cs q ci k = true) : ∃ fs, cs[q]? = some (.inr (ci, fs)) ∧ k fs = true := by
  unfold cn_obj at h
  split at h
  · rename_i c fs e
    obtain ⟨e2, h2⟩ := and_d h
    subst e2
    exact ⟨fs, e, h2⟩
  · cases h
abbrev cn_Tt : Type := Nat → List Value → List cn_K → (List cn_K → Bool) → Bool
def cn_1 (df : Nat → List Value) (mc ms : Nat) (mcs : Nat → Nat × Nat) (T : cn_Tt) (Q : List cn_K → Bool) (i : Instr) (a b : Nat) (L : ab_L) (st : List Value) (S : cn_S) (k : ab_L → List Value → cn_S → Bool) : Bool := match i with
  | .aload_n n => lb_r L n fun x => k L (.ref x :: st) S
  | .astore_n n => pb_r st fun x st => decide (n < L.length) && k (ab_set1 L n (.ref x)) st S
  | .iconst n => k L (.int (Int32.ofInt n) :: st) S
  | .bipush n => k L (.int (Int8.ofInt n).toInt32 :: st) S
  | .sipush n => k L (.int (Int16.ofInt n).toInt32 :: st) S
  | .ldc _ => k L (.int (ab_num a b) :: st) S
  | .dup => (match st with
    | v :: st => decide (v.category = 1) && k L (v :: v :: st) S
    | [] => false)
  | .newarray _ => pb_i st fun n st => decide (n = nI b ∧ b ≤ 100000 ∧ S.1 + 1 ≤ mc ∧ S.2.1 + b ≤ ms ∧ cn_ok S.2.2 L st = true) && k L (.ref S.2.2.length :: st) (S.1 + 1, S.2.1 + b, S.2.2 ++ [.inl (a, b)])
  | .new _ => decide (S.1 + 1 ≤ mc ∧ S.2.1 + b ≤ ms ∧ cn_ok S.2.2 L st = true) && k L (.ref S.2.2.length :: st) (S.1 + 1, S.2.1 + b, S.2.2 ++ [.inr (a, df a)])
  | .putfield _ => if b < 1000
      then pb_i st fun x st => pb_r st fun q st => cn_obj S.2.2 q a fun fs => decide (b < fs.length) && k L st (S.1, S.2.1, S.2.2.set q (.inr (a, fs.set b (.int x))))
      else pb_r st fun x st => pb_r st fun q st => cn_obj S.2.2 q a fun fs => decide (b - 1000 < fs.length) && k L st (S.1, S.2.1, S.2.2.set q (.inr (a, fs.set (b - 1000) (.ref x))))
  | .getfield _ => pb_r st fun q st => cn_obj S.2.2 q a fun fs => (match fs[b]? with
    | some v => k L (v :: st) S
    | none => false)
  | .invokespecial _ => if a = 999 then pb_r st fun _ st => decide (st.length ≤ 4) && k L st S
    else decide ((st.drop (b + 1)).length ≤ 4) && (match st.drop b with
      | .ref q :: r => decide (S.1 + (mcs a).1 ≤ mc ∧ S.2.1 + (mcs a).2 ≤ ms ∧ cn_ok S.2.2 L st = true) && T a (.ref q :: (st.take b).reverse) S.2.2 fun cs => decide (S.2.2.length ≤ cs.length) && k L r (S.1 + (mcs a).1, S.2.1 + (mcs a).2, cs)
      | _ => false)
  | .return_ => decide (st.length = 0 ∧ S.1 ≤ mc ∧ S.2.1 ≤ ms) && Q S.2.2
  | _ => false
def cn_w (df : Nat → List Value) (mc ms : Nat) (mcs : Nat → Nat × Nat) (T : cn_Tt) (Q : List cn_K → Bool) (E : ab_L → List Value → cn_S → Bool) : List ab_I → ab_L → List Value → cn_S → Bool
  | [], L, st, S => E L st S
  | (_, i, _, a, b) :: r, L, st, S => cn_1 df mc ms mcs T Q i a b L st S fun L st S => cn_w df mc ms mcs T Q E r L st S
def cn_mcs (pr : List cn_M) (k : Nat) : Nat × Nat := match pr[k]? with
  | some M => (M.2.2.2.1, M.2.2.2.2.1)
  | none => (0, 0)
def cn_T (df : Nat → List Value) (pr : List cn_M) : Nat → cn_Tt
  | 0, _, _, _, _ => false
  | d + 1, k, as, cs, Q => match pr[k]? with
    | none => false
    | some M => decide ((ab_en as).length ≤ M.2.2.1) && cn_w df M.2.2.2.1 M.2.2.2.2.1 (cn_mcs pr) (cn_T df pr d) Q (fun _ _ _ => false) M.2.2.2.2.2 (ab_en as ++ List.replicate (M.2.2.1 - (ab_en as).length) none) [] (0, 0, cs)
/-- what the tables must say; nests: the links to nest mates' constructors -/
def cn_lk (U : List Cond) (cl : List vw_C) (df : Nat → List Value) (pr : List cn_M) (nests : List (String × Nat × MethodName × String)) (own : String) (i : Instr) (a b : Nat) : Prop := match i with
  | .ldc idx => Cond.constant own idx (ab_num a b) ∈ U
  | .newarray t => Cond.arrayClass (newarray.typeOf t) ∈ U ∧ ((a = 0 ∧ newarray.typeOf t = .int) ∨ (a = 1 ∧ newarray.typeOf t = .boolean) ∨ (a = 2 ∧ newarray.typeOf t = .long))
  | .new idx => ∃ C T, cl[a]? = some (C, T, b) ∧ Cond.classLink own idx C ∈ U ∧ Cond.instantiable C b ∈ U ∧ Cond.initialized C ∈ U ∧ ∃ ty0 : Nat → FieldType, (∀ k, k < b → parseFieldDescriptor (T k).2.2.1 = some (ty0 k)) ∧ ∀ j, j < b → defaultValue (ty0 j) = vp_V (df a) j ∧ (vp_V (df a) j = .null ∨ vp_V (df a) j = .int 0)
  | .putfield idx => ∃ C T N', cl[a]? = some (C, T, N') ∧ (if b < 1000 then b else b - 1000) < N' ∧ Cond.fieldLink own idx (T (if b < 1000 then b else b - 1000)).1 (T (if b < 1000 then b else b - 1000)).2.1 (T (if b < 1000 then b else b - 1000)).2.2.1 ∈ U ∧ (if b < 1000 then (T b).2.2.2 = false ∧ parseFieldDescriptor (T b).2.2.1 = some .int else (T (b - 1000)).2.2.2 = true ∧ (T (b - 1000)).1 = own ∧ ∃ ty, parseFieldDescriptor (T (b - 1000)).2.2.1 = some ty ∧ (∀ q : Nat, narrow ty (.ref q) = .ref q ∧ fits ty (.ref q) = true))
  | .getfield idx => ∃ C T N', cl[a]? = some (C, T, N') ∧ b < N' ∧ Cond.fieldLink own idx (T b).1 (T b).2.1 (T b).2.2.1 ∈ U
  | .invokespecial idx => if a = 999 then Cond.methodLink own idx objectInit ∈ U ∧ Cond.instanceMethod objectInit ∈ U ∧ Cond.code objectInit ⟨#[0xb1]⟩ 1 none ∈ U
    else ∃ M, pr[a]? = some M ∧ Cond.instanceMethod M.1 ∈ U ∧ (parseMethodDescriptor M.1.desc).map (fun d => d.parameters.length) = some b ∧ (Cond.methodLink own idx M.1 ∈ U ∨ ∃ host, (own, idx, M.1, host) ∈ nests)
  | _ => True
def cn_mk (U : List Cond) (M : cn_M) : Prop := Cond.code M.1 M.2.1 M.2.2.1 none ∈ U ∧ Cond.initialized M.1.cls ∈ U ∧ M.1.cls ≠ "java/lang/invoke/MethodHandle" ∧ M.1.cls ≠ "java/lang/invoke/VarHandle" ∧ plainName M.1.cls = true ∧ M.2.2.1 ≤ 21 ∧ M.1.name = "<init>"
def cn_rm (d mc ms : Nat) : Room := { frames := d, cells := mc, slots := ms, locals := 100 * d }
def cn_Nst (nests : List (String × Nat × MethodName × String)) (u : State) : Prop := ∀ q ∈ nests, va_Nw (.methodLinkNest q.1 q.2.1 q.2.2.1 q.2.2.2) u
def cn_A (base : Nat) : Nat → Prop := fun q => base ≤ q
def cn_Pc (D : va_G) (cl : List vw_C) (base : Nat) (ad : Nat → Nat) (dA : Nat → ClassId) (nests : List (String × Nat × MethodName × String)) (as : List Value) (cs : List cn_K) : Array Value → State → Prop := va_Pc (as.map (ab_v ad)) fun u => va_P D cl (cn_W ad dA cs) u.heap ∧ base ≤ u.heap.size ∧ va_D (cn_A base) (cn_W ad dA cs) ∧ va_K D cl (ab_tys dA) u ∧ cn_Nst nests u
def cn_Qc (D : va_G) (cl : List vw_C) (base : Nat) (ad : Nat → Nat) (dA : Nat → ClassId) (n : Nat) (Q : List cn_K → Bool) : Array Value → State → Outcome → State → Prop := fun _ st oc t => (∃ (cs : List cn_K) (ad' : Nat → Nat), oc = .returned none ∧ Q cs = true ∧ (∀ k, (k < n ∨ k = ab_scr) → ad' k = ad k) ∧ va_P D cl (cn_W ad' dA cs) t.heap ∧ va_D (cn_A base) (cn_W ad' dA cs)) ∧ va_F (cn_A base) st t
def cn_met (l : Launch) (D : va_G) (cl : List vw_C) (base : Nat) (ad : Nat → Nat) (dA : Nat → ClassId) (nests : List (String × Nat × MethodName × String)) (U : List Cond) (d : Nat) (M : cn_M) (as : List Value) (cs : List cn_K) (Q : List cn_K → Bool) : Prop := Met l M.1 (Cond.code M.1 M.2.1 M.2.2.1 none :: U) (cn_rm d M.2.2.2.1 M.2.2.2.2.1) (cn_Pc D cl base ad dA nests as cs) (cn_Qc D cl base ad dA cs.length Q) M.2.2.2.1 M.2.2.2.2.1 (cn_A base)
/-- n0: so many cells were there when the method began; they lie where ad0 has them -/
def cn_G (p : Program) (l : Launch) (e : Env) (R : Room) (s : State) (m : MethodId) (args : Array Value) (below : List Frame) (meth : Method) (c : Code) (Z : State → Prop) (D : va_G) (cl : List vw_C) (base : Nat) (ad0 : Nat → Nat) (n0 : Nat) (dA : Nat → ClassId) (nL : Nat) (pc : Nat) (L : ab_L) (st : List Value) (S : cn_S) : Prop :=
  ∀ (ad : Nat → Nat) (H : Heap) (locs : List Loc) (ls : Array Slot), (∀ k, (k < n0 ∨ k = ab_scr) → ad k = ad0 k) → n0 ≤ S.2.2.length → va_P D cl (cn_W ad dA S.2.2) H → va_D (cn_A base) (cn_W ad dA S.2.2) → va_S (cn_A base) s.heap H locs → ab_Lr ad L ls nL → W p l e R s m args below meth c H locs S.1 S.2.1 Z (F0 m pc ls (st.map (ab_v ad)))
theorem cn_blind {D : va_G} {cl : List vw_C} {base : Nat} {ad : Nat → Nat} {dA : Nat → ClassId} {nests : List (String × Nat × MethodName × String)} {as : List Value} {cs : List cn_K} : FrameBlind (cn_Pc D cl base ad dA nests as cs) := fun a U g mk q => by
  obtain ⟨q0, q1, q2, q3, q4, q5⟩ := q
  exact ⟨q0, q1, q2, q3, va_K.moved (u := U) (U := U.calling g mk a) (Vm.Alike.refl U.vm) q4, fun x hx => va_Nw.same rfl (u := U) (U := U.calling g mk a) rfl (q5 x hx)⟩
theorem cn_Nst_warm {nests : List (String × Nat × MethodName × String)} {s U : State} (hW : s.WarmedH U.vm) (h : cn_Nst nests s) : cn_Nst nests U := fun q hq => va_Nw.warmM hW (h q hq)
end
section
section CN
variable {p : Program} {l : Launch} {e : Env} {R : Room} {s : State} {m : MethodId} {args : Array Value} {below : List Frame} {meth : Method} {c : Code} {Z : State → Prop}
variable {D : va_G} {cl : List vw_C} {dA : Nat → ClassId} {nL base : Nat} {nests : List (String × Nat × MethodName × String)}
theorem cn_back {ad : Nat → Nat} {n : Nat} {Q : List cn_K → Bool} {H : Heap} {locs : List Loc} {cells slots mc ms pc : Nat} {ls : Array Slot} {st0 rest : List Value} {a : Array Value}
    (hr : va_Run p l e R s m args below meth c H locs cells slots mc ms (F0 m pc ls st0) rest (cn_Qc D cl base ad dA n Q a) (cn_A base)) (hS : va_S (cn_A base) s.heap H locs)
    (kk : ∀ (cs : List cn_K) (ad' : Nat → Nat) (H1 : Heap) (locs1 : List Loc), Q cs = true → (∀ k, (k < n ∨ k = ab_scr) → ad' k = ad k) → va_P D cl (cn_W ad' dA cs) H1 → va_D (cn_A base) (cn_W ad' dA cs) → va_S (cn_A base) s.heap H1 locs1 → W p l e R s m args below meth c H1 locs1 (cells + mc) (slots + ms) Z (F0 m (pc + 3) ls rest)) :
    W p l e R s m args below meth c H locs cells slots Z (F0 m pc ls st0) := by
  intro T hT X
  obtain ⟨v, st₀, t, T', L, h0, X', hL, e1, e2, ⟨⟨cs, ad', hv, hp, had, hb, hD⟩, hz, hk⟩, st⟩ := hr T hT X
  cases hv
  rw [h0] at hz hk
  obtain ⟨t2, a1, b1⟩ := kk cs ad' T'.heap (locs ++ L) hp had (by rw [e1]; exact hb) hD
    ⟨Nat.le_trans hS.1 (by rw [e1]; exact hz), fun q h1 h2 => by rw [e1, hk q (Nat.lt_of_lt_of_le h1 hS.1) h2]; exact hS.2.1 q h1 h2, fun q hq => by
      rcases List.mem_append.mp hq with h | h
      · exact hS.2.2 q h
      · exact hL q h⟩ T' rfl X'
  exact ⟨t2, st t2 a1, b1⟩
theorem cn_pre {ad : Nat → Nat} (as : List Value) (cs : List cn_K) {H : Heap} (hP : va_P D cl (cn_W ad dA cs) H) (hz : base ≤ H.size) (hD : va_D (cn_A base) (cn_W ad dA cs)) (hK : va_K D cl (ab_tys dA) s) (hN : cn_Nst nests s) : PreS s H (cn_Pc D cl base ad dA nests as cs) (as.map (ab_v ad)) :=
  ⟨cn_blind, fun u hu hW => ⟨rfl, by rw [hu]; exact hP, by rw [hu]; exact hz, hD, va_K.moved hW.alike hK, cn_Nst_warm hW hN⟩⟩
/-- a cell more, at a place of its own -/
theorem cn_more {ad : Nat → Nat} {cs : List cn_K} {x : cn_K} {q n0 : Nat} {ad0 : Nat → Nat} {L : ab_L} {st : List Value} {ls : Array Slot} (h0 : ∀ k, (k < n0 ∨ k = ab_scr) → ad k = ad0 k) (hn0 : n0 ≤ cs.length) (hok : cn_ok cs L st = true) (hx : cn_okc cs.length x = true) (hL : ab_Lr ad L ls nL) :
    ∃ ad' : Nat → Nat, (∀ k, (k < n0 ∨ k = ab_scr) → ad' k = ad0 k) ∧ cn_W ad' dA (cs ++ [x]) = cn_W ad dA cs ++ [(q, cn_E ad dA x)] ∧ ab_Lr ad' L ls nL ∧ st.map (ab_v ad') = st.map (ab_v ad) ∧ ad' cs.length = q := by
  simp only [cn_ok, Bool.and_eq_true, decide_eq_true_eq] at hok
  obtain ⟨⟨o0, o1⟩, o2, o3⟩ := hok
  have he : ∀ k, (k < cs.length ∨ k = ab_scr) → (fun k => if k = cs.length then q else ad k) k = ad k := fun k hk => if_neg (by unfold ab_scr at hk; omega)
  refine ⟨fun k => if k = cs.length then q else ad k, fun k hk => (he k (hk.imp (fun z => Nat.lt_of_lt_of_le z hn0) id)).trans (h0 k hk), ?_, hL.ext he o2, vr_exts he o3, if_pos rfl⟩
  rw [cn_W_push, cn_W_ext he o1, cn_E_ext (dA := dA) he hx, if_pos rfl]
set_option maxHeartbeats 8000000 in
set_option maxRecDepth 20000 in
theorem cn_step {ad0 : Nat → Nat} {n0 : Nat} {U : List Cond} {pr : List cn_M} {df : Nat → List Value} {own : String} {cc : ByteArray} {d mc ms : Nat} {Q : List cn_K → Bool} {K : ab_L → List Value → cn_S → Bool} {pc len a b : Nat} {i : Instr} {L : ab_L} {st : List Value} {S : cn_S}
    (hx : p.tables.exec = Jvm.exec) (hb : c.code = cc) (hml : c.maxLocals = nL) (hown : s.vm.findClass own = some m.cls)
    (hts : ∀ w ∈ U, w.before args s = true) (hU : ∀ w ∈ U, (w.onTables && w.keeps) = true ∨ ∃ ty, w = Cond.arrayClass ty)
    (hK : va_K D cl (ab_tys dA) s) (hN : cn_Nst nests s) (hck : ab_ck U cl) (hpr : ∀ (k : Nat) (M : cn_M), pr[k]? = some M → cn_mk U M)
    (hbase : base ≤ s.heap.size) (hR : d + 1 ≤ R.frames ∧ 100 * (d + 1) ≤ R.locals ∧ mc ≤ R.cells ∧ ms ≤ R.slots)
    (hini : ∀ idx, i = .putfield idx → meth.name = "<init>") (hdf : ∀ a, ∀ v ∈ df a, v = .null ∨ v = .int 0)
    (hT : ∀ (k : Nat) (M : cn_M) (ad : Nat → Nat) (as : List Value) (cs : List cn_K) (Q : List cn_K → Bool), pr[k]? = some M → cn_T df pr d k as cs Q = true → cn_met l D cl base ad dA nests U d M as cs Q)
    (hd : decode cc pc = .ok (i, len)) (hln0 : ab_ln i len ∨ ∃ t, i = .newarray t) (hl2 : (∀ t, i = .newarray t → len = 2) ∧ (∀ t, i = .new t → len = 3) ∧ (∀ t, i = .invokespecial t → len = 3)) (hlk : cn_lk U cl df pr nests own i a b)
    (kK : ∀ L st S, K L st S = true → cn_G p l e R s m args below meth c Z D cl base ad0 n0 dA nL (pc + len) L st S)
    (kV : ∀ (ad : Nat → Nat) (S : cn_S) (H : Heap) (locs : List Loc) (ls : Array Slot), i = .return_ → S.1 ≤ mc → S.2.1 ≤ ms → Q S.2.2 = true → (∀ k, (k < n0 ∨ k = ab_scr) → ad k = ad0 k) → va_P D cl (cn_W ad dA S.2.2) H → va_D (cn_A base) (cn_W ad dA S.2.2) → va_S (cn_A base) s.heap H locs → W p l e R s m args below meth c H locs S.1 S.2.1 Z (F0 m pc ls []))
    (h : cn_1 df mc ms (cn_mcs pr) (cn_T df pr d) Q i a b L st S K = true) :
    cn_G p l e R s m args below meth c Z D cl base ad0 n0 dA nL pc L st S := by
  intro ad H locs ls h0 hn0 hP hD hS hL
  have hA : ∀ q, s.heap.size ≤ q → cn_A base q := fun q h => Nat.le_trans hbase h
  obtain ⟨hRf, hRl, hRc, hRs⟩ := id hR
  have hln : (∀ t, i ≠ .newarray t) → ab_ln i len := fun z => hln0.elim id (fun ⟨t, e⟩ => absurd e (z t))
  cases i with
  | aload_n n =>
    obtain ⟨x, h1, h2⟩ := lb_r_of h
    obtain rfl : len = 1 := hln (fun _ z => by cases z)
    exact lv_aload_n hx hb hd rfl (hL.at h1) (kK _ _ _ h2 ad H locs ls h0 hn0 hP hD hS hL)
  | astore_n n =>
    obtain ⟨x, r, rfl, h2⟩ := pb_r_of h
    obtain ⟨hn2, h2⟩ := and_d h2
    obtain rfl : len = 1 := hln (fun _ z => by cases z)
    exact lv_astore_n hx hb hd rfl hL.2 (by rw [← hL.1]; exact hn2) rfl (fun ls' h' => kK _ _ _ h2 ad H locs ls' h0 hn0 hP hD hS (hL.set1 (v := .ref x) hn2 h'))
  | iconst n =>
    obtain rfl : len = 1 := hln (fun _ z => by cases z)
    exact lv_iconst hx hb hd rfl (kK _ _ _ h ad H locs ls h0 hn0 hP hD hS hL)
  | bipush n =>
    obtain rfl : len = 2 := hln (fun _ z => by cases z)
    exact lv_bipush hx hb hd rfl (kK _ _ _ h ad H locs ls h0 hn0 hP hD hS hL)
  | sipush n =>
    obtain rfl : len = 3 := hln (fun _ z => by cases z)
    exact lv_sipush hx hb hd rfl (kK _ _ _ h ad H locs ls h0 hn0 hP hD hS hL)
  | ldc n =>
    obtain rfl : len = 2 := hln (fun _ z => by cases z)
    exact lv_ldc hx hb hown (hts _ hlk) hd (kK _ _ _ h ad H locs ls h0 hn0 hP hD hS hL)
  | dup =>
    obtain rfl : len = 1 := hln (fun _ z => by cases z)
    match st, h with
    | v :: r, h =>
      obtain ⟨h1, h2⟩ := and_d h
      exact lv_dup hx hb hd ((ab_v_cat ad v).trans h1) (kK _ _ _ h2 ad H locs ls h0 hn0 hP hD hS hL)
    | [], h => cases h
  | newarray t =>
    obtain rfl : len = 2 := hl2.1 t rfl
    obtain ⟨x, r, rfl, h9⟩ := pb_i_of h
    obtain ⟨⟨hxb, hb1, h1, h2, h3⟩, h4⟩ := and_d h9
    obtain ⟨k1, k2⟩ := hlk
    have hnb : x.toNatClampNeg = b := by rw [hxb]; exact nI_clamp (by omega)
    have hn1 : ¬ x < 0 := by rw [hxb]; exact nI_pos (by omega)
    have go : ∀ (ty : FieldType) (A0 : vp_A), newarray.typeOf t = ty → (ab_tys dA)[a]? = some (dA a, ty) → (∀ cA : ClassId, va_RA s cA ty → va_RA s (dA a) ty → cA = dA a) → (∀ cA : ClassId, vp_cell cA A0 = arrV cA b (fun _ => defaultValue ty)) → b * componentBytes ty ≤ 536870912 → cn_E ad dA (.inl (a, b)) = .inl (dA a, A0) → W p l e R s m args below meth c H locs S.1 S.2.1 Z (F0 m pc ls (.int x :: r.map (ab_v ad))) := by
      intro ty A0 t1 t2 t3 t4 t5 t6
      refine va_newa hx hb (hts _ k1) t1 hK hP hD hS hA t4 hn1 hnb t5 (by omega) (by omega) hd (fun q cA H1 hK1 hP1 hD1 hS1 => ?_)
      have e9 : cA = dA a := t3 cA (hK1.2 (ab_tys dA).length (cA, ty) (by simp)).2 (hK.2 a _ t2).2
      subst e9
      obtain ⟨ad', g1, g2, g3, g4, g5⟩ := cn_more (dA := dA) (q := q) (x := .inl (a, b)) h0 hn0 h3 rfl hL
      rw [t6] at g2
      have := kK _ _ _ h4 ad' H1 locs ls g1 (by rw [List.length_append]; omega) (by rw [g2]; exact hP1) (by rw [g2]; exact hD1) hS1 g3
      rw [List.map_cons, g4] at this
      simp only [ab_v, g5] at this
      exact this
    rcases k2 with ⟨rfl, k2⟩ | ⟨rfl, k2⟩ | ⟨rfl, k2⟩
    · exact go .int (b, .inl fun _ => 0) k2 rfl (fun cA u v => Option.some.inj (Eq.trans (Eq.symm u) v)) (fun _ => rfl) (by simp only [componentBytes]; omega) rfl
    · exact go .boolean (b, .inl fun _ => 0) k2 rfl (fun cA u v => Option.some.inj (Eq.trans (Eq.symm u) v)) (fun _ => rfl) (by simp only [componentBytes]; omega) rfl
    · exact go .long (b, .inr (.inl fun _ => 0)) k2 rfl (fun cA u v => Option.some.inj (Eq.trans (Eq.symm u) v)) (fun _ => rfl) (by simp only [componentBytes]; omega) rfl
  | new idx =>
    obtain rfl : len = 3 := hl2.2.1 idx rfl
    obtain ⟨⟨h1, h2, h3⟩, h4⟩ := and_d h
    obtain ⟨C, T, hc, k1, k2, k3, ty0, k4, k5⟩ := hlk
    obtain ⟨w1, -, -⟩ := hck a C T b hc
    have hmap : (df a).map (ab_v ad) = df a := by
      rw [List.map_congr_left (g := id)]
      · simp
      · intro v hv
        rcases hdf a v hv with rfl | rfl <;> rfl
    have hok : cn_okc S.2.2.length (.inr (a, df a)) = true := by
      show (df a).all _ = true
      rw [List.all_eq_true]
      intro v hv
      rcases hdf a v hv with rfl | rfl <;> rfl
    refine va_new hx hb hts w1 ty0 k4 hown (hts _ k1) (hts _ k2) (hts _ k3) hK hP hD hS hA hc (fs := df a) (fun j hj => (k5 j hj).1) (by omega) (by omega) hd (fun q H1 hP1 hD1 hS1 => ?_)
    obtain ⟨ad', g1, g2, g3, g4, g5⟩ := cn_more (dA := dA) (q := q) (x := .inr (a, df a)) h0 hn0 h3 hok hL
    rw [show cn_E ad dA (.inr (a, df a)) = .inr (a, df a) from congrArg (fun z => Sum.inr (a, z)) hmap] at g2
    have := kK _ _ _ h4 ad' H1 locs ls g1 (by rw [List.length_append]; omega) (by rw [g2]; exact hP1) (by rw [g2]; exact hD1) hS1 g3
    rw [List.map_cons, g4] at this
    simp only [ab_v, g5] at this
    exact this
  | putfield idx =>
    obtain rfl : len = 3 := hln (fun _ z => by cases z)
    obtain ⟨C, T, N', hc, hk, hlink, hpd⟩ := hlk
    obtain ⟨w1, ⟨ty0, w2⟩, w3⟩ := hck a C T N' hc
    by_cases hb1 : b < 1000
    · have h : (if b < 1000 then _ else _) = true := h
      rw [if_pos hb1] at h hk hlink hpd
      obtain ⟨x, r, rfl, h2⟩ := pb_i_of h
      obtain ⟨q, r, rfl, h5⟩ := pb_r_of h2
      obtain ⟨fs, hq, h6⟩ := cn_obj_of h5
      obtain ⟨h3, h4⟩ := and_d h6
      refine va_put (v := .int x) hx hb hts w1 ty0 w2 w3 hown hK hP hD hS q (cn_W_get hq) hc b hk (hts _ hlink) (fun _ h9 => h9) hpd.1 hpd.2 rfl rfl (by rw [List.length_map]; exact h3) hd (fun H1 locs1 hP1 hD1 hS1 => ?_)
      have e9 : (cn_W ad dA S.2.2).set q (ad q, .inr (a, (fs.map (ab_v ad)).set b (.int x))) = cn_W ad dA (S.2.2.set q (.inr (a, fs.set b (.int x)))) := by
        rw [← cn_W_set]
        simp only [cn_E, List.map_set]
        rfl
      rw [e9] at hP1 hD1
      exact kK _ _ _ h4 ad H1 locs1 ls h0 (by rw [List.length_set]; exact hn0) hP1 hD1 hS1 hL
    · have h : (if b < 1000 then _ else _) = true := h
      rw [if_neg hb1] at h hk hlink hpd
      obtain ⟨x, r, rfl, h2⟩ := pb_r_of h
      obtain ⟨q, r, rfl, h5⟩ := pb_r_of h2
      obtain ⟨fs, hq, h6⟩ := cn_obj_of h5
      obtain ⟨h3, h4⟩ := and_d h6
      obtain ⟨p1, p2, ty, p3, p4⟩ := hpd
      refine va_putF (v := .ref (ad x)) hx hb hts w1 ty0 w2 w3 hown hK hP hD hS q (cn_W_get hq) hc (b - 1000) hk (hts _ hlink) (fun _ h9 => h9) p1 (hini _ rfl) p2 p3 (p4 _).1 (p4 _).2 (by rw [List.length_map]; exact h3) hd (fun H1 locs1 hP1 hD1 hS1 => ?_)
      have e9 : (cn_W ad dA S.2.2).set q (ad q, .inr (a, (fs.map (ab_v ad)).set (b - 1000) (.ref (ad x)))) = cn_W ad dA (S.2.2.set q (.inr (a, fs.set (b - 1000) (.ref x)))) := by
        rw [← cn_W_set]
        simp only [cn_E, List.map_set]
        rfl
      rw [e9] at hP1 hD1
      exact kK _ _ _ h4 ad H1 locs1 ls h0 (by rw [List.length_set]; exact hn0) hP1 hD1 hS1 hL
  | getfield idx =>
    obtain rfl : len = 3 := hln (fun _ z => by cases z)
    obtain ⟨C, T, N', hc, hk, hlink⟩ := hlk
    obtain ⟨w1, -, -⟩ := hck a C T N' hc
    obtain ⟨q, r, rfl, h2⟩ := pb_r_of h
    obtain ⟨fs, hq, h3⟩ := cn_obj_of h2
    split at h3
    · rename_i v e1
      exact va_get hx hb hts w1 hown hK hP q (cn_W_get hq) hc b hk (hts _ hlink) (fun _ h9 => h9) (v := ab_v ad v) (by rw [List.getElem?_map, e1]; rfl) hd (kK _ _ _ h3 ad H locs ls h0 hn0 hP hD hS hL)
    · cases h3
  | invokespecial idx =>
    obtain rfl : len = 3 := hl2.2.2 idx rfl
    by_cases ha : a = 999
    · have h : (if a = 999 then _ else _) = true := h
      have hlk : if a = 999 then _ else _ := hlk
      rw [if_pos ha] at h hlk
      obtain ⟨q, r, rfl, h2⟩ := pb_r_of h
      obtain ⟨h3, h4⟩ := and_d h2
      obtain ⟨k1, k2, k3⟩ := hlk
      have h5 := ab_sum4 (r.map (ab_v ad)) (by rw [List.length_map]; exact h3)
      refine W.objInit hx hb hown (hts _ k1) (hts _ k2) (hts _ k3) rfl (by rw [hml]; exact hL.2.1) rfl hd (by omega) (by show 2 * 0 + _ + 12 ≤ _; omega) ?_
      exact kK _ _ _ h4 ad H locs ls h0 hn0 hP hD hS hL
    · have h : (if a = 999 then _ else decide ((st.drop (b + 1)).length ≤ 4) && (match st.drop b with
        | .ref q :: r => decide (S.1 + (cn_mcs pr a).1 ≤ mc ∧ S.2.1 + (cn_mcs pr a).2 ≤ ms ∧ cn_ok S.2.2 L st = true) && cn_T df pr d a (.ref q :: (st.take b).reverse) S.2.2 fun cs => decide (S.2.2.length ≤ cs.length) && K L r (S.1 + (cn_mcs pr a).1, S.2.1 + (cn_mcs pr a).2, cs)
        | _ => false)) = true := h
      have hlk : if a = 999 then _ else _ := hlk
      rw [if_neg ha] at h hlk
      obtain ⟨h4, h⟩ := and_d h
      split at h
      · rename_i q r e1
        obtain ⟨⟨g1, g2, hok⟩, h2⟩ := and_d h
        obtain ⟨M, hM, k2, hpar, k3⟩ := hlk
        obtain ⟨m1, m2, m3, m4, m5, m6, m7⟩ := hpr a M hM
        have hmc : cn_mcs pr a = (M.2.2.2.1, M.2.2.2.2.1) := by simp [cn_mcs, hM]
        rw [hmc] at g1 g2 h2
        have hmet := hT a M ad _ S.2.2 _ hM h2
        have hst : st = st.take b ++ .ref q :: r := by rw [← e1, List.take_append_drop]
        have hlen : b < st.length := by
          have : (st.drop b).length = r.length + 1 := by rw [e1]; rfl
          rw [List.length_drop] at this
          omega
        have hr1 : st.drop (b + 1) = r := by rw [← List.tail_drop, e1]; rfl
        have hG : GoodIn U (Cond.code M.1 M.2.1 M.2.2.1 none :: U) := fun w hw => by
          rcases List.mem_cons.mp hw with rfl | hw
          · exact ⟨m1, hU _ m1⟩
          · exact ⟨hw, hU _ hw⟩
        have hpre := cn_pre (nests := nests) (.ref q :: (st.take b).reverse) S.2.2 hP (Nat.le_trans hbase hS.1) hD hK hN
        simp only [cn_ok, Bool.and_eq_true] at hok
        obtain ⟨⟨-, o1⟩, o2, o3⟩ := hok
        have fin : ∀ (cs : List cn_K) (ad' : Nat → Nat) (H1 : Heap) (locs1 : List Loc), (decide (S.2.2.length ≤ cs.length) && K L r (S.1 + M.2.2.2.1, S.2.1 + M.2.2.2.2.1, cs)) = true → (∀ k, (k < S.2.2.length ∨ k = ab_scr) → ad' k = ad k) → va_P D cl (cn_W ad' dA cs) H1 → va_D (cn_A base) (cn_W ad' dA cs) → va_S (cn_A base) s.heap H1 locs1 → W p l e R s m args below meth c H1 locs1 (S.1 + M.2.2.2.1) (S.2.1 + M.2.2.2.2.1) Z (F0 m (pc + 3) ls (r.map (ab_v ad))) := by
          intro cs ad' H1 locs1 hk had hP1 hD1 hS1
          obtain hk := and_d hk
          have := kK _ _ _ hk.2 ad' H1 locs1 ls (fun k hk => (had k (hk.imp (fun z => Nat.lt_of_lt_of_le z hn0) id)).trans (h0 k hk)) (Nat.le_trans hn0 hk.1) hP1 hD1 hS1 (hL.ext had o2)
          have hrr : r.all (vr_lt S.2.2.length) = true := by
            rw [List.all_eq_true] at o3 ⊢
            intro v hv
            exact o3 v (by rw [hst]; simp [hv])
          rw [vr_exts had hrr] at this
          exact this
        have hstk : (F0 m pc ls (st.map (ab_v ad))).stack = (((st.take b).reverse).map (ab_v ad)).reverse ++ .ref (ad q) :: r.map (ab_v ad) := by
          show st.map (ab_v ad) = _
          conv => lhs; rw [hst]
          simp [ab_v]
        have hW4 := lv_room (m := m) (pc := pc) (ls := ls) (rest := st.map (ab_v ad)) (ab_sum4 (r.map (ab_v ad)) (by rw [List.length_map, ← hr1]; exact h4))
        have hrm : (cn_rm d M.2.2.2.1 M.2.2.2.2.1).frames + 1 ≤ R.frames ∧ 8 + (M.2.2.1 + 11) + (cn_rm d M.2.2.2.1 M.2.2.2.2.1).locals ≤ R.locals := by simp only [cn_rm]; omega
        rcases k3 with k3 | ⟨host, k3⟩
        · exact cn_back (va_runI (As := ((st.take b).reverse).map (ab_v ad)) (rest := r.map (ab_v ad)) (n := b) ⟨hx, hb, hml, hown, hts⟩ hmet
            ⟨callB_of b hts hG rfl rfl rfl (hts _ m2) (hts _ k3) ⟨m3, m4, hpar⟩ hrm, m7, hts _ k2⟩ hpre rfl (by simp; omega) hL.2.1 hstk hW4 hd ⟨by omega, by omega⟩) hS fin
        · exact cn_back (va_runIN (As := ((st.take b).reverse).map (ab_v ad)) (rest := r.map (ab_v ad)) (n := b) ⟨hx, hb, hml, hown, hts⟩ hmet
            ⟨va_cnB b hts hG rfl rfl rfl (hN _ k3) (hts _ m2) ⟨m3, m4, hpar⟩ hrm, m7, hts _ k2⟩ hpre rfl (by simp; omega) hL.2.1 hstk hW4 hd ⟨by omega, by omega⟩) hS fin
      · cases h
  | return_ =>
    obtain rfl : len = 1 := hln (fun _ z => by cases z)
    obtain ⟨⟨h3, h1, h2⟩, h4⟩ := and_d h
    have h3 := List.eq_nil_of_length_eq_zero h3
    subst h3
    exact kV ad S H locs ls rfl h1 h2 h4 h0 hP hD hS
  | _ => cases h
end CN
end
section
/-! ===== a constructor keeps its contract ===== -/
def cn_chn : Nat → List ab_I → Bool
  | _, [] => true
  | pc, q :: r => (q.1 == pc) && cn_chn (q.1 + q.2.2.1) r
def cn_end : Nat → List ab_I → Nat
  | pc, [] => pc
  | _, q :: r => cn_end (q.1 + q.2.2.1) r
def cn_l2 (q : ab_I) : Prop := (∀ t, q.2.1 = .newarray t → q.2.2.1 = 2) ∧ (∀ t, q.2.1 = .new t → q.2.2.1 = 3) ∧ (∀ t, q.2.1 = .invokespecial t → q.2.2.1 = 3)
/-- newarray has its own length -/
def cn_ln (i : Instr) (len : Nat) : Prop := match i with
  | .newarray _ => True
  | _ => ab_ln i len
def cn_okq (U : List Cond) (cl : List vw_C) (df : Nat → List Value) (pr : List cn_M) (nests : List (String × Nat × MethodName × String)) (own : String) (cc : ByteArray) (q : ab_I) : Prop := decode cc q.1 = .ok (q.2.1, q.2.2.1) ∧ cn_ln q.2.1 q.2.2.1 ∧ cn_l2 q ∧ cn_lk U cl df pr nests own q.2.1 q.2.2.2.1 q.2.2.2.2
def cn_cd (U : List Cond) (cl : List vw_C) (df : Nat → List Value) (pr : List cn_M) (nests : List (String × Nat × MethodName × String)) (M : cn_M) : Prop := cn_chn 0 M.2.2.2.2.2 = true ∧ ∀ q ∈ M.2.2.2.2.2, cn_okq U cl df pr nests M.1.cls M.2.1 q
section CN3
variable {p : Program} {l : Launch} {e : Env} {R : Room} {s : State} {m : MethodId} {args : Array Value} {below : List Frame} {meth : Method} {c : Code} {Z : State → Prop}
variable {D : va_G} {cl : List vw_C} {dA : Nat → ClassId} {nL base : Nat} {nests : List (String × Nat × MethodName × String)}
theorem cn_go {ad0 : Nat → Nat} {n0 : Nat} {U : List Cond} {pr : List cn_M} {df : Nat → List Value} {own : String} {cc : ByteArray} {d mc ms : Nat} {Q : List cn_K → Bool} {E : ab_L → List Value → cn_S → Bool}
    (hx : p.tables.exec = Jvm.exec) (hb : c.code = cc) (hml : c.maxLocals = nL) (hown : s.vm.findClass own = some m.cls)
    (hts : ∀ w ∈ U, w.before args s = true) (hU : ∀ w ∈ U, (w.onTables && w.keeps) = true ∨ ∃ ty, w = Cond.arrayClass ty)
    (hK : va_K D cl (ab_tys dA) s) (hN : cn_Nst nests s) (hck : ab_ck U cl) (hpr : ∀ (k : Nat) (M : cn_M), pr[k]? = some M → cn_mk U M)
    (hbase : base ≤ s.heap.size) (hR : d + 1 ≤ R.frames ∧ 100 * (d + 1) ≤ R.locals ∧ mc ≤ R.cells ∧ ms ≤ R.slots) (hdf : ∀ a, ∀ v ∈ df a, v = .null ∨ v = .int 0)
    (hT : ∀ (k : Nat) (M : cn_M) (ad : Nat → Nat) (as : List Value) (cs : List cn_K) (Q : List cn_K → Bool), pr[k]? = some M → cn_T df pr d k as cs Q = true → cn_met l D cl base ad dA nests U d M as cs Q)
    (kV : ∀ (pc : Nat) (ad : Nat → Nat) (S : cn_S) (H : Heap) (locs : List Loc) (ls : Array Slot), decode cc pc = .ok (.return_, 1) → S.1 ≤ mc → S.2.1 ≤ ms → Q S.2.2 = true → (∀ k, (k < n0 ∨ k = ab_scr) → ad k = ad0 k) → va_P D cl (cn_W ad dA S.2.2) H → va_D (cn_A base) (cn_W ad dA S.2.2) → va_S (cn_A base) s.heap H locs → W p l e R s m args below meth c H locs S.1 S.2.1 Z (F0 m pc ls [])) :
    ∀ (r : List ab_I) (pc : Nat) (L : ab_L) (st : List Value) (S : cn_S), cn_chn pc r = true → (∀ q ∈ r, cn_okq U cl df pr nests own cc q) → (meth.name = "<init>" ∨ ∀ q ∈ r, ∀ idx, q.2.1 ≠ .putfield idx) → (∀ L st S, E L st S = true → cn_G p l e R s m args below meth c Z D cl base ad0 n0 dA nL (cn_end pc r) L st S) → cn_w df mc ms (cn_mcs pr) (cn_T df pr d) Q E r L st S = true → cn_G p l e R s m args below meth c Z D cl base ad0 n0 dA nL pc L st S := by
  intro r
  induction r with
  | nil => intro pc L st S _ _ _ hE h; exact hE L st S h
  | cons q r ih =>
    intro pc L st S hch hq hini hE h
    obtain ⟨pc0, i, len, a, b⟩ := q
    simp only [cn_chn, Bool.and_eq_true, beq_iff_eq] at hch
    obtain ⟨rfl, hch⟩ := hch
    obtain ⟨q1, q2, q3, q4⟩ := hq _ List.mem_cons_self
    have hln : ab_ln i len ∨ ∃ t, i = .newarray t := by
      cases i with
      | newarray t => exact Or.inr ⟨t, rfl⟩
      | _ => exact Or.inl q2
    refine cn_step hx hb hml hown hts hU hK hN hck hpr hbase hR (fun idx hi => ?_) hdf hT q1 hln q3 q4 (fun L st S hk => ?_) (fun ad S H locs ls hi h1 h2 h3 h4 h5 h6 h7 => ?_) h
    · rcases hini with h9 | h9
      · exact h9
      · exact absurd hi (h9 _ List.mem_cons_self idx)
    · exact ih (pc0 + len) L st S hch (fun z hz => hq z (List.mem_cons_of_mem _ hz)) (hini.imp id (fun z y hy => z y (List.mem_cons_of_mem _ hy))) hE hk
    · subst hi
      obtain rfl : len = 1 := q2
      exact kV _ ad S H locs ls q1 h1 h2 h3 h4 h5 h6 h7
end CN3
theorem cn_sound {l : Launch} {D : va_G} {cl : List vw_C} {dA : Nat → ClassId} {base : Nat} {nests : List (String × Nat × MethodName × String)} {U : List Cond} {pr : List cn_M} {df : Nat → List Value}
    (hU : ∀ w ∈ U, (w.onTables && w.keeps) = true ∨ ∃ ty, w = Cond.arrayClass ty) (hck : ab_ck U cl) (hpr : ∀ (k : Nat) (M : cn_M), pr[k]? = some M → cn_mk U M) (hcd : ∀ (k : Nat) (M : cn_M), pr[k]? = some M → cn_cd U cl df pr nests M)
    (hdf : ∀ a, ∀ v ∈ df a, v = .null ∨ v = .int 0) : ∀ (d k : Nat) (M : cn_M) (ad : Nat → Nat) (as : List Value) (cs : List cn_K) (Q : List cn_K → Bool), pr[k]? = some M → cn_T df pr d k as cs Q = true → cn_met l D cl base ad dA nests U d M as cs Q := by
  intro d
  induction d with
  | zero => intro k M ad as cs Q _ h; cases h
  | succ d ih =>
    intro k M ad as cs Q hM h
    obtain ⟨m1, m2, m3, m4, m5, m6, m7⟩ := hpr k M hM
    obtain ⟨c1, c2⟩ := hcd k M hM
    unfold cn_T at h
    rw [hM] at h
    obtain ⟨hlen, hrun⟩ := and_d h
    refine Met.ofW (cc := M.2.1) (maxL := M.2.2.1) (ret := none) m5 rfl ?_
    intro p e s m args below meth c s₁ B hml hv
    obtain ⟨rfl, hP, hz, hD, hK, hN⟩ := hv
    have hx := B.exec
    have hb := B.bytes
    have hr := B.returns
    have hts0 := atoms_spec (ws := Cond.code M.1 M.2.1 M.2.2.1 none :: U) B.pre
    have hts : ∀ w ∈ U, w.before (as.map (ab_v ad)).toArray s = true := fun w hw => hts0 w (List.mem_cons_of_mem _ hw)
    have hown : s.vm.findClass M.1.cls = some m.cls := findClass_of_methodNamed B.named
    have hlocks := B.notSynchronized
    have hin : meth.name = "<init>" := ((name_of_methodNamed B.named B.method).1).trans m7
    have hl := lv_entry (as.map (ab_v ad)) (n := M.2.2.1) (by rw [ab_en_len]; exact hlen)
    rw [lg_entry_eq]
    refine cn_go (ad0 := ad) (n0 := cs.length) (R := cn_rm (d + 1) M.2.2.2.1 M.2.2.2.2.1) (Z := MQ below (cn_Qc D cl base ad dA cs.length Q) (as.map (ab_v ad)).toArray s M.2.2.2.1 M.2.2.2.2.1 (cn_A base)) hx hb hml hown hts hU hK hN hck hpr hz ⟨Nat.le_refl _, Nat.le_refl _, Nat.le_refl _, Nat.le_refl _⟩ hdf ih (fun pc ad' S H locs ls hd h1 h2 h3 h4 h5 h6 h7 => ?_) M.2.2.2.2.2 0 _ [] (0, 0, cs) c1 c2 (Or.inl hin) (fun L st S hE => by cases hE) hrun ad s.heap [] _ (fun _ _ => rfl) (Nat.le_refl _) hP hD va_S.rf (ab_Lr.entry hlen hl)
    refine W.widen h1 h2 ?_
    exact W.vret hx hb hr (fun t ht hW => ⟨⟨S.2.2, ad', rfl, h3, h4, by rw [ht]; exact h5, h6⟩, h7.F ht⟩) h7.2.2 hd
end
