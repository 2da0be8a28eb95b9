/-! ===== the small machine of constructors: cells come one behind the other, at the places where the heap ends ===== -/
abbrev cn_K : Type := (Nat × Nat) ⊕ (Nat × List Value)
/-- cells made, slots made, all cells -/
abbrev cn_S : Type := Nat × Nat × List cn_K
/-- name, code, locals, cells and slots that it makes, rows -/
abbrev cn_M : Type := MethodName × ByteArray × Nat × Nat × Nat × List ab_I
def cn_E (ad : Nat → Nat) (dA : Nat → ClassId) : cn_K → va_E
  | .inl (t, n) => .inl (dA t, n, if t = 2 then .inr (.inl (fun _ => 0)) else .inl (fun _ => 0))
  | .inr (ci, fs) => .inr (ci, fs.map (ab_v ad))
def cn_W (ad : Nat → Nat) (dA : Nat → ClassId) (cs : List cn_K) : va_W := cs.mapIdx fun k x => (ad k, cn_E ad dA x)
theorem cn_W_get {ad : Nat → Nat} {dA : Nat → ClassId} {cs : List cn_K} {k : Nat} {x : cn_K} (h : cs[k]? = some x) : (cn_W ad dA cs)[k]? = some (ad k, cn_E ad dA x) := by
  simp [cn_W, List.getElem?_mapIdx, h]
theorem cn_W_some {ad : Nat → Nat} {dA : Nat → ClassId} {cs : List cn_K} {k : Nat} {q : Nat × va_E} (h : (cn_W ad dA cs)[k]? = some q) : ∃ x, cs[k]? = some x ∧ q = (ad k, cn_E ad dA x) := by
  simp only [cn_W, List.getElem?_mapIdx, Option.map_eq_some_iff] at h
  obtain ⟨x, h1, h2⟩ := h
  exact ⟨x, h1, h2.symm⟩
theorem cn_W_push {ad : Nat → Nat} {dA : Nat → ClassId} (cs : List cn_K) (x : cn_K) : cn_W ad dA (cs ++ [x]) = cn_W ad dA cs ++ [(ad cs.length, cn_E ad dA x)] := by
  simp [cn_W, List.mapIdx_append]
theorem cn_W_set {ad : Nat → Nat} {dA : Nat → ClassId} {cs : List cn_K} {q : Nat} (x : cn_K) : (cn_W ad dA cs).set q (ad q, cn_E ad dA x) = cn_W ad dA (cs.set q x) := by
  apply List.ext_getElem?
  intro k
  rw [List.getElem?_set]
  simp only [cn_W, List.getElem?_mapIdx, List.getElem?_set, List.length_mapIdx]
  split
  · rename_i h
    subst h
    split <;> simp
  · rfl
def vr_lt (n : Nat) : Value → Bool
  | .ref r => decide (r < n ∨ r = ab_scr)
  | _ => true
def cn_okc (n : Nat) : cn_K → Bool
  | .inl _ => true
  | .inr (_, fs) => fs.all (vr_lt n)
def cn_okl (n : Nat) : Option Value → Bool
  | some v => vr_lt n v
  | none => true
/-- all references are to cells that are there -/
def cn_ok (cs : List cn_K) (L : ab_L) (st : List Value) : Bool := decide (cs.length < 700) && cs.all (cn_okc cs.length) && (L.all (cn_okl cs.length) && st.all (vr_lt cs.length))
theorem vr_ext {ad ad' : Nat → Nat} {n : Nat} (h : ∀ k, (k < n ∨ k = ab_scr) → ad' k = ad k) {v : Value} (hv : vr_lt n v = true) : ab_v ad' v = ab_v ad v := by
  cases v with
  | ref r => exact congrArg Value.ref (h r (of_decide_eq_true hv))
  | _ => rfl
theorem vr_exts {ad ad' : Nat → Nat} {n : Nat} (h : ∀ k, (k < n ∨ k = ab_scr) → ad' k = ad k) {vs : List Value} (hv : vs.all (vr_lt n) = true) : vs.map (ab_v ad') = vs.map (ab_v ad) := by
  apply List.map_congr_left
  intro v hm
  exact vr_ext h (List.all_eq_true.mp hv v hm)
theorem cn_E_ext {ad ad' : Nat → Nat} {dA : Nat → ClassId} {n : Nat} (h : ∀ k, (k < n ∨ k = ab_scr) → ad' k = ad k) {x : cn_K} (hx : cn_okc n x = true) : cn_E ad' dA x = cn_E ad dA x := by
  cases x with
  | inl a => rfl
  | inr o => exact congrArg (fun z => Sum.inr (o.1, z)) (vr_exts h hx)
theorem cn_W_ext {ad ad' : Nat → Nat} {dA : Nat → ClassId} {cs : List cn_K} (h : ∀ k, (k < cs.length ∨ k = ab_scr) → ad' k = ad k) (hc : cs.all (cn_okc cs.length) = true) : cn_W ad' dA cs = cn_W ad dA cs := by
  apply List.ext_getElem?
  intro k
  simp only [cn_W, List.getElem?_mapIdx]
  cases hk : cs[k]? with
  | none => rfl
  | some x =>
    have h1 := (List.getElem?_eq_some_iff.mp hk).1
    simp [h k (Or.inl h1), cn_E_ext (dA := dA) h (List.all_eq_true.mp hc x (List.mem_of_getElem? hk))]
theorem ab_Lr.ext {ad ad' : Nat → Nat} {n : Nat} {L : ab_L} {ls : Array Slot} {nL : Nat} (h : ∀ k, (k < n ∨ k = ab_scr) → ad' k = ad k) (hl : L.all (cn_okl n) = true) (hL : ab_Lr ad L ls nL) : ab_Lr ad' L ls nL := by
  refine ⟨hL.1, hL.2.1, hL.2.2.1, fun q hq => ?_⟩
  obtain ⟨j, w⟩ := q
  obtain ⟨u, hu, rfl⟩ := ab_as_mem.mp hq
  have h1 := List.all_eq_true.mp hl (some u) (List.mem_of_getElem? hu)
  rw [vr_ext h h1]
  exact hL.at hu
def pb_i (st : List Value) (k : Int32 → List Value → Bool) : Bool := match st with
  | .int x :: r => k x r
  | _ => false
def pb_r (st : List Value) (k : Nat → List Value → Bool) : Bool := match st with
  | .ref x :: r => k x r
  | _ => false
theorem pb_i_of {st : List Value} {k : Int32 → List Value → Bool} (h : pb_i st k = true) : ∃ x r, st = .int x :: r ∧ k x r = true := by
  unfold pb_i at h
  split at h
  · exact ⟨_, _, rfl, h⟩
  · cases h
theorem pb_r_of {st : List Value} {k : Nat → List Value → Bool} (h : pb_r st k = true) : ∃ x r, st = .ref x :: r ∧ k x r = true := by
  unfold pb_r at h
  split at h
  · exact ⟨_, _, rfl, h⟩
  · cases h
def lb_r (L : ab_L) (i : Nat) (k : Nat → Bool) : Bool := match L[i]? with
  | some (some (.ref x)) => k x
  | _ => false
theorem lb_r_of {L : ab_L} {i : Nat} {k : Nat → Bool} (h : lb_r L i k = true) : ∃ x, L[i]? = some (some (.ref x)) ∧ k x = true := by
  unfold lb_r at h
  split at h
  · exact ⟨_, by assumption, h⟩
  · cases h
theorem and_d {c : Prop} [Decidable c] {b : Bool} (h : (decide c && b) = true) : c ∧ b = true := by
  rw [Bool.and_eq_true, decide_eq_true_eq] at h
  exact h
def cn_obj (cs : List cn_K) (q ci : Nat) (k : List Value → Bool) : Bool := match cs[q]? with
  | some (.inr (c, fs)) => decide (c = ci) && k fs
  | _ => false
theorem cn_obj_of {cs : List cn_K} {q ci : Nat} {k : List Value → Bool} (h : cn_obj cs q ci k = true) : ∃ fs, cs[q]? = some (.inr (ci, fs)) ∧ k fs = true := by
  unfold cn_obj at h
  split at h
  · rename_i c fs e
    obtain ⟨e2, h2⟩ := and_d h
    subst e2
    exact ⟨fs, e, h2⟩
  · cases h
abbrev cn_Tt : Type := Nat → List Value → List cn_K → (List cn_K → Bool) → Bool
def cn_1 (df : Nat → List Value) (mc ms : Nat) (mcs : Nat → Nat × Nat) (T : cn_Tt) (Q : List cn_K → Bool) (i : Instr) (a b : Nat) (L : ab_L) (st : List Value) (S : cn_S) (k : ab_L → List Value → cn_S → Bool) : Bool := match i with
  | .aload_n n => lb_r L n fun x => k L (.ref x :: st) S
  | .astore_n n => pb_r st fun x st => decide (n < L.length) && k (ab_set1 L n (.ref x)) st S
  | .iconst n => k L (.int (Int32.ofInt n) :: st) S
  | .bipush n => k L (.int (Int8.ofInt n).toInt32 :: st) S
  | .sipush n => k L (.int (Int16.ofInt n).toInt32 :: st) S
  | .ldc _ => k L (.int (ab_num a b) :: st) S
  | .dup => (match st with
    | v :: st => decide (v.category = 1) && k L (v :: v :: st) S
    | [] => false)
  | .newarray _ => pb_i st fun n st => decide (n = nI b ∧ b ≤ 100000 ∧ S.1 + 1 ≤ mc ∧ S.2.1 + b ≤ ms ∧ cn_ok S.2.2 L st = true) && k L (.ref S.2.2.length :: st) (S.1 + 1, S.2.1 + b, S.2.2 ++ [.inl (a, b)])
  | .new _ => decide (S.1 + 1 ≤ mc ∧ S.2.1 + b ≤ ms ∧ cn_ok S.2.2 L st = true) && k L (.ref S.2.2.length :: st) (S.1 + 1, S.2.1 + b, S.2.2 ++ [.inr (a, df a)])
  | .putfield _ => if b < 1000
      then pb_i st fun x st => pb_r st fun q st => cn_obj S.2.2 q a fun fs => decide (b < fs.length) && k L st (S.1, S.2.1, S.2.2.set q (.inr (a, fs.set b (.int x))))
      else pb_r st fun x st => pb_r st fun q st => cn_obj S.2.2 q a fun fs => decide (b - 1000 < fs.length) && k L st (S.1, S.2.1, S.2.2.set q (.inr (a, fs.set (b - 1000) (.ref x))))
  | .getfield _ => pb_r st fun q st => cn_obj S.2.2 q a fun fs => (match fs[b]? with
    | some v => k L (v :: st) S
    | none => false)
  | .invokespecial _ => if a = 999 then pb_r st fun _ st => decide (st.length ≤ 4) && k L st S
    else decide ((st.drop (b + 1)).length ≤ 4) && (match st.drop b with
      | .ref q :: r => decide (S.1 + (mcs a).1 ≤ mc ∧ S.2.1 + (mcs a).2 ≤ ms ∧ cn_ok S.2.2 L st = true) && T a (.ref q :: (st.take b).reverse) S.2.2 fun cs => decide (S.2.2.length ≤ cs.length) && k L r (S.1 + (mcs a).1, S.2.1 + (mcs a).2, cs)
      | _ => false)
  | .return_ => decide (st.length = 0 ∧ S.1 ≤ mc ∧ S.2.1 ≤ ms) && Q S.2.2
  | _ => false
def cn_w (df : Nat → List Value) (mc ms : Nat) (mcs : Nat → Nat × Nat) (T : cn_Tt) (Q : List cn_K → Bool) (E : ab_L → List Value → cn_S → Bool) : List ab_I → ab_L → List Value → cn_S → Bool
  | [], L, st, S => E L st S
  | (_, i, _, a, b) :: r, L, st, S => cn_1 df mc ms mcs T Q i a b L st S fun L st S => cn_w df mc ms mcs T Q E r L st S
def cn_mcs (pr : List cn_M) (k : Nat) : Nat × Nat := match pr[k]? with
  | some M => (M.2.2.2.1, M.2.2.2.2.1)
  | none => (0, 0)
def cn_T (df : Nat → List Value) (pr : List cn_M) : Nat → cn_Tt
  | 0, _, _, _, _ => false
  | d + 1, k, as, cs, Q => match pr[k]? with
    | none => false
    | some M => decide ((ab_en as).length ≤ M.2.2.1) && cn_w df M.2.2.2.1 M.2.2.2.2.1 (cn_mcs pr) (cn_T df pr d) Q (fun _ _ _ => false) M.2.2.2.2.2 (ab_en as ++ List.replicate (M.2.2.1 - (ab_en as).length) none) [] (0, 0, cs)
/-- what the tables must say; nests: the links to nest mates' constructors -/
def cn_lk (U : List Cond) (cl : List vw_C) (df : Nat → List Value) (pr : List cn_M) (nests : List (String × Nat × MethodName × String)) (own : String) (i : Instr) (a b : Nat) : Prop := match i with
  | .ldc idx => Cond.constant own idx (ab_num a b) ∈ U
  | .newarray t => Cond.arrayClass (newarray.typeOf t) ∈ U ∧ ((a = 0 ∧ newarray.typeOf t = .int) ∨ (a = 1 ∧ newarray.typeOf t = .boolean) ∨ (a = 2 ∧ newarray.typeOf t = .long))
  | .new idx => ∃ C T, cl[a]? = some (C, T, b) ∧ Cond.classLink own idx C ∈ U ∧ Cond.instantiable C b ∈ U ∧ Cond.initialized C ∈ U ∧ ∃ ty0 : Nat → FieldType, (∀ k, k < b → parseFieldDescriptor (T k).2.2.1 = some (ty0 k)) ∧ ∀ j, j < b → defaultValue (ty0 j) = vp_V (df a) j ∧ (vp_V (df a) j = .null ∨ vp_V (df a) j = .int 0)
  | .putfield idx => ∃ C T N', cl[a]? = some (C, T, N') ∧ (if b < 1000 then b else b - 1000) < N' ∧ Cond.fieldLink own idx (T (if b < 1000 then b else b - 1000)).1 (T (if b < 1000 then b else b - 1000)).2.1 (T (if b < 1000 then b else b - 1000)).2.2.1 ∈ U ∧ (if b < 1000 then (T b).2.2.2 = false ∧ parseFieldDescriptor (T b).2.2.1 = some .int else (T (b - 1000)).2.2.2 = true ∧ (T (b - 1000)).1 = own ∧ ∃ ty, parseFieldDescriptor (T (b - 1000)).2.2.1 = some ty ∧ (∀ q : Nat, narrow ty (.ref q) = .ref q ∧ fits ty (.ref q) = true))
  | .getfield idx => ∃ C T N', cl[a]? = some (C, T, N') ∧ b < N' ∧ Cond.fieldLink own idx (T b).1 (T b).2.1 (T b).2.2.1 ∈ U
  | .invokespecial idx => if a = 999 then Cond.methodLink own idx objectInit ∈ U ∧ Cond.instanceMethod objectInit ∈ U ∧ Cond.code objectInit ⟨#[0xb1]⟩ 1 none ∈ U
    else ∃ M, pr[a]? = some M ∧ Cond.instanceMethod M.1 ∈ U ∧ (parseMethodDescriptor M.1.desc).map (fun d => d.parameters.length) = some b ∧ (Cond.methodLink own idx M.1 ∈ U ∨ ∃ host, (own, idx, M.1, host) ∈ nests)
  | _ => True
def cn_mk (U : List Cond) (M : cn_M) : Prop := Cond.code M.1 M.2.1 M.2.2.1 none ∈ U ∧ Cond.initialized M.1.cls ∈ U ∧ M.1.cls ≠ "java/lang/invoke/MethodHandle" ∧ M.1.cls ≠ "java/lang/invoke/VarHandle" ∧ plainName M.1.cls = true ∧ M.2.2.1 ≤ 21 ∧ M.1.name = "<init>"
def cn_rm (d mc ms : Nat) : Room := { frames := d, cells := mc, slots := ms, locals := 100 * d }
def cn_Nst (nests : List (String × Nat × MethodName × String)) (u : State) : Prop := ∀ q ∈ nests, va_Nw (.methodLinkNest q.1 q.2.1 q.2.2.1 q.2.2.2) u
def cn_A (base : Nat) : Nat → Prop := fun q => base ≤ q
def cn_Pc (D : va_G) (cl : List vw_C) (base : Nat) (ad : Nat → Nat) (dA : Nat → ClassId) (nests : List (String × Nat × MethodName × String)) (as : List Value) (cs : List cn_K) : Array Value → State → Prop := va_Pc (as.map (ab_v ad)) fun u => va_P D cl (cn_W ad dA cs) u.heap ∧ base ≤ u.heap.size ∧ va_D (cn_A base) (cn_W ad dA cs) ∧ va_K D cl (ab_tys dA) u ∧ cn_Nst nests u
def cn_Qc (D : va_G) (cl : List vw_C) (base : Nat) (ad : Nat → Nat) (dA : Nat → ClassId) (n : Nat) (Q : List cn_K → Bool) : Array Value → State → Outcome → State → Prop := fun _ st oc t => (∃ (cs : List cn_K) (ad' : Nat → Nat), oc = .returned none ∧ Q cs = true ∧ (∀ k, (k < n ∨ k = ab_scr) → ad' k = ad k) ∧ va_P D cl (cn_W ad' dA cs) t.heap ∧ va_D (cn_A base) (cn_W ad' dA cs)) ∧ va_F (cn_A base) st t
def cn_met (l : Launch) (D : va_G) (cl : List vw_C) (base : Nat) (ad : Nat → Nat) (dA : Nat → ClassId) (nests : List (String × Nat × MethodName × String)) (U : List Cond) (d : Nat) (M : cn_M) (as : List Value) (cs : List cn_K) (Q : List cn_K → Bool) : Prop := Met l M.1 (Cond.code M.1 M.2.1 M.2.2.1 none :: U) (cn_rm d M.2.2.2.1 M.2.2.2.2.1) (cn_Pc D cl base ad dA nests as cs) (cn_Qc D cl base ad dA cs.length Q) M.2.2.2.1 M.2.2.2.2.1 (cn_A base)
/-- n0: so many cells were there when the method began; they lie where ad0 has them -/
def cn_G (p : Program) (l : Launch) (e : Env) (R : Room) (s : State) (m : MethodId) (args : Array Value) (below : List Frame) (meth : Method) (c : Code) (Z : State → Prop) (D : va_G) (cl : List vw_C) (base : Nat) (ad0 : Nat → Nat) (n0 : Nat) (dA : Nat → ClassId) (nL : Nat) (pc : Nat) (L : ab_L) (st : List Value) (S : cn_S) : Prop :=
  ∀ (ad : Nat → Nat) (H : Heap) (locs : List Loc) (ls : Array Slot), (∀ k, (k < n0 ∨ k = ab_scr) → ad k = ad0 k) → n0 ≤ S.2.2.length → va_P D cl (cn_W ad dA S.2.2) H → va_D (cn_A base) (cn_W ad dA S.2.2) → va_S (cn_A base) s.heap H locs → ab_Lr ad L ls nL → W p l e R s m args below meth c H locs S.1 S.2.1 Z (F0 m pc ls (st.map (ab_v ad)))
theorem cn_blind {D : va_G} {cl : List vw_C} {base : Nat} {ad : Nat → Nat} {dA : Nat → ClassId} {nests : List (String × Nat × MethodName × String)} {as : List Value} {cs : List cn_K} : FrameBlind (cn_Pc D cl base ad dA nests as cs) := fun a U g mk q => by
  obtain ⟨q0, q1, q2, q3, q4, q5⟩ := q
  exact ⟨q0, q1, q2, q3, va_K.moved (u := U) (U := U.calling g mk a) (Vm.Alike.refl U.vm) q4, fun x hx => va_Nw.same rfl (u := U) (U := U.calling g mk a) rfl (q5 x hx)⟩
theorem cn_Nst_warm {nests : List (String × Nat × MethodName × String)} {s U : State} (hW : s.WarmedH U.vm) (h : cn_Nst nests s) : cn_Nst nests U := fun q hq => va_Nw.warmM hW (h q hq)
