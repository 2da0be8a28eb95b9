/-! ===== one instruction of the small machine is one of the great one ===== -/
/-- what the tables must say for an instruction -/
def ab_lk (U : List Cond) (cl : List vw_C) (pr : List ab_M) (own : String) (pc : Nat) (i : Instr) (a b : Nat) : Prop := match i with
  | .getfield idx => ∃ C T N', cl[a]? = some (C, T, N') ∧ b < N' ∧ Cond.fieldLink own idx (T b).1 (T b).2.1 (T b).2.2.1 ∈ U
  | .putfield idx => ∃ C T N', cl[a]? = some (C, T, N') ∧ (if b < 1000 then b else b - 1000) < N' ∧ Cond.fieldLink own idx (T (if b < 1000 then b else b - 1000)).1 (T (if b < 1000 then b else b - 1000)).2.1 (T (if b < 1000 then b else b - 1000)).2.2.1 ∈ U ∧ (T (if b < 1000 then b else b - 1000)).2.2.2 = false ∧ parseFieldDescriptor (T (if b < 1000 then b else b - 1000)).2.2.1 = some (if b < 1000 then .int else .boolean)
  | .ldc idx => Cond.constant own idx (ab_num a b) ∈ U
  | .ldc_w idx => Cond.constant own idx (ab_num a b) ∈ U
  | .ldc2_w idx => Cond.constantLong own idx (ab_lnum a b) ∈ U
  | .goto off => (pc : Int) + off = (a : Int)
  | .if_icmp _ off => (pc : Int) + off = (a : Int)
  | .ifCond _ off => (pc : Int) + off = (a : Int)
  | .tableswitch d _ _ _ => 0 ≤ d
  | .lookupswitch _ ps => (ps.toList.zip (ps.toList.drop 1)).all (fun (a, next) => a.1 < next.1) = true
  | .arraylength => a ≤ 2
  | .invokevirtual idx => ∃ M, pr[a]? = some M ∧ Cond.methodLink own idx M.1 ∈ U ∧ Cond.instanceMethod M.1 ∈ U ∧ Cond.selects M.1.cls M.1 M.1 ∈ U ∧ (∃ T N', cl[M.2.1]? = some (M.1.cls, T, N')) ∧ (parseMethodDescriptor M.1.desc).map (fun d => d.parameters.length) = some b
  | .invokestatic idx => if a = 1000 then Cond.methodLink own idx Lib.Math.max.name ∈ U ∧ Cond.static Lib.Math.max.name ∈ U ∧ Cond.initialized "java/lang/Math" ∈ U ∧ Cond.code Lib.Math.max.name Lib.Math.max.code 2 (some .int) ∈ U
    else if a = 1001 then Cond.methodLink own idx Lib.Math.min.name ∈ U ∧ Cond.static Lib.Math.min.name ∈ U ∧ Cond.initialized "java/lang/Math" ∈ U ∧ Cond.code Lib.Math.min.name Lib.Math.min.code 2 (some .int) ∈ U
    else if a = 1002 then Cond.methodLink own idx arraycopyName ∈ U ∧ Cond.native arraycopyName ∈ U ∧ Cond.static arraycopyName ∈ U ∧ Cond.initialized "java/lang/System" ∈ U
    else ∃ M, pr[a]? = some M ∧ Cond.methodLink own idx M.1 ∈ U ∧ Cond.static M.1 ∈ U ∧ (parseMethodDescriptor M.1.desc).map (fun d => d.parameters.length) = some b
  | _ => True
/-- what the tables must say for a method as it is called -/
def ab_mk (U : List Cond) (M : ab_M) : Prop := Cond.code M.1 M.2.2.1 M.2.2.2.1 M.2.2.2.2.1 ∈ U ∧ Cond.initialized M.1.cls ∈ U ∧ M.1.cls ≠ "java/lang/invoke/MethodHandle" ∧ M.1.cls ≠ "java/lang/invoke/VarHandle" ∧ plainName M.1.cls = true ∧ M.2.2.2.1 ≤ 21
/-- what the tables must say for a kind of objects -/
def ab_ck (U : List Cond) (cl : List vw_C) : Prop := ∀ (ci : Nat) (C : String) (T : u_T) (N' : Nat), cl[ci]? = some (C, T, N') → (∀ w ∈ u_ws C T N', w ∈ U) ∧ (∃ ty0 : Nat → FieldType, ∀ k, k < N' → parseFieldDescriptor (T k).2.2.1 = some (ty0 k)) ∧ ∀ a, a < N' → ∀ b, b < N' → a ≠ b → (T a).2.1 ≠ (T b).2.1
def ab_rm (d : Nat) : Room := { frames := d, cells := 0, slots := 0, locals := 100 * d }
def ab_tys (dA : Nat → ClassId) : List (ClassId × FieldType) := [(dA 0, .int), (dA 1, .boolean), (dA 2, .long)]
def ab_Pc (D : va_G) (cl : List vw_C) (sh : ab_Sh) (N : Nat) (ad : Nat → Nat) (dA : Nat → ClassId) (as : List Value) (S : ab_S) : Array Value → State → Prop := va_Pc (as.map (ab_v ad)) fun u => va_P D cl (ab_W sh N ad dA S) u.heap ∧ va_K D cl (ab_tys dA) u
def ab_Qc (D : va_G) (cl : List vw_C) (sh : ab_Sh) (N : Nat) (ad : Nat → Nat) (dA : Nat → ClassId) (Q : ab_Q) : Array Value → State → Outcome → State → Prop := fun _ st oc t => (∃ (r : Option Value) (u : ab_S), oc = .returned r ∧ (r = none ∨ ∃ z : Int32, r = some (.int z)) ∧ Q r u ∧ va_P D cl (ab_W sh N ad dA u) t.heap) ∧ va_F (ab_A N ad) st t
def ab_met (l : Launch) (D : va_G) (cl : List vw_C) (sh : ab_Sh) (N : Nat) (ad : Nat → Nat) (dA : Nat → ClassId) (U : List Cond) (d : Nat) (M : ab_M) (as : List Value) (S : ab_S) (Q : ab_Q) : Prop := Met l M.1 (Cond.code M.1 M.2.2.1 M.2.2.2.1 M.2.2.2.2.1 :: U) (ab_rm d) (ab_Pc D cl sh N ad dA as S) (ab_Qc D cl sh N ad dA Q) 0 0 (ab_A N ad)
section AB
variable {p : Program} {l : Launch} {e : Env} {R : Room} {s : State} {m : MethodId} {args : Array Value} {below : List Frame} {meth : Method} {c : Code} {Z : State → Prop}
variable {D : va_G} {cl : List vw_C} {sh : ab_Sh} {N : Nat} {ad : Nat → Nat} {dA : Nat → ClassId} {nL : Nat}
/-- a call has come back -/
theorem ab_back {A : Nat → Prop} {cells slots : Nat} (hA : ∀ q, ab_A N ad q → A q) {Q : ab_Q} {H : Heap} {locs : List Loc} {pc : Nat} {ls : Array Slot} {st0 rest : List Value} {a : Array Value}
    (hr : va_Run p l e R s m args below meth c H locs cells slots 0 0 (F0 m pc ls st0) rest (ab_Qc D cl sh N ad dA Q a) (ab_A N ad)) (hS : va_S A s.heap H locs)
    (kk : ∀ (r : Option Value) (u : ab_S) (H1 : Heap) (locs1 : List Loc), (r = none ∨ ∃ z : Int32, r = some (.int z)) → Q r u → va_P D cl (ab_W sh N ad dA u) H1 → va_S A s.heap H1 locs1 → W p l e R s m args below meth c H1 locs1 cells slots Z (F0 m (pc + 3) ls (r.toList ++ rest))) :
    W p l e R s m args below meth c H locs cells slots Z (F0 m pc ls st0) := by
  intro T hT X
  obtain ⟨v, st₀, t, T', L, h0, X', hL, e1, e2, ⟨⟨r, u, hv, hz0, hp, hb⟩, hz, hk⟩, st⟩ := hr T hT X
  cases hv
  rw [h0] at hz hk
  obtain ⟨t2, a1, b1⟩ := kk _ u T'.heap (locs ++ L) hz0 hp (by rw [e1]; exact hb)
    ⟨Nat.le_trans hS.1 (by rw [e1]; exact hz), fun q h1 h2 => by rw [e1, hk q (Nat.lt_of_lt_of_le h1 hS.1) (fun z => h2 (hA q z))]; exact hS.2.1 q h1 h2, fun q hq => by
      rcases List.mem_append.mp hq with h | h
      · exact hS.2.2 q h
      · exact hA _ (hL q h)⟩ T' rfl X'
  exact ⟨t2, st t2 a1, b1⟩
/-- the great machine goes on well from here -/
def ab_G (p : Program) (l : Launch) (e : Env) (R : Room) (s : State) (m : MethodId) (args : Array Value) (below : List Frame) (meth : Method) (c : Code) (Z : State → Prop) (D : va_G) (cl : List vw_C) (sh : ab_Sh) (N : Nat) (ad : Nat → Nat) (dA : Nat → ClassId) (A : Nat → Prop) (cells slots : Nat) (nL : Nat) (pc : Nat) (L : ab_L) (st : List Value) (S : ab_S) : Prop :=
  ∀ (H : Heap) (locs : List Loc) (ls : Array Slot), va_P D cl (ab_W sh N ad dA S) H → va_S A s.heap H locs → ab_Lr ad L ls nL → W p l e R s m args below meth c H locs cells slots Z (F0 m pc ls (st.map (ab_v ad)))
theorem ab_sum4 : ∀ (st : List Value), st.length ≤ 4 → (st.map fun v => v.category).sum ≤ 8 := by
  have h : ∀ v : Value, v.category ≤ 2 := fun v => by rcases lv_cat v with h | h <;> omega
  intro st hst
  match st, hst with
  | [], _ => decide
  | [a], _ => have := h a; simp; omega
  | [a, b], _ => have := h a; have := h b; simp; omega
  | [a, b, c], _ => have := h a; have := h b; have := h c; simp; omega
  | [a, b, c, d], _ => have := h a; have := h b; have := h c; have := h d; simp; omega
theorem ab_bool {x : Int32} (h : x = 0 ∨ x = 1) : narrow .boolean (.int x) = .int x ∧ fits .boolean (.int x) = true ∧ vp_nar .boolean x = x := by
  rcases h with rfl | rfl <;> decide +kernel
theorem ab_blind {as : List Value} {S : ab_S} : FrameBlind (ab_Pc D cl sh N ad dA as S) := fun a U g mk q => by
  obtain ⟨q0, q1, q2⟩ := q
  exact ⟨q0, q1, va_K.moved (u := U) (U := U.calling g mk a) (Vm.Alike.refl U.vm) q2⟩
theorem ab_ri (ad : Nat → Nat) {r : Option Value} (h : r = none ∨ ∃ z : Int32, r = some (.int z)) (rest : List Value) : (r.toList ++ rest).map (ab_v ad) = r.toList ++ rest.map (ab_v ad) := by
  rcases h with rfl | ⟨z, rfl⟩ <;> rfl
end AB
