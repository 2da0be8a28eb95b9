/-! ===== the tables' words, by program ===== -/
def ab_bln (i : Instr) (len : Nat) : Bool := match i with
  | .iload _ => len == 2
  | .lload _ => len == 2
  | .aload _ => len == 2
  | .istore _ => len == 2
  | .lstore _ => len == 2
  | .iinc _ _ => len == 3
  | .bipush _ => len == 2
  | .sipush _ => len == 3
  | .ldc _ => len == 2
  | .ldc_w _ => len == 3
  | .ldc2_w _ => len == 3
  | .getfield _ => len == 3
  | .putfield _ => len == 3
  | .goto _ => len == 3
  | .if_icmp _ _ => len == 3
  | .ifCond _ _ => len == 3
  | .invokevirtual _ => len == 3
  | .invokestatic _ => len == 3
  | .tableswitch _ _ _ _ => true
  | .lookupswitch _ _ => true
  | .new _ => true
  | .invokespecial _ => true
  | _ => len == 1
theorem ab_bln_of {i : Instr} {len : Nat} (h : ab_bln i len = true) : ab_ln i len := by
  cases i <;> first | exact eq_of_beq h | exact trivial
abbrev ab_3 : Type := Nat × Nat × Nat
def ab_okF (U : List Cond) (cl : List vw_C) (own : String) (q : ab_3) : Prop := ∃ C T N', cl[q.2.1]? = some (C, T, N') ∧ q.2.2 < N' ∧ Cond.fieldLink own q.1 (T q.2.2).1 (T q.2.2).2.1 (T q.2.2).2.2.1 ∈ U
def ab_okK (U : List Cond) (own : String) (q : ab_3) : Prop := if q.2.2 < 2 then Cond.constant own q.1 (ab_num q.2.1 q.2.2) ∈ U else Cond.constantLong own q.1 (ab_lnum q.2.1 (q.2.2 - 2)) ∈ U
def ab_okV (U : List Cond) (cl : List vw_C) (pr : List ab_M) (own : String) (q : ab_3) : Prop := ab_lk U cl pr own 0 (.invokevirtual q.1) q.2.1 q.2.2
def ab_okS (U : List Cond) (cl : List vw_C) (pr : List ab_M) (own : String) (q : ab_3) : Prop := ab_lk U cl pr own 0 (.invokestatic q.1) q.2.1 q.2.2
def ab_bI (cl : List vw_C) (FL KL VL SL : List ab_3) (pc : Nat) (i : Instr) (a b : Nat) : Bool := match i with
  | .getfield idx => FL.contains (idx, a, b)
  | .putfield idx => FL.contains (idx, a, if b < 1000 then b else b - 1000) && (match cl[a]? with
    | some (_, T, _) => (!(T (if b < 1000 then b else b - 1000)).2.2.2) && decide (parseFieldDescriptor (T (if b < 1000 then b else b - 1000)).2.2.1 = some (if b < 1000 then .int else .boolean))
    | none => false)
  | .ldc idx => decide (b < 2) && KL.contains (idx, a, b)
  | .ldc_w idx => decide (b < 2) && KL.contains (idx, a, b)
  | .ldc2_w idx => KL.contains (idx, a, b + 2)
  | .goto off => decide ((pc : Int) + off = (a : Int))
  | .if_icmp _ off => decide ((pc : Int) + off = (a : Int))
  | .ifCond _ off => decide ((pc : Int) + off = (a : Int))
  | .tableswitch d _ _ _ => decide (0 ≤ d)
  | .lookupswitch _ ps => (ps.toList.zip (ps.toList.drop 1)).all (fun (a, next) => a.1 < next.1)
  | .arraylength => decide (a ≤ 2)
  | .invokevirtual idx => VL.contains (idx, a, b)
  | .invokestatic idx => SL.contains (idx, a, b)
  | _ => true
theorem ab_bI_of {U : List Cond} {cl : List vw_C} {pr : List ab_M} {own : String} {FL KL VL SL : List ab_3} (hF : ∀ q ∈ FL, ab_okF U cl own q) (hK : ∀ q ∈ KL, ab_okK U own q) (hV : ∀ q ∈ VL, ab_okV U cl pr own q) (hS : ∀ q ∈ SL, ab_okS U cl pr own q) {pc : Nat} {i : Instr} {a b : Nat} (h : ab_bI cl FL KL VL SL pc i a b = true) : ab_lk U cl pr own pc i a b := by
  cases i with
  | getfield idx => exact hF (idx, a, b) (List.contains_iff_mem.mp h)
  | putfield idx =>
    simp only [ab_bI, Bool.and_eq_true] at h
    obtain ⟨C, T, N', h1, h2, h3⟩ := hF _ (List.contains_iff_mem.mp h.1)
    have h4 := h.2
    simp only [h1, Bool.and_eq_true, Bool.not_eq_true', decide_eq_true_eq] at h4
    exact ⟨C, T, N', h1, h2, h3, h4.1, h4.2⟩
  | ldc idx =>
    simp only [ab_bI, Bool.and_eq_true, decide_eq_true_eq] at h
    have h2 := hK _ (List.contains_iff_mem.mp h.2)
    simp only [ab_okK, if_pos h.1] at h2
    exact h2
  | ldc_w idx =>
    simp only [ab_bI, Bool.and_eq_true, decide_eq_true_eq] at h
    have h2 := hK _ (List.contains_iff_mem.mp h.2)
    simp only [ab_okK, if_pos h.1] at h2
    exact h2
  | ldc2_w idx =>
    simp only [ab_bI] at h
    have h2 := hK _ (List.contains_iff_mem.mp h)
    have n : ¬ b + 2 < 2 := by omega
    simp only [ab_okK, if_neg n, Nat.add_sub_cancel] at h2
    exact h2
  | goto off => exact (of_decide_eq_true h : (pc : Int) + off = (a : Int))
  | if_icmp cn off => exact (of_decide_eq_true h : (pc : Int) + off = (a : Int))
  | ifCond cn off => exact (of_decide_eq_true h : (pc : Int) + off = (a : Int))
  | tableswitch d lo hi offs => exact (of_decide_eq_true h : 0 ≤ d)
  | lookupswitch d ps => exact h
  | arraylength => exact (of_decide_eq_true h : a ≤ 2)
  | invokevirtual idx => exact hV (idx, a, b) (List.contains_iff_mem.mp h)
  | invokestatic idx => exact hS (idx, a, b) (List.contains_iff_mem.mp h)
  | _ => exact trivial
def ab_bM (cl : List vw_C) (FL KL VL SL : List ab_3) (M : ab_M) : Bool := ab_ch M.2.2.2.2.2 && M.2.2.2.2.2.all fun q => decide (q.2.1 = .nop) || (decide (q.2.1 = .monitorexit) || (decide (decode M.2.2.1 q.1 = .ok (q.2.1, q.2.2.1)) && (ab_bln q.2.1 q.2.2.1 && ab_bI cl FL KL VL SL q.1 q.2.1 q.2.2.2.1 q.2.2.2.2)))
theorem ab_bM_of {U : List Cond} {cl : List vw_C} {pr : List ab_M} {M : ab_M} {FL KL VL SL : List ab_3} (hF : ∀ q ∈ FL, ab_okF U cl M.1.cls q) (hK : ∀ q ∈ KL, ab_okK U M.1.cls q) (hV : ∀ q ∈ VL, ab_okV U cl pr M.1.cls q) (hS : ∀ q ∈ SL, ab_okS U cl pr M.1.cls q) (h : ab_bM cl FL KL VL SL M = true) : ab_cd U cl pr M := by
  simp only [ab_bM, Bool.and_eq_true, List.all_eq_true, Bool.or_eq_true] at h
  refine ⟨h.1, fun q hq => ?_⟩
  rcases h.2 q hq with h0 | h0 | ⟨h1, h2, h3⟩
  · exact Or.inl (of_decide_eq_true h0)
  · exact Or.inr (Or.inl (of_decide_eq_true h0))
  · exact Or.inr (Or.inr ⟨of_decide_eq_true h1, ab_bln_of h2, ab_bI_of hF hK hV hS h3⟩)
