/-- how long an instruction is -/
def ab_ln (i : Instr) (len : Nat) : Prop := match i with
  | .iload _ => len = 2
  | .lload _ => len = 2
  | .aload _ => len = 2
  | .istore _ => len = 2
  | .lstore _ => len = 2
  | .iinc _ _ => len = 3
  | .bipush _ => len = 2
  | .sipush _ => len = 3
  | .ldc _ => len = 2
  | .ldc_w _ => len = 3
  | .ldc2_w _ => len = 3
  | .getfield _ => len = 3
  | .putfield _ => len = 3
  | .goto _ => len = 3
  | .if_icmp _ _ => len = 3
  | .ifCond _ _ => len = 3
  | .invokevirtual _ => len = 3
  | .invokestatic _ => len = 3
  | .tableswitch _ _ _ _ => True
  | .lookupswitch _ _ => True
  | .new _ => True
  | .invokespecial _ => True
  | _ => len = 1
theorem ab_if {c A : Prop} [Decidable c] (h : if c then A else False) : c ∧ A := by
  split at h
  · exact ⟨by assumption, h⟩
  · exact h.elim
section AB2
variable {p : Program} {l : Launch} {e : Env} {R : Room} {s : State} {m : MethodId} {args : Array Value} {below : List Frame} {meth : Method} {c : Code}
variable {D : va_G} {cl : List vw_C} {sh : ab_Sh} {N : Nat} {ad : Nat → Nat} {dA : Nat → ClassId} {nL : Nat}
set_option maxHeartbeats 8000000 in
set_option maxRecDepth 20000 in
theorem ab_step {Z : State → Prop} {A : Nat → Prop} {cells slots : Nat} {sc : ab_X} {U : List Cond} {pr : List ab_M} {own : String} {cc : ByteArray} {d : Nat} {Q : ab_Q} {J : Nat → ab_L → List Value → ab_S → Prop} {K : ab_L → List Value → ab_S → Prop} {ret : Option FieldType} {pc len a b : Nat} {i : Instr} {L : ab_L} {st : List Value} {S : ab_S}
    (hx : p.tables.exec = Jvm.exec) (hb : c.code = cc) (hml : c.maxLocals = nL) (hown : s.vm.findClass own = some m.cls) 
    (hts : ∀ w ∈ U, w.before args s = true) (hU : ∀ w ∈ U, (w.onTables && w.keeps) = true ∨ ∃ ty, w = Cond.arrayClass ty)
    (hK : va_K D cl (ab_tys dA) s) (hck : ab_ck U cl) (hpr : ∀ (k : Nat) (M : ab_M), pr[k]? = some M → ab_mk U M)
    (hinj : ∀ i j, i < N → j < N → ad i = ad j → i = j) (hA : ∀ q, ab_A N ad q → A q) (hR : d + 1 ≤ R.frames ∧ 100 * (d + 1) ≤ R.locals ∧ cells ≤ R.cells ∧ slots ≤ R.slots)
    (hsc : ∀ n xs, sc = some (n, xs) → va_X (ad ab_scr) n xs s s.heap ∧ ad ab_scr < s.heap.size ∧ ¬ A (ad ab_scr))
    (hT : ∀ (k : Nat) (M : ab_M) (as : List Value) (S : ab_S) (Q : ab_Q), pr[k]? = some M → ab_T sh N pr d k as S Q → ab_met l D cl sh N ad dA U d M as S Q)
    (hd : decode cc pc = .ok (i, len)) (hln : ab_ln i len) (hlk : ab_lk U cl pr own pc i a b)
    (kK : ∀ L st S, K L st S → ab_G p l e R s m args below meth c Z D cl sh N ad dA A cells slots nL (pc + len) L st S)
    (kJ : ∀ t L st S, J t L st S → ab_G p l e R s m args below meth c Z D cl sh N ad dA A cells slots nL t L st S)
    (kR : ∀ (x : Int32) (S : ab_S) (H : Heap) (locs : List Loc) (ls : Array Slot), i = .ireturn → (ret = some .int ∨ (ret = some .boolean ∧ (x = 0 ∨ x = 1))) → Q (some (.int x)) S → va_P D cl (ab_W sh N ad dA S) H → va_S A s.heap H locs → W p l e R s m args below meth c H locs cells slots Z (F0 m pc ls [.int x]))
    (kV : ∀ (S : ab_S) (H : Heap) (locs : List Loc) (ls : Array Slot), i = .return_ → ret = none → Q none S → va_P D cl (ab_W sh N ad dA S) H → va_S A s.heap H locs → W p l e R s m args below meth c H locs cells slots Z (F0 m pc ls []))
    (h : ab_1 sc sh N (ab_oc pr) (ab_T sh N pr d) J Q ret pc i a b L st S K) :
    ab_G p l e R s m args below meth c Z D cl sh N ad dA A cells slots nL pc L st S := by
  intro H locs ls hP hS hL
  have hD : ∀ S : ab_S, va_D A (ab_W sh N ad dA S) := fun S => (ab_D hinj).weaken (fun _ _ _ z => hA _ z)
  cases i with
  | iload n =>
    obtain ⟨x, h1, h2⟩ := ld_i_of h
    obtain rfl : len = 2 := hln
    exact lv_iload hx hb hd (hL.at h1) (kK _ _ _ h2 H locs ls hP hS hL)
  | iload_n n =>
    obtain ⟨x, h1, h2⟩ := ld_i_of h
    obtain rfl : len = 1 := hln
    exact lv_iload_n hx hb hd rfl (hL.at h1) (kK _ _ _ h2 H locs ls hP hS hL)
  | lload n =>
    obtain ⟨x, h1, h2⟩ := ld_l_of h
    obtain rfl : len = 2 := hln
    exact lv_lload hx hb hd (hL.at h1) (kK _ _ _ h2 H locs ls hP hS hL)
  | lload_n n =>
    obtain ⟨x, h1, h2⟩ := ld_l_of h
    obtain rfl : len = 1 := hln
    exact lv_lload_n hx hb hd rfl (hL.at h1) (kK _ _ _ h2 H locs ls hP hS hL)
  | aload n =>
    obtain ⟨x, h1, h2⟩ := ld_r_of h
    obtain rfl : len = 2 := hln
    exact lv_aload hx hb hd (hL.at h1) (kK _ _ _ h2 H locs ls hP hS hL)
  | aload_n n =>
    obtain ⟨x, h1, h2⟩ := ld_r_of h
    obtain rfl : len = 1 := hln
    exact lv_aload_n hx hb hd rfl (hL.at h1) (kK _ _ _ h2 H locs ls hP hS hL)
  | istore n =>
    obtain ⟨x, r, rfl, h2⟩ := pop_i_of h
    obtain ⟨hn, h2⟩ := ab_if h2
    obtain rfl : len = 2 := hln
    exact lv_istore hx hb hd hL.2 (by rw [← hL.1]; exact hn) rfl (fun ls' h' => kK _ _ _ h2 H locs ls' hP hS (hL.set1 (v := .int x) hn h'))
  | istore_n n =>
    obtain ⟨x, r, rfl, h2⟩ := pop_i_of h
    obtain ⟨hn, h2⟩ := ab_if h2
    obtain rfl : len = 1 := hln
    exact lv_istore_n hx hb hd rfl hL.2 (by rw [← hL.1]; exact hn) rfl (fun ls' h' => kK _ _ _ h2 H locs ls' hP hS (hL.set1 (v := .int x) hn h'))
  | lstore n =>
    obtain ⟨x, r, rfl, h2⟩ := pop_l_of h
    obtain ⟨hn, h2⟩ := ab_if h2
    obtain rfl : len = 2 := hln
    exact lv_lstore hx hb hd hL.2 (by rw [← hL.1]; exact hn) rfl (fun ls' h' => kK _ _ _ h2 H locs ls' hP hS (hL.set2 (v := .long x) hn h'))
  | lstore_n n =>
    obtain ⟨x, r, rfl, h2⟩ := pop_l_of h
    obtain ⟨hn, h2⟩ := ab_if h2
    obtain rfl : len = 1 := hln
    exact lv_lstore_n hx hb hd rfl hL.2 (by rw [← hL.1]; exact hn) rfl (fun ls' h' => kK _ _ _ h2 H locs ls' hP hS (hL.set2 (v := .long x) hn h'))
  | iinc n w =>
    obtain ⟨x, h1, h2⟩ := ld_i_of h
    obtain ⟨hn, h2⟩ := ab_if h2
    obtain rfl : len = 3 := hln
    obtain ⟨k, hk⟩ := List.getElem?_of_mem (ab_as_mem (ad := ad).mpr ⟨_, h1, rfl⟩)
    exact lv_iinc hx hb hd hL.2 hk rfl (by rw [← hL.1]; exact hn) rfl (fun ls' h' => kK _ _ _ h2 H locs ls' hP hS (hL.set1 (v := .int (x + Int32.ofInt w)) hn h'))
  | iconst n =>
    obtain rfl : len = 1 := hln
    exact lv_iconst hx hb hd rfl (kK _ _ _ h H locs ls hP hS hL)
  | bipush n =>
    obtain rfl : len = 2 := hln
    exact lv_bipush hx hb hd rfl (kK _ _ _ h H locs ls hP hS hL)
  | sipush n =>
    obtain rfl : len = 3 := hln
    exact lv_sipush hx hb hd rfl (kK _ _ _ h H locs ls hP hS hL)
  | lconst n =>
    obtain rfl : len = 1 := hln
    exact lv_lconst hx hb hd rfl (kK _ _ _ h H locs ls hP hS hL)
  | ldc n =>
    obtain rfl : len = 2 := hln
    exact lv_ldc hx hb hown (hts _ hlk) hd (kK _ _ _ h H locs ls hP hS hL)
  | ldc_w n =>
    obtain rfl : len = 3 := hln
    exact lv_ldcw hx hb hown (hts _ hlk) hd (kK _ _ _ h H locs ls hP hS hL)
  | ldc2_w n =>
    obtain rfl : len = 3 := hln
    exact lv_ldc2 hx hb hown (hts _ hlk) hd (kK _ _ _ h H locs ls hP hS hL)
  | dup =>
    obtain rfl : len = 1 := hln
    match st, h with
    | v :: r, h =>
      obtain ⟨h1, h2⟩ := ab_if h
      exact lv_dup hx hb hd ((ab_v_cat ad v).trans h1) (kK _ _ _ h2 H locs ls hP hS hL)
    | [], h => exact h.elim
  | dup2 =>
    obtain rfl : len = 1 := hln
    match st, h with
    | v :: w :: r, h =>
      obtain ⟨h1, h2⟩ := ab_if h
      obtain ⟨h3, h4⟩ := ab_if h2
      exact lv_dup2_11 hx hb hd ((ab_v_cat ad v).trans h1) ((ab_v_cat ad w).trans h3) (kK _ _ _ h4 H locs ls hP hS hL)
    | [_], h => exact h.elim
    | [], h => exact h.elim
  | iadd =>
    obtain rfl : len = 1 := hln
    obtain ⟨y, r, rfl, h2⟩ := pop_i_of h
    obtain ⟨x, r, rfl, h2⟩ := pop_i_of h2
    exact lv_iadd hx hb hd (kK _ _ _ h2 H locs ls hP hS hL)
  | isub =>
    obtain rfl : len = 1 := hln
    obtain ⟨y, r, rfl, h2⟩ := pop_i_of h
    obtain ⟨x, r, rfl, h2⟩ := pop_i_of h2
    exact lv_isub hx hb hd (kK _ _ _ h2 H locs ls hP hS hL)
  | imul =>
    obtain rfl : len = 1 := hln
    obtain ⟨y, r, rfl, h2⟩ := pop_i_of h
    obtain ⟨x, r, rfl, h2⟩ := pop_i_of h2
    exact lv_imul hx hb hd (kK _ _ _ h2 H locs ls hP hS hL)
  | idiv =>
    obtain rfl : len = 1 := hln
    obtain ⟨y, r, rfl, h2⟩ := pop_i_of h
    obtain ⟨x, r, rfl, h2⟩ := pop_i_of h2
    exact lv_idiv hx hb hd h2.1 (kK _ _ _ h2.2 H locs ls hP hS hL)
  | irem =>
    obtain rfl : len = 1 := hln
    obtain ⟨y, r, rfl, h2⟩ := pop_i_of h
    obtain ⟨x, r, rfl, h2⟩ := pop_i_of h2
    exact lv_irem hx hb hd h2.1 (kK _ _ _ h2.2 H locs ls hP hS hL)
  | iand =>
    obtain rfl : len = 1 := hln
    obtain ⟨y, r, rfl, h2⟩ := pop_i_of h
    obtain ⟨x, r, rfl, h2⟩ := pop_i_of h2
    exact lv_iand hx hb hd (kK _ _ _ h2 H locs ls hP hS hL)
  | ior =>
    obtain rfl : len = 1 := hln
    obtain ⟨y, r, rfl, h2⟩ := pop_i_of h
    obtain ⟨x, r, rfl, h2⟩ := pop_i_of h2
    exact lv_ior hx hb hd (kK _ _ _ h2 H locs ls hP hS hL)
  | ishr =>
    obtain rfl : len = 1 := hln
    obtain ⟨y, r, rfl, h2⟩ := pop_i_of h
    obtain ⟨x, r, rfl, h2⟩ := pop_i_of h2
    exact lv_ishr hx hb hd (kK _ _ _ h2 H locs ls hP hS hL)
  | iushr =>
    obtain rfl : len = 1 := hln
    obtain ⟨y, r, rfl, h2⟩ := pop_i_of h
    obtain ⟨x, r, rfl, h2⟩ := pop_i_of h2
    exact lv_iushr hx hb hd rfl (kK _ _ _ h2 H locs ls hP hS hL)
  | i2l =>
    obtain rfl : len = 1 := hln
    obtain ⟨x, r, rfl, h2⟩ := pop_i_of h
    exact lv_i2l hx hb hd rfl (kK _ _ _ h2 H locs ls hP hS hL)
  | ladd =>
    obtain rfl : len = 1 := hln
    obtain ⟨y, r, rfl, h2⟩ := pop_l_of h
    obtain ⟨x, r, rfl, h2⟩ := pop_l_of h2
    exact lv_ladd hx hb hd (kK _ _ _ h2 H locs ls hP hS hL)
  | lmul =>
    obtain rfl : len = 1 := hln
    obtain ⟨y, r, rfl, h2⟩ := pop_l_of h
    obtain ⟨x, r, rfl, h2⟩ := pop_l_of h2
    exact lv_lmul hx hb hd (kK _ _ _ h2 H locs ls hP hS hL)
  | land =>
    obtain rfl : len = 1 := hln
    obtain ⟨y, r, rfl, h2⟩ := pop_l_of h
    obtain ⟨x, r, rfl, h2⟩ := pop_l_of h2
    exact lv_land hx hb hd (kK _ _ _ h2 H locs ls hP hS hL)
  | lor =>
    obtain rfl : len = 1 := hln
    obtain ⟨y, r, rfl, h2⟩ := pop_l_of h
    obtain ⟨x, r, rfl, h2⟩ := pop_l_of h2
    exact lv_lor hx hb hd (kK _ _ _ h2 H locs ls hP hS hL)
  | lxor =>
    obtain rfl : len = 1 := hln
    obtain ⟨y, r, rfl, h2⟩ := pop_l_of h
    obtain ⟨x, r, rfl, h2⟩ := pop_l_of h2
    exact lv_lxor hx hb hd (kK _ _ _ h2 H locs ls hP hS hL)
  | lshl =>
    obtain rfl : len = 1 := hln
    obtain ⟨y, r, rfl, h2⟩ := pop_i_of h
    obtain ⟨x, r, rfl, h2⟩ := pop_l_of h2
    exact lv_lshl hx hb hd rfl (kK _ _ _ h2 H locs ls hP hS hL)
  | lshr =>
    obtain rfl : len = 1 := hln
    obtain ⟨y, r, rfl, h2⟩ := pop_i_of h
    obtain ⟨x, r, rfl, h2⟩ := pop_l_of h2
    exact lv_lshr hx hb hd rfl (kK _ _ _ h2 H locs ls hP hS hL)
  | lushr =>
    obtain rfl : len = 1 := hln
    obtain ⟨y, r, rfl, h2⟩ := pop_i_of h
    obtain ⟨x, r, rfl, h2⟩ := pop_l_of h2
    exact lv_lushr hx hb hd rfl (kK _ _ _ h2 H locs ls hP hS hL)
  | lcmp =>
    obtain rfl : len = 1 := hln
    obtain ⟨y, r, rfl, h2⟩ := pop_l_of h
    obtain ⟨x, r, rfl, h2⟩ := pop_l_of h2
    exact W.lcmp hx hb hd (kK _ _ _ h2 H locs ls hP hS hL)
  | getfield idx =>
    obtain rfl : len = 3 := hln
    obtain ⟨q, r, rfl, h2⟩ := pop_r_of h
    obtain ⟨hq, fl, hsh, h3⟩ := ab_obj_of h2
    obtain ⟨C, T, N', hc, hk, hlink⟩ := hlk
    obtain ⟨w1, -, -⟩ := hck a C T N' hc
    have hcell : (ab_W sh N ad dA S)[q]? = some (ad q, .inr (a, ab_fs ad (S.1 q) 0 fl)) := by rw [ab_W_get hq, ab_cell_obj hsh]
    split at h3
    · rename_i r' e
      exact va_get hx hb hts w1 hown hK hP q hcell hc b hk (hts _ hlink) (fun _ h9 => h9) (ab_fs_ref e) hd (kK _ _ _ h3 H locs ls hP hS hL)
    · rename_i e
      have e2 := ab_fs_int (ad := ad) (f := S.1 q) (j := 0) e
      rw [Nat.zero_add] at e2
      exact va_get hx hb hts w1 hown hK hP q hcell hc b hk (hts _ hlink) (fun _ h9 => h9) e2 hd (kK _ _ _ h3 H locs ls hP hS hL)
    · exact h3.elim
  | putfield idx =>
    obtain rfl : len = 3 := hln
    obtain ⟨x, r, rfl, h2⟩ := pop_i_of h
    obtain ⟨q, r, rfl, h2⟩ := pop_r_of h2
    obtain ⟨hq, fl, hsh, h3⟩ := ab_obj_of h2
    obtain ⟨C, T, N', hc, hk, hlink, hfin, hpd⟩ := hlk
    obtain ⟨w1, ⟨ty0, w2⟩, w3⟩ := hck a C T N' hc
    have hcell : (ab_W sh N ad dA S)[q]? = some (ad q, .inr (a, ab_fs ad (S.1 q) 0 fl)) := by rw [ab_W_get hq, ab_cell_obj hsh]
    by_cases hb1 : b < 1000
    · rw [if_pos hb1] at h3 hk hlink hfin hpd
      rw [if_pos hb1] at hpd
      split at h3
      · rename_i e
        refine va_put (v := .int x) hx hb hts w1 ty0 w2 w3 hown hK hP (hD S) hS q hcell hc b hk (hts _ hlink) (fun _ h9 => h9) hfin hpd rfl rfl (by rw [ab_fs_len]; exact (List.getElem?_eq_some_iff.mp e).1) hd (fun H1 locs1 hP1 hD1 hS1 => ?_)
        rw [ab_fs_set e, Nat.zero_add, ab_W_set (S' := ab_pI S q (upd (S.1 q) b x)) hq (by rw [ab_cell_obj hsh, ab_pI_at]) (fun k hk => ab_cell_pI hk)] at hP1
        exact kK _ _ _ h3 H1 locs1 ls hP1 hS1 hL
      · exact h3.elim
    · rw [if_neg hb1] at h3 hk hlink hfin hpd
      rw [if_neg hb1] at hpd
      split at h3
      · rename_i e
        obtain ⟨hx1, h3⟩ := h3
        refine va_put (v := .int x) hx hb hts w1 ty0 w2 w3 hown hK hP (hD S) hS q hcell hc (b - 1000) hk (hts _ hlink) (fun _ h9 => h9) hfin hpd (ab_bool hx1).1 (ab_bool hx1).2.1 (by rw [ab_fs_len]; exact (List.getElem?_eq_some_iff.mp e).1) hd (fun H1 locs1 hP1 hD1 hS1 => ?_)
        rw [ab_fs_set e, Nat.zero_add, ab_W_set (S' := ab_pI S q (upd (S.1 q) (b - 1000) x)) hq (by rw [ab_cell_obj hsh, ab_pI_at]) (fun k hk => ab_cell_pI hk)] at hP1
        exact kK _ _ _ h3 H1 locs1 ls hP1 hS1 hL
      · exact h3.elim
  | iaload =>
    obtain rfl : len = 1 := hln
    obtain ⟨j, r, rfl, h2⟩ := pop_i_of h
    obtain ⟨q, r, rfl, h5⟩ := pop_r_of h2
    by_cases hsq : q = ab_scr
    · rw [if_pos hsq] at h5
      subst hsq
      obtain ⟨n, xs, e1, h6⟩ := ab_sx_of h5
      obtain ⟨hX, hbl, hbA⟩ := hsc n xs e1
      exact va_sld hx hb hX hbl hbA hS h6.1 hd (kK _ _ _ h6.2 H locs ls hP hS hL)
    rw [if_neg hsq] at h5
    obtain ⟨hq, n, hsh, h3, h4⟩ := ab_arr_of h5
    have hcell : (ab_W sh N ad dA S)[q]? = some (ad q, .inl (dA 0, n, .inl (S.1 q))) := by rw [ab_W_get hq, ab_cell_arr hsh (by decide)]
    exact va_iald hx hb hK hP q 0 hcell rfl h3 hd (kK _ _ _ h4 H locs ls hP hS hL)
  | baload =>
    obtain rfl : len = 1 := hln
    obtain ⟨j, r, rfl, h2⟩ := pop_i_of h
    obtain ⟨q, r, rfl, h2⟩ := pop_r_of h2
    obtain ⟨hq, n, hsh, h3, h4⟩ := ab_arr_of h2
    have hcell : (ab_W sh N ad dA S)[q]? = some (ad q, .inl (dA 1, n, .inl (S.1 q))) := by rw [ab_W_get hq, ab_cell_arr hsh (by decide)]
    exact va_zald hx hb hK hP q 1 hcell rfl h3 hd (kK _ _ _ h4 H locs ls hP hS hL)
  | laload =>
    obtain rfl : len = 1 := hln
    obtain ⟨j, r, rfl, h2⟩ := pop_i_of h
    obtain ⟨q, r, rfl, h2⟩ := pop_r_of h2
    obtain ⟨hq, n, hsh, h3, h4⟩ := ab_arr_of h2
    have hcell : (ab_W sh N ad dA S)[q]? = some (ad q, .inl (dA 2, n, .inr (.inl (S.2 q)))) := by rw [ab_W_get hq, ab_cell_arrL hsh]
    exact va_lald hx hb hK hP q 2 hcell rfl h3 hd (kK _ _ _ h4 H locs ls hP hS hL)
  | iastore =>
    obtain rfl : len = 1 := hln
    obtain ⟨x, r, rfl, h2⟩ := pop_i_of h
    obtain ⟨j, r, rfl, h2⟩ := pop_i_of h2
    obtain ⟨q, r, rfl, h2⟩ := pop_r_of h2
    obtain ⟨hq, n, hsh, h3, h4⟩ := ab_arr_of h2
    have hcell : (ab_W sh N ad dA S)[q]? = some (ad q, .inl (dA 0, n, .inl (S.1 q))) := by rw [ab_W_get hq, ab_cell_arr hsh (by decide)]
    refine va_iast hx hb hK hP (hD S) hS q 0 hcell rfl h3 hd (fun H1 locs1 hP1 hD1 hS1 => ?_)
    rw [ab_W_set (S' := ab_pI S q (upd (S.1 q) j.toNatClampNeg x)) hq (by rw [ab_cell_arr hsh (by decide), ab_pI_at]) (fun k hk => ab_cell_pI hk)] at hP1
    exact kK _ _ _ h4 H1 locs1 ls hP1 hS1 hL
  | bastore =>
    obtain rfl : len = 1 := hln
    obtain ⟨x, r, rfl, h2⟩ := pop_i_of h
    obtain ⟨j, r, rfl, h2⟩ := pop_i_of h2
    obtain ⟨q, r, rfl, h2⟩ := pop_r_of h2
    obtain ⟨hq, n, hsh, h3, h5, h4⟩ := ab_arr_of h2
    have hcell : (ab_W sh N ad dA S)[q]? = some (ad q, .inl (dA 1, n, .inl (S.1 q))) := by rw [ab_W_get hq, ab_cell_arr hsh (by decide)]
    refine va_zast hx hb hK hP (hD S) hS q 1 hcell rfl h3 hd (fun H1 locs1 hP1 hD1 hS1 => ?_)
    rw [(ab_bool h5).2.2, ab_W_set (S' := ab_pI S q (upd (S.1 q) j.toNatClampNeg x)) hq (by rw [ab_cell_arr hsh (by decide), ab_pI_at]) (fun k hk => ab_cell_pI hk)] at hP1
    exact kK _ _ _ h4 H1 locs1 ls hP1 hS1 hL
  | lastore =>
    obtain rfl : len = 1 := hln
    obtain ⟨x, r, rfl, h2⟩ := pop_l_of h
    obtain ⟨j, r, rfl, h2⟩ := pop_i_of h2
    obtain ⟨q, r, rfl, h2⟩ := pop_r_of h2
    obtain ⟨hq, n, hsh, h3, h4⟩ := ab_arr_of h2
    have hcell : (ab_W sh N ad dA S)[q]? = some (ad q, .inl (dA 2, n, .inr (.inl (S.2 q)))) := by rw [ab_W_get hq, ab_cell_arrL hsh]
    refine va_last hx hb hK hP (hD S) hS q 2 hcell rfl h3 hd (fun H1 locs1 hP1 hD1 hS1 => ?_)
    rw [ab_W_set (S' := ab_pL S q (vp_updL (S.2 q) j.toNatClampNeg x)) hq (by rw [ab_cell_arrL hsh, ab_pL_at]) (fun k hk => ab_cell_pL hk)] at hP1
    exact kK _ _ _ h4 H1 locs1 ls hP1 hS1 hL
  | arraylength =>
    obtain rfl : len = 1 := hln
    obtain ⟨q, r, rfl, h2⟩ := pop_r_of h
    by_cases hsq : q = ab_scr
    · rw [if_pos hsq] at h2
      subst hsq
      obtain ⟨n, xs, e1, h6⟩ := ab_sx_of h2
      obtain ⟨hX, hbl, hbA⟩ := hsc n xs e1
      exact va_slen hx hb hX hbl hbA hS hd (kK _ _ _ h6 H locs ls hP hS hL)
    rw [if_neg hsq] at h2
    obtain ⟨hq, n, hsh, h3⟩ := ab_arr_of h2
    obtain ⟨ty, hty⟩ : ∃ ty, (ab_tys dA)[a]? = some (dA a, ty) := by
      have ha : a ≤ 2 := hlk
      rcases (show a = 0 ∨ a = 1 ∨ a = 2 by omega) with rfl | rfl | rfl
      · exact ⟨_, rfl⟩
      · exact ⟨_, rfl⟩
      · exact ⟨_, rfl⟩
    have hcell : (ab_W sh N ad dA S)[q]? = some (ad q, .inl (dA a, n, if a = 2 then .inr (.inl (S.2 q)) else .inl (S.1 q))) := by rw [ab_W_get hq]; simp [ab_cell, hsh]
    exact va_alen hx hb hK hP q a hcell hty rfl hd (kK _ _ _ h3 H locs ls hP hS hL)
  | goto off =>
    exact lv_goto hx hb (by obtain rfl : len = 3 := hln; exact hd) hlk (kJ _ _ _ _ h H locs ls hP hS hL)
  | if_icmp cn off =>
    obtain rfl : len = 3 := hln
    obtain ⟨y, r, rfl, h2⟩ := pop_i_of h
    obtain ⟨x, r, rfl, h2⟩ := pop_i_of h2
    cases cn with
    | eq => exact lv_icmp_eq hx hb hd hlk (fun z => kJ _ _ _ _ (h2.1 z) H locs ls hP hS hL) (fun z => kK _ _ _ (h2.2 z) H locs ls hP hS hL)
    | ne => exact lv_icmp_ne hx hb hd hlk (fun z => kJ _ _ _ _ (h2.1 z) H locs ls hP hS hL) (fun z => kK _ _ _ (h2.2 z) H locs ls hP hS hL)
    | lt => exact lv_icmp_lt hx hb hd hlk (fun z => kJ _ _ _ _ (h2.1 z) H locs ls hP hS hL) (fun z => kK _ _ _ (h2.2 z) H locs ls hP hS hL)
    | ge => exact lv_icmp_ge hx hb hd hlk (fun z => kJ _ _ _ _ (h2.1 z) H locs ls hP hS hL) (fun z => kK _ _ _ (h2.2 z) H locs ls hP hS hL)
    | gt => exact lv_icmp_gt hx hb hd hlk (fun z => kJ _ _ _ _ (h2.1 z) H locs ls hP hS hL) (fun z => kK _ _ _ (h2.2 z) H locs ls hP hS hL)
    | le => exact lv_icmp_le hx hb hd hlk (fun z => kJ _ _ _ _ (h2.1 z) H locs ls hP hS hL) (fun z => kK _ _ _ (h2.2 z) H locs ls hP hS hL)
  | ifCond cn off =>
    obtain rfl : len = 3 := hln
    obtain ⟨x, r, rfl, h2⟩ := pop_i_of h
    cases cn with
    | eq => exact lv_if_eq hx hb hd hlk (fun z => kJ _ _ _ _ (h2.1 z) H locs ls hP hS hL) (fun z => kK _ _ _ (h2.2 z) H locs ls hP hS hL)
    | ne => exact lv_if_ne hx hb hd hlk (fun z => kJ _ _ _ _ (h2.1 z) H locs ls hP hS hL) (fun z => kK _ _ _ (h2.2 z) H locs ls hP hS hL)
    | lt => exact lv_if_lt hx hb hd hlk (fun z => kJ _ _ _ _ (h2.1 z) H locs ls hP hS hL) (fun z => kK _ _ _ (h2.2 z) H locs ls hP hS hL)
    | ge => exact lv_if_ge hx hb hd hlk (fun z => kJ _ _ _ _ (h2.1 z) H locs ls hP hS hL) (fun z => kK _ _ _ (h2.2 z) H locs ls hP hS hL)
    | gt => exact lv_if_gt hx hb hd hlk (fun z => kJ _ _ _ _ (h2.1 z) H locs ls hP hS hL) (fun z => kK _ _ _ (h2.2 z) H locs ls hP hS hL)
    | le => exact lv_if_le hx hb hd hlk (fun z => kJ _ _ _ _ (h2.1 z) H locs ls hP hS hL) (fun z => kK _ _ _ (h2.2 z) H locs ls hP hS hL)
  | tableswitch df lo hi offs =>
    obtain ⟨x, r, rfl, h2⟩ := pop_i_of h
    have hdf : 0 ≤ df := hlk
    by_cases z : x.toInt < lo ∨ hi < x.toInt
    · exact lv_tableOut hx hb hd z (by omega) (kJ _ _ _ _ (h2.1 z) H locs ls hP hS hL)
    · obtain ⟨o, ho, hj⟩ := h2.2 (fun y => z (Or.inl y)) (fun y => z (Or.inr y))
      exact lv_tableIn hx hb hd (fun y => z (Or.inl y)) (fun y => z (Or.inr y)) ho (by omega) (kJ _ _ _ _ hj H locs ls hP hS hL)
  | lookupswitch df ps =>
    obtain ⟨x, r, rfl, h2⟩ := pop_i_of h
    obtain ⟨o, ho, hj⟩ := h2
    exact lv_lookup hx hb hd hlk ho (by omega) (kJ _ _ _ _ hj H locs ls hP hS hL)
  | invokevirtual idx =>
    obtain rfl : len = 3 := hln
    obtain ⟨h4, h⟩ := ab_if h
    split at h
    · rename_i q r e1
      obtain ⟨hq, fl, hsh, h2⟩ := ab_obj_of h
      obtain ⟨M, hM, k1, k2, k3, ⟨T, N', hc⟩, hpar⟩ := hlk
      have hoc : ab_oc pr a = M.2.1 := by simp [ab_oc, hM]
      rw [hoc] at hsh
      obtain ⟨m1, m2, m3, m4, m5, m6⟩ := hpr a M hM
      have hmet := hT a M _ S _ hM h2
      have hst : st = st.take b ++ .ref q :: r := by rw [← e1, List.take_append_drop]
      have hlen : b < st.length := by
        have : (st.drop b).length = r.length + 1 := by rw [e1]; rfl
        rw [List.length_drop] at this
        omega
      have hr1 : st.drop (b + 1) = r := by rw [← List.tail_drop, e1]; rfl
      have hcell : (ab_W sh N ad dA S)[q]? = some (ad q, .inr (M.2.1, ab_fs ad (S.1 q) 0 fl)) := by rw [ab_W_get hq, ab_cell_obj hsh]
      have hG : GoodIn U (Cond.code M.1 M.2.2.1 M.2.2.2.1 M.2.2.2.2.1 :: U) := fun w hw => by
        rcases List.mem_cons.mp hw with rfl | hw
        · exact ⟨m1, hU _ m1⟩
        · exact ⟨hw, hU _ hw⟩
      refine ab_back hA (va_runV (As := ((st.take b).reverse).map (ab_v ad)) (rest := r.map (ab_v ad)) (n := b) (C := M.1.cls) ⟨hx, hb, hml, hown, hts⟩ hmet
        ⟨callB_of b hts hG rfl rfl rfl (hts _ m2) (hts _ k1) ⟨m3, m4, hpar⟩ (by simp only [ab_rm]; omega), hts _ k2, hts _ k3⟩
        ⟨ab_blind, va_recv hK hP hc hcell, fun u hu hW => ⟨rfl, by rw [hu]; exact hP, va_K.moved hW.alike hK⟩⟩
        rfl (by simp; omega) hL.2.1 (by show st.map (ab_v ad) = _; conv => lhs; rw [hst]
                                        simp [ab_v]) (lv_room (ab_sum4 _ (by rw [List.length_map, ← hr1]; exact h4))) hd ⟨hR.2.2.1, hR.2.2.2⟩) hS
        (fun v u H1 locs1 hz hq1 hP1 hS1 => ?_)
      have := kK _ _ _ hq1 H1 locs1 ls hP1 hS1 hL
      rw [ab_ri ad hz] at this
      exact this
    · exact h.elim
  | invokestatic idx =>
    obtain rfl : len = 3 := hln
    obtain ⟨hRf, hRl, hRc, hRs⟩ := id hR
    have hls : c.maxLocals = ls.size := by rw [hml]; exact hL.2.1.symm
    by_cases a1 : a = 1000
    · subst a1
      obtain ⟨y, r, rfl, h2⟩ := pop_i_of h
      obtain ⟨x, r, rfl, h2⟩ := pop_i_of h2
      obtain ⟨h3, h2⟩ := ab_if h2
      obtain ⟨k1, k2, k3, k4⟩ := hlk
      have h5 := ab_sum4 (r.map (ab_v ad)) (by rw [List.length_map]; exact h3)
      exact va_mmax hx hb hls hown (hts _ k1) (hts _ k2) (hts _ k3) (hts _ k4) (by omega) (by omega) hRc hRs hd (kK _ _ _ h2 H locs ls hP hS hL)
    · by_cases a2 : a = 1001
      · subst a2
        obtain ⟨y, r, rfl, h2⟩ := pop_i_of h
        obtain ⟨x, r, rfl, h2⟩ := pop_i_of h2
        obtain ⟨h3, h2⟩ := ab_if h2
        obtain ⟨k1, k2, k3, k4⟩ := hlk
        have h5 := ab_sum4 (r.map (ab_v ad)) (by rw [List.length_map]; exact h3)
        exact va_mmin hx hb hls hown (hts _ k1) (hts _ k2) (hts _ k3) (hts _ k4) (by omega) (by omega) hRc hRs hd (kK _ _ _ h2 H locs ls hP hS hL)
      · by_cases a3 : a = 1002
        · subst a3
          obtain ⟨n, r1, e1, g1⟩ := pop_i_of h
          obtain ⟨dp, r2, e2, g2⟩ := pop_i_of g1
          obtain ⟨q1, r3, e3, g3⟩ := pop_r_of g2
          obtain ⟨sp, r4, e4, g4⟩ := pop_i_of g3
          obtain ⟨q0, r, e5, g5⟩ := pop_r_of g4
          subst e5; subst e4; subst e3; subst e2; subst e1
          obtain ⟨h3, h2⟩ := ab_if g5
          obtain ⟨hq0, n0, hs0, h2⟩ := ab_arr_of h2
          obtain ⟨hq1, n1, hs1, c1, c2, c3, c4, c5, h2⟩ := ab_arr_of h2
          obtain ⟨k1, k2, k3, k4⟩ := hlk
          have h5 := ab_sum4 (r.map (ab_v ad)) (by rw [List.length_map]; exact h3)
          have h6 : nativeFrameWords "java/lang/System" "arraycopy" 5 + 11 ≤ 60 := by decide +kernel
          have hc0 : (ab_W sh N ad dA S)[q0]? = some (ad q0, .inl (dA 0, n0, .inl (S.1 q0))) := by rw [ab_W_get hq0, ab_cell_arr hs0 (by decide)]
          have hc1 : (ab_W sh N ad dA S)[q1]? = some (ad q1, .inl (dA 0, n1, .inl (S.1 q1))) := by rw [ab_W_get hq1, ab_cell_arr hs1 (by decide)]
          refine va_copyi hx hb hls hown (hts _ k1) (hts _ k2) (hts _ k3) (hts _ k4) hK hP (hD S) hS q0 q1 0 0 hc0 hc1 rfl rfl rfl c1 c2 c3 c4 c5 (fun _ _ => rfl) (by omega) (by omega) hd (fun H1 locs1 hP1 hD1 hS1 => ?_)
          rw [ab_W_set (S' := ab_pI S q1 (va_cpy (S.1 q0) (S.1 q1) sp.toNatClampNeg dp.toNatClampNeg n.toNatClampNeg)) hq1 (by rw [ab_cell_arr hs1 (by decide), ab_pI_at]) (fun k hk => ab_cell_pI hk)] at hP1
          exact kK _ _ _ h2 H1 locs1 ls hP1 hS1 hL
        · have h : if a = 1000 then _ else if a = 1001 then _ else if a = 1002 then _ else if b ≤ st.length then (if (st.drop b).length ≤ 4 then ab_T sh N pr d a (st.take b).reverse S fun v S' => K L (v.toList ++ st.drop b) S' else False) else False := h
          have hlk : if a = 1000 then _ else if a = 1001 then _ else if a = 1002 then _ else ∃ M, pr[a]? = some M ∧ Cond.methodLink own idx M.1 ∈ U ∧ Cond.static M.1 ∈ U ∧ (parseMethodDescriptor M.1.desc).map (fun d => d.parameters.length) = some b := hlk
          rw [if_neg a1, if_neg a2, if_neg a3] at h hlk
          obtain ⟨hlen, h⟩ := ab_if h
          obtain ⟨h4, h2⟩ := ab_if h
          obtain ⟨M, hM, k1, k2, hpar⟩ := hlk
          obtain ⟨m1, m2, m3, m4, m5, m6⟩ := hpr a M hM
          have hmet := hT a M _ S _ hM h2
          have hst : st = st.take b ++ st.drop b := by rw [List.take_append_drop]
          have hG : GoodIn U (Cond.code M.1 M.2.2.1 M.2.2.2.1 M.2.2.2.2.1 :: U) := fun w hw => by
            rcases List.mem_cons.mp hw with rfl | hw
            · exact ⟨m1, hU _ m1⟩
            · exact ⟨hw, hU _ hw⟩
          refine ab_back hA (va_runS (As := ((st.take b).reverse).map (ab_v ad)) (rest := (st.drop b).map (ab_v ad)) (n := b) ⟨hx, hb, hml, hown, hts⟩ hmet
            ⟨callB_of b hts hG rfl rfl rfl (hts _ m2) (hts _ k1) ⟨m3, m4, hpar⟩ (by simp only [ab_rm]; omega), hts _ k2⟩
            ⟨ab_blind, fun u hu hW => ⟨rfl, by rw [hu]; exact hP, va_K.moved hW.alike hK⟩⟩
            rfl (by simp; omega) hL.2.1 (by show st.map (ab_v ad) = _; conv => lhs; rw [hst]
                                            simp) (lv_room (ab_sum4 _ (by rw [List.length_map]; exact h4))) hd ⟨hR.2.2.1, hR.2.2.2⟩) hS
            (fun v u H1 locs1 hz hq1 hP1 hS1 => ?_)
          have := kK _ _ _ hq1 H1 locs1 ls hP1 hS1 hL
          rw [ab_ri ad hz] at this
          exact this
  | ireturn =>
    obtain rfl : len = 1 := hln
    obtain ⟨x, r, rfl, h2⟩ := pop_i_of h
    obtain ⟨h3, h2⟩ := ab_if h2
    have h3 := List.eq_nil_of_length_eq_zero h3
    subst h3
    cases ret with
    | none => exact h2.elim
    | some ty =>
    cases ty with
    | int => exact kR x S H locs ls rfl (Or.inl rfl) h2 hP hS
    | boolean => exact kR x S H locs ls rfl (Or.inr ⟨rfl, h2.1⟩) h2.2 hP hS
    | _ => exact h2.elim
  | return_ =>
    obtain rfl : len = 1 := hln
    obtain ⟨h3, h2⟩ := ab_if h
    have h3 := List.eq_nil_of_length_eq_zero h3
    subst h3
    cases ret with
    | none => exact kV S H locs ls rfl rfl h2 hP hS
    | some ty => exact h2.elim
  | monitorexit => exact kJ _ _ _ _ h H locs ls hP hS hL
  | _ => exact h.elim
end AB2
