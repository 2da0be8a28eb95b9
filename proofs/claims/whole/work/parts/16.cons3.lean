/-! ===== a constructor keeps its contract ===== -/
def cn_chn : Nat → List ab_I → Bool
  | _, [] => true
  | pc, q :: r => (q.1 == pc) && cn_chn (q.1 + q.2.2.1) r
def cn_end : Nat → List ab_I → Nat
  | pc, [] => pc
  | _, q :: r => cn_end (q.1 + q.2.2.1) r
def cn_l2 (q : ab_I) : Prop := (∀ t, q.2.1 = .newarray t → q.2.2.1 = 2) ∧ (∀ t, q.2.1 = .new t → q.2.2.1 = 3) ∧ (∀ t, q.2.1 = .invokespecial t → q.2.2.1 = 3)
/-- newarray has its own length -/
def cn_ln (i : Instr) (len : Nat) : Prop := match i with
  | .newarray _ => True
  | _ => ab_ln i len
def cn_okq (U : List Cond) (cl : List vw_C) (df : Nat → List Value) (pr : List cn_M) (nests : List (String × Nat × MethodName × String)) (own : String) (cc : ByteArray) (q : ab_I) : Prop := decode cc q.1 = .ok (q.2.1, q.2.2.1) ∧ cn_ln q.2.1 q.2.2.1 ∧ cn_l2 q ∧ cn_lk U cl df pr nests own q.2.1 q.2.2.2.1 q.2.2.2.2
def cn_cd (U : List Cond) (cl : List vw_C) (df : Nat → List Value) (pr : List cn_M) (nests : List (String × Nat × MethodName × String)) (M : cn_M) : Prop := cn_chn 0 M.2.2.2.2.2 = true ∧ ∀ q ∈ M.2.2.2.2.2, cn_okq U cl df pr nests M.1.cls M.2.1 q
section CN3
variable {p : Program} {l : Launch} {e : Env} {R : Room} {s : State} {m : MethodId} {args : Array Value} {below : List Frame} {meth : Method} {c : Code} {Z : State → Prop}
variable {D : va_G} {cl : List vw_C} {dA : Nat → ClassId} {nL base : Nat} {nests : List (String × Nat × MethodName × String)}
theorem cn_go {ad0 : Nat → Nat} {n0 : Nat} {U : List Cond} {pr : List cn_M} {df : Nat → List Value} {own : String} {cc : ByteArray} {d mc ms : Nat} {Q : List cn_K → Bool} {E : ab_L → List Value → cn_S → Bool}
    (hx : p.tables.exec = Jvm.exec) (hb : c.code = cc) (hml : c.maxLocals = nL) (hown : s.vm.findClass own = some m.cls)
    (hts : ∀ w ∈ U, w.before args s = true) (hU : ∀ w ∈ U, (w.onTables && w.keeps) = true ∨ ∃ ty, w = Cond.arrayClass ty)
    (hK : va_K D cl (ab_tys dA) s) (hN : cn_Nst nests s) (hck : ab_ck U cl) (hpr : ∀ (k : Nat) (M : cn_M), pr[k]? = some M → cn_mk U M)
    (hbase : base ≤ s.heap.size) (hR : d + 1 ≤ R.frames ∧ 100 * (d + 1) ≤ R.locals ∧ mc ≤ R.cells ∧ ms ≤ R.slots) (hdf : ∀ a, ∀ v ∈ df a, v = .null ∨ v = .int 0)
    (hT : ∀ (k : Nat) (M : cn_M) (ad : Nat → Nat) (as : List Value) (cs : List cn_K) (Q : List cn_K → Bool), pr[k]? = some M → cn_T df pr d k as cs Q = true → cn_met l D cl base ad dA nests U d M as cs Q)
    (kV : ∀ (pc : Nat) (ad : Nat → Nat) (S : cn_S) (H : Heap) (locs : List Loc) (ls : Array Slot), decode cc pc = .ok (.return_, 1) → S.1 ≤ mc → S.2.1 ≤ ms → Q S.2.2 = true → (∀ k, (k < n0 ∨ k = ab_scr) → ad k = ad0 k) → va_P D cl (cn_W ad dA S.2.2) H → va_D (cn_A base) (cn_W ad dA S.2.2) → va_S (cn_A base) s.heap H locs → W p l e R s m args below meth c H locs S.1 S.2.1 Z (F0 m pc ls [])) :
    ∀ (r : List ab_I) (pc : Nat) (L : ab_L) (st : List Value) (S : cn_S), cn_chn pc r = true → (∀ q ∈ r, cn_okq U cl df pr nests own cc q) → (meth.name = "<init>" ∨ ∀ q ∈ r, ∀ idx, q.2.1 ≠ .putfield idx) → (∀ L st S, E L st S = true → cn_G p l e R s m args below meth c Z D cl base ad0 n0 dA nL (cn_end pc r) L st S) → cn_w df mc ms (cn_mcs pr) (cn_T df pr d) Q E r L st S = true → cn_G p l e R s m args below meth c Z D cl base ad0 n0 dA nL pc L st S := by
  intro r
  induction r with
  | nil => intro pc L st S _ _ _ hE h; exact hE L st S h
  | cons q r ih =>
    intro pc L st S hch hq hini hE h
    obtain ⟨pc0, i, len, a, b⟩ := q
    simp only [cn_chn, Bool.and_eq_true, beq_iff_eq] at hch
    obtain ⟨rfl, hch⟩ := hch
    obtain ⟨q1, q2, q3, q4⟩ := hq _ List.mem_cons_self
    have hln : ab_ln i len ∨ ∃ t, i = .newarray t := by
      cases i with
      | newarray t => exact Or.inr ⟨t, rfl⟩
      | _ => exact Or.inl q2
    refine cn_step hx hb hml hown hts hU hK hN hck hpr hbase hR (fun idx hi => ?_) hdf hT q1 hln q3 q4 (fun L st S hk => ?_) (fun ad S H locs ls hi h1 h2 h3 h4 h5 h6 h7 => ?_) h
    · rcases hini with h9 | h9
      · exact h9
      · exact absurd hi (h9 _ List.mem_cons_self idx)
    · exact ih (pc0 + len) L st S hch (fun z hz => hq z (List.mem_cons_of_mem _ hz)) (hini.imp id (fun z y hy => z y (List.mem_cons_of_mem _ hy))) hE hk
    · subst hi
      obtain rfl : len = 1 := q2
      exact kV _ ad S H locs ls q1 h1 h2 h3 h4 h5 h6 h7
end CN3
theorem cn_sound {l : Launch} {D : va_G} {cl : List vw_C} {dA : Nat → ClassId} {base : Nat} {nests : List (String × Nat × MethodName × String)} {U : List Cond} {pr : List cn_M} {df : Nat → List Value}
    (hU : ∀ w ∈ U, (w.onTables && w.keeps) = true ∨ ∃ ty, w = Cond.arrayClass ty) (hck : ab_ck U cl) (hpr : ∀ (k : Nat) (M : cn_M), pr[k]? = some M → cn_mk U M) (hcd : ∀ (k : Nat) (M : cn_M), pr[k]? = some M → cn_cd U cl df pr nests M)
    (hdf : ∀ a, ∀ v ∈ df a, v = .null ∨ v = .int 0) : ∀ (d k : Nat) (M : cn_M) (ad : Nat → Nat) (as : List Value) (cs : List cn_K) (Q : List cn_K → Bool), pr[k]? = some M → cn_T df pr d k as cs Q = true → cn_met l D cl base ad dA nests U d M as cs Q := by
  intro d
  induction d with
  | zero => intro k M ad as cs Q _ h; cases h
  | succ d ih =>
    intro k M ad as cs Q hM h
    obtain ⟨m1, m2, m3, m4, m5, m6, m7⟩ := hpr k M hM
    obtain ⟨c1, c2⟩ := hcd k M hM
    unfold cn_T at h
    rw [hM] at h
    obtain ⟨hlen, hrun⟩ := and_d h
    refine Met.ofW (cc := M.2.1) (maxL := M.2.2.1) (ret := none) m5 rfl ?_
    intro p e s m args below meth c s₁ B hml hv
    obtain ⟨rfl, hP, hz, hD, hK, hN⟩ := hv
    have hx := B.exec
    have hb := B.bytes
    have hr := B.returns
    have hts0 := atoms_spec (ws := Cond.code M.1 M.2.1 M.2.2.1 none :: U) B.pre
    have hts : ∀ w ∈ U, w.before (as.map (ab_v ad)).toArray s = true := fun w hw => hts0 w (List.mem_cons_of_mem _ hw)
    have hown : s.vm.findClass M.1.cls = some m.cls := findClass_of_methodNamed B.named
    have hlocks := B.notSynchronized
    have hin : meth.name = "<init>" := ((name_of_methodNamed B.named B.method).1).trans m7
    have hl := lv_entry (as.map (ab_v ad)) (n := M.2.2.1) (by rw [ab_en_len]; exact hlen)
    rw [lg_entry_eq]
    refine cn_go (ad0 := ad) (n0 := cs.length) (R := cn_rm (d + 1) M.2.2.2.1 M.2.2.2.2.1) (Z := MQ below (cn_Qc D cl base ad dA cs.length Q) (as.map (ab_v ad)).toArray s M.2.2.2.1 M.2.2.2.2.1 (cn_A base)) hx hb hml hown hts hU hK hN hck hpr hz ⟨Nat.le_refl _, Nat.le_refl _, Nat.le_refl _, Nat.le_refl _⟩ hdf ih (fun pc ad' S H locs ls hd h1 h2 h3 h4 h5 h6 h7 => ?_) M.2.2.2.2.2 0 _ [] (0, 0, cs) c1 c2 (Or.inl hin) (fun L st S hE => by cases hE) hrun ad s.heap [] _ (fun _ _ => rfl) (Nat.le_refl _) hP hD va_S.rf (ab_Lr.entry hlen hl)
    refine W.widen h1 h2 ?_
    exact W.vret hx hb hr (fun t ht hW => ⟨⟨S.2.2, ad', rfl, h3, h4, by rw [ht]; exact h5, h6⟩, h7.F ht⟩) h7.2.2 hd
