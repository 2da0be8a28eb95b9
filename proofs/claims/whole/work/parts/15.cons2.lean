section CN
variable {p : Program} {l : Launch} {e : Env} {R : Room} {s : State} {m : MethodId} {args : Array Value} {below : List Frame} {meth : Method} {c : Code} {Z : State → Prop}
variable {D : va_G} {cl : List vw_C} {dA : Nat → ClassId} {nL base : Nat} {nests : List (String × Nat × MethodName × String)}
theorem cn_back {ad : Nat → Nat} {n : Nat} {Q : List cn_K → Bool} {H : Heap} {locs : List Loc} {cells slots mc ms pc : Nat} {ls : Array Slot} {st0 rest : List Value} {a : Array Value}
    (hr : va_Run p l e R s m args below meth c H locs cells slots mc ms (F0 m pc ls st0) rest (cn_Qc D cl base ad dA n Q a) (cn_A base)) (hS : va_S (cn_A base) s.heap H locs)
    (kk : ∀ (cs : List cn_K) (ad' : Nat → Nat) (H1 : Heap) (locs1 : List Loc), Q cs = true → (∀ k, (k < n ∨ k = ab_scr) → ad' k = ad k) → va_P D cl (cn_W ad' dA cs) H1 → va_D (cn_A base) (cn_W ad' dA cs) → va_S (cn_A base) s.heap H1 locs1 → W p l e R s m args below meth c H1 locs1 (cells + mc) (slots + ms) Z (F0 m (pc + 3) ls rest)) :
    W p l e R s m args below meth c H locs cells slots Z (F0 m pc ls st0) := by
  intro T hT X
  obtain ⟨v, st₀, t, T', L, h0, X', hL, e1, e2, ⟨⟨cs, ad', hv, hp, had, hb, hD⟩, hz, hk⟩, st⟩ := hr T hT X
  cases hv
  rw [h0] at hz hk
  obtain ⟨t2, a1, b1⟩ := kk cs ad' T'.heap (locs ++ L) hp had (by rw [e1]; exact hb) hD
    ⟨Nat.le_trans hS.1 (by rw [e1]; exact hz), fun q h1 h2 => by rw [e1, hk q (Nat.lt_of_lt_of_le h1 hS.1) h2]; exact hS.2.1 q h1 h2, fun q hq => by
      rcases List.mem_append.mp hq with h | h
      · exact hS.2.2 q h
      · exact hL q h⟩ T' rfl X'
  exact ⟨t2, st t2 a1, b1⟩
theorem cn_pre {ad : Nat → Nat} (as : List Value) (cs : List cn_K) {H : Heap} (hP : va_P D cl (cn_W ad dA cs) H) (hz : base ≤ H.size) (hD : va_D (cn_A base) (cn_W ad dA cs)) (hK : va_K D cl (ab_tys dA) s) (hN : cn_Nst nests s) : PreS s H (cn_Pc D cl base ad dA nests as cs) (as.map (ab_v ad)) :=
  ⟨cn_blind, fun u hu hW => ⟨rfl, by rw [hu]; exact hP, by rw [hu]; exact hz, hD, va_K.moved hW.alike hK, cn_Nst_warm hW hN⟩⟩
/-- a cell more, at a place of its own -/
theorem cn_more {ad : Nat → Nat} {cs : List cn_K} {x : cn_K} {q n0 : Nat} {ad0 : Nat → Nat} {L : ab_L} {st : List Value} {ls : Array Slot} (h0 : ∀ k, (k < n0 ∨ k = ab_scr) → ad k = ad0 k) (hn0 : n0 ≤ cs.length) (hok : cn_ok cs L st = true) (hx : cn_okc cs.length x = true) (hL : ab_Lr ad L ls nL) :
    ∃ ad' : Nat → Nat, (∀ k, (k < n0 ∨ k = ab_scr) → ad' k = ad0 k) ∧ cn_W ad' dA (cs ++ [x]) = cn_W ad dA cs ++ [(q, cn_E ad dA x)] ∧ ab_Lr ad' L ls nL ∧ st.map (ab_v ad') = st.map (ab_v ad) ∧ ad' cs.length = q := by
  simp only [cn_ok, Bool.and_eq_true, decide_eq_true_eq] at hok
  obtain ⟨⟨o0, o1⟩, o2, o3⟩ := hok
  have he : ∀ k, (k < cs.length ∨ k = ab_scr) → (fun k => if k = cs.length then q else ad k) k = ad k := fun k hk => if_neg (by unfold ab_scr at hk; omega)
  refine ⟨fun k => if k = cs.length then q else ad k, fun k hk => (he k (hk.imp (fun z => Nat.lt_of_lt_of_le z hn0) id)).trans (h0 k hk), ?_, hL.ext he o2, vr_exts he o3, if_pos rfl⟩
  rw [cn_W_push, cn_W_ext he o1, cn_E_ext (dA := dA) he hx, if_pos rfl]
set_option maxHeartbeats 8000000 in
set_option maxRecDepth 20000 in
theorem cn_step {ad0 : Nat → Nat} {n0 : Nat} {U : List Cond} {pr : List cn_M} {df : Nat → List Value} {own : String} {cc : ByteArray} {d mc ms : Nat} {Q : List cn_K → Bool} {K : ab_L → List Value → cn_S → Bool} {pc len a b : Nat} {i : Instr} {L : ab_L} {st : List Value} {S : cn_S}
    (hx : p.tables.exec = Jvm.exec) (hb : c.code = cc) (hml : c.maxLocals = nL) (hown : s.vm.findClass own = some m.cls)
    (hts : ∀ w ∈ U, w.before args s = true) (hU : ∀ w ∈ U, (w.onTables && w.keeps) = true ∨ ∃ ty, w = Cond.arrayClass ty)
    (hK : va_K D cl (ab_tys dA) s) (hN : cn_Nst nests s) (hck : ab_ck U cl) (hpr : ∀ (k : Nat) (M : cn_M), pr[k]? = some M → cn_mk U M)
    (hbase : base ≤ s.heap.size) (hR : d + 1 ≤ R.frames ∧ 100 * (d + 1) ≤ R.locals ∧ mc ≤ R.cells ∧ ms ≤ R.slots)
    (hini : ∀ idx, i = .putfield idx → meth.name = "<init>") (hdf : ∀ a, ∀ v ∈ df a, v = .null ∨ v = .int 0)
    (hT : ∀ (k : Nat) (M : cn_M) (ad : Nat → Nat) (as : List Value) (cs : List cn_K) (Q : List cn_K → Bool), pr[k]? = some M → cn_T df pr d k as cs Q = true → cn_met l D cl base ad dA nests U d M as cs Q)
    (hd : decode cc pc = .ok (i, len)) (hln0 : ab_ln i len ∨ ∃ t, i = .newarray t) (hl2 : (∀ t, i = .newarray t → len = 2) ∧ (∀ t, i = .new t → len = 3) ∧ (∀ t, i = .invokespecial t → len = 3)) (hlk : cn_lk U cl df pr nests own i a b)
    (kK : ∀ L st S, K L st S = true → cn_G p l e R s m args below meth c Z D cl base ad0 n0 dA nL (pc + len) L st S)
    (kV : ∀ (ad : Nat → Nat) (S : cn_S) (H : Heap) (locs : List Loc) (ls : Array Slot), i = .return_ → S.1 ≤ mc → S.2.1 ≤ ms → Q S.2.2 = true → (∀ k, (k < n0 ∨ k = ab_scr) → ad k = ad0 k) → va_P D cl (cn_W ad dA S.2.2) H → va_D (cn_A base) (cn_W ad dA S.2.2) → va_S (cn_A base) s.heap H locs → W p l e R s m args below meth c H locs S.1 S.2.1 Z (F0 m pc ls []))
    (h : cn_1 df mc ms (cn_mcs pr) (cn_T df pr d) Q i a b L st S K = true) :
    cn_G p l e R s m args below meth c Z D cl base ad0 n0 dA nL pc L st S := by
  intro ad H locs ls h0 hn0 hP hD hS hL
  have hA : ∀ q, s.heap.size ≤ q → cn_A base q := fun q h => Nat.le_trans hbase h
  obtain ⟨hRf, hRl, hRc, hRs⟩ := id hR
  have hln : (∀ t, i ≠ .newarray t) → ab_ln i len := fun z => hln0.elim id (fun ⟨t, e⟩ => absurd e (z t))
  cases i with
  | aload_n n =>
    obtain ⟨x, h1, h2⟩ := lb_r_of h
    obtain rfl : len = 1 := hln (fun _ z => by cases z)
    exact lv_aload_n hx hb hd rfl (hL.at h1) (kK _ _ _ h2 ad H locs ls h0 hn0 hP hD hS hL)
  | astore_n n =>
    obtain ⟨x, r, rfl, h2⟩ := pb_r_of h
    obtain ⟨hn2, h2⟩ := and_d h2
    obtain rfl : len = 1 := hln (fun _ z => by cases z)
    exact lv_astore_n hx hb hd rfl hL.2 (by rw [← hL.1]; exact hn2) rfl (fun ls' h' => kK _ _ _ h2 ad H locs ls' h0 hn0 hP hD hS (hL.set1 (v := .ref x) hn2 h'))
  | iconst n =>
    obtain rfl : len = 1 := hln (fun _ z => by cases z)
    exact lv_iconst hx hb hd rfl (kK _ _ _ h ad H locs ls h0 hn0 hP hD hS hL)
  | bipush n =>
    obtain rfl : len = 2 := hln (fun _ z => by cases z)
    exact lv_bipush hx hb hd rfl (kK _ _ _ h ad H locs ls h0 hn0 hP hD hS hL)
  | sipush n =>
    obtain rfl : len = 3 := hln (fun _ z => by cases z)
    exact lv_sipush hx hb hd rfl (kK _ _ _ h ad H locs ls h0 hn0 hP hD hS hL)
  | ldc n =>
    obtain rfl : len = 2 := hln (fun _ z => by cases z)
    exact lv_ldc hx hb hown (hts _ hlk) hd (kK _ _ _ h ad H locs ls h0 hn0 hP hD hS hL)
  | dup =>
    obtain rfl : len = 1 := hln (fun _ z => by cases z)
    match st, h with
    | v :: r, h =>
      obtain ⟨h1, h2⟩ := and_d h
      exact lv_dup hx hb hd ((ab_v_cat ad v).trans h1) (kK _ _ _ h2 ad H locs ls h0 hn0 hP hD hS hL)
    | [], h => cases h
  | newarray t =>
    obtain rfl : len = 2 := hl2.1 t rfl
    obtain ⟨x, r, rfl, h9⟩ := pb_i_of h
    obtain ⟨⟨hxb, hb1, h1, h2, h3⟩, h4⟩ := and_d h9
    obtain ⟨k1, k2⟩ := hlk
    have hnb : x.toNatClampNeg = b := by rw [hxb]; exact nI_clamp (by omega)
    have hn1 : ¬ x < 0 := by rw [hxb]; exact nI_pos (by omega)
    have go : ∀ (ty : FieldType) (A0 : vp_A), newarray.typeOf t = ty → (ab_tys dA)[a]? = some (dA a, ty) → (∀ cA : ClassId, va_RA s cA ty → va_RA s (dA a) ty → cA = dA a) → (∀ cA : ClassId, vp_cell cA A0 = arrV cA b (fun _ => defaultValue ty)) → b * componentBytes ty ≤ 536870912 → cn_E ad dA (.inl (a, b)) = .inl (dA a, A0) → W p l e R s m args below meth c H locs S.1 S.2.1 Z (F0 m pc ls (.int x :: r.map (ab_v ad))) := by
      intro ty A0 t1 t2 t3 t4 t5 t6
      refine va_newa hx hb (hts _ k1) t1 hK hP hD hS hA t4 hn1 hnb t5 (by omega) (by omega) hd (fun q cA H1 hK1 hP1 hD1 hS1 => ?_)
      have e9 : cA = dA a := t3 cA (hK1.2 (ab_tys dA).length (cA, ty) (by simp)).2 (hK.2 a _ t2).2
      subst e9
      obtain ⟨ad', g1, g2, g3, g4, g5⟩ := cn_more (dA := dA) (q := q) (x := .inl (a, b)) h0 hn0 h3 rfl hL
      rw [t6] at g2
      have := kK _ _ _ h4 ad' H1 locs ls g1 (by rw [List.length_append]; omega) (by rw [g2]; exact hP1) (by rw [g2]; exact hD1) hS1 g3
      rw [List.map_cons, g4] at this
      simp only [ab_v, g5] at this
      exact this
    rcases k2 with ⟨rfl, k2⟩ | ⟨rfl, k2⟩ | ⟨rfl, k2⟩
    · exact go .int (b, .inl fun _ => 0) k2 rfl (fun cA u v => Option.some.inj (Eq.trans (Eq.symm u) v)) (fun _ => rfl) (by simp only [componentBytes]; omega) rfl
    · exact go .boolean (b, .inl fun _ => 0) k2 rfl (fun cA u v => Option.some.inj (Eq.trans (Eq.symm u) v)) (fun _ => rfl) (by simp only [componentBytes]; omega) rfl
    · exact go .long (b, .inr (.inl fun _ => 0)) k2 rfl (fun cA u v => Option.some.inj (Eq.trans (Eq.symm u) v)) (fun _ => rfl) (by simp only [componentBytes]; omega) rfl
  | new idx =>
    obtain rfl : len = 3 := hl2.2.1 idx rfl
    obtain ⟨⟨h1, h2, h3⟩, h4⟩ := and_d h
    obtain ⟨C, T, hc, k1, k2, k3, ty0, k4, k5⟩ := hlk
    obtain ⟨w1, -, -⟩ := hck a C T b hc
    have hmap : (df a).map (ab_v ad) = df a := by
      rw [List.map_congr_left (g := id)]
      · simp
      · intro v hv
        rcases hdf a v hv with rfl | rfl <;> rfl
    have hok : cn_okc S.2.2.length (.inr (a, df a)) = true := by
      show (df a).all _ = true
      rw [List.all_eq_true]
      intro v hv
      rcases hdf a v hv with rfl | rfl <;> rfl
    refine va_new hx hb hts w1 ty0 k4 hown (hts _ k1) (hts _ k2) (hts _ k3) hK hP hD hS hA hc (fs := df a) (fun j hj => (k5 j hj).1) (by omega) (by omega) hd (fun q H1 hP1 hD1 hS1 => ?_)
    obtain ⟨ad', g1, g2, g3, g4, g5⟩ := cn_more (dA := dA) (q := q) (x := .inr (a, df a)) h0 hn0 h3 hok hL
    rw [show cn_E ad dA (.inr (a, df a)) = .inr (a, df a) from congrArg (fun z => Sum.inr (a, z)) hmap] at g2
    have := kK _ _ _ h4 ad' H1 locs ls g1 (by rw [List.length_append]; omega) (by rw [g2]; exact hP1) (by rw [g2]; exact hD1) hS1 g3
    rw [List.map_cons, g4] at this
    simp only [ab_v, g5] at this
    exact this
  | putfield idx =>
    obtain rfl : len = 3 := hln (fun _ z => by cases z)
    obtain ⟨C, T, N', hc, hk, hlink, hpd⟩ := hlk
    obtain ⟨w1, ⟨ty0, w2⟩, w3⟩ := hck a C T N' hc
    by_cases hb1 : b < 1000
    · have h : (if b < 1000 then _ else _) = true := h
      rw [if_pos hb1] at h hk hlink hpd
      obtain ⟨x, r, rfl, h2⟩ := pb_i_of h
      obtain ⟨q, r, rfl, h5⟩ := pb_r_of h2
      obtain ⟨fs, hq, h6⟩ := cn_obj_of h5
      obtain ⟨h3, h4⟩ := and_d h6
      refine va_put (v := .int x) hx hb hts w1 ty0 w2 w3 hown hK hP hD hS q (cn_W_get hq) hc b hk (hts _ hlink) (fun _ h9 => h9) hpd.1 hpd.2 rfl rfl (by rw [List.length_map]; exact h3) hd (fun H1 locs1 hP1 hD1 hS1 => ?_)
      have e9 : (cn_W ad dA S.2.2).set q (ad q, .inr (a, (fs.map (ab_v ad)).set b (.int x))) = cn_W ad dA (S.2.2.set q (.inr (a, fs.set b (.int x)))) := by
        rw [← cn_W_set]
        simp only [cn_E, List.map_set]
        rfl
      rw [e9] at hP1 hD1
      exact kK _ _ _ h4 ad H1 locs1 ls h0 (by rw [List.length_set]; exact hn0) hP1 hD1 hS1 hL
    · have h : (if b < 1000 then _ else _) = true := h
      rw [if_neg hb1] at h hk hlink hpd
      obtain ⟨x, r, rfl, h2⟩ := pb_r_of h
      obtain ⟨q, r, rfl, h5⟩ := pb_r_of h2
      obtain ⟨fs, hq, h6⟩ := cn_obj_of h5
      obtain ⟨h3, h4⟩ := and_d h6
      obtain ⟨p1, p2, ty, p3, p4⟩ := hpd
      refine va_putF (v := .ref (ad x)) hx hb hts w1 ty0 w2 w3 hown hK hP hD hS q (cn_W_get hq) hc (b - 1000) hk (hts _ hlink) (fun _ h9 => h9) p1 (hini _ rfl) p2 p3 (p4 _).1 (p4 _).2 (by rw [List.length_map]; exact h3) hd (fun H1 locs1 hP1 hD1 hS1 => ?_)
      have e9 : (cn_W ad dA S.2.2).set q (ad q, .inr (a, (fs.map (ab_v ad)).set (b - 1000) (.ref (ad x)))) = cn_W ad dA (S.2.2.set q (.inr (a, fs.set (b - 1000) (.ref x)))) := by
        rw [← cn_W_set]
        simp only [cn_E, List.map_set]
        rfl
      rw [e9] at hP1 hD1
      exact kK _ _ _ h4 ad H1 locs1 ls h0 (by rw [List.length_set]; exact hn0) hP1 hD1 hS1 hL
  | getfield idx =>
    obtain rfl : len = 3 := hln (fun _ z => by cases z)
    obtain ⟨C, T, N', hc, hk, hlink⟩ := hlk
    obtain ⟨w1, -, -⟩ := hck a C T N' hc
    obtain ⟨q, r, rfl, h2⟩ := pb_r_of h
    obtain ⟨fs, hq, h3⟩ := cn_obj_of h2
    split at h3
    · rename_i v e1
      exact va_get hx hb hts w1 hown hK hP q (cn_W_get hq) hc b hk (hts _ hlink) (fun _ h9 => h9) (v := ab_v ad v) (by rw [List.getElem?_map, e1]; rfl) hd (kK _ _ _ h3 ad H locs ls h0 hn0 hP hD hS hL)
    · cases h3
  | invokespecial idx =>
    obtain rfl : len = 3 := hl2.2.2 idx rfl
    by_cases ha : a = 999
    · have h : (if a = 999 then _ else _) = true := h
      have hlk : if a = 999 then _ else _ := hlk
      rw [if_pos ha] at h hlk
      obtain ⟨q, r, rfl, h2⟩ := pb_r_of h
      obtain ⟨h3, h4⟩ := and_d h2
      obtain ⟨k1, k2, k3⟩ := hlk
      have h5 := ab_sum4 (r.map (ab_v ad)) (by rw [List.length_map]; exact h3)
      refine W.objInit hx hb hown (hts _ k1) (hts _ k2) (hts _ k3) rfl (by rw [hml]; exact hL.2.1) rfl hd (by omega) (by show 2 * 0 + _ + 12 ≤ _; omega) ?_
      exact kK _ _ _ h4 ad H locs ls h0 hn0 hP hD hS hL
    · have h : (if a = 999 then _ else decide ((st.drop (b + 1)).length ≤ 4) && (match st.drop b with
        | .ref q :: r => decide (S.1 + (cn_mcs pr a).1 ≤ mc ∧ S.2.1 + (cn_mcs pr a).2 ≤ ms ∧ cn_ok S.2.2 L st = true) && cn_T df pr d a (.ref q :: (st.take b).reverse) S.2.2 fun cs => decide (S.2.2.length ≤ cs.length) && K L r (S.1 + (cn_mcs pr a).1, S.2.1 + (cn_mcs pr a).2, cs)
        | _ => false)) = true := h
      have hlk : if a = 999 then _ else _ := hlk
      rw [if_neg ha] at h hlk
      obtain ⟨h4, h⟩ := and_d h
      split at h
      · rename_i q r e1
        obtain ⟨⟨g1, g2, hok⟩, h2⟩ := and_d h
        obtain ⟨M, hM, k2, hpar, k3⟩ := hlk
        obtain ⟨m1, m2, m3, m4, m5, m6, m7⟩ := hpr a M hM
        have hmc : cn_mcs pr a = (M.2.2.2.1, M.2.2.2.2.1) := by simp [cn_mcs, hM]
        rw [hmc] at g1 g2 h2
        have hmet := hT a M ad _ S.2.2 _ hM h2
        have hst : st = st.take b ++ .ref q :: r := by rw [← e1, List.take_append_drop]
        have hlen : b < st.length := by
          have : (st.drop b).length = r.length + 1 := by rw [e1]; rfl
          rw [List.length_drop] at this
          omega
        have hr1 : st.drop (b + 1) = r := by rw [← List.tail_drop, e1]; rfl
        have hG : GoodIn U (Cond.code M.1 M.2.1 M.2.2.1 none :: U) := fun w hw => by
          rcases List.mem_cons.mp hw with rfl | hw
          · exact ⟨m1, hU _ m1⟩
          · exact ⟨hw, hU _ hw⟩
        have hpre := cn_pre (nests := nests) (.ref q :: (st.take b).reverse) S.2.2 hP (Nat.le_trans hbase hS.1) hD hK hN
        simp only [cn_ok, Bool.and_eq_true] at hok
        obtain ⟨⟨-, o1⟩, o2, o3⟩ := hok
        have fin : ∀ (cs : List cn_K) (ad' : Nat → Nat) (H1 : Heap) (locs1 : List Loc), (decide (S.2.2.length ≤ cs.length) && K L r (S.1 + M.2.2.2.1, S.2.1 + M.2.2.2.2.1, cs)) = true → (∀ k, (k < S.2.2.length ∨ k = ab_scr) → ad' k = ad k) → va_P D cl (cn_W ad' dA cs) H1 → va_D (cn_A base) (cn_W ad' dA cs) → va_S (cn_A base) s.heap H1 locs1 → W p l e R s m args below meth c H1 locs1 (S.1 + M.2.2.2.1) (S.2.1 + M.2.2.2.2.1) Z (F0 m (pc + 3) ls (r.map (ab_v ad))) := by
          intro cs ad' H1 locs1 hk had hP1 hD1 hS1
          obtain hk := and_d hk
          have := kK _ _ _ hk.2 ad' H1 locs1 ls (fun k hk => (had k (hk.imp (fun z => Nat.lt_of_lt_of_le z hn0) id)).trans (h0 k hk)) (Nat.le_trans hn0 hk.1) hP1 hD1 hS1 (hL.ext had o2)
          have hrr : r.all (vr_lt S.2.2.length) = true := by
            rw [List.all_eq_true] at o3 ⊢
            intro v hv
            exact o3 v (by rw [hst]; simp [hv])
          rw [vr_exts had hrr] at this
          exact this
        have hstk : (F0 m pc ls (st.map (ab_v ad))).stack = (((st.take b).reverse).map (ab_v ad)).reverse ++ .ref (ad q) :: r.map (ab_v ad) := by
          show st.map (ab_v ad) = _
          conv => lhs; rw [hst]
          simp [ab_v]
        have hW4 := lv_room (m := m) (pc := pc) (ls := ls) (rest := st.map (ab_v ad)) (ab_sum4 (r.map (ab_v ad)) (by rw [List.length_map, ← hr1]; exact h4))
        have hrm : (cn_rm d M.2.2.2.1 M.2.2.2.2.1).frames + 1 ≤ R.frames ∧ 8 + (M.2.2.1 + 11) + (cn_rm d M.2.2.2.1 M.2.2.2.2.1).locals ≤ R.locals := by simp only [cn_rm]; omega
        rcases k3 with k3 | ⟨host, k3⟩
        · exact cn_back (va_runI (As := ((st.take b).reverse).map (ab_v ad)) (rest := r.map (ab_v ad)) (n := b) ⟨hx, hb, hml, hown, hts⟩ hmet
            ⟨callB_of b hts hG rfl rfl rfl (hts _ m2) (hts _ k3) ⟨m3, m4, hpar⟩ hrm, m7, hts _ k2⟩ hpre rfl (by simp; omega) hL.2.1 hstk hW4 hd ⟨by omega, by omega⟩) hS fin
        · exact cn_back (va_runIN (As := ((st.take b).reverse).map (ab_v ad)) (rest := r.map (ab_v ad)) (n := b) ⟨hx, hb, hml, hown, hts⟩ hmet
            ⟨va_cnB b hts hG rfl rfl rfl (hN _ k3) (hts _ m2) ⟨m3, m4, hpar⟩ hrm, m7, hts _ k2⟩ hpre rfl (by simp; omega) hL.2.1 hstk hW4 hd ⟨by omega, by omega⟩) hS fin
      · cases h
  | return_ =>
    obtain rfl : len = 1 := hln (fun _ z => by cases z)
    obtain ⟨⟨h3, h1, h2⟩, h4⟩ := and_d h
    have h3 := List.eq_nil_of_length_eq_zero h3
    subst h3
    exact kV ad S H locs ls rfl h1 h2 h4 h0 hP hD hS
  | _ => cases h
end CN
