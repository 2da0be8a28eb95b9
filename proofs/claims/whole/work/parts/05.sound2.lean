/-! ===== a method of the small machine keeps its contract on the great one ===== -/
def ab_ch : List ab_I → Bool
  | [] => true
  | [_] => true
  | q :: q' :: r => (q'.1 == q.1 + q.2.2.1) && ab_ch (q' :: r)
/-- what the tables must say for a method's code -/
def ab_cd (U : List Cond) (cl : List vw_C) (pr : List ab_M) (M : ab_M) : Prop := ab_ch M.2.2.2.2.2 = true ∧ ∀ q ∈ M.2.2.2.2.2, q.2.1 = .nop ∨ q.2.1 = .monitorexit ∨ (decode M.2.2.1 q.1 = .ok (q.2.1, q.2.2.1) ∧ ab_ln q.2.1 q.2.2.1 ∧ ab_lk U cl pr M.1.cls q.1 q.2.1 q.2.2.2.1 q.2.2.2.2)
theorem ab_ch_tail {q : ab_I} {r : List ab_I} (h : ab_ch (q :: r) = true) : ab_ch r = true := by
  cases r with
  | nil => rfl
  | cons q' r =>
    simp only [ab_ch, Bool.and_eq_true] at h
    exact h.2
theorem ab_from_spec {pc : Nat} {cd : List ab_I} : ∀ {q : ab_I} {r : List ab_I}, ab_from pc cd = q :: r → ab_ch cd = true → q.1 = pc ∧ ab_ch (q :: r) = true ∧ ∀ z ∈ q :: r, z ∈ cd := by
  induction cd with
  | nil => intro q r h; cases h
  | cons z t ih =>
    intro q r h hc
    unfold ab_from at h
    split at h
    · rename_i e
      split at h
      · obtain ⟨h1, h2, h3⟩ := ih h (ab_ch_tail hc)
        exact ⟨h1, h2, fun y hy => List.mem_cons_of_mem _ (h3 y hy)⟩
      · cases h
        exact ⟨e, hc, fun _ hz => hz⟩
    · obtain ⟨h1, h2, h3⟩ := ih h (ab_ch_tail hc)
      exact ⟨h1, h2, fun y hy => List.mem_cons_of_mem _ (h3 y hy)⟩
set_option maxHeartbeats 2000000 in
theorem ab_sound {l : Launch} {D : va_G} {cl : List vw_C} {sh : ab_Sh} {N : Nat} {ad : Nat → Nat} {dA : Nat → ClassId} {U : List Cond} {pr : List ab_M}
    (hU : ∀ w ∈ U, (w.onTables && w.keeps) = true ∨ ∃ ty, w = Cond.arrayClass ty) (hck : ab_ck U cl) (hpr : ∀ (k : Nat) (M : ab_M), pr[k]? = some M → ab_mk U M) (hcd : ∀ (k : Nat) (M : ab_M), pr[k]? = some M → ab_cd U cl pr M)
    (hinj : ∀ i j, i < N → j < N → ad i = ad j → i = j) : ∀ (d k : Nat) (M : ab_M) (as : List Value) (S : ab_S) (Q : ab_Q), pr[k]? = some M → ab_T sh N pr d k as S Q → ab_met l D cl sh N ad dA U d M as S Q := by
  intro d
  induction d with
  | zero => intro k M as S Q _ h; exact h.elim
  | succ d ih =>
    intro k M as S Q hM h
    obtain ⟨m1, m2, m3, m4, m5, m6⟩ := hpr k M hM
    obtain ⟨c1, c2⟩ := hcd k M hM
    unfold ab_T at h
    rw [hM] at h
    obtain ⟨hlen, hrun⟩ := h
    refine Met.ofW (cc := M.2.2.1) (maxL := M.2.2.2.1) (ret := M.2.2.2.2.1) m5 rfl ?_
    intro p e s m args below meth c s₁ B hml hv
    obtain ⟨rfl, hP, hK⟩ := hv
    have hx := B.exec
    have hb := B.bytes
    have hr := B.returns
    have hts0 := atoms_spec (ws := Cond.code M.1 M.2.2.1 M.2.2.2.1 M.2.2.2.2.1 :: U) B.pre
    have hts : ∀ w ∈ U, w.before (as.map (ab_v ad)).toArray s = true := fun w hw => hts0 w (List.mem_cons_of_mem _ hw)
    have hown : s.vm.findClass M.1.cls = some m.cls := findClass_of_methodNamed B.named
    have hlocks := B.notSynchronized
    have go : ∀ (r : List ab_I), (∀ z ∈ r, z ∈ M.2.2.2.2.2) → ab_ch r = true → ∀ (pc : Nat) (L : ab_L) (st : List Value) (S : ab_S), (∀ q t, r = q :: t → q.1 = pc) → ab_w none sh N (ab_oc pr) (ab_T sh N pr d) (ab_G p l e (ab_rm (d + 1)) s m (as.map (ab_v ad)).toArray below meth c (MQ below (ab_Qc D cl sh N ad dA Q) (as.map (ab_v ad)).toArray s 0 0 (ab_A N ad)) D cl sh N ad dA (ab_A N ad) 0 0 M.2.2.2.1) Q M.2.2.2.2.1 r L st S → ab_G p l e (ab_rm (d + 1)) s m (as.map (ab_v ad)).toArray below meth c (MQ below (ab_Qc D cl sh N ad dA Q) (as.map (ab_v ad)).toArray s 0 0 (ab_A N ad)) D cl sh N ad dA (ab_A N ad) 0 0 M.2.2.2.1 pc L st S := by
      intro r
      induction r with
      | nil => intro _ _ pc L st S _ h; exact h.elim
      | cons q r ihr =>
        intro hin hch pc L st S hpc h
        obtain ⟨pc0, i, len, a, b⟩ := q
        obtain rfl : pc0 = pc := hpc _ _ rfl
        rcases c2 _ (hin _ List.mem_cons_self) with hnop | hmx | ⟨q1, q2, q3⟩
        · dsimp only at hnop
          subst hnop
          exact h.elim
        · dsimp only at hmx
          subst hmx
          exact h
        refine ab_step hx hb hml hown hts hU hK hck hpr hinj (fun _ z => z) ⟨Nat.le_refl _, Nat.le_refl _, Nat.zero_le _, Nat.zero_le _⟩ (fun _ _ z => by cases z) ih q1 q2 q3 (fun L st S hk => ?_) (fun t L st S hj => hj) (fun x S H locs ls hi hre hQ hP hS => ?_) (fun S H locs ls hi hre hQ hP hS => ?_) h
        rotate_left
        · subst hi
          obtain rfl : len = 1 := q2
          rcases hre with hre | ⟨hre, hx1⟩
          · rw [hre] at hr
            exact W.iret hx hb hr (fun t ht hW => ⟨⟨some (.int x), S, rfl, Or.inr ⟨x, rfl⟩, hQ, by rw [ht]; exact hP⟩, hS.F ht⟩) hS.2.2 q1
          · rw [hre] at hr
            exact W.zret hx hb hr (ab_bool hx1).1 (fun t ht hW => ⟨⟨some (.int x), S, rfl, Or.inr ⟨x, rfl⟩, hQ, by rw [ht]; exact hP⟩, hS.F ht⟩) hS.2.2 q1
        · subst hi
          obtain rfl : len = 1 := q2
          rw [hre] at hr
          exact W.vret hx hb hr (fun t ht hW => ⟨⟨none, S, rfl, Or.inl rfl, hQ, by rw [ht]; exact hP⟩, hS.F ht⟩) hS.2.2 q1
        refine ihr (fun z hz => hin z (List.mem_cons_of_mem _ hz)) (ab_ch_tail hch) (pc0 + len) L st S (fun q' t e => ?_) hk
        subst e
        simp only [ab_ch, Bool.and_eq_true, beq_iff_eq] at hch
        exact hch.1
    have key : ∀ (pc : Nat) (L : ab_L) (st : List Value) (S : ab_S), ab_w none sh N (ab_oc pr) (ab_T sh N pr d) (ab_G p l e (ab_rm (d + 1)) s m (as.map (ab_v ad)).toArray below meth c (MQ below (ab_Qc D cl sh N ad dA Q) (as.map (ab_v ad)).toArray s 0 0 (ab_A N ad)) D cl sh N ad dA (ab_A N ad) 0 0 M.2.2.2.1) Q M.2.2.2.2.1 (ab_from pc M.2.2.2.2.2) L st S → ab_G p l e (ab_rm (d + 1)) s m (as.map (ab_v ad)).toArray below meth c (MQ below (ab_Qc D cl sh N ad dA Q) (as.map (ab_v ad)).toArray s 0 0 (ab_A N ad)) D cl sh N ad dA (ab_A N ad) 0 0 M.2.2.2.1 pc L st S := by
      intro pc L st S h
      cases hf : ab_from pc M.2.2.2.2.2 with
      | nil => rw [hf] at h; exact h.elim
      | cons q r =>
        obtain ⟨h1, h2, h3⟩ := ab_from_spec hf c1
        rw [hf] at h
        exact go (q :: r) h3 h2 pc L st S (fun q' t e => by cases e; exact h1) h
    have hl := lv_entry (as.map (ab_v ad)) (n := M.2.2.2.1) (by rw [ab_en_len]; exact hlen)
    rw [lg_entry_eq]
    exact hrun _ (fun pc L L0 st S hle h H locs ls hP hS hL => key pc L0 st S h H locs ls hP hS (hL.forget hle)) s.heap [] _ hP va_S.rf (ab_Lr.entry hlen hl)
