/-! ===== a run of rows that are no method's own: the law's body ===== -/
section AB3
variable {p : Program} {l : Launch} {e : Env} {R : Room} {s : State} {m : MethodId} {args : Array Value} {below : List Frame} {meth : Method} {c : Code}
variable {D : va_G} {cl : List vw_C} {sh : ab_Sh} {N : Nat} {ad : Nat → Nat} {dA : Nat → ClassId} {nL : Nat}
set_option maxHeartbeats 2000000 in
theorem ab_runs {Z : State → Prop} {A : Nat → Prop} {cells slots : Nat} {sc : ab_X} {U : List Cond} {pr : List ab_M} {own : String} {cc : ByteArray} {d : Nat} {Q : ab_Q} {ret : Option FieldType} {cd : List ab_I}
    (hx : p.tables.exec = Jvm.exec) (hb : c.code = cc) (hml : c.maxLocals = nL) (hown : s.vm.findClass own = some m.cls)
    (hts : ∀ w ∈ U, w.before args s = true) (hU : ∀ w ∈ U, (w.onTables && w.keeps) = true ∨ ∃ ty, w = Cond.arrayClass ty)
    (hK : va_K D cl (ab_tys dA) s) (hck : ab_ck U cl) (hpr : ∀ (k : Nat) (M : ab_M), pr[k]? = some M → ab_mk U M)
    (hinj : ∀ i j, i < N → j < N → ad i = ad j → i = j) (hA : ∀ q, ab_A N ad q → A q) (hR : d + 1 ≤ R.frames ∧ 100 * (d + 1) ≤ R.locals ∧ cells ≤ R.cells ∧ slots ≤ R.slots)
    (hsc : ∀ n xs, sc = some (n, xs) → va_X (ad ab_scr) n xs s s.heap ∧ ad ab_scr < s.heap.size ∧ ¬ A (ad ab_scr))
    (hT : ∀ (k : Nat) (M : ab_M) (as : List Value) (S : ab_S) (Q : ab_Q), pr[k]? = some M → ab_T sh N pr d k as S Q → ab_met l D cl sh N ad dA U d M as S Q)
    (c1 : ab_ch cd = true) (c2 : ∀ q ∈ cd, q.2.1 = .nop ∨ q.2.1 = .monitorexit ∨ (decode cc q.1 = .ok (q.2.1, q.2.2.1) ∧ ab_ln q.2.1 q.2.2.1 ∧ ab_lk U cl pr own q.1 q.2.1 q.2.2.2.1 q.2.2.2.2))
    (kR : ∀ (pc : Nat) (x : Int32) (S : ab_S) (H : Heap) (locs : List Loc) (ls : Array Slot), decode cc pc = .ok (.ireturn, 1) → (ret = some .int ∨ (ret = some .boolean ∧ (x = 0 ∨ x = 1))) → Q (some (.int x)) S → va_P D cl (ab_W sh N ad dA S) H → va_S A s.heap H locs → W p l e R s m args below meth c H locs cells slots Z (F0 m pc ls [.int x]))
    (kV : ret ≠ none) :
    ∀ (pc : Nat) (L : ab_L) (st : List Value) (S : ab_S), ab_run sc sh N (ab_oc pr) (ab_T sh N pr d) ret cd Q pc L st S → ab_G p l e R s m args below meth c Z D cl sh N ad dA A cells slots nL pc L st S := by
  have go : ∀ (r : List ab_I), (∀ z ∈ r, z ∈ cd) → ab_ch r = true → ∀ (pc : Nat) (L : ab_L) (st : List Value) (S : ab_S), (∀ q t, r = q :: t → q.1 = pc) → ab_w sc sh N (ab_oc pr) (ab_T sh N pr d) (ab_G p l e R s m args below meth c Z D cl sh N ad dA A cells slots nL) Q ret r L st S → ab_G p l e R s m args below meth c Z D cl sh N ad dA A cells slots nL pc L st S := by
    intro r
    induction r with
    | nil => intro _ _ pc L st S _ h; exact h.elim
    | cons q r ihr =>
      intro hin hch pc L st S hpc h
      obtain ⟨pc0, i, len, a, b⟩ := q
      obtain rfl : pc0 = pc := hpc _ _ rfl
      rcases c2 _ (hin _ List.mem_cons_self) with hnop | hmx | ⟨q1, q2, q3⟩
      · dsimp only at hnop
        subst hnop
        exact h.elim
      · dsimp only at hmx
        subst hmx
        exact h
      refine ab_step hx hb hml hown hts hU hK hck hpr hinj hA hR hsc hT q1 q2 q3 (fun L st S hk => ?_) (fun t L st S hj => hj) (fun x S H locs ls hi hre hQ hP hS => ?_) (fun S H locs ls hi hre hQ hP hS => ?_) h
      rotate_left
      · subst hi
        obtain rfl : len = 1 := q2
        exact kR _ x S H locs ls q1 hre hQ hP hS
      · exact absurd hre kV
      refine ihr (fun z hz => hin z (List.mem_cons_of_mem _ hz)) (ab_ch_tail hch) (pc0 + len) L st S (fun q' t e => ?_) hk
      subst e
      simp only [ab_ch, Bool.and_eq_true, beq_iff_eq] at hch
      exact hch.1
  intro pc L st S hrun
  refine hrun _ (fun pc L L0 st S hle h => ?_)
  suffices hG : ab_G p l e R s m args below meth c Z D cl sh N ad dA A cells slots nL pc L0 st S from fun H locs ls hP hS hL => hG H locs ls hP hS (hL.forget hle)
  cases hf : ab_from pc cd with
  | nil => rw [hf] at h; exact h.elim
  | cons q r =>
    obtain ⟨h1, h2, h3⟩ := ab_from_spec hf c1
    rw [hf] at h
    exact go (q :: r) h3 h2 pc L0 st S (fun q' t e => by cases e; exact h1) h
end AB3
