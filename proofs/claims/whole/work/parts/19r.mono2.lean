/-! ===== likewise over whole numbers ===== -/
theorem qi_mono {st : List iz_V} {k k' : Int → List iz_V → Prop} (h : qi st k) (f : ∀ x r, k x r → k' x r) : qi st k' := by
  obtain ⟨x, r, rfl, h2⟩ := qi_of h
  exact f x r h2
theorem ql_mono {st : List iz_V} {k k' : Int64 → List iz_V → Prop} (h : ql st k) (f : ∀ x r, k x r → k' x r) : ql st k' := by
  obtain ⟨x, r, rfl, h2⟩ := ql_of h
  exact f x r h2
theorem qr_mono {st : List iz_V} {k k' : Nat → List iz_V → Prop} (h : qr st k) (f : ∀ x r, k x r → k' x r) : qr st k' := by
  obtain ⟨x, r, rfl, h2⟩ := qr_of h
  exact f x r h2
theorem li_mono {L : iz_L} {i : Nat} {k k' : Int → Prop} (h : li L i k) (f : ∀ x, k x → k' x) : li L i k' := by
  obtain ⟨x, e, h2⟩ := li_of h
  unfold li
  rw [e]
  exact f x h2
theorem ll_mono {L : iz_L} {i : Nat} {k k' : Int64 → Prop} (h : ll L i k) (f : ∀ x, k x → k' x) : ll L i k' := by
  obtain ⟨x, e, h2⟩ := ll_of h
  unfold ll
  rw [e]
  exact f x h2
theorem lr_mono {L : iz_L} {i : Nat} {k k' : Nat → Prop} (h : lr L i k) (f : ∀ x, k x → k' x) : lr L i k' := by
  obtain ⟨x, e, h2⟩ := lr_of h
  unfold lr
  rw [e]
  exact f x h2
theorem iz_cmp_mono {c : Jvm.ClassFile.Cond} {x y : Int} {A B A' B' : Prop} (h : iz_cmp c x y A B) (f : A → A') (g : B → B') : iz_cmp c x y A' B' := by
  cases c <;> exact ⟨fun z => f (h.1 z), fun z => g (h.2 z)⟩
def iz_Tm (T T' : Nat → List iz_V → iz_A → iz_Q → Prop) : Prop := ∀ (a : Nat) (as : List iz_V) (S : iz_A) (P P' : iz_Q), T a as S P → (∀ v S, P v S → P' v S) → T' a as S P'
set_option maxHeartbeats 2000000 in
theorem iz_1_mono {sc : ab_X} {sh : ab_Sh} {N : Nat} {oc : Nat → Nat} {T T' : Nat → List iz_V → iz_A → iz_Q → Prop} {J J' : Nat → iz_L → List iz_V → iz_A → Prop} {Q Q' : iz_Q} {ret : Option FieldType} {pc : Nat} {i : Instr} {a b : Nat} {L : iz_L} {st : List iz_V} {S : iz_A} {k k' : iz_L → List iz_V → iz_A → Prop}
    (hT : iz_Tm T T') (hJ : ∀ pc L st S, J pc L st S → J' pc L st S) (hQ : ∀ v S, Q v S → Q' v S) (hk : ∀ L st S, k L st S → k' L st S)
    (h : iz_1 sc sh N oc T J Q ret pc i a b L st S k) : iz_1 sc sh N oc T' J' Q' ret pc i a b L st S k' := by
  cases i with
  | iload n => exact li_mono h fun x h => hk _ _ _ h
  | iload_n n => exact li_mono h fun x h => hk _ _ _ h
  | lload n => exact ll_mono h fun x h => hk _ _ _ h
  | lload_n n => exact ll_mono h fun x h => hk _ _ _ h
  | aload n => exact lr_mono h fun x h => hk _ _ _ h
  | aload_n n => exact lr_mono h fun x h => hk _ _ _ h
  | istore n => exact qi_mono h fun x r h => ite_mono h (hk _ _ _) id
  | istore_n n => exact qi_mono h fun x r h => ite_mono h (hk _ _ _) id
  | lstore n => exact ql_mono h fun x r h => ite_mono h (hk _ _ _) id
  | lstore_n n => exact ql_mono h fun x r h => ite_mono h (hk _ _ _) id
  | iinc n w => exact li_mono h fun x h => ite_mono h (fun h => ⟨h.1, hk _ _ _ h.2⟩) id
  | iconst n => exact ite_mono h (hk _ _ _) id
  | bipush n => exact ite_mono h (hk _ _ _) id
  | sipush n => exact ite_mono h (hk _ _ _) id
  | lconst n => exact hk _ _ _ h
  | ldc n => exact ite_mono h (hk _ _ _) id
  | ldc_w n => exact ite_mono h (hk _ _ _) id
  | ldc2_w n => exact hk _ _ _ h
  | dup =>
    match st, h with
    | v :: r, h => exact ite_mono h (hk _ _ _) id
    | [], h => exact h.elim
  | dup2 =>
    match st, h with
    | v :: w :: r, h => exact ite_mono h (fun h => ite_mono h (hk _ _ _) id) id
    | [_], h => exact h.elim
    | [], h => exact h.elim
  | iadd => exact qi_mono h fun x r h => qi_mono h fun x r h => ⟨h.1, hk _ _ _ h.2⟩
  | isub => exact qi_mono h fun x r h => qi_mono h fun x r h => ⟨h.1, hk _ _ _ h.2⟩
  | imul => exact qi_mono h fun x r h => qi_mono h fun x r h => ⟨h.1, hk _ _ _ h.2⟩
  | idiv => exact qi_mono h fun x r h => qi_mono h fun x r h => ⟨h.1, hk _ _ _ h.2⟩
  | irem => exact qi_mono h fun x r h => qi_mono h fun x r h => ⟨h.1, hk _ _ _ h.2⟩
  | iand => exact qi_mono h fun x r h => qi_mono h fun x r h => hk _ _ _ h
  | ior => exact qi_mono h fun x r h => qi_mono h fun x r h => hk _ _ _ h
  | ishr => exact qi_mono h fun x r h => qi_mono h fun x r h => hk _ _ _ h
  | iushr => exact qi_mono h fun x r h => qi_mono h fun x r h => hk _ _ _ h
  | i2l => exact qi_mono h fun x r h => hk _ _ _ h
  | ladd => exact ql_mono h fun x r h => ql_mono h fun x r h => hk _ _ _ h
  | lmul => exact ql_mono h fun x r h => ql_mono h fun x r h => hk _ _ _ h
  | land => exact ql_mono h fun x r h => ql_mono h fun x r h => hk _ _ _ h
  | lor => exact ql_mono h fun x r h => ql_mono h fun x r h => hk _ _ _ h
  | lxor => exact ql_mono h fun x r h => ql_mono h fun x r h => hk _ _ _ h
  | lshl => exact qi_mono h fun x r h => ql_mono h fun x r h => hk _ _ _ h
  | lshr => exact qi_mono h fun x r h => ql_mono h fun x r h => hk _ _ _ h
  | lushr => exact qi_mono h fun x r h => ql_mono h fun x r h => hk _ _ _ h
  | lcmp => exact ql_mono h fun x r h => ql_mono h fun x r h => hk _ _ _ h
  | getfield idx =>
    refine qr_mono h fun q r h => ab_obj_mono h fun fl h => ?_
    split at h
    · exact hk _ _ _ h
    · exact hk _ _ _ h
    · exact h.elim
  | putfield idx =>
    refine qi_mono h fun x r h => qr_mono h fun q r h => ab_obj_mono h fun fl h => ite_mono h (fun h => ?_) (fun h => ?_)
    · split at h
      · exact hk _ _ _ h
      · exact h.elim
    · split at h
      · exact ⟨h.1, hk _ _ _ h.2⟩
      · exact h.elim
  | iaload => exact qi_mono h fun j r h => qr_mono h fun q r h => ite_mono h (fun h => ab_sx_mono h fun n xs h => ⟨h.1, hk _ _ _ h.2⟩) (fun h => ab_arr_mono h fun n h => ⟨h.1, hk _ _ _ h.2⟩)
  | baload => exact qi_mono h fun j r h => qr_mono h fun q r h => ab_arr_mono h fun n h => ⟨h.1, hk _ _ _ h.2⟩
  | laload => exact qi_mono h fun j r h => qr_mono h fun q r h => ab_arr_mono h fun n h => ⟨h.1, hk _ _ _ h.2⟩
  | iastore => exact qi_mono h fun x r h => qi_mono h fun j r h => qr_mono h fun q r h => ab_arr_mono h fun n h => ⟨h.1, hk _ _ _ h.2⟩
  | bastore => exact qi_mono h fun x r h => qi_mono h fun j r h => qr_mono h fun q r h => ab_arr_mono h fun n h => ⟨h.1, h.2.1, hk _ _ _ h.2.2⟩
  | lastore => exact ql_mono h fun x r h => qi_mono h fun j r h => qr_mono h fun q r h => ab_arr_mono h fun n h => ⟨h.1, hk _ _ _ h.2⟩
  | arraylength => exact qr_mono h fun q r h => ite_mono h (fun h => ab_sx_mono h fun n xs h => ⟨h.1, hk _ _ _ h.2⟩) (fun h => ab_arr_mono h fun n h => ite_mono h (hk _ _ _) id)
  | goto off => exact hJ _ _ _ _ h
  | if_icmp c off => exact qi_mono h fun y r h => qi_mono h fun x r h => iz_cmp_mono h (hJ _ _ _ _) (hk _ _ _)
  | ifCond c off => exact qi_mono h fun x r h => iz_cmp_mono h (hJ _ _ _ _) (hk _ _ _)
  | tableswitch df lo hi offs => exact qi_mono h fun x r h => ⟨fun z => hJ _ _ _ _ (h.1 z), fun z1 z2 => (h.2 z1 z2).imp fun o h => ⟨h.1, hJ _ _ _ _ h.2⟩⟩
  | lookupswitch df ps => exact qi_mono h fun x r h => h.imp fun o h => ⟨h.1, hJ _ _ _ _ h.2⟩
  | invokevirtual idx =>
    refine ite_mono h (fun h => ?_) id
    split at h
    · exact ab_obj_mono h fun _ h => hT _ _ _ _ _ h fun v S h => hk _ _ _ h
    · exact h.elim
  | invokestatic idx =>
    exact ite_mono h (fun h => qi_mono h fun y r h => qi_mono h fun x r h => ite_mono h (hk _ _ _) id) fun h =>
      ite_mono h (fun h => qi_mono h fun y r h => qi_mono h fun x r h => ite_mono h (hk _ _ _) id) fun h =>
      ite_mono h (fun h => qi_mono h fun n r h => qi_mono h fun dp r h => qr_mono h fun q1 r h => qi_mono h fun sp r h => qr_mono h fun q0 r h => ite_mono h (fun h => ab_arr_mono h fun n0 h => ab_arr_mono h fun n1 h => ⟨h.1, hk _ _ _ h.2⟩) id) fun h =>
      ite_mono h (fun h => ite_mono h (fun h => hT _ _ _ _ _ h fun v S h => hk _ _ _ h) id) id
  | ireturn =>
    refine qi_mono h fun x r h => ite_mono h (fun h => ?_) id
    split at h
    · exact hQ _ _ h
    · exact ⟨h.1, hQ _ _ h.2⟩
    · exact h.elim
  | return_ =>
    refine ite_mono h (fun h => ?_) id
    split at h
    · exact hQ _ _ h
    · exact h.elim
  | monitorexit => exact hJ _ _ _ _ h
  | _ => exact h.elim
theorem iz_w_mono {sc : ab_X} {sh : ab_Sh} {N : Nat} {oc : Nat → Nat} {T T' : Nat → List iz_V → iz_A → iz_Q → Prop} {J J' : Nat → iz_L → List iz_V → iz_A → Prop} {Q Q' : iz_Q} {ret : Option FieldType}
    (hT : iz_Tm T T') (hJ : ∀ pc L st S, J pc L st S → J' pc L st S) (hQ : ∀ v S, Q v S → Q' v S) : ∀ (r : List ab_I) (L : iz_L) (st : List iz_V) (S : iz_A), iz_w sc sh N oc T J Q ret r L st S → iz_w sc sh N oc T' J' Q' ret r L st S := by
  intro r
  induction r with
  | nil => intro L st S h; exact h
  | cons q r ih =>
    intro L st S h
    obtain ⟨pc, i, len, a, b⟩ := q
    exact iz_1_mono hT hJ hQ ih h
theorem iz_run_mono {sc : ab_X} {sh : ab_Sh} {N : Nat} {oc : Nat → Nat} {T T' : Nat → List iz_V → iz_A → iz_Q → Prop} {Q Q' : iz_Q} {ret : Option FieldType} {cd : List ab_I} {pc : Nat} {L : iz_L} {st : List iz_V} {S : iz_A}
    (hT : iz_Tm T T') (hQ : ∀ v S, Q v S → Q' v S) (h : iz_run sc sh N oc T ret cd Q pc L st S) : iz_run sc sh N oc T' ret cd Q' pc L st S := by
  intro X hX
  exact h X fun pc L L0 st S hle h => hX pc L L0 st S hle (iz_w_mono hT (fun _ _ _ _ z => z) hQ _ L0 st S h)
theorem iz_T_mono {sh : ab_Sh} {N : Nat} {pr : List ab_M} : ∀ (d d' : Nat), d ≤ d' → iz_Tm (iz_T sh N pr d) (iz_T sh N pr d') := by
  intro d
  induction d with
  | zero => intro d' _ a as S P P' h; exact h.elim
  | succ d ih =>
    intro d' hd a as S P P' h hP
    obtain ⟨e, rfl⟩ : ∃ e, d' = e + 1 := ⟨d' - 1, by omega⟩
    unfold iz_T at h ⊢
    cases hM : pr[a]? with
    | none => rw [hM] at h; exact h.elim
    | some M =>
      rw [hM] at h
      exact ⟨h.1, iz_run_mono (ih e (by omega)) hP h.2⟩
/-- a run goes on by what its next rows demand -/
theorem iz_step {sc : ab_X} {sh : ab_Sh} {N : Nat} {pr : List ab_M} {d : Nat} {ret : Option FieldType} {cd : List ab_I} {Q : iz_Q} {pc : Nat} {L : iz_L} {st : List iz_V} {S : iz_A}
    (h : iz_w sc sh N (ab_oc pr) (iz_T sh N pr d) (iz_run sc sh N (ab_oc pr) (iz_T sh N pr d) ret cd Q) Q ret (ab_from pc cd) L st S) : iz_run sc sh N (ab_oc pr) (iz_T sh N pr d) ret cd Q pc L st S := by
  intro X hX
  exact hX pc L L st S (iz_le_rf L) (iz_w_mono (iz_T_mono d d (Nat.le_refl d)) (fun pc L st S z => z X hX) (fun _ _ z => z) _ L st S h)
theorem iz_intro {sh : ab_Sh} {N : Nat} {pr : List ab_M} {d k : Nat} (M : ab_M) {as : List iz_V} {S : iz_A} {Q : iz_Q} (hM : pr[k]? = some M) (hl : (iz_en as).length ≤ M.2.2.2.1)
    (h : iz_run none sh N (ab_oc pr) (iz_T sh N pr d) M.2.2.2.2.1 M.2.2.2.2.2 Q 0 (iz_en as ++ List.replicate (M.2.2.2.1 - (iz_en as).length) none) [] S) : iz_T sh N pr (d + 1) k as S Q := by
  unfold iz_T
  rw [hM]
  exact ⟨hl, h⟩
theorem iz_le_tr {L0 L1 L2 : iz_L} (h : iz_le L0 L1) (h' : iz_le L1 L2) : iz_le L0 L2 := ⟨h.1.trans h'.1, fun i v z => h'.2 i v (h.2 i v z)⟩
/-- what is known less of the locals -/
theorem iz_forget {sc : ab_X} {sh : ab_Sh} {N : Nat} {pr : List ab_M} {d : Nat} {ret : Option FieldType} {cd : List ab_I} {Q : iz_Q} {pc : Nat} {L L0 : iz_L} {st : List iz_V} {S : iz_A} (hle : iz_le L0 L)
    (h : iz_run sc sh N (ab_oc pr) (iz_T sh N pr d) ret cd Q pc L0 st S) : iz_run sc sh N (ab_oc pr) (iz_T sh N pr d) ret cd Q pc L st S := by
  refine h (fun pc L0 st S => ∀ L, iz_le L0 L → iz_run sc sh N (ab_oc pr) (iz_T sh N pr d) ret cd Q pc L st S) (fun pc L L0 st S hl h L2 hl2 => ?_) L hle
  intro X hX
  exact hX pc L2 L0 st S (iz_le_tr hl hl2) (iz_w_mono (iz_T_mono d d (Nat.le_refl d)) (fun pc L st S z => z L (iz_le_rf L) X hX) (fun _ _ z => z) _ L0 st S h)
/-- what a state keeps but for some cells -/
def fr (l : List Nat) (A B : iz_A) : Prop := (∀ q, q ∉ l → B.1 q = A.1 q) ∧ ∀ q, q ∉ l → B.2 q = A.2 q
theorem fr_rf (A : iz_A) : fr [] A A := ⟨fun _ _ => rfl, fun _ _ => rfl⟩
theorem fr_tr {l l' : List Nat} {A B C : iz_A} (h : fr l A B) (h' : fr l' B C) : fr (l ++ l') A C :=
  ⟨fun q hq => (h'.1 q (fun z => hq (List.mem_append_right _ z))).trans (h.1 q (fun z => hq (List.mem_append_left _ z))), fun q hq => (h'.2 q (fun z => hq (List.mem_append_right _ z))).trans (h.2 q (fun z => hq (List.mem_append_left _ z)))⟩
theorem fr_mo {l l' : List Nat} {A B : iz_A} (h : fr l A B) (hl : ∀ q ∈ l, q ∈ l') : fr l' A B := ⟨fun q hq => h.1 q (fun z => hq (hl q z)), fun q hq => h.2 q (fun z => hq (hl q z))⟩
theorem fr_pI {l : List Nat} {A B : iz_A} {q : Nat} {f : Nat → Int} (h : fr l A B) (hq : q ∈ l) : fr l A (iz_pI B q f) :=
  ⟨fun a ha => by
    show (if a = q then f else B.1 a) = _
    rw [if_neg (fun e : a = q => ha (e ▸ hq))]
    exact h.1 a ha, h.2⟩
theorem fr_pL {l : List Nat} {A B : iz_A} {q : Nat} {f : Nat → Int64} (h : fr l A B) (hq : q ∈ l) : fr l A (iz_pL B q f) :=
  ⟨h.1, fun a ha => by
    show (if a = q then f else B.2 a) = _
    rw [if_neg (fun e : a = q => ha (e ▸ hq))]
    exact h.2 a ha⟩
theorem uz_at (f : Nat → Int) (j : Nat) (x : Int) : uz f j x j = x := if_pos rfl
theorem uz_ne (f : Nat → Int) {i j : Nat} (x : Int) (h : i ≠ j) : uz f j x i = f i := if_neg h
