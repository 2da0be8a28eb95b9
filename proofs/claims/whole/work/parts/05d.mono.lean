/-! ===== the small machine's demands are monotone ===== -/
theorem pop_i_mono {st : List Value} {k k' : Int32 → List Value → Prop} (h : pop_i st k) (f : ∀ x r, k x r → k' x r) : pop_i st k' := by
  obtain ⟨x, r, rfl, h2⟩ := pop_i_of h
  exact f x r h2
theorem pop_l_mono {st : List Value} {k k' : Int64 → List Value → Prop} (h : pop_l st k) (f : ∀ x r, k x r → k' x r) : pop_l st k' := by
  obtain ⟨x, r, rfl, h2⟩ := pop_l_of h
  exact f x r h2
theorem pop_r_mono {st : List Value} {k k' : Nat → List Value → Prop} (h : pop_r st k) (f : ∀ x r, k x r → k' x r) : pop_r st k' := by
  obtain ⟨x, r, rfl, h2⟩ := pop_r_of h
  exact f x r h2
theorem ld_i_mono {L : ab_L} {i : Nat} {k k' : Int32 → Prop} (h : ld_i L i k) (f : ∀ x, k x → k' x) : ld_i L i k' := by
  obtain ⟨x, e, h2⟩ := ld_i_of h
  unfold ld_i
  rw [e]
  exact f x h2
theorem ld_l_mono {L : ab_L} {i : Nat} {k k' : Int64 → Prop} (h : ld_l L i k) (f : ∀ x, k x → k' x) : ld_l L i k' := by
  obtain ⟨x, e, h2⟩ := ld_l_of h
  unfold ld_l
  rw [e]
  exact f x h2
theorem ld_r_mono {L : ab_L} {i : Nat} {k k' : Nat → Prop} (h : ld_r L i k) (f : ∀ x, k x → k' x) : ld_r L i k' := by
  obtain ⟨x, e, h2⟩ := ld_r_of h
  unfold ld_r
  rw [e]
  exact f x h2
theorem ab_arr_mono {sh : ab_Sh} {N q t : Nat} {k k' : Nat → Prop} (h : ab_arr sh N q t k) (f : ∀ n, k n → k' n) : ab_arr sh N q t k' := by
  obtain ⟨h1, n, h2, h3⟩ := ab_arr_of h
  unfold ab_arr
  rw [if_pos h1, h2]
  simp only [if_pos]
  exact f n h3
theorem ab_obj_mono {sh : ab_Sh} {N q t : Nat} {k k' : List (Option Nat) → Prop} (h : ab_obj sh N q t k) (f : ∀ n, k n → k' n) : ab_obj sh N q t k' := by
  obtain ⟨h1, n, h2, h3⟩ := ab_obj_of h
  unfold ab_obj
  rw [if_pos h1, h2]
  simp only [if_pos]
  exact f n h3
theorem ab_sx_mono {sc : ab_X} {k k' : Nat → (Nat → Int32) → Prop} (h : ab_sx sc k) (f : ∀ n xs, k n xs → k' n xs) : ab_sx sc k' := by
  obtain ⟨n, xs, rfl, h2⟩ := ab_sx_of h
  exact f n xs h2
theorem ite_mono {c A B A' B' : Prop} [Decidable c] (h : if c then A else B) (f : A → A') (g : B → B') : if c then A' else B' := by
  split at h
  · rename_i hc; rw [if_pos hc]; exact f h
  · rename_i hc; rw [if_neg hc]; exact g h
theorem ab_cmp_mono {c : Jvm.ClassFile.Cond} {x y : Int32} {A B A' B' : Prop} (h : ab_cmp c x y A B) (f : A → A') (g : B → B') : ab_cmp c x y A' B' := by
  cases c <;> exact ⟨fun z => f (h.1 z), fun z => g (h.2 z)⟩
def ab_Tm (T T' : Nat → List Value → ab_S → ab_Q → Prop) : Prop := ∀ (a : Nat) (as : List Value) (S : ab_S) (P P' : ab_Q), T a as S P → (∀ v S, P v S → P' v S) → T' a as S P'
set_option maxHeartbeats 2000000 in
theorem ab_1_mono {sc : ab_X} {sh : ab_Sh} {N : Nat} {oc : Nat → Nat} {T T' : Nat → List Value → ab_S → ab_Q → Prop} {J J' : Nat → ab_L → List Value → ab_S → Prop} {Q Q' : ab_Q} {ret : Option FieldType} {pc : Nat} {i : Instr} {a b : Nat} {L : ab_L} {st : List Value} {S : ab_S} {k k' : ab_L → List Value → ab_S → Prop}
    (hT : ab_Tm T T') (hJ : ∀ pc L st S, J pc L st S → J' pc L st S) (hQ : ∀ v S, Q v S → Q' v S) (hk : ∀ L st S, k L st S → k' L st S)
    (h : ab_1 sc sh N oc T J Q ret pc i a b L st S k) : ab_1 sc sh N oc T' J' Q' ret pc i a b L st S k' := by
  cases i with
  | iload n => exact ld_i_mono h fun x h => hk _ _ _ h
  | iload_n n => exact ld_i_mono h fun x h => hk _ _ _ h
  | lload n => exact ld_l_mono h fun x h => hk _ _ _ h
  | lload_n n => exact ld_l_mono h fun x h => hk _ _ _ h
  | aload n => exact ld_r_mono h fun x h => hk _ _ _ h
  | aload_n n => exact ld_r_mono h fun x h => hk _ _ _ h
  | istore n => exact pop_i_mono h fun x r h => ite_mono h (hk _ _ _) id
  | istore_n n => exact pop_i_mono h fun x r h => ite_mono h (hk _ _ _) id
  | lstore n => exact pop_l_mono h fun x r h => ite_mono h (hk _ _ _) id
  | lstore_n n => exact pop_l_mono h fun x r h => ite_mono h (hk _ _ _) id
  | iinc n w => exact ld_i_mono h fun x h => ite_mono h (hk _ _ _) id
  | iconst n => exact hk _ _ _ h
  | bipush n => exact hk _ _ _ h
  | sipush n => exact hk _ _ _ h
  | lconst n => exact hk _ _ _ h
  | ldc n => exact hk _ _ _ h
  | ldc_w n => exact hk _ _ _ h
  | ldc2_w n => exact hk _ _ _ h
  | dup =>
    match st, h with
    | v :: r, h => exact ite_mono h (hk _ _ _) id
    | [], h => exact h.elim
  | dup2 =>
    match st, h with
    | v :: w :: r, h => exact ite_mono h (fun h => ite_mono h (hk _ _ _) id) id
    | [_], h => exact h.elim
    | [], h => exact h.elim
  | iadd => exact pop_i_mono h fun x r h => pop_i_mono h fun x r h => hk _ _ _ h
  | isub => exact pop_i_mono h fun x r h => pop_i_mono h fun x r h => hk _ _ _ h
  | imul => exact pop_i_mono h fun x r h => pop_i_mono h fun x r h => hk _ _ _ h
  | idiv => exact pop_i_mono h fun x r h => pop_i_mono h fun x r h => ⟨h.1, hk _ _ _ h.2⟩
  | irem => exact pop_i_mono h fun x r h => pop_i_mono h fun x r h => ⟨h.1, hk _ _ _ h.2⟩
  | iand => exact pop_i_mono h fun x r h => pop_i_mono h fun x r h => hk _ _ _ h
  | ior => exact pop_i_mono h fun x r h => pop_i_mono h fun x r h => hk _ _ _ h
  | ishr => exact pop_i_mono h fun x r h => pop_i_mono h fun x r h => hk _ _ _ h
  | iushr => exact pop_i_mono h fun x r h => pop_i_mono h fun x r h => hk _ _ _ h
  | i2l => exact pop_i_mono h fun x r h => hk _ _ _ h
  | ladd => exact pop_l_mono h fun x r h => pop_l_mono h fun x r h => hk _ _ _ h
  | lmul => exact pop_l_mono h fun x r h => pop_l_mono h fun x r h => hk _ _ _ h
  | land => exact pop_l_mono h fun x r h => pop_l_mono h fun x r h => hk _ _ _ h
  | lor => exact pop_l_mono h fun x r h => pop_l_mono h fun x r h => hk _ _ _ h
  | lxor => exact pop_l_mono h fun x r h => pop_l_mono h fun x r h => hk _ _ _ h
  | lshl => exact pop_i_mono h fun x r h => pop_l_mono h fun x r h => hk _ _ _ h
  | lshr => exact pop_i_mono h fun x r h => pop_l_mono h fun x r h => hk _ _ _ h
  | lushr => exact pop_i_mono h fun x r h => pop_l_mono h fun x r h => hk _ _ _ h
  | lcmp => exact pop_l_mono h fun x r h => pop_l_mono h fun x r h => hk _ _ _ h
  | getfield idx =>
    refine pop_r_mono h fun q r h => ab_obj_mono h fun fl h => ?_
    split at h
    · exact hk _ _ _ h
    · exact hk _ _ _ h
    · exact h.elim
  | putfield idx =>
    refine pop_i_mono h fun x r h => pop_r_mono h fun q r h => ab_obj_mono h fun fl h => ite_mono h (fun h => ?_) (fun h => ?_)
    · split at h
      · exact hk _ _ _ h
      · exact h.elim
    · split at h
      · exact ⟨h.1, hk _ _ _ h.2⟩
      · exact h.elim
  | iaload => exact pop_i_mono h fun j r h => pop_r_mono h fun q r h => ite_mono h (fun h => ab_sx_mono h fun n xs h => ⟨h.1, hk _ _ _ h.2⟩) (fun h => ab_arr_mono h fun n h => ⟨h.1, hk _ _ _ h.2⟩)
  | baload => exact pop_i_mono h fun j r h => pop_r_mono h fun q r h => ab_arr_mono h fun n h => ⟨h.1, hk _ _ _ h.2⟩
  | laload => exact pop_i_mono h fun j r h => pop_r_mono h fun q r h => ab_arr_mono h fun n h => ⟨h.1, hk _ _ _ h.2⟩
  | iastore => exact pop_i_mono h fun x r h => pop_i_mono h fun j r h => pop_r_mono h fun q r h => ab_arr_mono h fun n h => ⟨h.1, hk _ _ _ h.2⟩
  | bastore => exact pop_i_mono h fun x r h => pop_i_mono h fun j r h => pop_r_mono h fun q r h => ab_arr_mono h fun n h => ⟨h.1, h.2.1, hk _ _ _ h.2.2⟩
  | lastore => exact pop_l_mono h fun x r h => pop_i_mono h fun j r h => pop_r_mono h fun q r h => ab_arr_mono h fun n h => ⟨h.1, hk _ _ _ h.2⟩
  | arraylength => exact pop_r_mono h fun q r h => ite_mono h (fun h => ab_sx_mono h fun n xs h => hk _ _ _ h) (fun h => ab_arr_mono h fun n h => hk _ _ _ h)
  | goto off => exact hJ _ _ _ _ h
  | if_icmp c off => exact pop_i_mono h fun y r h => pop_i_mono h fun x r h => ab_cmp_mono h (hJ _ _ _ _) (hk _ _ _)
  | ifCond c off => exact pop_i_mono h fun x r h => ab_cmp_mono h (hJ _ _ _ _) (hk _ _ _)
  | tableswitch df lo hi offs => exact pop_i_mono h fun x r h => ⟨fun z => hJ _ _ _ _ (h.1 z), fun z1 z2 => (h.2 z1 z2).imp fun o h => ⟨h.1, hJ _ _ _ _ h.2⟩⟩
  | lookupswitch df ps => exact pop_i_mono h fun x r h => h.imp fun o h => ⟨h.1, hJ _ _ _ _ h.2⟩
  | invokevirtual idx =>
    refine ite_mono h (fun h => ?_) id
    split at h
    · exact ab_obj_mono h fun _ h => hT _ _ _ _ _ h fun v S h => hk _ _ _ h
    · exact h.elim
  | invokestatic idx =>
    exact ite_mono h (fun h => pop_i_mono h fun y r h => pop_i_mono h fun x r h => ite_mono h (hk _ _ _) id) fun h =>
      ite_mono h (fun h => pop_i_mono h fun y r h => pop_i_mono h fun x r h => ite_mono h (hk _ _ _) id) fun h =>
      ite_mono h (fun h => pop_i_mono h fun n r h => pop_i_mono h fun dp r h => pop_r_mono h fun q1 r h => pop_i_mono h fun sp r h => pop_r_mono h fun q0 r h => ite_mono h (fun h => ab_arr_mono h fun n0 h => ab_arr_mono h fun n1 h => ⟨h.1, h.2.1, h.2.2.1, h.2.2.2.1, h.2.2.2.2.1, hk _ _ _ h.2.2.2.2.2⟩) id) fun h =>
      ite_mono h (fun h => ite_mono h (fun h => hT _ _ _ _ _ h fun v S h => hk _ _ _ h) id) id
  | ireturn =>
    refine pop_i_mono h fun x r h => ite_mono h (fun h => ?_) id
    split at h
    · exact hQ _ _ h
    · exact ⟨h.1, hQ _ _ h.2⟩
    · exact h.elim
  | return_ =>
    refine ite_mono h (fun h => ?_) id
    split at h
    · exact hQ _ _ h
    · exact h.elim
  | monitorexit => exact hJ _ _ _ _ h
  | _ => exact h.elim
theorem ab_w_mono {sc : ab_X} {sh : ab_Sh} {N : Nat} {oc : Nat → Nat} {T T' : Nat → List Value → ab_S → ab_Q → Prop} {J J' : Nat → ab_L → List Value → ab_S → Prop} {Q Q' : ab_Q} {ret : Option FieldType}
    (hT : ab_Tm T T') (hJ : ∀ pc L st S, J pc L st S → J' pc L st S) (hQ : ∀ v S, Q v S → Q' v S) : ∀ (r : List ab_I) (L : ab_L) (st : List Value) (S : ab_S), ab_w sc sh N oc T J Q ret r L st S → ab_w sc sh N oc T' J' Q' ret r L st S := by
  intro r
  induction r with
  | nil => intro L st S h; exact h
  | cons q r ih =>
    intro L st S h
    obtain ⟨pc, i, len, a, b⟩ := q
    exact ab_1_mono hT hJ hQ ih h
theorem ab_run_mono {sc : ab_X} {sh : ab_Sh} {N : Nat} {oc : Nat → Nat} {T T' : Nat → List Value → ab_S → ab_Q → Prop} {Q Q' : ab_Q} {ret : Option FieldType} {cd : List ab_I} {pc : Nat} {L : ab_L} {st : List Value} {S : ab_S}
    (hT : ab_Tm T T') (hQ : ∀ v S, Q v S → Q' v S) (h : ab_run sc sh N oc T ret cd Q pc L st S) : ab_run sc sh N oc T' ret cd Q' pc L st S := by
  intro X hX
  exact h X fun pc L L0 st S hle h => hX pc L L0 st S hle (ab_w_mono hT (fun _ _ _ _ z => z) hQ _ L0 st S h)
theorem ab_T_mono {sh : ab_Sh} {N : Nat} {pr : List ab_M} : ∀ (d d' : Nat), d ≤ d' → ab_Tm (ab_T sh N pr d) (ab_T sh N pr d') := by
  intro d
  induction d with
  | zero => intro d' _ a as S P P' h; exact h.elim
  | succ d ih =>
    intro d' hd a as S P P' h hP
    obtain ⟨e, rfl⟩ : ∃ e, d' = e + 1 := ⟨d' - 1, by omega⟩
    unfold ab_T at h ⊢
    cases hM : pr[a]? with
    | none => rw [hM] at h; exact h.elim
    | some M =>
      rw [hM] at h
      exact ⟨h.1, ab_run_mono (ih e (by omega)) hP h.2⟩
/-- a run goes on by what its next rows demand -/
theorem run_step {sc : ab_X} {sh : ab_Sh} {N : Nat} {pr : List ab_M} {d : Nat} {ret : Option FieldType} {cd : List ab_I} {Q : ab_Q} {pc : Nat} {L : ab_L} {st : List Value} {S : ab_S}
    (h : ab_w sc sh N (ab_oc pr) (ab_T sh N pr d) (ab_run sc sh N (ab_oc pr) (ab_T sh N pr d) ret cd Q) Q ret (ab_from pc cd) L st S) : ab_run sc sh N (ab_oc pr) (ab_T sh N pr d) ret cd Q pc L st S := by
  intro X hX
  exact hX pc L L st S (ab_le_rf L) (ab_w_mono (ab_T_mono d d (Nat.le_refl d)) (fun pc L st S z => z X hX) (fun _ _ z => z) _ L st S h)
theorem T_intro {sh : ab_Sh} {N : Nat} {pr : List ab_M} {d k : Nat} (M : ab_M) {as : List Value} {S : ab_S} {Q : ab_Q} (hM : pr[k]? = some M) (hl : (ab_en as).length ≤ M.2.2.2.1)
    (h : ab_run none sh N (ab_oc pr) (ab_T sh N pr d) M.2.2.2.2.1 M.2.2.2.2.2 Q 0 (ab_en as ++ List.replicate (M.2.2.2.1 - (ab_en as).length) none) [] S) : ab_T sh N pr (d + 1) k as S Q := by
  unfold ab_T
  rw [hM]
  exact ⟨hl, h⟩
