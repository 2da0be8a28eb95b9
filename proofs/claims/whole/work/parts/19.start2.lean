set_option maxRecDepth 20000 in
theorem ui_0 : Cond.instantiable RX0 5 ∈ uw := (uw_m1 25 rfl rfl)
set_option maxRecDepth 20000 in
theorem ui_1 : Cond.instantiable RX1 8 ∈ uw := (uw_m1 148 rfl rfl)
set_option maxRecDepth 20000 in
theorem ui_2 : Cond.instantiable RX2 12 ∈ uw := (uw_m1 53 rfl rfl)
set_option maxRecDepth 20000 in
theorem ui_3 : Cond.instantiable RX3 11 ∈ uw := (uw_m2 16 rfl rfl)
set_option maxRecDepth 20000 in
theorem ui_4 : Cond.instantiable RX4 5 ∈ uw := (uw_m1 188 rfl rfl)
set_option maxRecDepth 20000 in
theorem ui_5 : Cond.instantiable RX5 7 ∈ uw := (uw_m2 115 rfl rfl)
set_option maxRecDepth 20000 in
theorem ui_6 : Cond.instantiable RX6 9 ∈ uw := (uw_m1 213 rfl rfl)
set_option maxRecDepth 20000 in
theorem ui_7 : Cond.instantiable RX7 5 ∈ uw := (uw_m2 92 rfl rfl)
set_option maxRecDepth 20000 in
theorem ui_8 : Cond.instantiable RX8 3 ∈ uw := (uw_m1 59 rfl rfl)
set_option maxRecDepth 20000 in
theorem ui_9 : Cond.instantiable RX9 8 ∈ uw := (uw_m2 22 rfl rfl)
set_option maxRecDepth 20000 in
theorem ui_10 : Cond.instantiable RX10 8 ∈ uw := (uw_m1 17 rfl rfl)
set_option maxRecDepth 20000 in
theorem ui_11 : Cond.instantiable RX11 74 ∈ uw := (uw_m5 123 rfl rfl)
set_option maxRecDepth 20000 in
theorem ua_I : Cond.arrayClass .int ∈ uw := (uw_m1 51 rfl rfl)
set_option maxRecDepth 20000 in
theorem ua_Z : Cond.arrayClass .boolean ∈ uw := (uw_m1 186 rfl rfl)
set_option maxRecDepth 20000 in
theorem ua_J : Cond.arrayClass .long ∈ uw := (uw_m2 14 rfl rfl)
theorem cls_all {s : State} {args : Array Value} (hts : ∀ w ∈ uw, w.before args s = true) : ∃ (dC : Nat → ClassId) (dI : Nat → Nat → Nat), ∀ (k : Nat) (q : vw_C), vwCl[k]? = some q → u_Kn s q.1 q.2.1 q.2.2 (dC k) (dI k) := by
  have hall : ∀ k : Nat, ∃ x : ClassId × (Nat → Nat), ∀ q : vw_C, vwCl[k]? = some q → u_Kn s q.1 q.2.1 q.2.2 x.1 x.2 := by
    intro k
    match k with
    | 0 =>
      obtain ⟨c, iS, h⟩ := u_known (C := RX0) (T := TX0) (N := 5) (n := 5) hts uy_0 (hts (.instantiable RX0 5) ui_0)
      exact ⟨(c, iS), fun q hq => by cases hq; exact h⟩
    | 1 =>
      obtain ⟨c, iS, h⟩ := u_known (C := RX1) (T := TX1) (N := 8) (n := 8) hts uy_1 (hts (.instantiable RX1 8) ui_1)
      exact ⟨(c, iS), fun q hq => by cases hq; exact h⟩
    | 2 =>
      obtain ⟨c, iS, h⟩ := u_known (C := RX2) (T := TX2) (N := 12) (n := 12) hts uy_2 (hts (.instantiable RX2 12) ui_2)
      exact ⟨(c, iS), fun q hq => by cases hq; exact h⟩
    | 3 =>
      obtain ⟨c, iS, h⟩ := u_known (C := RX3) (T := TX3) (N := 11) (n := 11) hts uy_3 (hts (.instantiable RX3 11) ui_3)
      exact ⟨(c, iS), fun q hq => by cases hq; exact h⟩
    | 4 =>
      obtain ⟨c, iS, h⟩ := u_known (C := RX4) (T := TX4) (N := 5) (n := 5) hts uy_4 (hts (.instantiable RX4 5) ui_4)
      exact ⟨(c, iS), fun q hq => by cases hq; exact h⟩
    | 5 =>
      obtain ⟨c, iS, h⟩ := u_known (C := RX5) (T := TX5) (N := 7) (n := 7) hts uy_5 (hts (.instantiable RX5 7) ui_5)
      exact ⟨(c, iS), fun q hq => by cases hq; exact h⟩
    | 6 =>
      obtain ⟨c, iS, h⟩ := u_known (C := RX6) (T := TX6) (N := 9) (n := 9) hts uy_6 (hts (.instantiable RX6 9) ui_6)
      exact ⟨(c, iS), fun q hq => by cases hq; exact h⟩
    | 7 =>
      obtain ⟨c, iS, h⟩ := u_known (C := RX7) (T := TX7) (N := 5) (n := 5) hts uy_7 (hts (.instantiable RX7 5) ui_7)
      exact ⟨(c, iS), fun q hq => by cases hq; exact h⟩
    | 8 =>
      obtain ⟨c, iS, h⟩ := u_known (C := RX8) (T := TX8) (N := 3) (n := 3) hts uy_8 (hts (.instantiable RX8 3) ui_8)
      exact ⟨(c, iS), fun q hq => by cases hq; exact h⟩
    | 9 =>
      obtain ⟨c, iS, h⟩ := u_known (C := RX9) (T := TX9) (N := 8) (n := 8) hts uy_9 (hts (.instantiable RX9 8) ui_9)
      exact ⟨(c, iS), fun q hq => by cases hq; exact h⟩
    | 10 =>
      obtain ⟨c, iS, h⟩ := u_known (C := RX10) (T := TX10) (N := 8) (n := 8) hts uy_10 (hts (.instantiable RX10 8) ui_10)
      exact ⟨(c, iS), fun q hq => by cases hq; exact h⟩
    | 11 =>
      obtain ⟨c, iS, h⟩ := u_known (C := RX11) (T := TX11) (N := 74) (n := 74) hts uy_11 (hts (.instantiable RX11 74) ui_11)
      exact ⟨(c, iS), fun q hq => by cases hq; exact h⟩
    | k + 12 => exact ⟨(0, fun _ => 0), fun q h => by simp [vwCl] at h⟩
  exact ⟨fun k => (Classical.choose (hall k)).1, fun k => (Classical.choose (hall k)).2, fun k q hq => Classical.choose_spec (hall k) q hq⟩
theorem kLp_np : ∀ q ∈ kLp, ∀ idx, q.2.1 ≠ .putfield idx := List.forall_mem_cons.mpr ⟨(fun _ h => (by cases h)), List.forall_mem_cons.mpr ⟨(fun _ h => (by cases h)), List.forall_mem_cons.mpr ⟨(fun _ h => (by cases h)), List.forall_mem_cons.mpr ⟨(fun _ h => (by cases h)), List.forall_mem_cons.mpr ⟨(fun _ h => (by cases h)), List.forall_mem_cons.mpr ⟨(fun _ h => (by cases h)), List.forall_mem_cons.mpr ⟨(fun _ h => (by cases h)), List.forall_mem_cons.mpr ⟨(fun _ h => (by cases h)), fun _ h => absurd h List.not_mem_nil⟩⟩⟩⟩⟩⟩⟩⟩
theorem arr_one {s : State} {args : Array Value} {ty : FieldType} (h : (Cond.arrayClass ty).before args s = true) : ∃ cA, ArrOfT s cA ty ∧ s.vm.findClass ("[" ++ ty.toString) = some cA := by
  obtain ⟨cA, kA, comp, h1, h2, h3⟩ := Cond.arrayClass_spec h
  exact ⟨cA, fun n z => ⟨fun k h => (by cases h), kA, h2, comp, h3⟩, h1⟩
theorem arr_all {s : State} {args : Array Value} (hts : ∀ w ∈ uw, w.before args s = true) : ∃ dA : Nat → ClassId, ∀ (k : Nat) (q : ClassId × FieldType), (ab_tys dA)[k]? = some q → ArrOfT s q.1 q.2 ∧ va_RA s q.1 q.2 := by
  obtain ⟨cI, hI, fI⟩ := arr_one (hts _ ua_I)
  obtain ⟨cZ, hZ, fZ⟩ := arr_one (hts _ ua_Z)
  obtain ⟨cJ, hJ, fJ⟩ := arr_one (hts _ ua_J)
  refine ⟨fun t => if t = 0 then cI else if t = 1 then cZ else cJ, fun k q h => ?_⟩
  match k, h with
  | 0, h => cases h; exact ⟨hI, fI⟩
  | 1, h => cases h; exact ⟨hZ, fZ⟩
  | 2, h => cases h; exact ⟨hJ, fJ⟩
  | k + 3, h => simp [ab_tys] at h
set_option maxHeartbeats 4000000 in
set_option maxRecDepth 20000 in
/-- the law's walk, out of the pure one -/
theorem start_of_pure {p : Program} {e : Env} {s : State} {m : MethodId} {below : List Frame} {meth : Method} {c : Code} (l : Launch) {b L : Nat} {xs : Nat → Int32} (C0 : lw_At p s m meth c b L xs) (hp : pure_law L xs) : W p l e room_1 s m #[Value.ref b] below meth c s.heap [] 0 0 (lw_Z below #[Value.ref b] s) (entryFrame m ([Value.ref b] : List Value).toArray 4) := by
  obtain ⟨hx, hb, hr, hml, hown, hts0, hX, hbl, hlocks, hgv⟩ := id C0
  have hts : ∀ w ∈ uw, w.before #[Value.ref b] s = true := fun w h => hts0 w (uw_sub h)
  obtain ⟨dC, dI, hKc⟩ := cls_all hts
  obtain ⟨dA, hKa⟩ := arr_all hts
  have hK : va_K (dC, dI) vwCl (ab_tys dA) s := ⟨hKc, hKa⟩
  have hN : cn_Nst nst s := fun q hq => va_Nw.of rfl (hts0 _ (nst_in q hq))
  have hl := lv_entry ([.ref b]) (n := 4) (Nat.le_of_ble_eq_true rfl)
  rw [lg_entry_eq]
  have hL0 : ab_Lr (fun k => if k = ab_scr then b else 0) [some (.ref 777), none, none, none] ((lg_sl ([.ref b]) ++ List.replicate (4 - (lg_sl ([.ref b])).length) Slot.unset).toArray) 4 :=
    ab_Lr.entry (vs := [.ref 777]) (n := 4) (by decide) hl
  have hP0 : va_P (dC, dI) vwCl (cn_W (fun k => if k = ab_scr then b else 0) dA []) s.heap := fun k q h => by simp [cn_W] at h
  have hD0 : va_D (cn_A s.heap.size) (cn_W (fun k => if k = ab_scr then b else 0) dA []) := ⟨fun i j p q h => by simp [cn_W] at h, fun k q h => by simp [cn_W] at h⟩
  refine cn_go (ad0 := fun k => if k = ab_scr then b else 0) (n0 := 0) (d := 5) (mc := 103) (ms := 297860) (Q := fun _ => false) (E := fun L st S => decide (L = lcF ∧ st = [] ∧ S = (103, 297860, csF))) hx hb hml hown hts uw_good hK hN uy_all (fun k M h => zm_all M (List.mem_of_getElem? h)) (Nat.le_refl _) (by decide) cdf_ok
    (fun k M ad as cs Q hM h => cn_sound uw_good uy_all (fun k M h => zm_all M (List.mem_of_getElem? h)) (fun k M h => zx_all M (List.mem_of_getElem? h)) cdf_ok 5 k M ad as cs Q hM h)
    (fun pc ad S H locs ls hd h1 h2 h3 => by cases h3) kLp 0 _ [] (0, 0, []) (by decide +kernel) zx_L (Or.inr kLp_np) (fun L1 st S hE => ?_) cn_evF (fun k => if k = ab_scr then b else 0) s.heap [] _ (fun _ _ => rfl) (Nat.le_refl _) hP0 hD0 va_S.rf hL0
  have hE := of_decide_eq_true hE
  obtain ⟨rfl, rfl, rfl⟩ := hE
  intro ad H locs ls h0 hn0 hP hD hS hL
  have hsc : ad ab_scr = b := (h0 ab_scr (Or.inr rfl)).trans (if_pos rfl)
  have e1 : cn_W ad dA csF = ab_W shF NF ad dA S0F := cn_to_ab (by decide +kernel)
  rw [e1] at hP hD
  have hinj : ∀ i j, i < NF → j < NF → ad i = ad j → i = j := fun i j hi hj e => hD.1 i j _ _ (ab_W_get hi) (ab_W_get hj) e
  have hA : ∀ q, ab_A NF ad q → cn_A s.heap.size q := fun q ⟨k, hk, e⟩ => by
    rw [e]
    exact hD.2 k _ (ab_W_get hk)
  refine ab_runs (sc := some (L, xs)) (d := 200) (cells := 103) (slots := 297860) (A := cn_A s.heap.size) (Q := fun v _ => v = some (.int 1)) hx hb hml hown hts uw_good hK uy_all (fun k M h => uc_all M (List.mem_of_getElem? h)) hinj hA (by decide) (fun n' xs' he => ?_) (sound_all hinj 200) kL_ch kL_ok (fun pc x S H locs ls hd hre hq hP hS => ?_) (by decide) 16 lcF [] S0F hp H locs ls hP hS hL
  · cases he
    rw [hsc]
    exact ⟨hX, hbl, Nat.not_le.mpr hbl⟩
  · cases hq
    exact va_forget hS.2.2 (W.widen (by decide) (by decide) (lw_ret hx hb hr hlocks hd))
