/-! ===== from the constructors' cells to the small machine, and the law's start ===== -/
def cn_fl (fs : List Value) : List (Option Nat) := fs.map fun v => match v with
  | .ref r => some r
  | _ => none
def cn_sh (cs : List cn_K) : ab_Sh := fun k => match cs[k]? with
  | some (.inl a) => .inl a
  | some (.inr (ci, fs)) => .inr (ci, cn_fl fs)
  | none => .inl (0, 0)
def cn_S0 (cs : List cn_K) : ab_S := (fun k j => match cs[k]? with
  | some (.inr (_, fs)) => (match fs[j]? with
    | some (.int x) => x
    | _ => 0)
  | _ => 0, fun _ _ => 0)
/-- all fields are references or ints -/
def cn_full (cs : List cn_K) : Bool := cs.all fun x => match x with
  | .inl _ => true
  | .inr (_, fs) => fs.all fun v => match v with
    | .ref _ => true
    | .int _ => true
    | _ => false
theorem cn_fl_fs {ad : Nat → Nat} {f : Nat → Int32} {fs : List Value} : ∀ {i : Nat}, (∀ (j : Nat) (v : Value), fs[j]? = some v → (∃ r : Nat, v = Value.ref r) ∨ v = Value.int (f (i + j))) → ab_fs ad f i (cn_fl fs) = fs.map (ab_v ad) := by
  induction fs with
  | nil => intro i h; rfl
  | cons v t ih =>
    intro i h
    have h1 := ih (i := i + 1) (fun j w hw => by
      have := h (j + 1) w (by simpa using hw)
      rwa [show i + (j + 1) = i + 1 + j by omega] at this)
    rcases h 0 v rfl with ⟨r, rfl⟩ | h0
    · simp only [cn_fl, List.map_cons, ab_fs, ab_v] at h1 ⊢
      rw [h1]
    · rw [Nat.add_zero] at h0
      subst h0
      simp only [cn_fl, List.map_cons, ab_fs, ab_v] at h1 ⊢
      rw [h1]
theorem cn_to_ab {ad : Nat → Nat} {dA : Nat → ClassId} {cs : List cn_K} (h : cn_full cs = true) : cn_W ad dA cs = ab_W (cn_sh cs) cs.length ad dA (cn_S0 cs) := by
  apply List.ext_getElem?
  intro k
  cases hk : cs[k]? with
  | none =>
    have : cs.length ≤ k := List.getElem?_eq_none_iff.mp hk
    simp [cn_W, List.getElem?_mapIdx, hk, ab_W, this]
  | some x =>
    have hl : k < cs.length := (List.getElem?_eq_some_iff.mp hk).1
    rw [cn_W_get hk, ab_W_get hl]
    congr 2
    have hx := List.all_eq_true.mp h x (List.mem_of_getElem? hk)
    cases x with
    | inl a =>
      obtain ⟨t, n⟩ := a
      simp only [cn_E, ab_cell, cn_sh, hk]
      have e1 : (cn_S0 cs).1 k = fun _ => 0 := by
        funext j
        simp [cn_S0, hk]
      have e2 : (cn_S0 cs).2 k = fun _ => 0 := rfl
      rw [e1, e2]
    | inr o =>
      obtain ⟨ci, fs⟩ := o
      simp only [cn_E, ab_cell, cn_sh, hk]
      congr 2
      refine (cn_fl_fs fun j v hv => ?_).symm
      have hv2 := List.all_eq_true.mp hx v (List.mem_of_getElem? hv)
      cases v with
      | ref r => exact Or.inl ⟨r, rfl⟩
      | int y => refine Or.inr ?_; simp [cn_S0, hk, hv]
      | _ => cases hv2
def shF : ab_Sh := cn_sh csF
def S0F : ab_S := cn_S0 csF
def NF : Nat := 103
/-- what is left to prove of the law: nothing of the machine -/
def pure_law (n : Nat) (xs : Nat → Int32) : Prop := ab_run (some (n, xs)) shF NF (ab_oc prg) (ab_T shF NF prg 200) (some .boolean) kL (fun v _ => v = some (.int 1)) 16 lcF [] S0F
theorem uw_sub {w : Cond} (h : w ∈ uw) : w ∈ lw_tbl := (List.mem_filter.mp h).1
