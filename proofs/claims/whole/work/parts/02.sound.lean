/-! ===== the small machine is sound: relations between its states and the heap ===== -/
def ab_v (ad : Nat → Nat) : Value → Value
  | .ref k => .ref (ad k)
  | v => v
theorem ab_v_cat (ad : Nat → Nat) (v : Value) : (ab_v ad v).category = v.category := by cases v <;> rfl
def ab_as (ad : Nat → Nat) (L : ab_L) : List (Nat × Value) := (List.range L.length).filterMap fun j => match L[j]? with
  | some (some v) => some (j, ab_v ad v)
  | _ => none
theorem ab_as_mem {ad : Nat → Nat} {L : ab_L} {j : Nat} {w : Value} : (j, w) ∈ ab_as ad L ↔ ∃ v, L[j]? = some (some v) ∧ w = ab_v ad v := by
  unfold ab_as
  rw [List.mem_filterMap]
  constructor
  · rintro ⟨k, -, h⟩
    split at h
    · rename_i v e
      cases h
      exact ⟨v, e, rfl⟩
    · cases h
  · rintro ⟨v, e, rfl⟩
    refine ⟨j, List.mem_range.mpr ?_, ?_⟩
    · exact (List.getElem?_eq_some_iff.mp e).1
    · rw [e]
def ab_Lr (ad : Nat → Nat) (L : ab_L) (ls : Array Slot) (nL : Nat) : Prop := L.length = nL ∧ lv_has ls nL (ab_as ad L)
theorem ab_Lr.at {ad : Nat → Nat} {L : ab_L} {ls : Array Slot} {nL i : Nat} {v : Value} (h : ab_Lr ad L ls nL) (hv : L[i]? = some (some v)) : ls[i]? = some (.val (ab_v ad v)) := h.2.2.2 (i, _) (ab_as_mem.mpr ⟨v, hv, rfl⟩)
theorem ab_Lr.forget {ad : Nat → Nat} {L L0 : ab_L} {ls : Array Slot} {nL : Nat} (hle : ab_le L0 L) (h : ab_Lr ad L ls nL) : ab_Lr ad L0 ls nL := by
  refine ⟨hle.1.trans h.1, h.2.1, h.2.2.1, fun q hq => ?_⟩
  obtain ⟨j, w⟩ := q
  obtain ⟨u, hu, rfl⟩ := ab_as_mem.mp hq
  exact h.at (hle.2 j u hu)
theorem ab_clr_len (L : ab_L) (i : Nat) : (ab_clr L i).length = L.length := by
  unfold ab_clr
  split
  · rfl
  · split
    · split
      · simp
      · rfl
    · rfl
theorem ab_clr_get {L : ab_L} {i j : Nat} {u : Value} (h : (ab_clr L i)[j]? = some (some u)) : L[j]? = some (some u) ∧ (j + 1 = i → u.category ≠ 2) := by
  unfold ab_clr at h
  split at h
  · exact ⟨h, fun e => by omega⟩
  · rename_i k
    split at h
    · rename_i w e
      split at h
      · rename_i hw
        rw [List.getElem?_set] at h
        split at h
        · split at h
          · cases h
          · cases h
        · rename_i hne
          exact ⟨h, fun e2 => absurd (by omega : k = j) hne⟩
      · rename_i hw
        refine ⟨h, fun e2 => ?_⟩
        have : j = k := by omega
        subst this
        rw [e] at h
        cases h
        exact hw
    · rename_i hno
      refine ⟨h, fun e2 => ?_⟩
      have : j = k := by omega
      subst this
      exact absurd h (hno u)
theorem ab_Lr.set1 {ad : Nat → Nat} {L : ab_L} {ls ls' : Array Slot} {nL i : Nat} {v : Value} (h : ab_Lr ad L ls nL) (hi : i < L.length)
    (h' : lv_has ls' nL ((i, ab_v ad v) :: (ab_as ad L).filter (fun q => !(q.1 == i) && !(q.1 + 1 == i && q.2.category == 2)))) : ab_Lr ad (ab_set1 L i v) ls' nL := by
  refine ⟨by unfold ab_set1; rw [List.length_set, ab_clr_len]; exact h.1, h'.1, h'.2.1, fun q hq => ?_⟩
  obtain ⟨j, w⟩ := q
  obtain ⟨u, hu, rfl⟩ := ab_as_mem.mp hq
  unfold ab_set1 at hu
  rw [List.getElem?_set] at hu
  split at hu
  · rename_i e
    subst e
    split at hu
    · cases hu
      exact h'.2.2 _ List.mem_cons_self
    · cases hu
  · rename_i e
    obtain ⟨h1, h2⟩ := ab_clr_get hu
    refine h'.2.2 _ (List.mem_cons_of_mem _ (List.mem_filter.mpr ⟨ab_as_mem.mpr ⟨u, h1, rfl⟩, ?_⟩))
    have e2 : ¬ j = i := fun z => e z.symm
    simp only [Bool.and_eq_true, Bool.not_eq_true', beq_eq_false_iff_ne, ne_eq, Bool.and_eq_false_iff]
    refine ⟨e2, ?_⟩
    by_cases z : j + 1 = i
    · exact Or.inr (by rw [ab_v_cat]; exact h2 z)
    · exact Or.inl z
theorem ab_Lr.set2 {ad : Nat → Nat} {L : ab_L} {ls ls' : Array Slot} {nL i : Nat} {v : Value} (h : ab_Lr ad L ls nL) (hi : i + 1 < L.length)
    (h' : lv_has ls' nL ((i, ab_v ad v) :: (ab_as ad L).filter (fun q => !(q.1 == i) && (!(q.1 == i + 1) && !(q.1 + 1 == i && q.2.category == 2))))) : ab_Lr ad (ab_set2 L i v) ls' nL := by
  refine ⟨by unfold ab_set2; rw [List.length_set, List.length_set, ab_clr_len]; exact h.1, h'.1, h'.2.1, fun q hq => ?_⟩
  obtain ⟨j, w⟩ := q
  obtain ⟨u, hu, rfl⟩ := ab_as_mem.mp hq
  unfold ab_set2 at hu
  rw [List.getElem?_set] at hu
  split at hu
  · split at hu
    · cases hu
    · cases hu
  · rename_i e1
    rw [List.getElem?_set] at hu
    split at hu
    · rename_i e
      subst e
      split at hu
      · cases hu
        exact h'.2.2 _ List.mem_cons_self
      · cases hu
    · rename_i e
      obtain ⟨h1, h2⟩ := ab_clr_get hu
      refine h'.2.2 _ (List.mem_cons_of_mem _ (List.mem_filter.mpr ⟨ab_as_mem.mpr ⟨u, h1, rfl⟩, ?_⟩))
      have e2 : ¬ j = i := fun z => e z.symm
      have e3 : ¬ j = i + 1 := fun z => e1 z.symm
      simp only [Bool.and_eq_true, Bool.not_eq_true', beq_eq_false_iff_ne, ne_eq, Bool.and_eq_false_iff]
      refine ⟨e2, e3, ?_⟩
      by_cases z : j + 1 = i
      · exact Or.inr (by rw [ab_v_cat]; exact h2 z)
      · exact Or.inl z
theorem ab_en_get (ad : Nat → Nat) (vs : List Value) : ∀ (i j : Nat) (u : Value), (ab_en vs)[j]? = some (some u) → (i + j, ab_v ad u) ∈ lv_args i (vs.map (ab_v ad)) := by
  induction vs with
  | nil => intro i j u h; simp [ab_en] at h
  | cons v vs ih =>
    intro i j u h
    simp only [List.map_cons, lv_args, ab_v_cat]
    unfold ab_en at h
    by_cases hc : v.category = 2
    · rw [if_pos hc] at h
      rw [if_pos hc]
      match j, h with
      | 0, h => simp at h; subst h; exact List.mem_cons_self
      | 1, h => simp at h
      | j + 2, h =>
        have := ih (i + 2) j u (by simpa using h)
        rw [show i + (j + 2) = i + 2 + j by omega]
        exact List.mem_cons_of_mem _ this
    · rw [if_neg hc] at h
      rw [if_neg hc]
      match j, h with
      | 0, h => simp at h; subst h; exact List.mem_cons_self
      | j + 1, h =>
        have := ih (i + 1) j u (by simpa using h)
        rw [show i + (j + 1) = i + 1 + j by omega]
        exact List.mem_cons_of_mem _ this
theorem ab_en_len (ad : Nat → Nat) (vs : List Value) : (lg_sl (vs.map (ab_v ad))).length = (ab_en vs).length := by
  induction vs with
  | nil => rfl
  | cons v vs ih =>
    unfold ab_en
    unfold lg_sl at ih ⊢
    simp only [List.map_cons, List.flatMap_cons, List.length_append, ab_v_cat, ih]
    by_cases hc : v.category = 2
    · simp [hc]; omega
    · simp [hc]; omega
theorem ab_Lr.entry {ad : Nat → Nat} {vs : List Value} {ls : Array Slot} {n : Nat} (hn : (ab_en vs).length ≤ n) (h : lv_has ls n (lv_args 0 (vs.map (ab_v ad)))) : ab_Lr ad (ab_en vs ++ List.replicate (n - (ab_en vs).length) none) ls n := by
  refine ⟨by simp; omega, h.1, h.2.1, fun q hq => ?_⟩
  obtain ⟨j, w⟩ := q
  obtain ⟨u, hu, rfl⟩ := ab_as_mem.mp hq
  rw [List.getElem?_append] at hu
  split at hu
  · have := ab_en_get ad vs 0 j u hu
    rw [Nat.zero_add] at this
    exact h.2.2 _ this
  · rw [List.getElem?_replicate] at hu
    split at hu <;> cases hu
def ab_fs (ad : Nat → Nat) (f : Nat → Int32) : Nat → List (Option Nat) → List Value
  | _, [] => []
  | j, some r :: t => .ref (ad r) :: ab_fs ad f (j + 1) t
  | j, none :: t => .int (f j) :: ab_fs ad f (j + 1) t
theorem ab_fs_ref {ad : Nat → Nat} {f : Nat → Int32} {fl : List (Option Nat)} : ∀ {j k r : Nat}, fl[k]? = some (some r) → (ab_fs ad f j fl)[k]? = some (.ref (ad r)) := by
  induction fl with
  | nil => intro j k r h; simp at h
  | cons o t ih =>
    intro j k r h
    match k, h with
    | 0, h => simp at h; subst h; simp [ab_fs]
    | k + 1, h =>
      have := ih (j := j + 1) (k := k) (r := r) (by simpa using h)
      cases o <;> simpa [ab_fs] using this
theorem ab_fs_int {ad : Nat → Nat} {f : Nat → Int32} {fl : List (Option Nat)} : ∀ {j k : Nat}, fl[k]? = some none → (ab_fs ad f j fl)[k]? = some (.int (f (j + k))) := by
  induction fl with
  | nil => intro j k h; simp at h
  | cons o t ih =>
    intro j k h
    match k, h with
    | 0, h => simp at h; subst h; simp [ab_fs]
    | k + 1, h =>
      have := ih (j := j + 1) (k := k) (by simpa using h)
      rw [show j + (k + 1) = j + 1 + k by omega]
      cases o <;> simpa [ab_fs] using this
theorem ab_fs_off {ad : Nat → Nat} {f g : Nat → Int32} {fl : List (Option Nat)} : ∀ {j : Nat}, (∀ k, j ≤ k → f k = g k) → ab_fs ad f j fl = ab_fs ad g j fl := by
  induction fl with
  | nil => intro j h; rfl
  | cons o t ih =>
    intro j h
    have := ih (j := j + 1) (fun k hk => h k (by omega))
    cases o
    · simp [ab_fs, this, h j (Nat.le_refl j)]
    · simp [ab_fs, this]
theorem ab_fs_set {ad : Nat → Nat} {x : Int32} {fl : List (Option Nat)} : ∀ {f : Nat → Int32} {j k : Nat}, fl[k]? = some none → (ab_fs ad f j fl).set k (.int x) = ab_fs ad (upd f (j + k) x) j fl := by
  induction fl with
  | nil => intro f j k h; simp at h
  | cons o t ih =>
    intro f j k h
    match k, h with
    | 0, h =>
      simp at h
      subst h
      have e : ab_fs ad f (j + 1) t = ab_fs ad (upd f j x) (j + 1) t := ab_fs_off (fun k hk => by unfold upd; rw [if_neg (by omega)])
      simp [ab_fs, e, upd]
    | k + 1, h =>
      have := ih (f := f) (j := j + 1) (k := k) (by simpa using h)
      rw [show j + (k + 1) = j + 1 + k by omega]
      cases o
      · have e : upd f (j + 1 + k) x j = f j := by unfold upd; rw [if_neg (by omega)]
        simp [ab_fs, this, e]
      · simp [ab_fs, this]
theorem ab_fs_len {ad : Nat → Nat} {f : Nat → Int32} {fl : List (Option Nat)} : ∀ {j : Nat}, (ab_fs ad f j fl).length = fl.length := by
  induction fl with
  | nil => intro j; rfl
  | cons o t ih => intro j; cases o <;> simp [ab_fs, ih]
def ab_cell (sh : ab_Sh) (ad : Nat → Nat) (dA : Nat → ClassId) (S : ab_S) (k : Nat) : va_E := match sh k with
  | .inl (t, n) => .inl (dA t, n, if t = 2 then .inr (.inl (S.2 k)) else .inl (S.1 k))
  | .inr (ci, fl) => .inr (ci, ab_fs ad (S.1 k) 0 fl)
def ab_W (sh : ab_Sh) (N : Nat) (ad : Nat → Nat) (dA : Nat → ClassId) (S : ab_S) : va_W := (List.range N).map fun k => (ad k, ab_cell sh ad dA S k)
theorem ab_W_get {sh : ab_Sh} {N : Nat} {ad : Nat → Nat} {dA : Nat → ClassId} {S : ab_S} {k : Nat} (hk : k < N) : (ab_W sh N ad dA S)[k]? = some (ad k, ab_cell sh ad dA S k) := by
  simp [ab_W, hk]
theorem ab_W_some {sh : ab_Sh} {N : Nat} {ad : Nat → Nat} {dA : Nat → ClassId} {S : ab_S} {k : Nat} {q : Nat × va_E} (h : (ab_W sh N ad dA S)[k]? = some q) : k < N ∧ q = (ad k, ab_cell sh ad dA S k) := by
  have hk : k < N := by
    have := (List.getElem?_eq_some_iff.mp h).1
    simpa [ab_W] using this
  rw [ab_W_get hk] at h
  cases h
  exact ⟨hk, rfl⟩
theorem ab_W_set {sh : ab_Sh} {N : Nat} {ad : Nat → Nat} {dA : Nat → ClassId} {S S' : ab_S} {q : Nat} {E : va_E} (hq : q < N) (e : ab_cell sh ad dA S' q = E) (o : ∀ k, k ≠ q → ab_cell sh ad dA S' k = ab_cell sh ad dA S k) : (ab_W sh N ad dA S).set q (ad q, E) = ab_W sh N ad dA S' := by
  apply List.ext_getElem?
  intro k
  rw [List.getElem?_set]
  by_cases hk : k < N
  · split
    · rename_i h
      subst h
      split
      · rw [ab_W_get hk, e]
      · rename_i h2
        exact absurd (by simpa [ab_W] using hq) h2
    · rename_i h
      rw [ab_W_get hk, ab_W_get hk, o k (fun z => h z.symm)]
  · have h1 : (ab_W sh N ad dA S')[k]? = none := by simp [ab_W]; omega
    have h2 : (ab_W sh N ad dA S)[k]? = none := by simp [ab_W]; omega
    rw [h1]
    split
    · omega
    · exact h2
/-- the cells' own addresses -/
def ab_A (N : Nat) (ad : Nat → Nat) : Nat → Prop := fun q => ∃ k, k < N ∧ q = ad k
theorem ab_D {sh : ab_Sh} {N : Nat} {ad : Nat → Nat} {dA : Nat → ClassId} {S : ab_S} (hinj : ∀ i j, i < N → j < N → ad i = ad j → i = j) : va_D (ab_A N ad) (ab_W sh N ad dA S) := by
  refine ⟨fun i j p q hi hj e => ?_, fun k q hk => ?_⟩
  · obtain ⟨h1, rfl⟩ := ab_W_some hi
    obtain ⟨h2, rfl⟩ := ab_W_some hj
    exact hinj i j h1 h2 e
  · obtain ⟨h1, rfl⟩ := ab_W_some hk
    exact ⟨k, h1, rfl⟩
theorem ab_cell_pI {sh : ab_Sh} {ad : Nat → Nat} {dA : Nat → ClassId} {S : ab_S} {q k : Nat} {f : Nat → Int32} (h : k ≠ q) : ab_cell sh ad dA (ab_pI S q f) k = ab_cell sh ad dA S k := by
  simp [ab_cell, ab_pI, h]
theorem ab_cell_pL {sh : ab_Sh} {ad : Nat → Nat} {dA : Nat → ClassId} {S : ab_S} {q k : Nat} {f : Nat → Int64} (h : k ≠ q) : ab_cell sh ad dA (ab_pL S q f) k = ab_cell sh ad dA S k := by
  simp [ab_cell, ab_pL, h]
theorem ab_cell_arr {sh : ab_Sh} {ad : Nat → Nat} {dA : Nat → ClassId} {S : ab_S} {q t n : Nat} (h : sh q = .inl (t, n)) (ht : t ≠ 2) : ab_cell sh ad dA S q = .inl (dA t, n, .inl (S.1 q)) := by
  simp [ab_cell, h, ht]
theorem ab_cell_arrL {sh : ab_Sh} {ad : Nat → Nat} {dA : Nat → ClassId} {S : ab_S} {q n : Nat} (h : sh q = .inl (2, n)) : ab_cell sh ad dA S q = .inl (dA 2, n, .inr (.inl (S.2 q))) := by
  simp [ab_cell, h]
theorem ab_cell_obj {sh : ab_Sh} {ad : Nat → Nat} {dA : Nat → ClassId} {S : ab_S} {q ci : Nat} {fl : List (Option Nat)} (h : sh q = .inr (ci, fl)) : ab_cell sh ad dA S q = .inr (ci, ab_fs ad (S.1 q) 0 fl) := by
  simp [ab_cell, h]
theorem ab_pI_at (S : ab_S) (q : Nat) (f : Nat → Int32) : (ab_pI S q f).1 q = f := by simp [ab_pI]
theorem ab_pL_at (S : ab_S) (q : Nat) (f : Nat → Int64) : (ab_pL S q f).2 q = f := by simp [ab_pL]
