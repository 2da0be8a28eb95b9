/-! ===== every call keeps it ===== -/
theorem ff_ne {l : List Nat} {f g : Nat → Int} (h : ∀ j, j ∉ l → g j = f j) : ff l f g := h
/-- a call of the book -/
theorem IV_b {k : Nat} {A C : iz_A} (h : IV k A) (f : fr [1, 2, 3, 4, 55, 56, 57, 58] A C) (g : ff [1, 3, 5] (A.1 55) (C.1 55)) (hb : InvB C) : IV (k + 1) C := by
  refine ⟨⟨hb, invQ_k h.1.2.1 f (by decide) g (by decide), spR_k h.1.2.2.1 f (by decide) g (by decide), anR_k h.1.2.2.2 f (by decide) g (by decide)⟩, ?_⟩
  rcases h.2 with y | ⟨x, y⟩
  · exact Or.inl (notB_k y f (by decide) g (by decide))
  · exact Or.inr ⟨x, IB_k y f (by decide) g (by decide)⟩
theorem p_feed : Sp_feed IV := fun k A a1 a2 a3 a4 a5 _ h r1 r2 r3 r4 r5 => b_feed ⟨r1, r2, r3, r4, r5⟩ h.1.1 fun B f _ g hb => IV_b h (fr_mo f (by decide)) (fun j hj => g j (fun e => hj (by rw [e]; decide))) hb
theorem p_end : Sp_end IV := fun k A a1 _ h r1 => b_end r1 h.1.1 fun B f _ g hb => IV_b h (fr_mo f (by decide)) (fun j hj => g j (fun e => hj (by rw [e]; decide))) hb
theorem p_cut : Sp_cut IV := fun k A _ h => b_cut h.1.1 fun B f _ g hb => IV_b h (fr_mo f (by decide)) (fun j hj => g j (fun e => hj (by rw [e]; decide)) (fun e => hj (by rw [e]; decide)) (fun e => hj (by rw [e]; decide))) hb
theorem p_clear : Sp_clear IV := fun k A _ h => b_clear h.1.1 fun B f _ g hb => IV_b h (fr_mo f (by decide)) (fun j hj => g j (fun e => hj (by rw [e]; decide)) (fun e => hj (by rw [e]; decide)) (fun e => hj (by rw [e]; decide))) hb
theorem stR_up {k j : Nat} {A : iz_A} (h : StR k A) (hj : k ≤ j) : StR j A := by
  obtain ⟨rt, st, s1, s2, s3, s4⟩ := h
  exact ⟨rt, st, s1, s2, (by omega), s4⟩
theorem p_build : Sp_build IV := fun k A a1 _ h r1 => by
  refine b_build h.1.1 ?_ (IV_m h) fun C x f g g20 g30 c20 c30 hx hh hst hch hls her hrc n29 n32 n33 n71 => ?_
  · rcases h.2 with y | ⟨x, y⟩
    · exact ⟨0, y.2.2.2.2.1⟩
    · obtain ⟨p, len, lo, hi, dn, -, -, -, hX, -⟩ := y.2.1
      exact ⟨dn, hX.1⟩
  · refine ⟨⟨invB_k h.1.1 f (by decide) g (by decide), invQ_k h.1.2.1 f (by decide) g (by decide), spR_k h.1.2.2.1 f (by decide) g (by decide), ⟨0, (by omega), by rw [c30]; rfl, n33, fun _ => rfl, fun k hk => by omega⟩⟩, Or.inr ⟨x, hx, hh, ⟨0, c20, n29, (by omega), fun j hj => by omega⟩, stR_up hst (Nat.zero_le _), hch, hls, her, hrc, Or.inl n71⟩⟩
/-- a call that tells a place -/
theorem IV_t {k : Nat} {x : Ix} {A C : iz_A} (h : IV k A) (hb : IB k x A) (f : fr [5, 55] A C) (g5 : ff [11] (A.1 5) (C.1 5)) (g : ff [10] (A.1 55) (C.1 55)) (hs : StR (k + 1) C) : IV (k + 1) C := by
  refine ⟨IA_k h.1 f (by decide) g (by decide), Or.inr ⟨x, ?_⟩⟩
  obtain ⟨a1, a2, a3, a4, a5, a6, a7, a8, a9⟩ := hb
  obtain ⟨b5, b6, b7, b8⟩ := bl_k ⟨a5, a6, a7, a8⟩ f (by decide)
  exact ⟨⟨a1.1, a1.2.1, a1.2.2.1, XI_k5 a1.2.2.2.1 f (by decide) g5 (by decide), MI_k a1.2.2.2.2 f (by decide) g (by decide)⟩, hr_k a2 f (by decide) g (by decide), nr_k a3 f (by decide) g (by decide), hs, b5, b6, b7, b8, fcR_k a9 f (by decide) g (by decide)⟩
theorem p_place : Sp_place IV := fun k A a1 hk h r1 => by
  obtain ⟨x, hx, hb⟩ := IV_x h
  exact b_place hk (hx.elim Or.inl (fun y => Or.inr ⟨y.1, y.2.2.2.1⟩)) (IV_m h) fun hm C f g5 g hs => IV_t h (hb hm) f g5 g hs
theorem p_at : Sp_at IV := fun k A a1 hk h r1 => by
  obtain ⟨x, hx, hb⟩ := IV_x h
  exact b_at hk (hx.elim Or.inl (fun y => Or.inr ⟨y.1, y.2.1, y.2.2.2.1⟩)) (IV_m h) fun hm C f g5 g hs => IV_t h (hb hm) f g5 g hs
theorem p_row : Sp_row IV := fun k A a1 _ h _ => b_row (IV_i h) (IV_m h)
theorem p_shared : Sp_shared IV := fun k A a1 _ h _ => b_shared (IV_i h) (IV_m h)
theorem p_before : Sp_before IV := fun k A a1 _ h _ => b_before (IV_i h) (IV_m h)
theorem p_step : Sp_step IV := fun k A a1 _ h _ => b_step (IV_i h) (IV_m h)
theorem p_rank : Sp_rank IV := fun k A a1 a2 _ h _ _ => b_rank (IV_i h) (IV_m h)
theorem p_select : Sp_select IV := fun k A a1 a2 _ h _ r2 => b_select r2 (IV_i h) (IV_m h)
theorem p_byteAt : Sp_byteAt IV := fun k A a1 _ h _ => b_byteAt (IV_i h) (IV_m h)
theorem p_document : Sp_document IV := fun k A a1 a2 _ h _ _ => b_document (IV_i h) (IV_m h)
theorem p_alike : Sp_alike IV := fun k A a1 a2 _ h _ _ => b_alike (IV_i h) (IV_m h)
theorem p_begin : Sp_begin IV := fun k A _ h => by
  obtain ⟨x, hx, hb⟩ := IV_x h
  exact b_begin (IV_h hx) (IV_m h) fun hm C f g hr => IV_H h (hb hm) (fr_mo f (by decide)) g hr
theorem p_grow : Sp_grow IV := fun k A a1 _ h _ => by
  obtain ⟨x, hx, hb⟩ := IV_x h
  exact b_grow (IV_h hx) (IV_m h) fun hm C f g hr => IV_H h (hb hm) (fr_mo f (by decide)) g hr
theorem p_front : Sp_front IV := fun k A a1 _ h _ => by
  obtain ⟨x, hx, hb⟩ := IV_x h
  exact b_front (IV_h hx) (IV_m h) fun hm C f g hr => IV_H h (hb hm) (fr_mo f (by decide)) g hr
theorem p_back : Sp_back IV := fun k A _ h => by
  obtain ⟨x, hx, hb⟩ := IV_x h
  exact b_back (IV_h hx) (IV_m h) fun hm C f g hr => IV_H h (hb hm) (fr_mo f (by decide)) g hr
theorem p_pattern : Sp_pattern IV := fun k A a1 _ h _ => by
  obtain ⟨x, hx, hb⟩ := IV_x h
  exact b_pattern (IV_h hx) (IV_m h)
theorem p_patternByte : Sp_patternByte IV := fun k A a1 _ h _ => by
  obtain ⟨x, hx, hb⟩ := IV_x h
  exact b_patternByte (IV_h hx) (IV_m h)
theorem p_sorted : Sp_sorted IV := fun k A a1 _ h r1 => by
  obtain ⟨x, hx, hb⟩ := IV_x h
  exact b_sorted r1 (IV_h hx) (IV_m h)
theorem p_more : Sp_more IV := fun k A a1 a2 _ h r1 _ => by
  obtain ⟨x, hx, hb⟩ := IV_x h
  exact b_more r1 (IV_h hx) (IV_m h) fun hm C f => IV_X h (fr_mo f (by decide))
theorem p_ranked : Sp_ranked IV := fun k A a1 _ h _ => by
  obtain ⟨x, hx, hb⟩ := IV_x h
  exact b_ranked (IV_h hx) (IV_m h) fun hm C f => IV_X h (fr_mo f (by decide))
theorem p_times : Sp_times IV := fun k A a1 _ h _ => by
  obtain ⟨x, hx, hb⟩ := IV_x h
  exact b_times (IV_h hx) (IV_m h) fun hm C f => IV_X h (fr_mo f (by decide))
theorem p_take : Sp_take IV := fun k A a1 a2 _ h _ _ => by
  obtain ⟨x, hx, hb⟩ := IV_x h
  exact b_take (IV_h hx) (IV_m h) fun hm C f g hr => IV_H h (hb hm) (fr_mo f (by decide)) g hr
theorem p_near : Sp_near IV := fun k A a1 _ h _ => by
  obtain ⟨x, hx, hb⟩ := IV_x h
  refine b_near (IV_h hx) (IV_m h) fun hm C f g hn => ⟨IA_k h.1 f (by decide) g (by decide), Or.inr ⟨x, ?_⟩⟩
  obtain ⟨a1, a2, a3, a4, a5, a6, a7, a8, a9⟩ := hb hm
  obtain ⟨b5, b6, b7, b8⟩ := bl_k ⟨a5, a6, a7, a8⟩ f (by decide)
  exact ⟨xm_k a1 f (by decide) g (by decide), hr_k a2 f (by decide) g (by decide), hn, stR_k a4 f (by decide) g (by decide), b5, b6, b7, b8, fcR_k a9 f (by decide) g (by decide)⟩
theorem p_nearOf : Sp_nearOf IV := fun k A a1 a2 _ h _ _ => by
  obtain ⟨x, hx, hb⟩ := IV_x h
  exact b_nearOf (hx.elim Or.inl (fun y => Or.inr ⟨y.1, y.2.2.1⟩)) (IV_m h)
theorem p_ask : Sp_ask IV := fun k A a1 _ h _ => by
  refine b_ask h.1.2.1 (IV_m h) fun C f _ g hq => ⟨⟨invB_k h.1.1 f (by decide) g (by decide), hq, spR_k h.1.2.2.1 f (by decide) g (by decide), anR_k h.1.2.2.2 f (by decide) g (by decide)⟩, ?_⟩
  rcases h.2 with y | ⟨x, y⟩
  · exact Or.inl (notB_k y f (by decide) g (by decide))
  · exact Or.inr ⟨x, IB_k y f (by decide) g (by decide)⟩
theorem p_answered : Sp_answered IV := fun k A a1 a2 _ h r1 _ => by
  obtain ⟨x, hx, hb⟩ := IV_x h
  exact b_answered r1 (hx.elim Or.inl (fun y => Or.inr ⟨y.1, trivial⟩)) h.1.2.2.2 (IV_m h)
theorem p_different : Sp_different IV := fun k A a1 _ h _ => b_different (IV_i h) (IV_m h)
theorem p_kth : Sp_kth IV := fun k A a1 _ h r1 => by
  obtain ⟨x, hx, hb⟩ := IV_x h
  exact b_kth r1 (IV_h hx) (IV_m h) fun hm C f g hr => IV_H h (hb hm) (fr_mo f (by decide)) g hr
theorem p_order : Sp_order IV := fun k A _ h => by
  obtain ⟨x, hx, hb⟩ := IV_x h
  exact b_order (IV_h hx) (IV_m h)
theorem p_repeated : Sp_repeated IV := fun k A a1 _ h r1 => by
  obtain ⟨x, hx, hb⟩ := IV_x h
  exact b_repeated r1 (IV_h hx) (IV_m h) (fun hm C f => IV_X h (fr_mo f (by decide))) fun hm C f g hr => IV_H h (hb hm) (fr_mo f (by decide)) g hr
theorem p_common : Sp_common IV := fun k A a1 _ h _ => by
  obtain ⟨x, hx, hb⟩ := IV_x h
  exact b_common (IV_h hx) (IV_m h) (fun hm C f => IV_X h (fr_mo f (by decide))) fun hm C f g hr => IV_H h (hb hm) (fr_mo f (by decide)) g hr
theorem p_oftenest : Sp_oftenest IV := fun k A a1 _ h _ => by
  obtain ⟨x, hx, hb⟩ := IV_x h
  exact b_oftenest (IV_h hx) (IV_m h) fun hm C f g hr => IV_H h (hb hm) (fr_mo f (by decide)) g hr
theorem p_unique : Sp_unique IV := fun k A a1 _ h _ => b_unique (IV_i h) (IV_m h)
theorem p_maximal : Sp_maximal IV := fun k A a1 _ h r1 => by
  obtain ⟨x, hx, hb⟩ := IV_x h
  exact b_maximal r1 (hx.elim Or.inl (fun y => Or.inr ⟨y.1, y.2.1, y.2.2.2.2.2.1, y.2.2.2.2.1⟩)) (IV_m h) (fun hm C f => IV_X h (fr_mo f (by decide))) fun hm C f g hr => IV_H h (hb hm) (fr_mo f (by decide)) g hr
theorem p_absent : Sp_absent IV := fun k A a1 hk h r1 => by
  obtain ⟨x, hx, hb⟩ := IV_x h
  refine b_absent hk r1 h.1.2.2.1 (hx.elim Or.inl (fun y => Or.inr ⟨y.1, trivial⟩)) (IV_m h) fun hm C f g hs => ⟨⟨invB_k h.1.1 f (by decide) g (by decide), invQ_k h.1.2.1 f (by decide) g (by decide), hs, anR_k h.1.2.2.2 f (by decide) g (by decide)⟩, Or.inr ⟨x, IB_k (hb hm) f (by decide) g (by decide)⟩⟩
theorem p_factor : Sp_factor IV := fun k A a1 a2 a3 _ h _ r2 _ => by
  obtain ⟨x, hx, hb⟩ := IV_x h
  refine b_factor r2 (hx.elim Or.inl (fun y => Or.inr ⟨y.1, y.2.2.2.2.2.2.1, y.2.2.2.2.2.2.2.2⟩)) (IV_m h) fun hm C f g hc => ⟨IA_k h.1 f (by decide) g (by decide), Or.inr ⟨x, ?_⟩⟩
  obtain ⟨a1, a2, a3, a4, a5, a6, a7, a8, a9⟩ := hb hm
  obtain ⟨b5, b6, b7, b8⟩ := bl_k ⟨a5, a6, a7, a8⟩ f (by decide)
  exact ⟨xm_k a1 f (by decide) g (by decide), hr_k a2 f (by decide) g (by decide), nr_k a3 f (by decide) g (by decide), stR_k a4 f (by decide) g (by decide), b5, b6, b7, b8, hc⟩
theorem p_word : Sp_word IV := fun k A a1 a2 _ h _ _ => b_word (IV_i h) (IV_m h)
theorem p_square : Sp_square IV := fun k A a1 _ h _ => b_square (IV_i h) (IV_m h)
theorem p_mirror : Sp_mirror IV := fun k A a1 _ h _ => by
  obtain ⟨x, hx, hb⟩ := IV_x h
  exact b_mirror (hx.elim Or.inl (fun y => Or.inr ⟨y.1, y.2.2.2.2.2.2.2.1⟩)) (IV_m h)
theorem p_match : Sp_match IV := fun k A a1 a2 _ h _ _ => b_match (IV_i h) (IV_m h)
theorem p_count : Sp_count IV := fun k A a1 _ h _ => by
  obtain ⟨D, hh, F, q1, q2, q3, q4, q5, q6, -⟩ := id h.1.1
  obtain ⟨n, n1, n2, n3, -⟩ := id h.1.2.1
  refine b_count (by rw [q3, q4]) (by rw [q5, q6]) (by rw [n2, n3]) ?_ (IV_m h)
  rcases h.2 with y | ⟨x, y⟩
  · exact Or.inl y
  · exact Or.inr ⟨x, k, y.1, y.2.2.2.1, y.2.2.2.2.1⟩
theorem p_unwound : Sp_unwound IV := fun k A a1 a2 _ h _ _ => b_unwound (IV_i h) (IV_m h)
