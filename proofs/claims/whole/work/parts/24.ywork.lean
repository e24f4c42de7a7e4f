section YWK
theorem sg_absy {x y : Int32} (hx : 0 ≤ x.toInt ∧ x.toInt ≤ 1000) (hy : -100000 ≤ y.toInt ∧ y.toInt ≤ 100000) :
    (0 ≤ y - x → y - x = nI ((y.toInt - x.toInt).natAbs)) ∧ (¬ 0 ≤ y - x → -(y - x) = nI ((y.toInt - x.toInt).natAbs)) := by
  have e : y - x = ii_I (y.toInt - x.toInt) := by rw [← ii_sub, ii_t, ii_t]
  have l : 0 ≤ ii_I (y.toInt - x.toInt) ↔ 0 ≤ y.toInt - x.toInt := ii_le (a := 0) (by unfold ii_R; omega) (by unfold ii_R; omega)
  rw [e, l, ii_n]
  constructor
  · intro h; rw [Int.natAbs_of_nonneg h]
  · intro h
    rw [ii_neg]
    congr 1
    omega
section
variable {f_lines f_fastest f_gain f_bend f_ahead f_speed f_seen f_state f_line f_pace f_left f_went f_allSteps f_allTicks f_u f_v f_holds : Int32} {a_letters a_values a_many a_tool a_began a_limit a_trips a_force a_origins a_here a_has a_grouped a_word a_from a_to a_steps a_paces a_dwells a_ends a_turn a_first a_second a_centre a_direction : Nat → Int32}
theorem yw_s1 {post : Int32 → SY → Prop} {n a f m : Nat} {fr to : Nat → Int32} {s0 : Nat → Int32} (hn : n < 30) (ha : a < 3) (hm : m ≤ 101000) (hf : a_from (3 * n + a) = fr a) (ht : a_to (3 * n + a) = to a)
    (rf : 0 ≤ (fr a).toInt ∧ (fr a).toInt ≤ 1000) (rt : -100000 ≤ (to a).toInt ∧ (to a).toInt ≤ 100000) (hS : a_steps n = nI m) (hS0 : ∀ k, k ≠ n → a_steps k = s0 k)
    (h6 : sg_ou a_limit to a = true → ∀ S, post 6 (f_lines, f_fastest, f_gain, f_bend, f_ahead, f_speed, f_seen, f_state, f_line, f_pace, f_left, f_went, f_allSteps, f_allTicks, f_u, f_v, f_holds, a_letters, a_values, a_many, a_tool, a_began, a_limit, a_trips, a_force, a_origins, a_here, a_has, a_grouped, a_word, a_from, a_to, S, a_paces, a_dwells, a_ends, a_turn, a_first, a_second, a_centre, a_direction))
    (h : sg_ou a_limit to a = false → ∀ S, S n = nI (max m (sg_dd fr to a)) → (∀ k, k ≠ n → S k = s0 k) → wY_straight_2 post (nI n) f_lines f_fastest f_gain f_bend f_ahead f_speed f_seen f_state f_line f_pace f_left f_went f_allSteps f_allTicks f_u f_v f_holds f (nI (a + 1)) a_letters a_values a_many a_tool a_began a_limit a_trips a_force a_origins a_here a_has a_grouped a_word a_from a_to S a_paces a_dwells a_ends a_turn a_first a_second a_centre a_direction) :
    wY_straight_2 post (nI n) f_lines f_fastest f_gain f_bend f_ahead f_speed f_seen f_state f_line f_pace f_left f_went f_allSteps f_allTicks f_u f_v f_holds (f + 1) (nI a) a_letters a_values a_many a_tool a_began a_limit a_trips a_force a_origins a_here a_has a_grouped a_word a_from a_to a_steps a_paces a_dwells a_ends a_turn a_first a_second a_centre a_direction := by
  have i30 : vp_in (nI n) 30 := vp_in_nI hn (by omega)
  have cl : (nI n).toNatClampNeg = n := nI_clamp (by omega)
  have bd : sg_dd fr to a ≤ 101000 := by unfold sg_dd; omega
  refine br_f (ix_3a ha) ?_
  rw [ix_y3, nI_clamp (show 3 * n + a < 2 ^ 31 by omega), hf, ht]
  have g53 : ∀ S, S n = nI (max m (sg_dd fr to a)) → (∀ k, k ≠ n → S k = s0 k) → wY_straight_53 post (wY_straight_2 post (nI n) f_lines f_fastest f_gain f_bend f_ahead f_speed f_seen f_state f_line f_pace f_left f_went f_allSteps f_allTicks f_u f_v f_holds f) (nI n) (nI a) f_lines f_fastest f_gain f_bend f_ahead f_speed f_seen f_state f_line f_pace f_left f_went f_allSteps f_allTicks f_u f_v f_holds a_letters a_values a_many a_tool a_began a_limit a_trips a_force a_origins a_here a_has a_grouped a_word a_from a_to S a_paces a_dwells a_ends a_turn a_first a_second a_centre a_direction := by
    intro S e1 e2
    unfold wY_straight_53
    rw [ix_y3, nI_clamp (show 3 * n + a < 2 ^ 31 by omega), nI_clamp (show a < 2 ^ 31 by omega), ht]
    refine ⟨vp_in_nI (by omega) (by omega), vp_in_nI ha (by omega), yl_in (fun z1 z2 => br_f (by decide) (nm_r (nI_1 a) (h (decide_eq_false ?_) S e1 e2))) (fun z => br_t rfl (h6 (decide_eq_true ?_) S))⟩
    · rw [fc_le, fc_0] at z1; rw [fc_le] at z2; omega
    · rw [fc_le, fc_0, fc_le] at z; omega
  have g36 : ∀ z, z = nI (sg_dd fr to a) → wY_straight_36 post (wY_straight_2 post (nI n) f_lines f_fastest f_gain f_bend f_ahead f_speed f_seen f_state f_line f_pace f_left f_went f_allSteps f_allTicks f_u f_v f_holds f) (nI n) (nI a) z f_lines f_fastest f_gain f_bend f_ahead f_speed f_seen f_state f_line f_pace f_left f_went f_allSteps f_allTicks f_u f_v f_holds a_letters a_values a_many a_tool a_began a_limit a_trips a_force a_origins a_here a_has a_grouped a_word a_from a_to a_steps a_paces a_dwells a_ends a_turn a_first a_second a_centre a_direction := by
    intro z ez
    subst ez
    unfold wY_straight_36
    rw [cl, hS]
    refine ⟨i30, br_c (fun c => g53 a_steps ?_ hS0) (fun c => ⟨i30, nm_e (g53 _ ?_ (fun k hk => (pk_un hk).trans (hS0 k hk)))⟩)⟩
    · rw [nI_leI (by omega) (by omega)] at c
      rw [hS, Nat.max_eq_left c]
    · rw [nI_leI (by omega) (by omega)] at c
      rw [pk_us, Nat.max_eq_right (by omega)]
  refine ⟨vp_in_nI (by omega) (by omega), vp_in_nI (by omega) (by omega), nm_e (br_c (fun c => g36 _ ((sg_absy rf rt).1 c)) (fun c => nm_e (g36 _ ((sg_absy rf rt).2 c))))⟩
theorem yw_st {post : Int32 → SY → Prop} {n : Nat} {fr to : Nat → Int32} (hn : n < 30) (hf : ∀ a, a < 3 → a_from (3 * n + a) = fr a) (ht : ∀ a, a < 3 → a_to (3 * n + a) = to a)
    (rf : ∀ a, a < 3 → 0 ≤ (fr a).toInt ∧ (fr a).toInt ≤ 1000) (rt : ∀ a, a < 3 → -100000 ≤ (to a).toInt ∧ (to a).toInt ≤ 100000) (hS : a_steps n = 0)
    (h6 : sg_out a_limit to = true → ∀ S, post 6 (f_lines, f_fastest, f_gain, f_bend, f_ahead, f_speed, f_seen, f_state, f_line, f_pace, f_left, f_went, f_allSteps, f_allTicks, f_u, f_v, f_holds, a_letters, a_values, a_many, a_tool, a_began, a_limit, a_trips, a_force, a_origins, a_here, a_has, a_grouped, a_word, a_from, a_to, S, a_paces, a_dwells, a_ends, a_turn, a_first, a_second, a_centre, a_direction))
    (h0 : sg_out a_limit to = false → ∀ S, S n = nI (sg_mx fr to) → (∀ k, k ≠ n → S k = a_steps k) → post 0 (f_lines, f_fastest, f_gain, f_bend, f_ahead, f_speed, f_seen, f_state, f_line, f_pace, f_left, f_went, f_allSteps, f_allTicks, f_u, f_v, f_holds, a_letters, a_values, a_many, a_tool, a_began, a_limit, a_trips, a_force, a_origins, a_here, a_has, a_grouped, a_word, a_from, a_to, S, a_paces, a_dwells, a_ends, a_turn, a_first, a_second, a_centre, a_direction)) :
    wpY_straight post (f_lines, f_fastest, f_gain, f_bend, f_ahead, f_speed, f_seen, f_state, f_line, f_pace, f_left, f_went, f_allSteps, f_allTicks, f_u, f_v, f_holds, a_letters, a_values, a_many, a_tool, a_began, a_limit, a_trips, a_force, a_origins, a_here, a_has, a_grouped, a_word, a_from, a_to, a_steps, a_paces, a_dwells, a_ends, a_turn, a_first, a_second, a_centre, a_direction) (nI n) := by
  unfold sg_out at h6 h0
  have bd : ∀ a, a < 3 → sg_dd fr to a ≤ 101000 := by
    intro a ha
    have := rf a ha
    have := rt a ha
    unfold sg_dd; omega
  have b0 := bd 0 (by decide)
  have b1 := bd 1 (by decide)
  refine ⟨4, yw_s1 (a := 0) (m := 0) (s0 := a_steps) hn (by decide) (by omega) (hf 0 (by decide)) (ht 0 (by decide)) (rf 0 (by decide)) (rt 0 (by decide)) hS (fun _ _ => rfl) (fun e => h6 (by rw [e]; rfl)) (fun e0 S0 s1 s2 => ?_)⟩
  rw [Nat.max_eq_right (Nat.zero_le _)] at s1
  refine yw_s1 (a := 1) hn (by decide) b0 (hf 1 (by decide)) (ht 1 (by decide)) (rf 1 (by decide)) (rt 1 (by decide)) s1 s2 (fun e => h6 (by rw [e, e0]; rfl)) (fun e1 S1 s3 s4 => ?_)
  refine yw_s1 (a := 2) hn (by decide) (by omega) (hf 2 (by decide)) (ht 2 (by decide)) (rf 2 (by decide)) (rt 2 (by decide)) s3 s4 (fun e => h6 (by rw [e, e0, e1]; rfl)) (fun e2 S2 s5 s6 => ?_)
  exact br_t ix_33 (h0 (by rw [e0, e1, e2]; rfl) S2 s5 s6)
theorem yw_423 {post : Int32 → SY → Prop} {n : Nat} {r : Int32} {to : Nat → Int32} (hn : n < 30) (ht : ∀ a, a < 3 → a_to (3 * n + a) = to a)
    (h : ∀ he, (∀ a, a < 3 → he a = to a) → post r (f_lines, f_fastest, f_gain, f_bend, f_ahead, f_speed, f_seen, f_state, f_line, f_pace, f_left, f_went, f_allSteps, f_allTicks, f_u, f_v, f_holds, a_letters, a_values, a_many, a_tool, a_began, a_limit, a_trips, a_force, a_origins, he, a_has, a_grouped, a_word, a_from, a_to, a_steps, a_paces, a_dwells, a_ends, a_turn, a_first, a_second, a_centre, a_direction)) : ∃ m, wY_workOut_423 post (nI n) r f_lines f_fastest f_gain f_bend f_ahead f_speed f_seen f_state f_line f_pace f_left f_went f_allSteps f_allTicks f_u f_v f_holds m 0 a_letters a_values a_many a_tool a_began a_limit a_trips a_force a_origins a_here a_has a_grouped a_word a_from a_to a_steps a_paces a_dwells a_ends a_turn a_first a_second a_centre a_direction := by
  have st : ∀ (a f : Nat) (he : Nat → Int32), a < 3 → wY_workOut_423 post (nI n) r f_lines f_fastest f_gain f_bend f_ahead f_speed f_seen f_state f_line f_pace f_left f_went f_allSteps f_allTicks f_u f_v f_holds f (nI (a + 1)) a_letters a_values a_many a_tool a_began a_limit a_trips a_force a_origins (upd he a (to a)) a_has a_grouped a_word a_from a_to a_steps a_paces a_dwells a_ends a_turn a_first a_second a_centre a_direction →
      wY_workOut_423 post (nI n) r f_lines f_fastest f_gain f_bend f_ahead f_speed f_seen f_state f_line f_pace f_left f_went f_allSteps f_allTicks f_u f_v f_holds (f + 1) (nI a) a_letters a_values a_many a_tool a_began a_limit a_trips a_force a_origins he a_has a_grouped a_word a_from a_to a_steps a_paces a_dwells a_ends a_turn a_first a_second a_centre a_direction := by
    intro a f he ha k
    refine br_f (ix_3a ha) ?_
    rw [ix_y3, nI_clamp (show 3 * n + a < 2 ^ 31 by omega), nI_clamp (show a < 2 ^ 31 by omega), ht a ha]
    exact ⟨vp_in_nI (by omega) (by omega), vp_in_nI ha (by omega), nm_e (nm_r (nI_1 a) k)⟩
  refine ⟨4, st 0 3 a_here (by decide) (st 1 2 _ (by decide) (st 2 1 _ (by decide) (br_t ix_33 (h _ ?_))))⟩
  exact fun a ha => co_3 (P := fun a => upd (upd (upd a_here 0 (to 0)) 1 (to 1)) 2 (to 2) a = to a) rfl rfl rfl ha
theorem yw_31 {post : Int32 → SY → Prop} {H : Nat → Bool} {n a f : Nat} (hn : n < 30) (ha : a < 3) (hF : fc_FW a_force) (hH : ∀ i, i < 10 → a_has i = bo_I (H i))
    (h : ∀ T, T (3 * n + a) = pl_to a_force H a_word a_origins a_here a → (∀ k, k ≠ 3 * n + a → T k = a_to k) →
      wY_workOut_31 post (nI n) (a_force 5) f_lines f_fastest f_gain f_bend f_ahead f_speed f_seen f_state f_line f_pace f_left f_went f_allSteps f_allTicks f_u f_v f_holds f (nI (a + 1)) a_letters a_values a_many a_tool a_began a_limit a_trips a_force (pl_o1 a_force H a_word a_here a a_origins) a_here a_has a_grouped a_word (upd a_from (3 * n + a) (a_here a)) T a_steps a_paces a_dwells a_ends a_turn a_first a_second a_centre a_direction) :
    wY_workOut_31 post (nI n) (a_force 5) f_lines f_fastest f_gain f_bend f_ahead f_speed f_seen f_state f_line f_pace f_left f_went f_allSteps f_allTicks f_u f_v f_holds (f + 1) (nI a) a_letters a_values a_many a_tool a_began a_limit a_trips a_force a_origins a_here a_has a_grouped a_word a_from a_to a_steps a_paces a_dwells a_ends a_turn a_first a_second a_centre a_direction := by
  have i3 : vp_in (nI a) 3 := vp_in_nI ha (by omega)
  have i90 : vp_in (nI (3 * n + a)) 90 := vp_in_nI (by omega) (by omega)
  have cla : (nI a).toNatClampNeg = a := nI_clamp (by omega)
  have cl3 : (nI (3 * n + a)).toNatClampNeg = 3 * n + a := nI_clamp (by omega)
  have cl2 : (nI (2 + a)).toNatClampNeg = 2 + a := nI_clamp (by omega)
  have clo : (nI (pl_oi a_force a)).toNatClampNeg = pl_oi a_force a := nI_clamp (by have := ix_ol a_force ha; omega)
  have io : vp_in (nI (pl_oi a_force a)) 6 := vp_in_nI (ix_ol a_force ha) (by omega)
  refine br_f (ix_3a ha) ?_
  rw [ix_y3, ix_p2, cla, cl3, cl2]
  have o0 : ¬ (H (2 + a) = true ∧ a_force 5 = 92) → pl_o1 a_force H a_word a_here a a_origins = a_origins := fun z => if_neg z
  have g98 : ∀ sc, sc = pl_sc a_force → wY_workOut_98 post (wY_workOut_31 post (nI n) (a_force 5) f_lines f_fastest f_gain f_bend f_ahead f_speed f_seen f_state f_line f_pace f_left f_went f_allSteps f_allTicks f_u f_v f_holds f) (nI n) (a_force 5) (nI a) sc (a_word (2 + a)) f_lines f_fastest f_gain f_bend f_ahead f_speed f_seen f_state f_line f_pace f_left f_went f_allSteps f_allTicks f_u f_v f_holds a_letters a_values a_many a_tool a_began a_limit a_trips a_force a_origins a_here a_has a_grouped a_word (upd a_from (3 * n + a) (a_here a)) (upd a_to (3 * n + a) (a_here a)) a_steps a_paces a_dwells a_ends a_turn a_first a_second a_centre a_direction := by
    intro sc esc
    subst esc
    unfold wY_workOut_98
    rw [ix_y3, ix_p2, cla, cl3, cl2, hH (2 + a) (by omega), ix_oy hF]
    refine nm_e (nm_e ⟨vp_in_nI (by omega) (by omega), ?_⟩)
    rw [clo]
    unfold pl_to at h
    have tt : ∀ x, (∀ k, k ≠ 3 * n + a → upd (upd a_to (3 * n + a) (a_here a)) (3 * n + a) x k = a_to k) := fun x k hk => (pk_un hk).trans (pk_un hk)
    cases e : H (2 + a)
    · rw [if_pos e, o0 (fun z => by rw [e] at z; exact absurd z.1 (by decide))] at h
      exact br_t rfl (nm_r (nI_1 a) (h _ pk_us (fun k hk => pk_un hk)))
    · rw [if_neg (by rw [e]; decide)] at h
      refine br_f bo_ne (br_c (fun c => ⟨i3, io, nm_e (nm_r (nI_1 a) ?_)⟩) (fun c => ?_))
      · rw [if_pos c] at h
        have o1 : pl_o1 a_force H a_word a_here a a_origins = upd a_origins (pl_oi a_force a) (a_here a - a_word (2 + a) * pl_sc a_force) := if_pos ⟨e, c⟩
        rw [o1] at h
        exact h _ pk_us (fun k hk => pk_un hk)
      · rw [if_neg c, o0 (fun z => c z.2)] at h
        refine br_c (fun d => ⟨i90, nm_e (nm_r (nI_1 a) ?_)⟩) (fun d => br_c (fun g => ⟨i90, nm_e (nm_r (nI_1 a) ?_)⟩) (fun g => br_c (fun k => ⟨io, i90, nm_e (nm_r (nI_1 a) ?_)⟩) (fun k => ⟨i3, i90, nm_e (nm_r (nI_1 a) ?_)⟩)))
        · rw [if_pos d] at h; exact h _ pk_us (tt _)
        · rw [if_neg d, if_pos g] at h; exact h _ pk_us (tt _)
        · rw [if_neg d, if_neg g, if_pos k] at h; exact h _ pk_us (tt _)
        · rw [if_neg d, if_neg g, if_neg k] at h; exact h _ pk_us (tt _)
  refine ⟨i3, i90, nm_e ⟨i3, i90, nm_e ⟨vp_in_nI (by omega) (by omega), br_c (fun c => g98 _ ?_) (fun c => g98 _ ?_)⟩⟩⟩
  · unfold pl_sc; rw [if_pos c]
  · unfold pl_sc; rw [if_neg c]
end
end YWK
