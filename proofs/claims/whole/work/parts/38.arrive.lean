section ARR
theorem tu_pos {L V M s0 : Nat → Int32} (n : Nat) : (px_tu L V M s0 n ≤ 0 ↔ px_tu L V M s0 n = 0) := by
  unfold px_tu pl_tu
  split
  · rename_i c
    rcases fv_0 (fc_F L V M s0 n) with z | z | z | z <;> rw [z] at c ⊢ <;> first | decide | exact absurd c.2 (by decide)
  · decide
section
variable {f_lines f_fastest f_gain f_bend f_ahead f_speed f_seen f_state f_line f_pace f_left f_went f_allSteps f_allTicks f_u f_v f_holds : Int32} {a_letters a_values a_many a_tool a_began a_limit a_trips a_force a_origins a_here a_has a_grouped a_word a_from a_to a_steps a_paces a_dwells a_ends a_turn a_first a_second a_centre a_direction : Nat → Int32}
/-- one axis of the reference's step -/
theorem ya_153 {post : SY → Prop} {s0 : Nat → Int32} {N n k a f : Nat} {fl : Bool} {old T : Nat → Int32} (K : rn_K a_letters a_values a_many a_limit s0 f_fastest f_bend N) (hY : yr_ a_letters a_values a_many a_limit s0 f_fastest N f_seen a_from a_to a_steps a_paces a_dwells a_ends a_turn a_first a_second a_centre)
    (hn : n < N) (hs : 0 < px_st a_letters a_values a_many a_limit s0 n) (hk : k + 1 ≤ px_st a_letters a_values a_many a_limit s0 n) (ha : a < 3)
    (hu : ¬ px_tu a_letters a_values a_many s0 n = 0 → a = pl_fa (px_F a_letters a_values a_many s0 n) → a_centre (2 * n) + f_u = rs_v a_letters a_values a_many a_limit s0 n (k + 1) a)
    (hv : ¬ px_tu a_letters a_values a_many s0 n = 0 → a = pl_fb (px_F a_letters a_values a_many s0 n) → a_centre (2 * n + 1) + f_v = rs_v a_letters a_values a_many a_limit s0 n (k + 1) a)
    (hw : ¬ px_tu a_letters a_values a_many s0 n = 0 → ¬ a = pl_fa (px_F a_letters a_values a_many s0 n) → ¬ a = pl_fb (px_F a_letters a_values a_many s0 n) → old a = rs_v a_letters a_values a_many a_limit s0 n (k + 1) a)
    (hTo : T a = old a)
    (h : ∀ T2, T2 a = rs_v a_letters a_values a_many a_limit s0 n (k + 1) a → (∀ b, b ≠ a → T2 b = T b) →
      wY_arrive_153 post (nI (k + 1)) (nI n) f_lines f_fastest f_gain f_bend f_ahead f_speed f_seen f_state f_line f_pace f_left f_went f_allSteps f_allTicks f_u f_v f_holds f (bo_I (fl || tp_ (rs_v a_letters a_values a_many a_limit s0 n (k + 1)) old a_trips a)) (nI (a + 1)) a_letters a_values a_many T2 a_began a_limit a_trips a_force a_origins a_here a_has a_grouped a_word a_from a_to a_steps a_paces a_dwells a_ends a_turn a_first a_second a_centre a_direction) :
    wY_arrive_153 post (nI (k + 1)) (nI n) f_lines f_fastest f_gain f_bend f_ahead f_speed f_seen f_state f_line f_pace f_left f_went f_allSteps f_allTicks f_u f_v f_holds (f + 1) (bo_I fl) (nI a) a_letters a_values a_many T a_began a_limit a_trips a_force a_origins a_here a_has a_grouped a_word a_from a_to a_steps a_paces a_dwells a_ends a_turn a_first a_second a_centre a_direction := by
  have N30 : N ≤ 30 := K.2.2.2.2.1
  have sn := rk_s K hn
  have i30 : vp_in (nI n) 30 := vp_in_nI (by omega) (by omega)
  have i3 : vp_in (nI a) 3 := vp_in_nI ha (by omega)
  have i90 : vp_in (nI (3 * n + a)) 90 := vp_in_nI (by omega) (by omega)
  have cl : (nI n).toNatClampNeg = n := nI_clamp (by omega)
  have cla : (nI a).toNatClampNeg = a := nI_clamp (by omega)
  have cl3 : (nI (3 * n + a)).toNatClampNeg = 3 * n + a := nI_clamp (by omega)
  obtain ⟨y1, y2, y3, y4, y5, y6⟩ := hY.2.2 n hn
  obtain ⟨f1, f2⟩ := hY.2.1 n hn a ha
  obtain ⟨d1, d2, d3, d4⟩ := st_d K hn ha
  have tp := tu_pos (L := a_letters) (V := a_values) (M := a_many) (s0 := s0) n
  refine br_f (ix_3a ha) ⟨i3, ?_⟩
  rw [ix_y3, cla, cl3, f1, f2, hTo]
  refine nm_e ⟨i90, i90, nm_e ?_⟩
  -- the comparison, when the axis has its new place
  have g373 : ∀ T2, T2 a = rs_v a_letters a_values a_many a_limit s0 n (k + 1) a → (∀ b, b ≠ a → T2 b = T b) → wY_arrive_373 post (wY_arrive_153 post (nI (k + 1)) (nI n) f_lines f_fastest f_gain f_bend f_ahead f_speed f_seen f_state f_line f_pace f_left f_went f_allSteps f_allTicks f_u f_v f_holds f) (nI (k + 1)) (nI n) (bo_I fl) (nI a) (old a) f_lines f_fastest f_gain f_bend f_ahead f_speed f_seen f_state f_line f_pace f_left f_went f_allSteps f_allTicks f_u f_v f_holds a_letters a_values a_many T2 a_began a_limit a_trips a_force a_origins a_here a_has a_grouped a_word a_from a_to a_steps a_paces a_dwells a_ends a_turn a_first a_second a_centre a_direction := by
    intro T2 e1 e2
    have h' := h T2 e1 e2
    unfold wY_arrive_373
    rw [cla, e1]
    refine ⟨i3, br_c (fun c => ?_) (fun c => ⟨i3, i3, br_c (fun d => ?_) (fun d => ?_)⟩)⟩
    · rw [show tp_ (rs_v a_letters a_values a_many a_limit s0 n (k + 1)) old a_trips a = false from decide_eq_false (fun z => z.1 c)] at h'
      exact nm_r (bo_or fl false) (nm_r (nI_1 a) h')
    · rw [show tp_ (rs_v a_letters a_values a_many a_limit s0 n (k + 1)) old a_trips a = true from decide_eq_true ⟨c, d⟩] at h'
      exact nm_r (bo_or fl true) (nm_r (nI_1 a) h')
    · rw [show tp_ (rs_v a_letters a_values a_many a_limit s0 n (k + 1)) old a_trips a = false from decide_eq_false (fun z => d z.2)] at h'
      exact nm_r (bo_or fl false) (nm_r (nI_1 a) h')
  by_cases t : px_tu a_letters a_values a_many s0 n = 0
  · have tl : px_tu a_letters a_values a_many s0 n ≤ 0 := tp.mpr t
    have g290 : ∀ z, z = rs_v a_letters a_values a_many a_limit s0 n (k + 1) a → wY_arrive_290 post (wY_arrive_153 post (nI (k + 1)) (nI n) f_lines f_fastest f_gain f_bend f_ahead f_speed f_seen f_state f_line f_pace f_left f_went f_allSteps f_allTicks f_u f_v f_holds f) (nI (k + 1)) (nI n) (bo_I fl) (nI a) (old a) z (nI a) f_lines f_fastest f_gain f_bend f_ahead f_speed f_seen f_state f_line f_pace f_left f_went f_allSteps f_allTicks f_u f_v f_holds a_letters a_values a_many T a_began a_limit a_trips a_force a_origins a_here a_has a_grouped a_word a_from a_to a_steps a_paces a_dwells a_ends a_turn a_first a_second a_centre a_direction := by
      intro z ez
      subst ez
      unfold wY_arrive_290 wY_arrive_331
      rw [cla, cl, y5]
      exact ⟨i3, nm_e ⟨i30, br_t tl ⟨i30, br_t tl (g373 _ pk_us (fun b hb => pk_un hb))⟩⟩⟩
    have g206 : ∀ z, z = nI (sg_dd (px_he a_letters a_values a_many s0 n) (px_he a_letters a_values a_many s0 (n + 1)) a) → wY_arrive_206 post (wY_arrive_153 post (nI (k + 1)) (nI n) f_lines f_fastest f_gain f_bend f_ahead f_speed f_seen f_state f_line f_pace f_left f_went f_allSteps f_allTicks f_u f_v f_holds f) (nI (k + 1)) (nI n) (bo_I fl) (nI a) (old a) (px_he a_letters a_values a_many s0 (n + 1) a - px_he a_letters a_values a_many s0 n a) z f_lines f_fastest f_gain f_bend f_ahead f_speed f_seen f_state f_line f_pace f_left f_went f_allSteps f_allTicks f_u f_v f_holds a_letters a_values a_many T a_began a_limit a_trips a_force a_origins a_here a_has a_grouped a_word a_from a_to a_steps a_paces a_dwells a_ends a_turn a_first a_second a_centre a_direction := by
      intro z ez
      subst ez
      unfold wY_arrive_206 wY_arrive_243 wY_arrive_289
      rw [ix_y3, cl3, cl, y5, y1, f1, st_pt hs (by omega) d4 sn]
      refine ⟨i30, br_t tl ⟨i30, i30, st_2n hs sn, i30, br_t tl ⟨i90, br_c (fun c => g290 _ ?_) (fun c => g290 _ ?_)⟩⟩⟩
      · unfold rs_v rs_p
        rw [if_pos t, if_pos (d1.mp c), ← ii_add, ii_t, ← ii_n]
      · unfold rs_v rs_p
        rw [if_pos t, if_neg (fun z => c (d1.mpr z)), ← ii_sub, ii_t, ← ii_n, Int32.sub_eq_add_neg]
    exact br_c (fun c => g206 _ (d2 c)) (fun c => g206 _ (d3 c))
  · have tl : ¬ px_tu a_letters a_values a_many s0 n ≤ 0 := fun z => t (tp.mp z)
    obtain ⟨w1, w2, w3, w4⟩ := y6 t
    obtain ⟨ta, tb, tt, ts⟩ := fv_tr (fc_F a_letters a_values a_many s0 n)
    have i60 : vp_in (nI (2 * n)) 60 := vp_in_nI (by omega) (by omega)
    have i61 : vp_in (nI (2 * n + 1)) 60 := vp_in_nI (by omega) (by omega)
    have g331 : ∀ T2, (∀ b, b ≠ a → T2 b = T b) → (¬ a = pl_fb (px_F a_letters a_values a_many s0 n) → T2 a = rs_v a_letters a_values a_many a_limit s0 n (k + 1) a) → wY_arrive_331 post (wY_arrive_153 post (nI (k + 1)) (nI n) f_lines f_fastest f_gain f_bend f_ahead f_speed f_seen f_state f_line f_pace f_left f_went f_allSteps f_allTicks f_u f_v f_holds f) (nI (k + 1)) (nI n) (bo_I fl) (nI a) (old a) f_lines f_fastest f_gain f_bend f_ahead f_speed f_seen f_state f_line f_pace f_left f_went f_allSteps f_allTicks f_u f_v f_holds a_letters a_values a_many T2 a_began a_limit a_trips a_force a_origins a_here a_has a_grouped a_word a_from a_to a_steps a_paces a_dwells a_ends a_turn a_first a_second a_centre a_direction := by
      intro T2 e1 e2
      unfold wY_arrive_331
      rw [cl, y5, w2, ix_y21, nI_clamp (show 2 * n + 1 < 2 ^ 31 by omega), cla]
      refine ⟨i30, br_f tl ⟨i30, br_c (fun c => ⟨i61, i3, nm_e (g373 _ ?_ (fun b hb => (pk_un hb).trans (e1 b hb)))⟩) (fun c => g373 _ (e2 ?_) e1)⟩⟩
      · rw [pk_us]; exact hv t ((nI_eq (by omega) (by omega)).mp c)
      · exact fun z => c (by rw [z])
    have g290 : wY_arrive_290 post (wY_arrive_153 post (nI (k + 1)) (nI n) f_lines f_fastest f_gain f_bend f_ahead f_speed f_seen f_state f_line f_pace f_left f_went f_allSteps f_allTicks f_u f_v f_holds f) (nI (k + 1)) (nI n) (bo_I fl) (nI a) (old a) (old a) (nI a) f_lines f_fastest f_gain f_bend f_ahead f_speed f_seen f_state f_line f_pace f_left f_went f_allSteps f_allTicks f_u f_v f_holds a_letters a_values a_many T a_began a_limit a_trips a_force a_origins a_here a_has a_grouped a_word a_from a_to a_steps a_paces a_dwells a_ends a_turn a_first a_second a_centre a_direction := by
      unfold wY_arrive_290
      rw [cla, cl, y5, w1, ix_y2, nI_clamp (show 2 * n < 2 ^ 31 by omega)]
      refine ⟨i3, nm_e ⟨i30, br_f tl ⟨i30, br_c (fun c => ⟨i60, i3, nm_e (g331 _ (fun b hb => (pk_un hb).trans (pk_un hb)) (fun _ => ?_))⟩) (fun c => g331 _ (fun b hb => pk_un hb) (fun z => ?_))⟩⟩⟩
      · rw [pk_us]; exact hu t ((nI_eq (by omega) (by omega)).mp c)
      · rw [pk_us]; exact hw t (fun y => c (by rw [y])) z
    have g206 : ∀ x z, wY_arrive_206 post (wY_arrive_153 post (nI (k + 1)) (nI n) f_lines f_fastest f_gain f_bend f_ahead f_speed f_seen f_state f_line f_pace f_left f_went f_allSteps f_allTicks f_u f_v f_holds f) (nI (k + 1)) (nI n) (bo_I fl) (nI a) (old a) x z f_lines f_fastest f_gain f_bend f_ahead f_speed f_seen f_state f_line f_pace f_left f_went f_allSteps f_allTicks f_u f_v f_holds a_letters a_values a_many T a_began a_limit a_trips a_force a_origins a_here a_has a_grouped a_word a_from a_to a_steps a_paces a_dwells a_ends a_turn a_first a_second a_centre a_direction := by
      intro x z
      unfold wY_arrive_206 wY_arrive_243
      rw [cl, y5]
      exact ⟨i30, br_f tl ⟨i30, br_f tl g290⟩⟩
    exact br_c (fun c => g206 _ _) (fun c => g206 _ _)
theorem ya_loop {post : SY → Prop} {s0 : Nat → Int32} {N n k : Nat} (K : rn_K a_letters a_values a_many a_limit s0 f_fastest f_bend N) (hY : yr_ a_letters a_values a_many a_limit s0 f_fastest N f_seen a_from a_to a_steps a_paces a_dwells a_ends a_turn a_first a_second a_centre)
    (hn : n < N) (hs : 0 < px_st a_letters a_values a_many a_limit s0 n) (hk : k + 1 ≤ px_st a_letters a_values a_many a_limit s0 n)
    (hu : ¬ px_tu a_letters a_values a_many s0 n = 0 → ∀ a, a = pl_fa (px_F a_letters a_values a_many s0 n) → a_centre (2 * n) + f_u = rs_v a_letters a_values a_many a_limit s0 n (k + 1) a)
    (hv : ¬ px_tu a_letters a_values a_many s0 n = 0 → ∀ a, a = pl_fb (px_F a_letters a_values a_many s0 n) → a_centre (2 * n + 1) + f_v = rs_v a_letters a_values a_many a_limit s0 n (k + 1) a)
    (hw : ¬ px_tu a_letters a_values a_many s0 n = 0 → ∀ a, a < 3 → ¬ a = pl_fa (px_F a_letters a_values a_many s0 n) → ¬ a = pl_fb (px_F a_letters a_values a_many s0 n) → a_tool a = rs_v a_letters a_values a_many a_limit s0 n (k + 1) a)
    (T : Nat → Int32) (eT : T = tl_ (rs_v a_letters a_values a_many a_limit s0 n (k + 1)) a_tool)
    (h4 : (tp_ T a_tool a_trips 0 || tp_ T a_tool a_trips 1 || tp_ T a_tool a_trips 2) = true → post (f_lines, f_fastest, f_gain, f_bend, f_ahead, f_speed, f_seen, 4, (nI n), 0, f_left, f_went, (f_allSteps + 1), f_allTicks, f_u, f_v, 0, a_letters, a_values, a_many, T, a_began, a_limit, a_trips, a_force, a_origins, a_here, a_has, a_grouped, a_word, a_from, a_to, a_steps, a_paces, a_dwells, a_ends, a_turn, a_first, a_second, a_centre, a_direction))
    (hM : (tp_ T a_tool a_trips 0 || tp_ T a_tool a_trips 1 || tp_ T a_tool a_trips 2) = false → ¬ k + 1 = px_st a_letters a_values a_many a_limit s0 n → post (f_lines, f_fastest, f_gain, f_bend, f_ahead, f_speed, f_seen, f_state, (nI n), f_pace, f_left, f_went, (f_allSteps + 1), f_allTicks, f_u, f_v, f_holds, a_letters, a_values, a_many, T, a_began, a_limit, a_trips, a_force, a_origins, a_here, a_has, a_grouped, a_word, a_from, a_to, a_steps, a_paces, a_dwells, a_ends, a_turn, a_first, a_second, a_centre, a_direction))
    (hJ : (tp_ T a_tool a_trips 0 || tp_ T a_tool a_trips 1 || tp_ T a_tool a_trips 2) = false → k + 1 = px_st a_letters a_values a_many a_limit s0 n → ∀ m, rn_x a_letters a_values a_many a_limit s0 N n = some m → post (f_lines, f_fastest, f_gain, f_bend, f_ahead, f_speed, f_seen, f_state, (nI m), f_pace, f_left, 0, (f_allSteps + 1), f_allTicks, f_u, f_v, f_holds, a_letters, a_values, a_many, T, a_began, a_limit, a_trips, a_force, a_origins, a_here, a_has, a_grouped, a_word, a_from, a_to, a_steps, a_paces, a_dwells, a_ends, a_turn, a_first, a_second, a_centre, a_direction))
    (hE : (tp_ T a_tool a_trips 0 || tp_ T a_tool a_trips 1 || tp_ T a_tool a_trips 2) = false → k + 1 = px_st a_letters a_values a_many a_limit s0 n → rn_x a_letters a_values a_many a_limit s0 N n = none → wpY_begin post (f_lines, f_fastest, f_gain, f_bend, f_ahead, f_speed, f_seen, f_state, (nI n), 0, f_left, f_went, (f_allSteps + 1), f_allTicks, f_u, f_v, f_holds, a_letters, a_values, a_many, T, a_began, a_limit, a_trips, a_force, a_origins, a_here, a_has, a_grouped, a_word, a_from, a_to, a_steps, a_paces, a_dwells, a_ends, a_turn, a_first, a_second, a_centre, a_direction) (nI n) 1) :
    ∃ m, wY_arrive_153 post (nI (k + 1)) (nI n) f_lines f_fastest f_gain f_bend f_ahead f_speed f_seen f_state (nI n) f_pace f_left f_went f_allSteps f_allTicks f_u f_v f_holds m 0 0 a_letters a_values a_many a_tool a_began a_limit a_trips a_force a_origins a_here a_has a_grouped a_word a_from a_to a_steps a_paces a_dwells a_ends a_turn a_first a_second a_centre a_direction := by
  have N30 : N ≤ 30 := K.2.2.2.2.1
  have sn := rk_s K hn
  have i30 : vp_in (nI n) 30 := vp_in_nI (by omega) (by omega)
  have cl : (nI n).toNatClampNeg = n := nI_clamp (by omega)
  refine ⟨4, ya_153 (f_line := nI n) (a := 0) (fl := false) (old := a_tool) K hY hn hs hk (by decide) (fun t e => hu t _ e) (fun t e => hv t _ e) (fun t => hw t 0 (by decide)) rfl (fun T0 p0 q0 => ?_)⟩
  refine ya_153 (f_line := nI n) (a := 1) (old := a_tool) K hY hn hs hk (by decide) (fun t e => hu t _ e) (fun t e => hv t _ e) (fun t => hw t 1 (by decide)) (q0 1 (by decide)) (fun T1 p1 q1 => ?_)
  refine ya_153 (f_line := nI n) (a := 2) (old := a_tool) K hY hn hs hk (by decide) (fun t e => hu t _ e) (fun t e => hv t _ e) (fun t => hw t 2 (by decide)) ((q1 2 (by decide)).trans (q0 2 (by decide))) (fun T2 p2 q2 => ?_)
  have e2 : T2 = T := by
    rw [eT]
    refine tl_e (fun a ha => co_3 (P := fun a => T2 a = rs_v a_letters a_values a_many a_limit s0 n (k + 1) a) ((q2 0 (by decide)).trans ((q1 0 (by decide)).trans p0)) ((q2 1 (by decide)).trans p1) p2 ha) (fun a ha => ?_)
    exact (q2 a (by omega)).trans ((q1 a (by omega)).trans (q0 a (by omega)))
  have et : ∀ a, a < 3 → tp_ (rs_v a_letters a_values a_many a_limit s0 n (k + 1)) a_tool a_trips a = tp_ T a_tool a_trips a := by
    intro a ha
    unfold tp_
    rw [eT, tl_v ha]
  rw [et 0 (by decide), et 1 (by decide), et 2 (by decide), Bool.false_or, e2]
  refine br_t ix_33 (nm_e (br_c (fun c => ⟨i30, ?_⟩) (fun c => h4 (bo_nf c))))
  rw [cl, (hY.2.2 n hn).1]
  refine br_c (fun d => ?_) (fun d => hM (bo_yf c) (fun z => d (by rw [z])))
  have d' : k + 1 = px_st a_letters a_values a_many a_limit s0 n := (nI_eq (by omega) (by omega)).mp d
  unfold wpY_end
  refine yf_ov K hY hn ?_
  cases e : rn_x a_letters a_values a_many a_limit s0 N n with
  | none => exact br_t (by decide) (hE (bo_yf c) d' e)
  | some m =>
    obtain ⟨m1, m2, m3⟩ := rk_x n m e
    exact br_f (nI_pos (n := m) (by omega)) (hJ (bo_yf c) d' m e)
theorem ya_ar {post : SY → Prop} {s0 : Nat → Int32} {N n k : Nat} (K : rn_K a_letters a_values a_many a_limit s0 f_fastest f_bend N) (hY : yr_ a_letters a_values a_many a_limit s0 f_fastest N f_seen a_from a_to a_steps a_paces a_dwells a_ends a_turn a_first a_second a_centre)
    (hn : n < N) (hs : 0 < px_st a_letters a_values a_many a_limit s0 n) (hk : k + 1 ≤ px_st a_letters a_values a_many a_limit s0 n) (hT : ∀ a, a < 3 → a_tool a = rs_v a_letters a_values a_many a_limit s0 n k a)
    (T : Nat → Int32) (eT : T = tl_ (rs_v a_letters a_values a_many a_limit s0 n (k + 1)) a_tool)
    (h4 : (tp_ T a_tool a_trips 0 || tp_ T a_tool a_trips 1 || tp_ T a_tool a_trips 2) = true → ∀ u v, post (f_lines, f_fastest, f_gain, f_bend, f_ahead, f_speed, f_seen, 4, (nI n), 0, f_left, (nI (1000 * (k + 1))), (f_allSteps + 1), f_allTicks, u, v, 0, a_letters, a_values, a_many, T, a_began, a_limit, a_trips, a_force, a_origins, a_here, a_has, a_grouped, a_word, a_from, a_to, a_steps, a_paces, a_dwells, a_ends, a_turn, a_first, a_second, a_centre, a_direction))
    (hM : (tp_ T a_tool a_trips 0 || tp_ T a_tool a_trips 1 || tp_ T a_tool a_trips 2) = false → ¬ k + 1 = px_st a_letters a_values a_many a_limit s0 n → ∀ u v, post (f_lines, f_fastest, f_gain, f_bend, f_ahead, f_speed, f_seen, f_state, (nI n), f_pace, f_left, (nI (1000 * (k + 1))), (f_allSteps + 1), f_allTicks, u, v, f_holds, a_letters, a_values, a_many, T, a_began, a_limit, a_trips, a_force, a_origins, a_here, a_has, a_grouped, a_word, a_from, a_to, a_steps, a_paces, a_dwells, a_ends, a_turn, a_first, a_second, a_centre, a_direction))
    (hJ : (tp_ T a_tool a_trips 0 || tp_ T a_tool a_trips 1 || tp_ T a_tool a_trips 2) = false → k + 1 = px_st a_letters a_values a_many a_limit s0 n → ∀ m, rn_x a_letters a_values a_many a_limit s0 N n = some m → ∀ u v, post (f_lines, f_fastest, f_gain, f_bend, f_ahead, f_speed, f_seen, f_state, (nI m), f_pace, f_left, 0, (f_allSteps + 1), f_allTicks, u, v, f_holds, a_letters, a_values, a_many, T, a_began, a_limit, a_trips, a_force, a_origins, a_here, a_has, a_grouped, a_word, a_from, a_to, a_steps, a_paces, a_dwells, a_ends, a_turn, a_first, a_second, a_centre, a_direction))
    (hE : (tp_ T a_tool a_trips 0 || tp_ T a_tool a_trips 1 || tp_ T a_tool a_trips 2) = false → k + 1 = px_st a_letters a_values a_many a_limit s0 n → rn_x a_letters a_values a_many a_limit s0 N n = none → ∀ u v, wpY_begin post (f_lines, f_fastest, f_gain, f_bend, f_ahead, f_speed, f_seen, f_state, (nI n), 0, f_left, (nI (1000 * (k + 1))), (f_allSteps + 1), f_allTicks, u, v, f_holds, a_letters, a_values, a_many, T, a_began, a_limit, a_trips, a_force, a_origins, a_here, a_has, a_grouped, a_word, a_from, a_to, a_steps, a_paces, a_dwells, a_ends, a_turn, a_first, a_second, a_centre, a_direction) (nI n) 1) :
    wpY_arrive post (f_lines, f_fastest, f_gain, f_bend, f_ahead, f_speed, f_seen, f_state, (nI n), f_pace, f_left, (nI (1000 * (k + 1))), f_allSteps, f_allTicks, f_u, f_v, f_holds, a_letters, a_values, a_many, a_tool, a_began, a_limit, a_trips, a_force, a_origins, a_here, a_has, a_grouped, a_word, a_from, a_to, a_steps, a_paces, a_dwells, a_ends, a_turn, a_first, a_second, a_centre, a_direction) := by
  have N30 : N ≤ 30 := K.2.2.2.2.1
  have sn := rk_s K hn
  have i30 : vp_in (nI n) 30 := vp_in_nI (by omega) (by omega)
  have cl : (nI n).toNatClampNeg = n := nI_clamp (by omega)
  have ek : nI (1000 * (k + 1)) / 1000 = nI (k + 1) := by
    rw [show (1000 : Int32) = nI 1000 from rfl, pk_div (by omega) (by decide) (by decide), Nat.mul_div_cancel_left _ (by decide)]
  obtain ⟨y1, y2, y3, y4, y5, y6⟩ := hY.2.2 n hn
  have tp := tu_pos (L := a_letters) (V := a_values) (M := a_many) (s0 := s0) n
  unfold wpY_arrive
  dsimp only
  rw [ek, cl, y5]
  refine ⟨by decide, nm_e ⟨i30, br_c (fun c => ?_) (fun c => ?_)⟩⟩
  · have t := tp.mp c
    exact ya_loop (f_went := nI (1000 * (k + 1))) K hY hn hs hk (fun z => absurd t z) (fun z => absurd t z) (fun z => absurd t z) T eT (fun e => h4 e _ _) (fun e d => hM e d _ _) (fun e d m em => hJ e d m em _ _) (fun e d em => hE e d em _ _)
  · have t : ¬ px_tu a_letters a_values a_many s0 n = 0 := fun z => c (tp.mpr z)
    obtain ⟨w1, w2, w3, w4⟩ := y6 t
    obtain ⟨ta, tb, tt, ts⟩ := fv_tr (fc_F a_letters a_values a_many s0 n)
    have ne := fv_ne (L := a_letters) (V := a_values) (M := a_many) (s0 := s0) n
    have it := st_it K hn hs (k := k) (by omega) t
    obtain ⟨b, _⟩ := (ci_why (rk_w K hn)).2.2.2.2 t
    obtain ⟨_, b2, b3, _⟩ := ci_b5 b
    have vA : ∀ j, rs_v a_letters a_values a_many a_limit s0 n j (pl_fa (px_F a_letters a_values a_many s0 n)) = ii_I (px_c a_letters a_values a_many s0 n + (wk_it (px_on a_letters a_values a_many s0 n) (px_far a_letters a_values a_many s0 n) j (-px_p a_letters a_values a_many s0 n, -px_q a_letters a_values a_many s0 n)).1) := by
      intro j; unfold rs_v rs_p; rw [if_neg t, if_pos rfl]
    have vB : ∀ j, rs_v a_letters a_values a_many a_limit s0 n j (pl_fb (px_F a_letters a_values a_many s0 n)) = ii_I (px_d a_letters a_values a_many s0 n + (wk_it (px_on a_letters a_values a_many s0 n) (px_far a_letters a_values a_many s0 n) j (-px_p a_letters a_values a_many s0 n, -px_q a_letters a_values a_many s0 n)).2) := by
      intro j; unfold rs_v rs_p; rw [if_neg t, if_neg ne, if_pos rfl]
    rw [w1, w2, ix_y3, ix_y3, ix_y21, ix_y2, nI_clamp (show 2 * n < 2 ^ 31 by omega), nI_clamp (show 2 * n + 1 < 2 ^ 31 by omega), nI_clamp (show pl_fa (px_F a_letters a_values a_many s0 n) < 2 ^ 31 by omega), nI_clamp (show pl_fb (px_F a_letters a_values a_many s0 n) < 2 ^ 31 by omega),
      nI_clamp (show 3 * n + pl_fa (px_F a_letters a_values a_many s0 n) < 2 ^ 31 by omega), nI_clamp (show 3 * n + pl_fb (px_F a_letters a_values a_many s0 n) < 2 ^ 31 by omega), w3, w4, (hY.2.1 n hn _ ta).1, (hY.2.1 n hn _ tb).1, hT _ ta, hT _ tb, vA, vB]
    have i60 : vp_in (nI (2 * n)) 60 := vp_in_nI (by omega) (by omega)
    have i61 : vp_in (nI (2 * n + 1)) 60 := vp_in_nI (by omega) (by omega)
    have eA : px_he a_letters a_values a_many s0 n (pl_fa (px_F a_letters a_values a_many s0 n)) - ii_I (px_c a_letters a_values a_many s0 n) = ii_I (-px_p a_letters a_values a_many s0 n) := by
      rw [ii_d]; congr 1; unfold px_c; omega
    have eB : px_he a_letters a_values a_many s0 n (pl_fb (px_F a_letters a_values a_many s0 n)) - ii_I (px_d a_letters a_values a_many s0 n) = ii_I (-px_q a_letters a_values a_many s0 n) := by
      rw [ii_d]; congr 1; unfold px_d; omega
    refine ⟨i30, vp_in_nI ta (by omega), i60, nm_r (e' := ii_I (wk_it (px_on a_letters a_values a_many s0 n) (px_far a_letters a_values a_many s0 n) k (-px_p a_letters a_values a_many s0 n, -px_q a_letters a_values a_many s0 n)).1) (by rw [ii_sub]; congr 1; omega) ⟨i30, vp_in_nI tb (by omega), i61, nm_r (e' := ii_I (wk_it (px_on a_letters a_values a_many s0 n) (px_far a_letters a_values a_many s0 n) k (-px_p a_letters a_values a_many s0 n, -px_q a_letters a_values a_many s0 n)).2) (by rw [ii_sub]; congr 1; omega)
      ⟨i30, vp_in_nI (by omega) (by omega), i60, nm_r eA ⟨i30, vp_in_nI (by omega) (by omega), i61, nm_r eB ⟨i30, ?_⟩⟩⟩⟩⟩
    rw [ii_mul, ii_mul, ii_add, Int.neg_mul_neg, Int.neg_mul_neg]
    refine ys_nx (on := px_on a_letters a_values a_many s0 n) (f := px_far a_letters a_values a_many s0 n) (u := (wk_it (px_on a_letters a_values a_many s0 n) (px_far a_letters a_values a_many s0 n) k (-px_p a_letters a_values a_many s0 n, -px_q a_letters a_values a_many s0 n)).1) (v := (wk_it (px_on a_letters a_values a_many s0 n) (px_far a_letters a_values a_many s0 n) k (-px_p a_letters a_values a_many s0 n, -px_q a_letters a_values a_many s0 n)).2)
      (by unfold px_on; rw [decide_eq_true_iff]) rfl rfl it.1 it.2 ⟨by omega, b3⟩ ?_
    dsimp only
    refine ya_loop (f_went := nI (1000 * (k + 1))) K hY hn hs hk (fun _ a e => ?_) (fun _ a e => ?_) (fun _ a ha e1 e2 => ?_) T eT (fun e => h4 e _ _) (fun e d => hM e d _ _) (fun e d m em => hJ e d m em _ _) (fun e d em => hE e d em _ _)
    · subst e
      rw [w3, ii_add, vA, wk_its]
    · subst e
      rw [w4, ii_add, vB, wk_its]
    · rw [hT a ha]
      unfold rs_v rs_p
      rw [if_neg t, if_neg t, if_neg e1, if_neg e1, if_neg e2, if_neg e2]
end
end ARR
