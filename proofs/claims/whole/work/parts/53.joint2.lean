section JN2
def jn_v (L V M lim s0 : Nat → Int32) (fs bend : Int32) (N : Nat) : Nat → Option Nat → Int32
  | 0, o => (match o with | none => 0 | some b => nI (rn_j L V M lim s0 fs bend N b))
  | d + 1, o => (match o with | none => 0 | some b => jn_v L V M lim s0 fs bend N d (rn_x L V M lim s0 N b))
section
variable {f_lines f_fastest f_gain f_bend f_ahead f_mode f_holds f_pace f_line f_gone f_dwellLeft f_stepsInAll f_ticksInAll f_speed f_present f_laid : Int32} {a_wordCounts a_letters a_values a_limits a_switches a_tool a_inForce a_origins a_given a_rows a_probe a_motions a_thirds a_centres a_steps a_paces a_dwells a_marks a_nexts a_joints : Nat → Int32}
theorem jn_x {post : Int32 → Prop} {s0 : Nat → Int32} {N q : Nat} (K : rn_K a_letters a_values a_wordCounts a_limits s0 f_fastest f_bend N) (hX : xr_ a_letters a_values a_wordCounts a_limits s0 f_fastest f_bend N f_laid a_rows a_motions a_thirds a_centres a_steps a_paces a_dwells a_marks a_nexts a_joints) (hq : q ≤ 5) :
    ∀ d i o, i + d = q → (∀ b, o = some b → b < N ∧ 0 < px_st a_letters a_values a_wordCounts a_limits s0 b) → post (jn_v a_letters a_values a_wordCounts a_limits s0 f_fastest f_bend N d o) → wX_joint_26 post (nI q) f_lines f_fastest f_gain f_bend f_ahead f_mode f_holds f_pace f_line f_gone f_dwellLeft f_stepsInAll f_ticksInAll f_speed f_present f_laid a_wordCounts a_letters a_values a_limits a_switches a_tool a_inForce a_origins a_given a_rows a_probe a_motions a_thirds a_centres a_steps a_paces a_dwells a_marks a_nexts a_joints (d + 1) (nj_I o) (nI i) := by
  have N30 : N ≤ 30 := K.2.2.2.2.1
  intro d
  induction d with
  | zero =>
    intro i o hi ho h
    refine br_t (nI_le (by omega) (by omega)) ?_
    unfold wX_joint_49
    cases o with
    | none => exact br_t rfl h
    | some b =>
      obtain ⟨b1, b2⟩ := ho b rfl
      refine br_f (nj_Im b (by omega)) ?_
      show vp_in (nI b) 30 ∧ post (a_joints (nI b).toNatClampNeg)
      rw [nI_clamp (show b < 2 ^ 31 by omega), (hX.2.2 b b1).2, if_neg (by omega)]
      exact ⟨vp_in_nI (by omega) (by omega), h⟩
  | succ d ih =>
    intro i o hi ho h
    refine br_f (nI_ge (by omega) (by omega)) ?_
    cases o with
    | none =>
      refine br_t rfl ?_
      unfold wX_joint_49
      exact br_t rfl h
    | some b =>
      obtain ⟨b1, b2⟩ := ho b rfl
      refine br_f (nj_Im b (by omega)) ?_
      show vp_in (nI b) 30 ∧ ∀ x, x = a_nexts (nI b).toNatClampNeg → _
      rw [nI_clamp (show b < 2 ^ 31 by omega), (hX.2.2 b b1).1, if_neg (by omega)]
      exact ⟨vp_in_nI (by omega) (by omega), nm_e (nm_r (nI_1 i) (ih (i + 1) _ (by omega) (fun c hc => (rk_x b c hc).2) h))⟩
end
section
variable {f_lines f_fastest f_gain f_bend f_ahead f_speed f_seen f_state f_line f_pace f_left f_went f_allSteps f_allTicks f_u f_v f_holds : Int32} {a_letters a_values a_many a_tool a_began a_limit a_trips a_force a_origins a_here a_has a_grouped a_word a_from a_to a_steps a_paces a_dwells a_ends a_turn a_first a_second a_centre a_direction : Nat → Int32}
theorem jn_y {post : Int32 → SY → Prop} {s0 : Nat → Int32} {N q : Nat} (K : rn_K a_letters a_values a_many a_limit s0 f_fastest f_bend N) (hY : yr_ a_letters a_values a_many a_limit s0 f_fastest N f_seen a_from a_to a_steps a_paces a_dwells a_ends a_turn a_first a_second a_centre) (hq : q ≤ 5) :
    ∀ d i o, i + d = q → (∀ b, o = some b → b < N) → (∀ D, post (jn_v a_letters a_values a_many a_limit s0 f_fastest f_bend N d o) (f_lines, f_fastest, f_gain, f_bend, f_ahead, f_speed, f_seen, f_state, f_line, f_pace, f_left, f_went, f_allSteps, f_allTicks, f_u, f_v, f_holds, a_letters, a_values, a_many, a_tool, a_began, a_limit, a_trips, a_force, a_origins, a_here, a_has, a_grouped, a_word, a_from, a_to, a_steps, a_paces, a_dwells, a_ends, a_turn, a_first, a_second, a_centre, D)) → wY_joint_34 post (nI q) f_lines f_fastest f_gain f_bend f_ahead f_speed f_seen f_state f_line f_pace f_left f_went f_allSteps f_allTicks f_u f_v f_holds a_letters a_values a_many a_tool a_began a_limit a_trips a_force a_origins a_here a_has a_grouped a_word a_from a_to a_steps a_paces a_dwells a_ends a_turn a_first a_second a_centre a_direction (d + 1) (nj_I o) (nI i) := by
  have N30 : N ≤ 30 := K.2.2.2.2.1
  have g55n : (∀ D, post 0 (f_lines, f_fastest, f_gain, f_bend, f_ahead, f_speed, f_seen, f_state, f_line, f_pace, f_left, f_went, f_allSteps, f_allTicks, f_u, f_v, f_holds, a_letters, a_values, a_many, a_tool, a_began, a_limit, a_trips, a_force, a_origins, a_here, a_has, a_grouped, a_word, a_from, a_to, a_steps, a_paces, a_dwells, a_ends, a_turn, a_first, a_second, a_centre, D)) → wY_joint_55 post (-1) f_lines f_fastest f_gain f_bend f_ahead f_speed f_seen f_state f_line f_pace f_left f_went f_allSteps f_allTicks f_u f_v f_holds a_letters a_values a_many a_tool a_began a_limit a_trips a_force a_origins a_here a_has a_grouped a_word a_from a_to a_steps a_paces a_dwells a_ends a_turn a_first a_second a_centre a_direction := by
    intro h
    unfold wY_joint_55 wY_joint_68
    exact br_f (by decide) (br_f (by decide) (h a_direction))
  intro d
  induction d with
  | zero =>
    intro i o hi ho h
    refine br_t (nI_le (by omega) (by omega)) ?_
    cases o with
    | none => exact g55n h
    | some b =>
      have b1 := ho b rfl
      unfold wY_joint_55 wY_joint_68
      refine br_t (nI_pos' (n := b) (by omega)) (yf_ov (n := b) K hY b1 ?_)
      cases e : rn_x a_letters a_values a_many a_limit s0 N b with
      | none =>
        refine br_f (by decide) ?_
        have h' := h a_direction
        have e0 : jn_v a_letters a_values a_many a_limit s0 f_fastest f_bend N 0 (some b) = 0 := by
          show nI (rn_j a_letters a_values a_many a_limit s0 f_fastest f_bend N b) = 0
          unfold rn_j; rw [e]; rfl
        rw [e0] at h'
        exact h'
      | some m =>
        obtain ⟨m1, m2, m3⟩ := rk_x b m e
        refine br_t (nI_pos' (n := m) (by omega)) ?_
        refine yf_jp (n := b) (m := m) K hY b1 m2 (fun D => ?_)
        have h' := h D
        have e0 : jn_v a_letters a_values a_many a_limit s0 f_fastest f_bend N 0 (some b) = rn_P a_letters a_values a_many s0 f_fastest f_bend b m := ((rk_j K b1).2 m e).symm
        rw [e0] at h'
        exact h'
  | succ d ih =>
    intro i o hi ho h
    refine br_f (nI_ge (by omega) (by omega)) ?_
    cases o with
    | none => exact br_t (by decide) (g55n h)
    | some b =>
      have b1 := ho b rfl
      refine br_f (nI_pos (n := b) (by omega)) (yf_ov (n := b) K hY b1 (nm_r (nI_1 i) (ih (i + 1) _ (by omega) (fun c hc => (rk_x b c hc).2.1) h)))
end
theorem i_vc_joint {k : Nat} {u : SX} {v : SY} (I : i_Rel k u v) (hk : k + 4 ≤ 2048) (v1 : Int32) : wpX_joint (fun r => wpY_joint (fun r' v' => r' = r ∧ i_Rel (k + 4) u v') v v1) u v1 := by
  obtain ⟨w, y_u, y_v, y_direction, ⟨f_lines, f_fastest, f_gain, f_bend, f_ahead, f_mode, f_holds, f_pace, f_line, f_gone, f_dwellLeft, f_stepsInAll, f_ticksInAll, f_speed, f_present, f_laid, y_speed, y_seen, y_line, y_left, y_went, a_wordCounts, a_letters, a_values, a_limits, a_switches, a_tool, a_inForce, a_origins, a_given, a_rows, a_probe, a_motions, a_thirds, a_centres, a_steps, a_paces, a_dwells, a_marks, a_nexts, a_joints, a_began, y_force, y_origins, y_here, y_has, y_grouped, y_word, y_from, y_to, y_steps, y_paces, y_dwells, y_ends, y_turn, y_first, y_second, y_centre, rfl, rfl, R⟩, rfl⟩ := I
  have same : (-1 : Int32) = -1 ∧ i_Rel (k + 4) (f_lines, f_fastest, f_gain, f_bend, f_ahead, f_mode, f_holds, f_pace, f_line, f_gone, f_dwellLeft, f_stepsInAll, f_ticksInAll, f_speed, f_present, f_laid, a_wordCounts, a_letters, a_values, a_limits, a_switches, a_tool, a_inForce, a_origins, a_given, a_rows, a_probe, a_motions, a_thirds, a_centres, a_steps, a_paces, a_dwells, a_marks, a_nexts, a_joints) (f_lines, f_fastest, f_gain, f_bend, f_ahead, y_speed, y_seen, f_mode, y_line, f_pace, y_left, y_went, f_stepsInAll, f_ticksInAll, y_u, y_v, f_holds, a_letters, a_values, a_wordCounts, a_tool, a_began, a_limits, a_switches, y_force, y_origins, y_here, y_has, y_grouped, y_word, y_from, y_to, y_steps, y_paces, y_dwells, y_ends, y_turn, y_first, y_second, y_centre, y_direction) := ⟨rfl, rl_mk R⟩
  have e5 : 6 ≤ v1 ↔ ¬ v1 ≤ 5 := by rw [fc_le, fc_le, fc_6, fc_5]; omega
  dsimp only
  have yBad : ∀ PY : Int32 → SY → Prop, (¬ (0 ≤ v1 ∧ v1 ≤ 5) ∨ ¬ (f_mode = 1 ∨ f_mode = 4)) → PY (-1) (f_lines, f_fastest, f_gain, f_bend, f_ahead, y_speed, y_seen, f_mode, y_line, f_pace, y_left, y_went, f_stepsInAll, f_ticksInAll, y_u, y_v, f_holds, a_letters, a_values, a_wordCounts, a_tool, a_began, a_limits, a_switches, y_force, y_origins, y_here, y_has, y_grouped, y_word, y_from, y_to, y_steps, y_paces, y_dwells, y_ends, y_turn, y_first, y_second, y_centre, y_direction) → wpY_joint PY (f_lines, f_fastest, f_gain, f_bend, f_ahead, y_speed, y_seen, f_mode, y_line, f_pace, y_left, y_went, f_stepsInAll, f_ticksInAll, y_u, y_v, f_holds, a_letters, a_values, a_wordCounts, a_tool, a_began, a_limits, a_switches, y_force, y_origins, y_here, y_has, y_grouped, y_word, y_from, y_to, y_steps, y_paces, y_dwells, y_ends, y_turn, y_first, y_second, y_centre, y_direction) v1 := by
    intro PY z h
    unfold wpY_joint
    refine yl_in (fun a b => br_f (by decide) ?_) (fun _ => br_t rfl h)
    rcases z with z | z
    · exact absurd ⟨a, b⟩ z
    · exact br_f (fun y => z (Or.inl y)) (br_f (fun y => z (Or.inr y)) h)
  unfold wpX_joint wpX_hasBlock
  dsimp only
  refine br_c (fun a => yBad _ (Or.inl (fun z => Int32.not_lt.mpr z.1 a)) same) (fun a => br_c (fun b => yBad _ (Or.inl (fun z => e5.mp b z.2)) same) (fun b => ?_))
  have a' : 0 ≤ v1 := Int32.not_lt.mp a
  have b' : v1 ≤ 5 := Decidable.byContradiction (fun z => b (e5.mpr z))
  obtain ⟨q, q1, q2⟩ := nI_of a
  subst q2
  have hq : q ≤ 5 := (nI_leI (b := 5) (by omega) (by omega)).mp b'
  have run : (f_mode = 1 ∨ f_mode = 4) → ∃ n26, wX_joint_26 (fun r => wpY_joint (fun r' v' => r' = r ∧ i_Rel (k + 4) (f_lines, f_fastest, f_gain, f_bend, f_ahead, f_mode, f_holds, f_pace, f_line, f_gone, f_dwellLeft, f_stepsInAll, f_ticksInAll, f_speed, f_present, f_laid, a_wordCounts, a_letters, a_values, a_limits, a_switches, a_tool, a_inForce, a_origins, a_given, a_rows, a_probe, a_motions, a_thirds, a_centres, a_steps, a_paces, a_dwells, a_marks, a_nexts, a_joints) v') (f_lines, f_fastest, f_gain, f_bend, f_ahead, y_speed, y_seen, f_mode, y_line, f_pace, y_left, y_went, f_stepsInAll, f_ticksInAll, y_u, y_v, f_holds, a_letters, a_values, a_wordCounts, a_tool, a_began, a_limits, a_switches, y_force, y_origins, y_here, y_has, y_grouped, y_word, y_from, y_to, y_steps, y_paces, y_dwells, y_ends, y_turn, y_first, y_second, y_centre, y_direction) (nI q)) (nI q) f_lines f_fastest f_gain f_bend f_ahead f_mode f_holds f_pace f_line f_gone f_dwellLeft f_stepsInAll f_ticksInAll f_speed f_present f_laid a_wordCounts a_letters a_values a_limits a_switches a_tool a_inForce a_origins a_given a_rows a_probe a_motions a_thirds a_centres a_steps a_paces a_dwells a_marks a_nexts a_joints n26 f_line 0 := by
    intro m
    obtain ⟨N, n, Lh, hn, el, eyl, W⟩ := rl_rn R (by rcases m with z | z <;> rw [z] <;> decide)
    have s1 : 0 < px_st a_letters a_values a_wordCounts a_limits a_began n := by
      rcases W with z | z | z | z
      · exact z.2.1
      · exact z.2.1
      · rw [z.1] at m; rcases m with y | y <;> exact absurd y (by decide)
      · rw [z.1] at m; rcases m with y | y <;> exact absurd y (by decide)
    subst el eyl
    refine ⟨q + 1, ?_⟩
    refine jn_x (f_line := nI n) Lh.2.1 Lh.2.2.1 hq q 0 (some n) (by omega) (fun b hb => by obtain rfl := Option.some.inj hb; exact ⟨hn, s1⟩) ?_
    have y34 := fun (PY : Int32 → SY → Prop) h => jn_y (post := PY) (f_line := nI n) (f_state := f_mode) (f_speed := y_speed) (f_left := y_left) (f_went := y_went) (f_allSteps := f_stepsInAll) (f_allTicks := f_ticksInAll) (f_u := y_u) (f_v := y_v) (f_holds := f_holds) (f_pace := f_pace) (f_lines := f_lines) (f_gain := f_gain) (f_ahead := f_ahead) (a_tool := a_tool) (a_began := a_began) (a_trips := a_switches) (a_force := y_force) (a_origins := y_origins) (a_here := y_here) (a_has := y_has) (a_grouped := y_grouped) (a_word := y_word) (a_direction := y_direction) Lh.2.1 Lh.2.2.2 hq q 0 (some n) (by omega) (fun b hb => by obtain rfl := Option.some.inj hb; exact hn) h
    unfold wpY_joint
    have fin := y34 (fun r' v' => r' = jn_v a_letters a_values a_wordCounts a_limits a_began f_fastest f_bend N q (some n) ∧ i_Rel (k + 4) (f_lines, f_fastest, f_gain, f_bend, f_ahead, f_mode, f_holds, f_pace, (nI n), f_gone, f_dwellLeft, f_stepsInAll, f_ticksInAll, f_speed, f_present, f_laid, a_wordCounts, a_letters, a_values, a_limits, a_switches, a_tool, a_inForce, a_origins, a_given, a_rows, a_probe, a_motions, a_thirds, a_centres, a_steps, a_paces, a_dwells, a_marks, a_nexts, a_joints) v') (fun D => ⟨rfl, rl_mk R⟩)
    exact yl_in (fun _ _ => br_f (by decide) (br_c (fun _ => ⟨q + 1, fin⟩) (fun z => br_t (m.elim (fun y => absurd y z) id) ⟨q + 1, fin⟩))) (fun z => absurd ⟨a', b'⟩ z)
  refine br_c (fun m => br_f (by decide) (run (Or.inl m))) (fun m => br_c (fun m4 => br_f (by decide) (run (Or.inr m4))) (fun m4 => br_t rfl (yBad _ (Or.inr (fun z => z.elim m m4)) same)))
end JN2
