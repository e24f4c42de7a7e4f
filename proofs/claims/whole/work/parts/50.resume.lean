section RSM
theorem i_vc_resume {k : Nat} {u : SX} {v : SY} (I : i_Rel k u v) (hk : k + 4 ≤ 2048) : wpX_resume (fun r u' => wpY_resume (fun r' v' => r' = r ∧ i_Rel (k + 4) u' v') v) u := by
  obtain ⟨w, y_u, y_v, y_direction, ⟨f_lines, f_fastest, f_gain, f_bend, f_ahead, f_mode, f_holds, f_pace, f_line, f_gone, f_dwellLeft, f_stepsInAll, f_ticksInAll, f_speed, f_present, f_laid, y_speed, y_seen, y_line, y_left, y_went, a_wordCounts, a_letters, a_values, a_limits, a_switches, a_tool, a_inForce, a_origins, a_given, a_rows, a_probe, a_motions, a_thirds, a_centres, a_steps, a_paces, a_dwells, a_marks, a_nexts, a_joints, a_began, y_force, y_origins, y_here, y_has, y_grouped, y_word, y_from, y_to, y_steps, y_paces, y_dwells, y_ends, y_turn, y_first, y_second, y_centre, rfl, rfl, R⟩, rfl⟩ := I
  dsimp only
  unfold wpX_resume
  dsimp only
  refine br_c (fun m => ?_) (fun m => ?_)
  · obtain ⟨N, n, Lh, hn, el, eyl, W⟩ := rl_rn R (by rw [m]; decide)
    have W3 : f_holds = 0 ∧ f_pace = 0 ∧ y_left = 0 ∧ ∀ a, a < 3 → a_tool a = px_he a_letters a_values a_wordCounts a_began (n + 1) a := by
      rcases W with z | z | z | z
      · rw [z.1] at m; exact absurd m (by decide)
      · rw [z.1] at m; exact absurd m (by decide)
      · rw [z.1] at m; exact absurd m (by decide)
      · exact z.2
    obtain ⟨h0, p0, le0, hT⟩ := W3
    obtain ⟨u', w', V, gs, BX, BY⟩ := bg_0 (f_mode := f_mode) (f_holds := f_holds) (f_pace := f_pace) (f_line := f_line) (f_gone := f_gone) (f_dwellLeft := f_dwellLeft) (f_stepsInAll := f_stepsInAll) (f_ticksInAll := f_ticksInAll) (f_speed := f_speed) (f_present := f_present) (a_switches := a_switches) (a_origins := a_origins) (a_given := a_given) (a_probe := a_probe)
      (y_line := y_line) (y_left := y_left) (y_went := y_went) (y_speed := y_speed) (y_origins := y_origins) (y_here := y_here) (y_has := y_has) (y_grouped := y_grouped) (y_word := y_word) (k := n + 1) R.1 Lh (by omega) hT p0
    have e1 : f_line + 1 = nI (n + 1) := by rw [el, nI_1]
    have e2 : y_line + 1 = nI (n + 1) := by rw [eyl, nI_1]
    rw [e1]
    refine BX _ ?_
    have hRel : i_Rel (k + 4) u' (w' y_u y_v y_direction) := ⟨w', y_u, y_v, y_direction, V, rfl⟩
    obtain ⟨x_lines, x_f1, x_f2, x_f3, x_f4, x_mode, x_f5, x_f6, x_f7, x_f8, x_f9, x_g1, x_g2, x_g3, x_g4, x_g5, x_a1, x_a2, x_a3, x_a4, x_a5, x_a6, x_a7, x_a8, x_a9, x_b1, x_b2, x_b3, x_b4, x_b5, x_b6, x_b7, x_b8, x_b9, x_c1, x_c2⟩ := u'
    dsimp only
    have fin : ∀ PY : Int32 → SY → Prop, (∀ vv, vv = w' y_u y_v y_direction → PY 1 vv) → wY_resume_17 PY f_lines f_fastest f_gain f_bend f_ahead y_speed y_seen f_mode y_line f_pace y_left y_went f_stepsInAll f_ticksInAll y_u y_v f_holds a_letters a_values a_wordCounts a_tool a_began a_limits a_switches y_force y_origins y_here y_has y_grouped y_word y_from y_to y_steps y_paces y_dwells y_ends y_turn y_first y_second y_centre y_direction := by
      intro PY h
      unfold wY_resume_17
      refine br_t m ?_
      rw [e2]
      have b := BY (fun u => match u with | (f_lines, f_fastest, f_gain, f_bend, f_ahead, f_speed, f_seen, f_state, f_line, f_pace, f_left, f_went, f_allSteps, f_allTicks, f_u, f_v, f_holds, a_letters, a_values, a_many, a_tool, a_began, a_limit, a_trips, a_force, a_origins, a_here, a_has, a_grouped, a_word, a_from, a_to, a_steps, a_paces, a_dwells, a_ends, a_turn, a_first, a_second, a_centre, a_direction) => PY 1 (f_lines, f_fastest, f_gain, f_bend, f_ahead, f_speed, f_seen, f_state, f_line, f_pace, f_left, f_went, f_allSteps, f_allTicks, f_u, f_v, f_holds, a_letters, a_values, a_many, a_tool, a_began, a_limit, a_trips, a_force, a_origins, a_here, a_has, a_grouped, a_word, a_from, a_to, a_steps, a_paces, a_dwells, a_ends, a_turn, a_first, a_second, a_centre, a_direction)) y_u y_v y_direction (by
        have h' := h _ rfl
        generalize w' y_u y_v y_direction = vv at h' ⊢
        obtain ⟨f_lines, f_fastest, f_gain, f_bend, f_ahead, f_speed, f_seen, f_state, f_line, f_pace, f_left, f_went, f_allSteps, f_allTicks, f_u, f_v, f_holds, a_letters, a_values, a_many, a_tool, a_began, a_limit, a_trips, a_force, a_origins, a_here, a_has, a_grouped, a_word, a_from, a_to, a_steps, a_paces, a_dwells, a_ends, a_turn, a_first, a_second, a_centre, a_direction⟩ := vv
        exact h')
      rw [h0] at b
      exact b
    unfold wpY_resume
    refine br_t h0 (br_t m (fin _ (fun vv e => ?_)))
    subst e
    exact ⟨rfl, hRel⟩
  · refine br_c (fun h0 => br_t h0 (br_f m ⟨rfl, rl_mk R⟩)) (fun h0 => br_f h0 (br_f m ⟨rfl, rl_mk ⟨R.1, ?_⟩⟩))
    rcases R.2 with S | ⟨N, n, Lh, hn, el, eyl, W⟩
    · exact absurd S.2.1 h0
    · refine Or.inr ⟨N, n, Lh, hn, el, eyl, ?_⟩
      rcases W with z | z | z | z
      · exact Or.inl z
      · exact absurd z.2.2.1 h0
      · exact Or.inr (Or.inr (Or.inl z))
      · exact absurd z.2.1 h0
end RSM
