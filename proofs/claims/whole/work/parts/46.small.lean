section CLD
theorem i_vc_clear {k : Nat} {u : SX} {v : SY} (I : i_Rel k u v) (hk : k + 4 ≤ 2048) : wpX_clear (fun r u' => wpY_clear (fun r' v' => r' = r ∧ i_Rel (k + 4) u' v') v) u := by
  obtain ⟨w, y_u, y_v, y_direction, ⟨f_lines, f_fastest, f_gain, f_bend, f_ahead, f_mode, f_holds, f_pace, f_line, f_gone, f_dwellLeft, f_stepsInAll, f_ticksInAll, f_speed, f_present, f_laid, y_speed, y_seen, y_line, y_left, y_went, a_wordCounts, a_letters, a_values, a_limits, a_switches, a_tool, a_inForce, a_origins, a_given, a_rows, a_probe, a_motions, a_thirds, a_centres, a_steps, a_paces, a_dwells, a_marks, a_nexts, a_joints, a_began, y_force, y_origins, y_here, y_has, y_grouped, y_word, y_from, y_to, y_steps, y_paces, y_dwells, y_ends, y_turn, y_first, y_second, y_centre, rfl, rfl, R⟩, rfl⟩ := I
  refine br_c (fun m => br_t m ⟨rfl, rl_mk ⟨?_, Or.inl (rl_st R m)⟩⟩) (fun m => br_f m ⟨rfl, rl_mk R⟩)
  exact ⟨⟨0, by omega, rfl⟩, R.1.2⟩
theorem i_vc_hold {k : Nat} {u : SX} {v : SY} (I : i_Rel k u v) (hk : k + 4 ≤ 2048) : wpX_hold (fun r u' => wpY_hold (fun r' v' => r' = r ∧ i_Rel (k + 4) u' v') v) u := by
  obtain ⟨w, y_u, y_v, y_direction, ⟨f_lines, f_fastest, f_gain, f_bend, f_ahead, f_mode, f_holds, f_pace, f_line, f_gone, f_dwellLeft, f_stepsInAll, f_ticksInAll, f_speed, f_present, f_laid, y_speed, y_seen, y_line, y_left, y_went, a_wordCounts, a_letters, a_values, a_limits, a_switches, a_tool, a_inForce, a_origins, a_given, a_rows, a_probe, a_motions, a_thirds, a_centres, a_steps, a_paces, a_dwells, a_marks, a_nexts, a_joints, a_began, y_force, y_origins, y_here, y_has, y_grouped, y_word, y_from, y_to, y_steps, y_paces, y_dwells, y_ends, y_turn, y_first, y_second, y_centre, rfl, rfl, R⟩, rfl⟩ := I
  have key : f_mode = 1 ∨ f_mode = 2 → i_Rel (k + 4) (f_lines, f_fastest, f_gain, f_bend, f_ahead, f_mode, 1, f_pace, f_line, f_gone, f_dwellLeft, f_stepsInAll, f_ticksInAll, f_speed, f_present, f_laid, a_wordCounts, a_letters, a_values, a_limits, a_switches, a_tool, a_inForce, a_origins, a_given, a_rows, a_probe, a_motions, a_thirds, a_centres, a_steps, a_paces, a_dwells, a_marks, a_nexts, a_joints) (f_lines, f_fastest, f_gain, f_bend, f_ahead, y_speed, y_seen, f_mode, y_line, f_pace, y_left, y_went, f_stepsInAll, f_ticksInAll, y_u, y_v, 1, a_letters, a_values, a_wordCounts, a_tool, a_began, a_limits, a_switches, y_force, y_origins, y_here, y_has, y_grouped, y_word, y_from, y_to, y_steps, y_paces, y_dwells, y_ends, y_turn, y_first, y_second, y_centre, y_direction) := by
    intro m
    have m0 : ¬ f_mode = 0 := by rcases m with z | z <;> rw [z] <;> decide
    obtain ⟨N, n, Lh, hn, el, eyl, W⟩ := rl_rn R m0
    refine rl_mk ⟨R.1, Or.inr ⟨N, n, Lh, hn, el, eyl, ?_⟩⟩
    rcases W with z | z | z | z
    · exact Or.inl z
    · rw [z.1] at m; rcases m with y | y <;> exact absurd y (by decide)
    · exact Or.inr (Or.inr (Or.inl z))
    · rw [z.1] at m; rcases m with y | y <;> exact absurd y (by decide)
  exact br_c (fun a => br_c (fun b => br_t a (br_t b ⟨rfl, key (Or.inl b)⟩)) (fun b => br_c (fun c => br_t a (br_f b (br_t c ⟨rfl, key (Or.inr c)⟩))) (fun c => br_t a (br_f b (br_f c ⟨rfl, rl_mk R⟩))))) (fun a => br_f a ⟨rfl, rl_mk R⟩)
theorem i_vc_stop {k : Nat} {u : SX} {v : SY} (I : i_Rel k u v) (hk : k + 4 ≤ 2048) : wpX_stop (fun r u' => wpY_stop (fun r' v' => r' = r ∧ i_Rel (k + 4) u' v') v) u := by
  obtain ⟨w, y_u, y_v, y_direction, ⟨f_lines, f_fastest, f_gain, f_bend, f_ahead, f_mode, f_holds, f_pace, f_line, f_gone, f_dwellLeft, f_stepsInAll, f_ticksInAll, f_speed, f_present, f_laid, y_speed, y_seen, y_line, y_left, y_went, a_wordCounts, a_letters, a_values, a_limits, a_switches, a_tool, a_inForce, a_origins, a_given, a_rows, a_probe, a_motions, a_thirds, a_centres, a_steps, a_paces, a_dwells, a_marks, a_nexts, a_joints, a_began, y_force, y_origins, y_here, y_has, y_grouped, y_word, y_from, y_to, y_steps, y_paces, y_dwells, y_ends, y_turn, y_first, y_second, y_centre, rfl, rfl, R⟩, rfl⟩ := I
  exact br_c (fun a => br_t a ⟨rfl, rl_mk R⟩) (fun a => br_f a ⟨rfl, rl_mk ⟨R.1, Or.inl ⟨rfl, rfl, rfl, rfl, rfl⟩⟩⟩)
theorem i_vc_trip {k : Nat} {u : SX} {v : SY} (I : i_Rel k u v) (hk : k + 4 ≤ 2048) (v1 : Int32) (v2 : Int32) : wpX_trip (fun r u' => wpY_trip (fun r' v' => r' = r ∧ i_Rel (k + 4) u' v') v v1 v2) u v1 v2 := by
  obtain ⟨w, y_u, y_v, y_direction, ⟨f_lines, f_fastest, f_gain, f_bend, f_ahead, f_mode, f_holds, f_pace, f_line, f_gone, f_dwellLeft, f_stepsInAll, f_ticksInAll, f_speed, f_present, f_laid, y_speed, y_seen, y_line, y_left, y_went, a_wordCounts, a_letters, a_values, a_limits, a_switches, a_tool, a_inForce, a_origins, a_given, a_rows, a_probe, a_motions, a_thirds, a_centres, a_steps, a_paces, a_dwells, a_marks, a_nexts, a_joints, a_began, y_force, y_origins, y_here, y_has, y_grouped, y_word, y_from, y_to, y_steps, y_paces, y_dwells, y_ends, y_turn, y_first, y_second, y_centre, rfl, rfl, R⟩, rfl⟩ := I
  have same : (0 : Int32) = 0 ∧ i_Rel (k + 4) (f_lines, f_fastest, f_gain, f_bend, f_ahead, f_mode, f_holds, f_pace, f_line, f_gone, f_dwellLeft, f_stepsInAll, f_ticksInAll, f_speed, f_present, f_laid, a_wordCounts, a_letters, a_values, a_limits, a_switches, a_tool, a_inForce, a_origins, a_given, a_rows, a_probe, a_motions, a_thirds, a_centres, a_steps, a_paces, a_dwells, a_marks, a_nexts, a_joints) (f_lines, f_fastest, f_gain, f_bend, f_ahead, y_speed, y_seen, f_mode, y_line, f_pace, y_left, y_went, f_stepsInAll, f_ticksInAll, y_u, y_v, f_holds, a_letters, a_values, a_wordCounts, a_tool, a_began, a_limits, a_switches, y_force, y_origins, y_here, y_has, y_grouped, y_word, y_from, y_to, y_steps, y_paces, y_dwells, y_ends, y_turn, y_first, y_second, y_centre, y_direction) := ⟨rfl, rl_mk R⟩
  have e2 : 3 ≤ v1 ↔ ¬ v1 ≤ 2 := by rw [fc_le, fc_le, fc_3, fc_2]; omega
  unfold wpX_trip wpY_trip
  dsimp only
  refine br_c (fun a => yl_in (fun z _ => absurd a (Int32.not_lt.mpr z)) (fun _ => br_t rfl same)) (fun a => br_c (fun b => yl_in (fun _ z => absurd z (e2.mp b)) (fun _ => br_t rfl same)) (fun b => ?_))
  have b' : v1 ≤ 2 := Decidable.byContradiction (fun z => b (e2.mpr z))
  have a' : 0 ≤ v1 := Int32.not_lt.mp a
  have yok : ∀ PY : Int32 → Prop, PY 1 → wpY_in PY v1 0 2 := fun PY h => yl_in (fun _ _ => h) (fun n => absurd ⟨a', b'⟩ n)
  have i3 : vp_in v1 3 := vp_in_iff.mpr (by rw [fc_le, fc_0] at a'; rw [fc_le, fc_2] at b'; omega)
  refine br_c (fun c => yok _ (br_f (by decide) (yl_in (fun z _ => absurd c (Int32.not_lt.mpr z)) (fun _ => br_t rfl same)))) (fun c => br_c (fun d => ⟨i3, nm_e ?_⟩) (fun d => yok _ (br_f (by decide) (yl_in (fun _ z => absurd z d) (fun _ => br_t rfl same)))))
  exact yok _ (br_f (by decide) (yl_in (fun _ _ => br_f (by decide) ⟨i3, nm_e ⟨rfl, rl_mk R⟩⟩) (fun n => absurd ⟨Int32.not_lt.mp c, d⟩ n)))
theorem i_vc_at {k : Nat} {u : SX} {v : SY} (I : i_Rel k u v) (hk : k + 4 ≤ 2048) (v1 : Int32) : wpX_at (fun r => wpY_at (fun r' => r' = r ∧ i_Rel (k + 4) u v) v v1) u v1 := by
  obtain ⟨w, y_u, y_v, y_direction, ⟨f_lines, f_fastest, f_gain, f_bend, f_ahead, f_mode, f_holds, f_pace, f_line, f_gone, f_dwellLeft, f_stepsInAll, f_ticksInAll, f_speed, f_present, f_laid, y_speed, y_seen, y_line, y_left, y_went, a_wordCounts, a_letters, a_values, a_limits, a_switches, a_tool, a_inForce, a_origins, a_given, a_rows, a_probe, a_motions, a_thirds, a_centres, a_steps, a_paces, a_dwells, a_marks, a_nexts, a_joints, a_began, y_force, y_origins, y_here, y_has, y_grouped, y_word, y_from, y_to, y_steps, y_paces, y_dwells, y_ends, y_turn, y_first, y_second, y_centre, rfl, rfl, R⟩, rfl⟩ := I
  have e2 : v1 < 3 ↔ v1 ≤ 2 := by rw [fc_lt, fc_le, fc_3, fc_2]; omega
  unfold wpX_at wpY_at
  dsimp only
  refine br_c (fun a => yl_in (fun z _ => absurd a (Int32.not_lt.mpr z)) (fun _ => br_t rfl ⟨rfl, rl_mk R⟩)) (fun a => br_c (fun b => ?_) (fun b => yl_in (fun _ z => absurd (e2.mpr z) b) (fun _ => br_t rfl ⟨rfl, rl_mk R⟩)))
  have i3 : vp_in v1 3 := vp_in_iff.mpr (by have b' := e2.mp b; rw [fc_lt, fc_0] at a; rw [fc_le, fc_2] at b'; omega)
  exact ⟨i3, yl_in (fun _ _ => br_f (by decide) ⟨i3, rfl, rl_mk R⟩) (fun n => absurd ⟨Int32.not_lt.mp a, e2.mp b⟩ n)⟩
end CLD
