section SET
theorem i_vc_set {k : Nat} {u : SX} {v : SY} (I : i_Rel k u v) (hk : k + 4 ≤ 2048) (v1 : Int32) (v2 : Int32) : wpX_set (fun r u' => wpY_set (fun r' v' => r' = r ∧ i_Rel (k + 4) u' v') v v1 v2) u v1 v2 := by
  obtain ⟨w, y_u, y_v, y_direction, ⟨f_lines, f_fastest, f_gain, f_bend, f_ahead, f_mode, f_holds, f_pace, f_line, f_gone, f_dwellLeft, f_stepsInAll, f_ticksInAll, f_speed, f_present, f_laid, y_speed, y_seen, y_line, y_left, y_went, a_wordCounts, a_letters, a_values, a_limits, a_switches, a_tool, a_inForce, a_origins, a_given, a_rows, a_probe, a_motions, a_thirds, a_centres, a_steps, a_paces, a_dwells, a_marks, a_nexts, a_joints, a_began, y_force, y_origins, y_here, y_has, y_grouped, y_word, y_from, y_to, y_steps, y_paces, y_dwells, y_ends, y_turn, y_first, y_second, y_centre, rfl, rfl, R⟩, rfl⟩ := I
  have same : (0 : Int32) = 0 ∧ i_Rel (k + 4) (f_lines, f_fastest, f_gain, f_bend, f_ahead, f_mode, f_holds, f_pace, f_line, f_gone, f_dwellLeft, f_stepsInAll, f_ticksInAll, f_speed, f_present, f_laid, a_wordCounts, a_letters, a_values, a_limits, a_switches, a_tool, a_inForce, a_origins, a_given, a_rows, a_probe, a_motions, a_thirds, a_centres, a_steps, a_paces, a_dwells, a_marks, a_nexts, a_joints) (f_lines, f_fastest, f_gain, f_bend, f_ahead, y_speed, y_seen, f_mode, y_line, f_pace, y_left, y_went, f_stepsInAll, f_ticksInAll, y_u, y_v, f_holds, a_letters, a_values, a_wordCounts, a_tool, a_began, a_limits, a_switches, y_force, y_origins, y_here, y_has, y_grouped, y_word, y_from, y_to, y_steps, y_paces, y_dwells, y_ends, y_turn, y_first, y_second, y_centre, y_direction) := ⟨rfl, rl_mk R⟩
  by_cases m : f_mode = 0
  case neg => exact br_f m (br_f m same)
  have S0 := rl_st R m
  obtain ⟨cl, wf, hT, hi, hF, cf, cg, cb, ca⟩ := R.1
  have rng : ∀ (lo hi x : Int32), 0 ≤ lo.toInt → lo ≤ x → x ≤ hi → ∃ q : Nat, x = nI q ∧ lo.toInt ≤ (q : Int) ∧ (q : Int) ≤ hi.toInt := by
    intro lo hi x l0 a b
    obtain ⟨q, q1, q2⟩ := nI_of (x := x) (by rw [fc_lt, fc_0]; rw [fc_le] at a; omega)
    refine ⟨q, q2, ?_⟩
    rw [fc_le, q2, nI_toInt q1] at a
    rw [fc_le, q2, nI_toInt q1] at b
    omega
  sorry
end SET
