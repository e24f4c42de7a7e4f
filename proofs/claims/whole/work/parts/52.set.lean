section SET
theorem i_vc_set {k : Nat} {u : SX} {v : SY} (I : i_Rel k u v) (hk : k + 4 ≤ 2048) (v1 : Int32) (v2 : Int32) : wpX_set (fun r u' => wpY_set (fun r' v' => r' = r ∧ i_Rel (k + 4) u' v') v v1 v2) u v1 v2 := by
  obtain ⟨w, y_u, y_v, y_direction, ⟨f_lines, f_fastest, f_gain, f_bend, f_ahead, f_mode, f_holds, f_pace, f_line, f_gone, f_dwellLeft, f_stepsInAll, f_ticksInAll, f_speed, f_present, f_laid, y_speed, y_seen, y_line, y_left, y_went, a_wordCounts, a_letters, a_values, a_limits, a_switches, a_tool, a_inForce, a_origins, a_given, a_rows, a_probe, a_motions, a_thirds, a_centres, a_steps, a_paces, a_dwells, a_marks, a_nexts, a_joints, a_began, y_force, y_origins, y_here, y_has, y_grouped, y_word, y_from, y_to, y_steps, y_paces, y_dwells, y_ends, y_turn, y_first, y_second, y_centre, rfl, rfl, R⟩, rfl⟩ := I
  have same : (0 : Int32) = 0 ∧ i_Rel (k + 4) (f_lines, f_fastest, f_gain, f_bend, f_ahead, f_mode, f_holds, f_pace, f_line, f_gone, f_dwellLeft, f_stepsInAll, f_ticksInAll, f_speed, f_present, f_laid, a_wordCounts, a_letters, a_values, a_limits, a_switches, a_tool, a_inForce, a_origins, a_given, a_rows, a_probe, a_motions, a_thirds, a_centres, a_steps, a_paces, a_dwells, a_marks, a_nexts, a_joints) (f_lines, f_fastest, f_gain, f_bend, f_ahead, y_speed, y_seen, f_mode, y_line, f_pace, y_left, y_went, f_stepsInAll, f_ticksInAll, y_u, y_v, f_holds, a_letters, a_values, a_wordCounts, a_tool, a_began, a_limits, a_switches, y_force, y_origins, y_here, y_has, y_grouped, y_word, y_from, y_to, y_steps, y_paces, y_dwells, y_ends, y_turn, y_first, y_second, y_centre, y_direction) := ⟨rfl, rl_mk R⟩
  by_cases m : f_mode = 0
  case neg => exact br_f m (br_f m same)
  have S0 := rl_st R m
  obtain ⟨cl, wf, hT, hi, hF, cf, cg, cb, ca⟩ := R.1
  have rng : ∀ (lo hi x : Int32), 0 ≤ lo.toInt → lo ≤ x → x ≤ hi → ∃ q : Nat, x = nI q ∧ lo.toInt ≤ (q : Int) ∧ (q : Int) ≤ hi.toInt := by
    intro lo hi x l0 a b
    obtain ⟨q, q1, q2⟩ := nI_of (x := x) (by rw [fc_lt, fc_0]; rw [fc_le] at a; omega)
    refine ⟨q, q2, ?_⟩
    rw [fc_le, q2, nI_toInt q1] at a
    rw [fc_le, q2, nI_toInt q1] at b
    omega
  have C0 := R.1
  have nn : ∀ lo hi : Int32, 0 ≤ lo.toInt → lo ≤ v2 → v2 ≤ hi → ∃ q : Nat, v2 = nI q ∧ lo.toInt ≤ (q : Int) ∧ (q : Int) ≤ hi.toInt := fun lo hi a b c => rng lo hi v2 a b c
  have r3 : 1 ≤ v2 → v2 ≤ 2000 → i_Rel (k + 4) (f_lines, v2, f_gain, f_bend, f_ahead, f_mode, f_holds, f_pace, f_line, f_gone, f_dwellLeft, f_stepsInAll, f_ticksInAll, f_speed, f_present, f_laid, a_wordCounts, a_letters, a_values, a_limits, a_switches, a_tool, a_inForce, a_origins, a_given, a_rows, a_probe, a_motions, a_thirds, a_centres, a_steps, a_paces, a_dwells, a_marks, a_nexts, a_joints) (f_lines, v2, f_gain, f_bend, f_ahead, y_speed, y_seen, f_mode, y_line, f_pace, y_left, y_went, f_stepsInAll, f_ticksInAll, y_u, y_v, f_holds, a_letters, a_values, a_wordCounts, a_tool, a_began, a_limits, a_switches, y_force, y_origins, y_here, y_has, y_grouped, y_word, y_from, y_to, y_steps, y_paces, y_dwells, y_ends, y_turn, y_first, y_second, y_centre, y_direction) := by
    intro a b
    refine rl_mk ⟨⟨cl, wf, hT, hi, hF, ?_, cg, cb, ca⟩, Or.inl S0⟩
    rw [fc_le, fc_1] at a; rw [fc_le, show (2000 : Int32).toInt = 2000 from by decide] at b; omega
  have r4 : 1 ≤ v2 → v2 ≤ 200 → i_Rel (k + 4) (f_lines, f_fastest, v2, f_bend, f_ahead, f_mode, f_holds, f_pace, f_line, f_gone, f_dwellLeft, f_stepsInAll, f_ticksInAll, f_speed, f_present, f_laid, a_wordCounts, a_letters, a_values, a_limits, a_switches, a_tool, a_inForce, a_origins, a_given, a_rows, a_probe, a_motions, a_thirds, a_centres, a_steps, a_paces, a_dwells, a_marks, a_nexts, a_joints) (f_lines, f_fastest, v2, f_bend, f_ahead, y_speed, y_seen, f_mode, y_line, f_pace, y_left, y_went, f_stepsInAll, f_ticksInAll, y_u, y_v, f_holds, a_letters, a_values, a_wordCounts, a_tool, a_began, a_limits, a_switches, y_force, y_origins, y_here, y_has, y_grouped, y_word, y_from, y_to, y_steps, y_paces, y_dwells, y_ends, y_turn, y_first, y_second, y_centre, y_direction) := by
    intro a b
    obtain ⟨q, q1, q2, q3⟩ := nn 1 200 (by decide) a b
    rw [fc_1] at q2; rw [show (200 : Int32).toInt = 200 from by decide] at q3
    exact rl_mk ⟨⟨cl, wf, hT, hi, hF, cf, ⟨q, ⟨by omega, by omega⟩, q1⟩, cb, ca⟩, Or.inl S0⟩
  have r5 : 0 ≤ v2 → v2 ≤ 2000 → i_Rel (k + 4) (f_lines, f_fastest, f_gain, v2, f_ahead, f_mode, f_holds, f_pace, f_line, f_gone, f_dwellLeft, f_stepsInAll, f_ticksInAll, f_speed, f_present, f_laid, a_wordCounts, a_letters, a_values, a_limits, a_switches, a_tool, a_inForce, a_origins, a_given, a_rows, a_probe, a_motions, a_thirds, a_centres, a_steps, a_paces, a_dwells, a_marks, a_nexts, a_joints) (f_lines, f_fastest, f_gain, v2, f_ahead, y_speed, y_seen, f_mode, y_line, f_pace, y_left, y_went, f_stepsInAll, f_ticksInAll, y_u, y_v, f_holds, a_letters, a_values, a_wordCounts, a_tool, a_began, a_limits, a_switches, y_force, y_origins, y_here, y_has, y_grouped, y_word, y_from, y_to, y_steps, y_paces, y_dwells, y_ends, y_turn, y_first, y_second, y_centre, y_direction) := by
    intro a b
    refine rl_mk ⟨⟨cl, wf, hT, hi, hF, cf, cg, ?_, ca⟩, Or.inl S0⟩
    rw [fc_le, fc_0] at a; rw [fc_le, show (2000 : Int32).toInt = 2000 from by decide] at b; omega
  have r6 : 1 ≤ v2 → v2 ≤ 6 → i_Rel (k + 4) (f_lines, f_fastest, f_gain, f_bend, v2, f_mode, f_holds, f_pace, f_line, f_gone, f_dwellLeft, f_stepsInAll, f_ticksInAll, f_speed, f_present, f_laid, a_wordCounts, a_letters, a_values, a_limits, a_switches, a_tool, a_inForce, a_origins, a_given, a_rows, a_probe, a_motions, a_thirds, a_centres, a_steps, a_paces, a_dwells, a_marks, a_nexts, a_joints) (f_lines, f_fastest, f_gain, f_bend, v2, y_speed, y_seen, f_mode, y_line, f_pace, y_left, y_went, f_stepsInAll, f_ticksInAll, y_u, y_v, f_holds, a_letters, a_values, a_wordCounts, a_tool, a_began, a_limits, a_switches, y_force, y_origins, y_here, y_has, y_grouped, y_word, y_from, y_to, y_steps, y_paces, y_dwells, y_ends, y_turn, y_first, y_second, y_centre, y_direction) := by
    intro a b
    obtain ⟨q, q1, q2, q3⟩ := nn 1 6 (by decide) a b
    rw [fc_1] at q2; rw [fc_6] at q3
    exact rl_mk ⟨⟨cl, wf, hT, hi, hF, cf, cg, cb, ⟨q, ⟨by omega, by omega⟩, q1⟩⟩, Or.inl S0⟩
  have r012 : ∀ j, j < 3 → a_tool j ≤ v2 → 1 ≤ v2 → v2 ≤ 1000 → i_Rel (k + 4) (f_lines, f_fastest, f_gain, f_bend, f_ahead, f_mode, f_holds, f_pace, f_line, f_gone, f_dwellLeft, f_stepsInAll, f_ticksInAll, f_speed, f_present, f_laid, a_wordCounts, a_letters, a_values, (upd a_limits j v2), a_switches, a_tool, a_inForce, a_origins, a_given, a_rows, a_probe, a_motions, a_thirds, a_centres, a_steps, a_paces, a_dwells, a_marks, a_nexts, a_joints) (f_lines, f_fastest, f_gain, f_bend, f_ahead, y_speed, y_seen, f_mode, y_line, f_pace, y_left, y_went, f_stepsInAll, f_ticksInAll, y_u, y_v, f_holds, a_letters, a_values, a_wordCounts, a_tool, a_began, (upd a_limits j v2), a_switches, y_force, y_origins, y_here, y_has, y_grouped, y_word, y_from, y_to, y_steps, y_paces, y_dwells, y_ends, y_turn, y_first, y_second, y_centre, y_direction) := by
    intro j hj t a b
    rw [fc_le, fc_1] at a; rw [fc_le, fc_1000] at b; rw [fc_le] at t
    refine rl_mk ⟨⟨cl, ⟨wf.1, wf.2.1, wf.2.2.1, fun a' ha' => ?_⟩, fun a' ha' => ?_, hi, hF, cf, cg, cb, ca⟩, Or.inl S0⟩
    · by_cases e : a' = j
      · subst e; rw [pk_us]; omega
      · rw [pk_un e]; exact wf.2.2.2 a' ha'
    · by_cases e : a' = j
      · subst e; rw [pk_us]; have := hT a' ha'; omega
      · rw [pk_un e]; exact hT a' ha'
  have y3n : ∀ PY : Int32 → SY → Prop, ¬ (1 ≤ v2 ∧ v2 ≤ 2000) → PY 0 (f_lines, f_fastest, f_gain, f_bend, f_ahead, y_speed, y_seen, f_mode, y_line, f_pace, y_left, y_went, f_stepsInAll, f_ticksInAll, y_u, y_v, f_holds, a_letters, a_values, a_wordCounts, a_tool, a_began, a_limits, a_switches, y_force, y_origins, y_here, y_has, y_grouped, y_word, y_from, y_to, y_steps, y_paces, y_dwells, y_ends, y_turn, y_first, y_second, y_centre, y_direction) → wpY_set PY (f_lines, f_fastest, f_gain, f_bend, f_ahead, y_speed, y_seen, f_mode, y_line, f_pace, y_left, y_went, f_stepsInAll, f_ticksInAll, y_u, y_v, f_holds, a_letters, a_values, a_wordCounts, a_tool, a_began, a_limits, a_switches, y_force, y_origins, y_here, y_has, y_grouped, y_word, y_from, y_to, y_steps, y_paces, y_dwells, y_ends, y_turn, y_first, y_second, y_centre, y_direction) 3 v2 := by
    intro PY hn h
    unfold wpY_set wY_set_67 wY_set_77 wY_set_96
    dsimp only
    exact br_t m (yl_in (fun _ _ => br_f (by decide) (br_t (by decide) (br_f (by decide) (br_t rfl (yl_in (fun a b => absurd ⟨a, b⟩ hn) (fun _ => br_t rfl h)))))) (fun z => absurd ⟨by decide, by decide⟩ z))
  have y3y : ∀ PY : Int32 → SY → Prop, 1 ≤ v2 → v2 ≤ 2000 → PY 1 (f_lines, v2, f_gain, f_bend, f_ahead, y_speed, y_seen, f_mode, y_line, f_pace, y_left, y_went, f_stepsInAll, f_ticksInAll, y_u, y_v, f_holds, a_letters, a_values, a_wordCounts, a_tool, a_began, a_limits, a_switches, y_force, y_origins, y_here, y_has, y_grouped, y_word, y_from, y_to, y_steps, y_paces, y_dwells, y_ends, y_turn, y_first, y_second, y_centre, y_direction) → wpY_set PY (f_lines, f_fastest, f_gain, f_bend, f_ahead, y_speed, y_seen, f_mode, y_line, f_pace, y_left, y_went, f_stepsInAll, f_ticksInAll, y_u, y_v, f_holds, a_letters, a_values, a_wordCounts, a_tool, a_began, a_limits, a_switches, y_force, y_origins, y_here, y_has, y_grouped, y_word, y_from, y_to, y_steps, y_paces, y_dwells, y_ends, y_turn, y_first, y_second, y_centre, y_direction) 3 v2 := by
    intro PY ha hb h
    unfold wpY_set wY_set_67 wY_set_77 wY_set_96
    dsimp only
    exact br_t m (yl_in (fun _ _ => br_f (by decide) (br_t (by decide) (br_f (by decide) (br_t rfl (yl_in (fun _ _ => br_f (by decide) (br_t rfl (br_f (by decide) (br_f (by decide) (br_f (by decide) h))))) (fun z => absurd ⟨ha, hb⟩ z)))))) (fun z => absurd ⟨by decide, by decide⟩ z))
  have x3 : ∀ PX : Int32 → SX → Prop, (¬ (1 ≤ v2 ∧ v2 ≤ 2000) → PX 0 (f_lines, f_fastest, f_gain, f_bend, f_ahead, f_mode, f_holds, f_pace, f_line, f_gone, f_dwellLeft, f_stepsInAll, f_ticksInAll, f_speed, f_present, f_laid, a_wordCounts, a_letters, a_values, a_limits, a_switches, a_tool, a_inForce, a_origins, a_given, a_rows, a_probe, a_motions, a_thirds, a_centres, a_steps, a_paces, a_dwells, a_marks, a_nexts, a_joints)) → (1 ≤ v2 → v2 ≤ 2000 → PX 1 (f_lines, v2, f_gain, f_bend, f_ahead, f_mode, f_holds, f_pace, f_line, f_gone, f_dwellLeft, f_stepsInAll, f_ticksInAll, f_speed, f_present, f_laid, a_wordCounts, a_letters, a_values, a_limits, a_switches, a_tool, a_inForce, a_origins, a_given, a_rows, a_probe, a_motions, a_thirds, a_centres, a_steps, a_paces, a_dwells, a_marks, a_nexts, a_joints)) → wpX_set PX (f_lines, f_fastest, f_gain, f_bend, f_ahead, f_mode, f_holds, f_pace, f_line, f_gone, f_dwellLeft, f_stepsInAll, f_ticksInAll, f_speed, f_present, f_laid, a_wordCounts, a_letters, a_values, a_limits, a_switches, a_tool, a_inForce, a_origins, a_given, a_rows, a_probe, a_motions, a_thirds, a_centres, a_steps, a_paces, a_dwells, a_marks, a_nexts, a_joints) 3 v2 := by
    intro PX h0 h1
    refine br_t m ?_
    refine br_t (by decide) (br_t (by decide) (br_f (by decide) (?_)))
    refine br_c (fun a => h0 (fun z => Int32.not_lt.mpr z.1 a)) (fun a => ?_)
    refine br_f (by decide) (br_f (by decide) (br_f (by decide) (br_f (by decide) (br_f (by decide) (br_t rfl (?_))))))
    refine br_c (fun b => ?_) (fun b => h0 (fun z => b z.2))
    exact br_f (by decide) (br_f (by decide) (br_f (by decide) (br_f (by decide) (br_f (by decide) (br_t rfl (h1 (Int32.not_lt.mp a) b))))))
  have y4n : ∀ PY : Int32 → SY → Prop, ¬ (1 ≤ v2 ∧ v2 ≤ 200) → PY 0 (f_lines, f_fastest, f_gain, f_bend, f_ahead, y_speed, y_seen, f_mode, y_line, f_pace, y_left, y_went, f_stepsInAll, f_ticksInAll, y_u, y_v, f_holds, a_letters, a_values, a_wordCounts, a_tool, a_began, a_limits, a_switches, y_force, y_origins, y_here, y_has, y_grouped, y_word, y_from, y_to, y_steps, y_paces, y_dwells, y_ends, y_turn, y_first, y_second, y_centre, y_direction) → wpY_set PY (f_lines, f_fastest, f_gain, f_bend, f_ahead, y_speed, y_seen, f_mode, y_line, f_pace, y_left, y_went, f_stepsInAll, f_ticksInAll, y_u, y_v, f_holds, a_letters, a_values, a_wordCounts, a_tool, a_began, a_limits, a_switches, y_force, y_origins, y_here, y_has, y_grouped, y_word, y_from, y_to, y_steps, y_paces, y_dwells, y_ends, y_turn, y_first, y_second, y_centre, y_direction) 4 v2 := by
    intro PY hn h
    exact br_t m (yl_in (fun _ _ => br_f (by decide) (br_t (by decide) (br_f (by decide) (br_f (by decide) (br_f (by decide) (br_t rfl (yl_in (fun a b => absurd ⟨a, b⟩ hn) (fun _ => br_t rfl h)))))))) (fun z => absurd ⟨by decide, by decide⟩ z))
  have y4y : ∀ PY : Int32 → SY → Prop, 1 ≤ v2 → v2 ≤ 200 → PY 1 (f_lines, f_fastest, v2, f_bend, f_ahead, y_speed, y_seen, f_mode, y_line, f_pace, y_left, y_went, f_stepsInAll, f_ticksInAll, y_u, y_v, f_holds, a_letters, a_values, a_wordCounts, a_tool, a_began, a_limits, a_switches, y_force, y_origins, y_here, y_has, y_grouped, y_word, y_from, y_to, y_steps, y_paces, y_dwells, y_ends, y_turn, y_first, y_second, y_centre, y_direction) → wpY_set PY (f_lines, f_fastest, f_gain, f_bend, f_ahead, y_speed, y_seen, f_mode, y_line, f_pace, y_left, y_went, f_stepsInAll, f_ticksInAll, y_u, y_v, f_holds, a_letters, a_values, a_wordCounts, a_tool, a_began, a_limits, a_switches, y_force, y_origins, y_here, y_has, y_grouped, y_word, y_from, y_to, y_steps, y_paces, y_dwells, y_ends, y_turn, y_first, y_second, y_centre, y_direction) 4 v2 := by
    intro PY ha hb h
    exact br_t m (yl_in (fun _ _ => br_f (by decide) (br_t (by decide) (br_f (by decide) (br_f (by decide) (br_f (by decide) (br_t rfl (yl_in (fun _ _ => br_f (by decide) (br_f (by decide) (br_t rfl (br_f (by decide) (br_f (by decide) h))))) (fun z => absurd ⟨ha, hb⟩ z)))))))) (fun z => absurd ⟨by decide, by decide⟩ z))
  have x4 : ∀ PX : Int32 → SX → Prop, (¬ (1 ≤ v2 ∧ v2 ≤ 200) → PX 0 (f_lines, f_fastest, f_gain, f_bend, f_ahead, f_mode, f_holds, f_pace, f_line, f_gone, f_dwellLeft, f_stepsInAll, f_ticksInAll, f_speed, f_present, f_laid, a_wordCounts, a_letters, a_values, a_limits, a_switches, a_tool, a_inForce, a_origins, a_given, a_rows, a_probe, a_motions, a_thirds, a_centres, a_steps, a_paces, a_dwells, a_marks, a_nexts, a_joints)) → (1 ≤ v2 → v2 ≤ 200 → PX 1 (f_lines, f_fastest, v2, f_bend, f_ahead, f_mode, f_holds, f_pace, f_line, f_gone, f_dwellLeft, f_stepsInAll, f_ticksInAll, f_speed, f_present, f_laid, a_wordCounts, a_letters, a_values, a_limits, a_switches, a_tool, a_inForce, a_origins, a_given, a_rows, a_probe, a_motions, a_thirds, a_centres, a_steps, a_paces, a_dwells, a_marks, a_nexts, a_joints)) → wpX_set PX (f_lines, f_fastest, f_gain, f_bend, f_ahead, f_mode, f_holds, f_pace, f_line, f_gone, f_dwellLeft, f_stepsInAll, f_ticksInAll, f_speed, f_present, f_laid, a_wordCounts, a_letters, a_values, a_limits, a_switches, a_tool, a_inForce, a_origins, a_given, a_rows, a_probe, a_motions, a_thirds, a_centres, a_steps, a_paces, a_dwells, a_marks, a_nexts, a_joints) 4 v2 := by
    intro PX h0 h1
    refine br_t m ?_
    refine br_t (by decide) (br_t (by decide) (br_f (by decide) (?_)))
    refine br_c (fun a => h0 (fun z => Int32.not_lt.mpr z.1 a)) (fun a => ?_)
    refine br_f (by decide) (br_f (by decide) (br_f (by decide) (br_f (by decide) (br_f (by decide) (br_f (by decide) (br_t rfl (?_)))))))
    refine br_c (fun b => ?_) (fun b => h0 (fun z => b z.2))
    exact br_f (by decide) (br_f (by decide) (br_f (by decide) (br_f (by decide) (br_f (by decide) (br_f (by decide) (br_t rfl (h1 (Int32.not_lt.mp a) b)))))))
  have y5n : ∀ PY : Int32 → SY → Prop, ¬ (0 ≤ v2 ∧ v2 ≤ 2000) → PY 0 (f_lines, f_fastest, f_gain, f_bend, f_ahead, y_speed, y_seen, f_mode, y_line, f_pace, y_left, y_went, f_stepsInAll, f_ticksInAll, y_u, y_v, f_holds, a_letters, a_values, a_wordCounts, a_tool, a_began, a_limits, a_switches, y_force, y_origins, y_here, y_has, y_grouped, y_word, y_from, y_to, y_steps, y_paces, y_dwells, y_ends, y_turn, y_first, y_second, y_centre, y_direction) → wpY_set PY (f_lines, f_fastest, f_gain, f_bend, f_ahead, y_speed, y_seen, f_mode, y_line, f_pace, y_left, y_went, f_stepsInAll, f_ticksInAll, y_u, y_v, f_holds, a_letters, a_values, a_wordCounts, a_tool, a_began, a_limits, a_switches, y_force, y_origins, y_here, y_has, y_grouped, y_word, y_from, y_to, y_steps, y_paces, y_dwells, y_ends, y_turn, y_first, y_second, y_centre, y_direction) 5 v2 := by
    intro PY hn h
    unfold wpY_set wY_set_67 wY_set_77 wY_set_96
    dsimp only
    exact br_t m (yl_in (fun _ _ => br_f (by decide) (br_t (by decide) (br_t rfl (br_f (by decide) (br_t rfl (yl_in (fun a b => absurd ⟨a, b⟩ hn) (fun _ => br_t rfl h))))))) (fun z => absurd ⟨by decide, by decide⟩ z))
  have y5y : ∀ PY : Int32 → SY → Prop, 0 ≤ v2 → v2 ≤ 2000 → PY 1 (f_lines, f_fastest, f_gain, v2, f_ahead, y_speed, y_seen, f_mode, y_line, f_pace, y_left, y_went, f_stepsInAll, f_ticksInAll, y_u, y_v, f_holds, a_letters, a_values, a_wordCounts, a_tool, a_began, a_limits, a_switches, y_force, y_origins, y_here, y_has, y_grouped, y_word, y_from, y_to, y_steps, y_paces, y_dwells, y_ends, y_turn, y_first, y_second, y_centre, y_direction) → wpY_set PY (f_lines, f_fastest, f_gain, f_bend, f_ahead, y_speed, y_seen, f_mode, y_line, f_pace, y_left, y_went, f_stepsInAll, f_ticksInAll, y_u, y_v, f_holds, a_letters, a_values, a_wordCounts, a_tool, a_began, a_limits, a_switches, y_force, y_origins, y_here, y_has, y_grouped, y_word, y_from, y_to, y_steps, y_paces, y_dwells, y_ends, y_turn, y_first, y_second, y_centre, y_direction) 5 v2 := by
    intro PY ha hb h
    unfold wpY_set wY_set_67 wY_set_77 wY_set_96
    dsimp only
    exact br_t m (yl_in (fun _ _ => br_f (by decide) (br_t (by decide) (br_t rfl (br_f (by decide) (br_t rfl (yl_in (fun _ _ => br_f (by decide) (br_f (by decide) (br_f (by decide) (br_t rfl (br_f (by decide) h))))) (fun z => absurd ⟨ha, hb⟩ z))))))) (fun z => absurd ⟨by decide, by decide⟩ z))
  have x5 : ∀ PX : Int32 → SX → Prop, (¬ (0 ≤ v2 ∧ v2 ≤ 2000) → PX 0 (f_lines, f_fastest, f_gain, f_bend, f_ahead, f_mode, f_holds, f_pace, f_line, f_gone, f_dwellLeft, f_stepsInAll, f_ticksInAll, f_speed, f_present, f_laid, a_wordCounts, a_letters, a_values, a_limits, a_switches, a_tool, a_inForce, a_origins, a_given, a_rows, a_probe, a_motions, a_thirds, a_centres, a_steps, a_paces, a_dwells, a_marks, a_nexts, a_joints)) → (0 ≤ v2 → v2 ≤ 2000 → PX 1 (f_lines, f_fastest, f_gain, v2, f_ahead, f_mode, f_holds, f_pace, f_line, f_gone, f_dwellLeft, f_stepsInAll, f_ticksInAll, f_speed, f_present, f_laid, a_wordCounts, a_letters, a_values, a_limits, a_switches, a_tool, a_inForce, a_origins, a_given, a_rows, a_probe, a_motions, a_thirds, a_centres, a_steps, a_paces, a_dwells, a_marks, a_nexts, a_joints)) → wpX_set PX (f_lines, f_fastest, f_gain, f_bend, f_ahead, f_mode, f_holds, f_pace, f_line, f_gone, f_dwellLeft, f_stepsInAll, f_ticksInAll, f_speed, f_present, f_laid, a_wordCounts, a_letters, a_values, a_limits, a_switches, a_tool, a_inForce, a_origins, a_given, a_rows, a_probe, a_motions, a_thirds, a_centres, a_steps, a_paces, a_dwells, a_marks, a_nexts, a_joints) 5 v2 := by
    intro PX h0 h1
    refine br_t m ?_
    refine br_t (by decide) (br_t (by decide) (br_t rfl (?_)))
    refine br_c (fun a => h0 (fun z => Int32.not_lt.mpr z.1 a)) (fun a => ?_)
    refine br_f (by decide) (br_f (by decide) (br_f (by decide) (br_f (by decide) (br_f (by decide) (br_f (by decide) (br_f (by decide) (br_t rfl (?_))))))))
    refine br_c (fun b => ?_) (fun b => h0 (fun z => b z.2))
    exact br_f (by decide) (br_f (by decide) (br_f (by decide) (br_f (by decide) (br_f (by decide) (br_f (by decide) (br_f (by decide) (br_t rfl (h1 (Int32.not_lt.mp a) b))))))))
  have y6n : ∀ PY : Int32 → SY → Prop, ¬ (1 ≤ v2 ∧ v2 ≤ 6) → PY 0 (f_lines, f_fastest, f_gain, f_bend, f_ahead, y_speed, y_seen, f_mode, y_line, f_pace, y_left, y_went, f_stepsInAll, f_ticksInAll, y_u, y_v, f_holds, a_letters, a_values, a_wordCounts, a_tool, a_began, a_limits, a_switches, y_force, y_origins, y_here, y_has, y_grouped, y_word, y_from, y_to, y_steps, y_paces, y_dwells, y_ends, y_turn, y_first, y_second, y_centre, y_direction) → wpY_set PY (f_lines, f_fastest, f_gain, f_bend, f_ahead, y_speed, y_seen, f_mode, y_line, f_pace, y_left, y_went, f_stepsInAll, f_ticksInAll, y_u, y_v, f_holds, a_letters, a_values, a_wordCounts, a_tool, a_began, a_limits, a_switches, y_force, y_origins, y_here, y_has, y_grouped, y_word, y_from, y_to, y_steps, y_paces, y_dwells, y_ends, y_turn, y_first, y_second, y_centre, y_direction) 6 v2 := by
    intro PY hn h
    exact br_t m (yl_in (fun _ _ => br_f (by decide) (br_t (by decide) (br_f (by decide) (br_f (by decide) (br_f (by decide) (br_f (by decide) (yl_in (fun a b => absurd ⟨a, b⟩ hn) (fun _ => br_t rfl h)))))))) (fun z => absurd ⟨by decide, by decide⟩ z))
  have y6y : ∀ PY : Int32 → SY → Prop, 1 ≤ v2 → v2 ≤ 6 → PY 1 (f_lines, f_fastest, f_gain, f_bend, v2, y_speed, y_seen, f_mode, y_line, f_pace, y_left, y_went, f_stepsInAll, f_ticksInAll, y_u, y_v, f_holds, a_letters, a_values, a_wordCounts, a_tool, a_began, a_limits, a_switches, y_force, y_origins, y_here, y_has, y_grouped, y_word, y_from, y_to, y_steps, y_paces, y_dwells, y_ends, y_turn, y_first, y_second, y_centre, y_direction) → wpY_set PY (f_lines, f_fastest, f_gain, f_bend, f_ahead, y_speed, y_seen, f_mode, y_line, f_pace, y_left, y_went, f_stepsInAll, f_ticksInAll, y_u, y_v, f_holds, a_letters, a_values, a_wordCounts, a_tool, a_began, a_limits, a_switches, y_force, y_origins, y_here, y_has, y_grouped, y_word, y_from, y_to, y_steps, y_paces, y_dwells, y_ends, y_turn, y_first, y_second, y_centre, y_direction) 6 v2 := by
    intro PY ha hb h
    exact br_t m (yl_in (fun _ _ => br_f (by decide) (br_t (by decide) (br_f (by decide) (br_f (by decide) (br_f (by decide) (br_f (by decide) (yl_in (fun _ _ => br_f (by decide) (br_f (by decide) (br_f (by decide) (br_f (by decide) (br_t rfl h))))) (fun z => absurd ⟨ha, hb⟩ z)))))))) (fun z => absurd ⟨by decide, by decide⟩ z))
  have x6 : ∀ PX : Int32 → SX → Prop, (¬ (1 ≤ v2 ∧ v2 ≤ 6) → PX 0 (f_lines, f_fastest, f_gain, f_bend, f_ahead, f_mode, f_holds, f_pace, f_line, f_gone, f_dwellLeft, f_stepsInAll, f_ticksInAll, f_speed, f_present, f_laid, a_wordCounts, a_letters, a_values, a_limits, a_switches, a_tool, a_inForce, a_origins, a_given, a_rows, a_probe, a_motions, a_thirds, a_centres, a_steps, a_paces, a_dwells, a_marks, a_nexts, a_joints)) → (1 ≤ v2 → v2 ≤ 6 → PX 1 (f_lines, f_fastest, f_gain, f_bend, v2, f_mode, f_holds, f_pace, f_line, f_gone, f_dwellLeft, f_stepsInAll, f_ticksInAll, f_speed, f_present, f_laid, a_wordCounts, a_letters, a_values, a_limits, a_switches, a_tool, a_inForce, a_origins, a_given, a_rows, a_probe, a_motions, a_thirds, a_centres, a_steps, a_paces, a_dwells, a_marks, a_nexts, a_joints)) → wpX_set PX (f_lines, f_fastest, f_gain, f_bend, f_ahead, f_mode, f_holds, f_pace, f_line, f_gone, f_dwellLeft, f_stepsInAll, f_ticksInAll, f_speed, f_present, f_laid, a_wordCounts, a_letters, a_values, a_limits, a_switches, a_tool, a_inForce, a_origins, a_given, a_rows, a_probe, a_motions, a_thirds, a_centres, a_steps, a_paces, a_dwells, a_marks, a_nexts, a_joints) 6 v2 := by
    intro PX h0 h1
    refine br_t m ?_
    refine br_t (by decide) (br_t (by decide) (br_f (by decide) (?_)))
    refine br_c (fun a => h0 (fun z => Int32.not_lt.mpr z.1 a)) (fun a => ?_)
    refine br_f (by decide) (br_f (by decide) (br_f (by decide) (br_f (by decide) (br_f (by decide) (br_f (by decide) (br_f (by decide) (br_f (by decide) (br_t rfl (?_)))))))))
    refine br_c (fun b => ?_) (fun b => h0 (fun z => b z.2))
    exact br_f (by decide) (br_t (by decide) (h1 (Int32.not_lt.mp a) b))
  rcases pk_ix v1 (n := 7) (by decide) with c | c | ⟨j, hj, ej⟩
  · have yno : ∀ PY : Int32 → SY → Prop, PY 0 (f_lines, f_fastest, f_gain, f_bend, f_ahead, y_speed, y_seen, f_mode, y_line, f_pace, y_left, y_went, f_stepsInAll, f_ticksInAll, y_u, y_v, f_holds, a_letters, a_values, a_wordCounts, a_tool, a_began, a_limits, a_switches, y_force, y_origins, y_here, y_has, y_grouped, y_word, y_from, y_to, y_steps, y_paces, y_dwells, y_ends, y_turn, y_first, y_second, y_centre, y_direction) → wpY_set PY (f_lines, f_fastest, f_gain, f_bend, f_ahead, y_speed, y_seen, f_mode, y_line, f_pace, y_left, y_went, f_stepsInAll, f_ticksInAll, y_u, y_v, f_holds, a_letters, a_values, a_wordCounts, a_tool, a_began, a_limits, a_switches, y_force, y_origins, y_here, y_has, y_grouped, y_word, y_from, y_to, y_steps, y_paces, y_dwells, y_ends, y_turn, y_first, y_second, y_centre, y_direction) v1 v2 := fun PY h => br_t m (yl_in (fun a _ => absurd c (Int32.not_lt.mpr a)) (fun _ => br_t rfl h))
    refine br_t m (br_f (fun z => Int32.not_lt.mpr z c) (br_c (fun _ => yno _ same) (fun a => br_t c (br_f (fun z => ?_) (yno _ same)))))
    rw [fc_lt, fc_1000] at a; rw [fc_le, fc_m1] at z; omega
  · have c6 : 6 < v1 := by rw [fc_le, show (nI 7).toInt = 7 from by decide] at c; rw [fc_lt, fc_6]; omega
    have yno : ∀ PY : Int32 → SY → Prop, PY 0 (f_lines, f_fastest, f_gain, f_bend, f_ahead, y_speed, y_seen, f_mode, y_line, f_pace, y_left, y_went, f_stepsInAll, f_ticksInAll, y_u, y_v, f_holds, a_letters, a_values, a_wordCounts, a_tool, a_began, a_limits, a_switches, y_force, y_origins, y_here, y_has, y_grouped, y_word, y_from, y_to, y_steps, y_paces, y_dwells, y_ends, y_turn, y_first, y_second, y_centre, y_direction) → wpY_set PY (f_lines, f_fastest, f_gain, f_bend, f_ahead, y_speed, y_seen, f_mode, y_line, f_pace, y_left, y_went, f_stepsInAll, f_ticksInAll, y_u, y_v, f_holds, a_letters, a_values, a_wordCounts, a_tool, a_began, a_limits, a_switches, y_force, y_origins, y_here, y_has, y_grouped, y_word, y_from, y_to, y_steps, y_paces, y_dwells, y_ends, y_turn, y_first, y_second, y_centre, y_direction) v1 v2 := fun PY h => br_t m (yl_in (fun _ b => absurd c6 (Int32.not_lt.mpr b)) (fun _ => br_t rfl h))
    have n0 : 0 ≤ v1 := by rw [fc_lt, fc_6] at c6; rw [fc_le, fc_0]; omega
    have n3 : 3 ≤ v1 := by rw [fc_lt, fc_6] at c6; rw [fc_le, fc_3]; omega
    have n5 : ¬ v1 = 5 := by rw [fc_lt, fc_6] at c6; rw [fc_eq, fc_5]; omega
    refine br_t m (br_t n0 (br_t n3 (br_f n5 (br_c (fun _ => yno _ same) (fun a => br_f (Int32.not_lt.mpr n0) (br_t c6 (br_f (fun z => ?_) (yno _ same))))))))
    rw [fc_lt, fc_1] at a; rw [fc_le, fc_m1] at z; omega
  · subst ej
    have low : ∀ j, j < 3 → wpX_set (fun r u' => wpY_set (fun r' v' => r' = r ∧ i_Rel (k + 4) u' v') (f_lines, f_fastest, f_gain, f_bend, f_ahead, y_speed, y_seen, f_mode, y_line, f_pace, y_left, y_went, f_stepsInAll, f_ticksInAll, y_u, y_v, f_holds, a_letters, a_values, a_wordCounts, a_tool, a_began, a_limits, a_switches, y_force, y_origins, y_here, y_has, y_grouped, y_word, y_from, y_to, y_steps, y_paces, y_dwells, y_ends, y_turn, y_first, y_second, y_centre, y_direction) (nI j) v2) (f_lines, f_fastest, f_gain, f_bend, f_ahead, f_mode, f_holds, f_pace, f_line, f_gone, f_dwellLeft, f_stepsInAll, f_ticksInAll, f_speed, f_present, f_laid, a_wordCounts, a_letters, a_values, a_limits, a_switches, a_tool, a_inForce, a_origins, a_given, a_rows, a_probe, a_motions, a_thirds, a_centres, a_steps, a_paces, a_dwells, a_marks, a_nexts, a_joints) (nI j) v2 := by
      intro j hj
      have i3 : vp_in (nI j) 3 := vp_in_nI hj (by omega)
      have cj : (nI j).toNatClampNeg = j := nI_clamp (by omega)
      have j0 : (0 : Int32) ≤ nI j := nI_pos' (by omega)
      have j6 : nI j ≤ 6 := nI_le (b := 6) (by omega) (by omega)
      have j3 : ¬ (3 : Int32) ≤ nI j := ix_3a hj
      have yno : ∀ PY : Int32 → SY → Prop, ¬ (a_tool j ≤ v2 ∧ 1 ≤ v2 ∧ v2 ≤ 1000) → PY 0 (f_lines, f_fastest, f_gain, f_bend, f_ahead, y_speed, y_seen, f_mode, y_line, f_pace, y_left, y_went, f_stepsInAll, f_ticksInAll, y_u, y_v, f_holds, a_letters, a_values, a_wordCounts, a_tool, a_began, a_limits, a_switches, y_force, y_origins, y_here, y_has, y_grouped, y_word, y_from, y_to, y_steps, y_paces, y_dwells, y_ends, y_turn, y_first, y_second, y_centre, y_direction) → wpY_set PY (f_lines, f_fastest, f_gain, f_bend, f_ahead, y_speed, y_seen, f_mode, y_line, f_pace, y_left, y_went, f_stepsInAll, f_ticksInAll, y_u, y_v, f_holds, a_letters, a_values, a_wordCounts, a_tool, a_began, a_limits, a_switches, y_force, y_origins, y_here, y_has, y_grouped, y_word, y_from, y_to, y_steps, y_paces, y_dwells, y_ends, y_turn, y_first, y_second, y_centre, y_direction) (nI j) v2 := by
        intro PY hn h
        unfold wpY_set
        dsimp only
        rw [cj]
        exact br_t m (yl_in (fun _ _ => br_f (by decide) (br_f j3 ⟨i3, br_c (fun _ => h) (fun t => yl_in (fun a b => absurd ⟨Int32.not_lt.mp t, a, b⟩ hn) (fun _ => br_t rfl h))⟩)) (fun z => absurd ⟨j0, j6⟩ z))
      have yok : ∀ PY : Int32 → SY → Prop, a_tool j ≤ v2 → 1 ≤ v2 → v2 ≤ 1000 → PY 1 (f_lines, f_fastest, f_gain, f_bend, f_ahead, y_speed, y_seen, f_mode, y_line, f_pace, y_left, y_went, f_stepsInAll, f_ticksInAll, y_u, y_v, f_holds, a_letters, a_values, a_wordCounts, a_tool, a_began, (upd a_limits j v2), a_switches, y_force, y_origins, y_here, y_has, y_grouped, y_word, y_from, y_to, y_steps, y_paces, y_dwells, y_ends, y_turn, y_first, y_second, y_centre, y_direction) → wpY_set PY (f_lines, f_fastest, f_gain, f_bend, f_ahead, y_speed, y_seen, f_mode, y_line, f_pace, y_left, y_went, f_stepsInAll, f_ticksInAll, y_u, y_v, f_holds, a_letters, a_values, a_wordCounts, a_tool, a_began, a_limits, a_switches, y_force, y_origins, y_here, y_has, y_grouped, y_word, y_from, y_to, y_steps, y_paces, y_dwells, y_ends, y_turn, y_first, y_second, y_centre, y_direction) (nI j) v2 := by
        intro PY t a b h
        unfold wpY_set
        dsimp only
        rw [cj]
        exact br_t m (yl_in (fun _ _ => br_f (by decide) (br_f j3 ⟨i3, br_f (Int32.not_lt.mpr t) (yl_in (fun _ _ => br_f (by decide) ⟨i3, nm_e h⟩) (fun z => absurd ⟨a, b⟩ z))⟩)) (fun z => absurd ⟨j0, j6⟩ z))
      have xl : ∀ PX : Int32 → SX → Prop, (¬ (a_tool j ≤ v2 ∧ 1 ≤ v2 ∧ v2 ≤ 1000) → PX 0 (f_lines, f_fastest, f_gain, f_bend, f_ahead, f_mode, f_holds, f_pace, f_line, f_gone, f_dwellLeft, f_stepsInAll, f_ticksInAll, f_speed, f_present, f_laid, a_wordCounts, a_letters, a_values, a_limits, a_switches, a_tool, a_inForce, a_origins, a_given, a_rows, a_probe, a_motions, a_thirds, a_centres, a_steps, a_paces, a_dwells, a_marks, a_nexts, a_joints)) → (a_tool j ≤ v2 → 1 ≤ v2 → v2 ≤ 1000 → PX 1 (f_lines, f_fastest, f_gain, f_bend, f_ahead, f_mode, f_holds, f_pace, f_line, f_gone, f_dwellLeft, f_stepsInAll, f_ticksInAll, f_speed, f_present, f_laid, a_wordCounts, a_letters, a_values, (upd a_limits j v2), a_switches, a_tool, a_inForce, a_origins, a_given, a_rows, a_probe, a_motions, a_thirds, a_centres, a_steps, a_paces, a_dwells, a_marks, a_nexts, a_joints)) → wpX_set PX (f_lines, f_fastest, f_gain, f_bend, f_ahead, f_mode, f_holds, f_pace, f_line, f_gone, f_dwellLeft, f_stepsInAll, f_ticksInAll, f_speed, f_present, f_laid, a_wordCounts, a_letters, a_values, a_limits, a_switches, a_tool, a_inForce, a_origins, a_given, a_rows, a_probe, a_motions, a_thirds, a_centres, a_steps, a_paces, a_dwells, a_marks, a_nexts, a_joints) (nI j) v2 := by
        intro PX h0 h1
        have s68 : a_tool j ≤ v2 → 1 ≤ v2 → v2 ≤ 1000 → wX_set_68 PX (nI j) v2 f_lines f_fastest f_gain f_bend f_ahead f_mode f_holds f_pace f_line f_gone f_dwellLeft f_stepsInAll f_ticksInAll f_speed f_present f_laid a_wordCounts a_letters a_values a_limits a_switches a_tool a_inForce a_origins a_given a_rows a_probe a_motions a_thirds a_centres a_steps a_paces a_dwells a_marks a_nexts a_joints := by
          intro t a b
          unfold wX_set_68
          rw [cj]
          exact ⟨i3, nm_e (h1 t a b)⟩
        have sw : a_tool j ≤ v2 → 1 ≤ v2 → ∀ z, z = (1000 : Int32) → True := fun _ _ _ _ => trivial
        have n5 : ¬ (5 : Int32) < nI j := nI_nlt (a := 5) (by omega) (by omega)
        have n6 : ¬ (6 : Int32) < nI j := nI_nlt (a := 6) (by omega) (by omega)
        have nn0 : ¬ nI j < 0 := nI_pos (by omega)
        unfold wpX_set wpX_leastSetting wpX_mostSetting
        dsimp only
        rw [cj]
        have body : (a_tool j ≤ v2 ∧ 1 ≤ v2) → j = 0 ∨ j = 1 ∨ j = 2 → True := fun _ _ => trivial
        refine br_t m (br_t j0 (br_f j3 ⟨i3, ?_⟩))
        have e1 : ∀ x y : Int32, ¬ x < y → y ≤ x := fun x y h => Int32.not_lt.mp h
        match j, hj with
        | 0, _ =>
          refine br_c (fun t => br_c (fun a => h0 (fun z => Int32.not_lt.mpr z.2.1 a)) (fun a => br_f nn0 (br_f n6 (br_t rfl (br_c (fun b => br_f nn0 (br_f n5 (br_t rfl (s68 (Int32.le_trans t (e1 _ _ a)) (e1 _ _ a) b)))) (fun b => h0 (fun z => b z.2.2))))))) (fun t => ⟨i3, br_c (fun a => h0 (fun z => Int32.not_lt.mpr z.1 a)) (fun a => br_f nn0 (br_f n6 (br_t rfl (br_c (fun b => br_f nn0 (br_f n5 (br_t rfl (s68 (e1 _ _ a) (Int32.le_trans (Int32.le_of_lt (Int32.not_le.mp t)) (e1 _ _ a)) b)))) (fun b => h0 (fun z => b z.2.2))))))⟩)
        | 1, _ =>
          refine br_c (fun t => br_c (fun a => h0 (fun z => Int32.not_lt.mpr z.2.1 a)) (fun a => br_f nn0 (br_f n6 (br_f (by decide) (br_t rfl (br_c (fun b => br_f nn0 (br_f n5 (br_f (by decide) (br_t rfl (s68 (Int32.le_trans t (e1 _ _ a)) (e1 _ _ a) b))))) (fun b => h0 (fun z => b z.2.2)))))))) (fun t => ⟨i3, br_c (fun a => h0 (fun z => Int32.not_lt.mpr z.1 a)) (fun a => br_f nn0 (br_f n6 (br_f (by decide) (br_t rfl (br_c (fun b => br_f nn0 (br_f n5 (br_f (by decide) (br_t rfl (s68 (e1 _ _ a) (Int32.le_trans (Int32.le_of_lt (Int32.not_le.mp t)) (e1 _ _ a)) b))))) (fun b => h0 (fun z => b z.2.2)))))))⟩)
        | 2, _ =>
          refine br_c (fun t => br_c (fun a => h0 (fun z => Int32.not_lt.mpr z.2.1 a)) (fun a => br_f nn0 (br_f n6 (br_f (by decide) (br_f (by decide) (br_t rfl (br_c (fun b => br_f nn0 (br_f n5 (br_f (by decide) (br_f (by decide) (br_t rfl (s68 (Int32.le_trans t (e1 _ _ a)) (e1 _ _ a) b)))))) (fun b => h0 (fun z => b z.2.2))))))))) (fun t => ⟨i3, br_c (fun a => h0 (fun z => Int32.not_lt.mpr z.1 a)) (fun a => br_f nn0 (br_f n6 (br_f (by decide) (br_f (by decide) (br_t rfl (br_c (fun b => br_f nn0 (br_f n5 (br_f (by decide) (br_f (by decide) (br_t rfl (s68 (e1 _ _ a) (Int32.le_trans (Int32.le_of_lt (Int32.not_le.mp t)) (e1 _ _ a)) b)))))) (fun b => h0 (fun z => b z.2.2))))))))⟩)
      exact xl _ (fun z => yno _ z same) (fun t a b => yok _ t a b ⟨rfl, r012 j hj t a b⟩)
    match j, hj with
    | 0, _ => exact low 0 (by decide)
    | 1, _ => exact low 1 (by decide)
    | 2, _ => exact low 2 (by decide)
    | 3, _ => exact x3 _ (fun z => y3n _ z same) (fun a b => y3y _ a b ⟨rfl, r3 a b⟩)
    | 4, _ => exact x4 _ (fun z => y4n _ z same) (fun a b => y4y _ a b ⟨rfl, r4 a b⟩)
    | 5, _ => exact x5 _ (fun z => y5n _ z same) (fun a b => y5y _ a b ⟨rfl, r5 a b⟩)
    | 6, _ => exact x6 _ (fun z => y6n _ z same) (fun a b => y6y _ a b ⟨rfl, r6 a b⟩)
end SET
