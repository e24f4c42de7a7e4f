section ADV
def ad_X (PX : Int32 → SX → Prop) (x1 x2 : Int32) (f : Nat) (x3 : Int32) (u : SX) : Prop := match u with | (f_lines, f_fastest, f_gain, f_bend, f_ahead, f_mode, f_holds, f_pace, f_line, f_gone, f_dwellLeft, f_stepsInAll, f_ticksInAll, f_speed, f_present, f_laid, a_wordCounts, a_letters, a_values, a_limits, a_switches, a_tool, a_inForce, a_origins, a_given, a_rows, a_probe, a_motions, a_thirds, a_centres, a_steps, a_paces, a_dwells, a_marks, a_nexts, a_joints) => wX_advance_20 PX x1 x2 f x3 f_lines f_fastest f_gain f_bend f_ahead f_mode f_holds f_pace f_line f_gone f_dwellLeft f_stepsInAll f_ticksInAll f_speed f_present f_laid a_wordCounts a_letters a_values a_limits a_switches a_tool a_inForce a_origins a_given a_rows a_probe a_motions a_thirds a_centres a_steps a_paces a_dwells a_marks a_nexts a_joints
def ad_Y (PY : Int32 → SY → Prop) (x1 x2 : Int32) (f : Nat) (x3 : Int32) (v : SY) : Prop := match v with | (f_lines, f_fastest, f_gain, f_bend, f_ahead, f_speed, f_seen, f_state, f_line, f_pace, f_left, f_went, f_allSteps, f_allTicks, f_u, f_v, f_holds, a_letters, a_values, a_many, a_tool, a_began, a_limit, a_trips, a_force, a_origins, a_here, a_has, a_grouped, a_word, a_from, a_to, a_steps, a_paces, a_dwells, a_ends, a_turn, a_first, a_second, a_centre, a_direction) => wY_advance_20 PY x1 x2 f x3 f_lines f_fastest f_gain f_bend f_ahead f_speed f_seen f_state f_line f_pace f_left f_went f_allSteps f_allTicks f_u f_v f_holds a_letters a_values a_many a_tool a_began a_limit a_trips a_force a_origins a_here a_has a_grouped a_word a_from a_to a_steps a_paces a_dwells a_ends a_turn a_first a_second a_centre a_direction
theorem ad_ {b : Nat} (hb : b ≤ 3000) : ∀ d j u w, j + d = b → rl_V u w → ∃ u' w', rl_V u' w' ∧ (∀ (PX : Int32 → SX → Prop) x2, PX (gs_X u' - x2) u' → ad_X PX (nI b) x2 (d + 1) (nI j) u) ∧
    (∀ (PY : Int32 → SY → Prop) x2 s1 s2 s3, (∀ t1 t2 t3, PY (gs_X u' - x2) (w' t1 t2 t3)) → ad_Y PY (nI b) x2 (d + 1) (nI j) (w s1 s2 s3)) := by
  intro d
  induction d with
  | zero =>
    intro j u w hj V
    obtain rfl : j = b := by omega
    refine ⟨u, w, V, fun PX x2 h => ?_, fun PY x2 s1 s2 s3 h => ?_⟩
    · obtain ⟨f_lines, f_fastest, f_gain, f_bend, f_ahead, f_mode, f_holds, f_pace, f_line, f_gone, f_dwellLeft, f_stepsInAll, f_ticksInAll, f_speed, f_present, f_laid, a_wordCounts, a_letters, a_values, a_limits, a_switches, a_tool, a_inForce, a_origins, a_given, a_rows, a_probe, a_motions, a_thirds, a_centres, a_steps, a_paces, a_dwells, a_marks, a_nexts, a_joints⟩ := u
      exact br_t (nI_le (Nat.le_refl _) (by omega)) h
    · obtain ⟨f_lines, f_fastest, f_gain, f_bend, f_ahead, f_mode, f_holds, f_pace, f_line, f_gone, f_dwellLeft, f_stepsInAll, f_ticksInAll, f_speed, f_present, f_laid, y_speed, y_seen, y_line, y_left, y_went, a_wordCounts, a_letters, a_values, a_limits, a_switches, a_tool, a_inForce, a_origins, a_given, a_rows, a_probe, a_motions, a_thirds, a_centres, a_steps, a_paces, a_dwells, a_marks, a_nexts, a_joints, a_began, y_force, y_origins, y_here, y_has, y_grouped, y_word, y_from, y_to, y_steps, y_paces, y_dwells, y_ends, y_turn, y_first, y_second, y_centre, rfl, rfl, R⟩ := V
      exact br_t (nI_le (Nat.le_refl _) (by omega)) (h s1 s2 s3)
  | succ d ih =>
    intro j u w hj V
    obtain ⟨f_lines, f_fastest, f_gain, f_bend, f_ahead, f_mode, f_holds, f_pace, f_line, f_gone, f_dwellLeft, f_stepsInAll, f_ticksInAll, f_speed, f_present, f_laid, y_speed, y_seen, y_line, y_left, y_went, a_wordCounts, a_letters, a_values, a_limits, a_switches, a_tool, a_inForce, a_origins, a_given, a_rows, a_probe, a_motions, a_thirds, a_centres, a_steps, a_paces, a_dwells, a_marks, a_nexts, a_joints, a_began, y_force, y_origins, y_here, y_has, y_grouped, y_word, y_from, y_to, y_steps, y_paces, y_dwells, y_ends, y_turn, y_first, y_second, y_centre, rfl, rfl, R⟩ := V
    obtain ⟨u1, w1, V1, TX, TY⟩ := tk_ R
    obtain ⟨u2, w2, V2, AX, AY⟩ := ih (j + 1) u1 w1 (by omega) V1
    have nl : ¬ nI b ≤ nI j := nI_ge (by omega) (by omega)
    refine ⟨u2, w2, V2, fun PX x2 h => ?_, fun PY x2 s1 s2 s3 h => ?_⟩
    · refine br_f nl (TX _ ?_)
      have a := AX PX x2 h
      obtain ⟨f_lines, f_fastest, f_gain, f_bend, f_ahead, f_mode, f_holds, f_pace, f_line, f_gone, f_dwellLeft, f_stepsInAll, f_ticksInAll, f_speed, f_present, f_laid, a_wordCounts, a_letters, a_values, a_limits, a_switches, a_tool, a_inForce, a_origins, a_given, a_rows, a_probe, a_motions, a_thirds, a_centres, a_steps, a_paces, a_dwells, a_marks, a_nexts, a_joints⟩ := u1
      exact nm_r (nI_1 j) a
    · refine TY PY (nI b) x2 (d + 1) (nI j) s1 s2 s3 nl (fun t1 t2 t3 => ?_)
      have a := AY PY x2 t1 t2 t3 h
      generalize w1 t1 t2 t3 = v1 at a ⊢
      obtain ⟨f_lines, f_fastest, f_gain, f_bend, f_ahead, f_speed, f_seen, f_state, f_line, f_pace, f_left, f_went, f_allSteps, f_allTicks, f_u, f_v, f_holds, a_letters, a_values, a_many, a_tool, a_began, a_limit, a_trips, a_force, a_origins, a_here, a_has, a_grouped, a_word, a_from, a_to, a_steps, a_paces, a_dwells, a_ends, a_turn, a_first, a_second, a_centre, a_direction⟩ := v1
      rw [nI_1]
      exact a
end ADV
