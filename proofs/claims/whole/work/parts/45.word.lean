section CLC
theorem wf_up {L V M lim : Nat → Int32} {l x : Int32} {j n c : Nat} (wf : ci_WF L V M lim) (hl : 0 ≤ l.toInt ∧ l.toInt ≤ 9) (hx : -3000 ≤ x.toInt ∧ x.toInt ≤ 3000) (hc : c ≤ 8) : ci_WF (upd L j l) (upd V j x) (upd M n (nI c)) lim := by
  refine ⟨fun k => ?_, fun k => ?_, fun m => ?_, wf.2.2.2⟩
  · by_cases e : k = j
    · subst e; rw [pk_us]; exact hl
    · rw [pk_un e]; exact wf.1 k
  · by_cases e : k = j
    · subst e; rw [pk_us]; exact hx
    · rw [pk_un e]; exact wf.2.1 k
  · unfold px_n
    by_cases e : m = n
    · subst e; rw [pk_us, nI_clamp (by omega)]; exact ⟨rfl, hc⟩
    · rw [pk_un e]; exact wf.2.2.1 m
theorem i_vc_word {k : Nat} {u : SX} {v : SY} (I : i_Rel k u v) (hk : k + 4 ≤ 2048) (v1 : Int32) (v2 : Int32) (v3 : Int32) : wpX_word (fun r u' => wpY_word (fun r' v' => r' = r ∧ i_Rel (k + 4) u' v') v (lw_bz v1) v2 v3) u (lw_bz v1) v2 v3 := by
  obtain ⟨w, y_u, y_v, y_direction, ⟨f_lines, f_fastest, f_gain, f_bend, f_ahead, f_mode, f_holds, f_pace, f_line, f_gone, f_dwellLeft, f_stepsInAll, f_ticksInAll, f_speed, f_present, f_laid, y_speed, y_seen, y_line, y_left, y_went, a_wordCounts, a_letters, a_values, a_limits, a_switches, a_tool, a_inForce, a_origins, a_given, a_rows, a_probe, a_motions, a_thirds, a_centres, a_steps, a_paces, a_dwells, a_marks, a_nexts, a_joints, a_began, y_force, y_origins, y_here, y_has, y_grouped, y_word, y_from, y_to, y_steps, y_paces, y_dwells, y_ends, y_turn, y_first, y_second, y_centre, rfl, rfl, R⟩, rfl⟩ := I
  generalize lw_bz v1 = p0
  have same : (-1 : Int32) = -1 ∧ i_Rel (k + 4) (f_lines, f_fastest, f_gain, f_bend, f_ahead, f_mode, f_holds, f_pace, f_line, f_gone, f_dwellLeft, f_stepsInAll, f_ticksInAll, f_speed, f_present, f_laid, a_wordCounts, a_letters, a_values, a_limits, a_switches, a_tool, a_inForce, a_origins, a_given, a_rows, a_probe, a_motions, a_thirds, a_centres, a_steps, a_paces, a_dwells, a_marks, a_nexts, a_joints) (f_lines, f_fastest, f_gain, f_bend, f_ahead, y_speed, y_seen, f_mode, y_line, f_pace, y_left, y_went, f_stepsInAll, f_ticksInAll, y_u, y_v, f_holds, a_letters, a_values, a_wordCounts, a_tool, a_began, a_limits, a_switches, y_force, y_origins, y_here, y_has, y_grouped, y_word, y_from, y_to, y_steps, y_paces, y_dwells, y_ends, y_turn, y_first, y_second, y_centre, y_direction) := ⟨rfl, rl_mk R⟩
  have same2 : (-2 : Int32) = -2 ∧ i_Rel (k + 4) (f_lines, f_fastest, f_gain, f_bend, f_ahead, f_mode, f_holds, f_pace, f_line, f_gone, f_dwellLeft, f_stepsInAll, f_ticksInAll, f_speed, f_present, f_laid, a_wordCounts, a_letters, a_values, a_limits, a_switches, a_tool, a_inForce, a_origins, a_given, a_rows, a_probe, a_motions, a_thirds, a_centres, a_steps, a_paces, a_dwells, a_marks, a_nexts, a_joints) (f_lines, f_fastest, f_gain, f_bend, f_ahead, y_speed, y_seen, f_mode, y_line, f_pace, y_left, y_went, f_stepsInAll, f_ticksInAll, y_u, y_v, f_holds, a_letters, a_values, a_wordCounts, a_tool, a_began, a_limits, a_switches, y_force, y_origins, y_here, y_has, y_grouped, y_word, y_from, y_to, y_steps, y_paces, y_dwells, y_ends, y_turn, y_first, y_second, y_centre, y_direction) := ⟨rfl, rl_mk R⟩
  by_cases m : f_mode = 0
  case neg => exact br_f m (br_f m same)
  refine br_t m ?_
  -- the reference's tests of letter and value
  have yn : ¬ (0 ≤ v2 ∧ v2 ≤ 9) → wpY_word (fun r' v' => r' = -1 ∧ i_Rel (k + 4) (f_lines, f_fastest, f_gain, f_bend, f_ahead, f_mode, f_holds, f_pace, f_line, f_gone, f_dwellLeft, f_stepsInAll, f_ticksInAll, f_speed, f_present, f_laid, a_wordCounts, a_letters, a_values, a_limits, a_switches, a_tool, a_inForce, a_origins, a_given, a_rows, a_probe, a_motions, a_thirds, a_centres, a_steps, a_paces, a_dwells, a_marks, a_nexts, a_joints) v') (f_lines, f_fastest, f_gain, f_bend, f_ahead, y_speed, y_seen, f_mode, y_line, f_pace, y_left, y_went, f_stepsInAll, f_ticksInAll, y_u, y_v, f_holds, a_letters, a_values, a_wordCounts, a_tool, a_began, a_limits, a_switches, y_force, y_origins, y_here, y_has, y_grouped, y_word, y_from, y_to, y_steps, y_paces, y_dwells, y_ends, y_turn, y_first, y_second, y_centre, y_direction) p0 v2 v3 := fun z => br_t m (yl_in (fun a b => absurd ⟨a, b⟩ z) (fun _ => br_t rfl same))
  have yn2 : (0 ≤ v2 ∧ v2 ≤ 9) → ¬ (-3000 ≤ v3 ∧ v3 ≤ 3000) → wpY_word (fun r' v' => r' = -1 ∧ i_Rel (k + 4) (f_lines, f_fastest, f_gain, f_bend, f_ahead, f_mode, f_holds, f_pace, f_line, f_gone, f_dwellLeft, f_stepsInAll, f_ticksInAll, f_speed, f_present, f_laid, a_wordCounts, a_letters, a_values, a_limits, a_switches, a_tool, a_inForce, a_origins, a_given, a_rows, a_probe, a_motions, a_thirds, a_centres, a_steps, a_paces, a_dwells, a_marks, a_nexts, a_joints) v') (f_lines, f_fastest, f_gain, f_bend, f_ahead, y_speed, y_seen, f_mode, y_line, f_pace, y_left, y_went, f_stepsInAll, f_ticksInAll, y_u, y_v, f_holds, a_letters, a_values, a_wordCounts, a_tool, a_began, a_limits, a_switches, y_force, y_origins, y_here, y_has, y_grouped, y_word, y_from, y_to, y_steps, y_paces, y_dwells, y_ends, y_turn, y_first, y_second, y_centre, y_direction) p0 v2 v3 := fun y z => br_t m (yl_in (fun _ _ => br_f (by decide) (yl_in (fun a b => absurd ⟨a, b⟩ z) (fun _ => br_t rfl same))) (fun n => absurd y n))
  have e9 : v2 < 10 ↔ v2 ≤ 9 := by rw [fc_lt, fc_le, show (10 : Int32).toInt = 10 from by decide, fc_9]; omega
  refine br_c (fun a => yn (fun z => Int32.not_lt.mpr z.1 a)) (fun a => br_c (fun b => br_c (fun c => yn2 ⟨Int32.not_lt.mp a, e9.mp b⟩ (fun z => Int32.not_lt.mpr z.1 c)) (fun c => br_c (fun d => ?_) (fun d => yn2 ⟨Int32.not_lt.mp a, e9.mp b⟩ (fun z => d z.2)))) (fun b => yn (fun z => b (e9.mpr z.2))))
  have hl : 0 ≤ v2.toInt ∧ v2.toInt ≤ 9 := by
    have b' := e9.mp b
    rw [fc_lt, fc_0] at a; rw [fc_le, fc_9] at b'; omega
  have hx : -3000 ≤ v3.toInt ∧ v3.toInt ≤ 3000 := by
    rw [fc_lt, show (-3000 : Int32).toInt = -3000 from by decide] at c; rw [fc_le, show (3000 : Int32).toInt = 3000 from by decide] at d; omega
  have yg : ∀ (PY : Int32 → SY → Prop), ((p0 = 0 → ((f_lines = 0 → PY (-1) (f_lines, f_fastest, f_gain, f_bend, f_ahead, y_speed, y_seen, f_mode, y_line, f_pace, y_left, y_went, f_stepsInAll, f_ticksInAll, y_u, y_v, f_holds, a_letters, a_values, a_wordCounts, a_tool, a_began, a_limits, a_switches, y_force, y_origins, y_here, y_has, y_grouped, y_word, y_from, y_to, y_steps, y_paces, y_dwells, y_ends, y_turn, y_first, y_second, y_centre, y_direction)) ∧ (¬ f_lines = 0 → wY_word_43 PY p0 v2 v3 f_lines f_fastest f_gain f_bend f_ahead y_speed y_seen f_mode y_line f_pace y_left y_went f_stepsInAll f_ticksInAll y_u y_v f_holds a_letters a_values a_wordCounts a_tool a_began a_limits a_switches y_force y_origins y_here y_has y_grouped y_word y_from y_to y_steps y_paces y_dwells y_ends y_turn y_first y_second y_centre y_direction))) ∧ (¬ p0 = 0 → wY_word_43 PY p0 v2 v3 f_lines f_fastest f_gain f_bend f_ahead y_speed y_seen f_mode y_line f_pace y_left y_went f_stepsInAll f_ticksInAll y_u y_v f_holds a_letters a_values a_wordCounts a_tool a_began a_limits a_switches y_force y_origins y_here y_has y_grouped y_word y_from y_to y_steps y_paces y_dwells y_ends y_turn y_first y_second y_centre y_direction)) → wpY_word PY (f_lines, f_fastest, f_gain, f_bend, f_ahead, y_speed, y_seen, f_mode, y_line, f_pace, y_left, y_went, f_stepsInAll, f_ticksInAll, y_u, y_v, f_holds, a_letters, a_values, a_wordCounts, a_tool, a_began, a_limits, a_switches, y_force, y_origins, y_here, y_has, y_grouped, y_word, y_from, y_to, y_steps, y_paces, y_dwells, y_ends, y_turn, y_first, y_second, y_centre, y_direction) p0 v2 v3 :=
    fun PY h => br_t m (yl_in (fun _ _ => br_f (by decide) (yl_in (fun _ _ => br_f (by decide) h) (fun n => absurd ⟨Int32.not_lt.mp c, d⟩ n))) (fun n => absurd ⟨Int32.not_lt.mp a, e9.mp b⟩ n))
  obtain ⟨⟨l, hl30, el⟩, C⟩ := R.1
  have S0 := rl_st R m
  obtain ⟨wf, C2⟩ := C
  -- the word is written behind cnt others of line q
  have xw : ∀ q cnt Wc, q < 30 → cnt ≤ 8 → Wc q = nI cnt → ∀ (PX : Int32 → SX → Prop), (cnt = 8 → PX (-2) ((nI (q + 1)), f_fastest, f_gain, f_bend, f_ahead, f_mode, f_holds, f_pace, f_line, f_gone, f_dwellLeft, f_stepsInAll, f_ticksInAll, f_speed, f_present, f_laid, Wc, a_letters, a_values, a_limits, a_switches, a_tool, a_inForce, a_origins, a_given, a_rows, a_probe, a_motions, a_thirds, a_centres, a_steps, a_paces, a_dwells, a_marks, a_nexts, a_joints)) → (cnt < 8 → PX (nI (cnt + 1)) ((nI (q + 1)), f_fastest, f_gain, f_bend, f_ahead, f_mode, f_holds, f_pace, f_line, f_gone, f_dwellLeft, f_stepsInAll, f_ticksInAll, f_speed, f_present, f_laid, (upd Wc q (nI (cnt + 1))), (upd a_letters (8 * q + cnt) v2), (upd a_values (8 * q + cnt) v3), a_limits, a_switches, a_tool, a_inForce, a_origins, a_given, a_rows, a_probe, a_motions, a_thirds, a_centres, a_steps, a_paces, a_dwells, a_marks, a_nexts, a_joints)) → wX_word_84 PX v2 v3 (nI (q + 1)) f_fastest f_gain f_bend f_ahead f_mode f_holds f_pace f_line f_gone f_dwellLeft f_stepsInAll f_ticksInAll f_speed f_present f_laid Wc a_letters a_values a_limits a_switches a_tool a_inForce a_origins a_given a_rows a_probe a_motions a_thirds a_centres a_steps a_paces a_dwells a_marks a_nexts a_joints := by
    intro q cnt Wc hq hc eW PX h8 h
    unfold wX_word_84
    refine nm_r (nI_pred q) ⟨vp_in_nI hq (by omega), ?_⟩
    rw [nI_clamp (show q < 2 ^ 31 by omega), eW]
    refine nm_e (br_c (fun z => h8 ((nI_eq (b := 8) (by omega) (by omega)).mp z)) (fun z => ?_))
    have c8 : cnt < 8 := by
      rcases Nat.lt_or_ge cnt 8 with y | y
      · exact y
      · obtain rfl : cnt = 8 := by omega
        exact absurd rfl z
    rw [show nI q * 8 + nI cnt = nI (8 * q + cnt) from by rw [show (8 : Int32) = nI 8 from rfl, pk_mul, nI_add, Nat.mul_comm], nI_clamp (show 8 * q + cnt < 2 ^ 31 by omega), nI_1]
    exact ⟨vp_in_nI (by omega) (by omega), nm_e ⟨vp_in_nI (by omega) (by omega), nm_e ⟨vp_in_nI hq (by omega), nm_e (h c8)⟩⟩⟩
  have yw : ∀ q cnt Wc, q < 30 → cnt < 8 → Wc q = nI cnt → ∀ (PY : Int32 → SY → Prop), PY (nI (cnt + 1)) ((nI (q + 1)), f_fastest, f_gain, f_bend, f_ahead, y_speed, y_seen, f_mode, y_line, f_pace, y_left, y_went, f_stepsInAll, f_ticksInAll, y_u, y_v, f_holds, (upd a_letters (8 * q + cnt) v2), (upd a_values (8 * q + cnt) v3), (upd Wc q (nI (cnt + 1))), a_tool, a_began, a_limits, a_switches, y_force, y_origins, y_here, y_has, y_grouped, y_word, y_from, y_to, y_steps, y_paces, y_dwells, y_ends, y_turn, y_first, y_second, y_centre, y_direction) → wY_word_99 PY v2 v3 (nI (q + 1)) f_fastest f_gain f_bend f_ahead y_speed y_seen f_mode y_line f_pace y_left y_went f_stepsInAll f_ticksInAll y_u y_v f_holds a_letters a_values Wc a_tool a_began a_limits a_switches y_force y_origins y_here y_has y_grouped y_word y_from y_to y_steps y_paces y_dwells y_ends y_turn y_first y_second y_centre y_direction := by
    intro q cnt Wc hq hc eW PY h
    unfold wY_word_99
    rw [nI_pred, nI_clamp (show q < 2 ^ 31 by omega), eW, nI_1]
    refine ⟨vp_in_nI hq (by omega), nm_r (e' := nI (8 * q + cnt)) (by rw [show (8 : Int32) = nI 8 from rfl, pk_mul, nI_add]) ?_⟩
    rw [nI_clamp (show 8 * q + cnt < 2 ^ 31 by omega)]
    refine ⟨vp_in_nI (by omega) (by omega), nm_e ⟨vp_in_nI (by omega) (by omega), nm_e ⟨vp_in_nI hq (by omega), vp_in_nI hq (by omega), nm_e ⟨vp_in_nI hq (by omega), ?_⟩⟩⟩⟩
    rw [pk_us]; exact h
  have fin : ∀ q cnt Wc, q < 30 → cnt < 8 → Wc = a_wordCounts ∨ Wc = upd a_wordCounts q 0 → i_Rel (k + 4) ((nI (q + 1)), f_fastest, f_gain, f_bend, f_ahead, f_mode, f_holds, f_pace, f_line, f_gone, f_dwellLeft, f_stepsInAll, f_ticksInAll, f_speed, f_present, f_laid, (upd Wc q (nI (cnt + 1))), (upd a_letters (8 * q + cnt) v2), (upd a_values (8 * q + cnt) v3), a_limits, a_switches, a_tool, a_inForce, a_origins, a_given, a_rows, a_probe, a_motions, a_thirds, a_centres, a_steps, a_paces, a_dwells, a_marks, a_nexts, a_joints) ((nI (q + 1)), f_fastest, f_gain, f_bend, f_ahead, y_speed, y_seen, f_mode, y_line, f_pace, y_left, y_went, f_stepsInAll, f_ticksInAll, y_u, y_v, f_holds, (upd a_letters (8 * q + cnt) v2), (upd a_values (8 * q + cnt) v3), (upd Wc q (nI (cnt + 1))), a_tool, a_began, a_limits, a_switches, y_force, y_origins, y_here, y_has, y_grouped, y_word, y_from, y_to, y_steps, y_paces, y_dwells, y_ends, y_turn, y_first, y_second, y_centre, y_direction) := by
    intro q cnt Wc hq hc eW
    refine rl_mk ⟨⟨⟨q + 1, by omega, rfl⟩, ?_, C2⟩, Or.inl S0⟩
    refine wf_up ?_ hl hx (by omega)
    rcases eW with e | e
    · rw [e]; exact wf
    · rw [e]
      have := wf_up (j := 240) (n := q) (c := 0) wf (l := a_letters 240) (x := a_values 240) (wf.1 240) (wf.2.1 240) (by omega)
      have e1 : upd a_letters 240 (a_letters 240) = a_letters := by
        funext i; by_cases z : i = 240
        · subst z; rw [pk_us]
        · rw [pk_un z]
      have e2 : upd a_values 240 (a_values 240) = a_values := by
        funext i; by_cases z : i = 240
        · subst z; rw [pk_us]
        · rw [pk_un z]
      rw [e1, e2] at this
      exact this
  subst el
  by_cases f : p0 = 0
  · refine br_t f (br_c (fun z => yg _ (br_t f (br_t z same))) (fun z => ?_))
    have l0 : 0 < l := by
      rcases Nat.eq_zero_or_pos l with y | y
      · subst y; exact absurd rfl z
      · exact y
    obtain ⟨q, rfl⟩ : ∃ q, l = q + 1 := ⟨l - 1, by omega⟩
    obtain ⟨eM, hM⟩ := wf.2.2.1 q
    refine br_t f (xw q (px_n a_wordCounts q) a_wordCounts (by omega) hM eM _ (fun c8 => yg _ (br_t f (br_f z ?_))) (fun c8 => yg _ (br_t f (br_f z ?_))))
    · unfold wY_word_43
      rw [nI_pred, nI_clamp (show q < 2 ^ 31 by omega), eM, c8]
      exact br_t f ⟨vp_in_nI (by omega) (by omega), br_t rfl same2⟩
    · unfold wY_word_43 wY_word_78
      rw [nI_pred, nI_clamp (show q < 2 ^ 31 by omega)]
      refine br_t f ⟨vp_in_nI (by omega) (by omega), br_f (fun y => ?_) (br_t f (yw q (px_n a_wordCounts q) a_wordCounts (by omega) c8 eM _ ⟨rfl, fin q _ a_wordCounts (by omega) c8 (Or.inl rfl)⟩))⟩
      rw [eM] at y
      have := (nI_eq (b := 8) (by omega) (by omega)).mp y
      omega
  · have lk : nI l = 30 ↔ l = 30 := nI_eq (b := 30) (by omega) (by omega)
    refine br_f f (br_f f (br_c (fun z => yg _ (br_f f ?_)) (fun z => ⟨vp_in_nI (by have : ¬ l = 30 := fun y => z (lk.mpr y); omega) (by omega), ?_⟩)))
    · unfold wY_word_43
      exact br_f f (br_t z same2)
    · have l30 : l < 30 := by have : ¬ l = 30 := fun y => z (lk.mpr y); omega
      rw [nI_clamp (show l < 2 ^ 31 by omega)]
      refine nm_e (nm_r (nI_1 l) (xw l 0 (upd a_wordCounts l 0) l30 (by omega) pk_us _ (fun c8 => absurd c8 (by decide)) (fun c8 => yg _ (br_f f ?_))))
      unfold wY_word_43 wY_word_78
      rw [nI_clamp (show l < 2 ^ 31 by omega)]
      exact br_f f (br_f z (br_f f (nm_r (nI_1 l) ⟨vp_in_nI l30 (by omega), nm_e (yw l 0 (upd a_wordCounts l 0) l30 (by omega) pk_us _ ⟨rfl, fin l 0 _ l30 (by omega) (Or.inr rfl)⟩)⟩)))
end CLC
