section STC
section
variable {f_lines f_fastest f_gain f_bend f_ahead f_mode f_holds f_pace f_line f_gone f_dwellLeft f_stepsInAll f_ticksInAll f_speed f_present f_laid : Int32} {a_wordCounts a_letters a_values a_limits a_switches a_tool a_inForce a_origins a_given a_rows a_probe a_motions a_thirds a_centres a_steps a_paces a_dwells a_marks a_nexts a_joints : Nat → Int32} {a_began : Nat → Int32}
/-- what begins at line k: X first, the reference for any arrays of its own -/
theorem bg_s {N k : Nat} (C0 : ∀ y_force : Nat → Int32, (∀ g, 6 ≤ g → y_force g = 0) → rl_C f_lines f_fastest f_gain f_bend f_ahead a_wordCounts a_letters a_values a_limits a_tool a_inForce a_began y_force)
    (cl : ∃ l, l ≤ 30 ∧ f_lines = nI l ∧ ci_R a_letters a_values a_wordCounts a_limits a_began l N 0) (K : rn_K a_letters a_values a_wordCounts a_limits a_began f_fastest f_bend N)
    (hX : xr_ a_letters a_values a_wordCounts a_limits a_began f_fastest f_bend N f_laid a_rows a_motions a_thirds a_centres a_steps a_paces a_dwells a_marks a_nexts a_joints)
    (hk : k ≤ N) (hT : ∀ a, a < 3 → a_tool a = px_he a_letters a_values a_wordCounts a_began k a) (hp : f_pace = 0) :
    ∃ u', (∀ PX : SX → Prop, PX u' → wpX_beginAt PX (f_lines, f_fastest, f_gain, f_bend, f_ahead, f_mode, f_holds, f_pace, f_line, f_gone, f_dwellLeft, f_stepsInAll, f_ticksInAll, f_speed, f_present, f_laid, a_wordCounts, a_letters, a_values, a_limits, a_switches, a_tool, a_inForce, a_origins, a_given, a_rows, a_probe, a_motions, a_thirds, a_centres, a_steps, a_paces, a_dwells, a_marks, a_nexts, a_joints) (nI k)) ∧
      ∀ (y_speed y_seen y_line y_left y_went : Int32) (y_force y_origins y_here y_has y_grouped y_word y_from y_to y_steps y_paces y_dwells y_ends y_turn y_first y_second y_centre : Nat → Int32), (∀ g, 6 ≤ g → y_force g = 0) → yr_ a_letters a_values a_wordCounts a_limits a_began f_fastest N y_seen y_from y_to y_steps y_paces y_dwells y_ends y_turn y_first y_second y_centre →
        ∃ w', rl_V u' w' ∧ (∀ (PY : SY → Prop) y_u y_v y_direction, PY (w' y_u y_v y_direction) → wpY_begin PY (f_lines, f_fastest, f_gain, f_bend, f_ahead, y_speed, y_seen, f_mode, y_line, f_pace, y_left, y_went, f_stepsInAll, f_ticksInAll, y_u, y_v, f_holds, a_letters, a_values, a_wordCounts, a_tool, a_began, a_limits, a_switches, y_force, y_origins, y_here, y_has, y_grouped, y_word, y_from, y_to, y_steps, y_paces, y_dwells, y_ends, y_turn, y_first, y_second, y_centre, y_direction) (nI k) 0) := by
  subst hp
  by_cases r0 : (rn_b a_letters a_values a_wordCounts a_limits a_began N k).1 = 0
  · refine ⟨(f_lines, f_fastest, f_gain, f_bend, f_ahead, 0, 0, 0, (if k < N then nI (N - 1) else f_line), f_gone, f_dwellLeft, f_stepsInAll, f_ticksInAll, f_speed, f_present, f_laid, a_wordCounts, a_letters, a_values, a_limits, a_switches, a_tool, a_inForce, a_origins, a_given, a_rows, a_probe, a_motions, a_thirds, a_centres, a_steps, a_paces, a_dwells, a_marks, a_nexts, a_joints), fun PX h => ?_, fun y_speed y_seen y_line y_left y_went y_force y_origins y_here y_has y_grouped y_word y_from y_to y_steps y_paces y_dwells y_ends y_turn y_first y_second y_centre hfo hY => ⟨(fun y_u y_v y_direction => (f_lines, f_fastest, f_gain, f_bend, f_ahead, y_speed, y_seen, 0, (-1), 0, 0, (if k < N then 0 else y_went), f_stepsInAll, f_ticksInAll, y_u, y_v, 0, a_letters, a_values, a_wordCounts, a_tool, a_began, a_limits, a_switches, y_force, y_origins, y_here, y_has, y_grouped, y_word, y_from, y_to, y_steps, y_paces, y_dwells, y_ends, y_turn, y_first, y_second, y_centre, y_direction)), ?_, fun PY s1 s2 s3 h => ?_⟩⟩
    · exact xb_ba K hX.1 hX.2.1 hk (fun _ => h) (fun m e => (rb_no e r0 (by decide)).elim) (fun m e => (rb_no e r0 (by decide)).elim) (fun m e => (rb_no e r0 (by decide)).elim)
    · exact ⟨f_lines, f_fastest, f_gain, f_bend, f_ahead, 0, 0, 0, _, f_gone, f_dwellLeft, f_stepsInAll, f_ticksInAll, f_speed, f_present, f_laid, y_speed, y_seen, (-1), 0, _, a_wordCounts, a_letters, a_values, a_limits, a_switches, a_tool, a_inForce, a_origins, a_given, a_rows, a_probe, a_motions, a_thirds, a_centres, a_steps, a_paces, a_dwells, a_marks, a_nexts, a_joints, a_began, y_force, y_origins, y_here, y_has, y_grouped, y_word, y_from, y_to, y_steps, y_paces, y_dwells, y_ends, y_turn, y_first, y_second, y_centre, rfl, rfl, C0 _ hfo, Or.inl ⟨rfl, rfl, rfl, rfl, rfl⟩⟩
    · exact yb_b0 K hY hk (fun _ => h) (fun m e => (rb_no e r0 (by decide)).elim) (fun m e => (rb_no e r0 (by decide)).elim) (fun m e => (rb_no e r0 (by decide)).elim)
  · obtain ⟨r, m, er⟩ : ∃ r m, rn_b a_letters a_values a_wordCounts a_limits a_began N k = (r, m) := ⟨_, _, rfl⟩
    have hr : ¬ r = 0 := by rw [er] at r0; exact r0
    obtain ⟨⟨f1, f2⟩, f3, f4⟩ := rb_f 31 k r m er hr
    have he : ∀ a, a < 3 → a_tool a = px_he a_letters a_values a_wordCounts a_began m a := fun a ha => (hT a ha).trans (rl_mid K (by omega) f3 ha f1).symm
    rcases f4 with ⟨e1, s1⟩ | ⟨e1, s1, d1⟩ | ⟨e1, s1, d1⟩
    · subst e1
      refine ⟨(f_lines, f_fastest, f_gain, f_bend, f_ahead, 1, f_holds, 0, (nI m), 0, f_dwellLeft, f_stepsInAll, f_ticksInAll, f_speed, f_present, f_laid, a_wordCounts, a_letters, a_values, a_limits, a_switches, a_tool, a_inForce, a_origins, a_given, a_rows, a_probe, a_motions, a_thirds, a_centres, a_steps, a_paces, a_dwells, a_marks, a_nexts, a_joints), fun PX h => ?_, fun y_speed y_seen y_line y_left y_went y_force y_origins y_here y_has y_grouped y_word y_from y_to y_steps y_paces y_dwells y_ends y_turn y_first y_second y_centre hfo hY => ⟨(fun y_u y_v y_direction => (f_lines, f_fastest, f_gain, f_bend, f_ahead, y_speed, y_seen, 1, (nI m), 0, 0, 0, f_stepsInAll, f_ticksInAll, y_u, y_v, f_holds, a_letters, a_values, a_wordCounts, a_tool, a_began, a_limits, a_switches, y_force, y_origins, y_here, y_has, y_grouped, y_word, y_from, y_to, y_steps, y_paces, y_dwells, y_ends, y_turn, y_first, y_second, y_centre, y_direction)), ?_, fun PY s1 s2 s3 h => ?_⟩⟩
      · exact xb_ba K hX.1 hX.2.1 hk (fun e => absurd e r0) (fun m' e => by rw [er] at e; rw [← (Prod.mk.inj e).2]; exact h) (fun m' e => by rw [er] at e; exact absurd (Prod.mk.inj e).1 (by decide)) (fun m' e => by rw [er] at e; exact absurd (Prod.mk.inj e).1 (by decide))
      · refine ⟨f_lines, f_fastest, f_gain, f_bend, f_ahead, 1, f_holds, 0, (nI m), 0, f_dwellLeft, f_stepsInAll, f_ticksInAll, f_speed, f_present, f_laid, y_speed, y_seen, (nI m), 0, 0, a_wordCounts, a_letters, a_values, a_limits, a_switches, a_tool, a_inForce, a_origins, a_given, a_rows, a_probe, a_motions, a_thirds, a_centres, a_steps, a_paces, a_dwells, a_marks, a_nexts, a_joints, a_began, y_force, y_origins, y_here, y_has, y_grouped, y_word, y_from, y_to, y_steps, y_paces, y_dwells, y_ends, y_turn, y_first, y_second, y_centre, rfl, rfl, C0 _ hfo, Or.inr ⟨N, m, ⟨cl, K, hX, hY⟩, f2, rfl, rfl, Or.inl ⟨rfl, s1, rfl, 0, 0, by omega, by omega, rfl, rfl, rfl, fun a ha => ?_⟩⟩⟩
        rw [he a ha]
        unfold rs_v
        rw [Nat.zero_div, rs_0 s1, ii_t]
      · exact yb_b0 K hY hk (fun e => absurd e r0) (fun m' e => by rw [er] at e; rw [← (Prod.mk.inj e).2]; exact h) (fun m' e => by rw [er] at e; exact absurd (Prod.mk.inj e).1 (by decide)) (fun m' e => by rw [er] at e; exact absurd (Prod.mk.inj e).1 (by decide))
    · subst e1
      refine ⟨(f_lines, f_fastest, f_gain, f_bend, f_ahead, 2, f_holds, 0, (nI m), f_gone, (px_dw a_letters a_values a_wordCounts a_began m), f_stepsInAll, f_ticksInAll, f_speed, f_present, f_laid, a_wordCounts, a_letters, a_values, a_limits, a_switches, a_tool, a_inForce, a_origins, a_given, a_rows, a_probe, a_motions, a_thirds, a_centres, a_steps, a_paces, a_dwells, a_marks, a_nexts, a_joints), fun PX h => ?_, fun y_speed y_seen y_line y_left y_went y_force y_origins y_here y_has y_grouped y_word y_from y_to y_steps y_paces y_dwells y_ends y_turn y_first y_second y_centre hfo hY => ⟨(fun y_u y_v y_direction => (f_lines, f_fastest, f_gain, f_bend, f_ahead, y_speed, y_seen, 2, (nI m), 0, (px_dw a_letters a_values a_wordCounts a_began m), 0, f_stepsInAll, f_ticksInAll, y_u, y_v, f_holds, a_letters, a_values, a_wordCounts, a_tool, a_began, a_limits, a_switches, y_force, y_origins, y_here, y_has, y_grouped, y_word, y_from, y_to, y_steps, y_paces, y_dwells, y_ends, y_turn, y_first, y_second, y_centre, y_direction)), ?_, fun PY s1 s2 s3 h => ?_⟩⟩
      · exact xb_ba K hX.1 hX.2.1 hk (fun e => absurd e r0) (fun m' e => by rw [er] at e; exact absurd (Prod.mk.inj e).1 (by decide)) (fun m' e => by rw [er] at e; rw [← (Prod.mk.inj e).2]; exact h) (fun m' e => by rw [er] at e; exact absurd (Prod.mk.inj e).1 (by decide))
      · refine ⟨f_lines, f_fastest, f_gain, f_bend, f_ahead, 2, f_holds, 0, (nI m), f_gone, (px_dw a_letters a_values a_wordCounts a_began m), f_stepsInAll, f_ticksInAll, f_speed, f_present, f_laid, y_speed, y_seen, (nI m), (px_dw a_letters a_values a_wordCounts a_began m), 0, a_wordCounts, a_letters, a_values, a_limits, a_switches, a_tool, a_inForce, a_origins, a_given, a_rows, a_probe, a_motions, a_thirds, a_centres, a_steps, a_paces, a_dwells, a_marks, a_nexts, a_joints, a_began, y_force, y_origins, y_here, y_has, y_grouped, y_word, y_from, y_to, y_steps, y_paces, y_dwells, y_ends, y_turn, y_first, y_second, y_centre, rfl, rfl, C0 _ hfo, Or.inr ⟨N, m, ⟨cl, K, hX, hY⟩, f2, rfl, rfl, Or.inr (Or.inr (Or.inl ⟨rfl, rfl, rfl, fun a ha => ?_⟩))⟩⟩
        rw [he a ha, rs_s0 K f2 s1 ha]
      · exact yb_b0 K hY hk (fun e => absurd e r0) (fun m' e => by rw [er] at e; exact absurd (Prod.mk.inj e).1 (by decide)) (fun m' e => by rw [er] at e; rw [← (Prod.mk.inj e).2]; exact h) (fun m' e => by rw [er] at e; exact absurd (Prod.mk.inj e).1 (by decide))
    · subst e1
      refine ⟨(f_lines, f_fastest, f_gain, f_bend, f_ahead, 3, 0, 0, (nI m), f_gone, f_dwellLeft, f_stepsInAll, f_ticksInAll, f_speed, f_present, f_laid, a_wordCounts, a_letters, a_values, a_limits, a_switches, a_tool, a_inForce, a_origins, a_given, a_rows, a_probe, a_motions, a_thirds, a_centres, a_steps, a_paces, a_dwells, a_marks, a_nexts, a_joints), fun PX h => ?_, fun y_speed y_seen y_line y_left y_went y_force y_origins y_here y_has y_grouped y_word y_from y_to y_steps y_paces y_dwells y_ends y_turn y_first y_second y_centre hfo hY => ⟨(fun y_u y_v y_direction => (f_lines, f_fastest, f_gain, f_bend, f_ahead, y_speed, y_seen, 3, (nI m), 0, 0, 0, f_stepsInAll, f_ticksInAll, y_u, y_v, 0, a_letters, a_values, a_wordCounts, a_tool, a_began, a_limits, a_switches, y_force, y_origins, y_here, y_has, y_grouped, y_word, y_from, y_to, y_steps, y_paces, y_dwells, y_ends, y_turn, y_first, y_second, y_centre, y_direction)), ?_, fun PY s1 s2 s3 h => ?_⟩⟩
      · exact xb_ba K hX.1 hX.2.1 hk (fun e => absurd e r0) (fun m' e => by rw [er] at e; exact absurd (Prod.mk.inj e).1 (by decide)) (fun m' e => by rw [er] at e; exact absurd (Prod.mk.inj e).1 (by decide)) (fun m' e => by rw [er] at e; rw [← (Prod.mk.inj e).2]; exact h)
      · refine ⟨f_lines, f_fastest, f_gain, f_bend, f_ahead, 3, 0, 0, (nI m), f_gone, f_dwellLeft, f_stepsInAll, f_ticksInAll, f_speed, f_present, f_laid, y_speed, y_seen, (nI m), 0, 0, a_wordCounts, a_letters, a_values, a_limits, a_switches, a_tool, a_inForce, a_origins, a_given, a_rows, a_probe, a_motions, a_thirds, a_centres, a_steps, a_paces, a_dwells, a_marks, a_nexts, a_joints, a_began, y_force, y_origins, y_here, y_has, y_grouped, y_word, y_from, y_to, y_steps, y_paces, y_dwells, y_ends, y_turn, y_first, y_second, y_centre, rfl, rfl, C0 _ hfo, Or.inr ⟨N, m, ⟨cl, K, hX, hY⟩, f2, rfl, rfl, Or.inr (Or.inr (Or.inr ⟨rfl, rfl, rfl, rfl, fun a ha => ?_⟩))⟩⟩
        rw [he a ha, rs_s0 K f2 s1 ha]
      · exact yb_b0 K hY hk (fun e => absurd e r0) (fun m' e => by rw [er] at e; exact absurd (Prod.mk.inj e).1 (by decide)) (fun m' e => by rw [er] at e; exact absurd (Prod.mk.inj e).1 (by decide)) (fun m' e => by rw [er] at e; rw [← (Prod.mk.inj e).2]; exact h)
end
theorem i_vc_start {k : Nat} {u : SX} {v : SY} (I : i_Rel k u v) (hk : k + 4 ≤ 2048) : wpX_start (fun r u' => wpY_start (fun r' v' => r' = r ∧ i_Rel (k + 4) u' v') v) u := by
  obtain ⟨w, y_u, y_v, y_direction, ⟨f_lines, f_fastest, f_gain, f_bend, f_ahead, f_mode, f_holds, f_pace, f_line, f_gone, f_dwellLeft, f_stepsInAll, f_ticksInAll, f_speed, f_present, f_laid, y_speed, y_seen, y_line, y_left, y_went, a_wordCounts, a_letters, a_values, a_limits, a_switches, a_tool, a_inForce, a_origins, a_given, a_rows, a_probe, a_motions, a_thirds, a_centres, a_steps, a_paces, a_dwells, a_marks, a_nexts, a_joints, a_began, y_force, y_origins, y_here, y_has, y_grouped, y_word, y_from, y_to, y_steps, y_paces, y_dwells, y_ends, y_turn, y_first, y_second, y_centre, rfl, rfl, R⟩, rfl⟩ := I
  obtain ⟨⟨l, hl30, el⟩, wf, hT, hi, hF, C2⟩ := R.1
  dsimp only
  unfold wpX_start
  dsimp only
  refine br_c (fun m => br_c (fun l0 => br_t m (br_t l0 ⟨rfl, rl_mk R⟩)) (fun l0 => ?_)) (fun m => br_f m ⟨rfl, rl_mk R⟩)
  refine xz_lo m hl30 el wf hT (fun g hg => (hF g hg).1) (fun N r hR sp pr F O G Ro P MO TH CE ST PC DW MK hFh hXL => ?_)
  -- the reference up to the end of its plan
  have yp : ∀ (PY : Int32 → SY → Prop), (∀ sp' u' v' F' O' he' hs' gr' wd' fr' to' st' pc' dw' en' tu' fi' se' ce', (∀ g, 6 ≤ g → F' g = 0) → (r = 0 → yz_L a_letters a_values a_wordCounts a_limits f_fastest a_tool N fr' to' st' pc' dw' en' tu' fi' se' ce') →
      ((r ≤ 0 → ∃ n25, wY_start_25 PY f_lines f_fastest f_gain f_bend f_ahead sp' (nI N) f_mode y_line f_pace y_left y_went f_stepsInAll f_ticksInAll u' v' f_holds n25 0 a_letters a_values a_wordCounts a_tool a_began a_limits a_switches F' O' he' hs' gr' wd' fr' to' st' pc' dw' en' tu' fi' se' ce' y_direction) ∧
       (¬ r ≤ 0 → PY 0 (f_lines, f_fastest, f_gain, f_bend, f_ahead, sp', (nI N), f_mode, y_line, f_pace, y_left, y_went, f_stepsInAll, f_ticksInAll, u', v', f_holds, a_letters, a_values, a_wordCounts, a_tool, a_began, a_limits, a_switches, F', O', he', hs', gr', wd', fr', to', st', pc', dw', en', tu', fi', se', ce', y_direction)))) → wpY_start PY (f_lines, f_fastest, f_gain, f_bend, f_ahead, y_speed, y_seen, f_mode, y_line, f_pace, y_left, y_went, f_stepsInAll, f_ticksInAll, y_u, y_v, f_holds, a_letters, a_values, a_wordCounts, a_tool, a_began, a_limits, a_switches, y_force, y_origins, y_here, y_has, y_grouped, y_word, y_from, y_to, y_steps, y_paces, y_dwells, y_ends, y_turn, y_first, y_second, y_centre, y_direction) := by
    intro PY h
    unfold wpY_start
    refine br_t m (br_f l0 ?_)
    refine yz_pl (s0 := a_tool) hl30 el wf hT (fun g hg => (hF g hg).2) (Or.inl ⟨m, fun _ _ => rfl⟩) (fun N' r' hR' sp' u' v' F' O' he' hs' gr' wd' fr' to' st' pc' dw' en' tu' fi' se' ce' hFh' _ hL => ?_)
    obtain ⟨eN, e⟩ := ci_Ru hR' hR
    subst eN e
    exact h _ _ _ _ _ _ _ _ _ _ _ _ _ _ _ _ _ _ _ hFh' hL
  refine br_c (fun r0 => ?_) (fun r0 => yp _ (fun sp' u' v' F' O' he' hs' gr' wd' fr' to' st' pc' dw' en' tu' fi' se' ce' hFh' hL => br_f (ci_Rp hl30 hR r0) ⟨rfl, rl_mk ⟨⟨⟨l, hl30, el⟩, wf, hT, hi, fun g hg => ⟨hFh g hg, hFh' g hg⟩, C2⟩, Or.inl (rl_st R m)⟩⟩))
  subst r0
  have N30 : N ≤ 30 := Nat.le_trans hR.1 hl30
  have K : rn_K a_letters a_values a_wordCounts a_limits a_tool f_fastest f_bend N := ⟨wf, hT, C2.1, C2.2.2.1, N30, hR.2.1, hR.2.2.1⟩
  refine xf_fj rfl K hXL (fun NX JO hX => ?_)
  have eb : ∀ b : Nat → Int32, (∀ a, ¬ a < 3 → b a = 0) → upd (upd (upd b 0 (a_tool 0)) 1 (a_tool 1)) 2 (a_tool 2) = a_tool := by
    intro b hb
    funext a
    by_cases e2 : a = 2
    · subst e2; exact pk_us
    rw [pk_un e2]
    by_cases e1 : a = 1
    · subst e1; exact pk_us
    rw [pk_un e1]
    by_cases e0 : a = 0
    · subst e0; exact pk_us
    rw [pk_un e0, hb a (by omega), (hi a (by omega)).1]
  have S0 := rl_st R m
  obtain ⟨u', BX, rest⟩ := bg_s (a_began := a_tool) (f_mode := f_mode) (f_holds := f_holds) (f_pace := f_pace) (f_line := f_line) (f_gone := f_gone) (f_dwellLeft := f_dwellLeft) (f_stepsInAll := f_stepsInAll) (f_ticksInAll := f_ticksInAll) (f_speed := sp) (f_present := pr) (a_switches := a_switches) (a_origins := O) (a_given := G) (a_probe := P) (a_inForce := F) (a_tool := a_tool) (k := 0)
    (fun yf hyf => ⟨⟨l, hl30, el⟩, wf, hT, fun a ha => ⟨(hi a ha).1, (hi a ha).1⟩, fun g hg => ⟨hFh g hg, hyf g hg⟩, C2⟩) ⟨l, hl30, el, hR⟩ K hX (Nat.zero_le _) (fun a _ => rfl) S0.2.2.1
  refine BX _ ?_
  obtain ⟨x_lines, x_f1, x_f2, x_f3, x_f4, x_mode, x_f5, x_f6, x_f7, x_f8, x_f9, x_g1, x_g2, x_g3, x_g4, x_g5, x_a1, x_a2, x_a3, x_a4, x_a5, x_a6, x_a7, x_a8, x_a9, x_b1, x_b2, x_b3, x_b4, x_b5, x_b6, x_b7, x_b8, x_b9, x_c1, x_c2⟩ := u'
  dsimp only
  refine yp _ (fun sp' u' v' F' O' he' hs' gr' wd' fr' to' st' pc' dw' en' tu' fi' se' ce' hFh' hL => br_t (by decide) ⟨4, ?_⟩)
  obtain ⟨w', V, BY⟩ := rest sp' (nI N) y_line y_left y_went F' O' he' hs' gr' wd' fr' to' st' pc' dw' en' tu' fi' se' ce' hFh' ⟨rfl, hL rfl⟩
  have cl0 : (nI 0).toNatClampNeg = 0 := nI_clamp (by decide)
  have cl1 : (nI 1).toNatClampNeg = 1 := nI_clamp (by decide)
  have cl2 : (nI 2).toNatClampNeg = 2 := nI_clamp (by decide)
  have j0 : vp_in (nI 0) 3 := vp_in_nI (by decide) (by decide)
  have j1 : vp_in (nI 1) 3 := vp_in_nI (by decide) (by decide)
  have j2 : vp_in (nI 2) 3 := vp_in_nI (by decide) (by decide)
  refine br_f (ix_3a (a := 0) (by decide)) ⟨j0, j0, nm_e (nm_r (nI_1 0) (br_f (ix_3a (a := 1) (by decide)) ⟨j1, j1, nm_e (nm_r (nI_1 1) (br_f (ix_3a (a := 2) (by decide)) ⟨j2, j2, nm_e (nm_r (nI_1 2) (br_t ix_33 ?_))⟩))⟩))⟩
  rw [cl1, cl2, show (0 : Int32).toNatClampNeg = 0 from by decide, eb a_began (fun a ha => (hi a ha).2)]
  refine BY _ u' v' y_direction ?_
  have hRel : i_Rel (k + 4) (x_lines, x_f1, x_f2, x_f3, x_f4, x_mode, x_f5, x_f6, x_f7, x_f8, x_f9, x_g1, x_g2, x_g3, x_g4, x_g5, x_a1, x_a2, x_a3, x_a4, x_a5, x_a6, x_a7, x_a8, x_a9, x_b1, x_b2, x_b3, x_b4, x_b5, x_b6, x_b7, x_b8, x_b9, x_c1, x_c2) (w' u' v' y_direction) := ⟨w', u', v', y_direction, V, rfl⟩
  generalize w' u' v' y_direction = vv at hRel ⊢
  obtain ⟨f_lines, f_fastest, f_gain, f_bend, f_ahead, f_speed, f_seen, f_state, f_line, f_pace, f_left, f_went, f_allSteps, f_allTicks, f_u, f_v, f_holds, a_letters, a_values, a_many, a_tool, a_began, a_limit, a_trips, a_force, a_origins, a_here, a_has, a_grouped, a_word, a_from, a_to, a_steps, a_paces, a_dwells, a_ends, a_turn, a_first, a_second, a_centre, a_direction⟩ := vv
  exact ⟨rfl, hRel⟩
end STC
