section STT
theorem i_vc_state {k : Nat} {u : SX} {v : SY} (I : i_Rel k u v) (hk : k + 4 ≤ 2048) (v1 : Int32) : wpX_state (fun r => wpY_state (fun r' => r' = r ∧ i_Rel (k + 4) u v) v v1) u v1 := by
  have I' : i_Rel (k + 4) u v := I
  obtain ⟨w, y_u, y_v, y_direction, ⟨f_lines, f_fastest, f_gain, f_bend, f_ahead, f_mode, f_holds, f_pace, f_line, f_gone, f_dwellLeft, f_stepsInAll, f_ticksInAll, f_speed, f_present, f_laid, y_speed, y_seen, y_line, y_left, y_went, a_wordCounts, a_letters, a_values, a_limits, a_switches, a_tool, a_inForce, a_origins, a_given, a_rows, a_probe, a_motions, a_thirds, a_centres, a_steps, a_paces, a_dwells, a_marks, a_nexts, a_joints, a_began, y_force, y_origins, y_here, y_has, y_grouped, y_word, y_from, y_to, y_steps, y_paces, y_dwells, y_ends, y_turn, y_first, y_second, y_centre, rfl, rfl, R⟩, rfl⟩ := I
  dsimp only at I' ⊢
  generalize hJ : i_Rel (k + 4) (f_lines, f_fastest, f_gain, f_bend, f_ahead, f_mode, f_holds, f_pace, f_line, f_gone, f_dwellLeft, f_stepsInAll, f_ticksInAll, f_speed, f_present, f_laid, a_wordCounts, a_letters, a_values, a_limits, a_switches, a_tool, a_inForce, a_origins, a_given, a_rows, a_probe, a_motions, a_thirds, a_centres, a_steps, a_paces, a_dwells, a_marks, a_nexts, a_joints) (f_lines, f_fastest, f_gain, f_bend, f_ahead, y_speed, y_seen, f_mode, y_line, f_pace, y_left, y_went, f_stepsInAll, f_ticksInAll, y_u, y_v, f_holds, a_letters, a_values, a_wordCounts, a_tool, a_began, a_limits, a_switches, y_force, y_origins, y_here, y_has, y_grouped, y_word, y_from, y_to, y_steps, y_paces, y_dwells, y_ends, y_turn, y_first, y_second, y_centre, y_direction) = J at I' ⊢
  -- what both show, by mode
  have key : (if f_mode = 0 then -1 else f_line) = y_line ∧ (if f_mode = 2 then f_dwellLeft else 0) = y_left ∧ ((f_mode = 1 ∨ f_mode = 4) → vp_in f_line 30 ∧ f_line = y_line ∧ f_gone = y_went ∧ a_steps f_line.toNatClampNeg = y_steps f_line.toNatClampNeg) := by
    by_cases m : f_mode = 0
    · obtain ⟨_, _, _, e1, e2⟩ := rl_st R m
      rw [if_pos m, if_neg (by rw [m]; decide)]
      refine ⟨e1.symm, e2.symm, fun z => ?_⟩
      rw [m] at z
      rcases z with z | z <;> exact absurd z (by decide)
    · obtain ⟨N, n, Lh, hn, el, eyl, W⟩ := rl_rn R m
      have N30 : N ≤ 30 := Lh.2.1.2.2.2.2.1
      rw [if_neg m, el, eyl]
      have st : a_steps (nI n).toNatClampNeg = y_steps (nI n).toNatClampNeg := by
        rw [nI_clamp (by omega), (Lh.2.2.1.2.1.2 n hn).2.2.1, (Lh.2.2.2.2.2 n hn).1]
      refine ⟨rfl, ?_⟩
      rcases W with z | z | z | z
      · obtain ⟨m1, _, le, p, go, _, _, _, eg, ew, _⟩ := z
        rw [if_neg (by rw [m1]; decide), le]
        exact ⟨rfl, fun _ => ⟨vp_in_nI (by omega) (by omega), rfl, eg.trans ew.symm, st⟩⟩
      · obtain ⟨m1, _, _, _, le, go, _, eg, ew⟩ := z
        rw [if_neg (by rw [m1]; decide), le]
        exact ⟨rfl, fun _ => ⟨vp_in_nI (by omega) (by omega), rfl, eg.trans ew.symm, st⟩⟩
      · obtain ⟨m1, _, ed, _⟩ := z
        rw [if_pos m1, ed]
        refine ⟨rfl, fun y => ?_⟩
        rw [m1] at y
        rcases y with y | y <;> exact absurd y (by decide)
      · obtain ⟨m1, _, _, le, _⟩ := z
        rw [if_neg (by rw [m1]; decide), le]
        refine ⟨rfl, fun y => ?_⟩
        rw [m1] at y
        rcases y with y | y <;> exact absurd y (by decide)
  obtain ⟨k3, k6, kb⟩ := key
  -- the reference, once its block flag is known
  have ys : ∀ PY : Int32 → Prop, (∀ z0, z0 = (if f_mode = 1 ∨ f_mode = 4 then 1 else 0) → wY_state_21 PY v1 z0 f_lines f_fastest f_gain f_bend f_ahead y_speed y_seen f_mode y_line f_pace y_left y_went f_stepsInAll f_ticksInAll y_u y_v f_holds a_letters a_values a_wordCounts a_tool a_began a_limits a_switches y_force y_origins y_here y_has y_grouped y_word y_from y_to y_steps y_paces y_dwells y_ends y_turn y_first y_second y_centre y_direction) → wpY_state PY (f_lines, f_fastest, f_gain, f_bend, f_ahead, y_speed, y_seen, f_mode, y_line, f_pace, y_left, y_went, f_stepsInAll, f_ticksInAll, y_u, y_v, f_holds, a_letters, a_values, a_wordCounts, a_tool, a_began, a_limits, a_switches, y_force, y_origins, y_here, y_has, y_grouped, y_word, y_from, y_to, y_steps, y_paces, y_dwells, y_ends, y_turn, y_first, y_second, y_centre, y_direction) v1 := by
    intro PY h
    unfold wpY_state wY_state_16
    exact br_c (fun a => h 1 (by rw [if_pos (Or.inl a)])) (fun a => br_c (fun b => h 1 (by rw [if_pos (Or.inr b)])) (fun b => h 0 (by rw [if_neg (fun z => z.elim a b)])))
  unfold wpX_state
  dsimp only
  refine br_c (fun a => ys _ (fun z0 _ => br_t a ⟨rfl, I'⟩)) (fun a => br_c (fun b => ys _ (fun z0 _ => br_f a (br_t b ⟨rfl, I'⟩))) (fun b => ?_))
  refine br_c (fun c => ys _ (fun z0 _ => br_f a (br_f b (br_t c ⟨rfl, I'⟩)))) (fun c0 => ?_)
  refine br_c (fun c => br_c (fun d => ys _ (fun z0 _ => br_f a (br_f b (br_f c0 (br_t c (br_t d ⟨rfl, I'⟩)))))) (fun d => ys _ (fun z0 _ => br_f a (br_f b (br_f c0 (br_t c (br_f d ⟨rfl, I'⟩))))))) (fun c1 => ?_)
  refine br_c (fun c => ys _ (fun z0 _ => br_f a (br_f b (br_f c0 (br_f c1 (br_t c ⟨rfl, I'⟩)))))) (fun c2 => ?_)
  refine br_c (fun c => br_c (fun d => ys _ (fun z0 _ => br_f a (br_f b (br_f c0 (br_f c1 (br_f c2 (br_t c ⟨?_, I'⟩))))))) (fun d => ys _ (fun z0 _ => br_f a (br_f b (br_f c0 (br_f c1 (br_f c2 (br_t c ⟨?_, I'⟩)))))))) (fun c3 => ?_)
  · rw [if_pos d] at k3; exact k3.symm
  · rw [if_neg d] at k3; exact k3.symm
  have hb : ∀ PX : Int32 → Prop, PX (if f_mode = 1 ∨ f_mode = 4 then 1 else 0) → wpX_hasBlock PX (f_lines, f_fastest, f_gain, f_bend, f_ahead, f_mode, f_holds, f_pace, f_line, f_gone, f_dwellLeft, f_stepsInAll, f_ticksInAll, f_speed, f_present, f_laid, a_wordCounts, a_letters, a_values, a_limits, a_switches, a_tool, a_inForce, a_origins, a_given, a_rows, a_probe, a_motions, a_thirds, a_centres, a_steps, a_paces, a_dwells, a_marks, a_nexts, a_joints) := by
    intro PX h
    unfold wpX_hasBlock
    refine br_c (fun a => ?_) (fun a => br_c (fun b => ?_) (fun b => ?_))
    · rw [if_pos (Or.inl a)] at h; exact h
    · rw [if_pos (Or.inr b)] at h; exact h
    · rw [if_neg (fun z => z.elim a b)] at h; exact h
  refine br_c (fun c => hb _ ?_) (fun c4 => br_c (fun c => hb _ ?_) (fun c5 => br_c (fun c => br_c (fun d => ys _ (fun z0 _ => br_f a (br_f b (br_f c0 (br_f c1 (br_f c2 (br_f c3 (br_f c4 (br_f c5 (br_t c ⟨?_, I'⟩)))))))))) (fun d => ys _ (fun z0 _ => br_f a (br_f b (br_f c0 (br_f c1 (br_f c2 (br_f c3 (br_f c4 (br_f c5 (br_t c ⟨?_, I'⟩))))))))))) (fun c6 => br_c (fun c => ys _ (fun z0 _ => br_f a (br_f b (br_f c0 (br_f c1 (br_f c2 (br_f c3 (br_f c4 (br_f c5 (br_f c6 (br_t c ⟨rfl, I'⟩)))))))))) ) (fun c7 => br_c (fun c => ys _ (fun z0 _ => br_f a (br_f b (br_f c0 (br_f c1 (br_f c2 (br_f c3 (br_f c4 (br_f c5 (br_f c6 (br_f c7 (br_t c ⟨rfl, I'⟩)))))))))))) (fun c8 => trivial)))))
  · by_cases q : f_mode = 1 ∨ f_mode = 4
    · rw [if_pos q]
      obtain ⟨i30, e1, e2, e3⟩ := kb q
      refine br_f (by decide) ⟨by decide, ys _ (fun z0 ez => ?_)⟩
      rw [if_pos q] at ez
      subst ez
      exact br_f a (br_f b (br_f c0 (br_f c1 (br_f c2 (br_f c3 (br_t c (br_f (by decide) ⟨by decide, by rw [e2], I'⟩)))))))
    · rw [if_neg q]
      refine br_t rfl (ys _ (fun z0 ez => ?_))
      rw [if_neg q] at ez
      subst ez
      exact br_f a (br_f b (br_f c0 (br_f c1 (br_f c2 (br_f c3 (br_t c (br_t rfl ⟨rfl, I'⟩)))))))
  · by_cases q : f_mode = 1 ∨ f_mode = 4
    · rw [if_pos q]
      obtain ⟨i30, e1, e2, e3⟩ := kb q
      refine br_f (by decide) ⟨i30, by decide, ys _ (fun z0 ez => ?_)⟩
      rw [if_pos q] at ez
      subst ez
      exact br_f a (br_f b (br_f c0 (br_f c1 (br_f c2 (br_f c3 (br_f c4 (br_t c (br_f (by decide) ⟨by rw [← e1]; exact i30, by decide, by rw [e2, ← e1, e3], I'⟩))))))))
    · rw [if_neg q]
      refine br_t rfl (ys _ (fun z0 ez => ?_))
      rw [if_neg q] at ez
      subst ez
      exact br_f a (br_f b (br_f c0 (br_f c1 (br_f c2 (br_f c3 (br_f c4 (br_t c (br_t rfl ⟨rfl, I'⟩))))))))
  · rw [if_pos d] at k6; exact k6.symm
  · rw [if_neg d] at k6; exact k6.symm
end STT
