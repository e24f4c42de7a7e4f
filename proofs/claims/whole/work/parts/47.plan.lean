section PLC
theorem ci_Rp {L V M lim s0 : Nat → Int32} {l N : Nat} {r : Int32} (hl : l ≤ 30) (h : ci_R L V M lim s0 l N r) (hr : ¬ r = 0) : ¬ r ≤ 0 := by
  obtain ⟨_, _, _, h4⟩ := h
  rcases h4 with ⟨z, _⟩ | ⟨hN, hw, _, e⟩
  · exact absurd z hr
  · have pos : 1 ≤ (px_why L V M lim s0 N).toInt ∧ (px_why L V M lim s0 N).toInt ≤ 6 := ci_why6 hw
    rw [e]
    have e1 : 10 * nI N + px_why L V M lim s0 N = ii_I (10 * (N : Int) + (px_why L V M lim s0 N).toInt) := by rw [← ii_add, ← ii_mul, ii_t, ← ii_n]; rfl
    rw [e1]
    intro z
    have := (ii_le (b := 0) (by unfold ii_R; omega) (by unfold ii_R; omega)).mp z
    omega
theorem i_vc_check {k : Nat} {u : SX} {v : SY} (I : i_Rel k u v) (hk : k + 4 ≤ 2048) : wpX_check (fun r u' => wpY_check (fun r' v' => r' = r ∧ i_Rel (k + 4) u' v') v) u := by
  obtain ⟨w, y_u, y_v, y_direction, ⟨f_lines, f_fastest, f_gain, f_bend, f_ahead, f_mode, f_holds, f_pace, f_line, f_gone, f_dwellLeft, f_stepsInAll, f_ticksInAll, f_speed, f_present, f_laid, y_speed, y_seen, y_line, y_left, y_went, a_wordCounts, a_letters, a_values, a_limits, a_switches, a_tool, a_inForce, a_origins, a_given, a_rows, a_probe, a_motions, a_thirds, a_centres, a_steps, a_paces, a_dwells, a_marks, a_nexts, a_joints, a_began, y_force, y_origins, y_here, y_has, y_grouped, y_word, y_from, y_to, y_steps, y_paces, y_dwells, y_ends, y_turn, y_first, y_second, y_centre, rfl, rfl, R⟩, rfl⟩ := I
  obtain ⟨⟨l, hl30, el⟩, wf, hT, hi, hF, C2⟩ := R.1
  dsimp only
  unfold wpX_check wpY_check
  dsimp only
  by_cases m : f_mode = 0
  · refine xz_lo m hl30 el wf hT (fun g hg => (hF g hg).1) (fun N r hR sp pr F O G Ro P MO TH CE ST PC DW MK hFh _ => ?_)
    refine yz_pl (s0 := a_tool) hl30 el wf hT (fun g hg => (hF g hg).2) (Or.inl ⟨m, fun _ _ => rfl⟩) (fun N' r' hR' sp' u' v' F' O' he' hs' gr' wd' fr' to' st' pc' dw' en' tu' fi' se' ce' hFh' _ _ => ?_)
    obtain ⟨_, e⟩ := ci_Ru hR' hR
    refine ⟨e, rl_mk ⟨⟨⟨l, hl30, el⟩, wf, hT, hi, fun g hg => ⟨hFh g hg, hFh' g hg⟩, C2⟩, Or.inl (rl_st R m)⟩⟩
  · obtain ⟨N, n, Lh, W⟩ := rl_rn R m
    obtain ⟨⟨l', _, el', hR⟩, K, hX, hY⟩ := Lh
    unfold wpX_layOut
    refine br_f m ?_
    refine yz_pl (s0 := a_began) hl30 el wf K.2.1 (fun g hg => (hF g hg).2) (Or.inr ⟨m, fun _ _ => rfl⟩) (fun N' r' hR' sp' u' v' F' O' he' hs' gr' wd' fr' to' st' pc' dw' en' tu' fi' se' ce' hFh' _ hL => ?_)
    have ell : l = l' := by
      have := el.symm.trans el'
      exact (nI_eq (by omega) (by omega)).mp this
    subst ell
    obtain ⟨eN, e⟩ := ci_Ru hR' hR
    subst eN e
    exact ⟨rfl, rl_mk ⟨⟨⟨l, hl30, el⟩, wf, hT, hi, fun g hg => ⟨(hF g hg).1, hFh' g hg⟩, C2⟩, Or.inr ⟨N', n, ⟨⟨l, hl30, el, hR⟩, K, hX, rfl, hL rfl⟩, W⟩⟩⟩
theorem i_vc_after {k : Nat} {u : SX} {v : SY} (I : i_Rel k u v) (hk : k + 4 ≤ 2048) (v1 : Int32) (v2 : Int32) : wpX_after (fun r u' => wpY_after (fun r' v' => r' = r ∧ i_Rel (k + 4) u' v') v v1 v2) u v1 v2 := by
  obtain ⟨w, y_u, y_v, y_direction, ⟨f_lines, f_fastest, f_gain, f_bend, f_ahead, f_mode, f_holds, f_pace, f_line, f_gone, f_dwellLeft, f_stepsInAll, f_ticksInAll, f_speed, f_present, f_laid, y_speed, y_seen, y_line, y_left, y_went, a_wordCounts, a_letters, a_values, a_limits, a_switches, a_tool, a_inForce, a_origins, a_given, a_rows, a_probe, a_motions, a_thirds, a_centres, a_steps, a_paces, a_dwells, a_marks, a_nexts, a_joints, a_began, y_force, y_origins, y_here, y_has, y_grouped, y_word, y_from, y_to, y_steps, y_paces, y_dwells, y_ends, y_turn, y_first, y_second, y_centre, rfl, rfl, R⟩, rfl⟩ := I
  obtain ⟨⟨l, hl30, el⟩, wf, hT, hi, hF, C2⟩ := R.1
  dsimp only
  unfold wpX_after wpY_after
  dsimp only
  have e2 : 3 ≤ v2 ↔ ¬ v2 ≤ 2 := by rw [fc_le, fc_le, fc_3, fc_2]; omega
  -- the answer of a planned program
  have ans : ∀ (s0 to ro : Nat → Int32) (N : Nat), N ≤ 30 → yz_T a_letters a_values a_wordCounts s0 N to → (∀ q, q ≤ N → ∀ a, a < 3 → ro (3 * q + a) = px_he a_letters a_values a_wordCounts s0 q a) → 0 ≤ v1 → 0 ≤ v2 → v2 ≤ 2 → v1 < nI N → vp_in ((v1 + 1) * 3 + v2) 93 ∧ vp_in (3 * v1 + v2) 90 ∧ to (3 * v1 + v2).toNatClampNeg = ro ((v1 + 1) * 3 + v2).toNatClampNeg := by
    intro s0 to ro N hN hTo hRo a1 b1 b2 c
    obtain ⟨q, q1, q2⟩ := nI_of (x := v1) (Int32.not_lt.mpr a1)
    obtain ⟨a, a1', a2⟩ := nI_of (x := v2) (Int32.not_lt.mpr b1)
    subst q2 a2
    have hq : q < N := (nI_ltI (by omega) (by omega)).mp c
    have ha : a < 3 := by have : a ≤ 2 := (nI_leI (b := 2) (by omega) (by omega)).mp b2; omega
    rw [ix_3s, ix_y3, nI_clamp (show 3 * (q + 1) + a < 2 ^ 31 by omega), nI_clamp (show 3 * q + a < 2 ^ 31 by omega)]
    exact ⟨vp_in_nI (by omega) (by omega), vp_in_nI (by omega) (by omega), (hTo q hq a ha).trans (hRo (q + 1) (by omega) a ha).symm⟩
  by_cases m : f_mode = 0
  · -- standing: the reference plans in any case
    have yp : ∀ (PY : Int32 → SY → Prop), (∀ N r, ci_R a_letters a_values a_wordCounts a_limits a_tool l N r → ∀ sp u v F O he hs gr wd fr to st pc dw en tu fi se ce, (∀ g, 6 ≤ g → F g = 0) → yz_T a_letters a_values a_wordCounts a_tool N to → PY r (f_lines, f_fastest, f_gain, f_bend, f_ahead, sp, (nI N), f_mode, y_line, f_pace, y_left, y_went, f_stepsInAll, f_ticksInAll, u, v, f_holds, a_letters, a_values, a_wordCounts, a_tool, a_began, a_limits, a_switches, F, O, he, hs, gr, wd, fr, to, st, pc, dw, en, tu, fi, se, ce, y_direction)) → wpY_plan PY (f_lines, f_fastest, f_gain, f_bend, f_ahead, y_speed, y_seen, f_mode, y_line, f_pace, y_left, y_went, f_stepsInAll, f_ticksInAll, y_u, y_v, f_holds, a_letters, a_values, a_wordCounts, a_tool, a_began, a_limits, a_switches, y_force, y_origins, y_here, y_has, y_grouped, y_word, y_from, y_to, y_steps, y_paces, y_dwells, y_ends, y_turn, y_first, y_second, y_centre, y_direction) :=
      fun PY h => yz_pl (s0 := a_tool) hl30 el wf hT (fun g hg => (hF g hg).2) (Or.inl ⟨m, fun _ _ => rfl⟩) (fun N r hR sp u v F O he hs gr wd fr to st pc dw en tu fi se ce h1 h2 _ => h N r hR sp u v F O he hs gr wd fr to st pc dw en tu fi se ce h1 h2)
    have relY : ∀ N sp u v F O he hs gr wd fr to st pc dw en tu fi se ce, (∀ g, 6 ≤ g → F g = 0) → i_Rel (k + 4) (f_lines, f_fastest, f_gain, f_bend, f_ahead, f_mode, f_holds, f_pace, f_line, f_gone, f_dwellLeft, f_stepsInAll, f_ticksInAll, f_speed, f_present, f_laid, a_wordCounts, a_letters, a_values, a_limits, a_switches, a_tool, a_inForce, a_origins, a_given, a_rows, a_probe, a_motions, a_thirds, a_centres, a_steps, a_paces, a_dwells, a_marks, a_nexts, a_joints) (f_lines, f_fastest, f_gain, f_bend, f_ahead, sp, (nI N), f_mode, y_line, f_pace, y_left, y_went, f_stepsInAll, f_ticksInAll, u, v, f_holds, a_letters, a_values, a_wordCounts, a_tool, a_began, a_limits, a_switches, F, O, he, hs, gr, wd, fr, to, st, pc, dw, en, tu, fi, se, ce, y_direction) := by
      intro N sp u v F O he hs gr wd fr to st pc dw en tu fi se ce h1
      exact rl_mk ⟨⟨⟨l, hl30, el⟩, wf, hT, hi, fun g hg => ⟨(hF g hg).1, h1 g hg⟩, C2⟩, Or.inl (rl_st R m)⟩
    refine br_c (fun a => yp _ (fun N r hR sp u v F O he hs gr wd fr to st pc dw en tu fi se ce h1 h2 => yl_in (fun z _ => absurd a (Int32.not_lt.mpr z)) (fun _ => br_t rfl ⟨rfl, relY _ _ _ _ _ _ _ _ _ _ _ _ _ _ _ _ _ _ _ _ h1⟩))) (fun a => br_c (fun b => yp _ (fun N r hR sp u v F O he hs gr wd fr to st pc dw en tu fi se ce h1 h2 => yl_in (fun _ z => absurd z (e2.mp b)) (fun _ => br_t rfl ⟨rfl, relY _ _ _ _ _ _ _ _ _ _ _ _ _ _ _ _ _ _ _ _ h1⟩))) (fun b => ?_))
    have a' : 0 ≤ v2 := Int32.not_lt.mp a
    have b' : v2 ≤ 2 := Decidable.byContradiction (fun z => b (e2.mpr z))
    refine br_c (fun c => ?_) (fun c => yp _ (fun N r hR sp u v F O he hs gr wd fr to st pc dw en tu fi se ce h1 h2 => yl_in (fun _ _ => br_f (by decide) (br_t (Int32.not_le.mp c) ⟨rfl, relY _ _ _ _ _ _ _ _ _ _ _ _ _ _ _ _ _ _ _ _ h1⟩)) (fun n => absurd ⟨a', b'⟩ n)))
    refine xz_lo m hl30 el wf hT (fun g hg => (hF g hg).1) (fun N r hR sp pr F O G Ro P MO TH CE ST PC DW MK hFh hXL => ?_)
    have relXY : ∀ N' sp' u v F' O' he hs gr wd fr to st pc dw en tu fi se ce, (∀ g, 6 ≤ g → F' g = 0) → i_Rel (k + 4) (f_lines, f_fastest, f_gain, f_bend, f_ahead, f_mode, f_holds, f_pace, f_line, f_gone, f_dwellLeft, f_stepsInAll, f_ticksInAll, sp, pr, (nI N), a_wordCounts, a_letters, a_values, a_limits, a_switches, a_tool, F, O, G, Ro, P, MO, TH, CE, ST, PC, DW, MK, a_nexts, a_joints) (f_lines, f_fastest, f_gain, f_bend, f_ahead, sp', (nI N'), f_mode, y_line, f_pace, y_left, y_went, f_stepsInAll, f_ticksInAll, u, v, f_holds, a_letters, a_values, a_wordCounts, a_tool, a_began, a_limits, a_switches, F', O', he, hs, gr, wd, fr, to, st, pc, dw, en, tu, fi, se, ce, y_direction) := by
      intro N' sp' u v F' O' he hs gr wd fr to st pc dw en tu fi se ce h1
      exact rl_mk ⟨⟨⟨l, hl30, el⟩, wf, hT, hi, fun g hg => ⟨hFh g hg, h1 g hg⟩, C2⟩, Or.inl (rl_st R m)⟩
    have N30 : N ≤ 30 := Nat.le_trans hR.1 hl30
    refine br_c (fun d => ?_) (fun d => yp _ (fun N' r' hR' sp' u v F' O' he hs gr wd fr to st pc dw en tu fi se ce h1 h2 => ?_))
    · refine ⟨?_, yp _ (fun N' r' hR' sp' u v F' O' he hs gr wd fr to st pc dw en tu fi se ce h1 h2 => ?_)⟩
      · obtain ⟨q, q1, q2⟩ := nI_of (x := v1) (Int32.not_lt.mpr c)
        obtain ⟨a0, a1', a2⟩ := nI_of (x := v2) (Int32.not_lt.mpr a')
        subst q2 a2
        have hq : q < N := (nI_ltI (by omega) (by omega)).mp d
        have ha : a0 ≤ 2 := (nI_leI (b := 2) (by omega) (by omega)).mp b'
        rw [ix_3s]
        exact vp_in_nI (by omega) (by omega)
      · obtain ⟨eN, _⟩ := ci_Ru hR' hR
        subst eN
        obtain ⟨i1, i2, i3⟩ := ans a_tool to Ro N' N30 h2 hXL.1 c a' b' d
        exact yl_in (fun _ _ => br_f (by decide) (br_f (Int32.not_lt.mpr c) (br_t d ⟨i2, i3, relXY _ _ _ _ _ _ _ _ _ _ _ _ _ _ _ _ _ _ _ _ h1⟩))) (fun n => absurd ⟨a', b'⟩ n)
    · obtain ⟨eN, _⟩ := ci_Ru hR' hR
      subst eN
      exact yl_in (fun _ _ => br_f (by decide) (br_f (Int32.not_lt.mpr c) (br_f d ⟨rfl, relXY _ _ _ _ _ _ _ _ _ _ _ _ _ _ _ _ _ _ _ _ h1⟩))) (fun n => absurd ⟨a', b'⟩ n)
  · obtain ⟨N, n, Lh, W⟩ := rl_rn R m
    obtain ⟨⟨l', _, el', hR⟩, K, hX, hY⟩ := Lh
    have ell : l = l' := (nI_eq (by omega) (by omega)).mp (el.symm.trans el')
    subst ell
    have N30 : N ≤ 30 := K.2.2.2.2.1
    have yp : ∀ (PY : Int32 → SY → Prop), (∀ sp u v F O he hs gr wd fr to st pc dw en tu fi se ce, yz_T a_letters a_values a_wordCounts a_began N to → i_Rel (k + 4) (f_lines, f_fastest, f_gain, f_bend, f_ahead, f_mode, f_holds, f_pace, f_line, f_gone, f_dwellLeft, f_stepsInAll, f_ticksInAll, f_speed, f_present, f_laid, a_wordCounts, a_letters, a_values, a_limits, a_switches, a_tool, a_inForce, a_origins, a_given, a_rows, a_probe, a_motions, a_thirds, a_centres, a_steps, a_paces, a_dwells, a_marks, a_nexts, a_joints) (f_lines, f_fastest, f_gain, f_bend, f_ahead, sp, (nI N), f_mode, y_line, f_pace, y_left, y_went, f_stepsInAll, f_ticksInAll, u, v, f_holds, a_letters, a_values, a_wordCounts, a_tool, a_began, a_limits, a_switches, F, O, he, hs, gr, wd, fr, to, st, pc, dw, en, tu, fi, se, ce, y_direction) → PY 0 (f_lines, f_fastest, f_gain, f_bend, f_ahead, sp, (nI N), f_mode, y_line, f_pace, y_left, y_went, f_stepsInAll, f_ticksInAll, u, v, f_holds, a_letters, a_values, a_wordCounts, a_tool, a_began, a_limits, a_switches, F, O, he, hs, gr, wd, fr, to, st, pc, dw, en, tu, fi, se, ce, y_direction)) → wpY_plan PY (f_lines, f_fastest, f_gain, f_bend, f_ahead, y_speed, y_seen, f_mode, y_line, f_pace, y_left, y_went, f_stepsInAll, f_ticksInAll, y_u, y_v, f_holds, a_letters, a_values, a_wordCounts, a_tool, a_began, a_limits, a_switches, y_force, y_origins, y_here, y_has, y_grouped, y_word, y_from, y_to, y_steps, y_paces, y_dwells, y_ends, y_turn, y_first, y_second, y_centre, y_direction) := by
      intro PY h
      refine yz_pl (s0 := a_began) hl30 el wf K.2.1 (fun g hg => (hF g hg).2) (Or.inr ⟨m, fun _ _ => rfl⟩) (fun N' r' hR' sp' u' v' F' O' he' hs' gr' wd' fr' to' st' pc' dw' en' tu' fi' se' ce' hFh' hTo hL => ?_)
      obtain ⟨eN, e⟩ := ci_Ru hR' hR
      subst eN e
      exact h _ _ _ _ _ _ _ _ _ _ _ _ _ _ _ _ _ _ _ hTo (rl_mk ⟨⟨⟨l, hl30, el⟩, wf, hT, hi, fun g hg => ⟨(hF g hg).1, hFh' g hg⟩, C2⟩, Or.inr ⟨N', n, ⟨⟨l, hl30, el, hR⟩, K, hX, rfl, hL rfl⟩, W⟩⟩)
    unfold wpX_layOut
    refine br_c (fun a => yp _ (fun sp u v F O he hs gr wd fr to st pc dw en tu fi se ce h1 h2 => yl_in (fun z _ => absurd a (Int32.not_lt.mpr z)) (fun _ => br_t rfl ⟨rfl, h2⟩))) (fun a => br_c (fun b => yp _ (fun sp u v F O he hs gr wd fr to st pc dw en tu fi se ce h1 h2 => yl_in (fun _ z => absurd z (e2.mp b)) (fun _ => br_t rfl ⟨rfl, h2⟩))) (fun b => ?_))
    have a' : 0 ≤ v2 := Int32.not_lt.mp a
    have b' : v2 ≤ 2 := Decidable.byContradiction (fun z => b (e2.mpr z))
    refine br_c (fun c => br_f m ?_) (fun c => yp _ (fun sp u v F O he hs gr wd fr to st pc dw en tu fi se ce h1 h2 => yl_in (fun _ _ => br_f (by decide) (br_t (Int32.not_le.mp c) ⟨rfl, h2⟩)) (fun n => absurd ⟨a', b'⟩ n)))
    dsimp only
    have eL := hX.1
    refine br_c (fun d0 => ⟨?_, yp _ (fun sp u v F O he hs gr wd fr to st pc dw en tu fi se ce h1 h2 => ?_)⟩) (fun d0 => yp _ (fun sp u v F O he hs gr wd fr to st pc dw en tu fi se ce h1 h2 => ?_))
    · have d : v1 < nI N := eL ▸ d0
      obtain ⟨q, q1, q2⟩ := nI_of (x := v1) (Int32.not_lt.mpr c)
      obtain ⟨a0, a1', a2⟩ := nI_of (x := v2) (Int32.not_lt.mpr a')
      subst q2 a2
      have hq : q < N := (nI_ltI (by omega) (by omega)).mp d
      have ha : a0 ≤ 2 := (nI_leI (b := 2) (by omega) (by omega)).mp b'
      rw [ix_3s]
      exact vp_in_nI (by omega) (by omega)
    · have d : v1 < nI N := eL ▸ d0
      obtain ⟨i1, i2, i3⟩ := ans a_began to a_rows N N30 h1 hX.2.1.1 c a' b' d
      exact yl_in (fun _ _ => br_f (by decide) (br_f (Int32.not_lt.mpr c) (br_t d ⟨i2, i3, h2⟩))) (fun n => absurd ⟨a', b'⟩ n)
    · have d : ¬ v1 < nI N := eL ▸ d0
      exact yl_in (fun _ _ => br_f (by decide) (br_f (Int32.not_lt.mpr c) (br_f d ⟨rfl, h2⟩))) (fun n => absurd ⟨a', b'⟩ n)
end PLC
