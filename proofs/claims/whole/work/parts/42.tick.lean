section TCK
theorem sp_ft0 (g : Nat) (s jp : Nat → Nat) (nx : Nat → Option Nat) : ∀ a n r, sp_ft g s jp nx a n r 0 = true := by
  intro a
  induction a with
  | zero => intro n r; rfl
  | succ a ih =>
    intro n r
    rw [sp_ft]
    have f0 : ∀ w, sp_fit g r w 0 = true := fun w => decide_eq_true (Or.inl (Nat.zero_le _))
    rw [f0, Bool.true_and]
    split
    · rfl
    · exact ih _ _
section
variable {f_lines f_fastest f_gain f_bend f_ahead f_mode f_holds f_pace f_line f_gone f_dwellLeft f_stepsInAll f_ticksInAll f_speed f_present f_laid : Int32} {a_wordCounts a_letters a_values a_limits a_switches a_tool a_inForce a_origins a_given a_rows a_probe a_motions a_thirds a_centres a_steps a_paces a_dwells a_marks a_nexts a_joints : Nat → Int32} {y_speed y_seen y_line y_left y_went y_u y_v : Int32} {a_began y_force y_origins y_here y_has y_grouped y_word y_from y_to y_steps y_paces y_dwells y_ends y_turn y_first y_second y_centre y_direction : Nat → Int32}
/-- one tick, on both sides: the reference's stands within its own loop -/
theorem tk_ (R : rl_ f_lines f_fastest f_gain f_bend f_ahead f_mode f_holds f_pace f_line f_gone f_dwellLeft f_stepsInAll f_ticksInAll f_speed f_present f_laid y_speed y_seen y_line y_left y_went a_wordCounts a_letters a_values a_limits a_switches a_tool a_inForce a_origins a_given a_rows a_probe a_motions a_thirds a_centres a_steps a_paces a_dwells a_marks a_nexts a_joints a_began y_force y_origins y_here y_has y_grouped y_word y_from y_to y_steps y_paces y_dwells y_ends y_turn y_first y_second y_centre) : ∃ u' w', rl_V u' w' ∧ (∀ PX : SX → Prop, PX u' → wpX_tick PX (f_lines, f_fastest, f_gain, f_bend, f_ahead, f_mode, f_holds, f_pace, f_line, f_gone, f_dwellLeft, f_stepsInAll, f_ticksInAll, f_speed, f_present, f_laid, a_wordCounts, a_letters, a_values, a_limits, a_switches, a_tool, a_inForce, a_origins, a_given, a_rows, a_probe, a_motions, a_thirds, a_centres, a_steps, a_paces, a_dwells, a_marks, a_nexts, a_joints)) ∧
    (∀ (PY : Int32 → SY → Prop) x1 x2 f x3 y_u y_v y_direction, ¬ x1 ≤ x3 → (∀ s1 s2 s3, match w' s1 s2 s3 with | (f_lines, f_fastest, f_gain, f_bend, f_ahead, f_speed, f_seen, f_state, f_line, f_pace, f_left, f_went, f_allSteps, f_allTicks, f_u, f_v, f_holds, a_letters, a_values, a_many, a_tool, a_began, a_limit, a_trips, a_force, a_origins, a_here, a_has, a_grouped, a_word, a_from, a_to, a_steps, a_paces, a_dwells, a_ends, a_turn, a_first, a_second, a_centre, a_direction) => wY_advance_20 PY x1 x2 f (x3 + 1) f_lines f_fastest f_gain f_bend f_ahead f_speed f_seen f_state f_line f_pace f_left f_went f_allSteps f_allTicks f_u f_v f_holds a_letters a_values a_many a_tool a_began a_limit a_trips a_force a_origins a_here a_has a_grouped a_word a_from a_to a_steps a_paces a_dwells a_ends a_turn a_first a_second a_centre a_direction) → wY_advance_20 PY x1 x2 (f + 1) x3 f_lines f_fastest f_gain f_bend f_ahead y_speed y_seen f_mode y_line f_pace y_left y_went f_stepsInAll f_ticksInAll y_u y_v f_holds a_letters a_values a_wordCounts a_tool a_began a_limits a_switches y_force y_origins y_here y_has y_grouped y_word y_from y_to y_steps y_paces y_dwells y_ends y_turn y_first y_second y_centre y_direction) := by
  obtain ⟨C, S⟩ := R
  rcases S with ⟨m0, h0, p0, l0, le0⟩ | ⟨N, n, Lh, hn, el, eyl, W⟩
  · subst m0
    refine ⟨(f_lines, f_fastest, f_gain, f_bend, f_ahead, 0, f_holds, f_pace, f_line, f_gone, f_dwellLeft, f_stepsInAll, (f_ticksInAll + 1), f_speed, f_present, f_laid, a_wordCounts, a_letters, a_values, a_limits, a_switches, a_tool, a_inForce, a_origins, a_given, a_rows, a_probe, a_motions, a_thirds, a_centres, a_steps, a_paces, a_dwells, a_marks, a_nexts, a_joints), (fun y_u y_v y_direction => (f_lines, f_fastest, f_gain, f_bend, f_ahead, y_speed, y_seen, 0, y_line, f_pace, y_left, y_went, f_stepsInAll, (f_ticksInAll + 1), y_u, y_v, f_holds, a_letters, a_values, a_wordCounts, a_tool, a_began, a_limits, a_switches, y_force, y_origins, y_here, y_has, y_grouped, y_word, y_from, y_to, y_steps, y_paces, y_dwells, y_ends, y_turn, y_first, y_second, y_centre, y_direction)), ⟨f_lines, f_fastest, f_gain, f_bend, f_ahead, 0, f_holds, f_pace, f_line, f_gone, f_dwellLeft, f_stepsInAll, (f_ticksInAll + 1), f_speed, f_present, f_laid, y_speed, y_seen, y_line, y_left, y_went, a_wordCounts, a_letters, a_values, a_limits, a_switches, a_tool, a_inForce, a_origins, a_given, a_rows, a_probe, a_motions, a_thirds, a_centres, a_steps, a_paces, a_dwells, a_marks, a_nexts, a_joints, a_began, y_force, y_origins, y_here, y_has, y_grouped, y_word, y_from, y_to, y_steps, y_paces, y_dwells, y_ends, y_turn, y_first, y_second, y_centre, rfl, rfl, C, Or.inl ⟨rfl, h0, p0, l0, le0⟩⟩, fun PX h => ?_, fun PY x1 x2 f x3 y_u y_v y_direction hx h => ?_⟩
    · exact nm_e (br_f (by decide) (br_f (by decide) h))
    · exact br_f hx (nm_e (br_f (by decide) (br_f (by decide) (nm_e (h y_u y_v y_direction)))))
  · have K := Lh.2.1
    have hX := Lh.2.2.1
    have hY := Lh.2.2.2
    have N30 : N ≤ 30 := K.2.2.2.2.1
    rcases W with ⟨m1, s1, le0, p, go, hp, hgo, ep, eg, ew, hT⟩ | ⟨m4, s1, h0, p0, le0, go, hgo, eg, ew⟩ | ⟨m2, p0, ed, hT⟩ | ⟨m3, h0, p0, le0, hT⟩
    · -- it runs
      subst m1 el eyl ep eg ew le0
      obtain ⟨g, hg, egn⟩ := C.2.2.2.2.2.2.1
      obtain ⟨ah, hah, eah⟩ := C.2.2.2.2.2.2.2.2
      subst egn eah
      have sn := rk_s K hn
      obtain ⟨pc, hpc, epc⟩ := rn_pc K.1 (rk_ci K (n := n) (by omega)) (rk_w K hn) K.2.2.1
      have ul : sp_np g (px_st a_letters a_values a_wordCounts a_limits a_began) (rn_j a_letters a_values a_wordCounts a_limits a_began f_fastest f_bend N) (rn_x a_letters a_values a_wordCounts a_limits a_began N) ah n (1000 * px_st a_letters a_values a_wordCounts a_limits a_began n - go) (xp_u f_holds p g pc) ≤ 2000 := by
        rw [← sp_ftnp hg.1]
        refine Nat.le_trans (sp_grle _ _) ?_
        unfold xp_u; omega
      have ff : sp_ft g (px_st a_letters a_values a_wordCounts a_limits a_began) (rn_j a_letters a_values a_wordCounts a_limits a_began f_fastest f_bend N) (rn_x a_letters a_values a_wordCounts a_limits a_began N) ah n (1000 * px_st a_letters a_values a_wordCounts a_limits a_began n - go) (sp_np g (px_st a_letters a_values a_wordCounts a_limits a_began) (rn_j a_letters a_values a_wordCounts a_limits a_began f_fastest f_bend N) (rn_x a_letters a_values a_wordCounts a_limits a_began N) ah n (1000 * px_st a_letters a_values a_wordCounts a_limits a_began n - go) (xp_u f_holds p g pc)) = true := by
        rw [← sp_ftnp hg.1]
        exact sp_grP _ (sp_ft0 _ _ _ _ _ _ _) _
      have xnp := fun (post : Int32 → Prop) => xp_np (post := post) (f_lines := f_lines) (f_mode := 1) (f_holds := f_holds) (f_dwellLeft := f_dwellLeft) (f_stepsInAll := f_stepsInAll) (f_ticksInAll := f_ticksInAll + 1) (f_speed := f_speed) (f_present := f_present) (a_switches := a_switches) (a_tool := a_tool) (a_inForce := a_inForce) (a_origins := a_origins) (a_given := a_given) (a_probe := a_probe) K hX rfl hg rfl hah.2 rfl hn s1 rfl hp rfl (Nat.le_of_lt hgo) epc hpc
      have yrn := fun (post : SY → Prop) y_u y_v y_direction => yf_rn (post := post) (f_lines := f_lines) (f_state := 1) (f_holds := f_holds) (f_left := 0) (f_allSteps := f_stepsInAll) (f_allTicks := f_ticksInAll + 1) (f_speed := y_speed) (f_u := y_u) (f_v := y_v) (a_trips := a_switches) (a_tool := a_tool) (a_began := a_began) (a_force := y_force) (a_origins := y_origins) (a_here := y_here) (a_has := y_has) (a_grouped := y_grouped) (a_word := y_word) (a_direction := y_direction) K hY hg hah.2 hn (Nat.le_of_lt hgo) hp epc hpc
      generalize sp_np g (px_st a_letters a_values a_wordCounts a_limits a_began) (rn_j a_letters a_values a_wordCounts a_limits a_began f_fastest f_bend N) (rn_x a_letters a_values a_wordCounts a_limits a_began N) ah n (1000 * px_st a_letters a_values a_wordCounts a_limits a_began n - go) (xp_u f_holds p g pc) = q at ul ff xnp yrn
      obtain ⟨a', ea'⟩ : ∃ a', ah = a' + 1 := ⟨ah - 1, by omega⟩
      rw [ea'] at ff
      obtain ⟨f0, hf0⟩ := sp_reach (g := g) (px_st a_letters a_values a_wordCounts a_limits a_began) (rn_j a_letters a_values a_wordCounts a_limits a_began f_fastest f_bend N) (rn_x a_letters a_values a_wordCounts a_limits a_began N) (fun k hk => by unfold rn_j; rw [hk]) a' n _ q ff
      rw [← ea'] at *
      obtain ⟨md, n', go', T', sc', A1, A2, A3, A4, A4h, A5, AX, AY⟩ := go_ (f_lines := f_lines) (f_gain := nI g) (f_ahead := nI ah) (f_holds := f_holds) (f_pace := nI q) (f_dwellLeft := f_dwellLeft) (f_ticksInAll := f_ticksInAll + 1) (f_speed := f_speed) (f_present := f_present) (a_switches := a_switches) (a_inForce := a_inForce) (a_origins := a_origins) (a_given := a_given) (a_probe := a_probe)
        (y_speed := y_speed) (y_left := 0) (a_began := a_began) (y_force := y_force) (y_origins := y_origins) (y_here := y_here) (y_has := y_has) (y_grouped := y_grouped) (y_word := y_word)
        K hX hY q q n go a_tool f_stepsInAll f0 (Nat.le_refl _) ul hn s1 hgo hT (by omega)
      have A3' : go' / 1000 ≤ px_st a_letters a_values a_wordCounts a_limits a_began n' := by omega
      have C' : rl_C f_lines f_fastest (nI g) f_bend (nI ah) a_wordCounts a_letters a_values a_limits T' a_inForce a_began y_force := by
        obtain ⟨c1, c2, c3, c4, c5⟩ := C
        exact ⟨c1, c2, rl_tool K A1 A2 A3' A4, fun a ha => ⟨(A4h a ha).trans (c4 a ha).1, (c4 a ha).2⟩, c5⟩
      -- X's tick up to the end of its going
      have xt : ∀ PX : SX → Prop, (¬ md = 1 → PX (f_lines, f_fastest, (nI g), f_bend, (nI ah), md, (if md = 4 then 0 else f_holds), (if md = 4 then 0 else nI q), (nI n'), (nI go'), f_dwellLeft, sc', (f_ticksInAll + 1), f_speed, f_present, f_laid, a_wordCounts, a_letters, a_values, a_limits, a_switches, T', a_inForce, a_origins, a_given, a_rows, a_probe, a_motions, a_thirds, a_centres, a_steps, a_paces, a_dwells, a_marks, a_nexts, a_joints)) →
          (md = 1 → go' < 1000 * px_st a_letters a_values a_wordCounts a_limits a_began n' → PX (f_lines, f_fastest, (nI g), f_bend, (nI ah), 1, f_holds, (nI q), (nI n'), (nI go'), f_dwellLeft, sc', (f_ticksInAll + 1), f_speed, f_present, f_laid, a_wordCounts, a_letters, a_values, a_limits, a_switches, T', a_inForce, a_origins, a_given, a_rows, a_probe, a_motions, a_thirds, a_centres, a_steps, a_paces, a_dwells, a_marks, a_nexts, a_joints)) →
          (md = 1 → go' = 1000 * px_st a_letters a_values a_wordCounts a_limits a_began n' → wpX_endLine PX (f_lines, f_fastest, (nI g), f_bend, (nI ah), 1, f_holds, (nI q), (nI n'), (nI go'), f_dwellLeft, sc', (f_ticksInAll + 1), f_speed, f_present, f_laid, a_wordCounts, a_letters, a_values, a_limits, a_switches, T', a_inForce, a_origins, a_given, a_rows, a_probe, a_motions, a_thirds, a_centres, a_steps, a_paces, a_dwells, a_marks, a_nexts, a_joints)) →
          wpX_tick PX (f_lines, f_fastest, (nI g), f_bend, (nI ah), 1, f_holds, (nI p), (nI n), (nI go), f_dwellLeft, f_stepsInAll, f_ticksInAll, f_speed, f_present, f_laid, a_wordCounts, a_letters, a_values, a_limits, a_switches, a_tool, a_inForce, a_origins, a_given, a_rows, a_probe, a_motions, a_thirds, a_centres, a_steps, a_paces, a_dwells, a_marks, a_nexts, a_joints) := by
        intro PX g1 g2 g3
        have sn' := rk_s K A1
        refine nm_e (br_t rfl (xnp _ ?_))
        refine ⟨q + 1, AX _ 0 (q + 1) (by omega) (by omega) ?_⟩
        dsimp only
        refine br_c (fun c => ?_) (fun c => g1 c)
        subst c
        rw [if_neg (by decide), if_neg (by decide)]
        unfold wpX_lengthLeft
        dsimp only
        rw [nI_clamp (show n' < 2 ^ 31 by omega), (hX.2.1.2 n' A1).2.2.1, show (1000 : Int32) = nI 1000 from rfl, pk_mul, pk_sub (by omega)]
        refine ⟨vp_in_nI (by omega) (by omega), br_c (fun d => ?_) (fun d => ?_)⟩
        · have : px_st a_letters a_values a_wordCounts a_limits a_began n' * 1000 - go' = 0 := (nI_eq (b := 0) (by omega) (by omega)).mp d
          have h3 := g3 rfl (by omega)
          exact h3
        · refine g2 rfl ?_
          have : ¬ px_st a_letters a_values a_wordCounts a_limits a_began n' * 1000 - go' = 0 := fun z => d (by rw [z]; rfl)
          omega
      -- the reference's tick
      have yt : ∀ (PY : Int32 → SY → Prop) x1 x2 f x3 y_u y_v y_direction, ¬ x1 ≤ x3 →
          (md = 4 ∨ go' < 1000 * px_st a_letters a_values a_wordCounts a_limits a_began n' → ∀ y_u y_v y_direction, wY_advance_20 PY x1 x2 f (x3 + 1) f_lines f_fastest (nI g) f_bend (nI ah) y_speed y_seen md (nI n') (if md = 4 then 0 else nI q) 0 (nI go') sc' (f_ticksInAll + 1) y_u y_v (if md = 4 then 0 else f_holds) a_letters a_values a_wordCounts T' a_began a_limits a_switches y_force y_origins y_here y_has y_grouped y_word y_from y_to y_steps y_paces y_dwells y_ends y_turn y_first y_second y_centre y_direction) →
          (md = 1 → go' = 1000 * px_st a_letters a_values a_wordCounts a_limits a_began n' → ∀ y_u y_v y_direction (Q : SY → Prop), (∀ w, (match w with | (f_lines, f_fastest, f_gain, f_bend, f_ahead, f_speed, f_seen, f_state, f_line, f_pace, f_left, f_went, f_allSteps, f_allTicks, f_u, f_v, f_holds, a_letters, a_values, a_many, a_tool, a_began, a_limit, a_trips, a_force, a_origins, a_here, a_has, a_grouped, a_word, a_from, a_to, a_steps, a_paces, a_dwells, a_ends, a_turn, a_first, a_second, a_centre, a_direction) => ∀ x, x = x3 + 1 → wY_advance_20 PY x1 x2 f x f_lines f_fastest f_gain f_bend f_ahead f_speed f_seen f_state f_line f_pace f_left f_went f_allSteps f_allTicks f_u f_v f_holds a_letters a_values a_many a_tool a_began a_limit a_trips a_force a_origins a_here a_has a_grouped a_word a_from a_to a_steps a_paces a_dwells a_ends a_turn a_first a_second a_centre a_direction) → Q w) → wpY_begin Q (f_lines, f_fastest, (nI g), f_bend, (nI ah), y_speed, y_seen, 1, (nI n'), 0, 0, (nI go'), sc', (f_ticksInAll + 1), y_u, y_v, f_holds, a_letters, a_values, a_wordCounts, T', a_began, a_limits, a_switches, y_force, y_origins, y_here, y_has, y_grouped, y_word, y_from, y_to, y_steps, y_paces, y_dwells, y_ends, y_turn, y_first, y_second, y_centre, y_direction) (nI n') 1) →
          wY_advance_20 PY x1 x2 (f + 1) x3 f_lines f_fastest (nI g) f_bend (nI ah) y_speed y_seen 1 (nI n) (nI p) 0 (nI go) f_stepsInAll f_ticksInAll y_u y_v f_holds a_letters a_values a_wordCounts a_tool a_began a_limits a_switches y_force y_origins y_here y_has y_grouped y_word y_from y_to y_steps y_paces y_dwells y_ends y_turn y_first y_second y_centre y_direction := by
        intro PY x1 x2 f x3 y_u y_v y_direction hx g1 g2
        refine br_f hx (nm_e (br_t rfl (yrn _ y_u y_v y_direction (fun D => ⟨q + 2, ?_⟩))))
        refine AY _ y_u y_v D (q + 2) (by omega) (fun z u v => ?_) (fun z1 z2 u v Q hQ => ?_)
        · exact nm_e (g1 z u v D)
        · exact g2 z1 z2 u v D Q hQ
      rcases A5 with e4 | ⟨e1, ex⟩
      · subst e4
        refine ⟨(f_lines, f_fastest, (nI g), f_bend, (nI ah), 4, 0, 0, (nI n'), (nI go'), f_dwellLeft, sc', (f_ticksInAll + 1), f_speed, f_present, f_laid, a_wordCounts, a_letters, a_values, a_limits, a_switches, T', a_inForce, a_origins, a_given, a_rows, a_probe, a_motions, a_thirds, a_centres, a_steps, a_paces, a_dwells, a_marks, a_nexts, a_joints), (fun y_u y_v y_direction => (f_lines, f_fastest, (nI g), f_bend, (nI ah), y_speed, y_seen, 4, (nI n'), 0, 0, (nI go'), sc', (f_ticksInAll + 1), y_u, y_v, 0, a_letters, a_values, a_wordCounts, T', a_began, a_limits, a_switches, y_force, y_origins, y_here, y_has, y_grouped, y_word, y_from, y_to, y_steps, y_paces, y_dwells, y_ends, y_turn, y_first, y_second, y_centre, y_direction)),
          ⟨f_lines, f_fastest, (nI g), f_bend, (nI ah), 4, 0, 0, (nI n'), (nI go'), f_dwellLeft, sc', (f_ticksInAll + 1), f_speed, f_present, f_laid, y_speed, y_seen, (nI n'), 0, (nI go'), a_wordCounts, a_letters, a_values, a_limits, a_switches, T', a_inForce, a_origins, a_given, a_rows, a_probe, a_motions, a_thirds, a_centres, a_steps, a_paces, a_dwells, a_marks, a_nexts, a_joints, a_began, y_force, y_origins, y_here, y_has, y_grouped, y_word, y_from, y_to, y_steps, y_paces, y_dwells, y_ends, y_turn, y_first, y_second, y_centre, rfl, rfl, C', Or.inr ⟨N, n', Lh, A1, rfl, rfl, Or.inr (Or.inl ⟨rfl, A2, rfl, rfl, rfl, go', A3, rfl, rfl⟩)⟩⟩, fun PX h => ?_, fun PY x1 x2 f x3 y_u y_v y_direction hx h => ?_⟩
        · exact xt PX (fun _ => h) (fun z => absurd z (by decide)) (fun z => absurd z (by decide))
        · exact yt PY x1 x2 f x3 y_u y_v y_direction hx (fun _ u v d => h u v d) (fun z => absurd z (by decide))
      · subst e1
        rw [if_neg (by decide), if_neg (by decide)] at yt
        by_cases ge : go' < 1000 * px_st a_letters a_values a_wordCounts a_limits a_began n'
        · refine ⟨(f_lines, f_fastest, (nI g), f_bend, (nI ah), 1, f_holds, (nI q), (nI n'), (nI go'), f_dwellLeft, sc', (f_ticksInAll + 1), f_speed, f_present, f_laid, a_wordCounts, a_letters, a_values, a_limits, a_switches, T', a_inForce, a_origins, a_given, a_rows, a_probe, a_motions, a_thirds, a_centres, a_steps, a_paces, a_dwells, a_marks, a_nexts, a_joints), (fun y_u y_v y_direction => (f_lines, f_fastest, (nI g), f_bend, (nI ah), y_speed, y_seen, 1, (nI n'), (nI q), 0, (nI go'), sc', (f_ticksInAll + 1), y_u, y_v, f_holds, a_letters, a_values, a_wordCounts, T', a_began, a_limits, a_switches, y_force, y_origins, y_here, y_has, y_grouped, y_word, y_from, y_to, y_steps, y_paces, y_dwells, y_ends, y_turn, y_first, y_second, y_centre, y_direction)),
            ⟨f_lines, f_fastest, (nI g), f_bend, (nI ah), 1, f_holds, (nI q), (nI n'), (nI go'), f_dwellLeft, sc', (f_ticksInAll + 1), f_speed, f_present, f_laid, y_speed, y_seen, (nI n'), 0, (nI go'), a_wordCounts, a_letters, a_values, a_limits, a_switches, T', a_inForce, a_origins, a_given, a_rows, a_probe, a_motions, a_thirds, a_centres, a_steps, a_paces, a_dwells, a_marks, a_nexts, a_joints, a_began, y_force, y_origins, y_here, y_has, y_grouped, y_word, y_from, y_to, y_steps, y_paces, y_dwells, y_ends, y_turn, y_first, y_second, y_centre, rfl, rfl, C', Or.inr ⟨N, n', Lh, A1, rfl, rfl, Or.inl ⟨rfl, A2, rfl, q, go', ul, ge, rfl, rfl, rfl, A4⟩⟩⟩, fun PX h => ?_, fun PY x1 x2 f x3 y_u y_v y_direction hx h => ?_⟩
          · exact xt PX (fun z => absurd rfl z) (fun _ _ => h) (fun _ z => by omega)
          · exact yt PY x1 x2 f x3 y_u y_v y_direction hx (fun _ u v d => h u v d) (fun _ z => by omega)
        · have ge' : go' = 1000 * px_st a_letters a_values a_wordCounts a_limits a_began n' := by omega
          have hT2 : ∀ a, a < 3 → T' a = px_he a_letters a_values a_wordCounts a_began (n' + 1) a := by
            intro a ha
            rw [A4 a ha, ge', Nat.mul_div_cancel_left _ (by decide)]
            unfold rs_v
            rw [rs_N K A1 A2 ha, ii_t]
          obtain ⟨u', w', V, gs, BX, BY⟩ := en_1 (f_mode := 1) (f_pace := nI q) (f_holds := f_holds) (f_gone := nI go') (f_dwellLeft := f_dwellLeft) (f_stepsInAll := sc') (f_ticksInAll := f_ticksInAll + 1) (f_speed := f_speed) (f_present := f_present) (a_switches := a_switches) (a_origins := a_origins) (a_given := a_given) (a_probe := a_probe)
            (y_left := 0) (y_went := nI go') (y_speed := y_speed) (y_origins := y_origins) (y_here := y_here) (y_has := y_has) (y_grouped := y_grouped) (y_word := y_word) C' Lh A1 hT2
          refine ⟨u', w', V, fun PX h => ?_, fun PY x1 x2 f x3 y_u y_v y_direction hx h => ?_⟩
          · exact xt PX (fun z => absurd rfl z) (fun _ z => by omega) (fun _ _ => BX PX h)
          · refine yt PY x1 x2 f x3 y_u y_v y_direction hx (fun z => ?_) (fun _ _ u v d Q hQ => BY Q u v d (hQ _ ?_))
            · rcases z with z | z
              · exact absurd z (by decide)
              · omega
            · have h' := h u v d
              generalize w' u v d = vv at h'
              obtain ⟨f_lines, f_fastest, f_gain, f_bend, f_ahead, f_speed, f_seen, f_state, f_line, f_pace, f_left, f_went, f_allSteps, f_allTicks, f_u, f_v, f_holds, a_letters, a_values, a_many, a_tool, a_began, a_limit, a_trips, a_force, a_origins, a_here, a_has, a_grouped, a_word, a_from, a_to, a_steps, a_paces, a_dwells, a_ends, a_turn, a_first, a_second, a_centre, a_direction⟩ := vv
              exact nm_e h'
    · subst m4 el eyl
      refine ⟨(f_lines, f_fastest, f_gain, f_bend, f_ahead, 4, f_holds, f_pace, (nI n), f_gone, f_dwellLeft, f_stepsInAll, (f_ticksInAll + 1), f_speed, f_present, f_laid, a_wordCounts, a_letters, a_values, a_limits, a_switches, a_tool, a_inForce, a_origins, a_given, a_rows, a_probe, a_motions, a_thirds, a_centres, a_steps, a_paces, a_dwells, a_marks, a_nexts, a_joints), (fun y_u y_v y_direction => (f_lines, f_fastest, f_gain, f_bend, f_ahead, y_speed, y_seen, 4, (nI n), f_pace, y_left, y_went, f_stepsInAll, (f_ticksInAll + 1), y_u, y_v, f_holds, a_letters, a_values, a_wordCounts, a_tool, a_began, a_limits, a_switches, y_force, y_origins, y_here, y_has, y_grouped, y_word, y_from, y_to, y_steps, y_paces, y_dwells, y_ends, y_turn, y_first, y_second, y_centre, y_direction)), ⟨f_lines, f_fastest, f_gain, f_bend, f_ahead, 4, f_holds, f_pace, (nI n), f_gone, f_dwellLeft, f_stepsInAll, (f_ticksInAll + 1), f_speed, f_present, f_laid, y_speed, y_seen, (nI n), y_left, y_went, a_wordCounts, a_letters, a_values, a_limits, a_switches, a_tool, a_inForce, a_origins, a_given, a_rows, a_probe, a_motions, a_thirds, a_centres, a_steps, a_paces, a_dwells, a_marks, a_nexts, a_joints, a_began, y_force, y_origins, y_here, y_has, y_grouped, y_word, y_from, y_to, y_steps, y_paces, y_dwells, y_ends, y_turn, y_first, y_second, y_centre, rfl, rfl, C, Or.inr ⟨N, n, Lh, hn, rfl, rfl, Or.inr (Or.inl ⟨rfl, s1, h0, p0, le0, go, hgo, eg, ew⟩)⟩⟩, fun PX h => ?_, fun PY x1 x2 f x3 y_u y_v y_direction hx h => ?_⟩
      · exact nm_e (br_f (by decide) (br_f (by decide) h))
      · exact br_f hx (nm_e (br_f (by decide) (br_f (by decide) (nm_e (h y_u y_v y_direction)))))
    · subst m2 el eyl ed p0
      by_cases hh : f_holds = 0
      · by_cases d0 : f_dwellLeft - 1 = 0
        · obtain ⟨u', w', V, gs, BX, BY⟩ := en_1 (f_mode := 2) (f_pace := 0) (f_holds := f_holds) (f_gone := f_gone) (f_dwellLeft := f_dwellLeft - 1) (f_stepsInAll := f_stepsInAll) (f_ticksInAll := f_ticksInAll + 1) (f_speed := f_speed) (f_present := f_present) (a_switches := a_switches) (a_origins := a_origins) (a_given := a_given) (a_probe := a_probe)
            (y_left := f_dwellLeft - 1) (y_went := y_went) (y_speed := y_speed) (y_origins := y_origins) (y_here := y_here) (y_has := y_has) (y_grouped := y_grouped) (y_word := y_word) C Lh hn hT
          refine ⟨u', w', V, fun PX h => ?_, fun PY x1 x2 f x3 y_u y_v y_direction hx h => ?_⟩
          · exact nm_e (br_f (by decide) (br_t rfl (br_t hh (nm_e (br_t d0 (BX _ h))))))
          · refine br_f hx (nm_e (br_f (by decide) (br_t rfl (br_t hh (nm_e (br_t d0 (BY _ y_u y_v y_direction ?_)))))))
            have h' := h y_u y_v y_direction
            generalize w' y_u y_v y_direction = v at h'
            obtain ⟨f_lines, f_fastest, f_gain, f_bend, f_ahead, f_speed, f_seen, f_state, f_line, f_pace, f_left, f_went, f_allSteps, f_allTicks, f_u, f_v, f_holds, a_letters, a_values, a_many, a_tool, a_began, a_limit, a_trips, a_force, a_origins, a_here, a_has, a_grouped, a_word, a_from, a_to, a_steps, a_paces, a_dwells, a_ends, a_turn, a_first, a_second, a_centre, a_direction⟩ := v
            exact nm_e h'
        · refine ⟨(f_lines, f_fastest, f_gain, f_bend, f_ahead, 2, f_holds, 0, (nI n), f_gone, (f_dwellLeft - 1), f_stepsInAll, (f_ticksInAll + 1), f_speed, f_present, f_laid, a_wordCounts, a_letters, a_values, a_limits, a_switches, a_tool, a_inForce, a_origins, a_given, a_rows, a_probe, a_motions, a_thirds, a_centres, a_steps, a_paces, a_dwells, a_marks, a_nexts, a_joints), (fun y_u y_v y_direction => (f_lines, f_fastest, f_gain, f_bend, f_ahead, y_speed, y_seen, 2, (nI n), 0, (f_dwellLeft - 1), y_went, f_stepsInAll, (f_ticksInAll + 1), y_u, y_v, f_holds, a_letters, a_values, a_wordCounts, a_tool, a_began, a_limits, a_switches, y_force, y_origins, y_here, y_has, y_grouped, y_word, y_from, y_to, y_steps, y_paces, y_dwells, y_ends, y_turn, y_first, y_second, y_centre, y_direction)), ⟨f_lines, f_fastest, f_gain, f_bend, f_ahead, 2, f_holds, 0, (nI n), f_gone, (f_dwellLeft - 1), f_stepsInAll, (f_ticksInAll + 1), f_speed, f_present, f_laid, y_speed, y_seen, (nI n), (f_dwellLeft - 1), y_went, a_wordCounts, a_letters, a_values, a_limits, a_switches, a_tool, a_inForce, a_origins, a_given, a_rows, a_probe, a_motions, a_thirds, a_centres, a_steps, a_paces, a_dwells, a_marks, a_nexts, a_joints, a_began, y_force, y_origins, y_here, y_has, y_grouped, y_word, y_from, y_to, y_steps, y_paces, y_dwells, y_ends, y_turn, y_first, y_second, y_centre, rfl, rfl, C, Or.inr ⟨N, n, Lh, hn, rfl, rfl, Or.inr (Or.inr (Or.inl ⟨rfl, rfl, rfl, hT⟩))⟩⟩, fun PX h => ?_, fun PY x1 x2 f x3 y_u y_v y_direction hx h => ?_⟩
          · exact nm_e (br_f (by decide) (br_t rfl (br_t hh (nm_e (br_f d0 h)))))
          · exact br_f hx (nm_e (br_f (by decide) (br_t rfl (br_t hh (nm_e (br_f d0 (nm_e (h y_u y_v y_direction))))))))
      · refine ⟨(f_lines, f_fastest, f_gain, f_bend, f_ahead, 2, f_holds, 0, (nI n), f_gone, f_dwellLeft, f_stepsInAll, (f_ticksInAll + 1), f_speed, f_present, f_laid, a_wordCounts, a_letters, a_values, a_limits, a_switches, a_tool, a_inForce, a_origins, a_given, a_rows, a_probe, a_motions, a_thirds, a_centres, a_steps, a_paces, a_dwells, a_marks, a_nexts, a_joints), (fun y_u y_v y_direction => (f_lines, f_fastest, f_gain, f_bend, f_ahead, y_speed, y_seen, 2, (nI n), 0, f_dwellLeft, y_went, f_stepsInAll, (f_ticksInAll + 1), y_u, y_v, f_holds, a_letters, a_values, a_wordCounts, a_tool, a_began, a_limits, a_switches, y_force, y_origins, y_here, y_has, y_grouped, y_word, y_from, y_to, y_steps, y_paces, y_dwells, y_ends, y_turn, y_first, y_second, y_centre, y_direction)), ⟨f_lines, f_fastest, f_gain, f_bend, f_ahead, 2, f_holds, 0, (nI n), f_gone, f_dwellLeft, f_stepsInAll, (f_ticksInAll + 1), f_speed, f_present, f_laid, y_speed, y_seen, (nI n), f_dwellLeft, y_went, a_wordCounts, a_letters, a_values, a_limits, a_switches, a_tool, a_inForce, a_origins, a_given, a_rows, a_probe, a_motions, a_thirds, a_centres, a_steps, a_paces, a_dwells, a_marks, a_nexts, a_joints, a_began, y_force, y_origins, y_here, y_has, y_grouped, y_word, y_from, y_to, y_steps, y_paces, y_dwells, y_ends, y_turn, y_first, y_second, y_centre, rfl, rfl, C, Or.inr ⟨N, n, Lh, hn, rfl, rfl, Or.inr (Or.inr (Or.inl ⟨rfl, rfl, rfl, hT⟩))⟩⟩, fun PX h => ?_, fun PY x1 x2 f x3 y_u y_v y_direction hx h => ?_⟩
        · exact nm_e (br_f (by decide) (br_t rfl (br_f hh h)))
        · exact br_f hx (nm_e (br_f (by decide) (br_t rfl (br_f hh (nm_e (h y_u y_v y_direction))))))
    · subst m3 el eyl
      refine ⟨(f_lines, f_fastest, f_gain, f_bend, f_ahead, 3, f_holds, f_pace, (nI n), f_gone, f_dwellLeft, f_stepsInAll, (f_ticksInAll + 1), f_speed, f_present, f_laid, a_wordCounts, a_letters, a_values, a_limits, a_switches, a_tool, a_inForce, a_origins, a_given, a_rows, a_probe, a_motions, a_thirds, a_centres, a_steps, a_paces, a_dwells, a_marks, a_nexts, a_joints), (fun y_u y_v y_direction => (f_lines, f_fastest, f_gain, f_bend, f_ahead, y_speed, y_seen, 3, (nI n), f_pace, y_left, y_went, f_stepsInAll, (f_ticksInAll + 1), y_u, y_v, f_holds, a_letters, a_values, a_wordCounts, a_tool, a_began, a_limits, a_switches, y_force, y_origins, y_here, y_has, y_grouped, y_word, y_from, y_to, y_steps, y_paces, y_dwells, y_ends, y_turn, y_first, y_second, y_centre, y_direction)), ⟨f_lines, f_fastest, f_gain, f_bend, f_ahead, 3, f_holds, f_pace, (nI n), f_gone, f_dwellLeft, f_stepsInAll, (f_ticksInAll + 1), f_speed, f_present, f_laid, y_speed, y_seen, (nI n), y_left, y_went, a_wordCounts, a_letters, a_values, a_limits, a_switches, a_tool, a_inForce, a_origins, a_given, a_rows, a_probe, a_motions, a_thirds, a_centres, a_steps, a_paces, a_dwells, a_marks, a_nexts, a_joints, a_began, y_force, y_origins, y_here, y_has, y_grouped, y_word, y_from, y_to, y_steps, y_paces, y_dwells, y_ends, y_turn, y_first, y_second, y_centre, rfl, rfl, C, Or.inr ⟨N, n, Lh, hn, rfl, rfl, Or.inr (Or.inr (Or.inr ⟨rfl, h0, p0, le0, hT⟩))⟩⟩, fun PX h => ?_, fun PY x1 x2 f x3 y_u y_v y_direction hx h => ?_⟩
      · exact nm_e (br_f (by decide) (br_f (by decide) h))
      · exact br_f hx (nm_e (br_f (by decide) (br_f (by decide) (nm_e (h y_u y_v y_direction)))))
end
end TCK
