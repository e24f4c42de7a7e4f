section BGN
def rb_ (N : Nat) (s : Nat → Nat) (d : Nat → Bool) (e : Nat → Int32) : Nat → Nat → Int32 × Nat
  | 0, k => (0, k)
  | f + 1, k => if k < N then (if 0 < s k then (1, k) else if d k = true then (2, k) else if e k = 1 then (3, k) else rb_ N s d e f (k + 1)) else (0, k)
theorem rb_f {N : Nat} {s : Nat → Nat} {d : Nat → Bool} {e : Nat → Int32} : ∀ f k r m, rb_ N s d e f k = (r, m) → ¬ r = 0 →
    (k ≤ m ∧ m < N) ∧ (∀ j, k ≤ j → j < m → s j = 0) ∧ ((r = 1 ∧ 0 < s m) ∨ (r = 2 ∧ s m = 0 ∧ d m = true) ∨ (r = 3 ∧ s m = 0 ∧ e m = 1)) := by
  intro f
  induction f with
  | zero => intro k r m h hr; exact absurd (congrArg Prod.fst h).symm hr
  | succ f ih =>
    intro k r m h hr
    rw [rb_] at h
    split at h
    · rename_i c
      split at h
      · rename_i c1
        obtain ⟨rfl, rfl⟩ := Prod.mk.inj h
        exact ⟨⟨Nat.le_refl _, c⟩, fun j a b => by omega, Or.inl ⟨rfl, c1⟩⟩
      · rename_i c1
        split at h
        · rename_i c2
          obtain ⟨rfl, rfl⟩ := Prod.mk.inj h
          exact ⟨⟨Nat.le_refl _, c⟩, fun j a b => by omega, Or.inr (Or.inl ⟨rfl, by omega, c2⟩)⟩
        · split at h
          · rename_i c3
            obtain ⟨rfl, rfl⟩ := Prod.mk.inj h
            exact ⟨⟨Nat.le_refl _, c⟩, fun j a b => by omega, Or.inr (Or.inr ⟨rfl, by omega, c3⟩)⟩
          · obtain ⟨⟨a1, a2⟩, a3, a4⟩ := ih _ _ _ h hr
            refine ⟨⟨by omega, a2⟩, fun j b1 b2 => ?_, a4⟩
            by_cases e : j = k
            · subst e; omega
            · exact a3 j (by omega) b2
    · exact absurd (congrArg Prod.fst h).symm hr
def rn_b (L V M lim s0 : Nat → Int32) (N k : Nat) : Int32 × Nat := rb_ N (px_st L V M lim s0) (rn_d L V M s0) (px_en L V M) 31 k
section
variable {f_lines f_fastest f_gain f_bend f_ahead f_mode f_holds f_pace f_line f_gone f_dwellLeft f_stepsInAll f_ticksInAll f_speed f_present f_laid : Int32} {a_wordCounts a_letters a_values a_limits a_switches a_tool a_inForce a_origins a_given a_rows a_probe a_motions a_thirds a_centres a_steps a_paces a_dwells a_marks a_nexts a_joints : Nat → Int32}
theorem xb_ba {post : SX → Prop} {s0 : Nat → Int32} {N k : Nat} (K : rn_K a_letters a_values a_wordCounts a_limits s0 f_fastest f_bend N) (eN : f_laid = nI N) (hX : xz_L a_letters a_values a_wordCounts a_limits f_fastest s0 N a_rows a_motions a_thirds a_centres a_steps a_paces a_dwells a_marks) (hk : k ≤ N)
    (h0 : (rn_b a_letters a_values a_wordCounts a_limits s0 N k).1 = 0 → post (f_lines, f_fastest, f_gain, f_bend, f_ahead, 0, 0, 0, (if k < N then nI (N - 1) else f_line), f_gone, f_dwellLeft, f_stepsInAll, f_ticksInAll, f_speed, f_present, f_laid, a_wordCounts, a_letters, a_values, a_limits, a_switches, a_tool, a_inForce, a_origins, a_given, a_rows, a_probe, a_motions, a_thirds, a_centres, a_steps, a_paces, a_dwells, a_marks, a_nexts, a_joints))
    (h1 : ∀ m, rn_b a_letters a_values a_wordCounts a_limits s0 N k = (1, m) → post (f_lines, f_fastest, f_gain, f_bend, f_ahead, 1, f_holds, f_pace, (nI m), 0, f_dwellLeft, f_stepsInAll, f_ticksInAll, f_speed, f_present, f_laid, a_wordCounts, a_letters, a_values, a_limits, a_switches, a_tool, a_inForce, a_origins, a_given, a_rows, a_probe, a_motions, a_thirds, a_centres, a_steps, a_paces, a_dwells, a_marks, a_nexts, a_joints))
    (h2 : ∀ m, rn_b a_letters a_values a_wordCounts a_limits s0 N k = (2, m) → post (f_lines, f_fastest, f_gain, f_bend, f_ahead, 2, f_holds, f_pace, (nI m), f_gone, (px_dw a_letters a_values a_wordCounts s0 m), f_stepsInAll, f_ticksInAll, f_speed, f_present, f_laid, a_wordCounts, a_letters, a_values, a_limits, a_switches, a_tool, a_inForce, a_origins, a_given, a_rows, a_probe, a_motions, a_thirds, a_centres, a_steps, a_paces, a_dwells, a_marks, a_nexts, a_joints))
    (h3 : ∀ m, rn_b a_letters a_values a_wordCounts a_limits s0 N k = (3, m) → post (f_lines, f_fastest, f_gain, f_bend, f_ahead, 3, 0, 0, (nI m), f_gone, f_dwellLeft, f_stepsInAll, f_ticksInAll, f_speed, f_present, f_laid, a_wordCounts, a_letters, a_values, a_limits, a_switches, a_tool, a_inForce, a_origins, a_given, a_rows, a_probe, a_motions, a_thirds, a_centres, a_steps, a_paces, a_dwells, a_marks, a_nexts, a_joints)) :
    wpX_beginAt post (f_lines, f_fastest, f_gain, f_bend, f_ahead, f_mode, f_holds, f_pace, f_line, f_gone, f_dwellLeft, f_stepsInAll, f_ticksInAll, f_speed, f_present, f_laid, a_wordCounts, a_letters, a_values, a_limits, a_switches, a_tool, a_inForce, a_origins, a_given, a_rows, a_probe, a_motions, a_thirds, a_centres, a_steps, a_paces, a_dwells, a_marks, a_nexts, a_joints) (nI k) := by
  have N30 : N ≤ 30 := K.2.2.2.2.1
  have lp : ∀ f k ln, k ≤ N → N ≤ k + f →
      ((rb_ N (px_st a_letters a_values a_wordCounts a_limits s0) (rn_d a_letters a_values a_wordCounts s0) (px_en a_letters a_values a_wordCounts) f k).1 = 0 → post (f_lines, f_fastest, f_gain, f_bend, f_ahead, 0, 0, 0, (if k < N then nI (N - 1) else ln), f_gone, f_dwellLeft, f_stepsInAll, f_ticksInAll, f_speed, f_present, f_laid, a_wordCounts, a_letters, a_values, a_limits, a_switches, a_tool, a_inForce, a_origins, a_given, a_rows, a_probe, a_motions, a_thirds, a_centres, a_steps, a_paces, a_dwells, a_marks, a_nexts, a_joints)) →
      (∀ m, rb_ N (px_st a_letters a_values a_wordCounts a_limits s0) (rn_d a_letters a_values a_wordCounts s0) (px_en a_letters a_values a_wordCounts) f k = (1, m) → post (f_lines, f_fastest, f_gain, f_bend, f_ahead, 1, f_holds, f_pace, (nI m), 0, f_dwellLeft, f_stepsInAll, f_ticksInAll, f_speed, f_present, f_laid, a_wordCounts, a_letters, a_values, a_limits, a_switches, a_tool, a_inForce, a_origins, a_given, a_rows, a_probe, a_motions, a_thirds, a_centres, a_steps, a_paces, a_dwells, a_marks, a_nexts, a_joints)) →
      (∀ m, rb_ N (px_st a_letters a_values a_wordCounts a_limits s0) (rn_d a_letters a_values a_wordCounts s0) (px_en a_letters a_values a_wordCounts) f k = (2, m) → post (f_lines, f_fastest, f_gain, f_bend, f_ahead, 2, f_holds, f_pace, (nI m), f_gone, (px_dw a_letters a_values a_wordCounts s0 m), f_stepsInAll, f_ticksInAll, f_speed, f_present, f_laid, a_wordCounts, a_letters, a_values, a_limits, a_switches, a_tool, a_inForce, a_origins, a_given, a_rows, a_probe, a_motions, a_thirds, a_centres, a_steps, a_paces, a_dwells, a_marks, a_nexts, a_joints)) →
      (∀ m, rb_ N (px_st a_letters a_values a_wordCounts a_limits s0) (rn_d a_letters a_values a_wordCounts s0) (px_en a_letters a_values a_wordCounts) f k = (3, m) → post (f_lines, f_fastest, f_gain, f_bend, f_ahead, 3, 0, 0, (nI m), f_gone, f_dwellLeft, f_stepsInAll, f_ticksInAll, f_speed, f_present, f_laid, a_wordCounts, a_letters, a_values, a_limits, a_switches, a_tool, a_inForce, a_origins, a_given, a_rows, a_probe, a_motions, a_thirds, a_centres, a_steps, a_paces, a_dwells, a_marks, a_nexts, a_joints)) →
      wX_beginAt_2 post f_lines f_fastest f_gain f_bend f_ahead f_mode f_holds f_pace f_gone f_dwellLeft f_stepsInAll f_ticksInAll f_speed f_present f_laid a_wordCounts a_letters a_values a_limits a_switches a_tool a_inForce a_origins a_given a_rows a_probe a_motions a_thirds a_centres a_steps a_paces a_dwells a_marks a_nexts a_joints (f + 1) (nI k) ln := by
    intro f
    induction f with
    | zero =>
      intro k ln hk hf g0 _ _ _
      rw [if_neg (show ¬ k < N by omega)] at g0
      exact br_t (by rw [eN]; exact nI_le (by omega) (by omega)) (g0 rfl)
    | succ f ih =>
      intro k ln hk hf g0 g1 g2 g3
      rw [rb_] at g0 g1 g2 g3
      by_cases c : k < N
      · rw [if_pos c] at g0 g1 g2 g3
        rw [if_pos c] at g0
        have sn := rk_s K c
        have i30 : vp_in (nI k) 30 := vp_in_nI (by omega) (by omega)
        obtain ⟨_, _, y3, _, y5, y6, _⟩ := hX.2 k c
        refine br_f (by rw [eN]; exact nI_ge c (by omega)) ⟨i30, ?_⟩
        rw [nI_clamp (show k < 2 ^ 31 by omega), y3, y5, y6]
        have z0 : nI (px_st a_letters a_values a_wordCounts a_limits s0 k) ≤ 0 ↔ px_st a_letters a_values a_wordCounts a_limits s0 k ≤ 0 := nI_leI (b := 0) (by omega) (by omega)
        have zm := (px_mark K.1.1 (ci_why (rk_w K c)).1).2
        refine br_c (fun d1 => ⟨i30, br_c (fun d2 => ⟨i30, br_c (fun d3 => ?_) (fun d3 => nm_r (nI_1 k) ?_)⟩) (fun d2 => ⟨i30, nm_e ?_⟩)⟩) (fun d1 => ?_)
        · rw [if_neg (by rw [z0] at d1; omega), if_neg (show ¬ rn_d a_letters a_values a_wordCounts s0 k = true from fun z => Int32.not_lt.mpr d2 (of_decide_eq_true z)), if_pos (zm.mp d3)] at g3
          exact g3 k rfl
        · rw [if_neg (by rw [z0] at d1; omega), if_neg (show ¬ rn_d a_letters a_values a_wordCounts s0 k = true from fun z => Int32.not_lt.mpr d2 (of_decide_eq_true z)), if_neg (fun z => d3 (zm.mpr z))] at g0 g1 g2 g3
          have el : (if k + 1 < N then nI (N - 1) else nI k) = nI (N - 1) := by
            split
            · rfl
            · congr 1; omega
          exact ih (k + 1) _ (by omega) (by omega) (by rw [el]; exact g0) g1 g2 g3
        · rw [if_neg (by rw [z0] at d1; omega), if_pos (show rn_d a_letters a_values a_wordCounts s0 k = true from decide_eq_true (Int32.not_le.mp d2))] at g2
          exact g2 k rfl
        · rw [if_pos (by rw [z0] at d1; omega)] at g1
          exact g1 k rfl
      · rw [if_neg c, if_neg c] at g0
        exact br_t (by rw [eN]; exact nI_le (by omega) (by omega)) (g0 rfl)
  exact ⟨32, lp 31 k _ hk (by omega) h0 h1 h2 h3⟩
end
section
variable {f_lines f_fastest f_gain f_bend f_ahead f_speed f_seen f_state f_line f_pace f_left f_went f_allSteps f_allTicks f_u f_v f_holds : Int32} {a_letters a_values a_many a_tool a_began a_limit a_trips a_force a_origins a_here a_has a_grouped a_word a_from a_to a_steps a_paces a_dwells a_ends a_turn a_first a_second a_centre a_direction : Nat → Int32}
theorem yb_5 {post : SY → Prop} {s0 : Nat → Int32} {N : Nat} (K : rn_K a_letters a_values a_many a_limit s0 f_fastest f_bend N) (hY : yr_ a_letters a_values a_many a_limit s0 f_fastest N f_seen a_from a_to a_steps a_paces a_dwells a_ends a_turn a_first a_second a_centre) :
    ∀ f k sa li le we, k ≤ N → N ≤ k + f →
      ((rb_ N (px_st a_letters a_values a_many a_limit s0) (rn_d a_letters a_values a_many s0) (px_en a_letters a_values a_many) f k).1 = 0 → post (f_lines, f_fastest, f_gain, f_bend, f_ahead, f_speed, f_seen, 0, (-1), 0, 0, (if k < N then 0 else we), f_allSteps, f_allTicks, f_u, f_v, 0, a_letters, a_values, a_many, a_tool, a_began, a_limit, a_trips, a_force, a_origins, a_here, a_has, a_grouped, a_word, a_from, a_to, a_steps, a_paces, a_dwells, a_ends, a_turn, a_first, a_second, a_centre, a_direction)) →
      (∀ m, rb_ N (px_st a_letters a_values a_many a_limit s0) (rn_d a_letters a_values a_many s0) (px_en a_letters a_values a_many) f k = (1, m) → post (f_lines, f_fastest, f_gain, f_bend, f_ahead, f_speed, f_seen, 1, (nI m), f_pace, 0, 0, f_allSteps, f_allTicks, f_u, f_v, f_holds, a_letters, a_values, a_many, a_tool, a_began, a_limit, a_trips, a_force, a_origins, a_here, a_has, a_grouped, a_word, a_from, a_to, a_steps, a_paces, a_dwells, a_ends, a_turn, a_first, a_second, a_centre, a_direction)) →
      (∀ m, rb_ N (px_st a_letters a_values a_many a_limit s0) (rn_d a_letters a_values a_many s0) (px_en a_letters a_values a_many) f k = (2, m) → post (f_lines, f_fastest, f_gain, f_bend, f_ahead, f_speed, f_seen, 2, (nI m), f_pace, (px_dw a_letters a_values a_many s0 m), 0, f_allSteps, f_allTicks, f_u, f_v, f_holds, a_letters, a_values, a_many, a_tool, a_began, a_limit, a_trips, a_force, a_origins, a_here, a_has, a_grouped, a_word, a_from, a_to, a_steps, a_paces, a_dwells, a_ends, a_turn, a_first, a_second, a_centre, a_direction)) →
      (∀ m, rb_ N (px_st a_letters a_values a_many a_limit s0) (rn_d a_letters a_values a_many s0) (px_en a_letters a_values a_many) f k = (3, m) → post (f_lines, f_fastest, f_gain, f_bend, f_ahead, f_speed, f_seen, 3, (nI m), f_pace, 0, 0, f_allSteps, f_allTicks, f_u, f_v, 0, a_letters, a_values, a_many, a_tool, a_began, a_limit, a_trips, a_force, a_origins, a_here, a_has, a_grouped, a_word, a_from, a_to, a_steps, a_paces, a_dwells, a_ends, a_turn, a_first, a_second, a_centre, a_direction)) →
      wY_begin_5 post f_lines f_fastest f_gain f_bend f_ahead f_speed f_seen f_pace f_allSteps f_allTicks f_u f_v f_holds a_letters a_values a_many a_tool a_began a_limit a_trips a_force a_origins a_here a_has a_grouped a_word a_from a_to a_steps a_paces a_dwells a_ends a_turn a_first a_second a_centre a_direction (f + 1) 0 (nI k) sa li le we := by
  have N30 : N ≤ 30 := K.2.2.2.2.1
  intro f
  induction f with
  | zero =>
    intro k sa li le we hk hf g0 _ _ _
    rw [if_neg (show ¬ k < N by omega)] at g0
    exact br_t (by rw [hY.1]; exact nI_le (by omega) (by omega)) (g0 rfl)
  | succ f ih =>
    intro k sa li le we hk hf g0 g1 g2 g3
    rw [rb_] at g0 g1 g2 g3
    by_cases c : k < N
    · rw [if_pos c] at g0 g1 g2 g3
      rw [if_pos c] at g0
      have sn := rk_s K c
      have i30 : vp_in (nI k) 30 := vp_in_nI (by omega) (by omega)
      have cl : (nI k).toNatClampNeg = k := nI_clamp (by omega)
      obtain ⟨y1, _, y3, y4, _, _⟩ := hY.2.2 k c
      refine br_f (by rw [hY.1]; exact nI_ge c (by omega)) ⟨i30, ?_⟩
      rw [cl, y3]
      have z0 : nI (px_st a_letters a_values a_many a_limit s0 k) ≤ 0 ↔ px_st a_letters a_values a_many a_limit s0 k ≤ 0 := nI_leI (b := 0) (by omega) (by omega)
      refine nm_e (br_c (fun d => ?_) (fun d => ?_))
      · have nd : ¬ 0 < px_dw a_letters a_values a_many s0 k := Int32.not_lt.mpr d
        have nd' : ¬ rn_d a_letters a_values a_many s0 k = true := fun z => nd (of_decide_eq_true z)
        unfold wY_begin_49 wY_begin_74
        rw [cl, y1, y4]
        refine br_t rfl (br_f nd ⟨i30, br_c (fun d1 => ⟨i30, br_c (fun d3 => ?_) (fun d3 => nm_r (nI_1 k) ?_)⟩) (fun d1 => ?_)⟩)
        · rw [if_neg (by rw [z0] at d1; omega), if_neg nd', if_pos d3] at g3
          exact g3 k rfl
        · rw [if_neg (by rw [z0] at d1; omega), if_neg nd', if_neg d3] at g0 g1 g2 g3
          exact ih (k + 1) _ _ _ _ (by omega) (by omega) (by rw [ite_self]; exact g0) g1 g2 g3
        · rw [if_pos (by rw [z0] at d1; omega)] at g1
          have := g1 k rfl
          rw [dw_0 K c nd]
          exact this
      · have pd : 0 < px_dw a_letters a_values a_many s0 k := Int32.not_le.mp d
        have s0' : px_st a_letters a_values a_many a_limit s0 k = 0 := rn_dw (rk_w K c) pd
        unfold wY_begin_49
        rw [if_neg (by omega), if_pos (show rn_d a_letters a_values a_many s0 k = true from decide_eq_true pd)] at g2
        exact br_t rfl (br_t pd (g2 k rfl))
    · rw [if_neg c, if_neg c] at g0
      exact br_t (by rw [hY.1]; exact nI_le (by omega) (by omega)) (g0 rfl)
theorem yb_b0 {post : SY → Prop} {s0 : Nat → Int32} {N k : Nat} (K : rn_K a_letters a_values a_many a_limit s0 f_fastest f_bend N) (hY : yr_ a_letters a_values a_many a_limit s0 f_fastest N f_seen a_from a_to a_steps a_paces a_dwells a_ends a_turn a_first a_second a_centre) (hk : k ≤ N)
    (h0 : (rn_b a_letters a_values a_many a_limit s0 N k).1 = 0 → post (f_lines, f_fastest, f_gain, f_bend, f_ahead, f_speed, f_seen, 0, (-1), 0, 0, (if k < N then 0 else f_went), f_allSteps, f_allTicks, f_u, f_v, 0, a_letters, a_values, a_many, a_tool, a_began, a_limit, a_trips, a_force, a_origins, a_here, a_has, a_grouped, a_word, a_from, a_to, a_steps, a_paces, a_dwells, a_ends, a_turn, a_first, a_second, a_centre, a_direction))
    (h1 : ∀ m, rn_b a_letters a_values a_many a_limit s0 N k = (1, m) → post (f_lines, f_fastest, f_gain, f_bend, f_ahead, f_speed, f_seen, 1, (nI m), f_pace, 0, 0, f_allSteps, f_allTicks, f_u, f_v, f_holds, a_letters, a_values, a_many, a_tool, a_began, a_limit, a_trips, a_force, a_origins, a_here, a_has, a_grouped, a_word, a_from, a_to, a_steps, a_paces, a_dwells, a_ends, a_turn, a_first, a_second, a_centre, a_direction))
    (h2 : ∀ m, rn_b a_letters a_values a_many a_limit s0 N k = (2, m) → post (f_lines, f_fastest, f_gain, f_bend, f_ahead, f_speed, f_seen, 2, (nI m), f_pace, (px_dw a_letters a_values a_many s0 m), 0, f_allSteps, f_allTicks, f_u, f_v, f_holds, a_letters, a_values, a_many, a_tool, a_began, a_limit, a_trips, a_force, a_origins, a_here, a_has, a_grouped, a_word, a_from, a_to, a_steps, a_paces, a_dwells, a_ends, a_turn, a_first, a_second, a_centre, a_direction))
    (h3 : ∀ m, rn_b a_letters a_values a_many a_limit s0 N k = (3, m) → post (f_lines, f_fastest, f_gain, f_bend, f_ahead, f_speed, f_seen, 3, (nI m), f_pace, 0, 0, f_allSteps, f_allTicks, f_u, f_v, 0, a_letters, a_values, a_many, a_tool, a_began, a_limit, a_trips, a_force, a_origins, a_here, a_has, a_grouped, a_word, a_from, a_to, a_steps, a_paces, a_dwells, a_ends, a_turn, a_first, a_second, a_centre, a_direction)) :
    wpY_begin post (f_lines, f_fastest, f_gain, f_bend, f_ahead, f_speed, f_seen, f_state, f_line, f_pace, f_left, f_went, f_allSteps, f_allTicks, f_u, f_v, f_holds, a_letters, a_values, a_many, a_tool, a_began, a_limit, a_trips, a_force, a_origins, a_here, a_has, a_grouped, a_word, a_from, a_to, a_steps, a_paces, a_dwells, a_ends, a_turn, a_first, a_second, a_centre, a_direction) (nI k) 0 := by
  have N30 : N ≤ 30 := K.2.2.2.2.1
  exact ⟨32, yb_5 K hY 31 k _ _ _ _ hk (by omega) h0 h1 h2 h3⟩
theorem yb_b1 {post : SY → Prop} {s0 : Nat → Int32} {N k : Nat} (K : rn_K a_letters a_values a_many a_limit s0 f_fastest f_bend N) (hY : yr_ a_letters a_values a_many a_limit s0 f_fastest N f_seen a_from a_to a_steps a_paces a_dwells a_ends a_turn a_first a_second a_centre) (hk : k < N)
    (hw : px_en a_letters a_values a_many k = 1 → post (f_lines, f_fastest, f_gain, f_bend, f_ahead, f_speed, f_seen, 3, (nI k), f_pace, 0, 0, f_allSteps, f_allTicks, f_u, f_v, 0, a_letters, a_values, a_many, a_tool, a_began, a_limit, a_trips, a_force, a_origins, a_here, a_has, a_grouped, a_word, a_from, a_to, a_steps, a_paces, a_dwells, a_ends, a_turn, a_first, a_second, a_centre, a_direction))
    (h0 : ¬ px_en a_letters a_values a_many k = 1 → (rn_b a_letters a_values a_many a_limit s0 N (k + 1)).1 = 0 → post (f_lines, f_fastest, f_gain, f_bend, f_ahead, f_speed, f_seen, 0, (-1), 0, 0, 0, f_allSteps, f_allTicks, f_u, f_v, 0, a_letters, a_values, a_many, a_tool, a_began, a_limit, a_trips, a_force, a_origins, a_here, a_has, a_grouped, a_word, a_from, a_to, a_steps, a_paces, a_dwells, a_ends, a_turn, a_first, a_second, a_centre, a_direction))
    (h1 : ¬ px_en a_letters a_values a_many k = 1 → ∀ m, rn_b a_letters a_values a_many a_limit s0 N (k + 1) = (1, m) → post (f_lines, f_fastest, f_gain, f_bend, f_ahead, f_speed, f_seen, 1, (nI m), f_pace, 0, 0, f_allSteps, f_allTicks, f_u, f_v, f_holds, a_letters, a_values, a_many, a_tool, a_began, a_limit, a_trips, a_force, a_origins, a_here, a_has, a_grouped, a_word, a_from, a_to, a_steps, a_paces, a_dwells, a_ends, a_turn, a_first, a_second, a_centre, a_direction))
    (h2 : ¬ px_en a_letters a_values a_many k = 1 → ∀ m, rn_b a_letters a_values a_many a_limit s0 N (k + 1) = (2, m) → post (f_lines, f_fastest, f_gain, f_bend, f_ahead, f_speed, f_seen, 2, (nI m), f_pace, (px_dw a_letters a_values a_many s0 m), 0, f_allSteps, f_allTicks, f_u, f_v, f_holds, a_letters, a_values, a_many, a_tool, a_began, a_limit, a_trips, a_force, a_origins, a_here, a_has, a_grouped, a_word, a_from, a_to, a_steps, a_paces, a_dwells, a_ends, a_turn, a_first, a_second, a_centre, a_direction))
    (h3 : ¬ px_en a_letters a_values a_many k = 1 → ∀ m, rn_b a_letters a_values a_many a_limit s0 N (k + 1) = (3, m) → post (f_lines, f_fastest, f_gain, f_bend, f_ahead, f_speed, f_seen, 3, (nI m), f_pace, 0, 0, f_allSteps, f_allTicks, f_u, f_v, 0, a_letters, a_values, a_many, a_tool, a_began, a_limit, a_trips, a_force, a_origins, a_here, a_has, a_grouped, a_word, a_from, a_to, a_steps, a_paces, a_dwells, a_ends, a_turn, a_first, a_second, a_centre, a_direction)) :
    wpY_begin post (f_lines, f_fastest, f_gain, f_bend, f_ahead, f_speed, f_seen, f_state, f_line, f_pace, f_left, f_went, f_allSteps, f_allTicks, f_u, f_v, f_holds, a_letters, a_values, a_many, a_tool, a_began, a_limit, a_trips, a_force, a_origins, a_here, a_has, a_grouped, a_word, a_from, a_to, a_steps, a_paces, a_dwells, a_ends, a_turn, a_first, a_second, a_centre, a_direction) (nI k) 1 := by
  have N30 : N ≤ 30 := K.2.2.2.2.1
  have i30 : vp_in (nI k) 30 := vp_in_nI (by omega) (by omega)
  have cl : (nI k).toNatClampNeg = k := nI_clamp (by omega)
  obtain ⟨y1, _, y3, y4, _, _⟩ := hY.2.2 k hk
  refine ⟨33, br_f (by rw [hY.1]; exact nI_ge hk (by omega)) ⟨i30, ?_⟩⟩
  rw [cl, y3]
  have g74 : ∀ sa, wY_begin_74 post (wY_begin_5 post f_lines f_fastest f_gain f_bend f_ahead f_speed f_seen f_pace f_allSteps f_allTicks f_u f_v f_holds a_letters a_values a_many a_tool a_began a_limit a_trips a_force a_origins a_here a_has a_grouped a_word a_from a_to a_steps a_paces a_dwells a_ends a_turn a_first a_second a_centre a_direction 32) (nI k) f_lines f_fastest f_gain f_bend f_ahead f_speed f_seen sa (nI k) f_pace (px_dw a_letters a_values a_many s0 k) 0 f_allSteps f_allTicks f_u f_v f_holds a_letters a_values a_many a_tool a_began a_limit a_trips a_force a_origins a_here a_has a_grouped a_word a_from a_to a_steps a_paces a_dwells a_ends a_turn a_first a_second a_centre a_direction := by
    intro sa
    unfold wY_begin_74
    rw [cl, y4]
    exact ⟨i30, br_c (fun d => hw d) (fun d => nm_r (nI_1 k) (yb_5 K hY 31 (k + 1) _ _ _ _ (by omega) (by omega) (by rw [ite_self]; exact h0 d) (h1 d) (h2 d) (h3 d)))⟩
  unfold wY_begin_49
  exact nm_e (br_c (fun d => br_f (by decide) (g74 1)) (fun d => br_f (by decide) (g74 2)))
end
end BGN
