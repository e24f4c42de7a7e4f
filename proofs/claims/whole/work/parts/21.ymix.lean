section YMX
theorem bo_nf {b : Bool} (e : ¬ bo_I b = 0) : b = true := by
  cases b
  · exact absurd rfl e
  · rfl
theorem bo_yf {b : Bool} (e : bo_I b = 0) : b = false := (bo_e b).mp e
theorem fv_0y {F : Nat → Int32} (h : fc_FW F) : F 0 ≤ 1 ↔ ¬ 1 < F 0 := by
  rcases fv_0 h with e | e | e | e <;> rw [e] <;> decide
theorem fv_0z {F : Nat → Int32} (h : fc_FW F) : F 0 ≤ 0 ↔ ¬ 0 < F 0 := by
  rcases fv_0 h with e | e | e | e <;> rw [e] <;> decide
section
variable {f_lines f_fastest f_gain f_bend f_ahead f_speed f_seen f_state f_line f_pace f_left f_went f_allSteps f_allTicks f_u f_v f_holds : Int32} {a_letters a_values a_many a_tool a_began a_limit a_trips a_force a_origins a_here a_has a_grouped a_word a_from a_to a_steps a_paces a_dwells a_ends a_turn a_first a_second a_centre a_direction : Nat → Int32}
theorem yl_na {post : Int32 → Prop} {H : Nat → Bool} (hH : ∀ i, i < 10 → a_has i = bo_I (H i)) (h : post (bo_I (pl_na H))) : wpY_names post (f_lines, f_fastest, f_gain, f_bend, f_ahead, f_speed, f_seen, f_state, f_line, f_pace, f_left, f_went, f_allSteps, f_allTicks, f_u, f_v, f_holds, a_letters, a_values, a_many, a_tool, a_began, a_limit, a_trips, a_force, a_origins, a_here, a_has, a_grouped, a_word, a_from, a_to, a_steps, a_paces, a_dwells, a_ends, a_turn, a_first, a_second, a_centre, a_direction) := by
  unfold wpY_names
  dsimp only
  rw [hH 2 (by decide), hH 3 (by decide), hH 4 (by decide)]
  unfold pl_na at h
  refine br_c (fun a => br_c (fun b => br_c (fun c => ?_) (fun c => ?_)) (fun b => ?_)) (fun a => ?_)
  · rw [bo_yf a, bo_yf b, bo_yf c] at h; exact h
  · rw [bo_yf a, bo_yf b, bo_nf c] at h; exact h
  · rw [bo_yf a, bo_nf b] at h; exact h
  · rw [bo_nf a] at h; exact h
theorem yl_ce {post : Int32 → Prop} {H : Nat → Bool} (hH : ∀ i, i < 10 → a_has i = bo_I (H i)) (h : post (bo_I (pl_ce H))) : wpY_centres post (f_lines, f_fastest, f_gain, f_bend, f_ahead, f_speed, f_seen, f_state, f_line, f_pace, f_left, f_went, f_allSteps, f_allTicks, f_u, f_v, f_holds, a_letters, a_values, a_many, a_tool, a_began, a_limit, a_trips, a_force, a_origins, a_here, a_has, a_grouped, a_word, a_from, a_to, a_steps, a_paces, a_dwells, a_ends, a_turn, a_first, a_second, a_centre, a_direction) := by
  unfold wpY_centres
  dsimp only
  rw [hH 5 (by decide), hH 6 (by decide), hH 7 (by decide)]
  unfold pl_ce at h
  refine br_c (fun a => br_c (fun b => br_c (fun c => ?_) (fun c => ?_)) (fun b => ?_)) (fun a => ?_)
  · rw [bo_yf a, bo_yf b, bo_yf c] at h; exact h
  · rw [bo_yf a, bo_yf b, bo_nf c] at h; exact h
  · rw [bo_yf a, bo_nf b] at h; exact h
  · rw [bo_nf a] at h; exact h
theorem yl_mv {post : Int32 → Prop} {H : Nat → Bool} (hF : fc_FW a_force) (hH : ∀ i, i < 10 → a_has i = bo_I (H i)) (h : post (bo_I (pl_mv a_force H))) : wpY_moves post (f_lines, f_fastest, f_gain, f_bend, f_ahead, f_speed, f_seen, f_state, f_line, f_pace, f_left, f_went, f_allSteps, f_allTicks, f_u, f_v, f_holds, a_letters, a_values, a_many, a_tool, a_began, a_limit, a_trips, a_force, a_origins, a_here, a_has, a_grouped, a_word, a_from, a_to, a_steps, a_paces, a_dwells, a_ends, a_turn, a_first, a_second, a_centre, a_direction) := by
  have p1 : pl_mv a_force H = true → post 1 := by intro e; rw [e] at h; exact h
  have p0 : pl_mv a_force H = false → post 0 := by intro e; rw [e] at h; exact h
  have m20 : (a_force 5 < 0 ∨ a_force 5 = 53) → wY_moves_20 post f_lines f_fastest f_gain f_bend f_ahead f_speed f_seen f_state f_line f_pace f_left f_went f_allSteps f_allTicks f_u f_v f_holds a_letters a_values a_many a_tool a_began a_limit a_trips a_force a_origins a_here a_has a_grouped a_word a_from a_to a_steps a_paces a_dwells a_ends a_turn a_first a_second a_centre a_direction := by
    intro o
    unfold wY_moves_20
    refine yl_na hH (br_c (fun a => br_c (fun b => p0 (decide_eq_false ?_)) (fun b => yl_ce hH (br_c (fun c => p0 (decide_eq_false ?_)) (fun c => p1 (decide_eq_true ?_))))) (fun a => p1 (decide_eq_true ?_)))
    · rintro ⟨_, z | z⟩
      · rw [bo_yf a] at z; exact absurd z (by decide)
      · exact (fv_0y hF).mp b z.1
    · rintro ⟨_, z | z⟩
      · rw [bo_yf a] at z; exact absurd z (by decide)
      · rw [bo_yf c] at z; exact absurd z.2 (by decide)
    · refine ⟨o, Or.inr ⟨?_, bo_nf c⟩⟩
      exact Decidable.byContradiction (fun z => b ((fv_0y hF).mpr z))
    · exact ⟨o, Or.inl (bo_nf a)⟩
  unfold wpY_moves
  refine br_c (fun a => m20 (Or.inl a)) (fun a => br_c (fun b => m20 (Or.inr b)) (fun b => p0 (decide_eq_false ?_)))
  rintro ⟨z | z, _⟩
  · exact a z
  · exact b z
theorem yl_mi {post : Int32 → Prop} {H : Nat → Bool} (hF : fc_FW a_force) (hH : ∀ i, i < 10 → a_has i = bo_I (H i)) (h : post (pl_mi a_force H f_speed)) : wpY_misfit post (f_lines, f_fastest, f_gain, f_bend, f_ahead, f_speed, f_seen, f_state, f_line, f_pace, f_left, f_went, f_allSteps, f_allTicks, f_u, f_v, f_holds, a_letters, a_values, a_many, a_tool, a_began, a_limit, a_trips, a_force, a_origins, a_here, a_has, a_grouped, a_word, a_from, a_to, a_steps, a_paces, a_dwells, a_ends, a_turn, a_first, a_second, a_centre, a_direction) := by
  obtain ⟨p1, p2, p3, p4, p5⟩ := mi_3 h
  have m130 : ¬ (H 9 = true ∧ ¬ a_force 5 = 4 ∨ H 9 = false ∧ a_force 5 = 4) → ¬ (pl_ce H = true ∧ (¬ 1 < a_force 0 ∨ 0 ≤ a_force 5)) →
      ¬ (pl_na H = true ∧ a_force 5 = 4 ∨ pl_na H = false ∧ (a_force 5 = 28 ∨ a_force 5 = 53 ∨ a_force 5 = 92)) →
      ¬ ((a_force 5 = 28 ∨ a_force 5 = 53) ∧ a_force 3 = 91 ∨ a_force 5 = 53 ∧ 1 < a_force 0) → wY_misfit_130 post f_lines f_fastest f_gain f_bend f_ahead f_speed f_seen f_state f_line f_pace f_left f_went f_allSteps f_allTicks f_u f_v f_holds a_letters a_values a_many a_tool a_began a_limit a_trips a_force a_origins a_here a_has a_grouped a_word a_from a_to a_steps a_paces a_dwells a_ends a_turn a_first a_second a_centre a_direction := by
    intro c1 c2 c3 c4
    have q := p5 c1 c2 c3 c4
    unfold wY_misfit_130
    refine yl_mv hF hH (br_c (fun a => ?_) (fun a => br_c (fun b => ?_) (fun b => br_c (fun c => ?_) (fun c => ?_))))
    · rw [if_neg (by rw [bo_yf a]; intro z; exact absurd z.1 (by decide))] at q; exact q
    · rw [if_neg (by intro z; exact (fv_0z hF).mp b z.2.1)] at q; exact q
    · rw [if_pos ⟨bo_nf a, Decidable.byContradiction (fun z => b ((fv_0z hF).mpr z)), c⟩] at q; exact q
    · rw [if_neg (by intro z; exact c z.2.2)] at q; exact q
  have m118 : ¬ (H 9 = true ∧ ¬ a_force 5 = 4 ∨ H 9 = false ∧ a_force 5 = 4) → ¬ (pl_ce H = true ∧ (¬ 1 < a_force 0 ∨ 0 ≤ a_force 5)) →
      ¬ (pl_na H = true ∧ a_force 5 = 4 ∨ pl_na H = false ∧ (a_force 5 = 28 ∨ a_force 5 = 53 ∨ a_force 5 = 92)) →
      ¬ ((a_force 5 = 28 ∨ a_force 5 = 53) ∧ a_force 3 = 91) → wY_misfit_118 post (a_force 5) (bo_I (decide (1 < a_force 0))) f_lines f_fastest f_gain f_bend f_ahead f_speed f_seen f_state f_line f_pace f_left f_went f_allSteps f_allTicks f_u f_v f_holds a_letters a_values a_many a_tool a_began a_limit a_trips a_force a_origins a_here a_has a_grouped a_word a_from a_to a_steps a_paces a_dwells a_ends a_turn a_first a_second a_centre a_direction := by
    intro c1 c2 c3 c4
    unfold wY_misfit_118
    refine br_c (fun a => br_c (fun b => m130 c1 c2 c3 ?_) (fun b => p4 (Or.inr ⟨a, of_decide_eq_true (bo_nf b)⟩))) (fun a => m130 c1 c2 c3 ?_)
    · rintro (z | z)
      · exact c4 z
      · exact of_decide_eq_false (bo_yf b) z.2
    · rintro (z | z)
      · exact c4 z
      · exact a z.1
  have m95 : ¬ (H 9 = true ∧ ¬ a_force 5 = 4 ∨ H 9 = false ∧ a_force 5 = 4) → ¬ (pl_ce H = true ∧ (¬ 1 < a_force 0 ∨ 0 ≤ a_force 5)) →
      ¬ (pl_na H = true ∧ a_force 5 = 4 ∨ pl_na H = false ∧ (a_force 5 = 28 ∨ a_force 5 = 53 ∨ a_force 5 = 92)) →
      wY_misfit_95 post (a_force 5) (bo_I (decide (1 < a_force 0))) f_lines f_fastest f_gain f_bend f_ahead f_speed f_seen f_state f_line f_pace f_left f_went f_allSteps f_allTicks f_u f_v f_holds a_letters a_values a_many a_tool a_began a_limit a_trips a_force a_origins a_here a_has a_grouped a_word a_from a_to a_steps a_paces a_dwells a_ends a_turn a_first a_second a_centre a_direction := by
    intro c1 c2 c3
    have m107 : (a_force 5 = 28 ∨ a_force 5 = 53) → wY_misfit_107 post (a_force 5) (bo_I (decide (1 < a_force 0))) f_lines f_fastest f_gain f_bend f_ahead f_speed f_seen f_state f_line f_pace f_left f_went f_allSteps f_allTicks f_u f_v f_holds a_letters a_values a_many a_tool a_began a_limit a_trips a_force a_origins a_here a_has a_grouped a_word a_from a_to a_steps a_paces a_dwells a_ends a_turn a_first a_second a_centre a_direction := by
      intro o
      unfold wY_misfit_107
      exact br_c (fun a => p4 (Or.inl ⟨o, a⟩)) (fun a => m118 c1 c2 c3 (fun z => a z.2))
    unfold wY_misfit_95
    exact br_c (fun a => m107 (Or.inl a)) (fun a => br_c (fun b => m107 (Or.inr b)) (fun b => m118 c1 c2 c3 (fun z => z.1.elim a b)))
  have m60 : ¬ (H 9 = true ∧ ¬ a_force 5 = 4 ∨ H 9 = false ∧ a_force 5 = 4) → ¬ (pl_ce H = true ∧ (¬ 1 < a_force 0 ∨ 0 ≤ a_force 5)) →
      wY_misfit_60 post (a_force 5) (bo_I (decide (1 < a_force 0))) f_lines f_fastest f_gain f_bend f_ahead f_speed f_seen f_state f_line f_pace f_left f_went f_allSteps f_allTicks f_u f_v f_holds a_letters a_values a_many a_tool a_began a_limit a_trips a_force a_origins a_here a_has a_grouped a_word a_from a_to a_steps a_paces a_dwells a_ends a_turn a_first a_second a_centre a_direction := by
    intro c1 c2
    unfold wY_misfit_60
    refine yl_na hH (br_c (fun a => br_c (fun b => p3 (Or.inr ⟨bo_yf a, Or.inl b⟩)) (fun b => br_c (fun c => p3 (Or.inr ⟨bo_yf a, Or.inr (Or.inl c)⟩)) (fun c => br_c (fun d => p3 (Or.inr ⟨bo_yf a, Or.inr (Or.inr d)⟩)) (fun d => m95 c1 c2 ?_))))
      (fun a => br_c (fun b => p3 (Or.inl ⟨bo_nf a, b⟩)) (fun b => m95 c1 c2 ?_)))
    · rintro (z | ⟨_, z | z | z⟩)
      · rw [bo_yf a] at z; exact absurd z.1 (by decide)
      · exact b z
      · exact c z
      · exact d z
    · rintro (z | z)
      · exact b z.2
      · rw [bo_nf a] at z; exact absurd z.1 (by decide)
  have m40 : wY_misfit_40 post (a_force 5) (bo_I (decide (1 < a_force 0))) (bo_I (decide (a_force 5 = 4))) (a_has 9) f_lines f_fastest f_gain f_bend f_ahead f_speed f_seen f_state f_line f_pace f_left f_went f_allSteps f_allTicks f_u f_v f_holds a_letters a_values a_many a_tool a_began a_limit a_trips a_force a_origins a_here a_has a_grouped a_word a_from a_to a_steps a_paces a_dwells a_ends a_turn a_first a_second a_centre a_direction := by
    unfold wY_misfit_40
    rw [hH 9 (by decide)]
    by_cases c1 : H 9 = true ∧ ¬ a_force 5 = 4 ∨ H 9 = false ∧ a_force 5 = 4
    · refine br_f ?_ (p1 c1)
      intro z
      rcases c1 with ⟨z1, z2⟩ | ⟨z1, z2⟩
      · rw [z1, decide_eq_false z2] at z; exact absurd z (by decide)
      · rw [z1, decide_eq_true z2] at z; exact absurd z (by decide)
    · refine br_t ?_ (yl_ce hH (br_c (fun a => m60 c1 (fun z => by rw [bo_yf a] at z; exact absurd z.1 (by decide))) (fun a => br_c (fun b => p2 ⟨bo_nf a, Or.inl (of_decide_eq_false (bo_yf b))⟩)
        (fun b => br_c (fun c => m60 c1 ?_) (fun c => p2 ⟨bo_nf a, Or.inr (Int32.not_lt.mp c)⟩)))))
      · by_cases d : a_force 5 = 4
        · cases e : H 9
          · exact absurd (Or.inr ⟨e, d⟩) c1
          · rw [decide_eq_true d]
        · cases e : H 9
          · rw [decide_eq_false d]
          · exact absurd (Or.inl ⟨e, d⟩) c1
      · rintro ⟨_, z | z⟩
        · exact z (of_decide_eq_true (bo_nf b))
        · exact Int32.not_lt.mpr z c
  have m22 : wY_misfit_22 post (a_force 5) (bo_I (decide (1 < a_force 0))) f_lines f_fastest f_gain f_bend f_ahead f_speed f_seen f_state f_line f_pace f_left f_went f_allSteps f_allTicks f_u f_v f_holds a_letters a_values a_many a_tool a_began a_limit a_trips a_force a_origins a_here a_has a_grouped a_word a_from a_to a_steps a_paces a_dwells a_ends a_turn a_first a_second a_centre a_direction := by
    unfold wY_misfit_22
    refine br_c (fun a => ?_) (fun a => ?_)
    · rw [decide_eq_true a] at m40; exact m40
    · rw [decide_eq_false a] at m40; exact m40
  unfold wpY_misfit
  refine nm_e (br_c (fun a => ?_) (fun a => ?_))
  · rw [decide_eq_false ((fv_0y hF).mp a)] at m22; exact m22
  · rw [decide_eq_true (Decidable.byContradiction (fun z => a ((fv_0y hF).mpr z)))] at m22; exact m22
end
end YMX
