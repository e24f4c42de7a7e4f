section XMX
theorem bi_m (x m : Int32) (P : Nat → Bool) (hm : ∀ i, i < 32 → bt m i = P i) : (x &&& m) = 0 ↔ ∀ i, i < 32 → P i = true → bt x i = false := by
  constructor
  · intro h i hi p
    have e := b_and x m i
    rw [h, b_0, hm i hi, p, Bool.and_true] at e
    exact e.symm
  · intro h
    apply b_ext
    intro i hi
    rw [b_0, b_and, hm i hi]
    cases e : P i
    · rw [Bool.and_false]
    · rw [h i hi e]; rfl
theorem bi_28 (x : Int32) : (x &&& 28) = 0 ↔ (bt x 2 || bt x 3 || bt x 4) = false := by
  rw [bi_m x 28 (fun i => decide (i = 2 ∨ i = 3 ∨ i = 4)) (by decide +kernel)]
  constructor
  · intro h
    rw [h 2 (by decide) (by decide), h 3 (by decide) (by decide), h 4 (by decide) (by decide)]; rfl
  · intro h i _ p
    rw [Bool.or_eq_false_iff, Bool.or_eq_false_iff] at h
    rcases of_decide_eq_true p with e | e | e <;> subst e
    · exact h.1.1
    · exact h.1.2
    · exact h.2
theorem bi_224 (x : Int32) : (x &&& 224) = 0 ↔ (bt x 5 || bt x 6 || bt x 7) = false := by
  rw [bi_m x 224 (fun i => decide (i = 5 ∨ i = 6 ∨ i = 7)) (by decide +kernel)]
  constructor
  · intro h
    rw [h 5 (by decide) (by decide), h 6 (by decide) (by decide), h 7 (by decide) (by decide)]; rfl
  · intro h i _ p
    rw [Bool.or_eq_false_iff, Bool.or_eq_false_iff] at h
    rcases of_decide_eq_true p with e | e | e <;> subst e
    · exact h.1.1
    · exact h.1.2
    · exact h.2
theorem mi_3 {post : Int32 → Prop} {F : Nat → Int32} {H : Nat → Bool} {S : Int32} (h : post (pl_mi F H S)) :
    (H 9 = true ∧ ¬ F 5 = 4 ∨ H 9 = false ∧ F 5 = 4 → post 3) ∧ (pl_ce H = true ∧ (¬ 1 < F 0 ∨ 0 ≤ F 5) → post 3) ∧
    (pl_na H = true ∧ F 5 = 4 ∨ pl_na H = false ∧ (F 5 = 28 ∨ F 5 = 53 ∨ F 5 = 92) → post 3) ∧
    ((F 5 = 28 ∨ F 5 = 53) ∧ F 3 = 91 ∨ F 5 = 53 ∧ 1 < F 0 → post 3) ∧
    (¬ (H 9 = true ∧ ¬ F 5 = 4 ∨ H 9 = false ∧ F 5 = 4) → ¬ (pl_ce H = true ∧ (¬ 1 < F 0 ∨ 0 ≤ F 5)) →
      ¬ (pl_na H = true ∧ F 5 = 4 ∨ pl_na H = false ∧ (F 5 = 28 ∨ F 5 = 53 ∨ F 5 = 92)) → ¬ ((F 5 = 28 ∨ F 5 = 53) ∧ F 3 = 91 ∨ F 5 = 53 ∧ 1 < F 0) →
      post (if pl_mv F H = true ∧ 0 < F 0 ∧ S = 0 then 4 else 0)) := by
  unfold pl_mi at h
  refine ⟨fun c => ?_, fun c => ?_, fun c => ?_, fun c => ?_, fun c1 c2 c3 c4 => ?_⟩
  · rw [if_pos c] at h; exact h
  · split at h
    · exact h
    · first | exact h | (rw [if_pos c] at h; exact h)
  · split at h
    · exact h
    · split at h
      · exact h
      · first | exact h | (rw [if_pos c] at h; exact h)
  · split at h
    · exact h
    · split at h
      · exact h
      · split at h
        · exact h
        · first | exact h | (rw [if_pos c] at h; exact h)
  · rw [if_neg c1, if_neg c2, if_neg c3, if_neg c4] at h; exact h
theorem fv_0 {F : Nat → Int32} (h : fc_FW F) : F 0 = 0 ∨ F 0 = 1 ∨ F 0 = 2 ∨ F 0 = 3 := by
  rcases h 0 (by decide) with z | z | z | z | z | z | z
  · exact z.2
  all_goals first | exact absurd z.1 (by decide) | exact absurd z (by decide)
theorem fv_1 {F : Nat → Int32} (h : fc_FW F) : F 1 = 17 ∨ F 1 = 18 ∨ F 1 = 19 := by
  rcases h 1 (by decide) with z | z | z | z | z | z | z
  · exact absurd z.1 (by decide)
  · exact z.2
  all_goals first | exact absurd z.1 (by decide) | exact absurd z (by decide)
theorem fv_2 {F : Nat → Int32} (h : fc_FW F) : F 2 = 20 ∨ F 2 = 21 := by
  rcases h 2 (by decide) with z | z | z | z | z | z | z
  · exact absurd z.1 (by decide)
  · exact absurd z.1 (by decide)
  · exact z.2
  all_goals first | exact absurd z.1 (by decide) | exact absurd z (by decide)
theorem fv_3 {F : Nat → Int32} (h : fc_FW F) : F 3 = 90 ∨ F 3 = 91 := by
  rcases h 3 (by decide) with z | z | z | z | z | z | z
  · exact absurd z.1 (by decide)
  · exact absurd z.1 (by decide)
  · exact absurd z.1 (by decide)
  · exact z.2
  all_goals first | exact absurd z.1 (by decide) | exact absurd z (by decide)
theorem fv_4 {F : Nat → Int32} (h : fc_FW F) : F 4 = 54 ∨ F 4 = 55 := by
  rcases h 4 (by decide) with z | z | z | z | z | z | z
  · exact absurd z.1 (by decide)
  · exact absurd z.1 (by decide)
  · exact absurd z.1 (by decide)
  · exact absurd z.1 (by decide)
  · exact z.2
  all_goals first | exact absurd z.1 (by decide) | exact absurd z (by decide)
theorem fv_5 {F : Nat → Int32} (h : fc_FW F) : F 5 = -1 ∨ F 5 = 4 ∨ F 5 = 28 ∨ F 5 = 53 ∨ F 5 = 92 := by
  rcases h 5 (by decide) with z | z | z | z | z | z | z
  · exact absurd z.1 (by decide)
  · exact absurd z.1 (by decide)
  · exact absurd z.1 (by decide)
  · exact absurd z.1 (by decide)
  · exact absurd z.1 (by decide)
  · exact z.2
  · exact absurd z (by decide)
theorem fv_5n {F : Nat → Int32} (h : fc_FW F) : 0 ≤ F 5 ↔ ¬ F 5 = -1 := by
  rcases fv_5 h with e | e | e | e | e <;> rw [e] <;> decide
theorem fv_5l {F : Nat → Int32} (h : fc_FW F) : F 5 < 0 ↔ F 5 = -1 := by
  rcases fv_5 h with e | e | e | e | e <;> rw [e] <;> decide
theorem fv_0r {F : Nat → Int32} (h : fc_FW F) : 1 < F 0 ↔ ¬ F 0 < 2 := by
  rcases fv_0 h with e | e | e | e <;> rw [e] <;> decide
theorem fv_0p {F : Nat → Int32} (h : fc_FW F) : 0 < F 0 ↔ ¬ F 0 = 0 := by
  rcases fv_0 h with e | e | e | e <;> rw [e] <;> decide
section
variable {f_lines f_fastest f_gain f_bend f_ahead f_mode f_holds f_pace f_line f_gone f_dwellLeft f_stepsInAll f_ticksInAll f_speed f_present f_laid : Int32} {a_wordCounts a_letters a_values a_limits a_switches a_tool a_inForce a_origins a_given a_rows a_probe a_motions a_thirds a_centres a_steps a_paces a_dwells a_marks a_nexts a_joints : Nat → Int32}
theorem xl_mv {post : Int32 → Prop} {H : Nat → Bool} (hF : fc_FW a_inForce) (hH : ∀ i, i < 10 → bt f_present i = H i) (h : post (bo_I (pl_mv a_inForce H))) : wpX_moves post (f_lines, f_fastest, f_gain, f_bend, f_ahead, f_mode, f_holds, f_pace, f_line, f_gone, f_dwellLeft, f_stepsInAll, f_ticksInAll, f_speed, f_present, f_laid, a_wordCounts, a_letters, a_values, a_limits, a_switches, a_tool, a_inForce, a_origins, a_given, a_rows, a_probe, a_motions, a_thirds, a_centres, a_steps, a_paces, a_dwells, a_marks, a_nexts, a_joints) := by
  have na : (f_present &&& 28) = 0 ↔ pl_na H = false := by
    rw [bi_28, hH 2 (by decide), hH 3 (by decide), hH 4 (by decide)]; rfl
  have ce : (f_present &&& 224) = 0 ↔ pl_ce H = false := by
    rw [bi_224, hH 5 (by decide), hH 6 (by decide), hH 7 (by decide)]; rfl
  have p1 : pl_mv a_inForce H = true → post 1 := by intro e; rw [e] at h; exact h
  have p0 : pl_mv a_inForce H = false → post 0 := by intro e; rw [e] at h; exact h
  have m20 : (a_inForce 5 < 0 ∨ a_inForce 5 = 53) → wX_moves_20 post f_lines f_fastest f_gain f_bend f_ahead f_mode f_holds f_pace f_line f_gone f_dwellLeft f_stepsInAll f_ticksInAll f_speed f_present f_laid a_wordCounts a_letters a_values a_limits a_switches a_tool a_inForce a_origins a_given a_rows a_probe a_motions a_thirds a_centres a_steps a_paces a_dwells a_marks a_nexts a_joints := by
    intro o
    unfold wX_moves_20
    refine br_c (fun a => br_c (fun b => p0 (decide_eq_false ?_)) (fun b => br_c (fun c => p0 (decide_eq_false ?_)) (fun c => p1 (decide_eq_true ?_)))) (fun a => p1 (decide_eq_true ?_))
    · rintro ⟨_, z | z⟩
      · rw [na.mp a] at z; exact absurd z (by decide)
      · exact (fv_0r hF).mp z.1 b
    · rintro ⟨_, z | z⟩
      · rw [na.mp a] at z; exact absurd z (by decide)
      · rw [ce.mp c] at z; exact absurd z.2 (by decide)
    · refine ⟨o, Or.inr ⟨(fv_0r hF).mpr b, ?_⟩⟩
      cases e : pl_ce H
      · exact absurd (ce.mpr e) c
      · rfl
    · refine ⟨o, Or.inl ?_⟩
      cases e : pl_na H
      · exact absurd (na.mpr e) a
      · rfl
  unfold wpX_moves
  refine nm_e (br_c (fun a => m20 (Or.inl ((fv_5l hF).mpr a))) (fun a => br_c (fun b => m20 (Or.inr b)) (fun b => p0 (decide_eq_false ?_))))
  rintro ⟨z | z, _⟩
  · exact a ((fv_5l hF).mp z)
  · exact b z
theorem xl_mi {post : Int32 → Prop} {H : Nat → Bool} (hF : fc_FW a_inForce) (hH : ∀ i, i < 10 → bt f_present i = H i) (h : post (pl_mi a_inForce H f_speed)) : wpX_mixFault post (f_lines, f_fastest, f_gain, f_bend, f_ahead, f_mode, f_holds, f_pace, f_line, f_gone, f_dwellLeft, f_stepsInAll, f_ticksInAll, f_speed, f_present, f_laid, a_wordCounts, a_letters, a_values, a_limits, a_switches, a_tool, a_inForce, a_origins, a_given, a_rows, a_probe, a_motions, a_thirds, a_centres, a_steps, a_paces, a_dwells, a_marks, a_nexts, a_joints) := by
  have na : (f_present &&& 28) = 0 ↔ pl_na H = false := by
    rw [bi_28, hH 2 (by decide), hH 3 (by decide), hH 4 (by decide)]; rfl
  have ce : (f_present &&& 224) = 0 ↔ pl_ce H = false := by
    rw [bi_224, hH 5 (by decide), hH 6 (by decide), hH 7 (by decide)]; rfl
  obtain ⟨p1, p2, p3, p4, p5⟩ := mi_3 h
  have nf : ∀ {b : Bool}, ¬ bo_I b = 0 → b = true := by
    intro b e; cases b
    · exact absurd rfl e
    · rfl
  have yf : ∀ {b : Bool}, bo_I b = 0 → b = false := by
    intro b e; cases b
    · rfl
    · exact absurd e bo_ne
  have m179 : ¬ (H 9 = true ∧ ¬ a_inForce 5 = 4 ∨ H 9 = false ∧ a_inForce 5 = 4) → ¬ (pl_ce H = true ∧ (¬ 1 < a_inForce 0 ∨ 0 ≤ a_inForce 5)) →
      ¬ (pl_na H = true ∧ a_inForce 5 = 4 ∨ pl_na H = false ∧ (a_inForce 5 = 28 ∨ a_inForce 5 = 53 ∨ a_inForce 5 = 92)) →
      ¬ ((a_inForce 5 = 28 ∨ a_inForce 5 = 53) ∧ a_inForce 3 = 91 ∨ a_inForce 5 = 53 ∧ 1 < a_inForce 0) → wX_mixFault_179 post f_lines f_fastest f_gain f_bend f_ahead f_mode f_holds f_pace f_line f_gone f_dwellLeft f_stepsInAll f_ticksInAll f_speed f_present f_laid a_wordCounts a_letters a_values a_limits a_switches a_tool a_inForce a_origins a_given a_rows a_probe a_motions a_thirds a_centres a_steps a_paces a_dwells a_marks a_nexts a_joints := by
    intro c1 c2 c3 c4
    have q := p5 c1 c2 c3 c4
    unfold wX_mixFault_179
    refine xl_mv hF hH ?_
    refine br_c (fun a => ?_) (fun a => br_c (fun b => ?_) (fun b => br_c (fun c => ?_) (fun c => ?_)))
    · rw [if_neg (by rw [yf a]; intro z; exact absurd z.1 (by decide))] at q; exact q
    · rw [if_neg (by intro z; exact (fv_0p hF).mp z.2.1 b)] at q; exact q
    · rw [if_pos ⟨nf a, (fv_0p hF).mpr b, c⟩] at q; exact q
    · rw [if_neg (by intro z; exact c z.2.2)] at q; exact q
  have m166 : ¬ (H 9 = true ∧ ¬ a_inForce 5 = 4 ∨ H 9 = false ∧ a_inForce 5 = 4) → ¬ (pl_ce H = true ∧ (¬ 1 < a_inForce 0 ∨ 0 ≤ a_inForce 5)) →
      ¬ (pl_na H = true ∧ a_inForce 5 = 4 ∨ pl_na H = false ∧ (a_inForce 5 = 28 ∨ a_inForce 5 = 53 ∨ a_inForce 5 = 92)) →
      ¬ ((a_inForce 5 = 28 ∨ a_inForce 5 = 53) ∧ a_inForce 3 = 91) → wX_mixFault_166 post (a_inForce 5) (bo_I (decide (1 < a_inForce 0))) f_lines f_fastest f_gain f_bend f_ahead f_mode f_holds f_pace f_line f_gone f_dwellLeft f_stepsInAll f_ticksInAll f_speed f_present f_laid a_wordCounts a_letters a_values a_limits a_switches a_tool a_inForce a_origins a_given a_rows a_probe a_motions a_thirds a_centres a_steps a_paces a_dwells a_marks a_nexts a_joints := by
    intro c1 c2 c3 c4
    unfold wX_mixFault_166
    refine br_c (fun a => br_c (fun b => m179 c1 c2 c3 ?_) (fun b => p4 (Or.inr ⟨a, of_decide_eq_true (nf b)⟩))) (fun a => m179 c1 c2 c3 ?_)
    · rintro (z | z)
      · exact c4 z
      · exact of_decide_eq_false (yf b) z.2
    · rintro (z | z)
      · exact c4 z
      · exact a z.1
  have m147 : ¬ (H 9 = true ∧ ¬ a_inForce 5 = 4 ∨ H 9 = false ∧ a_inForce 5 = 4) → ¬ (pl_ce H = true ∧ (¬ 1 < a_inForce 0 ∨ 0 ≤ a_inForce 5)) →
      ¬ (pl_na H = true ∧ a_inForce 5 = 4 ∨ pl_na H = false ∧ (a_inForce 5 = 28 ∨ a_inForce 5 = 53 ∨ a_inForce 5 = 92)) →
      wX_mixFault_147 post (a_inForce 5) (bo_I (decide (1 < a_inForce 0))) (bo_I (decide (a_inForce 3 = 91))) f_lines f_fastest f_gain f_bend f_ahead f_mode f_holds f_pace f_line f_gone f_dwellLeft f_stepsInAll f_ticksInAll f_speed f_present f_laid a_wordCounts a_letters a_values a_limits a_switches a_tool a_inForce a_origins a_given a_rows a_probe a_motions a_thirds a_centres a_steps a_paces a_dwells a_marks a_nexts a_joints := by
    intro c1 c2 c3
    have m159 : (a_inForce 5 = 28 ∨ a_inForce 5 = 53) → wX_mixFault_159 post (a_inForce 5) (bo_I (decide (1 < a_inForce 0))) (bo_I (decide (a_inForce 3 = 91))) f_lines f_fastest f_gain f_bend f_ahead f_mode f_holds f_pace f_line f_gone f_dwellLeft f_stepsInAll f_ticksInAll f_speed f_present f_laid a_wordCounts a_letters a_values a_limits a_switches a_tool a_inForce a_origins a_given a_rows a_probe a_motions a_thirds a_centres a_steps a_paces a_dwells a_marks a_nexts a_joints := by
      intro o
      unfold wX_mixFault_159
      exact br_c (fun a => m166 c1 c2 c3 (fun z => of_decide_eq_false (yf a) z.2)) (fun a => p4 (Or.inl ⟨o, of_decide_eq_true (nf a)⟩))
    unfold wX_mixFault_147
    exact br_c (fun a => m159 (Or.inl a)) (fun a => br_c (fun b => m159 (Or.inr b)) (fun b => m166 c1 c2 c3 (fun z => z.1.elim a b)))
  have m123 : ¬ (H 9 = true ∧ ¬ a_inForce 5 = 4 ∨ H 9 = false ∧ a_inForce 5 = 4) → ¬ (pl_ce H = true ∧ (¬ 1 < a_inForce 0 ∨ 0 ≤ a_inForce 5)) →
      ¬ (pl_na H = true ∧ a_inForce 5 = 4) →
      wX_mixFault_123 post (a_inForce 5) (bo_I (pl_na H)) (bo_I (decide (1 < a_inForce 0))) (bo_I (decide (a_inForce 3 = 91))) f_lines f_fastest f_gain f_bend f_ahead f_mode f_holds f_pace f_line f_gone f_dwellLeft f_stepsInAll f_ticksInAll f_speed f_present f_laid a_wordCounts a_letters a_values a_limits a_switches a_tool a_inForce a_origins a_given a_rows a_probe a_motions a_thirds a_centres a_steps a_paces a_dwells a_marks a_nexts a_joints := by
    intro c1 c2 c3
    have m141 : (a_inForce 5 = 28 ∨ a_inForce 5 = 53 ∨ a_inForce 5 = 92) → wX_mixFault_141 post (a_inForce 5) (bo_I (pl_na H)) (bo_I (decide (1 < a_inForce 0))) (bo_I (decide (a_inForce 3 = 91))) f_lines f_fastest f_gain f_bend f_ahead f_mode f_holds f_pace f_line f_gone f_dwellLeft f_stepsInAll f_ticksInAll f_speed f_present f_laid a_wordCounts a_letters a_values a_limits a_switches a_tool a_inForce a_origins a_given a_rows a_probe a_motions a_thirds a_centres a_steps a_paces a_dwells a_marks a_nexts a_joints := by
      intro o
      unfold wX_mixFault_141
      refine br_c (fun a => p3 (Or.inr ⟨yf a, o⟩)) (fun a => m147 c1 c2 ?_)
      rintro (z | z)
      · exact c3 z
      · rw [nf a] at z; exact absurd z.1 (by decide)
    unfold wX_mixFault_123
    refine br_c (fun a => m141 (Or.inl a)) (fun a => br_c (fun b => m141 (Or.inr (Or.inl b))) (fun b => br_c (fun c => m141 (Or.inr (Or.inr c))) (fun c => m147 c1 c2 ?_)))
    rintro (z | ⟨_, z | z | z⟩)
    · exact c3 z
    · exact a z
    · exact b z
    · exact c z
  have m112 : ¬ (H 9 = true ∧ ¬ a_inForce 5 = 4 ∨ H 9 = false ∧ a_inForce 5 = 4) → ¬ (pl_ce H = true ∧ (¬ 1 < a_inForce 0 ∨ 0 ≤ a_inForce 5)) →
      wX_mixFault_112 post (a_inForce 5) (bo_I (pl_na H)) (bo_I (decide (1 < a_inForce 0))) (bo_I (decide (a_inForce 3 = 91))) f_lines f_fastest f_gain f_bend f_ahead f_mode f_holds f_pace f_line f_gone f_dwellLeft f_stepsInAll f_ticksInAll f_speed f_present f_laid a_wordCounts a_letters a_values a_limits a_switches a_tool a_inForce a_origins a_given a_rows a_probe a_motions a_thirds a_centres a_steps a_paces a_dwells a_marks a_nexts a_joints := by
    intro c1 c2
    unfold wX_mixFault_112
    exact br_c (fun a => br_c (fun b => m123 c1 c2 (fun z => by rw [yf b] at z; exact absurd z.1 (by decide))) (fun b => p3 (Or.inl ⟨nf b, a⟩))) (fun a => m123 c1 c2 (fun z => a z.2))
  have m85 : wX_mixFault_85 post (a_inForce 5) (bo_I (pl_na H)) (bo_I (pl_ce H)) (bo_I (decide (1 < a_inForce 0))) (bo_I (decide (a_inForce 3 = 91))) (bo_I (decide (a_inForce 5 = 4))) f_lines f_fastest f_gain f_bend f_ahead f_mode f_holds f_pace f_line f_gone f_dwellLeft f_stepsInAll f_ticksInAll f_speed f_present f_laid a_wordCounts a_letters a_values a_limits a_switches a_tool a_inForce a_origins a_given a_rows a_probe a_motions a_thirds a_centres a_steps a_paces a_dwells a_marks a_nexts a_joints := by
    unfold wX_mixFault_85
    refine xl_has 9 (by decide) (by decide) ?_
    rw [hH 9 (by decide)]
    by_cases c1 : H 9 = true ∧ ¬ a_inForce 5 = 4 ∨ H 9 = false ∧ a_inForce 5 = 4
    · refine br_f ?_ (p1 c1)
      intro z
      rcases c1 with ⟨z1, z2⟩ | ⟨z1, z2⟩
      · rw [z1, decide_eq_false z2] at z; exact absurd z (by decide)
      · rw [z1, decide_eq_true z2] at z; exact absurd z (by decide)
    · refine br_t ?_ (br_c (fun a => m112 c1 (fun z => by rw [yf a] at z; exact absurd z.1 (by decide))) (fun a => br_c (fun b => p2 ⟨nf a, Or.inl (of_decide_eq_false (yf b))⟩)
        (fun b => br_c (fun c => m112 c1 ?_) (fun c => p2 ⟨nf a, Or.inr ((fv_5n hF).mpr c)⟩))))
      · by_cases d : a_inForce 5 = 4
        · cases e : H 9
          · exact absurd (Or.inr ⟨e, d⟩) c1
          · rw [decide_eq_true d]
        · cases e : H 9
          · rw [decide_eq_false d]
          · exact absurd (Or.inl ⟨e, d⟩) c1
      · rintro ⟨_, z | z⟩
        · exact z (of_decide_eq_true (nf b))
        · exact (fv_5n hF).mp z c
  unfold wpX_mixFault
  refine nm_e ?_
  have m73 : wX_mixFault_73 post (a_inForce 5) (bo_I (pl_na H)) (bo_I (pl_ce H)) (bo_I (decide (1 < a_inForce 0))) (bo_I (decide (a_inForce 3 = 91))) f_lines f_fastest f_gain f_bend f_ahead f_mode f_holds f_pace f_line f_gone f_dwellLeft f_stepsInAll f_ticksInAll f_speed f_present f_laid a_wordCounts a_letters a_values a_limits a_switches a_tool a_inForce a_origins a_given a_rows a_probe a_motions a_thirds a_centres a_steps a_paces a_dwells a_marks a_nexts a_joints := by
    unfold wX_mixFault_73
    refine br_c (fun a => ?_) (fun a => ?_)
    · rw [decide_eq_true a] at m85; exact m85
    · rw [decide_eq_false a] at m85; exact m85
  have m55 : wX_mixFault_55 post (a_inForce 5) (bo_I (pl_na H)) (bo_I (pl_ce H)) (bo_I (decide (1 < a_inForce 0))) f_lines f_fastest f_gain f_bend f_ahead f_mode f_holds f_pace f_line f_gone f_dwellLeft f_stepsInAll f_ticksInAll f_speed f_present f_laid a_wordCounts a_letters a_values a_limits a_switches a_tool a_inForce a_origins a_given a_rows a_probe a_motions a_thirds a_centres a_steps a_paces a_dwells a_marks a_nexts a_joints := by
    unfold wX_mixFault_55
    refine br_c (fun a => ?_) (fun a => ?_)
    · rw [decide_eq_true a] at m73; exact m73
    · rw [decide_eq_false a] at m73; exact m73
  have m39 : wX_mixFault_39 post (a_inForce 5) (bo_I (pl_na H)) (bo_I (pl_ce H)) f_lines f_fastest f_gain f_bend f_ahead f_mode f_holds f_pace f_line f_gone f_dwellLeft f_stepsInAll f_ticksInAll f_speed f_present f_laid a_wordCounts a_letters a_values a_limits a_switches a_tool a_inForce a_origins a_given a_rows a_probe a_motions a_thirds a_centres a_steps a_paces a_dwells a_marks a_nexts a_joints := by
    unfold wX_mixFault_39
    refine br_c (fun a => ?_) (fun a => ?_)
    · rw [decide_eq_false (fun z => (fv_0r hF).mp z a)] at m55; exact m55
    · rw [decide_eq_true ((fv_0r hF).mpr a)] at m55; exact m55
  have m22 : wX_mixFault_22 post (a_inForce 5) (bo_I (pl_na H)) f_lines f_fastest f_gain f_bend f_ahead f_mode f_holds f_pace f_line f_gone f_dwellLeft f_stepsInAll f_ticksInAll f_speed f_present f_laid a_wordCounts a_letters a_values a_limits a_switches a_tool a_inForce a_origins a_given a_rows a_probe a_motions a_thirds a_centres a_steps a_paces a_dwells a_marks a_nexts a_joints := by
    unfold wX_mixFault_22
    refine br_c (fun a => ?_) (fun a => ?_)
    · rw [ce.mp a] at m39; exact m39
    · cases e : pl_ce H
      · exact absurd (ce.mpr e) a
      · rw [e] at m39; exact m39
  refine br_c (fun a => ?_) (fun a => ?_)
  · rw [na.mp a] at m22; exact m22
  · cases e : pl_na H
    · exact absurd (na.mpr e) a
    · rw [e] at m22; exact m22
end
end XMX
