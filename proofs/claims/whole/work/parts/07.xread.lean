section XRD
/-! bits -/
theorem bi_t (x : Int32) {i : Nat} (hi : i < 32) : ((x >>> (nI i &&& 31)) &&& 1) = 0 ↔ bt x i = false := by
  have e : bt ((x >>> (nI i &&& 31)) &&& 1) 0 = bt x i := by
    rw [b_and, b_sshr i hi x (by omega), if_pos (by omega), Nat.add_zero, show bt 1 0 = true from by decide, Bool.and_true]
  constructor
  · intro h
    rw [h, b_0] at e
    exact e.symm
  · intro h
    apply b_ext
    intro j hj
    rw [b_0, b_and]
    by_cases c : j = 0
    · subst c
      rw [← b_and, e]; exact h
    · rw [(by decide +kernel : ∀ j, j < 32 → ¬ j = 0 → bt 1 j = false) j hj c, Bool.and_false]
theorem bi_s (x : Int32) {i : Nat} (hi : i < 32) : ∀ j, j < 32 → bt (x ||| ((1 : Int32) <<< (nI i &&& 31))) j = (if j = i then true else bt x j) := by
  intro j hj
  rw [b_or, b_shl i hi 1 hj]
  by_cases c : j = i
  · subst c
    rw [if_pos rfl, Nat.sub_self, show bt 1 0 = true from by decide, decide_eq_true (Nat.le_refl _)]
    simp
  · rw [if_neg c]
    by_cases d : i ≤ j
    · rw [(by decide +kernel : ∀ j, j < 32 → ¬ j = 0 → bt 1 j = false) (j - i) (by omega) (by omega)]
      simp
    · rw [decide_eq_false d]
      simp
theorem bi_0 : ∀ i, bt 0 i = false := b_0
theorem bo_1 : bo_I true = 1 := rfl
theorem bo_0 : bo_I false = 0 := rfl
theorem bo_ne : ¬ bo_I true = 0 := by decide
theorem bo_e (b : Bool) : bo_I b = 0 ↔ b = false := by cases b <;> decide
theorem gr_neg (x : Int32) : pl_gr x < 0 ↔ pl_gr x = -1 := by
  rcases fc_gr x with e | ⟨g, h1, h2, h3⟩
  · rw [e]; decide
  · rw [h2]
    constructor
    · intro h; exact absurd h (nI_pos (by omega))
    · intro h
      exfalso
      have := nI_pos (n := g) (by omega)
      rw [h] at this
      exact this (by decide)
section
variable {f_lines f_fastest f_gain f_bend f_ahead f_mode f_holds f_pace f_line f_gone f_dwellLeft f_stepsInAll f_ticksInAll f_speed f_present f_laid : Int32} {a_wordCounts a_letters a_values a_limits a_switches a_tool a_inForce a_origins a_given a_rows a_probe a_motions a_thirds a_centres a_steps a_paces a_dwells a_marks a_nexts a_joints : Nat → Int32}
theorem xl_gr {post : Int32 → Prop} {p : Int32} (h : post (pl_gr p)) : wpX_groupOf post (f_lines, f_fastest, f_gain, f_bend, f_ahead, f_mode, f_holds, f_pace, f_line, f_gone, f_dwellLeft, f_stepsInAll, f_ticksInAll, f_speed, f_present, f_laid, a_wordCounts, a_letters, a_values, a_limits, a_switches, a_tool, a_inForce, a_origins, a_given, a_rows, a_probe, a_motions, a_thirds, a_centres, a_steps, a_paces, a_dwells, a_marks, a_nexts, a_joints) p := by
  have g25 : ¬ (0 ≤ p ∧ p ≤ 3) → ¬ (17 ≤ p ∧ p ≤ 19) → wX_groupOf_25 post p f_lines f_fastest f_gain f_bend f_ahead f_mode f_holds f_pace f_line f_gone f_dwellLeft f_stepsInAll f_ticksInAll f_speed f_present f_laid a_wordCounts a_letters a_values a_limits a_switches a_tool a_inForce a_origins a_given a_rows a_probe a_motions a_thirds a_centres a_steps a_paces a_dwells a_marks a_nexts a_joints := by
    intro a b
    unfold pl_gr at h
    rw [if_neg a, if_neg b] at h
    unfold wX_groupOf_25
    refine br_c (fun c => ?_) (fun c1 => br_c (fun c => ?_) (fun c2 => ?_))
    · rw [if_pos (Or.inl c)] at h; exact h
    · rw [if_pos (Or.inr c)] at h; exact h
    rw [if_neg (fun z => z.elim c1 c2)] at h
    refine br_c (fun c => ?_) (fun c1 => br_c (fun c => ?_) (fun c2 => ?_))
    · rw [if_pos (Or.inl c)] at h; exact h
    · rw [if_pos (Or.inr c)] at h; exact h
    rw [if_neg (fun z => z.elim c1 c2)] at h
    refine br_c (fun c => ?_) (fun c1 => br_c (fun c => ?_) (fun c2 => ?_))
    · rw [if_pos (Or.inl c)] at h; exact h
    · rw [if_pos (Or.inr c)] at h; exact h
    rw [if_neg (fun z => z.elim c1 c2)] at h
    refine br_c (fun c => ?_) (fun c1 => br_c (fun c => ?_) (fun c2 => br_c (fun c => ?_) (fun c3 => br_c (fun c => ?_) (fun c4 => ?_))))
    · rw [if_pos (Or.inl c)] at h; exact h
    · rw [if_pos (Or.inr (Or.inl c))] at h; exact h
    · rw [if_pos (Or.inr (Or.inr (Or.inl c)))] at h; exact h
    · rw [if_pos (Or.inr (Or.inr (Or.inr c)))] at h; exact h
    · rw [if_neg (fun z => z.elim c1 (fun z => z.elim c2 (fun z => z.elim c3 c4)))] at h; exact h
  have g11 : ¬ (0 ≤ p ∧ p ≤ 3) → wX_groupOf_11 post p f_lines f_fastest f_gain f_bend f_ahead f_mode f_holds f_pace f_line f_gone f_dwellLeft f_stepsInAll f_ticksInAll f_speed f_present f_laid a_wordCounts a_letters a_values a_limits a_switches a_tool a_inForce a_origins a_given a_rows a_probe a_motions a_thirds a_centres a_steps a_paces a_dwells a_marks a_nexts a_joints := by
    intro a
    unfold wX_groupOf_11
    refine br_c (fun b => g25 a (fun z => Int32.not_lt.mpr z.1 b)) (fun b => br_c (fun c => g25 a (fun z => Int32.not_lt.mpr z.2 c)) (fun c => ?_))
    unfold pl_gr at h
    rw [if_neg a, if_pos ⟨Int32.not_lt.mp b, Int32.not_lt.mp c⟩] at h
    exact h
  unfold wpX_groupOf
  refine br_c (fun b => g11 (fun z => Int32.not_lt.mpr z.1 b)) (fun b => br_c (fun c => g11 (fun z => Int32.not_lt.mpr z.2 c)) (fun c => ?_))
  unfold pl_gr at h
  rw [if_pos ⟨Int32.not_lt.mp b, Int32.not_lt.mp c⟩] at h
  exact h
theorem xl_kn {post : Int32 → Prop} {l x : Int32} (h : post (bo_I (!pl_bad l x))) : wpX_isKnown post (f_lines, f_fastest, f_gain, f_bend, f_ahead, f_mode, f_holds, f_pace, f_line, f_gone, f_dwellLeft, f_stepsInAll, f_ticksInAll, f_speed, f_present, f_laid, a_wordCounts, a_letters, a_values, a_limits, a_switches, a_tool, a_inForce, a_origins, a_given, a_rows, a_probe, a_motions, a_thirds, a_centres, a_steps, a_paces, a_dwells, a_marks, a_nexts, a_joints) l x := by
  have good : pl_bad l x = false → post 1 := by intro e; rw [e] at h; exact h
  have bad : pl_bad l x = true → post 0 := by intro e; rw [e] at h; exact h
  have ng : ∀ l' : Int32, l = l' → ¬ l' = 0 → ¬ l' = 1 → ¬ l' = 8 → ¬ l' = 9 → post 1 := by
    intro l' e a b c d
    subst e
    refine good (decide_eq_false ?_)
    rintro (z | z | z | z)
    · exact a z.1
    · exact b z.1
    · exact c z.1
    · exact d z.1
  unfold wpX_isKnown
  refine br_c (fun a => ?_) (fun a => br_c (fun b => ?_) (fun b => br_c (fun c => ?_) (fun c0 => br_c (fun c => ?_) (fun c1 =>
    br_c (fun c => ng 2 c (by decide) (by decide) (by decide) (by decide)) (fun c2 => br_c (fun c => ng 3 c (by decide) (by decide) (by decide) (by decide)) (fun c3 =>
    br_c (fun c => ng 4 c (by decide) (by decide) (by decide) (by decide)) (fun c4 => br_c (fun c => ng 5 c (by decide) (by decide) (by decide) (by decide)) (fun c5 =>
    br_c (fun c => ng 6 c (by decide) (by decide) (by decide) (by decide)) (fun c6 => br_c (fun c => ng 7 c (by decide) (by decide) (by decide) (by decide)) (fun c7 =>
    br_c (fun c => ?_) (fun c8 => br_c (fun c => ?_) (fun c9 => trivial))))))))))))
  · refine ng l rfl ?_ ?_ ?_ ?_ <;> (intro z; rw [z] at a; exact absurd a (by decide))
  · refine ng l rfl ?_ ?_ ?_ ?_ <;> (intro z; rw [z] at b; exact absurd b (by decide))
  · refine xl_gr (br_c (fun d => bad (decide_eq_true (Or.inl ⟨c, (gr_neg x).mpr d⟩))) (fun d => good (decide_eq_false ?_)))
    rintro (z | z | z | z)
    · exact d ((gr_neg x).mp z.2)
    · rw [c] at z; exact absurd z.1 (by decide)
    · rw [c] at z; exact absurd z.1 (by decide)
    · rw [c] at z; exact absurd z.1 (by decide)
  · have nb : (x = 0 ∨ x = 2) → pl_bad l x = false := by
      intro y
      refine decide_eq_false ?_
      rintro (z | z | z | z)
      · exact c0 z.1
      · exact y.elim z.2.1 z.2.2
      · rw [c] at z; exact absurd z.1 (by decide)
      · rw [c] at z; exact absurd z.1 (by decide)
    exact br_c (fun d => good (nb (Or.inl d))) (fun d => br_c (fun e => good (nb (Or.inr e))) (fun e => bad (decide_eq_true (Or.inr (Or.inl ⟨c, d, e⟩)))))
  · refine br_c (fun d => bad (decide_eq_true (Or.inr (Or.inr (Or.inl ⟨c, Or.inl d⟩))))) (fun d => br_c (fun e => bad (decide_eq_true (Or.inr (Or.inr (Or.inl ⟨c, Or.inr e⟩))))) (fun e => good (decide_eq_false ?_)))
    rintro (z | z | z | z)
    · exact c0 z.1
    · exact c1 z.1
    · exact z.2.elim d e
    · rw [c] at z; exact absurd z.1 (by decide)
  · refine br_c (fun d => bad (decide_eq_true (Or.inr (Or.inr (Or.inr ⟨c, Or.inl d⟩))))) (fun d => br_c (fun e => bad (decide_eq_true (Or.inr (Or.inr (Or.inr ⟨c, Or.inr e⟩))))) (fun e => good (decide_eq_false ?_)))
    rintro (z | z | z | z)
    · exact c0 z.1
    · exact c1 z.1
    · exact c8 z.1
    · exact z.2.elim d e
theorem xl_has {post : Int32 → Prop} {p : Int32} (i : Nat) (hi : i < 32) (hp : p = nI i) (h : post (bo_I (bt f_present i))) : wpX_has post (f_lines, f_fastest, f_gain, f_bend, f_ahead, f_mode, f_holds, f_pace, f_line, f_gone, f_dwellLeft, f_stepsInAll, f_ticksInAll, f_speed, f_present, f_laid, a_wordCounts, a_letters, a_values, a_limits, a_switches, a_tool, a_inForce, a_origins, a_given, a_rows, a_probe, a_motions, a_thirds, a_centres, a_steps, a_paces, a_dwells, a_marks, a_nexts, a_joints) p := by
  subst hp
  unfold wpX_has
  refine br_c (fun a => ?_) (fun a => ?_)
  · rw [(bi_t f_present hi).mp a] at h; exact h
  · cases e : bt f_present i
    · exact absurd ((bi_t f_present hi).mpr e) a
    · rw [e] at h; exact h
/-! the words of a line -/
theorem xl_r17 {post : Int32 → SX → Prop} {b c : Nat} (hc : b + c ≤ 240)
    (h1 : rd_no a_letters a_values b c = true → post 1 (f_lines, f_fastest, f_gain, f_bend, f_ahead, f_mode, f_holds, f_pace, f_line, f_gone, f_dwellLeft, f_stepsInAll, f_ticksInAll, f_speed, f_present, f_laid, a_wordCounts, a_letters, a_values, a_limits, a_switches, a_tool, a_inForce, a_origins, a_given, a_rows, a_probe, a_motions, a_thirds, a_centres, a_steps, a_paces, a_dwells, a_marks, a_nexts, a_joints))
    (h0 : rd_no a_letters a_values b c = false → ∃ n, wX_readWords_70 post (nI (b + c)) f_lines f_fastest f_gain f_bend f_ahead f_mode f_holds f_pace f_line f_gone f_dwellLeft f_stepsInAll f_ticksInAll f_speed f_laid n 0 (nI b) 0 a_wordCounts a_letters a_values a_limits a_switches a_tool (upd a_inForce 5 (-1)) a_origins a_given a_rows a_probe a_motions a_thirds a_centres a_steps a_paces a_dwells a_marks a_nexts a_joints) :
    ∀ d j, j + d = c → rd_no a_letters a_values b j = false → wX_readWords_17 post (nI b) (nI (b + c)) f_lines f_fastest f_gain f_bend f_ahead f_mode f_holds f_pace f_line f_gone f_dwellLeft f_stepsInAll f_ticksInAll f_speed f_present f_laid a_wordCounts a_letters a_values a_limits a_switches a_tool a_inForce a_origins a_given a_rows a_probe a_motions a_thirds a_centres a_steps a_paces a_dwells a_marks a_nexts a_joints (d + 1) (nI (b + j)) := by
  intro d
  induction d with
  | zero =>
    intro j hj hn
    obtain rfl : j = c := by omega
    exact br_t (nI_le (Nat.le_refl _) (by omega)) (nm_e (h0 hn))
  | succ d ih =>
    intro j hj hn
    have hin : vp_in (nI (b + j)) 240 := vp_in_nI (by omega) (by omega)
    refine br_f (nI_ge (by omega) (by omega)) ⟨hin, hin, ?_⟩
    rw [nI_clamp (by omega)]
    refine xl_kn ?_
    have e : rd_no a_letters a_values b (j + 1) = pl_bad (a_letters (b + j)) (a_values (b + j)) := by rw [rd_no, hn]; rfl
    cases k : pl_bad (a_letters (b + j)) (a_values (b + j))
    · refine br_f bo_ne (nm_r (nI_1 (b + j)) ?_)
      exact ih (j + 1) (by omega) (e.trans k)
    · refine br_t rfl (h1 ?_)
      have mono : ∀ m, rd_no a_letters a_values b (j + 1 + m) = true := by
        intro m
        induction m with
        | zero => exact e.trans k
        | succ m ihm => rw [← Nat.add_assoc, rd_no, ihm]; rfl
      have := mono (c - (j + 1))
      rwa [show j + 1 + (c - (j + 1)) = c by omega] at this
end
end XRD
