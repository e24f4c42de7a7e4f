section YRD
theorem yl_in {post : Int32 → Prop} {a b c : Int32} (h1 : b ≤ a → a ≤ c → post 1) (h0 : ¬ (b ≤ a ∧ a ≤ c) → post 0) : wpY_in post a b c :=
  br_c (fun z => h0 (fun w => Int32.not_lt.mpr w.1 z)) (fun z => br_c (fun y => h0 (fun w => Int32.not_lt.mpr w.2 y)) (fun y => h1 (Int32.not_lt.mp z) (Int32.not_lt.mp y)))
theorem yl_gr {post : Int32 → Prop} {p : Int32} (h : post (pl_gr p)) : wpY_groupOf post p := by
  unfold pl_gr at h
  unfold wpY_groupOf
  refine yl_in (fun a b => br_f (by decide) ?_) (fun a => br_t rfl (yl_in (fun b c => br_f (by decide) ?_) (fun b => br_t rfl ?_)))
  · rw [if_pos ⟨a, b⟩] at h; exact h
  · rw [if_neg a, if_pos ⟨b, c⟩] at h; exact h
  · rw [if_neg a, if_neg b] at h
    refine br_c (fun c => ?_) (fun c1 => br_c (fun c => ?_) (fun c2 => ?_))
    · rw [if_pos (Or.inl c)] at h; exact h
    · rw [if_pos (Or.inr c)] at h; exact h
    rw [if_neg (fun z => z.elim c1 c2)] at h
    refine br_c (fun c => ?_) (fun c1 => br_c (fun c => ?_) (fun c2 => ?_))
    · rw [if_pos (Or.inl c)] at h; exact h
    · rw [if_pos (Or.inr c)] at h; exact h
    rw [if_neg (fun z => z.elim c1 c2)] at h
    refine br_c (fun c => ?_) (fun c1 => br_c (fun c => ?_) (fun c2 => ?_))
    · rw [if_pos (Or.inl c)] at h; exact h
    · rw [if_pos (Or.inr c)] at h; exact h
    rw [if_neg (fun z => z.elim c1 c2)] at h
    refine br_c (fun c => ?_) (fun c1 => br_c (fun c => ?_) (fun c2 => br_c (fun c => ?_) (fun c3 => br_c (fun c => ?_) (fun c4 => ?_))))
    · rw [if_pos (Or.inl c)] at h; exact h
    · rw [if_pos (Or.inr (Or.inl c))] at h; exact h
    · rw [if_pos (Or.inr (Or.inr (Or.inl c)))] at h; exact h
    · rw [if_pos (Or.inr (Or.inr (Or.inr c)))] at h; exact h
    · rw [if_neg (fun z => z.elim c1 (fun z => z.elim c2 (fun z => z.elim c3 c4)))] at h; exact h
theorem bo_or (a b : Bool) : bo_I a ||| bo_I b = bo_I (a || b) := by cases a <;> cases b <;> decide
theorem bo_n0 : vp_nar .boolean 0 = bo_I false := by decide
theorem bo_n1 : vp_nar .boolean 1 = bo_I true := by decide
section
variable {f_lines f_fastest f_gain f_bend f_ahead f_speed f_seen f_state f_line f_pace f_left f_went f_allSteps f_allTicks f_u f_v f_holds : Int32} {a_letters a_values a_many a_tool a_began a_limit a_trips a_force a_origins a_here a_has a_grouped a_word a_from a_to a_steps a_paces a_dwells a_ends a_turn a_first a_second a_centre a_direction : Nat → Int32}
theorem yl_113 {post : Int32 → SY → Prop} {N : Nat} {x1 x2 x3 x4 l x g : Int32} (hg : g = if l = 0 then pl_gr x else 0)
    (h : wY_readWords_181 post (wY_readWords_65 post x1 f_lines f_fastest f_gain f_bend f_ahead f_seen f_state f_line f_pace f_left f_went f_allSteps f_allTicks f_u f_v f_holds N) x1 x3 x4 l x g (bo_I (pl_bad l x)) x2 f_lines f_fastest f_gain f_bend f_ahead f_speed f_seen f_state f_line f_pace f_left f_went f_allSteps f_allTicks f_u f_v f_holds a_letters a_values a_many a_tool a_began a_limit a_trips a_force a_origins a_here a_has a_grouped a_word a_from a_to a_steps a_paces a_dwells a_ends a_turn a_first a_second a_centre a_direction) :
    wY_readWords_113 post (wY_readWords_65 post x1 f_lines f_fastest f_gain f_bend f_ahead f_seen f_state f_line f_pace f_left f_went f_allSteps f_allTicks f_u f_v f_holds N) x1 x2 x3 x4 l x g f_lines f_fastest f_gain f_bend f_ahead f_speed f_seen f_state f_line f_pace f_left f_went f_allSteps f_allTicks f_u f_v f_holds a_letters a_values a_many a_tool a_began a_limit a_trips a_force a_origins a_here a_has a_grouped a_word a_from a_to a_steps a_paces a_dwells a_ends a_turn a_first a_second a_centre a_direction := by
  have bad : pl_bad l x = true → wY_readWords_176 post (wY_readWords_65 post x1 f_lines f_fastest f_gain f_bend f_ahead f_seen f_state f_line f_pace f_left f_went f_allSteps f_allTicks f_u f_v f_holds N) x1 x3 x4 l x g x2 f_lines f_fastest f_gain f_bend f_ahead f_speed f_seen f_state f_line f_pace f_left f_went f_allSteps f_allTicks f_u f_v f_holds a_letters a_values a_many a_tool a_began a_limit a_trips a_force a_origins a_here a_has a_grouped a_word a_from a_to a_steps a_paces a_dwells a_ends a_turn a_first a_second a_centre a_direction := by
    intro e; rw [e] at h; unfold wY_readWords_176; exact h
  have good : pl_bad l x = false → wY_readWords_180 post (wY_readWords_65 post x1 f_lines f_fastest f_gain f_bend f_ahead f_seen f_state f_line f_pace f_left f_went f_allSteps f_allTicks f_u f_v f_holds N) x1 x3 x4 l x g x2 f_lines f_fastest f_gain f_bend f_ahead f_speed f_seen f_state f_line f_pace f_left f_went f_allSteps f_allTicks f_u f_v f_holds a_letters a_values a_many a_tool a_began a_limit a_trips a_force a_origins a_here a_has a_grouped a_word a_from a_to a_steps a_paces a_dwells a_ends a_turn a_first a_second a_centre a_direction := by
    intro e; rw [e] at h; unfold wY_readWords_180; exact h
  have g157 : ¬ (l = 0 ∧ pl_gr x < 0) → ¬ (l = 1 ∧ ¬ x = 0 ∧ ¬ x = 2) → ¬ (l = 8 ∧ (x < 1 ∨ 1000 < x)) → wY_readWords_157 post (wY_readWords_65 post x1 f_lines f_fastest f_gain f_bend f_ahead f_seen f_state f_line f_pace f_left f_went f_allSteps f_allTicks f_u f_v f_holds N) x1 x3 x4 l x g x2 f_lines f_fastest f_gain f_bend f_ahead f_speed f_seen f_state f_line f_pace f_left f_went f_allSteps f_allTicks f_u f_v f_holds a_letters a_values a_many a_tool a_began a_limit a_trips a_force a_origins a_here a_has a_grouped a_word a_from a_to a_steps a_paces a_dwells a_ends a_turn a_first a_second a_centre a_direction := by
    intro c1 c2 c3
    unfold wY_readWords_157
    refine br_c (fun c => yl_in (fun a b => br_f (by decide) (good (decide_eq_false ?_))) (fun a => br_t rfl (bad (decide_eq_true ?_)))) (fun c => good (decide_eq_false ?_))
    · rintro (z | z | z | ⟨_, z | z⟩)
      · exact c1 z
      · exact c2 z
      · exact c3 z
      · exact Int32.not_lt.mpr a z
      · exact Int32.not_lt.mpr b z
    · refine Or.inr (Or.inr (Or.inr ⟨c, ?_⟩))
      by_cases y : x < 0
      · exact Or.inl y
      · refine Or.inr ?_
        exact Int32.not_le.mp (fun w => a ⟨Int32.not_lt.mp y, w⟩)
    · rintro (z | z | z | z)
      · exact c1 z
      · exact c2 z
      · exact c3 z
      · exact c z.1
  have g138 : ¬ (l = 0 ∧ pl_gr x < 0) → ¬ (l = 1 ∧ ¬ x = 0 ∧ ¬ x = 2) → wY_readWords_138 post (wY_readWords_65 post x1 f_lines f_fastest f_gain f_bend f_ahead f_seen f_state f_line f_pace f_left f_went f_allSteps f_allTicks f_u f_v f_holds N) x1 x3 x4 l x g x2 f_lines f_fastest f_gain f_bend f_ahead f_speed f_seen f_state f_line f_pace f_left f_went f_allSteps f_allTicks f_u f_v f_holds a_letters a_values a_many a_tool a_began a_limit a_trips a_force a_origins a_here a_has a_grouped a_word a_from a_to a_steps a_paces a_dwells a_ends a_turn a_first a_second a_centre a_direction := by
    intro c1 c2
    unfold wY_readWords_138
    refine br_c (fun c => yl_in (fun a b => br_f (by decide) (g157 c1 c2 ?_)) (fun a => br_t rfl (bad (decide_eq_true ?_)))) (fun c => g157 c1 c2 (fun z => c z.1))
    · rintro ⟨_, z | z⟩
      · exact Int32.not_lt.mpr a z
      · exact Int32.not_lt.mpr b z
    · refine Or.inr (Or.inr (Or.inl ⟨c, ?_⟩))
      by_cases y : x < 1
      · exact Or.inl y
      · refine Or.inr ?_
        exact Int32.not_le.mp (fun w => a ⟨Int32.not_lt.mp y, w⟩)
  unfold wY_readWords_113
  refine br_c (fun c => bad (decide_eq_true (Or.inl ?_))) (fun c => ?_)
  · by_cases z : l = 0
    · rw [if_pos z] at hg; rw [hg] at c; exact ⟨z, c⟩
    · rw [if_neg z] at hg; rw [hg] at c; exact absurd c (by decide)
  · have c1 : ¬ (l = 0 ∧ pl_gr x < 0) := by
      rintro ⟨z, w⟩
      rw [if_pos z] at hg; rw [hg] at c; exact c w
    refine br_c (fun d => br_c (fun e => g138 c1 (fun z => z.2.1 e)) (fun e => br_c (fun k => g138 c1 (fun z => z.2.2 k)) (fun k => bad (decide_eq_true (Or.inr (Or.inl ⟨d, e, k⟩)))))) (fun d => g138 c1 (fun z => d z.1))
theorem yl_65 {post : Int32 → SY → Prop} {n b c : Nat} (hn : n < 30) (hb : b = 8 * n) (hc : b + c ≤ 240) (hM : a_many n = nI c) (hL : ∀ k, 0 ≤ (a_letters k).toInt ∧ (a_letters k).toInt ≤ 9) (f0 w0 : Nat → Int32) (s0 : Int32)
    (h : ∀ hs gs, (∀ i, i < 10 → hs i = bo_I (rd_hs a_letters b c i)) →
      post (if rd_no a_letters a_values b c = true then 1 else if rd_tw a_letters a_values b c = true then 2 else 0)
        (f_lines, f_fastest, f_gain, f_bend, f_ahead, (rd_sp a_letters a_values s0 b c), f_seen, f_state, f_line, f_pace, f_left, f_went, f_allSteps, f_allTicks, f_u, f_v, f_holds, a_letters, a_values, a_many, a_tool, a_began, a_limit, a_trips, (rd_fo a_letters a_values f0 b c), a_origins, a_here, hs, gs, (rd_wd a_letters a_values w0 b c), a_from, a_to, a_steps, a_paces, a_dwells, a_ends, a_turn, a_first, a_second, a_centre, a_direction)) :
    ∀ d j hs gs, j + d = c → (∀ i, i < 10 → hs i = bo_I (rd_hs a_letters b j i)) → (∀ g, g < 6 → gs g = bo_I (rd_gs a_letters a_values b j g)) →
      wY_readWords_65 post (nI n) f_lines f_fastest f_gain f_bend f_ahead f_seen f_state f_line f_pace f_left f_went f_allSteps f_allTicks f_u f_v f_holds (d + 1) (bo_I (rd_no a_letters a_values b j)) (bo_I (rd_tw a_letters a_values b j)) (nI (b + j)) (rd_sp a_letters a_values s0 b j)
        a_letters a_values a_many a_tool a_began a_limit a_trips (rd_fo a_letters a_values f0 b j) a_origins a_here hs gs (rd_wd a_letters a_values w0 b j) a_from a_to a_steps a_paces a_dwells a_ends a_turn a_first a_second a_centre a_direction := by
  have i30 : vp_in (nI n) 30 := vp_in_nI hn (by omega)
  have eM : 8 * nI n + a_many (nI n).toNatClampNeg = nI (b + c) := by
    rw [nI_clamp (by omega), hM, show (8 : Int32) = nI 8 from rfl, pk_mul, nI_add, hb]
  intro d
  induction d with
  | zero =>
    intro j hs gs hj hh hg
    obtain rfl : j = c := by omega
    refine ⟨i30, br_t (by rw [eM]; exact nI_le (Nat.le_refl _) (by omega)) ?_⟩
    have h' := h hs gs hh
    refine br_c (fun a => br_c (fun e => ?_) (fun e => ?_)) (fun a => ?_)
    · rw [(bo_e _).mp a, (bo_e _).mp e] at h'; exact h'
    · cases t : rd_tw a_letters a_values b j
      · rw [t] at e; exact absurd rfl e
      · rw [(bo_e _).mp a, t] at h'; exact h'
    · cases t : rd_no a_letters a_values b j
      · rw [t] at a; exact absurd rfl a
      · rw [t] at h'; exact h'
  | succ d ih =>
    intro j hs gs hj hh hg
    have hin : vp_in (nI (b + j)) 240 := vp_in_nI (by omega) (by omega)
    refine ⟨i30, br_f (by rw [eM]; exact nI_ge (by omega) (by omega)) ⟨hin, ?_⟩⟩
    rw [nI_clamp (show b + j < 2 ^ 31 by omega)]
    refine nm_e ⟨hin, nm_e ?_⟩
    obtain ⟨k, k1, k2, k3⟩ := rd_let (hL (b + j))
    have r := fun hs' gs' => ih (j + 1) hs' gs' (by omega)
    rw [rd_no, rd_tw, rd_sp, rd_fo, rd_wd] at r
    by_cases c0 : a_letters (b + j) = 0
    · refine br_t c0 (yl_gr (yl_113 (by rw [if_pos c0]) ?_))
      have n8 : ¬ a_letters (b + j) = 8 := by rw [c0]; decide
      have eh : rd_hs a_letters b (j + 1) = rd_hs a_letters b j := by rw [rd_hs, if_pos c0]
      rw [if_pos c0, if_neg n8, if_pos c0] at r
      unfold wY_readWords_181
      rw [bo_or]
      refine nm_e (br_t c0 (br_c (fun e => ?_) (fun e => ?_)))
      · have ng : ¬ 0 ≤ pl_gr (a_values (b + j)) := fun z => Int32.not_lt.mpr z e
        rw [decide_eq_false ng, Bool.false_and, Bool.or_false, if_neg (fun z => ng z.2)] at r
        unfold wY_readWords_220
        refine br_t c0 (nm_r (nI_1 (b + j)) (r hs gs ?_ ?_))
        · rw [eh]; exact hh
        · rw [rd_gs, if_neg (fun z => ng z.2)]; exact hg
      · have ng : 0 ≤ pl_gr (a_values (b + j)) := Int32.not_lt.mp e
        have hcg : a_letters (b + j) = 0 ∧ 0 ≤ pl_gr (a_values (b + j)) := ⟨c0, ng⟩
        obtain ⟨g, g6, eg, ec, _⟩ := fc_grI _ ng
        rw [decide_eq_true ng, Bool.true_and, if_pos hcg, ec] at r
        rw [eg, nI_clamp (show g < 2 ^ 31 by omega), hg g g6, bo_or, bo_n1]
        refine ⟨vp_in_nI g6 (by omega), nm_e ⟨vp_in_nI g6 (by omega), nm_e ⟨vp_in_nI g6 (by omega), nm_e ?_⟩⟩⟩
        unfold wY_readWords_220
        refine br_t c0 (nm_r (nI_1 (b + j)) (r hs (upd gs g (bo_I true)) ?_ ?_))
        · rw [eh]; exact hh
        · intro i hi
          rw [rd_gs, if_pos hcg, ec]
          by_cases e : i = g
          · subst e; rw [pk_us, if_pos rfl]
          · rw [pk_un e, hg i hi, if_neg e]
    · refine br_f c0 (yl_113 (by rw [if_neg c0]) ?_)
      rw [if_neg c0, if_neg c0, if_neg (show ¬ (a_letters (b + j) = 0 ∧ 0 ≤ pl_gr (a_values (b + j))) from fun z => c0 z.1), k3] at r
      unfold wY_readWords_181
      rw [bo_or]
      refine nm_e (br_f c0 ?_)
      unfold wY_readWords_220
      refine br_f c0 ?_
      rw [k3, hh k k1, bo_or, bo_n1]
      have ik : vp_in (a_letters (b + j)) 10 := by rw [k2]; exact vp_in_nI k1 (by omega)
      have r' := r (upd hs k (bo_I true)) gs (by
        intro i hi
        rw [rd_hs, if_neg c0, k3]
        by_cases e : i = k
        · subst e; rw [pk_us, if_pos rfl]
        · rw [pk_un e, hh i hi, if_neg e]) (by rw [rd_gs, if_neg (fun z => c0 z.1)]; exact hg)
      refine ⟨ik, nm_e ⟨ik, nm_e ⟨ik, nm_e (br_c (fun e => nm_r (nI_1 (b + j)) ?_) (fun e => nm_r (nI_1 (b + j)) ?_))⟩⟩⟩
      · rw [if_pos e] at r'; exact r'
      · rw [if_neg e] at r'; exact r'
theorem yl_31 {post : Int32 → SY → Prop} {n : Nat}
    (h : ∀ gs, (∀ g, g < 6 → gs g = bo_I false) → ∃ m, wY_readWords_65 post (nI n) f_lines f_fastest f_gain f_bend f_ahead f_seen f_state f_line f_pace f_left f_went f_allSteps f_allTicks f_u f_v f_holds m 0 0 (8 * nI n) f_speed a_letters a_values a_many a_tool a_began a_limit a_trips (upd a_force 5 (-1)) a_origins a_here a_has gs a_word a_from a_to a_steps a_paces a_dwells a_ends a_turn a_first a_second a_centre a_direction) :
    ∀ d j gs, j + d = 6 → (∀ g, g < j → gs g = bo_I false) → wY_readWords_31 post (nI n) 0 0 f_lines f_fastest f_gain f_bend f_ahead f_speed f_seen f_state f_line f_pace f_left f_went f_allSteps f_allTicks f_u f_v f_holds (d + 1) (nI j) a_letters a_values a_many a_tool a_began a_limit a_trips a_force a_origins a_here a_has gs a_word a_from a_to a_steps a_paces a_dwells a_ends a_turn a_first a_second a_centre a_direction := by
  intro d
  induction d with
  | zero =>
    intro j gs hj hg
    obtain rfl : j = 6 := by omega
    exact br_t (nI_le (a := 6) (Nat.le_refl _) (by decide)) (nm_e (nm_e (h gs hg)))
  | succ d ih =>
    intro j gs hj hg
    refine br_f (nI_ge (b := 6) (by omega) (by decide)) ⟨vp_in_nI (by omega) (by omega), ?_⟩
    rw [nI_clamp (by omega), bo_n0]
    refine nm_e (nm_r (nI_1 j) (ih (j + 1) _ (by omega) (fun g hg' => ?_)))
    by_cases e : g = j
    · subst e; exact pk_us
    · rw [pk_un e]; exact hg g (by omega)
theorem yl_7 {post : Int32 → SY → Prop} {n : Nat}
    (h : ∀ hs, (∀ g, g < 10 → hs g = bo_I false) → ∃ m, wY_readWords_31 post (nI n) 0 0 f_lines f_fastest f_gain f_bend f_ahead f_speed f_seen f_state f_line f_pace f_left f_went f_allSteps f_allTicks f_u f_v f_holds m 0 a_letters a_values a_many a_tool a_began a_limit a_trips a_force a_origins a_here hs a_grouped a_word a_from a_to a_steps a_paces a_dwells a_ends a_turn a_first a_second a_centre a_direction) :
    ∀ d j hs, j + d = 10 → (∀ g, g < j → hs g = bo_I false) → wY_readWords_7 post (nI n) 0 0 f_lines f_fastest f_gain f_bend f_ahead f_speed f_seen f_state f_line f_pace f_left f_went f_allSteps f_allTicks f_u f_v f_holds (d + 1) (nI j) a_letters a_values a_many a_tool a_began a_limit a_trips a_force a_origins a_here hs a_grouped a_word a_from a_to a_steps a_paces a_dwells a_ends a_turn a_first a_second a_centre a_direction := by
  intro d
  induction d with
  | zero =>
    intro j hs hj hg
    obtain rfl : j = 10 := by omega
    exact br_t (nI_le (a := 10) (Nat.le_refl _) (by decide)) (h hs hg)
  | succ d ih =>
    intro j hs hj hg
    refine br_f (nI_ge (b := 10) (by omega) (by decide)) ⟨vp_in_nI (by omega) (by omega), ?_⟩
    rw [nI_clamp (by omega), bo_n0]
    refine nm_e (nm_r (nI_1 j) (ih (j + 1) _ (by omega) (fun g hg' => ?_)))
    by_cases e : g = j
    · subst e; exact pk_us
    · rw [pk_un e]; exact hg g (by omega)
/-- the words of line n -/
theorem yl_rw {post : Int32 → SY → Prop} {n c : Nat} (hn : n < 30) (hc : c ≤ 8) (hM : a_many n = nI c) (hL : ∀ k, 0 ≤ (a_letters k).toInt ∧ (a_letters k).toInt ≤ 9)
    (h : ∀ hs gs, (∀ i, i < 10 → hs i = bo_I (rd_hs a_letters (8 * n) c i)) →
      post (if rd_no a_letters a_values (8 * n) c = true then 1 else if rd_tw a_letters a_values (8 * n) c = true then 2 else 0)
        (f_lines, f_fastest, f_gain, f_bend, f_ahead, (rd_sp a_letters a_values f_speed (8 * n) c), f_seen, f_state, f_line, f_pace, f_left, f_went, f_allSteps, f_allTicks, f_u, f_v, f_holds, a_letters, a_values, a_many, a_tool, a_began, a_limit, a_trips, (rd_fo a_letters a_values a_force (8 * n) c), a_origins, a_here, hs, gs, (rd_wd a_letters a_values a_word (8 * n) c), a_from, a_to, a_steps, a_paces, a_dwells, a_ends, a_turn, a_first, a_second, a_centre, a_direction)) :
    wpY_readWords post (f_lines, f_fastest, f_gain, f_bend, f_ahead, f_speed, f_seen, f_state, f_line, f_pace, f_left, f_went, f_allSteps, f_allTicks, f_u, f_v, f_holds, a_letters, a_values, a_many, a_tool, a_began, a_limit, a_trips, a_force, a_origins, a_here, a_has, a_grouped, a_word, a_from, a_to, a_steps, a_paces, a_dwells, a_ends, a_turn, a_first, a_second, a_centre, a_direction) (nI n) := by
  refine ⟨11, yl_7 (fun hs hh => ⟨7, yl_31 (fun gs hg => ⟨c + 1, ?_⟩) 6 0 a_grouped (by omega) (fun g hg => absurd hg (by omega))⟩) 10 0 a_has (by omega) (fun g hg => absurd hg (by omega))⟩
  rw [show (8 : Int32) = nI 8 from rfl, pk_mul]
  exact yl_65 hn rfl (by omega) hM hL a_force a_word f_speed h c 0 hs gs (by omega) (fun i hi => hh i hi) (fun g hg' => hg g hg')
end
end YRD
