section XLY
theorem pl_toh {F : Nat → Int32} {H : Nat → Bool} {W og he he' : Nat → Int32} {a : Nat} (h : he a = he' a) : pl_to F H W og he a = pl_to F H W og he' a := by
  unfold pl_to; rw [h]
theorem pl_toW {F : Nat → Int32} {H : Nat → Bool} {W W' og he : Nat → Int32} {a : Nat} (h : H (2 + a) = true → W (2 + a) = W' (2 + a)) : pl_to F H W og he a = pl_to F H W' og he a := by
  unfold pl_to
  cases e : H (2 + a)
  · rfl
  · rw [h e]
theorem pl_o1h {F : Nat → Int32} {H : Nat → Bool} {W he he' og : Nat → Int32} {a : Nat} (h : he a = he' a) : pl_o1 F H W he a og = pl_o1 F H W he' a og := by
  unfold pl_o1; rw [h]
theorem pl_o1W {F : Nat → Int32} {H : Nat → Bool} {W W' he og : Nat → Int32} {a : Nat} (h : H (2 + a) = true → W (2 + a) = W' (2 + a)) : pl_o1 F H W he a og = pl_o1 F H W' he a og := by
  unfold pl_o1
  cases e : H (2 + a)
  · rfl
  · rw [h e]
theorem pl_ogh {F : Nat → Int32} {H : Nat → Bool} {W he he' og : Nat → Int32} (h : ∀ a, a < 3 → he a = he' a) : pl_og F H W og he = pl_og F H W og he' := by
  unfold pl_og
  rw [pl_o1h (h 0 (by decide)), pl_o1h (h 1 (by decide)), pl_o1h (h 2 (by decide))]
theorem pl_ogW {F : Nat → Int32} {H : Nat → Bool} {W W' he og : Nat → Int32} (h : ∀ i, i < 10 → H i = true → W i = W' i) : pl_og F H W og he = pl_og F H W' og he := by
  unfold pl_og
  rw [pl_o1W (a := 0) (h 2 (by decide)), pl_o1W (a := 1) (h 3 (by decide)), pl_o1W (a := 2) (h 4 (by decide))]
theorem pl_ogn {F : Nat → Int32} {H : Nat → Bool} {W he og : Nat → Int32} (h : ¬ F 5 = 92) : pl_og F H W og he = og := by
  unfold pl_og pl_o1
  rw [if_neg (fun z => h z.2), if_neg (fun z => h z.2), if_neg (fun z => h z.2)]
section
variable {f_lines f_fastest f_gain f_bend f_ahead f_mode f_holds f_pace f_line f_gone f_dwellLeft f_stepsInAll f_ticksInAll f_speed f_present f_laid : Int32} {a_wordCounts a_letters a_values a_limits a_switches a_tool a_inForce a_origins a_given a_rows a_probe a_motions a_thirds a_centres a_steps a_paces a_dwells a_marks a_nexts a_joints : Nat → Int32}
theorem xl_136 {post : Int32 → SX → Prop} {H : Nat → Bool} {x2 : Int32} {n a f : Nat} (hn : n < 30) (ha : a < 3) (hF : fc_FW a_inForce) (hH : ∀ i, i < 10 → bt f_present i = H i)
    (h : wX_layLine_136 post (nI n) x2 f_lines f_fastest f_gain f_bend f_ahead f_mode f_holds f_pace f_line f_gone f_dwellLeft f_stepsInAll f_ticksInAll f_speed f_present f_laid f (nI (a + 1)) a_wordCounts a_letters a_values a_limits a_switches a_tool a_inForce a_origins a_given (upd a_rows (3 * (n + 1) + a) (pl_to a_inForce H a_given a_origins (fun a => a_rows (3 * n + a)) a)) a_probe a_motions a_thirds a_centres a_steps a_paces a_dwells a_marks a_nexts a_joints) :
    wX_layLine_136 post (nI n) x2 f_lines f_fastest f_gain f_bend f_ahead f_mode f_holds f_pace f_line f_gone f_dwellLeft f_stepsInAll f_ticksInAll f_speed f_present f_laid (f + 1) (nI a) a_wordCounts a_letters a_values a_limits a_switches a_tool a_inForce a_origins a_given a_rows a_probe a_motions a_thirds a_centres a_steps a_paces a_dwells a_marks a_nexts a_joints := by
  refine br_f (ix_3a ha) (xl_go hn ha hF hH ?_)
  rw [ix_3s, nI_clamp (show 3 * (n + 1) + a < 2 ^ 31 by omega)]
  exact ⟨vp_in_nI (by omega) (by omega), nm_e (nm_r (nI_1 a) h)⟩
theorem xl_l1 {post : Int32 → SX → Prop} {H : Nat → Bool} {n : Nat} (hn : n < 30) (hF : fc_FW a_inForce) (hH : ∀ i, i < 10 → bt f_present i = H i)
    (h : wX_layLine_176 post (nI n) f_lines f_fastest f_gain f_bend f_ahead f_mode f_holds f_pace f_line f_gone f_dwellLeft f_stepsInAll f_ticksInAll f_speed f_present f_laid a_wordCounts a_letters a_values a_limits a_switches a_tool a_inForce (pl_og a_inForce H a_given a_origins (fun a => a_rows (3 * n + a))) a_given (upd (upd (upd a_rows (3 * (n + 1) + 0) (pl_to a_inForce H a_given a_origins (fun a => a_rows (3 * n + a)) 0)) (3 * (n + 1) + 1) (pl_to a_inForce H a_given a_origins (fun a => a_rows (3 * n + a)) 1)) (3 * (n + 1) + 2) (pl_to a_inForce H a_given a_origins (fun a => a_rows (3 * n + a)) 2)) a_probe (upd a_motions n (if a_inForce 5 = 28 then 0 else a_inForce 0)) (upd a_thirds n (nI (pl_ft a_inForce))) a_centres (upd a_steps n 0) (upd a_paces n (pl_pc a_inForce f_speed f_fastest)) (upd a_dwells n (pl_dw a_inForce a_given)) (upd a_marks n (if H 1 = true then a_given 1 else -1)) a_nexts a_joints) :
    wpX_layLine post (f_lines, f_fastest, f_gain, f_bend, f_ahead, f_mode, f_holds, f_pace, f_line, f_gone, f_dwellLeft, f_stepsInAll, f_ticksInAll, f_speed, f_present, f_laid, a_wordCounts, a_letters, a_values, a_limits, a_switches, a_tool, a_inForce, a_origins, a_given, a_rows, a_probe, a_motions, a_thirds, a_centres, a_steps, a_paces, a_dwells, a_marks, a_nexts, a_joints) (nI n) := by
  have i30 : vp_in (nI n) 30 := vp_in_nI hn (by omega)
  have cl : (nI n).toNatClampNeg = n := nI_clamp (by omega)
  have g126 : ∀ mk, mk = (if H 1 = true then a_given 1 else -1) → wX_layLine_126 post (nI n) (a_inForce 5) mk (nI n) f_lines f_fastest f_gain f_bend f_ahead f_mode f_holds f_pace f_line f_gone f_dwellLeft f_stepsInAll f_ticksInAll f_speed f_present f_laid a_wordCounts a_letters a_values a_limits a_switches a_tool a_inForce a_origins a_given a_rows a_probe (upd a_motions n (if a_inForce 5 = 28 then 0 else a_inForce 0)) (upd a_thirds n (nI (pl_ft a_inForce))) a_centres a_steps (upd a_paces n (pl_pc a_inForce f_speed f_fastest)) (upd a_dwells n (pl_dw a_inForce a_given)) a_marks a_nexts a_joints := by
    intro mk emk
    subst emk
    unfold wX_layLine_126
    rw [cl]
    refine ⟨i30, nm_e ⟨i30, nm_e ⟨4, ?_⟩⟩⟩
    refine xl_136 (a := 0) hn (by decide) hF hH (xl_136 (a := 1) hn (by decide) hF hH (xl_136 (a := 2) hn (by decide) hF hH ?_))
    have t1 : pl_to a_inForce H a_given a_origins (fun a => upd a_rows (3 * (n + 1) + 0) (pl_to a_inForce H a_given a_origins (fun a => a_rows (3 * n + a)) 0) (3 * n + a)) 1 = pl_to a_inForce H a_given a_origins (fun a => a_rows (3 * n + a)) 1 :=
      pl_toh (pk_un (by omega))
    rw [t1]
    have t2 : pl_to a_inForce H a_given a_origins (fun a => upd (upd a_rows (3 * (n + 1) + 0) (pl_to a_inForce H a_given a_origins (fun a => a_rows (3 * n + a)) 0)) (3 * (n + 1) + 1) (pl_to a_inForce H a_given a_origins (fun a => a_rows (3 * n + a)) 1) (3 * n + a)) 2 = pl_to a_inForce H a_given a_origins (fun a => a_rows (3 * n + a)) 2 :=
      pl_toh ((pk_un (by omega)).trans (pk_un (by omega)))
    rw [t2]
    refine br_t ix_33 (br_c (fun c => xl_so hn hF c hH ?_) (fun c => ?_))
    · have e : pl_og a_inForce H a_given a_origins (fun a => upd (upd (upd a_rows (3 * (n + 1) + 0) (pl_to a_inForce H a_given a_origins (fun a => a_rows (3 * n + a)) 0)) (3 * (n + 1) + 1) (pl_to a_inForce H a_given a_origins (fun a => a_rows (3 * n + a)) 1)) (3 * (n + 1) + 2) (pl_to a_inForce H a_given a_origins (fun a => a_rows (3 * n + a)) 2) (3 * n + a)) = pl_og a_inForce H a_given a_origins (fun a => a_rows (3 * n + a)) :=
        pl_ogh (fun a ha => (pk_un (by omega)).trans ((pk_un (by omega)).trans (pk_un (by omega))))
      rw [e]
      exact h
    · rw [pl_ogn c] at h
      exact h
  have g102 : ∀ dw, dw = pl_dw a_inForce a_given → wX_layLine_102 post (nI n) (a_inForce 5) dw (nI n) f_lines f_fastest f_gain f_bend f_ahead f_mode f_holds f_pace f_line f_gone f_dwellLeft f_stepsInAll f_ticksInAll f_speed f_present f_laid a_wordCounts a_letters a_values a_limits a_switches a_tool a_inForce a_origins a_given a_rows a_probe (upd a_motions n (if a_inForce 5 = 28 then 0 else a_inForce 0)) (upd a_thirds n (nI (pl_ft a_inForce))) a_centres a_steps (upd a_paces n (pl_pc a_inForce f_speed f_fastest)) a_dwells a_marks a_nexts a_joints := by
    intro dw e
    subst e
    unfold wX_layLine_102
    rw [cl]
    refine ⟨i30, nm_e (xl_has 1 (by decide) (by decide) ?_)⟩
    rw [hH 1 (by decide)]
    cases e : H 1
    · exact br_t rfl (g126 _ (by rw [e]; rfl))
    · exact br_f bo_ne (g126 _ (by rw [e]; rfl))
  have g80 : ∀ pc, pc = pl_pc a_inForce f_speed f_fastest → wX_layLine_80 post (nI n) (a_inForce 5) pc (nI n) f_lines f_fastest f_gain f_bend f_ahead f_mode f_holds f_pace f_line f_gone f_dwellLeft f_stepsInAll f_ticksInAll f_speed f_present f_laid a_wordCounts a_letters a_values a_limits a_switches a_tool a_inForce a_origins a_given a_rows a_probe (upd a_motions n (if a_inForce 5 = 28 then 0 else a_inForce 0)) (upd a_thirds n (nI (pl_ft a_inForce))) a_centres a_steps a_paces a_dwells a_marks a_nexts a_joints := by
    intro pc e
    subst e
    unfold wX_layLine_80
    rw [cl]
    refine ⟨i30, nm_e (br_c (fun c => g102 _ ?_) (fun c => g102 _ ?_))⟩
    · unfold pl_dw; rw [if_pos c]
    · unfold pl_dw; rw [if_neg c]
  have g28 : ∀ mo, mo = (if a_inForce 5 = 28 then 0 else a_inForce 0) → wX_layLine_28 post (nI n) (a_inForce 5) mo (nI n) f_lines f_fastest f_gain f_bend f_ahead f_mode f_holds f_pace f_line f_gone f_dwellLeft f_stepsInAll f_ticksInAll f_speed f_present f_laid a_wordCounts a_letters a_values a_limits a_switches a_tool a_inForce a_origins a_given a_rows a_probe a_motions a_thirds a_centres a_steps a_paces a_dwells a_marks a_nexts a_joints := by
    intro mo e
    subst e
    unfold wX_layLine_28
    rw [cl, (fv_ft hF).1]
    refine ⟨i30, nm_e ⟨i30, nm_e ⟨i30, ?_⟩⟩⟩
    rw [pk_us]
    have p1 : a_inForce 5 = 28 ∨ a_inForce 0 = 0 ∨ f_fastest < f_speed → f_fastest = pl_pc a_inForce f_speed f_fastest := by
      intro z; unfold pl_pc; rw [if_pos z]
    refine br_c (fun c => ?_) (fun c => br_c (fun d => g80 _ ?_) (fun d => ?_))
    · unfold wX_layLine_69
      refine g80 _ (p1 ?_)
      by_cases z : a_inForce 5 = 28
      · exact Or.inl z
      · rw [if_neg z] at c; exact Or.inr (Or.inl c)
    · unfold pl_pc
      rw [if_neg]
      rintro (z | z | z)
      · rw [if_pos z] at c; exact c rfl
      · by_cases y : a_inForce 5 = 28
        · rw [if_pos y] at c; exact c rfl
        · rw [if_neg y] at c; exact c z
      · exact Int32.not_lt.mpr d z
    · unfold wX_layLine_69
      exact g80 _ (p1 (Or.inr (Or.inr (Int32.not_le.mp d))))
  unfold wpX_layLine
  refine nm_e (br_c (fun c => g28 _ (by rw [if_pos c])) (fun c => g28 _ (by rw [if_neg c])))
theorem xl_l2 {post : Int32 → SX → Prop} {H : Nat → Bool} {n : Nat} {he to : Nat → Int32} {p q : Int} (hn : n < 30) (hF : fc_FW a_inForce) (hH : ∀ i, i < 10 → bt f_present i = H i)
    (hm : a_motions n = (if a_inForce 5 = 28 then 0 else a_inForce 0)) (ht : a_thirds n = nI (pl_ft a_inForce))
    (hhe : ∀ a, a < 3 → a_rows (3 * n + a) = he a) (hto : ∀ a, a < 3 → a_rows (3 * (n + 1) + a) = to a)
    (rhe : ∀ a, a < 3 → 0 ≤ (he a).toInt ∧ (he a).toInt ≤ (a_limits a).toInt) (rto : ∀ a, a < 3 → -100000 ≤ (to a).toInt ∧ (to a).toInt ≤ 100000) (hl : ∀ a, a < 3 → (a_limits a).toInt ≤ 1000)
    (h3 : H (2 + pl_ft a_inForce) = false → to (pl_ft a_inForce) = he (pl_ft a_inForce))
    (hp : pl_ij a_inForce H a_given (pl_fa a_inForce) = ii_I p) (hq : pl_ij a_inForce H a_given (pl_fb a_inForce) = ii_I q) (rp : -15000 ≤ p ∧ p ≤ 15000) (rq : -15000 ≤ q ∧ q ≤ 15000)
    (hs6 : pl_tu a_inForce H = 0 → sg_out a_limits to = true → post 6 (f_lines, f_fastest, f_gain, f_bend, f_ahead, f_mode, f_holds, f_pace, f_line, f_gone, f_dwellLeft, f_stepsInAll, f_ticksInAll, f_speed, f_present, f_laid, a_wordCounts, a_letters, a_values, a_limits, a_switches, a_tool, a_inForce, a_origins, a_given, a_rows, a_probe, a_motions, a_thirds, a_centres, a_steps, a_paces, a_dwells, a_marks, a_nexts, a_joints))
    (hs0 : pl_tu a_inForce H = 0 → sg_out a_limits to = false → post 0 (f_lines, f_fastest, f_gain, f_bend, f_ahead, f_mode, f_holds, f_pace, f_line, f_gone, f_dwellLeft, f_stepsInAll, f_ticksInAll, f_speed, f_present, f_laid, a_wordCounts, a_letters, a_values, a_limits, a_switches, a_tool, a_inForce, a_origins, a_given, a_rows, a_probe, a_motions, a_thirds, a_centres, (upd a_steps n (nI (sg_mx he to))), a_paces, a_dwells, a_marks, a_nexts, a_joints))
    (hr5 : ¬ pl_tu a_inForce H = 0 → ((H (5 + pl_fa a_inForce) = false ∧ H (5 + pl_fb a_inForce) = false ∨ H (2 + pl_ft a_inForce) = true ∨ H (5 + pl_ft a_inForce) = true) ∨ p * p + q * q = 0 ∨ 90000 < p * p + q * q ∨ ¬ ((to (pl_fa a_inForce)).toInt - (he (pl_fa a_inForce)).toInt - p) * ((to (pl_fa a_inForce)).toInt - (he (pl_fa a_inForce)).toInt - p) + ((to (pl_fb a_inForce)).toInt - (he (pl_fb a_inForce)).toInt - q) * ((to (pl_fb a_inForce)).toInt - (he (pl_fb a_inForce)).toInt - q) = p * p + q * q) → ∀ C, (∀ k, k < 2 * n → C k = a_centres k) → post 5 (f_lines, f_fastest, f_gain, f_bend, f_ahead, f_mode, f_holds, f_pace, f_line, f_gone, f_dwellLeft, f_stepsInAll, f_ticksInAll, f_speed, f_present, f_laid, a_wordCounts, a_letters, a_values, a_limits, a_switches, a_tool, a_inForce, a_origins, a_given, a_rows, a_probe, a_motions, a_thirds, C, a_steps, a_paces, a_dwells, a_marks, a_nexts, a_joints))
    (hr : ¬ pl_tu a_inForce H = 0 → ¬ ((H (5 + pl_fa a_inForce) = false ∧ H (5 + pl_fb a_inForce) = false ∨ H (2 + pl_ft a_inForce) = true ∨ H (5 + pl_ft a_inForce) = true) ∨ p * p + q * q = 0 ∨ 90000 < p * p + q * q ∨ ¬ ((to (pl_fa a_inForce)).toInt - (he (pl_fa a_inForce)).toInt - p) * ((to (pl_fa a_inForce)).toInt - (he (pl_fa a_inForce)).toInt - p) + ((to (pl_fb a_inForce)).toInt - (he (pl_fb a_inForce)).toInt - q) * ((to (pl_fb a_inForce)).toInt - (he (pl_fb a_inForce)).toInt - q) = p * p + q * q) →
      ∀ w, w = pl_wk (decide (pl_tu a_inForce H = 3)) (p * p + q * q) ((he (pl_fa a_inForce)).toInt + p) ((he (pl_fb a_inForce)).toInt + q) (a_limits (pl_fa a_inForce)).toInt (a_limits (pl_fb a_inForce)).toInt ((to (pl_fa a_inForce)).toInt - (he (pl_fa a_inForce)).toInt - p) ((to (pl_fb a_inForce)).toInt - (he (pl_fb a_inForce)).toInt - q) 3000 0 (-p) (-q) →
      (w.1 = 6 → ∀ C P, (∀ k, k < 2 * n → C k = a_centres k) → post 6 (f_lines, f_fastest, f_gain, f_bend, f_ahead, f_mode, f_holds, f_pace, f_line, f_gone, f_dwellLeft, f_stepsInAll, f_ticksInAll, f_speed, f_present, f_laid, a_wordCounts, a_letters, a_values, a_limits, a_switches, a_tool, a_inForce, a_origins, a_given, a_rows, P, a_motions, a_thirds, C, a_steps, a_paces, a_dwells, a_marks, a_nexts, a_joints)) ∧
      (w.1 = 0 → ∀ P, post 0 (f_lines, f_fastest, f_gain, f_bend, f_ahead, f_mode, f_holds, f_pace, f_line, f_gone, f_dwellLeft, f_stepsInAll, f_ticksInAll, f_speed, f_present, f_laid, a_wordCounts, a_letters, a_values, a_limits, a_switches, a_tool, a_inForce, a_origins, a_given, a_rows, P, a_motions, a_thirds, (upd (upd a_centres (2 * n) (ii_I ((he (pl_fa a_inForce)).toInt + p))) (2 * n + 1) (ii_I ((he (pl_fb a_inForce)).toInt + q))), (upd a_steps n (nI w.2)), a_paces, a_dwells, a_marks, a_nexts, a_joints))) :
    wX_layLine_176 post (nI n) f_lines f_fastest f_gain f_bend f_ahead f_mode f_holds f_pace f_line f_gone f_dwellLeft f_stepsInAll f_ticksInAll f_speed f_present f_laid a_wordCounts a_letters a_values a_limits a_switches a_tool a_inForce a_origins a_given a_rows a_probe a_motions a_thirds a_centres a_steps a_paces a_dwells a_marks a_nexts a_joints := by
  obtain ⟨_, hth, efa, efb⟩ := fv_ft hF
  have i30 : vp_in (nI n) 30 := vp_in_nI hn (by omega)
  have str : pl_tu a_inForce H = 0 → wX_layLine_198 post (nI n) 0 f_lines f_fastest f_gain f_bend f_ahead f_mode f_holds f_pace f_line f_gone f_dwellLeft f_stepsInAll f_ticksInAll f_speed f_present f_laid a_wordCounts a_letters a_values a_limits a_switches a_tool a_inForce a_origins a_given a_rows a_probe a_motions a_thirds a_centres a_steps a_paces a_dwells a_marks a_nexts a_joints := by
    intro t0
    unfold wX_layLine_198
    have ef : (fun a => a_rows (3 * n + a)) 0 = he 0 := hhe 0 (by decide)
    have so : sg_out a_limits (fun a => a_rows (3 * (n + 1) + a)) = sg_out a_limits to := by
      unfold sg_out sg_ou
      simp only [hto 0 (by decide), hto 1 (by decide), hto 2 (by decide)]
    have sm : sg_mx (fun a => a_rows (3 * n + a)) (fun a => a_rows (3 * (n + 1) + a)) = sg_mx he to := by
      unfold sg_mx sg_dd
      simp only [hto 0 (by decide), hto 1 (by decide), hto 2 (by decide), hhe 0 (by decide), hhe 1 (by decide), hhe 2 (by decide)]
    refine br_t rfl (xl_ls hn (fun a ha => ?_) hl (fun e => hs6 t0 (so.symm.trans e)) (fun e => ?_))
    · have := rhe a ha
      have := hl a ha
      rw [hhe a ha]; omega
    · rw [sm]; exact hs0 t0 (so.symm.trans e)
  unfold wX_layLine_176
  rw [nI_clamp (by omega), hm]
  refine ⟨i30, br_c (fun c => ?_) (fun c => xl_mv hF hH (br_c (fun d => ?_) (fun d => ?_)))⟩
  · unfold wX_layLine_197
    refine str ?_
    unfold pl_tu
    rw [if_neg]
    rintro ⟨z1, z2⟩
    by_cases y : a_inForce 5 = 28
    · have := (of_decide_eq_true z1).1
      rw [y] at this
      exact absurd this (by decide)
    · rw [if_neg y] at c; exact (fv_0r hF).mp z2 c
  · unfold wX_layLine_197
    refine str ?_
    unfold pl_tu
    rw [if_neg]
    rintro ⟨z1, z2⟩
    rw [z1] at d; exact absurd d (by decide)
  · have mv : pl_mv a_inForce H = true := by
      cases e : pl_mv a_inForce H
      · rw [e] at d; exact absurd rfl d
      · rfl
    have n28 : ¬ a_inForce 5 = 28 := by
      intro y
      have := (of_decide_eq_true mv).1
      rw [y] at this
      exact absurd this (by decide)
    rw [if_neg n28] at c hm
    have tu : pl_tu a_inForce H = a_inForce 0 := by
      unfold pl_tu; rw [if_pos ⟨mv, (fv_0r hF).mpr c⟩]
    have tn : ¬ pl_tu a_inForce H = 0 := by
      rw [tu]; intro z; rw [z] at c; exact c (by decide)
    have hr5' := hr5 tn
    have hr' := hr tn
    clear hr5 hr hs6 hs0
    rw [← efa] at hp
    rw [← efb] at hq
    rw [← efa, ← efb] at hr5' hr'
    generalize eth : pl_ft a_inForce = th at *
    have hfa : (th + 1) % 3 < 3 := Nat.mod_lt _ (by decide)
    have hfb : (th + 2) % 3 < 3 := Nat.mod_lt _ (by decide)
    have ra := rhe _ hfa
    have rb := rhe _ hfb
    have la := hl _ hfa
    have lb := hl _ hfb
    unfold wX_layLine_198
    refine br_f (by decide) (xl_pc (p := p) (q := q) (hA := (he ((th + 1) % 3)).toInt) (hB := (he ((th + 2) % 3)).toInt) (T := (to ((th + 1) % 3)).toInt) (U := (to ((th + 2) % 3)).toInt)
      hn hth ht hH hp hq rp rq ((hhe _ hfa).trans (ii_t _).symm) ((hhe _ hfb).trans (ii_t _).symm) (by omega) (by omega) ((hto _ hfa).trans (ii_t _).symm) ((hto _ hfb).trans (ii_t _).symm) (rto _ hfa) (rto _ hfb) (fun b C hC => ?_) (fun b => ?_))
    · exact br_t rfl (hr5' b C hC)
    · obtain ⟨g6, g0⟩ := hr' b _ rfl
      have b1 : ¬ (H (2 + th) = true) := fun z => b (Or.inl (Or.inr (Or.inl z)))
      have b2 : ¬ p * p + q * q = 0 := fun z => b (Or.inr (Or.inl z))
      have b3 : ¬ 90000 < p * p + q * q := fun z => b (Or.inr (Or.inr (Or.inl z)))
      have b4 : ((to ((th + 1) % 3)).toInt - (he ((th + 1) % 3)).toInt - p) * ((to ((th + 1) % 3)).toInt - (he ((th + 1) % 3)).toInt - p) + ((to ((th + 2) % 3)).toInt - (he ((th + 2) % 3)).toInt - q) * ((to ((th + 2) % 3)).toInt - (he ((th + 2) % 3)).toInt - q) = p * p + q * q :=
        Decidable.byContradiction (fun z => b (Or.inr (Or.inr (Or.inr z))))
      have q1 := wk_sqb (B := 15000) rp
      have q2 := wk_sqb (B := 15000) rq
      have p3 : -300 ≤ p ∧ p ≤ 300 := by
        have a1 := wk_sl (x := p) (y := 301) (by omega) (by omega)
        have a2 := wk_sl (x := -p) (y := 301) (by omega) (by rw [Int.neg_mul_neg]; omega)
        omega
      have q3 : -300 ≤ q ∧ q ≤ 300 := by
        have a1 := wk_sl (x := q) (y := 301) (by omega) (by omega)
        have a2 := wk_sl (x := -q) (y := 301) (by omega) (by rw [Int.neg_mul_neg]; omega)
        omega
      have b1' : H (2 + th) = false := by
        cases e : H (2 + th)
        · rfl
        · exact absurd e b1
      have t3 := h3 b1'
      refine br_f (by decide) (xw_2 hn (fun P hP => ⟨3001, ?_⟩))
      have hc1 : upd (upd a_centres (2 * n) (ii_I ((he ((th + 1) % 3)).toInt + p))) (2 * n + 1) (ii_I ((he ((th + 2) % 3)).toInt + q)) (2 * n) = ii_I ((he ((th + 1) % 3)).toInt + p) := by
        rw [pk_un (by omega), pk_us]
      have rz := rhe th hth
      refine xw_31 (on := decide (pl_tu a_inForce H = 3)) (p := p) (q := q) (c := (he ((th + 1) % 3)).toInt + p) (d := (he ((th + 2) % 3)).toInt + q)
        (x := (to ((th + 1) % 3)).toInt - (he ((th + 1) % 3)).toInt - p) (y := (to ((th + 2) % 3)).toInt - (he ((th + 2) % 3)).toInt - q) (z := (he th).toInt)
        hn hth ht (by rw [tu, hm, decide_eq_true_iff]) hc1 pk_us ?_ ?_ (by omega) (by omega) (by omega) hl ?_ ?_ ?_ ?_ rz ?_ 3000 0 (-p) (-q) P ?_ ?_ ?_ (by omega) (by omega) (by omega) ?_ (fun e P' => g6 e _ P' (fun k hk => (pk_un (by omega)).trans (pk_un (by omega)))) g0 3001 (by omega)
      · rw [hhe _ hfa, Int.add_sub_cancel, ii_t]
      · rw [hhe _ hfb, Int.add_sub_cancel, ii_t]
      · have := ii_R32 (to ((th + 1) % 3)); unfold ii_R at this ⊢; omega
      · have := ii_R32 (to ((th + 2) % 3)); unfold ii_R at this ⊢; omega
      · rw [hto _ hfa, ← ii_t (to ((th + 1) % 3))]
        congr 1
        rw [ii_t]; omega
      · rw [hto _ hfb, ← ii_t (to ((th + 2) % 3))]
        congr 1
        rw [ii_t]; omega
      · rw [hto th hth, t3, ii_t]
      · rw [hP _ hfa, hhe _ hfa, ← ii_t (he ((th + 1) % 3))]
        congr 1
        rw [ii_t]; omega
      · rw [hP _ hfb, hhe _ hfb, ← ii_t (he ((th + 2) % 3))]
        congr 1
        rw [ii_t]; omega
      · rw [hP th hth, hhe th hth, ii_t]
      · exact wk_all _ (by omega) (by omega) (by rw [Int.neg_mul_neg, Int.neg_mul_neg]) b4
end
end XLY
