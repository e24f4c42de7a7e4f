section XLN
/-! indices -/
theorem ix_3 (n a : Nat) : nI n * 3 + nI a = nI (3 * n + a) := by rw [show (3 : Int32) = nI 3 from rfl, pk_mul, nI_add, Nat.mul_comm]
theorem ix_3s (n a : Nat) : (nI n + 1) * 3 + nI a = nI (3 * (n + 1) + a) := by rw [nI_1, ix_3]
theorem ix_y3 (n a : Nat) : 3 * nI n + nI a = nI (3 * n + a) := by rw [show (3 : Int32) = nI 3 from rfl, pk_mul, nI_add]
theorem ix_2 (n : Nat) : nI n * 2 = nI (2 * n) := by rw [show (2 : Int32) = nI 2 from rfl, pk_mul, Nat.mul_comm]
theorem ix_21 (n : Nat) : nI n * 2 + 1 = nI (2 * n + 1) := by rw [ix_2, nI_1]
theorem ix_y2 (n : Nat) : 2 * nI n = nI (2 * n) := by rw [show (2 : Int32) = nI 2 from rfl, pk_mul]
theorem ix_y21 (n : Nat) : 2 * nI n + 1 = nI (2 * n + 1) := by rw [ix_y2, nI_1]
theorem ix_p2 (a : Nat) : 2 + nI a = nI (2 + a) := nI_add 2 a
theorem ix_p5 (a : Nat) : 5 + nI a = nI (5 + a) := nI_add 5 a
theorem ix_oi {F : Nat → Int32} (hF : fc_FW F) (a : Nat) : (F 4 - 54) * 3 + nI a = nI (pl_oi F a) := by
  unfold pl_oi
  rcases fv_4 hF with e | e
  · rw [if_pos e, e, show ((54 : Int32) - 54) * 3 = 0 from by decide, Int32.zero_add]
  · rw [if_neg (by rw [e]; decide), e, show ((55 : Int32) - 54) * 3 = nI 3 from by decide, nI_add]
theorem ix_oy {F : Nat → Int32} (hF : fc_FW F) (a : Nat) : 3 * (F 4 - 54) + nI a = nI (pl_oi F a) := by
  rw [Int32.mul_comm, ix_oi hF]
theorem ix_ol (F : Nat → Int32) {a : Nat} (h : a < 3) : pl_oi F a < 6 := by
  unfold pl_oi; split <;> omega
theorem ix_3a {a : Nat} (h : a < 3) : ¬ (3 : Int32) ≤ nI a := nI_ge (b := 3) h (by decide)
theorem ix_33 : (3 : Int32) ≤ nI 3 := nI_le (a := 3) (Nat.le_refl 3) (by decide)
section
variable {f_lines f_fastest f_gain f_bend f_ahead f_mode f_holds f_pace f_line f_gone f_dwellLeft f_stepsInAll f_ticksInAll f_speed f_present f_laid : Int32} {a_wordCounts a_letters a_values a_limits a_switches a_tool a_inForce a_origins a_given a_rows a_probe a_motions a_thirds a_centres a_steps a_paces a_dwells a_marks a_nexts a_joints : Nat → Int32}
theorem xl_co {post : Int32 → Prop} {p : Int32} (l : Nat) (hl : l < 10) (hp : p = nI l) (h : post (if bt f_present l = true then a_given l * pl_sc a_inForce else 0)) : wpX_coordinate post (f_lines, f_fastest, f_gain, f_bend, f_ahead, f_mode, f_holds, f_pace, f_line, f_gone, f_dwellLeft, f_stepsInAll, f_ticksInAll, f_speed, f_present, f_laid, a_wordCounts, a_letters, a_values, a_limits, a_switches, a_tool, a_inForce, a_origins, a_given, a_rows, a_probe, a_motions, a_thirds, a_centres, a_steps, a_paces, a_dwells, a_marks, a_nexts, a_joints) p := by
  subst hp
  unfold wpX_coordinate
  refine xl_has l (by omega) rfl ?_
  cases e : bt f_present l
  · rw [e] at h; exact br_t rfl h
  · rw [e, if_pos rfl] at h
    refine br_f bo_ne (br_c (fun a => ⟨vp_in_nI hl (by omega), ?_⟩) (fun a => ⟨vp_in_nI hl (by omega), ?_⟩))
    · rw [nI_clamp (by omega), Int32.mul_comm]
      unfold pl_sc at h
      rw [if_pos a] at h
      exact h
    · rw [nI_clamp (by omega)]
      unfold pl_sc at h
      rw [if_neg a, Int32.mul_one] at h
      exact h
theorem xl_go {post : Int32 → Prop} {H : Nat → Bool} {n a : Nat} (hn : n < 30) (ha : a < 3) (hF : fc_FW a_inForce) (hH : ∀ i, i < 10 → bt f_present i = H i)
    (h : post (pl_to a_inForce H a_given a_origins (fun a => a_rows (3 * n + a)) a)) : wpX_goalOf post (f_lines, f_fastest, f_gain, f_bend, f_ahead, f_mode, f_holds, f_pace, f_line, f_gone, f_dwellLeft, f_stepsInAll, f_ticksInAll, f_speed, f_present, f_laid, a_wordCounts, a_letters, a_values, a_limits, a_switches, a_tool, a_inForce, a_origins, a_given, a_rows, a_probe, a_motions, a_thirds, a_centres, a_steps, a_paces, a_dwells, a_marks, a_nexts, a_joints) (nI n) (nI a) := by
  unfold wpX_goalOf
  rw [ix_3]
  refine ⟨vp_in_nI (by omega) (by omega), ?_⟩
  rw [nI_clamp (by omega)]
  refine nm_e (nm_e (xl_has (2 + a) (by omega) (ix_p2 a) ?_))
  rw [hH (2 + a) (by omega)]
  unfold pl_to at h
  cases e : H (2 + a)
  · rw [if_pos e] at h; exact br_t rfl h
  · rw [if_neg (by rw [e]; decide)] at h
    refine br_f bo_ne (br_c (fun c => ?_) (fun c => br_c (fun d => ?_) (fun d => xl_co (2 + a) (by omega) (ix_p2 a) ?_)))
    · rw [if_pos c] at h; exact h
    · rw [if_neg c, if_pos d] at h; exact h
    rw [if_neg c, if_neg d] at h
    rw [hH (2 + a) (by omega), if_pos e]
    refine br_c (fun g => ?_) (fun g => br_c (fun k => ?_) (fun k => ?_))
    · rw [if_pos g] at h; exact h
    · rw [if_neg g, if_neg (by rw [k]; decide)] at h; exact h
    · have k' : a_inForce 3 = 90 := (fv_3 hF).elim id (fun z => absurd z k)
      rw [if_neg g, if_pos k'] at h
      unfold wpX_originPlace
      show vp_in ((a_inForce 4 - 54) * 3 + nI a) 6 ∧ post (a_given (2 + a) * pl_sc a_inForce + a_origins ((a_inForce 4 - 54) * 3 + nI a).toNatClampNeg)
      rw [ix_oi hF, nI_clamp (by have := ix_ol a_inForce ha; omega)]
      exact ⟨vp_in_nI (ix_ol a_inForce ha) (by omega), h⟩
theorem xl_so1 {post : SX → Prop} {H : Nat → Bool} {n a f : Nat} (hn : n < 30) (ha : a < 3) (hF : fc_FW a_inForce) (h92 : a_inForce 5 = 92) (hH : ∀ i, i < 10 → bt f_present i = H i)
    (h : wX_shiftOrigin_2 post (nI n) f_lines f_fastest f_gain f_bend f_ahead f_mode f_holds f_pace f_line f_gone f_dwellLeft f_stepsInAll f_ticksInAll f_speed f_present f_laid f (nI (a + 1)) a_wordCounts a_letters a_values a_limits a_switches a_tool a_inForce (pl_o1 a_inForce H a_given (fun a => a_rows (3 * n + a)) a a_origins) a_given a_rows a_probe a_motions a_thirds a_centres a_steps a_paces a_dwells a_marks a_nexts a_joints) :
    wX_shiftOrigin_2 post (nI n) f_lines f_fastest f_gain f_bend f_ahead f_mode f_holds f_pace f_line f_gone f_dwellLeft f_stepsInAll f_ticksInAll f_speed f_present f_laid (f + 1) (nI a) a_wordCounts a_letters a_values a_limits a_switches a_tool a_inForce a_origins a_given a_rows a_probe a_motions a_thirds a_centres a_steps a_paces a_dwells a_marks a_nexts a_joints := by
  refine br_f (ix_3a ha) (xl_has (2 + a) (by omega) (ix_p2 a) ?_)
  rw [hH (2 + a) (by omega)]
  unfold pl_o1 at h
  cases e : H (2 + a)
  · rw [if_neg (by rw [e]; intro z; exact absurd z.1 (by decide))] at h
    exact br_t rfl (nm_r (nI_1 a) h)
  · rw [if_pos ⟨e, h92⟩] at h
    refine br_f bo_ne ?_
    unfold wpX_originPlace
    show vp_in (nI n * 3 + nI a) 93 ∧ _
    rw [ix_3, ix_oi hF, nI_clamp (show 3 * n + a < 2 ^ 31 by omega)]
    refine ⟨vp_in_nI (by omega) (by omega), xl_co (2 + a) (by omega) (ix_p2 a) ?_⟩
    rw [hH (2 + a) (by omega), if_pos e, nI_clamp (by have := ix_ol a_inForce ha; omega)]
    exact ⟨vp_in_nI (ix_ol a_inForce ha) (by omega), nm_e (nm_r (nI_1 a) h)⟩
theorem xl_so {post : SX → Prop} {H : Nat → Bool} {n : Nat} (hn : n < 30) (hF : fc_FW a_inForce) (h92 : a_inForce 5 = 92) (hH : ∀ i, i < 10 → bt f_present i = H i)
    (h : post (f_lines, f_fastest, f_gain, f_bend, f_ahead, f_mode, f_holds, f_pace, f_line, f_gone, f_dwellLeft, f_stepsInAll, f_ticksInAll, f_speed, f_present, f_laid, a_wordCounts, a_letters, a_values, a_limits, a_switches, a_tool, a_inForce, (pl_og a_inForce H a_given a_origins (fun a => a_rows (3 * n + a))), a_given, a_rows, a_probe, a_motions, a_thirds, a_centres, a_steps, a_paces, a_dwells, a_marks, a_nexts, a_joints)) : wpX_shiftOrigin post (f_lines, f_fastest, f_gain, f_bend, f_ahead, f_mode, f_holds, f_pace, f_line, f_gone, f_dwellLeft, f_stepsInAll, f_ticksInAll, f_speed, f_present, f_laid, a_wordCounts, a_letters, a_values, a_limits, a_switches, a_tool, a_inForce, a_origins, a_given, a_rows, a_probe, a_motions, a_thirds, a_centres, a_steps, a_paces, a_dwells, a_marks, a_nexts, a_joints) (nI n) := by
  refine ⟨4, ?_⟩
  refine xl_so1 (a := 0) hn (by decide) hF h92 hH (xl_so1 (a := 1) hn (by decide) hF h92 hH (xl_so1 (a := 2) hn (by decide) hF h92 hH ?_))
  exact br_t ix_33 h
theorem sg_abs {x y : Int32} (hx : 0 ≤ x.toInt ∧ x.toInt ≤ 1000) (hy : 0 ≤ y.toInt ∧ y.toInt ≤ 1000) :
    (x ≤ y → y - x = nI ((y.toInt - x.toInt).natAbs)) ∧ (¬ x ≤ y → x - y = nI ((y.toInt - x.toInt).natAbs)) := by
  have e : ∀ z w : Int32, (0 ≤ z.toInt ∧ z.toInt ≤ 1000) → (0 ≤ w.toInt ∧ w.toInt ≤ 1000) → z.toInt ≤ w.toInt → w - z = nI ((w.toInt - z.toInt).natAbs) := by
    intro z w _ _ h
    rw [ii_n, Int.natAbs_of_nonneg (by omega), ← ii_sub, ii_t, ii_t]
  constructor
  · intro h; exact e x y hx hy (fc_le.mp h)
  · intro h
    rw [e y x hy hx (by rw [fc_le] at h; omega)]
    congr 1
    omega
theorem xl_ls1 {post : Int32 → SX → Prop} {n a f m : Nat} (hn : n < 30) (ha : a < 3) (hm : m ≤ 1000) (hf : 0 ≤ (a_rows (3 * n + a)).toInt ∧ (a_rows (3 * n + a)).toInt ≤ 1000) (hl : (a_limits a).toInt ≤ 1000)
    (h6 : sg_ou a_limits (fun a => a_rows (3 * (n + 1) + a)) a = true → post 6 (f_lines, f_fastest, f_gain, f_bend, f_ahead, f_mode, f_holds, f_pace, f_line, f_gone, f_dwellLeft, f_stepsInAll, f_ticksInAll, f_speed, f_present, f_laid, a_wordCounts, a_letters, a_values, a_limits, a_switches, a_tool, a_inForce, a_origins, a_given, a_rows, a_probe, a_motions, a_thirds, a_centres, a_steps, a_paces, a_dwells, a_marks, a_nexts, a_joints))
    (h : sg_ou a_limits (fun a => a_rows (3 * (n + 1) + a)) a = false → wX_layStraight_4 post (nI n) f_lines f_fastest f_gain f_bend f_ahead f_mode f_holds f_pace f_line f_gone f_dwellLeft f_stepsInAll f_ticksInAll f_speed f_present f_laid a_wordCounts a_letters a_values a_limits a_switches a_tool a_inForce a_origins a_given a_rows a_probe a_motions a_thirds a_centres a_steps a_paces a_dwells a_marks a_nexts a_joints f (nI (max m (sg_dd (fun a => a_rows (3 * n + a)) (fun a => a_rows (3 * (n + 1) + a)) a))) (nI (a + 1))) :
    wX_layStraight_4 post (nI n) f_lines f_fastest f_gain f_bend f_ahead f_mode f_holds f_pace f_line f_gone f_dwellLeft f_stepsInAll f_ticksInAll f_speed f_present f_laid a_wordCounts a_letters a_values a_limits a_switches a_tool a_inForce a_origins a_given a_rows a_probe a_motions a_thirds a_centres a_steps a_paces a_dwells a_marks a_nexts a_joints (f + 1) (nI m) (nI a) := by
  refine br_f (ix_3a ha) ?_
  rw [ix_3, ix_3s, nI_clamp (show 3 * n + a < 2 ^ 31 by omega), nI_clamp (show 3 * (n + 1) + a < 2 ^ 31 by omega), nI_clamp (show a < 2 ^ 31 by omega)]
  refine ⟨vp_in_nI (by omega) (by omega), nm_e ⟨vp_in_nI (by omega) (by omega), nm_e ?_⟩⟩
  refine br_c (fun c => h6 ?_) (fun c => ⟨vp_in_nI ha (by decide), br_c (fun d => ?_) (fun d => h6 ?_)⟩)
  · rw [fc_lt, fc_0] at c
    exact decide_eq_true (Or.inl c)
  · have r : 0 ≤ (a_rows (3 * (n + 1) + a)).toInt ∧ (a_rows (3 * (n + 1) + a)).toInt ≤ 1000 := by
      rw [fc_lt, fc_0] at c
      rw [fc_le] at d
      omega
    have h' := h (decide_eq_false (by
      rw [fc_lt, fc_0] at c
      rw [fc_le] at d
      show ¬ ((a_rows (3 * (n + 1) + a)).toInt < 0 ∨ (a_limits a).toInt < (a_rows (3 * (n + 1) + a)).toInt)
      omega))
    have l74 : ∀ z, z = nI (sg_dd (fun a => a_rows (3 * n + a)) (fun a => a_rows (3 * (n + 1) + a)) a) → wX_layStraight_74 post (wX_layStraight_4 post (nI n) f_lines f_fastest f_gain f_bend f_ahead f_mode f_holds f_pace f_line f_gone f_dwellLeft f_stepsInAll f_ticksInAll f_speed f_present f_laid a_wordCounts a_letters a_values a_limits a_switches a_tool a_inForce a_origins a_given a_rows a_probe a_motions a_thirds a_centres a_steps a_paces a_dwells a_marks a_nexts a_joints f) (nI n) (nI m) (nI a) z f_lines f_fastest f_gain f_bend f_ahead f_mode f_holds f_pace f_line f_gone f_dwellLeft f_stepsInAll f_ticksInAll f_speed f_present f_laid a_wordCounts a_letters a_values a_limits a_switches a_tool a_inForce a_origins a_given a_rows a_probe a_motions a_thirds a_centres a_steps a_paces a_dwells a_marks a_nexts a_joints := by
      intro z ez
      subst ez
      have b : sg_dd (fun a => a_rows (3 * n + a)) (fun a => a_rows (3 * (n + 1) + a)) a ≤ 1000 := by
        unfold sg_dd
        show ((a_rows (3 * (n + 1) + a)).toInt - (a_rows (3 * n + a)).toInt).natAbs ≤ 1000
        omega
      unfold wX_layStraight_74
      refine br_c (fun g => nm_r (nI_1 a) ?_) (fun g => nm_r (nI_1 a) ?_)
      · rw [nI_leI (by omega) (by omega)] at g
        rw [Nat.max_eq_left g] at h'
        exact h'
      · rw [nI_leI (by omega) (by omega)] at g
        rw [Nat.max_eq_right (by omega)] at h'
        exact h'
    exact br_c (fun g => l74 _ ((sg_abs hf r).1 g)) (fun g => l74 _ ((sg_abs hf r).2 g))
  · rw [fc_le] at d
    exact decide_eq_true (Or.inr (by show (a_limits a).toInt < (a_rows (3 * (n + 1) + a)).toInt; omega))
theorem xl_ls {post : Int32 → SX → Prop} {n : Nat} (hn : n < 30) (hf : ∀ a, a < 3 → 0 ≤ (a_rows (3 * n + a)).toInt ∧ (a_rows (3 * n + a)).toInt ≤ 1000) (hl : ∀ a, a < 3 → (a_limits a).toInt ≤ 1000)
    (h6 : sg_out a_limits (fun a => a_rows (3 * (n + 1) + a)) = true → post 6 (f_lines, f_fastest, f_gain, f_bend, f_ahead, f_mode, f_holds, f_pace, f_line, f_gone, f_dwellLeft, f_stepsInAll, f_ticksInAll, f_speed, f_present, f_laid, a_wordCounts, a_letters, a_values, a_limits, a_switches, a_tool, a_inForce, a_origins, a_given, a_rows, a_probe, a_motions, a_thirds, a_centres, a_steps, a_paces, a_dwells, a_marks, a_nexts, a_joints))
    (h : sg_out a_limits (fun a => a_rows (3 * (n + 1) + a)) = false → post 0 (f_lines, f_fastest, f_gain, f_bend, f_ahead, f_mode, f_holds, f_pace, f_line, f_gone, f_dwellLeft, f_stepsInAll, f_ticksInAll, f_speed, f_present, f_laid, a_wordCounts, a_letters, a_values, a_limits, a_switches, a_tool, a_inForce, a_origins, a_given, a_rows, a_probe, a_motions, a_thirds, a_centres, (upd a_steps n (nI (sg_mx (fun a => a_rows (3 * n + a)) (fun a => a_rows (3 * (n + 1) + a))))), a_paces, a_dwells, a_marks, a_nexts, a_joints)) :
    wpX_layStraight post (f_lines, f_fastest, f_gain, f_bend, f_ahead, f_mode, f_holds, f_pace, f_line, f_gone, f_dwellLeft, f_stepsInAll, f_ticksInAll, f_speed, f_present, f_laid, a_wordCounts, a_letters, a_values, a_limits, a_switches, a_tool, a_inForce, a_origins, a_given, a_rows, a_probe, a_motions, a_thirds, a_centres, a_steps, a_paces, a_dwells, a_marks, a_nexts, a_joints) (nI n) := by
  unfold sg_out at h6 h
  have bd : ∀ a, a < 3 → sg_ou a_limits (fun a => a_rows (3 * (n + 1) + a)) a = false → sg_dd (fun a => a_rows (3 * n + a)) (fun a => a_rows (3 * (n + 1) + a)) a ≤ 1000 := by
    intro a ha e
    have e' := of_decide_eq_false e
    have := hf a ha
    have := hl a ha
    unfold sg_dd
    show ((a_rows (3 * (n + 1) + a)).toInt - (a_rows (3 * n + a)).toInt).natAbs ≤ 1000
    have e'' : ¬ ((a_rows (3 * (n + 1) + a)).toInt < 0 ∨ (a_limits a).toInt < (a_rows (3 * (n + 1) + a)).toInt) := e'
    omega
  refine ⟨4, ?_⟩
  refine xl_ls1 (a := 0) (m := 0) hn (by decide) (by omega) (hf 0 (by decide)) (hl 0 (by decide)) (fun e => h6 (by rw [e]; rfl)) (fun e0 => ?_)
  have b0 := bd 0 (by decide) e0
  rw [Nat.max_eq_right (Nat.zero_le _)]
  refine xl_ls1 (a := 1) hn (by decide) b0 (hf 1 (by decide)) (hl 1 (by decide)) (fun e => h6 (by rw [e, e0]; rfl)) (fun e1 => ?_)
  have b1 := bd 1 (by decide) e1
  refine xl_ls1 (a := 2) hn (by decide) (by omega) (hf 2 (by decide)) (hl 2 (by decide)) (fun e => h6 (by rw [e, e0, e1]; rfl)) (fun e2 => ?_)
  have h' := h (by rw [e0, e1, e2]; rfl)
  refine br_t ix_33 ⟨vp_in_nI hn (by omega), nm_e ?_⟩
  rw [nI_clamp (by omega)]
  exact h'
end
end XLN
