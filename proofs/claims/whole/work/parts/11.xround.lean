section XR0
theorem wk_sqb {u B : Int} (h : -B ≤ u ∧ u ≤ B) : 0 ≤ u * u ∧ u * u ≤ B * B := by
  by_cases c : 0 ≤ u
  · have h1 := wk_sq (x := 0) (by omega) c
    have h2 := wk_sq c h.2
    omega
  · have h1 := wk_sq (x := 0) (y := -u) (by omega) (by omega)
    have h2 := wk_sq (x := -u) (y := B) (by omega) (by omega)
    rw [Int.neg_mul_neg] at h1 h2
    omega
theorem wk_ofr {f u v : Int} (hu : -5001 ≤ u ∧ u ≤ 5001) (hv : -5001 ≤ v ∧ v ≤ 5001) (hf : 0 ≤ f ∧ f ≤ 90000) : 0 ≤ wk_of f u v ∧ wk_of f u v < 100000000 := by
  have h1 := wk_sqb (B := 5001) hu
  have h2 := wk_sqb (B := 5001) hv
  unfold wk_of
  have := wk_abs (u * u + v * v - f)
  omega
theorem wk_sgr (x : Int) : -1 ≤ wk_sg x ∧ wk_sg x ≤ 1 := by
  unfold wk_sg
  split
  · omega
  · split <;> omega
theorem wk_nxr (on : Bool) (f u v : Int) : (u - 1 ≤ (wk_nx on f (u, v)).1 ∧ (wk_nx on f (u, v)).1 ≤ u + 1) ∧ (v - 1 ≤ (wk_nx on f (u, v)).2 ∧ (wk_nx on f (u, v)).2 ≤ v + 1) := by
  have key : ∀ a b : Int, (-1 ≤ a ∧ a ≤ 1) → (-1 ≤ b ∧ b ≤ 1) → (u - 1 ≤ (wk_ch f u v a b).1 ∧ (wk_ch f u v a b).1 ≤ u + 1) ∧ (v - 1 ≤ (wk_ch f u v a b).2 ∧ (wk_ch f u v a b).2 ≤ v + 1) := by
    intro a b ha hb
    unfold wk_ch
    split <;> split <;> (dsimp only; omega)
  unfold wk_nx
  cases on
  · exact key _ _ (wk_sgr v) (wk_sgr (-u))
  · exact key _ _ (wk_sgr (-v)) (wk_sgr u)
theorem xs_m1 {th : Nat} (h : th < 3) : nI th + 1 - (nI th + 1) / 3 * 3 = nI ((th + 1) % 3) := by
  rw [nI_1, show (3 : Int32) = nI 3 from rfl, pk_rem (by omega) (by decide) (by decide)]
theorem xs_m2 {th : Nat} (h : th < 3) : nI th + 2 - (nI th + 2) / 3 * 3 = nI ((th + 2) % 3) := by
  rw [show nI th + 2 = nI (th + 2) from nI_add th 2, show (3 : Int32) = nI 3 from rfl, pk_rem (by omega) (by decide) (by decide)]
section
variable {f_lines f_fastest f_gain f_bend f_ahead f_mode f_holds f_pace f_line f_gone f_dwellLeft f_stepsInAll f_ticksInAll f_speed f_present f_laid : Int32} {a_wordCounts a_letters a_values a_limits a_switches a_tool a_inForce a_origins a_given a_rows a_probe a_motions a_thirds a_centres a_steps a_paces a_dwells a_marks a_nexts a_joints : Nat → Int32}
theorem xs_sg {post : Int32 → Prop} {p : Int32} {x : Int} (hp : p = ii_I x) (hx : ii_R x) (h : post (ii_I (wk_sg x))) : wpX_signOf post (f_lines, f_fastest, f_gain, f_bend, f_ahead, f_mode, f_holds, f_pace, f_line, f_gone, f_dwellLeft, f_stepsInAll, f_ticksInAll, f_speed, f_present, f_laid, a_wordCounts, a_letters, a_values, a_limits, a_switches, a_tool, a_inForce, a_origins, a_given, a_rows, a_probe, a_motions, a_thirds, a_centres, a_steps, a_paces, a_dwells, a_marks, a_nexts, a_joints) p := by
  subst hp
  unfold wpX_signOf
  have r0 : ii_R 0 := by unfold ii_R; omega
  have e1 : 0 ≤ ii_I x ↔ 0 ≤ x := ii_le (a := 0) r0 hx
  have e2 : ii_I x ≤ 0 ↔ x ≤ 0 := ii_le (b := 0) hx r0
  unfold wk_sg at h
  refine br_c (fun a => br_c (fun b => ?_) (fun b => ?_)) (fun a => ?_)
  · rw [if_neg (by rw [e1] at a; omega), if_neg (by rw [e2] at b; omega)] at h; exact h
  · rw [if_neg (by rw [e1] at a; omega), if_pos (by rw [e2] at b; omega)] at h; exact h
  · rw [if_pos (by rw [e1] at a; omega)] at h; exact h
theorem xs_ms {post : Int32 → Prop} {p0 p1 p2 : Int32} {f a b : Int} (h0 : p0 = ii_I a) (h1 : p1 = ii_I b) (h2 : p2 = ii_I f) (ha : -5001 ≤ a ∧ a ≤ 5001) (hb : -5001 ≤ b ∧ b ≤ 5001) (hf : 0 ≤ f ∧ f ≤ 90000)
    (h : post (ii_I (wk_of f a b))) : wpX_missOf post (f_lines, f_fastest, f_gain, f_bend, f_ahead, f_mode, f_holds, f_pace, f_line, f_gone, f_dwellLeft, f_stepsInAll, f_ticksInAll, f_speed, f_present, f_laid, a_wordCounts, a_letters, a_values, a_limits, a_switches, a_tool, a_inForce, a_origins, a_given, a_rows, a_probe, a_motions, a_thirds, a_centres, a_steps, a_paces, a_dwells, a_marks, a_nexts, a_joints) p0 p1 p2 := by
  subst h0 h1 h2
  unfold wpX_missOf
  have q1 := wk_sqb (B := 5001) ha
  have q2 := wk_sqb (B := 5001) hb
  have e1 : 0 ≤ ii_I (a * a + b * b - f) ↔ 0 ≤ a * a + b * b - f := ii_le (a := 0) (by unfold ii_R; omega) (by unfold ii_R; omega)
  refine nm_r (e' := ii_I (a * a + b * b - f)) (by rw [ii_mul, ii_mul, ii_add, ii_sub]) ?_
  unfold wk_of wk_ab at h
  refine br_c (fun c => ?_) (fun c => ?_)
  · rw [if_neg (by rw [e1] at c; omega)] at h; exact h
  · rw [if_pos (by rw [e1] at c; omega)] at h
    rw [ii_neg]; exact h
end
end XR0
section XROprobe
section
variable {f_lines f_fastest f_gain f_bend f_ahead f_mode f_holds f_pace f_line f_gone f_dwellLeft f_stepsInAll f_ticksInAll f_speed f_present f_laid : Int32} {a_wordCounts a_letters a_values a_limits a_switches a_tool a_inForce a_origins a_given a_rows a_probe a_motions a_thirds a_centres a_steps a_paces a_dwells a_marks a_nexts a_joints : Nat → Int32}
theorem xs_269probe {post : SX → Prop} {fa fb : Nat} {c d u v gu gv : Int} (hfa : fa < 3) (hfb : fb < 3) (hne : fb ≠ fa) (h1 : a_probe fa = ii_I (c + u)) (h2 : a_probe fb = ii_I (d + v))
    (h : post (f_lines, f_fastest, f_gain, f_bend, f_ahead, f_mode, f_holds, f_pace, f_line, f_gone, f_dwellLeft, f_stepsInAll, f_ticksInAll, f_speed, f_present, f_laid, a_wordCounts, a_letters, a_values, a_limits, a_switches, a_tool, a_inForce, a_origins, a_given, a_rows, (upd (upd a_probe fa (ii_I (c + (u + gu)))) fb (ii_I (d + (v + gv)))), a_motions, a_thirds, a_centres, a_steps, a_paces, a_dwells, a_marks, a_nexts, a_joints)) : wX_stepRound__probe_269 post (nI fa) (nI fb) (ii_I gu) (ii_I gv) f_lines f_fastest f_gain f_bend f_ahead f_mode f_holds f_pace f_line f_gone f_dwellLeft f_stepsInAll f_ticksInAll f_speed f_present f_laid a_wordCounts a_letters a_values a_limits a_switches a_tool a_inForce a_origins a_given a_rows a_probe a_motions a_thirds a_centres a_steps a_paces a_dwells a_marks a_nexts a_joints := by
  unfold wX_stepRound__probe_269
  rw [nI_clamp (show fa < 2 ^ 31 by omega), nI_clamp (show fb < 2 ^ 31 by omega), h1, ii_add, Int.add_assoc]
  refine ⟨vp_in_nI hfa (by omega), vp_in_nI hfa (by omega), nm_e ⟨vp_in_nI hfb (by omega), vp_in_nI hfb (by omega), nm_r ?_ h⟩⟩
  rw [pk_un hne, h2, ii_add, Int.add_assoc]
theorem xs_235probe {post : SX → Prop} {fa fb : Nat} {c d u v f b gu gv m : Int} (hfa : fa < 3) (hfb : fb < 3) (hne : fb ≠ fa) (h1 : a_probe fa = ii_I (c + u)) (h2 : a_probe fb = ii_I (d + v))
    (hu : -5000 ≤ u ∧ u ≤ 5000) (hv : -5000 ≤ v ∧ v ≤ 5000) (hb : -1 ≤ b ∧ b ≤ 1) (hf : 0 ≤ f ∧ f ≤ 90000) (hm : ii_R m)
    (hq : (b ≠ 0 ∧ wk_of f u (v + b) < m) → post (f_lines, f_fastest, f_gain, f_bend, f_ahead, f_mode, f_holds, f_pace, f_line, f_gone, f_dwellLeft, f_stepsInAll, f_ticksInAll, f_speed, f_present, f_laid, a_wordCounts, a_letters, a_values, a_limits, a_switches, a_tool, a_inForce, a_origins, a_given, a_rows, (upd (upd a_probe fa (ii_I (c + u))) fb (ii_I (d + (v + b)))), a_motions, a_thirds, a_centres, a_steps, a_paces, a_dwells, a_marks, a_nexts, a_joints))
    (h : ¬ (b ≠ 0 ∧ wk_of f u (v + b) < m) → post (f_lines, f_fastest, f_gain, f_bend, f_ahead, f_mode, f_holds, f_pace, f_line, f_gone, f_dwellLeft, f_stepsInAll, f_ticksInAll, f_speed, f_present, f_laid, a_wordCounts, a_letters, a_values, a_limits, a_switches, a_tool, a_inForce, a_origins, a_given, a_rows, (upd (upd a_probe fa (ii_I (c + (u + gu)))) fb (ii_I (d + (v + gv)))), a_motions, a_thirds, a_centres, a_steps, a_paces, a_dwells, a_marks, a_nexts, a_joints)) :
    wX_stepRound__probe_235 post (nI fa) (nI fb) (ii_I f) (ii_I u) (ii_I v) (ii_I b) (ii_I gu) (ii_I gv) (ii_I m) f_lines f_fastest f_gain f_bend f_ahead f_mode f_holds f_pace f_line f_gone f_dwellLeft f_stepsInAll f_ticksInAll f_speed f_present f_laid a_wordCounts a_letters a_values a_limits a_switches a_tool a_inForce a_origins a_given a_rows a_probe a_motions a_thirds a_centres a_steps a_paces a_dwells a_marks a_nexts a_joints := by
  unfold wX_stepRound__probe_235
  rw [ii_add]
  have r := wk_ofr (f := f) (u := u) (v := v + b) (by omega) (by omega) hf
  refine xs_ms (f := f) (a := u) (b := v + b) rfl rfl rfl (by omega) (by omega) hf (br_c (fun z => ?_) (fun z => br_c (fun y => ?_) (fun y => ?_)))
  · refine xs_269probe hfa hfb hne h1 h2 (h (fun w => w.1 ?_))
    exact (ii_eq (b := 0) (by unfold ii_R; omega) (by unfold ii_R; omega)).mp z
  · refine xs_269probe hfa hfb hne h1 h2 (h (fun w => ?_))
    rw [ii_le hm (by unfold ii_R; omega)] at y
    omega
  · have hz : b ≠ 0 := fun e => z (by rw [e]; rfl)
    rw [ii_le hm (by unfold ii_R; omega)] at y
    have := hq ⟨hz, by omega⟩
    refine xs_269probe (gu := 0) (gv := b) hfa hfb hne h1 h2 ?_
    rw [Int.add_zero]
    exact this
theorem xs_173probe {post : SX → Prop} {fa fb : Nat} {c d u v f a b : Int} (hfa : fa < 3) (hfb : fb < 3) (hne : fb ≠ fa) (h1 : a_probe fa = ii_I (c + u)) (h2 : a_probe fb = ii_I (d + v))
    (hu : -5000 ≤ u ∧ u ≤ 5000) (hv : -5000 ≤ v ∧ v ≤ 5000) (ha : -1 ≤ a ∧ a ≤ 1) (hb : -1 ≤ b ∧ b ≤ 1) (hf : 0 ≤ f ∧ f ≤ 90000)
    (h : post (f_lines, f_fastest, f_gain, f_bend, f_ahead, f_mode, f_holds, f_pace, f_line, f_gone, f_dwellLeft, f_stepsInAll, f_ticksInAll, f_speed, f_present, f_laid, a_wordCounts, a_letters, a_values, a_limits, a_switches, a_tool, a_inForce, a_origins, a_given, a_rows, (upd (upd a_probe fa (ii_I (c + (wk_ch f u v a b).1))) fb (ii_I (d + (wk_ch f u v a b).2))), a_motions, a_thirds, a_centres, a_steps, a_paces, a_dwells, a_marks, a_nexts, a_joints)) :
    wX_stepRound__probe_173 post (nI fa) (nI fb) (ii_I f) (ii_I u) (ii_I v) (ii_I a) (ii_I b) f_lines f_fastest f_gain f_bend f_ahead f_mode f_holds f_pace f_line f_gone f_dwellLeft f_stepsInAll f_ticksInAll f_speed f_present f_laid a_wordCounts a_letters a_values a_limits a_switches a_tool a_inForce a_origins a_given a_rows a_probe a_motions a_thirds a_centres a_steps a_paces a_dwells a_marks a_nexts a_joints := by
  unfold wX_stepRound__probe_173
  rw [ii_add, ii_add]
  have r1 := wk_ofr (f := f) (u := u + a) (v := v + b) (by omega) (by omega) hf
  have r2 := wk_ofr (f := f) (u := u + a) (v := v) (by omega) (by omega) hf
  unfold wk_ch at h
  refine xs_ms (f := f) (a := u + a) (b := v + b) rfl rfl rfl (by omega) (by omega) hf (xs_ms (f := f) (a := u + a) (b := v) rfl rfl rfl (by omega) (by omega) hf ?_)
  have small : ¬ (a ≠ 0 ∧ wk_of f (u + a) v < wk_of f (u + a) (v + b)) → wX_stepRound__probe_235 post (nI fa) (nI fb) (ii_I f) (ii_I u) (ii_I v) (ii_I b) (ii_I a) (ii_I b) (ii_I (wk_of f (u + a) (v + b))) f_lines f_fastest f_gain f_bend f_ahead f_mode f_holds f_pace f_line f_gone f_dwellLeft f_stepsInAll f_ticksInAll f_speed f_present f_laid a_wordCounts a_letters a_values a_limits a_switches a_tool a_inForce a_origins a_given a_rows a_probe a_motions a_thirds a_centres a_steps a_paces a_dwells a_marks a_nexts a_joints := by
    intro n
    rw [if_neg n] at h
    refine xs_235probe hfa hfb hne h1 h2 hu hv hb hf (by unfold ii_R; omega) (fun w => ?_) (fun w => ?_)
    · rw [if_pos w] at h; exact h
    · rw [if_neg w] at h; exact h
  refine br_c (fun z => small (fun w => w.1 ?_)) (fun z => br_c (fun y => small (fun w => ?_)) (fun y => ?_))
  · exact (ii_eq (b := 0) (by unfold ii_R; omega) (by unfold ii_R; omega)).mp z
  · rw [ii_le (by unfold ii_R; omega) (by unfold ii_R; omega)] at y
    omega
  · have hz : a ≠ 0 := fun e => z (by rw [e]; rfl)
    rw [ii_le (by unfold ii_R; omega) (by unfold ii_R; omega)] at y
    rw [if_pos ⟨hz, by omega⟩] at h
    refine xs_235probe (gv := 0) hfa hfb hne h1 h2 hu hv hb hf (by unfold ii_R; omega) (fun w => ?_) (fun w => ?_)
    · rw [if_pos w] at h; exact h
    · rw [if_neg w] at h
      rw [Int.add_zero]; exact h
theorem xs_stprobe {post : SX → Prop} {n th : Nat} {on : Bool} {p q c d u v : Int} (hn : n < 30) (hth : th < 3) (ht : a_thirds n = nI th) (hm : a_motions n = 3 ↔ on = true)
    (hc : a_centres (2 * n) = ii_I c) (hd : a_centres (2 * n + 1) = ii_I d) (hr : a_rows (3 * n + (th + 1) % 3) = ii_I (c - p)) (hr2 : a_rows (3 * n + (th + 2) % 3) = ii_I (d - q))
    (h1 : a_probe ((th + 1) % 3) = ii_I (c + u)) (h2 : a_probe ((th + 2) % 3) = ii_I (d + v)) (hu : -5000 ≤ u ∧ u ≤ 5000) (hv : -5000 ≤ v ∧ v ≤ 5000) (hf : 0 ≤ p * p + q * q ∧ p * p + q * q ≤ 90000)
    (h : post (f_lines, f_fastest, f_gain, f_bend, f_ahead, f_mode, f_holds, f_pace, f_line, f_gone, f_dwellLeft, f_stepsInAll, f_ticksInAll, f_speed, f_present, f_laid, a_wordCounts, a_letters, a_values, a_limits, a_switches, a_tool, a_inForce, a_origins, a_given, a_rows, (upd (upd a_probe ((th + 1) % 3) (ii_I (c + (wk_nx on (p * p + q * q) (u, v)).1))) ((th + 2) % 3) (ii_I (d + (wk_nx on (p * p + q * q) (u, v)).2))), a_motions, a_thirds, a_centres, a_steps, a_paces, a_dwells, a_marks, a_nexts, a_joints)) :
    wpX_stepRound__probe post (f_lines, f_fastest, f_gain, f_bend, f_ahead, f_mode, f_holds, f_pace, f_line, f_gone, f_dwellLeft, f_stepsInAll, f_ticksInAll, f_speed, f_present, f_laid, a_wordCounts, a_letters, a_values, a_limits, a_switches, a_tool, a_inForce, a_origins, a_given, a_rows, a_probe, a_motions, a_thirds, a_centres, a_steps, a_paces, a_dwells, a_marks, a_nexts, a_joints) (nI n) := by
  have hfa : (th + 1) % 3 < 3 := Nat.mod_lt _ (by decide)
  have hfb : (th + 2) % 3 < 3 := Nat.mod_lt _ (by decide)
  have hne : (th + 2) % 3 ≠ (th + 1) % 3 := by omega
  unfold wpX_stepRound__probe
  dsimp only
  rw [nI_clamp (show n < 2 ^ 31 by omega), ht, ix_21, ix_2, nI_clamp (show 2 * n < 2 ^ 31 by omega), nI_clamp (show 2 * n + 1 < 2 ^ 31 by omega), hc, hd]
  have i30 : vp_in (nI n) 30 := vp_in_nI hn (by omega)
  have i60 : vp_in (nI (2 * n)) 60 := vp_in_nI (by omega) (by omega)
  have i61 : vp_in (nI (2 * n + 1)) 60 := vp_in_nI (by omega) (by omega)
  refine ⟨i30, by decide, nm_r (e' := nI ((th + 1) % 3)) (xs_m1 hth) ⟨i30, by decide, nm_r (e' := nI ((th + 2) % 3)) (xs_m2 hth) ?_⟩⟩
  rw [ix_3, ix_3, nI_clamp (show 3 * n + (th + 1) % 3 < 2 ^ 31 by omega), nI_clamp (show 3 * n + (th + 2) % 3 < 2 ^ 31 by omega), nI_clamp (show (th + 1) % 3 < 2 ^ 31 by omega), nI_clamp (show (th + 2) % 3 < 2 ^ 31 by omega), hr, hr2, h1, h2]
  refine ⟨vp_in_nI (by omega) (by omega), i60, nm_r (e' := ii_I (-p)) (by rw [ii_sub]; congr 1; omega) ⟨vp_in_nI (by omega) (by omega), i61, nm_r (e' := ii_I (-q)) (by rw [ii_sub]; congr 1; omega) ?_⟩⟩
  refine nm_r (e' := ii_I (p * p + q * q)) (by rw [ii_mul, ii_mul, ii_add, Int.neg_mul_neg, Int.neg_mul_neg]) ?_
  refine ⟨vp_in_nI hfa (by omega), i60, nm_r (e' := ii_I u) (by rw [ii_sub]; congr 1; omega) ⟨vp_in_nI hfb (by omega), i61, nm_r (e' := ii_I v) (by rw [ii_sub]; congr 1; omega) ⟨i30, ?_⟩⟩⟩
  have s1 := wk_sgr v
  have s2 := wk_sgr (-v)
  have s3 := wk_sgr u
  have s4 := wk_sgr (-u)
  unfold wk_nx at h
  refine br_c (fun z => ?_) (fun z => ?_)
  · rw [hm.mp z] at h
    unfold wX_stepRound__probe_127
    refine br_f (by decide) (xs_sg (x := -v) (ii_neg v) (by unfold ii_R; omega) ?_)
    unfold wX_stepRound__probe_150
    refine br_f (by decide) (xs_sg (x := u) rfl (by unfold ii_R; omega) ?_)
    exact xs_173probe hfa hfb hne h1 h2 hu hv s2 s3 hf h
  · have : on = false := by
      cases on
      · rfl
      · exact absurd (hm.mpr rfl) z
    rw [this] at h
    unfold wX_stepRound__probe_127
    refine br_t rfl (xs_sg (x := v) rfl (by unfold ii_R; omega) ?_)
    unfold wX_stepRound__probe_150
    refine br_t rfl (xs_sg (x := -u) (ii_neg u) (by unfold ii_R; omega) ?_)
    exact xs_173probe hfa hfb hne h1 h2 hu hv s1 s4 hf h
end
end XROprobe
section XROtool
section
variable {f_lines f_fastest f_gain f_bend f_ahead f_mode f_holds f_pace f_line f_gone f_dwellLeft f_stepsInAll f_ticksInAll f_speed f_present f_laid : Int32} {a_wordCounts a_letters a_values a_limits a_switches a_tool a_inForce a_origins a_given a_rows a_probe a_motions a_thirds a_centres a_steps a_paces a_dwells a_marks a_nexts a_joints : Nat → Int32}
theorem xs_269tool {post : SX → Prop} {fa fb : Nat} {c d u v gu gv : Int} (hfa : fa < 3) (hfb : fb < 3) (hne : fb ≠ fa) (h1 : a_tool fa = ii_I (c + u)) (h2 : a_tool fb = ii_I (d + v))
    (h : post (f_lines, f_fastest, f_gain, f_bend, f_ahead, f_mode, f_holds, f_pace, f_line, f_gone, f_dwellLeft, f_stepsInAll, f_ticksInAll, f_speed, f_present, f_laid, a_wordCounts, a_letters, a_values, a_limits, a_switches, (upd (upd a_tool fa (ii_I (c + (u + gu)))) fb (ii_I (d + (v + gv)))), a_inForce, a_origins, a_given, a_rows, a_probe, a_motions, a_thirds, a_centres, a_steps, a_paces, a_dwells, a_marks, a_nexts, a_joints)) : wX_stepRound__tool_269 post (nI fa) (nI fb) (ii_I gu) (ii_I gv) f_lines f_fastest f_gain f_bend f_ahead f_mode f_holds f_pace f_line f_gone f_dwellLeft f_stepsInAll f_ticksInAll f_speed f_present f_laid a_wordCounts a_letters a_values a_limits a_switches a_tool a_inForce a_origins a_given a_rows a_probe a_motions a_thirds a_centres a_steps a_paces a_dwells a_marks a_nexts a_joints := by
  unfold wX_stepRound__tool_269
  rw [nI_clamp (show fa < 2 ^ 31 by omega), nI_clamp (show fb < 2 ^ 31 by omega), h1, ii_add, Int.add_assoc]
  refine ⟨vp_in_nI hfa (by omega), vp_in_nI hfa (by omega), nm_e ⟨vp_in_nI hfb (by omega), vp_in_nI hfb (by omega), nm_r ?_ h⟩⟩
  rw [pk_un hne, h2, ii_add, Int.add_assoc]
theorem xs_235tool {post : SX → Prop} {fa fb : Nat} {c d u v f b gu gv m : Int} (hfa : fa < 3) (hfb : fb < 3) (hne : fb ≠ fa) (h1 : a_tool fa = ii_I (c + u)) (h2 : a_tool fb = ii_I (d + v))
    (hu : -5000 ≤ u ∧ u ≤ 5000) (hv : -5000 ≤ v ∧ v ≤ 5000) (hb : -1 ≤ b ∧ b ≤ 1) (hf : 0 ≤ f ∧ f ≤ 90000) (hm : ii_R m)
    (hq : (b ≠ 0 ∧ wk_of f u (v + b) < m) → post (f_lines, f_fastest, f_gain, f_bend, f_ahead, f_mode, f_holds, f_pace, f_line, f_gone, f_dwellLeft, f_stepsInAll, f_ticksInAll, f_speed, f_present, f_laid, a_wordCounts, a_letters, a_values, a_limits, a_switches, (upd (upd a_tool fa (ii_I (c + u))) fb (ii_I (d + (v + b)))), a_inForce, a_origins, a_given, a_rows, a_probe, a_motions, a_thirds, a_centres, a_steps, a_paces, a_dwells, a_marks, a_nexts, a_joints))
    (h : ¬ (b ≠ 0 ∧ wk_of f u (v + b) < m) → post (f_lines, f_fastest, f_gain, f_bend, f_ahead, f_mode, f_holds, f_pace, f_line, f_gone, f_dwellLeft, f_stepsInAll, f_ticksInAll, f_speed, f_present, f_laid, a_wordCounts, a_letters, a_values, a_limits, a_switches, (upd (upd a_tool fa (ii_I (c + (u + gu)))) fb (ii_I (d + (v + gv)))), a_inForce, a_origins, a_given, a_rows, a_probe, a_motions, a_thirds, a_centres, a_steps, a_paces, a_dwells, a_marks, a_nexts, a_joints)) :
    wX_stepRound__tool_235 post (nI fa) (nI fb) (ii_I f) (ii_I u) (ii_I v) (ii_I b) (ii_I gu) (ii_I gv) (ii_I m) f_lines f_fastest f_gain f_bend f_ahead f_mode f_holds f_pace f_line f_gone f_dwellLeft f_stepsInAll f_ticksInAll f_speed f_present f_laid a_wordCounts a_letters a_values a_limits a_switches a_tool a_inForce a_origins a_given a_rows a_probe a_motions a_thirds a_centres a_steps a_paces a_dwells a_marks a_nexts a_joints := by
  unfold wX_stepRound__tool_235
  rw [ii_add]
  have r := wk_ofr (f := f) (u := u) (v := v + b) (by omega) (by omega) hf
  refine xs_ms (f := f) (a := u) (b := v + b) rfl rfl rfl (by omega) (by omega) hf (br_c (fun z => ?_) (fun z => br_c (fun y => ?_) (fun y => ?_)))
  · refine xs_269tool hfa hfb hne h1 h2 (h (fun w => w.1 ?_))
    exact (ii_eq (b := 0) (by unfold ii_R; omega) (by unfold ii_R; omega)).mp z
  · refine xs_269tool hfa hfb hne h1 h2 (h (fun w => ?_))
    rw [ii_le hm (by unfold ii_R; omega)] at y
    omega
  · have hz : b ≠ 0 := fun e => z (by rw [e]; rfl)
    rw [ii_le hm (by unfold ii_R; omega)] at y
    have := hq ⟨hz, by omega⟩
    refine xs_269tool (gu := 0) (gv := b) hfa hfb hne h1 h2 ?_
    rw [Int.add_zero]
    exact this
theorem xs_173tool {post : SX → Prop} {fa fb : Nat} {c d u v f a b : Int} (hfa : fa < 3) (hfb : fb < 3) (hne : fb ≠ fa) (h1 : a_tool fa = ii_I (c + u)) (h2 : a_tool fb = ii_I (d + v))
    (hu : -5000 ≤ u ∧ u ≤ 5000) (hv : -5000 ≤ v ∧ v ≤ 5000) (ha : -1 ≤ a ∧ a ≤ 1) (hb : -1 ≤ b ∧ b ≤ 1) (hf : 0 ≤ f ∧ f ≤ 90000)
    (h : post (f_lines, f_fastest, f_gain, f_bend, f_ahead, f_mode, f_holds, f_pace, f_line, f_gone, f_dwellLeft, f_stepsInAll, f_ticksInAll, f_speed, f_present, f_laid, a_wordCounts, a_letters, a_values, a_limits, a_switches, (upd (upd a_tool fa (ii_I (c + (wk_ch f u v a b).1))) fb (ii_I (d + (wk_ch f u v a b).2))), a_inForce, a_origins, a_given, a_rows, a_probe, a_motions, a_thirds, a_centres, a_steps, a_paces, a_dwells, a_marks, a_nexts, a_joints)) :
    wX_stepRound__tool_173 post (nI fa) (nI fb) (ii_I f) (ii_I u) (ii_I v) (ii_I a) (ii_I b) f_lines f_fastest f_gain f_bend f_ahead f_mode f_holds f_pace f_line f_gone f_dwellLeft f_stepsInAll f_ticksInAll f_speed f_present f_laid a_wordCounts a_letters a_values a_limits a_switches a_tool a_inForce a_origins a_given a_rows a_probe a_motions a_thirds a_centres a_steps a_paces a_dwells a_marks a_nexts a_joints := by
  unfold wX_stepRound__tool_173
  rw [ii_add, ii_add]
  have r1 := wk_ofr (f := f) (u := u + a) (v := v + b) (by omega) (by omega) hf
  have r2 := wk_ofr (f := f) (u := u + a) (v := v) (by omega) (by omega) hf
  unfold wk_ch at h
  refine xs_ms (f := f) (a := u + a) (b := v + b) rfl rfl rfl (by omega) (by omega) hf (xs_ms (f := f) (a := u + a) (b := v) rfl rfl rfl (by omega) (by omega) hf ?_)
  have small : ¬ (a ≠ 0 ∧ wk_of f (u + a) v < wk_of f (u + a) (v + b)) → wX_stepRound__tool_235 post (nI fa) (nI fb) (ii_I f) (ii_I u) (ii_I v) (ii_I b) (ii_I a) (ii_I b) (ii_I (wk_of f (u + a) (v + b))) f_lines f_fastest f_gain f_bend f_ahead f_mode f_holds f_pace f_line f_gone f_dwellLeft f_stepsInAll f_ticksInAll f_speed f_present f_laid a_wordCounts a_letters a_values a_limits a_switches a_tool a_inForce a_origins a_given a_rows a_probe a_motions a_thirds a_centres a_steps a_paces a_dwells a_marks a_nexts a_joints := by
    intro n
    rw [if_neg n] at h
    refine xs_235tool hfa hfb hne h1 h2 hu hv hb hf (by unfold ii_R; omega) (fun w => ?_) (fun w => ?_)
    · rw [if_pos w] at h; exact h
    · rw [if_neg w] at h; exact h
  refine br_c (fun z => small (fun w => w.1 ?_)) (fun z => br_c (fun y => small (fun w => ?_)) (fun y => ?_))
  · exact (ii_eq (b := 0) (by unfold ii_R; omega) (by unfold ii_R; omega)).mp z
  · rw [ii_le (by unfold ii_R; omega) (by unfold ii_R; omega)] at y
    omega
  · have hz : a ≠ 0 := fun e => z (by rw [e]; rfl)
    rw [ii_le (by unfold ii_R; omega) (by unfold ii_R; omega)] at y
    rw [if_pos ⟨hz, by omega⟩] at h
    refine xs_235tool (gv := 0) hfa hfb hne h1 h2 hu hv hb hf (by unfold ii_R; omega) (fun w => ?_) (fun w => ?_)
    · rw [if_pos w] at h; exact h
    · rw [if_neg w] at h
      rw [Int.add_zero]; exact h
theorem xs_sttool {post : SX → Prop} {n th : Nat} {on : Bool} {p q c d u v : Int} (hn : n < 30) (hth : th < 3) (ht : a_thirds n = nI th) (hm : a_motions n = 3 ↔ on = true)
    (hc : a_centres (2 * n) = ii_I c) (hd : a_centres (2 * n + 1) = ii_I d) (hr : a_rows (3 * n + (th + 1) % 3) = ii_I (c - p)) (hr2 : a_rows (3 * n + (th + 2) % 3) = ii_I (d - q))
    (h1 : a_tool ((th + 1) % 3) = ii_I (c + u)) (h2 : a_tool ((th + 2) % 3) = ii_I (d + v)) (hu : -5000 ≤ u ∧ u ≤ 5000) (hv : -5000 ≤ v ∧ v ≤ 5000) (hf : 0 ≤ p * p + q * q ∧ p * p + q * q ≤ 90000)
    (h : post (f_lines, f_fastest, f_gain, f_bend, f_ahead, f_mode, f_holds, f_pace, f_line, f_gone, f_dwellLeft, f_stepsInAll, f_ticksInAll, f_speed, f_present, f_laid, a_wordCounts, a_letters, a_values, a_limits, a_switches, (upd (upd a_tool ((th + 1) % 3) (ii_I (c + (wk_nx on (p * p + q * q) (u, v)).1))) ((th + 2) % 3) (ii_I (d + (wk_nx on (p * p + q * q) (u, v)).2))), a_inForce, a_origins, a_given, a_rows, a_probe, a_motions, a_thirds, a_centres, a_steps, a_paces, a_dwells, a_marks, a_nexts, a_joints)) :
    wpX_stepRound__tool post (f_lines, f_fastest, f_gain, f_bend, f_ahead, f_mode, f_holds, f_pace, f_line, f_gone, f_dwellLeft, f_stepsInAll, f_ticksInAll, f_speed, f_present, f_laid, a_wordCounts, a_letters, a_values, a_limits, a_switches, a_tool, a_inForce, a_origins, a_given, a_rows, a_probe, a_motions, a_thirds, a_centres, a_steps, a_paces, a_dwells, a_marks, a_nexts, a_joints) (nI n) := by
  have hfa : (th + 1) % 3 < 3 := Nat.mod_lt _ (by decide)
  have hfb : (th + 2) % 3 < 3 := Nat.mod_lt _ (by decide)
  have hne : (th + 2) % 3 ≠ (th + 1) % 3 := by omega
  unfold wpX_stepRound__tool
  dsimp only
  rw [nI_clamp (show n < 2 ^ 31 by omega), ht, ix_21, ix_2, nI_clamp (show 2 * n < 2 ^ 31 by omega), nI_clamp (show 2 * n + 1 < 2 ^ 31 by omega), hc, hd]
  have i30 : vp_in (nI n) 30 := vp_in_nI hn (by omega)
  have i60 : vp_in (nI (2 * n)) 60 := vp_in_nI (by omega) (by omega)
  have i61 : vp_in (nI (2 * n + 1)) 60 := vp_in_nI (by omega) (by omega)
  refine ⟨i30, by decide, nm_r (e' := nI ((th + 1) % 3)) (xs_m1 hth) ⟨i30, by decide, nm_r (e' := nI ((th + 2) % 3)) (xs_m2 hth) ?_⟩⟩
  rw [ix_3, ix_3, nI_clamp (show 3 * n + (th + 1) % 3 < 2 ^ 31 by omega), nI_clamp (show 3 * n + (th + 2) % 3 < 2 ^ 31 by omega), nI_clamp (show (th + 1) % 3 < 2 ^ 31 by omega), nI_clamp (show (th + 2) % 3 < 2 ^ 31 by omega), hr, hr2, h1, h2]
  refine ⟨vp_in_nI (by omega) (by omega), i60, nm_r (e' := ii_I (-p)) (by rw [ii_sub]; congr 1; omega) ⟨vp_in_nI (by omega) (by omega), i61, nm_r (e' := ii_I (-q)) (by rw [ii_sub]; congr 1; omega) ?_⟩⟩
  refine nm_r (e' := ii_I (p * p + q * q)) (by rw [ii_mul, ii_mul, ii_add, Int.neg_mul_neg, Int.neg_mul_neg]) ?_
  refine ⟨vp_in_nI hfa (by omega), i60, nm_r (e' := ii_I u) (by rw [ii_sub]; congr 1; omega) ⟨vp_in_nI hfb (by omega), i61, nm_r (e' := ii_I v) (by rw [ii_sub]; congr 1; omega) ⟨i30, ?_⟩⟩⟩
  have s1 := wk_sgr v
  have s2 := wk_sgr (-v)
  have s3 := wk_sgr u
  have s4 := wk_sgr (-u)
  unfold wk_nx at h
  refine br_c (fun z => ?_) (fun z => ?_)
  · rw [hm.mp z] at h
    unfold wX_stepRound__tool_127
    refine br_f (by decide) (xs_sg (x := -v) (ii_neg v) (by unfold ii_R; omega) ?_)
    unfold wX_stepRound__tool_150
    refine br_f (by decide) (xs_sg (x := u) rfl (by unfold ii_R; omega) ?_)
    exact xs_173tool hfa hfb hne h1 h2 hu hv s2 s3 hf h
  · have : on = false := by
      cases on
      · rfl
      · exact absurd (hm.mpr rfl) z
    rw [this] at h
    unfold wX_stepRound__tool_127
    refine br_t rfl (xs_sg (x := v) rfl (by unfold ii_R; omega) ?_)
    unfold wX_stepRound__tool_150
    refine br_t rfl (xs_sg (x := -u) (ii_neg u) (by unfold ii_R; omega) ?_)
    exact xs_173tool hfa hfb hne h1 h2 hu hv s1 s4 hf h
end
end XROtool
