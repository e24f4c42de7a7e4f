section STP
theorem st_pt {k size n : Nat} (hn : 0 < n) (hk : k ≤ 3000) (hz : size ≤ 1000) (hn2 : n ≤ 3000) : ((2 * nI k) * nI size + nI n) / (2 * nI n) = nI (pt_ k size n) := by
  rw [show (2 : Int32) = nI 2 from rfl, pk_mul, pk_mul, pk_mul, nI_add]
  have : 2 * k * size ≤ 6000 * 1000 := Nat.mul_le_mul (by omega) hz
  rw [pk_div (by omega) (by omega) (by omega)]
  rfl
theorem st_2n {n : Nat} (hn : 0 < n) (hn2 : n ≤ 3000) : ¬ (2 * nI n : Int32) = 0 := by
  rw [show (2 : Int32) = nI 2 from rfl, pk_mul]
  exact nI_ne0 (by omega) (by omega)
section
variable {L V M lim s0 : Nat → Int32} {fs bend : Int32} {N : Nat}
/-- how far an axis goes: the difference as an int, and its size -/
theorem st_d (K : rn_K L V M lim s0 fs bend N) {n a : Nat} (hn : n < N) (ha : a < 3) :
    (0 ≤ px_he L V M s0 (n + 1) a - px_he L V M s0 n a ↔ (px_he L V M s0 n a).toInt ≤ (px_he L V M s0 (n + 1) a).toInt) ∧
    (0 ≤ px_he L V M s0 (n + 1) a - px_he L V M s0 n a → px_he L V M s0 (n + 1) a - px_he L V M s0 n a = nI (sg_dd (px_he L V M s0 n) (px_he L V M s0 (n + 1)) a)) ∧
    (¬ 0 ≤ px_he L V M s0 (n + 1) a - px_he L V M s0 n a → -(px_he L V M s0 (n + 1) a - px_he L V M s0 n a) = nI (sg_dd (px_he L V M s0 n) (px_he L V M s0 (n + 1)) a)) ∧
    sg_dd (px_he L V M s0 n) (px_he L V M s0 (n + 1)) a ≤ 1000 := by
  have c0 := ci_he1 K.1 (rk_ci K (n := n) (by omega)) a ha
  have c1 := ci_he1 K.1 (rk_ci K (n := n + 1) (by omega)) a ha
  have y := sg_absy (x := px_he L V M s0 n a) (y := px_he L V M s0 (n + 1) a) c0 (by omega)
  refine ⟨?_, y.1, y.2, by unfold sg_dd; omega⟩
  rw [ii_dd]
  have := ii_le (a := 0) (b := (px_he L V M s0 (n + 1) a).toInt - (px_he L V M s0 n a).toInt) (by unfold ii_R; omega) (by unfold ii_R; omega)
  constructor
  · intro z; have := this.mp z; omega
  · intro z; exact this.mpr (by omega)
theorem st_it (K : rn_K L V M lim s0 fs bend N) {n k : Nat} (hn : n < N) (hs : 0 < px_st L V M lim s0 n) (hk : k ≤ px_st L V M lim s0 n) (t : ¬ px_tu L V M s0 n = 0) :
    (-5000 ≤ (wk_it (px_on L V M s0 n) (px_far L V M s0 n) k (-px_p L V M s0 n, -px_q L V M s0 n)).1 ∧ (wk_it (px_on L V M s0 n) (px_far L V M s0 n) k (-px_p L V M s0 n, -px_q L V M s0 n)).1 ≤ 5000) ∧
    (-5000 ≤ (wk_it (px_on L V M s0 n) (px_far L V M s0 n) k (-px_p L V M s0 n, -px_q L V M s0 n)).2 ∧ (wk_it (px_on L V M s0 n) (px_far L V M s0 n) k (-px_p L V M s0 n, -px_q L V M s0 n)).2 ≤ 5000) := by
  obtain ⟨ta, tb, _, _⟩ := fv_tr (fc_F L V M s0 n)
  have ra := rs_in K hn hs hk ta
  have rb := rs_in K hn hs hk tb
  unfold rs_p at ra rb
  rw [if_neg t, if_pos rfl] at ra
  rw [if_neg t, if_neg (fv_ne n), if_pos rfl] at rb
  have la := (K.1.2.2.2 _ ta).2
  have lb := (K.1.2.2.2 _ tb).2
  have cd := rn_cd K.1 (rk_ci K (n := n) (by omega)) (rk_w K hn) t
  omega
end
section
variable {f_lines f_fastest f_gain f_bend f_ahead f_mode f_holds f_pace f_line f_gone f_dwellLeft f_stepsInAll f_ticksInAll f_speed f_present f_laid : Int32} {a_wordCounts a_letters a_values a_limits a_switches a_tool a_inForce a_origins a_given a_rows a_probe a_motions a_thirds a_centres a_steps a_paces a_dwells a_marks a_nexts a_joints : Nat → Int32}
theorem xt_ss {post : SX → Prop} {s0 : Nat → Int32} {N n k : Nat} (K : rn_K a_letters a_values a_wordCounts a_limits s0 f_fastest f_bend N) (hX : xz_L a_letters a_values a_wordCounts a_limits f_fastest s0 N a_rows a_motions a_thirds a_centres a_steps a_paces a_dwells a_marks)
    (hn : n < N) (hs : 0 < px_st a_letters a_values a_wordCounts a_limits s0 n) (hk : k ≤ px_st a_letters a_values a_wordCounts a_limits s0 n) (t : px_tu a_letters a_values a_wordCounts s0 n = 0)
    (h : post (f_lines, f_fastest, f_gain, f_bend, f_ahead, f_mode, f_holds, f_pace, f_line, f_gone, f_dwellLeft, f_stepsInAll, f_ticksInAll, f_speed, f_present, f_laid, a_wordCounts, a_letters, a_values, a_limits, a_switches, (tl_ (rs_v a_letters a_values a_wordCounts a_limits s0 n k) a_tool), a_inForce, a_origins, a_given, a_rows, a_probe, a_motions, a_thirds, a_centres, a_steps, a_paces, a_dwells, a_marks, a_nexts, a_joints)) : wpX_stepStraight__tool post (f_lines, f_fastest, f_gain, f_bend, f_ahead, f_mode, f_holds, f_pace, f_line, f_gone, f_dwellLeft, f_stepsInAll, f_ticksInAll, f_speed, f_present, f_laid, a_wordCounts, a_letters, a_values, a_limits, a_switches, a_tool, a_inForce, a_origins, a_given, a_rows, a_probe, a_motions, a_thirds, a_centres, a_steps, a_paces, a_dwells, a_marks, a_nexts, a_joints) (nI n) (nI k) := by
  have N30 : N ≤ 30 := K.2.2.2.2.1
  have sn := rk_s K hn
  have st : ∀ a f T, a < 3 → wX_stepStraight__tool_18 post (nI n) (nI k) (nI (px_st a_letters a_values a_wordCounts a_limits s0 n)) f_lines f_fastest f_gain f_bend f_ahead f_mode f_holds f_pace f_line f_gone f_dwellLeft f_stepsInAll f_ticksInAll f_speed f_present f_laid f (nI (a + 1)) a_wordCounts a_letters a_values a_limits a_switches (upd T a (rs_v a_letters a_values a_wordCounts a_limits s0 n k a)) a_inForce a_origins a_given a_rows a_probe a_motions a_thirds a_centres a_steps a_paces a_dwells a_marks a_nexts a_joints →
      wX_stepStraight__tool_18 post (nI n) (nI k) (nI (px_st a_letters a_values a_wordCounts a_limits s0 n)) f_lines f_fastest f_gain f_bend f_ahead f_mode f_holds f_pace f_line f_gone f_dwellLeft f_stepsInAll f_ticksInAll f_speed f_present f_laid (f + 1) (nI a) a_wordCounts a_letters a_values a_limits a_switches T a_inForce a_origins a_given a_rows a_probe a_motions a_thirds a_centres a_steps a_paces a_dwells a_marks a_nexts a_joints := by
    intro a f T ha g
    obtain ⟨d1, d2, d3, d4⟩ := st_d K hn ha
    refine br_f (ix_3a ha) ?_
    rw [ix_3, ix_3s, nI_clamp (show 3 * n + a < 2 ^ 31 by omega), nI_clamp (show 3 * (n + 1) + a < 2 ^ 31 by omega), hX.1 n (by omega) a ha, hX.1 (n + 1) (by omega) a ha]
    have g68 : ∀ z, z = nI (sg_dd (px_he a_letters a_values a_wordCounts s0 n) (px_he a_letters a_values a_wordCounts s0 (n + 1)) a) → wX_stepStraight__tool_68 post (wX_stepStraight__tool_18 post (nI n) (nI k) (nI (px_st a_letters a_values a_wordCounts a_limits s0 n)) f_lines f_fastest f_gain f_bend f_ahead f_mode f_holds f_pace f_line f_gone f_dwellLeft f_stepsInAll f_ticksInAll f_speed f_present f_laid f) (nI n) (nI k) (nI (px_st a_letters a_values a_wordCounts a_limits s0 n)) (nI a) (px_he a_letters a_values a_wordCounts s0 n a) (px_he a_letters a_values a_wordCounts s0 (n + 1) a - px_he a_letters a_values a_wordCounts s0 n a) z f_lines f_fastest f_gain f_bend f_ahead f_mode f_holds f_pace f_line f_gone f_dwellLeft f_stepsInAll f_ticksInAll f_speed f_present f_laid a_wordCounts a_letters a_values a_limits a_switches T a_inForce a_origins a_given a_rows a_probe a_motions a_thirds a_centres a_steps a_paces a_dwells a_marks a_nexts a_joints := by
      intro z ez
      subst ez
      unfold wX_stepStraight__tool_68
      rw [st_pt hs (by omega) d4 sn, nI_clamp (show a < 2 ^ 31 by omega)]
      refine ⟨st_2n hs sn, nm_e (br_c (fun c => ⟨vp_in_nI ha (by omega), nm_r (e' := upd T a (rs_v a_letters a_values a_wordCounts a_limits s0 n k a)) ?_ (nm_r (nI_1 a) g)⟩) (fun c => ⟨vp_in_nI ha (by omega), nm_r (e' := upd T a (rs_v a_letters a_values a_wordCounts a_limits s0 n k a)) ?_ (nm_r (nI_1 a) g)⟩))⟩
      · congr 1
        unfold rs_v rs_p
        rw [if_pos t, if_pos (d1.mp c), ← ii_add, ii_t, ← ii_n]
      · congr 1
        unfold rs_v rs_p
        rw [if_pos t, if_neg (fun z => c (d1.mpr z)), ← ii_sub, ii_t, ← ii_n]
    exact ⟨vp_in_nI (by omega) (by omega), nm_e ⟨vp_in_nI (by omega) (by omega), nm_e (br_c (fun c => g68 _ (d2 c)) (fun c => g68 _ (d3 c)))⟩⟩
  unfold wpX_stepStraight__tool
  dsimp only
  rw [nI_clamp (show n < 2 ^ 31 by omega), (hX.2 n hn).2.2.1]
  refine ⟨vp_in_nI (by omega) (by omega), nm_e (br_t (nI_le (a := 1) (by omega) (by omega)) ⟨4, st 0 3 _ (by decide) (st 1 2 _ (by decide) (st 2 1 _ (by decide) (br_t ix_33 ?_)))⟩)⟩
  have e : upd (upd (upd a_tool 0 (rs_v a_letters a_values a_wordCounts a_limits s0 n k 0)) 1 (rs_v a_letters a_values a_wordCounts a_limits s0 n k 1)) 2 (rs_v a_letters a_values a_wordCounts a_limits s0 n k 2) = tl_ (rs_v a_letters a_values a_wordCounts a_limits s0 n k) a_tool :=
    tl_e (fun a ha => co_3 (P := fun a => upd (upd (upd a_tool 0 (rs_v a_letters a_values a_wordCounts a_limits s0 n k 0)) 1 (rs_v a_letters a_values a_wordCounts a_limits s0 n k 1)) 2 (rs_v a_letters a_values a_wordCounts a_limits s0 n k 2) a = rs_v a_letters a_values a_wordCounts a_limits s0 n k a) rfl rfl rfl ha) (fun a ha => by rw [pk_un (by omega), pk_un (by omega), pk_un (by omega)])
  rw [e]; exact h
theorem xt_sr {post : SX → Prop} {s0 : Nat → Int32} {N n k : Nat} (K : rn_K a_letters a_values a_wordCounts a_limits s0 f_fastest f_bend N) (hX : xz_L a_letters a_values a_wordCounts a_limits f_fastest s0 N a_rows a_motions a_thirds a_centres a_steps a_paces a_dwells a_marks)
    (hn : n < N) (hs : 0 < px_st a_letters a_values a_wordCounts a_limits s0 n) (hk : k + 1 ≤ px_st a_letters a_values a_wordCounts a_limits s0 n) (t : ¬ px_tu a_letters a_values a_wordCounts s0 n = 0) (hT : ∀ a, a < 3 → a_tool a = rs_v a_letters a_values a_wordCounts a_limits s0 n k a)
    (h : post (f_lines, f_fastest, f_gain, f_bend, f_ahead, f_mode, f_holds, f_pace, f_line, f_gone, f_dwellLeft, f_stepsInAll, f_ticksInAll, f_speed, f_present, f_laid, a_wordCounts, a_letters, a_values, a_limits, a_switches, (tl_ (rs_v a_letters a_values a_wordCounts a_limits s0 n (k + 1)) a_tool), a_inForce, a_origins, a_given, a_rows, a_probe, a_motions, a_thirds, a_centres, a_steps, a_paces, a_dwells, a_marks, a_nexts, a_joints)) : wpX_stepRound__tool post (f_lines, f_fastest, f_gain, f_bend, f_ahead, f_mode, f_holds, f_pace, f_line, f_gone, f_dwellLeft, f_stepsInAll, f_ticksInAll, f_speed, f_present, f_laid, a_wordCounts, a_letters, a_values, a_limits, a_switches, a_tool, a_inForce, a_origins, a_given, a_rows, a_probe, a_motions, a_thirds, a_centres, a_steps, a_paces, a_dwells, a_marks, a_nexts, a_joints) (nI n) := by
  have N30 : N ≤ 30 := K.2.2.2.2.1
  have hF := fc_F a_letters a_values a_wordCounts s0 n
  obtain ⟨_, hth, efa, efb⟩ := fv_ft hF
  obtain ⟨ta, tb, tt, ts⟩ := fv_tr hF
  have ne := fv_ne (L := a_letters) (V := a_values) (M := a_wordCounts) (s0 := s0) n
  obtain ⟨y1, y2, y3, y4, y5, y6, y7⟩ := hX.2 n hn
  obtain ⟨y8, y9⟩ := y7 t
  have mo := rn_mo (rk_w K hn) hs
  have it := st_it K hn hs (k := k) (by omega) t
  obtain ⟨b, _⟩ := (ci_why (rk_w K hn)).2.2.2.2 t
  obtain ⟨_, b2, b3, _⟩ := ci_b5 b
  have vA : ∀ j, rs_v a_letters a_values a_wordCounts a_limits s0 n j (pl_fa (px_F a_letters a_values a_wordCounts s0 n)) = ii_I (px_c a_letters a_values a_wordCounts s0 n + (wk_it (px_on a_letters a_values a_wordCounts s0 n) (px_far a_letters a_values a_wordCounts s0 n) j (-px_p a_letters a_values a_wordCounts s0 n, -px_q a_letters a_values a_wordCounts s0 n)).1) := by
    intro j; unfold rs_v rs_p; rw [if_neg t, if_pos rfl]
  have vB : ∀ j, rs_v a_letters a_values a_wordCounts a_limits s0 n j (pl_fb (px_F a_letters a_values a_wordCounts s0 n)) = ii_I (px_d a_letters a_values a_wordCounts s0 n + (wk_it (px_on a_letters a_values a_wordCounts s0 n) (px_far a_letters a_values a_wordCounts s0 n) j (-px_p a_letters a_values a_wordCounts s0 n, -px_q a_letters a_values a_wordCounts s0 n)).2) := by
    intro j; unfold rs_v rs_p; rw [if_neg t, if_neg ne, if_pos rfl]
  refine xs_sttool (th := pl_ft (px_F a_letters a_values a_wordCounts s0 n)) (on := px_on a_letters a_values a_wordCounts s0 n) (p := px_p a_letters a_values a_wordCounts s0 n) (q := px_q a_letters a_values a_wordCounts s0 n) (c := px_c a_letters a_values a_wordCounts s0 n) (d := px_d a_letters a_values a_wordCounts s0 n)
    (u := (wk_it (px_on a_letters a_values a_wordCounts s0 n) (px_far a_letters a_values a_wordCounts s0 n) k (-px_p a_letters a_values a_wordCounts s0 n, -px_q a_letters a_values a_wordCounts s0 n)).1) (v := (wk_it (px_on a_letters a_values a_wordCounts s0 n) (px_far a_letters a_values a_wordCounts s0 n) k (-px_p a_letters a_values a_wordCounts s0 n, -px_q a_letters a_values a_wordCounts s0 n)).2)
    (by omega) hth y2 ?_ y8 y9 ?_ ?_ ?_ ?_ it.1 it.2 ⟨by unfold px_far at b2; omega, b3⟩ ?_
  · rw [y1]
    rcases mo with z | ⟨_, z, _⟩
    · exact absurd z.1 t
    · rw [z]; unfold px_on; rw [decide_eq_true_iff]
  · rw [efa, hX.1 n (by omega) _ ta, ← ii_t (px_he a_letters a_values a_wordCounts s0 n (pl_fa (px_F a_letters a_values a_wordCounts s0 n)))]
    congr 1
    unfold px_c; omega
  · rw [efb, hX.1 n (by omega) _ tb, ← ii_t (px_he a_letters a_values a_wordCounts s0 n (pl_fb (px_F a_letters a_values a_wordCounts s0 n)))]
    congr 1
    unfold px_d; omega
  · rw [efa, hT _ ta]; exact vA k
  · rw [efb, hT _ tb]; exact vB k
  · rw [efa, efb]
    have e : upd (upd a_tool (pl_fa (px_F a_letters a_values a_wordCounts s0 n)) (ii_I (px_c a_letters a_values a_wordCounts s0 n + (wk_nx (px_on a_letters a_values a_wordCounts s0 n) (px_p a_letters a_values a_wordCounts s0 n * px_p a_letters a_values a_wordCounts s0 n + px_q a_letters a_values a_wordCounts s0 n * px_q a_letters a_values a_wordCounts s0 n) ((wk_it (px_on a_letters a_values a_wordCounts s0 n) (px_far a_letters a_values a_wordCounts s0 n) k (-px_p a_letters a_values a_wordCounts s0 n, -px_q a_letters a_values a_wordCounts s0 n)).1, (wk_it (px_on a_letters a_values a_wordCounts s0 n) (px_far a_letters a_values a_wordCounts s0 n) k (-px_p a_letters a_values a_wordCounts s0 n, -px_q a_letters a_values a_wordCounts s0 n)).2)).1))) (pl_fb (px_F a_letters a_values a_wordCounts s0 n)) (ii_I (px_d a_letters a_values a_wordCounts s0 n + (wk_nx (px_on a_letters a_values a_wordCounts s0 n) (px_p a_letters a_values a_wordCounts s0 n * px_p a_letters a_values a_wordCounts s0 n + px_q a_letters a_values a_wordCounts s0 n * px_q a_letters a_values a_wordCounts s0 n) ((wk_it (px_on a_letters a_values a_wordCounts s0 n) (px_far a_letters a_values a_wordCounts s0 n) k (-px_p a_letters a_values a_wordCounts s0 n, -px_q a_letters a_values a_wordCounts s0 n)).1, (wk_it (px_on a_letters a_values a_wordCounts s0 n) (px_far a_letters a_values a_wordCounts s0 n) k (-px_p a_letters a_values a_wordCounts s0 n, -px_q a_letters a_values a_wordCounts s0 n)).2)).2)) = tl_ (rs_v a_letters a_values a_wordCounts a_limits s0 n (k + 1)) a_tool := by
      refine tl_e (fun a ha => ?_) (fun a ha => by rw [pk_un (by omega), pk_un (by omega)])
      by_cases e1 : a = pl_fb (px_F a_letters a_values a_wordCounts s0 n)
      · subst e1; rw [pk_us, vB, wk_its]; rfl
      · rw [pk_un e1]
        by_cases e2 : a = pl_fa (px_F a_letters a_values a_wordCounts s0 n)
        · subst e2; rw [pk_us, vA, wk_its]; rfl
        · rw [pk_un e2, hT a ha]
          unfold rs_v rs_p
          rw [if_neg t, if_neg t, if_neg e2, if_neg e2, if_neg e1, if_neg e1]
    rw [e]; exact h
theorem xt_cs {post : Int32 → Prop} {p : Int32} {a : Nat} {old : Nat → Int32} (ha : a < 3) (hp : p = nI a) (h : post (bo_I (tp_ a_tool old a_switches a))) : wpX_cameToSwitch post (f_lines, f_fastest, f_gain, f_bend, f_ahead, f_mode, f_holds, f_pace, f_line, f_gone, f_dwellLeft, f_stepsInAll, f_ticksInAll, f_speed, f_present, f_laid, a_wordCounts, a_letters, a_values, a_limits, a_switches, a_tool, a_inForce, a_origins, a_given, a_rows, a_probe, a_motions, a_thirds, a_centres, a_steps, a_paces, a_dwells, a_marks, a_nexts, a_joints) p (old a) := by
  subst hp
  unfold wpX_cameToSwitch
  dsimp only
  rw [nI_clamp (show a < 2 ^ 31 by omega)]
  have i3 : vp_in (nI a) 3 := vp_in_nI ha (by omega)
  refine ⟨i3, br_c (fun c => ?_) (fun c => ⟨i3, i3, br_c (fun d => ?_) (fun d => ?_)⟩)⟩
  · rw [show tp_ a_tool old a_switches a = false from decide_eq_false (fun z => z.1 c)] at h; exact h
  · rw [show tp_ a_tool old a_switches a = true from decide_eq_true ⟨c, d⟩] at h; exact h
  · rw [show tp_ a_tool old a_switches a = false from decide_eq_false (fun z => d z.2)] at h; exact h
theorem xt_ts {post : SX → Prop} {s0 : Nat → Int32} {N n k : Nat} (K : rn_K a_letters a_values a_wordCounts a_limits s0 f_fastest f_bend N) (hX : xr_ a_letters a_values a_wordCounts a_limits s0 f_fastest f_bend N f_laid a_rows a_motions a_thirds a_centres a_steps a_paces a_dwells a_marks a_nexts a_joints)
    (hn : n < N) (hs : 0 < px_st a_letters a_values a_wordCounts a_limits s0 n) (hk : k + 1 ≤ px_st a_letters a_values a_wordCounts a_limits s0 n) (hT : ∀ a, a < 3 → a_tool a = rs_v a_letters a_values a_wordCounts a_limits s0 n k a)
    (T : Nat → Int32) (eT : T = tl_ (rs_v a_letters a_values a_wordCounts a_limits s0 n (k + 1)) a_tool)
    (h4 : (tp_ T a_tool a_switches 0 || tp_ T a_tool a_switches 1 || tp_ T a_tool a_switches 2) = true → post (f_lines, f_fastest, f_gain, f_bend, f_ahead, 4, 0, 0, (nI n), (nI (1000 * (k + 1))), f_dwellLeft, (f_stepsInAll + 1), f_ticksInAll, f_speed, f_present, f_laid, a_wordCounts, a_letters, a_values, a_limits, a_switches, T, a_inForce, a_origins, a_given, a_rows, a_probe, a_motions, a_thirds, a_centres, a_steps, a_paces, a_dwells, a_marks, a_nexts, a_joints))
    (hJ : (tp_ T a_tool a_switches 0 || tp_ T a_tool a_switches 1 || tp_ T a_tool a_switches 2) = false → k + 1 = px_st a_letters a_values a_wordCounts a_limits s0 n → ∀ m, rn_x a_letters a_values a_wordCounts a_limits s0 N n = some m → post (f_lines, f_fastest, f_gain, f_bend, f_ahead, f_mode, f_holds, f_pace, (nI m), 0, f_dwellLeft, (f_stepsInAll + 1), f_ticksInAll, f_speed, f_present, f_laid, a_wordCounts, a_letters, a_values, a_limits, a_switches, T, a_inForce, a_origins, a_given, a_rows, a_probe, a_motions, a_thirds, a_centres, a_steps, a_paces, a_dwells, a_marks, a_nexts, a_joints))
    (hE : (tp_ T a_tool a_switches 0 || tp_ T a_tool a_switches 1 || tp_ T a_tool a_switches 2) = false → (k + 1 = px_st a_letters a_values a_wordCounts a_limits s0 n → rn_x a_letters a_values a_wordCounts a_limits s0 N n = none) → post (f_lines, f_fastest, f_gain, f_bend, f_ahead, f_mode, f_holds, f_pace, (nI n), (nI (1000 * (k + 1))), f_dwellLeft, (f_stepsInAll + 1), f_ticksInAll, f_speed, f_present, f_laid, a_wordCounts, a_letters, a_values, a_limits, a_switches, T, a_inForce, a_origins, a_given, a_rows, a_probe, a_motions, a_thirds, a_centres, a_steps, a_paces, a_dwells, a_marks, a_nexts, a_joints)) :
    wpX_takeStep post (f_lines, f_fastest, f_gain, f_bend, f_ahead, f_mode, f_holds, f_pace, (nI n), (nI (1000 * (k + 1))), f_dwellLeft, f_stepsInAll, f_ticksInAll, f_speed, f_present, f_laid, a_wordCounts, a_letters, a_values, a_limits, a_switches, a_tool, a_inForce, a_origins, a_given, a_rows, a_probe, a_motions, a_thirds, a_centres, a_steps, a_paces, a_dwells, a_marks, a_nexts, a_joints) := by
  have N30 : N ≤ 30 := K.2.2.2.2.1
  have sn := rk_s K hn
  have i30 : vp_in (nI n) 30 := vp_in_nI (by omega) (by omega)
  have cl : (nI n).toNatClampNeg = n := nI_clamp (by omega)
  have ek : nI (1000 * (k + 1)) / 1000 = nI (k + 1) := by
    rw [show (1000 : Int32) = nI 1000 from rfl, pk_div (by omega) (by decide) (by decide), Nat.mul_div_cancel_left _ (by decide)]
  obtain ⟨ex, _⟩ := hX.2.2 n hn
  rw [if_neg (by omega)] at ex
  have g110 : (tp_ T a_tool a_switches 0 || tp_ T a_tool a_switches 1 || tp_ T a_tool a_switches 2) = true → wX_takeStep_110 post f_lines f_fastest f_gain f_bend f_ahead f_mode f_holds f_pace (nI n) (nI (1000 * (k + 1))) f_dwellLeft (f_stepsInAll + 1) f_ticksInAll f_speed f_present f_laid a_wordCounts a_letters a_values a_limits a_switches T a_inForce a_origins a_given a_rows a_probe a_motions a_thirds a_centres a_steps a_paces a_dwells a_marks a_nexts a_joints := fun z => h4 z
  have g73 : wX_takeStep_73 post (a_tool 0) (a_tool 1) (a_tool 2) (nI (k + 1)) f_lines f_fastest f_gain f_bend f_ahead f_mode f_holds f_pace (nI n) (nI (1000 * (k + 1))) f_dwellLeft f_stepsInAll f_ticksInAll f_speed f_present f_laid a_wordCounts a_letters a_values a_limits a_switches T a_inForce a_origins a_given a_rows a_probe a_motions a_thirds a_centres a_steps a_paces a_dwells a_marks a_nexts a_joints := by
    unfold wX_takeStep_73
    refine nm_e (xt_cs (a := 0) (old := a_tool) (by decide) rfl (br_c (fun c0 => xt_cs (a := 1) (old := a_tool) (by decide) rfl (br_c (fun c1 => xt_cs (a := 2) (old := a_tool) (by decide) rfl (br_c (fun c2 => ⟨i30, ?_⟩) (fun c2 => g110 ?_))) (fun c1 => g110 ?_))) (fun c0 => g110 ?_)))
    · have tf : (tp_ T a_tool a_switches 0 || tp_ T a_tool a_switches 1 || tp_ T a_tool a_switches 2) = false := by rw [bo_yf c0, bo_yf c1, bo_yf c2]; rfl
      rw [cl, (hX.2.1.2 n hn).2.2.1, ex]
      refine br_c (fun c => ⟨i30, ?_⟩) (fun c => hE tf (fun z => absurd (by rw [z]) c))
      have c' : k + 1 = px_st a_letters a_values a_wordCounts a_limits s0 n := (nI_eq (by omega) (by omega)).mp c
      cases e : rn_x a_letters a_values a_wordCounts a_limits s0 N n with
      | none => exact br_t rfl (hE tf (fun _ => e))
      | some m =>
        obtain ⟨m1, m2, m3⟩ := rk_x n m e
        exact br_f (nj_Im m (by omega)) ⟨i30, nm_e (hJ tf c' m e)⟩
    · rw [bo_nf c2]; simp
    · rw [bo_nf c1]; simp
    · rw [bo_nf c0]; simp
  unfold wpX_takeStep
  dsimp only
  rw [ek, cl, (hX.2.1.2 n hn).1]
  refine nm_e (nm_e (nm_e ⟨by decide, nm_e ⟨i30, br_c (fun c => ?_) (fun c => ?_)⟩⟩))
  · rcases rn_mo (rk_w K hn) hs with z | ⟨z1, z2, z3⟩
    · refine xt_ss K hX.2.1 hn hs hk z.1 ?_
      rw [← eT]; exact g73
    · rw [z2] at c
      rcases z3 with w | w <;> (rw [w] at c; exact absurd c (by decide))
  · rcases rn_mo (rk_w K hn) hs with z | ⟨z1, z2, z3⟩
    · exact absurd (Int32.not_lt.mp c) z.2
    · refine xt_sr K hX.2.1 hn hs hk z1 hT ?_
      rw [← eT]; exact g73
end
end STP
