section XWK
theorem sg_per {lim to : Nat → Int32} {th : Nat} (h : th < 3) : sg_out lim to = true ↔ (sg_ou lim to ((th + 1) % 3) = true ∨ sg_ou lim to ((th + 2) % 3) = true ∨ sg_ou lim to th = true) := by
  unfold sg_out
  rw [Bool.or_eq_true, Bool.or_eq_true]
  match th, h with
  | 0, _ =>
    show _ ↔ (sg_ou lim to 1 = true ∨ sg_ou lim to 2 = true ∨ sg_ou lim to 0 = true)
    constructor
    · rintro ((z | z) | z)
      · exact Or.inr (Or.inr z)
      · exact Or.inl z
      · exact Or.inr (Or.inl z)
    · rintro (z | z | z)
      · exact Or.inl (Or.inr z)
      · exact Or.inr z
      · exact Or.inl (Or.inl z)
  | 1, _ =>
    show _ ↔ (sg_ou lim to 2 = true ∨ sg_ou lim to 0 = true ∨ sg_ou lim to 1 = true)
    constructor
    · rintro ((z | z) | z)
      · exact Or.inr (Or.inl z)
      · exact Or.inr (Or.inr z)
      · exact Or.inl z
    · rintro (z | z | z)
      · exact Or.inr z
      · exact Or.inl (Or.inl z)
      · exact Or.inl (Or.inr z)
  | 2, _ =>
    show _ ↔ (sg_ou lim to 0 = true ∨ sg_ou lim to 1 = true ∨ sg_ou lim to 2 = true)
    constructor
    · rintro ((z | z) | z)
      · exact Or.inl z
      · exact Or.inr (Or.inl z)
      · exact Or.inr (Or.inr z)
    · rintro (z | z | z)
      · exact Or.inl (Or.inl z)
      · exact Or.inl (Or.inr z)
      · exact Or.inr z
theorem sg_all {P : Nat → Prop} {th : Nat} (h : th < 3) (h1 : P ((th + 1) % 3)) (h2 : P ((th + 2) % 3)) (h3 : P th) : ∀ a, a < 3 → P a := by
  match th, h with
  | 0, _ => exact fun a ha => co_3 h3 h1 h2 ha
  | 1, _ => exact fun a ha => co_3 h2 h3 h1 ha
  | 2, _ => exact fun a ha => co_3 h1 h2 h3 ha
theorem sg_ouI {lim to : Nat → Int32} {a : Nat} {x : Int} (hx : ii_R x) (h : to a = ii_I x) : sg_ou lim to a = true ↔ (x < 0 ∨ (lim a).toInt < x) := by
  unfold sg_ou
  rw [h, ii_toInt hx, decide_eq_true_iff]
section
variable {f_lines f_fastest f_gain f_bend f_ahead f_mode f_holds f_pace f_line f_gone f_dwellLeft f_stepsInAll f_ticksInAll f_speed f_present f_laid : Int32} {a_wordCounts a_letters a_values a_limits a_switches a_tool a_inForce a_origins a_given a_rows a_probe a_motions a_thirds a_centres a_steps a_paces a_dwells a_marks a_nexts a_joints : Nat → Int32}
theorem xw_51s {post : Int32 → SX → Prop} {J : Int32 → Int32 → Int32 → Int32 → Int32 → Int32 → Int32 → Int32 → Int32 → Int32 → Int32 → Int32 → Int32 → Int32 → Int32 → Int32 → Int32 → (Nat → Int32) → (Nat → Int32) → (Nat → Int32) → (Nat → Int32) → (Nat → Int32) → (Nat → Int32) → (Nat → Int32) → (Nat → Int32) → (Nat → Int32) → (Nat → Int32) → (Nat → Int32) → (Nat → Int32) → (Nat → Int32) → (Nat → Int32) → (Nat → Int32) → (Nat → Int32) → (Nat → Int32) → (Nat → Int32) → (Nat → Int32) → (Nat → Int32) → Prop}
    {x2 : Int32} {n a f : Nat} {fl : Bool} (hn : n < 30) (ha : a < 3)
    (h6 : sg_ou a_limits a_probe a = true → post 6 (f_lines, f_fastest, f_gain, f_bend, f_ahead, f_mode, f_holds, f_pace, f_line, f_gone, f_dwellLeft, f_stepsInAll, f_ticksInAll, f_speed, f_present, f_laid, a_wordCounts, a_letters, a_values, a_limits, a_switches, a_tool, a_inForce, a_origins, a_given, a_rows, a_probe, a_motions, a_thirds, a_centres, a_steps, a_paces, a_dwells, a_marks, a_nexts, a_joints))
    (h : sg_ou a_limits a_probe a = false → wX_walkRound_51 post J (nI n) x2 f_lines f_fastest f_gain f_bend f_ahead f_mode f_holds f_pace f_line f_gone f_dwellLeft f_stepsInAll f_ticksInAll f_speed f_present f_laid a_wordCounts a_letters a_values a_limits a_switches a_tool a_inForce a_origins a_given a_rows a_probe a_motions a_thirds a_centres a_steps a_paces a_dwells a_marks a_nexts a_joints f (bo_I (fl && decide (a_probe a = a_rows (3 * (n + 1) + a)))) (nI (a + 1))) :
    wX_walkRound_51 post J (nI n) x2 f_lines f_fastest f_gain f_bend f_ahead f_mode f_holds f_pace f_line f_gone f_dwellLeft f_stepsInAll f_ticksInAll f_speed f_present f_laid a_wordCounts a_letters a_values a_limits a_switches a_tool a_inForce a_origins a_given a_rows a_probe a_motions a_thirds a_centres a_steps a_paces a_dwells a_marks a_nexts a_joints (f + 1) (bo_I fl) (nI a) := by
  refine br_f (ix_3a ha) ?_
  have i3 : vp_in (nI a) 3 := vp_in_nI ha (by decide)
  rw [ix_3s, nI_clamp (show a < 2 ^ 31 by omega), nI_clamp (show 3 * (n + 1) + a < 2 ^ 31 by omega)]
  refine ⟨i3, br_c (fun c => h6 ?_) (fun c => ⟨i3, i3, br_c (fun d => ⟨i3, vp_in_nI (by omega) (by omega), ?_⟩) (fun d => h6 ?_)⟩)⟩
  · rw [fc_lt, fc_0] at c
    exact decide_eq_true (Or.inl c)
  · have h' := h (decide_eq_false (by rw [fc_lt, fc_0] at c; rw [fc_le] at d; omega))
    refine br_c (fun e => nm_r (nI_1 a) ?_) (fun e => nm_r (nI_1 a) ?_)
    · rw [decide_eq_true e, Bool.and_true] at h'; exact h'
    · rw [decide_eq_false e, Bool.and_false] at h'; exact h'
  · rw [fc_le] at d
    exact decide_eq_true (Or.inr (by omega))
theorem xw_51 {post : Int32 → SX → Prop} {J : Int32 → Int32 → Int32 → Int32 → Int32 → Int32 → Int32 → Int32 → Int32 → Int32 → Int32 → Int32 → Int32 → Int32 → Int32 → Int32 → Int32 → (Nat → Int32) → (Nat → Int32) → (Nat → Int32) → (Nat → Int32) → (Nat → Int32) → (Nat → Int32) → (Nat → Int32) → (Nat → Int32) → (Nat → Int32) → (Nat → Int32) → (Nat → Int32) → (Nat → Int32) → (Nat → Int32) → (Nat → Int32) → (Nat → Int32) → (Nat → Int32) → (Nat → Int32) → (Nat → Int32) → (Nat → Int32) → (Nat → Int32) → Prop}
    {n k : Nat} (hn : n < 30)
    (h6 : sg_out a_limits a_probe = true → post 6 (f_lines, f_fastest, f_gain, f_bend, f_ahead, f_mode, f_holds, f_pace, f_line, f_gone, f_dwellLeft, f_stepsInAll, f_ticksInAll, f_speed, f_present, f_laid, a_wordCounts, a_letters, a_values, a_limits, a_switches, a_tool, a_inForce, a_origins, a_given, a_rows, a_probe, a_motions, a_thirds, a_centres, a_steps, a_paces, a_dwells, a_marks, a_nexts, a_joints))
    (h0 : sg_out a_limits a_probe = false → (∀ a, a < 3 → a_probe a = a_rows (3 * (n + 1) + a)) → post 0 (f_lines, f_fastest, f_gain, f_bend, f_ahead, f_mode, f_holds, f_pace, f_line, f_gone, f_dwellLeft, f_stepsInAll, f_ticksInAll, f_speed, f_present, f_laid, a_wordCounts, a_letters, a_values, a_limits, a_switches, a_tool, a_inForce, a_origins, a_given, a_rows, a_probe, a_motions, a_thirds, a_centres, (upd a_steps n (nI k)), a_paces, a_dwells, a_marks, a_nexts, a_joints))
    (hJ : sg_out a_limits a_probe = false → ¬ (∀ a, a < 3 → a_probe a = a_rows (3 * (n + 1) + a)) → J (nI (k + 1)) f_lines f_fastest f_gain f_bend f_ahead f_mode f_holds f_pace f_line f_gone f_dwellLeft f_stepsInAll f_ticksInAll f_speed f_present f_laid a_wordCounts a_letters a_values a_limits a_switches a_tool a_inForce a_origins a_given a_rows a_probe a_motions a_thirds a_centres a_steps a_paces a_dwells a_marks a_nexts a_joints) :
    ∃ m, wX_walkRound_51 post J (nI n) (nI k) f_lines f_fastest f_gain f_bend f_ahead f_mode f_holds f_pace f_line f_gone f_dwellLeft f_stepsInAll f_ticksInAll f_speed f_present f_laid a_wordCounts a_letters a_values a_limits a_switches a_tool a_inForce a_origins a_given a_rows a_probe a_motions a_thirds a_centres a_steps a_paces a_dwells a_marks a_nexts a_joints m 1 0 := by
  unfold sg_out at h6 h0 hJ
  refine ⟨4, ?_⟩
  refine xw_51s (a := 0) (fl := true) hn (by decide) (fun e => h6 (by rw [e]; rfl)) (fun e0 => ?_)
  refine xw_51s (a := 1) hn (by decide) (fun e => h6 (by rw [e, e0]; rfl)) (fun e1 => ?_)
  refine xw_51s (a := 2) hn (by decide) (fun e => h6 (by rw [e, e0, e1]; rfl)) (fun e2 => ?_)
  have so : (sg_ou a_limits a_probe 0 || sg_ou a_limits a_probe 1 || sg_ou a_limits a_probe 2) = false := by rw [e0, e1, e2]; rfl
  refine br_t ix_33 (br_c (fun z => nm_r (nI_1 k) (hJ so (fun w => ?_))) (fun z => ⟨vp_in_nI hn (by omega), ?_⟩))
  · rw [decide_eq_true (w 0 (by decide)), decide_eq_true (w 1 (by decide)), decide_eq_true (w 2 (by decide))] at z
    exact absurd z (by decide)
  · rw [nI_clamp (by omega)]
    refine nm_e (h0 so ?_)
    by_cases w0 : a_probe 0 = a_rows (3 * (n + 1) + 0)
    · by_cases w1 : a_probe 1 = a_rows (3 * (n + 1) + 1)
      · by_cases w2 : a_probe 2 = a_rows (3 * (n + 1) + 2)
        · exact fun a ha => co_3 (P := fun a => a_probe a = a_rows (3 * (n + 1) + a)) w0 w1 w2 ha
        · rw [decide_eq_false w2, Bool.and_false] at z; exact absurd rfl z
      · rw [decide_eq_false w1, Bool.and_false, Bool.false_and] at z; exact absurd rfl z
    · rw [decide_eq_false w0, Bool.and_false, Bool.false_and, Bool.false_and] at z; exact absurd rfl z
theorem xw_31 {post : Int32 → SX → Prop} {n th : Nat} {on : Bool} {p q c d x y : Int} (hn : n < 30) (hth : th < 3) (ht : a_thirds n = nI th) (hm : a_motions n = 3 ↔ on = true)
    (hc : a_centres (2 * n) = ii_I c) (hd : a_centres (2 * n + 1) = ii_I d) (hr : a_rows (3 * n + (th + 1) % 3) = ii_I (c - p)) (hr2 : a_rows (3 * n + (th + 2) % 3) = ii_I (d - q))
    (hf : 0 ≤ p * p + q * q ∧ p * p + q * q ≤ 90000) (hcr : -2000 ≤ c ∧ c ≤ 2000) (hdr : -2000 ≤ d ∧ d ≤ 2000) (hl : ∀ a, a < 3 → (a_limits a).toInt ≤ 1000)
    (hx : ii_R (c + x)) (hy : ii_R (d + y)) (ho : a_rows (3 * (n + 1) + (th + 1) % 3) = ii_I (c + x)) (ho2 : a_rows (3 * (n + 1) + (th + 2) % 3) = ii_I (d + y))
    {z : Int} (hz : 0 ≤ z ∧ z ≤ (a_limits th).toInt) (ho3 : a_rows (3 * (n + 1) + th) = ii_I z) :
    ∀ (f k : Nat) (u v : Int) (P : Nat → Int32), P ((th + 1) % 3) = ii_I (c + u) → P ((th + 2) % 3) = ii_I (d + v) → P th = ii_I z → (-5000 ≤ u ∧ u ≤ 5000) → (-5000 ≤ v ∧ v ≤ 5000) →
      k + f ≤ 3000 → (∃ j, 1 ≤ j ∧ j ≤ f ∧ wk_it on (p * p + q * q) j (u, v) = (x, y)) →
      ((pl_wk on (p * p + q * q) c d (a_limits ((th + 1) % 3)).toInt (a_limits ((th + 2) % 3)).toInt x y f k u v).1 = 6 → ∀ P', post 6 (f_lines, f_fastest, f_gain, f_bend, f_ahead, f_mode, f_holds, f_pace, f_line, f_gone, f_dwellLeft, f_stepsInAll, f_ticksInAll, f_speed, f_present, f_laid, a_wordCounts, a_letters, a_values, a_limits, a_switches, a_tool, a_inForce, a_origins, a_given, a_rows, P', a_motions, a_thirds, a_centres, a_steps, a_paces, a_dwells, a_marks, a_nexts, a_joints)) →
      ((pl_wk on (p * p + q * q) c d (a_limits ((th + 1) % 3)).toInt (a_limits ((th + 2) % 3)).toInt x y f k u v).1 = 0 → ∀ P', post 0 (f_lines, f_fastest, f_gain, f_bend, f_ahead, f_mode, f_holds, f_pace, f_line, f_gone, f_dwellLeft, f_stepsInAll, f_ticksInAll, f_speed, f_present, f_laid, a_wordCounts, a_letters, a_values, a_limits, a_switches, a_tool, a_inForce, a_origins, a_given, a_rows, P', a_motions, a_thirds, a_centres, (upd a_steps n (nI (pl_wk on (p * p + q * q) c d (a_limits ((th + 1) % 3)).toInt (a_limits ((th + 2) % 3)).toInt x y f k u v).2)), a_paces, a_dwells, a_marks, a_nexts, a_joints)) →
      ∀ N, f < N → wX_walkRound_31 post (nI n) N (nI (k + 1)) f_lines f_fastest f_gain f_bend f_ahead f_mode f_holds f_pace f_line f_gone f_dwellLeft f_stepsInAll f_ticksInAll f_speed f_present f_laid a_wordCounts a_letters a_values a_limits a_switches a_tool a_inForce a_origins a_given a_rows P a_motions a_thirds a_centres a_steps a_paces a_dwells a_marks a_nexts a_joints := by
  have hfa : (th + 1) % 3 < 3 := Nat.mod_lt _ (by decide)
  have hfb : (th + 2) % 3 < 3 := Nat.mod_lt _ (by decide)
  have hne : (th + 2) % 3 ≠ (th + 1) % 3 := by omega
  have n1 : th ≠ (th + 1) % 3 := by omega
  have n2 : th ≠ (th + 2) % 3 := by omega
  have l1 := hl _ hfa
  have l2 := hl _ hfb
  have l3 := hl _ hth
  intro f
  induction f with
  | zero =>
    intro k u v P _ _ _ _ _ _ hj
    obtain ⟨j, j1, j2, _⟩ := hj
    omega
  | succ f ih =>
    intro k u v P P1 P2 P3 hu hv hk hj h6 h0 N hN
    obtain ⟨N, rfl⟩ : ∃ e, N = e + 1 := ⟨N - 1, by omega⟩
    rw [pl_wk] at h6 h0
    have hw : wk_nx on (p * p + q * q) (u, v) = wk_nx on (p * p + q * q) (u, v) := rfl
    revert hj h6 h0
    have wr := wk_nxr on (p * p + q * q) u v
    generalize ew : wk_nx on (p * p + q * q) (u, v) = w at *
    intro hj h6 h0
    refine br_f (nI_nlt (a := 1000000) (b := k + 1) (by omega) (by decide)) (xs_stprobe (on := on) (p := p) (q := q) (c := c) (d := d) (u := u) (v := v) hn hth ht hm hc hd hr hr2 P1 P2 hu hv hf ?_)
    rw [ew]
    have Q1 : upd (upd P ((th + 1) % 3) (ii_I (c + w.1))) ((th + 2) % 3) (ii_I (d + w.2)) ((th + 1) % 3) = ii_I (c + w.1) := by rw [pk_un (Ne.symm hne), pk_us]
    have Q2 : upd (upd P ((th + 1) % 3) (ii_I (c + w.1))) ((th + 2) % 3) (ii_I (d + w.2)) ((th + 2) % 3) = ii_I (d + w.2) := pk_us
    have Q3 : upd (upd P ((th + 1) % 3) (ii_I (c + w.1))) ((th + 2) % 3) (ii_I (d + w.2)) th = ii_I z := by rw [pk_un n2, pk_un n1, P3]
    generalize upd (upd P ((th + 1) % 3) (ii_I (c + w.1))) ((th + 2) % 3) (ii_I (d + w.2)) = P' at Q1 Q2 Q3 ⊢
    have out : sg_out a_limits P' = true ↔ (c + w.1 < 0 ∨ (a_limits ((th + 1) % 3)).toInt < c + w.1 ∨ d + w.2 < 0 ∨ (a_limits ((th + 2) % 3)).toInt < d + w.2) := by
      rw [sg_per hth, sg_ouI (by unfold ii_R; omega) Q1, sg_ouI (by unfold ii_R; omega) Q2, sg_ouI (by unfold ii_R; omega) Q3]
      omega
    have alls : (∀ a, a < 3 → P' a = a_rows (3 * (n + 1) + a)) ↔ (w.1 = x ∧ w.2 = y) := by
      constructor
      · intro h
        have e1 := h _ hfa
        have e2 := h _ hfb
        rw [Q1, ho, ii_eq (by unfold ii_R; omega) hx] at e1
        rw [Q2, ho2, ii_eq (by unfold ii_R; omega) hy] at e2
        omega
      · rintro ⟨e1, e2⟩
        refine sg_all (P := fun a => P' a = a_rows (3 * (n + 1) + a)) hth ?_ ?_ ?_
        · show P' _ = a_rows _
          rw [Q1, ho, e1]
        · show P' _ = a_rows _
          rw [Q2, ho2, e2]
        · show P' _ = a_rows _
          rw [Q3, ho3]
    show ∃ m, wX_walkRound_51 post (wX_walkRound_31 post (nI n) N) (nI n) (nI (k + 1)) f_lines f_fastest f_gain f_bend f_ahead f_mode f_holds f_pace f_line f_gone f_dwellLeft f_stepsInAll f_ticksInAll f_speed f_present f_laid a_wordCounts a_letters a_values a_limits a_switches a_tool a_inForce a_origins a_given a_rows P' a_motions a_thirds a_centres a_steps a_paces a_dwells a_marks a_nexts a_joints m 1 0
    refine xw_51 hn (fun e => ?_) (fun e g => ?_) (fun e g => ?_)
    · rw [if_pos (out.mp e)] at h6
      exact h6 rfl _
    · have no : ¬ (c + w.1 < 0 ∨ (a_limits ((th + 1) % 3)).toInt < c + w.1 ∨ d + w.2 < 0 ∨ (a_limits ((th + 2) % 3)).toInt < d + w.2) := by
        intro t; rw [out.mpr t] at e; exact absurd e (by decide)
      rw [if_neg no, if_pos (alls.mp g)] at h0
      exact h0 rfl _
    · have no : ¬ (c + w.1 < 0 ∨ (a_limits ((th + 1) % 3)).toInt < c + w.1 ∨ d + w.2 < 0 ∨ (a_limits ((th + 2) % 3)).toInt < d + w.2) := by
        intro t; rw [out.mpr t] at e; exact absurd e (by decide)
      have ng : ¬ (w.1 = x ∧ w.2 = y) := fun t => g (alls.mpr t)
      rw [if_neg no, if_neg ng] at h6 h0
      refine ih (k + 1) w.1 w.2 P' Q1 Q2 Q3 (by omega) (by omega) (by omega) ?_ h6 h0 N (by omega)
      obtain ⟨j, j1, j2, j3⟩ := hj
      obtain ⟨i, rfl⟩ : ∃ i, j = i + 1 := ⟨j - 1, by omega⟩
      have j4 : wk_it on (p * p + q * q) i w = (x, y) := by
        rw [← ew]; exact j3
      by_cases i0 : i = 0
      · subst i0
        exact absurd ⟨congrArg Prod.fst j4, congrArg Prod.snd j4⟩ ng
      · exact ⟨i, by omega, by omega, j4⟩
theorem xw_2s {post : Int32 → SX → Prop} {n a f : Nat} (hn : n < 30) (ha : a < 3)
    (h : wX_walkRound_2 post (nI n) f_lines f_fastest f_gain f_bend f_ahead f_mode f_holds f_pace f_line f_gone f_dwellLeft f_stepsInAll f_ticksInAll f_speed f_present f_laid f (nI (a + 1)) a_wordCounts a_letters a_values a_limits a_switches a_tool a_inForce a_origins a_given a_rows (upd a_probe a (a_rows (3 * n + a))) a_motions a_thirds a_centres a_steps a_paces a_dwells a_marks a_nexts a_joints) : wX_walkRound_2 post (nI n) f_lines f_fastest f_gain f_bend f_ahead f_mode f_holds f_pace f_line f_gone f_dwellLeft f_stepsInAll f_ticksInAll f_speed f_present f_laid (f + 1) (nI a) a_wordCounts a_letters a_values a_limits a_switches a_tool a_inForce a_origins a_given a_rows a_probe a_motions a_thirds a_centres a_steps a_paces a_dwells a_marks a_nexts a_joints := by
  refine br_f (ix_3a ha) ?_
  rw [ix_3, nI_clamp (show a < 2 ^ 31 by omega), nI_clamp (show 3 * n + a < 2 ^ 31 by omega)]
  exact ⟨vp_in_nI (by omega) (by omega), vp_in_nI ha (by decide), nm_e (nm_r (nI_1 a) h)⟩
theorem xw_2 {post : Int32 → SX → Prop} {n : Nat} (hn : n < 30)
    (h : ∀ P, (∀ a, a < 3 → P a = a_rows (3 * n + a)) → ∃ N, wX_walkRound_31 post (nI n) N 1 f_lines f_fastest f_gain f_bend f_ahead f_mode f_holds f_pace f_line f_gone f_dwellLeft f_stepsInAll f_ticksInAll f_speed f_present f_laid a_wordCounts a_letters a_values a_limits a_switches a_tool a_inForce a_origins a_given a_rows P a_motions a_thirds a_centres a_steps a_paces a_dwells a_marks a_nexts a_joints) : wpX_walkRound post (f_lines, f_fastest, f_gain, f_bend, f_ahead, f_mode, f_holds, f_pace, f_line, f_gone, f_dwellLeft, f_stepsInAll, f_ticksInAll, f_speed, f_present, f_laid, a_wordCounts, a_letters, a_values, a_limits, a_switches, a_tool, a_inForce, a_origins, a_given, a_rows, a_probe, a_motions, a_thirds, a_centres, a_steps, a_paces, a_dwells, a_marks, a_nexts, a_joints) (nI n) := by
  refine ⟨4, xw_2s (a := 0) hn (by decide) (xw_2s (a := 1) hn (by decide) (xw_2s (a := 2) hn (by decide) (br_t ix_33 (h _ ?_))))⟩
  exact fun a ha => co_3 (P := fun a => upd (upd (upd a_probe 0 (a_rows (3 * n + 0))) 1 (a_rows (3 * n + 1))) 2 (a_rows (3 * n + 2)) a = a_rows (3 * n + a)) rfl rfl rfl ha
end
end XWK
