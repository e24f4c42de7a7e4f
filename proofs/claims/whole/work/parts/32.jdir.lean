section JDR
def jd_ (tu : Int32) (fa fb : Nat) (he to : Nat → Int32) (c d : Int) (e : Bool) (a : Nat) : Int :=
  if tu = 0 then (to a).toInt - (he a).toInt
  else if a = fa then (if tu = 3 then -(((if e = true then to else he) fb).toInt - d) else ((if e = true then to else he) fb).toInt - d)
  else if a = fb then (if tu = 3 then ((if e = true then to else he) fa).toInt - c else -(((if e = true then to else he) fa).toInt - c))
  else 0
theorem jd_b {tu : Int32} {fa fb : Nat} {he to : Nat → Int32} {c d : Int} {e : Bool} (hfa : fa < 3) (hfb : fb < 3) (hh : ∀ a, a < 3 → 0 ≤ (he a).toInt ∧ (he a).toInt ≤ 1000) (ht : ∀ a, a < 3 → 0 ≤ (to a).toInt ∧ (to a).toInt ≤ 1000)
    (hc : ¬ tu = 0 → -300 ≤ c ∧ c ≤ 1300) (hd : ¬ tu = 0 → -300 ≤ d ∧ d ≤ 1300) : ∀ a, a < 3 → -2000 ≤ jd_ tu fa fb he to c d e a ∧ jd_ tu fa fb he to c d e a ≤ 2000 := by
  intro a ha
  have h1 := hh a ha
  have h2 := ht a ha
  have g : ∀ b, b < 3 → 0 ≤ ((if e = true then to else he) b).toInt ∧ ((if e = true then to else he) b).toInt ≤ 1000 := by
    intro b hb
    split
    · exact ht b hb
    · exact hh b hb
  have g1 := g fa hfa
  have g2 := g fb hfb
  unfold jd_
  split
  · omega
  · rename_i c0
    have := hc c0
    have := hd c0
    split
    · split <;> omega
    · split
      · split <;> omega
      · omega
theorem ii_d (x : Int32) (c : Int) : x - ii_I c = ii_I (x.toInt - c) := by rw [← ii_sub, ii_t]
theorem ii_dd (x y : Int32) : x - y = ii_I (x.toInt - y.toInt) := by rw [← ii_sub, ii_t, ii_t]
section
variable {f_lines f_fastest f_gain f_bend f_ahead f_mode f_holds f_pace f_line f_gone f_dwellLeft f_stepsInAll f_ticksInAll f_speed f_present f_laid : Int32} {a_wordCounts a_letters a_values a_limits a_switches a_tool a_inForce a_origins a_given a_rows a_probe a_motions a_thirds a_centres a_steps a_paces a_dwells a_marks a_nexts a_joints : Nat → Int32}
theorem xj_di {post : Int32 → Prop} {n row th a : Nat} {tu : Int32} {he to : Nat → Int32} {c d : Int} {e : Bool} (hn : n < 30) (hrow : row = if e = true then n + 1 else n) (hth : th < 3) (ha : a < 3)
    (ht : a_thirds n = nI th) (hm : (tu = 0 ∧ ¬ 2 ≤ a_motions n) ∨ (¬ tu = 0 ∧ a_motions n = tu ∧ (tu = 2 ∨ tu = 3)))
    (hhe : ∀ a, a < 3 → a_rows (3 * n + a) = he a) (hto : ∀ a, a < 3 → a_rows (3 * (n + 1) + a) = to a) (hc : ¬ tu = 0 → a_centres (2 * n) = ii_I c ∧ a_centres (2 * n + 1) = ii_I d)
    (h : post (ii_I (jd_ tu ((th + 1) % 3) ((th + 2) % 3) he to c d e a))) : wpX_direction post (f_lines, f_fastest, f_gain, f_bend, f_ahead, f_mode, f_holds, f_pace, f_line, f_gone, f_dwellLeft, f_stepsInAll, f_ticksInAll, f_speed, f_present, f_laid, a_wordCounts, a_letters, a_values, a_limits, a_switches, a_tool, a_inForce, a_origins, a_given, a_rows, a_probe, a_motions, a_thirds, a_centres, a_steps, a_paces, a_dwells, a_marks, a_nexts, a_joints) (nI n) (nI row) (nI a) := by
  have hfa : (th + 1) % 3 < 3 := Nat.mod_lt _ (by decide)
  have hfb : (th + 2) % 3 < 3 := Nat.mod_lt _ (by decide)
  have hr30 : row ≤ 30 := by rw [hrow]; split <;> omega
  have i30 : vp_in (nI n) 30 := vp_in_nI hn (by omega)
  have rw1 : ∀ b, b < 3 → a_rows (3 * row + b) = (if e = true then to else he) b := by
    intro b hb
    rw [hrow]
    cases e
    · exact hhe b hb
    · exact hto b hb
  unfold wpX_direction
  dsimp only
  rw [nI_clamp (show n < 2 ^ 31 by omega), ht]
  refine ⟨i30, br_c (fun g => ⟨i30, ?_⟩) (fun g => ?_)⟩
  · rcases hm with z | ⟨t0, em, t23⟩
    · exact absurd g z.2
    · obtain ⟨c1, c2⟩ := hc t0
      unfold jd_ at h
      rw [if_neg t0] at h
      refine br_c (fun k => ?_) (fun k => ⟨i30, by decide, nm_r (xs_m1 hth) ⟨i30, by decide, nm_r (xs_m2 hth) ?_⟩⟩)
      · have : a = th := (nI_eq (by omega) (by omega)).mp k
        rw [if_neg (by omega), if_neg (by omega)] at h
        exact h
      · have na : a ≠ th := fun z => k (by rw [z])
        rw [ix_3, ix_3, ix_21, ix_2, nI_clamp (show 3 * row + (th + 1) % 3 < 2 ^ 31 by omega), nI_clamp (show 3 * row + (th + 2) % 3 < 2 ^ 31 by omega), nI_clamp (show 2 * n < 2 ^ 31 by omega), nI_clamp (show 2 * n + 1 < 2 ^ 31 by omega), c1, c2, rw1 _ hfa, rw1 _ hfb]
        refine ⟨vp_in_nI (by omega) (by omega), vp_in_nI (by omega) (by omega), nm_r (ii_d _ _) ⟨vp_in_nI (by omega) (by omega), vp_in_nI (by omega) (by omega), nm_r (ii_d _ _) ?_⟩⟩
        unfold wX_direction_130
        rw [nI_clamp (show n < 2 ^ 31 by omega), em]
        refine br_c (fun y => ⟨i30, br_c (fun w => ?_) (fun w => ?_)⟩) (fun y => ⟨i30, br_c (fun w => ?_) (fun w => ?_)⟩)
        · rw [if_pos ((nI_eq (by omega) (by omega)).mp y), if_pos w] at h
          rw [ii_neg]; exact h
        · rw [if_pos ((nI_eq (by omega) (by omega)).mp y), if_neg w] at h
          rw [ii_neg, ii_neg, Int.neg_neg]; exact h
        · have y' : ¬ a = (th + 1) % 3 := fun z => y (by rw [z])
          rw [if_neg y', if_pos (by omega), if_pos w] at h
          exact h
        · have y' : ¬ a = (th + 1) % 3 := fun z => y (by rw [z])
          rw [if_neg y', if_pos (by omega), if_neg w] at h
          rw [ii_neg]; exact h
  · rcases hm with z | ⟨t0, em, t23⟩
    · unfold jd_ at h
      rw [if_pos z.1] at h
      rw [ix_3, ix_3s, nI_clamp (show 3 * n + a < 2 ^ 31 by omega), nI_clamp (show 3 * (n + 1) + a < 2 ^ 31 by omega), hhe a ha, hto a ha, ii_dd]
      exact ⟨vp_in_nI (by omega) (by omega), vp_in_nI (by omega) (by omega), h⟩
    · exfalso
      rw [em] at g
      rcases t23 with t | t <;> (rw [t] at g; exact g (by decide))
theorem xj_11 {post : Int32 → Prop} {n m : Nat} {P Q : Nat → Int} (hn : n < 30) (hm : m < 30) (hP : ∀ a, a < 3 → -2000 ≤ P a ∧ P a ≤ 2000) (hQ : ∀ a, a < 3 → -2000 ≤ Q a ∧ Q a ≤ 2000)
    (D1 : ∀ a, a < 3 → ∀ post : Int32 → Prop, post (ii_I (P a)) → wpX_direction post (f_lines, f_fastest, f_gain, f_bend, f_ahead, f_mode, f_holds, f_pace, f_line, f_gone, f_dwellLeft, f_stepsInAll, f_ticksInAll, f_speed, f_present, f_laid, a_wordCounts, a_letters, a_values, a_limits, a_switches, a_tool, a_inForce, a_origins, a_given, a_rows, a_probe, a_motions, a_thirds, a_centres, a_steps, a_paces, a_dwells, a_marks, a_nexts, a_joints) (nI n) (nI (n + 1)) (nI a)) (D2 : ∀ a, a < 3 → ∀ post : Int32 → Prop, post (ii_I (Q a)) → wpX_direction post (f_lines, f_fastest, f_gain, f_bend, f_ahead, f_mode, f_holds, f_pace, f_line, f_gone, f_dwellLeft, f_stepsInAll, f_ticksInAll, f_speed, f_present, f_laid, a_wordCounts, a_letters, a_values, a_limits, a_switches, a_tool, a_inForce, a_origins, a_given, a_rows, a_probe, a_motions, a_thirds, a_centres, a_steps, a_paces, a_dwells, a_marks, a_nexts, a_joints) (nI m) (nI m) (nI a))
    (h : post (jv_ f_bend P Q (a_paces n) (a_paces m))) : wpX_jointPace post (f_lines, f_fastest, f_gain, f_bend, f_ahead, f_mode, f_holds, f_pace, f_line, f_gone, f_dwellLeft, f_stepsInAll, f_ticksInAll, f_speed, f_present, f_laid, a_wordCounts, a_letters, a_values, a_limits, a_switches, a_tool, a_inForce, a_origins, a_given, a_rows, a_probe, a_motions, a_thirds, a_centres, a_steps, a_paces, a_dwells, a_marks, a_nexts, a_joints) (nI n) (nI m) := by
  have st : ∀ a f (x y z : Int), a < 3 → wX_jointPace_11 post (nI n) (nI m) f_lines f_fastest f_gain f_bend f_ahead f_mode f_holds f_pace f_line f_gone f_dwellLeft f_stepsInAll f_ticksInAll f_speed f_present f_laid a_wordCounts a_letters a_values a_limits a_switches a_tool a_inForce a_origins a_given a_rows a_probe a_motions a_thirds a_centres a_steps a_paces a_dwells a_marks a_nexts a_joints f (jl_J (x + P a * Q a)) (jl_J (y + P a * P a)) (jl_J (z + Q a * Q a)) (nI (a + 1)) → wX_jointPace_11 post (nI n) (nI m) f_lines f_fastest f_gain f_bend f_ahead f_mode f_holds f_pace f_line f_gone f_dwellLeft f_stepsInAll f_ticksInAll f_speed f_present f_laid a_wordCounts a_letters a_values a_limits a_switches a_tool a_inForce a_origins a_given a_rows a_probe a_motions a_thirds a_centres a_steps a_paces a_dwells a_marks a_nexts a_joints (f + 1) (jl_J x) (jl_J y) (jl_J z) (nI a) := by
    intro a f x y z ha k
    have p1 := hP a ha
    have q1 := hQ a ha
    refine br_f (ix_3a ha) ?_
    rw [nI_1 n]
    refine D1 a ha _ ?_
    refine D2 a ha _ ?_
    rw [jl_i (show ii_R (P a) by unfold ii_R; omega), jl_i (show ii_R (Q a) by unfold ii_R; omega), jl_mul, jl_mul, jl_mul, jl_add, jl_add, jl_add]
    exact nm_e (nm_e (nm_e (nm_r (nI_1 a) k)))
  refine ⟨4, st 0 3 0 0 0 (by decide) (st 1 2 _ _ _ (by decide) (st 2 1 _ _ _ (by decide) (br_t ix_33 ?_)))⟩
  have c := jv_b hP hQ
  have l0 : 0 < jl_J (jv_c P Q) ↔ 0 < jv_c P Q := jl_lt (a := 0) (by unfold jl_R; omega) (by unfold jl_R; omega)
  unfold jv_ at h
  rw [nI_clamp (show n < 2 ^ 31 by omega), nI_clamp (show m < 2 ^ 31 by omega)]
  refine br_c (fun g => ⟨vp_in_nI hn (by omega), vp_in_nI hm (by omega), br_c (fun k => ⟨vp_in_nI hm (by omega), ?_⟩) (fun k => ⟨vp_in_nI hn (by omega), ?_⟩)⟩) (fun g => ?_)
  · rw [if_pos (l0.mp g), if_pos k] at h; exact xj_113 hP hQ h
  · rw [if_pos (l0.mp g), if_neg k] at h; exact xj_113 hP hQ h
  · rw [if_neg (fun z => g (l0.mpr z))] at h; exact h
end
section
variable {f_lines f_fastest f_gain f_bend f_ahead f_speed f_seen f_state f_line f_pace f_left f_went f_allSteps f_allTicks f_u f_v f_holds : Int32} {a_letters a_values a_many a_tool a_began a_limit a_trips a_force a_origins a_here a_has a_grouped a_word a_from a_to a_steps a_paces a_dwells a_ends a_turn a_first a_second a_centre a_direction : Nat → Int32}
theorem yj_hd {post : SY → Prop} {n pl fa fb : Nat} {tu : Int32} {he to : Nat → Int32} {c d : Int} {e : Bool} (hn : n < 30) (hpl : pl ≤ 3) (hfa : fa < 3) (hfb : fb < 3) (hab : fb ≠ fa) (ht : a_turn n = tu)
    (hhe : ∀ a, a < 3 → a_from (3 * n + a) = he a) (hto : ∀ a, a < 3 → a_to (3 * n + a) = to a) (hc : ¬ tu = 0 → a_first n = nI fa ∧ a_second n = nI fb ∧ a_centre (2 * n) = ii_I c ∧ a_centre (2 * n + 1) = ii_I d)
    (h : ∀ D, (∀ a, a < 3 → D (pl + a) = ii_I (jd_ tu fa fb he to c d e a)) → (∀ k, (k < pl ∨ pl + 3 ≤ k) → D k = a_direction k) → post (f_lines, f_fastest, f_gain, f_bend, f_ahead, f_speed, f_seen, f_state, f_line, f_pace, f_left, f_went, f_allSteps, f_allTicks, f_u, f_v, f_holds, a_letters, a_values, a_many, a_tool, a_began, a_limit, a_trips, a_force, a_origins, a_here, a_has, a_grouped, a_word, a_from, a_to, a_steps, a_paces, a_dwells, a_ends, a_turn, a_first, a_second, a_centre, D)) :
    wpY_head post (f_lines, f_fastest, f_gain, f_bend, f_ahead, f_speed, f_seen, f_state, f_line, f_pace, f_left, f_went, f_allSteps, f_allTicks, f_u, f_v, f_holds, a_letters, a_values, a_many, a_tool, a_began, a_limit, a_trips, a_force, a_origins, a_here, a_has, a_grouped, a_word, a_from, a_to, a_steps, a_paces, a_dwells, a_ends, a_turn, a_first, a_second, a_centre, a_direction) (nI n) (bo_I e) (nI pl) := by
  have i30 : vp_in (nI n) 30 := vp_in_nI hn (by omega)
  have cl : (nI n).toNatClampNeg = n := nI_clamp (by omega)
  have st : ∀ a f D, a < 3 → wY_head_3 post (nI n) (bo_I e) (nI pl) f_lines f_fastest f_gain f_bend f_ahead f_speed f_seen f_state f_line f_pace f_left f_went f_allSteps f_allTicks f_u f_v f_holds f (nI (a + 1)) a_letters a_values a_many a_tool a_began a_limit a_trips a_force a_origins a_here a_has a_grouped a_word a_from a_to a_steps a_paces a_dwells a_ends a_turn a_first a_second a_centre (upd D (pl + a) (if tu = 0 then ii_I ((to a).toInt - (he a).toInt) else 0)) → wY_head_3 post (nI n) (bo_I e) (nI pl) f_lines f_fastest f_gain f_bend f_ahead f_speed f_seen f_state f_line f_pace f_left f_went f_allSteps f_allTicks f_u f_v f_holds (f + 1) (nI a) a_letters a_values a_many a_tool a_began a_limit a_trips a_force a_origins a_here a_has a_grouped a_word a_from a_to a_steps a_paces a_dwells a_ends a_turn a_first a_second a_centre D := by
    intro a f D ha k
    refine br_f (ix_3a ha) ⟨i30, ?_⟩
    rw [cl, ht, ix_y3, nI_add, nI_clamp (show 3 * n + a < 2 ^ 31 by omega), nI_clamp (show pl + a < 2 ^ 31 by omega), hhe a ha, hto a ha, ii_dd]
    refine br_c (fun z => ⟨vp_in_nI (by omega) (by omega), vp_in_nI (by omega) (by omega), vp_in_nI (by omega) (by omega), nm_e (nm_r (nI_1 a) ?_)⟩) (fun z => ⟨vp_in_nI (by omega) (by omega), nm_e (nm_r (nI_1 a) ?_)⟩)
    · rw [if_pos z] at k; exact k
    · rw [if_neg z] at k; exact k
  refine ⟨4, st 0 3 _ (by decide) (st 1 2 _ (by decide) (st 2 1 _ (by decide) (br_t ix_33 ⟨i30, ?_⟩)))⟩
  rw [cl, ht]
  refine br_c (fun z => h _ ?_ ?_) (fun z => ?_)
  · intro a ha
    unfold jd_
    rw [if_pos z, if_pos z, if_pos z, if_pos z]
    exact co_3 (P := fun a => upd (upd (upd a_direction (pl + 0) (ii_I ((to 0).toInt - (he 0).toInt))) (pl + 1) (ii_I ((to 1).toInt - (he 1).toInt))) (pl + 2) (ii_I ((to 2).toInt - (he 2).toInt)) (pl + a) = ii_I ((to a).toInt - (he a).toInt)) (by rw [pk_un (by omega), pk_un (by omega), pk_us]) (by rw [pk_un (by omega), pk_us]) pk_us ha
  · intro k hk
    rw [pk_un (by omega), pk_un (by omega), pk_un (by omega)]
  · obtain ⟨c1, c2, c3, c4⟩ := hc z
    rw [c1, c2]
    rw [if_neg z, if_neg z, if_neg z]
    refine ⟨i30, nm_e ⟨i30, nm_e ?_⟩⟩
    rw [ix_y3, nI_clamp (show 3 * n + fa < 2 ^ 31 by omega), hhe _ hfa, hto _ hfa]
    -- the base of the directions: nought on all three
    have B0 : ∀ a, a < 3 → upd (upd (upd a_direction (pl + 0) 0) (pl + 1) 0) (pl + 2) 0 (pl + a) = 0 := fun a ha => co_3 (P := fun a => upd (upd (upd a_direction (pl + 0) 0) (pl + 1) 0) (pl + 2) 0 (pl + a) = 0) (by rw [pk_un (by omega), pk_un (by omega), pk_us]) (by rw [pk_un (by omega), pk_us]) pk_us ha
    have B1 : ∀ k, (k < pl ∨ pl + 3 ≤ k) → upd (upd (upd a_direction (pl + 0) 0) (pl + 1) 0) (pl + 2) 0 k = a_direction k := by
      intro k hk
      rw [pk_un (by omega), pk_un (by omega), pk_un (by omega)]
    generalize upd (upd (upd a_direction (pl + 0) 0) (pl + 1) 0) (pl + 2) 0 = D0 at B0 B1 ⊢
    have fin : ∀ x y, (jd_ tu fa fb he to c d e fa = y) → (jd_ tu fa fb he to c d e fb = x) → post (f_lines, f_fastest, f_gain, f_bend, f_ahead, f_speed, f_seen, f_state, f_line, f_pace, f_left, f_went, f_allSteps, f_allTicks, f_u, f_v, f_holds, a_letters, a_values, a_many, a_tool, a_began, a_limit, a_trips, a_force, a_origins, a_here, a_has, a_grouped, a_word, a_from, a_to, a_steps, a_paces, a_dwells, a_ends, a_turn, a_first, a_second, a_centre, (upd (upd D0 (pl + fa) (ii_I y)) (pl + fb) (ii_I x))) := by
      intro x y ey ex
      refine h _ (fun a ha => ?_) (fun k hk => ?_)
      · by_cases w : a = fb
        · subst w; rw [pk_us, ex]
        · rw [pk_un (by omega)]
          by_cases w2 : a = fa
          · subst w2; rw [pk_us, ey]
          · rw [pk_un (by omega), B0 a ha]
            unfold jd_
            rw [if_neg z, if_neg w2, if_neg w]; rfl
      · rw [pk_un (by omega), pk_un (by omega)]; exact B1 k hk
    have g194 : ∀ x y y', x = ((if e = true then to else he) fa).toInt - c → y = ((if e = true then to else he) fb).toInt - d → y' = (if tu = 3 then -y else y) → wY_head_194 post (nI n) (nI pl) (nI fb) (ii_I x) (ii_I y') (nI (pl + fa)) f_lines f_fastest f_gain f_bend f_ahead f_speed f_seen f_state f_line f_pace f_left f_went f_allSteps f_allTicks f_u f_v f_holds a_letters a_values a_many a_tool a_began a_limit a_trips a_force a_origins a_here a_has a_grouped a_word a_from a_to a_steps a_paces a_dwells a_ends a_turn a_first a_second a_centre D0 := by
      intro x y y' e1 e2 e3
      unfold wY_head_194
      rw [cl, ht, nI_add, nI_clamp (show pl + fa < 2 ^ 31 by omega), nI_clamp (show pl + fb < 2 ^ 31 by omega)]
      refine ⟨vp_in_nI (by omega) (by omega), nm_e ⟨i30, br_c (fun w => ⟨vp_in_nI (by omega) (by omega), nm_e (fin x y' ?_ ?_)⟩) (fun w => ⟨vp_in_nI (by omega) (by omega), ?_⟩)⟩⟩
      · unfold jd_; rw [if_neg z, if_pos rfl, if_pos w, e3, if_pos w, e2]
      · unfold jd_; rw [if_neg z, if_neg hab, if_pos rfl, if_pos w, e1]
      · rw [ii_neg]
        refine nm_e (fin (-x) y' ?_ ?_)
        · unfold jd_; rw [if_neg z, if_pos rfl, if_neg w, e3, if_neg w, e2]
        · unfold jd_; rw [if_neg z, if_neg hab, if_pos rfl, if_neg w, e1]
    have g155 : ∀ x w, x = ((if e = true then to else he) fa).toInt - c → w = (if e = true then to else he) fb → wY_head_155 post (nI n) (nI pl) (nI fa) (nI fb) (ii_I x) w f_lines f_fastest f_gain f_bend f_ahead f_speed f_seen f_state f_line f_pace f_left f_went f_allSteps f_allTicks f_u f_v f_holds a_letters a_values a_many a_tool a_began a_limit a_trips a_force a_origins a_here a_has a_grouped a_word a_from a_to a_steps a_paces a_dwells a_ends a_turn a_first a_second a_centre D0 := by
      intro x w e1 e2
      subst e2
      unfold wY_head_155
      rw [ix_y21, nI_clamp (show 2 * n + 1 < 2 ^ 31 by omega), c4, ii_d, cl, ht, nI_add]
      refine ⟨vp_in_nI (by omega) (by omega), nm_e ⟨i30, br_c (fun w => ?_) (fun w => g194 x _ _ e1 rfl (by rw [if_neg w]))⟩⟩
      rw [ii_neg]
      exact g194 x _ _ e1 rfl (by rw [if_pos w])
    have g115 : ∀ w, w = (if e = true then to else he) fa → wY_head_115 post (nI n) (bo_I e) (nI pl) (nI fa) (nI fb) w f_lines f_fastest f_gain f_bend f_ahead f_speed f_seen f_state f_line f_pace f_left f_went f_allSteps f_allTicks f_u f_v f_holds a_letters a_values a_many a_tool a_began a_limit a_trips a_force a_origins a_here a_has a_grouped a_word a_from a_to a_steps a_paces a_dwells a_ends a_turn a_first a_second a_centre D0 := by
      intro w e2
      subst e2
      unfold wY_head_115
      rw [ix_y2, nI_clamp (show 2 * n < 2 ^ 31 by omega), c3, ii_d, ix_y3, nI_clamp (show 3 * n + fb < 2 ^ 31 by omega), hhe _ hfb, hto _ hfb]
      refine ⟨vp_in_nI (by omega) (by omega), nm_e (br_c (fun w => ⟨vp_in_nI (by omega) (by omega), g155 _ _ rfl ?_⟩) (fun w => ⟨vp_in_nI (by omega) (by omega), g155 _ _ rfl ?_⟩))⟩
      · rw [bo_yf w]; rfl
      · rw [bo_nf w]; rfl
    refine br_c (fun w => ⟨vp_in_nI (by omega) (by omega), g115 _ ?_⟩) (fun w => ⟨vp_in_nI (by omega) (by omega), g115 _ ?_⟩)
    · rw [bo_yf w]; rfl
    · rw [bo_nf w]; rfl
theorem yj_25 {post : Int32 → SY → Prop} {n m : Nat} {P Q : Nat → Int} (hn : n < 30) (hm : m < 30) (hP : ∀ a, a < 3 → -2000 ≤ P a ∧ P a ≤ 2000) (hQ : ∀ a, a < 3 → -2000 ≤ Q a ∧ Q a ≤ 2000)
    (d1 : ∀ a, a < 3 → a_direction a = ii_I (P a)) (d2 : ∀ a, a < 3 → a_direction (3 + a) = ii_I (Q a))
    (h : post (jv_ f_bend P Q (a_paces n) (a_paces m)) (f_lines, f_fastest, f_gain, f_bend, f_ahead, f_speed, f_seen, f_state, f_line, f_pace, f_left, f_went, f_allSteps, f_allTicks, f_u, f_v, f_holds, a_letters, a_values, a_many, a_tool, a_began, a_limit, a_trips, a_force, a_origins, a_here, a_has, a_grouped, a_word, a_from, a_to, a_steps, a_paces, a_dwells, a_ends, a_turn, a_first, a_second, a_centre, a_direction)) : ∃ k, wY_jointPace_25 post (nI n) (nI m) f_lines f_fastest f_gain f_bend f_ahead f_speed f_seen f_state f_line f_pace f_left f_went f_allSteps f_allTicks f_u f_v f_holds a_letters a_values a_many a_tool a_began a_limit a_trips a_force a_origins a_here a_has a_grouped a_word a_from a_to a_steps a_paces a_dwells a_ends a_turn a_first a_second a_centre a_direction k 0 0 0 0 := by
  have st : ∀ a f (x y z : Int), a < 3 → wY_jointPace_25 post (nI n) (nI m) f_lines f_fastest f_gain f_bend f_ahead f_speed f_seen f_state f_line f_pace f_left f_went f_allSteps f_allTicks f_u f_v f_holds a_letters a_values a_many a_tool a_began a_limit a_trips a_force a_origins a_here a_has a_grouped a_word a_from a_to a_steps a_paces a_dwells a_ends a_turn a_first a_second a_centre a_direction f (jl_J (x + P a * Q a)) (jl_J (y + P a * P a)) (jl_J (z + Q a * Q a)) (nI (a + 1)) → wY_jointPace_25 post (nI n) (nI m) f_lines f_fastest f_gain f_bend f_ahead f_speed f_seen f_state f_line f_pace f_left f_went f_allSteps f_allTicks f_u f_v f_holds a_letters a_values a_many a_tool a_began a_limit a_trips a_force a_origins a_here a_has a_grouped a_word a_from a_to a_steps a_paces a_dwells a_ends a_turn a_first a_second a_centre a_direction (f + 1) (jl_J x) (jl_J y) (jl_J z) (nI a) := by
    intro a f x y z ha k
    have p1 := hP a ha
    have q1 := hQ a ha
    have m1 := jv_m p1 q1
    have m2 := jv_m p1 p1
    have m3 := jv_m q1 q1
    refine br_f (ix_3a ha) ?_
    rw [show (3 : Int32) + nI a = nI (3 + a) from nI_add 3 a, nI_clamp (show a < 2 ^ 31 by omega), nI_clamp (show 3 + a < 2 ^ 31 by omega), d1 a ha, d2 a ha, ii_mul, ii_mul, ii_mul, jl_i (show ii_R (P a * Q a) by unfold ii_R; omega), jl_i (show ii_R (P a * P a) by unfold ii_R; omega), jl_i (show ii_R (Q a * Q a) by unfold ii_R; omega), jl_add, jl_add, jl_add]
    exact ⟨vp_in_nI (by omega) (by omega), vp_in_nI (by omega) (by omega), nm_e ⟨vp_in_nI (by omega) (by omega), vp_in_nI (by omega) (by omega), nm_e ⟨vp_in_nI (by omega) (by omega), vp_in_nI (by omega) (by omega), nm_e (nm_r (nI_1 a) k)⟩⟩⟩
  refine ⟨4, st 0 3 0 0 0 (by decide) (st 1 2 _ _ _ (by decide) (st 2 1 _ _ _ (by decide) (br_t ix_33 ?_)))⟩
  unfold jv_ at h
  rw [nI_clamp (show n < 2 ^ 31 by omega), nI_clamp (show m < 2 ^ 31 by omega)]
  refine ⟨vp_in_nI hn (by omega), vp_in_nI hm (by omega), br_c (fun k => ⟨vp_in_nI hm (by omega), ?_⟩) (fun k => ⟨vp_in_nI hn (by omega), ?_⟩)⟩
  · rw [if_pos k] at h; exact yj_134 hP hQ h
  · rw [if_neg k] at h; exact yj_134 hP hQ h
end
end JDR
