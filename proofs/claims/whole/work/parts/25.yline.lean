section YLN
theorem pl_too {F : Nat → Int32} {H : Nat → Bool} {W he he' og : Nat → Int32} {a b : Nat} : pl_to F H W (pl_o1 F H W he b og) he' a = pl_to F H W og he' a := by
  by_cases c : F 5 = 92
  · unfold pl_to
    rw [if_pos c, if_pos c]
  · have : pl_o1 F H W he b og = og := if_neg (fun z => c z.2)
    rw [this]
def pw_b5 (F : Nat → Int32) (H : Nat → Bool) (he to : Nat → Int32) (p q : Int) : Prop :=
  (H (5 + pl_fa F) = false ∧ H (5 + pl_fb F) = false ∨ H (2 + pl_ft F) = true ∨ H (5 + pl_ft F) = true) ∨ p * p + q * q = 0 ∨ 90000 < p * p + q * q ∨ ¬ ((to (pl_fa F)).toInt - (he (pl_fa F)).toInt - p) * ((to (pl_fa F)).toInt - (he (pl_fa F)).toInt - p) + ((to (pl_fb F)).toInt - (he (pl_fb F)).toInt - q) * ((to (pl_fb F)).toInt - (he (pl_fb F)).toInt - q) = p * p + q * q
def pw_wr (F : Nat → Int32) (H : Nat → Bool) (lim he to : Nat → Int32) (p q : Int) : Int32 × Nat :=
  pl_wk (decide (pl_tu F H = 3)) (p * p + q * q) ((he (pl_fa F)).toInt + p) ((he (pl_fb F)).toInt + q) (lim (pl_fa F)).toInt (lim (pl_fb F)).toInt ((to (pl_fa F)).toInt - (he (pl_fa F)).toInt - p) ((to (pl_fb F)).toInt - (he (pl_fb F)).toInt - q) 3000 0 (-p) (-q)
/-- what a line's laying out leaves in the reference: its own cells, and those below as they were -/
def yw_G (n : Nat) (F : Nat → Int32) (H : Nat → Bool) (W og he : Nat → Int32) (fs S : Int32) (p q : Int) (K : Nat) (fr0 to0 st0 pc0 dw0 en0 tu0 fi0 se0 ce0 og' he' fr to st pc dw en tu fi se ce : Nat → Int32) : Prop :=
  og' = pl_og F H W og he ∧ (∀ a, a < 3 → he' a = pl_to F H W og he a) ∧ (∀ a, a < 3 → fr (3 * n + a) = he a ∧ to (3 * n + a) = pl_to F H W og he a) ∧
  (st n = nI K ∧ pc n = pl_pc F S fs ∧ dw n = pl_dw F W ∧ en n = pl_en H W ∧ tu n = pl_tu F H) ∧
  (¬ pl_tu F H = 0 → fi n = nI (pl_fa F) ∧ se n = nI (pl_fb F) ∧ ce (2 * n) = ii_I ((he (pl_fa F)).toInt + p) ∧ ce (2 * n + 1) = ii_I ((he (pl_fb F)).toInt + q)) ∧
  (∀ k, k < 3 * n → fr k = fr0 k ∧ to k = to0 k) ∧ (∀ k, k < n → st k = st0 k ∧ pc k = pc0 k ∧ dw k = dw0 k ∧ en k = en0 k ∧ tu k = tu0 k ∧ fi k = fi0 k ∧ se k = se0 k) ∧ (∀ k, k < 2 * n → ce k = ce0 k)
section
variable {f_lines f_fastest f_gain f_bend f_ahead f_speed f_seen f_state f_line f_pace f_left f_went f_allSteps f_allTicks f_u f_v f_holds : Int32} {a_letters a_values a_many a_tool a_began a_limit a_trips a_force a_origins a_here a_has a_grouped a_word a_from a_to a_steps a_paces a_dwells a_ends a_turn a_first a_second a_centre a_direction : Nat → Int32}
theorem yw_l {post : Int32 → SY → Prop} {H : Nat → Bool} {W : Nat → Int32} {n : Nat} {p q : Int} (hn : n < 30) (hF : fc_FW a_force) (hH : ∀ i, i < 10 → a_has i = bo_I (H i)) (hW : ∀ i, i < 10 → H i = true → a_word i = W i) (h9 : a_force 5 = 4 → H 9 = true)
    (rhe : ∀ a, a < 3 → 0 ≤ (a_here a).toInt ∧ (a_here a).toInt ≤ (a_limit a).toInt) (rto : ∀ a, a < 3 → -100000 ≤ (pl_to a_force H W a_origins a_here a).toInt ∧ (pl_to a_force H W a_origins a_here a).toInt ≤ 100000) (hl : ∀ a, a < 3 → (a_limit a).toInt ≤ 1000)
    (hp : pl_ij a_force H W (pl_fa a_force) = ii_I p) (hq : pl_ij a_force H W (pl_fb a_force) = ii_I q) (rp : -15000 ≤ p ∧ p ≤ 15000) (rq : -15000 ≤ q ∧ q ≤ 15000)
    (hs6 : pl_tu a_force H = 0 → sg_out a_limit (pl_to a_force H W a_origins a_here) = true → ∀ og he fr to st pc dw en tu, (∀ k, k < 3 * n → to k = a_to k) → post 6 (f_lines, f_fastest, f_gain, f_bend, f_ahead, f_speed, f_seen, f_state, f_line, f_pace, f_left, f_went, f_allSteps, f_allTicks, f_u, f_v, f_holds, a_letters, a_values, a_many, a_tool, a_began, a_limit, a_trips, a_force, og, he, a_has, a_grouped, a_word, fr, to, st, pc, dw, en, tu, a_first, a_second, a_centre, a_direction))
    (hs0 : pl_tu a_force H = 0 → sg_out a_limit (pl_to a_force H W a_origins a_here) = false → ∀ og he fr to st pc dw en tu,
      yw_G n a_force H W a_origins a_here f_fastest f_speed p q (sg_mx a_here (pl_to a_force H W a_origins a_here)) a_from a_to a_steps a_paces a_dwells a_ends a_turn a_first a_second a_centre og he fr to st pc dw en tu a_first a_second a_centre →
      post 0 (f_lines, f_fastest, f_gain, f_bend, f_ahead, f_speed, f_seen, f_state, f_line, f_pace, f_left, f_went, f_allSteps, f_allTicks, f_u, f_v, f_holds, a_letters, a_values, a_many, a_tool, a_began, a_limit, a_trips, a_force, og, he, a_has, a_grouped, a_word, fr, to, st, pc, dw, en, tu, a_first, a_second, a_centre, a_direction))
    (hr5 : ¬ pl_tu a_force H = 0 → pw_b5 a_force H a_here (pl_to a_force H W a_origins a_here) p q → ∀ og he fr to st pc dw en tu, (∀ k, k < 3 * n → to k = a_to k) → post 5 (f_lines, f_fastest, f_gain, f_bend, f_ahead, f_speed, f_seen, f_state, f_line, f_pace, f_left, f_went, f_allSteps, f_allTicks, f_u, f_v, f_holds, a_letters, a_values, a_many, a_tool, a_began, a_limit, a_trips, a_force, og, he, a_has, a_grouped, a_word, fr, to, st, pc, dw, en, tu, a_first, a_second, a_centre, a_direction))
    (hr6 : ¬ pl_tu a_force H = 0 → ¬ pw_b5 a_force H a_here (pl_to a_force H W a_origins a_here) p q → (pw_wr a_force H a_limit a_here (pl_to a_force H W a_origins a_here) p q).1 = 6 →
      ∀ u v og he fr to st pc dw en tu fi se ce, (∀ k, k < 3 * n → to k = a_to k) → post 6 (f_lines, f_fastest, f_gain, f_bend, f_ahead, f_speed, f_seen, f_state, f_line, f_pace, f_left, f_went, f_allSteps, f_allTicks, u, v, f_holds, a_letters, a_values, a_many, a_tool, a_began, a_limit, a_trips, a_force, og, he, a_has, a_grouped, a_word, fr, to, st, pc, dw, en, tu, fi, se, ce, a_direction))
    (hr0 : ¬ pl_tu a_force H = 0 → ¬ pw_b5 a_force H a_here (pl_to a_force H W a_origins a_here) p q → (pw_wr a_force H a_limit a_here (pl_to a_force H W a_origins a_here) p q).1 = 0 →
      ∀ u v og he fr to st pc dw en tu fi se ce,
      yw_G n a_force H W a_origins a_here f_fastest f_speed p q (pw_wr a_force H a_limit a_here (pl_to a_force H W a_origins a_here) p q).2 a_from a_to a_steps a_paces a_dwells a_ends a_turn a_first a_second a_centre og he fr to st pc dw en tu fi se ce →
      post 0 (f_lines, f_fastest, f_gain, f_bend, f_ahead, f_speed, f_seen, f_state, f_line, f_pace, f_left, f_went, f_allSteps, f_allTicks, u, v, f_holds, a_letters, a_values, a_many, a_tool, a_began, a_limit, a_trips, a_force, og, he, a_has, a_grouped, a_word, fr, to, st, pc, dw, en, tu, fi, se, ce, a_direction)) :
    ∃ m, wY_workOut_31 post (nI n) (a_force 5) f_lines f_fastest f_gain f_bend f_ahead f_speed f_seen f_state f_line f_pace f_left f_went f_allSteps f_allTicks f_u f_v f_holds m 0 a_letters a_values a_many a_tool a_began a_limit a_trips a_force a_origins a_here a_has a_grouped a_word a_from a_to a_steps a_paces a_dwells a_ends a_turn a_first a_second a_centre a_direction := by
  have i30 : vp_in (nI n) 30 := vp_in_nI hn (by omega)
  have cl : (nI n).toNatClampNeg = n := nI_clamp (by omega)
  have toW : ∀ a, a < 3 → pl_to a_force H a_word a_origins a_here a = pl_to a_force H W a_origins a_here a := fun a ha => pl_toW (hW (2 + a) (by omega))
  have ogW : pl_og a_force H a_word a_origins a_here = pl_og a_force H W a_origins a_here := pl_ogW hW
  have rf : ∀ a, a < 3 → 0 ≤ (a_here a).toInt ∧ (a_here a).toInt ≤ 1000 := by
    intro a ha
    have := rhe a ha
    have := hl a ha
    omega
  -- the tail, behind the three axes
  have tail : ∀ fr to, (∀ a, a < 3 → fr (3 * n + a) = a_here a) → (∀ a, a < 3 → to (3 * n + a) = pl_to a_force H W a_origins a_here a) → (∀ k, k < 3 * n → fr k = a_from k ∧ to k = a_to k) →
      ∀ dw en pc, dw = pl_dw a_force W → en = pl_en H W → pc = pl_pc a_force f_speed f_fastest →
      wY_workOut_361 post (nI n) pc (nI n) f_lines f_fastest f_gain f_bend f_ahead f_speed f_seen f_state f_line f_pace f_left f_went f_allSteps f_allTicks f_u f_v f_holds a_letters a_values a_many a_tool a_began a_limit a_trips a_force (pl_og a_force H W a_origins a_here) a_here a_has a_grouped a_word fr to a_steps a_paces (upd a_dwells n dw) (upd a_ends n en) a_turn a_first a_second a_centre a_direction := by
    intro fr to f1 t1 ft dw en pc e1 e2 e3
    subst e1 e2 e3
    unfold wY_workOut_361
    rw [cl]
    refine ⟨i30, nm_e ⟨i30, nm_e ⟨i30, nm_e ?_⟩⟩⟩
    have str : pl_tu a_force H = 0 → wY_workOut_414 post (nI n) f_lines f_fastest f_gain f_bend f_ahead f_speed f_seen f_state f_line f_pace f_left f_went f_allSteps f_allTicks f_u f_v f_holds a_letters a_values a_many a_tool a_began a_limit a_trips a_force (pl_og a_force H W a_origins a_here) a_here a_has a_grouped a_word fr to (upd a_steps n 0) (upd a_paces n (pl_pc a_force f_speed f_fastest)) (upd a_dwells n (pl_dw a_force W)) (upd a_ends n (pl_en H W)) (upd a_turn n 0) a_first a_second a_centre a_direction := by
      intro t0
      unfold wY_workOut_414
      refine yw_st (fr := a_here) (to := pl_to a_force H W a_origins a_here) hn f1 t1 rf rto pk_us (fun e S => ?_) (fun e S s1 s2 => ?_)
      · exact yw_423 (to := pl_to a_force H W a_origins a_here) hn t1 (fun he _ => hs6 t0 e _ _ _ _ _ _ _ _ _ (fun k hk => (ft k hk).2))
      · refine yw_423 (to := pl_to a_force H W a_origins a_here) hn t1 (fun he hhe => hs0 t0 e _ _ _ _ _ _ _ _ _ ?_)
        refine ⟨rfl, hhe, fun a ha => ⟨f1 a ha, t1 a ha⟩, ⟨s1, pk_us, pk_us, pk_us, by rw [t0]; exact pk_us⟩, fun z => absurd t0 z, ft, fun k hk => ?_, fun _ _ => rfl⟩
        exact ⟨(s2 k (by omega)).trans (pk_un (by omega)), pk_un (by omega), pk_un (by omega), pk_un (by omega), pk_un (by omega), rfl, rfl⟩
    refine yl_mv hF hH (br_c (fun c => str ?_) (fun c => br_c (fun d => str ?_) (fun d => ⟨i30, ?_⟩)))
    · unfold pl_tu
      rw [if_neg (fun z => by rw [bo_yf c] at z; exact absurd z.1 (by decide))]
    · unfold pl_tu
      rw [if_neg (fun z => (fv_0y hF).mp d z.2)]
    · have tu : pl_tu a_force H = a_force 0 := by
        unfold pl_tu
        rw [if_pos ⟨bo_nf c, Decidable.byContradiction (fun z => d ((fv_0y hF).mpr z))⟩]
      have tn : ¬ pl_tu a_force H = 0 := by
        rw [tu]; intro z; rw [z] at d; exact d (by decide)
      have wre : ∀ w, w = pl_wk (decide (a_force 0 = 3)) (p * p + q * q) ((a_here (pl_fa a_force)).toInt + p) ((a_here (pl_fb a_force)).toInt + q) (a_limit (pl_fa a_force)).toInt (a_limit (pl_fb a_force)).toInt ((pl_to a_force H W a_origins a_here (pl_fa a_force)).toInt - (a_here (pl_fa a_force)).toInt - p) ((pl_to a_force H W a_origins a_here (pl_fb a_force)).toInt - (a_here (pl_fb a_force)).toInt - q) 3000 0 (-p) (-q) → w = pw_wr a_force H a_limit a_here (pl_to a_force H W a_origins a_here) p q := by
        intro w e
        unfold pw_wr
        rw [tu]; exact e
      refine nm_e ?_
      have hfa3 : pl_fa a_force < 3 ∧ pl_fb a_force < 3 := by
        unfold pl_fa pl_fb
        rcases fv_1 hF with e | e | e <;> rw [e] <;> decide
      have ijW : ∀ a, a < 3 → pl_ij a_force H a_word a = pl_ij a_force H W a := by
        intro a ha
        unfold pl_ij
        cases e : H (5 + a)
        · rfl
        · rw [hW (5 + a) (by omega) e]
      refine ys_ro (he := a_here) (to := pl_to a_force H W a_origins a_here) (p := p) (q := q) hn hF hH pk_us pk_us (fun _ _ => rfl) t1 rhe rto hl ((ijW _ hfa3.1).trans hp) ((ijW _ hfa3.2).trans hq) rp rq (fun b => ?_) (fun b w ew => ⟨fun z u v S fi se ce => ?_, fun z u v S s1 s2 => ?_⟩)
      · exact yw_423 (to := pl_to a_force H W a_origins a_here) hn t1 (fun he _ => hr5 tn b _ _ _ _ _ _ _ _ _ (fun k hk => (ft k hk).2))
      · rw [wre w ew] at z
        exact yw_423 (to := pl_to a_force H W a_origins a_here) hn t1 (fun he _ => hr6 tn b z _ _ _ _ _ _ _ _ _ _ _ _ _ _ (fun k hk => (ft k hk).2))
      · rw [wre w ew] at z s1
        refine yw_423 (to := pl_to a_force H W a_origins a_here) hn t1 (fun he hhe => hr0 tn b z _ _ _ _ _ _ _ _ _ _ _ _ _ _ ?_)
        refine ⟨rfl, hhe, fun a ha => ⟨f1 a ha, t1 a ha⟩, ⟨s1, pk_us, pk_us, pk_us, by rw [tu]; exact pk_us⟩, fun _ => ⟨pk_us, pk_us, by rw [pk_un (by omega), pk_us], pk_us⟩, ft, fun k hk => ?_, fun k hk => ?_⟩
        · exact ⟨(s2 k (by omega)).trans (pk_un (by omega)), pk_un (by omega), pk_un (by omega), pk_un (by omega), (pk_un (by omega)).trans (pk_un (by omega)), pk_un (by omega), pk_un (by omega)⟩
        · exact (pk_un (by omega)).trans (pk_un (by omega))
  have mid : ∀ fr to, (∀ a, a < 3 → fr (3 * n + a) = a_here a) → (∀ a, a < 3 → to (3 * n + a) = pl_to a_force H W a_origins a_here a) → (∀ k, k < 3 * n → fr k = a_from k ∧ to k = a_to k) →
      ∀ dw, dw = pl_dw a_force W → wY_workOut_273 post (nI n) (a_force 5) dw (nI n) f_lines f_fastest f_gain f_bend f_ahead f_speed f_seen f_state f_line f_pace f_left f_went f_allSteps f_allTicks f_u f_v f_holds a_letters a_values a_many a_tool a_began a_limit a_trips a_force (pl_og a_force H W a_origins a_here) a_here a_has a_grouped a_word fr to a_steps a_paces a_dwells a_ends a_turn a_first a_second a_centre a_direction := by
    intro fr to f1 t1 ft dw e1
    have g306 : ∀ en, en = pl_en H W → wY_workOut_306 post (nI n) (a_force 5) en (nI n) f_lines f_fastest f_gain f_bend f_ahead f_speed f_seen f_state f_line f_pace f_left f_went f_allSteps f_allTicks f_u f_v f_holds a_letters a_values a_many a_tool a_began a_limit a_trips a_force (pl_og a_force H W a_origins a_here) a_here a_has a_grouped a_word fr to a_steps a_paces (upd a_dwells n dw) a_ends a_turn a_first a_second a_centre a_direction := by
      intro en e2
      have t361 := fun pc => tail fr to f1 t1 ft dw en pc e1 e2
      unfold wY_workOut_306 wY_workOut_322 wY_workOut_327 wY_workOut_350
      rw [cl]
      have pf : (a_force 5 = 28 ∨ a_force 0 = 0 ∨ f_fastest < f_speed) → f_fastest = pl_pc a_force f_speed f_fastest := by
        intro z; unfold pl_pc; rw [if_pos z]
      refine ⟨i30, nm_e (br_c (fun c => br_f (by decide) (t361 _ (pf (Or.inl c)))) (fun c => br_c (fun d => br_f (by decide) (t361 _ (pf (Or.inr (Or.inl d))))) (fun d => br_t rfl (br_c (fun g => t361 _ ?_) (fun g => t361 _ (pf (Or.inr (Or.inr (Int32.not_le.mp g)))))))))⟩
      unfold pl_pc
      rw [if_neg]
      rintro (z | z | z)
      · exact c z
      · exact d z
      · exact Int32.not_lt.mpr g z
    unfold wY_workOut_273
    rw [cl, hH 1 (by decide)]
    unfold pl_en at g306
    refine ⟨i30, nm_e (br_c (fun c => ?_) (fun c => br_c (fun d => ?_) (fun d => ?_)))⟩
    · rw [if_pos (bo_yf c)] at g306; exact g306 _ rfl
    · rw [if_neg (by rw [bo_nf c]; decide), if_pos ((hW 1 (by decide) (bo_nf c)).symm.trans d)] at g306; exact g306 _ rfl
    · rw [if_neg (by rw [bo_nf c]; decide), if_neg (fun z => d ((hW 1 (by decide) (bo_nf c)).trans z))] at g306; exact g306 _ rfl
  refine ⟨4, yw_31 (a := 0) (H := H) hn (by decide) hF hH (fun T0 p0 q0 => yw_31 (a := 1) (H := H) hn (by decide) hF hH (fun T1 p1 q1 => yw_31 (a := 2) (H := H) hn (by decide) hF hH (fun T2 p2 q2 => ?_)))⟩
  rw [pl_too, toW 1 (by decide)] at p1
  rw [pl_too, pl_too, toW 2 (by decide)] at p2
  rw [toW 0 (by decide)] at p0
  have m := mid (upd (upd (upd a_from (3 * n + 0) (a_here 0)) (3 * n + 1) (a_here 1)) (3 * n + 2) (a_here 2)) T2
    (fun a ha => co_3 (P := fun a => upd (upd (upd a_from (3 * n + 0) (a_here 0)) (3 * n + 1) (a_here 1)) (3 * n + 2) (a_here 2) (3 * n + a) = a_here a) (by rw [pk_un (by omega), pk_un (by omega), pk_us]) (by rw [pk_un (by omega), pk_us]) pk_us ha)
    (fun a ha => co_3 (P := fun a => T2 (3 * n + a) = pl_to a_force H W a_origins a_here a) ((q2 _ (by omega)).trans ((q1 _ (by omega)).trans p0)) ((q2 _ (by omega)).trans p1) p2 ha)
    (fun k hk => ⟨(pk_un (by omega)).trans ((pk_un (by omega)).trans (pk_un (by omega))), (q2 k (by omega)).trans ((q1 k (by omega)).trans (q0 k (by omega)))⟩)
  rw [← ogW] at m
  refine br_t ix_33 (br_c (fun c => m _ ?_) (fun c => m _ ?_))
  · unfold pl_dw; rw [if_pos c]; exact hW 9 (by decide) (h9 c)
  · unfold pl_dw; rw [if_neg c]
end
end YLN
