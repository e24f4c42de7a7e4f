section YPC
def yr_ (L V M lim s0 : Nat → Int32) (fs : Int32) (N : Nat) (seen : Int32) (fr to st pc dw en tu fi se ce : Nat → Int32) : Prop := seen = nI N ∧ yz_L L V M lim fs s0 N fr to st pc dw en tu fi se ce
section
variable {f_lines f_fastest f_gain f_bend f_ahead f_speed f_seen f_state f_line f_pace f_left f_went f_allSteps f_allTicks f_u f_v f_holds : Int32} {a_letters a_values a_many a_tool a_began a_limit a_trips a_force a_origins a_here a_has a_grouped a_word a_from a_to a_steps a_paces a_dwells a_ends a_turn a_first a_second a_centre a_direction : Nat → Int32}
theorem yf_ov {post : Int32 → Prop} {s0 : Nat → Int32} {N n : Nat} (K : rn_K a_letters a_values a_many a_limit s0 f_fastest f_bend N) (hY : yr_ a_letters a_values a_many a_limit s0 f_fastest N f_seen a_from a_to a_steps a_paces a_dwells a_ends a_turn a_first a_second a_centre) (hn : n < N)
    (h : post (nj_I (rn_x a_letters a_values a_many a_limit s0 N n))) : wpY_over post (f_lines, f_fastest, f_gain, f_bend, f_ahead, f_speed, f_seen, f_state, f_line, f_pace, f_left, f_went, f_allSteps, f_allTicks, f_u, f_v, f_holds, a_letters, a_values, a_many, a_tool, a_began, a_limit, a_trips, a_force, a_origins, a_here, a_has, a_grouped, a_word, a_from, a_to, a_steps, a_paces, a_dwells, a_ends, a_turn, a_first, a_second, a_centre, a_direction) (nI n) := by
  have N30 : N ≤ 30 := K.2.2.2.2.1
  refine ⟨31, yj_ov (s := px_st a_letters a_values a_many a_limit s0) (d := rn_d a_letters a_values a_many s0) (e := px_en a_letters a_values a_many) N30 hY.1 (fun m hm => ⟨(hY.2.2 m hm).1, by have := rk_s K hm; omega⟩) (fun m hm => ?_) (fun m hm => (hY.2.2 m hm).2.2.2.1) 30 n hn (by omega) h⟩
  rw [(hY.2.2 m hm).2.2.1, Int32.not_le]
  exact decide_eq_true_iff
theorem yf_jp {post : Int32 → SY → Prop} {s0 : Nat → Int32} {N n m : Nat} (K : rn_K a_letters a_values a_many a_limit s0 f_fastest f_bend N) (hY : yr_ a_letters a_values a_many a_limit s0 f_fastest N f_seen a_from a_to a_steps a_paces a_dwells a_ends a_turn a_first a_second a_centre) (hn : n < N) (hm : m < N)
    (h : ∀ D, post (rn_P a_letters a_values a_many s0 f_fastest f_bend n m) (f_lines, f_fastest, f_gain, f_bend, f_ahead, f_speed, f_seen, f_state, f_line, f_pace, f_left, f_went, f_allSteps, f_allTicks, f_u, f_v, f_holds, a_letters, a_values, a_many, a_tool, a_began, a_limit, a_trips, a_force, a_origins, a_here, a_has, a_grouped, a_word, a_from, a_to, a_steps, a_paces, a_dwells, a_ends, a_turn, a_first, a_second, a_centre, D)) : wpY_jointPace post (f_lines, f_fastest, f_gain, f_bend, f_ahead, f_speed, f_seen, f_state, f_line, f_pace, f_left, f_went, f_allSteps, f_allTicks, f_u, f_v, f_holds, a_letters, a_values, a_many, a_tool, a_began, a_limit, a_trips, a_force, a_origins, a_here, a_has, a_grouped, a_word, a_from, a_to, a_steps, a_paces, a_dwells, a_ends, a_turn, a_first, a_second, a_centre, a_direction) (nI n) (nI m) := by
  have N30 : N ≤ 30 := K.2.2.2.2.1
  have tr := fun k => fv_tr (fc_F a_letters a_values a_many s0 k)
  have ne : ∀ k, pl_fb (px_F a_letters a_values a_many s0 k) ≠ pl_fa (px_F a_letters a_values a_many s0 k) := by
    intro k
    unfold pl_fa pl_fb
    rcases fv_1 (fc_F a_letters a_values a_many s0 k) with e | e | e <;> rw [e] <;> decide
  obtain ⟨_, a2, _, _, a5, a6⟩ := hY.2.2 n hn
  obtain ⟨_, b2, _, _, b5, b6⟩ := hY.2.2 m hm
  refine yj_hd (pl := 0) (e := true) (he := px_he a_letters a_values a_many s0 n) (to := px_he a_letters a_values a_many s0 (n + 1)) (c := px_c a_letters a_values a_many s0 n) (d := px_d a_letters a_values a_many s0 n) (by omega) (by omega) (tr n).1 (tr n).2.1 (ne n) a5 (fun a ha => (hY.2.1 n hn a ha).1) (fun a ha => (hY.2.1 n hn a ha).2) a6 (fun D D1 D2 => ?_)
  refine yj_hd (pl := 3) (e := false) (he := px_he a_letters a_values a_many s0 m) (to := px_he a_letters a_values a_many s0 (m + 1)) (c := px_c a_letters a_values a_many s0 m) (d := px_d a_letters a_values a_many s0 m) (by omega) (by omega) (tr m).1 (tr m).2.1 (ne m) b5 (fun a ha => (hY.2.1 m hm a ha).1) (fun a ha => (hY.2.1 m hm a ha).2) b6 (fun E E1 E2 => ?_)
  refine yj_25 (by omega) (by omega) (rk_D K hn true) (rk_D K hm false) (fun a ha => ?_) E1 ?_
  · rw [E2 a (Or.inl (by omega))]
    have := D1 a ha
    rw [Nat.zero_add] at this
    exact this
  · rw [a2, b2]; exact h E
theorem yf_29 {post : Int32 → SY → Prop} {s0 : Nat → Int32} {N g ah x : Nat} (K : rn_K a_letters a_values a_many a_limit s0 f_fastest f_bend N) (hY : yr_ a_letters a_values a_many a_limit s0 f_fastest N f_seen a_from a_to a_steps a_paces a_dwells a_ends a_turn a_first a_second a_centre)
    (hg : 0 < g ∧ g ≤ 200) (ha : ah ≤ 6) (hx : x ≤ 2200) :
    ∀ a k n r D, k + a = ah + 1 → n < N → r ≤ 3000000 * (k + 1) →
      (∀ D, post (bo_I (sp_ft g (px_st a_letters a_values a_many a_limit s0) (rn_j a_letters a_values a_many a_limit s0 f_fastest f_bend N) (rn_x a_letters a_values a_many a_limit s0 N) a n r x)) (f_lines, f_fastest, (nI g), f_bend, (nI ah), f_speed, f_seen, f_state, f_line, f_pace, f_left, f_went, f_allSteps, f_allTicks, f_u, f_v, f_holds, a_letters, a_values, a_many, a_tool, a_began, a_limit, a_trips, a_force, a_origins, a_here, a_has, a_grouped, a_word, a_from, a_to, a_steps, a_paces, a_dwells, a_ends, a_turn, a_first, a_second, a_centre, D)) →
      wY_fits_29 post (nI x) (a + 1) (lN r) (nI n) (nI k) f_lines f_fastest (nI g) f_bend (nI ah) f_speed f_seen f_state f_line f_pace f_left f_went f_allSteps f_allTicks f_u f_v f_holds a_letters a_values a_many a_tool a_began a_limit a_trips a_force a_origins a_here a_has a_grouped a_word a_from a_to a_steps a_paces a_dwells a_ends a_turn a_first a_second a_centre D := by
  have N30 : N ≤ 30 := K.2.2.2.2.1
  intro a
  induction a with
  | zero =>
    intro k n r D hk hn hr h
    exact br_t (nI_lt (by omega) (by omega)) (h D)
  | succ a ih =>
    intro k n r D hk hn hr h
    have j2 := (rk_j K hn).1
    have r30 : r < 2 ^ 30 := by
      have : r ≤ 3000000 * 8 := Nat.le_trans hr (Nat.mul_le_mul_left _ (by omega))
      omega
    rw [sp_ft] at h
    -- behind this end
    have g137 : ∀ D, sp_fit g r (if a = 0 then 0 else rn_j a_letters a_values a_many a_limit s0 f_fastest f_bend N n) x = true → wY_fits_137 post (wY_fits_29 post (nI x) (a + 1)) (nI x) (lN r) (nI k) (nj_I (rn_x a_letters a_values a_many a_limit s0 N n)) f_lines f_fastest (nI g) f_bend (nI ah) f_speed f_seen f_state f_line f_pace f_left f_went f_allSteps f_allTicks f_u f_v f_holds a_letters a_values a_many a_tool a_began a_limit a_trips a_force a_origins a_here a_has a_grouped a_word a_from a_to a_steps a_paces a_dwells a_ends a_turn a_first a_second a_centre D := by
      intro D hf
      rw [hf, Bool.true_and] at h
      unfold wY_fits_137
      cases e : rn_x a_letters a_values a_many a_limit s0 N n with
      | none =>
        rw [e] at h
        exact br_f (by decide) (h D)
      | some m =>
        rw [e] at h
        obtain ⟨m1, m2, m3⟩ := rk_x n m e
        have sm := rk_s K m2
        rw [show nj_I (some m) = nI m from rfl, nI_clamp (show m < 2 ^ 31 by omega), (hY.2.2 m m2).1]
        refine br_t (nI_pos' (by omega)) ⟨vp_in_nI (by omega) (by omega), nm_r (e' := lN (r + 1000 * px_st a_letters a_values a_many a_limit s0 m)) ?_ (nm_r (nI_1 k) (ih (k + 1) m _ D (by omega) m2 (by omega) h))⟩
        rw [show (1000 : Int32) = nI 1000 from rfl, pk_mul, nI_l (by omega), lN_add]
    have g72 : ∀ D w, w = (if a = 0 then 0 else rn_j a_letters a_values a_many a_limit s0 f_fastest f_bend N n) → wY_fits_72 post (wY_fits_29 post (nI x) (a + 1)) (nI x) (lN r) (nI k) (nj_I (rn_x a_letters a_values a_many a_limit s0 N n)) (nI w) f_lines f_fastest (nI g) f_bend (nI ah) f_speed f_seen f_state f_line f_pace f_left f_went f_allSteps f_allTicks f_u f_v f_holds a_letters a_values a_many a_tool a_began a_limit a_trips a_force a_origins a_here a_has a_grouped a_word a_from a_to a_steps a_paces a_dwells a_ends a_turn a_first a_second a_centre D := by
      intro D w ew
      have w2 : w ≤ 2000 := by rw [ew]; split <;> omega
      have lw : nI x ≤ nI w ↔ x ≤ w := nI_leI (by omega) (by omega)
      unfold wY_fits_72
      refine br_c (fun c => ?_) (fun c => ⟨nI_ne0 hg.1 (by omega), ?_⟩)
      · unfold wY_fits_96
        refine br_t c (g137 D (decide_eq_true (Or.inl ?_)))
        rw [← ew]; exact lw.mp c
      · have hwx : w < x := by rw [lw] at c; omega
        obtain ⟨b1, b2, b3, b4⟩ := sp_bnd (g := g) (w := w) (x := x) hx hg.2 hg.1
        have sb := sp_sub (g := g) hwx
        have ei : ((nI x - nI w - 1) / nI g).toInt64 = lN (sp_i g w x) := by
          rw [pk_sub (a := x) (b := w) (by omega), show (1 : Int32) = nI 1 from rfl, pk_sub (a := x - w) (b := 1) (by omega), pk_div (a := x - w - 1) (d := g) (by omega) hg.1 (by omega), nI_l (Nat.lt_of_le_of_lt (Nat.div_le_self _ _) (by omega))]; rfl
        rw [ei]
        unfold wY_fits_96
        have es : (nI x).toInt64 + lN (sp_i g w x) * (nI x).toInt64 - (nI g).toInt64 * (lN (sp_i g w x) * (lN (sp_i g w x) + 1) / 2) = lN (sp_br g w x) := by
          rw [nI_l (show x < 2 ^ 31 by omega), nI_l (show g < 2 ^ 31 by omega), lN_1, lN_mul, lN_mul, show (2 : Int64) = lN 2 from rfl, pk_lDiv (by omega) (by decide) (by decide), lN_mul, lN_add, lN_sub (by omega)]
          congr 1
          unfold sp_br
          omega
        rw [es]
        have bb : sp_br g w x ≤ 5000000 := by unfold sp_br; omega
        refine br_f c ⟨by decide, br_c (fun d => g137 D (decide_eq_true (Or.inr ?_))) (fun d => ?_)⟩
        · rw [← ew]; exact (pk_lLE (by omega) (by omega)).mp d
        · have nf : sp_fit g r (if a = 0 then 0 else rn_j a_letters a_values a_many a_limit s0 f_fastest f_bend N n) x = false := by
            refine decide_eq_false ?_
            rw [← ew]
            have : ¬ sp_br g w x ≤ r := fun z => d ((pk_lLE (by omega) (by omega)).mpr z)
            omega
          rw [nf, Bool.false_and] at h
          exact h D
    refine br_f (nI_nlt (by omega) (by omega)) (yf_ov K hY hn (br_c (fun c => ?_) (fun c => ?_)))
    · rw [nI_eq (by omega) (by omega)] at c
      unfold wY_fits_60
      exact g72 D 0 (by rw [if_pos (by omega)])
    · rw [nI_eq (by omega) (by omega)] at c
      cases e : rn_x a_letters a_values a_many a_limit s0 N n with
      | none =>
        refine br_f (by decide) ?_
        unfold wY_fits_60
        have := g72 D 0 (by rw [if_neg (by omega)]; unfold rn_j; rw [e])
        rw [e] at this
        exact this
      | some m =>
        obtain ⟨m1, m2, m3⟩ := rk_x n m e
        refine br_t (nI_pos' (n := m) (by omega)) ?_
        refine yf_jp K hY hn m2 (fun D' => ?_)
        rw [(rk_j K hn).2 m e]
        have := g72 D' _ rfl
        rw [e, if_neg (by omega)] at this
        exact this
theorem yf_fi {post : Int32 → SY → Prop} {s0 : Nat → Int32} {N g ah x n go : Nat} (K : rn_K a_letters a_values a_many a_limit s0 f_fastest f_bend N) (hY : yr_ a_letters a_values a_many a_limit s0 f_fastest N f_seen a_from a_to a_steps a_paces a_dwells a_ends a_turn a_first a_second a_centre)
    (hg : 0 < g ∧ g ≤ 200) (ha : ah ≤ 6) (hx : x ≤ 2200) (hn : n < N) (ho : go ≤ 1000 * px_st a_letters a_values a_many a_limit s0 n)
    (h : ∀ D, post (bo_I (sp_ft g (px_st a_letters a_values a_many a_limit s0) (rn_j a_letters a_values a_many a_limit s0 f_fastest f_bend N) (rn_x a_letters a_values a_many a_limit s0 N) ah n (1000 * px_st a_letters a_values a_many a_limit s0 n - go) x)) (f_lines, f_fastest, (nI g), f_bend, (nI ah), f_speed, f_seen, f_state, (nI n), f_pace, f_left, (nI go), f_allSteps, f_allTicks, f_u, f_v, f_holds, a_letters, a_values, a_many, a_tool, a_began, a_limit, a_trips, a_force, a_origins, a_here, a_has, a_grouped, a_word, a_from, a_to, a_steps, a_paces, a_dwells, a_ends, a_turn, a_first, a_second, a_centre, D)) :
    wpY_fits post (f_lines, f_fastest, (nI g), f_bend, (nI ah), f_speed, f_seen, f_state, (nI n), f_pace, f_left, (nI go), f_allSteps, f_allTicks, f_u, f_v, f_holds, a_letters, a_values, a_many, a_tool, a_began, a_limit, a_trips, a_force, a_origins, a_here, a_has, a_grouped, a_word, a_from, a_to, a_steps, a_paces, a_dwells, a_ends, a_turn, a_first, a_second, a_centre, a_direction) (nI x) := by
  have N30 : N ≤ 30 := K.2.2.2.2.1
  have sn := rk_s K hn
  unfold wpY_fits
  dsimp only
  rw [nI_clamp (show n < 2 ^ 31 by omega), (hY.2.2 n hn).1]
  refine ⟨vp_in_nI (by omega) (by omega), nm_r (e' := lN (1000 * px_st a_letters a_values a_many a_limit s0 n - go)) ?_ ⟨ah + 1, ?_⟩⟩
  · rw [show (1000 : Int32) = nI 1000 from rfl, pk_mul, pk_sub ho, nI_l (by omega)]
  · exact yf_29 (f_line := nI n) (f_went := nI go) K hY hg ha hx ah 1 n _ _ (by omega) hn (by omega) h
theorem yf_52 {post : SY → Prop} {s0 : Nat → Int32} {N g ah n go : Nat} (K : rn_K a_letters a_values a_many a_limit s0 f_fastest f_bend N) (hY : yr_ a_letters a_values a_many a_limit s0 f_fastest N f_seen a_from a_to a_steps a_paces a_dwells a_ends a_turn a_first a_second a_centre)
    (hg : 0 < g ∧ g ≤ 200) (ha : ah ≤ 6) (hn : n < N) (ho : go ≤ 1000 * px_st a_letters a_values a_many a_limit s0 n) :
    ∀ x D, x ≤ 2200 → (∀ D, wY_run_70 post (nI (sp_gr (sp_ft g (px_st a_letters a_values a_many a_limit s0) (rn_j a_letters a_values a_many a_limit s0 f_fastest f_bend N) (rn_x a_letters a_values a_many a_limit s0 N) ah n (1000 * px_st a_letters a_values a_many a_limit s0 n - go)) x)) f_lines f_fastest (nI g) f_bend (nI ah) f_speed f_seen f_state (nI n) f_pace f_left (nI go) f_allSteps f_allTicks f_u f_v f_holds a_letters a_values a_many a_tool a_began a_limit a_trips a_force a_origins a_here a_has a_grouped a_word a_from a_to a_steps a_paces a_dwells a_ends a_turn a_first a_second a_centre D) →
      wY_run_52 post (x + 1) (nI x) f_lines f_fastest (nI g) f_bend (nI ah) f_speed f_seen f_state (nI n) f_pace f_left (nI go) f_allSteps f_allTicks f_u f_v f_holds a_letters a_values a_many a_tool a_began a_limit a_trips a_force a_origins a_here a_has a_grouped a_word a_from a_to a_steps a_paces a_dwells a_ends a_turn a_first a_second a_centre D := by
  intro x
  induction x with
  | zero => intro D _ h; exact br_t (by decide) (h D)
  | succ x ih =>
    intro D hx h
    refine br_f (nI_nle (by omega) (by omega)) (yf_fi K hY hg ha hx hn ho (fun D' => ?_))
    cases e : sp_ft g (px_st a_letters a_values a_many a_limit s0) (rn_j a_letters a_values a_many a_limit s0 f_fastest f_bend N) (rn_x a_letters a_values a_many a_limit s0 N) ah n (1000 * px_st a_letters a_values a_many a_limit s0 n - go) (x + 1)
    · refine br_t rfl (nm_r (pk_m1 x) (ih D' (by omega) (fun D2 => ?_)))
      have := h D2
      rw [sp_grf e] at this
      exact this
    · refine br_f bo_ne ?_
      have := h D'
      rw [sp_grs e] at this
      exact this
/-- the reference's run, down to the tool's going -/
theorem yf_rn {post : SY → Prop} {s0 : Nat → Int32} {N g ah n go p pc : Nat} (K : rn_K a_letters a_values a_many a_limit s0 f_fastest f_bend N) (hY : yr_ a_letters a_values a_many a_limit s0 f_fastest N f_seen a_from a_to a_steps a_paces a_dwells a_ends a_turn a_first a_second a_centre)
    (hg : 0 < g ∧ g ≤ 200) (ha : ah ≤ 6) (hn : n < N) (ho : go ≤ 1000 * px_st a_letters a_values a_many a_limit s0 n) (hp : p ≤ 2000) (epc : px_pc a_letters a_values a_many f_fastest s0 n = nI pc) (hpc : pc ≤ 2000)
    (h : ∀ D, ∃ m, wY_run_88 post m (nI (sp_np g (px_st a_letters a_values a_many a_limit s0) (rn_j a_letters a_values a_many a_limit s0 f_fastest f_bend N) (rn_x a_letters a_values a_many a_limit s0 N) ah n (1000 * px_st a_letters a_values a_many a_limit s0 n - go) (xp_u f_holds p g pc))) f_lines f_fastest (nI g) f_bend (nI ah) f_speed f_seen f_state (nI n) (nI (sp_np g (px_st a_letters a_values a_many a_limit s0) (rn_j a_letters a_values a_many a_limit s0 f_fastest f_bend N) (rn_x a_letters a_values a_many a_limit s0 N) ah n (1000 * px_st a_letters a_values a_many a_limit s0 n - go) (xp_u f_holds p g pc))) f_left (nI go) f_allSteps f_allTicks f_u f_v f_holds a_letters a_values a_many a_tool a_began a_limit a_trips a_force a_origins a_here a_has a_grouped a_word a_from a_to a_steps a_paces a_dwells a_ends a_turn a_first a_second a_centre D) :
    wpY_run post (f_lines, f_fastest, (nI g), f_bend, (nI ah), f_speed, f_seen, f_state, (nI n), (nI p), f_left, (nI go), f_allSteps, f_allTicks, f_u, f_v, f_holds, a_letters, a_values, a_many, a_tool, a_began, a_limit, a_trips, a_force, a_origins, a_here, a_has, a_grouped, a_word, a_from, a_to, a_steps, a_paces, a_dwells, a_ends, a_turn, a_first, a_second, a_centre, a_direction) := by
  have N30 : N ≤ 30 := K.2.2.2.2.1
  have i30 : vp_in (nI n) 30 := vp_in_nI (by omega) (by omega)
  have cl : (nI n).toNatClampNeg = n := nI_clamp (by omega)
  have u2 : xp_u f_holds p g pc ≤ 2000 := by unfold xp_u; omega
  rw [← sp_ftnp hg.1] at h
  have gl : sp_gr (sp_ft g (px_st a_letters a_values a_many a_limit s0) (rn_j a_letters a_values a_many a_limit s0 f_fastest f_bend N) (rn_x a_letters a_values a_many a_limit s0 N) ah n (1000 * px_st a_letters a_values a_many a_limit s0 n - go)) (xp_u f_holds p g pc) ≤ 2000 := Nat.le_trans (sp_grle _ _) u2
  have g70 : ∀ D, wY_run_70 post (nI (sp_gr (sp_ft g (px_st a_letters a_values a_many a_limit s0) (rn_j a_letters a_values a_many a_limit s0 f_fastest f_bend N) (rn_x a_letters a_values a_many a_limit s0 N) ah n (1000 * px_st a_letters a_values a_many a_limit s0 n - go)) (xp_u f_holds p g pc))) f_lines f_fastest (nI g) f_bend (nI ah) f_speed f_seen f_state (nI n) (nI p) f_left (nI go) f_allSteps f_allTicks f_u f_v f_holds a_letters a_values a_many a_tool a_began a_limit a_trips a_force a_origins a_here a_has a_grouped a_word a_from a_to a_steps a_paces a_dwells a_ends a_turn a_first a_second a_centre D := by
    intro D
    unfold wY_run_70
    exact br_t (nI_pos' (by omega)) (h D)
  have g52 : ∀ x, x = xp_u f_holds p g pc → wY_run_52 post (x + 1) (nI x) f_lines f_fastest (nI g) f_bend (nI ah) f_speed f_seen f_state (nI n) (nI p) f_left (nI go) f_allSteps f_allTicks f_u f_v f_holds a_letters a_values a_many a_tool a_began a_limit a_trips a_force a_origins a_here a_has a_grouped a_word a_from a_to a_steps a_paces a_dwells a_ends a_turn a_first a_second a_centre a_direction := by
    intro x ex
    refine yf_52 K hY hg ha hn ho x _ (by omega) (fun D => ?_)
    rw [ex]; exact g70 D
  have g28 : ∀ v, min v pc = xp_u f_holds p g pc → v < 2 ^ 31 → wY_run_28 post (nI v) f_lines f_fastest (nI g) f_bend (nI ah) f_speed f_seen f_state (nI n) (nI p) f_left (nI go) f_allSteps f_allTicks f_u f_v f_holds a_letters a_values a_many a_tool a_began a_limit a_trips a_force a_origins a_here a_has a_grouped a_word a_from a_to a_steps a_paces a_dwells a_ends a_turn a_first a_second a_centre a_direction := by
    intro v ev vb
    unfold wY_run_28
    rw [cl, (hY.2.2 n hn).2.1, epc]
    refine ⟨i30, br_c (fun c => ⟨_, g52 v ?_⟩) (fun c => ⟨i30, nm_e ⟨_, g52 pc ?_⟩⟩)⟩
    · rw [nI_leI vb (by omega)] at c
      rw [← ev]; omega
    · rw [nI_leI vb (by omega)] at c
      rw [← ev]; omega
  unfold wpY_run
  dsimp only
  refine br_c (fun c => ?_) (fun c => ?_)
  · rw [nI_add]
    refine g28 (p + g) ?_ (by omega)
    unfold xp_u
    rw [if_pos c]
  · by_cases k : g ≤ p
    · rw [pk_sub k]
      refine g28 (p - g) ?_ (by omega)
      unfold xp_u
      rw [if_neg c]
    · have ng : nI p - nI g < 0 := pk_sneg (by omega) (by omega)
      have u0 : xp_u f_holds p g pc = 0 := by
        unfold xp_u
        rw [if_neg c]
        omega
      unfold wY_run_28
      rw [cl, (hY.2.2 n hn).2.1, epc]
      refine ⟨i30, br_t (Int32.le_of_lt (Int32.lt_of_lt_of_le ng (nI_pos' (by omega)))) ⟨1, br_t (Int32.le_of_lt ng) ?_⟩⟩
      unfold wY_run_70
      refine br_f (fun z => Int32.not_lt.mpr z ng) ?_
      have := h a_direction
      rw [u0] at this
      exact this
end
end YPC
