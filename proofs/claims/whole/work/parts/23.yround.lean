section YRO
theorem jl_64 {x : Int32} : x.toInt64 = jl_J x.toInt := by
  have := jl_i (x := x.toInt) (ii_R32 x)
  rw [ii_t] at this
  exact this
section
variable {f_lines f_fastest f_gain f_bend f_ahead f_speed f_seen f_state f_line f_pace f_left f_went f_allSteps f_allTicks f_u f_v f_holds : Int32} {a_letters a_values a_many a_tool a_began a_limit a_trips a_force a_origins a_here a_has a_grouped a_word a_from a_to a_steps a_paces a_dwells a_ends a_turn a_first a_second a_centre a_direction : Nat → Int32}
theorem ys_330 {post : Int32 → SY → Prop} {n fa fb : Nat} {on : Bool} {g c d x y : Int} (hn : n < 30) (hfa : fa < 3) (hfb : fb < 3) (ho : a_turn n = 3 ↔ on = true)
    (hc : a_centre (2 * n) = ii_I c) (hd : a_centre (2 * n + 1) = ii_I d) (hf : 0 ≤ g ∧ g ≤ 90000) (hcr : -2000 ≤ c ∧ c ≤ 2000) (hdr : -2000 ≤ d ∧ d ≤ 2000) (hl : ∀ a, a < 3 → (a_limit a).toInt ≤ 1000)
    (hx : -1000000 ≤ x ∧ x ≤ 1000000) (hy : -1000000 ≤ y ∧ y ≤ 1000000) (s0 : Nat → Int32) :
    ∀ (f k : Nat) (u v : Int) (S : Nat → Int32), S n = nI k → (∀ m, m ≠ n → S m = s0 m) → (-5000 ≤ u ∧ u ≤ 5000) → (-5000 ≤ v ∧ v ≤ 5000) →
      k + f ≤ 3000 → (∃ j, 1 ≤ j ∧ j ≤ f ∧ wk_it on g j (u, v) = (x, y)) →
      ((pl_wk on g c d (a_limit fa).toInt (a_limit fb).toInt x y f k u v).1 = 6 → ∀ S' u' v', post 6 (f_lines, f_fastest, f_gain, f_bend, f_ahead, f_speed, f_seen, f_state, f_line, f_pace, f_left, f_went, f_allSteps, f_allTicks, u', v', f_holds, a_letters, a_values, a_many, a_tool, a_began, a_limit, a_trips, a_force, a_origins, a_here, a_has, a_grouped, a_word, a_from, a_to, S', a_paces, a_dwells, a_ends, a_turn, a_first, a_second, a_centre, a_direction)) →
      ((pl_wk on g c d (a_limit fa).toInt (a_limit fb).toInt x y f k u v).1 = 0 → ∀ S' u' v', S' n = nI (pl_wk on g c d (a_limit fa).toInt (a_limit fb).toInt x y f k u v).2 → (∀ m, m ≠ n → S' m = s0 m) → post 0 (f_lines, f_fastest, f_gain, f_bend, f_ahead, f_speed, f_seen, f_state, f_line, f_pace, f_left, f_went, f_allSteps, f_allTicks, u', v', f_holds, a_letters, a_values, a_many, a_tool, a_began, a_limit, a_trips, a_force, a_origins, a_here, a_has, a_grouped, a_word, a_from, a_to, S', a_paces, a_dwells, a_ends, a_turn, a_first, a_second, a_centre, a_direction)) →
      ∀ N, f + 1 < N → wY_round_330 post (nI n) (nI fa) (nI fb) (jl_J x) (jl_J y) (jl_J g) N 1 f_lines f_fastest f_gain f_bend f_ahead f_speed f_seen f_state f_line f_pace f_left f_went f_allSteps f_allTicks (ii_I u) (ii_I v) f_holds a_letters a_values a_many a_tool a_began a_limit a_trips a_force a_origins a_here a_has a_grouped a_word a_from a_to S a_paces a_dwells a_ends a_turn a_first a_second a_centre a_direction := by
  have la := hl _ hfa
  have lb := hl _ hfb
  have i30 : vp_in (nI n) 30 := vp_in_nI hn (by omega)
  have cl : (nI n).toNatClampNeg = n := nI_clamp (by omega)
  have r0 : ii_R 0 := by unfold ii_R; omega
  intro f
  induction f with
  | zero =>
    intro k u v S _ _ _ _ _ hj
    obtain ⟨j, j1, j2, _⟩ := hj
    omega
  | succ f ih =>
    intro k u v S hS hSo hu hv hk hj h6 h0 N hN
    obtain ⟨N, rfl⟩ : ∃ e, N = e + 1 := ⟨N - 1, by omega⟩
    rw [pl_wk] at h6 h0
    revert hj h6 h0
    have wr := wk_nxr on g u v
    have gg : (jl_J g).toInt32 = ii_I g := jl_o (by unfold jl_R; omega) (by unfold ii_R; omega)
    generalize ew : wk_nx on g (u, v) = w at *
    intro hj h6 h0
    refine br_f (by decide) ⟨i30, ?_⟩
    rw [cl, gg]
    refine ys_nx (on := on) (f := g) (u := u) (v := v) ho rfl rfl hu hv hf ?_
    rw [ew]
    dsimp only
    rw [ix_y21, ix_y2, nI_clamp (show 2 * n < 2 ^ 31 by omega), nI_clamp (show 2 * n + 1 < 2 ^ 31 by omega), nI_clamp (show fa < 2 ^ 31 by omega), nI_clamp (show fb < 2 ^ 31 by omega), hc, hd, ii_add, ii_add, hS, nI_1,
      jl_i (show ii_R w.1 by unfold ii_R; omega), jl_i (show ii_R w.2 by unfold ii_R; omega)]
    have S1 : upd S n (nI (k + 1)) n = nI (k + 1) := pk_us
    have S2 : ∀ m, m ≠ n → upd S n (nI (k + 1)) m = s0 m := fun m hm => (pk_un hm).trans (hSo m hm)
    refine ⟨i30, i30, nm_e ?_⟩
    generalize upd S n (nI (k + 1)) = S' at S1 S2 ⊢
    have a1 : 0 ≤ ii_I (c + w.1) ↔ 0 ≤ c + w.1 := ii_le (a := 0) r0 (by unfold ii_R; omega)
    have a2 : ii_I (c + w.1) ≤ a_limit fa ↔ c + w.1 ≤ (a_limit fa).toInt := by rw [fc_le, ii_toInt (by unfold ii_R; omega)]
    have a3 : 0 ≤ ii_I (d + w.2) ↔ 0 ≤ d + w.2 := ii_le (a := 0) r0 (by unfold ii_R; omega)
    have a4 : ii_I (d + w.2) ≤ a_limit fb ↔ d + w.2 ≤ (a_limit fb).toInt := by rw [fc_le, ii_toInt (by unfold ii_R; omega)]
    have e1 : jl_J w.1 = jl_J x ↔ w.1 = x := jl_eq (by unfold jl_R; omega) (by unfold jl_R; omega)
    have e2 : jl_J w.2 = jl_J y ↔ w.2 = y := jl_eq (by unfold jl_R; omega) (by unfold jl_R; omega)
    refine ⟨vp_in_nI (by omega) (by omega), vp_in_nI hfa (by omega), yl_in (fun z1 z2 => br_f (by decide) ⟨vp_in_nI (by omega) (by omega), vp_in_nI hfb (by omega), yl_in (fun z3 z4 => br_f (by decide) ?_) (fun z => br_t rfl ?_)⟩) (fun z => br_t rfl ?_)⟩
    · rw [a1] at z1; rw [a2] at z2; rw [a3] at z3; rw [a4] at z4
      have no : ¬ (c + w.1 < 0 ∨ (a_limit fa).toInt < c + w.1 ∨ d + w.2 < 0 ∨ (a_limit fb).toInt < d + w.2) := by omega
      rw [if_neg no] at h6 h0
      have go : ¬ (w.1 = x ∧ w.2 = y) → wY_round_330 post (nI n) (nI fa) (nI fb) (jl_J x) (jl_J y) (jl_J g) N 1 f_lines f_fastest f_gain f_bend f_ahead f_speed f_seen f_state f_line f_pace f_left f_went f_allSteps f_allTicks (ii_I w.1) (ii_I w.2) f_holds a_letters a_values a_many a_tool a_began a_limit a_trips a_force a_origins a_here a_has a_grouped a_word a_from a_to S' a_paces a_dwells a_ends a_turn a_first a_second a_centre a_direction := by
        intro ng
        rw [if_neg ng] at h6 h0
        refine ih (k + 1) w.1 w.2 S' S1 S2 (by omega) (by omega) (by omega) ?_ h6 h0 N (by omega)
        obtain ⟨j, j1, j2, j3⟩ := hj
        obtain ⟨i, rfl⟩ : ∃ i, j = i + 1 := ⟨j - 1, by omega⟩
        have j4 : wk_it on g i w = (x, y) := by
          rw [← ew]; exact j3
        by_cases i0 : i = 0
        · subst i0
          exact absurd ⟨congrArg Prod.fst j4, congrArg Prod.snd j4⟩ ng
        · exact ⟨i, by omega, by omega, j4⟩
      refine br_c (fun t1 => br_c (fun t2 => ?_) (fun t2 => go (fun t => t2 (e2.mpr t.2)))) (fun t1 => go (fun t => t1 (e1.mpr t.1)))
      obtain ⟨M, rfl⟩ : ∃ e, N = e + 1 := ⟨N - 1, by omega⟩
      rw [if_pos ⟨e1.mp t1, e2.mp t2⟩] at h0
      exact br_t rfl (h0 rfl S' _ _ S1 S2)
    · rw [a3, a4] at z
      rw [if_pos (by omega)] at h6
      exact h6 rfl _ _ _
    · rw [a1, a2] at z
      rw [if_pos (by omega)] at h6
      exact h6 rfl _ _ _
theorem ys_ro {post : Int32 → SY → Prop} {H : Nat → Bool} {n : Nat} {he to : Nat → Int32} {p q : Int} (hn : n < 30) (hF : fc_FW a_force) (hH : ∀ i, i < 10 → a_has i = bo_I (H i))
    (ht : a_turn n = a_force 0) (hS : a_steps n = 0)
    (hhe : ∀ a, a < 3 → a_here a = he a) (hto : ∀ a, a < 3 → a_to (3 * n + a) = to a)
    (rhe : ∀ a, a < 3 → 0 ≤ (he a).toInt ∧ (he a).toInt ≤ (a_limit a).toInt) (rto : ∀ a, a < 3 → -100000 ≤ (to a).toInt ∧ (to a).toInt ≤ 100000) (hl : ∀ a, a < 3 → (a_limit a).toInt ≤ 1000)
    (hp : pl_ij a_force H a_word (pl_fa a_force) = ii_I p) (hq : pl_ij a_force H a_word (pl_fb a_force) = ii_I q) (rp : -15000 ≤ p ∧ p ≤ 15000) (rq : -15000 ≤ q ∧ q ≤ 15000)
    (hr5 : ((H (5 + pl_fa a_force) = false ∧ H (5 + pl_fb a_force) = false ∨ H (2 + pl_ft a_force) = true ∨ H (5 + pl_ft a_force) = true) ∨ p * p + q * q = 0 ∨ 90000 < p * p + q * q ∨ ¬ ((to (pl_fa a_force)).toInt - (he (pl_fa a_force)).toInt - p) * ((to (pl_fa a_force)).toInt - (he (pl_fa a_force)).toInt - p) + ((to (pl_fb a_force)).toInt - (he (pl_fb a_force)).toInt - q) * ((to (pl_fb a_force)).toInt - (he (pl_fb a_force)).toInt - q) = p * p + q * q) → post 5 (f_lines, f_fastest, f_gain, f_bend, f_ahead, f_speed, f_seen, f_state, f_line, f_pace, f_left, f_went, f_allSteps, f_allTicks, f_u, f_v, f_holds, a_letters, a_values, a_many, a_tool, a_began, a_limit, a_trips, a_force, a_origins, a_here, a_has, a_grouped, a_word, a_from, a_to, a_steps, a_paces, a_dwells, a_ends, a_turn, a_first, a_second, a_centre, a_direction))
    (hr : ¬ ((H (5 + pl_fa a_force) = false ∧ H (5 + pl_fb a_force) = false ∨ H (2 + pl_ft a_force) = true ∨ H (5 + pl_ft a_force) = true) ∨ p * p + q * q = 0 ∨ 90000 < p * p + q * q ∨ ¬ ((to (pl_fa a_force)).toInt - (he (pl_fa a_force)).toInt - p) * ((to (pl_fa a_force)).toInt - (he (pl_fa a_force)).toInt - p) + ((to (pl_fb a_force)).toInt - (he (pl_fb a_force)).toInt - q) * ((to (pl_fb a_force)).toInt - (he (pl_fb a_force)).toInt - q) = p * p + q * q) →
      ∀ w, w = pl_wk (decide (a_force 0 = 3)) (p * p + q * q) ((he (pl_fa a_force)).toInt + p) ((he (pl_fb a_force)).toInt + q) (a_limit (pl_fa a_force)).toInt (a_limit (pl_fb a_force)).toInt ((to (pl_fa a_force)).toInt - (he (pl_fa a_force)).toInt - p) ((to (pl_fb a_force)).toInt - (he (pl_fb a_force)).toInt - q) 3000 0 (-p) (-q) →
      (w.1 = 6 → ∀ u v S fi se ce, post 6 (f_lines, f_fastest, f_gain, f_bend, f_ahead, f_speed, f_seen, f_state, f_line, f_pace, f_left, f_went, f_allSteps, f_allTicks, u, v, f_holds, a_letters, a_values, a_many, a_tool, a_began, a_limit, a_trips, a_force, a_origins, a_here, a_has, a_grouped, a_word, a_from, a_to, S, a_paces, a_dwells, a_ends, a_turn, fi, se, ce, a_direction)) ∧
      (w.1 = 0 → ∀ u v S, S n = nI w.2 → (∀ m, m ≠ n → S m = a_steps m) → post 0 (f_lines, f_fastest, f_gain, f_bend, f_ahead, f_speed, f_seen, f_state, f_line, f_pace, f_left, f_went, f_allSteps, f_allTicks, u, v, f_holds, a_letters, a_values, a_many, a_tool, a_began, a_limit, a_trips, a_force, a_origins, a_here, a_has, a_grouped, a_word, a_from, a_to, S, a_paces, a_dwells, a_ends, a_turn, (upd a_first n (nI (pl_fa a_force))), (upd a_second n (nI (pl_fb a_force))), (upd (upd a_centre (2 * n) (ii_I ((he (pl_fa a_force)).toInt + p))) (2 * n + 1) (ii_I ((he (pl_fb a_force)).toInt + q))), a_direction))) :
    wpY_round post (f_lines, f_fastest, f_gain, f_bend, f_ahead, f_speed, f_seen, f_state, f_line, f_pace, f_left, f_went, f_allSteps, f_allTicks, f_u, f_v, f_holds, a_letters, a_values, a_many, a_tool, a_began, a_limit, a_trips, a_force, a_origins, a_here, a_has, a_grouped, a_word, a_from, a_to, a_steps, a_paces, a_dwells, a_ends, a_turn, a_first, a_second, a_centre, a_direction) (nI n) := by
  have i30 : vp_in (nI n) 30 := vp_in_nI hn (by omega)
  have cl : (nI n).toNatClampNeg = n := nI_clamp (by omega)
  have tr : pl_fa a_force < 3 ∧ pl_fb a_force < 3 ∧ pl_ft a_force < 3 ∧ pl_fa a_force + pl_fb a_force + pl_ft a_force = 3 := by
    unfold pl_fa pl_fb pl_ft
    rcases fv_1 hF with e | e | e <;> rw [e] <;> decide
  obtain ⟨hfa, hfb, hft, sum⟩ := tr
  have ra := rhe _ hfa
  have rb := rhe _ hfb
  have la := hl _ hfa
  have lb := hl _ hfb
  have ta := rto _ hfa
  have tb := rto _ hfb
  have q1 := wk_sqb (B := 15000) rp
  have q2 := wk_sqb (B := 15000) rq
  have eA := hhe _ hfa
  have eB := hhe _ hfb
  have tA := hto _ hfa
  have tB := hto _ hfb
  have ix5 : (5 : Int32) - nI (pl_fa a_force) - nI (pl_fb a_force) = nI (2 + pl_ft a_force) := by
    rw [show (5 : Int32) = nI 5 from rfl, pk_sub (by omega), pk_sub (by omega)]; congr 1; omega
  have ix8 : (8 : Int32) - nI (pl_fa a_force) - nI (pl_fb a_force) = nI (5 + pl_ft a_force) := by
    rw [show (8 : Int32) = nI 8 from rfl, pk_sub (by omega), pk_sub (by omega)]; congr 1; omega
  have g163 : ¬ (H (5 + pl_fa a_force) = false ∧ H (5 + pl_fb a_force) = false ∨ H (2 + pl_ft a_force) = true ∨ H (5 + pl_ft a_force) = true) →
      wY_round_163 post (nI n) (nI (pl_fa a_force)) (nI (pl_fb a_force)) (jl_J p) (jl_J q) f_lines f_fastest f_gain f_bend f_ahead f_speed f_seen f_state f_line f_pace f_left f_went f_allSteps f_allTicks f_u f_v f_holds a_letters a_values a_many a_tool a_began a_limit a_trips a_force a_origins a_here a_has a_grouped a_word a_from a_to a_steps a_paces a_dwells a_ends a_turn a_first a_second a_centre a_direction := by
    intro c0
    unfold wY_round_163
    rw [ix_y3, ix_y3, ix_y21, ix_y2, cl, nI_clamp (show 3 * n + pl_fa a_force < 2 ^ 31 by omega), nI_clamp (show 3 * n + pl_fb a_force < 2 ^ 31 by omega), nI_clamp (show pl_fa a_force < 2 ^ 31 by omega), nI_clamp (show pl_fb a_force < 2 ^ 31 by omega),
      nI_clamp (show 2 * n < 2 ^ 31 by omega), nI_clamp (show 2 * n + 1 < 2 ^ 31 by omega), eA, eB, tA, tB]
    have d1 : (to (pl_fa a_force) - he (pl_fa a_force)).toInt64 - jl_J p = jl_J ((to (pl_fa a_force)).toInt - (he (pl_fa a_force)).toInt - p) := by
      rw [← ii_t (to (pl_fa a_force)), ← ii_t (he (pl_fa a_force)), ii_sub, jl_i (by unfold ii_R; omega), jl_sub, ii_t, ii_t]
    have d2 : (to (pl_fb a_force) - he (pl_fb a_force)).toInt64 - jl_J q = jl_J ((to (pl_fb a_force)).toInt - (he (pl_fb a_force)).toInt - q) := by
      rw [← ii_t (to (pl_fb a_force)), ← ii_t (he (pl_fb a_force)), ii_sub, jl_i (by unfold ii_R; omega), jl_sub, ii_t, ii_t]
    refine ⟨vp_in_nI (by omega) (by omega), vp_in_nI hfa (by omega), nm_r d1 ⟨vp_in_nI (by omega) (by omega), vp_in_nI hfb (by omega), nm_r d2 (nm_r (e' := jl_J (p * p + q * q)) (by rw [jl_mul, jl_mul, jl_add]) ?_)⟩⟩
    have z0 : jl_J (p * p + q * q) = 0 ↔ p * p + q * q = 0 := jl_eq (b := 0) (by unfold jl_R; omega) (by unfold jl_R; omega)
    have z9 : 90000 < jl_J (p * p + q * q) ↔ 90000 < p * p + q * q := jl_lt (a := 90000) (by unfold jl_R; omega) (by unfold jl_R; omega)
    refine br_c (fun c1 => hr5 (Or.inr (Or.inl (z0.mp c1)))) (fun c1 => br_c (fun c2 => hr5 (Or.inr (Or.inr (Or.inl (z9.mp c2))))) (fun c2 => ?_))
    have c1' : ¬ p * p + q * q = 0 := fun z => c1 (z0.mpr z)
    have c2' : ¬ 90000 < p * p + q * q := fun z => c2 (z9.mpr z)
    have p3 : -300 ≤ p ∧ p ≤ 300 := by
      have a1 := wk_sl (x := p) (y := 301) (by omega) (by omega)
      have a2 := wk_sl (x := -p) (y := 301) (by omega) (by rw [Int.neg_mul_neg]; omega)
      omega
    have q3 : -300 ≤ q ∧ q ≤ 300 := by
      have a1 := wk_sl (x := q) (y := 301) (by omega) (by omega)
      have a2 := wk_sl (x := -q) (y := 301) (by omega) (by rw [Int.neg_mul_neg]; omega)
      omega
    rw [jl_mul, jl_mul, jl_add]
    have rx : -200000 ≤ (to (pl_fa a_force)).toInt - (he (pl_fa a_force)).toInt - p ∧ (to (pl_fa a_force)).toInt - (he (pl_fa a_force)).toInt - p ≤ 200000 := by omega
    have ry : -200000 ≤ (to (pl_fb a_force)).toInt - (he (pl_fb a_force)).toInt - q ∧ (to (pl_fb a_force)).toInt - (he (pl_fb a_force)).toInt - q ≤ 200000 := by omega
    have sx := wk_sqb (B := 200000) rx
    have sy := wk_sqb (B := 200000) ry
    have ee := jl_eq (a := ((to (pl_fa a_force)).toInt - (he (pl_fa a_force)).toInt - p) * ((to (pl_fa a_force)).toInt - (he (pl_fa a_force)).toInt - p) + ((to (pl_fb a_force)).toInt - (he (pl_fb a_force)).toInt - q) * ((to (pl_fb a_force)).toInt - (he (pl_fb a_force)).toInt - q)) (b := p * p + q * q) (by unfold jl_R; omega) (by unfold jl_R; omega)
    refine br_c (fun c3 => ?_) (fun c3 => hr5 (Or.inr (Or.inr (Or.inr (fun z => c3 (ee.mpr z))))))
    have c3' := ee.mp c3
    have nb : ¬ ((H (5 + pl_fa a_force) = false ∧ H (5 + pl_fb a_force) = false ∨ H (2 + pl_ft a_force) = true ∨ H (5 + pl_ft a_force) = true) ∨ p * p + q * q = 0 ∨ 90000 < p * p + q * q ∨ ¬ ((to (pl_fa a_force)).toInt - (he (pl_fa a_force)).toInt - p) * ((to (pl_fa a_force)).toInt - (he (pl_fa a_force)).toInt - p) + ((to (pl_fb a_force)).toInt - (he (pl_fb a_force)).toInt - q) * ((to (pl_fb a_force)).toInt - (he (pl_fb a_force)).toInt - q) = p * p + q * q) := by
      rintro (z | z | z | z)
      · exact c0 z
      · exact c1' z
      · exact c2' z
      · exact z c3'
    obtain ⟨g6, g0⟩ := hr nb _ rfl
    have oA : he (pl_fa a_force) + (jl_J p).toInt32 = ii_I ((he (pl_fa a_force)).toInt + p) := by
      rw [jl_o (by unfold jl_R; omega) (by unfold ii_R; omega), ← ii_add, ii_t]
    have oB : he (pl_fb a_force) + (jl_J q).toInt32 = ii_I ((he (pl_fb a_force)).toInt + q) := by
      rw [jl_o (by unfold jl_R; omega) (by unfold ii_R; omega), ← ii_add, ii_t]
    have oU : (-jl_J p).toInt32 = ii_I (-p) := by rw [jl_neg, jl_o (by unfold jl_R; omega) (by unfold ii_R; omega)]
    have oV : (-jl_J q).toInt32 = ii_I (-q) := by rw [jl_neg, jl_o (by unfold jl_R; omega) (by unfold ii_R; omega)]
    refine ⟨i30, nm_e ⟨i30, nm_e ⟨vp_in_nI hfa (by omega), vp_in_nI (by omega) (by omega), nm_r (congrArg (upd a_centre (2 * n)) oA) ⟨vp_in_nI hfb (by omega), vp_in_nI (by omega) (by omega), nm_r (congrArg (upd _ (2 * n + 1)) oB) (nm_r oU (nm_r oV ⟨3002, ?_⟩))⟩⟩⟩⟩
    refine ys_330 (on := decide (a_force 0 = 3)) (g := p * p + q * q) (c := (he (pl_fa a_force)).toInt + p) (d := (he (pl_fb a_force)).toInt + q)
      (x := (to (pl_fa a_force)).toInt - (he (pl_fa a_force)).toInt - p) (y := (to (pl_fb a_force)).toInt - (he (pl_fb a_force)).toInt - q)
      hn hfa hfb (by rw [ht, decide_eq_true_iff]) (by rw [pk_un (by omega), pk_us]) pk_us (by omega) (by omega) (by omega) hl (by omega) (by omega) a_steps 3000 0 (-p) (-q) a_steps hS (fun _ _ => rfl) (by omega) (by omega) (by omega) ?_
      (fun e S u v => g6 e u v S _ _ _) (fun e S u v s1 s2 => g0 e u v S s1 s2) 3002 (by omega)
    exact wk_all _ (by omega) (by omega) (by rw [Int.neg_mul_neg, Int.neg_mul_neg]) c3'
  have pj : ∀ a (r : Int), pl_ij a_force H a_word a = ii_I r → ii_R r → (H (5 + a) = false → (0 : Int64) = jl_J r) ∧ (H (5 + a) = true → (a_word (5 + a) * pl_sc a_force).toInt64 = jl_J r) := by
    intro a r er rr
    unfold pl_ij at er
    constructor
    · intro e
      rw [if_neg (by rw [e]; decide)] at er
      have : (0 : Int) = r := (ii_eq (a := 0) (by unfold ii_R; omega) rr).mp er
      rw [← this]; rfl
    · intro e
      rw [if_pos e] at er
      rw [er, jl_i rr]
  have jp := pj _ p hp (by unfold ii_R; omega)
  have jq := pj _ q hq (by unfold ii_R; omega)
  have hA5 := hH (5 + pl_fa a_force) (by omega)
  have hB5 := hH (5 + pl_fb a_force) (by omega)
  have hT2 := hH (2 + pl_ft a_force) (by omega)
  have hT5 := hH (5 + pl_ft a_force) (by omega)
  have g134 : ¬ (H (5 + pl_fa a_force) = false ∧ H (5 + pl_fb a_force) = false ∨ H (2 + pl_ft a_force) = true ∨ H (5 + pl_ft a_force) = true) →
      wY_round_134 post (nI n) (nI (pl_fa a_force)) (nI (pl_fb a_force)) (pl_sc a_force) (jl_J p) f_lines f_fastest f_gain f_bend f_ahead f_speed f_seen f_state f_line f_pace f_left f_went f_allSteps f_allTicks f_u f_v f_holds a_letters a_values a_many a_tool a_began a_limit a_trips a_force a_origins a_here a_has a_grouped a_word a_from a_to a_steps a_paces a_dwells a_ends a_turn a_first a_second a_centre a_direction := by
    intro c0
    unfold wY_round_134
    rw [ix_p5, nI_clamp (show 5 + pl_fb a_force < 2 ^ 31 by omega), hB5]
    refine ⟨vp_in_nI (by omega) (by omega), br_c (fun e => ?_) (fun e => ⟨vp_in_nI (by omega) (by omega), ?_⟩)⟩
    · rw [jq.1 (bo_yf e)]; exact g163 c0
    · rw [jq.2 (bo_nf e)]; exact g163 c0
  have g78 : ¬ (H (5 + pl_fa a_force) = false ∧ H (5 + pl_fb a_force) = false) → wY_round_78 post (nI n) (nI (pl_fa a_force)) (nI (pl_fb a_force)) (pl_sc a_force) f_lines f_fastest f_gain f_bend f_ahead f_speed f_seen f_state f_line f_pace f_left f_went f_allSteps f_allTicks f_u f_v f_holds a_letters a_values a_many a_tool a_began a_limit a_trips a_force a_origins a_here a_has a_grouped a_word a_from a_to a_steps a_paces a_dwells a_ends a_turn a_first a_second a_centre a_direction := by
    intro c0
    unfold wY_round_78
    rw [ix5, ix8, ix_p5, nI_clamp (show 2 + pl_ft a_force < 2 ^ 31 by omega), nI_clamp (show 5 + pl_ft a_force < 2 ^ 31 by omega), nI_clamp (show 5 + pl_fa a_force < 2 ^ 31 by omega), hT2, hT5, hA5]
    refine ⟨vp_in_nI (by omega) (by omega), br_c (fun e2 => ⟨vp_in_nI (by omega) (by omega), br_c (fun e5 => ?_) (fun e5 => hr5 (Or.inl (Or.inr (Or.inr (bo_nf e5)))))⟩) (fun e2 => hr5 (Or.inl (Or.inr (Or.inl (bo_nf e2)))))⟩
    have c0' : ¬ (H (5 + pl_fa a_force) = false ∧ H (5 + pl_fb a_force) = false ∨ H (2 + pl_ft a_force) = true ∨ H (5 + pl_ft a_force) = true) := by
      rintro (z | z | z)
      · exact c0 z
      · rw [bo_yf e2] at z; exact absurd z (by decide)
      · rw [bo_yf e5] at z; exact absurd z (by decide)
    refine ⟨vp_in_nI (by omega) (by omega), br_c (fun e => ?_) (fun e => ⟨vp_in_nI (by omega) (by omega), ?_⟩)⟩
    · rw [jp.1 (bo_yf e)]; exact g134 c0'
    · rw [jp.2 (bo_nf e)]; exact g134 c0'
  have g54 : wY_round_54 post (nI n) (nI (pl_fa a_force)) (nI (pl_fb a_force)) (pl_sc a_force) f_lines f_fastest f_gain f_bend f_ahead f_speed f_seen f_state f_line f_pace f_left f_went f_allSteps f_allTicks f_u f_v f_holds a_letters a_values a_many a_tool a_began a_limit a_trips a_force a_origins a_here a_has a_grouped a_word a_from a_to a_steps a_paces a_dwells a_ends a_turn a_first a_second a_centre a_direction := by
    unfold wY_round_54
    rw [ix_p5, ix_p5, nI_clamp (show 5 + pl_fa a_force < 2 ^ 31 by omega), nI_clamp (show 5 + pl_fb a_force < 2 ^ 31 by omega), hA5, hB5]
    refine ⟨vp_in_nI (by omega) (by omega), br_c (fun e => ⟨vp_in_nI (by omega) (by omega), br_c (fun e' => hr5 (Or.inl (Or.inl ⟨bo_yf e, bo_yf e'⟩))) (fun e' => g78 (fun z => ?_))⟩) (fun e => g78 (fun z => ?_))⟩
    · rw [bo_nf e'] at z; exact absurd z.2 (by decide)
    · rw [bo_nf e] at z; exact absurd z.1 (by decide)
  have g31 : wY_round_31 post (nI n) (nI (pl_fa a_force)) f_lines f_fastest f_gain f_bend f_ahead f_speed f_seen f_state f_line f_pace f_left f_went f_allSteps f_allTicks f_u f_v f_holds a_letters a_values a_many a_tool a_began a_limit a_trips a_force a_origins a_here a_has a_grouped a_word a_from a_to a_steps a_paces a_dwells a_ends a_turn a_first a_second a_centre a_direction := by
    unfold wY_round_31
    refine ⟨by decide, nm_r (e' := nI (pl_fb a_force)) ?_ (br_c (fun e => ?_) (fun e => ?_))⟩
    · unfold pl_fa pl_fb
      rcases fv_1 hF with e | e | e <;> rw [e] <;> decide
    · unfold pl_sc at g54; rw [if_pos e] at g54; exact g54
    · unfold pl_sc at g54; rw [if_neg e] at g54; exact g54
  unfold wpY_round
  dsimp only
  have fae : pl_fa a_force = if a_force 1 = 17 then 0 else if a_force 1 = 18 then 2 else 1 := rfl
  rw [fae] at g31
  refine br_c (fun e => ?_) (fun e => br_c (fun e' => ?_) (fun e' => ?_))
  · rw [if_pos e] at g31; exact g31
  · rw [if_neg e, if_pos e'] at g31; exact g31
  · rw [if_neg e, if_neg e'] at g31; exact g31
end
end YRO
