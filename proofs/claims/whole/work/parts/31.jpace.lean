section JPC
def jr_r (n : Nat) : Nat → Nat → Nat
  | 0, r => r
  | k + 1, r => if (r + 2 ^ k) * (r + 2 ^ k) ≤ n then jr_r n k (r + 2 ^ k) else jr_r n k r
theorem jr_pow (k : Nat) : 2 ^ (k + 1) = 2 ^ k + 2 ^ k := by rw [Nat.pow_succ]; omega
theorem jr_m1 (x : Int32) : x + (-1) = x - 1 := by rw [Int32.sub_eq_add_neg]
theorem jr_sq {r k : Nat} (h : r + 2 ^ (k + 1) ≤ 2 ^ 30) : (r + 2 ^ k) * (r + 2 ^ k) < 2 ^ 63 ∧ r + 2 ^ k + 2 ^ k ≤ 2 ^ 30 ∧ r + 2 ^ k ≤ 2 ^ 30 := by
  rw [jr_pow] at h
  have kp : 0 < 2 ^ k := Nat.pos_of_ne_zero (by simp)
  have h1 : r + 2 ^ k ≤ 2 ^ 30 := by omega
  have h2 : (r + 2 ^ k) * (r + 2 ^ k) ≤ 2 ^ 30 * 2 ^ 30 := Nat.mul_le_mul h1 h1
  exact ⟨Nat.lt_of_le_of_lt h2 (by decide), by omega, h1⟩
theorem jr_le (n : Nat) : ∀ k r, r + 2 ^ k ≤ 2 ^ 30 → jr_r n k r < 2 ^ 30 := by
  intro k
  induction k with
  | zero => intro r h; show r < 2 ^ 30; have : 2 ^ 0 = 1 := rfl; omega
  | succ k ih =>
    intro r h
    obtain ⟨_, a, b⟩ := jr_sq h
    rw [jr_r]
    split
    · exact ih _ a
    · refine ih _ ?_
      have := Nat.pos_of_ne_zero (n := 2 ^ k) (by simp)
      omega
section
variable {f_lines f_fastest f_gain f_bend f_ahead f_mode f_holds f_pace f_line f_gone f_dwellLeft f_stepsInAll f_ticksInAll f_speed f_present f_laid : Int32} {a_wordCounts a_letters a_values a_limits a_switches a_tool a_inForce a_origins a_given a_rows a_probe a_motions a_thirds a_centres a_steps a_paces a_dwells a_marks a_nexts a_joints : Nat → Int32}
theorem xj_ro {post : Int64 → Prop} {n : Nat} (hn : n < 2 ^ 63) : ∀ k r, k ≤ 30 → r + 2 ^ k ≤ 2 ^ 30 → post (lN (jr_r n k r)) → wX_rootOf_6 post (lN n) f_lines f_fastest f_gain f_bend f_ahead f_mode f_holds f_pace f_line f_gone f_dwellLeft f_stepsInAll f_ticksInAll f_speed f_present f_laid a_wordCounts a_letters a_values a_limits a_switches a_tool a_inForce a_origins a_given a_rows a_probe a_motions a_thirds a_centres a_steps a_paces a_dwells a_marks a_nexts a_joints (k + 1) (lN r) (nI k - 1) := by
  intro k
  induction k with
  | zero => intro r _ _ h; exact br_t (by decide) h
  | succ k ih =>
    intro r hk hr h
    obtain ⟨q1, q2, q3⟩ := jr_sq hr
    rw [nI_pred]
    refine br_f (nI_pos (by omega)) (nm_r (e' := lN (r + 2 ^ k)) ?_ ?_)
    · rw [show (1 : Int64) = lN 1 from rfl, wb_shl 1 (by omega), lN_add, Nat.one_mul]
    · rw [lN_mul]
      have l := pk_lLT (a := n) (b := (r + 2 ^ k) * (r + 2 ^ k)) hn q1
      rw [jr_r] at h
      refine br_c (fun c => nm_r (jr_m1 _) ?_) (fun c => nm_r (jr_m1 _) ?_)
      · rw [if_neg (by have := l.mp c; omega)] at h
        exact ih r (by omega) (by omega) h
      · rw [if_pos (by have : ¬ n < (r + 2 ^ k) * (r + 2 ^ k) := fun z => c (l.mpr z); omega)] at h
        exact ih _ (by omega) q2 h
end
theorem yj_half (k : Nat) : 2 ^ (k + 1) / 2 = 2 ^ k := by rw [jr_pow]; omega
theorem yj_sh {k : Nat} (h : k ≤ 31) : lN (2 ^ k) >>> ((1 : Int32).toInt64 &&& 63) = lN (2 ^ k / 2) := by
  have := pf_shr (a := 2 ^ k) (d := 1) (D := (1 : Int32).toInt64 &&& 63) (by decide) (Nat.lt_of_le_of_lt (Nat.pow_le_pow_right (by decide) h) (by decide))
  exact this
theorem yj_ro {post : Int64 → Prop} {n : Nat} (hn : n < 2 ^ 63) : ∀ k r, k ≤ 30 → r + 2 ^ k ≤ 2 ^ 30 → post (lN (jr_r n k r)) → wY_root_7 post (lN n) (k + 1) (lN r) (lN (2 ^ k / 2)) := by
  intro k
  induction k with
  | zero => intro r _ _ h; exact br_t (by decide) h
  | succ k ih =>
    intro r hk hr h
    obtain ⟨q1, q2, q3⟩ := jr_sq hr
    have kp : 0 < 2 ^ k := Nat.pos_of_ne_zero (by simp)
    rw [yj_half]
    have b : 2 ^ k < 2 ^ 63 := by omega
    refine br_f (fun z => ?_) ?_
    · have := (pk_lLE (b := 0) b (by decide)).mp z
      omega
    · rw [lN_add, lN_mul]
      have l := pk_lLT (a := n) (b := (r + 2 ^ k) * (r + 2 ^ k)) hn q1
      rw [jr_r] at h
      refine br_c (fun c => nm_r (yj_sh (by omega)) ?_) (fun c => nm_e (nm_r (yj_sh (by omega)) ?_))
      · rw [if_neg (by have := l.mp c; omega)] at h
        exact ih r (by omega) (by omega) h
      · rw [if_pos (by have : ¬ n < (r + 2 ^ k) * (r + 2 ^ k) := fun z => c (l.mpr z); omega)] at h
        exact ih _ (by omega) q2 h
theorem yj_rt {post : Int64 → Prop} {n : Nat} (hn : n < 2 ^ 60) (h : post (lN (jr_r n 30 0))) : wpY_root post (lN n) := by
  refine ⟨33, ?_⟩
  have p31 : (2147483648 : Int64) = lN (2 ^ 31) := by decide
  rw [p31]
  have s1 : ∀ k, k = 30 ∨ k = 31 → ∀ f, wY_root_7 post (lN n) f 0 (lN (2 ^ k / 2)) → wY_root_7 post (lN n) (f + 1) 0 (lN (2 ^ k)) := by
    intro k hk f g
    have b : 2 ^ 30 ≤ 2 ^ k ∧ 2 ^ k ≤ 2 ^ 31 := by rcases hk with z | z <;> subst z <;> decide
    have c : 2 ^ 60 ≤ (0 + 2 ^ k) * (0 + 2 ^ k) ∧ (0 + 2 ^ k) * (0 + 2 ^ k) < 2 ^ 63 := by rcases hk with z | z <;> subst z <;> decide
    refine br_f (fun z => ?_) ?_
    · have := (pk_lLE (a := 2 ^ k) (b := 0) (by omega) (by decide)).mp z
      omega
    · rw [show (0 : Int64) = lN 0 from rfl, lN_add, lN_mul]
      refine br_t ((pk_lLT (by omega) c.2).mpr (by omega)) (nm_r (yj_sh (by omega)) g)
  refine s1 31 (Or.inr rfl) 32 ?_
  rw [yj_half]
  exact s1 30 (Or.inl rfl) 31 (yj_ro (by omega) 30 0 (Nat.le_refl _) (by decide) h)
/-! the pace of a joint from its directions -/
def jv_c (P Q : Nat → Int) : Int := 0 + P 0 * Q 0 + P 1 * Q 1 + P 2 * Q 2
def jv_r (P Q : Nat → Int) : Nat := jr_r (jv_c P P * jv_c Q Q).toNat 30 0
def jv_ (bend : Int32) (P Q : Nat → Int) (p1 p2 : Int32) : Int32 :=
  if 0 < jv_c P Q then
    (if jv_c P Q < (jv_r P Q : Int) then
      (if (if p2 ≤ p1 then p2 else p1).toInt64 ≤ (bend.toInt64 * jl_J (jv_c P Q)) / (jl_J (jv_r P Q : Int) - jl_J (jv_c P Q)) then (if p2 ≤ p1 then p2 else p1)
       else ((bend.toInt64 * jl_J (jv_c P Q)) / (jl_J (jv_r P Q : Int) - jl_J (jv_c P Q))).toInt32)
     else (if p2 ≤ p1 then p2 else p1))
  else 0
theorem jv_m {x y : Int} (hx : -2000 ≤ x ∧ x ≤ 2000) (hy : -2000 ≤ y ∧ y ≤ 2000) : -4000000 ≤ x * y ∧ x * y ≤ 4000000 := by
  have h1 := wk_sqb (B := 4000) (u := x + y) (by omega)
  have h2 := wk_sqb (B := 4000) (u := x - y) (by omega)
  have h3 := wk_sqb (B := 2000) hx
  have h4 := wk_sqb (B := 2000) hy
  have e1 : (x + y) * (x + y) = x * x + 2 * (x * y) + y * y := by grind
  have e2 : (x - y) * (x - y) = x * x - 2 * (x * y) + y * y := by grind
  omega
theorem jv_b {P Q : Nat → Int} (hP : ∀ a, a < 3 → -2000 ≤ P a ∧ P a ≤ 2000) (hQ : ∀ a, a < 3 → -2000 ≤ Q a ∧ Q a ≤ 2000) : -12000000 ≤ jv_c P Q ∧ jv_c P Q ≤ 12000000 := by
  have a0 := jv_m (hP 0 (by decide)) (hQ 0 (by decide))
  have a1 := jv_m (hP 1 (by decide)) (hQ 1 (by decide))
  have a2 := jv_m (hP 2 (by decide)) (hQ 2 (by decide))
  unfold jv_c
  omega
theorem jv_p {P : Nat → Int} (hP : ∀ a, a < 3 → -2000 ≤ P a ∧ P a ≤ 2000) : 0 ≤ jv_c P P := by
  have a0 := wk_sqb (B := 2000) (hP 0 (by decide))
  have a1 := wk_sqb (B := 2000) (hP 1 (by decide))
  have a2 := wk_sqb (B := 2000) (hP 2 (by decide))
  unfold jv_c
  omega
theorem jl_n (n : Nat) : lN n = jl_J (n : Int) := (Int64.ofInt_eq_ofNat).symm
theorem jv_pq {P Q : Nat → Int} (hP : ∀ a, a < 3 → -2000 ≤ P a ∧ P a ≤ 2000) (hQ : ∀ a, a < 3 → -2000 ≤ Q a ∧ Q a ≤ 2000) :
    jl_J (jv_c P P) * jl_J (jv_c Q Q) = lN (jv_c P P * jv_c Q Q).toNat ∧ (jv_c P P * jv_c Q Q).toNat < 2 ^ 60 := by
  have p0 := jv_p hP
  have q0 := jv_p hQ
  have p1 := jv_b hP hP
  have q1 := jv_b hQ hQ
  have m0 : 0 ≤ jv_c P P * jv_c Q Q := Int.mul_nonneg p0 q0
  have m1 : jv_c P P * jv_c Q Q ≤ 12000000 * 12000000 := Int.mul_le_mul p1.2 q1.2 q0 (by omega)
  refine ⟨?_, by omega⟩
  rw [jl_mul, jl_n, Int.toNat_of_nonneg m0]
theorem jv_rb {P Q : Nat → Int} : (jv_r P Q : Int) < 2 ^ 30 := by
  have := jr_le (jv_c P P * jv_c Q Q).toNat 30 0 (by decide)
  unfold jv_r
  omega
section
variable {f_lines f_fastest f_gain f_bend f_ahead f_mode f_holds f_pace f_line f_gone f_dwellLeft f_stepsInAll f_ticksInAll f_speed f_present f_laid : Int32} {a_wordCounts a_letters a_values a_limits a_switches a_tool a_inForce a_origins a_given a_rows a_probe a_motions a_thirds a_centres a_steps a_paces a_dwells a_marks a_nexts a_joints : Nat → Int32}
theorem xj_113 {post : Int32 → Prop} {P Q : Nat → Int} {z : Int32} (hP : ∀ a, a < 3 → -2000 ≤ P a ∧ P a ≤ 2000) (hQ : ∀ a, a < 3 → -2000 ≤ Q a ∧ Q a ≤ 2000)
    (h : post (if jv_c P Q < (jv_r P Q : Int) then (if z.toInt64 ≤ (f_bend.toInt64 * jl_J (jv_c P Q)) / (jl_J (jv_r P Q : Int) - jl_J (jv_c P Q)) then z else ((f_bend.toInt64 * jl_J (jv_c P Q)) / (jl_J (jv_r P Q : Int) - jl_J (jv_c P Q))).toInt32) else z)) :
    wX_jointPace_113 post (jl_J (jv_c P Q)) (jl_J (jv_c P P)) (jl_J (jv_c Q Q)) z f_lines f_fastest f_gain f_bend f_ahead f_mode f_holds f_pace f_line f_gone f_dwellLeft f_stepsInAll f_ticksInAll f_speed f_present f_laid a_wordCounts a_letters a_values a_limits a_switches a_tool a_inForce a_origins a_given a_rows a_probe a_motions a_thirds a_centres a_steps a_paces a_dwells a_marks a_nexts a_joints := by
  obtain ⟨e, b⟩ := jv_pq hP hQ
  have c := jv_b hP hQ
  have rb := jv_rb (P := P) (Q := Q)
  unfold wX_jointPace_113
  rw [e]
  unfold wpX_rootOf
  refine ⟨31, xj_ro (by omega) 30 0 (Nat.le_refl _) (by decide) ?_⟩
  rw [jl_n, show jr_r (jv_c P P * jv_c Q Q).toNat 30 0 = jv_r P Q from rfl]
  have l : jl_J (jv_c P Q) < jl_J (jv_r P Q : Int) ↔ jv_c P Q < (jv_r P Q : Int) := jl_lt (by unfold jl_R; omega) (by unfold jl_R; omega)
  refine br_c (fun g => ⟨?_, nm_e (br_c (fun k => ?_) (fun k => ?_))⟩) (fun g => ?_)
  · rw [jl_sub]
    intro w
    have := (jl_eq (b := 0) (by unfold jl_R; omega) (by unfold jl_R; omega)).mp w
    have := l.mp g
    omega
  · rw [if_pos (l.mp g), if_pos k] at h; exact h
  · rw [if_pos (l.mp g), if_neg k] at h; exact h
  · rw [if_neg (fun w => g (l.mpr w))] at h; exact h
end
section
variable {f_lines f_fastest f_gain f_bend f_ahead f_speed f_seen f_state f_line f_pace f_left f_went f_allSteps f_allTicks f_u f_v f_holds : Int32} {a_letters a_values a_many a_tool a_began a_limit a_trips a_force a_origins a_here a_has a_grouped a_word a_from a_to a_steps a_paces a_dwells a_ends a_turn a_first a_second a_centre a_direction : Nat → Int32}
theorem yj_134 {post : Int32 → SY → Prop} {P Q : Nat → Int} {z : Int32} (hP : ∀ a, a < 3 → -2000 ≤ P a ∧ P a ≤ 2000) (hQ : ∀ a, a < 3 → -2000 ≤ Q a ∧ Q a ≤ 2000)
    (h : post (if 0 < jv_c P Q then (if jv_c P Q < (jv_r P Q : Int) then (if z.toInt64 ≤ (f_bend.toInt64 * jl_J (jv_c P Q)) / (jl_J (jv_r P Q : Int) - jl_J (jv_c P Q)) then z else ((f_bend.toInt64 * jl_J (jv_c P Q)) / (jl_J (jv_r P Q : Int) - jl_J (jv_c P Q))).toInt32) else z) else 0) (f_lines, f_fastest, f_gain, f_bend, f_ahead, f_speed, f_seen, f_state, f_line, f_pace, f_left, f_went, f_allSteps, f_allTicks, f_u, f_v, f_holds, a_letters, a_values, a_many, a_tool, a_began, a_limit, a_trips, a_force, a_origins, a_here, a_has, a_grouped, a_word, a_from, a_to, a_steps, a_paces, a_dwells, a_ends, a_turn, a_first, a_second, a_centre, a_direction)) :
    wY_jointPace_134 post (jl_J (jv_c P Q)) (jl_J (jv_c P P)) (jl_J (jv_c Q Q)) z f_lines f_fastest f_gain f_bend f_ahead f_speed f_seen f_state f_line f_pace f_left f_went f_allSteps f_allTicks f_u f_v f_holds a_letters a_values a_many a_tool a_began a_limit a_trips a_force a_origins a_here a_has a_grouped a_word a_from a_to a_steps a_paces a_dwells a_ends a_turn a_first a_second a_centre a_direction := by
  obtain ⟨e, b⟩ := jv_pq hP hQ
  have c := jv_b hP hQ
  have rb := jv_rb (P := P) (Q := Q)
  unfold wY_jointPace_134
  rw [e]
  refine yj_rt b ?_
  rw [jl_n, show jr_r (jv_c P P * jv_c Q Q).toNat 30 0 = jv_r P Q from rfl]
  have l : jl_J (jv_r P Q : Int) ≤ jl_J (jv_c P Q) ↔ ¬ jv_c P Q < (jv_r P Q : Int) := by
    rw [jl_le (by unfold jl_R; omega) (by unfold jl_R; omega)]
    omega
  have l0 : 0 < jl_J (jv_c P Q) ↔ 0 < jv_c P Q := jl_lt (a := 0) (by unfold jl_R; omega) (by unfold jl_R; omega)
  unfold wY_jointPace_179
  refine br_c (fun g0 => br_c (fun g => br_t (Int64.le_refl _) ?_) (fun g => ⟨?_, br_c (fun k => ?_) (fun k => ?_)⟩)) (fun g0 => ?_)
  · rw [if_pos (l0.mp g0), if_neg (l.mp g)] at h; exact h
  · rw [jl_sub]
    intro w
    have w' := (jl_eq (b := 0) (by unfold jl_R; omega) (by unfold jl_R; omega)).mp w
    refine g (l.mpr ?_)
    omega
  · rw [if_pos (l0.mp g0), if_pos (Decidable.byContradiction (fun w => g (l.mpr w))), if_pos k] at h; exact h
  · rw [if_pos (l0.mp g0), if_pos (Decidable.byContradiction (fun w => g (l.mpr w))), if_neg k] at h; exact h
  · rw [if_neg (fun w => g0 (l0.mpr w))] at h; exact h
end
end JPC
