section XCE
theorem fv_ft {F : Nat → Int32} (hF : fc_FW F) : 19 - F 1 = nI (pl_ft F) ∧ pl_ft F < 3 ∧ (pl_ft F + 1) % 3 = pl_fa F ∧ (pl_ft F + 2) % 3 = pl_fb F := by
  unfold pl_ft pl_fa pl_fb
  rcases fv_1 hF with e | e | e <;> rw [e] <;> decide
section
variable {f_lines f_fastest f_gain f_bend f_ahead f_mode f_holds f_pace f_line f_gone f_dwellLeft f_stepsInAll f_ticksInAll f_speed f_present f_laid : Int32} {a_wordCounts a_letters a_values a_limits a_switches a_tool a_inForce a_origins a_given a_rows a_probe a_motions a_thirds a_centres a_steps a_paces a_dwells a_marks a_nexts a_joints : Nat → Int32}
theorem xl_ij {post : Int32 → Prop} {H : Nat → Bool} {p : Int32} (a : Nat) (ha : a < 3) (hp : p = nI (5 + a)) (hH : ∀ i, i < 10 → bt f_present i = H i) (h : post (pl_ij a_inForce H a_given a)) : wpX_coordinate post (f_lines, f_fastest, f_gain, f_bend, f_ahead, f_mode, f_holds, f_pace, f_line, f_gone, f_dwellLeft, f_stepsInAll, f_ticksInAll, f_speed, f_present, f_laid, a_wordCounts, a_letters, a_values, a_limits, a_switches, a_tool, a_inForce, a_origins, a_given, a_rows, a_probe, a_motions, a_thirds, a_centres, a_steps, a_paces, a_dwells, a_marks, a_nexts, a_joints) p := by
  refine xl_co (5 + a) (by omega) hp ?_
  rw [hH (5 + a) (by omega)]
  exact h
theorem xl_pc {post : Int32 → SX → Prop} {H : Nat → Bool} {n th : Nat} {p q hA hB T U : Int} (hn : n < 30) (hth : th < 3) (ht : a_thirds n = nI th) (hH : ∀ i, i < 10 → bt f_present i = H i)
    (hp : pl_ij a_inForce H a_given ((th + 1) % 3) = ii_I p) (hq : pl_ij a_inForce H a_given ((th + 2) % 3) = ii_I q) (rp : -15000 ≤ p ∧ p ≤ 15000) (rq : -15000 ≤ q ∧ q ≤ 15000)
    (eA : a_rows (3 * n + (th + 1) % 3) = ii_I hA) (eB : a_rows (3 * n + (th + 2) % 3) = ii_I hB) (rA : 0 ≤ hA ∧ hA ≤ 1000) (rB : 0 ≤ hB ∧ hB ≤ 1000)
    (eT : a_rows (3 * (n + 1) + (th + 1) % 3) = ii_I T) (eU : a_rows (3 * (n + 1) + (th + 2) % 3) = ii_I U) (rT : -100000 ≤ T ∧ T ≤ 100000) (rU : -100000 ≤ U ∧ U ≤ 100000)
    (h0 : ((H (5 + (th + 1) % 3) = false ∧ H (5 + (th + 2) % 3) = false ∨ H (2 + th) = true ∨ H (5 + th) = true) ∨ p * p + q * q = 0 ∨ 90000 < p * p + q * q ∨ ¬ (T - hA - p) * (T - hA - p) + (U - hB - q) * (U - hB - q) = p * p + q * q) → ∀ C, (∀ k, k < 2 * n → C k = a_centres k) → post 0 (f_lines, f_fastest, f_gain, f_bend, f_ahead, f_mode, f_holds, f_pace, f_line, f_gone, f_dwellLeft, f_stepsInAll, f_ticksInAll, f_speed, f_present, f_laid, a_wordCounts, a_letters, a_values, a_limits, a_switches, a_tool, a_inForce, a_origins, a_given, a_rows, a_probe, a_motions, a_thirds, C, a_steps, a_paces, a_dwells, a_marks, a_nexts, a_joints))
    (h1 : ¬ ((H (5 + (th + 1) % 3) = false ∧ H (5 + (th + 2) % 3) = false ∨ H (2 + th) = true ∨ H (5 + th) = true) ∨ p * p + q * q = 0 ∨ 90000 < p * p + q * q ∨ ¬ (T - hA - p) * (T - hA - p) + (U - hB - q) * (U - hB - q) = p * p + q * q) →
      post 1 (f_lines, f_fastest, f_gain, f_bend, f_ahead, f_mode, f_holds, f_pace, f_line, f_gone, f_dwellLeft, f_stepsInAll, f_ticksInAll, f_speed, f_present, f_laid, a_wordCounts, a_letters, a_values, a_limits, a_switches, a_tool, a_inForce, a_origins, a_given, a_rows, a_probe, a_motions, a_thirds, (upd (upd a_centres (2 * n) (ii_I (hA + p))) (2 * n + 1) (ii_I (hB + q))), a_steps, a_paces, a_dwells, a_marks, a_nexts, a_joints)) :
    wpX_placeCentre post (f_lines, f_fastest, f_gain, f_bend, f_ahead, f_mode, f_holds, f_pace, f_line, f_gone, f_dwellLeft, f_stepsInAll, f_ticksInAll, f_speed, f_present, f_laid, a_wordCounts, a_letters, a_values, a_limits, a_switches, a_tool, a_inForce, a_origins, a_given, a_rows, a_probe, a_motions, a_thirds, a_centres, a_steps, a_paces, a_dwells, a_marks, a_nexts, a_joints) (nI n) := by
  have hfa : (th + 1) % 3 < 3 := Nat.mod_lt _ (by decide)
  have hfb : (th + 2) % 3 < 3 := Nat.mod_lt _ (by decide)
  have q1 := wk_sqb (B := 15000) rp
  have q2 := wk_sqb (B := 15000) rq
  unfold wpX_placeCentre
  dsimp only
  rw [nI_clamp (show n < 2 ^ 31 by omega), ht]
  refine ⟨vp_in_nI hn (by omega), nm_e ⟨by decide, nm_r (xs_m1 hth) ⟨by decide, nm_r (xs_m2 hth) ?_⟩⟩⟩
  have m43 : ¬ (H (5 + (th + 1) % 3) = false ∧ H (5 + (th + 2) % 3) = false) → wX_placeCentre_43 post (nI n) (nI th) (nI ((th + 1) % 3)) (nI ((th + 2) % 3)) f_lines f_fastest f_gain f_bend f_ahead f_mode f_holds f_pace f_line f_gone f_dwellLeft f_stepsInAll f_ticksInAll f_speed f_present f_laid a_wordCounts a_letters a_values a_limits a_switches a_tool a_inForce a_origins a_given a_rows a_probe a_motions a_thirds a_centres a_steps a_paces a_dwells a_marks a_nexts a_joints := by
    intro c1
    unfold wX_placeCentre_43
    refine xl_has (2 + th) (by omega) (ix_p2 th) ?_
    rw [hH (2 + th) (by omega)]
    cases e2 : H (2 + th)
    · refine br_t rfl (xl_has (5 + th) (by omega) (ix_p5 th) ?_)
      rw [hH (5 + th) (by omega)]
      cases e3 : H (5 + th)
      · refine br_t rfl (xl_ij _ hfa (ix_p5 _) hH (xl_ij _ hfb (ix_p5 _) hH ?_))
        rw [hp, hq]
        refine nm_r (e' := ii_I (p * p + q * q)) (by rw [ii_mul, ii_mul, ii_add]) ?_
        have z0 : ii_I (p * p + q * q) = 0 ↔ p * p + q * q = 0 := ii_eq (b := 0) (by unfold ii_R; omega) (by unfold ii_R; omega)
        have z9 : ii_I (p * p + q * q) ≤ 90000 ↔ p * p + q * q ≤ 90000 := ii_le (b := 90000) (by unfold ii_R; omega) (by unfold ii_R; omega)
        have same : (f_lines, f_fastest, f_gain, f_bend, f_ahead, f_mode, f_holds, f_pace, f_line, f_gone, f_dwellLeft, f_stepsInAll, f_ticksInAll, f_speed, f_present, f_laid, a_wordCounts, a_letters, a_values, a_limits, a_switches, a_tool, a_inForce, a_origins, a_given, a_rows, a_probe, a_motions, a_thirds, a_centres, a_steps, a_paces, a_dwells, a_marks, a_nexts, a_joints) = (f_lines, f_fastest, f_gain, f_bend, f_ahead, f_mode, f_holds, f_pace, f_line, f_gone, f_dwellLeft, f_stepsInAll, f_ticksInAll, f_speed, f_present, f_laid, a_wordCounts, a_letters, a_values, a_limits, a_switches, a_tool, a_inForce, a_origins, a_given, a_rows, a_probe, a_motions, a_thirds, a_centres, a_steps, a_paces, a_dwells, a_marks, a_nexts, a_joints) := rfl
        refine br_c (fun c => h0 (Or.inr (Or.inl (z0.mp c))) a_centres (fun _ _ => rfl)) (fun c => br_c (fun d => ?_) (fun d => h0 (Or.inr (Or.inr (Or.inl (by rw [z9] at d; omega)))) a_centres (fun _ _ => rfl)))
        rw [z9] at d
        have p3 : -300 ≤ p ∧ p ≤ 300 := by
          have a1 := wk_sl (x := p) (y := 301) (by omega) (by omega)
          have a2 := wk_sl (x := -p) (y := 301) (by omega) (by rw [Int.neg_mul_neg]; omega)
          omega
        have q3 : -300 ≤ q ∧ q ≤ 300 := by
          have a1 := wk_sl (x := q) (y := 301) (by omega) (by omega)
          have a2 := wk_sl (x := -q) (y := 301) (by omega) (by rw [Int.neg_mul_neg]; omega)
          omega
        rw [ix_3, ix_3, ix_3s, ix_3s, ix_21, ix_2, nI_clamp (show 3 * n + (th + 1) % 3 < 2 ^ 31 by omega), nI_clamp (show 3 * n + (th + 2) % 3 < 2 ^ 31 by omega),
          nI_clamp (show 3 * (n + 1) + (th + 1) % 3 < 2 ^ 31 by omega), nI_clamp (show 3 * (n + 1) + (th + 2) % 3 < 2 ^ 31 by omega), nI_clamp (show 2 * n < 2 ^ 31 by omega), nI_clamp (show 2 * n + 1 < 2 ^ 31 by omega), eA, eB, eT, eU, ii_add, ii_add]
        have i60 : vp_in (nI (2 * n)) 60 := vp_in_nI (by omega) (by omega)
        have i61 : vp_in (nI (2 * n + 1)) 60 := vp_in_nI (by omega) (by omega)
        have rx : -200000 ≤ T - (hA + p) ∧ T - (hA + p) ≤ 200000 := by omega
        have ry : -200000 ≤ U - (hB + q) ∧ U - (hB + q) ≤ 200000 := by omega
        have sx := wk_sqb (B := 200000) rx
        have sy := wk_sqb (B := 200000) ry
        refine ⟨vp_in_nI (by omega) (by omega), i60, nm_e ⟨vp_in_nI (by omega) (by omega), i61, nm_e ⟨vp_in_nI (by omega) (by omega), i60,
          nm_r (e' := jl_J (T - (hA + p))) (by rw [pk_un (show 2 * n ≠ 2 * n + 1 by omega), pk_us, ii_sub, jl_i (by unfold ii_R; omega)])
          ⟨vp_in_nI (by omega) (by omega), i61, nm_r (e' := jl_J (U - (hB + q))) (by rw [pk_us, ii_sub, jl_i (by unfold ii_R; omega)]) ?_⟩⟩⟩⟩
        rw [jl_mul, jl_mul, jl_add, jl_i (show ii_R (p * p + q * q) by unfold ii_R; omega)]
        have eq : jl_J ((T - (hA + p)) * (T - (hA + p)) + (U - (hB + q)) * (U - (hB + q))) = jl_J (p * p + q * q) ↔ (T - hA - p) * (T - hA - p) + (U - hB - q) * (U - hB - q) = p * p + q * q := by
          rw [jl_eq (by unfold jl_R; omega) (by unfold jl_R; omega), show T - (hA + p) = T - hA - p by omega, show U - (hB + q) = U - hB - q by omega]
        refine br_c (fun g => h1 ?_) (fun g => h0 (Or.inr (Or.inr (Or.inr (fun w => g (eq.mpr w))))) _ (fun k hk => (pk_un (by omega)).trans (pk_un (by omega))))
        rintro ((w | w | w) | w | w | w)
        · exact c1 w
        · rw [e2] at w; exact absurd w (by decide)
        · rw [e3] at w; exact absurd w (by decide)
        · exact c (z0.mpr w)
        · omega
        · exact w (eq.mp g)
      · exact br_f bo_ne (h0 (Or.inl (Or.inr (Or.inr e3))) a_centres (fun _ _ => rfl))
    · exact br_f bo_ne (h0 (Or.inl (Or.inr (Or.inl e2))) a_centres (fun _ _ => rfl))
  refine xl_has (5 + (th + 1) % 3) (by omega) (ix_p5 _) ?_
  rw [hH (5 + (th + 1) % 3) (by omega)]
  cases e : H (5 + (th + 1) % 3)
  · refine br_t rfl (xl_has (5 + (th + 2) % 3) (by omega) (ix_p5 _) ?_)
    rw [hH (5 + (th + 2) % 3) (by omega)]
    cases e' : H (5 + (th + 2) % 3)
    · exact br_t rfl (h0 (Or.inl (Or.inl ⟨e, e'⟩)) a_centres (fun _ _ => rfl))
    · exact br_f bo_ne (m43 (fun z => by rw [e'] at z; exact absurd z.2 (by decide)))
  · exact br_f bo_ne (m43 (fun z => by rw [e] at z; exact absurd z.1 (by decide)))
end
end XCE
