section YP2
section
variable {f_lines f_fastest f_gain f_bend f_ahead f_speed f_seen f_state f_line f_pace f_left f_went f_allSteps f_allTicks f_u f_v f_holds : Int32} {a_letters a_values a_many a_tool a_began a_limit a_trips a_force a_origins a_here a_has a_grouped a_word a_from a_to a_steps a_paces a_dwells a_ends a_turn a_first a_second a_centre a_direction : Nat → Int32}
/-- the reference plans: from where the tool is (standing) or where the program began -/
theorem yz_pl {post : Int32 → SY → Prop} {s0 : Nat → Int32} {l : Nat} (hl : l ≤ 30) (el : f_lines = nI l) (wf : ci_WF a_letters a_values a_many a_limit)
    (hs : ∀ a, a < 3 → 0 ≤ (s0 a).toInt ∧ (s0 a).toInt ≤ (a_limit a).toInt) (hF : ∀ g, 6 ≤ g → a_force g = 0)
    (hst : (f_state = 0 ∧ ∀ a, a < 3 → s0 a = a_tool a) ∨ (¬ f_state = 0 ∧ ∀ a, a < 3 → s0 a = a_began a))
    (h : ∀ N r, ci_R a_letters a_values a_many a_limit s0 l N r → ∀ sp u v F O he hs gr wd fr to st pc dw en tu fi se ce, (∀ g, 6 ≤ g → F g = 0) →
      yz_T a_letters a_values a_many s0 N to → (r = 0 → yz_L a_letters a_values a_many a_limit f_fastest s0 N fr to st pc dw en tu fi se ce) →
      post r (f_lines, f_fastest, f_gain, f_bend, f_ahead, sp, (nI N), f_state, f_line, f_pace, f_left, f_went, f_allSteps, f_allTicks, u, v, f_holds, a_letters, a_values, a_many, a_tool, a_began, a_limit, a_trips, F, O, he, hs, gr, wd, fr, to, st, pc, dw, en, tu, fi, se, ce, a_direction)) :
    wpY_plan post (f_lines, f_fastest, f_gain, f_bend, f_ahead, f_speed, f_seen, f_state, f_line, f_pace, f_left, f_went, f_allSteps, f_allTicks, f_u, f_v, f_holds, a_letters, a_values, a_many, a_tool, a_began, a_limit, a_trips, a_force, a_origins, a_here, a_has, a_grouped, a_word, a_from, a_to, a_steps, a_paces, a_dwells, a_ends, a_turn, a_first, a_second, a_centre, a_direction) := by
  have st1 : ∀ a f O he, a < 3 → wY_plan_2 post f_lines f_fastest f_gain f_bend f_ahead f_speed f_seen f_state f_line f_pace f_left f_went f_allSteps f_allTicks f_u f_v f_holds f (nI (a + 1)) a_letters a_values a_many a_tool a_began a_limit a_trips a_force (upd (upd O a 0) (3 + a) 0) (upd he a (s0 a)) a_has a_grouped a_word a_from a_to a_steps a_paces a_dwells a_ends a_turn a_first a_second a_centre a_direction →
      wY_plan_2 post f_lines f_fastest f_gain f_bend f_ahead f_speed f_seen f_state f_line f_pace f_left f_went f_allSteps f_allTicks f_u f_v f_holds (f + 1) (nI a) a_letters a_values a_many a_tool a_began a_limit a_trips a_force O he a_has a_grouped a_word a_from a_to a_steps a_paces a_dwells a_ends a_turn a_first a_second a_centre a_direction := by
    intro a f O he ha k
    have cla : (nI a).toNatClampNeg = a := nI_clamp (by omega)
    have cl3 : (nI (3 + a)).toNatClampNeg = 3 + a := nI_clamp (by omega)
    have g34 : ∀ z, z = s0 a → wY_plan_34 post (wY_plan_2 post f_lines f_fastest f_gain f_bend f_ahead f_speed f_seen f_state f_line f_pace f_left f_went f_allSteps f_allTicks f_u f_v f_holds f) (nI a) z (nI a) f_lines f_fastest f_gain f_bend f_ahead f_speed f_seen f_state f_line f_pace f_left f_went f_allSteps f_allTicks f_u f_v f_holds a_letters a_values a_many a_tool a_began a_limit a_trips a_force O he a_has a_grouped a_word a_from a_to a_steps a_paces a_dwells a_ends a_turn a_first a_second a_centre a_direction := by
      intro z ez
      subst ez
      unfold wY_plan_34
      rw [show (3 : Int32) + nI a = nI (3 + a) from nI_add 3 a, cla, cl3]
      exact ⟨vp_in_nI ha (by omega), nm_e ⟨vp_in_nI (by omega) (by omega), nm_e ⟨vp_in_nI (by omega) (by omega), nm_e (nm_r (nI_1 a) k)⟩⟩⟩
    refine br_f (ix_3a ha) ?_
    rw [cla]
    rcases hst with ⟨z, e⟩ | ⟨z, e⟩
    · exact br_t z ⟨vp_in_nI ha (by omega), g34 _ (e a ha).symm⟩
    · exact br_f z ⟨vp_in_nI ha (by omega), g34 _ (e a ha).symm⟩
  refine ⟨4, st1 0 3 _ _ (by decide) (st1 1 2 _ _ (by decide) (st1 2 1 _ _ (by decide) (br_t ix_33 (nm_e (nm_e (nm_e (nm_e (nm_e ⟨l + 1, ?_⟩))))))))⟩
  refine yz_106 hl el wf hs h l 0 _ _ _ _ _ _ _ _ _ _ _ _ _ _ _ _ _ _ _ (by omega) (fun m hm => absurd hm (by omega)) (fun m hm => absurd hm (by omega)) ?_ rfl ?_ ?_ ⟨fun m hm => absurd hm (by omega), fun m hm => absurd hm (by omega)⟩
  · intro g hg
    show upd (upd (upd (upd (upd a_force 0 0) 1 17) 2 21) 3 90) 4 54 g = px_ff g
    unfold px_ff
    by_cases g4 : g = 4
    · subst g4; rfl
    rw [pk_un g4]
    by_cases g3 : g = 3
    · subst g3; rfl
    rw [pk_un g3]
    by_cases g2 : g = 2
    · subst g2; rfl
    rw [pk_un g2]
    by_cases g1 : g = 1
    · subst g1; rfl
    rw [pk_un g1]
    by_cases g0 : g = 0
    · subst g0; rfl
    rw [pk_un g0, hF g (by omega), if_neg g0, if_neg g1, if_neg g2, if_neg g3, if_neg g4]
  · intro i hi
    show upd (upd (upd (upd (upd (upd a_origins 0 0) (3 + 0) 0) 1 0) (3 + 1) 0) 2 0) (3 + 2) 0 i = 0
    match i, hi with
    | 0, _ => rfl
    | 1, _ => rfl
    | 2, _ => rfl
    | 3, _ => rfl
    | 4, _ => rfl
    | 5, _ => rfl
  · exact fun a ha => co_3 (P := fun a => upd (upd (upd a_here 0 (s0 0)) 1 (s0 1)) 2 (s0 2) a = s0 a) rfl rfl rfl ha
end
end YP2
