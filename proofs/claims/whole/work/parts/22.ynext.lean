section YNX
theorem ys_sg {post : Int32 → Prop} {p : Int32} {x : Int} (hp : p = ii_I x) (hx : ii_R x) (h : post (ii_I (wk_sg x))) : wpY_sign post p := by
  subst hp
  unfold wpY_sign
  have r0 : ii_R 0 := by unfold ii_R; omega
  have e1 : 0 ≤ ii_I x ↔ 0 ≤ x := ii_le (a := 0) r0 hx
  have e2 : ii_I x ≤ 0 ↔ x ≤ 0 := ii_le (b := 0) hx r0
  unfold wk_sg at h
  refine br_c (fun a => br_c (fun b => ?_) (fun b => ?_)) (fun a => ?_)
  · rw [if_neg (by rw [e1] at a; omega), if_neg (by rw [e2] at b; omega)] at h; exact h
  · rw [if_neg (by rw [e1] at a; omega), if_pos (by rw [e2] at b; omega)] at h; exact h
  · rw [if_pos (by rw [e1] at a; omega)] at h; exact h
section
variable {f_lines f_fastest f_gain f_bend f_ahead f_speed f_seen f_state f_line f_pace f_left f_went f_allSteps f_allTicks f_u f_v f_holds : Int32} {a_letters a_values a_many a_tool a_began a_limit a_trips a_force a_origins a_here a_has a_grouped a_word a_from a_to a_steps a_paces a_dwells a_ends a_turn a_first a_second a_centre a_direction : Nat → Int32}
theorem ys_119 {post : SY → Prop} {J : Int32 → Int32 → Int32 → Int32 → Prop} {x3 x4 x6 x7 x8 : Int32} {f m s t : Int} (hs : -5001 ≤ s ∧ s ≤ 5001) (ht : -5001 ≤ t ∧ t ≤ 5001) (hf : 0 ≤ f ∧ f ≤ 90000) (hm : ii_R m)
    (take : (m < 0 ∨ wk_of f s t < m) → J (ii_I (wk_of f s t)) (x8 + 1) (ii_I s) (ii_I t)) (keep : ¬ (m < 0 ∨ wk_of f s t < m) → J (ii_I m) (x8 + 1) f_u f_v) :
    wY_next_119 post J (ii_I f) x3 x4 (ii_I m) x6 x7 x8 (ii_I s) (ii_I t) f_lines f_fastest f_gain f_bend f_ahead f_speed f_seen f_state f_line f_pace f_left f_went f_allSteps f_allTicks f_u f_v f_holds a_letters a_values a_many a_tool a_began a_limit a_trips a_force a_origins a_here a_has a_grouped a_word a_from a_to a_steps a_paces a_dwells a_ends a_turn a_first a_second a_centre a_direction := by
  have q1 := wk_sqb (B := 5001) hs
  have q2 := wk_sqb (B := 5001) ht
  have ro := wk_ofr hs ht hf
  have e1 : 0 ≤ ii_I (s * s + t * t - f) ↔ 0 ≤ s * s + t * t - f := ii_le (a := 0) (by unfold ii_R; omega) (by unfold ii_R; omega)
  have g144 : ∀ z, z = ii_I (wk_of f s t) → wY_next_144 post J (ii_I f) x3 x4 (ii_I m) x6 x7 x8 (ii_I s) (ii_I t) z f_lines f_fastest f_gain f_bend f_ahead f_speed f_seen f_state f_line f_pace f_left f_went f_allSteps f_allTicks f_u f_v f_holds a_letters a_values a_many a_tool a_began a_limit a_trips a_force a_origins a_here a_has a_grouped a_word a_from a_to a_steps a_paces a_dwells a_ends a_turn a_first a_second a_centre a_direction := by
    intro z ez
    subst ez
    have l1 : ii_I m < 0 ↔ m < 0 := ii_lt (b := 0) hm (by unfold ii_R; omega)
    have l2 : ii_I (wk_of f s t) < ii_I m ↔ wk_of f s t < m := ii_lt (by unfold ii_R; omega) hm
    unfold wY_next_144 wY_next_159
    refine br_c (fun c => nm_e (take (Or.inl (l1.mp c)))) (fun c => br_c (fun d => nm_e (take (Or.inr (l2.mp d)))) (fun d => nm_e (keep ?_)))
    rintro (z | z)
    · exact c (l1.mpr z)
    · exact d (l2.mpr z)
  unfold wY_next_119
  refine nm_r (e' := ii_I (s * s + t * t - f)) (by rw [ii_mul, ii_mul, ii_add, ii_sub]) (br_c (fun c => g144 _ ?_) (fun c => nm_e (g144 _ ?_)))
  · unfold wk_of wk_ab
    rw [if_neg (by rw [e1] at c; omega)]
  · unfold wk_of wk_ab
    rw [if_pos (by rw [e1] at c; omega), ii_neg]
theorem ys_100 {post : SY → Prop} {J : Int32 → Int32 → Int32 → Int32 → Prop} {x3 x4 x8 : Int32} {f m s t u v : Int} (hs : -5001 ≤ s ∧ s ≤ 5001) (ht : -5001 ≤ t ∧ t ≤ 5001) (hu : -5000 ≤ u ∧ u ≤ 5000) (hv : -5000 ≤ v ∧ v ≤ 5000) (hf : 0 ≤ f ∧ f ≤ 90000) (hm : ii_R m)
    (take : ¬ (s = u ∧ t = v) → (m < 0 ∨ wk_of f s t < m) → J (ii_I (wk_of f s t)) (x8 + 1) (ii_I s) (ii_I t)) (keep : (s = u ∧ t = v) ∨ ¬ (m < 0 ∨ wk_of f s t < m) → J (ii_I m) (x8 + 1) f_u f_v) :
    wY_next_100 post J (ii_I f) x3 x4 (ii_I m) (ii_I u) (ii_I v) x8 (ii_I s) (ii_I t) f_lines f_fastest f_gain f_bend f_ahead f_speed f_seen f_state f_line f_pace f_left f_went f_allSteps f_allTicks f_u f_v f_holds a_letters a_values a_many a_tool a_began a_limit a_trips a_force a_origins a_here a_has a_grouped a_word a_from a_to a_steps a_paces a_dwells a_ends a_turn a_first a_second a_centre a_direction := by
  have l1 : ii_I s = ii_I u ↔ s = u := ii_eq (by unfold ii_R; omega) (by unfold ii_R; omega)
  have l2 : ii_I t = ii_I v ↔ t = v := ii_eq (by unfold ii_R; omega) (by unfold ii_R; omega)
  unfold wY_next_100
  refine br_c (fun c => br_c (fun d => nm_e (keep (Or.inl ⟨l1.mp c, l2.mp d⟩))) (fun d => ys_119 hs ht hf hm (take ?_) (fun z => keep (Or.inr z)))) (fun c => ys_119 hs ht hf hm (take ?_) (fun z => keep (Or.inr z)))
  · exact fun z => d (l2.mpr z.2)
  · exact fun z => c (l1.mpr z.1)
theorem ys_61 {post : SY → Prop} {f a b u v : Int} (hu : -5000 ≤ u ∧ u ≤ 5000) (hv : -5000 ≤ v ∧ v ≤ 5000) (ha : -1 ≤ a ∧ a ≤ 1) (hb : -1 ≤ b ∧ b ≤ 1) (hf : 0 ≤ f ∧ f ≤ 90000)
    (h : post (f_lines, f_fastest, f_gain, f_bend, f_ahead, f_speed, f_seen, f_state, f_line, f_pace, f_left, f_went, f_allSteps, f_allTicks, (ii_I (wk_ch f u v a b).1), (ii_I (wk_ch f u v a b).2), f_holds, a_letters, a_values, a_many, a_tool, a_began, a_limit, a_trips, a_force, a_origins, a_here, a_has, a_grouped, a_word, a_from, a_to, a_steps, a_paces, a_dwells, a_ends, a_turn, a_first, a_second, a_centre, a_direction)) :
    wY_next_61 post (ii_I f) (ii_I a) (ii_I b) (ii_I u) (ii_I v) f_lines f_fastest f_gain f_bend f_ahead f_speed f_seen f_state f_line f_pace f_left f_went f_allSteps f_allTicks f_holds a_letters a_values a_many a_tool a_began a_limit a_trips a_force a_origins a_here a_has a_grouped a_word a_from a_to a_steps a_paces a_dwells a_ends a_turn a_first a_second a_centre a_direction 4 (-1) 0 (ii_I u) (ii_I v) := by
  have c3 : ∀ m w, w = wk_ch f u v a b → wY_next_61 post (ii_I f) (ii_I a) (ii_I b) (ii_I u) (ii_I v) f_lines f_fastest f_gain f_bend f_ahead f_speed f_seen f_state f_line f_pace f_left f_went f_allSteps f_allTicks f_holds a_letters a_values a_many a_tool a_began a_limit a_trips a_force a_origins a_here a_has a_grouped a_word a_from a_to a_steps a_paces a_dwells a_ends a_turn a_first a_second a_centre a_direction 1 m (2 + 1) (ii_I w.1) (ii_I w.2) := by
    intro m w e
    subst e
    exact br_t (by decide) h
  -- the third: u, v + b
  have c2 : ∀ (m : Int) (w : Int × Int), ii_R m → (¬ (b = 0) → (m < 0 ∨ wk_of f u (v + b) < m) → wk_ch f u v a b = (u, v + b)) → (b = 0 ∨ ¬ (m < 0 ∨ wk_of f u (v + b) < m) → wk_ch f u v a b = w) →
      wY_next_61 post (ii_I f) (ii_I a) (ii_I b) (ii_I u) (ii_I v) f_lines f_fastest f_gain f_bend f_ahead f_speed f_seen f_state f_line f_pace f_left f_went f_allSteps f_allTicks f_holds a_letters a_values a_many a_tool a_began a_limit a_trips a_force a_origins a_here a_has a_grouped a_word a_from a_to a_steps a_paces a_dwells a_ends a_turn a_first a_second a_centre a_direction 2 (ii_I m) (1 + 1) (ii_I w.1) (ii_I w.2) := by
    intro m w hm t1 t2
    refine br_f (by decide) (br_t (by decide) (br_f (by decide) ?_))
    rw [ii_add]
    refine ys_100 (by omega) (by omega) hu hv hf hm (fun n z => c3 _ (u, v + b) (t1 (fun e => n ⟨rfl, by omega⟩) z).symm) (fun z => c3 _ w (t2 ?_).symm)
    rcases z with z | z
    · exact Or.inl (by omega)
    · exact Or.inr z
  have c1 : ∀ (m : Int) (w : Int × Int), ii_R m →
      (¬ (a = 0) → (m < 0 ∨ wk_of f (u + a) v < m) → wY_next_61 post (ii_I f) (ii_I a) (ii_I b) (ii_I u) (ii_I v) f_lines f_fastest f_gain f_bend f_ahead f_speed f_seen f_state f_line f_pace f_left f_went f_allSteps f_allTicks f_holds a_letters a_values a_many a_tool a_began a_limit a_trips a_force a_origins a_here a_has a_grouped a_word a_from a_to a_steps a_paces a_dwells a_ends a_turn a_first a_second a_centre a_direction 2 (ii_I (wk_of f (u + a) v)) (1 + 1) (ii_I (u + a)) (ii_I v)) →
      (a = 0 ∨ ¬ (m < 0 ∨ wk_of f (u + a) v < m) → wY_next_61 post (ii_I f) (ii_I a) (ii_I b) (ii_I u) (ii_I v) f_lines f_fastest f_gain f_bend f_ahead f_speed f_seen f_state f_line f_pace f_left f_went f_allSteps f_allTicks f_holds a_letters a_values a_many a_tool a_began a_limit a_trips a_force a_origins a_here a_has a_grouped a_word a_from a_to a_steps a_paces a_dwells a_ends a_turn a_first a_second a_centre a_direction 2 (ii_I m) (1 + 1) (ii_I w.1) (ii_I w.2)) →
      wY_next_61 post (ii_I f) (ii_I a) (ii_I b) (ii_I u) (ii_I v) f_lines f_fastest f_gain f_bend f_ahead f_speed f_seen f_state f_line f_pace f_left f_went f_allSteps f_allTicks f_holds a_letters a_values a_many a_tool a_began a_limit a_trips a_force a_origins a_here a_has a_grouped a_word a_from a_to a_steps a_paces a_dwells a_ends a_turn a_first a_second a_centre a_direction 3 (ii_I m) (0 + 1) (ii_I w.1) (ii_I w.2) := by
    intro m w hm t1 t2
    refine br_f (by decide) (br_f (by decide) (br_t (by decide) ?_))
    rw [ii_add]
    refine ys_100 (by omega) (by omega) hu hv hf hm (fun n z => t1 (fun e => n ⟨by omega, rfl⟩) z) (fun z => t2 ?_)
    rcases z with z | z
    · exact Or.inl (by omega)
    · exact Or.inr z
  refine br_f (by decide) (br_f (by decide) (br_f (by decide) ?_))
  rw [ii_add, ii_add]
  have r0 := wk_ofr (f := f) (u := u + a) (v := v + b) (by omega) (by omega) hf
  have r1 := wk_ofr (f := f) (u := u + a) (v := v) (by omega) (by omega) hf
  refine ys_100 (m := -1) (s := u + a) (t := v + b) (by omega) (by omega) hu hv hf (by unfold ii_R; omega) (fun n z => ?_) (fun z => ?_)
  · refine c1 (wk_of f (u + a) (v + b)) (u + a, v + b) (by unfold ii_R; omega) (fun na y => ?_) (fun y => ?_)
    · have y' : wk_of f (u + a) v < wk_of f (u + a) (v + b) := by omega
      refine c2 (wk_of f (u + a) v) (u + a, v) (by unfold ii_R; omega) (fun nb x => ?_) (fun x => ?_)
      · unfold wk_ch; rw [if_pos ⟨na, y'⟩, if_pos ⟨nb, by omega⟩]
      · unfold wk_ch; rw [if_pos ⟨na, y'⟩, if_neg]
        rintro ⟨x1, x2⟩
        rcases x with x | x
        · exact x1 x
        · exact x (Or.inr x2)
    · have y' : ¬ (a ≠ 0 ∧ wk_of f (u + a) v < wk_of f (u + a) (v + b)) := by
        rintro ⟨y1, y2⟩
        rcases y with y | y
        · exact y1 y
        · exact y (Or.inr y2)
      refine c2 (wk_of f (u + a) (v + b)) (u + a, v + b) (by unfold ii_R; omega) (fun nb x => ?_) (fun x => ?_)
      · unfold wk_ch; rw [if_neg y', if_pos ⟨nb, by omega⟩]
      · unfold wk_ch; rw [if_neg y', if_neg]
        rintro ⟨x1, x2⟩
        rcases x with x | x
        · exact x1 x
        · exact x (Or.inr x2)
  · have z' : a = 0 ∧ b = 0 := by omega
    obtain ⟨ea, eb⟩ := z'
    refine c1 (-1) (u, v) (by unfold ii_R; omega) (fun na => absurd ea na) (fun _ => ?_)
    refine c2 (-1) (u, v) (by unfold ii_R; omega) (fun nb => absurd eb nb) (fun _ => ?_)
    rw [ea, wk_cha, eb, Int.add_zero]
theorem ys_nx {post : SY → Prop} {p0 : Int32} {on : Bool} {f u v : Int} (ho : p0 = 3 ↔ on = true) (eu : f_u = ii_I u) (ev : f_v = ii_I v) (hu : -5000 ≤ u ∧ u ≤ 5000) (hv : -5000 ≤ v ∧ v ≤ 5000) (hf : 0 ≤ f ∧ f ≤ 90000)
    (h : post (f_lines, f_fastest, f_gain, f_bend, f_ahead, f_speed, f_seen, f_state, f_line, f_pace, f_left, f_went, f_allSteps, f_allTicks, (ii_I (wk_nx on f (u, v)).1), (ii_I (wk_nx on f (u, v)).2), f_holds, a_letters, a_values, a_many, a_tool, a_began, a_limit, a_trips, a_force, a_origins, a_here, a_has, a_grouped, a_word, a_from, a_to, a_steps, a_paces, a_dwells, a_ends, a_turn, a_first, a_second, a_centre, a_direction)) : wpY_next post (f_lines, f_fastest, f_gain, f_bend, f_ahead, f_speed, f_seen, f_state, f_line, f_pace, f_left, f_went, f_allSteps, f_allTicks, f_u, f_v, f_holds, a_letters, a_values, a_many, a_tool, a_began, a_limit, a_trips, a_force, a_origins, a_here, a_has, a_grouped, a_word, a_from, a_to, a_steps, a_paces, a_dwells, a_ends, a_turn, a_first, a_second, a_centre, a_direction) p0 (ii_I f) := by
  subst eu ev
  have s1 := wk_sgr v
  have s2 := wk_sgr (-v)
  have s3 := wk_sgr u
  have s4 := wk_sgr (-u)
  unfold wk_nx at h
  unfold wpY_next
  dsimp only
  refine br_c (fun c => ?_) (fun c => ?_)
  · rw [ho.mp c] at h
    unfold wY_next_17
    refine ys_sg (x := -v) (ii_neg v) (by unfold ii_R; omega) (br_t c ?_)
    unfold wY_next_38
    exact ys_sg (x := u) rfl (by unfold ii_R; omega) ⟨4, ys_61 hu hv s2 s3 hf h⟩
  · have : on = false := by
      cases on
      · rfl
      · exact absurd (ho.mpr rfl) c
    rw [this] at h
    unfold wY_next_17
    refine ys_sg (x := v) rfl (by unfold ii_R; omega) (br_f c ?_)
    unfold wY_next_38
    exact ys_sg (x := -u) (ii_neg u) (by unfold ii_R; omega) ⟨4, ys_61 hu hv s1 s4 hf h⟩
end
end YNX
