section GOG
theorem go_rm {go : Nat} (h : go < 2 ^ 30) : (1000 : Int32) - (nI go - nI go / 1000 * 1000) = nI (1000 - go % 1000) := by
  rw [show (1000 : Int32) = nI 1000 from rfl, pk_rem (by omega) (by decide) (by decide), pk_sub (by omega)]
theorem go_md {go : Nat} (h : go < 2 ^ 30) : (nI go - nI go / 1000 * 1000 = 0) ↔ go % 1000 = 0 := by
  rw [show (1000 : Int32) = nI 1000 from rfl, pk_rem (by omega) (by decide) (by decide)]
  exact nI_eq (b := 0) (by omega) (by omega)
section
variable {f_lines f_fastest f_gain f_bend f_ahead f_mode f_holds f_pace f_line f_gone f_dwellLeft f_stepsInAll f_ticksInAll f_speed f_present f_laid : Int32} {a_wordCounts a_letters a_values a_limits a_switches a_tool a_inForce a_origins a_given a_rows a_probe a_motions a_thirds a_centres a_steps a_paces a_dwells a_marks a_nexts a_joints : Nat → Int32} {y_speed y_seen y_line y_left y_went y_u y_v : Int32} {a_began y_force y_origins y_here y_has y_grouped y_word y_from y_to y_steps y_paces y_dwells y_ends y_turn y_first y_second y_centre y_direction : Nat → Int32}
theorem go_ {s0 : Nat → Int32} {N : Nat} (K : rn_K a_letters a_values a_wordCounts a_limits s0 f_fastest f_bend N) (hX : xr_ a_letters a_values a_wordCounts a_limits s0 f_fastest f_bend N f_laid a_rows a_motions a_thirds a_centres a_steps a_paces a_dwells a_marks a_nexts a_joints)
    (hY : yr_ a_letters a_values a_wordCounts a_limits s0 f_fastest N y_seen y_from y_to y_steps y_paces y_dwells y_ends y_turn y_first y_second y_centre) :
    ∀ B left n go T sc f0, left ≤ B → left ≤ 2000 → n < N → 0 < px_st a_letters a_values a_wordCounts a_limits s0 n → go < 1000 * px_st a_letters a_values a_wordCounts a_limits s0 n → (∀ a, a < 3 → T a = rs_v a_letters a_values a_wordCounts a_limits s0 n (go / 1000) a) →
      left + go ≤ sp_tot (px_st a_letters a_values a_wordCounts a_limits s0) (rn_x a_letters a_values a_wordCounts a_limits s0 N) f0 n →
      ∃ (md : Int32) (n' go' : Nat) (T' : Nat → Int32) (sc' : Int32), n' < N ∧ 0 < px_st a_letters a_values a_wordCounts a_limits s0 n' ∧ go' ≤ 1000 * px_st a_letters a_values a_wordCounts a_limits s0 n' ∧ (∀ a, a < 3 → T' a = rs_v a_letters a_values a_wordCounts a_limits s0 n' (go' / 1000) a) ∧ (∀ a, ¬ a < 3 → T' a = T a) ∧
        ((md = 4) ∨ (md = 1 ∧ (go' = 1000 * px_st a_letters a_values a_wordCounts a_limits s0 n' → rn_x a_letters a_values a_wordCounts a_limits s0 N n' = none))) ∧
        (∀ (PX : SX → Prop) i fuel, left < fuel → i + left ≤ 2000 → PX (f_lines, f_fastest, f_gain, f_bend, f_ahead, md, (if md = 4 then 0 else f_holds), (if md = 4 then 0 else f_pace), (nI n'), (nI go'), f_dwellLeft, sc', f_ticksInAll, f_speed, f_present, f_laid, a_wordCounts, a_letters, a_values, a_limits, a_switches, T', a_inForce, a_origins, a_given, a_rows, a_probe, a_motions, a_thirds, a_centres, a_steps, a_paces, a_dwells, a_marks, a_nexts, a_joints) →
          wX_goBy_4 PX fuel (nI left) (nI i) f_lines f_fastest f_gain f_bend f_ahead 1 f_holds f_pace (nI n) (nI go) f_dwellLeft sc f_ticksInAll f_speed f_present f_laid a_wordCounts a_letters a_values a_limits a_switches T a_inForce a_origins a_given a_rows a_probe a_motions a_thirds a_centres a_steps a_paces a_dwells a_marks a_nexts a_joints) ∧
        (∀ (PY : SY → Prop) u v dr fuel, left + 1 < fuel →
          (md = 4 ∨ go' < 1000 * px_st a_letters a_values a_wordCounts a_limits s0 n' → ∀ u v, PY (f_lines, f_fastest, f_gain, f_bend, f_ahead, y_speed, y_seen, md, (nI n'), (if md = 4 then 0 else f_pace), y_left, (nI go'), sc', f_ticksInAll, u, v, (if md = 4 then 0 else f_holds), a_letters, a_values, a_wordCounts, T', a_began, a_limits, a_switches, y_force, y_origins, y_here, y_has, y_grouped, y_word, y_from, y_to, y_steps, y_paces, y_dwells, y_ends, y_turn, y_first, y_second, y_centre, dr)) →
          (md = 1 → go' = 1000 * px_st a_letters a_values a_wordCounts a_limits s0 n' → ∀ u v (Q : SY → Prop), (∀ w, PY w → Q w) → wpY_begin Q (f_lines, f_fastest, f_gain, f_bend, f_ahead, y_speed, y_seen, 1, (nI n'), 0, y_left, (nI go'), sc', f_ticksInAll, u, v, f_holds, a_letters, a_values, a_wordCounts, T', a_began, a_limits, a_switches, y_force, y_origins, y_here, y_has, y_grouped, y_word, y_from, y_to, y_steps, y_paces, y_dwells, y_ends, y_turn, y_first, y_second, y_centre, dr) (nI n') 1) →
          wY_run_88 PY fuel (nI left) f_lines f_fastest f_gain f_bend f_ahead y_speed y_seen 1 (nI n) f_pace y_left (nI go) sc f_ticksInAll u v f_holds a_letters a_values a_wordCounts T a_began a_limits a_switches y_force y_origins y_here y_has y_grouped y_word y_from y_to y_steps y_paces y_dwells y_ends y_turn y_first y_second y_centre dr) := by
  have N30 : N ≤ 30 := K.2.2.2.2.1
  intro B
  induction B with
  | zero =>
    intro left n go T sc f0 hB hL hn hs hgo hT htot
    obtain rfl : left = 0 := by omega
    refine ⟨1, n, go, T, sc, hn, hs, by omega, hT, fun _ _ => rfl, Or.inr ⟨rfl, fun z => by omega⟩, fun PX i fuel hf hi h => ?_, fun PY u v dr fuel hf h1 h2 => ?_⟩
    · obtain ⟨e, rfl⟩ : ∃ e, fuel = e + 1 := ⟨fuel - 1, by omega⟩
      exact br_c (fun _ => h) (fun _ => br_t (by decide) h)
    · obtain ⟨e, rfl⟩ : ∃ e, fuel = e + 1 := ⟨fuel - 1, by omega⟩
      exact br_t (by decide) (h1 (Or.inr hgo) u v)
  | succ B ih =>
    intro left n go T sc f0 hB hL hn hs hgo hT htot
    have sn := rk_s K hn
    by_cases l0 : left = 0
    · exact ih left n go T sc f0 (by omega) hL hn hs hgo hT htot
    have go30 : go < 2 ^ 30 := by omega
    by_cases rm : 1000 - go % 1000 ≤ left
    · -- a step is done
      have hk : go / 1000 + 1 ≤ px_st a_letters a_values a_wordCounts a_limits s0 n := by omega
      have eg : go + (1000 - go % 1000) = 1000 * (go / 1000 + 1) := by omega
      -- X and Y up to the step
      have xs : ∀ (PX : SX → Prop) i fuel, i + left ≤ 2000 → wpX_takeStep (fun u => match u with | (f_lines, f_fastest, f_gain, f_bend, f_ahead, f_mode, f_holds, f_pace, f_line, f_gone, f_dwellLeft, f_stepsInAll, f_ticksInAll, f_speed, f_present, f_laid, a_wordCounts, a_letters, a_values, a_limits, a_switches, a_tool, a_inForce, a_origins, a_given, a_rows, a_probe, a_motions, a_thirds, a_centres, a_steps, a_paces, a_dwells, a_marks, a_nexts, a_joints) => ∀ x3, x3 = nI i + 1 → wX_goBy_4 PX fuel (nI (left - (1000 - go % 1000))) x3 f_lines f_fastest f_gain f_bend f_ahead f_mode f_holds f_pace f_line f_gone f_dwellLeft f_stepsInAll f_ticksInAll f_speed f_present f_laid a_wordCounts a_letters a_values a_limits a_switches a_tool a_inForce a_origins a_given a_rows a_probe a_motions a_thirds a_centres a_steps a_paces a_dwells a_marks a_nexts a_joints) (f_lines, f_fastest, f_gain, f_bend, f_ahead, 1, f_holds, f_pace, (nI n), (nI (1000 * (go / 1000 + 1))), f_dwellLeft, sc, f_ticksInAll, f_speed, f_present, f_laid, a_wordCounts, a_letters, a_values, a_limits, a_switches, T, a_inForce, a_origins, a_given, a_rows, a_probe, a_motions, a_thirds, a_centres, a_steps, a_paces, a_dwells, a_marks, a_nexts, a_joints) →
          wX_goBy_4 PX (fuel + 1) (nI left) (nI i) f_lines f_fastest f_gain f_bend f_ahead 1 f_holds f_pace (nI n) (nI go) f_dwellLeft sc f_ticksInAll f_speed f_present f_laid a_wordCounts a_letters a_values a_limits a_switches T a_inForce a_origins a_given a_rows a_probe a_motions a_thirds a_centres a_steps a_paces a_dwells a_marks a_nexts a_joints := by
        intro PX i fuel hi h
        refine br_f (nI_ge (b := 2000) (by omega) (by omega)) (br_f (nI_nle (by omega) (by omega)) (br_t rfl ⟨by decide, nm_r (go_rm go30) (br_t (nI_le rm (by omega)) ?_)⟩))
        unfold wX_goBy_49
        rw [nI_add, eg, pk_sub rm]
        exact nm_e (nm_e (br_t rfl h))
      have ys : ∀ (PY : SY → Prop) u v dr fuel, wpY_arrive (fun w => match w with | (f_lines, f_fastest, f_gain, f_bend, f_ahead, f_speed, f_seen, f_state, f_line, f_pace, f_left, f_went, f_allSteps, f_allTicks, f_u, f_v, f_holds, a_letters, a_values, a_many, a_tool, a_began, a_limit, a_trips, a_force, a_origins, a_here, a_has, a_grouped, a_word, a_from, a_to, a_steps, a_paces, a_dwells, a_ends, a_turn, a_first, a_second, a_centre, a_direction) => wY_run_88 PY fuel (nI (left - (1000 - go % 1000))) f_lines f_fastest f_gain f_bend f_ahead f_speed f_seen f_state f_line f_pace f_left f_went f_allSteps f_allTicks f_u f_v f_holds a_letters a_values a_many a_tool a_began a_limit a_trips a_force a_origins a_here a_has a_grouped a_word a_from a_to a_steps a_paces a_dwells a_ends a_turn a_first a_second a_centre a_direction) (f_lines, f_fastest, f_gain, f_bend, f_ahead, y_speed, y_seen, 1, (nI n), f_pace, y_left, (nI (1000 * (go / 1000 + 1))), sc, f_ticksInAll, u, v, f_holds, a_letters, a_values, a_wordCounts, T, a_began, a_limits, a_switches, y_force, y_origins, y_here, y_has, y_grouped, y_word, y_from, y_to, y_steps, y_paces, y_dwells, y_ends, y_turn, y_first, y_second, y_centre, dr) →
          wY_run_88 PY (fuel + 1) (nI left) f_lines f_fastest f_gain f_bend f_ahead y_speed y_seen 1 (nI n) f_pace y_left (nI go) sc f_ticksInAll u v f_holds a_letters a_values a_wordCounts T a_began a_limits a_switches y_force y_origins y_here y_has y_grouped y_word y_from y_to y_steps y_paces y_dwells y_ends y_turn y_first y_second y_centre dr := by
        intro PY u v dr fuel h
        refine br_f (nI_nle (by omega) (by omega)) (br_t rfl ⟨by decide, nm_r (go_rm go30) (br_t (nI_le rm (by omega)) ?_)⟩)
        unfold wY_run_120
        rw [nI_add, eg, pk_sub rm]
        refine nm_e (nm_e ⟨by decide, br_t ?_ h⟩)
        rw [go_md (by omega)]
        omega
      have hT' : ∀ a, a < 3 → tl_ (rs_v a_letters a_values a_wordCounts a_limits s0 n (go / 1000 + 1)) T a = rs_v a_letters a_values a_wordCounts a_limits s0 n (go / 1000 + 1) a := fun a ha => tl_v ha
      have hTh : ∀ a, ¬ a < 3 → tl_ (rs_v a_letters a_values a_wordCounts a_limits s0 n (go / 1000 + 1)) T a = T a := fun a ha => if_neg ha
      generalize eT : tl_ (rs_v a_letters a_values a_wordCounts a_limits s0 n (go / 1000 + 1)) T = T' at hT' hTh
      cases tr : (tp_ T' T a_switches 0 || tp_ T' T a_switches 1 || tp_ T' T a_switches 2)
      · by_cases ke : go / 1000 + 1 = px_st a_letters a_values a_wordCounts a_limits s0 n
        · cases ex : rn_x a_letters a_values a_wordCounts a_limits s0 N n with
          | none =>
            -- an end without joint: nothing is left
            have le0 : left - (1000 - go % 1000) = 0 := by
              have : sp_tot (px_st a_letters a_values a_wordCounts a_limits s0) (rn_x a_letters a_values a_wordCounts a_limits s0 N) f0 n = 1000 * px_st a_letters a_values a_wordCounts a_limits s0 n := by
                cases f0 with
                | zero => rfl
                | succ f0 => simp only [sp_tot, ex]; omega
              omega
            refine ⟨1, n, 1000 * (go / 1000 + 1), T', sc + 1, hn, hs, by omega, fun a ha => ?_, hTh, Or.inr ⟨rfl, fun _ => ex⟩, fun PX i fuel hf hi h => ?_, fun PY u v dr fuel hf h1 h2 => ?_⟩
            · rw [Nat.mul_div_cancel_left _ (by decide)]; exact hT' a ha
            · obtain ⟨e, rfl⟩ : ∃ e, fuel = e + 1 + 1 := ⟨fuel - 2, by omega⟩
              refine xs PX i (e + 1) hi (xt_ts K hX hn hs hk hT T' eT.symm (fun z => ?_) (fun _ _ m z => ?_) (fun _ _ => ?_))
              · rw [tr] at z; exact absurd z (by decide)
              · rw [ex] at z; exact absurd z (by simp)
              · rw [le0]
                exact nm_e (br_c (fun _ => h) (fun _ => br_t (by decide) h))
            · obtain ⟨e, rfl⟩ : ∃ e, fuel = e + 1 + 1 := ⟨fuel - 2, by omega⟩
              refine ys PY u v dr (e + 1) (ya_ar K hY hn hs hk hT T' eT.symm (fun z => ?_) (fun _ z => absurd ke z) (fun _ _ m z => ?_) (fun _ _ _ u v => ?_))
              · rw [tr] at z; exact absurd z (by decide)
              · rw [ex] at z; exact absurd z (by simp)
              · rw [le0]
                refine h2 rfl (by omega) u v _ (fun w hw => ?_)
                obtain ⟨f_lines, f_fastest, f_gain, f_bend, f_ahead, f_speed, f_seen, f_state, f_line, f_pace, f_left, f_went, f_allSteps, f_allTicks, f_u, f_v, f_holds, a_letters, a_values, a_many, a_tool, a_began, a_limit, a_trips, a_force, a_origins, a_here, a_has, a_grouped, a_word, a_from, a_to, a_steps, a_paces, a_dwells, a_ends, a_turn, a_first, a_second, a_centre, a_direction⟩ := w
                exact br_t (by decide) hw
          | some m =>
            obtain ⟨m1, m2, m3⟩ := rk_x n m ex
            have ht2 : ∃ f1, left - (1000 - go % 1000) + 0 ≤ sp_tot (px_st a_letters a_values a_wordCounts a_limits s0) (rn_x a_letters a_values a_wordCounts a_limits s0 N) f1 m := by
              cases f0 with
              | zero =>
                have e0 : sp_tot (px_st a_letters a_values a_wordCounts a_limits s0) (rn_x a_letters a_values a_wordCounts a_limits s0 N) 0 n = 1000 * px_st a_letters a_values a_wordCounts a_limits s0 n := rfl
                exact ⟨0, by omega⟩
              | succ f0 =>
                simp only [sp_tot, ex] at htot
                exact ⟨f0, by omega⟩
            obtain ⟨f1, hf1⟩ := ht2
            obtain ⟨md, n', go', T2, sc', A1, A2, A3, A4, A4h, A5, AX, AY⟩ := ih (left - (1000 - go % 1000)) m 0 T' (sc + 1) f1 (by omega) (by omega) m2 m3 (by omega) (fun a ha => by
              rw [hT' a ha, ke]
              show ii_I _ = ii_I _
              rw [rs_N K hn hs ha, Nat.zero_div, rs_0 m3]
              have z : ∀ j, n + 1 ≤ j → j ≤ m → px_he a_letters a_values a_wordCounts s0 j a = px_he a_letters a_values a_wordCounts s0 (n + 1) a := by
                intro j
                induction j with
                | zero => intro a1 _; omega
                | succ j ihj =>
                  intro b1 b2
                  by_cases ej : j = n
                  · subst ej; rfl
                  · rw [rs_s0 K (n := j) (by omega) (nj_mid _ _ _ ex j (by omega) (by omega)) ha]
                    exact ihj (by omega) (by omega)
              rw [z m (by omega) (Nat.le_refl _)]) hf1
            refine ⟨md, n', go', T2, sc', A1, A2, A3, A4, fun a ha => (A4h a ha).trans (hTh a ha), A5, fun PX i fuel hf hi h => ?_, fun PY u v dr fuel hf h1 h2 => ?_⟩
            · obtain ⟨e, rfl⟩ : ∃ e, fuel = e + 1 := ⟨fuel - 1, by omega⟩
              refine xs PX i e hi (xt_ts K hX hn hs hk hT T' eT.symm (fun z => ?_) (fun _ _ m' z => ?_) (fun _ z => ?_))
              · rw [tr] at z; exact absurd z (by decide)
              · obtain rfl : m = m' := Option.some.inj (ex.symm.trans z)
                exact nm_r (nI_1 i) (AX PX (i + 1) e (by omega) (by omega) h)
              · have := z ke; rw [ex] at this; exact absurd this (by simp)
            · obtain ⟨e, rfl⟩ : ∃ e, fuel = e + 1 := ⟨fuel - 1, by omega⟩
              refine ys PY u v dr e (ya_ar K hY hn hs hk hT T' eT.symm (fun z => ?_) (fun _ z => absurd ke z) (fun _ _ m' z u v => ?_) (fun _ _ z => ?_))
              · rw [tr] at z; exact absurd z (by decide)
              · obtain rfl : m = m' := Option.some.inj (ex.symm.trans z)
                exact AY PY u v dr e (by omega) h1 h2
              · rw [ex] at z; exact absurd z (by simp)
        · -- within the block
          obtain ⟨md, n', go', T2, sc', A1, A2, A3, A4, A4h, A5, AX, AY⟩ := ih (left - (1000 - go % 1000)) n (1000 * (go / 1000 + 1)) T' (sc + 1) f0 (by omega) (by omega) hn hs (by omega) (fun a ha => by
            rw [Nat.mul_div_cancel_left _ (by decide)]; exact hT' a ha) (by omega)
          refine ⟨md, n', go', T2, sc', A1, A2, A3, A4, fun a ha => (A4h a ha).trans (hTh a ha), A5, fun PX i fuel hf hi h => ?_, fun PY u v dr fuel hf h1 h2 => ?_⟩
          · obtain ⟨e, rfl⟩ : ∃ e, fuel = e + 1 := ⟨fuel - 1, by omega⟩
            refine xs PX i e hi (xt_ts K hX hn hs hk hT T' eT.symm (fun z => ?_) (fun _ z => absurd z ke) (fun _ _ => ?_))
            · rw [tr] at z; exact absurd z (by decide)
            · exact nm_r (nI_1 i) (AX PX (i + 1) e (by omega) (by omega) h)
          · obtain ⟨e, rfl⟩ : ∃ e, fuel = e + 1 := ⟨fuel - 1, by omega⟩
            refine ys PY u v dr e (ya_ar K hY hn hs hk hT T' eT.symm (fun z => ?_) (fun _ _ u v => ?_) (fun _ z => absurd z ke) (fun _ z => absurd z ke))
            · rw [tr] at z; exact absurd z (by decide)
            · exact AY PY u v dr e (by omega) h1 h2
      · -- tripped
        refine ⟨4, n, 1000 * (go / 1000 + 1), T', sc + 1, hn, hs, by omega, fun a ha => ?_, hTh, Or.inl rfl, fun PX i fuel hf hi h => ?_, fun PY u v dr fuel hf h1 h2 => ?_⟩
        · rw [Nat.mul_div_cancel_left _ (by decide)]; exact hT' a ha
        · obtain ⟨e, rfl⟩ : ∃ e, fuel = e + 1 + 1 := ⟨fuel - 2, by omega⟩
          rw [if_pos rfl, if_pos rfl] at h
          refine xs PX i (e + 1) hi (xt_ts K hX hn hs hk hT T' eT.symm (fun z => ?_) (fun z => ?_) (fun z => ?_))
          · exact nm_e (br_c (fun _ => h) (fun _ => br_c (fun _ => h) (fun _ => br_f (by decide) h)))
          · rw [tr] at z; exact absurd z (by decide)
          · rw [tr] at z; exact absurd z (by decide)
        · obtain ⟨e, rfl⟩ : ∃ e, fuel = e + 1 + 1 := ⟨fuel - 2, by omega⟩
          rw [if_pos rfl, if_pos rfl] at h1
          refine ys PY u v dr (e + 1) (ya_ar K hY hn hs hk hT T' eT.symm (fun z u v => ?_) (fun z => ?_) (fun z => ?_) (fun z => ?_))
          · exact br_c (fun _ => h1 (Or.inl rfl) u v) (fun _ => br_f (by decide) (h1 (Or.inl rfl) u v))
          · rw [tr] at z; exact absurd z (by decide)
          · rw [tr] at z; exact absurd z (by decide)
          · rw [tr] at z; exact absurd z (by decide)
    · -- no step: the way within one
      refine ⟨1, n, go + left, T, sc, hn, hs, by omega, fun a ha => ?_, fun _ _ => rfl, Or.inr ⟨rfl, fun z => by omega⟩, fun PX i fuel hf hi h => ?_, fun PY u v dr fuel hf h1 h2 => ?_⟩
      · rw [show (go + left) / 1000 = go / 1000 by omega]; exact hT a ha
      · obtain ⟨e, rfl⟩ : ∃ e, fuel = e + 1 + 1 := ⟨fuel - 2, by omega⟩
        refine br_f (nI_ge (b := 2000) (by omega) (by omega)) (br_f (nI_nle (by omega) (by omega)) (br_t rfl ⟨by decide, nm_r (go_rm go30) (br_f (nI_ge (by omega) (by omega)) ?_)⟩))
        unfold wX_goBy_49
        rw [nI_add, pk_sub (Nat.le_refl left), Nat.sub_self]
        refine nm_e (nm_e (br_f (fun z => ?_) (nm_e (br_c (fun _ => h) (fun _ => br_t (by decide) h)))))
        have := (nI_eq (by omega) (by omega)).mp z
        omega
      · obtain ⟨e, rfl⟩ : ∃ e, fuel = e + 1 + 1 := ⟨fuel - 2, by omega⟩
        refine br_f (nI_nle (by omega) (by omega)) (br_t rfl ⟨by decide, nm_r (go_rm go30) (br_f (nI_ge (by omega) (by omega)) ?_)⟩)
        unfold wY_run_120
        rw [nI_add, pk_sub (Nat.le_refl left), Nat.sub_self]
        refine nm_e (nm_e ⟨by decide, br_f (fun z => ?_) (br_t (by decide) (h1 (Or.inr (by omega)) u v))⟩)
        rw [go_md (by omega)] at z
        omega
end
end GOG
