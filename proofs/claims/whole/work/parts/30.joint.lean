section JNT
/-! the block that a joint ties to a block's end: pure -/
def nj_o (N : Nat) (s : Nat → Nat) (d : Nat → Bool) (e : Nat → Int32) : Nat → Nat → Option Nat
  | 0, _ => none
  | f + 1, k => if e k = 0 ∧ k + 1 < N then (if d (k + 1) = true then none else if 0 < s (k + 1) then some (k + 1) else nj_o N s d e f (k + 1)) else none
def nj_I (o : Option Nat) : Int32 := match o with | none => -1 | some m => nI m
theorem nj_lt {N : Nat} {s : Nat → Nat} {d : Nat → Bool} {e : Nat → Int32} : ∀ f k m, nj_o N s d e f k = some m → k < m ∧ m < N ∧ 0 < s m := by
  intro f
  induction f with
  | zero => intro k m h; exact absurd h (by simp [nj_o])
  | succ f ih =>
    intro k m h
    rw [nj_o] at h
    split at h
    · rename_i c
      split at h
      · exact absurd h (by simp)
      · split at h
        · rename_i c2
          have : k + 1 = m := Option.some.inj h
          subst this
          exact ⟨by omega, c.2, c2⟩
        · have := ih _ _ h
          exact ⟨by omega, this.2⟩
    · exact absurd h (by simp)
theorem nj_mid {N : Nat} {s : Nat → Nat} {d : Nat → Bool} {e : Nat → Int32} : ∀ f k m, nj_o N s d e f k = some m → ∀ j, k < j → j < m → s j = 0 := by
  intro f
  induction f with
  | zero => intro k m h; exact absurd h (by simp [nj_o])
  | succ f ih =>
    intro k m h j h1 h2
    rw [nj_o] at h
    split at h
    · split at h
      · exact absurd h (by simp)
      · split at h
        · have : k + 1 = m := Option.some.inj h
          omega
        · rename_i c2
          by_cases ej : j = k + 1
          · subst ej; omega
          · exact ih _ _ h j (by omega) h2
    · exact absurd h (by simp)
section
variable {f_lines f_fastest f_gain f_bend f_ahead f_speed f_seen f_state f_line f_pace f_left f_went f_allSteps f_allTicks f_u f_v f_holds : Int32} {a_letters a_values a_many a_tool a_began a_limit a_trips a_force a_origins a_here a_has a_grouped a_word a_from a_to a_steps a_paces a_dwells a_ends a_turn a_first a_second a_centre a_direction : Nat → Int32}
theorem yj_ov {post : Int32 → Prop} {N : Nat} {s : Nat → Nat} {d : Nat → Bool} {e : Nat → Int32} (hN : N ≤ 30) (eN : f_seen = nI N) (hs : ∀ m, m < N → a_steps m = nI (s m) ∧ s m < 2 ^ 31) (hd : ∀ m, m < N → (d m = true ↔ ¬ a_dwells m ≤ 0)) (he : ∀ m, m < N → a_ends m = e m) :
    ∀ f k, k < N → N ≤ k + f → post (nj_I (nj_o N s d e f k)) → wY_over_2 post f_lines f_fastest f_gain f_bend f_ahead f_speed f_seen f_state f_line f_pace f_left f_went f_allSteps f_allTicks f_u f_v f_holds a_letters a_values a_many a_tool a_began a_limit a_trips a_force a_origins a_here a_has a_grouped a_word a_from a_to a_steps a_paces a_dwells a_ends a_turn a_first a_second a_centre a_direction (f + 1) (nI k) := by
  intro f
  induction f with
  | zero => intro k hk hf; omega
  | succ f ih =>
    intro k hk hf h
    rw [nj_o] at h
    refine br_f (by rw [eN]; exact nI_ge hk (by omega)) ⟨vp_in_nI (by omega) (by omega), ?_⟩
    rw [nI_clamp (show k < 2 ^ 31 by omega), he k hk, nI_1, nI_clamp (show k + 1 < 2 ^ 31 by omega)]
    refine br_c (fun c => br_c (fun c2 => ?_) (fun c2 => br_c (fun c3 => ?_) (fun c3 => ?_))) (fun c => ?_)
    · have : 29 ≤ k := by
        have := (nI_leI (a := 29) (b := k) (by omega) (by omega)).mp c2
        exact this
      rw [if_neg (by omega)] at h; exact h
    · rw [eN, nI_leI (by omega) (by omega)] at c3
      rw [if_neg (by omega)] at h; exact h
    · rw [eN, nI_leI (by omega) (by omega)] at c3
      have hk1 : k + 1 < N := by omega
      rw [if_pos ⟨c, hk1⟩] at h
      refine ⟨vp_in_nI (by omega) (by omega), br_c (fun c4 => ⟨vp_in_nI (by omega) (by omega), ?_⟩) (fun c4 => ?_)⟩
      · rw [if_neg (fun z => (hd _ hk1).mp z c4)] at h
        obtain ⟨es, bs⟩ := hs _ hk1
        rw [es]
        have z0 : nI (s (k + 1)) ≤ 0 ↔ s (k + 1) ≤ 0 := nI_leI (b := 0) bs (by omega)
        refine br_c (fun c5 => nm_e ?_) (fun c5 => ?_)
        · rw [if_neg (by rw [z0] at c5; omega)] at h
          exact ih (k + 1) hk1 (by omega) h
        · rw [if_pos (by rw [z0] at c5; omega)] at h
          exact h
      · rw [if_pos ((hd _ hk1).mpr c4)] at h; exact h
    · rw [if_neg (fun z => c z.1)] at h; exact h
end
section
variable {f_lines f_fastest f_gain f_bend f_ahead f_mode f_holds f_pace f_line f_gone f_dwellLeft f_stepsInAll f_ticksInAll f_speed f_present f_laid : Int32} {a_wordCounts a_letters a_values a_limits a_switches a_tool a_inForce a_origins a_given a_rows a_probe a_motions a_thirds a_centres a_steps a_paces a_dwells a_marks a_nexts a_joints : Nat → Int32}
theorem xj_24 {post : Int32 → Prop} {N : Nat} {s : Nat → Nat} {d : Nat → Bool} {e : Nat → Int32} (hN : N ≤ 30) (eN : f_laid = nI N) (hs : ∀ m, m < N → a_steps m = nI (s m) ∧ s m < 2 ^ 31) (hd : ∀ m, m < N → (d m = true ↔ 0 < a_dwells m))
    (he : ∀ m, m < N → (a_marks m = 0 ↔ e m = 1)) (h2 : ∀ m, m < N → e m = 0 ∨ e m = 1 ∨ (e m = 2 ∧ m + 1 = N)) (hx : ∀ m, m < N → d m = true → s m = 0) :
    ∀ f k, k < N → N ≤ k + f → ¬ e k = 1 → post (nj_I (nj_o N s d e f k)) → wX_joinedTo_24 post f_lines f_fastest f_gain f_bend f_ahead f_mode f_holds f_pace f_line f_gone f_dwellLeft f_stepsInAll f_ticksInAll f_speed f_present f_laid a_wordCounts a_letters a_values a_limits a_switches a_tool a_inForce a_origins a_given a_rows a_probe a_motions a_thirds a_centres a_steps a_paces a_dwells a_marks a_nexts a_joints (f + 1) (nI (k + 1)) := by
  intro f
  induction f with
  | zero => intro k hk hf; omega
  | succ f ih =>
    intro k hk hf ne h
    rw [nj_o] at h
    by_cases hk1 : k + 1 < N
    · have e0 : e k = 0 := by
        rcases h2 k hk with z | z | z
        · exact z
        · exact absurd z ne
        · omega
      rw [if_pos ⟨e0, hk1⟩] at h
      refine br_f (by rw [eN]; exact nI_ge hk1 (by omega)) ⟨vp_in_nI (by omega) (by omega), ?_⟩
      rw [nI_clamp (show k + 1 < 2 ^ 31 by omega)]
      obtain ⟨es, bs⟩ := hs _ hk1
      rw [es]
      have z0 : nI (s (k + 1)) ≤ 0 ↔ s (k + 1) ≤ 0 := nI_leI (b := 0) bs (by omega)
      refine br_c (fun c => ⟨vp_in_nI (by omega) (by omega), br_c (fun c2 => ?_) (fun c2 => ⟨vp_in_nI (by omega) (by omega), br_c (fun c3 => ?_) (fun c3 => nm_r (nI_1 (k + 1)) ?_)⟩)⟩) (fun c => ?_)
      · rw [if_pos ((hd _ hk1).mpr c2)] at h; exact h
      · rw [if_neg (fun z => c2 ((hd _ hk1).mp z)), if_neg (by rw [z0] at c; omega)] at h
        have e1 := (he _ hk1).mp c3
        cases f with
        | zero => omega
        | succ f =>
          rw [nj_o, if_neg (by rw [e1]; intro z; exact absurd z.1 (by decide))] at h
          exact h
      · rw [if_neg (fun z => c2 ((hd _ hk1).mp z)), if_neg (by rw [z0] at c; omega)] at h
        exact ih (k + 1) hk1 (by omega) (fun z => c3 ((he _ hk1).mpr z)) h
      · have sp : 0 < s (k + 1) := by rw [z0] at c; omega
        have nd : ¬ d (k + 1) = true := by
          intro z
          have := hx _ hk1 z
          omega
        rw [if_neg nd, if_pos sp] at h
        exact h
    · rw [if_neg (fun z => hk1 z.2)] at h
      exact br_t (by rw [eN]; exact nI_le (by omega) (by omega)) h
theorem xj_jt {post : Int32 → Prop} {N : Nat} {s : Nat → Nat} {d : Nat → Bool} {e : Nat → Int32} (hN : N ≤ 30) (eN : f_laid = nI N) (hs : ∀ m, m < N → a_steps m = nI (s m) ∧ s m < 2 ^ 31) (hd : ∀ m, m < N → (d m = true ↔ 0 < a_dwells m))
    (he : ∀ m, m < N → (a_marks m = 0 ↔ e m = 1)) (h2 : ∀ m, m < N → e m = 0 ∨ e m = 1 ∨ (e m = 2 ∧ m + 1 = N)) (hx : ∀ m, m < N → d m = true → s m = 0)
    {k : Nat} (hk : k < N) (h : post (if s k = 0 then -1 else nj_I (nj_o N s d e 30 k))) : wpX_joinedTo post (f_lines, f_fastest, f_gain, f_bend, f_ahead, f_mode, f_holds, f_pace, f_line, f_gone, f_dwellLeft, f_stepsInAll, f_ticksInAll, f_speed, f_present, f_laid, a_wordCounts, a_letters, a_values, a_limits, a_switches, a_tool, a_inForce, a_origins, a_given, a_rows, a_probe, a_motions, a_thirds, a_centres, a_steps, a_paces, a_dwells, a_marks, a_nexts, a_joints) (nI k) := by
  unfold wpX_joinedTo
  dsimp only
  rw [nI_clamp (show k < 2 ^ 31 by omega)]
  obtain ⟨es, bs⟩ := hs _ hk
  rw [es]
  have z0 : nI (s k) = 0 ↔ s k = 0 := nI_eq (b := 0) bs (by omega)
  refine ⟨vp_in_nI (by omega) (by omega), br_c (fun c => ?_) (fun c => ⟨vp_in_nI (by omega) (by omega), br_c (fun c2 => ?_) (fun c2 => nm_r (nI_1 k) ⟨31, ?_⟩)⟩)⟩
  · rw [if_pos (z0.mp c)] at h; exact h
  · rw [if_neg (fun z => c (z0.mpr z)), nj_o, if_neg (by rw [(he k hk).mp c2]; intro z; exact absurd z.1 (by decide))] at h
    exact h
  · rw [if_neg (fun z => c (z0.mpr z))] at h
    exact xj_24 hN eN hs hd he h2 hx 30 k hk (by omega) (fun z => c2 ((he k hk).mpr z)) h
end
end JNT
