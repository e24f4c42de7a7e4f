section XPC
def xr_ (L V M lim s0 : Nat → Int32) (fs bend : Int32) (N : Nat) (la : Int32) (ro mo th ce st pc dw mk nx jo : Nat → Int32) : Prop :=
  la = nI N ∧ xz_L L V M lim fs s0 N ro mo th ce st pc dw mk ∧
  (∀ n, n < N → nx n = (if px_st L V M lim s0 n = 0 then -1 else nj_I (rn_x L V M lim s0 N n)) ∧ jo n = (if px_st L V M lim s0 n = 0 then 0 else nI (rn_j L V M lim s0 fs bend N n)))
theorem nj_Im (m : Nat) (h : m < 2 ^ 31) : ¬ nj_I (some m) = -1 := by
  intro z
  have z' : nI m = -1 := z
  have := nI_pos (n := m) h
  rw [z'] at this
  exact this (by decide)
section
variable {f_lines f_fastest f_gain f_bend f_ahead f_mode f_holds f_pace f_line f_gone f_dwellLeft f_stepsInAll f_ticksInAll f_speed f_present f_laid : Int32} {a_wordCounts a_letters a_values a_limits a_switches a_tool a_inForce a_origins a_given a_rows a_probe a_motions a_thirds a_centres a_steps a_paces a_dwells a_marks a_nexts a_joints : Nat → Int32}
theorem xf_jp {post : Int32 → Prop} {s0 : Nat → Int32} {N n m : Nat} (K : rn_K a_letters a_values a_wordCounts a_limits s0 f_fastest f_bend N) (hX : xz_L a_letters a_values a_wordCounts a_limits f_fastest s0 N a_rows a_motions a_thirds a_centres a_steps a_paces a_dwells a_marks)
    (hn : n < N) (hm : m < N) (sn : 0 < px_st a_letters a_values a_wordCounts a_limits s0 n) (sm : 0 < px_st a_letters a_values a_wordCounts a_limits s0 m)
    (h : post (rn_P a_letters a_values a_wordCounts s0 f_fastest f_bend n m)) : wpX_jointPace post (f_lines, f_fastest, f_gain, f_bend, f_ahead, f_mode, f_holds, f_pace, f_line, f_gone, f_dwellLeft, f_stepsInAll, f_ticksInAll, f_speed, f_present, f_laid, a_wordCounts, a_letters, a_values, a_limits, a_switches, a_tool, a_inForce, a_origins, a_given, a_rows, a_probe, a_motions, a_thirds, a_centres, a_steps, a_paces, a_dwells, a_marks, a_nexts, a_joints) (nI n) (nI m) := by
  have N30 : N ≤ 30 := K.2.2.2.2.1
  have di : ∀ k, k < N → 0 < px_st a_letters a_values a_wordCounts a_limits s0 k → ∀ (e : Bool) row, (row = if e = true then k + 1 else k) → ∀ a, a < 3 → ∀ post : Int32 → Prop, post (ii_I (rn_D a_letters a_values a_wordCounts s0 k e a)) → wpX_direction post (f_lines, f_fastest, f_gain, f_bend, f_ahead, f_mode, f_holds, f_pace, f_line, f_gone, f_dwellLeft, f_stepsInAll, f_ticksInAll, f_speed, f_present, f_laid, a_wordCounts, a_letters, a_values, a_limits, a_switches, a_tool, a_inForce, a_origins, a_given, a_rows, a_probe, a_motions, a_thirds, a_centres, a_steps, a_paces, a_dwells, a_marks, a_nexts, a_joints) (nI k) (nI row) (nI a) := by
    intro k hk sk e row hrow a ha post hp
    have hF := fc_F a_letters a_values a_wordCounts s0 k
    obtain ⟨_, hth, efa, efb⟩ := fv_ft hF
    obtain ⟨y1, y2, y3, y4, y5, y6, y7⟩ := hX.2 k hk
    refine xj_di (tu := px_tu a_letters a_values a_wordCounts s0 k) (he := px_he a_letters a_values a_wordCounts s0 k) (to := px_he a_letters a_values a_wordCounts s0 (k + 1)) (c := px_c a_letters a_values a_wordCounts s0 k) (d := px_d a_letters a_values a_wordCounts s0 k) (by omega) hrow hth ha y2 ?_ (hX.1 k (by omega)) (hX.1 (k + 1) (by omega)) y7 ?_
    · rw [y1]; exact rn_mo (rk_w K hk) sk
    · rw [efa, efb]; exact hp
  obtain ⟨_, _, _, z4, _⟩ := hX.2 n hn
  obtain ⟨_, _, _, w4, _⟩ := hX.2 m hm
  refine xj_11 (by omega) (by omega) (rk_D K hn true) (rk_D K hm false) (di n hn sn true (n + 1) rfl) (di m hm sm false m rfl) ?_
  rw [z4, w4]; exact h
theorem xf_fj {post : SX → Prop} {s0 : Nat → Int32} {N : Nat} (eN : f_laid = nI N) (K : rn_K a_letters a_values a_wordCounts a_limits s0 f_fastest f_bend N) (hX : xz_L a_letters a_values a_wordCounts a_limits f_fastest s0 N a_rows a_motions a_thirds a_centres a_steps a_paces a_dwells a_marks)
    (h : ∀ NX JO, xr_ a_letters a_values a_wordCounts a_limits s0 f_fastest f_bend N f_laid a_rows a_motions a_thirds a_centres a_steps a_paces a_dwells a_marks NX JO → post (f_lines, f_fastest, f_gain, f_bend, f_ahead, f_mode, f_holds, f_pace, f_line, f_gone, f_dwellLeft, f_stepsInAll, f_ticksInAll, f_speed, f_present, f_laid, a_wordCounts, a_letters, a_values, a_limits, a_switches, a_tool, a_inForce, a_origins, a_given, a_rows, a_probe, a_motions, a_thirds, a_centres, a_steps, a_paces, a_dwells, a_marks, NX, JO)) :
    wpX_findJoints post (f_lines, f_fastest, f_gain, f_bend, f_ahead, f_mode, f_holds, f_pace, f_line, f_gone, f_dwellLeft, f_stepsInAll, f_ticksInAll, f_speed, f_present, f_laid, a_wordCounts, a_letters, a_values, a_limits, a_switches, a_tool, a_inForce, a_origins, a_given, a_rows, a_probe, a_motions, a_thirds, a_centres, a_steps, a_paces, a_dwells, a_marks, a_nexts, a_joints) := by
  have N30 : N ≤ 30 := K.2.2.2.2.1
  have lp : ∀ d n NX JO, n + d = N → (∀ k, k < n → NX k = (if px_st a_letters a_values a_wordCounts a_limits s0 k = 0 then -1 else nj_I (rn_x a_letters a_values a_wordCounts a_limits s0 N k)) ∧ JO k = (if px_st a_letters a_values a_wordCounts a_limits s0 k = 0 then 0 else nI (rn_j a_letters a_values a_wordCounts a_limits s0 f_fastest f_bend N k))) →
      wX_findJoints_2 post f_lines f_fastest f_gain f_bend f_ahead f_mode f_holds f_pace f_line f_gone f_dwellLeft f_stepsInAll f_ticksInAll f_speed f_present f_laid (d + 1) (nI n) a_wordCounts a_letters a_values a_limits a_switches a_tool a_inForce a_origins a_given a_rows a_probe a_motions a_thirds a_centres a_steps a_paces a_dwells a_marks NX JO := by
    intro d
    induction d with
    | zero =>
      intro n NX JO hn hJ
      obtain rfl : n = N := by omega
      exact br_t (by rw [eN]; exact nI_le (Nat.le_refl _) (by omega)) (h NX JO ⟨eN, hX, hJ⟩)
    | succ d ih =>
      intro n NX JO hn hJ
      have hnN : n < N := by omega
      have i30 : vp_in (nI n) 30 := vp_in_nI (by omega) (by omega)
      have nxt : ∀ x y, x = (if px_st a_letters a_values a_wordCounts a_limits s0 n = 0 then -1 else nj_I (rn_x a_letters a_values a_wordCounts a_limits s0 N n)) → y = (if px_st a_letters a_values a_wordCounts a_limits s0 n = 0 then 0 else nI (rn_j a_letters a_values a_wordCounts a_limits s0 f_fastest f_bend N n)) →
          wX_findJoints_2 post f_lines f_fastest f_gain f_bend f_ahead f_mode f_holds f_pace f_line f_gone f_dwellLeft f_stepsInAll f_ticksInAll f_speed f_present f_laid (d + 1) (nI (n + 1)) a_wordCounts a_letters a_values a_limits a_switches a_tool a_inForce a_origins a_given a_rows a_probe a_motions a_thirds a_centres a_steps a_paces a_dwells a_marks (upd NX n x) (upd JO n y) := by
        intro x y ex ey
        refine ih (n + 1) _ _ (by omega) (fun k hk => ?_)
        by_cases e : k = n
        · subst e; rw [pk_us, pk_us]; exact ⟨ex, ey⟩
        · rw [pk_un e, pk_un e]; exact hJ k (by omega)
      refine br_f (by rw [eN]; exact nI_ge hnN (by omega)) ?_
      refine xj_jt (s := px_st a_letters a_values a_wordCounts a_limits s0) (d := rn_d a_letters a_values a_wordCounts s0) (e := px_en a_letters a_values a_wordCounts) N30 eN (fun m hm => ⟨(hX.2 m hm).2.2.1, by have := rk_s K hm; omega⟩) (fun m hm => ?_) (fun m hm => ?_) (rk_e K) (rk_dx K) hnN ?_
      · rw [(hX.2 m hm).2.2.2.2.1]; exact decide_eq_true_iff
      · rw [(hX.2 m hm).2.2.2.2.2.1]; exact (px_mark K.1.1 (ci_why (rk_w K hm)).1).2
      · have ex : nj_o N (px_st a_letters a_values a_wordCounts a_limits s0) (rn_d a_letters a_values a_wordCounts s0) (px_en a_letters a_values a_wordCounts) 30 n = rn_x a_letters a_values a_wordCounts a_limits s0 N n := rfl
        rw [nI_clamp (show n < 2 ^ 31 by omega), ex]
        refine ⟨i30, nm_e ?_⟩
        by_cases s : px_st a_letters a_values a_wordCounts a_limits s0 n = 0
        · rw [if_pos s]
          exact br_t rfl ⟨i30, nm_e (nm_r (nI_1 n) (nxt _ _ (by rw [if_pos s]) (by rw [if_pos s])))⟩
        · rw [if_neg s]
          cases e : rn_x a_letters a_values a_wordCounts a_limits s0 N n with
          | none =>
            refine br_t rfl ⟨i30, nm_e (nm_r (nI_1 n) (nxt _ _ (by rw [if_neg s, e]) ?_))⟩
            rw [if_neg s]
            unfold rn_j
            rw [e]; rfl
          | some m =>
            obtain ⟨m1, m2, m3⟩ := rk_x n m e
            refine br_f (nj_Im m (by omega)) ?_
            refine xf_jp (m := m) K hX hnN m2 (by omega) m3 ?_
            refine ⟨i30, nm_e (nm_r (nI_1 n) (nxt _ _ (by rw [if_neg s, e]) ?_))⟩
            rw [if_neg s]
            exact (rk_j K hnN).2 m e
  exact ⟨N + 1, lp N 0 _ _ (by omega) (fun k hk => absurd hk (by omega))⟩
theorem xp_sl {post : Int32 → Prop} {g u far w : Nat} (eg : f_gain = nI g) (hg : 0 < g ∧ g ≤ 200) (hu : u ≤ 2200) (hf : far < 2 ^ 30) (hw : w ≤ 2000)
    (h : post (nI (sp_gr (sp_fit g far w) u))) : wpX_slowedFor post (f_lines, f_fastest, f_gain, f_bend, f_ahead, f_mode, f_holds, f_pace, f_line, f_gone, f_dwellLeft, f_stepsInAll, f_ticksInAll, f_speed, f_present, f_laid, a_wordCounts, a_letters, a_values, a_limits, a_switches, a_tool, a_inForce, a_origins, a_given, a_rows, a_probe, a_motions, a_thirds, a_centres, a_steps, a_paces, a_dwells, a_marks, a_nexts, a_joints) (nI u) (nI far) (nI w) := by
  subst eg
  have lp : ∀ x, x ≤ u → (x = u ∨ w ≤ x) → sp_gr (sp_fit g far w) u = sp_gr (sp_fit g far w) x → wX_slowedFor_3 post (nI u) (nI far) (nI w) f_lines f_fastest (nI g) f_bend f_ahead f_mode f_holds f_pace f_line f_gone f_dwellLeft f_stepsInAll f_ticksInAll f_speed f_present f_laid a_wordCounts a_letters a_values a_limits a_switches a_tool a_inForce a_origins a_given a_rows a_probe a_motions a_thirds a_centres a_steps a_paces a_dwells a_marks a_nexts a_joints (x + 1) (nI x) := by
    intro x
    induction x with
    | zero =>
      intro _ hx e
      rw [e] at h
      refine br_t (nI_le (Nat.zero_le _) (by omega)) (br_c (fun c => ?_) (fun c => ?_))
      · rw [nI_leI (by omega) (by omega)] at c
        obtain rfl : w = 0 := by omega
        exact h
      · rw [nI_leI (by omega) (by omega)] at c
        obtain rfl : u = 0 := by omega
        exact h
    | succ x ih =>
      intro hxu hx e
      by_cases c : x + 1 ≤ w
      · have f1 : sp_gr (sp_fit g far w) (x + 1) = x + 1 := sp_grs (decide_eq_true (Or.inl c))
        rw [e, f1] at h
        refine br_t (nI_le c (by omega)) (br_c (fun d => ?_) (fun d => ?_))
        · rw [nI_leI (by omega) (by omega)] at d
          obtain rfl : w = x + 1 := by omega
          exact h
        · rw [nI_leI (by omega) (by omega)] at d
          obtain rfl : u = x + 1 := by omega
          exact h
      · refine br_f (nI_ge (by omega) (by omega)) ?_
        have hwx : w < x + 1 := by omega
        obtain ⟨b1, b2, b3, b4⟩ := sp_bnd (g := g) (w := w) (x := x + 1) (by omega) hg.2 hg.1
        have sb := sp_sub (g := g) hwx
        refine ⟨nI_ne0 hg.1 (by omega), nm_r (e' := nI (sp_i g w (x + 1))) ?_ ⟨by decide, nm_r (e' := nI (sp_i g w (x + 1) * (x + 1) - g * (sp_i g w (x + 1) * (sp_i g w (x + 1) + 1) / 2))) ?_ ?_⟩⟩
        · rw [pk_sub (a := x + 1) (b := w) (by omega), show (1 : Int32) = nI 1 from rfl, pk_sub (a := x + 1 - w) (b := 1) (by omega), pk_div (a := x + 1 - w - 1) (d := g) (by omega) hg.1 (by omega)]; rfl
        · rw [nI_1, pk_mul, pk_mul, show (2 : Int32) = nI 2 from rfl, pk_div (by omega) (by decide) (by decide), pk_mul, pk_sub sb]
        · rw [nI_add]
          have be : x + 1 + (sp_i g w (x + 1) * (x + 1) - g * (sp_i g w (x + 1) * (sp_i g w (x + 1) + 1) / 2)) = sp_br g w (x + 1) := rfl
          rw [be]
          have bb : sp_br g w (x + 1) ≤ 5000000 := by unfold sp_br; omega
          refine br_c (fun d => nm_r (pk_m1 x) ?_) (fun d => ?_)
          · rw [nI_ltI (by omega) (by omega)] at d
            have ff : sp_fit g far w (x + 1) = false := decide_eq_false (by omega)
            exact ih (by omega) (by omega) (e.trans (sp_grf ff))
          · rw [nI_ltI (by omega) (by omega)] at d
            have ff : sp_fit g far w (x + 1) = true := decide_eq_true (Or.inr (by omega))
            rw [e, sp_grs ff] at h
            exact h
  exact ⟨u + 1, lp u (Nat.le_refl _) (Or.inl rfl) rfl⟩
theorem xp_71 {post : Int32 → Prop} {s0 : Nat → Int32} {N g ah : Nat} (K : rn_K a_letters a_values a_wordCounts a_limits s0 f_fastest f_bend N) (hX : xr_ a_letters a_values a_wordCounts a_limits s0 f_fastest f_bend N f_laid a_rows a_motions a_thirds a_centres a_steps a_paces a_dwells a_marks a_nexts a_joints)
    (eg : f_gain = nI g) (hg : 0 < g ∧ g ≤ 200) (ea : f_ahead = nI ah) (ha : ah ≤ 6) :
    ∀ a i n r u, i + a = ah + 1 → n < N → 0 < px_st a_letters a_values a_wordCounts a_limits s0 n → u ≤ 2200 → r ≤ 3000000 * (i + 1) →
      post (nI (sp_np g (px_st a_letters a_values a_wordCounts a_limits s0) (rn_j a_letters a_values a_wordCounts a_limits s0 f_fastest f_bend N) (rn_x a_letters a_values a_wordCounts a_limits s0 N) a n r u)) →
      wX_nextPace_71 post f_lines f_fastest f_gain f_bend f_ahead f_mode f_holds f_pace f_line f_gone f_dwellLeft f_stepsInAll f_ticksInAll f_speed f_present f_laid a_wordCounts a_letters a_values a_limits a_switches a_tool a_inForce a_origins a_given a_rows a_probe a_motions a_thirds a_centres a_steps a_paces a_dwells a_marks a_nexts a_joints (a + 1) (nI u) (nI n) (nI r) (nI i) := by
  subst eg ea
  have N30 : N ≤ 30 := K.2.2.2.2.1
  intro a
  induction a with
  | zero =>
    intro i n r u hi hn hs hu hr h
    exact br_t (by exact nI_lt (by omega) (by omega)) h
  | succ a ih =>
    intro i n r u hi hn hs hu hr h
    have j2 := (rk_j K hn).1
    obtain ⟨ex, ej⟩ := hX.2.2 n hn
    rw [if_neg (by omega)] at ex ej
    have r30 : r < 2 ^ 30 := by
      have : r ≤ 3000000 * 8 := Nat.le_trans hr (Nat.mul_le_mul_left _ (by omega))
      omega
    have g99 : ∀ w, w = (if a = 0 then 0 else rn_j a_letters a_values a_wordCounts a_limits s0 f_fastest f_bend N n) → wX_nextPace_99 post (wX_nextPace_71 post f_lines f_fastest (nI g) f_bend (nI ah) f_mode f_holds f_pace f_line f_gone f_dwellLeft f_stepsInAll f_ticksInAll f_speed f_present f_laid a_wordCounts a_letters a_values a_limits a_switches a_tool a_inForce a_origins a_given a_rows a_probe a_motions a_thirds a_centres a_steps a_paces a_dwells a_marks a_nexts a_joints (a + 1)) (nI u) (nI n) (nI r) (nI i) (nI w) f_lines f_fastest (nI g) f_bend (nI ah) f_mode f_holds f_pace f_line f_gone f_dwellLeft f_stepsInAll f_ticksInAll f_speed f_present f_laid a_wordCounts a_letters a_values a_limits a_switches a_tool a_inForce a_origins a_given a_rows a_probe a_motions a_thirds a_centres a_steps a_paces a_dwells a_marks a_nexts a_joints := by
      intro w ew
      have w2 : w ≤ 2000 := by rw [ew]; split <;> omega
      unfold wX_nextPace_99
      refine xp_sl rfl hg hu r30 w2 ?_
      rw [nI_clamp (show n < 2 ^ 31 by omega), ex, ew]
      rw [sp_np] at h
      have ul := sp_grle (sp_fit g r (if a = 0 then 0 else rn_j a_letters a_values a_wordCounts a_limits s0 f_fastest f_bend N n)) u
      refine ⟨vp_in_nI (by omega) (by omega), nm_e ?_⟩
      cases e : rn_x a_letters a_values a_wordCounts a_limits s0 N n with
      | none => rw [e] at h; exact br_t rfl h
      | some m =>
        rw [e] at h
        obtain ⟨m1, m2, m3⟩ := rk_x n m e
        have sm := rk_s K m2
        refine br_f (nj_Im m (by omega)) ?_
        show vp_in (nI m) 30 ∧ _
        rw [show nj_I (some m) = nI m from rfl, nI_clamp (show m < 2 ^ 31 by omega), (hX.2.1.2 m m2).2.2.1]
        refine ⟨vp_in_nI (by omega) (by omega), nm_r (e' := nI (r + 1000 * px_st a_letters a_values a_wordCounts a_limits s0 m)) ?_ (nm_r (nI_1 i) ?_)⟩
        · rw [show (1000 : Int32) = nI 1000 from rfl, pk_mul, nI_add, Nat.mul_comm]
        · refine ih (i + 1) m _ _ (by omega) m2 m3 (by omega) ?_ h
          have : 1000 * px_st a_letters a_values a_wordCounts a_limits s0 m ≤ 3000000 := by omega
          have e3 : 3000000 * (i + 1 + 1) = 3000000 * (i + 1) + 3000000 := by omega
          omega
    refine br_f (nI_nlt (by omega) (by omega)) (br_c (fun c => ?_) (fun c => ⟨vp_in_nI (by omega) (by omega), ?_⟩))
    · rw [nI_eq (by omega) (by omega)] at c
      exact g99 0 (by rw [if_pos (by omega)])
    · rw [nI_eq (by omega) (by omega)] at c
      rw [nI_clamp (show n < 2 ^ 31 by omega), ej]
      exact g99 _ (by rw [if_neg (by omega)])
/-- the pace before the ends ahead are asked -/
def xp_u (ho : Int32) (p g pc : Nat) : Nat := min (if ho = 0 then p + g else p - g) pc
theorem xp_np {post : Int32 → Prop} {s0 : Nat → Int32} {N g ah n p go pc : Nat} (K : rn_K a_letters a_values a_wordCounts a_limits s0 f_fastest f_bend N) (hX : xr_ a_letters a_values a_wordCounts a_limits s0 f_fastest f_bend N f_laid a_rows a_motions a_thirds a_centres a_steps a_paces a_dwells a_marks a_nexts a_joints)
    (eg : f_gain = nI g) (hg : 0 < g ∧ g ≤ 200) (ea : f_ahead = nI ah) (ha : ah ≤ 6) (en : f_line = nI n) (hn : n < N) (hs : 0 < px_st a_letters a_values a_wordCounts a_limits s0 n) (ep : f_pace = nI p) (hp : p ≤ 2000) (eo : f_gone = nI go) (ho : go ≤ 1000 * px_st a_letters a_values a_wordCounts a_limits s0 n)
    (epc : px_pc a_letters a_values a_wordCounts f_fastest s0 n = nI pc) (hpc : pc ≤ 2000)
    (h : post (nI (sp_np g (px_st a_letters a_values a_wordCounts a_limits s0) (rn_j a_letters a_values a_wordCounts a_limits s0 f_fastest f_bend N) (rn_x a_letters a_values a_wordCounts a_limits s0 N) ah n (1000 * px_st a_letters a_values a_wordCounts a_limits s0 n - go) (xp_u f_holds p g pc)))) :
    wpX_nextPace post (f_lines, f_fastest, f_gain, f_bend, f_ahead, f_mode, f_holds, f_pace, f_line, f_gone, f_dwellLeft, f_stepsInAll, f_ticksInAll, f_speed, f_present, f_laid, a_wordCounts, a_letters, a_values, a_limits, a_switches, a_tool, a_inForce, a_origins, a_given, a_rows, a_probe, a_motions, a_thirds, a_centres, a_steps, a_paces, a_dwells, a_marks, a_nexts, a_joints) := by
  subst eg ea en ep eo
  have N30 : N ≤ 30 := K.2.2.2.2.1
  have i30 : vp_in (nI n) 30 := vp_in_nI (by omega) (by omega)
  have cl : (nI n).toNatClampNeg = n := nI_clamp (by omega)
  have sn := rk_s K hn
  have g58 : ∀ u, u = xp_u f_holds p g pc → wX_nextPace_58 post (nI u) f_lines f_fastest (nI g) f_bend (nI ah) f_mode f_holds (nI p) (nI n) (nI go) f_dwellLeft f_stepsInAll f_ticksInAll f_speed f_present f_laid a_wordCounts a_letters a_values a_limits a_switches a_tool a_inForce a_origins a_given a_rows a_probe a_motions a_thirds a_centres a_steps a_paces a_dwells a_marks a_nexts a_joints := by
    intro u eu
    have u2 : u ≤ 2000 := by rw [eu]; unfold xp_u; omega
    unfold wX_nextPace_58 wpX_lengthLeft
    dsimp only
    rw [cl, (hX.2.1.2 n hn).2.2.1, show (1000 : Int32) = nI 1000 from rfl, pk_mul, pk_sub (by omega)]
    refine ⟨i30, ah + 1, ?_⟩
    refine xp_71 K hX rfl hg rfl ha ah 1 n _ u (by omega) hn hs (by omega) (by omega) ?_
    rw [Nat.mul_comm (px_st a_letters a_values a_wordCounts a_limits s0 n) 1000, eu]
    exact h
  have g35 : ∀ v, min v pc = xp_u f_holds p g pc → v < 2 ^ 31 → wX_nextPace_35 post (nI v) f_lines f_fastest (nI g) f_bend (nI ah) f_mode f_holds (nI p) (nI n) (nI go) f_dwellLeft f_stepsInAll f_ticksInAll f_speed f_present f_laid a_wordCounts a_letters a_values a_limits a_switches a_tool a_inForce a_origins a_given a_rows a_probe a_motions a_thirds a_centres a_steps a_paces a_dwells a_marks a_nexts a_joints := by
    intro v ev vb
    unfold wX_nextPace_35
    rw [cl, (hX.2.1.2 n hn).2.2.2.1, epc]
    refine ⟨i30, br_c (fun c => g58 v ?_) (fun c => ⟨i30, nm_e (g58 pc ?_)⟩)⟩
    · rw [nI_leI vb (by omega)] at c
      rw [← ev]; omega
    · rw [nI_leI vb (by omega)] at c
      rw [← ev]; omega
  unfold wpX_nextPace wX_nextPace_28
  dsimp only
  refine br_c (fun c => ?_) (fun c => ?_)
  · rw [nI_add]
    refine br_t (nI_pos' (by omega)) (g35 (p + g) ?_ (by omega))
    unfold xp_u
    rw [if_pos c]
  · by_cases k : g ≤ p
    · rw [pk_sub k]
      refine br_t (nI_pos' (by omega)) (g35 (p - g) ?_ (by omega))
      unfold xp_u
      rw [if_neg c]
    · refine br_f (fun z => ?_) (g35 0 ?_ (by omega))
      · exact Int32.not_lt.mpr z (pk_sneg (by omega) (by omega))
      · unfold xp_u
        rw [if_neg c]
        omega
end
end XPC
