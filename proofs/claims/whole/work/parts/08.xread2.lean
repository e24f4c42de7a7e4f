section XR2
theorem rd_noj {L V : Nat → Int32} {b c : Nat} (h : rd_no L V b c = false) : ∀ j, j < c → pl_bad (L (b + j)) (V (b + j)) = false := by
  induction c with
  | zero => intro j hj; omega
  | succ c ih =>
    intro j hj
    rw [rd_no, Bool.or_eq_false_iff] at h
    by_cases e : j = c
    · subst e; exact h.2
    · exact ih h.1 j (by omega)
theorem rd_twm {L V : Nat → Int32} {b j : Nat} (h : rd_tw L V b j = true) : ∀ c, j ≤ c → rd_tw L V b c = true := by
  intro c hc
  obtain ⟨m, rfl⟩ := Nat.le.dest hc
  clear hc
  induction m with
  | zero => exact h
  | succ m ih => rw [← Nat.add_assoc, rd_tw, ih]; rfl
theorem rd_let {l : Int32} (h : 0 ≤ l.toInt ∧ l.toInt ≤ 9) : ∃ k, k < 10 ∧ l = nI k ∧ l.toNatClampNeg = k := by
  obtain ⟨k, h1, h2⟩ := nI_of (x := l) (by rw [fc_lt, fc_0]; omega)
  have : k < 10 := by
    have e := h.2
    rw [h2, nI_toInt h1] at e
    omega
  exact ⟨k, this, h2, by rw [h2, nI_clamp h1]⟩
theorem rd_fohi (L V f0 : Nat → Int32) (b : Nat) : ∀ j g, 6 ≤ g → rd_fo L V f0 b j g = f0 g := by
  intro j
  induction j with
  | zero => intro g hg; exact pk_un (by omega)
  | succ j ih =>
    intro g hg
    rw [rd_fo]
    by_cases c : L (b + j) = 0 ∧ 0 ≤ pl_gr (V (b + j))
    · rw [if_pos c]
      obtain ⟨k, k1, k2, k3, k4⟩ := fc_grI _ c.2
      rw [k3, pk_un (by omega)]
      exact ih g hg
    · rw [if_neg c]; exact ih g hg
theorem rd_foe {L V f f' : Nat → Int32} {b : Nat} (h : ∀ g, g ≠ 5 → f g = f' g) : ∀ j, rd_fo L V f b j = rd_fo L V f' b j := by
  intro j
  induction j with
  | zero =>
    funext g
    show upd f 5 (-1) g = upd f' 5 (-1) g
    by_cases e : g = 5
    · subst e; rw [pk_us, pk_us]
    · rw [pk_un e, pk_un e, h g e]
  | succ j ih => rw [rd_fo, rd_fo, ih]
theorem rd_wde {L V w w' : Nat → Int32} {b : Nat} : ∀ j i, rd_hs L b j i = true → rd_wd L V w b j i = rd_wd L V w' b j i := by
  intro j
  induction j with
  | zero => intro i h; exact absurd (show false = true from h) (by decide)
  | succ j ih =>
    intro i h
    rw [rd_hs] at h
    rw [rd_wd, rd_wd]
    by_cases c : L (b + j) = 0
    · rw [if_pos c] at h ⊢; rw [if_pos c]; exact ih i h
    · rw [if_neg c] at h ⊢
      rw [if_neg c]
      by_cases e : i = (L (b + j)).toNatClampNeg
      · subst e; rw [pk_us, pk_us]
      · rw [pk_un e, pk_un e]
        rw [if_neg e] at h
        exact ih i h
theorem rd_M {L V w : Nat → Int32} {b : Nat} (hL : ∀ k, 0 ≤ (L k).toInt ∧ (L k).toInt ≤ 9) : ∀ j, rd_no L V b j = false → rd_hs L b j 1 = true → rd_wd L V w b j 1 = 0 ∨ rd_wd L V w b j 1 = 2 := by
  intro j
  induction j with
  | zero => intro _ h; exact absurd (show false = true from h) (by decide)
  | succ j ih =>
    intro hn h
    rw [rd_no, Bool.or_eq_false_iff] at hn
    rw [rd_hs] at h
    rw [rd_wd]
    by_cases c : L (b + j) = 0
    · rw [if_pos c] at h ⊢; exact ih hn.1 h
    · rw [if_neg c] at h ⊢
      obtain ⟨k, k1, k2, k3⟩ := rd_let (hL (b + j))
      rw [k3] at h ⊢
      by_cases e : 1 = k
      · subst e
        rw [pk_us]
        have hb := hn.2
        unfold pl_bad at hb
        rw [decide_eq_false_iff_not] at hb
        by_cases z : V (b + j) = 0
        · exact Or.inl z
        · by_cases z2 : V (b + j) = 2
          · exact Or.inr z2
          · exact absurd (Or.inr (Or.inl ⟨k2, z, z2⟩)) hb
      · rw [pk_un e]
        rw [if_neg e] at h
        exact ih hn.1 h
theorem rd_8 {L V : Nat → Int32} {w0 : Nat → Int32} {s0 : Int32} {b : Nat} (hL : ∀ k, 0 ≤ (L k).toInt ∧ (L k).toInt ≤ 9) :
    ∀ j, (if rd_hs L b j 8 = true then rd_wd L V w0 b j 8 else s0) = rd_sp L V s0 b j := by
  intro j
  induction j with
  | zero => rfl
  | succ j ih =>
    rw [rd_hs, rd_wd, rd_sp]
    obtain ⟨k, k1, k2, k3⟩ := rd_let (hL (b + j))
    by_cases c : L (b + j) = 0
    · have n8 : ¬ L (b + j) = 8 := by rw [c]; decide
      rw [if_pos c, if_pos c, if_neg n8]
      exact ih
    · rw [if_neg c, if_neg c, k3]
      by_cases e : k = 8
      · subst e
        rw [if_pos (show L (b + j) = 8 from k2), pk_us]
        simp
      · have e' : ¬ (8 : Nat) = k := fun z => e z.symm
        rw [pk_un e']
        have e2 : ¬ L (b + j) = 8 := by
          intro z
          rw [z] at k3
          exact e (k3.symm.trans (by decide))
        rw [if_neg e2]
        simp only [if_neg e']
        exact ih
section
variable {f_lines f_fastest f_gain f_bend f_ahead f_mode f_holds f_pace f_line f_gone f_dwellLeft f_stepsInAll f_ticksInAll f_speed f_present f_laid : Int32} {a_wordCounts a_letters a_values a_limits a_switches a_tool a_inForce a_origins a_given a_rows a_probe a_motions a_thirds a_centres a_steps a_paces a_dwells a_marks a_nexts a_joints : Nat → Int32}
theorem xl_r70 {post : Int32 → SX → Prop} {b c : Nat} (hc : b + c ≤ 240) (hL : ∀ k, 0 ≤ (a_letters k).toInt ∧ (a_letters k).toInt ≤ 9)
    (hn : rd_no a_letters a_values b c = false) (f0 w0 : Nat → Int32)
    (h2 : rd_tw a_letters a_values b c = true → ∀ p F W, (∀ g, 6 ≤ g → F g = f0 g) → post 2 (f_lines, f_fastest, f_gain, f_bend, f_ahead, f_mode, f_holds, f_pace, f_line, f_gone, f_dwellLeft, f_stepsInAll, f_ticksInAll, f_speed, p, f_laid, a_wordCounts, a_letters, a_values, a_limits, a_switches, a_tool, F, a_origins, W, a_rows, a_probe, a_motions, a_thirds, a_centres, a_steps, a_paces, a_dwells, a_marks, a_nexts, a_joints))
    (h0 : rd_tw a_letters a_values b c = false → ∀ p, (∀ i, i < 10 → bt p i = rd_hs a_letters b c i) →
      post 0 (f_lines, f_fastest, f_gain, f_bend, f_ahead, f_mode, f_holds, f_pace, f_line, f_gone, f_dwellLeft, f_stepsInAll, f_ticksInAll, (rd_sp a_letters a_values f_speed b c), p, f_laid, a_wordCounts, a_letters, a_values, a_limits, a_switches, a_tool, (rd_fo a_letters a_values f0 b c), a_origins, (rd_wd a_letters a_values w0 b c), a_rows, a_probe, a_motions, a_thirds, a_centres, a_steps, a_paces, a_dwells, a_marks, a_nexts, a_joints)) :
    ∀ d j gm pm, j + d = c → rd_tw a_letters a_values b j = false → (∀ g, g < 6 → bt gm g = rd_gs a_letters a_values b j g) → (∀ i, i < 10 → bt pm i = rd_hs a_letters b j i) →
      wX_readWords_70 post (nI (b + c)) f_lines f_fastest f_gain f_bend f_ahead f_mode f_holds f_pace f_line f_gone f_dwellLeft f_stepsInAll f_ticksInAll f_speed f_laid (d + 1) gm (nI (b + j)) pm a_wordCounts a_letters a_values a_limits a_switches a_tool (rd_fo a_letters a_values f0 b j) a_origins (rd_wd a_letters a_values w0 b j) a_rows a_probe a_motions a_thirds a_centres a_steps a_paces a_dwells a_marks a_nexts a_joints := by
  intro d
  induction d with
  | zero =>
    intro j gm pm hj ht hg hp
    obtain rfl : j = c := by omega
    refine br_t (nI_le (Nat.le_refl _) (by omega)) (xl_has 8 (by decide) (by decide) ?_)
    have h := h0 ht pm hp
    rw [← rd_8 (w0 := w0) hL, ← hp 8 (by decide)] at h
    cases e : bt pm 8
    · rw [e] at h
      exact br_t rfl h
    · rw [e] at h
      exact br_f bo_ne (nm_e h)
  | succ d ih =>
    intro j gm pm hj ht hg hp
    have hin : vp_in (nI (b + j)) 240 := vp_in_nI (by omega) (by omega)
    have hb := rd_noj hn j (by omega)
    refine br_f (nI_ge (by omega) (by omega)) ⟨hin, ?_⟩
    rw [nI_clamp (by omega)]
    obtain ⟨k, k1, k2, k3⟩ := rd_let (hL (b + j))
    by_cases c0 : a_letters (b + j) = 0
    · refine nm_e (br_t c0 ⟨hin, xl_gr ?_⟩)
      have h0g : 0 ≤ pl_gr (a_values (b + j)) := by
        have : ¬ pl_gr (a_values (b + j)) < 0 := by
          intro z
          unfold pl_bad at hb
          rw [decide_eq_false_iff_not] at hb
          exact hb (Or.inl ⟨c0, z⟩)
        exact Int32.not_lt.mp this
      have hcg : a_letters (b + j) = 0 ∧ 0 ≤ pl_gr (a_values (b + j)) := ⟨c0, h0g⟩
      obtain ⟨g, g6, eg, ec, _⟩ := fc_grI _ h0g
      have et : rd_tw a_letters a_values b (j + 1) = rd_gs a_letters a_values b j g := by
        rw [rd_tw, ht, if_pos c0, ec, decide_eq_true h0g]; rfl
      rw [eg]
      cases eb : rd_gs a_letters a_values b j g
      · refine br_t ((bi_t gm (by omega)).mpr ((hg g g6).trans eb)) (nm_e ⟨hin, vp_in_nI g6 (by omega), nm_e (nm_r (nI_1 (b + j)) ?_)⟩)
        have e1 : rd_fo a_letters a_values f0 b (j + 1) = upd (rd_fo a_letters a_values f0 b j) g (a_values (b + j)) := by
          rw [rd_fo, if_pos hcg, ec]
        have e2 : rd_wd a_letters a_values w0 b (j + 1) = rd_wd a_letters a_values w0 b j := by rw [rd_wd, if_pos c0]
        have e3 : rd_hs a_letters b (j + 1) = rd_hs a_letters b j := by rw [rd_hs, if_pos c0]
        have r := ih (j + 1) (gm ||| ((1 : Int32) <<< (nI g &&& 31))) pm (by omega) (et.trans eb) (by
          intro i hi
          rw [bi_s gm (by omega) i (by omega), rd_gs, if_pos hcg, ec, hg i hi]) (by rw [e3]; exact hp)
        rw [e1, e2] at r
        rw [nI_clamp (by omega)]
        exact r
      · refine br_f (fun z => ?_) (h2 (rd_twm (et.trans eb) c (by omega)) _ _ _ (rd_fohi _ _ _ _ _))
        have := ((bi_t gm (by omega)).mp z).symm.trans ((hg g g6).trans eb)
        exact absurd this (by decide)
    · refine nm_r k2 (br_f (by rw [← k2]; exact c0) (xl_has k (by omega) rfl ?_))
      have et : rd_tw a_letters a_values b (j + 1) = rd_hs a_letters b j k := by
        rw [rd_tw, ht, if_neg c0, k3]; rfl
      rw [hp k k1]
      cases eb : rd_hs a_letters b j k
      · refine br_t rfl (nm_e ⟨hin, vp_in_nI k1 (by omega), nm_e (nm_r (nI_1 (b + j)) ?_)⟩)
        have e1 : rd_fo a_letters a_values f0 b (j + 1) = rd_fo a_letters a_values f0 b j := by
          rw [rd_fo, if_neg (fun z => c0 z.1)]
        have e2 : rd_wd a_letters a_values w0 b (j + 1) = upd (rd_wd a_letters a_values w0 b j) k (a_values (b + j)) := by rw [rd_wd, if_neg c0, k3]
        have r := ih (j + 1) gm (pm ||| ((1 : Int32) <<< (nI k &&& 31))) (by omega) (et.trans eb) (by
          intro i hi
          rw [rd_gs, if_neg (fun z => c0 z.1)]
          exact hg i hi) (by
          intro i hi
          rw [bi_s pm (by omega) i (by omega), rd_hs, if_neg c0, k3, hp i hi])
        rw [e1, e2] at r
        rw [nI_clamp (by omega)]
        exact r
      · exact br_f bo_ne (h2 (rd_twm (et.trans eb) c (by omega)) _ _ _ (rd_fohi _ _ _ _ _))
/-- the words of line n -/
theorem xl_rw {post : Int32 → SX → Prop} {n c : Nat} (hn : n < 30) (hc : c ≤ 8) (hM : a_wordCounts n = nI c) (hL : ∀ k, 0 ≤ (a_letters k).toInt ∧ (a_letters k).toInt ≤ 9)
    (h1 : rd_no a_letters a_values (8 * n) c = true → post 1 (f_lines, f_fastest, f_gain, f_bend, f_ahead, f_mode, f_holds, f_pace, f_line, f_gone, f_dwellLeft, f_stepsInAll, f_ticksInAll, f_speed, f_present, f_laid, a_wordCounts, a_letters, a_values, a_limits, a_switches, a_tool, a_inForce, a_origins, a_given, a_rows, a_probe, a_motions, a_thirds, a_centres, a_steps, a_paces, a_dwells, a_marks, a_nexts, a_joints))
    (h2 : rd_no a_letters a_values (8 * n) c = false → rd_tw a_letters a_values (8 * n) c = true → ∀ p F W, (∀ g, 6 ≤ g → F g = a_inForce g) → post 2 (f_lines, f_fastest, f_gain, f_bend, f_ahead, f_mode, f_holds, f_pace, f_line, f_gone, f_dwellLeft, f_stepsInAll, f_ticksInAll, f_speed, p, f_laid, a_wordCounts, a_letters, a_values, a_limits, a_switches, a_tool, F, a_origins, W, a_rows, a_probe, a_motions, a_thirds, a_centres, a_steps, a_paces, a_dwells, a_marks, a_nexts, a_joints))
    (h0 : rd_no a_letters a_values (8 * n) c = false → rd_tw a_letters a_values (8 * n) c = false → ∀ p, (∀ i, i < 10 → bt p i = rd_hs a_letters (8 * n) c i) →
      post 0 (f_lines, f_fastest, f_gain, f_bend, f_ahead, f_mode, f_holds, f_pace, f_line, f_gone, f_dwellLeft, f_stepsInAll, f_ticksInAll, (rd_sp a_letters a_values f_speed (8 * n) c), p, f_laid, a_wordCounts, a_letters, a_values, a_limits, a_switches, a_tool, (rd_fo a_letters a_values a_inForce (8 * n) c), a_origins, (rd_wd a_letters a_values a_given (8 * n) c), a_rows, a_probe, a_motions, a_thirds, a_centres, a_steps, a_paces, a_dwells, a_marks, a_nexts, a_joints)) :
    wpX_readWords post (f_lines, f_fastest, f_gain, f_bend, f_ahead, f_mode, f_holds, f_pace, f_line, f_gone, f_dwellLeft, f_stepsInAll, f_ticksInAll, f_speed, f_present, f_laid, a_wordCounts, a_letters, a_values, a_limits, a_switches, a_tool, a_inForce, a_origins, a_given, a_rows, a_probe, a_motions, a_thirds, a_centres, a_steps, a_paces, a_dwells, a_marks, a_nexts, a_joints) (nI n) := by
  unfold wpX_readWords
  refine nm_r (e' := nI (8 * n)) (by rw [show (8 : Int32) = nI 8 from rfl, pk_mul, Nat.mul_comm]) ⟨vp_in_nI hn (by omega), ?_⟩
  rw [nI_clamp (by omega), hM]
  refine nm_r (nI_add (8 * n) c) ⟨c + 1, ?_⟩
  refine xl_r17 (by omega) h1 (fun e => ⟨c + 1, ?_⟩) c 0 (by omega) rfl
  exact xl_r70 (by omega) hL e a_inForce a_given (h2 e) (h0 e) c 0 0 0 (by omega) rfl (fun g _ => b_0 g) (fun i _ => b_0 i)
end
end XR2
