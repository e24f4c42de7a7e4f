section XLO
/-- X's layout of the lines below n, by the picture -/
def xz_L (L V M lim : Nat → Int32) (fs : Int32) (s0 : Nat → Int32) (n : Nat) (ro mo th ce st pc dw mk : Nat → Int32) : Prop :=
  (∀ m, m ≤ n → ∀ a, a < 3 → ro (3 * m + a) = px_he L V M s0 m a) ∧
  (∀ m, m < n → mo m = (if px_F L V M s0 m 5 = 28 then 0 else px_F L V M s0 m 0) ∧ th m = nI (pl_ft (px_F L V M s0 m)) ∧ st m = nI (px_st L V M lim s0 m) ∧ pc m = px_pc L V M fs s0 m ∧ dw m = px_dw L V M s0 m ∧
    mk m = (if px_H L M m 1 = true then px_W L V M m 1 else -1) ∧ (¬ px_tu L V M s0 m = 0 → ce (2 * m) = ii_I (px_c L V M s0 m) ∧ ce (2 * m + 1) = ii_I (px_d L V M s0 m)))
theorem px_Fhi (L V M s0 : Nat → Int32) : ∀ n g, 6 ≤ g → (px_cx L V M s0 n).1 g = 0 := by
  intro n
  induction n with
  | zero =>
    intro g hg
    show px_ff g = 0
    unfold px_ff
    rw [if_neg (by omega), if_neg (by omega), if_neg (by omega), if_neg (by omega), if_neg (by omega)]
  | succ n ih => intro g hg; exact (rd_fohi _ _ _ _ _ g hg).trans (ih g hg)
theorem pl_too2 {F : Nat → Int32} {H : Nat → Bool} {W og og' he : Nat → Int32} {a : Nat} (h : og (pl_oi F a) = og' (pl_oi F a)) : pl_to F H W og he a = pl_to F H W og' he a := by
  unfold pl_to; rw [h]
theorem pl_o1e {F : Nat → Int32} {H : Nat → Bool} {W he og og' : Nat → Int32} {a : Nat} (h : ∀ i, i < 6 → og i = og' i) : ∀ i, i < 6 → pl_o1 F H W he a og i = pl_o1 F H W he a og' i := by
  intro i hi
  unfold pl_o1
  split
  · by_cases e : i = pl_oi F a
    · subst e; rw [pk_us, pk_us]
    · rw [pk_un e, pk_un e, h i hi]
  · exact h i hi
theorem px_mark {L V M : Nat → Int32} (hL : ∀ k, 0 ≤ (L k).toInt ∧ (L k).toInt ≤ 9) {n : Nat} (hn : rd_no L V (8 * n) (px_n M n) = false) :
    ((if px_H L M n 1 = true then px_W L V M n 1 else -1) = (2 : Int32) ↔ px_en L V M n = 2) ∧ ((if px_H L M n 1 = true then px_W L V M n 1 else -1) = (0 : Int32) ↔ px_en L V M n = 1) := by
  unfold px_en pl_en
  cases e : px_H L M n 1
  · rw [if_neg (by decide), if_pos rfl]; decide
  · rw [if_pos rfl, if_neg (by decide)]
    rcases rd_M (w := fun _ => 0) hL (px_n M n) hn e with z | z
    · have z' : px_W L V M n 1 = 0 := z
      rw [z', if_pos rfl]; decide
    · have z' : px_W L V M n 1 = 2 := z
      rw [z', if_neg (by decide)]; decide
section
variable {f_lines f_fastest f_gain f_bend f_ahead f_mode f_holds f_pace f_line f_gone f_dwellLeft f_stepsInAll f_ticksInAll f_speed f_present f_laid : Int32} {a_wordCounts a_letters a_values a_limits a_switches a_tool a_inForce a_origins a_given a_rows a_probe a_motions a_thirds a_centres a_steps a_paces a_dwells a_marks a_nexts a_joints : Nat → Int32}
theorem xz_20 {post : Int32 → SX → Prop} {s0 : Nat → Int32} {l : Nat} (hl : l ≤ 30) (el : f_lines = nI l) (wf : ci_WF a_letters a_values a_wordCounts a_limits)
    (hs : ∀ a, a < 3 → 0 ≤ (s0 a).toInt ∧ (s0 a).toInt ≤ (a_limits a).toInt)
    (h : ∀ N r, ci_R a_letters a_values a_wordCounts a_limits s0 l N r → ∀ sp pr F O G R P MO TH CE ST PC DW MK, (∀ g, 6 ≤ g → F g = 0) →
      xz_L a_letters a_values a_wordCounts a_limits f_fastest s0 N R MO TH CE ST PC DW MK →
      post r (f_lines, f_fastest, f_gain, f_bend, f_ahead, f_mode, f_holds, f_pace, f_line, f_gone, f_dwellLeft, f_stepsInAll, f_ticksInAll, sp, pr, (nI N), a_wordCounts, a_letters, a_values, a_limits, a_switches, a_tool, F, O, G, R, P, MO, TH, CE, ST, PC, DW, MK, a_nexts, a_joints)) :
    ∀ d n sp pr F O G R P MO TH CE ST PC DW MK, n + d = l → (∀ m, m < n → px_why a_letters a_values a_wordCounts a_limits s0 m = 0) → (∀ m, m < n → ¬ px_en a_letters a_values a_wordCounts m = 2) →
      (∀ g, g ≠ 5 → F g = (px_cx a_letters a_values a_wordCounts s0 n).1 g) → sp = (px_cx a_letters a_values a_wordCounts s0 n).2.1 → (∀ i, i < 6 → O i = px_og a_letters a_values a_wordCounts s0 n i) →
      xz_L a_letters a_values a_wordCounts a_limits f_fastest s0 n R MO TH CE ST PC DW MK →
      wX_layOut_20 post (d + 1) (nI n) f_lines f_fastest f_gain f_bend f_ahead f_mode f_holds f_pace f_line f_gone f_dwellLeft f_stepsInAll f_ticksInAll sp pr (nI n) a_wordCounts a_letters a_values a_limits a_switches a_tool F O G R P MO TH CE ST PC DW MK a_nexts a_joints := by
  intro d
  induction d with
  | zero =>
    intro n sp pr F O G R P MO TH CE ST PC DW MK hn hw he hF hsp hO hX
    obtain rfl : n = l := by omega
    refine br_t (by rw [el]; exact nI_le (Nat.le_refl _) (by omega)) (h n 0 ⟨Nat.le_refl _, hw, fun m hm => he m (by omega), Or.inl ⟨rfl, Or.inl rfl⟩⟩ sp pr F O G R P MO TH CE ST PC DW MK ?_ hX)
    intro g hg
    rw [hF g (by omega)]
    exact px_Fhi _ _ _ _ n g hg
  | succ d ih =>
    intro n sp pr F O G R P MO TH CE ST PC DW MK hn hw he hF hsp hO hX
    have hn30 : n < 30 := by omega
    have Fhi : ∀ g, 6 ≤ g → F g = 0 := fun g hg => (hF g (by omega)).trans (px_Fhi _ _ _ _ n g hg)
    obtain ⟨eM, hM8⟩ := wf.2.2.1 n
    have ci := ci_n wf hs n hw
    -- a wrong line ends it
    have bad : ∀ r, r = px_why a_letters a_values a_wordCounts a_limits s0 n → ¬ r = 0 → ∀ sp pr F O G R P MO TH CE ST PC DW MK, (∀ g, 6 ≤ g → F g = 0) →
        xz_L a_letters a_values a_wordCounts a_limits f_fastest s0 n R MO TH CE ST PC DW MK →
        post (10 * nI n + r) (f_lines, f_fastest, f_gain, f_bend, f_ahead, f_mode, f_holds, f_pace, f_line, f_gone, f_dwellLeft, f_stepsInAll, f_ticksInAll, sp, pr, (nI n), a_wordCounts, a_letters, a_values, a_limits, a_switches, a_tool, F, O, G, R, P, MO, TH, CE, ST, PC, DW, MK, a_nexts, a_joints) := by
      intro r er nr sp pr F O G R P MO TH CE ST PC DW MK hF hX
      subst er
      exact h n _ ⟨by omega, hw, fun m hm => he m (by omega), Or.inr ⟨by omega, nr, fun m hm => he m (by omega), rfl⟩⟩ sp pr F O G R P MO TH CE ST PC DW MK hF hX
    have bad53 : ∀ r, r = px_why a_letters a_values a_wordCounts a_limits s0 n → ¬ r = 0 → ∀ J sp pr F O G R P MO TH CE ST PC DW MK, (∀ g, 6 ≤ g → F g = 0) →
        xz_L a_letters a_values a_wordCounts a_limits f_fastest s0 n R MO TH CE ST PC DW MK →
        wX_layOut_53 post J (nI n) r f_lines f_fastest f_gain f_bend f_ahead f_mode f_holds f_pace f_line f_gone f_dwellLeft f_stepsInAll f_ticksInAll sp pr (nI n) a_wordCounts a_letters a_values a_limits a_switches a_tool F O G R P MO TH CE ST PC DW MK a_nexts a_joints := by
      intro r er nr J sp pr F O G R P MO TH CE ST PC DW MK hF hX
      unfold wX_layOut_53
      exact br_f nr (bad r er nr _ _ _ _ _ _ _ _ _ _ _ _ _ _ hF hX)
    refine br_f (by rw [el]; exact nI_ge (by omega) (by omega)) (xl_rw (c := px_n a_wordCounts n) hn30 hM8 eM wf.1 (fun e1 => ?_) (fun e1 e2 p F' W' hhi => ?_) (fun e1 e2 p hp => ?_))
    · refine br_f (by decide) ?_
      unfold wX_layOut_43
      refine br_f (by decide) (bad53 1 ?_ (by decide) _ _ _ _ _ _ _ _ _ _ _ _ _ _ _ Fhi hX)
      unfold px_why
      rw [if_pos e1]
    · refine br_f (by decide) ?_
      unfold wX_layOut_43
      refine br_f (by decide) (bad53 2 ?_ (by decide) _ _ _ _ _ _ _ _ _ _ _ _ _ _ _ (fun g hg => (hhi g hg).trans (Fhi g hg)) hX)
      unfold px_why
      rw [if_neg (by rw [e1]; decide), if_pos e2]
    · have eF : rd_fo a_letters a_values F (8 * n) (px_n a_wordCounts n) = px_F a_letters a_values a_wordCounts s0 n := rd_foe hF _
      have eS : rd_sp a_letters a_values sp (8 * n) (px_n a_wordCounts n) = px_S a_letters a_values a_wordCounts s0 n := by rw [hsp]; rfl
      rw [eF, eS]
      have hFW := fc_F a_letters a_values a_wordCounts s0 n
      have hH : ∀ i, i < 10 → bt p i = px_H a_letters a_wordCounts n i := hp
      have hW : ∀ i, i < 10 → px_H a_letters a_wordCounts n i = true → rd_wd a_letters a_values G (8 * n) (px_n a_wordCounts n) i = px_W a_letters a_values a_wordCounts n i := fun i _ z => rd_wde _ i z
      generalize rd_wd a_letters a_values G (8 * n) (px_n a_wordCounts n) = G' at hW ⊢
      have Fhi' : ∀ g, 6 ≤ g → px_F a_letters a_values a_wordCounts s0 n g = 0 := px_Fhi _ _ _ _ (n + 1)
      refine br_t rfl (xl_mi (H := px_H a_letters a_wordCounts n) hFW hH ?_)
      by_cases em : pl_mi (px_F a_letters a_values a_wordCounts s0 n) (px_H a_letters a_wordCounts n) (px_S a_letters a_values a_wordCounts s0 n) = 0
      · rw [em]
        unfold wX_layOut_43
        refine br_t rfl (xl_l1 (H := px_H a_letters a_wordCounts n) hn30 hFW hH ?_)
        -- pure values of the line
        have why3 : ∀ r, r = (if px_tu a_letters a_values a_wordCounts s0 n = 0 then (if px_out a_letters a_values a_wordCounts a_limits s0 n = true then 6 else 0) else if px_b5 a_letters a_values a_wordCounts s0 n = true then 5 else (px_wr a_letters a_values a_wordCounts a_limits s0 n).1) → r = px_why a_letters a_values a_wordCounts a_limits s0 n := by
          intro r er
          unfold px_why
          rw [if_neg (by rw [e1]; decide), if_neg (by rw [e2]; decide), if_neg (fun z => z em)]
          exact er
        have hhe : ∀ a, a < 3 → R (3 * n + a) = px_he a_letters a_values a_wordCounts s0 n a := hX.1 n (Nat.le_refl _)
        have hto : ∀ a, a < 3 → pl_to (px_F a_letters a_values a_wordCounts s0 n) (px_H a_letters a_wordCounts n) G' O (fun a => R (3 * n + a)) a = px_he a_letters a_values a_wordCounts s0 (n + 1) a := by
          intro a ha
          rw [pl_toW (hW (2 + a) (by omega)), pl_toh (he' := px_he a_letters a_values a_wordCounts s0 n) (hhe a ha), pl_too2 (hO _ (ix_ol _ ha))]
          rfl
        have hog : ∀ i, i < 6 → pl_og (px_F a_letters a_values a_wordCounts s0 n) (px_H a_letters a_wordCounts n) G' O (fun a => R (3 * n + a)) i = px_og a_letters a_values a_wordCounts s0 (n + 1) i := by
          intro i hi
          rw [pl_ogW hW, pl_ogh (he' := px_he a_letters a_values a_wordCounts s0 n) hhe]
          exact pl_o1e (fun i hi => pl_o1e (fun i hi => pl_o1e hO i hi) i hi) i hi
        have h9 : pl_dw (px_F a_letters a_values a_wordCounts s0 n) G' = px_dw a_letters a_values a_wordCounts s0 n := by
          unfold px_dw pl_dw
          by_cases c : px_F a_letters a_values a_wordCounts s0 n 5 = 4
          · rw [if_pos c, if_pos c]
            refine hW 9 (by decide) ?_
            obtain ⟨q1, _⟩ := mi_3 (post := fun r => r = 0) em
            cases e : px_H a_letters a_wordCounts n 9
            · exact absurd (q1 (Or.inr ⟨e, c⟩)) (by decide)
            · rfl
          · rw [if_neg c, if_neg c]
        have hmk : (if px_H a_letters a_wordCounts n 1 = true then G' 1 else -1) = (if px_H a_letters a_wordCounts n 1 = true then px_W a_letters a_values a_wordCounts n 1 else -1) := by
          cases e : px_H a_letters a_wordCounts n 1
          · rfl
          · rw [if_pos rfl, if_pos rfl]; exact hW 1 (by decide) e
        rw [hto 0 (by decide), hto 1 (by decide), hto 2 (by decide), h9, hmk]
        generalize eO : pl_og (px_F a_letters a_values a_wordCounts s0 n) (px_H a_letters a_wordCounts n) G' O (fun a => R (3 * n + a)) = O' at hog ⊢
        have R1 : ∀ a, a < 3 → upd (upd (upd R (3 * (n + 1) + 0) (px_he a_letters a_values a_wordCounts s0 (n + 1) 0)) (3 * (n + 1) + 1) (px_he a_letters a_values a_wordCounts s0 (n + 1) 1)) (3 * (n + 1) + 2) (px_he a_letters a_values a_wordCounts s0 (n + 1) 2) (3 * (n + 1) + a) = px_he a_letters a_values a_wordCounts s0 (n + 1) a :=
          fun a ha => co_3 (P := fun a => upd (upd (upd R (3 * (n + 1) + 0) (px_he a_letters a_values a_wordCounts s0 (n + 1) 0)) (3 * (n + 1) + 1) (px_he a_letters a_values a_wordCounts s0 (n + 1) 1)) (3 * (n + 1) + 2) (px_he a_letters a_values a_wordCounts s0 (n + 1) 2) (3 * (n + 1) + a) = px_he a_letters a_values a_wordCounts s0 (n + 1) a) (by rw [pk_un (by omega), pk_un (by omega), pk_us]) (by rw [pk_un (by omega), pk_us]) pk_us ha
        have R2 : ∀ m, m ≤ n → ∀ a, a < 3 → upd (upd (upd R (3 * (n + 1) + 0) (px_he a_letters a_values a_wordCounts s0 (n + 1) 0)) (3 * (n + 1) + 1) (px_he a_letters a_values a_wordCounts s0 (n + 1) 1)) (3 * (n + 1) + 2) (px_he a_letters a_values a_wordCounts s0 (n + 1) 2) (3 * m + a) = px_he a_letters a_values a_wordCounts s0 m a :=
          fun m hm a ha => by rw [pk_un (by omega), pk_un (by omega), pk_un (by omega)]; exact hX.1 m hm a ha
        generalize upd (upd (upd R (3 * (n + 1) + 0) (px_he a_letters a_values a_wordCounts s0 (n + 1) 0)) (3 * (n + 1) + 1) (px_he a_letters a_values a_wordCounts s0 (n + 1) 1)) (3 * (n + 1) + 2) (px_he a_letters a_values a_wordCounts s0 (n + 1) 2) = R' at R1 R2 ⊢
        -- the layout below, and of this line
        have low : ∀ x1 x2 x3 x4 x5 x6 C, (∀ k, k < 2 * n → C k = CE k) → xz_L a_letters a_values a_wordCounts a_limits f_fastest s0 n R' (upd MO n x1) (upd TH n x2) C (upd ST n x3) (upd PC n x4) (upd DW n x5) (upd MK n x6) := by
          intro x1 x2 x3 x4 x5 x6 C hC
          refine ⟨R2, fun m hm => ?_⟩
          obtain ⟨y1, y2, y3, y4, y5, y6, y7⟩ := hX.2 m hm
          refine ⟨(pk_un (by omega)).trans y1, (pk_un (by omega)).trans y2, (pk_un (by omega)).trans y3, (pk_un (by omega)).trans y4, (pk_un (by omega)).trans y5, (pk_un (by omega)).trans y6, fun z => ?_⟩
          rw [hC _ (by omega), hC _ (by omega)]; exact y7 z
        have full : px_why a_letters a_values a_wordCounts a_limits s0 n = 0 → ∀ C, (∀ k, k < 2 * n → C k = CE k) → (¬ px_tu a_letters a_values a_wordCounts s0 n = 0 → C (2 * n) = ii_I (px_c a_letters a_values a_wordCounts s0 n) ∧ C (2 * n + 1) = ii_I (px_d a_letters a_values a_wordCounts s0 n)) → ∀ K, K = px_st a_letters a_values a_wordCounts a_limits s0 n → ∀ P',
            wX_layOut_53 post (wX_layOut_20 post (d + 1)) (nI n) 0 f_lines f_fastest f_gain f_bend f_ahead f_mode f_holds f_pace f_line f_gone f_dwellLeft f_stepsInAll f_ticksInAll (px_S a_letters a_values a_wordCounts s0 n) p (nI n) a_wordCounts a_letters a_values a_limits a_switches a_tool (px_F a_letters a_values a_wordCounts s0 n) O' G' R' P' (upd MO n (if px_F a_letters a_values a_wordCounts s0 n 5 = 28 then 0 else px_F a_letters a_values a_wordCounts s0 n 0)) (upd TH n (nI (pl_ft (px_F a_letters a_values a_wordCounts s0 n)))) C (upd (upd ST n 0) n (nI K)) (upd PC n (px_pc a_letters a_values a_wordCounts f_fastest s0 n)) (upd DW n (px_dw a_letters a_values a_wordCounts s0 n)) (upd MK n (if px_H a_letters a_wordCounts n 1 = true then px_W a_letters a_values a_wordCounts n 1 else -1)) a_nexts a_joints := by
          intro w0 C hC hC2 K eK P'
          subst eK
          have X' : xz_L a_letters a_values a_wordCounts a_limits f_fastest s0 (n + 1) R' (upd MO n (if px_F a_letters a_values a_wordCounts s0 n 5 = 28 then 0 else px_F a_letters a_values a_wordCounts s0 n 0)) (upd TH n (nI (pl_ft (px_F a_letters a_values a_wordCounts s0 n)))) C (upd (upd ST n 0) n (nI (px_st a_letters a_values a_wordCounts a_limits s0 n))) (upd PC n (px_pc a_letters a_values a_wordCounts f_fastest s0 n)) (upd DW n (px_dw a_letters a_values a_wordCounts s0 n)) (upd MK n (if px_H a_letters a_wordCounts n 1 = true then px_W a_letters a_values a_wordCounts n 1 else -1)) := by
            refine ⟨fun m hm => ?_, fun m hm => ?_⟩
            · by_cases e : m = n + 1
              · subst e; exact R1
              · exact R2 m (by omega)
            · by_cases e : m = n
              · subst e
                exact ⟨pk_us, pk_us, pk_us, pk_us, pk_us, pk_us, hC2⟩
              · obtain ⟨y1, y2, y3, y4, y5, y6, y7⟩ := hX.2 m (by omega)
                refine ⟨(pk_un e).trans y1, (pk_un e).trans y2, ((pk_un e).trans (pk_un e)).trans y3, (pk_un e).trans y4, (pk_un e).trans y5, (pk_un e).trans y6, fun z => ?_⟩
                rw [hC _ (by omega), hC _ (by omega)]; exact y7 z
          have hw' : ∀ m, m < n + 1 → px_why a_letters a_values a_wordCounts a_limits s0 m = 0 := by
            intro m hm
            by_cases e : m = n
            · subst e; exact w0
            · exact hw m (by omega)
          unfold wX_layOut_53
          rw [nI_clamp (show n < 2 ^ 31 by omega), pk_us]
          refine br_t rfl (nm_r (nI_1 n) ⟨vp_in_nI hn30 (by omega), br_c (fun c => ?_) (fun c => nm_r (nI_1 n) ?_)⟩)
          · have ce := (px_mark wf.1 e1).1.mp c
            exact h (n + 1) 0 ⟨by omega, hw', fun m hm => he m (by omega), Or.inl ⟨rfl, Or.inr ⟨n, rfl, ce⟩⟩⟩ _ _ _ _ _ _ _ _ _ _ _ _ _ _ Fhi' X'
          · have ce : ¬ px_en a_letters a_values a_wordCounts n = 2 := fun z => c ((px_mark wf.1 e1).1.mpr z)
            refine ih (n + 1) _ _ _ _ _ _ _ _ _ _ _ _ _ _ (by omega) hw' ?_ (fun g _ => rfl) rfl hog X'
            intro m hm
            by_cases e : m = n
            · subst e; exact ce
            · exact he m (by omega)
        refine xl_l2 (H := px_H a_letters a_wordCounts n) (he := px_he a_letters a_values a_wordCounts s0 n) (to := px_he a_letters a_values a_wordCounts s0 (n + 1)) (p := px_p a_letters a_values a_wordCounts s0 n) (q := px_q a_letters a_values a_wordCounts s0 n)
          hn30 hFW hH pk_us pk_us (R2 n (Nat.le_refl _)) R1 ci.2.2 (fun a ha => by have := ci_to wf ci a ha; omega) (fun a ha => (wf.2.2.2 a ha).2) (fun z => if_pos z) ?_ ?_ ?_ ?_ (fun t o => ?_) (fun t o => ?_) (fun t b C hC => ?_) (fun t b w ew => ⟨fun z C P' hC => ?_, fun z P' => ?_⟩)
        · have : pl_ij (px_F a_letters a_values a_wordCounts s0 n) (px_H a_letters a_wordCounts n) G' (pl_fa (px_F a_letters a_values a_wordCounts s0 n)) = pl_ij (px_F a_letters a_values a_wordCounts s0 n) (px_H a_letters a_wordCounts n) (px_W a_letters a_values a_wordCounts n) (pl_fa (px_F a_letters a_values a_wordCounts s0 n)) := by
            unfold pl_ij
            cases e : px_H a_letters a_wordCounts n (5 + pl_fa (px_F a_letters a_values a_wordCounts s0 n))
            · rfl
            · rw [hW _ (by have := (fv_tr hFW).1; omega) e]
          rw [this]; exact (ii_t _).symm
        · have : pl_ij (px_F a_letters a_values a_wordCounts s0 n) (px_H a_letters a_wordCounts n) G' (pl_fb (px_F a_letters a_values a_wordCounts s0 n)) = pl_ij (px_F a_letters a_values a_wordCounts s0 n) (px_H a_letters a_wordCounts n) (px_W a_letters a_values a_wordCounts n) (pl_fb (px_F a_letters a_values a_wordCounts s0 n)) := by
            unfold pl_ij
            cases e : px_H a_letters a_wordCounts n (5 + pl_fb (px_F a_letters a_values a_wordCounts s0 n))
            · rfl
            · rw [hW _ (by have := (fv_tr hFW).2.1; omega) e]
          rw [this]; exact (ii_t _).symm
        · exact pf_ij hFW (ci_W wf n) _
        · exact pf_ij hFW (ci_W wf n) _
        · refine bad53 6 (why3 6 ?_) (by decide) _ _ _ _ _ _ _ _ _ _ _ _ _ _ _ Fhi' (low _ _ _ _ _ _ _ (fun _ _ => rfl))
          rw [if_pos (show px_tu a_letters a_values a_wordCounts s0 n = 0 from t), if_pos (show px_out a_letters a_values a_wordCounts a_limits s0 n = true from o)]
        · refine full ?_ CE (fun _ _ => rfl) (fun z => absurd t z) _ ?_ P
          · refine (why3 0 ?_).symm
            rw [if_pos (show px_tu a_letters a_values a_wordCounts s0 n = 0 from t), if_neg (by rw [show px_out a_letters a_values a_wordCounts a_limits s0 n = false from o]; decide)]
          · unfold px_st
            rw [if_pos (show px_tu a_letters a_values a_wordCounts s0 n = 0 from t)]; rfl
        · refine bad53 5 (why3 5 ?_) (by decide) _ _ _ _ _ _ _ _ _ _ _ _ _ _ _ Fhi' (low _ _ _ _ _ _ _ hC)
          rw [if_neg (show ¬ px_tu a_letters a_values a_wordCounts s0 n = 0 from t), if_pos (show px_b5 a_letters a_values a_wordCounts s0 n = true from decide_eq_true b)]
        · have ew' : w = px_wr a_letters a_values a_wordCounts a_limits s0 n := ew
          refine bad53 6 (why3 6 ?_) (by decide) _ _ _ _ _ _ _ _ _ _ _ _ _ _ _ Fhi' (low _ _ _ _ _ _ _ hC)
          rw [if_neg (show ¬ px_tu a_letters a_values a_wordCounts s0 n = 0 from t), if_neg (by rw [show px_b5 a_letters a_values a_wordCounts s0 n = false from decide_eq_false b]; decide), ← ew', z]
        · have ew' : w = px_wr a_letters a_values a_wordCounts a_limits s0 n := ew
          refine full ?_ _ (fun k hk => (pk_un (by omega)).trans (pk_un (by omega))) (fun _ => ⟨by rw [pk_un (by omega), pk_us]; rfl, by rw [pk_us]; rfl⟩) w.2 ?_ P'
          · refine (why3 0 ?_).symm
            rw [if_neg (show ¬ px_tu a_letters a_values a_wordCounts s0 n = 0 from t), if_neg (by rw [show px_b5 a_letters a_values a_wordCounts s0 n = false from decide_eq_false b]; decide), ← ew', z]
          · unfold px_st
            rw [if_neg (show ¬ px_tu a_letters a_values a_wordCounts s0 n = 0 from t), ← ew']
      · unfold wX_layOut_43
        refine br_f em (bad53 _ ?_ em _ _ _ _ _ _ _ _ _ _ _ _ _ _ _ Fhi' hX)
        unfold px_why
        rw [if_neg (by rw [e1]; decide), if_neg (by rw [e2]; decide), if_pos em]
theorem xz_46 {post : SX → Prop} (h : ∀ O R, (∀ i, i < 6 → O i = 0) → (∀ a, a < 3 → R a = a_tool a) → post (f_lines, f_fastest, f_gain, f_bend, f_ahead, f_mode, f_holds, f_pace, f_line, f_gone, f_dwellLeft, f_stepsInAll, f_ticksInAll, f_speed, f_present, f_laid, a_wordCounts, a_letters, a_values, a_limits, a_switches, a_tool, a_inForce, O, a_given, R, a_probe, a_motions, a_thirds, a_centres, a_steps, a_paces, a_dwells, a_marks, a_nexts, a_joints)) : ∃ m, wX_putFirstInForce_46 post f_lines f_fastest f_gain f_bend f_ahead f_mode f_holds f_pace f_line f_gone f_dwellLeft f_stepsInAll f_ticksInAll f_speed f_present f_laid m 0 a_wordCounts a_letters a_values a_limits a_switches a_tool a_inForce a_origins a_given a_rows a_probe a_motions a_thirds a_centres a_steps a_paces a_dwells a_marks a_nexts a_joints := by
  have st2 : ∀ a f O R, a < 3 → wX_putFirstInForce_67 post f_lines f_fastest f_gain f_bend f_ahead f_mode f_holds f_pace f_line f_gone f_dwellLeft f_stepsInAll f_ticksInAll f_speed f_present f_laid f (nI (a + 1)) a_wordCounts a_letters a_values a_limits a_switches a_tool a_inForce O a_given (upd R a (a_tool a)) a_probe a_motions a_thirds a_centres a_steps a_paces a_dwells a_marks a_nexts a_joints → wX_putFirstInForce_67 post f_lines f_fastest f_gain f_bend f_ahead f_mode f_holds f_pace f_line f_gone f_dwellLeft f_stepsInAll f_ticksInAll f_speed f_present f_laid (f + 1) (nI a) a_wordCounts a_letters a_values a_limits a_switches a_tool a_inForce O a_given R a_probe a_motions a_thirds a_centres a_steps a_paces a_dwells a_marks a_nexts a_joints := by
    intro a f O R ha k
    refine br_f (ix_3a ha) ?_
    rw [nI_clamp (show a < 2 ^ 31 by omega)]
    exact ⟨vp_in_nI ha (by omega), vp_in_nI (by omega) (by omega), nm_e (nm_r (nI_1 a) k)⟩
  have st1 : ∀ d j O, j + d = 6 → (∀ i, i < j → O i = 0) → wX_putFirstInForce_46 post f_lines f_fastest f_gain f_bend f_ahead f_mode f_holds f_pace f_line f_gone f_dwellLeft f_stepsInAll f_ticksInAll f_speed f_present f_laid (d + 1) (nI j) a_wordCounts a_letters a_values a_limits a_switches a_tool a_inForce O a_given a_rows a_probe a_motions a_thirds a_centres a_steps a_paces a_dwells a_marks a_nexts a_joints := by
    intro d
    induction d with
    | zero =>
      intro j O hj hO
      obtain rfl : j = 6 := by omega
      refine br_t (nI_le (a := 6) (Nat.le_refl _) (by decide)) ⟨4, st2 0 3 O _ (by decide) (st2 1 2 O _ (by decide) (st2 2 1 O _ (by decide) (br_t ix_33 (h O _ hO ?_))))⟩
      exact fun a ha => co_3 (P := fun a => upd (upd (upd a_rows 0 (a_tool 0)) 1 (a_tool 1)) 2 (a_tool 2) a = a_tool a) rfl rfl rfl ha
    | succ d ih =>
      intro j O hj hO
      refine br_f (nI_ge (b := 6) (by omega) (by decide)) ⟨vp_in_nI (by omega) (by omega), ?_⟩
      rw [nI_clamp (by omega)]
      refine nm_e (nm_r (nI_1 j) (ih (j + 1) _ (by omega) (fun g hg' => ?_)))
      by_cases e : g = j
      · subst e; exact pk_us
      · rw [pk_un e]; exact hO g (by omega)
  exact ⟨7, st1 6 0 a_origins (by omega) (fun i hi => absurd hi (by omega))⟩
/-- X lays the program out: while it stands -/
theorem xz_lo {post : Int32 → SX → Prop} {l : Nat} (h0 : f_mode = 0) (hl : l ≤ 30) (el : f_lines = nI l) (wf : ci_WF a_letters a_values a_wordCounts a_limits)
    (hs : ∀ a, a < 3 → 0 ≤ (a_tool a).toInt ∧ (a_tool a).toInt ≤ (a_limits a).toInt) (hF : ∀ g, 6 ≤ g → a_inForce g = 0)
    (h : ∀ N r, ci_R a_letters a_values a_wordCounts a_limits a_tool l N r → ∀ sp pr F O G R P MO TH CE ST PC DW MK, (∀ g, 6 ≤ g → F g = 0) →
      xz_L a_letters a_values a_wordCounts a_limits f_fastest a_tool N R MO TH CE ST PC DW MK →
      post r (f_lines, f_fastest, f_gain, f_bend, f_ahead, f_mode, f_holds, f_pace, f_line, f_gone, f_dwellLeft, f_stepsInAll, f_ticksInAll, sp, pr, (nI N), a_wordCounts, a_letters, a_values, a_limits, a_switches, a_tool, F, O, G, R, P, MO, TH, CE, ST, PC, DW, MK, a_nexts, a_joints)) :
    wpX_layOut post (f_lines, f_fastest, f_gain, f_bend, f_ahead, f_mode, f_holds, f_pace, f_line, f_gone, f_dwellLeft, f_stepsInAll, f_ticksInAll, f_speed, f_present, f_laid, a_wordCounts, a_letters, a_values, a_limits, a_switches, a_tool, a_inForce, a_origins, a_given, a_rows, a_probe, a_motions, a_thirds, a_centres, a_steps, a_paces, a_dwells, a_marks, a_nexts, a_joints) := by
  unfold wpX_layOut
  refine br_t h0 ?_
  unfold wpX_putFirstInForce
  refine nm_e (nm_e (nm_e (nm_e (nm_e (xz_46 (fun O R hO hR => ⟨l + 1, ?_⟩))))))
  refine xz_20 hl el wf hs h l 0 _ _ _ _ _ _ _ _ _ _ _ _ _ _ (by omega) (fun m hm => absurd hm (by omega)) (fun m hm => absurd hm (by omega)) ?_ rfl hO ?_
  · intro g hg
    show upd (upd (upd (upd (upd a_inForce 0 0) 1 17) 2 21) 3 90) 4 54 g = px_ff g
    unfold px_ff
    by_cases g4 : g = 4
    · subst g4; rfl
    rw [pk_un g4]
    by_cases g3 : g = 3
    · subst g3; rfl
    rw [pk_un g3]
    by_cases g2 : g = 2
    · subst g2; rfl
    rw [pk_un g2]
    by_cases g1 : g = 1
    · subst g1; rfl
    rw [pk_un g1]
    by_cases g0 : g = 0
    · subst g0; rfl
    rw [pk_un g0, hF g (by omega), if_neg g0, if_neg g1, if_neg g2, if_neg g3, if_neg g4]
  · refine ⟨fun m hm a ha => ?_, fun m hm => absurd hm (by omega)⟩
    obtain rfl : m = 0 := by omega
    rw [show 3 * 0 + a = a by omega]
    exact hR a ha
end
end XLO
