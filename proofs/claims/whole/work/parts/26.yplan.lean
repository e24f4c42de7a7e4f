section YPL
def yz_T (L V M s0 : Nat → Int32) (n : Nat) (to : Nat → Int32) : Prop := ∀ m, m < n → ∀ a, a < 3 → to (3 * m + a) = px_he L V M s0 (m + 1) a
/-- the reference's layout of the lines below n, by the picture -/
def yz_L (L V M lim : Nat → Int32) (fs : Int32) (s0 : Nat → Int32) (n : Nat) (fr to st pc dw en tu fi se ce : Nat → Int32) : Prop :=
  (∀ m, m < n → ∀ a, a < 3 → fr (3 * m + a) = px_he L V M s0 m a ∧ to (3 * m + a) = px_he L V M s0 (m + 1) a) ∧
  (∀ m, m < n → st m = nI (px_st L V M lim s0 m) ∧ pc m = px_pc L V M fs s0 m ∧ dw m = px_dw L V M s0 m ∧ en m = px_en L V M m ∧ tu m = px_tu L V M s0 m ∧
    (¬ px_tu L V M s0 m = 0 → fi m = nI (pl_fa (px_F L V M s0 m)) ∧ se m = nI (pl_fb (px_F L V M s0 m)) ∧ ce (2 * m) = ii_I (px_c L V M s0 m) ∧ ce (2 * m + 1) = ii_I (px_d L V M s0 m)))
theorem sg_oute {lim to to' : Nat → Int32} (h : ∀ a, a < 3 → to a = to' a) : sg_out lim to = sg_out lim to' := by
  unfold sg_out sg_ou
  rw [h 0 (by decide), h 1 (by decide), h 2 (by decide)]
theorem sg_mxe {fr fr' to to' : Nat → Int32} (h : ∀ a, a < 3 → to a = to' a) (h' : ∀ a, a < 3 → fr a = fr' a) : sg_mx fr to = sg_mx fr' to' := by
  unfold sg_mx sg_dd
  rw [h 0 (by decide), h 1 (by decide), h 2 (by decide), h' 0 (by decide), h' 1 (by decide), h' 2 (by decide)]
theorem pl_mi34 (F : Nat → Int32) (H : Nat → Bool) (S : Int32) (h : ¬ pl_mi F H S = 0) : ¬ pl_mi F H S ≤ 0 := by
  unfold pl_mi at h ⊢
  split
  · decide
  · split
    · decide
    · split
      · decide
      · split
        · decide
        · split
          · decide
          · rename_i c1 c2 c3 c4 c5
            rw [if_neg c1, if_neg c2, if_neg c3, if_neg c4, if_neg c5] at h
            exact absurd rfl h
section
variable {f_lines f_fastest f_gain f_bend f_ahead f_speed f_seen f_state f_line f_pace f_left f_went f_allSteps f_allTicks f_u f_v f_holds : Int32} {a_letters a_values a_many a_tool a_began a_limit a_trips a_force a_origins a_here a_has a_grouped a_word a_from a_to a_steps a_paces a_dwells a_ends a_turn a_first a_second a_centre a_direction : Nat → Int32}
theorem yz_106 {post : Int32 → SY → Prop} {s0 : Nat → Int32} {l : Nat} (hl : l ≤ 30) (el : f_lines = nI l) (wf : ci_WF a_letters a_values a_many a_limit)
    (hs : ∀ a, a < 3 → 0 ≤ (s0 a).toInt ∧ (s0 a).toInt ≤ (a_limit a).toInt)
    (h : ∀ N r, ci_R a_letters a_values a_many a_limit s0 l N r → ∀ sp u v F O he hs gr wd fr to st pc dw en tu fi se ce, (∀ g, 6 ≤ g → F g = 0) →
      yz_T a_letters a_values a_many s0 N to → (r = 0 → yz_L a_letters a_values a_many a_limit f_fastest s0 N fr to st pc dw en tu fi se ce) →
      post r (f_lines, f_fastest, f_gain, f_bend, f_ahead, sp, (nI N), f_state, f_line, f_pace, f_left, f_went, f_allSteps, f_allTicks, u, v, f_holds, a_letters, a_values, a_many, a_tool, a_began, a_limit, a_trips, F, O, he, hs, gr, wd, fr, to, st, pc, dw, en, tu, fi, se, ce, a_direction)) :
    ∀ d n sp u v F O he hs gr wd fr to st pc dw en tu fi se ce, n + d = l → (∀ m, m < n → px_why a_letters a_values a_many a_limit s0 m = 0) → (∀ m, m + 1 < n → ¬ px_en a_letters a_values a_many m = 2) →
      (∀ g, g ≠ 5 → F g = (px_cx a_letters a_values a_many s0 n).1 g) → sp = (px_cx a_letters a_values a_many s0 n).2.1 → (∀ i, i < 6 → O i = px_og a_letters a_values a_many s0 n i) → (∀ a, a < 3 → he a = px_he a_letters a_values a_many s0 n a) →
      yz_L a_letters a_values a_many a_limit f_fastest s0 n fr to st pc dw en tu fi se ce →
      wY_plan_106 post (d + 1) f_lines f_fastest f_gain f_bend f_ahead sp (nI n) f_state f_line f_pace f_left f_went f_allSteps f_allTicks u v f_holds a_letters a_values a_many a_tool a_began a_limit a_trips F O he hs gr wd fr to st pc dw en tu fi se ce a_direction := by
  intro d
  induction d with
  | zero =>
    intro n sp u v F O he hs gr wd fr to st pc dw en tu fi se ce hn hw hen hF hsp hO hhe hY
    obtain rfl : n = l := by omega
    refine br_t (by rw [el]; exact nI_le (Nat.le_refl _) (by omega)) (h n 0 ⟨Nat.le_refl _, hw, hen, Or.inl ⟨rfl, Or.inl rfl⟩⟩ _ _ _ _ _ _ _ _ _ _ _ _ _ _ _ _ _ _ _ (fun g hg => (hF g (by omega)).trans (px_Fhi _ _ _ _ n g hg)) (fun m hm a ha => (hY.1 m hm a ha).2) (fun _ => hY))
  | succ d ih =>
    intro n sp u v F O he hs' gr wd fr to st pc dw en tu fi se ce hn hw hen hF hsp hO hhe hY
    have hn30 : n < 30 := by omega
    have Fhi : ∀ g, 6 ≤ g → F g = 0 := fun g hg => (hF g (by omega)).trans (px_Fhi _ _ _ _ n g hg)
    obtain ⟨eM, hM8⟩ := wf.2.2.1 n
    have ci := ci_n wf hs n hw
    have T0 : yz_T a_letters a_values a_many s0 n to := fun m hm a ha => (hY.1 m hm a ha).2
    -- the line itself
    have g139 : (∀ m, n = m + 1 → ¬ px_en a_letters a_values a_many m = 2) → wY_plan_139 post (wY_plan_106 post (d + 1)) f_lines f_fastest f_gain f_bend f_ahead sp (nI n) f_state f_line f_pace f_left f_went f_allSteps f_allTicks u v f_holds a_letters a_values a_many a_tool a_began a_limit a_trips F O he hs' gr wd fr to st pc dw en tu fi se ce a_direction := by
      intro hen2
      have bad : ∀ r, r = px_why a_letters a_values a_many a_limit s0 n → ¬ r = 0 → ∀ sp u v F O he hs gr wd fr to st pc dw en tu fi se ce, (∀ g, 6 ≤ g → F g = 0) → yz_T a_letters a_values a_many s0 n to →
          post (10 * nI n + r) (f_lines, f_fastest, f_gain, f_bend, f_ahead, sp, (nI n), f_state, f_line, f_pace, f_left, f_went, f_allSteps, f_allTicks, u, v, f_holds, a_letters, a_values, a_many, a_tool, a_began, a_limit, a_trips, F, O, he, hs, gr, wd, fr, to, st, pc, dw, en, tu, fi, se, ce, a_direction) := by
        intro r er nr sp u v F O he hs gr wd fr to st pc dw en tu fi se ce hF hT
        subst er
        have R : ci_R a_letters a_values a_many a_limit s0 l n (10 * nI n + px_why a_letters a_values a_many a_limit s0 n) := ⟨by omega, hw, hen, Or.inr ⟨by omega, nr, hen2, rfl⟩⟩
        refine h n _ R sp u v F O he hs gr wd fr to st pc dw en tu fi se ce hF hT (fun z => ?_)
        exfalso
        exact ci_R10 hn30 nr z
      unfold wY_plan_139 wpY_workOut
      refine yl_rw (c := px_n a_many n) hn30 hM8 eM wf.1 (fun hs2 gs2 hh => ?_)
      have eF : rd_fo a_letters a_values F (8 * n) (px_n a_many n) = px_F a_letters a_values a_many s0 n := rd_foe hF _
      have eS : rd_sp a_letters a_values sp (8 * n) (px_n a_many n) = px_S a_letters a_values a_many s0 n := by rw [hsp]; rfl
      rw [eF, eS]
      have hFW := fc_F a_letters a_values a_many s0 n
      have hH : ∀ i, i < 10 → hs2 i = bo_I (px_H a_letters a_many n i) := hh
      have hW : ∀ i, i < 10 → px_H a_letters a_many n i = true → rd_wd a_letters a_values wd (8 * n) (px_n a_many n) i = px_W a_letters a_values a_many n i := fun i _ z => rd_wde _ i z
      generalize rd_wd a_letters a_values wd (8 * n) (px_n a_many n) = G' at hW ⊢
      have Fhi' : ∀ g, 6 ≤ g → px_F a_letters a_values a_many s0 n g = 0 := px_Fhi _ _ _ _ (n + 1)
      dsimp only
      by_cases e1 : rd_no a_letters a_values (8 * n) (px_n a_many n) = true
      · rw [if_pos e1]
        refine br_f (by decide) ?_
        unfold wY_workOut_15
        refine br_f (by decide) (br_f (by decide) (bad 1 ?_ (by decide) _ _ _ _ _ _ _ _ _ _ _ _ _ _ _ _ _ _ _ Fhi' T0))
        unfold px_why
        rw [if_pos e1]
      rw [if_neg e1]
      by_cases e2 : rd_tw a_letters a_values (8 * n) (px_n a_many n) = true
      · rw [if_pos e2]
        refine br_f (by decide) ?_
        unfold wY_workOut_15
        refine br_f (by decide) (br_f (by decide) (bad 2 ?_ (by decide) _ _ _ _ _ _ _ _ _ _ _ _ _ _ _ _ _ _ _ Fhi' T0))
        unfold px_why
        rw [if_neg e1, if_pos e2]
      rw [if_neg e2]
      refine br_t rfl (yl_mi (H := px_H a_letters a_many n) hFW hH ?_)
      by_cases em : pl_mi (px_F a_letters a_values a_many s0 n) (px_H a_letters a_many n) (px_S a_letters a_values a_many s0 n) = 0
      · rw [em]
        unfold wY_workOut_15
        refine br_t (by decide) (nm_e ?_)
        have why3 : ∀ r, r = (if px_tu a_letters a_values a_many s0 n = 0 then (if px_out a_letters a_values a_many a_limit s0 n = true then 6 else 0) else if px_b5 a_letters a_values a_many s0 n = true then 5 else (px_wr a_letters a_values a_many a_limit s0 n).1) → r = px_why a_letters a_values a_many a_limit s0 n := by
          intro r er
          unfold px_why
          rw [if_neg e1, if_neg e2, if_neg (fun z => z em)]
          exact er
        have hto : ∀ a, a < 3 → pl_to (px_F a_letters a_values a_many s0 n) (px_H a_letters a_many n) (px_W a_letters a_values a_many n) O he a = px_he a_letters a_values a_many s0 (n + 1) a := by
          intro a ha
          rw [pl_toh (he' := px_he a_letters a_values a_many s0 n) (hhe a ha), pl_too2 (hO _ (ix_ol _ ha))]
          rfl
        have hog : ∀ i, i < 6 → pl_og (px_F a_letters a_values a_many s0 n) (px_H a_letters a_many n) (px_W a_letters a_values a_many n) O he i = px_og a_letters a_values a_many s0 (n + 1) i := by
          intro i hi
          rw [pl_ogh (he' := px_he a_letters a_values a_many s0 n) hhe]
          exact pl_o1e (fun i hi => pl_o1e (fun i hi => pl_o1e hO i hi) i hi) i hi
        obtain ⟨ta, tb, _, _⟩ := fv_tr hFW
        have eout : sg_out a_limit (pl_to (px_F a_letters a_values a_many s0 n) (px_H a_letters a_many n) (px_W a_letters a_values a_many n) O he) = px_out a_letters a_values a_many a_limit s0 n := sg_oute hto
        have emx : sg_mx he (pl_to (px_F a_letters a_values a_many s0 n) (px_H a_letters a_many n) (px_W a_letters a_values a_many n) O he) = px_mx a_letters a_values a_many s0 n := sg_mxe hto hhe
        have eb5 : pw_b5 (px_F a_letters a_values a_many s0 n) (px_H a_letters a_many n) he (pl_to (px_F a_letters a_values a_many s0 n) (px_H a_letters a_many n) (px_W a_letters a_values a_many n) O he) (px_p a_letters a_values a_many s0 n) (px_q a_letters a_values a_many s0 n) ↔ px_b5 a_letters a_values a_many s0 n = true := by
          unfold pw_b5 px_b5
          rw [decide_eq_true_iff, hto _ ta, hto _ tb, hhe _ ta, hhe _ tb]
          rfl
        have ewr : pw_wr (px_F a_letters a_values a_many s0 n) (px_H a_letters a_many n) a_limit he (pl_to (px_F a_letters a_values a_many s0 n) (px_H a_letters a_many n) (px_W a_letters a_values a_many n) O he) (px_p a_letters a_values a_many s0 n) (px_q a_letters a_values a_many s0 n) = px_wr a_letters a_values a_many a_limit s0 n := by
          unfold pw_wr
          rw [hto _ ta, hto _ tb, hhe _ ta, hhe _ tb]
          rfl
        have hb5 : ¬ pw_b5 (px_F a_letters a_values a_many s0 n) (px_H a_letters a_many n) he (pl_to (px_F a_letters a_values a_many s0 n) (px_H a_letters a_many n) (px_W a_letters a_values a_many n) O he) (px_p a_letters a_values a_many s0 n) (px_q a_letters a_values a_many s0 n) → ¬ px_b5 a_letters a_values a_many s0 n = true := fun z w => z (eb5.mpr w)
        -- the next turn of the loop
        have good : px_why a_letters a_values a_many a_limit s0 n = 0 → ∀ K, K = px_st a_letters a_values a_many a_limit s0 n → ∀ u v og' he' fr' to' st' pc' dw' en' tu' fi' se' ce',
            yw_G n (px_F a_letters a_values a_many s0 n) (px_H a_letters a_many n) (px_W a_letters a_values a_many n) O he f_fastest (px_S a_letters a_values a_many s0 n) (px_p a_letters a_values a_many s0 n) (px_q a_letters a_values a_many s0 n) K fr to st pc dw en tu fi se ce og' he' fr' to' st' pc' dw' en' tu' fi' se' ce' →
            wY_plan_106 post (d + 1) f_lines f_fastest f_gain f_bend f_ahead (px_S a_letters a_values a_many s0 n) (nI (n + 1)) f_state f_line f_pace f_left f_went f_allSteps f_allTicks u v f_holds a_letters a_values a_many a_tool a_began a_limit a_trips (px_F a_letters a_values a_many s0 n) og' he' hs2 gs2 G' fr' to' st' pc' dw' en' tu' fi' se' ce' a_direction := by
          intro w0 K eK u v og' he' fr' to' st' pc' dw' en' tu' fi' se' ce' G
          subst eK
          obtain ⟨G1, G2, G3, ⟨G4, G5, G6, G7, G8⟩, G9, G10, G11, G12⟩ := G
          refine ih (n + 1) _ _ _ _ _ _ _ _ _ _ _ _ _ _ _ _ _ _ _ (by omega) ?_ ?_ (fun g _ => rfl) rfl ?_ ?_ ⟨fun m hm a ha => ?_, fun m hm => ?_⟩
          · intro m hm
            by_cases e : m = n
            · subst e; exact w0
            · exact hw m (by omega)
          · intro m hm
            by_cases e : m + 1 = n
            · exact hen2 m e.symm
            · exact hen m (by omega)
          · rw [G1]; exact hog
          · exact fun a ha => (G2 a ha).trans (hto a ha)
          · by_cases e : m = n
            · subst e
              exact ⟨((G3 a ha).1).trans (hhe a ha), ((G3 a ha).2).trans (hto a ha)⟩
            · have y := G10 (3 * m + a) (by omega)
              rw [y.1, y.2]
              exact hY.1 m (by omega) a ha
          · by_cases e : m = n
            · subst e
              refine ⟨G4, G5, G6, G7, G8, fun z => ?_⟩
              obtain ⟨y1, y2, y3, y4⟩ := G9 z
              rw [hhe _ ta] at y3
              rw [hhe _ tb] at y4
              exact ⟨y1, y2, y3, y4⟩
            · obtain ⟨y1, y2, y3, y4, y5, y6, y7⟩ := G11 m (by omega)
              have y8 := G12 (2 * m) (by omega)
              have y9 := G12 (2 * m + 1) (by omega)
              rw [y1, y2, y3, y4, y5, y6, y7, y8, y9]
              exact hY.2 m (by omega)
        have low : ∀ t, (∀ k, k < 3 * n → t k = to k) → yz_T a_letters a_values a_many s0 n t := fun t ht m hm a ha => (ht _ (by omega)).trans (T0 m hm a ha)
        refine yw_l (H := px_H a_letters a_many n) (W := px_W a_letters a_values a_many n) (p := px_p a_letters a_values a_many s0 n) (q := px_q a_letters a_values a_many s0 n)
          hn30 hFW hH hW ?_ ?_ ?_ (fun a ha => (wf.2.2.2 a ha).2) (ii_t _).symm (ii_t _).symm (pf_ij hFW (ci_W wf n) _) (pf_ij hFW (ci_W wf n) _)
          (fun t o og' he' fr' to' st' pc' dw' en' tu' ht => ?_) (fun t o og' he' fr' to' st' pc' dw' en' tu' G => ?_) (fun t b og' he' fr' to' st' pc' dw' en' tu' ht => ?_)
          (fun t b w u v og' he' fr' to' st' pc' dw' en' tu' fi' se' ce' ht => ?_) (fun t b w u v og' he' fr' to' st' pc' dw' en' tu' fi' se' ce' G => ?_)
        · intro c
          obtain ⟨q1, _⟩ := mi_3 (post := fun r => r = 0) em
          cases e : px_H a_letters a_many n 9
          · exact absurd (q1 (Or.inr ⟨e, c⟩)) (by decide)
          · rfl
        · intro a ha; rw [hhe a ha]; exact ci.2.2 a ha
        · intro a ha; rw [hto a ha]; have := ci_to wf ci a ha; omega
        · rw [eout] at o
          refine br_f (by decide) (bad 6 (why3 6 ?_) (by decide) _ _ _ _ _ _ _ _ _ _ _ _ _ _ _ _ _ _ _ Fhi' (low _ ht))
          rw [if_pos (show px_tu a_letters a_values a_many s0 n = 0 from t), if_pos o]
        · rw [eout] at o
          rw [emx] at G
          refine br_t (by decide) (nm_r (nI_1 n) (good ?_ _ ?_ _ _ _ _ _ _ _ _ _ _ _ _ _ _ G))
          · refine (why3 0 ?_).symm
            rw [if_pos (show px_tu a_letters a_values a_many s0 n = 0 from t), if_neg (by rw [o]; decide)]
          · unfold px_st
            rw [if_pos (show px_tu a_letters a_values a_many s0 n = 0 from t)]
        · refine br_f (by decide) (bad 5 (why3 5 ?_) (by decide) _ _ _ _ _ _ _ _ _ _ _ _ _ _ _ _ _ _ _ Fhi' (low _ ht))
          rw [if_neg (show ¬ px_tu a_letters a_values a_many s0 n = 0 from t), if_pos (eb5.mp b)]
        · rw [ewr] at w
          refine br_f (by decide) (bad 6 (why3 6 ?_) (by decide) _ _ _ _ _ _ _ _ _ _ _ _ _ _ _ _ _ _ _ Fhi' (low _ ht))
          rw [if_neg (show ¬ px_tu a_letters a_values a_many s0 n = 0 from t), if_neg (hb5 b), w]
        · rw [ewr] at w G
          refine br_t (by decide) (nm_r (nI_1 n) (good ?_ _ ?_ _ _ _ _ _ _ _ _ _ _ _ _ _ _ G))
          · refine (why3 0 ?_).symm
            rw [if_neg (show ¬ px_tu a_letters a_values a_many s0 n = 0 from t), if_neg (hb5 b), w]
          · unfold px_st
            rw [if_neg (show ¬ px_tu a_letters a_values a_many s0 n = 0 from t)]
      · unfold wY_workOut_15
        refine br_f (pl_mi34 _ _ _ em) (br_f (pl_mi34 _ _ _ em) (bad _ ?_ em _ _ _ _ _ _ _ _ _ _ _ _ _ _ _ _ _ _ _ Fhi' T0))
        unfold px_why
        rw [if_neg e1, if_neg e2, if_pos em]
    refine br_f (by rw [el]; exact nI_ge (by omega) (by omega)) (br_c (fun c => g139 ?_) (fun c => ?_))
    · intro m hm
      exfalso
      exact nI_ne0 (n := n) (by omega) (by omega) c
    · have n0 : 0 < n := by
        rcases Nat.eq_zero_or_pos n with z | z
        · subst z; exact absurd rfl c
        · exact z
      obtain ⟨k, rfl⟩ : ∃ k, n = k + 1 := ⟨n - 1, by omega⟩
      rw [nI_pred, nI_clamp (show k < 2 ^ 31 by omega)]
      have ek : en k = px_en a_letters a_values a_many k := (hY.2 k (by omega)).2.2.2.1
      rw [ek]
      refine ⟨vp_in_nI (by omega) (by omega), br_c (fun z => ?_) (fun z => g139 ?_)⟩
      · exact h (k + 1) 0 ⟨by omega, hw, hen, Or.inl ⟨rfl, Or.inr ⟨k, rfl, z⟩⟩⟩ _ _ _ _ _ _ _ _ _ _ _ _ _ _ _ _ _ _ _ Fhi T0 (fun _ => hY)
      · intro m hm
        obtain rfl : m = k := by omega
        exact z
end
end YPL
