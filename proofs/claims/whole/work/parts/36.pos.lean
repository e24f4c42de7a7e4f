section POS
def pt_ (k size n : Nat) : Nat := (2 * k * size + n) / (2 * n)
theorem pt_0 {size n : Nat} (hn : 0 < n) : pt_ 0 size n = 0 := by
  unfold pt_
  rw [Nat.mul_zero, Nat.zero_mul, Nat.zero_add]
  exact Nat.div_eq_of_lt (by omega)
theorem pt_n {size n : Nat} (hn : 0 < n) : pt_ n size n = size := by
  unfold pt_
  rw [show 2 * n * size + n = n + 2 * n * size by omega, Nat.add_mul_div_left _ _ (by omega), Nat.div_eq_of_lt (by omega), Nat.zero_add]
theorem pt_le {k size n : Nat} (hn : 0 < n) (hk : k ≤ n) : pt_ k size n ≤ size := by
  have h : pt_ k size n ≤ pt_ n size n := by
    unfold pt_
    refine Nat.div_le_div_right ?_
    have : 2 * k * size ≤ 2 * n * size := Nat.mul_le_mul_right _ (by omega)
    omega
  rw [pt_n hn] at h; exact h
def tl_ (v : Nat → Int32) (old : Nat → Int32) : Nat → Int32 := fun a => if a < 3 then v a else old a
theorem tl_e {v old T : Nat → Int32} (h : ∀ a, a < 3 → T a = v a) (h' : ∀ a, ¬ a < 3 → T a = old a) : T = tl_ v old := by
  funext a
  unfold tl_
  split
  · rename_i c; exact h a c
  · rename_i c; exact h' a c
theorem tl_v {v old : Nat → Int32} {a : Nat} (ha : a < 3) : tl_ v old a = v a := if_pos ha
def tp_ (new old sw : Nat → Int32) (a : Nat) : Bool := decide (¬ new a = old a ∧ new a = sw a)
section
variable (L V M lim s0 : Nat → Int32)
def rs_p (n k a : Nat) : Int :=
  if px_tu L V M s0 n = 0 then
    (if (px_he L V M s0 n a).toInt ≤ (px_he L V M s0 (n + 1) a).toInt then (px_he L V M s0 n a).toInt + pt_ k (sg_dd (px_he L V M s0 n) (px_he L V M s0 (n + 1)) a) (px_st L V M lim s0 n)
     else (px_he L V M s0 n a).toInt - pt_ k (sg_dd (px_he L V M s0 n) (px_he L V M s0 (n + 1)) a) (px_st L V M lim s0 n))
  else if a = pl_fa (px_F L V M s0 n) then px_c L V M s0 n + (wk_it (px_on L V M s0 n) (px_far L V M s0 n) k (-px_p L V M s0 n, -px_q L V M s0 n)).1
  else if a = pl_fb (px_F L V M s0 n) then px_d L V M s0 n + (wk_it (px_on L V M s0 n) (px_far L V M s0 n) k (-px_p L V M s0 n, -px_q L V M s0 n)).2
  else (px_he L V M s0 n a).toInt
def rs_v (n k a : Nat) : Int32 := ii_I (rs_p L V M lim s0 n k a)
end
section
variable {L V M lim s0 : Nat → Int32} {fs bend : Int32} {N : Nat}
theorem fv_ne (n : Nat) : pl_fb (px_F L V M s0 n) ≠ pl_fa (px_F L V M s0 n) := by
  unfold pl_fa pl_fb
  rcases fv_1 (fc_F L V M s0 n) with e | e | e <;> rw [e] <;> decide
theorem rs_0 {n a : Nat} (hs : 0 < px_st L V M lim s0 n) : rs_p L V M lim s0 n 0 a = (px_he L V M s0 n a).toInt := by
  unfold rs_p
  split
  · rw [pt_0 hs]; split <;> omega
  · split
    · rename_i e; subst e; unfold px_c wk_it; dsimp only; omega
    · split
      · rename_i e; subst e; unfold px_d wk_it; dsimp only; omega
      · rfl
theorem rs_dd {n : Nat} (t : px_tu L V M s0 n = 0) {a : Nat} (ha : a < 3) : sg_dd (px_he L V M s0 n) (px_he L V M s0 (n + 1)) a ≤ px_st L V M lim s0 n := by
  unfold px_st
  rw [if_pos t]
  unfold px_mx sg_mx
  exact co_3 (P := fun a => sg_dd (px_he L V M s0 n) (px_he L V M s0 (n + 1)) a ≤ max (max (sg_dd (px_he L V M s0 n) (px_he L V M s0 (n + 1)) 0) (sg_dd (px_he L V M s0 n) (px_he L V M s0 (n + 1)) 1)) (sg_dd (px_he L V M s0 n) (px_he L V M s0 (n + 1)) 2)) (by omega) (by omega) (by omega) ha
theorem rs_wr (K : rn_K L V M lim s0 fs bend N) {n : Nat} (hn : n < N) (t : ¬ px_tu L V M s0 n = 0) :
    wk_it (px_on L V M s0 n) (px_far L V M s0 n) (px_st L V M lim s0 n) (-px_p L V M s0 n, -px_q L V M s0 n) = (px_x L V M s0 n, px_y L V M s0 n) ∧
    ∀ j, 1 ≤ j → j ≤ px_st L V M lim s0 n → 0 ≤ px_c L V M s0 n + (wk_it (px_on L V M s0 n) (px_far L V M s0 n) j (-px_p L V M s0 n, -px_q L V M s0 n)).1 ∧ px_c L V M s0 n + (wk_it (px_on L V M s0 n) (px_far L V M s0 n) j (-px_p L V M s0 n, -px_q L V M s0 n)).1 ≤ (lim (pl_fa (px_F L V M s0 n))).toInt ∧
      0 ≤ px_d L V M s0 n + (wk_it (px_on L V M s0 n) (px_far L V M s0 n) j (-px_p L V M s0 n, -px_q L V M s0 n)).2 ∧ px_d L V M s0 n + (wk_it (px_on L V M s0 n) (px_far L V M s0 n) j (-px_p L V M s0 n, -px_q L V M s0 n)).2 ≤ (lim (pl_fb (px_F L V M s0 n))).toInt := by
  obtain ⟨b, r⟩ := (ci_why (rk_w K hn)).2.2.2.2 t
  obtain ⟨k1, k2, k3, k4⟩ := pl_wk0 3000 0 _ _ (px_wr L V M lim s0 n).2 (Prod.ext r rfl : px_wr L V M lim s0 n = (0, (px_wr L V M lim s0 n).2))
  have e : px_st L V M lim s0 n = (px_wr L V M lim s0 n).2 := by unfold px_st; rw [if_neg t]
  rw [e]
  exact ⟨k3, k4⟩
theorem rs_ft (K : rn_K L V M lim s0 fs bend N) {n a : Nat} (hn : n < N) (t : ¬ px_tu L V M s0 n = 0) (ha : a < 3) (h1 : ¬ a = pl_fa (px_F L V M s0 n)) (h2 : ¬ a = pl_fb (px_F L V M s0 n)) : px_he L V M s0 (n + 1) a = px_he L V M s0 n a := by
  obtain ⟨b, r⟩ := (ci_why (rk_w K hn)).2.2.2.2 t
  obtain ⟨b1, _⟩ := ci_b5 b
  obtain ⟨ta, tb, tt, ts⟩ := fv_tr (fc_F L V M s0 n)
  have ne := fv_ne (L := L) (V := V) (M := M) (s0 := s0) n
  obtain rfl : a = pl_ft (px_F L V M s0 n) := by omega
  exact if_pos b1
theorem rs_N (K : rn_K L V M lim s0 fs bend N) {n a : Nat} (hn : n < N) (hs : 0 < px_st L V M lim s0 n) (ha : a < 3) : rs_p L V M lim s0 n (px_st L V M lim s0 n) a = (px_he L V M s0 (n + 1) a).toInt := by
  unfold rs_p
  split
  · rename_i t
    rw [pt_n hs]
    unfold sg_dd
    split <;> omega
  · rename_i t
    obtain ⟨w, _⟩ := rs_wr K hn t
    rw [w]
    split
    · rename_i e; subst e; unfold px_c px_x; dsimp only; omega
    · rename_i e1
      split
      · rename_i e; subst e; unfold px_d px_y; dsimp only; omega
      · rename_i e2
        rw [rs_ft K hn t ha e1 e2]
theorem rs_in (K : rn_K L V M lim s0 fs bend N) {n k a : Nat} (hn : n < N) (hs : 0 < px_st L V M lim s0 n) (hk : k ≤ px_st L V M lim s0 n) (ha : a < 3) : 0 ≤ rs_p L V M lim s0 n k a ∧ rs_p L V M lim s0 n k a ≤ (lim a).toInt := by
  have c0 := (rk_ci K (n := n) (by omega)).2.2 a ha
  have c1 := (rk_ci K (n := n + 1) (by omega)).2.2 a ha
  by_cases k0 : k = 0
  · subst k0; rw [rs_0 hs]; exact c0
  unfold rs_p
  split
  · have := pt_le (size := sg_dd (px_he L V M s0 n) (px_he L V M s0 (n + 1)) a) hs hk
    unfold sg_dd at this ⊢
    split <;> omega
  · rename_i t
    obtain ⟨_, w⟩ := rs_wr K hn t
    have w' := w k (by omega) hk
    split
    · rename_i e; subst e; exact ⟨w'.1, w'.2.1⟩
    · split
      · rename_i e; subst e; exact ⟨w'.2.2.1, w'.2.2.2⟩
      · exact c0
theorem rs_R (K : rn_K L V M lim s0 fs bend N) {n k a : Nat} (hn : n < N) (hs : 0 < px_st L V M lim s0 n) (hk : k ≤ px_st L V M lim s0 n) (ha : a < 3) : (rs_v L V M lim s0 n k a).toInt = rs_p L V M lim s0 n k a := by
  have h := rs_in K hn hs hk ha
  have l := (K.1.2.2.2 a ha).2
  exact ii_toInt (by unfold ii_R; omega)
/-- a line without steps does not move -/
theorem rs_s0 (K : rn_K L V M lim s0 fs bend N) {n a : Nat} (hn : n < N) (hs : px_st L V M lim s0 n = 0) (ha : a < 3) : px_he L V M s0 (n + 1) a = px_he L V M s0 n a := by
  have t : px_tu L V M s0 n = 0 := by
    refine Decidable.byContradiction (fun z => ?_)
    have := (rn_st K.1 (rk_ci K (n := n) (by omega)) (rk_w K hn)).2 z
    omega
  have d := rs_dd (lim := lim) t ha
  rw [hs] at d
  unfold sg_dd at d
  rw [fc_eq]
  omega
theorem dw_0 (K : rn_K L V M lim s0 fs bend N) {n : Nat} (hn : n < N) (h : ¬ 0 < px_dw L V M s0 n) : px_dw L V M s0 n = 0 := by
  have w := ci_why (rk_w K hn)
  unfold px_dw pl_dw at h ⊢
  split at h
  · rename_i e4
    rw [if_pos e4]
    have h9 : px_H L M n 9 = true := by
      obtain ⟨q1, _⟩ := mi_3 (post := fun r => r = 0) w.2.2.1
      cases e : px_H L M n 9
      · exact absurd (q1 (Or.inr ⟨e, e4⟩)) (by decide)
      · rfl
    have key : ∀ j, rd_no L V (8 * n) j = false → rd_hs L (8 * n) j 9 = true → ¬ rd_wd L V (fun _ => 0) (8 * n) j 9 < 0 := by
      intro j
      induction j with
      | zero => intro _ z; exact absurd (show false = true from z) (by decide)
      | succ j ih =>
        intro hn h
        rw [rd_no, Bool.or_eq_false_iff] at hn
        rw [rd_hs] at h
        rw [rd_wd]
        by_cases c : L (8 * n + j) = 0
        · rw [if_pos c] at h ⊢; exact ih hn.1 h
        · rw [if_neg c] at h ⊢
          obtain ⟨k, k1, k2, k3⟩ := rd_let (K.1.1 (8 * n + j))
          rw [k3] at h ⊢
          by_cases e : 9 = k
          · subst e
            rw [pk_us]
            have hb := hn.2
            unfold pl_bad at hb
            rw [decide_eq_false_iff_not] at hb
            exact fun z => hb (Or.inr (Or.inr (Or.inr ⟨k2, Or.inl z⟩)))
          · rw [pk_un e]
            rw [if_neg e] at h
            exact ih hn.1 h
    have g := key _ w.1 h9
    have g' : ¬ px_W L V M n 9 < 0 := g
    rw [fc_lt, fc_0] at g' h
    rw [fc_eq, fc_0]
    omega
  · rename_i e4
    rw [if_neg e4]
end
end POS
