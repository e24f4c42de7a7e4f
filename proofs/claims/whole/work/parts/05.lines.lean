section LNS
theorem wk_its (on : Bool) (f : Int) (k : Nat) (w : Int × Int) : wk_it on f (k + 1) w = wk_nx on f (wk_it on f k w) := by
  rw [wk_ita on f k 1 w]; rfl
theorem pl_60 : ¬ (6 : Int32) = 0 := by decide
theorem pl_wk0 {on : Bool} {far c d l m x y : Int} : ∀ (f k : Nat) (u v : Int) (K : Nat), pl_wk on far c d l m x y f k u v = (0, K) →
    k < K ∧ K ≤ k + f ∧ wk_it on far (K - k) (u, v) = (x, y) ∧
    ∀ j, 1 ≤ j → j ≤ K - k → 0 ≤ c + (wk_it on far j (u, v)).1 ∧ c + (wk_it on far j (u, v)).1 ≤ l ∧ 0 ≤ d + (wk_it on far j (u, v)).2 ∧ d + (wk_it on far j (u, v)).2 ≤ m := by
  intro f
  induction f with
  | zero => intro k u v K h; exact absurd (congrArg Prod.fst h) pl_60
  | succ f ih =>
    intro k u v K h
    rw [pl_wk] at h
    by_cases h1 : c + (wk_nx on far (u, v)).1 < 0 ∨ l < c + (wk_nx on far (u, v)).1 ∨ d + (wk_nx on far (u, v)).2 < 0 ∨ m < d + (wk_nx on far (u, v)).2
    · rw [if_pos h1] at h
      exact absurd (congrArg Prod.fst h) pl_60
    · rw [if_neg h1] at h
      have r1 : 0 ≤ c + (wk_nx on far (u, v)).1 ∧ c + (wk_nx on far (u, v)).1 ≤ l ∧ 0 ≤ d + (wk_nx on far (u, v)).2 ∧ d + (wk_nx on far (u, v)).2 ≤ m := by omega
      by_cases h2 : (wk_nx on far (u, v)).1 = x ∧ (wk_nx on far (u, v)).2 = y
      · rw [if_pos h2] at h
        have hK : k + 1 = K := congrArg Prod.snd h
        subst hK
        refine ⟨by omega, by omega, ?_, ?_⟩
        · rw [show k + 1 - k = 1 by omega]
          show wk_nx on far (u, v) = (x, y)
          exact Prod.ext h2.1 h2.2
        · intro j j1 j2
          obtain rfl : j = 1 := by omega
          exact r1
      · rw [if_neg h2] at h
        obtain ⟨a1, a2, a3, a4⟩ := ih (k + 1) _ _ K h
        refine ⟨by omega, by omega, ?_, ?_⟩
        · rw [show K - k = (K - (k + 1)) + 1 by omega]
          exact a3
        · intro j j1 j2
          obtain ⟨i, rfl⟩ : ∃ i, j = i + 1 := ⟨j - 1, by omega⟩
          by_cases hi : i = 0
          · subst hi; exact r1
          · exact a4 i (by omega) (by omega)
def sg_dd (fr to : Nat → Int32) (a : Nat) : Nat := ((to a).toInt - (fr a).toInt).natAbs
def sg_mx (fr to : Nat → Int32) : Nat := max (max (sg_dd fr to 0) (sg_dd fr to 1)) (sg_dd fr to 2)
def sg_ou (lim to : Nat → Int32) (a : Nat) : Bool := decide ((to a).toInt < 0 ∨ (lim a).toInt < (to a).toInt)
def sg_out (lim to : Nat → Int32) : Bool := sg_ou lim to 0 || sg_ou lim to 1 || sg_ou lim to 2
section
variable (L V M : Nat → Int32) (lim : Nat → Int32) (fs : Int32) (s0 : Nat → Int32)
def px_n (n : Nat) : Nat := (M n).toNatClampNeg
def px_ff : Nat → Int32 := fun g => if g = 0 then 0 else if g = 1 then 17 else if g = 2 then 21 else if g = 3 then 90 else if g = 4 then 54 else 0
def px_H (n : Nat) : Nat → Bool := rd_hs L (8 * n) (px_n M n)
def px_W (n : Nat) : Nat → Int32 := rd_wd L V (fun _ => 0) (8 * n) (px_n M n)
def px_cx : Nat → (Nat → Int32) × Int32 × (Nat → Int32) × (Nat → Int32)
  | 0 => (px_ff, 0, fun _ => 0, s0)
  | n + 1 => (rd_fo L V (px_cx n).1 (8 * n) (px_n M n), rd_sp L V (px_cx n).2.1 (8 * n) (px_n M n),
      pl_og (rd_fo L V (px_cx n).1 (8 * n) (px_n M n)) (px_H L M n) (px_W L V M n) (px_cx n).2.2.1 (px_cx n).2.2.2,
      pl_to (rd_fo L V (px_cx n).1 (8 * n) (px_n M n)) (px_H L M n) (px_W L V M n) (px_cx n).2.2.1 (px_cx n).2.2.2)
def px_F (n : Nat) : Nat → Int32 := (px_cx L V M s0 (n + 1)).1
def px_S (n : Nat) : Int32 := (px_cx L V M s0 (n + 1)).2.1
def px_og (n : Nat) : Nat → Int32 := (px_cx L V M s0 n).2.2.1
def px_he (n : Nat) : Nat → Int32 := (px_cx L V M s0 n).2.2.2
def px_tu (n : Nat) : Int32 := pl_tu (px_F L V M s0 n) (px_H L M n)
def px_p (n : Nat) : Int := (pl_ij (px_F L V M s0 n) (px_H L M n) (px_W L V M n) (pl_fa (px_F L V M s0 n))).toInt
def px_q (n : Nat) : Int := (pl_ij (px_F L V M s0 n) (px_H L M n) (px_W L V M n) (pl_fb (px_F L V M s0 n))).toInt
def px_x (n : Nat) : Int := (px_he L V M s0 (n + 1) (pl_fa (px_F L V M s0 n))).toInt - (px_he L V M s0 n (pl_fa (px_F L V M s0 n))).toInt - px_p L V M s0 n
def px_y (n : Nat) : Int := (px_he L V M s0 (n + 1) (pl_fb (px_F L V M s0 n))).toInt - (px_he L V M s0 n (pl_fb (px_F L V M s0 n))).toInt - px_q L V M s0 n
def px_far (n : Nat) : Int := px_p L V M s0 n * px_p L V M s0 n + px_q L V M s0 n * px_q L V M s0 n
def px_c (n : Nat) : Int := (px_he L V M s0 n (pl_fa (px_F L V M s0 n))).toInt + px_p L V M s0 n
def px_d (n : Nat) : Int := (px_he L V M s0 n (pl_fb (px_F L V M s0 n))).toInt + px_q L V M s0 n
def px_b5 (n : Nat) : Bool := decide (
  (px_H L M n (5 + pl_fa (px_F L V M s0 n)) = false ∧ px_H L M n (5 + pl_fb (px_F L V M s0 n)) = false ∨ px_H L M n (2 + pl_ft (px_F L V M s0 n)) = true ∨ px_H L M n (5 + pl_ft (px_F L V M s0 n)) = true)
  ∨ px_far L V M s0 n = 0 ∨ 90000 < px_far L V M s0 n ∨ ¬ px_x L V M s0 n * px_x L V M s0 n + px_y L V M s0 n * px_y L V M s0 n = px_far L V M s0 n)
def px_on (n : Nat) : Bool := decide (px_tu L V M s0 n = 3)
def px_wr (n : Nat) : Int32 × Nat :=
  pl_wk (px_on L V M s0 n) (px_far L V M s0 n) (px_c L V M s0 n) (px_d L V M s0 n)
    (lim (pl_fa (px_F L V M s0 n))).toInt (lim (pl_fb (px_F L V M s0 n))).toInt (px_x L V M s0 n) (px_y L V M s0 n) 3000 0 (-px_p L V M s0 n) (-px_q L V M s0 n)
def px_mx (n : Nat) : Nat := sg_mx (px_he L V M s0 n) (px_he L V M s0 (n + 1))
def px_out (n : Nat) : Bool := sg_out lim (px_he L V M s0 (n + 1))
/-- why a line is wrong, and its steps -/
def px_why (n : Nat) : Int32 :=
  if rd_no L V (8 * n) (px_n M n) = true then 1
  else if rd_tw L V (8 * n) (px_n M n) = true then 2
  else if ¬ pl_mi (px_F L V M s0 n) (px_H L M n) (px_S L V M s0 n) = 0 then pl_mi (px_F L V M s0 n) (px_H L M n) (px_S L V M s0 n)
  else if px_tu L V M s0 n = 0 then (if px_out L V M lim s0 n = true then 6 else 0)
  else if px_b5 L V M s0 n = true then 5 else (px_wr L V M lim s0 n).1
def px_st (n : Nat) : Nat := if px_tu L V M s0 n = 0 then px_mx L V M s0 n else (px_wr L V M lim s0 n).2
def px_dw (n : Nat) : Int32 := pl_dw (px_F L V M s0 n) (px_W L V M n)
def px_en (n : Nat) : Int32 := pl_en (px_H L M n) (px_W L V M n)
def px_pc (n : Nat) : Int32 := pl_pc (px_F L V M s0 n) (px_S L V M s0 n) fs
end
end LNS
