section FCT
/-! The ints as whole numbers, for omega -/
theorem fc_ei {x : Int32} {a : Int} (h : x.toInt = a) (ha : ii_R a) : x = ii_I a := by rw [← h, ii_t]
theorem fc_le {x y : Int32} : x ≤ y ↔ x.toInt ≤ y.toInt := Int32.le_iff_toInt_le
theorem fc_lt {x y : Int32} : x < y ↔ x.toInt < y.toInt := Int32.lt_iff_toInt_lt
theorem fc_eq {x y : Int32} : x = y ↔ x.toInt = y.toInt := Int32.toInt_inj.symm
theorem fc_0 : (0 : Int32).toInt = 0 := by decide
theorem fc_1 : (1 : Int32).toInt = 1 := by decide
theorem fc_2 : (2 : Int32).toInt = 2 := by decide
theorem fc_3 : (3 : Int32).toInt = 3 := by decide
theorem fc_4 : (4 : Int32).toInt = 4 := by decide
theorem fc_5 : (5 : Int32).toInt = 5 := by decide
theorem fc_6 : (6 : Int32).toInt = 6 := by decide
theorem fc_8 : (8 : Int32).toInt = 8 := by decide
theorem fc_9 : (9 : Int32).toInt = 9 := by decide
theorem fc_17 : (17 : Int32).toInt = 17 := by decide
theorem fc_18 : (18 : Int32).toInt = 18 := by decide
theorem fc_19 : (19 : Int32).toInt = 19 := by decide
theorem fc_20 : (20 : Int32).toInt = 20 := by decide
theorem fc_21 : (21 : Int32).toInt = 21 := by decide
theorem fc_28 : (28 : Int32).toInt = 28 := by decide
theorem fc_53 : (53 : Int32).toInt = 53 := by decide
theorem fc_54 : (54 : Int32).toInt = 54 := by decide
theorem fc_55 : (55 : Int32).toInt = 55 := by decide
theorem fc_90 : (90 : Int32).toInt = 90 := by decide
theorem fc_91 : (91 : Int32).toInt = 91 := by decide
theorem fc_92 : (92 : Int32).toInt = 92 := by decide
theorem fc_m1 : (-1 : Int32).toInt = -1 := by decide
theorem fc_1000 : (1000 : Int32).toInt = 1000 := by decide
/-- what a group holds -/
def fc_V (g : Nat) (x : Int32) : Prop :=
  (g = 0 ∧ (x = 0 ∨ x = 1 ∨ x = 2 ∨ x = 3)) ∨ (g = 1 ∧ (x = 17 ∨ x = 18 ∨ x = 19)) ∨ (g = 2 ∧ (x = 20 ∨ x = 21)) ∨
  (g = 3 ∧ (x = 90 ∨ x = 91)) ∨ (g = 4 ∧ (x = 54 ∨ x = 55)) ∨ (g = 5 ∧ (x = -1 ∨ x = 4 ∨ x = 28 ∨ x = 53 ∨ x = 92)) ∨ 6 ≤ g
theorem fc_gr (x : Int32) : (pl_gr x = -1) ∨ ∃ g : Nat, g < 6 ∧ pl_gr x = nI g ∧ fc_V g x := by
  unfold pl_gr
  by_cases h0 : 0 ≤ x ∧ x ≤ 3
  · rw [if_pos h0]
    refine Or.inr ⟨0, by omega, rfl, Or.inl ⟨rfl, ?_⟩⟩
    rw [fc_le, fc_le, fc_0, fc_3] at h0
    rw [fc_eq, fc_eq, fc_eq, fc_eq, fc_0, fc_1, fc_2, fc_3]
    omega
  · rw [if_neg h0]
    by_cases h1 : 17 ≤ x ∧ x ≤ 19
    · rw [if_pos h1]
      refine Or.inr ⟨1, by omega, rfl, Or.inr (Or.inl ⟨rfl, ?_⟩)⟩
      rw [fc_le, fc_le, fc_17, fc_19] at h1
      rw [fc_eq, fc_eq, fc_eq, fc_17, fc_18, fc_19]
      omega
    · rw [if_neg h1]
      by_cases h2 : x = 20 ∨ x = 21
      · rw [if_pos h2]
        exact Or.inr ⟨2, by omega, rfl, Or.inr (Or.inr (Or.inl ⟨rfl, h2⟩))⟩
      · rw [if_neg h2]
        by_cases h3 : x = 90 ∨ x = 91
        · rw [if_pos h3]
          exact Or.inr ⟨3, by omega, rfl, Or.inr (Or.inr (Or.inr (Or.inl ⟨rfl, h3⟩)))⟩
        · rw [if_neg h3]
          by_cases h4 : x = 54 ∨ x = 55
          · rw [if_pos h4]
            exact Or.inr ⟨4, by omega, rfl, Or.inr (Or.inr (Or.inr (Or.inr (Or.inl ⟨rfl, h4⟩))))⟩
          · rw [if_neg h4]
            by_cases h5 : x = 4 ∨ x = 28 ∨ x = 53 ∨ x = 92
            · rw [if_pos h5]
              exact Or.inr ⟨5, by omega, rfl, Or.inr (Or.inr (Or.inr (Or.inr (Or.inr (Or.inl ⟨rfl, Or.inr h5⟩)))))⟩
            · rw [if_neg h5]
              exact Or.inl rfl
theorem fc_grI (x : Int32) (h : 0 ≤ pl_gr x) : ∃ g : Nat, g < 6 ∧ pl_gr x = nI g ∧ (pl_gr x).toNatClampNeg = g ∧ fc_V g x := by
  rcases fc_gr x with e | ⟨g, h1, h2, h3⟩
  · rw [e] at h; exact absurd h (by decide)
  · exact ⟨g, h1, h2, by rw [h2, nI_clamp (by omega)], h3⟩
def fc_FV (F : Nat → Int32) : Prop := ∀ g, g < 5 → fc_V g (F g)
def fc_FW (F : Nat → Int32) : Prop := ∀ g, g < 6 → fc_V g (F g)
theorem fc_fo (L V f0 : Nat → Int32) (b : Nat) (h : fc_FV f0) : ∀ j, fc_FW (rd_fo L V f0 b j) := by
  intro j
  induction j with
  | zero =>
    intro g hg
    show fc_V g (upd f0 5 (-1) g)
    by_cases e : g = 5
    · subst e
      rw [pk_us]
      exact Or.inr (Or.inr (Or.inr (Or.inr (Or.inr (Or.inl ⟨rfl, Or.inl rfl⟩)))))
    · rw [pk_un e]; exact h g (by omega)
  | succ j ih =>
    intro g hg
    rw [rd_fo]
    by_cases c : L (b + j) = 0 ∧ 0 ≤ pl_gr (V (b + j))
    · rw [if_pos c]
      obtain ⟨k, k1, k2, k3, k4⟩ := fc_grI _ c.2
      rw [k3]
      by_cases e : g = k
      · subst e; rw [pk_us]; exact k4
      · rw [pk_un e]; exact ih g hg
    · rw [if_neg c]; exact ih g hg
theorem fc_ff : fc_FV px_ff := by
  intro g hg
  match g, hg with
  | 0, _ => exact Or.inl ⟨rfl, Or.inl rfl⟩
  | 1, _ => exact Or.inr (Or.inl ⟨rfl, Or.inl rfl⟩)
  | 2, _ => exact Or.inr (Or.inr (Or.inl ⟨rfl, Or.inr rfl⟩))
  | 3, _ => exact Or.inr (Or.inr (Or.inr (Or.inl ⟨rfl, Or.inl rfl⟩)))
  | 4, _ => exact Or.inr (Or.inr (Or.inr (Or.inr (Or.inl ⟨rfl, Or.inl rfl⟩))))
theorem fc_cxF (L V M s0 : Nat → Int32) : ∀ n, fc_FV (px_cx L V M s0 n).1 := by
  intro n
  cases n with
  | zero => exact fc_ff
  | succ n =>
    show fc_FV (rd_fo L V (px_cx L V M s0 n).1 (8 * n) (px_n M n))
    induction n with
    | zero => exact fun g hg => fc_fo L V _ _ fc_ff _ g (by omega)
    | succ n ih => exact fun g hg => fc_fo L V _ _ ih _ g (by omega)
theorem fc_F (L V M s0 : Nat → Int32) (n : Nat) : fc_FW (px_F L V M s0 n) := fc_fo L V _ _ (fc_cxF L V M s0 n) _
/-- words lie in their range -/
theorem fc_wd {L V : Nat → Int32} (hV : ∀ k, -3000 ≤ (V k).toInt ∧ (V k).toInt ≤ 3000) (b : Nat) : ∀ j i, -3000 ≤ (rd_wd L V (fun _ => 0) b j i).toInt ∧ (rd_wd L V (fun _ => 0) b j i).toInt ≤ 3000 := by
  intro j
  induction j with
  | zero => intro i; show -3000 ≤ (0 : Int32).toInt ∧ (0 : Int32).toInt ≤ 3000; rw [fc_0]; omega
  | succ j ih =>
    intro i
    rw [rd_wd]
    split
    · exact ih i
    · by_cases e : i = (L (b + j)).toNatClampNeg
      · subst e; rw [pk_us]; exact hV _
      · rw [pk_un e]; exact ih i
theorem fc_sp {L V : Nat → Int32} {s : Int32} (hs : 0 ≤ s.toInt ∧ s.toInt ≤ 1000) (b : Nat) : ∀ j, rd_no L V b j = false → 0 ≤ (rd_sp L V s b j).toInt ∧ (rd_sp L V s b j).toInt ≤ 1000 := by
  intro j
  induction j with
  | zero => intro _; exact hs
  | succ j ih =>
    intro h
    rw [rd_no, Bool.or_eq_false_iff] at h
    rw [rd_sp]
    by_cases c : L (b + j) = 8
    · rw [if_pos c]
      have h2 := h.2
      unfold pl_bad at h2
      rw [decide_eq_false_iff_not] at h2
      have h3 : ¬ (V (b + j) < 1 ∨ 1000 < V (b + j)) := fun z => h2 (Or.inr (Or.inr (Or.inl ⟨c, z⟩)))
      rw [fc_lt, fc_lt, fc_1, fc_1000] at h3
      omega
    · rw [if_neg c]; exact ih h.1
end FCT
