section PIC
theorem fc_add {x y : Int32} (h : ii_R (x.toInt + y.toInt)) : (x + y).toInt = x.toInt + y.toInt := by
  have : x + y = ii_I (x.toInt + y.toInt) := by rw [← ii_add, ii_t, ii_t]
  rw [this, ii_toInt h]
theorem fc_sub {x y : Int32} (h : ii_R (x.toInt - y.toInt)) : (x - y).toInt = x.toInt - y.toInt := by
  have : x - y = ii_I (x.toInt - y.toInt) := by rw [← ii_sub, ii_t, ii_t]
  rw [this, ii_toInt h]
theorem pf_c {F : Nat → Int32} (hF : fc_FW F) {w : Int32} (hw : -3000 ≤ w.toInt ∧ w.toInt ≤ 3000) : -15000 ≤ (w * pl_sc F).toInt ∧ (w * pl_sc F).toInt ≤ 15000 := by
  unfold pl_sc
  rcases fv_2 hF with e | e
  · rw [if_pos e]
    have : w * 5 = ii_I (w.toInt * 5) := by rw [← ii_mul, ii_t]; rfl
    rw [this, ii_toInt (by unfold ii_R; omega)]
    omega
  · rw [if_neg (by rw [e]; decide), Int32.mul_one]
    omega
theorem pf_to {F : Nat → Int32} {H : Nat → Bool} {W og he : Nat → Int32} (hF : fc_FW F) (hW : ∀ i, -3000 ≤ (W i).toInt ∧ (W i).toInt ≤ 3000) (ho : ∀ i, -16000 ≤ (og i).toInt ∧ (og i).toInt ≤ 16000) (hh : ∀ a, a < 3 → 0 ≤ (he a).toInt ∧ (he a).toInt ≤ 1000) :
    ∀ a, a < 3 → -33000 ≤ (pl_to F H W og he a).toInt ∧ (pl_to F H W og he a).toInt ≤ 33000 := by
  intro a ha
  have c := pf_c hF (hW (2 + a))
  have o := ho (pl_oi F a)
  have h := hh a ha
  unfold pl_to
  split
  · omega
  · split
    · omega
    · split
      · rw [fc_0]; omega
      · split
        · omega
        · split
          · rw [fc_add (by unfold ii_R; omega)]; omega
          · rw [fc_add (by unfold ii_R; omega)]; omega
theorem pf_o1 {F : Nat → Int32} {H : Nat → Bool} {W og he : Nat → Int32} (hF : fc_FW F) (hW : ∀ i, -3000 ≤ (W i).toInt ∧ (W i).toInt ≤ 3000) (ho : ∀ i, -16000 ≤ (og i).toInt ∧ (og i).toInt ≤ 16000) {a : Nat} (hh : 0 ≤ (he a).toInt ∧ (he a).toInt ≤ 1000) :
    ∀ i, -16000 ≤ (pl_o1 F H W he a og i).toInt ∧ (pl_o1 F H W he a og i).toInt ≤ 16000 := by
  intro i
  have c := pf_c hF (hW (2 + a))
  unfold pl_o1
  split
  · by_cases e : i = pl_oi F a
    · subst e
      rw [pk_us, fc_sub (by unfold ii_R; omega)]; omega
    · rw [pk_un e]; exact ho i
  · exact ho i
theorem pf_ij {F : Nat → Int32} {H : Nat → Bool} {W : Nat → Int32} (hF : fc_FW F) (hW : ∀ i, -3000 ≤ (W i).toInt ∧ (W i).toInt ≤ 3000) (a : Nat) : -15000 ≤ (pl_ij F H W a).toInt ∧ (pl_ij F H W a).toInt ≤ 15000 := by
  unfold pl_ij
  split
  · exact pf_c hF (hW _)
  · rw [fc_0]; omega
theorem fv_tr {F : Nat → Int32} (hF : fc_FW F) : pl_fa F < 3 ∧ pl_fb F < 3 ∧ pl_ft F < 3 ∧ pl_fa F + pl_fb F + pl_ft F = 3 := by
  unfold pl_fa pl_fb pl_ft
  rcases fv_1 hF with e | e | e <;> rw [e] <;> decide
def ci_WF (L V M lim : Nat → Int32) : Prop :=
  (∀ k, 0 ≤ (L k).toInt ∧ (L k).toInt ≤ 9) ∧ (∀ k, -3000 ≤ (V k).toInt ∧ (V k).toInt ≤ 3000) ∧ (∀ n, M n = nI (px_n M n) ∧ px_n M n ≤ 8) ∧ (∀ a, a < 3 → 0 ≤ (lim a).toInt ∧ (lim a).toInt ≤ 1000)
def ci_I (L V M lim s0 : Nat → Int32) (n : Nat) : Prop :=
  (0 ≤ (px_cx L V M s0 n).2.1.toInt ∧ (px_cx L V M s0 n).2.1.toInt ≤ 1000) ∧ (∀ i, -16000 ≤ (px_og L V M s0 n i).toInt ∧ (px_og L V M s0 n i).toInt ≤ 16000) ∧
  (∀ a, a < 3 → 0 ≤ (px_he L V M s0 n a).toInt ∧ (px_he L V M s0 n a).toInt ≤ (lim a).toInt)
section
variable {L V M lim s0 : Nat → Int32}
theorem ci_W (h : ci_WF L V M lim) (n : Nat) : ∀ i, -3000 ≤ (px_W L V M n i).toInt ∧ (px_W L V M n i).toInt ≤ 3000 := fc_wd h.2.1 _ _
theorem ci_he1 (h : ci_WF L V M lim) {n : Nat} (c : ci_I L V M lim s0 n) : ∀ a, a < 3 → 0 ≤ (px_he L V M s0 n a).toInt ∧ (px_he L V M s0 n a).toInt ≤ 1000 := by
  intro a ha
  have := c.2.2 a ha
  have := h.2.2.2 a ha
  omega
theorem ci_to (h : ci_WF L V M lim) {n : Nat} (c : ci_I L V M lim s0 n) : ∀ a, a < 3 → -33000 ≤ (px_he L V M s0 (n + 1) a).toInt ∧ (px_he L V M s0 (n + 1) a).toInt ≤ 33000 :=
  pf_to (fc_F L V M s0 n) (ci_W h n) c.2.1 (ci_he1 h c)
theorem ci_0 (h : ci_WF L V M lim) (hs : ∀ a, a < 3 → 0 ≤ (s0 a).toInt ∧ (s0 a).toInt ≤ (lim a).toInt) : ci_I L V M lim s0 0 := by
  refine ⟨?_, fun i => ?_, hs⟩
  · show 0 ≤ (0 : Int32).toInt ∧ (0 : Int32).toInt ≤ 1000
    rw [fc_0]; omega
  · show -16000 ≤ (0 : Int32).toInt ∧ (0 : Int32).toInt ≤ 16000
    rw [fc_0]; omega
/-- what a line that is not wrong keeps -/
theorem ci_why {n : Nat} (h : px_why L V M lim s0 n = 0) :
    rd_no L V (8 * n) (px_n M n) = false ∧ rd_tw L V (8 * n) (px_n M n) = false ∧ pl_mi (px_F L V M s0 n) (px_H L M n) (px_S L V M s0 n) = 0 ∧
    (px_tu L V M s0 n = 0 → px_out L V M lim s0 n = false) ∧ (¬ px_tu L V M s0 n = 0 → px_b5 L V M s0 n = false ∧ (px_wr L V M lim s0 n).1 = 0) := by
  unfold px_why at h
  by_cases h1 : rd_no L V (8 * n) (px_n M n) = true
  · rw [if_pos h1] at h; exact absurd h (by decide)
  rw [if_neg h1] at h
  by_cases h2 : rd_tw L V (8 * n) (px_n M n) = true
  · rw [if_pos h2] at h; exact absurd h (by decide)
  rw [if_neg h2] at h
  by_cases h3 : pl_mi (px_F L V M s0 n) (px_H L M n) (px_S L V M s0 n) = 0
  · rw [if_neg (fun z => z h3)] at h
    refine ⟨by simpa using h1, by simpa using h2, h3, fun t => ?_, fun t => ?_⟩
    · rw [if_pos t] at h
      cases e : px_out L V M lim s0 n
      · rfl
      · rw [e, if_pos rfl] at h; exact absurd h (by decide)
    · rw [if_neg t] at h
      cases e : px_b5 L V M s0 n
      · rw [e, if_neg (by decide)] at h; exact ⟨rfl, h⟩
      · rw [e, if_pos rfl] at h; exact absurd h (by decide)
  · rw [if_pos h3] at h; exact absurd h h3
theorem ci_b5 {n : Nat} (h : px_b5 L V M s0 n = false) : px_H L M n (2 + pl_ft (px_F L V M s0 n)) = false ∧ 0 < px_far L V M s0 n ∧ px_far L V M s0 n ≤ 90000 ∧ px_x L V M s0 n * px_x L V M s0 n + px_y L V M s0 n * px_y L V M s0 n = px_far L V M s0 n := by
  have h' := of_decide_eq_false h
  have f0 : ¬ px_far L V M s0 n = 0 := fun z => h' (Or.inr (Or.inl z))
  have f1 : ¬ 90000 < px_far L V M s0 n := fun z => h' (Or.inr (Or.inr (Or.inl z)))
  have f2 : 0 ≤ px_far L V M s0 n := by
    have a1 := wk_sqb (u := px_p L V M s0 n) (B := (px_p L V M s0 n).natAbs) (by omega)
    have a2 := wk_sqb (u := px_q L V M s0 n) (B := (px_q L V M s0 n).natAbs) (by omega)
    unfold px_far
    omega
  refine ⟨?_, by omega, by omega, Decidable.byContradiction (fun z => h' (Or.inr (Or.inr (Or.inr z))))⟩
  cases e : px_H L M n (2 + pl_ft (px_F L V M s0 n))
  · rfl
  · exact absurd (Or.inl (Or.inr (Or.inl e))) h'
theorem ci_in (h : ci_WF L V M lim) {n : Nat} (c : ci_I L V M lim s0 n) (w : px_why L V M lim s0 n = 0) : ∀ a, a < 3 → 0 ≤ (px_he L V M s0 (n + 1) a).toInt ∧ (px_he L V M s0 (n + 1) a).toInt ≤ (lim a).toInt := by
  obtain ⟨_, _, _, ws, wr⟩ := ci_why w
  by_cases t : px_tu L V M s0 n = 0
  · have o := ws t
    unfold px_out sg_out at o
    rw [Bool.or_eq_false_iff, Bool.or_eq_false_iff] at o
    have k : ∀ a, sg_ou lim (px_he L V M s0 (n + 1)) a = false → 0 ≤ (px_he L V M s0 (n + 1) a).toInt ∧ (px_he L V M s0 (n + 1) a).toInt ≤ (lim a).toInt := by
      intro a e
      have := of_decide_eq_false e
      omega
    exact fun a ha => co_3 (P := fun a => 0 ≤ (px_he L V M s0 (n + 1) a).toInt ∧ (px_he L V M s0 (n + 1) a).toInt ≤ (lim a).toInt) (k 0 o.1.1) (k 1 o.1.2) (k 2 o.2) ha
  · obtain ⟨b, r⟩ := wr t
    obtain ⟨b1, b2, b3, b4⟩ := ci_b5 b
    have hF := fc_F L V M s0 n
    obtain ⟨_, hth, efa, efb⟩ := fv_ft hF
    obtain ⟨k1, k2, k3, k4⟩ := pl_wk0 3000 0 _ _ (px_wr L V M lim s0 n).2 (Prod.ext r rfl : px_wr L V M lim s0 n = (0, (px_wr L V M lim s0 n).2))
    have k5 := k4 _ (by omega) (Nat.le_refl _)
    rw [k3] at k5
    dsimp only at k5
    have ea : px_c L V M s0 n + px_x L V M s0 n = (px_he L V M s0 (n + 1) (pl_fa (px_F L V M s0 n))).toInt := by unfold px_c px_x; omega
    have eb : px_d L V M s0 n + px_y L V M s0 n = (px_he L V M s0 (n + 1) (pl_fb (px_F L V M s0 n))).toInt := by unfold px_d px_y; omega
    rw [ea, eb] at k5
    refine sg_all (P := fun a => 0 ≤ (px_he L V M s0 (n + 1) a).toInt ∧ (px_he L V M s0 (n + 1) a).toInt ≤ (lim a).toInt) hth ?_ ?_ ?_
    · rw [efa]; exact ⟨k5.1, k5.2.1⟩
    · rw [efb]; exact ⟨k5.2.2.1, k5.2.2.2⟩
    · have e3 : px_he L V M s0 (n + 1) (pl_ft (px_F L V M s0 n)) = px_he L V M s0 n (pl_ft (px_F L V M s0 n)) := if_pos b1
      show 0 ≤ (px_he L V M s0 (n + 1) (pl_ft (px_F L V M s0 n))).toInt ∧ _
      rw [e3]; exact c.2.2 _ hth
theorem ci_s (h : ci_WF L V M lim) {n : Nat} (c : ci_I L V M lim s0 n) (w : px_why L V M lim s0 n = 0) : ci_I L V M lim s0 (n + 1) := by
  have hF := fc_F L V M s0 n
  refine ⟨fc_sp c.1 _ _ (ci_why w).1, ?_, ci_in h c w⟩
  have hh := ci_he1 h c
  exact pf_o1 hF (ci_W h n) (pf_o1 hF (ci_W h n) (pf_o1 hF (ci_W h n) c.2.1 (hh 0 (by decide))) (hh 1 (by decide))) (hh 2 (by decide))
theorem ci_n (h : ci_WF L V M lim) (hs : ∀ a, a < 3 → 0 ≤ (s0 a).toInt ∧ (s0 a).toInt ≤ (lim a).toInt) : ∀ n, (∀ m, m < n → px_why L V M lim s0 m = 0) → ci_I L V M lim s0 n := by
  intro n
  induction n with
  | zero => intro _; exact ci_0 h hs
  | succ n ih => intro hw; exact ci_s h (ih (fun m hm => hw m (by omega))) (hw n (by omega))
/-- the result of laying out l lines: N laid, answer r -/
def ci_R (L V M lim s0 : Nat → Int32) (l N : Nat) (r : Int32) : Prop :=
  N ≤ l ∧ (∀ m, m < N → px_why L V M lim s0 m = 0) ∧ (∀ m, m + 1 < N → ¬ px_en L V M m = 2) ∧
  ((r = 0 ∧ (N = l ∨ ∃ m, N = m + 1 ∧ px_en L V M m = 2)) ∨ (N < l ∧ ¬ px_why L V M lim s0 N = 0 ∧ (∀ m, N = m + 1 → ¬ px_en L V M m = 2) ∧ r = 10 * nI N + px_why L V M lim s0 N))
theorem ci_why6 {n : Nat} (h : ¬ px_why L V M lim s0 n = 0) : 1 ≤ (px_why L V M lim s0 n).toInt ∧ (px_why L V M lim s0 n).toInt ≤ 6 := by
  have wk : ∀ (on : Bool) (far c d l m x y : Int) (f k : Nat) (u v : Int), (pl_wk on far c d l m x y f k u v).1 = 0 ∨ (pl_wk on far c d l m x y f k u v).1 = 6 := by
    intro on far c d l m x y f
    induction f with
    | zero => intro k u v; exact Or.inr rfl
    | succ f ih =>
      intro k u v
      rw [pl_wk]
      split
      · exact Or.inr rfl
      · split
        · exact Or.inl rfl
        · exact ih _ _ _
  unfold px_why at h ⊢
  split
  · decide
  · rename_i c1
    rw [if_neg c1] at h
    split
    · decide
    · rename_i c2
      rw [if_neg c2] at h
      split
      · rename_i c3
        unfold pl_mi at c3 ⊢
        split
        · decide
        · rename_i d1
          rw [if_neg d1] at c3
          split
          · decide
          · rename_i d2
            rw [if_neg d2] at c3
            split
            · decide
            · rename_i d3
              rw [if_neg d3] at c3
              split
              · decide
              · rename_i d4
                rw [if_neg d4] at c3
                split
                · decide
                · rename_i d5
                  rw [if_neg d5] at c3
                  exact absurd rfl c3
      · rename_i c3
        rw [if_neg c3] at h
        split
        · rename_i c4
          rw [if_pos c4] at h
          split
          · decide
          · rename_i c5
            rw [if_neg c5] at h
            exact absurd rfl h
        · rename_i c4
          rw [if_neg c4] at h
          split
          · decide
          · rename_i c5
            rw [if_neg c5] at h
            rcases wk (px_on L V M s0 n) (px_far L V M s0 n) (px_c L V M s0 n) (px_d L V M s0 n) (lim (pl_fa (px_F L V M s0 n))).toInt (lim (pl_fb (px_F L V M s0 n))).toInt (px_x L V M s0 n) (px_y L V M s0 n) 3000 0 (-px_p L V M s0 n) (-px_q L V M s0 n) with z | z
            · exact absurd z h
            · have z' : (px_wr L V M lim s0 n).1 = 6 := z
              rw [z']; decide
theorem ci_R10 {n : Nat} (hn : n < 30) (h : ¬ px_why L V M lim s0 n = 0) : ¬ 10 * nI n + px_why L V M lim s0 n = 0 := by
  have k6 : ∀ r : Int32, 1 ≤ r.toInt ∧ r.toInt ≤ 6 → ¬ 10 * nI n + r = 0 := by
    intro r hr z
    have e : 10 * nI n + r = ii_I (10 * (n : Int) + r.toInt) := by rw [← ii_add, ← ii_mul, ii_t, ← ii_n]; rfl
    rw [e] at z
    have := (ii_eq (b := 0) (by unfold ii_R; omega) (by unfold ii_R; omega)).mp z
    omega
  exact k6 _ (ci_why6 h)
theorem ci_Ru {l N N' : Nat} {r r' : Int32} (h : ci_R L V M lim s0 l N r) (h' : ci_R L V M lim s0 l N' r') : N = N' ∧ r = r' := by
  have key : ∀ (A B : Nat) (x y : Int32), ci_R L V M lim s0 l A x → ci_R L V M lim s0 l B y → ¬ A < B := by
    intro A B x y ha hb lt
    obtain ⟨a1, a2, a3, a4⟩ := ha
    obtain ⟨b1, b2, b3, b4⟩ := hb
    rcases a4 with ⟨_, e | ⟨m, e1, e2⟩⟩ | ⟨_, e, _, _⟩
    · omega
    · exact b3 m (by omega) e2
    · exact e (b2 A lt)
  have e : N = N' := by
    have := key N N' r r' h h'
    have := key N' N r' r h' h
    omega
  subst e
  refine ⟨rfl, ?_⟩
  obtain ⟨a1, a2, a3, a4⟩ := h
  obtain ⟨b1, b2, b3, b4⟩ := h'
  rcases a4 with ⟨r1, e | ⟨m, e1, e2⟩⟩ | ⟨l1, e, f, r1⟩
  · rcases b4 with ⟨r2, _⟩ | ⟨l2, _, _, _⟩
    · rw [r1, r2]
    · omega
  · rcases b4 with ⟨r2, _⟩ | ⟨_, _, f, _⟩
    · rw [r1, r2]
    · exact absurd e2 (f m e1)
  · rcases b4 with ⟨_, z | ⟨m, e1, e2⟩⟩ | ⟨_, _, _, r2⟩
    · omega
    · exact absurd e2 (f m e1)
    · rw [r1, r2]
end
end PIC
