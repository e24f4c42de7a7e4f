section SPD
/-! The greatest pace that an end allows; several ends one behind another. -/
def sp_i (g w x : Nat) : Nat := (x - w - 1) / g
def sp_br (g w x : Nat) : Nat := x + (sp_i g w x * x - g * (sp_i g w x * (sp_i g w x + 1) / 2))
def sp_fit (g r w x : Nat) : Bool := decide (x ≤ w ∨ sp_br g w x ≤ r)
def sp_gr (P : Nat → Bool) : Nat → Nat
  | 0 => 0
  | k + 1 => if P (k + 1) = true then k + 1 else sp_gr P k
theorem sp_tri (i : Nat) : (i + 1) * (i + 1 + 1) / 2 = i * (i + 1) / 2 + (i + 1) := by
  have h : (i + 1) * (i + 1 + 1) = i * (i + 1) + (i + 1) * 2 := by grind
  rw [h, Nat.add_mul_div_right _ _ (by decide)]
theorem sp_tri2 (i : Nat) : i * (i + 1) / 2 ≤ i * i := by
  cases i with
  | zero => decide
  | succ i =>
    have h : (i + 1) * (i + 1 + 1) ≤ (i + 1) * (i + 1) * 2 := by
      rw [Nat.mul_assoc]
      exact Nat.mul_le_mul_left _ (by omega)
    omega
theorem sp_sub {g w x : Nat} (hx : w < x) : g * (sp_i g w x * (sp_i g w x + 1) / 2) ≤ sp_i g w x * x := by
  have h1 := sp_tri2 (sp_i g w x)
  have h2 : sp_i g w x * g ≤ x := by
    have := Nat.div_mul_le_self (x - w - 1) g
    unfold sp_i
    omega
  calc g * (sp_i g w x * (sp_i g w x + 1) / 2) ≤ g * (sp_i g w x * sp_i g w x) := Nat.mul_le_mul_left _ h1
    _ = sp_i g w x * (sp_i g w x * g) := by grind
    _ ≤ sp_i g w x * x := Nat.mul_le_mul_left _ h2
theorem sp_step {g w x : Nat} (hg : 0 < g) (hx : w < x) : sp_br g w x ≤ sp_br g w (x + 1) := by
  have s0 := sp_sub (g := g) hx
  have s1 := sp_sub (g := g) (show w < x + 1 by omega)
  have e1 : x + 1 - w - 1 = (x - w - 1) + 1 := by omega
  have hc : sp_i g w (x + 1) = sp_i g w x ∨ (sp_i g w (x + 1) = sp_i g w x + 1 ∧ g * (sp_i g w x + 1) ≤ x + 1) := by
    unfold sp_i
    rw [e1, Nat.succ_div]
    by_cases hd : g ∣ (x - w - 1) + 1
    · rw [if_pos hd]
      refine Or.inr ⟨rfl, ?_⟩
      have h2 : (x - w - 1) / g + 1 = ((x - w - 1) + 1) / g := by rw [Nat.succ_div, if_pos hd]
      rw [h2, Nat.mul_comm]
      have := Nat.div_mul_le_self ((x - w - 1) + 1) g
      omega
    · rw [if_neg hd]
      exact Or.inl rfl
  unfold sp_br
  rcases hc with hc | ⟨hc, hb⟩
  · rw [hc] at s1 ⊢
    generalize hA : g * (sp_i g w x * (sp_i g w x + 1) / 2) = A at *
    have : sp_i g w x * (x + 1) = sp_i g w x * x + sp_i g w x := by grind
    omega
  · rw [hc] at s1 ⊢
    rw [sp_tri] at s1 ⊢
    have e2 : g * (sp_i g w x * (sp_i g w x + 1) / 2 + (sp_i g w x + 1)) = g * (sp_i g w x * (sp_i g w x + 1) / 2) + g * (sp_i g w x + 1) := Nat.mul_add _ _ _
    have e3 : (sp_i g w x + 1) * (x + 1) = sp_i g w x * x + sp_i g w x + (x + 1) := by grind
    rw [e2, e3] at s1 ⊢
    generalize g * (sp_i g w x * (sp_i g w x + 1) / 2) = A at *
    generalize g * (sp_i g w x + 1) = B at *
    generalize sp_i g w x * x = C at *
    omega
theorem sp_mono {g w : Nat} (hg : 0 < g) : ∀ (d x : Nat), w < x → sp_br g w x ≤ sp_br g w (x + d) := by
  intro d
  induction d with
  | zero => intro x _; exact Nat.le_refl _
  | succ d ih => intro x hx; exact Nat.le_trans (ih x hx) (sp_step hg (by omega))
theorem sp_down {g r w x y : Nat} (hg : 0 < g) (h : x ≤ y) (hy : sp_fit g r w y = true) : sp_fit g r w x = true := by
  unfold sp_fit at hy ⊢
  rw [decide_eq_true_iff] at hy ⊢
  by_cases c : x ≤ w
  · exact Or.inl c
  · rcases hy with hy | hy
    · exact absurd (Nat.le_trans h hy) c
    · obtain ⟨d, rfl⟩ := Nat.le.dest h
      exact Or.inr (Nat.le_trans (sp_mono hg d x (by omega)) hy)
theorem sp_grs {P : Nat → Bool} {k : Nat} (h : P (k + 1) = true) : sp_gr P (k + 1) = k + 1 := if_pos h
theorem sp_grf {P : Nat → Bool} {k : Nat} (h : P (k + 1) = false) : sp_gr P (k + 1) = sp_gr P k := if_neg (by rw [h]; decide)
theorem sp_grle (P : Nat → Bool) : ∀ k, sp_gr P k ≤ k := by
  intro k
  induction k with
  | zero => exact Nat.le_refl 0
  | succ k ih =>
    cases h : P (k + 1)
    · rw [sp_grf h]; omega
    · rw [sp_grs h]; exact Nat.le_refl _
theorem sp_grP (P : Nat → Bool) (h0 : P 0 = true) : ∀ k, P (sp_gr P k) = true := by
  intro k
  induction k with
  | zero => exact h0
  | succ k ih =>
    cases h : P (k + 1)
    · rw [sp_grf h]; exact ih
    · rw [sp_grs h]; exact h
theorem sp_gr1 (P : Nat → Bool) : ∀ k, (∀ j, 1 ≤ j → j ≤ k → P j = true) → sp_gr P k = k := by
  intro k h
  cases k with
  | zero => rfl
  | succ k => exact sp_grs (h _ (by omega) (Nat.le_refl _))
/-- two bounds, one behind the other -/
theorem sp_gr2 (P Q : Nat → Bool) (hd : ∀ x y, x ≤ y → P y = true → P x = true) :
    ∀ k, sp_gr (fun k => P k && Q k) k = sp_gr Q (sp_gr P k) := by
  intro k
  induction k with
  | zero => rfl
  | succ k ih =>
    cases c : P (k + 1)
    · have e1 : sp_gr (fun k => P k && Q k) (k + 1) = sp_gr (fun k => P k && Q k) k := sp_grf (by show (P (k + 1) && Q (k + 1)) = false; rw [c]; rfl)
      rw [e1, sp_grf c, ih]
    · rw [sp_grs c]
      have all : ∀ j, j ≤ k + 1 → sp_gr (fun k => P k && Q k) j = sp_gr Q j := by
        intro j
        induction j with
        | zero => intro _; rfl
        | succ j ihj =>
          intro hj
          have cj : P (j + 1) = true := hd _ _ hj c
          cases q : Q (j + 1)
          · have e1 : sp_gr (fun k => P k && Q k) (j + 1) = sp_gr (fun k => P k && Q k) j := sp_grf (by show (P (j + 1) && Q (j + 1)) = false; rw [q, Bool.and_false])
            rw [e1, sp_grf q]
            exact ihj (by omega)
          · have e1 : sp_gr (fun k => P k && Q k) (j + 1) = j + 1 := sp_grs (by show (P (j + 1) && Q (j + 1)) = true; rw [q, cj]; rfl)
            rw [e1, sp_grs q]
      exact all _ (Nat.le_refl _)
/-! the ends ahead: a of them, from block n on whose end is r away; s: steps, nx: the next block over a joint, jp: its pace -/
def sp_ft (g : Nat) (s jp : Nat → Nat) (nx : Nat → Option Nat) : Nat → Nat → Nat → Nat → Bool
  | 0, _, _, _ => true
  | a + 1, n, r, x => sp_fit g r (if a = 0 then 0 else jp n) x && (match nx n with | none => true | some m => sp_ft g s jp nx a m (r + 1000 * s m) x)
def sp_np (g : Nat) (s jp : Nat → Nat) (nx : Nat → Option Nat) : Nat → Nat → Nat → Nat → Nat
  | 0, _, _, u => u
  | a + 1, n, r, u => match nx n with
    | none => sp_gr (sp_fit g r (if a = 0 then 0 else jp n)) u
    | some m => sp_np g s jp nx a m (r + 1000 * s m) (sp_gr (sp_fit g r (if a = 0 then 0 else jp n)) u)
theorem sp_ftnp {g : Nat} (hg : 0 < g) (s jp : Nat → Nat) (nx : Nat → Option Nat) : ∀ a n r u, sp_gr (sp_ft g s jp nx a n r) u = sp_np g s jp nx a n r u := by
  intro a
  induction a with
  | zero => intro n r u; exact sp_gr1 _ u (fun _ _ _ => rfl)
  | succ a ih =>
    intro n r u
    cases h : nx n with
    | none =>
      have e1 : sp_ft g s jp nx (a + 1) n r = fun x => sp_fit g r (if a = 0 then 0 else jp n) x && true := by
        funext x; simp only [sp_ft, h]
      have e2 : sp_np g s jp nx (a + 1) n r u = sp_gr (sp_fit g r (if a = 0 then 0 else jp n)) u := by simp only [sp_np, h]
      rw [e1, e2]
      congr 1
      funext x
      exact Bool.and_true _
    | some m =>
      have e1 : sp_ft g s jp nx (a + 1) n r = fun x => sp_fit g r (if a = 0 then 0 else jp n) x && sp_ft g s jp nx a m (r + 1000 * s m) x := by
        funext x; simp only [sp_ft, h]
      have e2 : sp_np g s jp nx (a + 1) n r u = sp_np g s jp nx a m (r + 1000 * s m) (sp_gr (sp_fit g r (if a = 0 then 0 else jp n)) u) := by simp only [sp_np, h]
      rw [e1, e2, sp_gr2 _ _ (fun x y hxy hy => sp_down hg hxy hy), ih]
/-- how far the last end is that joints lead to -/
def sp_tot (s : Nat → Nat) (nx : Nat → Option Nat) : Nat → Nat → Nat
  | 0, n => 1000 * s n
  | f + 1, n => 1000 * s n + (match nx n with | none => 0 | some m => sp_tot s nx f m)
theorem sp_fit0 {g r x : Nat} (h : sp_fit g r 0 x = true) : x ≤ r := by
  unfold sp_fit at h
  rw [decide_eq_true_iff] at h
  rcases h with h | h
  · omega
  · unfold sp_br at h; omega
/-- a pace that fits does not lead beyond the last end: base + the way from block n on -/
theorem sp_reach {g : Nat} (s jp : Nat → Nat) (nx : Nat → Option Nat) (hj : ∀ n, nx n = none → jp n = 0) : ∀ a n r x, sp_ft g s jp nx (a + 1) n r x = true →
    ∃ f, x + 1000 * s n ≤ r + sp_tot s nx f n := by
  intro a
  induction a with
  | zero =>
    intro n r x h
    simp only [sp_ft, Bool.and_eq_true, if_true] at h
    have := sp_fit0 h.1
    refine ⟨0, ?_⟩
    simp only [sp_tot]
    omega
  | succ a ih =>
    intro n r x h
    cases c : nx n with
    | none =>
      simp only [sp_ft, c, Bool.and_eq_true, hj n c, ite_self] at h
      have := sp_fit0 h.1
      refine ⟨0, ?_⟩
      simp only [sp_tot]
      omega
    | some m =>
      have h2 : sp_ft g s jp nx (a + 1) m (r + 1000 * s m) x = true := by
        have : (sp_fit g r (if a + 1 = 0 then 0 else jp n) x && sp_ft g s jp nx (a + 1) m (r + 1000 * s m) x) = true := by
          have e := h
          rw [sp_ft, c] at e
          exact e
        exact (Bool.and_eq_true _ _ ▸ this).2
      obtain ⟨f, hf⟩ := ih m (r + 1000 * s m) x h2
      refine ⟨f + 1, ?_⟩
      simp only [sp_tot, c]
      omega
/-- bounds on the numbers reckoned: for the ranges of the machine's ints -/
theorem sp_bnd {g w x : Nat} (hx : x ≤ 2200) (hg : g ≤ 200) (hg0 : 0 < g) :
    sp_i g w x ≤ 2200 ∧ sp_i g w x * x ≤ 4840000 ∧ sp_i g w x * (sp_i g w x + 1) ≤ 4850000 ∧ g * (sp_i g w x * (sp_i g w x + 1) / 2) ≤ 970000000 := by
  have h1 : sp_i g w x ≤ 2200 := Nat.le_trans (Nat.div_le_self _ _) (by omega)
  have h2 : sp_i g w x * x ≤ 2200 * 2200 := Nat.mul_le_mul h1 hx
  have h3 : sp_i g w x * (sp_i g w x + 1) ≤ 2200 * 2201 := Nat.mul_le_mul h1 (by omega)
  refine ⟨h1, by omega, by omega, ?_⟩
  have h4 : g * (sp_i g w x * (sp_i g w x + 1) / 2) ≤ 200 * 2421100 := Nat.mul_le_mul hg (by omega)
  omega
end SPD
