section SPD
/-! The greatest pace that an end allows; several ends one behind another. -/
def sp_i (g w x : Nat) : Nat := (x - w - 1) / g
def sp_br (g w x : Nat) : Nat := x + (sp_i g w x * x - g * (sp_i g w x * (sp_i g w x + 1) / 2))
def sp_fit (g r w x : Nat) : Prop := x ≤ w ∨ sp_br g w x ≤ r
def sp_gr (P : Nat → Prop) [DecidablePred P] : Nat → Nat
  | 0 => 0
  | k + 1 => if P (k + 1) then k + 1 else sp_gr P k
theorem sp_tri (i : Nat) : (i + 1) * (i + 1 + 1) / 2 = i * (i + 1) / 2 + (i + 1) := by
  have h : (i + 1) * (i + 1 + 1) = i * (i + 1) + (i + 1) * 2 := by grind
  rw [h, Nat.add_mul_div_right _ _ (by decide)]
theorem sp_tri2 (i : Nat) : i * (i + 1) / 2 ≤ i * i := by
  cases i with
  | zero => decide
  | succ i =>
    have h : (i + 1) * (i + 1 + 1) ≤ (i + 1) * (i + 1) * 2 := by
      rw [Nat.mul_assoc]
      exact Nat.mul_le_mul_left _ (by omega)
    omega
theorem sp_sub {g w x : Nat} (hx : w < x) : g * (sp_i g w x * (sp_i g w x + 1) / 2) ≤ sp_i g w x * x := by
  have h1 := sp_tri2 (sp_i g w x)
  have h2 : sp_i g w x * g ≤ x := by
    have := Nat.div_mul_le_self (x - w - 1) g
    unfold sp_i
    omega
  calc g * (sp_i g w x * (sp_i g w x + 1) / 2) ≤ g * (sp_i g w x * sp_i g w x) := Nat.mul_le_mul_left _ h1
    _ = sp_i g w x * (sp_i g w x * g) := by grind
    _ ≤ sp_i g w x * x := Nat.mul_le_mul_left _ h2
theorem sp_step {g w x : Nat} (hg : 0 < g) (hx : w < x) : sp_br g w x ≤ sp_br g w (x + 1) := by
  have s0 := sp_sub (g := g) hx
  have s1 := sp_sub (g := g) (show w < x + 1 by omega)
  have e1 : x + 1 - w - 1 = (x - w - 1) + 1 := by omega
  have hc : sp_i g w (x + 1) = sp_i g w x ∨ (sp_i g w (x + 1) = sp_i g w x + 1 ∧ g * (sp_i g w x + 1) ≤ x + 1) := by
    unfold sp_i
    rw [e1, Nat.succ_div]
    by_cases hd : g ∣ (x - w - 1) + 1
    · rw [if_pos hd]
      refine Or.inr ⟨rfl, ?_⟩
      have h2 : (x - w - 1) / g + 1 = ((x - w - 1) + 1) / g := by rw [Nat.succ_div, if_pos hd]
      rw [h2, Nat.mul_comm]
      have := Nat.div_mul_le_self ((x - w - 1) + 1) g
      omega
    · rw [if_neg hd]
      exact Or.inl rfl
  unfold sp_br
  rcases hc with hc | ⟨hc, hb⟩
  · rw [hc] at s1 ⊢
    generalize hA : g * (sp_i g w x * (sp_i g w x + 1) / 2) = A at *
    have : sp_i g w x * (x + 1) = sp_i g w x * x + sp_i g w x := by grind
    omega
  · rw [hc] at s1 ⊢
    rw [sp_tri] at s1 ⊢
    have e2 : g * (sp_i g w x * (sp_i g w x + 1) / 2 + (sp_i g w x + 1)) = g * (sp_i g w x * (sp_i g w x + 1) / 2) + g * (sp_i g w x + 1) := Nat.mul_add _ _ _
    have e3 : (sp_i g w x + 1) * (x + 1) = sp_i g w x * x + sp_i g w x + (x + 1) := by grind
    rw [e2, e3] at s1 ⊢
    generalize g * (sp_i g w x * (sp_i g w x + 1) / 2) = A at *
    generalize g * (sp_i g w x + 1) = B at *
    generalize sp_i g w x * x = C at *
    omega
theorem sp_mono {g w : Nat} (hg : 0 < g) : ∀ (d x : Nat), w < x → sp_br g w x ≤ sp_br g w (x + d) := by
  intro d
  induction d with
  | zero => intro x _; exact Nat.le_refl _
  | succ d ih => intro x hx; exact Nat.le_trans (ih x hx) (sp_step hg (by omega))
theorem sp_down {g r w x y : Nat} (hg : 0 < g) (h : x ≤ y) (hy : sp_fit g r w y) : sp_fit g r w x := by
  by_cases c : x ≤ w
  · exact Or.inl c
  · rcases hy with hy | hy
    · exact absurd (Nat.le_trans h hy) c
    · obtain ⟨d, rfl⟩ := Nat.le.dest h
      exact Or.inr (Nat.le_trans (sp_mono hg d x (by omega)) hy)
theorem sp_grle (P : Nat → Prop) [DecidablePred P] : ∀ k, sp_gr P k ≤ k := by
  intro k
  induction k with
  | zero => exact Nat.le_refl 0
  | succ k ih =>
    unfold sp_gr
    split
    · exact Nat.le_refl _
    · omega
theorem sp_grP (P : Nat → Prop) [DecidablePred P] (h0 : P 0) : ∀ k, P (sp_gr P k) := by
  intro k
  induction k with
  | zero => exact h0
  | succ k ih =>
    unfold sp_gr
    split
    · assumption
    · exact ih
theorem sp_grc (P Q : Nat → Prop) [DecidablePred P] [DecidablePred Q] (h : ∀ k, P k ↔ Q k) : ∀ k, sp_gr P k = sp_gr Q k := by
  intro k
  induction k with
  | zero => rfl
  | succ k ih =>
    unfold sp_gr
    by_cases c : P (k + 1)
    · rw [if_pos c, if_pos ((h _).mp c)]
    · rw [if_neg c, if_neg (fun q => c ((h _).mpr q)), ih]
/-- two bounds, one behind the other -/
theorem sp_gr2 (P Q : Nat → Prop) [DecidablePred P] [DecidablePred Q] [DecidablePred fun k => P k ∧ Q k] (hd : ∀ x y, x ≤ y → P y → P x) :
    ∀ k, sp_gr (fun k => P k ∧ Q k) k = sp_gr Q (sp_gr P k) := by
  intro k
  induction k with
  | zero => rfl
  | succ k ih =>
    by_cases c : P (k + 1)
    · have e : sp_gr P (k + 1) = k + 1 := if_pos c
      rw [e]
      have all : ∀ j, j ≤ k + 1 → sp_gr (fun k => P k ∧ Q k) j = sp_gr Q j := by
        intro j
        induction j with
        | zero => intro _; rfl
        | succ j ihj =>
          intro hj
          have cj : P (j + 1) := hd _ _ hj c
          by_cases q : Q (j + 1)
          · have e1 : sp_gr (fun k => P k ∧ Q k) (j + 1) = j + 1 := if_pos ⟨cj, q⟩
            have e2 : sp_gr Q (j + 1) = j + 1 := if_pos q
            rw [e1, e2]
          · have e1 : sp_gr (fun k => P k ∧ Q k) (j + 1) = sp_gr (fun k => P k ∧ Q k) j := if_neg (fun h => q h.2)
            have e2 : sp_gr Q (j + 1) = sp_gr Q j := if_neg q
            rw [e1, e2]
            exact ihj (by omega)
      exact all _ (Nat.le_refl _)
    · have e1 : sp_gr (fun k => P k ∧ Q k) (k + 1) = sp_gr (fun k => P k ∧ Q k) k := if_neg (fun h => c h.1)
      have e2 : sp_gr P (k + 1) = sp_gr P k := if_neg c
      rw [e1, e2, ih]
/-- bounds on the numbers reckoned: for the ranges of the machine's ints -/
theorem sp_bnd {g w x : Nat} (hx : x ≤ 2200) (hg : g ≤ 200) (hg0 : 0 < g) :
    sp_i g w x ≤ 2200 ∧ sp_i g w x * x ≤ 4840000 ∧ sp_i g w x * (sp_i g w x + 1) ≤ 4850000 ∧ g * (sp_i g w x * (sp_i g w x + 1) / 2) ≤ 970000000 := by
  have h1 : sp_i g w x ≤ 2200 := Nat.le_trans (Nat.div_le_self _ _) (by omega)
  have h2 : sp_i g w x * x ≤ 2200 * 2200 := Nat.mul_le_mul h1 hx
  have h3 : sp_i g w x * (sp_i g w x + 1) ≤ 2200 * 2201 := Nat.mul_le_mul h1 (by omega)
  refine ⟨h1, by omega, by omega, ?_⟩
  have h4 : g * (sp_i g w x * (sp_i g w x + 1) / 2) ≤ 200 * 2421100 := Nat.mul_le_mul hg (by omega)
  omega
end SPD
