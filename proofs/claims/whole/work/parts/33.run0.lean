section RN0
theorem jv_rng {bend : Int32} {P Q : Nat → Int} {p1 p2 : Int32} (hP : ∀ a, a < 3 → -2000 ≤ P a ∧ P a ≤ 2000) (hQ : ∀ a, a < 3 → -2000 ≤ Q a ∧ Q a ≤ 2000) (hb : 0 ≤ bend.toInt ∧ bend.toInt ≤ 2000)
    (h1 : ∃ k, k ≤ 2000 ∧ p1 = nI k) (h2 : ∃ k, k ≤ 2000 ∧ p2 = nI k) : ∃ k, k ≤ 2000 ∧ jv_ bend P Q p1 p2 = nI k := by
  have hz : ∃ k, k ≤ 2000 ∧ (if p2 ≤ p1 then p2 else p1) = nI k := by
    split
    · exact h2
    · exact h1
  unfold jv_
  generalize (if p2 ≤ p1 then p2 else p1) = z at hz
  obtain ⟨kz, kz1, kz2⟩ := hz
  split
  · rename_i c0
    split
    · rename_i c1
      split
      · exact ⟨kz, kz1, kz2⟩
      · rename_i c2
        have cb := jv_b hP hQ
        have rb := jv_rb (P := P) (Q := Q)
        obtain ⟨b, hb1, hb2⟩ := nI_of (x := bend) (by rw [fc_lt, fc_0]; omega)
        have hb3 : b ≤ 2000 := by
          have := hb.2
          rw [hb2, nI_toInt hb1] at this
          omega
        obtain ⟨C, hC⟩ : ∃ C : Nat, (C : Int) = jv_c P Q := ⟨(jv_c P Q).toNat, Int.toNat_of_nonneg (by omega)⟩
        have e1 : bend.toInt64 * jl_J (jv_c P Q) = lN (b * C) := by
          rw [hb2, nI_l hb1, ← hC, ← jl_n, lN_mul]
        have e2 : jl_J (jv_r P Q : Int) - jl_J (jv_c P Q) = lN (jv_r P Q - C) := by
          rw [← hC, ← jl_n, ← jl_n, lN_sub (by omega)]
        have m : b * C ≤ 2000 * 12000000 := Nat.mul_le_mul hb3 (by omega)
        rw [e1, e2, pk_lDiv (by omega) (by omega) (by omega)] at c2 ⊢
        have q : b * C / (jv_r P Q - C) ≤ b * C := Nat.div_le_self _ _
        rw [kz2, nI_l (by omega), pk_lLE (by omega) (by omega)] at c2
        exact ⟨b * C / (jv_r P Q - C), by omega, lN_i _⟩
    · exact ⟨kz, kz1, kz2⟩
  · exact ⟨0, by omega, rfl⟩
theorem sg_mx0 {he to : Nat → Int32} (h : ∀ a, a < 3 → to a = he a) : sg_mx he to = 0 := by
  unfold sg_mx sg_dd
  rw [h 0 (by decide), h 1 (by decide), h 2 (by decide)]
  simp
section
variable {L V M lim s0 : Nat → Int32} {fs : Int32}
theorem rn_st (wf : ci_WF L V M lim) {n : Nat} (c : ci_I L V M lim s0 n) (w : px_why L V M lim s0 n = 0) : px_st L V M lim s0 n ≤ 3000 ∧ (¬ px_tu L V M s0 n = 0 → 0 < px_st L V M lim s0 n) := by
  have c1 := ci_s wf c w
  unfold px_st
  by_cases t : px_tu L V M s0 n = 0
  · rw [if_pos t]
    refine ⟨?_, fun z => absurd t z⟩
    have k : ∀ a, a < 3 → sg_dd (px_he L V M s0 n) (px_he L V M s0 (n + 1)) a ≤ 1000 := by
      intro a ha
      have := ci_he1 wf c a ha
      have := ci_he1 wf c1 a ha
      unfold sg_dd
      omega
    have k0 := k 0 (by decide)
    have k1 := k 1 (by decide)
    have k2 := k 2 (by decide)
    unfold px_mx sg_mx
    omega
  · rw [if_neg t]
    obtain ⟨b, r⟩ := (ci_why w).2.2.2.2 t
    obtain ⟨k1, k2, _, _⟩ := pl_wk0 3000 0 _ _ (px_wr L V M lim s0 n).2 (Prod.ext r rfl : px_wr L V M lim s0 n = (0, (px_wr L V M lim s0 n).2))
    exact ⟨by omega, fun _ => k1⟩
/-- a line that does not move and is not HOME stays -/
theorem rn_stay {n : Nat} (w : px_why L V M lim s0 n = 0) (hm : pl_mv (px_F L V M s0 n) (px_H L M n) = false) (h28 : ¬ px_F L V M s0 n 5 = 28) : px_st L V M lim s0 n = 0 := by
  have hF := fc_F L V M s0 n
  have t : px_tu L V M s0 n = 0 := by
    unfold px_tu pl_tu
    rw [if_neg (fun z => by rw [hm] at z; exact absurd z.1 (by decide))]
  unfold px_st
  rw [if_pos t]
  refine sg_mx0 (fun a ha => ?_)
  show pl_to (px_F L V M s0 n) (px_H L M n) (px_W L V M n) (px_og L V M s0 n) (px_he L V M s0 n) a = _
  unfold pl_to
  cases e : px_H L M n (2 + a)
  · rw [if_pos rfl]
  · rw [if_neg (by decide)]
    have na : pl_na (px_H L M n) = true := by
      unfold pl_na
      match a, ha with
      | 0, _ => rw [show px_H L M n 2 = true from e]; rfl
      | 1, _ => rw [show px_H L M n 3 = true from e]; simp
      | 2, _ => rw [show px_H L M n 4 = true from e]; simp
    have mi := (ci_why w).2.2.1
    obtain ⟨_, _, q3, _⟩ := mi_3 (post := fun r => r = 0) mi
    have n4 : ¬ px_F L V M s0 n 5 = 4 := fun z => absurd (q3 (Or.inl ⟨na, z⟩)) (by decide)
    have nm := of_decide_eq_false hm
    rcases fv_5 hF with z | z | z | z | z
    · exact absurd ⟨Or.inl (by rw [z]; decide), Or.inl na⟩ nm
    · exact absurd z n4
    · exact absurd z h28
    · exact absurd ⟨Or.inr z, Or.inl na⟩ nm
    · rw [if_pos z]
theorem rn_dw {n : Nat} (w : px_why L V M lim s0 n = 0) (h : 0 < px_dw L V M s0 n) : px_st L V M lim s0 n = 0 := by
  have hF := fc_F L V M s0 n
  have e4 : px_F L V M s0 n 5 = 4 := by
    refine Decidable.byContradiction (fun z => ?_)
    unfold px_dw pl_dw at h
    rw [if_neg z] at h
    exact absurd h (by decide)
  refine rn_stay w (decide_eq_false ?_) (by rw [e4]; decide)
  rw [e4]
  rintro ⟨z | z, _⟩
  · exact absurd z (by decide)
  · exact absurd z (by decide)
theorem rn_mo {n : Nat} (w : px_why L V M lim s0 n = 0) (h : 0 < px_st L V M lim s0 n) :
    (px_tu L V M s0 n = 0 ∧ ¬ 2 ≤ (if px_F L V M s0 n 5 = 28 then 0 else px_F L V M s0 n 0)) ∨ (¬ px_tu L V M s0 n = 0 ∧ (if px_F L V M s0 n 5 = 28 then 0 else px_F L V M s0 n 0) = px_tu L V M s0 n ∧ (px_tu L V M s0 n = 2 ∨ px_tu L V M s0 n = 3)) := by
  have hF := fc_F L V M s0 n
  by_cases m : pl_mv (px_F L V M s0 n) (px_H L M n) = true ∧ 1 < px_F L V M s0 n 0
  · refine Or.inr ?_
    have t : px_tu L V M s0 n = px_F L V M s0 n 0 := if_pos m
    have n28 : ¬ px_F L V M s0 n 5 = 28 := by
      intro z
      have := (of_decide_eq_true m.1).1
      rw [z] at this
      exact absurd this (by decide)
    rw [if_neg n28, t]
    have g := m.2
    rcases fv_0 hF with z | z | z | z <;> rw [z] at g ⊢
    · exact absurd g (by decide)
    · exact absurd g (by decide)
    · exact ⟨by decide, rfl, Or.inl rfl⟩
    · exact ⟨by decide, rfl, Or.inr rfl⟩
  · have t : px_tu L V M s0 n = 0 := if_neg m
    refine Or.inl ⟨t, fun z => ?_⟩
    by_cases n28 : px_F L V M s0 n 5 = 28
    · rw [if_pos n28] at z; exact absurd z (by decide)
    · rw [if_neg n28] at z
      have g : 1 < px_F L V M s0 n 0 := by
        rcases fv_0 hF with y | y | y | y <;> rw [y] at z ⊢ <;> first | decide | exact absurd z (by decide)
      have mv : pl_mv (px_F L V M s0 n) (px_H L M n) = false := by
        cases e : pl_mv (px_F L V M s0 n) (px_H L M n)
        · rfl
        · exact absurd ⟨e, g⟩ m
      have := rn_stay w mv n28
      omega
theorem rn_cd (wf : ci_WF L V M lim) {n : Nat} (c : ci_I L V M lim s0 n) (w : px_why L V M lim s0 n = 0) (t : ¬ px_tu L V M s0 n = 0) : (-300 ≤ px_c L V M s0 n ∧ px_c L V M s0 n ≤ 1300) ∧ (-300 ≤ px_d L V M s0 n ∧ px_d L V M s0 n ≤ 1300) ∧
    (-300 ≤ px_p L V M s0 n ∧ px_p L V M s0 n ≤ 300) ∧ (-300 ≤ px_q L V M s0 n ∧ px_q L V M s0 n ≤ 300) := by
  obtain ⟨b, r⟩ := (ci_why w).2.2.2.2 t
  obtain ⟨b1, b2, b3, b4⟩ := ci_b5 b
  have hF := fc_F L V M s0 n
  obtain ⟨ta, tb, _, _⟩ := fv_tr hF
  have ha := ci_he1 wf c _ ta
  have hb := ci_he1 wf c _ tb
  have q1 := wk_sqb (u := px_p L V M s0 n) (B := (px_p L V M s0 n).natAbs) (by omega)
  have q2 := wk_sqb (u := px_q L V M s0 n) (B := (px_q L V M s0 n).natAbs) (by omega)
  unfold px_far at b3
  have p3 : -300 ≤ px_p L V M s0 n ∧ px_p L V M s0 n ≤ 300 := by
    have a1 := wk_sl (x := px_p L V M s0 n) (y := 301) (by omega) (by omega)
    have a2 := wk_sl (x := -px_p L V M s0 n) (y := 301) (by omega) (by rw [Int.neg_mul_neg]; omega)
    omega
  have q3 : -300 ≤ px_q L V M s0 n ∧ px_q L V M s0 n ≤ 300 := by
    have a1 := wk_sl (x := px_q L V M s0 n) (y := 301) (by omega) (by omega)
    have a2 := wk_sl (x := -px_q L V M s0 n) (y := 301) (by omega) (by rw [Int.neg_mul_neg]; omega)
    omega
  unfold px_c px_d
  omega
theorem rn_pc (wf : ci_WF L V M lim) {n : Nat} (c : ci_I L V M lim s0 n) (w : px_why L V M lim s0 n = 0) (hf : 1 ≤ fs.toInt ∧ fs.toInt ≤ 2000) : ∃ k, k ≤ 2000 ∧ px_pc L V M fs s0 n = nI k := by
  have cs := (ci_s wf c w).1
  have cs' : 0 ≤ (px_S L V M s0 n).toInt ∧ (px_S L V M s0 n).toInt ≤ 1000 := cs
  have key : ∀ x : Int32, 0 ≤ x.toInt ∧ x.toInt ≤ 2000 → ∃ k, k ≤ 2000 ∧ x = nI k := by
    intro x hx
    obtain ⟨k, h1, h2⟩ := nI_of (x := x) (by rw [fc_lt, fc_0]; omega)
    refine ⟨k, ?_, h2⟩
    have := hx.2
    rw [h2, nI_toInt h1] at this
    omega
  unfold px_pc pl_pc
  split
  · exact key _ (by omega)
  · exact key _ (by omega)
theorem rn_en (n : Nat) : px_en L V M n = 0 ∨ px_en L V M n = 1 ∨ px_en L V M n = 2 := by
  unfold px_en pl_en
  split
  · exact Or.inl rfl
  · split
    · exact Or.inr (Or.inl rfl)
    · exact Or.inr (Or.inr rfl)
end
/-! the blocks of a program that is laid out: N lines -/
section
variable (L V M lim s0 : Nat → Int32) (fs : Int32)
def rn_d (n : Nat) : Bool := decide (0 < px_dw L V M s0 n)
def rn_x (N n : Nat) : Option Nat := nj_o N (px_st L V M lim s0) (rn_d L V M s0) (px_en L V M) 30 n
def rn_D (n : Nat) (e : Bool) : Nat → Int := jd_ (px_tu L V M s0 n) (pl_fa (px_F L V M s0 n)) (pl_fb (px_F L V M s0 n)) (px_he L V M s0 n) (px_he L V M s0 (n + 1)) (px_c L V M s0 n) (px_d L V M s0 n) e
def rn_P (bend : Int32) (n m : Nat) : Int32 := jv_ bend (rn_D L V M s0 n true) (rn_D L V M s0 m false) (px_pc L V M fs s0 n) (px_pc L V M fs s0 m)
def rn_j (bend : Int32) (N n : Nat) : Nat := match rn_x L V M lim s0 N n with | none => 0 | some m => (rn_P L V M s0 fs bend n m).toNatClampNeg
end
/-- all that is laid out, and its bounds -/
def rn_K (L V M lim s0 : Nat → Int32) (fs bend : Int32) (N : Nat) : Prop :=
  ci_WF L V M lim ∧ (∀ a, a < 3 → 0 ≤ (s0 a).toInt ∧ (s0 a).toInt ≤ (lim a).toInt) ∧ (1 ≤ fs.toInt ∧ fs.toInt ≤ 2000) ∧ (0 ≤ bend.toInt ∧ bend.toInt ≤ 2000) ∧ N ≤ 30 ∧
  (∀ m, m < N → px_why L V M lim s0 m = 0) ∧ (∀ m, m + 1 < N → ¬ px_en L V M m = 2)
section
variable {L V M lim s0 : Nat → Int32} {fs bend : Int32} {N : Nat}
theorem rk_ci (K : rn_K L V M lim s0 fs bend N) {n : Nat} (hn : n ≤ N) : ci_I L V M lim s0 n := ci_n K.1 K.2.1 n (fun m hm => K.2.2.2.2.2.1 m (by omega))
theorem rk_w (K : rn_K L V M lim s0 fs bend N) {n : Nat} (hn : n < N) : px_why L V M lim s0 n = 0 := K.2.2.2.2.2.1 n hn
theorem rk_D (K : rn_K L V M lim s0 fs bend N) {n : Nat} (hn : n < N) (e : Bool) : ∀ a, a < 3 → -2000 ≤ rn_D L V M s0 n e a ∧ rn_D L V M s0 n e a ≤ 2000 := by
  have hF := fc_F L V M s0 n
  obtain ⟨ta, tb, _, _⟩ := fv_tr hF
  exact jd_b ta tb (ci_he1 K.1 (rk_ci K (by omega))) (ci_he1 K.1 (rk_ci K (n := n + 1) (by omega))) (fun t => (rn_cd K.1 (rk_ci K (by omega)) (rk_w K hn) t).1) (fun t => (rn_cd K.1 (rk_ci K (by omega)) (rk_w K hn) t).2.1)
theorem rk_P (K : rn_K L V M lim s0 fs bend N) {n m : Nat} (hn : n < N) (hm : m < N) : ∃ k, k ≤ 2000 ∧ rn_P L V M s0 fs bend n m = nI k :=
  jv_rng (rk_D K hn true) (rk_D K hm false) K.2.2.2.1 (rn_pc K.1 (rk_ci K (by omega)) (rk_w K hn) K.2.2.1) (rn_pc K.1 (rk_ci K (by omega)) (rk_w K hm) K.2.2.1)
theorem rk_x (n m : Nat) (h : rn_x L V M lim s0 N n = some m) : n < m ∧ m < N ∧ 0 < px_st L V M lim s0 m := nj_lt 30 n m h
theorem rk_j (K : rn_K L V M lim s0 fs bend N) {n : Nat} (hn : n < N) : rn_j L V M lim s0 fs bend N n ≤ 2000 ∧ (∀ m, rn_x L V M lim s0 N n = some m → rn_P L V M s0 fs bend n m = nI (rn_j L V M lim s0 fs bend N n)) := by
  unfold rn_j
  cases e : rn_x L V M lim s0 N n with
  | none => exact ⟨by simp, fun m h => by simp at h⟩
  | some m =>
    obtain ⟨k, k1, k2⟩ := rk_P K hn (rk_x n m e).2.1
    refine ⟨?_, fun m' h => ?_⟩
    · show (rn_P L V M s0 fs bend n m).toNatClampNeg ≤ 2000
      rw [k2, nI_clamp (by omega)]; exact k1
    · obtain rfl : m = m' := Option.some.inj h
      show _ = nI (rn_P L V M s0 fs bend n m).toNatClampNeg
      rw [k2, nI_clamp (by omega)]
theorem rk_e (K : rn_K L V M lim s0 fs bend N) : ∀ m, m < N → px_en L V M m = 0 ∨ px_en L V M m = 1 ∨ (px_en L V M m = 2 ∧ m + 1 = N) := by
  intro m hm
  rcases rn_en (L := L) (V := V) (M := M) m with z | z | z
  · exact Or.inl z
  · exact Or.inr (Or.inl z)
  · refine Or.inr (Or.inr ⟨z, ?_⟩)
    have := K.2.2.2.2.2.2 m
    by_cases c : m + 1 < N
    · exact absurd z (this c)
    · omega
theorem rk_dx (K : rn_K L V M lim s0 fs bend N) : ∀ m, m < N → rn_d L V M s0 m = true → px_st L V M lim s0 m = 0 := fun m hm h => rn_dw (rk_w K hm) (of_decide_eq_true h)
theorem rk_s (K : rn_K L V M lim s0 fs bend N) {n : Nat} (hn : n < N) : px_st L V M lim s0 n ≤ 3000 := (rn_st K.1 (rk_ci K (by omega)) (rk_w K hn)).1
end
end RN0
