section WLK
/-! The round way on whole numbers: it comes to every point of its circle. -/
def wk_ab (x : Int) : Int := if x < 0 then -x else x
theorem wk_abs (x : Int) : (0 ≤ x ∧ wk_ab x = x) ∨ (x < 0 ∧ wk_ab x = -x) := by
  unfold wk_ab
  by_cases h : x < 0
  · exact Or.inr ⟨h, if_pos h⟩
  · exact Or.inl ⟨by omega, if_neg h⟩
def wk_sg (x : Int) : Int := if x < 0 then -1 else if 0 < x then 1 else 0
theorem wk_sgn {x : Int} (h : x < 0) : wk_sg x = -1 := if_pos h
theorem wk_sgp {x : Int} (h : 0 < x) : wk_sg x = 1 := by
  unfold wk_sg
  rw [if_neg (by omega), if_pos h]
theorem wk_sg0 : wk_sg 0 = 0 := rfl
def wk_of (f u v : Int) : Int := wk_ab (u * u + v * v - f)
def wk_ch (f u v a b : Int) : Int × Int :=
  if a ≠ 0 ∧ wk_of f (u + a) v < wk_of f (u + a) (v + b) then
    (if b ≠ 0 ∧ wk_of f u (v + b) < wk_of f (u + a) v then (u, v + b) else (u + a, v))
  else (if b ≠ 0 ∧ wk_of f u (v + b) < wk_of f (u + a) (v + b) then (u, v + b) else (u + a, v + b))
def wk_nx (on : Bool) (f : Int) (w : Int × Int) : Int × Int :=
  wk_ch f w.1 w.2 (if on then wk_sg (-w.2) else wk_sg w.2) (if on then wk_sg w.1 else wk_sg (-w.1))
theorem wk_ch3 {f u v a b : Int} (ha : a ≠ 0) (hb : b ≠ 0) :
    (wk_ch f u v a b = (u + a, v + b) ∨ wk_ch f u v a b = (u + a, v) ∨ wk_ch f u v a b = (u, v + b)) ∧
    wk_of f (wk_ch f u v a b).1 (wk_ch f u v a b).2 ≤ wk_of f (u + a) (v + b) ∧
    wk_of f (wk_ch f u v a b).1 (wk_ch f u v a b).2 ≤ wk_of f (u + a) v ∧
    wk_of f (wk_ch f u v a b).1 (wk_ch f u v a b).2 ≤ wk_of f u (v + b) := by
  unfold wk_ch
  by_cases h1 : wk_of f (u + a) v < wk_of f (u + a) (v + b)
  · rw [if_pos ⟨ha, h1⟩]
    by_cases h2 : wk_of f u (v + b) < wk_of f (u + a) v
    · rw [if_pos ⟨hb, h2⟩]
      refine ⟨Or.inr (Or.inr rfl), ?_, ?_, ?_⟩
      · show wk_of f u (v + b) ≤ _
        omega
      · show wk_of f u (v + b) ≤ _
        omega
      · exact Int.le_refl _
    · rw [if_neg (fun h => h2 h.2)]
      refine ⟨Or.inr (Or.inl rfl), ?_, ?_, ?_⟩
      · show wk_of f (u + a) v ≤ _
        omega
      · exact Int.le_refl _
      · show wk_of f (u + a) v ≤ _
        omega
  · rw [if_neg (fun h => h1 h.2)]
    by_cases h2 : wk_of f u (v + b) < wk_of f (u + a) (v + b)
    · rw [if_pos ⟨hb, h2⟩]
      refine ⟨Or.inr (Or.inr rfl), ?_, ?_, ?_⟩
      · show wk_of f u (v + b) ≤ _
        omega
      · show wk_of f u (v + b) ≤ _
        omega
      · exact Int.le_refl _
    · rw [if_neg (fun h => h2 h.2)]
      refine ⟨Or.inl rfl, ?_, ?_, ?_⟩
      · exact Int.le_refl _
      · show wk_of f (u + a) (v + b) ≤ _
        omega
      · show wk_of f (u + a) (v + b) ≤ _
        omega
theorem wk_cha {f u v b : Int} : wk_ch f u v 0 b = (u, v + b) := by
  unfold wk_ch
  rw [if_neg (fun h => h.1 rfl), Int.add_zero, if_neg (fun h => by have := h.2; omega)]
theorem wk_chb {f u v a : Int} : wk_ch f u v a 0 = (u + a, v) := by
  unfold wk_ch
  rw [Int.add_zero, if_neg (fun h => by have := h.2; omega), if_neg (fun h => h.1 rfl)]
/-! a quadrant's own coordinates: p falls, q grows -/
def wk_em (on : Bool) (i : Nat) (p q : Int) : Int × Int :=
  if on then (if i = 0 then (p, q) else if i = 1 then (-q, p) else if i = 2 then (-p, -q) else (q, -p))
  else (if i = 0 then (p, -q) else if i = 1 then (-q, -p) else if i = 2 then (-p, q) else (q, p))
def wk_st (f p q p' q' : Int) : Prop :=
  (q = 0 ∧ p' = p ∧ q' = 1) ∨
  (0 < q ∧ ((p' = p - 1 ∧ q' = q + 1) ∨ (p' = p - 1 ∧ q' = q) ∨ (p' = p ∧ q' = q + 1)) ∧
    wk_of f p' q' ≤ wk_of f (p - 1) (q + 1) ∧ wk_of f p' q' ≤ wk_of f (p - 1) q ∧ wk_of f p' q' ≤ wk_of f p (q + 1))
theorem wk_ofs (f x y : Int) : wk_of f y x = wk_of f x y := by unfold wk_of; rw [Int.add_comm]
theorem wk_ofn (f x y : Int) : wk_of f (-x) y = wk_of f x y := by unfold wk_of; rw [Int.neg_mul_neg]
theorem wk_ofm (f x y : Int) : wk_of f x (-y) = wk_of f x y := by unfold wk_of; rw [Int.neg_mul_neg]
/-- one lemma for all eight: the walk's choice at u, v with signs a, b reads back through a map g of p, q -/
theorem wk_rd {f u v a b p q : Int} (g : Int → Int → Int × Int) (hq : 0 < q) (ha : a ≠ 0) (hb : b ≠ 0)
    (hD : (u + a, v + b) = g (p - 1) (q + 1))
    (h2 : ((u + a, v) = g (p - 1) q ∧ (u, v + b) = g p (q + 1)) ∨ ((u + a, v) = g p (q + 1) ∧ (u, v + b) = g (p - 1) q))
    (ho : ∀ x y, wk_of f (g x y).1 (g x y).2 = wk_of f x y) :
    ∃ p' q', wk_ch f u v a b = g p' q' ∧ wk_st f p q p' q' := by
  obtain ⟨hc, m1, m2, m3⟩ := wk_ch3 (f := f) (u := u) (v := v) ha hb
  have eD : wk_of f (u + a) (v + b) = wk_of f (p - 1) (q + 1) := by
    have := ho (p - 1) (q + 1); rw [← hD] at this; exact this
  rcases h2 with ⟨hA, hB⟩ | ⟨hB, hA⟩
  · have eA : wk_of f (u + a) v = wk_of f (p - 1) q := by
      have := ho (p - 1) q; rw [← hA] at this; exact this
    have eB : wk_of f u (v + b) = wk_of f p (q + 1) := by
      have := ho p (q + 1); rw [← hB] at this; exact this
    rw [eD] at m1; rw [eA] at m2; rw [eB] at m3
    rcases hc with hc | hc | hc <;> rw [hc] at m1 m2 m3
    · refine ⟨p - 1, q + 1, hc.trans hD, Or.inr ⟨hq, Or.inl ⟨rfl, rfl⟩, ?_, ?_, ?_⟩⟩ <;> rw [← eD] <;> first | exact Int.le_refl _ | exact m1 | exact m2 | exact m3
    · refine ⟨p - 1, q, hc.trans hA, Or.inr ⟨hq, Or.inr (Or.inl ⟨rfl, rfl⟩), ?_, ?_, ?_⟩⟩ <;> rw [← eA] <;> first | exact Int.le_refl _ | exact m1 | exact m2 | exact m3
    · refine ⟨p, q + 1, hc.trans hB, Or.inr ⟨hq, Or.inr (Or.inr ⟨rfl, rfl⟩), ?_, ?_, ?_⟩⟩ <;> rw [← eB] <;> first | exact Int.le_refl _ | exact m1 | exact m2 | exact m3
  · have eA : wk_of f u (v + b) = wk_of f (p - 1) q := by
      have := ho (p - 1) q; rw [← hA] at this; exact this
    have eB : wk_of f (u + a) v = wk_of f p (q + 1) := by
      have := ho p (q + 1); rw [← hB] at this; exact this
    rw [eD] at m1; rw [eB] at m2; rw [eA] at m3
    rcases hc with hc | hc | hc <;> rw [hc] at m1 m2 m3
    · refine ⟨p - 1, q + 1, hc.trans hD, Or.inr ⟨hq, Or.inl ⟨rfl, rfl⟩, ?_, ?_, ?_⟩⟩ <;> rw [← eD] <;> first | exact Int.le_refl _ | exact m1 | exact m2 | exact m3
    · refine ⟨p, q + 1, hc.trans hB, Or.inr ⟨hq, Or.inr (Or.inr ⟨rfl, rfl⟩), ?_, ?_, ?_⟩⟩ <;> rw [← eB] <;> first | exact Int.le_refl _ | exact m1 | exact m2 | exact m3
    · refine ⟨p - 1, q, hc.trans hA, Or.inr ⟨hq, Or.inr (Or.inl ⟨rfl, rfl⟩), ?_, ?_, ?_⟩⟩ <;> rw [← eA] <;> first | exact Int.le_refl _ | exact m1 | exact m2 | exact m3
theorem wk_ofE_true0 (f x y : Int) : wk_of f (wk_em true 0 x y).1 (wk_em true 0 x y).2 = wk_of f x y := rfl
theorem wk_ofE_true1 (f x y : Int) : wk_of f (wk_em true 1 x y).1 (wk_em true 1 x y).2 = wk_of f x y := (wk_ofn f y x).trans (wk_ofs f x y)
theorem wk_ofE_true2 (f x y : Int) : wk_of f (wk_em true 2 x y).1 (wk_em true 2 x y).2 = wk_of f x y := (wk_ofn f x (-y)).trans (wk_ofm f x y)
theorem wk_ofE_true3 (f x y : Int) : wk_of f (wk_em true 3 x y).1 (wk_em true 3 x y).2 = wk_of f x y := (wk_ofm f y x).trans (wk_ofs f x y)
theorem wk_ofE_false0 (f x y : Int) : wk_of f (wk_em false 0 x y).1 (wk_em false 0 x y).2 = wk_of f x y := wk_ofm f x y
theorem wk_ofE_false1 (f x y : Int) : wk_of f (wk_em false 1 x y).1 (wk_em false 1 x y).2 = wk_of f x y := (wk_ofn f y (-x)).trans ((wk_ofm f y x).trans (wk_ofs f x y))
theorem wk_ofE_false2 (f x y : Int) : wk_of f (wk_em false 2 x y).1 (wk_em false 2 x y).2 = wk_of f x y := wk_ofn f x y
theorem wk_ofE_false3 (f x y : Int) : wk_of f (wk_em false 3 x y).1 (wk_em false 3 x y).2 = wk_of f x y := wk_ofs f x y
theorem wk_pe {a b c d : Int} (h1 : a = c) (h2 : b = d) : (a, b) = (c, d) := by rw [h1, h2]
theorem wk_q_true0 {f p q : Int} (hp : 0 < p) (hq : 0 ≤ q) : ∃ p' q', wk_nx true f (wk_em true 0 p q) = wk_em true 0 p' q' ∧ wk_st f p q p' q' := by
  show ∃ p' q', wk_ch f p q (wk_sg (-q)) (wk_sg p) = wk_em true 0 p' q' ∧ wk_st f p q p' q'
  have ea : (0 < q → wk_sg (-q) = (-1)) := fun _ => wk_sgn (by omega)
  have eb : (wk_sg p = 1) := wk_sgp (by omega)
  by_cases h : q = 0
  · have e0 : wk_sg (-q) = 0 := by rw [h]; rfl
    rw [e0, eb, wk_cha]
    exact ⟨p, 1, wk_pe (by omega) (by omega), Or.inl ⟨h, rfl, rfl⟩⟩
  · have hq' : 0 < q := by omega
    rw [ea hq', eb]
    exact wk_rd (wk_em true 0) hq' (by decide) (by decide) (wk_pe (by omega) (by omega)) (Or.inl ⟨wk_pe (by omega) (by omega), wk_pe (by omega) (by omega)⟩) (fun x y => wk_ofE_true0 f x y)
theorem wk_q_true1 {f p q : Int} (hp : 0 < p) (hq : 0 ≤ q) : ∃ p' q', wk_nx true f (wk_em true 1 p q) = wk_em true 1 p' q' ∧ wk_st f p q p' q' := by
  show ∃ p' q', wk_ch f (-q) p (wk_sg (-p)) (wk_sg (-q)) = wk_em true 1 p' q' ∧ wk_st f p q p' q'
  have ea : (wk_sg (-p) = (-1)) := wk_sgn (by omega)
  have eb : (0 < q → wk_sg (-q) = (-1)) := fun _ => wk_sgn (by omega)
  by_cases h : q = 0
  · have e0 : wk_sg (-q) = 0 := by rw [h]; rfl
    rw [e0, ea, wk_chb]
    exact ⟨p, 1, wk_pe (by omega) (by omega), Or.inl ⟨h, rfl, rfl⟩⟩
  · have hq' : 0 < q := by omega
    rw [ea, eb hq']
    exact wk_rd (wk_em true 1) hq' (by decide) (by decide) (wk_pe (by omega) (by omega)) (Or.inr ⟨wk_pe (by omega) (by omega), wk_pe (by omega) (by omega)⟩) (fun x y => wk_ofE_true1 f x y)
theorem wk_q_true2 {f p q : Int} (hp : 0 < p) (hq : 0 ≤ q) : ∃ p' q', wk_nx true f (wk_em true 2 p q) = wk_em true 2 p' q' ∧ wk_st f p q p' q' := by
  show ∃ p' q', wk_ch f (-p) (-q) (wk_sg (-(-q))) (wk_sg (-p)) = wk_em true 2 p' q' ∧ wk_st f p q p' q'
  have ea : (0 < q → wk_sg (-(-q)) = 1) := fun _ => wk_sgp (by omega)
  have eb : (wk_sg (-p) = (-1)) := wk_sgn (by omega)
  by_cases h : q = 0
  · have e0 : wk_sg (-(-q)) = 0 := by rw [h]; rfl
    rw [e0, eb, wk_cha]
    exact ⟨p, 1, wk_pe (by omega) (by omega), Or.inl ⟨h, rfl, rfl⟩⟩
  · have hq' : 0 < q := by omega
    rw [ea hq', eb]
    exact wk_rd (wk_em true 2) hq' (by decide) (by decide) (wk_pe (by omega) (by omega)) (Or.inl ⟨wk_pe (by omega) (by omega), wk_pe (by omega) (by omega)⟩) (fun x y => wk_ofE_true2 f x y)
theorem wk_q_true3 {f p q : Int} (hp : 0 < p) (hq : 0 ≤ q) : ∃ p' q', wk_nx true f (wk_em true 3 p q) = wk_em true 3 p' q' ∧ wk_st f p q p' q' := by
  show ∃ p' q', wk_ch f q (-p) (wk_sg (-(-p))) (wk_sg q) = wk_em true 3 p' q' ∧ wk_st f p q p' q'
  have ea : (wk_sg (-(-p)) = 1) := wk_sgp (by omega)
  have eb : (0 < q → wk_sg q = 1) := fun _ => wk_sgp (by omega)
  by_cases h : q = 0
  · have e0 : wk_sg q = 0 := by rw [h]; rfl
    rw [e0, ea, wk_chb]
    exact ⟨p, 1, wk_pe (by omega) (by omega), Or.inl ⟨h, rfl, rfl⟩⟩
  · have hq' : 0 < q := by omega
    rw [ea, eb hq']
    exact wk_rd (wk_em true 3) hq' (by decide) (by decide) (wk_pe (by omega) (by omega)) (Or.inr ⟨wk_pe (by omega) (by omega), wk_pe (by omega) (by omega)⟩) (fun x y => wk_ofE_true3 f x y)
theorem wk_q_false0 {f p q : Int} (hp : 0 < p) (hq : 0 ≤ q) : ∃ p' q', wk_nx false f (wk_em false 0 p q) = wk_em false 0 p' q' ∧ wk_st f p q p' q' := by
  show ∃ p' q', wk_ch f p (-q) (wk_sg (-q)) (wk_sg (-p)) = wk_em false 0 p' q' ∧ wk_st f p q p' q'
  have ea : (0 < q → wk_sg (-q) = (-1)) := fun _ => wk_sgn (by omega)
  have eb : (wk_sg (-p) = (-1)) := wk_sgn (by omega)
  by_cases h : q = 0
  · have e0 : wk_sg (-q) = 0 := by rw [h]; rfl
    rw [e0, eb, wk_cha]
    exact ⟨p, 1, wk_pe (by omega) (by omega), Or.inl ⟨h, rfl, rfl⟩⟩
  · have hq' : 0 < q := by omega
    rw [ea hq', eb]
    exact wk_rd (wk_em false 0) hq' (by decide) (by decide) (wk_pe (by omega) (by omega)) (Or.inl ⟨wk_pe (by omega) (by omega), wk_pe (by omega) (by omega)⟩) (fun x y => wk_ofE_false0 f x y)
theorem wk_q_false1 {f p q : Int} (hp : 0 < p) (hq : 0 ≤ q) : ∃ p' q', wk_nx false f (wk_em false 1 p q) = wk_em false 1 p' q' ∧ wk_st f p q p' q' := by
  show ∃ p' q', wk_ch f (-q) (-p) (wk_sg (-p)) (wk_sg (-(-q))) = wk_em false 1 p' q' ∧ wk_st f p q p' q'
  have ea : (wk_sg (-p) = (-1)) := wk_sgn (by omega)
  have eb : (0 < q → wk_sg (-(-q)) = 1) := fun _ => wk_sgp (by omega)
  by_cases h : q = 0
  · have e0 : wk_sg (-(-q)) = 0 := by rw [h]; rfl
    rw [e0, ea, wk_chb]
    exact ⟨p, 1, wk_pe (by omega) (by omega), Or.inl ⟨h, rfl, rfl⟩⟩
  · have hq' : 0 < q := by omega
    rw [ea, eb hq']
    exact wk_rd (wk_em false 1) hq' (by decide) (by decide) (wk_pe (by omega) (by omega)) (Or.inr ⟨wk_pe (by omega) (by omega), wk_pe (by omega) (by omega)⟩) (fun x y => wk_ofE_false1 f x y)
theorem wk_q_false2 {f p q : Int} (hp : 0 < p) (hq : 0 ≤ q) : ∃ p' q', wk_nx false f (wk_em false 2 p q) = wk_em false 2 p' q' ∧ wk_st f p q p' q' := by
  show ∃ p' q', wk_ch f (-p) q (wk_sg q) (wk_sg (-(-p))) = wk_em false 2 p' q' ∧ wk_st f p q p' q'
  have ea : (0 < q → wk_sg q = 1) := fun _ => wk_sgp (by omega)
  have eb : (wk_sg (-(-p)) = 1) := wk_sgp (by omega)
  by_cases h : q = 0
  · have e0 : wk_sg q = 0 := by rw [h]; rfl
    rw [e0, eb, wk_cha]
    exact ⟨p, 1, wk_pe (by omega) (by omega), Or.inl ⟨h, rfl, rfl⟩⟩
  · have hq' : 0 < q := by omega
    rw [ea hq', eb]
    exact wk_rd (wk_em false 2) hq' (by decide) (by decide) (wk_pe (by omega) (by omega)) (Or.inl ⟨wk_pe (by omega) (by omega), wk_pe (by omega) (by omega)⟩) (fun x y => wk_ofE_false2 f x y)
theorem wk_q_false3 {f p q : Int} (hp : 0 < p) (hq : 0 ≤ q) : ∃ p' q', wk_nx false f (wk_em false 3 p q) = wk_em false 3 p' q' ∧ wk_st f p q p' q' := by
  show ∃ p' q', wk_ch f q p (wk_sg p) (wk_sg (-q)) = wk_em false 3 p' q' ∧ wk_st f p q p' q'
  have ea : (wk_sg p = 1) := wk_sgp (by omega)
  have eb : (0 < q → wk_sg (-q) = (-1)) := fun _ => wk_sgn (by omega)
  by_cases h : q = 0
  · have e0 : wk_sg (-q) = 0 := by rw [h]; rfl
    rw [e0, ea, wk_chb]
    exact ⟨p, 1, wk_pe (by omega) (by omega), Or.inl ⟨h, rfl, rfl⟩⟩
  · have hq' : 0 < q := by omega
    rw [ea, eb hq']
    exact wk_rd (wk_em false 3) hq' (by decide) (by decide) (wk_pe (by omega) (by omega)) (Or.inr ⟨wk_pe (by omega) (by omega), wk_pe (by omega) (by omega)⟩) (fun x y => wk_ofE_false3 f x y)
theorem wk_lt4 {P : Nat → Prop} (h0 : P 0) (h1 : P 1) (h2 : P 2) (h3 : P 3) {i : Nat} (hi : i < 4) : P i := by
  match i, hi with
  | 0, _ => exact h0
  | 1, _ => exact h1
  | 2, _ => exact h2
  | 3, _ => exact h3
theorem wk_q (on : Bool) {i : Nat} (hi : i < 4) {f p q : Int} (hp : 0 < p) (hq : 0 ≤ q) : ∃ p' q', wk_nx on f (wk_em on i p q) = wk_em on i p' q' ∧ wk_st f p q p' q' := by
  cases on
  · exact wk_lt4 (P := fun i => ∃ p' q', wk_nx false f (wk_em false i p q) = wk_em false i p' q' ∧ wk_st f p q p' q') (wk_q_false0 hp hq) (wk_q_false1 hp hq) (wk_q_false2 hp hq) (wk_q_false3 hp hq) hi
  · exact wk_lt4 (P := fun i => ∃ p' q', wk_nx true f (wk_em true i p q) = wk_em true i p' q' ∧ wk_st f p q p' q') (wk_q_true0 hp hq) (wk_q_true1 hp hq) (wk_q_true2 hp hq) (wk_q_true3 hp hq) hi
theorem wk_sq {x y : Int} (hx : 0 ≤ x) (h : x ≤ y) : x * x ≤ y * y := Int.mul_le_mul h h hx (by omega)
theorem wk_sl {x y : Int} (hy : 0 ≤ y) (h : x * x < y * y) : x < y := by
  by_cases c : x < y
  · exact c
  · have := wk_sq hy (show y ≤ x by omega)
    omega
theorem wk_x1 (p : Int) : (p - 1) * (p - 1) = p * p - 2 * p + 1 := by grind
theorem wk_x2 (q : Int) : (q + 1) * (q + 1) = q * q + 2 * q + 1 := by grind
theorem wk_x3 (q : Int) : (q + 2) * (q + 2) = q * q + 4 * q + 4 := by grind
theorem wk_in {f s t p q p' q' : Int} (hs : 0 ≤ s) (ht : 1 ≤ t) (hf : s * s + t * t = f) (hp : 1 ≤ p) (hq : 0 ≤ q) (hps : s ≤ p) (hqt : q ≤ t)
    (hne : ¬ (p = s ∧ q = t)) (h : wk_st f p q p' q') :
    (p' = s ∧ q' = t) ∨ (1 ≤ p' ∧ 0 ≤ q' ∧ s ≤ p' ∧ q' ≤ t ∧ ¬ (p' = s ∧ q' = t)) ∧ p' - q' < p - q := by
  by_cases hT : p' = s ∧ q' = t
  · exact Or.inl hT
  · refine Or.inr ?_
    rcases h with ⟨h0, h1, h2⟩ | ⟨h0, h1, m1, m2, m3⟩
    · subst h0 h1 h2
      refine ⟨⟨hp, by omega, hps, ht, hT⟩, by omega⟩
    · have z1 : s = 0 → s * s = 0 := fun e => by rw [e]; rfl
      have z2 : p = 1 → p * p = 1 := fun e => by rw [e]; rfl
      have x1 := wk_x1 p
      have x2 := wk_x2 q
      have x3 := wk_x3 q
      have f1 : q + 1 ≤ t → (q + 1) * (q + 1) ≤ t * t := fun e => wk_sq (by omega) e
      have f2 : s ≤ p - 1 → s * s ≤ (p - 1) * (p - 1) := fun e => wk_sq hs e
      have f3 : q + 2 ≤ t → (q + 2) * (q + 2) ≤ t * t := fun e => wk_sq (by omega) e
      have f4 : p = s → p * p = s * s := fun e => by rw [e]
      have f5 : q = t → q * q = t * t := fun e => by rw [e]
      have f6 : q + 1 = t → (q + 1) * (q + 1) = t * t := fun e => by rw [e]
      unfold wk_of at m1 m2 m3
      have aD := wk_abs ((p - 1) * (p - 1) + (q + 1) * (q + 1) - f)
      have aA := wk_abs ((p - 1) * (p - 1) + q * q - f)
      have aB := wk_abs (p * p + (q + 1) * (q + 1) - f)
      rcases h1 with ⟨e1, e2⟩ | ⟨e1, e2⟩ | ⟨e1, e2⟩
      all_goals
        rw [e1, e2] at m1 m2 m3
        generalize wk_ab ((p - 1) * (p - 1) + (q + 1) * (q + 1) - f) = vD at *
        generalize wk_ab ((p - 1) * (p - 1) + q * q - f) = vA at *
        generalize wk_ab (p * p + (q + 1) * (q + 1) - f) = vB at *
        generalize (p - 1) * (p - 1) = pp1 at *
        generalize (q + 1) * (q + 1) = qq1 at *
        generalize (q + 2) * (q + 2) = qq2 at *
        generalize p * p = pp at *
        generalize q * q = qq at *
        generalize s * s = ss at *
        generalize t * t = tt at *
        omega
theorem wk_ax {f p q p' q' : Int} (hf : f ≤ 90000) (hp : 1 ≤ p) (hq : 0 ≤ q) (hq3 : q ≤ 300) (h : wk_st f p q p' q') :
    (0 ≤ q' ∧ q' ≤ 300 ∧ p' - q' < p - q) ∧ (1 ≤ p' ∨ (p' = 0 ∧ 1 ≤ q' ∧ f < (q' + 1) * (q' + 1))) := by
  rcases h with ⟨h0, h1, h2⟩ | ⟨h0, h1, m1, m2, m3⟩
  · subst h0 h1 h2
    exact ⟨⟨by omega, by omega, by omega⟩, Or.inl hp⟩
  · have z2 : p = 1 → p * p = 1 := fun e => by rw [e]; rfl
    have z3 : p = 1 → (p - 1) * (p - 1) = 0 := fun e => by rw [e]; rfl
    have x1 := wk_x1 p
    have x2 := wk_x2 q
    have x3 := wk_x3 q
    have x4 : (q + 1 + 1) * (q + 1 + 1) = q * q + 4 * q + 4 := by grind
    have f1 : q = 300 → q * q = 90000 := fun e => by rw [e]; rfl
    have f2 : 0 ≤ (p - 1) * (p - 1) := by have := wk_sq (x := 0) (y := p - 1) (by omega) (by omega); omega
    unfold wk_of at m1 m2 m3
    have aD := wk_abs ((p - 1) * (p - 1) + (q + 1) * (q + 1) - f)
    have aA := wk_abs ((p - 1) * (p - 1) + q * q - f)
    have aB := wk_abs (p * p + (q + 1) * (q + 1) - f)
    rcases h1 with ⟨e1, e2⟩ | ⟨e1, e2⟩ | ⟨e1, e2⟩
    all_goals
      rw [e1, e2] at m1 m2 m3 ⊢
      generalize wk_ab ((p - 1) * (p - 1) + (q + 1) * (q + 1) - f) = vD at *
      generalize wk_ab ((p - 1) * (p - 1) + q * q - f) = vA at *
      generalize wk_ab (p * p + (q + 1) * (q + 1) - f) = vB at *
      generalize (q + 1 + 1) * (q + 1 + 1) = qq2 at *
      generalize (p - 1) * (p - 1) = pp1 at *
      generalize (q + 1) * (q + 1) = qq1 at *
      generalize p * p = pp at *
      generalize q * q = qq at *
      omega
def wk_it (on : Bool) (f : Int) : Nat → Int × Int → Int × Int
  | 0, w => w
  | k + 1, w => wk_it on f k (wk_nx on f w)
theorem wk_ita (on : Bool) (f : Int) : ∀ (a b : Nat) (w : Int × Int), wk_it on f (a + b) w = wk_it on f b (wk_it on f a w) := by
  intro a
  induction a with
  | zero => intro b w; rw [Nat.zero_add]; rfl
  | succ a ih =>
    intro b w
    rw [show a + 1 + b = (a + b) + 1 by omega]
    exact ih b (wk_nx on f w)
theorem wk_rch (on : Bool) {i : Nat} (hi : i < 4) {f s t : Int} (hs : 0 ≤ s) (ht : 1 ≤ t) (hf : s * s + t * t = f) :
    ∀ (m : Nat) (p q : Int), 1 ≤ p → 0 ≤ q → s ≤ p → q ≤ t → ¬ (p = s ∧ q = t) → p - s + (t - q) ≤ (m : Int) →
      ∃ k, 1 ≤ k ∧ k ≤ m ∧ wk_it on f k (wk_em on i p q) = wk_em on i s t := by
  intro m
  induction m with
  | zero => intro p q h1 h2 h3 h4 h5 h6; exact absurd ⟨by omega, by omega⟩ h5
  | succ m ih =>
    intro p q h1 h2 h3 h4 h5 h6
    obtain ⟨p', q', e, hst⟩ := wk_q on hi (f := f) (show 0 < p by omega) h2
    rcases wk_in hs ht hf h1 h2 h3 h4 h5 hst with ⟨e1, e2⟩ | ⟨⟨g1, g2, g3, g4, g5⟩, g6⟩
    · refine ⟨1, Nat.le_refl 1, by omega, ?_⟩
      show wk_nx on f (wk_em on i p q) = _
      rw [e, e1, e2]
    · obtain ⟨k, k1, k2, k3⟩ := ih p' q' g1 g2 g3 g4 g5 (by omega)
      refine ⟨k + 1, by omega, by omega, ?_⟩
      show wk_it on f k (wk_nx on f (wk_em on i p q)) = _
      rw [e, k3]
theorem wk_crs (on : Bool) {i : Nat} (hi : i < 4) {f : Int} (hf : f ≤ 90000) :
    ∀ (m : Nat) (p q : Int), 1 ≤ p → 0 ≤ q → q ≤ 300 → p + (300 - q) ≤ (m : Int) →
      ∃ k q', 1 ≤ k ∧ k ≤ m ∧ wk_it on f k (wk_em on i p q) = wk_em on i 0 q' ∧ 1 ≤ q' ∧ q' ≤ 300 ∧ f < (q' + 1) * (q' + 1) := by
  intro m
  induction m with
  | zero => intro p q h1 h2 h3 h4; omega
  | succ m ih =>
    intro p q h1 h2 h3 h4
    obtain ⟨p', q', e, hst⟩ := wk_q on hi (f := f) (show 0 < p by omega) h2
    obtain ⟨⟨g1, g2, g3⟩, g4⟩ := wk_ax hf h1 h2 h3 hst
    rcases g4 with g4 | ⟨g4, g5, g6⟩
    · obtain ⟨k, q2, k1, k2, k3, k4⟩ := ih p' q' g4 g1 g2 (by omega)
      refine ⟨k + 1, q2, by omega, by omega, ?_, k4⟩
      show wk_it on f k (wk_nx on f (wk_em on i p q)) = _
      rw [e, k3]
    · refine ⟨1, q', Nat.le_refl 1, by omega, ?_, g5, g2, g6⟩
      show wk_nx on f (wk_em on i p q) = _
      rw [e, g4]
theorem wk_emr (on : Bool) (q : Int) {i : Nat} (hi : i < 4) : wk_em on i 0 q = wk_em on ((i + 1) % 4) q 0 := by
  cases on
  · exact wk_lt4 (P := fun i => wk_em false i 0 q = wk_em false ((i + 1) % 4) q 0) (show ((0 : Int), (-q : Int)) = (-0, -q) by simp) (show ((-q : Int), (-0 : Int)) = (-q, 0) by simp) (show ((-0 : Int), (q : Int)) = (0, q) by simp) (show ((q : Int), (0 : Int)) = (q, -0) by simp) hi
  · exact wk_lt4 (P := fun i => wk_em true i 0 q = wk_em true ((i + 1) % 4) q 0) (show ((0 : Int), (q : Int)) = (-0, q) by simp) (show ((-q : Int), (0 : Int)) = (-q, -0) by simp) (show ((-0 : Int), (-q : Int)) = (0, -q) by simp) (show ((q : Int), (-0 : Int)) = (q, 0) by simp) hi
theorem wk_cn (on : Bool) {f : Int} (hf : f ≤ 90000) : ∀ (n i : Nat) (p q : Int), i < 4 → 1 ≤ p → p ≤ 300 → 0 ≤ q → q ≤ 300 →
    ∃ k p', 1 ≤ k ∧ k ≤ 600 * (n + 1) ∧ wk_it on f k (wk_em on i p q) = wk_em on ((i + n + 1) % 4) p' 0 ∧ 1 ≤ p' ∧ p' ≤ 300 ∧ f < (p' + 1) * (p' + 1) := by
  intro n
  induction n with
  | zero =>
    intro i p q hi h1 h2 h3 h4
    obtain ⟨k, q', k1, k2, k3, k4⟩ := wk_crs on hi hf 600 p q h1 h3 h4 (by omega)
    exact ⟨k, q', k1, k2, by rw [k3]; exact wk_emr on q' hi, k4⟩
  | succ n ih =>
    intro i p q hi h1 h2 h3 h4
    obtain ⟨k, q', k1, k2, k3, k4, k5, k6⟩ := wk_crs on hi hf 600 p q h1 h3 h4 (by omega)
    obtain ⟨l, p', l1, l2, l3, l4⟩ := ih ((i + 1) % 4) q' 0 (Nat.mod_lt _ (by decide)) k4 k5 (by omega) (by omega)
    refine ⟨k + l, p', by omega, by omega, ?_, l4⟩
    rw [wk_ita, k3, wk_emr on q' hi, l3]
    congr 1
    omega
theorem wk_emq (on : Bool) (p q : Int) {i : Nat} (hi : i < 4) : (wk_em on i p q).1 * (wk_em on i p q).1 + (wk_em on i p q).2 * (wk_em on i p q).2 = p * p + q * q := by
  cases on
  · refine wk_lt4 (P := fun i => (wk_em false i p q).1 * (wk_em false i p q).1 + (wk_em false i p q).2 * (wk_em false i p q).2 = p * p + q * q) ?_ ?_ ?_ ?_ hi
    · show p * p + -q * -q = _; grind
    · show -q * -q + -p * -p = _; grind
    · show -p * -p + q * q = _; grind
    · show q * q + p * p = _; grind
  · refine wk_lt4 (P := fun i => (wk_em true i p q).1 * (wk_em true i p q).1 + (wk_em true i p q).2 * (wk_em true i p q).2 = p * p + q * q) ?_ ?_ ?_ ?_ hi
    · show p * p + q * q = _; grind
    · show -q * -q + p * p = _; grind
    · show -p * -p + -q * -q = _; grind
    · show q * q + -p * -p = _; grind
theorem wk_d1 (on : Bool) (u v : Int) (h : ¬ (u = 0 ∧ v = 0)) : ∃ i p q, i < 4 ∧ 1 ≤ p ∧ 0 ≤ q ∧ wk_em on i p q = (u, v) := by
  cases on
  · by_cases c0 : 0 < u ∧ v ≤ 0
    · exact ⟨0, u, -v, by omega, by omega, by omega, wk_pe (by omega) (by omega)⟩
    · by_cases c1 : v < 0 ∧ u ≤ 0
      · exact ⟨1, -v, -u, by omega, by omega, by omega, wk_pe (by omega) (by omega)⟩
      · by_cases c2 : u < 0 ∧ 0 ≤ v
        · exact ⟨2, -u, v, by omega, by omega, by omega, wk_pe (by omega) (by omega)⟩
        · exact ⟨3, v, u, by omega, by omega, by omega, wk_pe (by omega) (by omega)⟩
  · by_cases c0 : 0 < u ∧ 0 ≤ v
    · exact ⟨0, u, v, by omega, by omega, by omega, wk_pe (by omega) (by omega)⟩
    · by_cases c1 : 0 < v ∧ u ≤ 0
      · exact ⟨1, v, -u, by omega, by omega, by omega, wk_pe (by omega) (by omega)⟩
      · by_cases c2 : u < 0 ∧ v ≤ 0
        · exact ⟨2, -u, -v, by omega, by omega, by omega, wk_pe (by omega) (by omega)⟩
        · exact ⟨3, -v, u, by omega, by omega, by omega, wk_pe (by omega) (by omega)⟩
theorem wk_d2 (on : Bool) (u v : Int) (h : ¬ (u = 0 ∧ v = 0)) : ∃ i p q, i < 4 ∧ 0 ≤ p ∧ 1 ≤ q ∧ wk_em on i p q = (u, v) := by
  obtain ⟨i, p, q, h1, h2, h3, h4⟩ := wk_d1 on u v h
  by_cases c : q = 0
  · refine ⟨(i + 3) % 4, 0, p, Nat.mod_lt _ (by decide), by omega, h2, ?_⟩
    rw [← h4, wk_emr on p (Nat.mod_lt _ (by decide)), c]
    congr 1
    omega
  · exact ⟨i, p, q, h1, by omega, by omega, h4⟩
/-- THE WALK comes to every point of its circle, within 3000 steps -/
theorem wk_all (on : Bool) {f u v x y : Int} (h0 : 0 < f) (hf : f ≤ 90000) (hu : u * u + v * v = f) (hx : x * x + y * y = f) :
    ∃ k, 1 ≤ k ∧ k ≤ 3000 ∧ wk_it on f k (u, v) = (x, y) := by
  have n0 : ∀ a b : Int, a * a + b * b = f → ¬ (a = 0 ∧ b = 0) := by
    intro a b e ⟨ea, eb⟩
    rw [ea, eb] at e
    simp at e
    omega
  obtain ⟨i, p, q, hi, hp, hq, e1⟩ := wk_d1 on u v (n0 u v hu)
  obtain ⟨j, s, t, hj, hs, ht, e2⟩ := wk_d2 on x y (n0 x y hx)
  have s1 : p * p + q * q = f := by
    have := wk_emq on p q hi
    rw [e1] at this
    rw [← this]; exact hu
  have s2 : s * s + t * t = f := by
    have := wk_emq on s t hj
    rw [e2] at this
    rw [← this]; exact hx
  have b300 : ∀ a b : Int, a * a + b * b = f → a ≤ 300 := by
    intro a b e
    have h1 : a * a < 301 * 301 := by
      have := wk_sq (x := 0) (y := if b < 0 then -b else b) (by omega) (by split <;> omega)
      have h2 : (if b < 0 then -b else b) * (if b < 0 then -b else b) = b * b := by
        split
        · rw [Int.neg_mul_neg]
        · rfl
      omega
    have := wk_sl (x := a) (y := 301) (by omega) h1
    omega
  have p3 := b300 p q s1
  have q3 := b300 q p (by omega)
  have t3 := b300 t s (by omega)
  rw [← e1, ← e2]
  by_cases c : i = j ∧ s < p
  · obtain ⟨c1, c2⟩ := c
    subst c1
    have g : q < t := by
      refine wk_sl (by omega) ?_
      have := wk_sq (x := s + 1) (y := p) (by omega) (by omega)
      have := wk_x2 s
      omega
    obtain ⟨k, k1, k2, k3⟩ := wk_rch on hi hs ht s2 600 p q hp hq (by omega) (by omega) (by omega) (by omega)
    exact ⟨k, k1, by omega, k3⟩
  · obtain ⟨k, p', k1, k2, k3, k4, k5, k6⟩ := wk_cn on hf ((j + 3 - i) % 4) i p q hi hp p3 hq q3
    have ej : (i + (j + 3 - i) % 4 + 1) % 4 = j := by omega
    rw [ej] at k3
    have g : s ≤ p' := by
      have h1 : s < p' + 1 := by
        refine wk_sl (by omega) ?_
        have := wk_sq (x := 1) (y := t) (by omega) ht
        omega
      omega
    obtain ⟨l, l1, l2, l3⟩ := wk_rch on hj hs ht s2 600 p' 0 k4 (by omega) g (by omega) (by omega) (by omega)
    refine ⟨k + l, by omega, by omega, ?_⟩
    rw [wk_ita, k3, l3]
end WLK
