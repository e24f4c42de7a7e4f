section
section KRW
theorem pk_us {f : Nat → Int32} {k : Nat} {x : Int32} : upd f k x k = x := if_pos rfl
theorem pk_un {f : Nat → Int32} {k j : Nat} {x : Int32} (h : j ≠ k) : upd f k x j = f j := if_neg h
theorem pk_uLs {f : Nat → Int64} {k : Nat} {x : Int64} : vp_updL f k x k = x := if_pos rfl
theorem pk_uLn {f : Nat → Int64} {k j : Nat} {x : Int64} (h : j ≠ k) : vp_updL f k x j = f j := if_neg h
theorem pk_sub {a b : Nat} (h : b ≤ a) : nI a - nI b = nI (a - b) := by
  obtain ⟨c, rfl⟩ : ∃ c, a = c + b := ⟨a - b, by omega⟩
  rw [← nI_add, Int32.add_sub_cancel, Nat.add_sub_cancel]
theorem pk_m1 (n : Nat) : nI (n + 1) + (-1) = nI n := by
  rw [← nI_1, Int32.add_assoc, show (1 : Int32) + (-1) = 0 from rfl, Int32.add_zero]
theorem pk_mul (a b : Nat) : nI a * nI b = nI (a * b) := (Int32.ofNat_mul a b).symm
theorem pk_div {a d : Nat} (ha : a < 2 ^ 31) (h0 : 0 < d) (hd : d < 2 ^ 31) : nI a / nI d = nI (a / d) := by
  apply Int32.toInt_inj.mp
  rw [lg_idiv_nonneg (by rw [nI_toInt ha]; omega) (by rw [nI_toInt hd]; omega), nI_toInt ha, nI_toInt hd, nI_toInt (Nat.lt_of_le_of_lt (Nat.div_le_self a d) ha)]
  first | rfl | exact (Int.natCast_ediv _ _).symm
theorem pk_rem {a d : Nat} (ha : a < 2 ^ 31) (h0 : 0 < d) (hd : d < 2 ^ 31) : nI a - nI a / nI d * nI d = nI (a % d) := by
  rw [pk_div ha h0 hd, pk_mul, pk_sub (Nat.div_mul_le_self a d)]
  exact congrArg nI (by have := Nat.div_add_mod' a d; omega)
theorem pk_sub_toInt {a b : Nat} (ha : a < 2 ^ 30) (hb : b < 2 ^ 30) : (nI a - nI b).toInt = (a : Int) - b := by
  rw [Int32.toInt_sub, nI_toInt (by omega), nI_toInt (by omega)]
  exact Int.bmod_eq_of_le (by omega) (by omega)
theorem pk_sneg {a b : Nat} (hb : b < 2 ^ 30) (h : a < b) : nI a - nI b < 0 := by
  rw [Int32.lt_iff_toInt_lt, pk_sub_toInt (by omega) hb, show (0 : Int32).toInt = 0 from by decide]
  omega
theorem pk_ix (x : Int32) {n : Nat} (hn : n < 2 ^ 31) : x < 0 ∨ nI n ≤ x ∨ ∃ j : Nat, j < n ∧ x = nI j := by
  by_cases h : x < 0
  · exact Or.inl h
  · obtain ⟨j, hj, rfl⟩ := nI_of h
    by_cases h2 : j < n
    · exact Or.inr (Or.inr ⟨j, h2, rfl⟩)
    · exact Or.inr (Or.inl (nI_le (by omega) hj))
theorem pk_le {x y : Int32} {A B : Prop} (a b : Nat) (f : a ≤ b → A) (g : b < a → B) (hx : x = nI a := by rfl) (hy : y = nI b := by rfl) (ha : a < 2 ^ 31 := by omega) (hb : b < 2 ^ 31 := by omega) : (x ≤ y → A) ∧ (¬ x ≤ y → B) := by
  subst hx hy
  rw [nI_leI ha hb]
  exact ⟨f, fun z => g (by omega)⟩
theorem pk_lt {x y : Int32} {A B : Prop} (a b : Nat) (f : a < b → A) (g : b ≤ a → B) (hx : x = nI a := by rfl) (hy : y = nI b := by rfl) (ha : a < 2 ^ 31 := by omega) (hb : b < 2 ^ 31 := by omega) : (x < y → A) ∧ (¬ x < y → B) := by
  subst hx hy
  rw [nI_ltI ha hb]
  exact ⟨f, fun z => g (by omega)⟩
theorem pk_eq {x y : Int32} {A B : Prop} (a b : Nat) (f : a = b → A) (g : a ≠ b → B) (hx : x = nI a := by rfl) (hy : y = nI b := by rfl) (ha : a < 2 ^ 31 := by omega) (hb : b < 2 ^ 31 := by omega) : (x = y → A) ∧ (¬ x = y → B) := by
  subst hx hy
  rw [nI_eq ha hb]
  exact ⟨f, g⟩
theorem pk_in {x : Int32} (n N : Nat) (h : n < N) (hx : x = nI n := by rfl) (hN : N < 2 ^ 31 := by omega) : vp_in x N := by
  subst hx
  exact vp_in_nI h hN
theorem pk_cl {x : Int32} (n : Nat) (hx : x = nI n := by rfl) (h : n < 2 ^ 31 := by omega) : x.toNatClampNeg = n := by
  subst hx
  exact nI_clamp h
theorem pk_lT {n : Nat} (h : n < 2 ^ 63) : (lN n).toInt = (n : Int) := lg_ofNat_toInt h
theorem pk_lLT {a b : Nat} (ha : a < 2 ^ 63) (hb : b < 2 ^ 63) : lN a < lN b ↔ a < b := by
  rw [Int64.lt_iff_toInt_lt, pk_lT ha, pk_lT hb]; omega
theorem pk_lLE {a b : Nat} (ha : a < 2 ^ 63) (hb : b < 2 ^ 63) : lN a ≤ lN b ↔ a ≤ b := by
  rw [Int64.le_iff_toInt_le, pk_lT ha, pk_lT hb]; omega
theorem pk_lEQ {a b : Nat} (ha : a < 2 ^ 63) (hb : b < 2 ^ 63) : lN a = lN b ↔ a = b := by
  rw [← Int64.toInt_inj, pk_lT ha, pk_lT hb]; omega
theorem pk_lOf {x : Int64} (h : ¬ x < 0) : ∃ k : Nat, k < 2 ^ 63 ∧ x = lN k := by
  rw [Int64.lt_iff_toInt_lt] at h
  have h0 : (0 : Int64).toInt = 0 := by decide
  have hx := Int64.toInt_lt x
  refine ⟨x.toInt.toNat, by omega, Int64.toInt_inj.mp ?_⟩
  rw [pk_lT (by omega)]
  omega
theorem pk_lDiv {a b : Nat} (ha : a < 2 ^ 63) (h0 : 0 < b) (hb : b < 2 ^ 63) : lN a / lN b = lN (a / b) := by
  apply Int64.toInt_inj.mp
  rw [lg_ldiv_nonneg (by rw [pk_lT ha]; omega) (by rw [pk_lT hb]; omega), pk_lT ha, pk_lT hb, pk_lT (Nat.lt_of_le_of_lt (Nat.div_le_self a b) ha)]
  rfl
theorem pk_lRem {a b : Nat} (ha : a < 2 ^ 63) (h0 : 0 < b) (hb : b < 2 ^ 63) : lN a - lN a / lN b * lN b = lN (a % b) := by
  rw [pk_lDiv ha h0 hb, lN_mul, lN_sub (Nat.div_mul_le_self a b)]
  exact congrArg lN (by have := Nat.div_add_mod' a b; omega)
theorem pk_least (P : Nat → Prop) (h : ∃ k, P k) : ∃ k, P k ∧ ∀ j, j < k → ¬ P j := by
  obtain ⟨k, hk⟩ := h
  induction k using Nat.strongRecOn with
  | ind k ih =>
    by_cases e : ∃ j, j < k ∧ P j
    · obtain ⟨j, hj, pj⟩ := e
      exact ih j hj pj
    · exact ⟨k, hk, fun j hj pj => e ⟨j, hj, pj⟩⟩
theorem co_3 {P : Nat → Prop} (h0 : P 0) (h1 : P 1) (h2 : P 2) {i : Nat} (hi : i < 3) : P i :=
  match i, hi with
  | 0, _ => h0
  | 1, _ => h1
  | 2, _ => h2
def bt (x : Int32) (i : Nat) : Bool := x.toBitVec.getLsbD i
theorem b_ext {x y : Int32} (h : ∀ i, i < 32 → bt x i = bt y i) : x = y := Int32.toBitVec_inj.mp (BitVec.eq_of_getLsbD_eq (fun i hi => h i hi))
theorem b_or (x y : Int32) (i : Nat) : bt (x ||| y) i = (bt x i || bt y i) := by unfold bt; rw [Int32.toBitVec_or, BitVec.getLsbD_or]
theorem b_and (x y : Int32) (i : Nat) : bt (x &&& y) i = (bt x i && bt y i) := by unfold bt; rw [Int32.toBitVec_and, BitVec.getLsbD_and]
theorem b_xor (x y : Int32) (i : Nat) : bt (x ^^^ y) i = (bt x i ^^ bt y i) := by unfold bt; rw [Int32.toBitVec_xor, BitVec.getLsbD_xor]
theorem b_big {x : Int32} {i : Nat} (h : 32 ≤ i) : bt x i = false := BitVec.getLsbD_of_ge _ _ h
theorem b_255 (i : Nat) : bt 255 i = decide (i < 8) := by
  rcases Nat.lt_or_ge i 32 with h | h
  · exact (by decide +kernel : ∀ i, i < 32 → bt 255 i = decide (i < 8)) i h
  · rw [b_big h, decide_eq_false (by omega)]
theorem b_65535 (i : Nat) : bt 65535 i = decide (i < 16) := by
  rcases Nat.lt_or_ge i 32 with h | h
  · exact (by decide +kernel : ∀ i, i < 32 → bt 65535 i = decide (i < 16)) i h
  · rw [b_big h, decide_eq_false (by omega)]
theorem b_m1 : ∀ i, i < 32 → bt (-1) i = true := by decide +kernel
theorem b_0 (i : Nat) : bt 0 i = false := BitVec.getLsbD_zero
theorem s_l : ∀ n, n < 32 → ((nI n &&& 31).toBitVec.smod 32).toNat = n := by decide +kernel
theorem s_u : ∀ n, n < 32 → (((nI n).toUInt32 &&& Int32.toUInt32 31).toBitVec % 32).toNat = n := by decide +kernel
theorem b_shl (n : Nat) (hn : n < 32) (x : Int32) {i : Nat} (hi : i < 32) : bt (x <<< (nI n &&& 31)) i = (decide (n ≤ i) && bt x (i - n)) := by
  unfold bt
  rw [Int32.toBitVec_shiftLeft]
  show (x.toBitVec <<< ((nI n &&& 31).toBitVec.smod 32).toNat).getLsbD i = _
  rw [s_l n hn, BitVec.getLsbD_shiftLeft]
  rcases Nat.lt_or_ge i n with h | h
  · simp [h, Nat.not_le.mpr h]
  · simp [hi, h, Nat.not_lt.mpr h]
theorem b_ushr (n : Nat) (hn : n < 32) (x : Int32) (i : Nat) : bt ((x.toUInt32 >>> ((nI n).toUInt32 &&& Int32.toUInt32 31)).toInt32) i = bt x (n + i) := by
  show (x.toUInt32 >>> ((nI n).toUInt32 &&& Int32.toUInt32 31)).toBitVec.getLsbD i = x.toUInt32.toBitVec.getLsbD (n + i)
  rw [UInt32.toBitVec_shiftRight]
  show (x.toUInt32.toBitVec >>> (((nI n).toUInt32 &&& Int32.toUInt32 31).toBitVec % 32).toNat).getLsbD i = _
  rw [s_u n hn, BitVec.getLsbD_ushiftRight]
theorem b_sshr (n : Nat) (hn : n < 32) (x : Int32) {i : Nat} (hi : i < 32) : bt (x >>> (nI n &&& 31)) i = if n + i < 32 then bt x (n + i) else bt x 31 := by
  unfold bt
  rw [Int32.toBitVec_shiftRight]
  show (x.toBitVec.sshiftRight ((nI n &&& 31).toBitVec.smod 32).toNat).getLsbD i = _
  rw [s_l n hn, BitVec.getLsbD_sshiftRight, BitVec.msb_eq_getLsbD_last]
  simp [hi]
theorem b_shl8 (x : Int32) {i : Nat} (hi : i < 32) : bt (x <<< ((8 : Int32) &&& 31)) i = (decide (8 ≤ i) && bt x (i - 8)) := b_shl 8 (by omega) x hi
theorem b_shl16 (x : Int32) {i : Nat} (hi : i < 32) : bt (x <<< ((16 : Int32) &&& 31)) i = (decide (16 ≤ i) && bt x (i - 16)) := b_shl 16 (by omega) x hi
theorem b_shl24 (x : Int32) {i : Nat} (hi : i < 32) : bt (x <<< ((24 : Int32) &&& 31)) i = (decide (24 ≤ i) && bt x (i - 24)) := b_shl 24 (by omega) x hi
theorem b_sshr8 (x : Int32) {i : Nat} (hi : i < 32) : bt (x >>> ((8 : Int32) &&& 31)) i = if 8 + i < 32 then bt x (8 + i) else bt x 31 := b_sshr 8 (by omega) x hi
theorem pf_lI {a : Nat} (h : a < 2 ^ 63) : (lN a).toInt = (a : Int) := lg_ofNat_toInt h
theorem pf_shr {a d : Nat} {D : Int64} (hD : (D.toBitVec.smod 64).toNat = d) (h : a < 2 ^ 62) : lN a >>> D = lN (a / 2 ^ d) := by
  have hd : a / 2 ^ d ≤ a := Nat.div_le_self _ _
  apply Int64.toInt_inj.mp
  have e : (lN a >>> D).toInt = (lN a).toInt >>> d := by
    rw [← hD]
    exact BitVec.toInt_sshiftRight ..
  rw [e, Int.shiftRight_eq_div_pow, pf_lI (by omega), pf_lI (by omega)]
  rfl
theorem wb_tb (n : Nat) : (lN n).toBitVec = BitVec.ofNat 64 n := rfl
theorem wb_inj {a b : Int64} (h : a.toBitVec = b.toBitVec) : a = b := Int64.toBitVec_inj.mp h
theorem wb_tn {n : Nat} (h : n < 2 ^ 64) : (lN n).toBitVec.toNat = n := by rw [wb_tb, BitVec.toNat_ofNat, Nat.mod_eq_of_lt h]
theorem wb_of (x : Int64) : ∃ n, n < 2 ^ 64 ∧ x = lN n := ⟨x.toBitVec.toNat, x.toBitVec.isLt, wb_inj (by rw [wb_tb]; simp)⟩
theorem wb_of32 (x : Int32) : ∃ n, n < 2 ^ 32 ∧ x = nI n := ⟨x.toBitVec.toNat, x.toBitVec.isLt, Int32.toBitVec_inj.mp (by show _ = BitVec.ofNat 32 _; simp)⟩
theorem wb_c : ∀ k, k < 64 → ((nI k).toInt64 &&& 63) = lN k := by decide +kernel
theorem wb_cu : ∀ k, k < 64 → ((nI k).toInt64.toUInt64 &&& Int64.toUInt64 63) = UInt64.ofNat k := by decide +kernel
theorem wb_sm : ∀ k, k < 64 → (BitVec.ofNat 64 k).smod 64 = BitVec.ofNat 64 k := by decide +kernel
theorem wb_pw {a b : Nat} (h : a ≤ b) : 2 ^ b = 2 ^ a * 2 ^ (b - a) := by rw [← Nat.pow_add]; congr 1; omega
theorem wb_lt2 {a b : Nat} (h : a < b) : 2 ^ a < 2 ^ b := Nat.pow_lt_pow_right (by decide) h
theorem wb_mod (n : Nat) : lN n = lN (n % 2 ^ 64) := wb_inj (by rw [wb_tb, wb_tb]; apply BitVec.eq_of_toNat_eq; rw [BitVec.toNat_ofNat, BitVec.toNat_ofNat, Nat.mod_mod])
theorem wb_shr {n k : Nat} (hn : n < 2 ^ 64) (hk : k < 64) : ((lN n).toUInt64 >>> ((nI k).toInt64.toUInt64 &&& Int64.toUInt64 63)).toInt64 = lN (n / 2 ^ k) := by
  rw [wb_cu k hk]
  apply wb_inj
  apply BitVec.eq_of_toNat_eq
  show ((lN n).toUInt64 >>> UInt64.ofNat k).toNat = (BitVec.ofNat 64 _).toNat
  have h1 : (UInt64.ofNat k).toNat = k := by
    show (BitVec.ofNat 64 k).toNat = k
    rw [BitVec.toNat_ofNat, Nat.mod_eq_of_lt (by omega)]
  have h2 : (lN n).toUInt64.toNat = n := wb_tn hn
  rw [UInt64.toNat_shiftRight, h1, h2, Nat.mod_eq_of_lt hk, Nat.shiftRight_eq_div_pow, BitVec.toNat_ofNat, Nat.mod_eq_of_lt (Nat.lt_of_le_of_lt (Nat.div_le_self _ _) hn)]
theorem wb_shl (n : Nat) {k : Nat} (hk : k < 64) : lN n <<< ((nI k).toInt64 &&& 63) = lN (n * 2 ^ k) := by
  rw [wb_c k hk]
  apply wb_inj
  rw [Int64.toBitVec_shiftLeft, wb_tb, wb_tb, wb_tb, wb_sm k hk]
  apply BitVec.eq_of_toNat_eq
  rw [BitVec.shiftLeft_eq', BitVec.toNat_shiftLeft, BitVec.toNat_ofNat, BitVec.toNat_ofNat, BitVec.toNat_ofNat, Nat.mod_eq_of_lt (show k < 2 ^ 64 by omega), Nat.shiftLeft_eq, Nat.mul_mod, Nat.mod_mod, ← Nat.mul_mod]
theorem wb_and {a b : Nat} (ha : a < 2 ^ 64) (hb : b < 2 ^ 64) : lN a &&& lN b = lN (a &&& b) := by
  apply wb_inj
  rw [Int64.toBitVec_and, wb_tb, wb_tb, wb_tb]
  apply BitVec.eq_of_toNat_eq
  rw [BitVec.toNat_and, BitVec.toNat_ofNat, BitVec.toNat_ofNat, BitVec.toNat_ofNat, Nat.mod_eq_of_lt ha, Nat.mod_eq_of_lt hb, Nat.mod_eq_of_lt (Nat.and_lt_two_pow _ hb)]
theorem wb_or {a b : Nat} (ha : a < 2 ^ 64) (hb : b < 2 ^ 64) : lN a ||| lN b = lN (a ||| b) := by
  apply wb_inj
  rw [Int64.toBitVec_or, wb_tb, wb_tb, wb_tb]
  apply BitVec.eq_of_toNat_eq
  rw [BitVec.toNat_or, BitVec.toNat_ofNat, BitVec.toNat_ofNat, BitVec.toNat_ofNat, Nat.mod_eq_of_lt ha, Nat.mod_eq_of_lt hb, Nat.mod_eq_of_lt (Nat.or_lt_two_pow ha hb)]
theorem wb_mask {n k : Nat} (hn : n < 2 ^ 64) (hk : k < 64) : lN n &&& lN (2 ^ k - 1) = lN (n % 2 ^ k) := by
  rw [wb_and hn (by have := wb_lt2 hk; omega), Nat.and_two_pow_sub_one_eq_mod]
theorem wb_a1 {n : Nat} (hn : n < 2 ^ 64) : lN n &&& 1 = lN (n % 2) := wb_mask (k := 1) hn (by decide)
theorem wb_bit {n k : Nat} (hn : n < 2 ^ 64) (hk : k < 64) : ((lN n).toUInt64 >>> ((nI k).toInt64.toUInt64 &&& Int64.toUInt64 63)).toInt64 &&& 1 = lN (n / 2 ^ k % 2) := by
  rw [wb_shr hn hk, wb_a1 (Nat.lt_of_le_of_lt (Nat.div_le_self _ _) hn)]
end KRW
end
section
section WLK
/-! The round way on whole numbers: it comes to every point of its circle. -/
def wk_ab (x : Int) : Int := if x < 0 then -x else x
theorem wk_abs (x : Int) : (0 ≤ x ∧ wk_ab x = x) ∨ (x < 0 ∧ wk_ab x = -x) := by
  unfold wk_ab
  by_cases h : x < 0
  · exact Or.inr ⟨h, if_pos h⟩
  · exact Or.inl ⟨by omega, if_neg h⟩
def wk_sg (x : Int) : Int := if x < 0 then -1 else if 0 < x then 1 else 0
theorem wk_sgn {x : Int} (h : x < 0) : wk_sg x = -1 := if_pos h
theorem wk_sgp {x : Int} (h : 0 < x) : wk_sg x = 1 := by
  unfold wk_sg
  rw [if_neg (by omega), if_pos h]
theorem wk_sg0 : wk_sg 0 = 0 := rfl
def wk_of (f u v : Int) : Int := wk_ab (u * u + v * v - f)
def wk_ch (f u v a b : Int) : Int × Int :=
  if a ≠ 0 ∧ wk_of f (u + a) v < wk_of f (u + a) (v + b) then
    (if b ≠ 0 ∧ wk_of f u (v + b) < wk_of f (u + a) v then (u, v + b) else (u + a, v))
  else (if b ≠ 0 ∧ wk_of f u (v + b) < wk_of f (u + a) (v + b) then (u, v + b) else (u + a, v + b))
def wk_nx (on : Bool) (f : Int) (w : Int × Int) : Int × Int :=
  wk_ch f w.1 w.2 (if on then wk_sg (-w.2) else wk_sg w.2) (if on then wk_sg w.1 else wk_sg (-w.1))
theorem wk_ch3 {f u v a b : Int} (ha : a ≠ 0) (hb : b ≠ 0) :
    (wk_ch f u v a b = (u + a, v + b) ∨ wk_ch f u v a b = (u + a, v) ∨ wk_ch f u v a b = (u, v + b)) ∧
    wk_of f (wk_ch f u v a b).1 (wk_ch f u v a b).2 ≤ wk_of f (u + a) (v + b) ∧
    wk_of f (wk_ch f u v a b).1 (wk_ch f u v a b).2 ≤ wk_of f (u + a) v ∧
    wk_of f (wk_ch f u v a b).1 (wk_ch f u v a b).2 ≤ wk_of f u (v + b) := by
  unfold wk_ch
  by_cases h1 : wk_of f (u + a) v < wk_of f (u + a) (v + b)
  · rw [if_pos ⟨ha, h1⟩]
    by_cases h2 : wk_of f u (v + b) < wk_of f (u + a) v
    · rw [if_pos ⟨hb, h2⟩]
      refine ⟨Or.inr (Or.inr rfl), ?_, ?_, ?_⟩
      · show wk_of f u (v + b) ≤ _
        omega
      · show wk_of f u (v + b) ≤ _
        omega
      · exact Int.le_refl _
    · rw [if_neg (fun h => h2 h.2)]
      refine ⟨Or.inr (Or.inl rfl), ?_, ?_, ?_⟩
      · show wk_of f (u + a) v ≤ _
        omega
      · exact Int.le_refl _
      · show wk_of f (u + a) v ≤ _
        omega
  · rw [if_neg (fun h => h1 h.2)]
    by_cases h2 : wk_of f u (v + b) < wk_of f (u + a) (v + b)
    · rw [if_pos ⟨hb, h2⟩]
      refine ⟨Or.inr (Or.inr rfl), ?_, ?_, ?_⟩
      · show wk_of f u (v + b) ≤ _
        omega
      · show wk_of f u (v + b) ≤ _
        omega
      · exact Int.le_refl _
    · rw [if_neg (fun h => h2 h.2)]
      refine ⟨Or.inl rfl, ?_, ?_, ?_⟩
      · exact Int.le_refl _
      · show wk_of f (u + a) (v + b) ≤ _
        omega
      · show wk_of f (u + a) (v + b) ≤ _
        omega
theorem wk_cha {f u v b : Int} : wk_ch f u v 0 b = (u, v + b) := by
  unfold wk_ch
  rw [if_neg (fun h => h.1 rfl), Int.add_zero, if_neg (fun h => by have := h.2; omega)]
theorem wk_chb {f u v a : Int} : wk_ch f u v a 0 = (u + a, v) := by
  unfold wk_ch
  rw [Int.add_zero, if_neg (fun h => by have := h.2; omega), if_neg (fun h => h.1 rfl)]
/-! a quadrant's own coordinates: p falls, q grows -/
def wk_em (on : Bool) (i : Nat) (p q : Int) : Int × Int :=
  if on then (if i = 0 then (p, q) else if i = 1 then (-q, p) else if i = 2 then (-p, -q) else (q, -p))
  else (if i = 0 then (p, -q) else if i = 1 then (-q, -p) else if i = 2 then (-p, q) else (q, p))
def wk_st (f p q p' q' : Int) : Prop :=
  (q = 0 ∧ p' = p ∧ q' = 1) ∨
  (0 < q ∧ ((p' = p - 1 ∧ q' = q + 1) ∨ (p' = p - 1 ∧ q' = q) ∨ (p' = p ∧ q' = q + 1)) ∧
    wk_of f p' q' ≤ wk_of f (p - 1) (q + 1) ∧ wk_of f p' q' ≤ wk_of f (p - 1) q ∧ wk_of f p' q' ≤ wk_of f p (q + 1))
theorem wk_ofs (f x y : Int) : wk_of f y x = wk_of f x y := by unfold wk_of; rw [Int.add_comm]
theorem wk_ofn (f x y : Int) : wk_of f (-x) y = wk_of f x y := by unfold wk_of; rw [Int.neg_mul_neg]
theorem wk_ofm (f x y : Int) : wk_of f x (-y) = wk_of f x y := by unfold wk_of; rw [Int.neg_mul_neg]
/-- one lemma for all eight: the walk's choice at u, v with signs a, b reads back through a map g of p, q -/
theorem wk_rd {f u v a b p q : Int} (g : Int → Int → Int × Int) (hq : 0 < q) (ha : a ≠ 0) (hb : b ≠ 0)
    (hD : (u + a, v + b) = g (p - 1) (q + 1))
    (h2 : ((u + a, v) = g (p - 1) q ∧ (u, v + b) = g p (q + 1)) ∨ ((u + a, v) = g p (q + 1) ∧ (u, v + b) = g (p - 1) q))
    (ho : ∀ x y, wk_of f (g x y).1 (g x y).2 = wk_of f x y) :
    ∃ p' q', wk_ch f u v a b = g p' q' ∧ wk_st f p q p' q' := by
  obtain ⟨hc, m1, m2, m3⟩ := wk_ch3 (f := f) (u := u) (v := v) ha hb
  have eD : wk_of f (u + a) (v + b) = wk_of f (p - 1) (q + 1) := by
    have := ho (p - 1) (q + 1); rw [← hD] at this; exact this
  rcases h2 with ⟨hA, hB⟩ | ⟨hB, hA⟩
  · have eA : wk_of f (u + a) v = wk_of f (p - 1) q := by
      have := ho (p - 1) q; rw [← hA] at this; exact this
    have eB : wk_of f u (v + b) = wk_of f p (q + 1) := by
      have := ho p (q + 1); rw [← hB] at this; exact this
    rw [eD] at m1; rw [eA] at m2; rw [eB] at m3
    rcases hc with hc | hc | hc <;> rw [hc] at m1 m2 m3
    · refine ⟨p - 1, q + 1, hc.trans hD, Or.inr ⟨hq, Or.inl ⟨rfl, rfl⟩, ?_, ?_, ?_⟩⟩ <;> rw [← eD] <;> first | exact Int.le_refl _ | exact m1 | exact m2 | exact m3
    · refine ⟨p - 1, q, hc.trans hA, Or.inr ⟨hq, Or.inr (Or.inl ⟨rfl, rfl⟩), ?_, ?_, ?_⟩⟩ <;> rw [← eA] <;> first | exact Int.le_refl _ | exact m1 | exact m2 | exact m3
    · refine ⟨p, q + 1, hc.trans hB, Or.inr ⟨hq, Or.inr (Or.inr ⟨rfl, rfl⟩), ?_, ?_, ?_⟩⟩ <;> rw [← eB] <;> first | exact Int.le_refl _ | exact m1 | exact m2 | exact m3
  · have eA : wk_of f u (v + b) = wk_of f (p - 1) q := by
      have := ho (p - 1) q; rw [← hA] at this; exact this
    have eB : wk_of f (u + a) v = wk_of f p (q + 1) := by
      have := ho p (q + 1); rw [← hB] at this; exact this
    rw [eD] at m1; rw [eB] at m2; rw [eA] at m3
    rcases hc with hc | hc | hc <;> rw [hc] at m1 m2 m3
    · refine ⟨p - 1, q + 1, hc.trans hD, Or.inr ⟨hq, Or.inl ⟨rfl, rfl⟩, ?_, ?_, ?_⟩⟩ <;> rw [← eD] <;> first | exact Int.le_refl _ | exact m1 | exact m2 | exact m3
    · refine ⟨p, q + 1, hc.trans hB, Or.inr ⟨hq, Or.inr (Or.inr ⟨rfl, rfl⟩), ?_, ?_, ?_⟩⟩ <;> rw [← eB] <;> first | exact Int.le_refl _ | exact m1 | exact m2 | exact m3
    · refine ⟨p - 1, q, hc.trans hA, Or.inr ⟨hq, Or.inr (Or.inl ⟨rfl, rfl⟩), ?_, ?_, ?_⟩⟩ <;> rw [← eA] <;> first | exact Int.le_refl _ | exact m1 | exact m2 | exact m3
theorem wk_ofE_true0 (f x y : Int) : wk_of f (wk_em true 0 x y).1 (wk_em true 0 x y).2 = wk_of f x y := rfl
theorem wk_ofE_true1 (f x y : Int) : wk_of f (wk_em true 1 x y).1 (wk_em true 1 x y).2 = wk_of f x y := (wk_ofn f y x).trans (wk_ofs f x y)
theorem wk_ofE_true2 (f x y : Int) : wk_of f (wk_em true 2 x y).1 (wk_em true 2 x y).2 = wk_of f x y := (wk_ofn f x (-y)).trans (wk_ofm f x y)
theorem wk_ofE_true3 (f x y : Int) : wk_of f (wk_em true 3 x y).1 (wk_em true 3 x y).2 = wk_of f x y := (wk_ofm f y x).trans (wk_ofs f x y)
theorem wk_ofE_false0 (f x y : Int) : wk_of f (wk_em false 0 x y).1 (wk_em false 0 x y).2 = wk_of f x y := wk_ofm f x y
theorem wk_ofE_false1 (f x y : Int) : wk_of f (wk_em false 1 x y).1 (wk_em false 1 x y).2 = wk_of f x y := (wk_ofn f y (-x)).trans ((wk_ofm f y x).trans (wk_ofs f x y))
theorem wk_ofE_false2 (f x y : Int) : wk_of f (wk_em false 2 x y).1 (wk_em false 2 x y).2 = wk_of f x y := wk_ofn f x y
theorem wk_ofE_false3 (f x y : Int) : wk_of f (wk_em false 3 x y).1 (wk_em false 3 x y).2 = wk_of f x y := wk_ofs f x y
theorem wk_pe {a b c d : Int} (h1 : a = c) (h2 : b = d) : (a, b) = (c, d) := by rw [h1, h2]
theorem wk_q_true0 {f p q : Int} (hp : 0 < p) (hq : 0 ≤ q) : ∃ p' q', wk_nx true f (wk_em true 0 p q) = wk_em true 0 p' q' ∧ wk_st f p q p' q' := by
  show ∃ p' q', wk_ch f p q (wk_sg (-q)) (wk_sg p) = wk_em true 0 p' q' ∧ wk_st f p q p' q'
  have ea : (0 < q → wk_sg (-q) = (-1)) := fun _ => wk_sgn (by omega)
  have eb : (wk_sg p = 1) := wk_sgp (by omega)
  by_cases h : q = 0
  · have e0 : wk_sg (-q) = 0 := by rw [h]; rfl
    rw [e0, eb, wk_cha]
    exact ⟨p, 1, wk_pe (by omega) (by omega), Or.inl ⟨h, rfl, rfl⟩⟩
  · have hq' : 0 < q := by omega
    rw [ea hq', eb]
    exact wk_rd (wk_em true 0) hq' (by decide) (by decide) (wk_pe (by omega) (by omega)) (Or.inl ⟨wk_pe (by omega) (by omega), wk_pe (by omega) (by omega)⟩) (fun x y => wk_ofE_true0 f x y)
theorem wk_q_true1 {f p q : Int} (hp : 0 < p) (hq : 0 ≤ q) : ∃ p' q', wk_nx true f (wk_em true 1 p q) = wk_em true 1 p' q' ∧ wk_st f p q p' q' := by
  show ∃ p' q', wk_ch f (-q) p (wk_sg (-p)) (wk_sg (-q)) = wk_em true 1 p' q' ∧ wk_st f p q p' q'
  have ea : (wk_sg (-p) = (-1)) := wk_sgn (by omega)
  have eb : (0 < q → wk_sg (-q) = (-1)) := fun _ => wk_sgn (by omega)
  by_cases h : q = 0
  · have e0 : wk_sg (-q) = 0 := by rw [h]; rfl
    rw [e0, ea, wk_chb]
    exact ⟨p, 1, wk_pe (by omega) (by omega), Or.inl ⟨h, rfl, rfl⟩⟩
  · have hq' : 0 < q := by omega
    rw [ea, eb hq']
    exact wk_rd (wk_em true 1) hq' (by decide) (by decide) (wk_pe (by omega) (by omega)) (Or.inr ⟨wk_pe (by omega) (by omega), wk_pe (by omega) (by omega)⟩) (fun x y => wk_ofE_true1 f x y)
theorem wk_q_true2 {f p q : Int} (hp : 0 < p) (hq : 0 ≤ q) : ∃ p' q', wk_nx true f (wk_em true 2 p q) = wk_em true 2 p' q' ∧ wk_st f p q p' q' := by
  show ∃ p' q', wk_ch f (-p) (-q) (wk_sg (-(-q))) (wk_sg (-p)) = wk_em true 2 p' q' ∧ wk_st f p q p' q'
  have ea : (0 < q → wk_sg (-(-q)) = 1) := fun _ => wk_sgp (by omega)
  have eb : (wk_sg (-p) = (-1)) := wk_sgn (by omega)
  by_cases h : q = 0
  · have e0 : wk_sg (-(-q)) = 0 := by rw [h]; rfl
    rw [e0, eb, wk_cha]
    exact ⟨p, 1, wk_pe (by omega) (by omega), Or.inl ⟨h, rfl, rfl⟩⟩
  · have hq' : 0 < q := by omega
    rw [ea hq', eb]
    exact wk_rd (wk_em true 2) hq' (by decide) (by decide) (wk_pe (by omega) (by omega)) (Or.inl ⟨wk_pe (by omega) (by omega), wk_pe (by omega) (by omega)⟩) (fun x y => wk_ofE_true2 f x y)
theorem wk_q_true3 {f p q : Int} (hp : 0 < p) (hq : 0 ≤ q) : ∃ p' q', wk_nx true f (wk_em true 3 p q) = wk_em true 3 p' q' ∧ wk_st f p q p' q' := by
  show ∃ p' q', wk_ch f q (-p) (wk_sg (-(-p))) (wk_sg q) = wk_em true 3 p' q' ∧ wk_st f p q p' q'
  have ea : (wk_sg (-(-p)) = 1) := wk_sgp (by omega)
  have eb : (0 < q → wk_sg q = 1) := fun _ => wk_sgp (by omega)
  by_cases h : q = 0
  · have e0 : wk_sg q = 0 := by rw [h]; rfl
    rw [e0, ea, wk_chb]
    exact ⟨p, 1, wk_pe (by omega) (by omega), Or.inl ⟨h, rfl, rfl⟩⟩
  · have hq' : 0 < q := by omega
    rw [ea, eb hq']
    exact wk_rd (wk_em true 3) hq' (by decide) (by decide) (wk_pe (by omega) (by omega)) (Or.inr ⟨wk_pe (by omega) (by omega), wk_pe (by omega) (by omega)⟩) (fun x y => wk_ofE_true3 f x y)
theorem wk_q_false0 {f p q : Int} (hp : 0 < p) (hq : 0 ≤ q) : ∃ p' q', wk_nx false f (wk_em false 0 p q) = wk_em false 0 p' q' ∧ wk_st f p q p' q' := by
  show ∃ p' q', wk_ch f p (-q) (wk_sg (-q)) (wk_sg (-p)) = wk_em false 0 p' q' ∧ wk_st f p q p' q'
  have ea : (0 < q → wk_sg (-q) = (-1)) := fun _ => wk_sgn (by omega)
  have eb : (wk_sg (-p) = (-1)) := wk_sgn (by omega)
  by_cases h : q = 0
  · have e0 : wk_sg (-q) = 0 := by rw [h]; rfl
    rw [e0, eb, wk_cha]
    exact ⟨p, 1, wk_pe (by omega) (by omega), Or.inl ⟨h, rfl, rfl⟩⟩
  · have hq' : 0 < q := by omega
    rw [ea hq', eb]
    exact wk_rd (wk_em false 0) hq' (by decide) (by decide) (wk_pe (by omega) (by omega)) (Or.inl ⟨wk_pe (by omega) (by omega), wk_pe (by omega) (by omega)⟩) (fun x y => wk_ofE_false0 f x y)
theorem wk_q_false1 {f p q : Int} (hp : 0 < p) (hq : 0 ≤ q) : ∃ p' q', wk_nx false f (wk_em false 1 p q) = wk_em false 1 p' q' ∧ wk_st f p q p' q' := by
  show ∃ p' q', wk_ch f (-q) (-p) (wk_sg (-p)) (wk_sg (-(-q))) = wk_em false 1 p' q' ∧ wk_st f p q p' q'
  have ea : (wk_sg (-p) = (-1)) := wk_sgn (by omega)
  have eb : (0 < q → wk_sg (-(-q)) = 1) := fun _ => wk_sgp (by omega)
  by_cases h : q = 0
  · have e0 : wk_sg (-(-q)) = 0 := by rw [h]; rfl
    rw [e0, ea, wk_chb]
    exact ⟨p, 1, wk_pe (by omega) (by omega), Or.inl ⟨h, rfl, rfl⟩⟩
  · have hq' : 0 < q := by omega
    rw [ea, eb hq']
    exact wk_rd (wk_em false 1) hq' (by decide) (by decide) (wk_pe (by omega) (by omega)) (Or.inr ⟨wk_pe (by omega) (by omega), wk_pe (by omega) (by omega)⟩) (fun x y => wk_ofE_false1 f x y)
theorem wk_q_false2 {f p q : Int} (hp : 0 < p) (hq : 0 ≤ q) : ∃ p' q', wk_nx false f (wk_em false 2 p q) = wk_em false 2 p' q' ∧ wk_st f p q p' q' := by
  show ∃ p' q', wk_ch f (-p) q (wk_sg q) (wk_sg (-(-p))) = wk_em false 2 p' q' ∧ wk_st f p q p' q'
  have ea : (0 < q → wk_sg q = 1) := fun _ => wk_sgp (by omega)
  have eb : (wk_sg (-(-p)) = 1) := wk_sgp (by omega)
  by_cases h : q = 0
  · have e0 : wk_sg q = 0 := by rw [h]; rfl
    rw [e0, eb, wk_cha]
    exact ⟨p, 1, wk_pe (by omega) (by omega), Or.inl ⟨h, rfl, rfl⟩⟩
  · have hq' : 0 < q := by omega
    rw [ea hq', eb]
    exact wk_rd (wk_em false 2) hq' (by decide) (by decide) (wk_pe (by omega) (by omega)) (Or.inl ⟨wk_pe (by omega) (by omega), wk_pe (by omega) (by omega)⟩) (fun x y => wk_ofE_false2 f x y)
theorem wk_q_false3 {f p q : Int} (hp : 0 < p) (hq : 0 ≤ q) : ∃ p' q', wk_nx false f (wk_em false 3 p q) = wk_em false 3 p' q' ∧ wk_st f p q p' q' := by
  show ∃ p' q', wk_ch f q p (wk_sg p) (wk_sg (-q)) = wk_em false 3 p' q' ∧ wk_st f p q p' q'
  have ea : (wk_sg p = 1) := wk_sgp (by omega)
  have eb : (0 < q → wk_sg (-q) = (-1)) := fun _ => wk_sgn (by omega)
  by_cases h : q = 0
  · have e0 : wk_sg (-q) = 0 := by rw [h]; rfl
    rw [e0, ea, wk_chb]
    exact ⟨p, 1, wk_pe (by omega) (by omega), Or.inl ⟨h, rfl, rfl⟩⟩
  · have hq' : 0 < q := by omega
    rw [ea, eb hq']
    exact wk_rd (wk_em false 3) hq' (by decide) (by decide) (wk_pe (by omega) (by omega)) (Or.inr ⟨wk_pe (by omega) (by omega), wk_pe (by omega) (by omega)⟩) (fun x y => wk_ofE_false3 f x y)
theorem wk_lt4 {P : Nat → Prop} (h0 : P 0) (h1 : P 1) (h2 : P 2) (h3 : P 3) {i : Nat} (hi : i < 4) : P i := by
  match i, hi with
  | 0, _ => exact h0
  | 1, _ => exact h1
  | 2, _ => exact h2
  | 3, _ => exact h3
theorem wk_q (on : Bool) {i : Nat} (hi : i < 4) {f p q : Int} (hp : 0 < p) (hq : 0 ≤ q) : ∃ p' q', wk_nx on f (wk_em on i p q) = wk_em on i p' q' ∧ wk_st f p q p' q' := by
  cases on
  · exact wk_lt4 (P := fun i => ∃ p' q', wk_nx false f (wk_em false i p q) = wk_em false i p' q' ∧ wk_st f p q p' q') (wk_q_false0 hp hq) (wk_q_false1 hp hq) (wk_q_false2 hp hq) (wk_q_false3 hp hq) hi
  · exact wk_lt4 (P := fun i => ∃ p' q', wk_nx true f (wk_em true i p q) = wk_em true i p' q' ∧ wk_st f p q p' q') (wk_q_true0 hp hq) (wk_q_true1 hp hq) (wk_q_true2 hp hq) (wk_q_true3 hp hq) hi
theorem wk_sq {x y : Int} (hx : 0 ≤ x) (h : x ≤ y) : x * x ≤ y * y := Int.mul_le_mul h h hx (by omega)
theorem wk_sl {x y : Int} (hy : 0 ≤ y) (h : x * x < y * y) : x < y := by
  by_cases c : x < y
  · exact c
  · have := wk_sq hy (show y ≤ x by omega)
    omega
theorem wk_x1 (p : Int) : (p - 1) * (p - 1) = p * p - 2 * p + 1 := by grind
theorem wk_x2 (q : Int) : (q + 1) * (q + 1) = q * q + 2 * q + 1 := by grind
theorem wk_x3 (q : Int) : (q + 2) * (q + 2) = q * q + 4 * q + 4 := by grind
theorem wk_in {f s t p q p' q' : Int} (hs : 0 ≤ s) (ht : 1 ≤ t) (hf : s * s + t * t = f) (hp : 1 ≤ p) (hq : 0 ≤ q) (hps : s ≤ p) (hqt : q ≤ t)
    (hne : ¬ (p = s ∧ q = t)) (h : wk_st f p q p' q') :
    (p' = s ∧ q' = t) ∨ (1 ≤ p' ∧ 0 ≤ q' ∧ s ≤ p' ∧ q' ≤ t ∧ ¬ (p' = s ∧ q' = t)) ∧ p' - q' < p - q := by
  by_cases hT : p' = s ∧ q' = t
  · exact Or.inl hT
  · refine Or.inr ?_
    rcases h with ⟨h0, h1, h2⟩ | ⟨h0, h1, m1, m2, m3⟩
    · subst h0 h1 h2
      refine ⟨⟨hp, by omega, hps, ht, hT⟩, by omega⟩
    · have z1 : s = 0 → s * s = 0 := fun e => by rw [e]; rfl
      have z2 : p = 1 → p * p = 1 := fun e => by rw [e]; rfl
      have x1 := wk_x1 p
      have x2 := wk_x2 q
      have x3 := wk_x3 q
      have f1 : q + 1 ≤ t → (q + 1) * (q + 1) ≤ t * t := fun e => wk_sq (by omega) e
      have f2 : s ≤ p - 1 → s * s ≤ (p - 1) * (p - 1) := fun e => wk_sq hs e
      have f3 : q + 2 ≤ t → (q + 2) * (q + 2) ≤ t * t := fun e => wk_sq (by omega) e
      have f4 : p = s → p * p = s * s := fun e => by rw [e]
      have f5 : q = t → q * q = t * t := fun e => by rw [e]
      have f6 : q + 1 = t → (q + 1) * (q + 1) = t * t := fun e => by rw [e]
      unfold wk_of at m1 m2 m3
      have aD := wk_abs ((p - 1) * (p - 1) + (q + 1) * (q + 1) - f)
      have aA := wk_abs ((p - 1) * (p - 1) + q * q - f)
      have aB := wk_abs (p * p + (q + 1) * (q + 1) - f)
      rcases h1 with ⟨e1, e2⟩ | ⟨e1, e2⟩ | ⟨e1, e2⟩
      all_goals
        rw [e1, e2] at m1 m2 m3
        generalize wk_ab ((p - 1) * (p - 1) + (q + 1) * (q + 1) - f) = vD at *
        generalize wk_ab ((p - 1) * (p - 1) + q * q - f) = vA at *
        generalize wk_ab (p * p + (q + 1) * (q + 1) - f) = vB at *
        generalize (p - 1) * (p - 1) = pp1 at *
        generalize (q + 1) * (q + 1) = qq1 at *
        generalize (q + 2) * (q + 2) = qq2 at *
        generalize p * p = pp at *
        generalize q * q = qq at *
        generalize s * s = ss at *
        generalize t * t = tt at *
        omega
theorem wk_ax {f p q p' q' : Int} (hf : f ≤ 90000) (hp : 1 ≤ p) (hq : 0 ≤ q) (hq3 : q ≤ 300) (h : wk_st f p q p' q') :
    (0 ≤ q' ∧ q' ≤ 300 ∧ p' - q' < p - q) ∧ (1 ≤ p' ∨ (p' = 0 ∧ 1 ≤ q' ∧ f < (q' + 1) * (q' + 1))) := by
  rcases h with ⟨h0, h1, h2⟩ | ⟨h0, h1, m1, m2, m3⟩
  · subst h0 h1 h2
    exact ⟨⟨by omega, by omega, by omega⟩, Or.inl hp⟩
  · have z2 : p = 1 → p * p = 1 := fun e => by rw [e]; rfl
    have z3 : p = 1 → (p - 1) * (p - 1) = 0 := fun e => by rw [e]; rfl
    have x1 := wk_x1 p
    have x2 := wk_x2 q
    have x3 := wk_x3 q
    have x4 : (q + 1 + 1) * (q + 1 + 1) = q * q + 4 * q + 4 := by grind
    have f1 : q = 300 → q * q = 90000 := fun e => by rw [e]; rfl
    have f2 : 0 ≤ (p - 1) * (p - 1) := by have := wk_sq (x := 0) (y := p - 1) (by omega) (by omega); omega
    unfold wk_of at m1 m2 m3
    have aD := wk_abs ((p - 1) * (p - 1) + (q + 1) * (q + 1) - f)
    have aA := wk_abs ((p - 1) * (p - 1) + q * q - f)
    have aB := wk_abs (p * p + (q + 1) * (q + 1) - f)
    rcases h1 with ⟨e1, e2⟩ | ⟨e1, e2⟩ | ⟨e1, e2⟩
    all_goals
      rw [e1, e2] at m1 m2 m3 ⊢
      generalize wk_ab ((p - 1) * (p - 1) + (q + 1) * (q + 1) - f) = vD at *
      generalize wk_ab ((p - 1) * (p - 1) + q * q - f) = vA at *
      generalize wk_ab (p * p + (q + 1) * (q + 1) - f) = vB at *
      generalize (q + 1 + 1) * (q + 1 + 1) = qq2 at *
      generalize (p - 1) * (p - 1) = pp1 at *
      generalize (q + 1) * (q + 1) = qq1 at *
      generalize p * p = pp at *
      generalize q * q = qq at *
      omega
def wk_it (on : Bool) (f : Int) : Nat → Int × Int → Int × Int
  | 0, w => w
  | k + 1, w => wk_it on f k (wk_nx on f w)
theorem wk_ita (on : Bool) (f : Int) : ∀ (a b : Nat) (w : Int × Int), wk_it on f (a + b) w = wk_it on f b (wk_it on f a w) := by
  intro a
  induction a with
  | zero => intro b w; rw [Nat.zero_add]; rfl
  | succ a ih =>
    intro b w
    rw [show a + 1 + b = (a + b) + 1 by omega]
    exact ih b (wk_nx on f w)
theorem wk_rch (on : Bool) {i : Nat} (hi : i < 4) {f s t : Int} (hs : 0 ≤ s) (ht : 1 ≤ t) (hf : s * s + t * t = f) :
    ∀ (m : Nat) (p q : Int), 1 ≤ p → 0 ≤ q → s ≤ p → q ≤ t → ¬ (p = s ∧ q = t) → p - s + (t - q) ≤ (m : Int) →
      ∃ k, 1 ≤ k ∧ k ≤ m ∧ wk_it on f k (wk_em on i p q) = wk_em on i s t := by
  intro m
  induction m with
  | zero => intro p q h1 h2 h3 h4 h5 h6; exact absurd ⟨by omega, by omega⟩ h5
  | succ m ih =>
    intro p q h1 h2 h3 h4 h5 h6
    obtain ⟨p', q', e, hst⟩ := wk_q on hi (f := f) (show 0 < p by omega) h2
    rcases wk_in hs ht hf h1 h2 h3 h4 h5 hst with ⟨e1, e2⟩ | ⟨⟨g1, g2, g3, g4, g5⟩, g6⟩
    · refine ⟨1, Nat.le_refl 1, by omega, ?_⟩
      show wk_nx on f (wk_em on i p q) = _
      rw [e, e1, e2]
    · obtain ⟨k, k1, k2, k3⟩ := ih p' q' g1 g2 g3 g4 g5 (by omega)
      refine ⟨k + 1, by omega, by omega, ?_⟩
      show wk_it on f k (wk_nx on f (wk_em on i p q)) = _
      rw [e, k3]
theorem wk_crs (on : Bool) {i : Nat} (hi : i < 4) {f : Int} (hf : f ≤ 90000) :
    ∀ (m : Nat) (p q : Int), 1 ≤ p → 0 ≤ q → q ≤ 300 → p + (300 - q) ≤ (m : Int) →
      ∃ k q', 1 ≤ k ∧ k ≤ m ∧ wk_it on f k (wk_em on i p q) = wk_em on i 0 q' ∧ 1 ≤ q' ∧ q' ≤ 300 ∧ f < (q' + 1) * (q' + 1) := by
  intro m
  induction m with
  | zero => intro p q h1 h2 h3 h4; omega
  | succ m ih =>
    intro p q h1 h2 h3 h4
    obtain ⟨p', q', e, hst⟩ := wk_q on hi (f := f) (show 0 < p by omega) h2
    obtain ⟨⟨g1, g2, g3⟩, g4⟩ := wk_ax hf h1 h2 h3 hst
    rcases g4 with g4 | ⟨g4, g5, g6⟩
    · obtain ⟨k, q2, k1, k2, k3, k4⟩ := ih p' q' g4 g1 g2 (by omega)
      refine ⟨k + 1, q2, by omega, by omega, ?_, k4⟩
      show wk_it on f k (wk_nx on f (wk_em on i p q)) = _
      rw [e, k3]
    · refine ⟨1, q', Nat.le_refl 1, by omega, ?_, g5, g2, g6⟩
      show wk_nx on f (wk_em on i p q) = _
      rw [e, g4]
theorem wk_emr (on : Bool) (q : Int) {i : Nat} (hi : i < 4) : wk_em on i 0 q = wk_em on ((i + 1) % 4) q 0 := by
  cases on
  · exact wk_lt4 (P := fun i => wk_em false i 0 q = wk_em false ((i + 1) % 4) q 0) (show ((0 : Int), (-q : Int)) = (-0, -q) by simp) (show ((-q : Int), (-0 : Int)) = (-q, 0) by simp) (show ((-0 : Int), (q : Int)) = (0, q) by simp) (show ((q : Int), (0 : Int)) = (q, -0) by simp) hi
  · exact wk_lt4 (P := fun i => wk_em true i 0 q = wk_em true ((i + 1) % 4) q 0) (show ((0 : Int), (q : Int)) = (-0, q) by simp) (show ((-q : Int), (0 : Int)) = (-q, -0) by simp) (show ((-0 : Int), (-q : Int)) = (0, -q) by simp) (show ((q : Int), (-0 : Int)) = (q, 0) by simp) hi
theorem wk_cn (on : Bool) {f : Int} (hf : f ≤ 90000) : ∀ (n i : Nat) (p q : Int), i < 4 → 1 ≤ p → p ≤ 300 → 0 ≤ q → q ≤ 300 →
    ∃ k p', 1 ≤ k ∧ k ≤ 600 * (n + 1) ∧ wk_it on f k (wk_em on i p q) = wk_em on ((i + n + 1) % 4) p' 0 ∧ 1 ≤ p' ∧ p' ≤ 300 ∧ f < (p' + 1) * (p' + 1) := by
  intro n
  induction n with
  | zero =>
    intro i p q hi h1 h2 h3 h4
    obtain ⟨k, q', k1, k2, k3, k4⟩ := wk_crs on hi hf 600 p q h1 h3 h4 (by omega)
    exact ⟨k, q', k1, k2, by rw [k3]; exact wk_emr on q' hi, k4⟩
  | succ n ih =>
    intro i p q hi h1 h2 h3 h4
    obtain ⟨k, q', k1, k2, k3, k4, k5, k6⟩ := wk_crs on hi hf 600 p q h1 h3 h4 (by omega)
    obtain ⟨l, p', l1, l2, l3, l4⟩ := ih ((i + 1) % 4) q' 0 (Nat.mod_lt _ (by decide)) k4 k5 (by omega) (by omega)
    refine ⟨k + l, p', by omega, by omega, ?_, l4⟩
    rw [wk_ita, k3, wk_emr on q' hi, l3]
    congr 1
    omega
theorem wk_emq (on : Bool) (p q : Int) {i : Nat} (hi : i < 4) : (wk_em on i p q).1 * (wk_em on i p q).1 + (wk_em on i p q).2 * (wk_em on i p q).2 = p * p + q * q := by
  cases on
  · refine wk_lt4 (P := fun i => (wk_em false i p q).1 * (wk_em false i p q).1 + (wk_em false i p q).2 * (wk_em false i p q).2 = p * p + q * q) ?_ ?_ ?_ ?_ hi
    · show p * p + -q * -q = _; grind
    · show -q * -q + -p * -p = _; grind
    · show -p * -p + q * q = _; grind
    · show q * q + p * p = _; grind
  · refine wk_lt4 (P := fun i => (wk_em true i p q).1 * (wk_em true i p q).1 + (wk_em true i p q).2 * (wk_em true i p q).2 = p * p + q * q) ?_ ?_ ?_ ?_ hi
    · show p * p + q * q = _; grind
    · show -q * -q + p * p = _; grind
    · show -p * -p + -q * -q = _; grind
    · show q * q + -p * -p = _; grind
theorem wk_d1 (on : Bool) (u v : Int) (h : ¬ (u = 0 ∧ v = 0)) : ∃ i p q, i < 4 ∧ 1 ≤ p ∧ 0 ≤ q ∧ wk_em on i p q = (u, v) := by
  cases on
  · by_cases c0 : 0 < u ∧ v ≤ 0
    · exact ⟨0, u, -v, by omega, by omega, by omega, wk_pe (by omega) (by omega)⟩
    · by_cases c1 : v < 0 ∧ u ≤ 0
      · exact ⟨1, -v, -u, by omega, by omega, by omega, wk_pe (by omega) (by omega)⟩
      · by_cases c2 : u < 0 ∧ 0 ≤ v
        · exact ⟨2, -u, v, by omega, by omega, by omega, wk_pe (by omega) (by omega)⟩
        · exact ⟨3, v, u, by omega, by omega, by omega, wk_pe (by omega) (by omega)⟩
  · by_cases c0 : 0 < u ∧ 0 ≤ v
    · exact ⟨0, u, v, by omega, by omega, by omega, wk_pe (by omega) (by omega)⟩
    · by_cases c1 : 0 < v ∧ u ≤ 0
      · exact ⟨1, v, -u, by omega, by omega, by omega, wk_pe (by omega) (by omega)⟩
      · by_cases c2 : u < 0 ∧ v ≤ 0
        · exact ⟨2, -u, -v, by omega, by omega, by omega, wk_pe (by omega) (by omega)⟩
        · exact ⟨3, -v, u, by omega, by omega, by omega, wk_pe (by omega) (by omega)⟩
theorem wk_d2 (on : Bool) (u v : Int) (h : ¬ (u = 0 ∧ v = 0)) : ∃ i p q, i < 4 ∧ 0 ≤ p ∧ 1 ≤ q ∧ wk_em on i p q = (u, v) := by
  obtain ⟨i, p, q, h1, h2, h3, h4⟩ := wk_d1 on u v h
  by_cases c : q = 0
  · refine ⟨(i + 3) % 4, 0, p, Nat.mod_lt _ (by decide), by omega, h2, ?_⟩
    rw [← h4, wk_emr on p (Nat.mod_lt _ (by decide)), c]
    congr 1
    omega
  · exact ⟨i, p, q, h1, by omega, by omega, h4⟩
/-- THE WALK comes to every point of its circle, within 3000 steps -/
theorem wk_all (on : Bool) {f u v x y : Int} (h0 : 0 < f) (hf : f ≤ 90000) (hu : u * u + v * v = f) (hx : x * x + y * y = f) :
    ∃ k, 1 ≤ k ∧ k ≤ 3000 ∧ wk_it on f k (u, v) = (x, y) := by
  have n0 : ∀ a b : Int, a * a + b * b = f → ¬ (a = 0 ∧ b = 0) := by
    intro a b e ⟨ea, eb⟩
    rw [ea, eb] at e
    simp at e
    omega
  obtain ⟨i, p, q, hi, hp, hq, e1⟩ := wk_d1 on u v (n0 u v hu)
  obtain ⟨j, s, t, hj, hs, ht, e2⟩ := wk_d2 on x y (n0 x y hx)
  have s1 : p * p + q * q = f := by
    have := wk_emq on p q hi
    rw [e1] at this
    rw [← this]; exact hu
  have s2 : s * s + t * t = f := by
    have := wk_emq on s t hj
    rw [e2] at this
    rw [← this]; exact hx
  have b300 : ∀ a b : Int, a * a + b * b = f → a ≤ 300 := by
    intro a b e
    have h1 : a * a < 301 * 301 := by
      have := wk_sq (x := 0) (y := if b < 0 then -b else b) (by omega) (by split <;> omega)
      have h2 : (if b < 0 then -b else b) * (if b < 0 then -b else b) = b * b := by
        split
        · rw [Int.neg_mul_neg]
        · rfl
      omega
    have := wk_sl (x := a) (y := 301) (by omega) h1
    omega
  have p3 := b300 p q s1
  have q3 := b300 q p (by omega)
  have t3 := b300 t s (by omega)
  rw [← e1, ← e2]
  by_cases c : i = j ∧ s < p
  · obtain ⟨c1, c2⟩ := c
    subst c1
    have g : q < t := by
      refine wk_sl (by omega) ?_
      have := wk_sq (x := s + 1) (y := p) (by omega) (by omega)
      have := wk_x2 s
      omega
    obtain ⟨k, k1, k2, k3⟩ := wk_rch on hi hs ht s2 600 p q hp hq (by omega) (by omega) (by omega) (by omega)
    exact ⟨k, k1, by omega, k3⟩
  · obtain ⟨k, p', k1, k2, k3, k4, k5, k6⟩ := wk_cn on hf ((j + 3 - i) % 4) i p q hi hp p3 hq q3
    have ej : (i + (j + 3 - i) % 4 + 1) % 4 = j := by omega
    rw [ej] at k3
    have g : s ≤ p' := by
      have h1 : s < p' + 1 := by
        refine wk_sl (by omega) ?_
        have := wk_sq (x := 1) (y := t) (by omega) ht
        omega
      omega
    obtain ⟨l, l1, l2, l3⟩ := wk_rch on hj hs ht s2 600 p' 0 k4 (by omega) g (by omega) (by omega) (by omega)
    refine ⟨k + l, by omega, by omega, ?_⟩
    rw [wk_ita, k3, l3]
end WLK
end
section
section SPD
/-! The greatest pace that an end allows; several ends one behind another. -/
def sp_i (g w x : Nat) : Nat := (x - w - 1) / g
def sp_br (g w x : Nat) : Nat := x + (sp_i g w x * x - g * (sp_i g w x * (sp_i g w x + 1) / 2))
def sp_fit (g r w x : Nat) : Bool := decide (x ≤ w ∨ sp_br g w x ≤ r)
def sp_gr (P : Nat → Bool) : Nat → Nat
  | 0 => 0
  | k + 1 => if P (k + 1) = true then k + 1 else sp_gr P k
theorem sp_tri (i : Nat) : (i + 1) * (i + 1 + 1) / 2 = i * (i + 1) / 2 + (i + 1) := by
  have h : (i + 1) * (i + 1 + 1) = i * (i + 1) + (i + 1) * 2 := by grind
  rw [h, Nat.add_mul_div_right _ _ (by decide)]
theorem sp_tri2 (i : Nat) : i * (i + 1) / 2 ≤ i * i := by
  cases i with
  | zero => decide
  | succ i =>
    have h : (i + 1) * (i + 1 + 1) ≤ (i + 1) * (i + 1) * 2 := by
      rw [Nat.mul_assoc]
      exact Nat.mul_le_mul_left _ (by omega)
    omega
theorem sp_sub {g w x : Nat} (hx : w < x) : g * (sp_i g w x * (sp_i g w x + 1) / 2) ≤ sp_i g w x * x := by
  have h1 := sp_tri2 (sp_i g w x)
  have h2 : sp_i g w x * g ≤ x := by
    have := Nat.div_mul_le_self (x - w - 1) g
    unfold sp_i
    omega
  calc g * (sp_i g w x * (sp_i g w x + 1) / 2) ≤ g * (sp_i g w x * sp_i g w x) := Nat.mul_le_mul_left _ h1
    _ = sp_i g w x * (sp_i g w x * g) := by grind
    _ ≤ sp_i g w x * x := Nat.mul_le_mul_left _ h2
theorem sp_step {g w x : Nat} (hg : 0 < g) (hx : w < x) : sp_br g w x ≤ sp_br g w (x + 1) := by
  have s0 := sp_sub (g := g) hx
  have s1 := sp_sub (g := g) (show w < x + 1 by omega)
  have e1 : x + 1 - w - 1 = (x - w - 1) + 1 := by omega
  have hc : sp_i g w (x + 1) = sp_i g w x ∨ (sp_i g w (x + 1) = sp_i g w x + 1 ∧ g * (sp_i g w x + 1) ≤ x + 1) := by
    unfold sp_i
    rw [e1, Nat.succ_div]
    by_cases hd : g ∣ (x - w - 1) + 1
    · rw [if_pos hd]
      refine Or.inr ⟨rfl, ?_⟩
      have h2 : (x - w - 1) / g + 1 = ((x - w - 1) + 1) / g := by rw [Nat.succ_div, if_pos hd]
      rw [h2, Nat.mul_comm]
      have := Nat.div_mul_le_self ((x - w - 1) + 1) g
      omega
    · rw [if_neg hd]
      exact Or.inl rfl
  unfold sp_br
  rcases hc with hc | ⟨hc, hb⟩
  · rw [hc] at s1 ⊢
    generalize hA : g * (sp_i g w x * (sp_i g w x + 1) / 2) = A at *
    have : sp_i g w x * (x + 1) = sp_i g w x * x + sp_i g w x := by grind
    omega
  · rw [hc] at s1 ⊢
    rw [sp_tri] at s1 ⊢
    have e2 : g * (sp_i g w x * (sp_i g w x + 1) / 2 + (sp_i g w x + 1)) = g * (sp_i g w x * (sp_i g w x + 1) / 2) + g * (sp_i g w x + 1) := Nat.mul_add _ _ _
    have e3 : (sp_i g w x + 1) * (x + 1) = sp_i g w x * x + sp_i g w x + (x + 1) := by grind
    rw [e2, e3] at s1 ⊢
    generalize g * (sp_i g w x * (sp_i g w x + 1) / 2) = A at *
    generalize g * (sp_i g w x + 1) = B at *
    generalize sp_i g w x * x = C at *
    omega
theorem sp_mono {g w : Nat} (hg : 0 < g) : ∀ (d x : Nat), w < x → sp_br g w x ≤ sp_br g w (x + d) := by
  intro d
  induction d with
  | zero => intro x _; exact Nat.le_refl _
  | succ d ih => intro x hx; exact Nat.le_trans (ih x hx) (sp_step hg (by omega))
theorem sp_down {g r w x y : Nat} (hg : 0 < g) (h : x ≤ y) (hy : sp_fit g r w y = true) : sp_fit g r w x = true := by
  unfold sp_fit at hy ⊢
  rw [decide_eq_true_iff] at hy ⊢
  by_cases c : x ≤ w
  · exact Or.inl c
  · rcases hy with hy | hy
    · exact absurd (Nat.le_trans h hy) c
    · obtain ⟨d, rfl⟩ := Nat.le.dest h
      exact Or.inr (Nat.le_trans (sp_mono hg d x (by omega)) hy)
theorem sp_grs {P : Nat → Bool} {k : Nat} (h : P (k + 1) = true) : sp_gr P (k + 1) = k + 1 := if_pos h
theorem sp_grf {P : Nat → Bool} {k : Nat} (h : P (k + 1) = false) : sp_gr P (k + 1) = sp_gr P k := if_neg (by rw [h]; decide)
theorem sp_grle (P : Nat → Bool) : ∀ k, sp_gr P k ≤ k := by
  intro k
  induction k with
  | zero => exact Nat.le_refl 0
  | succ k ih =>
    cases h : P (k + 1)
    · rw [sp_grf h]; omega
    · rw [sp_grs h]; exact Nat.le_refl _
theorem sp_grP (P : Nat → Bool) (h0 : P 0 = true) : ∀ k, P (sp_gr P k) = true := by
  intro k
  induction k with
  | zero => exact h0
  | succ k ih =>
    cases h : P (k + 1)
    · rw [sp_grf h]; exact ih
    · rw [sp_grs h]; exact h
theorem sp_gr1 (P : Nat → Bool) : ∀ k, (∀ j, 1 ≤ j → j ≤ k → P j = true) → sp_gr P k = k := by
  intro k h
  cases k with
  | zero => rfl
  | succ k => exact sp_grs (h _ (by omega) (Nat.le_refl _))
/-- two bounds, one behind the other -/
theorem sp_gr2 (P Q : Nat → Bool) (hd : ∀ x y, x ≤ y → P y = true → P x = true) :
    ∀ k, sp_gr (fun k => P k && Q k) k = sp_gr Q (sp_gr P k) := by
  intro k
  induction k with
  | zero => rfl
  | succ k ih =>
    cases c : P (k + 1)
    · have e1 : sp_gr (fun k => P k && Q k) (k + 1) = sp_gr (fun k => P k && Q k) k := sp_grf (by show (P (k + 1) && Q (k + 1)) = false; rw [c]; rfl)
      rw [e1, sp_grf c, ih]
    · rw [sp_grs c]
      have all : ∀ j, j ≤ k + 1 → sp_gr (fun k => P k && Q k) j = sp_gr Q j := by
        intro j
        induction j with
        | zero => intro _; rfl
        | succ j ihj =>
          intro hj
          have cj : P (j + 1) = true := hd _ _ hj c
          cases q : Q (j + 1)
          · have e1 : sp_gr (fun k => P k && Q k) (j + 1) = sp_gr (fun k => P k && Q k) j := sp_grf (by show (P (j + 1) && Q (j + 1)) = false; rw [q, Bool.and_false])
            rw [e1, sp_grf q]
            exact ihj (by omega)
          · have e1 : sp_gr (fun k => P k && Q k) (j + 1) = j + 1 := sp_grs (by show (P (j + 1) && Q (j + 1)) = true; rw [q, cj]; rfl)
            rw [e1, sp_grs q]
      exact all _ (Nat.le_refl _)
/-! the ends ahead: a of them, from block n on whose end is r away; s: steps, nx: the next block over a joint, jp: its pace -/
def sp_ft (g : Nat) (s jp : Nat → Nat) (nx : Nat → Option Nat) : Nat → Nat → Nat → Nat → Bool
  | 0, _, _, _ => true
  | a + 1, n, r, x => sp_fit g r (if a = 0 then 0 else jp n) x && (match nx n with | none => true | some m => sp_ft g s jp nx a m (r + 1000 * s m) x)
def sp_np (g : Nat) (s jp : Nat → Nat) (nx : Nat → Option Nat) : Nat → Nat → Nat → Nat → Nat
  | 0, _, _, u => u
  | a + 1, n, r, u => match nx n with
    | none => sp_gr (sp_fit g r (if a = 0 then 0 else jp n)) u
    | some m => sp_np g s jp nx a m (r + 1000 * s m) (sp_gr (sp_fit g r (if a = 0 then 0 else jp n)) u)
theorem sp_ftnp {g : Nat} (hg : 0 < g) (s jp : Nat → Nat) (nx : Nat → Option Nat) : ∀ a n r u, sp_gr (sp_ft g s jp nx a n r) u = sp_np g s jp nx a n r u := by
  intro a
  induction a with
  | zero => intro n r u; exact sp_gr1 _ u (fun _ _ _ => rfl)
  | succ a ih =>
    intro n r u
    cases h : nx n with
    | none =>
      have e1 : sp_ft g s jp nx (a + 1) n r = fun x => sp_fit g r (if a = 0 then 0 else jp n) x && true := by
        funext x; simp only [sp_ft, h]
      have e2 : sp_np g s jp nx (a + 1) n r u = sp_gr (sp_fit g r (if a = 0 then 0 else jp n)) u := by simp only [sp_np, h]
      rw [e1, e2]
      congr 1
      funext x
      exact Bool.and_true _
    | some m =>
      have e1 : sp_ft g s jp nx (a + 1) n r = fun x => sp_fit g r (if a = 0 then 0 else jp n) x && sp_ft g s jp nx a m (r + 1000 * s m) x := by
        funext x; simp only [sp_ft, h]
      have e2 : sp_np g s jp nx (a + 1) n r u = sp_np g s jp nx a m (r + 1000 * s m) (sp_gr (sp_fit g r (if a = 0 then 0 else jp n)) u) := by simp only [sp_np, h]
      rw [e1, e2, sp_gr2 _ _ (fun x y hxy hy => sp_down hg hxy hy), ih]
/-- how far the last end is that joints lead to -/
def sp_tot (s : Nat → Nat) (nx : Nat → Option Nat) : Nat → Nat → Nat
  | 0, n => 1000 * s n
  | f + 1, n => 1000 * s n + (match nx n with | none => 0 | some m => sp_tot s nx f m)
theorem sp_fit0 {g r x : Nat} (h : sp_fit g r 0 x = true) : x ≤ r := by
  unfold sp_fit at h
  rw [decide_eq_true_iff] at h
  rcases h with h | h
  · omega
  · unfold sp_br at h; omega
/-- a pace that fits does not lead beyond the last end: base + the way from block n on -/
theorem sp_reach {g : Nat} (s jp : Nat → Nat) (nx : Nat → Option Nat) (hj : ∀ n, nx n = none → jp n = 0) : ∀ a n r x, sp_ft g s jp nx (a + 1) n r x = true →
    ∃ f, x + 1000 * s n ≤ r + sp_tot s nx f n := by
  intro a
  induction a with
  | zero =>
    intro n r x h
    simp only [sp_ft, Bool.and_eq_true, if_true] at h
    have := sp_fit0 h.1
    refine ⟨0, ?_⟩
    simp only [sp_tot]
    omega
  | succ a ih =>
    intro n r x h
    cases c : nx n with
    | none =>
      simp only [sp_ft, c, Bool.and_eq_true, hj n c, ite_self] at h
      have := sp_fit0 h.1
      refine ⟨0, ?_⟩
      simp only [sp_tot]
      omega
    | some m =>
      have h2 : sp_ft g s jp nx (a + 1) m (r + 1000 * s m) x = true := by
        have : (sp_fit g r (if a + 1 = 0 then 0 else jp n) x && sp_ft g s jp nx (a + 1) m (r + 1000 * s m) x) = true := by
          have e := h
          rw [sp_ft, c] at e
          exact e
        exact (Bool.and_eq_true _ _ ▸ this).2
      obtain ⟨f, hf⟩ := ih m (r + 1000 * s m) x h2
      refine ⟨f + 1, ?_⟩
      simp only [sp_tot, c]
      omega
/-- bounds on the numbers reckoned: for the ranges of the machine's ints -/
theorem sp_bnd {g w x : Nat} (hx : x ≤ 2200) (hg : g ≤ 200) (hg0 : 0 < g) :
    sp_i g w x ≤ 2200 ∧ sp_i g w x * x ≤ 4840000 ∧ sp_i g w x * (sp_i g w x + 1) ≤ 4850000 ∧ g * (sp_i g w x * (sp_i g w x + 1) / 2) ≤ 970000000 := by
  have h1 : sp_i g w x ≤ 2200 := Nat.le_trans (Nat.div_le_self _ _) (by omega)
  have h2 : sp_i g w x * x ≤ 2200 * 2200 := Nat.mul_le_mul h1 hx
  have h3 : sp_i g w x * (sp_i g w x + 1) ≤ 2200 * 2201 := Nat.mul_le_mul h1 (by omega)
  refine ⟨h1, by omega, by omega, ?_⟩
  have h4 : g * (sp_i g w x * (sp_i g w x + 1) / 2) ≤ 200 * 2421100 := Nat.mul_le_mul hg (by omega)
  omega
end SPD
end
section
section NUM
/-! Whole numbers as ints: ring operations always, comparisons in range. -/
def ii_I (x : Int) : Int32 := Int32.ofInt x
theorem ii_n (n : Nat) : nI n = ii_I (n : Int) := (Int32.ofInt_eq_ofNat).symm
theorem ii_t (x : Int32) : ii_I x.toInt = x := Int32.ofInt_toInt x
theorem ii_add (a b : Int) : ii_I a + ii_I b = ii_I (a + b) := (Int32.ofInt_add a b).symm
theorem ii_mul (a b : Int) : ii_I a * ii_I b = ii_I (a * b) := (Int32.ofInt_mul a b).symm
theorem ii_neg (a : Int) : -ii_I a = ii_I (-a) := (Int32.ofInt_neg a).symm
theorem ii_sub (a b : Int) : ii_I a - ii_I b = ii_I (a - b) := (Int32.ofInt_sub a b).symm
def ii_R (x : Int) : Prop := -2147483648 ≤ x ∧ x < 2147483648
theorem ii_toInt {x : Int} (h : ii_R x) : (ii_I x).toInt = x := Int32.toInt_ofInt_of_le h.1 h.2
theorem ii_R32 (x : Int32) : ii_R x.toInt := ⟨by have := Int32.le_toInt x; omega, by have := Int32.toInt_lt x; omega⟩
theorem ii_eq {a b : Int} (ha : ii_R a) (hb : ii_R b) : ii_I a = ii_I b ↔ a = b := by
  constructor
  · intro h
    have := congrArg Int32.toInt h
    rwa [ii_toInt ha, ii_toInt hb] at this
  · intro h; rw [h]
theorem ii_le {a b : Int} (ha : ii_R a) (hb : ii_R b) : ii_I a ≤ ii_I b ↔ a ≤ b := by
  rw [Int32.le_iff_toInt_le, ii_toInt ha, ii_toInt hb]
theorem ii_lt {a b : Int} (ha : ii_R a) (hb : ii_R b) : ii_I a < ii_I b ↔ a < b := by
  rw [Int32.lt_iff_toInt_lt, ii_toInt ha, ii_toInt hb]
/-! longs -/
def jl_J (x : Int) : Int64 := Int64.ofInt x
theorem jl_t (x : Int64) : jl_J x.toInt = x := Int64.ofInt_toInt x
theorem jl_add (a b : Int) : jl_J a + jl_J b = jl_J (a + b) := (Int64.ofInt_add a b).symm
theorem jl_mul (a b : Int) : jl_J a * jl_J b = jl_J (a * b) := (Int64.ofInt_mul a b).symm
theorem jl_neg (a : Int) : -jl_J a = jl_J (-a) := (Int64.ofInt_neg a).symm
theorem jl_sub (a b : Int) : jl_J a - jl_J b = jl_J (a - b) := (Int64.ofInt_sub a b).symm
def jl_R (x : Int) : Prop := -9223372036854775808 ≤ x ∧ x < 9223372036854775808
theorem jl_toInt {x : Int} (h : jl_R x) : (jl_J x).toInt = x := Int64.toInt_ofInt_of_le h.1 h.2
theorem jl_eq {a b : Int} (ha : jl_R a) (hb : jl_R b) : jl_J a = jl_J b ↔ a = b := by
  constructor
  · intro h
    have := congrArg Int64.toInt h
    rwa [jl_toInt ha, jl_toInt hb] at this
  · intro h; rw [h]
theorem jl_le {a b : Int} (ha : jl_R a) (hb : jl_R b) : jl_J a ≤ jl_J b ↔ a ≤ b := by
  rw [Int64.le_iff_toInt_le, jl_toInt ha, jl_toInt hb]
theorem jl_lt {a b : Int} (ha : jl_R a) (hb : jl_R b) : jl_J a < jl_J b ↔ a < b := by
  rw [Int64.lt_iff_toInt_lt, jl_toInt ha, jl_toInt hb]
theorem jl_i {x : Int} (h : ii_R x) : (ii_I x).toInt64 = jl_J x := by
  rw [← jl_t (ii_I x).toInt64, Int32.toInt_toInt64, ii_toInt h]
theorem jl_o {x : Int} (h : jl_R x) (h2 : ii_R x) : (jl_J x).toInt32 = ii_I x := by
  rw [← ii_t (jl_J x).toInt32, Int64.toInt_toInt32, jl_toInt h]
  unfold ii_R at h2
  rw [Int.bmod_eq_of_le (by omega) (by omega)]
end NUM
end
section
section PLN
/-! What a program lays out: one pure picture for both sides. L, V, M: letters, values, counts of words. -/
def bo_I (b : Bool) : Int32 := if b then 1 else 0
def pl_gr (g : Int32) : Int32 :=
  if 0 ≤ g ∧ g ≤ 3 then 0 else if 17 ≤ g ∧ g ≤ 19 then 1 else if g = 20 ∨ g = 21 then 2 else if g = 90 ∨ g = 91 then 3
  else if g = 54 ∨ g = 55 then 4 else if g = 4 ∨ g = 28 ∨ g = 53 ∨ g = 92 then 5 else -1
def pl_bad (l x : Int32) : Bool :=
  decide (l = 0 ∧ pl_gr x < 0 ∨ l = 1 ∧ ¬ x = 0 ∧ ¬ x = 2 ∨ l = 8 ∧ (x < 1 ∨ 1000 < x) ∨ l = 9 ∧ (x < 0 ∨ 1000 < x))
def rd_no (L V : Nat → Int32) (b : Nat) : Nat → Bool
  | 0 => false
  | j + 1 => rd_no L V b j || pl_bad (L (b + j)) (V (b + j))
def rd_fo (L V : Nat → Int32) (f0 : Nat → Int32) (b : Nat) : Nat → Nat → Int32
  | 0 => upd f0 5 (-1)
  | j + 1 => if L (b + j) = 0 ∧ 0 ≤ pl_gr (V (b + j)) then upd (rd_fo L V f0 b j) (pl_gr (V (b + j))).toNatClampNeg (V (b + j)) else rd_fo L V f0 b j
def rd_gs (L V : Nat → Int32) (b : Nat) : Nat → Nat → Bool
  | 0 => fun _ => false
  | j + 1 => if L (b + j) = 0 ∧ 0 ≤ pl_gr (V (b + j)) then (fun g => if g = (pl_gr (V (b + j))).toNatClampNeg then true else rd_gs L V b j g) else rd_gs L V b j
def rd_hs (L : Nat → Int32) (b : Nat) : Nat → Nat → Bool
  | 0 => fun _ => false
  | j + 1 => if L (b + j) = 0 then rd_hs L b j else (fun i => if i = (L (b + j)).toNatClampNeg then true else rd_hs L b j i)
def rd_wd (L V : Nat → Int32) (w0 : Nat → Int32) (b : Nat) : Nat → Nat → Int32
  | 0 => w0
  | j + 1 => if L (b + j) = 0 then rd_wd L V w0 b j else upd (rd_wd L V w0 b j) (L (b + j)).toNatClampNeg (V (b + j))
def rd_tw (L V : Nat → Int32) (b : Nat) : Nat → Bool
  | 0 => false
  | j + 1 => rd_tw L V b j || (if L (b + j) = 0 then decide (0 ≤ pl_gr (V (b + j))) && rd_gs L V b j (pl_gr (V (b + j))).toNatClampNeg else rd_hs L b j (L (b + j)).toNatClampNeg)
def rd_sp (L V : Nat → Int32) (s0 : Int32) (b : Nat) : Nat → Int32
  | 0 => s0
  | j + 1 => if L (b + j) = 8 then V (b + j) else rd_sp L V s0 b j
/-! a line's words with what is in force: F force, H which letters are there, W their ints, S the speed -/
def pl_na (H : Nat → Bool) : Bool := H 2 || H 3 || H 4
def pl_ce (H : Nat → Bool) : Bool := H 5 || H 6 || H 7
def pl_mv (F : Nat → Int32) (H : Nat → Bool) : Bool := decide ((F 5 < 0 ∨ F 5 = 53) ∧ (pl_na H = true ∨ 1 < F 0 ∧ pl_ce H = true))
def pl_mi (F : Nat → Int32) (H : Nat → Bool) (S : Int32) : Int32 :=
  if H 9 = true ∧ ¬ F 5 = 4 ∨ H 9 = false ∧ F 5 = 4 then 3
  else if pl_ce H = true ∧ (¬ 1 < F 0 ∨ 0 ≤ F 5) then 3
  else if pl_na H = true ∧ F 5 = 4 ∨ pl_na H = false ∧ (F 5 = 28 ∨ F 5 = 53 ∨ F 5 = 92) then 3
  else if (F 5 = 28 ∨ F 5 = 53) ∧ F 3 = 91 ∨ F 5 = 53 ∧ 1 < F 0 then 3
  else if pl_mv F H = true ∧ 0 < F 0 ∧ S = 0 then 4 else 0
def pl_sc (F : Nat → Int32) : Int32 := if F 2 = 20 then 5 else 1
def pl_oi (F : Nat → Int32) (a : Nat) : Nat := if F 4 = 54 then a else 3 + a
def pl_to (F : Nat → Int32) (H : Nat → Bool) (W og he : Nat → Int32) (a : Nat) : Int32 :=
  if H (2 + a) = false then he a else if F 5 = 92 then he a else if F 5 = 28 then 0
  else if F 5 = 53 then W (2 + a) * pl_sc F else if F 3 = 90 then W (2 + a) * pl_sc F + og (pl_oi F a) else he a + W (2 + a) * pl_sc F
def pl_o1 (F : Nat → Int32) (H : Nat → Bool) (W he : Nat → Int32) (a : Nat) (og : Nat → Int32) : Nat → Int32 :=
  if H (2 + a) = true ∧ F 5 = 92 then upd og (pl_oi F a) (he a - W (2 + a) * pl_sc F) else og
def pl_og (F : Nat → Int32) (H : Nat → Bool) (W og he : Nat → Int32) : Nat → Int32 :=
  pl_o1 F H W he 2 (pl_o1 F H W he 1 (pl_o1 F H W he 0 og))
def pl_dw (F W : Nat → Int32) : Int32 := if F 5 = 4 then W 9 else 0
def pl_en (H : Nat → Bool) (W : Nat → Int32) : Int32 := if H 1 = false then 0 else if W 1 = 0 then 1 else 2
def pl_pc (F : Nat → Int32) (S fs : Int32) : Int32 := if F 5 = 28 ∨ F 0 = 0 ∨ fs < S then fs else S
def pl_tu (F : Nat → Int32) (H : Nat → Bool) : Int32 := if pl_mv F H = true ∧ 1 < F 0 then F 0 else 0
def pl_fa (F : Nat → Int32) : Nat := if F 1 = 17 then 0 else if F 1 = 18 then 2 else 1
def pl_fb (F : Nat → Int32) : Nat := if F 1 = 17 then 1 else if F 1 = 18 then 0 else 2
def pl_ft (F : Nat → Int32) : Nat := if F 1 = 17 then 2 else if F 1 = 18 then 1 else 0
def pl_ij (F : Nat → Int32) (H : Nat → Bool) (W : Nat → Int32) (a : Nat) : Int32 := if H (5 + a) = true then W (5 + a) * pl_sc F else 0
def pl_wk (on : Bool) (far c d l m x y : Int) : Nat → Nat → Int → Int → Int32 × Nat
  | 0, k, _, _ => (6, k)
  | f + 1, k, u, v =>
    if c + (wk_nx on far (u, v)).1 < 0 ∨ l < c + (wk_nx on far (u, v)).1 ∨ d + (wk_nx on far (u, v)).2 < 0 ∨ m < d + (wk_nx on far (u, v)).2 then (6, k + 1)
    else if (wk_nx on far (u, v)).1 = x ∧ (wk_nx on far (u, v)).2 = y then (0, k + 1)
    else pl_wk on far c d l m x y f (k + 1) (wk_nx on far (u, v)).1 (wk_nx on far (u, v)).2
end PLN
end
section
section LNS
theorem wk_its (on : Bool) (f : Int) (k : Nat) (w : Int × Int) : wk_it on f (k + 1) w = wk_nx on f (wk_it on f k w) := by
  rw [wk_ita on f k 1 w]; rfl
theorem pl_60 : ¬ (6 : Int32) = 0 := by decide
theorem pl_wk0 {on : Bool} {far c d l m x y : Int} : ∀ (f k : Nat) (u v : Int) (K : Nat), pl_wk on far c d l m x y f k u v = (0, K) →
    k < K ∧ K ≤ k + f ∧ wk_it on far (K - k) (u, v) = (x, y) ∧
    ∀ j, 1 ≤ j → j ≤ K - k → 0 ≤ c + (wk_it on far j (u, v)).1 ∧ c + (wk_it on far j (u, v)).1 ≤ l ∧ 0 ≤ d + (wk_it on far j (u, v)).2 ∧ d + (wk_it on far j (u, v)).2 ≤ m := by
  intro f
  induction f with
  | zero => intro k u v K h; exact absurd (congrArg Prod.fst h) pl_60
  | succ f ih =>
    intro k u v K h
    rw [pl_wk] at h
    by_cases h1 : c + (wk_nx on far (u, v)).1 < 0 ∨ l < c + (wk_nx on far (u, v)).1 ∨ d + (wk_nx on far (u, v)).2 < 0 ∨ m < d + (wk_nx on far (u, v)).2
    · rw [if_pos h1] at h
      exact absurd (congrArg Prod.fst h) pl_60
    · rw [if_neg h1] at h
      have r1 : 0 ≤ c + (wk_nx on far (u, v)).1 ∧ c + (wk_nx on far (u, v)).1 ≤ l ∧ 0 ≤ d + (wk_nx on far (u, v)).2 ∧ d + (wk_nx on far (u, v)).2 ≤ m := by omega
      by_cases h2 : (wk_nx on far (u, v)).1 = x ∧ (wk_nx on far (u, v)).2 = y
      · rw [if_pos h2] at h
        have hK : k + 1 = K := congrArg Prod.snd h
        subst hK
        refine ⟨by omega, by omega, ?_, ?_⟩
        · rw [show k + 1 - k = 1 by omega]
          show wk_nx on far (u, v) = (x, y)
          exact Prod.ext h2.1 h2.2
        · intro j j1 j2
          obtain rfl : j = 1 := by omega
          exact r1
      · rw [if_neg h2] at h
        obtain ⟨a1, a2, a3, a4⟩ := ih (k + 1) _ _ K h
        refine ⟨by omega, by omega, ?_, ?_⟩
        · rw [show K - k = (K - (k + 1)) + 1 by omega]
          exact a3
        · intro j j1 j2
          obtain ⟨i, rfl⟩ : ∃ i, j = i + 1 := ⟨j - 1, by omega⟩
          by_cases hi : i = 0
          · subst hi; exact r1
          · exact a4 i (by omega) (by omega)
def sg_dd (fr to : Nat → Int32) (a : Nat) : Nat := ((to a).toInt - (fr a).toInt).natAbs
def sg_mx (fr to : Nat → Int32) : Nat := max (max (sg_dd fr to 0) (sg_dd fr to 1)) (sg_dd fr to 2)
def sg_ou (lim to : Nat → Int32) (a : Nat) : Bool := decide ((to a).toInt < 0 ∨ (lim a).toInt < (to a).toInt)
def sg_out (lim to : Nat → Int32) : Bool := sg_ou lim to 0 || sg_ou lim to 1 || sg_ou lim to 2
section
variable (L V M : Nat → Int32) (lim : Nat → Int32) (fs : Int32) (s0 : Nat → Int32)
def px_n (n : Nat) : Nat := (M n).toNatClampNeg
def px_ff : Nat → Int32 := fun g => if g = 0 then 0 else if g = 1 then 17 else if g = 2 then 21 else if g = 3 then 90 else if g = 4 then 54 else 0
def px_H (n : Nat) : Nat → Bool := rd_hs L (8 * n) (px_n M n)
def px_W (n : Nat) : Nat → Int32 := rd_wd L V (fun _ => 0) (8 * n) (px_n M n)
def px_cx : Nat → (Nat → Int32) × Int32 × (Nat → Int32) × (Nat → Int32)
  | 0 => (px_ff, 0, fun _ => 0, s0)
  | n + 1 => (rd_fo L V (px_cx n).1 (8 * n) (px_n M n), rd_sp L V (px_cx n).2.1 (8 * n) (px_n M n),
      pl_og (rd_fo L V (px_cx n).1 (8 * n) (px_n M n)) (px_H L M n) (px_W L V M n) (px_cx n).2.2.1 (px_cx n).2.2.2,
      pl_to (rd_fo L V (px_cx n).1 (8 * n) (px_n M n)) (px_H L M n) (px_W L V M n) (px_cx n).2.2.1 (px_cx n).2.2.2)
def px_F (n : Nat) : Nat → Int32 := (px_cx L V M s0 (n + 1)).1
def px_S (n : Nat) : Int32 := (px_cx L V M s0 (n + 1)).2.1
def px_og (n : Nat) : Nat → Int32 := (px_cx L V M s0 n).2.2.1
def px_he (n : Nat) : Nat → Int32 := (px_cx L V M s0 n).2.2.2
def px_tu (n : Nat) : Int32 := pl_tu (px_F L V M s0 n) (px_H L M n)
def px_p (n : Nat) : Int := (pl_ij (px_F L V M s0 n) (px_H L M n) (px_W L V M n) (pl_fa (px_F L V M s0 n))).toInt
def px_q (n : Nat) : Int := (pl_ij (px_F L V M s0 n) (px_H L M n) (px_W L V M n) (pl_fb (px_F L V M s0 n))).toInt
def px_x (n : Nat) : Int := (px_he L V M s0 (n + 1) (pl_fa (px_F L V M s0 n))).toInt - (px_he L V M s0 n (pl_fa (px_F L V M s0 n))).toInt - px_p L V M s0 n
def px_y (n : Nat) : Int := (px_he L V M s0 (n + 1) (pl_fb (px_F L V M s0 n))).toInt - (px_he L V M s0 n (pl_fb (px_F L V M s0 n))).toInt - px_q L V M s0 n
def px_far (n : Nat) : Int := px_p L V M s0 n * px_p L V M s0 n + px_q L V M s0 n * px_q L V M s0 n
def px_c (n : Nat) : Int := (px_he L V M s0 n (pl_fa (px_F L V M s0 n))).toInt + px_p L V M s0 n
def px_d (n : Nat) : Int := (px_he L V M s0 n (pl_fb (px_F L V M s0 n))).toInt + px_q L V M s0 n
def px_b5 (n : Nat) : Bool := decide (
  (px_H L M n (5 + pl_fa (px_F L V M s0 n)) = false ∧ px_H L M n (5 + pl_fb (px_F L V M s0 n)) = false ∨ px_H L M n (2 + pl_ft (px_F L V M s0 n)) = true ∨ px_H L M n (5 + pl_ft (px_F L V M s0 n)) = true)
  ∨ px_far L V M s0 n = 0 ∨ 90000 < px_far L V M s0 n ∨ ¬ px_x L V M s0 n * px_x L V M s0 n + px_y L V M s0 n * px_y L V M s0 n = px_far L V M s0 n)
def px_on (n : Nat) : Bool := decide (px_tu L V M s0 n = 3)
def px_wr (n : Nat) : Int32 × Nat :=
  pl_wk (px_on L V M s0 n) (px_far L V M s0 n) (px_c L V M s0 n) (px_d L V M s0 n)
    (lim (pl_fa (px_F L V M s0 n))).toInt (lim (pl_fb (px_F L V M s0 n))).toInt (px_x L V M s0 n) (px_y L V M s0 n) 3000 0 (-px_p L V M s0 n) (-px_q L V M s0 n)
def px_mx (n : Nat) : Nat := sg_mx (px_he L V M s0 n) (px_he L V M s0 (n + 1))
def px_out (n : Nat) : Bool := sg_out lim (px_he L V M s0 (n + 1))
/-- why a line is wrong, and its steps -/
def px_why (n : Nat) : Int32 :=
  if rd_no L V (8 * n) (px_n M n) = true then 1
  else if rd_tw L V (8 * n) (px_n M n) = true then 2
  else if ¬ pl_mi (px_F L V M s0 n) (px_H L M n) (px_S L V M s0 n) = 0 then pl_mi (px_F L V M s0 n) (px_H L M n) (px_S L V M s0 n)
  else if px_tu L V M s0 n = 0 then (if px_out L V M lim s0 n = true then 6 else 0)
  else if px_b5 L V M s0 n = true then 5 else (px_wr L V M lim s0 n).1
def px_st (n : Nat) : Nat := if px_tu L V M s0 n = 0 then px_mx L V M s0 n else (px_wr L V M lim s0 n).2
def px_dw (n : Nat) : Int32 := pl_dw (px_F L V M s0 n) (px_W L V M n)
def px_en (n : Nat) : Int32 := pl_en (px_H L M n) (px_W L V M n)
def px_pc (n : Nat) : Int32 := pl_pc (px_F L V M s0 n) (px_S L V M s0 n) fs
end
end LNS
end
section
section FCT
/-! The ints as whole numbers, for omega -/
theorem fc_ei {x : Int32} {a : Int} (h : x.toInt = a) (ha : ii_R a) : x = ii_I a := by rw [← h, ii_t]
theorem fc_le {x y : Int32} : x ≤ y ↔ x.toInt ≤ y.toInt := Int32.le_iff_toInt_le
theorem fc_lt {x y : Int32} : x < y ↔ x.toInt < y.toInt := Int32.lt_iff_toInt_lt
theorem fc_eq {x y : Int32} : x = y ↔ x.toInt = y.toInt := Int32.toInt_inj.symm
theorem fc_0 : (0 : Int32).toInt = 0 := by decide
theorem fc_1 : (1 : Int32).toInt = 1 := by decide
theorem fc_2 : (2 : Int32).toInt = 2 := by decide
theorem fc_3 : (3 : Int32).toInt = 3 := by decide
theorem fc_4 : (4 : Int32).toInt = 4 := by decide
theorem fc_5 : (5 : Int32).toInt = 5 := by decide
theorem fc_6 : (6 : Int32).toInt = 6 := by decide
theorem fc_8 : (8 : Int32).toInt = 8 := by decide
theorem fc_9 : (9 : Int32).toInt = 9 := by decide
theorem fc_17 : (17 : Int32).toInt = 17 := by decide
theorem fc_18 : (18 : Int32).toInt = 18 := by decide
theorem fc_19 : (19 : Int32).toInt = 19 := by decide
theorem fc_20 : (20 : Int32).toInt = 20 := by decide
theorem fc_21 : (21 : Int32).toInt = 21 := by decide
theorem fc_28 : (28 : Int32).toInt = 28 := by decide
theorem fc_53 : (53 : Int32).toInt = 53 := by decide
theorem fc_54 : (54 : Int32).toInt = 54 := by decide
theorem fc_55 : (55 : Int32).toInt = 55 := by decide
theorem fc_90 : (90 : Int32).toInt = 90 := by decide
theorem fc_91 : (91 : Int32).toInt = 91 := by decide
theorem fc_92 : (92 : Int32).toInt = 92 := by decide
theorem fc_m1 : (-1 : Int32).toInt = -1 := by decide
theorem fc_1000 : (1000 : Int32).toInt = 1000 := by decide
/-- what a group holds -/
def fc_V (g : Nat) (x : Int32) : Prop :=
  (g = 0 ∧ (x = 0 ∨ x = 1 ∨ x = 2 ∨ x = 3)) ∨ (g = 1 ∧ (x = 17 ∨ x = 18 ∨ x = 19)) ∨ (g = 2 ∧ (x = 20 ∨ x = 21)) ∨
  (g = 3 ∧ (x = 90 ∨ x = 91)) ∨ (g = 4 ∧ (x = 54 ∨ x = 55)) ∨ (g = 5 ∧ (x = -1 ∨ x = 4 ∨ x = 28 ∨ x = 53 ∨ x = 92)) ∨ 6 ≤ g
theorem fc_gr (x : Int32) : (pl_gr x = -1) ∨ ∃ g : Nat, g < 6 ∧ pl_gr x = nI g ∧ fc_V g x := by
  unfold pl_gr
  by_cases h0 : 0 ≤ x ∧ x ≤ 3
  · rw [if_pos h0]
    refine Or.inr ⟨0, by omega, rfl, Or.inl ⟨rfl, ?_⟩⟩
    rw [fc_le, fc_le, fc_0, fc_3] at h0
    rw [fc_eq, fc_eq, fc_eq, fc_eq, fc_0, fc_1, fc_2, fc_3]
    omega
  · rw [if_neg h0]
    by_cases h1 : 17 ≤ x ∧ x ≤ 19
    · rw [if_pos h1]
      refine Or.inr ⟨1, by omega, rfl, Or.inr (Or.inl ⟨rfl, ?_⟩)⟩
      rw [fc_le, fc_le, fc_17, fc_19] at h1
      rw [fc_eq, fc_eq, fc_eq, fc_17, fc_18, fc_19]
      omega
    · rw [if_neg h1]
      by_cases h2 : x = 20 ∨ x = 21
      · rw [if_pos h2]
        exact Or.inr ⟨2, by omega, rfl, Or.inr (Or.inr (Or.inl ⟨rfl, h2⟩))⟩
      · rw [if_neg h2]
        by_cases h3 : x = 90 ∨ x = 91
        · rw [if_pos h3]
          exact Or.inr ⟨3, by omega, rfl, Or.inr (Or.inr (Or.inr (Or.inl ⟨rfl, h3⟩)))⟩
        · rw [if_neg h3]
          by_cases h4 : x = 54 ∨ x = 55
          · rw [if_pos h4]
            exact Or.inr ⟨4, by omega, rfl, Or.inr (Or.inr (Or.inr (Or.inr (Or.inl ⟨rfl, h4⟩))))⟩
          · rw [if_neg h4]
            by_cases h5 : x = 4 ∨ x = 28 ∨ x = 53 ∨ x = 92
            · rw [if_pos h5]
              exact Or.inr ⟨5, by omega, rfl, Or.inr (Or.inr (Or.inr (Or.inr (Or.inr (Or.inl ⟨rfl, Or.inr h5⟩)))))⟩
            · rw [if_neg h5]
              exact Or.inl rfl
theorem fc_grI (x : Int32) (h : 0 ≤ pl_gr x) : ∃ g : Nat, g < 6 ∧ pl_gr x = nI g ∧ (pl_gr x).toNatClampNeg = g ∧ fc_V g x := by
  rcases fc_gr x with e | ⟨g, h1, h2, h3⟩
  · rw [e] at h; exact absurd h (by decide)
  · exact ⟨g, h1, h2, by rw [h2, nI_clamp (by omega)], h3⟩
def fc_FV (F : Nat → Int32) : Prop := ∀ g, g < 5 → fc_V g (F g)
def fc_FW (F : Nat → Int32) : Prop := ∀ g, g < 6 → fc_V g (F g)
theorem fc_fo (L V f0 : Nat → Int32) (b : Nat) (h : fc_FV f0) : ∀ j, fc_FW (rd_fo L V f0 b j) := by
  intro j
  induction j with
  | zero =>
    intro g hg
    show fc_V g (upd f0 5 (-1) g)
    by_cases e : g = 5
    · subst e
      rw [pk_us]
      exact Or.inr (Or.inr (Or.inr (Or.inr (Or.inr (Or.inl ⟨rfl, Or.inl rfl⟩)))))
    · rw [pk_un e]; exact h g (by omega)
  | succ j ih =>
    intro g hg
    rw [rd_fo]
    by_cases c : L (b + j) = 0 ∧ 0 ≤ pl_gr (V (b + j))
    · rw [if_pos c]
      obtain ⟨k, k1, k2, k3, k4⟩ := fc_grI _ c.2
      rw [k3]
      by_cases e : g = k
      · subst e; rw [pk_us]; exact k4
      · rw [pk_un e]; exact ih g hg
    · rw [if_neg c]; exact ih g hg
theorem fc_ff : fc_FV px_ff := by
  intro g hg
  match g, hg with
  | 0, _ => exact Or.inl ⟨rfl, Or.inl rfl⟩
  | 1, _ => exact Or.inr (Or.inl ⟨rfl, Or.inl rfl⟩)
  | 2, _ => exact Or.inr (Or.inr (Or.inl ⟨rfl, Or.inr rfl⟩))
  | 3, _ => exact Or.inr (Or.inr (Or.inr (Or.inl ⟨rfl, Or.inl rfl⟩)))
  | 4, _ => exact Or.inr (Or.inr (Or.inr (Or.inr (Or.inl ⟨rfl, Or.inl rfl⟩))))
theorem fc_cxF (L V M s0 : Nat → Int32) : ∀ n, fc_FV (px_cx L V M s0 n).1 := by
  intro n
  cases n with
  | zero => exact fc_ff
  | succ n =>
    show fc_FV (rd_fo L V (px_cx L V M s0 n).1 (8 * n) (px_n M n))
    induction n with
    | zero => exact fun g hg => fc_fo L V _ _ fc_ff _ g (by omega)
    | succ n ih => exact fun g hg => fc_fo L V _ _ ih _ g (by omega)
theorem fc_F (L V M s0 : Nat → Int32) (n : Nat) : fc_FW (px_F L V M s0 n) := fc_fo L V _ _ (fc_cxF L V M s0 n) _
/-- words lie in their range -/
theorem fc_wd {L V : Nat → Int32} (hV : ∀ k, -3000 ≤ (V k).toInt ∧ (V k).toInt ≤ 3000) (b : Nat) : ∀ j i, -3000 ≤ (rd_wd L V (fun _ => 0) b j i).toInt ∧ (rd_wd L V (fun _ => 0) b j i).toInt ≤ 3000 := by
  intro j
  induction j with
  | zero => intro i; show -3000 ≤ (0 : Int32).toInt ∧ (0 : Int32).toInt ≤ 3000; rw [fc_0]; omega
  | succ j ih =>
    intro i
    rw [rd_wd]
    split
    · exact ih i
    · by_cases e : i = (L (b + j)).toNatClampNeg
      · subst e; rw [pk_us]; exact hV _
      · rw [pk_un e]; exact ih i
theorem fc_sp {L V : Nat → Int32} {s : Int32} (hs : 0 ≤ s.toInt ∧ s.toInt ≤ 1000) (b : Nat) : ∀ j, rd_no L V b j = false → 0 ≤ (rd_sp L V s b j).toInt ∧ (rd_sp L V s b j).toInt ≤ 1000 := by
  intro j
  induction j with
  | zero => intro _; exact hs
  | succ j ih =>
    intro h
    rw [rd_no, Bool.or_eq_false_iff] at h
    rw [rd_sp]
    by_cases c : L (b + j) = 8
    · rw [if_pos c]
      have h2 := h.2
      unfold pl_bad at h2
      rw [decide_eq_false_iff_not] at h2
      have h3 : ¬ (V (b + j) < 1 ∨ 1000 < V (b + j)) := fun z => h2 (Or.inr (Or.inr (Or.inl ⟨c, z⟩)))
      rw [fc_lt, fc_lt, fc_1, fc_1000] at h3
      omega
    · rw [if_neg c]; exact ih h.1
end FCT
end
section
section XRD
/-! bits -/
theorem bi_t (x : Int32) {i : Nat} (hi : i < 32) : ((x >>> (nI i &&& 31)) &&& 1) = 0 ↔ bt x i = false := by
  have e : bt ((x >>> (nI i &&& 31)) &&& 1) 0 = bt x i := by
    rw [b_and, b_sshr i hi x (by omega), if_pos (by omega), Nat.add_zero, show bt 1 0 = true from by decide, Bool.and_true]
  constructor
  · intro h
    rw [h, b_0] at e
    exact e.symm
  · intro h
    apply b_ext
    intro j hj
    rw [b_0, b_and]
    by_cases c : j = 0
    · subst c
      rw [← b_and, e]; exact h
    · rw [(by decide +kernel : ∀ j, j < 32 → ¬ j = 0 → bt 1 j = false) j hj c, Bool.and_false]
theorem bi_s (x : Int32) {i : Nat} (hi : i < 32) : ∀ j, j < 32 → bt (x ||| ((1 : Int32) <<< (nI i &&& 31))) j = (if j = i then true else bt x j) := by
  intro j hj
  rw [b_or, b_shl i hi 1 hj]
  by_cases c : j = i
  · subst c
    rw [if_pos rfl, Nat.sub_self, show bt 1 0 = true from by decide, decide_eq_true (Nat.le_refl _)]
    simp
  · rw [if_neg c]
    by_cases d : i ≤ j
    · rw [(by decide +kernel : ∀ j, j < 32 → ¬ j = 0 → bt 1 j = false) (j - i) (by omega) (by omega)]
      simp
    · rw [decide_eq_false d]
      simp
theorem bi_0 : ∀ i, bt 0 i = false := b_0
theorem bo_1 : bo_I true = 1 := rfl
theorem bo_0 : bo_I false = 0 := rfl
theorem bo_ne : ¬ bo_I true = 0 := by decide
theorem bo_e (b : Bool) : bo_I b = 0 ↔ b = false := by cases b <;> decide
theorem gr_neg (x : Int32) : pl_gr x < 0 ↔ pl_gr x = -1 := by
  rcases fc_gr x with e | ⟨g, h1, h2, h3⟩
  · rw [e]; decide
  · rw [h2]
    constructor
    · intro h; exact absurd h (nI_pos (by omega))
    · intro h
      exfalso
      have := nI_pos (n := g) (by omega)
      rw [h] at this
      exact this (by decide)
section
variable {f_lines f_fastest f_gain f_bend f_ahead f_mode f_holds f_pace f_line f_gone f_dwellLeft f_stepsInAll f_ticksInAll f_speed f_present f_laid : Int32} {a_wordCounts a_letters a_values a_limits a_switches a_tool a_inForce a_origins a_given a_rows a_probe a_motions a_thirds a_centres a_steps a_paces a_dwells a_marks a_nexts a_joints : Nat → Int32}
theorem xl_gr {post : Int32 → Prop} {p : Int32} (h : post (pl_gr p)) : wpX_groupOf post (f_lines, f_fastest, f_gain, f_bend, f_ahead, f_mode, f_holds, f_pace, f_line, f_gone, f_dwellLeft, f_stepsInAll, f_ticksInAll, f_speed, f_present, f_laid, a_wordCounts, a_letters, a_values, a_limits, a_switches, a_tool, a_inForce, a_origins, a_given, a_rows, a_probe, a_motions, a_thirds, a_centres, a_steps, a_paces, a_dwells, a_marks, a_nexts, a_joints) p := by
  have g25 : ¬ (0 ≤ p ∧ p ≤ 3) → ¬ (17 ≤ p ∧ p ≤ 19) → wX_groupOf_25 post p f_lines f_fastest f_gain f_bend f_ahead f_mode f_holds f_pace f_line f_gone f_dwellLeft f_stepsInAll f_ticksInAll f_speed f_present f_laid a_wordCounts a_letters a_values a_limits a_switches a_tool a_inForce a_origins a_given a_rows a_probe a_motions a_thirds a_centres a_steps a_paces a_dwells a_marks a_nexts a_joints := by
    intro a b
    unfold pl_gr at h
    rw [if_neg a, if_neg b] at h
    unfold wX_groupOf_25
    refine br_c (fun c => ?_) (fun c1 => br_c (fun c => ?_) (fun c2 => ?_))
    · rw [if_pos (Or.inl c)] at h; exact h
    · rw [if_pos (Or.inr c)] at h; exact h
    rw [if_neg (fun z => z.elim c1 c2)] at h
    refine br_c (fun c => ?_) (fun c1 => br_c (fun c => ?_) (fun c2 => ?_))
    · rw [if_pos (Or.inl c)] at h; exact h
    · rw [if_pos (Or.inr c)] at h; exact h
    rw [if_neg (fun z => z.elim c1 c2)] at h
    refine br_c (fun c => ?_) (fun c1 => br_c (fun c => ?_) (fun c2 => ?_))
    · rw [if_pos (Or.inl c)] at h; exact h
    · rw [if_pos (Or.inr c)] at h; exact h
    rw [if_neg (fun z => z.elim c1 c2)] at h
    refine br_c (fun c => ?_) (fun c1 => br_c (fun c => ?_) (fun c2 => br_c (fun c => ?_) (fun c3 => br_c (fun c => ?_) (fun c4 => ?_))))
    · rw [if_pos (Or.inl c)] at h; exact h
    · rw [if_pos (Or.inr (Or.inl c))] at h; exact h
    · rw [if_pos (Or.inr (Or.inr (Or.inl c)))] at h; exact h
    · rw [if_pos (Or.inr (Or.inr (Or.inr c)))] at h; exact h
    · rw [if_neg (fun z => z.elim c1 (fun z => z.elim c2 (fun z => z.elim c3 c4)))] at h; exact h
  have g11 : ¬ (0 ≤ p ∧ p ≤ 3) → wX_groupOf_11 post p f_lines f_fastest f_gain f_bend f_ahead f_mode f_holds f_pace f_line f_gone f_dwellLeft f_stepsInAll f_ticksInAll f_speed f_present f_laid a_wordCounts a_letters a_values a_limits a_switches a_tool a_inForce a_origins a_given a_rows a_probe a_motions a_thirds a_centres a_steps a_paces a_dwells a_marks a_nexts a_joints := by
    intro a
    unfold wX_groupOf_11
    refine br_c (fun b => g25 a (fun z => Int32.not_lt.mpr z.1 b)) (fun b => br_c (fun c => g25 a (fun z => Int32.not_lt.mpr z.2 c)) (fun c => ?_))
    unfold pl_gr at h
    rw [if_neg a, if_pos ⟨Int32.not_lt.mp b, Int32.not_lt.mp c⟩] at h
    exact h
  unfold wpX_groupOf
  refine br_c (fun b => g11 (fun z => Int32.not_lt.mpr z.1 b)) (fun b => br_c (fun c => g11 (fun z => Int32.not_lt.mpr z.2 c)) (fun c => ?_))
  unfold pl_gr at h
  rw [if_pos ⟨Int32.not_lt.mp b, Int32.not_lt.mp c⟩] at h
  exact h
theorem xl_kn {post : Int32 → Prop} {l x : Int32} (h : post (bo_I (!pl_bad l x))) : wpX_isKnown post (f_lines, f_fastest, f_gain, f_bend, f_ahead, f_mode, f_holds, f_pace, f_line, f_gone, f_dwellLeft, f_stepsInAll, f_ticksInAll, f_speed, f_present, f_laid, a_wordCounts, a_letters, a_values, a_limits, a_switches, a_tool, a_inForce, a_origins, a_given, a_rows, a_probe, a_motions, a_thirds, a_centres, a_steps, a_paces, a_dwells, a_marks, a_nexts, a_joints) l x := by
  have good : pl_bad l x = false → post 1 := by intro e; rw [e] at h; exact h
  have bad : pl_bad l x = true → post 0 := by intro e; rw [e] at h; exact h
  have ng : ∀ l' : Int32, l = l' → ¬ l' = 0 → ¬ l' = 1 → ¬ l' = 8 → ¬ l' = 9 → post 1 := by
    intro l' e a b c d
    subst e
    refine good (decide_eq_false ?_)
    rintro (z | z | z | z)
    · exact a z.1
    · exact b z.1
    · exact c z.1
    · exact d z.1
  unfold wpX_isKnown
  refine br_c (fun a => ?_) (fun a => br_c (fun b => ?_) (fun b => br_c (fun c => ?_) (fun c0 => br_c (fun c => ?_) (fun c1 =>
    br_c (fun c => ng 2 c (by decide) (by decide) (by decide) (by decide)) (fun c2 => br_c (fun c => ng 3 c (by decide) (by decide) (by decide) (by decide)) (fun c3 =>
    br_c (fun c => ng 4 c (by decide) (by decide) (by decide) (by decide)) (fun c4 => br_c (fun c => ng 5 c (by decide) (by decide) (by decide) (by decide)) (fun c5 =>
    br_c (fun c => ng 6 c (by decide) (by decide) (by decide) (by decide)) (fun c6 => br_c (fun c => ng 7 c (by decide) (by decide) (by decide) (by decide)) (fun c7 =>
    br_c (fun c => ?_) (fun c8 => br_c (fun c => ?_) (fun c9 => trivial))))))))))))
  · refine ng l rfl ?_ ?_ ?_ ?_ <;> (intro z; rw [z] at a; exact absurd a (by decide))
  · refine ng l rfl ?_ ?_ ?_ ?_ <;> (intro z; rw [z] at b; exact absurd b (by decide))
  · refine xl_gr (br_c (fun d => bad (decide_eq_true (Or.inl ⟨c, (gr_neg x).mpr d⟩))) (fun d => good (decide_eq_false ?_)))
    rintro (z | z | z | z)
    · exact d ((gr_neg x).mp z.2)
    · rw [c] at z; exact absurd z.1 (by decide)
    · rw [c] at z; exact absurd z.1 (by decide)
    · rw [c] at z; exact absurd z.1 (by decide)
  · have nb : (x = 0 ∨ x = 2) → pl_bad l x = false := by
      intro y
      refine decide_eq_false ?_
      rintro (z | z | z | z)
      · exact c0 z.1
      · exact y.elim z.2.1 z.2.2
      · rw [c] at z; exact absurd z.1 (by decide)
      · rw [c] at z; exact absurd z.1 (by decide)
    exact br_c (fun d => good (nb (Or.inl d))) (fun d => br_c (fun e => good (nb (Or.inr e))) (fun e => bad (decide_eq_true (Or.inr (Or.inl ⟨c, d, e⟩)))))
  · refine br_c (fun d => bad (decide_eq_true (Or.inr (Or.inr (Or.inl ⟨c, Or.inl d⟩))))) (fun d => br_c (fun e => bad (decide_eq_true (Or.inr (Or.inr (Or.inl ⟨c, Or.inr e⟩))))) (fun e => good (decide_eq_false ?_)))
    rintro (z | z | z | z)
    · exact c0 z.1
    · exact c1 z.1
    · exact z.2.elim d e
    · rw [c] at z; exact absurd z.1 (by decide)
  · refine br_c (fun d => bad (decide_eq_true (Or.inr (Or.inr (Or.inr ⟨c, Or.inl d⟩))))) (fun d => br_c (fun e => bad (decide_eq_true (Or.inr (Or.inr (Or.inr ⟨c, Or.inr e⟩))))) (fun e => good (decide_eq_false ?_)))
    rintro (z | z | z | z)
    · exact c0 z.1
    · exact c1 z.1
    · exact c8 z.1
    · exact z.2.elim d e
theorem xl_has {post : Int32 → Prop} {p : Int32} (i : Nat) (hi : i < 32) (hp : p = nI i) (h : post (bo_I (bt f_present i))) : wpX_has post (f_lines, f_fastest, f_gain, f_bend, f_ahead, f_mode, f_holds, f_pace, f_line, f_gone, f_dwellLeft, f_stepsInAll, f_ticksInAll, f_speed, f_present, f_laid, a_wordCounts, a_letters, a_values, a_limits, a_switches, a_tool, a_inForce, a_origins, a_given, a_rows, a_probe, a_motions, a_thirds, a_centres, a_steps, a_paces, a_dwells, a_marks, a_nexts, a_joints) p := by
  subst hp
  unfold wpX_has
  refine br_c (fun a => ?_) (fun a => ?_)
  · rw [(bi_t f_present hi).mp a] at h; exact h
  · cases e : bt f_present i
    · exact absurd ((bi_t f_present hi).mpr e) a
    · rw [e] at h; exact h
/-! the words of a line -/
theorem xl_r17 {post : Int32 → SX → Prop} {b c : Nat} (hc : b + c ≤ 240)
    (h1 : rd_no a_letters a_values b c = true → post 1 (f_lines, f_fastest, f_gain, f_bend, f_ahead, f_mode, f_holds, f_pace, f_line, f_gone, f_dwellLeft, f_stepsInAll, f_ticksInAll, f_speed, f_present, f_laid, a_wordCounts, a_letters, a_values, a_limits, a_switches, a_tool, a_inForce, a_origins, a_given, a_rows, a_probe, a_motions, a_thirds, a_centres, a_steps, a_paces, a_dwells, a_marks, a_nexts, a_joints))
    (h0 : rd_no a_letters a_values b c = false → ∃ n, wX_readWords_70 post (nI (b + c)) f_lines f_fastest f_gain f_bend f_ahead f_mode f_holds f_pace f_line f_gone f_dwellLeft f_stepsInAll f_ticksInAll f_speed f_laid n 0 (nI b) 0 a_wordCounts a_letters a_values a_limits a_switches a_tool (upd a_inForce 5 (-1)) a_origins a_given a_rows a_probe a_motions a_thirds a_centres a_steps a_paces a_dwells a_marks a_nexts a_joints) :
    ∀ d j, j + d = c → rd_no a_letters a_values b j = false → wX_readWords_17 post (nI b) (nI (b + c)) f_lines f_fastest f_gain f_bend f_ahead f_mode f_holds f_pace f_line f_gone f_dwellLeft f_stepsInAll f_ticksInAll f_speed f_present f_laid a_wordCounts a_letters a_values a_limits a_switches a_tool a_inForce a_origins a_given a_rows a_probe a_motions a_thirds a_centres a_steps a_paces a_dwells a_marks a_nexts a_joints (d + 1) (nI (b + j)) := by
  intro d
  induction d with
  | zero =>
    intro j hj hn
    obtain rfl : j = c := by omega
    exact br_t (nI_le (Nat.le_refl _) (by omega)) (nm_e (h0 hn))
  | succ d ih =>
    intro j hj hn
    have hin : vp_in (nI (b + j)) 240 := vp_in_nI (by omega) (by omega)
    refine br_f (nI_ge (by omega) (by omega)) ⟨hin, hin, ?_⟩
    rw [nI_clamp (by omega)]
    refine xl_kn ?_
    have e : rd_no a_letters a_values b (j + 1) = pl_bad (a_letters (b + j)) (a_values (b + j)) := by rw [rd_no, hn]; rfl
    cases k : pl_bad (a_letters (b + j)) (a_values (b + j))
    · refine br_f bo_ne (nm_r (nI_1 (b + j)) ?_)
      exact ih (j + 1) (by omega) (e.trans k)
    · refine br_t rfl (h1 ?_)
      have mono : ∀ m, rd_no a_letters a_values b (j + 1 + m) = true := by
        intro m
        induction m with
        | zero => exact e.trans k
        | succ m ihm => rw [← Nat.add_assoc, rd_no, ihm]; rfl
      have := mono (c - (j + 1))
      rwa [show j + 1 + (c - (j + 1)) = c by omega] at this
end
end XRD
end
section
section XR2
theorem rd_noj {L V : Nat → Int32} {b c : Nat} (h : rd_no L V b c = false) : ∀ j, j < c → pl_bad (L (b + j)) (V (b + j)) = false := by
  induction c with
  | zero => intro j hj; omega
  | succ c ih =>
    intro j hj
    rw [rd_no, Bool.or_eq_false_iff] at h
    by_cases e : j = c
    · subst e; exact h.2
    · exact ih h.1 j (by omega)
theorem rd_twm {L V : Nat → Int32} {b j : Nat} (h : rd_tw L V b j = true) : ∀ c, j ≤ c → rd_tw L V b c = true := by
  intro c hc
  obtain ⟨m, rfl⟩ := Nat.le.dest hc
  clear hc
  induction m with
  | zero => exact h
  | succ m ih => rw [← Nat.add_assoc, rd_tw, ih]; rfl
theorem rd_let {l : Int32} (h : 0 ≤ l.toInt ∧ l.toInt ≤ 9) : ∃ k, k < 10 ∧ l = nI k ∧ l.toNatClampNeg = k := by
  obtain ⟨k, h1, h2⟩ := nI_of (x := l) (by rw [fc_lt, fc_0]; omega)
  have : k < 10 := by
    have e := h.2
    rw [h2, nI_toInt h1] at e
    omega
  exact ⟨k, this, h2, by rw [h2, nI_clamp h1]⟩
theorem rd_fohi (L V f0 : Nat → Int32) (b : Nat) : ∀ j g, 6 ≤ g → rd_fo L V f0 b j g = f0 g := by
  intro j
  induction j with
  | zero => intro g hg; exact pk_un (by omega)
  | succ j ih =>
    intro g hg
    rw [rd_fo]
    by_cases c : L (b + j) = 0 ∧ 0 ≤ pl_gr (V (b + j))
    · rw [if_pos c]
      obtain ⟨k, k1, k2, k3, k4⟩ := fc_grI _ c.2
      rw [k3, pk_un (by omega)]
      exact ih g hg
    · rw [if_neg c]; exact ih g hg
theorem rd_foe {L V f f' : Nat → Int32} {b : Nat} (h : ∀ g, g ≠ 5 → f g = f' g) : ∀ j, rd_fo L V f b j = rd_fo L V f' b j := by
  intro j
  induction j with
  | zero =>
    funext g
    show upd f 5 (-1) g = upd f' 5 (-1) g
    by_cases e : g = 5
    · subst e; rw [pk_us, pk_us]
    · rw [pk_un e, pk_un e, h g e]
  | succ j ih => rw [rd_fo, rd_fo, ih]
theorem rd_wde {L V w w' : Nat → Int32} {b : Nat} : ∀ j i, rd_hs L b j i = true → rd_wd L V w b j i = rd_wd L V w' b j i := by
  intro j
  induction j with
  | zero => intro i h; exact absurd (show false = true from h) (by decide)
  | succ j ih =>
    intro i h
    rw [rd_hs] at h
    rw [rd_wd, rd_wd]
    by_cases c : L (b + j) = 0
    · rw [if_pos c] at h ⊢; rw [if_pos c]; exact ih i h
    · rw [if_neg c] at h ⊢
      rw [if_neg c]
      by_cases e : i = (L (b + j)).toNatClampNeg
      · subst e; rw [pk_us, pk_us]
      · rw [pk_un e, pk_un e]
        rw [if_neg e] at h
        exact ih i h
theorem rd_M {L V w : Nat → Int32} {b : Nat} (hL : ∀ k, 0 ≤ (L k).toInt ∧ (L k).toInt ≤ 9) : ∀ j, rd_no L V b j = false → rd_hs L b j 1 = true → rd_wd L V w b j 1 = 0 ∨ rd_wd L V w b j 1 = 2 := by
  intro j
  induction j with
  | zero => intro _ h; exact absurd (show false = true from h) (by decide)
  | succ j ih =>
    intro hn h
    rw [rd_no, Bool.or_eq_false_iff] at hn
    rw [rd_hs] at h
    rw [rd_wd]
    by_cases c : L (b + j) = 0
    · rw [if_pos c] at h ⊢; exact ih hn.1 h
    · rw [if_neg c] at h ⊢
      obtain ⟨k, k1, k2, k3⟩ := rd_let (hL (b + j))
      rw [k3] at h ⊢
      by_cases e : 1 = k
      · subst e
        rw [pk_us]
        have hb := hn.2
        unfold pl_bad at hb
        rw [decide_eq_false_iff_not] at hb
        by_cases z : V (b + j) = 0
        · exact Or.inl z
        · by_cases z2 : V (b + j) = 2
          · exact Or.inr z2
          · exact absurd (Or.inr (Or.inl ⟨k2, z, z2⟩)) hb
      · rw [pk_un e]
        rw [if_neg e] at h
        exact ih hn.1 h
theorem rd_8 {L V : Nat → Int32} {w0 : Nat → Int32} {s0 : Int32} {b : Nat} (hL : ∀ k, 0 ≤ (L k).toInt ∧ (L k).toInt ≤ 9) :
    ∀ j, (if rd_hs L b j 8 = true then rd_wd L V w0 b j 8 else s0) = rd_sp L V s0 b j := by
  intro j
  induction j with
  | zero => rfl
  | succ j ih =>
    rw [rd_hs, rd_wd, rd_sp]
    obtain ⟨k, k1, k2, k3⟩ := rd_let (hL (b + j))
    by_cases c : L (b + j) = 0
    · have n8 : ¬ L (b + j) = 8 := by rw [c]; decide
      rw [if_pos c, if_pos c, if_neg n8]
      exact ih
    · rw [if_neg c, if_neg c, k3]
      by_cases e : k = 8
      · subst e
        rw [if_pos (show L (b + j) = 8 from k2), pk_us]
        simp
      · have e' : ¬ (8 : Nat) = k := fun z => e z.symm
        rw [pk_un e']
        have e2 : ¬ L (b + j) = 8 := by
          intro z
          rw [z] at k3
          exact e (k3.symm.trans (by decide))
        rw [if_neg e2]
        simp only [if_neg e']
        exact ih
section
variable {f_lines f_fastest f_gain f_bend f_ahead f_mode f_holds f_pace f_line f_gone f_dwellLeft f_stepsInAll f_ticksInAll f_speed f_present f_laid : Int32} {a_wordCounts a_letters a_values a_limits a_switches a_tool a_inForce a_origins a_given a_rows a_probe a_motions a_thirds a_centres a_steps a_paces a_dwells a_marks a_nexts a_joints : Nat → Int32}
theorem xl_r70 {post : Int32 → SX → Prop} {b c : Nat} (hc : b + c ≤ 240) (hL : ∀ k, 0 ≤ (a_letters k).toInt ∧ (a_letters k).toInt ≤ 9)
    (hn : rd_no a_letters a_values b c = false) (f0 w0 : Nat → Int32)
    (h2 : rd_tw a_letters a_values b c = true → ∀ p F W, (∀ g, 6 ≤ g → F g = f0 g) → post 2 (f_lines, f_fastest, f_gain, f_bend, f_ahead, f_mode, f_holds, f_pace, f_line, f_gone, f_dwellLeft, f_stepsInAll, f_ticksInAll, f_speed, p, f_laid, a_wordCounts, a_letters, a_values, a_limits, a_switches, a_tool, F, a_origins, W, a_rows, a_probe, a_motions, a_thirds, a_centres, a_steps, a_paces, a_dwells, a_marks, a_nexts, a_joints))
    (h0 : rd_tw a_letters a_values b c = false → ∀ p, (∀ i, i < 10 → bt p i = rd_hs a_letters b c i) →
      post 0 (f_lines, f_fastest, f_gain, f_bend, f_ahead, f_mode, f_holds, f_pace, f_line, f_gone, f_dwellLeft, f_stepsInAll, f_ticksInAll, (rd_sp a_letters a_values f_speed b c), p, f_laid, a_wordCounts, a_letters, a_values, a_limits, a_switches, a_tool, (rd_fo a_letters a_values f0 b c), a_origins, (rd_wd a_letters a_values w0 b c), a_rows, a_probe, a_motions, a_thirds, a_centres, a_steps, a_paces, a_dwells, a_marks, a_nexts, a_joints)) :
    ∀ d j gm pm, j + d = c → rd_tw a_letters a_values b j = false → (∀ g, g < 6 → bt gm g = rd_gs a_letters a_values b j g) → (∀ i, i < 10 → bt pm i = rd_hs a_letters b j i) →
      wX_readWords_70 post (nI (b + c)) f_lines f_fastest f_gain f_bend f_ahead f_mode f_holds f_pace f_line f_gone f_dwellLeft f_stepsInAll f_ticksInAll f_speed f_laid (d + 1) gm (nI (b + j)) pm a_wordCounts a_letters a_values a_limits a_switches a_tool (rd_fo a_letters a_values f0 b j) a_origins (rd_wd a_letters a_values w0 b j) a_rows a_probe a_motions a_thirds a_centres a_steps a_paces a_dwells a_marks a_nexts a_joints := by
  intro d
  induction d with
  | zero =>
    intro j gm pm hj ht hg hp
    obtain rfl : j = c := by omega
    refine br_t (nI_le (Nat.le_refl _) (by omega)) (xl_has 8 (by decide) (by decide) ?_)
    have h := h0 ht pm hp
    rw [← rd_8 (w0 := w0) hL, ← hp 8 (by decide)] at h
    cases e : bt pm 8
    · rw [e] at h
      exact br_t rfl h
    · rw [e] at h
      exact br_f bo_ne (nm_e h)
  | succ d ih =>
    intro j gm pm hj ht hg hp
    have hin : vp_in (nI (b + j)) 240 := vp_in_nI (by omega) (by omega)
    have hb := rd_noj hn j (by omega)
    refine br_f (nI_ge (by omega) (by omega)) ⟨hin, ?_⟩
    rw [nI_clamp (by omega)]
    obtain ⟨k, k1, k2, k3⟩ := rd_let (hL (b + j))
    by_cases c0 : a_letters (b + j) = 0
    · refine nm_e (br_t c0 ⟨hin, xl_gr ?_⟩)
      have h0g : 0 ≤ pl_gr (a_values (b + j)) := by
        have : ¬ pl_gr (a_values (b + j)) < 0 := by
          intro z
          unfold pl_bad at hb
          rw [decide_eq_false_iff_not] at hb
          exact hb (Or.inl ⟨c0, z⟩)
        exact Int32.not_lt.mp this
      have hcg : a_letters (b + j) = 0 ∧ 0 ≤ pl_gr (a_values (b + j)) := ⟨c0, h0g⟩
      obtain ⟨g, g6, eg, ec, _⟩ := fc_grI _ h0g
      have et : rd_tw a_letters a_values b (j + 1) = rd_gs a_letters a_values b j g := by
        rw [rd_tw, ht, if_pos c0, ec, decide_eq_true h0g]; rfl
      rw [eg]
      cases eb : rd_gs a_letters a_values b j g
      · refine br_t ((bi_t gm (by omega)).mpr ((hg g g6).trans eb)) (nm_e ⟨hin, vp_in_nI g6 (by omega), nm_e (nm_r (nI_1 (b + j)) ?_)⟩)
        have e1 : rd_fo a_letters a_values f0 b (j + 1) = upd (rd_fo a_letters a_values f0 b j) g (a_values (b + j)) := by
          rw [rd_fo, if_pos hcg, ec]
        have e2 : rd_wd a_letters a_values w0 b (j + 1) = rd_wd a_letters a_values w0 b j := by rw [rd_wd, if_pos c0]
        have e3 : rd_hs a_letters b (j + 1) = rd_hs a_letters b j := by rw [rd_hs, if_pos c0]
        have r := ih (j + 1) (gm ||| ((1 : Int32) <<< (nI g &&& 31))) pm (by omega) (et.trans eb) (by
          intro i hi
          rw [bi_s gm (by omega) i (by omega), rd_gs, if_pos hcg, ec, hg i hi]) (by rw [e3]; exact hp)
        rw [e1, e2] at r
        rw [nI_clamp (by omega)]
        exact r
      · refine br_f (fun z => ?_) (h2 (rd_twm (et.trans eb) c (by omega)) _ _ _ (rd_fohi _ _ _ _ _))
        have := ((bi_t gm (by omega)).mp z).symm.trans ((hg g g6).trans eb)
        exact absurd this (by decide)
    · refine nm_r k2 (br_f (by rw [← k2]; exact c0) (xl_has k (by omega) rfl ?_))
      have et : rd_tw a_letters a_values b (j + 1) = rd_hs a_letters b j k := by
        rw [rd_tw, ht, if_neg c0, k3]; rfl
      rw [hp k k1]
      cases eb : rd_hs a_letters b j k
      · refine br_t rfl (nm_e ⟨hin, vp_in_nI k1 (by omega), nm_e (nm_r (nI_1 (b + j)) ?_)⟩)
        have e1 : rd_fo a_letters a_values f0 b (j + 1) = rd_fo a_letters a_values f0 b j := by
          rw [rd_fo, if_neg (fun z => c0 z.1)]
        have e2 : rd_wd a_letters a_values w0 b (j + 1) = upd (rd_wd a_letters a_values w0 b j) k (a_values (b + j)) := by rw [rd_wd, if_neg c0, k3]
        have r := ih (j + 1) gm (pm ||| ((1 : Int32) <<< (nI k &&& 31))) (by omega) (et.trans eb) (by
          intro i hi
          rw [rd_gs, if_neg (fun z => c0 z.1)]
          exact hg i hi) (by
          intro i hi
          rw [bi_s pm (by omega) i (by omega), rd_hs, if_neg c0, k3, hp i hi])
        rw [e1, e2] at r
        rw [nI_clamp (by omega)]
        exact r
      · exact br_f bo_ne (h2 (rd_twm (et.trans eb) c (by omega)) _ _ _ (rd_fohi _ _ _ _ _))
/-- the words of line n -/
theorem xl_rw {post : Int32 → SX → Prop} {n c : Nat} (hn : n < 30) (hc : c ≤ 8) (hM : a_wordCounts n = nI c) (hL : ∀ k, 0 ≤ (a_letters k).toInt ∧ (a_letters k).toInt ≤ 9)
    (h1 : rd_no a_letters a_values (8 * n) c = true → post 1 (f_lines, f_fastest, f_gain, f_bend, f_ahead, f_mode, f_holds, f_pace, f_line, f_gone, f_dwellLeft, f_stepsInAll, f_ticksInAll, f_speed, f_present, f_laid, a_wordCounts, a_letters, a_values, a_limits, a_switches, a_tool, a_inForce, a_origins, a_given, a_rows, a_probe, a_motions, a_thirds, a_centres, a_steps, a_paces, a_dwells, a_marks, a_nexts, a_joints))
    (h2 : rd_no a_letters a_values (8 * n) c = false → rd_tw a_letters a_values (8 * n) c = true → ∀ p F W, (∀ g, 6 ≤ g → F g = a_inForce g) → post 2 (f_lines, f_fastest, f_gain, f_bend, f_ahead, f_mode, f_holds, f_pace, f_line, f_gone, f_dwellLeft, f_stepsInAll, f_ticksInAll, f_speed, p, f_laid, a_wordCounts, a_letters, a_values, a_limits, a_switches, a_tool, F, a_origins, W, a_rows, a_probe, a_motions, a_thirds, a_centres, a_steps, a_paces, a_dwells, a_marks, a_nexts, a_joints))
    (h0 : rd_no a_letters a_values (8 * n) c = false → rd_tw a_letters a_values (8 * n) c = false → ∀ p, (∀ i, i < 10 → bt p i = rd_hs a_letters (8 * n) c i) →
      post 0 (f_lines, f_fastest, f_gain, f_bend, f_ahead, f_mode, f_holds, f_pace, f_line, f_gone, f_dwellLeft, f_stepsInAll, f_ticksInAll, (rd_sp a_letters a_values f_speed (8 * n) c), p, f_laid, a_wordCounts, a_letters, a_values, a_limits, a_switches, a_tool, (rd_fo a_letters a_values a_inForce (8 * n) c), a_origins, (rd_wd a_letters a_values a_given (8 * n) c), a_rows, a_probe, a_motions, a_thirds, a_centres, a_steps, a_paces, a_dwells, a_marks, a_nexts, a_joints)) :
    wpX_readWords post (f_lines, f_fastest, f_gain, f_bend, f_ahead, f_mode, f_holds, f_pace, f_line, f_gone, f_dwellLeft, f_stepsInAll, f_ticksInAll, f_speed, f_present, f_laid, a_wordCounts, a_letters, a_values, a_limits, a_switches, a_tool, a_inForce, a_origins, a_given, a_rows, a_probe, a_motions, a_thirds, a_centres, a_steps, a_paces, a_dwells, a_marks, a_nexts, a_joints) (nI n) := by
  unfold wpX_readWords
  refine nm_r (e' := nI (8 * n)) (by rw [show (8 : Int32) = nI 8 from rfl, pk_mul, Nat.mul_comm]) ⟨vp_in_nI hn (by omega), ?_⟩
  rw [nI_clamp (by omega), hM]
  refine nm_r (nI_add (8 * n) c) ⟨c + 1, ?_⟩
  refine xl_r17 (by omega) h1 (fun e => ⟨c + 1, ?_⟩) c 0 (by omega) rfl
  exact xl_r70 (by omega) hL e a_inForce a_given (h2 e) (h0 e) c 0 0 0 (by omega) rfl (fun g _ => b_0 g) (fun i _ => b_0 i)
end
end XR2
end
section
section XMX
theorem bi_m (x m : Int32) (P : Nat → Bool) (hm : ∀ i, i < 32 → bt m i = P i) : (x &&& m) = 0 ↔ ∀ i, i < 32 → P i = true → bt x i = false := by
  constructor
  · intro h i hi p
    have e := b_and x m i
    rw [h, b_0, hm i hi, p, Bool.and_true] at e
    exact e.symm
  · intro h
    apply b_ext
    intro i hi
    rw [b_0, b_and, hm i hi]
    cases e : P i
    · rw [Bool.and_false]
    · rw [h i hi e]; rfl
theorem bi_28 (x : Int32) : (x &&& 28) = 0 ↔ (bt x 2 || bt x 3 || bt x 4) = false := by
  rw [bi_m x 28 (fun i => decide (i = 2 ∨ i = 3 ∨ i = 4)) (by decide +kernel)]
  constructor
  · intro h
    rw [h 2 (by decide) (by decide), h 3 (by decide) (by decide), h 4 (by decide) (by decide)]; rfl
  · intro h i _ p
    rw [Bool.or_eq_false_iff, Bool.or_eq_false_iff] at h
    rcases of_decide_eq_true p with e | e | e <;> subst e
    · exact h.1.1
    · exact h.1.2
    · exact h.2
theorem bi_224 (x : Int32) : (x &&& 224) = 0 ↔ (bt x 5 || bt x 6 || bt x 7) = false := by
  rw [bi_m x 224 (fun i => decide (i = 5 ∨ i = 6 ∨ i = 7)) (by decide +kernel)]
  constructor
  · intro h
    rw [h 5 (by decide) (by decide), h 6 (by decide) (by decide), h 7 (by decide) (by decide)]; rfl
  · intro h i _ p
    rw [Bool.or_eq_false_iff, Bool.or_eq_false_iff] at h
    rcases of_decide_eq_true p with e | e | e <;> subst e
    · exact h.1.1
    · exact h.1.2
    · exact h.2
theorem mi_3 {post : Int32 → Prop} {F : Nat → Int32} {H : Nat → Bool} {S : Int32} (h : post (pl_mi F H S)) :
    (H 9 = true ∧ ¬ F 5 = 4 ∨ H 9 = false ∧ F 5 = 4 → post 3) ∧ (pl_ce H = true ∧ (¬ 1 < F 0 ∨ 0 ≤ F 5) → post 3) ∧
    (pl_na H = true ∧ F 5 = 4 ∨ pl_na H = false ∧ (F 5 = 28 ∨ F 5 = 53 ∨ F 5 = 92) → post 3) ∧
    ((F 5 = 28 ∨ F 5 = 53) ∧ F 3 = 91 ∨ F 5 = 53 ∧ 1 < F 0 → post 3) ∧
    (¬ (H 9 = true ∧ ¬ F 5 = 4 ∨ H 9 = false ∧ F 5 = 4) → ¬ (pl_ce H = true ∧ (¬ 1 < F 0 ∨ 0 ≤ F 5)) →
      ¬ (pl_na H = true ∧ F 5 = 4 ∨ pl_na H = false ∧ (F 5 = 28 ∨ F 5 = 53 ∨ F 5 = 92)) → ¬ ((F 5 = 28 ∨ F 5 = 53) ∧ F 3 = 91 ∨ F 5 = 53 ∧ 1 < F 0) →
      post (if pl_mv F H = true ∧ 0 < F 0 ∧ S = 0 then 4 else 0)) := by
  unfold pl_mi at h
  refine ⟨fun c => ?_, fun c => ?_, fun c => ?_, fun c => ?_, fun c1 c2 c3 c4 => ?_⟩
  · rw [if_pos c] at h; exact h
  · split at h
    · exact h
    · first | exact h | (rw [if_pos c] at h; exact h)
  · split at h
    · exact h
    · split at h
      · exact h
      · first | exact h | (rw [if_pos c] at h; exact h)
  · split at h
    · exact h
    · split at h
      · exact h
      · split at h
        · exact h
        · first | exact h | (rw [if_pos c] at h; exact h)
  · rw [if_neg c1, if_neg c2, if_neg c3, if_neg c4] at h; exact h
theorem fv_0 {F : Nat → Int32} (h : fc_FW F) : F 0 = 0 ∨ F 0 = 1 ∨ F 0 = 2 ∨ F 0 = 3 := by
  rcases h 0 (by decide) with z | z | z | z | z | z | z
  · exact z.2
  all_goals first | exact absurd z.1 (by decide) | exact absurd z (by decide)
theorem fv_1 {F : Nat → Int32} (h : fc_FW F) : F 1 = 17 ∨ F 1 = 18 ∨ F 1 = 19 := by
  rcases h 1 (by decide) with z | z | z | z | z | z | z
  · exact absurd z.1 (by decide)
  · exact z.2
  all_goals first | exact absurd z.1 (by decide) | exact absurd z (by decide)
theorem fv_2 {F : Nat → Int32} (h : fc_FW F) : F 2 = 20 ∨ F 2 = 21 := by
  rcases h 2 (by decide) with z | z | z | z | z | z | z
  · exact absurd z.1 (by decide)
  · exact absurd z.1 (by decide)
  · exact z.2
  all_goals first | exact absurd z.1 (by decide) | exact absurd z (by decide)
theorem fv_3 {F : Nat → Int32} (h : fc_FW F) : F 3 = 90 ∨ F 3 = 91 := by
  rcases h 3 (by decide) with z | z | z | z | z | z | z
  · exact absurd z.1 (by decide)
  · exact absurd z.1 (by decide)
  · exact absurd z.1 (by decide)
  · exact z.2
  all_goals first | exact absurd z.1 (by decide) | exact absurd z (by decide)
theorem fv_4 {F : Nat → Int32} (h : fc_FW F) : F 4 = 54 ∨ F 4 = 55 := by
  rcases h 4 (by decide) with z | z | z | z | z | z | z
  · exact absurd z.1 (by decide)
  · exact absurd z.1 (by decide)
  · exact absurd z.1 (by decide)
  · exact absurd z.1 (by decide)
  · exact z.2
  all_goals first | exact absurd z.1 (by decide) | exact absurd z (by decide)
theorem fv_5 {F : Nat → Int32} (h : fc_FW F) : F 5 = -1 ∨ F 5 = 4 ∨ F 5 = 28 ∨ F 5 = 53 ∨ F 5 = 92 := by
  rcases h 5 (by decide) with z | z | z | z | z | z | z
  · exact absurd z.1 (by decide)
  · exact absurd z.1 (by decide)
  · exact absurd z.1 (by decide)
  · exact absurd z.1 (by decide)
  · exact absurd z.1 (by decide)
  · exact z.2
  · exact absurd z (by decide)
theorem fv_5n {F : Nat → Int32} (h : fc_FW F) : 0 ≤ F 5 ↔ ¬ F 5 = -1 := by
  rcases fv_5 h with e | e | e | e | e <;> rw [e] <;> decide
theorem fv_5l {F : Nat → Int32} (h : fc_FW F) : F 5 < 0 ↔ F 5 = -1 := by
  rcases fv_5 h with e | e | e | e | e <;> rw [e] <;> decide
theorem fv_0r {F : Nat → Int32} (h : fc_FW F) : 1 < F 0 ↔ ¬ F 0 < 2 := by
  rcases fv_0 h with e | e | e | e <;> rw [e] <;> decide
theorem fv_0p {F : Nat → Int32} (h : fc_FW F) : 0 < F 0 ↔ ¬ F 0 = 0 := by
  rcases fv_0 h with e | e | e | e <;> rw [e] <;> decide
section
variable {f_lines f_fastest f_gain f_bend f_ahead f_mode f_holds f_pace f_line f_gone f_dwellLeft f_stepsInAll f_ticksInAll f_speed f_present f_laid : Int32} {a_wordCounts a_letters a_values a_limits a_switches a_tool a_inForce a_origins a_given a_rows a_probe a_motions a_thirds a_centres a_steps a_paces a_dwells a_marks a_nexts a_joints : Nat → Int32}
theorem xl_mv {post : Int32 → Prop} {H : Nat → Bool} (hF : fc_FW a_inForce) (hH : ∀ i, i < 10 → bt f_present i = H i) (h : post (bo_I (pl_mv a_inForce H))) : wpX_moves post (f_lines, f_fastest, f_gain, f_bend, f_ahead, f_mode, f_holds, f_pace, f_line, f_gone, f_dwellLeft, f_stepsInAll, f_ticksInAll, f_speed, f_present, f_laid, a_wordCounts, a_letters, a_values, a_limits, a_switches, a_tool, a_inForce, a_origins, a_given, a_rows, a_probe, a_motions, a_thirds, a_centres, a_steps, a_paces, a_dwells, a_marks, a_nexts, a_joints) := by
  have na : (f_present &&& 28) = 0 ↔ pl_na H = false := by
    rw [bi_28, hH 2 (by decide), hH 3 (by decide), hH 4 (by decide)]; rfl
  have ce : (f_present &&& 224) = 0 ↔ pl_ce H = false := by
    rw [bi_224, hH 5 (by decide), hH 6 (by decide), hH 7 (by decide)]; rfl
  have p1 : pl_mv a_inForce H = true → post 1 := by intro e; rw [e] at h; exact h
  have p0 : pl_mv a_inForce H = false → post 0 := by intro e; rw [e] at h; exact h
  have m20 : (a_inForce 5 < 0 ∨ a_inForce 5 = 53) → wX_moves_20 post f_lines f_fastest f_gain f_bend f_ahead f_mode f_holds f_pace f_line f_gone f_dwellLeft f_stepsInAll f_ticksInAll f_speed f_present f_laid a_wordCounts a_letters a_values a_limits a_switches a_tool a_inForce a_origins a_given a_rows a_probe a_motions a_thirds a_centres a_steps a_paces a_dwells a_marks a_nexts a_joints := by
    intro o
    unfold wX_moves_20
    refine br_c (fun a => br_c (fun b => p0 (decide_eq_false ?_)) (fun b => br_c (fun c => p0 (decide_eq_false ?_)) (fun c => p1 (decide_eq_true ?_)))) (fun a => p1 (decide_eq_true ?_))
    · rintro ⟨_, z | z⟩
      · rw [na.mp a] at z; exact absurd z (by decide)
      · exact (fv_0r hF).mp z.1 b
    · rintro ⟨_, z | z⟩
      · rw [na.mp a] at z; exact absurd z (by decide)
      · rw [ce.mp c] at z; exact absurd z.2 (by decide)
    · refine ⟨o, Or.inr ⟨(fv_0r hF).mpr b, ?_⟩⟩
      cases e : pl_ce H
      · exact absurd (ce.mpr e) c
      · rfl
    · refine ⟨o, Or.inl ?_⟩
      cases e : pl_na H
      · exact absurd (na.mpr e) a
      · rfl
  unfold wpX_moves
  refine nm_e (br_c (fun a => m20 (Or.inl ((fv_5l hF).mpr a))) (fun a => br_c (fun b => m20 (Or.inr b)) (fun b => p0 (decide_eq_false ?_))))
  rintro ⟨z | z, _⟩
  · exact a ((fv_5l hF).mp z)
  · exact b z
theorem xl_mi {post : Int32 → Prop} {H : Nat → Bool} (hF : fc_FW a_inForce) (hH : ∀ i, i < 10 → bt f_present i = H i) (h : post (pl_mi a_inForce H f_speed)) : wpX_mixFault post (f_lines, f_fastest, f_gain, f_bend, f_ahead, f_mode, f_holds, f_pace, f_line, f_gone, f_dwellLeft, f_stepsInAll, f_ticksInAll, f_speed, f_present, f_laid, a_wordCounts, a_letters, a_values, a_limits, a_switches, a_tool, a_inForce, a_origins, a_given, a_rows, a_probe, a_motions, a_thirds, a_centres, a_steps, a_paces, a_dwells, a_marks, a_nexts, a_joints) := by
  have na : (f_present &&& 28) = 0 ↔ pl_na H = false := by
    rw [bi_28, hH 2 (by decide), hH 3 (by decide), hH 4 (by decide)]; rfl
  have ce : (f_present &&& 224) = 0 ↔ pl_ce H = false := by
    rw [bi_224, hH 5 (by decide), hH 6 (by decide), hH 7 (by decide)]; rfl
  obtain ⟨p1, p2, p3, p4, p5⟩ := mi_3 h
  have nf : ∀ {b : Bool}, ¬ bo_I b = 0 → b = true := by
    intro b e; cases b
    · exact absurd rfl e
    · rfl
  have yf : ∀ {b : Bool}, bo_I b = 0 → b = false := by
    intro b e; cases b
    · rfl
    · exact absurd e bo_ne
  have m179 : ¬ (H 9 = true ∧ ¬ a_inForce 5 = 4 ∨ H 9 = false ∧ a_inForce 5 = 4) → ¬ (pl_ce H = true ∧ (¬ 1 < a_inForce 0 ∨ 0 ≤ a_inForce 5)) →
      ¬ (pl_na H = true ∧ a_inForce 5 = 4 ∨ pl_na H = false ∧ (a_inForce 5 = 28 ∨ a_inForce 5 = 53 ∨ a_inForce 5 = 92)) →
      ¬ ((a_inForce 5 = 28 ∨ a_inForce 5 = 53) ∧ a_inForce 3 = 91 ∨ a_inForce 5 = 53 ∧ 1 < a_inForce 0) → wX_mixFault_179 post f_lines f_fastest f_gain f_bend f_ahead f_mode f_holds f_pace f_line f_gone f_dwellLeft f_stepsInAll f_ticksInAll f_speed f_present f_laid a_wordCounts a_letters a_values a_limits a_switches a_tool a_inForce a_origins a_given a_rows a_probe a_motions a_thirds a_centres a_steps a_paces a_dwells a_marks a_nexts a_joints := by
    intro c1 c2 c3 c4
    have q := p5 c1 c2 c3 c4
    unfold wX_mixFault_179
    refine xl_mv hF hH ?_
    refine br_c (fun a => ?_) (fun a => br_c (fun b => ?_) (fun b => br_c (fun c => ?_) (fun c => ?_)))
    · rw [if_neg (by rw [yf a]; intro z; exact absurd z.1 (by decide))] at q; exact q
    · rw [if_neg (by intro z; exact (fv_0p hF).mp z.2.1 b)] at q; exact q
    · rw [if_pos ⟨nf a, (fv_0p hF).mpr b, c⟩] at q; exact q
    · rw [if_neg (by intro z; exact c z.2.2)] at q; exact q
  have m166 : ¬ (H 9 = true ∧ ¬ a_inForce 5 = 4 ∨ H 9 = false ∧ a_inForce 5 = 4) → ¬ (pl_ce H = true ∧ (¬ 1 < a_inForce 0 ∨ 0 ≤ a_inForce 5)) →
      ¬ (pl_na H = true ∧ a_inForce 5 = 4 ∨ pl_na H = false ∧ (a_inForce 5 = 28 ∨ a_inForce 5 = 53 ∨ a_inForce 5 = 92)) →
      ¬ ((a_inForce 5 = 28 ∨ a_inForce 5 = 53) ∧ a_inForce 3 = 91) → wX_mixFault_166 post (a_inForce 5) (bo_I (decide (1 < a_inForce 0))) f_lines f_fastest f_gain f_bend f_ahead f_mode f_holds f_pace f_line f_gone f_dwellLeft f_stepsInAll f_ticksInAll f_speed f_present f_laid a_wordCounts a_letters a_values a_limits a_switches a_tool a_inForce a_origins a_given a_rows a_probe a_motions a_thirds a_centres a_steps a_paces a_dwells a_marks a_nexts a_joints := by
    intro c1 c2 c3 c4
    unfold wX_mixFault_166
    refine br_c (fun a => br_c (fun b => m179 c1 c2 c3 ?_) (fun b => p4 (Or.inr ⟨a, of_decide_eq_true (nf b)⟩))) (fun a => m179 c1 c2 c3 ?_)
    · rintro (z | z)
      · exact c4 z
      · exact of_decide_eq_false (yf b) z.2
    · rintro (z | z)
      · exact c4 z
      · exact a z.1
  have m147 : ¬ (H 9 = true ∧ ¬ a_inForce 5 = 4 ∨ H 9 = false ∧ a_inForce 5 = 4) → ¬ (pl_ce H = true ∧ (¬ 1 < a_inForce 0 ∨ 0 ≤ a_inForce 5)) →
      ¬ (pl_na H = true ∧ a_inForce 5 = 4 ∨ pl_na H = false ∧ (a_inForce 5 = 28 ∨ a_inForce 5 = 53 ∨ a_inForce 5 = 92)) →
      wX_mixFault_147 post (a_inForce 5) (bo_I (decide (1 < a_inForce 0))) (bo_I (decide (a_inForce 3 = 91))) f_lines f_fastest f_gain f_bend f_ahead f_mode f_holds f_pace f_line f_gone f_dwellLeft f_stepsInAll f_ticksInAll f_speed f_present f_laid a_wordCounts a_letters a_values a_limits a_switches a_tool a_inForce a_origins a_given a_rows a_probe a_motions a_thirds a_centres a_steps a_paces a_dwells a_marks a_nexts a_joints := by
    intro c1 c2 c3
    have m159 : (a_inForce 5 = 28 ∨ a_inForce 5 = 53) → wX_mixFault_159 post (a_inForce 5) (bo_I (decide (1 < a_inForce 0))) (bo_I (decide (a_inForce 3 = 91))) f_lines f_fastest f_gain f_bend f_ahead f_mode f_holds f_pace f_line f_gone f_dwellLeft f_stepsInAll f_ticksInAll f_speed f_present f_laid a_wordCounts a_letters a_values a_limits a_switches a_tool a_inForce a_origins a_given a_rows a_probe a_motions a_thirds a_centres a_steps a_paces a_dwells a_marks a_nexts a_joints := by
      intro o
      unfold wX_mixFault_159
      exact br_c (fun a => m166 c1 c2 c3 (fun z => of_decide_eq_false (yf a) z.2)) (fun a => p4 (Or.inl ⟨o, of_decide_eq_true (nf a)⟩))
    unfold wX_mixFault_147
    exact br_c (fun a => m159 (Or.inl a)) (fun a => br_c (fun b => m159 (Or.inr b)) (fun b => m166 c1 c2 c3 (fun z => z.1.elim a b)))
  have m123 : ¬ (H 9 = true ∧ ¬ a_inForce 5 = 4 ∨ H 9 = false ∧ a_inForce 5 = 4) → ¬ (pl_ce H = true ∧ (¬ 1 < a_inForce 0 ∨ 0 ≤ a_inForce 5)) →
      ¬ (pl_na H = true ∧ a_inForce 5 = 4) →
      wX_mixFault_123 post (a_inForce 5) (bo_I (pl_na H)) (bo_I (decide (1 < a_inForce 0))) (bo_I (decide (a_inForce 3 = 91))) f_lines f_fastest f_gain f_bend f_ahead f_mode f_holds f_pace f_line f_gone f_dwellLeft f_stepsInAll f_ticksInAll f_speed f_present f_laid a_wordCounts a_letters a_values a_limits a_switches a_tool a_inForce a_origins a_given a_rows a_probe a_motions a_thirds a_centres a_steps a_paces a_dwells a_marks a_nexts a_joints := by
    intro c1 c2 c3
    have m141 : (a_inForce 5 = 28 ∨ a_inForce 5 = 53 ∨ a_inForce 5 = 92) → wX_mixFault_141 post (a_inForce 5) (bo_I (pl_na H)) (bo_I (decide (1 < a_inForce 0))) (bo_I (decide (a_inForce 3 = 91))) f_lines f_fastest f_gain f_bend f_ahead f_mode f_holds f_pace f_line f_gone f_dwellLeft f_stepsInAll f_ticksInAll f_speed f_present f_laid a_wordCounts a_letters a_values a_limits a_switches a_tool a_inForce a_origins a_given a_rows a_probe a_motions a_thirds a_centres a_steps a_paces a_dwells a_marks a_nexts a_joints := by
      intro o
      unfold wX_mixFault_141
      refine br_c (fun a => p3 (Or.inr ⟨yf a, o⟩)) (fun a => m147 c1 c2 ?_)
      rintro (z | z)
      · exact c3 z
      · rw [nf a] at z; exact absurd z.1 (by decide)
    unfold wX_mixFault_123
    refine br_c (fun a => m141 (Or.inl a)) (fun a => br_c (fun b => m141 (Or.inr (Or.inl b))) (fun b => br_c (fun c => m141 (Or.inr (Or.inr c))) (fun c => m147 c1 c2 ?_)))
    rintro (z | ⟨_, z | z | z⟩)
    · exact c3 z
    · exact a z
    · exact b z
    · exact c z
  have m112 : ¬ (H 9 = true ∧ ¬ a_inForce 5 = 4 ∨ H 9 = false ∧ a_inForce 5 = 4) → ¬ (pl_ce H = true ∧ (¬ 1 < a_inForce 0 ∨ 0 ≤ a_inForce 5)) →
      wX_mixFault_112 post (a_inForce 5) (bo_I (pl_na H)) (bo_I (decide (1 < a_inForce 0))) (bo_I (decide (a_inForce 3 = 91))) f_lines f_fastest f_gain f_bend f_ahead f_mode f_holds f_pace f_line f_gone f_dwellLeft f_stepsInAll f_ticksInAll f_speed f_present f_laid a_wordCounts a_letters a_values a_limits a_switches a_tool a_inForce a_origins a_given a_rows a_probe a_motions a_thirds a_centres a_steps a_paces a_dwells a_marks a_nexts a_joints := by
    intro c1 c2
    unfold wX_mixFault_112
    exact br_c (fun a => br_c (fun b => m123 c1 c2 (fun z => by rw [yf b] at z; exact absurd z.1 (by decide))) (fun b => p3 (Or.inl ⟨nf b, a⟩))) (fun a => m123 c1 c2 (fun z => a z.2))
  have m85 : wX_mixFault_85 post (a_inForce 5) (bo_I (pl_na H)) (bo_I (pl_ce H)) (bo_I (decide (1 < a_inForce 0))) (bo_I (decide (a_inForce 3 = 91))) (bo_I (decide (a_inForce 5 = 4))) f_lines f_fastest f_gain f_bend f_ahead f_mode f_holds f_pace f_line f_gone f_dwellLeft f_stepsInAll f_ticksInAll f_speed f_present f_laid a_wordCounts a_letters a_values a_limits a_switches a_tool a_inForce a_origins a_given a_rows a_probe a_motions a_thirds a_centres a_steps a_paces a_dwells a_marks a_nexts a_joints := by
    unfold wX_mixFault_85
    refine xl_has 9 (by decide) (by decide) ?_
    rw [hH 9 (by decide)]
    by_cases c1 : H 9 = true ∧ ¬ a_inForce 5 = 4 ∨ H 9 = false ∧ a_inForce 5 = 4
    · refine br_f ?_ (p1 c1)
      intro z
      rcases c1 with ⟨z1, z2⟩ | ⟨z1, z2⟩
      · rw [z1, decide_eq_false z2] at z; exact absurd z (by decide)
      · rw [z1, decide_eq_true z2] at z; exact absurd z (by decide)
    · refine br_t ?_ (br_c (fun a => m112 c1 (fun z => by rw [yf a] at z; exact absurd z.1 (by decide))) (fun a => br_c (fun b => p2 ⟨nf a, Or.inl (of_decide_eq_false (yf b))⟩)
        (fun b => br_c (fun c => m112 c1 ?_) (fun c => p2 ⟨nf a, Or.inr ((fv_5n hF).mpr c)⟩))))
      · by_cases d : a_inForce 5 = 4
        · cases e : H 9
          · exact absurd (Or.inr ⟨e, d⟩) c1
          · rw [decide_eq_true d]
        · cases e : H 9
          · rw [decide_eq_false d]
          · exact absurd (Or.inl ⟨e, d⟩) c1
      · rintro ⟨_, z | z⟩
        · exact z (of_decide_eq_true (nf b))
        · exact (fv_5n hF).mp z c
  unfold wpX_mixFault
  refine nm_e ?_
  have m73 : wX_mixFault_73 post (a_inForce 5) (bo_I (pl_na H)) (bo_I (pl_ce H)) (bo_I (decide (1 < a_inForce 0))) (bo_I (decide (a_inForce 3 = 91))) f_lines f_fastest f_gain f_bend f_ahead f_mode f_holds f_pace f_line f_gone f_dwellLeft f_stepsInAll f_ticksInAll f_speed f_present f_laid a_wordCounts a_letters a_values a_limits a_switches a_tool a_inForce a_origins a_given a_rows a_probe a_motions a_thirds a_centres a_steps a_paces a_dwells a_marks a_nexts a_joints := by
    unfold wX_mixFault_73
    refine br_c (fun a => ?_) (fun a => ?_)
    · rw [decide_eq_true a] at m85; exact m85
    · rw [decide_eq_false a] at m85; exact m85
  have m55 : wX_mixFault_55 post (a_inForce 5) (bo_I (pl_na H)) (bo_I (pl_ce H)) (bo_I (decide (1 < a_inForce 0))) f_lines f_fastest f_gain f_bend f_ahead f_mode f_holds f_pace f_line f_gone f_dwellLeft f_stepsInAll f_ticksInAll f_speed f_present f_laid a_wordCounts a_letters a_values a_limits a_switches a_tool a_inForce a_origins a_given a_rows a_probe a_motions a_thirds a_centres a_steps a_paces a_dwells a_marks a_nexts a_joints := by
    unfold wX_mixFault_55
    refine br_c (fun a => ?_) (fun a => ?_)
    · rw [decide_eq_true a] at m73; exact m73
    · rw [decide_eq_false a] at m73; exact m73
  have m39 : wX_mixFault_39 post (a_inForce 5) (bo_I (pl_na H)) (bo_I (pl_ce H)) f_lines f_fastest f_gain f_bend f_ahead f_mode f_holds f_pace f_line f_gone f_dwellLeft f_stepsInAll f_ticksInAll f_speed f_present f_laid a_wordCounts a_letters a_values a_limits a_switches a_tool a_inForce a_origins a_given a_rows a_probe a_motions a_thirds a_centres a_steps a_paces a_dwells a_marks a_nexts a_joints := by
    unfold wX_mixFault_39
    refine br_c (fun a => ?_) (fun a => ?_)
    · rw [decide_eq_false (fun z => (fv_0r hF).mp z a)] at m55; exact m55
    · rw [decide_eq_true ((fv_0r hF).mpr a)] at m55; exact m55
  have m22 : wX_mixFault_22 post (a_inForce 5) (bo_I (pl_na H)) f_lines f_fastest f_gain f_bend f_ahead f_mode f_holds f_pace f_line f_gone f_dwellLeft f_stepsInAll f_ticksInAll f_speed f_present f_laid a_wordCounts a_letters a_values a_limits a_switches a_tool a_inForce a_origins a_given a_rows a_probe a_motions a_thirds a_centres a_steps a_paces a_dwells a_marks a_nexts a_joints := by
    unfold wX_mixFault_22
    refine br_c (fun a => ?_) (fun a => ?_)
    · rw [ce.mp a] at m39; exact m39
    · cases e : pl_ce H
      · exact absurd (ce.mpr e) a
      · rw [e] at m39; exact m39
  refine br_c (fun a => ?_) (fun a => ?_)
  · rw [na.mp a] at m22; exact m22
  · cases e : pl_na H
    · exact absurd (na.mpr e) a
    · rw [e] at m22; exact m22
end
end XMX
end
section
section XLN
/-! indices -/
theorem ix_3 (n a : Nat) : nI n * 3 + nI a = nI (3 * n + a) := by rw [show (3 : Int32) = nI 3 from rfl, pk_mul, nI_add, Nat.mul_comm]
theorem ix_3s (n a : Nat) : (nI n + 1) * 3 + nI a = nI (3 * (n + 1) + a) := by rw [nI_1, ix_3]
theorem ix_y3 (n a : Nat) : 3 * nI n + nI a = nI (3 * n + a) := by rw [show (3 : Int32) = nI 3 from rfl, pk_mul, nI_add]
theorem ix_2 (n : Nat) : nI n * 2 = nI (2 * n) := by rw [show (2 : Int32) = nI 2 from rfl, pk_mul, Nat.mul_comm]
theorem ix_21 (n : Nat) : nI n * 2 + 1 = nI (2 * n + 1) := by rw [ix_2, nI_1]
theorem ix_y2 (n : Nat) : 2 * nI n = nI (2 * n) := by rw [show (2 : Int32) = nI 2 from rfl, pk_mul]
theorem ix_y21 (n : Nat) : 2 * nI n + 1 = nI (2 * n + 1) := by rw [ix_y2, nI_1]
theorem ix_p2 (a : Nat) : 2 + nI a = nI (2 + a) := nI_add 2 a
theorem ix_p5 (a : Nat) : 5 + nI a = nI (5 + a) := nI_add 5 a
theorem ix_oi {F : Nat → Int32} (hF : fc_FW F) (a : Nat) : (F 4 - 54) * 3 + nI a = nI (pl_oi F a) := by
  unfold pl_oi
  rcases fv_4 hF with e | e
  · rw [if_pos e, e, show ((54 : Int32) - 54) * 3 = 0 from by decide, Int32.zero_add]
  · rw [if_neg (by rw [e]; decide), e, show ((55 : Int32) - 54) * 3 = nI 3 from by decide, nI_add]
theorem ix_oy {F : Nat → Int32} (hF : fc_FW F) (a : Nat) : 3 * (F 4 - 54) + nI a = nI (pl_oi F a) := by
  rw [Int32.mul_comm, ix_oi hF]
theorem ix_ol (F : Nat → Int32) {a : Nat} (h : a < 3) : pl_oi F a < 6 := by
  unfold pl_oi; split <;> omega
theorem ix_3a {a : Nat} (h : a < 3) : ¬ (3 : Int32) ≤ nI a := nI_ge (b := 3) h (by decide)
theorem ix_33 : (3 : Int32) ≤ nI 3 := nI_le (a := 3) (Nat.le_refl 3) (by decide)
section
variable {f_lines f_fastest f_gain f_bend f_ahead f_mode f_holds f_pace f_line f_gone f_dwellLeft f_stepsInAll f_ticksInAll f_speed f_present f_laid : Int32} {a_wordCounts a_letters a_values a_limits a_switches a_tool a_inForce a_origins a_given a_rows a_probe a_motions a_thirds a_centres a_steps a_paces a_dwells a_marks a_nexts a_joints : Nat → Int32}
theorem xl_co {post : Int32 → Prop} {p : Int32} (l : Nat) (hl : l < 10) (hp : p = nI l) (h : post (if bt f_present l = true then a_given l * pl_sc a_inForce else 0)) : wpX_coordinate post (f_lines, f_fastest, f_gain, f_bend, f_ahead, f_mode, f_holds, f_pace, f_line, f_gone, f_dwellLeft, f_stepsInAll, f_ticksInAll, f_speed, f_present, f_laid, a_wordCounts, a_letters, a_values, a_limits, a_switches, a_tool, a_inForce, a_origins, a_given, a_rows, a_probe, a_motions, a_thirds, a_centres, a_steps, a_paces, a_dwells, a_marks, a_nexts, a_joints) p := by
  subst hp
  unfold wpX_coordinate
  refine xl_has l (by omega) rfl ?_
  cases e : bt f_present l
  · rw [e] at h; exact br_t rfl h
  · rw [e, if_pos rfl] at h
    refine br_f bo_ne (br_c (fun a => ⟨vp_in_nI hl (by omega), ?_⟩) (fun a => ⟨vp_in_nI hl (by omega), ?_⟩))
    · rw [nI_clamp (by omega), Int32.mul_comm]
      unfold pl_sc at h
      rw [if_pos a] at h
      exact h
    · rw [nI_clamp (by omega)]
      unfold pl_sc at h
      rw [if_neg a, Int32.mul_one] at h
      exact h
theorem xl_go {post : Int32 → Prop} {H : Nat → Bool} {n a : Nat} (hn : n < 30) (ha : a < 3) (hF : fc_FW a_inForce) (hH : ∀ i, i < 10 → bt f_present i = H i)
    (h : post (pl_to a_inForce H a_given a_origins (fun a => a_rows (3 * n + a)) a)) : wpX_goalOf post (f_lines, f_fastest, f_gain, f_bend, f_ahead, f_mode, f_holds, f_pace, f_line, f_gone, f_dwellLeft, f_stepsInAll, f_ticksInAll, f_speed, f_present, f_laid, a_wordCounts, a_letters, a_values, a_limits, a_switches, a_tool, a_inForce, a_origins, a_given, a_rows, a_probe, a_motions, a_thirds, a_centres, a_steps, a_paces, a_dwells, a_marks, a_nexts, a_joints) (nI n) (nI a) := by
  unfold wpX_goalOf
  rw [ix_3]
  refine ⟨vp_in_nI (by omega) (by omega), ?_⟩
  rw [nI_clamp (by omega)]
  refine nm_e (nm_e (xl_has (2 + a) (by omega) (ix_p2 a) ?_))
  rw [hH (2 + a) (by omega)]
  unfold pl_to at h
  cases e : H (2 + a)
  · rw [if_pos e] at h; exact br_t rfl h
  · rw [if_neg (by rw [e]; decide)] at h
    refine br_f bo_ne (br_c (fun c => ?_) (fun c => br_c (fun d => ?_) (fun d => xl_co (2 + a) (by omega) (ix_p2 a) ?_)))
    · rw [if_pos c] at h; exact h
    · rw [if_neg c, if_pos d] at h; exact h
    rw [if_neg c, if_neg d] at h
    rw [hH (2 + a) (by omega), if_pos e]
    refine br_c (fun g => ?_) (fun g => br_c (fun k => ?_) (fun k => ?_))
    · rw [if_pos g] at h; exact h
    · rw [if_neg g, if_neg (by rw [k]; decide)] at h; exact h
    · have k' : a_inForce 3 = 90 := (fv_3 hF).elim id (fun z => absurd z k)
      rw [if_neg g, if_pos k'] at h
      unfold wpX_originPlace
      show vp_in ((a_inForce 4 - 54) * 3 + nI a) 6 ∧ post (a_given (2 + a) * pl_sc a_inForce + a_origins ((a_inForce 4 - 54) * 3 + nI a).toNatClampNeg)
      rw [ix_oi hF, nI_clamp (by have := ix_ol a_inForce ha; omega)]
      exact ⟨vp_in_nI (ix_ol a_inForce ha) (by omega), h⟩
theorem xl_so1 {post : SX → Prop} {H : Nat → Bool} {n a f : Nat} (hn : n < 30) (ha : a < 3) (hF : fc_FW a_inForce) (h92 : a_inForce 5 = 92) (hH : ∀ i, i < 10 → bt f_present i = H i)
    (h : wX_shiftOrigin_2 post (nI n) f_lines f_fastest f_gain f_bend f_ahead f_mode f_holds f_pace f_line f_gone f_dwellLeft f_stepsInAll f_ticksInAll f_speed f_present f_laid f (nI (a + 1)) a_wordCounts a_letters a_values a_limits a_switches a_tool a_inForce (pl_o1 a_inForce H a_given (fun a => a_rows (3 * n + a)) a a_origins) a_given a_rows a_probe a_motions a_thirds a_centres a_steps a_paces a_dwells a_marks a_nexts a_joints) :
    wX_shiftOrigin_2 post (nI n) f_lines f_fastest f_gain f_bend f_ahead f_mode f_holds f_pace f_line f_gone f_dwellLeft f_stepsInAll f_ticksInAll f_speed f_present f_laid (f + 1) (nI a) a_wordCounts a_letters a_values a_limits a_switches a_tool a_inForce a_origins a_given a_rows a_probe a_motions a_thirds a_centres a_steps a_paces a_dwells a_marks a_nexts a_joints := by
  refine br_f (ix_3a ha) (xl_has (2 + a) (by omega) (ix_p2 a) ?_)
  rw [hH (2 + a) (by omega)]
  unfold pl_o1 at h
  cases e : H (2 + a)
  · rw [if_neg (by rw [e]; intro z; exact absurd z.1 (by decide))] at h
    exact br_t rfl (nm_r (nI_1 a) h)
  · rw [if_pos ⟨e, h92⟩] at h
    refine br_f bo_ne ?_
    unfold wpX_originPlace
    show vp_in (nI n * 3 + nI a) 93 ∧ _
    rw [ix_3, ix_oi hF, nI_clamp (show 3 * n + a < 2 ^ 31 by omega)]
    refine ⟨vp_in_nI (by omega) (by omega), xl_co (2 + a) (by omega) (ix_p2 a) ?_⟩
    rw [hH (2 + a) (by omega), if_pos e, nI_clamp (by have := ix_ol a_inForce ha; omega)]
    exact ⟨vp_in_nI (ix_ol a_inForce ha) (by omega), nm_e (nm_r (nI_1 a) h)⟩
theorem xl_so {post : SX → Prop} {H : Nat → Bool} {n : Nat} (hn : n < 30) (hF : fc_FW a_inForce) (h92 : a_inForce 5 = 92) (hH : ∀ i, i < 10 → bt f_present i = H i)
    (h : post (f_lines, f_fastest, f_gain, f_bend, f_ahead, f_mode, f_holds, f_pace, f_line, f_gone, f_dwellLeft, f_stepsInAll, f_ticksInAll, f_speed, f_present, f_laid, a_wordCounts, a_letters, a_values, a_limits, a_switches, a_tool, a_inForce, (pl_og a_inForce H a_given a_origins (fun a => a_rows (3 * n + a))), a_given, a_rows, a_probe, a_motions, a_thirds, a_centres, a_steps, a_paces, a_dwells, a_marks, a_nexts, a_joints)) : wpX_shiftOrigin post (f_lines, f_fastest, f_gain, f_bend, f_ahead, f_mode, f_holds, f_pace, f_line, f_gone, f_dwellLeft, f_stepsInAll, f_ticksInAll, f_speed, f_present, f_laid, a_wordCounts, a_letters, a_values, a_limits, a_switches, a_tool, a_inForce, a_origins, a_given, a_rows, a_probe, a_motions, a_thirds, a_centres, a_steps, a_paces, a_dwells, a_marks, a_nexts, a_joints) (nI n) := by
  refine ⟨4, ?_⟩
  refine xl_so1 (a := 0) hn (by decide) hF h92 hH (xl_so1 (a := 1) hn (by decide) hF h92 hH (xl_so1 (a := 2) hn (by decide) hF h92 hH ?_))
  exact br_t ix_33 h
theorem sg_abs {x y : Int32} (hx : 0 ≤ x.toInt ∧ x.toInt ≤ 1000) (hy : 0 ≤ y.toInt ∧ y.toInt ≤ 1000) :
    (x ≤ y → y - x = nI ((y.toInt - x.toInt).natAbs)) ∧ (¬ x ≤ y → x - y = nI ((y.toInt - x.toInt).natAbs)) := by
  have e : ∀ z w : Int32, (0 ≤ z.toInt ∧ z.toInt ≤ 1000) → (0 ≤ w.toInt ∧ w.toInt ≤ 1000) → z.toInt ≤ w.toInt → w - z = nI ((w.toInt - z.toInt).natAbs) := by
    intro z w _ _ h
    rw [ii_n, Int.natAbs_of_nonneg (by omega), ← ii_sub, ii_t, ii_t]
  constructor
  · intro h; exact e x y hx hy (fc_le.mp h)
  · intro h
    rw [e y x hy hx (by rw [fc_le] at h; omega)]
    congr 1
    omega
theorem xl_ls1 {post : Int32 → SX → Prop} {n a f m : Nat} (hn : n < 30) (ha : a < 3) (hm : m ≤ 1000) (hf : 0 ≤ (a_rows (3 * n + a)).toInt ∧ (a_rows (3 * n + a)).toInt ≤ 1000) (hl : (a_limits a).toInt ≤ 1000)
    (h6 : sg_ou a_limits (fun a => a_rows (3 * (n + 1) + a)) a = true → post 6 (f_lines, f_fastest, f_gain, f_bend, f_ahead, f_mode, f_holds, f_pace, f_line, f_gone, f_dwellLeft, f_stepsInAll, f_ticksInAll, f_speed, f_present, f_laid, a_wordCounts, a_letters, a_values, a_limits, a_switches, a_tool, a_inForce, a_origins, a_given, a_rows, a_probe, a_motions, a_thirds, a_centres, a_steps, a_paces, a_dwells, a_marks, a_nexts, a_joints))
    (h : sg_ou a_limits (fun a => a_rows (3 * (n + 1) + a)) a = false → wX_layStraight_4 post (nI n) f_lines f_fastest f_gain f_bend f_ahead f_mode f_holds f_pace f_line f_gone f_dwellLeft f_stepsInAll f_ticksInAll f_speed f_present f_laid a_wordCounts a_letters a_values a_limits a_switches a_tool a_inForce a_origins a_given a_rows a_probe a_motions a_thirds a_centres a_steps a_paces a_dwells a_marks a_nexts a_joints f (nI (max m (sg_dd (fun a => a_rows (3 * n + a)) (fun a => a_rows (3 * (n + 1) + a)) a))) (nI (a + 1))) :
    wX_layStraight_4 post (nI n) f_lines f_fastest f_gain f_bend f_ahead f_mode f_holds f_pace f_line f_gone f_dwellLeft f_stepsInAll f_ticksInAll f_speed f_present f_laid a_wordCounts a_letters a_values a_limits a_switches a_tool a_inForce a_origins a_given a_rows a_probe a_motions a_thirds a_centres a_steps a_paces a_dwells a_marks a_nexts a_joints (f + 1) (nI m) (nI a) := by
  refine br_f (ix_3a ha) ?_
  rw [ix_3, ix_3s, nI_clamp (show 3 * n + a < 2 ^ 31 by omega), nI_clamp (show 3 * (n + 1) + a < 2 ^ 31 by omega), nI_clamp (show a < 2 ^ 31 by omega)]
  refine ⟨vp_in_nI (by omega) (by omega), nm_e ⟨vp_in_nI (by omega) (by omega), nm_e ?_⟩⟩
  refine br_c (fun c => h6 ?_) (fun c => ⟨vp_in_nI ha (by decide), br_c (fun d => ?_) (fun d => h6 ?_)⟩)
  · rw [fc_lt, fc_0] at c
    exact decide_eq_true (Or.inl c)
  · have r : 0 ≤ (a_rows (3 * (n + 1) + a)).toInt ∧ (a_rows (3 * (n + 1) + a)).toInt ≤ 1000 := by
      rw [fc_lt, fc_0] at c
      rw [fc_le] at d
      omega
    have h' := h (decide_eq_false (by
      rw [fc_lt, fc_0] at c
      rw [fc_le] at d
      show ¬ ((a_rows (3 * (n + 1) + a)).toInt < 0 ∨ (a_limits a).toInt < (a_rows (3 * (n + 1) + a)).toInt)
      omega))
    have l74 : ∀ z, z = nI (sg_dd (fun a => a_rows (3 * n + a)) (fun a => a_rows (3 * (n + 1) + a)) a) → wX_layStraight_74 post (wX_layStraight_4 post (nI n) f_lines f_fastest f_gain f_bend f_ahead f_mode f_holds f_pace f_line f_gone f_dwellLeft f_stepsInAll f_ticksInAll f_speed f_present f_laid a_wordCounts a_letters a_values a_limits a_switches a_tool a_inForce a_origins a_given a_rows a_probe a_motions a_thirds a_centres a_steps a_paces a_dwells a_marks a_nexts a_joints f) (nI n) (nI m) (nI a) z f_lines f_fastest f_gain f_bend f_ahead f_mode f_holds f_pace f_line f_gone f_dwellLeft f_stepsInAll f_ticksInAll f_speed f_present f_laid a_wordCounts a_letters a_values a_limits a_switches a_tool a_inForce a_origins a_given a_rows a_probe a_motions a_thirds a_centres a_steps a_paces a_dwells a_marks a_nexts a_joints := by
      intro z ez
      subst ez
      have b : sg_dd (fun a => a_rows (3 * n + a)) (fun a => a_rows (3 * (n + 1) + a)) a ≤ 1000 := by
        unfold sg_dd
        show ((a_rows (3 * (n + 1) + a)).toInt - (a_rows (3 * n + a)).toInt).natAbs ≤ 1000
        omega
      unfold wX_layStraight_74
      refine br_c (fun g => nm_r (nI_1 a) ?_) (fun g => nm_r (nI_1 a) ?_)
      · rw [nI_leI (by omega) (by omega)] at g
        rw [Nat.max_eq_left g] at h'
        exact h'
      · rw [nI_leI (by omega) (by omega)] at g
        rw [Nat.max_eq_right (by omega)] at h'
        exact h'
    exact br_c (fun g => l74 _ ((sg_abs hf r).1 g)) (fun g => l74 _ ((sg_abs hf r).2 g))
  · rw [fc_le] at d
    exact decide_eq_true (Or.inr (by show (a_limits a).toInt < (a_rows (3 * (n + 1) + a)).toInt; omega))
theorem xl_ls {post : Int32 → SX → Prop} {n : Nat} (hn : n < 30) (hf : ∀ a, a < 3 → 0 ≤ (a_rows (3 * n + a)).toInt ∧ (a_rows (3 * n + a)).toInt ≤ 1000) (hl : ∀ a, a < 3 → (a_limits a).toInt ≤ 1000)
    (h6 : sg_out a_limits (fun a => a_rows (3 * (n + 1) + a)) = true → post 6 (f_lines, f_fastest, f_gain, f_bend, f_ahead, f_mode, f_holds, f_pace, f_line, f_gone, f_dwellLeft, f_stepsInAll, f_ticksInAll, f_speed, f_present, f_laid, a_wordCounts, a_letters, a_values, a_limits, a_switches, a_tool, a_inForce, a_origins, a_given, a_rows, a_probe, a_motions, a_thirds, a_centres, a_steps, a_paces, a_dwells, a_marks, a_nexts, a_joints))
    (h : sg_out a_limits (fun a => a_rows (3 * (n + 1) + a)) = false → post 0 (f_lines, f_fastest, f_gain, f_bend, f_ahead, f_mode, f_holds, f_pace, f_line, f_gone, f_dwellLeft, f_stepsInAll, f_ticksInAll, f_speed, f_present, f_laid, a_wordCounts, a_letters, a_values, a_limits, a_switches, a_tool, a_inForce, a_origins, a_given, a_rows, a_probe, a_motions, a_thirds, a_centres, (upd a_steps n (nI (sg_mx (fun a => a_rows (3 * n + a)) (fun a => a_rows (3 * (n + 1) + a))))), a_paces, a_dwells, a_marks, a_nexts, a_joints)) :
    wpX_layStraight post (f_lines, f_fastest, f_gain, f_bend, f_ahead, f_mode, f_holds, f_pace, f_line, f_gone, f_dwellLeft, f_stepsInAll, f_ticksInAll, f_speed, f_present, f_laid, a_wordCounts, a_letters, a_values, a_limits, a_switches, a_tool, a_inForce, a_origins, a_given, a_rows, a_probe, a_motions, a_thirds, a_centres, a_steps, a_paces, a_dwells, a_marks, a_nexts, a_joints) (nI n) := by
  unfold sg_out at h6 h
  have bd : ∀ a, a < 3 → sg_ou a_limits (fun a => a_rows (3 * (n + 1) + a)) a = false → sg_dd (fun a => a_rows (3 * n + a)) (fun a => a_rows (3 * (n + 1) + a)) a ≤ 1000 := by
    intro a ha e
    have e' := of_decide_eq_false e
    have := hf a ha
    have := hl a ha
    unfold sg_dd
    show ((a_rows (3 * (n + 1) + a)).toInt - (a_rows (3 * n + a)).toInt).natAbs ≤ 1000
    have e'' : ¬ ((a_rows (3 * (n + 1) + a)).toInt < 0 ∨ (a_limits a).toInt < (a_rows (3 * (n + 1) + a)).toInt) := e'
    omega
  refine ⟨4, ?_⟩
  refine xl_ls1 (a := 0) (m := 0) hn (by decide) (by omega) (hf 0 (by decide)) (hl 0 (by decide)) (fun e => h6 (by rw [e]; rfl)) (fun e0 => ?_)
  have b0 := bd 0 (by decide) e0
  rw [Nat.max_eq_right (Nat.zero_le _)]
  refine xl_ls1 (a := 1) hn (by decide) b0 (hf 1 (by decide)) (hl 1 (by decide)) (fun e => h6 (by rw [e, e0]; rfl)) (fun e1 => ?_)
  have b1 := bd 1 (by decide) e1
  refine xl_ls1 (a := 2) hn (by decide) (by omega) (hf 2 (by decide)) (hl 2 (by decide)) (fun e => h6 (by rw [e, e0, e1]; rfl)) (fun e2 => ?_)
  have h' := h (by rw [e0, e1, e2]; rfl)
  refine br_t ix_33 ⟨vp_in_nI hn (by omega), nm_e ?_⟩
  rw [nI_clamp (by omega)]
  exact h'
end
end XLN
end
section
section XR0
theorem wk_sqb {u B : Int} (h : -B ≤ u ∧ u ≤ B) : 0 ≤ u * u ∧ u * u ≤ B * B := by
  by_cases c : 0 ≤ u
  · have h1 := wk_sq (x := 0) (by omega) c
    have h2 := wk_sq c h.2
    omega
  · have h1 := wk_sq (x := 0) (y := -u) (by omega) (by omega)
    have h2 := wk_sq (x := -u) (y := B) (by omega) (by omega)
    rw [Int.neg_mul_neg] at h1 h2
    omega
theorem wk_ofr {f u v : Int} (hu : -5001 ≤ u ∧ u ≤ 5001) (hv : -5001 ≤ v ∧ v ≤ 5001) (hf : 0 ≤ f ∧ f ≤ 90000) : 0 ≤ wk_of f u v ∧ wk_of f u v < 100000000 := by
  have h1 := wk_sqb (B := 5001) hu
  have h2 := wk_sqb (B := 5001) hv
  unfold wk_of
  have := wk_abs (u * u + v * v - f)
  omega
theorem wk_sgr (x : Int) : -1 ≤ wk_sg x ∧ wk_sg x ≤ 1 := by
  unfold wk_sg
  split
  · omega
  · split <;> omega
theorem wk_nxr (on : Bool) (f u v : Int) : (u - 1 ≤ (wk_nx on f (u, v)).1 ∧ (wk_nx on f (u, v)).1 ≤ u + 1) ∧ (v - 1 ≤ (wk_nx on f (u, v)).2 ∧ (wk_nx on f (u, v)).2 ≤ v + 1) := by
  have key : ∀ a b : Int, (-1 ≤ a ∧ a ≤ 1) → (-1 ≤ b ∧ b ≤ 1) → (u - 1 ≤ (wk_ch f u v a b).1 ∧ (wk_ch f u v a b).1 ≤ u + 1) ∧ (v - 1 ≤ (wk_ch f u v a b).2 ∧ (wk_ch f u v a b).2 ≤ v + 1) := by
    intro a b ha hb
    unfold wk_ch
    split <;> split <;> (dsimp only; omega)
  unfold wk_nx
  cases on
  · exact key _ _ (wk_sgr v) (wk_sgr (-u))
  · exact key _ _ (wk_sgr (-v)) (wk_sgr u)
theorem xs_m1 {th : Nat} (h : th < 3) : nI th + 1 - (nI th + 1) / 3 * 3 = nI ((th + 1) % 3) := by
  rw [nI_1, show (3 : Int32) = nI 3 from rfl, pk_rem (by omega) (by decide) (by decide)]
theorem xs_m2 {th : Nat} (h : th < 3) : nI th + 2 - (nI th + 2) / 3 * 3 = nI ((th + 2) % 3) := by
  rw [show nI th + 2 = nI (th + 2) from nI_add th 2, show (3 : Int32) = nI 3 from rfl, pk_rem (by omega) (by decide) (by decide)]
section
variable {f_lines f_fastest f_gain f_bend f_ahead f_mode f_holds f_pace f_line f_gone f_dwellLeft f_stepsInAll f_ticksInAll f_speed f_present f_laid : Int32} {a_wordCounts a_letters a_values a_limits a_switches a_tool a_inForce a_origins a_given a_rows a_probe a_motions a_thirds a_centres a_steps a_paces a_dwells a_marks a_nexts a_joints : Nat → Int32}
theorem xs_sg {post : Int32 → Prop} {p : Int32} {x : Int} (hp : p = ii_I x) (hx : ii_R x) (h : post (ii_I (wk_sg x))) : wpX_signOf post (f_lines, f_fastest, f_gain, f_bend, f_ahead, f_mode, f_holds, f_pace, f_line, f_gone, f_dwellLeft, f_stepsInAll, f_ticksInAll, f_speed, f_present, f_laid, a_wordCounts, a_letters, a_values, a_limits, a_switches, a_tool, a_inForce, a_origins, a_given, a_rows, a_probe, a_motions, a_thirds, a_centres, a_steps, a_paces, a_dwells, a_marks, a_nexts, a_joints) p := by
  subst hp
  unfold wpX_signOf
  have r0 : ii_R 0 := by unfold ii_R; omega
  have e1 : 0 ≤ ii_I x ↔ 0 ≤ x := ii_le (a := 0) r0 hx
  have e2 : ii_I x ≤ 0 ↔ x ≤ 0 := ii_le (b := 0) hx r0
  unfold wk_sg at h
  refine br_c (fun a => br_c (fun b => ?_) (fun b => ?_)) (fun a => ?_)
  · rw [if_neg (by rw [e1] at a; omega), if_neg (by rw [e2] at b; omega)] at h; exact h
  · rw [if_neg (by rw [e1] at a; omega), if_pos (by rw [e2] at b; omega)] at h; exact h
  · rw [if_pos (by rw [e1] at a; omega)] at h; exact h
theorem xs_ms {post : Int32 → Prop} {p0 p1 p2 : Int32} {f a b : Int} (h0 : p0 = ii_I a) (h1 : p1 = ii_I b) (h2 : p2 = ii_I f) (ha : -5001 ≤ a ∧ a ≤ 5001) (hb : -5001 ≤ b ∧ b ≤ 5001) (hf : 0 ≤ f ∧ f ≤ 90000)
    (h : post (ii_I (wk_of f a b))) : wpX_missOf post (f_lines, f_fastest, f_gain, f_bend, f_ahead, f_mode, f_holds, f_pace, f_line, f_gone, f_dwellLeft, f_stepsInAll, f_ticksInAll, f_speed, f_present, f_laid, a_wordCounts, a_letters, a_values, a_limits, a_switches, a_tool, a_inForce, a_origins, a_given, a_rows, a_probe, a_motions, a_thirds, a_centres, a_steps, a_paces, a_dwells, a_marks, a_nexts, a_joints) p0 p1 p2 := by
  subst h0 h1 h2
  unfold wpX_missOf
  have q1 := wk_sqb (B := 5001) ha
  have q2 := wk_sqb (B := 5001) hb
  have e1 : 0 ≤ ii_I (a * a + b * b - f) ↔ 0 ≤ a * a + b * b - f := ii_le (a := 0) (by unfold ii_R; omega) (by unfold ii_R; omega)
  refine nm_r (e' := ii_I (a * a + b * b - f)) (by rw [ii_mul, ii_mul, ii_add, ii_sub]) ?_
  unfold wk_of wk_ab at h
  refine br_c (fun c => ?_) (fun c => ?_)
  · rw [if_neg (by rw [e1] at c; omega)] at h; exact h
  · rw [if_pos (by rw [e1] at c; omega)] at h
    rw [ii_neg]; exact h
end
end XR0
section XROprobe
section
variable {f_lines f_fastest f_gain f_bend f_ahead f_mode f_holds f_pace f_line f_gone f_dwellLeft f_stepsInAll f_ticksInAll f_speed f_present f_laid : Int32} {a_wordCounts a_letters a_values a_limits a_switches a_tool a_inForce a_origins a_given a_rows a_probe a_motions a_thirds a_centres a_steps a_paces a_dwells a_marks a_nexts a_joints : Nat → Int32}
theorem xs_269probe {post : SX → Prop} {fa fb : Nat} {c d u v gu gv : Int} (hfa : fa < 3) (hfb : fb < 3) (hne : fb ≠ fa) (h1 : a_probe fa = ii_I (c + u)) (h2 : a_probe fb = ii_I (d + v))
    (h : post (f_lines, f_fastest, f_gain, f_bend, f_ahead, f_mode, f_holds, f_pace, f_line, f_gone, f_dwellLeft, f_stepsInAll, f_ticksInAll, f_speed, f_present, f_laid, a_wordCounts, a_letters, a_values, a_limits, a_switches, a_tool, a_inForce, a_origins, a_given, a_rows, (upd (upd a_probe fa (ii_I (c + (u + gu)))) fb (ii_I (d + (v + gv)))), a_motions, a_thirds, a_centres, a_steps, a_paces, a_dwells, a_marks, a_nexts, a_joints)) : wX_stepRound__probe_269 post (nI fa) (nI fb) (ii_I gu) (ii_I gv) f_lines f_fastest f_gain f_bend f_ahead f_mode f_holds f_pace f_line f_gone f_dwellLeft f_stepsInAll f_ticksInAll f_speed f_present f_laid a_wordCounts a_letters a_values a_limits a_switches a_tool a_inForce a_origins a_given a_rows a_probe a_motions a_thirds a_centres a_steps a_paces a_dwells a_marks a_nexts a_joints := by
  unfold wX_stepRound__probe_269
  rw [nI_clamp (show fa < 2 ^ 31 by omega), nI_clamp (show fb < 2 ^ 31 by omega), h1, ii_add, Int.add_assoc]
  refine ⟨vp_in_nI hfa (by omega), vp_in_nI hfa (by omega), nm_e ⟨vp_in_nI hfb (by omega), vp_in_nI hfb (by omega), nm_r ?_ h⟩⟩
  rw [pk_un hne, h2, ii_add, Int.add_assoc]
theorem xs_235probe {post : SX → Prop} {fa fb : Nat} {c d u v f b gu gv m : Int} (hfa : fa < 3) (hfb : fb < 3) (hne : fb ≠ fa) (h1 : a_probe fa = ii_I (c + u)) (h2 : a_probe fb = ii_I (d + v))
    (hu : -5000 ≤ u ∧ u ≤ 5000) (hv : -5000 ≤ v ∧ v ≤ 5000) (hb : -1 ≤ b ∧ b ≤ 1) (hf : 0 ≤ f ∧ f ≤ 90000) (hm : ii_R m)
    (hq : (b ≠ 0 ∧ wk_of f u (v + b) < m) → post (f_lines, f_fastest, f_gain, f_bend, f_ahead, f_mode, f_holds, f_pace, f_line, f_gone, f_dwellLeft, f_stepsInAll, f_ticksInAll, f_speed, f_present, f_laid, a_wordCounts, a_letters, a_values, a_limits, a_switches, a_tool, a_inForce, a_origins, a_given, a_rows, (upd (upd a_probe fa (ii_I (c + u))) fb (ii_I (d + (v + b)))), a_motions, a_thirds, a_centres, a_steps, a_paces, a_dwells, a_marks, a_nexts, a_joints))
    (h : ¬ (b ≠ 0 ∧ wk_of f u (v + b) < m) → post (f_lines, f_fastest, f_gain, f_bend, f_ahead, f_mode, f_holds, f_pace, f_line, f_gone, f_dwellLeft, f_stepsInAll, f_ticksInAll, f_speed, f_present, f_laid, a_wordCounts, a_letters, a_values, a_limits, a_switches, a_tool, a_inForce, a_origins, a_given, a_rows, (upd (upd a_probe fa (ii_I (c + (u + gu)))) fb (ii_I (d + (v + gv)))), a_motions, a_thirds, a_centres, a_steps, a_paces, a_dwells, a_marks, a_nexts, a_joints)) :
    wX_stepRound__probe_235 post (nI fa) (nI fb) (ii_I f) (ii_I u) (ii_I v) (ii_I b) (ii_I gu) (ii_I gv) (ii_I m) f_lines f_fastest f_gain f_bend f_ahead f_mode f_holds f_pace f_line f_gone f_dwellLeft f_stepsInAll f_ticksInAll f_speed f_present f_laid a_wordCounts a_letters a_values a_limits a_switches a_tool a_inForce a_origins a_given a_rows a_probe a_motions a_thirds a_centres a_steps a_paces a_dwells a_marks a_nexts a_joints := by
  unfold wX_stepRound__probe_235
  rw [ii_add]
  have r := wk_ofr (f := f) (u := u) (v := v + b) (by omega) (by omega) hf
  refine xs_ms (f := f) (a := u) (b := v + b) rfl rfl rfl (by omega) (by omega) hf (br_c (fun z => ?_) (fun z => br_c (fun y => ?_) (fun y => ?_)))
  · refine xs_269probe hfa hfb hne h1 h2 (h (fun w => w.1 ?_))
    exact (ii_eq (b := 0) (by unfold ii_R; omega) (by unfold ii_R; omega)).mp z
  · refine xs_269probe hfa hfb hne h1 h2 (h (fun w => ?_))
    rw [ii_le hm (by unfold ii_R; omega)] at y
    omega
  · have hz : b ≠ 0 := fun e => z (by rw [e]; rfl)
    rw [ii_le hm (by unfold ii_R; omega)] at y
    have := hq ⟨hz, by omega⟩
    refine xs_269probe (gu := 0) (gv := b) hfa hfb hne h1 h2 ?_
    rw [Int.add_zero]
    exact this
theorem xs_173probe {post : SX → Prop} {fa fb : Nat} {c d u v f a b : Int} (hfa : fa < 3) (hfb : fb < 3) (hne : fb ≠ fa) (h1 : a_probe fa = ii_I (c + u)) (h2 : a_probe fb = ii_I (d + v))
    (hu : -5000 ≤ u ∧ u ≤ 5000) (hv : -5000 ≤ v ∧ v ≤ 5000) (ha : -1 ≤ a ∧ a ≤ 1) (hb : -1 ≤ b ∧ b ≤ 1) (hf : 0 ≤ f ∧ f ≤ 90000)
    (h : post (f_lines, f_fastest, f_gain, f_bend, f_ahead, f_mode, f_holds, f_pace, f_line, f_gone, f_dwellLeft, f_stepsInAll, f_ticksInAll, f_speed, f_present, f_laid, a_wordCounts, a_letters, a_values, a_limits, a_switches, a_tool, a_inForce, a_origins, a_given, a_rows, (upd (upd a_probe fa (ii_I (c + (wk_ch f u v a b).1))) fb (ii_I (d + (wk_ch f u v a b).2))), a_motions, a_thirds, a_centres, a_steps, a_paces, a_dwells, a_marks, a_nexts, a_joints)) :
    wX_stepRound__probe_173 post (nI fa) (nI fb) (ii_I f) (ii_I u) (ii_I v) (ii_I a) (ii_I b) f_lines f_fastest f_gain f_bend f_ahead f_mode f_holds f_pace f_line f_gone f_dwellLeft f_stepsInAll f_ticksInAll f_speed f_present f_laid a_wordCounts a_letters a_values a_limits a_switches a_tool a_inForce a_origins a_given a_rows a_probe a_motions a_thirds a_centres a_steps a_paces a_dwells a_marks a_nexts a_joints := by
  unfold wX_stepRound__probe_173
  rw [ii_add, ii_add]
  have r1 := wk_ofr (f := f) (u := u + a) (v := v + b) (by omega) (by omega) hf
  have r2 := wk_ofr (f := f) (u := u + a) (v := v) (by omega) (by omega) hf
  unfold wk_ch at h
  refine xs_ms (f := f) (a := u + a) (b := v + b) rfl rfl rfl (by omega) (by omega) hf (xs_ms (f := f) (a := u + a) (b := v) rfl rfl rfl (by omega) (by omega) hf ?_)
  have small : ¬ (a ≠ 0 ∧ wk_of f (u + a) v < wk_of f (u + a) (v + b)) → wX_stepRound__probe_235 post (nI fa) (nI fb) (ii_I f) (ii_I u) (ii_I v) (ii_I b) (ii_I a) (ii_I b) (ii_I (wk_of f (u + a) (v + b))) f_lines f_fastest f_gain f_bend f_ahead f_mode f_holds f_pace f_line f_gone f_dwellLeft f_stepsInAll f_ticksInAll f_speed f_present f_laid a_wordCounts a_letters a_values a_limits a_switches a_tool a_inForce a_origins a_given a_rows a_probe a_motions a_thirds a_centres a_steps a_paces a_dwells a_marks a_nexts a_joints := by
    intro n
    rw [if_neg n] at h
    refine xs_235probe hfa hfb hne h1 h2 hu hv hb hf (by unfold ii_R; omega) (fun w => ?_) (fun w => ?_)
    · rw [if_pos w] at h; exact h
    · rw [if_neg w] at h; exact h
  refine br_c (fun z => small (fun w => w.1 ?_)) (fun z => br_c (fun y => small (fun w => ?_)) (fun y => ?_))
  · exact (ii_eq (b := 0) (by unfold ii_R; omega) (by unfold ii_R; omega)).mp z
  · rw [ii_le (by unfold ii_R; omega) (by unfold ii_R; omega)] at y
    omega
  · have hz : a ≠ 0 := fun e => z (by rw [e]; rfl)
    rw [ii_le (by unfold ii_R; omega) (by unfold ii_R; omega)] at y
    rw [if_pos ⟨hz, by omega⟩] at h
    refine xs_235probe (gv := 0) hfa hfb hne h1 h2 hu hv hb hf (by unfold ii_R; omega) (fun w => ?_) (fun w => ?_)
    · rw [if_pos w] at h; exact h
    · rw [if_neg w] at h
      rw [Int.add_zero]; exact h
theorem xs_stprobe {post : SX → Prop} {n th : Nat} {on : Bool} {p q c d u v : Int} (hn : n < 30) (hth : th < 3) (ht : a_thirds n = nI th) (hm : a_motions n = 3 ↔ on = true)
    (hc : a_centres (2 * n) = ii_I c) (hd : a_centres (2 * n + 1) = ii_I d) (hr : a_rows (3 * n + (th + 1) % 3) = ii_I (c - p)) (hr2 : a_rows (3 * n + (th + 2) % 3) = ii_I (d - q))
    (h1 : a_probe ((th + 1) % 3) = ii_I (c + u)) (h2 : a_probe ((th + 2) % 3) = ii_I (d + v)) (hu : -5000 ≤ u ∧ u ≤ 5000) (hv : -5000 ≤ v ∧ v ≤ 5000) (hf : 0 ≤ p * p + q * q ∧ p * p + q * q ≤ 90000)
    (h : post (f_lines, f_fastest, f_gain, f_bend, f_ahead, f_mode, f_holds, f_pace, f_line, f_gone, f_dwellLeft, f_stepsInAll, f_ticksInAll, f_speed, f_present, f_laid, a_wordCounts, a_letters, a_values, a_limits, a_switches, a_tool, a_inForce, a_origins, a_given, a_rows, (upd (upd a_probe ((th + 1) % 3) (ii_I (c + (wk_nx on (p * p + q * q) (u, v)).1))) ((th + 2) % 3) (ii_I (d + (wk_nx on (p * p + q * q) (u, v)).2))), a_motions, a_thirds, a_centres, a_steps, a_paces, a_dwells, a_marks, a_nexts, a_joints)) :
    wpX_stepRound__probe post (f_lines, f_fastest, f_gain, f_bend, f_ahead, f_mode, f_holds, f_pace, f_line, f_gone, f_dwellLeft, f_stepsInAll, f_ticksInAll, f_speed, f_present, f_laid, a_wordCounts, a_letters, a_values, a_limits, a_switches, a_tool, a_inForce, a_origins, a_given, a_rows, a_probe, a_motions, a_thirds, a_centres, a_steps, a_paces, a_dwells, a_marks, a_nexts, a_joints) (nI n) := by
  have hfa : (th + 1) % 3 < 3 := Nat.mod_lt _ (by decide)
  have hfb : (th + 2) % 3 < 3 := Nat.mod_lt _ (by decide)
  have hne : (th + 2) % 3 ≠ (th + 1) % 3 := by omega
  unfold wpX_stepRound__probe
  dsimp only
  rw [nI_clamp (show n < 2 ^ 31 by omega), ht, ix_21, ix_2, nI_clamp (show 2 * n < 2 ^ 31 by omega), nI_clamp (show 2 * n + 1 < 2 ^ 31 by omega), hc, hd]
  have i30 : vp_in (nI n) 30 := vp_in_nI hn (by omega)
  have i60 : vp_in (nI (2 * n)) 60 := vp_in_nI (by omega) (by omega)
  have i61 : vp_in (nI (2 * n + 1)) 60 := vp_in_nI (by omega) (by omega)
  refine ⟨i30, by decide, nm_r (e' := nI ((th + 1) % 3)) (xs_m1 hth) ⟨i30, by decide, nm_r (e' := nI ((th + 2) % 3)) (xs_m2 hth) ?_⟩⟩
  rw [ix_3, ix_3, nI_clamp (show 3 * n + (th + 1) % 3 < 2 ^ 31 by omega), nI_clamp (show 3 * n + (th + 2) % 3 < 2 ^ 31 by omega), nI_clamp (show (th + 1) % 3 < 2 ^ 31 by omega), nI_clamp (show (th + 2) % 3 < 2 ^ 31 by omega), hr, hr2, h1, h2]
  refine ⟨vp_in_nI (by omega) (by omega), i60, nm_r (e' := ii_I (-p)) (by rw [ii_sub]; congr 1; omega) ⟨vp_in_nI (by omega) (by omega), i61, nm_r (e' := ii_I (-q)) (by rw [ii_sub]; congr 1; omega) ?_⟩⟩
  refine nm_r (e' := ii_I (p * p + q * q)) (by rw [ii_mul, ii_mul, ii_add, Int.neg_mul_neg, Int.neg_mul_neg]) ?_
  refine ⟨vp_in_nI hfa (by omega), i60, nm_r (e' := ii_I u) (by rw [ii_sub]; congr 1; omega) ⟨vp_in_nI hfb (by omega), i61, nm_r (e' := ii_I v) (by rw [ii_sub]; congr 1; omega) ⟨i30, ?_⟩⟩⟩
  have s1 := wk_sgr v
  have s2 := wk_sgr (-v)
  have s3 := wk_sgr u
  have s4 := wk_sgr (-u)
  unfold wk_nx at h
  refine br_c (fun z => ?_) (fun z => ?_)
  · rw [hm.mp z] at h
    unfold wX_stepRound__probe_127
    refine br_f (by decide) (xs_sg (x := -v) (ii_neg v) (by unfold ii_R; omega) ?_)
    unfold wX_stepRound__probe_150
    refine br_f (by decide) (xs_sg (x := u) rfl (by unfold ii_R; omega) ?_)
    exact xs_173probe hfa hfb hne h1 h2 hu hv s2 s3 hf h
  · have : on = false := by
      cases on
      · rfl
      · exact absurd (hm.mpr rfl) z
    rw [this] at h
    unfold wX_stepRound__probe_127
    refine br_t rfl (xs_sg (x := v) rfl (by unfold ii_R; omega) ?_)
    unfold wX_stepRound__probe_150
    refine br_t rfl (xs_sg (x := -u) (ii_neg u) (by unfold ii_R; omega) ?_)
    exact xs_173probe hfa hfb hne h1 h2 hu hv s1 s4 hf h
end
end XROprobe
section XROtool
section
variable {f_lines f_fastest f_gain f_bend f_ahead f_mode f_holds f_pace f_line f_gone f_dwellLeft f_stepsInAll f_ticksInAll f_speed f_present f_laid : Int32} {a_wordCounts a_letters a_values a_limits a_switches a_tool a_inForce a_origins a_given a_rows a_probe a_motions a_thirds a_centres a_steps a_paces a_dwells a_marks a_nexts a_joints : Nat → Int32}
theorem xs_269tool {post : SX → Prop} {fa fb : Nat} {c d u v gu gv : Int} (hfa : fa < 3) (hfb : fb < 3) (hne : fb ≠ fa) (h1 : a_tool fa = ii_I (c + u)) (h2 : a_tool fb = ii_I (d + v))
    (h : post (f_lines, f_fastest, f_gain, f_bend, f_ahead, f_mode, f_holds, f_pace, f_line, f_gone, f_dwellLeft, f_stepsInAll, f_ticksInAll, f_speed, f_present, f_laid, a_wordCounts, a_letters, a_values, a_limits, a_switches, (upd (upd a_tool fa (ii_I (c + (u + gu)))) fb (ii_I (d + (v + gv)))), a_inForce, a_origins, a_given, a_rows, a_probe, a_motions, a_thirds, a_centres, a_steps, a_paces, a_dwells, a_marks, a_nexts, a_joints)) : wX_stepRound__tool_269 post (nI fa) (nI fb) (ii_I gu) (ii_I gv) f_lines f_fastest f_gain f_bend f_ahead f_mode f_holds f_pace f_line f_gone f_dwellLeft f_stepsInAll f_ticksInAll f_speed f_present f_laid a_wordCounts a_letters a_values a_limits a_switches a_tool a_inForce a_origins a_given a_rows a_probe a_motions a_thirds a_centres a_steps a_paces a_dwells a_marks a_nexts a_joints := by
  unfold wX_stepRound__tool_269
  rw [nI_clamp (show fa < 2 ^ 31 by omega), nI_clamp (show fb < 2 ^ 31 by omega), h1, ii_add, Int.add_assoc]
  refine ⟨vp_in_nI hfa (by omega), vp_in_nI hfa (by omega), nm_e ⟨vp_in_nI hfb (by omega), vp_in_nI hfb (by omega), nm_r ?_ h⟩⟩
  rw [pk_un hne, h2, ii_add, Int.add_assoc]
theorem xs_235tool {post : SX → Prop} {fa fb : Nat} {c d u v f b gu gv m : Int} (hfa : fa < 3) (hfb : fb < 3) (hne : fb ≠ fa) (h1 : a_tool fa = ii_I (c + u)) (h2 : a_tool fb = ii_I (d + v))
    (hu : -5000 ≤ u ∧ u ≤ 5000) (hv : -5000 ≤ v ∧ v ≤ 5000) (hb : -1 ≤ b ∧ b ≤ 1) (hf : 0 ≤ f ∧ f ≤ 90000) (hm : ii_R m)
    (hq : (b ≠ 0 ∧ wk_of f u (v + b) < m) → post (f_lines, f_fastest, f_gain, f_bend, f_ahead, f_mode, f_holds, f_pace, f_line, f_gone, f_dwellLeft, f_stepsInAll, f_ticksInAll, f_speed, f_present, f_laid, a_wordCounts, a_letters, a_values, a_limits, a_switches, (upd (upd a_tool fa (ii_I (c + u))) fb (ii_I (d + (v + b)))), a_inForce, a_origins, a_given, a_rows, a_probe, a_motions, a_thirds, a_centres, a_steps, a_paces, a_dwells, a_marks, a_nexts, a_joints))
    (h : ¬ (b ≠ 0 ∧ wk_of f u (v + b) < m) → post (f_lines, f_fastest, f_gain, f_bend, f_ahead, f_mode, f_holds, f_pace, f_line, f_gone, f_dwellLeft, f_stepsInAll, f_ticksInAll, f_speed, f_present, f_laid, a_wordCounts, a_letters, a_values, a_limits, a_switches, (upd (upd a_tool fa (ii_I (c + (u + gu)))) fb (ii_I (d + (v + gv)))), a_inForce, a_origins, a_given, a_rows, a_probe, a_motions, a_thirds, a_centres, a_steps, a_paces, a_dwells, a_marks, a_nexts, a_joints)) :
    wX_stepRound__tool_235 post (nI fa) (nI fb) (ii_I f) (ii_I u) (ii_I v) (ii_I b) (ii_I gu) (ii_I gv) (ii_I m) f_lines f_fastest f_gain f_bend f_ahead f_mode f_holds f_pace f_line f_gone f_dwellLeft f_stepsInAll f_ticksInAll f_speed f_present f_laid a_wordCounts a_letters a_values a_limits a_switches a_tool a_inForce a_origins a_given a_rows a_probe a_motions a_thirds a_centres a_steps a_paces a_dwells a_marks a_nexts a_joints := by
  unfold wX_stepRound__tool_235
  rw [ii_add]
  have r := wk_ofr (f := f) (u := u) (v := v + b) (by omega) (by omega) hf
  refine xs_ms (f := f) (a := u) (b := v + b) rfl rfl rfl (by omega) (by omega) hf (br_c (fun z => ?_) (fun z => br_c (fun y => ?_) (fun y => ?_)))
  · refine xs_269tool hfa hfb hne h1 h2 (h (fun w => w.1 ?_))
    exact (ii_eq (b := 0) (by unfold ii_R; omega) (by unfold ii_R; omega)).mp z
  · refine xs_269tool hfa hfb hne h1 h2 (h (fun w => ?_))
    rw [ii_le hm (by unfold ii_R; omega)] at y
    omega
  · have hz : b ≠ 0 := fun e => z (by rw [e]; rfl)
    rw [ii_le hm (by unfold ii_R; omega)] at y
    have := hq ⟨hz, by omega⟩
    refine xs_269tool (gu := 0) (gv := b) hfa hfb hne h1 h2 ?_
    rw [Int.add_zero]
    exact this
theorem xs_173tool {post : SX → Prop} {fa fb : Nat} {c d u v f a b : Int} (hfa : fa < 3) (hfb : fb < 3) (hne : fb ≠ fa) (h1 : a_tool fa = ii_I (c + u)) (h2 : a_tool fb = ii_I (d + v))
    (hu : -5000 ≤ u ∧ u ≤ 5000) (hv : -5000 ≤ v ∧ v ≤ 5000) (ha : -1 ≤ a ∧ a ≤ 1) (hb : -1 ≤ b ∧ b ≤ 1) (hf : 0 ≤ f ∧ f ≤ 90000)
    (h : post (f_lines, f_fastest, f_gain, f_bend, f_ahead, f_mode, f_holds, f_pace, f_line, f_gone, f_dwellLeft, f_stepsInAll, f_ticksInAll, f_speed, f_present, f_laid, a_wordCounts, a_letters, a_values, a_limits, a_switches, (upd (upd a_tool fa (ii_I (c + (wk_ch f u v a b).1))) fb (ii_I (d + (wk_ch f u v a b).2))), a_inForce, a_origins, a_given, a_rows, a_probe, a_motions, a_thirds, a_centres, a_steps, a_paces, a_dwells, a_marks, a_nexts, a_joints)) :
    wX_stepRound__tool_173 post (nI fa) (nI fb) (ii_I f) (ii_I u) (ii_I v) (ii_I a) (ii_I b) f_lines f_fastest f_gain f_bend f_ahead f_mode f_holds f_pace f_line f_gone f_dwellLeft f_stepsInAll f_ticksInAll f_speed f_present f_laid a_wordCounts a_letters a_values a_limits a_switches a_tool a_inForce a_origins a_given a_rows a_probe a_motions a_thirds a_centres a_steps a_paces a_dwells a_marks a_nexts a_joints := by
  unfold wX_stepRound__tool_173
  rw [ii_add, ii_add]
  have r1 := wk_ofr (f := f) (u := u + a) (v := v + b) (by omega) (by omega) hf
  have r2 := wk_ofr (f := f) (u := u + a) (v := v) (by omega) (by omega) hf
  unfold wk_ch at h
  refine xs_ms (f := f) (a := u + a) (b := v + b) rfl rfl rfl (by omega) (by omega) hf (xs_ms (f := f) (a := u + a) (b := v) rfl rfl rfl (by omega) (by omega) hf ?_)
  have small : ¬ (a ≠ 0 ∧ wk_of f (u + a) v < wk_of f (u + a) (v + b)) → wX_stepRound__tool_235 post (nI fa) (nI fb) (ii_I f) (ii_I u) (ii_I v) (ii_I b) (ii_I a) (ii_I b) (ii_I (wk_of f (u + a) (v + b))) f_lines f_fastest f_gain f_bend f_ahead f_mode f_holds f_pace f_line f_gone f_dwellLeft f_stepsInAll f_ticksInAll f_speed f_present f_laid a_wordCounts a_letters a_values a_limits a_switches a_tool a_inForce a_origins a_given a_rows a_probe a_motions a_thirds a_centres a_steps a_paces a_dwells a_marks a_nexts a_joints := by
    intro n
    rw [if_neg n] at h
    refine xs_235tool hfa hfb hne h1 h2 hu hv hb hf (by unfold ii_R; omega) (fun w => ?_) (fun w => ?_)
    · rw [if_pos w] at h; exact h
    · rw [if_neg w] at h; exact h
  refine br_c (fun z => small (fun w => w.1 ?_)) (fun z => br_c (fun y => small (fun w => ?_)) (fun y => ?_))
  · exact (ii_eq (b := 0) (by unfold ii_R; omega) (by unfold ii_R; omega)).mp z
  · rw [ii_le (by unfold ii_R; omega) (by unfold ii_R; omega)] at y
    omega
  · have hz : a ≠ 0 := fun e => z (by rw [e]; rfl)
    rw [ii_le (by unfold ii_R; omega) (by unfold ii_R; omega)] at y
    rw [if_pos ⟨hz, by omega⟩] at h
    refine xs_235tool (gv := 0) hfa hfb hne h1 h2 hu hv hb hf (by unfold ii_R; omega) (fun w => ?_) (fun w => ?_)
    · rw [if_pos w] at h; exact h
    · rw [if_neg w] at h
      rw [Int.add_zero]; exact h
theorem xs_sttool {post : SX → Prop} {n th : Nat} {on : Bool} {p q c d u v : Int} (hn : n < 30) (hth : th < 3) (ht : a_thirds n = nI th) (hm : a_motions n = 3 ↔ on = true)
    (hc : a_centres (2 * n) = ii_I c) (hd : a_centres (2 * n + 1) = ii_I d) (hr : a_rows (3 * n + (th + 1) % 3) = ii_I (c - p)) (hr2 : a_rows (3 * n + (th + 2) % 3) = ii_I (d - q))
    (h1 : a_tool ((th + 1) % 3) = ii_I (c + u)) (h2 : a_tool ((th + 2) % 3) = ii_I (d + v)) (hu : -5000 ≤ u ∧ u ≤ 5000) (hv : -5000 ≤ v ∧ v ≤ 5000) (hf : 0 ≤ p * p + q * q ∧ p * p + q * q ≤ 90000)
    (h : post (f_lines, f_fastest, f_gain, f_bend, f_ahead, f_mode, f_holds, f_pace, f_line, f_gone, f_dwellLeft, f_stepsInAll, f_ticksInAll, f_speed, f_present, f_laid, a_wordCounts, a_letters, a_values, a_limits, a_switches, (upd (upd a_tool ((th + 1) % 3) (ii_I (c + (wk_nx on (p * p + q * q) (u, v)).1))) ((th + 2) % 3) (ii_I (d + (wk_nx on (p * p + q * q) (u, v)).2))), a_inForce, a_origins, a_given, a_rows, a_probe, a_motions, a_thirds, a_centres, a_steps, a_paces, a_dwells, a_marks, a_nexts, a_joints)) :
    wpX_stepRound__tool post (f_lines, f_fastest, f_gain, f_bend, f_ahead, f_mode, f_holds, f_pace, f_line, f_gone, f_dwellLeft, f_stepsInAll, f_ticksInAll, f_speed, f_present, f_laid, a_wordCounts, a_letters, a_values, a_limits, a_switches, a_tool, a_inForce, a_origins, a_given, a_rows, a_probe, a_motions, a_thirds, a_centres, a_steps, a_paces, a_dwells, a_marks, a_nexts, a_joints) (nI n) := by
  have hfa : (th + 1) % 3 < 3 := Nat.mod_lt _ (by decide)
  have hfb : (th + 2) % 3 < 3 := Nat.mod_lt _ (by decide)
  have hne : (th + 2) % 3 ≠ (th + 1) % 3 := by omega
  unfold wpX_stepRound__tool
  dsimp only
  rw [nI_clamp (show n < 2 ^ 31 by omega), ht, ix_21, ix_2, nI_clamp (show 2 * n < 2 ^ 31 by omega), nI_clamp (show 2 * n + 1 < 2 ^ 31 by omega), hc, hd]
  have i30 : vp_in (nI n) 30 := vp_in_nI hn (by omega)
  have i60 : vp_in (nI (2 * n)) 60 := vp_in_nI (by omega) (by omega)
  have i61 : vp_in (nI (2 * n + 1)) 60 := vp_in_nI (by omega) (by omega)
  refine ⟨i30, by decide, nm_r (e' := nI ((th + 1) % 3)) (xs_m1 hth) ⟨i30, by decide, nm_r (e' := nI ((th + 2) % 3)) (xs_m2 hth) ?_⟩⟩
  rw [ix_3, ix_3, nI_clamp (show 3 * n + (th + 1) % 3 < 2 ^ 31 by omega), nI_clamp (show 3 * n + (th + 2) % 3 < 2 ^ 31 by omega), nI_clamp (show (th + 1) % 3 < 2 ^ 31 by omega), nI_clamp (show (th + 2) % 3 < 2 ^ 31 by omega), hr, hr2, h1, h2]
  refine ⟨vp_in_nI (by omega) (by omega), i60, nm_r (e' := ii_I (-p)) (by rw [ii_sub]; congr 1; omega) ⟨vp_in_nI (by omega) (by omega), i61, nm_r (e' := ii_I (-q)) (by rw [ii_sub]; congr 1; omega) ?_⟩⟩
  refine nm_r (e' := ii_I (p * p + q * q)) (by rw [ii_mul, ii_mul, ii_add, Int.neg_mul_neg, Int.neg_mul_neg]) ?_
  refine ⟨vp_in_nI hfa (by omega), i60, nm_r (e' := ii_I u) (by rw [ii_sub]; congr 1; omega) ⟨vp_in_nI hfb (by omega), i61, nm_r (e' := ii_I v) (by rw [ii_sub]; congr 1; omega) ⟨i30, ?_⟩⟩⟩
  have s1 := wk_sgr v
  have s2 := wk_sgr (-v)
  have s3 := wk_sgr u
  have s4 := wk_sgr (-u)
  unfold wk_nx at h
  refine br_c (fun z => ?_) (fun z => ?_)
  · rw [hm.mp z] at h
    unfold wX_stepRound__tool_127
    refine br_f (by decide) (xs_sg (x := -v) (ii_neg v) (by unfold ii_R; omega) ?_)
    unfold wX_stepRound__tool_150
    refine br_f (by decide) (xs_sg (x := u) rfl (by unfold ii_R; omega) ?_)
    exact xs_173tool hfa hfb hne h1 h2 hu hv s2 s3 hf h
  · have : on = false := by
      cases on
      · rfl
      · exact absurd (hm.mpr rfl) z
    rw [this] at h
    unfold wX_stepRound__tool_127
    refine br_t rfl (xs_sg (x := v) rfl (by unfold ii_R; omega) ?_)
    unfold wX_stepRound__tool_150
    refine br_t rfl (xs_sg (x := -u) (ii_neg u) (by unfold ii_R; omega) ?_)
    exact xs_173tool hfa hfb hne h1 h2 hu hv s1 s4 hf h
end
end XROtool
end
section
section XWK
theorem sg_per {lim to : Nat → Int32} {th : Nat} (h : th < 3) : sg_out lim to = true ↔ (sg_ou lim to ((th + 1) % 3) = true ∨ sg_ou lim to ((th + 2) % 3) = true ∨ sg_ou lim to th = true) := by
  unfold sg_out
  rw [Bool.or_eq_true, Bool.or_eq_true]
  match th, h with
  | 0, _ =>
    show _ ↔ (sg_ou lim to 1 = true ∨ sg_ou lim to 2 = true ∨ sg_ou lim to 0 = true)
    constructor
    · rintro ((z | z) | z)
      · exact Or.inr (Or.inr z)
      · exact Or.inl z
      · exact Or.inr (Or.inl z)
    · rintro (z | z | z)
      · exact Or.inl (Or.inr z)
      · exact Or.inr z
      · exact Or.inl (Or.inl z)
  | 1, _ =>
    show _ ↔ (sg_ou lim to 2 = true ∨ sg_ou lim to 0 = true ∨ sg_ou lim to 1 = true)
    constructor
    · rintro ((z | z) | z)
      · exact Or.inr (Or.inl z)
      · exact Or.inr (Or.inr z)
      · exact Or.inl z
    · rintro (z | z | z)
      · exact Or.inr z
      · exact Or.inl (Or.inl z)
      · exact Or.inl (Or.inr z)
  | 2, _ =>
    show _ ↔ (sg_ou lim to 0 = true ∨ sg_ou lim to 1 = true ∨ sg_ou lim to 2 = true)
    constructor
    · rintro ((z | z) | z)
      · exact Or.inl z
      · exact Or.inr (Or.inl z)
      · exact Or.inr (Or.inr z)
    · rintro (z | z | z)
      · exact Or.inl (Or.inl z)
      · exact Or.inl (Or.inr z)
      · exact Or.inr z
theorem sg_all {P : Nat → Prop} {th : Nat} (h : th < 3) (h1 : P ((th + 1) % 3)) (h2 : P ((th + 2) % 3)) (h3 : P th) : ∀ a, a < 3 → P a := by
  match th, h with
  | 0, _ => exact fun a ha => co_3 h3 h1 h2 ha
  | 1, _ => exact fun a ha => co_3 h2 h3 h1 ha
  | 2, _ => exact fun a ha => co_3 h1 h2 h3 ha
theorem sg_ouI {lim to : Nat → Int32} {a : Nat} {x : Int} (hx : ii_R x) (h : to a = ii_I x) : sg_ou lim to a = true ↔ (x < 0 ∨ (lim a).toInt < x) := by
  unfold sg_ou
  rw [h, ii_toInt hx, decide_eq_true_iff]
section
variable {f_lines f_fastest f_gain f_bend f_ahead f_mode f_holds f_pace f_line f_gone f_dwellLeft f_stepsInAll f_ticksInAll f_speed f_present f_laid : Int32} {a_wordCounts a_letters a_values a_limits a_switches a_tool a_inForce a_origins a_given a_rows a_probe a_motions a_thirds a_centres a_steps a_paces a_dwells a_marks a_nexts a_joints : Nat → Int32}
theorem xw_51s {post : Int32 → SX → Prop} {J : Int32 → Int32 → Int32 → Int32 → Int32 → Int32 → Int32 → Int32 → Int32 → Int32 → Int32 → Int32 → Int32 → Int32 → Int32 → Int32 → Int32 → (Nat → Int32) → (Nat → Int32) → (Nat → Int32) → (Nat → Int32) → (Nat → Int32) → (Nat → Int32) → (Nat → Int32) → (Nat → Int32) → (Nat → Int32) → (Nat → Int32) → (Nat → Int32) → (Nat → Int32) → (Nat → Int32) → (Nat → Int32) → (Nat → Int32) → (Nat → Int32) → (Nat → Int32) → (Nat → Int32) → (Nat → Int32) → (Nat → Int32) → Prop}
    {x2 : Int32} {n a f : Nat} {fl : Bool} (hn : n < 30) (ha : a < 3)
    (h6 : sg_ou a_limits a_probe a = true → post 6 (f_lines, f_fastest, f_gain, f_bend, f_ahead, f_mode, f_holds, f_pace, f_line, f_gone, f_dwellLeft, f_stepsInAll, f_ticksInAll, f_speed, f_present, f_laid, a_wordCounts, a_letters, a_values, a_limits, a_switches, a_tool, a_inForce, a_origins, a_given, a_rows, a_probe, a_motions, a_thirds, a_centres, a_steps, a_paces, a_dwells, a_marks, a_nexts, a_joints))
    (h : sg_ou a_limits a_probe a = false → wX_walkRound_51 post J (nI n) x2 f_lines f_fastest f_gain f_bend f_ahead f_mode f_holds f_pace f_line f_gone f_dwellLeft f_stepsInAll f_ticksInAll f_speed f_present f_laid a_wordCounts a_letters a_values a_limits a_switches a_tool a_inForce a_origins a_given a_rows a_probe a_motions a_thirds a_centres a_steps a_paces a_dwells a_marks a_nexts a_joints f (bo_I (fl && decide (a_probe a = a_rows (3 * (n + 1) + a)))) (nI (a + 1))) :
    wX_walkRound_51 post J (nI n) x2 f_lines f_fastest f_gain f_bend f_ahead f_mode f_holds f_pace f_line f_gone f_dwellLeft f_stepsInAll f_ticksInAll f_speed f_present f_laid a_wordCounts a_letters a_values a_limits a_switches a_tool a_inForce a_origins a_given a_rows a_probe a_motions a_thirds a_centres a_steps a_paces a_dwells a_marks a_nexts a_joints (f + 1) (bo_I fl) (nI a) := by
  refine br_f (ix_3a ha) ?_
  have i3 : vp_in (nI a) 3 := vp_in_nI ha (by decide)
  rw [ix_3s, nI_clamp (show a < 2 ^ 31 by omega), nI_clamp (show 3 * (n + 1) + a < 2 ^ 31 by omega)]
  refine ⟨i3, br_c (fun c => h6 ?_) (fun c => ⟨i3, i3, br_c (fun d => ⟨i3, vp_in_nI (by omega) (by omega), ?_⟩) (fun d => h6 ?_)⟩)⟩
  · rw [fc_lt, fc_0] at c
    exact decide_eq_true (Or.inl c)
  · have h' := h (decide_eq_false (by rw [fc_lt, fc_0] at c; rw [fc_le] at d; omega))
    refine br_c (fun e => nm_r (nI_1 a) ?_) (fun e => nm_r (nI_1 a) ?_)
    · rw [decide_eq_true e, Bool.and_true] at h'; exact h'
    · rw [decide_eq_false e, Bool.and_false] at h'; exact h'
  · rw [fc_le] at d
    exact decide_eq_true (Or.inr (by omega))
theorem xw_51 {post : Int32 → SX → Prop} {J : Int32 → Int32 → Int32 → Int32 → Int32 → Int32 → Int32 → Int32 → Int32 → Int32 → Int32 → Int32 → Int32 → Int32 → Int32 → Int32 → Int32 → (Nat → Int32) → (Nat → Int32) → (Nat → Int32) → (Nat → Int32) → (Nat → Int32) → (Nat → Int32) → (Nat → Int32) → (Nat → Int32) → (Nat → Int32) → (Nat → Int32) → (Nat → Int32) → (Nat → Int32) → (Nat → Int32) → (Nat → Int32) → (Nat → Int32) → (Nat → Int32) → (Nat → Int32) → (Nat → Int32) → (Nat → Int32) → (Nat → Int32) → Prop}
    {n k : Nat} (hn : n < 30)
    (h6 : sg_out a_limits a_probe = true → post 6 (f_lines, f_fastest, f_gain, f_bend, f_ahead, f_mode, f_holds, f_pace, f_line, f_gone, f_dwellLeft, f_stepsInAll, f_ticksInAll, f_speed, f_present, f_laid, a_wordCounts, a_letters, a_values, a_limits, a_switches, a_tool, a_inForce, a_origins, a_given, a_rows, a_probe, a_motions, a_thirds, a_centres, a_steps, a_paces, a_dwells, a_marks, a_nexts, a_joints))
    (h0 : sg_out a_limits a_probe = false → (∀ a, a < 3 → a_probe a = a_rows (3 * (n + 1) + a)) → post 0 (f_lines, f_fastest, f_gain, f_bend, f_ahead, f_mode, f_holds, f_pace, f_line, f_gone, f_dwellLeft, f_stepsInAll, f_ticksInAll, f_speed, f_present, f_laid, a_wordCounts, a_letters, a_values, a_limits, a_switches, a_tool, a_inForce, a_origins, a_given, a_rows, a_probe, a_motions, a_thirds, a_centres, (upd a_steps n (nI k)), a_paces, a_dwells, a_marks, a_nexts, a_joints))
    (hJ : sg_out a_limits a_probe = false → ¬ (∀ a, a < 3 → a_probe a = a_rows (3 * (n + 1) + a)) → J (nI (k + 1)) f_lines f_fastest f_gain f_bend f_ahead f_mode f_holds f_pace f_line f_gone f_dwellLeft f_stepsInAll f_ticksInAll f_speed f_present f_laid a_wordCounts a_letters a_values a_limits a_switches a_tool a_inForce a_origins a_given a_rows a_probe a_motions a_thirds a_centres a_steps a_paces a_dwells a_marks a_nexts a_joints) :
    ∃ m, wX_walkRound_51 post J (nI n) (nI k) f_lines f_fastest f_gain f_bend f_ahead f_mode f_holds f_pace f_line f_gone f_dwellLeft f_stepsInAll f_ticksInAll f_speed f_present f_laid a_wordCounts a_letters a_values a_limits a_switches a_tool a_inForce a_origins a_given a_rows a_probe a_motions a_thirds a_centres a_steps a_paces a_dwells a_marks a_nexts a_joints m 1 0 := by
  unfold sg_out at h6 h0 hJ
  refine ⟨4, ?_⟩
  refine xw_51s (a := 0) (fl := true) hn (by decide) (fun e => h6 (by rw [e]; rfl)) (fun e0 => ?_)
  refine xw_51s (a := 1) hn (by decide) (fun e => h6 (by rw [e, e0]; rfl)) (fun e1 => ?_)
  refine xw_51s (a := 2) hn (by decide) (fun e => h6 (by rw [e, e0, e1]; rfl)) (fun e2 => ?_)
  have so : (sg_ou a_limits a_probe 0 || sg_ou a_limits a_probe 1 || sg_ou a_limits a_probe 2) = false := by rw [e0, e1, e2]; rfl
  refine br_t ix_33 (br_c (fun z => nm_r (nI_1 k) (hJ so (fun w => ?_))) (fun z => ⟨vp_in_nI hn (by omega), ?_⟩))
  · rw [decide_eq_true (w 0 (by decide)), decide_eq_true (w 1 (by decide)), decide_eq_true (w 2 (by decide))] at z
    exact absurd z (by decide)
  · rw [nI_clamp (by omega)]
    refine nm_e (h0 so ?_)
    by_cases w0 : a_probe 0 = a_rows (3 * (n + 1) + 0)
    · by_cases w1 : a_probe 1 = a_rows (3 * (n + 1) + 1)
      · by_cases w2 : a_probe 2 = a_rows (3 * (n + 1) + 2)
        · exact fun a ha => co_3 (P := fun a => a_probe a = a_rows (3 * (n + 1) + a)) w0 w1 w2 ha
        · rw [decide_eq_false w2, Bool.and_false] at z; exact absurd rfl z
      · rw [decide_eq_false w1, Bool.and_false, Bool.false_and] at z; exact absurd rfl z
    · rw [decide_eq_false w0, Bool.and_false, Bool.false_and, Bool.false_and] at z; exact absurd rfl z
theorem xw_31 {post : Int32 → SX → Prop} {n th : Nat} {on : Bool} {p q c d x y : Int} (hn : n < 30) (hth : th < 3) (ht : a_thirds n = nI th) (hm : a_motions n = 3 ↔ on = true)
    (hc : a_centres (2 * n) = ii_I c) (hd : a_centres (2 * n + 1) = ii_I d) (hr : a_rows (3 * n + (th + 1) % 3) = ii_I (c - p)) (hr2 : a_rows (3 * n + (th + 2) % 3) = ii_I (d - q))
    (hf : 0 ≤ p * p + q * q ∧ p * p + q * q ≤ 90000) (hcr : -2000 ≤ c ∧ c ≤ 2000) (hdr : -2000 ≤ d ∧ d ≤ 2000) (hl : ∀ a, a < 3 → (a_limits a).toInt ≤ 1000)
    (hx : ii_R (c + x)) (hy : ii_R (d + y)) (ho : a_rows (3 * (n + 1) + (th + 1) % 3) = ii_I (c + x)) (ho2 : a_rows (3 * (n + 1) + (th + 2) % 3) = ii_I (d + y))
    {z : Int} (hz : 0 ≤ z ∧ z ≤ (a_limits th).toInt) (ho3 : a_rows (3 * (n + 1) + th) = ii_I z) :
    ∀ (f k : Nat) (u v : Int) (P : Nat → Int32), P ((th + 1) % 3) = ii_I (c + u) → P ((th + 2) % 3) = ii_I (d + v) → P th = ii_I z → (-5000 ≤ u ∧ u ≤ 5000) → (-5000 ≤ v ∧ v ≤ 5000) →
      k + f ≤ 3000 → (∃ j, 1 ≤ j ∧ j ≤ f ∧ wk_it on (p * p + q * q) j (u, v) = (x, y)) →
      ((pl_wk on (p * p + q * q) c d (a_limits ((th + 1) % 3)).toInt (a_limits ((th + 2) % 3)).toInt x y f k u v).1 = 6 → ∀ P', post 6 (f_lines, f_fastest, f_gain, f_bend, f_ahead, f_mode, f_holds, f_pace, f_line, f_gone, f_dwellLeft, f_stepsInAll, f_ticksInAll, f_speed, f_present, f_laid, a_wordCounts, a_letters, a_values, a_limits, a_switches, a_tool, a_inForce, a_origins, a_given, a_rows, P', a_motions, a_thirds, a_centres, a_steps, a_paces, a_dwells, a_marks, a_nexts, a_joints)) →
      ((pl_wk on (p * p + q * q) c d (a_limits ((th + 1) % 3)).toInt (a_limits ((th + 2) % 3)).toInt x y f k u v).1 = 0 → ∀ P', post 0 (f_lines, f_fastest, f_gain, f_bend, f_ahead, f_mode, f_holds, f_pace, f_line, f_gone, f_dwellLeft, f_stepsInAll, f_ticksInAll, f_speed, f_present, f_laid, a_wordCounts, a_letters, a_values, a_limits, a_switches, a_tool, a_inForce, a_origins, a_given, a_rows, P', a_motions, a_thirds, a_centres, (upd a_steps n (nI (pl_wk on (p * p + q * q) c d (a_limits ((th + 1) % 3)).toInt (a_limits ((th + 2) % 3)).toInt x y f k u v).2)), a_paces, a_dwells, a_marks, a_nexts, a_joints)) →
      ∀ N, f < N → wX_walkRound_31 post (nI n) N (nI (k + 1)) f_lines f_fastest f_gain f_bend f_ahead f_mode f_holds f_pace f_line f_gone f_dwellLeft f_stepsInAll f_ticksInAll f_speed f_present f_laid a_wordCounts a_letters a_values a_limits a_switches a_tool a_inForce a_origins a_given a_rows P a_motions a_thirds a_centres a_steps a_paces a_dwells a_marks a_nexts a_joints := by
  have hfa : (th + 1) % 3 < 3 := Nat.mod_lt _ (by decide)
  have hfb : (th + 2) % 3 < 3 := Nat.mod_lt _ (by decide)
  have hne : (th + 2) % 3 ≠ (th + 1) % 3 := by omega
  have n1 : th ≠ (th + 1) % 3 := by omega
  have n2 : th ≠ (th + 2) % 3 := by omega
  have l1 := hl _ hfa
  have l2 := hl _ hfb
  have l3 := hl _ hth
  intro f
  induction f with
  | zero =>
    intro k u v P _ _ _ _ _ _ hj
    obtain ⟨j, j1, j2, _⟩ := hj
    omega
  | succ f ih =>
    intro k u v P P1 P2 P3 hu hv hk hj h6 h0 N hN
    obtain ⟨N, rfl⟩ : ∃ e, N = e + 1 := ⟨N - 1, by omega⟩
    rw [pl_wk] at h6 h0
    have hw : wk_nx on (p * p + q * q) (u, v) = wk_nx on (p * p + q * q) (u, v) := rfl
    revert hj h6 h0
    have wr := wk_nxr on (p * p + q * q) u v
    generalize ew : wk_nx on (p * p + q * q) (u, v) = w at *
    intro hj h6 h0
    refine br_f (nI_nlt (a := 1000000) (b := k + 1) (by omega) (by decide)) (xs_stprobe (on := on) (p := p) (q := q) (c := c) (d := d) (u := u) (v := v) hn hth ht hm hc hd hr hr2 P1 P2 hu hv hf ?_)
    rw [ew]
    have Q1 : upd (upd P ((th + 1) % 3) (ii_I (c + w.1))) ((th + 2) % 3) (ii_I (d + w.2)) ((th + 1) % 3) = ii_I (c + w.1) := by rw [pk_un (Ne.symm hne), pk_us]
    have Q2 : upd (upd P ((th + 1) % 3) (ii_I (c + w.1))) ((th + 2) % 3) (ii_I (d + w.2)) ((th + 2) % 3) = ii_I (d + w.2) := pk_us
    have Q3 : upd (upd P ((th + 1) % 3) (ii_I (c + w.1))) ((th + 2) % 3) (ii_I (d + w.2)) th = ii_I z := by rw [pk_un n2, pk_un n1, P3]
    generalize upd (upd P ((th + 1) % 3) (ii_I (c + w.1))) ((th + 2) % 3) (ii_I (d + w.2)) = P' at Q1 Q2 Q3 ⊢
    have out : sg_out a_limits P' = true ↔ (c + w.1 < 0 ∨ (a_limits ((th + 1) % 3)).toInt < c + w.1 ∨ d + w.2 < 0 ∨ (a_limits ((th + 2) % 3)).toInt < d + w.2) := by
      rw [sg_per hth, sg_ouI (by unfold ii_R; omega) Q1, sg_ouI (by unfold ii_R; omega) Q2, sg_ouI (by unfold ii_R; omega) Q3]
      omega
    have alls : (∀ a, a < 3 → P' a = a_rows (3 * (n + 1) + a)) ↔ (w.1 = x ∧ w.2 = y) := by
      constructor
      · intro h
        have e1 := h _ hfa
        have e2 := h _ hfb
        rw [Q1, ho, ii_eq (by unfold ii_R; omega) hx] at e1
        rw [Q2, ho2, ii_eq (by unfold ii_R; omega) hy] at e2
        omega
      · rintro ⟨e1, e2⟩
        refine sg_all (P := fun a => P' a = a_rows (3 * (n + 1) + a)) hth ?_ ?_ ?_
        · show P' _ = a_rows _
          rw [Q1, ho, e1]
        · show P' _ = a_rows _
          rw [Q2, ho2, e2]
        · show P' _ = a_rows _
          rw [Q3, ho3]
    show ∃ m, wX_walkRound_51 post (wX_walkRound_31 post (nI n) N) (nI n) (nI (k + 1)) f_lines f_fastest f_gain f_bend f_ahead f_mode f_holds f_pace f_line f_gone f_dwellLeft f_stepsInAll f_ticksInAll f_speed f_present f_laid a_wordCounts a_letters a_values a_limits a_switches a_tool a_inForce a_origins a_given a_rows P' a_motions a_thirds a_centres a_steps a_paces a_dwells a_marks a_nexts a_joints m 1 0
    refine xw_51 hn (fun e => ?_) (fun e g => ?_) (fun e g => ?_)
    · rw [if_pos (out.mp e)] at h6
      exact h6 rfl _
    · have no : ¬ (c + w.1 < 0 ∨ (a_limits ((th + 1) % 3)).toInt < c + w.1 ∨ d + w.2 < 0 ∨ (a_limits ((th + 2) % 3)).toInt < d + w.2) := by
        intro t; rw [out.mpr t] at e; exact absurd e (by decide)
      rw [if_neg no, if_pos (alls.mp g)] at h0
      exact h0 rfl _
    · have no : ¬ (c + w.1 < 0 ∨ (a_limits ((th + 1) % 3)).toInt < c + w.1 ∨ d + w.2 < 0 ∨ (a_limits ((th + 2) % 3)).toInt < d + w.2) := by
        intro t; rw [out.mpr t] at e; exact absurd e (by decide)
      have ng : ¬ (w.1 = x ∧ w.2 = y) := fun t => g (alls.mpr t)
      rw [if_neg no, if_neg ng] at h6 h0
      refine ih (k + 1) w.1 w.2 P' Q1 Q2 Q3 (by omega) (by omega) (by omega) ?_ h6 h0 N (by omega)
      obtain ⟨j, j1, j2, j3⟩ := hj
      obtain ⟨i, rfl⟩ : ∃ i, j = i + 1 := ⟨j - 1, by omega⟩
      have j4 : wk_it on (p * p + q * q) i w = (x, y) := by
        rw [← ew]; exact j3
      by_cases i0 : i = 0
      · subst i0
        exact absurd ⟨congrArg Prod.fst j4, congrArg Prod.snd j4⟩ ng
      · exact ⟨i, by omega, by omega, j4⟩
theorem xw_2s {post : Int32 → SX → Prop} {n a f : Nat} (hn : n < 30) (ha : a < 3)
    (h : wX_walkRound_2 post (nI n) f_lines f_fastest f_gain f_bend f_ahead f_mode f_holds f_pace f_line f_gone f_dwellLeft f_stepsInAll f_ticksInAll f_speed f_present f_laid f (nI (a + 1)) a_wordCounts a_letters a_values a_limits a_switches a_tool a_inForce a_origins a_given a_rows (upd a_probe a (a_rows (3 * n + a))) a_motions a_thirds a_centres a_steps a_paces a_dwells a_marks a_nexts a_joints) : wX_walkRound_2 post (nI n) f_lines f_fastest f_gain f_bend f_ahead f_mode f_holds f_pace f_line f_gone f_dwellLeft f_stepsInAll f_ticksInAll f_speed f_present f_laid (f + 1) (nI a) a_wordCounts a_letters a_values a_limits a_switches a_tool a_inForce a_origins a_given a_rows a_probe a_motions a_thirds a_centres a_steps a_paces a_dwells a_marks a_nexts a_joints := by
  refine br_f (ix_3a ha) ?_
  rw [ix_3, nI_clamp (show a < 2 ^ 31 by omega), nI_clamp (show 3 * n + a < 2 ^ 31 by omega)]
  exact ⟨vp_in_nI (by omega) (by omega), vp_in_nI ha (by decide), nm_e (nm_r (nI_1 a) h)⟩
theorem xw_2 {post : Int32 → SX → Prop} {n : Nat} (hn : n < 30)
    (h : ∀ P, (∀ a, a < 3 → P a = a_rows (3 * n + a)) → ∃ N, wX_walkRound_31 post (nI n) N 1 f_lines f_fastest f_gain f_bend f_ahead f_mode f_holds f_pace f_line f_gone f_dwellLeft f_stepsInAll f_ticksInAll f_speed f_present f_laid a_wordCounts a_letters a_values a_limits a_switches a_tool a_inForce a_origins a_given a_rows P a_motions a_thirds a_centres a_steps a_paces a_dwells a_marks a_nexts a_joints) : wpX_walkRound post (f_lines, f_fastest, f_gain, f_bend, f_ahead, f_mode, f_holds, f_pace, f_line, f_gone, f_dwellLeft, f_stepsInAll, f_ticksInAll, f_speed, f_present, f_laid, a_wordCounts, a_letters, a_values, a_limits, a_switches, a_tool, a_inForce, a_origins, a_given, a_rows, a_probe, a_motions, a_thirds, a_centres, a_steps, a_paces, a_dwells, a_marks, a_nexts, a_joints) (nI n) := by
  refine ⟨4, xw_2s (a := 0) hn (by decide) (xw_2s (a := 1) hn (by decide) (xw_2s (a := 2) hn (by decide) (br_t ix_33 (h _ ?_))))⟩
  exact fun a ha => co_3 (P := fun a => upd (upd (upd a_probe 0 (a_rows (3 * n + 0))) 1 (a_rows (3 * n + 1))) 2 (a_rows (3 * n + 2)) a = a_rows (3 * n + a)) rfl rfl rfl ha
end
end XWK
end
section
section XCE
theorem fv_ft {F : Nat → Int32} (hF : fc_FW F) : 19 - F 1 = nI (pl_ft F) ∧ pl_ft F < 3 ∧ (pl_ft F + 1) % 3 = pl_fa F ∧ (pl_ft F + 2) % 3 = pl_fb F := by
  unfold pl_ft pl_fa pl_fb
  rcases fv_1 hF with e | e | e <;> rw [e] <;> decide
section
variable {f_lines f_fastest f_gain f_bend f_ahead f_mode f_holds f_pace f_line f_gone f_dwellLeft f_stepsInAll f_ticksInAll f_speed f_present f_laid : Int32} {a_wordCounts a_letters a_values a_limits a_switches a_tool a_inForce a_origins a_given a_rows a_probe a_motions a_thirds a_centres a_steps a_paces a_dwells a_marks a_nexts a_joints : Nat → Int32}
theorem xl_ij {post : Int32 → Prop} {H : Nat → Bool} {p : Int32} (a : Nat) (ha : a < 3) (hp : p = nI (5 + a)) (hH : ∀ i, i < 10 → bt f_present i = H i) (h : post (pl_ij a_inForce H a_given a)) : wpX_coordinate post (f_lines, f_fastest, f_gain, f_bend, f_ahead, f_mode, f_holds, f_pace, f_line, f_gone, f_dwellLeft, f_stepsInAll, f_ticksInAll, f_speed, f_present, f_laid, a_wordCounts, a_letters, a_values, a_limits, a_switches, a_tool, a_inForce, a_origins, a_given, a_rows, a_probe, a_motions, a_thirds, a_centres, a_steps, a_paces, a_dwells, a_marks, a_nexts, a_joints) p := by
  refine xl_co (5 + a) (by omega) hp ?_
  rw [hH (5 + a) (by omega)]
  exact h
theorem xl_pc {post : Int32 → SX → Prop} {H : Nat → Bool} {n th : Nat} {p q hA hB T U : Int} (hn : n < 30) (hth : th < 3) (ht : a_thirds n = nI th) (hH : ∀ i, i < 10 → bt f_present i = H i)
    (hp : pl_ij a_inForce H a_given ((th + 1) % 3) = ii_I p) (hq : pl_ij a_inForce H a_given ((th + 2) % 3) = ii_I q) (rp : -15000 ≤ p ∧ p ≤ 15000) (rq : -15000 ≤ q ∧ q ≤ 15000)
    (eA : a_rows (3 * n + (th + 1) % 3) = ii_I hA) (eB : a_rows (3 * n + (th + 2) % 3) = ii_I hB) (rA : 0 ≤ hA ∧ hA ≤ 1000) (rB : 0 ≤ hB ∧ hB ≤ 1000)
    (eT : a_rows (3 * (n + 1) + (th + 1) % 3) = ii_I T) (eU : a_rows (3 * (n + 1) + (th + 2) % 3) = ii_I U) (rT : -100000 ≤ T ∧ T ≤ 100000) (rU : -100000 ≤ U ∧ U ≤ 100000)
    (h0 : ((H (5 + (th + 1) % 3) = false ∧ H (5 + (th + 2) % 3) = false ∨ H (2 + th) = true ∨ H (5 + th) = true) ∨ p * p + q * q = 0 ∨ 90000 < p * p + q * q ∨ ¬ (T - hA - p) * (T - hA - p) + (U - hB - q) * (U - hB - q) = p * p + q * q) → ∀ C, (∀ k, k < 2 * n → C k = a_centres k) → post 0 (f_lines, f_fastest, f_gain, f_bend, f_ahead, f_mode, f_holds, f_pace, f_line, f_gone, f_dwellLeft, f_stepsInAll, f_ticksInAll, f_speed, f_present, f_laid, a_wordCounts, a_letters, a_values, a_limits, a_switches, a_tool, a_inForce, a_origins, a_given, a_rows, a_probe, a_motions, a_thirds, C, a_steps, a_paces, a_dwells, a_marks, a_nexts, a_joints))
    (h1 : ¬ ((H (5 + (th + 1) % 3) = false ∧ H (5 + (th + 2) % 3) = false ∨ H (2 + th) = true ∨ H (5 + th) = true) ∨ p * p + q * q = 0 ∨ 90000 < p * p + q * q ∨ ¬ (T - hA - p) * (T - hA - p) + (U - hB - q) * (U - hB - q) = p * p + q * q) →
      post 1 (f_lines, f_fastest, f_gain, f_bend, f_ahead, f_mode, f_holds, f_pace, f_line, f_gone, f_dwellLeft, f_stepsInAll, f_ticksInAll, f_speed, f_present, f_laid, a_wordCounts, a_letters, a_values, a_limits, a_switches, a_tool, a_inForce, a_origins, a_given, a_rows, a_probe, a_motions, a_thirds, (upd (upd a_centres (2 * n) (ii_I (hA + p))) (2 * n + 1) (ii_I (hB + q))), a_steps, a_paces, a_dwells, a_marks, a_nexts, a_joints)) :
    wpX_placeCentre post (f_lines, f_fastest, f_gain, f_bend, f_ahead, f_mode, f_holds, f_pace, f_line, f_gone, f_dwellLeft, f_stepsInAll, f_ticksInAll, f_speed, f_present, f_laid, a_wordCounts, a_letters, a_values, a_limits, a_switches, a_tool, a_inForce, a_origins, a_given, a_rows, a_probe, a_motions, a_thirds, a_centres, a_steps, a_paces, a_dwells, a_marks, a_nexts, a_joints) (nI n) := by
  have hfa : (th + 1) % 3 < 3 := Nat.mod_lt _ (by decide)
  have hfb : (th + 2) % 3 < 3 := Nat.mod_lt _ (by decide)
  have q1 := wk_sqb (B := 15000) rp
  have q2 := wk_sqb (B := 15000) rq
  unfold wpX_placeCentre
  dsimp only
  rw [nI_clamp (show n < 2 ^ 31 by omega), ht]
  refine ⟨vp_in_nI hn (by omega), nm_e ⟨by decide, nm_r (xs_m1 hth) ⟨by decide, nm_r (xs_m2 hth) ?_⟩⟩⟩
  have m43 : ¬ (H (5 + (th + 1) % 3) = false ∧ H (5 + (th + 2) % 3) = false) → wX_placeCentre_43 post (nI n) (nI th) (nI ((th + 1) % 3)) (nI ((th + 2) % 3)) f_lines f_fastest f_gain f_bend f_ahead f_mode f_holds f_pace f_line f_gone f_dwellLeft f_stepsInAll f_ticksInAll f_speed f_present f_laid a_wordCounts a_letters a_values a_limits a_switches a_tool a_inForce a_origins a_given a_rows a_probe a_motions a_thirds a_centres a_steps a_paces a_dwells a_marks a_nexts a_joints := by
    intro c1
    unfold wX_placeCentre_43
    refine xl_has (2 + th) (by omega) (ix_p2 th) ?_
    rw [hH (2 + th) (by omega)]
    cases e2 : H (2 + th)
    · refine br_t rfl (xl_has (5 + th) (by omega) (ix_p5 th) ?_)
      rw [hH (5 + th) (by omega)]
      cases e3 : H (5 + th)
      · refine br_t rfl (xl_ij _ hfa (ix_p5 _) hH (xl_ij _ hfb (ix_p5 _) hH ?_))
        rw [hp, hq]
        refine nm_r (e' := ii_I (p * p + q * q)) (by rw [ii_mul, ii_mul, ii_add]) ?_
        have z0 : ii_I (p * p + q * q) = 0 ↔ p * p + q * q = 0 := ii_eq (b := 0) (by unfold ii_R; omega) (by unfold ii_R; omega)
        have z9 : ii_I (p * p + q * q) ≤ 90000 ↔ p * p + q * q ≤ 90000 := ii_le (b := 90000) (by unfold ii_R; omega) (by unfold ii_R; omega)
        have same : (f_lines, f_fastest, f_gain, f_bend, f_ahead, f_mode, f_holds, f_pace, f_line, f_gone, f_dwellLeft, f_stepsInAll, f_ticksInAll, f_speed, f_present, f_laid, a_wordCounts, a_letters, a_values, a_limits, a_switches, a_tool, a_inForce, a_origins, a_given, a_rows, a_probe, a_motions, a_thirds, a_centres, a_steps, a_paces, a_dwells, a_marks, a_nexts, a_joints) = (f_lines, f_fastest, f_gain, f_bend, f_ahead, f_mode, f_holds, f_pace, f_line, f_gone, f_dwellLeft, f_stepsInAll, f_ticksInAll, f_speed, f_present, f_laid, a_wordCounts, a_letters, a_values, a_limits, a_switches, a_tool, a_inForce, a_origins, a_given, a_rows, a_probe, a_motions, a_thirds, a_centres, a_steps, a_paces, a_dwells, a_marks, a_nexts, a_joints) := rfl
        refine br_c (fun c => h0 (Or.inr (Or.inl (z0.mp c))) a_centres (fun _ _ => rfl)) (fun c => br_c (fun d => ?_) (fun d => h0 (Or.inr (Or.inr (Or.inl (by rw [z9] at d; omega)))) a_centres (fun _ _ => rfl)))
        rw [z9] at d
        have p3 : -300 ≤ p ∧ p ≤ 300 := by
          have a1 := wk_sl (x := p) (y := 301) (by omega) (by omega)
          have a2 := wk_sl (x := -p) (y := 301) (by omega) (by rw [Int.neg_mul_neg]; omega)
          omega
        have q3 : -300 ≤ q ∧ q ≤ 300 := by
          have a1 := wk_sl (x := q) (y := 301) (by omega) (by omega)
          have a2 := wk_sl (x := -q) (y := 301) (by omega) (by rw [Int.neg_mul_neg]; omega)
          omega
        rw [ix_3, ix_3, ix_3s, ix_3s, ix_21, ix_2, nI_clamp (show 3 * n + (th + 1) % 3 < 2 ^ 31 by omega), nI_clamp (show 3 * n + (th + 2) % 3 < 2 ^ 31 by omega),
          nI_clamp (show 3 * (n + 1) + (th + 1) % 3 < 2 ^ 31 by omega), nI_clamp (show 3 * (n + 1) + (th + 2) % 3 < 2 ^ 31 by omega), nI_clamp (show 2 * n < 2 ^ 31 by omega), nI_clamp (show 2 * n + 1 < 2 ^ 31 by omega), eA, eB, eT, eU, ii_add, ii_add]
        have i60 : vp_in (nI (2 * n)) 60 := vp_in_nI (by omega) (by omega)
        have i61 : vp_in (nI (2 * n + 1)) 60 := vp_in_nI (by omega) (by omega)
        have rx : -200000 ≤ T - (hA + p) ∧ T - (hA + p) ≤ 200000 := by omega
        have ry : -200000 ≤ U - (hB + q) ∧ U - (hB + q) ≤ 200000 := by omega
        have sx := wk_sqb (B := 200000) rx
        have sy := wk_sqb (B := 200000) ry
        refine ⟨vp_in_nI (by omega) (by omega), i60, nm_e ⟨vp_in_nI (by omega) (by omega), i61, nm_e ⟨vp_in_nI (by omega) (by omega), i60,
          nm_r (e' := jl_J (T - (hA + p))) (by rw [pk_un (show 2 * n ≠ 2 * n + 1 by omega), pk_us, ii_sub, jl_i (by unfold ii_R; omega)])
          ⟨vp_in_nI (by omega) (by omega), i61, nm_r (e' := jl_J (U - (hB + q))) (by rw [pk_us, ii_sub, jl_i (by unfold ii_R; omega)]) ?_⟩⟩⟩⟩
        rw [jl_mul, jl_mul, jl_add, jl_i (show ii_R (p * p + q * q) by unfold ii_R; omega)]
        have eq : jl_J ((T - (hA + p)) * (T - (hA + p)) + (U - (hB + q)) * (U - (hB + q))) = jl_J (p * p + q * q) ↔ (T - hA - p) * (T - hA - p) + (U - hB - q) * (U - hB - q) = p * p + q * q := by
          rw [jl_eq (by unfold jl_R; omega) (by unfold jl_R; omega), show T - (hA + p) = T - hA - p by omega, show U - (hB + q) = U - hB - q by omega]
        refine br_c (fun g => h1 ?_) (fun g => h0 (Or.inr (Or.inr (Or.inr (fun w => g (eq.mpr w))))) _ (fun k hk => (pk_un (by omega)).trans (pk_un (by omega))))
        rintro ((w | w | w) | w | w | w)
        · exact c1 w
        · rw [e2] at w; exact absurd w (by decide)
        · rw [e3] at w; exact absurd w (by decide)
        · exact c (z0.mpr w)
        · omega
        · exact w (eq.mp g)
      · exact br_f bo_ne (h0 (Or.inl (Or.inr (Or.inr e3))) a_centres (fun _ _ => rfl))
    · exact br_f bo_ne (h0 (Or.inl (Or.inr (Or.inl e2))) a_centres (fun _ _ => rfl))
  refine xl_has (5 + (th + 1) % 3) (by omega) (ix_p5 _) ?_
  rw [hH (5 + (th + 1) % 3) (by omega)]
  cases e : H (5 + (th + 1) % 3)
  · refine br_t rfl (xl_has (5 + (th + 2) % 3) (by omega) (ix_p5 _) ?_)
    rw [hH (5 + (th + 2) % 3) (by omega)]
    cases e' : H (5 + (th + 2) % 3)
    · exact br_t rfl (h0 (Or.inl (Or.inl ⟨e, e'⟩)) a_centres (fun _ _ => rfl))
    · exact br_f bo_ne (m43 (fun z => by rw [e'] at z; exact absurd z.2 (by decide)))
  · exact br_f bo_ne (m43 (fun z => by rw [e] at z; exact absurd z.1 (by decide)))
end
end XCE
end
section
section XLY
theorem pl_toh {F : Nat → Int32} {H : Nat → Bool} {W og he he' : Nat → Int32} {a : Nat} (h : he a = he' a) : pl_to F H W og he a = pl_to F H W og he' a := by
  unfold pl_to; rw [h]
theorem pl_toW {F : Nat → Int32} {H : Nat → Bool} {W W' og he : Nat → Int32} {a : Nat} (h : H (2 + a) = true → W (2 + a) = W' (2 + a)) : pl_to F H W og he a = pl_to F H W' og he a := by
  unfold pl_to
  cases e : H (2 + a)
  · rfl
  · rw [h e]
theorem pl_o1h {F : Nat → Int32} {H : Nat → Bool} {W he he' og : Nat → Int32} {a : Nat} (h : he a = he' a) : pl_o1 F H W he a og = pl_o1 F H W he' a og := by
  unfold pl_o1; rw [h]
theorem pl_o1W {F : Nat → Int32} {H : Nat → Bool} {W W' he og : Nat → Int32} {a : Nat} (h : H (2 + a) = true → W (2 + a) = W' (2 + a)) : pl_o1 F H W he a og = pl_o1 F H W' he a og := by
  unfold pl_o1
  cases e : H (2 + a)
  · rfl
  · rw [h e]
theorem pl_ogh {F : Nat → Int32} {H : Nat → Bool} {W he he' og : Nat → Int32} (h : ∀ a, a < 3 → he a = he' a) : pl_og F H W og he = pl_og F H W og he' := by
  unfold pl_og
  rw [pl_o1h (h 0 (by decide)), pl_o1h (h 1 (by decide)), pl_o1h (h 2 (by decide))]
theorem pl_ogW {F : Nat → Int32} {H : Nat → Bool} {W W' he og : Nat → Int32} (h : ∀ i, i < 10 → H i = true → W i = W' i) : pl_og F H W og he = pl_og F H W' og he := by
  unfold pl_og
  rw [pl_o1W (a := 0) (h 2 (by decide)), pl_o1W (a := 1) (h 3 (by decide)), pl_o1W (a := 2) (h 4 (by decide))]
theorem pl_ogn {F : Nat → Int32} {H : Nat → Bool} {W he og : Nat → Int32} (h : ¬ F 5 = 92) : pl_og F H W og he = og := by
  unfold pl_og pl_o1
  rw [if_neg (fun z => h z.2), if_neg (fun z => h z.2), if_neg (fun z => h z.2)]
section
variable {f_lines f_fastest f_gain f_bend f_ahead f_mode f_holds f_pace f_line f_gone f_dwellLeft f_stepsInAll f_ticksInAll f_speed f_present f_laid : Int32} {a_wordCounts a_letters a_values a_limits a_switches a_tool a_inForce a_origins a_given a_rows a_probe a_motions a_thirds a_centres a_steps a_paces a_dwells a_marks a_nexts a_joints : Nat → Int32}
theorem xl_136 {post : Int32 → SX → Prop} {H : Nat → Bool} {x2 : Int32} {n a f : Nat} (hn : n < 30) (ha : a < 3) (hF : fc_FW a_inForce) (hH : ∀ i, i < 10 → bt f_present i = H i)
    (h : wX_layLine_136 post (nI n) x2 f_lines f_fastest f_gain f_bend f_ahead f_mode f_holds f_pace f_line f_gone f_dwellLeft f_stepsInAll f_ticksInAll f_speed f_present f_laid f (nI (a + 1)) a_wordCounts a_letters a_values a_limits a_switches a_tool a_inForce a_origins a_given (upd a_rows (3 * (n + 1) + a) (pl_to a_inForce H a_given a_origins (fun a => a_rows (3 * n + a)) a)) a_probe a_motions a_thirds a_centres a_steps a_paces a_dwells a_marks a_nexts a_joints) :
    wX_layLine_136 post (nI n) x2 f_lines f_fastest f_gain f_bend f_ahead f_mode f_holds f_pace f_line f_gone f_dwellLeft f_stepsInAll f_ticksInAll f_speed f_present f_laid (f + 1) (nI a) a_wordCounts a_letters a_values a_limits a_switches a_tool a_inForce a_origins a_given a_rows a_probe a_motions a_thirds a_centres a_steps a_paces a_dwells a_marks a_nexts a_joints := by
  refine br_f (ix_3a ha) (xl_go hn ha hF hH ?_)
  rw [ix_3s, nI_clamp (show 3 * (n + 1) + a < 2 ^ 31 by omega)]
  exact ⟨vp_in_nI (by omega) (by omega), nm_e (nm_r (nI_1 a) h)⟩
theorem xl_l1 {post : Int32 → SX → Prop} {H : Nat → Bool} {n : Nat} (hn : n < 30) (hF : fc_FW a_inForce) (hH : ∀ i, i < 10 → bt f_present i = H i)
    (h : wX_layLine_176 post (nI n) f_lines f_fastest f_gain f_bend f_ahead f_mode f_holds f_pace f_line f_gone f_dwellLeft f_stepsInAll f_ticksInAll f_speed f_present f_laid a_wordCounts a_letters a_values a_limits a_switches a_tool a_inForce (pl_og a_inForce H a_given a_origins (fun a => a_rows (3 * n + a))) a_given (upd (upd (upd a_rows (3 * (n + 1) + 0) (pl_to a_inForce H a_given a_origins (fun a => a_rows (3 * n + a)) 0)) (3 * (n + 1) + 1) (pl_to a_inForce H a_given a_origins (fun a => a_rows (3 * n + a)) 1)) (3 * (n + 1) + 2) (pl_to a_inForce H a_given a_origins (fun a => a_rows (3 * n + a)) 2)) a_probe (upd a_motions n (if a_inForce 5 = 28 then 0 else a_inForce 0)) (upd a_thirds n (nI (pl_ft a_inForce))) a_centres (upd a_steps n 0) (upd a_paces n (pl_pc a_inForce f_speed f_fastest)) (upd a_dwells n (pl_dw a_inForce a_given)) (upd a_marks n (if H 1 = true then a_given 1 else -1)) a_nexts a_joints) :
    wpX_layLine post (f_lines, f_fastest, f_gain, f_bend, f_ahead, f_mode, f_holds, f_pace, f_line, f_gone, f_dwellLeft, f_stepsInAll, f_ticksInAll, f_speed, f_present, f_laid, a_wordCounts, a_letters, a_values, a_limits, a_switches, a_tool, a_inForce, a_origins, a_given, a_rows, a_probe, a_motions, a_thirds, a_centres, a_steps, a_paces, a_dwells, a_marks, a_nexts, a_joints) (nI n) := by
  have i30 : vp_in (nI n) 30 := vp_in_nI hn (by omega)
  have cl : (nI n).toNatClampNeg = n := nI_clamp (by omega)
  have g126 : ∀ mk, mk = (if H 1 = true then a_given 1 else -1) → wX_layLine_126 post (nI n) (a_inForce 5) mk (nI n) f_lines f_fastest f_gain f_bend f_ahead f_mode f_holds f_pace f_line f_gone f_dwellLeft f_stepsInAll f_ticksInAll f_speed f_present f_laid a_wordCounts a_letters a_values a_limits a_switches a_tool a_inForce a_origins a_given a_rows a_probe (upd a_motions n (if a_inForce 5 = 28 then 0 else a_inForce 0)) (upd a_thirds n (nI (pl_ft a_inForce))) a_centres a_steps (upd a_paces n (pl_pc a_inForce f_speed f_fastest)) (upd a_dwells n (pl_dw a_inForce a_given)) a_marks a_nexts a_joints := by
    intro mk emk
    subst emk
    unfold wX_layLine_126
    rw [cl]
    refine ⟨i30, nm_e ⟨i30, nm_e ⟨4, ?_⟩⟩⟩
    refine xl_136 (a := 0) hn (by decide) hF hH (xl_136 (a := 1) hn (by decide) hF hH (xl_136 (a := 2) hn (by decide) hF hH ?_))
    have t1 : pl_to a_inForce H a_given a_origins (fun a => upd a_rows (3 * (n + 1) + 0) (pl_to a_inForce H a_given a_origins (fun a => a_rows (3 * n + a)) 0) (3 * n + a)) 1 = pl_to a_inForce H a_given a_origins (fun a => a_rows (3 * n + a)) 1 :=
      pl_toh (pk_un (by omega))
    rw [t1]
    have t2 : pl_to a_inForce H a_given a_origins (fun a => upd (upd a_rows (3 * (n + 1) + 0) (pl_to a_inForce H a_given a_origins (fun a => a_rows (3 * n + a)) 0)) (3 * (n + 1) + 1) (pl_to a_inForce H a_given a_origins (fun a => a_rows (3 * n + a)) 1) (3 * n + a)) 2 = pl_to a_inForce H a_given a_origins (fun a => a_rows (3 * n + a)) 2 :=
      pl_toh ((pk_un (by omega)).trans (pk_un (by omega)))
    rw [t2]
    refine br_t ix_33 (br_c (fun c => xl_so hn hF c hH ?_) (fun c => ?_))
    · have e : pl_og a_inForce H a_given a_origins (fun a => upd (upd (upd a_rows (3 * (n + 1) + 0) (pl_to a_inForce H a_given a_origins (fun a => a_rows (3 * n + a)) 0)) (3 * (n + 1) + 1) (pl_to a_inForce H a_given a_origins (fun a => a_rows (3 * n + a)) 1)) (3 * (n + 1) + 2) (pl_to a_inForce H a_given a_origins (fun a => a_rows (3 * n + a)) 2) (3 * n + a)) = pl_og a_inForce H a_given a_origins (fun a => a_rows (3 * n + a)) :=
        pl_ogh (fun a ha => (pk_un (by omega)).trans ((pk_un (by omega)).trans (pk_un (by omega))))
      rw [e]
      exact h
    · rw [pl_ogn c] at h
      exact h
  have g102 : ∀ dw, dw = pl_dw a_inForce a_given → wX_layLine_102 post (nI n) (a_inForce 5) dw (nI n) f_lines f_fastest f_gain f_bend f_ahead f_mode f_holds f_pace f_line f_gone f_dwellLeft f_stepsInAll f_ticksInAll f_speed f_present f_laid a_wordCounts a_letters a_values a_limits a_switches a_tool a_inForce a_origins a_given a_rows a_probe (upd a_motions n (if a_inForce 5 = 28 then 0 else a_inForce 0)) (upd a_thirds n (nI (pl_ft a_inForce))) a_centres a_steps (upd a_paces n (pl_pc a_inForce f_speed f_fastest)) a_dwells a_marks a_nexts a_joints := by
    intro dw e
    subst e
    unfold wX_layLine_102
    rw [cl]
    refine ⟨i30, nm_e (xl_has 1 (by decide) (by decide) ?_)⟩
    rw [hH 1 (by decide)]
    cases e : H 1
    · exact br_t rfl (g126 _ (by rw [e]; rfl))
    · exact br_f bo_ne (g126 _ (by rw [e]; rfl))
  have g80 : ∀ pc, pc = pl_pc a_inForce f_speed f_fastest → wX_layLine_80 post (nI n) (a_inForce 5) pc (nI n) f_lines f_fastest f_gain f_bend f_ahead f_mode f_holds f_pace f_line f_gone f_dwellLeft f_stepsInAll f_ticksInAll f_speed f_present f_laid a_wordCounts a_letters a_values a_limits a_switches a_tool a_inForce a_origins a_given a_rows a_probe (upd a_motions n (if a_inForce 5 = 28 then 0 else a_inForce 0)) (upd a_thirds n (nI (pl_ft a_inForce))) a_centres a_steps a_paces a_dwells a_marks a_nexts a_joints := by
    intro pc e
    subst e
    unfold wX_layLine_80
    rw [cl]
    refine ⟨i30, nm_e (br_c (fun c => g102 _ ?_) (fun c => g102 _ ?_))⟩
    · unfold pl_dw; rw [if_pos c]
    · unfold pl_dw; rw [if_neg c]
  have g28 : ∀ mo, mo = (if a_inForce 5 = 28 then 0 else a_inForce 0) → wX_layLine_28 post (nI n) (a_inForce 5) mo (nI n) f_lines f_fastest f_gain f_bend f_ahead f_mode f_holds f_pace f_line f_gone f_dwellLeft f_stepsInAll f_ticksInAll f_speed f_present f_laid a_wordCounts a_letters a_values a_limits a_switches a_tool a_inForce a_origins a_given a_rows a_probe a_motions a_thirds a_centres a_steps a_paces a_dwells a_marks a_nexts a_joints := by
    intro mo e
    subst e
    unfold wX_layLine_28
    rw [cl, (fv_ft hF).1]
    refine ⟨i30, nm_e ⟨i30, nm_e ⟨i30, ?_⟩⟩⟩
    rw [pk_us]
    have p1 : a_inForce 5 = 28 ∨ a_inForce 0 = 0 ∨ f_fastest < f_speed → f_fastest = pl_pc a_inForce f_speed f_fastest := by
      intro z; unfold pl_pc; rw [if_pos z]
    refine br_c (fun c => ?_) (fun c => br_c (fun d => g80 _ ?_) (fun d => ?_))
    · unfold wX_layLine_69
      refine g80 _ (p1 ?_)
      by_cases z : a_inForce 5 = 28
      · exact Or.inl z
      · rw [if_neg z] at c; exact Or.inr (Or.inl c)
    · unfold pl_pc
      rw [if_neg]
      rintro (z | z | z)
      · rw [if_pos z] at c; exact c rfl
      · by_cases y : a_inForce 5 = 28
        · rw [if_pos y] at c; exact c rfl
        · rw [if_neg y] at c; exact c z
      · exact Int32.not_lt.mpr d z
    · unfold wX_layLine_69
      exact g80 _ (p1 (Or.inr (Or.inr (Int32.not_le.mp d))))
  unfold wpX_layLine
  refine nm_e (br_c (fun c => g28 _ (by rw [if_pos c])) (fun c => g28 _ (by rw [if_neg c])))
theorem xl_l2 {post : Int32 → SX → Prop} {H : Nat → Bool} {n : Nat} {he to : Nat → Int32} {p q : Int} (hn : n < 30) (hF : fc_FW a_inForce) (hH : ∀ i, i < 10 → bt f_present i = H i)
    (hm : a_motions n = (if a_inForce 5 = 28 then 0 else a_inForce 0)) (ht : a_thirds n = nI (pl_ft a_inForce))
    (hhe : ∀ a, a < 3 → a_rows (3 * n + a) = he a) (hto : ∀ a, a < 3 → a_rows (3 * (n + 1) + a) = to a)
    (rhe : ∀ a, a < 3 → 0 ≤ (he a).toInt ∧ (he a).toInt ≤ (a_limits a).toInt) (rto : ∀ a, a < 3 → -100000 ≤ (to a).toInt ∧ (to a).toInt ≤ 100000) (hl : ∀ a, a < 3 → (a_limits a).toInt ≤ 1000)
    (h3 : H (2 + pl_ft a_inForce) = false → to (pl_ft a_inForce) = he (pl_ft a_inForce))
    (hp : pl_ij a_inForce H a_given (pl_fa a_inForce) = ii_I p) (hq : pl_ij a_inForce H a_given (pl_fb a_inForce) = ii_I q) (rp : -15000 ≤ p ∧ p ≤ 15000) (rq : -15000 ≤ q ∧ q ≤ 15000)
    (hs6 : pl_tu a_inForce H = 0 → sg_out a_limits to = true → post 6 (f_lines, f_fastest, f_gain, f_bend, f_ahead, f_mode, f_holds, f_pace, f_line, f_gone, f_dwellLeft, f_stepsInAll, f_ticksInAll, f_speed, f_present, f_laid, a_wordCounts, a_letters, a_values, a_limits, a_switches, a_tool, a_inForce, a_origins, a_given, a_rows, a_probe, a_motions, a_thirds, a_centres, a_steps, a_paces, a_dwells, a_marks, a_nexts, a_joints))
    (hs0 : pl_tu a_inForce H = 0 → sg_out a_limits to = false → post 0 (f_lines, f_fastest, f_gain, f_bend, f_ahead, f_mode, f_holds, f_pace, f_line, f_gone, f_dwellLeft, f_stepsInAll, f_ticksInAll, f_speed, f_present, f_laid, a_wordCounts, a_letters, a_values, a_limits, a_switches, a_tool, a_inForce, a_origins, a_given, a_rows, a_probe, a_motions, a_thirds, a_centres, (upd a_steps n (nI (sg_mx he to))), a_paces, a_dwells, a_marks, a_nexts, a_joints))
    (hr5 : ¬ pl_tu a_inForce H = 0 → ((H (5 + pl_fa a_inForce) = false ∧ H (5 + pl_fb a_inForce) = false ∨ H (2 + pl_ft a_inForce) = true ∨ H (5 + pl_ft a_inForce) = true) ∨ p * p + q * q = 0 ∨ 90000 < p * p + q * q ∨ ¬ ((to (pl_fa a_inForce)).toInt - (he (pl_fa a_inForce)).toInt - p) * ((to (pl_fa a_inForce)).toInt - (he (pl_fa a_inForce)).toInt - p) + ((to (pl_fb a_inForce)).toInt - (he (pl_fb a_inForce)).toInt - q) * ((to (pl_fb a_inForce)).toInt - (he (pl_fb a_inForce)).toInt - q) = p * p + q * q) → ∀ C, (∀ k, k < 2 * n → C k = a_centres k) → post 5 (f_lines, f_fastest, f_gain, f_bend, f_ahead, f_mode, f_holds, f_pace, f_line, f_gone, f_dwellLeft, f_stepsInAll, f_ticksInAll, f_speed, f_present, f_laid, a_wordCounts, a_letters, a_values, a_limits, a_switches, a_tool, a_inForce, a_origins, a_given, a_rows, a_probe, a_motions, a_thirds, C, a_steps, a_paces, a_dwells, a_marks, a_nexts, a_joints))
    (hr : ¬ pl_tu a_inForce H = 0 → ¬ ((H (5 + pl_fa a_inForce) = false ∧ H (5 + pl_fb a_inForce) = false ∨ H (2 + pl_ft a_inForce) = true ∨ H (5 + pl_ft a_inForce) = true) ∨ p * p + q * q = 0 ∨ 90000 < p * p + q * q ∨ ¬ ((to (pl_fa a_inForce)).toInt - (he (pl_fa a_inForce)).toInt - p) * ((to (pl_fa a_inForce)).toInt - (he (pl_fa a_inForce)).toInt - p) + ((to (pl_fb a_inForce)).toInt - (he (pl_fb a_inForce)).toInt - q) * ((to (pl_fb a_inForce)).toInt - (he (pl_fb a_inForce)).toInt - q) = p * p + q * q) →
      ∀ w, w = pl_wk (decide (pl_tu a_inForce H = 3)) (p * p + q * q) ((he (pl_fa a_inForce)).toInt + p) ((he (pl_fb a_inForce)).toInt + q) (a_limits (pl_fa a_inForce)).toInt (a_limits (pl_fb a_inForce)).toInt ((to (pl_fa a_inForce)).toInt - (he (pl_fa a_inForce)).toInt - p) ((to (pl_fb a_inForce)).toInt - (he (pl_fb a_inForce)).toInt - q) 3000 0 (-p) (-q) →
      (w.1 = 6 → ∀ C P, (∀ k, k < 2 * n → C k = a_centres k) → post 6 (f_lines, f_fastest, f_gain, f_bend, f_ahead, f_mode, f_holds, f_pace, f_line, f_gone, f_dwellLeft, f_stepsInAll, f_ticksInAll, f_speed, f_present, f_laid, a_wordCounts, a_letters, a_values, a_limits, a_switches, a_tool, a_inForce, a_origins, a_given, a_rows, P, a_motions, a_thirds, C, a_steps, a_paces, a_dwells, a_marks, a_nexts, a_joints)) ∧
      (w.1 = 0 → ∀ P, post 0 (f_lines, f_fastest, f_gain, f_bend, f_ahead, f_mode, f_holds, f_pace, f_line, f_gone, f_dwellLeft, f_stepsInAll, f_ticksInAll, f_speed, f_present, f_laid, a_wordCounts, a_letters, a_values, a_limits, a_switches, a_tool, a_inForce, a_origins, a_given, a_rows, P, a_motions, a_thirds, (upd (upd a_centres (2 * n) (ii_I ((he (pl_fa a_inForce)).toInt + p))) (2 * n + 1) (ii_I ((he (pl_fb a_inForce)).toInt + q))), (upd a_steps n (nI w.2)), a_paces, a_dwells, a_marks, a_nexts, a_joints))) :
    wX_layLine_176 post (nI n) f_lines f_fastest f_gain f_bend f_ahead f_mode f_holds f_pace f_line f_gone f_dwellLeft f_stepsInAll f_ticksInAll f_speed f_present f_laid a_wordCounts a_letters a_values a_limits a_switches a_tool a_inForce a_origins a_given a_rows a_probe a_motions a_thirds a_centres a_steps a_paces a_dwells a_marks a_nexts a_joints := by
  obtain ⟨_, hth, efa, efb⟩ := fv_ft hF
  have i30 : vp_in (nI n) 30 := vp_in_nI hn (by omega)
  have str : pl_tu a_inForce H = 0 → wX_layLine_198 post (nI n) 0 f_lines f_fastest f_gain f_bend f_ahead f_mode f_holds f_pace f_line f_gone f_dwellLeft f_stepsInAll f_ticksInAll f_speed f_present f_laid a_wordCounts a_letters a_values a_limits a_switches a_tool a_inForce a_origins a_given a_rows a_probe a_motions a_thirds a_centres a_steps a_paces a_dwells a_marks a_nexts a_joints := by
    intro t0
    unfold wX_layLine_198
    have ef : (fun a => a_rows (3 * n + a)) 0 = he 0 := hhe 0 (by decide)
    have so : sg_out a_limits (fun a => a_rows (3 * (n + 1) + a)) = sg_out a_limits to := by
      unfold sg_out sg_ou
      simp only [hto 0 (by decide), hto 1 (by decide), hto 2 (by decide)]
    have sm : sg_mx (fun a => a_rows (3 * n + a)) (fun a => a_rows (3 * (n + 1) + a)) = sg_mx he to := by
      unfold sg_mx sg_dd
      simp only [hto 0 (by decide), hto 1 (by decide), hto 2 (by decide), hhe 0 (by decide), hhe 1 (by decide), hhe 2 (by decide)]
    refine br_t rfl (xl_ls hn (fun a ha => ?_) hl (fun e => hs6 t0 (so.symm.trans e)) (fun e => ?_))
    · have := rhe a ha
      have := hl a ha
      rw [hhe a ha]; omega
    · rw [sm]; exact hs0 t0 (so.symm.trans e)
  unfold wX_layLine_176
  rw [nI_clamp (by omega), hm]
  refine ⟨i30, br_c (fun c => ?_) (fun c => xl_mv hF hH (br_c (fun d => ?_) (fun d => ?_)))⟩
  · unfold wX_layLine_197
    refine str ?_
    unfold pl_tu
    rw [if_neg]
    rintro ⟨z1, z2⟩
    by_cases y : a_inForce 5 = 28
    · have := (of_decide_eq_true z1).1
      rw [y] at this
      exact absurd this (by decide)
    · rw [if_neg y] at c; exact (fv_0r hF).mp z2 c
  · unfold wX_layLine_197
    refine str ?_
    unfold pl_tu
    rw [if_neg]
    rintro ⟨z1, z2⟩
    rw [z1] at d; exact absurd d (by decide)
  · have mv : pl_mv a_inForce H = true := by
      cases e : pl_mv a_inForce H
      · rw [e] at d; exact absurd rfl d
      · rfl
    have n28 : ¬ a_inForce 5 = 28 := by
      intro y
      have := (of_decide_eq_true mv).1
      rw [y] at this
      exact absurd this (by decide)
    rw [if_neg n28] at c hm
    have tu : pl_tu a_inForce H = a_inForce 0 := by
      unfold pl_tu; rw [if_pos ⟨mv, (fv_0r hF).mpr c⟩]
    have tn : ¬ pl_tu a_inForce H = 0 := by
      rw [tu]; intro z; rw [z] at c; exact c (by decide)
    have hr5' := hr5 tn
    have hr' := hr tn
    clear hr5 hr hs6 hs0
    rw [← efa] at hp
    rw [← efb] at hq
    rw [← efa, ← efb] at hr5' hr'
    generalize eth : pl_ft a_inForce = th at *
    have hfa : (th + 1) % 3 < 3 := Nat.mod_lt _ (by decide)
    have hfb : (th + 2) % 3 < 3 := Nat.mod_lt _ (by decide)
    have ra := rhe _ hfa
    have rb := rhe _ hfb
    have la := hl _ hfa
    have lb := hl _ hfb
    unfold wX_layLine_198
    refine br_f (by decide) (xl_pc (p := p) (q := q) (hA := (he ((th + 1) % 3)).toInt) (hB := (he ((th + 2) % 3)).toInt) (T := (to ((th + 1) % 3)).toInt) (U := (to ((th + 2) % 3)).toInt)
      hn hth ht hH hp hq rp rq ((hhe _ hfa).trans (ii_t _).symm) ((hhe _ hfb).trans (ii_t _).symm) (by omega) (by omega) ((hto _ hfa).trans (ii_t _).symm) ((hto _ hfb).trans (ii_t _).symm) (rto _ hfa) (rto _ hfb) (fun b C hC => ?_) (fun b => ?_))
    · exact br_t rfl (hr5' b C hC)
    · obtain ⟨g6, g0⟩ := hr' b _ rfl
      have b1 : ¬ (H (2 + th) = true) := fun z => b (Or.inl (Or.inr (Or.inl z)))
      have b2 : ¬ p * p + q * q = 0 := fun z => b (Or.inr (Or.inl z))
      have b3 : ¬ 90000 < p * p + q * q := fun z => b (Or.inr (Or.inr (Or.inl z)))
      have b4 : ((to ((th + 1) % 3)).toInt - (he ((th + 1) % 3)).toInt - p) * ((to ((th + 1) % 3)).toInt - (he ((th + 1) % 3)).toInt - p) + ((to ((th + 2) % 3)).toInt - (he ((th + 2) % 3)).toInt - q) * ((to ((th + 2) % 3)).toInt - (he ((th + 2) % 3)).toInt - q) = p * p + q * q :=
        Decidable.byContradiction (fun z => b (Or.inr (Or.inr (Or.inr z))))
      have q1 := wk_sqb (B := 15000) rp
      have q2 := wk_sqb (B := 15000) rq
      have p3 : -300 ≤ p ∧ p ≤ 300 := by
        have a1 := wk_sl (x := p) (y := 301) (by omega) (by omega)
        have a2 := wk_sl (x := -p) (y := 301) (by omega) (by rw [Int.neg_mul_neg]; omega)
        omega
      have q3 : -300 ≤ q ∧ q ≤ 300 := by
        have a1 := wk_sl (x := q) (y := 301) (by omega) (by omega)
        have a2 := wk_sl (x := -q) (y := 301) (by omega) (by rw [Int.neg_mul_neg]; omega)
        omega
      have b1' : H (2 + th) = false := by
        cases e : H (2 + th)
        · rfl
        · exact absurd e b1
      have t3 := h3 b1'
      refine br_f (by decide) (xw_2 hn (fun P hP => ⟨3001, ?_⟩))
      have hc1 : upd (upd a_centres (2 * n) (ii_I ((he ((th + 1) % 3)).toInt + p))) (2 * n + 1) (ii_I ((he ((th + 2) % 3)).toInt + q)) (2 * n) = ii_I ((he ((th + 1) % 3)).toInt + p) := by
        rw [pk_un (by omega), pk_us]
      have rz := rhe th hth
      refine xw_31 (on := decide (pl_tu a_inForce H = 3)) (p := p) (q := q) (c := (he ((th + 1) % 3)).toInt + p) (d := (he ((th + 2) % 3)).toInt + q)
        (x := (to ((th + 1) % 3)).toInt - (he ((th + 1) % 3)).toInt - p) (y := (to ((th + 2) % 3)).toInt - (he ((th + 2) % 3)).toInt - q) (z := (he th).toInt)
        hn hth ht (by rw [tu, hm, decide_eq_true_iff]) hc1 pk_us ?_ ?_ (by omega) (by omega) (by omega) hl ?_ ?_ ?_ ?_ rz ?_ 3000 0 (-p) (-q) P ?_ ?_ ?_ (by omega) (by omega) (by omega) ?_ (fun e P' => g6 e _ P' (fun k hk => (pk_un (by omega)).trans (pk_un (by omega)))) g0 3001 (by omega)
      · rw [hhe _ hfa, Int.add_sub_cancel, ii_t]
      · rw [hhe _ hfb, Int.add_sub_cancel, ii_t]
      · have := ii_R32 (to ((th + 1) % 3)); unfold ii_R at this ⊢; omega
      · have := ii_R32 (to ((th + 2) % 3)); unfold ii_R at this ⊢; omega
      · rw [hto _ hfa, ← ii_t (to ((th + 1) % 3))]
        congr 1
        rw [ii_t]; omega
      · rw [hto _ hfb, ← ii_t (to ((th + 2) % 3))]
        congr 1
        rw [ii_t]; omega
      · rw [hto th hth, t3, ii_t]
      · rw [hP _ hfa, hhe _ hfa, ← ii_t (he ((th + 1) % 3))]
        congr 1
        rw [ii_t]; omega
      · rw [hP _ hfb, hhe _ hfb, ← ii_t (he ((th + 2) % 3))]
        congr 1
        rw [ii_t]; omega
      · rw [hP th hth, hhe th hth, ii_t]
      · exact wk_all _ (by omega) (by omega) (by rw [Int.neg_mul_neg, Int.neg_mul_neg]) b4
end
end XLY
end
section
section PIC
theorem fc_add {x y : Int32} (h : ii_R (x.toInt + y.toInt)) : (x + y).toInt = x.toInt + y.toInt := by
  have : x + y = ii_I (x.toInt + y.toInt) := by rw [← ii_add, ii_t, ii_t]
  rw [this, ii_toInt h]
theorem fc_sub {x y : Int32} (h : ii_R (x.toInt - y.toInt)) : (x - y).toInt = x.toInt - y.toInt := by
  have : x - y = ii_I (x.toInt - y.toInt) := by rw [← ii_sub, ii_t, ii_t]
  rw [this, ii_toInt h]
theorem pf_c {F : Nat → Int32} (hF : fc_FW F) {w : Int32} (hw : -3000 ≤ w.toInt ∧ w.toInt ≤ 3000) : -15000 ≤ (w * pl_sc F).toInt ∧ (w * pl_sc F).toInt ≤ 15000 := by
  unfold pl_sc
  rcases fv_2 hF with e | e
  · rw [if_pos e]
    have : w * 5 = ii_I (w.toInt * 5) := by rw [← ii_mul, ii_t]; rfl
    rw [this, ii_toInt (by unfold ii_R; omega)]
    omega
  · rw [if_neg (by rw [e]; decide), Int32.mul_one]
    omega
theorem pf_to {F : Nat → Int32} {H : Nat → Bool} {W og he : Nat → Int32} (hF : fc_FW F) (hW : ∀ i, -3000 ≤ (W i).toInt ∧ (W i).toInt ≤ 3000) (ho : ∀ i, -16000 ≤ (og i).toInt ∧ (og i).toInt ≤ 16000) (hh : ∀ a, a < 3 → 0 ≤ (he a).toInt ∧ (he a).toInt ≤ 1000) :
    ∀ a, a < 3 → -33000 ≤ (pl_to F H W og he a).toInt ∧ (pl_to F H W og he a).toInt ≤ 33000 := by
  intro a ha
  have c := pf_c hF (hW (2 + a))
  have o := ho (pl_oi F a)
  have h := hh a ha
  unfold pl_to
  split
  · omega
  · split
    · omega
    · split
      · rw [fc_0]; omega
      · split
        · omega
        · split
          · rw [fc_add (by unfold ii_R; omega)]; omega
          · rw [fc_add (by unfold ii_R; omega)]; omega
theorem pf_o1 {F : Nat → Int32} {H : Nat → Bool} {W og he : Nat → Int32} (hF : fc_FW F) (hW : ∀ i, -3000 ≤ (W i).toInt ∧ (W i).toInt ≤ 3000) (ho : ∀ i, -16000 ≤ (og i).toInt ∧ (og i).toInt ≤ 16000) {a : Nat} (hh : 0 ≤ (he a).toInt ∧ (he a).toInt ≤ 1000) :
    ∀ i, -16000 ≤ (pl_o1 F H W he a og i).toInt ∧ (pl_o1 F H W he a og i).toInt ≤ 16000 := by
  intro i
  have c := pf_c hF (hW (2 + a))
  unfold pl_o1
  split
  · by_cases e : i = pl_oi F a
    · subst e
      rw [pk_us, fc_sub (by unfold ii_R; omega)]; omega
    · rw [pk_un e]; exact ho i
  · exact ho i
theorem pf_ij {F : Nat → Int32} {H : Nat → Bool} {W : Nat → Int32} (hF : fc_FW F) (hW : ∀ i, -3000 ≤ (W i).toInt ∧ (W i).toInt ≤ 3000) (a : Nat) : -15000 ≤ (pl_ij F H W a).toInt ∧ (pl_ij F H W a).toInt ≤ 15000 := by
  unfold pl_ij
  split
  · exact pf_c hF (hW _)
  · rw [fc_0]; omega
theorem fv_tr {F : Nat → Int32} (hF : fc_FW F) : pl_fa F < 3 ∧ pl_fb F < 3 ∧ pl_ft F < 3 ∧ pl_fa F + pl_fb F + pl_ft F = 3 := by
  unfold pl_fa pl_fb pl_ft
  rcases fv_1 hF with e | e | e <;> rw [e] <;> decide
def ci_WF (L V M lim : Nat → Int32) : Prop :=
  (∀ k, 0 ≤ (L k).toInt ∧ (L k).toInt ≤ 9) ∧ (∀ k, -3000 ≤ (V k).toInt ∧ (V k).toInt ≤ 3000) ∧ (∀ n, M n = nI (px_n M n) ∧ px_n M n ≤ 8) ∧ (∀ a, a < 3 → 0 ≤ (lim a).toInt ∧ (lim a).toInt ≤ 1000)
def ci_I (L V M lim s0 : Nat → Int32) (n : Nat) : Prop :=
  (0 ≤ (px_cx L V M s0 n).2.1.toInt ∧ (px_cx L V M s0 n).2.1.toInt ≤ 1000) ∧ (∀ i, -16000 ≤ (px_og L V M s0 n i).toInt ∧ (px_og L V M s0 n i).toInt ≤ 16000) ∧
  (∀ a, a < 3 → 0 ≤ (px_he L V M s0 n a).toInt ∧ (px_he L V M s0 n a).toInt ≤ (lim a).toInt)
section
variable {L V M lim s0 : Nat → Int32}
theorem ci_W (h : ci_WF L V M lim) (n : Nat) : ∀ i, -3000 ≤ (px_W L V M n i).toInt ∧ (px_W L V M n i).toInt ≤ 3000 := fc_wd h.2.1 _ _
theorem ci_he1 (h : ci_WF L V M lim) {n : Nat} (c : ci_I L V M lim s0 n) : ∀ a, a < 3 → 0 ≤ (px_he L V M s0 n a).toInt ∧ (px_he L V M s0 n a).toInt ≤ 1000 := by
  intro a ha
  have := c.2.2 a ha
  have := h.2.2.2 a ha
  omega
theorem ci_to (h : ci_WF L V M lim) {n : Nat} (c : ci_I L V M lim s0 n) : ∀ a, a < 3 → -33000 ≤ (px_he L V M s0 (n + 1) a).toInt ∧ (px_he L V M s0 (n + 1) a).toInt ≤ 33000 :=
  pf_to (fc_F L V M s0 n) (ci_W h n) c.2.1 (ci_he1 h c)
theorem ci_0 (h : ci_WF L V M lim) (hs : ∀ a, a < 3 → 0 ≤ (s0 a).toInt ∧ (s0 a).toInt ≤ (lim a).toInt) : ci_I L V M lim s0 0 := by
  refine ⟨?_, fun i => ?_, hs⟩
  · show 0 ≤ (0 : Int32).toInt ∧ (0 : Int32).toInt ≤ 1000
    rw [fc_0]; omega
  · show -16000 ≤ (0 : Int32).toInt ∧ (0 : Int32).toInt ≤ 16000
    rw [fc_0]; omega
/-- what a line that is not wrong keeps -/
theorem ci_why {n : Nat} (h : px_why L V M lim s0 n = 0) :
    rd_no L V (8 * n) (px_n M n) = false ∧ rd_tw L V (8 * n) (px_n M n) = false ∧ pl_mi (px_F L V M s0 n) (px_H L M n) (px_S L V M s0 n) = 0 ∧
    (px_tu L V M s0 n = 0 → px_out L V M lim s0 n = false) ∧ (¬ px_tu L V M s0 n = 0 → px_b5 L V M s0 n = false ∧ (px_wr L V M lim s0 n).1 = 0) := by
  unfold px_why at h
  by_cases h1 : rd_no L V (8 * n) (px_n M n) = true
  · rw [if_pos h1] at h; exact absurd h (by decide)
  rw [if_neg h1] at h
  by_cases h2 : rd_tw L V (8 * n) (px_n M n) = true
  · rw [if_pos h2] at h; exact absurd h (by decide)
  rw [if_neg h2] at h
  by_cases h3 : pl_mi (px_F L V M s0 n) (px_H L M n) (px_S L V M s0 n) = 0
  · rw [if_neg (fun z => z h3)] at h
    refine ⟨by simpa using h1, by simpa using h2, h3, fun t => ?_, fun t => ?_⟩
    · rw [if_pos t] at h
      cases e : px_out L V M lim s0 n
      · rfl
      · rw [e, if_pos rfl] at h; exact absurd h (by decide)
    · rw [if_neg t] at h
      cases e : px_b5 L V M s0 n
      · rw [e, if_neg (by decide)] at h; exact ⟨rfl, h⟩
      · rw [e, if_pos rfl] at h; exact absurd h (by decide)
  · rw [if_pos h3] at h; exact absurd h h3
theorem ci_b5 {n : Nat} (h : px_b5 L V M s0 n = false) : px_H L M n (2 + pl_ft (px_F L V M s0 n)) = false ∧ 0 < px_far L V M s0 n ∧ px_far L V M s0 n ≤ 90000 ∧ px_x L V M s0 n * px_x L V M s0 n + px_y L V M s0 n * px_y L V M s0 n = px_far L V M s0 n := by
  have h' := of_decide_eq_false h
  have f0 : ¬ px_far L V M s0 n = 0 := fun z => h' (Or.inr (Or.inl z))
  have f1 : ¬ 90000 < px_far L V M s0 n := fun z => h' (Or.inr (Or.inr (Or.inl z)))
  have f2 : 0 ≤ px_far L V M s0 n := by
    have a1 := wk_sqb (u := px_p L V M s0 n) (B := (px_p L V M s0 n).natAbs) (by omega)
    have a2 := wk_sqb (u := px_q L V M s0 n) (B := (px_q L V M s0 n).natAbs) (by omega)
    unfold px_far
    omega
  refine ⟨?_, by omega, by omega, Decidable.byContradiction (fun z => h' (Or.inr (Or.inr (Or.inr z))))⟩
  cases e : px_H L M n (2 + pl_ft (px_F L V M s0 n))
  · rfl
  · exact absurd (Or.inl (Or.inr (Or.inl e))) h'
theorem ci_in (h : ci_WF L V M lim) {n : Nat} (c : ci_I L V M lim s0 n) (w : px_why L V M lim s0 n = 0) : ∀ a, a < 3 → 0 ≤ (px_he L V M s0 (n + 1) a).toInt ∧ (px_he L V M s0 (n + 1) a).toInt ≤ (lim a).toInt := by
  obtain ⟨_, _, _, ws, wr⟩ := ci_why w
  by_cases t : px_tu L V M s0 n = 0
  · have o := ws t
    unfold px_out sg_out at o
    rw [Bool.or_eq_false_iff, Bool.or_eq_false_iff] at o
    have k : ∀ a, sg_ou lim (px_he L V M s0 (n + 1)) a = false → 0 ≤ (px_he L V M s0 (n + 1) a).toInt ∧ (px_he L V M s0 (n + 1) a).toInt ≤ (lim a).toInt := by
      intro a e
      have := of_decide_eq_false e
      omega
    exact fun a ha => co_3 (P := fun a => 0 ≤ (px_he L V M s0 (n + 1) a).toInt ∧ (px_he L V M s0 (n + 1) a).toInt ≤ (lim a).toInt) (k 0 o.1.1) (k 1 o.1.2) (k 2 o.2) ha
  · obtain ⟨b, r⟩ := wr t
    obtain ⟨b1, b2, b3, b4⟩ := ci_b5 b
    have hF := fc_F L V M s0 n
    obtain ⟨_, hth, efa, efb⟩ := fv_ft hF
    obtain ⟨k1, k2, k3, k4⟩ := pl_wk0 3000 0 _ _ (px_wr L V M lim s0 n).2 (Prod.ext r rfl : px_wr L V M lim s0 n = (0, (px_wr L V M lim s0 n).2))
    have k5 := k4 _ (by omega) (Nat.le_refl _)
    rw [k3] at k5
    dsimp only at k5
    have ea : px_c L V M s0 n + px_x L V M s0 n = (px_he L V M s0 (n + 1) (pl_fa (px_F L V M s0 n))).toInt := by unfold px_c px_x; omega
    have eb : px_d L V M s0 n + px_y L V M s0 n = (px_he L V M s0 (n + 1) (pl_fb (px_F L V M s0 n))).toInt := by unfold px_d px_y; omega
    rw [ea, eb] at k5
    refine sg_all (P := fun a => 0 ≤ (px_he L V M s0 (n + 1) a).toInt ∧ (px_he L V M s0 (n + 1) a).toInt ≤ (lim a).toInt) hth ?_ ?_ ?_
    · rw [efa]; exact ⟨k5.1, k5.2.1⟩
    · rw [efb]; exact ⟨k5.2.2.1, k5.2.2.2⟩
    · have e3 : px_he L V M s0 (n + 1) (pl_ft (px_F L V M s0 n)) = px_he L V M s0 n (pl_ft (px_F L V M s0 n)) := if_pos b1
      show 0 ≤ (px_he L V M s0 (n + 1) (pl_ft (px_F L V M s0 n))).toInt ∧ _
      rw [e3]; exact c.2.2 _ hth
theorem ci_s (h : ci_WF L V M lim) {n : Nat} (c : ci_I L V M lim s0 n) (w : px_why L V M lim s0 n = 0) : ci_I L V M lim s0 (n + 1) := by
  have hF := fc_F L V M s0 n
  refine ⟨fc_sp c.1 _ _ (ci_why w).1, ?_, ci_in h c w⟩
  have hh := ci_he1 h c
  exact pf_o1 hF (ci_W h n) (pf_o1 hF (ci_W h n) (pf_o1 hF (ci_W h n) c.2.1 (hh 0 (by decide))) (hh 1 (by decide))) (hh 2 (by decide))
theorem ci_n (h : ci_WF L V M lim) (hs : ∀ a, a < 3 → 0 ≤ (s0 a).toInt ∧ (s0 a).toInt ≤ (lim a).toInt) : ∀ n, (∀ m, m < n → px_why L V M lim s0 m = 0) → ci_I L V M lim s0 n := by
  intro n
  induction n with
  | zero => intro _; exact ci_0 h hs
  | succ n ih => intro hw; exact ci_s h (ih (fun m hm => hw m (by omega))) (hw n (by omega))
/-- the result of laying out l lines: N laid, answer r -/
def ci_R (L V M lim s0 : Nat → Int32) (l N : Nat) (r : Int32) : Prop :=
  N ≤ l ∧ (∀ m, m < N → px_why L V M lim s0 m = 0) ∧ (∀ m, m + 1 < N → ¬ px_en L V M m = 2) ∧
  ((r = 0 ∧ (N = l ∨ ∃ m, N = m + 1 ∧ px_en L V M m = 2)) ∨ (N < l ∧ ¬ px_why L V M lim s0 N = 0 ∧ (∀ m, N = m + 1 → ¬ px_en L V M m = 2) ∧ r = 10 * nI N + px_why L V M lim s0 N))
theorem ci_why6 {n : Nat} (h : ¬ px_why L V M lim s0 n = 0) : 1 ≤ (px_why L V M lim s0 n).toInt ∧ (px_why L V M lim s0 n).toInt ≤ 6 := by
  have wk : ∀ (on : Bool) (far c d l m x y : Int) (f k : Nat) (u v : Int), (pl_wk on far c d l m x y f k u v).1 = 0 ∨ (pl_wk on far c d l m x y f k u v).1 = 6 := by
    intro on far c d l m x y f
    induction f with
    | zero => intro k u v; exact Or.inr rfl
    | succ f ih =>
      intro k u v
      rw [pl_wk]
      split
      · exact Or.inr rfl
      · split
        · exact Or.inl rfl
        · exact ih _ _ _
  unfold px_why at h ⊢
  split
  · decide
  · rename_i c1
    rw [if_neg c1] at h
    split
    · decide
    · rename_i c2
      rw [if_neg c2] at h
      split
      · rename_i c3
        unfold pl_mi at c3 ⊢
        split
        · decide
        · rename_i d1
          rw [if_neg d1] at c3
          split
          · decide
          · rename_i d2
            rw [if_neg d2] at c3
            split
            · decide
            · rename_i d3
              rw [if_neg d3] at c3
              split
              · decide
              · rename_i d4
                rw [if_neg d4] at c3
                split
                · decide
                · rename_i d5
                  rw [if_neg d5] at c3
                  exact absurd rfl c3
      · rename_i c3
        rw [if_neg c3] at h
        split
        · rename_i c4
          rw [if_pos c4] at h
          split
          · decide
          · rename_i c5
            rw [if_neg c5] at h
            exact absurd rfl h
        · rename_i c4
          rw [if_neg c4] at h
          split
          · decide
          · rename_i c5
            rw [if_neg c5] at h
            rcases wk (px_on L V M s0 n) (px_far L V M s0 n) (px_c L V M s0 n) (px_d L V M s0 n) (lim (pl_fa (px_F L V M s0 n))).toInt (lim (pl_fb (px_F L V M s0 n))).toInt (px_x L V M s0 n) (px_y L V M s0 n) 3000 0 (-px_p L V M s0 n) (-px_q L V M s0 n) with z | z
            · exact absurd z h
            · have z' : (px_wr L V M lim s0 n).1 = 6 := z
              rw [z']; decide
theorem ci_R10 {n : Nat} (hn : n < 30) (h : ¬ px_why L V M lim s0 n = 0) : ¬ 10 * nI n + px_why L V M lim s0 n = 0 := by
  have k6 : ∀ r : Int32, 1 ≤ r.toInt ∧ r.toInt ≤ 6 → ¬ 10 * nI n + r = 0 := by
    intro r hr z
    have e : 10 * nI n + r = ii_I (10 * (n : Int) + r.toInt) := by rw [← ii_add, ← ii_mul, ii_t, ← ii_n]; rfl
    rw [e] at z
    have := (ii_eq (b := 0) (by unfold ii_R; omega) (by unfold ii_R; omega)).mp z
    omega
  exact k6 _ (ci_why6 h)
theorem ci_Ru {l N N' : Nat} {r r' : Int32} (h : ci_R L V M lim s0 l N r) (h' : ci_R L V M lim s0 l N' r') : N = N' ∧ r = r' := by
  have key : ∀ (A B : Nat) (x y : Int32), ci_R L V M lim s0 l A x → ci_R L V M lim s0 l B y → ¬ A < B := by
    intro A B x y ha hb lt
    obtain ⟨a1, a2, a3, a4⟩ := ha
    obtain ⟨b1, b2, b3, b4⟩ := hb
    rcases a4 with ⟨_, e | ⟨m, e1, e2⟩⟩ | ⟨_, e, _, _⟩
    · omega
    · exact b3 m (by omega) e2
    · exact e (b2 A lt)
  have e : N = N' := by
    have := key N N' r r' h h'
    have := key N' N r' r h' h
    omega
  subst e
  refine ⟨rfl, ?_⟩
  obtain ⟨a1, a2, a3, a4⟩ := h
  obtain ⟨b1, b2, b3, b4⟩ := h'
  rcases a4 with ⟨r1, e | ⟨m, e1, e2⟩⟩ | ⟨l1, e, f, r1⟩
  · rcases b4 with ⟨r2, _⟩ | ⟨l2, _, _, _⟩
    · rw [r1, r2]
    · omega
  · rcases b4 with ⟨r2, _⟩ | ⟨_, _, f, _⟩
    · rw [r1, r2]
    · exact absurd e2 (f m e1)
  · rcases b4 with ⟨_, z | ⟨m, e1, e2⟩⟩ | ⟨_, _, _, r2⟩
    · omega
    · exact absurd e2 (f m e1)
    · rw [r1, r2]
end
end PIC
end
section
section XLO
/-- X's layout of the lines below n, by the picture -/
def xz_L (L V M lim : Nat → Int32) (fs : Int32) (s0 : Nat → Int32) (n : Nat) (ro mo th ce st pc dw mk : Nat → Int32) : Prop :=
  (∀ m, m ≤ n → ∀ a, a < 3 → ro (3 * m + a) = px_he L V M s0 m a) ∧
  (∀ m, m < n → mo m = (if px_F L V M s0 m 5 = 28 then 0 else px_F L V M s0 m 0) ∧ th m = nI (pl_ft (px_F L V M s0 m)) ∧ st m = nI (px_st L V M lim s0 m) ∧ pc m = px_pc L V M fs s0 m ∧ dw m = px_dw L V M s0 m ∧
    mk m = (if px_H L M m 1 = true then px_W L V M m 1 else -1) ∧ (¬ px_tu L V M s0 m = 0 → ce (2 * m) = ii_I (px_c L V M s0 m) ∧ ce (2 * m + 1) = ii_I (px_d L V M s0 m)))
theorem px_Fhi (L V M s0 : Nat → Int32) : ∀ n g, 6 ≤ g → (px_cx L V M s0 n).1 g = 0 := by
  intro n
  induction n with
  | zero =>
    intro g hg
    show px_ff g = 0
    unfold px_ff
    rw [if_neg (by omega), if_neg (by omega), if_neg (by omega), if_neg (by omega), if_neg (by omega)]
  | succ n ih => intro g hg; exact (rd_fohi _ _ _ _ _ g hg).trans (ih g hg)
theorem pl_too2 {F : Nat → Int32} {H : Nat → Bool} {W og og' he : Nat → Int32} {a : Nat} (h : og (pl_oi F a) = og' (pl_oi F a)) : pl_to F H W og he a = pl_to F H W og' he a := by
  unfold pl_to; rw [h]
theorem pl_o1e {F : Nat → Int32} {H : Nat → Bool} {W he og og' : Nat → Int32} {a : Nat} (h : ∀ i, i < 6 → og i = og' i) : ∀ i, i < 6 → pl_o1 F H W he a og i = pl_o1 F H W he a og' i := by
  intro i hi
  unfold pl_o1
  split
  · by_cases e : i = pl_oi F a
    · subst e; rw [pk_us, pk_us]
    · rw [pk_un e, pk_un e, h i hi]
  · exact h i hi
theorem px_mark {L V M : Nat → Int32} (hL : ∀ k, 0 ≤ (L k).toInt ∧ (L k).toInt ≤ 9) {n : Nat} (hn : rd_no L V (8 * n) (px_n M n) = false) :
    ((if px_H L M n 1 = true then px_W L V M n 1 else -1) = (2 : Int32) ↔ px_en L V M n = 2) ∧ ((if px_H L M n 1 = true then px_W L V M n 1 else -1) = (0 : Int32) ↔ px_en L V M n = 1) := by
  unfold px_en pl_en
  cases e : px_H L M n 1
  · rw [if_neg (by decide), if_pos rfl]; decide
  · rw [if_pos rfl, if_neg (by decide)]
    rcases rd_M (w := fun _ => 0) hL (px_n M n) hn e with z | z
    · have z' : px_W L V M n 1 = 0 := z
      rw [z', if_pos rfl]; decide
    · have z' : px_W L V M n 1 = 2 := z
      rw [z', if_neg (by decide)]; decide
section
variable {f_lines f_fastest f_gain f_bend f_ahead f_mode f_holds f_pace f_line f_gone f_dwellLeft f_stepsInAll f_ticksInAll f_speed f_present f_laid : Int32} {a_wordCounts a_letters a_values a_limits a_switches a_tool a_inForce a_origins a_given a_rows a_probe a_motions a_thirds a_centres a_steps a_paces a_dwells a_marks a_nexts a_joints : Nat → Int32}
theorem xz_20 {post : Int32 → SX → Prop} {s0 : Nat → Int32} {l : Nat} (hl : l ≤ 30) (el : f_lines = nI l) (wf : ci_WF a_letters a_values a_wordCounts a_limits)
    (hs : ∀ a, a < 3 → 0 ≤ (s0 a).toInt ∧ (s0 a).toInt ≤ (a_limits a).toInt)
    (h : ∀ N r, ci_R a_letters a_values a_wordCounts a_limits s0 l N r → ∀ sp pr F O G R P MO TH CE ST PC DW MK, (∀ g, 6 ≤ g → F g = 0) →
      xz_L a_letters a_values a_wordCounts a_limits f_fastest s0 N R MO TH CE ST PC DW MK →
      post r (f_lines, f_fastest, f_gain, f_bend, f_ahead, f_mode, f_holds, f_pace, f_line, f_gone, f_dwellLeft, f_stepsInAll, f_ticksInAll, sp, pr, (nI N), a_wordCounts, a_letters, a_values, a_limits, a_switches, a_tool, F, O, G, R, P, MO, TH, CE, ST, PC, DW, MK, a_nexts, a_joints)) :
    ∀ d n sp pr F O G R P MO TH CE ST PC DW MK, n + d = l → (∀ m, m < n → px_why a_letters a_values a_wordCounts a_limits s0 m = 0) → (∀ m, m < n → ¬ px_en a_letters a_values a_wordCounts m = 2) →
      (∀ g, g ≠ 5 → F g = (px_cx a_letters a_values a_wordCounts s0 n).1 g) → sp = (px_cx a_letters a_values a_wordCounts s0 n).2.1 → (∀ i, i < 6 → O i = px_og a_letters a_values a_wordCounts s0 n i) →
      xz_L a_letters a_values a_wordCounts a_limits f_fastest s0 n R MO TH CE ST PC DW MK →
      wX_layOut_20 post (d + 1) (nI n) f_lines f_fastest f_gain f_bend f_ahead f_mode f_holds f_pace f_line f_gone f_dwellLeft f_stepsInAll f_ticksInAll sp pr (nI n) a_wordCounts a_letters a_values a_limits a_switches a_tool F O G R P MO TH CE ST PC DW MK a_nexts a_joints := by
  intro d
  induction d with
  | zero =>
    intro n sp pr F O G R P MO TH CE ST PC DW MK hn hw he hF hsp hO hX
    obtain rfl : n = l := by omega
    refine br_t (by rw [el]; exact nI_le (Nat.le_refl _) (by omega)) (h n 0 ⟨Nat.le_refl _, hw, fun m hm => he m (by omega), Or.inl ⟨rfl, Or.inl rfl⟩⟩ sp pr F O G R P MO TH CE ST PC DW MK ?_ hX)
    intro g hg
    rw [hF g (by omega)]
    exact px_Fhi _ _ _ _ n g hg
  | succ d ih =>
    intro n sp pr F O G R P MO TH CE ST PC DW MK hn hw he hF hsp hO hX
    have hn30 : n < 30 := by omega
    have Fhi : ∀ g, 6 ≤ g → F g = 0 := fun g hg => (hF g (by omega)).trans (px_Fhi _ _ _ _ n g hg)
    obtain ⟨eM, hM8⟩ := wf.2.2.1 n
    have ci := ci_n wf hs n hw
    -- a wrong line ends it
    have bad : ∀ r, r = px_why a_letters a_values a_wordCounts a_limits s0 n → ¬ r = 0 → ∀ sp pr F O G R P MO TH CE ST PC DW MK, (∀ g, 6 ≤ g → F g = 0) →
        xz_L a_letters a_values a_wordCounts a_limits f_fastest s0 n R MO TH CE ST PC DW MK →
        post (10 * nI n + r) (f_lines, f_fastest, f_gain, f_bend, f_ahead, f_mode, f_holds, f_pace, f_line, f_gone, f_dwellLeft, f_stepsInAll, f_ticksInAll, sp, pr, (nI n), a_wordCounts, a_letters, a_values, a_limits, a_switches, a_tool, F, O, G, R, P, MO, TH, CE, ST, PC, DW, MK, a_nexts, a_joints) := by
      intro r er nr sp pr F O G R P MO TH CE ST PC DW MK hF hX
      subst er
      exact h n _ ⟨by omega, hw, fun m hm => he m (by omega), Or.inr ⟨by omega, nr, fun m hm => he m (by omega), rfl⟩⟩ sp pr F O G R P MO TH CE ST PC DW MK hF hX
    have bad53 : ∀ r, r = px_why a_letters a_values a_wordCounts a_limits s0 n → ¬ r = 0 → ∀ J sp pr F O G R P MO TH CE ST PC DW MK, (∀ g, 6 ≤ g → F g = 0) →
        xz_L a_letters a_values a_wordCounts a_limits f_fastest s0 n R MO TH CE ST PC DW MK →
        wX_layOut_53 post J (nI n) r f_lines f_fastest f_gain f_bend f_ahead f_mode f_holds f_pace f_line f_gone f_dwellLeft f_stepsInAll f_ticksInAll sp pr (nI n) a_wordCounts a_letters a_values a_limits a_switches a_tool F O G R P MO TH CE ST PC DW MK a_nexts a_joints := by
      intro r er nr J sp pr F O G R P MO TH CE ST PC DW MK hF hX
      unfold wX_layOut_53
      exact br_f nr (bad r er nr _ _ _ _ _ _ _ _ _ _ _ _ _ _ hF hX)
    refine br_f (by rw [el]; exact nI_ge (by omega) (by omega)) (xl_rw (c := px_n a_wordCounts n) hn30 hM8 eM wf.1 (fun e1 => ?_) (fun e1 e2 p F' W' hhi => ?_) (fun e1 e2 p hp => ?_))
    · refine br_f (by decide) ?_
      unfold wX_layOut_43
      refine br_f (by decide) (bad53 1 ?_ (by decide) _ _ _ _ _ _ _ _ _ _ _ _ _ _ _ Fhi hX)
      unfold px_why
      rw [if_pos e1]
    · refine br_f (by decide) ?_
      unfold wX_layOut_43
      refine br_f (by decide) (bad53 2 ?_ (by decide) _ _ _ _ _ _ _ _ _ _ _ _ _ _ _ (fun g hg => (hhi g hg).trans (Fhi g hg)) hX)
      unfold px_why
      rw [if_neg (by rw [e1]; decide), if_pos e2]
    · have eF : rd_fo a_letters a_values F (8 * n) (px_n a_wordCounts n) = px_F a_letters a_values a_wordCounts s0 n := rd_foe hF _
      have eS : rd_sp a_letters a_values sp (8 * n) (px_n a_wordCounts n) = px_S a_letters a_values a_wordCounts s0 n := by rw [hsp]; rfl
      rw [eF, eS]
      have hFW := fc_F a_letters a_values a_wordCounts s0 n
      have hH : ∀ i, i < 10 → bt p i = px_H a_letters a_wordCounts n i := hp
      have hW : ∀ i, i < 10 → px_H a_letters a_wordCounts n i = true → rd_wd a_letters a_values G (8 * n) (px_n a_wordCounts n) i = px_W a_letters a_values a_wordCounts n i := fun i _ z => rd_wde _ i z
      generalize rd_wd a_letters a_values G (8 * n) (px_n a_wordCounts n) = G' at hW ⊢
      have Fhi' : ∀ g, 6 ≤ g → px_F a_letters a_values a_wordCounts s0 n g = 0 := px_Fhi _ _ _ _ (n + 1)
      refine br_t rfl (xl_mi (H := px_H a_letters a_wordCounts n) hFW hH ?_)
      by_cases em : pl_mi (px_F a_letters a_values a_wordCounts s0 n) (px_H a_letters a_wordCounts n) (px_S a_letters a_values a_wordCounts s0 n) = 0
      · rw [em]
        unfold wX_layOut_43
        refine br_t rfl (xl_l1 (H := px_H a_letters a_wordCounts n) hn30 hFW hH ?_)
        -- pure values of the line
        have why3 : ∀ r, r = (if px_tu a_letters a_values a_wordCounts s0 n = 0 then (if px_out a_letters a_values a_wordCounts a_limits s0 n = true then 6 else 0) else if px_b5 a_letters a_values a_wordCounts s0 n = true then 5 else (px_wr a_letters a_values a_wordCounts a_limits s0 n).1) → r = px_why a_letters a_values a_wordCounts a_limits s0 n := by
          intro r er
          unfold px_why
          rw [if_neg (by rw [e1]; decide), if_neg (by rw [e2]; decide), if_neg (fun z => z em)]
          exact er
        have hhe : ∀ a, a < 3 → R (3 * n + a) = px_he a_letters a_values a_wordCounts s0 n a := hX.1 n (Nat.le_refl _)
        have hto : ∀ a, a < 3 → pl_to (px_F a_letters a_values a_wordCounts s0 n) (px_H a_letters a_wordCounts n) G' O (fun a => R (3 * n + a)) a = px_he a_letters a_values a_wordCounts s0 (n + 1) a := by
          intro a ha
          rw [pl_toW (hW (2 + a) (by omega)), pl_toh (he' := px_he a_letters a_values a_wordCounts s0 n) (hhe a ha), pl_too2 (hO _ (ix_ol _ ha))]
          rfl
        have hog : ∀ i, i < 6 → pl_og (px_F a_letters a_values a_wordCounts s0 n) (px_H a_letters a_wordCounts n) G' O (fun a => R (3 * n + a)) i = px_og a_letters a_values a_wordCounts s0 (n + 1) i := by
          intro i hi
          rw [pl_ogW hW, pl_ogh (he' := px_he a_letters a_values a_wordCounts s0 n) hhe]
          exact pl_o1e (fun i hi => pl_o1e (fun i hi => pl_o1e hO i hi) i hi) i hi
        have h9 : pl_dw (px_F a_letters a_values a_wordCounts s0 n) G' = px_dw a_letters a_values a_wordCounts s0 n := by
          unfold px_dw pl_dw
          by_cases c : px_F a_letters a_values a_wordCounts s0 n 5 = 4
          · rw [if_pos c, if_pos c]
            refine hW 9 (by decide) ?_
            obtain ⟨q1, _⟩ := mi_3 (post := fun r => r = 0) em
            cases e : px_H a_letters a_wordCounts n 9
            · exact absurd (q1 (Or.inr ⟨e, c⟩)) (by decide)
            · rfl
          · rw [if_neg c, if_neg c]
        have hmk : (if px_H a_letters a_wordCounts n 1 = true then G' 1 else -1) = (if px_H a_letters a_wordCounts n 1 = true then px_W a_letters a_values a_wordCounts n 1 else -1) := by
          cases e : px_H a_letters a_wordCounts n 1
          · rfl
          · rw [if_pos rfl, if_pos rfl]; exact hW 1 (by decide) e
        rw [hto 0 (by decide), hto 1 (by decide), hto 2 (by decide), h9, hmk]
        generalize eO : pl_og (px_F a_letters a_values a_wordCounts s0 n) (px_H a_letters a_wordCounts n) G' O (fun a => R (3 * n + a)) = O' at hog ⊢
        have R1 : ∀ a, a < 3 → upd (upd (upd R (3 * (n + 1) + 0) (px_he a_letters a_values a_wordCounts s0 (n + 1) 0)) (3 * (n + 1) + 1) (px_he a_letters a_values a_wordCounts s0 (n + 1) 1)) (3 * (n + 1) + 2) (px_he a_letters a_values a_wordCounts s0 (n + 1) 2) (3 * (n + 1) + a) = px_he a_letters a_values a_wordCounts s0 (n + 1) a :=
          fun a ha => co_3 (P := fun a => upd (upd (upd R (3 * (n + 1) + 0) (px_he a_letters a_values a_wordCounts s0 (n + 1) 0)) (3 * (n + 1) + 1) (px_he a_letters a_values a_wordCounts s0 (n + 1) 1)) (3 * (n + 1) + 2) (px_he a_letters a_values a_wordCounts s0 (n + 1) 2) (3 * (n + 1) + a) = px_he a_letters a_values a_wordCounts s0 (n + 1) a) (by rw [pk_un (by omega), pk_un (by omega), pk_us]) (by rw [pk_un (by omega), pk_us]) pk_us ha
        have R2 : ∀ m, m ≤ n → ∀ a, a < 3 → upd (upd (upd R (3 * (n + 1) + 0) (px_he a_letters a_values a_wordCounts s0 (n + 1) 0)) (3 * (n + 1) + 1) (px_he a_letters a_values a_wordCounts s0 (n + 1) 1)) (3 * (n + 1) + 2) (px_he a_letters a_values a_wordCounts s0 (n + 1) 2) (3 * m + a) = px_he a_letters a_values a_wordCounts s0 m a :=
          fun m hm a ha => by rw [pk_un (by omega), pk_un (by omega), pk_un (by omega)]; exact hX.1 m hm a ha
        generalize upd (upd (upd R (3 * (n + 1) + 0) (px_he a_letters a_values a_wordCounts s0 (n + 1) 0)) (3 * (n + 1) + 1) (px_he a_letters a_values a_wordCounts s0 (n + 1) 1)) (3 * (n + 1) + 2) (px_he a_letters a_values a_wordCounts s0 (n + 1) 2) = R' at R1 R2 ⊢
        -- the layout below, and of this line
        have low : ∀ x1 x2 x3 x4 x5 x6 C, (∀ k, k < 2 * n → C k = CE k) → xz_L a_letters a_values a_wordCounts a_limits f_fastest s0 n R' (upd MO n x1) (upd TH n x2) C (upd ST n x3) (upd PC n x4) (upd DW n x5) (upd MK n x6) := by
          intro x1 x2 x3 x4 x5 x6 C hC
          refine ⟨R2, fun m hm => ?_⟩
          obtain ⟨y1, y2, y3, y4, y5, y6, y7⟩ := hX.2 m hm
          refine ⟨(pk_un (by omega)).trans y1, (pk_un (by omega)).trans y2, (pk_un (by omega)).trans y3, (pk_un (by omega)).trans y4, (pk_un (by omega)).trans y5, (pk_un (by omega)).trans y6, fun z => ?_⟩
          rw [hC _ (by omega), hC _ (by omega)]; exact y7 z
        have full : px_why a_letters a_values a_wordCounts a_limits s0 n = 0 → ∀ C, (∀ k, k < 2 * n → C k = CE k) → (¬ px_tu a_letters a_values a_wordCounts s0 n = 0 → C (2 * n) = ii_I (px_c a_letters a_values a_wordCounts s0 n) ∧ C (2 * n + 1) = ii_I (px_d a_letters a_values a_wordCounts s0 n)) → ∀ K, K = px_st a_letters a_values a_wordCounts a_limits s0 n → ∀ P',
            wX_layOut_53 post (wX_layOut_20 post (d + 1)) (nI n) 0 f_lines f_fastest f_gain f_bend f_ahead f_mode f_holds f_pace f_line f_gone f_dwellLeft f_stepsInAll f_ticksInAll (px_S a_letters a_values a_wordCounts s0 n) p (nI n) a_wordCounts a_letters a_values a_limits a_switches a_tool (px_F a_letters a_values a_wordCounts s0 n) O' G' R' P' (upd MO n (if px_F a_letters a_values a_wordCounts s0 n 5 = 28 then 0 else px_F a_letters a_values a_wordCounts s0 n 0)) (upd TH n (nI (pl_ft (px_F a_letters a_values a_wordCounts s0 n)))) C (upd (upd ST n 0) n (nI K)) (upd PC n (px_pc a_letters a_values a_wordCounts f_fastest s0 n)) (upd DW n (px_dw a_letters a_values a_wordCounts s0 n)) (upd MK n (if px_H a_letters a_wordCounts n 1 = true then px_W a_letters a_values a_wordCounts n 1 else -1)) a_nexts a_joints := by
          intro w0 C hC hC2 K eK P'
          subst eK
          have X' : xz_L a_letters a_values a_wordCounts a_limits f_fastest s0 (n + 1) R' (upd MO n (if px_F a_letters a_values a_wordCounts s0 n 5 = 28 then 0 else px_F a_letters a_values a_wordCounts s0 n 0)) (upd TH n (nI (pl_ft (px_F a_letters a_values a_wordCounts s0 n)))) C (upd (upd ST n 0) n (nI (px_st a_letters a_values a_wordCounts a_limits s0 n))) (upd PC n (px_pc a_letters a_values a_wordCounts f_fastest s0 n)) (upd DW n (px_dw a_letters a_values a_wordCounts s0 n)) (upd MK n (if px_H a_letters a_wordCounts n 1 = true then px_W a_letters a_values a_wordCounts n 1 else -1)) := by
            refine ⟨fun m hm => ?_, fun m hm => ?_⟩
            · by_cases e : m = n + 1
              · subst e; exact R1
              · exact R2 m (by omega)
            · by_cases e : m = n
              · subst e
                exact ⟨pk_us, pk_us, pk_us, pk_us, pk_us, pk_us, hC2⟩
              · obtain ⟨y1, y2, y3, y4, y5, y6, y7⟩ := hX.2 m (by omega)
                refine ⟨(pk_un e).trans y1, (pk_un e).trans y2, ((pk_un e).trans (pk_un e)).trans y3, (pk_un e).trans y4, (pk_un e).trans y5, (pk_un e).trans y6, fun z => ?_⟩
                rw [hC _ (by omega), hC _ (by omega)]; exact y7 z
          have hw' : ∀ m, m < n + 1 → px_why a_letters a_values a_wordCounts a_limits s0 m = 0 := by
            intro m hm
            by_cases e : m = n
            · subst e; exact w0
            · exact hw m (by omega)
          unfold wX_layOut_53
          rw [nI_clamp (show n < 2 ^ 31 by omega), pk_us]
          refine br_t rfl (nm_r (nI_1 n) ⟨vp_in_nI hn30 (by omega), br_c (fun c => ?_) (fun c => nm_r (nI_1 n) ?_)⟩)
          · have ce := (px_mark wf.1 e1).1.mp c
            exact h (n + 1) 0 ⟨by omega, hw', fun m hm => he m (by omega), Or.inl ⟨rfl, Or.inr ⟨n, rfl, ce⟩⟩⟩ _ _ _ _ _ _ _ _ _ _ _ _ _ _ Fhi' X'
          · have ce : ¬ px_en a_letters a_values a_wordCounts n = 2 := fun z => c ((px_mark wf.1 e1).1.mpr z)
            refine ih (n + 1) _ _ _ _ _ _ _ _ _ _ _ _ _ _ (by omega) hw' ?_ (fun g _ => rfl) rfl hog X'
            intro m hm
            by_cases e : m = n
            · subst e; exact ce
            · exact he m (by omega)
        refine xl_l2 (H := px_H a_letters a_wordCounts n) (he := px_he a_letters a_values a_wordCounts s0 n) (to := px_he a_letters a_values a_wordCounts s0 (n + 1)) (p := px_p a_letters a_values a_wordCounts s0 n) (q := px_q a_letters a_values a_wordCounts s0 n)
          hn30 hFW hH pk_us pk_us (R2 n (Nat.le_refl _)) R1 ci.2.2 (fun a ha => by have := ci_to wf ci a ha; omega) (fun a ha => (wf.2.2.2 a ha).2) (fun z => if_pos z) ?_ ?_ ?_ ?_ (fun t o => ?_) (fun t o => ?_) (fun t b C hC => ?_) (fun t b w ew => ⟨fun z C P' hC => ?_, fun z P' => ?_⟩)
        · have : pl_ij (px_F a_letters a_values a_wordCounts s0 n) (px_H a_letters a_wordCounts n) G' (pl_fa (px_F a_letters a_values a_wordCounts s0 n)) = pl_ij (px_F a_letters a_values a_wordCounts s0 n) (px_H a_letters a_wordCounts n) (px_W a_letters a_values a_wordCounts n) (pl_fa (px_F a_letters a_values a_wordCounts s0 n)) := by
            unfold pl_ij
            cases e : px_H a_letters a_wordCounts n (5 + pl_fa (px_F a_letters a_values a_wordCounts s0 n))
            · rfl
            · rw [hW _ (by have := (fv_tr hFW).1; omega) e]
          rw [this]; exact (ii_t _).symm
        · have : pl_ij (px_F a_letters a_values a_wordCounts s0 n) (px_H a_letters a_wordCounts n) G' (pl_fb (px_F a_letters a_values a_wordCounts s0 n)) = pl_ij (px_F a_letters a_values a_wordCounts s0 n) (px_H a_letters a_wordCounts n) (px_W a_letters a_values a_wordCounts n) (pl_fb (px_F a_letters a_values a_wordCounts s0 n)) := by
            unfold pl_ij
            cases e : px_H a_letters a_wordCounts n (5 + pl_fb (px_F a_letters a_values a_wordCounts s0 n))
            · rfl
            · rw [hW _ (by have := (fv_tr hFW).2.1; omega) e]
          rw [this]; exact (ii_t _).symm
        · exact pf_ij hFW (ci_W wf n) _
        · exact pf_ij hFW (ci_W wf n) _
        · refine bad53 6 (why3 6 ?_) (by decide) _ _ _ _ _ _ _ _ _ _ _ _ _ _ _ Fhi' (low _ _ _ _ _ _ _ (fun _ _ => rfl))
          rw [if_pos (show px_tu a_letters a_values a_wordCounts s0 n = 0 from t), if_pos (show px_out a_letters a_values a_wordCounts a_limits s0 n = true from o)]
        · refine full ?_ CE (fun _ _ => rfl) (fun z => absurd t z) _ ?_ P
          · refine (why3 0 ?_).symm
            rw [if_pos (show px_tu a_letters a_values a_wordCounts s0 n = 0 from t), if_neg (by rw [show px_out a_letters a_values a_wordCounts a_limits s0 n = false from o]; decide)]
          · unfold px_st
            rw [if_pos (show px_tu a_letters a_values a_wordCounts s0 n = 0 from t)]; rfl
        · refine bad53 5 (why3 5 ?_) (by decide) _ _ _ _ _ _ _ _ _ _ _ _ _ _ _ Fhi' (low _ _ _ _ _ _ _ hC)
          rw [if_neg (show ¬ px_tu a_letters a_values a_wordCounts s0 n = 0 from t), if_pos (show px_b5 a_letters a_values a_wordCounts s0 n = true from decide_eq_true b)]
        · have ew' : w = px_wr a_letters a_values a_wordCounts a_limits s0 n := ew
          refine bad53 6 (why3 6 ?_) (by decide) _ _ _ _ _ _ _ _ _ _ _ _ _ _ _ Fhi' (low _ _ _ _ _ _ _ hC)
          rw [if_neg (show ¬ px_tu a_letters a_values a_wordCounts s0 n = 0 from t), if_neg (by rw [show px_b5 a_letters a_values a_wordCounts s0 n = false from decide_eq_false b]; decide), ← ew', z]
        · have ew' : w = px_wr a_letters a_values a_wordCounts a_limits s0 n := ew
          refine full ?_ _ (fun k hk => (pk_un (by omega)).trans (pk_un (by omega))) (fun _ => ⟨by rw [pk_un (by omega), pk_us]; rfl, by rw [pk_us]; rfl⟩) w.2 ?_ P'
          · refine (why3 0 ?_).symm
            rw [if_neg (show ¬ px_tu a_letters a_values a_wordCounts s0 n = 0 from t), if_neg (by rw [show px_b5 a_letters a_values a_wordCounts s0 n = false from decide_eq_false b]; decide), ← ew', z]
          · unfold px_st
            rw [if_neg (show ¬ px_tu a_letters a_values a_wordCounts s0 n = 0 from t), ← ew']
      · unfold wX_layOut_43
        refine br_f em (bad53 _ ?_ em _ _ _ _ _ _ _ _ _ _ _ _ _ _ _ Fhi' hX)
        unfold px_why
        rw [if_neg (by rw [e1]; decide), if_neg (by rw [e2]; decide), if_pos em]
theorem xz_46 {post : SX → Prop} (h : ∀ O R, (∀ i, i < 6 → O i = 0) → (∀ a, a < 3 → R a = a_tool a) → post (f_lines, f_fastest, f_gain, f_bend, f_ahead, f_mode, f_holds, f_pace, f_line, f_gone, f_dwellLeft, f_stepsInAll, f_ticksInAll, f_speed, f_present, f_laid, a_wordCounts, a_letters, a_values, a_limits, a_switches, a_tool, a_inForce, O, a_given, R, a_probe, a_motions, a_thirds, a_centres, a_steps, a_paces, a_dwells, a_marks, a_nexts, a_joints)) : ∃ m, wX_putFirstInForce_46 post f_lines f_fastest f_gain f_bend f_ahead f_mode f_holds f_pace f_line f_gone f_dwellLeft f_stepsInAll f_ticksInAll f_speed f_present f_laid m 0 a_wordCounts a_letters a_values a_limits a_switches a_tool a_inForce a_origins a_given a_rows a_probe a_motions a_thirds a_centres a_steps a_paces a_dwells a_marks a_nexts a_joints := by
  have st2 : ∀ a f O R, a < 3 → wX_putFirstInForce_67 post f_lines f_fastest f_gain f_bend f_ahead f_mode f_holds f_pace f_line f_gone f_dwellLeft f_stepsInAll f_ticksInAll f_speed f_present f_laid f (nI (a + 1)) a_wordCounts a_letters a_values a_limits a_switches a_tool a_inForce O a_given (upd R a (a_tool a)) a_probe a_motions a_thirds a_centres a_steps a_paces a_dwells a_marks a_nexts a_joints → wX_putFirstInForce_67 post f_lines f_fastest f_gain f_bend f_ahead f_mode f_holds f_pace f_line f_gone f_dwellLeft f_stepsInAll f_ticksInAll f_speed f_present f_laid (f + 1) (nI a) a_wordCounts a_letters a_values a_limits a_switches a_tool a_inForce O a_given R a_probe a_motions a_thirds a_centres a_steps a_paces a_dwells a_marks a_nexts a_joints := by
    intro a f O R ha k
    refine br_f (ix_3a ha) ?_
    rw [nI_clamp (show a < 2 ^ 31 by omega)]
    exact ⟨vp_in_nI ha (by omega), vp_in_nI (by omega) (by omega), nm_e (nm_r (nI_1 a) k)⟩
  have st1 : ∀ d j O, j + d = 6 → (∀ i, i < j → O i = 0) → wX_putFirstInForce_46 post f_lines f_fastest f_gain f_bend f_ahead f_mode f_holds f_pace f_line f_gone f_dwellLeft f_stepsInAll f_ticksInAll f_speed f_present f_laid (d + 1) (nI j) a_wordCounts a_letters a_values a_limits a_switches a_tool a_inForce O a_given a_rows a_probe a_motions a_thirds a_centres a_steps a_paces a_dwells a_marks a_nexts a_joints := by
    intro d
    induction d with
    | zero =>
      intro j O hj hO
      obtain rfl : j = 6 := by omega
      refine br_t (nI_le (a := 6) (Nat.le_refl _) (by decide)) ⟨4, st2 0 3 O _ (by decide) (st2 1 2 O _ (by decide) (st2 2 1 O _ (by decide) (br_t ix_33 (h O _ hO ?_))))⟩
      exact fun a ha => co_3 (P := fun a => upd (upd (upd a_rows 0 (a_tool 0)) 1 (a_tool 1)) 2 (a_tool 2) a = a_tool a) rfl rfl rfl ha
    | succ d ih =>
      intro j O hj hO
      refine br_f (nI_ge (b := 6) (by omega) (by decide)) ⟨vp_in_nI (by omega) (by omega), ?_⟩
      rw [nI_clamp (by omega)]
      refine nm_e (nm_r (nI_1 j) (ih (j + 1) _ (by omega) (fun g hg' => ?_)))
      by_cases e : g = j
      · subst e; exact pk_us
      · rw [pk_un e]; exact hO g (by omega)
  exact ⟨7, st1 6 0 a_origins (by omega) (fun i hi => absurd hi (by omega))⟩
/-- X lays the program out: while it stands -/
theorem xz_lo {post : Int32 → SX → Prop} {l : Nat} (h0 : f_mode = 0) (hl : l ≤ 30) (el : f_lines = nI l) (wf : ci_WF a_letters a_values a_wordCounts a_limits)
    (hs : ∀ a, a < 3 → 0 ≤ (a_tool a).toInt ∧ (a_tool a).toInt ≤ (a_limits a).toInt) (hF : ∀ g, 6 ≤ g → a_inForce g = 0)
    (h : ∀ N r, ci_R a_letters a_values a_wordCounts a_limits a_tool l N r → ∀ sp pr F O G R P MO TH CE ST PC DW MK, (∀ g, 6 ≤ g → F g = 0) →
      xz_L a_letters a_values a_wordCounts a_limits f_fastest a_tool N R MO TH CE ST PC DW MK →
      post r (f_lines, f_fastest, f_gain, f_bend, f_ahead, f_mode, f_holds, f_pace, f_line, f_gone, f_dwellLeft, f_stepsInAll, f_ticksInAll, sp, pr, (nI N), a_wordCounts, a_letters, a_values, a_limits, a_switches, a_tool, F, O, G, R, P, MO, TH, CE, ST, PC, DW, MK, a_nexts, a_joints)) :
    wpX_layOut post (f_lines, f_fastest, f_gain, f_bend, f_ahead, f_mode, f_holds, f_pace, f_line, f_gone, f_dwellLeft, f_stepsInAll, f_ticksInAll, f_speed, f_present, f_laid, a_wordCounts, a_letters, a_values, a_limits, a_switches, a_tool, a_inForce, a_origins, a_given, a_rows, a_probe, a_motions, a_thirds, a_centres, a_steps, a_paces, a_dwells, a_marks, a_nexts, a_joints) := by
  unfold wpX_layOut
  refine br_t h0 ?_
  unfold wpX_putFirstInForce
  refine nm_e (nm_e (nm_e (nm_e (nm_e (xz_46 (fun O R hO hR => ⟨l + 1, ?_⟩))))))
  refine xz_20 hl el wf hs h l 0 _ _ _ _ _ _ _ _ _ _ _ _ _ _ (by omega) (fun m hm => absurd hm (by omega)) (fun m hm => absurd hm (by omega)) ?_ rfl hO ?_
  · intro g hg
    show upd (upd (upd (upd (upd a_inForce 0 0) 1 17) 2 21) 3 90) 4 54 g = px_ff g
    unfold px_ff
    by_cases g4 : g = 4
    · subst g4; rfl
    rw [pk_un g4]
    by_cases g3 : g = 3
    · subst g3; rfl
    rw [pk_un g3]
    by_cases g2 : g = 2
    · subst g2; rfl
    rw [pk_un g2]
    by_cases g1 : g = 1
    · subst g1; rfl
    rw [pk_un g1]
    by_cases g0 : g = 0
    · subst g0; rfl
    rw [pk_un g0, hF g (by omega), if_neg g0, if_neg g1, if_neg g2, if_neg g3, if_neg g4]
  · refine ⟨fun m hm a ha => ?_, fun m hm => absurd hm (by omega)⟩
    obtain rfl : m = 0 := by omega
    rw [show 3 * 0 + a = a by omega]
    exact hR a ha
end
end XLO
end
section
section YRD
theorem yl_in {post : Int32 → Prop} {a b c : Int32} (h1 : b ≤ a → a ≤ c → post 1) (h0 : ¬ (b ≤ a ∧ a ≤ c) → post 0) : wpY_in post a b c :=
  br_c (fun z => h0 (fun w => Int32.not_lt.mpr w.1 z)) (fun z => br_c (fun y => h0 (fun w => Int32.not_lt.mpr w.2 y)) (fun y => h1 (Int32.not_lt.mp z) (Int32.not_lt.mp y)))
theorem yl_gr {post : Int32 → Prop} {p : Int32} (h : post (pl_gr p)) : wpY_groupOf post p := by
  unfold pl_gr at h
  unfold wpY_groupOf
  refine yl_in (fun a b => br_f (by decide) ?_) (fun a => br_t rfl (yl_in (fun b c => br_f (by decide) ?_) (fun b => br_t rfl ?_)))
  · rw [if_pos ⟨a, b⟩] at h; exact h
  · rw [if_neg a, if_pos ⟨b, c⟩] at h; exact h
  · rw [if_neg a, if_neg b] at h
    refine br_c (fun c => ?_) (fun c1 => br_c (fun c => ?_) (fun c2 => ?_))
    · rw [if_pos (Or.inl c)] at h; exact h
    · rw [if_pos (Or.inr c)] at h; exact h
    rw [if_neg (fun z => z.elim c1 c2)] at h
    refine br_c (fun c => ?_) (fun c1 => br_c (fun c => ?_) (fun c2 => ?_))
    · rw [if_pos (Or.inl c)] at h; exact h
    · rw [if_pos (Or.inr c)] at h; exact h
    rw [if_neg (fun z => z.elim c1 c2)] at h
    refine br_c (fun c => ?_) (fun c1 => br_c (fun c => ?_) (fun c2 => ?_))
    · rw [if_pos (Or.inl c)] at h; exact h
    · rw [if_pos (Or.inr c)] at h; exact h
    rw [if_neg (fun z => z.elim c1 c2)] at h
    refine br_c (fun c => ?_) (fun c1 => br_c (fun c => ?_) (fun c2 => br_c (fun c => ?_) (fun c3 => br_c (fun c => ?_) (fun c4 => ?_))))
    · rw [if_pos (Or.inl c)] at h; exact h
    · rw [if_pos (Or.inr (Or.inl c))] at h; exact h
    · rw [if_pos (Or.inr (Or.inr (Or.inl c)))] at h; exact h
    · rw [if_pos (Or.inr (Or.inr (Or.inr c)))] at h; exact h
    · rw [if_neg (fun z => z.elim c1 (fun z => z.elim c2 (fun z => z.elim c3 c4)))] at h; exact h
theorem bo_or (a b : Bool) : bo_I a ||| bo_I b = bo_I (a || b) := by cases a <;> cases b <;> decide
theorem bo_n0 : vp_nar .boolean 0 = bo_I false := by decide
theorem bo_n1 : vp_nar .boolean 1 = bo_I true := by decide
section
variable {f_lines f_fastest f_gain f_bend f_ahead f_speed f_seen f_state f_line f_pace f_left f_went f_allSteps f_allTicks f_u f_v f_holds : Int32} {a_letters a_values a_many a_tool a_began a_limit a_trips a_force a_origins a_here a_has a_grouped a_word a_from a_to a_steps a_paces a_dwells a_ends a_turn a_first a_second a_centre a_direction : Nat → Int32}
theorem yl_113 {post : Int32 → SY → Prop} {N : Nat} {x1 x2 x3 x4 l x g : Int32} (hg : g = if l = 0 then pl_gr x else 0)
    (h : wY_readWords_181 post (wY_readWords_65 post x1 f_lines f_fastest f_gain f_bend f_ahead f_seen f_state f_line f_pace f_left f_went f_allSteps f_allTicks f_u f_v f_holds N) x1 x3 x4 l x g (bo_I (pl_bad l x)) x2 f_lines f_fastest f_gain f_bend f_ahead f_speed f_seen f_state f_line f_pace f_left f_went f_allSteps f_allTicks f_u f_v f_holds a_letters a_values a_many a_tool a_began a_limit a_trips a_force a_origins a_here a_has a_grouped a_word a_from a_to a_steps a_paces a_dwells a_ends a_turn a_first a_second a_centre a_direction) :
    wY_readWords_113 post (wY_readWords_65 post x1 f_lines f_fastest f_gain f_bend f_ahead f_seen f_state f_line f_pace f_left f_went f_allSteps f_allTicks f_u f_v f_holds N) x1 x2 x3 x4 l x g f_lines f_fastest f_gain f_bend f_ahead f_speed f_seen f_state f_line f_pace f_left f_went f_allSteps f_allTicks f_u f_v f_holds a_letters a_values a_many a_tool a_began a_limit a_trips a_force a_origins a_here a_has a_grouped a_word a_from a_to a_steps a_paces a_dwells a_ends a_turn a_first a_second a_centre a_direction := by
  have bad : pl_bad l x = true → wY_readWords_176 post (wY_readWords_65 post x1 f_lines f_fastest f_gain f_bend f_ahead f_seen f_state f_line f_pace f_left f_went f_allSteps f_allTicks f_u f_v f_holds N) x1 x3 x4 l x g x2 f_lines f_fastest f_gain f_bend f_ahead f_speed f_seen f_state f_line f_pace f_left f_went f_allSteps f_allTicks f_u f_v f_holds a_letters a_values a_many a_tool a_began a_limit a_trips a_force a_origins a_here a_has a_grouped a_word a_from a_to a_steps a_paces a_dwells a_ends a_turn a_first a_second a_centre a_direction := by
    intro e; rw [e] at h; unfold wY_readWords_176; exact h
  have good : pl_bad l x = false → wY_readWords_180 post (wY_readWords_65 post x1 f_lines f_fastest f_gain f_bend f_ahead f_seen f_state f_line f_pace f_left f_went f_allSteps f_allTicks f_u f_v f_holds N) x1 x3 x4 l x g x2 f_lines f_fastest f_gain f_bend f_ahead f_speed f_seen f_state f_line f_pace f_left f_went f_allSteps f_allTicks f_u f_v f_holds a_letters a_values a_many a_tool a_began a_limit a_trips a_force a_origins a_here a_has a_grouped a_word a_from a_to a_steps a_paces a_dwells a_ends a_turn a_first a_second a_centre a_direction := by
    intro e; rw [e] at h; unfold wY_readWords_180; exact h
  have g157 : ¬ (l = 0 ∧ pl_gr x < 0) → ¬ (l = 1 ∧ ¬ x = 0 ∧ ¬ x = 2) → ¬ (l = 8 ∧ (x < 1 ∨ 1000 < x)) → wY_readWords_157 post (wY_readWords_65 post x1 f_lines f_fastest f_gain f_bend f_ahead f_seen f_state f_line f_pace f_left f_went f_allSteps f_allTicks f_u f_v f_holds N) x1 x3 x4 l x g x2 f_lines f_fastest f_gain f_bend f_ahead f_speed f_seen f_state f_line f_pace f_left f_went f_allSteps f_allTicks f_u f_v f_holds a_letters a_values a_many a_tool a_began a_limit a_trips a_force a_origins a_here a_has a_grouped a_word a_from a_to a_steps a_paces a_dwells a_ends a_turn a_first a_second a_centre a_direction := by
    intro c1 c2 c3
    unfold wY_readWords_157
    refine br_c (fun c => yl_in (fun a b => br_f (by decide) (good (decide_eq_false ?_))) (fun a => br_t rfl (bad (decide_eq_true ?_)))) (fun c => good (decide_eq_false ?_))
    · rintro (z | z | z | ⟨_, z | z⟩)
      · exact c1 z
      · exact c2 z
      · exact c3 z
      · exact Int32.not_lt.mpr a z
      · exact Int32.not_lt.mpr b z
    · refine Or.inr (Or.inr (Or.inr ⟨c, ?_⟩))
      by_cases y : x < 0
      · exact Or.inl y
      · refine Or.inr ?_
        exact Int32.not_le.mp (fun w => a ⟨Int32.not_lt.mp y, w⟩)
    · rintro (z | z | z | z)
      · exact c1 z
      · exact c2 z
      · exact c3 z
      · exact c z.1
  have g138 : ¬ (l = 0 ∧ pl_gr x < 0) → ¬ (l = 1 ∧ ¬ x = 0 ∧ ¬ x = 2) → wY_readWords_138 post (wY_readWords_65 post x1 f_lines f_fastest f_gain f_bend f_ahead f_seen f_state f_line f_pace f_left f_went f_allSteps f_allTicks f_u f_v f_holds N) x1 x3 x4 l x g x2 f_lines f_fastest f_gain f_bend f_ahead f_speed f_seen f_state f_line f_pace f_left f_went f_allSteps f_allTicks f_u f_v f_holds a_letters a_values a_many a_tool a_began a_limit a_trips a_force a_origins a_here a_has a_grouped a_word a_from a_to a_steps a_paces a_dwells a_ends a_turn a_first a_second a_centre a_direction := by
    intro c1 c2
    unfold wY_readWords_138
    refine br_c (fun c => yl_in (fun a b => br_f (by decide) (g157 c1 c2 ?_)) (fun a => br_t rfl (bad (decide_eq_true ?_)))) (fun c => g157 c1 c2 (fun z => c z.1))
    · rintro ⟨_, z | z⟩
      · exact Int32.not_lt.mpr a z
      · exact Int32.not_lt.mpr b z
    · refine Or.inr (Or.inr (Or.inl ⟨c, ?_⟩))
      by_cases y : x < 1
      · exact Or.inl y
      · refine Or.inr ?_
        exact Int32.not_le.mp (fun w => a ⟨Int32.not_lt.mp y, w⟩)
  unfold wY_readWords_113
  refine br_c (fun c => bad (decide_eq_true (Or.inl ?_))) (fun c => ?_)
  · by_cases z : l = 0
    · rw [if_pos z] at hg; rw [hg] at c; exact ⟨z, c⟩
    · rw [if_neg z] at hg; rw [hg] at c; exact absurd c (by decide)
  · have c1 : ¬ (l = 0 ∧ pl_gr x < 0) := by
      rintro ⟨z, w⟩
      rw [if_pos z] at hg; rw [hg] at c; exact c w
    refine br_c (fun d => br_c (fun e => g138 c1 (fun z => z.2.1 e)) (fun e => br_c (fun k => g138 c1 (fun z => z.2.2 k)) (fun k => bad (decide_eq_true (Or.inr (Or.inl ⟨d, e, k⟩)))))) (fun d => g138 c1 (fun z => d z.1))
theorem yl_65 {post : Int32 → SY → Prop} {n b c : Nat} (hn : n < 30) (hb : b = 8 * n) (hc : b + c ≤ 240) (hM : a_many n = nI c) (hL : ∀ k, 0 ≤ (a_letters k).toInt ∧ (a_letters k).toInt ≤ 9) (f0 w0 : Nat → Int32) (s0 : Int32)
    (h : ∀ hs gs, (∀ i, i < 10 → hs i = bo_I (rd_hs a_letters b c i)) →
      post (if rd_no a_letters a_values b c = true then 1 else if rd_tw a_letters a_values b c = true then 2 else 0)
        (f_lines, f_fastest, f_gain, f_bend, f_ahead, (rd_sp a_letters a_values s0 b c), f_seen, f_state, f_line, f_pace, f_left, f_went, f_allSteps, f_allTicks, f_u, f_v, f_holds, a_letters, a_values, a_many, a_tool, a_began, a_limit, a_trips, (rd_fo a_letters a_values f0 b c), a_origins, a_here, hs, gs, (rd_wd a_letters a_values w0 b c), a_from, a_to, a_steps, a_paces, a_dwells, a_ends, a_turn, a_first, a_second, a_centre, a_direction)) :
    ∀ d j hs gs, j + d = c → (∀ i, i < 10 → hs i = bo_I (rd_hs a_letters b j i)) → (∀ g, g < 6 → gs g = bo_I (rd_gs a_letters a_values b j g)) →
      wY_readWords_65 post (nI n) f_lines f_fastest f_gain f_bend f_ahead f_seen f_state f_line f_pace f_left f_went f_allSteps f_allTicks f_u f_v f_holds (d + 1) (bo_I (rd_no a_letters a_values b j)) (bo_I (rd_tw a_letters a_values b j)) (nI (b + j)) (rd_sp a_letters a_values s0 b j)
        a_letters a_values a_many a_tool a_began a_limit a_trips (rd_fo a_letters a_values f0 b j) a_origins a_here hs gs (rd_wd a_letters a_values w0 b j) a_from a_to a_steps a_paces a_dwells a_ends a_turn a_first a_second a_centre a_direction := by
  have i30 : vp_in (nI n) 30 := vp_in_nI hn (by omega)
  have eM : 8 * nI n + a_many (nI n).toNatClampNeg = nI (b + c) := by
    rw [nI_clamp (by omega), hM, show (8 : Int32) = nI 8 from rfl, pk_mul, nI_add, hb]
  intro d
  induction d with
  | zero =>
    intro j hs gs hj hh hg
    obtain rfl : j = c := by omega
    refine ⟨i30, br_t (by rw [eM]; exact nI_le (Nat.le_refl _) (by omega)) ?_⟩
    have h' := h hs gs hh
    refine br_c (fun a => br_c (fun e => ?_) (fun e => ?_)) (fun a => ?_)
    · rw [(bo_e _).mp a, (bo_e _).mp e] at h'; exact h'
    · cases t : rd_tw a_letters a_values b j
      · rw [t] at e; exact absurd rfl e
      · rw [(bo_e _).mp a, t] at h'; exact h'
    · cases t : rd_no a_letters a_values b j
      · rw [t] at a; exact absurd rfl a
      · rw [t] at h'; exact h'
  | succ d ih =>
    intro j hs gs hj hh hg
    have hin : vp_in (nI (b + j)) 240 := vp_in_nI (by omega) (by omega)
    refine ⟨i30, br_f (by rw [eM]; exact nI_ge (by omega) (by omega)) ⟨hin, ?_⟩⟩
    rw [nI_clamp (show b + j < 2 ^ 31 by omega)]
    refine nm_e ⟨hin, nm_e ?_⟩
    obtain ⟨k, k1, k2, k3⟩ := rd_let (hL (b + j))
    have r := fun hs' gs' => ih (j + 1) hs' gs' (by omega)
    rw [rd_no, rd_tw, rd_sp, rd_fo, rd_wd] at r
    by_cases c0 : a_letters (b + j) = 0
    · refine br_t c0 (yl_gr (yl_113 (by rw [if_pos c0]) ?_))
      have n8 : ¬ a_letters (b + j) = 8 := by rw [c0]; decide
      have eh : rd_hs a_letters b (j + 1) = rd_hs a_letters b j := by rw [rd_hs, if_pos c0]
      rw [if_pos c0, if_neg n8, if_pos c0] at r
      unfold wY_readWords_181
      rw [bo_or]
      refine nm_e (br_t c0 (br_c (fun e => ?_) (fun e => ?_)))
      · have ng : ¬ 0 ≤ pl_gr (a_values (b + j)) := fun z => Int32.not_lt.mpr z e
        rw [decide_eq_false ng, Bool.false_and, Bool.or_false, if_neg (fun z => ng z.2)] at r
        unfold wY_readWords_220
        refine br_t c0 (nm_r (nI_1 (b + j)) (r hs gs ?_ ?_))
        · rw [eh]; exact hh
        · rw [rd_gs, if_neg (fun z => ng z.2)]; exact hg
      · have ng : 0 ≤ pl_gr (a_values (b + j)) := Int32.not_lt.mp e
        have hcg : a_letters (b + j) = 0 ∧ 0 ≤ pl_gr (a_values (b + j)) := ⟨c0, ng⟩
        obtain ⟨g, g6, eg, ec, _⟩ := fc_grI _ ng
        rw [decide_eq_true ng, Bool.true_and, if_pos hcg, ec] at r
        rw [eg, nI_clamp (show g < 2 ^ 31 by omega), hg g g6, bo_or, bo_n1]
        refine ⟨vp_in_nI g6 (by omega), nm_e ⟨vp_in_nI g6 (by omega), nm_e ⟨vp_in_nI g6 (by omega), nm_e ?_⟩⟩⟩
        unfold wY_readWords_220
        refine br_t c0 (nm_r (nI_1 (b + j)) (r hs (upd gs g (bo_I true)) ?_ ?_))
        · rw [eh]; exact hh
        · intro i hi
          rw [rd_gs, if_pos hcg, ec]
          by_cases e : i = g
          · subst e; rw [pk_us, if_pos rfl]
          · rw [pk_un e, hg i hi, if_neg e]
    · refine br_f c0 (yl_113 (by rw [if_neg c0]) ?_)
      rw [if_neg c0, if_neg c0, if_neg (show ¬ (a_letters (b + j) = 0 ∧ 0 ≤ pl_gr (a_values (b + j))) from fun z => c0 z.1), k3] at r
      unfold wY_readWords_181
      rw [bo_or]
      refine nm_e (br_f c0 ?_)
      unfold wY_readWords_220
      refine br_f c0 ?_
      rw [k3, hh k k1, bo_or, bo_n1]
      have ik : vp_in (a_letters (b + j)) 10 := by rw [k2]; exact vp_in_nI k1 (by omega)
      have r' := r (upd hs k (bo_I true)) gs (by
        intro i hi
        rw [rd_hs, if_neg c0, k3]
        by_cases e : i = k
        · subst e; rw [pk_us, if_pos rfl]
        · rw [pk_un e, hh i hi, if_neg e]) (by rw [rd_gs, if_neg (fun z => c0 z.1)]; exact hg)
      refine ⟨ik, nm_e ⟨ik, nm_e ⟨ik, nm_e (br_c (fun e => nm_r (nI_1 (b + j)) ?_) (fun e => nm_r (nI_1 (b + j)) ?_))⟩⟩⟩
      · rw [if_pos e] at r'; exact r'
      · rw [if_neg e] at r'; exact r'
theorem yl_31 {post : Int32 → SY → Prop} {n : Nat}
    (h : ∀ gs, (∀ g, g < 6 → gs g = bo_I false) → ∃ m, wY_readWords_65 post (nI n) f_lines f_fastest f_gain f_bend f_ahead f_seen f_state f_line f_pace f_left f_went f_allSteps f_allTicks f_u f_v f_holds m 0 0 (8 * nI n) f_speed a_letters a_values a_many a_tool a_began a_limit a_trips (upd a_force 5 (-1)) a_origins a_here a_has gs a_word a_from a_to a_steps a_paces a_dwells a_ends a_turn a_first a_second a_centre a_direction) :
    ∀ d j gs, j + d = 6 → (∀ g, g < j → gs g = bo_I false) → wY_readWords_31 post (nI n) 0 0 f_lines f_fastest f_gain f_bend f_ahead f_speed f_seen f_state f_line f_pace f_left f_went f_allSteps f_allTicks f_u f_v f_holds (d + 1) (nI j) a_letters a_values a_many a_tool a_began a_limit a_trips a_force a_origins a_here a_has gs a_word a_from a_to a_steps a_paces a_dwells a_ends a_turn a_first a_second a_centre a_direction := by
  intro d
  induction d with
  | zero =>
    intro j gs hj hg
    obtain rfl : j = 6 := by omega
    exact br_t (nI_le (a := 6) (Nat.le_refl _) (by decide)) (nm_e (nm_e (h gs hg)))
  | succ d ih =>
    intro j gs hj hg
    refine br_f (nI_ge (b := 6) (by omega) (by decide)) ⟨vp_in_nI (by omega) (by omega), ?_⟩
    rw [nI_clamp (by omega), bo_n0]
    refine nm_e (nm_r (nI_1 j) (ih (j + 1) _ (by omega) (fun g hg' => ?_)))
    by_cases e : g = j
    · subst e; exact pk_us
    · rw [pk_un e]; exact hg g (by omega)
theorem yl_7 {post : Int32 → SY → Prop} {n : Nat}
    (h : ∀ hs, (∀ g, g < 10 → hs g = bo_I false) → ∃ m, wY_readWords_31 post (nI n) 0 0 f_lines f_fastest f_gain f_bend f_ahead f_speed f_seen f_state f_line f_pace f_left f_went f_allSteps f_allTicks f_u f_v f_holds m 0 a_letters a_values a_many a_tool a_began a_limit a_trips a_force a_origins a_here hs a_grouped a_word a_from a_to a_steps a_paces a_dwells a_ends a_turn a_first a_second a_centre a_direction) :
    ∀ d j hs, j + d = 10 → (∀ g, g < j → hs g = bo_I false) → wY_readWords_7 post (nI n) 0 0 f_lines f_fastest f_gain f_bend f_ahead f_speed f_seen f_state f_line f_pace f_left f_went f_allSteps f_allTicks f_u f_v f_holds (d + 1) (nI j) a_letters a_values a_many a_tool a_began a_limit a_trips a_force a_origins a_here hs a_grouped a_word a_from a_to a_steps a_paces a_dwells a_ends a_turn a_first a_second a_centre a_direction := by
  intro d
  induction d with
  | zero =>
    intro j hs hj hg
    obtain rfl : j = 10 := by omega
    exact br_t (nI_le (a := 10) (Nat.le_refl _) (by decide)) (h hs hg)
  | succ d ih =>
    intro j hs hj hg
    refine br_f (nI_ge (b := 10) (by omega) (by decide)) ⟨vp_in_nI (by omega) (by omega), ?_⟩
    rw [nI_clamp (by omega), bo_n0]
    refine nm_e (nm_r (nI_1 j) (ih (j + 1) _ (by omega) (fun g hg' => ?_)))
    by_cases e : g = j
    · subst e; exact pk_us
    · rw [pk_un e]; exact hg g (by omega)
/-- the words of line n -/
theorem yl_rw {post : Int32 → SY → Prop} {n c : Nat} (hn : n < 30) (hc : c ≤ 8) (hM : a_many n = nI c) (hL : ∀ k, 0 ≤ (a_letters k).toInt ∧ (a_letters k).toInt ≤ 9)
    (h : ∀ hs gs, (∀ i, i < 10 → hs i = bo_I (rd_hs a_letters (8 * n) c i)) →
      post (if rd_no a_letters a_values (8 * n) c = true then 1 else if rd_tw a_letters a_values (8 * n) c = true then 2 else 0)
        (f_lines, f_fastest, f_gain, f_bend, f_ahead, (rd_sp a_letters a_values f_speed (8 * n) c), f_seen, f_state, f_line, f_pace, f_left, f_went, f_allSteps, f_allTicks, f_u, f_v, f_holds, a_letters, a_values, a_many, a_tool, a_began, a_limit, a_trips, (rd_fo a_letters a_values a_force (8 * n) c), a_origins, a_here, hs, gs, (rd_wd a_letters a_values a_word (8 * n) c), a_from, a_to, a_steps, a_paces, a_dwells, a_ends, a_turn, a_first, a_second, a_centre, a_direction)) :
    wpY_readWords post (f_lines, f_fastest, f_gain, f_bend, f_ahead, f_speed, f_seen, f_state, f_line, f_pace, f_left, f_went, f_allSteps, f_allTicks, f_u, f_v, f_holds, a_letters, a_values, a_many, a_tool, a_began, a_limit, a_trips, a_force, a_origins, a_here, a_has, a_grouped, a_word, a_from, a_to, a_steps, a_paces, a_dwells, a_ends, a_turn, a_first, a_second, a_centre, a_direction) (nI n) := by
  refine ⟨11, yl_7 (fun hs hh => ⟨7, yl_31 (fun gs hg => ⟨c + 1, ?_⟩) 6 0 a_grouped (by omega) (fun g hg => absurd hg (by omega))⟩) 10 0 a_has (by omega) (fun g hg => absurd hg (by omega))⟩
  rw [show (8 : Int32) = nI 8 from rfl, pk_mul]
  exact yl_65 hn rfl (by omega) hM hL a_force a_word f_speed h c 0 hs gs (by omega) (fun i hi => hh i hi) (fun g hg' => hg g hg')
end
end YRD
end
section
section YMX
theorem bo_nf {b : Bool} (e : ¬ bo_I b = 0) : b = true := by
  cases b
  · exact absurd rfl e
  · rfl
theorem bo_yf {b : Bool} (e : bo_I b = 0) : b = false := (bo_e b).mp e
theorem fv_0y {F : Nat → Int32} (h : fc_FW F) : F 0 ≤ 1 ↔ ¬ 1 < F 0 := by
  rcases fv_0 h with e | e | e | e <;> rw [e] <;> decide
theorem fv_0z {F : Nat → Int32} (h : fc_FW F) : F 0 ≤ 0 ↔ ¬ 0 < F 0 := by
  rcases fv_0 h with e | e | e | e <;> rw [e] <;> decide
section
variable {f_lines f_fastest f_gain f_bend f_ahead f_speed f_seen f_state f_line f_pace f_left f_went f_allSteps f_allTicks f_u f_v f_holds : Int32} {a_letters a_values a_many a_tool a_began a_limit a_trips a_force a_origins a_here a_has a_grouped a_word a_from a_to a_steps a_paces a_dwells a_ends a_turn a_first a_second a_centre a_direction : Nat → Int32}
theorem yl_na {post : Int32 → Prop} {H : Nat → Bool} (hH : ∀ i, i < 10 → a_has i = bo_I (H i)) (h : post (bo_I (pl_na H))) : wpY_names post (f_lines, f_fastest, f_gain, f_bend, f_ahead, f_speed, f_seen, f_state, f_line, f_pace, f_left, f_went, f_allSteps, f_allTicks, f_u, f_v, f_holds, a_letters, a_values, a_many, a_tool, a_began, a_limit, a_trips, a_force, a_origins, a_here, a_has, a_grouped, a_word, a_from, a_to, a_steps, a_paces, a_dwells, a_ends, a_turn, a_first, a_second, a_centre, a_direction) := by
  unfold wpY_names
  dsimp only
  rw [hH 2 (by decide), hH 3 (by decide), hH 4 (by decide)]
  unfold pl_na at h
  refine br_c (fun a => br_c (fun b => br_c (fun c => ?_) (fun c => ?_)) (fun b => ?_)) (fun a => ?_)
  · rw [bo_yf a, bo_yf b, bo_yf c] at h; exact h
  · rw [bo_yf a, bo_yf b, bo_nf c] at h; exact h
  · rw [bo_yf a, bo_nf b] at h; exact h
  · rw [bo_nf a] at h; exact h
theorem yl_ce {post : Int32 → Prop} {H : Nat → Bool} (hH : ∀ i, i < 10 → a_has i = bo_I (H i)) (h : post (bo_I (pl_ce H))) : wpY_centres post (f_lines, f_fastest, f_gain, f_bend, f_ahead, f_speed, f_seen, f_state, f_line, f_pace, f_left, f_went, f_allSteps, f_allTicks, f_u, f_v, f_holds, a_letters, a_values, a_many, a_tool, a_began, a_limit, a_trips, a_force, a_origins, a_here, a_has, a_grouped, a_word, a_from, a_to, a_steps, a_paces, a_dwells, a_ends, a_turn, a_first, a_second, a_centre, a_direction) := by
  unfold wpY_centres
  dsimp only
  rw [hH 5 (by decide), hH 6 (by decide), hH 7 (by decide)]
  unfold pl_ce at h
  refine br_c (fun a => br_c (fun b => br_c (fun c => ?_) (fun c => ?_)) (fun b => ?_)) (fun a => ?_)
  · rw [bo_yf a, bo_yf b, bo_yf c] at h; exact h
  · rw [bo_yf a, bo_yf b, bo_nf c] at h; exact h
  · rw [bo_yf a, bo_nf b] at h; exact h
  · rw [bo_nf a] at h; exact h
theorem yl_mv {post : Int32 → Prop} {H : Nat → Bool} (hF : fc_FW a_force) (hH : ∀ i, i < 10 → a_has i = bo_I (H i)) (h : post (bo_I (pl_mv a_force H))) : wpY_moves post (f_lines, f_fastest, f_gain, f_bend, f_ahead, f_speed, f_seen, f_state, f_line, f_pace, f_left, f_went, f_allSteps, f_allTicks, f_u, f_v, f_holds, a_letters, a_values, a_many, a_tool, a_began, a_limit, a_trips, a_force, a_origins, a_here, a_has, a_grouped, a_word, a_from, a_to, a_steps, a_paces, a_dwells, a_ends, a_turn, a_first, a_second, a_centre, a_direction) := by
  have p1 : pl_mv a_force H = true → post 1 := by intro e; rw [e] at h; exact h
  have p0 : pl_mv a_force H = false → post 0 := by intro e; rw [e] at h; exact h
  have m20 : (a_force 5 < 0 ∨ a_force 5 = 53) → wY_moves_20 post f_lines f_fastest f_gain f_bend f_ahead f_speed f_seen f_state f_line f_pace f_left f_went f_allSteps f_allTicks f_u f_v f_holds a_letters a_values a_many a_tool a_began a_limit a_trips a_force a_origins a_here a_has a_grouped a_word a_from a_to a_steps a_paces a_dwells a_ends a_turn a_first a_second a_centre a_direction := by
    intro o
    unfold wY_moves_20
    refine yl_na hH (br_c (fun a => br_c (fun b => p0 (decide_eq_false ?_)) (fun b => yl_ce hH (br_c (fun c => p0 (decide_eq_false ?_)) (fun c => p1 (decide_eq_true ?_))))) (fun a => p1 (decide_eq_true ?_)))
    · rintro ⟨_, z | z⟩
      · rw [bo_yf a] at z; exact absurd z (by decide)
      · exact (fv_0y hF).mp b z.1
    · rintro ⟨_, z | z⟩
      · rw [bo_yf a] at z; exact absurd z (by decide)
      · rw [bo_yf c] at z; exact absurd z.2 (by decide)
    · refine ⟨o, Or.inr ⟨?_, bo_nf c⟩⟩
      exact Decidable.byContradiction (fun z => b ((fv_0y hF).mpr z))
    · exact ⟨o, Or.inl (bo_nf a)⟩
  unfold wpY_moves
  refine br_c (fun a => m20 (Or.inl a)) (fun a => br_c (fun b => m20 (Or.inr b)) (fun b => p0 (decide_eq_false ?_)))
  rintro ⟨z | z, _⟩
  · exact a z
  · exact b z
theorem yl_mi {post : Int32 → Prop} {H : Nat → Bool} (hF : fc_FW a_force) (hH : ∀ i, i < 10 → a_has i = bo_I (H i)) (h : post (pl_mi a_force H f_speed)) : wpY_misfit post (f_lines, f_fastest, f_gain, f_bend, f_ahead, f_speed, f_seen, f_state, f_line, f_pace, f_left, f_went, f_allSteps, f_allTicks, f_u, f_v, f_holds, a_letters, a_values, a_many, a_tool, a_began, a_limit, a_trips, a_force, a_origins, a_here, a_has, a_grouped, a_word, a_from, a_to, a_steps, a_paces, a_dwells, a_ends, a_turn, a_first, a_second, a_centre, a_direction) := by
  obtain ⟨p1, p2, p3, p4, p5⟩ := mi_3 h
  have m130 : ¬ (H 9 = true ∧ ¬ a_force 5 = 4 ∨ H 9 = false ∧ a_force 5 = 4) → ¬ (pl_ce H = true ∧ (¬ 1 < a_force 0 ∨ 0 ≤ a_force 5)) →
      ¬ (pl_na H = true ∧ a_force 5 = 4 ∨ pl_na H = false ∧ (a_force 5 = 28 ∨ a_force 5 = 53 ∨ a_force 5 = 92)) →
      ¬ ((a_force 5 = 28 ∨ a_force 5 = 53) ∧ a_force 3 = 91 ∨ a_force 5 = 53 ∧ 1 < a_force 0) → wY_misfit_130 post f_lines f_fastest f_gain f_bend f_ahead f_speed f_seen f_state f_line f_pace f_left f_went f_allSteps f_allTicks f_u f_v f_holds a_letters a_values a_many a_tool a_began a_limit a_trips a_force a_origins a_here a_has a_grouped a_word a_from a_to a_steps a_paces a_dwells a_ends a_turn a_first a_second a_centre a_direction := by
    intro c1 c2 c3 c4
    have q := p5 c1 c2 c3 c4
    unfold wY_misfit_130
    refine yl_mv hF hH (br_c (fun a => ?_) (fun a => br_c (fun b => ?_) (fun b => br_c (fun c => ?_) (fun c => ?_))))
    · rw [if_neg (by rw [bo_yf a]; intro z; exact absurd z.1 (by decide))] at q; exact q
    · rw [if_neg (by intro z; exact (fv_0z hF).mp b z.2.1)] at q; exact q
    · rw [if_pos ⟨bo_nf a, Decidable.byContradiction (fun z => b ((fv_0z hF).mpr z)), c⟩] at q; exact q
    · rw [if_neg (by intro z; exact c z.2.2)] at q; exact q
  have m118 : ¬ (H 9 = true ∧ ¬ a_force 5 = 4 ∨ H 9 = false ∧ a_force 5 = 4) → ¬ (pl_ce H = true ∧ (¬ 1 < a_force 0 ∨ 0 ≤ a_force 5)) →
      ¬ (pl_na H = true ∧ a_force 5 = 4 ∨ pl_na H = false ∧ (a_force 5 = 28 ∨ a_force 5 = 53 ∨ a_force 5 = 92)) →
      ¬ ((a_force 5 = 28 ∨ a_force 5 = 53) ∧ a_force 3 = 91) → wY_misfit_118 post (a_force 5) (bo_I (decide (1 < a_force 0))) f_lines f_fastest f_gain f_bend f_ahead f_speed f_seen f_state f_line f_pace f_left f_went f_allSteps f_allTicks f_u f_v f_holds a_letters a_values a_many a_tool a_began a_limit a_trips a_force a_origins a_here a_has a_grouped a_word a_from a_to a_steps a_paces a_dwells a_ends a_turn a_first a_second a_centre a_direction := by
    intro c1 c2 c3 c4
    unfold wY_misfit_118
    refine br_c (fun a => br_c (fun b => m130 c1 c2 c3 ?_) (fun b => p4 (Or.inr ⟨a, of_decide_eq_true (bo_nf b)⟩))) (fun a => m130 c1 c2 c3 ?_)
    · rintro (z | z)
      · exact c4 z
      · exact of_decide_eq_false (bo_yf b) z.2
    · rintro (z | z)
      · exact c4 z
      · exact a z.1
  have m95 : ¬ (H 9 = true ∧ ¬ a_force 5 = 4 ∨ H 9 = false ∧ a_force 5 = 4) → ¬ (pl_ce H = true ∧ (¬ 1 < a_force 0 ∨ 0 ≤ a_force 5)) →
      ¬ (pl_na H = true ∧ a_force 5 = 4 ∨ pl_na H = false ∧ (a_force 5 = 28 ∨ a_force 5 = 53 ∨ a_force 5 = 92)) →
      wY_misfit_95 post (a_force 5) (bo_I (decide (1 < a_force 0))) f_lines f_fastest f_gain f_bend f_ahead f_speed f_seen f_state f_line f_pace f_left f_went f_allSteps f_allTicks f_u f_v f_holds a_letters a_values a_many a_tool a_began a_limit a_trips a_force a_origins a_here a_has a_grouped a_word a_from a_to a_steps a_paces a_dwells a_ends a_turn a_first a_second a_centre a_direction := by
    intro c1 c2 c3
    have m107 : (a_force 5 = 28 ∨ a_force 5 = 53) → wY_misfit_107 post (a_force 5) (bo_I (decide (1 < a_force 0))) f_lines f_fastest f_gain f_bend f_ahead f_speed f_seen f_state f_line f_pace f_left f_went f_allSteps f_allTicks f_u f_v f_holds a_letters a_values a_many a_tool a_began a_limit a_trips a_force a_origins a_here a_has a_grouped a_word a_from a_to a_steps a_paces a_dwells a_ends a_turn a_first a_second a_centre a_direction := by
      intro o
      unfold wY_misfit_107
      exact br_c (fun a => p4 (Or.inl ⟨o, a⟩)) (fun a => m118 c1 c2 c3 (fun z => a z.2))
    unfold wY_misfit_95
    exact br_c (fun a => m107 (Or.inl a)) (fun a => br_c (fun b => m107 (Or.inr b)) (fun b => m118 c1 c2 c3 (fun z => z.1.elim a b)))
  have m60 : ¬ (H 9 = true ∧ ¬ a_force 5 = 4 ∨ H 9 = false ∧ a_force 5 = 4) → ¬ (pl_ce H = true ∧ (¬ 1 < a_force 0 ∨ 0 ≤ a_force 5)) →
      wY_misfit_60 post (a_force 5) (bo_I (decide (1 < a_force 0))) f_lines f_fastest f_gain f_bend f_ahead f_speed f_seen f_state f_line f_pace f_left f_went f_allSteps f_allTicks f_u f_v f_holds a_letters a_values a_many a_tool a_began a_limit a_trips a_force a_origins a_here a_has a_grouped a_word a_from a_to a_steps a_paces a_dwells a_ends a_turn a_first a_second a_centre a_direction := by
    intro c1 c2
    unfold wY_misfit_60
    refine yl_na hH (br_c (fun a => br_c (fun b => p3 (Or.inr ⟨bo_yf a, Or.inl b⟩)) (fun b => br_c (fun c => p3 (Or.inr ⟨bo_yf a, Or.inr (Or.inl c)⟩)) (fun c => br_c (fun d => p3 (Or.inr ⟨bo_yf a, Or.inr (Or.inr d)⟩)) (fun d => m95 c1 c2 ?_))))
      (fun a => br_c (fun b => p3 (Or.inl ⟨bo_nf a, b⟩)) (fun b => m95 c1 c2 ?_)))
    · rintro (z | ⟨_, z | z | z⟩)
      · rw [bo_yf a] at z; exact absurd z.1 (by decide)
      · exact b z
      · exact c z
      · exact d z
    · rintro (z | z)
      · exact b z.2
      · rw [bo_nf a] at z; exact absurd z.1 (by decide)
  have m40 : wY_misfit_40 post (a_force 5) (bo_I (decide (1 < a_force 0))) (bo_I (decide (a_force 5 = 4))) (a_has 9) f_lines f_fastest f_gain f_bend f_ahead f_speed f_seen f_state f_line f_pace f_left f_went f_allSteps f_allTicks f_u f_v f_holds a_letters a_values a_many a_tool a_began a_limit a_trips a_force a_origins a_here a_has a_grouped a_word a_from a_to a_steps a_paces a_dwells a_ends a_turn a_first a_second a_centre a_direction := by
    unfold wY_misfit_40
    rw [hH 9 (by decide)]
    by_cases c1 : H 9 = true ∧ ¬ a_force 5 = 4 ∨ H 9 = false ∧ a_force 5 = 4
    · refine br_f ?_ (p1 c1)
      intro z
      rcases c1 with ⟨z1, z2⟩ | ⟨z1, z2⟩
      · rw [z1, decide_eq_false z2] at z; exact absurd z (by decide)
      · rw [z1, decide_eq_true z2] at z; exact absurd z (by decide)
    · refine br_t ?_ (yl_ce hH (br_c (fun a => m60 c1 (fun z => by rw [bo_yf a] at z; exact absurd z.1 (by decide))) (fun a => br_c (fun b => p2 ⟨bo_nf a, Or.inl (of_decide_eq_false (bo_yf b))⟩)
        (fun b => br_c (fun c => m60 c1 ?_) (fun c => p2 ⟨bo_nf a, Or.inr (Int32.not_lt.mp c)⟩)))))
      · by_cases d : a_force 5 = 4
        · cases e : H 9
          · exact absurd (Or.inr ⟨e, d⟩) c1
          · rw [decide_eq_true d]
        · cases e : H 9
          · rw [decide_eq_false d]
          · exact absurd (Or.inl ⟨e, d⟩) c1
      · rintro ⟨_, z | z⟩
        · exact z (of_decide_eq_true (bo_nf b))
        · exact Int32.not_lt.mpr z c
  have m22 : wY_misfit_22 post (a_force 5) (bo_I (decide (1 < a_force 0))) f_lines f_fastest f_gain f_bend f_ahead f_speed f_seen f_state f_line f_pace f_left f_went f_allSteps f_allTicks f_u f_v f_holds a_letters a_values a_many a_tool a_began a_limit a_trips a_force a_origins a_here a_has a_grouped a_word a_from a_to a_steps a_paces a_dwells a_ends a_turn a_first a_second a_centre a_direction := by
    unfold wY_misfit_22
    refine br_c (fun a => ?_) (fun a => ?_)
    · rw [decide_eq_true a] at m40; exact m40
    · rw [decide_eq_false a] at m40; exact m40
  unfold wpY_misfit
  refine nm_e (br_c (fun a => ?_) (fun a => ?_))
  · rw [decide_eq_false ((fv_0y hF).mp a)] at m22; exact m22
  · rw [decide_eq_true (Decidable.byContradiction (fun z => a ((fv_0y hF).mpr z)))] at m22; exact m22
end
end YMX
end
section
section YNX
theorem ys_sg {post : Int32 → Prop} {p : Int32} {x : Int} (hp : p = ii_I x) (hx : ii_R x) (h : post (ii_I (wk_sg x))) : wpY_sign post p := by
  subst hp
  unfold wpY_sign
  have r0 : ii_R 0 := by unfold ii_R; omega
  have e1 : 0 ≤ ii_I x ↔ 0 ≤ x := ii_le (a := 0) r0 hx
  have e2 : ii_I x ≤ 0 ↔ x ≤ 0 := ii_le (b := 0) hx r0
  unfold wk_sg at h
  refine br_c (fun a => br_c (fun b => ?_) (fun b => ?_)) (fun a => ?_)
  · rw [if_neg (by rw [e1] at a; omega), if_neg (by rw [e2] at b; omega)] at h; exact h
  · rw [if_neg (by rw [e1] at a; omega), if_pos (by rw [e2] at b; omega)] at h; exact h
  · rw [if_pos (by rw [e1] at a; omega)] at h; exact h
section
variable {f_lines f_fastest f_gain f_bend f_ahead f_speed f_seen f_state f_line f_pace f_left f_went f_allSteps f_allTicks f_u f_v f_holds : Int32} {a_letters a_values a_many a_tool a_began a_limit a_trips a_force a_origins a_here a_has a_grouped a_word a_from a_to a_steps a_paces a_dwells a_ends a_turn a_first a_second a_centre a_direction : Nat → Int32}
theorem ys_119 {post : SY → Prop} {J : Int32 → Int32 → Int32 → Int32 → Prop} {x3 x4 x6 x7 x8 : Int32} {f m s t : Int} (hs : -5001 ≤ s ∧ s ≤ 5001) (ht : -5001 ≤ t ∧ t ≤ 5001) (hf : 0 ≤ f ∧ f ≤ 90000) (hm : ii_R m)
    (take : (m < 0 ∨ wk_of f s t < m) → J (ii_I (wk_of f s t)) (x8 + 1) (ii_I s) (ii_I t)) (keep : ¬ (m < 0 ∨ wk_of f s t < m) → J (ii_I m) (x8 + 1) f_u f_v) :
    wY_next_119 post J (ii_I f) x3 x4 (ii_I m) x6 x7 x8 (ii_I s) (ii_I t) f_lines f_fastest f_gain f_bend f_ahead f_speed f_seen f_state f_line f_pace f_left f_went f_allSteps f_allTicks f_u f_v f_holds a_letters a_values a_many a_tool a_began a_limit a_trips a_force a_origins a_here a_has a_grouped a_word a_from a_to a_steps a_paces a_dwells a_ends a_turn a_first a_second a_centre a_direction := by
  have q1 := wk_sqb (B := 5001) hs
  have q2 := wk_sqb (B := 5001) ht
  have ro := wk_ofr hs ht hf
  have e1 : 0 ≤ ii_I (s * s + t * t - f) ↔ 0 ≤ s * s + t * t - f := ii_le (a := 0) (by unfold ii_R; omega) (by unfold ii_R; omega)
  have g144 : ∀ z, z = ii_I (wk_of f s t) → wY_next_144 post J (ii_I f) x3 x4 (ii_I m) x6 x7 x8 (ii_I s) (ii_I t) z f_lines f_fastest f_gain f_bend f_ahead f_speed f_seen f_state f_line f_pace f_left f_went f_allSteps f_allTicks f_u f_v f_holds a_letters a_values a_many a_tool a_began a_limit a_trips a_force a_origins a_here a_has a_grouped a_word a_from a_to a_steps a_paces a_dwells a_ends a_turn a_first a_second a_centre a_direction := by
    intro z ez
    subst ez
    have l1 : ii_I m < 0 ↔ m < 0 := ii_lt (b := 0) hm (by unfold ii_R; omega)
    have l2 : ii_I (wk_of f s t) < ii_I m ↔ wk_of f s t < m := ii_lt (by unfold ii_R; omega) hm
    unfold wY_next_144 wY_next_159
    refine br_c (fun c => nm_e (take (Or.inl (l1.mp c)))) (fun c => br_c (fun d => nm_e (take (Or.inr (l2.mp d)))) (fun d => nm_e (keep ?_)))
    rintro (z | z)
    · exact c (l1.mpr z)
    · exact d (l2.mpr z)
  unfold wY_next_119
  refine nm_r (e' := ii_I (s * s + t * t - f)) (by rw [ii_mul, ii_mul, ii_add, ii_sub]) (br_c (fun c => g144 _ ?_) (fun c => nm_e (g144 _ ?_)))
  · unfold wk_of wk_ab
    rw [if_neg (by rw [e1] at c; omega)]
  · unfold wk_of wk_ab
    rw [if_pos (by rw [e1] at c; omega), ii_neg]
theorem ys_100 {post : SY → Prop} {J : Int32 → Int32 → Int32 → Int32 → Prop} {x3 x4 x8 : Int32} {f m s t u v : Int} (hs : -5001 ≤ s ∧ s ≤ 5001) (ht : -5001 ≤ t ∧ t ≤ 5001) (hu : -5000 ≤ u ∧ u ≤ 5000) (hv : -5000 ≤ v ∧ v ≤ 5000) (hf : 0 ≤ f ∧ f ≤ 90000) (hm : ii_R m)
    (take : ¬ (s = u ∧ t = v) → (m < 0 ∨ wk_of f s t < m) → J (ii_I (wk_of f s t)) (x8 + 1) (ii_I s) (ii_I t)) (keep : (s = u ∧ t = v) ∨ ¬ (m < 0 ∨ wk_of f s t < m) → J (ii_I m) (x8 + 1) f_u f_v) :
    wY_next_100 post J (ii_I f) x3 x4 (ii_I m) (ii_I u) (ii_I v) x8 (ii_I s) (ii_I t) f_lines f_fastest f_gain f_bend f_ahead f_speed f_seen f_state f_line f_pace f_left f_went f_allSteps f_allTicks f_u f_v f_holds a_letters a_values a_many a_tool a_began a_limit a_trips a_force a_origins a_here a_has a_grouped a_word a_from a_to a_steps a_paces a_dwells a_ends a_turn a_first a_second a_centre a_direction := by
  have l1 : ii_I s = ii_I u ↔ s = u := ii_eq (by unfold ii_R; omega) (by unfold ii_R; omega)
  have l2 : ii_I t = ii_I v ↔ t = v := ii_eq (by unfold ii_R; omega) (by unfold ii_R; omega)
  unfold wY_next_100
  refine br_c (fun c => br_c (fun d => nm_e (keep (Or.inl ⟨l1.mp c, l2.mp d⟩))) (fun d => ys_119 hs ht hf hm (take ?_) (fun z => keep (Or.inr z)))) (fun c => ys_119 hs ht hf hm (take ?_) (fun z => keep (Or.inr z)))
  · exact fun z => d (l2.mpr z.2)
  · exact fun z => c (l1.mpr z.1)
theorem ys_61 {post : SY → Prop} {f a b u v : Int} (hu : -5000 ≤ u ∧ u ≤ 5000) (hv : -5000 ≤ v ∧ v ≤ 5000) (ha : -1 ≤ a ∧ a ≤ 1) (hb : -1 ≤ b ∧ b ≤ 1) (hf : 0 ≤ f ∧ f ≤ 90000)
    (h : post (f_lines, f_fastest, f_gain, f_bend, f_ahead, f_speed, f_seen, f_state, f_line, f_pace, f_left, f_went, f_allSteps, f_allTicks, (ii_I (wk_ch f u v a b).1), (ii_I (wk_ch f u v a b).2), f_holds, a_letters, a_values, a_many, a_tool, a_began, a_limit, a_trips, a_force, a_origins, a_here, a_has, a_grouped, a_word, a_from, a_to, a_steps, a_paces, a_dwells, a_ends, a_turn, a_first, a_second, a_centre, a_direction)) :
    wY_next_61 post (ii_I f) (ii_I a) (ii_I b) (ii_I u) (ii_I v) f_lines f_fastest f_gain f_bend f_ahead f_speed f_seen f_state f_line f_pace f_left f_went f_allSteps f_allTicks f_holds a_letters a_values a_many a_tool a_began a_limit a_trips a_force a_origins a_here a_has a_grouped a_word a_from a_to a_steps a_paces a_dwells a_ends a_turn a_first a_second a_centre a_direction 4 (-1) 0 (ii_I u) (ii_I v) := by
  have c3 : ∀ m w, w = wk_ch f u v a b → wY_next_61 post (ii_I f) (ii_I a) (ii_I b) (ii_I u) (ii_I v) f_lines f_fastest f_gain f_bend f_ahead f_speed f_seen f_state f_line f_pace f_left f_went f_allSteps f_allTicks f_holds a_letters a_values a_many a_tool a_began a_limit a_trips a_force a_origins a_here a_has a_grouped a_word a_from a_to a_steps a_paces a_dwells a_ends a_turn a_first a_second a_centre a_direction 1 m (2 + 1) (ii_I w.1) (ii_I w.2) := by
    intro m w e
    subst e
    exact br_t (by decide) h
  -- the third: u, v + b
  have c2 : ∀ (m : Int) (w : Int × Int), ii_R m → (¬ (b = 0) → (m < 0 ∨ wk_of f u (v + b) < m) → wk_ch f u v a b = (u, v + b)) → (b = 0 ∨ ¬ (m < 0 ∨ wk_of f u (v + b) < m) → wk_ch f u v a b = w) →
      wY_next_61 post (ii_I f) (ii_I a) (ii_I b) (ii_I u) (ii_I v) f_lines f_fastest f_gain f_bend f_ahead f_speed f_seen f_state f_line f_pace f_left f_went f_allSteps f_allTicks f_holds a_letters a_values a_many a_tool a_began a_limit a_trips a_force a_origins a_here a_has a_grouped a_word a_from a_to a_steps a_paces a_dwells a_ends a_turn a_first a_second a_centre a_direction 2 (ii_I m) (1 + 1) (ii_I w.1) (ii_I w.2) := by
    intro m w hm t1 t2
    refine br_f (by decide) (br_t (by decide) (br_f (by decide) ?_))
    rw [ii_add]
    refine ys_100 (by omega) (by omega) hu hv hf hm (fun n z => c3 _ (u, v + b) (t1 (fun e => n ⟨rfl, by omega⟩) z).symm) (fun z => c3 _ w (t2 ?_).symm)
    rcases z with z | z
    · exact Or.inl (by omega)
    · exact Or.inr z
  have c1 : ∀ (m : Int) (w : Int × Int), ii_R m →
      (¬ (a = 0) → (m < 0 ∨ wk_of f (u + a) v < m) → wY_next_61 post (ii_I f) (ii_I a) (ii_I b) (ii_I u) (ii_I v) f_lines f_fastest f_gain f_bend f_ahead f_speed f_seen f_state f_line f_pace f_left f_went f_allSteps f_allTicks f_holds a_letters a_values a_many a_tool a_began a_limit a_trips a_force a_origins a_here a_has a_grouped a_word a_from a_to a_steps a_paces a_dwells a_ends a_turn a_first a_second a_centre a_direction 2 (ii_I (wk_of f (u + a) v)) (1 + 1) (ii_I (u + a)) (ii_I v)) →
      (a = 0 ∨ ¬ (m < 0 ∨ wk_of f (u + a) v < m) → wY_next_61 post (ii_I f) (ii_I a) (ii_I b) (ii_I u) (ii_I v) f_lines f_fastest f_gain f_bend f_ahead f_speed f_seen f_state f_line f_pace f_left f_went f_allSteps f_allTicks f_holds a_letters a_values a_many a_tool a_began a_limit a_trips a_force a_origins a_here a_has a_grouped a_word a_from a_to a_steps a_paces a_dwells a_ends a_turn a_first a_second a_centre a_direction 2 (ii_I m) (1 + 1) (ii_I w.1) (ii_I w.2)) →
      wY_next_61 post (ii_I f) (ii_I a) (ii_I b) (ii_I u) (ii_I v) f_lines f_fastest f_gain f_bend f_ahead f_speed f_seen f_state f_line f_pace f_left f_went f_allSteps f_allTicks f_holds a_letters a_values a_many a_tool a_began a_limit a_trips a_force a_origins a_here a_has a_grouped a_word a_from a_to a_steps a_paces a_dwells a_ends a_turn a_first a_second a_centre a_direction 3 (ii_I m) (0 + 1) (ii_I w.1) (ii_I w.2) := by
    intro m w hm t1 t2
    refine br_f (by decide) (br_f (by decide) (br_t (by decide) ?_))
    rw [ii_add]
    refine ys_100 (by omega) (by omega) hu hv hf hm (fun n z => t1 (fun e => n ⟨by omega, rfl⟩) z) (fun z => t2 ?_)
    rcases z with z | z
    · exact Or.inl (by omega)
    · exact Or.inr z
  refine br_f (by decide) (br_f (by decide) (br_f (by decide) ?_))
  rw [ii_add, ii_add]
  have r0 := wk_ofr (f := f) (u := u + a) (v := v + b) (by omega) (by omega) hf
  have r1 := wk_ofr (f := f) (u := u + a) (v := v) (by omega) (by omega) hf
  refine ys_100 (m := -1) (s := u + a) (t := v + b) (by omega) (by omega) hu hv hf (by unfold ii_R; omega) (fun n z => ?_) (fun z => ?_)
  · refine c1 (wk_of f (u + a) (v + b)) (u + a, v + b) (by unfold ii_R; omega) (fun na y => ?_) (fun y => ?_)
    · have y' : wk_of f (u + a) v < wk_of f (u + a) (v + b) := by omega
      refine c2 (wk_of f (u + a) v) (u + a, v) (by unfold ii_R; omega) (fun nb x => ?_) (fun x => ?_)
      · unfold wk_ch; rw [if_pos ⟨na, y'⟩, if_pos ⟨nb, by omega⟩]
      · unfold wk_ch; rw [if_pos ⟨na, y'⟩, if_neg]
        rintro ⟨x1, x2⟩
        rcases x with x | x
        · exact x1 x
        · exact x (Or.inr x2)
    · have y' : ¬ (a ≠ 0 ∧ wk_of f (u + a) v < wk_of f (u + a) (v + b)) := by
        rintro ⟨y1, y2⟩
        rcases y with y | y
        · exact y1 y
        · exact y (Or.inr y2)
      refine c2 (wk_of f (u + a) (v + b)) (u + a, v + b) (by unfold ii_R; omega) (fun nb x => ?_) (fun x => ?_)
      · unfold wk_ch; rw [if_neg y', if_pos ⟨nb, by omega⟩]
      · unfold wk_ch; rw [if_neg y', if_neg]
        rintro ⟨x1, x2⟩
        rcases x with x | x
        · exact x1 x
        · exact x (Or.inr x2)
  · have z' : a = 0 ∧ b = 0 := by omega
    obtain ⟨ea, eb⟩ := z'
    refine c1 (-1) (u, v) (by unfold ii_R; omega) (fun na => absurd ea na) (fun _ => ?_)
    refine c2 (-1) (u, v) (by unfold ii_R; omega) (fun nb => absurd eb nb) (fun _ => ?_)
    rw [ea, wk_cha, eb, Int.add_zero]
theorem ys_nx {post : SY → Prop} {p0 : Int32} {on : Bool} {f u v : Int} (ho : p0 = 3 ↔ on = true) (eu : f_u = ii_I u) (ev : f_v = ii_I v) (hu : -5000 ≤ u ∧ u ≤ 5000) (hv : -5000 ≤ v ∧ v ≤ 5000) (hf : 0 ≤ f ∧ f ≤ 90000)
    (h : post (f_lines, f_fastest, f_gain, f_bend, f_ahead, f_speed, f_seen, f_state, f_line, f_pace, f_left, f_went, f_allSteps, f_allTicks, (ii_I (wk_nx on f (u, v)).1), (ii_I (wk_nx on f (u, v)).2), f_holds, a_letters, a_values, a_many, a_tool, a_began, a_limit, a_trips, a_force, a_origins, a_here, a_has, a_grouped, a_word, a_from, a_to, a_steps, a_paces, a_dwells, a_ends, a_turn, a_first, a_second, a_centre, a_direction)) : wpY_next post (f_lines, f_fastest, f_gain, f_bend, f_ahead, f_speed, f_seen, f_state, f_line, f_pace, f_left, f_went, f_allSteps, f_allTicks, f_u, f_v, f_holds, a_letters, a_values, a_many, a_tool, a_began, a_limit, a_trips, a_force, a_origins, a_here, a_has, a_grouped, a_word, a_from, a_to, a_steps, a_paces, a_dwells, a_ends, a_turn, a_first, a_second, a_centre, a_direction) p0 (ii_I f) := by
  subst eu ev
  have s1 := wk_sgr v
  have s2 := wk_sgr (-v)
  have s3 := wk_sgr u
  have s4 := wk_sgr (-u)
  unfold wk_nx at h
  unfold wpY_next
  dsimp only
  refine br_c (fun c => ?_) (fun c => ?_)
  · rw [ho.mp c] at h
    unfold wY_next_17
    refine ys_sg (x := -v) (ii_neg v) (by unfold ii_R; omega) (br_t c ?_)
    unfold wY_next_38
    exact ys_sg (x := u) rfl (by unfold ii_R; omega) ⟨4, ys_61 hu hv s2 s3 hf h⟩
  · have : on = false := by
      cases on
      · rfl
      · exact absurd (ho.mpr rfl) c
    rw [this] at h
    unfold wY_next_17
    refine ys_sg (x := v) rfl (by unfold ii_R; omega) (br_f c ?_)
    unfold wY_next_38
    exact ys_sg (x := -u) (ii_neg u) (by unfold ii_R; omega) ⟨4, ys_61 hu hv s1 s4 hf h⟩
end
end YNX
end
section
section YRO
theorem jl_64 {x : Int32} : x.toInt64 = jl_J x.toInt := by
  have := jl_i (x := x.toInt) (ii_R32 x)
  rw [ii_t] at this
  exact this
section
variable {f_lines f_fastest f_gain f_bend f_ahead f_speed f_seen f_state f_line f_pace f_left f_went f_allSteps f_allTicks f_u f_v f_holds : Int32} {a_letters a_values a_many a_tool a_began a_limit a_trips a_force a_origins a_here a_has a_grouped a_word a_from a_to a_steps a_paces a_dwells a_ends a_turn a_first a_second a_centre a_direction : Nat → Int32}
theorem ys_330 {post : Int32 → SY → Prop} {n fa fb : Nat} {on : Bool} {g c d x y : Int} (hn : n < 30) (hfa : fa < 3) (hfb : fb < 3) (ho : a_turn n = 3 ↔ on = true)
    (hc : a_centre (2 * n) = ii_I c) (hd : a_centre (2 * n + 1) = ii_I d) (hf : 0 ≤ g ∧ g ≤ 90000) (hcr : -2000 ≤ c ∧ c ≤ 2000) (hdr : -2000 ≤ d ∧ d ≤ 2000) (hl : ∀ a, a < 3 → (a_limit a).toInt ≤ 1000)
    (hx : -1000000 ≤ x ∧ x ≤ 1000000) (hy : -1000000 ≤ y ∧ y ≤ 1000000) (s0 : Nat → Int32) :
    ∀ (f k : Nat) (u v : Int) (S : Nat → Int32), S n = nI k → (∀ m, m ≠ n → S m = s0 m) → (-5000 ≤ u ∧ u ≤ 5000) → (-5000 ≤ v ∧ v ≤ 5000) →
      k + f ≤ 3000 → (∃ j, 1 ≤ j ∧ j ≤ f ∧ wk_it on g j (u, v) = (x, y)) →
      ((pl_wk on g c d (a_limit fa).toInt (a_limit fb).toInt x y f k u v).1 = 6 → ∀ S' u' v', post 6 (f_lines, f_fastest, f_gain, f_bend, f_ahead, f_speed, f_seen, f_state, f_line, f_pace, f_left, f_went, f_allSteps, f_allTicks, u', v', f_holds, a_letters, a_values, a_many, a_tool, a_began, a_limit, a_trips, a_force, a_origins, a_here, a_has, a_grouped, a_word, a_from, a_to, S', a_paces, a_dwells, a_ends, a_turn, a_first, a_second, a_centre, a_direction)) →
      ((pl_wk on g c d (a_limit fa).toInt (a_limit fb).toInt x y f k u v).1 = 0 → ∀ S' u' v', S' n = nI (pl_wk on g c d (a_limit fa).toInt (a_limit fb).toInt x y f k u v).2 → (∀ m, m ≠ n → S' m = s0 m) → post 0 (f_lines, f_fastest, f_gain, f_bend, f_ahead, f_speed, f_seen, f_state, f_line, f_pace, f_left, f_went, f_allSteps, f_allTicks, u', v', f_holds, a_letters, a_values, a_many, a_tool, a_began, a_limit, a_trips, a_force, a_origins, a_here, a_has, a_grouped, a_word, a_from, a_to, S', a_paces, a_dwells, a_ends, a_turn, a_first, a_second, a_centre, a_direction)) →
      ∀ N, f + 1 < N → wY_round_330 post (nI n) (nI fa) (nI fb) (jl_J x) (jl_J y) (jl_J g) N 1 f_lines f_fastest f_gain f_bend f_ahead f_speed f_seen f_state f_line f_pace f_left f_went f_allSteps f_allTicks (ii_I u) (ii_I v) f_holds a_letters a_values a_many a_tool a_began a_limit a_trips a_force a_origins a_here a_has a_grouped a_word a_from a_to S a_paces a_dwells a_ends a_turn a_first a_second a_centre a_direction := by
  have la := hl _ hfa
  have lb := hl _ hfb
  have i30 : vp_in (nI n) 30 := vp_in_nI hn (by omega)
  have cl : (nI n).toNatClampNeg = n := nI_clamp (by omega)
  have r0 : ii_R 0 := by unfold ii_R; omega
  intro f
  induction f with
  | zero =>
    intro k u v S _ _ _ _ _ hj
    obtain ⟨j, j1, j2, _⟩ := hj
    omega
  | succ f ih =>
    intro k u v S hS hSo hu hv hk hj h6 h0 N hN
    obtain ⟨N, rfl⟩ : ∃ e, N = e + 1 := ⟨N - 1, by omega⟩
    rw [pl_wk] at h6 h0
    revert hj h6 h0
    have wr := wk_nxr on g u v
    have gg : (jl_J g).toInt32 = ii_I g := jl_o (by unfold jl_R; omega) (by unfold ii_R; omega)
    generalize ew : wk_nx on g (u, v) = w at *
    intro hj h6 h0
    refine br_f (by decide) ⟨i30, ?_⟩
    rw [cl, gg]
    refine ys_nx (on := on) (f := g) (u := u) (v := v) ho rfl rfl hu hv hf ?_
    rw [ew]
    dsimp only
    rw [ix_y21, ix_y2, nI_clamp (show 2 * n < 2 ^ 31 by omega), nI_clamp (show 2 * n + 1 < 2 ^ 31 by omega), nI_clamp (show fa < 2 ^ 31 by omega), nI_clamp (show fb < 2 ^ 31 by omega), hc, hd, ii_add, ii_add, hS, nI_1,
      jl_i (show ii_R w.1 by unfold ii_R; omega), jl_i (show ii_R w.2 by unfold ii_R; omega)]
    have S1 : upd S n (nI (k + 1)) n = nI (k + 1) := pk_us
    have S2 : ∀ m, m ≠ n → upd S n (nI (k + 1)) m = s0 m := fun m hm => (pk_un hm).trans (hSo m hm)
    refine ⟨i30, i30, nm_e ?_⟩
    generalize upd S n (nI (k + 1)) = S' at S1 S2 ⊢
    have a1 : 0 ≤ ii_I (c + w.1) ↔ 0 ≤ c + w.1 := ii_le (a := 0) r0 (by unfold ii_R; omega)
    have a2 : ii_I (c + w.1) ≤ a_limit fa ↔ c + w.1 ≤ (a_limit fa).toInt := by rw [fc_le, ii_toInt (by unfold ii_R; omega)]
    have a3 : 0 ≤ ii_I (d + w.2) ↔ 0 ≤ d + w.2 := ii_le (a := 0) r0 (by unfold ii_R; omega)
    have a4 : ii_I (d + w.2) ≤ a_limit fb ↔ d + w.2 ≤ (a_limit fb).toInt := by rw [fc_le, ii_toInt (by unfold ii_R; omega)]
    have e1 : jl_J w.1 = jl_J x ↔ w.1 = x := jl_eq (by unfold jl_R; omega) (by unfold jl_R; omega)
    have e2 : jl_J w.2 = jl_J y ↔ w.2 = y := jl_eq (by unfold jl_R; omega) (by unfold jl_R; omega)
    refine ⟨vp_in_nI (by omega) (by omega), vp_in_nI hfa (by omega), yl_in (fun z1 z2 => br_f (by decide) ⟨vp_in_nI (by omega) (by omega), vp_in_nI hfb (by omega), yl_in (fun z3 z4 => br_f (by decide) ?_) (fun z => br_t rfl ?_)⟩) (fun z => br_t rfl ?_)⟩
    · rw [a1] at z1; rw [a2] at z2; rw [a3] at z3; rw [a4] at z4
      have no : ¬ (c + w.1 < 0 ∨ (a_limit fa).toInt < c + w.1 ∨ d + w.2 < 0 ∨ (a_limit fb).toInt < d + w.2) := by omega
      rw [if_neg no] at h6 h0
      have go : ¬ (w.1 = x ∧ w.2 = y) → wY_round_330 post (nI n) (nI fa) (nI fb) (jl_J x) (jl_J y) (jl_J g) N 1 f_lines f_fastest f_gain f_bend f_ahead f_speed f_seen f_state f_line f_pace f_left f_went f_allSteps f_allTicks (ii_I w.1) (ii_I w.2) f_holds a_letters a_values a_many a_tool a_began a_limit a_trips a_force a_origins a_here a_has a_grouped a_word a_from a_to S' a_paces a_dwells a_ends a_turn a_first a_second a_centre a_direction := by
        intro ng
        rw [if_neg ng] at h6 h0
        refine ih (k + 1) w.1 w.2 S' S1 S2 (by omega) (by omega) (by omega) ?_ h6 h0 N (by omega)
        obtain ⟨j, j1, j2, j3⟩ := hj
        obtain ⟨i, rfl⟩ : ∃ i, j = i + 1 := ⟨j - 1, by omega⟩
        have j4 : wk_it on g i w = (x, y) := by
          rw [← ew]; exact j3
        by_cases i0 : i = 0
        · subst i0
          exact absurd ⟨congrArg Prod.fst j4, congrArg Prod.snd j4⟩ ng
        · exact ⟨i, by omega, by omega, j4⟩
      refine br_c (fun t1 => br_c (fun t2 => ?_) (fun t2 => go (fun t => t2 (e2.mpr t.2)))) (fun t1 => go (fun t => t1 (e1.mpr t.1)))
      obtain ⟨M, rfl⟩ : ∃ e, N = e + 1 := ⟨N - 1, by omega⟩
      rw [if_pos ⟨e1.mp t1, e2.mp t2⟩] at h0
      exact br_t rfl (h0 rfl S' _ _ S1 S2)
    · rw [a3, a4] at z
      rw [if_pos (by omega)] at h6
      exact h6 rfl _ _ _
    · rw [a1, a2] at z
      rw [if_pos (by omega)] at h6
      exact h6 rfl _ _ _
theorem ys_ro {post : Int32 → SY → Prop} {H : Nat → Bool} {n : Nat} {he to : Nat → Int32} {p q : Int} (hn : n < 30) (hF : fc_FW a_force) (hH : ∀ i, i < 10 → a_has i = bo_I (H i))
    (ht : a_turn n = a_force 0) (hS : a_steps n = 0)
    (hhe : ∀ a, a < 3 → a_here a = he a) (hto : ∀ a, a < 3 → a_to (3 * n + a) = to a)
    (rhe : ∀ a, a < 3 → 0 ≤ (he a).toInt ∧ (he a).toInt ≤ (a_limit a).toInt) (rto : ∀ a, a < 3 → -100000 ≤ (to a).toInt ∧ (to a).toInt ≤ 100000) (hl : ∀ a, a < 3 → (a_limit a).toInt ≤ 1000)
    (hp : pl_ij a_force H a_word (pl_fa a_force) = ii_I p) (hq : pl_ij a_force H a_word (pl_fb a_force) = ii_I q) (rp : -15000 ≤ p ∧ p ≤ 15000) (rq : -15000 ≤ q ∧ q ≤ 15000)
    (hr5 : ((H (5 + pl_fa a_force) = false ∧ H (5 + pl_fb a_force) = false ∨ H (2 + pl_ft a_force) = true ∨ H (5 + pl_ft a_force) = true) ∨ p * p + q * q = 0 ∨ 90000 < p * p + q * q ∨ ¬ ((to (pl_fa a_force)).toInt - (he (pl_fa a_force)).toInt - p) * ((to (pl_fa a_force)).toInt - (he (pl_fa a_force)).toInt - p) + ((to (pl_fb a_force)).toInt - (he (pl_fb a_force)).toInt - q) * ((to (pl_fb a_force)).toInt - (he (pl_fb a_force)).toInt - q) = p * p + q * q) → post 5 (f_lines, f_fastest, f_gain, f_bend, f_ahead, f_speed, f_seen, f_state, f_line, f_pace, f_left, f_went, f_allSteps, f_allTicks, f_u, f_v, f_holds, a_letters, a_values, a_many, a_tool, a_began, a_limit, a_trips, a_force, a_origins, a_here, a_has, a_grouped, a_word, a_from, a_to, a_steps, a_paces, a_dwells, a_ends, a_turn, a_first, a_second, a_centre, a_direction))
    (hr : ¬ ((H (5 + pl_fa a_force) = false ∧ H (5 + pl_fb a_force) = false ∨ H (2 + pl_ft a_force) = true ∨ H (5 + pl_ft a_force) = true) ∨ p * p + q * q = 0 ∨ 90000 < p * p + q * q ∨ ¬ ((to (pl_fa a_force)).toInt - (he (pl_fa a_force)).toInt - p) * ((to (pl_fa a_force)).toInt - (he (pl_fa a_force)).toInt - p) + ((to (pl_fb a_force)).toInt - (he (pl_fb a_force)).toInt - q) * ((to (pl_fb a_force)).toInt - (he (pl_fb a_force)).toInt - q) = p * p + q * q) →
      ∀ w, w = pl_wk (decide (a_force 0 = 3)) (p * p + q * q) ((he (pl_fa a_force)).toInt + p) ((he (pl_fb a_force)).toInt + q) (a_limit (pl_fa a_force)).toInt (a_limit (pl_fb a_force)).toInt ((to (pl_fa a_force)).toInt - (he (pl_fa a_force)).toInt - p) ((to (pl_fb a_force)).toInt - (he (pl_fb a_force)).toInt - q) 3000 0 (-p) (-q) →
      (w.1 = 6 → ∀ u v S fi se ce, post 6 (f_lines, f_fastest, f_gain, f_bend, f_ahead, f_speed, f_seen, f_state, f_line, f_pace, f_left, f_went, f_allSteps, f_allTicks, u, v, f_holds, a_letters, a_values, a_many, a_tool, a_began, a_limit, a_trips, a_force, a_origins, a_here, a_has, a_grouped, a_word, a_from, a_to, S, a_paces, a_dwells, a_ends, a_turn, fi, se, ce, a_direction)) ∧
      (w.1 = 0 → ∀ u v S, S n = nI w.2 → (∀ m, m ≠ n → S m = a_steps m) → post 0 (f_lines, f_fastest, f_gain, f_bend, f_ahead, f_speed, f_seen, f_state, f_line, f_pace, f_left, f_went, f_allSteps, f_allTicks, u, v, f_holds, a_letters, a_values, a_many, a_tool, a_began, a_limit, a_trips, a_force, a_origins, a_here, a_has, a_grouped, a_word, a_from, a_to, S, a_paces, a_dwells, a_ends, a_turn, (upd a_first n (nI (pl_fa a_force))), (upd a_second n (nI (pl_fb a_force))), (upd (upd a_centre (2 * n) (ii_I ((he (pl_fa a_force)).toInt + p))) (2 * n + 1) (ii_I ((he (pl_fb a_force)).toInt + q))), a_direction))) :
    wpY_round post (f_lines, f_fastest, f_gain, f_bend, f_ahead, f_speed, f_seen, f_state, f_line, f_pace, f_left, f_went, f_allSteps, f_allTicks, f_u, f_v, f_holds, a_letters, a_values, a_many, a_tool, a_began, a_limit, a_trips, a_force, a_origins, a_here, a_has, a_grouped, a_word, a_from, a_to, a_steps, a_paces, a_dwells, a_ends, a_turn, a_first, a_second, a_centre, a_direction) (nI n) := by
  have i30 : vp_in (nI n) 30 := vp_in_nI hn (by omega)
  have cl : (nI n).toNatClampNeg = n := nI_clamp (by omega)
  have tr : pl_fa a_force < 3 ∧ pl_fb a_force < 3 ∧ pl_ft a_force < 3 ∧ pl_fa a_force + pl_fb a_force + pl_ft a_force = 3 := by
    unfold pl_fa pl_fb pl_ft
    rcases fv_1 hF with e | e | e <;> rw [e] <;> decide
  obtain ⟨hfa, hfb, hft, sum⟩ := tr
  have ra := rhe _ hfa
  have rb := rhe _ hfb
  have la := hl _ hfa
  have lb := hl _ hfb
  have ta := rto _ hfa
  have tb := rto _ hfb
  have q1 := wk_sqb (B := 15000) rp
  have q2 := wk_sqb (B := 15000) rq
  have eA := hhe _ hfa
  have eB := hhe _ hfb
  have tA := hto _ hfa
  have tB := hto _ hfb
  have ix5 : (5 : Int32) - nI (pl_fa a_force) - nI (pl_fb a_force) = nI (2 + pl_ft a_force) := by
    rw [show (5 : Int32) = nI 5 from rfl, pk_sub (by omega), pk_sub (by omega)]; congr 1; omega
  have ix8 : (8 : Int32) - nI (pl_fa a_force) - nI (pl_fb a_force) = nI (5 + pl_ft a_force) := by
    rw [show (8 : Int32) = nI 8 from rfl, pk_sub (by omega), pk_sub (by omega)]; congr 1; omega
  have g163 : ¬ (H (5 + pl_fa a_force) = false ∧ H (5 + pl_fb a_force) = false ∨ H (2 + pl_ft a_force) = true ∨ H (5 + pl_ft a_force) = true) →
      wY_round_163 post (nI n) (nI (pl_fa a_force)) (nI (pl_fb a_force)) (jl_J p) (jl_J q) f_lines f_fastest f_gain f_bend f_ahead f_speed f_seen f_state f_line f_pace f_left f_went f_allSteps f_allTicks f_u f_v f_holds a_letters a_values a_many a_tool a_began a_limit a_trips a_force a_origins a_here a_has a_grouped a_word a_from a_to a_steps a_paces a_dwells a_ends a_turn a_first a_second a_centre a_direction := by
    intro c0
    unfold wY_round_163
    rw [ix_y3, ix_y3, ix_y21, ix_y2, cl, nI_clamp (show 3 * n + pl_fa a_force < 2 ^ 31 by omega), nI_clamp (show 3 * n + pl_fb a_force < 2 ^ 31 by omega), nI_clamp (show pl_fa a_force < 2 ^ 31 by omega), nI_clamp (show pl_fb a_force < 2 ^ 31 by omega),
      nI_clamp (show 2 * n < 2 ^ 31 by omega), nI_clamp (show 2 * n + 1 < 2 ^ 31 by omega), eA, eB, tA, tB]
    have d1 : (to (pl_fa a_force) - he (pl_fa a_force)).toInt64 - jl_J p = jl_J ((to (pl_fa a_force)).toInt - (he (pl_fa a_force)).toInt - p) := by
      rw [← ii_t (to (pl_fa a_force)), ← ii_t (he (pl_fa a_force)), ii_sub, jl_i (by unfold ii_R; omega), jl_sub, ii_t, ii_t]
    have d2 : (to (pl_fb a_force) - he (pl_fb a_force)).toInt64 - jl_J q = jl_J ((to (pl_fb a_force)).toInt - (he (pl_fb a_force)).toInt - q) := by
      rw [← ii_t (to (pl_fb a_force)), ← ii_t (he (pl_fb a_force)), ii_sub, jl_i (by unfold ii_R; omega), jl_sub, ii_t, ii_t]
    refine ⟨vp_in_nI (by omega) (by omega), vp_in_nI hfa (by omega), nm_r d1 ⟨vp_in_nI (by omega) (by omega), vp_in_nI hfb (by omega), nm_r d2 (nm_r (e' := jl_J (p * p + q * q)) (by rw [jl_mul, jl_mul, jl_add]) ?_)⟩⟩
    have z0 : jl_J (p * p + q * q) = 0 ↔ p * p + q * q = 0 := jl_eq (b := 0) (by unfold jl_R; omega) (by unfold jl_R; omega)
    have z9 : 90000 < jl_J (p * p + q * q) ↔ 90000 < p * p + q * q := jl_lt (a := 90000) (by unfold jl_R; omega) (by unfold jl_R; omega)
    refine br_c (fun c1 => hr5 (Or.inr (Or.inl (z0.mp c1)))) (fun c1 => br_c (fun c2 => hr5 (Or.inr (Or.inr (Or.inl (z9.mp c2))))) (fun c2 => ?_))
    have c1' : ¬ p * p + q * q = 0 := fun z => c1 (z0.mpr z)
    have c2' : ¬ 90000 < p * p + q * q := fun z => c2 (z9.mpr z)
    have p3 : -300 ≤ p ∧ p ≤ 300 := by
      have a1 := wk_sl (x := p) (y := 301) (by omega) (by omega)
      have a2 := wk_sl (x := -p) (y := 301) (by omega) (by rw [Int.neg_mul_neg]; omega)
      omega
    have q3 : -300 ≤ q ∧ q ≤ 300 := by
      have a1 := wk_sl (x := q) (y := 301) (by omega) (by omega)
      have a2 := wk_sl (x := -q) (y := 301) (by omega) (by rw [Int.neg_mul_neg]; omega)
      omega
    rw [jl_mul, jl_mul, jl_add]
    have rx : -200000 ≤ (to (pl_fa a_force)).toInt - (he (pl_fa a_force)).toInt - p ∧ (to (pl_fa a_force)).toInt - (he (pl_fa a_force)).toInt - p ≤ 200000 := by omega
    have ry : -200000 ≤ (to (pl_fb a_force)).toInt - (he (pl_fb a_force)).toInt - q ∧ (to (pl_fb a_force)).toInt - (he (pl_fb a_force)).toInt - q ≤ 200000 := by omega
    have sx := wk_sqb (B := 200000) rx
    have sy := wk_sqb (B := 200000) ry
    have ee := jl_eq (a := ((to (pl_fa a_force)).toInt - (he (pl_fa a_force)).toInt - p) * ((to (pl_fa a_force)).toInt - (he (pl_fa a_force)).toInt - p) + ((to (pl_fb a_force)).toInt - (he (pl_fb a_force)).toInt - q) * ((to (pl_fb a_force)).toInt - (he (pl_fb a_force)).toInt - q)) (b := p * p + q * q) (by unfold jl_R; omega) (by unfold jl_R; omega)
    refine br_c (fun c3 => ?_) (fun c3 => hr5 (Or.inr (Or.inr (Or.inr (fun z => c3 (ee.mpr z))))))
    have c3' := ee.mp c3
    have nb : ¬ ((H (5 + pl_fa a_force) = false ∧ H (5 + pl_fb a_force) = false ∨ H (2 + pl_ft a_force) = true ∨ H (5 + pl_ft a_force) = true) ∨ p * p + q * q = 0 ∨ 90000 < p * p + q * q ∨ ¬ ((to (pl_fa a_force)).toInt - (he (pl_fa a_force)).toInt - p) * ((to (pl_fa a_force)).toInt - (he (pl_fa a_force)).toInt - p) + ((to (pl_fb a_force)).toInt - (he (pl_fb a_force)).toInt - q) * ((to (pl_fb a_force)).toInt - (he (pl_fb a_force)).toInt - q) = p * p + q * q) := by
      rintro (z | z | z | z)
      · exact c0 z
      · exact c1' z
      · exact c2' z
      · exact z c3'
    obtain ⟨g6, g0⟩ := hr nb _ rfl
    have oA : he (pl_fa a_force) + (jl_J p).toInt32 = ii_I ((he (pl_fa a_force)).toInt + p) := by
      rw [jl_o (by unfold jl_R; omega) (by unfold ii_R; omega), ← ii_add, ii_t]
    have oB : he (pl_fb a_force) + (jl_J q).toInt32 = ii_I ((he (pl_fb a_force)).toInt + q) := by
      rw [jl_o (by unfold jl_R; omega) (by unfold ii_R; omega), ← ii_add, ii_t]
    have oU : (-jl_J p).toInt32 = ii_I (-p) := by rw [jl_neg, jl_o (by unfold jl_R; omega) (by unfold ii_R; omega)]
    have oV : (-jl_J q).toInt32 = ii_I (-q) := by rw [jl_neg, jl_o (by unfold jl_R; omega) (by unfold ii_R; omega)]
    refine ⟨i30, nm_e ⟨i30, nm_e ⟨vp_in_nI hfa (by omega), vp_in_nI (by omega) (by omega), nm_r (congrArg (upd a_centre (2 * n)) oA) ⟨vp_in_nI hfb (by omega), vp_in_nI (by omega) (by omega), nm_r (congrArg (upd _ (2 * n + 1)) oB) (nm_r oU (nm_r oV ⟨3002, ?_⟩))⟩⟩⟩⟩
    refine ys_330 (on := decide (a_force 0 = 3)) (g := p * p + q * q) (c := (he (pl_fa a_force)).toInt + p) (d := (he (pl_fb a_force)).toInt + q)
      (x := (to (pl_fa a_force)).toInt - (he (pl_fa a_force)).toInt - p) (y := (to (pl_fb a_force)).toInt - (he (pl_fb a_force)).toInt - q)
      hn hfa hfb (by rw [ht, decide_eq_true_iff]) (by rw [pk_un (by omega), pk_us]) pk_us (by omega) (by omega) (by omega) hl (by omega) (by omega) a_steps 3000 0 (-p) (-q) a_steps hS (fun _ _ => rfl) (by omega) (by omega) (by omega) ?_
      (fun e S u v => g6 e u v S _ _ _) (fun e S u v s1 s2 => g0 e u v S s1 s2) 3002 (by omega)
    exact wk_all _ (by omega) (by omega) (by rw [Int.neg_mul_neg, Int.neg_mul_neg]) c3'
  have pj : ∀ a (r : Int), pl_ij a_force H a_word a = ii_I r → ii_R r → (H (5 + a) = false → (0 : Int64) = jl_J r) ∧ (H (5 + a) = true → (a_word (5 + a) * pl_sc a_force).toInt64 = jl_J r) := by
    intro a r er rr
    unfold pl_ij at er
    constructor
    · intro e
      rw [if_neg (by rw [e]; decide)] at er
      have : (0 : Int) = r := (ii_eq (a := 0) (by unfold ii_R; omega) rr).mp er
      rw [← this]; rfl
    · intro e
      rw [if_pos e] at er
      rw [er, jl_i rr]
  have jp := pj _ p hp (by unfold ii_R; omega)
  have jq := pj _ q hq (by unfold ii_R; omega)
  have hA5 := hH (5 + pl_fa a_force) (by omega)
  have hB5 := hH (5 + pl_fb a_force) (by omega)
  have hT2 := hH (2 + pl_ft a_force) (by omega)
  have hT5 := hH (5 + pl_ft a_force) (by omega)
  have g134 : ¬ (H (5 + pl_fa a_force) = false ∧ H (5 + pl_fb a_force) = false ∨ H (2 + pl_ft a_force) = true ∨ H (5 + pl_ft a_force) = true) →
      wY_round_134 post (nI n) (nI (pl_fa a_force)) (nI (pl_fb a_force)) (pl_sc a_force) (jl_J p) f_lines f_fastest f_gain f_bend f_ahead f_speed f_seen f_state f_line f_pace f_left f_went f_allSteps f_allTicks f_u f_v f_holds a_letters a_values a_many a_tool a_began a_limit a_trips a_force a_origins a_here a_has a_grouped a_word a_from a_to a_steps a_paces a_dwells a_ends a_turn a_first a_second a_centre a_direction := by
    intro c0
    unfold wY_round_134
    rw [ix_p5, nI_clamp (show 5 + pl_fb a_force < 2 ^ 31 by omega), hB5]
    refine ⟨vp_in_nI (by omega) (by omega), br_c (fun e => ?_) (fun e => ⟨vp_in_nI (by omega) (by omega), ?_⟩)⟩
    · rw [jq.1 (bo_yf e)]; exact g163 c0
    · rw [jq.2 (bo_nf e)]; exact g163 c0
  have g78 : ¬ (H (5 + pl_fa a_force) = false ∧ H (5 + pl_fb a_force) = false) → wY_round_78 post (nI n) (nI (pl_fa a_force)) (nI (pl_fb a_force)) (pl_sc a_force) f_lines f_fastest f_gain f_bend f_ahead f_speed f_seen f_state f_line f_pace f_left f_went f_allSteps f_allTicks f_u f_v f_holds a_letters a_values a_many a_tool a_began a_limit a_trips a_force a_origins a_here a_has a_grouped a_word a_from a_to a_steps a_paces a_dwells a_ends a_turn a_first a_second a_centre a_direction := by
    intro c0
    unfold wY_round_78
    rw [ix5, ix8, ix_p5, nI_clamp (show 2 + pl_ft a_force < 2 ^ 31 by omega), nI_clamp (show 5 + pl_ft a_force < 2 ^ 31 by omega), nI_clamp (show 5 + pl_fa a_force < 2 ^ 31 by omega), hT2, hT5, hA5]
    refine ⟨vp_in_nI (by omega) (by omega), br_c (fun e2 => ⟨vp_in_nI (by omega) (by omega), br_c (fun e5 => ?_) (fun e5 => hr5 (Or.inl (Or.inr (Or.inr (bo_nf e5)))))⟩) (fun e2 => hr5 (Or.inl (Or.inr (Or.inl (bo_nf e2)))))⟩
    have c0' : ¬ (H (5 + pl_fa a_force) = false ∧ H (5 + pl_fb a_force) = false ∨ H (2 + pl_ft a_force) = true ∨ H (5 + pl_ft a_force) = true) := by
      rintro (z | z | z)
      · exact c0 z
      · rw [bo_yf e2] at z; exact absurd z (by decide)
      · rw [bo_yf e5] at z; exact absurd z (by decide)
    refine ⟨vp_in_nI (by omega) (by omega), br_c (fun e => ?_) (fun e => ⟨vp_in_nI (by omega) (by omega), ?_⟩)⟩
    · rw [jp.1 (bo_yf e)]; exact g134 c0'
    · rw [jp.2 (bo_nf e)]; exact g134 c0'
  have g54 : wY_round_54 post (nI n) (nI (pl_fa a_force)) (nI (pl_fb a_force)) (pl_sc a_force) f_lines f_fastest f_gain f_bend f_ahead f_speed f_seen f_state f_line f_pace f_left f_went f_allSteps f_allTicks f_u f_v f_holds a_letters a_values a_many a_tool a_began a_limit a_trips a_force a_origins a_here a_has a_grouped a_word a_from a_to a_steps a_paces a_dwells a_ends a_turn a_first a_second a_centre a_direction := by
    unfold wY_round_54
    rw [ix_p5, ix_p5, nI_clamp (show 5 + pl_fa a_force < 2 ^ 31 by omega), nI_clamp (show 5 + pl_fb a_force < 2 ^ 31 by omega), hA5, hB5]
    refine ⟨vp_in_nI (by omega) (by omega), br_c (fun e => ⟨vp_in_nI (by omega) (by omega), br_c (fun e' => hr5 (Or.inl (Or.inl ⟨bo_yf e, bo_yf e'⟩))) (fun e' => g78 (fun z => ?_))⟩) (fun e => g78 (fun z => ?_))⟩
    · rw [bo_nf e'] at z; exact absurd z.2 (by decide)
    · rw [bo_nf e] at z; exact absurd z.1 (by decide)
  have g31 : wY_round_31 post (nI n) (nI (pl_fa a_force)) f_lines f_fastest f_gain f_bend f_ahead f_speed f_seen f_state f_line f_pace f_left f_went f_allSteps f_allTicks f_u f_v f_holds a_letters a_values a_many a_tool a_began a_limit a_trips a_force a_origins a_here a_has a_grouped a_word a_from a_to a_steps a_paces a_dwells a_ends a_turn a_first a_second a_centre a_direction := by
    unfold wY_round_31
    refine ⟨by decide, nm_r (e' := nI (pl_fb a_force)) ?_ (br_c (fun e => ?_) (fun e => ?_))⟩
    · unfold pl_fa pl_fb
      rcases fv_1 hF with e | e | e <;> rw [e] <;> decide
    · unfold pl_sc at g54; rw [if_pos e] at g54; exact g54
    · unfold pl_sc at g54; rw [if_neg e] at g54; exact g54
  unfold wpY_round
  dsimp only
  have fae : pl_fa a_force = if a_force 1 = 17 then 0 else if a_force 1 = 18 then 2 else 1 := rfl
  rw [fae] at g31
  refine br_c (fun e => ?_) (fun e => br_c (fun e' => ?_) (fun e' => ?_))
  · rw [if_pos e] at g31; exact g31
  · rw [if_neg e, if_pos e'] at g31; exact g31
  · rw [if_neg e, if_neg e'] at g31; exact g31
end
end YRO
end
section
section YWK
theorem sg_absy {x y : Int32} (hx : 0 ≤ x.toInt ∧ x.toInt ≤ 1000) (hy : -100000 ≤ y.toInt ∧ y.toInt ≤ 100000) :
    (0 ≤ y - x → y - x = nI ((y.toInt - x.toInt).natAbs)) ∧ (¬ 0 ≤ y - x → -(y - x) = nI ((y.toInt - x.toInt).natAbs)) := by
  have e : y - x = ii_I (y.toInt - x.toInt) := by rw [← ii_sub, ii_t, ii_t]
  have l : 0 ≤ ii_I (y.toInt - x.toInt) ↔ 0 ≤ y.toInt - x.toInt := ii_le (a := 0) (by unfold ii_R; omega) (by unfold ii_R; omega)
  rw [e, l, ii_n]
  constructor
  · intro h; rw [Int.natAbs_of_nonneg h]
  · intro h
    rw [ii_neg]
    congr 1
    omega
section
variable {f_lines f_fastest f_gain f_bend f_ahead f_speed f_seen f_state f_line f_pace f_left f_went f_allSteps f_allTicks f_u f_v f_holds : Int32} {a_letters a_values a_many a_tool a_began a_limit a_trips a_force a_origins a_here a_has a_grouped a_word a_from a_to a_steps a_paces a_dwells a_ends a_turn a_first a_second a_centre a_direction : Nat → Int32}
theorem yw_s1 {post : Int32 → SY → Prop} {n a f m : Nat} {fr to : Nat → Int32} {s0 : Nat → Int32} (hn : n < 30) (ha : a < 3) (hm : m ≤ 101000) (hf : a_from (3 * n + a) = fr a) (ht : a_to (3 * n + a) = to a)
    (rf : 0 ≤ (fr a).toInt ∧ (fr a).toInt ≤ 1000) (rt : -100000 ≤ (to a).toInt ∧ (to a).toInt ≤ 100000) (hS : a_steps n = nI m) (hS0 : ∀ k, k ≠ n → a_steps k = s0 k)
    (h6 : sg_ou a_limit to a = true → ∀ S, post 6 (f_lines, f_fastest, f_gain, f_bend, f_ahead, f_speed, f_seen, f_state, f_line, f_pace, f_left, f_went, f_allSteps, f_allTicks, f_u, f_v, f_holds, a_letters, a_values, a_many, a_tool, a_began, a_limit, a_trips, a_force, a_origins, a_here, a_has, a_grouped, a_word, a_from, a_to, S, a_paces, a_dwells, a_ends, a_turn, a_first, a_second, a_centre, a_direction))
    (h : sg_ou a_limit to a = false → ∀ S, S n = nI (max m (sg_dd fr to a)) → (∀ k, k ≠ n → S k = s0 k) → wY_straight_2 post (nI n) f_lines f_fastest f_gain f_bend f_ahead f_speed f_seen f_state f_line f_pace f_left f_went f_allSteps f_allTicks f_u f_v f_holds f (nI (a + 1)) a_letters a_values a_many a_tool a_began a_limit a_trips a_force a_origins a_here a_has a_grouped a_word a_from a_to S a_paces a_dwells a_ends a_turn a_first a_second a_centre a_direction) :
    wY_straight_2 post (nI n) f_lines f_fastest f_gain f_bend f_ahead f_speed f_seen f_state f_line f_pace f_left f_went f_allSteps f_allTicks f_u f_v f_holds (f + 1) (nI a) a_letters a_values a_many a_tool a_began a_limit a_trips a_force a_origins a_here a_has a_grouped a_word a_from a_to a_steps a_paces a_dwells a_ends a_turn a_first a_second a_centre a_direction := by
  have i30 : vp_in (nI n) 30 := vp_in_nI hn (by omega)
  have cl : (nI n).toNatClampNeg = n := nI_clamp (by omega)
  have bd : sg_dd fr to a ≤ 101000 := by unfold sg_dd; omega
  refine br_f (ix_3a ha) ?_
  rw [ix_y3, nI_clamp (show 3 * n + a < 2 ^ 31 by omega), hf, ht]
  have g53 : ∀ S, S n = nI (max m (sg_dd fr to a)) → (∀ k, k ≠ n → S k = s0 k) → wY_straight_53 post (wY_straight_2 post (nI n) f_lines f_fastest f_gain f_bend f_ahead f_speed f_seen f_state f_line f_pace f_left f_went f_allSteps f_allTicks f_u f_v f_holds f) (nI n) (nI a) f_lines f_fastest f_gain f_bend f_ahead f_speed f_seen f_state f_line f_pace f_left f_went f_allSteps f_allTicks f_u f_v f_holds a_letters a_values a_many a_tool a_began a_limit a_trips a_force a_origins a_here a_has a_grouped a_word a_from a_to S a_paces a_dwells a_ends a_turn a_first a_second a_centre a_direction := by
    intro S e1 e2
    unfold wY_straight_53
    rw [ix_y3, nI_clamp (show 3 * n + a < 2 ^ 31 by omega), nI_clamp (show a < 2 ^ 31 by omega), ht]
    refine ⟨vp_in_nI (by omega) (by omega), vp_in_nI ha (by omega), yl_in (fun z1 z2 => br_f (by decide) (nm_r (nI_1 a) (h (decide_eq_false ?_) S e1 e2))) (fun z => br_t rfl (h6 (decide_eq_true ?_) S))⟩
    · rw [fc_le, fc_0] at z1; rw [fc_le] at z2; omega
    · rw [fc_le, fc_0, fc_le] at z; omega
  have g36 : ∀ z, z = nI (sg_dd fr to a) → wY_straight_36 post (wY_straight_2 post (nI n) f_lines f_fastest f_gain f_bend f_ahead f_speed f_seen f_state f_line f_pace f_left f_went f_allSteps f_allTicks f_u f_v f_holds f) (nI n) (nI a) z f_lines f_fastest f_gain f_bend f_ahead f_speed f_seen f_state f_line f_pace f_left f_went f_allSteps f_allTicks f_u f_v f_holds a_letters a_values a_many a_tool a_began a_limit a_trips a_force a_origins a_here a_has a_grouped a_word a_from a_to a_steps a_paces a_dwells a_ends a_turn a_first a_second a_centre a_direction := by
    intro z ez
    subst ez
    unfold wY_straight_36
    rw [cl, hS]
    refine ⟨i30, br_c (fun c => g53 a_steps ?_ hS0) (fun c => ⟨i30, nm_e (g53 _ ?_ (fun k hk => (pk_un hk).trans (hS0 k hk)))⟩)⟩
    · rw [nI_leI (by omega) (by omega)] at c
      rw [hS, Nat.max_eq_left c]
    · rw [nI_leI (by omega) (by omega)] at c
      rw [pk_us, Nat.max_eq_right (by omega)]
  refine ⟨vp_in_nI (by omega) (by omega), vp_in_nI (by omega) (by omega), nm_e (br_c (fun c => g36 _ ((sg_absy rf rt).1 c)) (fun c => nm_e (g36 _ ((sg_absy rf rt).2 c))))⟩
theorem yw_st {post : Int32 → SY → Prop} {n : Nat} {fr to : Nat → Int32} (hn : n < 30) (hf : ∀ a, a < 3 → a_from (3 * n + a) = fr a) (ht : ∀ a, a < 3 → a_to (3 * n + a) = to a)
    (rf : ∀ a, a < 3 → 0 ≤ (fr a).toInt ∧ (fr a).toInt ≤ 1000) (rt : ∀ a, a < 3 → -100000 ≤ (to a).toInt ∧ (to a).toInt ≤ 100000) (hS : a_steps n = 0)
    (h6 : sg_out a_limit to = true → ∀ S, post 6 (f_lines, f_fastest, f_gain, f_bend, f_ahead, f_speed, f_seen, f_state, f_line, f_pace, f_left, f_went, f_allSteps, f_allTicks, f_u, f_v, f_holds, a_letters, a_values, a_many, a_tool, a_began, a_limit, a_trips, a_force, a_origins, a_here, a_has, a_grouped, a_word, a_from, a_to, S, a_paces, a_dwells, a_ends, a_turn, a_first, a_second, a_centre, a_direction))
    (h0 : sg_out a_limit to = false → ∀ S, S n = nI (sg_mx fr to) → (∀ k, k ≠ n → S k = a_steps k) → post 0 (f_lines, f_fastest, f_gain, f_bend, f_ahead, f_speed, f_seen, f_state, f_line, f_pace, f_left, f_went, f_allSteps, f_allTicks, f_u, f_v, f_holds, a_letters, a_values, a_many, a_tool, a_began, a_limit, a_trips, a_force, a_origins, a_here, a_has, a_grouped, a_word, a_from, a_to, S, a_paces, a_dwells, a_ends, a_turn, a_first, a_second, a_centre, a_direction)) :
    wpY_straight post (f_lines, f_fastest, f_gain, f_bend, f_ahead, f_speed, f_seen, f_state, f_line, f_pace, f_left, f_went, f_allSteps, f_allTicks, f_u, f_v, f_holds, a_letters, a_values, a_many, a_tool, a_began, a_limit, a_trips, a_force, a_origins, a_here, a_has, a_grouped, a_word, a_from, a_to, a_steps, a_paces, a_dwells, a_ends, a_turn, a_first, a_second, a_centre, a_direction) (nI n) := by
  unfold sg_out at h6 h0
  have bd : ∀ a, a < 3 → sg_dd fr to a ≤ 101000 := by
    intro a ha
    have := rf a ha
    have := rt a ha
    unfold sg_dd; omega
  have b0 := bd 0 (by decide)
  have b1 := bd 1 (by decide)
  refine ⟨4, yw_s1 (a := 0) (m := 0) (s0 := a_steps) hn (by decide) (by omega) (hf 0 (by decide)) (ht 0 (by decide)) (rf 0 (by decide)) (rt 0 (by decide)) hS (fun _ _ => rfl) (fun e => h6 (by rw [e]; rfl)) (fun e0 S0 s1 s2 => ?_)⟩
  rw [Nat.max_eq_right (Nat.zero_le _)] at s1
  refine yw_s1 (a := 1) hn (by decide) b0 (hf 1 (by decide)) (ht 1 (by decide)) (rf 1 (by decide)) (rt 1 (by decide)) s1 s2 (fun e => h6 (by rw [e, e0]; rfl)) (fun e1 S1 s3 s4 => ?_)
  refine yw_s1 (a := 2) hn (by decide) (by omega) (hf 2 (by decide)) (ht 2 (by decide)) (rf 2 (by decide)) (rt 2 (by decide)) s3 s4 (fun e => h6 (by rw [e, e0, e1]; rfl)) (fun e2 S2 s5 s6 => ?_)
  exact br_t ix_33 (h0 (by rw [e0, e1, e2]; rfl) S2 s5 s6)
theorem yw_423 {post : Int32 → SY → Prop} {n : Nat} {r : Int32} {to : Nat → Int32} (hn : n < 30) (ht : ∀ a, a < 3 → a_to (3 * n + a) = to a)
    (h : ∀ he, (∀ a, a < 3 → he a = to a) → post r (f_lines, f_fastest, f_gain, f_bend, f_ahead, f_speed, f_seen, f_state, f_line, f_pace, f_left, f_went, f_allSteps, f_allTicks, f_u, f_v, f_holds, a_letters, a_values, a_many, a_tool, a_began, a_limit, a_trips, a_force, a_origins, he, a_has, a_grouped, a_word, a_from, a_to, a_steps, a_paces, a_dwells, a_ends, a_turn, a_first, a_second, a_centre, a_direction)) : ∃ m, wY_workOut_423 post (nI n) r f_lines f_fastest f_gain f_bend f_ahead f_speed f_seen f_state f_line f_pace f_left f_went f_allSteps f_allTicks f_u f_v f_holds m 0 a_letters a_values a_many a_tool a_began a_limit a_trips a_force a_origins a_here a_has a_grouped a_word a_from a_to a_steps a_paces a_dwells a_ends a_turn a_first a_second a_centre a_direction := by
  have st : ∀ (a f : Nat) (he : Nat → Int32), a < 3 → wY_workOut_423 post (nI n) r f_lines f_fastest f_gain f_bend f_ahead f_speed f_seen f_state f_line f_pace f_left f_went f_allSteps f_allTicks f_u f_v f_holds f (nI (a + 1)) a_letters a_values a_many a_tool a_began a_limit a_trips a_force a_origins (upd he a (to a)) a_has a_grouped a_word a_from a_to a_steps a_paces a_dwells a_ends a_turn a_first a_second a_centre a_direction →
      wY_workOut_423 post (nI n) r f_lines f_fastest f_gain f_bend f_ahead f_speed f_seen f_state f_line f_pace f_left f_went f_allSteps f_allTicks f_u f_v f_holds (f + 1) (nI a) a_letters a_values a_many a_tool a_began a_limit a_trips a_force a_origins he a_has a_grouped a_word a_from a_to a_steps a_paces a_dwells a_ends a_turn a_first a_second a_centre a_direction := by
    intro a f he ha k
    refine br_f (ix_3a ha) ?_
    rw [ix_y3, nI_clamp (show 3 * n + a < 2 ^ 31 by omega), nI_clamp (show a < 2 ^ 31 by omega), ht a ha]
    exact ⟨vp_in_nI (by omega) (by omega), vp_in_nI ha (by omega), nm_e (nm_r (nI_1 a) k)⟩
  refine ⟨4, st 0 3 a_here (by decide) (st 1 2 _ (by decide) (st 2 1 _ (by decide) (br_t ix_33 (h _ ?_))))⟩
  exact fun a ha => co_3 (P := fun a => upd (upd (upd a_here 0 (to 0)) 1 (to 1)) 2 (to 2) a = to a) rfl rfl rfl ha
theorem yw_31 {post : Int32 → SY → Prop} {H : Nat → Bool} {n a f : Nat} (hn : n < 30) (ha : a < 3) (hF : fc_FW a_force) (hH : ∀ i, i < 10 → a_has i = bo_I (H i))
    (h : ∀ T, T (3 * n + a) = pl_to a_force H a_word a_origins a_here a → (∀ k, k ≠ 3 * n + a → T k = a_to k) →
      wY_workOut_31 post (nI n) (a_force 5) f_lines f_fastest f_gain f_bend f_ahead f_speed f_seen f_state f_line f_pace f_left f_went f_allSteps f_allTicks f_u f_v f_holds f (nI (a + 1)) a_letters a_values a_many a_tool a_began a_limit a_trips a_force (pl_o1 a_force H a_word a_here a a_origins) a_here a_has a_grouped a_word (upd a_from (3 * n + a) (a_here a)) T a_steps a_paces a_dwells a_ends a_turn a_first a_second a_centre a_direction) :
    wY_workOut_31 post (nI n) (a_force 5) f_lines f_fastest f_gain f_bend f_ahead f_speed f_seen f_state f_line f_pace f_left f_went f_allSteps f_allTicks f_u f_v f_holds (f + 1) (nI a) a_letters a_values a_many a_tool a_began a_limit a_trips a_force a_origins a_here a_has a_grouped a_word a_from a_to a_steps a_paces a_dwells a_ends a_turn a_first a_second a_centre a_direction := by
  have i3 : vp_in (nI a) 3 := vp_in_nI ha (by omega)
  have i90 : vp_in (nI (3 * n + a)) 90 := vp_in_nI (by omega) (by omega)
  have cla : (nI a).toNatClampNeg = a := nI_clamp (by omega)
  have cl3 : (nI (3 * n + a)).toNatClampNeg = 3 * n + a := nI_clamp (by omega)
  have cl2 : (nI (2 + a)).toNatClampNeg = 2 + a := nI_clamp (by omega)
  have clo : (nI (pl_oi a_force a)).toNatClampNeg = pl_oi a_force a := nI_clamp (by have := ix_ol a_force ha; omega)
  have io : vp_in (nI (pl_oi a_force a)) 6 := vp_in_nI (ix_ol a_force ha) (by omega)
  refine br_f (ix_3a ha) ?_
  rw [ix_y3, ix_p2, cla, cl3, cl2]
  have o0 : ¬ (H (2 + a) = true ∧ a_force 5 = 92) → pl_o1 a_force H a_word a_here a a_origins = a_origins := fun z => if_neg z
  have g98 : ∀ sc, sc = pl_sc a_force → wY_workOut_98 post (wY_workOut_31 post (nI n) (a_force 5) f_lines f_fastest f_gain f_bend f_ahead f_speed f_seen f_state f_line f_pace f_left f_went f_allSteps f_allTicks f_u f_v f_holds f) (nI n) (a_force 5) (nI a) sc (a_word (2 + a)) f_lines f_fastest f_gain f_bend f_ahead f_speed f_seen f_state f_line f_pace f_left f_went f_allSteps f_allTicks f_u f_v f_holds a_letters a_values a_many a_tool a_began a_limit a_trips a_force a_origins a_here a_has a_grouped a_word (upd a_from (3 * n + a) (a_here a)) (upd a_to (3 * n + a) (a_here a)) a_steps a_paces a_dwells a_ends a_turn a_first a_second a_centre a_direction := by
    intro sc esc
    subst esc
    unfold wY_workOut_98
    rw [ix_y3, ix_p2, cla, cl3, cl2, hH (2 + a) (by omega), ix_oy hF]
    refine nm_e (nm_e ⟨vp_in_nI (by omega) (by omega), ?_⟩)
    rw [clo]
    unfold pl_to at h
    have tt : ∀ x, (∀ k, k ≠ 3 * n + a → upd (upd a_to (3 * n + a) (a_here a)) (3 * n + a) x k = a_to k) := fun x k hk => (pk_un hk).trans (pk_un hk)
    cases e : H (2 + a)
    · rw [if_pos e, o0 (fun z => by rw [e] at z; exact absurd z.1 (by decide))] at h
      exact br_t rfl (nm_r (nI_1 a) (h _ pk_us (fun k hk => pk_un hk)))
    · rw [if_neg (by rw [e]; decide)] at h
      refine br_f bo_ne (br_c (fun c => ⟨i3, io, nm_e (nm_r (nI_1 a) ?_)⟩) (fun c => ?_))
      · rw [if_pos c] at h
        have o1 : pl_o1 a_force H a_word a_here a a_origins = upd a_origins (pl_oi a_force a) (a_here a - a_word (2 + a) * pl_sc a_force) := if_pos ⟨e, c⟩
        rw [o1] at h
        exact h _ pk_us (fun k hk => pk_un hk)
      · rw [if_neg c, o0 (fun z => c z.2)] at h
        refine br_c (fun d => ⟨i90, nm_e (nm_r (nI_1 a) ?_)⟩) (fun d => br_c (fun g => ⟨i90, nm_e (nm_r (nI_1 a) ?_)⟩) (fun g => br_c (fun k => ⟨io, i90, nm_e (nm_r (nI_1 a) ?_)⟩) (fun k => ⟨i3, i90, nm_e (nm_r (nI_1 a) ?_)⟩)))
        · rw [if_pos d] at h; exact h _ pk_us (tt _)
        · rw [if_neg d, if_pos g] at h; exact h _ pk_us (tt _)
        · rw [if_neg d, if_neg g, if_pos k] at h; exact h _ pk_us (tt _)
        · rw [if_neg d, if_neg g, if_neg k] at h; exact h _ pk_us (tt _)
  refine ⟨i3, i90, nm_e ⟨i3, i90, nm_e ⟨vp_in_nI (by omega) (by omega), br_c (fun c => g98 _ ?_) (fun c => g98 _ ?_)⟩⟩⟩
  · unfold pl_sc; rw [if_pos c]
  · unfold pl_sc; rw [if_neg c]
end
end YWK
end
section
section YLN
theorem pl_too {F : Nat → Int32} {H : Nat → Bool} {W he he' og : Nat → Int32} {a b : Nat} : pl_to F H W (pl_o1 F H W he b og) he' a = pl_to F H W og he' a := by
  by_cases c : F 5 = 92
  · unfold pl_to
    rw [if_pos c, if_pos c]
  · have : pl_o1 F H W he b og = og := if_neg (fun z => c z.2)
    rw [this]
def pw_b5 (F : Nat → Int32) (H : Nat → Bool) (he to : Nat → Int32) (p q : Int) : Prop :=
  (H (5 + pl_fa F) = false ∧ H (5 + pl_fb F) = false ∨ H (2 + pl_ft F) = true ∨ H (5 + pl_ft F) = true) ∨ p * p + q * q = 0 ∨ 90000 < p * p + q * q ∨ ¬ ((to (pl_fa F)).toInt - (he (pl_fa F)).toInt - p) * ((to (pl_fa F)).toInt - (he (pl_fa F)).toInt - p) + ((to (pl_fb F)).toInt - (he (pl_fb F)).toInt - q) * ((to (pl_fb F)).toInt - (he (pl_fb F)).toInt - q) = p * p + q * q
def pw_wr (F : Nat → Int32) (H : Nat → Bool) (lim he to : Nat → Int32) (p q : Int) : Int32 × Nat :=
  pl_wk (decide (pl_tu F H = 3)) (p * p + q * q) ((he (pl_fa F)).toInt + p) ((he (pl_fb F)).toInt + q) (lim (pl_fa F)).toInt (lim (pl_fb F)).toInt ((to (pl_fa F)).toInt - (he (pl_fa F)).toInt - p) ((to (pl_fb F)).toInt - (he (pl_fb F)).toInt - q) 3000 0 (-p) (-q)
/-- what a line's laying out leaves in the reference: its own cells, and those below as they were -/
def yw_G (n : Nat) (F : Nat → Int32) (H : Nat → Bool) (W og he : Nat → Int32) (fs S : Int32) (p q : Int) (K : Nat) (fr0 to0 st0 pc0 dw0 en0 tu0 fi0 se0 ce0 og' he' fr to st pc dw en tu fi se ce : Nat → Int32) : Prop :=
  og' = pl_og F H W og he ∧ (∀ a, a < 3 → he' a = pl_to F H W og he a) ∧ (∀ a, a < 3 → fr (3 * n + a) = he a ∧ to (3 * n + a) = pl_to F H W og he a) ∧
  (st n = nI K ∧ pc n = pl_pc F S fs ∧ dw n = pl_dw F W ∧ en n = pl_en H W ∧ tu n = pl_tu F H) ∧
  (¬ pl_tu F H = 0 → fi n = nI (pl_fa F) ∧ se n = nI (pl_fb F) ∧ ce (2 * n) = ii_I ((he (pl_fa F)).toInt + p) ∧ ce (2 * n + 1) = ii_I ((he (pl_fb F)).toInt + q)) ∧
  (∀ k, k < 3 * n → fr k = fr0 k ∧ to k = to0 k) ∧ (∀ k, k < n → st k = st0 k ∧ pc k = pc0 k ∧ dw k = dw0 k ∧ en k = en0 k ∧ tu k = tu0 k ∧ fi k = fi0 k ∧ se k = se0 k) ∧ (∀ k, k < 2 * n → ce k = ce0 k)
section
variable {f_lines f_fastest f_gain f_bend f_ahead f_speed f_seen f_state f_line f_pace f_left f_went f_allSteps f_allTicks f_u f_v f_holds : Int32} {a_letters a_values a_many a_tool a_began a_limit a_trips a_force a_origins a_here a_has a_grouped a_word a_from a_to a_steps a_paces a_dwells a_ends a_turn a_first a_second a_centre a_direction : Nat → Int32}
theorem yw_l {post : Int32 → SY → Prop} {H : Nat → Bool} {W : Nat → Int32} {n : Nat} {p q : Int} (hn : n < 30) (hF : fc_FW a_force) (hH : ∀ i, i < 10 → a_has i = bo_I (H i)) (hW : ∀ i, i < 10 → H i = true → a_word i = W i) (h9 : a_force 5 = 4 → H 9 = true)
    (rhe : ∀ a, a < 3 → 0 ≤ (a_here a).toInt ∧ (a_here a).toInt ≤ (a_limit a).toInt) (rto : ∀ a, a < 3 → -100000 ≤ (pl_to a_force H W a_origins a_here a).toInt ∧ (pl_to a_force H W a_origins a_here a).toInt ≤ 100000) (hl : ∀ a, a < 3 → (a_limit a).toInt ≤ 1000)
    (hp : pl_ij a_force H W (pl_fa a_force) = ii_I p) (hq : pl_ij a_force H W (pl_fb a_force) = ii_I q) (rp : -15000 ≤ p ∧ p ≤ 15000) (rq : -15000 ≤ q ∧ q ≤ 15000)
    (hs6 : pl_tu a_force H = 0 → sg_out a_limit (pl_to a_force H W a_origins a_here) = true → ∀ og he fr to st pc dw en tu, (∀ k, k < 3 * n → to k = a_to k) → post 6 (f_lines, f_fastest, f_gain, f_bend, f_ahead, f_speed, f_seen, f_state, f_line, f_pace, f_left, f_went, f_allSteps, f_allTicks, f_u, f_v, f_holds, a_letters, a_values, a_many, a_tool, a_began, a_limit, a_trips, a_force, og, he, a_has, a_grouped, a_word, fr, to, st, pc, dw, en, tu, a_first, a_second, a_centre, a_direction))
    (hs0 : pl_tu a_force H = 0 → sg_out a_limit (pl_to a_force H W a_origins a_here) = false → ∀ og he fr to st pc dw en tu,
      yw_G n a_force H W a_origins a_here f_fastest f_speed p q (sg_mx a_here (pl_to a_force H W a_origins a_here)) a_from a_to a_steps a_paces a_dwells a_ends a_turn a_first a_second a_centre og he fr to st pc dw en tu a_first a_second a_centre →
      post 0 (f_lines, f_fastest, f_gain, f_bend, f_ahead, f_speed, f_seen, f_state, f_line, f_pace, f_left, f_went, f_allSteps, f_allTicks, f_u, f_v, f_holds, a_letters, a_values, a_many, a_tool, a_began, a_limit, a_trips, a_force, og, he, a_has, a_grouped, a_word, fr, to, st, pc, dw, en, tu, a_first, a_second, a_centre, a_direction))
    (hr5 : ¬ pl_tu a_force H = 0 → pw_b5 a_force H a_here (pl_to a_force H W a_origins a_here) p q → ∀ og he fr to st pc dw en tu, (∀ k, k < 3 * n → to k = a_to k) → post 5 (f_lines, f_fastest, f_gain, f_bend, f_ahead, f_speed, f_seen, f_state, f_line, f_pace, f_left, f_went, f_allSteps, f_allTicks, f_u, f_v, f_holds, a_letters, a_values, a_many, a_tool, a_began, a_limit, a_trips, a_force, og, he, a_has, a_grouped, a_word, fr, to, st, pc, dw, en, tu, a_first, a_second, a_centre, a_direction))
    (hr6 : ¬ pl_tu a_force H = 0 → ¬ pw_b5 a_force H a_here (pl_to a_force H W a_origins a_here) p q → (pw_wr a_force H a_limit a_here (pl_to a_force H W a_origins a_here) p q).1 = 6 →
      ∀ u v og he fr to st pc dw en tu fi se ce, (∀ k, k < 3 * n → to k = a_to k) → post 6 (f_lines, f_fastest, f_gain, f_bend, f_ahead, f_speed, f_seen, f_state, f_line, f_pace, f_left, f_went, f_allSteps, f_allTicks, u, v, f_holds, a_letters, a_values, a_many, a_tool, a_began, a_limit, a_trips, a_force, og, he, a_has, a_grouped, a_word, fr, to, st, pc, dw, en, tu, fi, se, ce, a_direction))
    (hr0 : ¬ pl_tu a_force H = 0 → ¬ pw_b5 a_force H a_here (pl_to a_force H W a_origins a_here) p q → (pw_wr a_force H a_limit a_here (pl_to a_force H W a_origins a_here) p q).1 = 0 →
      ∀ u v og he fr to st pc dw en tu fi se ce,
      yw_G n a_force H W a_origins a_here f_fastest f_speed p q (pw_wr a_force H a_limit a_here (pl_to a_force H W a_origins a_here) p q).2 a_from a_to a_steps a_paces a_dwells a_ends a_turn a_first a_second a_centre og he fr to st pc dw en tu fi se ce →
      post 0 (f_lines, f_fastest, f_gain, f_bend, f_ahead, f_speed, f_seen, f_state, f_line, f_pace, f_left, f_went, f_allSteps, f_allTicks, u, v, f_holds, a_letters, a_values, a_many, a_tool, a_began, a_limit, a_trips, a_force, og, he, a_has, a_grouped, a_word, fr, to, st, pc, dw, en, tu, fi, se, ce, a_direction)) :
    ∃ m, wY_workOut_31 post (nI n) (a_force 5) f_lines f_fastest f_gain f_bend f_ahead f_speed f_seen f_state f_line f_pace f_left f_went f_allSteps f_allTicks f_u f_v f_holds m 0 a_letters a_values a_many a_tool a_began a_limit a_trips a_force a_origins a_here a_has a_grouped a_word a_from a_to a_steps a_paces a_dwells a_ends a_turn a_first a_second a_centre a_direction := by
  have i30 : vp_in (nI n) 30 := vp_in_nI hn (by omega)
  have cl : (nI n).toNatClampNeg = n := nI_clamp (by omega)
  have toW : ∀ a, a < 3 → pl_to a_force H a_word a_origins a_here a = pl_to a_force H W a_origins a_here a := fun a ha => pl_toW (hW (2 + a) (by omega))
  have ogW : pl_og a_force H a_word a_origins a_here = pl_og a_force H W a_origins a_here := pl_ogW hW
  have rf : ∀ a, a < 3 → 0 ≤ (a_here a).toInt ∧ (a_here a).toInt ≤ 1000 := by
    intro a ha
    have := rhe a ha
    have := hl a ha
    omega
  -- the tail, behind the three axes
  have tail : ∀ fr to, (∀ a, a < 3 → fr (3 * n + a) = a_here a) → (∀ a, a < 3 → to (3 * n + a) = pl_to a_force H W a_origins a_here a) → (∀ k, k < 3 * n → fr k = a_from k ∧ to k = a_to k) →
      ∀ dw en pc, dw = pl_dw a_force W → en = pl_en H W → pc = pl_pc a_force f_speed f_fastest →
      wY_workOut_361 post (nI n) pc (nI n) f_lines f_fastest f_gain f_bend f_ahead f_speed f_seen f_state f_line f_pace f_left f_went f_allSteps f_allTicks f_u f_v f_holds a_letters a_values a_many a_tool a_began a_limit a_trips a_force (pl_og a_force H W a_origins a_here) a_here a_has a_grouped a_word fr to a_steps a_paces (upd a_dwells n dw) (upd a_ends n en) a_turn a_first a_second a_centre a_direction := by
    intro fr to f1 t1 ft dw en pc e1 e2 e3
    subst e1 e2 e3
    unfold wY_workOut_361
    rw [cl]
    refine ⟨i30, nm_e ⟨i30, nm_e ⟨i30, nm_e ?_⟩⟩⟩
    have str : pl_tu a_force H = 0 → wY_workOut_414 post (nI n) f_lines f_fastest f_gain f_bend f_ahead f_speed f_seen f_state f_line f_pace f_left f_went f_allSteps f_allTicks f_u f_v f_holds a_letters a_values a_many a_tool a_began a_limit a_trips a_force (pl_og a_force H W a_origins a_here) a_here a_has a_grouped a_word fr to (upd a_steps n 0) (upd a_paces n (pl_pc a_force f_speed f_fastest)) (upd a_dwells n (pl_dw a_force W)) (upd a_ends n (pl_en H W)) (upd a_turn n 0) a_first a_second a_centre a_direction := by
      intro t0
      unfold wY_workOut_414
      refine yw_st (fr := a_here) (to := pl_to a_force H W a_origins a_here) hn f1 t1 rf rto pk_us (fun e S => ?_) (fun e S s1 s2 => ?_)
      · exact yw_423 (to := pl_to a_force H W a_origins a_here) hn t1 (fun he _ => hs6 t0 e _ _ _ _ _ _ _ _ _ (fun k hk => (ft k hk).2))
      · refine yw_423 (to := pl_to a_force H W a_origins a_here) hn t1 (fun he hhe => hs0 t0 e _ _ _ _ _ _ _ _ _ ?_)
        refine ⟨rfl, hhe, fun a ha => ⟨f1 a ha, t1 a ha⟩, ⟨s1, pk_us, pk_us, pk_us, by rw [t0]; exact pk_us⟩, fun z => absurd t0 z, ft, fun k hk => ?_, fun _ _ => rfl⟩
        exact ⟨(s2 k (by omega)).trans (pk_un (by omega)), pk_un (by omega), pk_un (by omega), pk_un (by omega), pk_un (by omega), rfl, rfl⟩
    refine yl_mv hF hH (br_c (fun c => str ?_) (fun c => br_c (fun d => str ?_) (fun d => ⟨i30, ?_⟩)))
    · unfold pl_tu
      rw [if_neg (fun z => by rw [bo_yf c] at z; exact absurd z.1 (by decide))]
    · unfold pl_tu
      rw [if_neg (fun z => (fv_0y hF).mp d z.2)]
    · have tu : pl_tu a_force H = a_force 0 := by
        unfold pl_tu
        rw [if_pos ⟨bo_nf c, Decidable.byContradiction (fun z => d ((fv_0y hF).mpr z))⟩]
      have tn : ¬ pl_tu a_force H = 0 := by
        rw [tu]; intro z; rw [z] at d; exact d (by decide)
      have wre : ∀ w, w = pl_wk (decide (a_force 0 = 3)) (p * p + q * q) ((a_here (pl_fa a_force)).toInt + p) ((a_here (pl_fb a_force)).toInt + q) (a_limit (pl_fa a_force)).toInt (a_limit (pl_fb a_force)).toInt ((pl_to a_force H W a_origins a_here (pl_fa a_force)).toInt - (a_here (pl_fa a_force)).toInt - p) ((pl_to a_force H W a_origins a_here (pl_fb a_force)).toInt - (a_here (pl_fb a_force)).toInt - q) 3000 0 (-p) (-q) → w = pw_wr a_force H a_limit a_here (pl_to a_force H W a_origins a_here) p q := by
        intro w e
        unfold pw_wr
        rw [tu]; exact e
      refine nm_e ?_
      have hfa3 : pl_fa a_force < 3 ∧ pl_fb a_force < 3 := by
        unfold pl_fa pl_fb
        rcases fv_1 hF with e | e | e <;> rw [e] <;> decide
      have ijW : ∀ a, a < 3 → pl_ij a_force H a_word a = pl_ij a_force H W a := by
        intro a ha
        unfold pl_ij
        cases e : H (5 + a)
        · rfl
        · rw [hW (5 + a) (by omega) e]
      refine ys_ro (he := a_here) (to := pl_to a_force H W a_origins a_here) (p := p) (q := q) hn hF hH pk_us pk_us (fun _ _ => rfl) t1 rhe rto hl ((ijW _ hfa3.1).trans hp) ((ijW _ hfa3.2).trans hq) rp rq (fun b => ?_) (fun b w ew => ⟨fun z u v S fi se ce => ?_, fun z u v S s1 s2 => ?_⟩)
      · exact yw_423 (to := pl_to a_force H W a_origins a_here) hn t1 (fun he _ => hr5 tn b _ _ _ _ _ _ _ _ _ (fun k hk => (ft k hk).2))
      · rw [wre w ew] at z
        exact yw_423 (to := pl_to a_force H W a_origins a_here) hn t1 (fun he _ => hr6 tn b z _ _ _ _ _ _ _ _ _ _ _ _ _ _ (fun k hk => (ft k hk).2))
      · rw [wre w ew] at z s1
        refine yw_423 (to := pl_to a_force H W a_origins a_here) hn t1 (fun he hhe => hr0 tn b z _ _ _ _ _ _ _ _ _ _ _ _ _ _ ?_)
        refine ⟨rfl, hhe, fun a ha => ⟨f1 a ha, t1 a ha⟩, ⟨s1, pk_us, pk_us, pk_us, by rw [tu]; exact pk_us⟩, fun _ => ⟨pk_us, pk_us, by rw [pk_un (by omega), pk_us], pk_us⟩, ft, fun k hk => ?_, fun k hk => ?_⟩
        · exact ⟨(s2 k (by omega)).trans (pk_un (by omega)), pk_un (by omega), pk_un (by omega), pk_un (by omega), (pk_un (by omega)).trans (pk_un (by omega)), pk_un (by omega), pk_un (by omega)⟩
        · exact (pk_un (by omega)).trans (pk_un (by omega))
  have mid : ∀ fr to, (∀ a, a < 3 → fr (3 * n + a) = a_here a) → (∀ a, a < 3 → to (3 * n + a) = pl_to a_force H W a_origins a_here a) → (∀ k, k < 3 * n → fr k = a_from k ∧ to k = a_to k) →
      ∀ dw, dw = pl_dw a_force W → wY_workOut_273 post (nI n) (a_force 5) dw (nI n) f_lines f_fastest f_gain f_bend f_ahead f_speed f_seen f_state f_line f_pace f_left f_went f_allSteps f_allTicks f_u f_v f_holds a_letters a_values a_many a_tool a_began a_limit a_trips a_force (pl_og a_force H W a_origins a_here) a_here a_has a_grouped a_word fr to a_steps a_paces a_dwells a_ends a_turn a_first a_second a_centre a_direction := by
    intro fr to f1 t1 ft dw e1
    have g306 : ∀ en, en = pl_en H W → wY_workOut_306 post (nI n) (a_force 5) en (nI n) f_lines f_fastest f_gain f_bend f_ahead f_speed f_seen f_state f_line f_pace f_left f_went f_allSteps f_allTicks f_u f_v f_holds a_letters a_values a_many a_tool a_began a_limit a_trips a_force (pl_og a_force H W a_origins a_here) a_here a_has a_grouped a_word fr to a_steps a_paces (upd a_dwells n dw) a_ends a_turn a_first a_second a_centre a_direction := by
      intro en e2
      have t361 := fun pc => tail fr to f1 t1 ft dw en pc e1 e2
      unfold wY_workOut_306 wY_workOut_322 wY_workOut_327 wY_workOut_350
      rw [cl]
      have pf : (a_force 5 = 28 ∨ a_force 0 = 0 ∨ f_fastest < f_speed) → f_fastest = pl_pc a_force f_speed f_fastest := by
        intro z; unfold pl_pc; rw [if_pos z]
      refine ⟨i30, nm_e (br_c (fun c => br_f (by decide) (t361 _ (pf (Or.inl c)))) (fun c => br_c (fun d => br_f (by decide) (t361 _ (pf (Or.inr (Or.inl d))))) (fun d => br_t rfl (br_c (fun g => t361 _ ?_) (fun g => t361 _ (pf (Or.inr (Or.inr (Int32.not_le.mp g)))))))))⟩
      unfold pl_pc
      rw [if_neg]
      rintro (z | z | z)
      · exact c z
      · exact d z
      · exact Int32.not_lt.mpr g z
    unfold wY_workOut_273
    rw [cl, hH 1 (by decide)]
    unfold pl_en at g306
    refine ⟨i30, nm_e (br_c (fun c => ?_) (fun c => br_c (fun d => ?_) (fun d => ?_)))⟩
    · rw [if_pos (bo_yf c)] at g306; exact g306 _ rfl
    · rw [if_neg (by rw [bo_nf c]; decide), if_pos ((hW 1 (by decide) (bo_nf c)).symm.trans d)] at g306; exact g306 _ rfl
    · rw [if_neg (by rw [bo_nf c]; decide), if_neg (fun z => d ((hW 1 (by decide) (bo_nf c)).trans z))] at g306; exact g306 _ rfl
  refine ⟨4, yw_31 (a := 0) (H := H) hn (by decide) hF hH (fun T0 p0 q0 => yw_31 (a := 1) (H := H) hn (by decide) hF hH (fun T1 p1 q1 => yw_31 (a := 2) (H := H) hn (by decide) hF hH (fun T2 p2 q2 => ?_)))⟩
  rw [pl_too, toW 1 (by decide)] at p1
  rw [pl_too, pl_too, toW 2 (by decide)] at p2
  rw [toW 0 (by decide)] at p0
  have m := mid (upd (upd (upd a_from (3 * n + 0) (a_here 0)) (3 * n + 1) (a_here 1)) (3 * n + 2) (a_here 2)) T2
    (fun a ha => co_3 (P := fun a => upd (upd (upd a_from (3 * n + 0) (a_here 0)) (3 * n + 1) (a_here 1)) (3 * n + 2) (a_here 2) (3 * n + a) = a_here a) (by rw [pk_un (by omega), pk_un (by omega), pk_us]) (by rw [pk_un (by omega), pk_us]) pk_us ha)
    (fun a ha => co_3 (P := fun a => T2 (3 * n + a) = pl_to a_force H W a_origins a_here a) ((q2 _ (by omega)).trans ((q1 _ (by omega)).trans p0)) ((q2 _ (by omega)).trans p1) p2 ha)
    (fun k hk => ⟨(pk_un (by omega)).trans ((pk_un (by omega)).trans (pk_un (by omega))), (q2 k (by omega)).trans ((q1 k (by omega)).trans (q0 k (by omega)))⟩)
  rw [← ogW] at m
  refine br_t ix_33 (br_c (fun c => m _ ?_) (fun c => m _ ?_))
  · unfold pl_dw; rw [if_pos c]; exact hW 9 (by decide) (h9 c)
  · unfold pl_dw; rw [if_neg c]
end
end YLN
end
section
section YPL
def yz_T (L V M s0 : Nat → Int32) (n : Nat) (to : Nat → Int32) : Prop := ∀ m, m < n → ∀ a, a < 3 → to (3 * m + a) = px_he L V M s0 (m + 1) a
/-- the reference's layout of the lines below n, by the picture -/
def yz_L (L V M lim : Nat → Int32) (fs : Int32) (s0 : Nat → Int32) (n : Nat) (fr to st pc dw en tu fi se ce : Nat → Int32) : Prop :=
  (∀ m, m < n → ∀ a, a < 3 → fr (3 * m + a) = px_he L V M s0 m a ∧ to (3 * m + a) = px_he L V M s0 (m + 1) a) ∧
  (∀ m, m < n → st m = nI (px_st L V M lim s0 m) ∧ pc m = px_pc L V M fs s0 m ∧ dw m = px_dw L V M s0 m ∧ en m = px_en L V M m ∧ tu m = px_tu L V M s0 m ∧
    (¬ px_tu L V M s0 m = 0 → fi m = nI (pl_fa (px_F L V M s0 m)) ∧ se m = nI (pl_fb (px_F L V M s0 m)) ∧ ce (2 * m) = ii_I (px_c L V M s0 m) ∧ ce (2 * m + 1) = ii_I (px_d L V M s0 m)))
theorem sg_oute {lim to to' : Nat → Int32} (h : ∀ a, a < 3 → to a = to' a) : sg_out lim to = sg_out lim to' := by
  unfold sg_out sg_ou
  rw [h 0 (by decide), h 1 (by decide), h 2 (by decide)]
theorem sg_mxe {fr fr' to to' : Nat → Int32} (h : ∀ a, a < 3 → to a = to' a) (h' : ∀ a, a < 3 → fr a = fr' a) : sg_mx fr to = sg_mx fr' to' := by
  unfold sg_mx sg_dd
  rw [h 0 (by decide), h 1 (by decide), h 2 (by decide), h' 0 (by decide), h' 1 (by decide), h' 2 (by decide)]
theorem pl_mi34 (F : Nat → Int32) (H : Nat → Bool) (S : Int32) (h : ¬ pl_mi F H S = 0) : ¬ pl_mi F H S ≤ 0 := by
  unfold pl_mi at h ⊢
  split
  · decide
  · split
    · decide
    · split
      · decide
      · split
        · decide
        · split
          · decide
          · rename_i c1 c2 c3 c4 c5
            rw [if_neg c1, if_neg c2, if_neg c3, if_neg c4, if_neg c5] at h
            exact absurd rfl h
section
variable {f_lines f_fastest f_gain f_bend f_ahead f_speed f_seen f_state f_line f_pace f_left f_went f_allSteps f_allTicks f_u f_v f_holds : Int32} {a_letters a_values a_many a_tool a_began a_limit a_trips a_force a_origins a_here a_has a_grouped a_word a_from a_to a_steps a_paces a_dwells a_ends a_turn a_first a_second a_centre a_direction : Nat → Int32}
theorem yz_106 {post : Int32 → SY → Prop} {s0 : Nat → Int32} {l : Nat} (hl : l ≤ 30) (el : f_lines = nI l) (wf : ci_WF a_letters a_values a_many a_limit)
    (hs : ∀ a, a < 3 → 0 ≤ (s0 a).toInt ∧ (s0 a).toInt ≤ (a_limit a).toInt)
    (h : ∀ N r, ci_R a_letters a_values a_many a_limit s0 l N r → ∀ sp u v F O he hs gr wd fr to st pc dw en tu fi se ce, (∀ g, 6 ≤ g → F g = 0) →
      yz_T a_letters a_values a_many s0 N to → (r = 0 → yz_L a_letters a_values a_many a_limit f_fastest s0 N fr to st pc dw en tu fi se ce) →
      post r (f_lines, f_fastest, f_gain, f_bend, f_ahead, sp, (nI N), f_state, f_line, f_pace, f_left, f_went, f_allSteps, f_allTicks, u, v, f_holds, a_letters, a_values, a_many, a_tool, a_began, a_limit, a_trips, F, O, he, hs, gr, wd, fr, to, st, pc, dw, en, tu, fi, se, ce, a_direction)) :
    ∀ d n sp u v F O he hs gr wd fr to st pc dw en tu fi se ce, n + d = l → (∀ m, m < n → px_why a_letters a_values a_many a_limit s0 m = 0) → (∀ m, m + 1 < n → ¬ px_en a_letters a_values a_many m = 2) →
      (∀ g, g ≠ 5 → F g = (px_cx a_letters a_values a_many s0 n).1 g) → sp = (px_cx a_letters a_values a_many s0 n).2.1 → (∀ i, i < 6 → O i = px_og a_letters a_values a_many s0 n i) → (∀ a, a < 3 → he a = px_he a_letters a_values a_many s0 n a) →
      yz_L a_letters a_values a_many a_limit f_fastest s0 n fr to st pc dw en tu fi se ce →
      wY_plan_106 post (d + 1) f_lines f_fastest f_gain f_bend f_ahead sp (nI n) f_state f_line f_pace f_left f_went f_allSteps f_allTicks u v f_holds a_letters a_values a_many a_tool a_began a_limit a_trips F O he hs gr wd fr to st pc dw en tu fi se ce a_direction := by
  intro d
  induction d with
  | zero =>
    intro n sp u v F O he hs gr wd fr to st pc dw en tu fi se ce hn hw hen hF hsp hO hhe hY
    obtain rfl : n = l := by omega
    refine br_t (by rw [el]; exact nI_le (Nat.le_refl _) (by omega)) (h n 0 ⟨Nat.le_refl _, hw, hen, Or.inl ⟨rfl, Or.inl rfl⟩⟩ _ _ _ _ _ _ _ _ _ _ _ _ _ _ _ _ _ _ _ (fun g hg => (hF g (by omega)).trans (px_Fhi _ _ _ _ n g hg)) (fun m hm a ha => (hY.1 m hm a ha).2) (fun _ => hY))
  | succ d ih =>
    intro n sp u v F O he hs' gr wd fr to st pc dw en tu fi se ce hn hw hen hF hsp hO hhe hY
    have hn30 : n < 30 := by omega
    have Fhi : ∀ g, 6 ≤ g → F g = 0 := fun g hg => (hF g (by omega)).trans (px_Fhi _ _ _ _ n g hg)
    obtain ⟨eM, hM8⟩ := wf.2.2.1 n
    have ci := ci_n wf hs n hw
    have T0 : yz_T a_letters a_values a_many s0 n to := fun m hm a ha => (hY.1 m hm a ha).2
    -- the line itself
    have g139 : (∀ m, n = m + 1 → ¬ px_en a_letters a_values a_many m = 2) → wY_plan_139 post (wY_plan_106 post (d + 1)) f_lines f_fastest f_gain f_bend f_ahead sp (nI n) f_state f_line f_pace f_left f_went f_allSteps f_allTicks u v f_holds a_letters a_values a_many a_tool a_began a_limit a_trips F O he hs' gr wd fr to st pc dw en tu fi se ce a_direction := by
      intro hen2
      have bad : ∀ r, r = px_why a_letters a_values a_many a_limit s0 n → ¬ r = 0 → ∀ sp u v F O he hs gr wd fr to st pc dw en tu fi se ce, (∀ g, 6 ≤ g → F g = 0) → yz_T a_letters a_values a_many s0 n to →
          post (10 * nI n + r) (f_lines, f_fastest, f_gain, f_bend, f_ahead, sp, (nI n), f_state, f_line, f_pace, f_left, f_went, f_allSteps, f_allTicks, u, v, f_holds, a_letters, a_values, a_many, a_tool, a_began, a_limit, a_trips, F, O, he, hs, gr, wd, fr, to, st, pc, dw, en, tu, fi, se, ce, a_direction) := by
        intro r er nr sp u v F O he hs gr wd fr to st pc dw en tu fi se ce hF hT
        subst er
        have R : ci_R a_letters a_values a_many a_limit s0 l n (10 * nI n + px_why a_letters a_values a_many a_limit s0 n) := ⟨by omega, hw, hen, Or.inr ⟨by omega, nr, hen2, rfl⟩⟩
        refine h n _ R sp u v F O he hs gr wd fr to st pc dw en tu fi se ce hF hT (fun z => ?_)
        exfalso
        exact ci_R10 hn30 nr z
      unfold wY_plan_139 wpY_workOut
      refine yl_rw (c := px_n a_many n) hn30 hM8 eM wf.1 (fun hs2 gs2 hh => ?_)
      have eF : rd_fo a_letters a_values F (8 * n) (px_n a_many n) = px_F a_letters a_values a_many s0 n := rd_foe hF _
      have eS : rd_sp a_letters a_values sp (8 * n) (px_n a_many n) = px_S a_letters a_values a_many s0 n := by rw [hsp]; rfl
      rw [eF, eS]
      have hFW := fc_F a_letters a_values a_many s0 n
      have hH : ∀ i, i < 10 → hs2 i = bo_I (px_H a_letters a_many n i) := hh
      have hW : ∀ i, i < 10 → px_H a_letters a_many n i = true → rd_wd a_letters a_values wd (8 * n) (px_n a_many n) i = px_W a_letters a_values a_many n i := fun i _ z => rd_wde _ i z
      generalize rd_wd a_letters a_values wd (8 * n) (px_n a_many n) = G' at hW ⊢
      have Fhi' : ∀ g, 6 ≤ g → px_F a_letters a_values a_many s0 n g = 0 := px_Fhi _ _ _ _ (n + 1)
      dsimp only
      by_cases e1 : rd_no a_letters a_values (8 * n) (px_n a_many n) = true
      · rw [if_pos e1]
        refine br_f (by decide) ?_
        unfold wY_workOut_15
        refine br_f (by decide) (br_f (by decide) (bad 1 ?_ (by decide) _ _ _ _ _ _ _ _ _ _ _ _ _ _ _ _ _ _ _ Fhi' T0))
        unfold px_why
        rw [if_pos e1]
      rw [if_neg e1]
      by_cases e2 : rd_tw a_letters a_values (8 * n) (px_n a_many n) = true
      · rw [if_pos e2]
        refine br_f (by decide) ?_
        unfold wY_workOut_15
        refine br_f (by decide) (br_f (by decide) (bad 2 ?_ (by decide) _ _ _ _ _ _ _ _ _ _ _ _ _ _ _ _ _ _ _ Fhi' T0))
        unfold px_why
        rw [if_neg e1, if_pos e2]
      rw [if_neg e2]
      refine br_t rfl (yl_mi (H := px_H a_letters a_many n) hFW hH ?_)
      by_cases em : pl_mi (px_F a_letters a_values a_many s0 n) (px_H a_letters a_many n) (px_S a_letters a_values a_many s0 n) = 0
      · rw [em]
        unfold wY_workOut_15
        refine br_t (by decide) (nm_e ?_)
        have why3 : ∀ r, r = (if px_tu a_letters a_values a_many s0 n = 0 then (if px_out a_letters a_values a_many a_limit s0 n = true then 6 else 0) else if px_b5 a_letters a_values a_many s0 n = true then 5 else (px_wr a_letters a_values a_many a_limit s0 n).1) → r = px_why a_letters a_values a_many a_limit s0 n := by
          intro r er
          unfold px_why
          rw [if_neg e1, if_neg e2, if_neg (fun z => z em)]
          exact er
        have hto : ∀ a, a < 3 → pl_to (px_F a_letters a_values a_many s0 n) (px_H a_letters a_many n) (px_W a_letters a_values a_many n) O he a = px_he a_letters a_values a_many s0 (n + 1) a := by
          intro a ha
          rw [pl_toh (he' := px_he a_letters a_values a_many s0 n) (hhe a ha), pl_too2 (hO _ (ix_ol _ ha))]
          rfl
        have hog : ∀ i, i < 6 → pl_og (px_F a_letters a_values a_many s0 n) (px_H a_letters a_many n) (px_W a_letters a_values a_many n) O he i = px_og a_letters a_values a_many s0 (n + 1) i := by
          intro i hi
          rw [pl_ogh (he' := px_he a_letters a_values a_many s0 n) hhe]
          exact pl_o1e (fun i hi => pl_o1e (fun i hi => pl_o1e hO i hi) i hi) i hi
        obtain ⟨ta, tb, _, _⟩ := fv_tr hFW
        have eout : sg_out a_limit (pl_to (px_F a_letters a_values a_many s0 n) (px_H a_letters a_many n) (px_W a_letters a_values a_many n) O he) = px_out a_letters a_values a_many a_limit s0 n := sg_oute hto
        have emx : sg_mx he (pl_to (px_F a_letters a_values a_many s0 n) (px_H a_letters a_many n) (px_W a_letters a_values a_many n) O he) = px_mx a_letters a_values a_many s0 n := sg_mxe hto hhe
        have eb5 : pw_b5 (px_F a_letters a_values a_many s0 n) (px_H a_letters a_many n) he (pl_to (px_F a_letters a_values a_many s0 n) (px_H a_letters a_many n) (px_W a_letters a_values a_many n) O he) (px_p a_letters a_values a_many s0 n) (px_q a_letters a_values a_many s0 n) ↔ px_b5 a_letters a_values a_many s0 n = true := by
          unfold pw_b5 px_b5
          rw [decide_eq_true_iff, hto _ ta, hto _ tb, hhe _ ta, hhe _ tb]
          rfl
        have ewr : pw_wr (px_F a_letters a_values a_many s0 n) (px_H a_letters a_many n) a_limit he (pl_to (px_F a_letters a_values a_many s0 n) (px_H a_letters a_many n) (px_W a_letters a_values a_many n) O he) (px_p a_letters a_values a_many s0 n) (px_q a_letters a_values a_many s0 n) = px_wr a_letters a_values a_many a_limit s0 n := by
          unfold pw_wr
          rw [hto _ ta, hto _ tb, hhe _ ta, hhe _ tb]
          rfl
        have hb5 : ¬ pw_b5 (px_F a_letters a_values a_many s0 n) (px_H a_letters a_many n) he (pl_to (px_F a_letters a_values a_many s0 n) (px_H a_letters a_many n) (px_W a_letters a_values a_many n) O he) (px_p a_letters a_values a_many s0 n) (px_q a_letters a_values a_many s0 n) → ¬ px_b5 a_letters a_values a_many s0 n = true := fun z w => z (eb5.mpr w)
        -- the next turn of the loop
        have good : px_why a_letters a_values a_many a_limit s0 n = 0 → ∀ K, K = px_st a_letters a_values a_many a_limit s0 n → ∀ u v og' he' fr' to' st' pc' dw' en' tu' fi' se' ce',
            yw_G n (px_F a_letters a_values a_many s0 n) (px_H a_letters a_many n) (px_W a_letters a_values a_many n) O he f_fastest (px_S a_letters a_values a_many s0 n) (px_p a_letters a_values a_many s0 n) (px_q a_letters a_values a_many s0 n) K fr to st pc dw en tu fi se ce og' he' fr' to' st' pc' dw' en' tu' fi' se' ce' →
            wY_plan_106 post (d + 1) f_lines f_fastest f_gain f_bend f_ahead (px_S a_letters a_values a_many s0 n) (nI (n + 1)) f_state f_line f_pace f_left f_went f_allSteps f_allTicks u v f_holds a_letters a_values a_many a_tool a_began a_limit a_trips (px_F a_letters a_values a_many s0 n) og' he' hs2 gs2 G' fr' to' st' pc' dw' en' tu' fi' se' ce' a_direction := by
          intro w0 K eK u v og' he' fr' to' st' pc' dw' en' tu' fi' se' ce' G
          subst eK
          obtain ⟨G1, G2, G3, ⟨G4, G5, G6, G7, G8⟩, G9, G10, G11, G12⟩ := G
          refine ih (n + 1) _ _ _ _ _ _ _ _ _ _ _ _ _ _ _ _ _ _ _ (by omega) ?_ ?_ (fun g _ => rfl) rfl ?_ ?_ ⟨fun m hm a ha => ?_, fun m hm => ?_⟩
          · intro m hm
            by_cases e : m = n
            · subst e; exact w0
            · exact hw m (by omega)
          · intro m hm
            by_cases e : m + 1 = n
            · exact hen2 m e.symm
            · exact hen m (by omega)
          · rw [G1]; exact hog
          · exact fun a ha => (G2 a ha).trans (hto a ha)
          · by_cases e : m = n
            · subst e
              exact ⟨((G3 a ha).1).trans (hhe a ha), ((G3 a ha).2).trans (hto a ha)⟩
            · have y := G10 (3 * m + a) (by omega)
              rw [y.1, y.2]
              exact hY.1 m (by omega) a ha
          · by_cases e : m = n
            · subst e
              refine ⟨G4, G5, G6, G7, G8, fun z => ?_⟩
              obtain ⟨y1, y2, y3, y4⟩ := G9 z
              rw [hhe _ ta] at y3
              rw [hhe _ tb] at y4
              exact ⟨y1, y2, y3, y4⟩
            · obtain ⟨y1, y2, y3, y4, y5, y6, y7⟩ := G11 m (by omega)
              have y8 := G12 (2 * m) (by omega)
              have y9 := G12 (2 * m + 1) (by omega)
              rw [y1, y2, y3, y4, y5, y6, y7, y8, y9]
              exact hY.2 m (by omega)
        have low : ∀ t, (∀ k, k < 3 * n → t k = to k) → yz_T a_letters a_values a_many s0 n t := fun t ht m hm a ha => (ht _ (by omega)).trans (T0 m hm a ha)
        refine yw_l (H := px_H a_letters a_many n) (W := px_W a_letters a_values a_many n) (p := px_p a_letters a_values a_many s0 n) (q := px_q a_letters a_values a_many s0 n)
          hn30 hFW hH hW ?_ ?_ ?_ (fun a ha => (wf.2.2.2 a ha).2) (ii_t _).symm (ii_t _).symm (pf_ij hFW (ci_W wf n) _) (pf_ij hFW (ci_W wf n) _)
          (fun t o og' he' fr' to' st' pc' dw' en' tu' ht => ?_) (fun t o og' he' fr' to' st' pc' dw' en' tu' G => ?_) (fun t b og' he' fr' to' st' pc' dw' en' tu' ht => ?_)
          (fun t b w u v og' he' fr' to' st' pc' dw' en' tu' fi' se' ce' ht => ?_) (fun t b w u v og' he' fr' to' st' pc' dw' en' tu' fi' se' ce' G => ?_)
        · intro c
          obtain ⟨q1, _⟩ := mi_3 (post := fun r => r = 0) em
          cases e : px_H a_letters a_many n 9
          · exact absurd (q1 (Or.inr ⟨e, c⟩)) (by decide)
          · rfl
        · intro a ha; rw [hhe a ha]; exact ci.2.2 a ha
        · intro a ha; rw [hto a ha]; have := ci_to wf ci a ha; omega
        · rw [eout] at o
          refine br_f (by decide) (bad 6 (why3 6 ?_) (by decide) _ _ _ _ _ _ _ _ _ _ _ _ _ _ _ _ _ _ _ Fhi' (low _ ht))
          rw [if_pos (show px_tu a_letters a_values a_many s0 n = 0 from t), if_pos o]
        · rw [eout] at o
          rw [emx] at G
          refine br_t (by decide) (nm_r (nI_1 n) (good ?_ _ ?_ _ _ _ _ _ _ _ _ _ _ _ _ _ _ G))
          · refine (why3 0 ?_).symm
            rw [if_pos (show px_tu a_letters a_values a_many s0 n = 0 from t), if_neg (by rw [o]; decide)]
          · unfold px_st
            rw [if_pos (show px_tu a_letters a_values a_many s0 n = 0 from t)]
        · refine br_f (by decide) (bad 5 (why3 5 ?_) (by decide) _ _ _ _ _ _ _ _ _ _ _ _ _ _ _ _ _ _ _ Fhi' (low _ ht))
          rw [if_neg (show ¬ px_tu a_letters a_values a_many s0 n = 0 from t), if_pos (eb5.mp b)]
        · rw [ewr] at w
          refine br_f (by decide) (bad 6 (why3 6 ?_) (by decide) _ _ _ _ _ _ _ _ _ _ _ _ _ _ _ _ _ _ _ Fhi' (low _ ht))
          rw [if_neg (show ¬ px_tu a_letters a_values a_many s0 n = 0 from t), if_neg (hb5 b), w]
        · rw [ewr] at w G
          refine br_t (by decide) (nm_r (nI_1 n) (good ?_ _ ?_ _ _ _ _ _ _ _ _ _ _ _ _ _ _ G))
          · refine (why3 0 ?_).symm
            rw [if_neg (show ¬ px_tu a_letters a_values a_many s0 n = 0 from t), if_neg (hb5 b), w]
          · unfold px_st
            rw [if_neg (show ¬ px_tu a_letters a_values a_many s0 n = 0 from t)]
      · unfold wY_workOut_15
        refine br_f (pl_mi34 _ _ _ em) (br_f (pl_mi34 _ _ _ em) (bad _ ?_ em _ _ _ _ _ _ _ _ _ _ _ _ _ _ _ _ _ _ _ Fhi' T0))
        unfold px_why
        rw [if_neg e1, if_neg e2, if_pos em]
    refine br_f (by rw [el]; exact nI_ge (by omega) (by omega)) (br_c (fun c => g139 ?_) (fun c => ?_))
    · intro m hm
      exfalso
      exact nI_ne0 (n := n) (by omega) (by omega) c
    · have n0 : 0 < n := by
        rcases Nat.eq_zero_or_pos n with z | z
        · subst z; exact absurd rfl c
        · exact z
      obtain ⟨k, rfl⟩ : ∃ k, n = k + 1 := ⟨n - 1, by omega⟩
      rw [nI_pred, nI_clamp (show k < 2 ^ 31 by omega)]
      have ek : en k = px_en a_letters a_values a_many k := (hY.2 k (by omega)).2.2.2.1
      rw [ek]
      refine ⟨vp_in_nI (by omega) (by omega), br_c (fun z => ?_) (fun z => g139 ?_)⟩
      · exact h (k + 1) 0 ⟨by omega, hw, hen, Or.inl ⟨rfl, Or.inr ⟨k, rfl, z⟩⟩⟩ _ _ _ _ _ _ _ _ _ _ _ _ _ _ _ _ _ _ _ Fhi T0 (fun _ => hY)
      · intro m hm
        obtain rfl : m = k := by omega
        exact z
end
end YPL
end
section
section YP2
section
variable {f_lines f_fastest f_gain f_bend f_ahead f_speed f_seen f_state f_line f_pace f_left f_went f_allSteps f_allTicks f_u f_v f_holds : Int32} {a_letters a_values a_many a_tool a_began a_limit a_trips a_force a_origins a_here a_has a_grouped a_word a_from a_to a_steps a_paces a_dwells a_ends a_turn a_first a_second a_centre a_direction : Nat → Int32}
/-- the reference plans: from where the tool is (standing) or where the program began -/
theorem yz_pl {post : Int32 → SY → Prop} {s0 : Nat → Int32} {l : Nat} (hl : l ≤ 30) (el : f_lines = nI l) (wf : ci_WF a_letters a_values a_many a_limit)
    (hs : ∀ a, a < 3 → 0 ≤ (s0 a).toInt ∧ (s0 a).toInt ≤ (a_limit a).toInt) (hF : ∀ g, 6 ≤ g → a_force g = 0)
    (hst : (f_state = 0 ∧ ∀ a, a < 3 → s0 a = a_tool a) ∨ (¬ f_state = 0 ∧ ∀ a, a < 3 → s0 a = a_began a))
    (h : ∀ N r, ci_R a_letters a_values a_many a_limit s0 l N r → ∀ sp u v F O he hs gr wd fr to st pc dw en tu fi se ce, (∀ g, 6 ≤ g → F g = 0) →
      yz_T a_letters a_values a_many s0 N to → (r = 0 → yz_L a_letters a_values a_many a_limit f_fastest s0 N fr to st pc dw en tu fi se ce) →
      post r (f_lines, f_fastest, f_gain, f_bend, f_ahead, sp, (nI N), f_state, f_line, f_pace, f_left, f_went, f_allSteps, f_allTicks, u, v, f_holds, a_letters, a_values, a_many, a_tool, a_began, a_limit, a_trips, F, O, he, hs, gr, wd, fr, to, st, pc, dw, en, tu, fi, se, ce, a_direction)) :
    wpY_plan post (f_lines, f_fastest, f_gain, f_bend, f_ahead, f_speed, f_seen, f_state, f_line, f_pace, f_left, f_went, f_allSteps, f_allTicks, f_u, f_v, f_holds, a_letters, a_values, a_many, a_tool, a_began, a_limit, a_trips, a_force, a_origins, a_here, a_has, a_grouped, a_word, a_from, a_to, a_steps, a_paces, a_dwells, a_ends, a_turn, a_first, a_second, a_centre, a_direction) := by
  have st1 : ∀ a f O he, a < 3 → wY_plan_2 post f_lines f_fastest f_gain f_bend f_ahead f_speed f_seen f_state f_line f_pace f_left f_went f_allSteps f_allTicks f_u f_v f_holds f (nI (a + 1)) a_letters a_values a_many a_tool a_began a_limit a_trips a_force (upd (upd O a 0) (3 + a) 0) (upd he a (s0 a)) a_has a_grouped a_word a_from a_to a_steps a_paces a_dwells a_ends a_turn a_first a_second a_centre a_direction →
      wY_plan_2 post f_lines f_fastest f_gain f_bend f_ahead f_speed f_seen f_state f_line f_pace f_left f_went f_allSteps f_allTicks f_u f_v f_holds (f + 1) (nI a) a_letters a_values a_many a_tool a_began a_limit a_trips a_force O he a_has a_grouped a_word a_from a_to a_steps a_paces a_dwells a_ends a_turn a_first a_second a_centre a_direction := by
    intro a f O he ha k
    have cla : (nI a).toNatClampNeg = a := nI_clamp (by omega)
    have cl3 : (nI (3 + a)).toNatClampNeg = 3 + a := nI_clamp (by omega)
    have g34 : ∀ z, z = s0 a → wY_plan_34 post (wY_plan_2 post f_lines f_fastest f_gain f_bend f_ahead f_speed f_seen f_state f_line f_pace f_left f_went f_allSteps f_allTicks f_u f_v f_holds f) (nI a) z (nI a) f_lines f_fastest f_gain f_bend f_ahead f_speed f_seen f_state f_line f_pace f_left f_went f_allSteps f_allTicks f_u f_v f_holds a_letters a_values a_many a_tool a_began a_limit a_trips a_force O he a_has a_grouped a_word a_from a_to a_steps a_paces a_dwells a_ends a_turn a_first a_second a_centre a_direction := by
      intro z ez
      subst ez
      unfold wY_plan_34
      rw [show (3 : Int32) + nI a = nI (3 + a) from nI_add 3 a, cla, cl3]
      exact ⟨vp_in_nI ha (by omega), nm_e ⟨vp_in_nI (by omega) (by omega), nm_e ⟨vp_in_nI (by omega) (by omega), nm_e (nm_r (nI_1 a) k)⟩⟩⟩
    refine br_f (ix_3a ha) ?_
    rw [cla]
    rcases hst with ⟨z, e⟩ | ⟨z, e⟩
    · exact br_t z ⟨vp_in_nI ha (by omega), g34 _ (e a ha).symm⟩
    · exact br_f z ⟨vp_in_nI ha (by omega), g34 _ (e a ha).symm⟩
  refine ⟨4, st1 0 3 _ _ (by decide) (st1 1 2 _ _ (by decide) (st1 2 1 _ _ (by decide) (br_t ix_33 (nm_e (nm_e (nm_e (nm_e (nm_e ⟨l + 1, ?_⟩))))))))⟩
  refine yz_106 hl el wf hs h l 0 _ _ _ _ _ _ _ _ _ _ _ _ _ _ _ _ _ _ _ (by omega) (fun m hm => absurd hm (by omega)) (fun m hm => absurd hm (by omega)) ?_ rfl ?_ ?_ ⟨fun m hm => absurd hm (by omega), fun m hm => absurd hm (by omega)⟩
  · intro g hg
    show upd (upd (upd (upd (upd a_force 0 0) 1 17) 2 21) 3 90) 4 54 g = px_ff g
    unfold px_ff
    by_cases g4 : g = 4
    · subst g4; rfl
    rw [pk_un g4]
    by_cases g3 : g = 3
    · subst g3; rfl
    rw [pk_un g3]
    by_cases g2 : g = 2
    · subst g2; rfl
    rw [pk_un g2]
    by_cases g1 : g = 1
    · subst g1; rfl
    rw [pk_un g1]
    by_cases g0 : g = 0
    · subst g0; rfl
    rw [pk_un g0, hF g (by omega), if_neg g0, if_neg g1, if_neg g2, if_neg g3, if_neg g4]
  · intro i hi
    show upd (upd (upd (upd (upd (upd a_origins 0 0) (3 + 0) 0) 1 0) (3 + 1) 0) 2 0) (3 + 2) 0 i = 0
    match i, hi with
    | 0, _ => rfl
    | 1, _ => rfl
    | 2, _ => rfl
    | 3, _ => rfl
    | 4, _ => rfl
    | 5, _ => rfl
  · exact fun a ha => co_3 (P := fun a => upd (upd (upd a_here 0 (s0 0)) 1 (s0 1)) 2 (s0 2) a = s0 a) rfl rfl rfl ha
end
end YP2
end
section
section JNT
/-! the block that a joint ties to a block's end: pure -/
def nj_o (N : Nat) (s : Nat → Nat) (d : Nat → Bool) (e : Nat → Int32) : Nat → Nat → Option Nat
  | 0, _ => none
  | f + 1, k => if e k = 0 ∧ k + 1 < N then (if d (k + 1) = true then none else if 0 < s (k + 1) then some (k + 1) else nj_o N s d e f (k + 1)) else none
def nj_I (o : Option Nat) : Int32 := match o with | none => -1 | some m => nI m
theorem nj_lt {N : Nat} {s : Nat → Nat} {d : Nat → Bool} {e : Nat → Int32} : ∀ f k m, nj_o N s d e f k = some m → k < m ∧ m < N ∧ 0 < s m := by
  intro f
  induction f with
  | zero => intro k m h; exact absurd h (by simp [nj_o])
  | succ f ih =>
    intro k m h
    rw [nj_o] at h
    split at h
    · rename_i c
      split at h
      · exact absurd h (by simp)
      · split at h
        · rename_i c2
          have : k + 1 = m := Option.some.inj h
          subst this
          exact ⟨by omega, c.2, c2⟩
        · have := ih _ _ h
          exact ⟨by omega, this.2⟩
    · exact absurd h (by simp)
theorem nj_mid {N : Nat} {s : Nat → Nat} {d : Nat → Bool} {e : Nat → Int32} : ∀ f k m, nj_o N s d e f k = some m → ∀ j, k < j → j < m → s j = 0 := by
  intro f
  induction f with
  | zero => intro k m h; exact absurd h (by simp [nj_o])
  | succ f ih =>
    intro k m h j h1 h2
    rw [nj_o] at h
    split at h
    · split at h
      · exact absurd h (by simp)
      · split at h
        · have : k + 1 = m := Option.some.inj h
          omega
        · rename_i c2
          by_cases ej : j = k + 1
          · subst ej; omega
          · exact ih _ _ h j (by omega) h2
    · exact absurd h (by simp)
section
variable {f_lines f_fastest f_gain f_bend f_ahead f_speed f_seen f_state f_line f_pace f_left f_went f_allSteps f_allTicks f_u f_v f_holds : Int32} {a_letters a_values a_many a_tool a_began a_limit a_trips a_force a_origins a_here a_has a_grouped a_word a_from a_to a_steps a_paces a_dwells a_ends a_turn a_first a_second a_centre a_direction : Nat → Int32}
theorem yj_ov {post : Int32 → Prop} {N : Nat} {s : Nat → Nat} {d : Nat → Bool} {e : Nat → Int32} (hN : N ≤ 30) (eN : f_seen = nI N) (hs : ∀ m, m < N → a_steps m = nI (s m) ∧ s m < 2 ^ 31) (hd : ∀ m, m < N → (d m = true ↔ ¬ a_dwells m ≤ 0)) (he : ∀ m, m < N → a_ends m = e m) :
    ∀ f k, k < N → N ≤ k + f → post (nj_I (nj_o N s d e f k)) → wY_over_2 post f_lines f_fastest f_gain f_bend f_ahead f_speed f_seen f_state f_line f_pace f_left f_went f_allSteps f_allTicks f_u f_v f_holds a_letters a_values a_many a_tool a_began a_limit a_trips a_force a_origins a_here a_has a_grouped a_word a_from a_to a_steps a_paces a_dwells a_ends a_turn a_first a_second a_centre a_direction (f + 1) (nI k) := by
  intro f
  induction f with
  | zero => intro k hk hf; omega
  | succ f ih =>
    intro k hk hf h
    rw [nj_o] at h
    refine br_f (by rw [eN]; exact nI_ge hk (by omega)) ⟨vp_in_nI (by omega) (by omega), ?_⟩
    rw [nI_clamp (show k < 2 ^ 31 by omega), he k hk, nI_1, nI_clamp (show k + 1 < 2 ^ 31 by omega)]
    refine br_c (fun c => br_c (fun c2 => ?_) (fun c2 => br_c (fun c3 => ?_) (fun c3 => ?_))) (fun c => ?_)
    · have : 29 ≤ k := by
        have := (nI_leI (a := 29) (b := k) (by omega) (by omega)).mp c2
        exact this
      rw [if_neg (by omega)] at h; exact h
    · rw [eN, nI_leI (by omega) (by omega)] at c3
      rw [if_neg (by omega)] at h; exact h
    · rw [eN, nI_leI (by omega) (by omega)] at c3
      have hk1 : k + 1 < N := by omega
      rw [if_pos ⟨c, hk1⟩] at h
      refine ⟨vp_in_nI (by omega) (by omega), br_c (fun c4 => ⟨vp_in_nI (by omega) (by omega), ?_⟩) (fun c4 => ?_)⟩
      · rw [if_neg (fun z => (hd _ hk1).mp z c4)] at h
        obtain ⟨es, bs⟩ := hs _ hk1
        rw [es]
        have z0 : nI (s (k + 1)) ≤ 0 ↔ s (k + 1) ≤ 0 := nI_leI (b := 0) bs (by omega)
        refine br_c (fun c5 => nm_e ?_) (fun c5 => ?_)
        · rw [if_neg (by rw [z0] at c5; omega)] at h
          exact ih (k + 1) hk1 (by omega) h
        · rw [if_pos (by rw [z0] at c5; omega)] at h
          exact h
      · rw [if_pos ((hd _ hk1).mpr c4)] at h; exact h
    · rw [if_neg (fun z => c z.1)] at h; exact h
end
section
variable {f_lines f_fastest f_gain f_bend f_ahead f_mode f_holds f_pace f_line f_gone f_dwellLeft f_stepsInAll f_ticksInAll f_speed f_present f_laid : Int32} {a_wordCounts a_letters a_values a_limits a_switches a_tool a_inForce a_origins a_given a_rows a_probe a_motions a_thirds a_centres a_steps a_paces a_dwells a_marks a_nexts a_joints : Nat → Int32}
theorem xj_24 {post : Int32 → Prop} {N : Nat} {s : Nat → Nat} {d : Nat → Bool} {e : Nat → Int32} (hN : N ≤ 30) (eN : f_laid = nI N) (hs : ∀ m, m < N → a_steps m = nI (s m) ∧ s m < 2 ^ 31) (hd : ∀ m, m < N → (d m = true ↔ 0 < a_dwells m))
    (he : ∀ m, m < N → (a_marks m = 0 ↔ e m = 1)) (h2 : ∀ m, m < N → e m = 0 ∨ e m = 1 ∨ (e m = 2 ∧ m + 1 = N)) (hx : ∀ m, m < N → d m = true → s m = 0) :
    ∀ f k, k < N → N ≤ k + f → ¬ e k = 1 → post (nj_I (nj_o N s d e f k)) → wX_joinedTo_24 post f_lines f_fastest f_gain f_bend f_ahead f_mode f_holds f_pace f_line f_gone f_dwellLeft f_stepsInAll f_ticksInAll f_speed f_present f_laid a_wordCounts a_letters a_values a_limits a_switches a_tool a_inForce a_origins a_given a_rows a_probe a_motions a_thirds a_centres a_steps a_paces a_dwells a_marks a_nexts a_joints (f + 1) (nI (k + 1)) := by
  intro f
  induction f with
  | zero => intro k hk hf; omega
  | succ f ih =>
    intro k hk hf ne h
    rw [nj_o] at h
    by_cases hk1 : k + 1 < N
    · have e0 : e k = 0 := by
        rcases h2 k hk with z | z | z
        · exact z
        · exact absurd z ne
        · omega
      rw [if_pos ⟨e0, hk1⟩] at h
      refine br_f (by rw [eN]; exact nI_ge hk1 (by omega)) ⟨vp_in_nI (by omega) (by omega), ?_⟩
      rw [nI_clamp (show k + 1 < 2 ^ 31 by omega)]
      obtain ⟨es, bs⟩ := hs _ hk1
      rw [es]
      have z0 : nI (s (k + 1)) ≤ 0 ↔ s (k + 1) ≤ 0 := nI_leI (b := 0) bs (by omega)
      refine br_c (fun c => ⟨vp_in_nI (by omega) (by omega), br_c (fun c2 => ?_) (fun c2 => ⟨vp_in_nI (by omega) (by omega), br_c (fun c3 => ?_) (fun c3 => nm_r (nI_1 (k + 1)) ?_)⟩)⟩) (fun c => ?_)
      · rw [if_pos ((hd _ hk1).mpr c2)] at h; exact h
      · rw [if_neg (fun z => c2 ((hd _ hk1).mp z)), if_neg (by rw [z0] at c; omega)] at h
        have e1 := (he _ hk1).mp c3
        cases f with
        | zero => omega
        | succ f =>
          rw [nj_o, if_neg (by rw [e1]; intro z; exact absurd z.1 (by decide))] at h
          exact h
      · rw [if_neg (fun z => c2 ((hd _ hk1).mp z)), if_neg (by rw [z0] at c; omega)] at h
        exact ih (k + 1) hk1 (by omega) (fun z => c3 ((he _ hk1).mpr z)) h
      · have sp : 0 < s (k + 1) := by rw [z0] at c; omega
        have nd : ¬ d (k + 1) = true := by
          intro z
          have := hx _ hk1 z
          omega
        rw [if_neg nd, if_pos sp] at h
        exact h
    · rw [if_neg (fun z => hk1 z.2)] at h
      exact br_t (by rw [eN]; exact nI_le (by omega) (by omega)) h
theorem xj_jt {post : Int32 → Prop} {N : Nat} {s : Nat → Nat} {d : Nat → Bool} {e : Nat → Int32} (hN : N ≤ 30) (eN : f_laid = nI N) (hs : ∀ m, m < N → a_steps m = nI (s m) ∧ s m < 2 ^ 31) (hd : ∀ m, m < N → (d m = true ↔ 0 < a_dwells m))
    (he : ∀ m, m < N → (a_marks m = 0 ↔ e m = 1)) (h2 : ∀ m, m < N → e m = 0 ∨ e m = 1 ∨ (e m = 2 ∧ m + 1 = N)) (hx : ∀ m, m < N → d m = true → s m = 0)
    {k : Nat} (hk : k < N) (h : post (if s k = 0 then -1 else nj_I (nj_o N s d e 30 k))) : wpX_joinedTo post (f_lines, f_fastest, f_gain, f_bend, f_ahead, f_mode, f_holds, f_pace, f_line, f_gone, f_dwellLeft, f_stepsInAll, f_ticksInAll, f_speed, f_present, f_laid, a_wordCounts, a_letters, a_values, a_limits, a_switches, a_tool, a_inForce, a_origins, a_given, a_rows, a_probe, a_motions, a_thirds, a_centres, a_steps, a_paces, a_dwells, a_marks, a_nexts, a_joints) (nI k) := by
  unfold wpX_joinedTo
  dsimp only
  rw [nI_clamp (show k < 2 ^ 31 by omega)]
  obtain ⟨es, bs⟩ := hs _ hk
  rw [es]
  have z0 : nI (s k) = 0 ↔ s k = 0 := nI_eq (b := 0) bs (by omega)
  refine ⟨vp_in_nI (by omega) (by omega), br_c (fun c => ?_) (fun c => ⟨vp_in_nI (by omega) (by omega), br_c (fun c2 => ?_) (fun c2 => nm_r (nI_1 k) ⟨31, ?_⟩)⟩)⟩
  · rw [if_pos (z0.mp c)] at h; exact h
  · rw [if_neg (fun z => c (z0.mpr z)), nj_o, if_neg (by rw [(he k hk).mp c2]; intro z; exact absurd z.1 (by decide))] at h
    exact h
  · rw [if_neg (fun z => c (z0.mpr z))] at h
    exact xj_24 hN eN hs hd he h2 hx 30 k hk (by omega) (fun z => c2 ((he k hk).mpr z)) h
end
end JNT
end
section
section JPC
def jr_r (n : Nat) : Nat → Nat → Nat
  | 0, r => r
  | k + 1, r => if (r + 2 ^ k) * (r + 2 ^ k) ≤ n then jr_r n k (r + 2 ^ k) else jr_r n k r
theorem jr_pow (k : Nat) : 2 ^ (k + 1) = 2 ^ k + 2 ^ k := by rw [Nat.pow_succ]; omega
theorem jr_m1 (x : Int32) : x + (-1) = x - 1 := by rw [Int32.sub_eq_add_neg]
theorem jr_sq {r k : Nat} (h : r + 2 ^ (k + 1) ≤ 2 ^ 30) : (r + 2 ^ k) * (r + 2 ^ k) < 2 ^ 63 ∧ r + 2 ^ k + 2 ^ k ≤ 2 ^ 30 ∧ r + 2 ^ k ≤ 2 ^ 30 := by
  rw [jr_pow] at h
  have kp : 0 < 2 ^ k := Nat.pos_of_ne_zero (by simp)
  have h1 : r + 2 ^ k ≤ 2 ^ 30 := by omega
  have h2 : (r + 2 ^ k) * (r + 2 ^ k) ≤ 2 ^ 30 * 2 ^ 30 := Nat.mul_le_mul h1 h1
  exact ⟨Nat.lt_of_le_of_lt h2 (by decide), by omega, h1⟩
theorem jr_le (n : Nat) : ∀ k r, r + 2 ^ k ≤ 2 ^ 30 → jr_r n k r < 2 ^ 30 := by
  intro k
  induction k with
  | zero => intro r h; show r < 2 ^ 30; have : 2 ^ 0 = 1 := rfl; omega
  | succ k ih =>
    intro r h
    obtain ⟨_, a, b⟩ := jr_sq h
    rw [jr_r]
    split
    · exact ih _ a
    · refine ih _ ?_
      have := Nat.pos_of_ne_zero (n := 2 ^ k) (by simp)
      omega
section
variable {f_lines f_fastest f_gain f_bend f_ahead f_mode f_holds f_pace f_line f_gone f_dwellLeft f_stepsInAll f_ticksInAll f_speed f_present f_laid : Int32} {a_wordCounts a_letters a_values a_limits a_switches a_tool a_inForce a_origins a_given a_rows a_probe a_motions a_thirds a_centres a_steps a_paces a_dwells a_marks a_nexts a_joints : Nat → Int32}
theorem xj_ro {post : Int64 → Prop} {n : Nat} (hn : n < 2 ^ 63) : ∀ k r, k ≤ 30 → r + 2 ^ k ≤ 2 ^ 30 → post (lN (jr_r n k r)) → wX_rootOf_6 post (lN n) f_lines f_fastest f_gain f_bend f_ahead f_mode f_holds f_pace f_line f_gone f_dwellLeft f_stepsInAll f_ticksInAll f_speed f_present f_laid a_wordCounts a_letters a_values a_limits a_switches a_tool a_inForce a_origins a_given a_rows a_probe a_motions a_thirds a_centres a_steps a_paces a_dwells a_marks a_nexts a_joints (k + 1) (lN r) (nI k - 1) := by
  intro k
  induction k with
  | zero => intro r _ _ h; exact br_t (by decide) h
  | succ k ih =>
    intro r hk hr h
    obtain ⟨q1, q2, q3⟩ := jr_sq hr
    rw [nI_pred]
    refine br_f (nI_pos (by omega)) (nm_r (e' := lN (r + 2 ^ k)) ?_ ?_)
    · rw [show (1 : Int64) = lN 1 from rfl, wb_shl 1 (by omega), lN_add, Nat.one_mul]
    · rw [lN_mul]
      have l := pk_lLT (a := n) (b := (r + 2 ^ k) * (r + 2 ^ k)) hn q1
      rw [jr_r] at h
      refine br_c (fun c => nm_r (jr_m1 _) ?_) (fun c => nm_r (jr_m1 _) ?_)
      · rw [if_neg (by have := l.mp c; omega)] at h
        exact ih r (by omega) (by omega) h
      · rw [if_pos (by have : ¬ n < (r + 2 ^ k) * (r + 2 ^ k) := fun z => c (l.mpr z); omega)] at h
        exact ih _ (by omega) q2 h
end
theorem yj_half (k : Nat) : 2 ^ (k + 1) / 2 = 2 ^ k := by rw [jr_pow]; omega
theorem yj_sh {k : Nat} (h : k ≤ 31) : lN (2 ^ k) >>> ((1 : Int32).toInt64 &&& 63) = lN (2 ^ k / 2) := by
  have := pf_shr (a := 2 ^ k) (d := 1) (D := (1 : Int32).toInt64 &&& 63) (by decide) (Nat.lt_of_le_of_lt (Nat.pow_le_pow_right (by decide) h) (by decide))
  exact this
theorem yj_ro {post : Int64 → Prop} {n : Nat} (hn : n < 2 ^ 63) : ∀ k r, k ≤ 30 → r + 2 ^ k ≤ 2 ^ 30 → post (lN (jr_r n k r)) → wY_root_7 post (lN n) (k + 1) (lN r) (lN (2 ^ k / 2)) := by
  intro k
  induction k with
  | zero => intro r _ _ h; exact br_t (by decide) h
  | succ k ih =>
    intro r hk hr h
    obtain ⟨q1, q2, q3⟩ := jr_sq hr
    have kp : 0 < 2 ^ k := Nat.pos_of_ne_zero (by simp)
    rw [yj_half]
    have b : 2 ^ k < 2 ^ 63 := by omega
    refine br_f (fun z => ?_) ?_
    · have := (pk_lLE (b := 0) b (by decide)).mp z
      omega
    · rw [lN_add, lN_mul]
      have l := pk_lLT (a := n) (b := (r + 2 ^ k) * (r + 2 ^ k)) hn q1
      rw [jr_r] at h
      refine br_c (fun c => nm_r (yj_sh (by omega)) ?_) (fun c => nm_e (nm_r (yj_sh (by omega)) ?_))
      · rw [if_neg (by have := l.mp c; omega)] at h
        exact ih r (by omega) (by omega) h
      · rw [if_pos (by have : ¬ n < (r + 2 ^ k) * (r + 2 ^ k) := fun z => c (l.mpr z); omega)] at h
        exact ih _ (by omega) q2 h
theorem yj_rt {post : Int64 → Prop} {n : Nat} (hn : n < 2 ^ 60) (h : post (lN (jr_r n 30 0))) : wpY_root post (lN n) := by
  refine ⟨33, ?_⟩
  have p31 : (2147483648 : Int64) = lN (2 ^ 31) := by decide
  rw [p31]
  have s1 : ∀ k, k = 30 ∨ k = 31 → ∀ f, wY_root_7 post (lN n) f 0 (lN (2 ^ k / 2)) → wY_root_7 post (lN n) (f + 1) 0 (lN (2 ^ k)) := by
    intro k hk f g
    have b : 2 ^ 30 ≤ 2 ^ k ∧ 2 ^ k ≤ 2 ^ 31 := by rcases hk with z | z <;> subst z <;> decide
    have c : 2 ^ 60 ≤ (0 + 2 ^ k) * (0 + 2 ^ k) ∧ (0 + 2 ^ k) * (0 + 2 ^ k) < 2 ^ 63 := by rcases hk with z | z <;> subst z <;> decide
    refine br_f (fun z => ?_) ?_
    · have := (pk_lLE (a := 2 ^ k) (b := 0) (by omega) (by decide)).mp z
      omega
    · rw [show (0 : Int64) = lN 0 from rfl, lN_add, lN_mul]
      refine br_t ((pk_lLT (by omega) c.2).mpr (by omega)) (nm_r (yj_sh (by omega)) g)
  refine s1 31 (Or.inr rfl) 32 ?_
  rw [yj_half]
  exact s1 30 (Or.inl rfl) 31 (yj_ro (by omega) 30 0 (Nat.le_refl _) (by decide) h)
/-! the pace of a joint from its directions -/
def jv_c (P Q : Nat → Int) : Int := 0 + P 0 * Q 0 + P 1 * Q 1 + P 2 * Q 2
def jv_r (P Q : Nat → Int) : Nat := jr_r (jv_c P P * jv_c Q Q).toNat 30 0
def jv_ (bend : Int32) (P Q : Nat → Int) (p1 p2 : Int32) : Int32 :=
  if 0 < jv_c P Q then
    (if jv_c P Q < (jv_r P Q : Int) then
      (if (if p2 ≤ p1 then p2 else p1).toInt64 ≤ (bend.toInt64 * jl_J (jv_c P Q)) / (jl_J (jv_r P Q : Int) - jl_J (jv_c P Q)) then (if p2 ≤ p1 then p2 else p1)
       else ((bend.toInt64 * jl_J (jv_c P Q)) / (jl_J (jv_r P Q : Int) - jl_J (jv_c P Q))).toInt32)
     else (if p2 ≤ p1 then p2 else p1))
  else 0
theorem jv_m {x y : Int} (hx : -2000 ≤ x ∧ x ≤ 2000) (hy : -2000 ≤ y ∧ y ≤ 2000) : -4000000 ≤ x * y ∧ x * y ≤ 4000000 := by
  have h1 := wk_sqb (B := 4000) (u := x + y) (by omega)
  have h2 := wk_sqb (B := 4000) (u := x - y) (by omega)
  have h3 := wk_sqb (B := 2000) hx
  have h4 := wk_sqb (B := 2000) hy
  have e1 : (x + y) * (x + y) = x * x + 2 * (x * y) + y * y := by grind
  have e2 : (x - y) * (x - y) = x * x - 2 * (x * y) + y * y := by grind
  omega
theorem jv_b {P Q : Nat → Int} (hP : ∀ a, a < 3 → -2000 ≤ P a ∧ P a ≤ 2000) (hQ : ∀ a, a < 3 → -2000 ≤ Q a ∧ Q a ≤ 2000) : -12000000 ≤ jv_c P Q ∧ jv_c P Q ≤ 12000000 := by
  have a0 := jv_m (hP 0 (by decide)) (hQ 0 (by decide))
  have a1 := jv_m (hP 1 (by decide)) (hQ 1 (by decide))
  have a2 := jv_m (hP 2 (by decide)) (hQ 2 (by decide))
  unfold jv_c
  omega
theorem jv_p {P : Nat → Int} (hP : ∀ a, a < 3 → -2000 ≤ P a ∧ P a ≤ 2000) : 0 ≤ jv_c P P := by
  have a0 := wk_sqb (B := 2000) (hP 0 (by decide))
  have a1 := wk_sqb (B := 2000) (hP 1 (by decide))
  have a2 := wk_sqb (B := 2000) (hP 2 (by decide))
  unfold jv_c
  omega
theorem jl_n (n : Nat) : lN n = jl_J (n : Int) := (Int64.ofInt_eq_ofNat).symm
theorem jv_pq {P Q : Nat → Int} (hP : ∀ a, a < 3 → -2000 ≤ P a ∧ P a ≤ 2000) (hQ : ∀ a, a < 3 → -2000 ≤ Q a ∧ Q a ≤ 2000) :
    jl_J (jv_c P P) * jl_J (jv_c Q Q) = lN (jv_c P P * jv_c Q Q).toNat ∧ (jv_c P P * jv_c Q Q).toNat < 2 ^ 60 := by
  have p0 := jv_p hP
  have q0 := jv_p hQ
  have p1 := jv_b hP hP
  have q1 := jv_b hQ hQ
  have m0 : 0 ≤ jv_c P P * jv_c Q Q := Int.mul_nonneg p0 q0
  have m1 : jv_c P P * jv_c Q Q ≤ 12000000 * 12000000 := Int.mul_le_mul p1.2 q1.2 q0 (by omega)
  refine ⟨?_, by omega⟩
  rw [jl_mul, jl_n, Int.toNat_of_nonneg m0]
theorem jv_rb {P Q : Nat → Int} : (jv_r P Q : Int) < 2 ^ 30 := by
  have := jr_le (jv_c P P * jv_c Q Q).toNat 30 0 (by decide)
  unfold jv_r
  omega
section
variable {f_lines f_fastest f_gain f_bend f_ahead f_mode f_holds f_pace f_line f_gone f_dwellLeft f_stepsInAll f_ticksInAll f_speed f_present f_laid : Int32} {a_wordCounts a_letters a_values a_limits a_switches a_tool a_inForce a_origins a_given a_rows a_probe a_motions a_thirds a_centres a_steps a_paces a_dwells a_marks a_nexts a_joints : Nat → Int32}
theorem xj_113 {post : Int32 → Prop} {P Q : Nat → Int} {z : Int32} (hP : ∀ a, a < 3 → -2000 ≤ P a ∧ P a ≤ 2000) (hQ : ∀ a, a < 3 → -2000 ≤ Q a ∧ Q a ≤ 2000)
    (h : post (if jv_c P Q < (jv_r P Q : Int) then (if z.toInt64 ≤ (f_bend.toInt64 * jl_J (jv_c P Q)) / (jl_J (jv_r P Q : Int) - jl_J (jv_c P Q)) then z else ((f_bend.toInt64 * jl_J (jv_c P Q)) / (jl_J (jv_r P Q : Int) - jl_J (jv_c P Q))).toInt32) else z)) :
    wX_jointPace_113 post (jl_J (jv_c P Q)) (jl_J (jv_c P P)) (jl_J (jv_c Q Q)) z f_lines f_fastest f_gain f_bend f_ahead f_mode f_holds f_pace f_line f_gone f_dwellLeft f_stepsInAll f_ticksInAll f_speed f_present f_laid a_wordCounts a_letters a_values a_limits a_switches a_tool a_inForce a_origins a_given a_rows a_probe a_motions a_thirds a_centres a_steps a_paces a_dwells a_marks a_nexts a_joints := by
  obtain ⟨e, b⟩ := jv_pq hP hQ
  have c := jv_b hP hQ
  have rb := jv_rb (P := P) (Q := Q)
  unfold wX_jointPace_113
  rw [e]
  unfold wpX_rootOf
  refine ⟨31, xj_ro (by omega) 30 0 (Nat.le_refl _) (by decide) ?_⟩
  rw [jl_n, show jr_r (jv_c P P * jv_c Q Q).toNat 30 0 = jv_r P Q from rfl]
  have l : jl_J (jv_c P Q) < jl_J (jv_r P Q : Int) ↔ jv_c P Q < (jv_r P Q : Int) := jl_lt (by unfold jl_R; omega) (by unfold jl_R; omega)
  refine br_c (fun g => ⟨?_, nm_e (br_c (fun k => ?_) (fun k => ?_))⟩) (fun g => ?_)
  · rw [jl_sub]
    intro w
    have := (jl_eq (b := 0) (by unfold jl_R; omega) (by unfold jl_R; omega)).mp w
    have := l.mp g
    omega
  · rw [if_pos (l.mp g), if_pos k] at h; exact h
  · rw [if_pos (l.mp g), if_neg k] at h; exact h
  · rw [if_neg (fun w => g (l.mpr w))] at h; exact h
end
section
variable {f_lines f_fastest f_gain f_bend f_ahead f_speed f_seen f_state f_line f_pace f_left f_went f_allSteps f_allTicks f_u f_v f_holds : Int32} {a_letters a_values a_many a_tool a_began a_limit a_trips a_force a_origins a_here a_has a_grouped a_word a_from a_to a_steps a_paces a_dwells a_ends a_turn a_first a_second a_centre a_direction : Nat → Int32}
theorem yj_134 {post : Int32 → SY → Prop} {P Q : Nat → Int} {z : Int32} (hP : ∀ a, a < 3 → -2000 ≤ P a ∧ P a ≤ 2000) (hQ : ∀ a, a < 3 → -2000 ≤ Q a ∧ Q a ≤ 2000)
    (h : post (if 0 < jv_c P Q then (if jv_c P Q < (jv_r P Q : Int) then (if z.toInt64 ≤ (f_bend.toInt64 * jl_J (jv_c P Q)) / (jl_J (jv_r P Q : Int) - jl_J (jv_c P Q)) then z else ((f_bend.toInt64 * jl_J (jv_c P Q)) / (jl_J (jv_r P Q : Int) - jl_J (jv_c P Q))).toInt32) else z) else 0) (f_lines, f_fastest, f_gain, f_bend, f_ahead, f_speed, f_seen, f_state, f_line, f_pace, f_left, f_went, f_allSteps, f_allTicks, f_u, f_v, f_holds, a_letters, a_values, a_many, a_tool, a_began, a_limit, a_trips, a_force, a_origins, a_here, a_has, a_grouped, a_word, a_from, a_to, a_steps, a_paces, a_dwells, a_ends, a_turn, a_first, a_second, a_centre, a_direction)) :
    wY_jointPace_134 post (jl_J (jv_c P Q)) (jl_J (jv_c P P)) (jl_J (jv_c Q Q)) z f_lines f_fastest f_gain f_bend f_ahead f_speed f_seen f_state f_line f_pace f_left f_went f_allSteps f_allTicks f_u f_v f_holds a_letters a_values a_many a_tool a_began a_limit a_trips a_force a_origins a_here a_has a_grouped a_word a_from a_to a_steps a_paces a_dwells a_ends a_turn a_first a_second a_centre a_direction := by
  obtain ⟨e, b⟩ := jv_pq hP hQ
  have c := jv_b hP hQ
  have rb := jv_rb (P := P) (Q := Q)
  unfold wY_jointPace_134
  rw [e]
  refine yj_rt b ?_
  rw [jl_n, show jr_r (jv_c P P * jv_c Q Q).toNat 30 0 = jv_r P Q from rfl]
  have l : jl_J (jv_r P Q : Int) ≤ jl_J (jv_c P Q) ↔ ¬ jv_c P Q < (jv_r P Q : Int) := by
    rw [jl_le (by unfold jl_R; omega) (by unfold jl_R; omega)]
    omega
  have l0 : 0 < jl_J (jv_c P Q) ↔ 0 < jv_c P Q := jl_lt (a := 0) (by unfold jl_R; omega) (by unfold jl_R; omega)
  unfold wY_jointPace_179
  refine br_c (fun g0 => br_c (fun g => br_t (Int64.le_refl _) ?_) (fun g => ⟨?_, br_c (fun k => ?_) (fun k => ?_)⟩)) (fun g0 => ?_)
  · rw [if_pos (l0.mp g0), if_neg (l.mp g)] at h; exact h
  · rw [jl_sub]
    intro w
    have w' := (jl_eq (b := 0) (by unfold jl_R; omega) (by unfold jl_R; omega)).mp w
    refine g (l.mpr ?_)
    omega
  · rw [if_pos (l0.mp g0), if_pos (Decidable.byContradiction (fun w => g (l.mpr w))), if_pos k] at h; exact h
  · rw [if_pos (l0.mp g0), if_pos (Decidable.byContradiction (fun w => g (l.mpr w))), if_neg k] at h; exact h
  · rw [if_neg (fun w => g0 (l0.mpr w))] at h; exact h
end
end JPC
end
section
section JDR
def jd_ (tu : Int32) (fa fb : Nat) (he to : Nat → Int32) (c d : Int) (e : Bool) (a : Nat) : Int :=
  if tu = 0 then (to a).toInt - (he a).toInt
  else if a = fa then (if tu = 3 then -(((if e = true then to else he) fb).toInt - d) else ((if e = true then to else he) fb).toInt - d)
  else if a = fb then (if tu = 3 then ((if e = true then to else he) fa).toInt - c else -(((if e = true then to else he) fa).toInt - c))
  else 0
theorem jd_b {tu : Int32} {fa fb : Nat} {he to : Nat → Int32} {c d : Int} {e : Bool} (hfa : fa < 3) (hfb : fb < 3) (hh : ∀ a, a < 3 → 0 ≤ (he a).toInt ∧ (he a).toInt ≤ 1000) (ht : ∀ a, a < 3 → 0 ≤ (to a).toInt ∧ (to a).toInt ≤ 1000)
    (hc : ¬ tu = 0 → -300 ≤ c ∧ c ≤ 1300) (hd : ¬ tu = 0 → -300 ≤ d ∧ d ≤ 1300) : ∀ a, a < 3 → -2000 ≤ jd_ tu fa fb he to c d e a ∧ jd_ tu fa fb he to c d e a ≤ 2000 := by
  intro a ha
  have h1 := hh a ha
  have h2 := ht a ha
  have g : ∀ b, b < 3 → 0 ≤ ((if e = true then to else he) b).toInt ∧ ((if e = true then to else he) b).toInt ≤ 1000 := by
    intro b hb
    split
    · exact ht b hb
    · exact hh b hb
  have g1 := g fa hfa
  have g2 := g fb hfb
  unfold jd_
  split
  · omega
  · rename_i c0
    have := hc c0
    have := hd c0
    split
    · split <;> omega
    · split
      · split <;> omega
      · omega
theorem ii_d (x : Int32) (c : Int) : x - ii_I c = ii_I (x.toInt - c) := by rw [← ii_sub, ii_t]
theorem ii_dd (x y : Int32) : x - y = ii_I (x.toInt - y.toInt) := by rw [← ii_sub, ii_t, ii_t]
section
variable {f_lines f_fastest f_gain f_bend f_ahead f_mode f_holds f_pace f_line f_gone f_dwellLeft f_stepsInAll f_ticksInAll f_speed f_present f_laid : Int32} {a_wordCounts a_letters a_values a_limits a_switches a_tool a_inForce a_origins a_given a_rows a_probe a_motions a_thirds a_centres a_steps a_paces a_dwells a_marks a_nexts a_joints : Nat → Int32}
theorem xj_di {post : Int32 → Prop} {n row th a : Nat} {tu : Int32} {he to : Nat → Int32} {c d : Int} {e : Bool} (hn : n < 30) (hrow : row = if e = true then n + 1 else n) (hth : th < 3) (ha : a < 3)
    (ht : a_thirds n = nI th) (hm : (tu = 0 ∧ ¬ 2 ≤ a_motions n) ∨ (¬ tu = 0 ∧ a_motions n = tu ∧ (tu = 2 ∨ tu = 3)))
    (hhe : ∀ a, a < 3 → a_rows (3 * n + a) = he a) (hto : ∀ a, a < 3 → a_rows (3 * (n + 1) + a) = to a) (hc : ¬ tu = 0 → a_centres (2 * n) = ii_I c ∧ a_centres (2 * n + 1) = ii_I d)
    (h : post (ii_I (jd_ tu ((th + 1) % 3) ((th + 2) % 3) he to c d e a))) : wpX_direction post (f_lines, f_fastest, f_gain, f_bend, f_ahead, f_mode, f_holds, f_pace, f_line, f_gone, f_dwellLeft, f_stepsInAll, f_ticksInAll, f_speed, f_present, f_laid, a_wordCounts, a_letters, a_values, a_limits, a_switches, a_tool, a_inForce, a_origins, a_given, a_rows, a_probe, a_motions, a_thirds, a_centres, a_steps, a_paces, a_dwells, a_marks, a_nexts, a_joints) (nI n) (nI row) (nI a) := by
  have hfa : (th + 1) % 3 < 3 := Nat.mod_lt _ (by decide)
  have hfb : (th + 2) % 3 < 3 := Nat.mod_lt _ (by decide)
  have hr30 : row ≤ 30 := by rw [hrow]; split <;> omega
  have i30 : vp_in (nI n) 30 := vp_in_nI hn (by omega)
  have rw1 : ∀ b, b < 3 → a_rows (3 * row + b) = (if e = true then to else he) b := by
    intro b hb
    rw [hrow]
    cases e
    · exact hhe b hb
    · exact hto b hb
  unfold wpX_direction
  dsimp only
  rw [nI_clamp (show n < 2 ^ 31 by omega), ht]
  refine ⟨i30, br_c (fun g => ⟨i30, ?_⟩) (fun g => ?_)⟩
  · rcases hm with z | ⟨t0, em, t23⟩
    · exact absurd g z.2
    · obtain ⟨c1, c2⟩ := hc t0
      unfold jd_ at h
      rw [if_neg t0] at h
      refine br_c (fun k => ?_) (fun k => ⟨i30, by decide, nm_r (xs_m1 hth) ⟨i30, by decide, nm_r (xs_m2 hth) ?_⟩⟩)
      · have : a = th := (nI_eq (by omega) (by omega)).mp k
        rw [if_neg (by omega), if_neg (by omega)] at h
        exact h
      · have na : a ≠ th := fun z => k (by rw [z])
        rw [ix_3, ix_3, ix_21, ix_2, nI_clamp (show 3 * row + (th + 1) % 3 < 2 ^ 31 by omega), nI_clamp (show 3 * row + (th + 2) % 3 < 2 ^ 31 by omega), nI_clamp (show 2 * n < 2 ^ 31 by omega), nI_clamp (show 2 * n + 1 < 2 ^ 31 by omega), c1, c2, rw1 _ hfa, rw1 _ hfb]
        refine ⟨vp_in_nI (by omega) (by omega), vp_in_nI (by omega) (by omega), nm_r (ii_d _ _) ⟨vp_in_nI (by omega) (by omega), vp_in_nI (by omega) (by omega), nm_r (ii_d _ _) ?_⟩⟩
        unfold wX_direction_130
        rw [nI_clamp (show n < 2 ^ 31 by omega), em]
        refine br_c (fun y => ⟨i30, br_c (fun w => ?_) (fun w => ?_)⟩) (fun y => ⟨i30, br_c (fun w => ?_) (fun w => ?_)⟩)
        · rw [if_pos ((nI_eq (by omega) (by omega)).mp y), if_pos w] at h
          rw [ii_neg]; exact h
        · rw [if_pos ((nI_eq (by omega) (by omega)).mp y), if_neg w] at h
          rw [ii_neg, ii_neg, Int.neg_neg]; exact h
        · have y' : ¬ a = (th + 1) % 3 := fun z => y (by rw [z])
          rw [if_neg y', if_pos (by omega), if_pos w] at h
          exact h
        · have y' : ¬ a = (th + 1) % 3 := fun z => y (by rw [z])
          rw [if_neg y', if_pos (by omega), if_neg w] at h
          rw [ii_neg]; exact h
  · rcases hm with z | ⟨t0, em, t23⟩
    · unfold jd_ at h
      rw [if_pos z.1] at h
      rw [ix_3, ix_3s, nI_clamp (show 3 * n + a < 2 ^ 31 by omega), nI_clamp (show 3 * (n + 1) + a < 2 ^ 31 by omega), hhe a ha, hto a ha, ii_dd]
      exact ⟨vp_in_nI (by omega) (by omega), vp_in_nI (by omega) (by omega), h⟩
    · exfalso
      rw [em] at g
      rcases t23 with t | t <;> (rw [t] at g; exact g (by decide))
theorem xj_11 {post : Int32 → Prop} {n m : Nat} {P Q : Nat → Int} (hn : n < 30) (hm : m < 30) (hP : ∀ a, a < 3 → -2000 ≤ P a ∧ P a ≤ 2000) (hQ : ∀ a, a < 3 → -2000 ≤ Q a ∧ Q a ≤ 2000)
    (D1 : ∀ a, a < 3 → ∀ post : Int32 → Prop, post (ii_I (P a)) → wpX_direction post (f_lines, f_fastest, f_gain, f_bend, f_ahead, f_mode, f_holds, f_pace, f_line, f_gone, f_dwellLeft, f_stepsInAll, f_ticksInAll, f_speed, f_present, f_laid, a_wordCounts, a_letters, a_values, a_limits, a_switches, a_tool, a_inForce, a_origins, a_given, a_rows, a_probe, a_motions, a_thirds, a_centres, a_steps, a_paces, a_dwells, a_marks, a_nexts, a_joints) (nI n) (nI (n + 1)) (nI a)) (D2 : ∀ a, a < 3 → ∀ post : Int32 → Prop, post (ii_I (Q a)) → wpX_direction post (f_lines, f_fastest, f_gain, f_bend, f_ahead, f_mode, f_holds, f_pace, f_line, f_gone, f_dwellLeft, f_stepsInAll, f_ticksInAll, f_speed, f_present, f_laid, a_wordCounts, a_letters, a_values, a_limits, a_switches, a_tool, a_inForce, a_origins, a_given, a_rows, a_probe, a_motions, a_thirds, a_centres, a_steps, a_paces, a_dwells, a_marks, a_nexts, a_joints) (nI m) (nI m) (nI a))
    (h : post (jv_ f_bend P Q (a_paces n) (a_paces m))) : wpX_jointPace post (f_lines, f_fastest, f_gain, f_bend, f_ahead, f_mode, f_holds, f_pace, f_line, f_gone, f_dwellLeft, f_stepsInAll, f_ticksInAll, f_speed, f_present, f_laid, a_wordCounts, a_letters, a_values, a_limits, a_switches, a_tool, a_inForce, a_origins, a_given, a_rows, a_probe, a_motions, a_thirds, a_centres, a_steps, a_paces, a_dwells, a_marks, a_nexts, a_joints) (nI n) (nI m) := by
  have st : ∀ a f (x y z : Int), a < 3 → wX_jointPace_11 post (nI n) (nI m) f_lines f_fastest f_gain f_bend f_ahead f_mode f_holds f_pace f_line f_gone f_dwellLeft f_stepsInAll f_ticksInAll f_speed f_present f_laid a_wordCounts a_letters a_values a_limits a_switches a_tool a_inForce a_origins a_given a_rows a_probe a_motions a_thirds a_centres a_steps a_paces a_dwells a_marks a_nexts a_joints f (jl_J (x + P a * Q a)) (jl_J (y + P a * P a)) (jl_J (z + Q a * Q a)) (nI (a + 1)) → wX_jointPace_11 post (nI n) (nI m) f_lines f_fastest f_gain f_bend f_ahead f_mode f_holds f_pace f_line f_gone f_dwellLeft f_stepsInAll f_ticksInAll f_speed f_present f_laid a_wordCounts a_letters a_values a_limits a_switches a_tool a_inForce a_origins a_given a_rows a_probe a_motions a_thirds a_centres a_steps a_paces a_dwells a_marks a_nexts a_joints (f + 1) (jl_J x) (jl_J y) (jl_J z) (nI a) := by
    intro a f x y z ha k
    have p1 := hP a ha
    have q1 := hQ a ha
    refine br_f (ix_3a ha) ?_
    rw [nI_1 n]
    refine D1 a ha _ ?_
    refine D2 a ha _ ?_
    rw [jl_i (show ii_R (P a) by unfold ii_R; omega), jl_i (show ii_R (Q a) by unfold ii_R; omega), jl_mul, jl_mul, jl_mul, jl_add, jl_add, jl_add]
    exact nm_e (nm_e (nm_e (nm_r (nI_1 a) k)))
  refine ⟨4, st 0 3 0 0 0 (by decide) (st 1 2 _ _ _ (by decide) (st 2 1 _ _ _ (by decide) (br_t ix_33 ?_)))⟩
  have c := jv_b hP hQ
  have l0 : 0 < jl_J (jv_c P Q) ↔ 0 < jv_c P Q := jl_lt (a := 0) (by unfold jl_R; omega) (by unfold jl_R; omega)
  unfold jv_ at h
  rw [nI_clamp (show n < 2 ^ 31 by omega), nI_clamp (show m < 2 ^ 31 by omega)]
  refine br_c (fun g => ⟨vp_in_nI hn (by omega), vp_in_nI hm (by omega), br_c (fun k => ⟨vp_in_nI hm (by omega), ?_⟩) (fun k => ⟨vp_in_nI hn (by omega), ?_⟩)⟩) (fun g => ?_)
  · rw [if_pos (l0.mp g), if_pos k] at h; exact xj_113 hP hQ h
  · rw [if_pos (l0.mp g), if_neg k] at h; exact xj_113 hP hQ h
  · rw [if_neg (fun z => g (l0.mpr z))] at h; exact h
end
section
variable {f_lines f_fastest f_gain f_bend f_ahead f_speed f_seen f_state f_line f_pace f_left f_went f_allSteps f_allTicks f_u f_v f_holds : Int32} {a_letters a_values a_many a_tool a_began a_limit a_trips a_force a_origins a_here a_has a_grouped a_word a_from a_to a_steps a_paces a_dwells a_ends a_turn a_first a_second a_centre a_direction : Nat → Int32}
theorem yj_hd {post : SY → Prop} {n pl fa fb : Nat} {tu : Int32} {he to : Nat → Int32} {c d : Int} {e : Bool} (hn : n < 30) (hpl : pl ≤ 3) (hfa : fa < 3) (hfb : fb < 3) (hab : fb ≠ fa) (ht : a_turn n = tu)
    (hhe : ∀ a, a < 3 → a_from (3 * n + a) = he a) (hto : ∀ a, a < 3 → a_to (3 * n + a) = to a) (hc : ¬ tu = 0 → a_first n = nI fa ∧ a_second n = nI fb ∧ a_centre (2 * n) = ii_I c ∧ a_centre (2 * n + 1) = ii_I d)
    (h : ∀ D, (∀ a, a < 3 → D (pl + a) = ii_I (jd_ tu fa fb he to c d e a)) → (∀ k, (k < pl ∨ pl + 3 ≤ k) → D k = a_direction k) → post (f_lines, f_fastest, f_gain, f_bend, f_ahead, f_speed, f_seen, f_state, f_line, f_pace, f_left, f_went, f_allSteps, f_allTicks, f_u, f_v, f_holds, a_letters, a_values, a_many, a_tool, a_began, a_limit, a_trips, a_force, a_origins, a_here, a_has, a_grouped, a_word, a_from, a_to, a_steps, a_paces, a_dwells, a_ends, a_turn, a_first, a_second, a_centre, D)) :
    wpY_head post (f_lines, f_fastest, f_gain, f_bend, f_ahead, f_speed, f_seen, f_state, f_line, f_pace, f_left, f_went, f_allSteps, f_allTicks, f_u, f_v, f_holds, a_letters, a_values, a_many, a_tool, a_began, a_limit, a_trips, a_force, a_origins, a_here, a_has, a_grouped, a_word, a_from, a_to, a_steps, a_paces, a_dwells, a_ends, a_turn, a_first, a_second, a_centre, a_direction) (nI n) (bo_I e) (nI pl) := by
  have i30 : vp_in (nI n) 30 := vp_in_nI hn (by omega)
  have cl : (nI n).toNatClampNeg = n := nI_clamp (by omega)
  have st : ∀ a f D, a < 3 → wY_head_3 post (nI n) (bo_I e) (nI pl) f_lines f_fastest f_gain f_bend f_ahead f_speed f_seen f_state f_line f_pace f_left f_went f_allSteps f_allTicks f_u f_v f_holds f (nI (a + 1)) a_letters a_values a_many a_tool a_began a_limit a_trips a_force a_origins a_here a_has a_grouped a_word a_from a_to a_steps a_paces a_dwells a_ends a_turn a_first a_second a_centre (upd D (pl + a) (if tu = 0 then ii_I ((to a).toInt - (he a).toInt) else 0)) → wY_head_3 post (nI n) (bo_I e) (nI pl) f_lines f_fastest f_gain f_bend f_ahead f_speed f_seen f_state f_line f_pace f_left f_went f_allSteps f_allTicks f_u f_v f_holds (f + 1) (nI a) a_letters a_values a_many a_tool a_began a_limit a_trips a_force a_origins a_here a_has a_grouped a_word a_from a_to a_steps a_paces a_dwells a_ends a_turn a_first a_second a_centre D := by
    intro a f D ha k
    refine br_f (ix_3a ha) ⟨i30, ?_⟩
    rw [cl, ht, ix_y3, nI_add, nI_clamp (show 3 * n + a < 2 ^ 31 by omega), nI_clamp (show pl + a < 2 ^ 31 by omega), hhe a ha, hto a ha, ii_dd]
    refine br_c (fun z => ⟨vp_in_nI (by omega) (by omega), vp_in_nI (by omega) (by omega), vp_in_nI (by omega) (by omega), nm_e (nm_r (nI_1 a) ?_)⟩) (fun z => ⟨vp_in_nI (by omega) (by omega), nm_e (nm_r (nI_1 a) ?_)⟩)
    · rw [if_pos z] at k; exact k
    · rw [if_neg z] at k; exact k
  refine ⟨4, st 0 3 _ (by decide) (st 1 2 _ (by decide) (st 2 1 _ (by decide) (br_t ix_33 ⟨i30, ?_⟩)))⟩
  rw [cl, ht]
  refine br_c (fun z => h _ ?_ ?_) (fun z => ?_)
  · intro a ha
    unfold jd_
    rw [if_pos z, if_pos z, if_pos z, if_pos z]
    exact co_3 (P := fun a => upd (upd (upd a_direction (pl + 0) (ii_I ((to 0).toInt - (he 0).toInt))) (pl + 1) (ii_I ((to 1).toInt - (he 1).toInt))) (pl + 2) (ii_I ((to 2).toInt - (he 2).toInt)) (pl + a) = ii_I ((to a).toInt - (he a).toInt)) (by rw [pk_un (by omega), pk_un (by omega), pk_us]) (by rw [pk_un (by omega), pk_us]) pk_us ha
  · intro k hk
    rw [pk_un (by omega), pk_un (by omega), pk_un (by omega)]
  · obtain ⟨c1, c2, c3, c4⟩ := hc z
    rw [c1, c2]
    rw [if_neg z, if_neg z, if_neg z]
    refine ⟨i30, nm_e ⟨i30, nm_e ?_⟩⟩
    rw [ix_y3, nI_clamp (show 3 * n + fa < 2 ^ 31 by omega), hhe _ hfa, hto _ hfa]
    -- the base of the directions: nought on all three
    have B0 : ∀ a, a < 3 → upd (upd (upd a_direction (pl + 0) 0) (pl + 1) 0) (pl + 2) 0 (pl + a) = 0 := fun a ha => co_3 (P := fun a => upd (upd (upd a_direction (pl + 0) 0) (pl + 1) 0) (pl + 2) 0 (pl + a) = 0) (by rw [pk_un (by omega), pk_un (by omega), pk_us]) (by rw [pk_un (by omega), pk_us]) pk_us ha
    have B1 : ∀ k, (k < pl ∨ pl + 3 ≤ k) → upd (upd (upd a_direction (pl + 0) 0) (pl + 1) 0) (pl + 2) 0 k = a_direction k := by
      intro k hk
      rw [pk_un (by omega), pk_un (by omega), pk_un (by omega)]
    generalize upd (upd (upd a_direction (pl + 0) 0) (pl + 1) 0) (pl + 2) 0 = D0 at B0 B1 ⊢
    have fin : ∀ x y, (jd_ tu fa fb he to c d e fa = y) → (jd_ tu fa fb he to c d e fb = x) → post (f_lines, f_fastest, f_gain, f_bend, f_ahead, f_speed, f_seen, f_state, f_line, f_pace, f_left, f_went, f_allSteps, f_allTicks, f_u, f_v, f_holds, a_letters, a_values, a_many, a_tool, a_began, a_limit, a_trips, a_force, a_origins, a_here, a_has, a_grouped, a_word, a_from, a_to, a_steps, a_paces, a_dwells, a_ends, a_turn, a_first, a_second, a_centre, (upd (upd D0 (pl + fa) (ii_I y)) (pl + fb) (ii_I x))) := by
      intro x y ey ex
      refine h _ (fun a ha => ?_) (fun k hk => ?_)
      · by_cases w : a = fb
        · subst w; rw [pk_us, ex]
        · rw [pk_un (by omega)]
          by_cases w2 : a = fa
          · subst w2; rw [pk_us, ey]
          · rw [pk_un (by omega), B0 a ha]
            unfold jd_
            rw [if_neg z, if_neg w2, if_neg w]; rfl
      · rw [pk_un (by omega), pk_un (by omega)]; exact B1 k hk
    have g194 : ∀ x y y', x = ((if e = true then to else he) fa).toInt - c → y = ((if e = true then to else he) fb).toInt - d → y' = (if tu = 3 then -y else y) → wY_head_194 post (nI n) (nI pl) (nI fb) (ii_I x) (ii_I y') (nI (pl + fa)) f_lines f_fastest f_gain f_bend f_ahead f_speed f_seen f_state f_line f_pace f_left f_went f_allSteps f_allTicks f_u f_v f_holds a_letters a_values a_many a_tool a_began a_limit a_trips a_force a_origins a_here a_has a_grouped a_word a_from a_to a_steps a_paces a_dwells a_ends a_turn a_first a_second a_centre D0 := by
      intro x y y' e1 e2 e3
      unfold wY_head_194
      rw [cl, ht, nI_add, nI_clamp (show pl + fa < 2 ^ 31 by omega), nI_clamp (show pl + fb < 2 ^ 31 by omega)]
      refine ⟨vp_in_nI (by omega) (by omega), nm_e ⟨i30, br_c (fun w => ⟨vp_in_nI (by omega) (by omega), nm_e (fin x y' ?_ ?_)⟩) (fun w => ⟨vp_in_nI (by omega) (by omega), ?_⟩)⟩⟩
      · unfold jd_; rw [if_neg z, if_pos rfl, if_pos w, e3, if_pos w, e2]
      · unfold jd_; rw [if_neg z, if_neg hab, if_pos rfl, if_pos w, e1]
      · rw [ii_neg]
        refine nm_e (fin (-x) y' ?_ ?_)
        · unfold jd_; rw [if_neg z, if_pos rfl, if_neg w, e3, if_neg w, e2]
        · unfold jd_; rw [if_neg z, if_neg hab, if_pos rfl, if_neg w, e1]
    have g155 : ∀ x w, x = ((if e = true then to else he) fa).toInt - c → w = (if e = true then to else he) fb → wY_head_155 post (nI n) (nI pl) (nI fa) (nI fb) (ii_I x) w f_lines f_fastest f_gain f_bend f_ahead f_speed f_seen f_state f_line f_pace f_left f_went f_allSteps f_allTicks f_u f_v f_holds a_letters a_values a_many a_tool a_began a_limit a_trips a_force a_origins a_here a_has a_grouped a_word a_from a_to a_steps a_paces a_dwells a_ends a_turn a_first a_second a_centre D0 := by
      intro x w e1 e2
      subst e2
      unfold wY_head_155
      rw [ix_y21, nI_clamp (show 2 * n + 1 < 2 ^ 31 by omega), c4, ii_d, cl, ht, nI_add]
      refine ⟨vp_in_nI (by omega) (by omega), nm_e ⟨i30, br_c (fun w => ?_) (fun w => g194 x _ _ e1 rfl (by rw [if_neg w]))⟩⟩
      rw [ii_neg]
      exact g194 x _ _ e1 rfl (by rw [if_pos w])
    have g115 : ∀ w, w = (if e = true then to else he) fa → wY_head_115 post (nI n) (bo_I e) (nI pl) (nI fa) (nI fb) w f_lines f_fastest f_gain f_bend f_ahead f_speed f_seen f_state f_line f_pace f_left f_went f_allSteps f_allTicks f_u f_v f_holds a_letters a_values a_many a_tool a_began a_limit a_trips a_force a_origins a_here a_has a_grouped a_word a_from a_to a_steps a_paces a_dwells a_ends a_turn a_first a_second a_centre D0 := by
      intro w e2
      subst e2
      unfold wY_head_115
      rw [ix_y2, nI_clamp (show 2 * n < 2 ^ 31 by omega), c3, ii_d, ix_y3, nI_clamp (show 3 * n + fb < 2 ^ 31 by omega), hhe _ hfb, hto _ hfb]
      refine ⟨vp_in_nI (by omega) (by omega), nm_e (br_c (fun w => ⟨vp_in_nI (by omega) (by omega), g155 _ _ rfl ?_⟩) (fun w => ⟨vp_in_nI (by omega) (by omega), g155 _ _ rfl ?_⟩))⟩
      · rw [bo_yf w]; rfl
      · rw [bo_nf w]; rfl
    refine br_c (fun w => ⟨vp_in_nI (by omega) (by omega), g115 _ ?_⟩) (fun w => ⟨vp_in_nI (by omega) (by omega), g115 _ ?_⟩)
    · rw [bo_yf w]; rfl
    · rw [bo_nf w]; rfl
theorem yj_25 {post : Int32 → SY → Prop} {n m : Nat} {P Q : Nat → Int} (hn : n < 30) (hm : m < 30) (hP : ∀ a, a < 3 → -2000 ≤ P a ∧ P a ≤ 2000) (hQ : ∀ a, a < 3 → -2000 ≤ Q a ∧ Q a ≤ 2000)
    (d1 : ∀ a, a < 3 → a_direction a = ii_I (P a)) (d2 : ∀ a, a < 3 → a_direction (3 + a) = ii_I (Q a))
    (h : post (jv_ f_bend P Q (a_paces n) (a_paces m)) (f_lines, f_fastest, f_gain, f_bend, f_ahead, f_speed, f_seen, f_state, f_line, f_pace, f_left, f_went, f_allSteps, f_allTicks, f_u, f_v, f_holds, a_letters, a_values, a_many, a_tool, a_began, a_limit, a_trips, a_force, a_origins, a_here, a_has, a_grouped, a_word, a_from, a_to, a_steps, a_paces, a_dwells, a_ends, a_turn, a_first, a_second, a_centre, a_direction)) : ∃ k, wY_jointPace_25 post (nI n) (nI m) f_lines f_fastest f_gain f_bend f_ahead f_speed f_seen f_state f_line f_pace f_left f_went f_allSteps f_allTicks f_u f_v f_holds a_letters a_values a_many a_tool a_began a_limit a_trips a_force a_origins a_here a_has a_grouped a_word a_from a_to a_steps a_paces a_dwells a_ends a_turn a_first a_second a_centre a_direction k 0 0 0 0 := by
  have st : ∀ a f (x y z : Int), a < 3 → wY_jointPace_25 post (nI n) (nI m) f_lines f_fastest f_gain f_bend f_ahead f_speed f_seen f_state f_line f_pace f_left f_went f_allSteps f_allTicks f_u f_v f_holds a_letters a_values a_many a_tool a_began a_limit a_trips a_force a_origins a_here a_has a_grouped a_word a_from a_to a_steps a_paces a_dwells a_ends a_turn a_first a_second a_centre a_direction f (jl_J (x + P a * Q a)) (jl_J (y + P a * P a)) (jl_J (z + Q a * Q a)) (nI (a + 1)) → wY_jointPace_25 post (nI n) (nI m) f_lines f_fastest f_gain f_bend f_ahead f_speed f_seen f_state f_line f_pace f_left f_went f_allSteps f_allTicks f_u f_v f_holds a_letters a_values a_many a_tool a_began a_limit a_trips a_force a_origins a_here a_has a_grouped a_word a_from a_to a_steps a_paces a_dwells a_ends a_turn a_first a_second a_centre a_direction (f + 1) (jl_J x) (jl_J y) (jl_J z) (nI a) := by
    intro a f x y z ha k
    have p1 := hP a ha
    have q1 := hQ a ha
    have m1 := jv_m p1 q1
    have m2 := jv_m p1 p1
    have m3 := jv_m q1 q1
    refine br_f (ix_3a ha) ?_
    rw [show (3 : Int32) + nI a = nI (3 + a) from nI_add 3 a, nI_clamp (show a < 2 ^ 31 by omega), nI_clamp (show 3 + a < 2 ^ 31 by omega), d1 a ha, d2 a ha, ii_mul, ii_mul, ii_mul, jl_i (show ii_R (P a * Q a) by unfold ii_R; omega), jl_i (show ii_R (P a * P a) by unfold ii_R; omega), jl_i (show ii_R (Q a * Q a) by unfold ii_R; omega), jl_add, jl_add, jl_add]
    exact ⟨vp_in_nI (by omega) (by omega), vp_in_nI (by omega) (by omega), nm_e ⟨vp_in_nI (by omega) (by omega), vp_in_nI (by omega) (by omega), nm_e ⟨vp_in_nI (by omega) (by omega), vp_in_nI (by omega) (by omega), nm_e (nm_r (nI_1 a) k)⟩⟩⟩
  refine ⟨4, st 0 3 0 0 0 (by decide) (st 1 2 _ _ _ (by decide) (st 2 1 _ _ _ (by decide) (br_t ix_33 ?_)))⟩
  unfold jv_ at h
  rw [nI_clamp (show n < 2 ^ 31 by omega), nI_clamp (show m < 2 ^ 31 by omega)]
  refine ⟨vp_in_nI hn (by omega), vp_in_nI hm (by omega), br_c (fun k => ⟨vp_in_nI hm (by omega), ?_⟩) (fun k => ⟨vp_in_nI hn (by omega), ?_⟩)⟩
  · rw [if_pos k] at h; exact yj_134 hP hQ h
  · rw [if_neg k] at h; exact yj_134 hP hQ h
end
end JDR
end
section
section RN0
theorem jv_rng {bend : Int32} {P Q : Nat → Int} {p1 p2 : Int32} (hP : ∀ a, a < 3 → -2000 ≤ P a ∧ P a ≤ 2000) (hQ : ∀ a, a < 3 → -2000 ≤ Q a ∧ Q a ≤ 2000) (hb : 0 ≤ bend.toInt ∧ bend.toInt ≤ 2000)
    (h1 : ∃ k, k ≤ 2000 ∧ p1 = nI k) (h2 : ∃ k, k ≤ 2000 ∧ p2 = nI k) : ∃ k, k ≤ 2000 ∧ jv_ bend P Q p1 p2 = nI k := by
  have hz : ∃ k, k ≤ 2000 ∧ (if p2 ≤ p1 then p2 else p1) = nI k := by
    split
    · exact h2
    · exact h1
  unfold jv_
  generalize (if p2 ≤ p1 then p2 else p1) = z at hz
  obtain ⟨kz, kz1, kz2⟩ := hz
  split
  · rename_i c0
    split
    · rename_i c1
      split
      · exact ⟨kz, kz1, kz2⟩
      · rename_i c2
        have cb := jv_b hP hQ
        have rb := jv_rb (P := P) (Q := Q)
        obtain ⟨b, hb1, hb2⟩ := nI_of (x := bend) (by rw [fc_lt, fc_0]; omega)
        have hb3 : b ≤ 2000 := by
          have := hb.2
          rw [hb2, nI_toInt hb1] at this
          omega
        obtain ⟨C, hC⟩ : ∃ C : Nat, (C : Int) = jv_c P Q := ⟨(jv_c P Q).toNat, Int.toNat_of_nonneg (by omega)⟩
        have e1 : bend.toInt64 * jl_J (jv_c P Q) = lN (b * C) := by
          rw [hb2, nI_l hb1, ← hC, ← jl_n, lN_mul]
        have e2 : jl_J (jv_r P Q : Int) - jl_J (jv_c P Q) = lN (jv_r P Q - C) := by
          rw [← hC, ← jl_n, ← jl_n, lN_sub (by omega)]
        have m : b * C ≤ 2000 * 12000000 := Nat.mul_le_mul hb3 (by omega)
        rw [e1, e2, pk_lDiv (by omega) (by omega) (by omega)] at c2 ⊢
        have q : b * C / (jv_r P Q - C) ≤ b * C := Nat.div_le_self _ _
        rw [kz2, nI_l (by omega), pk_lLE (by omega) (by omega)] at c2
        exact ⟨b * C / (jv_r P Q - C), by omega, lN_i _⟩
    · exact ⟨kz, kz1, kz2⟩
  · exact ⟨0, by omega, rfl⟩
theorem sg_mx0 {he to : Nat → Int32} (h : ∀ a, a < 3 → to a = he a) : sg_mx he to = 0 := by
  unfold sg_mx sg_dd
  rw [h 0 (by decide), h 1 (by decide), h 2 (by decide)]
  simp
section
variable {L V M lim s0 : Nat → Int32} {fs : Int32}
theorem rn_st (wf : ci_WF L V M lim) {n : Nat} (c : ci_I L V M lim s0 n) (w : px_why L V M lim s0 n = 0) : px_st L V M lim s0 n ≤ 3000 ∧ (¬ px_tu L V M s0 n = 0 → 0 < px_st L V M lim s0 n) := by
  have c1 := ci_s wf c w
  unfold px_st
  by_cases t : px_tu L V M s0 n = 0
  · rw [if_pos t]
    refine ⟨?_, fun z => absurd t z⟩
    have k : ∀ a, a < 3 → sg_dd (px_he L V M s0 n) (px_he L V M s0 (n + 1)) a ≤ 1000 := by
      intro a ha
      have := ci_he1 wf c a ha
      have := ci_he1 wf c1 a ha
      unfold sg_dd
      omega
    have k0 := k 0 (by decide)
    have k1 := k 1 (by decide)
    have k2 := k 2 (by decide)
    unfold px_mx sg_mx
    omega
  · rw [if_neg t]
    obtain ⟨b, r⟩ := (ci_why w).2.2.2.2 t
    obtain ⟨k1, k2, _, _⟩ := pl_wk0 3000 0 _ _ (px_wr L V M lim s0 n).2 (Prod.ext r rfl : px_wr L V M lim s0 n = (0, (px_wr L V M lim s0 n).2))
    exact ⟨by omega, fun _ => k1⟩
/-- a line that does not move and is not HOME stays -/
theorem rn_stay {n : Nat} (w : px_why L V M lim s0 n = 0) (hm : pl_mv (px_F L V M s0 n) (px_H L M n) = false) (h28 : ¬ px_F L V M s0 n 5 = 28) : px_st L V M lim s0 n = 0 := by
  have hF := fc_F L V M s0 n
  have t : px_tu L V M s0 n = 0 := by
    unfold px_tu pl_tu
    rw [if_neg (fun z => by rw [hm] at z; exact absurd z.1 (by decide))]
  unfold px_st
  rw [if_pos t]
  refine sg_mx0 (fun a ha => ?_)
  show pl_to (px_F L V M s0 n) (px_H L M n) (px_W L V M n) (px_og L V M s0 n) (px_he L V M s0 n) a = _
  unfold pl_to
  cases e : px_H L M n (2 + a)
  · rw [if_pos rfl]
  · rw [if_neg (by decide)]
    have na : pl_na (px_H L M n) = true := by
      unfold pl_na
      match a, ha with
      | 0, _ => rw [show px_H L M n 2 = true from e]; rfl
      | 1, _ => rw [show px_H L M n 3 = true from e]; simp
      | 2, _ => rw [show px_H L M n 4 = true from e]; simp
    have mi := (ci_why w).2.2.1
    obtain ⟨_, _, q3, _⟩ := mi_3 (post := fun r => r = 0) mi
    have n4 : ¬ px_F L V M s0 n 5 = 4 := fun z => absurd (q3 (Or.inl ⟨na, z⟩)) (by decide)
    have nm := of_decide_eq_false hm
    rcases fv_5 hF with z | z | z | z | z
    · exact absurd ⟨Or.inl (by rw [z]; decide), Or.inl na⟩ nm
    · exact absurd z n4
    · exact absurd z h28
    · exact absurd ⟨Or.inr z, Or.inl na⟩ nm
    · rw [if_pos z]
theorem rn_dw {n : Nat} (w : px_why L V M lim s0 n = 0) (h : 0 < px_dw L V M s0 n) : px_st L V M lim s0 n = 0 := by
  have hF := fc_F L V M s0 n
  have e4 : px_F L V M s0 n 5 = 4 := by
    refine Decidable.byContradiction (fun z => ?_)
    unfold px_dw pl_dw at h
    rw [if_neg z] at h
    exact absurd h (by decide)
  refine rn_stay w (decide_eq_false ?_) (by rw [e4]; decide)
  rw [e4]
  rintro ⟨z | z, _⟩
  · exact absurd z (by decide)
  · exact absurd z (by decide)
theorem rn_mo {n : Nat} (w : px_why L V M lim s0 n = 0) (h : 0 < px_st L V M lim s0 n) :
    (px_tu L V M s0 n = 0 ∧ ¬ 2 ≤ (if px_F L V M s0 n 5 = 28 then 0 else px_F L V M s0 n 0)) ∨ (¬ px_tu L V M s0 n = 0 ∧ (if px_F L V M s0 n 5 = 28 then 0 else px_F L V M s0 n 0) = px_tu L V M s0 n ∧ (px_tu L V M s0 n = 2 ∨ px_tu L V M s0 n = 3)) := by
  have hF := fc_F L V M s0 n
  by_cases m : pl_mv (px_F L V M s0 n) (px_H L M n) = true ∧ 1 < px_F L V M s0 n 0
  · refine Or.inr ?_
    have t : px_tu L V M s0 n = px_F L V M s0 n 0 := if_pos m
    have n28 : ¬ px_F L V M s0 n 5 = 28 := by
      intro z
      have := (of_decide_eq_true m.1).1
      rw [z] at this
      exact absurd this (by decide)
    rw [if_neg n28, t]
    have g := m.2
    rcases fv_0 hF with z | z | z | z <;> rw [z] at g ⊢
    · exact absurd g (by decide)
    · exact absurd g (by decide)
    · exact ⟨by decide, rfl, Or.inl rfl⟩
    · exact ⟨by decide, rfl, Or.inr rfl⟩
  · have t : px_tu L V M s0 n = 0 := if_neg m
    refine Or.inl ⟨t, fun z => ?_⟩
    by_cases n28 : px_F L V M s0 n 5 = 28
    · rw [if_pos n28] at z; exact absurd z (by decide)
    · rw [if_neg n28] at z
      have g : 1 < px_F L V M s0 n 0 := by
        rcases fv_0 hF with y | y | y | y <;> rw [y] at z ⊢ <;> first | decide | exact absurd z (by decide)
      have mv : pl_mv (px_F L V M s0 n) (px_H L M n) = false := by
        cases e : pl_mv (px_F L V M s0 n) (px_H L M n)
        · rfl
        · exact absurd ⟨e, g⟩ m
      have := rn_stay w mv n28
      omega
theorem rn_cd (wf : ci_WF L V M lim) {n : Nat} (c : ci_I L V M lim s0 n) (w : px_why L V M lim s0 n = 0) (t : ¬ px_tu L V M s0 n = 0) : (-300 ≤ px_c L V M s0 n ∧ px_c L V M s0 n ≤ 1300) ∧ (-300 ≤ px_d L V M s0 n ∧ px_d L V M s0 n ≤ 1300) ∧
    (-300 ≤ px_p L V M s0 n ∧ px_p L V M s0 n ≤ 300) ∧ (-300 ≤ px_q L V M s0 n ∧ px_q L V M s0 n ≤ 300) := by
  obtain ⟨b, r⟩ := (ci_why w).2.2.2.2 t
  obtain ⟨b1, b2, b3, b4⟩ := ci_b5 b
  have hF := fc_F L V M s0 n
  obtain ⟨ta, tb, _, _⟩ := fv_tr hF
  have ha := ci_he1 wf c _ ta
  have hb := ci_he1 wf c _ tb
  have q1 := wk_sqb (u := px_p L V M s0 n) (B := (px_p L V M s0 n).natAbs) (by omega)
  have q2 := wk_sqb (u := px_q L V M s0 n) (B := (px_q L V M s0 n).natAbs) (by omega)
  unfold px_far at b3
  have p3 : -300 ≤ px_p L V M s0 n ∧ px_p L V M s0 n ≤ 300 := by
    have a1 := wk_sl (x := px_p L V M s0 n) (y := 301) (by omega) (by omega)
    have a2 := wk_sl (x := -px_p L V M s0 n) (y := 301) (by omega) (by rw [Int.neg_mul_neg]; omega)
    omega
  have q3 : -300 ≤ px_q L V M s0 n ∧ px_q L V M s0 n ≤ 300 := by
    have a1 := wk_sl (x := px_q L V M s0 n) (y := 301) (by omega) (by omega)
    have a2 := wk_sl (x := -px_q L V M s0 n) (y := 301) (by omega) (by rw [Int.neg_mul_neg]; omega)
    omega
  unfold px_c px_d
  omega
theorem rn_pc (wf : ci_WF L V M lim) {n : Nat} (c : ci_I L V M lim s0 n) (w : px_why L V M lim s0 n = 0) (hf : 1 ≤ fs.toInt ∧ fs.toInt ≤ 2000) : ∃ k, k ≤ 2000 ∧ px_pc L V M fs s0 n = nI k := by
  have cs := (ci_s wf c w).1
  have cs' : 0 ≤ (px_S L V M s0 n).toInt ∧ (px_S L V M s0 n).toInt ≤ 1000 := cs
  have key : ∀ x : Int32, 0 ≤ x.toInt ∧ x.toInt ≤ 2000 → ∃ k, k ≤ 2000 ∧ x = nI k := by
    intro x hx
    obtain ⟨k, h1, h2⟩ := nI_of (x := x) (by rw [fc_lt, fc_0]; omega)
    refine ⟨k, ?_, h2⟩
    have := hx.2
    rw [h2, nI_toInt h1] at this
    omega
  unfold px_pc pl_pc
  split
  · exact key _ (by omega)
  · exact key _ (by omega)
theorem rn_en (n : Nat) : px_en L V M n = 0 ∨ px_en L V M n = 1 ∨ px_en L V M n = 2 := by
  unfold px_en pl_en
  split
  · exact Or.inl rfl
  · split
    · exact Or.inr (Or.inl rfl)
    · exact Or.inr (Or.inr rfl)
end
/-! the blocks of a program that is laid out: N lines -/
section
variable (L V M lim s0 : Nat → Int32) (fs : Int32)
def rn_d (n : Nat) : Bool := decide (0 < px_dw L V M s0 n)
def rn_x (N n : Nat) : Option Nat := nj_o N (px_st L V M lim s0) (rn_d L V M s0) (px_en L V M) 30 n
def rn_D (n : Nat) (e : Bool) : Nat → Int := jd_ (px_tu L V M s0 n) (pl_fa (px_F L V M s0 n)) (pl_fb (px_F L V M s0 n)) (px_he L V M s0 n) (px_he L V M s0 (n + 1)) (px_c L V M s0 n) (px_d L V M s0 n) e
def rn_P (bend : Int32) (n m : Nat) : Int32 := jv_ bend (rn_D L V M s0 n true) (rn_D L V M s0 m false) (px_pc L V M fs s0 n) (px_pc L V M fs s0 m)
def rn_j (bend : Int32) (N n : Nat) : Nat := match rn_x L V M lim s0 N n with | none => 0 | some m => (rn_P L V M s0 fs bend n m).toNatClampNeg
end
/-- all that is laid out, and its bounds -/
def rn_K (L V M lim s0 : Nat → Int32) (fs bend : Int32) (N : Nat) : Prop :=
  ci_WF L V M lim ∧ (∀ a, a < 3 → 0 ≤ (s0 a).toInt ∧ (s0 a).toInt ≤ (lim a).toInt) ∧ (1 ≤ fs.toInt ∧ fs.toInt ≤ 2000) ∧ (0 ≤ bend.toInt ∧ bend.toInt ≤ 2000) ∧ N ≤ 30 ∧
  (∀ m, m < N → px_why L V M lim s0 m = 0) ∧ (∀ m, m + 1 < N → ¬ px_en L V M m = 2)
section
variable {L V M lim s0 : Nat → Int32} {fs bend : Int32} {N : Nat}
theorem rk_ci (K : rn_K L V M lim s0 fs bend N) {n : Nat} (hn : n ≤ N) : ci_I L V M lim s0 n := ci_n K.1 K.2.1 n (fun m hm => K.2.2.2.2.2.1 m (by omega))
theorem rk_w (K : rn_K L V M lim s0 fs bend N) {n : Nat} (hn : n < N) : px_why L V M lim s0 n = 0 := K.2.2.2.2.2.1 n hn
theorem rk_D (K : rn_K L V M lim s0 fs bend N) {n : Nat} (hn : n < N) (e : Bool) : ∀ a, a < 3 → -2000 ≤ rn_D L V M s0 n e a ∧ rn_D L V M s0 n e a ≤ 2000 := by
  have hF := fc_F L V M s0 n
  obtain ⟨ta, tb, _, _⟩ := fv_tr hF
  exact jd_b ta tb (ci_he1 K.1 (rk_ci K (by omega))) (ci_he1 K.1 (rk_ci K (n := n + 1) (by omega))) (fun t => (rn_cd K.1 (rk_ci K (by omega)) (rk_w K hn) t).1) (fun t => (rn_cd K.1 (rk_ci K (by omega)) (rk_w K hn) t).2.1)
theorem rk_P (K : rn_K L V M lim s0 fs bend N) {n m : Nat} (hn : n < N) (hm : m < N) : ∃ k, k ≤ 2000 ∧ rn_P L V M s0 fs bend n m = nI k :=
  jv_rng (rk_D K hn true) (rk_D K hm false) K.2.2.2.1 (rn_pc K.1 (rk_ci K (by omega)) (rk_w K hn) K.2.2.1) (rn_pc K.1 (rk_ci K (by omega)) (rk_w K hm) K.2.2.1)
theorem rk_x (n m : Nat) (h : rn_x L V M lim s0 N n = some m) : n < m ∧ m < N ∧ 0 < px_st L V M lim s0 m := nj_lt 30 n m h
theorem rk_j (K : rn_K L V M lim s0 fs bend N) {n : Nat} (hn : n < N) : rn_j L V M lim s0 fs bend N n ≤ 2000 ∧ (∀ m, rn_x L V M lim s0 N n = some m → rn_P L V M s0 fs bend n m = nI (rn_j L V M lim s0 fs bend N n)) := by
  unfold rn_j
  cases e : rn_x L V M lim s0 N n with
  | none => exact ⟨by simp, fun m h => by simp at h⟩
  | some m =>
    obtain ⟨k, k1, k2⟩ := rk_P K hn (rk_x n m e).2.1
    refine ⟨?_, fun m' h => ?_⟩
    · show (rn_P L V M s0 fs bend n m).toNatClampNeg ≤ 2000
      rw [k2, nI_clamp (by omega)]; exact k1
    · obtain rfl : m = m' := Option.some.inj h
      show _ = nI (rn_P L V M s0 fs bend n m).toNatClampNeg
      rw [k2, nI_clamp (by omega)]
theorem rk_e (K : rn_K L V M lim s0 fs bend N) : ∀ m, m < N → px_en L V M m = 0 ∨ px_en L V M m = 1 ∨ (px_en L V M m = 2 ∧ m + 1 = N) := by
  intro m hm
  rcases rn_en (L := L) (V := V) (M := M) m with z | z | z
  · exact Or.inl z
  · exact Or.inr (Or.inl z)
  · refine Or.inr (Or.inr ⟨z, ?_⟩)
    have := K.2.2.2.2.2.2 m
    by_cases c : m + 1 < N
    · exact absurd z (this c)
    · omega
theorem rk_dx (K : rn_K L V M lim s0 fs bend N) : ∀ m, m < N → rn_d L V M s0 m = true → px_st L V M lim s0 m = 0 := fun m hm h => rn_dw (rk_w K hm) (of_decide_eq_true h)
theorem rk_s (K : rn_K L V M lim s0 fs bend N) {n : Nat} (hn : n < N) : px_st L V M lim s0 n ≤ 3000 := (rn_st K.1 (rk_ci K (by omega)) (rk_w K hn)).1
end
end RN0
end
section
section XPC
def xr_ (L V M lim s0 : Nat → Int32) (fs bend : Int32) (N : Nat) (la : Int32) (ro mo th ce st pc dw mk nx jo : Nat → Int32) : Prop :=
  la = nI N ∧ xz_L L V M lim fs s0 N ro mo th ce st pc dw mk ∧
  (∀ n, n < N → nx n = (if px_st L V M lim s0 n = 0 then -1 else nj_I (rn_x L V M lim s0 N n)) ∧ jo n = (if px_st L V M lim s0 n = 0 then 0 else nI (rn_j L V M lim s0 fs bend N n)))
theorem nj_Im (m : Nat) (h : m < 2 ^ 31) : ¬ nj_I (some m) = -1 := by
  intro z
  have z' : nI m = -1 := z
  have := nI_pos (n := m) h
  rw [z'] at this
  exact this (by decide)
section
variable {f_lines f_fastest f_gain f_bend f_ahead f_mode f_holds f_pace f_line f_gone f_dwellLeft f_stepsInAll f_ticksInAll f_speed f_present f_laid : Int32} {a_wordCounts a_letters a_values a_limits a_switches a_tool a_inForce a_origins a_given a_rows a_probe a_motions a_thirds a_centres a_steps a_paces a_dwells a_marks a_nexts a_joints : Nat → Int32}
theorem xf_jp {post : Int32 → Prop} {s0 : Nat → Int32} {N n m : Nat} (K : rn_K a_letters a_values a_wordCounts a_limits s0 f_fastest f_bend N) (hX : xz_L a_letters a_values a_wordCounts a_limits f_fastest s0 N a_rows a_motions a_thirds a_centres a_steps a_paces a_dwells a_marks)
    (hn : n < N) (hm : m < N) (sn : 0 < px_st a_letters a_values a_wordCounts a_limits s0 n) (sm : 0 < px_st a_letters a_values a_wordCounts a_limits s0 m)
    (h : post (rn_P a_letters a_values a_wordCounts s0 f_fastest f_bend n m)) : wpX_jointPace post (f_lines, f_fastest, f_gain, f_bend, f_ahead, f_mode, f_holds, f_pace, f_line, f_gone, f_dwellLeft, f_stepsInAll, f_ticksInAll, f_speed, f_present, f_laid, a_wordCounts, a_letters, a_values, a_limits, a_switches, a_tool, a_inForce, a_origins, a_given, a_rows, a_probe, a_motions, a_thirds, a_centres, a_steps, a_paces, a_dwells, a_marks, a_nexts, a_joints) (nI n) (nI m) := by
  have N30 : N ≤ 30 := K.2.2.2.2.1
  have di : ∀ k, k < N → 0 < px_st a_letters a_values a_wordCounts a_limits s0 k → ∀ (e : Bool) row, (row = if e = true then k + 1 else k) → ∀ a, a < 3 → ∀ post : Int32 → Prop, post (ii_I (rn_D a_letters a_values a_wordCounts s0 k e a)) → wpX_direction post (f_lines, f_fastest, f_gain, f_bend, f_ahead, f_mode, f_holds, f_pace, f_line, f_gone, f_dwellLeft, f_stepsInAll, f_ticksInAll, f_speed, f_present, f_laid, a_wordCounts, a_letters, a_values, a_limits, a_switches, a_tool, a_inForce, a_origins, a_given, a_rows, a_probe, a_motions, a_thirds, a_centres, a_steps, a_paces, a_dwells, a_marks, a_nexts, a_joints) (nI k) (nI row) (nI a) := by
    intro k hk sk e row hrow a ha post hp
    have hF := fc_F a_letters a_values a_wordCounts s0 k
    obtain ⟨_, hth, efa, efb⟩ := fv_ft hF
    obtain ⟨y1, y2, y3, y4, y5, y6, y7⟩ := hX.2 k hk
    refine xj_di (tu := px_tu a_letters a_values a_wordCounts s0 k) (he := px_he a_letters a_values a_wordCounts s0 k) (to := px_he a_letters a_values a_wordCounts s0 (k + 1)) (c := px_c a_letters a_values a_wordCounts s0 k) (d := px_d a_letters a_values a_wordCounts s0 k) (by omega) hrow hth ha y2 ?_ (hX.1 k (by omega)) (hX.1 (k + 1) (by omega)) y7 ?_
    · rw [y1]; exact rn_mo (rk_w K hk) sk
    · rw [efa, efb]; exact hp
  obtain ⟨_, _, _, z4, _⟩ := hX.2 n hn
  obtain ⟨_, _, _, w4, _⟩ := hX.2 m hm
  refine xj_11 (by omega) (by omega) (rk_D K hn true) (rk_D K hm false) (di n hn sn true (n + 1) rfl) (di m hm sm false m rfl) ?_
  rw [z4, w4]; exact h
theorem xf_fj {post : SX → Prop} {s0 : Nat → Int32} {N : Nat} (eN : f_laid = nI N) (K : rn_K a_letters a_values a_wordCounts a_limits s0 f_fastest f_bend N) (hX : xz_L a_letters a_values a_wordCounts a_limits f_fastest s0 N a_rows a_motions a_thirds a_centres a_steps a_paces a_dwells a_marks)
    (h : ∀ NX JO, xr_ a_letters a_values a_wordCounts a_limits s0 f_fastest f_bend N f_laid a_rows a_motions a_thirds a_centres a_steps a_paces a_dwells a_marks NX JO → post (f_lines, f_fastest, f_gain, f_bend, f_ahead, f_mode, f_holds, f_pace, f_line, f_gone, f_dwellLeft, f_stepsInAll, f_ticksInAll, f_speed, f_present, f_laid, a_wordCounts, a_letters, a_values, a_limits, a_switches, a_tool, a_inForce, a_origins, a_given, a_rows, a_probe, a_motions, a_thirds, a_centres, a_steps, a_paces, a_dwells, a_marks, NX, JO)) :
    wpX_findJoints post (f_lines, f_fastest, f_gain, f_bend, f_ahead, f_mode, f_holds, f_pace, f_line, f_gone, f_dwellLeft, f_stepsInAll, f_ticksInAll, f_speed, f_present, f_laid, a_wordCounts, a_letters, a_values, a_limits, a_switches, a_tool, a_inForce, a_origins, a_given, a_rows, a_probe, a_motions, a_thirds, a_centres, a_steps, a_paces, a_dwells, a_marks, a_nexts, a_joints) := by
  have N30 : N ≤ 30 := K.2.2.2.2.1
  have lp : ∀ d n NX JO, n + d = N → (∀ k, k < n → NX k = (if px_st a_letters a_values a_wordCounts a_limits s0 k = 0 then -1 else nj_I (rn_x a_letters a_values a_wordCounts a_limits s0 N k)) ∧ JO k = (if px_st a_letters a_values a_wordCounts a_limits s0 k = 0 then 0 else nI (rn_j a_letters a_values a_wordCounts a_limits s0 f_fastest f_bend N k))) →
      wX_findJoints_2 post f_lines f_fastest f_gain f_bend f_ahead f_mode f_holds f_pace f_line f_gone f_dwellLeft f_stepsInAll f_ticksInAll f_speed f_present f_laid (d + 1) (nI n) a_wordCounts a_letters a_values a_limits a_switches a_tool a_inForce a_origins a_given a_rows a_probe a_motions a_thirds a_centres a_steps a_paces a_dwells a_marks NX JO := by
    intro d
    induction d with
    | zero =>
      intro n NX JO hn hJ
      obtain rfl : n = N := by omega
      exact br_t (by rw [eN]; exact nI_le (Nat.le_refl _) (by omega)) (h NX JO ⟨eN, hX, hJ⟩)
    | succ d ih =>
      intro n NX JO hn hJ
      have hnN : n < N := by omega
      have i30 : vp_in (nI n) 30 := vp_in_nI (by omega) (by omega)
      have nxt : ∀ x y, x = (if px_st a_letters a_values a_wordCounts a_limits s0 n = 0 then -1 else nj_I (rn_x a_letters a_values a_wordCounts a_limits s0 N n)) → y = (if px_st a_letters a_values a_wordCounts a_limits s0 n = 0 then 0 else nI (rn_j a_letters a_values a_wordCounts a_limits s0 f_fastest f_bend N n)) →
          wX_findJoints_2 post f_lines f_fastest f_gain f_bend f_ahead f_mode f_holds f_pace f_line f_gone f_dwellLeft f_stepsInAll f_ticksInAll f_speed f_present f_laid (d + 1) (nI (n + 1)) a_wordCounts a_letters a_values a_limits a_switches a_tool a_inForce a_origins a_given a_rows a_probe a_motions a_thirds a_centres a_steps a_paces a_dwells a_marks (upd NX n x) (upd JO n y) := by
        intro x y ex ey
        refine ih (n + 1) _ _ (by omega) (fun k hk => ?_)
        by_cases e : k = n
        · subst e; rw [pk_us, pk_us]; exact ⟨ex, ey⟩
        · rw [pk_un e, pk_un e]; exact hJ k (by omega)
      refine br_f (by rw [eN]; exact nI_ge hnN (by omega)) ?_
      refine xj_jt (s := px_st a_letters a_values a_wordCounts a_limits s0) (d := rn_d a_letters a_values a_wordCounts s0) (e := px_en a_letters a_values a_wordCounts) N30 eN (fun m hm => ⟨(hX.2 m hm).2.2.1, by have := rk_s K hm; omega⟩) (fun m hm => ?_) (fun m hm => ?_) (rk_e K) (rk_dx K) hnN ?_
      · rw [(hX.2 m hm).2.2.2.2.1]; exact decide_eq_true_iff
      · rw [(hX.2 m hm).2.2.2.2.2.1]; exact (px_mark K.1.1 (ci_why (rk_w K hm)).1).2
      · have ex : nj_o N (px_st a_letters a_values a_wordCounts a_limits s0) (rn_d a_letters a_values a_wordCounts s0) (px_en a_letters a_values a_wordCounts) 30 n = rn_x a_letters a_values a_wordCounts a_limits s0 N n := rfl
        rw [nI_clamp (show n < 2 ^ 31 by omega), ex]
        refine ⟨i30, nm_e ?_⟩
        by_cases s : px_st a_letters a_values a_wordCounts a_limits s0 n = 0
        · rw [if_pos s]
          exact br_t rfl ⟨i30, nm_e (nm_r (nI_1 n) (nxt _ _ (by rw [if_pos s]) (by rw [if_pos s])))⟩
        · rw [if_neg s]
          cases e : rn_x a_letters a_values a_wordCounts a_limits s0 N n with
          | none =>
            refine br_t rfl ⟨i30, nm_e (nm_r (nI_1 n) (nxt _ _ (by rw [if_neg s, e]) ?_))⟩
            rw [if_neg s]
            unfold rn_j
            rw [e]; rfl
          | some m =>
            obtain ⟨m1, m2, m3⟩ := rk_x n m e
            refine br_f (nj_Im m (by omega)) ?_
            refine xf_jp (m := m) K hX hnN m2 (by omega) m3 ?_
            refine ⟨i30, nm_e (nm_r (nI_1 n) (nxt _ _ (by rw [if_neg s, e]) ?_))⟩
            rw [if_neg s]
            exact (rk_j K hnN).2 m e
  exact ⟨N + 1, lp N 0 _ _ (by omega) (fun k hk => absurd hk (by omega))⟩
theorem xp_sl {post : Int32 → Prop} {g u far w : Nat} (eg : f_gain = nI g) (hg : 0 < g ∧ g ≤ 200) (hu : u ≤ 2200) (hf : far < 2 ^ 30) (hw : w ≤ 2000)
    (h : post (nI (sp_gr (sp_fit g far w) u))) : wpX_slowedFor post (f_lines, f_fastest, f_gain, f_bend, f_ahead, f_mode, f_holds, f_pace, f_line, f_gone, f_dwellLeft, f_stepsInAll, f_ticksInAll, f_speed, f_present, f_laid, a_wordCounts, a_letters, a_values, a_limits, a_switches, a_tool, a_inForce, a_origins, a_given, a_rows, a_probe, a_motions, a_thirds, a_centres, a_steps, a_paces, a_dwells, a_marks, a_nexts, a_joints) (nI u) (nI far) (nI w) := by
  subst eg
  have lp : ∀ x, x ≤ u → (x = u ∨ w ≤ x) → sp_gr (sp_fit g far w) u = sp_gr (sp_fit g far w) x → wX_slowedFor_3 post (nI u) (nI far) (nI w) f_lines f_fastest (nI g) f_bend f_ahead f_mode f_holds f_pace f_line f_gone f_dwellLeft f_stepsInAll f_ticksInAll f_speed f_present f_laid a_wordCounts a_letters a_values a_limits a_switches a_tool a_inForce a_origins a_given a_rows a_probe a_motions a_thirds a_centres a_steps a_paces a_dwells a_marks a_nexts a_joints (x + 1) (nI x) := by
    intro x
    induction x with
    | zero =>
      intro _ hx e
      rw [e] at h
      refine br_t (nI_le (Nat.zero_le _) (by omega)) (br_c (fun c => ?_) (fun c => ?_))
      · rw [nI_leI (by omega) (by omega)] at c
        obtain rfl : w = 0 := by omega
        exact h
      · rw [nI_leI (by omega) (by omega)] at c
        obtain rfl : u = 0 := by omega
        exact h
    | succ x ih =>
      intro hxu hx e
      by_cases c : x + 1 ≤ w
      · have f1 : sp_gr (sp_fit g far w) (x + 1) = x + 1 := sp_grs (decide_eq_true (Or.inl c))
        rw [e, f1] at h
        refine br_t (nI_le c (by omega)) (br_c (fun d => ?_) (fun d => ?_))
        · rw [nI_leI (by omega) (by omega)] at d
          obtain rfl : w = x + 1 := by omega
          exact h
        · rw [nI_leI (by omega) (by omega)] at d
          obtain rfl : u = x + 1 := by omega
          exact h
      · refine br_f (nI_ge (by omega) (by omega)) ?_
        have hwx : w < x + 1 := by omega
        obtain ⟨b1, b2, b3, b4⟩ := sp_bnd (g := g) (w := w) (x := x + 1) (by omega) hg.2 hg.1
        have sb := sp_sub (g := g) hwx
        refine ⟨nI_ne0 hg.1 (by omega), nm_r (e' := nI (sp_i g w (x + 1))) ?_ ⟨by decide, nm_r (e' := nI (sp_i g w (x + 1) * (x + 1) - g * (sp_i g w (x + 1) * (sp_i g w (x + 1) + 1) / 2))) ?_ ?_⟩⟩
        · rw [pk_sub (a := x + 1) (b := w) (by omega), show (1 : Int32) = nI 1 from rfl, pk_sub (a := x + 1 - w) (b := 1) (by omega), pk_div (a := x + 1 - w - 1) (d := g) (by omega) hg.1 (by omega)]; rfl
        · rw [nI_1, pk_mul, pk_mul, show (2 : Int32) = nI 2 from rfl, pk_div (by omega) (by decide) (by decide), pk_mul, pk_sub sb]
        · rw [nI_add]
          have be : x + 1 + (sp_i g w (x + 1) * (x + 1) - g * (sp_i g w (x + 1) * (sp_i g w (x + 1) + 1) / 2)) = sp_br g w (x + 1) := rfl
          rw [be]
          have bb : sp_br g w (x + 1) ≤ 5000000 := by unfold sp_br; omega
          refine br_c (fun d => nm_r (pk_m1 x) ?_) (fun d => ?_)
          · rw [nI_ltI (by omega) (by omega)] at d
            have ff : sp_fit g far w (x + 1) = false := decide_eq_false (by omega)
            exact ih (by omega) (by omega) (e.trans (sp_grf ff))
          · rw [nI_ltI (by omega) (by omega)] at d
            have ff : sp_fit g far w (x + 1) = true := decide_eq_true (Or.inr (by omega))
            rw [e, sp_grs ff] at h
            exact h
  exact ⟨u + 1, lp u (Nat.le_refl _) (Or.inl rfl) rfl⟩
theorem xp_71 {post : Int32 → Prop} {s0 : Nat → Int32} {N g ah : Nat} (K : rn_K a_letters a_values a_wordCounts a_limits s0 f_fastest f_bend N) (hX : xr_ a_letters a_values a_wordCounts a_limits s0 f_fastest f_bend N f_laid a_rows a_motions a_thirds a_centres a_steps a_paces a_dwells a_marks a_nexts a_joints)
    (eg : f_gain = nI g) (hg : 0 < g ∧ g ≤ 200) (ea : f_ahead = nI ah) (ha : ah ≤ 6) :
    ∀ a i n r u, i + a = ah + 1 → n < N → 0 < px_st a_letters a_values a_wordCounts a_limits s0 n → u ≤ 2200 → r ≤ 3000000 * (i + 1) →
      post (nI (sp_np g (px_st a_letters a_values a_wordCounts a_limits s0) (rn_j a_letters a_values a_wordCounts a_limits s0 f_fastest f_bend N) (rn_x a_letters a_values a_wordCounts a_limits s0 N) a n r u)) →
      wX_nextPace_71 post f_lines f_fastest f_gain f_bend f_ahead f_mode f_holds f_pace f_line f_gone f_dwellLeft f_stepsInAll f_ticksInAll f_speed f_present f_laid a_wordCounts a_letters a_values a_limits a_switches a_tool a_inForce a_origins a_given a_rows a_probe a_motions a_thirds a_centres a_steps a_paces a_dwells a_marks a_nexts a_joints (a + 1) (nI u) (nI n) (nI r) (nI i) := by
  subst eg ea
  have N30 : N ≤ 30 := K.2.2.2.2.1
  intro a
  induction a with
  | zero =>
    intro i n r u hi hn hs hu hr h
    exact br_t (by exact nI_lt (by omega) (by omega)) h
  | succ a ih =>
    intro i n r u hi hn hs hu hr h
    have j2 := (rk_j K hn).1
    obtain ⟨ex, ej⟩ := hX.2.2 n hn
    rw [if_neg (by omega)] at ex ej
    have r30 : r < 2 ^ 30 := by
      have : r ≤ 3000000 * 8 := Nat.le_trans hr (Nat.mul_le_mul_left _ (by omega))
      omega
    have g99 : ∀ w, w = (if a = 0 then 0 else rn_j a_letters a_values a_wordCounts a_limits s0 f_fastest f_bend N n) → wX_nextPace_99 post (wX_nextPace_71 post f_lines f_fastest (nI g) f_bend (nI ah) f_mode f_holds f_pace f_line f_gone f_dwellLeft f_stepsInAll f_ticksInAll f_speed f_present f_laid a_wordCounts a_letters a_values a_limits a_switches a_tool a_inForce a_origins a_given a_rows a_probe a_motions a_thirds a_centres a_steps a_paces a_dwells a_marks a_nexts a_joints (a + 1)) (nI u) (nI n) (nI r) (nI i) (nI w) f_lines f_fastest (nI g) f_bend (nI ah) f_mode f_holds f_pace f_line f_gone f_dwellLeft f_stepsInAll f_ticksInAll f_speed f_present f_laid a_wordCounts a_letters a_values a_limits a_switches a_tool a_inForce a_origins a_given a_rows a_probe a_motions a_thirds a_centres a_steps a_paces a_dwells a_marks a_nexts a_joints := by
      intro w ew
      have w2 : w ≤ 2000 := by rw [ew]; split <;> omega
      unfold wX_nextPace_99
      refine xp_sl rfl hg hu r30 w2 ?_
      rw [nI_clamp (show n < 2 ^ 31 by omega), ex, ew]
      rw [sp_np] at h
      have ul := sp_grle (sp_fit g r (if a = 0 then 0 else rn_j a_letters a_values a_wordCounts a_limits s0 f_fastest f_bend N n)) u
      refine ⟨vp_in_nI (by omega) (by omega), nm_e ?_⟩
      cases e : rn_x a_letters a_values a_wordCounts a_limits s0 N n with
      | none => rw [e] at h; exact br_t rfl h
      | some m =>
        rw [e] at h
        obtain ⟨m1, m2, m3⟩ := rk_x n m e
        have sm := rk_s K m2
        refine br_f (nj_Im m (by omega)) ?_
        show vp_in (nI m) 30 ∧ _
        rw [show nj_I (some m) = nI m from rfl, nI_clamp (show m < 2 ^ 31 by omega), (hX.2.1.2 m m2).2.2.1]
        refine ⟨vp_in_nI (by omega) (by omega), nm_r (e' := nI (r + 1000 * px_st a_letters a_values a_wordCounts a_limits s0 m)) ?_ (nm_r (nI_1 i) ?_)⟩
        · rw [show (1000 : Int32) = nI 1000 from rfl, pk_mul, nI_add, Nat.mul_comm]
        · refine ih (i + 1) m _ _ (by omega) m2 m3 (by omega) ?_ h
          have : 1000 * px_st a_letters a_values a_wordCounts a_limits s0 m ≤ 3000000 := by omega
          have e3 : 3000000 * (i + 1 + 1) = 3000000 * (i + 1) + 3000000 := by omega
          omega
    refine br_f (nI_nlt (by omega) (by omega)) (br_c (fun c => ?_) (fun c => ⟨vp_in_nI (by omega) (by omega), ?_⟩))
    · rw [nI_eq (by omega) (by omega)] at c
      exact g99 0 (by rw [if_pos (by omega)])
    · rw [nI_eq (by omega) (by omega)] at c
      rw [nI_clamp (show n < 2 ^ 31 by omega), ej]
      exact g99 _ (by rw [if_neg (by omega)])
/-- the pace before the ends ahead are asked -/
def xp_u (ho : Int32) (p g pc : Nat) : Nat := min (if ho = 0 then p + g else p - g) pc
theorem xp_np {post : Int32 → Prop} {s0 : Nat → Int32} {N g ah n p go pc : Nat} (K : rn_K a_letters a_values a_wordCounts a_limits s0 f_fastest f_bend N) (hX : xr_ a_letters a_values a_wordCounts a_limits s0 f_fastest f_bend N f_laid a_rows a_motions a_thirds a_centres a_steps a_paces a_dwells a_marks a_nexts a_joints)
    (eg : f_gain = nI g) (hg : 0 < g ∧ g ≤ 200) (ea : f_ahead = nI ah) (ha : ah ≤ 6) (en : f_line = nI n) (hn : n < N) (hs : 0 < px_st a_letters a_values a_wordCounts a_limits s0 n) (ep : f_pace = nI p) (hp : p ≤ 2000) (eo : f_gone = nI go) (ho : go ≤ 1000 * px_st a_letters a_values a_wordCounts a_limits s0 n)
    (epc : px_pc a_letters a_values a_wordCounts f_fastest s0 n = nI pc) (hpc : pc ≤ 2000)
    (h : post (nI (sp_np g (px_st a_letters a_values a_wordCounts a_limits s0) (rn_j a_letters a_values a_wordCounts a_limits s0 f_fastest f_bend N) (rn_x a_letters a_values a_wordCounts a_limits s0 N) ah n (1000 * px_st a_letters a_values a_wordCounts a_limits s0 n - go) (xp_u f_holds p g pc)))) :
    wpX_nextPace post (f_lines, f_fastest, f_gain, f_bend, f_ahead, f_mode, f_holds, f_pace, f_line, f_gone, f_dwellLeft, f_stepsInAll, f_ticksInAll, f_speed, f_present, f_laid, a_wordCounts, a_letters, a_values, a_limits, a_switches, a_tool, a_inForce, a_origins, a_given, a_rows, a_probe, a_motions, a_thirds, a_centres, a_steps, a_paces, a_dwells, a_marks, a_nexts, a_joints) := by
  subst eg ea en ep eo
  have N30 : N ≤ 30 := K.2.2.2.2.1
  have i30 : vp_in (nI n) 30 := vp_in_nI (by omega) (by omega)
  have cl : (nI n).toNatClampNeg = n := nI_clamp (by omega)
  have sn := rk_s K hn
  have g58 : ∀ u, u = xp_u f_holds p g pc → wX_nextPace_58 post (nI u) f_lines f_fastest (nI g) f_bend (nI ah) f_mode f_holds (nI p) (nI n) (nI go) f_dwellLeft f_stepsInAll f_ticksInAll f_speed f_present f_laid a_wordCounts a_letters a_values a_limits a_switches a_tool a_inForce a_origins a_given a_rows a_probe a_motions a_thirds a_centres a_steps a_paces a_dwells a_marks a_nexts a_joints := by
    intro u eu
    have u2 : u ≤ 2000 := by rw [eu]; unfold xp_u; omega
    unfold wX_nextPace_58 wpX_lengthLeft
    dsimp only
    rw [cl, (hX.2.1.2 n hn).2.2.1, show (1000 : Int32) = nI 1000 from rfl, pk_mul, pk_sub (by omega)]
    refine ⟨i30, ah + 1, ?_⟩
    refine xp_71 K hX rfl hg rfl ha ah 1 n _ u (by omega) hn hs (by omega) (by omega) ?_
    rw [Nat.mul_comm (px_st a_letters a_values a_wordCounts a_limits s0 n) 1000, eu]
    exact h
  have g35 : ∀ v, min v pc = xp_u f_holds p g pc → v < 2 ^ 31 → wX_nextPace_35 post (nI v) f_lines f_fastest (nI g) f_bend (nI ah) f_mode f_holds (nI p) (nI n) (nI go) f_dwellLeft f_stepsInAll f_ticksInAll f_speed f_present f_laid a_wordCounts a_letters a_values a_limits a_switches a_tool a_inForce a_origins a_given a_rows a_probe a_motions a_thirds a_centres a_steps a_paces a_dwells a_marks a_nexts a_joints := by
    intro v ev vb
    unfold wX_nextPace_35
    rw [cl, (hX.2.1.2 n hn).2.2.2.1, epc]
    refine ⟨i30, br_c (fun c => g58 v ?_) (fun c => ⟨i30, nm_e (g58 pc ?_)⟩)⟩
    · rw [nI_leI vb (by omega)] at c
      rw [← ev]; omega
    · rw [nI_leI vb (by omega)] at c
      rw [← ev]; omega
  unfold wpX_nextPace wX_nextPace_28
  dsimp only
  refine br_c (fun c => ?_) (fun c => ?_)
  · rw [nI_add]
    refine br_t (nI_pos' (by omega)) (g35 (p + g) ?_ (by omega))
    unfold xp_u
    rw [if_pos c]
  · by_cases k : g ≤ p
    · rw [pk_sub k]
      refine br_t (nI_pos' (by omega)) (g35 (p - g) ?_ (by omega))
      unfold xp_u
      rw [if_neg c]
    · refine br_f (fun z => ?_) (g35 0 ?_ (by omega))
      · exact Int32.not_lt.mpr z (pk_sneg (by omega) (by omega))
      · unfold xp_u
        rw [if_neg c]
        omega
end
end XPC
end
section
section YPC
def yr_ (L V M lim s0 : Nat → Int32) (fs : Int32) (N : Nat) (seen : Int32) (fr to st pc dw en tu fi se ce : Nat → Int32) : Prop := seen = nI N ∧ yz_L L V M lim fs s0 N fr to st pc dw en tu fi se ce
section
variable {f_lines f_fastest f_gain f_bend f_ahead f_speed f_seen f_state f_line f_pace f_left f_went f_allSteps f_allTicks f_u f_v f_holds : Int32} {a_letters a_values a_many a_tool a_began a_limit a_trips a_force a_origins a_here a_has a_grouped a_word a_from a_to a_steps a_paces a_dwells a_ends a_turn a_first a_second a_centre a_direction : Nat → Int32}
theorem yf_ov {post : Int32 → Prop} {s0 : Nat → Int32} {N n : Nat} (K : rn_K a_letters a_values a_many a_limit s0 f_fastest f_bend N) (hY : yr_ a_letters a_values a_many a_limit s0 f_fastest N f_seen a_from a_to a_steps a_paces a_dwells a_ends a_turn a_first a_second a_centre) (hn : n < N)
    (h : post (nj_I (rn_x a_letters a_values a_many a_limit s0 N n))) : wpY_over post (f_lines, f_fastest, f_gain, f_bend, f_ahead, f_speed, f_seen, f_state, f_line, f_pace, f_left, f_went, f_allSteps, f_allTicks, f_u, f_v, f_holds, a_letters, a_values, a_many, a_tool, a_began, a_limit, a_trips, a_force, a_origins, a_here, a_has, a_grouped, a_word, a_from, a_to, a_steps, a_paces, a_dwells, a_ends, a_turn, a_first, a_second, a_centre, a_direction) (nI n) := by
  have N30 : N ≤ 30 := K.2.2.2.2.1
  refine ⟨31, yj_ov (s := px_st a_letters a_values a_many a_limit s0) (d := rn_d a_letters a_values a_many s0) (e := px_en a_letters a_values a_many) N30 hY.1 (fun m hm => ⟨(hY.2.2 m hm).1, by have := rk_s K hm; omega⟩) (fun m hm => ?_) (fun m hm => (hY.2.2 m hm).2.2.2.1) 30 n hn (by omega) h⟩
  rw [(hY.2.2 m hm).2.2.1, Int32.not_le]
  exact decide_eq_true_iff
theorem yf_jp {post : Int32 → SY → Prop} {s0 : Nat → Int32} {N n m : Nat} (K : rn_K a_letters a_values a_many a_limit s0 f_fastest f_bend N) (hY : yr_ a_letters a_values a_many a_limit s0 f_fastest N f_seen a_from a_to a_steps a_paces a_dwells a_ends a_turn a_first a_second a_centre) (hn : n < N) (hm : m < N)
    (h : ∀ D, post (rn_P a_letters a_values a_many s0 f_fastest f_bend n m) (f_lines, f_fastest, f_gain, f_bend, f_ahead, f_speed, f_seen, f_state, f_line, f_pace, f_left, f_went, f_allSteps, f_allTicks, f_u, f_v, f_holds, a_letters, a_values, a_many, a_tool, a_began, a_limit, a_trips, a_force, a_origins, a_here, a_has, a_grouped, a_word, a_from, a_to, a_steps, a_paces, a_dwells, a_ends, a_turn, a_first, a_second, a_centre, D)) : wpY_jointPace post (f_lines, f_fastest, f_gain, f_bend, f_ahead, f_speed, f_seen, f_state, f_line, f_pace, f_left, f_went, f_allSteps, f_allTicks, f_u, f_v, f_holds, a_letters, a_values, a_many, a_tool, a_began, a_limit, a_trips, a_force, a_origins, a_here, a_has, a_grouped, a_word, a_from, a_to, a_steps, a_paces, a_dwells, a_ends, a_turn, a_first, a_second, a_centre, a_direction) (nI n) (nI m) := by
  have N30 : N ≤ 30 := K.2.2.2.2.1
  have tr := fun k => fv_tr (fc_F a_letters a_values a_many s0 k)
  have ne : ∀ k, pl_fb (px_F a_letters a_values a_many s0 k) ≠ pl_fa (px_F a_letters a_values a_many s0 k) := by
    intro k
    unfold pl_fa pl_fb
    rcases fv_1 (fc_F a_letters a_values a_many s0 k) with e | e | e <;> rw [e] <;> decide
  obtain ⟨_, a2, _, _, a5, a6⟩ := hY.2.2 n hn
  obtain ⟨_, b2, _, _, b5, b6⟩ := hY.2.2 m hm
  refine yj_hd (pl := 0) (e := true) (he := px_he a_letters a_values a_many s0 n) (to := px_he a_letters a_values a_many s0 (n + 1)) (c := px_c a_letters a_values a_many s0 n) (d := px_d a_letters a_values a_many s0 n) (by omega) (by omega) (tr n).1 (tr n).2.1 (ne n) a5 (fun a ha => (hY.2.1 n hn a ha).1) (fun a ha => (hY.2.1 n hn a ha).2) a6 (fun D D1 D2 => ?_)
  refine yj_hd (pl := 3) (e := false) (he := px_he a_letters a_values a_many s0 m) (to := px_he a_letters a_values a_many s0 (m + 1)) (c := px_c a_letters a_values a_many s0 m) (d := px_d a_letters a_values a_many s0 m) (by omega) (by omega) (tr m).1 (tr m).2.1 (ne m) b5 (fun a ha => (hY.2.1 m hm a ha).1) (fun a ha => (hY.2.1 m hm a ha).2) b6 (fun E E1 E2 => ?_)
  refine yj_25 (by omega) (by omega) (rk_D K hn true) (rk_D K hm false) (fun a ha => ?_) E1 ?_
  · rw [E2 a (Or.inl (by omega))]
    have := D1 a ha
    rw [Nat.zero_add] at this
    exact this
  · rw [a2, b2]; exact h E
theorem yf_29 {post : Int32 → SY → Prop} {s0 : Nat → Int32} {N g ah x : Nat} (K : rn_K a_letters a_values a_many a_limit s0 f_fastest f_bend N) (hY : yr_ a_letters a_values a_many a_limit s0 f_fastest N f_seen a_from a_to a_steps a_paces a_dwells a_ends a_turn a_first a_second a_centre)
    (hg : 0 < g ∧ g ≤ 200) (ha : ah ≤ 6) (hx : x ≤ 2200) :
    ∀ a k n r D, k + a = ah + 1 → n < N → r ≤ 3000000 * (k + 1) →
      (∀ D, post (bo_I (sp_ft g (px_st a_letters a_values a_many a_limit s0) (rn_j a_letters a_values a_many a_limit s0 f_fastest f_bend N) (rn_x a_letters a_values a_many a_limit s0 N) a n r x)) (f_lines, f_fastest, (nI g), f_bend, (nI ah), f_speed, f_seen, f_state, f_line, f_pace, f_left, f_went, f_allSteps, f_allTicks, f_u, f_v, f_holds, a_letters, a_values, a_many, a_tool, a_began, a_limit, a_trips, a_force, a_origins, a_here, a_has, a_grouped, a_word, a_from, a_to, a_steps, a_paces, a_dwells, a_ends, a_turn, a_first, a_second, a_centre, D)) →
      wY_fits_29 post (nI x) (a + 1) (lN r) (nI n) (nI k) f_lines f_fastest (nI g) f_bend (nI ah) f_speed f_seen f_state f_line f_pace f_left f_went f_allSteps f_allTicks f_u f_v f_holds a_letters a_values a_many a_tool a_began a_limit a_trips a_force a_origins a_here a_has a_grouped a_word a_from a_to a_steps a_paces a_dwells a_ends a_turn a_first a_second a_centre D := by
  have N30 : N ≤ 30 := K.2.2.2.2.1
  intro a
  induction a with
  | zero =>
    intro k n r D hk hn hr h
    exact br_t (nI_lt (by omega) (by omega)) (h D)
  | succ a ih =>
    intro k n r D hk hn hr h
    have j2 := (rk_j K hn).1
    have r30 : r < 2 ^ 30 := by
      have : r ≤ 3000000 * 8 := Nat.le_trans hr (Nat.mul_le_mul_left _ (by omega))
      omega
    rw [sp_ft] at h
    -- behind this end
    have g137 : ∀ D, sp_fit g r (if a = 0 then 0 else rn_j a_letters a_values a_many a_limit s0 f_fastest f_bend N n) x = true → wY_fits_137 post (wY_fits_29 post (nI x) (a + 1)) (nI x) (lN r) (nI k) (nj_I (rn_x a_letters a_values a_many a_limit s0 N n)) f_lines f_fastest (nI g) f_bend (nI ah) f_speed f_seen f_state f_line f_pace f_left f_went f_allSteps f_allTicks f_u f_v f_holds a_letters a_values a_many a_tool a_began a_limit a_trips a_force a_origins a_here a_has a_grouped a_word a_from a_to a_steps a_paces a_dwells a_ends a_turn a_first a_second a_centre D := by
      intro D hf
      rw [hf, Bool.true_and] at h
      unfold wY_fits_137
      cases e : rn_x a_letters a_values a_many a_limit s0 N n with
      | none =>
        rw [e] at h
        exact br_f (by decide) (h D)
      | some m =>
        rw [e] at h
        obtain ⟨m1, m2, m3⟩ := rk_x n m e
        have sm := rk_s K m2
        rw [show nj_I (some m) = nI m from rfl, nI_clamp (show m < 2 ^ 31 by omega), (hY.2.2 m m2).1]
        refine br_t (nI_pos' (by omega)) ⟨vp_in_nI (by omega) (by omega), nm_r (e' := lN (r + 1000 * px_st a_letters a_values a_many a_limit s0 m)) ?_ (nm_r (nI_1 k) (ih (k + 1) m _ D (by omega) m2 (by omega) h))⟩
        rw [show (1000 : Int32) = nI 1000 from rfl, pk_mul, nI_l (by omega), lN_add]
    have g72 : ∀ D w, w = (if a = 0 then 0 else rn_j a_letters a_values a_many a_limit s0 f_fastest f_bend N n) → wY_fits_72 post (wY_fits_29 post (nI x) (a + 1)) (nI x) (lN r) (nI k) (nj_I (rn_x a_letters a_values a_many a_limit s0 N n)) (nI w) f_lines f_fastest (nI g) f_bend (nI ah) f_speed f_seen f_state f_line f_pace f_left f_went f_allSteps f_allTicks f_u f_v f_holds a_letters a_values a_many a_tool a_began a_limit a_trips a_force a_origins a_here a_has a_grouped a_word a_from a_to a_steps a_paces a_dwells a_ends a_turn a_first a_second a_centre D := by
      intro D w ew
      have w2 : w ≤ 2000 := by rw [ew]; split <;> omega
      have lw : nI x ≤ nI w ↔ x ≤ w := nI_leI (by omega) (by omega)
      unfold wY_fits_72
      refine br_c (fun c => ?_) (fun c => ⟨nI_ne0 hg.1 (by omega), ?_⟩)
      · unfold wY_fits_96
        refine br_t c (g137 D (decide_eq_true (Or.inl ?_)))
        rw [← ew]; exact lw.mp c
      · have hwx : w < x := by rw [lw] at c; omega
        obtain ⟨b1, b2, b3, b4⟩ := sp_bnd (g := g) (w := w) (x := x) hx hg.2 hg.1
        have sb := sp_sub (g := g) hwx
        have ei : ((nI x - nI w - 1) / nI g).toInt64 = lN (sp_i g w x) := by
          rw [pk_sub (a := x) (b := w) (by omega), show (1 : Int32) = nI 1 from rfl, pk_sub (a := x - w) (b := 1) (by omega), pk_div (a := x - w - 1) (d := g) (by omega) hg.1 (by omega), nI_l (Nat.lt_of_le_of_lt (Nat.div_le_self _ _) (by omega))]; rfl
        rw [ei]
        unfold wY_fits_96
        have es : (nI x).toInt64 + lN (sp_i g w x) * (nI x).toInt64 - (nI g).toInt64 * (lN (sp_i g w x) * (lN (sp_i g w x) + 1) / 2) = lN (sp_br g w x) := by
          rw [nI_l (show x < 2 ^ 31 by omega), nI_l (show g < 2 ^ 31 by omega), lN_1, lN_mul, lN_mul, show (2 : Int64) = lN 2 from rfl, pk_lDiv (by omega) (by decide) (by decide), lN_mul, lN_add, lN_sub (by omega)]
          congr 1
          unfold sp_br
          omega
        rw [es]
        have bb : sp_br g w x ≤ 5000000 := by unfold sp_br; omega
        refine br_f c ⟨by decide, br_c (fun d => g137 D (decide_eq_true (Or.inr ?_))) (fun d => ?_)⟩
        · rw [← ew]; exact (pk_lLE (by omega) (by omega)).mp d
        · have nf : sp_fit g r (if a = 0 then 0 else rn_j a_letters a_values a_many a_limit s0 f_fastest f_bend N n) x = false := by
            refine decide_eq_false ?_
            rw [← ew]
            have : ¬ sp_br g w x ≤ r := fun z => d ((pk_lLE (by omega) (by omega)).mpr z)
            omega
          rw [nf, Bool.false_and] at h
          exact h D
    refine br_f (nI_nlt (by omega) (by omega)) (yf_ov K hY hn (br_c (fun c => ?_) (fun c => ?_)))
    · rw [nI_eq (by omega) (by omega)] at c
      unfold wY_fits_60
      exact g72 D 0 (by rw [if_pos (by omega)])
    · rw [nI_eq (by omega) (by omega)] at c
      cases e : rn_x a_letters a_values a_many a_limit s0 N n with
      | none =>
        refine br_f (by decide) ?_
        unfold wY_fits_60
        have := g72 D 0 (by rw [if_neg (by omega)]; unfold rn_j; rw [e])
        rw [e] at this
        exact this
      | some m =>
        obtain ⟨m1, m2, m3⟩ := rk_x n m e
        refine br_t (nI_pos' (n := m) (by omega)) ?_
        refine yf_jp K hY hn m2 (fun D' => ?_)
        rw [(rk_j K hn).2 m e]
        have := g72 D' _ rfl
        rw [e, if_neg (by omega)] at this
        exact this
theorem yf_fi {post : Int32 → SY → Prop} {s0 : Nat → Int32} {N g ah x n go : Nat} (K : rn_K a_letters a_values a_many a_limit s0 f_fastest f_bend N) (hY : yr_ a_letters a_values a_many a_limit s0 f_fastest N f_seen a_from a_to a_steps a_paces a_dwells a_ends a_turn a_first a_second a_centre)
    (hg : 0 < g ∧ g ≤ 200) (ha : ah ≤ 6) (hx : x ≤ 2200) (hn : n < N) (ho : go ≤ 1000 * px_st a_letters a_values a_many a_limit s0 n)
    (h : ∀ D, post (bo_I (sp_ft g (px_st a_letters a_values a_many a_limit s0) (rn_j a_letters a_values a_many a_limit s0 f_fastest f_bend N) (rn_x a_letters a_values a_many a_limit s0 N) ah n (1000 * px_st a_letters a_values a_many a_limit s0 n - go) x)) (f_lines, f_fastest, (nI g), f_bend, (nI ah), f_speed, f_seen, f_state, (nI n), f_pace, f_left, (nI go), f_allSteps, f_allTicks, f_u, f_v, f_holds, a_letters, a_values, a_many, a_tool, a_began, a_limit, a_trips, a_force, a_origins, a_here, a_has, a_grouped, a_word, a_from, a_to, a_steps, a_paces, a_dwells, a_ends, a_turn, a_first, a_second, a_centre, D)) :
    wpY_fits post (f_lines, f_fastest, (nI g), f_bend, (nI ah), f_speed, f_seen, f_state, (nI n), f_pace, f_left, (nI go), f_allSteps, f_allTicks, f_u, f_v, f_holds, a_letters, a_values, a_many, a_tool, a_began, a_limit, a_trips, a_force, a_origins, a_here, a_has, a_grouped, a_word, a_from, a_to, a_steps, a_paces, a_dwells, a_ends, a_turn, a_first, a_second, a_centre, a_direction) (nI x) := by
  have N30 : N ≤ 30 := K.2.2.2.2.1
  have sn := rk_s K hn
  unfold wpY_fits
  dsimp only
  rw [nI_clamp (show n < 2 ^ 31 by omega), (hY.2.2 n hn).1]
  refine ⟨vp_in_nI (by omega) (by omega), nm_r (e' := lN (1000 * px_st a_letters a_values a_many a_limit s0 n - go)) ?_ ⟨ah + 1, ?_⟩⟩
  · rw [show (1000 : Int32) = nI 1000 from rfl, pk_mul, pk_sub ho, nI_l (by omega)]
  · exact yf_29 (f_line := nI n) (f_went := nI go) K hY hg ha hx ah 1 n _ _ (by omega) hn (by omega) h
theorem yf_52 {post : SY → Prop} {s0 : Nat → Int32} {N g ah n go : Nat} (K : rn_K a_letters a_values a_many a_limit s0 f_fastest f_bend N) (hY : yr_ a_letters a_values a_many a_limit s0 f_fastest N f_seen a_from a_to a_steps a_paces a_dwells a_ends a_turn a_first a_second a_centre)
    (hg : 0 < g ∧ g ≤ 200) (ha : ah ≤ 6) (hn : n < N) (ho : go ≤ 1000 * px_st a_letters a_values a_many a_limit s0 n) :
    ∀ x D, x ≤ 2200 → (∀ D, wY_run_70 post (nI (sp_gr (sp_ft g (px_st a_letters a_values a_many a_limit s0) (rn_j a_letters a_values a_many a_limit s0 f_fastest f_bend N) (rn_x a_letters a_values a_many a_limit s0 N) ah n (1000 * px_st a_letters a_values a_many a_limit s0 n - go)) x)) f_lines f_fastest (nI g) f_bend (nI ah) f_speed f_seen f_state (nI n) f_pace f_left (nI go) f_allSteps f_allTicks f_u f_v f_holds a_letters a_values a_many a_tool a_began a_limit a_trips a_force a_origins a_here a_has a_grouped a_word a_from a_to a_steps a_paces a_dwells a_ends a_turn a_first a_second a_centre D) →
      wY_run_52 post (x + 1) (nI x) f_lines f_fastest (nI g) f_bend (nI ah) f_speed f_seen f_state (nI n) f_pace f_left (nI go) f_allSteps f_allTicks f_u f_v f_holds a_letters a_values a_many a_tool a_began a_limit a_trips a_force a_origins a_here a_has a_grouped a_word a_from a_to a_steps a_paces a_dwells a_ends a_turn a_first a_second a_centre D := by
  intro x
  induction x with
  | zero => intro D _ h; exact br_t (by decide) (h D)
  | succ x ih =>
    intro D hx h
    refine br_f (nI_nle (by omega) (by omega)) (yf_fi K hY hg ha hx hn ho (fun D' => ?_))
    cases e : sp_ft g (px_st a_letters a_values a_many a_limit s0) (rn_j a_letters a_values a_many a_limit s0 f_fastest f_bend N) (rn_x a_letters a_values a_many a_limit s0 N) ah n (1000 * px_st a_letters a_values a_many a_limit s0 n - go) (x + 1)
    · refine br_t rfl (nm_r (pk_m1 x) (ih D' (by omega) (fun D2 => ?_)))
      have := h D2
      rw [sp_grf e] at this
      exact this
    · refine br_f bo_ne ?_
      have := h D'
      rw [sp_grs e] at this
      exact this
/-- the reference's run, down to the tool's going -/
theorem yf_rn {post : SY → Prop} {s0 : Nat → Int32} {N g ah n go p pc : Nat} (K : rn_K a_letters a_values a_many a_limit s0 f_fastest f_bend N) (hY : yr_ a_letters a_values a_many a_limit s0 f_fastest N f_seen a_from a_to a_steps a_paces a_dwells a_ends a_turn a_first a_second a_centre)
    (hg : 0 < g ∧ g ≤ 200) (ha : ah ≤ 6) (hn : n < N) (ho : go ≤ 1000 * px_st a_letters a_values a_many a_limit s0 n) (hp : p ≤ 2000) (epc : px_pc a_letters a_values a_many f_fastest s0 n = nI pc) (hpc : pc ≤ 2000)
    (h : ∀ D, ∃ m, wY_run_88 post m (nI (sp_np g (px_st a_letters a_values a_many a_limit s0) (rn_j a_letters a_values a_many a_limit s0 f_fastest f_bend N) (rn_x a_letters a_values a_many a_limit s0 N) ah n (1000 * px_st a_letters a_values a_many a_limit s0 n - go) (xp_u f_holds p g pc))) f_lines f_fastest (nI g) f_bend (nI ah) f_speed f_seen f_state (nI n) (nI (sp_np g (px_st a_letters a_values a_many a_limit s0) (rn_j a_letters a_values a_many a_limit s0 f_fastest f_bend N) (rn_x a_letters a_values a_many a_limit s0 N) ah n (1000 * px_st a_letters a_values a_many a_limit s0 n - go) (xp_u f_holds p g pc))) f_left (nI go) f_allSteps f_allTicks f_u f_v f_holds a_letters a_values a_many a_tool a_began a_limit a_trips a_force a_origins a_here a_has a_grouped a_word a_from a_to a_steps a_paces a_dwells a_ends a_turn a_first a_second a_centre D) :
    wpY_run post (f_lines, f_fastest, (nI g), f_bend, (nI ah), f_speed, f_seen, f_state, (nI n), (nI p), f_left, (nI go), f_allSteps, f_allTicks, f_u, f_v, f_holds, a_letters, a_values, a_many, a_tool, a_began, a_limit, a_trips, a_force, a_origins, a_here, a_has, a_grouped, a_word, a_from, a_to, a_steps, a_paces, a_dwells, a_ends, a_turn, a_first, a_second, a_centre, a_direction) := by
  have N30 : N ≤ 30 := K.2.2.2.2.1
  have i30 : vp_in (nI n) 30 := vp_in_nI (by omega) (by omega)
  have cl : (nI n).toNatClampNeg = n := nI_clamp (by omega)
  have u2 : xp_u f_holds p g pc ≤ 2000 := by unfold xp_u; omega
  rw [← sp_ftnp hg.1] at h
  have gl : sp_gr (sp_ft g (px_st a_letters a_values a_many a_limit s0) (rn_j a_letters a_values a_many a_limit s0 f_fastest f_bend N) (rn_x a_letters a_values a_many a_limit s0 N) ah n (1000 * px_st a_letters a_values a_many a_limit s0 n - go)) (xp_u f_holds p g pc) ≤ 2000 := Nat.le_trans (sp_grle _ _) u2
  have g70 : ∀ D, wY_run_70 post (nI (sp_gr (sp_ft g (px_st a_letters a_values a_many a_limit s0) (rn_j a_letters a_values a_many a_limit s0 f_fastest f_bend N) (rn_x a_letters a_values a_many a_limit s0 N) ah n (1000 * px_st a_letters a_values a_many a_limit s0 n - go)) (xp_u f_holds p g pc))) f_lines f_fastest (nI g) f_bend (nI ah) f_speed f_seen f_state (nI n) (nI p) f_left (nI go) f_allSteps f_allTicks f_u f_v f_holds a_letters a_values a_many a_tool a_began a_limit a_trips a_force a_origins a_here a_has a_grouped a_word a_from a_to a_steps a_paces a_dwells a_ends a_turn a_first a_second a_centre D := by
    intro D
    unfold wY_run_70
    exact br_t (nI_pos' (by omega)) (h D)
  have g52 : ∀ x, x = xp_u f_holds p g pc → wY_run_52 post (x + 1) (nI x) f_lines f_fastest (nI g) f_bend (nI ah) f_speed f_seen f_state (nI n) (nI p) f_left (nI go) f_allSteps f_allTicks f_u f_v f_holds a_letters a_values a_many a_tool a_began a_limit a_trips a_force a_origins a_here a_has a_grouped a_word a_from a_to a_steps a_paces a_dwells a_ends a_turn a_first a_second a_centre a_direction := by
    intro x ex
    refine yf_52 K hY hg ha hn ho x _ (by omega) (fun D => ?_)
    rw [ex]; exact g70 D
  have g28 : ∀ v, min v pc = xp_u f_holds p g pc → v < 2 ^ 31 → wY_run_28 post (nI v) f_lines f_fastest (nI g) f_bend (nI ah) f_speed f_seen f_state (nI n) (nI p) f_left (nI go) f_allSteps f_allTicks f_u f_v f_holds a_letters a_values a_many a_tool a_began a_limit a_trips a_force a_origins a_here a_has a_grouped a_word a_from a_to a_steps a_paces a_dwells a_ends a_turn a_first a_second a_centre a_direction := by
    intro v ev vb
    unfold wY_run_28
    rw [cl, (hY.2.2 n hn).2.1, epc]
    refine ⟨i30, br_c (fun c => ⟨_, g52 v ?_⟩) (fun c => ⟨i30, nm_e ⟨_, g52 pc ?_⟩⟩)⟩
    · rw [nI_leI vb (by omega)] at c
      rw [← ev]; omega
    · rw [nI_leI vb (by omega)] at c
      rw [← ev]; omega
  unfold wpY_run
  dsimp only
  refine br_c (fun c => ?_) (fun c => ?_)
  · rw [nI_add]
    refine g28 (p + g) ?_ (by omega)
    unfold xp_u
    rw [if_pos c]
  · by_cases k : g ≤ p
    · rw [pk_sub k]
      refine g28 (p - g) ?_ (by omega)
      unfold xp_u
      rw [if_neg c]
    · have ng : nI p - nI g < 0 := pk_sneg (by omega) (by omega)
      have u0 : xp_u f_holds p g pc = 0 := by
        unfold xp_u
        rw [if_neg c]
        omega
      unfold wY_run_28
      rw [cl, (hY.2.2 n hn).2.1, epc]
      refine ⟨i30, br_t (Int32.le_of_lt (Int32.lt_of_lt_of_le ng (nI_pos' (by omega)))) ⟨1, br_t (Int32.le_of_lt ng) ?_⟩⟩
      unfold wY_run_70
      refine br_f (fun z => Int32.not_lt.mpr z ng) ?_
      have := h a_direction
      rw [u0] at this
      exact this
end
end YPC
end
section
section POS
def pt_ (k size n : Nat) : Nat := (2 * k * size + n) / (2 * n)
theorem pt_0 {size n : Nat} (hn : 0 < n) : pt_ 0 size n = 0 := by
  unfold pt_
  rw [Nat.mul_zero, Nat.zero_mul, Nat.zero_add]
  exact Nat.div_eq_of_lt (by omega)
theorem pt_n {size n : Nat} (hn : 0 < n) : pt_ n size n = size := by
  unfold pt_
  rw [show 2 * n * size + n = n + 2 * n * size by omega, Nat.add_mul_div_left _ _ (by omega), Nat.div_eq_of_lt (by omega), Nat.zero_add]
theorem pt_le {k size n : Nat} (hn : 0 < n) (hk : k ≤ n) : pt_ k size n ≤ size := by
  have h : pt_ k size n ≤ pt_ n size n := by
    unfold pt_
    refine Nat.div_le_div_right ?_
    have : 2 * k * size ≤ 2 * n * size := Nat.mul_le_mul_right _ (by omega)
    omega
  rw [pt_n hn] at h; exact h
def tl_ (v : Nat → Int32) (old : Nat → Int32) : Nat → Int32 := fun a => if a < 3 then v a else old a
theorem tl_e {v old T : Nat → Int32} (h : ∀ a, a < 3 → T a = v a) (h' : ∀ a, ¬ a < 3 → T a = old a) : T = tl_ v old := by
  funext a
  unfold tl_
  split
  · rename_i c; exact h a c
  · rename_i c; exact h' a c
theorem tl_v {v old : Nat → Int32} {a : Nat} (ha : a < 3) : tl_ v old a = v a := if_pos ha
def tp_ (new old sw : Nat → Int32) (a : Nat) : Bool := decide (¬ new a = old a ∧ new a = sw a)
section
variable (L V M lim s0 : Nat → Int32)
def rs_p (n k a : Nat) : Int :=
  if px_tu L V M s0 n = 0 then
    (if (px_he L V M s0 n a).toInt ≤ (px_he L V M s0 (n + 1) a).toInt then (px_he L V M s0 n a).toInt + pt_ k (sg_dd (px_he L V M s0 n) (px_he L V M s0 (n + 1)) a) (px_st L V M lim s0 n)
     else (px_he L V M s0 n a).toInt - pt_ k (sg_dd (px_he L V M s0 n) (px_he L V M s0 (n + 1)) a) (px_st L V M lim s0 n))
  else if a = pl_fa (px_F L V M s0 n) then px_c L V M s0 n + (wk_it (px_on L V M s0 n) (px_far L V M s0 n) k (-px_p L V M s0 n, -px_q L V M s0 n)).1
  else if a = pl_fb (px_F L V M s0 n) then px_d L V M s0 n + (wk_it (px_on L V M s0 n) (px_far L V M s0 n) k (-px_p L V M s0 n, -px_q L V M s0 n)).2
  else (px_he L V M s0 n a).toInt
def rs_v (n k a : Nat) : Int32 := ii_I (rs_p L V M lim s0 n k a)
end
section
variable {L V M lim s0 : Nat → Int32} {fs bend : Int32} {N : Nat}
theorem fv_ne (n : Nat) : pl_fb (px_F L V M s0 n) ≠ pl_fa (px_F L V M s0 n) := by
  unfold pl_fa pl_fb
  rcases fv_1 (fc_F L V M s0 n) with e | e | e <;> rw [e] <;> decide
theorem rs_0 {n a : Nat} (hs : 0 < px_st L V M lim s0 n) : rs_p L V M lim s0 n 0 a = (px_he L V M s0 n a).toInt := by
  unfold rs_p
  split
  · rw [pt_0 hs]; split <;> omega
  · split
    · rename_i e; subst e; unfold px_c wk_it; dsimp only; omega
    · split
      · rename_i e; subst e; unfold px_d wk_it; dsimp only; omega
      · rfl
theorem rs_dd {n : Nat} (t : px_tu L V M s0 n = 0) {a : Nat} (ha : a < 3) : sg_dd (px_he L V M s0 n) (px_he L V M s0 (n + 1)) a ≤ px_st L V M lim s0 n := by
  unfold px_st
  rw [if_pos t]
  unfold px_mx sg_mx
  exact co_3 (P := fun a => sg_dd (px_he L V M s0 n) (px_he L V M s0 (n + 1)) a ≤ max (max (sg_dd (px_he L V M s0 n) (px_he L V M s0 (n + 1)) 0) (sg_dd (px_he L V M s0 n) (px_he L V M s0 (n + 1)) 1)) (sg_dd (px_he L V M s0 n) (px_he L V M s0 (n + 1)) 2)) (by omega) (by omega) (by omega) ha
theorem rs_wr (K : rn_K L V M lim s0 fs bend N) {n : Nat} (hn : n < N) (t : ¬ px_tu L V M s0 n = 0) :
    wk_it (px_on L V M s0 n) (px_far L V M s0 n) (px_st L V M lim s0 n) (-px_p L V M s0 n, -px_q L V M s0 n) = (px_x L V M s0 n, px_y L V M s0 n) ∧
    ∀ j, 1 ≤ j → j ≤ px_st L V M lim s0 n → 0 ≤ px_c L V M s0 n + (wk_it (px_on L V M s0 n) (px_far L V M s0 n) j (-px_p L V M s0 n, -px_q L V M s0 n)).1 ∧ px_c L V M s0 n + (wk_it (px_on L V M s0 n) (px_far L V M s0 n) j (-px_p L V M s0 n, -px_q L V M s0 n)).1 ≤ (lim (pl_fa (px_F L V M s0 n))).toInt ∧
      0 ≤ px_d L V M s0 n + (wk_it (px_on L V M s0 n) (px_far L V M s0 n) j (-px_p L V M s0 n, -px_q L V M s0 n)).2 ∧ px_d L V M s0 n + (wk_it (px_on L V M s0 n) (px_far L V M s0 n) j (-px_p L V M s0 n, -px_q L V M s0 n)).2 ≤ (lim (pl_fb (px_F L V M s0 n))).toInt := by
  obtain ⟨b, r⟩ := (ci_why (rk_w K hn)).2.2.2.2 t
  obtain ⟨k1, k2, k3, k4⟩ := pl_wk0 3000 0 _ _ (px_wr L V M lim s0 n).2 (Prod.ext r rfl : px_wr L V M lim s0 n = (0, (px_wr L V M lim s0 n).2))
  have e : px_st L V M lim s0 n = (px_wr L V M lim s0 n).2 := by unfold px_st; rw [if_neg t]
  rw [e]
  exact ⟨k3, k4⟩
theorem rs_ft (K : rn_K L V M lim s0 fs bend N) {n a : Nat} (hn : n < N) (t : ¬ px_tu L V M s0 n = 0) (ha : a < 3) (h1 : ¬ a = pl_fa (px_F L V M s0 n)) (h2 : ¬ a = pl_fb (px_F L V M s0 n)) : px_he L V M s0 (n + 1) a = px_he L V M s0 n a := by
  obtain ⟨b, r⟩ := (ci_why (rk_w K hn)).2.2.2.2 t
  obtain ⟨b1, _⟩ := ci_b5 b
  obtain ⟨ta, tb, tt, ts⟩ := fv_tr (fc_F L V M s0 n)
  have ne := fv_ne (L := L) (V := V) (M := M) (s0 := s0) n
  obtain rfl : a = pl_ft (px_F L V M s0 n) := by omega
  exact if_pos b1
theorem rs_N (K : rn_K L V M lim s0 fs bend N) {n a : Nat} (hn : n < N) (hs : 0 < px_st L V M lim s0 n) (ha : a < 3) : rs_p L V M lim s0 n (px_st L V M lim s0 n) a = (px_he L V M s0 (n + 1) a).toInt := by
  unfold rs_p
  split
  · rename_i t
    rw [pt_n hs]
    unfold sg_dd
    split <;> omega
  · rename_i t
    obtain ⟨w, _⟩ := rs_wr K hn t
    rw [w]
    split
    · rename_i e; subst e; unfold px_c px_x; dsimp only; omega
    · rename_i e1
      split
      · rename_i e; subst e; unfold px_d px_y; dsimp only; omega
      · rename_i e2
        rw [rs_ft K hn t ha e1 e2]
theorem rs_in (K : rn_K L V M lim s0 fs bend N) {n k a : Nat} (hn : n < N) (hs : 0 < px_st L V M lim s0 n) (hk : k ≤ px_st L V M lim s0 n) (ha : a < 3) : 0 ≤ rs_p L V M lim s0 n k a ∧ rs_p L V M lim s0 n k a ≤ (lim a).toInt := by
  have c0 := (rk_ci K (n := n) (by omega)).2.2 a ha
  have c1 := (rk_ci K (n := n + 1) (by omega)).2.2 a ha
  by_cases k0 : k = 0
  · subst k0; rw [rs_0 hs]; exact c0
  unfold rs_p
  split
  · have := pt_le (size := sg_dd (px_he L V M s0 n) (px_he L V M s0 (n + 1)) a) hs hk
    unfold sg_dd at this ⊢
    split <;> omega
  · rename_i t
    obtain ⟨_, w⟩ := rs_wr K hn t
    have w' := w k (by omega) hk
    split
    · rename_i e; subst e; exact ⟨w'.1, w'.2.1⟩
    · split
      · rename_i e; subst e; exact ⟨w'.2.2.1, w'.2.2.2⟩
      · exact c0
theorem rs_R (K : rn_K L V M lim s0 fs bend N) {n k a : Nat} (hn : n < N) (hs : 0 < px_st L V M lim s0 n) (hk : k ≤ px_st L V M lim s0 n) (ha : a < 3) : (rs_v L V M lim s0 n k a).toInt = rs_p L V M lim s0 n k a := by
  have h := rs_in K hn hs hk ha
  have l := (K.1.2.2.2 a ha).2
  exact ii_toInt (by unfold ii_R; omega)
/-- a line without steps does not move -/
theorem rs_s0 (K : rn_K L V M lim s0 fs bend N) {n a : Nat} (hn : n < N) (hs : px_st L V M lim s0 n = 0) (ha : a < 3) : px_he L V M s0 (n + 1) a = px_he L V M s0 n a := by
  have t : px_tu L V M s0 n = 0 := by
    refine Decidable.byContradiction (fun z => ?_)
    have := (rn_st K.1 (rk_ci K (n := n) (by omega)) (rk_w K hn)).2 z
    omega
  have d := rs_dd (lim := lim) t ha
  rw [hs] at d
  unfold sg_dd at d
  rw [fc_eq]
  omega
theorem dw_0 (K : rn_K L V M lim s0 fs bend N) {n : Nat} (hn : n < N) (h : ¬ 0 < px_dw L V M s0 n) : px_dw L V M s0 n = 0 := by
  have w := ci_why (rk_w K hn)
  unfold px_dw pl_dw at h ⊢
  split at h
  · rename_i e4
    rw [if_pos e4]
    have h9 : px_H L M n 9 = true := by
      obtain ⟨q1, _⟩ := mi_3 (post := fun r => r = 0) w.2.2.1
      cases e : px_H L M n 9
      · exact absurd (q1 (Or.inr ⟨e, e4⟩)) (by decide)
      · rfl
    have key : ∀ j, rd_no L V (8 * n) j = false → rd_hs L (8 * n) j 9 = true → ¬ rd_wd L V (fun _ => 0) (8 * n) j 9 < 0 := by
      intro j
      induction j with
      | zero => intro _ z; exact absurd (show false = true from z) (by decide)
      | succ j ih =>
        intro hn h
        rw [rd_no, Bool.or_eq_false_iff] at hn
        rw [rd_hs] at h
        rw [rd_wd]
        by_cases c : L (8 * n + j) = 0
        · rw [if_pos c] at h ⊢; exact ih hn.1 h
        · rw [if_neg c] at h ⊢
          obtain ⟨k, k1, k2, k3⟩ := rd_let (K.1.1 (8 * n + j))
          rw [k3] at h ⊢
          by_cases e : 9 = k
          · subst e
            rw [pk_us]
            have hb := hn.2
            unfold pl_bad at hb
            rw [decide_eq_false_iff_not] at hb
            exact fun z => hb (Or.inr (Or.inr (Or.inr ⟨k2, Or.inl z⟩)))
          · rw [pk_un e]
            rw [if_neg e] at h
            exact ih hn.1 h
    have g := key _ w.1 h9
    have g' : ¬ px_W L V M n 9 < 0 := g
    rw [fc_lt, fc_0] at g' h
    rw [fc_eq, fc_0]
    omega
  · rename_i e4
    rw [if_neg e4]
end
end POS
end
section
section STP
theorem st_pt {k size n : Nat} (hn : 0 < n) (hk : k ≤ 3000) (hz : size ≤ 1000) (hn2 : n ≤ 3000) : ((2 * nI k) * nI size + nI n) / (2 * nI n) = nI (pt_ k size n) := by
  rw [show (2 : Int32) = nI 2 from rfl, pk_mul, pk_mul, pk_mul, nI_add]
  have : 2 * k * size ≤ 6000 * 1000 := Nat.mul_le_mul (by omega) hz
  rw [pk_div (by omega) (by omega) (by omega)]
  rfl
theorem st_2n {n : Nat} (hn : 0 < n) (hn2 : n ≤ 3000) : ¬ (2 * nI n : Int32) = 0 := by
  rw [show (2 : Int32) = nI 2 from rfl, pk_mul]
  exact nI_ne0 (by omega) (by omega)
section
variable {L V M lim s0 : Nat → Int32} {fs bend : Int32} {N : Nat}
/-- how far an axis goes: the difference as an int, and its size -/
theorem st_d (K : rn_K L V M lim s0 fs bend N) {n a : Nat} (hn : n < N) (ha : a < 3) :
    (0 ≤ px_he L V M s0 (n + 1) a - px_he L V M s0 n a ↔ (px_he L V M s0 n a).toInt ≤ (px_he L V M s0 (n + 1) a).toInt) ∧
    (0 ≤ px_he L V M s0 (n + 1) a - px_he L V M s0 n a → px_he L V M s0 (n + 1) a - px_he L V M s0 n a = nI (sg_dd (px_he L V M s0 n) (px_he L V M s0 (n + 1)) a)) ∧
    (¬ 0 ≤ px_he L V M s0 (n + 1) a - px_he L V M s0 n a → -(px_he L V M s0 (n + 1) a - px_he L V M s0 n a) = nI (sg_dd (px_he L V M s0 n) (px_he L V M s0 (n + 1)) a)) ∧
    sg_dd (px_he L V M s0 n) (px_he L V M s0 (n + 1)) a ≤ 1000 := by
  have c0 := ci_he1 K.1 (rk_ci K (n := n) (by omega)) a ha
  have c1 := ci_he1 K.1 (rk_ci K (n := n + 1) (by omega)) a ha
  have y := sg_absy (x := px_he L V M s0 n a) (y := px_he L V M s0 (n + 1) a) c0 (by omega)
  refine ⟨?_, y.1, y.2, by unfold sg_dd; omega⟩
  rw [ii_dd]
  have := ii_le (a := 0) (b := (px_he L V M s0 (n + 1) a).toInt - (px_he L V M s0 n a).toInt) (by unfold ii_R; omega) (by unfold ii_R; omega)
  constructor
  · intro z; have := this.mp z; omega
  · intro z; exact this.mpr (by omega)
theorem st_it (K : rn_K L V M lim s0 fs bend N) {n k : Nat} (hn : n < N) (hs : 0 < px_st L V M lim s0 n) (hk : k ≤ px_st L V M lim s0 n) (t : ¬ px_tu L V M s0 n = 0) :
    (-5000 ≤ (wk_it (px_on L V M s0 n) (px_far L V M s0 n) k (-px_p L V M s0 n, -px_q L V M s0 n)).1 ∧ (wk_it (px_on L V M s0 n) (px_far L V M s0 n) k (-px_p L V M s0 n, -px_q L V M s0 n)).1 ≤ 5000) ∧
    (-5000 ≤ (wk_it (px_on L V M s0 n) (px_far L V M s0 n) k (-px_p L V M s0 n, -px_q L V M s0 n)).2 ∧ (wk_it (px_on L V M s0 n) (px_far L V M s0 n) k (-px_p L V M s0 n, -px_q L V M s0 n)).2 ≤ 5000) := by
  obtain ⟨ta, tb, _, _⟩ := fv_tr (fc_F L V M s0 n)
  have ra := rs_in K hn hs hk ta
  have rb := rs_in K hn hs hk tb
  unfold rs_p at ra rb
  rw [if_neg t, if_pos rfl] at ra
  rw [if_neg t, if_neg (fv_ne n), if_pos rfl] at rb
  have la := (K.1.2.2.2 _ ta).2
  have lb := (K.1.2.2.2 _ tb).2
  have cd := rn_cd K.1 (rk_ci K (n := n) (by omega)) (rk_w K hn) t
  omega
end
section
variable {f_lines f_fastest f_gain f_bend f_ahead f_mode f_holds f_pace f_line f_gone f_dwellLeft f_stepsInAll f_ticksInAll f_speed f_present f_laid : Int32} {a_wordCounts a_letters a_values a_limits a_switches a_tool a_inForce a_origins a_given a_rows a_probe a_motions a_thirds a_centres a_steps a_paces a_dwells a_marks a_nexts a_joints : Nat → Int32}
theorem xt_ss {post : SX → Prop} {s0 : Nat → Int32} {N n k : Nat} (K : rn_K a_letters a_values a_wordCounts a_limits s0 f_fastest f_bend N) (hX : xz_L a_letters a_values a_wordCounts a_limits f_fastest s0 N a_rows a_motions a_thirds a_centres a_steps a_paces a_dwells a_marks)
    (hn : n < N) (hs : 0 < px_st a_letters a_values a_wordCounts a_limits s0 n) (hk : k ≤ px_st a_letters a_values a_wordCounts a_limits s0 n) (t : px_tu a_letters a_values a_wordCounts s0 n = 0)
    (h : post (f_lines, f_fastest, f_gain, f_bend, f_ahead, f_mode, f_holds, f_pace, f_line, f_gone, f_dwellLeft, f_stepsInAll, f_ticksInAll, f_speed, f_present, f_laid, a_wordCounts, a_letters, a_values, a_limits, a_switches, (tl_ (rs_v a_letters a_values a_wordCounts a_limits s0 n k) a_tool), a_inForce, a_origins, a_given, a_rows, a_probe, a_motions, a_thirds, a_centres, a_steps, a_paces, a_dwells, a_marks, a_nexts, a_joints)) : wpX_stepStraight__tool post (f_lines, f_fastest, f_gain, f_bend, f_ahead, f_mode, f_holds, f_pace, f_line, f_gone, f_dwellLeft, f_stepsInAll, f_ticksInAll, f_speed, f_present, f_laid, a_wordCounts, a_letters, a_values, a_limits, a_switches, a_tool, a_inForce, a_origins, a_given, a_rows, a_probe, a_motions, a_thirds, a_centres, a_steps, a_paces, a_dwells, a_marks, a_nexts, a_joints) (nI n) (nI k) := by
  have N30 : N ≤ 30 := K.2.2.2.2.1
  have sn := rk_s K hn
  have st : ∀ a f T, a < 3 → wX_stepStraight__tool_18 post (nI n) (nI k) (nI (px_st a_letters a_values a_wordCounts a_limits s0 n)) f_lines f_fastest f_gain f_bend f_ahead f_mode f_holds f_pace f_line f_gone f_dwellLeft f_stepsInAll f_ticksInAll f_speed f_present f_laid f (nI (a + 1)) a_wordCounts a_letters a_values a_limits a_switches (upd T a (rs_v a_letters a_values a_wordCounts a_limits s0 n k a)) a_inForce a_origins a_given a_rows a_probe a_motions a_thirds a_centres a_steps a_paces a_dwells a_marks a_nexts a_joints →
      wX_stepStraight__tool_18 post (nI n) (nI k) (nI (px_st a_letters a_values a_wordCounts a_limits s0 n)) f_lines f_fastest f_gain f_bend f_ahead f_mode f_holds f_pace f_line f_gone f_dwellLeft f_stepsInAll f_ticksInAll f_speed f_present f_laid (f + 1) (nI a) a_wordCounts a_letters a_values a_limits a_switches T a_inForce a_origins a_given a_rows a_probe a_motions a_thirds a_centres a_steps a_paces a_dwells a_marks a_nexts a_joints := by
    intro a f T ha g
    obtain ⟨d1, d2, d3, d4⟩ := st_d K hn ha
    refine br_f (ix_3a ha) ?_
    rw [ix_3, ix_3s, nI_clamp (show 3 * n + a < 2 ^ 31 by omega), nI_clamp (show 3 * (n + 1) + a < 2 ^ 31 by omega), hX.1 n (by omega) a ha, hX.1 (n + 1) (by omega) a ha]
    have g68 : ∀ z, z = nI (sg_dd (px_he a_letters a_values a_wordCounts s0 n) (px_he a_letters a_values a_wordCounts s0 (n + 1)) a) → wX_stepStraight__tool_68 post (wX_stepStraight__tool_18 post (nI n) (nI k) (nI (px_st a_letters a_values a_wordCounts a_limits s0 n)) f_lines f_fastest f_gain f_bend f_ahead f_mode f_holds f_pace f_line f_gone f_dwellLeft f_stepsInAll f_ticksInAll f_speed f_present f_laid f) (nI n) (nI k) (nI (px_st a_letters a_values a_wordCounts a_limits s0 n)) (nI a) (px_he a_letters a_values a_wordCounts s0 n a) (px_he a_letters a_values a_wordCounts s0 (n + 1) a - px_he a_letters a_values a_wordCounts s0 n a) z f_lines f_fastest f_gain f_bend f_ahead f_mode f_holds f_pace f_line f_gone f_dwellLeft f_stepsInAll f_ticksInAll f_speed f_present f_laid a_wordCounts a_letters a_values a_limits a_switches T a_inForce a_origins a_given a_rows a_probe a_motions a_thirds a_centres a_steps a_paces a_dwells a_marks a_nexts a_joints := by
      intro z ez
      subst ez
      unfold wX_stepStraight__tool_68
      rw [st_pt hs (by omega) d4 sn, nI_clamp (show a < 2 ^ 31 by omega)]
      refine ⟨st_2n hs sn, nm_e (br_c (fun c => ⟨vp_in_nI ha (by omega), nm_r (e' := upd T a (rs_v a_letters a_values a_wordCounts a_limits s0 n k a)) ?_ (nm_r (nI_1 a) g)⟩) (fun c => ⟨vp_in_nI ha (by omega), nm_r (e' := upd T a (rs_v a_letters a_values a_wordCounts a_limits s0 n k a)) ?_ (nm_r (nI_1 a) g)⟩))⟩
      · congr 1
        unfold rs_v rs_p
        rw [if_pos t, if_pos (d1.mp c), ← ii_add, ii_t, ← ii_n]
      · congr 1
        unfold rs_v rs_p
        rw [if_pos t, if_neg (fun z => c (d1.mpr z)), ← ii_sub, ii_t, ← ii_n]
    exact ⟨vp_in_nI (by omega) (by omega), nm_e ⟨vp_in_nI (by omega) (by omega), nm_e (br_c (fun c => g68 _ (d2 c)) (fun c => g68 _ (d3 c)))⟩⟩
  unfold wpX_stepStraight__tool
  dsimp only
  rw [nI_clamp (show n < 2 ^ 31 by omega), (hX.2 n hn).2.2.1]
  refine ⟨vp_in_nI (by omega) (by omega), nm_e (br_t (nI_le (a := 1) (by omega) (by omega)) ⟨4, st 0 3 _ (by decide) (st 1 2 _ (by decide) (st 2 1 _ (by decide) (br_t ix_33 ?_)))⟩)⟩
  have e : upd (upd (upd a_tool 0 (rs_v a_letters a_values a_wordCounts a_limits s0 n k 0)) 1 (rs_v a_letters a_values a_wordCounts a_limits s0 n k 1)) 2 (rs_v a_letters a_values a_wordCounts a_limits s0 n k 2) = tl_ (rs_v a_letters a_values a_wordCounts a_limits s0 n k) a_tool :=
    tl_e (fun a ha => co_3 (P := fun a => upd (upd (upd a_tool 0 (rs_v a_letters a_values a_wordCounts a_limits s0 n k 0)) 1 (rs_v a_letters a_values a_wordCounts a_limits s0 n k 1)) 2 (rs_v a_letters a_values a_wordCounts a_limits s0 n k 2) a = rs_v a_letters a_values a_wordCounts a_limits s0 n k a) rfl rfl rfl ha) (fun a ha => by rw [pk_un (by omega), pk_un (by omega), pk_un (by omega)])
  rw [e]; exact h
theorem xt_sr {post : SX → Prop} {s0 : Nat → Int32} {N n k : Nat} (K : rn_K a_letters a_values a_wordCounts a_limits s0 f_fastest f_bend N) (hX : xz_L a_letters a_values a_wordCounts a_limits f_fastest s0 N a_rows a_motions a_thirds a_centres a_steps a_paces a_dwells a_marks)
    (hn : n < N) (hs : 0 < px_st a_letters a_values a_wordCounts a_limits s0 n) (hk : k + 1 ≤ px_st a_letters a_values a_wordCounts a_limits s0 n) (t : ¬ px_tu a_letters a_values a_wordCounts s0 n = 0) (hT : ∀ a, a < 3 → a_tool a = rs_v a_letters a_values a_wordCounts a_limits s0 n k a)
    (h : post (f_lines, f_fastest, f_gain, f_bend, f_ahead, f_mode, f_holds, f_pace, f_line, f_gone, f_dwellLeft, f_stepsInAll, f_ticksInAll, f_speed, f_present, f_laid, a_wordCounts, a_letters, a_values, a_limits, a_switches, (tl_ (rs_v a_letters a_values a_wordCounts a_limits s0 n (k + 1)) a_tool), a_inForce, a_origins, a_given, a_rows, a_probe, a_motions, a_thirds, a_centres, a_steps, a_paces, a_dwells, a_marks, a_nexts, a_joints)) : wpX_stepRound__tool post (f_lines, f_fastest, f_gain, f_bend, f_ahead, f_mode, f_holds, f_pace, f_line, f_gone, f_dwellLeft, f_stepsInAll, f_ticksInAll, f_speed, f_present, f_laid, a_wordCounts, a_letters, a_values, a_limits, a_switches, a_tool, a_inForce, a_origins, a_given, a_rows, a_probe, a_motions, a_thirds, a_centres, a_steps, a_paces, a_dwells, a_marks, a_nexts, a_joints) (nI n) := by
  have N30 : N ≤ 30 := K.2.2.2.2.1
  have hF := fc_F a_letters a_values a_wordCounts s0 n
  obtain ⟨_, hth, efa, efb⟩ := fv_ft hF
  obtain ⟨ta, tb, tt, ts⟩ := fv_tr hF
  have ne := fv_ne (L := a_letters) (V := a_values) (M := a_wordCounts) (s0 := s0) n
  obtain ⟨y1, y2, y3, y4, y5, y6, y7⟩ := hX.2 n hn
  obtain ⟨y8, y9⟩ := y7 t
  have mo := rn_mo (rk_w K hn) hs
  have it := st_it K hn hs (k := k) (by omega) t
  obtain ⟨b, _⟩ := (ci_why (rk_w K hn)).2.2.2.2 t
  obtain ⟨_, b2, b3, _⟩ := ci_b5 b
  have vA : ∀ j, rs_v a_letters a_values a_wordCounts a_limits s0 n j (pl_fa (px_F a_letters a_values a_wordCounts s0 n)) = ii_I (px_c a_letters a_values a_wordCounts s0 n + (wk_it (px_on a_letters a_values a_wordCounts s0 n) (px_far a_letters a_values a_wordCounts s0 n) j (-px_p a_letters a_values a_wordCounts s0 n, -px_q a_letters a_values a_wordCounts s0 n)).1) := by
    intro j; unfold rs_v rs_p; rw [if_neg t, if_pos rfl]
  have vB : ∀ j, rs_v a_letters a_values a_wordCounts a_limits s0 n j (pl_fb (px_F a_letters a_values a_wordCounts s0 n)) = ii_I (px_d a_letters a_values a_wordCounts s0 n + (wk_it (px_on a_letters a_values a_wordCounts s0 n) (px_far a_letters a_values a_wordCounts s0 n) j (-px_p a_letters a_values a_wordCounts s0 n, -px_q a_letters a_values a_wordCounts s0 n)).2) := by
    intro j; unfold rs_v rs_p; rw [if_neg t, if_neg ne, if_pos rfl]
  refine xs_sttool (th := pl_ft (px_F a_letters a_values a_wordCounts s0 n)) (on := px_on a_letters a_values a_wordCounts s0 n) (p := px_p a_letters a_values a_wordCounts s0 n) (q := px_q a_letters a_values a_wordCounts s0 n) (c := px_c a_letters a_values a_wordCounts s0 n) (d := px_d a_letters a_values a_wordCounts s0 n)
    (u := (wk_it (px_on a_letters a_values a_wordCounts s0 n) (px_far a_letters a_values a_wordCounts s0 n) k (-px_p a_letters a_values a_wordCounts s0 n, -px_q a_letters a_values a_wordCounts s0 n)).1) (v := (wk_it (px_on a_letters a_values a_wordCounts s0 n) (px_far a_letters a_values a_wordCounts s0 n) k (-px_p a_letters a_values a_wordCounts s0 n, -px_q a_letters a_values a_wordCounts s0 n)).2)
    (by omega) hth y2 ?_ y8 y9 ?_ ?_ ?_ ?_ it.1 it.2 ⟨by unfold px_far at b2; omega, b3⟩ ?_
  · rw [y1]
    rcases mo with z | ⟨_, z, _⟩
    · exact absurd z.1 t
    · rw [z]; unfold px_on; rw [decide_eq_true_iff]
  · rw [efa, hX.1 n (by omega) _ ta, ← ii_t (px_he a_letters a_values a_wordCounts s0 n (pl_fa (px_F a_letters a_values a_wordCounts s0 n)))]
    congr 1
    unfold px_c; omega
  · rw [efb, hX.1 n (by omega) _ tb, ← ii_t (px_he a_letters a_values a_wordCounts s0 n (pl_fb (px_F a_letters a_values a_wordCounts s0 n)))]
    congr 1
    unfold px_d; omega
  · rw [efa, hT _ ta]; exact vA k
  · rw [efb, hT _ tb]; exact vB k
  · rw [efa, efb]
    have e : upd (upd a_tool (pl_fa (px_F a_letters a_values a_wordCounts s0 n)) (ii_I (px_c a_letters a_values a_wordCounts s0 n + (wk_nx (px_on a_letters a_values a_wordCounts s0 n) (px_p a_letters a_values a_wordCounts s0 n * px_p a_letters a_values a_wordCounts s0 n + px_q a_letters a_values a_wordCounts s0 n * px_q a_letters a_values a_wordCounts s0 n) ((wk_it (px_on a_letters a_values a_wordCounts s0 n) (px_far a_letters a_values a_wordCounts s0 n) k (-px_p a_letters a_values a_wordCounts s0 n, -px_q a_letters a_values a_wordCounts s0 n)).1, (wk_it (px_on a_letters a_values a_wordCounts s0 n) (px_far a_letters a_values a_wordCounts s0 n) k (-px_p a_letters a_values a_wordCounts s0 n, -px_q a_letters a_values a_wordCounts s0 n)).2)).1))) (pl_fb (px_F a_letters a_values a_wordCounts s0 n)) (ii_I (px_d a_letters a_values a_wordCounts s0 n + (wk_nx (px_on a_letters a_values a_wordCounts s0 n) (px_p a_letters a_values a_wordCounts s0 n * px_p a_letters a_values a_wordCounts s0 n + px_q a_letters a_values a_wordCounts s0 n * px_q a_letters a_values a_wordCounts s0 n) ((wk_it (px_on a_letters a_values a_wordCounts s0 n) (px_far a_letters a_values a_wordCounts s0 n) k (-px_p a_letters a_values a_wordCounts s0 n, -px_q a_letters a_values a_wordCounts s0 n)).1, (wk_it (px_on a_letters a_values a_wordCounts s0 n) (px_far a_letters a_values a_wordCounts s0 n) k (-px_p a_letters a_values a_wordCounts s0 n, -px_q a_letters a_values a_wordCounts s0 n)).2)).2)) = tl_ (rs_v a_letters a_values a_wordCounts a_limits s0 n (k + 1)) a_tool := by
      refine tl_e (fun a ha => ?_) (fun a ha => by rw [pk_un (by omega), pk_un (by omega)])
      by_cases e1 : a = pl_fb (px_F a_letters a_values a_wordCounts s0 n)
      · subst e1; rw [pk_us, vB, wk_its]; rfl
      · rw [pk_un e1]
        by_cases e2 : a = pl_fa (px_F a_letters a_values a_wordCounts s0 n)
        · subst e2; rw [pk_us, vA, wk_its]; rfl
        · rw [pk_un e2, hT a ha]
          unfold rs_v rs_p
          rw [if_neg t, if_neg t, if_neg e2, if_neg e2, if_neg e1, if_neg e1]
    rw [e]; exact h
theorem xt_cs {post : Int32 → Prop} {p : Int32} {a : Nat} {old : Nat → Int32} (ha : a < 3) (hp : p = nI a) (h : post (bo_I (tp_ a_tool old a_switches a))) : wpX_cameToSwitch post (f_lines, f_fastest, f_gain, f_bend, f_ahead, f_mode, f_holds, f_pace, f_line, f_gone, f_dwellLeft, f_stepsInAll, f_ticksInAll, f_speed, f_present, f_laid, a_wordCounts, a_letters, a_values, a_limits, a_switches, a_tool, a_inForce, a_origins, a_given, a_rows, a_probe, a_motions, a_thirds, a_centres, a_steps, a_paces, a_dwells, a_marks, a_nexts, a_joints) p (old a) := by
  subst hp
  unfold wpX_cameToSwitch
  dsimp only
  rw [nI_clamp (show a < 2 ^ 31 by omega)]
  have i3 : vp_in (nI a) 3 := vp_in_nI ha (by omega)
  refine ⟨i3, br_c (fun c => ?_) (fun c => ⟨i3, i3, br_c (fun d => ?_) (fun d => ?_)⟩)⟩
  · rw [show tp_ a_tool old a_switches a = false from decide_eq_false (fun z => z.1 c)] at h; exact h
  · rw [show tp_ a_tool old a_switches a = true from decide_eq_true ⟨c, d⟩] at h; exact h
  · rw [show tp_ a_tool old a_switches a = false from decide_eq_false (fun z => d z.2)] at h; exact h
theorem xt_ts {post : SX → Prop} {s0 : Nat → Int32} {N n k : Nat} (K : rn_K a_letters a_values a_wordCounts a_limits s0 f_fastest f_bend N) (hX : xr_ a_letters a_values a_wordCounts a_limits s0 f_fastest f_bend N f_laid a_rows a_motions a_thirds a_centres a_steps a_paces a_dwells a_marks a_nexts a_joints)
    (hn : n < N) (hs : 0 < px_st a_letters a_values a_wordCounts a_limits s0 n) (hk : k + 1 ≤ px_st a_letters a_values a_wordCounts a_limits s0 n) (hT : ∀ a, a < 3 → a_tool a = rs_v a_letters a_values a_wordCounts a_limits s0 n k a)
    (T : Nat → Int32) (eT : T = tl_ (rs_v a_letters a_values a_wordCounts a_limits s0 n (k + 1)) a_tool)
    (h4 : (tp_ T a_tool a_switches 0 || tp_ T a_tool a_switches 1 || tp_ T a_tool a_switches 2) = true → post (f_lines, f_fastest, f_gain, f_bend, f_ahead, 4, 0, 0, (nI n), (nI (1000 * (k + 1))), f_dwellLeft, (f_stepsInAll + 1), f_ticksInAll, f_speed, f_present, f_laid, a_wordCounts, a_letters, a_values, a_limits, a_switches, T, a_inForce, a_origins, a_given, a_rows, a_probe, a_motions, a_thirds, a_centres, a_steps, a_paces, a_dwells, a_marks, a_nexts, a_joints))
    (hJ : (tp_ T a_tool a_switches 0 || tp_ T a_tool a_switches 1 || tp_ T a_tool a_switches 2) = false → k + 1 = px_st a_letters a_values a_wordCounts a_limits s0 n → ∀ m, rn_x a_letters a_values a_wordCounts a_limits s0 N n = some m → post (f_lines, f_fastest, f_gain, f_bend, f_ahead, f_mode, f_holds, f_pace, (nI m), 0, f_dwellLeft, (f_stepsInAll + 1), f_ticksInAll, f_speed, f_present, f_laid, a_wordCounts, a_letters, a_values, a_limits, a_switches, T, a_inForce, a_origins, a_given, a_rows, a_probe, a_motions, a_thirds, a_centres, a_steps, a_paces, a_dwells, a_marks, a_nexts, a_joints))
    (hE : (tp_ T a_tool a_switches 0 || tp_ T a_tool a_switches 1 || tp_ T a_tool a_switches 2) = false → (k + 1 = px_st a_letters a_values a_wordCounts a_limits s0 n → rn_x a_letters a_values a_wordCounts a_limits s0 N n = none) → post (f_lines, f_fastest, f_gain, f_bend, f_ahead, f_mode, f_holds, f_pace, (nI n), (nI (1000 * (k + 1))), f_dwellLeft, (f_stepsInAll + 1), f_ticksInAll, f_speed, f_present, f_laid, a_wordCounts, a_letters, a_values, a_limits, a_switches, T, a_inForce, a_origins, a_given, a_rows, a_probe, a_motions, a_thirds, a_centres, a_steps, a_paces, a_dwells, a_marks, a_nexts, a_joints)) :
    wpX_takeStep post (f_lines, f_fastest, f_gain, f_bend, f_ahead, f_mode, f_holds, f_pace, (nI n), (nI (1000 * (k + 1))), f_dwellLeft, f_stepsInAll, f_ticksInAll, f_speed, f_present, f_laid, a_wordCounts, a_letters, a_values, a_limits, a_switches, a_tool, a_inForce, a_origins, a_given, a_rows, a_probe, a_motions, a_thirds, a_centres, a_steps, a_paces, a_dwells, a_marks, a_nexts, a_joints) := by
  have N30 : N ≤ 30 := K.2.2.2.2.1
  have sn := rk_s K hn
  have i30 : vp_in (nI n) 30 := vp_in_nI (by omega) (by omega)
  have cl : (nI n).toNatClampNeg = n := nI_clamp (by omega)
  have ek : nI (1000 * (k + 1)) / 1000 = nI (k + 1) := by
    rw [show (1000 : Int32) = nI 1000 from rfl, pk_div (by omega) (by decide) (by decide), Nat.mul_div_cancel_left _ (by decide)]
  obtain ⟨ex, _⟩ := hX.2.2 n hn
  rw [if_neg (by omega)] at ex
  have g110 : (tp_ T a_tool a_switches 0 || tp_ T a_tool a_switches 1 || tp_ T a_tool a_switches 2) = true → wX_takeStep_110 post f_lines f_fastest f_gain f_bend f_ahead f_mode f_holds f_pace (nI n) (nI (1000 * (k + 1))) f_dwellLeft (f_stepsInAll + 1) f_ticksInAll f_speed f_present f_laid a_wordCounts a_letters a_values a_limits a_switches T a_inForce a_origins a_given a_rows a_probe a_motions a_thirds a_centres a_steps a_paces a_dwells a_marks a_nexts a_joints := fun z => h4 z
  have g73 : wX_takeStep_73 post (a_tool 0) (a_tool 1) (a_tool 2) (nI (k + 1)) f_lines f_fastest f_gain f_bend f_ahead f_mode f_holds f_pace (nI n) (nI (1000 * (k + 1))) f_dwellLeft f_stepsInAll f_ticksInAll f_speed f_present f_laid a_wordCounts a_letters a_values a_limits a_switches T a_inForce a_origins a_given a_rows a_probe a_motions a_thirds a_centres a_steps a_paces a_dwells a_marks a_nexts a_joints := by
    unfold wX_takeStep_73
    refine nm_e (xt_cs (a := 0) (old := a_tool) (by decide) rfl (br_c (fun c0 => xt_cs (a := 1) (old := a_tool) (by decide) rfl (br_c (fun c1 => xt_cs (a := 2) (old := a_tool) (by decide) rfl (br_c (fun c2 => ⟨i30, ?_⟩) (fun c2 => g110 ?_))) (fun c1 => g110 ?_))) (fun c0 => g110 ?_)))
    · have tf : (tp_ T a_tool a_switches 0 || tp_ T a_tool a_switches 1 || tp_ T a_tool a_switches 2) = false := by rw [bo_yf c0, bo_yf c1, bo_yf c2]; rfl
      rw [cl, (hX.2.1.2 n hn).2.2.1, ex]
      refine br_c (fun c => ⟨i30, ?_⟩) (fun c => hE tf (fun z => absurd (by rw [z]) c))
      have c' : k + 1 = px_st a_letters a_values a_wordCounts a_limits s0 n := (nI_eq (by omega) (by omega)).mp c
      cases e : rn_x a_letters a_values a_wordCounts a_limits s0 N n with
      | none => exact br_t rfl (hE tf (fun _ => e))
      | some m =>
        obtain ⟨m1, m2, m3⟩ := rk_x n m e
        exact br_f (nj_Im m (by omega)) ⟨i30, nm_e (hJ tf c' m e)⟩
    · rw [bo_nf c2]; simp
    · rw [bo_nf c1]; simp
    · rw [bo_nf c0]; simp
  unfold wpX_takeStep
  dsimp only
  rw [ek, cl, (hX.2.1.2 n hn).1]
  refine nm_e (nm_e (nm_e ⟨by decide, nm_e ⟨i30, br_c (fun c => ?_) (fun c => ?_)⟩⟩))
  · rcases rn_mo (rk_w K hn) hs with z | ⟨z1, z2, z3⟩
    · refine xt_ss K hX.2.1 hn hs hk z.1 ?_
      rw [← eT]; exact g73
    · rw [z2] at c
      rcases z3 with w | w <;> (rw [w] at c; exact absurd c (by decide))
  · rcases rn_mo (rk_w K hn) hs with z | ⟨z1, z2, z3⟩
    · exact absurd (Int32.not_lt.mp c) z.2
    · refine xt_sr K hX.2.1 hn hs hk z1 hT ?_
      rw [← eT]; exact g73
end
end STP
end
section
section ARR
theorem tu_pos {L V M s0 : Nat → Int32} (n : Nat) : (px_tu L V M s0 n ≤ 0 ↔ px_tu L V M s0 n = 0) := by
  unfold px_tu pl_tu
  split
  · rename_i c
    rcases fv_0 (fc_F L V M s0 n) with z | z | z | z <;> rw [z] at c ⊢ <;> first | decide | exact absurd c.2 (by decide)
  · decide
section
variable {f_lines f_fastest f_gain f_bend f_ahead f_speed f_seen f_state f_line f_pace f_left f_went f_allSteps f_allTicks f_u f_v f_holds : Int32} {a_letters a_values a_many a_tool a_began a_limit a_trips a_force a_origins a_here a_has a_grouped a_word a_from a_to a_steps a_paces a_dwells a_ends a_turn a_first a_second a_centre a_direction : Nat → Int32}
/-- one axis of the reference's step -/
theorem ya_153 {post : SY → Prop} {s0 : Nat → Int32} {N n k a f : Nat} {fl : Bool} {old T : Nat → Int32} (K : rn_K a_letters a_values a_many a_limit s0 f_fastest f_bend N) (hY : yr_ a_letters a_values a_many a_limit s0 f_fastest N f_seen a_from a_to a_steps a_paces a_dwells a_ends a_turn a_first a_second a_centre)
    (hn : n < N) (hs : 0 < px_st a_letters a_values a_many a_limit s0 n) (hk : k + 1 ≤ px_st a_letters a_values a_many a_limit s0 n) (ha : a < 3)
    (hu : ¬ px_tu a_letters a_values a_many s0 n = 0 → a = pl_fa (px_F a_letters a_values a_many s0 n) → a_centre (2 * n) + f_u = rs_v a_letters a_values a_many a_limit s0 n (k + 1) a)
    (hv : ¬ px_tu a_letters a_values a_many s0 n = 0 → a = pl_fb (px_F a_letters a_values a_many s0 n) → a_centre (2 * n + 1) + f_v = rs_v a_letters a_values a_many a_limit s0 n (k + 1) a)
    (hw : ¬ px_tu a_letters a_values a_many s0 n = 0 → ¬ a = pl_fa (px_F a_letters a_values a_many s0 n) → ¬ a = pl_fb (px_F a_letters a_values a_many s0 n) → old a = rs_v a_letters a_values a_many a_limit s0 n (k + 1) a)
    (hTo : T a = old a)
    (h : ∀ T2, T2 a = rs_v a_letters a_values a_many a_limit s0 n (k + 1) a → (∀ b, b ≠ a → T2 b = T b) →
      wY_arrive_153 post (nI (k + 1)) (nI n) f_lines f_fastest f_gain f_bend f_ahead f_speed f_seen f_state f_line f_pace f_left f_went f_allSteps f_allTicks f_u f_v f_holds f (bo_I (fl || tp_ (rs_v a_letters a_values a_many a_limit s0 n (k + 1)) old a_trips a)) (nI (a + 1)) a_letters a_values a_many T2 a_began a_limit a_trips a_force a_origins a_here a_has a_grouped a_word a_from a_to a_steps a_paces a_dwells a_ends a_turn a_first a_second a_centre a_direction) :
    wY_arrive_153 post (nI (k + 1)) (nI n) f_lines f_fastest f_gain f_bend f_ahead f_speed f_seen f_state f_line f_pace f_left f_went f_allSteps f_allTicks f_u f_v f_holds (f + 1) (bo_I fl) (nI a) a_letters a_values a_many T a_began a_limit a_trips a_force a_origins a_here a_has a_grouped a_word a_from a_to a_steps a_paces a_dwells a_ends a_turn a_first a_second a_centre a_direction := by
  have N30 : N ≤ 30 := K.2.2.2.2.1
  have sn := rk_s K hn
  have i30 : vp_in (nI n) 30 := vp_in_nI (by omega) (by omega)
  have i3 : vp_in (nI a) 3 := vp_in_nI ha (by omega)
  have i90 : vp_in (nI (3 * n + a)) 90 := vp_in_nI (by omega) (by omega)
  have cl : (nI n).toNatClampNeg = n := nI_clamp (by omega)
  have cla : (nI a).toNatClampNeg = a := nI_clamp (by omega)
  have cl3 : (nI (3 * n + a)).toNatClampNeg = 3 * n + a := nI_clamp (by omega)
  obtain ⟨y1, y2, y3, y4, y5, y6⟩ := hY.2.2 n hn
  obtain ⟨f1, f2⟩ := hY.2.1 n hn a ha
  obtain ⟨d1, d2, d3, d4⟩ := st_d K hn ha
  have tp := tu_pos (L := a_letters) (V := a_values) (M := a_many) (s0 := s0) n
  refine br_f (ix_3a ha) ⟨i3, ?_⟩
  rw [ix_y3, cla, cl3, f1, f2, hTo]
  refine nm_e ⟨i90, i90, nm_e ?_⟩
  -- the comparison, when the axis has its new place
  have g373 : ∀ T2, T2 a = rs_v a_letters a_values a_many a_limit s0 n (k + 1) a → (∀ b, b ≠ a → T2 b = T b) → wY_arrive_373 post (wY_arrive_153 post (nI (k + 1)) (nI n) f_lines f_fastest f_gain f_bend f_ahead f_speed f_seen f_state f_line f_pace f_left f_went f_allSteps f_allTicks f_u f_v f_holds f) (nI (k + 1)) (nI n) (bo_I fl) (nI a) (old a) f_lines f_fastest f_gain f_bend f_ahead f_speed f_seen f_state f_line f_pace f_left f_went f_allSteps f_allTicks f_u f_v f_holds a_letters a_values a_many T2 a_began a_limit a_trips a_force a_origins a_here a_has a_grouped a_word a_from a_to a_steps a_paces a_dwells a_ends a_turn a_first a_second a_centre a_direction := by
    intro T2 e1 e2
    have h' := h T2 e1 e2
    unfold wY_arrive_373
    rw [cla, e1]
    refine ⟨i3, br_c (fun c => ?_) (fun c => ⟨i3, i3, br_c (fun d => ?_) (fun d => ?_)⟩)⟩
    · rw [show tp_ (rs_v a_letters a_values a_many a_limit s0 n (k + 1)) old a_trips a = false from decide_eq_false (fun z => z.1 c)] at h'
      exact nm_r (bo_or fl false) (nm_r (nI_1 a) h')
    · rw [show tp_ (rs_v a_letters a_values a_many a_limit s0 n (k + 1)) old a_trips a = true from decide_eq_true ⟨c, d⟩] at h'
      exact nm_r (bo_or fl true) (nm_r (nI_1 a) h')
    · rw [show tp_ (rs_v a_letters a_values a_many a_limit s0 n (k + 1)) old a_trips a = false from decide_eq_false (fun z => d z.2)] at h'
      exact nm_r (bo_or fl false) (nm_r (nI_1 a) h')
  by_cases t : px_tu a_letters a_values a_many s0 n = 0
  · have tl : px_tu a_letters a_values a_many s0 n ≤ 0 := tp.mpr t
    have g290 : ∀ z, z = rs_v a_letters a_values a_many a_limit s0 n (k + 1) a → wY_arrive_290 post (wY_arrive_153 post (nI (k + 1)) (nI n) f_lines f_fastest f_gain f_bend f_ahead f_speed f_seen f_state f_line f_pace f_left f_went f_allSteps f_allTicks f_u f_v f_holds f) (nI (k + 1)) (nI n) (bo_I fl) (nI a) (old a) z (nI a) f_lines f_fastest f_gain f_bend f_ahead f_speed f_seen f_state f_line f_pace f_left f_went f_allSteps f_allTicks f_u f_v f_holds a_letters a_values a_many T a_began a_limit a_trips a_force a_origins a_here a_has a_grouped a_word a_from a_to a_steps a_paces a_dwells a_ends a_turn a_first a_second a_centre a_direction := by
      intro z ez
      subst ez
      unfold wY_arrive_290 wY_arrive_331
      rw [cla, cl, y5]
      exact ⟨i3, nm_e ⟨i30, br_t tl ⟨i30, br_t tl (g373 _ pk_us (fun b hb => pk_un hb))⟩⟩⟩
    have g206 : ∀ z, z = nI (sg_dd (px_he a_letters a_values a_many s0 n) (px_he a_letters a_values a_many s0 (n + 1)) a) → wY_arrive_206 post (wY_arrive_153 post (nI (k + 1)) (nI n) f_lines f_fastest f_gain f_bend f_ahead f_speed f_seen f_state f_line f_pace f_left f_went f_allSteps f_allTicks f_u f_v f_holds f) (nI (k + 1)) (nI n) (bo_I fl) (nI a) (old a) (px_he a_letters a_values a_many s0 (n + 1) a - px_he a_letters a_values a_many s0 n a) z f_lines f_fastest f_gain f_bend f_ahead f_speed f_seen f_state f_line f_pace f_left f_went f_allSteps f_allTicks f_u f_v f_holds a_letters a_values a_many T a_began a_limit a_trips a_force a_origins a_here a_has a_grouped a_word a_from a_to a_steps a_paces a_dwells a_ends a_turn a_first a_second a_centre a_direction := by
      intro z ez
      subst ez
      unfold wY_arrive_206 wY_arrive_243 wY_arrive_289
      rw [ix_y3, cl3, cl, y5, y1, f1, st_pt hs (by omega) d4 sn]
      refine ⟨i30, br_t tl ⟨i30, i30, st_2n hs sn, i30, br_t tl ⟨i90, br_c (fun c => g290 _ ?_) (fun c => g290 _ ?_)⟩⟩⟩
      · unfold rs_v rs_p
        rw [if_pos t, if_pos (d1.mp c), ← ii_add, ii_t, ← ii_n]
      · unfold rs_v rs_p
        rw [if_pos t, if_neg (fun z => c (d1.mpr z)), ← ii_sub, ii_t, ← ii_n, Int32.sub_eq_add_neg]
    exact br_c (fun c => g206 _ (d2 c)) (fun c => g206 _ (d3 c))
  · have tl : ¬ px_tu a_letters a_values a_many s0 n ≤ 0 := fun z => t (tp.mp z)
    obtain ⟨w1, w2, w3, w4⟩ := y6 t
    obtain ⟨ta, tb, tt, ts⟩ := fv_tr (fc_F a_letters a_values a_many s0 n)
    have i60 : vp_in (nI (2 * n)) 60 := vp_in_nI (by omega) (by omega)
    have i61 : vp_in (nI (2 * n + 1)) 60 := vp_in_nI (by omega) (by omega)
    have g331 : ∀ T2, (∀ b, b ≠ a → T2 b = T b) → (¬ a = pl_fb (px_F a_letters a_values a_many s0 n) → T2 a = rs_v a_letters a_values a_many a_limit s0 n (k + 1) a) → wY_arrive_331 post (wY_arrive_153 post (nI (k + 1)) (nI n) f_lines f_fastest f_gain f_bend f_ahead f_speed f_seen f_state f_line f_pace f_left f_went f_allSteps f_allTicks f_u f_v f_holds f) (nI (k + 1)) (nI n) (bo_I fl) (nI a) (old a) f_lines f_fastest f_gain f_bend f_ahead f_speed f_seen f_state f_line f_pace f_left f_went f_allSteps f_allTicks f_u f_v f_holds a_letters a_values a_many T2 a_began a_limit a_trips a_force a_origins a_here a_has a_grouped a_word a_from a_to a_steps a_paces a_dwells a_ends a_turn a_first a_second a_centre a_direction := by
      intro T2 e1 e2
      unfold wY_arrive_331
      rw [cl, y5, w2, ix_y21, nI_clamp (show 2 * n + 1 < 2 ^ 31 by omega), cla]
      refine ⟨i30, br_f tl ⟨i30, br_c (fun c => ⟨i61, i3, nm_e (g373 _ ?_ (fun b hb => (pk_un hb).trans (e1 b hb)))⟩) (fun c => g373 _ (e2 ?_) e1)⟩⟩
      · rw [pk_us]; exact hv t ((nI_eq (by omega) (by omega)).mp c)
      · exact fun z => c (by rw [z])
    have g290 : wY_arrive_290 post (wY_arrive_153 post (nI (k + 1)) (nI n) f_lines f_fastest f_gain f_bend f_ahead f_speed f_seen f_state f_line f_pace f_left f_went f_allSteps f_allTicks f_u f_v f_holds f) (nI (k + 1)) (nI n) (bo_I fl) (nI a) (old a) (old a) (nI a) f_lines f_fastest f_gain f_bend f_ahead f_speed f_seen f_state f_line f_pace f_left f_went f_allSteps f_allTicks f_u f_v f_holds a_letters a_values a_many T a_began a_limit a_trips a_force a_origins a_here a_has a_grouped a_word a_from a_to a_steps a_paces a_dwells a_ends a_turn a_first a_second a_centre a_direction := by
      unfold wY_arrive_290
      rw [cla, cl, y5, w1, ix_y2, nI_clamp (show 2 * n < 2 ^ 31 by omega)]
      refine ⟨i3, nm_e ⟨i30, br_f tl ⟨i30, br_c (fun c => ⟨i60, i3, nm_e (g331 _ (fun b hb => (pk_un hb).trans (pk_un hb)) (fun _ => ?_))⟩) (fun c => g331 _ (fun b hb => pk_un hb) (fun z => ?_))⟩⟩⟩
      · rw [pk_us]; exact hu t ((nI_eq (by omega) (by omega)).mp c)
      · rw [pk_us]; exact hw t (fun y => c (by rw [y])) z
    have g206 : ∀ x z, wY_arrive_206 post (wY_arrive_153 post (nI (k + 1)) (nI n) f_lines f_fastest f_gain f_bend f_ahead f_speed f_seen f_state f_line f_pace f_left f_went f_allSteps f_allTicks f_u f_v f_holds f) (nI (k + 1)) (nI n) (bo_I fl) (nI a) (old a) x z f_lines f_fastest f_gain f_bend f_ahead f_speed f_seen f_state f_line f_pace f_left f_went f_allSteps f_allTicks f_u f_v f_holds a_letters a_values a_many T a_began a_limit a_trips a_force a_origins a_here a_has a_grouped a_word a_from a_to a_steps a_paces a_dwells a_ends a_turn a_first a_second a_centre a_direction := by
      intro x z
      unfold wY_arrive_206 wY_arrive_243
      rw [cl, y5]
      exact ⟨i30, br_f tl ⟨i30, br_f tl g290⟩⟩
    exact br_c (fun c => g206 _ _) (fun c => g206 _ _)
theorem ya_loop {post : SY → Prop} {s0 : Nat → Int32} {N n k : Nat} (K : rn_K a_letters a_values a_many a_limit s0 f_fastest f_bend N) (hY : yr_ a_letters a_values a_many a_limit s0 f_fastest N f_seen a_from a_to a_steps a_paces a_dwells a_ends a_turn a_first a_second a_centre)
    (hn : n < N) (hs : 0 < px_st a_letters a_values a_many a_limit s0 n) (hk : k + 1 ≤ px_st a_letters a_values a_many a_limit s0 n)
    (hu : ¬ px_tu a_letters a_values a_many s0 n = 0 → ∀ a, a = pl_fa (px_F a_letters a_values a_many s0 n) → a_centre (2 * n) + f_u = rs_v a_letters a_values a_many a_limit s0 n (k + 1) a)
    (hv : ¬ px_tu a_letters a_values a_many s0 n = 0 → ∀ a, a = pl_fb (px_F a_letters a_values a_many s0 n) → a_centre (2 * n + 1) + f_v = rs_v a_letters a_values a_many a_limit s0 n (k + 1) a)
    (hw : ¬ px_tu a_letters a_values a_many s0 n = 0 → ∀ a, a < 3 → ¬ a = pl_fa (px_F a_letters a_values a_many s0 n) → ¬ a = pl_fb (px_F a_letters a_values a_many s0 n) → a_tool a = rs_v a_letters a_values a_many a_limit s0 n (k + 1) a)
    (T : Nat → Int32) (eT : T = tl_ (rs_v a_letters a_values a_many a_limit s0 n (k + 1)) a_tool)
    (h4 : (tp_ T a_tool a_trips 0 || tp_ T a_tool a_trips 1 || tp_ T a_tool a_trips 2) = true → post (f_lines, f_fastest, f_gain, f_bend, f_ahead, f_speed, f_seen, 4, (nI n), 0, f_left, f_went, (f_allSteps + 1), f_allTicks, f_u, f_v, 0, a_letters, a_values, a_many, T, a_began, a_limit, a_trips, a_force, a_origins, a_here, a_has, a_grouped, a_word, a_from, a_to, a_steps, a_paces, a_dwells, a_ends, a_turn, a_first, a_second, a_centre, a_direction))
    (hM : (tp_ T a_tool a_trips 0 || tp_ T a_tool a_trips 1 || tp_ T a_tool a_trips 2) = false → ¬ k + 1 = px_st a_letters a_values a_many a_limit s0 n → post (f_lines, f_fastest, f_gain, f_bend, f_ahead, f_speed, f_seen, f_state, (nI n), f_pace, f_left, f_went, (f_allSteps + 1), f_allTicks, f_u, f_v, f_holds, a_letters, a_values, a_many, T, a_began, a_limit, a_trips, a_force, a_origins, a_here, a_has, a_grouped, a_word, a_from, a_to, a_steps, a_paces, a_dwells, a_ends, a_turn, a_first, a_second, a_centre, a_direction))
    (hJ : (tp_ T a_tool a_trips 0 || tp_ T a_tool a_trips 1 || tp_ T a_tool a_trips 2) = false → k + 1 = px_st a_letters a_values a_many a_limit s0 n → ∀ m, rn_x a_letters a_values a_many a_limit s0 N n = some m → post (f_lines, f_fastest, f_gain, f_bend, f_ahead, f_speed, f_seen, f_state, (nI m), f_pace, f_left, 0, (f_allSteps + 1), f_allTicks, f_u, f_v, f_holds, a_letters, a_values, a_many, T, a_began, a_limit, a_trips, a_force, a_origins, a_here, a_has, a_grouped, a_word, a_from, a_to, a_steps, a_paces, a_dwells, a_ends, a_turn, a_first, a_second, a_centre, a_direction))
    (hE : (tp_ T a_tool a_trips 0 || tp_ T a_tool a_trips 1 || tp_ T a_tool a_trips 2) = false → k + 1 = px_st a_letters a_values a_many a_limit s0 n → rn_x a_letters a_values a_many a_limit s0 N n = none → wpY_begin post (f_lines, f_fastest, f_gain, f_bend, f_ahead, f_speed, f_seen, f_state, (nI n), 0, f_left, f_went, (f_allSteps + 1), f_allTicks, f_u, f_v, f_holds, a_letters, a_values, a_many, T, a_began, a_limit, a_trips, a_force, a_origins, a_here, a_has, a_grouped, a_word, a_from, a_to, a_steps, a_paces, a_dwells, a_ends, a_turn, a_first, a_second, a_centre, a_direction) (nI n) 1) :
    ∃ m, wY_arrive_153 post (nI (k + 1)) (nI n) f_lines f_fastest f_gain f_bend f_ahead f_speed f_seen f_state (nI n) f_pace f_left f_went f_allSteps f_allTicks f_u f_v f_holds m 0 0 a_letters a_values a_many a_tool a_began a_limit a_trips a_force a_origins a_here a_has a_grouped a_word a_from a_to a_steps a_paces a_dwells a_ends a_turn a_first a_second a_centre a_direction := by
  have N30 : N ≤ 30 := K.2.2.2.2.1
  have sn := rk_s K hn
  have i30 : vp_in (nI n) 30 := vp_in_nI (by omega) (by omega)
  have cl : (nI n).toNatClampNeg = n := nI_clamp (by omega)
  refine ⟨4, ya_153 (f_line := nI n) (a := 0) (fl := false) (old := a_tool) K hY hn hs hk (by decide) (fun t e => hu t _ e) (fun t e => hv t _ e) (fun t => hw t 0 (by decide)) rfl (fun T0 p0 q0 => ?_)⟩
  refine ya_153 (f_line := nI n) (a := 1) (old := a_tool) K hY hn hs hk (by decide) (fun t e => hu t _ e) (fun t e => hv t _ e) (fun t => hw t 1 (by decide)) (q0 1 (by decide)) (fun T1 p1 q1 => ?_)
  refine ya_153 (f_line := nI n) (a := 2) (old := a_tool) K hY hn hs hk (by decide) (fun t e => hu t _ e) (fun t e => hv t _ e) (fun t => hw t 2 (by decide)) ((q1 2 (by decide)).trans (q0 2 (by decide))) (fun T2 p2 q2 => ?_)
  have e2 : T2 = T := by
    rw [eT]
    refine tl_e (fun a ha => co_3 (P := fun a => T2 a = rs_v a_letters a_values a_many a_limit s0 n (k + 1) a) ((q2 0 (by decide)).trans ((q1 0 (by decide)).trans p0)) ((q2 1 (by decide)).trans p1) p2 ha) (fun a ha => ?_)
    exact (q2 a (by omega)).trans ((q1 a (by omega)).trans (q0 a (by omega)))
  have et : ∀ a, a < 3 → tp_ (rs_v a_letters a_values a_many a_limit s0 n (k + 1)) a_tool a_trips a = tp_ T a_tool a_trips a := by
    intro a ha
    unfold tp_
    rw [eT, tl_v ha]
  rw [et 0 (by decide), et 1 (by decide), et 2 (by decide), Bool.false_or, e2]
  refine br_t ix_33 (nm_e (br_c (fun c => ⟨i30, ?_⟩) (fun c => h4 (bo_nf c))))
  rw [cl, (hY.2.2 n hn).1]
  refine br_c (fun d => ?_) (fun d => hM (bo_yf c) (fun z => d (by rw [z])))
  have d' : k + 1 = px_st a_letters a_values a_many a_limit s0 n := (nI_eq (by omega) (by omega)).mp d
  unfold wpY_end
  refine yf_ov K hY hn ?_
  cases e : rn_x a_letters a_values a_many a_limit s0 N n with
  | none => exact br_t (by decide) (hE (bo_yf c) d' e)
  | some m =>
    obtain ⟨m1, m2, m3⟩ := rk_x n m e
    exact br_f (nI_pos (n := m) (by omega)) (hJ (bo_yf c) d' m e)
theorem ya_ar {post : SY → Prop} {s0 : Nat → Int32} {N n k : Nat} (K : rn_K a_letters a_values a_many a_limit s0 f_fastest f_bend N) (hY : yr_ a_letters a_values a_many a_limit s0 f_fastest N f_seen a_from a_to a_steps a_paces a_dwells a_ends a_turn a_first a_second a_centre)
    (hn : n < N) (hs : 0 < px_st a_letters a_values a_many a_limit s0 n) (hk : k + 1 ≤ px_st a_letters a_values a_many a_limit s0 n) (hT : ∀ a, a < 3 → a_tool a = rs_v a_letters a_values a_many a_limit s0 n k a)
    (T : Nat → Int32) (eT : T = tl_ (rs_v a_letters a_values a_many a_limit s0 n (k + 1)) a_tool)
    (h4 : (tp_ T a_tool a_trips 0 || tp_ T a_tool a_trips 1 || tp_ T a_tool a_trips 2) = true → ∀ u v, post (f_lines, f_fastest, f_gain, f_bend, f_ahead, f_speed, f_seen, 4, (nI n), 0, f_left, (nI (1000 * (k + 1))), (f_allSteps + 1), f_allTicks, u, v, 0, a_letters, a_values, a_many, T, a_began, a_limit, a_trips, a_force, a_origins, a_here, a_has, a_grouped, a_word, a_from, a_to, a_steps, a_paces, a_dwells, a_ends, a_turn, a_first, a_second, a_centre, a_direction))
    (hM : (tp_ T a_tool a_trips 0 || tp_ T a_tool a_trips 1 || tp_ T a_tool a_trips 2) = false → ¬ k + 1 = px_st a_letters a_values a_many a_limit s0 n → ∀ u v, post (f_lines, f_fastest, f_gain, f_bend, f_ahead, f_speed, f_seen, f_state, (nI n), f_pace, f_left, (nI (1000 * (k + 1))), (f_allSteps + 1), f_allTicks, u, v, f_holds, a_letters, a_values, a_many, T, a_began, a_limit, a_trips, a_force, a_origins, a_here, a_has, a_grouped, a_word, a_from, a_to, a_steps, a_paces, a_dwells, a_ends, a_turn, a_first, a_second, a_centre, a_direction))
    (hJ : (tp_ T a_tool a_trips 0 || tp_ T a_tool a_trips 1 || tp_ T a_tool a_trips 2) = false → k + 1 = px_st a_letters a_values a_many a_limit s0 n → ∀ m, rn_x a_letters a_values a_many a_limit s0 N n = some m → ∀ u v, post (f_lines, f_fastest, f_gain, f_bend, f_ahead, f_speed, f_seen, f_state, (nI m), f_pace, f_left, 0, (f_allSteps + 1), f_allTicks, u, v, f_holds, a_letters, a_values, a_many, T, a_began, a_limit, a_trips, a_force, a_origins, a_here, a_has, a_grouped, a_word, a_from, a_to, a_steps, a_paces, a_dwells, a_ends, a_turn, a_first, a_second, a_centre, a_direction))
    (hE : (tp_ T a_tool a_trips 0 || tp_ T a_tool a_trips 1 || tp_ T a_tool a_trips 2) = false → k + 1 = px_st a_letters a_values a_many a_limit s0 n → rn_x a_letters a_values a_many a_limit s0 N n = none → ∀ u v, wpY_begin post (f_lines, f_fastest, f_gain, f_bend, f_ahead, f_speed, f_seen, f_state, (nI n), 0, f_left, (nI (1000 * (k + 1))), (f_allSteps + 1), f_allTicks, u, v, f_holds, a_letters, a_values, a_many, T, a_began, a_limit, a_trips, a_force, a_origins, a_here, a_has, a_grouped, a_word, a_from, a_to, a_steps, a_paces, a_dwells, a_ends, a_turn, a_first, a_second, a_centre, a_direction) (nI n) 1) :
    wpY_arrive post (f_lines, f_fastest, f_gain, f_bend, f_ahead, f_speed, f_seen, f_state, (nI n), f_pace, f_left, (nI (1000 * (k + 1))), f_allSteps, f_allTicks, f_u, f_v, f_holds, a_letters, a_values, a_many, a_tool, a_began, a_limit, a_trips, a_force, a_origins, a_here, a_has, a_grouped, a_word, a_from, a_to, a_steps, a_paces, a_dwells, a_ends, a_turn, a_first, a_second, a_centre, a_direction) := by
  have N30 : N ≤ 30 := K.2.2.2.2.1
  have sn := rk_s K hn
  have i30 : vp_in (nI n) 30 := vp_in_nI (by omega) (by omega)
  have cl : (nI n).toNatClampNeg = n := nI_clamp (by omega)
  have ek : nI (1000 * (k + 1)) / 1000 = nI (k + 1) := by
    rw [show (1000 : Int32) = nI 1000 from rfl, pk_div (by omega) (by decide) (by decide), Nat.mul_div_cancel_left _ (by decide)]
  obtain ⟨y1, y2, y3, y4, y5, y6⟩ := hY.2.2 n hn
  have tp := tu_pos (L := a_letters) (V := a_values) (M := a_many) (s0 := s0) n
  unfold wpY_arrive
  dsimp only
  rw [ek, cl, y5]
  refine ⟨by decide, nm_e ⟨i30, br_c (fun c => ?_) (fun c => ?_)⟩⟩
  · have t := tp.mp c
    exact ya_loop (f_went := nI (1000 * (k + 1))) K hY hn hs hk (fun z => absurd t z) (fun z => absurd t z) (fun z => absurd t z) T eT (fun e => h4 e _ _) (fun e d => hM e d _ _) (fun e d m em => hJ e d m em _ _) (fun e d em => hE e d em _ _)
  · have t : ¬ px_tu a_letters a_values a_many s0 n = 0 := fun z => c (tp.mpr z)
    obtain ⟨w1, w2, w3, w4⟩ := y6 t
    obtain ⟨ta, tb, tt, ts⟩ := fv_tr (fc_F a_letters a_values a_many s0 n)
    have ne := fv_ne (L := a_letters) (V := a_values) (M := a_many) (s0 := s0) n
    have it := st_it K hn hs (k := k) (by omega) t
    obtain ⟨b, _⟩ := (ci_why (rk_w K hn)).2.2.2.2 t
    obtain ⟨_, b2, b3, _⟩ := ci_b5 b
    have vA : ∀ j, rs_v a_letters a_values a_many a_limit s0 n j (pl_fa (px_F a_letters a_values a_many s0 n)) = ii_I (px_c a_letters a_values a_many s0 n + (wk_it (px_on a_letters a_values a_many s0 n) (px_far a_letters a_values a_many s0 n) j (-px_p a_letters a_values a_many s0 n, -px_q a_letters a_values a_many s0 n)).1) := by
      intro j; unfold rs_v rs_p; rw [if_neg t, if_pos rfl]
    have vB : ∀ j, rs_v a_letters a_values a_many a_limit s0 n j (pl_fb (px_F a_letters a_values a_many s0 n)) = ii_I (px_d a_letters a_values a_many s0 n + (wk_it (px_on a_letters a_values a_many s0 n) (px_far a_letters a_values a_many s0 n) j (-px_p a_letters a_values a_many s0 n, -px_q a_letters a_values a_many s0 n)).2) := by
      intro j; unfold rs_v rs_p; rw [if_neg t, if_neg ne, if_pos rfl]
    rw [w1, w2, ix_y3, ix_y3, ix_y21, ix_y2, nI_clamp (show 2 * n < 2 ^ 31 by omega), nI_clamp (show 2 * n + 1 < 2 ^ 31 by omega), nI_clamp (show pl_fa (px_F a_letters a_values a_many s0 n) < 2 ^ 31 by omega), nI_clamp (show pl_fb (px_F a_letters a_values a_many s0 n) < 2 ^ 31 by omega),
      nI_clamp (show 3 * n + pl_fa (px_F a_letters a_values a_many s0 n) < 2 ^ 31 by omega), nI_clamp (show 3 * n + pl_fb (px_F a_letters a_values a_many s0 n) < 2 ^ 31 by omega), w3, w4, (hY.2.1 n hn _ ta).1, (hY.2.1 n hn _ tb).1, hT _ ta, hT _ tb, vA, vB]
    have i60 : vp_in (nI (2 * n)) 60 := vp_in_nI (by omega) (by omega)
    have i61 : vp_in (nI (2 * n + 1)) 60 := vp_in_nI (by omega) (by omega)
    have eA : px_he a_letters a_values a_many s0 n (pl_fa (px_F a_letters a_values a_many s0 n)) - ii_I (px_c a_letters a_values a_many s0 n) = ii_I (-px_p a_letters a_values a_many s0 n) := by
      rw [ii_d]; congr 1; unfold px_c; omega
    have eB : px_he a_letters a_values a_many s0 n (pl_fb (px_F a_letters a_values a_many s0 n)) - ii_I (px_d a_letters a_values a_many s0 n) = ii_I (-px_q a_letters a_values a_many s0 n) := by
      rw [ii_d]; congr 1; unfold px_d; omega
    refine ⟨i30, vp_in_nI ta (by omega), i60, nm_r (e' := ii_I (wk_it (px_on a_letters a_values a_many s0 n) (px_far a_letters a_values a_many s0 n) k (-px_p a_letters a_values a_many s0 n, -px_q a_letters a_values a_many s0 n)).1) (by rw [ii_sub]; congr 1; omega) ⟨i30, vp_in_nI tb (by omega), i61, nm_r (e' := ii_I (wk_it (px_on a_letters a_values a_many s0 n) (px_far a_letters a_values a_many s0 n) k (-px_p a_letters a_values a_many s0 n, -px_q a_letters a_values a_many s0 n)).2) (by rw [ii_sub]; congr 1; omega)
      ⟨i30, vp_in_nI (by omega) (by omega), i60, nm_r eA ⟨i30, vp_in_nI (by omega) (by omega), i61, nm_r eB ⟨i30, ?_⟩⟩⟩⟩⟩
    rw [ii_mul, ii_mul, ii_add, Int.neg_mul_neg, Int.neg_mul_neg]
    refine ys_nx (on := px_on a_letters a_values a_many s0 n) (f := px_far a_letters a_values a_many s0 n) (u := (wk_it (px_on a_letters a_values a_many s0 n) (px_far a_letters a_values a_many s0 n) k (-px_p a_letters a_values a_many s0 n, -px_q a_letters a_values a_many s0 n)).1) (v := (wk_it (px_on a_letters a_values a_many s0 n) (px_far a_letters a_values a_many s0 n) k (-px_p a_letters a_values a_many s0 n, -px_q a_letters a_values a_many s0 n)).2)
      (by unfold px_on; rw [decide_eq_true_iff]) rfl rfl it.1 it.2 ⟨by omega, b3⟩ ?_
    dsimp only
    refine ya_loop (f_went := nI (1000 * (k + 1))) K hY hn hs hk (fun _ a e => ?_) (fun _ a e => ?_) (fun _ a ha e1 e2 => ?_) T eT (fun e => h4 e _ _) (fun e d => hM e d _ _) (fun e d m em => hJ e d m em _ _) (fun e d em => hE e d em _ _)
    · subst e
      rw [w3, ii_add, vA, wk_its]
    · subst e
      rw [w4, ii_add, vB, wk_its]
    · rw [hT a ha]
      unfold rs_v rs_p
      rw [if_neg t, if_neg t, if_neg e1, if_neg e1, if_neg e2, if_neg e2]
end
end ARR
end
section
section BGN
def rb_ (N : Nat) (s : Nat → Nat) (d : Nat → Bool) (e : Nat → Int32) : Nat → Nat → Int32 × Nat
  | 0, k => (0, k)
  | f + 1, k => if k < N then (if 0 < s k then (1, k) else if d k = true then (2, k) else if e k = 1 then (3, k) else rb_ N s d e f (k + 1)) else (0, k)
theorem rb_f {N : Nat} {s : Nat → Nat} {d : Nat → Bool} {e : Nat → Int32} : ∀ f k r m, rb_ N s d e f k = (r, m) → ¬ r = 0 →
    (k ≤ m ∧ m < N) ∧ (∀ j, k ≤ j → j < m → s j = 0) ∧ ((r = 1 ∧ 0 < s m) ∨ (r = 2 ∧ s m = 0 ∧ d m = true) ∨ (r = 3 ∧ s m = 0 ∧ e m = 1)) := by
  intro f
  induction f with
  | zero => intro k r m h hr; exact absurd (congrArg Prod.fst h).symm hr
  | succ f ih =>
    intro k r m h hr
    rw [rb_] at h
    split at h
    · rename_i c
      split at h
      · rename_i c1
        obtain ⟨rfl, rfl⟩ := Prod.mk.inj h
        exact ⟨⟨Nat.le_refl _, c⟩, fun j a b => by omega, Or.inl ⟨rfl, c1⟩⟩
      · rename_i c1
        split at h
        · rename_i c2
          obtain ⟨rfl, rfl⟩ := Prod.mk.inj h
          exact ⟨⟨Nat.le_refl _, c⟩, fun j a b => by omega, Or.inr (Or.inl ⟨rfl, by omega, c2⟩)⟩
        · split at h
          · rename_i c3
            obtain ⟨rfl, rfl⟩ := Prod.mk.inj h
            exact ⟨⟨Nat.le_refl _, c⟩, fun j a b => by omega, Or.inr (Or.inr ⟨rfl, by omega, c3⟩)⟩
          · obtain ⟨⟨a1, a2⟩, a3, a4⟩ := ih _ _ _ h hr
            refine ⟨⟨by omega, a2⟩, fun j b1 b2 => ?_, a4⟩
            by_cases e : j = k
            · subst e; omega
            · exact a3 j (by omega) b2
    · exact absurd (congrArg Prod.fst h).symm hr
def rn_b (L V M lim s0 : Nat → Int32) (N k : Nat) : Int32 × Nat := rb_ N (px_st L V M lim s0) (rn_d L V M s0) (px_en L V M) 31 k
section
variable {f_lines f_fastest f_gain f_bend f_ahead f_mode f_holds f_pace f_line f_gone f_dwellLeft f_stepsInAll f_ticksInAll f_speed f_present f_laid : Int32} {a_wordCounts a_letters a_values a_limits a_switches a_tool a_inForce a_origins a_given a_rows a_probe a_motions a_thirds a_centres a_steps a_paces a_dwells a_marks a_nexts a_joints : Nat → Int32}
theorem xb_ba {post : SX → Prop} {s0 : Nat → Int32} {N k : Nat} (K : rn_K a_letters a_values a_wordCounts a_limits s0 f_fastest f_bend N) (eN : f_laid = nI N) (hX : xz_L a_letters a_values a_wordCounts a_limits f_fastest s0 N a_rows a_motions a_thirds a_centres a_steps a_paces a_dwells a_marks) (hk : k ≤ N)
    (h0 : (rn_b a_letters a_values a_wordCounts a_limits s0 N k).1 = 0 → post (f_lines, f_fastest, f_gain, f_bend, f_ahead, 0, 0, 0, (if k < N then nI (N - 1) else f_line), f_gone, f_dwellLeft, f_stepsInAll, f_ticksInAll, f_speed, f_present, f_laid, a_wordCounts, a_letters, a_values, a_limits, a_switches, a_tool, a_inForce, a_origins, a_given, a_rows, a_probe, a_motions, a_thirds, a_centres, a_steps, a_paces, a_dwells, a_marks, a_nexts, a_joints))
    (h1 : ∀ m, rn_b a_letters a_values a_wordCounts a_limits s0 N k = (1, m) → post (f_lines, f_fastest, f_gain, f_bend, f_ahead, 1, f_holds, f_pace, (nI m), 0, f_dwellLeft, f_stepsInAll, f_ticksInAll, f_speed, f_present, f_laid, a_wordCounts, a_letters, a_values, a_limits, a_switches, a_tool, a_inForce, a_origins, a_given, a_rows, a_probe, a_motions, a_thirds, a_centres, a_steps, a_paces, a_dwells, a_marks, a_nexts, a_joints))
    (h2 : ∀ m, rn_b a_letters a_values a_wordCounts a_limits s0 N k = (2, m) → post (f_lines, f_fastest, f_gain, f_bend, f_ahead, 2, f_holds, f_pace, (nI m), f_gone, (px_dw a_letters a_values a_wordCounts s0 m), f_stepsInAll, f_ticksInAll, f_speed, f_present, f_laid, a_wordCounts, a_letters, a_values, a_limits, a_switches, a_tool, a_inForce, a_origins, a_given, a_rows, a_probe, a_motions, a_thirds, a_centres, a_steps, a_paces, a_dwells, a_marks, a_nexts, a_joints))
    (h3 : ∀ m, rn_b a_letters a_values a_wordCounts a_limits s0 N k = (3, m) → post (f_lines, f_fastest, f_gain, f_bend, f_ahead, 3, 0, 0, (nI m), f_gone, f_dwellLeft, f_stepsInAll, f_ticksInAll, f_speed, f_present, f_laid, a_wordCounts, a_letters, a_values, a_limits, a_switches, a_tool, a_inForce, a_origins, a_given, a_rows, a_probe, a_motions, a_thirds, a_centres, a_steps, a_paces, a_dwells, a_marks, a_nexts, a_joints)) :
    wpX_beginAt post (f_lines, f_fastest, f_gain, f_bend, f_ahead, f_mode, f_holds, f_pace, f_line, f_gone, f_dwellLeft, f_stepsInAll, f_ticksInAll, f_speed, f_present, f_laid, a_wordCounts, a_letters, a_values, a_limits, a_switches, a_tool, a_inForce, a_origins, a_given, a_rows, a_probe, a_motions, a_thirds, a_centres, a_steps, a_paces, a_dwells, a_marks, a_nexts, a_joints) (nI k) := by
  have N30 : N ≤ 30 := K.2.2.2.2.1
  have lp : ∀ f k ln, k ≤ N → N ≤ k + f →
      ((rb_ N (px_st a_letters a_values a_wordCounts a_limits s0) (rn_d a_letters a_values a_wordCounts s0) (px_en a_letters a_values a_wordCounts) f k).1 = 0 → post (f_lines, f_fastest, f_gain, f_bend, f_ahead, 0, 0, 0, (if k < N then nI (N - 1) else ln), f_gone, f_dwellLeft, f_stepsInAll, f_ticksInAll, f_speed, f_present, f_laid, a_wordCounts, a_letters, a_values, a_limits, a_switches, a_tool, a_inForce, a_origins, a_given, a_rows, a_probe, a_motions, a_thirds, a_centres, a_steps, a_paces, a_dwells, a_marks, a_nexts, a_joints)) →
      (∀ m, rb_ N (px_st a_letters a_values a_wordCounts a_limits s0) (rn_d a_letters a_values a_wordCounts s0) (px_en a_letters a_values a_wordCounts) f k = (1, m) → post (f_lines, f_fastest, f_gain, f_bend, f_ahead, 1, f_holds, f_pace, (nI m), 0, f_dwellLeft, f_stepsInAll, f_ticksInAll, f_speed, f_present, f_laid, a_wordCounts, a_letters, a_values, a_limits, a_switches, a_tool, a_inForce, a_origins, a_given, a_rows, a_probe, a_motions, a_thirds, a_centres, a_steps, a_paces, a_dwells, a_marks, a_nexts, a_joints)) →
      (∀ m, rb_ N (px_st a_letters a_values a_wordCounts a_limits s0) (rn_d a_letters a_values a_wordCounts s0) (px_en a_letters a_values a_wordCounts) f k = (2, m) → post (f_lines, f_fastest, f_gain, f_bend, f_ahead, 2, f_holds, f_pace, (nI m), f_gone, (px_dw a_letters a_values a_wordCounts s0 m), f_stepsInAll, f_ticksInAll, f_speed, f_present, f_laid, a_wordCounts, a_letters, a_values, a_limits, a_switches, a_tool, a_inForce, a_origins, a_given, a_rows, a_probe, a_motions, a_thirds, a_centres, a_steps, a_paces, a_dwells, a_marks, a_nexts, a_joints)) →
      (∀ m, rb_ N (px_st a_letters a_values a_wordCounts a_limits s0) (rn_d a_letters a_values a_wordCounts s0) (px_en a_letters a_values a_wordCounts) f k = (3, m) → post (f_lines, f_fastest, f_gain, f_bend, f_ahead, 3, 0, 0, (nI m), f_gone, f_dwellLeft, f_stepsInAll, f_ticksInAll, f_speed, f_present, f_laid, a_wordCounts, a_letters, a_values, a_limits, a_switches, a_tool, a_inForce, a_origins, a_given, a_rows, a_probe, a_motions, a_thirds, a_centres, a_steps, a_paces, a_dwells, a_marks, a_nexts, a_joints)) →
      wX_beginAt_2 post f_lines f_fastest f_gain f_bend f_ahead f_mode f_holds f_pace f_gone f_dwellLeft f_stepsInAll f_ticksInAll f_speed f_present f_laid a_wordCounts a_letters a_values a_limits a_switches a_tool a_inForce a_origins a_given a_rows a_probe a_motions a_thirds a_centres a_steps a_paces a_dwells a_marks a_nexts a_joints (f + 1) (nI k) ln := by
    intro f
    induction f with
    | zero =>
      intro k ln hk hf g0 _ _ _
      rw [if_neg (show ¬ k < N by omega)] at g0
      exact br_t (by rw [eN]; exact nI_le (by omega) (by omega)) (g0 rfl)
    | succ f ih =>
      intro k ln hk hf g0 g1 g2 g3
      rw [rb_] at g0 g1 g2 g3
      by_cases c : k < N
      · rw [if_pos c] at g0 g1 g2 g3
        rw [if_pos c] at g0
        have sn := rk_s K c
        have i30 : vp_in (nI k) 30 := vp_in_nI (by omega) (by omega)
        obtain ⟨_, _, y3, _, y5, y6, _⟩ := hX.2 k c
        refine br_f (by rw [eN]; exact nI_ge c (by omega)) ⟨i30, ?_⟩
        rw [nI_clamp (show k < 2 ^ 31 by omega), y3, y5, y6]
        have z0 : nI (px_st a_letters a_values a_wordCounts a_limits s0 k) ≤ 0 ↔ px_st a_letters a_values a_wordCounts a_limits s0 k ≤ 0 := nI_leI (b := 0) (by omega) (by omega)
        have zm := (px_mark K.1.1 (ci_why (rk_w K c)).1).2
        refine br_c (fun d1 => ⟨i30, br_c (fun d2 => ⟨i30, br_c (fun d3 => ?_) (fun d3 => nm_r (nI_1 k) ?_)⟩) (fun d2 => ⟨i30, nm_e ?_⟩)⟩) (fun d1 => ?_)
        · rw [if_neg (by rw [z0] at d1; omega), if_neg (show ¬ rn_d a_letters a_values a_wordCounts s0 k = true from fun z => Int32.not_lt.mpr d2 (of_decide_eq_true z)), if_pos (zm.mp d3)] at g3
          exact g3 k rfl
        · rw [if_neg (by rw [z0] at d1; omega), if_neg (show ¬ rn_d a_letters a_values a_wordCounts s0 k = true from fun z => Int32.not_lt.mpr d2 (of_decide_eq_true z)), if_neg (fun z => d3 (zm.mpr z))] at g0 g1 g2 g3
          have el : (if k + 1 < N then nI (N - 1) else nI k) = nI (N - 1) := by
            split
            · rfl
            · congr 1; omega
          exact ih (k + 1) _ (by omega) (by omega) (by rw [el]; exact g0) g1 g2 g3
        · rw [if_neg (by rw [z0] at d1; omega), if_pos (show rn_d a_letters a_values a_wordCounts s0 k = true from decide_eq_true (Int32.not_le.mp d2))] at g2
          exact g2 k rfl
        · rw [if_pos (by rw [z0] at d1; omega)] at g1
          exact g1 k rfl
      · rw [if_neg c, if_neg c] at g0
        exact br_t (by rw [eN]; exact nI_le (by omega) (by omega)) (g0 rfl)
  exact ⟨32, lp 31 k _ hk (by omega) h0 h1 h2 h3⟩
end
section
variable {f_lines f_fastest f_gain f_bend f_ahead f_speed f_seen f_state f_line f_pace f_left f_went f_allSteps f_allTicks f_u f_v f_holds : Int32} {a_letters a_values a_many a_tool a_began a_limit a_trips a_force a_origins a_here a_has a_grouped a_word a_from a_to a_steps a_paces a_dwells a_ends a_turn a_first a_second a_centre a_direction : Nat → Int32}
theorem yb_5 {post : SY → Prop} {s0 : Nat → Int32} {N : Nat} (K : rn_K a_letters a_values a_many a_limit s0 f_fastest f_bend N) (hY : yr_ a_letters a_values a_many a_limit s0 f_fastest N f_seen a_from a_to a_steps a_paces a_dwells a_ends a_turn a_first a_second a_centre) :
    ∀ f k sa li le we, k ≤ N → N ≤ k + f →
      ((rb_ N (px_st a_letters a_values a_many a_limit s0) (rn_d a_letters a_values a_many s0) (px_en a_letters a_values a_many) f k).1 = 0 → post (f_lines, f_fastest, f_gain, f_bend, f_ahead, f_speed, f_seen, 0, (-1), 0, 0, (if k < N then 0 else we), f_allSteps, f_allTicks, f_u, f_v, 0, a_letters, a_values, a_many, a_tool, a_began, a_limit, a_trips, a_force, a_origins, a_here, a_has, a_grouped, a_word, a_from, a_to, a_steps, a_paces, a_dwells, a_ends, a_turn, a_first, a_second, a_centre, a_direction)) →
      (∀ m, rb_ N (px_st a_letters a_values a_many a_limit s0) (rn_d a_letters a_values a_many s0) (px_en a_letters a_values a_many) f k = (1, m) → post (f_lines, f_fastest, f_gain, f_bend, f_ahead, f_speed, f_seen, 1, (nI m), f_pace, 0, 0, f_allSteps, f_allTicks, f_u, f_v, f_holds, a_letters, a_values, a_many, a_tool, a_began, a_limit, a_trips, a_force, a_origins, a_here, a_has, a_grouped, a_word, a_from, a_to, a_steps, a_paces, a_dwells, a_ends, a_turn, a_first, a_second, a_centre, a_direction)) →
      (∀ m, rb_ N (px_st a_letters a_values a_many a_limit s0) (rn_d a_letters a_values a_many s0) (px_en a_letters a_values a_many) f k = (2, m) → post (f_lines, f_fastest, f_gain, f_bend, f_ahead, f_speed, f_seen, 2, (nI m), f_pace, (px_dw a_letters a_values a_many s0 m), 0, f_allSteps, f_allTicks, f_u, f_v, f_holds, a_letters, a_values, a_many, a_tool, a_began, a_limit, a_trips, a_force, a_origins, a_here, a_has, a_grouped, a_word, a_from, a_to, a_steps, a_paces, a_dwells, a_ends, a_turn, a_first, a_second, a_centre, a_direction)) →
      (∀ m, rb_ N (px_st a_letters a_values a_many a_limit s0) (rn_d a_letters a_values a_many s0) (px_en a_letters a_values a_many) f k = (3, m) → post (f_lines, f_fastest, f_gain, f_bend, f_ahead, f_speed, f_seen, 3, (nI m), f_pace, 0, 0, f_allSteps, f_allTicks, f_u, f_v, 0, a_letters, a_values, a_many, a_tool, a_began, a_limit, a_trips, a_force, a_origins, a_here, a_has, a_grouped, a_word, a_from, a_to, a_steps, a_paces, a_dwells, a_ends, a_turn, a_first, a_second, a_centre, a_direction)) →
      wY_begin_5 post f_lines f_fastest f_gain f_bend f_ahead f_speed f_seen f_pace f_allSteps f_allTicks f_u f_v f_holds a_letters a_values a_many a_tool a_began a_limit a_trips a_force a_origins a_here a_has a_grouped a_word a_from a_to a_steps a_paces a_dwells a_ends a_turn a_first a_second a_centre a_direction (f + 1) 0 (nI k) sa li le we := by
  have N30 : N ≤ 30 := K.2.2.2.2.1
  intro f
  induction f with
  | zero =>
    intro k sa li le we hk hf g0 _ _ _
    rw [if_neg (show ¬ k < N by omega)] at g0
    exact br_t (by rw [hY.1]; exact nI_le (by omega) (by omega)) (g0 rfl)
  | succ f ih =>
    intro k sa li le we hk hf g0 g1 g2 g3
    rw [rb_] at g0 g1 g2 g3
    by_cases c : k < N
    · rw [if_pos c] at g0 g1 g2 g3
      rw [if_pos c] at g0
      have sn := rk_s K c
      have i30 : vp_in (nI k) 30 := vp_in_nI (by omega) (by omega)
      have cl : (nI k).toNatClampNeg = k := nI_clamp (by omega)
      obtain ⟨y1, _, y3, y4, _, _⟩ := hY.2.2 k c
      refine br_f (by rw [hY.1]; exact nI_ge c (by omega)) ⟨i30, ?_⟩
      rw [cl, y3]
      have z0 : nI (px_st a_letters a_values a_many a_limit s0 k) ≤ 0 ↔ px_st a_letters a_values a_many a_limit s0 k ≤ 0 := nI_leI (b := 0) (by omega) (by omega)
      refine nm_e (br_c (fun d => ?_) (fun d => ?_))
      · have nd : ¬ 0 < px_dw a_letters a_values a_many s0 k := Int32.not_lt.mpr d
        have nd' : ¬ rn_d a_letters a_values a_many s0 k = true := fun z => nd (of_decide_eq_true z)
        unfold wY_begin_49 wY_begin_74
        rw [cl, y1, y4]
        refine br_t rfl (br_f nd ⟨i30, br_c (fun d1 => ⟨i30, br_c (fun d3 => ?_) (fun d3 => nm_r (nI_1 k) ?_)⟩) (fun d1 => ?_)⟩)
        · rw [if_neg (by rw [z0] at d1; omega), if_neg nd', if_pos d3] at g3
          exact g3 k rfl
        · rw [if_neg (by rw [z0] at d1; omega), if_neg nd', if_neg d3] at g0 g1 g2 g3
          exact ih (k + 1) _ _ _ _ (by omega) (by omega) (by rw [ite_self]; exact g0) g1 g2 g3
        · rw [if_pos (by rw [z0] at d1; omega)] at g1
          have := g1 k rfl
          rw [dw_0 K c nd]
          exact this
      · have pd : 0 < px_dw a_letters a_values a_many s0 k := Int32.not_le.mp d
        have s0' : px_st a_letters a_values a_many a_limit s0 k = 0 := rn_dw (rk_w K c) pd
        unfold wY_begin_49
        rw [if_neg (by omega), if_pos (show rn_d a_letters a_values a_many s0 k = true from decide_eq_true pd)] at g2
        exact br_t rfl (br_t pd (g2 k rfl))
    · rw [if_neg c, if_neg c] at g0
      exact br_t (by rw [hY.1]; exact nI_le (by omega) (by omega)) (g0 rfl)
theorem yb_b0 {post : SY → Prop} {s0 : Nat → Int32} {N k : Nat} (K : rn_K a_letters a_values a_many a_limit s0 f_fastest f_bend N) (hY : yr_ a_letters a_values a_many a_limit s0 f_fastest N f_seen a_from a_to a_steps a_paces a_dwells a_ends a_turn a_first a_second a_centre) (hk : k ≤ N)
    (h0 : (rn_b a_letters a_values a_many a_limit s0 N k).1 = 0 → post (f_lines, f_fastest, f_gain, f_bend, f_ahead, f_speed, f_seen, 0, (-1), 0, 0, (if k < N then 0 else f_went), f_allSteps, f_allTicks, f_u, f_v, 0, a_letters, a_values, a_many, a_tool, a_began, a_limit, a_trips, a_force, a_origins, a_here, a_has, a_grouped, a_word, a_from, a_to, a_steps, a_paces, a_dwells, a_ends, a_turn, a_first, a_second, a_centre, a_direction))
    (h1 : ∀ m, rn_b a_letters a_values a_many a_limit s0 N k = (1, m) → post (f_lines, f_fastest, f_gain, f_bend, f_ahead, f_speed, f_seen, 1, (nI m), f_pace, 0, 0, f_allSteps, f_allTicks, f_u, f_v, f_holds, a_letters, a_values, a_many, a_tool, a_began, a_limit, a_trips, a_force, a_origins, a_here, a_has, a_grouped, a_word, a_from, a_to, a_steps, a_paces, a_dwells, a_ends, a_turn, a_first, a_second, a_centre, a_direction))
    (h2 : ∀ m, rn_b a_letters a_values a_many a_limit s0 N k = (2, m) → post (f_lines, f_fastest, f_gain, f_bend, f_ahead, f_speed, f_seen, 2, (nI m), f_pace, (px_dw a_letters a_values a_many s0 m), 0, f_allSteps, f_allTicks, f_u, f_v, f_holds, a_letters, a_values, a_many, a_tool, a_began, a_limit, a_trips, a_force, a_origins, a_here, a_has, a_grouped, a_word, a_from, a_to, a_steps, a_paces, a_dwells, a_ends, a_turn, a_first, a_second, a_centre, a_direction))
    (h3 : ∀ m, rn_b a_letters a_values a_many a_limit s0 N k = (3, m) → post (f_lines, f_fastest, f_gain, f_bend, f_ahead, f_speed, f_seen, 3, (nI m), f_pace, 0, 0, f_allSteps, f_allTicks, f_u, f_v, 0, a_letters, a_values, a_many, a_tool, a_began, a_limit, a_trips, a_force, a_origins, a_here, a_has, a_grouped, a_word, a_from, a_to, a_steps, a_paces, a_dwells, a_ends, a_turn, a_first, a_second, a_centre, a_direction)) :
    wpY_begin post (f_lines, f_fastest, f_gain, f_bend, f_ahead, f_speed, f_seen, f_state, f_line, f_pace, f_left, f_went, f_allSteps, f_allTicks, f_u, f_v, f_holds, a_letters, a_values, a_many, a_tool, a_began, a_limit, a_trips, a_force, a_origins, a_here, a_has, a_grouped, a_word, a_from, a_to, a_steps, a_paces, a_dwells, a_ends, a_turn, a_first, a_second, a_centre, a_direction) (nI k) 0 := by
  have N30 : N ≤ 30 := K.2.2.2.2.1
  exact ⟨32, yb_5 K hY 31 k _ _ _ _ hk (by omega) h0 h1 h2 h3⟩
theorem yb_b1 {post : SY → Prop} {s0 : Nat → Int32} {N k : Nat} (K : rn_K a_letters a_values a_many a_limit s0 f_fastest f_bend N) (hY : yr_ a_letters a_values a_many a_limit s0 f_fastest N f_seen a_from a_to a_steps a_paces a_dwells a_ends a_turn a_first a_second a_centre) (hk : k < N)
    (hw : px_en a_letters a_values a_many k = 1 → post (f_lines, f_fastest, f_gain, f_bend, f_ahead, f_speed, f_seen, 3, (nI k), f_pace, 0, 0, f_allSteps, f_allTicks, f_u, f_v, 0, a_letters, a_values, a_many, a_tool, a_began, a_limit, a_trips, a_force, a_origins, a_here, a_has, a_grouped, a_word, a_from, a_to, a_steps, a_paces, a_dwells, a_ends, a_turn, a_first, a_second, a_centre, a_direction))
    (h0 : ¬ px_en a_letters a_values a_many k = 1 → (rn_b a_letters a_values a_many a_limit s0 N (k + 1)).1 = 0 → post (f_lines, f_fastest, f_gain, f_bend, f_ahead, f_speed, f_seen, 0, (-1), 0, 0, 0, f_allSteps, f_allTicks, f_u, f_v, 0, a_letters, a_values, a_many, a_tool, a_began, a_limit, a_trips, a_force, a_origins, a_here, a_has, a_grouped, a_word, a_from, a_to, a_steps, a_paces, a_dwells, a_ends, a_turn, a_first, a_second, a_centre, a_direction))
    (h1 : ¬ px_en a_letters a_values a_many k = 1 → ∀ m, rn_b a_letters a_values a_many a_limit s0 N (k + 1) = (1, m) → post (f_lines, f_fastest, f_gain, f_bend, f_ahead, f_speed, f_seen, 1, (nI m), f_pace, 0, 0, f_allSteps, f_allTicks, f_u, f_v, f_holds, a_letters, a_values, a_many, a_tool, a_began, a_limit, a_trips, a_force, a_origins, a_here, a_has, a_grouped, a_word, a_from, a_to, a_steps, a_paces, a_dwells, a_ends, a_turn, a_first, a_second, a_centre, a_direction))
    (h2 : ¬ px_en a_letters a_values a_many k = 1 → ∀ m, rn_b a_letters a_values a_many a_limit s0 N (k + 1) = (2, m) → post (f_lines, f_fastest, f_gain, f_bend, f_ahead, f_speed, f_seen, 2, (nI m), f_pace, (px_dw a_letters a_values a_many s0 m), 0, f_allSteps, f_allTicks, f_u, f_v, f_holds, a_letters, a_values, a_many, a_tool, a_began, a_limit, a_trips, a_force, a_origins, a_here, a_has, a_grouped, a_word, a_from, a_to, a_steps, a_paces, a_dwells, a_ends, a_turn, a_first, a_second, a_centre, a_direction))
    (h3 : ¬ px_en a_letters a_values a_many k = 1 → ∀ m, rn_b a_letters a_values a_many a_limit s0 N (k + 1) = (3, m) → post (f_lines, f_fastest, f_gain, f_bend, f_ahead, f_speed, f_seen, 3, (nI m), f_pace, 0, 0, f_allSteps, f_allTicks, f_u, f_v, 0, a_letters, a_values, a_many, a_tool, a_began, a_limit, a_trips, a_force, a_origins, a_here, a_has, a_grouped, a_word, a_from, a_to, a_steps, a_paces, a_dwells, a_ends, a_turn, a_first, a_second, a_centre, a_direction)) :
    wpY_begin post (f_lines, f_fastest, f_gain, f_bend, f_ahead, f_speed, f_seen, f_state, f_line, f_pace, f_left, f_went, f_allSteps, f_allTicks, f_u, f_v, f_holds, a_letters, a_values, a_many, a_tool, a_began, a_limit, a_trips, a_force, a_origins, a_here, a_has, a_grouped, a_word, a_from, a_to, a_steps, a_paces, a_dwells, a_ends, a_turn, a_first, a_second, a_centre, a_direction) (nI k) 1 := by
  have N30 : N ≤ 30 := K.2.2.2.2.1
  have i30 : vp_in (nI k) 30 := vp_in_nI (by omega) (by omega)
  have cl : (nI k).toNatClampNeg = k := nI_clamp (by omega)
  obtain ⟨y1, _, y3, y4, _, _⟩ := hY.2.2 k hk
  refine ⟨33, br_f (by rw [hY.1]; exact nI_ge hk (by omega)) ⟨i30, ?_⟩⟩
  rw [cl, y3]
  have g74 : ∀ sa, wY_begin_74 post (wY_begin_5 post f_lines f_fastest f_gain f_bend f_ahead f_speed f_seen f_pace f_allSteps f_allTicks f_u f_v f_holds a_letters a_values a_many a_tool a_began a_limit a_trips a_force a_origins a_here a_has a_grouped a_word a_from a_to a_steps a_paces a_dwells a_ends a_turn a_first a_second a_centre a_direction 32) (nI k) f_lines f_fastest f_gain f_bend f_ahead f_speed f_seen sa (nI k) f_pace (px_dw a_letters a_values a_many s0 k) 0 f_allSteps f_allTicks f_u f_v f_holds a_letters a_values a_many a_tool a_began a_limit a_trips a_force a_origins a_here a_has a_grouped a_word a_from a_to a_steps a_paces a_dwells a_ends a_turn a_first a_second a_centre a_direction := by
    intro sa
    unfold wY_begin_74
    rw [cl, y4]
    exact ⟨i30, br_c (fun d => hw d) (fun d => nm_r (nI_1 k) (yb_5 K hY 31 (k + 1) _ _ _ _ (by omega) (by omega) (by rw [ite_self]; exact h0 d) (h1 d) (h2 d) (h3 d)))⟩
  unfold wY_begin_49
  exact nm_e (br_c (fun d => br_f (by decide) (g74 1)) (fun d => br_f (by decide) (g74 2)))
end
end BGN
end
section
section GOG
theorem go_rm {go : Nat} (h : go < 2 ^ 30) : (1000 : Int32) - (nI go - nI go / 1000 * 1000) = nI (1000 - go % 1000) := by
  rw [show (1000 : Int32) = nI 1000 from rfl, pk_rem (by omega) (by decide) (by decide), pk_sub (by omega)]
theorem go_md {go : Nat} (h : go < 2 ^ 30) : (nI go - nI go / 1000 * 1000 = 0) ↔ go % 1000 = 0 := by
  rw [show (1000 : Int32) = nI 1000 from rfl, pk_rem (by omega) (by decide) (by decide)]
  exact nI_eq (b := 0) (by omega) (by omega)
section
variable {f_lines f_fastest f_gain f_bend f_ahead f_mode f_holds f_pace f_line f_gone f_dwellLeft f_stepsInAll f_ticksInAll f_speed f_present f_laid : Int32} {a_wordCounts a_letters a_values a_limits a_switches a_tool a_inForce a_origins a_given a_rows a_probe a_motions a_thirds a_centres a_steps a_paces a_dwells a_marks a_nexts a_joints : Nat → Int32} {y_speed y_seen y_line y_left y_went y_u y_v : Int32} {a_began y_force y_origins y_here y_has y_grouped y_word y_from y_to y_steps y_paces y_dwells y_ends y_turn y_first y_second y_centre y_direction : Nat → Int32}
theorem go_ {s0 : Nat → Int32} {N : Nat} (K : rn_K a_letters a_values a_wordCounts a_limits s0 f_fastest f_bend N) (hX : xr_ a_letters a_values a_wordCounts a_limits s0 f_fastest f_bend N f_laid a_rows a_motions a_thirds a_centres a_steps a_paces a_dwells a_marks a_nexts a_joints)
    (hY : yr_ a_letters a_values a_wordCounts a_limits s0 f_fastest N y_seen y_from y_to y_steps y_paces y_dwells y_ends y_turn y_first y_second y_centre) :
    ∀ B left n go T sc f0, left ≤ B → left ≤ 2000 → n < N → 0 < px_st a_letters a_values a_wordCounts a_limits s0 n → go < 1000 * px_st a_letters a_values a_wordCounts a_limits s0 n → (∀ a, a < 3 → T a = rs_v a_letters a_values a_wordCounts a_limits s0 n (go / 1000) a) →
      left + go ≤ sp_tot (px_st a_letters a_values a_wordCounts a_limits s0) (rn_x a_letters a_values a_wordCounts a_limits s0 N) f0 n →
      ∃ (md : Int32) (n' go' : Nat) (T' : Nat → Int32) (sc' : Int32), n' < N ∧ 0 < px_st a_letters a_values a_wordCounts a_limits s0 n' ∧ go' ≤ 1000 * px_st a_letters a_values a_wordCounts a_limits s0 n' ∧ (∀ a, a < 3 → T' a = rs_v a_letters a_values a_wordCounts a_limits s0 n' (go' / 1000) a) ∧ (∀ a, ¬ a < 3 → T' a = T a) ∧
        ((md = 4) ∨ (md = 1 ∧ (go' = 1000 * px_st a_letters a_values a_wordCounts a_limits s0 n' → rn_x a_letters a_values a_wordCounts a_limits s0 N n' = none))) ∧
        (∀ (PX : SX → Prop) i fuel, left < fuel → i + left ≤ 2000 → PX (f_lines, f_fastest, f_gain, f_bend, f_ahead, md, (if md = 4 then 0 else f_holds), (if md = 4 then 0 else f_pace), (nI n'), (nI go'), f_dwellLeft, sc', f_ticksInAll, f_speed, f_present, f_laid, a_wordCounts, a_letters, a_values, a_limits, a_switches, T', a_inForce, a_origins, a_given, a_rows, a_probe, a_motions, a_thirds, a_centres, a_steps, a_paces, a_dwells, a_marks, a_nexts, a_joints) →
          wX_goBy_4 PX fuel (nI left) (nI i) f_lines f_fastest f_gain f_bend f_ahead 1 f_holds f_pace (nI n) (nI go) f_dwellLeft sc f_ticksInAll f_speed f_present f_laid a_wordCounts a_letters a_values a_limits a_switches T a_inForce a_origins a_given a_rows a_probe a_motions a_thirds a_centres a_steps a_paces a_dwells a_marks a_nexts a_joints) ∧
        (∀ (PY : SY → Prop) u v dr fuel, left + 1 < fuel →
          (md = 4 ∨ go' < 1000 * px_st a_letters a_values a_wordCounts a_limits s0 n' → ∀ u v, PY (f_lines, f_fastest, f_gain, f_bend, f_ahead, y_speed, y_seen, md, (nI n'), (if md = 4 then 0 else f_pace), y_left, (nI go'), sc', f_ticksInAll, u, v, (if md = 4 then 0 else f_holds), a_letters, a_values, a_wordCounts, T', a_began, a_limits, a_switches, y_force, y_origins, y_here, y_has, y_grouped, y_word, y_from, y_to, y_steps, y_paces, y_dwells, y_ends, y_turn, y_first, y_second, y_centre, dr)) →
          (md = 1 → go' = 1000 * px_st a_letters a_values a_wordCounts a_limits s0 n' → ∀ u v (Q : SY → Prop), (∀ w, PY w → Q w) → wpY_begin Q (f_lines, f_fastest, f_gain, f_bend, f_ahead, y_speed, y_seen, 1, (nI n'), 0, y_left, (nI go'), sc', f_ticksInAll, u, v, f_holds, a_letters, a_values, a_wordCounts, T', a_began, a_limits, a_switches, y_force, y_origins, y_here, y_has, y_grouped, y_word, y_from, y_to, y_steps, y_paces, y_dwells, y_ends, y_turn, y_first, y_second, y_centre, dr) (nI n') 1) →
          wY_run_88 PY fuel (nI left) f_lines f_fastest f_gain f_bend f_ahead y_speed y_seen 1 (nI n) f_pace y_left (nI go) sc f_ticksInAll u v f_holds a_letters a_values a_wordCounts T a_began a_limits a_switches y_force y_origins y_here y_has y_grouped y_word y_from y_to y_steps y_paces y_dwells y_ends y_turn y_first y_second y_centre dr) := by
  have N30 : N ≤ 30 := K.2.2.2.2.1
  intro B
  induction B with
  | zero =>
    intro left n go T sc f0 hB hL hn hs hgo hT htot
    obtain rfl : left = 0 := by omega
    refine ⟨1, n, go, T, sc, hn, hs, by omega, hT, fun _ _ => rfl, Or.inr ⟨rfl, fun z => by omega⟩, fun PX i fuel hf hi h => ?_, fun PY u v dr fuel hf h1 h2 => ?_⟩
    · obtain ⟨e, rfl⟩ : ∃ e, fuel = e + 1 := ⟨fuel - 1, by omega⟩
      exact br_c (fun _ => h) (fun _ => br_t (by decide) h)
    · obtain ⟨e, rfl⟩ : ∃ e, fuel = e + 1 := ⟨fuel - 1, by omega⟩
      exact br_t (by decide) (h1 (Or.inr hgo) u v)
  | succ B ih =>
    intro left n go T sc f0 hB hL hn hs hgo hT htot
    have sn := rk_s K hn
    by_cases l0 : left = 0
    · exact ih left n go T sc f0 (by omega) hL hn hs hgo hT htot
    have go30 : go < 2 ^ 30 := by omega
    by_cases rm : 1000 - go % 1000 ≤ left
    · -- a step is done
      have hk : go / 1000 + 1 ≤ px_st a_letters a_values a_wordCounts a_limits s0 n := by omega
      have eg : go + (1000 - go % 1000) = 1000 * (go / 1000 + 1) := by omega
      -- X and Y up to the step
      have xs : ∀ (PX : SX → Prop) i fuel, i + left ≤ 2000 → wpX_takeStep (fun u => match u with | (f_lines, f_fastest, f_gain, f_bend, f_ahead, f_mode, f_holds, f_pace, f_line, f_gone, f_dwellLeft, f_stepsInAll, f_ticksInAll, f_speed, f_present, f_laid, a_wordCounts, a_letters, a_values, a_limits, a_switches, a_tool, a_inForce, a_origins, a_given, a_rows, a_probe, a_motions, a_thirds, a_centres, a_steps, a_paces, a_dwells, a_marks, a_nexts, a_joints) => ∀ x3, x3 = nI i + 1 → wX_goBy_4 PX fuel (nI (left - (1000 - go % 1000))) x3 f_lines f_fastest f_gain f_bend f_ahead f_mode f_holds f_pace f_line f_gone f_dwellLeft f_stepsInAll f_ticksInAll f_speed f_present f_laid a_wordCounts a_letters a_values a_limits a_switches a_tool a_inForce a_origins a_given a_rows a_probe a_motions a_thirds a_centres a_steps a_paces a_dwells a_marks a_nexts a_joints) (f_lines, f_fastest, f_gain, f_bend, f_ahead, 1, f_holds, f_pace, (nI n), (nI (1000 * (go / 1000 + 1))), f_dwellLeft, sc, f_ticksInAll, f_speed, f_present, f_laid, a_wordCounts, a_letters, a_values, a_limits, a_switches, T, a_inForce, a_origins, a_given, a_rows, a_probe, a_motions, a_thirds, a_centres, a_steps, a_paces, a_dwells, a_marks, a_nexts, a_joints) →
          wX_goBy_4 PX (fuel + 1) (nI left) (nI i) f_lines f_fastest f_gain f_bend f_ahead 1 f_holds f_pace (nI n) (nI go) f_dwellLeft sc f_ticksInAll f_speed f_present f_laid a_wordCounts a_letters a_values a_limits a_switches T a_inForce a_origins a_given a_rows a_probe a_motions a_thirds a_centres a_steps a_paces a_dwells a_marks a_nexts a_joints := by
        intro PX i fuel hi h
        refine br_f (nI_ge (b := 2000) (by omega) (by omega)) (br_f (nI_nle (by omega) (by omega)) (br_t rfl ⟨by decide, nm_r (go_rm go30) (br_t (nI_le rm (by omega)) ?_)⟩))
        unfold wX_goBy_49
        rw [nI_add, eg, pk_sub rm]
        exact nm_e (nm_e (br_t rfl h))
      have ys : ∀ (PY : SY → Prop) u v dr fuel, wpY_arrive (fun w => match w with | (f_lines, f_fastest, f_gain, f_bend, f_ahead, f_speed, f_seen, f_state, f_line, f_pace, f_left, f_went, f_allSteps, f_allTicks, f_u, f_v, f_holds, a_letters, a_values, a_many, a_tool, a_began, a_limit, a_trips, a_force, a_origins, a_here, a_has, a_grouped, a_word, a_from, a_to, a_steps, a_paces, a_dwells, a_ends, a_turn, a_first, a_second, a_centre, a_direction) => wY_run_88 PY fuel (nI (left - (1000 - go % 1000))) f_lines f_fastest f_gain f_bend f_ahead f_speed f_seen f_state f_line f_pace f_left f_went f_allSteps f_allTicks f_u f_v f_holds a_letters a_values a_many a_tool a_began a_limit a_trips a_force a_origins a_here a_has a_grouped a_word a_from a_to a_steps a_paces a_dwells a_ends a_turn a_first a_second a_centre a_direction) (f_lines, f_fastest, f_gain, f_bend, f_ahead, y_speed, y_seen, 1, (nI n), f_pace, y_left, (nI (1000 * (go / 1000 + 1))), sc, f_ticksInAll, u, v, f_holds, a_letters, a_values, a_wordCounts, T, a_began, a_limits, a_switches, y_force, y_origins, y_here, y_has, y_grouped, y_word, y_from, y_to, y_steps, y_paces, y_dwells, y_ends, y_turn, y_first, y_second, y_centre, dr) →
          wY_run_88 PY (fuel + 1) (nI left) f_lines f_fastest f_gain f_bend f_ahead y_speed y_seen 1 (nI n) f_pace y_left (nI go) sc f_ticksInAll u v f_holds a_letters a_values a_wordCounts T a_began a_limits a_switches y_force y_origins y_here y_has y_grouped y_word y_from y_to y_steps y_paces y_dwells y_ends y_turn y_first y_second y_centre dr := by
        intro PY u v dr fuel h
        refine br_f (nI_nle (by omega) (by omega)) (br_t rfl ⟨by decide, nm_r (go_rm go30) (br_t (nI_le rm (by omega)) ?_)⟩)
        unfold wY_run_120
        rw [nI_add, eg, pk_sub rm]
        refine nm_e (nm_e ⟨by decide, br_t ?_ h⟩)
        rw [go_md (by omega)]
        omega
      have hT' : ∀ a, a < 3 → tl_ (rs_v a_letters a_values a_wordCounts a_limits s0 n (go / 1000 + 1)) T a = rs_v a_letters a_values a_wordCounts a_limits s0 n (go / 1000 + 1) a := fun a ha => tl_v ha
      have hTh : ∀ a, ¬ a < 3 → tl_ (rs_v a_letters a_values a_wordCounts a_limits s0 n (go / 1000 + 1)) T a = T a := fun a ha => if_neg ha
      generalize eT : tl_ (rs_v a_letters a_values a_wordCounts a_limits s0 n (go / 1000 + 1)) T = T' at hT' hTh
      cases tr : (tp_ T' T a_switches 0 || tp_ T' T a_switches 1 || tp_ T' T a_switches 2)
      · by_cases ke : go / 1000 + 1 = px_st a_letters a_values a_wordCounts a_limits s0 n
        · cases ex : rn_x a_letters a_values a_wordCounts a_limits s0 N n with
          | none =>
            -- an end without joint: nothing is left
            have le0 : left - (1000 - go % 1000) = 0 := by
              have : sp_tot (px_st a_letters a_values a_wordCounts a_limits s0) (rn_x a_letters a_values a_wordCounts a_limits s0 N) f0 n = 1000 * px_st a_letters a_values a_wordCounts a_limits s0 n := by
                cases f0 with
                | zero => rfl
                | succ f0 => simp only [sp_tot, ex]; omega
              omega
            refine ⟨1, n, 1000 * (go / 1000 + 1), T', sc + 1, hn, hs, by omega, fun a ha => ?_, hTh, Or.inr ⟨rfl, fun _ => ex⟩, fun PX i fuel hf hi h => ?_, fun PY u v dr fuel hf h1 h2 => ?_⟩
            · rw [Nat.mul_div_cancel_left _ (by decide)]; exact hT' a ha
            · obtain ⟨e, rfl⟩ : ∃ e, fuel = e + 1 + 1 := ⟨fuel - 2, by omega⟩
              refine xs PX i (e + 1) hi (xt_ts K hX hn hs hk hT T' eT.symm (fun z => ?_) (fun _ _ m z => ?_) (fun _ _ => ?_))
              · rw [tr] at z; exact absurd z (by decide)
              · rw [ex] at z; exact absurd z (by simp)
              · rw [le0]
                exact nm_e (br_c (fun _ => h) (fun _ => br_t (by decide) h))
            · obtain ⟨e, rfl⟩ : ∃ e, fuel = e + 1 + 1 := ⟨fuel - 2, by omega⟩
              refine ys PY u v dr (e + 1) (ya_ar K hY hn hs hk hT T' eT.symm (fun z => ?_) (fun _ z => absurd ke z) (fun _ _ m z => ?_) (fun _ _ _ u v => ?_))
              · rw [tr] at z; exact absurd z (by decide)
              · rw [ex] at z; exact absurd z (by simp)
              · rw [le0]
                refine h2 rfl (by omega) u v _ (fun w hw => ?_)
                obtain ⟨f_lines, f_fastest, f_gain, f_bend, f_ahead, f_speed, f_seen, f_state, f_line, f_pace, f_left, f_went, f_allSteps, f_allTicks, f_u, f_v, f_holds, a_letters, a_values, a_many, a_tool, a_began, a_limit, a_trips, a_force, a_origins, a_here, a_has, a_grouped, a_word, a_from, a_to, a_steps, a_paces, a_dwells, a_ends, a_turn, a_first, a_second, a_centre, a_direction⟩ := w
                exact br_t (by decide) hw
          | some m =>
            obtain ⟨m1, m2, m3⟩ := rk_x n m ex
            have ht2 : ∃ f1, left - (1000 - go % 1000) + 0 ≤ sp_tot (px_st a_letters a_values a_wordCounts a_limits s0) (rn_x a_letters a_values a_wordCounts a_limits s0 N) f1 m := by
              cases f0 with
              | zero =>
                have e0 : sp_tot (px_st a_letters a_values a_wordCounts a_limits s0) (rn_x a_letters a_values a_wordCounts a_limits s0 N) 0 n = 1000 * px_st a_letters a_values a_wordCounts a_limits s0 n := rfl
                exact ⟨0, by omega⟩
              | succ f0 =>
                simp only [sp_tot, ex] at htot
                exact ⟨f0, by omega⟩
            obtain ⟨f1, hf1⟩ := ht2
            obtain ⟨md, n', go', T2, sc', A1, A2, A3, A4, A4h, A5, AX, AY⟩ := ih (left - (1000 - go % 1000)) m 0 T' (sc + 1) f1 (by omega) (by omega) m2 m3 (by omega) (fun a ha => by
              rw [hT' a ha, ke]
              show ii_I _ = ii_I _
              rw [rs_N K hn hs ha, Nat.zero_div, rs_0 m3]
              have z : ∀ j, n + 1 ≤ j → j ≤ m → px_he a_letters a_values a_wordCounts s0 j a = px_he a_letters a_values a_wordCounts s0 (n + 1) a := by
                intro j
                induction j with
                | zero => intro a1 _; omega
                | succ j ihj =>
                  intro b1 b2
                  by_cases ej : j = n
                  · subst ej; rfl
                  · rw [rs_s0 K (n := j) (by omega) (nj_mid _ _ _ ex j (by omega) (by omega)) ha]
                    exact ihj (by omega) (by omega)
              rw [z m (by omega) (Nat.le_refl _)]) hf1
            refine ⟨md, n', go', T2, sc', A1, A2, A3, A4, fun a ha => (A4h a ha).trans (hTh a ha), A5, fun PX i fuel hf hi h => ?_, fun PY u v dr fuel hf h1 h2 => ?_⟩
            · obtain ⟨e, rfl⟩ : ∃ e, fuel = e + 1 := ⟨fuel - 1, by omega⟩
              refine xs PX i e hi (xt_ts K hX hn hs hk hT T' eT.symm (fun z => ?_) (fun _ _ m' z => ?_) (fun _ z => ?_))
              · rw [tr] at z; exact absurd z (by decide)
              · obtain rfl : m = m' := Option.some.inj (ex.symm.trans z)
                exact nm_r (nI_1 i) (AX PX (i + 1) e (by omega) (by omega) h)
              · have := z ke; rw [ex] at this; exact absurd this (by simp)
            · obtain ⟨e, rfl⟩ : ∃ e, fuel = e + 1 := ⟨fuel - 1, by omega⟩
              refine ys PY u v dr e (ya_ar K hY hn hs hk hT T' eT.symm (fun z => ?_) (fun _ z => absurd ke z) (fun _ _ m' z u v => ?_) (fun _ _ z => ?_))
              · rw [tr] at z; exact absurd z (by decide)
              · obtain rfl : m = m' := Option.some.inj (ex.symm.trans z)
                exact AY PY u v dr e (by omega) h1 h2
              · rw [ex] at z; exact absurd z (by simp)
        · -- within the block
          obtain ⟨md, n', go', T2, sc', A1, A2, A3, A4, A4h, A5, AX, AY⟩ := ih (left - (1000 - go % 1000)) n (1000 * (go / 1000 + 1)) T' (sc + 1) f0 (by omega) (by omega) hn hs (by omega) (fun a ha => by
            rw [Nat.mul_div_cancel_left _ (by decide)]; exact hT' a ha) (by omega)
          refine ⟨md, n', go', T2, sc', A1, A2, A3, A4, fun a ha => (A4h a ha).trans (hTh a ha), A5, fun PX i fuel hf hi h => ?_, fun PY u v dr fuel hf h1 h2 => ?_⟩
          · obtain ⟨e, rfl⟩ : ∃ e, fuel = e + 1 := ⟨fuel - 1, by omega⟩
            refine xs PX i e hi (xt_ts K hX hn hs hk hT T' eT.symm (fun z => ?_) (fun _ z => absurd z ke) (fun _ _ => ?_))
            · rw [tr] at z; exact absurd z (by decide)
            · exact nm_r (nI_1 i) (AX PX (i + 1) e (by omega) (by omega) h)
          · obtain ⟨e, rfl⟩ : ∃ e, fuel = e + 1 := ⟨fuel - 1, by omega⟩
            refine ys PY u v dr e (ya_ar K hY hn hs hk hT T' eT.symm (fun z => ?_) (fun _ _ u v => ?_) (fun _ z => absurd z ke) (fun _ z => absurd z ke))
            · rw [tr] at z; exact absurd z (by decide)
            · exact AY PY u v dr e (by omega) h1 h2
      · -- tripped
        refine ⟨4, n, 1000 * (go / 1000 + 1), T', sc + 1, hn, hs, by omega, fun a ha => ?_, hTh, Or.inl rfl, fun PX i fuel hf hi h => ?_, fun PY u v dr fuel hf h1 h2 => ?_⟩
        · rw [Nat.mul_div_cancel_left _ (by decide)]; exact hT' a ha
        · obtain ⟨e, rfl⟩ : ∃ e, fuel = e + 1 + 1 := ⟨fuel - 2, by omega⟩
          rw [if_pos rfl, if_pos rfl] at h
          refine xs PX i (e + 1) hi (xt_ts K hX hn hs hk hT T' eT.symm (fun z => ?_) (fun z => ?_) (fun z => ?_))
          · exact nm_e (br_c (fun _ => h) (fun _ => br_c (fun _ => h) (fun _ => br_f (by decide) h)))
          · rw [tr] at z; exact absurd z (by decide)
          · rw [tr] at z; exact absurd z (by decide)
        · obtain ⟨e, rfl⟩ : ∃ e, fuel = e + 1 + 1 := ⟨fuel - 2, by omega⟩
          rw [if_pos rfl, if_pos rfl] at h1
          refine ys PY u v dr (e + 1) (ya_ar K hY hn hs hk hT T' eT.symm (fun z u v => ?_) (fun z => ?_) (fun z => ?_) (fun z => ?_))
          · exact br_c (fun _ => h1 (Or.inl rfl) u v) (fun _ => br_f (by decide) (h1 (Or.inl rfl) u v))
          · rw [tr] at z; exact absurd z (by decide)
          · rw [tr] at z; exact absurd z (by decide)
          · rw [tr] at z; exact absurd z (by decide)
    · -- no step: the way within one
      refine ⟨1, n, go + left, T, sc, hn, hs, by omega, fun a ha => ?_, fun _ _ => rfl, Or.inr ⟨rfl, fun z => by omega⟩, fun PX i fuel hf hi h => ?_, fun PY u v dr fuel hf h1 h2 => ?_⟩
      · rw [show (go + left) / 1000 = go / 1000 by omega]; exact hT a ha
      · obtain ⟨e, rfl⟩ : ∃ e, fuel = e + 1 + 1 := ⟨fuel - 2, by omega⟩
        refine br_f (nI_ge (b := 2000) (by omega) (by omega)) (br_f (nI_nle (by omega) (by omega)) (br_t rfl ⟨by decide, nm_r (go_rm go30) (br_f (nI_ge (by omega) (by omega)) ?_)⟩))
        unfold wX_goBy_49
        rw [nI_add, pk_sub (Nat.le_refl left), Nat.sub_self]
        refine nm_e (nm_e (br_f (fun z => ?_) (nm_e (br_c (fun _ => h) (fun _ => br_t (by decide) h)))))
        have := (nI_eq (by omega) (by omega)).mp z
        omega
      · obtain ⟨e, rfl⟩ : ∃ e, fuel = e + 1 + 1 := ⟨fuel - 2, by omega⟩
        refine br_f (nI_nle (by omega) (by omega)) (br_t rfl ⟨by decide, nm_r (go_rm go30) (br_f (nI_ge (by omega) (by omega)) ?_)⟩)
        unfold wY_run_120
        rw [nI_add, pk_sub (Nat.le_refl left), Nat.sub_self]
        refine nm_e (nm_e ⟨by decide, br_f (fun z => ?_) (br_t (by decide) (h1 (Or.inr (by omega)) u v))⟩)
        rw [go_md (by omega)] at z
        omega
end
end GOG
end
section
section REL
theorem rb_no {x : Int32 × Nat} {r : Int32} {m : Nat} (e : x = (r, m)) (r0 : x.1 = 0) (h : ¬ r = 0) : False := h (by rw [e] at r0; exact r0)
def rl_C (f_lines f_fastest f_gain f_bend f_ahead : Int32) (a_wordCounts a_letters a_values a_limits a_tool a_inForce a_began y_force : Nat → Int32) : Prop :=
  (∃ l, l ≤ 30 ∧ f_lines = nI l) ∧ ci_WF a_letters a_values a_wordCounts a_limits ∧ (∀ a, a < 3 → 0 ≤ (a_tool a).toInt ∧ (a_tool a).toInt ≤ (a_limits a).toInt) ∧ (∀ a, ¬ a < 3 → a_tool a = 0 ∧ a_began a = 0) ∧
  (∀ g, 6 ≤ g → a_inForce g = 0 ∧ y_force g = 0) ∧ (1 ≤ f_fastest.toInt ∧ f_fastest.toInt ≤ 2000) ∧ (∃ g, (0 < g ∧ g ≤ 200) ∧ f_gain = nI g) ∧ (0 ≤ f_bend.toInt ∧ f_bend.toInt ≤ 2000) ∧ (∃ ah, (0 < ah ∧ ah ≤ 6) ∧ f_ahead = nI ah)
def rl_L (f_lines f_fastest f_bend f_laid y_seen : Int32) (a_wordCounts a_letters a_values a_limits a_began a_rows a_motions a_thirds a_centres a_steps a_paces a_dwells a_marks a_nexts a_joints y_from y_to y_steps y_paces y_dwells y_ends y_turn y_first y_second y_centre : Nat → Int32) (N : Nat) : Prop :=
  (∃ l, l ≤ 30 ∧ f_lines = nI l ∧ ci_R a_letters a_values a_wordCounts a_limits a_began l N 0) ∧ rn_K a_letters a_values a_wordCounts a_limits a_began f_fastest f_bend N ∧
  xr_ a_letters a_values a_wordCounts a_limits a_began f_fastest f_bend N f_laid a_rows a_motions a_thirds a_centres a_steps a_paces a_dwells a_marks a_nexts a_joints ∧
  yr_ a_letters a_values a_wordCounts a_limits a_began f_fastest N y_seen y_from y_to y_steps y_paces y_dwells y_ends y_turn y_first y_second y_centre
def rl_W (L V M lim s0 tool : Nat → Int32) (N n : Nat) (f_mode f_holds f_pace f_line f_gone f_dwellLeft y_line y_left y_went : Int32) : Prop :=
  n < N ∧ f_line = nI n ∧ y_line = nI n ∧
  ((f_mode = 1 ∧ 0 < px_st L V M lim s0 n ∧ y_left = 0 ∧ ∃ p go, p ≤ 2000 ∧ go < 1000 * px_st L V M lim s0 n ∧ f_pace = nI p ∧ f_gone = nI go ∧ y_went = nI go ∧ ∀ a, a < 3 → tool a = rs_v L V M lim s0 n (go / 1000) a) ∨
   (f_mode = 4 ∧ 0 < px_st L V M lim s0 n ∧ f_holds = 0 ∧ f_pace = 0 ∧ y_left = 0 ∧ ∃ go, go ≤ 1000 * px_st L V M lim s0 n ∧ f_gone = nI go ∧ y_went = nI go) ∨
   (f_mode = 2 ∧ f_pace = 0 ∧ f_dwellLeft = y_left ∧ ∀ a, a < 3 → tool a = px_he L V M s0 (n + 1) a) ∨
   (f_mode = 3 ∧ f_holds = 0 ∧ f_pace = 0 ∧ y_left = 0 ∧ ∀ a, a < 3 → tool a = px_he L V M s0 (n + 1) a))
def rl_ (f_lines f_fastest f_gain f_bend f_ahead f_mode f_holds f_pace f_line f_gone f_dwellLeft f_stepsInAll f_ticksInAll f_speed f_present f_laid y_speed y_seen y_line y_left y_went : Int32) (a_wordCounts a_letters a_values a_limits a_switches a_tool a_inForce a_origins a_given a_rows a_probe a_motions a_thirds a_centres a_steps a_paces a_dwells a_marks a_nexts a_joints a_began y_force y_origins y_here y_has y_grouped y_word y_from y_to y_steps y_paces y_dwells y_ends y_turn y_first y_second y_centre : Nat → Int32) : Prop :=
  rl_C f_lines f_fastest f_gain f_bend f_ahead a_wordCounts a_letters a_values a_limits a_tool a_inForce a_began y_force ∧
  ((f_mode = 0 ∧ f_holds = 0 ∧ f_pace = 0 ∧ y_line = -1 ∧ y_left = 0) ∨
   ∃ N n, rl_L f_lines f_fastest f_bend f_laid y_seen a_wordCounts a_letters a_values a_limits a_began a_rows a_motions a_thirds a_centres a_steps a_paces a_dwells a_marks a_nexts a_joints y_from y_to y_steps y_paces y_dwells y_ends y_turn y_first y_second y_centre N ∧
     rl_W a_letters a_values a_wordCounts a_limits a_began a_tool N n f_mode f_holds f_pace f_line f_gone f_dwellLeft y_line y_left y_went)
def rl_V (u : SX) (w : Int32 → Int32 → (Nat → Int32) → SY) : Prop :=
  ∃ (f_lines f_fastest f_gain f_bend f_ahead f_mode f_holds f_pace f_line f_gone f_dwellLeft f_stepsInAll f_ticksInAll f_speed f_present f_laid y_speed y_seen y_line y_left y_went : Int32) (a_wordCounts a_letters a_values a_limits a_switches a_tool a_inForce a_origins a_given a_rows a_probe a_motions a_thirds a_centres a_steps a_paces a_dwells a_marks a_nexts a_joints a_began y_force y_origins y_here y_has y_grouped y_word y_from y_to y_steps y_paces y_dwells y_ends y_turn y_first y_second y_centre : Nat → Int32), u = (f_lines, f_fastest, f_gain, f_bend, f_ahead, f_mode, f_holds, f_pace, f_line, f_gone, f_dwellLeft, f_stepsInAll, f_ticksInAll, f_speed, f_present, f_laid, a_wordCounts, a_letters, a_values, a_limits, a_switches, a_tool, a_inForce, a_origins, a_given, a_rows, a_probe, a_motions, a_thirds, a_centres, a_steps, a_paces, a_dwells, a_marks, a_nexts, a_joints) ∧ w = (fun y_u y_v y_direction => (f_lines, f_fastest, f_gain, f_bend, f_ahead, y_speed, y_seen, f_mode, y_line, f_pace, y_left, y_went, f_stepsInAll, f_ticksInAll, y_u, y_v, f_holds, a_letters, a_values, a_wordCounts, a_tool, a_began, a_limits, a_switches, y_force, y_origins, y_here, y_has, y_grouped, y_word, y_from, y_to, y_steps, y_paces, y_dwells, y_ends, y_turn, y_first, y_second, y_centre, y_direction)) ∧ rl_ f_lines f_fastest f_gain f_bend f_ahead f_mode f_holds f_pace f_line f_gone f_dwellLeft f_stepsInAll f_ticksInAll f_speed f_present f_laid y_speed y_seen y_line y_left y_went a_wordCounts a_letters a_values a_limits a_switches a_tool a_inForce a_origins a_given a_rows a_probe a_motions a_thirds a_centres a_steps a_paces a_dwells a_marks a_nexts a_joints a_began y_force y_origins y_here y_has y_grouped y_word y_from y_to y_steps y_paces y_dwells y_ends y_turn y_first y_second y_centre
def gs_X (u : SX) : Int32 := match u with | (f_lines, f_fastest, f_gain, f_bend, f_ahead, f_mode, f_holds, f_pace, f_line, f_gone, f_dwellLeft, f_stepsInAll, f_ticksInAll, f_speed, f_present, f_laid, a_wordCounts, a_letters, a_values, a_limits, a_switches, a_tool, a_inForce, a_origins, a_given, a_rows, a_probe, a_motions, a_thirds, a_centres, a_steps, a_paces, a_dwells, a_marks, a_nexts, a_joints) => f_stepsInAll
section
variable {f_lines f_fastest f_gain f_bend f_ahead f_mode f_holds f_pace f_line f_gone f_dwellLeft f_stepsInAll f_ticksInAll f_speed f_present f_laid : Int32} {a_wordCounts a_letters a_values a_limits a_switches a_tool a_inForce a_origins a_given a_rows a_probe a_motions a_thirds a_centres a_steps a_paces a_dwells a_marks a_nexts a_joints : Nat → Int32} {y_speed y_seen y_line y_left y_went y_u y_v : Int32} {a_began y_force y_origins y_here y_has y_grouped y_word y_from y_to y_steps y_paces y_dwells y_ends y_turn y_first y_second y_centre y_direction : Nat → Int32}
theorem rl_tool {N n k : Nat} {T : Nat → Int32} (K : rn_K a_letters a_values a_wordCounts a_limits a_began f_fastest f_bend N) (hn : n < N) (hs : 0 < px_st a_letters a_values a_wordCounts a_limits a_began n) (hk : k ≤ px_st a_letters a_values a_wordCounts a_limits a_began n)
    (hT : ∀ a, a < 3 → T a = rs_v a_letters a_values a_wordCounts a_limits a_began n k a) : ∀ a, a < 3 → 0 ≤ (T a).toInt ∧ (T a).toInt ≤ (a_limits a).toInt := by
  intro a ha
  rw [hT a ha, rs_R K hn hs hk ha]
  exact rs_in K hn hs hk ha
theorem rl_mid {N k m : Nat} (K : rn_K a_letters a_values a_wordCounts a_limits a_began f_fastest f_bend N) (hm : m ≤ N) (h : ∀ j, k ≤ j → j < m → px_st a_letters a_values a_wordCounts a_limits a_began j = 0) {a : Nat} (ha : a < 3) :
    k ≤ m → px_he a_letters a_values a_wordCounts a_began m a = px_he a_letters a_values a_wordCounts a_began k a := by
  intro hk
  obtain ⟨d, rfl⟩ := Nat.le.dest hk
  clear hk
  induction d with
  | zero => rfl
  | succ d ih =>
    rw [show k + (d + 1) = k + d + 1 by omega, rs_s0 K (n := k + d) (by omega) (h _ (by omega) (by omega)) ha]
    exact ih (by omega) (fun j h1 h2 => h j h1 (by omega))
/-- what begins at line k, on both sides -/
theorem bg_0 {N k : Nat} (C : rl_C f_lines f_fastest f_gain f_bend f_ahead a_wordCounts a_letters a_values a_limits a_tool a_inForce a_began y_force)
    (Lh : rl_L f_lines f_fastest f_bend f_laid y_seen a_wordCounts a_letters a_values a_limits a_began a_rows a_motions a_thirds a_centres a_steps a_paces a_dwells a_marks a_nexts a_joints y_from y_to y_steps y_paces y_dwells y_ends y_turn y_first y_second y_centre N)
    (hk : k ≤ N) (hT : ∀ a, a < 3 → a_tool a = px_he a_letters a_values a_wordCounts a_began k a) (hp : f_pace = 0) :
    ∃ u' w', rl_V u' w' ∧ gs_X u' = f_stepsInAll ∧ (∀ PX : SX → Prop, PX u' → wpX_beginAt PX (f_lines, f_fastest, f_gain, f_bend, f_ahead, f_mode, f_holds, f_pace, f_line, f_gone, f_dwellLeft, f_stepsInAll, f_ticksInAll, f_speed, f_present, f_laid, a_wordCounts, a_letters, a_values, a_limits, a_switches, a_tool, a_inForce, a_origins, a_given, a_rows, a_probe, a_motions, a_thirds, a_centres, a_steps, a_paces, a_dwells, a_marks, a_nexts, a_joints) (nI k)) ∧
      (∀ (PY : SY → Prop) y_u y_v y_direction, PY (w' y_u y_v y_direction) → wpY_begin PY (f_lines, f_fastest, f_gain, f_bend, f_ahead, y_speed, y_seen, f_mode, y_line, f_pace, y_left, y_went, f_stepsInAll, f_ticksInAll, y_u, y_v, f_holds, a_letters, a_values, a_wordCounts, a_tool, a_began, a_limits, a_switches, y_force, y_origins, y_here, y_has, y_grouped, y_word, y_from, y_to, y_steps, y_paces, y_dwells, y_ends, y_turn, y_first, y_second, y_centre, y_direction) (nI k) 0) := by
  obtain ⟨cl, K, hX, hY⟩ := Lh
  have Lh : rl_L f_lines f_fastest f_bend f_laid y_seen a_wordCounts a_letters a_values a_limits a_began a_rows a_motions a_thirds a_centres a_steps a_paces a_dwells a_marks a_nexts a_joints y_from y_to y_steps y_paces y_dwells y_ends y_turn y_first y_second y_centre N := ⟨cl, K, hX, hY⟩
  subst hp
  by_cases r0 : (rn_b a_letters a_values a_wordCounts a_limits a_began N k).1 = 0
  · refine ⟨(f_lines, f_fastest, f_gain, f_bend, f_ahead, 0, 0, 0, (if k < N then nI (N - 1) else f_line), f_gone, f_dwellLeft, f_stepsInAll, f_ticksInAll, f_speed, f_present, f_laid, a_wordCounts, a_letters, a_values, a_limits, a_switches, a_tool, a_inForce, a_origins, a_given, a_rows, a_probe, a_motions, a_thirds, a_centres, a_steps, a_paces, a_dwells, a_marks, a_nexts, a_joints), (fun y_u y_v y_direction => (f_lines, f_fastest, f_gain, f_bend, f_ahead, y_speed, y_seen, 0, (-1), 0, 0, (if k < N then 0 else y_went), f_stepsInAll, f_ticksInAll, y_u, y_v, 0, a_letters, a_values, a_wordCounts, a_tool, a_began, a_limits, a_switches, y_force, y_origins, y_here, y_has, y_grouped, y_word, y_from, y_to, y_steps, y_paces, y_dwells, y_ends, y_turn, y_first, y_second, y_centre, y_direction)), ?_, rfl, fun PX h => ?_, fun PY s1 s2 s3 h => ?_⟩
    · exact ⟨f_lines, f_fastest, f_gain, f_bend, f_ahead, 0, 0, 0, _, f_gone, f_dwellLeft, f_stepsInAll, f_ticksInAll, f_speed, f_present, f_laid, y_speed, y_seen, (-1), 0, _, a_wordCounts, a_letters, a_values, a_limits, a_switches, a_tool, a_inForce, a_origins, a_given, a_rows, a_probe, a_motions, a_thirds, a_centres, a_steps, a_paces, a_dwells, a_marks, a_nexts, a_joints, a_began, y_force, y_origins, y_here, y_has, y_grouped, y_word, y_from, y_to, y_steps, y_paces, y_dwells, y_ends, y_turn, y_first, y_second, y_centre, rfl, rfl, C, Or.inl ⟨rfl, rfl, rfl, rfl, rfl⟩⟩
    · exact xb_ba K hX.1 hX.2.1 hk (fun _ => h) (fun m e => (rb_no e r0 (by decide)).elim) (fun m e => (rb_no e r0 (by decide)).elim) (fun m e => (rb_no e r0 (by decide)).elim)
    · exact yb_b0 K hY hk (fun _ => h) (fun m e => (rb_no e r0 (by decide)).elim) (fun m e => (rb_no e r0 (by decide)).elim) (fun m e => (rb_no e r0 (by decide)).elim)
  · obtain ⟨r, m, er⟩ : ∃ r m, rn_b a_letters a_values a_wordCounts a_limits a_began N k = (r, m) := ⟨_, _, rfl⟩
    have hr : ¬ r = 0 := by rw [er] at r0; exact r0
    obtain ⟨⟨f1, f2⟩, f3, f4⟩ := rb_f 31 k r m er hr
    have he : ∀ a, a < 3 → a_tool a = px_he a_letters a_values a_wordCounts a_began m a := fun a ha => (hT a ha).trans (rl_mid K (by omega) f3 ha f1).symm
    rcases f4 with ⟨e1, s1⟩ | ⟨e1, s1, d1⟩ | ⟨e1, s1, d1⟩
    · subst e1
      refine ⟨(f_lines, f_fastest, f_gain, f_bend, f_ahead, 1, f_holds, 0, (nI m), 0, f_dwellLeft, f_stepsInAll, f_ticksInAll, f_speed, f_present, f_laid, a_wordCounts, a_letters, a_values, a_limits, a_switches, a_tool, a_inForce, a_origins, a_given, a_rows, a_probe, a_motions, a_thirds, a_centres, a_steps, a_paces, a_dwells, a_marks, a_nexts, a_joints), (fun y_u y_v y_direction => (f_lines, f_fastest, f_gain, f_bend, f_ahead, y_speed, y_seen, 1, (nI m), 0, 0, 0, f_stepsInAll, f_ticksInAll, y_u, y_v, f_holds, a_letters, a_values, a_wordCounts, a_tool, a_began, a_limits, a_switches, y_force, y_origins, y_here, y_has, y_grouped, y_word, y_from, y_to, y_steps, y_paces, y_dwells, y_ends, y_turn, y_first, y_second, y_centre, y_direction)), ?_, rfl, fun PX h => ?_, fun PY s1 s2 s3 h => ?_⟩
      · refine ⟨f_lines, f_fastest, f_gain, f_bend, f_ahead, 1, f_holds, 0, (nI m), 0, f_dwellLeft, f_stepsInAll, f_ticksInAll, f_speed, f_present, f_laid, y_speed, y_seen, (nI m), 0, 0, a_wordCounts, a_letters, a_values, a_limits, a_switches, a_tool, a_inForce, a_origins, a_given, a_rows, a_probe, a_motions, a_thirds, a_centres, a_steps, a_paces, a_dwells, a_marks, a_nexts, a_joints, a_began, y_force, y_origins, y_here, y_has, y_grouped, y_word, y_from, y_to, y_steps, y_paces, y_dwells, y_ends, y_turn, y_first, y_second, y_centre, rfl, rfl, C, Or.inr ⟨N, m, Lh, f2, rfl, rfl, Or.inl ⟨rfl, s1, rfl, 0, 0, by omega, by omega, rfl, rfl, rfl, fun a ha => ?_⟩⟩⟩
        rw [he a ha]
        unfold rs_v
        rw [Nat.zero_div, rs_0 s1, ii_t]
      · exact xb_ba K hX.1 hX.2.1 hk (fun e => absurd e r0) (fun m' e => by rw [er] at e; rw [← (Prod.mk.inj e).2]; exact h) (fun m' e => by rw [er] at e; exact absurd (Prod.mk.inj e).1 (by decide)) (fun m' e => by rw [er] at e; exact absurd (Prod.mk.inj e).1 (by decide))
      · exact yb_b0 K hY hk (fun e => absurd e r0) (fun m' e => by rw [er] at e; rw [← (Prod.mk.inj e).2]; exact h) (fun m' e => by rw [er] at e; exact absurd (Prod.mk.inj e).1 (by decide)) (fun m' e => by rw [er] at e; exact absurd (Prod.mk.inj e).1 (by decide))
    · subst e1
      refine ⟨(f_lines, f_fastest, f_gain, f_bend, f_ahead, 2, f_holds, 0, (nI m), f_gone, (px_dw a_letters a_values a_wordCounts a_began m), f_stepsInAll, f_ticksInAll, f_speed, f_present, f_laid, a_wordCounts, a_letters, a_values, a_limits, a_switches, a_tool, a_inForce, a_origins, a_given, a_rows, a_probe, a_motions, a_thirds, a_centres, a_steps, a_paces, a_dwells, a_marks, a_nexts, a_joints), (fun y_u y_v y_direction => (f_lines, f_fastest, f_gain, f_bend, f_ahead, y_speed, y_seen, 2, (nI m), 0, (px_dw a_letters a_values a_wordCounts a_began m), 0, f_stepsInAll, f_ticksInAll, y_u, y_v, f_holds, a_letters, a_values, a_wordCounts, a_tool, a_began, a_limits, a_switches, y_force, y_origins, y_here, y_has, y_grouped, y_word, y_from, y_to, y_steps, y_paces, y_dwells, y_ends, y_turn, y_first, y_second, y_centre, y_direction)), ?_, rfl, fun PX h => ?_, fun PY s1 s2 s3 h => ?_⟩
      · refine ⟨f_lines, f_fastest, f_gain, f_bend, f_ahead, 2, f_holds, 0, (nI m), f_gone, (px_dw a_letters a_values a_wordCounts a_began m), f_stepsInAll, f_ticksInAll, f_speed, f_present, f_laid, y_speed, y_seen, (nI m), (px_dw a_letters a_values a_wordCounts a_began m), 0, a_wordCounts, a_letters, a_values, a_limits, a_switches, a_tool, a_inForce, a_origins, a_given, a_rows, a_probe, a_motions, a_thirds, a_centres, a_steps, a_paces, a_dwells, a_marks, a_nexts, a_joints, a_began, y_force, y_origins, y_here, y_has, y_grouped, y_word, y_from, y_to, y_steps, y_paces, y_dwells, y_ends, y_turn, y_first, y_second, y_centre, rfl, rfl, C, Or.inr ⟨N, m, Lh, f2, rfl, rfl, Or.inr (Or.inr (Or.inl ⟨rfl, rfl, rfl, fun a ha => ?_⟩))⟩⟩
        rw [he a ha, rs_s0 K f2 s1 ha]
      · exact xb_ba K hX.1 hX.2.1 hk (fun e => absurd e r0) (fun m' e => by rw [er] at e; exact absurd (Prod.mk.inj e).1 (by decide)) (fun m' e => by rw [er] at e; rw [← (Prod.mk.inj e).2]; exact h) (fun m' e => by rw [er] at e; exact absurd (Prod.mk.inj e).1 (by decide))
      · exact yb_b0 K hY hk (fun e => absurd e r0) (fun m' e => by rw [er] at e; exact absurd (Prod.mk.inj e).1 (by decide)) (fun m' e => by rw [er] at e; rw [← (Prod.mk.inj e).2]; exact h) (fun m' e => by rw [er] at e; exact absurd (Prod.mk.inj e).1 (by decide))
    · subst e1
      refine ⟨(f_lines, f_fastest, f_gain, f_bend, f_ahead, 3, 0, 0, (nI m), f_gone, f_dwellLeft, f_stepsInAll, f_ticksInAll, f_speed, f_present, f_laid, a_wordCounts, a_letters, a_values, a_limits, a_switches, a_tool, a_inForce, a_origins, a_given, a_rows, a_probe, a_motions, a_thirds, a_centres, a_steps, a_paces, a_dwells, a_marks, a_nexts, a_joints), (fun y_u y_v y_direction => (f_lines, f_fastest, f_gain, f_bend, f_ahead, y_speed, y_seen, 3, (nI m), 0, 0, 0, f_stepsInAll, f_ticksInAll, y_u, y_v, 0, a_letters, a_values, a_wordCounts, a_tool, a_began, a_limits, a_switches, y_force, y_origins, y_here, y_has, y_grouped, y_word, y_from, y_to, y_steps, y_paces, y_dwells, y_ends, y_turn, y_first, y_second, y_centre, y_direction)), ?_, rfl, fun PX h => ?_, fun PY s1 s2 s3 h => ?_⟩
      · refine ⟨f_lines, f_fastest, f_gain, f_bend, f_ahead, 3, 0, 0, (nI m), f_gone, f_dwellLeft, f_stepsInAll, f_ticksInAll, f_speed, f_present, f_laid, y_speed, y_seen, (nI m), 0, 0, a_wordCounts, a_letters, a_values, a_limits, a_switches, a_tool, a_inForce, a_origins, a_given, a_rows, a_probe, a_motions, a_thirds, a_centres, a_steps, a_paces, a_dwells, a_marks, a_nexts, a_joints, a_began, y_force, y_origins, y_here, y_has, y_grouped, y_word, y_from, y_to, y_steps, y_paces, y_dwells, y_ends, y_turn, y_first, y_second, y_centre, rfl, rfl, C, Or.inr ⟨N, m, Lh, f2, rfl, rfl, Or.inr (Or.inr (Or.inr ⟨rfl, rfl, rfl, rfl, fun a ha => ?_⟩))⟩⟩
        rw [he a ha, rs_s0 K f2 s1 ha]
      · exact xb_ba K hX.1 hX.2.1 hk (fun e => absurd e r0) (fun m' e => by rw [er] at e; exact absurd (Prod.mk.inj e).1 (by decide)) (fun m' e => by rw [er] at e; exact absurd (Prod.mk.inj e).1 (by decide)) (fun m' e => by rw [er] at e; rw [← (Prod.mk.inj e).2]; exact h)
      · exact yb_b0 K hY hk (fun e => absurd e r0) (fun m' e => by rw [er] at e; exact absurd (Prod.mk.inj e).1 (by decide)) (fun m' e => by rw [er] at e; exact absurd (Prod.mk.inj e).1 (by decide)) (fun m' e => by rw [er] at e; rw [← (Prod.mk.inj e).2]; exact h)
/-- the way or dwell of line n is over, on both sides -/
theorem en_1 {N n : Nat} (C : rl_C f_lines f_fastest f_gain f_bend f_ahead a_wordCounts a_letters a_values a_limits a_tool a_inForce a_began y_force)
    (Lh : rl_L f_lines f_fastest f_bend f_laid y_seen a_wordCounts a_letters a_values a_limits a_began a_rows a_motions a_thirds a_centres a_steps a_paces a_dwells a_marks a_nexts a_joints y_from y_to y_steps y_paces y_dwells y_ends y_turn y_first y_second y_centre N)
    (hn : n < N) (hT : ∀ a, a < 3 → a_tool a = px_he a_letters a_values a_wordCounts a_began (n + 1) a) :
    ∃ u' w', rl_V u' w' ∧ gs_X u' = f_stepsInAll ∧ (∀ PX : SX → Prop, PX u' → wpX_endLine PX (f_lines, f_fastest, f_gain, f_bend, f_ahead, f_mode, f_holds, f_pace, (nI n), f_gone, f_dwellLeft, f_stepsInAll, f_ticksInAll, f_speed, f_present, f_laid, a_wordCounts, a_letters, a_values, a_limits, a_switches, a_tool, a_inForce, a_origins, a_given, a_rows, a_probe, a_motions, a_thirds, a_centres, a_steps, a_paces, a_dwells, a_marks, a_nexts, a_joints)) ∧
      (∀ (PY : SY → Prop) y_u y_v y_direction, PY (w' y_u y_v y_direction) → wpY_begin PY (f_lines, f_fastest, f_gain, f_bend, f_ahead, y_speed, y_seen, f_mode, (nI n), 0, y_left, y_went, f_stepsInAll, f_ticksInAll, y_u, y_v, f_holds, a_letters, a_values, a_wordCounts, a_tool, a_began, a_limits, a_switches, y_force, y_origins, y_here, y_has, y_grouped, y_word, y_from, y_to, y_steps, y_paces, y_dwells, y_ends, y_turn, y_first, y_second, y_centre, y_direction) (nI n) 1) := by
  obtain ⟨cl, K, hX, hY⟩ := Lh
  have Lh : rl_L f_lines f_fastest f_bend f_laid y_seen a_wordCounts a_letters a_values a_limits a_began a_rows a_motions a_thirds a_centres a_steps a_paces a_dwells a_marks a_nexts a_joints y_from y_to y_steps y_paces y_dwells y_ends y_turn y_first y_second y_centre N := ⟨cl, K, hX, hY⟩
  have N30 : N ≤ 30 := K.2.2.2.2.1
  have i30 : vp_in (nI n) 30 := vp_in_nI (by omega) (by omega)
  have zm := (px_mark K.1.1 (ci_why (rk_w K hn)).1).2
  have y6 := (hX.2.1.2 n hn).2.2.2.2.2.1
  have xend : ∀ PX : SX → Prop, (px_en a_letters a_values a_wordCounts n = 1 → PX (f_lines, f_fastest, f_gain, f_bend, f_ahead, 3, 0, 0, (nI n), f_gone, f_dwellLeft, f_stepsInAll, f_ticksInAll, f_speed, f_present, f_laid, a_wordCounts, a_letters, a_values, a_limits, a_switches, a_tool, a_inForce, a_origins, a_given, a_rows, a_probe, a_motions, a_thirds, a_centres, a_steps, a_paces, a_dwells, a_marks, a_nexts, a_joints)) → (¬ px_en a_letters a_values a_wordCounts n = 1 → wpX_beginAt PX (f_lines, f_fastest, f_gain, f_bend, f_ahead, f_mode, f_holds, 0, (nI n), f_gone, f_dwellLeft, f_stepsInAll, f_ticksInAll, f_speed, f_present, f_laid, a_wordCounts, a_letters, a_values, a_limits, a_switches, a_tool, a_inForce, a_origins, a_given, a_rows, a_probe, a_motions, a_thirds, a_centres, a_steps, a_paces, a_dwells, a_marks, a_nexts, a_joints) (nI (n + 1))) → wpX_endLine PX (f_lines, f_fastest, f_gain, f_bend, f_ahead, f_mode, f_holds, f_pace, (nI n), f_gone, f_dwellLeft, f_stepsInAll, f_ticksInAll, f_speed, f_present, f_laid, a_wordCounts, a_letters, a_values, a_limits, a_switches, a_tool, a_inForce, a_origins, a_given, a_rows, a_probe, a_motions, a_thirds, a_centres, a_steps, a_paces, a_dwells, a_marks, a_nexts, a_joints) := by
    intro PX h1 h2
    unfold wpX_endLine
    dsimp only
    rw [nI_clamp (show n < 2 ^ 31 by omega), y6, nI_1]
    exact ⟨i30, br_c (fun c => h1 (zm.mp c)) (fun c => h2 (fun z => c (zm.mpr z)))⟩
  by_cases w : px_en a_letters a_values a_wordCounts n = 1
  · refine ⟨(f_lines, f_fastest, f_gain, f_bend, f_ahead, 3, 0, 0, (nI n), f_gone, f_dwellLeft, f_stepsInAll, f_ticksInAll, f_speed, f_present, f_laid, a_wordCounts, a_letters, a_values, a_limits, a_switches, a_tool, a_inForce, a_origins, a_given, a_rows, a_probe, a_motions, a_thirds, a_centres, a_steps, a_paces, a_dwells, a_marks, a_nexts, a_joints), (fun y_u y_v y_direction => (f_lines, f_fastest, f_gain, f_bend, f_ahead, y_speed, y_seen, 3, (nI n), 0, 0, 0, f_stepsInAll, f_ticksInAll, y_u, y_v, 0, a_letters, a_values, a_wordCounts, a_tool, a_began, a_limits, a_switches, y_force, y_origins, y_here, y_has, y_grouped, y_word, y_from, y_to, y_steps, y_paces, y_dwells, y_ends, y_turn, y_first, y_second, y_centre, y_direction)), ?_, rfl, fun PX h => xend PX (fun _ => h) (fun z => absurd w z), fun PY s1 s2 s3 h => ?_⟩
    · exact ⟨f_lines, f_fastest, f_gain, f_bend, f_ahead, 3, 0, 0, (nI n), f_gone, f_dwellLeft, f_stepsInAll, f_ticksInAll, f_speed, f_present, f_laid, y_speed, y_seen, (nI n), 0, 0, a_wordCounts, a_letters, a_values, a_limits, a_switches, a_tool, a_inForce, a_origins, a_given, a_rows, a_probe, a_motions, a_thirds, a_centres, a_steps, a_paces, a_dwells, a_marks, a_nexts, a_joints, a_began, y_force, y_origins, y_here, y_has, y_grouped, y_word, y_from, y_to, y_steps, y_paces, y_dwells, y_ends, y_turn, y_first, y_second, y_centre, rfl, rfl, C, Or.inr ⟨N, n, Lh, hn, rfl, rfl, Or.inr (Or.inr (Or.inr ⟨rfl, rfl, rfl, rfl, hT⟩))⟩⟩
    · exact yb_b1 K hY hn (fun _ => h) (fun z => absurd w z) (fun z => absurd w z) (fun z => absurd w z) (fun z => absurd w z)
  · by_cases r0 : (rn_b a_letters a_values a_wordCounts a_limits a_began N (n + 1)).1 = 0
    · refine ⟨(f_lines, f_fastest, f_gain, f_bend, f_ahead, 0, 0, 0, (if n + 1 < N then nI (N - 1) else nI n), f_gone, f_dwellLeft, f_stepsInAll, f_ticksInAll, f_speed, f_present, f_laid, a_wordCounts, a_letters, a_values, a_limits, a_switches, a_tool, a_inForce, a_origins, a_given, a_rows, a_probe, a_motions, a_thirds, a_centres, a_steps, a_paces, a_dwells, a_marks, a_nexts, a_joints), (fun y_u y_v y_direction => (f_lines, f_fastest, f_gain, f_bend, f_ahead, y_speed, y_seen, 0, (-1), 0, 0, 0, f_stepsInAll, f_ticksInAll, y_u, y_v, 0, a_letters, a_values, a_wordCounts, a_tool, a_began, a_limits, a_switches, y_force, y_origins, y_here, y_has, y_grouped, y_word, y_from, y_to, y_steps, y_paces, y_dwells, y_ends, y_turn, y_first, y_second, y_centre, y_direction)), ?_, rfl, fun PX h => xend PX (fun z => absurd z w) (fun _ => ?_), fun PY s1 s2 s3 h => ?_⟩
      · exact ⟨f_lines, f_fastest, f_gain, f_bend, f_ahead, 0, 0, 0, _, f_gone, f_dwellLeft, f_stepsInAll, f_ticksInAll, f_speed, f_present, f_laid, y_speed, y_seen, (-1), 0, 0, a_wordCounts, a_letters, a_values, a_limits, a_switches, a_tool, a_inForce, a_origins, a_given, a_rows, a_probe, a_motions, a_thirds, a_centres, a_steps, a_paces, a_dwells, a_marks, a_nexts, a_joints, a_began, y_force, y_origins, y_here, y_has, y_grouped, y_word, y_from, y_to, y_steps, y_paces, y_dwells, y_ends, y_turn, y_first, y_second, y_centre, rfl, rfl, C, Or.inl ⟨rfl, rfl, rfl, rfl, rfl⟩⟩
      · exact xb_ba K hX.1 hX.2.1 (by omega) (fun _ => h) (fun m e => (rb_no e r0 (by decide)).elim) (fun m e => (rb_no e r0 (by decide)).elim) (fun m e => (rb_no e r0 (by decide)).elim)
      · exact yb_b1 K hY hn (fun z => absurd z w) (fun _ _ => h) (fun _ m e => (rb_no e r0 (by decide)).elim) (fun _ m e => (rb_no e r0 (by decide)).elim) (fun _ m e => (rb_no e r0 (by decide)).elim)
    · obtain ⟨r, m, er⟩ : ∃ r m, rn_b a_letters a_values a_wordCounts a_limits a_began N (n + 1) = (r, m) := ⟨_, _, rfl⟩
      have hr : ¬ r = 0 := by rw [er] at r0; exact r0
      obtain ⟨⟨f1, f2⟩, f3, f4⟩ := rb_f 31 (n + 1) r m er hr
      have he : ∀ a, a < 3 → a_tool a = px_he a_letters a_values a_wordCounts a_began m a := fun a ha => (hT a ha).trans (rl_mid K (by omega) f3 ha f1).symm
      rcases f4 with ⟨e1, s1⟩ | ⟨e1, s1, d1⟩ | ⟨e1, s1, d1⟩
      · subst e1
        refine ⟨(f_lines, f_fastest, f_gain, f_bend, f_ahead, 1, f_holds, 0, (nI m), 0, f_dwellLeft, f_stepsInAll, f_ticksInAll, f_speed, f_present, f_laid, a_wordCounts, a_letters, a_values, a_limits, a_switches, a_tool, a_inForce, a_origins, a_given, a_rows, a_probe, a_motions, a_thirds, a_centres, a_steps, a_paces, a_dwells, a_marks, a_nexts, a_joints), (fun y_u y_v y_direction => (f_lines, f_fastest, f_gain, f_bend, f_ahead, y_speed, y_seen, 1, (nI m), 0, 0, 0, f_stepsInAll, f_ticksInAll, y_u, y_v, f_holds, a_letters, a_values, a_wordCounts, a_tool, a_began, a_limits, a_switches, y_force, y_origins, y_here, y_has, y_grouped, y_word, y_from, y_to, y_steps, y_paces, y_dwells, y_ends, y_turn, y_first, y_second, y_centre, y_direction)), ?_, rfl, fun PX h => xend PX (fun z => absurd z w) (fun _ => ?_), fun PY s1 s2 s3 h => ?_⟩
        · refine ⟨f_lines, f_fastest, f_gain, f_bend, f_ahead, 1, f_holds, 0, (nI m), 0, f_dwellLeft, f_stepsInAll, f_ticksInAll, f_speed, f_present, f_laid, y_speed, y_seen, (nI m), 0, 0, a_wordCounts, a_letters, a_values, a_limits, a_switches, a_tool, a_inForce, a_origins, a_given, a_rows, a_probe, a_motions, a_thirds, a_centres, a_steps, a_paces, a_dwells, a_marks, a_nexts, a_joints, a_began, y_force, y_origins, y_here, y_has, y_grouped, y_word, y_from, y_to, y_steps, y_paces, y_dwells, y_ends, y_turn, y_first, y_second, y_centre, rfl, rfl, C, Or.inr ⟨N, m, Lh, f2, rfl, rfl, Or.inl ⟨rfl, s1, rfl, 0, 0, by omega, by omega, rfl, rfl, rfl, fun a ha => ?_⟩⟩⟩
          rw [he a ha]
          unfold rs_v
          rw [Nat.zero_div, rs_0 s1, ii_t]
        · exact xb_ba K hX.1 hX.2.1 (by omega) (fun e => absurd e r0) (fun m' e => by rw [er] at e; rw [← (Prod.mk.inj e).2]; exact h) (fun m' e => by rw [er] at e; exact absurd (Prod.mk.inj e).1 (by decide)) (fun m' e => by rw [er] at e; exact absurd (Prod.mk.inj e).1 (by decide))
        · exact yb_b1 K hY hn (fun z => absurd z w) (fun _ e => absurd e r0) (fun _ m' e => by rw [er] at e; rw [← (Prod.mk.inj e).2]; exact h) (fun _ m' e => by rw [er] at e; exact absurd (Prod.mk.inj e).1 (by decide)) (fun _ m' e => by rw [er] at e; exact absurd (Prod.mk.inj e).1 (by decide))
      · subst e1
        refine ⟨(f_lines, f_fastest, f_gain, f_bend, f_ahead, 2, f_holds, 0, (nI m), f_gone, (px_dw a_letters a_values a_wordCounts a_began m), f_stepsInAll, f_ticksInAll, f_speed, f_present, f_laid, a_wordCounts, a_letters, a_values, a_limits, a_switches, a_tool, a_inForce, a_origins, a_given, a_rows, a_probe, a_motions, a_thirds, a_centres, a_steps, a_paces, a_dwells, a_marks, a_nexts, a_joints), (fun y_u y_v y_direction => (f_lines, f_fastest, f_gain, f_bend, f_ahead, y_speed, y_seen, 2, (nI m), 0, (px_dw a_letters a_values a_wordCounts a_began m), 0, f_stepsInAll, f_ticksInAll, y_u, y_v, f_holds, a_letters, a_values, a_wordCounts, a_tool, a_began, a_limits, a_switches, y_force, y_origins, y_here, y_has, y_grouped, y_word, y_from, y_to, y_steps, y_paces, y_dwells, y_ends, y_turn, y_first, y_second, y_centre, y_direction)), ?_, rfl, fun PX h => xend PX (fun z => absurd z w) (fun _ => ?_), fun PY s1 s2 s3 h => ?_⟩
        · refine ⟨f_lines, f_fastest, f_gain, f_bend, f_ahead, 2, f_holds, 0, (nI m), f_gone, (px_dw a_letters a_values a_wordCounts a_began m), f_stepsInAll, f_ticksInAll, f_speed, f_present, f_laid, y_speed, y_seen, (nI m), (px_dw a_letters a_values a_wordCounts a_began m), 0, a_wordCounts, a_letters, a_values, a_limits, a_switches, a_tool, a_inForce, a_origins, a_given, a_rows, a_probe, a_motions, a_thirds, a_centres, a_steps, a_paces, a_dwells, a_marks, a_nexts, a_joints, a_began, y_force, y_origins, y_here, y_has, y_grouped, y_word, y_from, y_to, y_steps, y_paces, y_dwells, y_ends, y_turn, y_first, y_second, y_centre, rfl, rfl, C, Or.inr ⟨N, m, Lh, f2, rfl, rfl, Or.inr (Or.inr (Or.inl ⟨rfl, rfl, rfl, fun a ha => ?_⟩))⟩⟩
          rw [he a ha, rs_s0 K f2 s1 ha]
        · exact xb_ba K hX.1 hX.2.1 (by omega) (fun e => absurd e r0) (fun m' e => by rw [er] at e; exact absurd (Prod.mk.inj e).1 (by decide)) (fun m' e => by rw [er] at e; rw [← (Prod.mk.inj e).2]; exact h) (fun m' e => by rw [er] at e; exact absurd (Prod.mk.inj e).1 (by decide))
        · exact yb_b1 K hY hn (fun z => absurd z w) (fun _ e => absurd e r0) (fun _ m' e => by rw [er] at e; exact absurd (Prod.mk.inj e).1 (by decide)) (fun _ m' e => by rw [er] at e; rw [← (Prod.mk.inj e).2]; exact h) (fun _ m' e => by rw [er] at e; exact absurd (Prod.mk.inj e).1 (by decide))
      · subst e1
        refine ⟨(f_lines, f_fastest, f_gain, f_bend, f_ahead, 3, 0, 0, (nI m), f_gone, f_dwellLeft, f_stepsInAll, f_ticksInAll, f_speed, f_present, f_laid, a_wordCounts, a_letters, a_values, a_limits, a_switches, a_tool, a_inForce, a_origins, a_given, a_rows, a_probe, a_motions, a_thirds, a_centres, a_steps, a_paces, a_dwells, a_marks, a_nexts, a_joints), (fun y_u y_v y_direction => (f_lines, f_fastest, f_gain, f_bend, f_ahead, y_speed, y_seen, 3, (nI m), 0, 0, 0, f_stepsInAll, f_ticksInAll, y_u, y_v, 0, a_letters, a_values, a_wordCounts, a_tool, a_began, a_limits, a_switches, y_force, y_origins, y_here, y_has, y_grouped, y_word, y_from, y_to, y_steps, y_paces, y_dwells, y_ends, y_turn, y_first, y_second, y_centre, y_direction)), ?_, rfl, fun PX h => xend PX (fun z => absurd z w) (fun _ => ?_), fun PY s1 s2 s3 h => ?_⟩
        · refine ⟨f_lines, f_fastest, f_gain, f_bend, f_ahead, 3, 0, 0, (nI m), f_gone, f_dwellLeft, f_stepsInAll, f_ticksInAll, f_speed, f_present, f_laid, y_speed, y_seen, (nI m), 0, 0, a_wordCounts, a_letters, a_values, a_limits, a_switches, a_tool, a_inForce, a_origins, a_given, a_rows, a_probe, a_motions, a_thirds, a_centres, a_steps, a_paces, a_dwells, a_marks, a_nexts, a_joints, a_began, y_force, y_origins, y_here, y_has, y_grouped, y_word, y_from, y_to, y_steps, y_paces, y_dwells, y_ends, y_turn, y_first, y_second, y_centre, rfl, rfl, C, Or.inr ⟨N, m, Lh, f2, rfl, rfl, Or.inr (Or.inr (Or.inr ⟨rfl, rfl, rfl, rfl, fun a ha => ?_⟩))⟩⟩
          rw [he a ha, rs_s0 K f2 s1 ha]
        · exact xb_ba K hX.1 hX.2.1 (by omega) (fun e => absurd e r0) (fun m' e => by rw [er] at e; exact absurd (Prod.mk.inj e).1 (by decide)) (fun m' e => by rw [er] at e; exact absurd (Prod.mk.inj e).1 (by decide)) (fun m' e => by rw [er] at e; rw [← (Prod.mk.inj e).2]; exact h)
        · exact yb_b1 K hY hn (fun z => absurd z w) (fun _ e => absurd e r0) (fun _ m' e => by rw [er] at e; exact absurd (Prod.mk.inj e).1 (by decide)) (fun _ m' e => by rw [er] at e; exact absurd (Prod.mk.inj e).1 (by decide)) (fun _ m' e => by rw [er] at e; rw [← (Prod.mk.inj e).2]; exact h)
end
end REL
end
section
section TCK
theorem sp_ft0 (g : Nat) (s jp : Nat → Nat) (nx : Nat → Option Nat) : ∀ a n r, sp_ft g s jp nx a n r 0 = true := by
  intro a
  induction a with
  | zero => intro n r; rfl
  | succ a ih =>
    intro n r
    rw [sp_ft]
    have f0 : ∀ w, sp_fit g r w 0 = true := fun w => decide_eq_true (Or.inl (Nat.zero_le _))
    rw [f0, Bool.true_and]
    split
    · rfl
    · exact ih _ _
section
variable {f_lines f_fastest f_gain f_bend f_ahead f_mode f_holds f_pace f_line f_gone f_dwellLeft f_stepsInAll f_ticksInAll f_speed f_present f_laid : Int32} {a_wordCounts a_letters a_values a_limits a_switches a_tool a_inForce a_origins a_given a_rows a_probe a_motions a_thirds a_centres a_steps a_paces a_dwells a_marks a_nexts a_joints : Nat → Int32} {y_speed y_seen y_line y_left y_went y_u y_v : Int32} {a_began y_force y_origins y_here y_has y_grouped y_word y_from y_to y_steps y_paces y_dwells y_ends y_turn y_first y_second y_centre y_direction : Nat → Int32}
/-- one tick, on both sides: the reference's stands within its own loop -/
theorem tk_ (R : rl_ f_lines f_fastest f_gain f_bend f_ahead f_mode f_holds f_pace f_line f_gone f_dwellLeft f_stepsInAll f_ticksInAll f_speed f_present f_laid y_speed y_seen y_line y_left y_went a_wordCounts a_letters a_values a_limits a_switches a_tool a_inForce a_origins a_given a_rows a_probe a_motions a_thirds a_centres a_steps a_paces a_dwells a_marks a_nexts a_joints a_began y_force y_origins y_here y_has y_grouped y_word y_from y_to y_steps y_paces y_dwells y_ends y_turn y_first y_second y_centre) : ∃ u' w', rl_V u' w' ∧ (∀ PX : SX → Prop, PX u' → wpX_tick PX (f_lines, f_fastest, f_gain, f_bend, f_ahead, f_mode, f_holds, f_pace, f_line, f_gone, f_dwellLeft, f_stepsInAll, f_ticksInAll, f_speed, f_present, f_laid, a_wordCounts, a_letters, a_values, a_limits, a_switches, a_tool, a_inForce, a_origins, a_given, a_rows, a_probe, a_motions, a_thirds, a_centres, a_steps, a_paces, a_dwells, a_marks, a_nexts, a_joints)) ∧
    (∀ (PY : Int32 → SY → Prop) x1 x2 f x3 y_u y_v y_direction, ¬ x1 ≤ x3 → (∀ s1 s2 s3, match w' s1 s2 s3 with | (f_lines, f_fastest, f_gain, f_bend, f_ahead, f_speed, f_seen, f_state, f_line, f_pace, f_left, f_went, f_allSteps, f_allTicks, f_u, f_v, f_holds, a_letters, a_values, a_many, a_tool, a_began, a_limit, a_trips, a_force, a_origins, a_here, a_has, a_grouped, a_word, a_from, a_to, a_steps, a_paces, a_dwells, a_ends, a_turn, a_first, a_second, a_centre, a_direction) => wY_advance_20 PY x1 x2 f (x3 + 1) f_lines f_fastest f_gain f_bend f_ahead f_speed f_seen f_state f_line f_pace f_left f_went f_allSteps f_allTicks f_u f_v f_holds a_letters a_values a_many a_tool a_began a_limit a_trips a_force a_origins a_here a_has a_grouped a_word a_from a_to a_steps a_paces a_dwells a_ends a_turn a_first a_second a_centre a_direction) → wY_advance_20 PY x1 x2 (f + 1) x3 f_lines f_fastest f_gain f_bend f_ahead y_speed y_seen f_mode y_line f_pace y_left y_went f_stepsInAll f_ticksInAll y_u y_v f_holds a_letters a_values a_wordCounts a_tool a_began a_limits a_switches y_force y_origins y_here y_has y_grouped y_word y_from y_to y_steps y_paces y_dwells y_ends y_turn y_first y_second y_centre y_direction) := by
  obtain ⟨C, S⟩ := R
  rcases S with ⟨m0, h0, p0, l0, le0⟩ | ⟨N, n, Lh, hn, el, eyl, W⟩
  · subst m0
    refine ⟨(f_lines, f_fastest, f_gain, f_bend, f_ahead, 0, f_holds, f_pace, f_line, f_gone, f_dwellLeft, f_stepsInAll, (f_ticksInAll + 1), f_speed, f_present, f_laid, a_wordCounts, a_letters, a_values, a_limits, a_switches, a_tool, a_inForce, a_origins, a_given, a_rows, a_probe, a_motions, a_thirds, a_centres, a_steps, a_paces, a_dwells, a_marks, a_nexts, a_joints), (fun y_u y_v y_direction => (f_lines, f_fastest, f_gain, f_bend, f_ahead, y_speed, y_seen, 0, y_line, f_pace, y_left, y_went, f_stepsInAll, (f_ticksInAll + 1), y_u, y_v, f_holds, a_letters, a_values, a_wordCounts, a_tool, a_began, a_limits, a_switches, y_force, y_origins, y_here, y_has, y_grouped, y_word, y_from, y_to, y_steps, y_paces, y_dwells, y_ends, y_turn, y_first, y_second, y_centre, y_direction)), ⟨f_lines, f_fastest, f_gain, f_bend, f_ahead, 0, f_holds, f_pace, f_line, f_gone, f_dwellLeft, f_stepsInAll, (f_ticksInAll + 1), f_speed, f_present, f_laid, y_speed, y_seen, y_line, y_left, y_went, a_wordCounts, a_letters, a_values, a_limits, a_switches, a_tool, a_inForce, a_origins, a_given, a_rows, a_probe, a_motions, a_thirds, a_centres, a_steps, a_paces, a_dwells, a_marks, a_nexts, a_joints, a_began, y_force, y_origins, y_here, y_has, y_grouped, y_word, y_from, y_to, y_steps, y_paces, y_dwells, y_ends, y_turn, y_first, y_second, y_centre, rfl, rfl, C, Or.inl ⟨rfl, h0, p0, l0, le0⟩⟩, fun PX h => ?_, fun PY x1 x2 f x3 y_u y_v y_direction hx h => ?_⟩
    · exact nm_e (br_f (by decide) (br_f (by decide) h))
    · exact br_f hx (nm_e (br_f (by decide) (br_f (by decide) (nm_e (h y_u y_v y_direction)))))
  · have K := Lh.2.1
    have hX := Lh.2.2.1
    have hY := Lh.2.2.2
    have N30 : N ≤ 30 := K.2.2.2.2.1
    rcases W with ⟨m1, s1, le0, p, go, hp, hgo, ep, eg, ew, hT⟩ | ⟨m4, s1, h0, p0, le0, go, hgo, eg, ew⟩ | ⟨m2, p0, ed, hT⟩ | ⟨m3, h0, p0, le0, hT⟩
    · -- it runs
      subst m1 el eyl ep eg ew le0
      obtain ⟨g, hg, egn⟩ := C.2.2.2.2.2.2.1
      obtain ⟨ah, hah, eah⟩ := C.2.2.2.2.2.2.2.2
      subst egn eah
      have sn := rk_s K hn
      obtain ⟨pc, hpc, epc⟩ := rn_pc K.1 (rk_ci K (n := n) (by omega)) (rk_w K hn) K.2.2.1
      have ul : sp_np g (px_st a_letters a_values a_wordCounts a_limits a_began) (rn_j a_letters a_values a_wordCounts a_limits a_began f_fastest f_bend N) (rn_x a_letters a_values a_wordCounts a_limits a_began N) ah n (1000 * px_st a_letters a_values a_wordCounts a_limits a_began n - go) (xp_u f_holds p g pc) ≤ 2000 := by
        rw [← sp_ftnp hg.1]
        refine Nat.le_trans (sp_grle _ _) ?_
        unfold xp_u; omega
      have ff : sp_ft g (px_st a_letters a_values a_wordCounts a_limits a_began) (rn_j a_letters a_values a_wordCounts a_limits a_began f_fastest f_bend N) (rn_x a_letters a_values a_wordCounts a_limits a_began N) ah n (1000 * px_st a_letters a_values a_wordCounts a_limits a_began n - go) (sp_np g (px_st a_letters a_values a_wordCounts a_limits a_began) (rn_j a_letters a_values a_wordCounts a_limits a_began f_fastest f_bend N) (rn_x a_letters a_values a_wordCounts a_limits a_began N) ah n (1000 * px_st a_letters a_values a_wordCounts a_limits a_began n - go) (xp_u f_holds p g pc)) = true := by
        rw [← sp_ftnp hg.1]
        exact sp_grP _ (sp_ft0 _ _ _ _ _ _ _) _
      have xnp := fun (post : Int32 → Prop) => xp_np (post := post) (f_lines := f_lines) (f_mode := 1) (f_holds := f_holds) (f_dwellLeft := f_dwellLeft) (f_stepsInAll := f_stepsInAll) (f_ticksInAll := f_ticksInAll + 1) (f_speed := f_speed) (f_present := f_present) (a_switches := a_switches) (a_tool := a_tool) (a_inForce := a_inForce) (a_origins := a_origins) (a_given := a_given) (a_probe := a_probe) K hX rfl hg rfl hah.2 rfl hn s1 rfl hp rfl (Nat.le_of_lt hgo) epc hpc
      have yrn := fun (post : SY → Prop) y_u y_v y_direction => yf_rn (post := post) (f_lines := f_lines) (f_state := 1) (f_holds := f_holds) (f_left := 0) (f_allSteps := f_stepsInAll) (f_allTicks := f_ticksInAll + 1) (f_speed := y_speed) (f_u := y_u) (f_v := y_v) (a_trips := a_switches) (a_tool := a_tool) (a_began := a_began) (a_force := y_force) (a_origins := y_origins) (a_here := y_here) (a_has := y_has) (a_grouped := y_grouped) (a_word := y_word) (a_direction := y_direction) K hY hg hah.2 hn (Nat.le_of_lt hgo) hp epc hpc
      generalize sp_np g (px_st a_letters a_values a_wordCounts a_limits a_began) (rn_j a_letters a_values a_wordCounts a_limits a_began f_fastest f_bend N) (rn_x a_letters a_values a_wordCounts a_limits a_began N) ah n (1000 * px_st a_letters a_values a_wordCounts a_limits a_began n - go) (xp_u f_holds p g pc) = q at ul ff xnp yrn
      obtain ⟨a', ea'⟩ : ∃ a', ah = a' + 1 := ⟨ah - 1, by omega⟩
      rw [ea'] at ff
      obtain ⟨f0, hf0⟩ := sp_reach (g := g) (px_st a_letters a_values a_wordCounts a_limits a_began) (rn_j a_letters a_values a_wordCounts a_limits a_began f_fastest f_bend N) (rn_x a_letters a_values a_wordCounts a_limits a_began N) (fun k hk => by unfold rn_j; rw [hk]) a' n _ q ff
      rw [← ea'] at *
      obtain ⟨md, n', go', T', sc', A1, A2, A3, A4, A4h, A5, AX, AY⟩ := go_ (f_lines := f_lines) (f_gain := nI g) (f_ahead := nI ah) (f_holds := f_holds) (f_pace := nI q) (f_dwellLeft := f_dwellLeft) (f_ticksInAll := f_ticksInAll + 1) (f_speed := f_speed) (f_present := f_present) (a_switches := a_switches) (a_inForce := a_inForce) (a_origins := a_origins) (a_given := a_given) (a_probe := a_probe)
        (y_speed := y_speed) (y_left := 0) (a_began := a_began) (y_force := y_force) (y_origins := y_origins) (y_here := y_here) (y_has := y_has) (y_grouped := y_grouped) (y_word := y_word)
        K hX hY q q n go a_tool f_stepsInAll f0 (Nat.le_refl _) ul hn s1 hgo hT (by omega)
      have A3' : go' / 1000 ≤ px_st a_letters a_values a_wordCounts a_limits a_began n' := by omega
      have C' : rl_C f_lines f_fastest (nI g) f_bend (nI ah) a_wordCounts a_letters a_values a_limits T' a_inForce a_began y_force := by
        obtain ⟨c1, c2, c3, c4, c5⟩ := C
        exact ⟨c1, c2, rl_tool K A1 A2 A3' A4, fun a ha => ⟨(A4h a ha).trans (c4 a ha).1, (c4 a ha).2⟩, c5⟩
      -- X's tick up to the end of its going
      have xt : ∀ PX : SX → Prop, (¬ md = 1 → PX (f_lines, f_fastest, (nI g), f_bend, (nI ah), md, (if md = 4 then 0 else f_holds), (if md = 4 then 0 else nI q), (nI n'), (nI go'), f_dwellLeft, sc', (f_ticksInAll + 1), f_speed, f_present, f_laid, a_wordCounts, a_letters, a_values, a_limits, a_switches, T', a_inForce, a_origins, a_given, a_rows, a_probe, a_motions, a_thirds, a_centres, a_steps, a_paces, a_dwells, a_marks, a_nexts, a_joints)) →
          (md = 1 → go' < 1000 * px_st a_letters a_values a_wordCounts a_limits a_began n' → PX (f_lines, f_fastest, (nI g), f_bend, (nI ah), 1, f_holds, (nI q), (nI n'), (nI go'), f_dwellLeft, sc', (f_ticksInAll + 1), f_speed, f_present, f_laid, a_wordCounts, a_letters, a_values, a_limits, a_switches, T', a_inForce, a_origins, a_given, a_rows, a_probe, a_motions, a_thirds, a_centres, a_steps, a_paces, a_dwells, a_marks, a_nexts, a_joints)) →
          (md = 1 → go' = 1000 * px_st a_letters a_values a_wordCounts a_limits a_began n' → wpX_endLine PX (f_lines, f_fastest, (nI g), f_bend, (nI ah), 1, f_holds, (nI q), (nI n'), (nI go'), f_dwellLeft, sc', (f_ticksInAll + 1), f_speed, f_present, f_laid, a_wordCounts, a_letters, a_values, a_limits, a_switches, T', a_inForce, a_origins, a_given, a_rows, a_probe, a_motions, a_thirds, a_centres, a_steps, a_paces, a_dwells, a_marks, a_nexts, a_joints)) →
          wpX_tick PX (f_lines, f_fastest, (nI g), f_bend, (nI ah), 1, f_holds, (nI p), (nI n), (nI go), f_dwellLeft, f_stepsInAll, f_ticksInAll, f_speed, f_present, f_laid, a_wordCounts, a_letters, a_values, a_limits, a_switches, a_tool, a_inForce, a_origins, a_given, a_rows, a_probe, a_motions, a_thirds, a_centres, a_steps, a_paces, a_dwells, a_marks, a_nexts, a_joints) := by
        intro PX g1 g2 g3
        have sn' := rk_s K A1
        refine nm_e (br_t rfl (xnp _ ?_))
        refine ⟨q + 1, AX _ 0 (q + 1) (by omega) (by omega) ?_⟩
        dsimp only
        refine br_c (fun c => ?_) (fun c => g1 c)
        subst c
        rw [if_neg (by decide), if_neg (by decide)]
        unfold wpX_lengthLeft
        dsimp only
        rw [nI_clamp (show n' < 2 ^ 31 by omega), (hX.2.1.2 n' A1).2.2.1, show (1000 : Int32) = nI 1000 from rfl, pk_mul, pk_sub (by omega)]
        refine ⟨vp_in_nI (by omega) (by omega), br_c (fun d => ?_) (fun d => ?_)⟩
        · have : px_st a_letters a_values a_wordCounts a_limits a_began n' * 1000 - go' = 0 := (nI_eq (b := 0) (by omega) (by omega)).mp d
          have h3 := g3 rfl (by omega)
          exact h3
        · refine g2 rfl ?_
          have : ¬ px_st a_letters a_values a_wordCounts a_limits a_began n' * 1000 - go' = 0 := fun z => d (by rw [z]; rfl)
          omega
      -- the reference's tick
      have yt : ∀ (PY : Int32 → SY → Prop) x1 x2 f x3 y_u y_v y_direction, ¬ x1 ≤ x3 →
          (md = 4 ∨ go' < 1000 * px_st a_letters a_values a_wordCounts a_limits a_began n' → ∀ y_u y_v y_direction, wY_advance_20 PY x1 x2 f (x3 + 1) f_lines f_fastest (nI g) f_bend (nI ah) y_speed y_seen md (nI n') (if md = 4 then 0 else nI q) 0 (nI go') sc' (f_ticksInAll + 1) y_u y_v (if md = 4 then 0 else f_holds) a_letters a_values a_wordCounts T' a_began a_limits a_switches y_force y_origins y_here y_has y_grouped y_word y_from y_to y_steps y_paces y_dwells y_ends y_turn y_first y_second y_centre y_direction) →
          (md = 1 → go' = 1000 * px_st a_letters a_values a_wordCounts a_limits a_began n' → ∀ y_u y_v y_direction (Q : SY → Prop), (∀ w, (match w with | (f_lines, f_fastest, f_gain, f_bend, f_ahead, f_speed, f_seen, f_state, f_line, f_pace, f_left, f_went, f_allSteps, f_allTicks, f_u, f_v, f_holds, a_letters, a_values, a_many, a_tool, a_began, a_limit, a_trips, a_force, a_origins, a_here, a_has, a_grouped, a_word, a_from, a_to, a_steps, a_paces, a_dwells, a_ends, a_turn, a_first, a_second, a_centre, a_direction) => ∀ x, x = x3 + 1 → wY_advance_20 PY x1 x2 f x f_lines f_fastest f_gain f_bend f_ahead f_speed f_seen f_state f_line f_pace f_left f_went f_allSteps f_allTicks f_u f_v f_holds a_letters a_values a_many a_tool a_began a_limit a_trips a_force a_origins a_here a_has a_grouped a_word a_from a_to a_steps a_paces a_dwells a_ends a_turn a_first a_second a_centre a_direction) → Q w) → wpY_begin Q (f_lines, f_fastest, (nI g), f_bend, (nI ah), y_speed, y_seen, 1, (nI n'), 0, 0, (nI go'), sc', (f_ticksInAll + 1), y_u, y_v, f_holds, a_letters, a_values, a_wordCounts, T', a_began, a_limits, a_switches, y_force, y_origins, y_here, y_has, y_grouped, y_word, y_from, y_to, y_steps, y_paces, y_dwells, y_ends, y_turn, y_first, y_second, y_centre, y_direction) (nI n') 1) →
          wY_advance_20 PY x1 x2 (f + 1) x3 f_lines f_fastest (nI g) f_bend (nI ah) y_speed y_seen 1 (nI n) (nI p) 0 (nI go) f_stepsInAll f_ticksInAll y_u y_v f_holds a_letters a_values a_wordCounts a_tool a_began a_limits a_switches y_force y_origins y_here y_has y_grouped y_word y_from y_to y_steps y_paces y_dwells y_ends y_turn y_first y_second y_centre y_direction := by
        intro PY x1 x2 f x3 y_u y_v y_direction hx g1 g2
        refine br_f hx (nm_e (br_t rfl (yrn _ y_u y_v y_direction (fun D => ⟨q + 2, ?_⟩))))
        refine AY _ y_u y_v D (q + 2) (by omega) (fun z u v => ?_) (fun z1 z2 u v Q hQ => ?_)
        · exact nm_e (g1 z u v D)
        · exact g2 z1 z2 u v D Q hQ
      rcases A5 with e4 | ⟨e1, ex⟩
      · subst e4
        refine ⟨(f_lines, f_fastest, (nI g), f_bend, (nI ah), 4, 0, 0, (nI n'), (nI go'), f_dwellLeft, sc', (f_ticksInAll + 1), f_speed, f_present, f_laid, a_wordCounts, a_letters, a_values, a_limits, a_switches, T', a_inForce, a_origins, a_given, a_rows, a_probe, a_motions, a_thirds, a_centres, a_steps, a_paces, a_dwells, a_marks, a_nexts, a_joints), (fun y_u y_v y_direction => (f_lines, f_fastest, (nI g), f_bend, (nI ah), y_speed, y_seen, 4, (nI n'), 0, 0, (nI go'), sc', (f_ticksInAll + 1), y_u, y_v, 0, a_letters, a_values, a_wordCounts, T', a_began, a_limits, a_switches, y_force, y_origins, y_here, y_has, y_grouped, y_word, y_from, y_to, y_steps, y_paces, y_dwells, y_ends, y_turn, y_first, y_second, y_centre, y_direction)),
          ⟨f_lines, f_fastest, (nI g), f_bend, (nI ah), 4, 0, 0, (nI n'), (nI go'), f_dwellLeft, sc', (f_ticksInAll + 1), f_speed, f_present, f_laid, y_speed, y_seen, (nI n'), 0, (nI go'), a_wordCounts, a_letters, a_values, a_limits, a_switches, T', a_inForce, a_origins, a_given, a_rows, a_probe, a_motions, a_thirds, a_centres, a_steps, a_paces, a_dwells, a_marks, a_nexts, a_joints, a_began, y_force, y_origins, y_here, y_has, y_grouped, y_word, y_from, y_to, y_steps, y_paces, y_dwells, y_ends, y_turn, y_first, y_second, y_centre, rfl, rfl, C', Or.inr ⟨N, n', Lh, A1, rfl, rfl, Or.inr (Or.inl ⟨rfl, A2, rfl, rfl, rfl, go', A3, rfl, rfl⟩)⟩⟩, fun PX h => ?_, fun PY x1 x2 f x3 y_u y_v y_direction hx h => ?_⟩
        · exact xt PX (fun _ => h) (fun z => absurd z (by decide)) (fun z => absurd z (by decide))
        · exact yt PY x1 x2 f x3 y_u y_v y_direction hx (fun _ u v d => h u v d) (fun z => absurd z (by decide))
      · subst e1
        rw [if_neg (by decide), if_neg (by decide)] at yt
        by_cases ge : go' < 1000 * px_st a_letters a_values a_wordCounts a_limits a_began n'
        · refine ⟨(f_lines, f_fastest, (nI g), f_bend, (nI ah), 1, f_holds, (nI q), (nI n'), (nI go'), f_dwellLeft, sc', (f_ticksInAll + 1), f_speed, f_present, f_laid, a_wordCounts, a_letters, a_values, a_limits, a_switches, T', a_inForce, a_origins, a_given, a_rows, a_probe, a_motions, a_thirds, a_centres, a_steps, a_paces, a_dwells, a_marks, a_nexts, a_joints), (fun y_u y_v y_direction => (f_lines, f_fastest, (nI g), f_bend, (nI ah), y_speed, y_seen, 1, (nI n'), (nI q), 0, (nI go'), sc', (f_ticksInAll + 1), y_u, y_v, f_holds, a_letters, a_values, a_wordCounts, T', a_began, a_limits, a_switches, y_force, y_origins, y_here, y_has, y_grouped, y_word, y_from, y_to, y_steps, y_paces, y_dwells, y_ends, y_turn, y_first, y_second, y_centre, y_direction)),
            ⟨f_lines, f_fastest, (nI g), f_bend, (nI ah), 1, f_holds, (nI q), (nI n'), (nI go'), f_dwellLeft, sc', (f_ticksInAll + 1), f_speed, f_present, f_laid, y_speed, y_seen, (nI n'), 0, (nI go'), a_wordCounts, a_letters, a_values, a_limits, a_switches, T', a_inForce, a_origins, a_given, a_rows, a_probe, a_motions, a_thirds, a_centres, a_steps, a_paces, a_dwells, a_marks, a_nexts, a_joints, a_began, y_force, y_origins, y_here, y_has, y_grouped, y_word, y_from, y_to, y_steps, y_paces, y_dwells, y_ends, y_turn, y_first, y_second, y_centre, rfl, rfl, C', Or.inr ⟨N, n', Lh, A1, rfl, rfl, Or.inl ⟨rfl, A2, rfl, q, go', ul, ge, rfl, rfl, rfl, A4⟩⟩⟩, fun PX h => ?_, fun PY x1 x2 f x3 y_u y_v y_direction hx h => ?_⟩
          · exact xt PX (fun z => absurd rfl z) (fun _ _ => h) (fun _ z => by omega)
          · exact yt PY x1 x2 f x3 y_u y_v y_direction hx (fun _ u v d => h u v d) (fun _ z => by omega)
        · have ge' : go' = 1000 * px_st a_letters a_values a_wordCounts a_limits a_began n' := by omega
          have hT2 : ∀ a, a < 3 → T' a = px_he a_letters a_values a_wordCounts a_began (n' + 1) a := by
            intro a ha
            rw [A4 a ha, ge', Nat.mul_div_cancel_left _ (by decide)]
            unfold rs_v
            rw [rs_N K A1 A2 ha, ii_t]
          obtain ⟨u', w', V, gs, BX, BY⟩ := en_1 (f_mode := 1) (f_pace := nI q) (f_holds := f_holds) (f_gone := nI go') (f_dwellLeft := f_dwellLeft) (f_stepsInAll := sc') (f_ticksInAll := f_ticksInAll + 1) (f_speed := f_speed) (f_present := f_present) (a_switches := a_switches) (a_origins := a_origins) (a_given := a_given) (a_probe := a_probe)
            (y_left := 0) (y_went := nI go') (y_speed := y_speed) (y_origins := y_origins) (y_here := y_here) (y_has := y_has) (y_grouped := y_grouped) (y_word := y_word) C' Lh A1 hT2
          refine ⟨u', w', V, fun PX h => ?_, fun PY x1 x2 f x3 y_u y_v y_direction hx h => ?_⟩
          · exact xt PX (fun z => absurd rfl z) (fun _ z => by omega) (fun _ _ => BX PX h)
          · refine yt PY x1 x2 f x3 y_u y_v y_direction hx (fun z => ?_) (fun _ _ u v d Q hQ => BY Q u v d (hQ _ ?_))
            · rcases z with z | z
              · exact absurd z (by decide)
              · omega
            · have h' := h u v d
              generalize w' u v d = vv at h'
              obtain ⟨f_lines, f_fastest, f_gain, f_bend, f_ahead, f_speed, f_seen, f_state, f_line, f_pace, f_left, f_went, f_allSteps, f_allTicks, f_u, f_v, f_holds, a_letters, a_values, a_many, a_tool, a_began, a_limit, a_trips, a_force, a_origins, a_here, a_has, a_grouped, a_word, a_from, a_to, a_steps, a_paces, a_dwells, a_ends, a_turn, a_first, a_second, a_centre, a_direction⟩ := vv
              exact nm_e h'
    · subst m4 el eyl
      refine ⟨(f_lines, f_fastest, f_gain, f_bend, f_ahead, 4, f_holds, f_pace, (nI n), f_gone, f_dwellLeft, f_stepsInAll, (f_ticksInAll + 1), f_speed, f_present, f_laid, a_wordCounts, a_letters, a_values, a_limits, a_switches, a_tool, a_inForce, a_origins, a_given, a_rows, a_probe, a_motions, a_thirds, a_centres, a_steps, a_paces, a_dwells, a_marks, a_nexts, a_joints), (fun y_u y_v y_direction => (f_lines, f_fastest, f_gain, f_bend, f_ahead, y_speed, y_seen, 4, (nI n), f_pace, y_left, y_went, f_stepsInAll, (f_ticksInAll + 1), y_u, y_v, f_holds, a_letters, a_values, a_wordCounts, a_tool, a_began, a_limits, a_switches, y_force, y_origins, y_here, y_has, y_grouped, y_word, y_from, y_to, y_steps, y_paces, y_dwells, y_ends, y_turn, y_first, y_second, y_centre, y_direction)), ⟨f_lines, f_fastest, f_gain, f_bend, f_ahead, 4, f_holds, f_pace, (nI n), f_gone, f_dwellLeft, f_stepsInAll, (f_ticksInAll + 1), f_speed, f_present, f_laid, y_speed, y_seen, (nI n), y_left, y_went, a_wordCounts, a_letters, a_values, a_limits, a_switches, a_tool, a_inForce, a_origins, a_given, a_rows, a_probe, a_motions, a_thirds, a_centres, a_steps, a_paces, a_dwells, a_marks, a_nexts, a_joints, a_began, y_force, y_origins, y_here, y_has, y_grouped, y_word, y_from, y_to, y_steps, y_paces, y_dwells, y_ends, y_turn, y_first, y_second, y_centre, rfl, rfl, C, Or.inr ⟨N, n, Lh, hn, rfl, rfl, Or.inr (Or.inl ⟨rfl, s1, h0, p0, le0, go, hgo, eg, ew⟩)⟩⟩, fun PX h => ?_, fun PY x1 x2 f x3 y_u y_v y_direction hx h => ?_⟩
      · exact nm_e (br_f (by decide) (br_f (by decide) h))
      · exact br_f hx (nm_e (br_f (by decide) (br_f (by decide) (nm_e (h y_u y_v y_direction)))))
    · subst m2 el eyl ed p0
      by_cases hh : f_holds = 0
      · by_cases d0 : f_dwellLeft - 1 = 0
        · obtain ⟨u', w', V, gs, BX, BY⟩ := en_1 (f_mode := 2) (f_pace := 0) (f_holds := f_holds) (f_gone := f_gone) (f_dwellLeft := f_dwellLeft - 1) (f_stepsInAll := f_stepsInAll) (f_ticksInAll := f_ticksInAll + 1) (f_speed := f_speed) (f_present := f_present) (a_switches := a_switches) (a_origins := a_origins) (a_given := a_given) (a_probe := a_probe)
            (y_left := f_dwellLeft - 1) (y_went := y_went) (y_speed := y_speed) (y_origins := y_origins) (y_here := y_here) (y_has := y_has) (y_grouped := y_grouped) (y_word := y_word) C Lh hn hT
          refine ⟨u', w', V, fun PX h => ?_, fun PY x1 x2 f x3 y_u y_v y_direction hx h => ?_⟩
          · exact nm_e (br_f (by decide) (br_t rfl (br_t hh (nm_e (br_t d0 (BX _ h))))))
          · refine br_f hx (nm_e (br_f (by decide) (br_t rfl (br_t hh (nm_e (br_t d0 (BY _ y_u y_v y_direction ?_)))))))
            have h' := h y_u y_v y_direction
            generalize w' y_u y_v y_direction = v at h'
            obtain ⟨f_lines, f_fastest, f_gain, f_bend, f_ahead, f_speed, f_seen, f_state, f_line, f_pace, f_left, f_went, f_allSteps, f_allTicks, f_u, f_v, f_holds, a_letters, a_values, a_many, a_tool, a_began, a_limit, a_trips, a_force, a_origins, a_here, a_has, a_grouped, a_word, a_from, a_to, a_steps, a_paces, a_dwells, a_ends, a_turn, a_first, a_second, a_centre, a_direction⟩ := v
            exact nm_e h'
        · refine ⟨(f_lines, f_fastest, f_gain, f_bend, f_ahead, 2, f_holds, 0, (nI n), f_gone, (f_dwellLeft - 1), f_stepsInAll, (f_ticksInAll + 1), f_speed, f_present, f_laid, a_wordCounts, a_letters, a_values, a_limits, a_switches, a_tool, a_inForce, a_origins, a_given, a_rows, a_probe, a_motions, a_thirds, a_centres, a_steps, a_paces, a_dwells, a_marks, a_nexts, a_joints), (fun y_u y_v y_direction => (f_lines, f_fastest, f_gain, f_bend, f_ahead, y_speed, y_seen, 2, (nI n), 0, (f_dwellLeft - 1), y_went, f_stepsInAll, (f_ticksInAll + 1), y_u, y_v, f_holds, a_letters, a_values, a_wordCounts, a_tool, a_began, a_limits, a_switches, y_force, y_origins, y_here, y_has, y_grouped, y_word, y_from, y_to, y_steps, y_paces, y_dwells, y_ends, y_turn, y_first, y_second, y_centre, y_direction)), ⟨f_lines, f_fastest, f_gain, f_bend, f_ahead, 2, f_holds, 0, (nI n), f_gone, (f_dwellLeft - 1), f_stepsInAll, (f_ticksInAll + 1), f_speed, f_present, f_laid, y_speed, y_seen, (nI n), (f_dwellLeft - 1), y_went, a_wordCounts, a_letters, a_values, a_limits, a_switches, a_tool, a_inForce, a_origins, a_given, a_rows, a_probe, a_motions, a_thirds, a_centres, a_steps, a_paces, a_dwells, a_marks, a_nexts, a_joints, a_began, y_force, y_origins, y_here, y_has, y_grouped, y_word, y_from, y_to, y_steps, y_paces, y_dwells, y_ends, y_turn, y_first, y_second, y_centre, rfl, rfl, C, Or.inr ⟨N, n, Lh, hn, rfl, rfl, Or.inr (Or.inr (Or.inl ⟨rfl, rfl, rfl, hT⟩))⟩⟩, fun PX h => ?_, fun PY x1 x2 f x3 y_u y_v y_direction hx h => ?_⟩
          · exact nm_e (br_f (by decide) (br_t rfl (br_t hh (nm_e (br_f d0 h)))))
          · exact br_f hx (nm_e (br_f (by decide) (br_t rfl (br_t hh (nm_e (br_f d0 (nm_e (h y_u y_v y_direction))))))))
      · refine ⟨(f_lines, f_fastest, f_gain, f_bend, f_ahead, 2, f_holds, 0, (nI n), f_gone, f_dwellLeft, f_stepsInAll, (f_ticksInAll + 1), f_speed, f_present, f_laid, a_wordCounts, a_letters, a_values, a_limits, a_switches, a_tool, a_inForce, a_origins, a_given, a_rows, a_probe, a_motions, a_thirds, a_centres, a_steps, a_paces, a_dwells, a_marks, a_nexts, a_joints), (fun y_u y_v y_direction => (f_lines, f_fastest, f_gain, f_bend, f_ahead, y_speed, y_seen, 2, (nI n), 0, f_dwellLeft, y_went, f_stepsInAll, (f_ticksInAll + 1), y_u, y_v, f_holds, a_letters, a_values, a_wordCounts, a_tool, a_began, a_limits, a_switches, y_force, y_origins, y_here, y_has, y_grouped, y_word, y_from, y_to, y_steps, y_paces, y_dwells, y_ends, y_turn, y_first, y_second, y_centre, y_direction)), ⟨f_lines, f_fastest, f_gain, f_bend, f_ahead, 2, f_holds, 0, (nI n), f_gone, f_dwellLeft, f_stepsInAll, (f_ticksInAll + 1), f_speed, f_present, f_laid, y_speed, y_seen, (nI n), f_dwellLeft, y_went, a_wordCounts, a_letters, a_values, a_limits, a_switches, a_tool, a_inForce, a_origins, a_given, a_rows, a_probe, a_motions, a_thirds, a_centres, a_steps, a_paces, a_dwells, a_marks, a_nexts, a_joints, a_began, y_force, y_origins, y_here, y_has, y_grouped, y_word, y_from, y_to, y_steps, y_paces, y_dwells, y_ends, y_turn, y_first, y_second, y_centre, rfl, rfl, C, Or.inr ⟨N, n, Lh, hn, rfl, rfl, Or.inr (Or.inr (Or.inl ⟨rfl, rfl, rfl, hT⟩))⟩⟩, fun PX h => ?_, fun PY x1 x2 f x3 y_u y_v y_direction hx h => ?_⟩
        · exact nm_e (br_f (by decide) (br_t rfl (br_f hh h)))
        · exact br_f hx (nm_e (br_f (by decide) (br_t rfl (br_f hh (nm_e (h y_u y_v y_direction))))))
    · subst m3 el eyl
      refine ⟨(f_lines, f_fastest, f_gain, f_bend, f_ahead, 3, f_holds, f_pace, (nI n), f_gone, f_dwellLeft, f_stepsInAll, (f_ticksInAll + 1), f_speed, f_present, f_laid, a_wordCounts, a_letters, a_values, a_limits, a_switches, a_tool, a_inForce, a_origins, a_given, a_rows, a_probe, a_motions, a_thirds, a_centres, a_steps, a_paces, a_dwells, a_marks, a_nexts, a_joints), (fun y_u y_v y_direction => (f_lines, f_fastest, f_gain, f_bend, f_ahead, y_speed, y_seen, 3, (nI n), f_pace, y_left, y_went, f_stepsInAll, (f_ticksInAll + 1), y_u, y_v, f_holds, a_letters, a_values, a_wordCounts, a_tool, a_began, a_limits, a_switches, y_force, y_origins, y_here, y_has, y_grouped, y_word, y_from, y_to, y_steps, y_paces, y_dwells, y_ends, y_turn, y_first, y_second, y_centre, y_direction)), ⟨f_lines, f_fastest, f_gain, f_bend, f_ahead, 3, f_holds, f_pace, (nI n), f_gone, f_dwellLeft, f_stepsInAll, (f_ticksInAll + 1), f_speed, f_present, f_laid, y_speed, y_seen, (nI n), y_left, y_went, a_wordCounts, a_letters, a_values, a_limits, a_switches, a_tool, a_inForce, a_origins, a_given, a_rows, a_probe, a_motions, a_thirds, a_centres, a_steps, a_paces, a_dwells, a_marks, a_nexts, a_joints, a_began, y_force, y_origins, y_here, y_has, y_grouped, y_word, y_from, y_to, y_steps, y_paces, y_dwells, y_ends, y_turn, y_first, y_second, y_centre, rfl, rfl, C, Or.inr ⟨N, n, Lh, hn, rfl, rfl, Or.inr (Or.inr (Or.inr ⟨rfl, h0, p0, le0, hT⟩))⟩⟩, fun PX h => ?_, fun PY x1 x2 f x3 y_u y_v y_direction hx h => ?_⟩
      · exact nm_e (br_f (by decide) (br_f (by decide) h))
      · exact br_f hx (nm_e (br_f (by decide) (br_f (by decide) (nm_e (h y_u y_v y_direction)))))
end
end TCK
end
section
section CLA
/-- the two machines: the same program, settings, place and mode; while the program runs both layouts are the picture's -/
def i_Rel (_ : Nat) (u : SX) (v : SY) : Prop := ∃ w y_u y_v y_direction, rl_V u w ∧ v = w y_u y_v y_direction
theorem i_up {k : Nat} {u : SX} {v : SY} (h : i_Rel k u v) : i_Rel (k + 4) u v := h
section
variable {f_lines f_fastest f_gain f_bend f_ahead f_mode f_holds f_pace f_line f_gone f_dwellLeft f_stepsInAll f_ticksInAll f_speed f_present f_laid : Int32} {a_wordCounts a_letters a_values a_limits a_switches a_tool a_inForce a_origins a_given a_rows a_probe a_motions a_thirds a_centres a_steps a_paces a_dwells a_marks a_nexts a_joints : Nat → Int32} {y_speed y_seen y_line y_left y_went y_u y_v : Int32} {a_began y_force y_origins y_here y_has y_grouped y_word y_from y_to y_steps y_paces y_dwells y_ends y_turn y_first y_second y_centre y_direction : Nat → Int32}
theorem rl_mk {k : Nat} (h : rl_ f_lines f_fastest f_gain f_bend f_ahead f_mode f_holds f_pace f_line f_gone f_dwellLeft f_stepsInAll f_ticksInAll f_speed f_present f_laid y_speed y_seen y_line y_left y_went a_wordCounts a_letters a_values a_limits a_switches a_tool a_inForce a_origins a_given a_rows a_probe a_motions a_thirds a_centres a_steps a_paces a_dwells a_marks a_nexts a_joints a_began y_force y_origins y_here y_has y_grouped y_word y_from y_to y_steps y_paces y_dwells y_ends y_turn y_first y_second y_centre) : i_Rel k (f_lines, f_fastest, f_gain, f_bend, f_ahead, f_mode, f_holds, f_pace, f_line, f_gone, f_dwellLeft, f_stepsInAll, f_ticksInAll, f_speed, f_present, f_laid, a_wordCounts, a_letters, a_values, a_limits, a_switches, a_tool, a_inForce, a_origins, a_given, a_rows, a_probe, a_motions, a_thirds, a_centres, a_steps, a_paces, a_dwells, a_marks, a_nexts, a_joints) (f_lines, f_fastest, f_gain, f_bend, f_ahead, y_speed, y_seen, f_mode, y_line, f_pace, y_left, y_went, f_stepsInAll, f_ticksInAll, y_u, y_v, f_holds, a_letters, a_values, a_wordCounts, a_tool, a_began, a_limits, a_switches, y_force, y_origins, y_here, y_has, y_grouped, y_word, y_from, y_to, y_steps, y_paces, y_dwells, y_ends, y_turn, y_first, y_second, y_centre, y_direction) := ⟨_, y_u, y_v, y_direction, ⟨f_lines, f_fastest, f_gain, f_bend, f_ahead, f_mode, f_holds, f_pace, f_line, f_gone, f_dwellLeft, f_stepsInAll, f_ticksInAll, f_speed, f_present, f_laid, y_speed, y_seen, y_line, y_left, y_went, a_wordCounts, a_letters, a_values, a_limits, a_switches, a_tool, a_inForce, a_origins, a_given, a_rows, a_probe, a_motions, a_thirds, a_centres, a_steps, a_paces, a_dwells, a_marks, a_nexts, a_joints, a_began, y_force, y_origins, y_here, y_has, y_grouped, y_word, y_from, y_to, y_steps, y_paces, y_dwells, y_ends, y_turn, y_first, y_second, y_centre, rfl, rfl, h⟩, rfl⟩
theorem rl_st (h : rl_ f_lines f_fastest f_gain f_bend f_ahead f_mode f_holds f_pace f_line f_gone f_dwellLeft f_stepsInAll f_ticksInAll f_speed f_present f_laid y_speed y_seen y_line y_left y_went a_wordCounts a_letters a_values a_limits a_switches a_tool a_inForce a_origins a_given a_rows a_probe a_motions a_thirds a_centres a_steps a_paces a_dwells a_marks a_nexts a_joints a_began y_force y_origins y_here y_has y_grouped y_word y_from y_to y_steps y_paces y_dwells y_ends y_turn y_first y_second y_centre) (m : f_mode = 0) : f_mode = 0 ∧ f_holds = 0 ∧ f_pace = 0 ∧ y_line = -1 ∧ y_left = 0 := by
  rcases h.2 with S | ⟨N, n, Lh, hn, el, eyl, W⟩
  · exact S
  · rcases W with z | z | z | z
    · rw [z.1] at m; exact absurd m (by decide)
    · rw [z.1] at m; exact absurd m (by decide)
    · rw [z.1] at m; exact absurd m (by decide)
    · rw [z.1] at m; exact absurd m (by decide)
theorem rl_rn (h : rl_ f_lines f_fastest f_gain f_bend f_ahead f_mode f_holds f_pace f_line f_gone f_dwellLeft f_stepsInAll f_ticksInAll f_speed f_present f_laid y_speed y_seen y_line y_left y_went a_wordCounts a_letters a_values a_limits a_switches a_tool a_inForce a_origins a_given a_rows a_probe a_motions a_thirds a_centres a_steps a_paces a_dwells a_marks a_nexts a_joints a_began y_force y_origins y_here y_has y_grouped y_word y_from y_to y_steps y_paces y_dwells y_ends y_turn y_first y_second y_centre) (m : ¬ f_mode = 0) : ∃ N n, rl_L f_lines f_fastest f_bend f_laid y_seen a_wordCounts a_letters a_values a_limits a_began a_rows a_motions a_thirds a_centres a_steps a_paces a_dwells a_marks a_nexts a_joints y_from y_to y_steps y_paces y_dwells y_ends y_turn y_first y_second y_centre N ∧
     rl_W a_letters a_values a_wordCounts a_limits a_began a_tool N n f_mode f_holds f_pace f_line f_gone f_dwellLeft y_line y_left y_went := by
  rcases h.2 with S | S
  · exact absurd S.1 m
  · exact S
end
end CLA
end
section
section CLB
theorem i_vc0 : wpX_init (fun u => wpY_init (fun v => i_Rel 0 u v)) := by
  refine ⟨4, ?_⟩
  have c0 : (0 : Int32).toNatClampNeg = 0 := by decide
  have c1 : (0 + 1 : Int32).toNatClampNeg = 1 := by decide
  have c2 : (0 + 1 + 1 : Int32).toNatClampNeg = 2 := by decide
  have v0 : vp_in (0 : Int32) 3 := vp_in_nI (n := 0) (by decide) (by decide)
  have v1 : vp_in (0 + 1 : Int32) 3 := vp_in_nI (n := 1) (by decide) (by decide)
  have v2 : vp_in (0 + 1 + 1 : Int32) 3 := vp_in_nI (n := 2) (by decide) (by decide)
  refine br_f (by decide) ⟨v0, nm_e ⟨v0, nm_e (nm_e (br_f (by decide) ⟨v1, nm_e ⟨v1, nm_e (nm_e (br_f (by decide) ⟨v2, nm_e ⟨v2, nm_e (nm_e (br_t (by decide) ?_))⟩⟩))⟩⟩))⟩⟩
  refine ⟨4, br_f (by decide) ⟨v0, nm_e ⟨v0, nm_e (nm_e (br_f (by decide) ⟨v1, nm_e ⟨v1, nm_e (nm_e (br_f (by decide) ⟨v2, nm_e ⟨v2, nm_e (nm_e (br_t (by decide) ?_))⟩⟩))⟩⟩))⟩⟩⟩
  rw [c0, c1, c2]
  refine rl_mk ⟨⟨⟨0, by omega, rfl⟩, ⟨fun k => ?_, fun k => ?_, fun n => ?_, fun a ha => ?_⟩, fun a ha => ?_, fun a _ => ⟨rfl, rfl⟩, fun g _ => ⟨rfl, rfl⟩, by decide, ⟨20, by omega, rfl⟩, by decide, ⟨3, by omega, rfl⟩⟩, Or.inl ⟨rfl, rfl, rfl, rfl, rfl⟩⟩
  · show 0 ≤ (0 : Int32).toInt ∧ (0 : Int32).toInt ≤ 9; decide
  · show -3000 ≤ (0 : Int32).toInt ∧ (0 : Int32).toInt ≤ 3000; decide
  · exact ⟨by unfold px_n; show (0 : Int32) = nI ((0 : Int32).toNatClampNeg); decide, by unfold px_n; show (0 : Int32).toNatClampNeg ≤ 8; decide⟩
  · exact co_3 (P := fun a => 0 ≤ (upd (upd (upd (fun _ => (0 : Int32)) 0 1000) 1 1000) 2 1000 a).toInt ∧ (upd (upd (upd (fun _ => (0 : Int32)) 0 1000) 1 1000) 2 1000 a).toInt ≤ 1000) (by decide) (by decide) (by decide) ha
  · exact co_3 (P := fun a => 0 ≤ (0 : Int32).toInt ∧ (0 : Int32).toInt ≤ (upd (upd (upd (fun _ => (0 : Int32)) 0 1000) 1 1000) 2 1000 a).toInt) (by decide) (by decide) (by decide) ha
end CLB
end
section
section CLC
theorem wf_up {L V M lim : Nat → Int32} {l x : Int32} {j n c : Nat} (wf : ci_WF L V M lim) (hl : 0 ≤ l.toInt ∧ l.toInt ≤ 9) (hx : -3000 ≤ x.toInt ∧ x.toInt ≤ 3000) (hc : c ≤ 8) : ci_WF (upd L j l) (upd V j x) (upd M n (nI c)) lim := by
  refine ⟨fun k => ?_, fun k => ?_, fun m => ?_, wf.2.2.2⟩
  · by_cases e : k = j
    · subst e; rw [pk_us]; exact hl
    · rw [pk_un e]; exact wf.1 k
  · by_cases e : k = j
    · subst e; rw [pk_us]; exact hx
    · rw [pk_un e]; exact wf.2.1 k
  · unfold px_n
    by_cases e : m = n
    · subst e; rw [pk_us, nI_clamp (by omega)]; exact ⟨rfl, hc⟩
    · rw [pk_un e]; exact wf.2.2.1 m
theorem i_vc_word {k : Nat} {u : SX} {v : SY} (I : i_Rel k u v) (hk : k + 4 ≤ 2048) (v1 : Int32) (v2 : Int32) (v3 : Int32) : wpX_word (fun r u' => wpY_word (fun r' v' => r' = r ∧ i_Rel (k + 4) u' v') v (lw_bz v1) v2 v3) u (lw_bz v1) v2 v3 := by
  obtain ⟨w, y_u, y_v, y_direction, ⟨f_lines, f_fastest, f_gain, f_bend, f_ahead, f_mode, f_holds, f_pace, f_line, f_gone, f_dwellLeft, f_stepsInAll, f_ticksInAll, f_speed, f_present, f_laid, y_speed, y_seen, y_line, y_left, y_went, a_wordCounts, a_letters, a_values, a_limits, a_switches, a_tool, a_inForce, a_origins, a_given, a_rows, a_probe, a_motions, a_thirds, a_centres, a_steps, a_paces, a_dwells, a_marks, a_nexts, a_joints, a_began, y_force, y_origins, y_here, y_has, y_grouped, y_word, y_from, y_to, y_steps, y_paces, y_dwells, y_ends, y_turn, y_first, y_second, y_centre, rfl, rfl, R⟩, rfl⟩ := I
  generalize lw_bz v1 = p0
  have same : (-1 : Int32) = -1 ∧ i_Rel (k + 4) (f_lines, f_fastest, f_gain, f_bend, f_ahead, f_mode, f_holds, f_pace, f_line, f_gone, f_dwellLeft, f_stepsInAll, f_ticksInAll, f_speed, f_present, f_laid, a_wordCounts, a_letters, a_values, a_limits, a_switches, a_tool, a_inForce, a_origins, a_given, a_rows, a_probe, a_motions, a_thirds, a_centres, a_steps, a_paces, a_dwells, a_marks, a_nexts, a_joints) (f_lines, f_fastest, f_gain, f_bend, f_ahead, y_speed, y_seen, f_mode, y_line, f_pace, y_left, y_went, f_stepsInAll, f_ticksInAll, y_u, y_v, f_holds, a_letters, a_values, a_wordCounts, a_tool, a_began, a_limits, a_switches, y_force, y_origins, y_here, y_has, y_grouped, y_word, y_from, y_to, y_steps, y_paces, y_dwells, y_ends, y_turn, y_first, y_second, y_centre, y_direction) := ⟨rfl, rl_mk R⟩
  have same2 : (-2 : Int32) = -2 ∧ i_Rel (k + 4) (f_lines, f_fastest, f_gain, f_bend, f_ahead, f_mode, f_holds, f_pace, f_line, f_gone, f_dwellLeft, f_stepsInAll, f_ticksInAll, f_speed, f_present, f_laid, a_wordCounts, a_letters, a_values, a_limits, a_switches, a_tool, a_inForce, a_origins, a_given, a_rows, a_probe, a_motions, a_thirds, a_centres, a_steps, a_paces, a_dwells, a_marks, a_nexts, a_joints) (f_lines, f_fastest, f_gain, f_bend, f_ahead, y_speed, y_seen, f_mode, y_line, f_pace, y_left, y_went, f_stepsInAll, f_ticksInAll, y_u, y_v, f_holds, a_letters, a_values, a_wordCounts, a_tool, a_began, a_limits, a_switches, y_force, y_origins, y_here, y_has, y_grouped, y_word, y_from, y_to, y_steps, y_paces, y_dwells, y_ends, y_turn, y_first, y_second, y_centre, y_direction) := ⟨rfl, rl_mk R⟩
  by_cases m : f_mode = 0
  case neg => exact br_f m (br_f m same)
  refine br_t m ?_
  -- the reference's tests of letter and value
  have yn : ¬ (0 ≤ v2 ∧ v2 ≤ 9) → wpY_word (fun r' v' => r' = -1 ∧ i_Rel (k + 4) (f_lines, f_fastest, f_gain, f_bend, f_ahead, f_mode, f_holds, f_pace, f_line, f_gone, f_dwellLeft, f_stepsInAll, f_ticksInAll, f_speed, f_present, f_laid, a_wordCounts, a_letters, a_values, a_limits, a_switches, a_tool, a_inForce, a_origins, a_given, a_rows, a_probe, a_motions, a_thirds, a_centres, a_steps, a_paces, a_dwells, a_marks, a_nexts, a_joints) v') (f_lines, f_fastest, f_gain, f_bend, f_ahead, y_speed, y_seen, f_mode, y_line, f_pace, y_left, y_went, f_stepsInAll, f_ticksInAll, y_u, y_v, f_holds, a_letters, a_values, a_wordCounts, a_tool, a_began, a_limits, a_switches, y_force, y_origins, y_here, y_has, y_grouped, y_word, y_from, y_to, y_steps, y_paces, y_dwells, y_ends, y_turn, y_first, y_second, y_centre, y_direction) p0 v2 v3 := fun z => br_t m (yl_in (fun a b => absurd ⟨a, b⟩ z) (fun _ => br_t rfl same))
  have yn2 : (0 ≤ v2 ∧ v2 ≤ 9) → ¬ (-3000 ≤ v3 ∧ v3 ≤ 3000) → wpY_word (fun r' v' => r' = -1 ∧ i_Rel (k + 4) (f_lines, f_fastest, f_gain, f_bend, f_ahead, f_mode, f_holds, f_pace, f_line, f_gone, f_dwellLeft, f_stepsInAll, f_ticksInAll, f_speed, f_present, f_laid, a_wordCounts, a_letters, a_values, a_limits, a_switches, a_tool, a_inForce, a_origins, a_given, a_rows, a_probe, a_motions, a_thirds, a_centres, a_steps, a_paces, a_dwells, a_marks, a_nexts, a_joints) v') (f_lines, f_fastest, f_gain, f_bend, f_ahead, y_speed, y_seen, f_mode, y_line, f_pace, y_left, y_went, f_stepsInAll, f_ticksInAll, y_u, y_v, f_holds, a_letters, a_values, a_wordCounts, a_tool, a_began, a_limits, a_switches, y_force, y_origins, y_here, y_has, y_grouped, y_word, y_from, y_to, y_steps, y_paces, y_dwells, y_ends, y_turn, y_first, y_second, y_centre, y_direction) p0 v2 v3 := fun y z => br_t m (yl_in (fun _ _ => br_f (by decide) (yl_in (fun a b => absurd ⟨a, b⟩ z) (fun _ => br_t rfl same))) (fun n => absurd y n))
  have e9 : v2 < 10 ↔ v2 ≤ 9 := by rw [fc_lt, fc_le, show (10 : Int32).toInt = 10 from by decide, fc_9]; omega
  refine br_c (fun a => yn (fun z => Int32.not_lt.mpr z.1 a)) (fun a => br_c (fun b => br_c (fun c => yn2 ⟨Int32.not_lt.mp a, e9.mp b⟩ (fun z => Int32.not_lt.mpr z.1 c)) (fun c => br_c (fun d => ?_) (fun d => yn2 ⟨Int32.not_lt.mp a, e9.mp b⟩ (fun z => d z.2)))) (fun b => yn (fun z => b (e9.mpr z.2))))
  have hl : 0 ≤ v2.toInt ∧ v2.toInt ≤ 9 := by
    have b' := e9.mp b
    rw [fc_lt, fc_0] at a; rw [fc_le, fc_9] at b'; omega
  have hx : -3000 ≤ v3.toInt ∧ v3.toInt ≤ 3000 := by
    rw [fc_lt, show (-3000 : Int32).toInt = -3000 from by decide] at c; rw [fc_le, show (3000 : Int32).toInt = 3000 from by decide] at d; omega
  have yg : ∀ (PY : Int32 → SY → Prop), ((p0 = 0 → ((f_lines = 0 → PY (-1) (f_lines, f_fastest, f_gain, f_bend, f_ahead, y_speed, y_seen, f_mode, y_line, f_pace, y_left, y_went, f_stepsInAll, f_ticksInAll, y_u, y_v, f_holds, a_letters, a_values, a_wordCounts, a_tool, a_began, a_limits, a_switches, y_force, y_origins, y_here, y_has, y_grouped, y_word, y_from, y_to, y_steps, y_paces, y_dwells, y_ends, y_turn, y_first, y_second, y_centre, y_direction)) ∧ (¬ f_lines = 0 → wY_word_43 PY p0 v2 v3 f_lines f_fastest f_gain f_bend f_ahead y_speed y_seen f_mode y_line f_pace y_left y_went f_stepsInAll f_ticksInAll y_u y_v f_holds a_letters a_values a_wordCounts a_tool a_began a_limits a_switches y_force y_origins y_here y_has y_grouped y_word y_from y_to y_steps y_paces y_dwells y_ends y_turn y_first y_second y_centre y_direction))) ∧ (¬ p0 = 0 → wY_word_43 PY p0 v2 v3 f_lines f_fastest f_gain f_bend f_ahead y_speed y_seen f_mode y_line f_pace y_left y_went f_stepsInAll f_ticksInAll y_u y_v f_holds a_letters a_values a_wordCounts a_tool a_began a_limits a_switches y_force y_origins y_here y_has y_grouped y_word y_from y_to y_steps y_paces y_dwells y_ends y_turn y_first y_second y_centre y_direction)) → wpY_word PY (f_lines, f_fastest, f_gain, f_bend, f_ahead, y_speed, y_seen, f_mode, y_line, f_pace, y_left, y_went, f_stepsInAll, f_ticksInAll, y_u, y_v, f_holds, a_letters, a_values, a_wordCounts, a_tool, a_began, a_limits, a_switches, y_force, y_origins, y_here, y_has, y_grouped, y_word, y_from, y_to, y_steps, y_paces, y_dwells, y_ends, y_turn, y_first, y_second, y_centre, y_direction) p0 v2 v3 :=
    fun PY h => br_t m (yl_in (fun _ _ => br_f (by decide) (yl_in (fun _ _ => br_f (by decide) h) (fun n => absurd ⟨Int32.not_lt.mp c, d⟩ n))) (fun n => absurd ⟨Int32.not_lt.mp a, e9.mp b⟩ n))
  obtain ⟨⟨l, hl30, el⟩, C⟩ := R.1
  have S0 := rl_st R m
  obtain ⟨wf, C2⟩ := C
  -- the word is written behind cnt others of line q
  have xw : ∀ q cnt Wc, q < 30 → cnt ≤ 8 → Wc q = nI cnt → ∀ (PX : Int32 → SX → Prop), (cnt = 8 → PX (-2) ((nI (q + 1)), f_fastest, f_gain, f_bend, f_ahead, f_mode, f_holds, f_pace, f_line, f_gone, f_dwellLeft, f_stepsInAll, f_ticksInAll, f_speed, f_present, f_laid, Wc, a_letters, a_values, a_limits, a_switches, a_tool, a_inForce, a_origins, a_given, a_rows, a_probe, a_motions, a_thirds, a_centres, a_steps, a_paces, a_dwells, a_marks, a_nexts, a_joints)) → (cnt < 8 → PX (nI (cnt + 1)) ((nI (q + 1)), f_fastest, f_gain, f_bend, f_ahead, f_mode, f_holds, f_pace, f_line, f_gone, f_dwellLeft, f_stepsInAll, f_ticksInAll, f_speed, f_present, f_laid, (upd Wc q (nI (cnt + 1))), (upd a_letters (8 * q + cnt) v2), (upd a_values (8 * q + cnt) v3), a_limits, a_switches, a_tool, a_inForce, a_origins, a_given, a_rows, a_probe, a_motions, a_thirds, a_centres, a_steps, a_paces, a_dwells, a_marks, a_nexts, a_joints)) → wX_word_84 PX v2 v3 (nI (q + 1)) f_fastest f_gain f_bend f_ahead f_mode f_holds f_pace f_line f_gone f_dwellLeft f_stepsInAll f_ticksInAll f_speed f_present f_laid Wc a_letters a_values a_limits a_switches a_tool a_inForce a_origins a_given a_rows a_probe a_motions a_thirds a_centres a_steps a_paces a_dwells a_marks a_nexts a_joints := by
    intro q cnt Wc hq hc eW PX h8 h
    unfold wX_word_84
    refine nm_r (nI_pred q) ⟨vp_in_nI hq (by omega), ?_⟩
    rw [nI_clamp (show q < 2 ^ 31 by omega), eW]
    refine nm_e (br_c (fun z => h8 ((nI_eq (b := 8) (by omega) (by omega)).mp z)) (fun z => ?_))
    have c8 : cnt < 8 := by
      rcases Nat.lt_or_ge cnt 8 with y | y
      · exact y
      · obtain rfl : cnt = 8 := by omega
        exact absurd rfl z
    rw [show nI q * 8 + nI cnt = nI (8 * q + cnt) from by rw [show (8 : Int32) = nI 8 from rfl, pk_mul, nI_add, Nat.mul_comm], nI_clamp (show 8 * q + cnt < 2 ^ 31 by omega), nI_1]
    exact ⟨vp_in_nI (by omega) (by omega), nm_e ⟨vp_in_nI (by omega) (by omega), nm_e ⟨vp_in_nI hq (by omega), nm_e (h c8)⟩⟩⟩
  have yw : ∀ q cnt Wc, q < 30 → cnt < 8 → Wc q = nI cnt → ∀ (PY : Int32 → SY → Prop), PY (nI (cnt + 1)) ((nI (q + 1)), f_fastest, f_gain, f_bend, f_ahead, y_speed, y_seen, f_mode, y_line, f_pace, y_left, y_went, f_stepsInAll, f_ticksInAll, y_u, y_v, f_holds, (upd a_letters (8 * q + cnt) v2), (upd a_values (8 * q + cnt) v3), (upd Wc q (nI (cnt + 1))), a_tool, a_began, a_limits, a_switches, y_force, y_origins, y_here, y_has, y_grouped, y_word, y_from, y_to, y_steps, y_paces, y_dwells, y_ends, y_turn, y_first, y_second, y_centre, y_direction) → wY_word_99 PY v2 v3 (nI (q + 1)) f_fastest f_gain f_bend f_ahead y_speed y_seen f_mode y_line f_pace y_left y_went f_stepsInAll f_ticksInAll y_u y_v f_holds a_letters a_values Wc a_tool a_began a_limits a_switches y_force y_origins y_here y_has y_grouped y_word y_from y_to y_steps y_paces y_dwells y_ends y_turn y_first y_second y_centre y_direction := by
    intro q cnt Wc hq hc eW PY h
    unfold wY_word_99
    rw [nI_pred, nI_clamp (show q < 2 ^ 31 by omega), eW, nI_1]
    refine ⟨vp_in_nI hq (by omega), nm_r (e' := nI (8 * q + cnt)) (by rw [show (8 : Int32) = nI 8 from rfl, pk_mul, nI_add]) ?_⟩
    rw [nI_clamp (show 8 * q + cnt < 2 ^ 31 by omega)]
    refine ⟨vp_in_nI (by omega) (by omega), nm_e ⟨vp_in_nI (by omega) (by omega), nm_e ⟨vp_in_nI hq (by omega), vp_in_nI hq (by omega), nm_e ⟨vp_in_nI hq (by omega), ?_⟩⟩⟩⟩
    rw [pk_us]; exact h
  have fin : ∀ q cnt Wc, q < 30 → cnt < 8 → Wc = a_wordCounts ∨ Wc = upd a_wordCounts q 0 → i_Rel (k + 4) ((nI (q + 1)), f_fastest, f_gain, f_bend, f_ahead, f_mode, f_holds, f_pace, f_line, f_gone, f_dwellLeft, f_stepsInAll, f_ticksInAll, f_speed, f_present, f_laid, (upd Wc q (nI (cnt + 1))), (upd a_letters (8 * q + cnt) v2), (upd a_values (8 * q + cnt) v3), a_limits, a_switches, a_tool, a_inForce, a_origins, a_given, a_rows, a_probe, a_motions, a_thirds, a_centres, a_steps, a_paces, a_dwells, a_marks, a_nexts, a_joints) ((nI (q + 1)), f_fastest, f_gain, f_bend, f_ahead, y_speed, y_seen, f_mode, y_line, f_pace, y_left, y_went, f_stepsInAll, f_ticksInAll, y_u, y_v, f_holds, (upd a_letters (8 * q + cnt) v2), (upd a_values (8 * q + cnt) v3), (upd Wc q (nI (cnt + 1))), a_tool, a_began, a_limits, a_switches, y_force, y_origins, y_here, y_has, y_grouped, y_word, y_from, y_to, y_steps, y_paces, y_dwells, y_ends, y_turn, y_first, y_second, y_centre, y_direction) := by
    intro q cnt Wc hq hc eW
    refine rl_mk ⟨⟨⟨q + 1, by omega, rfl⟩, ?_, C2⟩, Or.inl S0⟩
    refine wf_up ?_ hl hx (by omega)
    rcases eW with e | e
    · rw [e]; exact wf
    · rw [e]
      have := wf_up (j := 240) (n := q) (c := 0) wf (l := a_letters 240) (x := a_values 240) (wf.1 240) (wf.2.1 240) (by omega)
      have e1 : upd a_letters 240 (a_letters 240) = a_letters := by
        funext i; by_cases z : i = 240
        · subst z; rw [pk_us]
        · rw [pk_un z]
      have e2 : upd a_values 240 (a_values 240) = a_values := by
        funext i; by_cases z : i = 240
        · subst z; rw [pk_us]
        · rw [pk_un z]
      rw [e1, e2] at this
      exact this
  subst el
  by_cases f : p0 = 0
  · refine br_t f (br_c (fun z => yg _ (br_t f (br_t z same))) (fun z => ?_))
    have l0 : 0 < l := by
      rcases Nat.eq_zero_or_pos l with y | y
      · subst y; exact absurd rfl z
      · exact y
    obtain ⟨q, rfl⟩ : ∃ q, l = q + 1 := ⟨l - 1, by omega⟩
    obtain ⟨eM, hM⟩ := wf.2.2.1 q
    refine br_t f (xw q (px_n a_wordCounts q) a_wordCounts (by omega) hM eM _ (fun c8 => yg _ (br_t f (br_f z ?_))) (fun c8 => yg _ (br_t f (br_f z ?_))))
    · unfold wY_word_43
      rw [nI_pred, nI_clamp (show q < 2 ^ 31 by omega), eM, c8]
      exact br_t f ⟨vp_in_nI (by omega) (by omega), br_t rfl same2⟩
    · unfold wY_word_43 wY_word_78
      rw [nI_pred, nI_clamp (show q < 2 ^ 31 by omega)]
      refine br_t f ⟨vp_in_nI (by omega) (by omega), br_f (fun y => ?_) (br_t f (yw q (px_n a_wordCounts q) a_wordCounts (by omega) c8 eM _ ⟨rfl, fin q _ a_wordCounts (by omega) c8 (Or.inl rfl)⟩))⟩
      rw [eM] at y
      have := (nI_eq (b := 8) (by omega) (by omega)).mp y
      omega
  · have lk : nI l = 30 ↔ l = 30 := nI_eq (b := 30) (by omega) (by omega)
    refine br_f f (br_f f (br_c (fun z => yg _ (br_f f ?_)) (fun z => ⟨vp_in_nI (by have : ¬ l = 30 := fun y => z (lk.mpr y); omega) (by omega), ?_⟩)))
    · unfold wY_word_43
      exact br_f f (br_t z same2)
    · have l30 : l < 30 := by have : ¬ l = 30 := fun y => z (lk.mpr y); omega
      rw [nI_clamp (show l < 2 ^ 31 by omega)]
      refine nm_e (nm_r (nI_1 l) (xw l 0 (upd a_wordCounts l 0) l30 (by omega) pk_us _ (fun c8 => absurd c8 (by decide)) (fun c8 => yg _ (br_f f ?_))))
      unfold wY_word_43 wY_word_78
      rw [nI_clamp (show l < 2 ^ 31 by omega)]
      exact br_f f (br_f z (br_f f (nm_r (nI_1 l) ⟨vp_in_nI l30 (by omega), nm_e (yw l 0 (upd a_wordCounts l 0) l30 (by omega) pk_us _ ⟨rfl, fin l 0 _ l30 (by omega) (Or.inr rfl)⟩)⟩)))
end CLC
end
section
section CLD
theorem i_vc_clear {k : Nat} {u : SX} {v : SY} (I : i_Rel k u v) (hk : k + 4 ≤ 2048) : wpX_clear (fun r u' => wpY_clear (fun r' v' => r' = r ∧ i_Rel (k + 4) u' v') v) u := by
  obtain ⟨w, y_u, y_v, y_direction, ⟨f_lines, f_fastest, f_gain, f_bend, f_ahead, f_mode, f_holds, f_pace, f_line, f_gone, f_dwellLeft, f_stepsInAll, f_ticksInAll, f_speed, f_present, f_laid, y_speed, y_seen, y_line, y_left, y_went, a_wordCounts, a_letters, a_values, a_limits, a_switches, a_tool, a_inForce, a_origins, a_given, a_rows, a_probe, a_motions, a_thirds, a_centres, a_steps, a_paces, a_dwells, a_marks, a_nexts, a_joints, a_began, y_force, y_origins, y_here, y_has, y_grouped, y_word, y_from, y_to, y_steps, y_paces, y_dwells, y_ends, y_turn, y_first, y_second, y_centre, rfl, rfl, R⟩, rfl⟩ := I
  refine br_c (fun m => br_t m ⟨rfl, rl_mk ⟨?_, Or.inl (rl_st R m)⟩⟩) (fun m => br_f m ⟨rfl, rl_mk R⟩)
  exact ⟨⟨0, by omega, rfl⟩, R.1.2⟩
theorem i_vc_hold {k : Nat} {u : SX} {v : SY} (I : i_Rel k u v) (hk : k + 4 ≤ 2048) : wpX_hold (fun r u' => wpY_hold (fun r' v' => r' = r ∧ i_Rel (k + 4) u' v') v) u := by
  obtain ⟨w, y_u, y_v, y_direction, ⟨f_lines, f_fastest, f_gain, f_bend, f_ahead, f_mode, f_holds, f_pace, f_line, f_gone, f_dwellLeft, f_stepsInAll, f_ticksInAll, f_speed, f_present, f_laid, y_speed, y_seen, y_line, y_left, y_went, a_wordCounts, a_letters, a_values, a_limits, a_switches, a_tool, a_inForce, a_origins, a_given, a_rows, a_probe, a_motions, a_thirds, a_centres, a_steps, a_paces, a_dwells, a_marks, a_nexts, a_joints, a_began, y_force, y_origins, y_here, y_has, y_grouped, y_word, y_from, y_to, y_steps, y_paces, y_dwells, y_ends, y_turn, y_first, y_second, y_centre, rfl, rfl, R⟩, rfl⟩ := I
  have key : f_mode = 1 ∨ f_mode = 2 → i_Rel (k + 4) (f_lines, f_fastest, f_gain, f_bend, f_ahead, f_mode, 1, f_pace, f_line, f_gone, f_dwellLeft, f_stepsInAll, f_ticksInAll, f_speed, f_present, f_laid, a_wordCounts, a_letters, a_values, a_limits, a_switches, a_tool, a_inForce, a_origins, a_given, a_rows, a_probe, a_motions, a_thirds, a_centres, a_steps, a_paces, a_dwells, a_marks, a_nexts, a_joints) (f_lines, f_fastest, f_gain, f_bend, f_ahead, y_speed, y_seen, f_mode, y_line, f_pace, y_left, y_went, f_stepsInAll, f_ticksInAll, y_u, y_v, 1, a_letters, a_values, a_wordCounts, a_tool, a_began, a_limits, a_switches, y_force, y_origins, y_here, y_has, y_grouped, y_word, y_from, y_to, y_steps, y_paces, y_dwells, y_ends, y_turn, y_first, y_second, y_centre, y_direction) := by
    intro m
    have m0 : ¬ f_mode = 0 := by rcases m with z | z <;> rw [z] <;> decide
    obtain ⟨N, n, Lh, hn, el, eyl, W⟩ := rl_rn R m0
    refine rl_mk ⟨R.1, Or.inr ⟨N, n, Lh, hn, el, eyl, ?_⟩⟩
    rcases W with z | z | z | z
    · exact Or.inl z
    · rw [z.1] at m; rcases m with y | y <;> exact absurd y (by decide)
    · exact Or.inr (Or.inr (Or.inl z))
    · rw [z.1] at m; rcases m with y | y <;> exact absurd y (by decide)
  exact br_c (fun a => br_c (fun b => br_t a (br_t b ⟨rfl, key (Or.inl b)⟩)) (fun b => br_c (fun c => br_t a (br_f b (br_t c ⟨rfl, key (Or.inr c)⟩))) (fun c => br_t a (br_f b (br_f c ⟨rfl, rl_mk R⟩))))) (fun a => br_f a ⟨rfl, rl_mk R⟩)
theorem i_vc_stop {k : Nat} {u : SX} {v : SY} (I : i_Rel k u v) (hk : k + 4 ≤ 2048) : wpX_stop (fun r u' => wpY_stop (fun r' v' => r' = r ∧ i_Rel (k + 4) u' v') v) u := by
  obtain ⟨w, y_u, y_v, y_direction, ⟨f_lines, f_fastest, f_gain, f_bend, f_ahead, f_mode, f_holds, f_pace, f_line, f_gone, f_dwellLeft, f_stepsInAll, f_ticksInAll, f_speed, f_present, f_laid, y_speed, y_seen, y_line, y_left, y_went, a_wordCounts, a_letters, a_values, a_limits, a_switches, a_tool, a_inForce, a_origins, a_given, a_rows, a_probe, a_motions, a_thirds, a_centres, a_steps, a_paces, a_dwells, a_marks, a_nexts, a_joints, a_began, y_force, y_origins, y_here, y_has, y_grouped, y_word, y_from, y_to, y_steps, y_paces, y_dwells, y_ends, y_turn, y_first, y_second, y_centre, rfl, rfl, R⟩, rfl⟩ := I
  exact br_c (fun a => br_t a ⟨rfl, rl_mk R⟩) (fun a => br_f a ⟨rfl, rl_mk ⟨R.1, Or.inl ⟨rfl, rfl, rfl, rfl, rfl⟩⟩⟩)
theorem i_vc_trip {k : Nat} {u : SX} {v : SY} (I : i_Rel k u v) (hk : k + 4 ≤ 2048) (v1 : Int32) (v2 : Int32) : wpX_trip (fun r u' => wpY_trip (fun r' v' => r' = r ∧ i_Rel (k + 4) u' v') v v1 v2) u v1 v2 := by
  obtain ⟨w, y_u, y_v, y_direction, ⟨f_lines, f_fastest, f_gain, f_bend, f_ahead, f_mode, f_holds, f_pace, f_line, f_gone, f_dwellLeft, f_stepsInAll, f_ticksInAll, f_speed, f_present, f_laid, y_speed, y_seen, y_line, y_left, y_went, a_wordCounts, a_letters, a_values, a_limits, a_switches, a_tool, a_inForce, a_origins, a_given, a_rows, a_probe, a_motions, a_thirds, a_centres, a_steps, a_paces, a_dwells, a_marks, a_nexts, a_joints, a_began, y_force, y_origins, y_here, y_has, y_grouped, y_word, y_from, y_to, y_steps, y_paces, y_dwells, y_ends, y_turn, y_first, y_second, y_centre, rfl, rfl, R⟩, rfl⟩ := I
  have same : (0 : Int32) = 0 ∧ i_Rel (k + 4) (f_lines, f_fastest, f_gain, f_bend, f_ahead, f_mode, f_holds, f_pace, f_line, f_gone, f_dwellLeft, f_stepsInAll, f_ticksInAll, f_speed, f_present, f_laid, a_wordCounts, a_letters, a_values, a_limits, a_switches, a_tool, a_inForce, a_origins, a_given, a_rows, a_probe, a_motions, a_thirds, a_centres, a_steps, a_paces, a_dwells, a_marks, a_nexts, a_joints) (f_lines, f_fastest, f_gain, f_bend, f_ahead, y_speed, y_seen, f_mode, y_line, f_pace, y_left, y_went, f_stepsInAll, f_ticksInAll, y_u, y_v, f_holds, a_letters, a_values, a_wordCounts, a_tool, a_began, a_limits, a_switches, y_force, y_origins, y_here, y_has, y_grouped, y_word, y_from, y_to, y_steps, y_paces, y_dwells, y_ends, y_turn, y_first, y_second, y_centre, y_direction) := ⟨rfl, rl_mk R⟩
  have e2 : 3 ≤ v1 ↔ ¬ v1 ≤ 2 := by rw [fc_le, fc_le, fc_3, fc_2]; omega
  unfold wpX_trip wpY_trip
  dsimp only
  refine br_c (fun a => yl_in (fun z _ => absurd a (Int32.not_lt.mpr z)) (fun _ => br_t rfl same)) (fun a => br_c (fun b => yl_in (fun _ z => absurd z (e2.mp b)) (fun _ => br_t rfl same)) (fun b => ?_))
  have b' : v1 ≤ 2 := Decidable.byContradiction (fun z => b (e2.mpr z))
  have a' : 0 ≤ v1 := Int32.not_lt.mp a
  have yok : ∀ PY : Int32 → Prop, PY 1 → wpY_in PY v1 0 2 := fun PY h => yl_in (fun _ _ => h) (fun n => absurd ⟨a', b'⟩ n)
  have i3 : vp_in v1 3 := vp_in_iff.mpr (by rw [fc_le, fc_0] at a'; rw [fc_le, fc_2] at b'; omega)
  refine br_c (fun c => yok _ (br_f (by decide) (yl_in (fun z _ => absurd c (Int32.not_lt.mpr z)) (fun _ => br_t rfl same)))) (fun c => br_c (fun d => ⟨i3, nm_e ?_⟩) (fun d => yok _ (br_f (by decide) (yl_in (fun _ z => absurd z d) (fun _ => br_t rfl same)))))
  exact yok _ (br_f (by decide) (yl_in (fun _ _ => br_f (by decide) ⟨i3, nm_e ⟨rfl, rl_mk R⟩⟩) (fun n => absurd ⟨Int32.not_lt.mp c, d⟩ n)))
theorem i_vc_at {k : Nat} {u : SX} {v : SY} (I : i_Rel k u v) (hk : k + 4 ≤ 2048) (v1 : Int32) : wpX_at (fun r => wpY_at (fun r' => r' = r ∧ i_Rel (k + 4) u v) v v1) u v1 := by
  obtain ⟨w, y_u, y_v, y_direction, ⟨f_lines, f_fastest, f_gain, f_bend, f_ahead, f_mode, f_holds, f_pace, f_line, f_gone, f_dwellLeft, f_stepsInAll, f_ticksInAll, f_speed, f_present, f_laid, y_speed, y_seen, y_line, y_left, y_went, a_wordCounts, a_letters, a_values, a_limits, a_switches, a_tool, a_inForce, a_origins, a_given, a_rows, a_probe, a_motions, a_thirds, a_centres, a_steps, a_paces, a_dwells, a_marks, a_nexts, a_joints, a_began, y_force, y_origins, y_here, y_has, y_grouped, y_word, y_from, y_to, y_steps, y_paces, y_dwells, y_ends, y_turn, y_first, y_second, y_centre, rfl, rfl, R⟩, rfl⟩ := I
  have e2 : v1 < 3 ↔ v1 ≤ 2 := by rw [fc_lt, fc_le, fc_3, fc_2]; omega
  unfold wpX_at wpY_at
  dsimp only
  refine br_c (fun a => yl_in (fun z _ => absurd a (Int32.not_lt.mpr z)) (fun _ => br_t rfl ⟨rfl, rl_mk R⟩)) (fun a => br_c (fun b => ?_) (fun b => yl_in (fun _ z => absurd (e2.mpr z) b) (fun _ => br_t rfl ⟨rfl, rl_mk R⟩)))
  have i3 : vp_in v1 3 := vp_in_iff.mpr (by have b' := e2.mp b; rw [fc_lt, fc_0] at a; rw [fc_le, fc_2] at b'; omega)
  exact ⟨i3, yl_in (fun _ _ => br_f (by decide) ⟨i3, rfl, rl_mk R⟩) (fun n => absurd ⟨Int32.not_lt.mp a, e2.mp b⟩ n)⟩
end CLD
end
section
section PLC
theorem ci_Rp {L V M lim s0 : Nat → Int32} {l N : Nat} {r : Int32} (hl : l ≤ 30) (h : ci_R L V M lim s0 l N r) (hr : ¬ r = 0) : ¬ r ≤ 0 := by
  obtain ⟨_, _, _, h4⟩ := h
  rcases h4 with ⟨z, _⟩ | ⟨hN, hw, _, e⟩
  · exact absurd z hr
  · have pos : 1 ≤ (px_why L V M lim s0 N).toInt ∧ (px_why L V M lim s0 N).toInt ≤ 6 := ci_why6 hw
    rw [e]
    have e1 : 10 * nI N + px_why L V M lim s0 N = ii_I (10 * (N : Int) + (px_why L V M lim s0 N).toInt) := by rw [← ii_add, ← ii_mul, ii_t, ← ii_n]; rfl
    rw [e1]
    intro z
    have := (ii_le (b := 0) (by unfold ii_R; omega) (by unfold ii_R; omega)).mp z
    omega
theorem i_vc_check {k : Nat} {u : SX} {v : SY} (I : i_Rel k u v) (hk : k + 4 ≤ 2048) : wpX_check (fun r u' => wpY_check (fun r' v' => r' = r ∧ i_Rel (k + 4) u' v') v) u := by
  obtain ⟨w, y_u, y_v, y_direction, ⟨f_lines, f_fastest, f_gain, f_bend, f_ahead, f_mode, f_holds, f_pace, f_line, f_gone, f_dwellLeft, f_stepsInAll, f_ticksInAll, f_speed, f_present, f_laid, y_speed, y_seen, y_line, y_left, y_went, a_wordCounts, a_letters, a_values, a_limits, a_switches, a_tool, a_inForce, a_origins, a_given, a_rows, a_probe, a_motions, a_thirds, a_centres, a_steps, a_paces, a_dwells, a_marks, a_nexts, a_joints, a_began, y_force, y_origins, y_here, y_has, y_grouped, y_word, y_from, y_to, y_steps, y_paces, y_dwells, y_ends, y_turn, y_first, y_second, y_centre, rfl, rfl, R⟩, rfl⟩ := I
  obtain ⟨⟨l, hl30, el⟩, wf, hT, hi, hF, C2⟩ := R.1
  dsimp only
  unfold wpX_check wpY_check
  dsimp only
  by_cases m : f_mode = 0
  · refine xz_lo m hl30 el wf hT (fun g hg => (hF g hg).1) (fun N r hR sp pr F O G Ro P MO TH CE ST PC DW MK hFh _ => ?_)
    refine yz_pl (s0 := a_tool) hl30 el wf hT (fun g hg => (hF g hg).2) (Or.inl ⟨m, fun _ _ => rfl⟩) (fun N' r' hR' sp' u' v' F' O' he' hs' gr' wd' fr' to' st' pc' dw' en' tu' fi' se' ce' hFh' _ _ => ?_)
    obtain ⟨_, e⟩ := ci_Ru hR' hR
    refine ⟨e, rl_mk ⟨⟨⟨l, hl30, el⟩, wf, hT, hi, fun g hg => ⟨hFh g hg, hFh' g hg⟩, C2⟩, Or.inl (rl_st R m)⟩⟩
  · obtain ⟨N, n, Lh, W⟩ := rl_rn R m
    obtain ⟨⟨l', _, el', hR⟩, K, hX, hY⟩ := Lh
    unfold wpX_layOut
    refine br_f m ?_
    refine yz_pl (s0 := a_began) hl30 el wf K.2.1 (fun g hg => (hF g hg).2) (Or.inr ⟨m, fun _ _ => rfl⟩) (fun N' r' hR' sp' u' v' F' O' he' hs' gr' wd' fr' to' st' pc' dw' en' tu' fi' se' ce' hFh' _ hL => ?_)
    have ell : l = l' := by
      have := el.symm.trans el'
      exact (nI_eq (by omega) (by omega)).mp this
    subst ell
    obtain ⟨eN, e⟩ := ci_Ru hR' hR
    subst eN e
    exact ⟨rfl, rl_mk ⟨⟨⟨l, hl30, el⟩, wf, hT, hi, fun g hg => ⟨(hF g hg).1, hFh' g hg⟩, C2⟩, Or.inr ⟨N', n, ⟨⟨l, hl30, el, hR⟩, K, hX, rfl, hL rfl⟩, W⟩⟩⟩
theorem i_vc_after {k : Nat} {u : SX} {v : SY} (I : i_Rel k u v) (hk : k + 4 ≤ 2048) (v1 : Int32) (v2 : Int32) : wpX_after (fun r u' => wpY_after (fun r' v' => r' = r ∧ i_Rel (k + 4) u' v') v v1 v2) u v1 v2 := by
  obtain ⟨w, y_u, y_v, y_direction, ⟨f_lines, f_fastest, f_gain, f_bend, f_ahead, f_mode, f_holds, f_pace, f_line, f_gone, f_dwellLeft, f_stepsInAll, f_ticksInAll, f_speed, f_present, f_laid, y_speed, y_seen, y_line, y_left, y_went, a_wordCounts, a_letters, a_values, a_limits, a_switches, a_tool, a_inForce, a_origins, a_given, a_rows, a_probe, a_motions, a_thirds, a_centres, a_steps, a_paces, a_dwells, a_marks, a_nexts, a_joints, a_began, y_force, y_origins, y_here, y_has, y_grouped, y_word, y_from, y_to, y_steps, y_paces, y_dwells, y_ends, y_turn, y_first, y_second, y_centre, rfl, rfl, R⟩, rfl⟩ := I
  obtain ⟨⟨l, hl30, el⟩, wf, hT, hi, hF, C2⟩ := R.1
  dsimp only
  unfold wpX_after wpY_after
  dsimp only
  have e2 : 3 ≤ v2 ↔ ¬ v2 ≤ 2 := by rw [fc_le, fc_le, fc_3, fc_2]; omega
  -- the answer of a planned program
  have ans : ∀ (s0 to ro : Nat → Int32) (N : Nat), N ≤ 30 → yz_T a_letters a_values a_wordCounts s0 N to → (∀ q, q ≤ N → ∀ a, a < 3 → ro (3 * q + a) = px_he a_letters a_values a_wordCounts s0 q a) → 0 ≤ v1 → 0 ≤ v2 → v2 ≤ 2 → v1 < nI N → vp_in ((v1 + 1) * 3 + v2) 93 ∧ vp_in (3 * v1 + v2) 90 ∧ to (3 * v1 + v2).toNatClampNeg = ro ((v1 + 1) * 3 + v2).toNatClampNeg := by
    intro s0 to ro N hN hTo hRo a1 b1 b2 c
    obtain ⟨q, q1, q2⟩ := nI_of (x := v1) (Int32.not_lt.mpr a1)
    obtain ⟨a, a1', a2⟩ := nI_of (x := v2) (Int32.not_lt.mpr b1)
    subst q2 a2
    have hq : q < N := (nI_ltI (by omega) (by omega)).mp c
    have ha : a < 3 := by have : a ≤ 2 := (nI_leI (b := 2) (by omega) (by omega)).mp b2; omega
    rw [ix_3s, ix_y3, nI_clamp (show 3 * (q + 1) + a < 2 ^ 31 by omega), nI_clamp (show 3 * q + a < 2 ^ 31 by omega)]
    exact ⟨vp_in_nI (by omega) (by omega), vp_in_nI (by omega) (by omega), (hTo q hq a ha).trans (hRo (q + 1) (by omega) a ha).symm⟩
  by_cases m : f_mode = 0
  · -- standing: the reference plans in any case
    have yp : ∀ (PY : Int32 → SY → Prop), (∀ N r, ci_R a_letters a_values a_wordCounts a_limits a_tool l N r → ∀ sp u v F O he hs gr wd fr to st pc dw en tu fi se ce, (∀ g, 6 ≤ g → F g = 0) → yz_T a_letters a_values a_wordCounts a_tool N to → PY r (f_lines, f_fastest, f_gain, f_bend, f_ahead, sp, (nI N), f_mode, y_line, f_pace, y_left, y_went, f_stepsInAll, f_ticksInAll, u, v, f_holds, a_letters, a_values, a_wordCounts, a_tool, a_began, a_limits, a_switches, F, O, he, hs, gr, wd, fr, to, st, pc, dw, en, tu, fi, se, ce, y_direction)) → wpY_plan PY (f_lines, f_fastest, f_gain, f_bend, f_ahead, y_speed, y_seen, f_mode, y_line, f_pace, y_left, y_went, f_stepsInAll, f_ticksInAll, y_u, y_v, f_holds, a_letters, a_values, a_wordCounts, a_tool, a_began, a_limits, a_switches, y_force, y_origins, y_here, y_has, y_grouped, y_word, y_from, y_to, y_steps, y_paces, y_dwells, y_ends, y_turn, y_first, y_second, y_centre, y_direction) :=
      fun PY h => yz_pl (s0 := a_tool) hl30 el wf hT (fun g hg => (hF g hg).2) (Or.inl ⟨m, fun _ _ => rfl⟩) (fun N r hR sp u v F O he hs gr wd fr to st pc dw en tu fi se ce h1 h2 _ => h N r hR sp u v F O he hs gr wd fr to st pc dw en tu fi se ce h1 h2)
    have relY : ∀ N sp u v F O he hs gr wd fr to st pc dw en tu fi se ce, (∀ g, 6 ≤ g → F g = 0) → i_Rel (k + 4) (f_lines, f_fastest, f_gain, f_bend, f_ahead, f_mode, f_holds, f_pace, f_line, f_gone, f_dwellLeft, f_stepsInAll, f_ticksInAll, f_speed, f_present, f_laid, a_wordCounts, a_letters, a_values, a_limits, a_switches, a_tool, a_inForce, a_origins, a_given, a_rows, a_probe, a_motions, a_thirds, a_centres, a_steps, a_paces, a_dwells, a_marks, a_nexts, a_joints) (f_lines, f_fastest, f_gain, f_bend, f_ahead, sp, (nI N), f_mode, y_line, f_pace, y_left, y_went, f_stepsInAll, f_ticksInAll, u, v, f_holds, a_letters, a_values, a_wordCounts, a_tool, a_began, a_limits, a_switches, F, O, he, hs, gr, wd, fr, to, st, pc, dw, en, tu, fi, se, ce, y_direction) := by
      intro N sp u v F O he hs gr wd fr to st pc dw en tu fi se ce h1
      exact rl_mk ⟨⟨⟨l, hl30, el⟩, wf, hT, hi, fun g hg => ⟨(hF g hg).1, h1 g hg⟩, C2⟩, Or.inl (rl_st R m)⟩
    refine br_c (fun a => yp _ (fun N r hR sp u v F O he hs gr wd fr to st pc dw en tu fi se ce h1 h2 => yl_in (fun z _ => absurd a (Int32.not_lt.mpr z)) (fun _ => br_t rfl ⟨rfl, relY _ _ _ _ _ _ _ _ _ _ _ _ _ _ _ _ _ _ _ _ h1⟩))) (fun a => br_c (fun b => yp _ (fun N r hR sp u v F O he hs gr wd fr to st pc dw en tu fi se ce h1 h2 => yl_in (fun _ z => absurd z (e2.mp b)) (fun _ => br_t rfl ⟨rfl, relY _ _ _ _ _ _ _ _ _ _ _ _ _ _ _ _ _ _ _ _ h1⟩))) (fun b => ?_))
    have a' : 0 ≤ v2 := Int32.not_lt.mp a
    have b' : v2 ≤ 2 := Decidable.byContradiction (fun z => b (e2.mpr z))
    refine br_c (fun c => ?_) (fun c => yp _ (fun N r hR sp u v F O he hs gr wd fr to st pc dw en tu fi se ce h1 h2 => yl_in (fun _ _ => br_f (by decide) (br_t (Int32.not_le.mp c) ⟨rfl, relY _ _ _ _ _ _ _ _ _ _ _ _ _ _ _ _ _ _ _ _ h1⟩)) (fun n => absurd ⟨a', b'⟩ n)))
    refine xz_lo m hl30 el wf hT (fun g hg => (hF g hg).1) (fun N r hR sp pr F O G Ro P MO TH CE ST PC DW MK hFh hXL => ?_)
    have relXY : ∀ N' sp' u v F' O' he hs gr wd fr to st pc dw en tu fi se ce, (∀ g, 6 ≤ g → F' g = 0) → i_Rel (k + 4) (f_lines, f_fastest, f_gain, f_bend, f_ahead, f_mode, f_holds, f_pace, f_line, f_gone, f_dwellLeft, f_stepsInAll, f_ticksInAll, sp, pr, (nI N), a_wordCounts, a_letters, a_values, a_limits, a_switches, a_tool, F, O, G, Ro, P, MO, TH, CE, ST, PC, DW, MK, a_nexts, a_joints) (f_lines, f_fastest, f_gain, f_bend, f_ahead, sp', (nI N'), f_mode, y_line, f_pace, y_left, y_went, f_stepsInAll, f_ticksInAll, u, v, f_holds, a_letters, a_values, a_wordCounts, a_tool, a_began, a_limits, a_switches, F', O', he, hs, gr, wd, fr, to, st, pc, dw, en, tu, fi, se, ce, y_direction) := by
      intro N' sp' u v F' O' he hs gr wd fr to st pc dw en tu fi se ce h1
      exact rl_mk ⟨⟨⟨l, hl30, el⟩, wf, hT, hi, fun g hg => ⟨hFh g hg, h1 g hg⟩, C2⟩, Or.inl (rl_st R m)⟩
    have N30 : N ≤ 30 := Nat.le_trans hR.1 hl30
    refine br_c (fun d => ?_) (fun d => yp _ (fun N' r' hR' sp' u v F' O' he hs gr wd fr to st pc dw en tu fi se ce h1 h2 => ?_))
    · refine ⟨?_, yp _ (fun N' r' hR' sp' u v F' O' he hs gr wd fr to st pc dw en tu fi se ce h1 h2 => ?_)⟩
      · obtain ⟨q, q1, q2⟩ := nI_of (x := v1) (Int32.not_lt.mpr c)
        obtain ⟨a0, a1', a2⟩ := nI_of (x := v2) (Int32.not_lt.mpr a')
        subst q2 a2
        have hq : q < N := (nI_ltI (by omega) (by omega)).mp d
        have ha : a0 ≤ 2 := (nI_leI (b := 2) (by omega) (by omega)).mp b'
        rw [ix_3s]
        exact vp_in_nI (by omega) (by omega)
      · obtain ⟨eN, _⟩ := ci_Ru hR' hR
        subst eN
        obtain ⟨i1, i2, i3⟩ := ans a_tool to Ro N' N30 h2 hXL.1 c a' b' d
        exact yl_in (fun _ _ => br_f (by decide) (br_f (Int32.not_lt.mpr c) (br_t d ⟨i2, i3, relXY _ _ _ _ _ _ _ _ _ _ _ _ _ _ _ _ _ _ _ _ h1⟩))) (fun n => absurd ⟨a', b'⟩ n)
    · obtain ⟨eN, _⟩ := ci_Ru hR' hR
      subst eN
      exact yl_in (fun _ _ => br_f (by decide) (br_f (Int32.not_lt.mpr c) (br_f d ⟨rfl, relXY _ _ _ _ _ _ _ _ _ _ _ _ _ _ _ _ _ _ _ _ h1⟩))) (fun n => absurd ⟨a', b'⟩ n)
  · obtain ⟨N, n, Lh, W⟩ := rl_rn R m
    obtain ⟨⟨l', _, el', hR⟩, K, hX, hY⟩ := Lh
    have ell : l = l' := (nI_eq (by omega) (by omega)).mp (el.symm.trans el')
    subst ell
    have N30 : N ≤ 30 := K.2.2.2.2.1
    have yp : ∀ (PY : Int32 → SY → Prop), (∀ sp u v F O he hs gr wd fr to st pc dw en tu fi se ce, yz_T a_letters a_values a_wordCounts a_began N to → i_Rel (k + 4) (f_lines, f_fastest, f_gain, f_bend, f_ahead, f_mode, f_holds, f_pace, f_line, f_gone, f_dwellLeft, f_stepsInAll, f_ticksInAll, f_speed, f_present, f_laid, a_wordCounts, a_letters, a_values, a_limits, a_switches, a_tool, a_inForce, a_origins, a_given, a_rows, a_probe, a_motions, a_thirds, a_centres, a_steps, a_paces, a_dwells, a_marks, a_nexts, a_joints) (f_lines, f_fastest, f_gain, f_bend, f_ahead, sp, (nI N), f_mode, y_line, f_pace, y_left, y_went, f_stepsInAll, f_ticksInAll, u, v, f_holds, a_letters, a_values, a_wordCounts, a_tool, a_began, a_limits, a_switches, F, O, he, hs, gr, wd, fr, to, st, pc, dw, en, tu, fi, se, ce, y_direction) → PY 0 (f_lines, f_fastest, f_gain, f_bend, f_ahead, sp, (nI N), f_mode, y_line, f_pace, y_left, y_went, f_stepsInAll, f_ticksInAll, u, v, f_holds, a_letters, a_values, a_wordCounts, a_tool, a_began, a_limits, a_switches, F, O, he, hs, gr, wd, fr, to, st, pc, dw, en, tu, fi, se, ce, y_direction)) → wpY_plan PY (f_lines, f_fastest, f_gain, f_bend, f_ahead, y_speed, y_seen, f_mode, y_line, f_pace, y_left, y_went, f_stepsInAll, f_ticksInAll, y_u, y_v, f_holds, a_letters, a_values, a_wordCounts, a_tool, a_began, a_limits, a_switches, y_force, y_origins, y_here, y_has, y_grouped, y_word, y_from, y_to, y_steps, y_paces, y_dwells, y_ends, y_turn, y_first, y_second, y_centre, y_direction) := by
      intro PY h
      refine yz_pl (s0 := a_began) hl30 el wf K.2.1 (fun g hg => (hF g hg).2) (Or.inr ⟨m, fun _ _ => rfl⟩) (fun N' r' hR' sp' u' v' F' O' he' hs' gr' wd' fr' to' st' pc' dw' en' tu' fi' se' ce' hFh' hTo hL => ?_)
      obtain ⟨eN, e⟩ := ci_Ru hR' hR
      subst eN e
      exact h _ _ _ _ _ _ _ _ _ _ _ _ _ _ _ _ _ _ _ hTo (rl_mk ⟨⟨⟨l, hl30, el⟩, wf, hT, hi, fun g hg => ⟨(hF g hg).1, hFh' g hg⟩, C2⟩, Or.inr ⟨N', n, ⟨⟨l, hl30, el, hR⟩, K, hX, rfl, hL rfl⟩, W⟩⟩)
    unfold wpX_layOut
    refine br_c (fun a => yp _ (fun sp u v F O he hs gr wd fr to st pc dw en tu fi se ce h1 h2 => yl_in (fun z _ => absurd a (Int32.not_lt.mpr z)) (fun _ => br_t rfl ⟨rfl, h2⟩))) (fun a => br_c (fun b => yp _ (fun sp u v F O he hs gr wd fr to st pc dw en tu fi se ce h1 h2 => yl_in (fun _ z => absurd z (e2.mp b)) (fun _ => br_t rfl ⟨rfl, h2⟩))) (fun b => ?_))
    have a' : 0 ≤ v2 := Int32.not_lt.mp a
    have b' : v2 ≤ 2 := Decidable.byContradiction (fun z => b (e2.mpr z))
    refine br_c (fun c => br_f m ?_) (fun c => yp _ (fun sp u v F O he hs gr wd fr to st pc dw en tu fi se ce h1 h2 => yl_in (fun _ _ => br_f (by decide) (br_t (Int32.not_le.mp c) ⟨rfl, h2⟩)) (fun n => absurd ⟨a', b'⟩ n)))
    dsimp only
    have eL := hX.1
    refine br_c (fun d0 => ⟨?_, yp _ (fun sp u v F O he hs gr wd fr to st pc dw en tu fi se ce h1 h2 => ?_)⟩) (fun d0 => yp _ (fun sp u v F O he hs gr wd fr to st pc dw en tu fi se ce h1 h2 => ?_))
    · have d : v1 < nI N := eL ▸ d0
      obtain ⟨q, q1, q2⟩ := nI_of (x := v1) (Int32.not_lt.mpr c)
      obtain ⟨a0, a1', a2⟩ := nI_of (x := v2) (Int32.not_lt.mpr a')
      subst q2 a2
      have hq : q < N := (nI_ltI (by omega) (by omega)).mp d
      have ha : a0 ≤ 2 := (nI_leI (b := 2) (by omega) (by omega)).mp b'
      rw [ix_3s]
      exact vp_in_nI (by omega) (by omega)
    · have d : v1 < nI N := eL ▸ d0
      obtain ⟨i1, i2, i3⟩ := ans a_began to a_rows N N30 h1 hX.2.1.1 c a' b' d
      exact yl_in (fun _ _ => br_f (by decide) (br_f (Int32.not_lt.mpr c) (br_t d ⟨i2, i3, h2⟩))) (fun n => absurd ⟨a', b'⟩ n)
    · have d : ¬ v1 < nI N := eL ▸ d0
      exact yl_in (fun _ _ => br_f (by decide) (br_f (Int32.not_lt.mpr c) (br_f d ⟨rfl, h2⟩))) (fun n => absurd ⟨a', b'⟩ n)
end PLC
end
section
section STC
section
variable {f_lines f_fastest f_gain f_bend f_ahead f_mode f_holds f_pace f_line f_gone f_dwellLeft f_stepsInAll f_ticksInAll f_speed f_present f_laid : Int32} {a_wordCounts a_letters a_values a_limits a_switches a_tool a_inForce a_origins a_given a_rows a_probe a_motions a_thirds a_centres a_steps a_paces a_dwells a_marks a_nexts a_joints : Nat → Int32} {a_began : Nat → Int32}
/-- what begins at line k: X first, the reference for any arrays of its own -/
theorem bg_s {N k : Nat} (C0 : ∀ y_force : Nat → Int32, (∀ g, 6 ≤ g → y_force g = 0) → rl_C f_lines f_fastest f_gain f_bend f_ahead a_wordCounts a_letters a_values a_limits a_tool a_inForce a_began y_force)
    (cl : ∃ l, l ≤ 30 ∧ f_lines = nI l ∧ ci_R a_letters a_values a_wordCounts a_limits a_began l N 0) (K : rn_K a_letters a_values a_wordCounts a_limits a_began f_fastest f_bend N)
    (hX : xr_ a_letters a_values a_wordCounts a_limits a_began f_fastest f_bend N f_laid a_rows a_motions a_thirds a_centres a_steps a_paces a_dwells a_marks a_nexts a_joints)
    (hk : k ≤ N) (hT : ∀ a, a < 3 → a_tool a = px_he a_letters a_values a_wordCounts a_began k a) (hp : f_pace = 0) :
    ∃ u', (∀ PX : SX → Prop, PX u' → wpX_beginAt PX (f_lines, f_fastest, f_gain, f_bend, f_ahead, f_mode, f_holds, f_pace, f_line, f_gone, f_dwellLeft, f_stepsInAll, f_ticksInAll, f_speed, f_present, f_laid, a_wordCounts, a_letters, a_values, a_limits, a_switches, a_tool, a_inForce, a_origins, a_given, a_rows, a_probe, a_motions, a_thirds, a_centres, a_steps, a_paces, a_dwells, a_marks, a_nexts, a_joints) (nI k)) ∧
      ∀ (y_speed y_seen y_line y_left y_went : Int32) (y_force y_origins y_here y_has y_grouped y_word y_from y_to y_steps y_paces y_dwells y_ends y_turn y_first y_second y_centre : Nat → Int32), (∀ g, 6 ≤ g → y_force g = 0) → yr_ a_letters a_values a_wordCounts a_limits a_began f_fastest N y_seen y_from y_to y_steps y_paces y_dwells y_ends y_turn y_first y_second y_centre →
        ∃ w', rl_V u' w' ∧ (∀ (PY : SY → Prop) y_u y_v y_direction, PY (w' y_u y_v y_direction) → wpY_begin PY (f_lines, f_fastest, f_gain, f_bend, f_ahead, y_speed, y_seen, f_mode, y_line, f_pace, y_left, y_went, f_stepsInAll, f_ticksInAll, y_u, y_v, f_holds, a_letters, a_values, a_wordCounts, a_tool, a_began, a_limits, a_switches, y_force, y_origins, y_here, y_has, y_grouped, y_word, y_from, y_to, y_steps, y_paces, y_dwells, y_ends, y_turn, y_first, y_second, y_centre, y_direction) (nI k) 0) := by
  subst hp
  by_cases r0 : (rn_b a_letters a_values a_wordCounts a_limits a_began N k).1 = 0
  · refine ⟨(f_lines, f_fastest, f_gain, f_bend, f_ahead, 0, 0, 0, (if k < N then nI (N - 1) else f_line), f_gone, f_dwellLeft, f_stepsInAll, f_ticksInAll, f_speed, f_present, f_laid, a_wordCounts, a_letters, a_values, a_limits, a_switches, a_tool, a_inForce, a_origins, a_given, a_rows, a_probe, a_motions, a_thirds, a_centres, a_steps, a_paces, a_dwells, a_marks, a_nexts, a_joints), fun PX h => ?_, fun y_speed y_seen y_line y_left y_went y_force y_origins y_here y_has y_grouped y_word y_from y_to y_steps y_paces y_dwells y_ends y_turn y_first y_second y_centre hfo hY => ⟨(fun y_u y_v y_direction => (f_lines, f_fastest, f_gain, f_bend, f_ahead, y_speed, y_seen, 0, (-1), 0, 0, (if k < N then 0 else y_went), f_stepsInAll, f_ticksInAll, y_u, y_v, 0, a_letters, a_values, a_wordCounts, a_tool, a_began, a_limits, a_switches, y_force, y_origins, y_here, y_has, y_grouped, y_word, y_from, y_to, y_steps, y_paces, y_dwells, y_ends, y_turn, y_first, y_second, y_centre, y_direction)), ?_, fun PY s1 s2 s3 h => ?_⟩⟩
    · exact xb_ba K hX.1 hX.2.1 hk (fun _ => h) (fun m e => (rb_no e r0 (by decide)).elim) (fun m e => (rb_no e r0 (by decide)).elim) (fun m e => (rb_no e r0 (by decide)).elim)
    · exact ⟨f_lines, f_fastest, f_gain, f_bend, f_ahead, 0, 0, 0, _, f_gone, f_dwellLeft, f_stepsInAll, f_ticksInAll, f_speed, f_present, f_laid, y_speed, y_seen, (-1), 0, _, a_wordCounts, a_letters, a_values, a_limits, a_switches, a_tool, a_inForce, a_origins, a_given, a_rows, a_probe, a_motions, a_thirds, a_centres, a_steps, a_paces, a_dwells, a_marks, a_nexts, a_joints, a_began, y_force, y_origins, y_here, y_has, y_grouped, y_word, y_from, y_to, y_steps, y_paces, y_dwells, y_ends, y_turn, y_first, y_second, y_centre, rfl, rfl, C0 _ hfo, Or.inl ⟨rfl, rfl, rfl, rfl, rfl⟩⟩
    · exact yb_b0 K hY hk (fun _ => h) (fun m e => (rb_no e r0 (by decide)).elim) (fun m e => (rb_no e r0 (by decide)).elim) (fun m e => (rb_no e r0 (by decide)).elim)
  · obtain ⟨r, m, er⟩ : ∃ r m, rn_b a_letters a_values a_wordCounts a_limits a_began N k = (r, m) := ⟨_, _, rfl⟩
    have hr : ¬ r = 0 := by rw [er] at r0; exact r0
    obtain ⟨⟨f1, f2⟩, f3, f4⟩ := rb_f 31 k r m er hr
    have he : ∀ a, a < 3 → a_tool a = px_he a_letters a_values a_wordCounts a_began m a := fun a ha => (hT a ha).trans (rl_mid K (by omega) f3 ha f1).symm
    rcases f4 with ⟨e1, s1⟩ | ⟨e1, s1, d1⟩ | ⟨e1, s1, d1⟩
    · subst e1
      refine ⟨(f_lines, f_fastest, f_gain, f_bend, f_ahead, 1, f_holds, 0, (nI m), 0, f_dwellLeft, f_stepsInAll, f_ticksInAll, f_speed, f_present, f_laid, a_wordCounts, a_letters, a_values, a_limits, a_switches, a_tool, a_inForce, a_origins, a_given, a_rows, a_probe, a_motions, a_thirds, a_centres, a_steps, a_paces, a_dwells, a_marks, a_nexts, a_joints), fun PX h => ?_, fun y_speed y_seen y_line y_left y_went y_force y_origins y_here y_has y_grouped y_word y_from y_to y_steps y_paces y_dwells y_ends y_turn y_first y_second y_centre hfo hY => ⟨(fun y_u y_v y_direction => (f_lines, f_fastest, f_gain, f_bend, f_ahead, y_speed, y_seen, 1, (nI m), 0, 0, 0, f_stepsInAll, f_ticksInAll, y_u, y_v, f_holds, a_letters, a_values, a_wordCounts, a_tool, a_began, a_limits, a_switches, y_force, y_origins, y_here, y_has, y_grouped, y_word, y_from, y_to, y_steps, y_paces, y_dwells, y_ends, y_turn, y_first, y_second, y_centre, y_direction)), ?_, fun PY s1 s2 s3 h => ?_⟩⟩
      · exact xb_ba K hX.1 hX.2.1 hk (fun e => absurd e r0) (fun m' e => by rw [er] at e; rw [← (Prod.mk.inj e).2]; exact h) (fun m' e => by rw [er] at e; exact absurd (Prod.mk.inj e).1 (by decide)) (fun m' e => by rw [er] at e; exact absurd (Prod.mk.inj e).1 (by decide))
      · refine ⟨f_lines, f_fastest, f_gain, f_bend, f_ahead, 1, f_holds, 0, (nI m), 0, f_dwellLeft, f_stepsInAll, f_ticksInAll, f_speed, f_present, f_laid, y_speed, y_seen, (nI m), 0, 0, a_wordCounts, a_letters, a_values, a_limits, a_switches, a_tool, a_inForce, a_origins, a_given, a_rows, a_probe, a_motions, a_thirds, a_centres, a_steps, a_paces, a_dwells, a_marks, a_nexts, a_joints, a_began, y_force, y_origins, y_here, y_has, y_grouped, y_word, y_from, y_to, y_steps, y_paces, y_dwells, y_ends, y_turn, y_first, y_second, y_centre, rfl, rfl, C0 _ hfo, Or.inr ⟨N, m, ⟨cl, K, hX, hY⟩, f2, rfl, rfl, Or.inl ⟨rfl, s1, rfl, 0, 0, by omega, by omega, rfl, rfl, rfl, fun a ha => ?_⟩⟩⟩
        rw [he a ha]
        unfold rs_v
        rw [Nat.zero_div, rs_0 s1, ii_t]
      · exact yb_b0 K hY hk (fun e => absurd e r0) (fun m' e => by rw [er] at e; rw [← (Prod.mk.inj e).2]; exact h) (fun m' e => by rw [er] at e; exact absurd (Prod.mk.inj e).1 (by decide)) (fun m' e => by rw [er] at e; exact absurd (Prod.mk.inj e).1 (by decide))
    · subst e1
      refine ⟨(f_lines, f_fastest, f_gain, f_bend, f_ahead, 2, f_holds, 0, (nI m), f_gone, (px_dw a_letters a_values a_wordCounts a_began m), f_stepsInAll, f_ticksInAll, f_speed, f_present, f_laid, a_wordCounts, a_letters, a_values, a_limits, a_switches, a_tool, a_inForce, a_origins, a_given, a_rows, a_probe, a_motions, a_thirds, a_centres, a_steps, a_paces, a_dwells, a_marks, a_nexts, a_joints), fun PX h => ?_, fun y_speed y_seen y_line y_left y_went y_force y_origins y_here y_has y_grouped y_word y_from y_to y_steps y_paces y_dwells y_ends y_turn y_first y_second y_centre hfo hY => ⟨(fun y_u y_v y_direction => (f_lines, f_fastest, f_gain, f_bend, f_ahead, y_speed, y_seen, 2, (nI m), 0, (px_dw a_letters a_values a_wordCounts a_began m), 0, f_stepsInAll, f_ticksInAll, y_u, y_v, f_holds, a_letters, a_values, a_wordCounts, a_tool, a_began, a_limits, a_switches, y_force, y_origins, y_here, y_has, y_grouped, y_word, y_from, y_to, y_steps, y_paces, y_dwells, y_ends, y_turn, y_first, y_second, y_centre, y_direction)), ?_, fun PY s1 s2 s3 h => ?_⟩⟩
      · exact xb_ba K hX.1 hX.2.1 hk (fun e => absurd e r0) (fun m' e => by rw [er] at e; exact absurd (Prod.mk.inj e).1 (by decide)) (fun m' e => by rw [er] at e; rw [← (Prod.mk.inj e).2]; exact h) (fun m' e => by rw [er] at e; exact absurd (Prod.mk.inj e).1 (by decide))
      · refine ⟨f_lines, f_fastest, f_gain, f_bend, f_ahead, 2, f_holds, 0, (nI m), f_gone, (px_dw a_letters a_values a_wordCounts a_began m), f_stepsInAll, f_ticksInAll, f_speed, f_present, f_laid, y_speed, y_seen, (nI m), (px_dw a_letters a_values a_wordCounts a_began m), 0, a_wordCounts, a_letters, a_values, a_limits, a_switches, a_tool, a_inForce, a_origins, a_given, a_rows, a_probe, a_motions, a_thirds, a_centres, a_steps, a_paces, a_dwells, a_marks, a_nexts, a_joints, a_began, y_force, y_origins, y_here, y_has, y_grouped, y_word, y_from, y_to, y_steps, y_paces, y_dwells, y_ends, y_turn, y_first, y_second, y_centre, rfl, rfl, C0 _ hfo, Or.inr ⟨N, m, ⟨cl, K, hX, hY⟩, f2, rfl, rfl, Or.inr (Or.inr (Or.inl ⟨rfl, rfl, rfl, fun a ha => ?_⟩))⟩⟩
        rw [he a ha, rs_s0 K f2 s1 ha]
      · exact yb_b0 K hY hk (fun e => absurd e r0) (fun m' e => by rw [er] at e; exact absurd (Prod.mk.inj e).1 (by decide)) (fun m' e => by rw [er] at e; rw [← (Prod.mk.inj e).2]; exact h) (fun m' e => by rw [er] at e; exact absurd (Prod.mk.inj e).1 (by decide))
    · subst e1
      refine ⟨(f_lines, f_fastest, f_gain, f_bend, f_ahead, 3, 0, 0, (nI m), f_gone, f_dwellLeft, f_stepsInAll, f_ticksInAll, f_speed, f_present, f_laid, a_wordCounts, a_letters, a_values, a_limits, a_switches, a_tool, a_inForce, a_origins, a_given, a_rows, a_probe, a_motions, a_thirds, a_centres, a_steps, a_paces, a_dwells, a_marks, a_nexts, a_joints), fun PX h => ?_, fun y_speed y_seen y_line y_left y_went y_force y_origins y_here y_has y_grouped y_word y_from y_to y_steps y_paces y_dwells y_ends y_turn y_first y_second y_centre hfo hY => ⟨(fun y_u y_v y_direction => (f_lines, f_fastest, f_gain, f_bend, f_ahead, y_speed, y_seen, 3, (nI m), 0, 0, 0, f_stepsInAll, f_ticksInAll, y_u, y_v, 0, a_letters, a_values, a_wordCounts, a_tool, a_began, a_limits, a_switches, y_force, y_origins, y_here, y_has, y_grouped, y_word, y_from, y_to, y_steps, y_paces, y_dwells, y_ends, y_turn, y_first, y_second, y_centre, y_direction)), ?_, fun PY s1 s2 s3 h => ?_⟩⟩
      · exact xb_ba K hX.1 hX.2.1 hk (fun e => absurd e r0) (fun m' e => by rw [er] at e; exact absurd (Prod.mk.inj e).1 (by decide)) (fun m' e => by rw [er] at e; exact absurd (Prod.mk.inj e).1 (by decide)) (fun m' e => by rw [er] at e; rw [← (Prod.mk.inj e).2]; exact h)
      · refine ⟨f_lines, f_fastest, f_gain, f_bend, f_ahead, 3, 0, 0, (nI m), f_gone, f_dwellLeft, f_stepsInAll, f_ticksInAll, f_speed, f_present, f_laid, y_speed, y_seen, (nI m), 0, 0, a_wordCounts, a_letters, a_values, a_limits, a_switches, a_tool, a_inForce, a_origins, a_given, a_rows, a_probe, a_motions, a_thirds, a_centres, a_steps, a_paces, a_dwells, a_marks, a_nexts, a_joints, a_began, y_force, y_origins, y_here, y_has, y_grouped, y_word, y_from, y_to, y_steps, y_paces, y_dwells, y_ends, y_turn, y_first, y_second, y_centre, rfl, rfl, C0 _ hfo, Or.inr ⟨N, m, ⟨cl, K, hX, hY⟩, f2, rfl, rfl, Or.inr (Or.inr (Or.inr ⟨rfl, rfl, rfl, rfl, fun a ha => ?_⟩))⟩⟩
        rw [he a ha, rs_s0 K f2 s1 ha]
      · exact yb_b0 K hY hk (fun e => absurd e r0) (fun m' e => by rw [er] at e; exact absurd (Prod.mk.inj e).1 (by decide)) (fun m' e => by rw [er] at e; exact absurd (Prod.mk.inj e).1 (by decide)) (fun m' e => by rw [er] at e; rw [← (Prod.mk.inj e).2]; exact h)
end
theorem i_vc_start {k : Nat} {u : SX} {v : SY} (I : i_Rel k u v) (hk : k + 4 ≤ 2048) : wpX_start (fun r u' => wpY_start (fun r' v' => r' = r ∧ i_Rel (k + 4) u' v') v) u := by
  obtain ⟨w, y_u, y_v, y_direction, ⟨f_lines, f_fastest, f_gain, f_bend, f_ahead, f_mode, f_holds, f_pace, f_line, f_gone, f_dwellLeft, f_stepsInAll, f_ticksInAll, f_speed, f_present, f_laid, y_speed, y_seen, y_line, y_left, y_went, a_wordCounts, a_letters, a_values, a_limits, a_switches, a_tool, a_inForce, a_origins, a_given, a_rows, a_probe, a_motions, a_thirds, a_centres, a_steps, a_paces, a_dwells, a_marks, a_nexts, a_joints, a_began, y_force, y_origins, y_here, y_has, y_grouped, y_word, y_from, y_to, y_steps, y_paces, y_dwells, y_ends, y_turn, y_first, y_second, y_centre, rfl, rfl, R⟩, rfl⟩ := I
  obtain ⟨⟨l, hl30, el⟩, wf, hT, hi, hF, C2⟩ := R.1
  dsimp only
  unfold wpX_start
  dsimp only
  refine br_c (fun m => br_c (fun l0 => br_t m (br_t l0 ⟨rfl, rl_mk R⟩)) (fun l0 => ?_)) (fun m => br_f m ⟨rfl, rl_mk R⟩)
  refine xz_lo m hl30 el wf hT (fun g hg => (hF g hg).1) (fun N r hR sp pr F O G Ro P MO TH CE ST PC DW MK hFh hXL => ?_)
  -- the reference up to the end of its plan
  have yp : ∀ (PY : Int32 → SY → Prop), (∀ sp' u' v' F' O' he' hs' gr' wd' fr' to' st' pc' dw' en' tu' fi' se' ce', (∀ g, 6 ≤ g → F' g = 0) → (r = 0 → yz_L a_letters a_values a_wordCounts a_limits f_fastest a_tool N fr' to' st' pc' dw' en' tu' fi' se' ce') →
      ((r ≤ 0 → ∃ n25, wY_start_25 PY f_lines f_fastest f_gain f_bend f_ahead sp' (nI N) f_mode y_line f_pace y_left y_went f_stepsInAll f_ticksInAll u' v' f_holds n25 0 a_letters a_values a_wordCounts a_tool a_began a_limits a_switches F' O' he' hs' gr' wd' fr' to' st' pc' dw' en' tu' fi' se' ce' y_direction) ∧
       (¬ r ≤ 0 → PY 0 (f_lines, f_fastest, f_gain, f_bend, f_ahead, sp', (nI N), f_mode, y_line, f_pace, y_left, y_went, f_stepsInAll, f_ticksInAll, u', v', f_holds, a_letters, a_values, a_wordCounts, a_tool, a_began, a_limits, a_switches, F', O', he', hs', gr', wd', fr', to', st', pc', dw', en', tu', fi', se', ce', y_direction)))) → wpY_start PY (f_lines, f_fastest, f_gain, f_bend, f_ahead, y_speed, y_seen, f_mode, y_line, f_pace, y_left, y_went, f_stepsInAll, f_ticksInAll, y_u, y_v, f_holds, a_letters, a_values, a_wordCounts, a_tool, a_began, a_limits, a_switches, y_force, y_origins, y_here, y_has, y_grouped, y_word, y_from, y_to, y_steps, y_paces, y_dwells, y_ends, y_turn, y_first, y_second, y_centre, y_direction) := by
    intro PY h
    unfold wpY_start
    refine br_t m (br_f l0 ?_)
    refine yz_pl (s0 := a_tool) hl30 el wf hT (fun g hg => (hF g hg).2) (Or.inl ⟨m, fun _ _ => rfl⟩) (fun N' r' hR' sp' u' v' F' O' he' hs' gr' wd' fr' to' st' pc' dw' en' tu' fi' se' ce' hFh' _ hL => ?_)
    obtain ⟨eN, e⟩ := ci_Ru hR' hR
    subst eN e
    exact h _ _ _ _ _ _ _ _ _ _ _ _ _ _ _ _ _ _ _ hFh' hL
  refine br_c (fun r0 => ?_) (fun r0 => yp _ (fun sp' u' v' F' O' he' hs' gr' wd' fr' to' st' pc' dw' en' tu' fi' se' ce' hFh' hL => br_f (ci_Rp hl30 hR r0) ⟨rfl, rl_mk ⟨⟨⟨l, hl30, el⟩, wf, hT, hi, fun g hg => ⟨hFh g hg, hFh' g hg⟩, C2⟩, Or.inl (rl_st R m)⟩⟩))
  subst r0
  have N30 : N ≤ 30 := Nat.le_trans hR.1 hl30
  have K : rn_K a_letters a_values a_wordCounts a_limits a_tool f_fastest f_bend N := ⟨wf, hT, C2.1, C2.2.2.1, N30, hR.2.1, hR.2.2.1⟩
  refine xf_fj rfl K hXL (fun NX JO hX => ?_)
  have eb : ∀ b : Nat → Int32, (∀ a, ¬ a < 3 → b a = 0) → upd (upd (upd b 0 (a_tool 0)) 1 (a_tool 1)) 2 (a_tool 2) = a_tool := by
    intro b hb
    funext a
    by_cases e2 : a = 2
    · subst e2; exact pk_us
    rw [pk_un e2]
    by_cases e1 : a = 1
    · subst e1; exact pk_us
    rw [pk_un e1]
    by_cases e0 : a = 0
    · subst e0; exact pk_us
    rw [pk_un e0, hb a (by omega), (hi a (by omega)).1]
  have S0 := rl_st R m
  obtain ⟨u', BX, rest⟩ := bg_s (a_began := a_tool) (f_mode := f_mode) (f_holds := f_holds) (f_pace := f_pace) (f_line := f_line) (f_gone := f_gone) (f_dwellLeft := f_dwellLeft) (f_stepsInAll := f_stepsInAll) (f_ticksInAll := f_ticksInAll) (f_speed := sp) (f_present := pr) (a_switches := a_switches) (a_origins := O) (a_given := G) (a_probe := P) (a_inForce := F) (a_tool := a_tool) (k := 0)
    (fun yf hyf => ⟨⟨l, hl30, el⟩, wf, hT, fun a ha => ⟨(hi a ha).1, (hi a ha).1⟩, fun g hg => ⟨hFh g hg, hyf g hg⟩, C2⟩) ⟨l, hl30, el, hR⟩ K hX (Nat.zero_le _) (fun a _ => rfl) S0.2.2.1
  refine BX _ ?_
  obtain ⟨x_lines, x_f1, x_f2, x_f3, x_f4, x_mode, x_f5, x_f6, x_f7, x_f8, x_f9, x_g1, x_g2, x_g3, x_g4, x_g5, x_a1, x_a2, x_a3, x_a4, x_a5, x_a6, x_a7, x_a8, x_a9, x_b1, x_b2, x_b3, x_b4, x_b5, x_b6, x_b7, x_b8, x_b9, x_c1, x_c2⟩ := u'
  dsimp only
  refine yp _ (fun sp' u' v' F' O' he' hs' gr' wd' fr' to' st' pc' dw' en' tu' fi' se' ce' hFh' hL => br_t (by decide) ⟨4, ?_⟩)
  obtain ⟨w', V, BY⟩ := rest sp' (nI N) y_line y_left y_went F' O' he' hs' gr' wd' fr' to' st' pc' dw' en' tu' fi' se' ce' hFh' ⟨rfl, hL rfl⟩
  have cl0 : (nI 0).toNatClampNeg = 0 := nI_clamp (by decide)
  have cl1 : (nI 1).toNatClampNeg = 1 := nI_clamp (by decide)
  have cl2 : (nI 2).toNatClampNeg = 2 := nI_clamp (by decide)
  have j0 : vp_in (nI 0) 3 := vp_in_nI (by decide) (by decide)
  have j1 : vp_in (nI 1) 3 := vp_in_nI (by decide) (by decide)
  have j2 : vp_in (nI 2) 3 := vp_in_nI (by decide) (by decide)
  refine br_f (ix_3a (a := 0) (by decide)) ⟨j0, j0, nm_e (nm_r (nI_1 0) (br_f (ix_3a (a := 1) (by decide)) ⟨j1, j1, nm_e (nm_r (nI_1 1) (br_f (ix_3a (a := 2) (by decide)) ⟨j2, j2, nm_e (nm_r (nI_1 2) (br_t ix_33 ?_))⟩))⟩))⟩
  rw [cl1, cl2, show (0 : Int32).toNatClampNeg = 0 from by decide, eb a_began (fun a ha => (hi a ha).2)]
  refine BY _ u' v' y_direction ?_
  have hRel : i_Rel (k + 4) (x_lines, x_f1, x_f2, x_f3, x_f4, x_mode, x_f5, x_f6, x_f7, x_f8, x_f9, x_g1, x_g2, x_g3, x_g4, x_g5, x_a1, x_a2, x_a3, x_a4, x_a5, x_a6, x_a7, x_a8, x_a9, x_b1, x_b2, x_b3, x_b4, x_b5, x_b6, x_b7, x_b8, x_b9, x_c1, x_c2) (w' u' v' y_direction) := ⟨w', u', v', y_direction, V, rfl⟩
  generalize w' u' v' y_direction = vv at hRel ⊢
  obtain ⟨f_lines, f_fastest, f_gain, f_bend, f_ahead, f_speed, f_seen, f_state, f_line, f_pace, f_left, f_went, f_allSteps, f_allTicks, f_u, f_v, f_holds, a_letters, a_values, a_many, a_tool, a_began, a_limit, a_trips, a_force, a_origins, a_here, a_has, a_grouped, a_word, a_from, a_to, a_steps, a_paces, a_dwells, a_ends, a_turn, a_first, a_second, a_centre, a_direction⟩ := vv
  exact ⟨rfl, hRel⟩
end STC
end
section
section ADV
def ad_X (PX : Int32 → SX → Prop) (x1 x2 : Int32) (f : Nat) (x3 : Int32) (u : SX) : Prop := match u with | (f_lines, f_fastest, f_gain, f_bend, f_ahead, f_mode, f_holds, f_pace, f_line, f_gone, f_dwellLeft, f_stepsInAll, f_ticksInAll, f_speed, f_present, f_laid, a_wordCounts, a_letters, a_values, a_limits, a_switches, a_tool, a_inForce, a_origins, a_given, a_rows, a_probe, a_motions, a_thirds, a_centres, a_steps, a_paces, a_dwells, a_marks, a_nexts, a_joints) => wX_advance_20 PX x1 x2 f x3 f_lines f_fastest f_gain f_bend f_ahead f_mode f_holds f_pace f_line f_gone f_dwellLeft f_stepsInAll f_ticksInAll f_speed f_present f_laid a_wordCounts a_letters a_values a_limits a_switches a_tool a_inForce a_origins a_given a_rows a_probe a_motions a_thirds a_centres a_steps a_paces a_dwells a_marks a_nexts a_joints
def ad_Y (PY : Int32 → SY → Prop) (x1 x2 : Int32) (f : Nat) (x3 : Int32) (v : SY) : Prop := match v with | (f_lines, f_fastest, f_gain, f_bend, f_ahead, f_speed, f_seen, f_state, f_line, f_pace, f_left, f_went, f_allSteps, f_allTicks, f_u, f_v, f_holds, a_letters, a_values, a_many, a_tool, a_began, a_limit, a_trips, a_force, a_origins, a_here, a_has, a_grouped, a_word, a_from, a_to, a_steps, a_paces, a_dwells, a_ends, a_turn, a_first, a_second, a_centre, a_direction) => wY_advance_20 PY x1 x2 f x3 f_lines f_fastest f_gain f_bend f_ahead f_speed f_seen f_state f_line f_pace f_left f_went f_allSteps f_allTicks f_u f_v f_holds a_letters a_values a_many a_tool a_began a_limit a_trips a_force a_origins a_here a_has a_grouped a_word a_from a_to a_steps a_paces a_dwells a_ends a_turn a_first a_second a_centre a_direction
theorem ad_ {b : Nat} (hb : b ≤ 3000) : ∀ d j u w, j + d = b → rl_V u w → ∃ u' w', rl_V u' w' ∧ (∀ (PX : Int32 → SX → Prop) x2, PX (gs_X u' - x2) u' → ad_X PX (nI b) x2 (d + 1) (nI j) u) ∧
    (∀ (PY : Int32 → SY → Prop) x2 s1 s2 s3, (∀ t1 t2 t3, PY (gs_X u' - x2) (w' t1 t2 t3)) → ad_Y PY (nI b) x2 (d + 1) (nI j) (w s1 s2 s3)) := by
  intro d
  induction d with
  | zero =>
    intro j u w hj V
    obtain rfl : j = b := by omega
    refine ⟨u, w, V, fun PX x2 h => ?_, fun PY x2 s1 s2 s3 h => ?_⟩
    · obtain ⟨f_lines, f_fastest, f_gain, f_bend, f_ahead, f_mode, f_holds, f_pace, f_line, f_gone, f_dwellLeft, f_stepsInAll, f_ticksInAll, f_speed, f_present, f_laid, a_wordCounts, a_letters, a_values, a_limits, a_switches, a_tool, a_inForce, a_origins, a_given, a_rows, a_probe, a_motions, a_thirds, a_centres, a_steps, a_paces, a_dwells, a_marks, a_nexts, a_joints⟩ := u
      exact br_t (nI_le (Nat.le_refl _) (by omega)) h
    · obtain ⟨f_lines, f_fastest, f_gain, f_bend, f_ahead, f_mode, f_holds, f_pace, f_line, f_gone, f_dwellLeft, f_stepsInAll, f_ticksInAll, f_speed, f_present, f_laid, y_speed, y_seen, y_line, y_left, y_went, a_wordCounts, a_letters, a_values, a_limits, a_switches, a_tool, a_inForce, a_origins, a_given, a_rows, a_probe, a_motions, a_thirds, a_centres, a_steps, a_paces, a_dwells, a_marks, a_nexts, a_joints, a_began, y_force, y_origins, y_here, y_has, y_grouped, y_word, y_from, y_to, y_steps, y_paces, y_dwells, y_ends, y_turn, y_first, y_second, y_centre, rfl, rfl, R⟩ := V
      exact br_t (nI_le (Nat.le_refl _) (by omega)) (h s1 s2 s3)
  | succ d ih =>
    intro j u w hj V
    obtain ⟨f_lines, f_fastest, f_gain, f_bend, f_ahead, f_mode, f_holds, f_pace, f_line, f_gone, f_dwellLeft, f_stepsInAll, f_ticksInAll, f_speed, f_present, f_laid, y_speed, y_seen, y_line, y_left, y_went, a_wordCounts, a_letters, a_values, a_limits, a_switches, a_tool, a_inForce, a_origins, a_given, a_rows, a_probe, a_motions, a_thirds, a_centres, a_steps, a_paces, a_dwells, a_marks, a_nexts, a_joints, a_began, y_force, y_origins, y_here, y_has, y_grouped, y_word, y_from, y_to, y_steps, y_paces, y_dwells, y_ends, y_turn, y_first, y_second, y_centre, rfl, rfl, R⟩ := V
    obtain ⟨u1, w1, V1, TX, TY⟩ := tk_ R
    obtain ⟨u2, w2, V2, AX, AY⟩ := ih (j + 1) u1 w1 (by omega) V1
    have nl : ¬ nI b ≤ nI j := nI_ge (by omega) (by omega)
    refine ⟨u2, w2, V2, fun PX x2 h => ?_, fun PY x2 s1 s2 s3 h => ?_⟩
    · refine br_f nl (TX _ ?_)
      have a := AX PX x2 h
      obtain ⟨f_lines, f_fastest, f_gain, f_bend, f_ahead, f_mode, f_holds, f_pace, f_line, f_gone, f_dwellLeft, f_stepsInAll, f_ticksInAll, f_speed, f_present, f_laid, a_wordCounts, a_letters, a_values, a_limits, a_switches, a_tool, a_inForce, a_origins, a_given, a_rows, a_probe, a_motions, a_thirds, a_centres, a_steps, a_paces, a_dwells, a_marks, a_nexts, a_joints⟩ := u1
      exact nm_r (nI_1 j) a
    · refine TY PY (nI b) x2 (d + 1) (nI j) s1 s2 s3 nl (fun t1 t2 t3 => ?_)
      have a := AY PY x2 t1 t2 t3 h
      generalize w1 t1 t2 t3 = v1 at a ⊢
      obtain ⟨f_lines, f_fastest, f_gain, f_bend, f_ahead, f_speed, f_seen, f_state, f_line, f_pace, f_left, f_went, f_allSteps, f_allTicks, f_u, f_v, f_holds, a_letters, a_values, a_many, a_tool, a_began, a_limit, a_trips, a_force, a_origins, a_here, a_has, a_grouped, a_word, a_from, a_to, a_steps, a_paces, a_dwells, a_ends, a_turn, a_first, a_second, a_centre, a_direction⟩ := v1
      rw [nI_1]
      exact a
end ADV
end
section
section ADW
theorem i_vc_advance {k : Nat} {u : SX} {v : SY} (I : i_Rel k u v) (hk : k + 4 ≤ 2048) (v1 : Int32) : wpX_advance (fun r u' => wpY_advance (fun r' v' => r' = r ∧ i_Rel (k + 4) u' v') v v1) u v1 := by
  obtain ⟨w, y_u, y_v, y_direction, V, rfl⟩ := I
  have V0 := V
  obtain ⟨f_lines, f_fastest, f_gain, f_bend, f_ahead, f_mode, f_holds, f_pace, f_line, f_gone, f_dwellLeft, f_stepsInAll, f_ticksInAll, f_speed, f_present, f_laid, y_speed, y_seen, y_line, y_left, y_went, a_wordCounts, a_letters, a_values, a_limits, a_switches, a_tool, a_inForce, a_origins, a_given, a_rows, a_probe, a_motions, a_thirds, a_centres, a_steps, a_paces, a_dwells, a_marks, a_nexts, a_joints, a_began, y_force, y_origins, y_here, y_has, y_grouped, y_word, y_from, y_to, y_steps, y_paces, y_dwells, y_ends, y_turn, y_first, y_second, y_centre, rfl, rfl, R⟩ := V
  have same : (-1 : Int32) = -1 ∧ i_Rel (k + 4) (f_lines, f_fastest, f_gain, f_bend, f_ahead, f_mode, f_holds, f_pace, f_line, f_gone, f_dwellLeft, f_stepsInAll, f_ticksInAll, f_speed, f_present, f_laid, a_wordCounts, a_letters, a_values, a_limits, a_switches, a_tool, a_inForce, a_origins, a_given, a_rows, a_probe, a_motions, a_thirds, a_centres, a_steps, a_paces, a_dwells, a_marks, a_nexts, a_joints) (f_lines, f_fastest, f_gain, f_bend, f_ahead, y_speed, y_seen, f_mode, y_line, f_pace, y_left, y_went, f_stepsInAll, f_ticksInAll, y_u, y_v, f_holds, a_letters, a_values, a_wordCounts, a_tool, a_began, a_limits, a_switches, y_force, y_origins, y_here, y_has, y_grouped, y_word, y_from, y_to, y_steps, y_paces, y_dwells, y_ends, y_turn, y_first, y_second, y_centre, y_direction) := ⟨rfl, rl_mk R⟩
  have yBad : ∀ PY : Int32 → SY → Prop, ¬ (0 ≤ v1 ∧ v1 ≤ 3000) → PY (-1) (f_lines, f_fastest, f_gain, f_bend, f_ahead, y_speed, y_seen, f_mode, y_line, f_pace, y_left, y_went, f_stepsInAll, f_ticksInAll, y_u, y_v, f_holds, a_letters, a_values, a_wordCounts, a_tool, a_began, a_limits, a_switches, y_force, y_origins, y_here, y_has, y_grouped, y_word, y_from, y_to, y_steps, y_paces, y_dwells, y_ends, y_turn, y_first, y_second, y_centre, y_direction) → wpY_advance PY (f_lines, f_fastest, f_gain, f_bend, f_ahead, y_speed, y_seen, f_mode, y_line, f_pace, y_left, y_went, f_stepsInAll, f_ticksInAll, y_u, y_v, f_holds, a_letters, a_values, a_wordCounts, a_tool, a_began, a_limits, a_switches, y_force, y_origins, y_here, y_has, y_grouped, y_word, y_from, y_to, y_steps, y_paces, y_dwells, y_ends, y_turn, y_first, y_second, y_centre, y_direction) v1 := by
    intro PY z h
    unfold wpY_advance
    exact yl_in (fun a b => absurd ⟨a, b⟩ z) (fun _ => br_t rfl h)
  by_cases a : v1 < 0
  · exact br_t a (yBad _ (fun z => Int32.not_lt.mpr z.1 a) same)
  by_cases b : v1 ≤ 3000
  case neg => exact br_f a (br_f b (yBad _ (fun z => b z.2) same))
  have a' : 0 ≤ v1 := Int32.not_lt.mp a
  obtain ⟨n, n1, n2⟩ := nI_of a
  subst n2
  have hn : n ≤ 3000 := (nI_leI (b := 3000) (by omega) (by omega)).mp b
  obtain ⟨u', w', V', AX, AY⟩ := ad_ hn n 0 _ _ (by omega) V0
  have yOk : ∀ PY : Int32 → SY → Prop, ad_Y PY (nI n) f_stepsInAll (n + 1) (nI 0) (f_lines, f_fastest, f_gain, f_bend, f_ahead, y_speed, y_seen, f_mode, y_line, f_pace, y_left, y_went, f_stepsInAll, f_ticksInAll, y_u, y_v, f_holds, a_letters, a_values, a_wordCounts, a_tool, a_began, a_limits, a_switches, y_force, y_origins, y_here, y_has, y_grouped, y_word, y_from, y_to, y_steps, y_paces, y_dwells, y_ends, y_turn, y_first, y_second, y_centre, y_direction) → wpY_advance PY (f_lines, f_fastest, f_gain, f_bend, f_ahead, y_speed, y_seen, f_mode, y_line, f_pace, y_left, y_went, f_stepsInAll, f_ticksInAll, y_u, y_v, f_holds, a_letters, a_values, a_wordCounts, a_tool, a_began, a_limits, a_switches, y_force, y_origins, y_here, y_has, y_grouped, y_word, y_from, y_to, y_steps, y_paces, y_dwells, y_ends, y_turn, y_first, y_second, y_centre, y_direction) (nI n) := by
    intro PY h
    unfold wpY_advance
    unfold ad_Y at h
    exact yl_in (fun _ _ => br_f (by decide) ⟨n + 1, h⟩) (fun z => absurd ⟨a', b⟩ z)
  have xOk : ∀ PX : Int32 → SX → Prop, ad_X PX (nI n) f_stepsInAll (n + 1) (nI 0) (f_lines, f_fastest, f_gain, f_bend, f_ahead, f_mode, f_holds, f_pace, f_line, f_gone, f_dwellLeft, f_stepsInAll, f_ticksInAll, f_speed, f_present, f_laid, a_wordCounts, a_letters, a_values, a_limits, a_switches, a_tool, a_inForce, a_origins, a_given, a_rows, a_probe, a_motions, a_thirds, a_centres, a_steps, a_paces, a_dwells, a_marks, a_nexts, a_joints) → wpX_advance PX (f_lines, f_fastest, f_gain, f_bend, f_ahead, f_mode, f_holds, f_pace, f_line, f_gone, f_dwellLeft, f_stepsInAll, f_ticksInAll, f_speed, f_present, f_laid, a_wordCounts, a_letters, a_values, a_limits, a_switches, a_tool, a_inForce, a_origins, a_given, a_rows, a_probe, a_motions, a_thirds, a_centres, a_steps, a_paces, a_dwells, a_marks, a_nexts, a_joints) (nI n) := by
    intro PX h
    unfold wpX_advance
    unfold ad_X at h
    exact br_f a (br_t b ⟨n + 1, h⟩)
  exact xOk _ (AX _ _ (yOk _ (AY _ _ y_u y_v y_direction (fun t1 t2 t3 => ⟨rfl, ⟨w', t1, t2, t3, V', rfl⟩⟩))))
end ADW
end
section
section RSM
theorem i_vc_resume {k : Nat} {u : SX} {v : SY} (I : i_Rel k u v) (hk : k + 4 ≤ 2048) : wpX_resume (fun r u' => wpY_resume (fun r' v' => r' = r ∧ i_Rel (k + 4) u' v') v) u := by
  obtain ⟨w, y_u, y_v, y_direction, ⟨f_lines, f_fastest, f_gain, f_bend, f_ahead, f_mode, f_holds, f_pace, f_line, f_gone, f_dwellLeft, f_stepsInAll, f_ticksInAll, f_speed, f_present, f_laid, y_speed, y_seen, y_line, y_left, y_went, a_wordCounts, a_letters, a_values, a_limits, a_switches, a_tool, a_inForce, a_origins, a_given, a_rows, a_probe, a_motions, a_thirds, a_centres, a_steps, a_paces, a_dwells, a_marks, a_nexts, a_joints, a_began, y_force, y_origins, y_here, y_has, y_grouped, y_word, y_from, y_to, y_steps, y_paces, y_dwells, y_ends, y_turn, y_first, y_second, y_centre, rfl, rfl, R⟩, rfl⟩ := I
  dsimp only
  unfold wpX_resume
  dsimp only
  refine br_c (fun m => ?_) (fun m => ?_)
  · obtain ⟨N, n, Lh, hn, el, eyl, W⟩ := rl_rn R (by rw [m]; decide)
    have W3 : f_holds = 0 ∧ f_pace = 0 ∧ y_left = 0 ∧ ∀ a, a < 3 → a_tool a = px_he a_letters a_values a_wordCounts a_began (n + 1) a := by
      rcases W with z | z | z | z
      · rw [z.1] at m; exact absurd m (by decide)
      · rw [z.1] at m; exact absurd m (by decide)
      · rw [z.1] at m; exact absurd m (by decide)
      · exact z.2
    obtain ⟨h0, p0, le0, hT⟩ := W3
    obtain ⟨u', w', V, gs, BX, BY⟩ := bg_0 (f_mode := f_mode) (f_holds := f_holds) (f_pace := f_pace) (f_line := f_line) (f_gone := f_gone) (f_dwellLeft := f_dwellLeft) (f_stepsInAll := f_stepsInAll) (f_ticksInAll := f_ticksInAll) (f_speed := f_speed) (f_present := f_present) (a_switches := a_switches) (a_origins := a_origins) (a_given := a_given) (a_probe := a_probe)
      (y_line := y_line) (y_left := y_left) (y_went := y_went) (y_speed := y_speed) (y_origins := y_origins) (y_here := y_here) (y_has := y_has) (y_grouped := y_grouped) (y_word := y_word) (k := n + 1) R.1 Lh (by omega) hT p0
    have e1 : f_line + 1 = nI (n + 1) := by rw [el, nI_1]
    have e2 : y_line + 1 = nI (n + 1) := by rw [eyl, nI_1]
    rw [e1]
    refine BX _ ?_
    have hRel : i_Rel (k + 4) u' (w' y_u y_v y_direction) := ⟨w', y_u, y_v, y_direction, V, rfl⟩
    obtain ⟨x_lines, x_f1, x_f2, x_f3, x_f4, x_mode, x_f5, x_f6, x_f7, x_f8, x_f9, x_g1, x_g2, x_g3, x_g4, x_g5, x_a1, x_a2, x_a3, x_a4, x_a5, x_a6, x_a7, x_a8, x_a9, x_b1, x_b2, x_b3, x_b4, x_b5, x_b6, x_b7, x_b8, x_b9, x_c1, x_c2⟩ := u'
    dsimp only
    have fin : ∀ PY : Int32 → SY → Prop, (∀ vv, vv = w' y_u y_v y_direction → PY 1 vv) → wY_resume_17 PY f_lines f_fastest f_gain f_bend f_ahead y_speed y_seen f_mode y_line f_pace y_left y_went f_stepsInAll f_ticksInAll y_u y_v f_holds a_letters a_values a_wordCounts a_tool a_began a_limits a_switches y_force y_origins y_here y_has y_grouped y_word y_from y_to y_steps y_paces y_dwells y_ends y_turn y_first y_second y_centre y_direction := by
      intro PY h
      unfold wY_resume_17
      refine br_t m ?_
      rw [e2]
      have b := BY (fun u => match u with | (f_lines, f_fastest, f_gain, f_bend, f_ahead, f_speed, f_seen, f_state, f_line, f_pace, f_left, f_went, f_allSteps, f_allTicks, f_u, f_v, f_holds, a_letters, a_values, a_many, a_tool, a_began, a_limit, a_trips, a_force, a_origins, a_here, a_has, a_grouped, a_word, a_from, a_to, a_steps, a_paces, a_dwells, a_ends, a_turn, a_first, a_second, a_centre, a_direction) => PY 1 (f_lines, f_fastest, f_gain, f_bend, f_ahead, f_speed, f_seen, f_state, f_line, f_pace, f_left, f_went, f_allSteps, f_allTicks, f_u, f_v, f_holds, a_letters, a_values, a_many, a_tool, a_began, a_limit, a_trips, a_force, a_origins, a_here, a_has, a_grouped, a_word, a_from, a_to, a_steps, a_paces, a_dwells, a_ends, a_turn, a_first, a_second, a_centre, a_direction)) y_u y_v y_direction (by
        have h' := h _ rfl
        generalize w' y_u y_v y_direction = vv at h' ⊢
        obtain ⟨f_lines, f_fastest, f_gain, f_bend, f_ahead, f_speed, f_seen, f_state, f_line, f_pace, f_left, f_went, f_allSteps, f_allTicks, f_u, f_v, f_holds, a_letters, a_values, a_many, a_tool, a_began, a_limit, a_trips, a_force, a_origins, a_here, a_has, a_grouped, a_word, a_from, a_to, a_steps, a_paces, a_dwells, a_ends, a_turn, a_first, a_second, a_centre, a_direction⟩ := vv
        exact h')
      rw [h0] at b
      exact b
    unfold wpY_resume
    refine br_t h0 (br_t m (fin _ (fun vv e => ?_)))
    subst e
    exact ⟨rfl, hRel⟩
  · refine br_c (fun h0 => br_t h0 (br_f m ⟨rfl, rl_mk R⟩)) (fun h0 => br_f h0 (br_f m ⟨rfl, rl_mk ⟨R.1, ?_⟩⟩))
    rcases R.2 with S | ⟨N, n, Lh, hn, el, eyl, W⟩
    · exact absurd S.2.1 h0
    · refine Or.inr ⟨N, n, Lh, hn, el, eyl, ?_⟩
      rcases W with z | z | z | z
      · exact Or.inl z
      · exact absurd z.2.2.1 h0
      · exact Or.inr (Or.inr (Or.inl z))
      · exact absurd z.2.1 h0
end RSM
end
section
section STT
theorem i_vc_state {k : Nat} {u : SX} {v : SY} (I : i_Rel k u v) (hk : k + 4 ≤ 2048) (v1 : Int32) : wpX_state (fun r => wpY_state (fun r' => r' = r ∧ i_Rel (k + 4) u v) v v1) u v1 := by
  have I' : i_Rel (k + 4) u v := I
  obtain ⟨w, y_u, y_v, y_direction, ⟨f_lines, f_fastest, f_gain, f_bend, f_ahead, f_mode, f_holds, f_pace, f_line, f_gone, f_dwellLeft, f_stepsInAll, f_ticksInAll, f_speed, f_present, f_laid, y_speed, y_seen, y_line, y_left, y_went, a_wordCounts, a_letters, a_values, a_limits, a_switches, a_tool, a_inForce, a_origins, a_given, a_rows, a_probe, a_motions, a_thirds, a_centres, a_steps, a_paces, a_dwells, a_marks, a_nexts, a_joints, a_began, y_force, y_origins, y_here, y_has, y_grouped, y_word, y_from, y_to, y_steps, y_paces, y_dwells, y_ends, y_turn, y_first, y_second, y_centre, rfl, rfl, R⟩, rfl⟩ := I
  dsimp only at I' ⊢
  generalize hJ : i_Rel (k + 4) (f_lines, f_fastest, f_gain, f_bend, f_ahead, f_mode, f_holds, f_pace, f_line, f_gone, f_dwellLeft, f_stepsInAll, f_ticksInAll, f_speed, f_present, f_laid, a_wordCounts, a_letters, a_values, a_limits, a_switches, a_tool, a_inForce, a_origins, a_given, a_rows, a_probe, a_motions, a_thirds, a_centres, a_steps, a_paces, a_dwells, a_marks, a_nexts, a_joints) (f_lines, f_fastest, f_gain, f_bend, f_ahead, y_speed, y_seen, f_mode, y_line, f_pace, y_left, y_went, f_stepsInAll, f_ticksInAll, y_u, y_v, f_holds, a_letters, a_values, a_wordCounts, a_tool, a_began, a_limits, a_switches, y_force, y_origins, y_here, y_has, y_grouped, y_word, y_from, y_to, y_steps, y_paces, y_dwells, y_ends, y_turn, y_first, y_second, y_centre, y_direction) = J at I' ⊢
  -- what both show, by mode
  have key : (if f_mode = 0 then -1 else f_line) = y_line ∧ (if f_mode = 2 then f_dwellLeft else 0) = y_left ∧ ((f_mode = 1 ∨ f_mode = 4) → vp_in f_line 30 ∧ f_line = y_line ∧ f_gone = y_went ∧ a_steps f_line.toNatClampNeg = y_steps f_line.toNatClampNeg) := by
    by_cases m : f_mode = 0
    · obtain ⟨_, _, _, e1, e2⟩ := rl_st R m
      rw [if_pos m, if_neg (by rw [m]; decide)]
      refine ⟨e1.symm, e2.symm, fun z => ?_⟩
      rw [m] at z
      rcases z with z | z <;> exact absurd z (by decide)
    · obtain ⟨N, n, Lh, hn, el, eyl, W⟩ := rl_rn R m
      have N30 : N ≤ 30 := Lh.2.1.2.2.2.2.1
      rw [if_neg m, el, eyl]
      have st : a_steps (nI n).toNatClampNeg = y_steps (nI n).toNatClampNeg := by
        rw [nI_clamp (by omega), (Lh.2.2.1.2.1.2 n hn).2.2.1, (Lh.2.2.2.2.2 n hn).1]
      refine ⟨rfl, ?_⟩
      rcases W with z | z | z | z
      · obtain ⟨m1, _, le, p, go, _, _, _, eg, ew, _⟩ := z
        rw [if_neg (by rw [m1]; decide), le]
        exact ⟨rfl, fun _ => ⟨vp_in_nI (by omega) (by omega), rfl, eg.trans ew.symm, st⟩⟩
      · obtain ⟨m1, _, _, _, le, go, _, eg, ew⟩ := z
        rw [if_neg (by rw [m1]; decide), le]
        exact ⟨rfl, fun _ => ⟨vp_in_nI (by omega) (by omega), rfl, eg.trans ew.symm, st⟩⟩
      · obtain ⟨m1, _, ed, _⟩ := z
        rw [if_pos m1, ed]
        refine ⟨rfl, fun y => ?_⟩
        rw [m1] at y
        rcases y with y | y <;> exact absurd y (by decide)
      · obtain ⟨m1, _, _, le, _⟩ := z
        rw [if_neg (by rw [m1]; decide), le]
        refine ⟨rfl, fun y => ?_⟩
        rw [m1] at y
        rcases y with y | y <;> exact absurd y (by decide)
  obtain ⟨k3, k6, kb⟩ := key
  -- the reference, once its block flag is known
  have ys : ∀ PY : Int32 → Prop, (∀ z0, z0 = (if f_mode = 1 ∨ f_mode = 4 then 1 else 0) → wY_state_21 PY v1 z0 f_lines f_fastest f_gain f_bend f_ahead y_speed y_seen f_mode y_line f_pace y_left y_went f_stepsInAll f_ticksInAll y_u y_v f_holds a_letters a_values a_wordCounts a_tool a_began a_limits a_switches y_force y_origins y_here y_has y_grouped y_word y_from y_to y_steps y_paces y_dwells y_ends y_turn y_first y_second y_centre y_direction) → wpY_state PY (f_lines, f_fastest, f_gain, f_bend, f_ahead, y_speed, y_seen, f_mode, y_line, f_pace, y_left, y_went, f_stepsInAll, f_ticksInAll, y_u, y_v, f_holds, a_letters, a_values, a_wordCounts, a_tool, a_began, a_limits, a_switches, y_force, y_origins, y_here, y_has, y_grouped, y_word, y_from, y_to, y_steps, y_paces, y_dwells, y_ends, y_turn, y_first, y_second, y_centre, y_direction) v1 := by
    intro PY h
    unfold wpY_state wY_state_16
    exact br_c (fun a => h 1 (by rw [if_pos (Or.inl a)])) (fun a => br_c (fun b => h 1 (by rw [if_pos (Or.inr b)])) (fun b => h 0 (by rw [if_neg (fun z => z.elim a b)])))
  unfold wpX_state
  dsimp only
  refine br_c (fun a => ys _ (fun z0 _ => br_t a ⟨rfl, I'⟩)) (fun a => br_c (fun b => ys _ (fun z0 _ => br_f a (br_t b ⟨rfl, I'⟩))) (fun b => ?_))
  refine br_c (fun c => ys _ (fun z0 _ => br_f a (br_f b (br_t c ⟨rfl, I'⟩)))) (fun c0 => ?_)
  refine br_c (fun c => br_c (fun d => ys _ (fun z0 _ => br_f a (br_f b (br_f c0 (br_t c (br_t d ⟨rfl, I'⟩)))))) (fun d => ys _ (fun z0 _ => br_f a (br_f b (br_f c0 (br_t c (br_f d ⟨rfl, I'⟩))))))) (fun c1 => ?_)
  refine br_c (fun c => ys _ (fun z0 _ => br_f a (br_f b (br_f c0 (br_f c1 (br_t c ⟨rfl, I'⟩)))))) (fun c2 => ?_)
  refine br_c (fun c => br_c (fun d => ys _ (fun z0 _ => br_f a (br_f b (br_f c0 (br_f c1 (br_f c2 (br_t c ⟨?_, I'⟩))))))) (fun d => ys _ (fun z0 _ => br_f a (br_f b (br_f c0 (br_f c1 (br_f c2 (br_t c ⟨?_, I'⟩)))))))) (fun c3 => ?_)
  · rw [if_pos d] at k3; exact k3.symm
  · rw [if_neg d] at k3; exact k3.symm
  have hb : ∀ PX : Int32 → Prop, PX (if f_mode = 1 ∨ f_mode = 4 then 1 else 0) → wpX_hasBlock PX (f_lines, f_fastest, f_gain, f_bend, f_ahead, f_mode, f_holds, f_pace, f_line, f_gone, f_dwellLeft, f_stepsInAll, f_ticksInAll, f_speed, f_present, f_laid, a_wordCounts, a_letters, a_values, a_limits, a_switches, a_tool, a_inForce, a_origins, a_given, a_rows, a_probe, a_motions, a_thirds, a_centres, a_steps, a_paces, a_dwells, a_marks, a_nexts, a_joints) := by
    intro PX h
    unfold wpX_hasBlock
    refine br_c (fun a => ?_) (fun a => br_c (fun b => ?_) (fun b => ?_))
    · rw [if_pos (Or.inl a)] at h; exact h
    · rw [if_pos (Or.inr b)] at h; exact h
    · rw [if_neg (fun z => z.elim a b)] at h; exact h
  refine br_c (fun c => hb _ ?_) (fun c4 => br_c (fun c => hb _ ?_) (fun c5 => br_c (fun c => br_c (fun d => ys _ (fun z0 _ => br_f a (br_f b (br_f c0 (br_f c1 (br_f c2 (br_f c3 (br_f c4 (br_f c5 (br_t c ⟨?_, I'⟩)))))))))) (fun d => ys _ (fun z0 _ => br_f a (br_f b (br_f c0 (br_f c1 (br_f c2 (br_f c3 (br_f c4 (br_f c5 (br_t c ⟨?_, I'⟩))))))))))) (fun c6 => br_c (fun c => ys _ (fun z0 _ => br_f a (br_f b (br_f c0 (br_f c1 (br_f c2 (br_f c3 (br_f c4 (br_f c5 (br_f c6 (br_t c ⟨rfl, I'⟩)))))))))) ) (fun c7 => br_c (fun c => ys _ (fun z0 _ => br_f a (br_f b (br_f c0 (br_f c1 (br_f c2 (br_f c3 (br_f c4 (br_f c5 (br_f c6 (br_f c7 (br_t c ⟨rfl, I'⟩)))))))))))) (fun c8 => trivial)))))
  · by_cases q : f_mode = 1 ∨ f_mode = 4
    · rw [if_pos q]
      obtain ⟨i30, e1, e2, e3⟩ := kb q
      refine br_f (by decide) ⟨by decide, ys _ (fun z0 ez => ?_)⟩
      rw [if_pos q] at ez
      subst ez
      exact br_f a (br_f b (br_f c0 (br_f c1 (br_f c2 (br_f c3 (br_t c (br_f (by decide) ⟨by decide, by rw [e2], I'⟩)))))))
    · rw [if_neg q]
      refine br_t rfl (ys _ (fun z0 ez => ?_))
      rw [if_neg q] at ez
      subst ez
      exact br_f a (br_f b (br_f c0 (br_f c1 (br_f c2 (br_f c3 (br_t c (br_t rfl ⟨rfl, I'⟩)))))))
  · by_cases q : f_mode = 1 ∨ f_mode = 4
    · rw [if_pos q]
      obtain ⟨i30, e1, e2, e3⟩ := kb q
      refine br_f (by decide) ⟨i30, by decide, ys _ (fun z0 ez => ?_)⟩
      rw [if_pos q] at ez
      subst ez
      exact br_f a (br_f b (br_f c0 (br_f c1 (br_f c2 (br_f c3 (br_f c4 (br_t c (br_f (by decide) ⟨by rw [← e1]; exact i30, by decide, by rw [e2, ← e1, e3], I'⟩))))))))
    · rw [if_neg q]
      refine br_t rfl (ys _ (fun z0 ez => ?_))
      rw [if_neg q] at ez
      subst ez
      exact br_f a (br_f b (br_f c0 (br_f c1 (br_f c2 (br_f c3 (br_f c4 (br_t c (br_t rfl ⟨rfl, I'⟩))))))))
  · rw [if_pos d] at k6; exact k6.symm
  · rw [if_neg d] at k6; exact k6.symm
end STT
end
section
section SET
theorem i_vc_set {k : Nat} {u : SX} {v : SY} (I : i_Rel k u v) (hk : k + 4 ≤ 2048) (v1 : Int32) (v2 : Int32) : wpX_set (fun r u' => wpY_set (fun r' v' => r' = r ∧ i_Rel (k + 4) u' v') v v1 v2) u v1 v2 := by
  obtain ⟨w, y_u, y_v, y_direction, ⟨f_lines, f_fastest, f_gain, f_bend, f_ahead, f_mode, f_holds, f_pace, f_line, f_gone, f_dwellLeft, f_stepsInAll, f_ticksInAll, f_speed, f_present, f_laid, y_speed, y_seen, y_line, y_left, y_went, a_wordCounts, a_letters, a_values, a_limits, a_switches, a_tool, a_inForce, a_origins, a_given, a_rows, a_probe, a_motions, a_thirds, a_centres, a_steps, a_paces, a_dwells, a_marks, a_nexts, a_joints, a_began, y_force, y_origins, y_here, y_has, y_grouped, y_word, y_from, y_to, y_steps, y_paces, y_dwells, y_ends, y_turn, y_first, y_second, y_centre, rfl, rfl, R⟩, rfl⟩ := I
  have same : (0 : Int32) = 0 ∧ i_Rel (k + 4) (f_lines, f_fastest, f_gain, f_bend, f_ahead, f_mode, f_holds, f_pace, f_line, f_gone, f_dwellLeft, f_stepsInAll, f_ticksInAll, f_speed, f_present, f_laid, a_wordCounts, a_letters, a_values, a_limits, a_switches, a_tool, a_inForce, a_origins, a_given, a_rows, a_probe, a_motions, a_thirds, a_centres, a_steps, a_paces, a_dwells, a_marks, a_nexts, a_joints) (f_lines, f_fastest, f_gain, f_bend, f_ahead, y_speed, y_seen, f_mode, y_line, f_pace, y_left, y_went, f_stepsInAll, f_ticksInAll, y_u, y_v, f_holds, a_letters, a_values, a_wordCounts, a_tool, a_began, a_limits, a_switches, y_force, y_origins, y_here, y_has, y_grouped, y_word, y_from, y_to, y_steps, y_paces, y_dwells, y_ends, y_turn, y_first, y_second, y_centre, y_direction) := ⟨rfl, rl_mk R⟩
  by_cases m : f_mode = 0
  case neg => exact br_f m (br_f m same)
  have S0 := rl_st R m
  obtain ⟨cl, wf, hT, hi, hF, cf, cg, cb, ca⟩ := R.1
  have rng : ∀ (lo hi x : Int32), 0 ≤ lo.toInt → lo ≤ x → x ≤ hi → ∃ q : Nat, x = nI q ∧ lo.toInt ≤ (q : Int) ∧ (q : Int) ≤ hi.toInt := by
    intro lo hi x l0 a b
    obtain ⟨q, q1, q2⟩ := nI_of (x := x) (by rw [fc_lt, fc_0]; rw [fc_le] at a; omega)
    refine ⟨q, q2, ?_⟩
    rw [fc_le, q2, nI_toInt q1] at a
    rw [fc_le, q2, nI_toInt q1] at b
    omega
  have C0 := R.1
  have nn : ∀ lo hi : Int32, 0 ≤ lo.toInt → lo ≤ v2 → v2 ≤ hi → ∃ q : Nat, v2 = nI q ∧ lo.toInt ≤ (q : Int) ∧ (q : Int) ≤ hi.toInt := fun lo hi a b c => rng lo hi v2 a b c
  have r3 : 1 ≤ v2 → v2 ≤ 2000 → i_Rel (k + 4) (f_lines, v2, f_gain, f_bend, f_ahead, f_mode, f_holds, f_pace, f_line, f_gone, f_dwellLeft, f_stepsInAll, f_ticksInAll, f_speed, f_present, f_laid, a_wordCounts, a_letters, a_values, a_limits, a_switches, a_tool, a_inForce, a_origins, a_given, a_rows, a_probe, a_motions, a_thirds, a_centres, a_steps, a_paces, a_dwells, a_marks, a_nexts, a_joints) (f_lines, v2, f_gain, f_bend, f_ahead, y_speed, y_seen, f_mode, y_line, f_pace, y_left, y_went, f_stepsInAll, f_ticksInAll, y_u, y_v, f_holds, a_letters, a_values, a_wordCounts, a_tool, a_began, a_limits, a_switches, y_force, y_origins, y_here, y_has, y_grouped, y_word, y_from, y_to, y_steps, y_paces, y_dwells, y_ends, y_turn, y_first, y_second, y_centre, y_direction) := by
    intro a b
    refine rl_mk ⟨⟨cl, wf, hT, hi, hF, ?_, cg, cb, ca⟩, Or.inl S0⟩
    rw [fc_le, fc_1] at a; rw [fc_le, show (2000 : Int32).toInt = 2000 from by decide] at b; omega
  have r4 : 1 ≤ v2 → v2 ≤ 200 → i_Rel (k + 4) (f_lines, f_fastest, v2, f_bend, f_ahead, f_mode, f_holds, f_pace, f_line, f_gone, f_dwellLeft, f_stepsInAll, f_ticksInAll, f_speed, f_present, f_laid, a_wordCounts, a_letters, a_values, a_limits, a_switches, a_tool, a_inForce, a_origins, a_given, a_rows, a_probe, a_motions, a_thirds, a_centres, a_steps, a_paces, a_dwells, a_marks, a_nexts, a_joints) (f_lines, f_fastest, v2, f_bend, f_ahead, y_speed, y_seen, f_mode, y_line, f_pace, y_left, y_went, f_stepsInAll, f_ticksInAll, y_u, y_v, f_holds, a_letters, a_values, a_wordCounts, a_tool, a_began, a_limits, a_switches, y_force, y_origins, y_here, y_has, y_grouped, y_word, y_from, y_to, y_steps, y_paces, y_dwells, y_ends, y_turn, y_first, y_second, y_centre, y_direction) := by
    intro a b
    obtain ⟨q, q1, q2, q3⟩ := nn 1 200 (by decide) a b
    rw [fc_1] at q2; rw [show (200 : Int32).toInt = 200 from by decide] at q3
    exact rl_mk ⟨⟨cl, wf, hT, hi, hF, cf, ⟨q, ⟨by omega, by omega⟩, q1⟩, cb, ca⟩, Or.inl S0⟩
  have r5 : 0 ≤ v2 → v2 ≤ 2000 → i_Rel (k + 4) (f_lines, f_fastest, f_gain, v2, f_ahead, f_mode, f_holds, f_pace, f_line, f_gone, f_dwellLeft, f_stepsInAll, f_ticksInAll, f_speed, f_present, f_laid, a_wordCounts, a_letters, a_values, a_limits, a_switches, a_tool, a_inForce, a_origins, a_given, a_rows, a_probe, a_motions, a_thirds, a_centres, a_steps, a_paces, a_dwells, a_marks, a_nexts, a_joints) (f_lines, f_fastest, f_gain, v2, f_ahead, y_speed, y_seen, f_mode, y_line, f_pace, y_left, y_went, f_stepsInAll, f_ticksInAll, y_u, y_v, f_holds, a_letters, a_values, a_wordCounts, a_tool, a_began, a_limits, a_switches, y_force, y_origins, y_here, y_has, y_grouped, y_word, y_from, y_to, y_steps, y_paces, y_dwells, y_ends, y_turn, y_first, y_second, y_centre, y_direction) := by
    intro a b
    refine rl_mk ⟨⟨cl, wf, hT, hi, hF, cf, cg, ?_, ca⟩, Or.inl S0⟩
    rw [fc_le, fc_0] at a; rw [fc_le, show (2000 : Int32).toInt = 2000 from by decide] at b; omega
  have r6 : 1 ≤ v2 → v2 ≤ 6 → i_Rel (k + 4) (f_lines, f_fastest, f_gain, f_bend, v2, f_mode, f_holds, f_pace, f_line, f_gone, f_dwellLeft, f_stepsInAll, f_ticksInAll, f_speed, f_present, f_laid, a_wordCounts, a_letters, a_values, a_limits, a_switches, a_tool, a_inForce, a_origins, a_given, a_rows, a_probe, a_motions, a_thirds, a_centres, a_steps, a_paces, a_dwells, a_marks, a_nexts, a_joints) (f_lines, f_fastest, f_gain, f_bend, v2, y_speed, y_seen, f_mode, y_line, f_pace, y_left, y_went, f_stepsInAll, f_ticksInAll, y_u, y_v, f_holds, a_letters, a_values, a_wordCounts, a_tool, a_began, a_limits, a_switches, y_force, y_origins, y_here, y_has, y_grouped, y_word, y_from, y_to, y_steps, y_paces, y_dwells, y_ends, y_turn, y_first, y_second, y_centre, y_direction) := by
    intro a b
    obtain ⟨q, q1, q2, q3⟩ := nn 1 6 (by decide) a b
    rw [fc_1] at q2; rw [fc_6] at q3
    exact rl_mk ⟨⟨cl, wf, hT, hi, hF, cf, cg, cb, ⟨q, ⟨by omega, by omega⟩, q1⟩⟩, Or.inl S0⟩
  have r012 : ∀ j, j < 3 → a_tool j ≤ v2 → 1 ≤ v2 → v2 ≤ 1000 → i_Rel (k + 4) (f_lines, f_fastest, f_gain, f_bend, f_ahead, f_mode, f_holds, f_pace, f_line, f_gone, f_dwellLeft, f_stepsInAll, f_ticksInAll, f_speed, f_present, f_laid, a_wordCounts, a_letters, a_values, (upd a_limits j v2), a_switches, a_tool, a_inForce, a_origins, a_given, a_rows, a_probe, a_motions, a_thirds, a_centres, a_steps, a_paces, a_dwells, a_marks, a_nexts, a_joints) (f_lines, f_fastest, f_gain, f_bend, f_ahead, y_speed, y_seen, f_mode, y_line, f_pace, y_left, y_went, f_stepsInAll, f_ticksInAll, y_u, y_v, f_holds, a_letters, a_values, a_wordCounts, a_tool, a_began, (upd a_limits j v2), a_switches, y_force, y_origins, y_here, y_has, y_grouped, y_word, y_from, y_to, y_steps, y_paces, y_dwells, y_ends, y_turn, y_first, y_second, y_centre, y_direction) := by
    intro j hj t a b
    rw [fc_le, fc_1] at a; rw [fc_le, fc_1000] at b; rw [fc_le] at t
    refine rl_mk ⟨⟨cl, ⟨wf.1, wf.2.1, wf.2.2.1, fun a' ha' => ?_⟩, fun a' ha' => ?_, hi, hF, cf, cg, cb, ca⟩, Or.inl S0⟩
    · by_cases e : a' = j
      · subst e; rw [pk_us]; omega
      · rw [pk_un e]; exact wf.2.2.2 a' ha'
    · by_cases e : a' = j
      · subst e; rw [pk_us]; have := hT a' ha'; omega
      · rw [pk_un e]; exact hT a' ha'
  have y3n : ∀ PY : Int32 → SY → Prop, ¬ (1 ≤ v2 ∧ v2 ≤ 2000) → PY 0 (f_lines, f_fastest, f_gain, f_bend, f_ahead, y_speed, y_seen, f_mode, y_line, f_pace, y_left, y_went, f_stepsInAll, f_ticksInAll, y_u, y_v, f_holds, a_letters, a_values, a_wordCounts, a_tool, a_began, a_limits, a_switches, y_force, y_origins, y_here, y_has, y_grouped, y_word, y_from, y_to, y_steps, y_paces, y_dwells, y_ends, y_turn, y_first, y_second, y_centre, y_direction) → wpY_set PY (f_lines, f_fastest, f_gain, f_bend, f_ahead, y_speed, y_seen, f_mode, y_line, f_pace, y_left, y_went, f_stepsInAll, f_ticksInAll, y_u, y_v, f_holds, a_letters, a_values, a_wordCounts, a_tool, a_began, a_limits, a_switches, y_force, y_origins, y_here, y_has, y_grouped, y_word, y_from, y_to, y_steps, y_paces, y_dwells, y_ends, y_turn, y_first, y_second, y_centre, y_direction) 3 v2 := by
    intro PY hn h
    unfold wpY_set wY_set_67 wY_set_77 wY_set_96
    dsimp only
    exact br_t m (yl_in (fun _ _ => br_f (by decide) (br_t (by decide) (br_f (by decide) (br_t rfl (yl_in (fun a b => absurd ⟨a, b⟩ hn) (fun _ => br_t rfl h)))))) (fun z => absurd ⟨by decide, by decide⟩ z))
  have y3y : ∀ PY : Int32 → SY → Prop, 1 ≤ v2 → v2 ≤ 2000 → PY 1 (f_lines, v2, f_gain, f_bend, f_ahead, y_speed, y_seen, f_mode, y_line, f_pace, y_left, y_went, f_stepsInAll, f_ticksInAll, y_u, y_v, f_holds, a_letters, a_values, a_wordCounts, a_tool, a_began, a_limits, a_switches, y_force, y_origins, y_here, y_has, y_grouped, y_word, y_from, y_to, y_steps, y_paces, y_dwells, y_ends, y_turn, y_first, y_second, y_centre, y_direction) → wpY_set PY (f_lines, f_fastest, f_gain, f_bend, f_ahead, y_speed, y_seen, f_mode, y_line, f_pace, y_left, y_went, f_stepsInAll, f_ticksInAll, y_u, y_v, f_holds, a_letters, a_values, a_wordCounts, a_tool, a_began, a_limits, a_switches, y_force, y_origins, y_here, y_has, y_grouped, y_word, y_from, y_to, y_steps, y_paces, y_dwells, y_ends, y_turn, y_first, y_second, y_centre, y_direction) 3 v2 := by
    intro PY ha hb h
    unfold wpY_set wY_set_67 wY_set_77 wY_set_96
    dsimp only
    exact br_t m (yl_in (fun _ _ => br_f (by decide) (br_t (by decide) (br_f (by decide) (br_t rfl (yl_in (fun _ _ => br_f (by decide) (br_t rfl (br_f (by decide) (br_f (by decide) (br_f (by decide) h))))) (fun z => absurd ⟨ha, hb⟩ z)))))) (fun z => absurd ⟨by decide, by decide⟩ z))
  have x3 : ∀ PX : Int32 → SX → Prop, (¬ (1 ≤ v2 ∧ v2 ≤ 2000) → PX 0 (f_lines, f_fastest, f_gain, f_bend, f_ahead, f_mode, f_holds, f_pace, f_line, f_gone, f_dwellLeft, f_stepsInAll, f_ticksInAll, f_speed, f_present, f_laid, a_wordCounts, a_letters, a_values, a_limits, a_switches, a_tool, a_inForce, a_origins, a_given, a_rows, a_probe, a_motions, a_thirds, a_centres, a_steps, a_paces, a_dwells, a_marks, a_nexts, a_joints)) → (1 ≤ v2 → v2 ≤ 2000 → PX 1 (f_lines, v2, f_gain, f_bend, f_ahead, f_mode, f_holds, f_pace, f_line, f_gone, f_dwellLeft, f_stepsInAll, f_ticksInAll, f_speed, f_present, f_laid, a_wordCounts, a_letters, a_values, a_limits, a_switches, a_tool, a_inForce, a_origins, a_given, a_rows, a_probe, a_motions, a_thirds, a_centres, a_steps, a_paces, a_dwells, a_marks, a_nexts, a_joints)) → wpX_set PX (f_lines, f_fastest, f_gain, f_bend, f_ahead, f_mode, f_holds, f_pace, f_line, f_gone, f_dwellLeft, f_stepsInAll, f_ticksInAll, f_speed, f_present, f_laid, a_wordCounts, a_letters, a_values, a_limits, a_switches, a_tool, a_inForce, a_origins, a_given, a_rows, a_probe, a_motions, a_thirds, a_centres, a_steps, a_paces, a_dwells, a_marks, a_nexts, a_joints) 3 v2 := by
    intro PX h0 h1
    refine br_t m ?_
    refine br_t (by decide) (br_t (by decide) (br_f (by decide) (?_)))
    refine br_c (fun a => h0 (fun z => Int32.not_lt.mpr z.1 a)) (fun a => ?_)
    refine br_f (by decide) (br_f (by decide) (br_f (by decide) (br_f (by decide) (br_f (by decide) (br_t rfl (?_))))))
    refine br_c (fun b => ?_) (fun b => h0 (fun z => b z.2))
    exact br_f (by decide) (br_f (by decide) (br_f (by decide) (br_f (by decide) (br_f (by decide) (br_t rfl (h1 (Int32.not_lt.mp a) b))))))
  have y4n : ∀ PY : Int32 → SY → Prop, ¬ (1 ≤ v2 ∧ v2 ≤ 200) → PY 0 (f_lines, f_fastest, f_gain, f_bend, f_ahead, y_speed, y_seen, f_mode, y_line, f_pace, y_left, y_went, f_stepsInAll, f_ticksInAll, y_u, y_v, f_holds, a_letters, a_values, a_wordCounts, a_tool, a_began, a_limits, a_switches, y_force, y_origins, y_here, y_has, y_grouped, y_word, y_from, y_to, y_steps, y_paces, y_dwells, y_ends, y_turn, y_first, y_second, y_centre, y_direction) → wpY_set PY (f_lines, f_fastest, f_gain, f_bend, f_ahead, y_speed, y_seen, f_mode, y_line, f_pace, y_left, y_went, f_stepsInAll, f_ticksInAll, y_u, y_v, f_holds, a_letters, a_values, a_wordCounts, a_tool, a_began, a_limits, a_switches, y_force, y_origins, y_here, y_has, y_grouped, y_word, y_from, y_to, y_steps, y_paces, y_dwells, y_ends, y_turn, y_first, y_second, y_centre, y_direction) 4 v2 := by
    intro PY hn h
    exact br_t m (yl_in (fun _ _ => br_f (by decide) (br_t (by decide) (br_f (by decide) (br_f (by decide) (br_f (by decide) (br_t rfl (yl_in (fun a b => absurd ⟨a, b⟩ hn) (fun _ => br_t rfl h)))))))) (fun z => absurd ⟨by decide, by decide⟩ z))
  have y4y : ∀ PY : Int32 → SY → Prop, 1 ≤ v2 → v2 ≤ 200 → PY 1 (f_lines, f_fastest, v2, f_bend, f_ahead, y_speed, y_seen, f_mode, y_line, f_pace, y_left, y_went, f_stepsInAll, f_ticksInAll, y_u, y_v, f_holds, a_letters, a_values, a_wordCounts, a_tool, a_began, a_limits, a_switches, y_force, y_origins, y_here, y_has, y_grouped, y_word, y_from, y_to, y_steps, y_paces, y_dwells, y_ends, y_turn, y_first, y_second, y_centre, y_direction) → wpY_set PY (f_lines, f_fastest, f_gain, f_bend, f_ahead, y_speed, y_seen, f_mode, y_line, f_pace, y_left, y_went, f_stepsInAll, f_ticksInAll, y_u, y_v, f_holds, a_letters, a_values, a_wordCounts, a_tool, a_began, a_limits, a_switches, y_force, y_origins, y_here, y_has, y_grouped, y_word, y_from, y_to, y_steps, y_paces, y_dwells, y_ends, y_turn, y_first, y_second, y_centre, y_direction) 4 v2 := by
    intro PY ha hb h
    exact br_t m (yl_in (fun _ _ => br_f (by decide) (br_t (by decide) (br_f (by decide) (br_f (by decide) (br_f (by decide) (br_t rfl (yl_in (fun _ _ => br_f (by decide) (br_f (by decide) (br_t rfl (br_f (by decide) (br_f (by decide) h))))) (fun z => absurd ⟨ha, hb⟩ z)))))))) (fun z => absurd ⟨by decide, by decide⟩ z))
  have x4 : ∀ PX : Int32 → SX → Prop, (¬ (1 ≤ v2 ∧ v2 ≤ 200) → PX 0 (f_lines, f_fastest, f_gain, f_bend, f_ahead, f_mode, f_holds, f_pace, f_line, f_gone, f_dwellLeft, f_stepsInAll, f_ticksInAll, f_speed, f_present, f_laid, a_wordCounts, a_letters, a_values, a_limits, a_switches, a_tool, a_inForce, a_origins, a_given, a_rows, a_probe, a_motions, a_thirds, a_centres, a_steps, a_paces, a_dwells, a_marks, a_nexts, a_joints)) → (1 ≤ v2 → v2 ≤ 200 → PX 1 (f_lines, f_fastest, v2, f_bend, f_ahead, f_mode, f_holds, f_pace, f_line, f_gone, f_dwellLeft, f_stepsInAll, f_ticksInAll, f_speed, f_present, f_laid, a_wordCounts, a_letters, a_values, a_limits, a_switches, a_tool, a_inForce, a_origins, a_given, a_rows, a_probe, a_motions, a_thirds, a_centres, a_steps, a_paces, a_dwells, a_marks, a_nexts, a_joints)) → wpX_set PX (f_lines, f_fastest, f_gain, f_bend, f_ahead, f_mode, f_holds, f_pace, f_line, f_gone, f_dwellLeft, f_stepsInAll, f_ticksInAll, f_speed, f_present, f_laid, a_wordCounts, a_letters, a_values, a_limits, a_switches, a_tool, a_inForce, a_origins, a_given, a_rows, a_probe, a_motions, a_thirds, a_centres, a_steps, a_paces, a_dwells, a_marks, a_nexts, a_joints) 4 v2 := by
    intro PX h0 h1
    refine br_t m ?_
    refine br_t (by decide) (br_t (by decide) (br_f (by decide) (?_)))
    refine br_c (fun a => h0 (fun z => Int32.not_lt.mpr z.1 a)) (fun a => ?_)
    refine br_f (by decide) (br_f (by decide) (br_f (by decide) (br_f (by decide) (br_f (by decide) (br_f (by decide) (br_t rfl (?_)))))))
    refine br_c (fun b => ?_) (fun b => h0 (fun z => b z.2))
    exact br_f (by decide) (br_f (by decide) (br_f (by decide) (br_f (by decide) (br_f (by decide) (br_f (by decide) (br_t rfl (h1 (Int32.not_lt.mp a) b)))))))
  have y5n : ∀ PY : Int32 → SY → Prop, ¬ (0 ≤ v2 ∧ v2 ≤ 2000) → PY 0 (f_lines, f_fastest, f_gain, f_bend, f_ahead, y_speed, y_seen, f_mode, y_line, f_pace, y_left, y_went, f_stepsInAll, f_ticksInAll, y_u, y_v, f_holds, a_letters, a_values, a_wordCounts, a_tool, a_began, a_limits, a_switches, y_force, y_origins, y_here, y_has, y_grouped, y_word, y_from, y_to, y_steps, y_paces, y_dwells, y_ends, y_turn, y_first, y_second, y_centre, y_direction) → wpY_set PY (f_lines, f_fastest, f_gain, f_bend, f_ahead, y_speed, y_seen, f_mode, y_line, f_pace, y_left, y_went, f_stepsInAll, f_ticksInAll, y_u, y_v, f_holds, a_letters, a_values, a_wordCounts, a_tool, a_began, a_limits, a_switches, y_force, y_origins, y_here, y_has, y_grouped, y_word, y_from, y_to, y_steps, y_paces, y_dwells, y_ends, y_turn, y_first, y_second, y_centre, y_direction) 5 v2 := by
    intro PY hn h
    unfold wpY_set wY_set_67 wY_set_77 wY_set_96
    dsimp only
    exact br_t m (yl_in (fun _ _ => br_f (by decide) (br_t (by decide) (br_t rfl (br_f (by decide) (br_t rfl (yl_in (fun a b => absurd ⟨a, b⟩ hn) (fun _ => br_t rfl h))))))) (fun z => absurd ⟨by decide, by decide⟩ z))
  have y5y : ∀ PY : Int32 → SY → Prop, 0 ≤ v2 → v2 ≤ 2000 → PY 1 (f_lines, f_fastest, f_gain, v2, f_ahead, y_speed, y_seen, f_mode, y_line, f_pace, y_left, y_went, f_stepsInAll, f_ticksInAll, y_u, y_v, f_holds, a_letters, a_values, a_wordCounts, a_tool, a_began, a_limits, a_switches, y_force, y_origins, y_here, y_has, y_grouped, y_word, y_from, y_to, y_steps, y_paces, y_dwells, y_ends, y_turn, y_first, y_second, y_centre, y_direction) → wpY_set PY (f_lines, f_fastest, f_gain, f_bend, f_ahead, y_speed, y_seen, f_mode, y_line, f_pace, y_left, y_went, f_stepsInAll, f_ticksInAll, y_u, y_v, f_holds, a_letters, a_values, a_wordCounts, a_tool, a_began, a_limits, a_switches, y_force, y_origins, y_here, y_has, y_grouped, y_word, y_from, y_to, y_steps, y_paces, y_dwells, y_ends, y_turn, y_first, y_second, y_centre, y_direction) 5 v2 := by
    intro PY ha hb h
    unfold wpY_set wY_set_67 wY_set_77 wY_set_96
    dsimp only
    exact br_t m (yl_in (fun _ _ => br_f (by decide) (br_t (by decide) (br_t rfl (br_f (by decide) (br_t rfl (yl_in (fun _ _ => br_f (by decide) (br_f (by decide) (br_f (by decide) (br_t rfl (br_f (by decide) h))))) (fun z => absurd ⟨ha, hb⟩ z))))))) (fun z => absurd ⟨by decide, by decide⟩ z))
  have x5 : ∀ PX : Int32 → SX → Prop, (¬ (0 ≤ v2 ∧ v2 ≤ 2000) → PX 0 (f_lines, f_fastest, f_gain, f_bend, f_ahead, f_mode, f_holds, f_pace, f_line, f_gone, f_dwellLeft, f_stepsInAll, f_ticksInAll, f_speed, f_present, f_laid, a_wordCounts, a_letters, a_values, a_limits, a_switches, a_tool, a_inForce, a_origins, a_given, a_rows, a_probe, a_motions, a_thirds, a_centres, a_steps, a_paces, a_dwells, a_marks, a_nexts, a_joints)) → (0 ≤ v2 → v2 ≤ 2000 → PX 1 (f_lines, f_fastest, f_gain, v2, f_ahead, f_mode, f_holds, f_pace, f_line, f_gone, f_dwellLeft, f_stepsInAll, f_ticksInAll, f_speed, f_present, f_laid, a_wordCounts, a_letters, a_values, a_limits, a_switches, a_tool, a_inForce, a_origins, a_given, a_rows, a_probe, a_motions, a_thirds, a_centres, a_steps, a_paces, a_dwells, a_marks, a_nexts, a_joints)) → wpX_set PX (f_lines, f_fastest, f_gain, f_bend, f_ahead, f_mode, f_holds, f_pace, f_line, f_gone, f_dwellLeft, f_stepsInAll, f_ticksInAll, f_speed, f_present, f_laid, a_wordCounts, a_letters, a_values, a_limits, a_switches, a_tool, a_inForce, a_origins, a_given, a_rows, a_probe, a_motions, a_thirds, a_centres, a_steps, a_paces, a_dwells, a_marks, a_nexts, a_joints) 5 v2 := by
    intro PX h0 h1
    refine br_t m ?_
    refine br_t (by decide) (br_t (by decide) (br_t rfl (?_)))
    refine br_c (fun a => h0 (fun z => Int32.not_lt.mpr z.1 a)) (fun a => ?_)
    refine br_f (by decide) (br_f (by decide) (br_f (by decide) (br_f (by decide) (br_f (by decide) (br_f (by decide) (br_f (by decide) (br_t rfl (?_))))))))
    refine br_c (fun b => ?_) (fun b => h0 (fun z => b z.2))
    exact br_f (by decide) (br_f (by decide) (br_f (by decide) (br_f (by decide) (br_f (by decide) (br_f (by decide) (br_f (by decide) (br_t rfl (h1 (Int32.not_lt.mp a) b))))))))
  have y6n : ∀ PY : Int32 → SY → Prop, ¬ (1 ≤ v2 ∧ v2 ≤ 6) → PY 0 (f_lines, f_fastest, f_gain, f_bend, f_ahead, y_speed, y_seen, f_mode, y_line, f_pace, y_left, y_went, f_stepsInAll, f_ticksInAll, y_u, y_v, f_holds, a_letters, a_values, a_wordCounts, a_tool, a_began, a_limits, a_switches, y_force, y_origins, y_here, y_has, y_grouped, y_word, y_from, y_to, y_steps, y_paces, y_dwells, y_ends, y_turn, y_first, y_second, y_centre, y_direction) → wpY_set PY (f_lines, f_fastest, f_gain, f_bend, f_ahead, y_speed, y_seen, f_mode, y_line, f_pace, y_left, y_went, f_stepsInAll, f_ticksInAll, y_u, y_v, f_holds, a_letters, a_values, a_wordCounts, a_tool, a_began, a_limits, a_switches, y_force, y_origins, y_here, y_has, y_grouped, y_word, y_from, y_to, y_steps, y_paces, y_dwells, y_ends, y_turn, y_first, y_second, y_centre, y_direction) 6 v2 := by
    intro PY hn h
    exact br_t m (yl_in (fun _ _ => br_f (by decide) (br_t (by decide) (br_f (by decide) (br_f (by decide) (br_f (by decide) (br_f (by decide) (yl_in (fun a b => absurd ⟨a, b⟩ hn) (fun _ => br_t rfl h)))))))) (fun z => absurd ⟨by decide, by decide⟩ z))
  have y6y : ∀ PY : Int32 → SY → Prop, 1 ≤ v2 → v2 ≤ 6 → PY 1 (f_lines, f_fastest, f_gain, f_bend, v2, y_speed, y_seen, f_mode, y_line, f_pace, y_left, y_went, f_stepsInAll, f_ticksInAll, y_u, y_v, f_holds, a_letters, a_values, a_wordCounts, a_tool, a_began, a_limits, a_switches, y_force, y_origins, y_here, y_has, y_grouped, y_word, y_from, y_to, y_steps, y_paces, y_dwells, y_ends, y_turn, y_first, y_second, y_centre, y_direction) → wpY_set PY (f_lines, f_fastest, f_gain, f_bend, f_ahead, y_speed, y_seen, f_mode, y_line, f_pace, y_left, y_went, f_stepsInAll, f_ticksInAll, y_u, y_v, f_holds, a_letters, a_values, a_wordCounts, a_tool, a_began, a_limits, a_switches, y_force, y_origins, y_here, y_has, y_grouped, y_word, y_from, y_to, y_steps, y_paces, y_dwells, y_ends, y_turn, y_first, y_second, y_centre, y_direction) 6 v2 := by
    intro PY ha hb h
    exact br_t m (yl_in (fun _ _ => br_f (by decide) (br_t (by decide) (br_f (by decide) (br_f (by decide) (br_f (by decide) (br_f (by decide) (yl_in (fun _ _ => br_f (by decide) (br_f (by decide) (br_f (by decide) (br_f (by decide) (br_t rfl h))))) (fun z => absurd ⟨ha, hb⟩ z)))))))) (fun z => absurd ⟨by decide, by decide⟩ z))
  have x6 : ∀ PX : Int32 → SX → Prop, (¬ (1 ≤ v2 ∧ v2 ≤ 6) → PX 0 (f_lines, f_fastest, f_gain, f_bend, f_ahead, f_mode, f_holds, f_pace, f_line, f_gone, f_dwellLeft, f_stepsInAll, f_ticksInAll, f_speed, f_present, f_laid, a_wordCounts, a_letters, a_values, a_limits, a_switches, a_tool, a_inForce, a_origins, a_given, a_rows, a_probe, a_motions, a_thirds, a_centres, a_steps, a_paces, a_dwells, a_marks, a_nexts, a_joints)) → (1 ≤ v2 → v2 ≤ 6 → PX 1 (f_lines, f_fastest, f_gain, f_bend, v2, f_mode, f_holds, f_pace, f_line, f_gone, f_dwellLeft, f_stepsInAll, f_ticksInAll, f_speed, f_present, f_laid, a_wordCounts, a_letters, a_values, a_limits, a_switches, a_tool, a_inForce, a_origins, a_given, a_rows, a_probe, a_motions, a_thirds, a_centres, a_steps, a_paces, a_dwells, a_marks, a_nexts, a_joints)) → wpX_set PX (f_lines, f_fastest, f_gain, f_bend, f_ahead, f_mode, f_holds, f_pace, f_line, f_gone, f_dwellLeft, f_stepsInAll, f_ticksInAll, f_speed, f_present, f_laid, a_wordCounts, a_letters, a_values, a_limits, a_switches, a_tool, a_inForce, a_origins, a_given, a_rows, a_probe, a_motions, a_thirds, a_centres, a_steps, a_paces, a_dwells, a_marks, a_nexts, a_joints) 6 v2 := by
    intro PX h0 h1
    refine br_t m ?_
    refine br_t (by decide) (br_t (by decide) (br_f (by decide) (?_)))
    refine br_c (fun a => h0 (fun z => Int32.not_lt.mpr z.1 a)) (fun a => ?_)
    refine br_f (by decide) (br_f (by decide) (br_f (by decide) (br_f (by decide) (br_f (by decide) (br_f (by decide) (br_f (by decide) (br_f (by decide) (br_t rfl (?_)))))))))
    refine br_c (fun b => ?_) (fun b => h0 (fun z => b z.2))
    exact br_f (by decide) (br_t (by decide) (h1 (Int32.not_lt.mp a) b))
  rcases pk_ix v1 (n := 7) (by decide) with c | c | ⟨j, hj, ej⟩
  · have yno : ∀ PY : Int32 → SY → Prop, PY 0 (f_lines, f_fastest, f_gain, f_bend, f_ahead, y_speed, y_seen, f_mode, y_line, f_pace, y_left, y_went, f_stepsInAll, f_ticksInAll, y_u, y_v, f_holds, a_letters, a_values, a_wordCounts, a_tool, a_began, a_limits, a_switches, y_force, y_origins, y_here, y_has, y_grouped, y_word, y_from, y_to, y_steps, y_paces, y_dwells, y_ends, y_turn, y_first, y_second, y_centre, y_direction) → wpY_set PY (f_lines, f_fastest, f_gain, f_bend, f_ahead, y_speed, y_seen, f_mode, y_line, f_pace, y_left, y_went, f_stepsInAll, f_ticksInAll, y_u, y_v, f_holds, a_letters, a_values, a_wordCounts, a_tool, a_began, a_limits, a_switches, y_force, y_origins, y_here, y_has, y_grouped, y_word, y_from, y_to, y_steps, y_paces, y_dwells, y_ends, y_turn, y_first, y_second, y_centre, y_direction) v1 v2 := fun PY h => br_t m (yl_in (fun a _ => absurd c (Int32.not_lt.mpr a)) (fun _ => br_t rfl h))
    refine br_t m (br_f (fun z => Int32.not_lt.mpr z c) (br_c (fun _ => yno _ same) (fun a => br_t c (br_f (fun z => ?_) (yno _ same)))))
    rw [fc_lt, fc_1000] at a; rw [fc_le, fc_m1] at z; omega
  · have c6 : 6 < v1 := by rw [fc_le, show (nI 7).toInt = 7 from by decide] at c; rw [fc_lt, fc_6]; omega
    have yno : ∀ PY : Int32 → SY → Prop, PY 0 (f_lines, f_fastest, f_gain, f_bend, f_ahead, y_speed, y_seen, f_mode, y_line, f_pace, y_left, y_went, f_stepsInAll, f_ticksInAll, y_u, y_v, f_holds, a_letters, a_values, a_wordCounts, a_tool, a_began, a_limits, a_switches, y_force, y_origins, y_here, y_has, y_grouped, y_word, y_from, y_to, y_steps, y_paces, y_dwells, y_ends, y_turn, y_first, y_second, y_centre, y_direction) → wpY_set PY (f_lines, f_fastest, f_gain, f_bend, f_ahead, y_speed, y_seen, f_mode, y_line, f_pace, y_left, y_went, f_stepsInAll, f_ticksInAll, y_u, y_v, f_holds, a_letters, a_values, a_wordCounts, a_tool, a_began, a_limits, a_switches, y_force, y_origins, y_here, y_has, y_grouped, y_word, y_from, y_to, y_steps, y_paces, y_dwells, y_ends, y_turn, y_first, y_second, y_centre, y_direction) v1 v2 := fun PY h => br_t m (yl_in (fun _ b => absurd c6 (Int32.not_lt.mpr b)) (fun _ => br_t rfl h))
    have n0 : 0 ≤ v1 := by rw [fc_lt, fc_6] at c6; rw [fc_le, fc_0]; omega
    have n3 : 3 ≤ v1 := by rw [fc_lt, fc_6] at c6; rw [fc_le, fc_3]; omega
    have n5 : ¬ v1 = 5 := by rw [fc_lt, fc_6] at c6; rw [fc_eq, fc_5]; omega
    refine br_t m (br_t n0 (br_t n3 (br_f n5 (br_c (fun _ => yno _ same) (fun a => br_f (Int32.not_lt.mpr n0) (br_t c6 (br_f (fun z => ?_) (yno _ same))))))))
    rw [fc_lt, fc_1] at a; rw [fc_le, fc_m1] at z; omega
  · subst ej
    have low : ∀ j, j < 3 → wpX_set (fun r u' => wpY_set (fun r' v' => r' = r ∧ i_Rel (k + 4) u' v') (f_lines, f_fastest, f_gain, f_bend, f_ahead, y_speed, y_seen, f_mode, y_line, f_pace, y_left, y_went, f_stepsInAll, f_ticksInAll, y_u, y_v, f_holds, a_letters, a_values, a_wordCounts, a_tool, a_began, a_limits, a_switches, y_force, y_origins, y_here, y_has, y_grouped, y_word, y_from, y_to, y_steps, y_paces, y_dwells, y_ends, y_turn, y_first, y_second, y_centre, y_direction) (nI j) v2) (f_lines, f_fastest, f_gain, f_bend, f_ahead, f_mode, f_holds, f_pace, f_line, f_gone, f_dwellLeft, f_stepsInAll, f_ticksInAll, f_speed, f_present, f_laid, a_wordCounts, a_letters, a_values, a_limits, a_switches, a_tool, a_inForce, a_origins, a_given, a_rows, a_probe, a_motions, a_thirds, a_centres, a_steps, a_paces, a_dwells, a_marks, a_nexts, a_joints) (nI j) v2 := by
      intro j hj
      have i3 : vp_in (nI j) 3 := vp_in_nI hj (by omega)
      have cj : (nI j).toNatClampNeg = j := nI_clamp (by omega)
      have j0 : (0 : Int32) ≤ nI j := nI_pos' (by omega)
      have j6 : nI j ≤ 6 := nI_le (b := 6) (by omega) (by omega)
      have j3 : ¬ (3 : Int32) ≤ nI j := ix_3a hj
      have yno : ∀ PY : Int32 → SY → Prop, ¬ (a_tool j ≤ v2 ∧ 1 ≤ v2 ∧ v2 ≤ 1000) → PY 0 (f_lines, f_fastest, f_gain, f_bend, f_ahead, y_speed, y_seen, f_mode, y_line, f_pace, y_left, y_went, f_stepsInAll, f_ticksInAll, y_u, y_v, f_holds, a_letters, a_values, a_wordCounts, a_tool, a_began, a_limits, a_switches, y_force, y_origins, y_here, y_has, y_grouped, y_word, y_from, y_to, y_steps, y_paces, y_dwells, y_ends, y_turn, y_first, y_second, y_centre, y_direction) → wpY_set PY (f_lines, f_fastest, f_gain, f_bend, f_ahead, y_speed, y_seen, f_mode, y_line, f_pace, y_left, y_went, f_stepsInAll, f_ticksInAll, y_u, y_v, f_holds, a_letters, a_values, a_wordCounts, a_tool, a_began, a_limits, a_switches, y_force, y_origins, y_here, y_has, y_grouped, y_word, y_from, y_to, y_steps, y_paces, y_dwells, y_ends, y_turn, y_first, y_second, y_centre, y_direction) (nI j) v2 := by
        intro PY hn h
        unfold wpY_set
        dsimp only
        rw [cj]
        exact br_t m (yl_in (fun _ _ => br_f (by decide) (br_f j3 ⟨i3, br_c (fun _ => h) (fun t => yl_in (fun a b => absurd ⟨Int32.not_lt.mp t, a, b⟩ hn) (fun _ => br_t rfl h))⟩)) (fun z => absurd ⟨j0, j6⟩ z))
      have yok : ∀ PY : Int32 → SY → Prop, a_tool j ≤ v2 → 1 ≤ v2 → v2 ≤ 1000 → PY 1 (f_lines, f_fastest, f_gain, f_bend, f_ahead, y_speed, y_seen, f_mode, y_line, f_pace, y_left, y_went, f_stepsInAll, f_ticksInAll, y_u, y_v, f_holds, a_letters, a_values, a_wordCounts, a_tool, a_began, (upd a_limits j v2), a_switches, y_force, y_origins, y_here, y_has, y_grouped, y_word, y_from, y_to, y_steps, y_paces, y_dwells, y_ends, y_turn, y_first, y_second, y_centre, y_direction) → wpY_set PY (f_lines, f_fastest, f_gain, f_bend, f_ahead, y_speed, y_seen, f_mode, y_line, f_pace, y_left, y_went, f_stepsInAll, f_ticksInAll, y_u, y_v, f_holds, a_letters, a_values, a_wordCounts, a_tool, a_began, a_limits, a_switches, y_force, y_origins, y_here, y_has, y_grouped, y_word, y_from, y_to, y_steps, y_paces, y_dwells, y_ends, y_turn, y_first, y_second, y_centre, y_direction) (nI j) v2 := by
        intro PY t a b h
        unfold wpY_set
        dsimp only
        rw [cj]
        exact br_t m (yl_in (fun _ _ => br_f (by decide) (br_f j3 ⟨i3, br_f (Int32.not_lt.mpr t) (yl_in (fun _ _ => br_f (by decide) ⟨i3, nm_e h⟩) (fun z => absurd ⟨a, b⟩ z))⟩)) (fun z => absurd ⟨j0, j6⟩ z))
      have xl : ∀ PX : Int32 → SX → Prop, (¬ (a_tool j ≤ v2 ∧ 1 ≤ v2 ∧ v2 ≤ 1000) → PX 0 (f_lines, f_fastest, f_gain, f_bend, f_ahead, f_mode, f_holds, f_pace, f_line, f_gone, f_dwellLeft, f_stepsInAll, f_ticksInAll, f_speed, f_present, f_laid, a_wordCounts, a_letters, a_values, a_limits, a_switches, a_tool, a_inForce, a_origins, a_given, a_rows, a_probe, a_motions, a_thirds, a_centres, a_steps, a_paces, a_dwells, a_marks, a_nexts, a_joints)) → (a_tool j ≤ v2 → 1 ≤ v2 → v2 ≤ 1000 → PX 1 (f_lines, f_fastest, f_gain, f_bend, f_ahead, f_mode, f_holds, f_pace, f_line, f_gone, f_dwellLeft, f_stepsInAll, f_ticksInAll, f_speed, f_present, f_laid, a_wordCounts, a_letters, a_values, (upd a_limits j v2), a_switches, a_tool, a_inForce, a_origins, a_given, a_rows, a_probe, a_motions, a_thirds, a_centres, a_steps, a_paces, a_dwells, a_marks, a_nexts, a_joints)) → wpX_set PX (f_lines, f_fastest, f_gain, f_bend, f_ahead, f_mode, f_holds, f_pace, f_line, f_gone, f_dwellLeft, f_stepsInAll, f_ticksInAll, f_speed, f_present, f_laid, a_wordCounts, a_letters, a_values, a_limits, a_switches, a_tool, a_inForce, a_origins, a_given, a_rows, a_probe, a_motions, a_thirds, a_centres, a_steps, a_paces, a_dwells, a_marks, a_nexts, a_joints) (nI j) v2 := by
        intro PX h0 h1
        have s68 : a_tool j ≤ v2 → 1 ≤ v2 → v2 ≤ 1000 → wX_set_68 PX (nI j) v2 f_lines f_fastest f_gain f_bend f_ahead f_mode f_holds f_pace f_line f_gone f_dwellLeft f_stepsInAll f_ticksInAll f_speed f_present f_laid a_wordCounts a_letters a_values a_limits a_switches a_tool a_inForce a_origins a_given a_rows a_probe a_motions a_thirds a_centres a_steps a_paces a_dwells a_marks a_nexts a_joints := by
          intro t a b
          unfold wX_set_68
          rw [cj]
          exact ⟨i3, nm_e (h1 t a b)⟩
        have sw : a_tool j ≤ v2 → 1 ≤ v2 → ∀ z, z = (1000 : Int32) → True := fun _ _ _ _ => trivial
        have n5 : ¬ (5 : Int32) < nI j := nI_nlt (a := 5) (by omega) (by omega)
        have n6 : ¬ (6 : Int32) < nI j := nI_nlt (a := 6) (by omega) (by omega)
        have nn0 : ¬ nI j < 0 := nI_pos (by omega)
        unfold wpX_set wpX_leastSetting wpX_mostSetting
        dsimp only
        rw [cj]
        have body : (a_tool j ≤ v2 ∧ 1 ≤ v2) → j = 0 ∨ j = 1 ∨ j = 2 → True := fun _ _ => trivial
        refine br_t m (br_t j0 (br_f j3 ⟨i3, ?_⟩))
        have e1 : ∀ x y : Int32, ¬ x < y → y ≤ x := fun x y h => Int32.not_lt.mp h
        match j, hj with
        | 0, _ =>
          refine br_c (fun t => br_c (fun a => h0 (fun z => Int32.not_lt.mpr z.2.1 a)) (fun a => br_f nn0 (br_f n6 (br_t rfl (br_c (fun b => br_f nn0 (br_f n5 (br_t rfl (s68 (Int32.le_trans t (e1 _ _ a)) (e1 _ _ a) b)))) (fun b => h0 (fun z => b z.2.2))))))) (fun t => ⟨i3, br_c (fun a => h0 (fun z => Int32.not_lt.mpr z.1 a)) (fun a => br_f nn0 (br_f n6 (br_t rfl (br_c (fun b => br_f nn0 (br_f n5 (br_t rfl (s68 (e1 _ _ a) (Int32.le_trans (Int32.le_of_lt (Int32.not_le.mp t)) (e1 _ _ a)) b)))) (fun b => h0 (fun z => b z.2.2))))))⟩)
        | 1, _ =>
          refine br_c (fun t => br_c (fun a => h0 (fun z => Int32.not_lt.mpr z.2.1 a)) (fun a => br_f nn0 (br_f n6 (br_f (by decide) (br_t rfl (br_c (fun b => br_f nn0 (br_f n5 (br_f (by decide) (br_t rfl (s68 (Int32.le_trans t (e1 _ _ a)) (e1 _ _ a) b))))) (fun b => h0 (fun z => b z.2.2)))))))) (fun t => ⟨i3, br_c (fun a => h0 (fun z => Int32.not_lt.mpr z.1 a)) (fun a => br_f nn0 (br_f n6 (br_f (by decide) (br_t rfl (br_c (fun b => br_f nn0 (br_f n5 (br_f (by decide) (br_t rfl (s68 (e1 _ _ a) (Int32.le_trans (Int32.le_of_lt (Int32.not_le.mp t)) (e1 _ _ a)) b))))) (fun b => h0 (fun z => b z.2.2)))))))⟩)
        | 2, _ =>
          refine br_c (fun t => br_c (fun a => h0 (fun z => Int32.not_lt.mpr z.2.1 a)) (fun a => br_f nn0 (br_f n6 (br_f (by decide) (br_f (by decide) (br_t rfl (br_c (fun b => br_f nn0 (br_f n5 (br_f (by decide) (br_f (by decide) (br_t rfl (s68 (Int32.le_trans t (e1 _ _ a)) (e1 _ _ a) b)))))) (fun b => h0 (fun z => b z.2.2))))))))) (fun t => ⟨i3, br_c (fun a => h0 (fun z => Int32.not_lt.mpr z.1 a)) (fun a => br_f nn0 (br_f n6 (br_f (by decide) (br_f (by decide) (br_t rfl (br_c (fun b => br_f nn0 (br_f n5 (br_f (by decide) (br_f (by decide) (br_t rfl (s68 (e1 _ _ a) (Int32.le_trans (Int32.le_of_lt (Int32.not_le.mp t)) (e1 _ _ a)) b)))))) (fun b => h0 (fun z => b z.2.2))))))))⟩)
      exact xl _ (fun z => yno _ z same) (fun t a b => yok _ t a b ⟨rfl, r012 j hj t a b⟩)
    match j, hj with
    | 0, _ => exact low 0 (by decide)
    | 1, _ => exact low 1 (by decide)
    | 2, _ => exact low 2 (by decide)
    | 3, _ => exact x3 _ (fun z => y3n _ z same) (fun a b => y3y _ a b ⟨rfl, r3 a b⟩)
    | 4, _ => exact x4 _ (fun z => y4n _ z same) (fun a b => y4y _ a b ⟨rfl, r4 a b⟩)
    | 5, _ => exact x5 _ (fun z => y5n _ z same) (fun a b => y5y _ a b ⟨rfl, r5 a b⟩)
    | 6, _ => exact x6 _ (fun z => y6n _ z same) (fun a b => y6y _ a b ⟨rfl, r6 a b⟩)
end SET
end
section
section JN2
def jn_v (L V M lim s0 : Nat → Int32) (fs bend : Int32) (N : Nat) : Nat → Option Nat → Int32
  | 0, o => (match o with | none => 0 | some b => nI (rn_j L V M lim s0 fs bend N b))
  | d + 1, o => (match o with | none => 0 | some b => jn_v L V M lim s0 fs bend N d (rn_x L V M lim s0 N b))
section
variable {f_lines f_fastest f_gain f_bend f_ahead f_mode f_holds f_pace f_line f_gone f_dwellLeft f_stepsInAll f_ticksInAll f_speed f_present f_laid : Int32} {a_wordCounts a_letters a_values a_limits a_switches a_tool a_inForce a_origins a_given a_rows a_probe a_motions a_thirds a_centres a_steps a_paces a_dwells a_marks a_nexts a_joints : Nat → Int32}
theorem jn_x {post : Int32 → Prop} {s0 : Nat → Int32} {N q : Nat} (K : rn_K a_letters a_values a_wordCounts a_limits s0 f_fastest f_bend N) (hX : xr_ a_letters a_values a_wordCounts a_limits s0 f_fastest f_bend N f_laid a_rows a_motions a_thirds a_centres a_steps a_paces a_dwells a_marks a_nexts a_joints) (hq : q ≤ 5) :
    ∀ d i o, i + d = q → (∀ b, o = some b → b < N ∧ 0 < px_st a_letters a_values a_wordCounts a_limits s0 b) → post (jn_v a_letters a_values a_wordCounts a_limits s0 f_fastest f_bend N d o) → wX_joint_26 post (nI q) f_lines f_fastest f_gain f_bend f_ahead f_mode f_holds f_pace f_line f_gone f_dwellLeft f_stepsInAll f_ticksInAll f_speed f_present f_laid a_wordCounts a_letters a_values a_limits a_switches a_tool a_inForce a_origins a_given a_rows a_probe a_motions a_thirds a_centres a_steps a_paces a_dwells a_marks a_nexts a_joints (d + 1) (nj_I o) (nI i) := by
  have N30 : N ≤ 30 := K.2.2.2.2.1
  intro d
  induction d with
  | zero =>
    intro i o hi ho h
    refine br_t (nI_le (by omega) (by omega)) ?_
    unfold wX_joint_49
    cases o with
    | none => exact br_t rfl h
    | some b =>
      obtain ⟨b1, b2⟩ := ho b rfl
      refine br_f (nj_Im b (by omega)) ?_
      show vp_in (nI b) 30 ∧ post (a_joints (nI b).toNatClampNeg)
      rw [nI_clamp (show b < 2 ^ 31 by omega), (hX.2.2 b b1).2, if_neg (by omega)]
      exact ⟨vp_in_nI (by omega) (by omega), h⟩
  | succ d ih =>
    intro i o hi ho h
    refine br_f (nI_ge (by omega) (by omega)) ?_
    cases o with
    | none =>
      refine br_t rfl ?_
      unfold wX_joint_49
      exact br_t rfl h
    | some b =>
      obtain ⟨b1, b2⟩ := ho b rfl
      refine br_f (nj_Im b (by omega)) ?_
      show vp_in (nI b) 30 ∧ ∀ x, x = a_nexts (nI b).toNatClampNeg → _
      rw [nI_clamp (show b < 2 ^ 31 by omega), (hX.2.2 b b1).1, if_neg (by omega)]
      exact ⟨vp_in_nI (by omega) (by omega), nm_e (nm_r (nI_1 i) (ih (i + 1) _ (by omega) (fun c hc => (rk_x b c hc).2) h))⟩
end
section
variable {f_lines f_fastest f_gain f_bend f_ahead f_speed f_seen f_state f_line f_pace f_left f_went f_allSteps f_allTicks f_u f_v f_holds : Int32} {a_letters a_values a_many a_tool a_began a_limit a_trips a_force a_origins a_here a_has a_grouped a_word a_from a_to a_steps a_paces a_dwells a_ends a_turn a_first a_second a_centre a_direction : Nat → Int32}
theorem jn_y {post : Int32 → SY → Prop} {s0 : Nat → Int32} {N q : Nat} (K : rn_K a_letters a_values a_many a_limit s0 f_fastest f_bend N) (hY : yr_ a_letters a_values a_many a_limit s0 f_fastest N f_seen a_from a_to a_steps a_paces a_dwells a_ends a_turn a_first a_second a_centre) (hq : q ≤ 5) :
    ∀ d i o, i + d = q → (∀ b, o = some b → b < N) → (∀ D, post (jn_v a_letters a_values a_many a_limit s0 f_fastest f_bend N d o) (f_lines, f_fastest, f_gain, f_bend, f_ahead, f_speed, f_seen, f_state, f_line, f_pace, f_left, f_went, f_allSteps, f_allTicks, f_u, f_v, f_holds, a_letters, a_values, a_many, a_tool, a_began, a_limit, a_trips, a_force, a_origins, a_here, a_has, a_grouped, a_word, a_from, a_to, a_steps, a_paces, a_dwells, a_ends, a_turn, a_first, a_second, a_centre, D)) → wY_joint_34 post (nI q) f_lines f_fastest f_gain f_bend f_ahead f_speed f_seen f_state f_line f_pace f_left f_went f_allSteps f_allTicks f_u f_v f_holds a_letters a_values a_many a_tool a_began a_limit a_trips a_force a_origins a_here a_has a_grouped a_word a_from a_to a_steps a_paces a_dwells a_ends a_turn a_first a_second a_centre a_direction (d + 1) (nj_I o) (nI i) := by
  have N30 : N ≤ 30 := K.2.2.2.2.1
  have g55n : (∀ D, post 0 (f_lines, f_fastest, f_gain, f_bend, f_ahead, f_speed, f_seen, f_state, f_line, f_pace, f_left, f_went, f_allSteps, f_allTicks, f_u, f_v, f_holds, a_letters, a_values, a_many, a_tool, a_began, a_limit, a_trips, a_force, a_origins, a_here, a_has, a_grouped, a_word, a_from, a_to, a_steps, a_paces, a_dwells, a_ends, a_turn, a_first, a_second, a_centre, D)) → wY_joint_55 post (-1) f_lines f_fastest f_gain f_bend f_ahead f_speed f_seen f_state f_line f_pace f_left f_went f_allSteps f_allTicks f_u f_v f_holds a_letters a_values a_many a_tool a_began a_limit a_trips a_force a_origins a_here a_has a_grouped a_word a_from a_to a_steps a_paces a_dwells a_ends a_turn a_first a_second a_centre a_direction := by
    intro h
    unfold wY_joint_55 wY_joint_68
    exact br_f (by decide) (br_f (by decide) (h a_direction))
  intro d
  induction d with
  | zero =>
    intro i o hi ho h
    refine br_t (nI_le (by omega) (by omega)) ?_
    cases o with
    | none => exact g55n h
    | some b =>
      have b1 := ho b rfl
      unfold wY_joint_55 wY_joint_68
      refine br_t (nI_pos' (n := b) (by omega)) (yf_ov (n := b) K hY b1 ?_)
      cases e : rn_x a_letters a_values a_many a_limit s0 N b with
      | none =>
        refine br_f (by decide) ?_
        have h' := h a_direction
        have e0 : jn_v a_letters a_values a_many a_limit s0 f_fastest f_bend N 0 (some b) = 0 := by
          show nI (rn_j a_letters a_values a_many a_limit s0 f_fastest f_bend N b) = 0
          unfold rn_j; rw [e]; rfl
        rw [e0] at h'
        exact h'
      | some m =>
        obtain ⟨m1, m2, m3⟩ := rk_x b m e
        refine br_t (nI_pos' (n := m) (by omega)) ?_
        refine yf_jp (n := b) (m := m) K hY b1 m2 (fun D => ?_)
        have h' := h D
        have e0 : jn_v a_letters a_values a_many a_limit s0 f_fastest f_bend N 0 (some b) = rn_P a_letters a_values a_many s0 f_fastest f_bend b m := ((rk_j K b1).2 m e).symm
        rw [e0] at h'
        exact h'
  | succ d ih =>
    intro i o hi ho h
    refine br_f (nI_ge (by omega) (by omega)) ?_
    cases o with
    | none => exact br_t (by decide) (g55n h)
    | some b =>
      have b1 := ho b rfl
      refine br_f (nI_pos (n := b) (by omega)) (yf_ov (n := b) K hY b1 (nm_r (nI_1 i) (ih (i + 1) _ (by omega) (fun c hc => (rk_x b c hc).2.1) h)))
end
theorem i_vc_joint {k : Nat} {u : SX} {v : SY} (I : i_Rel k u v) (hk : k + 4 ≤ 2048) (v1 : Int32) : wpX_joint (fun r => wpY_joint (fun r' v' => r' = r ∧ i_Rel (k + 4) u v') v v1) u v1 := by
  obtain ⟨w, y_u, y_v, y_direction, ⟨f_lines, f_fastest, f_gain, f_bend, f_ahead, f_mode, f_holds, f_pace, f_line, f_gone, f_dwellLeft, f_stepsInAll, f_ticksInAll, f_speed, f_present, f_laid, y_speed, y_seen, y_line, y_left, y_went, a_wordCounts, a_letters, a_values, a_limits, a_switches, a_tool, a_inForce, a_origins, a_given, a_rows, a_probe, a_motions, a_thirds, a_centres, a_steps, a_paces, a_dwells, a_marks, a_nexts, a_joints, a_began, y_force, y_origins, y_here, y_has, y_grouped, y_word, y_from, y_to, y_steps, y_paces, y_dwells, y_ends, y_turn, y_first, y_second, y_centre, rfl, rfl, R⟩, rfl⟩ := I
  have same : (-1 : Int32) = -1 ∧ i_Rel (k + 4) (f_lines, f_fastest, f_gain, f_bend, f_ahead, f_mode, f_holds, f_pace, f_line, f_gone, f_dwellLeft, f_stepsInAll, f_ticksInAll, f_speed, f_present, f_laid, a_wordCounts, a_letters, a_values, a_limits, a_switches, a_tool, a_inForce, a_origins, a_given, a_rows, a_probe, a_motions, a_thirds, a_centres, a_steps, a_paces, a_dwells, a_marks, a_nexts, a_joints) (f_lines, f_fastest, f_gain, f_bend, f_ahead, y_speed, y_seen, f_mode, y_line, f_pace, y_left, y_went, f_stepsInAll, f_ticksInAll, y_u, y_v, f_holds, a_letters, a_values, a_wordCounts, a_tool, a_began, a_limits, a_switches, y_force, y_origins, y_here, y_has, y_grouped, y_word, y_from, y_to, y_steps, y_paces, y_dwells, y_ends, y_turn, y_first, y_second, y_centre, y_direction) := ⟨rfl, rl_mk R⟩
  have e5 : 6 ≤ v1 ↔ ¬ v1 ≤ 5 := by rw [fc_le, fc_le, fc_6, fc_5]; omega
  dsimp only
  have yBad : ∀ PY : Int32 → SY → Prop, (¬ (0 ≤ v1 ∧ v1 ≤ 5) ∨ ¬ (f_mode = 1 ∨ f_mode = 4)) → PY (-1) (f_lines, f_fastest, f_gain, f_bend, f_ahead, y_speed, y_seen, f_mode, y_line, f_pace, y_left, y_went, f_stepsInAll, f_ticksInAll, y_u, y_v, f_holds, a_letters, a_values, a_wordCounts, a_tool, a_began, a_limits, a_switches, y_force, y_origins, y_here, y_has, y_grouped, y_word, y_from, y_to, y_steps, y_paces, y_dwells, y_ends, y_turn, y_first, y_second, y_centre, y_direction) → wpY_joint PY (f_lines, f_fastest, f_gain, f_bend, f_ahead, y_speed, y_seen, f_mode, y_line, f_pace, y_left, y_went, f_stepsInAll, f_ticksInAll, y_u, y_v, f_holds, a_letters, a_values, a_wordCounts, a_tool, a_began, a_limits, a_switches, y_force, y_origins, y_here, y_has, y_grouped, y_word, y_from, y_to, y_steps, y_paces, y_dwells, y_ends, y_turn, y_first, y_second, y_centre, y_direction) v1 := by
    intro PY z h
    unfold wpY_joint
    refine yl_in (fun a b => br_f (by decide) ?_) (fun _ => br_t rfl h)
    rcases z with z | z
    · exact absurd ⟨a, b⟩ z
    · exact br_f (fun y => z (Or.inl y)) (br_f (fun y => z (Or.inr y)) h)
  unfold wpX_joint wpX_hasBlock
  dsimp only
  refine br_c (fun a => yBad _ (Or.inl (fun z => Int32.not_lt.mpr z.1 a)) same) (fun a => br_c (fun b => yBad _ (Or.inl (fun z => e5.mp b z.2)) same) (fun b => ?_))
  have a' : 0 ≤ v1 := Int32.not_lt.mp a
  have b' : v1 ≤ 5 := Decidable.byContradiction (fun z => b (e5.mpr z))
  obtain ⟨q, q1, q2⟩ := nI_of a
  subst q2
  have hq : q ≤ 5 := (nI_leI (b := 5) (by omega) (by omega)).mp b'
  have run : (f_mode = 1 ∨ f_mode = 4) → ∃ n26, wX_joint_26 (fun r => wpY_joint (fun r' v' => r' = r ∧ i_Rel (k + 4) (f_lines, f_fastest, f_gain, f_bend, f_ahead, f_mode, f_holds, f_pace, f_line, f_gone, f_dwellLeft, f_stepsInAll, f_ticksInAll, f_speed, f_present, f_laid, a_wordCounts, a_letters, a_values, a_limits, a_switches, a_tool, a_inForce, a_origins, a_given, a_rows, a_probe, a_motions, a_thirds, a_centres, a_steps, a_paces, a_dwells, a_marks, a_nexts, a_joints) v') (f_lines, f_fastest, f_gain, f_bend, f_ahead, y_speed, y_seen, f_mode, y_line, f_pace, y_left, y_went, f_stepsInAll, f_ticksInAll, y_u, y_v, f_holds, a_letters, a_values, a_wordCounts, a_tool, a_began, a_limits, a_switches, y_force, y_origins, y_here, y_has, y_grouped, y_word, y_from, y_to, y_steps, y_paces, y_dwells, y_ends, y_turn, y_first, y_second, y_centre, y_direction) (nI q)) (nI q) f_lines f_fastest f_gain f_bend f_ahead f_mode f_holds f_pace f_line f_gone f_dwellLeft f_stepsInAll f_ticksInAll f_speed f_present f_laid a_wordCounts a_letters a_values a_limits a_switches a_tool a_inForce a_origins a_given a_rows a_probe a_motions a_thirds a_centres a_steps a_paces a_dwells a_marks a_nexts a_joints n26 f_line 0 := by
    intro m
    obtain ⟨N, n, Lh, hn, el, eyl, W⟩ := rl_rn R (by rcases m with z | z <;> rw [z] <;> decide)
    have s1 : 0 < px_st a_letters a_values a_wordCounts a_limits a_began n := by
      rcases W with z | z | z | z
      · exact z.2.1
      · exact z.2.1
      · rw [z.1] at m; rcases m with y | y <;> exact absurd y (by decide)
      · rw [z.1] at m; rcases m with y | y <;> exact absurd y (by decide)
    subst el eyl
    refine ⟨q + 1, ?_⟩
    refine jn_x (f_line := nI n) Lh.2.1 Lh.2.2.1 hq q 0 (some n) (by omega) (fun b hb => by obtain rfl := Option.some.inj hb; exact ⟨hn, s1⟩) ?_
    have y34 := fun (PY : Int32 → SY → Prop) h => jn_y (post := PY) (f_line := nI n) (f_state := f_mode) (f_speed := y_speed) (f_left := y_left) (f_went := y_went) (f_allSteps := f_stepsInAll) (f_allTicks := f_ticksInAll) (f_u := y_u) (f_v := y_v) (f_holds := f_holds) (f_pace := f_pace) (f_lines := f_lines) (f_gain := f_gain) (f_ahead := f_ahead) (a_tool := a_tool) (a_began := a_began) (a_trips := a_switches) (a_force := y_force) (a_origins := y_origins) (a_here := y_here) (a_has := y_has) (a_grouped := y_grouped) (a_word := y_word) (a_direction := y_direction) Lh.2.1 Lh.2.2.2 hq q 0 (some n) (by omega) (fun b hb => by obtain rfl := Option.some.inj hb; exact hn) h
    unfold wpY_joint
    have fin := y34 (fun r' v' => r' = jn_v a_letters a_values a_wordCounts a_limits a_began f_fastest f_bend N q (some n) ∧ i_Rel (k + 4) (f_lines, f_fastest, f_gain, f_bend, f_ahead, f_mode, f_holds, f_pace, (nI n), f_gone, f_dwellLeft, f_stepsInAll, f_ticksInAll, f_speed, f_present, f_laid, a_wordCounts, a_letters, a_values, a_limits, a_switches, a_tool, a_inForce, a_origins, a_given, a_rows, a_probe, a_motions, a_thirds, a_centres, a_steps, a_paces, a_dwells, a_marks, a_nexts, a_joints) v') (fun D => ⟨rfl, rl_mk R⟩)
    exact yl_in (fun _ _ => br_f (by decide) (br_c (fun _ => ⟨q + 1, fin⟩) (fun z => br_t (m.elim (fun y => absurd y z) id) ⟨q + 1, fin⟩))) (fun z => absurd ⟨a', b'⟩ z)
  refine br_c (fun m => br_f (by decide) (run (Or.inl m))) (fun m => br_c (fun m4 => br_f (by decide) (run (Or.inr m4))) (fun m4 => br_t rfl (yBad _ (Or.inr (fun z => z.elim m m4)) same)))
end JN2
end
section
section LST
theorem ls_t : True := trivial
end LST
end
