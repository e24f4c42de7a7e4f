section PLN
/-! What a program lays out: one pure picture for both sides. L, V, M: letters, values, counts of words. -/
def bo_I (b : Bool) : Int32 := if b then 1 else 0
def pl_gr (g : Int32) : Int32 :=
  if 0 ≤ g ∧ g ≤ 3 then 0 else if 17 ≤ g ∧ g ≤ 19 then 1 else if g = 20 ∨ g = 21 then 2 else if g = 90 ∨ g = 91 then 3
  else if g = 54 ∨ g = 55 then 4 else if g = 4 ∨ g = 28 ∨ g = 53 ∨ g = 92 then 5 else -1
def pl_bad (l x : Int32) : Bool :=
  decide (l = 0 ∧ pl_gr x < 0 ∨ l = 1 ∧ ¬ x = 0 ∧ ¬ x = 2 ∨ l = 8 ∧ (x < 1 ∨ 1000 < x) ∨ l = 9 ∧ (x < 0 ∨ 1000 < x))
def rd_no (L V : Nat → Int32) (b : Nat) : Nat → Bool
  | 0 => false
  | j + 1 => rd_no L V b j || pl_bad (L (b + j)) (V (b + j))
def rd_fo (L V : Nat → Int32) (f0 : Nat → Int32) (b : Nat) : Nat → Nat → Int32
  | 0 => upd f0 5 (-1)
  | j + 1 => if L (b + j) = 0 ∧ 0 ≤ pl_gr (V (b + j)) then upd (rd_fo L V f0 b j) (pl_gr (V (b + j))).toNatClampNeg (V (b + j)) else rd_fo L V f0 b j
def rd_gs (L V : Nat → Int32) (b : Nat) : Nat → Nat → Bool
  | 0 => fun _ => false
  | j + 1 => if L (b + j) = 0 ∧ 0 ≤ pl_gr (V (b + j)) then (fun g => if g = (pl_gr (V (b + j))).toNatClampNeg then true else rd_gs L V b j g) else rd_gs L V b j
def rd_hs (L : Nat → Int32) (b : Nat) : Nat → Nat → Bool
  | 0 => fun _ => false
  | j + 1 => if L (b + j) = 0 then rd_hs L b j else (fun i => if i = (L (b + j)).toNatClampNeg then true else rd_hs L b j i)
def rd_wd (L V : Nat → Int32) (w0 : Nat → Int32) (b : Nat) : Nat → Nat → Int32
  | 0 => w0
  | j + 1 => if L (b + j) = 0 then rd_wd L V w0 b j else upd (rd_wd L V w0 b j) (L (b + j)).toNatClampNeg (V (b + j))
def rd_tw (L V : Nat → Int32) (b : Nat) : Nat → Bool
  | 0 => false
  | j + 1 => rd_tw L V b j || (if L (b + j) = 0 then decide (0 ≤ pl_gr (V (b + j))) && rd_gs L V b j (pl_gr (V (b + j))).toNatClampNeg else rd_hs L b j (L (b + j)).toNatClampNeg)
def rd_sp (L V : Nat → Int32) (s0 : Int32) (b : Nat) : Nat → Int32
  | 0 => s0
  | j + 1 => if L (b + j) = 8 then V (b + j) else rd_sp L V s0 b j
/-! a line's words with what is in force: F force, H which letters are there, W their ints, S the speed -/
def pl_na (H : Nat → Bool) : Bool := H 2 || H 3 || H 4
def pl_ce (H : Nat → Bool) : Bool := H 5 || H 6 || H 7
def pl_mv (F : Nat → Int32) (H : Nat → Bool) : Bool := decide ((F 5 < 0 ∨ F 5 = 53) ∧ (pl_na H = true ∨ 1 < F 0 ∧ pl_ce H = true))
def pl_mi (F : Nat → Int32) (H : Nat → Bool) (S : Int32) : Int32 :=
  if H 9 = true ∧ ¬ F 5 = 4 ∨ H 9 = false ∧ F 5 = 4 then 3
  else if pl_ce H = true ∧ (¬ 1 < F 0 ∨ 0 ≤ F 5) then 3
  else if pl_na H = true ∧ F 5 = 4 ∨ pl_na H = false ∧ (F 5 = 28 ∨ F 5 = 53 ∨ F 5 = 92) then 3
  else if (F 5 = 28 ∨ F 5 = 53) ∧ F 3 = 91 ∨ F 5 = 53 ∧ 1 < F 0 then 3
  else if pl_mv F H = true ∧ 0 < F 0 ∧ S = 0 then 4 else 0
def pl_sc (F : Nat → Int32) : Int32 := if F 2 = 20 then 5 else 1
def pl_oi (F : Nat → Int32) (a : Nat) : Nat := if F 4 = 54 then a else 3 + a
def pl_to (F : Nat → Int32) (H : Nat → Bool) (W og he : Nat → Int32) (a : Nat) : Int32 :=
  if H (2 + a) = false then he a else if F 5 = 92 then he a else if F 5 = 28 then 0
  else if F 5 = 53 then W (2 + a) * pl_sc F else if F 3 = 90 then W (2 + a) * pl_sc F + og (pl_oi F a) else he a + W (2 + a) * pl_sc F
def pl_o1 (F : Nat → Int32) (H : Nat → Bool) (W he : Nat → Int32) (a : Nat) (og : Nat → Int32) : Nat → Int32 :=
  if H (2 + a) = true ∧ F 5 = 92 then upd og (pl_oi F a) (he a - W (2 + a) * pl_sc F) else og
def pl_og (F : Nat → Int32) (H : Nat → Bool) (W og he : Nat → Int32) : Nat → Int32 :=
  pl_o1 F H W he 2 (pl_o1 F H W he 1 (pl_o1 F H W he 0 og))
def pl_dw (F W : Nat → Int32) : Int32 := if F 5 = 4 then W 9 else 0
def pl_en (H : Nat → Bool) (W : Nat → Int32) : Int32 := if H 1 = false then 0 else if W 1 = 0 then 1 else 2
def pl_pc (F : Nat → Int32) (S fs : Int32) : Int32 := if F 5 = 28 ∨ F 0 = 0 ∨ fs < S then fs else S
def pl_tu (F : Nat → Int32) (H : Nat → Bool) : Int32 := if pl_mv F H = true ∧ 1 < F 0 then F 0 else 0
def pl_fa (F : Nat → Int32) : Nat := if F 1 = 17 then 0 else if F 1 = 18 then 2 else 1
def pl_fb (F : Nat → Int32) : Nat := if F 1 = 17 then 1 else if F 1 = 18 then 0 else 2
def pl_ft (F : Nat → Int32) : Nat := if F 1 = 17 then 2 else if F 1 = 18 then 1 else 0
def pl_ij (F : Nat → Int32) (H : Nat → Bool) (W : Nat → Int32) (a : Nat) : Int32 := if H (5 + a) = true then W (5 + a) * pl_sc F else 0
def pl_wk (on : Bool) (far c d l m x y : Int) : Nat → Nat → Int → Int → Int32 × Nat
  | 0, k, _, _ => (6, k)
  | f + 1, k, u, v =>
    if c + (wk_nx on far (u, v)).1 < 0 ∨ l < c + (wk_nx on far (u, v)).1 ∨ d + (wk_nx on far (u, v)).2 < 0 ∨ m < d + (wk_nx on far (u, v)).2 then (6, k + 1)
    else if (wk_nx on far (u, v)).1 = x ∧ (wk_nx on far (u, v)).2 = y then (0, k + 1)
    else pl_wk on far c d l m x y f (k + 1) (wk_nx on far (u, v)).1 (wk_nx on far (u, v)).2
end PLN
