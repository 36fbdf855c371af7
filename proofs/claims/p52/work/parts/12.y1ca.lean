noncomputable section
-- what cells hold that are reckoned, what is broken
/-- a row of a table is there -/
abbrev q_hs (R : am_M) (t : Nat) (x : Int32) : Prop := q_in 30 x = 1 ∧ R 1 (30 * t + q_c x) ≠ 0
/-- a whole number as a cell; BLANK beyond the limits -/
def q_limI (z : Int) : Int32 := if z < -999999 then -1000000 else if z ≤ 999999 then (Int64.ofInt z).toInt32 else -1000000
def q_oz (x : Int32) : Int32 := if x = -1000000 then 0 else x
def q_sm (A R : am_M) (k r i : Nat) : Int := if R 1 (30 * q_tb A k + i) ≠ 0 ∧ R 2 (180 * q_tb A k + 6 * i + q_c (A 215 k)) = nI r then (if A 214 k = 4 then 1 else (q_oz (R 2 (180 * q_tb A k + 6 * i + q_c (A 216 k)))).toInt) else 0
def q_sumf (f : Nat → Int) : Nat → Nat → Int
  | 0, _ => 0
  | d + 1, j => f j + q_sumf f d (j + 1)
def q_sum (A R : am_M) (k r : Nat) : Int := q_sumf (q_sm A R k r) 30 0
abbrev q_a (A R : am_M) (k r : Nat) : Int32 := R 2 (180 * (k / 6) + 6 * r + q_c (A 215 k))
abbrev q_b (A R : am_M) (k r : Nat) : Int32 := R 2 (180 * (k / 6) + 6 * r + q_c (A 216 k))
def q_val (A R : am_M) (k r : Nat) : Int32 :=
  if A 214 k = 2 then (if q_hs R (q_tg A (q_u1 A k)) (q_a A R k r) then R 2 (180 * q_tg A (q_u1 A k) + 6 * q_c (q_a A R k r) + q_c (A 216 k)) else -1000000)
  else if A 214 k = 3 ∨ A 214 k = 4 then q_limI (q_sum A R k r)
  else if q_a A R k r = -1000000 then -1000000 else if q_b A R k r = -1000000 then -1000000
  else if A 214 k = 0 then q_limI ((q_a A R k r).toInt + (q_b A R k r).toInt) else q_limI ((q_a A R k r).toInt * (q_b A R k r).toInt)
/-- the rows with a column reckoned, in the rows below j -/
def q_rkp (A R : am_M) (k j : Nat) : am_M := fun x y => if x = 2 ∧ y < 720 ∧ y / 180 = k / 6 ∧ y % 6 = k % 6 ∧ R 1 (y / 6) ≠ 0 ∧ y / 6 % 30 < j then q_val A R k (y / 6 % 30) else R x y
def q_rk (A R : am_M) (k : Nat) : am_M := q_rkp A R k 30
def q_reck (A R : am_M) : am_M := (q_ord A).foldl (q_rk A) R
/-- a lower row that is there has the same number -/
abbrev q_rep (R : am_M) (t r c : Nat) : Prop := q_fi (fun i => R 1 (30 * t + i) ≠ 0 ∧ R 2 (180 * t + 6 * i + c) = R 2 (180 * t + 6 * r + c)) r 0 < r
/-- a cell is broken by a reason: 0 RANGE, 1 NEED, 2 SINGLE, 3 LINK -/
def q_bk (A R : am_M) (t r c : Nat) : Nat → Bool
  | 0 => decide (A 209 (6 * t + c) = 0 ∧ R 2 (180 * t + 6 * r + c) ≠ -1000000 ∧ (R 2 (180 * t + 6 * r + c) < A 210 (6 * t + c) ∨ A 211 (6 * t + c) < R 2 (180 * t + 6 * r + c)))
  | 1 => decide (A 218 (6 * t + c) ≠ 0 ∧ R 2 (180 * t + 6 * r + c) = -1000000)
  | 2 => decide (A 219 (6 * t + c) ≠ 0 ∧ R 2 (180 * t + 6 * r + c) ≠ -1000000 ∧ q_rep R t r c)
  | _ => decide (A 209 (6 * t + c) = 1 ∧ R 2 (180 * t + 6 * r + c) ≠ -1000000 ∧ ¬ q_hs R (q_tg A (6 * t + c)) (R 2 (180 * t + 6 * r + c)))
abbrev q_It : Type := Nat × Nat × Nat × Nat
def q_b1 (A R : am_M) (t r i : Nat) : List q_It := if q_bk A R t r (i / 4) (i % 4) = true then [(1 + i % 4, t, r, i / 4)] else []
def q_bi (A R : am_M) (t r : Nat) : Nat → Nat → List q_It
  | 0, _ => []
  | d + 1, i => q_b1 A R t r i ++ q_bi A R t r d (i + 1)
/-- a rule holds of two numbers -/
def q_ho (rel more a b : Int32) : Int32 :=
  if rel = 3 then (if (a = -1000000 ↔ b = -1000000) then 1 else 0)
  else if a = -1000000 then 1 else if b = -1000000 then 1
  else if rel = 0 then (if a.toInt ≤ b.toInt + more.toInt then 1 else 0)
  else if rel = 1 then (if a = b + more then 1 else 0) else (if a = b + more then 0 else 1)
def q_r1 (U R : am_M) (t r j : Nat) : List q_It := if U 227 j = 0 ∧ U 222 j = nI t ∧ q_ho (U 224 j) (U 226 j) (R 2 (180 * t + 6 * r + q_c (U 223 j))) (R 2 (180 * t + 6 * r + q_c (U 225 j))) = 0 then [(5, t, r, j)] else []
def q_br (U R : am_M) (t r : Nat) : Nat → Nat → List q_It
  | 0, _ => []
  | d + 1, j => q_r1 U R t r j ++ q_br U R t r d (j + 1)
def q_row (A U R : am_M) (t r : Nat) : List q_It := q_bi A R t r (4 * q_w A t) 0 ++ q_br U R t r (q_c (U 207 17)) 0
def q_row1 (A U R : am_M) (p : Nat) : List q_It := if R 1 p = 0 then [] else q_row A U R (p / 30) (p % 30)
def q_all (A U R : am_M) : Nat → Nat → List q_It
  | 0, _ => []
  | d + 1, p => q_row1 A U R p ++ q_all A U R d (p + 1)
def q_brk (A U R : am_M) : List q_It := q_all A U R (30 * q_nt A) 0
-- what no state lacks: nothing is broken, all that is reckoned holds what comes of it
/-- each reckoned column has what its formula gives -/
def q_L (A R : am_M) : Prop := ∀ k, k ∈ q_ord A → ∀ p, p < 120 → p / 30 = k / 6 → R 1 p ≠ 0 → R 2 (6 * p + k % 6) = q_val A R k (p % 30)
/-- rules are of columns that there are -/
def q_rr (A U : am_M) : Prop := ∀ j, j < q_c (U 207 17) → U 227 j = 0 → q_c (U 223 j) < q_w A (q_c (U 222 j)) ∧ q_c (U 225 j) < q_w A (q_c (U 222 j))
/-- what a link does is never the law's word for an exception -/
def q_r3 (A : am_M) : Prop := ∀ k, k < 24 → A 213 k ≠ -9999999
def q_dd (A U : am_M) : Prop := q_rr A U ∧ q_r3 A
def q_gd (A U R : am_M) : Prop := q_brk A U R = [] ∧ q_L A R ∧ q_dd A U
def q_x7 (s : am_M) (Z : Nat → am_M) : Prop := ∃ k, k ≤ 5 ∧ s 0 7 = nI k ∧ q_gd (Z 6) (Z 7) (Z 8) ∧ ∀ j, j < k → q_gd (Z 6) (Z 7) (Z (20 + j))
theorem q_x7_d {s t : am_M} {Z Y : Nat → am_M} (h : t 0 7 = s 0 7) (e6 : Y 6 = Z 6) (e7 : Y 7 = Z 7) (e8 : Y 8 = Z 8) (eh : ∀ j, j < 5 → Y (20 + j) = Z (20 + j)) (hx : q_x7 s Z) : q_x7 t Y := by
  obtain ⟨k, k5, h1, h2, h3⟩ := hx
  exact ⟨k, k5, h.trans h1, by rw [e6, e7, e8]; exact h2, fun j hj => by rw [e6, e7, eh j (by omega)]; exact h3 j hj⟩
theorem q_x7_z {t : am_M} {Y : Nat → am_M} (h : t 0 7 = 0) (g : q_gd (Y 6) (Y 7) (Y 8)) : q_x7 t Y := ⟨0, by omega, h, g, fun j hj => absurd hj (Nat.not_lt_zero j)⟩
theorem q_x7_g {s : am_M} {Z : Nat → am_M} (h : q_x7 s Z) : q_gd (Z 6) (Z 7) (Z 8) := by
  obtain ⟨k, -, -, g, -⟩ := h
  exact g
end
