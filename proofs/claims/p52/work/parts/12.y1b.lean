noncomputable section
theorem qn_le {a b : Nat} (h : a ≤ b) (hb : b < 2 ^ 31) : nI a ≤ nI b := nI_le h hb
/-- what is owned whole -/
theorem pu_own_6 {a b : Nat} (h : a = 4 ∨ a = 7 ∨ (20 ≤ a ∧ a ≤ 43) ∨ (208 ≤ a ∧ a ≤ 219)) : pu_own a b = 6 := by
  unfold pu_own
  repeat (first | rw [if_neg (by omega)] | rw [if_pos (by omega)])
theorem pu_own_7 {a b : Nat} (h : (44 ≤ a ∧ a ≤ 51) ∨ (222 ≤ a ∧ a ≤ 227)) : pu_own a b = 7 := by
  unfold pu_own
  repeat (first | rw [if_neg (by omega)] | rw [if_pos (by omega)])
theorem pu_own_8 {a b : Nat} (h : (9 ≤ a ∧ a ≤ 11) ∨ (228 ≤ a ∧ a ≤ 230)) : pu_own a b = 8 := by
  unfold pu_own
  repeat (first | rw [if_neg (by omega)] | rw [if_pos (by omega)])
-- the design: tables, columns; A has the model's numbers
abbrev q_c (x : Int32) : Nat := x.toNatClampNeg
abbrev q_nt (A : am_M) : Nat := q_c (A 207 1)
abbrev q_w (A : am_M) (t : Nat) : Nat := q_c (A 208 t)
abbrev q_tg (A : am_M) (k : Nat) : Nat := q_c (A 212 k)
/-- the class's number of a kind -/
def q_kc (x : Int32) : Int32 := if x = 0 then 1 else if x = 1 then 2 else if x = 2 then 3 else 0
/-- the model's array for a field of the class's column -/
def q_fld : Nat → Nat
  | 1 => 210 | 2 => 211 | 3 => 212 | 4 => 213 | 5 => 218 | 6 => 219 | 7 => 214 | 8 => 215 | 9 => 216 | _ => 217
def q_cd (s A : am_M) : Prop := s 1 3 = A 207 1 ∧ (∀ t, t < 4 → s 4 t = A 208 t) ∧ (∀ k, k < 24 → s (20 + k) 0 = q_kc (A 209 k)) ∧ (∀ k j, k < 24 → 1 ≤ j → j ≤ 10 → s (20 + k) j = A (q_fld j) k)
def q_md (s A : am_M) : Prop := s 207 1 = A 207 1 ∧ ∀ a, 208 ≤ a → a ≤ 219 → s a = A a
/-- a column that there is, and that is not dropped -/
def q_ok (A : am_M) (t c : Nat) : Prop := t < q_nt A ∧ c < q_w A t ∧ A 209 (6 * t + c) ≠ 3
/-- a formula that suits a table -/
def q_f (A : am_M) (t : Nat) (f one two other : Int32) : Prop :=
  ((f = 0 ∨ f = 1) ∧ ∃ a b, one = nI a ∧ two = nI b ∧ q_ok A t a ∧ q_ok A t b) ∨
  (f = 2 ∧ ∃ a b, one = nI a ∧ two = nI b ∧ q_ok A t a ∧ A 209 (6 * t + a) = 1 ∧ q_ok A (q_tg A (6 * t + a)) b) ∨
  (f = 3 ∧ ∃ o a b, other = nI o ∧ one = nI a ∧ two = nI b ∧ q_ok A o a ∧ A 209 (6 * o + a) = 1 ∧ q_tg A (6 * o + a) = t ∧ q_ok A o b) ∨
  (f = 4 ∧ ∃ o a, other = nI o ∧ one = nI a ∧ q_ok A o a ∧ A 209 (6 * o + a) = 1 ∧ q_tg A (6 * o + a) = t)
def q_wd (A : am_M) : Prop :=
  (A 207 1 = nI (q_nt A) ∧ q_nt A ≤ 4) ∧
  (∀ t, t < 4 → A 208 t = nI (q_w A t) ∧ q_w A t ≤ 6 ∧ (q_nt A ≤ t → q_w A t = 0)) ∧
  (∀ k, k < 24 → (k % 6 < q_w A (k / 6) → A 209 k = 0 ∨ A 209 k = 1 ∨ A 209 k = 2 ∨ A 209 k = 3) ∧ (q_w A (k / 6) ≤ k % 6 → A 209 k = -1)) ∧
  (∀ k, k < 24 → A 209 k = 1 → A 212 k = nI (q_tg A k) ∧ q_tg A k < q_nt A) ∧
  (∀ k, k < 24 → (A 218 k = 0 ∨ (A 218 k = 1 ∧ (A 209 k = 0 ∨ A 209 k = 1))) ∧ (A 219 k = 0 ∨ (A 219 k = 1 ∧ (A 209 k = 0 ∨ A 209 k = 1)))) ∧
  (∀ k, k < 24 → A 209 k = 2 → q_f A (k / 6) (A 214 k) (A 215 k) (A 216 k) (A 217 k))
-- the order of reckoned columns
def q_tb (A : am_M) (k : Nat) : Nat := if A 214 k = 3 ∨ A 214 k = 4 then q_c (A 217 k) else k / 6
def q_u1 (A : am_M) (k : Nat) : Nat := 6 * q_tb A k + q_c (A 215 k)
def q_u2 (A : am_M) (k : Nat) : Nat := if A 214 k = 4 then 24 else 6 * (if A 214 k = 2 then q_tg A (q_u1 A k) else q_tb A k) + q_c (A 216 k)
abbrev q_kn (A : am_M) (c : Nat → Int32) (k : Nat) : Prop := k = 24 ∨ A 209 k ≠ 2 ∨ c k ≠ 0
abbrev q_nx (A : am_M) (c : Nat → Int32) (k : Nat) : Prop := A 209 k = 2 ∧ c k = 0 ∧ q_kn A c (q_u1 A k) ∧ q_kn A c (q_u2 A k)
/-- the first place from j on, of d, where P holds; the end if there is none -/
def q_fi (P : Nat → Prop) [DecidablePred P] : Nat → Nat → Nat
  | 0, j => j
  | d + 1, j => if P j then j else q_fi P d (j + 1)
/-- at how many places P holds -/
def q_co (P : Nat → Prop) [DecidablePred P] : Nat → Nat → Nat
  | 0, _ => 0
  | d + 1, j => (if P j then 1 else 0) + q_co P d (j + 1)
def q_next (A : am_M) (c : Nat → Int32) : Nat := q_fi (q_nx A c) 24 0
def q_left (A : am_M) (c : Nat → Int32) : Nat := q_co (fun k => A 209 k = 2 ∧ c k = 0) 24 0
def q_lay (A : am_M) : Nat → (Nat → Int32) → List Nat
  | 0, _ => []
  | r + 1, c => if q_next A c = 24 then [] else q_next A c :: q_lay A r (upd c (q_next A c) 1)
def q_ord (A : am_M) : List Nat := q_lay A (q_left A (fun _ => 0)) (fun _ => 0)
/-- the number that tells a column -/
def q_code (k : Nat) : Nat := 10 * (k / 6) + k % 6
def q_oc (s A : am_M) : Prop := s 1 8 = nI (q_ord A).length ∧ ∀ i, i < (q_ord A).length → s 7 i = nI (q_code ((q_ord A).getD i 0))
def q_x1 (s A : am_M) : Prop := q_cd s A ∧ q_oc s A ∧ q_md s A ∧ q_wd A
theorem q_x1_d {s t A : am_M} (h : ∀ a b, pu_own a b = 6 → t a b = s a b) (hx : q_x1 s A) : q_x1 t A := by
  obtain ⟨⟨c1, c2, c3, c4⟩, ⟨o1, o2⟩, ⟨m1, m2⟩, w⟩ := hx
  refine ⟨⟨?_, fun t9 h9 => ?_, fun k hk => ?_, fun k j hk h1 h2 => ?_⟩, ⟨?_, fun i hi => ?_⟩, ⟨?_, fun a h1 h2 => ?_⟩, w⟩
  · rw [h 1 3 rfl]; exact c1
  · rw [h 4 t9 rfl]; exact c2 t9 h9
  · rw [h (20 + k) 0 (pu_own_6 (by omega))]; exact c3 k hk
  · rw [h (20 + k) j (pu_own_6 (by omega))]; exact c4 k j hk h1 h2
  · rw [h 1 8 rfl]; exact o1
  · rw [h 7 i rfl]; exact o2 i hi
  · rw [h 207 1 rfl]; exact m1
  · rw [← m2 a h1 h2]; funext b; exact h a b (pu_own_6 (by omega))
-- the rules
def q_x2 (s U : am_M) : Prop :=
  (s 1 6 = U 207 17 ∧ s 207 17 = U 207 17 ∧ U 207 17 = nI (q_c (U 207 17)) ∧ q_c (U 207 17) ≤ 8) ∧
  (∀ r j, r < 8 → j < 6 → s (44 + r) j = U (222 + j) r) ∧ (∀ a, 222 ≤ a → a ≤ 227 → s a = U a) ∧
  (∀ r, r < 8 → (r < q_c (U 207 17) → (∃ t a b, t < 4 ∧ a < 6 ∧ b < 6 ∧ U 222 r = nI t ∧ U 223 r = nI a ∧ U 225 r = nI b) ∧ -9999 ≤ (U 226 r).toInt ∧ (U 226 r).toInt ≤ 9999) ∧ (U 227 r = 0 ∨ U 227 r = 1) ∧ (q_c (U 207 17) ≤ r → U 227 r = 0))
theorem q_x2_d {s t U : am_M} (h : ∀ a b, pu_own a b = 7 → t a b = s a b) (hx : q_x2 s U) : q_x2 t U := by
  obtain ⟨⟨c1, c2, c3, c4⟩, r1, m1, w⟩ := hx
  refine ⟨⟨?_, ?_, c3, c4⟩, fun r j hr hj => ?_, fun a h1 h2 => ?_, w⟩
  · rw [h 1 6 rfl]; exact c1
  · rw [h 207 17 rfl]; exact c2
  · rw [h (44 + r) j (pu_own_7 (by omega))]; exact r1 r j hr hj
  · rw [← m1 a h1 h2]; funext b; exact h a b (pu_own_7 (by omega))
-- the rows: R 0 how many were made, R 1 serial numbers, R 2 cells
def q_cb (s : am_M) (i j k : Nat) (R : am_M) : Prop := (∀ t, t < 4 → s i t = R 0 t) ∧ (∀ p, p < 120 → s j p = R 1 p) ∧ (∀ x, x < 720 → R 1 (x / 6) ≠ 0 → s k x = R 2 x)
def q_mb (s : am_M) (R : am_M) : Prop := (∀ t, t < 4 → s 228 t = R 0 t) ∧ (∀ p, p < 120 → s 229 p = if R 1 p = 0 then 0 else 1) ∧ (∀ x, x < 720 → R 1 (x / 6) ≠ 0 → s 230 x = R 2 x)
/-- a number that a cell may hold -/
def q_v (x : Int32) : Prop := -1000000 ≤ x.toInt ∧ x.toInt ≤ 999999
def q_wr (A R : am_M) : Prop :=
  (∀ t, t < 4 → R 0 t = nI (q_c (R 0 t)) ∧ q_c (R 0 t) ≤ 30 ∧ (q_nt A ≤ t → q_c (R 0 t) = 0)) ∧
  (∀ p, p < 120 → R 1 p ≠ 0 → p % 30 < q_c (R 0 (p / 30))) ∧
  (∀ x, x < 720 → R 1 (x / 6) ≠ 0 → q_v (R 2 x)) ∧
  (∀ p c, p < 120 → c < 6 → R 1 p ≠ 0 → (A 209 (6 * (p / 30) + c) = 3 ∨ A 209 (6 * (p / 30) + c) = -1) → R 2 (6 * p + c) = -1000000) ∧
  (∀ p c, p < 120 → c < 6 → R 1 p ≠ 0 → A 209 (6 * (p / 30) + c) = 1 → R 2 (6 * p + c) = -1000000 ∨ ∃ r, r < 30 ∧ R 2 (6 * p + c) = nI r ∧ R 1 (30 * q_tg A (6 * (p / 30) + c) + r) ≠ 0)
def q_x3 (s A R : am_M) : Prop := q_cb s 9 10 11 R ∧ q_mb s R ∧ q_wr A R
theorem q_x3_d {s t A R : am_M} (h : ∀ a b, pu_own a b = 8 → t a b = s a b) (hx : q_x3 s A R) : q_x3 t A R := by
  obtain ⟨⟨c1, c2, c3⟩, ⟨m1, m2, m3⟩, w⟩ := hx
  refine ⟨⟨fun b hb => ?_, fun b hb => ?_, fun b hb h9 => ?_⟩, ⟨fun b hb => ?_, fun b hb => ?_, fun b hb h9 => ?_⟩, w⟩
  · rw [h 9 b rfl]; exact c1 b hb
  · rw [h 10 b rfl]; exact c2 b hb
  · rw [h 11 b rfl]; exact c3 b hb h9
  · rw [h 228 b rfl]; exact m1 b hb
  · rw [h 229 b rfl]; exact m2 b hb
  · rw [h 230 b rfl]; exact m3 b hb h9
-- the rows ahead, the serial numbers, the form
/-- serial numbers are at most L -/
def q_ser (R : am_M) (L : Nat) : Prop := ∀ p, p < 120 → R 1 p = 0 ∨ ∃ f, 1 ≤ f ∧ f ≤ L ∧ R 1 p = nI f
/-- S came behind R: its rows are R's, but for those that went and those that were made -/
def q_le (R S : am_M) : Prop := (∀ t, t < 4 → q_c (R 0 t) ≤ q_c (S 0 t)) ∧ ∀ p, p < 120 → p % 30 < q_c (R 0 (p / 30)) → S 1 p = R 1 p ∨ S 1 p = 0
/-- the states: the rows that are, and those that were -/
def q_st (Z : Nat → am_M) (k : Nat) (X : am_M) : Prop := X = Z 8 ∨ ∃ j, j < k ∧ X = Z (20 + j)
def q_form (s : am_M) (Z : Nat → am_M) (k L : Nat) : Prop :=
  (s 207 28 = -1 ∧ (s 0 8 = -1 ∨ ∃ t r f, t < q_nt (Z 6) ∧ r < 30 ∧ s 0 8 = nI t ∧ s 0 9 = nI r ∧ s 0 10 = nI f ∧ 1 ≤ f ∧ f ≤ L ∧ ∀ X, q_st Z k X → X 1 (30 * t + r) ≠ nI f)) ∨
  (∃ t r f, t < q_nt (Z 6) ∧ r < 30 ∧ s 0 8 = nI t ∧ s 0 9 = nI r ∧ s 207 28 = nI t ∧ s 207 29 = nI r ∧ s 0 10 = nI f ∧ 1 ≤ f ∧ f ≤ L ∧ r < q_c (Z 8 0 t) ∧ ∀ X, q_st Z k X → r < q_c (X 0 t) → X 1 (30 * t + r) = 0 ∨ X 1 (30 * t + r) = nI f)
/-- the array of the rows ahead leads to six blocks -/
def q_ah (s : am_M) : Prop := (∀ j, j < 6 → ∃ m, m < 6 ∧ s 182 j = nI (183 + 4 * m)) ∧ (∀ i j, i < 6 → j < 6 → s 182 i = s 182 j → i = j)
def q_mh (s : am_M) (l : Nat) (R : am_M) : Prop := (∀ u, u < 4 → s 235 (4 * l + u) = R 0 u) ∧ (∀ p, p < 120 → s 234 (120 * l + p) = if R 1 p = 0 then 0 else 1) ∧ (∀ x, x < 720 → R 1 (x / 6) ≠ 0 → s 233 (720 * l + x) = R 2 x)
def q_x4 (c : Nat) (s : am_M) (Z : Nat → am_M) : Prop := ∃ k L, k ≤ 5 ∧ L ≤ c ∧ L < 100000 ∧ s 0 7 = nI k ∧ s 207 38 = nI k ∧ s 1 12 = nI L ∧ q_ah s ∧
  (∀ j, j < k → (∀ m, m < 6 → s 182 j = nI (183 + 4 * m) → q_cb s (184 + 4 * m) (185 + 4 * m) (186 + 4 * m) (Z (20 + j))) ∧ q_mh s j (Z (20 + j)) ∧ q_wr (Z 6) (Z (20 + j)) ∧ q_ser (Z (20 + j)) L ∧ q_le (Z (20 + j)) (Z 8) ∧ ∀ i, i < j → q_le (Z (20 + i)) (Z (20 + j))) ∧ q_ser (Z 8) L ∧ q_form s Z k L
theorem q_x4_d {c : Nat} {s t : am_M} {Z Y : Nat → am_M} (h : ∀ a b, pu_own a b = 2 ∨ pu_own a b = 9 ∨ pu_own a b = 10 → t a b = s a b) (e6 : Y 6 = Z 6) (e8 : Y 8 = Z 8) (eh : ∀ j, j < 5 → Y (20 + j) = Z (20 + j)) (hx : q_x4 c s Z) : q_x4 c t Y := by
  obtain ⟨k, L, k5, Lc, L1, h1, h2, h3, ⟨a1, a2⟩, sl, se, fo⟩ := hx
  have o9 : ∀ a b, 182 ≤ a → a ≤ 206 → t a b = s a b := fun a b h1 h2 => h a b (by
    right; left
    unfold pu_own
    repeat (first | rw [if_neg (by omega)] | rw [if_pos (by omega)]))
  have o3 : ∀ b, b < 4320 → t 233 b = s 233 b := fun b hb => h 233 b (by
    right; left
    unfold pu_own
    repeat (first | rw [if_neg (by omega)] | rw [if_pos (by omega)]))
  have o4 : ∀ b, b < 720 → t 234 b = s 234 b := fun b hb => h 234 b (by
    right; left
    unfold pu_own
    repeat (first | rw [if_neg (by omega)] | rw [if_pos (by omega)]))
  have o5 : ∀ b, b < 24 → t 235 b = s 235 b := fun b hb => h 235 b (by
    right; left
    unfold pu_own
    repeat (first | rw [if_neg (by omega)] | rw [if_pos (by omega)]))
  have hst : ∀ X, q_st Y k X → q_st Z k X := fun X hX => by
    rcases hX with q | ⟨j, hj, q⟩
    · exact Or.inl (by rw [q, e8])
    · exact Or.inr ⟨j, hj, by rw [q, eh j (by omega)]⟩
  refine ⟨k, L, k5, Lc, L1, by rw [h 0 7 (Or.inl rfl)]; exact h1, by rw [h 207 38 (Or.inl rfl)]; exact h2, by rw [h 1 12 (Or.inr (Or.inl rfl))]; exact h3, ⟨fun j hj => ?_, fun i j hi hj q => ?_⟩, fun j hj => ?_, by rw [e8]; exact se, ?_⟩
  · rw [o9 182 j (by omega) (by omega)]; exact a1 j hj
  · rw [o9 182 i (by omega) (by omega), o9 182 j (by omega) (by omega)] at q; exact a2 i j hi hj q
  · obtain ⟨q1, ⟨q2, q3, q4⟩, q5, q6, q7, q8⟩ := sl j hj
    rw [eh j (by omega), e6, e8]
    refine ⟨fun m hm q => ?_, ⟨fun u hu => ?_, fun p hp => ?_, fun x hx hh => ?_⟩, q5, q6, q7, fun i hi => by rw [eh i (by omega)]; exact q8 i hi⟩
    · rw [o9 182 j (by omega) (by omega)] at q
      obtain ⟨c1, c2, c3⟩ := q1 m hm q
      exact ⟨fun u hu => by rw [o9 _ _ (by omega) (by omega)]; exact c1 u hu, fun u hu => by rw [o9 _ _ (by omega) (by omega)]; exact c2 u hu, fun u hu hh => by rw [o9 _ _ (by omega) (by omega)]; exact c3 u hu hh⟩
    · rw [o5 _ (by omega)]; exact q2 u hu
    · rw [o4 _ (by omega)]; exact q3 p hp
    · rw [o3 _ (by omega)]; exact q4 x hx hh
  · have f1 := h 207 28 (Or.inr (Or.inr rfl))
    have f2 := h 207 29 (Or.inr (Or.inr rfl))
    have f3 := h 0 8 (Or.inr (Or.inr rfl))
    have f4 := h 0 9 (Or.inr (Or.inr rfl))
    have f5 := h 0 10 (Or.inr (Or.inr rfl))
    unfold q_form
    rw [f1, f2, f3, f4, f5, e6, e8]
    rcases fo with ⟨g1, g2⟩ | ⟨T, r, f, g1, g2, g3, g4, g5, g6, g7, g8, g9, g10, g11⟩
    · refine Or.inl ⟨g1, ?_⟩
      rcases g2 with g2 | ⟨T, r, f, g2, g3, g4, g5, g6, g7, g8, g9⟩
      · exact Or.inl g2
      · exact Or.inr ⟨T, r, f, g2, g3, g4, g5, g6, g7, g8, fun X hX => g9 X (hst X hX)⟩
    · exact Or.inr ⟨T, r, f, g1, g2, g3, g4, g5, g6, g7, g8, g9, g10, fun X hX => g11 X (hst X hX)⟩
/-- what rows become in a change: serial numbers stay, or go, or are new -/
def q_sr (R S : am_M) (L M : Nat) : Prop := (∀ t, t < 4 → q_c (R 0 t) ≤ q_c (S 0 t)) ∧ ∀ p, p < 120 → S 1 p = R 1 p ∨ S 1 p = 0 ∨ (q_c (R 0 (p / 30)) ≤ p % 30 ∧ ∃ f, L < f ∧ f ≤ M ∧ S 1 p = nI f)
theorem q_sr_0 {R S : am_M} {L : Nat} (h0 : S 0 = R 0) (h1 : S 1 = R 1) : q_sr R S L L := ⟨fun t _ => by rw [h0]; exact Nat.le_refl _, fun p _ => Or.inl (by rw [h1])⟩
/-- a change that ends the taking back, or none -/
theorem q_x4_up {c : Nat} {s t : am_M} {Z Y : Nat → am_M} {L M : Nat} (hx : q_x4 c s Z) (hL : s 1 12 = nI L) (hL1 : L < 100000) (hM : t 1 12 = nI M) (hLM : L ≤ M) (hMc : M ≤ c) (hM1 : M < 100000) (hn4 : q_nt (Z 6) ≤ 4) (h : ∀ a b, ¬ (a = 1 ∧ b = 12) → pu_own a b = 9 ∨ pu_own a b = 10 → t a b = s a b) (hc : (t 0 7 = s 0 7 ∧ t 207 38 = s 207 38 ∧ Y = Z) ∨ (t 0 7 = 0 ∧ t 207 38 = 0 ∧ q_nt (Z 6) ≤ q_nt (Y 6) ∧ q_sr (Z 8) (Y 8) L M)) : q_x4 c t Y := by
  obtain ⟨k, L', k5, Lc, L1, h1, h2, h3, ⟨a1, a2⟩, sl, se, fo⟩ := hx
  have eL : L' = L := by
    rw [hL] at h3
    exact ((nI_eq (by omega) (by omega)).mp h3).symm
  subst eL
  have o9 : ∀ a b, 182 ≤ a → a ≤ 206 → t a b = s a b := fun a b h1 h2 => h a b (by omega) (by
    left
    unfold pu_own
    repeat (first | rw [if_neg (by omega)] | rw [if_pos (by omega)]))
  have hah : q_ah t := ⟨fun j hj => by rw [o9 182 j (by omega) (by omega)]; exact a1 j hj, fun i j hi hj q => by rw [o9 182 i (by omega) (by omega), o9 182 j (by omega) (by omega)] at q; exact a2 i j hi hj q⟩
  have f1 := h 207 28 (by omega) (Or.inr rfl)
  have f2 := h 207 29 (by omega) (Or.inr rfl)
  have f3 := h 0 8 (by omega) (Or.inr rfl)
  have f4 := h 0 9 (by omega) (Or.inr rfl)
  have f5 := h 0 10 (by omega) (Or.inr rfl)
  have ser : ∀ R, q_ser R L' → q_ser R M := fun R q p hp => by
    rcases q p hp with g | ⟨f, g1, g2, g3⟩
    · exact Or.inl g
    · exact Or.inr ⟨f, g1, by omega, g3⟩
  rcases hc with ⟨u1, u2, rfl⟩ | ⟨u1, u2, nt, sr⟩
  · have o3 : ∀ b, b < 4320 → t 233 b = s 233 b := fun b hb => h 233 b (by omega) (by
      left
      unfold pu_own
      repeat (first | rw [if_neg (by omega)] | rw [if_pos (by omega)]))
    have o4 : ∀ b, b < 720 → t 234 b = s 234 b := fun b hb => h 234 b (by omega) (by
      left
      unfold pu_own
      repeat (first | rw [if_neg (by omega)] | rw [if_pos (by omega)]))
    have o5 : ∀ b, b < 24 → t 235 b = s 235 b := fun b hb => h 235 b (by omega) (by
      left
      unfold pu_own
      repeat (first | rw [if_neg (by omega)] | rw [if_pos (by omega)]))
    refine ⟨k, M, k5, hMc, hM1, u1.trans h1, u2.trans h2, hM, hah, fun j hj => ?_, ser _ se, ?_⟩
    · obtain ⟨q1, ⟨q2, q3, q4⟩, q5, q6, q7, q8⟩ := sl j hj
      refine ⟨fun m hm q => ?_, ⟨fun u hu => ?_, fun p hp => ?_, fun x hx hh => ?_⟩, q5, ser _ q6, q7, q8⟩
      · rw [o9 182 j (by omega) (by omega)] at q
        obtain ⟨c1, c2, c3⟩ := q1 m hm q
        exact ⟨fun u hu => by rw [o9 _ _ (by omega) (by omega)]; exact c1 u hu, fun u hu => by rw [o9 _ _ (by omega) (by omega)]; exact c2 u hu, fun u hu hh => by rw [o9 _ _ (by omega) (by omega)]; exact c3 u hu hh⟩
      · rw [o5 _ (by omega)]; exact q2 u hu
      · rw [o4 _ (by omega)]; exact q3 p hp
      · rw [o3 _ (by omega)]; exact q4 x hx hh
    · unfold q_form
      rw [f1, f2, f3, f4, f5]
      rcases fo with ⟨g1, g2⟩ | ⟨T, r, f, g1, g2, g3, g4, g5, g6, g7, g8, g9, g10, g11⟩
      · refine Or.inl ⟨g1, ?_⟩
        rcases g2 with g2 | ⟨T, r, f, g2, g3, g4, g5, g6, g7, g8, g9⟩
        · exact Or.inl g2
        · exact Or.inr ⟨T, r, f, g2, g3, g4, g5, g6, g7, by omega, g9⟩
      · exact Or.inr ⟨T, r, f, g1, g2, g3, g4, g5, g6, g7, g8, by omega, g10, g11⟩
  · refine ⟨0, M, by omega, hMc, hM1, by rw [u1, nI_0], by rw [u2, nI_0], hM, hah, fun j hj => absurd hj (Nat.not_lt_zero _), fun p hp => ?_, ?_⟩
    · rcases sr.2 p hp with g | g | ⟨-, f, g1, g2, g3⟩
      · rw [g]; exact ser _ se p hp
      · exact Or.inl g
      · exact Or.inr ⟨f, by omega, g2, g3⟩
    · unfold q_form
      rw [f1, f2, f3, f4, f5]
      have st : ∀ X, q_st Y 0 X → X = Y 8 := fun X hX => by
        rcases hX with q | ⟨j, hj, -⟩
        · exact q
        · exact absurd hj (Nat.not_lt_zero _)
      rcases fo with ⟨g1, g2⟩ | ⟨T, r, f, g1, g2, g3, g4, g5, g6, g7, g8, g9, g10, g11⟩
      · refine Or.inl ⟨g1, ?_⟩
        rcases g2 with g2 | ⟨T, r, f, g2, g3, g4, g5, g6, g7, g8, g9⟩
        · exact Or.inl g2
        · refine Or.inr ⟨T, r, f, by omega, g3, g4, g5, g6, g7, by omega, fun X hX => ?_⟩
          rw [st X hX]
          by_cases hT : 30 * T + r < 120
          · rcases sr.2 _ hT with q | q | ⟨-, f', q1, q2, q3⟩
            · rw [q]; exact g9 _ (Or.inl rfl)
            · rw [q]; intro q9
              exact nI_ne0 (n := f) (by omega) (by omega) q9.symm
            · rw [q3]; intro q9
              have := (nI_eq (by omega) (by omega)).mp q9
              omega
          · exfalso
            omega
      · have hT4 : 30 * T + r < 120 := by omega
        refine Or.inr ⟨T, r, f, by omega, g2, g3, g4, g5, g6, g7, g8, by omega, ?_, fun X hX hr => ?_⟩
        · have := sr.1 T (by omega); omega
        · rw [st X hX] at hr ⊢
          rcases sr.2 _ hT4 with q | q | ⟨q0, -⟩
          · rw [q]; exact g11 _ (Or.inl rfl) g10
          · exact Or.inl q
          · rw [show (30 * T + r) / 30 = T from by omega, show (30 * T + r) % 30 = r from by omega] at q0
            omega
theorem q_x4_f {c : Nat} {s t : am_M} {Z : Nat → am_M} {k L : Nat} (k5 : k ≤ 5) (Lc : L ≤ c) (L1 : L < 100000) (h1 : s 0 7 = nI k) (h2 : s 207 38 = nI k) (h3 : s 1 12 = nI L) (ah : q_ah s) (sl : ∀ j, j < k → (∀ m, m < 6 → s 182 j = nI (183 + 4 * m) → q_cb s (184 + 4 * m) (185 + 4 * m) (186 + 4 * m) (Z (20 + j))) ∧ q_mh s j (Z (20 + j)) ∧ q_wr (Z 6) (Z (20 + j)) ∧ q_ser (Z (20 + j)) L ∧ q_le (Z (20 + j)) (Z 8) ∧ ∀ i, i < j → q_le (Z (20 + i)) (Z (20 + j))) (se : q_ser (Z 8) L) (h : ∀ a b, pu_own a b = 2 ∨ pu_own a b = 9 → t a b = s a b) (fo : q_form t Z k L) : q_x4 c t Z := by
  have o9 : ∀ a b, 182 ≤ a → a ≤ 206 → t a b = s a b := fun a b h1 h2 => h a b (by
    right
    unfold pu_own
    repeat (first | rw [if_neg (by omega)] | rw [if_pos (by omega)]))
  have o3 : ∀ b, b < 4320 → t 233 b = s 233 b := fun b hb => h 233 b (by
    right
    unfold pu_own
    repeat (first | rw [if_neg (by omega)] | rw [if_pos (by omega)]))
  have o4 : ∀ b, b < 720 → t 234 b = s 234 b := fun b hb => h 234 b (by
    right
    unfold pu_own
    repeat (first | rw [if_neg (by omega)] | rw [if_pos (by omega)]))
  have o5 : ∀ b, b < 24 → t 235 b = s 235 b := fun b hb => h 235 b (by
    right
    unfold pu_own
    repeat (first | rw [if_neg (by omega)] | rw [if_pos (by omega)]))
  refine ⟨k, L, k5, Lc, L1, (h 0 7 (Or.inl rfl)).trans h1, (h 207 38 (Or.inl rfl)).trans h2, (h 1 12 (Or.inr rfl)).trans h3, ⟨fun j hj => by rw [o9 182 j (by omega) (by omega)]; exact ah.1 j hj, fun i j hi hj q => by rw [o9 182 i (by omega) (by omega), o9 182 j (by omega) (by omega)] at q; exact ah.2 i j hi hj q⟩, fun j hj => ?_, se, fo⟩
  obtain ⟨q1, ⟨q2, q3, q4⟩, q5⟩ := sl j hj
  refine ⟨fun m hm q => ?_, ⟨fun u hu => ?_, fun p hp => ?_, fun x hx hh => ?_⟩, q5⟩
  · rw [o9 182 j (by omega) (by omega)] at q
    obtain ⟨c1, c2, c3⟩ := q1 m hm q
    exact ⟨fun u hu => by rw [o9 _ _ (by omega) (by omega)]; exact c1 u hu, fun u hu => by rw [o9 _ _ (by omega) (by omega)]; exact c2 u hu, fun u hu hh => by rw [o9 _ _ (by omega) (by omega)]; exact c3 u hu hh⟩
  · rw [o5 _ (by omega)]; exact q2 u hu
  · rw [o4 _ (by omega)]; exact q3 p hp
  · rw [o3 _ (by omega)]; exact q4 x hx hh
theorem pu_x4_z {c : Nat} {s t : am_M} {Z Y : Nat → am_M} (hx : q_x4 c s Z) (hn4 : q_nt (Z 6) ≤ 4) (hf : ∀ a b, pu_own a b = 9 ∨ pu_own a b = 10 → t a b = s a b) (u1 : t 0 7 = 0) (u2 : t 207 38 = 0) (hn : q_nt (Z 6) ≤ q_nt (Y 6)) (h8 : Y 8 = Z 8) : q_x4 c t Y := by
  have hx' := hx
  obtain ⟨k, L, k5, Lc, L1, h1, h2, h3, -⟩ := hx'
  exact q_x4_up hx h3 L1 ((hf 1 12 (Or.inl rfl)).trans h3) (Nat.le_refl _) Lc L1 hn4 (fun a b _ q => hf a b q) (Or.inr ⟨u1, u2, hn, by rw [h8]; exact q_sr_0 rfl rfl⟩)
-- the questions; Q has the class's memory of them
abbrev q_nq (Q : am_M) : Nat := q_c (Q 52 3)
/-- the model's number of a column, out of the class's -/
def q_mc (x : Int32) : Int32 := if x = -1 then -1 else nI (6 * (q_c x / 10) + q_c x % 10)
/-- a source's column's origin, part, and the source's width and parts -/
def q_so (Q : am_M) (src c : Nat) : Int32 := if src < 10 then nI (10 * src + c) else Q (68 + 7 * (src - 10)) c
def q_sp (Q : am_M) (src c : Nat) : Nat := if src < 10 then 0 else q_c (Q (69 + 7 * (src - 10)) c)
def q_sn (Q : am_M) (src : Nat) : Nat := if src < 10 then 1 else q_c (Q (67 + 7 * (src - 10)) 9)
def q_sw (A Q : am_M) (src : Nat) : Nat := if src < 10 then q_w A src else q_c (Q (67 + 7 * (src - 10)) 7)
def q_src (A Q : am_M) (j src : Nat) : Prop := src < q_nt A ∨ (10 ≤ src ∧ src < 10 + j ∧ Q (67 + 7 * (src - 10)) 0 ≠ 2)
def q_qc (s Q : am_M) : Prop := s 52 3 = Q 52 3 ∧ ∀ a, 67 ≤ a → a ≤ 122 → s a = Q a
def q_qm (s Q : am_M) : Prop := s 207 39 = Q 52 3 ∧ ∀ j, j < q_nq Q → s 236 j = Q (67 + 7 * j) 0 ∧ s 237 j = Q (67 + 7 * j) 1 ∧ (Q (67 + 7 * j) 0 = 0 → s 238 j = Q (67 + 7 * j) 8) ∧ s 239 j = Q (67 + 7 * j) 2 ∧ (Q (67 + 7 * j) 0 ≠ 0 → s 240 j = Q (67 + 7 * j) 4 ∧ s 242 j = Q (67 + 7 * j) 6) ∧ (Q (67 + 7 * j) 0 = 2 → s 241 j = Q (67 + 7 * j) 5) ∧ s 243 j = Q (67 + 7 * j) 12 ∧
  (∀ i, i < q_c (Q (67 + 7 * j) 12) → s 244 (6 * j + i) = Q (70 + 7 * j) i ∧ s 245 (6 * j + i) = Q (71 + 7 * j) i ∧ s 246 (6 * j + i) = Q (72 + 7 * j) i ∧ s 247 (6 * j + i) = Q (73 + 7 * j) i) ∧ (Q (67 + 7 * j) 0 ≠ 2 → s 249 j = Q (67 + 7 * j) 7) ∧ ∀ c, c < 54 → s 252 (54 * j + c) = q_mc (Q (68 + 7 * j) c)
/-- a plain question's columns -/
def q_qp (A Q : am_M) (j src : Nat) : Prop := Q (67 + 7 * j) 4 = -1 ∧ Q (67 + 7 * j) 5 = -1 ∧ Q (67 + 7 * j) 6 = -1 ∧ ∃ u w n, Q (67 + 7 * j) 8 = nI u ∧ Q (67 + 7 * j) 7 = nI w ∧ Q (67 + 7 * j) 9 = nI n ∧ u ≤ q_sw A Q src ∧ w ≤ 6 * (j + 2) ∧ n ≤ j + 2 ∧ (∀ c, c < u → Q (68 + 7 * j) c = q_so Q src c ∧ Q (69 + 7 * j) c = nI (q_sp Q src c)) ∧
  ((Q (67 + 7 * j) 2 = -1 ∧ w = u ∧ n = q_sn Q src) ∨ ∃ c T C J, Q (67 + 7 * j) 2 = nI c ∧ c < u ∧ q_so Q src c = nI (10 * T + C) ∧ T < q_nt A ∧ C < 6 ∧ A 209 (6 * T + C) = 1 ∧ A 212 (6 * T + C) = nI J ∧ Q (67 + 7 * j) 3 = nI J ∧ J < q_nt A ∧ u ≤ w ∧ w - u ≤ q_w A J ∧ n = q_sn Q src + 1 ∧ ∀ i, i < w - u → Q (68 + 7 * j) (u + i) = nI (10 * J + i) ∧ Q (69 + 7 * j) (u + i) = nI (q_sn Q src)) ∧
  ∃ m, Q (67 + 7 * j) 12 = nI m ∧ m ≤ 6 ∧ ∀ i, i < m → ∃ l c r, l < 3 ∧ c < w ∧ r < 4 ∧ Q (70 + 7 * j) i = nI l ∧ Q (71 + 7 * j) i = nI c ∧ Q (72 + 7 * j) i = nI r ∧ -999999 ≤ (Q (73 + 7 * j) i).toInt ∧ (Q (73 + 7 * j) i).toInt ≤ 999999
/-- a question that gathers -/
def q_qg (A Q : am_M) (j src : Nat) : Prop := Q (67 + 7 * j) 2 = -1 ∧ Q (67 + 7 * j) 7 = nI 5 ∧ Q (67 + 7 * j) 9 = nI 0 ∧ Q (67 + 7 * j) 12 = nI 0 ∧ (∀ c, c < 54 → Q (68 + 7 * j) c = -1) ∧ ∃ key val, Q (67 + 7 * j) 4 = nI key ∧ Q (67 + 7 * j) 6 = nI val ∧ key < q_sw A Q src ∧ val < q_sw A Q src ∧
  ((Q (67 + 7 * j) 0 = 1 ∧ Q (67 + 7 * j) 5 = -1) ∨ (Q (67 + 7 * j) 0 = 2 ∧ ∃ sec, Q (67 + 7 * j) 5 = nI sec ∧ sec < q_sw A Q src))
def q_q1 (A Q : am_M) (j : Nat) : Prop := (∃ src, Q (67 + 7 * j) 1 = nI src ∧ q_src A Q j src ∧ ((Q (67 + 7 * j) 0 = 0 ∧ q_qp A Q j src) ∨ q_qg A Q j src)) ∧
  (∀ c, c < 54 → Q (68 + 7 * j) c = -1 ∨ ∃ T C, Q (68 + 7 * j) c = nI (10 * T + C) ∧ T < q_nt A ∧ C < q_w A T) ∧ (∀ c, c < 54 → Q (69 + 7 * j) c = nI (q_c (Q (69 + 7 * j) c)) ∧ (Q (68 + 7 * j) c ≠ -1 → q_c (Q (69 + 7 * j) c) < q_c (Q (67 + 7 * j) 9)))
/-- a question that is not made yet -/
def q_q0 (Q : am_M) (j : Nat) : Prop := Q (67 + 7 * j) 2 = -1 ∧ Q (67 + 7 * j) 4 = -1 ∧ Q (67 + 7 * j) 5 = -1 ∧ Q (67 + 7 * j) 6 = -1 ∧ Q (67 + 7 * j) 7 = 0 ∧ Q (67 + 7 * j) 9 = 0 ∧ Q (67 + 7 * j) 12 = 0 ∧ ∀ c, c < 54 → Q (68 + 7 * j) c = -1 ∧ Q (69 + 7 * j) c = 0
def q_qw (A Q : am_M) : Prop := (Q 52 3 = nI (q_nq Q) ∧ q_nq Q ≤ 8) ∧ (∀ j, j < q_nq Q → q_q1 A Q j) ∧ ∀ j, q_nq Q ≤ j → j < 8 → q_q0 Q j
def q_x5 (s A Q : am_M) : Prop := q_qc s Q ∧ q_qm s Q ∧ q_qw A Q
/-- places of the questions -/
theorem pu_own_11 {a b : Nat} (h : (67 ≤ a ∧ a ≤ 122) ∨ (236 ≤ a ∧ a ≤ 247) ∨ (a = 249 ∧ b < 8) ∨ a = 252) : pu_own a b = 11 := by
  unfold pu_own
  repeat (first | rw [if_neg (by omega)] | rw [if_pos (by omega)])
theorem q_x5_up {s t A B Q : am_M} (h : ∀ a b, pu_own a b = 11 → t a b = s a b) (hw : q_qw A Q → q_qw B Q) (hx : q_x5 s A Q) : q_x5 t B Q := by
  obtain ⟨⟨c1, c2⟩, ⟨m1, m2⟩, w⟩ := hx
  have n8 : q_nq Q ≤ 8 := w.1.2
  have o : ∀ a b, (67 ≤ a ∧ a ≤ 122) ∨ (236 ≤ a ∧ a ≤ 247) ∨ (a = 249 ∧ b < 8) ∨ a = 252 → t a b = s a b := fun a b q => h a b (pu_own_11 q)
  refine ⟨⟨(h 52 3 rfl).trans c1, fun a h1 h2 => ?_⟩, ⟨(h 207 39 rfl).trans m1, fun j hj => ?_⟩, hw w⟩
  · rw [← c2 a h1 h2]; funext b; exact o a b (by omega)
  · obtain ⟨e1, e2, e3, e4, e5, e6, e7, e8, e9, e10⟩ := m2 j hj
    refine ⟨(o _ _ (by omega)).trans e1, (o _ _ (by omega)).trans e2, fun q => (o _ _ (by omega)).trans (e3 q), (o _ _ (by omega)).trans e4, fun q => ⟨(o _ _ (by omega)).trans (e5 q).1, (o _ _ (by omega)).trans (e5 q).2⟩, fun q => (o _ _ (by omega)).trans (e6 q), (o _ _ (by omega)).trans e7, fun i hi => ?_, fun q => (o _ _ (by omega)).trans (e9 q), fun c hc => (o _ _ (by omega)).trans (e10 c hc)⟩
    obtain ⟨f1, f2, f3, f4⟩ := e8 i hi
    exact ⟨(o _ _ (by omega)).trans f1, (o _ _ (by omega)).trans f2, (o _ _ (by omega)).trans f3, (o _ _ (by omega)).trans f4⟩
/-- the design keeps what questions are made of -/
def q_dk (A B : am_M) : Prop := q_nt A ≤ q_nt B ∧ (∀ t, t < 4 → q_w A t ≤ q_w B t) ∧ ∀ k, k < 24 → A 209 k = 1 → B 209 k = 1 ∧ B 212 k = A 212 k
theorem q_sw_dk {A B Q : am_M} {j src : Nat} (h : q_dk A B) (h4 : q_nt A ≤ 4) (hs : q_src A Q j src) : q_sw A Q src ≤ q_sw B Q src := by
  unfold q_sw
  by_cases q : src < 10
  · rw [if_pos q, if_pos q]
    rcases hs with g | ⟨g, -⟩
    · exact h.2.1 src (by omega)
    · omega
  · rw [if_neg q, if_neg q]; exact Nat.le_refl _
theorem q_qw_dk {A B Q : am_M} (h4 : q_nt A ≤ 4) (h : q_dk A B) (hw : q_qw A Q) : q_qw B Q := by
  obtain ⟨w1, w2, w3⟩ := hw
  refine ⟨w1, fun j hj => ?_, w3⟩
  obtain ⟨⟨src, s1, s2, s3⟩, s4, s5⟩ := w2 j hj
  have sw := q_sw_dk h h4 s2
  have nt := h.1
  refine ⟨⟨src, s1, ?_, ?_⟩, fun c hc => ?_, s5⟩
  · rcases s2 with g | g
    · exact Or.inl (by omega)
    · exact Or.inr g
  · rcases s3 with ⟨k0, k1, k2, k3, u, w, n, a1, a2, a3, a4, a5, a6, a7, a8, a9⟩ | ⟨g1, g2, g3, g4, g5, key, val, g6, g7, g8, g9, g10⟩
    · refine Or.inl ⟨k0, k1, k2, k3, u, w, n, a1, a2, a3, by omega, a5, a6, a7, ?_, a9⟩
      rcases a8 with g | ⟨c, T, C, J, b1, b2, b3, b4, b5, b6, b7, b8, b9, b10, b11, b12, b13⟩
      · exact Or.inl g
      · obtain ⟨l1, l2⟩ := h.2.2 (6 * T + C) (by omega) b6
        have := h.2.1 J (by omega)
        exact Or.inr ⟨c, T, C, J, b1, b2, b3, by omega, b5, l1, l2.trans b7, b8, by omega, b10, by omega, b12, b13⟩
    · refine Or.inr ⟨g1, g2, g3, g4, g5, key, val, g6, g7, by omega, by omega, ?_⟩
      rcases g10 with g | ⟨g, sec, g2, g3⟩
      · exact Or.inl g
      · exact Or.inr ⟨g, sec, g2, by omega⟩
  · rcases s4 c hc with g | ⟨T, C, g1, g2, g3⟩
    · exact Or.inl g
    · have := h.2.1 T (by omega)
      exact Or.inr ⟨T, C, g1, by omega, by omega⟩
-- the acts' steps; V has the class's memory of them
def q_vm (s V : am_M) : Prop := ∀ j, j < 4 → s 255 j = V (126 + 14 * j) 1 ∧ ∀ k, k < q_c (V (126 + 14 * j) 1) → s 256 (6 * j + k) = V (128 + 14 * j + 2 * k) 0 ∧ (V (128 + 14 * j + 2 * k) 0 = 1 → s 257 (6 * j + k) = V (128 + 14 * j + 2 * k) 3 ∧ ∀ i, i < 6 → s 260 (6 * (6 * j + k) + i) = V (129 + 14 * j + 2 * k) i) ∧ (V (128 + 14 * j + 2 * k) 0 ≠ 1 → s 257 (6 * j + k) = V (128 + 14 * j + 2 * k) 1 ∧ s 259 (6 * j + k) = V (128 + 14 * j + 2 * k) 3) ∧ (V (128 + 14 * j + 2 * k) 0 = 0 ∨ V (128 + 14 * j + 2 * k) 0 = 2 → s 258 (6 * j + k) = V (128 + 14 * j + 2 * k) 2)
def q_v1 (A Q V : am_M) (x : Nat) : Prop :=
  ((V x 0 = 0 ∨ V x 0 = 2) ∧ (∃ q c, V x 1 = nI q ∧ q < q_nq Q ∧ Q (67 + 7 * q) 0 = 0 ∧ V x 2 = nI c ∧ c < q_c (Q (67 + 7 * q) 7)) ∧ q_v (V x 3)) ∨
  (V x 0 = 1 ∧ (∃ t, V x 3 = nI t ∧ t < q_nt A) ∧ ∀ i, i < 6 → q_v (V (x + 1) i)) ∨
  (V x 0 = 3 ∧ (∃ q, V x 1 = nI q ∧ q < q_nq Q) ∧ ∃ k, V x 3 = nI k ∧ 1 ≤ k ∧ k ≤ 5)
def q_vw (A Q V : am_M) : Prop := ∀ j, j < 4 → V (126 + 14 * j) 1 = nI (q_c (V (126 + 14 * j) 1)) ∧ q_c (V (126 + 14 * j) 1) ≤ 6 ∧ ∀ k, k < q_c (V (126 + 14 * j) 1) → q_v1 A Q V (128 + 14 * j + 2 * k)
def q_x6 (s A Q V : am_M) : Prop := (∀ a, 126 ≤ a → a ≤ 181 → s a = V a) ∧ q_vm s V ∧ q_vw A Q V
theorem pu_own_12 {a b : Nat} (h : (126 ≤ a ∧ a ≤ 181) ∨ (255 ≤ a ∧ a ≤ 260)) : pu_own a b = 12 := by
  unfold pu_own
  repeat (first | rw [if_neg (by omega)] | rw [if_pos (by omega)])
theorem q_x6_up {s t A B Q P V : am_M} (h : ∀ a b, pu_own a b = 12 → t a b = s a b) (hn : q_nt A ≤ q_nt B) (hq : q_nq Q ≤ q_nq P ∧ ∀ q, q < q_nq Q → P (67 + 7 * q) 0 = Q (67 + 7 * q) 0 ∧ P (67 + 7 * q) 7 = Q (67 + 7 * q) 7) (hx : q_x6 s A Q V) : q_x6 t B P V := by
  obtain ⟨c, m, w⟩ := hx
  have o : ∀ a b, (126 ≤ a ∧ a ≤ 181) ∨ (255 ≤ a ∧ a ≤ 260) → t a b = s a b := fun a b q => h a b (pu_own_12 q)
  refine ⟨fun a h1 h2 => ?_, fun j hj => ?_, fun j hj => ?_⟩
  · rw [← c a h1 h2]; funext b; exact o a b (by omega)
  · obtain ⟨e1, e2⟩ := m j hj
    refine ⟨(o _ _ (by omega)).trans e1, fun k hk => ?_⟩
    obtain ⟨f1, f2, f3, f4⟩ := e2 k hk
    exact ⟨(o _ _ (by omega)).trans f1, fun q => ⟨(o _ _ (by omega)).trans (f2 q).1, fun i hi => (o _ _ (by omega)).trans ((f2 q).2 i hi)⟩, fun q => ⟨(o _ _ (by omega)).trans (f3 q).1, (o _ _ (by omega)).trans (f3 q).2⟩, fun q => (o _ _ (by omega)).trans (f4 q)⟩
  · obtain ⟨w1, w2, w3⟩ := w j hj
    refine ⟨w1, w2, fun k hk => ?_⟩
    rcases w3 k hk with ⟨g1, ⟨q, c, g2, g3, g4, g5, g6⟩, g7⟩ | ⟨g1, ⟨t9, g2, g3⟩, g4⟩ | ⟨g1, ⟨q, g2, g3⟩, g4⟩
    · obtain ⟨p1, p2⟩ := hq.2 q g3
      exact Or.inl ⟨g1, ⟨q, c, g2, by have := hq.1; omega, p1.trans g4, g5, by rw [p2]; exact g6⟩, g7⟩
    · exact Or.inr (Or.inl ⟨g1, ⟨t9, g2, by omega⟩, g4⟩)
    · exact Or.inr (Or.inr ⟨g1, ⟨q, g2, by have := hq.1; omega⟩, g4⟩)
/-- what a change of the design owes to the questions and the acts -/
abbrev q_dq (A B Q : am_M) : Prop := q_nt A ≤ q_nt B ∧ (q_qw A Q → q_qw B Q)
theorem q_dq_0 {A Q : am_M} : q_dq A A Q := ⟨Nat.le_refl _, fun q => q⟩
theorem q_dq_k {A B Q : am_M} (h4 : q_nt A ≤ 4) (h : q_dk A B) : q_dq A B Q := ⟨h.1, fun q => q_qw_dk h4 h q⟩
theorem q_dk_of {A B : am_M} (h1 : B 207 1 = A 207 1) (h8 : B 208 = A 208) (h9 : B 209 = A 209) (h12 : B 212 = A 212) : q_dk A B := by
  refine ⟨?_, fun t _ => ?_, fun k _ q => ?_⟩
  · unfold q_nt; rw [h1]; exact Nat.le_refl _
  · unfold q_w; rw [h8]; exact Nat.le_refl _
  · rw [h9, h12]; exact ⟨q, rfl⟩
theorem q_56 {s t A B Q V : am_M} (h11 : ∀ a b, pu_own a b = 11 → t a b = s a b) (h12 : ∀ a b, pu_own a b = 12 → t a b = s a b) (hq : q_dq A B Q) (x5 : q_x5 s A Q) (x6 : q_x6 s A Q V) : q_x5 t B Q ∧ q_x6 t B Q V :=
  ⟨q_x5_up h11 hq.2 x5, q_x6_up h12 hq.1 ⟨Nat.le_refl _, fun _ _ => ⟨rfl, rfl⟩⟩ x6⟩
theorem pr_le {x y : Int32} : y < x ↔ ¬ x ≤ y := by
  rw [Int32.lt_iff_toInt_lt, Int32.le_iff_toInt_le]; omega
end
