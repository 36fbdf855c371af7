noncomputable section
-- what is broken: one list, in the order of rows, columns, reasons, rules
theorem q_bi_a {A R : am_M} {t r : Nat} : ∀ (d e i : Nat), q_bi A R t r (d + e) i = q_bi A R t r d i ++ q_bi A R t r e (i + d) := by
  intro d
  induction d with
  | zero => intro e i; rw [Nat.zero_add]; rfl
  | succ d ih =>
    intro e i
    rw [show d + 1 + e = (d + e) + 1 from by omega]
    show q_b1 A R t r i ++ q_bi A R t r (d + e) (i + 1) = (q_b1 A R t r i ++ q_bi A R t r d (i + 1)) ++ _
    rw [ih e (i + 1), List.append_assoc, show i + 1 + d = i + (d + 1) from by omega]
theorem q_all_a {A U R : am_M} : ∀ (d e p : Nat), q_all A U R (d + e) p = q_all A U R d p ++ q_all A U R e (p + d) := by
  intro d
  induction d with
  | zero => intro e i; rw [Nat.zero_add]; rfl
  | succ d ih =>
    intro e i
    rw [show d + 1 + e = (d + e) + 1 from by omega]
    show q_row1 A U R i ++ q_all A U R (d + e) (i + 1) = (q_row1 A U R i ++ q_all A U R d (i + 1)) ++ _
    rw [ih e (i + 1), List.append_assoc, show i + 1 + d = i + (d + 1) from by omega]
theorem q_b1_len {A R : am_M} {t r i : Nat} : (q_b1 A R t r i).length ≤ 1 := by
  unfold q_b1
  by_cases c : q_bk A R t r (i / 4) (i % 4) = true
  · rw [if_pos c]; exact Nat.le_refl _
  · rw [if_neg c]; exact Nat.zero_le _
theorem q_bi_len {A R : am_M} {t r : Nat} : ∀ (d i : Nat), (q_bi A R t r d i).length ≤ d := by
  intro d
  induction d with
  | zero => intro i; exact Nat.le_refl _
  | succ d ih =>
    intro i
    show (q_b1 A R t r i ++ q_bi A R t r d (i + 1)).length ≤ _
    rw [List.length_append]
    have := ih (i + 1)
    have := @q_b1_len A R t r i
    omega
theorem q_r1_len {U R : am_M} {t r i : Nat} : (q_r1 U R t r i).length ≤ 1 := by
  unfold q_r1
  by_cases c : U 227 i = 0 ∧ U 222 i = nI t ∧ q_ho (U 224 i) (U 226 i) (R 2 (180 * t + 6 * r + q_c (U 223 i))) (R 2 (180 * t + 6 * r + q_c (U 225 i))) = 0
  · rw [if_pos c]; exact Nat.le_refl _
  · rw [if_neg c]; exact Nat.zero_le _
theorem q_br_len {U R : am_M} {t r : Nat} : ∀ (d i : Nat), (q_br U R t r d i).length ≤ d := by
  intro d
  induction d with
  | zero => intro i; exact Nat.le_refl _
  | succ d ih =>
    intro i
    show (q_r1 U R t r i ++ q_br U R t r d (i + 1)).length ≤ _
    rw [List.length_append]
    have := ih (i + 1)
    have := @q_r1_len U R t r i
    omega
/-- kinds are not 0 -/
def q_kd (l : List q_It) : Prop := ∀ x, x ∈ l → 1 ≤ x.1 ∧ x.1 ≤ 5
theorem q_kd_a {l m : List q_It} (h : q_kd l) (h2 : q_kd m) : q_kd (l ++ m) := fun x hx => by
  rcases List.mem_append.mp hx with q | q
  · exact h x q
  · exact h2 x q
theorem q_kd_b1 {A R : am_M} {t r i : Nat} : q_kd (q_b1 A R t r i) := fun x hx => by
  unfold q_b1 at hx
  by_cases c : q_bk A R t r (i / 4) (i % 4) = true
  · rw [if_pos c, List.mem_singleton] at hx; rw [hx]; show 1 ≤ 1 + i % 4 ∧ 1 + i % 4 ≤ 5; omega
  · rw [if_neg c] at hx; exact absurd hx List.not_mem_nil
theorem q_kd_bi {A R : am_M} {t r : Nat} : ∀ (d i : Nat), q_kd (q_bi A R t r d i) := by
  intro d
  induction d with
  | zero => intro i x hx; exact absurd hx List.not_mem_nil
  | succ d ih => intro i; exact q_kd_a q_kd_b1 (ih (i + 1))
theorem q_kd_r1 {U R : am_M} {t r i : Nat} : q_kd (q_r1 U R t r i) := fun x hx => by
  unfold q_r1 at hx
  by_cases c : U 227 i = 0 ∧ U 222 i = nI t ∧ q_ho (U 224 i) (U 226 i) (R 2 (180 * t + 6 * r + q_c (U 223 i))) (R 2 (180 * t + 6 * r + q_c (U 225 i))) = 0
  · rw [if_pos c, List.mem_singleton] at hx; rw [hx]; show 1 ≤ 5 ∧ 5 ≤ 5; omega
  · rw [if_neg c] at hx; exact absurd hx List.not_mem_nil
theorem q_kd_br {U R : am_M} {t r : Nat} : ∀ (d i : Nat), q_kd (q_br U R t r d i) := by
  intro d
  induction d with
  | zero => intro i x hx; exact absurd hx List.not_mem_nil
  | succ d ih => intro i; exact q_kd_a q_kd_r1 (ih (i + 1))
theorem q_kd_row {A U R : am_M} {t r : Nat} : q_kd (q_row A U R t r) := q_kd_a (q_kd_bi _ _) (q_kd_br _ _)
theorem q_kd_row1 {A U R : am_M} {p : Nat} : q_kd (q_row1 A U R p) := by
  unfold q_row1
  by_cases c : R 1 p = 0
  · rw [if_pos c]; intro x hx; exact absurd hx List.not_mem_nil
  · rw [if_neg c]; exact q_kd_row
theorem q_kd_all {A U R : am_M} : ∀ (d p : Nat), q_kd (q_all A U R d p) := by
  intro d
  induction d with
  | zero => intro i x hx; exact absurd hx List.not_mem_nil
  | succ d ih => intro i; exact q_kd_a q_kd_row1 (ih (i + 1))
/-- the class's first finding -/
def q_F (s : am_M) : List q_It → am_M
  | [] => s
  | x :: _ => f_RE_setFirst s 16 (nI x.1) (nI x.2.1) (nI x.2.2.1) (nI x.2.2.2)
theorem q_setFirst_n {s : am_M} {a b c d : Int32} (h : s 16 0 ≠ 0) : f_RE_setFirst s 16 a b c d = s := by unfold f_RE_setFirst; rw [if_neg h]
theorem q_F_a {s : am_M} {l m : List q_It} (h : q_kd l) : q_F (q_F s l) m = q_F s (l ++ m) := by
  cases l with
  | nil => rfl
  | cons x l =>
    show q_F (f_RE_setFirst s 16 (nI x.1) (nI x.2.1) (nI x.2.2.1) (nI x.2.2.2)) m = f_RE_setFirst s 16 (nI x.1) (nI x.2.1) (nI x.2.2.1) (nI x.2.2.2)
    have hx := h x (by simp)
    have hne : f_RE_setFirst s 16 (nI x.1) (nI x.2.1) (nI x.2.2.1) (nI x.2.2.2) 16 0 ≠ 0 := by
      unfold f_RE_setFirst
      by_cases c : s 16 0 = 0
      · rw [if_pos c, am_set_p (by omega), am_set_p (by omega), am_set_p (by omega), am_set_q]
        exact nI_ne0 (by omega) (by omega)
      · rw [if_neg c]; exact c
    cases m with
    | nil => rfl
    | cons y m =>
      exact q_setFirst_n hne
theorem q_F_o {s : am_M} {l : List q_It} : q_out s (q_F s l) (fun a _ => a = 16) := fun a b hab => by
  cases l with
  | nil => rfl
  | cons x l =>
    show f_RE_setFirst s 16 (nI x.1) (nI x.2.1) (nI x.2.2.1) (nI x.2.2.2) a b = _
    unfold f_RE_setFirst
    by_cases c : s 16 0 = 0
    · rw [if_pos c, am_set_p (by omega), am_set_p (by omega), am_set_p (by omega), am_set_p (by omega)]
    · rw [if_neg c]
/-- the model tells the first one -/
def q_G (b : Int32) (s : am_M) (n : Nat) : List q_It → am_M
  | [] => s
  | x :: _ => if b ≠ 0 ∧ n = 0 then (f_MO_told s (nI x.1) (nI x.2.1) (nI x.2.2.1) (nI x.2.2.2)).2 else s
theorem q_G_a {b : Int32} {s : am_M} {n : Nat} {l m : List q_It} : q_G b (q_G b s n l) (n + l.length) m = q_G b s n (l ++ m) := by
  cases l with
  | nil => rfl
  | cons x l =>
    cases m with
    | nil => rw [List.append_nil]; rfl
    | cons y m =>
      show (if b ≠ 0 ∧ n + (x :: l).length = 0 then _ else q_G b s n (x :: l)) = q_G b s n (x :: l)
      rw [if_neg (fun q => by have := q.2; rw [List.length_cons] at this; omega)]
theorem q_G_o {b : Int32} {s : am_M} {n : Nat} {l : List q_It} : q_out s (q_G b s n l) (fun a c => a = 207 ∧ 31 ≤ c ∧ c ≤ 34) := fun a c hac => by
  cases l with
  | nil => rfl
  | cons x l =>
    show (if b ≠ 0 ∧ n = 0 then (f_MO_told s (nI x.1) (nI x.2.1) (nI x.2.2.1) (nI x.2.2.2)).2 else s) a c = _
    by_cases e : b ≠ 0 ∧ n = 0
    · rw [if_pos e]
      show am_set (am_set (am_set (am_set s 207 31 _) 207 32 _) 207 33 _) 207 34 _ a c = _
      rw [am_set_p (by omega), am_set_p (by omega), am_set_p (by omega), am_set_p (by omega)]
    · rw [if_neg e]
/-- what is told of a list -/
def q_fo : List q_It → Int32 × Int32 × Int32 × Int32
  | [] => (0, -1, -1, -1)
  | x :: _ => (nI x.1, nI x.2.1, nI x.2.2.1, nI x.2.2.2)
theorem q_F_fo {s : am_M} {l : List q_It} : q_F (f_RE_clear s 16) l 16 0 = (q_fo l).1 ∧ q_F (f_RE_clear s 16) l 16 1 = (q_fo l).2.1 ∧ q_F (f_RE_clear s 16) l 16 2 = (q_fo l).2.2.1 ∧ q_F (f_RE_clear s 16) l 16 3 = (q_fo l).2.2.2 := by
  have hc : f_RE_clear s 16 = am_set (am_set (am_set (am_set (am_set s 16 0 0) 16 0 0) 16 1 (-1)) 16 2 (-1)) 16 3 (-1) := by
    unfold f_RE_clear f_RE_set f_RE_setFirst
    rw [if_pos am_set_q]
  have h0 : f_RE_clear s 16 16 0 = 0 := by rw [hc]; simp [am_set, upd]
  cases l with
  | nil =>
    show f_RE_clear s 16 16 0 = 0 ∧ f_RE_clear s 16 16 1 = -1 ∧ f_RE_clear s 16 16 2 = -1 ∧ f_RE_clear s 16 16 3 = -1
    refine ⟨h0, ?_, ?_, ?_⟩ <;> rw [hc] <;> simp [am_set, upd]
  | cons x l =>
    show f_RE_setFirst (f_RE_clear s 16) 16 (nI x.1) (nI x.2.1) (nI x.2.2.1) (nI x.2.2.2) 16 0 = nI x.1 ∧ f_RE_setFirst (f_RE_clear s 16) 16 (nI x.1) (nI x.2.1) (nI x.2.2.1) (nI x.2.2.2) 16 1 = nI x.2.1 ∧ f_RE_setFirst (f_RE_clear s 16) 16 (nI x.1) (nI x.2.1) (nI x.2.2.1) (nI x.2.2.2) 16 2 = nI x.2.2.1 ∧ f_RE_setFirst (f_RE_clear s 16) 16 (nI x.1) (nI x.2.1) (nI x.2.2.1) (nI x.2.2.2) 16 3 = nI x.2.2.2
    unfold f_RE_setFirst
    rw [if_pos h0]
    refine ⟨?_, ?_, ?_, ?_⟩ <;> simp [am_set, upd]
theorem q_clear_o {s : am_M} : q_out s (f_RE_clear s 16) (fun a _ => a = 16) := fun a b hab => by
  unfold f_RE_clear f_RE_set f_RE_setFirst
  rw [if_pos am_set_q, am_set_p (by omega), am_set_p (by omega), am_set_p (by omega), am_set_p (by omega), am_set_p (by omega)]
theorem q_pset16 (s : am_M) (a b c d : Int32) : p_RE_setFirst s 16 a b c d := ⟨⟨by omega, by decide +kernel⟩, fun _ => trivial, fun _ => trivial⟩
theorem q_pre16 (s : am_M) (a b c d : Int32) : p_RE_set s 16 a b c d := ⟨⟨by omega, by decide +kernel⟩, q_pset16 _ _ _ _ _, trivial⟩
theorem q_pclear16 (s : am_M) : p_RE_clear s 16 := ⟨q_pre16 _ _ _ _ _, ⟨by omega, by decide +kernel⟩, trivial⟩
end
