noncomputable section
-- all
def pu_X (c : Nat) : Nat → am_M → (Nat → am_M) → Prop
  | 1, s, Z => q_x1 s (Z 6)
  | 2, s, Z => q_x2 s (Z 7)
  | 3, s, Z => q_x3 s (Z 6) (Z 8)
  | 4, s, Z => q_x4 c s Z
  | 5, s, Z => q_x5 s (Z 6) (Z 11)
  | 6, s, Z => q_x6 s (Z 6) (Z 11) (Z 12)
  | 7, s, Z => q_x7 s Z
  | _, _, _ => True
/-- of which owners a part speaks -/
def pu_D : Nat → List Nat
  | 1 => [6]
  | 2 => [7]
  | 3 => [6, 8]
  | 4 => [2, 6, 8, 9, 10, 20, 21, 22, 23, 24]
  | 5 => [6, 11]
  | 6 => [6, 11, 12]
  | 7 => [2, 6, 7, 8, 20, 21, 22, 23, 24]
  | _ => []
theorem pu_X_d {c : Nat} {s t : am_M} {Z Y : Nat → am_M} : ∀ j, (∀ a b, pu_own a b ∈ pu_D j → t a b = s a b) → (∀ i, i ∈ pu_D j → Y i = Z i) → pu_X c j s Z → pu_X c j t Y
  | 0, _, _, _ => trivial
  | 1, h, e, hx => by
    show q_x1 t (Y 6); rw [e 6 (by decide)]; exact q_x1_d (fun a b q => h a b (by rw [q]; decide)) hx
  | 2, h, e, hx => by
    show q_x2 t (Y 7); rw [e 7 (by decide)]; exact q_x2_d (fun a b q => h a b (by rw [q]; decide)) hx
  | 3, h, e, hx => by
    show q_x3 t (Y 6) (Y 8); rw [e 6 (by decide), e 8 (by decide)]; exact q_x3_d (fun a b q => h a b (by rw [q]; decide)) hx
  | 4, h, e, hx => q_x4_d (fun a b q => h a b (by rcases q with q | q | q <;> rw [q] <;> decide)) (e 6 (by decide)) (e 8 (by decide)) (fun j hj => e (20 + j) (by
      have : j = 0 ∨ j = 1 ∨ j = 2 ∨ j = 3 ∨ j = 4 := by omega
      rcases this with rfl | rfl | rfl | rfl | rfl <;> decide)) hx
  | 5, h, e, hx => by
    show q_x5 t (Y 6) (Y 11); rw [e 6 (by decide), e 11 (by decide)]; exact q_x5_up (fun a b q => h a b (by rw [q]; decide)) (fun q => q) hx
  | 6, h, e, hx => by
    show q_x6 t (Y 6) (Y 11) (Y 12); rw [e 6 (by decide), e 11 (by decide), e 12 (by decide)]; exact q_x6_up (fun a b q => h a b (by rw [q]; decide)) (Nat.le_refl _) ⟨Nat.le_refl _, fun _ _ => ⟨rfl, rfl⟩⟩ hx
  | 7, h, e, hx => q_x7_d (h 0 7 (by decide)) (e 6 (by decide)) (e 7 (by decide)) (e 8 (by decide)) (fun j hj => e (20 + j) (by
      have : j = 0 ∨ j = 1 ∨ j = 2 ∨ j = 3 ∨ j = 4 := by omega
      rcases this with rfl | rfl | rfl | rfl | rfl <;> decide)) hx
  | _ + 8, _, _, _ => trivial
theorem pu_X_m {c d : Nat} (hcd : c ≤ d) {s : am_M} {Z : Nat → am_M} : ∀ j, pu_X c j s Z → pu_X d j s Z
  | 0, h => h
  | 1, h => h
  | 2, h => h
  | 3, h => h
  | 4, ⟨k, L, a, b, r⟩ => ⟨k, L, a, by omega, r⟩
  | 5, h => h
  | 6, h => h
  | 7, h => h
  | _ + 8, h => h
/-- the relation of class and model; c bounds the serial numbers -/
def pu_R (c : Nat) (s : am_M) : Prop := (∀ i, pu_P i s) ∧ ∃ Z : Nat → am_M, ∀ j, pu_X c j s Z
theorem pu_R.told {c : Nat} {s : am_M} (h : pu_R c s) : pr_told s := h.1 1
theorem pu_R.und {c : Nat} {s : am_M} (h : pu_R c s) : pr_und s := h.1 2
theorem pu_R.draft {c : Nat} {s : am_M} (h : pu_R c s) : pr_draft s := h.1 3
theorem pu_R.nact {c : Nat} {s : am_M} (h : pu_R c s) : pr_nact s := h.1 4
theorem pu_R.mono {c d : Nat} {s : am_M} (h : pu_R c s) (hcd : c ≤ d) : pu_R d s := ⟨h.1, by
  obtain ⟨Z, h2⟩ := h.2
  exact ⟨Z, fun j => pu_X_m hcd j (h2 j)⟩⟩
/-- the parts that a change of the owners J can touch -/
def pu_aff (J : List Nat) : List Nat := [1, 2, 3, 4, 5, 6, 7, 8].filter (fun j => (pu_D j).any (fun i => J.contains i))
theorem pu_keepX {c : Nat} {J : List Nat} {s t : am_M} {Z Y : Nat → am_M} (hP : ∀ i, pu_P i s) (hZ : ∀ j, pu_X c j s Z) (hf : pu_fr (· ∈ J) s t) (hY : ∀ i, i ∉ J → Y i = Z i) (hJ : ∀ i, i ∈ J → pu_P i t) (hX : ∀ j, j ∈ pu_aff J → pu_X c j t Y) : pu_R c t := by
  refine ⟨fun i => ?_, Y, fun j => ?_⟩
  · by_cases q : i ∈ J
    · exact hJ i q
    · exact pu_P_d i s t (fun a b hab => hf a b (by rw [hab]; exact q)) (hP i)
  · by_cases q : j ∈ pu_aff J
    · exact hX j q
    · refine pu_X_d j (fun a b hab => hf a b (fun q2 => q ?_)) (fun i hi => hY i (fun q2 => q ?_)) (hZ j)
      all_goals
        have h8 : j < 9 := by
          by_cases h9 : j < 9
          · exact h9
          · obtain ⟨m, rfl⟩ : ∃ m, j = m + 9 := ⟨j - 9, by omega⟩
            exact absurd (show _ ∈ pu_D (m + 9) by assumption) (by simp [pu_D])
        have h0 : j ≠ 0 := by
          rintro rfl
          exact absurd (show _ ∈ pu_D 0 by assumption) (by simp [pu_D])
        unfold pu_aff
        rw [List.mem_filter]
        refine ⟨by simp; omega, ?_⟩
        rw [List.any_eq_true]
        refine ⟨_, by assumption, ?_⟩
        rw [List.contains_iff_mem]; exact q2
theorem pu_keep0 {c : Nat} {J : List Nat} {s t : am_M} (h : pu_R c s) (hf : pu_fr (· ∈ J) s t) (hJ : ∀ i, i ∈ J → pu_P i t) (h0 : pu_aff J = []) : pu_R c t := by
  obtain ⟨hP, Z, hZ⟩ := h
  exact pu_keepX hP hZ hf (fun _ _ => rfl) hJ (fun j hj => by rw [h0] at hj; exact absurd hj (by simp))
theorem pu_R_thrown {c : Nat} {s : am_M} {x : Int32} (h : pu_R c s) : pu_R c (am_set s 207 0 x) :=
  pu_keep0 (J := [0]) h (pu_fr_set (by decide) pu_fr_0) (fun i e => by rw [List.mem_singleton] at e; rw [e]; exact trivial) rfl
theorem pu_R_out {c : Nat} {s : am_M} {b : Nat} {x : Int32} (h : pu_R c s) : pu_R c (am_set s 262 b x) :=
  pu_keep0 (J := [0]) h (pu_fr_set (by simp [pu_own]) pu_fr_0) (fun i e => by rw [List.mem_singleton] at e; rw [e]; exact trivial) rfl
theorem op_reason_ok {c d : Nat} (hcd : c ≤ d) : op_reason (pu_R c) (pu_R d) := by
  intro s h
  replace h := h.mono hcd
  unfold f_CB_reason f_MO_reason
  exact ⟨by rw [am_set_p (Or.inr (by omega))]; exact h.told.1, pu_R_thrown h⟩
theorem op_whereTable_ok {c d : Nat} (hcd : c ≤ d) : op_whereTable (pu_R c) (pu_R d) := by
  intro s h
  replace h := h.mono hcd
  unfold f_CB_whereTable f_MO_whereTable
  exact ⟨by rw [am_set_p (Or.inr (by omega))]; exact h.told.2.1, pu_R_thrown h⟩
theorem op_whereRow_ok {c d : Nat} (hcd : c ≤ d) : op_whereRow (pu_R c) (pu_R d) := by
  intro s h
  replace h := h.mono hcd
  unfold f_CB_whereRow f_MO_whereRow
  exact ⟨by rw [am_set_p (Or.inr (by omega))]; exact h.told.2.2.1, pu_R_thrown h⟩
theorem op_whereColumn_ok {c d : Nat} (hcd : c ≤ d) : op_whereColumn (pu_R c) (pu_R d) := by
  intro s h
  replace h := h.mono hcd
  unfold f_CB_whereColumn f_MO_whereColumn
  exact ⟨by rw [am_set_p (Or.inr (by omega))]; exact h.told.2.2.2, pu_R_thrown h⟩
theorem op_undoable_ok {c d : Nat} (hcd : c ≤ d) : op_undoable (pu_R c) (pu_R d) := by
  intro s h
  replace h := h.mono hcd
  unfold f_CB_undoable f_MO_undoable
  refine ⟨?_, pu_R_thrown h⟩
  obtain ⟨k, -, h2, h3⟩ := h.und
  rw [am_set_p (Or.inr (by omega)), h2, h3]
theorem pr_5 {x : Int32} : (5 : Int32) < x ↔ ¬ x < 6 := by
  rw [Int32.lt_iff_toInt_lt, Int32.lt_iff_toInt_lt]
  have h1 : (5 : Int32).toInt = 5 := by decide
  have h2 : (6 : Int32).toInt = 6 := by decide
  omega
/-- a value that may be typed: the class's code and the model's test -/
theorem pr_value (s : am_M) (x : Int32) : (f_CB_wantValue s x = 0 ∧ f_MO_isNumber s x = 1) ∨ (f_CB_wantValue s x = 2 ∧ f_MO_isNumber s x = 0) := by
  unfold f_CB_wantValue f_MO_isNumber f_MO_in
  by_cases c3 : x = (-1000000 : Int32)
  · left; simp [c3]
  · by_cases c4 : x < (-9999 : Int32)
    · right; simp [c3, c4]
    · by_cases c5 : x ≤ (9999 : Int32)
      · left; simp [c3, c4, c5, pr_le]
      · right; simp [c3, c4, c5, pr_le]
theorem pr_num_th {s t : am_M} {x : Int32} : f_MO_isNumber t x = f_MO_isNumber s x := rfl
end
