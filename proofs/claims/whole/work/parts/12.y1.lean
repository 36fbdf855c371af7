noncomputable section
/-- P speaks of the places F alone -/
def pr_dep (F : Nat → Nat → Prop) (P : am_M → Prop) : Prop := ∀ s t : am_M, (∀ a b, F a b → t a b = s a b) → P s → P t
theorem am_set_p {σ : am_M} {i k a b : Nat} {x : Int32} (h : a ≠ i ∨ b ≠ k) : am_set σ i k x a b = σ a b := by
  by_cases e : a = i
  · subst e
    have hb : b ≠ k := by rcases h with h | h; exact absurd rfl h; exact h
    rw [am_set_s]; simp [upd, hb]
  · rw [am_set_o e]
theorem am_set_q {σ : am_M} {i k : Nat} {x : Int32} : am_set σ i k x i k = x := by rw [am_set_s]; simp [upd]
theorem pr_dep_set {F : Nat → Nat → Prop} {P : am_M → Prop} (d : pr_dep F P) {s : am_M} {i k : Nat} {x : Int32} (hF : ¬ F i k) (h : P s) : P (am_set s i k x) :=
  d s _ (fun a b hab => am_set_p (by
    by_cases ha : a = i
    · exact Or.inr (fun hb => hF (by rw [← ha, ← hb]; exact hab))
    · exact Or.inl ha)) h
-- what was told last
def pr_told (s : am_M) : Prop := s 123 0 = s 207 31 ∧ s 123 1 = s 207 32 ∧ s 123 2 = s 207 33 ∧ s 123 3 = s 207 34
def pr_toldF (a b : Nat) : Prop := a = 123 ∨ (a = 207 ∧ 31 ≤ b ∧ b ≤ 34)
theorem pr_told_d : pr_dep pr_toldF pr_told := by
  intro s t h ⟨h1, h2, h3, h4⟩
  refine ⟨?_, ?_, ?_, ?_⟩
  · rw [h 123 0 (Or.inl rfl), h 207 31 (Or.inr (by omega)), h1]
  · rw [h 123 1 (Or.inl rfl), h 207 32 (Or.inr (by omega)), h2]
  · rw [h 123 2 (Or.inl rfl), h 207 33 (Or.inr (by omega)), h3]
  · rw [h 123 3 (Or.inl rfl), h 207 34 (Or.inr (by omega)), h4]
-- how many acts can be taken back
def pr_und (s : am_M) : Prop := ∃ k, k ≤ 5 ∧ s 0 7 = nI k ∧ s 207 38 = nI k
def pr_undF (a b : Nat) : Prop := (a = 0 ∧ b = 7) ∨ (a = 207 ∧ b = 38)
theorem pr_und_d : pr_dep pr_undF pr_und := by
  intro s t h ⟨k, h1, h2, h3⟩
  refine ⟨k, h1, ?_, ?_⟩
  · rw [h 0 7 (Or.inl ⟨rfl, rfl⟩), h2]
  · rw [h 207 38 (Or.inr ⟨rfl, rfl⟩), h3]
-- the draft
def pr_draft (s : am_M) : Prop := ∀ k, k < 6 → s 124 k = s 231 k
def pr_draftF (a _b : Nat) : Prop := a = 124 ∨ a = 231
theorem pr_draft_d : pr_dep pr_draftF pr_draft := by
  intro s t h h1 k hk
  rw [h 124 k (Or.inl rfl), h 231 k (Or.inr rfl), h1 k hk]
/-- the relation of class and model -/
def pu_R (s : am_M) : Prop := pr_told s ∧ pr_und s ∧ pr_draft s
theorem pu_R.told {s : am_M} (h : pu_R s) : pr_told s := h.1
theorem pu_R.und {s : am_M} (h : pu_R s) : pr_und s := h.2.1
theorem pu_R.draft {s : am_M} (h : pu_R s) : pr_draft s := h.2.2
theorem pu_R_thrown {s : am_M} {x : Int32} (h : pu_R s) : pu_R (am_set s 207 0 x) :=
  ⟨pr_dep_set pr_told_d (by unfold pr_toldF; omega) h.told, pr_dep_set pr_und_d (by unfold pr_undF; omega) h.und, pr_dep_set pr_draft_d (by unfold pr_draftF; omega) h.draft⟩
theorem pu_R_out {s : am_M} {b : Nat} {x : Int32} (h : pu_R s) : pu_R (am_set s 262 b x) :=
  ⟨pr_dep_set pr_told_d (by unfold pr_toldF; omega) h.told, pr_dep_set pr_und_d (by unfold pr_undF; omega) h.und, pr_dep_set pr_draft_d (by unfold pr_draftF; omega) h.draft⟩
theorem op_reason_ok : op_reason pu_R := by
  intro s h
  unfold f_CB_reason f_MO_reason
  exact ⟨by rw [am_set_p (Or.inr (by omega))]; exact h.told.1, pu_R_thrown h⟩
theorem op_whereTable_ok : op_whereTable pu_R := by
  intro s h
  unfold f_CB_whereTable f_MO_whereTable
  exact ⟨by rw [am_set_p (Or.inr (by omega))]; exact h.told.2.1, pu_R_thrown h⟩
theorem op_whereRow_ok : op_whereRow pu_R := by
  intro s h
  unfold f_CB_whereRow f_MO_whereRow
  exact ⟨by rw [am_set_p (Or.inr (by omega))]; exact h.told.2.2.1, pu_R_thrown h⟩
theorem op_whereColumn_ok : op_whereColumn pu_R := by
  intro s h
  unfold f_CB_whereColumn f_MO_whereColumn
  exact ⟨by rw [am_set_p (Or.inr (by omega))]; exact h.told.2.2.2, pu_R_thrown h⟩
theorem op_undoable_ok : op_undoable pu_R := by
  intro s h
  unfold f_CB_undoable f_MO_undoable
  refine ⟨?_, pu_R_thrown h⟩
  obtain ⟨k, -, h2, h3⟩ := h.und
  rw [am_set_p (Or.inr (by omega)), h2, h3]
theorem pr_5 {x : Int32} : (5 : Int32) < x ↔ ¬ x < 6 := by
  rw [Int32.lt_iff_toInt_lt, Int32.lt_iff_toInt_lt]
  have h1 : (5 : Int32).toInt = 5 := by decide
  have h2 : (6 : Int32).toInt = 6 := by decide
  omega
theorem pr_le {x y : Int32} : y < x ↔ ¬ x ≤ y := by
  rw [Int32.lt_iff_toInt_lt, Int32.le_iff_toInt_le]; omega
/-- a value that may be typed: the class's code and the model's test -/
theorem pr_value (s : am_M) (x : Int32) : (f_CB_wantValue s x = 0 ∧ f_MO_isNumber s x = 1) ∨ (f_CB_wantValue s x = 2 ∧ f_MO_isNumber s x = 0) := by
  unfold f_CB_wantValue f_MO_isNumber f_MO_in
  by_cases c3 : x = (-1000000 : Int32)
  · left; simp [c3]
  · by_cases c4 : x < (-9999 : Int32)
    · right; simp [c3, c4]
    · by_cases c5 : x ≤ (9999 : Int32)
      · left; simp [c3, c4, c5, pr_le]
      · right; simp [c3, c4, c5, pr_le]
theorem pr_num_th {s t : am_M} {x : Int32} : f_MO_isNumber t x = f_MO_isNumber s x := rfl
end
