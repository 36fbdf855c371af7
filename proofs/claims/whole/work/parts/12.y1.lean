noncomputable section
/-- P speaks of the places F alone -/
def pr_dep (F : Nat → Nat → Prop) (P : am_M → Prop) : Prop := ∀ s t : am_M, (∀ a b, F a b → t a b = s a b) → P s → P t
theorem am_set_p {σ : am_M} {i k a b : Nat} {x : Int32} (h : a ≠ i ∨ b ≠ k) : am_set σ i k x a b = σ a b := by
  by_cases e : a = i
  · subst e
    have hb : b ≠ k := by rcases h with h | h; exact absurd rfl h; exact h
    rw [am_set_s]; simp [upd, hb]
  · rw [am_set_o e]
theorem am_set_q {σ : am_M} {i k : Nat} {x : Int32} : am_set σ i k x i k = x := by rw [am_set_s]; simp [upd]
theorem pr_dep_set {F : Nat → Nat → Prop} {P : am_M → Prop} (d : pr_dep F P) {s : am_M} {i k : Nat} {x : Int32} (hF : ¬ F i k) (h : P s) : P (am_set s i k x) :=
  d s _ (fun a b hab => am_set_p (by
    by_cases ha : a = i
    · exact Or.inr (fun hb => hF (by rw [← ha, ← hb]; exact hab))
    · exact Or.inl ha)) h
-- what was told last
def pr_told (s : am_M) : Prop := s 123 0 = s 207 31 ∧ s 123 1 = s 207 32 ∧ s 123 2 = s 207 33 ∧ s 123 3 = s 207 34
def pr_toldF (a b : Nat) : Prop := a = 123 ∨ (a = 207 ∧ 31 ≤ b ∧ b ≤ 34)
theorem pr_told_d : pr_dep pr_toldF pr_told := by
  intro s t h ⟨h1, h2, h3, h4⟩
  refine ⟨?_, ?_, ?_, ?_⟩
  · rw [h 123 0 (Or.inl rfl), h 207 31 (Or.inr (by omega)), h1]
  · rw [h 123 1 (Or.inl rfl), h 207 32 (Or.inr (by omega)), h2]
  · rw [h 123 2 (Or.inl rfl), h 207 33 (Or.inr (by omega)), h3]
  · rw [h 123 3 (Or.inl rfl), h 207 34 (Or.inr (by omega)), h4]
-- how many acts can be taken back
def pr_und (s : am_M) : Prop := ∃ k, k ≤ 5 ∧ s 0 7 = nI k ∧ s 207 38 = nI k
def pr_undF (a b : Nat) : Prop := (a = 0 ∧ b = 7) ∨ (a = 207 ∧ b = 38)
theorem pr_und_d : pr_dep pr_undF pr_und := by
  intro s t h ⟨k, h1, h2, h3⟩
  refine ⟨k, h1, ?_, ?_⟩
  · rw [h 0 7 (Or.inl ⟨rfl, rfl⟩), h2]
  · rw [h 207 38 (Or.inr ⟨rfl, rfl⟩), h3]
-- the draft
def pr_draft (s : am_M) : Prop := ∀ k, k < 6 → s 124 k = s 231 k
def pr_draftF (a _b : Nat) : Prop := a = 124 ∨ a = 231
theorem pr_draft_d : pr_dep pr_draftF pr_draft := by
  intro s t h h1 k hk
  rw [h 124 k (Or.inl rfl), h 231 k (Or.inr rfl), h1 k hk]
-- how many acts there are
def pr_nact (s : am_M) : Prop := ∃ k, k ≤ 4 ∧ s 0 5 = nI k ∧ s 207 60 = nI k
def pr_nactF (a b : Nat) : Prop := (a = 0 ∧ b = 5) ∨ (a = 207 ∧ b = 60)
theorem pr_nact_d : pr_dep pr_nactF pr_nact := by
  intro s t h ⟨k, h1, h2, h3⟩
  refine ⟨k, h1, ?_, ?_⟩
  · rw [h 0 5 (Or.inl ⟨rfl, rfl⟩), h2]
  · rw [h 207 60 (Or.inr ⟨rfl, rfl⟩), h3]
-- how many tables there are
def pr_ntab (s : am_M) : Prop := ∃ k, k ≤ 4 ∧ s 1 3 = nI k ∧ s 207 1 = nI k
def pr_ntabF (a b : Nat) : Prop := (a = 1 ∧ b = 3) ∨ (a = 207 ∧ b = 1)
theorem pr_ntab_d : pr_dep pr_ntabF pr_ntab := by
  intro s t h ⟨k, h1, h2, h3⟩
  refine ⟨k, h1, ?_, ?_⟩
  · rw [h 1 3 (Or.inl ⟨rfl, rfl⟩), h2]
  · rw [h 207 1 (Or.inr ⟨rfl, rfl⟩), h3]
/-- whose a place is: 5 how many tables; 0 nobody's (thrown, out), 1 told, 2 how many acts can be taken back, 3 the draft, 4 how many acts -/
def pu_own (a b : Nat) : Nat :=
  if a = 123 then 1 else if a = 124 then 3 else if a = 231 then 3 else if a = 207 then (if b = 38 then 2 else if 31 ≤ b ∧ b ≤ 34 then 1 else if b = 60 then 4 else if b = 1 then 5 else 0) else if a = 0 then (if b = 7 then 2 else if b = 5 then 4 else 0) else if a = 1 then (if b = 3 then 5 else 0) else 0
def pu_P : Nat → am_M → Prop
  | 1 => pr_told
  | 2 => pr_und
  | 3 => pr_draft
  | 4 => pr_nact
  | 5 => pr_ntab
  | _ => fun _ => True
theorem pr_dep_w {F G : Nat → Nat → Prop} {P : am_M → Prop} (d : pr_dep F P) (h : ∀ a b, F a b → G a b) : pr_dep G P := fun s t q hP => d s t (fun a b f => q a b (h a b f)) hP
theorem pu_P_d : ∀ i, pr_dep (fun a b => pu_own a b = i) (pu_P i)
  | 0 => fun _ _ _ _ => trivial
  | 1 => pr_dep_w pr_told_d (fun a b h => by
      rcases h with rfl | ⟨rfl, h1, h2⟩
      · rfl
      · unfold pu_own; rw [if_neg (by decide), if_neg (by decide), if_neg (by decide), if_pos rfl, if_neg (by omega), if_pos ⟨h1, h2⟩])
  | 2 => pr_dep_w pr_und_d (fun a b h => by rcases h with ⟨rfl, rfl⟩ | ⟨rfl, rfl⟩ <;> rfl)
  | 3 => pr_dep_w pr_draft_d (fun a b h => by rcases h with rfl | rfl <;> rfl)
  | 4 => pr_dep_w pr_nact_d (fun a b h => by rcases h with ⟨rfl, rfl⟩ | ⟨rfl, rfl⟩ <;> rfl)
  | 5 => pr_dep_w pr_ntab_d (fun a b h => by rcases h with ⟨rfl, rfl⟩ | ⟨rfl, rfl⟩ <;> rfl)
  | n + 6 => fun _ _ _ _ => trivial
/-- the relation of class and model -/
def pu_R (s : am_M) : Prop := ∀ i, pu_P i s
theorem pu_R.told {s : am_M} (h : pu_R s) : pr_told s := h 1
theorem pu_R.und {s : am_M} (h : pu_R s) : pr_und s := h 2
theorem pu_R.draft {s : am_M} (h : pu_R s) : pr_draft s := h 3
theorem pu_R.nact {s : am_M} (h : pu_R s) : pr_nact s := h 4
theorem pu_R.ntab {s : am_M} (h : pu_R s) : pr_ntab s := h 5
/-- t is s but at places of J's -/
def pu_fr (J : Nat → Prop) (s t : am_M) : Prop := ∀ a b, ¬ J (pu_own a b) → t a b = s a b
theorem pu_fr_0 {J : Nat → Prop} {s : am_M} : pu_fr J s s := fun _ _ _ => rfl
theorem pu_fr_set {J : Nat → Prop} {s t : am_M} {i k : Nat} {x : Int32} (hJ : J (pu_own i k)) (h : pu_fr J s t) : pu_fr J s (am_set t i k x) := fun a b hab => by
  rw [am_set_p (by
    by_cases ha : a = i
    · exact Or.inr (fun hb => hab (by rw [ha, hb]; exact hJ))
    · exact Or.inl ha)]
  exact h a b hab
theorem pu_keep {J : Nat → Prop} {s t : am_M} (h : pu_R s) (hf : pu_fr J s t) (hJ : ∀ i, J i → pu_P i t) : pu_R t := fun i => by
  by_cases c : J i
  · exact hJ i c
  · exact pu_P_d i s t (fun a b hab => hf a b (by rw [hab]; exact c)) (h i)
theorem pu_R_thrown {s : am_M} {x : Int32} (h : pu_R s) : pu_R (am_set s 207 0 x) :=
  pu_keep (J := fun i => i = 0) h (pu_fr_set rfl pu_fr_0) (fun i e => by rw [e]; exact trivial)
theorem pu_R_out {s : am_M} {b : Nat} {x : Int32} (h : pu_R s) : pu_R (am_set s 262 b x) :=
  pu_keep (J := fun i => i = 0) h (pu_fr_set rfl pu_fr_0) (fun i e => by rw [e]; exact trivial)
theorem op_reason_ok : op_reason pu_R := by
  intro s h
  unfold f_CB_reason f_MO_reason
  exact ⟨by rw [am_set_p (Or.inr (by omega))]; exact h.told.1, pu_R_thrown h⟩
theorem op_whereTable_ok : op_whereTable pu_R := by
  intro s h
  unfold f_CB_whereTable f_MO_whereTable
  exact ⟨by rw [am_set_p (Or.inr (by omega))]; exact h.told.2.1, pu_R_thrown h⟩
theorem op_whereRow_ok : op_whereRow pu_R := by
  intro s h
  unfold f_CB_whereRow f_MO_whereRow
  exact ⟨by rw [am_set_p (Or.inr (by omega))]; exact h.told.2.2.1, pu_R_thrown h⟩
theorem op_whereColumn_ok : op_whereColumn pu_R := by
  intro s h
  unfold f_CB_whereColumn f_MO_whereColumn
  exact ⟨by rw [am_set_p (Or.inr (by omega))]; exact h.told.2.2.2, pu_R_thrown h⟩
theorem op_undoable_ok : op_undoable pu_R := by
  intro s h
  unfold f_CB_undoable f_MO_undoable
  refine ⟨?_, pu_R_thrown h⟩
  obtain ⟨k, -, h2, h3⟩ := h.und
  rw [am_set_p (Or.inr (by omega)), h2, h3]
theorem pr_5 {x : Int32} : (5 : Int32) < x ↔ ¬ x < 6 := by
  rw [Int32.lt_iff_toInt_lt, Int32.lt_iff_toInt_lt]
  have h1 : (5 : Int32).toInt = 5 := by decide
  have h2 : (6 : Int32).toInt = 6 := by decide
  omega
theorem pr_le {x y : Int32} : y < x ↔ ¬ x ≤ y := by
  rw [Int32.lt_iff_toInt_lt, Int32.le_iff_toInt_le]; omega
/-- a value that may be typed: the class's code and the model's test -/
theorem pr_value (s : am_M) (x : Int32) : (f_CB_wantValue s x = 0 ∧ f_MO_isNumber s x = 1) ∨ (f_CB_wantValue s x = 2 ∧ f_MO_isNumber s x = 0) := by
  unfold f_CB_wantValue f_MO_isNumber f_MO_in
  by_cases c3 : x = (-1000000 : Int32)
  · left; simp [c3]
  · by_cases c4 : x < (-9999 : Int32)
    · right; simp [c3, c4]
    · by_cases c5 : x ≤ (9999 : Int32)
      · left; simp [c3, c4, c5, pr_le]
      · right; simp [c3, c4, c5, pr_le]
theorem pr_num_th {s t : am_M} {x : Int32} : f_MO_isNumber t x = f_MO_isNumber s x := rfl
end
