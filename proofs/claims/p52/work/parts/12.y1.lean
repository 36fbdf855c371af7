noncomputable section
/-- P speaks of the places F alone -/
def pr_dep (F : Nat → Nat → Prop) (P : am_M → Prop) : Prop := ∀ s t : am_M, (∀ a b, F a b → t a b = s a b) → P s → P t
theorem am_set_p {σ : am_M} {i k a b : Nat} {x : Int32} (h : a ≠ i ∨ b ≠ k) : am_set σ i k x a b = σ a b := by
  by_cases e : a = i
  · subst e
    have hb : b ≠ k := by rcases h with h | h; exact absurd rfl h; exact h
    rw [am_set_s]; simp [upd, hb]
  · rw [am_set_o e]
theorem am_set_q {σ : am_M} {i k : Nat} {x : Int32} : am_set σ i k x i k = x := by rw [am_set_s]; simp [upd]
theorem pr_dep_set {F : Nat → Nat → Prop} {P : am_M → Prop} (d : pr_dep F P) {s : am_M} {i k : Nat} {x : Int32} (hF : ¬ F i k) (h : P s) : P (am_set s i k x) :=
  d s _ (fun a b hab => am_set_p (by
    by_cases ha : a = i
    · exact Or.inr (fun hb => hF (by rw [← ha, ← hb]; exact hab))
    · exact Or.inl ha)) h
-- what was told last
def pr_told (s : am_M) : Prop := s 123 0 = s 207 31 ∧ s 123 1 = s 207 32 ∧ s 123 2 = s 207 33 ∧ s 123 3 = s 207 34
def pr_toldF (a b : Nat) : Prop := a = 123 ∨ (a = 207 ∧ 31 ≤ b ∧ b ≤ 34)
theorem pr_told_d : pr_dep pr_toldF pr_told := by
  intro s t h ⟨h1, h2, h3, h4⟩
  refine ⟨?_, ?_, ?_, ?_⟩
  · rw [h 123 0 (Or.inl rfl), h 207 31 (Or.inr (by omega)), h1]
  · rw [h 123 1 (Or.inl rfl), h 207 32 (Or.inr (by omega)), h2]
  · rw [h 123 2 (Or.inl rfl), h 207 33 (Or.inr (by omega)), h3]
  · rw [h 123 3 (Or.inl rfl), h 207 34 (Or.inr (by omega)), h4]
-- how many acts can be taken back
def pr_und (s : am_M) : Prop := ∃ k, k ≤ 5 ∧ s 0 7 = nI k ∧ s 207 38 = nI k
def pr_undF (a b : Nat) : Prop := (a = 0 ∧ b = 7) ∨ (a = 207 ∧ b = 38)
theorem pr_und_d : pr_dep pr_undF pr_und := by
  intro s t h ⟨k, h1, h2, h3⟩
  refine ⟨k, h1, ?_, ?_⟩
  · rw [h 0 7 (Or.inl ⟨rfl, rfl⟩), h2]
  · rw [h 207 38 (Or.inr ⟨rfl, rfl⟩), h3]
-- the draft
def pr_draft (s : am_M) : Prop := ∀ k, k < 6 → s 124 k = s 231 k ∧ -1000000 ≤ (s 124 k).toInt ∧ (s 124 k).toInt ≤ 999999
def pr_draftF (a _b : Nat) : Prop := a = 124 ∨ a = 231
theorem pr_draft_d : pr_dep pr_draftF pr_draft := by
  intro s t h h1 k hk
  rw [h 124 k (Or.inl rfl), h 231 k (Or.inr rfl)]; exact h1 k hk
-- how many acts there are
def pr_nact (s : am_M) : Prop := ∃ k, k ≤ 4 ∧ s 0 5 = nI k ∧ s 207 60 = nI k
def pr_nactF (a b : Nat) : Prop := (a = 0 ∧ b = 5) ∨ (a = 207 ∧ b = 60)
theorem pr_nact_d : pr_dep pr_nactF pr_nact := by
  intro s t h ⟨k, h1, h2, h3⟩
  refine ⟨k, h1, ?_, ?_⟩
  · rw [h 0 5 (Or.inl ⟨rfl, rfl⟩), h2]
  · rw [h 207 60 (Or.inr ⟨rfl, rfl⟩), h3]
/-- whose a place is: 0 nobody's (thrown, out, what a call leaves behind), 1 told, 2 how many acts can be taken back, 3 the draft, 4 how many acts, 6 the design, 7 the rules, 8 the rows, 9 the rows ahead, serial numbers, 10 the form, 11 the questions, 12 the acts' steps -/
def pu_own (a b : Nat) : Nat :=
  if a = 123 then 1 else if a = 124 then 3 else if a = 231 then 3 else if a = 262 then 0
  else if a = 207 then (if b = 38 then 2 else if 31 ≤ b ∧ b ≤ 34 then 1 else if b = 60 then 4 else if b = 1 then 6 else if b = 17 then 7 else if b = 28 ∨ b = 29 then 10 else if b = 39 then 11 else 0)
  else if a = 0 then (if b = 7 then 2 else if b = 5 then 4 else if b = 8 ∨ b = 9 ∨ b = 10 then 10 else 0)
  else if a = 1 then (if b = 3 then 6 else if b = 8 then 6 else if b = 6 then 7 else if b = 12 then 9 else 0)
  else if a = 4 ∨ a = 7 ∨ (20 ≤ a ∧ a ≤ 43) ∨ (208 ≤ a ∧ a ≤ 219) then 6
  else if (44 ≤ a ∧ a ≤ 51) ∨ (222 ≤ a ∧ a ≤ 227) then 7
  else if (9 ≤ a ∧ a ≤ 11) ∨ (228 ≤ a ∧ a ≤ 230) ∨ (400 ≤ a ∧ a ≤ 402) then 8
  else if (182 ≤ a ∧ a ≤ 206) ∨ (a = 233 ∧ b < 4320) ∨ (a = 234 ∧ b < 720) ∨ (a = 235 ∧ b < 24) ∨ (403 ≤ a ∧ a ≤ 450) then 9
  else if a = 399 then 10
  else if (a = 52 ∧ b = 3) ∨ (67 ≤ a ∧ a ≤ 122) ∨ (236 ≤ a ∧ a ≤ 247) ∨ (a = 249 ∧ b < 8) ∨ a = 252 then 11
  else if (126 ≤ a ∧ a ≤ 181) ∨ (255 ≤ a ∧ a ≤ 260) then 12
  else 0
def pu_P : Nat → am_M → Prop
  | 1 => pr_told
  | 2 => pr_und
  | 3 => pr_draft
  | 4 => pr_nact
  | _ => fun _ => True
theorem pr_dep_w {F G : Nat → Nat → Prop} {P : am_M → Prop} (d : pr_dep F P) (h : ∀ a b, F a b → G a b) : pr_dep G P := fun s t q hP => d s t (fun a b f => q a b (h a b f)) hP
theorem pu_P_d : ∀ i, pr_dep (fun a b => pu_own a b = i) (pu_P i)
  | 0 => fun _ _ _ _ => trivial
  | 1 => pr_dep_w pr_told_d (fun a b h => by
      rcases h with rfl | ⟨rfl, h1, h2⟩
      · rfl
      · unfold pu_own; rw [if_neg (by decide), if_neg (by decide), if_neg (by decide), if_neg (by decide), if_pos rfl, if_neg (by omega), if_pos ⟨h1, h2⟩])
  | 2 => pr_dep_w pr_und_d (fun a b h => by rcases h with ⟨rfl, rfl⟩ | ⟨rfl, rfl⟩ <;> rfl)
  | 3 => pr_dep_w pr_draft_d (fun a b h => by rcases h with rfl | rfl <;> rfl)
  | 4 => pr_dep_w pr_nact_d (fun a b h => by rcases h with ⟨rfl, rfl⟩ | ⟨rfl, rfl⟩ <;> rfl)
  | n + 5 => fun _ _ _ _ => trivial
/-- t is s but at places of J's -/
def pu_fr (J : Nat → Prop) (s t : am_M) : Prop := ∀ a b, ¬ J (pu_own a b) → t a b = s a b
theorem pu_fr_0 {J : Nat → Prop} {s : am_M} : pu_fr J s s := fun _ _ _ => rfl
theorem pu_fr_set {J : Nat → Prop} {s t : am_M} {i k : Nat} {x : Int32} (hJ : J (pu_own i k)) (h : pu_fr J s t) : pu_fr J s (am_set t i k x) := fun a b hab => by
  rw [am_set_p (by
    by_cases ha : a = i
    · exact Or.inr (fun hb => hab (by rw [ha, hb]; exact hJ))
    · exact Or.inl ha)]
  exact h a b hab
theorem pu_fr_t {J : Nat → Prop} {s t u : am_M} (h : pu_fr J s t) (h2 : pu_fr J t u) : pu_fr J s u := fun a b hab => (h2 a b hab).trans (h a b hab)
theorem pu_fr_w {J K : Nat → Prop} {s t : am_M} (h : pu_fr J s t) (hJ : ∀ i, J i → K i) : pu_fr K s t := fun a b hab => h a b (fun q => hab (hJ _ q))
end
