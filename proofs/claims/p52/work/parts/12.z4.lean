noncomputable section
-- questions: the different keys in their order
theorem q_i_le {x y : Int32} : ¬ x ≤ y ↔ y < x := by rw [Int32.le_iff_toInt_le, Int32.lt_iff_toInt_lt]; omega
theorem q_i_lt {x y : Int32} (h : x ≤ y) (n : y ≠ x) : x < y := by
  rw [Int32.le_iff_toInt_le] at h
  rw [Int32.lt_iff_toInt_lt]
  have : x.toInt ≠ y.toInt := fun q => n (Int32.toInt_inj.mp q).symm
  omega
theorem q_i_tr {x y z : Int32} (h : x < y) (g : y < z) : x < z := by
  rw [Int32.lt_iff_toInt_lt] at *; omega
theorem q_i_irr {x : Int32} : ¬ x < x := by rw [Int32.lt_iff_toInt_lt]; omega
theorem q_i_le' {x y : Int32} (h : x < y) : x ≤ y := by
  rw [Int32.lt_iff_toInt_lt] at h; rw [Int32.le_iff_toInt_le]; omega
/-- the first place of keys that has no lower one -/
def q_pI (x : Int32) : List Int32 → Nat
  | [] => 0
  | y :: t => if x ≤ y then 0 else q_pI x t + 1
def q_ins (x : Int32) : List Int32 → List Int32
  | [] => [x]
  | y :: t => if x ≤ y then (if y = x then y :: t else x :: y :: t) else y :: q_ins x t
def q_srt : List Int32 → Prop
  | [] => True
  | y :: t => (∀ z, z ∈ t → y < z) ∧ q_srt t
abbrev q_has (x : Int32) (ks : List Int32) : Prop := q_pI x ks < ks.length ∧ ks.getD (q_pI x ks) 0 = x
theorem q_pI_c {x y : Int32} {t : List Int32} : q_pI x (y :: t) = if x ≤ y then 0 else q_pI x t + 1 := rfl
theorem q_ins_c {x y : Int32} {t : List Int32} : q_ins x (y :: t) = if x ≤ y then (if y = x then y :: t else x :: y :: t) else y :: q_ins x t := rfl
theorem q_pI_le {x : Int32} : ∀ ks : List Int32, q_pI x ks ≤ ks.length := by
  intro ks
  induction ks with
  | nil => exact Nat.le_refl _
  | cons y t ih =>
    rw [q_pI_c, List.length_cons]
    by_cases h : x ≤ y
    · rw [if_pos h]; omega
    · rw [if_neg h]; omega
theorem q_pI_lt {x : Int32} : ∀ (ks : List Int32) (i : Nat), i < q_pI x ks → ¬ x ≤ ks.getD i 0 := by
  intro ks
  induction ks with
  | nil => intro i hi; exact absurd hi (Nat.not_lt_zero _)
  | cons y t ih =>
    intro i hi
    rw [q_pI_c] at hi
    by_cases h : x ≤ y
    · rw [if_pos h] at hi; exact absurd hi (Nat.not_lt_zero _)
    · rw [if_neg h] at hi
      cases i with
      | zero => exact h
      | succ i => exact ih i (by omega)
theorem q_ins_in {x : Int32} : ∀ ks : List Int32, q_has x ks → q_ins x ks = ks := by
  intro ks
  induction ks with
  | nil => intro h; exact absurd h.1 (Nat.not_lt_zero _)
  | cons y t ih =>
    intro h
    obtain ⟨h1, h2⟩ := h
    rw [q_pI_c] at h1 h2
    rw [q_ins_c]
    by_cases g : x ≤ y
    · rw [if_pos g] at h2
      rw [if_pos g, if_pos (show y = x from h2)]
    · rw [if_neg g] at h1 h2
      rw [List.length_cons] at h1
      rw [if_neg g, ih ⟨by omega, h2⟩]
theorem q_ins_new {x : Int32} : ∀ ks : List Int32, ¬ q_has x ks → (q_ins x ks).length = ks.length + 1 ∧ ∀ i, i ≤ ks.length → (q_ins x ks).getD i 0 = if i < q_pI x ks then ks.getD i 0 else if i = q_pI x ks then x else ks.getD (i - 1) 0 := by
  intro ks
  induction ks with
  | nil =>
    intro h
    refine ⟨rfl, fun i hi => ?_⟩
    obtain rfl : i = 0 := by have : ([] : List Int32).length = 0 := rfl; omega
    rfl
  | cons y t ih =>
    intro h
    rw [q_ins_c, q_pI_c]
    by_cases g : x ≤ y
    · have hy : ¬ y = x := fun q => h ⟨by rw [q_pI_c, if_pos g, List.length_cons]; omega, by rw [q_pI_c, if_pos g]; exact q⟩
      rw [if_pos g, if_neg hy, if_pos g]
      refine ⟨rfl, fun i hi => ?_⟩
      cases i with
      | zero => rfl
      | succ i => rw [if_neg (Nat.not_lt_zero _), if_neg (by omega)]; rfl
    · have hn : ¬ q_has x t := fun q => h ⟨by rw [q_pI_c, if_neg g, List.length_cons]; have := q.1; omega, by rw [q_pI_c, if_neg g]; exact q.2⟩
      obtain ⟨i1, i2⟩ := ih hn
      rw [if_neg g, if_neg g, List.length_cons, List.length_cons, i1]
      refine ⟨rfl, fun i hi => ?_⟩
      cases i with
      | zero => rw [if_pos (by omega)]; rfl
      | succ i =>
        show (q_ins x t).getD i 0 = _
        rw [i2 i (by omega)]
        by_cases c1 : i < q_pI x t
        · rw [if_pos c1, if_pos (by omega)]; rfl
        · rw [if_neg c1, if_neg (show ¬ i + 1 < q_pI x t + 1 by omega)]
          by_cases c2 : i = q_pI x t
          · rw [if_pos c2, if_pos (by omega)]
          · rw [if_neg c2, if_neg (by omega)]
            obtain ⟨k, rfl⟩ : ∃ k, i = k + 1 := ⟨i - 1, by omega⟩
            rfl
theorem q_ins_mem {x z : Int32} : ∀ ks : List Int32, z ∈ q_ins x ks ↔ z = x ∨ z ∈ ks := by
  intro ks
  induction ks with
  | nil => show z ∈ [x] ↔ _; simp
  | cons y t ih =>
    rw [q_ins_c]
    by_cases g : x ≤ y
    · rw [if_pos g]
      by_cases hy : y = x
      · rw [if_pos hy, hy]
        simp
      · rw [if_neg hy]; simp
    · rw [if_neg g, List.mem_cons, ih, List.mem_cons]
      constructor
      · rintro (a | a | a)
        · exact Or.inr (Or.inl a)
        · exact Or.inl a
        · exact Or.inr (Or.inr a)
      · rintro (a | a | a)
        · exact Or.inr (Or.inl a)
        · exact Or.inl a
        · exact Or.inr (Or.inr a)
theorem q_ins_srt {x : Int32} : ∀ ks : List Int32, q_srt ks → q_srt (q_ins x ks) := by
  intro ks
  induction ks with
  | nil => intro _; exact ⟨fun z hz => absurd hz List.not_mem_nil, trivial⟩
  | cons y t ih =>
    intro h
    rw [q_ins_c]
    by_cases g : x ≤ y
    · rw [if_pos g]
      by_cases hy : y = x
      · rw [if_pos hy]; exact h
      · rw [if_neg hy]
        have hxy := q_i_lt g hy
        refine ⟨fun z hz => ?_, h⟩
        rcases List.mem_cons.mp hz with q | q
        · rw [q]; exact hxy
        · exact q_i_tr hxy (h.1 z q)
    · rw [if_neg g]
      refine ⟨fun z hz => ?_, ih h.2⟩
      rcases (q_ins_mem t).mp hz with q | q
      · rw [q]; exact q_i_le.mp g
      · exact h.1 z q
theorem q_getD_mem {ks : List Int32} : ∀ (i : Nat), i < ks.length → ks.getD i 0 ∈ ks := by
  induction ks with
  | nil => intro i hi; exact absurd hi (Nat.not_lt_zero _)
  | cons y t ih =>
    intro i hi
    cases i with
    | zero => exact List.mem_cons_self
    | succ i => exact List.mem_cons_of_mem _ (ih i (by rw [List.length_cons] at hi; omega))
theorem q_srt_ge {x : Int32} : ∀ ks : List Int32, q_srt ks → ∀ i, q_pI x ks ≤ i → i < ks.length → x ≤ ks.getD i 0 := by
  intro ks
  induction ks with
  | nil => intro _ i _ hi; exact absurd hi (Nat.not_lt_zero _)
  | cons y t ih =>
    intro h i h1 h2
    rw [List.length_cons] at h2
    rw [q_pI_c] at h1
    by_cases g : x ≤ y
    · cases i with
      | zero => exact g
      | succ i =>
        have := h.1 _ (q_getD_mem i (show i < t.length by omega))
        show x ≤ t.getD i 0
        rw [Int32.le_iff_toInt_le] at *
        rw [Int32.lt_iff_toInt_lt] at this
        omega
    · rw [if_neg g] at h1
      cases i with
      | zero => omega
      | succ i => exact ih h.2 i (by omega) (by omega)
theorem q_srt_ix : ∀ ks : List Int32, q_srt ks → ∀ i, i < ks.length → q_pI (ks.getD i 0) ks = i := by
  intro ks
  induction ks with
  | nil => intro _ i hi; exact absurd hi (Nat.not_lt_zero _)
  | cons y t ih =>
    intro h i h2
    rw [List.length_cons] at h2
    cases i with
    | zero => rw [q_pI_c, if_pos (show (y :: t).getD 0 0 ≤ y from by show y ≤ y; rw [Int32.le_iff_toInt_le]; omega)]
    | succ i =>
      have hlt := h.1 _ (q_getD_mem i (show i < t.length by omega))
      have e : (y :: t).getD (i + 1) 0 = t.getD i 0 := rfl
      rw [e, q_pI_c, if_neg (q_i_le.mpr hlt), ih h.2 i (by omega)]
theorem q_mem_getD {x : Int32} : ∀ ks : List Int32, x ∈ ks → ∃ i, i < ks.length ∧ ks.getD i 0 = x := by
  intro ks
  induction ks with
  | nil => intro h; exact absurd h List.not_mem_nil
  | cons y t ih =>
    intro h
    rcases List.mem_cons.mp h with q | q
    · exact ⟨0, by rw [List.length_cons]; omega, q.symm⟩
    · obtain ⟨i, i1, i2⟩ := ih q
      exact ⟨i + 1, by rw [List.length_cons]; omega, i2⟩
theorem q_srt_pI {x : Int32} {ks : List Int32} (h : q_srt ks) (hx : x ∈ ks) : q_has x ks := by
  obtain ⟨i, i1, i2⟩ := q_mem_getD ks hx
  have := q_srt_ix ks h i i1
  rw [i2] at this
  unfold q_has
  rw [this]; exact ⟨i1, i2⟩
def q_ks (col : Nat) : List Int32 → List q_An → List Int32
  | ks, [] => ks
  | ks, a :: l => q_ks col (q_ins (a.1 col) ks) l
theorem q_ks_srt {col : Nat} : ∀ (l : List q_An) (ks : List Int32), q_srt ks → q_srt (q_ks col ks l) := by
  intro l
  induction l with
  | nil => intro ks h; exact h
  | cons a l ih => intro ks h; exact ih _ (q_ins_srt ks h)
theorem q_ks_mem {col : Nat} {z : Int32} : ∀ (l : List q_An) (ks : List Int32), z ∈ q_ks col ks l ↔ z ∈ ks ∨ ∃ a, a ∈ l ∧ a.1 col = z := by
  intro l
  induction l with
  | nil => intro ks; exact ⟨fun q => Or.inl q, fun q => q.elim id (fun ⟨a, h, _⟩ => absurd h List.not_mem_nil)⟩
  | cons a l ih =>
    intro ks
    show z ∈ q_ks col (q_ins (a.1 col) ks) l ↔ _
    rw [ih, q_ins_mem]
    constructor
    · rintro ((h | h) | ⟨b, b1, b2⟩)
      · exact Or.inr ⟨a, List.mem_cons_self, h.symm⟩
      · exact Or.inl h
      · exact Or.inr ⟨b, List.mem_cons_of_mem _ b1, b2⟩
    · rintro (h | ⟨b, b1, b2⟩)
      · exact Or.inl (Or.inr h)
      · rcases List.mem_cons.mp b1 with q | q
        · rw [q] at b2; exact Or.inl (Or.inl b2.symm)
        · exact Or.inr ⟨b, q, b2⟩
theorem q_ins_len {x : Int32} (ks : List Int32) : (q_ins x ks).length ≤ ks.length + 1 := by
  by_cases h : q_has x ks
  · rw [q_ins_in ks h]; omega
  · rw [(q_ins_new ks h).1]; exact Nat.le_refl _
theorem q_ks_len {col : Nat} : ∀ (l : List q_An) (ks : List Int32), (q_ks col ks l).length ≤ ks.length + l.length := by
  intro l
  induction l with
  | nil => intro ks; exact Nat.le_add_right _ _
  | cons a l ih =>
    intro ks
    have h1 := ih (q_ins (a.1 col) ks)
    have h2 := q_ins_len (x := a.1 col) ks
    show (q_ks col (q_ins (a.1 col) ks) l).length ≤ _
    rw [List.length_cons]; omega
/-- keys lie in an array -/
def q_kl (s : am_M) (b : Nat) (ks : List Int32) : Prop := ∀ i, i < ks.length → s b i = ks.getD i 0
theorem q_kl_ins {s t : am_M} {b : Nat} {x : Int32} {ks : List Int32} (h : q_kl s b ks) (hn : ¬ q_has x ks) (h1 : ∀ i, i < q_pI x ks → t b i = s b i) (h2 : t b (q_pI x ks) = x) (h3 : ∀ i, q_pI x ks ≤ i → i < ks.length → t b (i + 1) = s b i) : q_kl t b (q_ins x ks) := by
  obtain ⟨n1, n2⟩ := q_ins_new ks hn
  have hle := q_pI_le (x := x) ks
  intro i hi
  rw [n1] at hi
  rw [n2 i (by omega)]
  by_cases c1 : i < q_pI x ks
  · rw [if_pos c1, h1 i c1]; exact h i (by omega)
  · rw [if_neg c1]
    by_cases c2 : i = q_pI x ks
    · rw [if_pos c2, c2, h2]
    · rw [if_neg c2]
      have := h3 (i - 1) (by omega) (by omega)
      rw [show i - 1 + 1 = i from by omega] at this
      rw [this]; exact h (i - 1) (by omega)
theorem q_kl_out {s t : am_M} {b : Nat} {ks : List Int32} {P : Nat → Nat → Prop} (h : q_out s t P) (hP : ∀ a c, P a c → a ≠ b) (k : q_kl s b ks) : q_kl t b ks := fun i hi => by
  rw [h b i (fun q => hP _ _ q rfl)]; exact k i hi
end
