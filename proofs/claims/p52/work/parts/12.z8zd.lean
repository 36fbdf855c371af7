noncomputable section
-- condition
def q_ac9 (s : am_M) (j m : Nat) (x1 x2 x3 x4 : Int32) : am_M := am_set (am_set (am_set (am_set (am_set s (70 + 7 * j) m x1) (71 + 7 * j) m x2) (72 + 7 * j) m x3) (73 + 7 * j) m x4) (67 + 7 * j) 12 (nI (m + 1))
theorem qa_addC {s : am_M} {j m : Nat} (hj : j < 8) (hm : m < 6) (h : s (67 + 7 * j) 12 = nI m) (x1 x2 x3 x4 : Int32) : p_QU_addCondition s (67 + 7 * j) x1 x2 x3 x4 ∧ f_QU_addCondition s (67 + 7 * j) x1 x2 x3 x4 = (nI (m + 1), q_ac9 s j m x1 x2 x3 x4) := by
  obtain ⟨h0, -, -, h13, h14, h15, h16⟩ := qa_sh hj
  obtain ⟨-, -, -, l13, l14, l15, l16⟩ := qa_lk hj
  have c : ¬ (6 : Int32) ≤ nI m := ql_6 hm
  have cl : (nI m).toNatClampNeg = m := nI_clamp (by omega)
  have e1 : am_set s (70 + 7 * j) m x1 (67 + 7 * j) 12 = nI m := by rw [am_set_p (by omega)]; exact h
  have e2 : am_set (am_set s (70 + 7 * j) m x1) (71 + 7 * j) m x2 (67 + 7 * j) 12 = nI m := by rw [am_set_p (by omega)]; exact e1
  have e3 : am_set (am_set (am_set s (70 + 7 * j) m x1) (71 + 7 * j) m x2) (72 + 7 * j) m x3 (67 + 7 * j) 12 = nI m := by rw [am_set_p (by omega)]; exact e2
  have e4 : am_set (am_set (am_set (am_set s (70 + 7 * j) m x1) (71 + 7 * j) m x2) (72 + 7 * j) m x3) (73 + 7 * j) m x4 (67 + 7 * j) 12 = nI m := by rw [am_set_p (by omega)]; exact e3
  have v : vp_in (nI m) 6 := vp_in_nI hm (by omega)
  unfold p_QU_addCondition f_QU_addCondition
  rw [h, if_neg c, l13, l14, l15, l16, cl, e1, cl, e2, cl, e3, cl, e4, nI_1 m, am_set_q]
  exact ⟨⟨⟨by omega, h0⟩, fun q => absurd q c, fun _ => ⟨⟨by omega, h13⟩, v, ⟨by omega, h14⟩, v, ⟨by omega, h15⟩, v, ⟨by omega, h16⟩, v, trivial⟩⟩, rfl⟩
theorem q_ac9_o {s : am_M} {j m : Nat} {x1 x2 x3 x4 : Int32} {a b : Nat} (h1 : a ≠ 67 + 7 * j ∨ b ≠ 12) (h2 : ¬ (70 + 7 * j ≤ a ∧ a ≤ 73 + 7 * j) ∨ b ≠ m) : q_ac9 s j m x1 x2 x3 x4 a b = s a b := by
  unfold q_ac9
  rw [am_set_p h1, am_set_p (by omega), am_set_p (by omega), am_set_p (by omega), am_set_p (by omega)]
theorem q_ac9_v {s : am_M} {j m : Nat} {x1 x2 x3 x4 : Int32} : q_ac9 s j m x1 x2 x3 x4 (67 + 7 * j) 12 = nI (m + 1) ∧ q_ac9 s j m x1 x2 x3 x4 (70 + 7 * j) m = x1 ∧ q_ac9 s j m x1 x2 x3 x4 (71 + 7 * j) m = x2 ∧ q_ac9 s j m x1 x2 x3 x4 (72 + 7 * j) m = x3 ∧ q_ac9 s j m x1 x2 x3 x4 (73 + 7 * j) m = x4 := by
  unfold q_ac9
  refine ⟨am_set_q, ?_, ?_, ?_, ?_⟩
  · rw [am_set_p (by omega), am_set_p (by omega), am_set_p (by omega), am_set_p (by omega), am_set_q]
  · rw [am_set_p (by omega), am_set_p (by omega), am_set_p (by omega), am_set_q]
  · rw [am_set_p (by omega), am_set_p (by omega), am_set_q]
  · rw [am_set_p (by omega), am_set_q]
theorem q_ac9_c {s V : am_M} {j m a : Nat} {x1 x2 x3 x4 : Int32} (h : s a = V a) : q_ac9 s j m x1 x2 x3 x4 a = q_ac9 V j m x1 x2 x3 x4 a := am_set_c (am_set_c (am_set_c (am_set_c (am_set_c h))))
/-- the model's side -/
def q_am9 (s : am_M) (j m : Nat) (x2 x3 x4 x5 : Int32) : am_M := am_set (am_set (am_set (am_set (am_set s 244 (6 * j + m) x2) 245 (6 * j + m) x3) 246 (6 * j + m) x4) 247 (6 * j + m) x5) 243 j (nI (m + 1))
theorem qm_c84 {u : am_M} {j m : Nat} (hj : j < 8) (hm : m < 6) (h : u 243 j = nI m) (x2 x3 x4 x5 x6 x7 : Int32) : p_MO_condition_84 u (nI j) x2 x3 x4 x5 x6 x7 0 ∧ f_MO_condition_84 u (nI j) x2 x3 x4 x5 x6 x7 0 = (nI (m + 1), q_am9 (am_set u 207 0 0) j m x2 x3 x4 x5) := by
  have cj : (nI j).toNatClampNeg = j := nI_clamp (by omega)
  have e0 : am_set u 207 0 0 243 j = nI m := by rw [am_set_p (by omega)]; exact h
  have cl : (nI (6 * j + m)).toNatClampNeg = 6 * j + m := nI_clamp (by omega)
  have e4 : am_set (am_set (am_set (am_set (am_set u 207 0 0) 244 (6 * j + m) x2) 245 (6 * j + m) x3) 246 (6 * j + m) x4) 247 (6 * j + m) x5 243 j = nI m := by
    rw [am_set_p (by omega), am_set_p (by omega), am_set_p (by omega), am_set_p (by omega)]; exact e0
  have vj : vp_in (nI j) 8 := vp_in_nI hj (by omega)
  have v : vp_in (nI (6 * j + m)) 48 := vp_in_nI (by omega) (by omega)
  unfold p_MO_condition_84 f_MO_condition_84
  rw [pr_holds0]
  dsimp only
  rw [if_neg i10, cj, e0, qw_6, nI_add, cl, e4, nI_1 m, am_set_q]
  exact ⟨⟨fun q => absurd q i10, fun _ => ⟨vj, v, v, v, v, vj, vj, vj, trivial⟩⟩, rfl⟩
theorem q_am9_o {s : am_M} {j m : Nat} {x2 x3 x4 x5 : Int32} {a b : Nat} (h1 : a ≠ 243 ∨ b ≠ j) (h2 : ¬ (244 ≤ a ∧ a ≤ 247) ∨ b ≠ 6 * j + m) : q_am9 s j m x2 x3 x4 x5 a b = s a b := by
  unfold q_am9
  rw [am_set_p h1, am_set_p (by omega), am_set_p (by omega), am_set_p (by omega), am_set_p (by omega)]
theorem q_am9_v {s : am_M} {j m : Nat} {x2 x3 x4 x5 : Int32} : q_am9 s j m x2 x3 x4 x5 243 j = nI (m + 1) ∧ q_am9 s j m x2 x3 x4 x5 244 (6 * j + m) = x2 ∧ q_am9 s j m x2 x3 x4 x5 245 (6 * j + m) = x3 ∧ q_am9 s j m x2 x3 x4 x5 246 (6 * j + m) = x4 ∧ q_am9 s j m x2 x3 x4 x5 247 (6 * j + m) = x5 := by
  unfold q_am9
  refine ⟨am_set_q, ?_, ?_, ?_, ?_⟩
  · rw [am_set_p (by omega), am_set_p (by omega), am_set_p (by omega), am_set_p (by omega), am_set_q]
  · rw [am_set_p (by omega), am_set_p (by omega), am_set_p (by omega), am_set_q]
  · rw [am_set_p (by omega), am_set_p (by omega), am_set_q]
  · rw [am_set_p (by omega), am_set_q]
/-- the arguments suit -/
def q_cok (x2 x4 x5 : Int32) : Prop := ¬ x2 < 0 ∧ ¬ (3 : Int32) ≤ x2 ∧ ¬ x4 < 0 ∧ ¬ (3 : Int32) < x4 ∧ ¬ x5 < (-999999 : Int32) ∧ x5 ≤ (999999 : Int32)
theorem q_cok_v {x2 x4 x5 : Int32} (h : q_cok x2 x4 x5) : (∃ l, l < 3 ∧ x2 = nI l) ∧ (∃ r, r < 4 ∧ x4 = nI r) ∧ -999999 ≤ x5.toInt ∧ x5.toInt ≤ 999999 := by
  obtain ⟨h1, h2, h3, h4, h5, h6⟩ := h
  refine ⟨?_, ?_, ?_, ?_⟩
  · rcases qx_3 x2 with q | q | ⟨l, hl, q⟩
    · exact absurd q h1
    · exact absurd q h2
    · exact ⟨l, hl, q⟩
  · rcases qx_4 x4 with q | q | ⟨r, hr, q⟩
    · exact absurd q h3
    · refine absurd ?_ h4
      have e3 : (3 : Int32).toInt = 3 := by decide
      have e4 : (4 : Int32).toInt = 4 := by decide
      rw [Int32.le_iff_toInt_le] at q
      rw [Int32.lt_iff_toInt_lt]; omega
    · exact ⟨r, hr, q⟩
  · have e : (-999999 : Int32).toInt = -999999 := by decide
    rw [Int32.lt_iff_toInt_lt] at h5; omega
  · have e : (999999 : Int32).toInt = 999999 := by decide
    rw [Int32.le_iff_toInt_le] at h6; omega
/-- the model's tests of them -/
theorem qm_cok (u : am_M) (x2 x4 x5 : Int32) : (q_cok x2 x4 x5 → f_MO_in u x2 0 2 = 1 ∧ f_MO_in u x4 0 3 = 1 ∧ f_MO_in u x5 (-999999) 999999 = 1) ∧ (¬ q_cok x2 x4 x5 → f_MO_in u x2 0 2 = 0 ∨ f_MO_in u x4 0 3 = 0 ∨ f_MO_in u x5 (-999999) 999999 = 0) := by
  have e2 : (2 : Int32) < x2 ↔ (3 : Int32) ≤ x2 := by
    have h1 : (2 : Int32).toInt = 2 := by decide
    have h2 : (3 : Int32).toInt = 3 := by decide
    rw [Int32.lt_iff_toInt_lt, Int32.le_iff_toInt_le]; omega
  have e9 : (999999 : Int32) < x5 ↔ ¬ x5 ≤ (999999 : Int32) := pr_le
  unfold q_cok f_MO_in
  constructor
  · rintro ⟨h1, h2, h3, h4, h5, h6⟩
    rw [if_neg h1, if_neg (fun q => h2 (e2.mp q)), if_neg h3, if_neg h4, if_neg h5, if_neg (fun q => (e9.mp q) h6)]
    exact ⟨rfl, rfl, rfl⟩
  · intro h
    by_cases h1 : x2 < 0
    · exact Or.inl (if_pos h1)
    by_cases h2 : (3 : Int32) ≤ x2
    · left; rw [if_neg h1, if_pos (e2.mpr h2)]
    by_cases h3 : x4 < 0
    · exact Or.inr (Or.inl (if_pos h3))
    by_cases h4 : (3 : Int32) < x4
    · right; left; rw [if_neg h3, if_pos h4]
    by_cases h5 : x5 < (-999999 : Int32)
    · exact Or.inr (Or.inr (if_pos h5))
    by_cases h6 : x5 ≤ (999999 : Int32)
    · exact absurd ⟨h1, h2, h3, h4, h5, h6⟩ h
    · right; right; rw [if_neg h5, if_pos (e9.mpr h6)]
theorem qm_c84n (u : am_M) (x1 x2 x3 x4 x5 x6 x7 y : Int32) (h : y ≠ 0) : p_MO_condition_84 u x1 x2 x3 x4 x5 x6 x7 y ∧ f_MO_condition_84 u x1 x2 x3 x4 x5 x6 x7 y = (0, am_set u 207 0 y) := by
  unfold p_MO_condition_84 f_MO_condition_84
  rw [pr_holds1 u h]
  exact ⟨⟨fun _ => trivial, fun q => absurd rfl q⟩, rfl⟩
/-- the model: refused for the question or the column -/
theorem qm_condE {u t : am_M} {x1 x2 x3 x4 x5 e : Int32} (he : e ≠ 0) (p : p_MO_errorOfQuestion u x1 x3) (h : f_MO_errorOfQuestion u x1 x3 = (e, t)) : p_MO_condition u x1 x2 x3 x4 x5 ∧ f_MO_condition u x1 x2 x3 x4 x5 = (0, am_set t 207 0 e) := by
  have K := fun y => qm_c84n t x1 x2 x3 x4 x5 e y e he
  have k46 : ∀ y, p_MO_condition_46 t x1 x2 x3 x4 x5 e y ∧ f_MO_condition_46 t x1 x2 x3 x4 x5 e y = (0, am_set t 207 0 e) := fun y => by
    unfold p_MO_condition_46 f_MO_condition_46
    rw [if_neg he]
    exact ⟨⟨fun q => absurd q he, fun _ => (K y).1⟩, (K y).2⟩
  unfold p_MO_condition f_MO_condition p_MO_condition_45 f_MO_condition_45
  rw [h]
  dsimp only
  rw [(k46 0).2, (k46 1).2, ite_self, ite_self, ite_self]
  exact ⟨⟨p, fun _ => (k46 0).1, fun _ => ⟨fun _ => (k46 0).1, fun _ => ⟨fun _ => (k46 0).1, fun _ => (k46 1).1⟩⟩⟩, rfl⟩
/-- the model: refused for the arguments -/
theorem qm_condB {u t : am_M} {x1 x2 x3 x4 x5 : Int32} (hb : ¬ q_cok x2 x4 x5) (p : p_MO_errorOfQuestion u x1 x3) (h : f_MO_errorOfQuestion u x1 x3 = (0, t)) : p_MO_condition u x1 x2 x3 x4 x5 ∧ f_MO_condition u x1 x2 x3 x4 x5 = (0, am_set t 207 0 2) := by
  have K := qm_c84n t x1 x2 x3 x4 x5 0 0 2 (by decide)
  have k45 : p_MO_condition_45 t x1 x2 x3 x4 x5 0 ∧ f_MO_condition_45 t x1 x2 x3 x4 x5 0 = (0, am_set t 207 0 2) := by
    unfold p_MO_condition_45 f_MO_condition_45 p_MO_condition_46 f_MO_condition_46
    rw [if_pos rfl, if_pos rfl]
    exact ⟨⟨fun _ => ⟨fun _ => K.1, fun q => absurd rfl q⟩, fun q => absurd rfl q⟩, K.2⟩
  have hz := (qm_cok t x2 x4 x5).2 hb
  unfold p_MO_condition f_MO_condition
  rw [h]
  dsimp only
  rw [k45.2]
  by_cases q1 : f_MO_in t x2 0 2 = 0
  · rw [if_pos q1]
    exact ⟨⟨p, fun _ => k45.1, fun q => absurd q1 q⟩, rfl⟩
  by_cases q2 : f_MO_in t x4 0 3 = 0
  · rw [if_neg q1, if_pos q2]
    exact ⟨⟨p, fun _ => k45.1, fun _ => ⟨fun _ => k45.1, fun q => absurd q2 q⟩⟩, rfl⟩
  · have q3 := (hz.resolve_left q1).resolve_left q2
    rw [if_neg q1, if_neg q2, if_pos q3]
    exact ⟨⟨p, fun _ => k45.1, fun _ => ⟨fun _ => k45.1, fun _ => ⟨fun _ => k45.1, fun q => absurd q3 q⟩⟩⟩, rfl⟩
/-- the model: all suits -/
theorem qm_condG {u t : am_M} {j m : Nat} (hj : j < 8) (hm : m ≤ 6) (h43 : t 243 j = nI m) {x2 x3 x4 x5 : Int32} (hb : q_cok x2 x4 x5) (p : p_MO_errorOfQuestion u (nI j) x3) (h : f_MO_errorOfQuestion u (nI j) x3 = (0, t)) : p_MO_condition u (nI j) x2 x3 x4 x5 ∧ f_MO_condition u (nI j) x2 x3 x4 x5 = (if m < 6 then (nI (m + 1), q_am9 (am_set t 207 0 0) j m x2 x3 x4 x5) else (0, am_set t 207 0 3)) := by
  obtain ⟨z1, z2, z3⟩ := (qm_cok t x2 x4 x5).1 hb
  have vj : vp_in (nI j) 8 := vp_in_nI hj (by omega)
  unfold p_MO_condition f_MO_condition
  rw [h]
  dsimp only
  rw [z1, z2, z3, if_neg i10, if_neg i10, if_neg i10]
  unfold p_MO_condition_46 f_MO_condition_46
  rw [if_pos rfl, if_neg i10, nI_clamp (n := j) (by omega), h43]
  by_cases c : m < 6
  · have n6 : ¬ nI m = (6 : Int32) := fun q => by have := (qe_6 (by omega)).mp q; omega
    obtain ⟨g1, g2⟩ := qm_c84 hj c h43 x2 x3 x4 x5 0 1
    rw [if_neg n6, if_pos c]
    exact ⟨⟨p, fun q => absurd q i10, fun _ => ⟨fun q => absurd q i10, fun _ => ⟨fun q => absurd q i10, fun _ => ⟨fun _ => ⟨fun q => absurd q i10, fun _ => ⟨vj, fun q => absurd q n6, fun _ => g1⟩⟩, fun q => absurd rfl q⟩⟩⟩⟩, g2⟩
  · have y6 : nI m = (6 : Int32) := (qe_6 (by omega)).mpr (by omega)
    obtain ⟨g1, g2⟩ := qm_c84n t (nI j) x2 x3 x4 x5 0 1 3 (by decide)
    rw [if_pos y6, if_neg c]
    exact ⟨⟨p, fun q => absurd q i10, fun _ => ⟨fun q => absurd q i10, fun _ => ⟨fun q => absurd q i10, fun _ => ⟨fun _ => ⟨fun q => absurd q i10, fun _ => ⟨vj, fun _ => g1, fun q => absurd y6 q⟩⟩, fun q => absurd rfl q⟩⟩⟩⟩, g2⟩
end
