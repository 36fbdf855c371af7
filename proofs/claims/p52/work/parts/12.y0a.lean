noncomputable section
/-- what the law keeps of an answer -/
def pz_o (s : am_M) (v : Int32) : am_M := am_set s 262 0 v
theorem pz_c0 : ((0 : Int32)).toNatClampNeg = 0 := rfl
theorem og_addTable {R1 : am_M → Prop} {s s1 t : am_M} {v : Int32} {w : Int32} (hC : f_CB_addTable s = (0, v, s1)) (hM : f_MO_addTable (am_set s1 262 0 v) = (w, t)) (h0 : t 207 0 = 0) (h2 : t 262 0 = w) (hR : R1 t) (hn : v ≠ -9999999) : p_LA_addTable s ∧ pu_I R1 (f_LA_addTable s).1 (f_MO_addTable (f_LA_addTable s).2) ∧ n9 (f_CB_addTable s) := by
  have hL : f_LA_addTable s = (0, am_set s1 262 0 v) := by
    unfold f_LA_addTable; rw [hC]; rfl
  have pL : p_LA_addTable s := by
    unfold p_LA_addTable; rw [hC]
    exact ⟨by simp, fun _ => ⟨vp_in_nI (n := 0) (by decide) (by decide), trivial⟩, fun q => absurd rfl q⟩
  rw [hL]
  refine ⟨pL, ?_, fun _ => by rw [hC]; exact hn⟩
  show pu_I R1 0 (f_MO_addTable (am_set s1 262 0 v))
  rw [hM]; exact ⟨h0, fun _ => h2, hR⟩
theorem on_addTable_1 {R1 : am_M → Prop} {s s1 t : am_M} {v : Int32} {w : Int32} (hC : f_CB_addTable s = (3, v, s1)) (hM : f_MO_addTable s1 = (w, t)) (h0 : t 207 0 = 1) (hR : R1 t) : p_LA_addTable s ∧ pu_I R1 (f_LA_addTable s).1 (f_MO_addTable (f_LA_addTable s).2) ∧ n9 (f_CB_addTable s) := by
  have hL : f_LA_addTable s = (1, s1) := by unfold f_LA_addTable; rw [hC]; rfl
  have pL : p_LA_addTable s := by
    unfold p_LA_addTable; rw [hC]
    exact by simp
  rw [hL]
  refine ⟨pL, ?_, fun q => by
    rw [hC] at q
    exact absurd (show (3 : Nat) = 0 from q) (by decide)⟩
  show pu_I R1 1 (f_MO_addTable s1)
  rw [hM]; exact ⟨h0, fun q => absurd q (by decide), hR⟩
theorem og_addNumber {R1 : am_M → Prop} {s s1 t : am_M} {a1 a2 a3 : Int32} {v : Int32} {w : Int32} (hC : f_CB_addNumber s a1 a2 a3 = (0, v, s1)) (pC : p_CB_addNumber s a1 a2 a3) (pM : p_MO_addNumber (am_set s1 262 0 v) a1 a2 a3) (hM : f_MO_addNumber (am_set s1 262 0 v) a1 a2 a3 = (w, t)) (h0 : t 207 0 = 0) (h2 : t 262 0 = w) (hR : R1 t) (hn : v ≠ -9999999) : p_LA_addNumber s a1 a2 a3 ∧ p_MO_addNumber (f_LA_addNumber s a1 a2 a3).2 a1 a2 a3 ∧ pu_I R1 (f_LA_addNumber s a1 a2 a3).1 (f_MO_addNumber (f_LA_addNumber s a1 a2 a3).2 a1 a2 a3) ∧ n9 (f_CB_addNumber s a1 a2 a3) := by
  have hL : f_LA_addNumber s a1 a2 a3 = (0, am_set s1 262 0 v) := by
    unfold f_LA_addNumber; rw [hC]; rfl
  have pL : p_LA_addNumber s a1 a2 a3 := by
    unfold p_LA_addNumber; rw [hC]
    exact ⟨pC, by simp, fun _ => ⟨vp_in_nI (n := 0) (by decide) (by decide), trivial⟩, fun q => absurd rfl q⟩
  rw [hL]
  refine ⟨pL, pM, ?_, fun _ => by rw [hC]; exact hn⟩
  show pu_I R1 0 (f_MO_addNumber (am_set s1 262 0 v) a1 a2 a3)
  rw [hM]; exact ⟨h0, fun _ => h2, hR⟩
theorem on_addNumber_1 {R1 : am_M → Prop} {s s1 t : am_M} {a1 a2 a3 : Int32} {v : Int32} {w : Int32} (hC : f_CB_addNumber s a1 a2 a3 = (1, v, s1)) (pC : p_CB_addNumber s a1 a2 a3) (pM : p_MO_addNumber s1 a1 a2 a3) (hM : f_MO_addNumber s1 a1 a2 a3 = (w, t)) (h0 : t 207 0 = 1) (hR : R1 t) : p_LA_addNumber s a1 a2 a3 ∧ p_MO_addNumber (f_LA_addNumber s a1 a2 a3).2 a1 a2 a3 ∧ pu_I R1 (f_LA_addNumber s a1 a2 a3).1 (f_MO_addNumber (f_LA_addNumber s a1 a2 a3).2 a1 a2 a3) ∧ n9 (f_CB_addNumber s a1 a2 a3) := by
  have hL : f_LA_addNumber s a1 a2 a3 = (1, s1) := by unfold f_LA_addNumber; rw [hC]; rfl
  have pL : p_LA_addNumber s a1 a2 a3 := by
    unfold p_LA_addNumber; rw [hC]
    exact ⟨pC, by simp⟩
  rw [hL]
  refine ⟨pL, pM, ?_, fun q => by
    rw [hC] at q
    exact absurd (show (1 : Nat) = 0 from q) (by decide)⟩
  show pu_I R1 1 (f_MO_addNumber s1 a1 a2 a3)
  rw [hM]; exact ⟨h0, fun q => absurd q (by decide), hR⟩
theorem on_addNumber_2 {R1 : am_M → Prop} {s s1 t : am_M} {a1 a2 a3 : Int32} {v : Int32} {w : Int32} (hC : f_CB_addNumber s a1 a2 a3 = (2, v, s1)) (pC : p_CB_addNumber s a1 a2 a3) (pM : p_MO_addNumber s1 a1 a2 a3) (hM : f_MO_addNumber s1 a1 a2 a3 = (w, t)) (h0 : t 207 0 = 2) (hR : R1 t) : p_LA_addNumber s a1 a2 a3 ∧ p_MO_addNumber (f_LA_addNumber s a1 a2 a3).2 a1 a2 a3 ∧ pu_I R1 (f_LA_addNumber s a1 a2 a3).1 (f_MO_addNumber (f_LA_addNumber s a1 a2 a3).2 a1 a2 a3) ∧ n9 (f_CB_addNumber s a1 a2 a3) := by
  have hL : f_LA_addNumber s a1 a2 a3 = (2, s1) := by unfold f_LA_addNumber; rw [hC]; rfl
  have pL : p_LA_addNumber s a1 a2 a3 := by
    unfold p_LA_addNumber; rw [hC]
    exact ⟨pC, by simp⟩
  rw [hL]
  refine ⟨pL, pM, ?_, fun q => by
    rw [hC] at q
    exact absurd (show (2 : Nat) = 0 from q) (by decide)⟩
  show pu_I R1 2 (f_MO_addNumber s1 a1 a2 a3)
  rw [hM]; exact ⟨h0, fun q => absurd q (by decide), hR⟩
theorem on_addNumber_3 {R1 : am_M → Prop} {s s1 t : am_M} {a1 a2 a3 : Int32} {v : Int32} {w : Int32} (hC : f_CB_addNumber s a1 a2 a3 = (3, v, s1)) (pC : p_CB_addNumber s a1 a2 a3) (pM : p_MO_addNumber s1 a1 a2 a3) (hM : f_MO_addNumber s1 a1 a2 a3 = (w, t)) (h0 : t 207 0 = 3) (hR : R1 t) : p_LA_addNumber s a1 a2 a3 ∧ p_MO_addNumber (f_LA_addNumber s a1 a2 a3).2 a1 a2 a3 ∧ pu_I R1 (f_LA_addNumber s a1 a2 a3).1 (f_MO_addNumber (f_LA_addNumber s a1 a2 a3).2 a1 a2 a3) ∧ n9 (f_CB_addNumber s a1 a2 a3) := by
  have hL : f_LA_addNumber s a1 a2 a3 = (3, s1) := by unfold f_LA_addNumber; rw [hC]; rfl
  have pL : p_LA_addNumber s a1 a2 a3 := by
    unfold p_LA_addNumber; rw [hC]
    exact ⟨pC, by simp⟩
  rw [hL]
  refine ⟨pL, pM, ?_, fun q => by
    rw [hC] at q
    exact absurd (show (3 : Nat) = 0 from q) (by decide)⟩
  show pu_I R1 3 (f_MO_addNumber s1 a1 a2 a3)
  rw [hM]; exact ⟨h0, fun q => absurd q (by decide), hR⟩
theorem og_addLink {R1 : am_M → Prop} {s s1 t : am_M} {a1 a2 a3 : Int32} {v : Int32} {w : Int32} (hC : f_CB_addLink s a1 a2 a3 = (0, v, s1)) (pC : p_CB_addLink s a1 a2 a3) (pM : p_MO_addLink (am_set s1 262 0 v) a1 a2 a3) (hM : f_MO_addLink (am_set s1 262 0 v) a1 a2 a3 = (w, t)) (h0 : t 207 0 = 0) (h2 : t 262 0 = w) (hR : R1 t) (hn : v ≠ -9999999) : p_LA_addLink s a1 a2 a3 ∧ p_MO_addLink (f_LA_addLink s a1 a2 a3).2 a1 a2 a3 ∧ pu_I R1 (f_LA_addLink s a1 a2 a3).1 (f_MO_addLink (f_LA_addLink s a1 a2 a3).2 a1 a2 a3) ∧ n9 (f_CB_addLink s a1 a2 a3) := by
  have hL : f_LA_addLink s a1 a2 a3 = (0, am_set s1 262 0 v) := by
    unfold f_LA_addLink; rw [hC]; rfl
  have pL : p_LA_addLink s a1 a2 a3 := by
    unfold p_LA_addLink; rw [hC]
    exact ⟨pC, by simp, fun _ => ⟨vp_in_nI (n := 0) (by decide) (by decide), trivial⟩, fun q => absurd rfl q⟩
  rw [hL]
  refine ⟨pL, pM, ?_, fun _ => by rw [hC]; exact hn⟩
  show pu_I R1 0 (f_MO_addLink (am_set s1 262 0 v) a1 a2 a3)
  rw [hM]; exact ⟨h0, fun _ => h2, hR⟩
theorem on_addLink_1 {R1 : am_M → Prop} {s s1 t : am_M} {a1 a2 a3 : Int32} {v : Int32} {w : Int32} (hC : f_CB_addLink s a1 a2 a3 = (1, v, s1)) (pC : p_CB_addLink s a1 a2 a3) (pM : p_MO_addLink s1 a1 a2 a3) (hM : f_MO_addLink s1 a1 a2 a3 = (w, t)) (h0 : t 207 0 = 1) (hR : R1 t) : p_LA_addLink s a1 a2 a3 ∧ p_MO_addLink (f_LA_addLink s a1 a2 a3).2 a1 a2 a3 ∧ pu_I R1 (f_LA_addLink s a1 a2 a3).1 (f_MO_addLink (f_LA_addLink s a1 a2 a3).2 a1 a2 a3) ∧ n9 (f_CB_addLink s a1 a2 a3) := by
  have hL : f_LA_addLink s a1 a2 a3 = (1, s1) := by unfold f_LA_addLink; rw [hC]; rfl
  have pL : p_LA_addLink s a1 a2 a3 := by
    unfold p_LA_addLink; rw [hC]
    exact ⟨pC, by simp⟩
  rw [hL]
  refine ⟨pL, pM, ?_, fun q => by
    rw [hC] at q
    exact absurd (show (1 : Nat) = 0 from q) (by decide)⟩
  show pu_I R1 1 (f_MO_addLink s1 a1 a2 a3)
  rw [hM]; exact ⟨h0, fun q => absurd q (by decide), hR⟩
theorem on_addLink_2 {R1 : am_M → Prop} {s s1 t : am_M} {a1 a2 a3 : Int32} {v : Int32} {w : Int32} (hC : f_CB_addLink s a1 a2 a3 = (2, v, s1)) (pC : p_CB_addLink s a1 a2 a3) (pM : p_MO_addLink s1 a1 a2 a3) (hM : f_MO_addLink s1 a1 a2 a3 = (w, t)) (h0 : t 207 0 = 2) (hR : R1 t) : p_LA_addLink s a1 a2 a3 ∧ p_MO_addLink (f_LA_addLink s a1 a2 a3).2 a1 a2 a3 ∧ pu_I R1 (f_LA_addLink s a1 a2 a3).1 (f_MO_addLink (f_LA_addLink s a1 a2 a3).2 a1 a2 a3) ∧ n9 (f_CB_addLink s a1 a2 a3) := by
  have hL : f_LA_addLink s a1 a2 a3 = (2, s1) := by unfold f_LA_addLink; rw [hC]; rfl
  have pL : p_LA_addLink s a1 a2 a3 := by
    unfold p_LA_addLink; rw [hC]
    exact ⟨pC, by simp⟩
  rw [hL]
  refine ⟨pL, pM, ?_, fun q => by
    rw [hC] at q
    exact absurd (show (2 : Nat) = 0 from q) (by decide)⟩
  show pu_I R1 2 (f_MO_addLink s1 a1 a2 a3)
  rw [hM]; exact ⟨h0, fun q => absurd q (by decide), hR⟩
theorem on_addLink_3 {R1 : am_M → Prop} {s s1 t : am_M} {a1 a2 a3 : Int32} {v : Int32} {w : Int32} (hC : f_CB_addLink s a1 a2 a3 = (3, v, s1)) (pC : p_CB_addLink s a1 a2 a3) (pM : p_MO_addLink s1 a1 a2 a3) (hM : f_MO_addLink s1 a1 a2 a3 = (w, t)) (h0 : t 207 0 = 3) (hR : R1 t) : p_LA_addLink s a1 a2 a3 ∧ p_MO_addLink (f_LA_addLink s a1 a2 a3).2 a1 a2 a3 ∧ pu_I R1 (f_LA_addLink s a1 a2 a3).1 (f_MO_addLink (f_LA_addLink s a1 a2 a3).2 a1 a2 a3) ∧ n9 (f_CB_addLink s a1 a2 a3) := by
  have hL : f_LA_addLink s a1 a2 a3 = (3, s1) := by unfold f_LA_addLink; rw [hC]; rfl
  have pL : p_LA_addLink s a1 a2 a3 := by
    unfold p_LA_addLink; rw [hC]
    exact ⟨pC, by simp⟩
  rw [hL]
  refine ⟨pL, pM, ?_, fun q => by
    rw [hC] at q
    exact absurd (show (3 : Nat) = 0 from q) (by decide)⟩
  show pu_I R1 3 (f_MO_addLink s1 a1 a2 a3)
  rw [hM]; exact ⟨h0, fun q => absurd q (by decide), hR⟩
theorem og_addReckoned {R1 : am_M → Prop} {s s1 t : am_M} {a1 a2 a3 a4 a5 : Int32} {v : Int32} {w : Int32} (hC : f_CB_addReckoned s a1 a2 a3 a4 a5 = (0, v, s1)) (pC : p_CB_addReckoned s a1 a2 a3 a4 a5) (pM : p_MO_addReckoned (am_set s1 262 0 v) a1 a2 a3 a4 a5) (hM : f_MO_addReckoned (am_set s1 262 0 v) a1 a2 a3 a4 a5 = (w, t)) (h0 : t 207 0 = 0) (h2 : t 262 0 = w) (hR : R1 t) (hn : v ≠ -9999999) : p_LA_addReckoned s a1 a2 a3 a4 a5 ∧ p_MO_addReckoned (f_LA_addReckoned s a1 a2 a3 a4 a5).2 a1 a2 a3 a4 a5 ∧ pu_I R1 (f_LA_addReckoned s a1 a2 a3 a4 a5).1 (f_MO_addReckoned (f_LA_addReckoned s a1 a2 a3 a4 a5).2 a1 a2 a3 a4 a5) ∧ n9 (f_CB_addReckoned s a1 a2 a3 a4 a5) := by
  have hL : f_LA_addReckoned s a1 a2 a3 a4 a5 = (0, am_set s1 262 0 v) := by
    unfold f_LA_addReckoned; rw [hC]; rfl
  have pL : p_LA_addReckoned s a1 a2 a3 a4 a5 := by
    unfold p_LA_addReckoned; rw [hC]
    exact ⟨pC, by simp, fun _ => ⟨vp_in_nI (n := 0) (by decide) (by decide), trivial⟩, fun q => absurd rfl q⟩
  rw [hL]
  refine ⟨pL, pM, ?_, fun _ => by rw [hC]; exact hn⟩
  show pu_I R1 0 (f_MO_addReckoned (am_set s1 262 0 v) a1 a2 a3 a4 a5)
  rw [hM]; exact ⟨h0, fun _ => h2, hR⟩
theorem on_addReckoned_1 {R1 : am_M → Prop} {s s1 t : am_M} {a1 a2 a3 a4 a5 : Int32} {v : Int32} {w : Int32} (hC : f_CB_addReckoned s a1 a2 a3 a4 a5 = (1, v, s1)) (pC : p_CB_addReckoned s a1 a2 a3 a4 a5) (pM : p_MO_addReckoned s1 a1 a2 a3 a4 a5) (hM : f_MO_addReckoned s1 a1 a2 a3 a4 a5 = (w, t)) (h0 : t 207 0 = 1) (hR : R1 t) : p_LA_addReckoned s a1 a2 a3 a4 a5 ∧ p_MO_addReckoned (f_LA_addReckoned s a1 a2 a3 a4 a5).2 a1 a2 a3 a4 a5 ∧ pu_I R1 (f_LA_addReckoned s a1 a2 a3 a4 a5).1 (f_MO_addReckoned (f_LA_addReckoned s a1 a2 a3 a4 a5).2 a1 a2 a3 a4 a5) ∧ n9 (f_CB_addReckoned s a1 a2 a3 a4 a5) := by
  have hL : f_LA_addReckoned s a1 a2 a3 a4 a5 = (1, s1) := by unfold f_LA_addReckoned; rw [hC]; rfl
  have pL : p_LA_addReckoned s a1 a2 a3 a4 a5 := by
    unfold p_LA_addReckoned; rw [hC]
    exact ⟨pC, by simp⟩
  rw [hL]
  refine ⟨pL, pM, ?_, fun q => by
    rw [hC] at q
    exact absurd (show (1 : Nat) = 0 from q) (by decide)⟩
  show pu_I R1 1 (f_MO_addReckoned s1 a1 a2 a3 a4 a5)
  rw [hM]; exact ⟨h0, fun q => absurd q (by decide), hR⟩
theorem on_addReckoned_2 {R1 : am_M → Prop} {s s1 t : am_M} {a1 a2 a3 a4 a5 : Int32} {v : Int32} {w : Int32} (hC : f_CB_addReckoned s a1 a2 a3 a4 a5 = (2, v, s1)) (pC : p_CB_addReckoned s a1 a2 a3 a4 a5) (pM : p_MO_addReckoned s1 a1 a2 a3 a4 a5) (hM : f_MO_addReckoned s1 a1 a2 a3 a4 a5 = (w, t)) (h0 : t 207 0 = 2) (hR : R1 t) : p_LA_addReckoned s a1 a2 a3 a4 a5 ∧ p_MO_addReckoned (f_LA_addReckoned s a1 a2 a3 a4 a5).2 a1 a2 a3 a4 a5 ∧ pu_I R1 (f_LA_addReckoned s a1 a2 a3 a4 a5).1 (f_MO_addReckoned (f_LA_addReckoned s a1 a2 a3 a4 a5).2 a1 a2 a3 a4 a5) ∧ n9 (f_CB_addReckoned s a1 a2 a3 a4 a5) := by
  have hL : f_LA_addReckoned s a1 a2 a3 a4 a5 = (2, s1) := by unfold f_LA_addReckoned; rw [hC]; rfl
  have pL : p_LA_addReckoned s a1 a2 a3 a4 a5 := by
    unfold p_LA_addReckoned; rw [hC]
    exact ⟨pC, by simp⟩
  rw [hL]
  refine ⟨pL, pM, ?_, fun q => by
    rw [hC] at q
    exact absurd (show (2 : Nat) = 0 from q) (by decide)⟩
  show pu_I R1 2 (f_MO_addReckoned s1 a1 a2 a3 a4 a5)
  rw [hM]; exact ⟨h0, fun q => absurd q (by decide), hR⟩
theorem on_addReckoned_3 {R1 : am_M → Prop} {s s1 t : am_M} {a1 a2 a3 a4 a5 : Int32} {v : Int32} {w : Int32} (hC : f_CB_addReckoned s a1 a2 a3 a4 a5 = (3, v, s1)) (pC : p_CB_addReckoned s a1 a2 a3 a4 a5) (pM : p_MO_addReckoned s1 a1 a2 a3 a4 a5) (hM : f_MO_addReckoned s1 a1 a2 a3 a4 a5 = (w, t)) (h0 : t 207 0 = 3) (hR : R1 t) : p_LA_addReckoned s a1 a2 a3 a4 a5 ∧ p_MO_addReckoned (f_LA_addReckoned s a1 a2 a3 a4 a5).2 a1 a2 a3 a4 a5 ∧ pu_I R1 (f_LA_addReckoned s a1 a2 a3 a4 a5).1 (f_MO_addReckoned (f_LA_addReckoned s a1 a2 a3 a4 a5).2 a1 a2 a3 a4 a5) ∧ n9 (f_CB_addReckoned s a1 a2 a3 a4 a5) := by
  have hL : f_LA_addReckoned s a1 a2 a3 a4 a5 = (3, s1) := by unfold f_LA_addReckoned; rw [hC]; rfl
  have pL : p_LA_addReckoned s a1 a2 a3 a4 a5 := by
    unfold p_LA_addReckoned; rw [hC]
    exact ⟨pC, by simp⟩
  rw [hL]
  refine ⟨pL, pM, ?_, fun q => by
    rw [hC] at q
    exact absurd (show (3 : Nat) = 0 from q) (by decide)⟩
  show pu_I R1 3 (f_MO_addReckoned s1 a1 a2 a3 a4 a5)
  rw [hM]; exact ⟨h0, fun q => absurd q (by decide), hR⟩
theorem og_reckonAnew {R1 : am_M → Prop} {s s1 t : am_M} {a1 a2 a3 a4 a5 a6 : Int32} {v : Int32} {w : Int32} (hC : f_CB_reckonAnew s a1 a2 a3 a4 a5 a6 = (0, v, s1)) (pC : p_CB_reckonAnew s a1 a2 a3 a4 a5 a6) (pM : p_MO_reckonAnew (am_set s1 262 0 (if v = 0 then 0 else 1)) a1 a2 a3 a4 a5 a6) (hM : f_MO_reckonAnew (am_set s1 262 0 (if v = 0 then 0 else 1)) a1 a2 a3 a4 a5 a6 = (w, t)) (h0 : t 207 0 = 0) (h2 : t 262 0 = if w = 0 then 0 else 1) (hR : R1 t) : p_LA_reckonAnew s a1 a2 a3 a4 a5 a6 ∧ p_MO_reckonAnew (f_LA_reckonAnew s a1 a2 a3 a4 a5 a6).2 a1 a2 a3 a4 a5 a6 ∧ pu_B R1 (f_LA_reckonAnew s a1 a2 a3 a4 a5 a6).1 (f_MO_reckonAnew (f_LA_reckonAnew s a1 a2 a3 a4 a5 a6).2 a1 a2 a3 a4 a5 a6) := by
  have hL : f_LA_reckonAnew s a1 a2 a3 a4 a5 a6 = (0, am_set s1 262 0 (if v = 0 then 0 else 1)) := by
    unfold f_LA_reckonAnew; rw [hC]
    by_cases c : v = 0
    · simp [c]
    · simp [c]
  have pL : p_LA_reckonAnew s a1 a2 a3 a4 a5 a6 := by
    unfold p_LA_reckonAnew; rw [hC]
    exact ⟨pC, by simp, fun _ => ⟨fun _ => ⟨vp_in_nI (n := 0) (by decide) (by decide), trivial⟩, fun _ => ⟨vp_in_nI (n := 0) (by decide) (by decide), trivial⟩⟩, fun q => absurd rfl q⟩
  rw [hL]
  refine ⟨pL, pM, ?_⟩
  show pu_B R1 0 (f_MO_reckonAnew (am_set s1 262 0 (if v = 0 then 0 else 1)) a1 a2 a3 a4 a5 a6)
  rw [hM]; exact ⟨h0, fun _ => h2, hR⟩
theorem on_reckonAnew_1 {R1 : am_M → Prop} {s s1 t : am_M} {a1 a2 a3 a4 a5 a6 : Int32} {v : Int32} {w : Int32} (hC : f_CB_reckonAnew s a1 a2 a3 a4 a5 a6 = (1, v, s1)) (pC : p_CB_reckonAnew s a1 a2 a3 a4 a5 a6) (pM : p_MO_reckonAnew s1 a1 a2 a3 a4 a5 a6) (hM : f_MO_reckonAnew s1 a1 a2 a3 a4 a5 a6 = (w, t)) (h0 : t 207 0 = 1) (hR : R1 t) : p_LA_reckonAnew s a1 a2 a3 a4 a5 a6 ∧ p_MO_reckonAnew (f_LA_reckonAnew s a1 a2 a3 a4 a5 a6).2 a1 a2 a3 a4 a5 a6 ∧ pu_B R1 (f_LA_reckonAnew s a1 a2 a3 a4 a5 a6).1 (f_MO_reckonAnew (f_LA_reckonAnew s a1 a2 a3 a4 a5 a6).2 a1 a2 a3 a4 a5 a6) := by
  have hL : f_LA_reckonAnew s a1 a2 a3 a4 a5 a6 = (1, s1) := by unfold f_LA_reckonAnew; rw [hC]; rfl
  have pL : p_LA_reckonAnew s a1 a2 a3 a4 a5 a6 := by
    unfold p_LA_reckonAnew; rw [hC]
    exact ⟨pC, by simp⟩
  rw [hL]
  refine ⟨pL, pM, ?_⟩
  show pu_B R1 1 (f_MO_reckonAnew s1 a1 a2 a3 a4 a5 a6)
  rw [hM]; exact ⟨h0, fun q => absurd q (by decide), hR⟩
theorem on_reckonAnew_2 {R1 : am_M → Prop} {s s1 t : am_M} {a1 a2 a3 a4 a5 a6 : Int32} {v : Int32} {w : Int32} (hC : f_CB_reckonAnew s a1 a2 a3 a4 a5 a6 = (2, v, s1)) (pC : p_CB_reckonAnew s a1 a2 a3 a4 a5 a6) (pM : p_MO_reckonAnew s1 a1 a2 a3 a4 a5 a6) (hM : f_MO_reckonAnew s1 a1 a2 a3 a4 a5 a6 = (w, t)) (h0 : t 207 0 = 2) (hR : R1 t) : p_LA_reckonAnew s a1 a2 a3 a4 a5 a6 ∧ p_MO_reckonAnew (f_LA_reckonAnew s a1 a2 a3 a4 a5 a6).2 a1 a2 a3 a4 a5 a6 ∧ pu_B R1 (f_LA_reckonAnew s a1 a2 a3 a4 a5 a6).1 (f_MO_reckonAnew (f_LA_reckonAnew s a1 a2 a3 a4 a5 a6).2 a1 a2 a3 a4 a5 a6) := by
  have hL : f_LA_reckonAnew s a1 a2 a3 a4 a5 a6 = (2, s1) := by unfold f_LA_reckonAnew; rw [hC]; rfl
  have pL : p_LA_reckonAnew s a1 a2 a3 a4 a5 a6 := by
    unfold p_LA_reckonAnew; rw [hC]
    exact ⟨pC, by simp⟩
  rw [hL]
  refine ⟨pL, pM, ?_⟩
  show pu_B R1 2 (f_MO_reckonAnew s1 a1 a2 a3 a4 a5 a6)
  rw [hM]; exact ⟨h0, fun q => absurd q (by decide), hR⟩
theorem og_need {R1 : am_M → Prop} {s s1 t : am_M} {a1 a2 a3 : Int32} {v : Int32} {w : Int32} (hC : f_CB_need s a1 a2 a3 = (0, v, s1)) (pC : p_CB_need s a1 a2 a3) (pM : p_MO_need (am_set s1 262 0 (if v = 0 then 0 else 1)) a1 a2 a3) (hM : f_MO_need (am_set s1 262 0 (if v = 0 then 0 else 1)) a1 a2 a3 = (w, t)) (h0 : t 207 0 = 0) (h2 : t 262 0 = if w = 0 then 0 else 1) (hR : R1 t) : p_LA_need s a1 a2 a3 ∧ p_MO_need (f_LA_need s a1 a2 a3).2 a1 a2 a3 ∧ pu_B R1 (f_LA_need s a1 a2 a3).1 (f_MO_need (f_LA_need s a1 a2 a3).2 a1 a2 a3) := by
  have hL : f_LA_need s a1 a2 a3 = (0, am_set s1 262 0 (if v = 0 then 0 else 1)) := by
    unfold f_LA_need; rw [hC]
    by_cases c : v = 0
    · simp [c]
    · simp [c]
  have pL : p_LA_need s a1 a2 a3 := by
    unfold p_LA_need; rw [hC]
    exact ⟨pC, by simp, fun _ => ⟨fun _ => ⟨vp_in_nI (n := 0) (by decide) (by decide), trivial⟩, fun _ => ⟨vp_in_nI (n := 0) (by decide) (by decide), trivial⟩⟩, fun q => absurd rfl q⟩
  rw [hL]
  refine ⟨pL, pM, ?_⟩
  show pu_B R1 0 (f_MO_need (am_set s1 262 0 (if v = 0 then 0 else 1)) a1 a2 a3)
  rw [hM]; exact ⟨h0, fun _ => h2, hR⟩
theorem on_need_1 {R1 : am_M → Prop} {s s1 t : am_M} {a1 a2 a3 : Int32} {v : Int32} {w : Int32} (hC : f_CB_need s a1 a2 a3 = (1, v, s1)) (pC : p_CB_need s a1 a2 a3) (pM : p_MO_need s1 a1 a2 a3) (hM : f_MO_need s1 a1 a2 a3 = (w, t)) (h0 : t 207 0 = 1) (hR : R1 t) : p_LA_need s a1 a2 a3 ∧ p_MO_need (f_LA_need s a1 a2 a3).2 a1 a2 a3 ∧ pu_B R1 (f_LA_need s a1 a2 a3).1 (f_MO_need (f_LA_need s a1 a2 a3).2 a1 a2 a3) := by
  have hL : f_LA_need s a1 a2 a3 = (1, s1) := by unfold f_LA_need; rw [hC]; rfl
  have pL : p_LA_need s a1 a2 a3 := by
    unfold p_LA_need; rw [hC]
    exact ⟨pC, by simp⟩
  rw [hL]
  refine ⟨pL, pM, ?_⟩
  show pu_B R1 1 (f_MO_need s1 a1 a2 a3)
  rw [hM]; exact ⟨h0, fun q => absurd q (by decide), hR⟩
theorem on_need_2 {R1 : am_M → Prop} {s s1 t : am_M} {a1 a2 a3 : Int32} {v : Int32} {w : Int32} (hC : f_CB_need s a1 a2 a3 = (2, v, s1)) (pC : p_CB_need s a1 a2 a3) (pM : p_MO_need s1 a1 a2 a3) (hM : f_MO_need s1 a1 a2 a3 = (w, t)) (h0 : t 207 0 = 2) (hR : R1 t) : p_LA_need s a1 a2 a3 ∧ p_MO_need (f_LA_need s a1 a2 a3).2 a1 a2 a3 ∧ pu_B R1 (f_LA_need s a1 a2 a3).1 (f_MO_need (f_LA_need s a1 a2 a3).2 a1 a2 a3) := by
  have hL : f_LA_need s a1 a2 a3 = (2, s1) := by unfold f_LA_need; rw [hC]; rfl
  have pL : p_LA_need s a1 a2 a3 := by
    unfold p_LA_need; rw [hC]
    exact ⟨pC, by simp⟩
  rw [hL]
  refine ⟨pL, pM, ?_⟩
  show pu_B R1 2 (f_MO_need s1 a1 a2 a3)
  rw [hM]; exact ⟨h0, fun q => absurd q (by decide), hR⟩
theorem og_single {R1 : am_M → Prop} {s s1 t : am_M} {a1 a2 a3 : Int32} {v : Int32} {w : Int32} (hC : f_CB_single s a1 a2 a3 = (0, v, s1)) (pC : p_CB_single s a1 a2 a3) (pM : p_MO_single (am_set s1 262 0 (if v = 0 then 0 else 1)) a1 a2 a3) (hM : f_MO_single (am_set s1 262 0 (if v = 0 then 0 else 1)) a1 a2 a3 = (w, t)) (h0 : t 207 0 = 0) (h2 : t 262 0 = if w = 0 then 0 else 1) (hR : R1 t) : p_LA_single s a1 a2 a3 ∧ p_MO_single (f_LA_single s a1 a2 a3).2 a1 a2 a3 ∧ pu_B R1 (f_LA_single s a1 a2 a3).1 (f_MO_single (f_LA_single s a1 a2 a3).2 a1 a2 a3) := by
  have hL : f_LA_single s a1 a2 a3 = (0, am_set s1 262 0 (if v = 0 then 0 else 1)) := by
    unfold f_LA_single; rw [hC]
    by_cases c : v = 0
    · simp [c]
    · simp [c]
  have pL : p_LA_single s a1 a2 a3 := by
    unfold p_LA_single; rw [hC]
    exact ⟨pC, by simp, fun _ => ⟨fun _ => ⟨vp_in_nI (n := 0) (by decide) (by decide), trivial⟩, fun _ => ⟨vp_in_nI (n := 0) (by decide) (by decide), trivial⟩⟩, fun q => absurd rfl q⟩
  rw [hL]
  refine ⟨pL, pM, ?_⟩
  show pu_B R1 0 (f_MO_single (am_set s1 262 0 (if v = 0 then 0 else 1)) a1 a2 a3)
  rw [hM]; exact ⟨h0, fun _ => h2, hR⟩
theorem on_single_1 {R1 : am_M → Prop} {s s1 t : am_M} {a1 a2 a3 : Int32} {v : Int32} {w : Int32} (hC : f_CB_single s a1 a2 a3 = (1, v, s1)) (pC : p_CB_single s a1 a2 a3) (pM : p_MO_single s1 a1 a2 a3) (hM : f_MO_single s1 a1 a2 a3 = (w, t)) (h0 : t 207 0 = 1) (hR : R1 t) : p_LA_single s a1 a2 a3 ∧ p_MO_single (f_LA_single s a1 a2 a3).2 a1 a2 a3 ∧ pu_B R1 (f_LA_single s a1 a2 a3).1 (f_MO_single (f_LA_single s a1 a2 a3).2 a1 a2 a3) := by
  have hL : f_LA_single s a1 a2 a3 = (1, s1) := by unfold f_LA_single; rw [hC]; rfl
  have pL : p_LA_single s a1 a2 a3 := by
    unfold p_LA_single; rw [hC]
    exact ⟨pC, by simp⟩
  rw [hL]
  refine ⟨pL, pM, ?_⟩
  show pu_B R1 1 (f_MO_single s1 a1 a2 a3)
  rw [hM]; exact ⟨h0, fun q => absurd q (by decide), hR⟩
theorem on_single_2 {R1 : am_M → Prop} {s s1 t : am_M} {a1 a2 a3 : Int32} {v : Int32} {w : Int32} (hC : f_CB_single s a1 a2 a3 = (2, v, s1)) (pC : p_CB_single s a1 a2 a3) (pM : p_MO_single s1 a1 a2 a3) (hM : f_MO_single s1 a1 a2 a3 = (w, t)) (h0 : t 207 0 = 2) (hR : R1 t) : p_LA_single s a1 a2 a3 ∧ p_MO_single (f_LA_single s a1 a2 a3).2 a1 a2 a3 ∧ pu_B R1 (f_LA_single s a1 a2 a3).1 (f_MO_single (f_LA_single s a1 a2 a3).2 a1 a2 a3) := by
  have hL : f_LA_single s a1 a2 a3 = (2, s1) := by unfold f_LA_single; rw [hC]; rfl
  have pL : p_LA_single s a1 a2 a3 := by
    unfold p_LA_single; rw [hC]
    exact ⟨pC, by simp⟩
  rw [hL]
  refine ⟨pL, pM, ?_⟩
  show pu_B R1 2 (f_MO_single s1 a1 a2 a3)
  rw [hM]; exact ⟨h0, fun q => absurd q (by decide), hR⟩
theorem og_wouldLose {R1 : am_M → Prop} {s s1 t : am_M} {a1 a2 a3 a4 : Int32} {v : Int32} {w : Int32} (hC : f_CB_wouldLose s a1 a2 a3 a4 = (0, v, s1)) (pC : p_CB_wouldLose s a1 a2 a3 a4) (pM : p_MO_wouldLose (am_set s1 262 0 v) a1 a2 a3 a4) (hM : f_MO_wouldLose (am_set s1 262 0 v) a1 a2 a3 a4 = (w, t)) (h0 : t 207 0 = 0) (h2 : t 262 0 = w) (hR : R1 t) : p_LA_wouldLose s a1 a2 a3 a4 ∧ p_MO_wouldLose (f_LA_wouldLose s a1 a2 a3 a4).2 a1 a2 a3 a4 ∧ pu_I R1 (f_LA_wouldLose s a1 a2 a3 a4).1 (f_MO_wouldLose (f_LA_wouldLose s a1 a2 a3 a4).2 a1 a2 a3 a4) := by
  have hL : f_LA_wouldLose s a1 a2 a3 a4 = (0, am_set s1 262 0 v) := by
    unfold f_LA_wouldLose; rw [hC]; rfl
  have pL : p_LA_wouldLose s a1 a2 a3 a4 := by
    unfold p_LA_wouldLose; rw [hC]
    exact ⟨pC, by simp, fun _ => ⟨vp_in_nI (n := 0) (by decide) (by decide), trivial⟩, fun q => absurd rfl q⟩
  rw [hL]
  refine ⟨pL, pM, ?_⟩
  show pu_I R1 0 (f_MO_wouldLose (am_set s1 262 0 v) a1 a2 a3 a4)
  rw [hM]; exact ⟨h0, fun _ => h2, hR⟩
theorem on_wouldLose_1 {R1 : am_M → Prop} {s s1 t : am_M} {a1 a2 a3 a4 : Int32} {v : Int32} {w : Int32} (hC : f_CB_wouldLose s a1 a2 a3 a4 = (1, v, s1)) (pC : p_CB_wouldLose s a1 a2 a3 a4) (pM : p_MO_wouldLose s1 a1 a2 a3 a4) (hM : f_MO_wouldLose s1 a1 a2 a3 a4 = (w, t)) (h0 : t 207 0 = 1) (hR : R1 t) : p_LA_wouldLose s a1 a2 a3 a4 ∧ p_MO_wouldLose (f_LA_wouldLose s a1 a2 a3 a4).2 a1 a2 a3 a4 ∧ pu_I R1 (f_LA_wouldLose s a1 a2 a3 a4).1 (f_MO_wouldLose (f_LA_wouldLose s a1 a2 a3 a4).2 a1 a2 a3 a4) := by
  have hL : f_LA_wouldLose s a1 a2 a3 a4 = (1, s1) := by unfold f_LA_wouldLose; rw [hC]; rfl
  have pL : p_LA_wouldLose s a1 a2 a3 a4 := by
    unfold p_LA_wouldLose; rw [hC]
    exact ⟨pC, by simp⟩
  rw [hL]
  refine ⟨pL, pM, ?_⟩
  show pu_I R1 1 (f_MO_wouldLose s1 a1 a2 a3 a4)
  rw [hM]; exact ⟨h0, fun q => absurd q (by decide), hR⟩
theorem on_wouldLose_2 {R1 : am_M → Prop} {s s1 t : am_M} {a1 a2 a3 a4 : Int32} {v : Int32} {w : Int32} (hC : f_CB_wouldLose s a1 a2 a3 a4 = (2, v, s1)) (pC : p_CB_wouldLose s a1 a2 a3 a4) (pM : p_MO_wouldLose s1 a1 a2 a3 a4) (hM : f_MO_wouldLose s1 a1 a2 a3 a4 = (w, t)) (h0 : t 207 0 = 2) (hR : R1 t) : p_LA_wouldLose s a1 a2 a3 a4 ∧ p_MO_wouldLose (f_LA_wouldLose s a1 a2 a3 a4).2 a1 a2 a3 a4 ∧ pu_I R1 (f_LA_wouldLose s a1 a2 a3 a4).1 (f_MO_wouldLose (f_LA_wouldLose s a1 a2 a3 a4).2 a1 a2 a3 a4) := by
  have hL : f_LA_wouldLose s a1 a2 a3 a4 = (2, s1) := by unfold f_LA_wouldLose; rw [hC]; rfl
  have pL : p_LA_wouldLose s a1 a2 a3 a4 := by
    unfold p_LA_wouldLose; rw [hC]
    exact ⟨pC, by simp⟩
  rw [hL]
  refine ⟨pL, pM, ?_⟩
  show pu_I R1 2 (f_MO_wouldLose s1 a1 a2 a3 a4)
  rw [hM]; exact ⟨h0, fun q => absurd q (by decide), hR⟩
theorem og_narrow {R1 : am_M → Prop} {s s1 t : am_M} {a1 a2 a3 a4 : Int32} {v : Int32} {w : Int32} (hC : f_CB_narrow s a1 a2 a3 a4 = (0, v, s1)) (pC : p_CB_narrow s a1 a2 a3 a4) (pM : p_MO_narrow (am_set s1 262 0 (if v = 0 then 0 else 1)) a1 a2 a3 a4) (hM : f_MO_narrow (am_set s1 262 0 (if v = 0 then 0 else 1)) a1 a2 a3 a4 = (w, t)) (h0 : t 207 0 = 0) (h2 : t 262 0 = if w = 0 then 0 else 1) (hR : R1 t) : p_LA_narrow s a1 a2 a3 a4 ∧ p_MO_narrow (f_LA_narrow s a1 a2 a3 a4).2 a1 a2 a3 a4 ∧ pu_B R1 (f_LA_narrow s a1 a2 a3 a4).1 (f_MO_narrow (f_LA_narrow s a1 a2 a3 a4).2 a1 a2 a3 a4) := by
  have hL : f_LA_narrow s a1 a2 a3 a4 = (0, am_set s1 262 0 (if v = 0 then 0 else 1)) := by
    unfold f_LA_narrow; rw [hC]
    by_cases c : v = 0
    · simp [c]
    · simp [c]
  have pL : p_LA_narrow s a1 a2 a3 a4 := by
    unfold p_LA_narrow; rw [hC]
    exact ⟨pC, by simp, fun _ => ⟨fun _ => ⟨vp_in_nI (n := 0) (by decide) (by decide), trivial⟩, fun _ => ⟨vp_in_nI (n := 0) (by decide) (by decide), trivial⟩⟩, fun q => absurd rfl q⟩
  rw [hL]
  refine ⟨pL, pM, ?_⟩
  show pu_B R1 0 (f_MO_narrow (am_set s1 262 0 (if v = 0 then 0 else 1)) a1 a2 a3 a4)
  rw [hM]; exact ⟨h0, fun _ => h2, hR⟩
theorem on_narrow_1 {R1 : am_M → Prop} {s s1 t : am_M} {a1 a2 a3 a4 : Int32} {v : Int32} {w : Int32} (hC : f_CB_narrow s a1 a2 a3 a4 = (1, v, s1)) (pC : p_CB_narrow s a1 a2 a3 a4) (pM : p_MO_narrow s1 a1 a2 a3 a4) (hM : f_MO_narrow s1 a1 a2 a3 a4 = (w, t)) (h0 : t 207 0 = 1) (hR : R1 t) : p_LA_narrow s a1 a2 a3 a4 ∧ p_MO_narrow (f_LA_narrow s a1 a2 a3 a4).2 a1 a2 a3 a4 ∧ pu_B R1 (f_LA_narrow s a1 a2 a3 a4).1 (f_MO_narrow (f_LA_narrow s a1 a2 a3 a4).2 a1 a2 a3 a4) := by
  have hL : f_LA_narrow s a1 a2 a3 a4 = (1, s1) := by unfold f_LA_narrow; rw [hC]; rfl
  have pL : p_LA_narrow s a1 a2 a3 a4 := by
    unfold p_LA_narrow; rw [hC]
    exact ⟨pC, by simp⟩
  rw [hL]
  refine ⟨pL, pM, ?_⟩
  show pu_B R1 1 (f_MO_narrow s1 a1 a2 a3 a4)
  rw [hM]; exact ⟨h0, fun q => absurd q (by decide), hR⟩
theorem on_narrow_2 {R1 : am_M → Prop} {s s1 t : am_M} {a1 a2 a3 a4 : Int32} {v : Int32} {w : Int32} (hC : f_CB_narrow s a1 a2 a3 a4 = (2, v, s1)) (pC : p_CB_narrow s a1 a2 a3 a4) (pM : p_MO_narrow s1 a1 a2 a3 a4) (hM : f_MO_narrow s1 a1 a2 a3 a4 = (w, t)) (h0 : t 207 0 = 2) (hR : R1 t) : p_LA_narrow s a1 a2 a3 a4 ∧ p_MO_narrow (f_LA_narrow s a1 a2 a3 a4).2 a1 a2 a3 a4 ∧ pu_B R1 (f_LA_narrow s a1 a2 a3 a4).1 (f_MO_narrow (f_LA_narrow s a1 a2 a3 a4).2 a1 a2 a3 a4) := by
  have hL : f_LA_narrow s a1 a2 a3 a4 = (2, s1) := by unfold f_LA_narrow; rw [hC]; rfl
  have pL : p_LA_narrow s a1 a2 a3 a4 := by
    unfold p_LA_narrow; rw [hC]
    exact ⟨pC, by simp⟩
  rw [hL]
  refine ⟨pL, pM, ?_⟩
  show pu_B R1 2 (f_MO_narrow s1 a1 a2 a3 a4)
  rw [hM]; exact ⟨h0, fun q => absurd q (by decide), hR⟩
theorem og_wouldLoseAll {R1 : am_M → Prop} {s s1 t : am_M} {a1 a2 : Int32} {v : Int32} {w : Int32} (hC : f_CB_wouldLoseAll s a1 a2 = (0, v, s1)) (pC : p_CB_wouldLoseAll s a1 a2) (pM : p_MO_wouldLoseAll (am_set s1 262 0 v) a1 a2) (hM : f_MO_wouldLoseAll (am_set s1 262 0 v) a1 a2 = (w, t)) (h0 : t 207 0 = 0) (h2 : t 262 0 = w) (hR : R1 t) : p_LA_wouldLoseAll s a1 a2 ∧ p_MO_wouldLoseAll (f_LA_wouldLoseAll s a1 a2).2 a1 a2 ∧ pu_I R1 (f_LA_wouldLoseAll s a1 a2).1 (f_MO_wouldLoseAll (f_LA_wouldLoseAll s a1 a2).2 a1 a2) := by
  have hL : f_LA_wouldLoseAll s a1 a2 = (0, am_set s1 262 0 v) := by
    unfold f_LA_wouldLoseAll; rw [hC]; rfl
  have pL : p_LA_wouldLoseAll s a1 a2 := by
    unfold p_LA_wouldLoseAll; rw [hC]
    exact ⟨pC, by simp, fun _ => ⟨vp_in_nI (n := 0) (by decide) (by decide), trivial⟩, fun q => absurd rfl q⟩
  rw [hL]
  refine ⟨pL, pM, ?_⟩
  show pu_I R1 0 (f_MO_wouldLoseAll (am_set s1 262 0 v) a1 a2)
  rw [hM]; exact ⟨h0, fun _ => h2, hR⟩
theorem on_wouldLoseAll_1 {R1 : am_M → Prop} {s s1 t : am_M} {a1 a2 : Int32} {v : Int32} {w : Int32} (hC : f_CB_wouldLoseAll s a1 a2 = (1, v, s1)) (pC : p_CB_wouldLoseAll s a1 a2) (pM : p_MO_wouldLoseAll s1 a1 a2) (hM : f_MO_wouldLoseAll s1 a1 a2 = (w, t)) (h0 : t 207 0 = 1) (hR : R1 t) : p_LA_wouldLoseAll s a1 a2 ∧ p_MO_wouldLoseAll (f_LA_wouldLoseAll s a1 a2).2 a1 a2 ∧ pu_I R1 (f_LA_wouldLoseAll s a1 a2).1 (f_MO_wouldLoseAll (f_LA_wouldLoseAll s a1 a2).2 a1 a2) := by
  have hL : f_LA_wouldLoseAll s a1 a2 = (1, s1) := by unfold f_LA_wouldLoseAll; rw [hC]; rfl
  have pL : p_LA_wouldLoseAll s a1 a2 := by
    unfold p_LA_wouldLoseAll; rw [hC]
    exact ⟨pC, by simp⟩
  rw [hL]
  refine ⟨pL, pM, ?_⟩
  show pu_I R1 1 (f_MO_wouldLoseAll s1 a1 a2)
  rw [hM]; exact ⟨h0, fun q => absurd q (by decide), hR⟩
theorem og_drop {R1 : am_M → Prop} {s s1 t : am_M} {a1 a2 : Int32} {v : Int32} {w : Int32} (hC : f_CB_drop s a1 a2 = (0, v, s1)) (pC : p_CB_drop s a1 a2) (pM : p_MO_drop (am_set s1 262 0 (if v = 0 then 0 else 1)) a1 a2) (hM : f_MO_drop (am_set s1 262 0 (if v = 0 then 0 else 1)) a1 a2 = (w, t)) (h0 : t 207 0 = 0) (h2 : t 262 0 = if w = 0 then 0 else 1) (hR : R1 t) : p_LA_drop s a1 a2 ∧ p_MO_drop (f_LA_drop s a1 a2).2 a1 a2 ∧ pu_B R1 (f_LA_drop s a1 a2).1 (f_MO_drop (f_LA_drop s a1 a2).2 a1 a2) := by
  have hL : f_LA_drop s a1 a2 = (0, am_set s1 262 0 (if v = 0 then 0 else 1)) := by
    unfold f_LA_drop; rw [hC]
    by_cases c : v = 0
    · simp [c]
    · simp [c]
  have pL : p_LA_drop s a1 a2 := by
    unfold p_LA_drop; rw [hC]
    exact ⟨pC, by simp, fun _ => ⟨fun _ => ⟨vp_in_nI (n := 0) (by decide) (by decide), trivial⟩, fun _ => ⟨vp_in_nI (n := 0) (by decide) (by decide), trivial⟩⟩, fun q => absurd rfl q⟩
  rw [hL]
  refine ⟨pL, pM, ?_⟩
  show pu_B R1 0 (f_MO_drop (am_set s1 262 0 (if v = 0 then 0 else 1)) a1 a2)
  rw [hM]; exact ⟨h0, fun _ => h2, hR⟩
theorem on_drop_1 {R1 : am_M → Prop} {s s1 t : am_M} {a1 a2 : Int32} {v : Int32} {w : Int32} (hC : f_CB_drop s a1 a2 = (1, v, s1)) (pC : p_CB_drop s a1 a2) (pM : p_MO_drop s1 a1 a2) (hM : f_MO_drop s1 a1 a2 = (w, t)) (h0 : t 207 0 = 1) (hR : R1 t) : p_LA_drop s a1 a2 ∧ p_MO_drop (f_LA_drop s a1 a2).2 a1 a2 ∧ pu_B R1 (f_LA_drop s a1 a2).1 (f_MO_drop (f_LA_drop s a1 a2).2 a1 a2) := by
  have hL : f_LA_drop s a1 a2 = (1, s1) := by unfold f_LA_drop; rw [hC]; rfl
  have pL : p_LA_drop s a1 a2 := by
    unfold p_LA_drop; rw [hC]
    exact ⟨pC, by simp⟩
  rw [hL]
  refine ⟨pL, pM, ?_⟩
  show pu_B R1 1 (f_MO_drop s1 a1 a2)
  rw [hM]; exact ⟨h0, fun q => absurd q (by decide), hR⟩
theorem on_drop_2 {R1 : am_M → Prop} {s s1 t : am_M} {a1 a2 : Int32} {v : Int32} {w : Int32} (hC : f_CB_drop s a1 a2 = (2, v, s1)) (pC : p_CB_drop s a1 a2) (pM : p_MO_drop s1 a1 a2) (hM : f_MO_drop s1 a1 a2 = (w, t)) (h0 : t 207 0 = 2) (hR : R1 t) : p_LA_drop s a1 a2 ∧ p_MO_drop (f_LA_drop s a1 a2).2 a1 a2 ∧ pu_B R1 (f_LA_drop s a1 a2).1 (f_MO_drop (f_LA_drop s a1 a2).2 a1 a2) := by
  have hL : f_LA_drop s a1 a2 = (2, s1) := by unfold f_LA_drop; rw [hC]; rfl
  have pL : p_LA_drop s a1 a2 := by
    unfold p_LA_drop; rw [hC]
    exact ⟨pC, by simp⟩
  rw [hL]
  refine ⟨pL, pM, ?_⟩
  show pu_B R1 2 (f_MO_drop s1 a1 a2)
  rw [hM]; exact ⟨h0, fun q => absurd q (by decide), hR⟩
theorem og_setRemoval {R1 : am_M → Prop} {s s1 t : am_M} {a1 a2 a3 : Int32} {v : Int32} {w : Int32} (hC : f_CB_setRemoval s a1 a2 a3 = (0, v, s1)) (pC : p_CB_setRemoval s a1 a2 a3) (pM : p_MO_setRemoval (am_set s1 262 0 v) a1 a2 a3) (hM : f_MO_setRemoval (am_set s1 262 0 v) a1 a2 a3 = (w, t)) (h0 : t 207 0 = 0) (h2 : t 262 0 = w) (hR : R1 t) (hn : v ≠ -9999999) : p_LA_setRemoval s a1 a2 a3 ∧ p_MO_setRemoval (f_LA_setRemoval s a1 a2 a3).2 a1 a2 a3 ∧ pu_I R1 (f_LA_setRemoval s a1 a2 a3).1 (f_MO_setRemoval (f_LA_setRemoval s a1 a2 a3).2 a1 a2 a3) ∧ n9 (f_CB_setRemoval s a1 a2 a3) := by
  have hL : f_LA_setRemoval s a1 a2 a3 = (0, am_set s1 262 0 v) := by
    unfold f_LA_setRemoval; rw [hC]; rfl
  have pL : p_LA_setRemoval s a1 a2 a3 := by
    unfold p_LA_setRemoval; rw [hC]
    exact ⟨pC, by simp, fun _ => ⟨vp_in_nI (n := 0) (by decide) (by decide), trivial⟩, fun q => absurd rfl q⟩
  rw [hL]
  refine ⟨pL, pM, ?_, fun _ => by rw [hC]; exact hn⟩
  show pu_I R1 0 (f_MO_setRemoval (am_set s1 262 0 v) a1 a2 a3)
  rw [hM]; exact ⟨h0, fun _ => h2, hR⟩
theorem on_setRemoval_1 {R1 : am_M → Prop} {s s1 t : am_M} {a1 a2 a3 : Int32} {v : Int32} {w : Int32} (hC : f_CB_setRemoval s a1 a2 a3 = (1, v, s1)) (pC : p_CB_setRemoval s a1 a2 a3) (pM : p_MO_setRemoval s1 a1 a2 a3) (hM : f_MO_setRemoval s1 a1 a2 a3 = (w, t)) (h0 : t 207 0 = 1) (hR : R1 t) : p_LA_setRemoval s a1 a2 a3 ∧ p_MO_setRemoval (f_LA_setRemoval s a1 a2 a3).2 a1 a2 a3 ∧ pu_I R1 (f_LA_setRemoval s a1 a2 a3).1 (f_MO_setRemoval (f_LA_setRemoval s a1 a2 a3).2 a1 a2 a3) ∧ n9 (f_CB_setRemoval s a1 a2 a3) := by
  have hL : f_LA_setRemoval s a1 a2 a3 = (1, s1) := by unfold f_LA_setRemoval; rw [hC]; rfl
  have pL : p_LA_setRemoval s a1 a2 a3 := by
    unfold p_LA_setRemoval; rw [hC]
    exact ⟨pC, by simp⟩
  rw [hL]
  refine ⟨pL, pM, ?_, fun q => by
    rw [hC] at q
    exact absurd (show (1 : Nat) = 0 from q) (by decide)⟩
  show pu_I R1 1 (f_MO_setRemoval s1 a1 a2 a3)
  rw [hM]; exact ⟨h0, fun q => absurd q (by decide), hR⟩
theorem on_setRemoval_2 {R1 : am_M → Prop} {s s1 t : am_M} {a1 a2 a3 : Int32} {v : Int32} {w : Int32} (hC : f_CB_setRemoval s a1 a2 a3 = (2, v, s1)) (pC : p_CB_setRemoval s a1 a2 a3) (pM : p_MO_setRemoval s1 a1 a2 a3) (hM : f_MO_setRemoval s1 a1 a2 a3 = (w, t)) (h0 : t 207 0 = 2) (hR : R1 t) : p_LA_setRemoval s a1 a2 a3 ∧ p_MO_setRemoval (f_LA_setRemoval s a1 a2 a3).2 a1 a2 a3 ∧ pu_I R1 (f_LA_setRemoval s a1 a2 a3).1 (f_MO_setRemoval (f_LA_setRemoval s a1 a2 a3).2 a1 a2 a3) ∧ n9 (f_CB_setRemoval s a1 a2 a3) := by
  have hL : f_LA_setRemoval s a1 a2 a3 = (2, s1) := by unfold f_LA_setRemoval; rw [hC]; rfl
  have pL : p_LA_setRemoval s a1 a2 a3 := by
    unfold p_LA_setRemoval; rw [hC]
    exact ⟨pC, by simp⟩
  rw [hL]
  refine ⟨pL, pM, ?_, fun q => by
    rw [hC] at q
    exact absurd (show (2 : Nat) = 0 from q) (by decide)⟩
  show pu_I R1 2 (f_MO_setRemoval s1 a1 a2 a3)
  rw [hM]; exact ⟨h0, fun q => absurd q (by decide), hR⟩
theorem og_addRule {R1 : am_M → Prop} {s s1 t : am_M} {a1 a2 a3 a4 a5 : Int32} {v : Int32} {w : Int32} (hC : f_CB_addRule s a1 a2 a3 a4 a5 = (0, v, s1)) (pC : p_CB_addRule s a1 a2 a3 a4 a5) (pM : p_MO_addRule (am_set s1 262 0 v) a1 a2 a3 a4 a5) (hM : f_MO_addRule (am_set s1 262 0 v) a1 a2 a3 a4 a5 = (w, t)) (h0 : t 207 0 = 0) (h2 : t 262 0 = w) (hR : R1 t) (hn : v ≠ -9999999) : p_LA_addRule s a1 a2 a3 a4 a5 ∧ p_MO_addRule (f_LA_addRule s a1 a2 a3 a4 a5).2 a1 a2 a3 a4 a5 ∧ pu_I R1 (f_LA_addRule s a1 a2 a3 a4 a5).1 (f_MO_addRule (f_LA_addRule s a1 a2 a3 a4 a5).2 a1 a2 a3 a4 a5) ∧ n9 (f_CB_addRule s a1 a2 a3 a4 a5) := by
  have hL : f_LA_addRule s a1 a2 a3 a4 a5 = (0, am_set s1 262 0 v) := by
    unfold f_LA_addRule; rw [hC]; rfl
  have pL : p_LA_addRule s a1 a2 a3 a4 a5 := by
    unfold p_LA_addRule; rw [hC]
    exact ⟨pC, by simp, fun _ => ⟨vp_in_nI (n := 0) (by decide) (by decide), trivial⟩, fun q => absurd rfl q⟩
  rw [hL]
  refine ⟨pL, pM, ?_, fun _ => by rw [hC]; exact hn⟩
  show pu_I R1 0 (f_MO_addRule (am_set s1 262 0 v) a1 a2 a3 a4 a5)
  rw [hM]; exact ⟨h0, fun _ => h2, hR⟩
theorem on_addRule_1 {R1 : am_M → Prop} {s s1 t : am_M} {a1 a2 a3 a4 a5 : Int32} {v : Int32} {w : Int32} (hC : f_CB_addRule s a1 a2 a3 a4 a5 = (1, v, s1)) (pC : p_CB_addRule s a1 a2 a3 a4 a5) (pM : p_MO_addRule s1 a1 a2 a3 a4 a5) (hM : f_MO_addRule s1 a1 a2 a3 a4 a5 = (w, t)) (h0 : t 207 0 = 1) (hR : R1 t) : p_LA_addRule s a1 a2 a3 a4 a5 ∧ p_MO_addRule (f_LA_addRule s a1 a2 a3 a4 a5).2 a1 a2 a3 a4 a5 ∧ pu_I R1 (f_LA_addRule s a1 a2 a3 a4 a5).1 (f_MO_addRule (f_LA_addRule s a1 a2 a3 a4 a5).2 a1 a2 a3 a4 a5) ∧ n9 (f_CB_addRule s a1 a2 a3 a4 a5) := by
  have hL : f_LA_addRule s a1 a2 a3 a4 a5 = (1, s1) := by unfold f_LA_addRule; rw [hC]; rfl
  have pL : p_LA_addRule s a1 a2 a3 a4 a5 := by
    unfold p_LA_addRule; rw [hC]
    exact ⟨pC, by simp⟩
  rw [hL]
  refine ⟨pL, pM, ?_, fun q => by
    rw [hC] at q
    exact absurd (show (1 : Nat) = 0 from q) (by decide)⟩
  show pu_I R1 1 (f_MO_addRule s1 a1 a2 a3 a4 a5)
  rw [hM]; exact ⟨h0, fun q => absurd q (by decide), hR⟩
theorem on_addRule_2 {R1 : am_M → Prop} {s s1 t : am_M} {a1 a2 a3 a4 a5 : Int32} {v : Int32} {w : Int32} (hC : f_CB_addRule s a1 a2 a3 a4 a5 = (2, v, s1)) (pC : p_CB_addRule s a1 a2 a3 a4 a5) (pM : p_MO_addRule s1 a1 a2 a3 a4 a5) (hM : f_MO_addRule s1 a1 a2 a3 a4 a5 = (w, t)) (h0 : t 207 0 = 2) (hR : R1 t) : p_LA_addRule s a1 a2 a3 a4 a5 ∧ p_MO_addRule (f_LA_addRule s a1 a2 a3 a4 a5).2 a1 a2 a3 a4 a5 ∧ pu_I R1 (f_LA_addRule s a1 a2 a3 a4 a5).1 (f_MO_addRule (f_LA_addRule s a1 a2 a3 a4 a5).2 a1 a2 a3 a4 a5) ∧ n9 (f_CB_addRule s a1 a2 a3 a4 a5) := by
  have hL : f_LA_addRule s a1 a2 a3 a4 a5 = (2, s1) := by unfold f_LA_addRule; rw [hC]; rfl
  have pL : p_LA_addRule s a1 a2 a3 a4 a5 := by
    unfold p_LA_addRule; rw [hC]
    exact ⟨pC, by simp⟩
  rw [hL]
  refine ⟨pL, pM, ?_, fun q => by
    rw [hC] at q
    exact absurd (show (2 : Nat) = 0 from q) (by decide)⟩
  show pu_I R1 2 (f_MO_addRule s1 a1 a2 a3 a4 a5)
  rw [hM]; exact ⟨h0, fun q => absurd q (by decide), hR⟩
theorem on_addRule_3 {R1 : am_M → Prop} {s s1 t : am_M} {a1 a2 a3 a4 a5 : Int32} {v : Int32} {w : Int32} (hC : f_CB_addRule s a1 a2 a3 a4 a5 = (3, v, s1)) (pC : p_CB_addRule s a1 a2 a3 a4 a5) (pM : p_MO_addRule s1 a1 a2 a3 a4 a5) (hM : f_MO_addRule s1 a1 a2 a3 a4 a5 = (w, t)) (h0 : t 207 0 = 3) (hR : R1 t) : p_LA_addRule s a1 a2 a3 a4 a5 ∧ p_MO_addRule (f_LA_addRule s a1 a2 a3 a4 a5).2 a1 a2 a3 a4 a5 ∧ pu_I R1 (f_LA_addRule s a1 a2 a3 a4 a5).1 (f_MO_addRule (f_LA_addRule s a1 a2 a3 a4 a5).2 a1 a2 a3 a4 a5) ∧ n9 (f_CB_addRule s a1 a2 a3 a4 a5) := by
  have hL : f_LA_addRule s a1 a2 a3 a4 a5 = (3, s1) := by unfold f_LA_addRule; rw [hC]; rfl
  have pL : p_LA_addRule s a1 a2 a3 a4 a5 := by
    unfold p_LA_addRule; rw [hC]
    exact ⟨pC, by simp⟩
  rw [hL]
  refine ⟨pL, pM, ?_, fun q => by
    rw [hC] at q
    exact absurd (show (3 : Nat) = 0 from q) (by decide)⟩
  show pu_I R1 3 (f_MO_addRule s1 a1 a2 a3 a4 a5)
  rw [hM]; exact ⟨h0, fun q => absurd q (by decide), hR⟩
theorem og_order {R1 : am_M → Prop} {s s1 t : am_M} {a1 : Int32} {v : Int32} {w : Int32} (hC : f_CB_order s a1 = (0, v, s1)) (pC : p_CB_order s a1) (pM : p_MO_order (am_set s1 262 0 v) a1) (hM : f_MO_order (am_set s1 262 0 v) a1 = (w, t)) (h0 : t 207 0 = 0) (h2 : t 262 0 = w) (hR : R1 t) : p_LA_order s a1 ∧ p_MO_order (f_LA_order s a1).2 a1 ∧ pu_I R1 (f_LA_order s a1).1 (f_MO_order (f_LA_order s a1).2 a1) := by
  have hL : f_LA_order s a1 = (0, am_set s1 262 0 v) := by
    unfold f_LA_order; rw [hC]; rfl
  have pL : p_LA_order s a1 := by
    unfold p_LA_order; rw [hC]
    exact ⟨pC, by simp, fun _ => ⟨vp_in_nI (n := 0) (by decide) (by decide), trivial⟩, fun q => absurd rfl q⟩
  rw [hL]
  refine ⟨pL, pM, ?_⟩
  show pu_I R1 0 (f_MO_order (am_set s1 262 0 v) a1)
  rw [hM]; exact ⟨h0, fun _ => h2, hR⟩
theorem on_order_1 {R1 : am_M → Prop} {s s1 t : am_M} {a1 : Int32} {v : Int32} {w : Int32} (hC : f_CB_order s a1 = (1, v, s1)) (pC : p_CB_order s a1) (pM : p_MO_order s1 a1) (hM : f_MO_order s1 a1 = (w, t)) (h0 : t 207 0 = 1) (hR : R1 t) : p_LA_order s a1 ∧ p_MO_order (f_LA_order s a1).2 a1 ∧ pu_I R1 (f_LA_order s a1).1 (f_MO_order (f_LA_order s a1).2 a1) := by
  have hL : f_LA_order s a1 = (1, s1) := by unfold f_LA_order; rw [hC]; rfl
  have pL : p_LA_order s a1 := by
    unfold p_LA_order; rw [hC]
    exact ⟨pC, by simp⟩
  rw [hL]
  refine ⟨pL, pM, ?_⟩
  show pu_I R1 1 (f_MO_order s1 a1)
  rw [hM]; exact ⟨h0, fun q => absurd q (by decide), hR⟩
theorem og_type {R1 : am_M → Prop} {s s1 t : am_M} {a1 a2 : Int32} {v : Int32} {w : Int32} (hC : f_CB_type s a1 a2 = (0, v, s1)) (pC : p_CB_type s a1 a2) (pM : p_MO_type (am_set s1 262 0 v) a1 a2) (hM : f_MO_type (am_set s1 262 0 v) a1 a2 = (w, t)) (h0 : t 207 0 = 0) (h2 : t 262 0 = w) (hR : R1 t) : p_LA_type s a1 a2 ∧ p_MO_type (f_LA_type s a1 a2).2 a1 a2 ∧ pu_I R1 (f_LA_type s a1 a2).1 (f_MO_type (f_LA_type s a1 a2).2 a1 a2) := by
  have hL : f_LA_type s a1 a2 = (0, am_set s1 262 0 v) := by
    unfold f_LA_type; rw [hC]; rfl
  have pL : p_LA_type s a1 a2 := by
    unfold p_LA_type; rw [hC]
    exact ⟨pC, by simp, fun _ => ⟨vp_in_nI (n := 0) (by decide) (by decide), trivial⟩, fun q => absurd rfl q⟩
  rw [hL]
  refine ⟨pL, pM, ?_⟩
  show pu_I R1 0 (f_MO_type (am_set s1 262 0 v) a1 a2)
  rw [hM]; exact ⟨h0, fun _ => h2, hR⟩
theorem on_type_1 {R1 : am_M → Prop} {s s1 t : am_M} {a1 a2 : Int32} {v : Int32} {w : Int32} (hC : f_CB_type s a1 a2 = (2, v, s1)) (pC : p_CB_type s a1 a2) (pM : p_MO_type s1 a1 a2) (hM : f_MO_type s1 a1 a2 = (w, t)) (h0 : t 207 0 = 1) (hR : R1 t) : p_LA_type s a1 a2 ∧ p_MO_type (f_LA_type s a1 a2).2 a1 a2 ∧ pu_I R1 (f_LA_type s a1 a2).1 (f_MO_type (f_LA_type s a1 a2).2 a1 a2) := by
  have hL : f_LA_type s a1 a2 = (1, s1) := by unfold f_LA_type; rw [hC]; rfl
  have pL : p_LA_type s a1 a2 := by
    unfold p_LA_type; rw [hC]
    exact ⟨pC, by simp⟩
  rw [hL]
  refine ⟨pL, pM, ?_⟩
  show pu_I R1 1 (f_MO_type s1 a1 a2)
  rw [hM]; exact ⟨h0, fun q => absurd q (by decide), hR⟩
theorem og_enter {R1 : am_M → Prop} {s s1 t : am_M} {a1 : Int32} {v : Int32} {w : Int32} (hC : f_CB_enter s a1 = (0, v, s1)) (pC : p_CB_enter s a1) (pM : p_MO_enter (am_set s1 262 0 v) a1) (hM : f_MO_enter (am_set s1 262 0 v) a1 = (w, t)) (h0 : t 207 0 = 0) (h2 : t 262 0 = w) (hR : R1 t) (hn : v ≠ -9999999) : p_LA_enter s a1 ∧ p_MO_enter (f_LA_enter s a1).2 a1 ∧ pu_I R1 (f_LA_enter s a1).1 (f_MO_enter (f_LA_enter s a1).2 a1) ∧ n9 (f_CB_enter s a1) := by
  have hL : f_LA_enter s a1 = (0, am_set s1 262 0 v) := by
    unfold f_LA_enter; rw [hC]; rfl
  have pL : p_LA_enter s a1 := by
    unfold p_LA_enter; rw [hC]
    exact ⟨pC, by simp, fun _ => ⟨vp_in_nI (n := 0) (by decide) (by decide), trivial⟩, fun q => absurd rfl q⟩
  rw [hL]
  refine ⟨pL, pM, ?_, fun _ => by rw [hC]; exact hn⟩
  show pu_I R1 0 (f_MO_enter (am_set s1 262 0 v) a1)
  rw [hM]; exact ⟨h0, fun _ => h2, hR⟩
theorem on_enter_1 {R1 : am_M → Prop} {s s1 t : am_M} {a1 : Int32} {v : Int32} {w : Int32} (hC : f_CB_enter s a1 = (1, v, s1)) (pC : p_CB_enter s a1) (pM : p_MO_enter s1 a1) (hM : f_MO_enter s1 a1 = (w, t)) (h0 : t 207 0 = 1) (hR : R1 t) : p_LA_enter s a1 ∧ p_MO_enter (f_LA_enter s a1).2 a1 ∧ pu_I R1 (f_LA_enter s a1).1 (f_MO_enter (f_LA_enter s a1).2 a1) ∧ n9 (f_CB_enter s a1) := by
  have hL : f_LA_enter s a1 = (1, s1) := by unfold f_LA_enter; rw [hC]; rfl
  have pL : p_LA_enter s a1 := by
    unfold p_LA_enter; rw [hC]
    exact ⟨pC, by simp⟩
  rw [hL]
  refine ⟨pL, pM, ?_, fun q => by
    rw [hC] at q
    exact absurd (show (1 : Nat) = 0 from q) (by decide)⟩
  show pu_I R1 1 (f_MO_enter s1 a1)
  rw [hM]; exact ⟨h0, fun q => absurd q (by decide), hR⟩
theorem on_enter_2 {R1 : am_M → Prop} {s s1 t : am_M} {a1 : Int32} {v : Int32} {w : Int32} (hC : f_CB_enter s a1 = (3, v, s1)) (pC : p_CB_enter s a1) (pM : p_MO_enter s1 a1) (hM : f_MO_enter s1 a1 = (w, t)) (h0 : t 207 0 = 2) (hR : R1 t) : p_LA_enter s a1 ∧ p_MO_enter (f_LA_enter s a1).2 a1 ∧ pu_I R1 (f_LA_enter s a1).1 (f_MO_enter (f_LA_enter s a1).2 a1) ∧ n9 (f_CB_enter s a1) := by
  have hL : f_LA_enter s a1 = (2, s1) := by unfold f_LA_enter; rw [hC]; rfl
  have pL : p_LA_enter s a1 := by
    unfold p_LA_enter; rw [hC]
    exact ⟨pC, by simp⟩
  rw [hL]
  refine ⟨pL, pM, ?_, fun q => by
    rw [hC] at q
    exact absurd (show (3 : Nat) = 0 from q) (by decide)⟩
  show pu_I R1 2 (f_MO_enter s1 a1)
  rw [hM]; exact ⟨h0, fun q => absurd q (by decide), hR⟩
theorem og_put {R1 : am_M → Prop} {s s1 t : am_M} {a1 a2 a3 a4 : Int32} {v : Int32} {w : Int32} (hC : f_CB_put s a1 a2 a3 a4 = (0, v, s1)) (pC : p_CB_put s a1 a2 a3 a4) (pM : p_MO_put (am_set s1 262 0 (if v = 0 then 0 else 1)) a1 a2 a3 a4) (hM : f_MO_put (am_set s1 262 0 (if v = 0 then 0 else 1)) a1 a2 a3 a4 = (w, t)) (h0 : t 207 0 = 0) (h2 : t 262 0 = if w = 0 then 0 else 1) (hR : R1 t) : p_LA_put s a1 a2 a3 a4 ∧ p_MO_put (f_LA_put s a1 a2 a3 a4).2 a1 a2 a3 a4 ∧ pu_B R1 (f_LA_put s a1 a2 a3 a4).1 (f_MO_put (f_LA_put s a1 a2 a3 a4).2 a1 a2 a3 a4) := by
  have hL : f_LA_put s a1 a2 a3 a4 = (0, am_set s1 262 0 (if v = 0 then 0 else 1)) := by
    unfold f_LA_put; rw [hC]
    by_cases c : v = 0
    · simp [c]
    · simp [c]
  have pL : p_LA_put s a1 a2 a3 a4 := by
    unfold p_LA_put; rw [hC]
    exact ⟨pC, by simp, fun _ => ⟨fun _ => ⟨vp_in_nI (n := 0) (by decide) (by decide), trivial⟩, fun _ => ⟨vp_in_nI (n := 0) (by decide) (by decide), trivial⟩⟩, fun q => absurd rfl q⟩
  rw [hL]
  refine ⟨pL, pM, ?_⟩
  show pu_B R1 0 (f_MO_put (am_set s1 262 0 (if v = 0 then 0 else 1)) a1 a2 a3 a4)
  rw [hM]; exact ⟨h0, fun _ => h2, hR⟩
theorem on_put_1 {R1 : am_M → Prop} {s s1 t : am_M} {a1 a2 a3 a4 : Int32} {v : Int32} {w : Int32} (hC : f_CB_put s a1 a2 a3 a4 = (1, v, s1)) (pC : p_CB_put s a1 a2 a3 a4) (pM : p_MO_put s1 a1 a2 a3 a4) (hM : f_MO_put s1 a1 a2 a3 a4 = (w, t)) (h0 : t 207 0 = 1) (hR : R1 t) : p_LA_put s a1 a2 a3 a4 ∧ p_MO_put (f_LA_put s a1 a2 a3 a4).2 a1 a2 a3 a4 ∧ pu_B R1 (f_LA_put s a1 a2 a3 a4).1 (f_MO_put (f_LA_put s a1 a2 a3 a4).2 a1 a2 a3 a4) := by
  have hL : f_LA_put s a1 a2 a3 a4 = (1, s1) := by unfold f_LA_put; rw [hC]; rfl
  have pL : p_LA_put s a1 a2 a3 a4 := by
    unfold p_LA_put; rw [hC]
    exact ⟨pC, by simp⟩
  rw [hL]
  refine ⟨pL, pM, ?_⟩
  show pu_B R1 1 (f_MO_put s1 a1 a2 a3 a4)
  rw [hM]; exact ⟨h0, fun q => absurd q (by decide), hR⟩
theorem on_put_2 {R1 : am_M → Prop} {s s1 t : am_M} {a1 a2 a3 a4 : Int32} {v : Int32} {w : Int32} (hC : f_CB_put s a1 a2 a3 a4 = (2, v, s1)) (pC : p_CB_put s a1 a2 a3 a4) (pM : p_MO_put s1 a1 a2 a3 a4) (hM : f_MO_put s1 a1 a2 a3 a4 = (w, t)) (h0 : t 207 0 = 2) (hR : R1 t) : p_LA_put s a1 a2 a3 a4 ∧ p_MO_put (f_LA_put s a1 a2 a3 a4).2 a1 a2 a3 a4 ∧ pu_B R1 (f_LA_put s a1 a2 a3 a4).1 (f_MO_put (f_LA_put s a1 a2 a3 a4).2 a1 a2 a3 a4) := by
  have hL : f_LA_put s a1 a2 a3 a4 = (2, s1) := by unfold f_LA_put; rw [hC]; rfl
  have pL : p_LA_put s a1 a2 a3 a4 := by
    unfold p_LA_put; rw [hC]
    exact ⟨pC, by simp⟩
  rw [hL]
  refine ⟨pL, pM, ?_⟩
  show pu_B R1 2 (f_MO_put s1 a1 a2 a3 a4)
  rw [hM]; exact ⟨h0, fun q => absurd q (by decide), hR⟩
theorem og_remove {R1 : am_M → Prop} {s s1 t : am_M} {a1 a2 : Int32} {v : Int32} {w : Int32} (hC : f_CB_remove s a1 a2 = (0, v, s1)) (pC : p_CB_remove s a1 a2) (pM : p_MO_remove (am_set s1 262 0 (if v = 0 then 0 else 1)) a1 a2) (hM : f_MO_remove (am_set s1 262 0 (if v = 0 then 0 else 1)) a1 a2 = (w, t)) (h0 : t 207 0 = 0) (h2 : t 262 0 = if w = 0 then 0 else 1) (hR : R1 t) : p_LA_remove s a1 a2 ∧ p_MO_remove (f_LA_remove s a1 a2).2 a1 a2 ∧ pu_B R1 (f_LA_remove s a1 a2).1 (f_MO_remove (f_LA_remove s a1 a2).2 a1 a2) := by
  have hL : f_LA_remove s a1 a2 = (0, am_set s1 262 0 (if v = 0 then 0 else 1)) := by
    unfold f_LA_remove; rw [hC]
    by_cases c : v = 0
    · simp [c]
    · simp [c]
  have pL : p_LA_remove s a1 a2 := by
    unfold p_LA_remove; rw [hC]
    exact ⟨pC, by simp, fun _ => ⟨fun _ => ⟨vp_in_nI (n := 0) (by decide) (by decide), trivial⟩, fun _ => ⟨vp_in_nI (n := 0) (by decide) (by decide), trivial⟩⟩, fun q => absurd rfl q⟩
  rw [hL]
  refine ⟨pL, pM, ?_⟩
  show pu_B R1 0 (f_MO_remove (am_set s1 262 0 (if v = 0 then 0 else 1)) a1 a2)
  rw [hM]; exact ⟨h0, fun _ => h2, hR⟩
theorem on_remove_1 {R1 : am_M → Prop} {s s1 t : am_M} {a1 a2 : Int32} {v : Int32} {w : Int32} (hC : f_CB_remove s a1 a2 = (1, v, s1)) (pC : p_CB_remove s a1 a2) (pM : p_MO_remove s1 a1 a2) (hM : f_MO_remove s1 a1 a2 = (w, t)) (h0 : t 207 0 = 1) (hR : R1 t) : p_LA_remove s a1 a2 ∧ p_MO_remove (f_LA_remove s a1 a2).2 a1 a2 ∧ pu_B R1 (f_LA_remove s a1 a2).1 (f_MO_remove (f_LA_remove s a1 a2).2 a1 a2) := by
  have hL : f_LA_remove s a1 a2 = (1, s1) := by unfold f_LA_remove; rw [hC]; rfl
  have pL : p_LA_remove s a1 a2 := by
    unfold p_LA_remove; rw [hC]
    exact ⟨pC, by simp⟩
  rw [hL]
  refine ⟨pL, pM, ?_⟩
  show pu_B R1 1 (f_MO_remove s1 a1 a2)
  rw [hM]; exact ⟨h0, fun q => absurd q (by decide), hR⟩
theorem og_openForm {R1 : am_M → Prop} {s s1 t : am_M} {a1 a2 : Int32} (hC : f_CB_openForm s a1 a2 = (0, s1)) (pC : p_CB_openForm s a1 a2) (pM : p_MO_openForm (s1) a1 a2) (hM : f_MO_openForm (s1) a1 a2 = t) (h0 : t 207 0 = 0) (hR : R1 t) : p_LA_openForm s a1 a2 ∧ p_MO_openForm (f_LA_openForm s a1 a2).2 a1 a2 ∧ pu_V R1 (f_LA_openForm s a1 a2).1 (f_MO_openForm (f_LA_openForm s a1 a2).2 a1 a2) := by
  have hL : f_LA_openForm s a1 a2 = (0, s1) := by
    unfold f_LA_openForm; rw [hC]; rfl
  have pL : p_LA_openForm s a1 a2 := by
    unfold p_LA_openForm; rw [hC]
    exact ⟨pC, by simp, fun _ => trivial, fun q => absurd rfl q⟩
  rw [hL]
  refine ⟨pL, pM, ?_⟩
  show pu_V R1 0 (f_MO_openForm (s1) a1 a2)
  rw [hM]; exact ⟨h0, hR⟩
theorem on_openForm_1 {R1 : am_M → Prop} {s s1 t : am_M} {a1 a2 : Int32} (hC : f_CB_openForm s a1 a2 = (1, s1)) (pC : p_CB_openForm s a1 a2) (pM : p_MO_openForm s1 a1 a2) (hM : f_MO_openForm s1 a1 a2 = t) (h0 : t 207 0 = 1) (hR : R1 t) : p_LA_openForm s a1 a2 ∧ p_MO_openForm (f_LA_openForm s a1 a2).2 a1 a2 ∧ pu_V R1 (f_LA_openForm s a1 a2).1 (f_MO_openForm (f_LA_openForm s a1 a2).2 a1 a2) := by
  have hL : f_LA_openForm s a1 a2 = (1, s1) := by unfold f_LA_openForm; rw [hC]; rfl
  have pL : p_LA_openForm s a1 a2 := by
    unfold p_LA_openForm; rw [hC]
    exact ⟨pC, by simp⟩
  rw [hL]
  refine ⟨pL, pM, ?_⟩
  show pu_V R1 1 (f_MO_openForm s1 a1 a2)
  rw [hM]; exact ⟨h0, hR⟩
theorem og_enterInside {R1 : am_M → Prop} {s s1 t : am_M} {a1 a2 : Int32} {v : Int32} {w : Int32} (hC : f_CB_enterInside s a1 a2 = (0, v, s1)) (pC : p_CB_enterInside s a1 a2) (pM : p_MO_enterInside (am_set s1 262 0 v) a1 a2) (hM : f_MO_enterInside (am_set s1 262 0 v) a1 a2 = (w, t)) (h0 : t 207 0 = 0) (h2 : t 262 0 = w) (hR : R1 t) (hn : v ≠ -9999999) : p_LA_enterInside s a1 a2 ∧ p_MO_enterInside (f_LA_enterInside s a1 a2).2 a1 a2 ∧ pu_I R1 (f_LA_enterInside s a1 a2).1 (f_MO_enterInside (f_LA_enterInside s a1 a2).2 a1 a2) ∧ n9 (f_CB_enterInside s a1 a2) := by
  have hL : f_LA_enterInside s a1 a2 = (0, am_set s1 262 0 v) := by
    unfold f_LA_enterInside; rw [hC]; rfl
  have pL : p_LA_enterInside s a1 a2 := by
    unfold p_LA_enterInside; rw [hC]
    exact ⟨pC, by simp, fun _ => ⟨vp_in_nI (n := 0) (by decide) (by decide), trivial⟩, fun q => absurd rfl q⟩
  rw [hL]
  refine ⟨pL, pM, ?_, fun _ => by rw [hC]; exact hn⟩
  show pu_I R1 0 (f_MO_enterInside (am_set s1 262 0 v) a1 a2)
  rw [hM]; exact ⟨h0, fun _ => h2, hR⟩
theorem on_enterInside_1 {R1 : am_M → Prop} {s s1 t : am_M} {a1 a2 : Int32} {v : Int32} {w : Int32} (hC : f_CB_enterInside s a1 a2 = (1, v, s1)) (pC : p_CB_enterInside s a1 a2) (pM : p_MO_enterInside s1 a1 a2) (hM : f_MO_enterInside s1 a1 a2 = (w, t)) (h0 : t 207 0 = 1) (hR : R1 t) : p_LA_enterInside s a1 a2 ∧ p_MO_enterInside (f_LA_enterInside s a1 a2).2 a1 a2 ∧ pu_I R1 (f_LA_enterInside s a1 a2).1 (f_MO_enterInside (f_LA_enterInside s a1 a2).2 a1 a2) ∧ n9 (f_CB_enterInside s a1 a2) := by
  have hL : f_LA_enterInside s a1 a2 = (1, s1) := by unfold f_LA_enterInside; rw [hC]; rfl
  have pL : p_LA_enterInside s a1 a2 := by
    unfold p_LA_enterInside; rw [hC]
    exact ⟨pC, by simp⟩
  rw [hL]
  refine ⟨pL, pM, ?_, fun q => by
    rw [hC] at q
    exact absurd (show (1 : Nat) = 0 from q) (by decide)⟩
  show pu_I R1 1 (f_MO_enterInside s1 a1 a2)
  rw [hM]; exact ⟨h0, fun q => absurd q (by decide), hR⟩
theorem on_enterInside_2 {R1 : am_M → Prop} {s s1 t : am_M} {a1 a2 : Int32} {v : Int32} {w : Int32} (hC : f_CB_enterInside s a1 a2 = (3, v, s1)) (pC : p_CB_enterInside s a1 a2) (pM : p_MO_enterInside s1 a1 a2) (hM : f_MO_enterInside s1 a1 a2 = (w, t)) (h0 : t 207 0 = 2) (hR : R1 t) : p_LA_enterInside s a1 a2 ∧ p_MO_enterInside (f_LA_enterInside s a1 a2).2 a1 a2 ∧ pu_I R1 (f_LA_enterInside s a1 a2).1 (f_MO_enterInside (f_LA_enterInside s a1 a2).2 a1 a2) ∧ n9 (f_CB_enterInside s a1 a2) := by
  have hL : f_LA_enterInside s a1 a2 = (2, s1) := by unfold f_LA_enterInside; rw [hC]; rfl
  have pL : p_LA_enterInside s a1 a2 := by
    unfold p_LA_enterInside; rw [hC]
    exact ⟨pC, by simp⟩
  rw [hL]
  refine ⟨pL, pM, ?_, fun q => by
    rw [hC] at q
    exact absurd (show (3 : Nat) = 0 from q) (by decide)⟩
  show pu_I R1 2 (f_MO_enterInside s1 a1 a2)
  rw [hM]; exact ⟨h0, fun q => absurd q (by decide), hR⟩
theorem on_enterInside_3 {R1 : am_M → Prop} {s s1 t : am_M} {a1 a2 : Int32} {v : Int32} {w : Int32} (hC : f_CB_enterInside s a1 a2 = (2, v, s1)) (pC : p_CB_enterInside s a1 a2) (pM : p_MO_enterInside s1 a1 a2) (hM : f_MO_enterInside s1 a1 a2 = (w, t)) (h0 : t 207 0 = 3) (hR : R1 t) : p_LA_enterInside s a1 a2 ∧ p_MO_enterInside (f_LA_enterInside s a1 a2).2 a1 a2 ∧ pu_I R1 (f_LA_enterInside s a1 a2).1 (f_MO_enterInside (f_LA_enterInside s a1 a2).2 a1 a2) ∧ n9 (f_CB_enterInside s a1 a2) := by
  have hL : f_LA_enterInside s a1 a2 = (3, s1) := by unfold f_LA_enterInside; rw [hC]; rfl
  have pL : p_LA_enterInside s a1 a2 := by
    unfold p_LA_enterInside; rw [hC]
    exact ⟨pC, by simp⟩
  rw [hL]
  refine ⟨pL, pM, ?_, fun q => by
    rw [hC] at q
    exact absurd (show (2 : Nat) = 0 from q) (by decide)⟩
  show pu_I R1 3 (f_MO_enterInside s1 a1 a2)
  rw [hM]; exact ⟨h0, fun q => absurd q (by decide), hR⟩
theorem og_choice {R1 : am_M → Prop} {s s1 t : am_M} {a1 a2 a3 a4 : Int32} {v : Int32} {w : Int32} (hC : f_CB_choice s a1 a2 a3 a4 = (0, v, s1)) (pC : p_CB_choice s a1 a2 a3 a4) (pM : p_MO_choice (am_set s1 262 0 v) a1 a2 a3 a4) (hM : f_MO_choice (am_set s1 262 0 v) a1 a2 a3 a4 = (w, t)) (h0 : t 207 0 = 0) (h2 : t 262 0 = w) (hR : R1 t) : p_LA_choice s a1 a2 a3 a4 ∧ p_MO_choice (f_LA_choice s a1 a2 a3 a4).2 a1 a2 a3 a4 ∧ pu_I R1 (f_LA_choice s a1 a2 a3 a4).1 (f_MO_choice (f_LA_choice s a1 a2 a3 a4).2 a1 a2 a3 a4) := by
  have hL : f_LA_choice s a1 a2 a3 a4 = (0, am_set s1 262 0 v) := by
    unfold f_LA_choice; rw [hC]; rfl
  have pL : p_LA_choice s a1 a2 a3 a4 := by
    unfold p_LA_choice; rw [hC]
    exact ⟨pC, by simp, fun _ => ⟨vp_in_nI (n := 0) (by decide) (by decide), trivial⟩, fun q => absurd rfl q⟩
  rw [hL]
  refine ⟨pL, pM, ?_⟩
  show pu_I R1 0 (f_MO_choice (am_set s1 262 0 v) a1 a2 a3 a4)
  rw [hM]; exact ⟨h0, fun _ => h2, hR⟩
theorem on_choice_1 {R1 : am_M → Prop} {s s1 t : am_M} {a1 a2 a3 a4 : Int32} {v : Int32} {w : Int32} (hC : f_CB_choice s a1 a2 a3 a4 = (1, v, s1)) (pC : p_CB_choice s a1 a2 a3 a4) (pM : p_MO_choice s1 a1 a2 a3 a4) (hM : f_MO_choice s1 a1 a2 a3 a4 = (w, t)) (h0 : t 207 0 = 1) (hR : R1 t) : p_LA_choice s a1 a2 a3 a4 ∧ p_MO_choice (f_LA_choice s a1 a2 a3 a4).2 a1 a2 a3 a4 ∧ pu_I R1 (f_LA_choice s a1 a2 a3 a4).1 (f_MO_choice (f_LA_choice s a1 a2 a3 a4).2 a1 a2 a3 a4) := by
  have hL : f_LA_choice s a1 a2 a3 a4 = (1, s1) := by unfold f_LA_choice; rw [hC]; rfl
  have pL : p_LA_choice s a1 a2 a3 a4 := by
    unfold p_LA_choice; rw [hC]
    exact ⟨pC, by simp⟩
  rw [hL]
  refine ⟨pL, pM, ?_⟩
  show pu_I R1 1 (f_MO_choice s1 a1 a2 a3 a4)
  rw [hM]; exact ⟨h0, fun q => absurd q (by decide), hR⟩
theorem on_choice_2 {R1 : am_M → Prop} {s s1 t : am_M} {a1 a2 a3 a4 : Int32} {v : Int32} {w : Int32} (hC : f_CB_choice s a1 a2 a3 a4 = (2, v, s1)) (pC : p_CB_choice s a1 a2 a3 a4) (pM : p_MO_choice s1 a1 a2 a3 a4) (hM : f_MO_choice s1 a1 a2 a3 a4 = (w, t)) (h0 : t 207 0 = 2) (hR : R1 t) : p_LA_choice s a1 a2 a3 a4 ∧ p_MO_choice (f_LA_choice s a1 a2 a3 a4).2 a1 a2 a3 a4 ∧ pu_I R1 (f_LA_choice s a1 a2 a3 a4).1 (f_MO_choice (f_LA_choice s a1 a2 a3 a4).2 a1 a2 a3 a4) := by
  have hL : f_LA_choice s a1 a2 a3 a4 = (2, s1) := by unfold f_LA_choice; rw [hC]; rfl
  have pL : p_LA_choice s a1 a2 a3 a4 := by
    unfold p_LA_choice; rw [hC]
    exact ⟨pC, by simp⟩
  rw [hL]
  refine ⟨pL, pM, ?_⟩
  show pu_I R1 2 (f_MO_choice s1 a1 a2 a3 a4)
  rw [hM]; exact ⟨h0, fun q => absurd q (by decide), hR⟩
theorem og_cell {R1 : am_M → Prop} {s s1 t : am_M} {a1 a2 a3 : Int32} {v : Int32} {w : Int32} (hC : f_CB_cell s a1 a2 a3 = (0, v, s1)) (pC : p_CB_cell s a1 a2 a3) (pM : p_MO_cell (am_set s1 262 0 v) a1 a2 a3) (hM : f_MO_cell (am_set s1 262 0 v) a1 a2 a3 = (w, t)) (h0 : t 207 0 = 0) (h2 : t 262 0 = w) (hR : R1 t) : p_LA_cell s a1 a2 a3 ∧ p_MO_cell (f_LA_cell s a1 a2 a3).2 a1 a2 a3 ∧ pu_I R1 (f_LA_cell s a1 a2 a3).1 (f_MO_cell (f_LA_cell s a1 a2 a3).2 a1 a2 a3) := by
  have hL : f_LA_cell s a1 a2 a3 = (0, am_set s1 262 0 v) := by
    unfold f_LA_cell; rw [hC]; rfl
  have pL : p_LA_cell s a1 a2 a3 := by
    unfold p_LA_cell; rw [hC]
    exact ⟨pC, by simp, fun _ => ⟨vp_in_nI (n := 0) (by decide) (by decide), trivial⟩, fun q => absurd rfl q⟩
  rw [hL]
  refine ⟨pL, pM, ?_⟩
  show pu_I R1 0 (f_MO_cell (am_set s1 262 0 v) a1 a2 a3)
  rw [hM]; exact ⟨h0, fun _ => h2, hR⟩
theorem on_cell_1 {R1 : am_M → Prop} {s s1 t : am_M} {a1 a2 a3 : Int32} {v : Int32} {w : Int32} (hC : f_CB_cell s a1 a2 a3 = (1, v, s1)) (pC : p_CB_cell s a1 a2 a3) (pM : p_MO_cell s1 a1 a2 a3) (hM : f_MO_cell s1 a1 a2 a3 = (w, t)) (h0 : t 207 0 = 1) (hR : R1 t) : p_LA_cell s a1 a2 a3 ∧ p_MO_cell (f_LA_cell s a1 a2 a3).2 a1 a2 a3 ∧ pu_I R1 (f_LA_cell s a1 a2 a3).1 (f_MO_cell (f_LA_cell s a1 a2 a3).2 a1 a2 a3) := by
  have hL : f_LA_cell s a1 a2 a3 = (1, s1) := by unfold f_LA_cell; rw [hC]; rfl
  have pL : p_LA_cell s a1 a2 a3 := by
    unfold p_LA_cell; rw [hC]
    exact ⟨pC, by simp⟩
  rw [hL]
  refine ⟨pL, pM, ?_⟩
  show pu_I R1 1 (f_MO_cell s1 a1 a2 a3)
  rw [hM]; exact ⟨h0, fun q => absurd q (by decide), hR⟩
theorem og_isThere {R1 : am_M → Prop} {s s1 t : am_M} {a1 a2 : Int32} {v : Int32} {w : Int32} (hC : f_CB_isThere s a1 a2 = (0, v, s1)) (pC : p_CB_isThere s a1 a2) (pM : p_MO_isThere (am_set s1 262 0 (if v = 0 then 0 else 1)) a1 a2) (hM : f_MO_isThere (am_set s1 262 0 (if v = 0 then 0 else 1)) a1 a2 = (w, t)) (h0 : t 207 0 = 0) (h2 : t 262 0 = if w = 0 then 0 else 1) (hR : R1 t) : p_LA_isThere s a1 a2 ∧ p_MO_isThere (f_LA_isThere s a1 a2).2 a1 a2 ∧ pu_B R1 (f_LA_isThere s a1 a2).1 (f_MO_isThere (f_LA_isThere s a1 a2).2 a1 a2) := by
  have hL : f_LA_isThere s a1 a2 = (0, am_set s1 262 0 (if v = 0 then 0 else 1)) := by
    unfold f_LA_isThere; rw [hC]
    by_cases c : v = 0
    · simp [c]
    · simp [c]
  have pL : p_LA_isThere s a1 a2 := by
    unfold p_LA_isThere; rw [hC]
    exact ⟨pC, by simp, fun _ => ⟨fun _ => ⟨vp_in_nI (n := 0) (by decide) (by decide), trivial⟩, fun _ => ⟨vp_in_nI (n := 0) (by decide) (by decide), trivial⟩⟩, fun q => absurd rfl q⟩
  rw [hL]
  refine ⟨pL, pM, ?_⟩
  show pu_B R1 0 (f_MO_isThere (am_set s1 262 0 (if v = 0 then 0 else 1)) a1 a2)
  rw [hM]; exact ⟨h0, fun _ => h2, hR⟩
theorem on_isThere_1 {R1 : am_M → Prop} {s s1 t : am_M} {a1 a2 : Int32} {v : Int32} {w : Int32} (hC : f_CB_isThere s a1 a2 = (1, v, s1)) (pC : p_CB_isThere s a1 a2) (pM : p_MO_isThere s1 a1 a2) (hM : f_MO_isThere s1 a1 a2 = (w, t)) (h0 : t 207 0 = 1) (hR : R1 t) : p_LA_isThere s a1 a2 ∧ p_MO_isThere (f_LA_isThere s a1 a2).2 a1 a2 ∧ pu_B R1 (f_LA_isThere s a1 a2).1 (f_MO_isThere (f_LA_isThere s a1 a2).2 a1 a2) := by
  have hL : f_LA_isThere s a1 a2 = (1, s1) := by unfold f_LA_isThere; rw [hC]; rfl
  have pL : p_LA_isThere s a1 a2 := by
    unfold p_LA_isThere; rw [hC]
    exact ⟨pC, by simp⟩
  rw [hL]
  refine ⟨pL, pM, ?_⟩
  show pu_B R1 1 (f_MO_isThere s1 a1 a2)
  rw [hM]; exact ⟨h0, fun q => absurd q (by decide), hR⟩
theorem og_rows {R1 : am_M → Prop} {s s1 t : am_M} {a1 : Int32} {v : Int32} {w : Int32} (hC : f_CB_rows s a1 = (0, v, s1)) (pC : p_CB_rows s a1) (pM : p_MO_rows (am_set s1 262 0 v) a1) (hM : f_MO_rows (am_set s1 262 0 v) a1 = (w, t)) (h0 : t 207 0 = 0) (h2 : t 262 0 = w) (hR : R1 t) : p_LA_rows s a1 ∧ p_MO_rows (f_LA_rows s a1).2 a1 ∧ pu_I R1 (f_LA_rows s a1).1 (f_MO_rows (f_LA_rows s a1).2 a1) := by
  have hL : f_LA_rows s a1 = (0, am_set s1 262 0 v) := by
    unfold f_LA_rows; rw [hC]; rfl
  have pL : p_LA_rows s a1 := by
    unfold p_LA_rows; rw [hC]
    exact ⟨pC, by simp, fun _ => ⟨vp_in_nI (n := 0) (by decide) (by decide), trivial⟩, fun q => absurd rfl q⟩
  rw [hL]
  refine ⟨pL, pM, ?_⟩
  show pu_I R1 0 (f_MO_rows (am_set s1 262 0 v) a1)
  rw [hM]; exact ⟨h0, fun _ => h2, hR⟩
theorem on_rows_1 {R1 : am_M → Prop} {s s1 t : am_M} {a1 : Int32} {v : Int32} {w : Int32} (hC : f_CB_rows s a1 = (1, v, s1)) (pC : p_CB_rows s a1) (pM : p_MO_rows s1 a1) (hM : f_MO_rows s1 a1 = (w, t)) (h0 : t 207 0 = 1) (hR : R1 t) : p_LA_rows s a1 ∧ p_MO_rows (f_LA_rows s a1).2 a1 ∧ pu_I R1 (f_LA_rows s a1).1 (f_MO_rows (f_LA_rows s a1).2 a1) := by
  have hL : f_LA_rows s a1 = (1, s1) := by unfold f_LA_rows; rw [hC]; rfl
  have pL : p_LA_rows s a1 := by
    unfold p_LA_rows; rw [hC]
    exact ⟨pC, by simp⟩
  rw [hL]
  refine ⟨pL, pM, ?_⟩
  show pu_I R1 1 (f_MO_rows s1 a1)
  rw [hM]; exact ⟨h0, fun q => absurd q (by decide), hR⟩
theorem og_ask {R1 : am_M → Prop} {s s1 t : am_M} {a1 a2 : Int32} {v : Int32} {w : Int32} (hC : f_CB_ask s a1 a2 = (0, v, s1)) (pC : p_CB_ask s a1 a2) (pM : p_MO_ask (am_set s1 262 0 v) a1 a2) (hM : f_MO_ask (am_set s1 262 0 v) a1 a2 = (w, t)) (h0 : t 207 0 = 0) (h2 : t 262 0 = w) (hR : R1 t) (hn : v ≠ -9999999) : p_LA_ask s a1 a2 ∧ p_MO_ask (f_LA_ask s a1 a2).2 a1 a2 ∧ pu_I R1 (f_LA_ask s a1 a2).1 (f_MO_ask (f_LA_ask s a1 a2).2 a1 a2) ∧ n9 (f_CB_ask s a1 a2) := by
  have hL : f_LA_ask s a1 a2 = (0, am_set s1 262 0 v) := by
    unfold f_LA_ask; rw [hC]; rfl
  have pL : p_LA_ask s a1 a2 := by
    unfold p_LA_ask; rw [hC]
    exact ⟨pC, by simp, fun _ => ⟨vp_in_nI (n := 0) (by decide) (by decide), trivial⟩, fun q => absurd rfl q⟩
  rw [hL]
  refine ⟨pL, pM, ?_, fun _ => by rw [hC]; exact hn⟩
  show pu_I R1 0 (f_MO_ask (am_set s1 262 0 v) a1 a2)
  rw [hM]; exact ⟨h0, fun _ => h2, hR⟩
theorem on_ask_1 {R1 : am_M → Prop} {s s1 t : am_M} {a1 a2 : Int32} {v : Int32} {w : Int32} (hC : f_CB_ask s a1 a2 = (1, v, s1)) (pC : p_CB_ask s a1 a2) (pM : p_MO_ask s1 a1 a2) (hM : f_MO_ask s1 a1 a2 = (w, t)) (h0 : t 207 0 = 1) (hR : R1 t) : p_LA_ask s a1 a2 ∧ p_MO_ask (f_LA_ask s a1 a2).2 a1 a2 ∧ pu_I R1 (f_LA_ask s a1 a2).1 (f_MO_ask (f_LA_ask s a1 a2).2 a1 a2) ∧ n9 (f_CB_ask s a1 a2) := by
  have hL : f_LA_ask s a1 a2 = (1, s1) := by unfold f_LA_ask; rw [hC]; rfl
  have pL : p_LA_ask s a1 a2 := by
    unfold p_LA_ask; rw [hC]
    exact ⟨pC, by simp⟩
  rw [hL]
  refine ⟨pL, pM, ?_, fun q => by
    rw [hC] at q
    exact absurd (show (1 : Nat) = 0 from q) (by decide)⟩
  show pu_I R1 1 (f_MO_ask s1 a1 a2)
  rw [hM]; exact ⟨h0, fun q => absurd q (by decide), hR⟩
theorem on_ask_2 {R1 : am_M → Prop} {s s1 t : am_M} {a1 a2 : Int32} {v : Int32} {w : Int32} (hC : f_CB_ask s a1 a2 = (2, v, s1)) (pC : p_CB_ask s a1 a2) (pM : p_MO_ask s1 a1 a2) (hM : f_MO_ask s1 a1 a2 = (w, t)) (h0 : t 207 0 = 2) (hR : R1 t) : p_LA_ask s a1 a2 ∧ p_MO_ask (f_LA_ask s a1 a2).2 a1 a2 ∧ pu_I R1 (f_LA_ask s a1 a2).1 (f_MO_ask (f_LA_ask s a1 a2).2 a1 a2) ∧ n9 (f_CB_ask s a1 a2) := by
  have hL : f_LA_ask s a1 a2 = (2, s1) := by unfold f_LA_ask; rw [hC]; rfl
  have pL : p_LA_ask s a1 a2 := by
    unfold p_LA_ask; rw [hC]
    exact ⟨pC, by simp⟩
  rw [hL]
  refine ⟨pL, pM, ?_, fun q => by
    rw [hC] at q
    exact absurd (show (2 : Nat) = 0 from q) (by decide)⟩
  show pu_I R1 2 (f_MO_ask s1 a1 a2)
  rw [hM]; exact ⟨h0, fun q => absurd q (by decide), hR⟩
theorem on_ask_3 {R1 : am_M → Prop} {s s1 t : am_M} {a1 a2 : Int32} {v : Int32} {w : Int32} (hC : f_CB_ask s a1 a2 = (3, v, s1)) (pC : p_CB_ask s a1 a2) (pM : p_MO_ask s1 a1 a2) (hM : f_MO_ask s1 a1 a2 = (w, t)) (h0 : t 207 0 = 3) (hR : R1 t) : p_LA_ask s a1 a2 ∧ p_MO_ask (f_LA_ask s a1 a2).2 a1 a2 ∧ pu_I R1 (f_LA_ask s a1 a2).1 (f_MO_ask (f_LA_ask s a1 a2).2 a1 a2) ∧ n9 (f_CB_ask s a1 a2) := by
  have hL : f_LA_ask s a1 a2 = (3, s1) := by unfold f_LA_ask; rw [hC]; rfl
  have pL : p_LA_ask s a1 a2 := by
    unfold p_LA_ask; rw [hC]
    exact ⟨pC, by simp⟩
  rw [hL]
  refine ⟨pL, pM, ?_, fun q => by
    rw [hC] at q
    exact absurd (show (3 : Nat) = 0 from q) (by decide)⟩
  show pu_I R1 3 (f_MO_ask s1 a1 a2)
  rw [hM]; exact ⟨h0, fun q => absurd q (by decide), hR⟩
theorem og_condition {R1 : am_M → Prop} {s s1 t : am_M} {a1 a2 a3 a4 a5 : Int32} {v : Int32} {w : Int32} (hC : f_CB_condition s a1 a2 a3 a4 a5 = (0, v, s1)) (pC : p_CB_condition s a1 a2 a3 a4 a5) (pM : p_MO_condition (am_set s1 262 0 v) a1 a2 a3 a4 a5) (hM : f_MO_condition (am_set s1 262 0 v) a1 a2 a3 a4 a5 = (w, t)) (h0 : t 207 0 = 0) (h2 : t 262 0 = w) (hR : R1 t) (hn : v ≠ -9999999) : p_LA_condition s a1 a2 a3 a4 a5 ∧ p_MO_condition (f_LA_condition s a1 a2 a3 a4 a5).2 a1 a2 a3 a4 a5 ∧ pu_I R1 (f_LA_condition s a1 a2 a3 a4 a5).1 (f_MO_condition (f_LA_condition s a1 a2 a3 a4 a5).2 a1 a2 a3 a4 a5) ∧ n9 (f_CB_condition s a1 a2 a3 a4 a5) := by
  have hL : f_LA_condition s a1 a2 a3 a4 a5 = (0, am_set s1 262 0 v) := by
    unfold f_LA_condition; rw [hC]; rfl
  have pL : p_LA_condition s a1 a2 a3 a4 a5 := by
    unfold p_LA_condition; rw [hC]
    exact ⟨pC, by simp, fun _ => ⟨vp_in_nI (n := 0) (by decide) (by decide), trivial⟩, fun q => absurd rfl q⟩
  rw [hL]
  refine ⟨pL, pM, ?_, fun _ => by rw [hC]; exact hn⟩
  show pu_I R1 0 (f_MO_condition (am_set s1 262 0 v) a1 a2 a3 a4 a5)
  rw [hM]; exact ⟨h0, fun _ => h2, hR⟩
theorem on_condition_1 {R1 : am_M → Prop} {s s1 t : am_M} {a1 a2 a3 a4 a5 : Int32} {v : Int32} {w : Int32} (hC : f_CB_condition s a1 a2 a3 a4 a5 = (1, v, s1)) (pC : p_CB_condition s a1 a2 a3 a4 a5) (pM : p_MO_condition s1 a1 a2 a3 a4 a5) (hM : f_MO_condition s1 a1 a2 a3 a4 a5 = (w, t)) (h0 : t 207 0 = 1) (hR : R1 t) : p_LA_condition s a1 a2 a3 a4 a5 ∧ p_MO_condition (f_LA_condition s a1 a2 a3 a4 a5).2 a1 a2 a3 a4 a5 ∧ pu_I R1 (f_LA_condition s a1 a2 a3 a4 a5).1 (f_MO_condition (f_LA_condition s a1 a2 a3 a4 a5).2 a1 a2 a3 a4 a5) ∧ n9 (f_CB_condition s a1 a2 a3 a4 a5) := by
  have hL : f_LA_condition s a1 a2 a3 a4 a5 = (1, s1) := by unfold f_LA_condition; rw [hC]; rfl
  have pL : p_LA_condition s a1 a2 a3 a4 a5 := by
    unfold p_LA_condition; rw [hC]
    exact ⟨pC, by simp⟩
  rw [hL]
  refine ⟨pL, pM, ?_, fun q => by
    rw [hC] at q
    exact absurd (show (1 : Nat) = 0 from q) (by decide)⟩
  show pu_I R1 1 (f_MO_condition s1 a1 a2 a3 a4 a5)
  rw [hM]; exact ⟨h0, fun q => absurd q (by decide), hR⟩
theorem on_condition_2 {R1 : am_M → Prop} {s s1 t : am_M} {a1 a2 a3 a4 a5 : Int32} {v : Int32} {w : Int32} (hC : f_CB_condition s a1 a2 a3 a4 a5 = (2, v, s1)) (pC : p_CB_condition s a1 a2 a3 a4 a5) (pM : p_MO_condition s1 a1 a2 a3 a4 a5) (hM : f_MO_condition s1 a1 a2 a3 a4 a5 = (w, t)) (h0 : t 207 0 = 2) (hR : R1 t) : p_LA_condition s a1 a2 a3 a4 a5 ∧ p_MO_condition (f_LA_condition s a1 a2 a3 a4 a5).2 a1 a2 a3 a4 a5 ∧ pu_I R1 (f_LA_condition s a1 a2 a3 a4 a5).1 (f_MO_condition (f_LA_condition s a1 a2 a3 a4 a5).2 a1 a2 a3 a4 a5) ∧ n9 (f_CB_condition s a1 a2 a3 a4 a5) := by
  have hL : f_LA_condition s a1 a2 a3 a4 a5 = (2, s1) := by unfold f_LA_condition; rw [hC]; rfl
  have pL : p_LA_condition s a1 a2 a3 a4 a5 := by
    unfold p_LA_condition; rw [hC]
    exact ⟨pC, by simp⟩
  rw [hL]
  refine ⟨pL, pM, ?_, fun q => by
    rw [hC] at q
    exact absurd (show (2 : Nat) = 0 from q) (by decide)⟩
  show pu_I R1 2 (f_MO_condition s1 a1 a2 a3 a4 a5)
  rw [hM]; exact ⟨h0, fun q => absurd q (by decide), hR⟩
theorem on_condition_3 {R1 : am_M → Prop} {s s1 t : am_M} {a1 a2 a3 a4 a5 : Int32} {v : Int32} {w : Int32} (hC : f_CB_condition s a1 a2 a3 a4 a5 = (3, v, s1)) (pC : p_CB_condition s a1 a2 a3 a4 a5) (pM : p_MO_condition s1 a1 a2 a3 a4 a5) (hM : f_MO_condition s1 a1 a2 a3 a4 a5 = (w, t)) (h0 : t 207 0 = 3) (hR : R1 t) : p_LA_condition s a1 a2 a3 a4 a5 ∧ p_MO_condition (f_LA_condition s a1 a2 a3 a4 a5).2 a1 a2 a3 a4 a5 ∧ pu_I R1 (f_LA_condition s a1 a2 a3 a4 a5).1 (f_MO_condition (f_LA_condition s a1 a2 a3 a4 a5).2 a1 a2 a3 a4 a5) ∧ n9 (f_CB_condition s a1 a2 a3 a4 a5) := by
  have hL : f_LA_condition s a1 a2 a3 a4 a5 = (3, s1) := by unfold f_LA_condition; rw [hC]; rfl
  have pL : p_LA_condition s a1 a2 a3 a4 a5 := by
    unfold p_LA_condition; rw [hC]
    exact ⟨pC, by simp⟩
  rw [hL]
  refine ⟨pL, pM, ?_, fun q => by
    rw [hC] at q
    exact absurd (show (3 : Nat) = 0 from q) (by decide)⟩
  show pu_I R1 3 (f_MO_condition s1 a1 a2 a3 a4 a5)
  rw [hM]; exact ⟨h0, fun q => absurd q (by decide), hR⟩
theorem og_askGroups {R1 : am_M → Prop} {s s1 t : am_M} {a1 a2 a3 : Int32} {v : Int32} {w : Int32} (hC : f_CB_askGroups s a1 a2 a3 = (0, v, s1)) (pC : p_CB_askGroups s a1 a2 a3) (pM : p_MO_askGroups (am_set s1 262 0 v) a1 a2 a3) (hM : f_MO_askGroups (am_set s1 262 0 v) a1 a2 a3 = (w, t)) (h0 : t 207 0 = 0) (h2 : t 262 0 = w) (hR : R1 t) (hn : v ≠ -9999999) : p_LA_askGroups s a1 a2 a3 ∧ p_MO_askGroups (f_LA_askGroups s a1 a2 a3).2 a1 a2 a3 ∧ pu_I R1 (f_LA_askGroups s a1 a2 a3).1 (f_MO_askGroups (f_LA_askGroups s a1 a2 a3).2 a1 a2 a3) ∧ n9 (f_CB_askGroups s a1 a2 a3) := by
  have hL : f_LA_askGroups s a1 a2 a3 = (0, am_set s1 262 0 v) := by
    unfold f_LA_askGroups; rw [hC]; rfl
  have pL : p_LA_askGroups s a1 a2 a3 := by
    unfold p_LA_askGroups; rw [hC]
    exact ⟨pC, by simp, fun _ => ⟨vp_in_nI (n := 0) (by decide) (by decide), trivial⟩, fun q => absurd rfl q⟩
  rw [hL]
  refine ⟨pL, pM, ?_, fun _ => by rw [hC]; exact hn⟩
  show pu_I R1 0 (f_MO_askGroups (am_set s1 262 0 v) a1 a2 a3)
  rw [hM]; exact ⟨h0, fun _ => h2, hR⟩
theorem on_askGroups_1 {R1 : am_M → Prop} {s s1 t : am_M} {a1 a2 a3 : Int32} {v : Int32} {w : Int32} (hC : f_CB_askGroups s a1 a2 a3 = (1, v, s1)) (pC : p_CB_askGroups s a1 a2 a3) (pM : p_MO_askGroups s1 a1 a2 a3) (hM : f_MO_askGroups s1 a1 a2 a3 = (w, t)) (h0 : t 207 0 = 1) (hR : R1 t) : p_LA_askGroups s a1 a2 a3 ∧ p_MO_askGroups (f_LA_askGroups s a1 a2 a3).2 a1 a2 a3 ∧ pu_I R1 (f_LA_askGroups s a1 a2 a3).1 (f_MO_askGroups (f_LA_askGroups s a1 a2 a3).2 a1 a2 a3) ∧ n9 (f_CB_askGroups s a1 a2 a3) := by
  have hL : f_LA_askGroups s a1 a2 a3 = (1, s1) := by unfold f_LA_askGroups; rw [hC]; rfl
  have pL : p_LA_askGroups s a1 a2 a3 := by
    unfold p_LA_askGroups; rw [hC]
    exact ⟨pC, by simp⟩
  rw [hL]
  refine ⟨pL, pM, ?_, fun q => by
    rw [hC] at q
    exact absurd (show (1 : Nat) = 0 from q) (by decide)⟩
  show pu_I R1 1 (f_MO_askGroups s1 a1 a2 a3)
  rw [hM]; exact ⟨h0, fun q => absurd q (by decide), hR⟩
theorem on_askGroups_2 {R1 : am_M → Prop} {s s1 t : am_M} {a1 a2 a3 : Int32} {v : Int32} {w : Int32} (hC : f_CB_askGroups s a1 a2 a3 = (2, v, s1)) (pC : p_CB_askGroups s a1 a2 a3) (pM : p_MO_askGroups s1 a1 a2 a3) (hM : f_MO_askGroups s1 a1 a2 a3 = (w, t)) (h0 : t 207 0 = 2) (hR : R1 t) : p_LA_askGroups s a1 a2 a3 ∧ p_MO_askGroups (f_LA_askGroups s a1 a2 a3).2 a1 a2 a3 ∧ pu_I R1 (f_LA_askGroups s a1 a2 a3).1 (f_MO_askGroups (f_LA_askGroups s a1 a2 a3).2 a1 a2 a3) ∧ n9 (f_CB_askGroups s a1 a2 a3) := by
  have hL : f_LA_askGroups s a1 a2 a3 = (2, s1) := by unfold f_LA_askGroups; rw [hC]; rfl
  have pL : p_LA_askGroups s a1 a2 a3 := by
    unfold p_LA_askGroups; rw [hC]
    exact ⟨pC, by simp⟩
  rw [hL]
  refine ⟨pL, pM, ?_, fun q => by
    rw [hC] at q
    exact absurd (show (2 : Nat) = 0 from q) (by decide)⟩
  show pu_I R1 2 (f_MO_askGroups s1 a1 a2 a3)
  rw [hM]; exact ⟨h0, fun q => absurd q (by decide), hR⟩
theorem on_askGroups_3 {R1 : am_M → Prop} {s s1 t : am_M} {a1 a2 a3 : Int32} {v : Int32} {w : Int32} (hC : f_CB_askGroups s a1 a2 a3 = (3, v, s1)) (pC : p_CB_askGroups s a1 a2 a3) (pM : p_MO_askGroups s1 a1 a2 a3) (hM : f_MO_askGroups s1 a1 a2 a3 = (w, t)) (h0 : t 207 0 = 3) (hR : R1 t) : p_LA_askGroups s a1 a2 a3 ∧ p_MO_askGroups (f_LA_askGroups s a1 a2 a3).2 a1 a2 a3 ∧ pu_I R1 (f_LA_askGroups s a1 a2 a3).1 (f_MO_askGroups (f_LA_askGroups s a1 a2 a3).2 a1 a2 a3) ∧ n9 (f_CB_askGroups s a1 a2 a3) := by
  have hL : f_LA_askGroups s a1 a2 a3 = (3, s1) := by unfold f_LA_askGroups; rw [hC]; rfl
  have pL : p_LA_askGroups s a1 a2 a3 := by
    unfold p_LA_askGroups; rw [hC]
    exact ⟨pC, by simp⟩
  rw [hL]
  refine ⟨pL, pM, ?_, fun q => by
    rw [hC] at q
    exact absurd (show (3 : Nat) = 0 from q) (by decide)⟩
  show pu_I R1 3 (f_MO_askGroups s1 a1 a2 a3)
  rw [hM]; exact ⟨h0, fun q => absurd q (by decide), hR⟩
theorem og_askCross {R1 : am_M → Prop} {s s1 t : am_M} {a1 a2 a3 a4 : Int32} {v : Int32} {w : Int32} (hC : f_CB_askCross s a1 a2 a3 a4 = (0, v, s1)) (pC : p_CB_askCross s a1 a2 a3 a4) (pM : p_MO_askCross (am_set s1 262 0 v) a1 a2 a3 a4) (hM : f_MO_askCross (am_set s1 262 0 v) a1 a2 a3 a4 = (w, t)) (h0 : t 207 0 = 0) (h2 : t 262 0 = w) (hR : R1 t) (hn : v ≠ -9999999) : p_LA_askCross s a1 a2 a3 a4 ∧ p_MO_askCross (f_LA_askCross s a1 a2 a3 a4).2 a1 a2 a3 a4 ∧ pu_I R1 (f_LA_askCross s a1 a2 a3 a4).1 (f_MO_askCross (f_LA_askCross s a1 a2 a3 a4).2 a1 a2 a3 a4) ∧ n9 (f_CB_askCross s a1 a2 a3 a4) := by
  have hL : f_LA_askCross s a1 a2 a3 a4 = (0, am_set s1 262 0 v) := by
    unfold f_LA_askCross; rw [hC]; rfl
  have pL : p_LA_askCross s a1 a2 a3 a4 := by
    unfold p_LA_askCross; rw [hC]
    exact ⟨pC, by simp, fun _ => ⟨vp_in_nI (n := 0) (by decide) (by decide), trivial⟩, fun q => absurd rfl q⟩
  rw [hL]
  refine ⟨pL, pM, ?_, fun _ => by rw [hC]; exact hn⟩
  show pu_I R1 0 (f_MO_askCross (am_set s1 262 0 v) a1 a2 a3 a4)
  rw [hM]; exact ⟨h0, fun _ => h2, hR⟩
theorem on_askCross_1 {R1 : am_M → Prop} {s s1 t : am_M} {a1 a2 a3 a4 : Int32} {v : Int32} {w : Int32} (hC : f_CB_askCross s a1 a2 a3 a4 = (1, v, s1)) (pC : p_CB_askCross s a1 a2 a3 a4) (pM : p_MO_askCross s1 a1 a2 a3 a4) (hM : f_MO_askCross s1 a1 a2 a3 a4 = (w, t)) (h0 : t 207 0 = 1) (hR : R1 t) : p_LA_askCross s a1 a2 a3 a4 ∧ p_MO_askCross (f_LA_askCross s a1 a2 a3 a4).2 a1 a2 a3 a4 ∧ pu_I R1 (f_LA_askCross s a1 a2 a3 a4).1 (f_MO_askCross (f_LA_askCross s a1 a2 a3 a4).2 a1 a2 a3 a4) ∧ n9 (f_CB_askCross s a1 a2 a3 a4) := by
  have hL : f_LA_askCross s a1 a2 a3 a4 = (1, s1) := by unfold f_LA_askCross; rw [hC]; rfl
  have pL : p_LA_askCross s a1 a2 a3 a4 := by
    unfold p_LA_askCross; rw [hC]
    exact ⟨pC, by simp⟩
  rw [hL]
  refine ⟨pL, pM, ?_, fun q => by
    rw [hC] at q
    exact absurd (show (1 : Nat) = 0 from q) (by decide)⟩
  show pu_I R1 1 (f_MO_askCross s1 a1 a2 a3 a4)
  rw [hM]; exact ⟨h0, fun q => absurd q (by decide), hR⟩
theorem on_askCross_2 {R1 : am_M → Prop} {s s1 t : am_M} {a1 a2 a3 a4 : Int32} {v : Int32} {w : Int32} (hC : f_CB_askCross s a1 a2 a3 a4 = (2, v, s1)) (pC : p_CB_askCross s a1 a2 a3 a4) (pM : p_MO_askCross s1 a1 a2 a3 a4) (hM : f_MO_askCross s1 a1 a2 a3 a4 = (w, t)) (h0 : t 207 0 = 2) (hR : R1 t) : p_LA_askCross s a1 a2 a3 a4 ∧ p_MO_askCross (f_LA_askCross s a1 a2 a3 a4).2 a1 a2 a3 a4 ∧ pu_I R1 (f_LA_askCross s a1 a2 a3 a4).1 (f_MO_askCross (f_LA_askCross s a1 a2 a3 a4).2 a1 a2 a3 a4) ∧ n9 (f_CB_askCross s a1 a2 a3 a4) := by
  have hL : f_LA_askCross s a1 a2 a3 a4 = (2, s1) := by unfold f_LA_askCross; rw [hC]; rfl
  have pL : p_LA_askCross s a1 a2 a3 a4 := by
    unfold p_LA_askCross; rw [hC]
    exact ⟨pC, by simp⟩
  rw [hL]
  refine ⟨pL, pM, ?_, fun q => by
    rw [hC] at q
    exact absurd (show (2 : Nat) = 0 from q) (by decide)⟩
  show pu_I R1 2 (f_MO_askCross s1 a1 a2 a3 a4)
  rw [hM]; exact ⟨h0, fun q => absurd q (by decide), hR⟩
theorem on_askCross_3 {R1 : am_M → Prop} {s s1 t : am_M} {a1 a2 a3 a4 : Int32} {v : Int32} {w : Int32} (hC : f_CB_askCross s a1 a2 a3 a4 = (3, v, s1)) (pC : p_CB_askCross s a1 a2 a3 a4) (pM : p_MO_askCross s1 a1 a2 a3 a4) (hM : f_MO_askCross s1 a1 a2 a3 a4 = (w, t)) (h0 : t 207 0 = 3) (hR : R1 t) : p_LA_askCross s a1 a2 a3 a4 ∧ p_MO_askCross (f_LA_askCross s a1 a2 a3 a4).2 a1 a2 a3 a4 ∧ pu_I R1 (f_LA_askCross s a1 a2 a3 a4).1 (f_MO_askCross (f_LA_askCross s a1 a2 a3 a4).2 a1 a2 a3 a4) ∧ n9 (f_CB_askCross s a1 a2 a3 a4) := by
  have hL : f_LA_askCross s a1 a2 a3 a4 = (3, s1) := by unfold f_LA_askCross; rw [hC]; rfl
  have pL : p_LA_askCross s a1 a2 a3 a4 := by
    unfold p_LA_askCross; rw [hC]
    exact ⟨pC, by simp⟩
  rw [hL]
  refine ⟨pL, pM, ?_, fun q => by
    rw [hC] at q
    exact absurd (show (3 : Nat) = 0 from q) (by decide)⟩
  show pu_I R1 3 (f_MO_askCross s1 a1 a2 a3 a4)
  rw [hM]; exact ⟨h0, fun q => absurd q (by decide), hR⟩
theorem og_answers {R1 : am_M → Prop} {s s1 t : am_M} {a1 : Int32} {v : Int32} {w : Int32} (hC : f_CB_answers s a1 = (0, v, s1)) (pC : p_CB_answers s a1) (pM : p_MO_answers (am_set s1 262 0 v) a1) (hM : f_MO_answers (am_set s1 262 0 v) a1 = (w, t)) (h0 : t 207 0 = 0) (h2 : t 262 0 = w) (hR : R1 t) : p_LA_answers s a1 ∧ p_MO_answers (f_LA_answers s a1).2 a1 ∧ pu_I R1 (f_LA_answers s a1).1 (f_MO_answers (f_LA_answers s a1).2 a1) := by
  have hL : f_LA_answers s a1 = (0, am_set s1 262 0 v) := by
    unfold f_LA_answers; rw [hC]; rfl
  have pL : p_LA_answers s a1 := by
    unfold p_LA_answers; rw [hC]
    exact ⟨pC, by simp, fun _ => ⟨vp_in_nI (n := 0) (by decide) (by decide), trivial⟩, fun q => absurd rfl q⟩
  rw [hL]
  refine ⟨pL, pM, ?_⟩
  show pu_I R1 0 (f_MO_answers (am_set s1 262 0 v) a1)
  rw [hM]; exact ⟨h0, fun _ => h2, hR⟩
theorem on_answers_1 {R1 : am_M → Prop} {s s1 t : am_M} {a1 : Int32} {v : Int32} {w : Int32} (hC : f_CB_answers s a1 = (1, v, s1)) (pC : p_CB_answers s a1) (pM : p_MO_answers s1 a1) (hM : f_MO_answers s1 a1 = (w, t)) (h0 : t 207 0 = 1) (hR : R1 t) : p_LA_answers s a1 ∧ p_MO_answers (f_LA_answers s a1).2 a1 ∧ pu_I R1 (f_LA_answers s a1).1 (f_MO_answers (f_LA_answers s a1).2 a1) := by
  have hL : f_LA_answers s a1 = (1, s1) := by unfold f_LA_answers; rw [hC]; rfl
  have pL : p_LA_answers s a1 := by
    unfold p_LA_answers; rw [hC]
    exact ⟨pC, by simp⟩
  rw [hL]
  refine ⟨pL, pM, ?_⟩
  show pu_I R1 1 (f_MO_answers s1 a1)
  rw [hM]; exact ⟨h0, fun q => absurd q (by decide), hR⟩
theorem og_columns {R1 : am_M → Prop} {s s1 t : am_M} {a1 : Int32} {v : Int32} {w : Int32} (hC : f_CB_columns s a1 = (0, v, s1)) (pC : p_CB_columns s a1) (pM : p_MO_columns (am_set s1 262 0 v) a1) (hM : f_MO_columns (am_set s1 262 0 v) a1 = (w, t)) (h0 : t 207 0 = 0) (h2 : t 262 0 = w) (hR : R1 t) : p_LA_columns s a1 ∧ p_MO_columns (f_LA_columns s a1).2 a1 ∧ pu_I R1 (f_LA_columns s a1).1 (f_MO_columns (f_LA_columns s a1).2 a1) := by
  have hL : f_LA_columns s a1 = (0, am_set s1 262 0 v) := by
    unfold f_LA_columns; rw [hC]; rfl
  have pL : p_LA_columns s a1 := by
    unfold p_LA_columns; rw [hC]
    exact ⟨pC, by simp, fun _ => ⟨vp_in_nI (n := 0) (by decide) (by decide), trivial⟩, fun q => absurd rfl q⟩
  rw [hL]
  refine ⟨pL, pM, ?_⟩
  show pu_I R1 0 (f_MO_columns (am_set s1 262 0 v) a1)
  rw [hM]; exact ⟨h0, fun _ => h2, hR⟩
theorem on_columns_1 {R1 : am_M → Prop} {s s1 t : am_M} {a1 : Int32} {v : Int32} {w : Int32} (hC : f_CB_columns s a1 = (1, v, s1)) (pC : p_CB_columns s a1) (pM : p_MO_columns s1 a1) (hM : f_MO_columns s1 a1 = (w, t)) (h0 : t 207 0 = 1) (hR : R1 t) : p_LA_columns s a1 ∧ p_MO_columns (f_LA_columns s a1).2 a1 ∧ pu_I R1 (f_LA_columns s a1).1 (f_MO_columns (f_LA_columns s a1).2 a1) := by
  have hL : f_LA_columns s a1 = (1, s1) := by unfold f_LA_columns; rw [hC]; rfl
  have pL : p_LA_columns s a1 := by
    unfold p_LA_columns; rw [hC]
    exact ⟨pC, by simp⟩
  rw [hL]
  refine ⟨pL, pM, ?_⟩
  show pu_I R1 1 (f_MO_columns s1 a1)
  rw [hM]; exact ⟨h0, fun q => absurd q (by decide), hR⟩
theorem og_answer {R1 : am_M → Prop} {s s1 t : am_M} {a1 a2 a3 : Int32} {v : Int32} {w : Int32} (hC : f_CB_answer s a1 a2 a3 = (0, v, s1)) (pC : p_CB_answer s a1 a2 a3) (pM : p_MO_answer (am_set s1 262 0 v) a1 a2 a3) (hM : f_MO_answer (am_set s1 262 0 v) a1 a2 a3 = (w, t)) (h0 : t 207 0 = 0) (h2 : t 262 0 = w) (hR : R1 t) : p_LA_answer s a1 a2 a3 ∧ p_MO_answer (f_LA_answer s a1 a2 a3).2 a1 a2 a3 ∧ pu_I R1 (f_LA_answer s a1 a2 a3).1 (f_MO_answer (f_LA_answer s a1 a2 a3).2 a1 a2 a3) := by
  have hL : f_LA_answer s a1 a2 a3 = (0, am_set s1 262 0 v) := by
    unfold f_LA_answer; rw [hC]; rfl
  have pL : p_LA_answer s a1 a2 a3 := by
    unfold p_LA_answer; rw [hC]
    exact ⟨pC, by simp, fun _ => ⟨vp_in_nI (n := 0) (by decide) (by decide), trivial⟩, fun q => absurd rfl q⟩
  rw [hL]
  refine ⟨pL, pM, ?_⟩
  show pu_I R1 0 (f_MO_answer (am_set s1 262 0 v) a1 a2 a3)
  rw [hM]; exact ⟨h0, fun _ => h2, hR⟩
theorem on_answer_1 {R1 : am_M → Prop} {s s1 t : am_M} {a1 a2 a3 : Int32} {v : Int32} {w : Int32} (hC : f_CB_answer s a1 a2 a3 = (1, v, s1)) (pC : p_CB_answer s a1 a2 a3) (pM : p_MO_answer s1 a1 a2 a3) (hM : f_MO_answer s1 a1 a2 a3 = (w, t)) (h0 : t 207 0 = 1) (hR : R1 t) : p_LA_answer s a1 a2 a3 ∧ p_MO_answer (f_LA_answer s a1 a2 a3).2 a1 a2 a3 ∧ pu_I R1 (f_LA_answer s a1 a2 a3).1 (f_MO_answer (f_LA_answer s a1 a2 a3).2 a1 a2 a3) := by
  have hL : f_LA_answer s a1 a2 a3 = (1, s1) := by unfold f_LA_answer; rw [hC]; rfl
  have pL : p_LA_answer s a1 a2 a3 := by
    unfold p_LA_answer; rw [hC]
    exact ⟨pC, by simp⟩
  rw [hL]
  refine ⟨pL, pM, ?_⟩
  show pu_I R1 1 (f_MO_answer s1 a1 a2 a3)
  rw [hM]; exact ⟨h0, fun q => absurd q (by decide), hR⟩
theorem og_keyOf {R1 : am_M → Prop} {s s1 t : am_M} {a1 a2 : Int32} {v : Int32} {w : Int32} (hC : f_CB_keyOf s a1 a2 = (0, v, s1)) (pC : p_CB_keyOf s a1 a2) (pM : p_MO_keyOf (am_set s1 262 0 v) a1 a2) (hM : f_MO_keyOf (am_set s1 262 0 v) a1 a2 = (w, t)) (h0 : t 207 0 = 0) (h2 : t 262 0 = w) (hR : R1 t) : p_LA_keyOf s a1 a2 ∧ p_MO_keyOf (f_LA_keyOf s a1 a2).2 a1 a2 ∧ pu_I R1 (f_LA_keyOf s a1 a2).1 (f_MO_keyOf (f_LA_keyOf s a1 a2).2 a1 a2) := by
  have hL : f_LA_keyOf s a1 a2 = (0, am_set s1 262 0 v) := by
    unfold f_LA_keyOf; rw [hC]; rfl
  have pL : p_LA_keyOf s a1 a2 := by
    unfold p_LA_keyOf; rw [hC]
    exact ⟨pC, by simp, fun _ => ⟨vp_in_nI (n := 0) (by decide) (by decide), trivial⟩, fun q => absurd rfl q⟩
  rw [hL]
  refine ⟨pL, pM, ?_⟩
  show pu_I R1 0 (f_MO_keyOf (am_set s1 262 0 v) a1 a2)
  rw [hM]; exact ⟨h0, fun _ => h2, hR⟩
theorem on_keyOf_1 {R1 : am_M → Prop} {s s1 t : am_M} {a1 a2 : Int32} {v : Int32} {w : Int32} (hC : f_CB_keyOf s a1 a2 = (1, v, s1)) (pC : p_CB_keyOf s a1 a2) (pM : p_MO_keyOf s1 a1 a2) (hM : f_MO_keyOf s1 a1 a2 = (w, t)) (h0 : t 207 0 = 1) (hR : R1 t) : p_LA_keyOf s a1 a2 ∧ p_MO_keyOf (f_LA_keyOf s a1 a2).2 a1 a2 ∧ pu_I R1 (f_LA_keyOf s a1 a2).1 (f_MO_keyOf (f_LA_keyOf s a1 a2).2 a1 a2) := by
  have hL : f_LA_keyOf s a1 a2 = (1, s1) := by unfold f_LA_keyOf; rw [hC]; rfl
  have pL : p_LA_keyOf s a1 a2 := by
    unfold p_LA_keyOf; rw [hC]
    exact ⟨pC, by simp⟩
  rw [hL]
  refine ⟨pL, pM, ?_⟩
  show pu_I R1 1 (f_MO_keyOf s1 a1 a2)
  rw [hM]; exact ⟨h0, fun q => absurd q (by decide), hR⟩
theorem on_keyOf_2 {R1 : am_M → Prop} {s s1 t : am_M} {a1 a2 : Int32} {v : Int32} {w : Int32} (hC : f_CB_keyOf s a1 a2 = (2, v, s1)) (pC : p_CB_keyOf s a1 a2) (pM : p_MO_keyOf s1 a1 a2) (hM : f_MO_keyOf s1 a1 a2 = (w, t)) (h0 : t 207 0 = 2) (hR : R1 t) : p_LA_keyOf s a1 a2 ∧ p_MO_keyOf (f_LA_keyOf s a1 a2).2 a1 a2 ∧ pu_I R1 (f_LA_keyOf s a1 a2).1 (f_MO_keyOf (f_LA_keyOf s a1 a2).2 a1 a2) := by
  have hL : f_LA_keyOf s a1 a2 = (2, s1) := by unfold f_LA_keyOf; rw [hC]; rfl
  have pL : p_LA_keyOf s a1 a2 := by
    unfold p_LA_keyOf; rw [hC]
    exact ⟨pC, by simp⟩
  rw [hL]
  refine ⟨pL, pM, ?_⟩
  show pu_I R1 2 (f_MO_keyOf s1 a1 a2)
  rw [hM]; exact ⟨h0, fun q => absurd q (by decide), hR⟩
theorem og_target {R1 : am_M → Prop} {s s1 t : am_M} {a1 a2 a3 : Int32} {v : Int32} {w : Int32} (hC : f_CB_target s a1 a2 a3 = (0, v, s1)) (pC : p_CB_target s a1 a2 a3) (pM : p_MO_target (am_set s1 262 0 v) a1 a2 a3) (hM : f_MO_target (am_set s1 262 0 v) a1 a2 a3 = (w, t)) (h0 : t 207 0 = 0) (h2 : t 262 0 = w) (hR : R1 t) : p_LA_target s a1 a2 a3 ∧ p_MO_target (f_LA_target s a1 a2 a3).2 a1 a2 a3 ∧ pu_I R1 (f_LA_target s a1 a2 a3).1 (f_MO_target (f_LA_target s a1 a2 a3).2 a1 a2 a3) := by
  have hL : f_LA_target s a1 a2 a3 = (0, am_set s1 262 0 v) := by
    unfold f_LA_target; rw [hC]; rfl
  have pL : p_LA_target s a1 a2 a3 := by
    unfold p_LA_target; rw [hC]
    exact ⟨pC, by simp, fun _ => ⟨vp_in_nI (n := 0) (by decide) (by decide), trivial⟩, fun q => absurd rfl q⟩
  rw [hL]
  refine ⟨pL, pM, ?_⟩
  show pu_I R1 0 (f_MO_target (am_set s1 262 0 v) a1 a2 a3)
  rw [hM]; exact ⟨h0, fun _ => h2, hR⟩
theorem on_target_1 {R1 : am_M → Prop} {s s1 t : am_M} {a1 a2 a3 : Int32} {v : Int32} {w : Int32} (hC : f_CB_target s a1 a2 a3 = (1, v, s1)) (pC : p_CB_target s a1 a2 a3) (pM : p_MO_target s1 a1 a2 a3) (hM : f_MO_target s1 a1 a2 a3 = (w, t)) (h0 : t 207 0 = 1) (hR : R1 t) : p_LA_target s a1 a2 a3 ∧ p_MO_target (f_LA_target s a1 a2 a3).2 a1 a2 a3 ∧ pu_I R1 (f_LA_target s a1 a2 a3).1 (f_MO_target (f_LA_target s a1 a2 a3).2 a1 a2 a3) := by
  have hL : f_LA_target s a1 a2 a3 = (1, s1) := by unfold f_LA_target; rw [hC]; rfl
  have pL : p_LA_target s a1 a2 a3 := by
    unfold p_LA_target; rw [hC]
    exact ⟨pC, by simp⟩
  rw [hL]
  refine ⟨pL, pM, ?_⟩
  show pu_I R1 1 (f_MO_target s1 a1 a2 a3)
  rw [hM]; exact ⟨h0, fun q => absurd q (by decide), hR⟩
theorem og_write {R1 : am_M → Prop} {s s1 t : am_M} {a1 a2 a3 a4 : Int32} {v : Int32} {w : Int32} (hC : f_CB_write s a1 a2 a3 a4 = (0, v, s1)) (pC : p_CB_write s a1 a2 a3 a4) (pM : p_MO_write (am_set s1 262 0 (if v = 0 then 0 else 1)) a1 a2 a3 a4) (hM : f_MO_write (am_set s1 262 0 (if v = 0 then 0 else 1)) a1 a2 a3 a4 = (w, t)) (h0 : t 207 0 = 0) (h2 : t 262 0 = if w = 0 then 0 else 1) (hR : R1 t) : p_LA_write s a1 a2 a3 a4 ∧ p_MO_write (f_LA_write s a1 a2 a3 a4).2 a1 a2 a3 a4 ∧ pu_B R1 (f_LA_write s a1 a2 a3 a4).1 (f_MO_write (f_LA_write s a1 a2 a3 a4).2 a1 a2 a3 a4) := by
  have hL : f_LA_write s a1 a2 a3 a4 = (0, am_set s1 262 0 (if v = 0 then 0 else 1)) := by
    unfold f_LA_write; rw [hC]
    by_cases c : v = 0
    · simp [c]
    · simp [c]
  have pL : p_LA_write s a1 a2 a3 a4 := by
    unfold p_LA_write; rw [hC]
    exact ⟨pC, by simp, fun _ => ⟨fun _ => ⟨vp_in_nI (n := 0) (by decide) (by decide), trivial⟩, fun _ => ⟨vp_in_nI (n := 0) (by decide) (by decide), trivial⟩⟩, fun q => absurd rfl q⟩
  rw [hL]
  refine ⟨pL, pM, ?_⟩
  show pu_B R1 0 (f_MO_write (am_set s1 262 0 (if v = 0 then 0 else 1)) a1 a2 a3 a4)
  rw [hM]; exact ⟨h0, fun _ => h2, hR⟩
theorem on_write_1 {R1 : am_M → Prop} {s s1 t : am_M} {a1 a2 a3 a4 : Int32} {v : Int32} {w : Int32} (hC : f_CB_write s a1 a2 a3 a4 = (1, v, s1)) (pC : p_CB_write s a1 a2 a3 a4) (pM : p_MO_write s1 a1 a2 a3 a4) (hM : f_MO_write s1 a1 a2 a3 a4 = (w, t)) (h0 : t 207 0 = 1) (hR : R1 t) : p_LA_write s a1 a2 a3 a4 ∧ p_MO_write (f_LA_write s a1 a2 a3 a4).2 a1 a2 a3 a4 ∧ pu_B R1 (f_LA_write s a1 a2 a3 a4).1 (f_MO_write (f_LA_write s a1 a2 a3 a4).2 a1 a2 a3 a4) := by
  have hL : f_LA_write s a1 a2 a3 a4 = (1, s1) := by unfold f_LA_write; rw [hC]; rfl
  have pL : p_LA_write s a1 a2 a3 a4 := by
    unfold p_LA_write; rw [hC]
    exact ⟨pC, by simp⟩
  rw [hL]
  refine ⟨pL, pM, ?_⟩
  show pu_B R1 1 (f_MO_write s1 a1 a2 a3 a4)
  rw [hM]; exact ⟨h0, fun q => absurd q (by decide), hR⟩
theorem on_write_2 {R1 : am_M → Prop} {s s1 t : am_M} {a1 a2 a3 a4 : Int32} {v : Int32} {w : Int32} (hC : f_CB_write s a1 a2 a3 a4 = (2, v, s1)) (pC : p_CB_write s a1 a2 a3 a4) (pM : p_MO_write s1 a1 a2 a3 a4) (hM : f_MO_write s1 a1 a2 a3 a4 = (w, t)) (h0 : t 207 0 = 2) (hR : R1 t) : p_LA_write s a1 a2 a3 a4 ∧ p_MO_write (f_LA_write s a1 a2 a3 a4).2 a1 a2 a3 a4 ∧ pu_B R1 (f_LA_write s a1 a2 a3 a4).1 (f_MO_write (f_LA_write s a1 a2 a3 a4).2 a1 a2 a3 a4) := by
  have hL : f_LA_write s a1 a2 a3 a4 = (2, s1) := by unfold f_LA_write; rw [hC]; rfl
  have pL : p_LA_write s a1 a2 a3 a4 := by
    unfold p_LA_write; rw [hC]
    exact ⟨pC, by simp⟩
  rw [hL]
  refine ⟨pL, pM, ?_⟩
  show pu_B R1 2 (f_MO_write s1 a1 a2 a3 a4)
  rw [hM]; exact ⟨h0, fun q => absurd q (by decide), hR⟩
theorem og_addAct {R1 : am_M → Prop} {s s1 t : am_M} {v : Int32} {w : Int32} (hC : f_CB_addAct s = (0, v, s1)) (hM : f_MO_addAct (am_set s1 262 0 v) = (w, t)) (h0 : t 207 0 = 0) (h2 : t 262 0 = w) (hR : R1 t) : p_LA_addAct s ∧ pu_I R1 (f_LA_addAct s).1 (f_MO_addAct (f_LA_addAct s).2) := by
  have hL : f_LA_addAct s = (0, am_set s1 262 0 v) := by
    unfold f_LA_addAct; rw [hC]; rfl
  have pL : p_LA_addAct s := by
    unfold p_LA_addAct; rw [hC]
    exact ⟨by simp, fun _ => ⟨vp_in_nI (n := 0) (by decide) (by decide), trivial⟩, fun q => absurd rfl q⟩
  rw [hL]
  refine ⟨pL, ?_⟩
  show pu_I R1 0 (f_MO_addAct (am_set s1 262 0 v))
  rw [hM]; exact ⟨h0, fun _ => h2, hR⟩
theorem on_addAct_1 {R1 : am_M → Prop} {s s1 t : am_M} {v : Int32} {w : Int32} (hC : f_CB_addAct s = (3, v, s1)) (hM : f_MO_addAct s1 = (w, t)) (h0 : t 207 0 = 1) (hR : R1 t) : p_LA_addAct s ∧ pu_I R1 (f_LA_addAct s).1 (f_MO_addAct (f_LA_addAct s).2) := by
  have hL : f_LA_addAct s = (1, s1) := by unfold f_LA_addAct; rw [hC]; rfl
  have pL : p_LA_addAct s := by
    unfold p_LA_addAct; rw [hC]
    exact by simp
  rw [hL]
  refine ⟨pL, ?_⟩
  show pu_I R1 1 (f_MO_addAct s1)
  rw [hM]; exact ⟨h0, fun q => absurd q (by decide), hR⟩
theorem og_stepPut {R1 : am_M → Prop} {s s1 t : am_M} {a1 a2 a3 a4 : Int32} {v : Int32} {w : Int32} (hC : f_CB_stepPut s a1 a2 a3 a4 = (0, v, s1)) (pC : p_CB_stepPut s a1 a2 a3 a4) (pM : p_MO_stepPut (am_set s1 262 0 v) a1 a2 a3 a4) (hM : f_MO_stepPut (am_set s1 262 0 v) a1 a2 a3 a4 = (w, t)) (h0 : t 207 0 = 0) (h2 : t 262 0 = w) (hR : R1 t) (hn : v ≠ -9999999) : p_LA_stepPut s a1 a2 a3 a4 ∧ p_MO_stepPut (f_LA_stepPut s a1 a2 a3 a4).2 a1 a2 a3 a4 ∧ pu_I R1 (f_LA_stepPut s a1 a2 a3 a4).1 (f_MO_stepPut (f_LA_stepPut s a1 a2 a3 a4).2 a1 a2 a3 a4) ∧ n9 (f_CB_stepPut s a1 a2 a3 a4) := by
  have hL : f_LA_stepPut s a1 a2 a3 a4 = (0, am_set s1 262 0 v) := by
    unfold f_LA_stepPut; rw [hC]; rfl
  have pL : p_LA_stepPut s a1 a2 a3 a4 := by
    unfold p_LA_stepPut; rw [hC]
    exact ⟨pC, by simp, fun _ => ⟨vp_in_nI (n := 0) (by decide) (by decide), trivial⟩, fun q => absurd rfl q⟩
  rw [hL]
  refine ⟨pL, pM, ?_, fun _ => by rw [hC]; exact hn⟩
  show pu_I R1 0 (f_MO_stepPut (am_set s1 262 0 v) a1 a2 a3 a4)
  rw [hM]; exact ⟨h0, fun _ => h2, hR⟩
theorem on_stepPut_1 {R1 : am_M → Prop} {s s1 t : am_M} {a1 a2 a3 a4 : Int32} {v : Int32} {w : Int32} (hC : f_CB_stepPut s a1 a2 a3 a4 = (1, v, s1)) (pC : p_CB_stepPut s a1 a2 a3 a4) (pM : p_MO_stepPut s1 a1 a2 a3 a4) (hM : f_MO_stepPut s1 a1 a2 a3 a4 = (w, t)) (h0 : t 207 0 = 1) (hR : R1 t) : p_LA_stepPut s a1 a2 a3 a4 ∧ p_MO_stepPut (f_LA_stepPut s a1 a2 a3 a4).2 a1 a2 a3 a4 ∧ pu_I R1 (f_LA_stepPut s a1 a2 a3 a4).1 (f_MO_stepPut (f_LA_stepPut s a1 a2 a3 a4).2 a1 a2 a3 a4) ∧ n9 (f_CB_stepPut s a1 a2 a3 a4) := by
  have hL : f_LA_stepPut s a1 a2 a3 a4 = (1, s1) := by unfold f_LA_stepPut; rw [hC]; rfl
  have pL : p_LA_stepPut s a1 a2 a3 a4 := by
    unfold p_LA_stepPut; rw [hC]
    exact ⟨pC, by simp⟩
  rw [hL]
  refine ⟨pL, pM, ?_, fun q => by
    rw [hC] at q
    exact absurd (show (1 : Nat) = 0 from q) (by decide)⟩
  show pu_I R1 1 (f_MO_stepPut s1 a1 a2 a3 a4)
  rw [hM]; exact ⟨h0, fun q => absurd q (by decide), hR⟩
theorem on_stepPut_2 {R1 : am_M → Prop} {s s1 t : am_M} {a1 a2 a3 a4 : Int32} {v : Int32} {w : Int32} (hC : f_CB_stepPut s a1 a2 a3 a4 = (2, v, s1)) (pC : p_CB_stepPut s a1 a2 a3 a4) (pM : p_MO_stepPut s1 a1 a2 a3 a4) (hM : f_MO_stepPut s1 a1 a2 a3 a4 = (w, t)) (h0 : t 207 0 = 2) (hR : R1 t) : p_LA_stepPut s a1 a2 a3 a4 ∧ p_MO_stepPut (f_LA_stepPut s a1 a2 a3 a4).2 a1 a2 a3 a4 ∧ pu_I R1 (f_LA_stepPut s a1 a2 a3 a4).1 (f_MO_stepPut (f_LA_stepPut s a1 a2 a3 a4).2 a1 a2 a3 a4) ∧ n9 (f_CB_stepPut s a1 a2 a3 a4) := by
  have hL : f_LA_stepPut s a1 a2 a3 a4 = (2, s1) := by unfold f_LA_stepPut; rw [hC]; rfl
  have pL : p_LA_stepPut s a1 a2 a3 a4 := by
    unfold p_LA_stepPut; rw [hC]
    exact ⟨pC, by simp⟩
  rw [hL]
  refine ⟨pL, pM, ?_, fun q => by
    rw [hC] at q
    exact absurd (show (2 : Nat) = 0 from q) (by decide)⟩
  show pu_I R1 2 (f_MO_stepPut s1 a1 a2 a3 a4)
  rw [hM]; exact ⟨h0, fun q => absurd q (by decide), hR⟩
theorem on_stepPut_3 {R1 : am_M → Prop} {s s1 t : am_M} {a1 a2 a3 a4 : Int32} {v : Int32} {w : Int32} (hC : f_CB_stepPut s a1 a2 a3 a4 = (3, v, s1)) (pC : p_CB_stepPut s a1 a2 a3 a4) (pM : p_MO_stepPut s1 a1 a2 a3 a4) (hM : f_MO_stepPut s1 a1 a2 a3 a4 = (w, t)) (h0 : t 207 0 = 3) (hR : R1 t) : p_LA_stepPut s a1 a2 a3 a4 ∧ p_MO_stepPut (f_LA_stepPut s a1 a2 a3 a4).2 a1 a2 a3 a4 ∧ pu_I R1 (f_LA_stepPut s a1 a2 a3 a4).1 (f_MO_stepPut (f_LA_stepPut s a1 a2 a3 a4).2 a1 a2 a3 a4) ∧ n9 (f_CB_stepPut s a1 a2 a3 a4) := by
  have hL : f_LA_stepPut s a1 a2 a3 a4 = (3, s1) := by unfold f_LA_stepPut; rw [hC]; rfl
  have pL : p_LA_stepPut s a1 a2 a3 a4 := by
    unfold p_LA_stepPut; rw [hC]
    exact ⟨pC, by simp⟩
  rw [hL]
  refine ⟨pL, pM, ?_, fun q => by
    rw [hC] at q
    exact absurd (show (3 : Nat) = 0 from q) (by decide)⟩
  show pu_I R1 3 (f_MO_stepPut s1 a1 a2 a3 a4)
  rw [hM]; exact ⟨h0, fun q => absurd q (by decide), hR⟩
theorem og_stepAdd {R1 : am_M → Prop} {s s1 t : am_M} {a1 a2 : Int32} {v : Int32} {w : Int32} (hC : f_CB_stepAdd s a1 a2 = (0, v, s1)) (pC : p_CB_stepAdd s a1 a2) (pM : p_MO_stepAdd (am_set s1 262 0 v) a1 a2) (hM : f_MO_stepAdd (am_set s1 262 0 v) a1 a2 = (w, t)) (h0 : t 207 0 = 0) (h2 : t 262 0 = w) (hR : R1 t) (hn : v ≠ -9999999) : p_LA_stepAdd s a1 a2 ∧ p_MO_stepAdd (f_LA_stepAdd s a1 a2).2 a1 a2 ∧ pu_I R1 (f_LA_stepAdd s a1 a2).1 (f_MO_stepAdd (f_LA_stepAdd s a1 a2).2 a1 a2) ∧ n9 (f_CB_stepAdd s a1 a2) := by
  have hL : f_LA_stepAdd s a1 a2 = (0, am_set s1 262 0 v) := by
    unfold f_LA_stepAdd; rw [hC]; rfl
  have pL : p_LA_stepAdd s a1 a2 := by
    unfold p_LA_stepAdd; rw [hC]
    exact ⟨pC, by simp, fun _ => ⟨vp_in_nI (n := 0) (by decide) (by decide), trivial⟩, fun q => absurd rfl q⟩
  rw [hL]
  refine ⟨pL, pM, ?_, fun _ => by rw [hC]; exact hn⟩
  show pu_I R1 0 (f_MO_stepAdd (am_set s1 262 0 v) a1 a2)
  rw [hM]; exact ⟨h0, fun _ => h2, hR⟩
theorem on_stepAdd_1 {R1 : am_M → Prop} {s s1 t : am_M} {a1 a2 : Int32} {v : Int32} {w : Int32} (hC : f_CB_stepAdd s a1 a2 = (1, v, s1)) (pC : p_CB_stepAdd s a1 a2) (pM : p_MO_stepAdd s1 a1 a2) (hM : f_MO_stepAdd s1 a1 a2 = (w, t)) (h0 : t 207 0 = 1) (hR : R1 t) : p_LA_stepAdd s a1 a2 ∧ p_MO_stepAdd (f_LA_stepAdd s a1 a2).2 a1 a2 ∧ pu_I R1 (f_LA_stepAdd s a1 a2).1 (f_MO_stepAdd (f_LA_stepAdd s a1 a2).2 a1 a2) ∧ n9 (f_CB_stepAdd s a1 a2) := by
  have hL : f_LA_stepAdd s a1 a2 = (1, s1) := by unfold f_LA_stepAdd; rw [hC]; rfl
  have pL : p_LA_stepAdd s a1 a2 := by
    unfold p_LA_stepAdd; rw [hC]
    exact ⟨pC, by simp⟩
  rw [hL]
  refine ⟨pL, pM, ?_, fun q => by
    rw [hC] at q
    exact absurd (show (1 : Nat) = 0 from q) (by decide)⟩
  show pu_I R1 1 (f_MO_stepAdd s1 a1 a2)
  rw [hM]; exact ⟨h0, fun q => absurd q (by decide), hR⟩
theorem on_stepAdd_2 {R1 : am_M → Prop} {s s1 t : am_M} {a1 a2 : Int32} {v : Int32} {w : Int32} (hC : f_CB_stepAdd s a1 a2 = (3, v, s1)) (pC : p_CB_stepAdd s a1 a2) (pM : p_MO_stepAdd s1 a1 a2) (hM : f_MO_stepAdd s1 a1 a2 = (w, t)) (h0 : t 207 0 = 2) (hR : R1 t) : p_LA_stepAdd s a1 a2 ∧ p_MO_stepAdd (f_LA_stepAdd s a1 a2).2 a1 a2 ∧ pu_I R1 (f_LA_stepAdd s a1 a2).1 (f_MO_stepAdd (f_LA_stepAdd s a1 a2).2 a1 a2) ∧ n9 (f_CB_stepAdd s a1 a2) := by
  have hL : f_LA_stepAdd s a1 a2 = (2, s1) := by unfold f_LA_stepAdd; rw [hC]; rfl
  have pL : p_LA_stepAdd s a1 a2 := by
    unfold p_LA_stepAdd; rw [hC]
    exact ⟨pC, by simp⟩
  rw [hL]
  refine ⟨pL, pM, ?_, fun q => by
    rw [hC] at q
    exact absurd (show (3 : Nat) = 0 from q) (by decide)⟩
  show pu_I R1 2 (f_MO_stepAdd s1 a1 a2)
  rw [hM]; exact ⟨h0, fun q => absurd q (by decide), hR⟩
theorem og_stepRemove {R1 : am_M → Prop} {s s1 t : am_M} {a1 a2 a3 : Int32} {v : Int32} {w : Int32} (hC : f_CB_stepRemove s a1 a2 a3 = (0, v, s1)) (pC : p_CB_stepRemove s a1 a2 a3) (pM : p_MO_stepRemove (am_set s1 262 0 v) a1 a2 a3) (hM : f_MO_stepRemove (am_set s1 262 0 v) a1 a2 a3 = (w, t)) (h0 : t 207 0 = 0) (h2 : t 262 0 = w) (hR : R1 t) (hn : v ≠ -9999999) : p_LA_stepRemove s a1 a2 a3 ∧ p_MO_stepRemove (f_LA_stepRemove s a1 a2 a3).2 a1 a2 a3 ∧ pu_I R1 (f_LA_stepRemove s a1 a2 a3).1 (f_MO_stepRemove (f_LA_stepRemove s a1 a2 a3).2 a1 a2 a3) ∧ n9 (f_CB_stepRemove s a1 a2 a3) := by
  have hL : f_LA_stepRemove s a1 a2 a3 = (0, am_set s1 262 0 v) := by
    unfold f_LA_stepRemove; rw [hC]; rfl
  have pL : p_LA_stepRemove s a1 a2 a3 := by
    unfold p_LA_stepRemove; rw [hC]
    exact ⟨pC, by simp, fun _ => ⟨vp_in_nI (n := 0) (by decide) (by decide), trivial⟩, fun q => absurd rfl q⟩
  rw [hL]
  refine ⟨pL, pM, ?_, fun _ => by rw [hC]; exact hn⟩
  show pu_I R1 0 (f_MO_stepRemove (am_set s1 262 0 v) a1 a2 a3)
  rw [hM]; exact ⟨h0, fun _ => h2, hR⟩
theorem on_stepRemove_1 {R1 : am_M → Prop} {s s1 t : am_M} {a1 a2 a3 : Int32} {v : Int32} {w : Int32} (hC : f_CB_stepRemove s a1 a2 a3 = (1, v, s1)) (pC : p_CB_stepRemove s a1 a2 a3) (pM : p_MO_stepRemove s1 a1 a2 a3) (hM : f_MO_stepRemove s1 a1 a2 a3 = (w, t)) (h0 : t 207 0 = 1) (hR : R1 t) : p_LA_stepRemove s a1 a2 a3 ∧ p_MO_stepRemove (f_LA_stepRemove s a1 a2 a3).2 a1 a2 a3 ∧ pu_I R1 (f_LA_stepRemove s a1 a2 a3).1 (f_MO_stepRemove (f_LA_stepRemove s a1 a2 a3).2 a1 a2 a3) ∧ n9 (f_CB_stepRemove s a1 a2 a3) := by
  have hL : f_LA_stepRemove s a1 a2 a3 = (1, s1) := by unfold f_LA_stepRemove; rw [hC]; rfl
  have pL : p_LA_stepRemove s a1 a2 a3 := by
    unfold p_LA_stepRemove; rw [hC]
    exact ⟨pC, by simp⟩
  rw [hL]
  refine ⟨pL, pM, ?_, fun q => by
    rw [hC] at q
    exact absurd (show (1 : Nat) = 0 from q) (by decide)⟩
  show pu_I R1 1 (f_MO_stepRemove s1 a1 a2 a3)
  rw [hM]; exact ⟨h0, fun q => absurd q (by decide), hR⟩
theorem on_stepRemove_2 {R1 : am_M → Prop} {s s1 t : am_M} {a1 a2 a3 : Int32} {v : Int32} {w : Int32} (hC : f_CB_stepRemove s a1 a2 a3 = (2, v, s1)) (pC : p_CB_stepRemove s a1 a2 a3) (pM : p_MO_stepRemove s1 a1 a2 a3) (hM : f_MO_stepRemove s1 a1 a2 a3 = (w, t)) (h0 : t 207 0 = 2) (hR : R1 t) : p_LA_stepRemove s a1 a2 a3 ∧ p_MO_stepRemove (f_LA_stepRemove s a1 a2 a3).2 a1 a2 a3 ∧ pu_I R1 (f_LA_stepRemove s a1 a2 a3).1 (f_MO_stepRemove (f_LA_stepRemove s a1 a2 a3).2 a1 a2 a3) ∧ n9 (f_CB_stepRemove s a1 a2 a3) := by
  have hL : f_LA_stepRemove s a1 a2 a3 = (2, s1) := by unfold f_LA_stepRemove; rw [hC]; rfl
  have pL : p_LA_stepRemove s a1 a2 a3 := by
    unfold p_LA_stepRemove; rw [hC]
    exact ⟨pC, by simp⟩
  rw [hL]
  refine ⟨pL, pM, ?_, fun q => by
    rw [hC] at q
    exact absurd (show (2 : Nat) = 0 from q) (by decide)⟩
  show pu_I R1 2 (f_MO_stepRemove s1 a1 a2 a3)
  rw [hM]; exact ⟨h0, fun q => absurd q (by decide), hR⟩
theorem on_stepRemove_3 {R1 : am_M → Prop} {s s1 t : am_M} {a1 a2 a3 : Int32} {v : Int32} {w : Int32} (hC : f_CB_stepRemove s a1 a2 a3 = (3, v, s1)) (pC : p_CB_stepRemove s a1 a2 a3) (pM : p_MO_stepRemove s1 a1 a2 a3) (hM : f_MO_stepRemove s1 a1 a2 a3 = (w, t)) (h0 : t 207 0 = 3) (hR : R1 t) : p_LA_stepRemove s a1 a2 a3 ∧ p_MO_stepRemove (f_LA_stepRemove s a1 a2 a3).2 a1 a2 a3 ∧ pu_I R1 (f_LA_stepRemove s a1 a2 a3).1 (f_MO_stepRemove (f_LA_stepRemove s a1 a2 a3).2 a1 a2 a3) ∧ n9 (f_CB_stepRemove s a1 a2 a3) := by
  have hL : f_LA_stepRemove s a1 a2 a3 = (3, s1) := by unfold f_LA_stepRemove; rw [hC]; rfl
  have pL : p_LA_stepRemove s a1 a2 a3 := by
    unfold p_LA_stepRemove; rw [hC]
    exact ⟨pC, by simp⟩
  rw [hL]
  refine ⟨pL, pM, ?_, fun q => by
    rw [hC] at q
    exact absurd (show (3 : Nat) = 0 from q) (by decide)⟩
  show pu_I R1 3 (f_MO_stepRemove s1 a1 a2 a3)
  rw [hM]; exact ⟨h0, fun q => absurd q (by decide), hR⟩
theorem og_stepIf {R1 : am_M → Prop} {s s1 t : am_M} {a1 a2 a3 : Int32} {v : Int32} {w : Int32} (hC : f_CB_stepIf s a1 a2 a3 = (0, v, s1)) (pC : p_CB_stepIf s a1 a2 a3) (pM : p_MO_stepIf (am_set s1 262 0 v) a1 a2 a3) (hM : f_MO_stepIf (am_set s1 262 0 v) a1 a2 a3 = (w, t)) (h0 : t 207 0 = 0) (h2 : t 262 0 = w) (hR : R1 t) (hn : v ≠ -9999999) : p_LA_stepIf s a1 a2 a3 ∧ p_MO_stepIf (f_LA_stepIf s a1 a2 a3).2 a1 a2 a3 ∧ pu_I R1 (f_LA_stepIf s a1 a2 a3).1 (f_MO_stepIf (f_LA_stepIf s a1 a2 a3).2 a1 a2 a3) ∧ n9 (f_CB_stepIf s a1 a2 a3) := by
  have hL : f_LA_stepIf s a1 a2 a3 = (0, am_set s1 262 0 v) := by
    unfold f_LA_stepIf; rw [hC]; rfl
  have pL : p_LA_stepIf s a1 a2 a3 := by
    unfold p_LA_stepIf; rw [hC]
    exact ⟨pC, by simp, fun _ => ⟨vp_in_nI (n := 0) (by decide) (by decide), trivial⟩, fun q => absurd rfl q⟩
  rw [hL]
  refine ⟨pL, pM, ?_, fun _ => by rw [hC]; exact hn⟩
  show pu_I R1 0 (f_MO_stepIf (am_set s1 262 0 v) a1 a2 a3)
  rw [hM]; exact ⟨h0, fun _ => h2, hR⟩
theorem on_stepIf_1 {R1 : am_M → Prop} {s s1 t : am_M} {a1 a2 a3 : Int32} {v : Int32} {w : Int32} (hC : f_CB_stepIf s a1 a2 a3 = (1, v, s1)) (pC : p_CB_stepIf s a1 a2 a3) (pM : p_MO_stepIf s1 a1 a2 a3) (hM : f_MO_stepIf s1 a1 a2 a3 = (w, t)) (h0 : t 207 0 = 1) (hR : R1 t) : p_LA_stepIf s a1 a2 a3 ∧ p_MO_stepIf (f_LA_stepIf s a1 a2 a3).2 a1 a2 a3 ∧ pu_I R1 (f_LA_stepIf s a1 a2 a3).1 (f_MO_stepIf (f_LA_stepIf s a1 a2 a3).2 a1 a2 a3) ∧ n9 (f_CB_stepIf s a1 a2 a3) := by
  have hL : f_LA_stepIf s a1 a2 a3 = (1, s1) := by unfold f_LA_stepIf; rw [hC]; rfl
  have pL : p_LA_stepIf s a1 a2 a3 := by
    unfold p_LA_stepIf; rw [hC]
    exact ⟨pC, by simp⟩
  rw [hL]
  refine ⟨pL, pM, ?_, fun q => by
    rw [hC] at q
    exact absurd (show (1 : Nat) = 0 from q) (by decide)⟩
  show pu_I R1 1 (f_MO_stepIf s1 a1 a2 a3)
  rw [hM]; exact ⟨h0, fun q => absurd q (by decide), hR⟩
theorem on_stepIf_2 {R1 : am_M → Prop} {s s1 t : am_M} {a1 a2 a3 : Int32} {v : Int32} {w : Int32} (hC : f_CB_stepIf s a1 a2 a3 = (2, v, s1)) (pC : p_CB_stepIf s a1 a2 a3) (pM : p_MO_stepIf s1 a1 a2 a3) (hM : f_MO_stepIf s1 a1 a2 a3 = (w, t)) (h0 : t 207 0 = 2) (hR : R1 t) : p_LA_stepIf s a1 a2 a3 ∧ p_MO_stepIf (f_LA_stepIf s a1 a2 a3).2 a1 a2 a3 ∧ pu_I R1 (f_LA_stepIf s a1 a2 a3).1 (f_MO_stepIf (f_LA_stepIf s a1 a2 a3).2 a1 a2 a3) ∧ n9 (f_CB_stepIf s a1 a2 a3) := by
  have hL : f_LA_stepIf s a1 a2 a3 = (2, s1) := by unfold f_LA_stepIf; rw [hC]; rfl
  have pL : p_LA_stepIf s a1 a2 a3 := by
    unfold p_LA_stepIf; rw [hC]
    exact ⟨pC, by simp⟩
  rw [hL]
  refine ⟨pL, pM, ?_, fun q => by
    rw [hC] at q
    exact absurd (show (2 : Nat) = 0 from q) (by decide)⟩
  show pu_I R1 2 (f_MO_stepIf s1 a1 a2 a3)
  rw [hM]; exact ⟨h0, fun q => absurd q (by decide), hR⟩
theorem on_stepIf_3 {R1 : am_M → Prop} {s s1 t : am_M} {a1 a2 a3 : Int32} {v : Int32} {w : Int32} (hC : f_CB_stepIf s a1 a2 a3 = (3, v, s1)) (pC : p_CB_stepIf s a1 a2 a3) (pM : p_MO_stepIf s1 a1 a2 a3) (hM : f_MO_stepIf s1 a1 a2 a3 = (w, t)) (h0 : t 207 0 = 3) (hR : R1 t) : p_LA_stepIf s a1 a2 a3 ∧ p_MO_stepIf (f_LA_stepIf s a1 a2 a3).2 a1 a2 a3 ∧ pu_I R1 (f_LA_stepIf s a1 a2 a3).1 (f_MO_stepIf (f_LA_stepIf s a1 a2 a3).2 a1 a2 a3) ∧ n9 (f_CB_stepIf s a1 a2 a3) := by
  have hL : f_LA_stepIf s a1 a2 a3 = (3, s1) := by unfold f_LA_stepIf; rw [hC]; rfl
  have pL : p_LA_stepIf s a1 a2 a3 := by
    unfold p_LA_stepIf; rw [hC]
    exact ⟨pC, by simp⟩
  rw [hL]
  refine ⟨pL, pM, ?_, fun q => by
    rw [hC] at q
    exact absurd (show (3 : Nat) = 0 from q) (by decide)⟩
  show pu_I R1 3 (f_MO_stepIf s1 a1 a2 a3)
  rw [hM]; exact ⟨h0, fun q => absurd q (by decide), hR⟩
theorem og_run {R1 : am_M → Prop} {s s1 t : am_M} {a1 : Int32} {v : Int32} {w : Int32} (hC : f_CB_run s a1 = (0, v, s1)) (pC : p_CB_run s a1) (pM : p_MO_run (am_set s1 262 0 (if v = 0 then 0 else 1)) a1) (hM : f_MO_run (am_set s1 262 0 (if v = 0 then 0 else 1)) a1 = (w, t)) (h0 : t 207 0 = 0) (h2 : t 262 0 = if w = 0 then 0 else 1) (hR : R1 t) : p_LA_run s a1 ∧ p_MO_run (f_LA_run s a1).2 a1 ∧ pu_B R1 (f_LA_run s a1).1 (f_MO_run (f_LA_run s a1).2 a1) := by
  have hL : f_LA_run s a1 = (0, am_set s1 262 0 (if v = 0 then 0 else 1)) := by
    unfold f_LA_run; rw [hC]
    by_cases c : v = 0
    · simp [c]
    · simp [c]
  have pL : p_LA_run s a1 := by
    unfold p_LA_run; rw [hC]
    exact ⟨pC, by simp, fun _ => ⟨fun _ => ⟨vp_in_nI (n := 0) (by decide) (by decide), trivial⟩, fun _ => ⟨vp_in_nI (n := 0) (by decide) (by decide), trivial⟩⟩, fun q => absurd rfl q⟩
  rw [hL]
  refine ⟨pL, pM, ?_⟩
  show pu_B R1 0 (f_MO_run (am_set s1 262 0 (if v = 0 then 0 else 1)) a1)
  rw [hM]; exact ⟨h0, fun _ => h2, hR⟩
theorem on_run_1 {R1 : am_M → Prop} {s s1 t : am_M} {a1 : Int32} {v : Int32} {w : Int32} (hC : f_CB_run s a1 = (1, v, s1)) (pC : p_CB_run s a1) (pM : p_MO_run s1 a1) (hM : f_MO_run s1 a1 = (w, t)) (h0 : t 207 0 = 1) (hR : R1 t) : p_LA_run s a1 ∧ p_MO_run (f_LA_run s a1).2 a1 ∧ pu_B R1 (f_LA_run s a1).1 (f_MO_run (f_LA_run s a1).2 a1) := by
  have hL : f_LA_run s a1 = (1, s1) := by unfold f_LA_run; rw [hC]; rfl
  have pL : p_LA_run s a1 := by
    unfold p_LA_run; rw [hC]
    exact ⟨pC, by simp⟩
  rw [hL]
  refine ⟨pL, pM, ?_⟩
  show pu_B R1 1 (f_MO_run s1 a1)
  rw [hM]; exact ⟨h0, fun q => absurd q (by decide), hR⟩
theorem og_undo {R1 : am_M → Prop} {s s1 t : am_M} {v : Int32} {w : Int32} (hC : f_CB_undo s = (0, v, s1)) (pC : p_CB_undo s) (pM : p_MO_undo (am_set s1 262 0 v)) (hM : f_MO_undo (am_set s1 262 0 v) = (w, t)) (h0 : t 207 0 = 0) (h2 : t 262 0 = w) (hR : R1 t) (hn : v ≠ -9999999) : p_LA_undo s ∧ p_MO_undo (f_LA_undo s).2 ∧ pu_I R1 (f_LA_undo s).1 (f_MO_undo (f_LA_undo s).2) ∧ n9 (f_CB_undo s) := by
  have hL : f_LA_undo s = (0, am_set s1 262 0 v) := by
    unfold f_LA_undo; rw [hC]; rfl
  have pL : p_LA_undo s := by
    unfold p_LA_undo; rw [hC]
    exact ⟨pC, by simp, fun _ => ⟨vp_in_nI (n := 0) (by decide) (by decide), trivial⟩, fun q => absurd rfl q⟩
  rw [hL]
  refine ⟨pL, pM, ?_, fun _ => by rw [hC]; exact hn⟩
  show pu_I R1 0 (f_MO_undo (am_set s1 262 0 v))
  rw [hM]; exact ⟨h0, fun _ => h2, hR⟩
theorem on_undo_1 {R1 : am_M → Prop} {s s1 t : am_M} {v : Int32} {w : Int32} (hC : f_CB_undo s = (3, v, s1)) (pC : p_CB_undo s) (pM : p_MO_undo s1) (hM : f_MO_undo s1 = (w, t)) (h0 : t 207 0 = 1) (hR : R1 t) : p_LA_undo s ∧ p_MO_undo (f_LA_undo s).2 ∧ pu_I R1 (f_LA_undo s).1 (f_MO_undo (f_LA_undo s).2) ∧ n9 (f_CB_undo s) := by
  have hL : f_LA_undo s = (1, s1) := by unfold f_LA_undo; rw [hC]; rfl
  have pL : p_LA_undo s := by
    unfold p_LA_undo; rw [hC]
    exact ⟨pC, by simp⟩
  rw [hL]
  refine ⟨pL, pM, ?_, fun q => by
    rw [hC] at q
    exact absurd (show (3 : Nat) = 0 from q) (by decide)⟩
  show pu_I R1 1 (f_MO_undo s1)
  rw [hM]; exact ⟨h0, fun q => absurd q (by decide), hR⟩
end
