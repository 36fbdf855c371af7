noncomputable section
-- the law's helpers in step; written by wip/p52/zy3.py
theorem zs_opens {c d : Nat} (hcd : c ≤ d) {s t : am_M} {a1 a2 : Int32} (h : RR c s t) : (p_LH_opens s a1 a2 ∧ p_LH_opens t a1 a2) ∧ zE (f_LH_opens s a1 a2).1 ∧ zE (f_LH_opens t a1 a2).1 ∧ ZZ c d t (az (f_LH_opens s a1 a2)) (az (f_LH_opens t a1 a2)) := by
  obtain ⟨⟨ps, pt⟩, e1, e2, z⟩ := zo_openForm (op_openForm_ok (c := c) (d := d) hcd) h (a1 := a1) (a2 := a2)
  have ho : ∀ u : am_M, f_LH_opens u a1 a2 = ((h_CB_openForm u a1 a2).1, 0, (h_CB_openForm u a1 a2).2) := fun u => by
    unfold f_LH_opens
    by_cases q : (h_CB_openForm u a1 a2).1 = 0
    · rw [if_pos q, q]
    · rw [if_neg q]
  rw [ho s, ho t]
  have e1 : zE (h_CB_openForm s a1 a2).1 := e1
  have e2 : zE (h_CB_openForm t a1 a2).1 := e2
  refine ⟨⟨?_, ?_⟩, e1, e2, ?_⟩
  · unfold p_LH_opens
    exact ⟨ps, fun _ => trivial⟩
  · unfold p_LH_opens
    exact ⟨pt, fun _ => trivial⟩
  · refine ZZ_I h ⟨z.1, fun q => ⟨rfl, z.2 q⟩⟩ (fun q => zt_openForm h.1 ps q) (fun q => zt_openForm h.2.1 pt q) (fun _ => show (0 : Int32) ≠ -9999999 by decide)
theorem LE_does_0 {u : am_M} {x2 x3 x4 : Int32} : f_LH_does u (0 : Int32) x2 x3 x4 = az (h_CB_addTable u) := by
  unfold f_LH_does
  rw [if_pos rfl]
  exact az3 _
theorem LS_does_0 {c d : Nat} (hcd : c + 7 ≤ d) (hd9 : d ≤ 4000) {s t : am_M} {x2 x3 x4 : Int32} (h : RR c s t) : p_LH_does s (0 : Int32) x2 x3 x4 ∧ p_LH_does t (0 : Int32) x2 x3 x4 ∧ ZZ c d t (f_LH_does s (0 : Int32) x2 x3 x4) (f_LH_does t (0 : Int32) x2 x3 x4) := by
  have e : ∀ u : am_M, f_LH_does u (0 : Int32) x2 x3 x4 = az (h_CB_addTable u) := fun u => LE_does_0
  obtain ⟨e1, f1, z⟩ := zs_addTable (show c ≤ d by omega) h 
  refine ⟨?_, ?_, ?_⟩
  · unfold p_LH_does
    exact ⟨fun _ => ⟨e1, ⟨fun _ => trivial, fun _ => ⟨fun _ => trivial, fun _ => ⟨fun _ => trivial, fun _ => trivial⟩⟩⟩⟩, fun q => absurd rfl q⟩
  · unfold p_LH_does
    exact ⟨fun _ => ⟨f1, ⟨fun _ => trivial, fun _ => ⟨fun _ => trivial, fun _ => ⟨fun _ => trivial, fun _ => trivial⟩⟩⟩⟩, fun q => absurd rfl q⟩
  · rw [e s, e t]; exact z
theorem LE_does_1 {u : am_M} {x2 x3 x4 : Int32} : f_LH_does u (1 : Int32) x2 x3 x4 = az (h_CB_addNumber u x2 x3 x4) := by
  unfold f_LH_does
  rw [if_neg (show ¬ ((1 : Int32) = 0) by decide), if_pos rfl]
  exact az3 _
theorem LS_does_1 {c d : Nat} (hcd : c + 7 ≤ d) (hd9 : d ≤ 4000) {s t : am_M} {x2 x3 x4 : Int32} (h : RR c s t) : p_LH_does s (1 : Int32) x2 x3 x4 ∧ p_LH_does t (1 : Int32) x2 x3 x4 ∧ ZZ c d t (f_LH_does s (1 : Int32) x2 x3 x4) (f_LH_does t (1 : Int32) x2 x3 x4) := by
  have e : ∀ u : am_M, f_LH_does u (1 : Int32) x2 x3 x4 = az (h_CB_addNumber u x2 x3 x4) := fun u => LE_does_1
  obtain ⟨⟨ps, pt⟩, e1, f1, z⟩ := zs_addNumber (show c ≤ d by omega) h (a1 := x2) (a2 := x3) (a3 := x4)
  refine ⟨?_, ?_, ?_⟩
  · unfold p_LH_does
    exact ⟨fun q => absurd q (by decide), fun _ => ⟨fun _ => ⟨ps, e1, ⟨fun _ => trivial, fun _ => ⟨fun _ => trivial, fun _ => ⟨fun _ => trivial, fun _ => trivial⟩⟩⟩⟩, fun q => absurd rfl q⟩⟩
  · unfold p_LH_does
    exact ⟨fun q => absurd q (by decide), fun _ => ⟨fun _ => ⟨pt, f1, ⟨fun _ => trivial, fun _ => ⟨fun _ => trivial, fun _ => ⟨fun _ => trivial, fun _ => trivial⟩⟩⟩⟩, fun q => absurd rfl q⟩⟩
  · rw [e s, e t]; exact z
theorem LE_does_2 {u : am_M} {x2 x3 x4 : Int32} : f_LH_does u (2 : Int32) x2 x3 x4 = az (h_CB_addLink u x2 x3 x4) := by
  unfold f_LH_does
  rw [if_neg (show ¬ ((2 : Int32) = 0) by decide), if_neg (show ¬ ((2 : Int32) = (1 : Int32)) by decide), if_pos rfl]
  exact az3 _
theorem LS_does_2 {c d : Nat} (hcd : c + 7 ≤ d) (hd9 : d ≤ 4000) {s t : am_M} {x2 x3 x4 : Int32} (h : RR c s t) : p_LH_does s (2 : Int32) x2 x3 x4 ∧ p_LH_does t (2 : Int32) x2 x3 x4 ∧ ZZ c d t (f_LH_does s (2 : Int32) x2 x3 x4) (f_LH_does t (2 : Int32) x2 x3 x4) := by
  have e : ∀ u : am_M, f_LH_does u (2 : Int32) x2 x3 x4 = az (h_CB_addLink u x2 x3 x4) := fun u => LE_does_2
  obtain ⟨⟨ps, pt⟩, e1, f1, z⟩ := zs_addLink (show c ≤ d by omega) h (a1 := x2) (a2 := x3) (a3 := x4)
  refine ⟨?_, ?_, ?_⟩
  · unfold p_LH_does
    exact ⟨fun q => absurd q (by decide), fun _ => ⟨fun q => absurd q (by decide), fun _ => ⟨fun _ => ⟨ps, e1, ⟨fun _ => trivial, fun _ => ⟨fun _ => trivial, fun _ => ⟨fun _ => trivial, fun _ => trivial⟩⟩⟩⟩, fun q => absurd rfl q⟩⟩⟩
  · unfold p_LH_does
    exact ⟨fun q => absurd q (by decide), fun _ => ⟨fun q => absurd q (by decide), fun _ => ⟨fun _ => ⟨pt, f1, ⟨fun _ => trivial, fun _ => ⟨fun _ => trivial, fun _ => ⟨fun _ => trivial, fun _ => trivial⟩⟩⟩⟩, fun q => absurd rfl q⟩⟩⟩
  · rw [e s, e t]; exact z
theorem LE_does_3 {u : am_M} {x2 x3 x4 : Int32} : f_LH_does u (3 : Int32) x2 x3 x4 = az (h_CB_addAct u) := by
  unfold f_LH_does
  rw [if_neg (show ¬ ((3 : Int32) = 0) by decide), if_neg (show ¬ ((3 : Int32) = (1 : Int32)) by decide), if_neg (show ¬ ((3 : Int32) = (2 : Int32)) by decide), if_pos rfl]
  exact az3 _
theorem LS_does_3 {c d : Nat} (hcd : c + 7 ≤ d) (hd9 : d ≤ 4000) {s t : am_M} {x2 x3 x4 : Int32} (h : RR c s t) : p_LH_does s (3 : Int32) x2 x3 x4 ∧ p_LH_does t (3 : Int32) x2 x3 x4 ∧ ZZ c d t (f_LH_does s (3 : Int32) x2 x3 x4) (f_LH_does t (3 : Int32) x2 x3 x4) := by
  have e : ∀ u : am_M, f_LH_does u (3 : Int32) x2 x3 x4 = az (h_CB_addAct u) := fun u => LE_does_3
  obtain ⟨e1, f1, z⟩ := zs_addAct (show c ≤ d by omega) h 
  refine ⟨?_, ?_, ?_⟩
  · unfold p_LH_does
    exact ⟨fun q => absurd q (by decide), fun _ => ⟨fun q => absurd q (by decide), fun _ => ⟨fun q => absurd q (by decide), fun _ => ⟨fun _ => ⟨e1, ⟨fun _ => trivial, fun _ => ⟨fun _ => trivial, fun _ => ⟨fun _ => trivial, fun _ => trivial⟩⟩⟩⟩, fun q => absurd rfl q⟩⟩⟩⟩
  · unfold p_LH_does
    exact ⟨fun q => absurd q (by decide), fun _ => ⟨fun q => absurd q (by decide), fun _ => ⟨fun q => absurd q (by decide), fun _ => ⟨fun _ => ⟨f1, ⟨fun _ => trivial, fun _ => ⟨fun _ => trivial, fun _ => ⟨fun _ => trivial, fun _ => trivial⟩⟩⟩⟩, fun q => absurd rfl q⟩⟩⟩⟩
  · rw [e s, e t]; exact z
theorem LE_does_5 {u : am_M} {x2 x3 x4 : Int32} : f_LH_does u (5 : Int32) x2 x3 x4 = az (h_CB_type u x2 x3) := by
  unfold f_LH_does
  rw [if_neg (show ¬ ((5 : Int32) = 0) by decide), if_neg (show ¬ ((5 : Int32) = (1 : Int32)) by decide), if_neg (show ¬ ((5 : Int32) = (2 : Int32)) by decide), if_neg (show ¬ ((5 : Int32) = (3 : Int32)) by decide), if_neg (show ¬ ((5 : Int32) = (4 : Int32)) by decide), if_pos rfl]
  exact az3 _
theorem LS_does_5 {c d : Nat} (hcd : c + 7 ≤ d) (hd9 : d ≤ 4000) {s t : am_M} {x2 x3 x4 : Int32} (h : RR c s t) : p_LH_does s (5 : Int32) x2 x3 x4 ∧ p_LH_does t (5 : Int32) x2 x3 x4 ∧ ZZ c d t (f_LH_does s (5 : Int32) x2 x3 x4) (f_LH_does t (5 : Int32) x2 x3 x4) := by
  have e : ∀ u : am_M, f_LH_does u (5 : Int32) x2 x3 x4 = az (h_CB_type u x2 x3) := fun u => LE_does_5
  obtain ⟨⟨ps, pt⟩, e1, f1, z⟩ := zs_type (show c ≤ d by omega) h (a1 := x2) (a2 := x3)
  refine ⟨?_, ?_, ?_⟩
  · unfold p_LH_does
    exact ⟨fun q => absurd q (by decide), fun _ => ⟨fun q => absurd q (by decide), fun _ => ⟨fun q => absurd q (by decide), fun _ => ⟨fun q => absurd q (by decide), fun _ => ⟨fun q => absurd q (by decide), fun _ => ⟨fun _ => ⟨ps, e1, ⟨fun _ => trivial, fun _ => ⟨fun _ => trivial, fun _ => ⟨fun _ => trivial, fun _ => trivial⟩⟩⟩⟩, fun q => absurd rfl q⟩⟩⟩⟩⟩⟩
  · unfold p_LH_does
    exact ⟨fun q => absurd q (by decide), fun _ => ⟨fun q => absurd q (by decide), fun _ => ⟨fun q => absurd q (by decide), fun _ => ⟨fun q => absurd q (by decide), fun _ => ⟨fun q => absurd q (by decide), fun _ => ⟨fun _ => ⟨pt, f1, ⟨fun _ => trivial, fun _ => ⟨fun _ => trivial, fun _ => ⟨fun _ => trivial, fun _ => trivial⟩⟩⟩⟩, fun q => absurd rfl q⟩⟩⟩⟩⟩⟩
  · rw [e s, e t]; exact z
theorem LE_does_6 {u : am_M} {x2 x3 x4 : Int32} : f_LH_does u (6 : Int32) x2 x3 x4 = az (h_CB_enter u x2) := by
  unfold f_LH_does
  rw [if_neg (show ¬ ((6 : Int32) = 0) by decide), if_neg (show ¬ ((6 : Int32) = (1 : Int32)) by decide), if_neg (show ¬ ((6 : Int32) = (2 : Int32)) by decide), if_neg (show ¬ ((6 : Int32) = (3 : Int32)) by decide), if_neg (show ¬ ((6 : Int32) = (4 : Int32)) by decide), if_neg (show ¬ ((6 : Int32) = (5 : Int32)) by decide), if_pos rfl]
  exact az3 _
theorem LS_does_6 {c d : Nat} (hcd : c + 7 ≤ d) (hd9 : d ≤ 4000) {s t : am_M} {x2 x3 x4 : Int32} (h : RR c s t) : p_LH_does s (6 : Int32) x2 x3 x4 ∧ p_LH_does t (6 : Int32) x2 x3 x4 ∧ ZZ c d t (f_LH_does s (6 : Int32) x2 x3 x4) (f_LH_does t (6 : Int32) x2 x3 x4) := by
  have e : ∀ u : am_M, f_LH_does u (6 : Int32) x2 x3 x4 = az (h_CB_enter u x2) := fun u => LE_does_6
  obtain ⟨⟨ps, pt⟩, e1, f1, z⟩ := zs_enter hcd hd9 h (a1 := x2)
  refine ⟨?_, ?_, ?_⟩
  · unfold p_LH_does
    exact ⟨fun q => absurd q (by decide), fun _ => ⟨fun q => absurd q (by decide), fun _ => ⟨fun q => absurd q (by decide), fun _ => ⟨fun q => absurd q (by decide), fun _ => ⟨fun q => absurd q (by decide), fun _ => ⟨fun q => absurd q (by decide), fun _ => ⟨fun _ => ⟨ps, e1, ⟨fun _ => trivial, fun _ => ⟨fun _ => trivial, fun _ => ⟨fun _ => trivial, fun _ => trivial⟩⟩⟩⟩, fun q => absurd rfl q⟩⟩⟩⟩⟩⟩⟩
  · unfold p_LH_does
    exact ⟨fun q => absurd q (by decide), fun _ => ⟨fun q => absurd q (by decide), fun _ => ⟨fun q => absurd q (by decide), fun _ => ⟨fun q => absurd q (by decide), fun _ => ⟨fun q => absurd q (by decide), fun _ => ⟨fun q => absurd q (by decide), fun _ => ⟨fun _ => ⟨pt, f1, ⟨fun _ => trivial, fun _ => ⟨fun _ => trivial, fun _ => ⟨fun _ => trivial, fun _ => trivial⟩⟩⟩⟩, fun q => absurd rfl q⟩⟩⟩⟩⟩⟩⟩
  · rw [e s, e t]; exact z
theorem LE_does_7 {u : am_M} {x2 x3 x4 : Int32} : f_LH_does u (7 : Int32) x2 x3 x4 = az (h_CB_enterInside u x2 x3) := by
  unfold f_LH_does
  rw [if_neg (show ¬ ((7 : Int32) = 0) by decide), if_neg (show ¬ ((7 : Int32) = (1 : Int32)) by decide), if_neg (show ¬ ((7 : Int32) = (2 : Int32)) by decide), if_neg (show ¬ ((7 : Int32) = (3 : Int32)) by decide), if_neg (show ¬ ((7 : Int32) = (4 : Int32)) by decide), if_neg (show ¬ ((7 : Int32) = (5 : Int32)) by decide), if_neg (show ¬ ((7 : Int32) = (6 : Int32)) by decide), if_pos rfl]
  exact az3 _
theorem LS_does_7 {c d : Nat} (hcd : c + 7 ≤ d) (hd9 : d ≤ 4000) {s t : am_M} {x2 x3 x4 : Int32} (h : RR c s t) : p_LH_does s (7 : Int32) x2 x3 x4 ∧ p_LH_does t (7 : Int32) x2 x3 x4 ∧ ZZ c d t (f_LH_does s (7 : Int32) x2 x3 x4) (f_LH_does t (7 : Int32) x2 x3 x4) := by
  have e : ∀ u : am_M, f_LH_does u (7 : Int32) x2 x3 x4 = az (h_CB_enterInside u x2 x3) := fun u => LE_does_7
  obtain ⟨⟨ps, pt⟩, e1, f1, z⟩ := zs_enterInside hcd hd9 h (a1 := x2) (a2 := x3)
  refine ⟨?_, ?_, ?_⟩
  · unfold p_LH_does
    exact ⟨fun q => absurd q (by decide), fun _ => ⟨fun q => absurd q (by decide), fun _ => ⟨fun q => absurd q (by decide), fun _ => ⟨fun q => absurd q (by decide), fun _ => ⟨fun q => absurd q (by decide), fun _ => ⟨fun q => absurd q (by decide), fun _ => ⟨fun q => absurd q (by decide), fun _ => ⟨fun _ => ⟨ps, e1, ⟨fun _ => trivial, fun _ => ⟨fun _ => trivial, fun _ => ⟨fun _ => trivial, fun _ => trivial⟩⟩⟩⟩, fun q => absurd rfl q⟩⟩⟩⟩⟩⟩⟩⟩
  · unfold p_LH_does
    exact ⟨fun q => absurd q (by decide), fun _ => ⟨fun q => absurd q (by decide), fun _ => ⟨fun q => absurd q (by decide), fun _ => ⟨fun q => absurd q (by decide), fun _ => ⟨fun q => absurd q (by decide), fun _ => ⟨fun q => absurd q (by decide), fun _ => ⟨fun q => absurd q (by decide), fun _ => ⟨fun _ => ⟨pt, f1, ⟨fun _ => trivial, fun _ => ⟨fun _ => trivial, fun _ => ⟨fun _ => trivial, fun _ => trivial⟩⟩⟩⟩, fun q => absurd rfl q⟩⟩⟩⟩⟩⟩⟩⟩
  · rw [e s, e t]; exact z
theorem LE_does_8 {u : am_M} {x2 x3 x4 : Int32} : f_LH_does u (8 : Int32) x2 x3 x4 = bz (h_CB_remove u x2 x3) := by
  unfold f_LH_does
  rw [if_neg (show ¬ ((8 : Int32) = 0) by decide), if_neg (show ¬ ((8 : Int32) = (1 : Int32)) by decide), if_neg (show ¬ ((8 : Int32) = (2 : Int32)) by decide), if_neg (show ¬ ((8 : Int32) = (3 : Int32)) by decide), if_neg (show ¬ ((8 : Int32) = (4 : Int32)) by decide), if_neg (show ¬ ((8 : Int32) = (5 : Int32)) by decide), if_neg (show ¬ ((8 : Int32) = (6 : Int32)) by decide), if_neg (show ¬ ((8 : Int32) = (7 : Int32)) by decide), if_pos rfl]
  exact bz3 _
theorem LS_does_8 {c d : Nat} (hcd : c + 7 ≤ d) (hd9 : d ≤ 4000) {s t : am_M} {x2 x3 x4 : Int32} (h : RR c s t) : p_LH_does s (8 : Int32) x2 x3 x4 ∧ p_LH_does t (8 : Int32) x2 x3 x4 ∧ ZZ c d t (f_LH_does s (8 : Int32) x2 x3 x4) (f_LH_does t (8 : Int32) x2 x3 x4) := by
  have e : ∀ u : am_M, f_LH_does u (8 : Int32) x2 x3 x4 = bz (h_CB_remove u x2 x3) := fun u => LE_does_8
  obtain ⟨⟨ps, pt⟩, e1, f1, z⟩ := zs_remove (show c ≤ d by omega) h (a1 := x2) (a2 := x3)
  refine ⟨?_, ?_, ?_⟩
  · unfold p_LH_does
    exact ⟨fun q => absurd q (by decide), fun _ => ⟨fun q => absurd q (by decide), fun _ => ⟨fun q => absurd q (by decide), fun _ => ⟨fun q => absurd q (by decide), fun _ => ⟨fun q => absurd q (by decide), fun _ => ⟨fun q => absurd q (by decide), fun _ => ⟨fun q => absurd q (by decide), fun _ => ⟨fun q => absurd q (by decide), fun _ => ⟨fun _ => ⟨ps, e1, ⟨fun _ => ⟨fun _ => trivial, fun _ => trivial⟩, fun _ => ⟨fun _ => trivial, fun _ => ⟨fun _ => trivial, fun _ => trivial⟩⟩⟩⟩, fun q => absurd rfl q⟩⟩⟩⟩⟩⟩⟩⟩⟩
  · unfold p_LH_does
    exact ⟨fun q => absurd q (by decide), fun _ => ⟨fun q => absurd q (by decide), fun _ => ⟨fun q => absurd q (by decide), fun _ => ⟨fun q => absurd q (by decide), fun _ => ⟨fun q => absurd q (by decide), fun _ => ⟨fun q => absurd q (by decide), fun _ => ⟨fun q => absurd q (by decide), fun _ => ⟨fun q => absurd q (by decide), fun _ => ⟨fun _ => ⟨pt, f1, ⟨fun _ => ⟨fun _ => trivial, fun _ => trivial⟩, fun _ => ⟨fun _ => trivial, fun _ => ⟨fun _ => trivial, fun _ => trivial⟩⟩⟩⟩, fun q => absurd rfl q⟩⟩⟩⟩⟩⟩⟩⟩⟩
  · rw [e s, e t]; exact z
theorem LE_does_9 {u : am_M} {x2 x3 x4 : Int32} : f_LH_does u (9 : Int32) x2 x3 x4 = az (f_LH_opens u x2 x3) := by
  unfold f_LH_does
  rw [if_neg (show ¬ ((9 : Int32) = 0) by decide), if_neg (show ¬ ((9 : Int32) = (1 : Int32)) by decide), if_neg (show ¬ ((9 : Int32) = (2 : Int32)) by decide), if_neg (show ¬ ((9 : Int32) = (3 : Int32)) by decide), if_neg (show ¬ ((9 : Int32) = (4 : Int32)) by decide), if_neg (show ¬ ((9 : Int32) = (5 : Int32)) by decide), if_neg (show ¬ ((9 : Int32) = (6 : Int32)) by decide), if_neg (show ¬ ((9 : Int32) = (7 : Int32)) by decide), if_neg (show ¬ ((9 : Int32) = (8 : Int32)) by decide), if_pos rfl]
  exact az3 _
theorem LS_does_9 {c d : Nat} (hcd : c + 7 ≤ d) (hd9 : d ≤ 4000) {s t : am_M} {x2 x3 x4 : Int32} (h : RR c s t) : p_LH_does s (9 : Int32) x2 x3 x4 ∧ p_LH_does t (9 : Int32) x2 x3 x4 ∧ ZZ c d t (f_LH_does s (9 : Int32) x2 x3 x4) (f_LH_does t (9 : Int32) x2 x3 x4) := by
  have e : ∀ u : am_M, f_LH_does u (9 : Int32) x2 x3 x4 = az (f_LH_opens u x2 x3) := fun u => LE_does_9
  obtain ⟨⟨ps, pt⟩, e1, f1, z⟩ := zs_opens (show c ≤ d by omega) h (a1 := x2) (a2 := x3)
  refine ⟨?_, ?_, ?_⟩
  · unfold p_LH_does
    exact ⟨fun q => absurd q (by decide), fun _ => ⟨fun q => absurd q (by decide), fun _ => ⟨fun q => absurd q (by decide), fun _ => ⟨fun q => absurd q (by decide), fun _ => ⟨fun q => absurd q (by decide), fun _ => ⟨fun q => absurd q (by decide), fun _ => ⟨fun q => absurd q (by decide), fun _ => ⟨fun q => absurd q (by decide), fun _ => ⟨fun q => absurd q (by decide), fun _ => ⟨fun _ => ⟨ps, e1, ⟨fun _ => trivial, fun _ => ⟨fun _ => trivial, fun _ => ⟨fun _ => trivial, fun _ => trivial⟩⟩⟩⟩, fun q => absurd rfl q⟩⟩⟩⟩⟩⟩⟩⟩⟩⟩
  · unfold p_LH_does
    exact ⟨fun q => absurd q (by decide), fun _ => ⟨fun q => absurd q (by decide), fun _ => ⟨fun q => absurd q (by decide), fun _ => ⟨fun q => absurd q (by decide), fun _ => ⟨fun q => absurd q (by decide), fun _ => ⟨fun q => absurd q (by decide), fun _ => ⟨fun q => absurd q (by decide), fun _ => ⟨fun q => absurd q (by decide), fun _ => ⟨fun q => absurd q (by decide), fun _ => ⟨fun _ => ⟨pt, f1, ⟨fun _ => trivial, fun _ => ⟨fun _ => trivial, fun _ => ⟨fun _ => trivial, fun _ => trivial⟩⟩⟩⟩, fun q => absurd rfl q⟩⟩⟩⟩⟩⟩⟩⟩⟩⟩
  · rw [e s, e t]; exact z
theorem LE_does_10 {u : am_M} {x2 x3 x4 : Int32} : f_LH_does u (10 : Int32) x2 x3 x4 = az (h_CB_undo u) := by
  unfold f_LH_does
  rw [if_neg (show ¬ ((10 : Int32) = 0) by decide), if_neg (show ¬ ((10 : Int32) = (1 : Int32)) by decide), if_neg (show ¬ ((10 : Int32) = (2 : Int32)) by decide), if_neg (show ¬ ((10 : Int32) = (3 : Int32)) by decide), if_neg (show ¬ ((10 : Int32) = (4 : Int32)) by decide), if_neg (show ¬ ((10 : Int32) = (5 : Int32)) by decide), if_neg (show ¬ ((10 : Int32) = (6 : Int32)) by decide), if_neg (show ¬ ((10 : Int32) = (7 : Int32)) by decide), if_neg (show ¬ ((10 : Int32) = (8 : Int32)) by decide), if_neg (show ¬ ((10 : Int32) = (9 : Int32)) by decide), if_pos rfl]
  exact az3 _
theorem LS_does_10 {c d : Nat} (hcd : c + 7 ≤ d) (hd9 : d ≤ 4000) {s t : am_M} {x2 x3 x4 : Int32} (h : RR c s t) : p_LH_does s (10 : Int32) x2 x3 x4 ∧ p_LH_does t (10 : Int32) x2 x3 x4 ∧ ZZ c d t (f_LH_does s (10 : Int32) x2 x3 x4) (f_LH_does t (10 : Int32) x2 x3 x4) := by
  have e : ∀ u : am_M, f_LH_does u (10 : Int32) x2 x3 x4 = az (h_CB_undo u) := fun u => LE_does_10
  obtain ⟨⟨ps, pt⟩, e1, f1, z⟩ := zs_undo (show c ≤ d by omega) h 
  refine ⟨?_, ?_, ?_⟩
  · unfold p_LH_does
    exact ⟨fun q => absurd q (by decide), fun _ => ⟨fun q => absurd q (by decide), fun _ => ⟨fun q => absurd q (by decide), fun _ => ⟨fun q => absurd q (by decide), fun _ => ⟨fun q => absurd q (by decide), fun _ => ⟨fun q => absurd q (by decide), fun _ => ⟨fun q => absurd q (by decide), fun _ => ⟨fun q => absurd q (by decide), fun _ => ⟨fun q => absurd q (by decide), fun _ => ⟨fun q => absurd q (by decide), fun _ => ⟨fun _ => ⟨ps, e1, ⟨fun _ => trivial, fun _ => ⟨fun _ => trivial, fun _ => ⟨fun _ => trivial, fun _ => trivial⟩⟩⟩⟩, fun q => absurd rfl q⟩⟩⟩⟩⟩⟩⟩⟩⟩⟩⟩
  · unfold p_LH_does
    exact ⟨fun q => absurd q (by decide), fun _ => ⟨fun q => absurd q (by decide), fun _ => ⟨fun q => absurd q (by decide), fun _ => ⟨fun q => absurd q (by decide), fun _ => ⟨fun q => absurd q (by decide), fun _ => ⟨fun q => absurd q (by decide), fun _ => ⟨fun q => absurd q (by decide), fun _ => ⟨fun q => absurd q (by decide), fun _ => ⟨fun q => absurd q (by decide), fun _ => ⟨fun q => absurd q (by decide), fun _ => ⟨fun _ => ⟨pt, f1, ⟨fun _ => trivial, fun _ => ⟨fun _ => trivial, fun _ => ⟨fun _ => trivial, fun _ => trivial⟩⟩⟩⟩, fun q => absurd rfl q⟩⟩⟩⟩⟩⟩⟩⟩⟩⟩⟩
  · rw [e s, e t]; exact z
theorem LE_does_11 {u : am_M} {x2 x3 x4 : Int32} : f_LH_does u (11 : Int32) x2 x3 x4 = bz (h_CB_run u x2) := by
  unfold f_LH_does
  rw [if_neg (show ¬ ((11 : Int32) = 0) by decide), if_neg (show ¬ ((11 : Int32) = (1 : Int32)) by decide), if_neg (show ¬ ((11 : Int32) = (2 : Int32)) by decide), if_neg (show ¬ ((11 : Int32) = (3 : Int32)) by decide), if_neg (show ¬ ((11 : Int32) = (4 : Int32)) by decide), if_neg (show ¬ ((11 : Int32) = (5 : Int32)) by decide), if_neg (show ¬ ((11 : Int32) = (6 : Int32)) by decide), if_neg (show ¬ ((11 : Int32) = (7 : Int32)) by decide), if_neg (show ¬ ((11 : Int32) = (8 : Int32)) by decide), if_neg (show ¬ ((11 : Int32) = (9 : Int32)) by decide), if_neg (show ¬ ((11 : Int32) = (10 : Int32)) by decide)]
  exact bz3 _
theorem LS_does_11 {c d : Nat} (hcd : c + 7 ≤ d) (hd9 : d ≤ 4000) {s t : am_M} {x2 x3 x4 : Int32} (h : RR c s t) : p_LH_does s (11 : Int32) x2 x3 x4 ∧ p_LH_does t (11 : Int32) x2 x3 x4 ∧ ZZ c d t (f_LH_does s (11 : Int32) x2 x3 x4) (f_LH_does t (11 : Int32) x2 x3 x4) := by
  have e : ∀ u : am_M, f_LH_does u (11 : Int32) x2 x3 x4 = bz (h_CB_run u x2) := fun u => LE_does_11
  obtain ⟨⟨ps, pt⟩, e1, f1, z⟩ := zs_run hcd hd9 h (a1 := x2)
  refine ⟨?_, ?_, ?_⟩
  · unfold p_LH_does
    exact ⟨fun q => absurd q (by decide), fun _ => ⟨fun q => absurd q (by decide), fun _ => ⟨fun q => absurd q (by decide), fun _ => ⟨fun q => absurd q (by decide), fun _ => ⟨fun q => absurd q (by decide), fun _ => ⟨fun q => absurd q (by decide), fun _ => ⟨fun q => absurd q (by decide), fun _ => ⟨fun q => absurd q (by decide), fun _ => ⟨fun q => absurd q (by decide), fun _ => ⟨fun q => absurd q (by decide), fun _ => ⟨fun q => absurd q (by decide), fun _ => ⟨ps, e1, ⟨fun _ => ⟨fun _ => trivial, fun _ => trivial⟩, fun _ => ⟨fun _ => trivial, fun _ => ⟨fun _ => trivial, fun _ => trivial⟩⟩⟩⟩⟩⟩⟩⟩⟩⟩⟩⟩⟩⟩⟩
  · unfold p_LH_does
    exact ⟨fun q => absurd q (by decide), fun _ => ⟨fun q => absurd q (by decide), fun _ => ⟨fun q => absurd q (by decide), fun _ => ⟨fun q => absurd q (by decide), fun _ => ⟨fun q => absurd q (by decide), fun _ => ⟨fun q => absurd q (by decide), fun _ => ⟨fun q => absurd q (by decide), fun _ => ⟨fun q => absurd q (by decide), fun _ => ⟨fun q => absurd q (by decide), fun _ => ⟨fun q => absurd q (by decide), fun _ => ⟨fun q => absurd q (by decide), fun _ => ⟨pt, f1, ⟨fun _ => ⟨fun _ => trivial, fun _ => trivial⟩, fun _ => ⟨fun _ => trivial, fun _ => ⟨fun _ => trivial, fun _ => trivial⟩⟩⟩⟩⟩⟩⟩⟩⟩⟩⟩⟩⟩⟩⟩
  · rw [e s, e t]; exact z
theorem LE_sets_0 {u : am_M} {x2 x3 x4 x5 x6 x7 : Int32} : f_LH_sets u (0 : Int32) x2 x3 x4 x5 x6 x7 = az (h_CB_addReckoned u x2 x3 x4 x5 x6) := by
  unfold f_LH_sets
  rw [if_pos rfl]
  exact az3 _
theorem LS_sets_0 {c d : Nat} (hcd : c ≤ d) {s t : am_M} {x2 x3 x4 x5 x6 x7 : Int32} (h : RR c s t) : p_LH_sets s (0 : Int32) x2 x3 x4 x5 x6 x7 ∧ p_LH_sets t (0 : Int32) x2 x3 x4 x5 x6 x7 ∧ ZZ c d t (f_LH_sets s (0 : Int32) x2 x3 x4 x5 x6 x7) (f_LH_sets t (0 : Int32) x2 x3 x4 x5 x6 x7) := by
  have e : ∀ u : am_M, f_LH_sets u (0 : Int32) x2 x3 x4 x5 x6 x7 = az (h_CB_addReckoned u x2 x3 x4 x5 x6) := fun u => LE_sets_0
  obtain ⟨⟨ps, pt⟩, e1, f1, z⟩ := zs_addReckoned hcd h (a1 := x2) (a2 := x3) (a3 := x4) (a4 := x5) (a5 := x6)
  refine ⟨?_, ?_, ?_⟩
  · unfold p_LH_sets
    exact ⟨fun _ => ⟨ps, e1, ⟨fun _ => trivial, fun _ => ⟨fun _ => trivial, fun _ => ⟨fun _ => trivial, fun _ => trivial⟩⟩⟩⟩, fun q => absurd rfl q⟩
  · unfold p_LH_sets
    exact ⟨fun _ => ⟨pt, f1, ⟨fun _ => trivial, fun _ => ⟨fun _ => trivial, fun _ => ⟨fun _ => trivial, fun _ => trivial⟩⟩⟩⟩, fun q => absurd rfl q⟩
  · rw [e s, e t]; exact z
theorem LE_sets_1 {u : am_M} {x2 x3 x4 x5 x6 x7 : Int32} : f_LH_sets u (1 : Int32) x2 x3 x4 x5 x6 x7 = bz (h_CB_reckonAnew u x2 x3 x4 x5 x6 x7) := by
  unfold f_LH_sets
  rw [if_neg (show ¬ ((1 : Int32) = 0) by decide), if_pos rfl]
  exact bz3 _
theorem LS_sets_1 {c d : Nat} (hcd : c ≤ d) {s t : am_M} {x2 x3 x4 x5 x6 x7 : Int32} (h : RR c s t) : p_LH_sets s (1 : Int32) x2 x3 x4 x5 x6 x7 ∧ p_LH_sets t (1 : Int32) x2 x3 x4 x5 x6 x7 ∧ ZZ c d t (f_LH_sets s (1 : Int32) x2 x3 x4 x5 x6 x7) (f_LH_sets t (1 : Int32) x2 x3 x4 x5 x6 x7) := by
  have e : ∀ u : am_M, f_LH_sets u (1 : Int32) x2 x3 x4 x5 x6 x7 = bz (h_CB_reckonAnew u x2 x3 x4 x5 x6 x7) := fun u => LE_sets_1
  obtain ⟨⟨ps, pt⟩, e1, f1, z⟩ := zs_reckonAnew hcd h (a1 := x2) (a2 := x3) (a3 := x4) (a4 := x5) (a5 := x6) (a6 := x7)
  refine ⟨?_, ?_, ?_⟩
  · unfold p_LH_sets
    exact ⟨fun q => absurd q (by decide), fun _ => ⟨fun _ => ⟨ps, e1, ⟨fun _ => ⟨fun _ => trivial, fun _ => trivial⟩, fun _ => ⟨fun _ => trivial, fun _ => ⟨fun _ => trivial, fun _ => trivial⟩⟩⟩⟩, fun q => absurd rfl q⟩⟩
  · unfold p_LH_sets
    exact ⟨fun q => absurd q (by decide), fun _ => ⟨fun _ => ⟨pt, f1, ⟨fun _ => ⟨fun _ => trivial, fun _ => trivial⟩, fun _ => ⟨fun _ => trivial, fun _ => ⟨fun _ => trivial, fun _ => trivial⟩⟩⟩⟩, fun q => absurd rfl q⟩⟩
  · rw [e s, e t]; exact z
theorem LS_sets_2 {c d : Nat} (hcd : c ≤ d) {s t : am_M} {x2 x3 x4 x5 x6 x7 : Int32} (h : RR c s t) : p_LH_sets s (2 : Int32) x2 x3 x4 x5 x6 x7 ∧ p_LH_sets t (2 : Int32) x2 x3 x4 x5 x6 x7 ∧ ZZ c d t (f_LH_sets s (2 : Int32) x2 x3 x4 x5 x6 x7) (f_LH_sets t (2 : Int32) x2 x3 x4 x5 x6 x7) := by
  have e : ∀ u : am_M, f_LH_sets u (2 : Int32) x2 x3 x4 x5 x6 x7 = if x4 = (1 : Int32) then bz (h_CB_need u x2 x3 (1 : Int32)) else bz (h_CB_need u x2 x3 (0 : Int32)) := fun u => by
    unfold f_LH_sets
    rw [if_neg (show ¬ ((2 : Int32) = 0) by decide), if_neg (show ¬ ((2 : Int32) = (1 : Int32)) by decide), if_pos rfl, bz3, bz3]
  obtain ⟨⟨ps1, pt1⟩, e1, f1, z1⟩ := zs_need hcd h (Or.inr rfl) (a1 := x2) (a2 := x3) (a3 := (1 : Int32))
  obtain ⟨⟨ps0, pt0⟩, e0, f0, z0⟩ := zs_need hcd h (Or.inl rfl) (a1 := x2) (a2 := x3) (a3 := (0 : Int32))
  refine ⟨?_, ?_, ?_⟩
  · unfold p_LH_sets
    exact ⟨fun q => absurd q (by decide), fun _ => ⟨fun q => absurd q (by decide), fun _ => ⟨fun _ => ⟨fun _ => ⟨ps1, e1, ⟨fun _ => ⟨fun _ => trivial, fun _ => trivial⟩, fun _ => ⟨fun _ => trivial, fun _ => ⟨fun _ => trivial, fun _ => trivial⟩⟩⟩⟩, fun _ => ⟨ps0, e0, ⟨fun _ => ⟨fun _ => trivial, fun _ => trivial⟩, fun _ => ⟨fun _ => trivial, fun _ => ⟨fun _ => trivial, fun _ => trivial⟩⟩⟩⟩⟩, fun q => absurd rfl q⟩⟩⟩
  · unfold p_LH_sets
    exact ⟨fun q => absurd q (by decide), fun _ => ⟨fun q => absurd q (by decide), fun _ => ⟨fun _ => ⟨fun _ => ⟨pt1, f1, ⟨fun _ => ⟨fun _ => trivial, fun _ => trivial⟩, fun _ => ⟨fun _ => trivial, fun _ => ⟨fun _ => trivial, fun _ => trivial⟩⟩⟩⟩, fun _ => ⟨pt0, f0, ⟨fun _ => ⟨fun _ => trivial, fun _ => trivial⟩, fun _ => ⟨fun _ => trivial, fun _ => ⟨fun _ => trivial, fun _ => trivial⟩⟩⟩⟩⟩, fun q => absurd rfl q⟩⟩⟩
  · rw [e s, e t]
    split
    · exact z1
    · exact z0
theorem LS_sets_3 {c d : Nat} (hcd : c ≤ d) {s t : am_M} {x2 x3 x4 x5 x6 x7 : Int32} (h : RR c s t) : p_LH_sets s (3 : Int32) x2 x3 x4 x5 x6 x7 ∧ p_LH_sets t (3 : Int32) x2 x3 x4 x5 x6 x7 ∧ ZZ c d t (f_LH_sets s (3 : Int32) x2 x3 x4 x5 x6 x7) (f_LH_sets t (3 : Int32) x2 x3 x4 x5 x6 x7) := by
  have e : ∀ u : am_M, f_LH_sets u (3 : Int32) x2 x3 x4 x5 x6 x7 = if x4 = (1 : Int32) then bz (h_CB_single u x2 x3 (1 : Int32)) else bz (h_CB_single u x2 x3 (0 : Int32)) := fun u => by
    unfold f_LH_sets
    rw [if_neg (show ¬ ((3 : Int32) = 0) by decide), if_neg (show ¬ ((3 : Int32) = (1 : Int32)) by decide), if_neg (show ¬ ((3 : Int32) = (2 : Int32)) by decide), if_pos rfl, bz3, bz3]
  obtain ⟨⟨ps1, pt1⟩, e1, f1, z1⟩ := zs_single hcd h (Or.inr rfl) (a1 := x2) (a2 := x3) (a3 := (1 : Int32))
  obtain ⟨⟨ps0, pt0⟩, e0, f0, z0⟩ := zs_single hcd h (Or.inl rfl) (a1 := x2) (a2 := x3) (a3 := (0 : Int32))
  refine ⟨?_, ?_, ?_⟩
  · unfold p_LH_sets
    exact ⟨fun q => absurd q (by decide), fun _ => ⟨fun q => absurd q (by decide), fun _ => ⟨fun q => absurd q (by decide), fun _ => ⟨fun _ => ⟨fun _ => ⟨ps1, e1, ⟨fun _ => ⟨fun _ => trivial, fun _ => trivial⟩, fun _ => ⟨fun _ => trivial, fun _ => ⟨fun _ => trivial, fun _ => trivial⟩⟩⟩⟩, fun _ => ⟨ps0, e0, ⟨fun _ => ⟨fun _ => trivial, fun _ => trivial⟩, fun _ => ⟨fun _ => trivial, fun _ => ⟨fun _ => trivial, fun _ => trivial⟩⟩⟩⟩⟩, fun q => absurd rfl q⟩⟩⟩⟩
  · unfold p_LH_sets
    exact ⟨fun q => absurd q (by decide), fun _ => ⟨fun q => absurd q (by decide), fun _ => ⟨fun q => absurd q (by decide), fun _ => ⟨fun _ => ⟨fun _ => ⟨pt1, f1, ⟨fun _ => ⟨fun _ => trivial, fun _ => trivial⟩, fun _ => ⟨fun _ => trivial, fun _ => ⟨fun _ => trivial, fun _ => trivial⟩⟩⟩⟩, fun _ => ⟨pt0, f0, ⟨fun _ => ⟨fun _ => trivial, fun _ => trivial⟩, fun _ => ⟨fun _ => trivial, fun _ => ⟨fun _ => trivial, fun _ => trivial⟩⟩⟩⟩⟩, fun q => absurd rfl q⟩⟩⟩⟩
  · rw [e s, e t]
    split
    · exact z1
    · exact z0
theorem LE_sets_4 {u : am_M} {x2 x3 x4 x5 x6 x7 : Int32} : f_LH_sets u (4 : Int32) x2 x3 x4 x5 x6 x7 = bz (h_CB_narrow u x2 x3 x4 x5) := by
  unfold f_LH_sets
  rw [if_neg (show ¬ ((4 : Int32) = 0) by decide), if_neg (show ¬ ((4 : Int32) = (1 : Int32)) by decide), if_neg (show ¬ ((4 : Int32) = (2 : Int32)) by decide), if_neg (show ¬ ((4 : Int32) = (3 : Int32)) by decide), if_pos rfl]
  exact bz3 _
theorem LS_sets_4 {c d : Nat} (hcd : c ≤ d) {s t : am_M} {x2 x3 x4 x5 x6 x7 : Int32} (h : RR c s t) : p_LH_sets s (4 : Int32) x2 x3 x4 x5 x6 x7 ∧ p_LH_sets t (4 : Int32) x2 x3 x4 x5 x6 x7 ∧ ZZ c d t (f_LH_sets s (4 : Int32) x2 x3 x4 x5 x6 x7) (f_LH_sets t (4 : Int32) x2 x3 x4 x5 x6 x7) := by
  have e : ∀ u : am_M, f_LH_sets u (4 : Int32) x2 x3 x4 x5 x6 x7 = bz (h_CB_narrow u x2 x3 x4 x5) := fun u => LE_sets_4
  obtain ⟨⟨ps, pt⟩, e1, f1, z⟩ := zs_narrow hcd h (a1 := x2) (a2 := x3) (a3 := x4) (a4 := x5)
  refine ⟨?_, ?_, ?_⟩
  · unfold p_LH_sets
    exact ⟨fun q => absurd q (by decide), fun _ => ⟨fun q => absurd q (by decide), fun _ => ⟨fun q => absurd q (by decide), fun _ => ⟨fun q => absurd q (by decide), fun _ => ⟨fun _ => ⟨ps, e1, ⟨fun _ => ⟨fun _ => trivial, fun _ => trivial⟩, fun _ => ⟨fun _ => trivial, fun _ => ⟨fun _ => trivial, fun _ => trivial⟩⟩⟩⟩, fun q => absurd rfl q⟩⟩⟩⟩⟩
  · unfold p_LH_sets
    exact ⟨fun q => absurd q (by decide), fun _ => ⟨fun q => absurd q (by decide), fun _ => ⟨fun q => absurd q (by decide), fun _ => ⟨fun q => absurd q (by decide), fun _ => ⟨fun _ => ⟨pt, f1, ⟨fun _ => ⟨fun _ => trivial, fun _ => trivial⟩, fun _ => ⟨fun _ => trivial, fun _ => ⟨fun _ => trivial, fun _ => trivial⟩⟩⟩⟩, fun q => absurd rfl q⟩⟩⟩⟩⟩
  · rw [e s, e t]; exact z
theorem LE_sets_5 {u : am_M} {x2 x3 x4 x5 x6 x7 : Int32} : f_LH_sets u (5 : Int32) x2 x3 x4 x5 x6 x7 = bz (h_CB_drop u x2 x3) := by
  unfold f_LH_sets
  rw [if_neg (show ¬ ((5 : Int32) = 0) by decide), if_neg (show ¬ ((5 : Int32) = (1 : Int32)) by decide), if_neg (show ¬ ((5 : Int32) = (2 : Int32)) by decide), if_neg (show ¬ ((5 : Int32) = (3 : Int32)) by decide), if_neg (show ¬ ((5 : Int32) = (4 : Int32)) by decide), if_pos rfl]
  exact bz3 _
theorem LS_sets_5 {c d : Nat} (hcd : c ≤ d) {s t : am_M} {x2 x3 x4 x5 x6 x7 : Int32} (h : RR c s t) : p_LH_sets s (5 : Int32) x2 x3 x4 x5 x6 x7 ∧ p_LH_sets t (5 : Int32) x2 x3 x4 x5 x6 x7 ∧ ZZ c d t (f_LH_sets s (5 : Int32) x2 x3 x4 x5 x6 x7) (f_LH_sets t (5 : Int32) x2 x3 x4 x5 x6 x7) := by
  have e : ∀ u : am_M, f_LH_sets u (5 : Int32) x2 x3 x4 x5 x6 x7 = bz (h_CB_drop u x2 x3) := fun u => LE_sets_5
  obtain ⟨⟨ps, pt⟩, e1, f1, z⟩ := zs_drop hcd h (a1 := x2) (a2 := x3)
  refine ⟨?_, ?_, ?_⟩
  · unfold p_LH_sets
    exact ⟨fun q => absurd q (by decide), fun _ => ⟨fun q => absurd q (by decide), fun _ => ⟨fun q => absurd q (by decide), fun _ => ⟨fun q => absurd q (by decide), fun _ => ⟨fun q => absurd q (by decide), fun _ => ⟨fun _ => ⟨ps, e1, ⟨fun _ => ⟨fun _ => trivial, fun _ => trivial⟩, fun _ => ⟨fun _ => trivial, fun _ => ⟨fun _ => trivial, fun _ => trivial⟩⟩⟩⟩, fun q => absurd rfl q⟩⟩⟩⟩⟩⟩
  · unfold p_LH_sets
    exact ⟨fun q => absurd q (by decide), fun _ => ⟨fun q => absurd q (by decide), fun _ => ⟨fun q => absurd q (by decide), fun _ => ⟨fun q => absurd q (by decide), fun _ => ⟨fun q => absurd q (by decide), fun _ => ⟨fun _ => ⟨pt, f1, ⟨fun _ => ⟨fun _ => trivial, fun _ => trivial⟩, fun _ => ⟨fun _ => trivial, fun _ => ⟨fun _ => trivial, fun _ => trivial⟩⟩⟩⟩, fun q => absurd rfl q⟩⟩⟩⟩⟩⟩
  · rw [e s, e t]; exact z
theorem LE_sets_6 {u : am_M} {x2 x3 x4 x5 x6 x7 : Int32} : f_LH_sets u (6 : Int32) x2 x3 x4 x5 x6 x7 = az (h_CB_setRemoval u x2 x3 x4) := by
  unfold f_LH_sets
  rw [if_neg (show ¬ ((6 : Int32) = 0) by decide), if_neg (show ¬ ((6 : Int32) = (1 : Int32)) by decide), if_neg (show ¬ ((6 : Int32) = (2 : Int32)) by decide), if_neg (show ¬ ((6 : Int32) = (3 : Int32)) by decide), if_neg (show ¬ ((6 : Int32) = (4 : Int32)) by decide), if_neg (show ¬ ((6 : Int32) = (5 : Int32)) by decide), if_pos rfl]
  exact az3 _
theorem LS_sets_6 {c d : Nat} (hcd : c ≤ d) {s t : am_M} {x2 x3 x4 x5 x6 x7 : Int32} (h : RR c s t) : p_LH_sets s (6 : Int32) x2 x3 x4 x5 x6 x7 ∧ p_LH_sets t (6 : Int32) x2 x3 x4 x5 x6 x7 ∧ ZZ c d t (f_LH_sets s (6 : Int32) x2 x3 x4 x5 x6 x7) (f_LH_sets t (6 : Int32) x2 x3 x4 x5 x6 x7) := by
  have e : ∀ u : am_M, f_LH_sets u (6 : Int32) x2 x3 x4 x5 x6 x7 = az (h_CB_setRemoval u x2 x3 x4) := fun u => LE_sets_6
  obtain ⟨⟨ps, pt⟩, e1, f1, z⟩ := zs_setRemoval hcd h (a1 := x2) (a2 := x3) (a3 := x4)
  refine ⟨?_, ?_, ?_⟩
  · unfold p_LH_sets
    exact ⟨fun q => absurd q (by decide), fun _ => ⟨fun q => absurd q (by decide), fun _ => ⟨fun q => absurd q (by decide), fun _ => ⟨fun q => absurd q (by decide), fun _ => ⟨fun q => absurd q (by decide), fun _ => ⟨fun q => absurd q (by decide), fun _ => ⟨fun _ => ⟨ps, e1, ⟨fun _ => trivial, fun _ => ⟨fun _ => trivial, fun _ => ⟨fun _ => trivial, fun _ => trivial⟩⟩⟩⟩, fun q => absurd rfl q⟩⟩⟩⟩⟩⟩⟩
  · unfold p_LH_sets
    exact ⟨fun q => absurd q (by decide), fun _ => ⟨fun q => absurd q (by decide), fun _ => ⟨fun q => absurd q (by decide), fun _ => ⟨fun q => absurd q (by decide), fun _ => ⟨fun q => absurd q (by decide), fun _ => ⟨fun q => absurd q (by decide), fun _ => ⟨fun _ => ⟨pt, f1, ⟨fun _ => trivial, fun _ => ⟨fun _ => trivial, fun _ => ⟨fun _ => trivial, fun _ => trivial⟩⟩⟩⟩, fun q => absurd rfl q⟩⟩⟩⟩⟩⟩⟩
  · rw [e s, e t]; exact z
theorem LE_sets_7 {u : am_M} {x2 x3 x4 x5 x6 x7 : Int32} : f_LH_sets u (7 : Int32) x2 x3 x4 x5 x6 x7 = az (h_CB_addRule u x2 x3 x4 x5 x6) := by
  unfold f_LH_sets
  rw [if_neg (show ¬ ((7 : Int32) = 0) by decide), if_neg (show ¬ ((7 : Int32) = (1 : Int32)) by decide), if_neg (show ¬ ((7 : Int32) = (2 : Int32)) by decide), if_neg (show ¬ ((7 : Int32) = (3 : Int32)) by decide), if_neg (show ¬ ((7 : Int32) = (4 : Int32)) by decide), if_neg (show ¬ ((7 : Int32) = (5 : Int32)) by decide), if_neg (show ¬ ((7 : Int32) = (6 : Int32)) by decide), if_pos rfl]
  exact az3 _
theorem LS_sets_7 {c d : Nat} (hcd : c ≤ d) {s t : am_M} {x2 x3 x4 x5 x6 x7 : Int32} (h : RR c s t) : p_LH_sets s (7 : Int32) x2 x3 x4 x5 x6 x7 ∧ p_LH_sets t (7 : Int32) x2 x3 x4 x5 x6 x7 ∧ ZZ c d t (f_LH_sets s (7 : Int32) x2 x3 x4 x5 x6 x7) (f_LH_sets t (7 : Int32) x2 x3 x4 x5 x6 x7) := by
  have e : ∀ u : am_M, f_LH_sets u (7 : Int32) x2 x3 x4 x5 x6 x7 = az (h_CB_addRule u x2 x3 x4 x5 x6) := fun u => LE_sets_7
  obtain ⟨⟨ps, pt⟩, e1, f1, z⟩ := zs_addRule hcd h (a1 := x2) (a2 := x3) (a3 := x4) (a4 := x5) (a5 := x6)
  refine ⟨?_, ?_, ?_⟩
  · unfold p_LH_sets
    exact ⟨fun q => absurd q (by decide), fun _ => ⟨fun q => absurd q (by decide), fun _ => ⟨fun q => absurd q (by decide), fun _ => ⟨fun q => absurd q (by decide), fun _ => ⟨fun q => absurd q (by decide), fun _ => ⟨fun q => absurd q (by decide), fun _ => ⟨fun q => absurd q (by decide), fun _ => ⟨fun _ => ⟨ps, e1, ⟨fun _ => trivial, fun _ => ⟨fun _ => trivial, fun _ => ⟨fun _ => trivial, fun _ => trivial⟩⟩⟩⟩, fun q => absurd rfl q⟩⟩⟩⟩⟩⟩⟩⟩
  · unfold p_LH_sets
    exact ⟨fun q => absurd q (by decide), fun _ => ⟨fun q => absurd q (by decide), fun _ => ⟨fun q => absurd q (by decide), fun _ => ⟨fun q => absurd q (by decide), fun _ => ⟨fun q => absurd q (by decide), fun _ => ⟨fun q => absurd q (by decide), fun _ => ⟨fun q => absurd q (by decide), fun _ => ⟨fun _ => ⟨pt, f1, ⟨fun _ => trivial, fun _ => ⟨fun _ => trivial, fun _ => ⟨fun _ => trivial, fun _ => trivial⟩⟩⟩⟩, fun q => absurd rfl q⟩⟩⟩⟩⟩⟩⟩⟩
  · rw [e s, e t]; exact z
theorem LE_sets_8 {u : am_M} {x2 x3 x4 x5 x6 x7 : Int32} : f_LH_sets u (8 : Int32) x2 x3 x4 x5 x6 x7 = bz (h_CB_put u x2 x3 x4 x5) := by
  unfold f_LH_sets
  rw [if_neg (show ¬ ((8 : Int32) = 0) by decide), if_neg (show ¬ ((8 : Int32) = (1 : Int32)) by decide), if_neg (show ¬ ((8 : Int32) = (2 : Int32)) by decide), if_neg (show ¬ ((8 : Int32) = (3 : Int32)) by decide), if_neg (show ¬ ((8 : Int32) = (4 : Int32)) by decide), if_neg (show ¬ ((8 : Int32) = (5 : Int32)) by decide), if_neg (show ¬ ((8 : Int32) = (6 : Int32)) by decide), if_neg (show ¬ ((8 : Int32) = (7 : Int32)) by decide), if_pos rfl]
  exact bz3 _
theorem LS_sets_8 {c d : Nat} (hcd : c ≤ d) {s t : am_M} {x2 x3 x4 x5 x6 x7 : Int32} (h : RR c s t) : p_LH_sets s (8 : Int32) x2 x3 x4 x5 x6 x7 ∧ p_LH_sets t (8 : Int32) x2 x3 x4 x5 x6 x7 ∧ ZZ c d t (f_LH_sets s (8 : Int32) x2 x3 x4 x5 x6 x7) (f_LH_sets t (8 : Int32) x2 x3 x4 x5 x6 x7) := by
  have e : ∀ u : am_M, f_LH_sets u (8 : Int32) x2 x3 x4 x5 x6 x7 = bz (h_CB_put u x2 x3 x4 x5) := fun u => LE_sets_8
  obtain ⟨⟨ps, pt⟩, e1, f1, z⟩ := zs_put hcd h (a1 := x2) (a2 := x3) (a3 := x4) (a4 := x5)
  refine ⟨?_, ?_, ?_⟩
  · unfold p_LH_sets
    exact ⟨fun q => absurd q (by decide), fun _ => ⟨fun q => absurd q (by decide), fun _ => ⟨fun q => absurd q (by decide), fun _ => ⟨fun q => absurd q (by decide), fun _ => ⟨fun q => absurd q (by decide), fun _ => ⟨fun q => absurd q (by decide), fun _ => ⟨fun q => absurd q (by decide), fun _ => ⟨fun q => absurd q (by decide), fun _ => ⟨fun _ => ⟨ps, e1, ⟨fun _ => ⟨fun _ => trivial, fun _ => trivial⟩, fun _ => ⟨fun _ => trivial, fun _ => ⟨fun _ => trivial, fun _ => trivial⟩⟩⟩⟩, fun q => absurd rfl q⟩⟩⟩⟩⟩⟩⟩⟩⟩
  · unfold p_LH_sets
    exact ⟨fun q => absurd q (by decide), fun _ => ⟨fun q => absurd q (by decide), fun _ => ⟨fun q => absurd q (by decide), fun _ => ⟨fun q => absurd q (by decide), fun _ => ⟨fun q => absurd q (by decide), fun _ => ⟨fun q => absurd q (by decide), fun _ => ⟨fun q => absurd q (by decide), fun _ => ⟨fun q => absurd q (by decide), fun _ => ⟨fun _ => ⟨pt, f1, ⟨fun _ => ⟨fun _ => trivial, fun _ => trivial⟩, fun _ => ⟨fun _ => trivial, fun _ => ⟨fun _ => trivial, fun _ => trivial⟩⟩⟩⟩, fun q => absurd rfl q⟩⟩⟩⟩⟩⟩⟩⟩⟩
  · rw [e s, e t]; exact z
theorem LE_sets_9 {u : am_M} {x2 x3 x4 x5 x6 x7 : Int32} : f_LH_sets u (9 : Int32) x2 x3 x4 x5 x6 x7 = az (h_CB_choice u x2 x3 x4 x5) := by
  unfold f_LH_sets
  rw [if_neg (show ¬ ((9 : Int32) = 0) by decide), if_neg (show ¬ ((9 : Int32) = (1 : Int32)) by decide), if_neg (show ¬ ((9 : Int32) = (2 : Int32)) by decide), if_neg (show ¬ ((9 : Int32) = (3 : Int32)) by decide), if_neg (show ¬ ((9 : Int32) = (4 : Int32)) by decide), if_neg (show ¬ ((9 : Int32) = (5 : Int32)) by decide), if_neg (show ¬ ((9 : Int32) = (6 : Int32)) by decide), if_neg (show ¬ ((9 : Int32) = (7 : Int32)) by decide), if_neg (show ¬ ((9 : Int32) = (8 : Int32)) by decide), if_pos rfl]
  exact az3 _
theorem LS_sets_9 {c d : Nat} (hcd : c ≤ d) {s t : am_M} {x2 x3 x4 x5 x6 x7 : Int32} (h : RR c s t) : p_LH_sets s (9 : Int32) x2 x3 x4 x5 x6 x7 ∧ p_LH_sets t (9 : Int32) x2 x3 x4 x5 x6 x7 ∧ (f_LH_sets t (9 : Int32) x2 x3 x4 x5 x6 x7).1 = (f_LH_sets s (9 : Int32) x2 x3 x4 x5 x6 x7).1 ∧ RR d (f_LH_sets s (9 : Int32) x2 x3 x4 x5 x6 x7).2 (f_LH_sets t (9 : Int32) x2 x3 x4 x5 x6 x7).2 ∧ ∀ u : am_M, f_LH_sets u (9 : Int32) x2 x3 x4 x5 x6 x7 = az (h_CB_choice u x2 x3 x4 x5) := by
  have e : ∀ u : am_M, f_LH_sets u (9 : Int32) x2 x3 x4 x5 x6 x7 = az (h_CB_choice u x2 x3 x4 x5) := fun u => LE_sets_9
  obtain ⟨⟨ps, pt⟩, e1, f1, z⟩ := zs_choice hcd h (a1 := x2) (a2 := x3) (a3 := x4) (a4 := x5)
  refine ⟨?_, ?_, ?_, ?_, e⟩
  · unfold p_LH_sets
    exact ⟨fun q => absurd q (by decide), fun _ => ⟨fun q => absurd q (by decide), fun _ => ⟨fun q => absurd q (by decide), fun _ => ⟨fun q => absurd q (by decide), fun _ => ⟨fun q => absurd q (by decide), fun _ => ⟨fun q => absurd q (by decide), fun _ => ⟨fun q => absurd q (by decide), fun _ => ⟨fun q => absurd q (by decide), fun _ => ⟨fun q => absurd q (by decide), fun _ => ⟨fun _ => ⟨ps, e1, ⟨fun _ => trivial, fun _ => ⟨fun _ => trivial, fun _ => ⟨fun _ => trivial, fun _ => trivial⟩⟩⟩⟩, fun q => absurd rfl q⟩⟩⟩⟩⟩⟩⟩⟩⟩⟩
  · unfold p_LH_sets
    exact ⟨fun q => absurd q (by decide), fun _ => ⟨fun q => absurd q (by decide), fun _ => ⟨fun q => absurd q (by decide), fun _ => ⟨fun q => absurd q (by decide), fun _ => ⟨fun q => absurd q (by decide), fun _ => ⟨fun q => absurd q (by decide), fun _ => ⟨fun q => absurd q (by decide), fun _ => ⟨fun q => absurd q (by decide), fun _ => ⟨fun q => absurd q (by decide), fun _ => ⟨fun _ => ⟨pt, f1, ⟨fun _ => trivial, fun _ => ⟨fun _ => trivial, fun _ => ⟨fun _ => trivial, fun _ => trivial⟩⟩⟩⟩, fun q => absurd rfl q⟩⟩⟩⟩⟩⟩⟩⟩⟩⟩
  · rw [e s, e t]
    unfold az
    by_cases p : (h_CB_choice s x2 x3 x4 x5).1 = 0
    · rw [if_pos p, if_pos (z.1.mp p)]; exact (z.2 p).1.symm
    · rw [if_neg p, if_neg (fun q => p (z.1.mpr q))]
  · rw [e s, e t]
    unfold az
    by_cases p : (h_CB_choice s x2 x3 x4 x5).1 = 0
    · rw [if_pos p, if_pos (z.1.mp p)]; exact (z.2 p).2
    · have q : ¬ (h_CB_choice t x2 x3 x4 x5).1 = 0 := fun q => p (z.1.mpr q)
      rw [if_neg p, if_neg q]
      obtain ⟨p1, p2⟩ := zt_choice h.1 ps p
      obtain ⟨q1, q2⟩ := zt_choice h.2.1 pt q
      exact RR_mo ⟨p1, q1, gq_tr p2 (gq_tr h.2.2 (gq_sy q2))⟩ hcd
theorem LE_asks_0 {u : am_M} {x2 x3 x4 x5 x6 : Int32} : f_LH_asks u (0 : Int32) x2 x3 x4 x5 x6 = az (h_CB_ask u x2 x3) := by
  unfold f_LH_asks
  rw [if_pos rfl]
  exact az3 _
theorem LS_asks_0 {c d : Nat} (hcd : c ≤ d) {s t : am_M} {x2 x3 x4 x5 x6 : Int32} (h : RR c s t) : p_LH_asks s (0 : Int32) x2 x3 x4 x5 x6 ∧ p_LH_asks t (0 : Int32) x2 x3 x4 x5 x6 ∧ ZZ c d t (f_LH_asks s (0 : Int32) x2 x3 x4 x5 x6) (f_LH_asks t (0 : Int32) x2 x3 x4 x5 x6) := by
  have e : ∀ u : am_M, f_LH_asks u (0 : Int32) x2 x3 x4 x5 x6 = az (h_CB_ask u x2 x3) := fun u => LE_asks_0
  obtain ⟨⟨ps, pt⟩, e1, f1, z⟩ := zs_ask hcd h (a1 := x2) (a2 := x3)
  refine ⟨?_, ?_, ?_⟩
  · unfold p_LH_asks
    exact ⟨fun _ => ⟨ps, e1, ⟨fun _ => trivial, fun _ => ⟨fun _ => trivial, fun _ => ⟨fun _ => trivial, fun _ => trivial⟩⟩⟩⟩, fun q => absurd rfl q⟩
  · unfold p_LH_asks
    exact ⟨fun _ => ⟨pt, f1, ⟨fun _ => trivial, fun _ => ⟨fun _ => trivial, fun _ => ⟨fun _ => trivial, fun _ => trivial⟩⟩⟩⟩, fun q => absurd rfl q⟩
  · rw [e s, e t]; exact z
theorem LE_asks_1 {u : am_M} {x2 x3 x4 x5 x6 : Int32} : f_LH_asks u (1 : Int32) x2 x3 x4 x5 x6 = az (h_CB_condition u x2 x3 x4 x5 x6) := by
  unfold f_LH_asks
  rw [if_neg (show ¬ ((1 : Int32) = 0) by decide), if_pos rfl]
  exact az3 _
theorem LS_asks_1 {c d : Nat} (hcd : c ≤ d) {s t : am_M} {x2 x3 x4 x5 x6 : Int32} (h : RR c s t) : p_LH_asks s (1 : Int32) x2 x3 x4 x5 x6 ∧ p_LH_asks t (1 : Int32) x2 x3 x4 x5 x6 ∧ ZZ c d t (f_LH_asks s (1 : Int32) x2 x3 x4 x5 x6) (f_LH_asks t (1 : Int32) x2 x3 x4 x5 x6) := by
  have e : ∀ u : am_M, f_LH_asks u (1 : Int32) x2 x3 x4 x5 x6 = az (h_CB_condition u x2 x3 x4 x5 x6) := fun u => LE_asks_1
  obtain ⟨⟨ps, pt⟩, e1, f1, z⟩ := zs_condition hcd h (a1 := x2) (a2 := x3) (a3 := x4) (a4 := x5) (a5 := x6)
  refine ⟨?_, ?_, ?_⟩
  · unfold p_LH_asks
    exact ⟨fun q => absurd q (by decide), fun _ => ⟨fun _ => ⟨ps, e1, ⟨fun _ => trivial, fun _ => ⟨fun _ => trivial, fun _ => ⟨fun _ => trivial, fun _ => trivial⟩⟩⟩⟩, fun q => absurd rfl q⟩⟩
  · unfold p_LH_asks
    exact ⟨fun q => absurd q (by decide), fun _ => ⟨fun _ => ⟨pt, f1, ⟨fun _ => trivial, fun _ => ⟨fun _ => trivial, fun _ => ⟨fun _ => trivial, fun _ => trivial⟩⟩⟩⟩, fun q => absurd rfl q⟩⟩
  · rw [e s, e t]; exact z
theorem LE_asks_2 {u : am_M} {x2 x3 x4 x5 x6 : Int32} : f_LH_asks u (2 : Int32) x2 x3 x4 x5 x6 = az (h_CB_askGroups u x2 x3 x4) := by
  unfold f_LH_asks
  rw [if_neg (show ¬ ((2 : Int32) = 0) by decide), if_neg (show ¬ ((2 : Int32) = (1 : Int32)) by decide), if_pos rfl]
  exact az3 _
theorem LS_asks_2 {c d : Nat} (hcd : c ≤ d) {s t : am_M} {x2 x3 x4 x5 x6 : Int32} (h : RR c s t) : p_LH_asks s (2 : Int32) x2 x3 x4 x5 x6 ∧ p_LH_asks t (2 : Int32) x2 x3 x4 x5 x6 ∧ ZZ c d t (f_LH_asks s (2 : Int32) x2 x3 x4 x5 x6) (f_LH_asks t (2 : Int32) x2 x3 x4 x5 x6) := by
  have e : ∀ u : am_M, f_LH_asks u (2 : Int32) x2 x3 x4 x5 x6 = az (h_CB_askGroups u x2 x3 x4) := fun u => LE_asks_2
  obtain ⟨⟨ps, pt⟩, e1, f1, z⟩ := zs_askGroups hcd h (a1 := x2) (a2 := x3) (a3 := x4)
  refine ⟨?_, ?_, ?_⟩
  · unfold p_LH_asks
    exact ⟨fun q => absurd q (by decide), fun _ => ⟨fun q => absurd q (by decide), fun _ => ⟨fun _ => ⟨ps, e1, ⟨fun _ => trivial, fun _ => ⟨fun _ => trivial, fun _ => ⟨fun _ => trivial, fun _ => trivial⟩⟩⟩⟩, fun q => absurd rfl q⟩⟩⟩
  · unfold p_LH_asks
    exact ⟨fun q => absurd q (by decide), fun _ => ⟨fun q => absurd q (by decide), fun _ => ⟨fun _ => ⟨pt, f1, ⟨fun _ => trivial, fun _ => ⟨fun _ => trivial, fun _ => ⟨fun _ => trivial, fun _ => trivial⟩⟩⟩⟩, fun q => absurd rfl q⟩⟩⟩
  · rw [e s, e t]; exact z
theorem LE_asks_3 {u : am_M} {x2 x3 x4 x5 x6 : Int32} : f_LH_asks u (3 : Int32) x2 x3 x4 x5 x6 = az (h_CB_askCross u x2 x3 x4 x5) := by
  unfold f_LH_asks
  rw [if_neg (show ¬ ((3 : Int32) = 0) by decide), if_neg (show ¬ ((3 : Int32) = (1 : Int32)) by decide), if_neg (show ¬ ((3 : Int32) = (2 : Int32)) by decide), if_pos rfl]
  exact az3 _
theorem LS_asks_3 {c d : Nat} (hcd : c ≤ d) {s t : am_M} {x2 x3 x4 x5 x6 : Int32} (h : RR c s t) : p_LH_asks s (3 : Int32) x2 x3 x4 x5 x6 ∧ p_LH_asks t (3 : Int32) x2 x3 x4 x5 x6 ∧ ZZ c d t (f_LH_asks s (3 : Int32) x2 x3 x4 x5 x6) (f_LH_asks t (3 : Int32) x2 x3 x4 x5 x6) := by
  have e : ∀ u : am_M, f_LH_asks u (3 : Int32) x2 x3 x4 x5 x6 = az (h_CB_askCross u x2 x3 x4 x5) := fun u => LE_asks_3
  obtain ⟨⟨ps, pt⟩, e1, f1, z⟩ := zs_askCross hcd h (a1 := x2) (a2 := x3) (a3 := x4) (a4 := x5)
  refine ⟨?_, ?_, ?_⟩
  · unfold p_LH_asks
    exact ⟨fun q => absurd q (by decide), fun _ => ⟨fun q => absurd q (by decide), fun _ => ⟨fun q => absurd q (by decide), fun _ => ⟨fun _ => ⟨ps, e1, ⟨fun _ => trivial, fun _ => ⟨fun _ => trivial, fun _ => ⟨fun _ => trivial, fun _ => trivial⟩⟩⟩⟩, fun q => absurd rfl q⟩⟩⟩⟩
  · unfold p_LH_asks
    exact ⟨fun q => absurd q (by decide), fun _ => ⟨fun q => absurd q (by decide), fun _ => ⟨fun q => absurd q (by decide), fun _ => ⟨fun _ => ⟨pt, f1, ⟨fun _ => trivial, fun _ => ⟨fun _ => trivial, fun _ => ⟨fun _ => trivial, fun _ => trivial⟩⟩⟩⟩, fun q => absurd rfl q⟩⟩⟩⟩
  · rw [e s, e t]; exact z
theorem LE_asks_6 {u : am_M} {x2 x3 x4 x5 x6 : Int32} : f_LH_asks u (6 : Int32) x2 x3 x4 x5 x6 = bz (h_CB_write u x2 x3 x4 x5) := by
  unfold f_LH_asks
  rw [if_neg (show ¬ ((6 : Int32) = 0) by decide), if_neg (show ¬ ((6 : Int32) = (1 : Int32)) by decide), if_neg (show ¬ ((6 : Int32) = (2 : Int32)) by decide), if_neg (show ¬ ((6 : Int32) = (3 : Int32)) by decide), if_neg (show ¬ ((6 : Int32) = (4 : Int32)) by decide), if_neg (show ¬ ((6 : Int32) = (5 : Int32)) by decide), if_pos rfl]
  exact bz3 _
theorem LS_asks_6 {c d : Nat} (hcd : c ≤ d) {s t : am_M} {x2 x3 x4 x5 x6 : Int32} (h : RR c s t) : p_LH_asks s (6 : Int32) x2 x3 x4 x5 x6 ∧ p_LH_asks t (6 : Int32) x2 x3 x4 x5 x6 ∧ ZZ c d t (f_LH_asks s (6 : Int32) x2 x3 x4 x5 x6) (f_LH_asks t (6 : Int32) x2 x3 x4 x5 x6) := by
  have e : ∀ u : am_M, f_LH_asks u (6 : Int32) x2 x3 x4 x5 x6 = bz (h_CB_write u x2 x3 x4 x5) := fun u => LE_asks_6
  obtain ⟨⟨ps, pt⟩, e1, f1, z⟩ := zs_write hcd h (a1 := x2) (a2 := x3) (a3 := x4) (a4 := x5)
  refine ⟨?_, ?_, ?_⟩
  · unfold p_LH_asks
    exact ⟨fun q => absurd q (by decide), fun _ => ⟨fun q => absurd q (by decide), fun _ => ⟨fun q => absurd q (by decide), fun _ => ⟨fun q => absurd q (by decide), fun _ => ⟨fun q => absurd q (by decide), fun _ => ⟨fun q => absurd q (by decide), fun _ => ⟨fun _ => ⟨ps, e1, ⟨fun _ => ⟨fun _ => trivial, fun _ => trivial⟩, fun _ => ⟨fun _ => trivial, fun _ => ⟨fun _ => trivial, fun _ => trivial⟩⟩⟩⟩, fun q => absurd rfl q⟩⟩⟩⟩⟩⟩⟩
  · unfold p_LH_asks
    exact ⟨fun q => absurd q (by decide), fun _ => ⟨fun q => absurd q (by decide), fun _ => ⟨fun q => absurd q (by decide), fun _ => ⟨fun q => absurd q (by decide), fun _ => ⟨fun q => absurd q (by decide), fun _ => ⟨fun q => absurd q (by decide), fun _ => ⟨fun _ => ⟨pt, f1, ⟨fun _ => ⟨fun _ => trivial, fun _ => trivial⟩, fun _ => ⟨fun _ => trivial, fun _ => ⟨fun _ => trivial, fun _ => trivial⟩⟩⟩⟩, fun q => absurd rfl q⟩⟩⟩⟩⟩⟩⟩
  · rw [e s, e t]; exact z
theorem LE_asks_7 {u : am_M} {x2 x3 x4 x5 x6 : Int32} : f_LH_asks u (7 : Int32) x2 x3 x4 x5 x6 = az (h_CB_stepPut u x2 x3 x4 x5) := by
  unfold f_LH_asks
  rw [if_neg (show ¬ ((7 : Int32) = 0) by decide), if_neg (show ¬ ((7 : Int32) = (1 : Int32)) by decide), if_neg (show ¬ ((7 : Int32) = (2 : Int32)) by decide), if_neg (show ¬ ((7 : Int32) = (3 : Int32)) by decide), if_neg (show ¬ ((7 : Int32) = (4 : Int32)) by decide), if_neg (show ¬ ((7 : Int32) = (5 : Int32)) by decide), if_neg (show ¬ ((7 : Int32) = (6 : Int32)) by decide), if_pos rfl]
  exact az3 _
theorem LS_asks_7 {c d : Nat} (hcd : c ≤ d) {s t : am_M} {x2 x3 x4 x5 x6 : Int32} (h : RR c s t) : p_LH_asks s (7 : Int32) x2 x3 x4 x5 x6 ∧ p_LH_asks t (7 : Int32) x2 x3 x4 x5 x6 ∧ ZZ c d t (f_LH_asks s (7 : Int32) x2 x3 x4 x5 x6) (f_LH_asks t (7 : Int32) x2 x3 x4 x5 x6) := by
  have e : ∀ u : am_M, f_LH_asks u (7 : Int32) x2 x3 x4 x5 x6 = az (h_CB_stepPut u x2 x3 x4 x5) := fun u => LE_asks_7
  obtain ⟨⟨ps, pt⟩, e1, f1, z⟩ := zs_stepPut hcd h (a1 := x2) (a2 := x3) (a3 := x4) (a4 := x5)
  refine ⟨?_, ?_, ?_⟩
  · unfold p_LH_asks
    exact ⟨fun q => absurd q (by decide), fun _ => ⟨fun q => absurd q (by decide), fun _ => ⟨fun q => absurd q (by decide), fun _ => ⟨fun q => absurd q (by decide), fun _ => ⟨fun q => absurd q (by decide), fun _ => ⟨fun q => absurd q (by decide), fun _ => ⟨fun q => absurd q (by decide), fun _ => ⟨fun _ => ⟨ps, e1, ⟨fun _ => trivial, fun _ => ⟨fun _ => trivial, fun _ => ⟨fun _ => trivial, fun _ => trivial⟩⟩⟩⟩, fun q => absurd rfl q⟩⟩⟩⟩⟩⟩⟩⟩
  · unfold p_LH_asks
    exact ⟨fun q => absurd q (by decide), fun _ => ⟨fun q => absurd q (by decide), fun _ => ⟨fun q => absurd q (by decide), fun _ => ⟨fun q => absurd q (by decide), fun _ => ⟨fun q => absurd q (by decide), fun _ => ⟨fun q => absurd q (by decide), fun _ => ⟨fun q => absurd q (by decide), fun _ => ⟨fun _ => ⟨pt, f1, ⟨fun _ => trivial, fun _ => ⟨fun _ => trivial, fun _ => ⟨fun _ => trivial, fun _ => trivial⟩⟩⟩⟩, fun q => absurd rfl q⟩⟩⟩⟩⟩⟩⟩⟩
  · rw [e s, e t]; exact z
theorem LE_asks_8 {u : am_M} {x2 x3 x4 x5 x6 : Int32} : f_LH_asks u (8 : Int32) x2 x3 x4 x5 x6 = az (h_CB_stepAdd u x2 x3) := by
  unfold f_LH_asks
  rw [if_neg (show ¬ ((8 : Int32) = 0) by decide), if_neg (show ¬ ((8 : Int32) = (1 : Int32)) by decide), if_neg (show ¬ ((8 : Int32) = (2 : Int32)) by decide), if_neg (show ¬ ((8 : Int32) = (3 : Int32)) by decide), if_neg (show ¬ ((8 : Int32) = (4 : Int32)) by decide), if_neg (show ¬ ((8 : Int32) = (5 : Int32)) by decide), if_neg (show ¬ ((8 : Int32) = (6 : Int32)) by decide), if_neg (show ¬ ((8 : Int32) = (7 : Int32)) by decide), if_pos rfl]
  exact az3 _
theorem LS_asks_8 {c d : Nat} (hcd : c ≤ d) {s t : am_M} {x2 x3 x4 x5 x6 : Int32} (h : RR c s t) : p_LH_asks s (8 : Int32) x2 x3 x4 x5 x6 ∧ p_LH_asks t (8 : Int32) x2 x3 x4 x5 x6 ∧ ZZ c d t (f_LH_asks s (8 : Int32) x2 x3 x4 x5 x6) (f_LH_asks t (8 : Int32) x2 x3 x4 x5 x6) := by
  have e : ∀ u : am_M, f_LH_asks u (8 : Int32) x2 x3 x4 x5 x6 = az (h_CB_stepAdd u x2 x3) := fun u => LE_asks_8
  obtain ⟨⟨ps, pt⟩, e1, f1, z⟩ := zs_stepAdd hcd h (a1 := x2) (a2 := x3)
  refine ⟨?_, ?_, ?_⟩
  · unfold p_LH_asks
    exact ⟨fun q => absurd q (by decide), fun _ => ⟨fun q => absurd q (by decide), fun _ => ⟨fun q => absurd q (by decide), fun _ => ⟨fun q => absurd q (by decide), fun _ => ⟨fun q => absurd q (by decide), fun _ => ⟨fun q => absurd q (by decide), fun _ => ⟨fun q => absurd q (by decide), fun _ => ⟨fun q => absurd q (by decide), fun _ => ⟨fun _ => ⟨ps, e1, ⟨fun _ => trivial, fun _ => ⟨fun _ => trivial, fun _ => ⟨fun _ => trivial, fun _ => trivial⟩⟩⟩⟩, fun q => absurd rfl q⟩⟩⟩⟩⟩⟩⟩⟩⟩
  · unfold p_LH_asks
    exact ⟨fun q => absurd q (by decide), fun _ => ⟨fun q => absurd q (by decide), fun _ => ⟨fun q => absurd q (by decide), fun _ => ⟨fun q => absurd q (by decide), fun _ => ⟨fun q => absurd q (by decide), fun _ => ⟨fun q => absurd q (by decide), fun _ => ⟨fun q => absurd q (by decide), fun _ => ⟨fun q => absurd q (by decide), fun _ => ⟨fun _ => ⟨pt, f1, ⟨fun _ => trivial, fun _ => ⟨fun _ => trivial, fun _ => ⟨fun _ => trivial, fun _ => trivial⟩⟩⟩⟩, fun q => absurd rfl q⟩⟩⟩⟩⟩⟩⟩⟩⟩
  · rw [e s, e t]; exact z
theorem LE_asks_9 {u : am_M} {x2 x3 x4 x5 x6 : Int32} : f_LH_asks u (9 : Int32) x2 x3 x4 x5 x6 = az (h_CB_stepRemove u x2 x3 x4) := by
  unfold f_LH_asks
  rw [if_neg (show ¬ ((9 : Int32) = 0) by decide), if_neg (show ¬ ((9 : Int32) = (1 : Int32)) by decide), if_neg (show ¬ ((9 : Int32) = (2 : Int32)) by decide), if_neg (show ¬ ((9 : Int32) = (3 : Int32)) by decide), if_neg (show ¬ ((9 : Int32) = (4 : Int32)) by decide), if_neg (show ¬ ((9 : Int32) = (5 : Int32)) by decide), if_neg (show ¬ ((9 : Int32) = (6 : Int32)) by decide), if_neg (show ¬ ((9 : Int32) = (7 : Int32)) by decide), if_neg (show ¬ ((9 : Int32) = (8 : Int32)) by decide), if_pos rfl]
  exact az3 _
theorem LS_asks_9 {c d : Nat} (hcd : c ≤ d) {s t : am_M} {x2 x3 x4 x5 x6 : Int32} (h : RR c s t) : p_LH_asks s (9 : Int32) x2 x3 x4 x5 x6 ∧ p_LH_asks t (9 : Int32) x2 x3 x4 x5 x6 ∧ ZZ c d t (f_LH_asks s (9 : Int32) x2 x3 x4 x5 x6) (f_LH_asks t (9 : Int32) x2 x3 x4 x5 x6) := by
  have e : ∀ u : am_M, f_LH_asks u (9 : Int32) x2 x3 x4 x5 x6 = az (h_CB_stepRemove u x2 x3 x4) := fun u => LE_asks_9
  obtain ⟨⟨ps, pt⟩, e1, f1, z⟩ := zs_stepRemove hcd h (a1 := x2) (a2 := x3) (a3 := x4)
  refine ⟨?_, ?_, ?_⟩
  · unfold p_LH_asks
    exact ⟨fun q => absurd q (by decide), fun _ => ⟨fun q => absurd q (by decide), fun _ => ⟨fun q => absurd q (by decide), fun _ => ⟨fun q => absurd q (by decide), fun _ => ⟨fun q => absurd q (by decide), fun _ => ⟨fun q => absurd q (by decide), fun _ => ⟨fun q => absurd q (by decide), fun _ => ⟨fun q => absurd q (by decide), fun _ => ⟨fun q => absurd q (by decide), fun _ => ⟨fun _ => ⟨ps, e1, ⟨fun _ => trivial, fun _ => ⟨fun _ => trivial, fun _ => ⟨fun _ => trivial, fun _ => trivial⟩⟩⟩⟩, fun q => absurd rfl q⟩⟩⟩⟩⟩⟩⟩⟩⟩⟩
  · unfold p_LH_asks
    exact ⟨fun q => absurd q (by decide), fun _ => ⟨fun q => absurd q (by decide), fun _ => ⟨fun q => absurd q (by decide), fun _ => ⟨fun q => absurd q (by decide), fun _ => ⟨fun q => absurd q (by decide), fun _ => ⟨fun q => absurd q (by decide), fun _ => ⟨fun q => absurd q (by decide), fun _ => ⟨fun q => absurd q (by decide), fun _ => ⟨fun q => absurd q (by decide), fun _ => ⟨fun _ => ⟨pt, f1, ⟨fun _ => trivial, fun _ => ⟨fun _ => trivial, fun _ => ⟨fun _ => trivial, fun _ => trivial⟩⟩⟩⟩, fun q => absurd rfl q⟩⟩⟩⟩⟩⟩⟩⟩⟩⟩
  · rw [e s, e t]; exact z
theorem LE_asks_10 {u : am_M} {x2 x3 x4 x5 x6 : Int32} : f_LH_asks u (10 : Int32) x2 x3 x4 x5 x6 = az (h_CB_stepIf u x2 x3 x4) := by
  unfold f_LH_asks
  rw [if_neg (show ¬ ((10 : Int32) = 0) by decide), if_neg (show ¬ ((10 : Int32) = (1 : Int32)) by decide), if_neg (show ¬ ((10 : Int32) = (2 : Int32)) by decide), if_neg (show ¬ ((10 : Int32) = (3 : Int32)) by decide), if_neg (show ¬ ((10 : Int32) = (4 : Int32)) by decide), if_neg (show ¬ ((10 : Int32) = (5 : Int32)) by decide), if_neg (show ¬ ((10 : Int32) = (6 : Int32)) by decide), if_neg (show ¬ ((10 : Int32) = (7 : Int32)) by decide), if_neg (show ¬ ((10 : Int32) = (8 : Int32)) by decide), if_neg (show ¬ ((10 : Int32) = (9 : Int32)) by decide), if_pos rfl]
  exact az3 _
theorem LS_asks_10 {c d : Nat} (hcd : c ≤ d) {s t : am_M} {x2 x3 x4 x5 x6 : Int32} (h : RR c s t) : p_LH_asks s (10 : Int32) x2 x3 x4 x5 x6 ∧ p_LH_asks t (10 : Int32) x2 x3 x4 x5 x6 ∧ ZZ c d t (f_LH_asks s (10 : Int32) x2 x3 x4 x5 x6) (f_LH_asks t (10 : Int32) x2 x3 x4 x5 x6) := by
  have e : ∀ u : am_M, f_LH_asks u (10 : Int32) x2 x3 x4 x5 x6 = az (h_CB_stepIf u x2 x3 x4) := fun u => LE_asks_10
  obtain ⟨⟨ps, pt⟩, e1, f1, z⟩ := zs_stepIf hcd h (a1 := x2) (a2 := x3) (a3 := x4)
  refine ⟨?_, ?_, ?_⟩
  · unfold p_LH_asks
    exact ⟨fun q => absurd q (by decide), fun _ => ⟨fun q => absurd q (by decide), fun _ => ⟨fun q => absurd q (by decide), fun _ => ⟨fun q => absurd q (by decide), fun _ => ⟨fun q => absurd q (by decide), fun _ => ⟨fun q => absurd q (by decide), fun _ => ⟨fun q => absurd q (by decide), fun _ => ⟨fun q => absurd q (by decide), fun _ => ⟨fun q => absurd q (by decide), fun _ => ⟨fun q => absurd q (by decide), fun _ => ⟨fun _ => ⟨ps, e1, ⟨fun _ => trivial, fun _ => ⟨fun _ => trivial, fun _ => ⟨fun _ => trivial, fun _ => trivial⟩⟩⟩⟩, fun q => absurd rfl q⟩⟩⟩⟩⟩⟩⟩⟩⟩⟩⟩
  · unfold p_LH_asks
    exact ⟨fun q => absurd q (by decide), fun _ => ⟨fun q => absurd q (by decide), fun _ => ⟨fun q => absurd q (by decide), fun _ => ⟨fun q => absurd q (by decide), fun _ => ⟨fun q => absurd q (by decide), fun _ => ⟨fun q => absurd q (by decide), fun _ => ⟨fun q => absurd q (by decide), fun _ => ⟨fun q => absurd q (by decide), fun _ => ⟨fun q => absurd q (by decide), fun _ => ⟨fun q => absurd q (by decide), fun _ => ⟨fun _ => ⟨pt, f1, ⟨fun _ => trivial, fun _ => ⟨fun _ => trivial, fun _ => ⟨fun _ => trivial, fun _ => trivial⟩⟩⟩⟩, fun q => absurd rfl q⟩⟩⟩⟩⟩⟩⟩⟩⟩⟩⟩
  · rw [e s, e t]; exact z
end
