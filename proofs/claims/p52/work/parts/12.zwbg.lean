noncomputable section
theorem zt_stepPut {c : Nat} {s : am_M} {a1 a2 a3 a4 : Int32} (h : pu_R c s) (ps : p_CB_stepPut s a1 a2 a3 a4) : (h_CB_stepPut s a1 a2 a3 a4).1 ≠ 0 → pu_R c (h_CB_stepPut s a1 a2 a3 a4).2.2 ∧ gq (h_CB_stepPut s a1 a2 a3 a4).2.2 s :=
  zt_gen (f := f_CB_stepPut s a1 a2 a3 a4) (g := (f_MO_stepPut (f_LA_stepPut s a1 a2 a3 a4).2 a1 a2 a3 a4).2) (fun q => ⟨th_stepPut h q, fun a h1 _ => wl_CB_stepPut h1 ps⟩)
theorem zs_stepPut {c d : Nat} (hcd : c ≤ d) {s t : am_M} {a1 a2 a3 a4 : Int32} (h : RR c s t) : (p_CB_stepPut s a1 a2 a3 a4 ∧ p_CB_stepPut t a1 a2 a3 a4) ∧ zE (h_CB_stepPut s a1 a2 a3 a4).1 ∧ zE (h_CB_stepPut t a1 a2 a3 a4).1 ∧ ZZ c d t (az (h_CB_stepPut s a1 a2 a3 a4)) (az (h_CB_stepPut t a1 a2 a3 a4)) := by
  obtain ⟨⟨ps, pt⟩, e1, e2, z, n⟩ := zo_stepPut (op_stepPut_ok (c := c) (d := d) hcd) h
  exact ⟨⟨ps, pt⟩, (by unfold h_CB_stepPut; exact e1), (by unfold h_CB_stepPut; exact e2), ZZ_I h z (zt_stepPut h.1 ps) (zt_stepPut h.2.1 pt)  (by unfold h_CB_stepPut; exact n)⟩
theorem zt_stepAdd {c : Nat} {s : am_M} {a1 a2 : Int32} (h : pu_R c s) (ps : p_CB_stepAdd s a1 a2) : (h_CB_stepAdd s a1 a2).1 ≠ 0 → pu_R c (h_CB_stepAdd s a1 a2).2.2 ∧ gq (h_CB_stepAdd s a1 a2).2.2 s :=
  zt_gen (f := f_CB_stepAdd s a1 a2) (g := (f_MO_stepAdd (f_LA_stepAdd s a1 a2).2 a1 a2).2) (fun q => ⟨th_stepAdd h q, fun a h1 _ => wl_CB_stepAdd h1 ps⟩)
theorem zs_stepAdd {c d : Nat} (hcd : c ≤ d) {s t : am_M} {a1 a2 : Int32} (h : RR c s t) : (p_CB_stepAdd s a1 a2 ∧ p_CB_stepAdd t a1 a2) ∧ zE (h_CB_stepAdd s a1 a2).1 ∧ zE (h_CB_stepAdd t a1 a2).1 ∧ ZZ c d t (az (h_CB_stepAdd s a1 a2)) (az (h_CB_stepAdd t a1 a2)) := by
  obtain ⟨⟨ps, pt⟩, e1, e2, z, n⟩ := zo_stepAdd (op_stepAdd_ok (c := c) (d := d) hcd) h
  exact ⟨⟨ps, pt⟩, (by unfold h_CB_stepAdd; exact e1), (by unfold h_CB_stepAdd; exact e2), ZZ_I h z (zt_stepAdd h.1 ps) (zt_stepAdd h.2.1 pt)  (by unfold h_CB_stepAdd; exact n)⟩
theorem zt_stepRemove {c : Nat} {s : am_M} {a1 a2 a3 : Int32} (h : pu_R c s) (ps : p_CB_stepRemove s a1 a2 a3) : (h_CB_stepRemove s a1 a2 a3).1 ≠ 0 → pu_R c (h_CB_stepRemove s a1 a2 a3).2.2 ∧ gq (h_CB_stepRemove s a1 a2 a3).2.2 s :=
  zt_gen (f := f_CB_stepRemove s a1 a2 a3) (g := (f_MO_stepRemove (f_LA_stepRemove s a1 a2 a3).2 a1 a2 a3).2) (fun q => ⟨th_stepRemove h q, fun a h1 _ => wl_CB_stepRemove h1 ps⟩)
theorem zs_stepRemove {c d : Nat} (hcd : c ≤ d) {s t : am_M} {a1 a2 a3 : Int32} (h : RR c s t) : (p_CB_stepRemove s a1 a2 a3 ∧ p_CB_stepRemove t a1 a2 a3) ∧ zE (h_CB_stepRemove s a1 a2 a3).1 ∧ zE (h_CB_stepRemove t a1 a2 a3).1 ∧ ZZ c d t (az (h_CB_stepRemove s a1 a2 a3)) (az (h_CB_stepRemove t a1 a2 a3)) := by
  obtain ⟨⟨ps, pt⟩, e1, e2, z, n⟩ := zo_stepRemove (op_stepRemove_ok (c := c) (d := d) hcd) h
  exact ⟨⟨ps, pt⟩, (by unfold h_CB_stepRemove; exact e1), (by unfold h_CB_stepRemove; exact e2), ZZ_I h z (zt_stepRemove h.1 ps) (zt_stepRemove h.2.1 pt)  (by unfold h_CB_stepRemove; exact n)⟩
theorem zt_stepIf {c : Nat} {s : am_M} {a1 a2 a3 : Int32} (h : pu_R c s) (ps : p_CB_stepIf s a1 a2 a3) : (h_CB_stepIf s a1 a2 a3).1 ≠ 0 → pu_R c (h_CB_stepIf s a1 a2 a3).2.2 ∧ gq (h_CB_stepIf s a1 a2 a3).2.2 s :=
  zt_gen (f := f_CB_stepIf s a1 a2 a3) (g := (f_MO_stepIf (f_LA_stepIf s a1 a2 a3).2 a1 a2 a3).2) (fun q => ⟨th_stepIf h q, fun a h1 _ => wl_CB_stepIf h1 ps⟩)
theorem zs_stepIf {c d : Nat} (hcd : c ≤ d) {s t : am_M} {a1 a2 a3 : Int32} (h : RR c s t) : (p_CB_stepIf s a1 a2 a3 ∧ p_CB_stepIf t a1 a2 a3) ∧ zE (h_CB_stepIf s a1 a2 a3).1 ∧ zE (h_CB_stepIf t a1 a2 a3).1 ∧ ZZ c d t (az (h_CB_stepIf s a1 a2 a3)) (az (h_CB_stepIf t a1 a2 a3)) := by
  obtain ⟨⟨ps, pt⟩, e1, e2, z, n⟩ := zo_stepIf (op_stepIf_ok (c := c) (d := d) hcd) h
  exact ⟨⟨ps, pt⟩, (by unfold h_CB_stepIf; exact e1), (by unfold h_CB_stepIf; exact e2), ZZ_I h z (zt_stepIf h.1 ps) (zt_stepIf h.2.1 pt)  (by unfold h_CB_stepIf; exact n)⟩
end
