noncomputable section
theorem zt_enter {c : Nat} {s : am_M} {a1 : Int32} (h : pu_R c s) (ps : p_CB_enter s a1) : (h_CB_enter s a1).1 ≠ 0 → pu_R c (h_CB_enter s a1).2.2 ∧ gq (h_CB_enter s a1).2.2 s :=
  zt_gen (f := f_CB_enter s a1) (g := (f_MO_enter (f_LA_enter s a1).2 a1).2) (fun q => ⟨th_enter h q, fun a h1 _ => wl_CB_enter h1 ps⟩)
theorem zs_enter {c d : Nat} (hcd : c + 7 ≤ d) (hd9 : d ≤ 4000) {s t : am_M} {a1 : Int32} (h : RR c s t) : (p_CB_enter s a1 ∧ p_CB_enter t a1) ∧ zE (h_CB_enter s a1).1 ∧ zE (h_CB_enter t a1).1 ∧ ZZ c d t (az (h_CB_enter s a1)) (az (h_CB_enter t a1)) := by
  obtain ⟨⟨ps, pt⟩, e1, e2, z, n⟩ := zo_enter (op_enter_ok hcd hd9) h
  exact ⟨⟨ps, pt⟩, (by unfold h_CB_enter; exact e1), (by unfold h_CB_enter; exact e2), ZZ_I h z (zt_enter h.1 ps) (zt_enter h.2.1 pt)  (by unfold h_CB_enter; exact n)⟩
theorem zt_put {c : Nat} {s : am_M} {a1 a2 a3 a4 : Int32} (h : pu_R c s) (ps : p_CB_put s a1 a2 a3 a4) : (h_CB_put s a1 a2 a3 a4).1 ≠ 0 → pu_R c (h_CB_put s a1 a2 a3 a4).2.2 ∧ gq (h_CB_put s a1 a2 a3 a4).2.2 s :=
  zt_gen (f := f_CB_put s a1 a2 a3 a4) (g := (f_MO_put (f_LA_put s a1 a2 a3 a4).2 a1 a2 a3 a4).2) (fun q => ⟨th_put h q, fun a h1 _ => wl_CB_put h1 ps⟩)
theorem zs_put {c d : Nat} (hcd : c ≤ d) {s t : am_M} {a1 a2 a3 a4 : Int32} (h : RR c s t) : (p_CB_put s a1 a2 a3 a4 ∧ p_CB_put t a1 a2 a3 a4) ∧ zE (h_CB_put s a1 a2 a3 a4).1 ∧ zE (h_CB_put t a1 a2 a3 a4).1 ∧ ZZ c d t (bz (h_CB_put s a1 a2 a3 a4)) (bz (h_CB_put t a1 a2 a3 a4)) := by
  obtain ⟨⟨ps, pt⟩, e1, e2, z⟩ := zo_put (op_put_ok (c := c) (d := d) hcd) h
  exact ⟨⟨ps, pt⟩, (by unfold h_CB_put; exact e1), (by unfold h_CB_put; exact e2), ZZ_B h z (zt_put h.1 ps) (zt_put h.2.1 pt)⟩
theorem zt_remove {c : Nat} {s : am_M} {a1 a2 : Int32} (h : pu_R c s) (ps : p_CB_remove s a1 a2) : (h_CB_remove s a1 a2).1 ≠ 0 → pu_R c (h_CB_remove s a1 a2).2.2 ∧ gq (h_CB_remove s a1 a2).2.2 s :=
  zt_gen (f := f_CB_remove s a1 a2) (g := (f_MO_remove (f_LA_remove s a1 a2).2 a1 a2).2) (fun q => ⟨th_remove h q, fun a h1 _ => wl_CB_remove h1 ps⟩)
theorem zs_remove {c d : Nat} (hcd : c ≤ d) {s t : am_M} {a1 a2 : Int32} (h : RR c s t) : (p_CB_remove s a1 a2 ∧ p_CB_remove t a1 a2) ∧ zE (h_CB_remove s a1 a2).1 ∧ zE (h_CB_remove t a1 a2).1 ∧ ZZ c d t (bz (h_CB_remove s a1 a2)) (bz (h_CB_remove t a1 a2)) := by
  obtain ⟨⟨ps, pt⟩, e1, e2, z⟩ := zo_remove (op_remove_ok (c := c) (d := d) hcd) h
  exact ⟨⟨ps, pt⟩, (by unfold h_CB_remove; exact e1), (by unfold h_CB_remove; exact e2), ZZ_B h z (zt_remove h.1 ps) (zt_remove h.2.1 pt)⟩
theorem zt_openForm {c : Nat} {s : am_M} {a1 a2 : Int32} (h : pu_R c s) (ps : p_CB_openForm s a1 a2) : (h_CB_openForm s a1 a2).1 ≠ 0 → pu_R c (h_CB_openForm s a1 a2).2 ∧ gq (h_CB_openForm s a1 a2).2 s :=
  zt_genV (f := f_CB_openForm s a1 a2) (g := (f_MO_openForm (f_LA_openForm s a1 a2).2 a1 a2)) (fun q => ⟨th_openForm h q, fun a h1 _ => wl_CB_openForm h1 ps⟩)
end
