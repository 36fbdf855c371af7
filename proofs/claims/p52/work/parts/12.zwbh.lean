noncomputable section
theorem zt_run {c : Nat} {s : am_M} {a1 : Int32} (h : pu_R c s) (ps : p_CB_run s a1) : (h_CB_run s a1).1 ≠ 0 → pu_R c (h_CB_run s a1).2.2 ∧ gq (h_CB_run s a1).2.2 s :=
  zt_gen (f := f_CB_run s a1) (g := (f_MO_run (f_LA_run s a1).2 a1).2) (fun q => ⟨th_run h q, fun a h1 _ => wl_CB_run h1 ps⟩)
theorem zs_run {c d : Nat} (hcd : c + 7 ≤ d) (hd9 : d ≤ 4000) {s t : am_M} {a1 : Int32} (h : RR c s t) : (p_CB_run s a1 ∧ p_CB_run t a1) ∧ zE (h_CB_run s a1).1 ∧ zE (h_CB_run t a1).1 ∧ ZZ c d t (bz (h_CB_run s a1)) (bz (h_CB_run t a1)) := by
  obtain ⟨⟨ps, pt⟩, e1, e2, z⟩ := zo_run (op_run_ok hcd hd9) h
  exact ⟨⟨ps, pt⟩, (by unfold h_CB_run; exact e1), (by unfold h_CB_run; exact e2), ZZ_B h z (zt_run h.1 ps) (zt_run h.2.1 pt)⟩
theorem zt_undo {c : Nat} {s : am_M} (h : pu_R c s) (ps : p_CB_undo s) : (h_CB_undo s).1 ≠ 0 → pu_R c (h_CB_undo s).2.2 ∧ gq (h_CB_undo s).2.2 s :=
  zt_gen (f := f_CB_undo s) (g := (f_MO_undo (f_LA_undo s).2).2) (fun q => ⟨th_undo h q, fun a h1 _ => wl_CB_undo h1 ps⟩)
theorem zs_undo {c d : Nat} (hcd : c ≤ d) {s t : am_M} (h : RR c s t) : (p_CB_undo s ∧ p_CB_undo t) ∧ zE (h_CB_undo s).1 ∧ zE (h_CB_undo t).1 ∧ ZZ c d t (az (h_CB_undo s)) (az (h_CB_undo t)) := by
  obtain ⟨⟨ps, pt⟩, e1, e2, z, n⟩ := zo_undo (op_undo_ok (c := c) (d := d) hcd) h
  exact ⟨⟨ps, pt⟩, (by unfold h_CB_undo; exact e1), (by unfold h_CB_undo; exact e2), ZZ_I h z (zt_undo h.1 ps) (zt_undo h.2.1 pt)  (by unfold h_CB_undo; exact n)⟩
end
