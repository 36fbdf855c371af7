noncomputable section
theorem zt_reckonAnew {c : Nat} {s : am_M} {a1 a2 a3 a4 a5 a6 : Int32} (h : pu_R c s) (ps : p_CB_reckonAnew s a1 a2 a3 a4 a5 a6) : (h_CB_reckonAnew s a1 a2 a3 a4 a5 a6).1 ≠ 0 → pu_R c (h_CB_reckonAnew s a1 a2 a3 a4 a5 a6).2.2 ∧ gq (h_CB_reckonAnew s a1 a2 a3 a4 a5 a6).2.2 s :=
  zt_gen (f := f_CB_reckonAnew s a1 a2 a3 a4 a5 a6) (g := (f_MO_reckonAnew (f_LA_reckonAnew s a1 a2 a3 a4 a5 a6).2 a1 a2 a3 a4 a5 a6).2) (fun q => ⟨th_reckonAnew h q, fun a h1 _ => wl_CB_reckonAnew h1 ps⟩)
theorem zs_reckonAnew {c d : Nat} (hcd : c ≤ d) {s t : am_M} {a1 a2 a3 a4 a5 a6 : Int32} (h : RR c s t) : (p_CB_reckonAnew s a1 a2 a3 a4 a5 a6 ∧ p_CB_reckonAnew t a1 a2 a3 a4 a5 a6) ∧ zE (h_CB_reckonAnew s a1 a2 a3 a4 a5 a6).1 ∧ zE (h_CB_reckonAnew t a1 a2 a3 a4 a5 a6).1 ∧ ZZ c d t (bz (h_CB_reckonAnew s a1 a2 a3 a4 a5 a6)) (bz (h_CB_reckonAnew t a1 a2 a3 a4 a5 a6)) := by
  obtain ⟨⟨ps, pt⟩, e1, e2, z⟩ := zo_reckonAnew (op_reckonAnew_ok (c := c) (d := d) hcd) h
  exact ⟨⟨ps, pt⟩, (by unfold h_CB_reckonAnew; exact e1), (by unfold h_CB_reckonAnew; exact e2), ZZ_B h z (zt_reckonAnew h.1 ps) (zt_reckonAnew h.2.1 pt)⟩
theorem zt_need {c : Nat} {s : am_M} {a1 a2 a3 : Int32} (h : pu_R c s) (ps : p_CB_need s a1 a2 a3) : (h_CB_need s a1 a2 a3).1 ≠ 0 → pu_R c (h_CB_need s a1 a2 a3).2.2 ∧ gq (h_CB_need s a1 a2 a3).2.2 s :=
  zt_gen (f := f_CB_need s a1 a2 a3) (g := (f_MO_need (f_LA_need s a1 a2 a3).2 a1 a2 a3).2) (fun q => ⟨th_need h q, fun a h1 _ => wl_CB_need h1 ps⟩)
theorem zs_need {c d : Nat} (hcd : c ≤ d) {s t : am_M} {a1 a2 a3 : Int32} (h : RR c s t) (e : (a3 = 0 ∨ a3 = 1)) : (p_CB_need s a1 a2 a3 ∧ p_CB_need t a1 a2 a3) ∧ zE (h_CB_need s a1 a2 a3).1 ∧ zE (h_CB_need t a1 a2 a3).1 ∧ ZZ c d t (bz (h_CB_need s a1 a2 a3)) (bz (h_CB_need t a1 a2 a3)) := by
  obtain ⟨⟨ps, pt⟩, e1, e2, z⟩ := zo_need (op_need_ok (c := c) (d := d) hcd) h e
  exact ⟨⟨ps, pt⟩, (by unfold h_CB_need; exact e1), (by unfold h_CB_need; exact e2), ZZ_B h z (zt_need h.1 ps) (zt_need h.2.1 pt)⟩
theorem zt_single {c : Nat} {s : am_M} {a1 a2 a3 : Int32} (h : pu_R c s) (ps : p_CB_single s a1 a2 a3) : (h_CB_single s a1 a2 a3).1 ≠ 0 → pu_R c (h_CB_single s a1 a2 a3).2.2 ∧ gq (h_CB_single s a1 a2 a3).2.2 s :=
  zt_gen (f := f_CB_single s a1 a2 a3) (g := (f_MO_single (f_LA_single s a1 a2 a3).2 a1 a2 a3).2) (fun q => ⟨th_single h q, fun a h1 _ => wl_CB_single h1 ps⟩)
theorem zs_single {c d : Nat} (hcd : c ≤ d) {s t : am_M} {a1 a2 a3 : Int32} (h : RR c s t) (e : (a3 = 0 ∨ a3 = 1)) : (p_CB_single s a1 a2 a3 ∧ p_CB_single t a1 a2 a3) ∧ zE (h_CB_single s a1 a2 a3).1 ∧ zE (h_CB_single t a1 a2 a3).1 ∧ ZZ c d t (bz (h_CB_single s a1 a2 a3)) (bz (h_CB_single t a1 a2 a3)) := by
  obtain ⟨⟨ps, pt⟩, e1, e2, z⟩ := zo_single (op_single_ok (c := c) (d := d) hcd) h e
  exact ⟨⟨ps, pt⟩, (by unfold h_CB_single; exact e1), (by unfold h_CB_single; exact e2), ZZ_B h z (zt_single h.1 ps) (zt_single h.2.1 pt)⟩
theorem zt_narrow {c : Nat} {s : am_M} {a1 a2 a3 a4 : Int32} (h : pu_R c s) (ps : p_CB_narrow s a1 a2 a3 a4) : (h_CB_narrow s a1 a2 a3 a4).1 ≠ 0 → pu_R c (h_CB_narrow s a1 a2 a3 a4).2.2 ∧ gq (h_CB_narrow s a1 a2 a3 a4).2.2 s :=
  zt_gen (f := f_CB_narrow s a1 a2 a3 a4) (g := (f_MO_narrow (f_LA_narrow s a1 a2 a3 a4).2 a1 a2 a3 a4).2) (fun q => ⟨th_narrow h q, fun a h1 _ => wl_CB_narrow h1 ps⟩)
theorem zs_narrow {c d : Nat} (hcd : c ≤ d) {s t : am_M} {a1 a2 a3 a4 : Int32} (h : RR c s t) : (p_CB_narrow s a1 a2 a3 a4 ∧ p_CB_narrow t a1 a2 a3 a4) ∧ zE (h_CB_narrow s a1 a2 a3 a4).1 ∧ zE (h_CB_narrow t a1 a2 a3 a4).1 ∧ ZZ c d t (bz (h_CB_narrow s a1 a2 a3 a4)) (bz (h_CB_narrow t a1 a2 a3 a4)) := by
  obtain ⟨⟨ps, pt⟩, e1, e2, z⟩ := zo_narrow (op_narrow_ok (c := c) (d := d) hcd) h
  exact ⟨⟨ps, pt⟩, (by unfold h_CB_narrow; exact e1), (by unfold h_CB_narrow; exact e2), ZZ_B h z (zt_narrow h.1 ps) (zt_narrow h.2.1 pt)⟩
end
