noncomputable section
theorem zt_askGroups {c : Nat} {s : am_M} {a1 a2 a3 : Int32} (h : pu_R c s) (ps : p_CB_askGroups s a1 a2 a3) : (h_CB_askGroups s a1 a2 a3).1 ≠ 0 → pu_R c (h_CB_askGroups s a1 a2 a3).2.2 ∧ gq (h_CB_askGroups s a1 a2 a3).2.2 s :=
  zt_gen (f := f_CB_askGroups s a1 a2 a3) (g := (f_MO_askGroups (f_LA_askGroups s a1 a2 a3).2 a1 a2 a3).2) (fun q => ⟨th_askGroups h q, fun a h1 _ => wl_CB_askGroups h1 ps⟩)
theorem zs_askGroups {c d : Nat} (hcd : c ≤ d) {s t : am_M} {a1 a2 a3 : Int32} (h : RR c s t) : (p_CB_askGroups s a1 a2 a3 ∧ p_CB_askGroups t a1 a2 a3) ∧ zE (h_CB_askGroups s a1 a2 a3).1 ∧ zE (h_CB_askGroups t a1 a2 a3).1 ∧ ZZ c d t (az (h_CB_askGroups s a1 a2 a3)) (az (h_CB_askGroups t a1 a2 a3)) := by
  obtain ⟨⟨ps, pt⟩, e1, e2, z, n⟩ := zo_askGroups (op_askGroups_ok (c := c) (d := d) hcd) h
  exact ⟨⟨ps, pt⟩, (by unfold h_CB_askGroups; exact e1), (by unfold h_CB_askGroups; exact e2), ZZ_I h z (zt_askGroups h.1 ps) (zt_askGroups h.2.1 pt)  (by unfold h_CB_askGroups; exact n)⟩
theorem zt_askCross {c : Nat} {s : am_M} {a1 a2 a3 a4 : Int32} (h : pu_R c s) (ps : p_CB_askCross s a1 a2 a3 a4) : (h_CB_askCross s a1 a2 a3 a4).1 ≠ 0 → pu_R c (h_CB_askCross s a1 a2 a3 a4).2.2 ∧ gq (h_CB_askCross s a1 a2 a3 a4).2.2 s :=
  zt_gen (f := f_CB_askCross s a1 a2 a3 a4) (g := (f_MO_askCross (f_LA_askCross s a1 a2 a3 a4).2 a1 a2 a3 a4).2) (fun q => ⟨th_askCross h q, fun a h1 _ => wl_CB_askCross h1 ps⟩)
theorem zs_askCross {c d : Nat} (hcd : c ≤ d) {s t : am_M} {a1 a2 a3 a4 : Int32} (h : RR c s t) : (p_CB_askCross s a1 a2 a3 a4 ∧ p_CB_askCross t a1 a2 a3 a4) ∧ zE (h_CB_askCross s a1 a2 a3 a4).1 ∧ zE (h_CB_askCross t a1 a2 a3 a4).1 ∧ ZZ c d t (az (h_CB_askCross s a1 a2 a3 a4)) (az (h_CB_askCross t a1 a2 a3 a4)) := by
  obtain ⟨⟨ps, pt⟩, e1, e2, z, n⟩ := zo_askCross (op_askCross_ok (c := c) (d := d) hcd) h
  exact ⟨⟨ps, pt⟩, (by unfold h_CB_askCross; exact e1), (by unfold h_CB_askCross; exact e2), ZZ_I h z (zt_askCross h.1 ps) (zt_askCross h.2.1 pt)  (by unfold h_CB_askCross; exact n)⟩
theorem zt_write {c : Nat} {s : am_M} {a1 a2 a3 a4 : Int32} (h : pu_R c s) (ps : p_CB_write s a1 a2 a3 a4) : (h_CB_write s a1 a2 a3 a4).1 ≠ 0 → pu_R c (h_CB_write s a1 a2 a3 a4).2.2 ∧ gq (h_CB_write s a1 a2 a3 a4).2.2 s :=
  zt_gen (f := f_CB_write s a1 a2 a3 a4) (g := (f_MO_write (f_LA_write s a1 a2 a3 a4).2 a1 a2 a3 a4).2) (fun q => ⟨th_write h q, fun a h1 _ => wl_CB_write h1 ps⟩)
theorem zs_write {c d : Nat} (hcd : c ≤ d) {s t : am_M} {a1 a2 a3 a4 : Int32} (h : RR c s t) : (p_CB_write s a1 a2 a3 a4 ∧ p_CB_write t a1 a2 a3 a4) ∧ zE (h_CB_write s a1 a2 a3 a4).1 ∧ zE (h_CB_write t a1 a2 a3 a4).1 ∧ ZZ c d t (bz (h_CB_write s a1 a2 a3 a4)) (bz (h_CB_write t a1 a2 a3 a4)) := by
  obtain ⟨⟨ps, pt⟩, e1, e2, z⟩ := zo_write (op_write_ok (c := c) (d := d) hcd) h
  exact ⟨⟨ps, pt⟩, (by unfold h_CB_write; exact e1), (by unfold h_CB_write; exact e2), ZZ_B h z (zt_write h.1 ps) (zt_write h.2.1 pt)⟩
theorem zt_addAct {c : Nat} {s : am_M} (h : pu_R c s) : (h_CB_addAct s).1 ≠ 0 → pu_R c (h_CB_addAct s).2.2 ∧ gq (h_CB_addAct s).2.2 s :=
  zt_gen (f := f_CB_addAct s) (g := (f_MO_addAct (f_LA_addAct s).2).2) (fun q => ⟨th_addAct h q, fun a h1 _ => wl_CB_addAct h1⟩)
theorem zs_addAct {c d : Nat} (hcd : c ≤ d) {s t : am_M} (h : RR c s t) : zE (h_CB_addAct s).1 ∧ zE (h_CB_addAct t).1 ∧ ZZ c d t (az (h_CB_addAct s)) (az (h_CB_addAct t)) := by
  obtain ⟨e1, e2, z⟩ := zo_addAct (op_addAct_ok (c := c) (d := d) hcd) h
  exact ⟨(by unfold h_CB_addAct; exact e1), (by unfold h_CB_addAct; exact e2), ZZ_I h z (zt_addAct h.1) (zt_addAct h.2.1) (by unfold h_CB_addAct; exact n9_addAct h.1)⟩
end
