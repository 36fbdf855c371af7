noncomputable section
theorem zt_drop {c : Nat} {s : am_M} {a1 a2 : Int32} (h : pu_R c s) (ps : p_CB_drop s a1 a2) : (h_CB_drop s a1 a2).1 ≠ 0 → pu_R c (h_CB_drop s a1 a2).2.2 ∧ gq (h_CB_drop s a1 a2).2.2 s :=
  zt_gen (f := f_CB_drop s a1 a2) (g := (f_MO_drop (f_LA_drop s a1 a2).2 a1 a2).2) (fun q => ⟨th_drop h q, fun a h1 _ => wl_CB_drop h1 ps⟩)
theorem zs_drop {c d : Nat} (hcd : c ≤ d) {s t : am_M} {a1 a2 : Int32} (h : RR c s t) : (p_CB_drop s a1 a2 ∧ p_CB_drop t a1 a2) ∧ zE (h_CB_drop s a1 a2).1 ∧ zE (h_CB_drop t a1 a2).1 ∧ ZZ c d t (bz (h_CB_drop s a1 a2)) (bz (h_CB_drop t a1 a2)) := by
  obtain ⟨⟨ps, pt⟩, e1, e2, z⟩ := zo_drop (op_drop_ok (c := c) (d := d) hcd) h
  exact ⟨⟨ps, pt⟩, (by unfold h_CB_drop; exact e1), (by unfold h_CB_drop; exact e2), ZZ_B h z (zt_drop h.1 ps) (zt_drop h.2.1 pt)⟩
theorem zt_setRemoval {c : Nat} {s : am_M} {a1 a2 a3 : Int32} (h : pu_R c s) (ps : p_CB_setRemoval s a1 a2 a3) : (h_CB_setRemoval s a1 a2 a3).1 ≠ 0 → pu_R c (h_CB_setRemoval s a1 a2 a3).2.2 ∧ gq (h_CB_setRemoval s a1 a2 a3).2.2 s :=
  zt_gen (f := f_CB_setRemoval s a1 a2 a3) (g := (f_MO_setRemoval (f_LA_setRemoval s a1 a2 a3).2 a1 a2 a3).2) (fun q => ⟨th_setRemoval h q, fun a h1 _ => wl_CB_setRemoval h1 ps⟩)
theorem zs_setRemoval {c d : Nat} (hcd : c ≤ d) {s t : am_M} {a1 a2 a3 : Int32} (h : RR c s t) : (p_CB_setRemoval s a1 a2 a3 ∧ p_CB_setRemoval t a1 a2 a3) ∧ zE (h_CB_setRemoval s a1 a2 a3).1 ∧ zE (h_CB_setRemoval t a1 a2 a3).1 ∧ ZZ c d t (az (h_CB_setRemoval s a1 a2 a3)) (az (h_CB_setRemoval t a1 a2 a3)) := by
  obtain ⟨⟨ps, pt⟩, e1, e2, z, n⟩ := zo_setRemoval (op_setRemoval_ok (c := c) (d := d) hcd) h
  exact ⟨⟨ps, pt⟩, (by unfold h_CB_setRemoval; exact e1), (by unfold h_CB_setRemoval; exact e2), ZZ_I h z (zt_setRemoval h.1 ps) (zt_setRemoval h.2.1 pt)  (by unfold h_CB_setRemoval; exact n)⟩
theorem zt_addRule {c : Nat} {s : am_M} {a1 a2 a3 a4 a5 : Int32} (h : pu_R c s) (ps : p_CB_addRule s a1 a2 a3 a4 a5) : (h_CB_addRule s a1 a2 a3 a4 a5).1 ≠ 0 → pu_R c (h_CB_addRule s a1 a2 a3 a4 a5).2.2 ∧ gq (h_CB_addRule s a1 a2 a3 a4 a5).2.2 s :=
  zt_gen (f := f_CB_addRule s a1 a2 a3 a4 a5) (g := (f_MO_addRule (f_LA_addRule s a1 a2 a3 a4 a5).2 a1 a2 a3 a4 a5).2) (fun q => ⟨th_addRule h q, fun a h1 _ => wl_CB_addRule h1 ps⟩)
theorem zs_addRule {c d : Nat} (hcd : c ≤ d) {s t : am_M} {a1 a2 a3 a4 a5 : Int32} (h : RR c s t) : (p_CB_addRule s a1 a2 a3 a4 a5 ∧ p_CB_addRule t a1 a2 a3 a4 a5) ∧ zE (h_CB_addRule s a1 a2 a3 a4 a5).1 ∧ zE (h_CB_addRule t a1 a2 a3 a4 a5).1 ∧ ZZ c d t (az (h_CB_addRule s a1 a2 a3 a4 a5)) (az (h_CB_addRule t a1 a2 a3 a4 a5)) := by
  obtain ⟨⟨ps, pt⟩, e1, e2, z, n⟩ := zo_addRule (op_addRule_ok (c := c) (d := d) hcd) h
  exact ⟨⟨ps, pt⟩, (by unfold h_CB_addRule; exact e1), (by unfold h_CB_addRule; exact e2), ZZ_I h z (zt_addRule h.1 ps) (zt_addRule h.2.1 pt)  (by unfold h_CB_addRule; exact n)⟩
theorem zt_type {c : Nat} {s : am_M} {a1 a2 : Int32} (h : pu_R c s) (ps : p_CB_type s a1 a2) : (h_CB_type s a1 a2).1 ≠ 0 → pu_R c (h_CB_type s a1 a2).2.2 ∧ gq (h_CB_type s a1 a2).2.2 s :=
  zt_gen (f := f_CB_type s a1 a2) (g := (f_MO_type (f_LA_type s a1 a2).2 a1 a2).2) (fun q => ⟨th_type h q, fun a h1 _ => wl_CB_type h1 ps⟩)
theorem zs_type {c d : Nat} (hcd : c ≤ d) {s t : am_M} {a1 a2 : Int32} (h : RR c s t) : (p_CB_type s a1 a2 ∧ p_CB_type t a1 a2) ∧ zE (h_CB_type s a1 a2).1 ∧ zE (h_CB_type t a1 a2).1 ∧ ZZ c d t (az (h_CB_type s a1 a2)) (az (h_CB_type t a1 a2)) := by
  obtain ⟨⟨ps, pt⟩, e1, e2, z⟩ := zo_type (op_type_ok (c := c) (d := d) hcd) h
  exact ⟨⟨ps, pt⟩, (by unfold h_CB_type; exact e1), (by unfold h_CB_type; exact e2), ZZ_I h z (zt_type h.1 ps) (zt_type h.2.1 pt) (by unfold h_CB_type; exact n9_type h.1)⟩
end
