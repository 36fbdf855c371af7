noncomputable section
theorem zt_enterInside {c : Nat} {s : am_M} {a1 a2 : Int32} (h : pu_R c s) (ps : p_CB_enterInside s a1 a2) : (h_CB_enterInside s a1 a2).1 ≠ 0 → pu_R c (h_CB_enterInside s a1 a2).2.2 ∧ gq (h_CB_enterInside s a1 a2).2.2 s :=
  zt_gen (f := f_CB_enterInside s a1 a2) (g := (f_MO_enterInside (f_LA_enterInside s a1 a2).2 a1 a2).2) (fun q => ⟨th_enterInside h q, fun a h1 _ => wl_CB_enterInside h1 ps⟩)
theorem zs_enterInside {c d : Nat} (hcd : c + 7 ≤ d) (hd9 : d ≤ 4000) {s t : am_M} {a1 a2 : Int32} (h : RR c s t) : (p_CB_enterInside s a1 a2 ∧ p_CB_enterInside t a1 a2) ∧ zE (h_CB_enterInside s a1 a2).1 ∧ zE (h_CB_enterInside t a1 a2).1 ∧ ZZ c d t (az (h_CB_enterInside s a1 a2)) (az (h_CB_enterInside t a1 a2)) := by
  obtain ⟨⟨ps, pt⟩, e1, e2, z, n⟩ := zo_enterInside (op_enterInside_ok hcd hd9) h
  exact ⟨⟨ps, pt⟩, (by unfold h_CB_enterInside; exact e1), (by unfold h_CB_enterInside; exact e2), ZZ_I h z (zt_enterInside h.1 ps) (zt_enterInside h.2.1 pt)  (by unfold h_CB_enterInside; exact n)⟩
theorem zt_choice {c : Nat} {s : am_M} {a1 a2 a3 a4 : Int32} (h : pu_R c s) (ps : p_CB_choice s a1 a2 a3 a4) : (h_CB_choice s a1 a2 a3 a4).1 ≠ 0 → pu_R c (h_CB_choice s a1 a2 a3 a4).2.2 ∧ gq (h_CB_choice s a1 a2 a3 a4).2.2 s :=
  zt_gen (f := f_CB_choice s a1 a2 a3 a4) (g := (f_MO_choice (f_LA_choice s a1 a2 a3 a4).2 a1 a2 a3 a4).2) (fun q => ⟨th_choice h q, fun a h1 _ => wl_CB_choice h1 ps⟩)
theorem zs_choice {c d : Nat} (hcd : c ≤ d) {s t : am_M} {a1 a2 a3 a4 : Int32} (h : RR c s t) : (p_CB_choice s a1 a2 a3 a4 ∧ p_CB_choice t a1 a2 a3 a4) ∧ zE (h_CB_choice s a1 a2 a3 a4).1 ∧ zE (h_CB_choice t a1 a2 a3 a4).1 ∧ zI d (h_CB_choice s a1 a2 a3 a4) (h_CB_choice t a1 a2 a3 a4) := by
  obtain ⟨⟨ps, pt⟩, e1, e2, z⟩ := zo_choice (op_choice_ok (c := c) (d := d) hcd) h
  exact ⟨⟨ps, pt⟩, (by unfold h_CB_choice; exact e1), (by unfold h_CB_choice; exact e2), z⟩
theorem zt_ask {c : Nat} {s : am_M} {a1 a2 : Int32} (h : pu_R c s) (ps : p_CB_ask s a1 a2) : (h_CB_ask s a1 a2).1 ≠ 0 → pu_R c (h_CB_ask s a1 a2).2.2 ∧ gq (h_CB_ask s a1 a2).2.2 s :=
  zt_gen (f := f_CB_ask s a1 a2) (g := (f_MO_ask (f_LA_ask s a1 a2).2 a1 a2).2) (fun q => ⟨th_ask h q, fun a h1 _ => wl_CB_ask h1 ps⟩)
theorem zs_ask {c d : Nat} (hcd : c ≤ d) {s t : am_M} {a1 a2 : Int32} (h : RR c s t) : (p_CB_ask s a1 a2 ∧ p_CB_ask t a1 a2) ∧ zE (h_CB_ask s a1 a2).1 ∧ zE (h_CB_ask t a1 a2).1 ∧ ZZ c d t (az (h_CB_ask s a1 a2)) (az (h_CB_ask t a1 a2)) := by
  obtain ⟨⟨ps, pt⟩, e1, e2, z, n⟩ := zo_ask (op_ask_ok (c := c) (d := d) hcd) h
  exact ⟨⟨ps, pt⟩, (by unfold h_CB_ask; exact e1), (by unfold h_CB_ask; exact e2), ZZ_I h z (zt_ask h.1 ps) (zt_ask h.2.1 pt)  (by unfold h_CB_ask; exact n)⟩
theorem zt_condition {c : Nat} {s : am_M} {a1 a2 a3 a4 a5 : Int32} (h : pu_R c s) (ps : p_CB_condition s a1 a2 a3 a4 a5) : (h_CB_condition s a1 a2 a3 a4 a5).1 ≠ 0 → pu_R c (h_CB_condition s a1 a2 a3 a4 a5).2.2 ∧ gq (h_CB_condition s a1 a2 a3 a4 a5).2.2 s :=
  zt_gen (f := f_CB_condition s a1 a2 a3 a4 a5) (g := (f_MO_condition (f_LA_condition s a1 a2 a3 a4 a5).2 a1 a2 a3 a4 a5).2) (fun q => ⟨th_condition h q, fun a h1 _ => wl_CB_condition h1 ps⟩)
theorem zs_condition {c d : Nat} (hcd : c ≤ d) {s t : am_M} {a1 a2 a3 a4 a5 : Int32} (h : RR c s t) : (p_CB_condition s a1 a2 a3 a4 a5 ∧ p_CB_condition t a1 a2 a3 a4 a5) ∧ zE (h_CB_condition s a1 a2 a3 a4 a5).1 ∧ zE (h_CB_condition t a1 a2 a3 a4 a5).1 ∧ ZZ c d t (az (h_CB_condition s a1 a2 a3 a4 a5)) (az (h_CB_condition t a1 a2 a3 a4 a5)) := by
  obtain ⟨⟨ps, pt⟩, e1, e2, z, n⟩ := zo_condition (op_condition_ok (c := c) (d := d) hcd) h
  exact ⟨⟨ps, pt⟩, (by unfold h_CB_condition; exact e1), (by unfold h_CB_condition; exact e2), ZZ_I h z (zt_condition h.1 ps) (zt_condition h.2.1 pt)  (by unfold h_CB_condition; exact n)⟩
end
