noncomputable section
theorem zt_addTable {c : Nat} {s : am_M} (h : pu_R c s) : (h_CB_addTable s).1 ≠ 0 → pu_R c (h_CB_addTable s).2.2 ∧ gq (h_CB_addTable s).2.2 s :=
  zt_gen (f := f_CB_addTable s) (g := (f_MO_addTable (f_LA_addTable s).2).2) (fun q => ⟨th_addTable h q, fun a h1 _ => wl_CB_addTable h1⟩)
theorem zs_addTable {c d : Nat} (hcd : c ≤ d) {s t : am_M} (h : RR c s t) : zE (h_CB_addTable s).1 ∧ zE (h_CB_addTable t).1 ∧ ZZ c d t (az (h_CB_addTable s)) (az (h_CB_addTable t)) := by
  obtain ⟨e1, e2, z, n⟩ := zo_addTable (op_addTable_ok (c := c) (d := d) hcd) h
  exact ⟨(by unfold h_CB_addTable; exact e1), (by unfold h_CB_addTable; exact e2), ZZ_I h z (zt_addTable h.1) (zt_addTable h.2.1)  (by unfold h_CB_addTable; exact n)⟩
theorem zt_addNumber {c : Nat} {s : am_M} {a1 a2 a3 : Int32} (h : pu_R c s) (ps : p_CB_addNumber s a1 a2 a3) : (h_CB_addNumber s a1 a2 a3).1 ≠ 0 → pu_R c (h_CB_addNumber s a1 a2 a3).2.2 ∧ gq (h_CB_addNumber s a1 a2 a3).2.2 s :=
  zt_gen (f := f_CB_addNumber s a1 a2 a3) (g := (f_MO_addNumber (f_LA_addNumber s a1 a2 a3).2 a1 a2 a3).2) (fun q => ⟨th_addNumber h q, fun a h1 _ => wl_CB_addNumber h1 ps⟩)
theorem zs_addNumber {c d : Nat} (hcd : c ≤ d) {s t : am_M} {a1 a2 a3 : Int32} (h : RR c s t) : (p_CB_addNumber s a1 a2 a3 ∧ p_CB_addNumber t a1 a2 a3) ∧ zE (h_CB_addNumber s a1 a2 a3).1 ∧ zE (h_CB_addNumber t a1 a2 a3).1 ∧ ZZ c d t (az (h_CB_addNumber s a1 a2 a3)) (az (h_CB_addNumber t a1 a2 a3)) := by
  obtain ⟨⟨ps, pt⟩, e1, e2, z, n⟩ := zo_addNumber (op_addNumber_ok (c := c) (d := d) hcd) h
  exact ⟨⟨ps, pt⟩, (by unfold h_CB_addNumber; exact e1), (by unfold h_CB_addNumber; exact e2), ZZ_I h z (zt_addNumber h.1 ps) (zt_addNumber h.2.1 pt)  (by unfold h_CB_addNumber; exact n)⟩
theorem zt_addLink {c : Nat} {s : am_M} {a1 a2 a3 : Int32} (h : pu_R c s) (ps : p_CB_addLink s a1 a2 a3) : (h_CB_addLink s a1 a2 a3).1 ≠ 0 → pu_R c (h_CB_addLink s a1 a2 a3).2.2 ∧ gq (h_CB_addLink s a1 a2 a3).2.2 s :=
  zt_gen (f := f_CB_addLink s a1 a2 a3) (g := (f_MO_addLink (f_LA_addLink s a1 a2 a3).2 a1 a2 a3).2) (fun q => ⟨th_addLink h q, fun a h1 _ => wl_CB_addLink h1 ps⟩)
theorem zs_addLink {c d : Nat} (hcd : c ≤ d) {s t : am_M} {a1 a2 a3 : Int32} (h : RR c s t) : (p_CB_addLink s a1 a2 a3 ∧ p_CB_addLink t a1 a2 a3) ∧ zE (h_CB_addLink s a1 a2 a3).1 ∧ zE (h_CB_addLink t a1 a2 a3).1 ∧ ZZ c d t (az (h_CB_addLink s a1 a2 a3)) (az (h_CB_addLink t a1 a2 a3)) := by
  obtain ⟨⟨ps, pt⟩, e1, e2, z, n⟩ := zo_addLink (op_addLink_ok (c := c) (d := d) hcd) h
  exact ⟨⟨ps, pt⟩, (by unfold h_CB_addLink; exact e1), (by unfold h_CB_addLink; exact e2), ZZ_I h z (zt_addLink h.1 ps) (zt_addLink h.2.1 pt)  (by unfold h_CB_addLink; exact n)⟩
theorem zt_addReckoned {c : Nat} {s : am_M} {a1 a2 a3 a4 a5 : Int32} (h : pu_R c s) (ps : p_CB_addReckoned s a1 a2 a3 a4 a5) : (h_CB_addReckoned s a1 a2 a3 a4 a5).1 ≠ 0 → pu_R c (h_CB_addReckoned s a1 a2 a3 a4 a5).2.2 ∧ gq (h_CB_addReckoned s a1 a2 a3 a4 a5).2.2 s :=
  zt_gen (f := f_CB_addReckoned s a1 a2 a3 a4 a5) (g := (f_MO_addReckoned (f_LA_addReckoned s a1 a2 a3 a4 a5).2 a1 a2 a3 a4 a5).2) (fun q => ⟨th_addReckoned h q, fun a h1 _ => wl_CB_addReckoned h1 ps⟩)
theorem zs_addReckoned {c d : Nat} (hcd : c ≤ d) {s t : am_M} {a1 a2 a3 a4 a5 : Int32} (h : RR c s t) : (p_CB_addReckoned s a1 a2 a3 a4 a5 ∧ p_CB_addReckoned t a1 a2 a3 a4 a5) ∧ zE (h_CB_addReckoned s a1 a2 a3 a4 a5).1 ∧ zE (h_CB_addReckoned t a1 a2 a3 a4 a5).1 ∧ ZZ c d t (az (h_CB_addReckoned s a1 a2 a3 a4 a5)) (az (h_CB_addReckoned t a1 a2 a3 a4 a5)) := by
  obtain ⟨⟨ps, pt⟩, e1, e2, z, n⟩ := zo_addReckoned (op_addReckoned_ok (c := c) (d := d) hcd) h
  exact ⟨⟨ps, pt⟩, (by unfold h_CB_addReckoned; exact e1), (by unfold h_CB_addReckoned; exact e2), ZZ_I h z (zt_addReckoned h.1 ps) (zt_addReckoned h.2.1 pt)  (by unfold h_CB_addReckoned; exact n)⟩
end
