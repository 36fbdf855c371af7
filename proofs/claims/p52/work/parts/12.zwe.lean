noncomputable section
-- questions to both objects; nothing differs
theorem az_2 {p : Nat × Int32 × am_M} : (az p).2 = p.2.2 := by unfold az; split <;> rfl
theorem az_1 {p q : Nat × Int32 × am_M} (h : p.1 = 0 ↔ q.1 = 0) (v : p.1 = 0 → p.2.1 = q.2.1) : (az p).1 = (az q).1 := by
  unfold az
  by_cases k : p.1 = 0
  · rw [if_pos k, if_pos (h.mp k)]; exact v k
  · rw [if_neg k, if_neg (fun q => k (h.mpr q))]
theorem wt01 {s : am_M} {x : Int32} : f_CB_wantTable s x = 0 ∨ f_CB_wantTable s x = 1 := by
  unfold f_CB_wantTable
  split
  · exact Or.inr rfl
  · exact Or.inl rfl
theorem wq01 {s : am_M} {x : Int32} : f_CB_wantQuestion s x = 0 ∨ f_CB_wantQuestion s x = 1 := by
  unfold f_CB_wantQuestion
  split
  · exact Or.inr rfl
  · exact Or.inl rfl
theorem rows_1 {s : am_M} {x : Int32} : (f_CB_rows s x).1 = f_CB_wantTable s x := by
  unfold f_CB_rows
  split
  · exact (‹f_CB_wantTable s x = 0›).symm
  · rfl
theorem there_1 {s : am_M} {x y : Int32} : (f_CB_isThere s x y).1 = f_CB_wantTable s x := by
  unfold f_CB_isThere
  split
  · exact (‹f_CB_wantTable s x = 0›).symm
  · rfl
theorem answers_1 {s : am_M} {x : Int32} : (f_CB_answers s x).1 = f_CB_wantQuestion s x := by
  unfold f_CB_answers
  split
  · exact (‹f_CB_wantQuestion s x = 0›).symm
  · rfl
theorem columns_1 {s : am_M} {x : Int32} : (f_CB_columns s x).1 = f_CB_wantQuestion s x := by
  unfold f_CB_columns
  split
  · exact (‹f_CB_wantQuestion s x = 0›).symm
  · rfl
theorem LHrows_e {s : am_M} {x : Int32} : f_LH_rows s x = az (f_CB_rows s x) := rfl
theorem LHrows_2 {s : am_M} {x : Int32} : (f_LH_rows s x).2 = s := by rw [LHrows_e, az_2, me_rows]
theorem LHcell_e {s : am_M} {x y z a b c : Int32} : f_LH_sets10 s x y z a b c = az (f_CB_cell s x y z) := az3 _
theorem LHcell_2 {s : am_M} {x y z a b c : Int32} : (f_LH_sets10 s x y z a b c).2 = s := by rw [LHcell_e, az_2, me_cell]
theorem Q_rows {c : Nat} {s t : am_M} {x : Int32} (h : RR c s t) : p_LH_rows s x ∧ p_LH_rows t x ∧ (f_LH_rows s x).1 = (f_LH_rows t x).1 := by
  obtain ⟨⟨ps, pt⟩, -, -, z, v⟩ := zo_rows (op_rows_ok (c := c) (d := c) (Nat.le_refl c)) h (a1 := x)
  refine ⟨⟨ps, ?_, fun _ => trivial, fun _ => trivial⟩, ⟨pt, ?_, fun _ => trivial, fun _ => trivial⟩, ?_⟩
  · rw [rows_1]; exact wt01
  · rw [rows_1]; exact wt01
  · rw [LHrows_e, LHrows_e]; exact az_1 z v
theorem Q_cell {c : Nat} {s t : am_M} {x y z a b e : Int32} (h : RR c s t) : p_LH_sets10 s x y z a b e ∧ p_LH_sets10 t x y z a b e ∧ (f_LH_sets10 s x y z a b e).1 = (f_LH_sets10 t x y z a b e).1 := by
  obtain ⟨⟨ps, pt⟩, e1, e2, w, v⟩ := zo_cell (op_cell_ok (c := c) (d := c) (Nat.le_refl c)) h (a1 := x) (a2 := y) (a3 := z)
  refine ⟨⟨ps, e1, fun _ => trivial, fun _ => ⟨fun _ => trivial, fun _ => ⟨fun _ => trivial, fun _ => trivial⟩⟩⟩, ⟨pt, e2, fun _ => trivial, fun _ => ⟨fun _ => trivial, fun _ => ⟨fun _ => trivial, fun _ => trivial⟩⟩⟩, ?_⟩
  rw [LHcell_e, LHcell_e]; exact az_1 w v
theorem Q_there {c : Nat} {s t : am_M} {x y : Int32} (h : RR c s t) (hx : f_CB_wantTable s x = 0) : p_CB_isThere s x y ∧ p_CB_isThere t x y ∧ (f_CB_isThere s x y).1 = 0 ∧ (f_CB_isThere t x y).1 = 0 ∧ (f_CB_isThere s x y).2.1 = (f_CB_isThere t x y).2.1 := by
  obtain ⟨⟨ps, pt⟩, -, -, z, v⟩ := zo_isThere (op_isThere_ok (c := c) (d := c) (Nat.le_refl c)) h (a1 := x) (a2 := y)
  have k := (there_1 (y := y)).trans hx
  have k2 := z.mp k
  refine ⟨ps, pt, k, k2, ?_⟩
  have hy : f_CB_wantTable t x = 0 := there_1.symm.trans k2
  have w := v k
  have e1 : (f_CB_isThere s x y).2.1 = f_RO_has s 8 x y := by unfold f_CB_isThere; rw [if_pos hx]
  have e2 : (f_CB_isThere t x y).2.1 = f_RO_has t 8 x y := by unfold f_CB_isThere; rw [if_pos hy]
  rw [e1, e2] at w ⊢
  have b1 := (ps hx).2.1
  have b2 := (pt hy).2.1
  rcases b1 with b1 | b1
  · rw [b1, w.mp b1]
  · rcases b2 with b2 | b2
    · have := w.mpr b2; rw [b1] at this; exact absurd this (by decide)
    · rw [b1, b2]
theorem there_2 {s : am_M} {x y : Int32} : (f_CB_isThere s x y).2.2 = s := me_isThere
theorem LHorder_e {s : am_M} {x : Int32} : f_LH_does s (4 : Int32) x (0 : Int32) (0 : Int32) = az (f_CB_order s x) := by
  unfold f_LH_does
  rw [if_neg (show ¬ ((4 : Int32) = 0) by decide), if_neg (show ¬ ((4 : Int32) = (1 : Int32)) by decide), if_neg (show ¬ ((4 : Int32) = (2 : Int32)) by decide), if_neg (show ¬ ((4 : Int32) = (3 : Int32)) by decide), if_pos rfl]
  exact az3 _
theorem LHorder_2 {s : am_M} {x : Int32} : (f_LH_does s (4 : Int32) x (0 : Int32) (0 : Int32)).2 = s := by rw [LHorder_e, az_2, me_order]
theorem LHorder_p {s : am_M} {x : Int32} (ps : p_CB_order s x) (e1 : zE (f_CB_order s x).1) : p_LH_does s (4 : Int32) x (0 : Int32) (0 : Int32) := by
  unfold p_LH_does
  exact ⟨fun q => absurd q (by decide), fun _ => ⟨fun q => absurd q (by decide), fun _ => ⟨fun q => absurd q (by decide), fun _ => ⟨fun q => absurd q (by decide), fun _ => ⟨fun _ => ⟨ps, e1, ⟨fun _ => trivial, fun _ => ⟨fun _ => trivial, fun _ => ⟨fun _ => trivial, fun _ => trivial⟩⟩⟩⟩, fun q => absurd rfl q⟩⟩⟩⟩⟩
theorem Q_order {c : Nat} {s t : am_M} {x : Int32} (h : RR c s t) : p_LH_does s (4 : Int32) x (0 : Int32) (0 : Int32) ∧ p_LH_does t (4 : Int32) x (0 : Int32) (0 : Int32) ∧ (f_LH_does s (4 : Int32) x (0 : Int32) (0 : Int32)).1 = (f_LH_does t (4 : Int32) x (0 : Int32) (0 : Int32)).1 := by
  obtain ⟨⟨ps, pt⟩, e1, e2, w, v⟩ := zo_order (op_order_ok (c := c) (d := c) (Nat.le_refl c)) h (a1 := x)
  exact ⟨LHorder_p ps e1, LHorder_p pt e2, by rw [LHorder_e, LHorder_e]; exact az_1 w v⟩
-- questions that look at answers
theorem lx_Q {c : Nat} {s : am_M} {x : Int32} (h : pu_R c s) (hq : f_CB_wantQuestion s x = 0) : pu_R c (f_AS_find s x).2 ∧ pu_R c (f_AS_widthOf s x).2 := by
  obtain ⟨hP, Z, hZ⟩ := h
  obtain ⟨cd, oc, md, wd⟩ : q_x1 s (Z 6) := hZ 1
  obtain ⟨cb, mb, wr⟩ : q_x3 s (Z 6) (Z 8) := hZ 3
  obtain ⟨qc, qm, qw⟩ : q_x5 s (Z 6) (Z 11) := hZ 5
  have h8 := qw.1.2
  rw [qa_wantQ qc qw x] at hq
  rcases q_in_c (q_nq (Z 11)) (by omega) x with g | ⟨g, j, hj, rfl⟩
  · rw [g, if_pos rfl] at hq; exact absurd hq (by decide)
  obtain ⟨-, t, e1, e2, -⟩ := qa_find cd wd wr cb qc qw hj
  obtain ⟨-, u, f1, f2, -⟩ := qa_width cd wd wr cb qc qw hj
  rw [e1, f1]
  exact ⟨pu_lookC hP hZ e2, pu_lookC hP hZ f2⟩
theorem lx_answers {c : Nat} {s : am_M} {x : Int32} (h : pu_R c s) (ps : p_CB_answers s x) : pu_R c (f_CB_answers s x).2.2 ∧ gq (f_CB_answers s x).2.2 s := by
  refine ⟨?_, fun a h1 _ => wl_CB_answers h1 ps⟩
  unfold f_CB_answers
  split
  · exact (lx_Q h ‹_›).1
  · exact h
theorem lx_columns {c : Nat} {s : am_M} {x : Int32} (h : pu_R c s) (ps : p_CB_columns s x) : pu_R c (f_CB_columns s x).2.2 ∧ gq (f_CB_columns s x).2.2 s := by
  refine ⟨?_, fun a h1 _ => wl_CB_columns h1 ps⟩
  unfold f_CB_columns
  split
  · exact (lx_Q h ‹_›).2
  · exact h
theorem LHmany0_e {s : am_M} {x : Int32} : f_LH_many s (0 : Int32) x = az (f_CB_answers s x) := by
  unfold f_LH_many; rw [if_pos rfl]; rfl
theorem LHmany1_e {s : am_M} {x : Int32} : f_LH_many s (1 : Int32) x = az (f_CB_columns s x) := by
  unfold f_LH_many; rw [if_neg (show ¬ ((1 : Int32) = 0) by decide)]; rfl
theorem RR_12 {c : Nat} {s t s' t' : am_M} (h : RR c s t) (a : pu_R c s' ∧ gq s' s) (b : pu_R c t' ∧ gq t' t) : RR c s' t' := ⟨a.1, b.1, gq_tr a.2 (gq_tr h.2.2 (gq_sy b.2))⟩
theorem Q_many0 {c : Nat} {s t : am_M} {x : Int32} (h : RR c s t) : p_LH_many s (0 : Int32) x ∧ p_LH_many t (0 : Int32) x ∧ (f_LH_many s (0 : Int32) x).1 = (f_LH_many t (0 : Int32) x).1 ∧ RR c (f_LH_many s (0 : Int32) x).2 (f_LH_many t (0 : Int32) x).2 := by
  obtain ⟨⟨ps, pt⟩, -, -, w, v⟩ := zo_answers (op_answers_ok (c := c) (d := c) (Nat.le_refl c)) h (a1 := x)
  refine ⟨⟨fun _ => ⟨ps, by rw [answers_1]; exact wq01, fun _ => trivial, fun _ => trivial⟩, fun q => absurd rfl q⟩, ⟨fun _ => ⟨pt, by rw [answers_1]; exact wq01, fun _ => trivial, fun _ => trivial⟩, fun q => absurd rfl q⟩, ?_, ?_⟩
  · rw [LHmany0_e, LHmany0_e]; exact az_1 w v
  · rw [LHmany0_e, LHmany0_e, az_2, az_2]; exact RR_12 h (lx_answers h.1 ps) (lx_answers h.2.1 pt)
theorem Q_many1 {c : Nat} {s t : am_M} {x : Int32} (h : RR c s t) : p_LH_many s (1 : Int32) x ∧ p_LH_many t (1 : Int32) x ∧ (f_LH_many s (1 : Int32) x).1 = (f_LH_many t (1 : Int32) x).1 ∧ RR c (f_LH_many s (1 : Int32) x).2 (f_LH_many t (1 : Int32) x).2 := by
  obtain ⟨⟨ps, pt⟩, -, -, w, v⟩ := zo_columns (op_columns_ok (c := c) (d := c) (Nat.le_refl c)) h (a1 := x)
  refine ⟨⟨fun q => absurd q (by decide), fun _ => ⟨ps, by rw [columns_1]; exact wq01, fun _ => trivial, fun _ => trivial⟩⟩, ⟨fun q => absurd q (by decide), fun _ => ⟨pt, by rw [columns_1]; exact wq01, fun _ => trivial, fun _ => trivial⟩⟩, ?_, ?_⟩
  · rw [LHmany1_e, LHmany1_e]; exact az_1 w v
  · rw [LHmany1_e, LHmany1_e, az_2, az_2]; exact RR_12 h (lx_columns h.1 ps) (lx_columns h.2.1 pt)
/-- nothing is broken, ever -/
theorem Q_broken {c : Nat} {s : am_M} (h : pu_R c s) : p_CB_broken s ∧ (f_CB_broken s).1 = 0 ∧ q_out s (f_CB_broken s).2 (fun a _ => a = 16) ∧ pu_R c (f_CB_broken s).2 ∧ gq (f_CB_broken s).2 s := by
  have h' := h
  obtain ⟨hP, Z, hZ⟩ := h
  obtain ⟨cd, oc, md, wd⟩ : q_x1 s (Z 6) := hZ 1
  obtain ⟨uc, um, uw⟩ := q_x2_p (hZ 2 : q_x2 s (Z 7))
  obtain ⟨cb, mb, wr⟩ : q_x3 s (Z 6) (Z 8) := hZ 3
  have hC := qb_count1 cd wd wr.we cb uc uw
  have o1 : q_out s (q_F (f_RE_clear s 16) (q_brk (Z 6) (Z 7) (Z 8))) (fun a _ => a = 16) := q_out_t q_clear_o q_F_o
  have hB : q_brk (Z 6) (Z 7) (Z 8) = [] := (q_x7_g (hZ 7)).1
  rw [hB] at hC o1
  have e1 : (f_CB_broken s).1 = 0 := by
    unfold f_CB_broken; rw [hC.2]; exact nI_0
  have e2 : (f_CB_broken s).2 = q_F (f_RE_clear s 16) [] := by
    unfold f_CB_broken; rw [hC.2]
  rw [e2]
  refine ⟨⟨hC.1, trivial⟩, e1, o1, ?_, fun a h1 _ => ?_⟩
  · refine pu_keep0 (J := [0]) h' (fun a b hab => o1 a b (fun q => hab ?_)) (fun i e => by rw [List.mem_singleton] at e; rw [e]; exact trivial) rfl
    subst q; simp [pu_own]
  · funext b; exact o1 a b (by omega)
theorem RR_told {c : Nat} {s t : am_M} (h : RR c s t) : s 0 7 = t 0 7 ∧ s 123 0 = t 123 0 ∧ s 123 1 = t 123 1 ∧ s 123 2 = t 123 2 ∧ s 123 3 = t 123 3 := by
  obtain ⟨k, -, a1, a2⟩ := h.1.und
  obtain ⟨m, -, b1, b2⟩ := h.2.1.und
  obtain ⟨c0, c1, c2, c3⟩ := h.1.told
  obtain ⟨d0, d1, d2, d3⟩ := h.2.1.told
  have g : ∀ b, s 207 b = t 207 b := fun b => congrFun (h.2.2 207 (by decide) (by decide)) b
  exact ⟨(a1.trans a2.symm).trans ((g 38).trans (b2.trans b1.symm)), c0.trans ((g 31).trans d0.symm), c1.trans ((g 32).trans d1.symm), c2.trans ((g 33).trans d2.symm), c3.trans ((g 34).trans d3.symm)⟩
theorem pr_clamp4 {x : Int32} (c1 : ¬ x < 0) (c2 : x < (4 : Int32)) : x.toNatClampNeg < 4 := by
  have h : vp_in x 4 := by
    rw [vp_in_iff]
    rw [Int32.lt_iff_toInt_lt] at c1 c2
    have h1 : (0 : Int32).toInt = 0 := by decide
    have h2 : (4 : Int32).toInt = 4 := by decide
    omega
  unfold vp_in at h
  omega
/-- how many rows a table has -/
theorem rows_v {c : Nat} {s : am_M} {x : Int32} (h : pu_R c s) : (∃ m, m ≤ 30 ∧ (f_LH_rows s x).1 = nI m ∧ f_CB_wantTable s x = 0) ∨ (f_LH_rows s x).1 = -9999999 := by
  obtain ⟨hP, Z, hZ⟩ := h
  obtain ⟨cb, mb, wr⟩ : q_x3 s (Z 6) (Z 8) := hZ 3
  rw [LHrows_e]
  unfold az
  rw [rows_1]
  by_cases k : f_CB_wantTable s x = 0
  · rw [if_pos k]
    left
    have e : (f_CB_rows s x).2.1 = f_RO_madeIn s 8 x := by unfold f_CB_rows; rw [if_pos k]
    show ∃ m, m ≤ 30 ∧ (f_CB_rows s x).2.1 = nI m ∧ _
    rw [e]
    unfold f_RO_madeIn
    by_cases c1 : x < 0
    · rw [if_pos c1]; exact ⟨0, by omega, nI_0.symm, k⟩
    · rw [if_neg c1]
      by_cases c2 : x < (4 : Int32)
      · rw [if_pos c2]
        have hx : x.toNatClampNeg < 4 := pr_clamp4 c1 c2
        have w1 := wr.1 _ hx
        refine ⟨q_c (Z 8 0 x.toNatClampNeg), w1.2.1, ?_, k⟩
        rw [← w1.1]
        exact cb.1 _ hx
      · rw [if_neg c2]; exact ⟨0, by omega, nI_0.symm, k⟩
  · rw [if_neg k]; exact Or.inr rfl
end
