noncomputable section
-- the same for calls that answer alone
theorem zz_Iq {d : Nat} {M : am_M → Int32 × am_M} (hM : ∀ b u, M (mx b u) = mxC b (M u)) {s t : am_M} {p q : Nat × Int32 × am_M} {ls lt : Int32 × am_M} (g : gq s t) (ws : gq p.2.2 s) (wt : gq q.2.2 t) (as : (p.1 = 0 → ls = (0, am_set p.2.2 262 0 p.2.1)) ∧ (¬ p.1 = 0 → ¬ ls.1 = 0 ∧ ls.2 = p.2.2)) (at' : (q.1 = 0 → lt = (0, am_set q.2.2 262 0 q.2.1)) ∧ (¬ q.1 = 0 → ¬ lt.1 = 0 ∧ lt.2 = q.2.2)) (os : pu_I (pu_R d) ls.1 (M ls.2)) (ot : pu_I (pu_R d) lt.1 (M lt.2)) : (p.1 = 0 ↔ q.1 = 0) ∧ (p.1 = 0 → p.2.1 = q.2.1) := by
  have z := zz_I (d := d) (M := M) hM g ws wt as at' os ot
  exact ⟨z.1, fun h => (z.2 h).1⟩
theorem zz_Bq {d : Nat} {M : am_M → Int32 × am_M} (hM : ∀ b u, M (mx b u) = mxC b (M u)) {s t : am_M} {p q : Nat × Int32 × am_M} {ls lt : Int32 × am_M} (g : gq s t) (ws : gq p.2.2 s) (wt : gq q.2.2 t) (as : (p.1 = 0 → ls = (0, am_set p.2.2 262 0 (if p.2.1 = 0 then 0 else 1))) ∧ (¬ p.1 = 0 → ¬ ls.1 = 0 ∧ ls.2 = p.2.2)) (at' : (q.1 = 0 → lt = (0, am_set q.2.2 262 0 (if q.2.1 = 0 then 0 else 1))) ∧ (¬ q.1 = 0 → ¬ lt.1 = 0 ∧ lt.2 = q.2.2)) (os : pu_B (pu_R d) ls.1 (M ls.2)) (ot : pu_B (pu_R d) lt.1 (M lt.2)) : (p.1 = 0 ↔ q.1 = 0) ∧ (p.1 = 0 → (p.2.1 = 0 ↔ q.2.1 = 0)) := by
  have z := zz_B (d := d) (M := M) hM g ws wt as at' os ot
  exact ⟨z.1, fun h => (z.2 h).1⟩
theorem la_order {s : am_M} {a1 : Int32} : ((f_CB_order s a1).1 = 0 → (f_LA_order s a1) = (0, am_set (f_CB_order s a1).2.2 262 0 (f_CB_order s a1).2.1)) ∧ (¬ (f_CB_order s a1).1 = 0 → ¬ (f_LA_order s a1).1 = 0 ∧ (f_LA_order s a1).2 = (f_CB_order s a1).2.2) := by
  unfold f_LA_order
  refine ⟨fun h => ?_, fun h => ?_⟩
  · rw [if_pos h]
    rfl
  · rw [if_neg h]
    repeat' split
    all_goals exact ⟨by simp, rfl⟩
theorem zp_order {d : Nat} {s : am_M} {a1 : Int32} (h : p_LA_order s a1) : p_CB_order s a1 ∧ zE (f_CB_order s a1).1 := by
  unfold p_LA_order at h
  obtain ⟨h1, h2, -⟩ := h
  exact ⟨h1, by rcases h2 with e | e <;> simp [zE, e]⟩
theorem me_order {s : am_M} {a1 : Int32} : (f_CB_order s a1).2.2 = s := by
  unfold f_CB_order
  repeat' split
  all_goals rfl
theorem zo_order {c d : Nat} (ho : op_order (pu_R c) (pu_R d)) {s t : am_M} {a1 : Int32} (h : RR c s t) : (p_CB_order s a1 ∧ p_CB_order t a1) ∧ zE (f_CB_order s a1).1 ∧ zE (f_CB_order t a1).1 ∧ ((f_CB_order s a1).1 = 0 ↔ (f_CB_order t a1).1 = 0) ∧ ((f_CB_order s a1).1 = 0 → (f_CB_order s a1).2.1 = (f_CB_order t a1).2.1) := by
  obtain ⟨ls, -, os⟩ := ho s a1 h.1
  obtain ⟨lt, -, ot⟩ := ho t a1 h.2.1
  obtain ⟨ps, es⟩ := zp_order (d := d) ls
  obtain ⟨pt, et⟩ := zp_order (d := d) lt
  have z := zz_Iq (d := d) (p := (f_CB_order s a1)) (q := (f_CB_order t a1)) (ls := (f_LA_order s a1)) (lt := (f_LA_order t a1)) (M := fun m => f_MO_order m a1) (fun b u => xl_MO_order u a1) h.2.2 (fun a h1 _ => by rw [me_order]) (fun a h1 _ => by rw [me_order]) la_order la_order os ot
  exact ⟨⟨ps, pt⟩, es, et, z.1, z.2⟩
theorem la_wouldLose {s : am_M} {a1 a2 a3 a4 : Int32} : ((f_CB_wouldLose s a1 a2 a3 a4).1 = 0 → (f_LA_wouldLose s a1 a2 a3 a4) = (0, am_set (f_CB_wouldLose s a1 a2 a3 a4).2.2 262 0 (f_CB_wouldLose s a1 a2 a3 a4).2.1)) ∧ (¬ (f_CB_wouldLose s a1 a2 a3 a4).1 = 0 → ¬ (f_LA_wouldLose s a1 a2 a3 a4).1 = 0 ∧ (f_LA_wouldLose s a1 a2 a3 a4).2 = (f_CB_wouldLose s a1 a2 a3 a4).2.2) := by
  unfold f_LA_wouldLose
  refine ⟨fun h => ?_, fun h => ?_⟩
  · rw [if_pos h]
    rfl
  · rw [if_neg h]
    repeat' split
    all_goals exact ⟨by simp, rfl⟩
theorem zp_wouldLose {d : Nat} {s : am_M} {a1 a2 a3 a4 : Int32} (h : p_LA_wouldLose s a1 a2 a3 a4) : p_CB_wouldLose s a1 a2 a3 a4 ∧ zE (f_CB_wouldLose s a1 a2 a3 a4).1 := by
  unfold p_LA_wouldLose at h
  obtain ⟨h1, h2, -⟩ := h
  exact ⟨h1, by rcases h2 with e | e | e <;> simp [zE, e]⟩
theorem me_wouldLose {s : am_M} {a1 a2 a3 a4 : Int32} : (f_CB_wouldLose s a1 a2 a3 a4).2.2 = s := by
  unfold f_CB_wouldLose
  repeat' split
  all_goals rfl
theorem zo_wouldLose {c d : Nat} (ho : op_wouldLose (pu_R c) (pu_R d)) {s t : am_M} {a1 a2 a3 a4 : Int32} (h : RR c s t) : (p_CB_wouldLose s a1 a2 a3 a4 ∧ p_CB_wouldLose t a1 a2 a3 a4) ∧ zE (f_CB_wouldLose s a1 a2 a3 a4).1 ∧ zE (f_CB_wouldLose t a1 a2 a3 a4).1 ∧ ((f_CB_wouldLose s a1 a2 a3 a4).1 = 0 ↔ (f_CB_wouldLose t a1 a2 a3 a4).1 = 0) ∧ ((f_CB_wouldLose s a1 a2 a3 a4).1 = 0 → (f_CB_wouldLose s a1 a2 a3 a4).2.1 = (f_CB_wouldLose t a1 a2 a3 a4).2.1) := by
  obtain ⟨ls, -, os⟩ := ho s a1 a2 a3 a4 h.1
  obtain ⟨lt, -, ot⟩ := ho t a1 a2 a3 a4 h.2.1
  obtain ⟨ps, es⟩ := zp_wouldLose (d := d) ls
  obtain ⟨pt, et⟩ := zp_wouldLose (d := d) lt
  have z := zz_Iq (d := d) (p := (f_CB_wouldLose s a1 a2 a3 a4)) (q := (f_CB_wouldLose t a1 a2 a3 a4)) (ls := (f_LA_wouldLose s a1 a2 a3 a4)) (lt := (f_LA_wouldLose t a1 a2 a3 a4)) (M := fun m => f_MO_wouldLose m a1 a2 a3 a4) (fun b u => xl_MO_wouldLose u a1 a2 a3 a4) h.2.2 (fun a h1 _ => by rw [me_wouldLose]) (fun a h1 _ => by rw [me_wouldLose]) la_wouldLose la_wouldLose os ot
  exact ⟨⟨ps, pt⟩, es, et, z.1, z.2⟩
theorem la_wouldLoseAll {s : am_M} {a1 a2 : Int32} : ((f_CB_wouldLoseAll s a1 a2).1 = 0 → (f_LA_wouldLoseAll s a1 a2) = (0, am_set (f_CB_wouldLoseAll s a1 a2).2.2 262 0 (f_CB_wouldLoseAll s a1 a2).2.1)) ∧ (¬ (f_CB_wouldLoseAll s a1 a2).1 = 0 → ¬ (f_LA_wouldLoseAll s a1 a2).1 = 0 ∧ (f_LA_wouldLoseAll s a1 a2).2 = (f_CB_wouldLoseAll s a1 a2).2.2) := by
  unfold f_LA_wouldLoseAll
  refine ⟨fun h => ?_, fun h => ?_⟩
  · rw [if_pos h]
    rfl
  · rw [if_neg h]
    repeat' split
    all_goals exact ⟨by simp, rfl⟩
theorem zp_wouldLoseAll {d : Nat} {s : am_M} {a1 a2 : Int32} (h : p_LA_wouldLoseAll s a1 a2) : p_CB_wouldLoseAll s a1 a2 ∧ zE (f_CB_wouldLoseAll s a1 a2).1 := by
  unfold p_LA_wouldLoseAll at h
  obtain ⟨h1, h2, -⟩ := h
  exact ⟨h1, by rcases h2 with e | e <;> simp [zE, e]⟩
theorem me_wouldLoseAll {s : am_M} {a1 a2 : Int32} : (f_CB_wouldLoseAll s a1 a2).2.2 = s := by
  unfold f_CB_wouldLoseAll
  repeat' split
  all_goals rfl
theorem zo_wouldLoseAll {c d : Nat} (ho : op_wouldLoseAll (pu_R c) (pu_R d)) {s t : am_M} {a1 a2 : Int32} (h : RR c s t) : (p_CB_wouldLoseAll s a1 a2 ∧ p_CB_wouldLoseAll t a1 a2) ∧ zE (f_CB_wouldLoseAll s a1 a2).1 ∧ zE (f_CB_wouldLoseAll t a1 a2).1 ∧ ((f_CB_wouldLoseAll s a1 a2).1 = 0 ↔ (f_CB_wouldLoseAll t a1 a2).1 = 0) ∧ ((f_CB_wouldLoseAll s a1 a2).1 = 0 → (f_CB_wouldLoseAll s a1 a2).2.1 = (f_CB_wouldLoseAll t a1 a2).2.1) := by
  obtain ⟨ls, -, os⟩ := ho s a1 a2 h.1
  obtain ⟨lt, -, ot⟩ := ho t a1 a2 h.2.1
  obtain ⟨ps, es⟩ := zp_wouldLoseAll (d := d) ls
  obtain ⟨pt, et⟩ := zp_wouldLoseAll (d := d) lt
  have z := zz_Iq (d := d) (p := (f_CB_wouldLoseAll s a1 a2)) (q := (f_CB_wouldLoseAll t a1 a2)) (ls := (f_LA_wouldLoseAll s a1 a2)) (lt := (f_LA_wouldLoseAll t a1 a2)) (M := fun m => f_MO_wouldLoseAll m a1 a2) (fun b u => xl_MO_wouldLoseAll u a1 a2) h.2.2 (fun a h1 _ => by rw [me_wouldLoseAll]) (fun a h1 _ => by rw [me_wouldLoseAll]) la_wouldLoseAll la_wouldLoseAll os ot
  exact ⟨⟨ps, pt⟩, es, et, z.1, z.2⟩
theorem la_cell {s : am_M} {a1 a2 a3 : Int32} : ((f_CB_cell s a1 a2 a3).1 = 0 → (f_LA_cell s a1 a2 a3) = (0, am_set (f_CB_cell s a1 a2 a3).2.2 262 0 (f_CB_cell s a1 a2 a3).2.1)) ∧ (¬ (f_CB_cell s a1 a2 a3).1 = 0 → ¬ (f_LA_cell s a1 a2 a3).1 = 0 ∧ (f_LA_cell s a1 a2 a3).2 = (f_CB_cell s a1 a2 a3).2.2) := by
  unfold f_LA_cell
  refine ⟨fun h => ?_, fun h => ?_⟩
  · rw [if_pos h]
    rfl
  · rw [if_neg h]
    repeat' split
    all_goals exact ⟨by simp, rfl⟩
theorem zp_cell {d : Nat} {s : am_M} {a1 a2 a3 : Int32} (h : p_LA_cell s a1 a2 a3) : p_CB_cell s a1 a2 a3 ∧ zE (f_CB_cell s a1 a2 a3).1 := by
  unfold p_LA_cell at h
  obtain ⟨h1, h2, -⟩ := h
  exact ⟨h1, by rcases h2 with e | e <;> simp [zE, e]⟩
theorem me_cell {s : am_M} {a1 a2 a3 : Int32} : (f_CB_cell s a1 a2 a3).2.2 = s := by
  unfold f_CB_cell
  repeat' split
  all_goals rfl
theorem zo_cell {c d : Nat} (ho : op_cell (pu_R c) (pu_R d)) {s t : am_M} {a1 a2 a3 : Int32} (h : RR c s t) : (p_CB_cell s a1 a2 a3 ∧ p_CB_cell t a1 a2 a3) ∧ zE (f_CB_cell s a1 a2 a3).1 ∧ zE (f_CB_cell t a1 a2 a3).1 ∧ ((f_CB_cell s a1 a2 a3).1 = 0 ↔ (f_CB_cell t a1 a2 a3).1 = 0) ∧ ((f_CB_cell s a1 a2 a3).1 = 0 → (f_CB_cell s a1 a2 a3).2.1 = (f_CB_cell t a1 a2 a3).2.1) := by
  obtain ⟨ls, -, os⟩ := ho s a1 a2 a3 h.1
  obtain ⟨lt, -, ot⟩ := ho t a1 a2 a3 h.2.1
  obtain ⟨ps, es⟩ := zp_cell (d := d) ls
  obtain ⟨pt, et⟩ := zp_cell (d := d) lt
  have z := zz_Iq (d := d) (p := (f_CB_cell s a1 a2 a3)) (q := (f_CB_cell t a1 a2 a3)) (ls := (f_LA_cell s a1 a2 a3)) (lt := (f_LA_cell t a1 a2 a3)) (M := fun m => f_MO_cell m a1 a2 a3) (fun b u => xl_MO_cell u a1 a2 a3) h.2.2 (fun a h1 _ => by rw [me_cell]) (fun a h1 _ => by rw [me_cell]) la_cell la_cell os ot
  exact ⟨⟨ps, pt⟩, es, et, z.1, z.2⟩
theorem la_isThere {s : am_M} {a1 a2 : Int32} : ((f_CB_isThere s a1 a2).1 = 0 → (f_LA_isThere s a1 a2) = (0, am_set (f_CB_isThere s a1 a2).2.2 262 0 (if (f_CB_isThere s a1 a2).2.1 = 0 then 0 else 1))) ∧ (¬ (f_CB_isThere s a1 a2).1 = 0 → ¬ (f_LA_isThere s a1 a2).1 = 0 ∧ (f_LA_isThere s a1 a2).2 = (f_CB_isThere s a1 a2).2.2) := by
  unfold f_LA_isThere
  refine ⟨fun h => ?_, fun h => ?_⟩
  · rw [if_pos h]
    by_cases hb : (f_CB_isThere s a1 a2).2.1 = 0
    · rw [if_pos hb, if_pos hb]; rfl
    · rw [if_neg hb, if_neg hb]; rfl
  · rw [if_neg h]
    repeat' split
    all_goals exact ⟨by simp, rfl⟩
theorem zp_isThere {d : Nat} {s : am_M} {a1 a2 : Int32} (h : p_LA_isThere s a1 a2) : p_CB_isThere s a1 a2 ∧ zE (f_CB_isThere s a1 a2).1 := by
  unfold p_LA_isThere at h
  obtain ⟨h1, h2, -⟩ := h
  exact ⟨h1, by rcases h2 with e | e <;> simp [zE, e]⟩
theorem me_isThere {s : am_M} {a1 a2 : Int32} : (f_CB_isThere s a1 a2).2.2 = s := by
  unfold f_CB_isThere
  repeat' split
  all_goals rfl
theorem zo_isThere {c d : Nat} (ho : op_isThere (pu_R c) (pu_R d)) {s t : am_M} {a1 a2 : Int32} (h : RR c s t) : (p_CB_isThere s a1 a2 ∧ p_CB_isThere t a1 a2) ∧ zE (f_CB_isThere s a1 a2).1 ∧ zE (f_CB_isThere t a1 a2).1 ∧ ((f_CB_isThere s a1 a2).1 = 0 ↔ (f_CB_isThere t a1 a2).1 = 0) ∧ ((f_CB_isThere s a1 a2).1 = 0 → ((f_CB_isThere s a1 a2).2.1 = 0 ↔ (f_CB_isThere t a1 a2).2.1 = 0)) := by
  obtain ⟨ls, -, os⟩ := ho s a1 a2 h.1
  obtain ⟨lt, -, ot⟩ := ho t a1 a2 h.2.1
  obtain ⟨ps, es⟩ := zp_isThere (d := d) ls
  obtain ⟨pt, et⟩ := zp_isThere (d := d) lt
  have z := zz_Bq (d := d) (p := (f_CB_isThere s a1 a2)) (q := (f_CB_isThere t a1 a2)) (ls := (f_LA_isThere s a1 a2)) (lt := (f_LA_isThere t a1 a2)) (M := fun m => f_MO_isThere m a1 a2) (fun b u => xl_MO_isThere u a1 a2) h.2.2 (fun a h1 _ => by rw [me_isThere]) (fun a h1 _ => by rw [me_isThere]) la_isThere la_isThere os ot
  exact ⟨⟨ps, pt⟩, es, et, z.1, z.2⟩
theorem la_rows {s : am_M} {a1 : Int32} : ((f_CB_rows s a1).1 = 0 → (f_LA_rows s a1) = (0, am_set (f_CB_rows s a1).2.2 262 0 (f_CB_rows s a1).2.1)) ∧ (¬ (f_CB_rows s a1).1 = 0 → ¬ (f_LA_rows s a1).1 = 0 ∧ (f_LA_rows s a1).2 = (f_CB_rows s a1).2.2) := by
  unfold f_LA_rows
  refine ⟨fun h => ?_, fun h => ?_⟩
  · rw [if_pos h]
    rfl
  · rw [if_neg h]
    repeat' split
    all_goals exact ⟨by simp, rfl⟩
theorem zp_rows {d : Nat} {s : am_M} {a1 : Int32} (h : p_LA_rows s a1) : p_CB_rows s a1 ∧ zE (f_CB_rows s a1).1 := by
  unfold p_LA_rows at h
  obtain ⟨h1, h2, -⟩ := h
  exact ⟨h1, by rcases h2 with e | e <;> simp [zE, e]⟩
theorem me_rows {s : am_M} {a1 : Int32} : (f_CB_rows s a1).2.2 = s := by
  unfold f_CB_rows
  repeat' split
  all_goals rfl
theorem zo_rows {c d : Nat} (ho : op_rows (pu_R c) (pu_R d)) {s t : am_M} {a1 : Int32} (h : RR c s t) : (p_CB_rows s a1 ∧ p_CB_rows t a1) ∧ zE (f_CB_rows s a1).1 ∧ zE (f_CB_rows t a1).1 ∧ ((f_CB_rows s a1).1 = 0 ↔ (f_CB_rows t a1).1 = 0) ∧ ((f_CB_rows s a1).1 = 0 → (f_CB_rows s a1).2.1 = (f_CB_rows t a1).2.1) := by
  obtain ⟨ls, -, os⟩ := ho s a1 h.1
  obtain ⟨lt, -, ot⟩ := ho t a1 h.2.1
  obtain ⟨ps, es⟩ := zp_rows (d := d) ls
  obtain ⟨pt, et⟩ := zp_rows (d := d) lt
  have z := zz_Iq (d := d) (p := (f_CB_rows s a1)) (q := (f_CB_rows t a1)) (ls := (f_LA_rows s a1)) (lt := (f_LA_rows t a1)) (M := fun m => f_MO_rows m a1) (fun b u => xl_MO_rows u a1) h.2.2 (fun a h1 _ => by rw [me_rows]) (fun a h1 _ => by rw [me_rows]) la_rows la_rows os ot
  exact ⟨⟨ps, pt⟩, es, et, z.1, z.2⟩
theorem la_answers {s : am_M} {a1 : Int32} : ((f_CB_answers s a1).1 = 0 → (f_LA_answers s a1) = (0, am_set (f_CB_answers s a1).2.2 262 0 (f_CB_answers s a1).2.1)) ∧ (¬ (f_CB_answers s a1).1 = 0 → ¬ (f_LA_answers s a1).1 = 0 ∧ (f_LA_answers s a1).2 = (f_CB_answers s a1).2.2) := by
  unfold f_LA_answers
  refine ⟨fun h => ?_, fun h => ?_⟩
  · rw [if_pos h]
    rfl
  · rw [if_neg h]
    repeat' split
    all_goals exact ⟨by simp, rfl⟩
theorem zp_answers {d : Nat} {s : am_M} {a1 : Int32} (h : p_LA_answers s a1) : p_CB_answers s a1 ∧ zE (f_CB_answers s a1).1 := by
  unfold p_LA_answers at h
  obtain ⟨h1, h2, -⟩ := h
  exact ⟨h1, by rcases h2 with e | e <;> simp [zE, e]⟩
theorem zo_answers {c d : Nat} (ho : op_answers (pu_R c) (pu_R d)) {s t : am_M} {a1 : Int32} (h : RR c s t) : (p_CB_answers s a1 ∧ p_CB_answers t a1) ∧ zE (f_CB_answers s a1).1 ∧ zE (f_CB_answers t a1).1 ∧ ((f_CB_answers s a1).1 = 0 ↔ (f_CB_answers t a1).1 = 0) ∧ ((f_CB_answers s a1).1 = 0 → (f_CB_answers s a1).2.1 = (f_CB_answers t a1).2.1) := by
  obtain ⟨ls, -, os⟩ := ho s a1 h.1
  obtain ⟨lt, -, ot⟩ := ho t a1 h.2.1
  obtain ⟨ps, es⟩ := zp_answers (d := d) ls
  obtain ⟨pt, et⟩ := zp_answers (d := d) lt
  have z := zz_Iq (d := d) (p := (f_CB_answers s a1)) (q := (f_CB_answers t a1)) (ls := (f_LA_answers s a1)) (lt := (f_LA_answers t a1)) (M := fun m => f_MO_answers m a1) (fun b u => xl_MO_answers u a1) h.2.2 (fun a h1 _ => wl_CB_answers h1 ps) (fun a h1 _ => wl_CB_answers h1 pt) la_answers la_answers os ot
  exact ⟨⟨ps, pt⟩, es, et, z.1, z.2⟩
theorem la_columns {s : am_M} {a1 : Int32} : ((f_CB_columns s a1).1 = 0 → (f_LA_columns s a1) = (0, am_set (f_CB_columns s a1).2.2 262 0 (f_CB_columns s a1).2.1)) ∧ (¬ (f_CB_columns s a1).1 = 0 → ¬ (f_LA_columns s a1).1 = 0 ∧ (f_LA_columns s a1).2 = (f_CB_columns s a1).2.2) := by
  unfold f_LA_columns
  refine ⟨fun h => ?_, fun h => ?_⟩
  · rw [if_pos h]
    rfl
  · rw [if_neg h]
    repeat' split
    all_goals exact ⟨by simp, rfl⟩
theorem zp_columns {d : Nat} {s : am_M} {a1 : Int32} (h : p_LA_columns s a1) : p_CB_columns s a1 ∧ zE (f_CB_columns s a1).1 := by
  unfold p_LA_columns at h
  obtain ⟨h1, h2, -⟩ := h
  exact ⟨h1, by rcases h2 with e | e <;> simp [zE, e]⟩
theorem zo_columns {c d : Nat} (ho : op_columns (pu_R c) (pu_R d)) {s t : am_M} {a1 : Int32} (h : RR c s t) : (p_CB_columns s a1 ∧ p_CB_columns t a1) ∧ zE (f_CB_columns s a1).1 ∧ zE (f_CB_columns t a1).1 ∧ ((f_CB_columns s a1).1 = 0 ↔ (f_CB_columns t a1).1 = 0) ∧ ((f_CB_columns s a1).1 = 0 → (f_CB_columns s a1).2.1 = (f_CB_columns t a1).2.1) := by
  obtain ⟨ls, -, os⟩ := ho s a1 h.1
  obtain ⟨lt, -, ot⟩ := ho t a1 h.2.1
  obtain ⟨ps, es⟩ := zp_columns (d := d) ls
  obtain ⟨pt, et⟩ := zp_columns (d := d) lt
  have z := zz_Iq (d := d) (p := (f_CB_columns s a1)) (q := (f_CB_columns t a1)) (ls := (f_LA_columns s a1)) (lt := (f_LA_columns t a1)) (M := fun m => f_MO_columns m a1) (fun b u => xl_MO_columns u a1) h.2.2 (fun a h1 _ => wl_CB_columns h1 ps) (fun a h1 _ => wl_CB_columns h1 pt) la_columns la_columns os ot
  exact ⟨⟨ps, pt⟩, es, et, z.1, z.2⟩
theorem la_answer {s : am_M} {a1 a2 a3 : Int32} : ((f_CB_answer s a1 a2 a3).1 = 0 → (f_LA_answer s a1 a2 a3) = (0, am_set (f_CB_answer s a1 a2 a3).2.2 262 0 (f_CB_answer s a1 a2 a3).2.1)) ∧ (¬ (f_CB_answer s a1 a2 a3).1 = 0 → ¬ (f_LA_answer s a1 a2 a3).1 = 0 ∧ (f_LA_answer s a1 a2 a3).2 = (f_CB_answer s a1 a2 a3).2.2) := by
  unfold f_LA_answer
  refine ⟨fun h => ?_, fun h => ?_⟩
  · rw [if_pos h]
    rfl
  · rw [if_neg h]
    repeat' split
    all_goals exact ⟨by simp, rfl⟩
theorem zp_answer {d : Nat} {s : am_M} {a1 a2 a3 : Int32} (h : p_LA_answer s a1 a2 a3) : p_CB_answer s a1 a2 a3 ∧ zE (f_CB_answer s a1 a2 a3).1 := by
  unfold p_LA_answer at h
  obtain ⟨h1, h2, -⟩ := h
  exact ⟨h1, by rcases h2 with e | e <;> simp [zE, e]⟩
theorem zo_answer {c d : Nat} (ho : op_answer (pu_R c) (pu_R d)) {s t : am_M} {a1 a2 a3 : Int32} (h : RR c s t) : (p_CB_answer s a1 a2 a3 ∧ p_CB_answer t a1 a2 a3) ∧ zE (f_CB_answer s a1 a2 a3).1 ∧ zE (f_CB_answer t a1 a2 a3).1 ∧ ((f_CB_answer s a1 a2 a3).1 = 0 ↔ (f_CB_answer t a1 a2 a3).1 = 0) ∧ ((f_CB_answer s a1 a2 a3).1 = 0 → (f_CB_answer s a1 a2 a3).2.1 = (f_CB_answer t a1 a2 a3).2.1) := by
  obtain ⟨ls, -, os⟩ := ho s a1 a2 a3 h.1
  obtain ⟨lt, -, ot⟩ := ho t a1 a2 a3 h.2.1
  obtain ⟨ps, es⟩ := zp_answer (d := d) ls
  obtain ⟨pt, et⟩ := zp_answer (d := d) lt
  have z := zz_Iq (d := d) (p := (f_CB_answer s a1 a2 a3)) (q := (f_CB_answer t a1 a2 a3)) (ls := (f_LA_answer s a1 a2 a3)) (lt := (f_LA_answer t a1 a2 a3)) (M := fun m => f_MO_answer m a1 a2 a3) (fun b u => xl_MO_answer u a1 a2 a3) h.2.2 (fun a h1 _ => wl_CB_answer h1 ps) (fun a h1 _ => wl_CB_answer h1 pt) la_answer la_answer os ot
  exact ⟨⟨ps, pt⟩, es, et, z.1, z.2⟩
theorem la_target {s : am_M} {a1 a2 a3 : Int32} : ((f_CB_target s a1 a2 a3).1 = 0 → (f_LA_target s a1 a2 a3) = (0, am_set (f_CB_target s a1 a2 a3).2.2 262 0 (f_CB_target s a1 a2 a3).2.1)) ∧ (¬ (f_CB_target s a1 a2 a3).1 = 0 → ¬ (f_LA_target s a1 a2 a3).1 = 0 ∧ (f_LA_target s a1 a2 a3).2 = (f_CB_target s a1 a2 a3).2.2) := by
  unfold f_LA_target
  refine ⟨fun h => ?_, fun h => ?_⟩
  · rw [if_pos h]
    rfl
  · rw [if_neg h]
    repeat' split
    all_goals exact ⟨by simp, rfl⟩
theorem zp_target {d : Nat} {s : am_M} {a1 a2 a3 : Int32} (h : p_LA_target s a1 a2 a3) : p_CB_target s a1 a2 a3 ∧ zE (f_CB_target s a1 a2 a3).1 := by
  unfold p_LA_target at h
  obtain ⟨h1, h2, -⟩ := h
  exact ⟨h1, by rcases h2 with e | e <;> simp [zE, e]⟩
theorem zo_target {c d : Nat} (ho : op_target (pu_R c) (pu_R d)) {s t : am_M} {a1 a2 a3 : Int32} (h : RR c s t) : (p_CB_target s a1 a2 a3 ∧ p_CB_target t a1 a2 a3) ∧ zE (f_CB_target s a1 a2 a3).1 ∧ zE (f_CB_target t a1 a2 a3).1 ∧ ((f_CB_target s a1 a2 a3).1 = 0 ↔ (f_CB_target t a1 a2 a3).1 = 0) ∧ ((f_CB_target s a1 a2 a3).1 = 0 → (f_CB_target s a1 a2 a3).2.1 = (f_CB_target t a1 a2 a3).2.1) := by
  obtain ⟨ls, -, os⟩ := ho s a1 a2 a3 h.1
  obtain ⟨lt, -, ot⟩ := ho t a1 a2 a3 h.2.1
  obtain ⟨ps, es⟩ := zp_target (d := d) ls
  obtain ⟨pt, et⟩ := zp_target (d := d) lt
  have z := zz_Iq (d := d) (p := (f_CB_target s a1 a2 a3)) (q := (f_CB_target t a1 a2 a3)) (ls := (f_LA_target s a1 a2 a3)) (lt := (f_LA_target t a1 a2 a3)) (M := fun m => f_MO_target m a1 a2 a3) (fun b u => xl_MO_target u a1 a2 a3) h.2.2 (fun a h1 _ => wl_CB_target h1 ps) (fun a h1 _ => wl_CB_target h1 pt) la_target la_target os ot
  exact ⟨⟨ps, pt⟩, es, et, z.1, z.2⟩
end
