noncomputable section
-- what throws leaves all as it was (but for scratch of answers looked up)
theorem pu_lookC {c : Nat} {s t : am_M} {Z : Nat → am_M} (hP : ∀ i, pu_P i s) (hZ : ∀ j, pu_X c j s Z) (h : q_out s t (fun a b => q_FD a b ∨ a = 66)) : pu_R c t :=
  pu_look hP hZ (q_FD_LU h)
def Thr (c : Nat) (q : Nat × Int32 × am_M) : Prop := q.1 ≠ 0 → pu_R c q.2.2
theorem th_0 {c : Nat} {v : Int32} {m : am_M} : Thr c (0, v, m) := fun q => absurd rfl q
theorem th_s {c k : Nat} {v : Int32} {m : am_M} (h : pu_R c m) : Thr c (k, v, m) := fun _ => h
theorem th_i {c : Nat} {p : Prop} [Decidable p] {x y : Nat × Int32 × am_M} (hx : Thr c x) (hy : Thr c y) : Thr c (if p then x else y) := by
  split
  · exact hx
  · exact hy
theorem lx_A {c : Nat} {s : am_M} {x1 x2 x3 : Int32} (h : pu_R c s) : pu_R c (f_CB_wantAnswer s x1 x2 x3).2 := by
  obtain ⟨hP, Z, hZ⟩ := h
  obtain ⟨cd, oc, md, wd⟩ : q_x1 s (Z 6) := hZ 1
  obtain ⟨cb, mb, wr⟩ : q_x3 s (Z 6) (Z 8) := hZ 3
  obtain ⟨qc, qm, qw⟩ : q_x5 s (Z 6) (Z 11) := hZ 5
  obtain ⟨-, e, t, e1, e2, -⟩ := qa_wantA cd wd wr cb qc qw x1 x2 x3
  rw [e1]
  exact pu_lookC hP hZ e2
theorem lx_C {c : Nat} {s : am_M} {x1 x2 : Int32} (h : pu_R c s) : pu_R c (f_CB_wantQuestionColumn s x1 x2).2 := by
  obtain ⟨hP, Z, hZ⟩ := h
  obtain ⟨cd, oc, md, wd⟩ : q_x1 s (Z 6) := hZ 1
  obtain ⟨cb, mb, wr⟩ : q_x3 s (Z 6) (Z 8) := hZ 3
  obtain ⟨qc, qm, qw⟩ : q_x5 s (Z 6) (Z 11) := hZ 5
  obtain ⟨-, e, t, e1, e2, -⟩ := qa_wantC cd wd wr cb qc qw x1 x2
  rw [e1]
  exact pu_lookC hP hZ e2

theorem th_addTable {c : Nat} {s : am_M} (h : pu_R c s) : Thr c (f_CB_addTable s) := by
  unfold f_CB_addTable
  repeat' (first | with_reducible exact th_s h | with_reducible exact th_s (lx_A h) | with_reducible exact th_s (lx_C h) | with_reducible exact th_0 | with_reducible refine th_i ?_ ?_)
theorem th_addNumber {c : Nat} {s : am_M} {a1 a2 a3 : Int32} (h : pu_R c s) : Thr c (f_CB_addNumber s a1 a2 a3) := by
  unfold f_CB_addNumber
  repeat' (first | with_reducible exact th_s h | with_reducible exact th_s (lx_A h) | with_reducible exact th_s (lx_C h) | with_reducible exact th_0 | with_reducible refine th_i ?_ ?_)
theorem th_addLink {c : Nat} {s : am_M} {a1 a2 a3 : Int32} (h : pu_R c s) : Thr c (f_CB_addLink s a1 a2 a3) := by
  unfold f_CB_addLink
  repeat' (first | with_reducible exact th_s h | with_reducible exact th_s (lx_A h) | with_reducible exact th_s (lx_C h) | with_reducible exact th_0 | with_reducible refine th_i ?_ ?_)
theorem th_addReckoned {c : Nat} {s : am_M} {a1 a2 a3 a4 a5 : Int32} (h : pu_R c s) : Thr c (f_CB_addReckoned s a1 a2 a3 a4 a5) := by
  unfold f_CB_addReckoned
  repeat' (first | with_reducible exact th_s h | with_reducible exact th_s (lx_A h) | with_reducible exact th_s (lx_C h) | with_reducible exact th_0 | with_reducible refine th_i ?_ ?_)
theorem th_reckonAnew {c : Nat} {s : am_M} {a1 a2 a3 a4 a5 a6 : Int32} (h : pu_R c s) : Thr c (f_CB_reckonAnew s a1 a2 a3 a4 a5 a6) := by
  unfold f_CB_reckonAnew
  repeat' (first | with_reducible exact th_s h | with_reducible exact th_s (lx_A h) | with_reducible exact th_s (lx_C h) | with_reducible exact th_0 | with_reducible refine th_i ?_ ?_)
theorem th_need {c : Nat} {s : am_M} {a1 a2 a3 : Int32} (h : pu_R c s) : Thr c (f_CB_need s a1 a2 a3) := by
  unfold f_CB_need
  repeat' (first | with_reducible exact th_s h | with_reducible exact th_s (lx_A h) | with_reducible exact th_s (lx_C h) | with_reducible exact th_0 | with_reducible refine th_i ?_ ?_)
theorem th_single {c : Nat} {s : am_M} {a1 a2 a3 : Int32} (h : pu_R c s) : Thr c (f_CB_single s a1 a2 a3) := by
  unfold f_CB_single
  repeat' (first | with_reducible exact th_s h | with_reducible exact th_s (lx_A h) | with_reducible exact th_s (lx_C h) | with_reducible exact th_0 | with_reducible refine th_i ?_ ?_)
theorem th_narrow {c : Nat} {s : am_M} {a1 a2 a3 a4 : Int32} (h : pu_R c s) : Thr c (f_CB_narrow s a1 a2 a3 a4) := by
  unfold f_CB_narrow
  repeat' (first | with_reducible exact th_s h | with_reducible exact th_s (lx_A h) | with_reducible exact th_s (lx_C h) | with_reducible exact th_0 | with_reducible refine th_i ?_ ?_)
theorem th_drop {c : Nat} {s : am_M} {a1 a2 : Int32} (h : pu_R c s) : Thr c (f_CB_drop s a1 a2) := by
  unfold f_CB_drop
  repeat' (first | with_reducible exact th_s h | with_reducible exact th_s (lx_A h) | with_reducible exact th_s (lx_C h) | with_reducible exact th_0 | with_reducible refine th_i ?_ ?_)
theorem th_setRemoval {c : Nat} {s : am_M} {a1 a2 a3 : Int32} (h : pu_R c s) : Thr c (f_CB_setRemoval s a1 a2 a3) := by
  unfold f_CB_setRemoval
  repeat' (first | with_reducible exact th_s h | with_reducible exact th_s (lx_A h) | with_reducible exact th_s (lx_C h) | with_reducible exact th_0 | with_reducible refine th_i ?_ ?_)
theorem th_addRule {c : Nat} {s : am_M} {a1 a2 a3 a4 a5 : Int32} (h : pu_R c s) : Thr c (f_CB_addRule s a1 a2 a3 a4 a5) := by
  unfold f_CB_addRule
  repeat' (first | with_reducible exact th_s h | with_reducible exact th_s (lx_A h) | with_reducible exact th_s (lx_C h) | with_reducible exact th_0 | with_reducible refine th_i ?_ ?_)
theorem th_type {c : Nat} {s : am_M} {a1 a2 : Int32} (h : pu_R c s) : Thr c (f_CB_type s a1 a2) := by
  unfold f_CB_type
  repeat' (first | with_reducible exact th_s h | with_reducible exact th_s (lx_A h) | with_reducible exact th_s (lx_C h) | with_reducible exact th_0 | with_reducible refine th_i ?_ ?_)
theorem th_enter {c : Nat} {s : am_M} {a1 : Int32} (h : pu_R c s) : Thr c (f_CB_enter s a1) := by
  unfold f_CB_enter
  repeat' (first | with_reducible exact th_s h | with_reducible exact th_s (lx_A h) | with_reducible exact th_s (lx_C h) | with_reducible exact th_0 | with_reducible refine th_i ?_ ?_)
theorem th_put {c : Nat} {s : am_M} {a1 a2 a3 a4 : Int32} (h : pu_R c s) : Thr c (f_CB_put s a1 a2 a3 a4) := by
  unfold f_CB_put
  repeat' (first | with_reducible exact th_s h | with_reducible exact th_s (lx_A h) | with_reducible exact th_s (lx_C h) | with_reducible exact th_0 | with_reducible refine th_i ?_ ?_)
theorem th_remove {c : Nat} {s : am_M} {a1 a2 : Int32} (h : pu_R c s) : Thr c (f_CB_remove s a1 a2) := by
  unfold f_CB_remove
  repeat' (first | with_reducible exact th_s h | with_reducible exact th_s (lx_A h) | with_reducible exact th_s (lx_C h) | with_reducible exact th_0 | with_reducible refine th_i ?_ ?_)
theorem th_enterInside {c : Nat} {s : am_M} {a1 a2 : Int32} (h : pu_R c s) : Thr c (f_CB_enterInside s a1 a2) := by
  unfold f_CB_enterInside
  repeat' (first | with_reducible exact th_s h | with_reducible exact th_s (lx_A h) | with_reducible exact th_s (lx_C h) | with_reducible exact th_0 | with_reducible refine th_i ?_ ?_)
theorem th_addAct {c : Nat} {s : am_M} (h : pu_R c s) : Thr c (f_CB_addAct s) := by
  unfold f_CB_addAct
  repeat' (first | with_reducible exact th_s h | with_reducible exact th_s (lx_A h) | with_reducible exact th_s (lx_C h) | with_reducible exact th_0 | with_reducible refine th_i ?_ ?_)
theorem th_stepAdd {c : Nat} {s : am_M} {a1 a2 : Int32} (h : pu_R c s) : Thr c (f_CB_stepAdd s a1 a2) := by
  unfold f_CB_stepAdd
  repeat' (first | with_reducible exact th_s h | with_reducible exact th_s (lx_A h) | with_reducible exact th_s (lx_C h) | with_reducible exact th_0 | with_reducible refine th_i ?_ ?_)
theorem th_stepIf {c : Nat} {s : am_M} {a1 a2 a3 : Int32} (h : pu_R c s) : Thr c (f_CB_stepIf s a1 a2 a3) := by
  unfold f_CB_stepIf
  repeat' (first | with_reducible exact th_s h | with_reducible exact th_s (lx_A h) | with_reducible exact th_s (lx_C h) | with_reducible exact th_0 | with_reducible refine th_i ?_ ?_)
theorem th_undo {c : Nat} {s : am_M} (h : pu_R c s) : Thr c (f_CB_undo s) := by
  unfold f_CB_undo
  repeat' (first | with_reducible exact th_s h | with_reducible exact th_s (lx_A h) | with_reducible exact th_s (lx_C h) | with_reducible exact th_0 | with_reducible refine th_i ?_ ?_)
theorem th_write {c : Nat} {s : am_M} {a1 a2 a3 a4 : Int32} (h : pu_R c s) : Thr c (f_CB_write s a1 a2 a3 a4) := by
  unfold f_CB_write
  repeat' (first | with_reducible exact th_s h | with_reducible exact th_s (lx_A h) | with_reducible exact th_s (lx_C h) | with_reducible exact th_0 | with_reducible refine th_i ?_ ?_)
theorem th_condition {c : Nat} {s : am_M} {a1 a2 a3 a4 a5 : Int32} (h : pu_R c s) : Thr c (f_CB_condition s a1 a2 a3 a4 a5) := by
  unfold f_CB_condition
  repeat' (first | with_reducible exact th_s h | with_reducible exact th_s (lx_A h) | with_reducible exact th_s (lx_C h) | with_reducible exact th_0 | with_reducible refine th_i ?_ ?_)
theorem th_stepPut {c : Nat} {s : am_M} {a1 a2 a3 a4 : Int32} (h : pu_R c s) : Thr c (f_CB_stepPut s a1 a2 a3 a4) := by
  unfold f_CB_stepPut
  repeat' (first | with_reducible exact th_s h | with_reducible exact th_s (lx_A h) | with_reducible exact th_s (lx_C h) | with_reducible exact th_0 | with_reducible refine th_i ?_ ?_)
theorem th_stepRemove {c : Nat} {s : am_M} {a1 a2 a3 : Int32} (h : pu_R c s) : Thr c (f_CB_stepRemove s a1 a2 a3) := by
  unfold f_CB_stepRemove
  repeat' (first | with_reducible exact th_s h | with_reducible exact th_s (lx_A h) | with_reducible exact th_s (lx_C h) | with_reducible exact th_0 | with_reducible refine th_i ?_ ?_)
theorem th_choice_49 {c : Nat} : ∀ (n : Nat) (s : am_M) (x1 x2 x3 x4 x5 x6 : Int32), Thr c (f_CB_choice_49 n s x1 x2 x3 x4 x5 x6) := by
  intro n
  induction n with
  | zero => intro s x1 x2 x3 x4 x5 x6; exact th_0
  | succ n ih =>
    intro s x1 x2 x3 x4 x5 x6
    unfold f_CB_choice_49 f_CB_choice_95
    exact th_i th_0 (th_i (ih _ _ _ _ _ _ _) (th_i (ih _ _ _ _ _ _ _) th_0))
theorem th_choice {c : Nat} {s : am_M} {a1 a2 a3 a4 : Int32} (h : pu_R c s) : Thr c (f_CB_choice s a1 a2 a3 a4) := by
  unfold f_CB_choice
  exact th_i (th_i (th_i (th_i (th_choice_49 _ _ _ _ _ _ _ _) (th_s h)) (th_s h)) (th_s h)) (th_s h)
theorem th_run_18 {c : Nat} : ∀ (n : Nat) (s : am_M) (x1 : Int32) (x2 : Nat) (x3 : Int32), Thr c (f_CB_run_18 n s x1 x2 x3) := by
  intro n
  induction n with
  | zero => intro s x1 x2 x3; exact th_0
  | succ n ih =>
    intro s x1 x2 x3
    unfold f_CB_run_18 f_CB_run_132
    exact th_i th_0 (th_i th_0 (th_i (th_i th_0 (ih _ _ _ _)) (th_i (th_i th_0 (ih _ _ _ _)) (th_i (th_i th_0 (ih _ _ _ _)) (th_i (th_i th_0 (ih _ _ _ _)) (th_i th_0 (ih _ _ _ _)))))))
theorem th_run {c : Nat} {s : am_M} {a1 : Int32} (h : pu_R c s) : Thr c (f_CB_run s a1) := by
  unfold f_CB_run
  exact th_i (th_run_18 _ _ _ _ _) (th_s h)
theorem th_openForm {c : Nat} {s : am_M} {a1 a2 : Int32} (h : pu_R c s) : (f_CB_openForm s a1 a2).1 ≠ 0 → pu_R c (f_CB_openForm s a1 a2).2 := by
  unfold f_CB_openForm
  split
  · exact fun q => absurd rfl q
  · exact fun _ => h
theorem lx_S {c : Nat} {s : am_M} {x1 x2 : Int32} (h : pu_R c s) (hs : f_CB_wantSource s x1 = 0) : pu_R c (f_CB_wantSourceColumn s x1 x2).2 ∧ ((f_CB_wantSourceColumn s x1 x2).1 = 0 → f_CB_wantSource (f_CB_wantSourceColumn s x1 x2).2 x1 = 0) := by
  obtain ⟨hP, Z, hZ⟩ := h
  obtain ⟨cd, oc, md, wd⟩ : q_x1 s (Z 6) := hZ 1
  obtain ⟨cb, mb, wr⟩ : q_x3 s (Z 6) (Z 8) := hZ 3
  obtain ⟨qc, qm, qw⟩ : q_x5 s (Z 6) (Z 11) := hZ 5
  obtain ⟨-, hS⟩ := qa_wantS cd wd qc qw x1
  rcases hS with ⟨g, -⟩ | ⟨-, src, rfl, hsrc⟩
  · rw [hs] at g; exact absurd g (by decide)
  obtain ⟨-, e, t, e1, e2, -⟩ := qa_wantSC cd wd wr cb qc qw hsrc x2
  rw [e1]
  have o2 : q_out s t (q_LU (Z 11)) := q_FD_LU e2
  obtain ⟨hPt, hZt⟩ := pu_lookZ hP hZ o2
  refine ⟨⟨hPt, Z, hZt⟩, fun _ => ?_⟩
  obtain ⟨cd2, -, -, -⟩ : q_x1 t (Z 6) := hZt 1
  obtain ⟨qc2, -, -⟩ : q_x5 t (Z 6) (Z 11) := hZt 5
  rcases (qa_wantS cd2 wd qc2 qw (nI src)).2 with ⟨-, g⟩ | ⟨g, -⟩
  · exact absurd ⟨src, rfl, hsrc⟩ g
  · exact g
theorem th_if {c : Nat} {p : Prop} [Decidable p] {x y : Nat × Int32 × am_M} (hx : p → Thr c x) (hy : ¬ p → Thr c y) : Thr c (if p then x else y) := by
  split
  · exact hx ‹_›
  · exact hy ‹_›
theorem th_ask_16 {c : Nat} {s : am_M} {a1 a2 : Int32} (h : pu_R c s) : Thr c (f_CB_ask_16 s a1 a2) := by
  unfold f_CB_ask_16
  repeat' (first | with_reducible exact th_s h | with_reducible exact th_s (lx_A h) | with_reducible exact th_s (lx_C h) | with_reducible exact th_0 | with_reducible refine th_i ?_ ?_)
theorem th_ask {c : Nat} {s : am_M} {a1 a2 : Int32} (h : pu_R c s) : Thr c (f_CB_ask s a1 a2) := by
  unfold f_CB_ask
  exact th_if (fun g => th_i (th_ask_16 h) (th_i (th_ask_16 (lx_S h g).1) (th_s (lx_S h g).1))) (fun _ => th_s h)

theorem th_askGroups {c : Nat} {s : am_M} {a1 a2 a3 : Int32} (h : pu_R c s) : Thr c (f_CB_askGroups s a1 a2 a3) := by
  unfold f_CB_askGroups
  refine th_if (fun g => ?_) (fun _ => th_s h)
  obtain ⟨h1, g1⟩ := lx_S (x2 := a2) h g
  refine th_if (fun k => ?_) (fun _ => th_s h1)
  obtain ⟨h2, g2⟩ := lx_S (x2 := a3) h1 (g1 k)
  refine th_if (fun k => ?_) (fun _ => th_s h2)
  exact th_i (th_i th_0 (th_s h2)) (th_s h2)
theorem th_askCross {c : Nat} {s : am_M} {a1 a2 a3 a4 : Int32} (h : pu_R c s) : Thr c (f_CB_askCross s a1 a2 a3 a4) := by
  unfold f_CB_askCross
  refine th_if (fun g => ?_) (fun _ => th_s h)
  obtain ⟨h1, g1⟩ := lx_S (x2 := a2) h g
  refine th_if (fun k => ?_) (fun _ => th_s h1)
  obtain ⟨h2, g2⟩ := lx_S (x2 := a3) h1 (g1 k)
  refine th_if (fun k => ?_) (fun _ => th_s h2)
  obtain ⟨h3, g3⟩ := lx_S (x2 := a4) h2 (g2 k)
  refine th_if (fun k => ?_) (fun _ => th_s h3)
  exact th_i (th_i th_0 (th_s h3)) (th_s h3)
end
