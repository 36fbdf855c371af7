/-! from the law's entry to its loop; written by wip/whole/con5.py -/
theorem cw_LAW_4 : am_ci m_LAW m_CB_init 154 0 := ⟨⟨ok_CB_init, rfl, by decide +kernel, by decide, by decide⟩, aw_0_23, aw_0_24, rfl, rfl⟩
theorem cw_LAW_12 : am_ci m_LAW m_MO_init 157 0 := ⟨⟨ok_MO_init, rfl, by decide +kernel, by decide, by decide⟩, aw_5_229, aw_5_230, rfl, rfl⟩
/-- all is made: links stand fast from here on -/
def am_g1 (g : am_Gl) : am_Gl := (g.1, g.2.1, g.2.2.1, true, g.2.2.2.2)
theorem am_lk_lt : ∀ i, i < 263 → ∀ k, k < 70 → am_lk i k < 263 := by decide +kernel
theorem am_sz : ∀ i, i < 263 → (am_isr i 0 = true ∨ (am_sh i).1 = 0) → (am_sh i).2.2 < 70 := by decide +kernel
theorem am_kinds : ∀ i, i < 263 → (am_sh i).1 = 0 ∨ (am_sh i).1 = 1 := by decide +kernel
theorem am_I_lk {i k : Nat} (hi : i < 263) (hr : am_isr i k = true) (hk : k < (am_sh i).2.2) : am_I i k = nI (am_lk i k) ∧ am_lk i k < 263 := by
  by_cases h0 : (am_sh i).1 = 0
  · have hf : am_fr (am_sh i).2.1 k = true := by simpa [am_isr, h0] using hr
    exact ⟨by simp [am_I, h0, hf], am_lk_lt i hi k (Nat.lt_trans hk (am_sz i hi (Or.inr h0)))⟩
  · have hf : 2 < (am_sh i).2.1 := by simpa [am_isr, h0] using hr
    have h2 : am_isr i 0 = true := by simp [am_isr, h0, hf]
    exact ⟨by simp [am_I, h0, hf, hk], am_lk_lt i hi k (Nat.lt_trans hk (am_sz i hi (Or.inl h2)))⟩
theorem am_rv_flip {g : am_Gl} {i k : Nat} {σ : am_M} (hg : g.2.2.2.1 = false) (hi : i < 263) (hσ : σ i = am_I i) (hr : am_isr i k = true) : am_rv (am_g1 g) i k (σ i k) = am_rv g i k (σ i k) := by
  unfold am_rv
  rw [hg, show (am_g1 g).2.2.2.1 = true from rfl]
  by_cases hk : k < (am_sh i).2.2
  · by_cases h9 : (i == 182) = true
    · simp [h9]
    · have h9 : (i == 182) = false := by simpa using h9
      obtain ⟨e1, e2⟩ := am_I_lk hi hr hk
      have hb : am_lk i k < 2 ^ 31 := Nat.lt_trans e2 (by decide)
      rw [hσ, e1]
      simp [h9, hk, nI_pos hb, nI_clamp hb]
  · simp [hk]
theorem am_e_flip {g : am_Gl} {ad : Nat → Nat} {i : Nat} {σ : am_M} (hg : g.2.2.2.1 = false) (hi : i < 263) (hσ : σ i = am_I i) : am_e (am_g1 g) ad σ i = am_e g ad σ i := by
  unfold am_e
  by_cases h0 : (am_sh i).1 = 0
  · rw [if_pos h0, if_pos h0]
    congr 2
    apply List.map_congr_left
    intro k _
    unfold am_fv
    by_cases hf : am_fr (am_sh i).2.1 k = true
    · rw [if_pos hf, if_pos hf, am_rv_flip hg hi hσ (by simp [am_isr, h0, hf])]
    · rw [if_neg hf, if_neg hf]
  · rw [if_neg h0, if_neg h0]
    by_cases h1 : (am_sh i).2.1 < 2
    · simp [h1]; rfl
    · by_cases h2 : (am_sh i).2.1 = 2
      · simp [h2]; rfl
      · have h3 : ∀ j, am_rv (am_g1 g) i j (σ i j) = am_rv g i j (σ i j) := fun j => am_rv_flip hg hi hσ (by simp [am_isr, h0]; omega)
        simp only [h1, h2, if_false, h3]
        rfl
theorem am_flip {l : Launch} {g : am_Gl} {ad0 : Nat → Nat} {P1 P : am_P} {k z : Nat} {σ : am_M} {pc : Nat} {lv : List (Nat × Value)} {st : List Value} (hg : g.2.2.2.1 = false) (hσ : ∀ a, a < 263 → σ a = am_I a) (hP : ∀ (v : Option Value) (n : Nat) (σ' : am_M), P1 (.inl v) n σ' → (v = none ∨ ∃ x, v = some (.int x)) ∧ P (.inl v) 0 σ') (kk : AW l (am_g1 g) m_LAW 0 ad0 P1 k z 263 σ pc lv st) : AW l g m_LAW 0 ad0 P k z 263 σ pc lv st := by
  intro p e s m args below meth c C ad H locs ls hn hx hH hS hl hw
  have he : am_ws (am_g1 g) 263 ad σ = am_ws g 263 ad σ := by
    unfold am_ws
    apply List.map_congr_left
    intro i hi
    have hi := List.mem_range.mp hi
    exact congrArg (fun e => (ad i, e)) (am_e_flip hg hi (hσ i hi))
  have hH2 : am_H (am_g1 g) 263 ad σ H := ⟨by rw [he]; exact hH.1, by rw [he]; exact hH.2.1, fun h => by cases h⟩
  have K := kk p e s m args below meth c C ad H locs ls hn hx hH2 hS hl hw
  intro T hT X
  obtain ⟨t, a1, b1⟩ := K T hT X
  refine ⟨t, a1, ?_⟩
  have hq : ¬ am_yt m_LAW = true := by decide
  unfold am_Q at b1 ⊢
  rw [if_neg hq] at b1 ⊢
  obtain ⟨o, r1, r2, ⟨⟨v, n', ad', σ', q1, q2, q3, q4, q5, q6⟩, q7⟩, r4⟩ := b1
  refine ⟨o, r1, r2, ⟨⟨v, 0, ad', σ', q1, fun y hy => ?_, (hP v n' σ' q3).2, Nat.le_refl 0, fun i hi => absurd hi (Nat.not_lt_zero i), ⟨fun k q h => ?_, ⟨fun i j p q h => ?_, fun k q h => ?_⟩, fun _ i j hi => absurd hi (Nat.not_lt_zero i)⟩⟩, q7⟩, r4⟩
  · rcases (hP v n' σ' q3).1 with h | ⟨x, h⟩
    · rw [h] at hy; cases hy
    · rw [h] at hy; cases hy; exact am_rl_int
  · simp [am_ws] at h
  · simp [am_ws] at h
  · simp [am_ws] at h
def am_P1 : am_P := fun o _ _ => o = .inl (some (.int 1))
/-- THE LAW'S OWN PART: what is left when the machine is gone -/
theorem law_pure {L : Nat} {xs : Nat → Int32} (hL : L ≤ 3584) {s : am_M} (hs : ∀ a, a < 263 → s a = am_I a) : p_LAW L xs 520 s 0 ∧ (f_LAW L xs 520 s 0).1 = 1 := by
  have h := pu_law (R := pu_R) (fun i s h => h.mono (by omega)) (fun i hi => op_addTable_ok (by omega)) (fun i hi => op_addNumber_ok (by omega)) (fun i hi => op_addLink_ok (by omega)) (fun i hi => op_addReckoned_ok (by omega)) (fun i hi => op_reckonAnew_ok (by omega)) (fun i hi => op_need_ok (by omega)) (fun i hi => op_single_ok (by omega)) (fun i hi => op_wouldLose_ok (by omega)) (fun i hi => op_narrow_ok (by omega)) (fun i hi => op_wouldLoseAll_ok (by omega)) (fun i hi => op_drop_ok (by omega)) (fun i hi => op_setRemoval_ok (by omega)) (fun i hi => op_addRule_ok (by omega)) (fun i hi => op_dropRule_ok (by omega)) (fun i hi => op_order_ok (by omega)) (fun i hi => op_reason_ok (by omega)) (fun i hi => op_whereTable_ok (by omega)) (fun i hi => op_whereRow_ok (by omega)) (fun i hi => op_whereColumn_ok (by omega)) (fun i hi => op_broken_ok (by omega)) (fun i hi => op_type_ok (by omega)) (fun i hi => op_clearDraft_ok (by omega)) (fun i hi => op_enter_ok (by omega) (by omega)) (fun i hi => op_put_ok (by omega)) (fun i hi => op_remove_ok (by omega)) (fun i hi => op_openForm_ok (by omega)) (fun i hi => op_enterInside_ok (by omega) (by omega)) (fun i hi => op_choice_ok (by omega)) (fun i hi => op_cell_ok (by omega)) (fun i hi => op_isThere_ok (by omega)) (fun i hi => op_rows_ok (by omega)) (fun i hi => op_ask_ok (by omega)) (fun i hi => op_condition_ok (by omega)) (fun i hi => op_askGroups_ok (by omega)) (fun i hi => op_askCross_ok (by omega)) (fun i hi => op_answers_ok (by omega)) (fun i hi => op_columns_ok (by omega)) (fun i hi => op_answer_ok (by omega)) (fun i hi => op_keyOf_ok (by omega)) (fun i hi => op_target_ok (by omega)) (fun i hi => op_write_ok (by omega)) (fun i hi => op_addAct_ok (by omega)) (fun i hi => op_stepPut_ok (by omega)) (fun i hi => op_stepAdd_ok (by omega)) (fun i hi => op_stepRemove_ok (by omega)) (fun i hi => op_stepIf_ok (by omega)) (fun i hi => op_run_ok (by omega) (by omega)) (fun i hi => op_undoable_ok (by omega)) (fun i hi => op_undo_ok (by omega)) (L := L) (xs := xs) hL 520 0 s (pu_R_0 hs) (by omega) (by omega)
  rw [nI_0] at h
  exact h
set_option maxHeartbeats 4000000 in
set_option maxRecDepth 100000 in
theorem law_start {l : Launch} {g : am_Gl} (hg : g.2.2.2.1 = false) (hL : g.2.2.2.2.2.1 ≤ 3584) {ad0 : Nat → Nat} {σ0 : am_M} : AW l g m_LAW 0 ad0 am_P1 0 0 0 σ0 0 [(0, .retAddr g.2.2.2.2.1)] [] := by
  have hC0 : Co σ0 σ0 0 0 [] := ⟨fun a h => absurd h (Nat.not_lt_zero a), fun a _ h => absurd h (Nat.not_lt_zero a), fun q hq => by cases hq⟩
  refine cw_new (ci := 9) (N := 11) 1 1 11 d_LAW_0 nw_LA_8 hg sh_0 hC0 (by omega) (fun q hq => by cases hq) rfl rfl rfl (by have := rm_c; show _ ≤ room_1.cells; omega) (by have := rm_s; show _ ≤ room_1.slots; omega) (fun σ hC => ?_)
  refine am_dup d_LAW_3 rfl ?_
  refine cw_init (n1 := 0) (kk9 := 207) 207 207 11935 d_LAW_4 cw_LAW_4 rfl (ct_CB_init hg (hC.2.2 (0, am_z 9) List.mem_cons_self)) (by omega) (Nat.le_of_ble_eq_true rfl) hC (by omega) (fun q hq => by cases hq) (by omega) (by show _ + 206 = _; omega) (by show _ + 11924 = _; omega) (by have := rm_c; show _ ≤ room_1.cells; omega) (by have := rm_s; show _ ≤ room_1.slots; omega) (fun σ hC => ?_)
  refine am_astore_n (lv2 := [(1, .ref 0), (0, .retAddr g.2.2.2.2.1)]) d_LAW_7 rfl (by decide) rfl ?_
  refine cw_new (ci := 10) (N := 68) 208 208 12003 d_LAW_8 nw_LA_155 hg sh_207 hC (by omega) (fun q hq => by cases hq) rfl rfl rfl (by have := rm_c; show _ ≤ room_1.cells; omega) (by have := rm_s; show _ ≤ room_1.slots; omega) (fun σ hC => ?_)
  refine am_dup d_LAW_11 rfl ?_
  refine cw_init (n1 := 207) (kk9 := 55) 262 262 59597 d_LAW_12 cw_LAW_12 rfl (ct_MO_init hg (hC.2.2 (207, am_z 10) List.mem_cons_self)) (by omega) (Nat.le_of_ble_eq_true rfl) hC (by omega) (fun q hq => by cases hq) (by omega) (by show _ + 54 = _; omega) (by show _ + 47594 = _; omega) (by have := rm_c; show _ ≤ room_1.cells; omega) (by have := rm_s; show _ ≤ room_1.slots; omega) (fun σ hC => ?_)
  refine am_astore_n (lv2 := [(2, .ref 207), (1, .ref 0), (0, .retAddr g.2.2.2.2.1)]) d_LAW_15 rfl (by decide) rfl ?_
  refine am_iconst (v := (1 : Int32)) d_LAW_16 (by decide) ?_
  refine cw_newa (t := 2) (N := 1) 263 263 59598 d_LAW_17 rfl (by decide) am_acJ hg sh_262 (by decide) (by decide) (by decide) hC (by omega) (fun q hq => by cases hq) (am_I_0 sh_262 (by decide) (by decide +kernel)) (by omega) rfl rfl (by have := rm_c; show _ ≤ room_1.cells; omega) (by have := rm_s; show _ ≤ room_1.slots; omega) (fun σ hC => ?_)
  refine am_astore_n (lv2 := [(3, .ref 262), (2, .ref 207), (1, .ref 0), (0, .retAddr g.2.2.2.2.1)]) d_LAW_19 rfl (by decide) rfl ?_
  refine am_iconst (v := (0 : Int32)) d_LAW_20 (by decide) ?_
  refine am_istore (lv2 := [(4, .int (0 : Int32)), (3, .ref 262), (2, .ref 207), (1, .ref 0), (0, .retAddr g.2.2.2.2.1)]) d_LAW_21 (by decide) rfl ?_
  refine am_sub [4, 3, 2, 1, 0] (lv2 := [(0, .retAddr g.2.2.2.2.1), (1, .ref 0), (2, .ref 207), (3, .ref 262), (4, .int (0 : Int32))]) rfl ?_
  have hσ : ∀ a, a < 263 → σ a = am_I a := fun a ha => hC.2.1 a (Nat.zero_le a) ha (fun q hq => by cases hq)
  obtain ⟨h1, h2⟩ := law_pure (L := g.2.2.2.2.2.1) (xs := g.2.2.2.2.2.2) hL hσ
  refine am_flip (P1 := am_oC (f_LAW g.2.2.2.2.2.1 g.2.2.2.2.2.2 520 σ 0)) hg hσ (fun v n σ' h => ?_) (w_LAW (g := am_g1 g) rfl 520 263 _ σ 0 (by have := rm_c; omega) (by have := rm_s; omega) h1)
  obtain ⟨e1, -, -⟩ := h
  have e1 : v = some (.int (f_LAW g.2.2.2.2.2.1 g.2.2.2.2.2.2 520 σ 0).1) := Sum.inl.inj e1
  rw [h2] at e1
  exact ⟨Or.inr ⟨1, e1⟩, by rw [e1]; rfl⟩

