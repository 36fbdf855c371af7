noncomputable section
/-- a call that does not throw does not answer what the law says of exceptions -/
def n9 (q : Nat × Int32 × am_M) : Prop := q.1 = 0 → q.2.1 ≠ -9999999
theorem n9_nI {n : Nat} (h : n < 9999999) : nI n ≠ -9999999 := fun q => by
  have e := congrArg Int32.toInt q
  rw [nI_toInt (by omega)] at e
  have e1 : (-9999999 : Int32).toInt = -9999999 := by decide
  omega
theorem n9_rem {s : am_M} {a : Int32} (h : f_MO_in s a (0 : Int32) (2 : Int32) = 1) : a ≠ -9999999 := fun q => by
  rw [q] at h
  unfold f_MO_in at h
  exact absurd h (by decide)
theorem pu_cmp (x : Int64) : lg_cmp x x = 0 := by simp [lg_cmp]
/-- what each operation owes: the model's 'thrown' is the class's code, the answers are one, the relation holds behind it -/
def pu_I (R : am_M → Prop) (k : Int32) (r : Int32 × am_M) : Prop := f_MO_thrown r.2 = k ∧ (k = 0 → r.2 262 ((0 : Int32)).toNatClampNeg = r.1) ∧ R r.2
def pu_B (R : am_M → Prop) (k : Int32) (r : Int32 × am_M) : Prop := f_MO_thrown r.2 = k ∧ (k = 0 → r.2 262 ((0 : Int32)).toNatClampNeg = if r.1 = 0 then 0 else 1) ∧ R r.2
def pu_V (R : am_M → Prop) (k : Int32) (r : am_M) : Prop := f_MO_thrown r = k ∧ R r
theorem pu_fI {R : am_M → Prop} {K : am_M → Int32 × am_M} {k : Int32} {r : Int32 × am_M} (h : pu_I R k r) : (if (f_MO_thrown r.2) = k then (if k = 0 then (if (lg_cmp (r.2 262 ((0 : Int32)).toNatClampNeg).toInt64 r.1.toInt64) = 0 then (K r.2) else ((0 : Int32), r.2)) else (K r.2)) else ((0 : Int32), r.2)) = K r.2 := by
  obtain ⟨h1, h2, -⟩ := h
  rw [if_pos h1]
  by_cases hk : k = 0
  · rw [if_pos hk, h2 hk, if_pos (pu_cmp _)]
  · rw [if_neg hk]
theorem pu_pI {R : am_M → Prop} {KP : am_M → Prop} {k : Int32} {r : Int32 × am_M} (_h : pu_I R k r) (h : KP r.2) : (((f_MO_thrown r.2) = k) → ((k = 0) → vp_in (0 : Int32) 1 ∧ ((((lg_cmp (r.2 262 ((0 : Int32)).toNatClampNeg).toInt64 r.1.toInt64) = 0) → (KP r.2)) ∧ (¬ ((lg_cmp (r.2 262 ((0 : Int32)).toNatClampNeg).toInt64 r.1.toInt64) = 0) → True))) ∧ (¬ (k = 0) → (KP r.2))) ∧ (¬ ((f_MO_thrown r.2) = k) → True) :=
  ⟨fun _ => ⟨fun _ => ⟨vp_in_nI (n := 0) (by decide) (by decide), fun _ => h, fun _ => trivial⟩, fun _ => h⟩, fun _ => trivial⟩
theorem pu_fB {R : am_M → Prop} {K : am_M → Int32 × am_M} {k : Int32} {r : Int32 × am_M} (h : pu_B R k r) : (if (f_MO_thrown r.2) = k then (if k = 0 then (if r.1 = 0 then (if (lg_cmp (r.2 262 ((0 : Int32)).toNatClampNeg).toInt64 (0 : Int32).toInt64) = 0 then (K r.2) else ((0 : Int32), r.2)) else (if (lg_cmp (r.2 262 ((0 : Int32)).toNatClampNeg).toInt64 (1 : Int32).toInt64) = 0 then (K r.2) else ((0 : Int32), r.2))) else (K r.2)) else ((0 : Int32), r.2)) = K r.2 := by
  obtain ⟨h1, h2, -⟩ := h
  rw [if_pos h1]
  by_cases hk : k = 0
  · rw [if_pos hk, h2 hk]
    by_cases h0 : r.1 = 0
    · rw [if_pos h0, if_pos h0, if_pos (pu_cmp _)]
    · rw [if_neg h0, if_neg h0, if_pos (pu_cmp _)]
  · rw [if_neg hk]
theorem pu_pB {R : am_M → Prop} {KP : am_M → Prop} {k : Int32} {r : Int32 × am_M} (_h : pu_B R k r) (h : KP r.2) : (((f_MO_thrown r.2) = k) → ((k = 0) → vp_in (0 : Int32) 1 ∧ (((r.1 = 0) → (((lg_cmp (r.2 262 ((0 : Int32)).toNatClampNeg).toInt64 (0 : Int32).toInt64) = 0) → (KP r.2)) ∧ (¬ ((lg_cmp (r.2 262 ((0 : Int32)).toNatClampNeg).toInt64 (0 : Int32).toInt64) = 0) → True)) ∧ (¬ (r.1 = 0) → (((lg_cmp (r.2 262 ((0 : Int32)).toNatClampNeg).toInt64 (1 : Int32).toInt64) = 0) → (KP r.2)) ∧ (¬ ((lg_cmp (r.2 262 ((0 : Int32)).toNatClampNeg).toInt64 (1 : Int32).toInt64) = 0) → True)))) ∧ (¬ (k = 0) → (KP r.2))) ∧ (¬ ((f_MO_thrown r.2) = k) → True) :=
  ⟨fun _ => ⟨fun _ => ⟨vp_in_nI (n := 0) (by decide) (by decide), fun _ => ⟨fun _ => h, fun _ => trivial⟩, fun _ => ⟨fun _ => h, fun _ => trivial⟩⟩, fun _ => h⟩, fun _ => trivial⟩
theorem pu_fV {R : am_M → Prop} {K : am_M → Int32 × am_M} {k : Int32} {r : am_M} (h : pu_V R k r) : (if (f_MO_thrown r) = k then (K r) else ((0 : Int32), r)) = K r := by rw [if_pos h.1]
theorem pu_pV {R : am_M → Prop} {KP : am_M → Prop} {k : Int32} {r : am_M} (_h : pu_V R k r) (h : KP r) : (((f_MO_thrown r) = k) → (KP r)) ∧ (¬ ((f_MO_thrown r) = k) → True) := ⟨fun _ => h, fun _ => trivial⟩
theorem pu_sw {e p1 p2 : Prop} [Decidable e] {f1 f2 : Int32 × am_M} (h1 : e → p1 ∧ f1.1 = 1) (h2 : ¬ e → p2 ∧ f2.1 = 1) : ((e → p1) ∧ (¬ e → p2)) ∧ (if e then f1 else f2).1 = 1 := by
  by_cases h : e
  · rw [if_pos h]; exact ⟨⟨fun _ => (h1 h).1, fun q => absurd h q⟩, (h1 h).2⟩
  · rw [if_neg h]; exact ⟨⟨fun q => absurd q h, fun _ => (h2 h).1⟩, (h2 h).2⟩
theorem pu_cs {R : am_M → Prop} {K : am_M → Int32 × am_M} {KP : am_M → Prop} {f : Int32 × am_M} {p : Prop} (H : ∃ t, R t ∧ f = K t ∧ (KP t → p)) (ih : ∀ t, R t → KP t ∧ (K t).1 = 1) : p ∧ f.1 = 1 := by
  obtain ⟨t, h1, h2, h3⟩ := H
  exact ⟨h3 (ih t h1).1, by rw [h2]; exact (ih t h1).2⟩
theorem pu_L {L : Nat} (hL : L ≤ 3584) : ((Int32.ofNat L) - (7 : Int32)).toInt = (L : Int) - 7 := by
  have h1 : (Int32.ofNat L).toInt = (L : Int) := nI_toInt (n := L) (by omega)
  have h2 : (7 : Int32).toInt = 7 := by decide
  rw [Int32.toInt_sub, h1, h2]
  exact Int.bmod_eq_of_le (by omega) (by omega)
theorem pu_Lt {L i : Nat} (hL : L ≤ 3584) (hi : i ≤ L) : ((Int32.ofNat L) - (7 : Int32)) < nI i ↔ L < i + 7 := by
  rw [Int32.lt_iff_toInt_lt, pu_L hL, nI_toInt (by omega)]
  omega
theorem pu_v {L i d : Nat} (hL : L ≤ 3584) (h : ¬ L < i + 7) (hd : d < 7) : vp_in (nI i + nI d) L := by
  rw [nI_add]; exact vp_in_nI (by omega) (by omega)
def op_addTable (R R1 : am_M → Prop) : Prop := ∀ (s : am_M), R s → p_LA_addTable s ∧ pu_I R1 (f_LA_addTable s).1 (f_MO_addTable (f_LA_addTable s).2) ∧ n9 (f_CB_addTable s)
def op_addNumber (R R1 : am_M → Prop) : Prop := ∀ (s : am_M) (a1 a2 a3 : Int32), R s → p_LA_addNumber s a1 a2 a3 ∧ p_MO_addNumber (f_LA_addNumber s a1 a2 a3).2 a1 a2 a3 ∧ pu_I R1 (f_LA_addNumber s a1 a2 a3).1 (f_MO_addNumber (f_LA_addNumber s a1 a2 a3).2 a1 a2 a3) ∧ n9 (f_CB_addNumber s a1 a2 a3)
def op_addLink (R R1 : am_M → Prop) : Prop := ∀ (s : am_M) (a1 a2 a3 : Int32), R s → p_LA_addLink s a1 a2 a3 ∧ p_MO_addLink (f_LA_addLink s a1 a2 a3).2 a1 a2 a3 ∧ pu_I R1 (f_LA_addLink s a1 a2 a3).1 (f_MO_addLink (f_LA_addLink s a1 a2 a3).2 a1 a2 a3) ∧ n9 (f_CB_addLink s a1 a2 a3)
def op_addReckoned (R R1 : am_M → Prop) : Prop := ∀ (s : am_M) (a1 a2 a3 a4 a5 : Int32), R s → p_LA_addReckoned s a1 a2 a3 a4 a5 ∧ p_MO_addReckoned (f_LA_addReckoned s a1 a2 a3 a4 a5).2 a1 a2 a3 a4 a5 ∧ pu_I R1 (f_LA_addReckoned s a1 a2 a3 a4 a5).1 (f_MO_addReckoned (f_LA_addReckoned s a1 a2 a3 a4 a5).2 a1 a2 a3 a4 a5) ∧ n9 (f_CB_addReckoned s a1 a2 a3 a4 a5)
def op_reckonAnew (R R1 : am_M → Prop) : Prop := ∀ (s : am_M) (a1 a2 a3 a4 a5 a6 : Int32), R s → p_LA_reckonAnew s a1 a2 a3 a4 a5 a6 ∧ p_MO_reckonAnew (f_LA_reckonAnew s a1 a2 a3 a4 a5 a6).2 a1 a2 a3 a4 a5 a6 ∧ pu_B R1 (f_LA_reckonAnew s a1 a2 a3 a4 a5 a6).1 (f_MO_reckonAnew (f_LA_reckonAnew s a1 a2 a3 a4 a5 a6).2 a1 a2 a3 a4 a5 a6)
def op_need (R R1 : am_M → Prop) : Prop := ∀ (s : am_M) (a1 a2 a3 : Int32), R s → (a3 = 0 ∨ a3 = 1) → p_LA_need s a1 a2 a3 ∧ p_MO_need (f_LA_need s a1 a2 a3).2 a1 a2 a3 ∧ pu_B R1 (f_LA_need s a1 a2 a3).1 (f_MO_need (f_LA_need s a1 a2 a3).2 a1 a2 a3)
def op_single (R R1 : am_M → Prop) : Prop := ∀ (s : am_M) (a1 a2 a3 : Int32), R s → (a3 = 0 ∨ a3 = 1) → p_LA_single s a1 a2 a3 ∧ p_MO_single (f_LA_single s a1 a2 a3).2 a1 a2 a3 ∧ pu_B R1 (f_LA_single s a1 a2 a3).1 (f_MO_single (f_LA_single s a1 a2 a3).2 a1 a2 a3)
def op_wouldLose (R R1 : am_M → Prop) : Prop := ∀ (s : am_M) (a1 a2 a3 a4 : Int32), R s → p_LA_wouldLose s a1 a2 a3 a4 ∧ p_MO_wouldLose (f_LA_wouldLose s a1 a2 a3 a4).2 a1 a2 a3 a4 ∧ pu_I R1 (f_LA_wouldLose s a1 a2 a3 a4).1 (f_MO_wouldLose (f_LA_wouldLose s a1 a2 a3 a4).2 a1 a2 a3 a4)
def op_narrow (R R1 : am_M → Prop) : Prop := ∀ (s : am_M) (a1 a2 a3 a4 : Int32), R s → p_LA_narrow s a1 a2 a3 a4 ∧ p_MO_narrow (f_LA_narrow s a1 a2 a3 a4).2 a1 a2 a3 a4 ∧ pu_B R1 (f_LA_narrow s a1 a2 a3 a4).1 (f_MO_narrow (f_LA_narrow s a1 a2 a3 a4).2 a1 a2 a3 a4)
def op_wouldLoseAll (R R1 : am_M → Prop) : Prop := ∀ (s : am_M) (a1 a2 : Int32), R s → p_LA_wouldLoseAll s a1 a2 ∧ p_MO_wouldLoseAll (f_LA_wouldLoseAll s a1 a2).2 a1 a2 ∧ pu_I R1 (f_LA_wouldLoseAll s a1 a2).1 (f_MO_wouldLoseAll (f_LA_wouldLoseAll s a1 a2).2 a1 a2)
def op_drop (R R1 : am_M → Prop) : Prop := ∀ (s : am_M) (a1 a2 : Int32), R s → p_LA_drop s a1 a2 ∧ p_MO_drop (f_LA_drop s a1 a2).2 a1 a2 ∧ pu_B R1 (f_LA_drop s a1 a2).1 (f_MO_drop (f_LA_drop s a1 a2).2 a1 a2)
def op_setRemoval (R R1 : am_M → Prop) : Prop := ∀ (s : am_M) (a1 a2 a3 : Int32), R s → p_LA_setRemoval s a1 a2 a3 ∧ p_MO_setRemoval (f_LA_setRemoval s a1 a2 a3).2 a1 a2 a3 ∧ pu_I R1 (f_LA_setRemoval s a1 a2 a3).1 (f_MO_setRemoval (f_LA_setRemoval s a1 a2 a3).2 a1 a2 a3) ∧ n9 (f_CB_setRemoval s a1 a2 a3)
def op_addRule (R R1 : am_M → Prop) : Prop := ∀ (s : am_M) (a1 a2 a3 a4 a5 : Int32), R s → p_LA_addRule s a1 a2 a3 a4 a5 ∧ p_MO_addRule (f_LA_addRule s a1 a2 a3 a4 a5).2 a1 a2 a3 a4 a5 ∧ pu_I R1 (f_LA_addRule s a1 a2 a3 a4 a5).1 (f_MO_addRule (f_LA_addRule s a1 a2 a3 a4 a5).2 a1 a2 a3 a4 a5) ∧ n9 (f_CB_addRule s a1 a2 a3 a4 a5)
def op_order (R R1 : am_M → Prop) : Prop := ∀ (s : am_M) (a1 : Int32), R s → p_LA_order s a1 ∧ p_MO_order (f_LA_order s a1).2 a1 ∧ pu_I R1 (f_LA_order s a1).1 (f_MO_order (f_LA_order s a1).2 a1)
def op_reason (R R1 : am_M → Prop) : Prop := ∀ s : am_M, R s → (f_CB_reason s) = (f_MO_reason s).1 ∧ R1 (f_MO_reason s).2
def op_whereTable (R R1 : am_M → Prop) : Prop := ∀ s : am_M, R s → (f_CB_whereTable s) = (f_MO_whereTable s).1 ∧ R1 (f_MO_whereTable s).2
def op_whereRow (R R1 : am_M → Prop) : Prop := ∀ s : am_M, R s → (f_CB_whereRow s) = (f_MO_whereRow s).1 ∧ R1 (f_MO_whereRow s).2
def op_whereColumn (R R1 : am_M → Prop) : Prop := ∀ s : am_M, R s → (f_CB_whereColumn s) = (f_MO_whereColumn s).1 ∧ R1 (f_MO_whereColumn s).2
def op_broken (R R1 : am_M → Prop) : Prop := ∀ s : am_M, R s → p_CB_broken s ∧ p_MO_broken (f_CB_broken s).2 ∧ (f_CB_broken s).1 = (f_MO_broken (f_CB_broken s).2).1 ∧ R1 (f_MO_broken (f_CB_broken s).2).2
def op_type (R R1 : am_M → Prop) : Prop := ∀ (s : am_M) (a1 a2 : Int32), R s → p_LA_type s a1 a2 ∧ p_MO_type (f_LA_type s a1 a2).2 a1 a2 ∧ pu_I R1 (f_LA_type s a1 a2).1 (f_MO_type (f_LA_type s a1 a2).2 a1 a2)
def op_enter (R R1 : am_M → Prop) : Prop := ∀ (s : am_M) (a1 : Int32), R s → p_LA_enter s a1 ∧ p_MO_enter (f_LA_enter s a1).2 a1 ∧ pu_I R1 (f_LA_enter s a1).1 (f_MO_enter (f_LA_enter s a1).2 a1) ∧ n9 (f_CB_enter s a1)
def op_put (R R1 : am_M → Prop) : Prop := ∀ (s : am_M) (a1 a2 a3 a4 : Int32), R s → p_LA_put s a1 a2 a3 a4 ∧ p_MO_put (f_LA_put s a1 a2 a3 a4).2 a1 a2 a3 a4 ∧ pu_B R1 (f_LA_put s a1 a2 a3 a4).1 (f_MO_put (f_LA_put s a1 a2 a3 a4).2 a1 a2 a3 a4)
def op_remove (R R1 : am_M → Prop) : Prop := ∀ (s : am_M) (a1 a2 : Int32), R s → p_LA_remove s a1 a2 ∧ p_MO_remove (f_LA_remove s a1 a2).2 a1 a2 ∧ pu_B R1 (f_LA_remove s a1 a2).1 (f_MO_remove (f_LA_remove s a1 a2).2 a1 a2)
def op_openForm (R R1 : am_M → Prop) : Prop := ∀ (s : am_M) (a1 a2 : Int32), R s → p_LA_openForm s a1 a2 ∧ p_MO_openForm (f_LA_openForm s a1 a2).2 a1 a2 ∧ pu_V R1 (f_LA_openForm s a1 a2).1 (f_MO_openForm (f_LA_openForm s a1 a2).2 a1 a2)
def op_enterInside (R R1 : am_M → Prop) : Prop := ∀ (s : am_M) (a1 a2 : Int32), R s → p_LA_enterInside s a1 a2 ∧ p_MO_enterInside (f_LA_enterInside s a1 a2).2 a1 a2 ∧ pu_I R1 (f_LA_enterInside s a1 a2).1 (f_MO_enterInside (f_LA_enterInside s a1 a2).2 a1 a2) ∧ n9 (f_CB_enterInside s a1 a2)
def op_choice (R R1 : am_M → Prop) : Prop := ∀ (s : am_M) (a1 a2 a3 a4 : Int32), R s → p_LA_choice s a1 a2 a3 a4 ∧ p_MO_choice (f_LA_choice s a1 a2 a3 a4).2 a1 a2 a3 a4 ∧ pu_I R1 (f_LA_choice s a1 a2 a3 a4).1 (f_MO_choice (f_LA_choice s a1 a2 a3 a4).2 a1 a2 a3 a4)
def op_cell (R R1 : am_M → Prop) : Prop := ∀ (s : am_M) (a1 a2 a3 : Int32), R s → p_LA_cell s a1 a2 a3 ∧ p_MO_cell (f_LA_cell s a1 a2 a3).2 a1 a2 a3 ∧ pu_I R1 (f_LA_cell s a1 a2 a3).1 (f_MO_cell (f_LA_cell s a1 a2 a3).2 a1 a2 a3)
def op_isThere (R R1 : am_M → Prop) : Prop := ∀ (s : am_M) (a1 a2 : Int32), R s → p_LA_isThere s a1 a2 ∧ p_MO_isThere (f_LA_isThere s a1 a2).2 a1 a2 ∧ pu_B R1 (f_LA_isThere s a1 a2).1 (f_MO_isThere (f_LA_isThere s a1 a2).2 a1 a2)
def op_rows (R R1 : am_M → Prop) : Prop := ∀ (s : am_M) (a1 : Int32), R s → p_LA_rows s a1 ∧ p_MO_rows (f_LA_rows s a1).2 a1 ∧ pu_I R1 (f_LA_rows s a1).1 (f_MO_rows (f_LA_rows s a1).2 a1)
def op_ask (R R1 : am_M → Prop) : Prop := ∀ (s : am_M) (a1 a2 : Int32), R s → p_LA_ask s a1 a2 ∧ p_MO_ask (f_LA_ask s a1 a2).2 a1 a2 ∧ pu_I R1 (f_LA_ask s a1 a2).1 (f_MO_ask (f_LA_ask s a1 a2).2 a1 a2) ∧ n9 (f_CB_ask s a1 a2)
def op_condition (R R1 : am_M → Prop) : Prop := ∀ (s : am_M) (a1 a2 a3 a4 a5 : Int32), R s → p_LA_condition s a1 a2 a3 a4 a5 ∧ p_MO_condition (f_LA_condition s a1 a2 a3 a4 a5).2 a1 a2 a3 a4 a5 ∧ pu_I R1 (f_LA_condition s a1 a2 a3 a4 a5).1 (f_MO_condition (f_LA_condition s a1 a2 a3 a4 a5).2 a1 a2 a3 a4 a5) ∧ n9 (f_CB_condition s a1 a2 a3 a4 a5)
def op_askGroups (R R1 : am_M → Prop) : Prop := ∀ (s : am_M) (a1 a2 a3 : Int32), R s → p_LA_askGroups s a1 a2 a3 ∧ p_MO_askGroups (f_LA_askGroups s a1 a2 a3).2 a1 a2 a3 ∧ pu_I R1 (f_LA_askGroups s a1 a2 a3).1 (f_MO_askGroups (f_LA_askGroups s a1 a2 a3).2 a1 a2 a3) ∧ n9 (f_CB_askGroups s a1 a2 a3)
def op_askCross (R R1 : am_M → Prop) : Prop := ∀ (s : am_M) (a1 a2 a3 a4 : Int32), R s → p_LA_askCross s a1 a2 a3 a4 ∧ p_MO_askCross (f_LA_askCross s a1 a2 a3 a4).2 a1 a2 a3 a4 ∧ pu_I R1 (f_LA_askCross s a1 a2 a3 a4).1 (f_MO_askCross (f_LA_askCross s a1 a2 a3 a4).2 a1 a2 a3 a4) ∧ n9 (f_CB_askCross s a1 a2 a3 a4)
def op_answers (R R1 : am_M → Prop) : Prop := ∀ (s : am_M) (a1 : Int32), R s → p_LA_answers s a1 ∧ p_MO_answers (f_LA_answers s a1).2 a1 ∧ pu_I R1 (f_LA_answers s a1).1 (f_MO_answers (f_LA_answers s a1).2 a1)
def op_columns (R R1 : am_M → Prop) : Prop := ∀ (s : am_M) (a1 : Int32), R s → p_LA_columns s a1 ∧ p_MO_columns (f_LA_columns s a1).2 a1 ∧ pu_I R1 (f_LA_columns s a1).1 (f_MO_columns (f_LA_columns s a1).2 a1)
def op_answer (R R1 : am_M → Prop) : Prop := ∀ (s : am_M) (a1 a2 a3 : Int32), R s → p_LA_answer s a1 a2 a3 ∧ p_MO_answer (f_LA_answer s a1 a2 a3).2 a1 a2 a3 ∧ pu_I R1 (f_LA_answer s a1 a2 a3).1 (f_MO_answer (f_LA_answer s a1 a2 a3).2 a1 a2 a3)
def op_keyOf (R R1 : am_M → Prop) : Prop := ∀ (s : am_M) (a1 a2 : Int32), R s → p_LA_keyOf s a1 a2 ∧ p_MO_keyOf (f_LA_keyOf s a1 a2).2 a1 a2 ∧ pu_I R1 (f_LA_keyOf s a1 a2).1 (f_MO_keyOf (f_LA_keyOf s a1 a2).2 a1 a2)
def op_target (R R1 : am_M → Prop) : Prop := ∀ (s : am_M) (a1 a2 a3 : Int32), R s → p_LA_target s a1 a2 a3 ∧ p_MO_target (f_LA_target s a1 a2 a3).2 a1 a2 a3 ∧ pu_I R1 (f_LA_target s a1 a2 a3).1 (f_MO_target (f_LA_target s a1 a2 a3).2 a1 a2 a3)
def op_write (R R1 : am_M → Prop) : Prop := ∀ (s : am_M) (a1 a2 a3 a4 : Int32), R s → p_LA_write s a1 a2 a3 a4 ∧ p_MO_write (f_LA_write s a1 a2 a3 a4).2 a1 a2 a3 a4 ∧ pu_B R1 (f_LA_write s a1 a2 a3 a4).1 (f_MO_write (f_LA_write s a1 a2 a3 a4).2 a1 a2 a3 a4)
def op_addAct (R R1 : am_M → Prop) : Prop := ∀ (s : am_M), R s → p_LA_addAct s ∧ pu_I R1 (f_LA_addAct s).1 (f_MO_addAct (f_LA_addAct s).2)
def op_stepPut (R R1 : am_M → Prop) : Prop := ∀ (s : am_M) (a1 a2 a3 a4 : Int32), R s → p_LA_stepPut s a1 a2 a3 a4 ∧ p_MO_stepPut (f_LA_stepPut s a1 a2 a3 a4).2 a1 a2 a3 a4 ∧ pu_I R1 (f_LA_stepPut s a1 a2 a3 a4).1 (f_MO_stepPut (f_LA_stepPut s a1 a2 a3 a4).2 a1 a2 a3 a4) ∧ n9 (f_CB_stepPut s a1 a2 a3 a4)
def op_stepAdd (R R1 : am_M → Prop) : Prop := ∀ (s : am_M) (a1 a2 : Int32), R s → p_LA_stepAdd s a1 a2 ∧ p_MO_stepAdd (f_LA_stepAdd s a1 a2).2 a1 a2 ∧ pu_I R1 (f_LA_stepAdd s a1 a2).1 (f_MO_stepAdd (f_LA_stepAdd s a1 a2).2 a1 a2) ∧ n9 (f_CB_stepAdd s a1 a2)
def op_stepRemove (R R1 : am_M → Prop) : Prop := ∀ (s : am_M) (a1 a2 a3 : Int32), R s → p_LA_stepRemove s a1 a2 a3 ∧ p_MO_stepRemove (f_LA_stepRemove s a1 a2 a3).2 a1 a2 a3 ∧ pu_I R1 (f_LA_stepRemove s a1 a2 a3).1 (f_MO_stepRemove (f_LA_stepRemove s a1 a2 a3).2 a1 a2 a3) ∧ n9 (f_CB_stepRemove s a1 a2 a3)
def op_stepIf (R R1 : am_M → Prop) : Prop := ∀ (s : am_M) (a1 a2 a3 : Int32), R s → p_LA_stepIf s a1 a2 a3 ∧ p_MO_stepIf (f_LA_stepIf s a1 a2 a3).2 a1 a2 a3 ∧ pu_I R1 (f_LA_stepIf s a1 a2 a3).1 (f_MO_stepIf (f_LA_stepIf s a1 a2 a3).2 a1 a2 a3) ∧ n9 (f_CB_stepIf s a1 a2 a3)
def op_run (R R1 : am_M → Prop) : Prop := ∀ (s : am_M) (a1 : Int32), R s → p_LA_run s a1 ∧ p_MO_run (f_LA_run s a1).2 a1 ∧ pu_B R1 (f_LA_run s a1).1 (f_MO_run (f_LA_run s a1).2 a1)
def op_undoable (R R1 : am_M → Prop) : Prop := ∀ s : am_M, R s → (f_CB_undoable s) = (f_MO_undoable s).1 ∧ R1 (f_MO_undoable s).2
def op_undo (R R1 : am_M → Prop) : Prop := ∀ (s : am_M), R s → p_LA_undo s ∧ p_MO_undo (f_LA_undo s).2 ∧ pu_I R1 (f_LA_undo s).1 (f_MO_undo (f_LA_undo s).2) ∧ n9 (f_CB_undo s)
end
