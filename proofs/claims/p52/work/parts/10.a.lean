noncomputable section
def f_JF_fill_5  : Nat → am_M → Nat → Int32 → Int32 → Int32 → am_M
  | 0, s, x0, x1, x2, x3 => s
  | n + 1, s, x0, x1, x2, x3 => (if x3 ≤ x2 then s else ((f_JF_fill_5  n) (am_set s x0 (x2).toNatClampNeg x1) x0 x1 (x2 + (1 : Int32)) x3))
def p_JF_fill_5  : Nat → am_M → Nat → Int32 → Int32 → Int32 → Prop
  | 0, s, x0, x1, x2, x3 => False
  | n + 1, s, x0, x1, x2, x3 => ((x3 ≤ x2) → True) ∧ (¬ (x3 ≤ x2) → (x0 < 207 ∧ am_sh x0 = (1, 0, (am_sh x0).2.2)) ∧ (vp_in x2 (am_sh x0).2.2 ∧ (((p_JF_fill_5  n) (am_set s x0 (x2).toNatClampNeg x1) x0 x1 (x2 + (1 : Int32)) x3))))
set_option maxRecDepth 8000 in
theorem w_JF_fill_5 {l : Launch} {g : am_Gl} (hg : g.2.2.2.1 = true) {ad0 : Nat → Nat}   : ∀ (n : Nat) (s : am_M) (x0 : Nat) (x1 : Int32) (x2 : Int32) (x3 : Int32), p_JF_fill_5  n s x0 x1 x2 x3 → AW l g m_JF_fill 207 ad0 (am_oM (f_JF_fill_5  n s x0 x1 x2 x3)) 0 0 207 s 5 [(0, .ref x0), (1, .int x1), (2, .int x2), (3, .int x3)] [] := by
  intro n
  induction n with
  | zero => intro s x0 x1 x2 x3 h; exact h.elim
  | succ n hK5 =>
    intro s x0 x1 x2 x3 h
    refine am_iload_n (j := 2) d_JF_fill_5 rfl rfl ?_
    refine am_iload_n (j := 3) d_JF_fill_6 rfl rfl ?_
    refine aj_ge (F := am_oM) (tgt := 20) d_JF_fill_7 (by decide) (fun c => ?_) (fun c => ?_)
    · have h := h.1 c
      exact am_vret d_JF_fill_20 rfl (by decide) (by decide) am_oM_ok
    · have h := h.2 c
      refine am_aload_n (j := 0) d_JF_fill_10 rfl rfl ?_
      refine am_iload_n (j := 2) d_JF_fill_11 rfl rfl ?_
      refine am_iload_n (j := 1) d_JF_fill_12 rfl rfl ?_
      obtain ⟨⟨b1, t1⟩, h⟩ := h
      obtain ⟨hv, h⟩ := h
      refine am_iast d_JF_fill_13 b1 t1 hv ?_
      refine am_iinc (j := 2) (v := (x2 + (1 : Int32))) (lv2 := [(2, .int (x2 + (1 : Int32))), (0, .ref x0), (1, .int x1), (3, .int x3)]) d_JF_fill_14 rfl rfl (by decide) rfl ?_
      refine am_goto (tgt := 5) d_JF_fill_17 (by decide) ?_
      refine am_sub [1, 2, 0, 3] (lv2 := [(0, .ref x0), (1, .int x1), (2, .int (x2 + (1 : Int32))), (3, .int x3)]) rfl ?_
      exact hK5 _ _ _ _ _ h
def f_JF_fill  (s : am_M) (x0 : Nat) (x1 : Int32) : am_M := (f_JF_fill_5 am_F s x0 x1 (0 : Int32) (Int32.ofNat (am_sh x0).2.2))
def p_JF_fill  (s : am_M) (x0 : Nat) (x1 : Int32) : Prop := (x0 < 207 ∧ am_sh x0 = (1, 0, (am_sh x0).2.2)) ∧ ((p_JF_fill_5 am_F s x0 x1 (0 : Int32) (Int32.ofNat (am_sh x0).2.2)))
set_option maxRecDepth 8000 in
theorem w_JF_fill {l : Launch} {g : am_Gl} (hg : g.2.2.2.1 = true) {ad0 : Nat → Nat} {s : am_M} {x0 : Nat} {x1 : Int32} (h : p_JF_fill s x0 x1) : AW l g m_JF_fill 207 ad0 (am_oM (f_JF_fill s x0 x1)) 0 0 207 s 0 [(0, .ref x0), (1, .int x1)] [] := by
  refine am_iconst (v := (0 : Int32)) d_JF_fill_0 (by decide) ?_
  refine am_istore_n (lv2 := [(2, .int (0 : Int32)), (0, .ref x0), (1, .int x1)]) d_JF_fill_1 rfl (by decide) rfl ?_
  refine am_aload_n (j := 1) d_JF_fill_2 rfl rfl ?_
  obtain ⟨⟨b1, t1⟩, h⟩ := h
  refine am_alen (v := (Int32.ofNat (am_sh x0).2.2)) d_JF_fill_3 b1 t1 (by decide) (rfl) ?_
  refine am_istore_n (lv2 := [(3, .int (Int32.ofNat (am_sh x0).2.2)), (2, .int (0 : Int32)), (0, .ref x0), (1, .int x1)]) d_JF_fill_4 rfl (by decide) rfl ?_
  refine am_sub [2, 3, 1, 0] (lv2 := [(0, .ref x0), (1, .int x1), (2, .int (0 : Int32)), (3, .int (Int32.ofNat (am_sh x0).2.2))]) rfl ?_
  exact w_JF_fill_5 hg am_F _ _ _ _ _ h
theorem ct_JF_fill {l : Launch} {g : am_Gl} (hg : g.2.2.2.1 = true) {s : am_M} {x0 : Nat} {x1 : Int32} (h : p_JF_fill s x0 x1) : AC l g m_JF_fill 207 s [.ref x0, .int x1] (am_oM (f_JF_fill s x0 x1)) := am_enter ok_JF_fill rfl (Nat.le_of_ble_eq_true rfl) rfl (fun ad0 => w_JF_fill hg h)
def f_RO_madeIn  (s : am_M) (i : Nat) (x1 : Int32) : Int32 := (if x1 < 0 then (0 : Int32) else (if x1 < (4 : Int32) then (s (am_lk i 0) (x1).toNatClampNeg) else (0 : Int32)))
def p_RO_madeIn  (s : am_M) (i : Nat) (x1 : Int32) : Prop := ((x1 < 0) → True) ∧ (¬ (x1 < 0) → ((x1 < (4 : Int32)) → (i < 207 ∧ am_sh i = (0, 6, 3)) ∧ (((am_lk i 0) < 207 ∧ am_sh (am_lk i 0) = (1, 0, 4)) ∧ (vp_in x1 4 ∧ (True)))) ∧ (¬ (x1 < (4 : Int32)) → True))
set_option maxRecDepth 8000 in
theorem w_RO_madeIn {l : Launch} {g : am_Gl} (hg : g.2.2.2.1 = true) {ad0 : Nat → Nat} {s : am_M} {i : Nat} {x1 : Int32} (h : p_RO_madeIn s i x1) : AW l g m_RO_madeIn 207 ad0 ((am_oI s) (f_RO_madeIn s i x1)) 0 0 207 s 0 [(0, .ref i), (1, .int x1)] [] := by
  refine am_iload_n (j := 1) d_RO_madeIn_0 rfl rfl ?_
  refine ai_lt (F := (am_oI s)) (tgt := 9) d_RO_madeIn_1 (by decide) (fun c => ?_) (fun c => ?_)
  · have h := h.1 c
    refine am_iconst (v := (0 : Int32)) d_RO_madeIn_9 (by decide) ?_
    refine am_goto (tgt := 19) d_RO_madeIn_10 (by decide) ?_
    exact am_iret d_RO_madeIn_19 rfl rfl (by decide) (by decide) am_oI_ok
  · have h := h.2 c
    refine am_iload_n (j := 1) d_RO_madeIn_4 rfl rfl ?_
    refine am_iconst (v := (4 : Int32)) d_RO_madeIn_5 (by decide) ?_
    refine aj_lt (F := (am_oI s)) (tgt := 13) d_RO_madeIn_6 (by decide) (fun c => ?_) (fun c => ?_)
    · have h := h.1 c
      refine am_aload_n (j := 0) d_RO_madeIn_13 rfl rfl ?_
      obtain ⟨⟨b1, t1⟩, h⟩ := h
      obtain ⟨⟨b2, t2⟩, h⟩ := h
      refine am_getR (t := (am_lk i 0)) d_RO_madeIn_14 fl_RO_9 hg b1 t1 (by decide) rfl (am_ne0 t1) rfl b2 ?_
      refine am_iload_n (j := 1) d_RO_madeIn_17 rfl rfl ?_
      obtain ⟨hv, h⟩ := h
      refine am_iald d_RO_madeIn_18 b2 t2 hv ?_
      exact am_iret d_RO_madeIn_19 rfl rfl (by decide) (by decide) am_oI_ok
    · have h := h.2 c
      refine am_iconst (v := (0 : Int32)) d_RO_madeIn_9 (by decide) ?_
      refine am_goto (tgt := 19) d_RO_madeIn_10 (by decide) ?_
      exact am_iret d_RO_madeIn_19 rfl rfl (by decide) (by decide) am_oI_ok
theorem ct_RO_madeIn {l : Launch} {g : am_Gl} (hg : g.2.2.2.1 = true) {s : am_M} {i : Nat} {x1 : Int32} (h : p_RO_madeIn s i x1) : AC l g m_RO_madeIn 207 s [.ref i, .int x1] ((am_oI s) (f_RO_madeIn s i x1)) := am_enter ok_RO_madeIn rfl (Nat.le_of_ble_eq_true rfl) rfl (fun ad0 => w_RO_madeIn hg h)
theorem cw_RO_isFull_2 : am_cv m_RO_isFull m_RO_madeIn 34 1 := ⟨⟨ok_RO_madeIn, rfl, by decide +kernel, by decide, by decide⟩, aw_2_133, aw_2_134, aw_2_135⟩
def f_RO_isFull  (s : am_M) (i : Nat) (x1 : Int32) : Int32 := (if (f_RO_madeIn s i x1) < (30 : Int32) then (0 : Int32) else (1 : Int32))
def p_RO_isFull  (s : am_M) (i : Nat) (x1 : Int32) : Prop := p_RO_madeIn s i x1 ∧ ((i < 207 ∧ am_sh i = (0, 6, 3)) ∧ ((((f_RO_madeIn s i x1) < (30 : Int32)) → True) ∧ (¬ ((f_RO_madeIn s i x1) < (30 : Int32)) → True)))
set_option maxRecDepth 8000 in
theorem w_RO_isFull {l : Launch} {g : am_Gl} (hg : g.2.2.2.1 = true) {ad0 : Nat → Nat} {s : am_M} {i : Nat} {x1 : Int32} (h : p_RO_isFull s i x1) : AW l g m_RO_isFull 207 ad0 ((am_oI s) (f_RO_isFull s i x1)) 0 0 207 s 0 [(0, .ref i), (1, .int x1)] [] := by
  refine am_aload_n (j := 0) d_RO_isFull_0 rfl rfl ?_
  refine am_iload_n (j := 1) d_RO_isFull_1 rfl rfl ?_
  obtain ⟨hc, h⟩ := h
  obtain ⟨⟨b1, t1⟩, h⟩ := h
  refine ak_VI (as := [.int x1]) (rest := []) d_RO_isFull_2 cw_RO_isFull_2 rfl rfl rfl (ct_RO_madeIn hg hc) rfl rfl b1 t1 rfl (Nat.le_of_ble_eq_true rfl) (by decide) (by decide) ?_
  refine am_bipush (v := (30 : Int32)) d_RO_isFull_5 (by decide) ?_
  refine aj_lt (F := (am_oI s)) (tgt := 14) d_RO_isFull_7 (by decide) (fun c => ?_) (fun c => ?_)
  · have h := h.1 c
    refine am_iconst (v := (0 : Int32)) d_RO_isFull_14 (by decide) ?_
    exact am_iret d_RO_isFull_15 rfl (am_bool (Or.inl rfl)).1 (by decide) (by decide) am_oI_ok
  · have h := h.2 c
    refine am_iconst (v := (1 : Int32)) d_RO_isFull_10 (by decide) ?_
    refine am_goto (tgt := 15) d_RO_isFull_11 (by decide) ?_
    exact am_iret d_RO_isFull_15 rfl (am_bool (Or.inr rfl)).1 (by decide) (by decide) am_oI_ok
theorem ct_RO_isFull {l : Launch} {g : am_Gl} (hg : g.2.2.2.1 = true) {s : am_M} {i : Nat} {x1 : Int32} (h : p_RO_isFull s i x1) : AC l g m_RO_isFull 207 s [.ref i, .int x1] ((am_oI s) (f_RO_isFull s i x1)) := am_enter ok_RO_isFull rfl (Nat.le_of_ble_eq_true rfl) rfl (fun ad0 => w_RO_isFull hg h)
def f_RE_setFirst  (s : am_M) (i : Nat) (x1 : Int32) (x2 : Int32) (x3 : Int32) (x4 : Int32) : am_M := (if (s i 0) = 0 then (am_set (am_set (am_set (am_set s i 0 x1) i 1 x2) i 2 x3) i 3 x4) else s)
def p_RE_setFirst  (s : am_M) (i : Nat) (x1 : Int32) (x2 : Int32) (x3 : Int32) (x4 : Int32) : Prop := (i < 207 ∧ am_sh i = (0, 5, 4)) ∧ ((((s i 0) = 0) → True) ∧ (¬ ((s i 0) = 0) → True))
set_option maxRecDepth 8000 in
theorem w_RE_setFirst {l : Launch} {g : am_Gl} (hg : g.2.2.2.1 = true) {ad0 : Nat → Nat} {s : am_M} {i : Nat} {x1 : Int32} {x2 : Int32} {x3 : Int32} {x4 : Int32} (h : p_RE_setFirst s i x1 x2 x3 x4) : AW l g m_RE_setFirst 207 ad0 (am_oM (f_RE_setFirst s i x1 x2 x3 x4)) 0 0 207 s 0 [(0, .ref i), (1, .int x1), (2, .int x2), (3, .int x3), (4, .int x4)] [] := by
  refine am_aload_n (j := 0) d_RE_setFirst_0 rfl rfl ?_
  obtain ⟨⟨b1, t1⟩, h⟩ := h
  refine am_getI d_RE_setFirst_1 fl_RE_23 b1 t1 (by decide) rfl ?_
  refine ai_ne (F := am_oM) (tgt := 28) d_RE_setFirst_4 (by decide) (fun c => ?_) (fun c => ?_)
  · have h := h.2 c
    exact am_vret d_RE_setFirst_28 rfl (by decide) (by decide) am_oM_ok
  · have h := h.1 c
    refine am_aload_n (j := 0) d_RE_setFirst_7 rfl rfl ?_
    refine am_iload_n (j := 1) d_RE_setFirst_8 rfl rfl ?_
    refine am_putI (ty := .int) d_RE_setFirst_9 fl_RE_23 ft_5_0 b1 t1 (by decide) rfl rfl rfl ?_
    refine am_aload_n (j := 0) d_RE_setFirst_12 rfl rfl ?_
    refine am_iload_n (j := 2) d_RE_setFirst_13 rfl rfl ?_
    refine am_putI (ty := .int) d_RE_setFirst_14 fl_RE_7 ft_5_1 b1 t1 (by decide) rfl rfl rfl ?_
    refine am_aload_n (j := 0) d_RE_setFirst_17 rfl rfl ?_
    refine am_iload_n (j := 3) d_RE_setFirst_18 rfl rfl ?_
    refine am_putI (ty := .int) d_RE_setFirst_19 fl_RE_13 ft_5_2 b1 t1 (by decide) rfl rfl rfl ?_
    refine am_aload_n (j := 0) d_RE_setFirst_22 rfl rfl ?_
    refine am_iload (j := 4) d_RE_setFirst_23 rfl ?_
    refine am_putI (ty := .int) d_RE_setFirst_25 fl_RE_16 ft_5_3 b1 t1 (by decide) rfl rfl rfl ?_
    exact am_vret d_RE_setFirst_28 rfl (by decide) (by decide) am_oM_ok
theorem ct_RE_setFirst {l : Launch} {g : am_Gl} (hg : g.2.2.2.1 = true) {s : am_M} {i : Nat} {x1 : Int32} {x2 : Int32} {x3 : Int32} {x4 : Int32} (h : p_RE_setFirst s i x1 x2 x3 x4) : AC l g m_RE_setFirst 207 s [.ref i, .int x1, .int x2, .int x3, .int x4] (am_oM (f_RE_setFirst s i x1 x2 x3 x4)) := am_enter ok_RE_setFirst rfl (Nat.le_of_ble_eq_true rfl) rfl (fun ad0 => w_RE_setFirst hg h)
theorem cw_RE_set_11 : am_cv m_RE_set m_RE_setFirst 26 4 := ⟨⟨ok_RE_setFirst, rfl, by decide +kernel, by decide, by decide⟩, aw_2_211, aw_2_212, aw_2_213⟩
def f_RE_set  (s : am_M) (i : Nat) (x1 : Int32) (x2 : Int32) (x3 : Int32) (x4 : Int32) : am_M := (f_RE_setFirst (am_set s i 0 (0 : Int32)) i x1 x2 x3 x4)
def p_RE_set  (s : am_M) (i : Nat) (x1 : Int32) (x2 : Int32) (x3 : Int32) (x4 : Int32) : Prop := (i < 207 ∧ am_sh i = (0, 5, 4)) ∧ (p_RE_setFirst (am_set s i 0 (0 : Int32)) i x1 x2 x3 x4 ∧ (True))
set_option maxRecDepth 8000 in
theorem w_RE_set {l : Launch} {g : am_Gl} (hg : g.2.2.2.1 = true) {ad0 : Nat → Nat} {s : am_M} {i : Nat} {x1 : Int32} {x2 : Int32} {x3 : Int32} {x4 : Int32} (h : p_RE_set s i x1 x2 x3 x4) : AW l g m_RE_set 207 ad0 (am_oM (f_RE_set s i x1 x2 x3 x4)) 0 0 207 s 0 [(0, .ref i), (1, .int x1), (2, .int x2), (3, .int x3), (4, .int x4)] [] := by
  refine am_aload_n (j := 0) d_RE_set_0 rfl rfl ?_
  refine am_iconst (v := (0 : Int32)) d_RE_set_1 (by decide) ?_
  obtain ⟨⟨b1, t1⟩, h⟩ := h
  refine am_putI (ty := .int) d_RE_set_2 fl_RE_23 ft_5_0 b1 t1 (by decide) rfl rfl rfl ?_
  refine am_aload_n (j := 0) d_RE_set_5 rfl rfl ?_
  refine am_iload_n (j := 1) d_RE_set_6 rfl rfl ?_
  refine am_iload_n (j := 2) d_RE_set_7 rfl rfl ?_
  refine am_iload_n (j := 3) d_RE_set_8 rfl rfl ?_
  refine am_iload (j := 4) d_RE_set_9 rfl ?_
  obtain ⟨hc, h⟩ := h
  refine ak_VM (as := [.int x1, .int x2, .int x3, .int x4]) (rest := []) d_RE_set_11 cw_RE_set_11 rfl rfl rfl (ct_RE_setFirst hg hc) rfl rfl b1 t1 rfl (Nat.le_of_ble_eq_true rfl) (by decide) (by decide) ?_
  exact am_vret d_RE_set_14 rfl (by decide) (by decide) am_oM_ok
theorem ct_RE_set {l : Launch} {g : am_Gl} (hg : g.2.2.2.1 = true) {s : am_M} {i : Nat} {x1 : Int32} {x2 : Int32} {x3 : Int32} {x4 : Int32} (h : p_RE_set s i x1 x2 x3 x4) : AC l g m_RE_set 207 s [.ref i, .int x1, .int x2, .int x3, .int x4] (am_oM (f_RE_set s i x1 x2 x3 x4)) := am_enter ok_RE_set rfl (Nat.le_of_ble_eq_true rfl) rfl (fun ad0 => w_RE_set hg h)
def f_RO_copyFrom  (s : am_M) (i : Nat) (x1 : Nat) : am_M := (am_put (am_put (am_put s (am_lk i 0) (va_cpy (s (am_lk x1 0)) (s (am_lk i 0)) ((0 : Int32)).toNatClampNeg ((0 : Int32)).toNatClampNeg ((4 : Int32)).toNatClampNeg)) (am_lk i 1) (va_cpy ((am_put s (am_lk i 0) (va_cpy (s (am_lk x1 0)) (s (am_lk i 0)) ((0 : Int32)).toNatClampNeg ((0 : Int32)).toNatClampNeg ((4 : Int32)).toNatClampNeg)) (am_lk x1 1)) ((am_put s (am_lk i 0) (va_cpy (s (am_lk x1 0)) (s (am_lk i 0)) ((0 : Int32)).toNatClampNeg ((0 : Int32)).toNatClampNeg ((4 : Int32)).toNatClampNeg)) (am_lk i 1)) ((0 : Int32)).toNatClampNeg ((0 : Int32)).toNatClampNeg ((120 : Int32)).toNatClampNeg)) (am_lk i 2) (va_cpy ((am_put (am_put s (am_lk i 0) (va_cpy (s (am_lk x1 0)) (s (am_lk i 0)) ((0 : Int32)).toNatClampNeg ((0 : Int32)).toNatClampNeg ((4 : Int32)).toNatClampNeg)) (am_lk i 1) (va_cpy ((am_put s (am_lk i 0) (va_cpy (s (am_lk x1 0)) (s (am_lk i 0)) ((0 : Int32)).toNatClampNeg ((0 : Int32)).toNatClampNeg ((4 : Int32)).toNatClampNeg)) (am_lk x1 1)) ((am_put s (am_lk i 0) (va_cpy (s (am_lk x1 0)) (s (am_lk i 0)) ((0 : Int32)).toNatClampNeg ((0 : Int32)).toNatClampNeg ((4 : Int32)).toNatClampNeg)) (am_lk i 1)) ((0 : Int32)).toNatClampNeg ((0 : Int32)).toNatClampNeg ((120 : Int32)).toNatClampNeg)) (am_lk x1 2)) ((am_put (am_put s (am_lk i 0) (va_cpy (s (am_lk x1 0)) (s (am_lk i 0)) ((0 : Int32)).toNatClampNeg ((0 : Int32)).toNatClampNeg ((4 : Int32)).toNatClampNeg)) (am_lk i 1) (va_cpy ((am_put s (am_lk i 0) (va_cpy (s (am_lk x1 0)) (s (am_lk i 0)) ((0 : Int32)).toNatClampNeg ((0 : Int32)).toNatClampNeg ((4 : Int32)).toNatClampNeg)) (am_lk x1 1)) ((am_put s (am_lk i 0) (va_cpy (s (am_lk x1 0)) (s (am_lk i 0)) ((0 : Int32)).toNatClampNeg ((0 : Int32)).toNatClampNeg ((4 : Int32)).toNatClampNeg)) (am_lk i 1)) ((0 : Int32)).toNatClampNeg ((0 : Int32)).toNatClampNeg ((120 : Int32)).toNatClampNeg)) (am_lk i 2)) ((0 : Int32)).toNatClampNeg ((0 : Int32)).toNatClampNeg ((720 : Int32)).toNatClampNeg))
def p_RO_copyFrom  (s : am_M) (i : Nat) (x1 : Nat) : Prop := (x1 < 207 ∧ am_sh x1 = (0, 6, 3)) ∧ (((am_lk x1 0) < 207 ∧ am_sh (am_lk x1 0) = (1, 0, 4)) ∧ ((i < 207 ∧ am_sh i = (0, 6, 3)) ∧ (((am_lk i 0) < 207 ∧ am_sh (am_lk i 0) = (1, 0, 4)) ∧ ((¬ (0 : Int32) < 0 ∧ ¬ (0 : Int32) < 0 ∧ ¬ (4 : Int32) < 0 ∧ ((0 : Int32)).toNatClampNeg + ((4 : Int32)).toNatClampNeg ≤ 4 ∧ ((0 : Int32)).toNatClampNeg + ((4 : Int32)).toNatClampNeg ≤ 4) ∧ (((am_lk x1 1) < 207 ∧ am_sh (am_lk x1 1) = (1, 0, 120)) ∧ (((am_lk i 1) < 207 ∧ am_sh (am_lk i 1) = (1, 0, 120)) ∧ ((¬ (0 : Int32) < 0 ∧ ¬ (0 : Int32) < 0 ∧ ¬ (120 : Int32) < 0 ∧ ((0 : Int32)).toNatClampNeg + ((120 : Int32)).toNatClampNeg ≤ 120 ∧ ((0 : Int32)).toNatClampNeg + ((120 : Int32)).toNatClampNeg ≤ 120) ∧ (((am_lk x1 2) < 207 ∧ am_sh (am_lk x1 2) = (1, 0, 720)) ∧ (((am_lk i 2) < 207 ∧ am_sh (am_lk i 2) = (1, 0, 720)) ∧ ((¬ (0 : Int32) < 0 ∧ ¬ (0 : Int32) < 0 ∧ ¬ (720 : Int32) < 0 ∧ ((0 : Int32)).toNatClampNeg + ((720 : Int32)).toNatClampNeg ≤ 720 ∧ ((0 : Int32)).toNatClampNeg + ((720 : Int32)).toNatClampNeg ≤ 720) ∧ (True)))))))))))
set_option maxRecDepth 8000 in
theorem w_RO_copyFrom {l : Launch} {g : am_Gl} (hg : g.2.2.2.1 = true) {ad0 : Nat → Nat} {s : am_M} {i : Nat} {x1 : Nat} (h : p_RO_copyFrom s i x1) : AW l g m_RO_copyFrom 207 ad0 (am_oM (f_RO_copyFrom s i x1)) 0 0 207 s 0 [(0, .ref i), (1, .ref x1)] [] := by
  refine am_aload_n (j := 1) d_RO_copyFrom_0 rfl rfl ?_
  obtain ⟨⟨b1, t1⟩, h⟩ := h
  obtain ⟨⟨b2, t2⟩, h⟩ := h
  refine am_getR (t := (am_lk x1 0)) d_RO_copyFrom_1 fl_RO_9 hg b1 t1 (by decide) rfl (am_ne0 t1) rfl b2 ?_
  refine am_iconst (v := (0 : Int32)) d_RO_copyFrom_4 (by decide) ?_
  refine am_aload_n (j := 0) d_RO_copyFrom_5 rfl rfl ?_
  obtain ⟨⟨b3, t3⟩, h⟩ := h
  obtain ⟨⟨b4, t4⟩, h⟩ := h
  refine am_getR (t := (am_lk i 0)) d_RO_copyFrom_6 fl_RO_9 hg b3 t3 (by decide) rfl (am_ne0 t3) rfl b4 ?_
  refine am_iconst (v := (0 : Int32)) d_RO_copyFrom_9 (by decide) ?_
  refine am_iconst (v := (4 : Int32)) d_RO_copyFrom_10 (by decide) ?_
  obtain ⟨⟨q1, q2, q3, q4, q5⟩, h⟩ := h
  refine am_copy d_RO_copyFrom_11 aw_2_150 b2 b4 t2 t4 q1 q2 q3 q4 q5 (Nat.le_of_ble_eq_true rfl) (by decide) ?_
  refine am_aload_n (j := 1) d_RO_copyFrom_14 rfl rfl ?_
  obtain ⟨⟨b5, t5⟩, h⟩ := h
  refine am_getR (t := (am_lk x1 1)) d_RO_copyFrom_15 fl_RO_15 hg b1 t1 (by decide) rfl (am_ne0 t1) rfl b5 ?_
  refine am_iconst (v := (0 : Int32)) d_RO_copyFrom_18 (by decide) ?_
  refine am_aload_n (j := 0) d_RO_copyFrom_19 rfl rfl ?_
  obtain ⟨⟨b6, t6⟩, h⟩ := h
  refine am_getR (t := (am_lk i 1)) d_RO_copyFrom_20 fl_RO_15 hg b3 t3 (by decide) rfl (am_ne0 t3) rfl b6 ?_
  refine am_iconst (v := (0 : Int32)) d_RO_copyFrom_23 (by decide) ?_
  refine am_bipush (v := (120 : Int32)) d_RO_copyFrom_24 (by decide) ?_
  obtain ⟨⟨q1, q2, q3, q4, q5⟩, h⟩ := h
  refine am_copy d_RO_copyFrom_26 aw_2_150 b5 b6 t5 t6 q1 q2 q3 q4 q5 (Nat.le_of_ble_eq_true rfl) (by decide) ?_
  refine am_aload_n (j := 1) d_RO_copyFrom_29 rfl rfl ?_
  obtain ⟨⟨b7, t7⟩, h⟩ := h
  refine am_getR (t := (am_lk x1 2)) d_RO_copyFrom_30 fl_RO_18 hg b1 t1 (by decide) rfl (am_ne0 t1) rfl b7 ?_
  refine am_iconst (v := (0 : Int32)) d_RO_copyFrom_33 (by decide) ?_
  refine am_aload_n (j := 0) d_RO_copyFrom_34 rfl rfl ?_
  obtain ⟨⟨b8, t8⟩, h⟩ := h
  refine am_getR (t := (am_lk i 2)) d_RO_copyFrom_35 fl_RO_18 hg b3 t3 (by decide) rfl (am_ne0 t3) rfl b8 ?_
  refine am_iconst (v := (0 : Int32)) d_RO_copyFrom_38 (by decide) ?_
  refine am_sipush (v := (720 : Int32)) d_RO_copyFrom_39 (by decide) ?_
  obtain ⟨⟨q1, q2, q3, q4, q5⟩, h⟩ := h
  refine am_copy d_RO_copyFrom_42 aw_2_150 b7 b8 t7 t8 q1 q2 q3 q4 q5 (Nat.le_of_ble_eq_true rfl) (by decide) ?_
  exact am_vret d_RO_copyFrom_45 rfl (by decide) (by decide) am_oM_ok
theorem ct_RO_copyFrom {l : Launch} {g : am_Gl} (hg : g.2.2.2.1 = true) {s : am_M} {i : Nat} {x1 : Nat} (h : p_RO_copyFrom s i x1) : AC l g m_RO_copyFrom 207 s [.ref i, .ref x1] (am_oM (f_RO_copyFrom s i x1)) := am_enter ok_RO_copyFrom rfl (Nat.le_of_ble_eq_true rfl) rfl (fun ad0 => w_RO_copyFrom hg h)
theorem cw_RO_make_2 : am_cv m_RO_make m_RO_madeIn 34 1 := ⟨⟨ok_RO_madeIn, rfl, by decide +kernel, by decide, by decide⟩, aw_2_133, aw_2_134, aw_2_135⟩
def f_RO_make  (s : am_M) (i : Nat) (x1 : Int32) (x2 : Int32) : Int32 × am_M := (if x1 < 0 then ((f_RO_madeIn s i x1), s) else (if (4 : Int32) ≤ x1 then ((f_RO_madeIn s i x1), s) else (if (30 : Int32) ≤ (f_RO_madeIn s i x1) then ((f_RO_madeIn s i x1), s) else ((f_RO_madeIn s i x1), (am_set (am_set s (am_lk i 0) (x1).toNatClampNeg ((f_RO_madeIn s i x1) + (1 : Int32))) (am_lk i 1) (((x1 * (30 : Int32)) + (f_RO_madeIn s i x1))).toNatClampNeg x2)))))
def p_RO_make  (s : am_M) (i : Nat) (x1 : Int32) (x2 : Int32) : Prop := p_RO_madeIn s i x1 ∧ ((i < 207 ∧ am_sh i = (0, 6, 3)) ∧ (((x1 < 0) → True) ∧ (¬ (x1 < 0) → (((4 : Int32) ≤ x1) → True) ∧ (¬ ((4 : Int32) ≤ x1) → (((30 : Int32) ≤ (f_RO_madeIn s i x1)) → True) ∧ (¬ ((30 : Int32) ≤ (f_RO_madeIn s i x1)) → ((am_lk i 0) < 207 ∧ am_sh (am_lk i 0) = (1, 0, 4)) ∧ (vp_in x1 4 ∧ (((am_lk i 1) < 207 ∧ am_sh (am_lk i 1) = (1, 0, 120)) ∧ (vp_in ((x1 * (30 : Int32)) + (f_RO_madeIn s i x1)) 120 ∧ (True)))))))))
set_option maxRecDepth 8000 in
theorem w_RO_make {l : Launch} {g : am_Gl} (hg : g.2.2.2.1 = true) {ad0 : Nat → Nat} {s : am_M} {i : Nat} {x1 : Int32} {x2 : Int32} (h : p_RO_make s i x1 x2) : AW l g m_RO_make 207 ad0 (am_oC (f_RO_make s i x1 x2)) 0 0 207 s 0 [(0, .ref i), (1, .int x1), (2, .int x2)] [] := by
  refine am_aload_n (j := 0) d_RO_make_0 rfl rfl ?_
  refine am_iload_n (j := 1) d_RO_make_1 rfl rfl ?_
  obtain ⟨hc, h⟩ := h
  obtain ⟨⟨b1, t1⟩, h⟩ := h
  refine ak_VI (as := [.int x1]) (rest := []) d_RO_make_2 cw_RO_make_2 rfl rfl rfl (ct_RO_madeIn hg hc) rfl rfl b1 t1 rfl (Nat.le_of_ble_eq_true rfl) (by decide) (by decide) ?_
  refine am_istore_n (lv2 := [(3, .int (f_RO_madeIn s i x1)), (0, .ref i), (1, .int x1), (2, .int x2)]) d_RO_make_5 rfl (by decide) rfl ?_
  refine am_iload_n (j := 2) d_RO_make_6 rfl rfl ?_
  refine ai_lt (F := am_oC) (tgt := 42) d_RO_make_7 (by decide) (fun c => ?_) (fun c => ?_)
  · have h := h.1 c
    refine am_iload_n (j := 0) d_RO_make_42 rfl rfl ?_
    exact am_iret d_RO_make_43 rfl rfl (by decide) (by decide) am_oC_ok
  · have h := h.2 c
    refine am_iload_n (j := 2) d_RO_make_10 rfl rfl ?_
    refine am_iconst (v := (4 : Int32)) d_RO_make_11 (by decide) ?_
    refine aj_ge (F := am_oC) (tgt := 42) d_RO_make_12 (by decide) (fun c => ?_) (fun c => ?_)
    · have h := h.1 c
      refine am_iload_n (j := 0) d_RO_make_42 rfl rfl ?_
      exact am_iret d_RO_make_43 rfl rfl (by decide) (by decide) am_oC_ok
    · have h := h.2 c
      refine am_iload_n (j := 0) d_RO_make_15 rfl rfl ?_
      refine am_bipush (v := (30 : Int32)) d_RO_make_16 (by decide) ?_
      refine aj_ge (F := am_oC) (tgt := 42) d_RO_make_18 (by decide) (fun c => ?_) (fun c => ?_)
      · have h := h.1 c
        refine am_iload_n (j := 0) d_RO_make_42 rfl rfl ?_
        exact am_iret d_RO_make_43 rfl rfl (by decide) (by decide) am_oC_ok
      · have h := h.2 c
        refine am_aload_n (j := 1) d_RO_make_21 rfl rfl ?_
        obtain ⟨⟨b2, t2⟩, h⟩ := h
        refine am_getR (t := (am_lk i 0)) d_RO_make_22 fl_RO_9 hg b1 t1 (by decide) rfl (am_ne0 t1) rfl b2 ?_
        refine am_iload_n (j := 2) d_RO_make_25 rfl rfl ?_
        refine am_iload_n (j := 0) d_RO_make_26 rfl rfl ?_
        refine am_iconst (v := (1 : Int32)) d_RO_make_27 (by decide) ?_
        refine am_iadd d_RO_make_28 ?_
        obtain ⟨hv, h⟩ := h
        refine am_iast d_RO_make_29 b2 t2 hv ?_
        refine am_aload_n (j := 1) d_RO_make_30 rfl rfl ?_
        obtain ⟨⟨b3, t3⟩, h⟩ := h
        refine am_getR (t := (am_lk i 1)) d_RO_make_31 fl_RO_15 hg b1 t1 (by decide) rfl (am_ne0 t1) rfl b3 ?_
        refine am_iload_n (j := 2) d_RO_make_34 rfl rfl ?_
        refine am_bipush (v := (30 : Int32)) d_RO_make_35 (by decide) ?_
        refine am_imul d_RO_make_37 ?_
        refine am_iload_n (j := 0) d_RO_make_38 rfl rfl ?_
        refine am_iadd d_RO_make_39 ?_
        refine am_iload_n (j := 3) d_RO_make_40 rfl rfl ?_
        obtain ⟨hv, h⟩ := h
        refine am_iast d_RO_make_41 b3 t3 hv ?_
        refine am_iload_n (j := 0) d_RO_make_42 rfl rfl ?_
        exact am_iret d_RO_make_43 rfl rfl (by decide) (by decide) am_oC_ok
theorem ct_RO_make {l : Launch} {g : am_Gl} (hg : g.2.2.2.1 = true) {s : am_M} {i : Nat} {x1 : Int32} {x2 : Int32} (h : p_RO_make s i x1 x2) : AC l g m_RO_make 207 s [.ref i, .int x1, .int x2] (am_oC (f_RO_make s i x1 x2)) := am_enter ok_RO_make rfl (Nat.le_of_ble_eq_true rfl) rfl (fun ad0 => w_RO_make hg h)
def f_CO_isStored  (s : am_M) (i : Nat) : Int32 := (if (s i 0) = (1 : Int32) then (1 : Int32) else (if (s i 0) = (2 : Int32) then (1 : Int32) else (0 : Int32)))
def p_CO_isStored  (s : am_M) (i : Nat) : Prop := (i < 207 ∧ am_sh i = (0, 3, 11)) ∧ ((((s i 0) = (1 : Int32)) → True) ∧ (¬ ((s i 0) = (1 : Int32)) → (((s i 0) = (2 : Int32)) → True) ∧ (¬ ((s i 0) = (2 : Int32)) → True)))
set_option maxRecDepth 8000 in
theorem w_CO_isStored {l : Launch} {g : am_Gl} (hg : g.2.2.2.1 = true) {ad0 : Nat → Nat} {s : am_M} {i : Nat} (h : p_CO_isStored s i) : AW l g m_CO_isStored 207 ad0 ((am_oI s) (f_CO_isStored s i)) 0 0 207 s 0 [(0, .ref i)] [] := by
  refine am_aload_n (j := 0) d_CO_isStored_0 rfl rfl ?_
  obtain ⟨⟨b1, t1⟩, h⟩ := h
  refine am_getI d_CO_isStored_1 fl_CO_7 b1 t1 (by decide) rfl ?_
  refine am_iconst (v := (1 : Int32)) d_CO_isStored_4 (by decide) ?_
  refine aj_eq (F := (am_oI s)) (tgt := 16) d_CO_isStored_5 (by decide) (fun c => ?_) (fun c => ?_)
  · have h := h.1 c
    refine am_iconst (v := (1 : Int32)) d_CO_isStored_16 (by decide) ?_
    refine am_goto (tgt := 21) d_CO_isStored_17 (by decide) ?_
    exact am_iret d_CO_isStored_21 rfl (am_bool (Or.inr rfl)).1 (by decide) (by decide) am_oI_ok
  · have h := h.2 c
    refine am_aload_n (j := 0) d_CO_isStored_8 rfl rfl ?_
    refine am_getI d_CO_isStored_9 fl_CO_7 b1 t1 (by decide) rfl ?_
    refine am_iconst (v := (2 : Int32)) d_CO_isStored_12 (by decide) ?_
    refine aj_ne (F := (am_oI s)) (tgt := 20) d_CO_isStored_13 (by decide) (fun c => ?_) (fun c => ?_)
    · have h := h.2 c
      refine am_iconst (v := (0 : Int32)) d_CO_isStored_20 (by decide) ?_
      exact am_iret d_CO_isStored_21 rfl (am_bool (Or.inl rfl)).1 (by decide) (by decide) am_oI_ok
    · have h := h.1 c
      refine am_iconst (v := (1 : Int32)) d_CO_isStored_16 (by decide) ?_
      refine am_goto (tgt := 21) d_CO_isStored_17 (by decide) ?_
      exact am_iret d_CO_isStored_21 rfl (am_bool (Or.inr rfl)).1 (by decide) (by decide) am_oI_ok
theorem ct_CO_isStored {l : Launch} {g : am_Gl} (hg : g.2.2.2.1 = true) {s : am_M} {i : Nat} (h : p_CO_isStored s i) : AC l g m_CO_isStored 207 s [.ref i] ((am_oI s) (f_CO_isStored s i)) := am_enter ok_CO_isStored rfl (Nat.le_of_ble_eq_true rfl) rfl (fun ad0 => w_CO_isStored hg h)
def f_RO_set  (s : am_M) (i : Nat) (x1 : Int32) (x2 : Int32) (x3 : Int32) (x4 : Int32) : am_M := (if x1 < 0 then s else (if (4 : Int32) ≤ x1 then s else (if x2 < 0 then s else (if (30 : Int32) ≤ x2 then s else (if x3 < 0 then s else (if (6 : Int32) ≤ x3 then s else (am_set s (am_lk i 2) (((((x1 * (30 : Int32)) + x2) * (6 : Int32)) + x3)).toNatClampNeg x4)))))))
def p_RO_set  (s : am_M) (i : Nat) (x1 : Int32) (x2 : Int32) (x3 : Int32) (x4 : Int32) : Prop := ((x1 < 0) → True) ∧ (¬ (x1 < 0) → (((4 : Int32) ≤ x1) → True) ∧ (¬ ((4 : Int32) ≤ x1) → ((x2 < 0) → True) ∧ (¬ (x2 < 0) → (((30 : Int32) ≤ x2) → True) ∧ (¬ ((30 : Int32) ≤ x2) → ((x3 < 0) → True) ∧ (¬ (x3 < 0) → (((6 : Int32) ≤ x3) → True) ∧ (¬ ((6 : Int32) ≤ x3) → (i < 207 ∧ am_sh i = (0, 6, 3)) ∧ (((am_lk i 2) < 207 ∧ am_sh (am_lk i 2) = (1, 0, 720)) ∧ (vp_in ((((x1 * (30 : Int32)) + x2) * (6 : Int32)) + x3) 720 ∧ (True)))))))))
set_option maxRecDepth 8000 in
theorem w_RO_set {l : Launch} {g : am_Gl} (hg : g.2.2.2.1 = true) {ad0 : Nat → Nat} {s : am_M} {i : Nat} {x1 : Int32} {x2 : Int32} {x3 : Int32} {x4 : Int32} (h : p_RO_set s i x1 x2 x3 x4) : AW l g m_RO_set 207 ad0 (am_oM (f_RO_set s i x1 x2 x3 x4)) 0 0 207 s 0 [(0, .ref i), (1, .int x1), (2, .int x2), (3, .int x3), (4, .int x4)] [] := by
  refine am_iload_n (j := 1) d_RO_set_0 rfl rfl ?_
  refine ai_lt (F := am_oM) (tgt := 47) d_RO_set_1 (by decide) (fun c => ?_) (fun c => ?_)
  · have h := h.1 c
    exact am_vret d_RO_set_47 rfl (by decide) (by decide) am_oM_ok
  · have h := h.2 c
    refine am_iload_n (j := 1) d_RO_set_4 rfl rfl ?_
    refine am_iconst (v := (4 : Int32)) d_RO_set_5 (by decide) ?_
    refine aj_ge (F := am_oM) (tgt := 47) d_RO_set_6 (by decide) (fun c => ?_) (fun c => ?_)
    · have h := h.1 c
      exact am_vret d_RO_set_47 rfl (by decide) (by decide) am_oM_ok
    · have h := h.2 c
      refine am_iload_n (j := 2) d_RO_set_9 rfl rfl ?_
      refine ai_lt (F := am_oM) (tgt := 47) d_RO_set_10 (by decide) (fun c => ?_) (fun c => ?_)
      · have h := h.1 c
        exact am_vret d_RO_set_47 rfl (by decide) (by decide) am_oM_ok
      · have h := h.2 c
        refine am_iload_n (j := 2) d_RO_set_13 rfl rfl ?_
        refine am_bipush (v := (30 : Int32)) d_RO_set_14 (by decide) ?_
        refine aj_ge (F := am_oM) (tgt := 47) d_RO_set_16 (by decide) (fun c => ?_) (fun c => ?_)
        · have h := h.1 c
          exact am_vret d_RO_set_47 rfl (by decide) (by decide) am_oM_ok
        · have h := h.2 c
          refine am_iload_n (j := 3) d_RO_set_19 rfl rfl ?_
          refine ai_lt (F := am_oM) (tgt := 47) d_RO_set_20 (by decide) (fun c => ?_) (fun c => ?_)
          · have h := h.1 c
            exact am_vret d_RO_set_47 rfl (by decide) (by decide) am_oM_ok
          · have h := h.2 c
            refine am_iload_n (j := 3) d_RO_set_23 rfl rfl ?_
            refine am_bipush (v := (6 : Int32)) d_RO_set_24 (by decide) ?_
            refine aj_ge (F := am_oM) (tgt := 47) d_RO_set_26 (by decide) (fun c => ?_) (fun c => ?_)
            · have h := h.1 c
              exact am_vret d_RO_set_47 rfl (by decide) (by decide) am_oM_ok
            · have h := h.2 c
              refine am_aload_n (j := 0) d_RO_set_29 rfl rfl ?_
              obtain ⟨⟨b1, t1⟩, h⟩ := h
              obtain ⟨⟨b2, t2⟩, h⟩ := h
              refine am_getR (t := (am_lk i 2)) d_RO_set_30 fl_RO_18 hg b1 t1 (by decide) rfl (am_ne0 t1) rfl b2 ?_
              refine am_iload_n (j := 1) d_RO_set_33 rfl rfl ?_
              refine am_bipush (v := (30 : Int32)) d_RO_set_34 (by decide) ?_
              refine am_imul d_RO_set_36 ?_
              refine am_iload_n (j := 2) d_RO_set_37 rfl rfl ?_
              refine am_iadd d_RO_set_38 ?_
              refine am_bipush (v := (6 : Int32)) d_RO_set_39 (by decide) ?_
              refine am_imul d_RO_set_41 ?_
              refine am_iload_n (j := 3) d_RO_set_42 rfl rfl ?_
              refine am_iadd d_RO_set_43 ?_
              refine am_iload (j := 4) d_RO_set_44 rfl ?_
              obtain ⟨hv, h⟩ := h
              refine am_iast d_RO_set_46 b2 t2 hv ?_
              exact am_vret d_RO_set_47 rfl (by decide) (by decide) am_oM_ok
theorem ct_RO_set {l : Launch} {g : am_Gl} (hg : g.2.2.2.1 = true) {s : am_M} {i : Nat} {x1 : Int32} {x2 : Int32} {x3 : Int32} {x4 : Int32} (h : p_RO_set s i x1 x2 x3 x4) : AC l g m_RO_set 207 s [.ref i, .int x1, .int x2, .int x3, .int x4] (am_oM (f_RO_set s i x1 x2 x3 x4)) := am_enter ok_RO_set rfl (Nat.le_of_ble_eq_true rfl) rfl (fun ad0 => w_RO_set hg h)
def f_RO_get  (s : am_M) (i : Nat) (x1 : Int32) (x2 : Int32) (x3 : Int32) : Int32 := (if x1 < 0 then (-1000000 : Int32) else (if (4 : Int32) ≤ x1 then (-1000000 : Int32) else (if x2 < 0 then (-1000000 : Int32) else (if (30 : Int32) ≤ x2 then (-1000000 : Int32) else (if x3 < 0 then (-1000000 : Int32) else (if x3 < (6 : Int32) then (s (am_lk i 2) (((((x1 * (30 : Int32)) + x2) * (6 : Int32)) + x3)).toNatClampNeg) else (-1000000 : Int32)))))))
def p_RO_get  (s : am_M) (i : Nat) (x1 : Int32) (x2 : Int32) (x3 : Int32) : Prop := ((x1 < 0) → True) ∧ (¬ (x1 < 0) → (((4 : Int32) ≤ x1) → True) ∧ (¬ ((4 : Int32) ≤ x1) → ((x2 < 0) → True) ∧ (¬ (x2 < 0) → (((30 : Int32) ≤ x2) → True) ∧ (¬ ((30 : Int32) ≤ x2) → ((x3 < 0) → True) ∧ (¬ (x3 < 0) → ((x3 < (6 : Int32)) → (i < 207 ∧ am_sh i = (0, 6, 3)) ∧ (((am_lk i 2) < 207 ∧ am_sh (am_lk i 2) = (1, 0, 720)) ∧ (vp_in ((((x1 * (30 : Int32)) + x2) * (6 : Int32)) + x3) 720 ∧ (True)))) ∧ (¬ (x3 < (6 : Int32)) → True))))))
set_option maxRecDepth 8000 in
theorem w_RO_get {l : Launch} {g : am_Gl} (hg : g.2.2.2.1 = true) {ad0 : Nat → Nat} {s : am_M} {i : Nat} {x1 : Int32} {x2 : Int32} {x3 : Int32} (h : p_RO_get s i x1 x2 x3) : AW l g m_RO_get 207 ad0 ((am_oI s) (f_RO_get s i x1 x2 x3)) 0 0 207 s 0 [(0, .ref i), (1, .int x1), (2, .int x2), (3, .int x3)] [] := by
  refine am_iload_n (j := 1) d_RO_get_0 rfl rfl ?_
  refine ai_lt (F := (am_oI s)) (tgt := 29) d_RO_get_1 (by decide) (fun c => ?_) (fun c => ?_)
  · have h := h.1 c
    refine am_ldc (v := (-1000000 : Int32)) d_RO_get_29 aw_0_123 ?_
    exact am_iret d_RO_get_31 rfl rfl (by decide) (by decide) am_oI_ok
  · have h := h.2 c
    refine am_iload_n (j := 1) d_RO_get_4 rfl rfl ?_
    refine am_iconst (v := (4 : Int32)) d_RO_get_5 (by decide) ?_
    refine aj_ge (F := (am_oI s)) (tgt := 29) d_RO_get_6 (by decide) (fun c => ?_) (fun c => ?_)
    · have h := h.1 c
      refine am_ldc (v := (-1000000 : Int32)) d_RO_get_29 aw_0_123 ?_
      exact am_iret d_RO_get_31 rfl rfl (by decide) (by decide) am_oI_ok
    · have h := h.2 c
      refine am_iload_n (j := 2) d_RO_get_9 rfl rfl ?_
      refine ai_lt (F := (am_oI s)) (tgt := 29) d_RO_get_10 (by decide) (fun c => ?_) (fun c => ?_)
      · have h := h.1 c
        refine am_ldc (v := (-1000000 : Int32)) d_RO_get_29 aw_0_123 ?_
        exact am_iret d_RO_get_31 rfl rfl (by decide) (by decide) am_oI_ok
      · have h := h.2 c
        refine am_iload_n (j := 2) d_RO_get_13 rfl rfl ?_
        refine am_bipush (v := (30 : Int32)) d_RO_get_14 (by decide) ?_
        refine aj_ge (F := (am_oI s)) (tgt := 29) d_RO_get_16 (by decide) (fun c => ?_) (fun c => ?_)
        · have h := h.1 c
          refine am_ldc (v := (-1000000 : Int32)) d_RO_get_29 aw_0_123 ?_
          exact am_iret d_RO_get_31 rfl rfl (by decide) (by decide) am_oI_ok
        · have h := h.2 c
          refine am_iload_n (j := 3) d_RO_get_19 rfl rfl ?_
          refine ai_lt (F := (am_oI s)) (tgt := 29) d_RO_get_20 (by decide) (fun c => ?_) (fun c => ?_)
          · have h := h.1 c
            refine am_ldc (v := (-1000000 : Int32)) d_RO_get_29 aw_0_123 ?_
            exact am_iret d_RO_get_31 rfl rfl (by decide) (by decide) am_oI_ok
          · have h := h.2 c
            refine am_iload_n (j := 3) d_RO_get_23 rfl rfl ?_
            refine am_bipush (v := (6 : Int32)) d_RO_get_24 (by decide) ?_
            refine aj_lt (F := (am_oI s)) (tgt := 32) d_RO_get_26 (by decide) (fun c => ?_) (fun c => ?_)
            · have h := h.1 c
              refine am_aload_n (j := 0) d_RO_get_32 rfl rfl ?_
              obtain ⟨⟨b1, t1⟩, h⟩ := h
              obtain ⟨⟨b2, t2⟩, h⟩ := h
              refine am_getR (t := (am_lk i 2)) d_RO_get_33 fl_RO_18 hg b1 t1 (by decide) rfl (am_ne0 t1) rfl b2 ?_
              refine am_iload_n (j := 1) d_RO_get_36 rfl rfl ?_
              refine am_bipush (v := (30 : Int32)) d_RO_get_37 (by decide) ?_
              refine am_imul d_RO_get_39 ?_
              refine am_iload_n (j := 2) d_RO_get_40 rfl rfl ?_
              refine am_iadd d_RO_get_41 ?_
              refine am_bipush (v := (6 : Int32)) d_RO_get_42 (by decide) ?_
              refine am_imul d_RO_get_44 ?_
              refine am_iload_n (j := 3) d_RO_get_45 rfl rfl ?_
              refine am_iadd d_RO_get_46 ?_
              obtain ⟨hv, h⟩ := h
              refine am_iald d_RO_get_47 b2 t2 hv ?_
              exact am_iret d_RO_get_48 rfl rfl (by decide) (by decide) am_oI_ok
            · have h := h.2 c
              refine am_ldc (v := (-1000000 : Int32)) d_RO_get_29 aw_0_123 ?_
              exact am_iret d_RO_get_31 rfl rfl (by decide) (by decide) am_oI_ok
theorem ct_RO_get {l : Launch} {g : am_Gl} (hg : g.2.2.2.1 = true) {s : am_M} {i : Nat} {x1 : Int32} {x2 : Int32} {x3 : Int32} (h : p_RO_get s i x1 x2 x3) : AC l g m_RO_get 207 s [.ref i, .int x1, .int x2, .int x3] ((am_oI s) (f_RO_get s i x1 x2 x3)) := am_enter ok_RO_get rfl (Nat.le_of_ble_eq_true rfl) rfl (fun ad0 => w_RO_get hg h)
def f_RO_has  (s : am_M) (i : Nat) (x1 : Int32) (x2 : Int32) : Int32 := (if x1 < 0 then (0 : Int32) else (if (4 : Int32) ≤ x1 then (0 : Int32) else (if x2 < 0 then (0 : Int32) else (if (30 : Int32) ≤ x2 then (0 : Int32) else (if (s (am_lk i 1) (((x1 * (30 : Int32)) + x2)).toNatClampNeg) = 0 then (0 : Int32) else (1 : Int32))))))
def p_RO_has  (s : am_M) (i : Nat) (x1 : Int32) (x2 : Int32) : Prop := ((x1 < 0) → True) ∧ (¬ (x1 < 0) → (((4 : Int32) ≤ x1) → True) ∧ (¬ ((4 : Int32) ≤ x1) → ((x2 < 0) → True) ∧ (¬ (x2 < 0) → (((30 : Int32) ≤ x2) → True) ∧ (¬ ((30 : Int32) ≤ x2) → (i < 207 ∧ am_sh i = (0, 6, 3)) ∧ (((am_lk i 1) < 207 ∧ am_sh (am_lk i 1) = (1, 0, 120)) ∧ (vp_in ((x1 * (30 : Int32)) + x2) 120 ∧ ((((s (am_lk i 1) (((x1 * (30 : Int32)) + x2)).toNatClampNeg) = 0) → True) ∧ (¬ ((s (am_lk i 1) (((x1 * (30 : Int32)) + x2)).toNatClampNeg) = 0) → True))))))))
set_option maxRecDepth 8000 in
theorem w_RO_has {l : Launch} {g : am_Gl} (hg : g.2.2.2.1 = true) {ad0 : Nat → Nat} {s : am_M} {i : Nat} {x1 : Int32} {x2 : Int32} (h : p_RO_has s i x1 x2) : AW l g m_RO_has 207 ad0 ((am_oI s) (f_RO_has s i x1 x2)) 0 0 207 s 0 [(0, .ref i), (1, .int x1), (2, .int x2)] [] := by
  refine am_iload_n (j := 1) d_RO_has_0 rfl rfl ?_
  refine ai_lt (F := (am_oI s)) (tgt := 37) d_RO_has_1 (by decide) (fun c => ?_) (fun c => ?_)
  · have h := h.1 c
    refine am_iconst (v := (0 : Int32)) d_RO_has_37 (by decide) ?_
    exact am_iret d_RO_has_38 rfl (am_bool (Or.inl rfl)).1 (by decide) (by decide) am_oI_ok
  · have h := h.2 c
    refine am_iload_n (j := 1) d_RO_has_4 rfl rfl ?_
    refine am_iconst (v := (4 : Int32)) d_RO_has_5 (by decide) ?_
    refine aj_ge (F := (am_oI s)) (tgt := 37) d_RO_has_6 (by decide) (fun c => ?_) (fun c => ?_)
    · have h := h.1 c
      refine am_iconst (v := (0 : Int32)) d_RO_has_37 (by decide) ?_
      exact am_iret d_RO_has_38 rfl (am_bool (Or.inl rfl)).1 (by decide) (by decide) am_oI_ok
    · have h := h.2 c
      refine am_iload_n (j := 2) d_RO_has_9 rfl rfl ?_
      refine ai_lt (F := (am_oI s)) (tgt := 37) d_RO_has_10 (by decide) (fun c => ?_) (fun c => ?_)
      · have h := h.1 c
        refine am_iconst (v := (0 : Int32)) d_RO_has_37 (by decide) ?_
        exact am_iret d_RO_has_38 rfl (am_bool (Or.inl rfl)).1 (by decide) (by decide) am_oI_ok
      · have h := h.2 c
        refine am_iload_n (j := 2) d_RO_has_13 rfl rfl ?_
        refine am_bipush (v := (30 : Int32)) d_RO_has_14 (by decide) ?_
        refine aj_ge (F := (am_oI s)) (tgt := 37) d_RO_has_16 (by decide) (fun c => ?_) (fun c => ?_)
        · have h := h.1 c
          refine am_iconst (v := (0 : Int32)) d_RO_has_37 (by decide) ?_
          exact am_iret d_RO_has_38 rfl (am_bool (Or.inl rfl)).1 (by decide) (by decide) am_oI_ok
        · have h := h.2 c
          refine am_aload_n (j := 0) d_RO_has_19 rfl rfl ?_
          obtain ⟨⟨b1, t1⟩, h⟩ := h
          obtain ⟨⟨b2, t2⟩, h⟩ := h
          refine am_getR (t := (am_lk i 1)) d_RO_has_20 fl_RO_15 hg b1 t1 (by decide) rfl (am_ne0 t1) rfl b2 ?_
          refine am_iload_n (j := 1) d_RO_has_23 rfl rfl ?_
          refine am_bipush (v := (30 : Int32)) d_RO_has_24 (by decide) ?_
          refine am_imul d_RO_has_26 ?_
          refine am_iload_n (j := 2) d_RO_has_27 rfl rfl ?_
          refine am_iadd d_RO_has_28 ?_
          obtain ⟨hv, h⟩ := h
          refine am_iald d_RO_has_29 b2 t2 hv ?_
          refine ai_eq (F := (am_oI s)) (tgt := 37) d_RO_has_30 (by decide) (fun c => ?_) (fun c => ?_)
          · have h := h.1 c
            refine am_iconst (v := (0 : Int32)) d_RO_has_37 (by decide) ?_
            exact am_iret d_RO_has_38 rfl (am_bool (Or.inl rfl)).1 (by decide) (by decide) am_oI_ok
          · have h := h.2 c
            refine am_iconst (v := (1 : Int32)) d_RO_has_33 (by decide) ?_
            refine am_goto (tgt := 38) d_RO_has_34 (by decide) ?_
            exact am_iret d_RO_has_38 rfl (am_bool (Or.inr rfl)).1 (by decide) (by decide) am_oI_ok
theorem ct_RO_has {l : Launch} {g : am_Gl} (hg : g.2.2.2.1 = true) {s : am_M} {i : Nat} {x1 : Int32} {x2 : Int32} (h : p_RO_has s i x1 x2) : AC l g m_RO_has 207 s [.ref i, .int x1, .int x2] ((am_oI s) (f_RO_has s i x1 x2)) := am_enter ok_RO_has rfl (Nat.le_of_ble_eq_true rfl) rfl (fun ad0 => w_RO_has hg h)
theorem cw_RE_clear_5 : am_cv m_RE_clear m_RE_set 19 4 := ⟨⟨ok_RE_set, rfl, by decide +kernel, by decide, by decide⟩, aw_2_207, aw_2_208, aw_2_209⟩
def f_RE_clear  (s : am_M) (i : Nat) : am_M := (f_RE_set s i (0 : Int32) (-1 : Int32) (-1 : Int32) (-1 : Int32))
def p_RE_clear  (s : am_M) (i : Nat) : Prop := p_RE_set s i (0 : Int32) (-1 : Int32) (-1 : Int32) (-1 : Int32) ∧ ((i < 207 ∧ am_sh i = (0, 5, 4)) ∧ (True))
set_option maxRecDepth 8000 in
theorem w_RE_clear {l : Launch} {g : am_Gl} (hg : g.2.2.2.1 = true) {ad0 : Nat → Nat} {s : am_M} {i : Nat} (h : p_RE_clear s i) : AW l g m_RE_clear 207 ad0 (am_oM (f_RE_clear s i)) 0 0 207 s 0 [(0, .ref i)] [] := by
  refine am_aload_n (j := 0) d_RE_clear_0 rfl rfl ?_
  refine am_iconst (v := (0 : Int32)) d_RE_clear_1 (by decide) ?_
  refine am_iconst (v := (-1 : Int32)) d_RE_clear_2 (by decide) ?_
  refine am_iconst (v := (-1 : Int32)) d_RE_clear_3 (by decide) ?_
  refine am_iconst (v := (-1 : Int32)) d_RE_clear_4 (by decide) ?_
  obtain ⟨hc, h⟩ := h
  obtain ⟨⟨b1, t1⟩, h⟩ := h
  refine ak_VM (as := [.int (0 : Int32), .int (-1 : Int32), .int (-1 : Int32), .int (-1 : Int32)]) (rest := []) d_RE_clear_5 cw_RE_clear_5 rfl rfl rfl (ct_RE_set hg hc) rfl rfl b1 t1 rfl (Nat.le_of_ble_eq_true rfl) (by decide) (by decide) ?_
  exact am_vret d_RE_clear_8 rfl (by decide) (by decide) am_oM_ok
theorem ct_RE_clear {l : Launch} {g : am_Gl} (hg : g.2.2.2.1 = true) {s : am_M} {i : Nat} (h : p_RE_clear s i) : AC l g m_RE_clear 207 s [.ref i] (am_oM (f_RE_clear s i)) := am_enter ok_RE_clear rfl (Nat.le_of_ble_eq_true rfl) rfl (fun ad0 => w_RE_clear hg h)
def f_RO_repeats_95 (K57 : Nat → Int32 → Int32 → Int32 → Int32 → Int32 → Int32 → Int32) (s : am_M) (i : Nat) (x1 : Int32) (x2 : Int32) (x3 : Int32) (x4 : Int32) (x5 : Int32) (x6 : Int32) : Int32 := (K57 i x1 x2 x3 x4 x5 (x6 + (1 : Int32)))
def p_RO_repeats_95 (KP57 : Nat → Int32 → Int32 → Int32 → Int32 → Int32 → Int32 → Prop) (s : am_M) (i : Nat) (x1 : Int32) (x2 : Int32) (x3 : Int32) (x4 : Int32) (x5 : Int32) (x6 : Int32) : Prop := (KP57 i x1 x2 x3 x4 x5 (x6 + (1 : Int32)))
set_option maxRecDepth 8000 in
theorem w_RO_repeats_95 {l : Launch} {g : am_Gl} (hg : g.2.2.2.1 = true) {ad0 : Nat → Nat} {s : am_M} {K57 : Nat → Int32 → Int32 → Int32 → Int32 → Int32 → Int32 → Int32} {KP57 : Nat → Int32 → Int32 → Int32 → Int32 → Int32 → Int32 → Prop} (hK57 : ∀ (i : Nat) (x1 : Int32) (x2 : Int32) (x3 : Int32) (x4 : Int32) (x5 : Int32) (x6 : Int32), KP57 i x1 x2 x3 x4 x5 x6 → AW l g m_RO_repeats 207 ad0 ((am_oI s) (K57 i x1 x2 x3 x4 x5 x6)) 0 0 207 s 57 [(0, .ref i), (1, .int x1), (2, .int x2), (3, .int x3), (4, .int x4), (5, .int x5), (6, .int x6)] []) {i : Nat} {x1 : Int32} {x2 : Int32} {x3 : Int32} {x4 : Int32} {x5 : Int32} {x6 : Int32} (h : p_RO_repeats_95 KP57 s i x1 x2 x3 x4 x5 x6) : AW l g m_RO_repeats 207 ad0 ((am_oI s) (f_RO_repeats_95 K57 s i x1 x2 x3 x4 x5 x6)) 0 0 207 s 95 [(0, .ref i), (1, .int x1), (2, .int x2), (3, .int x3), (4, .int x4), (5, .int x5), (6, .int x6)] [] := by
  refine am_iinc (j := 6) (v := (x6 + (1 : Int32))) (lv2 := [(6, .int (x6 + (1 : Int32))), (0, .ref i), (1, .int x1), (2, .int x2), (3, .int x3), (4, .int x4), (5, .int x5)]) d_RO_repeats_95 rfl rfl (by decide) rfl ?_
  refine am_goto (tgt := 57) d_RO_repeats_98 (by decide) ?_
  refine am_sub [1, 2, 3, 4, 5, 6, 0] (lv2 := [(0, .ref i), (1, .int x1), (2, .int x2), (3, .int x3), (4, .int x4), (5, .int x5), (6, .int (x6 + (1 : Int32)))]) rfl ?_
  exact hK57 _ _ _ _ _ _ _ h
def f_RO_repeats_57  : Nat → am_M → Nat → Int32 → Int32 → Int32 → Int32 → Int32 → Int32 → Int32
  | 0, s, i, x1, x2, x3, x4, x5, x6 => 0
  | n + 1, s, i, x1, x2, x3, x4, x5, x6 => (if (x4 + x2) ≤ x6 then (0 : Int32) else (if (s (am_lk i 1) (x6).toNatClampNeg) = 0 then (f_RO_repeats_95 (f_RO_repeats_57  n s) s i x1 x2 x3 x4 x5 x6) else (if (s (am_lk i 2) (((x6 * (6 : Int32)) + x3)).toNatClampNeg) = x5 then (1 : Int32) else (f_RO_repeats_95 (f_RO_repeats_57  n s) s i x1 x2 x3 x4 x5 x6))))
def p_RO_repeats_57  : Nat → am_M → Nat → Int32 → Int32 → Int32 → Int32 → Int32 → Int32 → Prop
  | 0, s, i, x1, x2, x3, x4, x5, x6 => False
  | n + 1, s, i, x1, x2, x3, x4, x5, x6 => (((x4 + x2) ≤ x6) → True) ∧ (¬ ((x4 + x2) ≤ x6) → (i < 207 ∧ am_sh i = (0, 6, 3)) ∧ (((am_lk i 1) < 207 ∧ am_sh (am_lk i 1) = (1, 0, 120)) ∧ (vp_in x6 120 ∧ ((((s (am_lk i 1) (x6).toNatClampNeg) = 0) → (p_RO_repeats_95 (p_RO_repeats_57  n s) s i x1 x2 x3 x4 x5 x6)) ∧ (¬ ((s (am_lk i 1) (x6).toNatClampNeg) = 0) → ((am_lk i 2) < 207 ∧ am_sh (am_lk i 2) = (1, 0, 720)) ∧ (vp_in ((x6 * (6 : Int32)) + x3) 720 ∧ ((((s (am_lk i 2) (((x6 * (6 : Int32)) + x3)).toNatClampNeg) = x5) → True) ∧ (¬ ((s (am_lk i 2) (((x6 * (6 : Int32)) + x3)).toNatClampNeg) = x5) → (p_RO_repeats_95 (p_RO_repeats_57  n s) s i x1 x2 x3 x4 x5 x6)))))))))
set_option maxRecDepth 8000 in
theorem w_RO_repeats_57 {l : Launch} {g : am_Gl} (hg : g.2.2.2.1 = true) {ad0 : Nat → Nat} {s : am_M}   : ∀ (n : Nat) (i : Nat) (x1 : Int32) (x2 : Int32) (x3 : Int32) (x4 : Int32) (x5 : Int32) (x6 : Int32), p_RO_repeats_57  n s i x1 x2 x3 x4 x5 x6 → AW l g m_RO_repeats 207 ad0 ((am_oI s) (f_RO_repeats_57  n s i x1 x2 x3 x4 x5 x6)) 0 0 207 s 57 [(0, .ref i), (1, .int x1), (2, .int x2), (3, .int x3), (4, .int x4), (5, .int x5), (6, .int x6)] [] := by
  intro n
  induction n with
  | zero => intro i x1 x2 x3 x4 x5 x6 h; exact h.elim
  | succ n hK57 =>
    intro i x1 x2 x3 x4 x5 x6 h
    refine am_iload (j := 6) d_RO_repeats_57 rfl ?_
    refine am_iload (j := 4) d_RO_repeats_59 rfl ?_
    refine am_iload_n (j := 2) d_RO_repeats_61 rfl rfl ?_
    refine am_iadd d_RO_repeats_62 ?_
    refine aj_ge (F := (am_oI s)) (tgt := 101) d_RO_repeats_63 (by decide) (fun c => ?_) (fun c => ?_)
    · have h := h.1 c
      refine am_iconst (v := (0 : Int32)) d_RO_repeats_101 (by decide) ?_
      exact am_iret d_RO_repeats_102 rfl (am_bool (Or.inl rfl)).1 (by decide) (by decide) am_oI_ok
    · have h := h.2 c
      refine am_aload_n (j := 0) d_RO_repeats_66 rfl rfl ?_
      obtain ⟨⟨b1, t1⟩, h⟩ := h
      obtain ⟨⟨b2, t2⟩, h⟩ := h
      refine am_getR (t := (am_lk i 1)) d_RO_repeats_67 fl_RO_15 hg b1 t1 (by decide) rfl (am_ne0 t1) rfl b2 ?_
      refine am_iload (j := 6) d_RO_repeats_70 rfl ?_
      obtain ⟨hv, h⟩ := h
      refine am_iald d_RO_repeats_72 b2 t2 hv ?_
      refine ai_eq (F := (am_oI s)) (tgt := 95) d_RO_repeats_73 (by decide) (fun c => ?_) (fun c => ?_)
      · have h := h.1 c
        exact w_RO_repeats_95 hg hK57 h
      · have h := h.2 c
        refine am_aload_n (j := 0) d_RO_repeats_76 rfl rfl ?_
        obtain ⟨⟨b3, t3⟩, h⟩ := h
        refine am_getR (t := (am_lk i 2)) d_RO_repeats_77 fl_RO_18 hg b1 t1 (by decide) rfl (am_ne0 t1) rfl b3 ?_
        refine am_iload (j := 6) d_RO_repeats_80 rfl ?_
        refine am_bipush (v := (6 : Int32)) d_RO_repeats_82 (by decide) ?_
        refine am_imul d_RO_repeats_84 ?_
        refine am_iload_n (j := 3) d_RO_repeats_85 rfl rfl ?_
        refine am_iadd d_RO_repeats_86 ?_
        obtain ⟨hv, h⟩ := h
        refine am_iald d_RO_repeats_87 b3 t3 hv ?_
        refine am_iload (j := 5) d_RO_repeats_88 rfl ?_
        refine aj_ne (F := (am_oI s)) (tgt := 95) d_RO_repeats_90 (by decide) (fun c => ?_) (fun c => ?_)
        · have h := h.2 c
          exact w_RO_repeats_95 hg hK57 h
        · have h := h.1 c
          refine am_iconst (v := (1 : Int32)) d_RO_repeats_93 (by decide) ?_
          exact am_iret d_RO_repeats_94 rfl (am_bool (Or.inr rfl)).1 (by decide) (by decide) am_oI_ok
def f_RO_repeats  (s : am_M) (i : Nat) (x1 : Int32) (x2 : Int32) (x3 : Int32) : Int32 := (if x1 < 0 then (0 : Int32) else (if (4 : Int32) ≤ x1 then (0 : Int32) else (if x2 < 0 then (0 : Int32) else (if (30 : Int32) ≤ x2 then (0 : Int32) else (if x3 < 0 then (0 : Int32) else (if x3 < (6 : Int32) then (f_RO_repeats_57 am_F s i x1 x2 x3 (x1 * (30 : Int32)) (s (am_lk i 2) (((((x1 * (30 : Int32)) + x2) * (6 : Int32)) + x3)).toNatClampNeg) (x1 * (30 : Int32))) else (0 : Int32)))))))
def p_RO_repeats  (s : am_M) (i : Nat) (x1 : Int32) (x2 : Int32) (x3 : Int32) : Prop := ((x1 < 0) → True) ∧ (¬ (x1 < 0) → (((4 : Int32) ≤ x1) → True) ∧ (¬ ((4 : Int32) ≤ x1) → ((x2 < 0) → True) ∧ (¬ (x2 < 0) → (((30 : Int32) ≤ x2) → True) ∧ (¬ ((30 : Int32) ≤ x2) → ((x3 < 0) → True) ∧ (¬ (x3 < 0) → ((x3 < (6 : Int32)) → (i < 207 ∧ am_sh i = (0, 6, 3)) ∧ (((am_lk i 2) < 207 ∧ am_sh (am_lk i 2) = (1, 0, 720)) ∧ (vp_in ((((x1 * (30 : Int32)) + x2) * (6 : Int32)) + x3) 720 ∧ ((p_RO_repeats_57 am_F s i x1 x2 x3 (x1 * (30 : Int32)) (s (am_lk i 2) (((((x1 * (30 : Int32)) + x2) * (6 : Int32)) + x3)).toNatClampNeg) (x1 * (30 : Int32))))))) ∧ (¬ (x3 < (6 : Int32)) → True))))))
set_option maxRecDepth 8000 in
theorem w_RO_repeats {l : Launch} {g : am_Gl} (hg : g.2.2.2.1 = true) {ad0 : Nat → Nat} {s : am_M} {i : Nat} {x1 : Int32} {x2 : Int32} {x3 : Int32} (h : p_RO_repeats s i x1 x2 x3) : AW l g m_RO_repeats 207 ad0 ((am_oI s) (f_RO_repeats s i x1 x2 x3)) 0 0 207 s 0 [(0, .ref i), (1, .int x1), (2, .int x2), (3, .int x3)] [] := by
  refine am_iload_n (j := 1) d_RO_repeats_0 rfl rfl ?_
  refine ai_lt (F := (am_oI s)) (tgt := 29) d_RO_repeats_1 (by decide) (fun c => ?_) (fun c => ?_)
  · have h := h.1 c
    refine am_iconst (v := (0 : Int32)) d_RO_repeats_29 (by decide) ?_
    exact am_iret d_RO_repeats_30 rfl (am_bool (Or.inl rfl)).1 (by decide) (by decide) am_oI_ok
  · have h := h.2 c
    refine am_iload_n (j := 1) d_RO_repeats_4 rfl rfl ?_
    refine am_iconst (v := (4 : Int32)) d_RO_repeats_5 (by decide) ?_
    refine aj_ge (F := (am_oI s)) (tgt := 29) d_RO_repeats_6 (by decide) (fun c => ?_) (fun c => ?_)
    · have h := h.1 c
      refine am_iconst (v := (0 : Int32)) d_RO_repeats_29 (by decide) ?_
      exact am_iret d_RO_repeats_30 rfl (am_bool (Or.inl rfl)).1 (by decide) (by decide) am_oI_ok
    · have h := h.2 c
      refine am_iload_n (j := 2) d_RO_repeats_9 rfl rfl ?_
      refine ai_lt (F := (am_oI s)) (tgt := 29) d_RO_repeats_10 (by decide) (fun c => ?_) (fun c => ?_)
      · have h := h.1 c
        refine am_iconst (v := (0 : Int32)) d_RO_repeats_29 (by decide) ?_
        exact am_iret d_RO_repeats_30 rfl (am_bool (Or.inl rfl)).1 (by decide) (by decide) am_oI_ok
      · have h := h.2 c
        refine am_iload_n (j := 2) d_RO_repeats_13 rfl rfl ?_
        refine am_bipush (v := (30 : Int32)) d_RO_repeats_14 (by decide) ?_
        refine aj_ge (F := (am_oI s)) (tgt := 29) d_RO_repeats_16 (by decide) (fun c => ?_) (fun c => ?_)
        · have h := h.1 c
          refine am_iconst (v := (0 : Int32)) d_RO_repeats_29 (by decide) ?_
          exact am_iret d_RO_repeats_30 rfl (am_bool (Or.inl rfl)).1 (by decide) (by decide) am_oI_ok
        · have h := h.2 c
          refine am_iload_n (j := 3) d_RO_repeats_19 rfl rfl ?_
          refine ai_lt (F := (am_oI s)) (tgt := 29) d_RO_repeats_20 (by decide) (fun c => ?_) (fun c => ?_)
          · have h := h.1 c
            refine am_iconst (v := (0 : Int32)) d_RO_repeats_29 (by decide) ?_
            exact am_iret d_RO_repeats_30 rfl (am_bool (Or.inl rfl)).1 (by decide) (by decide) am_oI_ok
          · have h := h.2 c
            refine am_iload_n (j := 3) d_RO_repeats_23 rfl rfl ?_
            refine am_bipush (v := (6 : Int32)) d_RO_repeats_24 (by decide) ?_
            refine aj_lt (F := (am_oI s)) (tgt := 31) d_RO_repeats_26 (by decide) (fun c => ?_) (fun c => ?_)
            · have h := h.1 c
              refine am_iload_n (j := 1) d_RO_repeats_31 rfl rfl ?_
              refine am_bipush (v := (30 : Int32)) d_RO_repeats_32 (by decide) ?_
              refine am_imul d_RO_repeats_34 ?_
              refine am_istore (lv2 := [(4, .int (x1 * (30 : Int32))), (0, .ref i), (1, .int x1), (2, .int x2), (3, .int x3)]) d_RO_repeats_35 (by decide) rfl ?_
              refine am_aload_n (j := 1) d_RO_repeats_37 rfl rfl ?_
              obtain ⟨⟨b1, t1⟩, h⟩ := h
              obtain ⟨⟨b2, t2⟩, h⟩ := h
              refine am_getR (t := (am_lk i 2)) d_RO_repeats_38 fl_RO_18 hg b1 t1 (by decide) rfl (am_ne0 t1) rfl b2 ?_
              refine am_iload (j := 0) d_RO_repeats_41 rfl ?_
              refine am_iload_n (j := 3) d_RO_repeats_43 rfl rfl ?_
              refine am_iadd d_RO_repeats_44 ?_
              refine am_bipush (v := (6 : Int32)) d_RO_repeats_45 (by decide) ?_
              refine am_imul d_RO_repeats_47 ?_
              refine am_iload_n (j := 4) d_RO_repeats_48 rfl rfl ?_
              refine am_iadd d_RO_repeats_49 ?_
              obtain ⟨hv, h⟩ := h
              refine am_iald d_RO_repeats_50 b2 t2 hv ?_
              refine am_istore (lv2 := [(5, .int (s (am_lk i 2) (((((x1 * (30 : Int32)) + x2) * (6 : Int32)) + x3)).toNatClampNeg)), (4, .int (x1 * (30 : Int32))), (0, .ref i), (1, .int x1), (2, .int x2), (3, .int x3)]) d_RO_repeats_51 (by decide) rfl ?_
              refine am_iload (j := 1) d_RO_repeats_53 rfl ?_
              refine am_istore (lv2 := [(6, .int (x1 * (30 : Int32))), (5, .int (s (am_lk i 2) (((((x1 * (30 : Int32)) + x2) * (6 : Int32)) + x3)).toNatClampNeg)), (4, .int (x1 * (30 : Int32))), (0, .ref i), (1, .int x1), (2, .int x2), (3, .int x3)]) d_RO_repeats_55 (by decide) rfl ?_
              refine am_sub [3, 4, 5, 6, 2, 1, 0] (lv2 := [(0, .ref i), (1, .int x1), (2, .int x2), (3, .int x3), (4, .int (x1 * (30 : Int32))), (5, .int (s (am_lk i 2) (((((x1 * (30 : Int32)) + x2) * (6 : Int32)) + x3)).toNatClampNeg)), (6, .int (x1 * (30 : Int32)))]) rfl ?_
              exact w_RO_repeats_57 hg am_F _ _ _ _ _ _ _ h
            · have h := h.2 c
              refine am_iconst (v := (0 : Int32)) d_RO_repeats_29 (by decide) ?_
              exact am_iret d_RO_repeats_30 rfl (am_bool (Or.inl rfl)).1 (by decide) (by decide) am_oI_ok
theorem ct_RO_repeats {l : Launch} {g : am_Gl} (hg : g.2.2.2.1 = true) {s : am_M} {i : Nat} {x1 : Int32} {x2 : Int32} {x3 : Int32} (h : p_RO_repeats s i x1 x2 x3) : AC l g m_RO_repeats 207 s [.ref i, .int x1, .int x2, .int x3] ((am_oI s) (f_RO_repeats s i x1 x2 x3)) := am_enter ok_RO_repeats rfl (Nat.le_of_ble_eq_true rfl) rfl (fun ad0 => w_RO_repeats hg h)
def f_RU_holds_19  (s : am_M) (i : Nat) (x1 : Int32) (x2 : Int32) (y0 : Int32) : Int32 := (if x2 = (-1000000 : Int32) then (if y0 = (1 : Int32) then (1 : Int32) else (0 : Int32)) else (if y0 = (0 : Int32) then (1 : Int32) else (0 : Int32)))
def p_RU_holds_19  (s : am_M) (i : Nat) (x1 : Int32) (x2 : Int32) (y0 : Int32) : Prop := ((x2 = (-1000000 : Int32)) → ((y0 = (1 : Int32)) → True) ∧ (¬ (y0 = (1 : Int32)) → True)) ∧ (¬ (x2 = (-1000000 : Int32)) → ((y0 = (0 : Int32)) → True) ∧ (¬ (y0 = (0 : Int32)) → True))
set_option maxRecDepth 8000 in
theorem w_RU_holds_19 {l : Launch} {g : am_Gl} (hg : g.2.2.2.1 = true) {ad0 : Nat → Nat} {s : am_M}  {i : Nat} {x1 : Int32} {x2 : Int32} {y0 : Int32} (h : p_RU_holds_19  s i x1 x2 y0) : AW l g m_RU_holds 207 ad0 ((am_oI s) (f_RU_holds_19  s i x1 x2 y0)) 0 0 207 s 19 [(0, .ref i), (1, .int x1), (2, .int x2)] [.int y0] := by
  refine am_iload_n (j := 2) d_RU_holds_19 rfl rfl ?_
  refine am_ldc (v := (-1000000 : Int32)) d_RU_holds_20 aw_2_236 ?_
  refine aj_ne (F := (am_oI s)) (tgt := 29) d_RU_holds_22 (by decide) (fun c => ?_) (fun c => ?_)
  · have h := h.2 c
    refine am_iconst (v := (0 : Int32)) d_RU_holds_29 (by decide) ?_
    refine aj_ne (F := (am_oI s)) (tgt := 37) d_RU_holds_30 (by decide) (fun c => ?_) (fun c => ?_)
    · have h := h.2 c
      refine am_iconst (v := (0 : Int32)) d_RU_holds_37 (by decide) ?_
      exact am_iret d_RU_holds_38 rfl (am_bool (Or.inl rfl)).1 (by decide) (by decide) am_oI_ok
    · have h := h.1 c
      refine am_iconst (v := (1 : Int32)) d_RU_holds_33 (by decide) ?_
      refine am_goto (tgt := 38) d_RU_holds_34 (by decide) ?_
      exact am_iret d_RU_holds_38 rfl (am_bool (Or.inr rfl)).1 (by decide) (by decide) am_oI_ok
  · have h := h.1 c
    refine am_iconst (v := (1 : Int32)) d_RU_holds_25 (by decide) ?_
    refine am_goto (tgt := 30) d_RU_holds_26 (by decide) ?_
    refine aj_ne (F := (am_oI s)) (tgt := 37) d_RU_holds_30 (by decide) (fun c => ?_) (fun c => ?_)
    · have h := h.2 c
      refine am_iconst (v := (0 : Int32)) d_RU_holds_37 (by decide) ?_
      exact am_iret d_RU_holds_38 rfl (am_bool (Or.inl rfl)).1 (by decide) (by decide) am_oI_ok
    · have h := h.1 c
      refine am_iconst (v := (1 : Int32)) d_RU_holds_33 (by decide) ?_
      refine am_goto (tgt := 38) d_RU_holds_34 (by decide) ?_
      exact am_iret d_RU_holds_38 rfl (am_bool (Or.inr rfl)).1 (by decide) (by decide) am_oI_ok
def f_RU_holds_91  (s : am_M) (i : Nat) (x1 : Int32) (x2 : Int32) (y0 : Int32) : Int32 := (if (s i 2) = (1 : Int32) then (if y0 = (1 : Int32) then (1 : Int32) else (0 : Int32)) else (if y0 = (0 : Int32) then (1 : Int32) else (0 : Int32)))
def p_RU_holds_91  (s : am_M) (i : Nat) (x1 : Int32) (x2 : Int32) (y0 : Int32) : Prop := (i < 207 ∧ am_sh i = (0, 7, 6)) ∧ ((((s i 2) = (1 : Int32)) → ((y0 = (1 : Int32)) → True) ∧ (¬ (y0 = (1 : Int32)) → True)) ∧ (¬ ((s i 2) = (1 : Int32)) → ((y0 = (0 : Int32)) → True) ∧ (¬ (y0 = (0 : Int32)) → True)))
set_option maxRecDepth 8000 in
theorem w_RU_holds_91 {l : Launch} {g : am_Gl} (hg : g.2.2.2.1 = true) {ad0 : Nat → Nat} {s : am_M}  {i : Nat} {x1 : Int32} {x2 : Int32} {y0 : Int32} (h : p_RU_holds_91  s i x1 x2 y0) : AW l g m_RU_holds 207 ad0 ((am_oI s) (f_RU_holds_91  s i x1 x2 y0)) 0 0 207 s 91 [(0, .ref i), (1, .int x1), (2, .int x2)] [.int y0] := by
  refine am_aload_n (j := 0) d_RU_holds_91 rfl rfl ?_
  obtain ⟨⟨b1, t1⟩, h⟩ := h
  refine am_getI d_RU_holds_92 fl_RU_25 b1 t1 (by decide) rfl ?_
  refine am_iconst (v := (1 : Int32)) d_RU_holds_95 (by decide) ?_
  refine aj_ne (F := (am_oI s)) (tgt := 103) d_RU_holds_96 (by decide) (fun c => ?_) (fun c => ?_)
  · have h := h.2 c
    refine am_iconst (v := (0 : Int32)) d_RU_holds_103 (by decide) ?_
    refine aj_ne (F := (am_oI s)) (tgt := 111) d_RU_holds_104 (by decide) (fun c => ?_) (fun c => ?_)
    · have h := h.2 c
      refine am_iconst (v := (0 : Int32)) d_RU_holds_111 (by decide) ?_
      exact am_iret d_RU_holds_112 rfl (am_bool (Or.inl rfl)).1 (by decide) (by decide) am_oI_ok
    · have h := h.1 c
      refine am_iconst (v := (1 : Int32)) d_RU_holds_107 (by decide) ?_
      refine am_goto (tgt := 112) d_RU_holds_108 (by decide) ?_
      exact am_iret d_RU_holds_112 rfl (am_bool (Or.inr rfl)).1 (by decide) (by decide) am_oI_ok
  · have h := h.1 c
    refine am_iconst (v := (1 : Int32)) d_RU_holds_99 (by decide) ?_
    refine am_goto (tgt := 104) d_RU_holds_100 (by decide) ?_
    refine aj_ne (F := (am_oI s)) (tgt := 111) d_RU_holds_104 (by decide) (fun c => ?_) (fun c => ?_)
    · have h := h.2 c
      refine am_iconst (v := (0 : Int32)) d_RU_holds_111 (by decide) ?_
      exact am_iret d_RU_holds_112 rfl (am_bool (Or.inl rfl)).1 (by decide) (by decide) am_oI_ok
    · have h := h.1 c
      refine am_iconst (v := (1 : Int32)) d_RU_holds_107 (by decide) ?_
      refine am_goto (tgt := 112) d_RU_holds_108 (by decide) ?_
      exact am_iret d_RU_holds_112 rfl (am_bool (Or.inr rfl)).1 (by decide) (by decide) am_oI_ok
def f_RU_holds  (s : am_M) (i : Nat) (x1 : Int32) (x2 : Int32) : Int32 := (if (s i 2) = (3 : Int32) then (if x1 = (-1000000 : Int32) then (f_RU_holds_19 s i x1 x2 (1 : Int32)) else (f_RU_holds_19 s i x1 x2 (0 : Int32))) else (if x1 = (-1000000 : Int32) then (1 : Int32) else (if x2 = (-1000000 : Int32) then (1 : Int32) else (if (s i 2) = 0 then (if (x2 + (s i 4)) < x1 then (0 : Int32) else (1 : Int32)) else (if x1 = (x2 + (s i 4)) then (f_RU_holds_91 s i x1 x2 (1 : Int32)) else (f_RU_holds_91 s i x1 x2 (0 : Int32)))))))
def p_RU_holds  (s : am_M) (i : Nat) (x1 : Int32) (x2 : Int32) : Prop := (i < 207 ∧ am_sh i = (0, 7, 6)) ∧ ((((s i 2) = (3 : Int32)) → ((x1 = (-1000000 : Int32)) → (p_RU_holds_19 s i x1 x2 (1 : Int32))) ∧ (¬ (x1 = (-1000000 : Int32)) → (p_RU_holds_19 s i x1 x2 (0 : Int32)))) ∧ (¬ ((s i 2) = (3 : Int32)) → ((x1 = (-1000000 : Int32)) → True) ∧ (¬ (x1 = (-1000000 : Int32)) → ((x2 = (-1000000 : Int32)) → True) ∧ (¬ (x2 = (-1000000 : Int32)) → (((s i 2) = 0) → (((x2 + (s i 4)) < x1) → True) ∧ (¬ ((x2 + (s i 4)) < x1) → True)) ∧ (¬ ((s i 2) = 0) → ((x1 = (x2 + (s i 4))) → (p_RU_holds_91 s i x1 x2 (1 : Int32))) ∧ (¬ (x1 = (x2 + (s i 4))) → (p_RU_holds_91 s i x1 x2 (0 : Int32))))))))
set_option maxRecDepth 8000 in
theorem w_RU_holds {l : Launch} {g : am_Gl} (hg : g.2.2.2.1 = true) {ad0 : Nat → Nat} {s : am_M} {i : Nat} {x1 : Int32} {x2 : Int32} (h : p_RU_holds s i x1 x2) : AW l g m_RU_holds 207 ad0 ((am_oI s) (f_RU_holds s i x1 x2)) 0 0 207 s 0 [(0, .ref i), (1, .int x1), (2, .int x2)] [] := by
  refine am_aload_n (j := 0) d_RU_holds_0 rfl rfl ?_
  obtain ⟨⟨b1, t1⟩, h⟩ := h
  refine am_getI d_RU_holds_1 fl_RU_25 b1 t1 (by decide) rfl ?_
  refine am_iconst (v := (3 : Int32)) d_RU_holds_4 (by decide) ?_
  refine aj_ne (F := (am_oI s)) (tgt := 39) d_RU_holds_5 (by decide) (fun c => ?_) (fun c => ?_)
  · have h := h.2 c
    refine am_iload_n (j := 1) d_RU_holds_39 rfl rfl ?_
    refine am_ldc (v := (-1000000 : Int32)) d_RU_holds_40 aw_2_236 ?_
    refine aj_eq (F := (am_oI s)) (tgt := 51) d_RU_holds_42 (by decide) (fun c => ?_) (fun c => ?_)
    · have h := h.1 c
      refine am_iconst (v := (1 : Int32)) d_RU_holds_51 (by decide) ?_
      exact am_iret d_RU_holds_52 rfl (am_bool (Or.inr rfl)).1 (by decide) (by decide) am_oI_ok
    · have h := h.2 c
      refine am_iload_n (j := 2) d_RU_holds_45 rfl rfl ?_
      refine am_ldc (v := (-1000000 : Int32)) d_RU_holds_46 aw_2_236 ?_
      refine aj_ne (F := (am_oI s)) (tgt := 53) d_RU_holds_48 (by decide) (fun c => ?_) (fun c => ?_)
      · have h := h.2 c
        refine am_aload_n (j := 0) d_RU_holds_53 rfl rfl ?_
        refine am_getI d_RU_holds_54 fl_RU_25 b1 t1 (by decide) rfl ?_
        refine ai_ne (F := (am_oI s)) (tgt := 76) d_RU_holds_57 (by decide) (fun c => ?_) (fun c => ?_)
        · have h := h.2 c
          refine am_iload_n (j := 1) d_RU_holds_76 rfl rfl ?_
          refine am_iload_n (j := 2) d_RU_holds_77 rfl rfl ?_
          refine am_aload_n (j := 0) d_RU_holds_78 rfl rfl ?_
          refine am_getI d_RU_holds_79 fl_RU_29 b1 t1 (by decide) rfl ?_
          refine am_iadd d_RU_holds_82 ?_
          refine aj_ne (F := (am_oI s)) (tgt := 90) d_RU_holds_83 (by decide) (fun c => ?_) (fun c => ?_)
          · have h := h.2 c
            refine am_iconst (v := (0 : Int32)) d_RU_holds_90 (by decide) ?_
            exact w_RU_holds_91 hg h
          · have h := h.1 c
            refine am_iconst (v := (1 : Int32)) d_RU_holds_86 (by decide) ?_
            refine am_goto (tgt := 91) d_RU_holds_87 (by decide) ?_
            exact w_RU_holds_91 hg h
        · have h := h.1 c
          refine am_iload_n (j := 1) d_RU_holds_60 rfl rfl ?_
          refine am_iload_n (j := 2) d_RU_holds_61 rfl rfl ?_
          refine am_aload_n (j := 0) d_RU_holds_62 rfl rfl ?_
          refine am_getI d_RU_holds_63 fl_RU_29 b1 t1 (by decide) rfl ?_
          refine am_iadd d_RU_holds_66 ?_
          refine aj_gt (F := (am_oI s)) (tgt := 74) d_RU_holds_67 (by decide) (fun c => ?_) (fun c => ?_)
          · have h := h.1 c
            refine am_iconst (v := (0 : Int32)) d_RU_holds_74 (by decide) ?_
            exact am_iret d_RU_holds_75 rfl (am_bool (Or.inl rfl)).1 (by decide) (by decide) am_oI_ok
          · have h := h.2 c
            refine am_iconst (v := (1 : Int32)) d_RU_holds_70 (by decide) ?_
            refine am_goto (tgt := 75) d_RU_holds_71 (by decide) ?_
            exact am_iret d_RU_holds_75 rfl (am_bool (Or.inr rfl)).1 (by decide) (by decide) am_oI_ok
      · have h := h.1 c
        refine am_iconst (v := (1 : Int32)) d_RU_holds_51 (by decide) ?_
        exact am_iret d_RU_holds_52 rfl (am_bool (Or.inr rfl)).1 (by decide) (by decide) am_oI_ok
  · have h := h.1 c
    refine am_iload_n (j := 1) d_RU_holds_8 rfl rfl ?_
    refine am_ldc (v := (-1000000 : Int32)) d_RU_holds_9 aw_2_236 ?_
    refine aj_ne (F := (am_oI s)) (tgt := 18) d_RU_holds_11 (by decide) (fun c => ?_) (fun c => ?_)
    · have h := h.2 c
      refine am_iconst (v := (0 : Int32)) d_RU_holds_18 (by decide) ?_
      exact w_RU_holds_19 hg h
    · have h := h.1 c
      refine am_iconst (v := (1 : Int32)) d_RU_holds_14 (by decide) ?_
      refine am_goto (tgt := 19) d_RU_holds_15 (by decide) ?_
      exact w_RU_holds_19 hg h
theorem ct_RU_holds {l : Launch} {g : am_Gl} (hg : g.2.2.2.1 = true) {s : am_M} {i : Nat} {x1 : Int32} {x2 : Int32} (h : p_RU_holds s i x1 x2) : AC l g m_RU_holds 207 s [.ref i, .int x1, .int x2] ((am_oI s) (f_RU_holds s i x1 x2)) := am_enter ok_RU_holds rfl (Nat.le_of_ble_eq_true rfl) rfl (fun ad0 => w_RU_holds hg h)
def f_CO_setFormula  (s : am_M) (i : Nat) (x1 : Int32) (x2 : Int32) (x3 : Int32) (x4 : Int32) : am_M := (am_set (am_set (am_set (am_set s i 7 x1) i 8 x2) i 9 x3) i 10 x4)
def p_CO_setFormula  (s : am_M) (i : Nat) (x1 : Int32) (x2 : Int32) (x3 : Int32) (x4 : Int32) : Prop := (i < 207 ∧ am_sh i = (0, 3, 11)) ∧ (True)
set_option maxRecDepth 8000 in
theorem w_CO_setFormula {l : Launch} {g : am_Gl} (hg : g.2.2.2.1 = true) {ad0 : Nat → Nat} {s : am_M} {i : Nat} {x1 : Int32} {x2 : Int32} {x3 : Int32} {x4 : Int32} (h : p_CO_setFormula s i x1 x2 x3 x4) : AW l g m_CO_setFormula 207 ad0 (am_oM (f_CO_setFormula s i x1 x2 x3 x4)) 0 0 207 s 0 [(0, .ref i), (1, .int x1), (2, .int x2), (3, .int x3), (4, .int x4)] [] := by
  refine am_aload_n (j := 0) d_CO_setFormula_0 rfl rfl ?_
  refine am_iload_n (j := 1) d_CO_setFormula_1 rfl rfl ?_
  obtain ⟨⟨b1, t1⟩, h⟩ := h
  refine am_putI (ty := .int) d_CO_setFormula_2 fl_CO_13 ft_3_7 b1 t1 (by decide) rfl rfl rfl ?_
  refine am_aload_n (j := 0) d_CO_setFormula_5 rfl rfl ?_
  refine am_iload_n (j := 2) d_CO_setFormula_6 rfl rfl ?_
  refine am_putI (ty := .int) d_CO_setFormula_7 fl_CO_16 ft_3_8 b1 t1 (by decide) rfl rfl rfl ?_
  refine am_aload_n (j := 0) d_CO_setFormula_10 rfl rfl ?_
  refine am_iload_n (j := 3) d_CO_setFormula_11 rfl rfl ?_
  refine am_putI (ty := .int) d_CO_setFormula_12 fl_CO_19 ft_3_9 b1 t1 (by decide) rfl rfl rfl ?_
  refine am_aload_n (j := 0) d_CO_setFormula_15 rfl rfl ?_
  refine am_iload (j := 4) d_CO_setFormula_16 rfl ?_
  refine am_putI (ty := .int) d_CO_setFormula_18 fl_CO_22 ft_3_10 b1 t1 (by decide) rfl rfl rfl ?_
  exact am_vret d_CO_setFormula_21 rfl (by decide) (by decide) am_oM_ok
theorem ct_CO_setFormula {l : Launch} {g : am_Gl} (hg : g.2.2.2.1 = true) {s : am_M} {i : Nat} {x1 : Int32} {x2 : Int32} {x3 : Int32} {x4 : Int32} (h : p_CO_setFormula s i x1 x2 x3 x4) : AC l g m_CO_setFormula 207 s [.ref i, .int x1, .int x2, .int x3, .int x4] (am_oM (f_CO_setFormula s i x1 x2 x3 x4)) := am_enter ok_CO_setFormula rfl (Nat.le_of_ble_eq_true rfl) rfl (fun ad0 => w_CO_setFormula hg h)
theorem cw_RE_copyFrom_17 : am_cv m_RE_copyFrom m_RE_set 19 4 := ⟨⟨ok_RE_set, rfl, by decide +kernel, by decide, by decide⟩, aw_2_207, aw_2_208, aw_2_209⟩
def f_RE_copyFrom  (s : am_M) (i : Nat) (x1 : Nat) : am_M := (f_RE_set s i (s x1 0) (s x1 1) (s x1 2) (s x1 3))
def p_RE_copyFrom  (s : am_M) (i : Nat) (x1 : Nat) : Prop := (x1 < 207 ∧ am_sh x1 = (0, 5, 4)) ∧ (p_RE_set s i (s x1 0) (s x1 1) (s x1 2) (s x1 3) ∧ ((i < 207 ∧ am_sh i = (0, 5, 4)) ∧ (True)))
set_option maxRecDepth 8000 in
theorem w_RE_copyFrom {l : Launch} {g : am_Gl} (hg : g.2.2.2.1 = true) {ad0 : Nat → Nat} {s : am_M} {i : Nat} {x1 : Nat} (h : p_RE_copyFrom s i x1) : AW l g m_RE_copyFrom 207 ad0 (am_oM (f_RE_copyFrom s i x1)) 0 0 207 s 0 [(0, .ref i), (1, .ref x1)] [] := by
  refine am_aload_n (j := 0) d_RE_copyFrom_0 rfl rfl ?_
  refine am_aload_n (j := 1) d_RE_copyFrom_1 rfl rfl ?_
  obtain ⟨⟨b1, t1⟩, h⟩ := h
  refine am_getI d_RE_copyFrom_2 fl_RE_23 b1 t1 (by decide) rfl ?_
  refine am_aload_n (j := 1) d_RE_copyFrom_5 rfl rfl ?_
  refine am_getI d_RE_copyFrom_6 fl_RE_7 b1 t1 (by decide) rfl ?_
  refine am_aload_n (j := 1) d_RE_copyFrom_9 rfl rfl ?_
  refine am_getI d_RE_copyFrom_10 fl_RE_13 b1 t1 (by decide) rfl ?_
  refine am_aload_n (j := 1) d_RE_copyFrom_13 rfl rfl ?_
  refine am_getI d_RE_copyFrom_14 fl_RE_16 b1 t1 (by decide) rfl ?_
  obtain ⟨hc, h⟩ := h
  obtain ⟨⟨b2, t2⟩, h⟩ := h
  refine ak_VM (as := [.int (s x1 0), .int (s x1 1), .int (s x1 2), .int (s x1 3)]) (rest := []) d_RE_copyFrom_17 cw_RE_copyFrom_17 rfl rfl rfl (ct_RE_set hg hc) rfl rfl b2 t2 rfl (Nat.le_of_ble_eq_true rfl) (by decide) (by decide) ?_
  exact am_vret d_RE_copyFrom_20 rfl (by decide) (by decide) am_oM_ok
theorem ct_RE_copyFrom {l : Launch} {g : am_Gl} (hg : g.2.2.2.1 = true) {s : am_M} {i : Nat} {x1 : Nat} (h : p_RE_copyFrom s i x1) : AC l g m_RE_copyFrom 207 s [.ref i, .ref x1] (am_oM (f_RE_copyFrom s i x1)) := am_enter ok_RE_copyFrom rfl (Nat.le_of_ble_eq_true rfl) rfl (fun ad0 => w_RE_copyFrom hg h)
def f_QU_meets  (s : am_M) (x0 : Int32) (x1 : Int32) (x2 : Int32) : Int32 := (if x0 = (0 : Int32) then (if x1 = x2 then (1 : Int32) else (0 : Int32)) else (if x0 = (1 : Int32) then (if x1 < x2 then (0 : Int32) else (1 : Int32)) else (if x0 = (2 : Int32) then (if x1 = (-1000000 : Int32) then (0 : Int32) else (if x2 < x1 then (0 : Int32) else (1 : Int32))) else (if x1 = (-1000000 : Int32) then (1 : Int32) else (0 : Int32)))))
def p_QU_meets  (s : am_M) (x0 : Int32) (x1 : Int32) (x2 : Int32) : Prop := ((x0 = (0 : Int32)) → ((x1 = x2) → True) ∧ (¬ (x1 = x2) → True)) ∧ (¬ (x0 = (0 : Int32)) → ((x0 = (1 : Int32)) → ((x1 < x2) → True) ∧ (¬ (x1 < x2) → True)) ∧ (¬ (x0 = (1 : Int32)) → ((x0 = (2 : Int32)) → ((x1 = (-1000000 : Int32)) → True) ∧ (¬ (x1 = (-1000000 : Int32)) → ((x2 < x1) → True) ∧ (¬ (x2 < x1) → True))) ∧ (¬ (x0 = (2 : Int32)) → ((x1 = (-1000000 : Int32)) → True) ∧ (¬ (x1 = (-1000000 : Int32)) → True))))
set_option maxRecDepth 8000 in
theorem w_QU_meets {l : Launch} {g : am_Gl} (hg : g.2.2.2.1 = true) {ad0 : Nat → Nat} {s : am_M} {x0 : Int32} {x1 : Int32} {x2 : Int32} : AW l g m_QU_meets 207 ad0 ((am_oI s) (f_QU_meets s x0 x1 x2)) 0 0 207 s 0 [(0, .int x0), (1, .int x1), (2, .int x2)] [] := by
  have h : p_QU_meets s x0 x1 x2 := by
    unfold p_QU_meets
    first | exact trivial | simp
  refine am_iload_n (j := 0) d_QU_meets_0 rfl rfl ?_
  refine am_case (F := (am_oI s)) (c := (0 : Int32)) (fun c => ?_) (fun c => ?_)
  · have h := h.1 c
    refine am_tableIn (off := (27 : Int)) (tgt := 28) d_QU_meets_1 (by rw [c]; decide) (by rw [c]; decide) (by rw [c]; rfl) (by decide) ?_
    refine am_iload_n (j := 1) d_QU_meets_28 rfl rfl ?_
    refine am_iload_n (j := 2) d_QU_meets_29 rfl rfl ?_
    refine aj_ne (F := (am_oI s)) (tgt := 37) d_QU_meets_30 (by decide) (fun c => ?_) (fun c => ?_)
    · have h := h.2 c
      refine am_iconst (v := (0 : Int32)) d_QU_meets_37 (by decide) ?_
      exact am_iret d_QU_meets_38 rfl (am_bool (Or.inl rfl)).1 (by decide) (by decide) am_oI_ok
    · have h := h.1 c
      refine am_iconst (v := (1 : Int32)) d_QU_meets_33 (by decide) ?_
      refine am_goto (tgt := 38) d_QU_meets_34 (by decide) ?_
      exact am_iret d_QU_meets_38 rfl (am_bool (Or.inr rfl)).1 (by decide) (by decide) am_oI_ok
  · have h := h.2 c
    have n0 := c
    refine am_case (F := (am_oI s)) (c := (1 : Int32)) (fun c => ?_) (fun c => ?_)
    · have h := h.1 c
      refine am_tableIn (off := (38 : Int)) (tgt := 39) d_QU_meets_1 (by rw [c]; decide) (by rw [c]; decide) (by rw [c]; rfl) (by decide) ?_
      refine am_iload_n (j := 1) d_QU_meets_39 rfl rfl ?_
      refine am_iload_n (j := 2) d_QU_meets_40 rfl rfl ?_
      refine aj_lt (F := (am_oI s)) (tgt := 48) d_QU_meets_41 (by decide) (fun c => ?_) (fun c => ?_)
      · have h := h.1 c
        refine am_iconst (v := (0 : Int32)) d_QU_meets_48 (by decide) ?_
        exact am_iret d_QU_meets_49 rfl (am_bool (Or.inl rfl)).1 (by decide) (by decide) am_oI_ok
      · have h := h.2 c
        refine am_iconst (v := (1 : Int32)) d_QU_meets_44 (by decide) ?_
        refine am_goto (tgt := 49) d_QU_meets_45 (by decide) ?_
        exact am_iret d_QU_meets_49 rfl (am_bool (Or.inr rfl)).1 (by decide) (by decide) am_oI_ok
    · have h := h.2 c
      have n1 := c
      refine am_case (F := (am_oI s)) (c := (2 : Int32)) (fun c => ?_) (fun c => ?_)
      · have h := h.1 c
        refine am_tableIn (off := (49 : Int)) (tgt := 50) d_QU_meets_1 (by rw [c]; decide) (by rw [c]; decide) (by rw [c]; rfl) (by decide) ?_
        refine am_iload_n (j := 1) d_QU_meets_50 rfl rfl ?_
        refine am_ldc (v := (-1000000 : Int32)) d_QU_meets_51 aw_3_150 ?_
        refine aj_eq (F := (am_oI s)) (tgt := 65) d_QU_meets_53 (by decide) (fun c => ?_) (fun c => ?_)
        · have h := h.1 c
          refine am_iconst (v := (0 : Int32)) d_QU_meets_65 (by decide) ?_
          exact am_iret d_QU_meets_66 rfl (am_bool (Or.inl rfl)).1 (by decide) (by decide) am_oI_ok
        · have h := h.2 c
          refine am_iload_n (j := 1) d_QU_meets_56 rfl rfl ?_
          refine am_iload_n (j := 2) d_QU_meets_57 rfl rfl ?_
          refine aj_gt (F := (am_oI s)) (tgt := 65) d_QU_meets_58 (by decide) (fun c => ?_) (fun c => ?_)
          · have h := h.1 c
            refine am_iconst (v := (0 : Int32)) d_QU_meets_65 (by decide) ?_
            exact am_iret d_QU_meets_66 rfl (am_bool (Or.inl rfl)).1 (by decide) (by decide) am_oI_ok
          · have h := h.2 c
            refine am_iconst (v := (1 : Int32)) d_QU_meets_61 (by decide) ?_
            refine am_goto (tgt := 66) d_QU_meets_62 (by decide) ?_
            exact am_iret d_QU_meets_66 rfl (am_bool (Or.inr rfl)).1 (by decide) (by decide) am_oI_ok
      · have h := h.2 c
        have n2 := c
        refine am_tableOut (tgt := 67) d_QU_meets_1 (am_out5 (fun j j1 j2 e => ?_)) (by decide) ?_
        · exact am_sw3 j1 j2 e n0 n1 n2
        refine am_iload_n (j := 1) d_QU_meets_67 rfl rfl ?_
        refine am_ldc (v := (-1000000 : Int32)) d_QU_meets_68 aw_3_150 ?_
        refine aj_ne (F := (am_oI s)) (tgt := 77) d_QU_meets_70 (by decide) (fun c => ?_) (fun c => ?_)
        · have h := h.2 c
          refine am_iconst (v := (0 : Int32)) d_QU_meets_77 (by decide) ?_
          exact am_iret d_QU_meets_78 rfl (am_bool (Or.inl rfl)).1 (by decide) (by decide) am_oI_ok
        · have h := h.1 c
          refine am_iconst (v := (1 : Int32)) d_QU_meets_73 (by decide) ?_
          refine am_goto (tgt := 78) d_QU_meets_74 (by decide) ?_
          exact am_iret d_QU_meets_78 rfl (am_bool (Or.inr rfl)).1 (by decide) (by decide) am_oI_ok
theorem ct_QU_meets {l : Launch} {g : am_Gl} (hg : g.2.2.2.1 = true) {s : am_M} {x0 : Int32} {x1 : Int32} {x2 : Int32} : AC l g m_QU_meets 207 s [.int x0, .int x1, .int x2] ((am_oI s) (f_QU_meets s x0 x1 x2)) := am_enter ok_QU_meets rfl (Nat.le_of_ble_eq_true rfl) rfl (fun ad0 => w_QU_meets hg)
def f_QU_originOf  (s : am_M) (i : Nat) (x1 : Int32) : Int32 := (if x1 < 0 then (-1 : Int32) else (if x1 < (54 : Int32) then (s (am_lk i 10) (x1).toNatClampNeg) else (-1 : Int32)))
def p_QU_originOf  (s : am_M) (i : Nat) (x1 : Int32) : Prop := ((x1 < 0) → True) ∧ (¬ (x1 < 0) → ((x1 < (54 : Int32)) → (i < 207 ∧ am_sh i = (0, 4, 17)) ∧ (((am_lk i 10) < 207 ∧ am_sh (am_lk i 10) = (1, 0, 54)) ∧ (vp_in x1 54 ∧ (True)))) ∧ (¬ (x1 < (54 : Int32)) → True))
set_option maxRecDepth 8000 in
theorem w_QU_originOf {l : Launch} {g : am_Gl} (hg : g.2.2.2.1 = true) {ad0 : Nat → Nat} {s : am_M} {i : Nat} {x1 : Int32} (h : p_QU_originOf s i x1) : AW l g m_QU_originOf 207 ad0 ((am_oI s) (f_QU_originOf s i x1)) 0 0 207 s 0 [(0, .ref i), (1, .int x1)] [] := by
  refine am_iload_n (j := 1) d_QU_originOf_0 rfl rfl ?_
  refine ai_lt (F := (am_oI s)) (tgt := 10) d_QU_originOf_1 (by decide) (fun c => ?_) (fun c => ?_)
  · have h := h.1 c
    refine am_iconst (v := (-1 : Int32)) d_QU_originOf_10 (by decide) ?_
    refine am_goto (tgt := 20) d_QU_originOf_11 (by decide) ?_
    exact am_iret d_QU_originOf_20 rfl rfl (by decide) (by decide) am_oI_ok
  · have h := h.2 c
    refine am_iload_n (j := 1) d_QU_originOf_4 rfl rfl ?_
    refine am_bipush (v := (54 : Int32)) d_QU_originOf_5 (by decide) ?_
    refine aj_lt (F := (am_oI s)) (tgt := 14) d_QU_originOf_7 (by decide) (fun c => ?_) (fun c => ?_)
    · have h := h.1 c
      refine am_aload_n (j := 0) d_QU_originOf_14 rfl rfl ?_
      obtain ⟨⟨b1, t1⟩, h⟩ := h
      obtain ⟨⟨b2, t2⟩, h⟩ := h
      refine am_getR (t := (am_lk i 10)) d_QU_originOf_15 fl_QU_27 hg b1 t1 (by decide) rfl (am_ne0 t1) rfl b2 ?_
      refine am_iload_n (j := 1) d_QU_originOf_18 rfl rfl ?_
      obtain ⟨hv, h⟩ := h
      refine am_iald d_QU_originOf_19 b2 t2 hv ?_
      exact am_iret d_QU_originOf_20 rfl rfl (by decide) (by decide) am_oI_ok
    · have h := h.2 c
      refine am_iconst (v := (-1 : Int32)) d_QU_originOf_10 (by decide) ?_
      refine am_goto (tgt := 20) d_QU_originOf_11 (by decide) ?_
      exact am_iret d_QU_originOf_20 rfl rfl (by decide) (by decide) am_oI_ok
theorem ct_QU_originOf {l : Launch} {g : am_Gl} (hg : g.2.2.2.1 = true) {s : am_M} {i : Nat} {x1 : Int32} (h : p_QU_originOf s i x1) : AC l g m_QU_originOf 207 s [.ref i, .int x1] ((am_oI s) (f_QU_originOf s i x1)) := am_enter ok_QU_originOf rfl (Nat.le_of_ble_eq_true rfl) rfl (fun ad0 => w_QU_originOf hg h)
def f_QU_addTableColumns_2  : Nat → am_M → Nat → Int32 → Int32 → Int32 → am_M
  | 0, s, i, x1, x2, x3 => s
  | n + 1, s, i, x1, x2, x3 => (if x2 ≤ x3 then (am_set s i 9 ((s i 9) + (1 : Int32))) else (if (54 : Int32) ≤ (s i 7) then (am_set s i 9 ((s i 9) + (1 : Int32))) else ((f_QU_addTableColumns_2  n) (am_set (am_set (am_set s (am_lk i 10) ((s i 7)).toNatClampNeg (((10 : Int32) * x1) + x3)) (am_lk i 11) (((am_set s (am_lk i 10) ((s i 7)).toNatClampNeg (((10 : Int32) * x1) + x3)) i 7)).toNatClampNeg ((am_set s (am_lk i 10) ((s i 7)).toNatClampNeg (((10 : Int32) * x1) + x3)) i 9)) i 7 (((am_set (am_set s (am_lk i 10) ((s i 7)).toNatClampNeg (((10 : Int32) * x1) + x3)) (am_lk i 11) (((am_set s (am_lk i 10) ((s i 7)).toNatClampNeg (((10 : Int32) * x1) + x3)) i 7)).toNatClampNeg ((am_set s (am_lk i 10) ((s i 7)).toNatClampNeg (((10 : Int32) * x1) + x3)) i 9)) i 7) + (1 : Int32))) i x1 x2 (x3 + (1 : Int32)))))
def p_QU_addTableColumns_2  : Nat → am_M → Nat → Int32 → Int32 → Int32 → Prop
  | 0, s, i, x1, x2, x3 => False
  | n + 1, s, i, x1, x2, x3 => ((x2 ≤ x3) → (i < 207 ∧ am_sh i = (0, 4, 17)) ∧ (True)) ∧ (¬ (x2 ≤ x3) → (i < 207 ∧ am_sh i = (0, 4, 17)) ∧ ((((54 : Int32) ≤ (s i 7)) → True) ∧ (¬ ((54 : Int32) ≤ (s i 7)) → ((am_lk i 10) < 207 ∧ am_sh (am_lk i 10) = (1, 0, 54)) ∧ (vp_in (s i 7) 54 ∧ (((am_lk i 11) < 207 ∧ am_sh (am_lk i 11) = (1, 0, 54)) ∧ (vp_in ((am_set s (am_lk i 10) ((s i 7)).toNatClampNeg (((10 : Int32) * x1) + x3)) i 7) 54 ∧ (((p_QU_addTableColumns_2  n) (am_set (am_set (am_set s (am_lk i 10) ((s i 7)).toNatClampNeg (((10 : Int32) * x1) + x3)) (am_lk i 11) (((am_set s (am_lk i 10) ((s i 7)).toNatClampNeg (((10 : Int32) * x1) + x3)) i 7)).toNatClampNeg ((am_set s (am_lk i 10) ((s i 7)).toNatClampNeg (((10 : Int32) * x1) + x3)) i 9)) i 7 (((am_set (am_set s (am_lk i 10) ((s i 7)).toNatClampNeg (((10 : Int32) * x1) + x3)) (am_lk i 11) (((am_set s (am_lk i 10) ((s i 7)).toNatClampNeg (((10 : Int32) * x1) + x3)) i 7)).toNatClampNeg ((am_set s (am_lk i 10) ((s i 7)).toNatClampNeg (((10 : Int32) * x1) + x3)) i 9)) i 7) + (1 : Int32))) i x1 x2 (x3 + (1 : Int32))))))))))
set_option maxRecDepth 8000 in
theorem w_QU_addTableColumns_2 {l : Launch} {g : am_Gl} (hg : g.2.2.2.1 = true) {ad0 : Nat → Nat}   : ∀ (n : Nat) (s : am_M) (i : Nat) (x1 : Int32) (x2 : Int32) (x3 : Int32), p_QU_addTableColumns_2  n s i x1 x2 x3 → AW l g m_QU_addTableColumns 207 ad0 (am_oM (f_QU_addTableColumns_2  n s i x1 x2 x3)) 0 0 207 s 2 [(0, .ref i), (1, .int x1), (2, .int x2), (3, .int x3)] [] := by
  intro n
  induction n with
  | zero => intro s i x1 x2 x3 h; exact h.elim
  | succ n hK2 =>
    intro s i x1 x2 x3 h
    refine am_iload_n (j := 3) d_QU_addTableColumns_2 rfl rfl ?_
    refine am_iload_n (j := 2) d_QU_addTableColumns_3 rfl rfl ?_
    refine aj_ge (F := am_oM) (tgt := 60) d_QU_addTableColumns_4 (by decide) (fun c => ?_) (fun c => ?_)
    · have h := h.1 c
      refine am_aload_n (j := 0) d_QU_addTableColumns_60 rfl rfl ?_
      refine am_dup d_QU_addTableColumns_61 rfl ?_
      obtain ⟨⟨b1, t1⟩, h⟩ := h
      refine am_getI d_QU_addTableColumns_62 fl_QU_55 b1 t1 (by decide) rfl ?_
      refine am_iconst (v := (1 : Int32)) d_QU_addTableColumns_65 (by decide) ?_
      refine am_iadd d_QU_addTableColumns_66 ?_
      refine am_putI (ty := .int) d_QU_addTableColumns_67 fl_QU_55 ft_4_9 b1 t1 (by decide) rfl rfl rfl ?_
      exact am_vret d_QU_addTableColumns_70 rfl (by decide) (by decide) am_oM_ok
    · have h := h.2 c
      refine am_aload_n (j := 0) d_QU_addTableColumns_7 rfl rfl ?_
      obtain ⟨⟨b2, t2⟩, h⟩ := h
      refine am_getI d_QU_addTableColumns_8 fl_QU_52 b2 t2 (by decide) rfl ?_
      refine am_bipush (v := (54 : Int32)) d_QU_addTableColumns_11 (by decide) ?_
      refine aj_ge (F := am_oM) (tgt := 60) d_QU_addTableColumns_13 (by decide) (fun c => ?_) (fun c => ?_)
      · have h := h.1 c
        refine am_aload_n (j := 0) d_QU_addTableColumns_60 rfl rfl ?_
        refine am_dup d_QU_addTableColumns_61 rfl ?_
        refine am_getI d_QU_addTableColumns_62 fl_QU_55 b2 t2 (by decide) rfl ?_
        refine am_iconst (v := (1 : Int32)) d_QU_addTableColumns_65 (by decide) ?_
        refine am_iadd d_QU_addTableColumns_66 ?_
        refine am_putI (ty := .int) d_QU_addTableColumns_67 fl_QU_55 ft_4_9 b2 t2 (by decide) rfl rfl rfl ?_
        exact am_vret d_QU_addTableColumns_70 rfl (by decide) (by decide) am_oM_ok
      · have h := h.2 c
        refine am_aload_n (j := 0) d_QU_addTableColumns_16 rfl rfl ?_
        obtain ⟨⟨b3, t3⟩, h⟩ := h
        refine am_getR (t := (am_lk i 10)) d_QU_addTableColumns_17 fl_QU_27 hg b2 t2 (by decide) rfl (am_ne0 t2) rfl b3 ?_
        refine am_aload_n (j := 0) d_QU_addTableColumns_20 rfl rfl ?_
        refine am_getI d_QU_addTableColumns_21 fl_QU_52 b2 t2 (by decide) rfl ?_
        refine am_bipush (v := (10 : Int32)) d_QU_addTableColumns_24 (by decide) ?_
        refine am_iload_n (j := 1) d_QU_addTableColumns_26 rfl rfl ?_
        refine am_imul d_QU_addTableColumns_27 ?_
        refine am_iload_n (j := 3) d_QU_addTableColumns_28 rfl rfl ?_
        refine am_iadd d_QU_addTableColumns_29 ?_
        obtain ⟨hv, h⟩ := h
        refine am_iast d_QU_addTableColumns_30 b3 t3 hv ?_
        refine am_aload_n (j := 0) d_QU_addTableColumns_31 rfl rfl ?_
        obtain ⟨⟨b4, t4⟩, h⟩ := h
        refine am_getR (t := (am_lk i 11)) d_QU_addTableColumns_32 fl_QU_31 hg b2 t2 (by decide) rfl (am_ne0 t2) rfl b4 ?_
        refine am_aload_n (j := 0) d_QU_addTableColumns_35 rfl rfl ?_
        refine am_getI d_QU_addTableColumns_36 fl_QU_52 b2 t2 (by decide) rfl ?_
        refine am_aload_n (j := 0) d_QU_addTableColumns_39 rfl rfl ?_
        refine am_getI d_QU_addTableColumns_40 fl_QU_55 b2 t2 (by decide) rfl ?_
        obtain ⟨hv, h⟩ := h
        refine am_iast d_QU_addTableColumns_43 b4 t4 hv ?_
        refine am_aload_n (j := 0) d_QU_addTableColumns_44 rfl rfl ?_
        refine am_dup d_QU_addTableColumns_45 rfl ?_
        refine am_getI d_QU_addTableColumns_46 fl_QU_52 b2 t2 (by decide) rfl ?_
        refine am_iconst (v := (1 : Int32)) d_QU_addTableColumns_49 (by decide) ?_
        refine am_iadd d_QU_addTableColumns_50 ?_
        refine am_putI (ty := .int) d_QU_addTableColumns_51 fl_QU_52 ft_4_7 b2 t2 (by decide) rfl rfl rfl ?_
        refine am_iinc (j := 3) (v := (x3 + (1 : Int32))) (lv2 := [(3, .int (x3 + (1 : Int32))), (0, .ref i), (1, .int x1), (2, .int x2)]) d_QU_addTableColumns_54 rfl rfl (by decide) rfl ?_
        refine am_goto (tgt := 2) d_QU_addTableColumns_57 (by decide) ?_
        refine am_sub [1, 2, 3, 0] (lv2 := [(0, .ref i), (1, .int x1), (2, .int x2), (3, .int (x3 + (1 : Int32)))]) rfl ?_
        exact hK2 _ _ _ _ _ h
def f_QU_addTableColumns  (s : am_M) (i : Nat) (x1 : Int32) (x2 : Int32) : am_M := (f_QU_addTableColumns_2 am_F s i x1 x2 (0 : Int32))
def p_QU_addTableColumns  (s : am_M) (i : Nat) (x1 : Int32) (x2 : Int32) : Prop := (p_QU_addTableColumns_2 am_F s i x1 x2 (0 : Int32))
set_option maxRecDepth 8000 in
theorem w_QU_addTableColumns {l : Launch} {g : am_Gl} (hg : g.2.2.2.1 = true) {ad0 : Nat → Nat} {s : am_M} {i : Nat} {x1 : Int32} {x2 : Int32} (h : p_QU_addTableColumns s i x1 x2) : AW l g m_QU_addTableColumns 207 ad0 (am_oM (f_QU_addTableColumns s i x1 x2)) 0 0 207 s 0 [(0, .ref i), (1, .int x1), (2, .int x2)] [] := by
  refine am_iconst (v := (0 : Int32)) d_QU_addTableColumns_0 (by decide) ?_
  refine am_istore_n (lv2 := [(3, .int (0 : Int32)), (0, .ref i), (1, .int x1), (2, .int x2)]) d_QU_addTableColumns_1 rfl (by decide) rfl ?_
  refine am_sub [1, 2, 3, 0] (lv2 := [(0, .ref i), (1, .int x1), (2, .int x2), (3, .int (0 : Int32))]) rfl ?_
  exact w_QU_addTableColumns_2 hg am_F _ _ _ _ _ h
theorem ct_QU_addTableColumns {l : Launch} {g : am_Gl} (hg : g.2.2.2.1 = true) {s : am_M} {i : Nat} {x1 : Int32} {x2 : Int32} (h : p_QU_addTableColumns s i x1 x2) : AC l g m_QU_addTableColumns 207 s [.ref i, .int x1, .int x2] (am_oM (f_QU_addTableColumns s i x1 x2)) := am_enter ok_QU_addTableColumns rfl (Nat.le_of_ble_eq_true rfl) rfl (fun ad0 => w_QU_addTableColumns hg h)
def f_QU_addColumnsOf_23  : Nat → am_M → Nat → Nat → Int32 → am_M
  | 0, s, i, x1, x2 => s
  | n + 1, s, i, x1, x2 => (if (s i 7) ≤ x2 then s else ((f_QU_addColumnsOf_23  n) (am_set (am_set s (am_lk i 10) (x2).toNatClampNeg (s (am_lk x1 10) (x2).toNatClampNeg)) (am_lk i 11) (x2).toNatClampNeg ((am_set s (am_lk i 10) (x2).toNatClampNeg (s (am_lk x1 10) (x2).toNatClampNeg)) (am_lk x1 11) (x2).toNatClampNeg)) i x1 (x2 + (1 : Int32))))
def p_QU_addColumnsOf_23  : Nat → am_M → Nat → Nat → Int32 → Prop
  | 0, s, i, x1, x2 => False
  | n + 1, s, i, x1, x2 => (i < 207 ∧ am_sh i = (0, 4, 17)) ∧ ((((s i 7) ≤ x2) → True) ∧ (¬ ((s i 7) ≤ x2) → ((am_lk i 10) < 207 ∧ am_sh (am_lk i 10) = (1, 0, 54)) ∧ ((x1 < 207 ∧ am_sh x1 = (0, 4, 17)) ∧ (((am_lk x1 10) < 207 ∧ am_sh (am_lk x1 10) = (1, 0, 54)) ∧ (vp_in x2 54 ∧ (vp_in x2 54 ∧ (((am_lk i 11) < 207 ∧ am_sh (am_lk i 11) = (1, 0, 54)) ∧ (((am_lk x1 11) < 207 ∧ am_sh (am_lk x1 11) = (1, 0, 54)) ∧ (vp_in x2 54 ∧ (vp_in x2 54 ∧ (((p_QU_addColumnsOf_23  n) (am_set (am_set s (am_lk i 10) (x2).toNatClampNeg (s (am_lk x1 10) (x2).toNatClampNeg)) (am_lk i 11) (x2).toNatClampNeg ((am_set s (am_lk i 10) (x2).toNatClampNeg (s (am_lk x1 10) (x2).toNatClampNeg)) (am_lk x1 11) (x2).toNatClampNeg)) i x1 (x2 + (1 : Int32))))))))))))))
set_option maxRecDepth 8000 in
theorem w_QU_addColumnsOf_23 {l : Launch} {g : am_Gl} (hg : g.2.2.2.1 = true) {ad0 : Nat → Nat}   : ∀ (n : Nat) (s : am_M) (i : Nat) (x1 : Nat) (x2 : Int32), p_QU_addColumnsOf_23  n s i x1 x2 → AW l g m_QU_addColumnsOf 207 ad0 (am_oM (f_QU_addColumnsOf_23  n s i x1 x2)) 0 0 207 s 23 [(0, .ref i), (1, .ref x1), (2, .int x2)] [] := by
  intro n
  induction n with
  | zero => intro s i x1 x2 h; exact h.elim
  | succ n hK23 =>
    intro s i x1 x2 h
    refine am_iload_n (j := 2) d_QU_addColumnsOf_23 rfl rfl ?_
    refine am_aload_n (j := 0) d_QU_addColumnsOf_24 rfl rfl ?_
    obtain ⟨⟨b1, t1⟩, h⟩ := h
    refine am_getI d_QU_addColumnsOf_25 fl_QU_52 b1 t1 (by decide) rfl ?_
    refine aj_ge (F := am_oM) (tgt := 61) d_QU_addColumnsOf_28 (by decide) (fun c => ?_) (fun c => ?_)
    · have h := h.1 c
      exact am_vret d_QU_addColumnsOf_61 rfl (by decide) (by decide) am_oM_ok
    · have h := h.2 c
      refine am_aload_n (j := 0) d_QU_addColumnsOf_31 rfl rfl ?_
      obtain ⟨⟨b2, t2⟩, h⟩ := h
      refine am_getR (t := (am_lk i 10)) d_QU_addColumnsOf_32 fl_QU_27 hg b1 t1 (by decide) rfl (am_ne0 t1) rfl b2 ?_
      refine am_iload_n (j := 2) d_QU_addColumnsOf_35 rfl rfl ?_
      refine am_aload_n (j := 1) d_QU_addColumnsOf_36 rfl rfl ?_
      obtain ⟨⟨b3, t3⟩, h⟩ := h
      obtain ⟨⟨b4, t4⟩, h⟩ := h
      refine am_getR (t := (am_lk x1 10)) d_QU_addColumnsOf_37 fl_QU_27 hg b3 t3 (by decide) rfl (am_ne0 t3) rfl b4 ?_
      refine am_iload_n (j := 2) d_QU_addColumnsOf_40 rfl rfl ?_
      obtain ⟨hv, h⟩ := h
      refine am_iald d_QU_addColumnsOf_41 b4 t4 hv ?_
      obtain ⟨hv, h⟩ := h
      refine am_iast d_QU_addColumnsOf_42 b2 t2 hv ?_
      refine am_aload_n (j := 0) d_QU_addColumnsOf_43 rfl rfl ?_
      obtain ⟨⟨b5, t5⟩, h⟩ := h
      refine am_getR (t := (am_lk i 11)) d_QU_addColumnsOf_44 fl_QU_31 hg b1 t1 (by decide) rfl (am_ne0 t1) rfl b5 ?_
      refine am_iload_n (j := 2) d_QU_addColumnsOf_47 rfl rfl ?_
      refine am_aload_n (j := 1) d_QU_addColumnsOf_48 rfl rfl ?_
      obtain ⟨⟨b6, t6⟩, h⟩ := h
      refine am_getR (t := (am_lk x1 11)) d_QU_addColumnsOf_49 fl_QU_31 hg b3 t3 (by decide) rfl (am_ne0 t3) rfl b6 ?_
      refine am_iload_n (j := 2) d_QU_addColumnsOf_52 rfl rfl ?_
      obtain ⟨hv, h⟩ := h
      refine am_iald d_QU_addColumnsOf_53 b6 t6 hv ?_
      obtain ⟨hv, h⟩ := h
      refine am_iast d_QU_addColumnsOf_54 b5 t5 hv ?_
      refine am_iinc (j := 2) (v := (x2 + (1 : Int32))) (lv2 := [(2, .int (x2 + (1 : Int32))), (0, .ref i), (1, .ref x1)]) d_QU_addColumnsOf_55 rfl rfl (by decide) rfl ?_
      refine am_goto (tgt := 23) d_QU_addColumnsOf_58 (by decide) ?_
      refine am_sub [1, 2, 0] (lv2 := [(0, .ref i), (1, .ref x1), (2, .int (x2 + (1 : Int32)))]) rfl ?_
      exact hK23 _ _ _ _ h
def f_QU_addColumnsOf  (s : am_M) (i : Nat) (x1 : Nat) : am_M := (f_QU_addColumnsOf_23 am_F (am_set (am_set s i 7 (if (54 : Int32) < (s x1 7) then (54 : Int32) else (s x1 7))) i 9 ((am_set s i 7 (if (54 : Int32) < (s x1 7) then (54 : Int32) else (s x1 7))) x1 9)) i x1 (0 : Int32))
def p_QU_addColumnsOf  (s : am_M) (i : Nat) (x1 : Nat) : Prop := (x1 < 207 ∧ am_sh x1 = (0, 4, 17)) ∧ ((i < 207 ∧ am_sh i = (0, 4, 17)) ∧ ((p_QU_addColumnsOf_23 am_F (am_set (am_set s i 7 (if (54 : Int32) < (s x1 7) then (54 : Int32) else (s x1 7))) i 9 ((am_set s i 7 (if (54 : Int32) < (s x1 7) then (54 : Int32) else (s x1 7))) x1 9)) i x1 (0 : Int32))))
set_option maxRecDepth 8000 in
theorem w_QU_addColumnsOf {l : Launch} {g : am_Gl} (hg : g.2.2.2.1 = true) {ad0 : Nat → Nat} {s : am_M} {i : Nat} {x1 : Nat} (h : p_QU_addColumnsOf s i x1) : AW l g m_QU_addColumnsOf 207 ad0 (am_oM (f_QU_addColumnsOf s i x1)) 0 0 207 s 0 [(0, .ref i), (1, .ref x1)] [] := by
  refine am_aload_n (j := 0) d_QU_addColumnsOf_0 rfl rfl ?_
  refine am_aload_n (j := 1) d_QU_addColumnsOf_1 rfl rfl ?_
  obtain ⟨⟨b1, t1⟩, h⟩ := h
  refine am_getI d_QU_addColumnsOf_2 fl_QU_52 b1 t1 (by decide) rfl ?_
  refine am_bipush (v := (54 : Int32)) d_QU_addColumnsOf_5 (by decide) ?_
  refine am_mmin d_QU_addColumnsOf_7 aw_4_222 (Nat.le_of_ble_eq_true rfl) (by decide) (by decide) (by decide) ?_
  obtain ⟨⟨b2, t2⟩, h⟩ := h
  refine am_putI (ty := .int) d_QU_addColumnsOf_10 fl_QU_52 ft_4_7 b2 t2 (by decide) rfl rfl rfl ?_
  refine am_aload_n (j := 0) d_QU_addColumnsOf_13 rfl rfl ?_
  refine am_aload_n (j := 1) d_QU_addColumnsOf_14 rfl rfl ?_
  refine am_getI d_QU_addColumnsOf_15 fl_QU_55 b1 t1 (by decide) rfl ?_
  refine am_putI (ty := .int) d_QU_addColumnsOf_18 fl_QU_55 ft_4_9 b2 t2 (by decide) rfl rfl rfl ?_
  refine am_iconst (v := (0 : Int32)) d_QU_addColumnsOf_21 (by decide) ?_
  refine am_istore_n (lv2 := [(2, .int (0 : Int32)), (0, .ref i), (1, .ref x1)]) d_QU_addColumnsOf_22 rfl (by decide) rfl ?_
  refine am_sub [1, 2, 0] (lv2 := [(0, .ref i), (1, .ref x1), (2, .int (0 : Int32))]) rfl ?_
  exact w_QU_addColumnsOf_23 hg am_F _ _ _ _ h
theorem ct_QU_addColumnsOf {l : Launch} {g : am_Gl} (hg : g.2.2.2.1 = true) {s : am_M} {i : Nat} {x1 : Nat} (h : p_QU_addColumnsOf s i x1) : AC l g m_QU_addColumnsOf 207 s [.ref i, .ref x1] (am_oM (f_QU_addColumnsOf s i x1)) := am_enter ok_QU_addColumnsOf rfl (Nat.le_of_ble_eq_true rfl) rfl (fun ad0 => w_QU_addColumnsOf hg h)
def f_QU_addCondition  (s : am_M) (i : Nat) (x1 : Int32) (x2 : Int32) (x3 : Int32) (x4 : Int32) : Int32 × am_M := (if (6 : Int32) ≤ (s i 12) then ((s i 12), s) else (((am_set (am_set (am_set (am_set (am_set s (am_lk i 13) ((s i 12)).toNatClampNeg x1) (am_lk i 14) (((am_set s (am_lk i 13) ((s i 12)).toNatClampNeg x1) i 12)).toNatClampNeg x2) (am_lk i 15) (((am_set (am_set s (am_lk i 13) ((s i 12)).toNatClampNeg x1) (am_lk i 14) (((am_set s (am_lk i 13) ((s i 12)).toNatClampNeg x1) i 12)).toNatClampNeg x2) i 12)).toNatClampNeg x3) (am_lk i 16) (((am_set (am_set (am_set s (am_lk i 13) ((s i 12)).toNatClampNeg x1) (am_lk i 14) (((am_set s (am_lk i 13) ((s i 12)).toNatClampNeg x1) i 12)).toNatClampNeg x2) (am_lk i 15) (((am_set (am_set s (am_lk i 13) ((s i 12)).toNatClampNeg x1) (am_lk i 14) (((am_set s (am_lk i 13) ((s i 12)).toNatClampNeg x1) i 12)).toNatClampNeg x2) i 12)).toNatClampNeg x3) i 12)).toNatClampNeg x4) i 12 (((am_set (am_set (am_set (am_set s (am_lk i 13) ((s i 12)).toNatClampNeg x1) (am_lk i 14) (((am_set s (am_lk i 13) ((s i 12)).toNatClampNeg x1) i 12)).toNatClampNeg x2) (am_lk i 15) (((am_set (am_set s (am_lk i 13) ((s i 12)).toNatClampNeg x1) (am_lk i 14) (((am_set s (am_lk i 13) ((s i 12)).toNatClampNeg x1) i 12)).toNatClampNeg x2) i 12)).toNatClampNeg x3) (am_lk i 16) (((am_set (am_set (am_set s (am_lk i 13) ((s i 12)).toNatClampNeg x1) (am_lk i 14) (((am_set s (am_lk i 13) ((s i 12)).toNatClampNeg x1) i 12)).toNatClampNeg x2) (am_lk i 15) (((am_set (am_set s (am_lk i 13) ((s i 12)).toNatClampNeg x1) (am_lk i 14) (((am_set s (am_lk i 13) ((s i 12)).toNatClampNeg x1) i 12)).toNatClampNeg x2) i 12)).toNatClampNeg x3) i 12)).toNatClampNeg x4) i 12) + (1 : Int32))) i 12), (am_set (am_set (am_set (am_set (am_set s (am_lk i 13) ((s i 12)).toNatClampNeg x1) (am_lk i 14) (((am_set s (am_lk i 13) ((s i 12)).toNatClampNeg x1) i 12)).toNatClampNeg x2) (am_lk i 15) (((am_set (am_set s (am_lk i 13) ((s i 12)).toNatClampNeg x1) (am_lk i 14) (((am_set s (am_lk i 13) ((s i 12)).toNatClampNeg x1) i 12)).toNatClampNeg x2) i 12)).toNatClampNeg x3) (am_lk i 16) (((am_set (am_set (am_set s (am_lk i 13) ((s i 12)).toNatClampNeg x1) (am_lk i 14) (((am_set s (am_lk i 13) ((s i 12)).toNatClampNeg x1) i 12)).toNatClampNeg x2) (am_lk i 15) (((am_set (am_set s (am_lk i 13) ((s i 12)).toNatClampNeg x1) (am_lk i 14) (((am_set s (am_lk i 13) ((s i 12)).toNatClampNeg x1) i 12)).toNatClampNeg x2) i 12)).toNatClampNeg x3) i 12)).toNatClampNeg x4) i 12 (((am_set (am_set (am_set (am_set s (am_lk i 13) ((s i 12)).toNatClampNeg x1) (am_lk i 14) (((am_set s (am_lk i 13) ((s i 12)).toNatClampNeg x1) i 12)).toNatClampNeg x2) (am_lk i 15) (((am_set (am_set s (am_lk i 13) ((s i 12)).toNatClampNeg x1) (am_lk i 14) (((am_set s (am_lk i 13) ((s i 12)).toNatClampNeg x1) i 12)).toNatClampNeg x2) i 12)).toNatClampNeg x3) (am_lk i 16) (((am_set (am_set (am_set s (am_lk i 13) ((s i 12)).toNatClampNeg x1) (am_lk i 14) (((am_set s (am_lk i 13) ((s i 12)).toNatClampNeg x1) i 12)).toNatClampNeg x2) (am_lk i 15) (((am_set (am_set s (am_lk i 13) ((s i 12)).toNatClampNeg x1) (am_lk i 14) (((am_set s (am_lk i 13) ((s i 12)).toNatClampNeg x1) i 12)).toNatClampNeg x2) i 12)).toNatClampNeg x3) i 12)).toNatClampNeg x4) i 12) + (1 : Int32)))))
def p_QU_addCondition  (s : am_M) (i : Nat) (x1 : Int32) (x2 : Int32) (x3 : Int32) (x4 : Int32) : Prop := (i < 207 ∧ am_sh i = (0, 4, 17)) ∧ ((((6 : Int32) ≤ (s i 12)) → True) ∧ (¬ ((6 : Int32) ≤ (s i 12)) → ((am_lk i 13) < 207 ∧ am_sh (am_lk i 13) = (1, 0, 6)) ∧ (vp_in (s i 12) 6 ∧ (((am_lk i 14) < 207 ∧ am_sh (am_lk i 14) = (1, 0, 6)) ∧ (vp_in ((am_set s (am_lk i 13) ((s i 12)).toNatClampNeg x1) i 12) 6 ∧ (((am_lk i 15) < 207 ∧ am_sh (am_lk i 15) = (1, 0, 6)) ∧ (vp_in ((am_set (am_set s (am_lk i 13) ((s i 12)).toNatClampNeg x1) (am_lk i 14) (((am_set s (am_lk i 13) ((s i 12)).toNatClampNeg x1) i 12)).toNatClampNeg x2) i 12) 6 ∧ (((am_lk i 16) < 207 ∧ am_sh (am_lk i 16) = (1, 0, 6)) ∧ (vp_in ((am_set (am_set (am_set s (am_lk i 13) ((s i 12)).toNatClampNeg x1) (am_lk i 14) (((am_set s (am_lk i 13) ((s i 12)).toNatClampNeg x1) i 12)).toNatClampNeg x2) (am_lk i 15) (((am_set (am_set s (am_lk i 13) ((s i 12)).toNatClampNeg x1) (am_lk i 14) (((am_set s (am_lk i 13) ((s i 12)).toNatClampNeg x1) i 12)).toNatClampNeg x2) i 12)).toNatClampNeg x3) i 12) 6 ∧ (True))))))))))
set_option maxRecDepth 8000 in
theorem w_QU_addCondition {l : Launch} {g : am_Gl} (hg : g.2.2.2.1 = true) {ad0 : Nat → Nat} {s : am_M} {i : Nat} {x1 : Int32} {x2 : Int32} {x3 : Int32} {x4 : Int32} (h : p_QU_addCondition s i x1 x2 x3 x4) : AW l g m_QU_addCondition 207 ad0 (am_oC (f_QU_addCondition s i x1 x2 x3 x4)) 0 0 207 s 0 [(0, .ref i), (1, .int x1), (2, .int x2), (3, .int x3), (4, .int x4)] [] := by
  refine am_aload_n (j := 0) d_QU_addCondition_0 rfl rfl ?_
  obtain ⟨⟨b1, t1⟩, h⟩ := h
  refine am_getI d_QU_addCondition_1 fl_QU_64 b1 t1 (by decide) rfl ?_
  refine am_bipush (v := (6 : Int32)) d_QU_addCondition_4 (by decide) ?_
  refine aj_ge (F := am_oC) (tgt := 60) d_QU_addCondition_6 (by decide) (fun c => ?_) (fun c => ?_)
  · have h := h.1 c
    refine am_aload_n (j := 0) d_QU_addCondition_60 rfl rfl ?_
    refine am_getI d_QU_addCondition_61 fl_QU_64 b1 t1 (by decide) rfl ?_
    exact am_iret d_QU_addCondition_64 rfl rfl (by decide) (by decide) am_oC_ok
  · have h := h.2 c
    refine am_aload_n (j := 0) d_QU_addCondition_9 rfl rfl ?_
    obtain ⟨⟨b2, t2⟩, h⟩ := h
    refine am_getR (t := (am_lk i 13)) d_QU_addCondition_10 fl_QU_34 hg b1 t1 (by decide) rfl (am_ne0 t1) rfl b2 ?_
    refine am_aload_n (j := 0) d_QU_addCondition_13 rfl rfl ?_
    refine am_getI d_QU_addCondition_14 fl_QU_64 b1 t1 (by decide) rfl ?_
    refine am_iload_n (j := 1) d_QU_addCondition_17 rfl rfl ?_
    obtain ⟨hv, h⟩ := h
    refine am_iast d_QU_addCondition_18 b2 t2 hv ?_
    refine am_aload_n (j := 0) d_QU_addCondition_19 rfl rfl ?_
    obtain ⟨⟨b3, t3⟩, h⟩ := h
    refine am_getR (t := (am_lk i 14)) d_QU_addCondition_20 fl_QU_37 hg b1 t1 (by decide) rfl (am_ne0 t1) rfl b3 ?_
    refine am_aload_n (j := 0) d_QU_addCondition_23 rfl rfl ?_
    refine am_getI d_QU_addCondition_24 fl_QU_64 b1 t1 (by decide) rfl ?_
    refine am_iload_n (j := 2) d_QU_addCondition_27 rfl rfl ?_
    obtain ⟨hv, h⟩ := h
    refine am_iast d_QU_addCondition_28 b3 t3 hv ?_
    refine am_aload_n (j := 0) d_QU_addCondition_29 rfl rfl ?_
    obtain ⟨⟨b4, t4⟩, h⟩ := h
    refine am_getR (t := (am_lk i 15)) d_QU_addCondition_30 fl_QU_40 hg b1 t1 (by decide) rfl (am_ne0 t1) rfl b4 ?_
    refine am_aload_n (j := 0) d_QU_addCondition_33 rfl rfl ?_
    refine am_getI d_QU_addCondition_34 fl_QU_64 b1 t1 (by decide) rfl ?_
    refine am_iload_n (j := 3) d_QU_addCondition_37 rfl rfl ?_
    obtain ⟨hv, h⟩ := h
    refine am_iast d_QU_addCondition_38 b4 t4 hv ?_
    refine am_aload_n (j := 0) d_QU_addCondition_39 rfl rfl ?_
    obtain ⟨⟨b5, t5⟩, h⟩ := h
    refine am_getR (t := (am_lk i 16)) d_QU_addCondition_40 fl_QU_43 hg b1 t1 (by decide) rfl (am_ne0 t1) rfl b5 ?_
    refine am_aload_n (j := 0) d_QU_addCondition_43 rfl rfl ?_
    refine am_getI d_QU_addCondition_44 fl_QU_64 b1 t1 (by decide) rfl ?_
    refine am_iload (j := 4) d_QU_addCondition_47 rfl ?_
    obtain ⟨hv, h⟩ := h
    refine am_iast d_QU_addCondition_49 b5 t5 hv ?_
    refine am_aload_n (j := 0) d_QU_addCondition_50 rfl rfl ?_
    refine am_dup d_QU_addCondition_51 rfl ?_
    refine am_getI d_QU_addCondition_52 fl_QU_64 b1 t1 (by decide) rfl ?_
    refine am_iconst (v := (1 : Int32)) d_QU_addCondition_55 (by decide) ?_
    refine am_iadd d_QU_addCondition_56 ?_
    refine am_putI (ty := .int) d_QU_addCondition_57 fl_QU_64 ft_4_12 b1 t1 (by decide) rfl rfl rfl ?_
    refine am_aload_n (j := 0) d_QU_addCondition_60 rfl rfl ?_
    refine am_getI d_QU_addCondition_61 fl_QU_64 b1 t1 (by decide) rfl ?_
    exact am_iret d_QU_addCondition_64 rfl rfl (by decide) (by decide) am_oC_ok
theorem ct_QU_addCondition {l : Launch} {g : am_Gl} (hg : g.2.2.2.1 = true) {s : am_M} {i : Nat} {x1 : Int32} {x2 : Int32} {x3 : Int32} {x4 : Int32} (h : p_QU_addCondition s i x1 x2 x3 x4) : AC l g m_QU_addCondition 207 s [.ref i, .int x1, .int x2, .int x3, .int x4] (am_oC (f_QU_addCondition s i x1 x2 x3 x4)) := am_enter ok_QU_addCondition rfl (Nat.le_of_ble_eq_true rfl) rfl (fun ad0 => w_QU_addCondition hg h)
def f_RU_isFor  (s : am_M) (i : Nat) (x1 : Int32) (x2 : Int32) : Int32 := (if (s i 5) = 0 then (if (s i 0) = x1 then (if (s i 1) = x2 then (1 : Int32) else (if (s i 3) = x2 then (1 : Int32) else (0 : Int32))) else (0 : Int32)) else (0 : Int32))
def p_RU_isFor  (s : am_M) (i : Nat) (x1 : Int32) (x2 : Int32) : Prop := (i < 207 ∧ am_sh i = (0, 7, 6)) ∧ ((((s i 5) = 0) → (((s i 0) = x1) → (((s i 1) = x2) → True) ∧ (¬ ((s i 1) = x2) → (((s i 3) = x2) → True) ∧ (¬ ((s i 3) = x2) → True))) ∧ (¬ ((s i 0) = x1) → True)) ∧ (¬ ((s i 5) = 0) → True))
set_option maxRecDepth 8000 in
theorem w_RU_isFor {l : Launch} {g : am_Gl} (hg : g.2.2.2.1 = true) {ad0 : Nat → Nat} {s : am_M} {i : Nat} {x1 : Int32} {x2 : Int32} (h : p_RU_isFor s i x1 x2) : AW l g m_RU_isFor 207 ad0 ((am_oI s) (f_RU_isFor s i x1 x2)) 0 0 207 s 0 [(0, .ref i), (1, .int x1), (2, .int x2)] [] := by
  refine am_aload_n (j := 0) d_RU_isFor_0 rfl rfl ?_
  obtain ⟨⟨b1, t1⟩, h⟩ := h
  refine am_getI d_RU_isFor_1 fl_RU_9 b1 t1 (by decide) rfl ?_
  refine ai_ne (F := (am_oI s)) (tgt := 35) d_RU_isFor_4 (by decide) (fun c => ?_) (fun c => ?_)
  · have h := h.2 c
    refine am_iconst (v := (0 : Int32)) d_RU_isFor_35 (by decide) ?_
    exact am_iret d_RU_isFor_36 rfl (am_bool (Or.inl rfl)).1 (by decide) (by decide) am_oI_ok
  · have h := h.1 c
    refine am_aload_n (j := 0) d_RU_isFor_7 rfl rfl ?_
    refine am_getI d_RU_isFor_8 fl_RU_15 b1 t1 (by decide) rfl ?_
    refine am_iload_n (j := 1) d_RU_isFor_11 rfl rfl ?_
    refine aj_ne (F := (am_oI s)) (tgt := 35) d_RU_isFor_12 (by decide) (fun c => ?_) (fun c => ?_)
    · have h := h.2 c
      refine am_iconst (v := (0 : Int32)) d_RU_isFor_35 (by decide) ?_
      exact am_iret d_RU_isFor_36 rfl (am_bool (Or.inl rfl)).1 (by decide) (by decide) am_oI_ok
    · have h := h.1 c
      refine am_aload_n (j := 0) d_RU_isFor_15 rfl rfl ?_
      refine am_getI d_RU_isFor_16 fl_RU_19 b1 t1 (by decide) rfl ?_
      refine am_iload_n (j := 2) d_RU_isFor_19 rfl rfl ?_
      refine aj_eq (F := (am_oI s)) (tgt := 31) d_RU_isFor_20 (by decide) (fun c => ?_) (fun c => ?_)
      · have h := h.1 c
        refine am_iconst (v := (1 : Int32)) d_RU_isFor_31 (by decide) ?_
        refine am_goto (tgt := 36) d_RU_isFor_32 (by decide) ?_
        exact am_iret d_RU_isFor_36 rfl (am_bool (Or.inr rfl)).1 (by decide) (by decide) am_oI_ok
      · have h := h.2 c
        refine am_aload_n (j := 0) d_RU_isFor_23 rfl rfl ?_
        refine am_getI d_RU_isFor_24 fl_RU_22 b1 t1 (by decide) rfl ?_
        refine am_iload_n (j := 2) d_RU_isFor_27 rfl rfl ?_
        refine aj_ne (F := (am_oI s)) (tgt := 35) d_RU_isFor_28 (by decide) (fun c => ?_) (fun c => ?_)
        · have h := h.2 c
          refine am_iconst (v := (0 : Int32)) d_RU_isFor_35 (by decide) ?_
          exact am_iret d_RU_isFor_36 rfl (am_bool (Or.inl rfl)).1 (by decide) (by decide) am_oI_ok
        · have h := h.1 c
          refine am_iconst (v := (1 : Int32)) d_RU_isFor_31 (by decide) ?_
          refine am_goto (tgt := 36) d_RU_isFor_32 (by decide) ?_
          exact am_iret d_RU_isFor_36 rfl (am_bool (Or.inr rfl)).1 (by decide) (by decide) am_oI_ok
theorem ct_RU_isFor {l : Launch} {g : am_Gl} (hg : g.2.2.2.1 = true) {s : am_M} {i : Nat} {x1 : Int32} {x2 : Int32} (h : p_RU_isFor s i x1 x2) : AC l g m_RU_isFor 207 s [.ref i, .int x1, .int x2] ((am_oI s) (f_RU_isFor s i x1 x2)) := am_enter ok_RU_isFor rfl (Nat.le_of_ble_eq_true rfl) rfl (fun ad0 => w_RU_isFor hg h)
theorem cw_QU_hasConditionOn_23 : am_cv m_QU_hasConditionOn m_QU_originOf 67 1 := ⟨⟨ok_QU_originOf, rfl, by decide +kernel, by decide, by decide⟩, aw_4_105, aw_3_184, aw_3_185⟩
def f_QU_hasConditionOn_2  : Nat → am_M → Nat → Int32 → Int32 → Int32
  | 0, s, i, x1, x2 => 0
  | n + 1, s, i, x1, x2 => (if (s i 12) ≤ x2 then (0 : Int32) else (if (6 : Int32) ≤ x2 then (0 : Int32) else (if (f_QU_originOf s i (s (am_lk i 14) (x2).toNatClampNeg)) = x1 then (1 : Int32) else ((f_QU_hasConditionOn_2  n s) i x1 (x2 + (1 : Int32))))))
def p_QU_hasConditionOn_2  : Nat → am_M → Nat → Int32 → Int32 → Prop
  | 0, s, i, x1, x2 => False
  | n + 1, s, i, x1, x2 => (i < 207 ∧ am_sh i = (0, 4, 17)) ∧ ((((s i 12) ≤ x2) → True) ∧ (¬ ((s i 12) ≤ x2) → (((6 : Int32) ≤ x2) → True) ∧ (¬ ((6 : Int32) ≤ x2) → ((am_lk i 14) < 207 ∧ am_sh (am_lk i 14) = (1, 0, 6)) ∧ (vp_in x2 6 ∧ (p_QU_originOf s i (s (am_lk i 14) (x2).toNatClampNeg) ∧ ((((f_QU_originOf s i (s (am_lk i 14) (x2).toNatClampNeg)) = x1) → True) ∧ (¬ ((f_QU_originOf s i (s (am_lk i 14) (x2).toNatClampNeg)) = x1) → ((p_QU_hasConditionOn_2  n s) i x1 (x2 + (1 : Int32))))))))))
set_option maxRecDepth 8000 in
theorem w_QU_hasConditionOn_2 {l : Launch} {g : am_Gl} (hg : g.2.2.2.1 = true) {ad0 : Nat → Nat} {s : am_M}   : ∀ (n : Nat) (i : Nat) (x1 : Int32) (x2 : Int32), p_QU_hasConditionOn_2  n s i x1 x2 → AW l g m_QU_hasConditionOn 207 ad0 ((am_oI s) (f_QU_hasConditionOn_2  n s i x1 x2)) 0 0 207 s 2 [(0, .ref i), (1, .int x1), (2, .int x2)] [] := by
  intro n
  induction n with
  | zero => intro i x1 x2 h; exact h.elim
  | succ n hK2 =>
    intro i x1 x2 h
    refine am_iload_n (j := 2) d_QU_hasConditionOn_2 rfl rfl ?_
    refine am_aload_n (j := 0) d_QU_hasConditionOn_3 rfl rfl ?_
    obtain ⟨⟨b1, t1⟩, h⟩ := h
    refine am_getI d_QU_hasConditionOn_4 fl_QU_64 b1 t1 (by decide) rfl ?_
    refine aj_ge (F := (am_oI s)) (tgt := 38) d_QU_hasConditionOn_7 (by decide) (fun c => ?_) (fun c => ?_)
    · have h := h.1 c
      refine am_iconst (v := (0 : Int32)) d_QU_hasConditionOn_38 (by decide) ?_
      exact am_iret d_QU_hasConditionOn_39 rfl (am_bool (Or.inl rfl)).1 (by decide) (by decide) am_oI_ok
    · have h := h.2 c
      refine am_iload_n (j := 2) d_QU_hasConditionOn_10 rfl rfl ?_
      refine am_bipush (v := (6 : Int32)) d_QU_hasConditionOn_11 (by decide) ?_
      refine aj_ge (F := (am_oI s)) (tgt := 38) d_QU_hasConditionOn_13 (by decide) (fun c => ?_) (fun c => ?_)
      · have h := h.1 c
        refine am_iconst (v := (0 : Int32)) d_QU_hasConditionOn_38 (by decide) ?_
        exact am_iret d_QU_hasConditionOn_39 rfl (am_bool (Or.inl rfl)).1 (by decide) (by decide) am_oI_ok
      · have h := h.2 c
        refine am_aload_n (j := 0) d_QU_hasConditionOn_16 rfl rfl ?_
        refine am_aload_n (j := 0) d_QU_hasConditionOn_17 rfl rfl ?_
        obtain ⟨⟨b2, t2⟩, h⟩ := h
        refine am_getR (t := (am_lk i 14)) d_QU_hasConditionOn_18 fl_QU_37 hg b1 t1 (by decide) rfl (am_ne0 t1) rfl b2 ?_
        refine am_iload_n (j := 2) d_QU_hasConditionOn_21 rfl rfl ?_
        obtain ⟨hv, h⟩ := h
        refine am_iald d_QU_hasConditionOn_22 b2 t2 hv ?_
        obtain ⟨hc, h⟩ := h
        refine ak_VI (as := [.int (s (am_lk i 14) (x2).toNatClampNeg)]) (rest := []) d_QU_hasConditionOn_23 cw_QU_hasConditionOn_23 rfl rfl rfl (ct_QU_originOf hg hc) rfl rfl b1 t1 rfl (Nat.le_of_ble_eq_true rfl) (by decide) (by decide) ?_
        refine am_iload_n (j := 1) d_QU_hasConditionOn_26 rfl rfl ?_
        refine aj_ne (F := (am_oI s)) (tgt := 32) d_QU_hasConditionOn_27 (by decide) (fun c => ?_) (fun c => ?_)
        · have h := h.2 c
          refine am_iinc (j := 2) (v := (x2 + (1 : Int32))) (lv2 := [(2, .int (x2 + (1 : Int32))), (0, .ref i), (1, .int x1)]) d_QU_hasConditionOn_32 rfl rfl (by decide) rfl ?_
          refine am_goto (tgt := 2) d_QU_hasConditionOn_35 (by decide) ?_
          refine am_sub [1, 2, 0] (lv2 := [(0, .ref i), (1, .int x1), (2, .int (x2 + (1 : Int32)))]) rfl ?_
          exact hK2 _ _ _ h
        · have h := h.1 c
          refine am_iconst (v := (1 : Int32)) d_QU_hasConditionOn_30 (by decide) ?_
          exact am_iret d_QU_hasConditionOn_31 rfl (am_bool (Or.inr rfl)).1 (by decide) (by decide) am_oI_ok
def f_QU_hasConditionOn  (s : am_M) (i : Nat) (x1 : Int32) : Int32 := (f_QU_hasConditionOn_2 am_F s i x1 (0 : Int32))
def p_QU_hasConditionOn  (s : am_M) (i : Nat) (x1 : Int32) : Prop := (p_QU_hasConditionOn_2 am_F s i x1 (0 : Int32))
set_option maxRecDepth 8000 in
theorem w_QU_hasConditionOn {l : Launch} {g : am_Gl} (hg : g.2.2.2.1 = true) {ad0 : Nat → Nat} {s : am_M} {i : Nat} {x1 : Int32} (h : p_QU_hasConditionOn s i x1) : AW l g m_QU_hasConditionOn 207 ad0 ((am_oI s) (f_QU_hasConditionOn s i x1)) 0 0 207 s 0 [(0, .ref i), (1, .int x1)] [] := by
  refine am_iconst (v := (0 : Int32)) d_QU_hasConditionOn_0 (by decide) ?_
  refine am_istore_n (lv2 := [(2, .int (0 : Int32)), (0, .ref i), (1, .int x1)]) d_QU_hasConditionOn_1 rfl (by decide) rfl ?_
  refine am_sub [1, 2, 0] (lv2 := [(0, .ref i), (1, .int x1), (2, .int (0 : Int32))]) rfl ?_
  exact w_QU_hasConditionOn_2 hg am_F _ _ _ h
theorem ct_QU_hasConditionOn {l : Launch} {g : am_Gl} (hg : g.2.2.2.1 = true) {s : am_M} {i : Nat} {x1 : Int32} (h : p_QU_hasConditionOn s i x1) : AC l g m_QU_hasConditionOn 207 s [.ref i, .int x1] ((am_oI s) (f_QU_hasConditionOn s i x1)) := am_enter ok_QU_hasConditionOn rfl (Nat.le_of_ble_eq_true rfl) rfl (fun ad0 => w_QU_hasConditionOn hg h)
def f_RO_serialOf  (s : am_M) (i : Nat) (x1 : Int32) (x2 : Int32) : Int32 := (if x1 < 0 then (0 : Int32) else (if (4 : Int32) ≤ x1 then (0 : Int32) else (if x2 < 0 then (0 : Int32) else (if x2 < (30 : Int32) then (s (am_lk i 1) (((x1 * (30 : Int32)) + x2)).toNatClampNeg) else (0 : Int32)))))
def p_RO_serialOf  (s : am_M) (i : Nat) (x1 : Int32) (x2 : Int32) : Prop := ((x1 < 0) → True) ∧ (¬ (x1 < 0) → (((4 : Int32) ≤ x1) → True) ∧ (¬ ((4 : Int32) ≤ x1) → ((x2 < 0) → True) ∧ (¬ (x2 < 0) → ((x2 < (30 : Int32)) → (i < 207 ∧ am_sh i = (0, 6, 3)) ∧ (((am_lk i 1) < 207 ∧ am_sh (am_lk i 1) = (1, 0, 120)) ∧ (vp_in ((x1 * (30 : Int32)) + x2) 120 ∧ (True)))) ∧ (¬ (x2 < (30 : Int32)) → True))))
set_option maxRecDepth 8000 in
theorem w_RO_serialOf {l : Launch} {g : am_Gl} (hg : g.2.2.2.1 = true) {ad0 : Nat → Nat} {s : am_M} {i : Nat} {x1 : Int32} {x2 : Int32} (h : p_RO_serialOf s i x1 x2) : AW l g m_RO_serialOf 207 ad0 ((am_oI s) (f_RO_serialOf s i x1 x2)) 0 0 207 s 0 [(0, .ref i), (1, .int x1), (2, .int x2)] [] := by
  refine am_iload_n (j := 1) d_RO_serialOf_0 rfl rfl ?_
  refine ai_lt (F := (am_oI s)) (tgt := 19) d_RO_serialOf_1 (by decide) (fun c => ?_) (fun c => ?_)
  · have h := h.1 c
    refine am_iconst (v := (0 : Int32)) d_RO_serialOf_19 (by decide) ?_
    exact am_iret d_RO_serialOf_20 rfl rfl (by decide) (by decide) am_oI_ok
  · have h := h.2 c
    refine am_iload_n (j := 1) d_RO_serialOf_4 rfl rfl ?_
    refine am_iconst (v := (4 : Int32)) d_RO_serialOf_5 (by decide) ?_
    refine aj_ge (F := (am_oI s)) (tgt := 19) d_RO_serialOf_6 (by decide) (fun c => ?_) (fun c => ?_)
    · have h := h.1 c
      refine am_iconst (v := (0 : Int32)) d_RO_serialOf_19 (by decide) ?_
      exact am_iret d_RO_serialOf_20 rfl rfl (by decide) (by decide) am_oI_ok
    · have h := h.2 c
      refine am_iload_n (j := 2) d_RO_serialOf_9 rfl rfl ?_
      refine ai_lt (F := (am_oI s)) (tgt := 19) d_RO_serialOf_10 (by decide) (fun c => ?_) (fun c => ?_)
      · have h := h.1 c
        refine am_iconst (v := (0 : Int32)) d_RO_serialOf_19 (by decide) ?_
        exact am_iret d_RO_serialOf_20 rfl rfl (by decide) (by decide) am_oI_ok
      · have h := h.2 c
        refine am_iload_n (j := 2) d_RO_serialOf_13 rfl rfl ?_
        refine am_bipush (v := (30 : Int32)) d_RO_serialOf_14 (by decide) ?_
        refine aj_lt (F := (am_oI s)) (tgt := 21) d_RO_serialOf_16 (by decide) (fun c => ?_) (fun c => ?_)
        · have h := h.1 c
          refine am_aload_n (j := 0) d_RO_serialOf_21 rfl rfl ?_
          obtain ⟨⟨b1, t1⟩, h⟩ := h
          obtain ⟨⟨b2, t2⟩, h⟩ := h
          refine am_getR (t := (am_lk i 1)) d_RO_serialOf_22 fl_RO_15 hg b1 t1 (by decide) rfl (am_ne0 t1) rfl b2 ?_
          refine am_iload_n (j := 1) d_RO_serialOf_25 rfl rfl ?_
          refine am_bipush (v := (30 : Int32)) d_RO_serialOf_26 (by decide) ?_
          refine am_imul d_RO_serialOf_28 ?_
          refine am_iload_n (j := 2) d_RO_serialOf_29 rfl rfl ?_
          refine am_iadd d_RO_serialOf_30 ?_
          obtain ⟨hv, h⟩ := h
          refine am_iald d_RO_serialOf_31 b2 t2 hv ?_
          exact am_iret d_RO_serialOf_32 rfl rfl (by decide) (by decide) am_oI_ok
        · have h := h.2 c
          refine am_iconst (v := (0 : Int32)) d_RO_serialOf_19 (by decide) ?_
          exact am_iret d_RO_serialOf_20 rfl rfl (by decide) (by decide) am_oI_ok
theorem ct_RO_serialOf {l : Launch} {g : am_Gl} (hg : g.2.2.2.1 = true) {s : am_M} {i : Nat} {x1 : Int32} {x2 : Int32} (h : p_RO_serialOf s i x1 x2) : AC l g m_RO_serialOf 207 s [.ref i, .int x1, .int x2] ((am_oI s) (f_RO_serialOf s i x1 x2)) := am_enter ok_RO_serialOf rfl (Nat.le_of_ble_eq_true rfl) rfl (fun ad0 => w_RO_serialOf hg h)
def f_RO_setSerial  (s : am_M) (i : Nat) (x1 : Int32) (x2 : Int32) (x3 : Int32) : am_M := (if x1 < 0 then s else (if (4 : Int32) ≤ x1 then s else (if x2 < 0 then s else (if (30 : Int32) ≤ x2 then s else (am_set s (am_lk i 1) (((x1 * (30 : Int32)) + x2)).toNatClampNeg x3)))))
def p_RO_setSerial  (s : am_M) (i : Nat) (x1 : Int32) (x2 : Int32) (x3 : Int32) : Prop := ((x1 < 0) → True) ∧ (¬ (x1 < 0) → (((4 : Int32) ≤ x1) → True) ∧ (¬ ((4 : Int32) ≤ x1) → ((x2 < 0) → True) ∧ (¬ (x2 < 0) → (((30 : Int32) ≤ x2) → True) ∧ (¬ ((30 : Int32) ≤ x2) → (i < 207 ∧ am_sh i = (0, 6, 3)) ∧ (((am_lk i 1) < 207 ∧ am_sh (am_lk i 1) = (1, 0, 120)) ∧ (vp_in ((x1 * (30 : Int32)) + x2) 120 ∧ (True)))))))
set_option maxRecDepth 8000 in
theorem w_RO_setSerial {l : Launch} {g : am_Gl} (hg : g.2.2.2.1 = true) {ad0 : Nat → Nat} {s : am_M} {i : Nat} {x1 : Int32} {x2 : Int32} {x3 : Int32} (h : p_RO_setSerial s i x1 x2 x3) : AW l g m_RO_setSerial 207 ad0 (am_oM (f_RO_setSerial s i x1 x2 x3)) 0 0 207 s 0 [(0, .ref i), (1, .int x1), (2, .int x2), (3, .int x3)] [] := by
  refine am_iload_n (j := 1) d_RO_setSerial_0 rfl rfl ?_
  refine ai_lt (F := am_oM) (tgt := 31) d_RO_setSerial_1 (by decide) (fun c => ?_) (fun c => ?_)
  · have h := h.1 c
    exact am_vret d_RO_setSerial_31 rfl (by decide) (by decide) am_oM_ok
  · have h := h.2 c
    refine am_iload_n (j := 1) d_RO_setSerial_4 rfl rfl ?_
    refine am_iconst (v := (4 : Int32)) d_RO_setSerial_5 (by decide) ?_
    refine aj_ge (F := am_oM) (tgt := 31) d_RO_setSerial_6 (by decide) (fun c => ?_) (fun c => ?_)
    · have h := h.1 c
      exact am_vret d_RO_setSerial_31 rfl (by decide) (by decide) am_oM_ok
    · have h := h.2 c
      refine am_iload_n (j := 2) d_RO_setSerial_9 rfl rfl ?_
      refine ai_lt (F := am_oM) (tgt := 31) d_RO_setSerial_10 (by decide) (fun c => ?_) (fun c => ?_)
      · have h := h.1 c
        exact am_vret d_RO_setSerial_31 rfl (by decide) (by decide) am_oM_ok
      · have h := h.2 c
        refine am_iload_n (j := 2) d_RO_setSerial_13 rfl rfl ?_
        refine am_bipush (v := (30 : Int32)) d_RO_setSerial_14 (by decide) ?_
        refine aj_ge (F := am_oM) (tgt := 31) d_RO_setSerial_16 (by decide) (fun c => ?_) (fun c => ?_)
        · have h := h.1 c
          exact am_vret d_RO_setSerial_31 rfl (by decide) (by decide) am_oM_ok
        · have h := h.2 c
          refine am_aload_n (j := 0) d_RO_setSerial_19 rfl rfl ?_
          obtain ⟨⟨b1, t1⟩, h⟩ := h
          obtain ⟨⟨b2, t2⟩, h⟩ := h
          refine am_getR (t := (am_lk i 1)) d_RO_setSerial_20 fl_RO_15 hg b1 t1 (by decide) rfl (am_ne0 t1) rfl b2 ?_
          refine am_iload_n (j := 1) d_RO_setSerial_23 rfl rfl ?_
          refine am_bipush (v := (30 : Int32)) d_RO_setSerial_24 (by decide) ?_
          refine am_imul d_RO_setSerial_26 ?_
          refine am_iload_n (j := 2) d_RO_setSerial_27 rfl rfl ?_
          refine am_iadd d_RO_setSerial_28 ?_
          refine am_iload_n (j := 3) d_RO_setSerial_29 rfl rfl ?_
          obtain ⟨hv, h⟩ := h
          refine am_iast d_RO_setSerial_30 b2 t2 hv ?_
          exact am_vret d_RO_setSerial_31 rfl (by decide) (by decide) am_oM_ok
theorem ct_RO_setSerial {l : Launch} {g : am_Gl} (hg : g.2.2.2.1 = true) {s : am_M} {i : Nat} {x1 : Int32} {x2 : Int32} {x3 : Int32} (h : p_RO_setSerial s i x1 x2 x3) : AC l g m_RO_setSerial 207 s [.ref i, .int x1, .int x2, .int x3] (am_oM (f_RO_setSerial s i x1 x2 x3)) := am_enter ok_RO_setSerial rfl (Nat.le_of_ble_eq_true rfl) rfl (fun ad0 => w_RO_setSerial hg h)
def f_AC_keepDraft  (s : am_M) (i : Nat) (x1 : Nat) : am_M := (if (6 : Int32) ≤ (s i 1) then s else (am_put s (am_lk (am_lk (am_lk i 0) ((s i 1)).toNatClampNeg) 4) (va_cpy (s x1) (s (am_lk (am_lk (am_lk i 0) ((s i 1)).toNatClampNeg) 4)) ((0 : Int32)).toNatClampNeg ((0 : Int32)).toNatClampNeg ((6 : Int32)).toNatClampNeg)))
def p_AC_keepDraft  (s : am_M) (i : Nat) (x1 : Nat) : Prop := (i < 207 ∧ am_sh i = (0, 0, 2)) ∧ ((((6 : Int32) ≤ (s i 1)) → True) ∧ (¬ ((6 : Int32) ≤ (s i 1)) → ((am_lk i 0) < 207 ∧ am_sh (am_lk i 0) = (1, 8, 6)) ∧ (vp_in (s i 1) 6 ∧ (((am_lk (am_lk i 0) ((s i 1)).toNatClampNeg) < 207 ∧ am_sh (am_lk (am_lk i 0) ((s i 1)).toNatClampNeg) = (0, 8, 5)) ∧ (((am_lk (am_lk (am_lk i 0) ((s i 1)).toNatClampNeg) 4) < 207 ∧ am_sh (am_lk (am_lk (am_lk i 0) ((s i 1)).toNatClampNeg) 4) = (1, 0, 6)) ∧ ((x1 < 207 ∧ am_sh x1 = (1, 0, (am_sh x1).2.2)) ∧ ((¬ (0 : Int32) < 0 ∧ ¬ (0 : Int32) < 0 ∧ ¬ (6 : Int32) < 0 ∧ ((0 : Int32)).toNatClampNeg + ((6 : Int32)).toNatClampNeg ≤ (am_sh x1).2.2 ∧ ((0 : Int32)).toNatClampNeg + ((6 : Int32)).toNatClampNeg ≤ 6) ∧ (True))))))))
set_option maxRecDepth 8000 in
theorem w_AC_keepDraft {l : Launch} {g : am_Gl} (hg : g.2.2.2.1 = true) {ad0 : Nat → Nat} {s : am_M} {i : Nat} {x1 : Nat} (h : p_AC_keepDraft s i x1) : AW l g m_AC_keepDraft 207 ad0 (am_oM (f_AC_keepDraft s i x1)) 0 0 207 s 0 [(0, .ref i), (1, .ref x1)] [] := by
  refine am_aload_n (j := 0) d_AC_keepDraft_0 rfl rfl ?_
  obtain ⟨⟨b1, t1⟩, h⟩ := h
  refine am_getI d_AC_keepDraft_1 fl_AC_18 b1 t1 (by decide) rfl ?_
  refine am_bipush (v := (6 : Int32)) d_AC_keepDraft_4 (by decide) ?_
  refine aj_ge (F := am_oM) (tgt := 29) d_AC_keepDraft_6 (by decide) (fun c => ?_) (fun c => ?_)
  · have h := h.1 c
    exact am_vret d_AC_keepDraft_29 rfl (by decide) (by decide) am_oM_ok
  · have h := h.2 c
    refine am_aload_n (j := 1) d_AC_keepDraft_9 rfl rfl ?_
    refine am_iconst (v := (0 : Int32)) d_AC_keepDraft_10 (by decide) ?_
    refine am_aload_n (j := 0) d_AC_keepDraft_11 rfl rfl ?_
    obtain ⟨⟨b2, t2⟩, h⟩ := h
    refine am_getR (t := (am_lk i 0)) d_AC_keepDraft_12 fl_AC_11 hg b1 t1 (by decide) rfl (am_ne0 t1) rfl b2 ?_
    refine am_aload_n (j := 0) d_AC_keepDraft_15 rfl rfl ?_
    refine am_getI d_AC_keepDraft_16 fl_AC_18 b1 t1 (by decide) rfl ?_
    obtain ⟨hv, h⟩ := h
    obtain ⟨⟨b3, t3⟩, h⟩ := h
    refine am_aalL d_AC_keepDraft_19 hg b2 t2 (by decide) (am_ne1 t2 (by decide)) hv rfl b3 ?_
    obtain ⟨⟨b4, t4⟩, h⟩ := h
    refine am_getR (t := (am_lk (am_lk (am_lk i 0) ((s i 1)).toNatClampNeg) 4)) d_AC_keepDraft_20 fl_AC_22 hg b3 t3 (by decide) rfl (am_ne0 t3) rfl b4 ?_
    refine am_iconst (v := (0 : Int32)) d_AC_keepDraft_23 (by decide) ?_
    refine am_bipush (v := (6 : Int32)) d_AC_keepDraft_24 (by decide) ?_
    obtain ⟨⟨b5, t5⟩, h⟩ := h
    obtain ⟨⟨q1, q2, q3, q4, q5⟩, h⟩ := h
    refine am_copy d_AC_keepDraft_26 aw_5_54 b5 b4 t5 t4 q1 q2 q3 q4 q5 (Nat.le_of_ble_eq_true rfl) (by decide) ?_
    exact am_vret d_AC_keepDraft_29 rfl (by decide) (by decide) am_oM_ok
theorem ct_AC_keepDraft {l : Launch} {g : am_Gl} (hg : g.2.2.2.1 = true) {s : am_M} {i : Nat} {x1 : Nat} (h : p_AC_keepDraft s i x1) : AC l g m_AC_keepDraft 207 s [.ref i, .ref x1] (am_oM (f_AC_keepDraft s i x1)) := am_enter ok_AC_keepDraft rfl (Nat.le_of_ble_eq_true rfl) rfl (fun ad0 => w_AC_keepDraft hg h)
def f_AC_addStep  (s : am_M) (i : Nat) (x1 : Int32) (x2 : Int32) (x3 : Int32) (x4 : Int32) : Int32 × am_M := (if (6 : Int32) ≤ (s i 1) then ((s i 1), s) else (((am_set (am_set (am_set (am_set (am_set s (am_lk (am_lk i 0) ((s i 1)).toNatClampNeg) 0 x1) (am_lk (am_lk i 0) ((s i 1)).toNatClampNeg) 1 x2) (am_lk (am_lk i 0) ((s i 1)).toNatClampNeg) 2 x3) (am_lk (am_lk i 0) ((s i 1)).toNatClampNeg) 3 x4) i 1 (((am_set (am_set (am_set (am_set s (am_lk (am_lk i 0) ((s i 1)).toNatClampNeg) 0 x1) (am_lk (am_lk i 0) ((s i 1)).toNatClampNeg) 1 x2) (am_lk (am_lk i 0) ((s i 1)).toNatClampNeg) 2 x3) (am_lk (am_lk i 0) ((s i 1)).toNatClampNeg) 3 x4) i 1) + (1 : Int32))) i 1), (am_set (am_set (am_set (am_set (am_set s (am_lk (am_lk i 0) ((s i 1)).toNatClampNeg) 0 x1) (am_lk (am_lk i 0) ((s i 1)).toNatClampNeg) 1 x2) (am_lk (am_lk i 0) ((s i 1)).toNatClampNeg) 2 x3) (am_lk (am_lk i 0) ((s i 1)).toNatClampNeg) 3 x4) i 1 (((am_set (am_set (am_set (am_set s (am_lk (am_lk i 0) ((s i 1)).toNatClampNeg) 0 x1) (am_lk (am_lk i 0) ((s i 1)).toNatClampNeg) 1 x2) (am_lk (am_lk i 0) ((s i 1)).toNatClampNeg) 2 x3) (am_lk (am_lk i 0) ((s i 1)).toNatClampNeg) 3 x4) i 1) + (1 : Int32)))))
def p_AC_addStep  (s : am_M) (i : Nat) (x1 : Int32) (x2 : Int32) (x3 : Int32) (x4 : Int32) : Prop := (i < 207 ∧ am_sh i = (0, 0, 2)) ∧ ((((6 : Int32) ≤ (s i 1)) → True) ∧ (¬ ((6 : Int32) ≤ (s i 1)) → ((am_lk i 0) < 207 ∧ am_sh (am_lk i 0) = (1, 8, 6)) ∧ (vp_in (s i 1) 6 ∧ (((am_lk (am_lk i 0) ((s i 1)).toNatClampNeg) < 207 ∧ am_sh (am_lk (am_lk i 0) ((s i 1)).toNatClampNeg) = (0, 8, 5)) ∧ (True)))))
set_option maxRecDepth 8000 in
theorem w_AC_addStep {l : Launch} {g : am_Gl} (hg : g.2.2.2.1 = true) {ad0 : Nat → Nat} {s : am_M} {i : Nat} {x1 : Int32} {x2 : Int32} {x3 : Int32} {x4 : Int32} (h : p_AC_addStep s i x1 x2 x3 x4) : AW l g m_AC_addStep 207 ad0 (am_oC (f_AC_addStep s i x1 x2 x3 x4)) 0 0 207 s 0 [(0, .ref i), (1, .int x1), (2, .int x2), (3, .int x3), (4, .int x4)] [] := by
  refine am_aload_n (j := 0) d_AC_addStep_0 rfl rfl ?_
  obtain ⟨⟨b1, t1⟩, h⟩ := h
  refine am_getI d_AC_addStep_1 fl_AC_18 b1 t1 (by decide) rfl ?_
  refine am_bipush (v := (6 : Int32)) d_AC_addStep_4 (by decide) ?_
  refine aj_ge (F := am_oC) (tgt := 55) d_AC_addStep_6 (by decide) (fun c => ?_) (fun c => ?_)
  · have h := h.1 c
    refine am_aload_n (j := 0) d_AC_addStep_55 rfl rfl ?_
    refine am_getI d_AC_addStep_56 fl_AC_18 b1 t1 (by decide) rfl ?_
    exact am_iret d_AC_addStep_59 rfl rfl (by decide) (by decide) am_oC_ok
  · have h := h.2 c
    refine am_aload_n (j := 0) d_AC_addStep_9 rfl rfl ?_
    obtain ⟨⟨b2, t2⟩, h⟩ := h
    refine am_getR (t := (am_lk i 0)) d_AC_addStep_10 fl_AC_11 hg b1 t1 (by decide) rfl (am_ne0 t1) rfl b2 ?_
    refine am_aload_n (j := 0) d_AC_addStep_13 rfl rfl ?_
    refine am_getI d_AC_addStep_14 fl_AC_18 b1 t1 (by decide) rfl ?_
    obtain ⟨hv, h⟩ := h
    obtain ⟨⟨b3, t3⟩, h⟩ := h
    refine am_aalL d_AC_addStep_17 hg b2 t2 (by decide) (am_ne1 t2 (by decide)) hv rfl b3 ?_
    refine am_astore (lv2 := [(5, .ref (am_lk (am_lk i 0) ((s i 1)).toNatClampNeg)), (0, .ref i), (1, .int x1), (2, .int x2), (3, .int x3), (4, .int x4)]) d_AC_addStep_18 (by decide) rfl ?_
    refine am_aload (j := 0) d_AC_addStep_20 rfl ?_
    refine am_iload_n (j := 2) d_AC_addStep_22 rfl rfl ?_
    refine am_putI (ty := .int) d_AC_addStep_23 fl_AC_32 ft_8_0 b3 t3 (by decide) rfl rfl rfl ?_
    refine am_aload (j := 0) d_AC_addStep_26 rfl ?_
    refine am_iload_n (j := 3) d_AC_addStep_28 rfl rfl ?_
    refine am_putI (ty := .int) d_AC_addStep_29 fl_AC_35 ft_8_1 b3 t3 (by decide) rfl rfl rfl ?_
    refine am_aload (j := 0) d_AC_addStep_32 rfl ?_
    refine am_iload_n (j := 4) d_AC_addStep_34 rfl rfl ?_
    refine am_putI (ty := .int) d_AC_addStep_35 fl_AC_38 ft_8_2 b3 t3 (by decide) rfl rfl rfl ?_
    refine am_aload (j := 0) d_AC_addStep_38 rfl ?_
    refine am_iload (j := 5) d_AC_addStep_40 rfl ?_
    refine am_putI (ty := .int) d_AC_addStep_42 fl_AC_41 ft_8_3 b3 t3 (by decide) rfl rfl rfl ?_
    refine am_aload_n (j := 1) d_AC_addStep_45 rfl rfl ?_
    refine am_dup d_AC_addStep_46 rfl ?_
    refine am_getI d_AC_addStep_47 fl_AC_18 b1 t1 (by decide) rfl ?_
    refine am_iconst (v := (1 : Int32)) d_AC_addStep_50 (by decide) ?_
    refine am_iadd d_AC_addStep_51 ?_
    refine am_putI (ty := .int) d_AC_addStep_52 fl_AC_18 ft_0_1 b1 t1 (by decide) rfl rfl rfl ?_
    refine am_aload_n (j := 1) d_AC_addStep_55 rfl rfl ?_
    refine am_getI d_AC_addStep_56 fl_AC_18 b1 t1 (by decide) rfl ?_
    exact am_iret d_AC_addStep_59 rfl rfl (by decide) (by decide) am_oC_ok
theorem ct_AC_addStep {l : Launch} {g : am_Gl} (hg : g.2.2.2.1 = true) {s : am_M} {i : Nat} {x1 : Int32} {x2 : Int32} {x3 : Int32} {x4 : Int32} (h : p_AC_addStep s i x1 x2 x3 x4) : AC l g m_AC_addStep 207 s [.ref i, .int x1, .int x2, .int x3, .int x4] (am_oC (f_AC_addStep s i x1 x2 x3 x4)) := am_enter ok_AC_addStep rfl (Nat.le_of_ble_eq_true rfl) rfl (fun ad0 => w_AC_addStep hg h)
end
