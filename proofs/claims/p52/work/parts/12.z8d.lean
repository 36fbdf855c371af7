noncomputable section
-- questions: the model lays a table's rows
/-- the model's slot g holds answers of a source from place m on, and their rows -/
def q_mx (s : am_M) (g : Nat) (Q : am_M) (src W : Nat) (l : List q_An) (m : Nat) : Prop := ∀ i, i < l.length → ∀ c, c < W → s 250 (1620 * g + 54 * (m + i) + c) = (l.getD i q_A0).1 c ∧ (q_so Q src c ≠ -1 → s 251 (1620 * g + 54 * (m + i) + c) = (l.getD i q_A0).2 (q_sp Q src c))
theorem q_mx_ml {s : am_M} {g : Nat} {Q : am_M} {src W : Nat} {l : List q_An} {m : Nat} (h : q_mx s g Q src W l m) : q_ml s g l W m := fun i hi c hc => (h i hi c hc).1
theorem q_mx_t {s : am_M} {g : Nat} {Q : am_M} {src W : Nat} {a : q_An} {l : List q_An} {m : Nat} (h : q_mx s g Q src W (a :: l) m) : (∀ c, c < W → s 250 (1620 * g + 54 * m + c) = a.1 c ∧ (q_so Q src c ≠ -1 → s 251 (1620 * g + 54 * m + c) = a.2 (q_sp Q src c))) ∧ q_mx s g Q src W l (m + 1) := by
  have g1 := h 0 (by rw [List.length_cons]; omega)
  rw [Nat.add_zero] at g1
  refine ⟨g1, fun i hi => ?_⟩
  have := h (i + 1) (by rw [List.length_cons]; omega)
  rw [show m + (i + 1) = m + 1 + i from by omega] at this
  exact this
theorem q_mx_c {s : am_M} {g : Nat} {Q : am_M} {src W : Nat} {a : q_An} {l : List q_An} {m : Nat} (h1 : ∀ c, c < W → s 250 (1620 * g + 54 * m + c) = a.1 c ∧ (q_so Q src c ≠ -1 → s 251 (1620 * g + 54 * m + c) = a.2 (q_sp Q src c))) (h : q_mx s g Q src W l (m + 1)) : q_mx s g Q src W (a :: l) m := by
  intro i hi
  cases i with
  | zero => intro c hc; rw [Nat.add_zero]; exact h1 c hc
  | succ i =>
    have hi' : i < l.length := by rw [List.length_cons] at hi; omega
    rw [show m + (i + 1) = m + 1 + i from by omega]
    exact h i hi'
theorem q_mx_o {s t : am_M} {g : Nat} {Q : am_M} {src W : Nat} {l : List q_An} {m : Nat} (h : ∀ a b, (a = 250 ∨ a = 251) → 1620 * g + 54 * m ≤ b → b < 1620 * g + 54 * (m + l.length) → t a b = s a b) (hW : W ≤ 54) (hs : q_mx s g Q src W l m) : q_mx t g Q src W l m := fun i hi c hc => by
  rw [h 250 _ (Or.inl rfl) (by omega) (by omega), h 251 _ (Or.inr rfl) (by omega) (by omega)]; exact hs i hi c hc
theorem q_sh0_z {R : am_M} {T : Nat} : ∀ (d r : Nat), (∀ k, r ≤ k → k < r + d → R 1 (30 * T + k) = 0) → q_sh0 R T d r = [] := by
  intro d
  induction d with
  | zero => intro r _; rfl
  | succ d ih =>
    intro r h
    unfold q_sh0
    rw [if_pos (h r (Nat.le_refl _) (by omega)), ih (r + 1) (fun k h1 h2 => h k (by omega) (by omega))]
theorem q_sh0_a {R : am_M} {T e : Nat} : ∀ (d r : Nat), (∀ k, r + d ≤ k → k < r + d + e → R 1 (30 * T + k) = 0) → q_sh0 R T (d + e) r = q_sh0 R T d r := by
  intro d
  induction d with
  | zero => intro r h; rw [Nat.zero_add]; exact q_sh0_z e r (fun k h1 h2 => h k (by omega) (by omega))
  | succ d ih =>
    intro r h
    rw [show d + 1 + e = d + e + 1 from by omega]
    have hx : ∀ d, q_sh0 R T (d + 1) r = if R 1 (30 * T + r) = 0 then q_sh0 R T d (r + 1) else (fun c => R 2 (180 * T + 6 * r + c), fun _ => nI r) :: q_sh0 R T d (r + 1) := fun _ => rfl
    rw [hx, hx, ih (r + 1) (fun k h1 h2 => h k (by omega) (by omega))]
theorem qm_70 {R : am_M} {T r g m : Nat} (hT : T < 4) (hr : r < 30) (hg : g < 12) (hm : m < 30) (h1 : R 1 (30 * T + r) ≠ 0) (x2 : Int32) (K : am_M → Int32 → Int32 → Int32 → am_M) (KP : am_M → Int32 → Int32 → Int32 → Prop) : ∀ (d c n : Nat) (s : am_M), c + d = 6 → d < n → q_mb s R → ∃ S, q_out s S (fun a b => (a = 250 ∨ a = 251) ∧ 1620 * g + 54 * m + c ≤ b ∧ b < 1620 * g + 54 * m + 54) ∧ (∀ j, c ≤ j → j < 6 → S 250 (1620 * g + 54 * m + j) = R 2 (180 * T + 6 * r + j) ∧ S 251 (1620 * g + 54 * m + j) = nI r) ∧ f_MO_laysTable_70 K n s (nI T) x2 (nI r) (nI (1620 * g + 54 * m)) (nI c) = f_MO_laysTable_116 K S (nI T) x2 (nI r) (nI (1620 * g + 54 * m)) (nI 6) ∧ (p_MO_laysTable_116 KP S (nI T) x2 (nI r) (nI (1620 * g + 54 * m)) (nI 6) → p_MO_laysTable_70 KP n s (nI T) x2 (nI r) (nI (1620 * g + 54 * m)) (nI c)) := by
  intro d
  induction d with
  | zero =>
    intro c n s hc hn mb
    obtain ⟨n, rfl⟩ : ∃ k, n = k + 1 := ⟨n - 1, by omega⟩
    obtain rfl : c = 6 := by omega
    have l : (6 : Int32) ≤ nI 6 := qg_6 (by omega) (by omega)
    unfold f_MO_laysTable_70 p_MO_laysTable_70
    rw [if_pos l]
    exact ⟨s, fun _ _ _ => rfl, fun j h2 h3 => absurd h3 (by omega), rfl, fun q => ⟨fun _ => q, fun q2 => absurd l q2⟩⟩
  | succ d ih =>
    intro c n s hc hn mb
    obtain ⟨n, rfl⟩ : ∃ k, n = k + 1 := ⟨n - 1, by omega⟩
    have l : ¬ (6 : Int32) ≤ nI c := ql_6 (by omega)
    have e1 : nI c + (1 : Int32) = nI (c + 1) := nI_add c 1
    have v2 : vp_in (nI (1620 * g + 54 * m + c)) 19440 := vp_in_nI (by omega) (by omega)
    have v1 : vp_in (nI (180 * T + 6 * r + c)) 720 := vp_in_nI (by omega) (by omega)
    have hcell : s 230 (180 * T + 6 * r + c) = R 2 (180 * T + 6 * r + c) := mb.2.2 _ (by omega) (by rw [show (180 * T + 6 * r + c) / 6 = 30 * T + r from by omega]; exact h1)
    have oS : q_out s (am_set (am_set s 250 (1620 * g + 54 * m + c) (R 2 (180 * T + 6 * r + c))) 251 (1620 * g + 54 * m + c) (nI r)) (fun a b => (a = 250 ∨ a = 251) ∧ b = 1620 * g + 54 * m + c) := fun a b q => by rw [am_set_p (by omega), am_set_p (by omega)]
    obtain ⟨S, i1, i2, i3, i4⟩ := ih (c + 1) n (am_set (am_set s 250 (1620 * g + 54 * m + c) (R 2 (180 * T + 6 * r + c))) 251 (1620 * g + 54 * m + c) (nI r)) (by omega) (by omega) (q_mb_out oS (fun a b q => by omega) mb)
    unfold f_MO_laysTable_70 p_MO_laysTable_70
    rw [if_neg l, qr_at, nI_add, nI_clamp (n := 1620 * g + 54 * m + c) (by omega), nI_clamp (n := 180 * T + 6 * r + c) (by omega), hcell, e1]
    refine ⟨S, fun a b q => by rw [i1 a b (by omega), oS a b (by omega)], fun j h2 h3 => ?_, i3, fun q => ⟨fun q2 => absurd q2 l, fun _ => ⟨v1, v2, v2, i4 q⟩⟩⟩
    by_cases hj : j = c
    · rw [hj, i1 250 _ (by omega), i1 251 _ (by omega), am_set_p (by omega), am_set_q, am_set_q]; exact ⟨rfl, rfl⟩
    · exact i2 j (by omega) h3
abbrev q_SL (g a b : Nat) : Prop := ((a = 250 ∨ a = 251) ∧ 1620 * g ≤ b ∧ b < 1620 * g + 1620) ∨ ((a = 248 ∨ a = 249) ∧ b = g)
theorem qm_26 {R Q : am_M} {T g M W : Nat} (hT : T < 4) (hg : g < 12) (hM : M ≤ 30) (hW : W ≤ 6) : ∀ (d r m n : Nat) (s : am_M), r + d = M → d < n → m ≤ r → q_mb s R → R 0 T = nI M → s 248 g = nI m → p_MO_laysTable_26 n s (nI T) (nI g) (nI r) ∧ ∃ t, f_MO_laysTable_26 n s (nI T) (nI g) (nI r) = t ∧ q_out s t (fun a b => ((a = 250 ∨ a = 251) ∧ 1620 * g + 54 * m ≤ b ∧ b < 1620 * g + 1620) ∨ (a = 248 ∧ b = g)) ∧ t 248 g = nI (m + (q_sh0 R T d r).length) ∧ q_mx t g Q T W (q_sh0 R T d r) m := by
  intro d
  induction d with
  | zero =>
    intro r m n s hr hn hm mb h0 hf
    obtain ⟨n, rfl⟩ : ∃ k, n = k + 1 := ⟨n - 1, by omega⟩
    have vT : vp_in (nI T) 4 := vp_in_nI (by omega) (by omega)
    have l : s 228 T ≤ nI r := by rw [mb.1 T hT, h0]; exact qn_le (by omega) (by omega)
    unfold f_MO_laysTable_26 p_MO_laysTable_26
    rw [nI_clamp (n := T) (by omega), if_pos l]
    exact ⟨⟨vT, fun _ => trivial, fun q => absurd l q⟩, s, rfl, fun _ _ _ => rfl, hf, fun i hi => absurd hi (Nat.not_lt_zero _)⟩
  | succ d ih =>
    intro r m n s hr hn hm mb h0 hf
    obtain ⟨n, rfl⟩ : ∃ k, n = k + 1 := ⟨n - 1, by omega⟩
    have hr2 : r < 30 := by omega
    have vT : vp_in (nI T) 4 := vp_in_nI (by omega) (by omega)
    have vg : vp_in (nI g) 12 := vp_in_nI (by omega) (by omega)
    have l : ¬ s 228 T ≤ nI r := by rw [mb.1 T hT, h0]; exact nI_ge (by omega) (by omega)
    have e1 : nI r + (1 : Int32) = nI (r + 1) := nI_add r 1
    have ix : (30 : Int32) * nI T + nI r = nI (30 * T + r) := by rw [qw_30, nI_add]
    have v120 : vp_in (nI (30 * T + r)) 120 := vp_in_nI (by omega) (by omega)
    have hth := mb.2.1 (30 * T + r) (by omega)
    have hx : q_sh0 R T (d + 1) r = if R 1 (30 * T + r) = 0 then q_sh0 R T d (r + 1) else (fun c => R 2 (180 * T + 6 * r + c), fun _ => nI r) :: q_sh0 R T d (r + 1) := rfl
    unfold f_MO_laysTable_26 p_MO_laysTable_26
    rw [nI_clamp (n := T) (by omega), if_neg l, ix, nI_clamp (n := 30 * T + r) (by omega), hth]
    by_cases h1 : R 1 (30 * T + r) = 0
    · rw [if_pos h1, if_pos rfl, hx, if_pos h1]
      unfold f_MO_laysTable_126 p_MO_laysTable_126
      rw [e1]
      obtain ⟨i1, t, i2, i3⟩ := ih (r + 1) m n s (by omega) (by omega) (by omega) mb h0 hf
      exact ⟨⟨vT, fun q => absurd q l, fun _ => ⟨v120, fun _ => i1, fun q => absurd rfl q⟩⟩, t, i2, i3⟩
    · rw [if_neg h1, if_neg i10, hx, if_neg h1]
      have eb : (1620 : Int32) * nI g + (54 : Int32) * nI m = nI (1620 * g + 54 * m) := by rw [qw_1620, qw_54, nI_add]
      have cg := nI_clamp (n := g) (by omega)
      obtain ⟨S, j1, j2, j3, j4⟩ := qm_70 hT hr2 hg (show m < 30 by omega) h1 (nI g) (f_MO_laysTable_26 n) (p_MO_laysTable_26 n) 6 0 am_F s (by omega) (by rw [am_F_eq]; omega) mb
      rw [nI_0] at j3 j4
      have hS : S 248 g = nI m := (j1 _ _ (by omega)).trans hf
      have em : nI m + (1 : Int32) = nI (m + 1) := nI_add m 1
      unfold f_MO_laysTable_116 f_MO_laysTable_126 at j3
      unfold p_MO_laysTable_116 p_MO_laysTable_126 at j4
      rw [cg, hS, em, e1] at j3 j4
      have oT : q_out s (am_set S 248 g (nI (m + 1))) (fun a b => ((a = 250 ∨ a = 251) ∧ 1620 * g + 54 * m ≤ b ∧ b < 1620 * g + 54 * m + 54) ∨ (a = 248 ∧ b = g)) := fun a b q => by rw [am_set_p (by omega), j1 a b (by omega)]
      have hv : ∀ j, j < 6 → am_set S 248 g (nI (m + 1)) 250 (1620 * g + 54 * m + j) = R 2 (180 * T + 6 * r + j) ∧ am_set S 248 g (nI (m + 1)) 251 (1620 * g + 54 * m + j) = nI r := fun j hj => by
        rw [am_set_p (by omega), am_set_p (by omega)]; exact j2 j (Nat.zero_le _) hj
      have h48 : am_set S 248 g (nI (m + 1)) 248 g = nI (m + 1) := am_set_q
      generalize am_set S 248 g (nI (m + 1)) = X at *
      obtain ⟨i1, t, i2, i3, i4, i5⟩ := ih (r + 1) (m + 1) n X (by omega) (by omega) (by omega) (q_mb_out oT (fun a b q => by omega) mb) h0 h48
      rw [cg, hf, eb, j3, List.length_cons]
      refine ⟨⟨vT, fun q => absurd q l, fun _ => ⟨v120, fun q => absurd q i10, fun _ => ⟨vg, j4 ⟨vg, vg, i1⟩⟩⟩⟩, t, i2, fun a b q => by rw [i3 a b (by omega), oT a b (by omega)], by rw [i4, show m + 1 + (q_sh0 R T d (r + 1)).length = m + ((q_sh0 R T d (r + 1)).length + 1) from by omega], q_mx_c (fun c hc => ?_) i5⟩
      rw [i3 250 _ (by omega), i3 251 _ (by omega)]
      exact ⟨(hv c (by omega)).1, fun _ => (hv c (by omega)).2⟩
theorem qm_table {s A R : am_M} (Q : am_M) (md : q_md s A) (w : q_wd A) (wr : q_wr A R) (mb : q_mb s R) {T : Nat} (hT : T < 4) : p_MO_laysTable s (nI T) ∧ ∃ t, f_MO_laysTable s (nI T) = t ∧ q_out s t (q_SL (8 + T)) ∧ t 248 (8 + T) = nI (q_sh0 R T 30 0).length ∧ t 249 (8 + T) = nI (q_w A T) ∧ q_mx t (8 + T) Q T (q_w A T) (q_sh0 R T 30 0) 0 := by
  obtain ⟨m1, m2, -⟩ := wr.1 T hT
  obtain ⟨w1, w2, -⟩ := w.2.1 T hT
  have e8 : (8 : Int32) + nI T = nI (8 + T) := nI_add 8 T
  have c8 := nI_clamp (n := 8 + T) (by omega)
  have h208 : am_set s 248 (8 + T) 0 208 T = nI (q_w A T) := by rw [am_set_p (by omega), md.2 208 (by omega) (by omega)]; exact w1
  have v12 : vp_in (nI (8 + T)) 12 := vp_in_nI (by omega) (by omega)
  have eqs : q_sh0 R T 30 0 = q_sh0 R T (q_c (R 0 T)) 0 := by
    have := @q_sh0_a R T (30 - q_c (R 0 T)) (q_c (R 0 T)) 0 (fun k k1 k2 => by
      by_cases h : R 1 (30 * T + k) = 0
      · exact h
      · have := wr.2.1 (30 * T + k) (by omega) h
        rw [show (30 * T + k) % 30 = k from by omega, show (30 * T + k) / 30 = T from by omega] at this
        omega)
    rw [show q_c (R 0 T) + (30 - q_c (R 0 T)) = 30 from by omega] at this
    exact this
  have oS : q_out s (am_set (am_set s 248 (8 + T) 0) 249 (8 + T) (nI (q_w A T))) (fun a b => (a = 248 ∨ a = 249) ∧ b = 8 + T) := fun a b q => by rw [am_set_p (by omega), am_set_p (by omega)]
  obtain ⟨i1, t, i2, i3, i4, i5⟩ := qm_26 (R := R) (Q := Q) hT (show 8 + T < 12 by omega) m2 w2 (q_c (R 0 T)) 0 0 am_F (am_set (am_set s 248 (8 + T) 0) 249 (8 + T) (nI (q_w A T))) (Nat.zero_add _) (by rw [am_F_eq]; omega) (Nat.le_refl _) (q_mb_out oS (fun a b q => by omega) mb) m1 ((am_set_p (by omega)).trans am_set_q)
  rw [nI_0] at i1 i2
  rw [Nat.zero_add] at i4
  unfold p_MO_laysTable f_MO_laysTable
  rw [e8, c8, nI_clamp (n := T) (by omega), h208, eqs]
  exact ⟨⟨v12, vp_in_nI (by omega) (by omega), v12, i1⟩, t, i2, fun a b q => by rw [i3 a b (by omega), oS a b (by omega)], i4, by rw [i3 _ _ (by omega), am_set_q], i5⟩
end
