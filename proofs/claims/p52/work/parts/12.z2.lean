noncomputable section
-- questions: a plain question's answers, the class
def q_jn (R Q : am_M) (j : Nat) (a : q_An) : q_An := if Q (67 + 7 * j) 2 = -1 then a else (fun c => if q_c (Q (67 + 7 * j) 8) ≤ c then R 2 (180 * q_c (Q (67 + 7 * j) 3) + 6 * q_c (a.1 (q_c (Q (67 + 7 * j) 2))) + (c - q_c (Q (67 + 7 * j) 8))) else a.1 c, fun p => if p = q_c (Q (67 + 7 * j) 9) - 1 then a.1 (q_c (Q (67 + 7 * j) 2)) else a.2 p)
def q_kp (R Q : am_M) (j : Nat) (a : q_An) : Prop := (Q (67 + 7 * j) 2 = -1 ∨ a.1 (q_c (Q (67 + 7 * j) 2)) ≠ -1000000) ∧ q_ct Q j (q_jn R Q j a).1
def q_shP (R Q : am_M) (j : Nat) : List q_An → List q_An
  | [] => []
  | a :: l => @ite (List q_An) (q_kp R Q j a) (Classical.propDecidable _) (q_jn R Q j a :: q_shP R Q j l) (q_shP R Q j l)
theorem q_shP_y {R Q : am_M} {j : Nat} {a : q_An} {l : List q_An} (h : q_kp R Q j a) : q_shP R Q j (a :: l) = q_jn R Q j a :: q_shP R Q j l := if_pos h
theorem q_shP_n {R Q : am_M} {j : Nat} {a : q_An} {l : List q_An} (h : ¬ q_kp R Q j a) : q_shP R Q j (a :: l) = q_shP R Q j l := if_neg h
/-- an answer of a source: its cells are cells of rows -/
def q_s1 (A R Q : am_M) (src : Nat) (a : q_An) : Prop := ∀ c, c < q_sw A Q src → q_v (a.1 c) ∧ ∀ T C, T < 4 → C < 6 → q_so Q src c = nI (10 * T + C) → ∃ r, r < 30 ∧ R 1 (30 * T + r) ≠ 0 ∧ a.1 c = R 2 (180 * T + 6 * r + C) ∧ a.2 (q_sp Q src c) = nI r
def q_si (A R Q : am_M) (src : Nat) (l : List q_An) : Prop := ∀ a, a ∈ l → q_s1 A R Q src a
theorem q_subI (m k : Nat) : nI (m + k) - nI k = nI m := by rw [← nI_add, Int32.add_sub_cancel]
theorem q_x41 {A R : am_M} (wr : q_wr A R) {T C J r : Nat} (hT : T < 4) (hC : C < 6) (hr : r < 30) (h1 : A 209 (6 * T + C) = 1) (h2 : A 212 (6 * T + C) = nI J) (hJ : J < 4) (hh : R 1 (30 * T + r) ≠ 0) : R 2 (180 * T + 6 * r + C) = -1000000 ∨ ∃ x, x < 30 ∧ R 2 (180 * T + 6 * r + C) = nI x ∧ R 1 (30 * J + x) ≠ 0 := by
  have e1 : (30 * T + r) / 30 = T := by omega
  have g := wr.2.2.2.2 (30 * T + r) C (by omega) hC hh (by rw [e1]; exact h1)
  have e2 : q_tg A (6 * T + C) = J := by unfold q_tg; rw [h2]; exact q_cI (by omega)
  rw [e1, e2, show 6 * (30 * T + r) + C = 180 * T + 6 * r + C from by omega] at g
  exact g
theorem qa_45 {R Q : am_M} {j k J r u w : Nat} (hj : j < 8) (hk : k < 30) (hJ : J < 4) (hr : r < 30) (hw : w ≤ 54) (huw : w - u ≤ 6) (h1 : R 1 (30 * J + r) ≠ 0) (q3 : Q (67 + 7 * j) 3 = nI J) (q7 : Q (67 + 7 * j) 7 = nI w) (q8 : Q (67 + 7 * j) 8 = nI u) : ∀ (d i n : Nat) (s : am_M), u + i + d = w → d < n → q_qc s Q → q_cb s 9 10 11 R → ∃ S, q_out s S (fun a b => a = 61 ∧ 54 * k + u + i ≤ b ∧ b < 54 * k + w) ∧ (∀ c, u + i ≤ c → c < w → S 61 (54 * k + c) = R 2 (180 * J + 6 * r + (c - u))) ∧ f_AS_joinTo_45 n s (67 + 7 * j) (nI k) (nI r) (nI (u + i)) = f_AS_joinTo_89 S (67 + 7 * j) (nI k) (nI r) (nI w) ∧ (p_AS_joinTo_89 S (67 + 7 * j) (nI k) (nI r) (nI w) → p_AS_joinTo_45 n s (67 + 7 * j) (nI k) (nI r) (nI (u + i))) := by
  have psh : 67 + 7 * j < 207 ∧ am_sh (67 + 7 * j) = (0, 4, 17) := ⟨by omega, (qa_sh hj).1⟩
  intro d
  induction d with
  | zero =>
    intro i n s hi hn qc cb
    obtain ⟨n, rfl⟩ : ∃ k, n = k + 1 := ⟨n - 1, by omega⟩
    have l : s (67 + 7 * j) 7 ≤ nI (u + i) := by rw [qc.2 _ (by omega) (by omega), q7]; exact qn_le (by omega) (by omega)
    unfold f_AS_joinTo_45 p_AS_joinTo_45
    rw [if_pos l]
    exact ⟨s, fun _ _ _ => rfl, fun c a b => absurd b (by omega), by rw [show u + i = w from by omega], fun q => ⟨psh, fun _ => by rw [show u + i = w from by omega]; exact q, fun q2 => absurd l q2⟩⟩
  | succ d ih =>
    intro i n s hi hn qc cb
    obtain ⟨n, rfl⟩ : ∃ k, n = k + 1 := ⟨n - 1, by omega⟩
    have l : ¬ s (67 + 7 * j) 7 ≤ nI (u + i) := by rw [qc.2 _ (by omega) (by omega), q7]; exact nI_ge (by omega) (by omega)
    have e1 : nI (u + i) + (1 : Int32) = nI (u + (i + 1)) := nI_add (u + i) 1
    have e2 : nI (u + i) - nI u = nI i := by rw [Nat.add_comm]; exact q_subI i u
    have hget := qr_cell cb hJ hr (show i < 6 by omega) h1
    have hst := qa_set s hk (show u + i < 54 by omega) (R 2 (180 * J + 6 * r + i))
    obtain ⟨S, i1, i2, i3, i4⟩ := ih (i + 1) n (am_set s 61 (54 * k + (u + i)) (R 2 (180 * J + 6 * r + i))) (by omega) (by omega) (q_qc_out (P := fun a _ => a = 61) (fun a b q => am_set_p (Or.inl q)) (fun a b q => by omega) qc) (q_cb_set (by omega) cb)
    unfold f_AS_joinTo_45 p_AS_joinTo_45
    rw [if_neg l, qc.2 _ (by omega) (by omega), q3, q8, e2, hget, hst.2, e1]
    refine ⟨S, fun a b q => by rw [i1 a b (by omega), am_set_p (by omega)], fun c c1 c2 => ?_, i3, fun q => ⟨psh, fun q2 => absurd (by rw [qc.2 _ (by omega) (by omega)]; exact q2) l, fun _ => ⟨qr_pget _ _ _ _, hst.1, i4 q⟩⟩⟩
    by_cases hc : c = u + i
    · rw [hc, i1 61 _ (by omega), am_set_q, show u + i - u = i from by omega]
    · exact i2 c (by omega) c2
theorem qa_join {s A R Q : am_M} (qc : q_qc s Q) (w : q_wd A) (wr : q_wr A R) (cb : q_cb s 9 10 11 R) {j k src : Nat} (hj : j < 8) (hk : k < 30) (qp : q_qp A Q j src) {a : q_An} (ha : q_s1 A R Q src a) (h61 : ∀ c, c < q_sw A Q src → s 61 (54 * k + c) = a.1 c) (h62 : ∀ p, p < q_sn Q src → s 62 (9 * k + p) = a.2 p) : p_AS_joinTo s (nI k) (67 + 7 * j) ∧ ∃ v t, f_AS_joinTo s (nI k) (67 + 7 * j) = (v, t) ∧ q_out s t (fun a b => (a = 61 ∧ 54 * k ≤ b ∧ b < 54 * k + 54) ∨ (a = 62 ∧ 9 * k ≤ b ∧ b < 9 * k + 9)) ∧ ((v = 0 ∧ ¬ (Q (67 + 7 * j) 2 = -1 ∨ a.1 (q_c (Q (67 + 7 * j) 2)) ≠ -1000000)) ∨ (v = 1 ∧ (Q (67 + 7 * j) 2 = -1 ∨ a.1 (q_c (Q (67 + 7 * j) 2)) ≠ -1000000) ∧ (∀ c, c < q_c (Q (67 + 7 * j) 7) → t 61 (54 * k + c) = (q_jn R Q j a).1 c) ∧ ∀ p, p < q_c (Q (67 + 7 * j) 9) → t 62 (9 * k + p) = (q_jn R Q j a).2 p)) := by
  have psh : 67 + 7 * j < 207 ∧ am_sh (67 + 7 * j) = (0, 4, 17) := ⟨by omega, (qa_sh hj).1⟩
  obtain ⟨-, -, -, u, W, n, a1, a2, a3, a4, a5, a6, a7, a8, -⟩ := qp
  have h4 := w.1.2
  have eW : q_c (Q (67 + 7 * j) 7) = W := by rw [a2]; exact q_cI (by omega)
  have en : q_c (Q (67 + 7 * j) 9) = n := by rw [a3]; exact q_cI (by omega)
  have eu : q_c (Q (67 + 7 * j) 8) = u := by
    rw [a1]
    rcases a8 with ⟨-, g, -⟩ | ⟨c, T, C, J, -, -, -, -, -, -, -, -, -, g, -⟩ <;> exact q_cI (by omega)
  have hsx : ∀ f, s (67 + 7 * j) f = Q (67 + 7 * j) f := fun f => by rw [qc.2 _ (by omega) (by omega)]
  unfold p_AS_joinTo f_AS_joinTo q_jn
  rw [eW, en, eu, hsx 2]
  rcases a8 with ⟨b1, b2, b3⟩ | ⟨c, T, C, J, b1, b2, b3, b4, b5, b6, b7, b8, b9, b10, b11, b12, b13⟩
  · have l : ¬ (0 : Int32) ≤ -1 := by decide
    rw [b1, if_neg l, if_pos rfl]
    exact ⟨⟨psh, fun q => absurd q l, fun _ => trivial⟩, 1, s, rfl, fun _ _ _ => rfl, Or.inr ⟨rfl, Or.inl rfl, fun c hc => h61 c (by omega), fun p hp => h62 p (by omega)⟩⟩
  · have hu54 : u ≤ 54 := by omega
    have l : (0 : Int32) ≤ nI c := nI_le (a := 0) (Nat.zero_le _) (by omega)
    have n1 : ¬ nI c = -1 := fun q => by
      have := qz (n := c) (by omega)
      rw [q] at this; exact this (by decide)
    have hget := qa_get s hk (show c < 54 by omega)
    rw [h61 c (by omega)] at hget
    obtain ⟨hv, hrow⟩ := ha c (by omega)
    obtain ⟨r0, r1, r2, r3, r4⟩ := hrow T C (by omega) b5 b3
    have hx := q_x41 wr (show T < 4 by omega) b5 r1 b6 b7 (by omega) r2
    rw [← r3] at hx
    rw [b1, if_pos l, if_neg n1, q_cI (n := c) (by omega), hsx 3, b8, hget.2]
    have q3 : q_c (nI J) = J := q_cI (by omega)
    have hhas := qr_has cb (show J < 4 by omega) (a.1 c)
    rw [hhas, q3]
    rcases hx with hx | ⟨x, x1, x2, x3⟩
    · rw [if_neg (by rw [hx]; exact q_blank_hs), if_pos rfl]
      refine ⟨⟨psh, fun _ => ⟨hget.1, qr_phas _ _ _, fun _ => trivial, fun q => absurd rfl q⟩, fun q => absurd l q⟩, 0, s, rfl, fun _ _ _ => rfl, Or.inl ⟨rfl, fun q => ?_⟩⟩
      rcases q with q | q
      · exact n1 q
      · exact q hx
    · have hs1 : q_hs R J (a.1 c) := by rw [x2]; exact (q_hs_I x1).mpr x3
      have nb : a.1 c ≠ -1000000 := fun q => by
        rw [q] at hs1; exact q_blank_hs hs1
      rw [if_pos hs1, if_neg i10, x2, hsx 8, a1]
      have hW6 : W - u ≤ 6 := by
        have := (w.2.1 J (by omega)).2.1
        omega
      obtain ⟨S, j1, j2, j3, j4⟩ := qa_45 (R := R) hj hk (show J < 4 by omega) x1 (show W ≤ 54 by omega) hW6 x3 b8 a2 a1 (W - u) 0 am_F s (by omega) (by rw [am_F_eq]; omega) qc cb
      rw [Nat.add_zero] at j3 j4
      rw [j3]
      unfold f_AS_joinTo_89
      unfold p_AS_joinTo_89 at j4
      have hS9 : S (67 + 7 * j) 9 = nI n := by rw [j1 _ _ (by omega), hsx 9]; exact a3
      have e9 : nI n - (1 : Int32) = nI (n - 1) := by
        have := q_subI (n - 1) 1
        rw [show n - 1 + 1 = n from by omega] at this; exact this
      have hrw := qa_setRow S hk (show n - 1 < 9 by omega) (nI x)
      rw [hS9, e9] at j4 ⊢
      rw [hrw.2]
      refine ⟨⟨psh, fun _ => ⟨hget.1, qr_phas _ _ _, fun q => absurd q i10, fun _ => j4 ⟨psh, hrw.1, trivial⟩⟩, fun q => absurd l q⟩, 1, _, rfl, fun a' b q => by rw [am_set_p (by omega), j1 a' b (by omega)], Or.inr ⟨rfl, Or.inr (by rw [← x2]; exact nb), fun e he => ?_, fun p hp => ?_⟩⟩
      · rw [am_set_p (by omega)]
        dsimp only
        by_cases hue : u ≤ e
        · rw [if_pos hue, j2 e (by omega) he, q_cI (n := x) (by omega)]
        · rw [if_neg hue, j1 _ _ (by omega)]; exact h61 e (by omega)
      · dsimp only
        by_cases hpe : p = n - 1
        · rw [if_pos hpe, hpe, am_set_q]
        · rw [if_neg hpe, am_set_p (by omega), j1 _ _ (by omega)]; exact h62 p (by omega)
end
