noncomputable section
-- drop
/-- the design without a column -/
def q_dp (A : am_M) (k : Nat) : am_M := am_set (am_set (am_set A 209 k 3) 218 k 0) 219 k 0
theorem q_dp_o {A : am_M} {k a : Nat} (h1 : a ≠ 209) (h2 : a ≠ 218) (h3 : a ≠ 219) : q_dp A k a = A a := by
  unfold q_dp; rw [am_set_o h3, am_set_o h2, am_set_o h1]
theorem q_dp_9 {A : am_M} {k j : Nat} : q_dp A k 209 j = if j = k then 3 else A 209 j := by
  unfold q_dp
  rw [am_set_o (by omega), am_set_o (by omega)]
  by_cases e : j = k
  · rw [e, if_pos rfl, am_set_q]
  · rw [if_neg e, am_set_p (Or.inr e)]
theorem q_dp_18 {A : am_M} {k j : Nat} : q_dp A k 218 j = if j = k then 0 else A 218 j := by
  unfold q_dp
  rw [am_set_o (by omega)]
  by_cases e : j = k
  · rw [e, if_pos rfl, am_set_q]
  · rw [if_neg e, am_set_p (Or.inr e), am_set_o (by omega)]
theorem q_dp_19 {A : am_M} {k j : Nat} : q_dp A k 219 j = if j = k then 0 else A 219 j := by
  unfold q_dp
  by_cases e : j = k
  · rw [e, if_pos rfl, am_set_q]
  · rw [if_neg e, am_set_p (Or.inr e), am_set_o (by omega), am_set_o (by omega)]
theorem q_dp_nt {A : am_M} {k : Nat} : q_nt (q_dp A k) = q_nt A := by unfold q_nt; rw [q_dp_o (by omega) (by omega) (by omega)]
theorem q_dp_w {A : am_M} {k t : Nat} : q_w (q_dp A k) t = q_w A t := by unfold q_w; rw [q_dp_o (by omega) (by omega) (by omega)]
theorem q_dp_tg {A : am_M} {k t : Nat} : q_tg (q_dp A k) t = q_tg A t := by unfold q_tg; rw [q_dp_o (by omega) (by omega) (by omega)]
theorem q_dp_ok {A : am_M} {k t c : Nat} (h : q_ok A t c) (hne : 6 * t + c ≠ k) : q_ok (q_dp A k) t c := by
  unfold q_ok
  rw [q_dp_nt, q_dp_w, q_dp_9, if_neg hne]; exact h
theorem q_dp_f {A : am_M} {k j : Nat} (h2 : A 209 j = 2) (hno : ¬ q_ucl A k j) (h : q_f A (j / 6) (A 214 j) (A 215 j) (A 216 j) (A 217 j)) (hb : ∀ t c, q_ok A t c → t < 4 ∧ c < 6) : q_f (q_dp A k) (j / 6) (A 214 j) (A 215 j) (A 216 j) (A 217 j) := by
  have u1 : q_u1 A j ≠ k := fun q => hno ⟨h2, Or.inl q⟩
  have u2 : q_u2 A j ≠ k := fun q => hno ⟨h2, Or.inr q⟩
  rcases h with ⟨g1, a, b, g2, g3, g4, g5⟩ | ⟨g1, a, b, g2, g3, g4, g5, g6⟩ | ⟨g1, o, a, b, g2, g3, g4, g5, g6, g7, g8⟩ | ⟨g1, o, a, g2, g3, g5, g6, g7⟩
  · have n3 : ¬ (A 214 j = 3 ∨ A 214 j = 4) := by
      rcases g1 with q | q <;> rw [q] <;> decide
    have n4 : ¬ A 214 j = 4 := fun q => n3 (Or.inr q)
    have n2 : ¬ A 214 j = 2 := by
      rcases g1 with q | q <;> rw [q] <;> decide
    have ha := hb _ _ g4
    have hb' := hb _ _ g5
    have ea : q_c (A 215 j) = a := by rw [g2]; exact nI_clamp (by omega)
    have eb : q_c (A 216 j) = b := by rw [g3]; exact nI_clamp (by omega)
    have e1 : q_u1 A j = 6 * (j / 6) + a := by unfold q_u1 q_tb; rw [if_neg n3, ea]
    have e2 : q_u2 A j = 6 * (j / 6) + b := by unfold q_u2 q_tb; rw [if_neg n4, if_neg n2, if_neg n3, eb]
    exact Or.inl ⟨g1, a, b, g2, g3, q_dp_ok g4 (by omega), q_dp_ok g5 (by omega)⟩
  · have n3 : ¬ (A 214 j = 3 ∨ A 214 j = 4) := by rw [g1]; decide
    have n4 : ¬ A 214 j = 4 := fun q => n3 (Or.inr q)
    have ha := hb _ _ g4
    have hb' := hb _ _ g6
    have ea : q_c (A 215 j) = a := by rw [g2]; exact nI_clamp (by omega)
    have eb : q_c (A 216 j) = b := by rw [g3]; exact nI_clamp (by omega)
    have e1 : q_u1 A j = 6 * (j / 6) + a := by unfold q_u1 q_tb; rw [if_neg n3, ea]
    have e2 : q_u2 A j = 6 * q_tg A (6 * (j / 6) + a) + b := by unfold q_u2; rw [if_neg n4, if_pos g1, e1, eb]
    refine Or.inr (Or.inl ⟨g1, a, b, g2, g3, q_dp_ok g4 (by omega), ?_, ?_⟩)
    · rw [q_dp_9, if_neg (by omega)]; exact g5
    · rw [q_dp_tg]; exact q_dp_ok g6 (by omega)
  · have n4 : ¬ A 214 j = 4 := by rw [g1]; decide
    have n2 : ¬ A 214 j = 2 := by rw [g1]; decide
    have ha := hb _ _ g5
    have hb' := hb _ _ g8
    have ea : q_c (A 215 j) = a := by rw [g3]; exact nI_clamp (by omega)
    have eb : q_c (A 216 j) = b := by rw [g4]; exact nI_clamp (by omega)
    have eo : q_c (A 217 j) = o := by rw [g2]; exact nI_clamp (by omega)
    have e1 : q_u1 A j = 6 * o + a := by unfold q_u1 q_tb; rw [if_pos (Or.inl g1), ea, eo]
    have e2 : q_u2 A j = 6 * o + b := by unfold q_u2 q_tb; rw [if_neg n4, if_neg n2, if_pos (Or.inl g1), eb, eo]
    refine Or.inr (Or.inr (Or.inl ⟨g1, o, a, b, g2, g3, g4, q_dp_ok g5 (by omega), ?_, ?_, q_dp_ok g8 (by omega)⟩))
    · rw [q_dp_9, if_neg (by omega)]; exact g6
    · rw [q_dp_tg]; exact g7
  · have ha := hb _ _ g5
    have ea : q_c (A 215 j) = a := by rw [g3]; exact nI_clamp (by omega)
    have eo : q_c (A 217 j) = o := by rw [g2]; exact nI_clamp (by omega)
    have e1 : q_u1 A j = 6 * o + a := by unfold q_u1 q_tb; rw [if_pos (Or.inr g1), ea, eo]
    refine Or.inr (Or.inr (Or.inr ⟨g1, o, a, g2, g3, q_dp_ok g5 (by omega), ?_, ?_⟩))
    · rw [q_dp_9, if_neg (by omega)]; exact g6
    · rw [q_dp_tg]; exact g7
theorem q_dp_wd {A : am_M} (w : q_wd A) {T C : Nat} (hT : T < q_nt A) (hC : C < q_w A T) (free : ∀ p, p < 24 → ¬ q_ucl A (6 * T + C) p) : q_wd (q_dp A (6 * T + C)) := by
  have h4 := w.1.2
  have hC6 := (w.2.1 T (by omega)).2.1
  have hb : ∀ t c, q_ok A t c → t < 4 ∧ c < 6 := fun t c q => by
    have q1 := q.1
    have q2 := q.2.1
    have := (w.2.1 t (by omega)).2.1
    omega
  refine ⟨⟨?_, ?_⟩, fun t ht => ⟨?_, ?_, fun q => ?_⟩, fun j hj => ⟨fun q => ?_, fun q => ?_⟩, fun j hj q => ⟨?_, ?_⟩, fun j hj => ⟨?_, ?_⟩, fun j hj q => ?_⟩
  · rw [q_dp_nt, q_dp_o (by omega) (by omega) (by omega)]; exact w.1.1
  · rw [q_dp_nt]; exact h4
  · rw [q_dp_w, q_dp_o (by omega) (by omega) (by omega)]; exact (w.2.1 t ht).1
  · rw [q_dp_w]; exact (w.2.1 t ht).2.1
  · rw [q_dp_nt] at q
    rw [q_dp_w]; exact (w.2.1 t ht).2.2 q
  · rw [q_dp_w] at q
    rw [q_dp_9]
    by_cases e : j = 6 * T + C
    · rw [if_pos e]; exact Or.inr (Or.inr (Or.inr rfl))
    · rw [if_neg e]; exact (w.2.2.1 j hj).1 q
  · rw [q_dp_w] at q
    rw [q_dp_9]
    by_cases e : j = 6 * T + C
    · exfalso
      rw [e, show (6 * T + C) / 6 = T from by omega, show (6 * T + C) % 6 = C from by omega] at q
      omega
    · rw [if_neg e]; exact (w.2.2.1 j hj).2 q
  · rw [q_dp_9] at q
    by_cases e : j = 6 * T + C
    · rw [if_pos e] at q; exact absurd q (by decide)
    · rw [if_neg e] at q
      rw [q_dp_tg, q_dp_o (by omega) (by omega) (by omega)]; exact (w.2.2.2.1 j hj q).1
  · rw [q_dp_9] at q
    by_cases e : j = 6 * T + C
    · rw [if_pos e] at q; exact absurd q (by decide)
    · rw [if_neg e] at q
      rw [q_dp_tg, q_dp_nt]; exact (w.2.2.2.1 j hj q).2
  · rw [q_dp_18, q_dp_9]
    by_cases e : j = 6 * T + C
    · rw [if_pos e]; exact Or.inl rfl
    · rw [if_neg e, if_neg e]; exact (w.2.2.2.2.1 j hj).1
  · rw [q_dp_19, q_dp_9]
    by_cases e : j = 6 * T + C
    · rw [if_pos e]; exact Or.inl rfl
    · rw [if_neg e, if_neg e]; exact (w.2.2.2.2.1 j hj).2
  · rw [q_dp_9] at q
    by_cases e : j = 6 * T + C
    · rw [if_pos e] at q; exact absurd q (by decide)
    · rw [if_neg e] at q
      rw [q_dp_o (a := 214) (by omega) (by omega) (by omega), q_dp_o (a := 215) (by omega) (by omega) (by omega), q_dp_o (a := 216) (by omega) (by omega) (by omega), q_dp_o (a := 217) (by omega) (by omega) (by omega)]
      exact q_dp_f q (free j hj) (w.2.2.2.2.2 j hj q) hb
/-- what questions owe to a column that goes -/
theorem q_dp_dq {A Q : am_M} {T C : Nat} (hT : T < 4) (hC : C < 6) (free : ∀ j, j < q_nq Q → ¬ q_ask Q j (10 * T + C)) : q_dq A (q_dp A (6 * T + C)) Q := by
  refine ⟨by rw [q_dp_nt]; exact Nat.le_refl _, fun ⟨w1, w2, w3⟩ => ⟨w1, fun j hj => ?_, w3⟩⟩
  obtain ⟨⟨src, s1, s2, s3⟩, s4, s5⟩ := w2 j hj
  have sw : q_sw (q_dp A (6 * T + C)) Q src = q_sw A Q src := by
    unfold q_sw; rw [q_dp_w]
  refine ⟨⟨src, s1, ?_, ?_⟩, fun c hc => ?_, s5⟩
  · unfold q_src; rw [q_dp_nt]; exact s2
  · rcases s3 with ⟨k0, k1, k2, k3, u, w, n, a1, a2, a3, a4, a5, a6, a7, a8, a9⟩ | ⟨g1, g2, g3, g4, g5, key, val, g6, g7, g8, g9, g10⟩
    · refine Or.inl ⟨k0, k1, k2, k3, u, w, n, a1, a2, a3, by rw [sw]; exact a4, a5, a6, a7, ?_, a9⟩
      rcases a8 with g | ⟨c, T', C', J, b1, b2, b3, b4, b5, b6, b7, b8, b9, b10, b11, b12, b13⟩
      · exact Or.inl g
      · have hne : 6 * T' + C' ≠ 6 * T + C := fun q => by
          have e1 : T' = T := by omega
          have e2 : C' = C := by omega
          refine free j hj (Or.inr ⟨2, Or.inl rfl, by rw [b1]; exact q_m1_ne (by omega), ?_⟩)
          have ec : q_c (Q (67 + 7 * j) 2) = c := by rw [b1]; exact nI_clamp (by omega)
          have es : q_c (Q (67 + 7 * j) 1) = src := by
            rw [s1]; exact nI_clamp (by
              rcases s2 with s2 | s2
              · have : q_nt A = q_c (A 207 1) := rfl
                have := q_cLt (A 207 1)
                omega
              · have := w1.2
                omega)
          rw [ec, es, b3, e1, e2]
        exact Or.inr ⟨c, T', C', J, b1, b2, b3, by rw [q_dp_nt]; exact b4, b5, by rw [q_dp_9, if_neg hne]; exact b6, by rw [q_dp_o (by omega) (by omega) (by omega)]; exact b7, b8, by rw [q_dp_nt]; exact b9, b10, by rw [q_dp_w]; exact b11, b12, b13⟩
    · refine Or.inr ⟨g1, g2, g3, g4, g5, key, val, g6, g7, by rw [sw]; exact g8, by rw [sw]; exact g9, ?_⟩
      rcases g10 with g | ⟨g, sec, g2, g3⟩
      · exact Or.inl g
      · exact Or.inr ⟨g, sec, g2, by rw [sw]; exact g3⟩
  · rcases s4 c hc with g | ⟨T', C', g1, g2, g3⟩
    · exact Or.inl g
    · exact Or.inr ⟨T', C', g1, by rw [q_dp_nt]; exact g2, by rw [q_dp_w]; exact g3⟩
/-- the rows without the column's cells, up to row j -/
def q_dR (R : am_M) (T C j : Nat) : am_M := fun a y => if a = 2 ∧ y / 180 = T ∧ y % 6 = C ∧ y / 6 % 30 < j then -1000000 else R a y
theorem q_dR_0 {R : am_M} {T C j : Nat} : q_dR R T C j 0 = R 0 := funext fun y => if_neg (by omega)
theorem q_dR_1 {R : am_M} {T C j : Nat} : q_dR R T C j 1 = R 1 := funext fun y => if_neg (by omega)
theorem q_dR_z {R : am_M} {T C : Nat} : q_dR R T C 0 = R := funext fun a => funext fun y => if_neg (by omega)
theorem q_dR_s {R : am_M} {T C j y : Nat} (hy : y ≠ 180 * T + 6 * j + C) : q_dR R T C (j + 1) 2 y = q_dR R T C j 2 y := by
  unfold q_dR
  by_cases h : 2 = 2 ∧ y / 180 = T ∧ y % 6 = C ∧ y / 6 % 30 < j
  · rw [if_pos h, if_pos ⟨rfl, h.2.1, h.2.2.1, by omega⟩]
  · rw [if_neg h, if_neg (by omega)]
theorem q_dR_h {R : am_M} {T C j : Nat} (hC : C < 6) (hj : j < 30) : q_dR R T C (j + 1) 2 (180 * T + 6 * j + C) = -1000000 := by
  unfold q_dR
  rw [if_pos ⟨rfl, by omega, by omega, by omega⟩]
theorem qc_d25 {R : am_M} {T C : Nat} (hT : T < 4) (hC : C < 6) (x3 : Nat) : ∀ (d j n : Nat) (s : am_M), j + d = 30 → d < n → q_cb s 9 10 11 (q_dR R T C j) → ∃ S, q_out s S (fun a _ => a = 11) ∧ q_cb S 9 10 11 (q_dR R T C 30) ∧ f_BA_dropColumn_25 n s (nI T) (nI C) x3 (nI j) = (f_BA_putInOrder S).2 ∧ (p_BA_putInOrder S → p_BA_dropColumn_25 n s (nI T) (nI C) x3 (nI j)) := by
  intro d
  induction d with
  | zero =>
    intro j n s h1 h2 h3
    obtain ⟨n, rfl⟩ : ∃ k, n = k + 1 := ⟨n - 1, by omega⟩
    have e : j = 30 := by omega
    subst e
    have c : (30 : Int32) ≤ nI 30 := qg_30 (Nat.le_refl _) (by omega)
    unfold p_BA_dropColumn_25 f_BA_dropColumn_25
    rw [if_pos c]
    exact ⟨s, fun _ _ _ => rfl, h3, rfl, fun h => ⟨fun _ => ⟨h, trivial⟩, fun q => absurd c q⟩⟩
  | succ d ih =>
    intro j n s h1 h2 h3
    obtain ⟨n, rfl⟩ : ∃ k, n = k + 1 := ⟨n - 1, by omega⟩
    have hj : j < 30 := by omega
    have c : ¬ (30 : Int32) ≤ nI j := ql_30 hj
    obtain ⟨r1, r2⟩ := qr_set s hT hj hC (-1000000)
    have h3' : q_cb (am_set s 11 (180 * T + 6 * j + C) (-1000000)) 9 10 11 (q_dR R T C (j + 1)) := by
      obtain ⟨c1, c2, c3⟩ := h3
      refine ⟨fun u hu => ?_, fun u hu => ?_, fun x hx hh => ?_⟩
      · rw [am_set_o (by omega), c1 u hu, q_dR_0, q_dR_0]
      · rw [am_set_o (by omega), c2 u hu, q_dR_1, q_dR_1]
      · by_cases e : x = 180 * T + 6 * j + C
        · rw [e, am_set_q, q_dR_h hC hj]
        · rw [am_set_p (Or.inr e), q_dR_s e]
          exact c3 x hx (by rw [q_dR_1] at hh ⊢; exact hh)
    obtain ⟨S, s1, s2, s3, s4⟩ := ih (j + 1) n _ (by omega) (by omega) h3'
    unfold p_BA_dropColumn_25 f_BA_dropColumn_25
    rw [if_neg c, r2, nI_1]
    exact ⟨S, fun a b q => by rw [s1 a b q, am_set_p (Or.inl q)], s2, s3, fun h => ⟨fun q => absurd q c, fun _ => ⟨r1, s4 h⟩⟩⟩
theorem qm_d89 {R : am_M} {T C : Nat} (hT : T < 4) (hC : C < 6) (x3 : Int32) : ∀ (d j n : Nat) (s : am_M), j + d = 30 → d < n → q_mb s (q_dR R T C j) → ∃ S, q_out s S (fun a _ => a = 230) ∧ q_mb S (q_dR R T C 30) ∧ f_MO_drop_89 n s (nI T) (nI C) x3 (nI j) = f_MO_drop_116 S (nI T) (nI C) x3 (nI 30) ∧ (p_MO_drop_116 S (nI T) (nI C) x3 (nI 30) → p_MO_drop_89 n s (nI T) (nI C) x3 (nI j)) := by
  intro d
  induction d with
  | zero =>
    intro j n s h1 h2 h3
    obtain ⟨n, rfl⟩ : ∃ k, n = k + 1 := ⟨n - 1, by omega⟩
    have e : j = 30 := by omega
    subst e
    have c : (30 : Int32) ≤ nI 30 := qg_30 (Nat.le_refl _) (by omega)
    unfold p_MO_drop_89 f_MO_drop_89
    rw [if_pos c]
    exact ⟨s, fun _ _ _ => rfl, h3, rfl, fun h => ⟨fun _ => h, fun q => absurd c q⟩⟩
  | succ d ih =>
    intro j n s h1 h2 h3
    obtain ⟨n, rfl⟩ : ∃ k, n = k + 1 := ⟨n - 1, by omega⟩
    have hj : j < 30 := by omega
    have c : ¬ (30 : Int32) ≤ nI j := ql_30 hj
    have h3' : q_mb (am_set s 230 (180 * T + 6 * j + C) (-1000000)) (q_dR R T C (j + 1)) := by
      obtain ⟨c1, c2, c3⟩ := h3
      refine ⟨fun u hu => ?_, fun u hu => ?_, fun x hx hh => ?_⟩
      · rw [am_set_o (by omega), c1 u hu, q_dR_0, q_dR_0]
      · rw [am_set_o (by omega), c2 u hu, q_dR_1, q_dR_1]
      · by_cases e : x = 180 * T + 6 * j + C
        · rw [e, am_set_q, q_dR_h hC hj]
        · rw [am_set_p (Or.inr e), q_dR_s e]
          exact c3 x hx (by rw [q_dR_1] at hh ⊢; exact hh)
    obtain ⟨S, s1, s2, s3, s4⟩ := ih (j + 1) n _ (by omega) (by omega) h3'
    unfold p_MO_drop_89 f_MO_drop_89
    rw [if_neg c, qr_at, nI_clamp (n := 180 * T + 6 * j + C) (by omega), nI_1]
    exact ⟨S, fun a b q => by rw [s1 a b q, am_set_p (Or.inl q)], s2, s3, fun h => ⟨fun q => absurd q c, fun _ => ⟨vp_in_nI (by omega) (by omega), s4 h⟩⟩⟩
theorem q_dR_wr {A R : am_M} (wr : q_wr A R) {T C : Nat} (hC : C < 6) : q_wr (q_dp A (6 * T + C)) (q_dR R T C 30) := by
  obtain ⟨r1, r2, r3, r4, r5⟩ := wr
  have cell : ∀ p c, p < 120 → c < 6 → 6 * (p / 30) + c ≠ 6 * T + C → q_dR R T C 30 2 (6 * p + c) = R 2 (6 * p + c) := fun p c hp hc hne => by
    unfold q_dR
    rw [if_neg (by omega)]
  refine ⟨fun t ht => ?_, fun p hp hh => ?_, fun x hx hh => ?_, fun p c hp hc hh hk => ?_, fun p c hp hc hh hk => ?_⟩
  · rw [q_dR_0, q_dp_nt]; exact r1 t ht
  · rw [q_dR_1] at hh; rw [q_dR_0]; exact r2 p hp hh
  · rw [q_dR_1] at hh
    unfold q_dR
    by_cases e : 2 = 2 ∧ x / 180 = T ∧ x % 6 = C ∧ x / 6 % 30 < 30
    · rw [if_pos e]; unfold q_v; decide
    · rw [if_neg e]; exact r3 x hx hh
  · rw [q_dR_1] at hh
    rw [q_dp_9] at hk
    by_cases e : 6 * (p / 30) + c = 6 * T + C
    · unfold q_dR
      rw [if_pos ⟨rfl, by omega, by omega, by omega⟩]
    · rw [if_neg e] at hk
      rw [cell p c hp hc e]; exact r4 p c hp hc hh hk
  · rw [q_dR_1] at hh
    rw [q_dp_9] at hk
    by_cases e : 6 * (p / 30) + c = 6 * T + C
    · rw [if_pos e] at hk; exact absurd hk (by decide)
    · rw [if_neg e] at hk
      rw [cell p c hp hc e, q_dp_tg, q_dR_1]; exact r5 p c hp hc hh hk
theorem q_dp_cd {s A : am_M} (cd : q_cd s A) {k : Nat} (hk : k < 24) : q_cd (am_set (am_set (am_set s (20 + k) 0 0) (20 + k) 5 0) (20 + k) 6 0) (q_dp A k) := by
  obtain ⟨c1, c2, c3, c4⟩ := cd
  refine ⟨?_, fun t ht => ?_, fun j hj => ?_, fun j i hj h1 h2 => ?_⟩
  · rw [am_set_p (by omega), am_set_p (by omega), am_set_p (by omega), q_dp_o (by omega) (by omega) (by omega)]; exact c1
  · rw [am_set_p (by omega), am_set_p (by omega), am_set_p (by omega), q_dp_o (by omega) (by omega) (by omega)]; exact c2 t ht
  · rw [q_dp_9]
    by_cases e : j = k
    · rw [if_pos e, e, am_set_p (by omega), am_set_p (by omega), am_set_q]; decide
    · rw [if_neg e, am_set_p (by omega), am_set_p (by omega), am_set_p (by omega)]; exact c3 j hj
  · by_cases e : j = k
    · have h : i = 5 ∨ i = 6 ∨ (q_fld i ≠ 209 ∧ q_fld i ≠ 218 ∧ q_fld i ≠ 219) := by
        have : i = 1 ∨ i = 2 ∨ i = 3 ∨ i = 4 ∨ i = 5 ∨ i = 6 ∨ i = 7 ∨ i = 8 ∨ i = 9 ∨ i = 10 := by omega
        rcases this with rfl | rfl | rfl | rfl | rfl | rfl | rfl | rfl | rfl | rfl
        · exact Or.inr (Or.inr (by decide))
        · exact Or.inr (Or.inr (by decide))
        · exact Or.inr (Or.inr (by decide))
        · exact Or.inr (Or.inr (by decide))
        · exact Or.inl rfl
        · exact Or.inr (Or.inl rfl)
        · exact Or.inr (Or.inr (by decide))
        · exact Or.inr (Or.inr (by decide))
        · exact Or.inr (Or.inr (by decide))
        · exact Or.inr (Or.inr (by decide))
      by_cases e5 : i = 5
      · rw [e5, e, am_set_p (by omega), am_set_q, show q_fld 5 = 218 from rfl, q_dp_18, if_pos rfl]
      · by_cases e6 : i = 6
        · rw [e6, e, am_set_q, show q_fld 6 = 219 from rfl, q_dp_19, if_pos rfl]
        · obtain ⟨f1, f2, f3⟩ := (h.resolve_left e5).resolve_left e6
          rw [am_set_p (by omega), am_set_p (by omega), am_set_p (by omega), q_dp_o f1 f2 f3]; exact c4 j i hj h1 h2
    · rw [am_set_p (by omega), am_set_p (by omega), am_set_p (by omega), c4 j i hj h1 h2]
      by_cases f1 : q_fld i = 209
      · rw [f1, q_dp_9, if_neg e]
      · by_cases f2 : q_fld i = 218
        · rw [f2, q_dp_18, if_neg e]
        · by_cases f3 : q_fld i = 219
          · rw [f3, q_dp_19, if_neg e]
          · rw [q_dp_o f1 f2 f3]
end
