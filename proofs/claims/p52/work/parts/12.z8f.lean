noncomputable section
-- questions: the model lays a plain question's answers
theorem q_qm_out {s t Q : am_M} {P : Nat → Nat → Prop} (h8 : q_nq Q ≤ 8) (h : q_out s t P) (hP : ∀ a b, P a b → (a = 207 → b ≠ 39) ∧ ¬ (236 ≤ a ∧ a ≤ 247) ∧ (a = 249 → b < 8 → Q (67 + 7 * b) 0 = 2) ∧ a ≠ 252) (m : q_qm s Q) : q_qm t Q := by
  refine ⟨by rw [h 207 39 (fun q => (hP _ _ q).1 rfl rfl)]; exact m.1, fun j hj => ?_⟩
  obtain ⟨e1, e2, e3, e4, e5, e6, e7, e8, e9, e10⟩ := m.2 j hj
  have o : ∀ a b, 236 ≤ a → a ≤ 247 → t a b = s a b := fun a b h1 h2 => h a b (fun q => (hP _ _ q).2.1 ⟨h1, h2⟩)
  refine ⟨(o _ _ (by omega) (by omega)).trans e1, (o _ _ (by omega) (by omega)).trans e2, fun q => (o _ _ (by omega) (by omega)).trans (e3 q), (o _ _ (by omega) (by omega)).trans e4, fun q => ⟨(o _ _ (by omega) (by omega)).trans (e5 q).1, (o _ _ (by omega) (by omega)).trans (e5 q).2⟩, fun q => (o _ _ (by omega) (by omega)).trans (e6 q), (o _ _ (by omega) (by omega)).trans e7, fun i hi => ?_, fun q => ?_, fun c hc => (h 252 _ (fun q => (hP _ _ q).2.2.2 rfl)).trans (e10 c hc)⟩
  · obtain ⟨f1, f2, f3, f4⟩ := e8 i hi
    exact ⟨(o _ _ (by omega) (by omega)).trans f1, (o _ _ (by omega) (by omega)).trans f2, (o _ _ (by omega) (by omega)).trans f3, (o _ _ (by omega) (by omega)).trans f4⟩
  · rw [h 249 j (fun q2 => q ((hP _ _ q2).2.2.1 rfl (by omega)))]; exact e9 q
theorem q_sp_lt {A Q : am_M} (qw : q_qw A Q) (h4 : q_nt A ≤ 4) {j src : Nat} (hj : j < q_nq Q) (hsrc : q_src A Q j src) {c : Nat} (hc : c < 54) (hne : q_so Q src c ≠ -1) : q_sp Q src c < q_sn Q src := by
  unfold q_so at hne
  unfold q_sp q_sn
  by_cases h : src < 10
  · rw [if_pos h, if_pos h]; omega
  · rw [if_neg h] at hne ⊢
    rw [if_neg h]
    rcases hsrc with g | ⟨g1, g2, g3⟩
    · omega
    · exact ((qw.2.1 (src - 10) (by omega)).2.2 c hc).2 hne
theorem q_mc_I {T C : Nat} (hT : T < 10) (hC : C < 6) : q_mc (nI (10 * T + C)) = nI (6 * T + C) := by
  unfold q_mc
  rw [if_neg (q_m1_ne (by omega)), q_cI (n := 10 * T + C) (by omega), show (10 * T + C) / 10 = T from by omega, show (10 * T + C) % 10 = C from by omega]
theorem qm_origin {s A Q : am_M} (w : q_wd A) (qm : q_qm s Q) (h8 : q_nq Q ≤ 8) {src c : Nat} (hsrc : src < 4 ∨ (10 ≤ src ∧ src < 10 + q_nq Q)) (hc : c < 54) {T C : Nat} (hT : T < 4) (hC : C < 6) (h : q_so Q src c = nI (10 * T + C)) (hc6 : src < 10 → c < 6) : p_MO_originOf s (nI src) (nI c) ∧ f_MO_originOf s (nI src) (nI c) = nI (6 * T + C) := by
  unfold p_MO_originOf f_MO_originOf
  by_cases h10 : src < 10
  · have l : ¬ (10 : Int32) ≤ nI src := ql_10 h10
    unfold q_so at h
    rw [if_pos h10] at h
    obtain ⟨rfl, rfl⟩ := q_10 (by have := hc6 h10; omega) (by omega) (by omega) (by omega) h
    rw [if_neg l, qw_6, nI_add]
    exact ⟨⟨fun q => absurd q l, fun _ => trivial⟩, rfl⟩
  · have l : (10 : Int32) ≤ nI src := qg_10 (by omega) (by omega)
    unfold q_so at h
    rw [if_neg h10] at h
    have e10 : nI src - (10 : Int32) = nI (src - 10) := by
      have := q_subI (src - 10) 10
      rw [show src - 10 + 10 = src from by omega] at this; exact this
    have ix : (54 : Int32) * nI (src - 10) + nI c = nI (54 * (src - 10) + c) := by rw [qw_54, nI_add]
    obtain ⟨-, -, -, -, -, -, -, -, -, g⟩ := qm.2 (src - 10) (by omega)
    rw [if_pos l, e10, ix, nI_clamp (n := 54 * (src - 10) + c) (by omega), g c hc, h, q_mc_I (by omega) hC]
    exact ⟨⟨fun _ => ⟨vp_in_nI (by omega) (by omega), trivial⟩, fun q => absurd l q⟩, rfl⟩
theorem qm_a19 {Q : am_M} {j u f t : Nat} (hj : j < q_nq Q) (h8 : q_nq Q ≤ 8) (hu : u ≤ 54) (k0 : Q (67 + 7 * j) 0 = 0) (q8 : Q (67 + 7 * j) 8 = nI u) (hf : f + 54 ≤ 19440) (ht : t + 54 ≤ 19440) (hft : f + 54 ≤ t ∨ t + 54 ≤ f) : ∀ (d c n : Nat) (s : am_M), c + d = u → d < n → q_qm s Q → ∃ S, q_out s S (fun a b => (a = 250 ∨ a = 251) ∧ t + c ≤ b ∧ b < t + u) ∧ (∀ e, c ≤ e → e < u → S 250 (t + e) = s 250 (f + e) ∧ S 251 (t + e) = s 251 (f + e)) ∧ f_MO_laysAnswer_19 n s (nI j) (nI f) (nI t) (nI c) = f_MO_laysAnswer_72 S (nI j) (nI f) (nI t) (nI u) ∧ (p_MO_laysAnswer_72 S (nI j) (nI f) (nI t) (nI u) → p_MO_laysAnswer_19 n s (nI j) (nI f) (nI t) (nI c)) := by
  have vj : vp_in (nI j) 8 := vp_in_nI (by omega) (by omega)
  have cj := nI_clamp (n := j) (by omega)
  intro d
  induction d with
  | zero =>
    intro c n s hc hn qm
    obtain ⟨n, rfl⟩ : ∃ k, n = k + 1 := ⟨n - 1, by omega⟩
    obtain rfl : c = u := by omega
    have e8 : s 238 j = nI c := ((qm.2 j hj).2.2.1 k0).trans q8
    have l : nI c ≤ nI c := qn_le (Nat.le_refl _) (by omega)
    unfold f_MO_laysAnswer_19 p_MO_laysAnswer_19
    rw [cj, e8, if_pos l]
    exact ⟨s, fun _ _ _ => rfl, fun e h1 h2 => absurd h2 (by omega), rfl, fun q => ⟨vj, fun _ => q, fun q2 => absurd l q2⟩⟩
  | succ d ih =>
    intro c n s hc hn qm
    obtain ⟨n, rfl⟩ : ∃ k, n = k + 1 := ⟨n - 1, by omega⟩
    have e8 : s 238 j = nI u := ((qm.2 j hj).2.2.1 k0).trans q8
    have l : ¬ nI u ≤ nI c := nI_ge (by omega) (by omega)
    have e1 : nI c + (1 : Int32) = nI (c + 1) := nI_add c 1
    have ef : nI f + nI c = nI (f + c) := nI_add _ _
    have et : nI t + nI c = nI (t + c) := nI_add _ _
    have vf : vp_in (nI (f + c)) 19440 := vp_in_nI (by omega) (by omega)
    have vt : vp_in (nI (t + c)) 19440 := vp_in_nI (by omega) (by omega)
    have h251 : am_set s 250 (t + c) (s 250 (f + c)) 251 (f + c) = s 251 (f + c) := am_set_p (by omega)
    have oS : q_out s (am_set (am_set s 250 (t + c) (s 250 (f + c))) 251 (t + c) (s 251 (f + c))) (fun a b => (a = 250 ∨ a = 251) ∧ b = t + c) := fun a b q => by rw [am_set_p (by omega), am_set_p (by omega)]
    obtain ⟨S, i1, i2, i3, i4⟩ := ih (c + 1) n (am_set (am_set s 250 (t + c) (s 250 (f + c))) 251 (t + c) (s 251 (f + c))) (by omega) (by omega) (q_qm_out h8 oS (fun a b q => by omega) qm)
    unfold f_MO_laysAnswer_19 p_MO_laysAnswer_19
    rw [cj, e8, if_neg l, ef, et, nI_clamp (n := f + c) (by omega), nI_clamp (n := t + c) (by omega), h251, e1]
    refine ⟨S, fun a b q => by rw [i1 a b (by omega), oS a b (by omega)], fun e h1 h2 => ?_, i3, fun q => ⟨vj, fun q2 => absurd q2 l, fun _ => ⟨vf, vt, vf, vt, i4 q⟩⟩⟩
    by_cases he : e = c
    · rw [he, i1 250 _ (by omega), i1 251 _ (by omega), am_set_p (by omega), am_set_q, am_set_q]; exact ⟨rfl, rfl⟩
    · obtain ⟨g1, g2⟩ := i2 e (by omega) h2
      rw [g1, g2, oS 250 _ (by omega), oS 251 _ (by omega)]; exact ⟨rfl, rfl⟩
theorem qm_a135 {Q R : am_M} {j u W J x t : Nat} (hj : j < q_nq Q) (h8 : q_nq Q ≤ 8) (hW : W ≤ 54) (hWu : W - u ≤ 6) (k0 : Q (67 + 7 * j) 0 = 0) (q8 : Q (67 + 7 * j) 8 = nI u) (q7 : Q (67 + 7 * j) 7 = nI W) (ht : t + 54 ≤ 19440) (hJ : J < 4) (hx : x < 30) (hh : R 1 (30 * J + x) ≠ 0) (x2 : Int32) : ∀ (d i n : Nat) (s : am_M), u + i + d = W → d < n → q_qm s Q → q_mb s R → ∃ S, q_out s S (fun a b => (a = 250 ∨ a = 251) ∧ t + u + i ≤ b ∧ b < t + W) ∧ (∀ e, u + i ≤ e → e < W → S 250 (t + e) = R 2 (180 * J + 6 * x + (e - u)) ∧ S 251 (t + e) = nI x) ∧ f_MO_laysAnswer_135 n s (nI j) x2 (nI t) (nI x) (nI J) (nI (u + i)) = f_MO_laysAnswer_200 S (nI j) x2 (nI t) (nI x) (nI J) (nI W) ∧ (p_MO_laysAnswer_200 S (nI j) x2 (nI t) (nI x) (nI J) (nI W) → p_MO_laysAnswer_135 n s (nI j) x2 (nI t) (nI x) (nI J) (nI (u + i))) := by
  have vj : vp_in (nI j) 8 := vp_in_nI (by omega) (by omega)
  have vj12 : vp_in (nI j) 12 := vp_in_nI (by omega) (by omega)
  have cj := nI_clamp (n := j) (by omega)
  have nb : ¬ nI x = -1000000 := fun q => by
    have := qz (n := x) (by omega)
    rw [q] at this; exact this (by decide)
  have k2 : Q (67 + 7 * j) 0 ≠ 2 := by rw [k0]; decide
  intro d
  induction d with
  | zero =>
    intro i n s hi hn qm mb
    obtain ⟨n, rfl⟩ : ∃ k, n = k + 1 := ⟨n - 1, by omega⟩
    obtain rfl : u + i = W := by omega
    have e9 : s 249 j = nI (u + i) := ((qm.2 j hj).2.2.2.2.2.2.2.2.1 k2).trans q7
    have l : nI (u + i) ≤ nI (u + i) := qn_le (Nat.le_refl _) (by omega)
    unfold f_MO_laysAnswer_135 p_MO_laysAnswer_135
    rw [cj, e9, if_pos l]
    exact ⟨s, fun _ _ _ => rfl, fun e h1 h2 => absurd h2 (by omega), rfl, fun q => ⟨vj12, fun _ => q, fun q2 => absurd l q2⟩⟩
  | succ d ih =>
    intro i n s hi hn qm mb
    obtain ⟨n, rfl⟩ : ∃ k, n = k + 1 := ⟨n - 1, by omega⟩
    have e9 : s 249 j = nI W := ((qm.2 j hj).2.2.2.2.2.2.2.2.1 k2).trans q7
    have e8 : s 238 j = nI u := ((qm.2 j hj).2.2.1 k0).trans q8
    have l : ¬ nI W ≤ nI (u + i) := nI_ge (by omega) (by omega)
    have e1 : nI (u + i) + (1 : Int32) = nI (u + (i + 1)) := nI_add (u + i) 1
    have e2 : nI (u + i) - nI u = nI i := by rw [Nat.add_comm]; exact q_subI i u
    have et : nI t + nI (u + i) = nI (t + (u + i)) := nI_add _ _
    have vt : vp_in (nI (t + (u + i))) 19440 := vp_in_nI (by omega) (by omega)
    have hcell : s 230 (180 * J + 6 * x + i) = R 2 (180 * J + 6 * x + i) := mb.2.2 _ (by omega) (by rw [show (180 * J + 6 * x + i) / 6 = 30 * J + x from by omega]; exact hh)
    have oS : q_out s (am_set (am_set s 250 (t + (u + i)) (R 2 (180 * J + 6 * x + i))) 251 (t + (u + i)) (nI x)) (fun a b => (a = 250 ∨ a = 251) ∧ b = t + (u + i)) := fun a b q => by rw [am_set_p (by omega), am_set_p (by omega)]
    obtain ⟨S, i1, i2, i3, i4⟩ := ih (i + 1) n (am_set (am_set s 250 (t + (u + i)) (R 2 (180 * J + 6 * x + i))) 251 (t + (u + i)) (nI x)) (by omega) (by omega) (q_qm_out h8 oS (fun a b q => by omega) qm) (q_mb_out oS (fun a b q => by omega) mb)
    unfold f_MO_laysAnswer_135 p_MO_laysAnswer_135
    rw [cj, e9, if_neg l, if_neg nb, e8, e2, qr_at, et, nI_clamp (n := t + (u + i)) (by omega), nI_clamp (n := 180 * J + 6 * x + i) (by omega), hcell, e1]
    refine ⟨S, fun a b q => by rw [i1 a b (by omega), oS a b (by omega)], fun e h1 h2 => ?_, i3, fun q => ⟨vj12, fun q2 => absurd q2 l, fun _ => ⟨fun q2 => absurd q2 nb, fun _ => ⟨vj, vp_in_nI (by omega) (by omega), vt, vt, i4 q⟩⟩⟩⟩
    by_cases he : e = u + i
    · rw [he, i1 250 _ (by omega), i1 251 _ (by omega), am_set_p (by omega), am_set_q, am_set_q, show u + i - u = i from by omega]; exact ⟨rfl, rfl⟩
    · exact i2 e (by omega) h2
end
