noncomputable section
theorem qm_ans {s A R Q : am_M} (md : q_md s A) (w : q_wd A) (wr : q_wr A R) (mb : q_mb s R) (qm : q_qm s Q) (qw : q_qw A Q) {j src g i k : Nat} (hj : j < q_nq Q) (k0 : Q (67 + 7 * j) 0 = 0) (hs1 : Q (67 + 7 * j) 1 = nI src) (hsrc : q_src A Q j src) (hslt : src < 10 + j) (qp : q_qp A Q j src) (hg : g < 12) (hgj : g ≠ j) (hi : i < 30) (hk : k < 30) (hf : s 248 j = nI k) {a : q_An} (ha : q_s1 A R Q src a) (hc : ∀ c, c < q_sw A Q src → s 250 (1620 * g + 54 * i + c) = a.1 c ∧ (q_so Q src c ≠ -1 → s 251 (1620 * g + 54 * i + c) = a.2 (q_sp Q src c))) : p_MO_laysAnswer s (nI j) (nI (1620 * g + 54 * i)) ∧ ∃ v t, f_MO_laysAnswer s (nI j) (nI (1620 * g + 54 * i)) = (v, t) ∧ q_out s t (fun a b => (a = 250 ∨ a = 251) ∧ 1620 * j + 54 * k ≤ b ∧ b < 1620 * j + 54 * k + 54) ∧ ((v = 1 ∧ q_kp R Q j a ∧ ∀ c, c < q_c (Q (67 + 7 * j) 7) → t 250 (1620 * j + 54 * k + c) = (q_jn R Q j a).1 c ∧ (q_so Q (10 + j) c ≠ -1 → t 251 (1620 * j + 54 * k + c) = (q_jn R Q j a).2 (q_sp Q (10 + j) c))) ∨ (v = 0 ∧ ¬ q_kp R Q j a)) := by
  have h8 := qw.1.2
  have h4 := w.1.2
  have hsrc4 : src < 4 ∨ (10 ≤ src ∧ src < 10 + q_nq Q) := by
    rcases hsrc with q | ⟨q1, q2, -⟩
    · exact Or.inl (by omega)
    · exact Or.inr ⟨q1, by omega⟩
  obtain ⟨hsw, hsn⟩ := q_sw_le w qw hsrc4
  have hsw6 : src < 10 → q_sw A Q src ≤ 6 := fun h => by
    unfold q_sw; rw [if_pos h]; exact (w.2.1 src (by omega)).2.1
  obtain ⟨-, -, -, u, W, n, a1, a2, a3, a4, a5, a6, a7, a8, cw⟩ := qp
  have cw' : q_cw Q j W := cw
  have eW : q_c (Q (67 + 7 * j) 7) = W := by rw [a2]; exact q_cI (by omega)
  have en : q_c (Q (67 + 7 * j) 9) = n := by rw [a3]; exact q_cI (by omega)
  have eu : q_c (Q (67 + 7 * j) 8) = u := by rw [a1]; exact q_cI (by omega)
  have eso : ∀ c, q_so Q (10 + j) c = Q (68 + 7 * j) c := fun c => by unfold q_so; rw [if_neg (by omega), show 10 + j - 10 = j from by omega]
  have esp : ∀ c, q_sp Q (10 + j) c = q_c (Q (69 + 7 * j) c) := fun c => by unfold q_sp; rw [if_neg (by omega), show 10 + j - 10 = j from by omega]
  have vj : vp_in (nI j) 8 := vp_in_nI (by omega) (by omega)
  have vj12 : vp_in (nI j) 12 := vp_in_nI (by omega) (by omega)
  have cj := nI_clamp (n := j) (by omega)
  have eto : (1620 : Int32) * nI j + (54 : Int32) * nI k = nI (1620 * j + 54 * k) := by rw [qw_1620, qw_54, nI_add]
  have hto : 1620 * j + 54 * k + 54 ≤ 19440 := by omega
  have hdis : 1620 * g + 54 * i + 54 ≤ 1620 * j + 54 * k ∨ 1620 * j + 54 * k + 54 ≤ 1620 * g + 54 * i := by
    rcases Nat.lt_or_gt_of_ne hgj with q | q <;> omega
  obtain ⟨S, j1, j2, j3, j4⟩ := qm_a19 hj h8 (show u ≤ 54 by omega) k0 a1 (show 1620 * g + 54 * i + 54 ≤ 19440 by omega) hto hdis u 0 am_F s (Nat.zero_add _) (by rw [am_F_eq]; omega) qm
  rw [nI_0] at j3 j4
  have qmS := q_qm_out h8 j1 (fun a b q => by omega) qm
  have mdS := q_md_out j1 (fun a b q => by omega) md
  have mbS := q_mb_out j1 (fun a b q => by omega) mb
  -- cells below u, in S
  have low : ∀ c, c < u → S 250 (1620 * j + 54 * k + c) = a.1 c ∧ (Q (68 + 7 * j) c ≠ -1 → S 251 (1620 * j + 54 * k + c) = a.2 (q_c (Q (69 + 7 * j) c)) ∧ q_c (Q (69 + 7 * j) c) < q_sn Q src) := fun c hcu => by
    obtain ⟨b1, b2⟩ := j2 c (Nat.zero_le _) hcu
    obtain ⟨b3, b4⟩ := hc c (by omega)
    obtain ⟨b5, b6⟩ := a7 c hcu
    refine ⟨b1.trans b3, fun q => ?_⟩
    rw [b5] at q
    have hlt := q_sp_lt qw h4 hj hsrc (show c < 54 by omega) q
    rw [b6, q_cI (n := q_sp Q src c) (by omega)]
    exact ⟨b2.trans (b4 q), hlt⟩
  unfold p_MO_laysAnswer f_MO_laysAnswer
  rw [cj, hf, eto, j3]
  have e39 : S 239 j = Q (67 + 7 * j) 2 := (qmS.2 j hj).2.2.2.1
  have e38 : S 238 j = nI u := ((qmS.2 j hj).2.2.1 k0).trans a1
  have e37 : S 237 j = nI src := ((qmS.2 j hj).2.1).trans hs1
  unfold f_MO_laysAnswer_72
  unfold p_MO_laysAnswer_72 at j4
  rw [cj, e39, e38, e37] at j4 ⊢
  unfold q_kp q_jn
  rw [eW, eu, en]
  rcases a8 with ⟨b1, b2, b3⟩ | ⟨c0, T, C, J, b1, b2, b3, b4, b5, b6, b7, b8, b9, b10, b11, b12, b13⟩
  · rw [b1] at j4 ⊢
    rw [if_pos rfl, if_pos rfl]
    subst b2
    obtain ⟨c1, c2⟩ := qm_counts qmS hj h8 (show W ≤ 54 by omega) cw' hto (fun c hcW => (low c hcW).1)
    refine ⟨⟨vj12, j4 ⟨vj, fun _ => ⟨c1, by rcases c2 with ⟨q, -⟩ | ⟨q, -⟩ <;> rw [q]; exact Or.inr rfl; exact Or.inl rfl, trivial⟩, fun q => absurd rfl q⟩⟩, _, S, rfl, q_out_w j1 (fun a b q => by omega), ?_⟩
    rcases c2 with ⟨q1, q2⟩ | ⟨q1, q2⟩
    · refine Or.inl ⟨q1, ⟨Or.inl rfl, q2⟩, fun c hcW => ⟨(low c hcW).1, fun q => ?_⟩⟩
      rw [eso] at q
      rw [esp]; exact ((low c hcW).2 q).1
    · exact Or.inr ⟨q1, fun q => q2 q.2⟩
  · have hn1 := q_m1_ne (n := c0) (by omega)
    have ecj : q_c (nI c0) = c0 := q_cI (by omega)
    have eJ : q_c (Q (67 + 7 * j) 3) = J := by rw [b8]; exact q_cI (by omega)
    rw [b1] at j4 ⊢
    rw [if_neg hn1, if_neg hn1, ecj, eJ]
    obtain ⟨o1, o2⟩ := qm_origin w qmS h8 hsrc4 (show c0 < 54 by omega) (show T < 4 by omega) b5 b3 (fun q => by have := hsw6 q; omega)
    have h24 : 6 * T + C < 24 := by omega
    have e212 : S 212 (6 * T + C) = nI J := by rw [mdS.2 212 (by omega) (by omega)]; exact b7
    have efr : nI (1620 * g + 54 * i) + nI c0 = nI (1620 * g + 54 * i + c0) := nI_add _ _
    have hfr : S 250 (1620 * g + 54 * i + c0) = a.1 c0 := by rw [j1 _ _ (by omega)]; exact (hc c0 (by omega)).1
    rw [efr, o2, nI_clamp (n := 1620 * g + 54 * i + c0) (by omega), nI_clamp (n := 6 * T + C) (by omega), hfr, e212] at j4 ⊢
    have v1 : vp_in (nI (1620 * g + 54 * i + c0)) 19440 := vp_in_nI (by omega) (by omega)
    have v2 : vp_in (nI (6 * T + C)) 24 := vp_in_nI (by omega) (by omega)
    obtain ⟨-, hrow⟩ := ha c0 (by omega)
    obtain ⟨r0, r1, r2, r3, r4⟩ := hrow T C (by omega) b5 b3
    have hx := q_x41 wr (show T < 4 by omega) b5 r1 b6 b7 (by omega) r2
    rw [← r3] at hx
    rcases hx with hx | ⟨x, x1, x2, x3⟩
    · -- no row is joined
      rw [hx] at j4 ⊢
      have hk0 : ∀ n, f_MO_laysAnswer_135 (n + 1) S (nI j) (nI (1620 * g + 54 * i)) (nI (1620 * j + 54 * k)) (-1000000) (nI J) (nI u) = (0, S) ∧ p_MO_laysAnswer_135 (n + 1) S (nI j) (nI (1620 * g + 54 * i)) (nI (1620 * j + 54 * k)) (-1000000) (nI J) (nI u) := fun n => by
        unfold f_MO_laysAnswer_135 p_MO_laysAnswer_135 f_MO_laysAnswer_200 p_MO_laysAnswer_200
        rw [if_pos rfl]
        refine ⟨?_, vj12, fun _ => ⟨fun _ => trivial, fun q => absurd rfl q⟩, fun _ => ⟨fun _ => ⟨fun _ => trivial, fun q => absurd rfl q⟩, fun q => absurd rfl q⟩⟩
        by_cases q : S 249 (nI j).toNatClampNeg ≤ nI u
        · rw [if_pos q]
        · rw [if_neg q, if_pos rfl]
      have eF : am_F = 5099 + 1 := am_F_eq
      obtain ⟨z1, z2⟩ := hk0 5099
      rw [eF, z1]
      rw [eF] at j4
      exact ⟨⟨vj12, j4 ⟨vj, fun q => absurd q hn1, fun _ => ⟨vj, v1, vj, vj, o1, v2, vj, z2⟩⟩⟩, 0, S, rfl, q_out_w j1 (fun a b q => by omega), Or.inr ⟨rfl, fun q => q.1.elim hn1 (fun q => q rfl)⟩⟩
    · have ex : q_c (a.1 c0) = x := by rw [x2]; exact q_cI (by omega)
      have hnb : a.1 c0 ≠ -1000000 := fun q => by
        have := qz (n := x) (by omega)
        rw [← x2, q] at this; exact this (by decide)
      have w6 := (w.2.1 J (by omega)).2.1
      rw [ex]
      rw [x2] at j4 ⊢
      obtain ⟨V, l1, l2, l3, l4⟩ := qm_a135 (R := R) hj h8 (show W ≤ 54 by omega) (show W - u ≤ 6 by omega) k0 a1 a2 hto (show J < 4 by omega) x1 x3 (nI (1620 * g + 54 * i)) (W - u) 0 am_F S (by omega) (by rw [am_F_eq]; omega) qmS mbS
      rw [Nat.add_zero] at l3 l4
      rw [l3]
      have qmV := q_qm_out h8 l1 (fun a b q => by omega) qmS
      have oV : q_out s V (fun a b => (a = 250 ∨ a = 251) ∧ 1620 * j + 54 * k ≤ b ∧ b < 1620 * j + 54 * k + 54) := fun a b q => by rw [l1 a b (by omega), j1 a b (by omega)]
      have cell : ∀ c, c < W → V 250 (1620 * j + 54 * k + c) = (if u ≤ c then R 2 (180 * J + 6 * x + (c - u)) else a.1 c) ∧ (Q (68 + 7 * j) c ≠ -1 → V 251 (1620 * j + 54 * k + c) = (if q_c (Q (69 + 7 * j) c) = n - 1 then nI x else a.2 (q_c (Q (69 + 7 * j) c)))) := fun c hcW => by
        by_cases hcu : u ≤ c
        · obtain ⟨g1, g2⟩ := l2 c (by omega) hcW
          obtain ⟨g3, g4⟩ := b13 (c - u) (by omega)
          rw [show u + (c - u) = c from by omega] at g3 g4
          rw [if_pos hcu]
          refine ⟨g1, fun _ => ?_⟩
          rw [g4, q_cI (n := q_sn Q src) (by omega), if_pos (by omega)]; exact g2
        · obtain ⟨g1, g2⟩ := low c (by omega)
          rw [if_neg hcu, l1 250 _ (by omega), l1 251 _ (by omega)]
          refine ⟨g1, fun q => ?_⟩
          obtain ⟨g3, g4⟩ := g2 q
          rw [if_neg (by omega)]; exact g3
      obtain ⟨c1, c2⟩ := qm_counts qmV hj h8 (show W ≤ 54 by omega) cw' hto (v := fun c => if u ≤ c then R 2 (180 * J + 6 * x + (c - u)) else a.1 c) (fun c hcW => (cell c hcW).1)
      have nbx : ¬ nI x = -1000000 := by rw [← x2]; exact hnb
      unfold f_MO_laysAnswer_200
      unfold p_MO_laysAnswer_200 at l4
      rw [if_neg nbx]
      have hp := j4 ⟨vj, fun q => absurd q hn1, fun _ => ⟨vj, v1, vj, vj, o1, v2, vj, l4 ⟨fun _ => trivial, fun _ => ⟨c1, fun _ => trivial, fun _ => trivial⟩⟩⟩⟩
      rcases c2 with ⟨q1, q2⟩ | ⟨q1, q2⟩
      · have n0 : ¬ f_MO_doesCount V (nI j) (nI (1620 * j + 54 * k)) = 0 := by rw [q1]; exact i10
        rw [if_neg n0]
        refine ⟨⟨vj12, hp⟩, 1, V, rfl, oV, Or.inl ⟨rfl, ⟨Or.inr nbx, q2⟩, fun c hcW => ⟨(cell c hcW).1, fun q => ?_⟩⟩⟩
        rw [eso] at q
        rw [esp]; exact (cell c hcW).2 q
      · rw [if_pos q1]
        exact ⟨⟨vj12, hp⟩, 0, V, rfl, oV, Or.inr ⟨rfl, fun q => q2 q.2⟩⟩
end
