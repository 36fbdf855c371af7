noncomputable section
theorem pu_lookZ {c : Nat} {s t : am_M} {Z : Nat → am_M} (hP : ∀ i, pu_P i s) (hZ : ∀ j, pu_X c j s Z) (h : q_out s t (q_LU (Z 11))) : (∀ i, pu_P i t) ∧ ∀ j, pu_X c j t Z := by
  have own : ∀ a b, q_LU (Z 11) a b → pu_own a b = 0 ∨ pu_own a b = 11 := fun a b q => by
    have := q_LU_own q
    simpa using this
  obtain ⟨qc, qm, qw⟩ : q_x5 s (Z 6) (Z 11) := hZ 5
  have x6 : q_x6 s (Z 6) (Z 11) (Z 12) := hZ 6
  have key : ∀ j, (0 ∉ pu_D j ∧ 11 ∉ pu_D j) → pu_X c j t Z := fun j hj => pu_X_d j (fun a b q => h a b (fun q2 => by
    rcases own a b q2 with e | e
    · rw [e] at q; exact hj.1 q
    · rw [e] at q; exact hj.2 q)) (fun _ _ => rfl) (hZ j)
  refine ⟨fun i => ?_, fun j => ?_⟩
  · by_cases q : i = 0 ∨ i = 11
    · rcases q with rfl | rfl <;> exact trivial
    · exact pu_P_d i s t (fun a b hab => h a b (fun q2 => by
        have := own a b q2
        rw [hab] at this; exact q this)) (hP i)
  · match j with
    | 0 => exact trivial
    | 1 => exact key 1 (by decide)
    | 2 => exact key 2 (by decide)
    | 3 => exact key 3 (by decide)
    | 4 => exact key 4 (by decide)
    | 5 => exact ⟨q_qc_out h (fun a b q => by have := q_LU_w q; omega) qc, q_LU_qm qw.1.2 h qm, qw⟩
    | 6 => exact q_x6_up (fun a b q => h a b (fun q2 => by
        rcases own a b q2 with e | e <;> rw [e] at q <;> exact absurd q (by decide))) (Nat.le_refl _) ⟨Nat.le_refl _, fun _ _ => ⟨rfl, rfl⟩⟩ x6
    | 7 => exact key 7 (by decide)
    | n + 8 => exact trivial
/-- what a change owes, where answers were looked up on the way -/
theorem pu_done2 {c : Nat} {s t : am_M} {Z : Nat → am_M} {L : List q_It} {A1 R1 : am_M} (hP : ∀ i, pu_P i s) (hZ : ∀ j, pu_X c j s Z) (ho : q_out s t (fun a b => q_P0 a b ∨ q_LU (Z 11) a b)) (cd : q_cd t (q_pick L A1 (Z 6))) (oc : q_oc t (q_pick L A1 (Z 6))) (md : q_md t (q_pick L A1 (Z 6))) (cb : q_cb t 9 10 11 (q_pick L R1 (Z 8))) (mb : q_mb t (q_pick L R1 (Z 8))) (f1 : q_fd t 123 0 L) (f2 : q_fd t 207 31 L) (u07 : t 0 7 = if q_good L = 0 then s 0 7 else 0) (u38 : t 207 38 = if q_good L = 0 then s 207 38 else 0) (hg : L = [] → q_wd A1 ∧ q_wr A1 R1 ∧ q_nt (Z 6) ≤ q_nt A1 ∧ (∀ u, u < 4 → q_c (Z 8 0 u) ≤ q_c (R1 0 u)) ∧ ∀ p, p < 120 → R1 1 p = Z 8 1 p ∨ R1 1 p = 0) (hq : q_dq (Z 6) A1 (Z 11)) (hgd : L = [] → q_gd A1 (Z 7) R1) : pu_R c t := by
  obtain ⟨-, -, -, wd⟩ : q_x1 s (Z 6) := hZ 1
  obtain ⟨-, -, wr⟩ : q_x3 s (Z 6) (Z 8) := hZ 3
  -- a state behind the looks, ahead of the change
  have hS : ∃ S : am_M, q_out s S (q_LU (Z 11)) ∧ q_out S t q_P0 := by
    refine ⟨fun a b => @ite Int32 (q_LU (Z 11) a b) (Classical.propDecidable _) (t a b) (s a b), fun a b q => if_neg q, fun a b q => ?_⟩
    by_cases h : q_LU (Z 11) a b
    · exact (if_pos h).symm
    · exact (ho a b (fun q2 => q2.elim q h)).trans (if_neg h).symm
  obtain ⟨S, o1, o2⟩ := hS
  obtain ⟨hPS, hZS⟩ := pu_lookZ hP hZ o1
  have e07 : S 0 7 = s 0 7 := o1 0 7 (fun q => by have := q_LU_w q; omega)
  have e38 : S 207 38 = s 207 38 := o1 207 38 (fun q => by have := q_LU_w q; omega)
  refine pu_chg0 hPS hZS (q_P0_fr o2) f1 f2 (A' := q_pick L A1 (Z 6)) (R' := q_pick L R1 (Z 8)) ?_ ?_ ?_ (q_dq_p hq) (q_gd_p hgd)
  · rcases q_good_c L with ⟨g1, g2, g3⟩ | ⟨g1, g2, g3⟩
    · rw [g3] at cd oc md ⊢
      exact ⟨cd, oc, md, (hg g1).1⟩
    · rw [g3] at cd oc md ⊢
      exact ⟨cd, oc, md, wd⟩
  · rcases q_good_c L with ⟨g1, g2, g3⟩ | ⟨g1, g2, g3⟩
    · rw [g3] at cb mb ⊢
      rw [g3]
      exact ⟨cb, mb, (hg g1).2.1⟩
    · rw [g3] at cb mb ⊢
      rw [g3]
      exact ⟨cb, mb, wr⟩
  · rcases q_good_c L with ⟨g1, g2, g3⟩ | ⟨g1, g2, g3⟩
    · right
      rw [g2, if_neg i10] at u07 u38
      rw [g3, g3]
      exact ⟨u07, u38, (hg g1).2.2⟩
    · left
      rw [g2, if_pos rfl] at u07 u38
      rw [g3, g3]
      exact ⟨u07.trans e07.symm, u38.trans e38.symm, rfl, rfl⟩
-- where a column of an answer comes from
theorem qd_stM1 (s : am_M) : f_BA_isStored s (-1) = 0 := by
  have l : (-1 : Int32) < 0 := by decide
  unfold f_BA_isStored
  rw [if_pos l]
theorem qa_origin {t Q : am_M} (qc : q_qc t Q) {j k : Nat} (hj : j < 8) (hk : k < 54) : p_QU_originOf t (67 + 7 * j) (nI k) ∧ f_QU_originOf t (67 + 7 * j) (nI k) = Q (68 + 7 * j) k := by
  have z1 : ¬ nI k < 0 := qz (by omega)
  have z2 : nI k < (54 : Int32) := qt_54 hk
  obtain ⟨-, l10, -⟩ := qa_lk hj
  obtain ⟨h0, h10, -⟩ := qa_sh hj
  unfold p_QU_originOf f_QU_originOf
  rw [if_neg z1, if_pos z2, l10, nI_clamp (n := k) (by omega), qc.2 _ (by omega) (by omega)]
  exact ⟨⟨fun q => absurd q z1, fun _ => ⟨fun _ => ⟨⟨by omega, h0⟩, ⟨by omega, h10⟩, vp_in_nI (by omega) (by omega), trivial⟩, fun _ => trivial⟩⟩, rfl⟩
theorem qa_row {t A Q : am_M} (qc : q_qc t Q) (qw : q_qw A Q) {j i k : Nat} (hj : j < q_nq Q) (hi : i < 30) (hk : k < 54) : p_AS_rowOf t (nI j) (nI i) (nI k) ∧ (q_c (Q (69 + 7 * j) k) < 9 → f_AS_rowOf t (nI j) (nI i) (nI k) = t 62 (9 * i + q_c (Q (69 + 7 * j) k))) := by
  have h8 := qw.1.2
  have z1 : ¬ nI i < 0 := qz (by omega)
  have z2 : ¬ (30 : Int32) ≤ nI i := ql_30 hi
  have z3 : ¬ nI k < 0 := qz (by omega)
  have z4 : nI k < (54 : Int32) := qt_54 hk
  obtain ⟨Q1, Q2⟩ := qa_q t (show j < 8 by omega)
  obtain ⟨-, -, l11, -⟩ := qa_lk (show j < 8 by omega)
  obtain ⟨h0, -, h11, -⟩ := qa_sh (show j < 8 by omega)
  have psh : 67 + 7 * j < 207 ∧ am_sh (67 + 7 * j) = (0, 4, 17) := ⟨by omega, h0⟩
  have hpt := ((qw.2.1 j hj).2.2 k hk).1
  have clt := q_cLt (Q (69 + 7 * j) k)
  have e69 : t (69 + 7 * j) k = nI (q_c (Q (69 + 7 * j) k)) := by rw [qc.2 _ (by omega) (by omega)]; exact hpt
  generalize q_c (Q (69 + 7 * j) k) = p at *
  have z5 : ¬ nI p < 0 := qz clt
  unfold p_AS_rowOf f_AS_rowOf
  rw [if_neg z1, if_neg z2, if_neg z3, if_pos z4, Q2, l11, nI_clamp (n := k) (by omega), e69, if_neg z5]
  refine ⟨⟨fun q => absurd q z1, fun _ => ⟨fun q => absurd q z2, fun _ => ⟨fun q => absurd q z3, fun _ => ⟨fun _ => ⟨Q1, psh, ⟨by omega, h11⟩, vp_in_nI (by omega) (by omega), fun q => absurd q z5, fun _ => ⟨fun q => ?_, fun _ => trivial⟩⟩, fun q => absurd z4 q⟩⟩⟩⟩, fun hp => ?_⟩
  · have hp : p < 9 := by
      exact (nI_ltI (b := 9) clt (by decide)).mp q
    have ix : nI i * (9 : Int32) + nI p = nI (9 * i + p) := by rw [qm_9, nI_add, Nat.mul_comm]
    rw [ix]; exact ⟨vp_in_nI (by omega) (by omega), trivial⟩
  · have hp9 : nI p < (9 : Int32) := nI_lt (b := 9) hp (by decide)
    have ix : nI i * (9 : Int32) + nI p = nI (9 * i + p) := by rw [qm_9, nI_add, Nat.mul_comm]
    rw [if_pos hp9, ix, nI_clamp (n := 9 * i + p) (by omega)]
/-- a column of an answer comes from no table, or from a row that is there -/
theorem q_tgt {A R Q : am_M} (w : q_wd A) (wr : q_wr A R) (qw : q_qw A Q) {j i k : Nat} (hj : j < q_nq Q) (hi : i < (q_sh R Q (10 + j)).length) (hk : k < q_wx A R Q (10 + j)) : Q (68 + 7 * j) k = -1 ∨ (Q (67 + 7 * j) 0 = 0 ∧ ∃ T C r, Q (68 + 7 * j) k = nI (10 * T + C) ∧ T < 4 ∧ C < 6 ∧ r < 30 ∧ R 1 (30 * T + r) ≠ 0 ∧ q_c (Q (69 + 7 * j) k) < q_sn Q (10 + j) ∧ ((q_sh R Q (10 + j)).getD i q_A0).2 (q_c (Q (69 + 7 * j) k)) = nI r) := by
  have h8 := qw.1.2
  have h4 := w.1.2
  have hwx := q_wx_le (R := R) w qw (src := 10 + j) (Or.inr ⟨by omega, by omega⟩)
  have e10 : 10 + j - 10 = j := by omega
  obtain ⟨x, -, -, -, -, -, x6⟩ := q_q1_src w qw hj
  rcases x6 with ⟨k0, -⟩ | ⟨-, -, -, -, g5, -⟩
  · have hk2 : Q (67 + 7 * j) 0 ≠ 2 := by rw [k0]; decide
    rcases (qw.2.1 j hj).2.1 k (by omega) with g | ⟨T, C, g1, g2, g3⟩
    · exact Or.inl g
    · have hC6 : C < 6 := by have := (w.2.1 T (by omega)).2.1; omega
      have hne : Q (68 + 7 * j) k ≠ -1 := by rw [g1]; exact q_m1_ne (by omega)
      have hpl := ((qw.2.1 j hj).2.2 k (by omega)).2 hne
      have hsi := q_si_sh (R := R) w wr qw (10 + j) (Or.inr ⟨by omega, by omega, by rw [e10]; exact hk2⟩)
      have hmem : (q_sh R Q (10 + j)).getD i q_A0 ∈ q_sh R Q (10 + j) := by
        have hh : ∀ (l : List q_An) (n : Nat), n < l.length → l.getD n q_A0 ∈ l := by
          intro l
          induction l with
          | nil => intro n hn; exact absurd hn (Nat.not_lt_zero _)
          | cons y l ih =>
            intro n hn
            cases n with
            | zero => exact List.mem_cons_self
            | succ n => exact List.mem_cons_of_mem _ (ih n (by rw [List.length_cons] at hn; omega))
        exact hh _ _ hi
      have hwn : q_wx A R Q (10 + j) = q_sw A Q (10 + j) := q_wx_n (Or.inr (by rw [e10]; exact hk2))
      obtain ⟨-, hrow⟩ := hsi _ hmem k (by omega)
      have eso : q_so Q (10 + j) k = nI (10 * T + C) := by unfold q_so; rw [if_neg (by omega), e10]; exact g1
      have esp : q_sp Q (10 + j) k = q_c (Q (69 + 7 * j) k) := by unfold q_sp; rw [if_neg (by omega), e10]
      have esn : q_sn Q (10 + j) = q_c (Q (67 + 7 * j) 9) := by unfold q_sn; rw [if_neg (by omega), e10]
      obtain ⟨r, r1, r2, r3, r4⟩ := hrow T C (by omega) hC6 eso
      rw [esp] at r4
      exact Or.inr ⟨k0, T, C, r, g1, by omega, hC6, r1, r2, by rw [esn]; exact hpl, r4⟩
  · exact Or.inl (g5 k (by omega))
theorem qm_writable {s A Q : am_M} (md : q_md s A) (qm : q_qm s Q) (h8 : q_nq Q ≤ 8) {j k : Nat} (hj : j < q_nq Q) (hk : k < 54) (h : Q (68 + 7 * j) k = -1 ∨ (Q (67 + 7 * j) 0 = 0 ∧ ∃ T C, Q (68 + 7 * j) k = nI (10 * T + C) ∧ T < 4 ∧ C < 6)) : p_MO_writable s (nI j) (nI k) ∧ (Q (68 + 7 * j) k = -1 → f_MO_writable s (nI j) (nI k) = -1) ∧ (∀ T C, Q (68 + 7 * j) k = nI (10 * T + C) → T < 4 → C < 6 → f_MO_writable s (nI j) (nI k) = if A 209 (6 * T + C) = 0 ∨ A 209 (6 * T + C) = 1 then nI (6 * T + C) else -1) := by
  obtain ⟨e1, -, -, -, -, -, -, -, -, e10⟩ := qm.2 j hj
  have vj : vp_in (nI j) 8 := vp_in_nI (by omega) (by omega)
  have ix : (54 : Int32) * nI j + nI k = nI (54 * j + k) := by rw [qw_54, nI_add]
  have vx : vp_in (nI (54 * j + k)) 648 := vp_in_nI (by omega) (by omega)
  unfold p_MO_writable f_MO_writable p_MO_writable_24 f_MO_writable_24
  rw [nI_clamp (n := j) (by omega), e1, ix, nI_clamp (n := 54 * j + k) (by omega), e10 k hk]
  have em1 : q_mc (-1) = -1 := by unfold q_mc; rw [if_pos rfl]
  rcases h with h | ⟨k0, T, C, h, hT, hC⟩
  · rw [h, em1, if_pos rfl, ite_self]
    exact ⟨⟨vj, fun _ => ⟨vx, fun _ => trivial, fun q => absurd rfl q⟩, fun _ => ⟨fun _ => trivial, fun q => absurd rfl q⟩⟩, fun _ => rfl, fun T C q hT hC => absurd q.symm (q_m1_ne (by omega))⟩
  · have em : q_mc (nI (10 * T + C)) = nI (6 * T + C) := q_mc_I (by omega) hC
    have hne := q_m1_ne (n := 6 * T + C) (by omega)
    obtain ⟨s1, s2⟩ := qm_stored md (k := 6 * T + C) (by omega)
    rw [h, em, k0, if_pos rfl, if_neg hne, s2]
    refine ⟨⟨vj, fun _ => ⟨vx, fun q => absurd q hne, fun _ => ⟨s1, fun _ => trivial, fun _ => trivial⟩⟩, fun q => absurd rfl q⟩, fun q => absurd q (q_m1_ne (by omega)), fun T' C' q hT' hC' => ?_⟩
    obtain ⟨rfl, rfl⟩ := q_10 (by omega) (by omega) (by omega) (by omega) q.symm
    by_cases hs : A 209 (6 * T + C) = 0 ∨ A 209 (6 * T + C) = 1
    · rw [if_pos hs, if_pos hs, if_neg i10]
    · rw [if_neg hs, if_neg hs, if_pos rfl]
end
