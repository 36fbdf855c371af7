noncomputable section
-- run: all steps
theorem qs_loop {A U Q V : am_M} (W : q_WW A U Q V) {j : Nat} (hj : j < 4) (x1 : Int32) : ∀ (d i nc nm : Nat) (sc sm R : am_M) (L : Nat), q_c (V (126 + 14 * j) 1) ≤ i + d → i ≤ 12 → d < nc → d < nm → q_CC A U Q V sc → q_MM A U Q V sm → q_cb sc 9 10 11 R → q_mb sm R → q_wr A R → sc 1 12 = nI L → L + d < 100000 → ∃ B sc' sm' R' L', ((p_CB_endRun sc' (q_good B) ∧ ((f_CB_endRun sc' (q_good B)).1 = 0 ∨ (f_CB_endRun sc' (q_good B)).1 = 1)) → p_CB_run_18 nc sc x1 (126 + 14 * j) (nI i)) ∧ f_CB_run_18 nc sc x1 (126 + 14 * j) (nI i) = (0, (f_CB_endRun sc' (q_good B)).1, (f_CB_endRun sc' (q_good B)).2) ∧ p_MO_doesAll_2 nm sm (nI j) (nI i) ∧ f_MO_doesAll_2 nm sm (nI j) (nI i) = (q_good B, sm') ∧ q_SS A U Q sc sm sc' sm' B R R' L L' ∧ L' ≤ L + d := by
  obtain ⟨l1, l2, l3, l4, l5⟩ := qv_lk j hj
  have W' := W
  obtain ⟨w, uw, qw, vw⟩ := W'
  have h8 := qw.1.2
  obtain ⟨w1, w2, w3⟩ := vw j hj
  intro d
  induction d with
  | zero =>
    intro i nc nm sc sm R L h1 h0 h2 h3 CC MM cb mb wr hL hL1
    obtain ⟨nc, rfl⟩ : ∃ k, nc = k + 1 := ⟨nc - 1, by omega⟩
    obtain ⟨nm, rfl⟩ : ∃ k, nm = k + 1 := ⟨nm - 1, by omega⟩
    have vc := CC.2.2.2.2
    have vm := MM.2.2.2
    have e1 : sc (126 + 14 * j) 1 = nI (q_c (V (126 + 14 * j) 1)) := by rw [vc _ (by omega) (by omega)]; exact w1
    have e5 : sm 255 j = nI (q_c (V (126 + 14 * j) 1)) := (vm j hj).1.trans w1
    have c : nI (q_c (V (126 + 14 * j) 1)) ≤ nI i := nI_le (by omega) (by omega)
    have cj : (nI j).toNatClampNeg = j := nI_clamp (by omega)
    refine ⟨[], sc, sm, R, L, fun hp => ?_, ?_, ?_, ?_, q_SS_0 hL cb mb wr, by omega⟩
    · unfold p_CB_run_18
      rw [e1]
      exact ⟨l2, fun _ => ⟨hp.1, hp.2, trivial⟩, fun z => absurd c z⟩
    · unfold f_CB_run_18
      rw [e1, if_pos c]; rfl
    · unfold p_MO_doesAll_2
      rw [cj, e5]
      exact ⟨vp_in_nI hj (by omega), fun _ => trivial, fun z => absurd c z⟩
    · unfold f_MO_doesAll_2
      rw [cj, e5, if_pos c]; rfl
  | succ d ih =>
    intro i nc nm sc sm R L h1 h0 h2 h3 CC MM cb mb wr hL hL1
    by_cases him : i < q_c (V (126 + 14 * j) 1)
    rotate_left
    · -- no step is left
      obtain ⟨B, sc', sm', R', L', g1, g2, g3, g4, g5, g6⟩ := ih i nc nm sc sm R L (by omega) h0 (by omega) (by omega) CC MM cb mb wr hL (by omega)
      exact ⟨B, sc', sm', R', L', g1, g2, g3, g4, g5, by omega⟩
    obtain ⟨nc, rfl⟩ : ∃ k, nc = k + 1 := ⟨nc - 1, by omega⟩
    obtain ⟨nm, rfl⟩ : ∃ k, nm = k + 1 := ⟨nm - 1, by omega⟩
    have vc := CC.2.2.2.2
    have vm := MM.2.2.2
    have hi6 : i < 6 := by omega
    have e1 : sc (126 + 14 * j) 1 = nI (q_c (V (126 + 14 * j) 1)) := by rw [vc _ (by omega) (by omega)]; exact w1
    have e5 : sm 255 j = nI (q_c (V (126 + 14 * j) 1)) := (vm j hj).1.trans w1
    have e6 : sm 256 (6 * j + i) = V (q_xs j i) 0 := ((vm j hj).2 i him).1
    have xk : ∀ b, sc (q_xs j i) b = V (q_xs j i) b := fun b => by rw [vc _ (by unfold q_xs; omega) (by unfold q_xs; omega)]
    obtain ⟨T0, T1, T2, T3⟩ := qc_turn (n := nc) (x1 := x1) hj him w2 e1
    have hits : 6 * j + i < 24 := by omega
    -- what follows a step of one of three kinds
    have fol : ∀ (B1 : List q_It) (sc1 sm1 R1 : am_M) (L1 : Nat), V (q_xs j i) 0 ≠ 3 → ((p_CB_run_132 (p_CB_run_18 nc) sc1 x1 (126 + 14 * j) (nI i) (q_xs j i) (q_good B1) → p_CB_run_18 (nc + 1) sc x1 (126 + 14 * j) (nI i)) ∧ f_CB_run_18 (nc + 1) sc x1 (126 + 14 * j) (nI i) = f_CB_run_132 (f_CB_run_18 nc) sc1 x1 (126 + 14 * j) (nI i) (q_xs j i) (q_good B1)) → (p_MO_doesStep sm (nI (6 * j + i)) ∧ f_MO_doesStep sm (nI (6 * j + i)) = (q_good B1, sm1)) → q_SS A U Q sc sm sc1 sm1 B1 R R1 L L1 → L1 ≤ L + 1 → ∃ B sc' sm' R' L', ((p_CB_endRun sc' (q_good B) ∧ ((f_CB_endRun sc' (q_good B)).1 = 0 ∨ (f_CB_endRun sc' (q_good B)).1 = 1)) → p_CB_run_18 (nc + 1) sc x1 (126 + 14 * j) (nI i)) ∧ f_CB_run_18 (nc + 1) sc x1 (126 + 14 * j) (nI i) = (0, (f_CB_endRun sc' (q_good B)).1, (f_CB_endRun sc' (q_good B)).2) ∧ p_MO_doesAll_2 (nm + 1) sm (nI j) (nI i) ∧ f_MO_doesAll_2 (nm + 1) sm (nI j) (nI i) = (q_good B, sm') ∧ q_SS A U Q sc sm sc' sm' B R R' L L' ∧ L' ≤ L + (d + 1) := fun B1 sc1 sm1 R1 L1 hk3 hC hM S hL1' => by
      obtain ⟨S1, S2, S3, S4, S5, S6⟩ := S
      have S : q_SS A U Q sc sm sc1 sm1 B1 R R1 L L1 := ⟨S1, S2, S3, S4, S5, S6⟩
      rw [hC.2]
      rcases q_good_c B1 with ⟨g1, g2, -⟩ | ⟨g1, g2, -⟩
      · obtain ⟨k1, k2, k3, k4⟩ := S6 g1
        rw [g2] at hC hM ⊢
        have e6' : sm1 256 (6 * j + i) ≠ 3 := by
          rw [S2 _ _ (fun z => by have := q_FM_w z; omega), e6]; exact hk3
        obtain ⟨p5, f5⟩ := qm_left0 hits e6'
        obtain ⟨t1, t2⟩ := qm_turn1 (n := nm) (v := 0) hj him w2 e5 hM.1 hM.2 p5 (by rw [nI_0]; exact f5)
        obtain ⟨B, sc', sm', R', L', q1, q2, q3, q4, q5, q6⟩ := ih (i + 1) nc nm sc1 sm1 R1 L1 (by omega) (by omega) (by omega) (by omega) (q_CC_o S1 CC) (q_MM_o h8 S2 MM) k1 k2 k3 S3 (by omega)
        have fe : f_CB_run_132 (f_CB_run_18 nc) sc1 x1 (126 + 14 * j) (nI i) (q_xs j i) 1 = f_CB_run_18 nc sc1 x1 (126 + 14 * j) (nI (i + 1)) := by
          unfold f_CB_run_132; rw [if_neg i10, nI_1 i]
        have pe : p_CB_run_18 nc sc1 x1 (126 + 14 * j) (nI (i + 1)) → p_CB_run_132 (p_CB_run_18 nc) sc1 x1 (126 + 14 * j) (nI i) (q_xs j i) 1 := fun h9 => by
          unfold p_CB_run_132; rw [nI_1 i]; exact ⟨fun z => absurd z i10, fun _ => h9⟩
        rw [fe]
        exact ⟨B, sc', sm', R', L', fun hp => hC.1 (pe (q1 hp)), q2, t1 q3, t2.trans q4, q_SS_t S1 S2 S4 k4 q5, by omega⟩
      · rw [g2] at hC hM ⊢
        obtain ⟨t1, t2⟩ := qm_turn0 (n := nm) hj him w2 e5 hM.1 hM.2
        have fe : f_CB_run_132 (f_CB_run_18 nc) sc1 x1 (126 + 14 * j) (nI i) (q_xs j i) 0 = (0, (f_CB_endRun sc1 0).1, (f_CB_endRun sc1 0).2) := by
          unfold f_CB_run_132; rw [if_pos rfl]
        rw [fe]
        refine ⟨B1, sc1, sm1, R1, L1, fun hp => hC.1 ?_, by rw [g2], t1, by rw [g2]; exact t2, S, by omega⟩
        rw [g2] at hp
        unfold p_CB_run_132
        exact ⟨fun _ => ⟨hp.1, hp.2, trivial⟩, fun z => absurd rfl z⟩
    rcases w3 i him with ⟨g1, ⟨q, c, g2, g3, g4, g5, g6⟩, g7⟩ | ⟨g1, ⟨t9, g2, g3⟩, g4⟩ | ⟨g1, ⟨q, g2, g3⟩, v, g4, g5, g6⟩
    · rcases g1 with g1 | g1
      · obtain ⟨B1, sc1, sm1, R1, p1, p2, p3, p4, p5⟩ := qs_dPut W CC MM cb mb wr hj hi6 him g1 g2 g3 g4 g5 g6 g7
        refine fol B1 sc1 sm1 R1 L (by
          have : V (q_xs j i) 0 = 0 := g1
          rw [this]; decide) (T0 sc1 (q_good B1) ((xk 0).trans g1) p1 p2) (qm_step0 hits (e6.trans g1) p3 p4 (q_good_01 B1)) (p5 L hL) (by omega)
      · obtain ⟨B1, sc1, sm1, R1, p1, p2, p3, p4, p5⟩ := qs_dRem W CC MM cb mb wr hj hi6 him g1 g2 g3 g4 g5 g6
        refine fol B1 sc1 sm1 R1 L (by
          have : V (q_xs j i) 0 = 2 := g1
          rw [this]; decide) (T2 sc1 (q_good B1) ((xk 0).trans g1) p1 p2) (qm_step2 hits (e6.trans g1) p3 p4 (q_good_01 B1)) (p5 L hL) (by omega)
    · obtain ⟨B1, sc1, sm1, R1, L1, p1, p2, p3, p4, p5, p6⟩ := qs_dAdd W CC MM cb mb wr hj hi6 him g1 g2 g3 g4 hL (by omega)
      refine fol B1 sc1 sm1 R1 L1 (by
          have : V (q_xs j i) 0 = 1 := g1
          rw [this]; decide) (T1 sc1 (q_good B1) ((xk 0).trans g1) p1 p2) (qm_step1 hits (e6.trans g1) p3 p4 (q_good_01 B1)) p5 p6
    · -- steps are left out, if there is no answer
      have g1 : V (q_xs j i) 0 = 3 := g1
      have g2 : V (q_xs j i) 1 = nI q := g2
      have g4 : V (q_xs j i) 3 = nI v := g4
      obtain ⟨cd, oc, uc, qc, -⟩ := CC
      have CC : q_CC A U Q V sc := ⟨cd, oc, uc, qc, vc⟩
      obtain ⟨md, um, qm, -⟩ := MM
      have MM : q_MM A U Q V sm := ⟨md, um, qm, vm⟩
      obtain ⟨F1, tc, F2, F3, -⟩ := qa_find cd w wr cb qc qw g3
      obtain ⟨L1, tm, L2, L3, L4⟩ := qm_lays_q md w wr mb qm qw g3
      have hlen := q_sh_len (R := R) w qw (10 + q) (by omega)
      have esl : q_sl (10 + q) = q := by unfold q_sl; rw [if_neg (by omega)]; omega
      have h248 : tm 248 q = nI (q_sh R Q (10 + q)).length := by have := L4.1; rw [esl] at this; exact this
      generalize (q_sh R Q (10 + q)).length = N at *
      have ocf : q_out sc tc q_FC := q_out_w F3 (fun a b z => by unfold q_FC; unfold q_FD at z; omega)
      have omf : q_out sm tm (q_FM Q) := q_out_w L3 (fun a b z => by
        unfold q_FM
        exact Or.inr (Or.inr (Or.inr (Or.inr (Or.inr (Or.inr (Or.inr (Or.inl z))))))))
      have CC1 := q_CC_o ocf CC
      have MM1 := q_MM_o h8 omf MM
      have tc3 : tc (q_xs j i) 3 = nI v := by rw [CC1.2.2.2.2 _ (by unfold q_xs; omega) (by unfold q_xs; omega)]; exact g4
      obtain ⟨a1, a2⟩ := T3 tc N v (by omega) ((xk 0).trans g1) (by rw [xk 1, g2]; exact F1) (by rw [xk 1, g2]; exact F2) tc3
      obtain ⟨s1, s2⟩ := qm_step3 hits (e6.trans g1)
      have n1 : V (128 + 14 * j + 2 * i) 0 ≠ 1 := by
        have : V (128 + 14 * j + 2 * i) 0 = 3 := g1
        rw [this]; decide
      obtain ⟨-, -, m4, -⟩ := (vm j hj).2 i him
      have s57 : sm 257 (6 * j + i) = nI q := (m4 n1).1.trans g2
      have s59 : sm 259 (6 * j + i) = nI v := (m4 n1).2.trans g4
      have tmo : ∀ a, 255 ≤ a → a ≤ 260 → tm a (6 * j + i) = sm a (6 * j + i) := fun a q1 q2 => L3 _ _ (fun z => by have := q_LD_w z; omega)
      have ct : (nI (6 * j + i)).toNatClampNeg = 6 * j + i := nI_clamp (by omega)
      have cq : (nI q).toNatClampNeg = q := nI_clamp (by omega)
      have vt : vp_in (nI (6 * j + i)) 24 := vp_in_nI (by omega) (by omega)
      have hleft : p_MO_leftOut sm (nI (6 * j + i)) ∧ f_MO_leftOut sm (nI (6 * j + i)) = (nI (if N = 0 then v else 0), tm) := by
        unfold p_MO_leftOut f_MO_leftOut
        rw [ct, e6, g1, if_pos rfl, s57, L2, tmo 257 (by omega) (by omega), tmo 259 (by omega) (by omega), s57, s59, cq, h248]
        refine ⟨⟨vt, fun _ => ⟨vt, L1, vt, vp_in_nI (by omega) (by omega), fun _ => ⟨vt, trivial⟩, fun _ => trivial⟩, fun z => absurd rfl z⟩, ?_⟩
        by_cases z : N = 0
        · rw [if_pos z, if_pos (by rw [z, nI_0])]
        · rw [if_neg z, if_neg (fun z2 => z ((qe_0 (by omega)).mp z2)), nI_0]
      obtain ⟨t1, t2⟩ := qm_turn1 (n := nm) (v := if N = 0 then v else 0) hj him w2 e5 s1 s2 hleft.1 hleft.2
      have hv5 : (if N = 0 then v else 0) ≤ 5 := by
        by_cases z : N = 0
        · rw [if_pos z]; exact g6
        · rw [if_neg z]; omega
      generalize (if N = 0 then v else 0) = v9 at *
      have cb1 := q_cb_out F3 (fun a b z => by unfold q_FD at z; omega) cb
      have mb1 := q_mb_out L3 (fun a b z => by have := q_LD_w z; omega) mb
      obtain ⟨B, sc', sm', R', L', q1, q2, q3, q4, q5, q6⟩ := ih (i + (1 + v9)) nc nm tc tm R L (by omega) (by omega) (by omega) (by omega) CC1 MM1 cb1 mb1 wr (by rw [F3 _ _ (by unfold q_FD; omega)]; exact hL) (by omega)
      rw [a2]
      exact ⟨B, sc', sm', R', L', fun hp => a1 (q1 hp), q2, t1 q3, t2.trans q4, q_SS_t ocf omf (Nat.le_refl _) q_sR_0 q5, by omega⟩
end
