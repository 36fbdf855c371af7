noncomputable section
theorem op_addRule_ok {c d : Nat} (hcd : c ≤ d) : op_addRule (pu_R c) (pu_R d) := by
  intro s a1 a2 a3 a4 a5 h
  replace h := h.mono hcd
  have h' := h
  obtain ⟨hP, Z, hZ⟩ := h
  obtain ⟨cd, oc, md, wd⟩ : q_x1 s (Z 6) := hZ 1
  obtain ⟨uc, um, uw⟩ := q_x2_p (hZ 2 : q_x2 s (Z 7))
  obtain ⟨cb, mb, wr⟩ : q_x3 s (Z 6) (Z 8) := hZ 3
  have hT := qd_wantC cd wd a1 a2
  have hT2 := qd_wantC cd wd a1 a4
  -- a column isn't there
  have no1 : q_isC (Z 6) a1 a2 = 0 ∨ q_isC (Z 6) a1 a4 = 0 → p_MO_addRule s a1 a2 a3 a4 a5 ∧ f_MO_addRule s a1 a2 a3 a4 a5 = (0, am_set s 207 0 1) := fun q => by
    have h24 := qm_24n s a1 a2 a3 a4 a5
    unfold p_MO_addRule f_MO_addRule p_MO_addRule_23 f_MO_addRule_23
    rw [qd_isC md wd, qd_isC md wd]
    by_cases c1 : q_isC (Z 6) a1 a2 = 0
    · rw [if_pos c1]
      exact ⟨⟨qd_pisC md wd _ _, fun _ => h24.1, fun z => absurd c1 z⟩, h24.2⟩
    · have c2 := q.resolve_left c1
      rw [if_neg c1, if_pos c2]
      exact ⟨⟨qd_pisC md wd _ _, fun z => absurd z c1, fun _ => ⟨qd_pisC md wd _ _, fun _ => h24.1, fun z => absurd c2 z⟩⟩, h24.2⟩
  rcases q_isC_c wd a1 a2 with g | ⟨g, T, C, ht, ht4, hc, hc6, rfl, rfl⟩
  · rw [g, if_pos rfl] at hT
    have hm := no1 (Or.inl g)
    exact on_addRule_1 (v := 0) (s1 := s) (w := 0) (t := am_set s 207 0 1) (by unfold f_CB_addRule; rw [hT]; rfl) (by unfold p_CB_addRule; rw [hT]; exact ⟨qd_pwantC _ _ _, fun q => absurd q (by decide)⟩) hm.1 hm.2 am_set_q (pu_R_thrown h')
  rw [g, if_neg i10] at hT
  rcases q_isC_c wd (nI T) a4 with g2 | ⟨g2, T2, C2, ht2, ht24, hc2, hc26, eT, rfl⟩
  · rw [g2, if_pos rfl] at hT2
    have hm := no1 (Or.inr g2)
    exact on_addRule_1 (v := 0) (s1 := s) (w := 0) (t := am_set s 207 0 1) (by unfold f_CB_addRule; rw [hT, hT2]; rfl) (by unfold p_CB_addRule; rw [hT, hT2]; exact ⟨qd_pwantC _ _ _, fun _ => ⟨qd_pwantC _ _ _, fun q => absurd q (by decide)⟩⟩) hm.1 hm.2 am_set_q (pu_R_thrown h')
  obtain rfl : T = T2 := by
    have h1 : q_c (nI T) = T := nI_clamp (by omega)
    have h2 : q_c (nI T2) = T2 := nI_clamp (by omega)
    rw [← h1, eT, h2]
  rw [g2, if_neg i10] at hT2
  have n1 := qd_notD cd wd ht hc ht4 hc6
  have n2 := qd_notD cd wd ht hc2 ht4 hc26
  have m24 := fun (u : am_M) (mu : q_md u (Z 6)) => qa_24 mu wd ht4 hc6 hc26 (x3 := a3) (x5 := a5)
  have mAdd : ∀ u : am_M, q_md u (Z 6) → (p_MO_addRule_24 u (nI T) (nI C) a3 (nI C2) a5 1 → p_MO_addRule u (nI T) (nI C) a3 (nI C2) a5) ∧ f_MO_addRule u (nI T) (nI C) a3 (nI C2) a5 = f_MO_addRule_24 u (nI T) (nI C) a3 (nI C2) a5 1 := fun u mu => by
    unfold p_MO_addRule f_MO_addRule
    rw [qd_isC mu wd, qd_isC mu wd, g, g2, if_neg i10, if_neg i10]
    exact ⟨fun hp => ⟨qd_pisC mu wd _ _, fun q => absurd q i10, fun _ => ⟨qd_pisC mu wd _ _, fun q => absurd q i10, fun _ => hp⟩⟩, rfl⟩
  by_cases bad : q_bad (Z 6) (6 * T + C) (6 * T + C2) a3 a5
  · have hm := (m24 s md).1 bad
    have hC : f_CB_addRule s (nI T) (nI C) a3 (nI C2) a5 = (2, 0, s) ∧ p_CB_addRule s (nI T) (nI C) a3 (nI C2) a5 := by
      unfold f_CB_addRule p_CB_addRule
      rw [hT, hT2, n1, n2, if_pos rfl, if_pos rfl]
      by_cases g1 : a3 < 0
      · rw [if_pos g1]
        exact ⟨rfl, qd_pwantC _ _ _, fun _ => ⟨qd_pwantC _ _ _, fun _ => ⟨fun _ => trivial, fun q => absurd g1 q⟩⟩⟩
      rw [if_neg g1]
      by_cases g2 : (3 : Int32) < a3
      · rw [if_pos g2]
        exact ⟨rfl, qd_pwantC _ _ _, fun _ => ⟨qd_pwantC _ _ _, fun _ => ⟨fun _ => trivial, fun _ => ⟨fun _ => trivial, fun q => absurd g2 q⟩⟩⟩⟩
      rw [if_neg g2]
      by_cases g3 : a5 < (-9999 : Int32)
      · rw [if_pos g3]
        exact ⟨rfl, qd_pwantC _ _ _, fun _ => ⟨qd_pwantC _ _ _, fun _ => ⟨fun _ => trivial, fun _ => ⟨fun _ => trivial, fun _ => ⟨fun _ => trivial, fun q => absurd g3 q⟩⟩⟩⟩⟩
      rw [if_neg g3]
      by_cases g4 : (9999 : Int32) < a5
      · rw [if_neg (pr_le.mp g4)]
        exact ⟨rfl, qd_pwantC _ _ _, fun _ => ⟨qd_pwantC _ _ _, fun _ => ⟨fun _ => trivial, fun _ => ⟨fun _ => trivial, fun _ => ⟨fun _ => trivial, fun _ => ⟨fun q => absurd q (pr_le.mp g4), fun _ => trivial⟩⟩⟩⟩⟩⟩
      have g4' : a5 ≤ (9999 : Int32) := Decidable.of_not_not (fun q => g4 (pr_le.mpr q))
      rw [if_pos g4']
      by_cases g5 : Z 6 209 (6 * T + C) = 3
      · rw [if_pos g5]
        exact ⟨rfl, qd_pwantC _ _ _, fun _ => ⟨qd_pwantC _ _ _, fun _ => ⟨fun _ => trivial, fun _ => ⟨fun _ => trivial, fun _ => ⟨fun _ => trivial, fun _ => ⟨fun _ => ⟨qd_pnotD _ _ _, fun q => absurd q (by decide)⟩, fun _ => trivial⟩⟩⟩⟩⟩⟩
      rw [if_neg g5, if_pos rfl]
      by_cases g6 : Z 6 209 (6 * T + C2) = 3
      · rw [if_pos g6]
        exact ⟨rfl, qd_pwantC _ _ _, fun _ => ⟨qd_pwantC _ _ _, fun _ => ⟨fun _ => trivial, fun _ => ⟨fun _ => trivial, fun _ => ⟨fun _ => trivial, fun _ => ⟨fun _ => ⟨qd_pnotD _ _ _, fun _ => ⟨qd_pnotD _ _ _, fun q => absurd q (by decide)⟩⟩, fun _ => trivial⟩⟩⟩⟩⟩⟩
      rcases bad with q | q | q | q | q | q
      · exact absurd q g1
      · exact absurd q g2
      · exact absurd q g3
      · exact absurd q g4
      · exact absurd q g5
      · exact absurd q g6
    exact on_addRule_2 (v := 0) (s1 := s) (w := 0) (t := am_set s 207 0 2) hC.1 hC.2 ((mAdd s md).1 hm.1) ((mAdd s md).2.trans hm.2) am_set_q (pu_R_thrown h')
  have gd : ¬ a3 < 0 ∧ ¬ (3 : Int32) < a3 ∧ ¬ a5 < (-9999 : Int32) ∧ a5 ≤ (9999 : Int32) ∧ Z 6 209 (6 * T + C) ≠ 3 ∧ Z 6 209 (6 * T + C2) ≠ 3 := ⟨fun q => bad (Or.inl q), fun q => bad (Or.inr (Or.inl q)), fun q => bad (Or.inr (Or.inr (Or.inl q))), Decidable.of_not_not (fun q => bad (Or.inr (Or.inr (Or.inr (Or.inl (pr_le.mpr q)))))), fun q => bad (Or.inr (Or.inr (Or.inr (Or.inr (Or.inl q))))), fun q => bad (Or.inr (Or.inr (Or.inr (Or.inr (Or.inr q)))))⟩
  obtain ⟨g1, gg2, g3, g4, g5, g6⟩ := gd
  rw [if_neg g5] at n1
  rw [if_neg g6] at n2
  -- the class, up to the rule itself
  have hCl : f_CB_addRule s (nI T) (nI C) a3 (nI C2) a5 = (if (s 1 6) < (8 : Int32) then (if (f_BA_makeRule s (nI T) (nI C) a3 (nI C2) a5).1 < 0 then (0, (f_BA_makeRule s (nI T) (nI C) a3 (nI C2) a5).1, (f_CB_tell (f_BA_makeRule s (nI T) (nI C) a3 (nI C2) a5).2 (0 : Int32)).2) else (0, (f_BA_makeRule s (nI T) (nI C) a3 (nI C2) a5).1, (f_CB_tell (f_BA_makeRule s (nI T) (nI C) a3 (nI C2) a5).2 (1 : Int32)).2)) else (3, 0, s)) := by
    unfold f_CB_addRule
    rw [hT, hT2, n1, n2, if_pos rfl, if_pos rfl, if_neg g1, if_neg gg2, if_neg g3, if_pos g4, if_pos rfl, if_pos rfl]
  have pCl : (((s 1 6) < (8 : Int32)) → p_BA_makeRule s (nI T) (nI C) a3 (nI C2) a5 ∧ ((((f_BA_makeRule s (nI T) (nI C) a3 (nI C2) a5).1 < 0) → p_CB_tell (f_BA_makeRule s (nI T) (nI C) a3 (nI C2) a5).2 (0 : Int32) ∧ (True)) ∧ (¬ ((f_BA_makeRule s (nI T) (nI C) a3 (nI C2) a5).1 < 0) → p_CB_tell (f_BA_makeRule s (nI T) (nI C) a3 (nI C2) a5).2 (1 : Int32) ∧ (True)))) → p_CB_addRule s (nI T) (nI C) a3 (nI C2) a5 := fun hp => by
    unfold p_CB_addRule
    rw [hT, hT2, n1, n2]
    exact ⟨qd_pwantC _ _ _, fun _ => ⟨qd_pwantC _ _ _, fun _ => ⟨fun _ => trivial, fun _ => ⟨fun _ => trivial, fun _ => ⟨fun _ => trivial, fun _ => ⟨fun _ => ⟨qd_pnotD _ _ _, fun _ => ⟨qd_pnotD _ _ _, fun _ => ⟨hp, fun _ => trivial⟩⟩⟩, fun q => absurd g4 q⟩⟩⟩⟩⟩⟩
  have h8 := uw.1.2
  by_cases c8 : q_c (Z 7 207 17) = 8
  · have e8 : s 1 6 = 8 := by rw [uc.1, uw.1.1, c8]; rfl
    have n8 : ¬ s 1 6 < (8 : Int32) := by rw [e8]; decide
    have m8 : s 207 17 = 8 := by rw [um.1, uw.1.1, c8]; rfl
    rw [if_neg n8] at hCl
    have hm := qm_115n s (nI T) (nI C) a3 (nI C2) a5 1 1 (y := 3) (by decide)
    have h80 : p_MO_addRule_80 s (nI T) (nI C) a3 (nI C2) a5 1 1 ∧ f_MO_addRule_80 s (nI T) (nI C) a3 (nI C2) a5 1 1 = (0, am_set s 207 0 3) := by
      unfold p_MO_addRule_80 f_MO_addRule_80
      rw [if_neg i10, if_neg i10, if_pos m8]
      exact ⟨⟨fun q => absurd q i10, fun _ => ⟨fun q => absurd q i10, fun _ => ⟨fun _ => hm.1, fun q => absurd m8 q⟩⟩⟩, hm.2⟩
    have h24 := (m24 s md).2 bad
    exact on_addRule_3 (v := 0) (s1 := s) (w := 0) (t := am_set s 207 0 3) hCl (pCl (fun q => absurd q n8)) ((mAdd s md).1 (h24.1 h80.1)) ((mAdd s md).2.trans (h24.2.trans h80.2)) am_set_q (pu_R_thrown h')
  generalize hn' : q_c (Z 7 207 17) = n at *
  have hn : n < 8 := by omega
  have hU : Z 7 207 17 = nI n := by rw [uw.1.1, hn']
  have h5 : Z 7 227 n = 0 := (uw.2 n hn).2.2 (by rw [hn']; exact Nat.le_refl _)
  have b1 : -9999 ≤ a5.toInt := by
    have := Int32.not_lt.mp g3
    exact Int32.le_iff_toInt_le.mp this
  have b2 : a5.toInt ≤ 9999 := Int32.le_iff_toInt_le.mp g4
  have uw1 : q_uw (am_set (q_rm (Z 7) n (nI T) (nI C) a3 (nI C2) a5) 207 17 (nI (n + 1))) := q_rm_uw hn hU uw (Or.inr ⟨rfl, ⟨T, C, C2, ht4, hc6, hc26, rfl, rfl, rfl⟩, b1, b2⟩)
  have uw0 : q_uw (am_set (q_rm (Z 7) n (nI T) (nI C) a3 (nI C2) a5) 207 17 (nI n)) := q_rm_uw hn hU uw (Or.inl rfl)
  obtain ⟨pB, t1, hB, o1, uc1, cb1, fd1⟩ := qc_rule (x1 := nI T) (x2 := nI C) (x3 := a3) (x4 := nI C2) (x5 := a5) cd oc wd wr.we cb uc hU hn h5 uw1
  have hmod := fun (u : am_M) (mu : q_md u (Z 6)) (bu : q_mb u (Z 8)) (uu : q_um u (Z 7)) => qm_rule (x1 := nI T) (x2 := nI C) (x3 := a3) (x4 := nI C2) (x5 := a5) 1 1 mu wd wr.we bu uu hU hn uw1
  have hgR : q_brk (Z 6) (am_set (q_rm (Z 7) n (nI T) (nI C) a3 (nI C2) a5) 207 17 (nI (n + 1))) (q_reck (Z 6) (Z 8)) = [] → q_wr (Z 6) (q_reck (Z 6) (Z 8)) := fun q => q_wr_good wd wr.we wr.2.2.2.1 q
  have eR := q_we_reck wd wr.we
  have hpick := q_good_c (q_brk (Z 6) (am_set (q_rm (Z 7) n (nI T) (nI C) a3 (nI C2) a5) 207 17 (nI (n + 1))) (q_reck (Z 6) (Z 8)))
  have hgA : q_brk (Z 6) (am_set (q_rm (Z 7) n (nI T) (nI C) a3 (nI C2) a5) 207 17 (nI (n + 1))) (q_reck (Z 6) (Z 8)) = [] → q_gd (Z 6) (am_set (q_rm (Z 7) n (nI T) (nI C) a3 (nI C2) a5) 207 17 (nI (n + 1))) (q_reck (Z 6) (Z 8)) := fun q => gd_reck wd ⟨fun j h1 h2 => by
    rw [am_set_q, show q_c (nI (n + 1)) = n + 1 from nI_clamp (by omega)] at h1
    rw [am_set_p (by omega)] at h2
    rw [am_set_p (by omega), am_set_p (by omega), am_set_p (by omega)]
    obtain ⟨v0, v1, v2, v3, v4, v5⟩ := q_rm_v (Z 7) n (nI T) (nI C) a3 (nI C2) a5
    by_cases e : j = n
    · rw [e, v0, v1, v3]
      rw [show q_c (nI T) = T from nI_clamp (by omega), show q_c (nI C) = C from nI_clamp (by omega), show q_c (nI C2) = C2 from nI_clamp (by omega)]
      exact ⟨hc, hc2⟩
    · rw [q_rm_o (Or.inr e)] at h2
      rw [q_rm_o (Or.inr e), q_rm_o (Or.inr e), q_rm_o (Or.inr e)]
      have e9 : q_c (Z 7 207 17) = n := by rw [hU]; exact nI_clamp (by omega)
      exact (q_x7_g (hZ 7)).2.2.1 j (by omega) h2, (q_x7_g (hZ 7)).2.2.2⟩ q
  have hgB : ∀ R, q_gd (Z 6) (Z 7) R → q_gd (Z 6) (am_set (q_rm (Z 7) n (nI T) (nI C) a3 (nI C2) a5) 207 17 (nI n)) R := fun R q => gd_rule q (by rw [am_set_q, hU]) (fun a j h1 h2 hj => by
    rw [am_set_p (by omega)]
    have e9 : q_c (Z 7 207 17) = n := by rw [hU]; exact nI_clamp (by omega)
    exact q_rm_o (Or.inr (by omega)))
  generalize q_brk (Z 6) (am_set (q_rm (Z 7) n (nI T) (nI C) a3 (nI C2) a5) 207 17 (nI (n + 1))) (q_reck (Z 6) (Z 8)) = L at *
  generalize am_set (q_rm (Z 7) n (nI T) (nI C) a3 (nI C2) a5) 207 17 (nI (n + 1)) = U1 at *
  generalize am_set (q_rm (Z 7) n (nI T) (nI C) a3 (nI C2) a5) 207 17 (nI n) = U2 at *
  obtain ⟨pt, t2, ht2, o2, fd2, u2⟩ := qc_tell fd1
  generalize hv : (if q_good L = 0 then (-1 : Int32) else nI n) = v at *
  have s8 : s 1 6 < (8 : Int32) := by rw [uc.1, hU]; exact qt_8 hn
  have hC : f_CB_addRule s (nI T) (nI C) a3 (nI C2) a5 = (0, v, t2) ∧ p_CB_addRule s (nI T) (nI C) a3 (nI C2) a5 := by
    rw [hCl, if_pos s8, hB]
    refine ⟨?_, pCl (fun _ => ⟨pB, ?_⟩)⟩
    · dsimp only
      rcases hpick with ⟨-, g2, -⟩ | ⟨-, g2, -⟩
      · rw [g2, if_neg i10] at hv
        rw [g2] at ht2
        rw [← hv, if_neg (qz (by omega)), ht2]
      · rw [g2, if_pos rfl] at hv
        rw [g2] at ht2
        rw [← hv, if_pos (by decide), ht2]
    · rw [hB]
      dsimp only
      rcases hpick with ⟨-, g2, -⟩ | ⟨-, g2, -⟩
      · rw [g2, if_neg i10] at hv
        rw [g2] at pt
        rw [← hv]
        exact ⟨fun q => absurd q (qz (by omega)), fun _ => ⟨pt, trivial⟩⟩
      · rw [g2, if_pos rfl] at hv
        rw [g2] at pt
        rw [← hv]
        exact ⟨fun _ => ⟨pt, trivial⟩, fun q => absurd (by decide) q⟩
  have o4 : q_out s (am_set t2 262 0 v) (fun a b => (9 ≤ a ∧ a ≤ 11) ∨ (13 ≤ a ∧ a ≤ 16) ∨ a = 19 ∨ a = 44 + n ∨ (a = 1 ∧ b = 6) ∨ a = 123 ∨ (a = 0 ∧ b = 7) ∨ a = 262) := fun a b hab => by
    rw [am_set_p (by omega), o2 a b (by omega), o1 a b (by omega)]
  have mdu := q_md_out o4 (fun a b q => by omega) md
  obtain ⟨p115, t3, f115, o5, e0, um3, mb3, fd3, u3⟩ := hmod _ mdu (q_mb_out o4 (fun a b q => by omega) mb) (q_um_out o4 (fun a b q => by omega) um)
  have e17 : am_set t2 262 0 v 207 17 = nI n := by rw [o4 _ _ (by omega), um.1, hU]
  have h80 : p_MO_addRule_80 (am_set t2 262 0 v) (nI T) (nI C) a3 (nI C2) a5 1 1 ∧ f_MO_addRule_80 (am_set t2 262 0 v) (nI T) (nI C) a3 (nI C2) a5 1 1 = (v, t3) := by
    have n8 : ¬ nI n = (8 : Int32) := fun q => by have := (qe_8 (by omega)).mp q; omega
    unfold p_MO_addRule_80 f_MO_addRule_80
    rw [if_neg i10, if_neg i10, e17, if_neg n8]
    exact ⟨⟨fun q => absurd q i10, fun _ => ⟨fun q => absurd q i10, fun _ => ⟨fun q => absurd q n8, fun _ => p115⟩⟩⟩, f115⟩
  have h24 := (m24 _ mdu).2 bad
  refine og_addRule (hn := by
      rw [← hv]
      split
      · decide
      · exact n9_nI (by omega)) hC.1 hC.2 ((mAdd _ mdu).1 (h24.1 h80.1)) ((mAdd _ mdu).2.trans (h24.2.trans h80.2)) e0 (by rw [o5 _ _ (by omega)]; exact am_set_q) ?_
  -- what it owes
  have oA : q_out s t3 (fun a b => (9 ≤ a ∧ a ≤ 11) ∨ (13 ≤ a ∧ a ≤ 16) ∨ a = 19 ∨ a = 44 + n ∨ (a = 1 ∧ b = 6) ∨ a = 123 ∨ (a = 0 ∧ b = 7) ∨ a = 262 ∨ (a = 207 ∧ (b = 0 ∨ b = 15 ∨ b = 17 ∨ (31 ≤ b ∧ b ≤ 34) ∨ b = 38)) ∨ (220 ≤ a ∧ a ≤ 230) ∨ (a = 233 ∧ 4320 ≤ b) ∨ (a = 234 ∧ 720 ≤ b) ∨ (a = 235 ∧ 24 ≤ b)) := fun a b hab => by
    rw [o5 a b (by omega), o4 a b (by omega)]
  have uc3 : q_uc t3 (q_pick L U1 U2) := q_uc_out o5 (fun a b q => by omega) (q_uc_out (P := fun a b => a = 262) (fun a b hab => am_set_p (by omega)) (fun a b q => by omega) (q_uc_out o2 (fun a b q => by omega) uc1))
  have cb3 : q_cb t3 9 10 11 (q_pick L (q_reck (Z 6) (Z 8)) (Z 8)) := q_cb_out o5 (fun a b q => by omega) (q_cb_set (by omega) (q_cb_out o2 (fun a b q => by omega) cb1))
  have fd4 : q_fd t3 123 0 L := q_fd_out o5 (fun i j q => by omega) (q_fd_out (P := fun a b => a = 262) (fun a b hab => am_set_p (by omega)) (fun i j q => by omega) fd2)
  have u07 : t3 0 7 = if q_good L = 0 then s 0 7 else 0 := by
    rw [o5 _ _ (by omega), am_set_p (by omega), u2, o1 _ _ (by omega)]
  have u38 : t3 207 38 = if q_good L = 0 then s 207 38 else 0 := by
    rw [u3, o4 _ _ (by omega)]
  have x1 : q_x1 t3 (Z 6) := ⟨q_cd_out oA (fun a b q => by omega) cd, q_oc_out oA (fun a b q => by omega) oc, q_md_out oA (fun a b q => by omega) md, wd⟩
  -- first all but the rules, then the rules
  have hfr : pu_fr (· ∈ [0, 1, 2, 7, 8]) s t3 := fun a b hab => oA a b (fun q => hab (by
    rcases q with q | q | q | q | q | q | q | q | ⟨q, z⟩ | q | q | q | q
    · rw [pu_own_8 (by omega)]; decide
    · unfold pu_own
      repeat (first | rw [if_neg (by omega)] | rw [if_pos (by omega)])
      decide
    · unfold pu_own
      repeat (first | rw [if_neg (by omega)] | rw [if_pos (by omega)])
      decide
    · rw [pu_own_7 (by omega)]; decide
    · rw [q.1, q.2]; decide
    · rw [q]; unfold pu_own
      repeat (first | rw [if_neg (by omega)] | rw [if_pos (by omega)])
      decide
    · rw [q.1, q.2]; decide
    · rw [q]; unfold pu_own
      repeat (first | rw [if_neg (by omega)] | rw [if_pos (by omega)])
      decide
    · rw [q]
      rcases z with z | z | z | z | z
      · rw [z]; decide
      · rw [z]; decide
      · rw [z]; decide
      · unfold pu_own
        repeat (first | rw [if_neg (by omega)] | rw [if_pos (by omega)])
        decide
      · rw [z]; decide
    · by_cases k1 : a ≤ 221
      · unfold pu_own
        repeat (first | rw [if_neg (by omega)] | rw [if_pos (by omega)])
        decide
      · by_cases k2 : a ≤ 227
        · rw [pu_own_7 (by omega)]; decide
        · rw [pu_own_8 (by omega)]; decide
    · unfold pu_own
      repeat (first | rw [if_neg (by omega)] | rw [if_pos (by omega)])
      decide
    · unfold pu_own
      repeat (first | rw [if_neg (by omega)] | rw [if_pos (by omega)])
      decide
    · unfold pu_own
      repeat (first | rw [if_neg (by omega)] | rw [if_pos (by omega)])
      decide))
  have y7 : pu_up (pu_up Z 7 (q_pick L U1 U2)) 8 (q_pick L (q_reck (Z 6) (Z 8)) (Z 8)) 7 = q_pick L U1 U2 := by rw [pu_up_o (by decide), pu_up_s]
  have y6 : pu_up (pu_up Z 7 (q_pick L U1 U2)) 8 (q_pick L (q_reck (Z 6) (Z 8)) (Z 8)) 6 = Z 6 := by rw [pu_up_o (by decide), pu_up_o (by decide)]
  have y8 : pu_up (pu_up Z 7 (q_pick L U1 U2)) 8 (q_pick L (q_reck (Z 6) (Z 8)) (Z 8)) 8 = q_pick L (q_reck (Z 6) (Z 8)) (Z 8) := pu_up_s
  have und : pr_und t3 := by
    obtain ⟨k, k1, k2, k3⟩ : pr_und s := hP 2
    by_cases q : q_good L = 0
    · rw [if_pos q] at u07 u38
      exact ⟨k, k1, u07.trans k2, u38.trans k3⟩
    · rw [if_neg q] at u07 u38
      exact ⟨0, by omega, u07, u38⟩
  obtain ⟨k, L9, k5, Lc, L1, h1, h2, h3, ah, sl, se, fo⟩ : q_x4 d s Z := hZ 4
  refine pu_keepX (J := [0, 1, 2, 7, 8]) (Y := pu_up (pu_up Z 7 (q_pick L U1 U2)) 8 (q_pick L (q_reck (Z 6) (Z 8)) (Z 8))) hP hZ hfr (fun i hi => ?_) (fun i hi => ?_) (fun j hj => ?_)
  · rw [pu_up_o (fun q => hi (by rw [q]; decide)), pu_up_o (fun q => hi (by rw [q]; decide))]
  · have e : i = 0 ∨ i = 1 ∨ i = 2 ∨ i = 7 ∨ i = 8 := by simpa using hi
    rcases e with rfl | rfl | rfl | rfl | rfl
    · exact trivial
    · exact ⟨fd4.1.trans fd3.1.symm, fd4.2.1.trans fd3.2.1.symm, fd4.2.2.1.trans fd3.2.2.1.symm, fd4.2.2.2.trans fd3.2.2.2.symm⟩
    · exact und
    · exact trivial
    · exact trivial
  · have e : j ∈ [2, 3, 4, 7] := hj
    have e : j = 2 ∨ j = 3 ∨ j = 4 ∨ j = 7 := by simpa using e
    rcases e with rfl | rfl | rfl | rfl
    rotate_right
    · obtain ⟨k8, k85, x1, x2, x3⟩ : q_x7 s Z := hZ 7
      rcases hpick with ⟨g1, gg, g3⟩ | ⟨-, gg, g3⟩
      · rw [gg, if_neg (by decide)] at u07
        exact q_x7_z u07 (by rw [y6, y7, y8, g3, g3]; exact hgA g1)
      · rw [gg, if_pos rfl] at u07
        exact ⟨k8, k85, u07.trans x1, by rw [y6, y7, y8, g3, g3]; exact hgB _ x2, fun i hi => by rw [y6, y7, g3, pu_up_o (by omega), pu_up_o (by omega)]; exact hgB _ (x3 i hi)⟩
    · show q_x2 t3 (pu_up (pu_up Z 7 (q_pick L U1 U2)) 8 (q_pick L (q_reck (Z 6) (Z 8)) (Z 8)) 7)
      rw [y7]
      refine q_x2_m uc3 um3 ?_
      rcases hpick with ⟨-, -, g3⟩ | ⟨-, -, g3⟩
      · rw [g3]; exact uw1
      · rw [g3]; exact uw0
    · show q_x3 t3 (pu_up (pu_up Z 7 (q_pick L U1 U2)) 8 (q_pick L (q_reck (Z 6) (Z 8)) (Z 8)) 6) (pu_up (pu_up Z 7 (q_pick L U1 U2)) 8 (q_pick L (q_reck (Z 6) (Z 8)) (Z 8)) 8)
      rw [y6, y8]
      refine ⟨cb3, mb3, ?_⟩
      rcases hpick with ⟨g1, -, g3⟩ | ⟨-, -, g3⟩
      · rw [g3]; exact hgR g1
      · rw [g3]; exact wr
    · have e12 : t3 1 12 = nI L9 := (oA _ _ (by omega)).trans h3
      have hf9 : ∀ a b, ¬ (a = 1 ∧ b = 12) → pu_own a b = 9 ∨ pu_own a b = 10 → t3 a b = s a b := fun a b _ q => hfr a b (by rcases q with q | q <;> rw [q] <;> decide)
      show q_x4 d t3 (pu_up (pu_up Z 7 (q_pick L U1 U2)) 8 (q_pick L (q_reck (Z 6) (Z 8)) (Z 8)))
      rcases hpick with ⟨g1, g2, g3⟩ | ⟨g1, g2, g3⟩
      · rw [g2, if_neg i10] at u07 u38
        refine q_x4_up (hZ 4) h3 L1 e12 (Nat.le_refl _) Lc L1 wd.1.2 hf9 (Or.inr ⟨u07, u38, ?_, ?_⟩)
        · rw [y6]; exact Nat.le_refl _
        · rw [y8, g3]; exact q_sr_0 eR.2.2 eR.2.1
      · rw [g2, if_pos rfl] at u07 u38
        have hx : q_x4 d t3 Z := q_x4_up (hZ 4) h3 L1 e12 (Nat.le_refl _) Lc L1 wd.1.2 hf9 (Or.inl ⟨u07, u38, rfl⟩)
        refine q_x4_d (fun _ _ _ => rfl) y6 ?_ (fun j hj => ?_) hx
        · rw [y8, g3]
        · rw [pu_up_o (by omega), pu_up_o (by omega)]
end
