noncomputable section
-- run: both sides, seen together
def q_rP (m a b : Nat) : Prop := q_FC a b ∨ a = 123 ∨ (a = 0 ∧ b = 7) ∨ (a = 182 ∧ b < 6) ∨ a = 184 + 4 * m ∨ a = 185 + 4 * m ∨ a = 186 + 4 * m
def q_rM (Q : am_M) (a b : Nat) : Prop := q_FM Q a b ∨ a = 262 ∨ (a = 207 ∧ (b = 0 ∨ b = 38)) ∨ a = 233 ∨ a = 234 ∨ a = 235
theorem q_mh_e {s t R : am_M} {l : Nat} (hl : l < 6) (h : ∀ a b, 233 ≤ a → a ≤ 235 → ¬ (a = 233 ∧ 4320 ≤ b) → ¬ (a = 234 ∧ 720 ≤ b) → ¬ (a = 235 ∧ 24 ≤ b) → t a b = s a b) (m : q_mh s l R) : q_mh t l R :=
  ⟨fun u hu => by rw [h _ _ (by omega) (by omega) (by omega) (by omega) (by omega)]; exact m.1 u hu, fun p hp => by rw [h _ _ (by omega) (by omega) (by omega) (by omega) (by omega)]; exact m.2.1 p hp, fun x hx hh => by rw [h _ _ (by omega) (by omega) (by omega) (by omega) (by omega)]; exact m.2.2 x hx hh⟩
theorem q_mh_s {s t R : am_M} {l k : Nat} (hl : l ≠ k) (o : q_out s t (fun a b => (a = 233 ∧ 720 * k ≤ b ∧ b < 720 * k + 720) ∨ (a = 234 ∧ 120 * k ≤ b ∧ b < 120 * k + 120) ∨ (a = 235 ∧ 4 * k ≤ b ∧ b < 4 * k + 4))) (m : q_mh s l R) : q_mh t l R :=
  ⟨fun u hu => by rw [o _ _ (by omega)]; exact m.1 u hu, fun p hp => by rw [o _ _ (by omega)]; exact m.2.1 p hp, fun x hx hh => by rw [o _ _ (by omega)]; exact m.2.2 x hx hh⟩
set_option maxHeartbeats 1000000 in
theorem qr_run {s A U Q V R0 : am_M} (W : q_WW A U Q V) (C : q_CC A U Q V s) (M : q_MM A U Q V s) (h8 : q_nq Q ≤ 8) (cb : q_cb s 9 10 11 R0) (mb : q_mb s R0) (wr : q_wr A R0) {k L j : Nat} (k5 : k ≤ 5) (h07 : s 0 7 = nI k) (h38 : s 207 38 = nI k) (hL : s 1 12 = nI L) (hL6 : L + 6 < 100000) (ah : q_ah s) (hs4 : ∀ i, i < k → ∃ X, q_mh s i X) (hj : j < 4) (ha : f_CB_wantAct s (nI j) = 0) : ∃ B T t R' L' m, m < 6 ∧ s 182 k = nI (183 + 4 * m) ∧ f_CB_run s (nI j) = (0, q_good B, T) ∧ p_CB_run s (nI j) ∧ q_out s T (q_rP m) ∧ q_cb T (184 + 4 * m) (185 + 4 * m) (186 + 4 * m) R0 ∧ T 1 12 = nI L' ∧ L ≤ L' ∧ L' ≤ L + 6 ∧ q_fd T 123 0 B ∧
    p_MO_run_14 (am_set T 262 0 (if q_good B = 0 then 0 else 1)) (nI j) 0 ∧ f_MO_run_14 (am_set T 262 0 (if q_good B = 0 then 0 else 1)) (nI j) 0 = (q_good B, t) ∧ q_out T t (q_rM Q) ∧ t 207 0 = 0 ∧ t 262 0 = (if q_good B = 0 then 0 else 1) ∧ q_fd t 207 31 B ∧ q_CC A U Q V T ∧ q_MM A U Q V t ∧
    (B ≠ [] → q_cb T 9 10 11 R0 ∧ q_mb t R0 ∧ T 0 7 = nI k ∧ t 207 38 = nI k ∧ (∀ b, T 182 b = s 182 b) ∧ ∀ i X, i < k → q_mh s i X → q_mh t i X) ∧
    (B = [] → q_cb T 9 10 11 R' ∧ q_mb t R' ∧ q_wr A R' ∧ q_sR A U R0 R' L L' ∧
      ((k < 5 ∧ T 0 7 = nI (k + 1) ∧ t 207 38 = nI (k + 1) ∧ (∀ b, T 182 b = s 182 b) ∧ (∀ i X, i < k → q_mh s i X → q_mh t i X) ∧ q_mh t k R0) ∨
       (k = 5 ∧ T 0 7 = nI 5 ∧ t 207 38 = nI 5 ∧ (∀ i, i < 5 → T 182 i = s 182 (i + 1)) ∧ T 182 5 = s 182 0 ∧ (∀ i X, i < 4 → q_mh s (i + 1) X → q_mh t i X) ∧ q_mh t 4 R0))) := by
  have c0 : ¬ nI k < 0 := qz (by omega)
  have c6 : ¬ (6 : Int32) ≤ nI k := ql_6 (by omega)
  have ck : (nI k).toNatClampNeg = k := nI_clamp (by omega)
  have vk : vp_in (nI k) 6 := vp_in_nI (by omega) (by omega)
  obtain ⟨m, m6, hm⟩ := ah.1 k (by omega)
  have cm : (nI (183 + 4 * m)).toNatClampNeg = 183 + 4 * m := nI_clamp (by omega)
  obtain ⟨pc, s1, hs1, o1, cb1⟩ := qcp (q_bl_a m m6) q_bl_8 (by omega) (by omega) cb
  have eA : f_CB_keepAhead s = s1 := by
    unfold f_CB_keepAhead
    rw [h07, if_neg c0, if_neg c6, ck, hm, cm]; exact hs1
  have pA : p_CB_keepAhead s := by
    unfold p_CB_keepAhead
    rw [h07, ck, hm, cm]
    exact ⟨fun q => absurd q c0, fun _ => ⟨fun q => absurd q c6, fun _ => ⟨vk, qz (by omega), (q_bl_a m m6).1, pc, trivial⟩⟩⟩
  obtain ⟨lk1, lk2, -⟩ := qv_lk j hj
  have cj : (nI j).toNatClampNeg = j := nI_clamp (by omega)
  obtain ⟨C1, C2, C3, C4, C5⟩ := C
  have CC1 : q_CC A U Q V s1 := ⟨q_cd_out o1 (fun a b q => by omega) C1, q_oc_out o1 (fun a b q => by omega) C2, q_uc_out o1 (fun a b q => by omega) C3, q_qc_out o1 (fun a b q => by omega) C4, fun a q1 q2 => by funext b; rw [o1 a b (by omega)]; exact congrFun (C5 a q1 q2) b⟩
  have cbS : q_cb s1 9 10 11 R0 := q_cb_out o1 (fun a b q => by omega) cb
  have L1 : s1 1 12 = nI L := by rw [o1 _ _ (by omega)]; exact hL
  have hst : q_c (V (126 + 14 * j) 1) ≤ 0 + 6 := by have := (W.2.2.2 j hj).2.1; omega
  have cls : ∀ sc (B : List q_It), q_out s1 sc q_FC → (B ≠ [] → q_fd sc 16 0 B) → p_CB_endRun sc (q_good B) ∧ ∃ t, f_CB_endRun sc (q_good B) = (q_good B, t) ∧ q_out sc t (fun a b => (9 ≤ a ∧ a ≤ 11) ∨ a = 123 ∨ (a = 0 ∧ b = 7) ∨ (a = 182 ∧ b < 6)) ∧ q_fd t 123 0 B ∧ (B ≠ [] → q_cb t 9 10 11 R0 ∧ t 0 7 = nI k ∧ ∀ b, t 182 b = sc 182 b) ∧ (B = [] → (∀ a b, 9 ≤ a → a ≤ 11 → t a b = sc a b) ∧ ((k < 5 ∧ t 0 7 = nI (k + 1) ∧ ∀ b, t 182 b = sc 182 b) ∨ (k = 5 ∧ t 0 7 = nI 5 ∧ (∀ j, j < 5 → t 182 j = sc 182 (j + 1)) ∧ t 182 5 = sc 182 0))) := fun sc B o hB => by
    have e : ∀ a b, a = 0 ∨ a = 182 → sc a b = s a b := fun a b q => by rw [o a b (by unfold q_FC; omega), o1 a b (by omega)]
    refine qc_end (by rw [e _ _ (by omega)]; exact h07) k5 ⟨fun j hj => by rw [e _ _ (by omega)]; exact ah.1 j hj, fun i j hi hj q => by rw [e _ _ (by omega), e _ _ (by omega)] at q; exact ah.2 i j hi hj q⟩ (fun m' hm' q => ?_) hB
    rw [e _ _ (by omega), hm] at q
    have := (nI_eq (a := 183 + 4 * m) (b := 183 + 4 * m') (by omega) (by omega)).mp q
    have em : m' = m := by omega
    subst em
    exact ⟨fun u hu => by rw [o _ _ (by unfold q_FC; omega)]; exact cb1.1 u hu, fun u hu => by rw [o _ _ (by unfold q_FC; omega)]; exact cb1.2.1 u hu, fun u hu hh => by rw [o _ _ (by unfold q_FC; omega)]; exact cb1.2.2 u hu hh⟩
  have F : am_F = 5100 := am_F_eq
  -- once, for the frame alone
  obtain ⟨B0, sc0, sm9, R9, L9, -, f0, -, -, ⟨S1, -, -, -, S5, -⟩, -⟩ := qs_loop W hj (nI j) 6 0 am_F am_F s1 s R0 L hst (by omega) (by omega) (by omega) CC1 M cbS mb wr L1 hL6
  obtain ⟨-, t0, e0, q0, -⟩ := cls sc0 B0 S1 (fun h => (S5 h).1)
  rw [nI_0, e0] at f0
  have r0 : f_CB_run s (nI j) = (0, q_good B0, t0) := by
    unfold f_CB_run
    rw [if_pos ha, eA, cj, lk1, f0]
  have oT0 : q_out s t0 (q_rP m) := fun a b q => by
    unfold q_rP at q
    rw [q0 a b (fun z => q (by unfold q_FC; omega)), S1 a b (fun z => q (Or.inl z)), o1 a b (fun z => q (by omega))]
  clear S1 S5 f0 e0 q0 sc0 sm9 R9 L9
  obtain ⟨u, hu⟩ : ∃ u, u = am_set t0 262 0 (if q_good B0 = 0 then 0 else 1) := ⟨_, rfl⟩
  have oU : q_out t0 (am_set u 207 0 0) (fun a b => a = 262 ∨ (a = 207 ∧ b = 0)) := fun a b q => by
    rw [am_set_p (by omega), hu, am_set_p (by omega)]
  have oW : q_out s (am_set u 207 0 0) (fun a b => a < 207 ∨ a = 262 ∨ (a = 207 ∧ b = 0)) := fun a b q => by
    rw [oU a b (by omega), oT0 a b (by unfold q_rP q_FC; omega)]
  have mbW : q_mb (am_set u 207 0 0) R0 := q_mb_out oW (fun a b q => by omega) mb
  obtain ⟨psv, sm0, fsv, osv, mhk⟩ := qm_saves (l := k) (by omega) mbW
  have oS : q_out s sm0 (fun a b => a < 207 ∨ a = 262 ∨ (a = 207 ∧ b = 0) ∨ a = 233 ∨ a = 234 ∨ a = 235) := fun a b q => by
    rw [osv a b (by omega), oW a b (by omega)]
  obtain ⟨M1, M2, M3, M4⟩ := M
  have MM0 : q_MM A U Q V sm0 := ⟨q_md_out oS (fun a b q => by omega) M1, q_um_out oS (fun a b q => by omega) M2, q_qm_out h8 oS (fun a b q => by omega) M3, q_vm_out (fun a b q1 q2 => oS a b (by omega)) M4⟩
  obtain ⟨B, sc, sm, R', L', p2, f2, p3, f3, ⟨S1, S2, S3, S4, S5, S6⟩, S7⟩ := qs_loop W hj (nI j) 6 0 am_F am_F s1 sm0 R0 L hst (by omega) (by omega) (by omega) CC1 MM0 cbS (q_mb_out oS (fun a b q => by omega) mb) wr L1 hL6
  obtain ⟨pe, T, e, q, fdT, hf, hg⟩ := cls sc B S1 (fun h => (S5 h).1)
  rw [nI_0] at p2 p3 f3
  rw [nI_0, e] at f2
  rw [e] at p2
  have r : f_CB_run s (nI j) = (0, q_good B, T) := by
    unfold f_CB_run
    rw [if_pos ha, eA, cj, lk1, f2]
  have e2 : t0 = T ∧ q_good B0 = q_good B := by
    have := r0.symm.trans r
    obtain ⟨-, h⟩ := Prod.mk.inj this
    obtain ⟨h1, h2⟩ := Prod.mk.inj h
    exact ⟨h2, h1⟩
  obtain ⟨rfl, e3⟩ := e2
  rw [e3] at hu
  have pr : p_CB_run s (nI j) := by
    unfold p_CB_run
    rw [eA, cj, lk1]
    exact fun _ => ⟨pA, vp_in_nI (by omega) (by omega), lk2, p2 ⟨pe, by
      rcases q_good_c B with ⟨-, g2, -⟩ | ⟨-, g2, -⟩
      · exact Or.inr g2
      · exact Or.inl g2⟩⟩
  have oc : q_out s sc (fun a b => q_FC a b ∨ a = 184 + 4 * m ∨ a = 185 + 4 * m ∨ a = 186 + 4 * m) := fun a b z => by
    rw [S1 a b (fun y => z (Or.inl y)), o1 a b (fun y => z (Or.inr y))]
  have e38 : ∀ v, v = sm ∨ v = sm0 ∨ v = am_set u 207 0 0 → v 207 38 = nI k := fun v hv => by
    have h1 : am_set u 207 0 0 207 38 = nI k := by rw [oW _ _ (by omega)]; exact h38
    have h2 : sm0 207 38 = nI k := by rw [osv _ _ (by omega)]; exact h1
    rcases hv with rfl | rfl | rfl
    · rw [S2 _ _ (fun z => by have := q_FM_w z; omega)]; exact h2
    · exact h2
    · exact h1
  have sme : ∀ a b, 233 ≤ a → a ≤ 235 → ¬ (a = 233 ∧ 4320 ≤ b) → ¬ (a = 234 ∧ 720 ≤ b) → ¬ (a = 235 ∧ 24 ≤ b) → sm a b = sm0 a b := fun a b h1 h2 h3 h4 h5 => S2 a b (fun z => by have := q_FM_w z; omega)
  have mhs : q_mh sm k R0 := q_mh_e (by omega) sme mhk
  have mho : ∀ i X, i ≠ k → i < 6 → q_mh s i X → q_mh sm i X := fun i X h1 h2 hX => q_mh_e h2 sme (q_mh_s h1 osv (q_mh_e h2 (fun a b z1 z2 _ _ _ => oW a b (by omega)) hX))
  obtain ⟨p9, t, f9, o9, fd9, hf9, hg9⟩ := qm_run14 (x1 := nI j) k5 (e38 _ (Or.inr (Or.inr rfl))) psv fsv p3 f3 (e38 _ (Or.inl rfl)) mhs (fun h5 v hv => by
    have key : ∀ i X, 1 ≤ i → i < 6 → q_mh sm i X → 120 * i ≤ v + 120 → v + 120 < 120 * i + 120 → sm 234 (v + 120) = 0 ∨ sm 234 (v + 120) = 1 := fun i X _ _ hX z1 z2 => by
      have := hX.2.1 (v + 120 - 120 * i) (by omega)
      rw [show 120 * i + (v + 120 - 120 * i) = v + 120 from by omega] at this
      rw [this]
      by_cases c : X 1 (v + 120 - 120 * i) = 0
      · rw [if_pos c]; exact Or.inl rfl
      · rw [if_neg c]; exact Or.inr rfl
    by_cases c : (v + 120) / 120 = k
    · exact key k R0 (by omega) (by omega) mhs (by omega) (by omega)
    · obtain ⟨X, hX⟩ := hs4 ((v + 120) / 120) (by omega)
      exact key _ X (by omega) (by omega) (mho _ X c (by omega) hX) (by omega) (by omega)) (fun h => (S5 h).2.1)
  have smT : q_out t0 sm (q_rM Q) := fun a b z => by
    unfold q_rM at z
    rw [S2 a b (fun y => z (Or.inl y)), osv a b (fun y => z (by omega)), oU a b (fun y => z (by omega))]
  have oTt : q_out t0 t (q_rM Q) := fun a b z => by
    unfold q_rM at z
    rw [o9 a b (fun y => z (by unfold q_FM; omega))]
    exact smT a b z
  have CCT : q_CC A U Q V t0 := by
    obtain ⟨D1, D2, D3, D4, D5⟩ := CC1
    have o : q_out s1 t0 (fun a b => q_FC a b ∨ a = 123 ∨ (a = 0 ∧ b = 7) ∨ (a = 182 ∧ b < 6)) := fun a b z => by
      rw [q a b (fun y => z (by unfold q_FC; omega)), S1 a b (fun y => z (Or.inl y))]
    exact ⟨q_cd_out o (fun a b q => by unfold q_FC at q; omega) D1, q_oc_out o (fun a b q => by unfold q_FC at q; omega) D2, q_uc_out o (fun a b q => by unfold q_FC at q; omega) D3, q_qc_out o (fun a b q => by unfold q_FC at q; omega) D4, fun a q1 q2 => by funext b; rw [o a b (by unfold q_FC; omega)]; exact congrFun (D5 a q1 q2) b⟩
  have MMt : q_MM A U Q V t := by
    obtain ⟨D1, D2, D3, D4⟩ := q_MM_o h8 S2 MM0
    exact ⟨q_md_out o9 (fun a b q => by omega) D1, q_um_out o9 (fun a b q => by omega) D2, q_qm_out h8 o9 (fun a b q => by omega) D3, q_vm_out (fun a b q1 q2 => o9 a b (by omega)) D4⟩
  rw [hu] at p9 f9
  refine ⟨B, t0, t, R', L', m, m6, hm, r, pr, oT0, ?_, ?_, S4, S7, fdT, p9, f9, oTt, ?_, ?_, fd9, CCT, MMt, fun h => ?_, fun h => ?_⟩
  · have o : ∀ a b, 183 ≤ a → t0 a b = s1 a b := fun a b z => by rw [q a b (by omega), S1 a b (by unfold q_FC; omega)]
    exact ⟨fun u hu => by rw [o _ _ (by omega)]; exact cb1.1 u hu, fun u hu => by rw [o _ _ (by omega)]; exact cb1.2.1 u hu, fun u hu hh => by rw [o _ _ (by omega)]; exact cb1.2.2 u hu hh⟩
  · rw [q _ _ (by omega)]; exact S3
  · rw [o9 _ _ (by omega), S2 _ _ (fun z => by have := q_FM_w z; omega), osv _ _ (by omega), am_set_q]
  · rw [o9 _ _ (by omega), S2 _ _ (fun z => by have := q_FM_w z; omega), osv _ _ (by omega), am_set_p (by omega), hu, am_set_q]
  · obtain ⟨h1, h2, h3⟩ := hf h
    obtain ⟨g1, g2, g3⟩ := hf9 h
    exact ⟨h1, g1, h2, g2, fun b => by rw [h3 b, oc _ _ (by unfold q_FC; omega)], fun i X hi hX => q_mh_e (by omega) (fun a b z1 z2 _ _ _ => g3 a b z1 z2) (mho i X (by omega) (by omega) hX)⟩
  · obtain ⟨h1, h2⟩ := hg h
    obtain ⟨g1, g2⟩ := hg9 h
    obtain ⟨z1, z2, z3, z4⟩ := S6 h
    refine ⟨⟨fun u hu => by rw [h1 _ _ (by omega) (by omega)]; exact z1.1 u hu, fun u hu => by rw [h1 _ _ (by omega) (by omega)]; exact z1.2.1 u hu, fun u hu hh => by rw [h1 _ _ (by omega) (by omega)]; exact z1.2.2 u hu hh⟩, ⟨fun u hu => by rw [g1 _ _ (by omega) (by omega)]; exact z2.1 u hu, fun u hu => by rw [g1 _ _ (by omega) (by omega)]; exact z2.2.1 u hu, fun u hu hh => by rw [g1 _ _ (by omega) (by omega)]; exact z2.2.2 u hu hh⟩, z3, z4, ?_⟩
    rcases h2 with ⟨y1, y2, y3⟩ | ⟨y1, y2, y3, y4⟩
    · rcases g2 with ⟨x1, x2, x3⟩ | ⟨x1, -⟩
      · exact Or.inl ⟨y1, y2, x2, fun b => by rw [y3 b, oc _ _ (by unfold q_FC; omega)], fun i X hi hX => q_mh_e (by omega) (fun a b z1 z2 _ _ _ => x3 a b z1 z2) (mho i X (by omega) (by omega) hX), q_mh_e (by omega) (fun a b z1 z2 _ _ _ => x3 a b z1 z2) mhs⟩
      · omega
    · rcases g2 with ⟨x1, -⟩ | ⟨x1, x2, x3⟩
      · omega
      · subst y1
        exact Or.inr ⟨rfl, y2, x2, fun i hi => by rw [y3 i hi, oc _ _ (by unfold q_FC; omega)], by rw [y4, oc _ _ (by unfold q_FC; omega)], fun i X hi hX => x3 i X (by omega) (mho (i + 1) X (by omega) (by omega) hX), x3 4 R0 (by omega) mhs⟩
end
