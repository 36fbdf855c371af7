noncomputable section
set_option maxHeartbeats 1000000 in
theorem op_run_ok {c d : Nat} (hcd : c + 7 ≤ d) (hd9 : d ≤ 4000) : op_run (pu_R c) (pu_R d) := by
  intro s x h
  have hL9 : ∃ L, s 1 12 = nI L ∧ L + 7 ≤ d ∧ L < 100000 := by
    obtain ⟨-, Z, hZ⟩ := h
    obtain ⟨k, L, k5, Lc, L1, h1, h2, h3, -⟩ : q_x4 c s Z := hZ 4
    exact ⟨L, h3, by omega, L1⟩
  replace h := h.mono (show c ≤ d by omega)
  have h' := h
  obtain ⟨L, hL, hLd, hL1⟩ := hL9
  obtain ⟨hP, Z, hZ⟩ := h
  obtain ⟨cd, oc, md, wd⟩ : q_x1 s (Z 6) := hZ 1
  obtain ⟨uc, um, uw⟩ := q_x2_p (hZ 2 : q_x2 s (Z 7))
  obtain ⟨cb, mb, wr⟩ : q_x3 s (Z 6) (Z 8) := hZ 3
  obtain ⟨qc, qm, qw⟩ : q_x5 s (Z 6) (Z 11) := hZ 5
  obtain ⟨vc, vm, vw⟩ : q_x6 s (Z 6) (Z 11) (Z 12) := hZ 6
  have h8 := qw.1.2
  have n4 := wd.1.2
  obtain ⟨k, L9, k5, -, L91, h1, h2, h3, ah, sl, se, fo⟩ : q_x4 d s Z := hZ 4
  have eL : L9 = L := (nI_eq (by omega) (by omega)).mp (h3.symm.trans hL)
  subst eL
  obtain ⟨n, hn4, A1, A2, A3⟩ := qv_act h'.nact x
  rcases q_in_c n (by omega) x with g | ⟨g, j, hj, rfl⟩
  · rw [g, if_pos rfl] at A1
    obtain ⟨B1, B2⟩ := A3 s rfl
    rw [g] at B2
    have e1 := pr_holds1 s (x := 1) (by decide)
    refine on_run_1 (v := 0) (s1 := s) (w := 0) (t := am_set s 207 0 1) (by unfold f_CB_run; rw [A1]; rfl) (by unfold p_CB_run; rw [A1]; exact fun q => absurd (show (1 : Nat) = 0 from q) (by decide)) ?_ ?_ am_set_q (pu_R_thrown h')
    · unfold p_MO_run; rw [B2]
      exact ⟨B1, fun _ => by unfold p_MO_run_14; rw [e1]; exact ⟨fun _ => trivial, fun q => absurd rfl q⟩, fun q => absurd rfl q⟩
    · unfold f_MO_run; rw [B2, if_pos rfl]; unfold f_MO_run_14; rw [e1]; rfl
  rw [g, if_neg i10] at A1
  obtain ⟨B, T, t, R', L', m, m6, hm, fC, pC, oT, cbk, lT, LL, LL6, fdT, pM, fM, oM, t0, t2, fdt, CC, MM, hfail, hok⟩ := qr_run (A := Z 6) (U := Z 7) (Q := Z 11) (V := Z 12) ⟨wd, uw, qw, vw⟩ ⟨cd, oc, uc, qc, fun a q1 q2 => vc a q1 q2⟩ ⟨md, um, qm, vm⟩ h8 cb mb wr k5 h1 h2 hL (by omega) ah (fun i hi => ⟨_, (sl i hi).2.1⟩) (show j < 4 by omega) A1
  have oTs : ∀ a b, a ≠ 262 → 207 ≤ a → T a b = s a b := fun a b q1 q2 => oT a b (by unfold q_rP q_FC; omega)
  obtain ⟨B1, B2⟩ := A3 (am_set T 262 0 (if q_good B = 0 then 0 else 1)) (by rw [am_set_p (by omega)]; exact oTs _ _ (by omega) (by omega))
  rw [g] at B2
  have tT : ∀ a b, a < 207 → t a b = T a b := fun a b q => oM a b (fun z => by
    unfold q_rM at z
    rcases z with z | z
    · have := q_FM_w z; omega
    · omega)
  have t28 : ∀ b, b = 28 ∨ b = 29 → t 207 b = s 207 b := fun b q => by
    rw [oM 207 b (fun z => by
      unfold q_rM at z
      rcases z with z | z
      · have := q_FM_w z; omega
      · omega), oTs _ _ (by omega) (by omega)]
  have ts0 : ∀ b, b = 8 ∨ b = 9 ∨ b = 10 → t 0 b = s 0 b := fun b q => by rw [tT _ _ (by omega), oT 0 b (by unfold q_rP q_FC; omega)]
  have hfr : pu_fr (· ∈ [0, 1, 2, 8, 9, 11, 20, 21, 22, 23, 24]) s t := pu_fr_t (pu_fr_o oT (fun a b q => q_rP_own m6 q)) (pu_fr_o oM (fun a b q => q_rM_own q))
  have told : pr_told t := by
    have e : ∀ b, t 123 b = T 123 b := fun b => tT _ _ (by omega)
    exact ⟨(e 0).trans (fdT.1.trans fdt.1.symm), (e 1).trans (fdT.2.1.trans fdt.2.1.symm), (e 2).trans (fdT.2.2.1.trans fdt.2.2.1.symm), (e 3).trans (fdT.2.2.2.trans fdt.2.2.2.symm)⟩
  have old : ∀ i m', i < 6 → i ≠ k → m' < 6 → s 182 i = nI (183 + 4 * m') → ∀ X, q_cb s (184 + 4 * m') (185 + 4 * m') (186 + 4 * m') X → q_cb t (184 + 4 * m') (185 + 4 * m') (186 + 4 * m') X := fun i m' hi hik hm' q X hX => by
    have hne : m' ≠ m := fun e => hik (ah.2 i k hi (by omega) (by rw [q, hm, e]))
    have e : ∀ a b, a = 184 + 4 * m' ∨ a = 185 + 4 * m' ∨ a = 186 + 4 * m' → t a b = s a b := fun a b z => by rw [tT _ _ (by omega), oT a b (by unfold q_rP q_FC; omega)]
    exact ⟨fun u hu => by rw [e _ _ (by omega)]; exact hX.1 u hu, fun u hu => by rw [e _ _ (by omega)]; exact hX.2.1 u hu, fun u hu hh => by rw [e _ _ (by omega)]; exact hX.2.2 u hu hh⟩
  have new : ∀ m', m' < 6 → s 182 k = nI (183 + 4 * m') → q_cb t (184 + 4 * m') (185 + 4 * m') (186 + 4 * m') (Z 8) := fun m' hm' q => by
    have e1 := (nI_eq (a := 183 + 4 * m) (b := 183 + 4 * m') (by omega) (by omega)).mp (hm.symm.trans q)
    have e2 : m' = m := by omega
    subst e2
    exact ⟨fun u hu => by rw [tT _ _ (by omega)]; exact cbk.1 u hu, fun u hu => by rw [tT _ _ (by omega)]; exact cbk.2.1 u hu, fun u hu hh => by rw [tT _ _ (by omega)]; exact cbk.2.2 u hu hh⟩
  have fin : ∀ (Y : Nat → am_M) (k' : Nat), (q_gd (Z 6) (Z 7) (Y 8) ∧ ∀ j, j < k' → q_gd (Z 6) (Z 7) (Y (20 + j))) → (∀ i, i ∉ [0, 1, 2, 8, 9, 11, 20, 21, 22, 23, 24] → Y i = Z i) → Y 11 = Z 11 → k' ≤ 5 → T 0 7 = nI k' → t 207 38 = nI k' → q_cb T 9 10 11 (Y 8) → q_mb t (Y 8) → q_wr (Z 6) (Y 8) → q_ah t → (∀ j, j < k' → (∀ m', m' < 6 → t 182 j = nI (183 + 4 * m') → q_cb t (184 + 4 * m') (185 + 4 * m') (186 + 4 * m') (Y (20 + j))) ∧ q_mh t j (Y (20 + j)) ∧ q_wr (Z 6) (Y (20 + j)) ∧ q_ser (Y (20 + j)) L' ∧ q_le (Y (20 + j)) (Y 8) ∧ ∀ i, i < j → q_le (Y (20 + i)) (Y (20 + j))) → q_ser (Y 8) L' → q_form t Y k' L' → pu_R d t := fun Y k' g7 hY hY11 k'5 u1 u2 ncb nmb nwr nah nsl nse nfo => by
    have y6 : Y 6 = Z 6 := hY 6 (by decide)
    have y12 : Y 12 = Z 12 := hY 12 (by decide)
    have t07 : t 0 7 = nI k' := (tT _ _ (by omega)).trans u1
    refine pu_keepX (J := [0, 1, 2, 8, 9, 11, 20, 21, 22, 23, 24]) (Y := Y) hP hZ hfr hY (fun i hi => ?_) (fun i hi => ?_)
    · have e : i = 0 ∨ i = 1 ∨ i = 2 ∨ i = 8 ∨ i = 9 ∨ i = 11 ∨ i = 20 ∨ i = 21 ∨ i = 22 ∨ i = 23 ∨ i = 24 := by simpa using hi
      rcases e with rfl | rfl | rfl | rfl | rfl | rfl | rfl | rfl | rfl | rfl | rfl
      · exact trivial
      · exact told
      · exact ⟨k', k'5, t07, u2⟩
      all_goals exact trivial
    · have e : i ∈ [3, 4, 5, 6, 7] := hi
      have e : i = 3 ∨ i = 4 ∨ i = 5 ∨ i = 6 ∨ i = 7 := by simpa using e
      rcases e with rfl | rfl | rfl | rfl | rfl
      rotate_right
      · exact ⟨k', k'5, t07, by rw [y6, hY 7 (by decide)]; exact g7.1, fun j hj => by rw [y6, hY 7 (by decide)]; exact g7.2 j hj⟩
      · show q_x3 t (Y 6) (Y 8)
        rw [y6]
        exact ⟨⟨fun u hu => by rw [tT _ _ (by omega)]; exact ncb.1 u hu, fun u hu => by rw [tT _ _ (by omega)]; exact ncb.2.1 u hu, fun u hu hh => by rw [tT _ _ (by omega)]; exact ncb.2.2 u hu hh⟩, nmb, nwr⟩
      · show q_x4 d t Y
        refine ⟨k', L', k'5, by omega, by omega, t07, u2, (tT _ _ (by omega)).trans lT, nah, fun j hj => ?_, nse, nfo⟩
        rw [y6]; exact nsl j hj
      · show q_x5 t (Y 6) (Y 11)
        rw [y6, hY11]
        have o : q_out T t (fun a b => 207 ≤ a) := fun a b z => tT a b (by omega)
        exact ⟨q_qc_out o (fun a b z => by omega) CC.2.2.2.1, MM.2.2.1, qw⟩
      · show q_x6 t (Y 6) (Y 11) (Y 12)
        rw [y6, hY11, y12]
        exact ⟨fun a z1 z2 => by funext b; rw [tT a b (by omega)]; exact congrFun (CC.2.2.2.2 a z1 z2) b, MM.2.2.2, vw⟩
  refine og_run (v := q_good B) (w := q_good B) (s1 := T) (t := t) fC pC ?_ ?_ t0 t2 ?_
  · unfold p_MO_run; rw [B2]; exact ⟨B1, fun q => absurd q i10, fun _ => pM⟩
  · unfold f_MO_run; rw [B2, if_neg i10]; exact fM
  obtain ⟨k8, k85, x1, x2, x3⟩ : q_x7 s Z := hZ 7
  have ek : k8 = k := (nI_eq (by omega) (by omega)).mp (x1.symm.trans h1)
  by_cases hB : B = []
  rotate_left
  · obtain ⟨r1, r2, r3, r4, r5, r6⟩ := hfail hB
    have e182 : ∀ b, t 182 b = s 182 b := fun b => (tT _ _ (by omega)).trans (r5 b)
    refine fin Z k ⟨x2, fun j hj => x3 j (by omega)⟩ (fun _ _ => rfl) rfl k5 r3 r4 r1 r2 wr ⟨fun j hj => by rw [e182]; exact ah.1 j hj, fun i j hi hj q => by rw [e182, e182] at q; exact ah.2 i j hi hj q⟩ (fun i hi => ?_) (q_ser_m se LL) (q_form_up (t28 _ (by omega)) (t28 _ (by omega)) (ts0 _ (by omega)) (ts0 _ (by omega)) (ts0 _ (by omega)) rfl n4 LL (by omega) (fun X hX => Or.inl hX) ⟨fun _ _ => Nat.le_refl _, fun _ _ => Or.inl rfl⟩ fo)
    obtain ⟨q1, q2, q3, q4, q5, q6⟩ := sl i hi
    exact ⟨fun m' hm' z => by rw [e182] at z; exact old i m' (by omega) (by omega) hm' z _ (q1 m' hm' z), r6 i _ hi q2, q3, q_ser_m q4 LL, q5, q6⟩
  obtain ⟨r1, r2, r3, ⟨sr, st9⟩, hc⟩ := hok hB
  have gR : q_gd (Z 6) (Z 7) R' := gd_st9 wd x2 st9
  rcases hc with ⟨c1, c2, c3, c4, c5, c6⟩ | ⟨c1, c2, c3, c4, c5, c6, c7⟩
  · have e182 : ∀ b, t 182 b = s 182 b := fun b => (tT _ _ (by omega)).trans (c4 b)
    obtain ⟨Y, hY⟩ : ∃ Y : Nat → am_M, Y = fun i => if i = 8 then R' else if i = 20 + k then Z 8 else Z i := ⟨_, rfl⟩
    have y8 : Y 8 = R' := by rw [hY]; exact if_pos rfl
    have yk : Y (20 + k) = Z 8 := by rw [hY]; show (if 20 + k = 8 then R' else if 20 + k = 20 + k then Z 8 else Z (20 + k)) = _; rw [if_neg (by omega), if_pos rfl]
    have yo : ∀ i, i ≠ 8 → i ≠ 20 + k → Y i = Z i := fun i z1 z2 => by rw [hY]; show (if i = 8 then R' else if i = 20 + k then Z 8 else Z i) = _; rw [if_neg z1, if_neg z2]
    have yj : ∀ i, i < k → Y (20 + i) = Z (20 + i) := fun i hi => yo _ (by omega) (by omega)
    refine fin Y (k + 1) ⟨by rw [y8]; exact gR, fun j hj => by
      by_cases ck : j = k
      · rw [ck, yk]; exact x2
      · rw [yj j (by omega)]; exact x3 j (by omega)⟩ (fun i hi => yo i (fun z => hi (by rw [z]; decide)) (fun z => hi (by
      have : k = 0 ∨ k = 1 ∨ k = 2 ∨ k = 3 ∨ k = 4 := by omega
      rcases this with q | q | q | q | q <;> rw [z, q] <;> decide))) (yo _ (by omega) (by omega)) (by omega) c2 c3 (by rw [y8]; exact r1) (by rw [y8]; exact r2) (by rw [y8]; exact r3) ⟨fun j hj => by rw [e182]; exact ah.1 j hj, fun i j hi hj q => by rw [e182, e182] at q; exact ah.2 i j hi hj q⟩ (fun i hi => ?_) (by rw [y8]; exact q_ser_s se sr LL) (q_form_up (Z := Z) (t28 _ (by omega)) (t28 _ (by omega)) (ts0 _ (by omega)) (ts0 _ (by omega)) (ts0 _ (by omega)) (yo _ (by omega) (by omega)) n4 LL (by omega) (fun X hX => ?_) (by rw [y8]; exact sr) fo)
    · rw [y8]
      by_cases ck : i = k
      · subst ck
        rw [yk]
        exact ⟨fun m' hm' z => by rw [e182] at z; exact new m' hm' z, c6, wr, q_ser_m se LL, q_le_r sr, fun i2 hi2 => by rw [yj i2 hi2]; exact (sl i2 hi2).2.2.2.2.1⟩
      · have hik : i < k := by omega
        obtain ⟨q1, q2, q3, q4, q5, q6⟩ := sl i hik
        rw [yj i hik]
        exact ⟨fun m' hm' z => by rw [e182] at z; exact old i m' (by omega) ck hm' z _ (q1 m' hm' z), c5 i _ hik q2, q3, q_ser_m q4 LL, q_le_s q5 sr, fun i2 hi2 => by rw [yj i2 (by omega)]; exact q6 i2 hi2⟩
    · rcases hX with q | ⟨i, hi, q⟩
      · exact Or.inr q
      · by_cases ck : i = k
        · subst ck
          rw [yk] at q; exact Or.inl (Or.inl q)
        · rw [yj i (by omega)] at q; exact Or.inl (Or.inr ⟨i, by omega, q⟩)
  · subst c1
    obtain ⟨Y, hY⟩ : ∃ Y : Nat → am_M, Y = fun i => if i = 8 then R' else if i = 24 then Z 8 else if 20 ≤ i ∧ i < 24 then Z (i + 1) else Z i := ⟨_, rfl⟩
    have y8 : Y 8 = R' := by rw [hY]; exact if_pos rfl
    have y24 : Y 24 = Z 8 := by rw [hY]; rfl
    have yj : ∀ i, i < 4 → Y (20 + i) = Z (20 + (i + 1)) := fun i hi => by rw [hY]; show (if 20 + i = 8 then R' else if 20 + i = 24 then Z 8 else if 20 ≤ 20 + i ∧ 20 + i < 24 then Z (20 + i + 1) else Z (20 + i)) = _; rw [if_neg (by omega), if_neg (by omega), if_pos (by omega), Nat.add_assoc]
    have yo : ∀ i, i ≠ 8 → (i < 20 ∨ 24 < i) → Y i = Z i := fun i z1 z2 => by rw [hY]; show (if i = 8 then R' else if i = 24 then Z 8 else if 20 ≤ i ∧ i < 24 then Z (i + 1) else Z i) = _; rw [if_neg z1, if_neg (by omega), if_neg (by omega)]
    have e182 : ∀ i, i < 6 → ∃ i', i' < 6 ∧ t 182 i = s 182 i' ∧ ((i = 5 ∧ i' = 0) ∨ i' = i + 1) := fun i hi => by
      by_cases c : i = 5
      · exact ⟨0, by omega, by rw [c, tT _ _ (by omega)]; exact c5, Or.inl ⟨c, rfl⟩⟩
      · exact ⟨i + 1, by omega, by rw [tT _ _ (by omega)]; exact c4 i (by omega), Or.inr rfl⟩
    refine fin Y 5 ⟨by rw [y8]; exact gR, fun j hj => by
      by_cases ck : j = 4
      · rw [ck]; rw [show 20 + 4 = 24 from rfl, y24]; exact x2
      · rw [yj j (by omega)]; exact x3 (j + 1) (by omega)⟩ (fun i hi => yo i (fun z => hi (by rw [z]; decide)) (by
      by_cases c : i < 20
      · exact Or.inl c
      by_cases c2 : 24 < i
      · exact Or.inr c2
      exfalso
      have : i = 20 ∨ i = 21 ∨ i = 22 ∨ i = 23 ∨ i = 24 := by omega
      apply hi
      rcases this with q | q | q | q | q <;> rw [q] <;> decide)) (yo _ (by omega) (by omega)) (by omega) c2 c3 (by rw [y8]; exact r1) (by rw [y8]; exact r2) (by rw [y8]; exact r3) ⟨fun j hj => ?_, fun i j hi hj q => ?_⟩ (fun i hi => ?_) (by rw [y8]; exact q_ser_s se sr LL) (q_form_up (Z := Z) (t28 _ (by omega)) (t28 _ (by omega)) (ts0 _ (by omega)) (ts0 _ (by omega)) (ts0 _ (by omega)) (yo _ (by omega) (by omega)) n4 LL (by omega) (fun X hX => ?_) (by rw [y8]; exact sr) fo)
    · obtain ⟨j', z1, z2, -⟩ := e182 j hj
      rw [z2]; exact ah.1 j' z1
    · obtain ⟨i', z1, z2, z3⟩ := e182 i hi
      obtain ⟨j', y1, y2, y3⟩ := e182 j hj
      rw [z2, y2] at q
      have := ah.2 i' j' z1 y1 q
      omega
    · rw [y8]
      by_cases ck : i = 4
      · subst ck
        rw [y24]
        refine ⟨fun m' hm' z => new m' hm' ?_, c7, wr, q_ser_m se LL, q_le_r sr, fun i2 hi2 => by rw [yj i2 hi2]; exact (sl (i2 + 1) (by omega)).2.2.2.2.1⟩
        rw [← z, tT _ _ (by omega)]; exact (c4 4 (by omega)).symm
      · have hik : i < 4 := by omega
        obtain ⟨q1, q2, q3, q4, q5, q6⟩ := sl (i + 1) (by omega)
        rw [yj i hik]
        refine ⟨fun m' hm' z => ?_, c6 i _ hik q2, q3, q_ser_m q4 LL, q_le_s q5 sr, fun i2 hi2 => by rw [yj i2 (by omega)]; exact q6 (i2 + 1) (by omega)⟩
        have z' : s 182 (i + 1) = nI (183 + 4 * m') := by rw [← z, tT _ _ (by omega)]; exact (c4 i (by omega)).symm
        exact old (i + 1) m' (by omega) (by omega) hm' z' _ (q1 m' hm' z')
    · rcases hX with q | ⟨i, hi, q⟩
      · exact Or.inr q
      · by_cases ck : i = 4
        · subst ck
          rw [y24] at q; exact Or.inl (Or.inl q)
        · rw [yj i (by omega)] at q; exact Or.inl (Or.inr ⟨i + 1, by omega, q⟩)
end
