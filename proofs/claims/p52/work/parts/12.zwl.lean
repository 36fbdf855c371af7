noncomputable section
-- what a change would lose, and has lost
theorem bz_v {h : Nat × Int32 × am_M} {g : Int32} (g1 : h.1 = 0) (g2 : h.2.1 = g) : (bz h).1 = (if g = 0 then (0 : Int32) else 1) ∧ (bz h).2 = h.2.2 := by
  unfold bz
  rw [if_pos g1, g2]
  by_cases q : g = 0
  · rw [if_pos q, if_pos q]; exact ⟨rfl, rfl⟩
  · rw [if_neg q, if_neg q]; exact ⟨rfl, rfl⟩
theorem bz_n {h : Nat × Int32 × am_M} (z : (bz h).1 ≠ -9999999) : h.1 = 0 := by
  rcases Classical.em (h.1 = 0) with q | q
  · exact q
  · unfold bz at z
    rw [if_neg q] at z
    exact absurd rfl z
theorem bz_t {h : Nat × Int32 × am_M} (z : (bz h).1 = -9999999) : h.1 ≠ 0 := fun q => by
  have e := (bz_v q rfl).1
  rw [e] at z
  by_cases k : h.2.1 = 0
  · rw [if_pos k] at z; exact absurd z (by decide)
  · rw [if_neg k] at z; exact absurd z (by decide)
theorem LE_sets_11 {u : am_M} {x2 x3 x4 x5 x6 x7 : Int32} : f_LH_sets u (11 : Int32) x2 x3 x4 x5 x6 x7 = az (f_CB_wouldLose u x2 x3 x4 x5) := by
  unfold f_LH_sets
  rw [if_neg (show ¬ ((11 : Int32) = 0) by decide), if_neg (show ¬ ((11 : Int32) = (1 : Int32)) by decide), if_neg (show ¬ ((11 : Int32) = (2 : Int32)) by decide), if_neg (show ¬ ((11 : Int32) = (3 : Int32)) by decide), if_neg (show ¬ ((11 : Int32) = (4 : Int32)) by decide), if_neg (show ¬ ((11 : Int32) = (5 : Int32)) by decide), if_neg (show ¬ ((11 : Int32) = (6 : Int32)) by decide), if_neg (show ¬ ((11 : Int32) = (7 : Int32)) by decide), if_neg (show ¬ ((11 : Int32) = (8 : Int32)) by decide), if_neg (show ¬ ((11 : Int32) = (9 : Int32)) by decide), if_neg (show ¬ ((11 : Int32) = (10 : Int32)) by decide), if_pos rfl]
  exact az3 _
theorem LE_sets_12 {u : am_M} {x2 x3 x4 x5 x6 x7 : Int32} : f_LH_sets u (12 : Int32) x2 x3 x4 x5 x6 x7 = az (f_CB_wouldLoseAll u x2 x3) := by
  unfold f_LH_sets
  rw [if_neg (show ¬ ((12 : Int32) = 0) by decide), if_neg (show ¬ ((12 : Int32) = (1 : Int32)) by decide), if_neg (show ¬ ((12 : Int32) = (2 : Int32)) by decide), if_neg (show ¬ ((12 : Int32) = (3 : Int32)) by decide), if_neg (show ¬ ((12 : Int32) = (4 : Int32)) by decide), if_neg (show ¬ ((12 : Int32) = (5 : Int32)) by decide), if_neg (show ¬ ((12 : Int32) = (6 : Int32)) by decide), if_neg (show ¬ ((12 : Int32) = (7 : Int32)) by decide), if_neg (show ¬ ((12 : Int32) = (8 : Int32)) by decide), if_neg (show ¬ ((12 : Int32) = (9 : Int32)) by decide), if_neg (show ¬ ((12 : Int32) = (10 : Int32)) by decide), if_neg (show ¬ ((12 : Int32) = (11 : Int32)) by decide)]
  exact az3 _
theorem PS_11 {c : Nat} {s : am_M} {x2 x3 x4 x5 x6 x7 : Int32} (h : pu_R c s) : p_LH_sets s (11 : Int32) x2 x3 x4 x5 x6 x7 := by
  obtain ⟨⟨ps, -⟩, e1, -⟩ := zo_wouldLose (op_wouldLose_ok (c := c) (d := c) (Nat.le_refl c)) (⟨h, h, gq_rf⟩ : RR c s s) (a1 := x2) (a2 := x3) (a3 := x4) (a4 := x5)
  unfold p_LH_sets
  exact ⟨fun q => absurd q (by decide), fun _ => ⟨fun q => absurd q (by decide), fun _ => ⟨fun q => absurd q (by decide), fun _ => ⟨fun q => absurd q (by decide), fun _ => ⟨fun q => absurd q (by decide), fun _ => ⟨fun q => absurd q (by decide), fun _ => ⟨fun q => absurd q (by decide), fun _ => ⟨fun q => absurd q (by decide), fun _ => ⟨fun q => absurd q (by decide), fun _ => ⟨fun q => absurd q (by decide), fun _ => ⟨fun q => absurd q (by decide), fun _ => ⟨fun _ => ⟨ps, e1, fun _ => trivial, fun _ => ⟨fun _ => trivial, fun _ => ⟨fun _ => trivial, fun _ => trivial⟩⟩⟩, fun q => absurd rfl q⟩⟩⟩⟩⟩⟩⟩⟩⟩⟩⟩⟩
theorem PS_12 {c : Nat} {s : am_M} {x2 x3 x4 x5 x6 x7 : Int32} (h : pu_R c s) : p_LH_sets s (12 : Int32) x2 x3 x4 x5 x6 x7 := by
  obtain ⟨⟨ps, -⟩, e1, -⟩ := zo_wouldLoseAll (op_wouldLoseAll_ok (c := c) (d := c) (Nat.le_refl c)) (⟨h, h, gq_rf⟩ : RR c s s) (a1 := x2) (a2 := x3)
  unfold p_LH_sets
  exact ⟨fun q => absurd q (by decide), fun _ => ⟨fun q => absurd q (by decide), fun _ => ⟨fun q => absurd q (by decide), fun _ => ⟨fun q => absurd q (by decide), fun _ => ⟨fun q => absurd q (by decide), fun _ => ⟨fun q => absurd q (by decide), fun _ => ⟨fun q => absurd q (by decide), fun _ => ⟨fun q => absurd q (by decide), fun _ => ⟨fun q => absurd q (by decide), fun _ => ⟨fun q => absurd q (by decide), fun _ => ⟨fun q => absurd q (by decide), fun _ => ⟨fun q => absurd q (by decide), fun _ => ⟨ps, e1, fun _ => trivial, fun _ => ⟨fun _ => trivial, fun _ => ⟨fun _ => trivial, fun _ => trivial⟩⟩⟩⟩⟩⟩⟩⟩⟩⟩⟩⟩⟩⟩⟩
theorem me_lose {s : am_M} {a b c d : Int32} : (f_CB_wouldLose s a b c d).2.2 = s := me_wouldLose
theorem me_loseA {s : am_M} {a b : Int32} : (f_CB_wouldLoseAll s a b).2.2 = s := by
  unfold f_CB_wouldLoseAll
  split <;> rfl
theorem az_m {h : Nat × Int32 × am_M} {s : am_M} (e : h.2.2 = s) : (az h).2 = s := by
  unfold az
  split <;> exact e
theorem S11_2 {s : am_M} {x2 x3 x4 x5 x6 x7 : Int32} : (f_LH_sets s (11 : Int32) x2 x3 x4 x5 x6 x7).2 = s := by rw [LE_sets_11]; exact az_m me_lose
theorem S12_2 {s : am_M} {x2 x3 x4 x5 x6 x7 : Int32} : (f_LH_sets s (12 : Int32) x2 x3 x4 x5 x6 x7).2 = s := by rw [LE_sets_12]; exact az_m me_loseA
theorem az_v {h : Nat × Int32 × am_M} {n : Int32} {s : am_M} (e : h = (0, n, s)) : (az h).1 = n := by rw [e]; rfl
theorem az_t {h : Nat × Int32 × am_M} (e : ¬ h.1 = 0) : (az h).1 = -9999999 := by unfold az; rw [if_neg e]
theorem co_0 {P : Nat → Prop} [DecidablePred P] : ∀ (d j : Nat), (∀ i, j ≤ i → i < j + d → ¬ P i) → q_co P d j = 0 := by
  intro d
  induction d with
  | zero => intro j _; rfl
  | succ d ih =>
    intro j h
    unfold q_co
    rw [if_neg (h j (Nat.le_refl j) (by omega)), ih (j + 1) (fun i h1 h2 => h i (by omega) (by omega))]
theorem co_le {P : Nat → Prop} [DecidablePred P] : ∀ (d j : Nat), q_co P d j ≤ d := by
  intro d
  induction d with
  | zero => intro j; exact Nat.le_refl _
  | succ d ih =>
    intro j
    unfold q_co
    have := ih (j + 1)
    by_cases h : P j
    · rw [if_pos h]; omega
    · rw [if_neg h]; omega
theorem wc_out {s u : am_M} {x y : Int32} (e1 : u 1 3 = s 1 3) (e4 : ∀ t, u 4 t = s 4 t) : f_CB_wantColumn u x y = f_CB_wantColumn s x y := by
  unfold f_CB_wantColumn f_BA_hasColumn f_BA_hasTable f_BA_widthOf
  rw [e1, e4]
theorem wn_out {s u : am_M} {T C : Nat} (hT : T < 4) (hC : C < 6) (e : u (20 + (6 * T + C)) 0 = s (20 + (6 * T + C)) 0) : f_CB_wantNumberColumn u (nI T) (nI C) = f_CB_wantNumberColumn s (nI T) (nI C) := by
  unfold f_CB_wantNumberColumn
  rw [qd_col hT hC, qd_col hT hC, e]
theorem cnt_out {s R : am_M} {T C : Nat} {lo hi : Int32} (cb : q_cb s 9 10 11 R) (hT : T < 4) (hC : C < 6) : f_BA_countOutside s (nI T) (nI C) lo hi = nI (q_co (q_ou R T C lo hi) 30 0) := by
  have hB := qc_out cb hT hC (lo := lo) (hi := hi) 30 0 am_F 0 (by omega) (by rw [am_F_eq]; omega)
  rw [nI_0, Int32.zero_add] at hB
  exact hB.2
theorem cnt_fill {s R : am_M} {T C : Nat} (cb : q_cb s 9 10 11 R) (hT : T < 4) (hC : C < 6) : f_BA_countFilled s (nI T) (nI C) = nI (q_co (q_ou R T C 1 0) 30 0) := by
  have hB := qc_fill cb hT hC 30 0 am_F 0 (by omega) (by rw [am_F_eq]; omega)
  rw [nI_0, Int32.zero_add] at hB
  exact hB.2
theorem C_lose_iff {s : am_M} {x2 x3 lo hi : Int32} : (f_CB_wouldLose s x2 x3 lo hi).1 = 0 ↔ (f_CB_narrow s x2 x3 lo hi).1 = 0 := by
  unfold f_CB_wouldLose f_CB_narrow
  by_cases a : f_CB_wantColumn s x2 x3 = 0
  · rw [if_pos a, if_pos a]
    by_cases b : f_CB_wantNumberColumn s x2 x3 = 0
    · rw [if_pos b, if_pos b]
      by_cases d : f_CB_wantRange s lo hi = 0
      · exact iff_of_true (by rw [if_pos d]) (by rw [if_pos d])
      · rw [if_neg d, if_neg d]
    · rw [if_neg b, if_neg b]
  · rw [if_neg a, if_neg a]
theorem C_narrow {c : Nat} {s : am_M} {x2 x3 a3 a4 : Int32} (h : pu_R c s) (h0 : (f_CB_narrow s x2 x3 a3 a4).1 = 0) : ∃ g S n, f_CB_narrow s x2 x3 a3 a4 = (0, g, S) ∧ f_CB_wouldLose s x2 x3 a3 a4 = (0, nI n, s) ∧ n ≤ 30 ∧ ((g = 1 ∧ ∀ u, q_out S u (fun a _ => 207 ≤ a) → f_CB_wouldLose u x2 x3 a3 a4 = (0, nI 0, u)) ∨ (g = 0 ∧ ∀ u, q_out S u (fun a _ => 207 ≤ a) → f_CB_wouldLose u x2 x3 a3 a4 = (0, nI n, u))) := by
  obtain ⟨hP, Z, hZ⟩ := h
  obtain ⟨cd, oc, md, wd⟩ : q_x1 s (Z 6) := hZ 1
  obtain ⟨uc, um, uw⟩ := q_x2_p (hZ 2 : q_x2 s (Z 7))
  obtain ⟨cb, mb, wr⟩ : q_x3 s (Z 6) (Z 8) := hZ 3
  have hT := qd_wantC cd wd x2 x3
  unfold f_CB_narrow at h0
  rcases q_isC_c wd x2 x3 with g | ⟨g, T, C, ht, ht4, hc, hc6, rfl, rfl⟩
  · rw [g, if_pos rfl] at hT
    rw [hT, if_neg (by decide)] at h0
    exact absurd (show (1 : Nat) = 0 from h0) (by decide)
  rw [g, if_neg i10] at hT
  have hN := qd_numcol cd ht4 hc6
  by_cases c0 : Z 6 209 (6 * T + C) = 0
  rotate_left
  · rw [if_neg c0] at hN
    rw [hT, if_pos rfl, hN, if_neg (by decide)] at h0
    exact absurd (show (2 : Nat) = 0 from h0) (by decide)
  rw [if_pos c0] at hN
  have v1 : ∀ u, f_CB_wantRange u a3 a4 = 0 := fun u => by
    rcases qb_span s a3 a4 with ⟨v1, -⟩ | ⟨v1, -⟩
    · exact v1
    · rw [hT, if_pos rfl, hN, if_pos rfl, v1, if_neg (by decide)] at h0
      exact absurd (show (2 : Nat) = 0 from h0) (by decide)
  clear h0
  have lose : ∀ (u R1 : am_M), u 1 3 = s 1 3 → (∀ t, u 4 t = s 4 t) → u (20 + (6 * T + C)) 0 = s (20 + (6 * T + C)) 0 → q_cb u 9 10 11 R1 → f_CB_wouldLose u (nI T) (nI C) a3 a4 = (0, nI (q_co (q_ou R1 T C a3 a4) 30 0), u) := fun u R1 e1 e4 e20 cbu => by
    unfold f_CB_wouldLose
    rw [wc_out e1 e4, hT, if_pos rfl, wn_out ht4 hc6 e20, hN, if_pos rfl, v1 u, if_pos rfl, cnt_out cbu ht4 hc6]
  have hk : 6 * T + C < 24 := by omega
  have hcol : f_BA_column s (nI T) (nI C) = 20 + (6 * T + C) := qd_col ht4 hc6
  have hna1 : q_na (Z 8) T C a3 a4 30 1 = Z 8 1 := q_na_r (by omega)
  generalize hkk : 6 * T + C = k at *
  obtain ⟨w1, ho, hwr, hnt, hwe⟩ := q_rg_wd (k := k) (lo := a3) (hi := a4) wd
  have weN : q_we (q_rg (Z 6) k a3 a4) (q_na (Z 8) T C a3 a4 30) := q_na_we (hwe _ wr.we)
  obtain ⟨pk, S, s1, s2, s3⟩ := qk_keep cb
  have oS : q_out s (am_set (am_set S (20 + k) 1 a3) (20 + k) 2 a4) (fun a b => (13 ≤ a ∧ a ≤ 15) ∨ (a = 20 + k ∧ (b = 1 ∨ b = 2))) := fun a b hab => by
    rw [am_set_p (by omega), am_set_p (by omega), s2 a b (by omega)]
  have cdS : q_cd (am_set (am_set S (20 + k) 1 a3) (20 + k) 2 a4) (q_rg (Z 6) k a3 a4) := q_cd_fld (j := 2) hk (by omega) (by omega) (q_cd_fld (j := 1) hk (by omega) (by omega) (q_cd_out s2 (fun a b q => by omega) cd))
  have bfS : q_cb (am_set (am_set S (20 + k) 1 a3) (20 + k) 2 a4) 13 14 15 (Z 8) := q_cb_out2 (P := fun a b => a = 20 + k) (fun a b hab => by rw [am_set_p (by omega), am_set_p (by omega)]) (fun a b q => by omega) s3
  obtain ⟨B, b1, b2, b3, b4⟩ := qc_nar (R := Z 8) ht4 hc6 a3 a4 (20 + k) (s (20 + k) 1) (s (20 + k) 2) 30 0 am_F (am_set (am_set S (20 + k) 1 a3) (20 + k) 2 a4) (by omega) (by rw [am_F_eq]; omega) (by rw [q_na_0]; exact q_cb_out oS (fun a b q => by omega) cb)
  rw [nI_0] at b3 b4
  have oB : q_out s B (fun a b => a = 11 ∨ (13 ≤ a ∧ a ≤ 15) ∨ (a = 20 + k ∧ (b = 1 ∨ b = 2))) := fun a b hab => by rw [b1 a b (by omega), oS a b (by omega)]
  obtain ⟨ps, T1, t1, t2, t3, t4⟩ := qs_settle (q_cd_out b1 (fun a b q => by omega) cdS) (q_oc_B ho (q_oc_out oB (fun a b q => by omega) oc)) w1 weN b2 (q_uc_out oB (fun a b q => by omega) uc) uw (q_cb_out2 b1 (fun a b q => by omega) bfS)
  have oT : q_out s T1 (fun a b => (9 ≤ a ∧ a ≤ 11) ∨ (13 ≤ a ∧ a ≤ 16) ∨ a = 19 ∨ (a = 20 + k ∧ (b = 1 ∨ b = 2))) := fun a b hab => by rw [t2 a b (by omega), oB a b (by omega)]
  have r1 : q_reck (q_rg (Z 6) k a3 a4) (q_na (Z 8) T C a3 a4 30) 1 = Z 8 1 := (fold_1 _ _).trans hna1
  have hnone : ∀ i, 0 ≤ i → i < 0 + 30 → ¬ q_ou (q_reck (q_rg (Z 6) k a3 a4) (q_na (Z 8) T C a3 a4 30)) T C a3 a4 i := fun i _ hi q => by
    have e : q_reck (q_rg (Z 6) k a3 a4) (q_na (Z 8) T C a3 a4 30) 2 (180 * T + 6 * i + C) = q_na (Z 8) T C a3 a4 30 2 (180 * T + 6 * i + C) := q_reck_o (by
      rw [show 6 * ((180 * T + 6 * i + C) / 180) + (180 * T + 6 * i + C) % 6 = k from by omega]
      unfold q_rg
      rw [am_set_o (by omega), am_set_o (by omega), c0]; decide)
    obtain ⟨q1, q2, q3⟩ := q
    rw [r1] at q1
    rw [e] at q2 q3
    unfold q_na at q2 q3
    by_cases z : q_ou (Z 8) T C a3 a4 i
    · have z1 : 2 = 2 ∧ (180 * T + 6 * i + C) / 180 = T ∧ (180 * T + 6 * i + C) % 6 = C ∧ (180 * T + 6 * i + C) / 6 % 30 < 30 ∧ q_ou (Z 8) T C a3 a4 ((180 * T + 6 * i + C) / 6 % 30) := ⟨rfl, by omega, by omega, by omega, by rw [show (180 * T + 6 * i + C) / 6 % 30 = i from by omega]; exact z⟩
      rw [if_pos z1] at q2
      exact q2 rfl
    · have z1 : ¬ (2 = 2 ∧ (180 * T + 6 * i + C) / 180 = T ∧ (180 * T + 6 * i + C) % 6 = C ∧ (180 * T + 6 * i + C) / 6 % 30 < 30 ∧ q_ou (Z 8) T C a3 a4 ((180 * T + 6 * i + C) / 6 % 30)) := fun w => z (by
        have w5 := w.2.2.2.2
        rw [show (180 * T + 6 * i + C) / 6 % 30 = i from by omega] at w5
        exact w5)
      rw [if_neg z1] at q2 q3
      exact z ⟨q1, q2, q3⟩
  generalize q_brk (q_rg (Z 6) k a3 a4) (Z 7) (q_reck (q_rg (Z 6) k a3 a4) (q_na (Z 8) T C a3 a4 30)) = L at *
  generalize ht1 : (if q_good L = 0 then am_set (am_set T1 (20 + k) 1 (s (20 + k) 1)) (20 + k) 2 (s (20 + k) 2) else T1) = t9
  have hB : f_BA_changeRange s (nI T) (nI C) a3 a4 = (q_good L, t9) := by
    unfold f_BA_changeRange
    rw [hcol, s1, b3]
    unfold f_BA_changeRange_89
    rw [t1]
    rw [← ht1]
    by_cases q : q_good L = 0
    · rw [if_pos q, if_pos q]
    · rw [if_neg q, if_neg q]
  have oK : q_out T1 t9 (fun a b => a = 20 + k ∧ (b = 1 ∨ b = 2)) := fun a b hab => by
    rw [← ht1]
    by_cases q : q_good L = 0
    · rw [if_pos q, am_set_p (by omega), am_set_p (by omega)]
    · rw [if_neg q]
  have cb1 := q_cb_out oK (fun a b q => by omega) t3
  have fd1 := q_fd_out oK (fun i j q => by omega) t4
  obtain ⟨pt, t2', ht2, o2, fd2, u2⟩ := qc_tell fd1
  have hC : f_CB_narrow s (nI T) (nI C) a3 a4 = (0, q_good L, t2') := by
    unfold f_CB_narrow
    rw [hT, hN, v1 s, hB]
    dsimp only
    rw [ht2]; rfl
  have cb2 := q_cb_out o2 (fun a b q => by omega) cb1
  have oA : ∀ u, q_out t2' u (fun a _ => 207 ≤ a) → q_out s u (fun a b => (9 ≤ a ∧ a ≤ 11) ∨ (13 ≤ a ∧ a ≤ 16) ∨ a = 19 ∨ (a = 20 + k ∧ (b = 1 ∨ b = 2)) ∨ a = 123 ∨ (a = 0 ∧ b = 7) ∨ 207 ≤ a) := fun u ou a b hab => by rw [ou a b (by omega), o2 a b (by omega), oK a b (by omega), oT a b (by omega)]
  refine ⟨q_good L, t2', q_co (q_ou (Z 8) T C a3 a4) 30 0, hC, lose s (Z 8) rfl (fun _ => rfl) rfl cb, co_le _ _, ?_⟩
  rcases q_good_c L with ⟨g1, g2, g3⟩ | ⟨g1, g2, g3⟩
  · refine Or.inl ⟨g2, fun u ou => ?_⟩
    have cbu := q_cb_out ou (fun a b q => by omega) cb2
    rw [g3] at cbu
    have e := lose u _ (oA u ou _ _ (by omega)) (fun t => oA u ou _ _ (by omega)) (oA u ou _ _ (by omega)) cbu
    rw [co_0 30 0 hnone] at e
    exact e
  · refine Or.inr ⟨g2, fun u ou => ?_⟩
    have cbu := q_cb_out ou (fun a b q => by omega) cb2
    rw [g3] at cbu
    exact lose u _ (oA u ou _ _ (by omega)) (fun t => oA u ou _ _ (by omega)) (oA u ou _ _ (by omega)) cbu
theorem C_drop {c : Nat} {s : am_M} {x2 x3 : Int32} (h : pu_R c s) (h0 : (f_CB_drop s x2 x3).1 = 0) : ∃ g S n, f_CB_drop s x2 x3 = (0, g, S) ∧ f_CB_wouldLoseAll s x2 x3 = (0, nI n, s) ∧ ((g = 1 ∧ ∀ u, q_out S u (fun a _ => 207 ≤ a) → f_CB_wouldLoseAll u x2 x3 = (0, nI 0, u)) ∨ (g = 0 ∧ S 123 0 = 8 ∧ ∀ u, q_out S u (fun a _ => 207 ≤ a) → f_CB_wouldLoseAll u x2 x3 = (0, nI n, u))) := by
  obtain ⟨hP, Z, hZ⟩ := h
  obtain ⟨cd, oc, md, wd⟩ : q_x1 s (Z 6) := hZ 1
  obtain ⟨uc, um, uw⟩ := q_x2_p (hZ 2 : q_x2 s (Z 7))
  obtain ⟨cb, mb, wr⟩ : q_x3 s (Z 6) (Z 8) := hZ 3
  obtain ⟨qc, qm, qw⟩ : q_x5 s (Z 6) (Z 11) := hZ 5
  have hT := qd_wantC cd wd x2 x3
  unfold f_CB_drop at h0
  rcases q_isC_c wd x2 x3 with g | ⟨g, T, C, ht, ht4, hc, hc6, rfl, rfl⟩
  · rw [g, if_pos rfl] at hT
    rw [hT, if_neg (by decide)] at h0
    exact absurd (show (1 : Nat) = 0 from h0) (by decide)
  rw [g, if_neg i10] at hT
  have hN := qd_notD cd wd ht hc ht4 hc6
  by_cases k3 : Z 6 209 (6 * T + C) = 3
  · rw [if_pos k3] at hN
    rw [hT, if_pos rfl, hN, if_neg (by decide)] at h0
    exact absurd (show (2 : Nat) = 0 from h0) (by decide)
  rw [if_neg k3] at hN
  clear h0
  have lose : ∀ (u R1 : am_M), u 1 3 = s 1 3 → (∀ t, u 4 t = s 4 t) → q_cb u 9 10 11 R1 → f_CB_wouldLoseAll u (nI T) (nI C) = (0, nI (q_co (q_ou R1 T C 1 0) 30 0), u) := fun u R1 e1 e4 cbu => by
    unfold f_CB_wouldLoseAll
    rw [wc_out e1 e4, hT, if_pos rfl, cnt_fill cbu ht4 hc6]
  have oA : ∀ S u, q_out s S q_PC → q_out S u (fun a _ => 207 ≤ a) → u 1 3 = s 1 3 ∧ ∀ t, u 4 t = s 4 t := fun S u oS ou =>
    ⟨by rw [ou _ _ (by omega), oS _ _ (by unfold q_PC; omega)], fun t => by rw [ou _ _ (by omega), oS _ _ (by unfold q_PC; omega)]⟩
  obtain ⟨pu1, pu2, hu⟩ := qc_isUsed cd wd uc uw qc qw ht4 hc6
  have refuse : ((¬ f_BA_isUsed s (nI T) (nI C) = 0) ∨ (f_BA_isUsed s (nI T) (nI C) = 0 ∧ ¬ f_AS_isUsed s (nI T) (nI C) = 0)) → ∃ S, f_CB_drop s (nI T) (nI C) = (0, 0, S) ∧ S 123 0 = 8 ∧ ∀ u, q_out S u (fun a _ => 207 ≤ a) → f_CB_wouldLoseAll u (nI T) (nI C) = (0, nI (q_co (q_ou (Z 8) T C 1 0) 30 0), u) := fun hcase => by
    obtain ⟨r1, r2, r3, r4, r5, r6⟩ := q_re16 s 8 (nI T) (-1) (nI C)
    have hfd : q_fd (f_RE_set s 16 8 (nI T) (-1) (nI C)) 16 0 (q_L8 T C) := ⟨r3, r4, r5, r6⟩
    have hg8 : q_good (q_L8 T C) = 0 := rfl
    obtain ⟨pt, T2, hT2, cd2⟩ := qc_done (s := s) (q_out_w r2 (fun a b q => by omega)) (q_cd_out r2 (fun a b q => by omega) cd) (q_oc_out r2 (fun a b q => by omega) oc) (q_cb_out r2 (fun a b q => by omega) cb) hfd
    rw [hg8] at pt hT2
    have href : f_BA_refuse s 8 (nI T) (nI C) = (0, f_RE_set s 16 8 (nI T) (-1) (nI C)) := rfl
    refine ⟨T2, ?_, cd2.2.2.2.2.1.1, fun u ou => ?_⟩
    · unfold f_CB_drop
      rw [hT, if_pos rfl, hN, if_pos rfl, href]
      dsimp only
      rw [hT2]
      rcases hcase with q | ⟨q, q2⟩
      · rw [if_neg q]
      · rw [if_pos q, if_neg q2]
    · obtain ⟨e1, e4⟩ := oA T2 u cd2.1 ou
      exact lose u _ e1 e4 (q_cb_out ou (fun a b q => by omega) cd2.2.2.2.1)
  have ref2 : ((¬ f_BA_isUsed s (nI T) (nI C) = 0) ∨ (f_BA_isUsed s (nI T) (nI C) = 0 ∧ ¬ f_AS_isUsed s (nI T) (nI C) = 0)) → ∃ g S n, f_CB_drop s (nI T) (nI C) = (0, g, S) ∧ f_CB_wouldLoseAll s (nI T) (nI C) = (0, nI n, s) ∧ ((g = 1 ∧ ∀ u, q_out S u (fun a _ => 207 ≤ a) → f_CB_wouldLoseAll u (nI T) (nI C) = (0, nI 0, u)) ∨ (g = 0 ∧ S 123 0 = 8 ∧ ∀ u, q_out S u (fun a _ => 207 ≤ a) → f_CB_wouldLoseAll u (nI T) (nI C) = (0, nI n, u))) := fun hcase => by
    obtain ⟨S, y1, y2, y3⟩ := refuse hcase
    exact ⟨0, S, _, y1, lose s (Z 8) rfl (fun _ => rfl) cb, Or.inr ⟨rfl, y2, y3⟩⟩
  rcases hu with ⟨b1, b2, hf⟩ | ⟨b1, hnf⟩ | ⟨b1, b2, hnf⟩
  rotate_left
  · exact ref2 (Or.inl b1)
  · exact ref2 (Or.inr ⟨b1, b2⟩)
  have wB := q_dp_wd wd ht hc hf.1
  obtain ⟨pB, pt, T2, hT2, cd2⟩ := qc_drop cd oc cb ht4 hc6 wB
  refine ⟨1, T2, _, ?_, lose s (Z 8) rfl (fun _ => rfl) cb, Or.inl ⟨rfl, fun u ou => ?_⟩⟩
  · unfold f_CB_drop
    rw [hT, if_pos rfl, hN, if_pos rfl, if_pos b1, if_pos b2, hT2]
  · obtain ⟨e1, e4⟩ := oA T2 u cd2.1 ou
    have e := lose u _ e1 e4 (q_cb_out ou (fun a b q => by omega) cd2.2.2.2.1)
    rw [co_0 30 0 (fun i _ hi q => by
      obtain ⟨q1, q2, q3⟩ := q
      unfold q_dR at q2
      rw [if_pos ⟨rfl, by omega, by omega, by omega⟩] at q2
      exact q2 rfl)] at e
    exact e
theorem hg_narrow {u S : am_M} {x y z w v : Int32} (e : f_CB_narrow u x y z w = (0, v, S)) : (h_CB_narrow u x y z w).1 = 0 ∧ (h_CB_narrow u x y z w).2.1 = v ∧ q_out S (h_CB_narrow u x y z w).2.2 (fun a _ => 207 ≤ a) := by
  have e0 : (f_CB_narrow u x y z w).1 = 0 := by rw [e]
  refine ⟨e0, by show (f_CB_narrow u x y z w).2.1 = v; rw [e], ?_⟩
  show q_out S (if (f_CB_narrow u x y z w).1 = 0 then lo (f_CB_narrow u x y z w).2.2 (f_MO_narrow (f_LA_narrow u x y z w).2 x y z w).2 else (f_CB_narrow u x y z w).2.2) _
  rw [if_pos e0, e]
  exact lo_out
theorem hg_drop {u S : am_M} {x y v : Int32} (e : f_CB_drop u x y = (0, v, S)) : (h_CB_drop u x y).1 = 0 ∧ (h_CB_drop u x y).2.1 = v ∧ q_out S (h_CB_drop u x y).2.2 (fun a _ => 207 ≤ a) := by
  have e0 : (f_CB_drop u x y).1 = 0 := by rw [e]
  refine ⟨e0, by show (f_CB_drop u x y).2.1 = v; rw [e], ?_⟩
  show q_out S (if (f_CB_drop u x y).1 = 0 then lo (f_CB_drop u x y).2.2 (f_MO_drop (f_LA_drop u x y).2 x y).2 else (f_CB_drop u x y).2.2) _
  rw [if_pos e0, e]
  exact lo_out
end
