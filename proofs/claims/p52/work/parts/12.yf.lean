noncomputable section
-- the class reckons, whole
theorem q_cd_out {s t A : am_M} {P : Nat → Nat → Prop} (h : q_out s t P) (hP : ∀ a b, P a b → a = 0 ∨ (a = 1 ∧ b ≠ 3) ∨ (5 ≤ a ∧ a < 20) ∨ 44 ≤ a) (cd : q_cd s A) : q_cd t A := by
  obtain ⟨q1, q2, q3, q4⟩ := cd
  refine ⟨?_, fun u hu => ?_, fun k hk => ?_, fun k j hk h1 h2 => ?_⟩
  · rw [h _ _ (fun q => by have := hP _ _ q; omega)]; exact q1
  · rw [h _ _ (fun q => by have := hP _ _ q; omega)]; exact q2 u hu
  · rw [h _ _ (fun q => by have := hP _ _ q; omega)]; exact q3 k hk
  · rw [h _ _ (fun q => by have := hP _ _ q; omega)]; exact q4 k j hk h1 h2
theorem q_cb_out {s t R : am_M} {P : Nat → Nat → Prop} (h : q_out s t P) (hP : ∀ a b, P a b → a < 9 ∨ 11 < a) (cb : q_cb s 9 10 11 R) : q_cb t 9 10 11 R := by
  obtain ⟨q1, q2, q3⟩ := cb
  refine ⟨fun u hu => ?_, fun u hu => ?_, fun u hu hh => ?_⟩
  · rw [h _ _ (fun q => by have := hP _ _ q; omega)]; exact q1 u hu
  · rw [h _ _ (fun q => by have := hP _ _ q; omega)]; exact q2 u hu
  · rw [h _ _ (fun q => by have := hP _ _ q; omega)]; exact q3 u hu hh
theorem q_md_out {s t A : am_M} {P : Nat → Nat → Prop} (h : q_out s t P) (hP : ∀ a b, P a b → a < 207 ∨ (a = 207 ∧ b ≠ 1) ∨ 219 < a) (md : q_md s A) : q_md t A := by
  refine ⟨?_, fun a h1 h2 => ?_⟩
  · rw [h _ _ (fun q => by have := hP _ _ q; omega)]; exact md.1
  · rw [← md.2 a h1 h2]; funext b; exact h _ _ (fun q => by have := hP _ _ q; omega)
theorem q_mb_out {s t R : am_M} {P : Nat → Nat → Prop} (h : q_out s t P) (hP : ∀ a b, P a b → a < 228 ∨ 230 < a) (mb : q_mb s R) : q_mb t R := by
  obtain ⟨q1, q2, q3⟩ := mb
  refine ⟨fun u hu => ?_, fun u hu => ?_, fun u hu hh => ?_⟩
  · rw [h _ _ (fun q => by have := hP _ _ q; omega)]; exact q1 u hu
  · rw [h _ _ (fun q => by have := hP _ _ q; omega)]; exact q2 u hu
  · rw [h _ _ (fun q => by have := hP _ _ q; omega)]; exact q3 u hu hh
theorem q_out_t {s t u : am_M} {P : Nat → Nat → Prop} (h1 : q_out s t P) (h2 : q_out t u P) : q_out s u P := fun a b hab => (h2 a b hab).trans (h1 a b hab)
theorem q_out_w {s t : am_M} {P Q : Nat → Nat → Prop} (h1 : q_out s t P) (h : ∀ a b, P a b → Q a b) : q_out s t Q := fun a b hab => h1 a b (fun q => hab (h a b q))
theorem qk_119 {A R : am_M} {k : Nat} (hk : k < 24) (c2 : ¬ A 214 k = 2) (c3 : A 214 k = 3 ∨ A 214 k = 4) (ref : Nat) : ∀ (d j n : Nat) (s : am_M), j + d = 30 → d < n → q_cb s 9 10 11 (q_rkp A R k j) → (∀ r, r < 30 → (s 19 r).toInt = q_sum A R k r) → p_BA_reckonSums_119 n s ref (nI (k / 6)) (nI (k % 6)) (nI j) ∧ ∃ t, f_BA_reckonSums_119 n s ref (nI (k / 6)) (nI (k % 6)) (nI j) = t ∧ q_out s t (fun a _ => a = 11) ∧ q_cb t 9 10 11 (q_rkp A R k 30) := by
  intro d
  induction d with
  | zero =>
    intro j n s h1 h2 cb _
    obtain ⟨n, rfl⟩ : ∃ k, n = k + 1 := ⟨n - 1, by omega⟩
    have ej : j = 30 := by omega
    subst ej
    have c : (30 : Int32) ≤ nI 30 := qg_30 (Nat.le_refl _) (by omega)
    unfold p_BA_reckonSums_119 f_BA_reckonSums_119
    rw [if_pos c]
    exact ⟨⟨fun _ => trivial, fun q => absurd c q⟩, s, rfl, fun _ _ _ => rfl, cb⟩
  | succ d ih =>
    intro j n s h1 h2 cb hs
    obtain ⟨n, rfl⟩ : ∃ k, n = k + 1 := ⟨n - 1, by omega⟩
    have hj : j < 30 := by omega
    have c : ¬ (30 : Int32) ≤ nI j := ql_30 hj
    have hh := qr_has cb (show k / 6 < 4 by omega) (nI j)
    have hi : q_hs (q_rkp A R k j) (k / 6) (nI j) ↔ R 1 (30 * (k / 6) + j) ≠ 0 := by
      rw [q_hs_I hj, q_rkp_1]
    have st := qr_set s (show k / 6 < 4 by omega) hj (show k % 6 < 6 by omega) (q_limI (s 19 j).toInt)
    have ev : q_limI (s 19 j).toInt = q_val A R k j := by
      rw [hs j hj]; unfold q_val; rw [if_neg c2, if_pos c3]
    unfold p_BA_reckonSums_119 f_BA_reckonSums_119 p_BA_reckonSums_164 f_BA_reckonSums_164
    rw [hh, if_neg c, nI_1, q_lim_C, Int32.toInt_toInt64, nI_clamp (n := j) (by omega)]
    by_cases hr : R 1 (30 * (k / 6) + j) = 0
    · have hn : ¬ q_hs (q_rkp A R k j) (k / 6) (nI j) := fun q => hi.mp q hr
      obtain ⟨p1, t, t1, t2, t3⟩ := ih (j + 1) n s (by omega) (by omega) (q_rkp_skip hk hj hr cb) hs
      rw [if_neg hn, if_pos rfl]
      exact ⟨⟨fun q => absurd q c, fun _ => ⟨qr_phas _ _ _, fun _ => p1, fun q => absurd rfl q⟩⟩, t, t1, t2, t3⟩
    · rw [if_pos (hi.mpr hr), if_neg i10, st.2, ev]
      obtain ⟨p1, t, t1, t2, t3⟩ := ih (j + 1) n (am_set s 11 (180 * (k / 6) + 6 * j + k % 6) (q_val A R k j)) (by omega) (by omega) (q_rkp_set hk hj (by omega) cb) (fun r hr => by rw [am_set_o (by omega)]; exact hs r hr)
      exact ⟨⟨fun q => absurd q c, fun _ => ⟨qr_phas _ _ _, fun q => absurd q i10, fun _ => ⟨vp_in_nI hj (by omega), qr_pset _ _ _ _ _, p1⟩⟩⟩, t, t1, fun a b hab => by rw [t2 a b hab, am_set_p (by omega)], t3⟩
theorem qk_sums {s A R : am_M} (cd : q_cd s A) (w : q_wd A) (e : q_we A R) (cb : q_cb s 9 10 11 R) {k : Nat} (hk : q_rc A k) (c3 : A 214 k = 3 ∨ A 214 k = 4) : p_BA_reckonSums s (nI (k / 6)) (nI (k % 6)) (20 + k) ∧ ∃ t, f_BA_reckonSums s (nI (k / 6)) (nI (k % 6)) (20 + k) = t ∧ q_out s t (fun a _ => a = 11 ∨ a = 19) ∧ q_cb t 9 10 11 (q_rk A R k) := by
  have hfill := pq_fill0 (s := s) (a := 19) (N := 30) (v := 0) (by omega) (by decide +kernel) (by omega)
  have c2 : ¬ A 214 k = 2 := by rcases c3 with q | q <;> rw [q] <;> decide
  have o1 : q_out s (pq_blk s 19 0 30 0) (fun a _ => a = 19) := fun a b hab => pq_blk_p (Or.inl hab)
  obtain ⟨S, s1, s2, s3, s4⟩ := qk_110 w hk c3 e 30 0 am_F (pq_blk s 19 0 30 0) (nI (k / 6)) (nI (k % 6)) (by omega) (by rw [am_F_eq]; omega) (q_cd_out o1 (fun a b q => by omega) cd) (q_cb_out o1 (fun a b q => by omega) cb) (fun r hr => by
    rw [pq_blk_q (by omega) hr]; decide)
  rw [nI_0] at s3 s4
  have o2 := q_out_t o1 s1
  have cbS : q_cb S 9 10 11 (q_rkp A R k 0) := by rw [q_rkp_0]; exact q_cb_out o2 (fun a b q => by omega) cb
  obtain ⟨p1, t, t1, t2, t3⟩ := qk_119 (A := A) (R := R) hk.1 c2 c3 (20 + k) 30 0 am_F S (by omega) (by rw [am_F_eq]; omega) cbS (fun r hr => by
    rw [s2 r hr, pq_blk_q (by omega) hr]
    show (0 : Int32).toInt + q_sum A R k r = _
    rw [show (0 : Int32).toInt = 0 from by decide]; omega)
  rw [nI_0] at t1 p1
  unfold p_BA_reckonSums f_BA_reckonSums
  rw [hfill.2]
  refine ⟨⟨hfill.1, s4 (by unfold p_BA_reckonSums_116; exact p1)⟩, t, ?_, fun a b hab => ?_, t3⟩
  · rw [s3]; unfold f_BA_reckonSums_116; exact t1
  · rw [t2 a b (fun q => hab (Or.inl q)), o2 a b (fun q => hab (Or.inr q))]
theorem qk_79 {A R : am_M} (w : q_wd A) {k : Nat} (hk : q_rc A k) (n34 : ¬ (A 214 k = 3 ∨ A 214 k = 4)) (K2 : am_M → Int32 → am_M) (KP2 : am_M → Int32 → Prop) (x1 : Int32) : ∀ (d j n : Nat) (s : am_M), j + d = 30 → d < n → q_cd s A → q_cb s 9 10 11 (q_rkp A R k j) → ∃ S, q_out s S (fun a _ => a = 11) ∧ q_cb S 9 10 11 (q_rkp A R k 30) ∧ f_BA_reckon_79 K2 n s x1 (nI (k / 6)) (nI (k % 6)) (20 + k) (nI j) = K2 S (x1 + 1) ∧ (KP2 S (x1 + 1) → p_BA_reckon_79 KP2 n s x1 (nI (k / 6)) (nI (k % 6)) (20 + k) (nI j)) := by
  intro d
  have hk24 := hk.1
  induction d with
  | zero =>
    intro j n s h1 h2 cd cb
    obtain ⟨n, rfl⟩ : ∃ k, n = k + 1 := ⟨n - 1, by omega⟩
    have ej : j = 30 := by omega
    subst ej
    have c : (30 : Int32) ≤ nI 30 := qg_30 (Nat.le_refl _) (by omega)
    refine ⟨s, fun _ _ _ => rfl, cb, ?_, fun h => ?_⟩
    · unfold f_BA_reckon_79 f_BA_reckon_125; rw [if_pos c]
    · unfold p_BA_reckon_79 p_BA_reckon_125; exact ⟨fun _ => h, fun q => absurd c q⟩
  | succ d ih =>
    intro j n s h1 h2 cd cb
    obtain ⟨n, rfl⟩ : ∃ k, n = k + 1 := ⟨n - 1, by omega⟩
    have hj : j < 30 := by omega
    have c : ¬ (30 : Int32) ≤ nI j := ql_30 hj
    have hh := qr_has cb (show k / 6 < 4 by omega) (nI j)
    have hi : q_hs (q_rkp A R k j) (k / 6) (nI j) ↔ R 1 (30 * (k / 6) + j) ≠ 0 := by
      rw [q_hs_I hj, q_rkp_1]
    unfold p_BA_reckon_79 f_BA_reckon_79 p_BA_reckon_119 f_BA_reckon_119
    rw [hh, if_neg c, nI_1]
    by_cases hr : R 1 (30 * (k / 6) + j) = 0
    · have hn : ¬ q_hs (q_rkp A R k j) (k / 6) (nI j) := fun q => hi.mp q hr
      obtain ⟨S, s1, s2, s3, s4⟩ := ih (j + 1) n s (by omega) (by omega) cd (q_rkp_skip hk24 hj hr cb)
      rw [if_neg hn, if_pos rfl]
      exact ⟨S, s1, s2, s3, fun h => ⟨fun q => absurd q c, fun _ => ⟨qr_phas _ _ _, fun _ => s4 h, fun q => absurd rfl q⟩⟩⟩
    · have hce := qk_cell cd w cb hk n34 hj (by rw [q_rkp_1]; exact hr)
      rw [q_val_c (R' := q_rkp A R k j) (R := R) w hk hj (q_rkp_1 _ _ _ _) (fun y _ hy => q_rkp_o hy)] at hce
      have st := qr_set s (show k / 6 < 4 by omega) hj (show k % 6 < 6 by omega) (q_val A R k j)
      rw [if_pos (hi.mpr hr), if_neg i10, hce.2, st.2]
      obtain ⟨S, s1, s2, s3, s4⟩ := ih (j + 1) n (am_set s 11 (180 * (k / 6) + 6 * j + k % 6) (q_val A R k j)) (by omega) (by omega) (q_cd_set (by omega) cd) (q_rkp_set hk24 hj (by omega) cb)
      exact ⟨S, fun a b hab => by rw [s1 a b hab, am_set_p (by omega)], s2, s3, fun h => ⟨fun q => absurd q c, fun _ => ⟨qr_phas _ _ _, fun q => absurd q i10, fun _ => ⟨hce.1, qr_pset _ _ _ _ _, s4 h⟩⟩⟩⟩
theorem qk_2 {A : am_M} (w : q_wd A) : ∀ (l : List Nat) (m n : Nat) (s R : am_M), (∀ i, i < l.length → s 7 (m + i) = nI (q_code (l.getD i 0))) → s 1 8 = nI (m + l.length) → m + l.length ≤ 24 → (∀ i, i < l.length → q_rc A (l.getD i 0)) → q_cd s A → q_cb s 9 10 11 R → q_we A R → l.length < n → p_BA_reckon_2 n s (nI m) ∧ ∃ t, f_BA_reckon_2 n s (nI m) = t ∧ q_out s t (fun a _ => a = 11 ∨ a = 19) ∧ q_cb t 9 10 11 (l.foldl (q_rk A) R) := by
  intro l
  induction l with
  | nil =>
    intro m n s R h1 h2 h3 h4 cd cb e hn
    obtain ⟨n, rfl⟩ : ∃ k, n = k + 1 := ⟨n - 1, by omega⟩
    have c : s 1 8 ≤ nI m := by rw [h2]; exact qn_le (Nat.le_refl _) (by simp at h3; omega)
    unfold p_BA_reckon_2 f_BA_reckon_2
    rw [if_pos c]
    exact ⟨⟨fun _ => trivial, fun q => absurd c q⟩, s, rfl, fun _ _ _ => rfl, cb⟩
  | cons k l ih =>
    intro m n s R h1 h2 h3 h4 cd cb e hn
    obtain ⟨n, rfl⟩ : ∃ k, n = k + 1 := ⟨n - 1, by omega⟩
    rw [List.length_cons] at h2 h3 hn
    have hk : q_rc A k := h4 0 (by simp)
    have hk24 := hk.1
    have k7 : s 7 m = nI (q_code k) := h1 0 (by simp)
    have c : ¬ s 1 8 ≤ nI m := by rw [h2]; exact nI_ge (by omega) (by omega)
    have c24 : ¬ (24 : Int32) ≤ nI m := ql_24 (by omega)
    have hv : vp_in (nI m) 24 := vp_in_nI (by omega) (by omega)
    have e10 : nI (q_code k) / (10 : Int32) = nI (k / 6) := by
      rw [qd_10 (by unfold q_code; omega)]; unfold q_code; rw [show (10 * (k / 6) + k % 6) / 10 = k / 6 from by omega]
    have e10' : nI (q_code k) - nI (k / 6) * (10 : Int32) = nI (k % 6) := by
      rw [← e10, qr_10 (by unfold q_code; omega)]; unfold q_code; rw [show (10 * (k / 6) + k % 6) % 10 = k % 6 from by omega]
    have ecol : f_BA_column s (nI (k / 6)) (nI (k % 6)) = 20 + k := by
      rw [qd_col (by omega) (by omega), show 6 * (k / 6) + k % 6 = k from by omega]
    have f7 : s (20 + k) 7 = A 214 k := cd.2.2.2 k 7 hk24 (by omega) (by omega)
    -- behind the first column
    have next : ∀ S, q_out s S (fun a _ => a = 11 ∨ a = 19) → q_cb S 9 10 11 (q_rk A R k) → p_BA_reckon_2 n S (nI m + 1) ∧ ∃ t, f_BA_reckon_2 n S (nI m + 1) = t ∧ q_out s t (fun a _ => a = 11 ∨ a = 19) ∧ q_cb t 9 10 11 ((k :: l).foldl (q_rk A) R) := fun S o cbS => by
      rw [nI_1]
      obtain ⟨p1, t, t1, t2, t3⟩ := ih (m + 1) n S (q_rk A R k) (fun i hi => by
        rw [o _ _ (by omega), show m + 1 + i = m + (i + 1) from by omega, h1 (i + 1) (by rw [List.length_cons]; omega), List.getD_cons_succ]) (by rw [o _ _ (by omega), h2, show m + (l.length + 1) = m + 1 + l.length from by omega]) (by omega) (fun i hi => by
        have := h4 (i + 1) (by rw [List.length_cons]; omega)
        rw [List.getD_cons_succ] at this; exact this) (q_cd_out o (fun a b q => by omega) cd) cbS (q_we_rk w e hk24 hk.2.1) (by omega)
      exact ⟨p1, t, t1, q_out_t o t2, by rw [List.foldl_cons]; exact t3⟩
    unfold p_BA_reckon_2 f_BA_reckon_2 p_BA_reckon_65 f_BA_reckon_65 p_BA_reckon_125 f_BA_reckon_125
    rw [nI_clamp (n := m) (by omega), k7, e10, e10', ecol, f7, if_neg c, if_neg c24]
    have rf : (20 + k) < 207 ∧ am_sh (20 + k) = (0, 3, 11) := ⟨by omega, qd_sh hk24⟩
    by_cases c3 : A 214 k = 3 ∨ A 214 k = 4
    · obtain ⟨p1, S, s1, s2, s3⟩ := qk_sums cd w e cb hk c3
      obtain ⟨p2, t, t1, t2, t3⟩ := next S s2 s3
      rw [s1]
      refine ⟨⟨fun q => absurd q c, fun _ => ⟨fun q => absurd q c24, fun _ => ⟨hv, hv, qd_pcol _ _ _, rf, fun _ => ⟨p1, p2⟩, fun _ => ⟨fun _ => ⟨p1, p2⟩, fun q4 => ?_⟩⟩⟩⟩, t, ?_, t2, t3⟩
      · rcases c3 with q | q
        · exact absurd q (by assumption)
        · exact absurd q q4
      · by_cases q3 : A 214 k = 3
        · rw [if_pos q3]; exact t1
        · rw [if_neg q3, if_pos (c3.resolve_left q3)]; exact t1
    · obtain ⟨S, s1, s2, s3, s4⟩ := qk_79 (A := A) (R := R) w hk c3 (f_BA_reckon_2 n) (p_BA_reckon_2 n) (nI m) 30 0 am_F s (by omega) (by rw [am_F_eq]; omega) cd (by rw [q_rkp_0]; exact cb)
      rw [nI_0] at s3 s4
      obtain ⟨p2, t, t1, t2, t3⟩ := next S (q_out_w s1 (fun a b q => Or.inl q)) s2
      rw [if_neg (fun q => c3 (Or.inl q)), if_neg (fun q => c3 (Or.inr q)), s3]
      exact ⟨⟨fun q => absurd q c, fun _ => ⟨fun q => absurd q c24, fun _ => ⟨hv, hv, qd_pcol _ _ _, rf, fun q => absurd (Or.inl q) c3, fun _ => ⟨fun q => absurd (Or.inr q) c3, fun _ => s4 p2⟩⟩⟩⟩, t, t1, t2, t3⟩
theorem qk_reckon {s A R : am_M} (cd : q_cd s A) (oc : q_oc s A) (w : q_wd A) (e : q_we A R) (cb : q_cb s 9 10 11 R) : p_BA_reckon s ∧ ∃ t, f_BA_reckon s = t ∧ q_out s t (fun a _ => a = 11 ∨ a = 19) ∧ q_cb t 9 10 11 (q_reck A R) := by
  have hl := @q_ord_len A
  have h := qk_2 w (q_ord A) 0 am_F s R (fun i hi => by rw [Nat.zero_add]; exact oc.2 i hi) (by rw [Nat.zero_add]; exact oc.1) (by omega) (fun i hi => q_ord_rc w hi) cd cb e (by rw [am_F_eq]; omega)
  rw [nI_0] at h
  exact h
end
