noncomputable section
-- the order, whole
theorem q_co_le {P : Nat → Prop} [DecidablePred P] : ∀ (d j : Nat), q_co P d j ≤ d := by
  intro d
  induction d with
  | zero => intro j; exact Nat.le_refl _
  | succ d ih =>
    intro j
    unfold q_co
    have := ih (j + 1)
    by_cases c : P j
    · rw [if_pos c]; omega
    · rw [if_neg c]; omega
theorem q_next_k {A : am_M} (w : q_wd A) {c c' : Nat → Int32} (h : ∀ k, k < 24 → c k = c' k) : q_next A c = q_next A c' := by
  unfold q_next
  refine q_fi_c 24 0 (fun k _ hk => ?_)
  have hk : k < 24 := by omega
  have kn : ∀ u, u < 24 ∨ u = 24 → (q_kn A c u ↔ q_kn A c' u) := fun u hu => by
    rcases hu with hu | hu
    · unfold q_kn; rw [h u hu]
    · exact ⟨fun _ => Or.inl hu, fun _ => Or.inl hu⟩
  constructor
  · rintro ⟨h1, h2, h3, h4⟩
    have b := q_u_b w hk h1
    exact ⟨h1, by rw [← h k hk]; exact h2, (kn _ (Or.inl b.1)).mp h3, (kn _ b.2).mp h4⟩
  · rintro ⟨h1, h2, h3, h4⟩
    have b := q_u_b w hk h1
    exact ⟨h1, by rw [h k hk]; exact h2, (kn _ (Or.inl b.1)).mpr h3, (kn _ b.2).mpr h4⟩
theorem q_lay_k {A : am_M} (w : q_wd A) : ∀ (r : Nat) (c c' : Nat → Int32), (∀ k, k < 24 → c k = c' k) → q_lay A r c = q_lay A r c' := by
  intro r
  induction r with
  | zero => intro c c' _; rfl
  | succ r ih =>
    intro c c' h
    unfold q_lay
    rw [q_next_k w h, ih (upd c (q_next A c') 1) (upd c' (q_next A c') 1) (fun k hk => by unfold upd; rw [h k hk])]
theorem q_left_k {A : am_M} {c c' : Nat → Int32} (h : ∀ k, k < 24 → c k = c' k) : q_left A c = q_left A c' := by
  unfold q_left
  exact q_co_c 24 0 (fun k _ hk => by rw [h k (by omega)])
theorem qo_M4 {A : am_M} : ∀ (d j m n : Nat) (s : am_M), q_md s A → j + d = 24 → d < n → m + d ≤ 24 → ∃ S, q_out s S (fun a _ => a = 221) ∧ (∀ k, j ≤ k → k < 24 → S 221 k = 0) ∧ (∀ k, k < j → S 221 k = s 221 k) ∧ f_MO_laysOrder_4 n s (nI m) (nI j) = f_MO_laysOrder_41 S (nI (m + q_co (fun k => A 209 k = 2) d j)) (nI 24) ∧ (p_MO_laysOrder_41 S (nI (m + q_co (fun k => A 209 k = 2) d j)) (nI 24) → p_MO_laysOrder_4 n s (nI m) (nI j)) := by
  intro d
  induction d with
  | zero =>
    intro j m n s md h1 h2 h3
    obtain ⟨n, rfl⟩ : ∃ k, n = k + 1 := ⟨n - 1, by omega⟩
    have e : j = 24 := by omega
    subst e
    refine ⟨s, fun _ _ _ => rfl, fun k k1 k2 => absurd k2 (by omega), fun _ _ => rfl, ?_, fun h => ?_⟩
    · unfold f_MO_laysOrder_4 q_co
      exact if_pos (qg_24 (Nat.le_refl _) (by omega))
    · unfold p_MO_laysOrder_4
      exact ⟨fun _ => h, fun q => absurd (qg_24 (Nat.le_refl _) (by omega)) q⟩
  | succ d ih =>
    intro j m n s md h1 h2 h3
    obtain ⟨n, rfl⟩ : ∃ k, n = k + 1 := ⟨n - 1, by omega⟩
    have hj : j < 24 := by omega
    have c : ¬ (24 : Int32) ≤ nI j := ql_24 hj
    have v : vp_in (nI j) 24 := vp_in_nI hj (by omega)
    have mS : q_md (am_set s 221 j 0) A := q_md_set (by omega) md
    have e9 : am_set s 221 j 0 209 j = A 209 j := by rw [am_set_o (by omega), md.2 209 (by omega) (by omega)]
    have hq : q_co (fun k => A 209 k = 2) (d + 1) j = (if A 209 j = 2 then 1 else 0) + q_co (fun k => A 209 k = 2) d (j + 1) := rfl
    by_cases c2 : A 209 j = 2
    · obtain ⟨S, s1, s2, s3, s4, s5⟩ := ih (j + 1) (m + 1) n (am_set s 221 j 0) mS (by omega) (by omega) (by omega)
      rw [if_pos c2] at hq
      rw [hq, show m + (1 + q_co (fun k => A 209 k = 2) d (j + 1)) = m + 1 + q_co (fun k => A 209 k = 2) d (j + 1) from by omega]
      refine ⟨S, fun a b hab => ?_, fun k k1 k2 => ?_, fun k k1 => ?_, ?_, fun h => ?_⟩
      · rw [s1 a b hab, am_set_p (by omega)]
      · by_cases e : k = j
        · rw [e, s3 j (by omega), am_set_q]
        · exact s2 k (by omega) k2
      · rw [s3 k (by omega), am_set_p (by omega)]
      · unfold f_MO_laysOrder_4 f_MO_laysOrder_33
        rw [nI_clamp (n := j) (by omega), if_neg c, e9, if_pos c2, nI_1, nI_1]; exact s4
      · unfold p_MO_laysOrder_4 p_MO_laysOrder_33
        rw [nI_clamp (n := j) (by omega), e9, nI_1, nI_1]
        exact ⟨fun q => absurd q c, fun _ => ⟨v, v, fun _ => s5 h, fun q => absurd c2 q⟩⟩
    · obtain ⟨S, s1, s2, s3, s4, s5⟩ := ih (j + 1) m n (am_set s 221 j 0) mS (by omega) (by omega) (by omega)
      rw [if_neg c2, Nat.zero_add] at hq
      rw [hq]
      refine ⟨S, fun a b hab => ?_, fun k k1 k2 => ?_, fun k k1 => ?_, ?_, fun h => ?_⟩
      · rw [s1 a b hab, am_set_p (by omega)]
      · by_cases e : k = j
        · rw [e, s3 j (by omega), am_set_q]
        · exact s2 k (by omega) k2
      · rw [s3 k (by omega), am_set_p (by omega)]
      · unfold f_MO_laysOrder_4 f_MO_laysOrder_33
        rw [nI_clamp (n := j) (by omega), if_neg c, e9, if_neg c2, nI_1, Int32.add_zero]; exact s4
      · unfold p_MO_laysOrder_4 p_MO_laysOrder_33
        rw [nI_clamp (n := j) (by omega), e9, nI_1, nI_1, Int32.add_zero]
        exact ⟨fun q => absurd q c, fun _ => ⟨v, v, fun q => absurd q c2, fun _ => s5 h⟩⟩
theorem q_left_00 {A : am_M} : q_co (fun k => A 209 k = 2) 24 0 = q_left A (fun _ => 0) := by
  unfold q_left
  exact q_co_c 24 0 (fun k _ _ => ⟨fun q => ⟨q, rfl⟩, fun q => q.1⟩)
/-- whether all reckoned columns come in the order -/
def q_str (A : am_M) : Int32 := if (q_ord A).length = q_left A (fun _ => 0) then 1 else 0
theorem q_ord_len {A : am_M} : (q_ord A).length ≤ 24 := by
  have h1 : (q_ord A).length ≤ q_left A (fun _ => 0) := q_lay_len _ _
  have h2 : q_left A (fun _ => 0) ≤ 24 := q_co_le 24 0
  omega
theorem qo_M {s A : am_M} (m : q_md s A) (w : q_wd A) : p_MO_laysOrder s ∧ ∃ t, f_MO_laysOrder s = (q_str A, t) ∧ q_out s t (fun a b => (a = 207 ∧ b = 15) ∨ a = 220 ∨ a = 221) ∧ t 207 15 = nI (q_ord A).length ∧ (∀ i, i < (q_ord A).length → t 220 i = nI ((q_ord A).getD i 0)) := by
  obtain ⟨S, s1, s2, s3, s4, s5⟩ := qo_M4 (A := A) 24 0 0 am_F s m (by omega) (by rw [am_F_eq]; omega) (by omega)
  rw [nI_0, Nat.zero_add, q_left_00] at s4 s5
  have mS : q_md (am_set S 207 15 0) A := q_md_set (by omega) ⟨by rw [s1 _ _ (by omega)]; exact m.1, fun a h1 h2 => by
    rw [← m.2 a h1 h2]; funext b; exact s1 a b (by omega)⟩
  have hc : ∀ k, k < 24 → am_set S 207 15 0 221 k = (fun _ => (0 : Int32)) k := fun k hk => by
    rw [am_set_o (by omega)]; exact s2 k (by omega) hk
  have hl : q_left A (am_set S 207 15 0 221) = q_left A (fun _ => 0) := q_left_k hc
  have hy : q_lay A (q_left A (fun _ => 0)) (am_set S 207 15 0 221) = q_ord A := q_lay_k w _ _ _ hc
  have h2 : q_left A (fun _ => 0) ≤ 24 := q_co_le 24 0
  obtain ⟨p1, t, t1, t2, t3, t4, t5⟩ := qo_M51 w (q_left A (fun _ => 0)) 0 am_F (am_set S 207 15 0) mS (by rw [nI_0]; exact am_set_q) hl (by omega) (by rw [am_F_eq]; omega)
  have nx := qo_nextM mS w
  rw [hy, Nat.zero_add] at t1 t3
  rw [hy] at t5
  rw [Nat.zero_add] at p1
  unfold p_MO_laysOrder f_MO_laysOrder
  refine ⟨s5 ?_, t, ?_, fun a b hab => ?_, t3, fun i hi => ?_⟩
  · unfold p_MO_laysOrder_41
    rw [nx.2]
    exact ⟨nx.1, p1⟩
  · rw [s4]
    unfold f_MO_laysOrder_41
    rw [nx.2]
    exact t1
  · rw [t2 a b hab, am_set_p (by omega), s1 a b (by omega)]
  · have := t5 i hi
    rw [Nat.zero_add] at this
    exact this
-- the class
theorem qo_pk (s : am_M) (x y : Int32) : p_BA_isKnown s x y := by
  unfold p_BA_isKnown
  refine ⟨qd_pcol s x y, qd_ref s x y, fun _ => ⟨fun _ => trivial, fun c1 => ⟨fun _ => trivial, fun c2 => ⟨?_, fun _ => trivial, fun _ => trivial⟩⟩⟩, fun _ => trivial⟩
  rcases qx_24 (x * (6 : Int32) + y) with h | h | ⟨j, h1, h2⟩
  · exact absurd h c1
  · exact absurd h c2
  · rw [h2]; exact vp_in_nI h1 (by omega)
theorem qo_k {s A : am_M} (cd : q_cd s A) {t c : Nat} (ht : t < 4) (hc : c < 6) : f_BA_isKnown s (nI t) (nI c) = if q_kn A (s 17) (6 * t + c) then 1 else 0 := by
  unfold f_BA_isKnown
  rw [qd_col ht hc, cd.2.2.1 _ (by omega), qm_6, nI_add, nI_clamp (n := t * 6 + c) (by omega), show t * 6 + c = 6 * t + c from by omega]
  by_cases c2 : A 209 (6 * t + c) = 2
  · rw [if_pos (q_kc_3.mpr c2), if_neg (qz (by omega)), if_neg (ql_24 (by omega))]
    by_cases c0 : s 17 (6 * t + c) = 0
    · rw [if_pos c0, if_neg]
      rintro (q | q | q)
      · omega
      · exact q c2
      · exact q c0
    · rw [if_neg c0, if_pos (Or.inr (Or.inr c0))]
  · rw [if_neg (fun q => c2 (q_kc_3.mp q)), if_pos (Or.inr (Or.inl c2))]
theorem qo_pt1 (s : am_M) {k : Nat} (hk : k < 24) (x : Int32) : p_BA_tableOfOne s (20 + k) x := ⟨⟨by omega, qd_sh hk⟩, fun _ => trivial, fun _ => ⟨fun _ => trivial, fun _ => trivial⟩⟩
theorem qo_pt2 (s : am_M) {k : Nat} (hk : k < 24) (x : Int32) : p_BA_tableOfTwo s (20 + k) x := ⟨⟨by omega, qd_sh hk⟩, fun _ => ⟨qd_pcol _ _ _, qd_ref _ _ _, trivial⟩, fun _ => ⟨qo_pt1 s hk x, trivial⟩⟩
theorem qo_pr (s : am_M) {k : Nat} (hk : k < 24) (x : Int32) : p_BA_isReady s (20 + k) x := ⟨qo_pt1 s hk x, ⟨by omega, qd_sh hk⟩, qo_pk _ _ _, fun _ => trivial, fun _ => ⟨fun _ => trivial, fun _ => ⟨qo_pt2 s hk x, qo_pk _ _ _, fun _ => trivial, fun _ => trivial⟩⟩⟩
theorem qo_t1 {s A : am_M} (cd : q_cd s A) (w : q_wd A) {k : Nat} (hk : k < 24) (h : A 209 k = 2) : f_BA_tableOfOne s (20 + k) (nI (k / 6)) = nI (q_tb A k) ∧ q_tb A k < 4 := by
  obtain ⟨n1, n2, n3, n4, n5, n6⟩ := q_f_n w hk h
  unfold f_BA_tableOfOne q_tb
  rw [cd.2.2.2 k 7 hk (by omega) (by omega), cd.2.2.2 k 10 hk (by omega) (by omega)]
  show (if A 214 k = 3 then A 217 k else if A 214 k = 4 then A 217 k else nI (k / 6)) = _ ∧ _
  by_cases c3 : A 214 k = 3
  · rw [if_pos c3, if_pos (Or.inl c3)]; exact n2 (Or.inl c3)
  · rw [if_neg c3]
    by_cases c4 : A 214 k = 4
    · rw [if_pos c4, if_pos (Or.inr c4)]; exact n2 (Or.inr c4)
    · rw [if_neg c4, if_neg (fun q => q.elim c3 c4)]; exact ⟨rfl, by omega⟩
/-- the table of the second column that one uses -/
def q_tb2 (A : am_M) (k : Nat) : Nat := if A 214 k = 2 then q_tg A (q_u1 A k) else q_tb A k
theorem qo_t2 {s A : am_M} (cd : q_cd s A) (w : q_wd A) {k : Nat} (hk : k < 24) (h : A 209 k = 2) : f_BA_tableOfTwo s (20 + k) (nI (k / 6)) = nI (q_tb2 A k) ∧ q_tb2 A k < 4 := by
  obtain ⟨n1, n2, n3, n4, n5, n6⟩ := q_f_n w hk h
  have b := q_u_b w hk h
  have t1 := qo_t1 cd w hk h
  unfold f_BA_tableOfTwo q_tb2
  rw [cd.2.2.2 k 7 hk (by omega) (by omega), cd.2.2.2 k 8 hk (by omega) (by omega)]
  show (if A 214 k = 2 then s (f_BA_column s (nI (k / 6)) (A 215 k)) 3 else _) = _ ∧ _
  by_cases c2 : A 214 k = 2
  · have hu : q_u1 A k = 6 * (k / 6) + q_c (A 215 k) := by unfold q_u1 q_tb; rw [c2, if_neg (by decide)]
    have hx := w.2.2.2.1 _ b.1 (n4 (Or.inl c2))
    have h4 := w.1.2
    rw [if_pos c2, if_pos c2, n1.1, qd_col (by omega) n1.2, ← hu, cd.2.2.2 _ 3 b.1 (by omega) (by omega)]
    exact ⟨hx.1, by omega⟩
  · rw [if_neg c2, if_neg c2]; exact t1
theorem qo_r {s A : am_M} (cd : q_cd s A) (w : q_wd A) {k : Nat} (hk : k < 24) (h : A 209 k = 2) : f_BA_isReady s (20 + k) (nI (k / 6)) = if q_kn A (s 17) (q_u1 A k) ∧ q_kn A (s 17) (q_u2 A k) then 1 else 0 := by
  obtain ⟨n1, n2, n3, n4, n5, n6⟩ := q_f_n w hk h
  have t1 := qo_t1 cd w hk h
  have t2 := qo_t2 cd w hk h
  unfold f_BA_isReady
  rw [t1.1, t2.1, cd.2.2.2 k 7 hk (by omega) (by omega), cd.2.2.2 k 8 hk (by omega) (by omega), cd.2.2.2 k 9 hk (by omega) (by omega)]
  show (if f_BA_isKnown s (nI (q_tb A k)) (A 215 k) = 0 then (0 : Int32) else if A 214 k = 4 then 1 else if f_BA_isKnown s (nI (q_tb2 A k)) (A 216 k) = 0 then 0 else 1) = _
  rw [n1.1, qo_k cd t1.2 n1.2]
  show (if (if q_kn A (s 17) (q_u1 A k) then (1 : Int32) else 0) = 0 then (0 : Int32) else _) = _
  by_cases k1 : q_kn A (s 17) (q_u1 A k)
  · rw [if_pos k1, if_neg i10]
    by_cases c4 : A 214 k = 4
    · rw [if_pos c4, if_pos]
      refine ⟨k1, Or.inl ?_⟩
      unfold q_u2; rw [if_pos c4]
    · rw [if_neg c4, (n3 c4).1, qo_k cd t2.2 (n3 c4).2]
      have hu : q_u2 A k = 6 * q_tb2 A k + q_c (A 216 k) := by unfold q_u2 q_tb2; rw [if_neg c4]
      rw [← hu]
      by_cases k2 : q_kn A (s 17) (q_u2 A k)
      · rw [if_pos k2, if_neg i10, if_pos ⟨k1, k2⟩]
      · rw [if_neg k2, if_pos rfl, if_neg (fun q => k2 q.2)]
  · rw [if_neg k1, if_pos rfl, if_neg (fun q => k1 q.1)]
theorem qo_nextC2 {s A : am_M} (cd : q_cd s A) (w : q_wd A) : ∀ (d j n : Nat), j + d = 24 → d < n → p_BA_nextReady_2 n s (nI j) ∧ f_BA_nextReady_2 n s (nI j) = q_uI (q_fi (q_nx A (s 17)) d j) := by
  intro d
  induction d with
  | zero =>
    intro j n h1 h2
    obtain ⟨n, rfl⟩ : ∃ k, n = k + 1 := ⟨n - 1, by omega⟩
    unfold p_BA_nextReady_2 f_BA_nextReady_2 q_fi q_uI
    have c : (24 : Int32) ≤ nI j := qg_24 (by omega) (by omega)
    rw [if_pos c, if_pos (by omega)]
    exact ⟨⟨fun _ => trivial, fun q => absurd c q⟩, rfl⟩
  | succ d ih =>
    intro j n h1 h2
    obtain ⟨n, rfl⟩ : ∃ k, n = k + 1 := ⟨n - 1, by omega⟩
    have hj : j < 24 := by omega
    have c : ¬ (24 : Int32) ≤ nI j := ql_24 hj
    have ih := ih (j + 1) n (by omega) (by omega)
    have v : vp_in (nI j) 24 := vp_in_nI hj (by omega)
    have rf : (20 + j) < 207 ∧ am_sh (20 + j) = (0, 3, 11) := ⟨by omega, qd_sh hj⟩
    unfold p_BA_nextReady_2 f_BA_nextReady_2 p_BA_nextReady_52 f_BA_nextReady_52 q_fi
    rw [nI_1, nI_clamp (n := j) (by omega), qd_lk hj, cd.2.2.1 j hj, qd_6 (by omega), if_neg c]
    by_cases c2 : A 209 j = 2
    · rw [if_pos (q_kc_3.mpr c2)]
      by_cases c0 : s 17 j = 0
      · rw [if_pos c0, qo_r cd w hj c2]
        refine ⟨⟨fun q => absurd q c, fun _ => ⟨v, rf, fun _ => ⟨v, fun _ => ⟨v, qo_pr s hj _, fun _ => ih.1, fun _ => trivial⟩, fun _ => ih.1⟩, fun _ => ih.1⟩⟩, ?_⟩
        by_cases k1 : q_kn A (s 17) (q_u1 A j) ∧ q_kn A (s 17) (q_u2 A j)
        · rw [if_pos k1, if_neg i10, if_pos ⟨c2, c0, k1.1, k1.2⟩]
          exact (if_neg (by omega)).symm
        · rw [if_neg k1, if_pos rfl, if_neg (fun q => k1 ⟨q.2.2.1, q.2.2.2⟩)]; exact ih.2
      · rw [if_neg c0, if_neg (fun q => c0 q.2.1)]
        exact ⟨⟨fun q => absurd q c, fun _ => ⟨v, rf, fun _ => ⟨v, fun q => absurd q c0, fun _ => ih.1⟩, fun q => absurd (q_kc_3.mpr c2) q⟩⟩, ih.2⟩
    · rw [if_neg (fun q => c2 (q_kc_3.mp q)), if_neg (fun q => c2 q.1)]
      exact ⟨⟨fun q => absurd q c, fun _ => ⟨v, rf, fun q => absurd (q_kc_3.mp q) c2, fun _ => ih.1⟩⟩, ih.2⟩
theorem qo_nextC {s A : am_M} (cd : q_cd s A) (w : q_wd A) : p_BA_nextReady s ∧ f_BA_nextReady s = q_uI (q_next A (s 17)) := by
  have h := qo_nextC2 cd w 24 0 am_F (by omega) (by rw [am_F_eq]; omega)
  rw [nI_0] at h
  exact h
theorem qo_C47 {A : am_M} (w : q_wd A) : ∀ (r m n : Nat) (s : am_M) (x : Int32), q_cd s A → s 1 8 = nI m → q_left A (s 17) = r → m + r ≤ 24 → r < n → p_BA_putInOrder_47 n s (nI (m + r)) x ∧ ∃ t, f_BA_putInOrder_47 n s (nI (m + r)) x = ((if (q_lay A r (s 17)).length = r then 1 else 0), t) ∧ q_out s t (fun a b => (a = 1 ∧ b = 8) ∨ a = 7 ∨ a = 17) ∧ t 1 8 = nI (m + (q_lay A r (s 17)).length) ∧ (∀ i, i < m → t 7 i = s 7 i) ∧ (∀ i, i < (q_lay A r (s 17)).length → t 7 (m + i) = nI (q_code ((q_lay A r (s 17)).getD i 0))) := by
  intro r
  induction r with
  | zero =>
    intro m n s x cd h1 h2 h3 h4
    obtain ⟨n, rfl⟩ : ∃ k, n = k + 1 := ⟨n - 1, by omega⟩
    unfold p_BA_putInOrder_47 f_BA_putInOrder_47
    have c : nI (m + 0) ≤ s 1 8 := by rw [h1, Nat.add_zero]; exact qn_le (Nat.le_refl _) (by omega)
    rw [if_pos c]
    exact ⟨⟨fun _ => trivial, fun q => absurd c q⟩, s, rfl, fun _ _ _ => rfl, h1, fun _ _ => rfl, fun i hi => absurd hi (Nat.not_lt_zero _)⟩
  | succ r ih =>
    intro m n s x cd h1 h2 h3 h4
    obtain ⟨n, rfl⟩ : ∃ k, n = k + 1 := ⟨n - 1, by omega⟩
    have c : ¬ nI (m + (r + 1)) ≤ s 1 8 := by rw [h1]; exact nI_ge (by omega) (by omega)
    have c24 : ¬ (24 : Int32) ≤ s 1 8 := by rw [h1]; exact ql_24 (by omega)
    have nx := qo_nextC cd w
    by_cases e : q_next A (s 17) = 24
    · have e2 : q_uI 24 = -1 := rfl
      rw [e, e2] at nx
      rw [q_lay_0 e]
      unfold p_BA_putInOrder_47 f_BA_putInOrder_47
      rw [if_neg c, if_neg c24, nx.2, if_neg (by decide)]
      exact ⟨⟨fun q => absurd q c, fun _ => ⟨fun q => absurd q c24, fun _ => ⟨nx.1, fun q => absurd q (by decide), fun _ => trivial⟩⟩⟩, s, rfl, fun _ _ _ => rfl, h1, fun _ _ => rfl, fun i hi => absurd hi (Nat.not_lt_zero _)⟩
    · have b := q_next_b (A := A) (s 17)
      have hx : q_next A (s 17) < 24 := by omega
      have hl := q_left_s e
      rw [(q_uI_ne hx).1] at nx
      generalize hx9 : q_next A (s 17) = y at *
      have hs : am_set s 17 y 1 1 8 = nI m := by rw [am_set_o (by omega)]; exact h1
      have ec : (10 : Int32) * (nI y / (6 : Int32)) + (nI y - nI y / (6 : Int32) * (6 : Int32)) = nI (q_code y) := by
        rw [qr_6 (by omega), qd_6 (by omega), qw_10, nI_add]; rfl
      unfold p_BA_putInOrder_47 f_BA_putInOrder_47 q_lay
      rw [if_neg c, if_neg c24, nx.2, hx9, if_neg e, if_pos (nI_pos' (by omega)), nI_clamp (n := y) (by omega), hs, nI_clamp (n := m) (by omega), ec]
      have hs2 : am_set (am_set s 17 y 1) 7 m (nI (q_code y)) 1 8 = nI m := by rw [am_set_o (by omega)]; exact hs
      rw [hs2, nI_1]
      generalize hS : am_set (am_set (am_set s 17 y 1) 7 m (nI (q_code y))) 1 8 (nI (m + 1)) = S
      have cS' : q_cd S A := by rw [← hS]; exact q_cd_set (by omega) (q_cd_set (by omega) (q_cd_set (by omega) cd))
      have cS : S 17 = upd (s 17) y 1 := by rw [← hS, am_set_o (by omega), am_set_o (by omega), am_set_s]
      have kS : S 1 8 = nI (m + 1) := by rw [← hS]; exact am_set_q
      obtain ⟨p1, t, t1, t2, t3, t4, t5⟩ := ih (m + 1) n S (nI y) cS' kS (by rw [cS]; omega) (by omega) (by omega)
      rw [show m + 1 + r = m + (r + 1) from by omega] at p1 t1
      refine ⟨⟨fun q => absurd q c, fun _ => ⟨fun q => absurd q c24, fun _ => ⟨nx.1, fun _ => ⟨vp_in_nI hx (by omega), vp_in_nI (by omega) (by omega), p1⟩, fun q => absurd (nI_pos' (by omega)) q⟩⟩⟩, t, ?_, fun a b9 hab => ?_, ?_, fun i hi => ?_, fun i hi => ?_⟩
      · rw [t1, cS, List.length_cons]
        by_cases g : (q_lay A r (upd (s 17) y 1)).length = r
        · rw [if_pos g, if_pos (by omega)]
        · rw [if_neg g, if_neg (by omega)]
      · rw [t2 a b9 hab, ← hS, am_set_p (by omega), am_set_p (by omega), am_set_p (by omega)]
      · rw [t3, cS, List.length_cons, show m + 1 + (q_lay A r (upd (s 17) y 1)).length = m + ((q_lay A r (upd (s 17) y 1)).length + 1) from by omega]
      · rw [t4 i (by omega), ← hS, am_set_o (by omega), am_set_p (by omega), am_set_o (by omega)]
      · rw [cS] at t5
        cases i with
        | zero =>
          rw [Nat.add_zero, t4 m (by omega), ← hS, am_set_o (by omega), am_set_q]; rfl
        | succ i =>
          rw [List.length_cons] at hi
          rw [List.getD_cons_succ, show m + (i + 1) = m + 1 + i from by omega]
          exact t5 i (by omega)
theorem qo_C4 {A : am_M} : ∀ (d j m n : Nat) (s : am_M), q_cd s A → j + d = 24 → d < n → m + d ≤ 24 → ∃ S, q_out s S (fun a _ => a = 17) ∧ (∀ k, j ≤ k → k < 24 → S 17 k = 0) ∧ (∀ k, k < j → S 17 k = s 17 k) ∧ f_BA_putInOrder_4 n s (nI m) (nI j) = f_BA_putInOrder_42 S (nI (m + q_co (fun k => A 209 k = 2) d j)) (nI 24) ∧ (p_BA_putInOrder_42 S (nI (m + q_co (fun k => A 209 k = 2) d j)) (nI 24) → p_BA_putInOrder_4 n s (nI m) (nI j)) := by
  intro d
  induction d with
  | zero =>
    intro j m n s md h1 h2 h3
    obtain ⟨n, rfl⟩ : ∃ k, n = k + 1 := ⟨n - 1, by omega⟩
    have e : j = 24 := by omega
    subst e
    refine ⟨s, fun _ _ _ => rfl, fun k k1 k2 => absurd k2 (by omega), fun _ _ => rfl, ?_, fun h => ?_⟩
    · unfold f_BA_putInOrder_4 q_co
      exact if_pos (qg_24 (Nat.le_refl _) (by omega))
    · unfold p_BA_putInOrder_4
      exact ⟨fun _ => h, fun q => absurd (qg_24 (Nat.le_refl _) (by omega)) q⟩
  | succ d ih =>
    intro j m n s md h1 h2 h3
    obtain ⟨n, rfl⟩ : ∃ k, n = k + 1 := ⟨n - 1, by omega⟩
    have hj : j < 24 := by omega
    have c : ¬ (24 : Int32) ≤ nI j := ql_24 hj
    have v : vp_in (nI j) 24 := vp_in_nI hj (by omega)
    have rf : (20 + j) < 207 ∧ am_sh (20 + j) = (0, 3, 11) := ⟨by omega, qd_sh hj⟩
    have mS : q_cd (am_set s 17 j 0) A := q_cd_set (by omega) md
    have e9 : am_set s 17 j 0 (20 + j) 0 = q_kc (A 209 j) := by rw [am_set_o (by omega), md.2.2.1 j hj]
    have hq : q_co (fun k => A 209 k = 2) (d + 1) j = (if A 209 j = 2 then 1 else 0) + q_co (fun k => A 209 k = 2) d (j + 1) := rfl
    by_cases c2 : A 209 j = 2
    · obtain ⟨S, s1, s2, s3, s4, s5⟩ := ih (j + 1) (m + 1) n (am_set s 17 j 0) mS (by omega) (by omega) (by omega)
      rw [if_pos c2] at hq
      rw [hq, show m + (1 + q_co (fun k => A 209 k = 2) d (j + 1)) = m + 1 + q_co (fun k => A 209 k = 2) d (j + 1) from by omega]
      refine ⟨S, fun a b hab => ?_, fun k k1 k2 => ?_, fun k k1 => ?_, ?_, fun h => ?_⟩
      · rw [s1 a b hab, am_set_p (by omega)]
      · by_cases e : k = j
        · rw [e, s3 j (by omega), am_set_q]
        · exact s2 k (by omega) k2
      · rw [s3 k (by omega), am_set_p (by omega)]
      · unfold f_BA_putInOrder_4 f_BA_putInOrder_36
        rw [nI_clamp (n := j) (by omega), if_neg c, qd_lk hj, e9, if_pos (q_kc_3.mpr c2), nI_1, nI_1]; exact s4
      · unfold p_BA_putInOrder_4 p_BA_putInOrder_36
        rw [nI_clamp (n := j) (by omega), qd_lk hj, e9, nI_1, nI_1]
        exact ⟨fun q => absurd q c, fun _ => ⟨v, v, rf, fun _ => s5 h, fun q => absurd (q_kc_3.mpr c2) q⟩⟩
    · obtain ⟨S, s1, s2, s3, s4, s5⟩ := ih (j + 1) m n (am_set s 17 j 0) mS (by omega) (by omega) (by omega)
      rw [if_neg c2, Nat.zero_add] at hq
      rw [hq]
      refine ⟨S, fun a b hab => ?_, fun k k1 k2 => ?_, fun k k1 => ?_, ?_, fun h => ?_⟩
      · rw [s1 a b hab, am_set_p (by omega)]
      · by_cases e : k = j
        · rw [e, s3 j (by omega), am_set_q]
        · exact s2 k (by omega) k2
      · rw [s3 k (by omega), am_set_p (by omega)]
      · unfold f_BA_putInOrder_4 f_BA_putInOrder_36
        rw [nI_clamp (n := j) (by omega), if_neg c, qd_lk hj, e9, if_neg (fun q => c2 (q_kc_3.mp q)), nI_1]; exact s4
      · unfold p_BA_putInOrder_4 p_BA_putInOrder_36
        rw [nI_clamp (n := j) (by omega), qd_lk hj, e9, nI_1, nI_1]
        exact ⟨fun q => absurd q c, fun _ => ⟨v, v, rf, fun q => absurd (q_kc_3.mp q) c2, fun _ => s5 h⟩⟩
theorem qo_C {s A : am_M} (cd : q_cd s A) (w : q_wd A) : p_BA_putInOrder s ∧ ∃ t, f_BA_putInOrder s = (q_str A, t) ∧ q_out s t (fun a b => (a = 1 ∧ b = 8) ∨ a = 7 ∨ a = 17) ∧ q_oc t A := by
  obtain ⟨S, s1, s2, s3, s4, s5⟩ := qo_C4 (A := A) 24 0 0 am_F s cd (by omega) (by rw [am_F_eq]; omega) (by omega)
  rw [nI_0, Nat.zero_add, q_left_00] at s4 s5
  have cS : q_cd (am_set S 1 8 0) A := q_cd_set (by omega) (by
    obtain ⟨c1, c2, c3, c4⟩ := cd
    exact ⟨by rw [s1 _ _ (by omega)]; exact c1, fun t ht => by rw [s1 _ _ (by omega)]; exact c2 t ht, fun k hk => by rw [s1 _ _ (by omega)]; exact c3 k hk, fun k j hk h1 h2 => by rw [s1 _ _ (by omega)]; exact c4 k j hk h1 h2⟩)
  have hc : ∀ k, k < 24 → am_set S 1 8 0 17 k = (fun _ => (0 : Int32)) k := fun k hk => by
    rw [am_set_o (by omega)]; exact s2 k (by omega) hk
  have hl : q_left A (am_set S 1 8 0 17) = q_left A (fun _ => 0) := q_left_k hc
  have hy : q_lay A (q_left A (fun _ => 0)) (am_set S 1 8 0 17) = q_ord A := q_lay_k w _ _ _ hc
  have h2 : q_left A (fun _ => 0) ≤ 24 := q_co_le 24 0
  obtain ⟨p1, t, t1, t2, t3, t4, t5⟩ := qo_C47 w (q_left A (fun _ => 0)) 0 am_F (am_set S 1 8 0) (nI 24) cS (by rw [nI_0]; exact am_set_q) hl (by omega) (by rw [am_F_eq]; omega)
  rw [hy, Nat.zero_add] at t1 t3
  rw [hy] at t5
  rw [Nat.zero_add] at p1
  unfold p_BA_putInOrder f_BA_putInOrder
  refine ⟨s5 p1, t, s4.trans t1, fun a b hab => ?_, t3, fun i hi => ?_⟩
  · rw [t2 a b hab, am_set_p (by omega), s1 a b (by omega)]
  · have := t5 i hi
    rw [Nat.zero_add] at this
    exact this
end
