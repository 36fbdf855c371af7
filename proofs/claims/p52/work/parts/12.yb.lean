noncomputable section
-- the order told; what happens to links
theorem q_lay_lt {A : am_M} : ∀ (r : Nat) (c : Nat → Int32) (i : Nat), i < (q_lay A r c).length → (q_lay A r c).getD i 0 < 24 ∧ A 209 ((q_lay A r c).getD i 0) = 2 := by
  intro r
  induction r with
  | zero => intro c i hi; exact absurd hi (Nat.not_lt_zero _)
  | succ r ih =>
    intro c i
    unfold q_lay
    by_cases e : q_next A c = 24
    · rw [if_pos e]; intro hi; exact absurd hi (Nat.not_lt_zero _)
    · rw [if_neg e]
      intro hi
      have b := q_next_b (A := A) c
      cases i with
      | zero => exact ⟨by show q_next A c < 24; omega, (b.2 e).1⟩
      | succ i =>
        rw [List.getD_cons_succ]
        rw [List.length_cons] at hi
        exact ih _ i (by omega)
theorem q_ord_lt {A : am_M} {i : Nat} (hi : i < (q_ord A).length) : (q_ord A).getD i 0 < 24 ∧ A 209 ((q_ord A).getD i 0) = 2 := q_lay_lt _ _ i hi
theorem q_code_I {k : Nat} (hk : k < 24) : (10 : Int32) * (nI k / (6 : Int32)) + (nI k - nI k / (6 : Int32) * (6 : Int32)) = nI (q_code k) := by
  rw [qr_6 (by omega), qd_6 (by omega), qw_10, nI_add]; rfl
theorem op_order_ok {c d : Nat} (hcd : c ≤ d) : op_order (pu_R c) (pu_R d) := by
  intro s a1 h
  replace h := h.mono hcd
  have h' := h
  obtain ⟨hP, Z, hZ⟩ := h
  obtain ⟨cd, oc, md, wd⟩ : q_x1 s (Z 6) := hZ 1
  have hl := @q_ord_len (Z 6)
  have key : ∀ u : am_M, q_md u (Z 6) → pu_R d u → ∃ t, pu_R d t ∧ p_MO_laysOrder u ∧ (f_MO_laysOrder u).2 = t ∧ f_MO_in t a1 (0 : Int32) (t 207 15 - (1 : Int32)) = q_in (q_ord (Z 6)).length a1 ∧ (∀ i, i < (q_ord (Z 6)).length → t 220 i = nI ((q_ord (Z 6)).getD i 0)) ∧ t 262 0 = u 262 0 := fun u mu hu => by
    obtain ⟨pm, t, t1, t2, t3, t4⟩ := qo_M mu wd
    refine ⟨t, ?_, pm, by rw [t1], ?_, t4, t2 _ _ (by omega)⟩
    · refine pu_keep0 (J := [0]) hu (fun a b hab => t2 a b (fun q => hab ?_)) (fun i e => by rw [List.mem_singleton] at e; rw [e]; exact trivial) rfl
      rcases q with ⟨rfl, rfl⟩ | rfl | rfl <;> simp [pu_own]
    · rw [t3, qb_in1 (by omega)]; rfl
  rcases q_in_c (q_ord (Z 6)).length (by omega) a1 with g | ⟨g, j, hj, rfl⟩
  · obtain ⟨t, k1, k2, k3, k4, k5, k6⟩ := key s md h'
    have hC : f_CB_order s a1 = (1, 0, s) := by
      unfold f_CB_order
      unfold q_in at g
      by_cases c1 : a1 < 0
      · rw [if_pos c1]
      · rw [if_neg c1] at g ⊢
        by_cases c2 : nI (q_ord (Z 6)).length ≤ a1
        · rw [oc.1, if_pos c2]
        · rw [if_neg c2] at g; exact absurd g i10
    have pC : p_CB_order s a1 := by
      unfold p_CB_order
      refine ⟨fun _ => trivial, fun c1 => ⟨fun _ => trivial, fun c2 => ⟨fun c3 => ⟨?_, trivial⟩, fun _ => trivial⟩⟩⟩
      rcases qx_24 a1 with q | q | ⟨j, h1, h2⟩
      · exact absurd q c1
      · rw [Int32.lt_iff_toInt_lt] at c3; rw [Int32.le_iff_toInt_le] at q; omega
      · rw [h2]; exact vp_in_nI h1 (by omega)
    refine on_order_1 (w := 0) (t := am_set t 207 0 1) hC pC ?_ ?_ am_set_q (pu_R_thrown k1)
    · unfold p_MO_order p_MO_order_25
      rw [k3, k4, g, pr_holds1 t (by decide)]
      exact ⟨k2, fun _ => ⟨fun _ => trivial, fun q => absurd rfl q⟩, fun q => absurd rfl q⟩
    · unfold f_MO_order f_MO_order_25
      rw [k3, k4, g, if_pos rfl, pr_holds1 t (by decide)]; rfl
  · have hj24 : j < 24 := by omega
    have hv : vp_in (nI j) 24 := vp_in_nI hj24 (by omega)
    have hlt := q_ord_lt hj
    have hC : f_CB_order s (nI j) = (0, nI (q_code ((q_ord (Z 6)).getD j 0)), s) := by
      unfold f_CB_order
      rw [if_neg (qz (by omega)), oc.1, if_neg (nI_ge hj (by omega)), if_pos (qt_24 hj24), nI_clamp (by omega), oc.2 j hj]
    obtain ⟨t, k1, k2, k3, k4, k5, k6⟩ := key (am_set s 262 0 (nI (q_code ((q_ord (Z 6)).getD j 0)))) (q_md_set (by omega) md) (pu_R_out h')
    rw [am_set_q] at k6
    refine og_order (w := nI (q_code ((q_ord (Z 6)).getD j 0))) (t := am_set t 207 0 0) hC ⟨fun q => absurd q (qz (by omega)), fun _ => ⟨fun _ => trivial, fun _ => ⟨fun _ => ⟨hv, trivial⟩, fun _ => trivial⟩⟩⟩ ?_ ?_ am_set_q (by rw [am_set_p (by omega)]; exact k6) (pu_R_thrown k1)
    · unfold p_MO_order p_MO_order_25
      rw [k3, k4, g, pr_holds0]
      exact ⟨k2, fun q => absurd q i10, fun _ => ⟨fun q => absurd q i10, fun _ => ⟨hv, hv, trivial⟩⟩⟩
    · unfold f_MO_order f_MO_order_25
      rw [k3, k4, g, if_neg i10, pr_holds0, if_neg i10]
      dsimp only
      rw [nI_clamp (n := j) (by omega), am_set_p (by omega), k5 j hj, q_code_I hlt.1]
/-- the design is changed in its place: ranges, flags, what happens to links -/
theorem pu_des {c : Nat} {s t : am_M} {Z : Nat → am_M} {B : am_M} (hP : ∀ i, pu_P i s) (hZ : ∀ j, pu_X c j s Z) (h1 : B 207 1 = Z 6 207 1) (hB : ∀ a, a = 208 ∨ a = 209 ∨ a = 212 ∨ (214 ≤ a ∧ a ≤ 217) → B a = Z 6 a)
    (hfl : ∀ k, k < 24 → (B 218 k = 0 ∨ (B 218 k = 1 ∧ (B 209 k = 0 ∨ B 209 k = 1))) ∧ (B 219 k = 0 ∨ (B 219 k = 1 ∧ (B 209 k = 0 ∨ B 209 k = 1))))
    (hf : pu_fr (· ∈ [0, 2, 6]) s t) (cd : q_cd t B) (md : q_md t B) (oc : q_oc t (Z 6)) (u1 : t 0 7 = 0) (u2 : t 207 38 = 0) (hgd : q_gd B (Z 7) (Z 8)) : pu_R c t := by
  have wd : q_wd (Z 6) := (hZ 1 : q_x1 s (Z 6)).2.2.2
  have n1 : q_nt B = q_nt (Z 6) := by unfold q_nt; rw [h1]
  have w1 : ∀ u, q_w B u = q_w (Z 6) u := fun u => by unfold q_w; rw [hB 208 (by omega)]
  have g1 : ∀ u, q_tg B u = q_tg (Z 6) u := fun u => by unfold q_tg; rw [hB 212 (by omega)]
  have wB : q_wd B := by
    refine ⟨by rw [n1, h1]; exact wd.1, fun u hu => ?_, fun k hk => ?_, fun k hk e => ?_, hfl, fun k hk e => ?_⟩
    · rw [w1, n1, hB 208 (by omega)]; exact wd.2.1 u hu
    · rw [w1, hB 209 (by omega)]; exact wd.2.2.1 k hk
    · rw [hB 209 (by omega)] at e
      rw [g1, n1, hB 212 (by omega)]; exact wd.2.2.2.1 k hk e
    · rw [hB 209 (by omega)] at e
      rw [hB 214 (by omega), hB 215 (by omega), hB 216 (by omega), hB 217 (by omega)]
      exact q_f_t (fun t c q => ⟨⟨by rw [n1]; exact q.1, by rw [w1]; exact q.2.1, by rw [hB 209 (by omega)]; exact q.2.2⟩, by rw [hB 209 (by omega)], by rw [hB 212 (by omega)]⟩) (wd.2.2.2.2.2 k hk e)
  have sm : q_same (Z 6) B := q_same_of wd (fun k _ => by rw [hB 209 (by omega)]) (fun k _ _ => by rw [hB 214 (by omega), hB 215 (by omega), hB 216 (by omega), hB 217 (by omega)]; exact ⟨rfl, rfl, rfl, rfl⟩) (fun k _ _ => by rw [hB 212 (by omega)])
  refine pu_keepX (J := [0, 2, 6]) (Y := pu_up Z 6 B) hP hZ hf (fun i hi => pu_up_o (fun q => hi (by rw [q]; decide))) (fun i hi => ?_) (fun j hj => ?_)
  · have e : i = 0 ∨ i = 2 ∨ i = 6 := by simpa using hi
    rcases e with rfl | rfl | rfl
    · exact trivial
    · exact ⟨0, by omega, u1, u2⟩
    · exact trivial
  · have e : j ∈ [1, 3, 4, 5, 6, 7] := hj
    have e : j = 1 ∨ j = 3 ∨ j = 4 ∨ j = 5 ∨ j = 6 ∨ j = 7 := by simpa using e
    have x56 := q_56 (V := Z 12) (fun a b q => hf a b (by rw [q]; decide)) (fun a b q => hf a b (by rw [q]; decide)) (q_dq_k wd.1.2 (q_dk_of h1 (hB 208 (by omega)) (hB 209 (by omega)) (hB 212 (by omega)))) (hZ 5) (hZ 6)
    rcases e with rfl | rfl | rfl | rfl | rfl | rfl
    rotate_right
    · exact q_x7_z u1 (by rw [pu_up_s, pu_up_o (by decide), pu_up_o (by decide)]; exact hgd)
    · show q_x1 t (pu_up Z 6 B 6)
      rw [pu_up_s]
      exact ⟨cd, q_oc_B (q_ord_c wd sm).symm oc, md, wB⟩
    · show q_x3 t (pu_up Z 6 B 6) (pu_up Z 6 B 8)
      rw [pu_up_s, pu_up_o (by decide)]
      have hx := q_x3_d (fun a b q => hf a b (by rw [q]; decide)) (show q_x3 s (Z 6) (Z 8) from hZ 3)
      obtain ⟨r1, r2, r3, r4, r5⟩ := hx.2.2
      refine ⟨hx.1, hx.2.1, by rw [n1]; exact r1, r2, r3, fun p c hp hc => ?_, fun p c hp hc => ?_⟩
      · rw [hB 209 (by omega)]; exact r4 p c hp hc
      · rw [hB 209 (by omega), g1]; exact r5 p c hp hc
    · exact pu_x4_z (hZ 4) wd.1.2 (fun a b q => hf a b (by rcases q with q | q <;> rw [q] <;> decide)) u1 u2 (by rw [pu_up_s, n1]; exact Nat.le_refl _) (pu_up_o (by decide))
    · show q_x5 t (pu_up Z 6 B 6) (pu_up Z 6 B 11)
      rw [pu_up_s, pu_up_o (by decide)]; exact x56.1
    · show q_x6 t (pu_up Z 6 B 6) (pu_up Z 6 B 11) (pu_up Z 6 B 12)
      rw [pu_up_s, pu_up_o (by decide), pu_up_o (by decide)]; exact x56.2
/-- one field of a column is changed on both sides -/
theorem q_cd_fld {s A : am_M} {k j : Nat} {x : Int32} (hk : k < 24) (h1 : 1 ≤ j) (h2 : j ≤ 10) (h : q_cd s A) : q_cd (am_set s (20 + k) j x) (am_set A (q_fld j) k x) := by
  obtain ⟨c1, c2, c3, c4⟩ := h
  have fl : ∀ i, 1 ≤ i → i ≤ 10 → 210 ≤ q_fld i ∧ q_fld i ≤ 219 := fun i _ _ => by unfold q_fld; split <;> omega
  have inj : ∀ i, 1 ≤ i → i ≤ 10 → i ≠ j → q_fld i ≠ q_fld j := by
    have hall : ∀ i j : Fin 11, 1 ≤ i.1 → 1 ≤ j.1 → i.1 ≠ j.1 → q_fld i.1 ≠ q_fld j.1 := by decide +kernel
    intro i i1 i2 i3
    exact hall ⟨i, by omega⟩ ⟨j, by omega⟩ i1 h1 i3
  have f1 := fl j h1 h2
  refine ⟨by rw [am_set_p (by omega), am_set_p (by omega)]; exact c1, fun t ht => by rw [am_set_p (by omega), am_set_p (by omega)]; exact c2 t ht, fun k' hk' => by rw [am_set_p (by omega), am_set_p (by omega)]; exact c3 k' hk', fun k' i hk' i1 i2 => ?_⟩
  by_cases e : k' = k
  · subst e
    by_cases e2 : i = j
    · subst e2; rw [am_set_q, am_set_q]
    · rw [am_set_p (Or.inr e2), am_set_p (Or.inl (inj i i1 i2 e2))]; exact c4 k' i hk' i1 i2
  · rw [am_set_p (by omega), am_set_p (Or.inr e)]; exact c4 k' i hk' i1 i2
theorem q_md_fld {s A : am_M} {a k : Nat} {x : Int32} (h1 : 208 ≤ a) (h : q_md s A) : q_md (am_set s a k x) (am_set A a k x) := by
  refine ⟨by rw [am_set_p (by omega), am_set_p (by omega)]; exact h.1, fun b b1 b2 => ?_⟩
  by_cases e : b = a
  · subst e; rw [am_set_s, am_set_s, h.2 b b1 b2]
  · rw [am_set_o e, am_set_o e]; exact h.2 b b1 b2
theorem qd_kind {s A : am_M} (m : q_md s A) (w : q_wd A) {t c : Nat} (ht : t < 4) (hc : c < 6) : p_MO_kindOf s (nI t) (nI c) ∧ f_MO_kindOf s (nI t) (nI c) = A 209 (6 * t + c) := by
  unfold p_MO_kindOf f_MO_kindOf
  rw [qw_6, nI_add, nI_clamp (by omega), m.2 209 (by omega) (by omega)]
  exact ⟨⟨vp_in_nI (by omega) (by omega), trivial⟩, rfl⟩
theorem qd_link {s A : am_M} (cd : q_cd s A) {t c : Nat} (ht : t < 4) (hc : c < 6) : f_CB_wantLink s (nI t) (nI c) = if A 209 (6 * t + c) = 1 then 0 else 2 := by
  unfold f_CB_wantLink
  rw [qd_col ht hc, cd.2.2.1 _ (by omega)]
  by_cases e : A 209 (6 * t + c) = 1
  · rw [if_pos e, if_pos (q_kc_2.mpr e)]
  · rw [if_neg e, if_neg (fun q => e (q_kc_2.mp q))]
theorem qd_plink (s : am_M) (x y : Int32) : p_CB_wantLink s x y := ⟨qd_pcol s x y, qd_ref s x y, fun _ => trivial, fun _ => trivial⟩
end
