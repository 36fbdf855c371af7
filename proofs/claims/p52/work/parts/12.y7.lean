noncomputable section
-- number columns and links are made
theorem qd_makeNumber {s A : am_M} (h : q_cd s A) (w : q_wd A) {t : Nat} (ht : t < q_nt A) (hw : q_w A t < 6) (x y : Int32) : p_BA_makeNumber s (nI t) x y ∧ f_BA_makeNumber s (nI t) x y = (nI (q_w A t), am_set (am_set (am_set (am_set s 4 t (nI (q_w A t + 1))) (20 + (6 * t + q_w A t)) 0 1) (20 + (6 * t + q_w A t)) 1 x) (20 + (6 * t + q_w A t)) 2 y) := by
  obtain ⟨m1, m2⟩ := qd_mkC h w ht hw (1 : Int32)
  have h4 := w.1.2
  unfold p_BA_makeNumber f_BA_makeNumber
  rw [m2]
  dsimp only
  rw [qd_col (by omega) hw]
  exact ⟨⟨m1, qd_pcol _ _ _, ⟨by omega, qd_sh (by omega)⟩, trivial⟩, rfl⟩
theorem qd_makeLink {s A : am_M} (h : q_cd s A) (w : q_wd A) {t : Nat} (ht : t < q_nt A) (hw : q_w A t < 6) (x y : Int32) : p_BA_makeLink s (nI t) x y ∧ f_BA_makeLink s (nI t) x y = (nI (q_w A t), am_set (am_set (am_set (am_set s 4 t (nI (q_w A t + 1))) (20 + (6 * t + q_w A t)) 0 2) (20 + (6 * t + q_w A t)) 3 x) (20 + (6 * t + q_w A t)) 4 y) := by
  obtain ⟨m1, m2⟩ := qd_mkC h w ht hw (2 : Int32)
  have h4 := w.1.2
  unfold p_BA_makeLink f_BA_makeLink
  rw [m2]
  dsimp only
  rw [qd_col (by omega) hw]
  exact ⟨⟨m1, qd_pcol _ _ _, ⟨by omega, qd_sh (by omega)⟩, trivial⟩, rfl⟩
theorem qd_pplace (s : am_M) (x : Int32) : p_CB_wantColumnPlace s x := ⟨qd_pw s x, fun _ => trivial, fun _ => trivial⟩
theorem qd_place {s A : am_M} (h : q_cd s A) (w : q_wd A) {t : Nat} (ht : t < q_nt A) : f_CB_wantColumnPlace s (nI t) = if q_w A t < 6 then 0 else 3 := by
  have h4 := w.1.2
  have hw := (w.2.1 t (by omega)).2.1
  unfold f_CB_wantColumnPlace
  rw [qd_w h w (by omega)]
  by_cases c : q_w A t < 6
  · rw [if_pos (qt_6 c), if_pos c]
  · rw [if_neg (qu_6 (by omega) (by omega)), if_neg c]
theorem qd_wantT {s A : am_M} (h : q_cd s A) (w : q_wd A) (x : Int32) : f_CB_wantTable s x = if q_isT A x = 0 then 1 else 0 := by
  unfold f_CB_wantTable; rw [qd_hasT h w]
theorem qd_wantC {s A : am_M} (h : q_cd s A) (w : q_wd A) (x y : Int32) : f_CB_wantColumn s x y = if q_isC A x y = 0 then 1 else 0 := by
  unfold f_CB_wantColumn; rw [qd_hasC h w]
theorem qd_pwantC (s : am_M) (x y : Int32) : p_CB_wantColumn s x y := ⟨qd_phasC s x y, fun _ => trivial, fun _ => trivial⟩
/-- which exception the model throws for a new column -/
theorem qd_full {s A : am_M} (m : q_md s A) (w : q_wd A) {x y : Int32} : p_MO_errorOfFull s x y ∧ f_MO_errorOfFull s x y = if q_isT A x = 0 then 1 else if y = 0 then 2 else if q_w A (q_c x) = 6 then 3 else 0 := by
  unfold p_MO_errorOfFull f_MO_errorOfFull
  rw [qd_isT m w]
  rcases q_isT_c w x with g | ⟨g, t, ht, rfl⟩
  · rw [g, if_pos rfl, if_pos rfl]
    exact ⟨⟨qd_pisT s x, fun _ => trivial, fun q => absurd rfl q⟩, rfl⟩
  · have h4 := w.1.2
    have hw := w.2.1 t (by omega)
    have e : q_c (nI t) = t := nI_clamp (by omega)
    rw [g, if_neg i10, if_neg i10, e, show (nI t).toNatClampNeg = t from e, m.2 208 (by omega) (by omega), hw.1]
    refine ⟨⟨qd_pisT s _, fun _ => trivial, fun _ => ⟨fun _ => trivial, fun _ => ⟨vp_in_nI (by omega) (by omega), fun _ => trivial, fun _ => trivial⟩⟩⟩, ?_⟩
    by_cases c : y = 0
    · rw [if_pos c, if_pos c]
    · rw [if_neg c, if_neg c]
      by_cases c6 : q_w A t = 6
      · rw [if_pos c6, if_pos ((qe_6 (by omega)).mpr c6)]
      · rw [if_neg c6, if_neg (fun q => c6 ((qe_6 (by omega)).mp q))]
/-- what is left behind a new column, of both sides -/
theorem pu_mk {c : Nat} {s t : am_M} {Z : Nat → am_M} {B : am_M} {T : Nat} (hP : ∀ i, pu_P i s) (hZ : ∀ j, pu_X c j s Z) (ht : T < q_nt (Z 6)) (hw : q_w (Z 6) T < 6) (h1 : B 207 1 = Z 6 207 1) (h8 : B 208 T = nI (q_w (Z 6) T + 1)) (h8' : ∀ u, u ≠ T → B 208 u = Z 6 208 u) (ho : ∀ a k, 209 ≤ a → a ≤ 219 → k ≠ 6 * T + q_w (Z 6) T → B a k = Z 6 a k)
    (hk : B 209 (6 * T + q_w (Z 6) T) = 0 ∨ (B 209 (6 * T + q_w (Z 6) T) = 1 ∧ B 212 (6 * T + q_w (Z 6) T) = nI (q_tg B (6 * T + q_w (Z 6) T)) ∧ q_tg B (6 * T + q_w (Z 6) T) < q_nt (Z 6)))
    (hn : B 218 (6 * T + q_w (Z 6) T) = 0) (hs : B 219 (6 * T + q_w (Z 6) T) = 0) (hf : pu_fr (· ∈ [0, 2, 6]) s t) (cd : q_cd t B) (md : q_md t B) (oc : q_oc t (Z 6)) (u1 : t 0 7 = 0) (u2 : t 207 38 = 0) (hgd : q_gd B (Z 7) (Z 8)) : pu_R c t := by
  have wd : q_wd (Z 6) := (hZ 1 : q_x1 s (Z 6)).2.2.2
  refine pu_keepX (J := [0, 2, 6]) (Y := pu_up Z 6 B) hP hZ hf (fun i hi => pu_up_o (fun q => hi (by rw [q]; decide))) (fun i hi => ?_) (fun j hj => ?_)
  · have e : i = 0 ∨ i = 2 ∨ i = 6 := by simpa using hi
    rcases e with rfl | rfl | rfl
    · exact trivial
    · exact ⟨0, by omega, u1, u2⟩
    · exact trivial
  · have e : j ∈ [1, 3, 4, 5, 6, 7] := hj
    have e : j = 1 ∨ j = 3 ∨ j = 4 ∨ j = 5 ∨ j = 6 ∨ j = 7 := by simpa using e
    have dq : q_dq (Z 6) B (Z 11) := q_dq_k wd.1.2 ⟨by unfold q_nt; rw [h1]; exact Nat.le_refl _, fun u _ => by
      by_cases q : u = T
      · rw [q]
        have : q_w B T = q_w (Z 6) T + 1 := by
          show q_c (B 208 T) = _
          rw [h8]; exact nI_clamp (by omega)
        omega
      · have : q_w B u = q_w (Z 6) u := by
          show q_c (B 208 u) = q_c (Z 6 208 u)
          rw [h8' u q]
        omega, fun k hk9 q => by
      have hne : k ≠ 6 * T + q_w (Z 6) T := fun e9 => by
        have h9 := wd.1.2
        have := (wd.2.2.1 k hk9).2 (by rw [e9, show (6 * T + q_w (Z 6) T) / 6 = T from by omega]; omega)
        rw [q] at this; exact absurd this (by decide)
      rw [ho 209 k (by omega) (by omega) hne, ho 212 k (by omega) (by omega) hne]; exact ⟨q, rfl⟩⟩
    have x56 := q_56 (V := Z 12) (fun a b q => hf a b (by rw [q]; decide)) (fun a b q => hf a b (by rw [q]; decide)) dq (hZ 5) (hZ 6)
    have hk2 : B 209 (6 * T + q_w (Z 6) T) ≠ 2 := by
      rcases hk with g | ⟨g, -⟩ <;> rw [g] <;> decide
    rcases e with rfl | rfl | rfl | rfl | rfl | rfl
    rotate_right
    · exact q_x7_z u1 (by rw [pu_up_s, pu_up_o (by decide), pu_up_o (by decide)]; exact hgd)
    · show q_x1 t (pu_up Z 6 B 6)
      rw [pu_up_s]
      exact ⟨cd, q_oc_B (q_ord_c wd (q_same_mk wd ht hw ho hk2)).symm oc, md, q_wd_mk wd ht hw h1 h8 h8' ho (by rcases hk with g | g; exact Or.inl g; exact Or.inr (Or.inl g)) hn hs⟩
    · show q_x3 t (pu_up Z 6 B 6) (pu_up Z 6 B 8)
      rw [pu_up_s, pu_up_o (by decide)]
      have hx := q_x3_d (fun a b q => hf a b (by rw [q]; decide)) (show q_x3 s (Z 6) (Z 8) from hZ 3)
      exact ⟨hx.1, hx.2.1, q_wr_mk wd ht hw h1 ho (by rcases hk with g | ⟨g, -⟩; exact Or.inl g; exact Or.inr (Or.inl g)) hx.2.2⟩
    · exact pu_x4_z (hZ 4) wd.1.2 (fun a b q => hf a b (by rcases q with q | q <;> rw [q] <;> decide)) u1 u2 (by rw [pu_up_s]; unfold q_nt; rw [h1]; exact Nat.le_refl _) (pu_up_o (by decide))
    · show q_x5 t (pu_up Z 6 B 6) (pu_up Z 6 B 11)
      rw [pu_up_s, pu_up_o (by decide)]; exact x56.1
    · show q_x6 t (pu_up Z 6 B 6) (pu_up Z 6 B 11) (pu_up Z 6 B 12)
      rw [pu_up_s, pu_up_o (by decide), pu_up_o (by decide)]; exact x56.2
end
