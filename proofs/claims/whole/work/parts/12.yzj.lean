noncomputable section
-- reckonAnew: the operation
theorem qm_71 {u A R U : am_M} {T C k : Nat} {f o p h : Int32} (md : q_md u A) (w : q_wd A) (wr : q_wr A R) (mb : q_mb u R) (um : q_um u U) (uw : q_uw U) (hT : T < 4) (hC : C < 6) (hkk : 6 * T + C = k) (hf : q_f A T f o p h) (x7 : Int32) : p_MO_reckonAnew_71 u (nI T) (nI C) f o p h x7 0 (nI k) 0 ∧ ∃ t, f_MO_reckonAnew_71 u (nI T) (nI C) f o p h x7 0 (nI k) 0 = (q_good (q_fL (q_fm A k f o p h) U R T C), t) ∧ q_mdone (am_set u 207 0 0) t (q_fL (q_fm A k f o p h) U R T C) (q_pick (q_fL (q_fm A k f o p h) U R T C) (q_fm A k f o p h) A) (q_pick (q_fL (q_fm A k f o p h) U R T C) (q_reck (q_fm A k f o p h) R) R) := by
  have hk : k < 24 := by omega
  have hv : vp_in (nI k) 24 := vp_in_nI hk (by omega)
  obtain ⟨wB, hwr, -⟩ := q_fm_wd (k := k) w (by rw [show k / 6 = T from by omega]; exact hf)
  have weB := (hwr _ wr).we
  have mdH := q_md_set (i := 207) (k := 0) (x := 0) (by omega) md
  have umH := q_um_out (s := u) (t := am_set u 207 0 0) (P := fun a b => a = 207 ∧ b = 0) (fun a b hab => am_set_p (by omega)) (fun a b q => by omega) um
  obtain ⟨p1, S, s1, s2, s3⟩ := qm_saves (l := 6) (by omega) (q_mb_set (i := 207) (k := 0) (x := 0) (by omega) mb)
  have mbS := q_mb_out s2 (fun a b q => by omega) (q_mb_set (i := 207) (k := 0) (x := 0) (by omega) mb)
  have e6 : nI 6 = (6 : Int32) := rfl
  rw [e6] at p1 s1
  obtain ⟨p2, c2, o2⟩ := q_mfm (f := f) (o := o) (p := p) (h := h) (q_md_out s2 (fun a b q => by omega) mdH) hk
  obtain ⟨p3, O, t1, t2, -, -⟩ := qo_M c2 wB
  have a4 : am_set u 207 0 0 214 k = A 214 k := by rw [mdH.2 214 (by omega) (by omega)]
  have a5 : am_set u 207 0 0 215 k = A 215 k := by rw [mdH.2 215 (by omega) (by omega)]
  have a6 : am_set u 207 0 0 216 k = A 216 k := by rw [mdH.2 216 (by omega) (by omega)]
  have a7 : am_set u 207 0 0 217 k = A 217 k := by rw [mdH.2 217 (by omega) (by omega)]
  unfold p_MO_reckonAnew_71 f_MO_reckonAnew_71
  rw [pr_holds0, nI_clamp (n := k) (by omega)]
  dsimp only
  rw [s1, t1, a4, a5, a6, a7]
  dsimp only
  generalize am_set u 207 0 0 = H at *
  have oO : q_out H O q_PM := fun a b hab => by unfold q_PM at hab; rw [t2 a b (by omega), o2 a b (by omega), s2 a b (by omega)]
  have e38 : O 207 38 = H 207 38 := by rw [t2 _ _ (by omega), o2 _ _ (by omega), s2 _ _ (by omega)]
  have mdO := q_md_out t2 (fun a b q => by omega) c2
  have mbO := q_mb_out t2 (fun a b q => by omega) (q_mb_out o2 (fun a b q => by omega) mbS)
  have umO := q_um_out t2 (fun a b q => by omega) (q_um_out o2 (fun a b q => by omega) (q_um_out s2 (fun a b q => by omega) umH))
  have mhO := q_mh_out t2 (fun a b q => by omega) (q_mh_out o2 (fun a b q => by omega) s3)
  by_cases st : q_str (q_fm A k f o p h) = 0
  · have hT9 : (f_MO_told O (9 : Int32) (nI T) (-1 : Int32) (nI C)).2 = q_td O 9 (nI T) (-1) (nI C) := rfl
    have td := q_td_o O 9 (nI T) (-1) (nI C)
    obtain ⟨z1, z2, z3, z4⟩ := q_td_v O 9 (nI T) (-1) (nI C)
    rw [hT9]
    generalize q_td O 9 (nI T) (-1) (nI C) = D at *
    have hx := qm_155 (s := D) (u := H) (T := T) (C := C) (q_md_out td (fun a b q => by omega) mdO) wB weB (q_mb_out td (fun a b q => by omega) mbO) (q_um_out td (fun a b q => by omega) umO) uw (q_mh_out td (fun a b q => by omega) mhO) hk (nI T) (nI C) f o p h x7 0 (fun a b hab => by rw [td a b (fun q => hab (by unfold q_PM; omega)), oO a b hab]) (by rw [td _ _ (by omega), e38]) (fun _ => ⟨z1, z2, z3.trans q_m1_e.symm, z4⟩)
    rw [if_neg i10, if_pos st]
    exact ⟨⟨fun q => absurd q i10, fun _ => ⟨hv, hv, hv, hv, p1, p2, p3, fun _ => hx.1, fun q => absurd st q⟩⟩, hx.2⟩
  · have hx := qm_155 (s := O) (u := H) (T := T) (C := C) mdO wB weB mbO umO uw mhO hk (nI T) (nI C) f o p h x7 0 oO e38 (fun q => absurd q st)
    rw [if_neg i10, if_neg st]
    exact ⟨⟨fun q => absurd q i10, fun _ => ⟨hv, hv, hv, hv, p1, p2, p3, fun q => absurd q st, fun _ => hx.1⟩⟩, hx.2⟩
end
