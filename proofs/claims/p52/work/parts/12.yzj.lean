noncomputable section
-- reckonAnew: the operation
theorem qm_710 {u H S O A : am_M} {T C k : Nat} {f o p h x : Int32} (hH : am_set u 207 0 0 = H) (hk : k < 24) (p1 : p_MO_saves H 6) (s1 : f_MO_saves H 6 = S) (p2 : p_MO_formula S (nI k) f o p h) (p3 : p_MO_laysOrder (f_MO_formula S (nI k) f o p h)) (t1 : f_MO_laysOrder (f_MO_formula S (nI k) f o p h) = (x, O)) (a4 : H 214 k = A 214 k) (a5 : H 215 k = A 215 k) (a6 : H 216 k = A 216 k) (a7 : H 217 k = A 217 k) (x7 : Int32) : f_MO_reckonAnew_71 u (nI T) (nI C) f o p h x7 0 (nI k) 0 = f_MO_reckonAnew_155 (if x = 0 then q_td O 9 (nI T) (-1) (nI C) else O) (nI T) (nI C) f o p h x7 0 (nI k) (A 214 k) (A 215 k) (A 216 k) (A 217 k) x ∧ (p_MO_reckonAnew_155 (if x = 0 then q_td O 9 (nI T) (-1) (nI C) else O) (nI T) (nI C) f o p h x7 0 (nI k) (A 214 k) (A 215 k) (A 216 k) (A 217 k) x → p_MO_reckonAnew_71 u (nI T) (nI C) f o p h x7 0 (nI k) 0) := by
  have hv : vp_in (nI k) 24 := vp_in_nI hk (by omega)
  have hT9 : (f_MO_told O (9 : Int32) (nI T) (-1 : Int32) (nI C)).2 = q_td O 9 (nI T) (-1) (nI C) := rfl
  constructor
  · unfold f_MO_reckonAnew_71
    rw [pr_holds0, nI_clamp (n := k) (by omega), hH]
    dsimp only
    rw [s1, t1, a4, a5, a6, a7, if_neg i10]
    dsimp only
    rw [hT9]
    by_cases st : x = 0
    · rw [if_pos st, if_pos st]
    · rw [if_neg st, if_neg st]
  · intro hp
    unfold p_MO_reckonAnew_71
    rw [pr_holds0, nI_clamp (n := k) (by omega), hH]
    dsimp only
    rw [s1, t1, a4, a5, a6, a7]
    dsimp only
    rw [hT9]
    refine ⟨fun q => absurd q i10, fun _ => ⟨hv, hv, hv, hv, p1, p2, p3, fun st => ?_, fun st => ?_⟩⟩
    · rw [if_pos st] at hp; exact hp
    · rw [if_neg st] at hp; exact hp
theorem qm_71 {u A R U : am_M} {T C k : Nat} {f o p h : Int32} (md : q_md u A) (w : q_wd A) (wr : q_wr A R) (mb : q_mb u R) (um : q_um u U) (uw : q_uw U) (hkk : 6 * T + C = k) (hC : C < 6) (hk : k < 24) (hf : q_f A T f o p h) (x7 : Int32) : p_MO_reckonAnew_71 u (nI T) (nI C) f o p h x7 0 (nI k) 0 ∧ ∃ t, f_MO_reckonAnew_71 u (nI T) (nI C) f o p h x7 0 (nI k) 0 = (q_good (q_fL (q_fm A k f o p h) U R T C), t) ∧ q_mdone (am_set u 207 0 0) t (q_fL (q_fm A k f o p h) U R T C) (q_pick (q_fL (q_fm A k f o p h) U R T C) (q_fm A k f o p h) A) (q_pick (q_fL (q_fm A k f o p h) U R T C) (q_reck (q_fm A k f o p h) R) R) := by
  obtain ⟨wB, hwr, -⟩ := q_fm_wd (k := k) w (by rw [show k / 6 = T from by omega]; exact hf)
  have weB := (hwr _ wr).we
  have mdH := q_md_set (i := 207) (k := 0) (x := 0) (by omega) md
  have umH := q_um_out (s := u) (t := am_set u 207 0 0) (P := fun a b => a = 207 ∧ b = 0) (fun a b hab => am_set_p (by omega)) (fun a b q => by omega) um
  have mbH := q_mb_set (i := 207) (k := 0) (x := 0) (by omega) mb
  obtain ⟨H, hH⟩ : ∃ H, am_set u 207 0 0 = H := ⟨_, rfl⟩
  rw [hH] at mdH umH mbH ⊢
  obtain ⟨p1, S, s1, s2, s3⟩ := qm_saves (l := 6) (by omega) mbH
  have mbS := q_mb_out s2 (fun a b q => by omega) mbH
  obtain ⟨p2, c2, o2⟩ := q_mfm (f := f) (o := o) (p := p) (h := h) (q_md_out s2 (fun a b q => by omega) mdH) hk
  obtain ⟨p3, O, t1, t2, -, -⟩ := qo_M c2 wB
  have h0 := qm_710 (A := A) (T := T) (C := C) hH hk p1 s1 p2 p3 t1 (by rw [mdH.2 214 (by omega) (by omega)]) (by rw [mdH.2 215 (by omega) (by omega)]) (by rw [mdH.2 216 (by omega) (by omega)]) (by rw [mdH.2 217 (by omega) (by omega)]) x7
  have oO : q_out H O q_PM := fun a b hab => by unfold q_PM at hab; rw [t2 a b (by omega), o2 a b (by omega), s2 a b (by omega)]
  have e38 : O 207 38 = H 207 38 := by rw [t2 _ _ (by omega), o2 _ _ (by omega), s2 _ _ (by omega)]
  have mdO := q_md_out t2 (fun a b q => by omega) c2
  have mbO := q_mb_out t2 (fun a b q => by omega) (q_mb_out o2 (fun a b q => by omega) mbS)
  have umO := q_um_out t2 (fun a b q => by omega) (q_um_out o2 (fun a b q => by omega) (q_um_out s2 (fun a b q => by omega) umH))
  have mhO := q_mh_out t2 (fun a b q => by omega) (q_mh_out o2 (fun a b q => by omega) s3)
  clear t1 t2 s1 s2 s3 o2 c2 p1 p2 p3 md mb um mdH mbH umH mbS hf hH
  by_cases st : q_str (q_fm A k f o p h) = 0
  · have td := q_td_o O 9 (nI T) (-1) (nI C)
    obtain ⟨z1, z2, z3, z4⟩ := q_td_v O 9 (nI T) (-1) (nI C)
    rw [if_pos st] at h0
    have hx := qm_155 (s := q_td O 9 (nI T) (-1) (nI C)) (u := H) (T := T) (C := C) (q_md_out td (fun a b q => by omega) mdO) wB weB (q_mb_out td (fun a b q => by omega) mbO) (q_um_out td (fun a b q => by omega) umO) uw (q_mh_out td (fun a b q => by omega) mhO) hk (nI T) (nI C) f o p h x7 0 (fun a b hab => by rw [td a b (fun q => hab (by unfold q_PM; omega)), oO a b hab]) (by rw [td _ _ (by omega), e38]) (fun _ => ⟨z1, z2, z3.trans q_m1_e.symm, z4⟩)
    rw [h0.1]
    exact ⟨h0.2 hx.1, hx.2⟩
  · rw [if_neg st] at h0
    have hx := qm_155 (s := O) (u := H) (T := T) (C := C) mdO wB weB mbO umO uw mhO hk (nI T) (nI C) f o p h x7 0 oO e38 (fun q => absurd q st)
    rw [h0.1]
    exact ⟨h0.2 hx.1, hx.2⟩
end
