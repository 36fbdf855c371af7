noncomputable section
-- remove: the whole, class and model
def q_rw (A R : am_M) (G : Nat → Int32) : am_M := q_sz (q_tk A R G 720) G 120
def q_rL (A U R : am_M) (G : Nat → Int32) : List q_It := if q_fb A R G < 720 then q_fbL A R G else q_brk A U (q_reck A (q_rw A R G))
theorem q_rw_0 {A R : am_M} {G : Nat → Int32} : q_rw A R G 0 = R 0 := (q_sz_r (by omega)).trans (q_tk_r (by omega))
theorem q_rw_1 {A R : am_M} {G : Nat → Int32} {p : Nat} : q_rw A R G 1 p = R 1 p ∨ q_rw A R G 1 p = 0 := by
  unfold q_rw
  rw [q_sz_1, q_tk_r (by omega)]
  by_cases h : p < 120 ∧ G p ≠ 0
  · rw [if_pos h]; exact Or.inr rfl
  · rw [if_neg h]; exact Or.inl rfl
theorem q_rw_ne {A R : am_M} {G : Nat → Int32} {p : Nat} (h : q_rw A R G 1 p ≠ 0) : R 1 p ≠ 0 := by
  rcases @q_rw_1 A R G p with q | q
  · rw [q] at h; exact h
  · exact absurd q h
theorem q_rw_2 {A R : am_M} {G : Nat → Int32} : q_rw A R G 2 = q_tk A R G 720 2 := q_sz_r (by omega)
theorem q_rw_we {A R : am_M} {G : Nat → Int32} (h : q_wr A R) : q_we A (q_rw A R G) := by
  have h2 := q_tk_wr (G := G) (y := 720) h
  have e1 : q_tk A R G 720 1 = R 1 := q_tk_r (by omega)
  refine ⟨fun t ht => by rw [q_rw_0]; exact h.1 t ht, fun p hp q => by rw [q_rw_0]; exact h.2.1 p hp (q_rw_ne q), fun x hx q => by rw [q_rw_2]; exact h2.2.2.1 x hx (by rw [e1]; exact q_rw_ne q)⟩
theorem q_rw_wr {A U R : am_M} {G : Nat → Int32} (w : q_wd A) (h : q_wr A R) (hg : q_rL A U R G = []) : q_wr A (q_reck A (q_rw A R G)) := by
  have h2 := q_tk_wr (G := G) (y := 720) h
  have e1 : q_tk A R G 720 1 = R 1 := q_tk_r (by omega)
  unfold q_rL at hg
  by_cases hf : q_fb A R G < 720
  · rw [if_pos hf] at hg; exact absurd hg (by unfold q_fbL; simp)
  rw [if_neg hf] at hg
  exact q_wr_good (U := U) w (q_rw_we h) (fun p d hp hd hh hk => by rw [q_rw_2]; exact h2.2.2.2.1 p d hp hd (by rw [e1]; exact q_rw_ne hh) hk) hg
theorem qc_takeOut {s A R U : am_M} (cd : q_cd s A) (oc : q_oc s A) (w : q_wd A) (wr : q_wr A R) (cb : q_cb s 9 10 11 R) (uc : q_uc s U) (uw : q_uw U) {T r z : Nat} (hz : 30 * T + r = z) (hz2 : z < 120) : p_BA_takeOut s (nI T) (nI r) ∧ ∃ t, f_BA_takeOut s (nI T) (nI r) = (q_good (q_rL A U R (q_gg A R z)), t) ∧ q_out s t (fun a _ => (9 ≤ a ∧ a ≤ 11) ∨ (13 ≤ a ∧ a ≤ 16) ∨ a = 18 ∨ a = 19) ∧ q_cb t 9 10 11 (q_pick (q_rL A U R (q_gg A R z)) (q_reck A (q_rw A R (q_gg A R z))) R) ∧ q_fd t 16 0 (q_rL A U R (q_gg A R z)) := by
  obtain ⟨S, y, g1, g2, g3, g4⟩ := qc_goes cd w wr cb hz hz2
  generalize q_gg A R z = G at *
  have cdS := q_cd_out g3 (fun a b q => by omega) cd
  have cbS := q_cb_out g3 (fun a b q => by omega) cb
  obtain ⟨f1, F, f2, f3, f4⟩ := qc_fb cdS w wr cbS g4
  have oF := q_out_t (q_out_w g3 (Q := fun a _ => a = 16 ∨ a = 18) (fun a b q => Or.inr q)) (q_out_w f3 (fun a b q => Or.inl q))
  have cdF := q_cd_out oF (fun a b q => by omega) cd
  have cbF := q_cb_out oF (fun a b q => by omega) cb
  rw [g1]
  unfold f_BA_takeOut_65 q_rL
  unfold p_BA_takeOut_65 at g2
  rw [f2] at g2 ⊢
  dsimp only at g2 ⊢
  by_cases hf : q_fb A R G < 720
  · rw [if_pos hf] at g2 ⊢
    rw [if_neg i10, if_pos hf]
    refine ⟨g2 ⟨f1, fun q => absurd q i10, fun _ => trivial⟩, F, rfl, q_out_w oF (fun a b q => by omega), ?_, f4 hf⟩
    exact cbF
  · rw [if_neg hf] at g2 ⊢
    rw [if_pos rfl, if_neg hf]
    obtain ⟨k1, K, k2, k3, k4⟩ := qk_keep cbF
    rw [k2] at g2 ⊢
    have h18 : ∀ p, F 18 p = S 18 p := fun p => f3 18 p (by omega)
    have b0 := qc_bl2 w wr (G := G) 120 0 am_F K (by omega) (by rw [am_F_eq]; omega) (q_cd_out k3 (fun a b q => by omega) cdF) (by rw [Nat.mul_zero, q_tk_0]; exact q_cb_out k3 (fun a b q => by omega) cbF) (fun p hp => by rw [k3 18 p (by omega), h18]; exact g4 p hp)
    obtain ⟨b1, B, b2, b3, b4⟩ := b0
    have b2' : f_BA_blankToGoing K = B := b2
    rw [b2'] at g2 ⊢
    obtain ⟨Y, y1, y2, y3, y4⟩ := qc_sz (G := G) (nI T) (nI r) 120 0 am_F B (by omega) (by rw [am_F_eq]; omega) (by rw [q_sz_0]; exact b4) (fun p hp => by rw [b3 18 p (by omega), k3 18 p (by omega), h18]; exact g4 p hp)
    rw [nI_0] at y1 y2
    have oY : q_out s Y (fun a _ => (10 ≤ a ∧ a ≤ 11) ∨ (13 ≤ a ∧ a ≤ 16) ∨ a = 18) := fun a b q => by
      rw [y3 a b (by omega), b3 a b (by omega), k3 a b (by omega), oF a b (by omega)]
    have bfY : q_cb Y 13 14 15 R := q_cb_out2 y3 (fun a b q => by omega) (q_cb_out2 b3 (fun a b q => by omega) k4)
    obtain ⟨t1, t, t2, t3, t4, t5⟩ := qs_settle (q_cd_out oY (fun a b q => by omega) cd) (q_oc_out oY (fun a b q => by omega) oc) w (q_rw_we (G := G) wr) y4 (q_uc_out oY (fun a b q => by omega) uc) uw bfY
    rw [y1, t2]
    exact ⟨g2 ⟨f1, fun _ => ⟨k1, b1, y2 t1 (by rw [t2]; exact q_good_01 _)⟩, fun q => absurd rfl q⟩, t, rfl, fun a b q => by rw [t3 a b (by omega), oY a b (by omega)], t4, t5⟩
theorem qm_removes {s A R U : am_M} (md : q_md s A) (w : q_wd A) (wr : q_wr A R) (mb : q_mb s R) (um : q_um s U) (uw : q_uw U) {T r z : Nat} (hz : 30 * T + r = z) (hz2 : z < 120) : p_MO_removesRow s (nI T) (nI r) ∧ ∃ t, f_MO_removesRow s (nI T) (nI r) = (q_good (q_rL A U R (q_gg A R z)), t) ∧ q_out s t (fun a b => (a = 207 ∧ (b = 15 ∨ (31 ≤ b ∧ b ≤ 34))) ∨ (220 ≤ a ∧ a ≤ 221) ∨ (228 ≤ a ∧ a ≤ 230) ∨ a = 232 ∨ (a = 233 ∧ 4320 ≤ b) ∨ (a = 234 ∧ 720 ≤ b) ∨ (a = 235 ∧ 24 ≤ b)) ∧ q_mb t (q_pick (q_rL A U R (q_gg A R z)) (q_reck A (q_rw A R (q_gg A R z))) R) ∧ q_fd t 207 31 (q_rL A U R (q_gg A R z)) := by
  obtain ⟨S, g1, g2, g3, g4⟩ := qm_goes md w wr mb hz hz2
  generalize q_gg A R z = G at *
  have mdS := q_md_out g3 (fun a b q => by omega) md
  have mbS := q_mb_out g3 (fun a b q => by omega) mb
  obtain ⟨f1, F, f2, f3, f4⟩ := qm_fb mdS w wr mbS g4
  have oF : q_out s F (fun a b => (a = 207 ∧ 31 ≤ b ∧ b ≤ 34) ∨ a = 232) := fun a b q => by rw [f3 a b (by omega), g3 a b (by omega)]
  have mdF := q_md_out oF (fun a b q => by omega) md
  have mbF := q_mb_out oF (fun a b q => by omega) mb
  rw [g1]
  unfold f_MO_removesRow_48 q_rL
  unfold p_MO_removesRow_48 at g2
  rw [f2] at g2 ⊢
  dsimp only at g2 ⊢
  by_cases hf : q_fb A R G < 720
  · rw [if_pos hf] at g2 ⊢
    rw [if_neg i10, if_pos hf]
    refine ⟨g2 ⟨f1, fun q => absurd q i10, fun _ => trivial⟩, F, rfl, q_out_w oF (fun a b q => by omega), ?_, f4 hf⟩
    exact mbF
  · rw [if_neg hf] at g2 ⊢
    rw [if_pos rfl, if_neg hf]
    obtain ⟨k1, K, k2, k3, k4⟩ := qm_saves (l := 6) (by omega) mbF
    have n6 : nI 6 = (6 : Int32) := rfl
    rw [n6] at k1 k2
    rw [k2] at g2 ⊢
    have h18 : ∀ p, F 232 p = S 232 p := fun p => f3 232 p (by omega)
    obtain ⟨B, b1, b2, b3, b4⟩ := qm_bl2 w wr (G := G) (nI T) (nI r) (-1) 720 0 am_F K (by omega) (by rw [am_F_eq]; omega) (q_md_out k3 (fun a b q => by omega) mdF) (by rw [q_tk_0]; exact q_mb_out k3 (fun a b q => by omega) mbF) (fun p hp => by rw [k3 232 p (by omega), h18]; exact g4 p hp)
    rw [nI_0] at b1 b2
    obtain ⟨Y, y1, y2, y3, y4⟩ := qm_sz (G := G) (nI T) (nI r) (-1) 120 0 am_F B (by omega) (by rw [am_F_eq]; omega) (by rw [q_sz_0]; exact b4) (fun p hp => by rw [b3 232 p (by omega), k3 232 p (by omega), h18]; exact g4 p hp)
    rw [nI_0] at y1 y2
    have oY : q_out s Y (fun a b => (a = 207 ∧ 31 ≤ b ∧ b ≤ 34) ∨ (229 ≤ a ∧ a ≤ 230) ∨ a = 232 ∨ (a = 233 ∧ 4320 ≤ b) ∨ (a = 234 ∧ 720 ≤ b) ∨ (a = 235 ∧ 24 ≤ b)) := fun a b q => by
      rw [y3 a b (by omega), b3 a b (by omega), k3 a b (by omega), oF a b (by omega)]
    have mhY : q_mh Y 6 R := q_mh_out y3 (fun a b q => by omega) (q_mh_out b3 (fun a b q => by omega) k4)
    obtain ⟨t1, t, t2, t3, t4, t5⟩ := qm_isKept (q_md_out oY (fun a b q => by omega) md) w (q_rw_we (G := G) wr) y4 (q_um_out oY (fun a b q => by omega) um) uw mhY
    unfold f_MO_removesRow_142 at b1
    unfold p_MO_removesRow_142 at b2
    rw [b1, y1, t2]
    exact ⟨g2 ⟨f1, fun _ => ⟨k1, b2 (y2 t1 (by rw [t2]; exact q_good_01 _))⟩, fun q => absurd rfl q⟩, t, rfl, fun a b q => by rw [t3 a b (by omega), oY a b (by omega)], t4, t5⟩
end
