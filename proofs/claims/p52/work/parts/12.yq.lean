noncomputable section
-- a change that was told: what is left to show
def q_PC (a b : Nat) : Prop := (9 ≤ a ∧ a ≤ 11) ∨ (13 ≤ a ∧ a ≤ 43) ∨ a = 123 ∨ (a = 0 ∧ b = 7) ∨ (a = 1 ∧ b = 8) ∨ a = 7
def q_PM (a b : Nat) : Prop := (a = 207 ∧ (b = 15 ∨ (31 ≤ b ∧ b ≤ 34) ∨ b = 38)) ∨ (208 ≤ a ∧ a ≤ 221) ∨ (228 ≤ a ∧ a ≤ 230) ∨ a = 232 ∨ (a = 233 ∧ 4320 ≤ b) ∨ (a = 234 ∧ 720 ≤ b) ∨ (a = 235 ∧ 24 ≤ b)
def q_cdone (s t : am_M) (L : List q_It) (A R : am_M) : Prop := q_out s t q_PC ∧ q_cd t A ∧ q_oc t A ∧ q_cb t 9 10 11 R ∧ q_fd t 123 0 L ∧ t 0 7 = (if q_good L = 0 then s 0 7 else 0)
def q_mdone (u t : am_M) (L : List q_It) (A R : am_M) : Prop := q_out u t q_PM ∧ q_md t A ∧ q_mb t R ∧ q_fd t 207 31 L ∧ t 207 38 = (if q_good L = 0 then u 207 38 else 0)
theorem q_PC_m {s t A R U : am_M} (h : q_out s t q_PC) (md : q_md s A) (mb : q_mb s R) (um : q_um s U) (v : Int32) : q_md (am_set t 262 0 v) A ∧ q_mb (am_set t 262 0 v) R ∧ q_um (am_set t 262 0 v) U ∧ q_md (am_set (am_set t 262 0 v) 207 0 0) A ∧ q_mb (am_set (am_set t 262 0 v) 207 0 0) R ∧ q_um (am_set (am_set t 262 0 v) 207 0 0) U := by
  have o1 : q_out s (am_set t 262 0 v) (fun a b => q_PC a b ∨ a = 262) := fun a b hab => by
    rw [am_set_p (by omega), h a b (fun q => hab (Or.inl q))]
  have o2 : q_out s (am_set (am_set t 262 0 v) 207 0 0) (fun a b => q_PC a b ∨ a = 262 ∨ (a = 207 ∧ b = 0)) := fun a b hab => by
    rw [am_set_p (by omega), am_set_p (by omega), h a b (fun q => hab (Or.inl q))]
  refine ⟨q_md_out o1 (fun a b q => ?_) md, q_mb_out o1 (fun a b q => ?_) mb, q_um_out o1 (fun a b q => ?_) um, q_md_out o2 (fun a b q => ?_) md, q_mb_out o2 (fun a b q => ?_) mb, q_um_out o2 (fun a b q => ?_) um⟩
  all_goals (unfold q_PC at q; omega)
theorem pu_done {c : Nat} {s t2 t3 : am_M} {v : Int32} {Z : Nat → am_M} {L : List q_It} {A1 R1 : am_M} (hP : ∀ i, pu_P i s) (hZ : ∀ j, pu_X c j s Z) (hc : q_cdone s t2 L (q_pick L A1 (Z 6)) (q_pick L R1 (Z 8))) (hm : q_mdone (am_set (am_set t2 262 0 v) 207 0 0) t3 L (q_pick L A1 (Z 6)) (q_pick L R1 (Z 8))) (hg : L = [] → q_wd A1 ∧ q_wr A1 R1 ∧ q_nt (Z 6) ≤ q_nt A1 ∧ (∀ u, u < 4 → q_c (Z 8 0 u) ≤ q_c (R1 0 u)) ∧ ∀ p, p < 120 → R1 1 p = Z 8 1 p ∨ R1 1 p = 0) (hq : q_dq (Z 6) A1 (Z 11)) (hgd : L = [] → q_gd A1 (Z 7) R1) : pu_R c t3 ∧ t3 207 0 = 0 ∧ t3 262 0 = v := by
  obtain ⟨-, -, -, wd⟩ : q_x1 s (Z 6) := hZ 1
  obtain ⟨-, -, wr⟩ : q_x3 s (Z 6) (Z 8) := hZ 3
  obtain ⟨o1, cd, oc, cb, f1, u1⟩ := hc
  obtain ⟨o2, md, mb, f2, u2⟩ := hm
  have oA : q_out s t3 q_P0 := fun a b hab => by
    have h1 : ¬ q_PM a b := fun q => hab (by unfold q_PM at q; unfold q_P0; omega)
    have h2 : ¬ q_PC a b := fun q => hab (by unfold q_PC at q; unfold q_P0; omega)
    rw [o2 a b h1, am_set_p (by unfold q_P0 at hab; omega), am_set_p (by unfold q_P0 at hab; omega), o1 a b h2]
  have oB : q_out t2 t3 (fun a b => q_PM a b ∨ a = 262 ∨ (a = 207 ∧ b = 0)) := fun a b hab => by
    rw [o2 a b (fun q => hab (Or.inl q)), am_set_p (by omega), am_set_p (by omega)]
  have cd3 := q_cd_out oB (fun a b q => by unfold q_PM at q; omega) cd
  have oc3 := q_oc_out oB (fun a b q => by unfold q_PM at q; omega) oc
  have cb3 := q_cb_out oB (fun a b q => by unfold q_PM at q; omega) cb
  have f3 := q_fd_out oB (fun a b q => by unfold q_PM at q; omega) f1
  have u07 : t3 0 7 = if q_good L = 0 then s 0 7 else 0 := by
    rw [oB _ _ (by unfold q_PM; omega)]; exact u1
  have u38 : t3 207 38 = if q_good L = 0 then s 207 38 else 0 := by
    rw [u2, am_set_p (by omega), am_set_p (by omega), o1 _ _ (by unfold q_PC; omega)]
  refine ⟨?_, ?_, ?_⟩
  · refine pu_chg0 hP hZ (q_P0_fr oA) f3 f2 (A' := q_pick L A1 (Z 6)) (R' := q_pick L R1 (Z 8)) ?_ ?_ ?_ (q_dq_p hq) (q_gd_p hgd)
    · rcases q_good_c L with ⟨g1, g2, g3⟩ | ⟨g1, g2, g3⟩
      · rw [g3] at cd3 oc3 md ⊢
        exact ⟨cd3, oc3, md, (hg g1).1⟩
      · rw [g3] at cd3 oc3 md ⊢
        exact ⟨cd3, oc3, md, wd⟩
    · rcases q_good_c L with ⟨g1, g2, g3⟩ | ⟨g1, g2, g3⟩
      · rw [g3] at cb3 mb ⊢
        rw [g3]
        exact ⟨cb3, mb, (hg g1).2.1⟩
      · rw [g3] at cb3 mb ⊢
        rw [g3]
        exact ⟨cb3, mb, wr⟩
    · rcases q_good_c L with ⟨g1, g2, g3⟩ | ⟨g1, g2, g3⟩
      · right
        rw [g2, if_neg i10] at u07 u38
        rw [g3, g3]
        exact ⟨u07, u38, (hg g1).2.2⟩
      · left
        rw [g2, if_pos rfl] at u07 u38
        exact ⟨u07, u38, g3 _ _, g3 _ _⟩
  · rw [o2 _ _ (by unfold q_PM; omega)]; exact am_set_q
  · rw [o2 _ _ (by unfold q_PM; omega), am_set_p (by omega)]; exact am_set_q
/-- the class tells: what it did lies told -/
theorem qc_done {s t1 : am_M} {L : List q_It} {A R : am_M} (o : q_out s t1 (fun a b => (9 ≤ a ∧ a ≤ 11) ∨ (13 ≤ a ∧ a ≤ 43) ∨ (a = 1 ∧ b = 8) ∨ a = 7)) (cd : q_cd t1 A) (oc : q_oc t1 A) (cb : q_cb t1 9 10 11 R) (fd : q_fd t1 16 0 L) : p_CB_tell t1 (q_good L) ∧ ∃ t, f_CB_tell t1 (q_good L) = (q_good L, t) ∧ q_cdone s t L A R := by
  obtain ⟨pt, t, ht, o2, f2, u2⟩ := qc_tell fd
  refine ⟨pt, t, ht, fun a b hab => ?_, q_cd_out o2 (fun a b q => by omega) cd, q_oc_out o2 (fun a b q => by omega) oc, q_cb_out o2 (fun a b q => by omega) cb, f2, ?_⟩
  · unfold q_PC at hab
    rw [o2 a b (by omega), o a b (by omega)]
  · rw [u2, o _ _ (by omega)]
-- a cell is put
def q_put (R : am_M) (x : Nat) (v : Int32) : am_M := fun a b => if a = 2 ∧ b = x then v else R a b
theorem q_put_1 (R : am_M) (x : Nat) (v : Int32) : q_put R x v 1 = R 1 := by funext b; unfold q_put; rw [if_neg (by omega)]
theorem q_put_0 (R : am_M) (x : Nat) (v : Int32) : q_put R x v 0 = R 0 := by funext b; unfold q_put; rw [if_neg (by omega)]
theorem q_put_cb {s R : am_M} {i j k x : Nat} {v : Int32} (h9 : k ≠ i ∧ k ≠ j) (h : q_cb s i j k R) : q_cb (am_set s k x v) i j k (q_put R x v) := by
  obtain ⟨c1, c2, c3⟩ := h
  unfold q_cb
  rw [q_put_1, q_put_0]
  refine ⟨fun t ht => ?_, fun p hp => ?_, fun y hy hh => ?_⟩
  · rw [am_set_o (fun q => h9.1 q.symm)]; exact c1 t ht
  · rw [am_set_o (fun q => h9.2 q.symm)]; exact c2 p hp
  · unfold q_put
    by_cases e : y = x
    · rw [e, am_set_q, if_pos ⟨rfl, rfl⟩]
    · rw [am_set_p (Or.inr e), if_neg (fun q => e q.2)]; exact c3 y hy hh
theorem q_put_mb {s R : am_M} {x : Nat} {v : Int32} (h : q_mb s R) : q_mb (am_set s 230 x v) (q_put R x v) := by
  obtain ⟨c1, c2, c3⟩ := h
  unfold q_mb
  rw [q_put_1, q_put_0]
  refine ⟨fun t ht => ?_, fun p hp => ?_, fun y hy hh => ?_⟩
  · rw [am_set_o (by omega)]; exact c1 t ht
  · rw [am_set_o (by omega)]; exact c2 p hp
  · unfold q_put
    by_cases e : y = x
    · rw [e, am_set_q, if_pos ⟨rfl, rfl⟩]
    · rw [am_set_p (Or.inr e), if_neg (fun q => e q.2)]; exact c3 y hy hh
theorem q_put_we {A R : am_M} {x : Nat} {v : Int32} (e : q_we A R) (hv : q_v v) : q_we A (q_put R x v) := by
  obtain ⟨e1, e2, e3⟩ := e
  unfold q_we
  rw [q_put_1, q_put_0]
  refine ⟨e1, e2, fun y hy hh => ?_⟩
  unfold q_put
  by_cases q : 2 = 2 ∧ y = x
  · rw [if_pos q]; exact hv
  · rw [if_neg q]; exact e3 y hy hh
theorem qd_stO {s A : am_M} (cd : q_cd s A) {t c : Nat} (ht : t < 4) (hc : c < 6) : f_BA_isStored s (nI (10 * t + c)) = if A 209 (6 * t + c) = 0 ∨ A 209 (6 * t + c) = 1 then 1 else 0 := by
  unfold f_BA_isStored f_CO_isStored
  rw [if_neg (qz (by omega)), qr_10 (by omega), qd_10 (by omega), show (10 * t + c) / 10 = t from by omega, show (10 * t + c) % 10 = c from by omega, qd_col ht hc, cd.2.2.1 _ (by omega)]
  by_cases c0 : A 209 (6 * t + c) = 0
  · rw [if_pos (q_kc_1.mpr c0), if_neg i10, if_pos (Or.inl c0)]
  · rw [if_neg (fun q => c0 (q_kc_1.mp q))]
    by_cases c1 : A 209 (6 * t + c) = 1
    · rw [if_pos (q_kc_2.mpr c1), if_neg i10, if_pos (Or.inr c1)]
    · rw [if_neg (fun q => c1 (q_kc_2.mp q)), if_pos rfl, if_neg (fun q => q.elim c0 c1)]
theorem qd_pstO (s : am_M) (x : Int32) : p_BA_isStored s x := ⟨fun _ => trivial, fun _ => ⟨qd_pcol _ _ _, qd_pstored _ _ _, qd_ref _ _ _, fun _ => trivial, fun _ => trivial⟩⟩
/-- the class puts a value into a stored cell -/
theorem qc_put {s A R U : am_M} {t r c : Nat} {v : Int32} (cd : q_cd s A) (oc : q_oc s A) (w : q_wd A) (e : q_we A R) (cb : q_cb s 9 10 11 R) (uc : q_uc s U) (uw : q_uw U) (ht : t < 4) (hr : r < 30) (hc : c < 6) (hs : A 209 (6 * t + c) = 0 ∨ A 209 (6 * t + c) = 1) (hv : q_v v) : p_BA_putThrough s (nI (10 * t + c)) (nI r) v ∧ ∃ t', f_BA_putThrough s (nI (10 * t + c)) (nI r) v = (q_good (q_brk A U (q_reck A (q_put R (180 * t + 6 * r + c) v))), t') ∧ q_out s t' (fun a _ => (9 ≤ a ∧ a ≤ 11) ∨ (13 ≤ a ∧ a ≤ 16) ∨ a = 19) ∧ q_cb t' 9 10 11 (q_pick (q_brk A U (q_reck A (q_put R (180 * t + 6 * r + c) v))) (q_reck A (q_put R (180 * t + 6 * r + c) v)) R) ∧ q_fd t' 16 0 (q_brk A U (q_reck A (q_put R (180 * t + 6 * r + c) v))) ∧ q_cb t' 13 14 15 R := by
  obtain ⟨p1, S, s1, s2, s3⟩ := qk_keep cb
  have st := qr_set S ht hr hc v
  have hO := qd_stO cd ht hc
  rw [if_pos hs] at hO
  have o1 : q_out S (am_set S 11 (180 * t + 6 * r + c) v) (fun a _ => a = 11) := fun a b hab => am_set_p (by omega)
  have o2 : q_out s (am_set S 11 (180 * t + 6 * r + c) v) (fun a _ => a = 11 ∨ (13 ≤ a ∧ a ≤ 15)) := fun a b hab => by rw [o1 a b (by omega), s2 a b (by omega)]
  obtain ⟨p2, T, t1, t2, t3, t4⟩ := qs_settle (q_cd_out o2 (fun a b q => by omega) cd) (q_oc_out o2 (fun a b q => by omega) oc) w (q_put_we e hv) (q_put_cb (by omega) (q_cb_out s2 (fun a b q => by omega) cb)) (q_uc_out o2 (fun a b q => by omega) uc) uw (q_cb_out2 o1 (fun a b q => by omega) s3)
  unfold p_BA_putThrough f_BA_putThrough
  rw [hO, if_neg i10, s1, qr_10 (by omega), qd_10 (by omega), show (10 * t + c) / 10 = t from by omega, show (10 * t + c) % 10 = c from by omega, st.2, t1]
  refine ⟨⟨qd_pstO s _, fun q => absurd q i10, fun _ => ⟨p1, st.1, p2, q_good_01 _, trivial⟩⟩, T, rfl, fun a b hab => by rw [t2 a b (by omega), o2 a b (by omega)], t3, t4, q_cb_out2 t2 (fun a b q => by omega) (q_cb_out2 o1 (fun a b q => by omega) s3)⟩
/-- the model writes a cell -/
theorem qm_put {s A R U : am_M} {t r c : Nat} {v : Int32} (md : q_md s A) (w : q_wd A) (e : q_we A R) (mb : q_mb s R) (um : q_um s U) (uw : q_uw U) (ht : t < 4) (hr : r < 30) (hc : c < 6) (hv : q_v v) : p_MO_writesCell s (nI t) (nI r) (nI c) v ∧ ∃ t', f_MO_writesCell s (nI t) (nI r) (nI c) v = (q_good (q_brk A U (q_reck A (q_put R (180 * t + 6 * r + c) v))), t') ∧ q_out s t' (fun a b => (a = 207 ∧ (b = 15 ∨ (31 ≤ b ∧ b ≤ 34))) ∨ (220 ≤ a ∧ a ≤ 221) ∨ (228 ≤ a ∧ a ≤ 230) ∨ (a = 233 ∧ 4320 ≤ b) ∨ (a = 234 ∧ 720 ≤ b) ∨ (a = 235 ∧ 24 ≤ b)) ∧ q_mb t' (q_pick (q_brk A U (q_reck A (q_put R (180 * t + 6 * r + c) v))) (q_reck A (q_put R (180 * t + 6 * r + c) v)) R) ∧ q_fd t' 207 31 (q_brk A U (q_reck A (q_put R (180 * t + 6 * r + c) v))) := by
  obtain ⟨p1, S, s1, s2, s3⟩ := qm_saves (l := 6) (by omega) mb
  have e6 : nI 6 = (6 : Int32) := rfl
  rw [e6] at p1 s1
  have o1 : q_out S (am_set S 230 (180 * t + 6 * r + c) v) (fun a _ => a = 230) := fun a b hab => am_set_p (by omega)
  obtain ⟨p2, T, t1, t2, t3, t4⟩ := qm_isKept (q_md_out o1 (fun a b q => by omega) (q_md_out s2 (fun a b q => by omega) md)) w (q_put_we e hv) (q_put_mb (x := 180 * t + 6 * r + c) (v := v) (q_mb_out s2 (fun a b q => by omega) mb)) (q_um_out o1 (fun a b q => by omega) (q_um_out s2 (fun a b q => by omega) um)) uw (q_mh_out o1 (fun a b q => by omega) s3)
  unfold p_MO_writesCell f_MO_writesCell
  rw [s1, qr_at, nI_clamp (n := 180 * t + 6 * r + c) (by omega), t1]
  exact ⟨⟨p1, vp_in_nI (by omega) (by omega), p2, q_good_01 _, trivial⟩, T, rfl, fun a b hab => by rw [t2 a b (by omega), o1 a b (by omega), s2 a b (by omega)], t3, t4⟩
/-- a cell is put and nothing is broken -/
theorem q_put_wr {A R U : am_M} {t r c : Nat} {v : Int32} (w : q_wd A) (h : q_wr A R) (hv : q_v v) (hs : A 209 (6 * t + c) = 0 ∨ A 209 (6 * t + c) = 1) (ht : t < 4) (hr : r < 30) (hc : c < 6) (hg : q_brk A U (q_reck A (q_put R (180 * t + 6 * r + c) v)) = []) : q_wr A (q_reck A (q_put R (180 * t + 6 * r + c) v)) := by
  refine q_wr_good (U := U) w (q_put_we h.we hv) (fun p d hp hd hh hk => ?_) hg
  rw [q_put_1] at hh
  unfold q_put
  by_cases q : 2 = 2 ∧ 6 * p + d = 180 * t + 6 * r + c
  · have e1 : 6 * (p / 30) + d = 6 * t + c := by omega
    rw [e1] at hk
    rcases hk with k | k <;> rw [k] at hs <;> exact absurd hs (by decide)
  · rw [if_neg q]; exact h.2.2.2.1 p d hp hd hh hk
theorem q_num_v {s : am_M} {x : Int32} (h : f_MO_isNumber s x = 1) : q_v x := by
  unfold f_MO_isNumber f_MO_in at h
  unfold q_v
  by_cases c : x = -1000000
  · rw [c]; decide
  · rw [if_neg c] at h
    have e1 : (-9999 : Int32).toInt = -9999 := by decide
    have e2 : (9999 : Int32).toInt = 9999 := by decide
    by_cases c1 : x < -9999
    · rw [if_pos c1] at h; exact absurd h (by decide)
    · by_cases c2 : 9999 < x
      · rw [if_neg c1, if_pos c2] at h; exact absurd h (by decide)
      · rw [Int32.lt_iff_toInt_lt] at c1 c2; omega
end
