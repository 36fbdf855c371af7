noncomputable section
-- a change ends: kept, or all as it was
def q_good : List q_It → Int32
  | [] => 1
  | _ :: _ => 0
def q_pick : List q_It → am_M → am_M → am_M
  | [], R, _ => R
  | _ :: _, _, R0 => R0
theorem q_good_c (l : List q_It) : (l = [] ∧ q_good l = 1 ∧ ∀ R R0, q_pick l R R0 = R) ∨ (l ≠ [] ∧ q_good l = 0 ∧ ∀ R R0, q_pick l R R0 = R0) := by
  cases l with
  | nil => exact Or.inl ⟨rfl, rfl, fun _ _ => rfl⟩
  | cons x l => exact Or.inr ⟨by simp, rfl, fun _ _ => rfl⟩
theorem q_dq_p {A B Q : am_M} {L : List q_It} (h : q_dq A B Q) : q_dq A (q_pick L B A) Q := by
  rcases q_good_c L with ⟨-, -, g⟩ | ⟨-, -, g⟩ <;> rw [g]
  · exact h
  · exact q_dq_0
theorem q_good_01 (l : List q_It) : q_good l = 0 ∨ q_good l = 1 := by
  cases l with
  | nil => exact Or.inr rfl
  | cons x l => exact Or.inl rfl
/-- what was found first lies in a cell -/
def q_fd (s : am_M) (a b : Nat) (l : List q_It) : Prop := s a b = (q_fo l).1 ∧ s a (b + 1) = (q_fo l).2.1 ∧ s a (b + 2) = (q_fo l).2.2.1 ∧ s a (b + 3) = (q_fo l).2.2.2
theorem q_oc_out {s t A : am_M} {P : Nat → Nat → Prop} (h : q_out s t P) (hP : ∀ a b, P a b → (a = 1 → b ≠ 8) ∧ a ≠ 7) (m : q_oc s A) : q_oc t A := by
  refine ⟨?_, fun i hi => ?_⟩
  · rw [h _ _ (fun q => (hP _ _ q).1 rfl rfl)]; exact m.1
  · rw [h _ _ (fun q => (hP _ _ q).2 rfl)]; exact m.2 i hi
theorem q_cb_out2 {s t R : am_M} {P : Nat → Nat → Prop} {i j k : Nat} (h : q_out s t P) (hP : ∀ a b, P a b → a ≠ i ∧ a ≠ j ∧ a ≠ k) (cb : q_cb s i j k R) : q_cb t i j k R := by
  obtain ⟨q1, q2, q3⟩ := cb
  refine ⟨fun u hu => ?_, fun u hu => ?_, fun u hu hh => ?_⟩
  · rw [h _ _ (fun q => (hP _ _ q).1 rfl)]; exact q1 u hu
  · rw [h _ _ (fun q => (hP _ _ q).2.1 rfl)]; exact q2 u hu
  · rw [h _ _ (fun q => (hP _ _ q).2.2 rfl)]; exact q3 u hu hh
theorem qs_settle {s A R R0 U : am_M} (cd : q_cd s A) (oc : q_oc s A) (w : q_wd A) (e : q_we A R) (cb : q_cb s 9 10 11 R) (uc : q_uc s U) (uw : q_uw U) (bf : q_cb s 13 14 15 R0) : p_BA_settle s ∧ ∃ t, f_BA_settle s = (q_good (q_brk A U (q_reck A R)), t) ∧ q_out s t (fun a _ => a = 9 ∨ a = 10 ∨ a = 11 ∨ a = 16 ∨ a = 19) ∧ q_cb t 9 10 11 (q_pick (q_brk A U (q_reck A R)) (q_reck A R) R0) ∧ q_fd t 16 0 (q_brk A U (q_reck A R)) := by
  obtain ⟨p1, S, s1, s2, s3⟩ := qk_reckon cd oc w e cb
  have eR := (q_we_reck w e).1
  obtain ⟨p2, x, x1, x2⟩ := qb_count0 (q_cd_out s2 (fun a b q => by omega) cd) w eR s3 (q_uc_out s2 (fun a b q => by omega) uc) uw
  have o2 : q_out S (q_F (f_RE_clear S 16) (q_brk A U (q_reck A R))) (fun a _ => a = 16) := q_out_t q_clear_o q_F_o
  have o3 : q_out s (q_F (f_RE_clear S 16) (q_brk A U (q_reck A R))) (fun a _ => a = 11 ∨ a = 16 ∨ a = 19) := fun a b hab => by rw [o2 a b (by omega), s2 a b (by omega)]
  have bf2 := q_cb_out2 o3 (fun a b q => by omega) bf
  obtain ⟨p3, T, t1, t2, t3⟩ := qk_back bf2
  have fo := @q_F_fo S (q_brk A U (q_reck A R))
  unfold p_BA_settle f_BA_settle
  rw [s1, x2]
  refine ⟨⟨p1, p2, fun _ => trivial, fun _ => ⟨p3, trivial⟩⟩, ?_⟩
  rcases q_good_c (q_brk A U (q_reck A R)) with ⟨g1, g2, g3⟩ | ⟨g1, g2, g3⟩
  · rw [if_pos (x1.mpr g1), g2, g3]
    exact ⟨_, rfl, q_out_w o3 (fun a b q => by omega), q_cb_out2 o2 (fun a b q => by omega) s3, fo⟩
  · rw [if_neg (fun q => g1 (x1.mp q)), g2, g3, t1]
    refine ⟨T, rfl, fun a b hab => by rw [t2 a b (by omega), o3 a b (by omega)], t3, ?_⟩
    exact ⟨by rw [t2 _ _ (by omega)]; exact fo.1, by rw [t2 _ _ (by omega)]; exact fo.2.1, by rw [t2 _ _ (by omega)]; exact fo.2.2.1, by rw [t2 _ _ (by omega)]; exact fo.2.2.2⟩
theorem qm_isWhole {s A R U : am_M} (md : q_md s A) (w : q_wd A) (e : q_we A R) (mb : q_mb s R) (um : q_um s U) (uw : q_uw U) : p_MO_isWhole s ∧ ∃ t, f_MO_isWhole s = (q_good (q_brk A U (q_reck A R)), t) ∧ q_out s t (fun a b => (a = 207 ∧ (b = 15 ∨ (31 ≤ b ∧ b ≤ 34))) ∨ a = 220 ∨ a = 221 ∨ a = 230) ∧ q_mb t (q_reck A R) ∧ q_fd t 207 31 (q_brk A U (q_reck A R)) := by
  obtain ⟨p1, S, s1, s2, s3⟩ := qm_reckons md w e mb
  have eR := (q_we_reck w e).1
  have hT : (f_MO_told S (0 : Int32) (-1 : Int32) (-1 : Int32) (-1 : Int32)).2 = am_set (am_set (am_set (am_set S 207 31 0) 207 32 (-1)) 207 33 (-1)) 207 34 (-1) := rfl
  generalize hV : am_set (am_set (am_set (am_set S 207 31 0) 207 32 (-1)) 207 33 (-1)) 207 34 (-1) = V at hT
  have oV : q_out S V (fun a b => a = 207 ∧ 31 ≤ b ∧ b ≤ 34) := fun a b hab => by
    rw [← hV, am_set_p (by omega), am_set_p (by omega), am_set_p (by omega), am_set_p (by omega)]
  have o2 : q_out s V (fun a b => (a = 207 ∧ (b = 15 ∨ (31 ≤ b ∧ b ≤ 34))) ∨ a = 220 ∨ a = 221 ∨ a = 230) := fun a b hab => by rw [oV a b (by omega), s2 a b (by omega)]
  obtain ⟨p2, x, x1, x2⟩ := qm_broken1 (q_md_out o2 (fun a b q => by omega) md) w eR (q_mb_out oV (fun a b q => by omega) s3) (q_um_out o2 (fun a b q => by omega) um) uw
  have o3 : q_out s (q_G 1 V 0 (q_brk A U (q_reck A R))) (fun a b => (a = 207 ∧ (b = 15 ∨ (31 ≤ b ∧ b ≤ 34))) ∨ a = 220 ∨ a = 221 ∨ a = 230) := fun a b hab => by rw [q_G_o a b (by omega), o2 a b hab]
  have fo : q_fd (q_G 1 V 0 (q_brk A U (q_reck A R))) 207 31 (q_brk A U (q_reck A R)) := by
    cases q_brk A U (q_reck A R) with
    | nil =>
      show V 207 31 = 0 ∧ V 207 32 = -1 ∧ V 207 33 = -1 ∧ V 207 34 = -1
      rw [← hV]
      refine ⟨?_, ?_, ?_, ?_⟩ <;> simp [am_set, upd]
    | cons y l =>
      have hn : ((1 : Int32) ≠ 0 ∧ (0 : Nat) = 0) := ⟨by decide, rfl⟩
      have hG : q_G 1 V 0 (y :: l) = (f_MO_told V (nI y.1) (nI y.2.1) (nI y.2.2.1) (nI y.2.2.2)).2 := if_pos (e := V) hn
      rw [hG]
      show am_set (am_set (am_set (am_set V 207 31 (nI y.1)) 207 32 (nI y.2.1)) 207 33 (nI y.2.2.1)) 207 34 (nI y.2.2.2) 207 31 = nI y.1 ∧ am_set (am_set (am_set (am_set V 207 31 (nI y.1)) 207 32 (nI y.2.1)) 207 33 (nI y.2.2.1)) 207 34 (nI y.2.2.2) 207 32 = nI y.2.1 ∧ am_set (am_set (am_set (am_set V 207 31 (nI y.1)) 207 32 (nI y.2.1)) 207 33 (nI y.2.2.1)) 207 34 (nI y.2.2.2) 207 33 = nI y.2.2.1 ∧ am_set (am_set (am_set (am_set V 207 31 (nI y.1)) 207 32 (nI y.2.1)) 207 33 (nI y.2.2.1)) 207 34 (nI y.2.2.2) 207 34 = nI y.2.2.2
      refine ⟨?_, ?_, ?_, ?_⟩ <;> simp [am_set, upd]
  have mbT : q_mb (q_G 1 V 0 (q_brk A U (q_reck A R))) (q_reck A R) := q_mb_G (q_mb_out oV (fun a b q => by omega) s3)
  unfold p_MO_isWhole f_MO_isWhole
  rw [s1, hT, x2]
  refine ⟨⟨p1, p2, fun _ => trivial, fun _ => trivial⟩, _, ?_, o3, mbT, fo⟩
  rcases q_good_c (q_brk A U (q_reck A R)) with ⟨g1, g2, g3⟩ | ⟨g1, g2, g3⟩
  · rw [if_pos (x1.mpr g1), g2]
  · rw [if_neg (fun q => g1 (x1.mp q)), g2]
theorem q_mh_out {s t R : am_M} {l : Nat} {P : Nat → Nat → Prop} (h : q_out s t P) (hP : ∀ a b, P a b → a ≠ 233 ∧ a ≠ 234 ∧ a ≠ 235) (m : q_mh s l R) : q_mh t l R := by
  obtain ⟨q1, q2, q3⟩ := m
  refine ⟨fun u hu => ?_, fun u hu => ?_, fun u hu hh => ?_⟩
  · rw [h _ _ (fun q => (hP _ _ q).2.2 rfl)]; exact q1 u hu
  · rw [h _ _ (fun q => (hP _ _ q).2.1 rfl)]; exact q2 u hu
  · rw [h _ _ (fun q => (hP _ _ q).1 rfl)]; exact q3 u hu hh
theorem q_fd_out {s t : am_M} {a b : Nat} {l : List q_It} {P : Nat → Nat → Prop} (h : q_out s t P) (hP : ∀ i j, P i j → i ≠ a ∨ j < b ∨ b + 3 < j) (m : q_fd s a b l) : q_fd t a b l := by
  obtain ⟨q1, q2, q3, q4⟩ := m
  refine ⟨?_, ?_, ?_, ?_⟩
  · rw [h _ _ (fun q => by have := hP _ _ q; omega)]; exact q1
  · rw [h _ _ (fun q => by have := hP _ _ q; omega)]; exact q2
  · rw [h _ _ (fun q => by have := hP _ _ q; omega)]; exact q3
  · rw [h _ _ (fun q => by have := hP _ _ q; omega)]; exact q4
theorem qm_isKept {s A R R0 U : am_M} (md : q_md s A) (w : q_wd A) (e : q_we A R) (mb : q_mb s R) (um : q_um s U) (uw : q_uw U) (mh : q_mh s 6 R0) : p_MO_isKept s ∧ ∃ t, f_MO_isKept s = (q_good (q_brk A U (q_reck A R)), t) ∧ q_out s t (fun a b => (a = 207 ∧ (b = 15 ∨ (31 ≤ b ∧ b ≤ 34))) ∨ a = 220 ∨ a = 221 ∨ a = 228 ∨ a = 229 ∨ a = 230) ∧ q_mb t (q_pick (q_brk A U (q_reck A R)) (q_reck A R) R0) ∧ q_fd t 207 31 (q_brk A U (q_reck A R)) := by
  obtain ⟨p1, S, s1, s2, s3, s4⟩ := qm_isWhole md w e mb um uw
  obtain ⟨p2, T, t1, t2, t3⟩ := qm_restores (l := 6) (by omega) (q_mh_out s2 (fun a b q => by omega) mh)
  have e6 : nI 6 = (6 : Int32) := rfl
  rw [e6] at p2 t1
  unfold p_MO_isKept f_MO_isKept
  rw [s1]
  refine ⟨⟨p1, fun _ => ⟨p2, trivial⟩, fun _ => trivial⟩, ?_⟩
  rcases q_good_c (q_brk A U (q_reck A R)) with ⟨g1, g2, g3⟩ | ⟨g1, g2, g3⟩
  · rw [g2, g3]
    dsimp only
    rw [if_neg i10]
    exact ⟨S, rfl, q_out_w s2 (fun a b q => by omega), s3, s4⟩
  · rw [g2, g3]
    dsimp only
    rw [if_pos rfl, t1]
    exact ⟨T, rfl, fun a b hab => by rw [t2 a b (by omega), s2 a b (by omega)], t3, q_fd_out t2 (fun i j q => by omega) s4⟩
theorem q_pset123 (s : am_M) (a b c d : Int32) : p_RE_setFirst s 123 a b c d := ⟨⟨by omega, by decide +kernel⟩, fun _ => trivial, fun _ => trivial⟩
theorem q_pre123 (s : am_M) (a b c d : Int32) : p_RE_set s 123 a b c d := ⟨⟨by omega, by decide +kernel⟩, q_pset123 _ _ _ _ _, trivial⟩
theorem q_re123 (s : am_M) (a b c d : Int32) : q_out s (f_RE_set s 123 a b c d) (fun k _ => k = 123) ∧ f_RE_set s 123 a b c d 123 0 = a ∧ f_RE_set s 123 a b c d 123 1 = b ∧ f_RE_set s 123 a b c d 123 2 = c ∧ f_RE_set s 123 a b c d 123 3 = d := by
  unfold f_RE_set f_RE_setFirst
  rw [if_pos am_set_q]
  refine ⟨fun k l hk => by rw [am_set_p (by omega), am_set_p (by omega), am_set_p (by omega), am_set_p (by omega), am_set_p (by omega)], ?_, ?_, ?_, ?_⟩ <;> simp [am_set, upd]
/-- what a change tells -/
theorem qc_tell {s : am_M} {l : List q_It} (h : q_fd s 16 0 l) : p_CB_tell s (q_good l) ∧ ∃ t, f_CB_tell s (q_good l) = (q_good l, t) ∧ q_out s t (fun a b => a = 123 ∨ (a = 0 ∧ b = 7)) ∧ q_fd t 123 0 l ∧ t 0 7 = (if q_good l = 0 then s 0 7 else 0) := by
  have pc : p_RE_copyFrom s 123 16 := ⟨⟨by omega, by decide +kernel⟩, q_pre123 _ _ _ _ _, ⟨by omega, by decide +kernel⟩, trivial⟩
  have pl : p_RE_clear s 123 := ⟨q_pre123 _ _ _ _ _, ⟨by omega, by decide +kernel⟩, trivial⟩
  refine ⟨⟨fun _ => ⟨pc, q_good_01 l, trivial⟩, fun _ => ⟨pl, q_good_01 l, trivial⟩⟩, ?_⟩
  unfold f_CB_tell
  rcases q_good_c l with ⟨g1, g2, g3⟩ | ⟨g1, g2, g3⟩
  · rw [g2, if_neg i10, if_neg i10]
    unfold f_RE_clear f_CB_forgetActs
    obtain ⟨r0, r1, r2, r3, r4⟩ := q_re123 s 0 (-1) (-1) (-1)
    refine ⟨_, rfl, fun a b hab => by rw [am_set_p (by omega), r0 a b (by omega)], ?_, am_set_q⟩
    rw [g1]
    exact ⟨by rw [am_set_p (by omega)]; exact r1, by rw [am_set_p (by omega)]; exact r2, by rw [am_set_p (by omega)]; exact r3, by rw [am_set_p (by omega)]; exact r4⟩
  · rw [g2, if_pos rfl, if_pos rfl]
    unfold f_RE_copyFrom
    obtain ⟨r0, r1, r2, r3, r4⟩ := q_re123 s (s 16 0) (s 16 1) (s 16 2) (s 16 3)
    exact ⟨_, rfl, fun a b hab => r0 a b (by omega), ⟨r1.trans h.1, r2.trans h.2.1, r3.trans h.2.2.1, r4.trans h.2.2.2⟩, r0 0 7 (by omega)⟩
theorem qm_chg {s : am_M} {l : List q_It} : p_MO_isChanged s (q_good l) ∧ ∃ t, f_MO_isChanged s (q_good l) = (q_good l, t) ∧ q_out s t (fun a b => a = 207 ∧ b = 38) ∧ t 207 38 = (if q_good l = 0 then s 207 38 else 0) := by
  refine ⟨⟨fun _ => ⟨q_good_01 l, trivial⟩, fun _ => ⟨q_good_01 l, trivial⟩⟩, ?_⟩
  unfold f_MO_isChanged
  by_cases c : q_good l = 0
  · rw [if_pos c, if_pos c]; exact ⟨_, rfl, fun a b hab => am_set_p (by omega), am_set_q⟩
  · rw [if_neg c, if_neg c]; exact ⟨_, rfl, fun a b hab => am_set_p (by omega), am_set_q⟩
end
