noncomputable section
-- reckonAnew: a formula anew
def q_fm (A : am_M) (k : Nat) (f o p h : Int32) : am_M := am_set (am_set (am_set (am_set A 214 k f) 215 k o) 216 k p) 217 k h
theorem q_fm_o {A : am_M} {k : Nat} {f o p h : Int32} {a b : Nat} (q : (a < 214 ∨ 217 < a) ∨ b ≠ k) : q_fm A k f o p h a b = A a b := by
  unfold q_fm
  rw [am_set_p (by omega), am_set_p (by omega), am_set_p (by omega), am_set_p (by omega)]
theorem q_fm_v (A : am_M) (k : Nat) (f o p h : Int32) : q_fm A k f o p h 214 k = f ∧ q_fm A k f o p h 215 k = o ∧ q_fm A k f o p h 216 k = p ∧ q_fm A k f o p h 217 k = h := by
  unfold q_fm
  refine ⟨?_, ?_, ?_, am_set_q⟩
  · rw [am_set_p (by omega), am_set_p (by omega), am_set_p (by omega)]; exact am_set_q
  · rw [am_set_p (by omega), am_set_p (by omega)]; exact am_set_q
  · rw [am_set_p (by omega)]; exact am_set_q
theorem q_fm_back {A : am_M} {k : Nat} {f o p h : Int32} : q_fm (q_fm A k f o p h) k (A 214 k) (A 215 k) (A 216 k) (A 217 k) = A := by
  obtain ⟨v1, v2, v3, v4⟩ := q_fm_v (q_fm A k f o p h) k (A 214 k) (A 215 k) (A 216 k) (A 217 k)
  funext a b
  by_cases e : (a < 214 ∨ 217 < a) ∨ b ≠ k
  · rw [q_fm_o e, q_fm_o e]
  · obtain rfl : b = k := by omega
    have ea : a = 214 ∨ a = 215 ∨ a = 216 ∨ a = 217 := by omega
    rcases ea with rfl | rfl | rfl | rfl
    · exact v1
    · exact v2
    · exact v3
    · exact v4
theorem q_fm_wd {A : am_M} (w : q_wd A) {k : Nat} {f o p h : Int32} (hf : q_f A (k / 6) f o p h) : q_wd (q_fm A k f o p h) ∧ (∀ R, q_wr A R → q_wr (q_fm A k f o p h) R) ∧ q_nt (q_fm A k f o p h) = q_nt A := by
  obtain ⟨v1, v2, v3, v4⟩ := q_fm_v A k f o p h
  have hB : ∀ a, a < 214 ∨ 217 < a → q_fm A k f o p h a = A a := fun a ha => by funext b; exact q_fm_o (Or.inl ha)
  have n1 : q_nt (q_fm A k f o p h) = q_nt A := by unfold q_nt; rw [hB 207 (by omega)]
  have w1 : ∀ u, q_w (q_fm A k f o p h) u = q_w A u := fun u => by unfold q_w; rw [hB 208 (by omega)]
  have g1 : ∀ u, q_tg (q_fm A k f o p h) u = q_tg A u := fun u => by unfold q_tg; rw [hB 212 (by omega)]
  have hft : ∀ {t : Nat} {x1 x2 x3 x4 : Int32}, q_f A t x1 x2 x3 x4 → q_f (q_fm A k f o p h) t x1 x2 x3 x4 := fun q => q_f_t (fun t c q => ⟨⟨by rw [n1]; exact q.1, by rw [w1]; exact q.2.1, by rw [hB 209 (by omega)]; exact q.2.2⟩, by rw [hB 209 (by omega)], by rw [hB 212 (by omega)]⟩) q
  refine ⟨⟨by rw [n1, hB 207 (by omega)]; exact w.1, fun u hu => ?_, fun j hj => ?_, fun j hj e => ?_, fun j hj => ?_, fun j hj e => ?_⟩, fun R hR => ?_, n1⟩
  · rw [w1, n1, hB 208 (by omega)]; exact w.2.1 u hu
  · rw [w1, hB 209 (by omega)]; exact w.2.2.1 j hj
  · rw [hB 209 (by omega)] at e
    rw [g1, n1, hB 212 (by omega)]; exact w.2.2.2.1 j hj e
  · rw [hB 218 (by omega), hB 219 (by omega), hB 209 (by omega)]; exact w.2.2.2.2.1 j hj
  · rw [hB 209 (by omega)] at e
    by_cases z : j = k
    · rw [z, v1, v2, v3, v4]; exact hft hf
    · rw [q_fm_o (Or.inr z), q_fm_o (Or.inr z), q_fm_o (Or.inr z), q_fm_o (Or.inr z)]; exact hft (w.2.2.2.2.2 j hj e)
  · obtain ⟨r1, r2, r3, r4, r5⟩ := hR
    refine ⟨by rw [n1]; exact r1, r2, r3, fun p c hp hc => ?_, fun p c hp hc => ?_⟩
    · rw [hB 209 (by omega)]; exact r4 p c hp hc
    · rw [hB 209 (by omega), g1]; exact r5 p c hp hc
/-- what a new formula runs into: a circle, or broken rows -/
def q_m1 : Nat := 4294967295
theorem q_m1_e : nI q_m1 = (-1 : Int32) := by unfold q_m1; decide +kernel
def q_fL (B U R : am_M) (T C : Nat) : List q_It := if q_str B = 0 then [(9, T, q_m1, C)] else q_brk B U (q_reck B R)
theorem q_re16 (s : am_M) (a b c d : Int32) : p_RE_set s 16 a b c d ∧ q_out s (f_RE_set s 16 a b c d) (fun k _ => k = 16) ∧ f_RE_set s 16 a b c d 16 0 = a ∧ f_RE_set s 16 a b c d 16 1 = b ∧ f_RE_set s 16 a b c d 16 2 = c ∧ f_RE_set s 16 a b c d 16 3 = d := by
  refine ⟨⟨⟨by omega, by decide +kernel⟩, ⟨⟨by omega, by decide +kernel⟩, fun _ => trivial, fun _ => trivial⟩, trivial⟩, ?_⟩
  unfold f_RE_set f_RE_setFirst
  rw [if_pos am_set_q]
  refine ⟨fun k l hk => by rw [am_set_p (by omega), am_set_p (by omega), am_set_p (by omega), am_set_p (by omega), am_set_p (by omega)], ?_, ?_, ?_, ?_⟩ <;> simp [am_set, upd]
theorem q_sf {s A : am_M} {k : Nat} {f o p h : Int32} (cd : q_cd s A) (hk : k < 24) : p_CO_setFormula s (20 + k) f o p h ∧ q_cd (f_CO_setFormula s (20 + k) f o p h) (q_fm A k f o p h) ∧ q_out s (f_CO_setFormula s (20 + k) f o p h) (fun a _ => a = 20 + k) := by
  refine ⟨⟨⟨by omega, qd_sh hk⟩, trivial⟩, q_cd_fld (j := 10) hk (by omega) (by omega) (q_cd_fld (j := 9) hk (by omega) (by omega) (q_cd_fld (j := 8) hk (by omega) (by omega) (q_cd_fld (j := 7) hk (by omega) (by omega) cd))), fun a b hab => ?_⟩
  unfold f_CO_setFormula
  rw [am_set_p (by omega), am_set_p (by omega), am_set_p (by omega), am_set_p (by omega)]
/-- the old formula and the old order again -/
theorem qc_74 {s A : am_M} {k : Nat} {f o p h : Int32} (w : q_wd A) (cd : q_cd s (q_fm A k f o p h)) (hk : k < 24) (x1 x2 x3 x4 x5 x6 : Int32) : p_BA_changeFormula_74 s x1 x2 x3 x4 x5 x6 (20 + k) (A 214 k) (A 215 k) (A 216 k) (A 217 k) 0 ∧ ∃ t, f_BA_changeFormula_74 s x1 x2 x3 x4 x5 x6 (20 + k) (A 214 k) (A 215 k) (A 216 k) (A 217 k) 0 = (0, t) ∧ q_out s t (fun a b => a = 20 + k ∨ (a = 1 ∧ b = 8) ∨ a = 7 ∨ a = 17) ∧ q_cd t A ∧ q_oc t A := by
  obtain ⟨p1, c1, o1⟩ := q_sf (f := A 214 k) (o := A 215 k) (p := A 216 k) (h := A 217 k) cd hk
  rw [q_fm_back] at c1
  obtain ⟨p2, t, t1, t2, t3⟩ := qo_C c1 w
  unfold p_BA_changeFormula_74 f_BA_changeFormula_74
  rw [if_pos rfl, t1]
  exact ⟨⟨fun _ => ⟨p1, ⟨by omega, qd_sh hk⟩, p2, Or.inl rfl, trivial⟩, fun q => absurd rfl q⟩, t, rfl, fun a b hab => by rw [t2 a b (by omega), o1 a b (by omega)], q_cd_out t2 (fun a b q => by omega) c1, t3⟩
theorem qc_frmA {O A R : am_M} {k T C : Nat} {f o p h : Int32} (w : q_wd A) (cd : q_cd O (q_fm A k f o p h)) (hk : k < 24) (cb : q_cb O 9 10 11 R) : p_BA_refuse O (9 : Int32) (nI T) (nI C) ∧ p_BA_changeFormula_74 (f_BA_refuse O (9 : Int32) (nI T) (nI C)).2 (nI T) (nI C) f o p h (20 + k) (A 214 k) (A 215 k) (A 216 k) (A 217 k) (f_BA_refuse O (9 : Int32) (nI T) (nI C)).1 ∧ ∃ t, f_BA_changeFormula_74 (f_BA_refuse O (9 : Int32) (nI T) (nI C)).2 (nI T) (nI C) f o p h (20 + k) (A 214 k) (A 215 k) (A 216 k) (A 217 k) (f_BA_refuse O (9 : Int32) (nI T) (nI C)).1 = (0, t) ∧ q_out O t (fun a b => a = 16 ∨ a = 20 + k ∨ (a = 1 ∧ b = 8) ∨ a = 7 ∨ a = 17) ∧ q_cd t A ∧ q_oc t A ∧ q_cb t 9 10 11 R ∧ q_fd t 16 0 [(9, T, q_m1, C)] := by
  have r := q_re16 O 9 (nI T) (-1) (nI C)
  have hre : f_BA_refuse O (9 : Int32) (nI T) (nI C) = (0, f_RE_set O 16 9 (nI T) (-1) (nI C)) := rfl
  rw [hre]
  dsimp only
  generalize f_RE_set O 16 9 (nI T) (-1) (nI C) = X at *
  obtain ⟨r0, r1, r2, r3, r4, r5⟩ := r
  obtain ⟨q1, V, x1, x2, x3, x4⟩ := qc_74 w (q_cd_out r1 (fun a b q => by omega) cd) hk (nI T) (nI C) f o p h
  rw [x1]
  refine ⟨⟨r0, trivial⟩, q1, V, rfl, fun a b hab => by rw [x2 a b (by omega), r1 a b (by omega)], x3, x4, q_cb_out x2 (fun a b q => by omega) (q_cb_out r1 (fun a b q => by omega) cb), ?_⟩
  exact ⟨(x2 _ _ (by omega)).trans r2, (x2 _ _ (by omega)).trans r3, (x2 _ _ (by omega)).trans (r4.trans q_m1_e.symm), (x2 _ _ (by omega)).trans r5⟩
theorem qc_frmB {O A R U : am_M} {k T C : Nat} {f o p h : Int32} (w : q_wd A) (wB : q_wd (q_fm A k f o p h)) (weB : q_we (q_fm A k f o p h) R) (cd : q_cd O (q_fm A k f o p h)) (oc : q_oc O (q_fm A k f o p h)) (hk : k < 24) (cb : q_cb O 9 10 11 R) (bf : q_cb O 13 14 15 R) (uc : q_uc O U) (uw : q_uw U) : p_BA_settle O ∧ p_BA_changeFormula_74 (f_BA_settle O).2 (nI T) (nI C) f o p h (20 + k) (A 214 k) (A 215 k) (A 216 k) (A 217 k) (f_BA_settle O).1 ∧ ∃ t, f_BA_changeFormula_74 (f_BA_settle O).2 (nI T) (nI C) f o p h (20 + k) (A 214 k) (A 215 k) (A 216 k) (A 217 k) (f_BA_settle O).1 = (q_good (q_brk (q_fm A k f o p h) U (q_reck (q_fm A k f o p h) R)), t) ∧ q_out O t (fun a b => (9 ≤ a ∧ a ≤ 11) ∨ a = 16 ∨ a = 19 ∨ a = 20 + k ∨ (a = 1 ∧ b = 8) ∨ a = 7 ∨ a = 17) ∧ q_cd t (q_pick (q_brk (q_fm A k f o p h) U (q_reck (q_fm A k f o p h) R)) (q_fm A k f o p h) A) ∧ q_oc t (q_pick (q_brk (q_fm A k f o p h) U (q_reck (q_fm A k f o p h) R)) (q_fm A k f o p h) A) ∧ q_cb t 9 10 11 (q_pick (q_brk (q_fm A k f o p h) U (q_reck (q_fm A k f o p h) R)) (q_reck (q_fm A k f o p h) R) R) ∧ q_fd t 16 0 (q_brk (q_fm A k f o p h) U (q_reck (q_fm A k f o p h) R)) := by
  obtain ⟨p4, V, v1, v2, v3, v4⟩ := qs_settle cd oc wB weB cb uc uw bf
  rw [v1]
  dsimp only
  have cdV := q_cd_out v2 (fun a b q => by omega) cd
  rcases q_good_c (q_brk (q_fm A k f o p h) U (q_reck (q_fm A k f o p h) R)) with ⟨g1, g2, g3⟩ | ⟨g1, g2, g3⟩
  · rw [g3] at v3
    rw [g2, g3, g3]
    refine ⟨p4, ⟨fun q => absurd q i10, fun _ => ⟨Or.inr rfl, trivial⟩⟩, V, ?_, fun a b hab => v2 a b (by omega), cdV, q_oc_out v2 (fun a b q => by omega) oc, v3, v4⟩
    unfold f_BA_changeFormula_74
    rw [if_neg i10]
  · obtain ⟨q1, X, x1, x2, x3, x4⟩ := qc_74 w cdV hk (nI T) (nI C) f o p h
    rw [g3] at v3
    rw [g2, g3, g3, x1]
    exact ⟨p4, q1, X, rfl, fun a b hab => by rw [x2 a b (by omega), v2 a b (by omega)], x3, x4, q_cb_out x2 (fun a b q => by omega) v3, q_fd_out x2 (fun i j q => by omega) v4⟩
end
