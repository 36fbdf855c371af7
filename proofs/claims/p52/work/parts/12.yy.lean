noncomputable section
-- addRule: the new rule, written and settled
def q_a1 (S : am_M) (x1 : Int32) : am_M := am_set S 222 ((S 207 17)).toNatClampNeg x1
def q_a2 (S : am_M) (x1 x2 : Int32) : am_M := am_set (q_a1 S x1) 223 (((q_a1 S x1) 207 17)).toNatClampNeg x2
def q_a3 (S : am_M) (x1 x2 x3 : Int32) : am_M := am_set (q_a2 S x1 x2) 224 (((q_a2 S x1 x2) 207 17)).toNatClampNeg x3
def q_a4 (S : am_M) (x1 x2 x3 x4 : Int32) : am_M := am_set (q_a3 S x1 x2 x3) 225 (((q_a3 S x1 x2 x3) 207 17)).toNatClampNeg x4
def q_a5 (S : am_M) (x1 x2 x3 x4 x5 : Int32) : am_M := am_set (q_a4 S x1 x2 x3 x4) 226 (((q_a4 S x1 x2 x3 x4) 207 17)).toNatClampNeg x5
def q_a6 (S : am_M) (x1 x2 x3 x4 x5 : Int32) : am_M := am_set (q_a5 S x1 x2 x3 x4 x5) 227 (((q_a5 S x1 x2 x3 x4 x5) 207 17)).toNatClampNeg (0 : Int32)
def q_a7 (S : am_M) (x1 x2 x3 x4 x5 : Int32) : am_M := am_set (q_a6 S x1 x2 x3 x4 x5) 207 17 (((q_a6 S x1 x2 x3 x4 x5) 207 17) + (1 : Int32))
theorem qm_f115 (s : am_M) (x1 x2 x3 x4 x5 x6 x7 y1 : Int32) : f_MO_addRule_115 s x1 x2 x3 x4 x5 x6 x7 y1 = (if (f_MO_holds s y1).1 = 0 then ((0 : Int32), (f_MO_holds s y1).2) else (if (f_MO_isKept (q_a7 (f_MO_saves (f_MO_holds s y1).2 (6 : Int32)) x1 x2 x3 x4 x5)).1 = 0 then ((-1 : Int32), (am_set (f_MO_isKept (q_a7 (f_MO_saves (f_MO_holds s y1).2 (6 : Int32)) x1 x2 x3 x4 x5)).2 207 17 (((f_MO_isKept (q_a7 (f_MO_saves (f_MO_holds s y1).2 (6 : Int32)) x1 x2 x3 x4 x5)).2 207 17) - (1 : Int32)))) else ((((f_MO_isChanged (f_MO_isKept (q_a7 (f_MO_saves (f_MO_holds s y1).2 (6 : Int32)) x1 x2 x3 x4 x5)).2 (1 : Int32)).2 207 17) - (1 : Int32)), (f_MO_isChanged (f_MO_isKept (q_a7 (f_MO_saves (f_MO_holds s y1).2 (6 : Int32)) x1 x2 x3 x4 x5)).2 (1 : Int32)).2))) := rfl
theorem qm_p115 (s : am_M) (x1 x2 x3 x4 x5 x6 x7 y1 : Int32) : p_MO_addRule_115 s x1 x2 x3 x4 x5 x6 x7 y1 = ((((f_MO_holds s y1).1 = 0) → True) ∧ (¬ ((f_MO_holds s y1).1 = 0) → p_MO_saves (f_MO_holds s y1).2 (6 : Int32) ∧ (vp_in ((f_MO_saves (f_MO_holds s y1).2 (6 : Int32)) 207 17) 8 ∧ (vp_in ((q_a1 (f_MO_saves (f_MO_holds s y1).2 (6 : Int32)) x1) 207 17) 8 ∧ (vp_in ((q_a2 (f_MO_saves (f_MO_holds s y1).2 (6 : Int32)) x1 x2) 207 17) 8 ∧ (vp_in ((q_a3 (f_MO_saves (f_MO_holds s y1).2 (6 : Int32)) x1 x2 x3) 207 17) 8 ∧ (vp_in ((q_a4 (f_MO_saves (f_MO_holds s y1).2 (6 : Int32)) x1 x2 x3 x4) 207 17) 8 ∧ (vp_in ((q_a5 (f_MO_saves (f_MO_holds s y1).2 (6 : Int32)) x1 x2 x3 x4 x5) 207 17) 8 ∧ (p_MO_isKept (q_a7 (f_MO_saves (f_MO_holds s y1).2 (6 : Int32)) x1 x2 x3 x4 x5) ∧ ((((f_MO_isKept (q_a7 (f_MO_saves (f_MO_holds s y1).2 (6 : Int32)) x1 x2 x3 x4 x5)).1 = 0) → True) ∧ (¬ ((f_MO_isKept (q_a7 (f_MO_saves (f_MO_holds s y1).2 (6 : Int32)) x1 x2 x3 x4 x5)).1 = 0) → p_MO_isChanged (f_MO_isKept (q_a7 (f_MO_saves (f_MO_holds s y1).2 (6 : Int32)) x1 x2 x3 x4 x5)).2 (1 : Int32) ∧ (True)))))))))))) := rfl
def q_ru (s : am_M) (n : Nat) (x1 x2 x3 x4 x5 : Int32) : am_M := am_set (am_set (am_set (am_set (am_set s (44 + n) 0 x1) (44 + n) 1 x2) (44 + n) 2 x3) (44 + n) 3 x4) (44 + n) 4 x5
def q_rm (s : am_M) (n : Nat) (x1 x2 x3 x4 x5 : Int32) : am_M := am_set (am_set (am_set (am_set (am_set (am_set s 222 n x1) 223 n x2) 224 n x3) 225 n x4) 226 n x5) 227 n 0
theorem q_ru_o {s : am_M} {n : Nat} {x1 x2 x3 x4 x5 : Int32} {a b : Nat} (h : a ≠ 44 + n ∨ 4 < b) : q_ru s n x1 x2 x3 x4 x5 a b = s a b := by
  unfold q_ru
  rw [am_set_p (by omega), am_set_p (by omega), am_set_p (by omega), am_set_p (by omega), am_set_p (by omega)]
theorem q_rm_o {s : am_M} {n : Nat} {x1 x2 x3 x4 x5 : Int32} {a b : Nat} (h : (a < 222 ∨ 227 < a) ∨ b ≠ n) : q_rm s n x1 x2 x3 x4 x5 a b = s a b := by
  unfold q_rm
  rw [am_set_p (by omega), am_set_p (by omega), am_set_p (by omega), am_set_p (by omega), am_set_p (by omega), am_set_p (by omega)]
theorem q_ru_v (s : am_M) (n : Nat) (x1 x2 x3 x4 x5 : Int32) : q_ru s n x1 x2 x3 x4 x5 (44 + n) 0 = x1 ∧ q_ru s n x1 x2 x3 x4 x5 (44 + n) 1 = x2 ∧ q_ru s n x1 x2 x3 x4 x5 (44 + n) 2 = x3 ∧ q_ru s n x1 x2 x3 x4 x5 (44 + n) 3 = x4 ∧ q_ru s n x1 x2 x3 x4 x5 (44 + n) 4 = x5 := by
  unfold q_ru
  refine ⟨?_, ?_, ?_, ?_, am_set_q⟩
  · rw [am_set_p (by omega), am_set_p (by omega), am_set_p (by omega), am_set_p (by omega)]; exact am_set_q
  · rw [am_set_p (by omega), am_set_p (by omega), am_set_p (by omega)]; exact am_set_q
  · rw [am_set_p (by omega), am_set_p (by omega)]; exact am_set_q
  · rw [am_set_p (by omega)]; exact am_set_q
theorem q_rm_v (s : am_M) (n : Nat) (x1 x2 x3 x4 x5 : Int32) : q_rm s n x1 x2 x3 x4 x5 222 n = x1 ∧ q_rm s n x1 x2 x3 x4 x5 223 n = x2 ∧ q_rm s n x1 x2 x3 x4 x5 224 n = x3 ∧ q_rm s n x1 x2 x3 x4 x5 225 n = x4 ∧ q_rm s n x1 x2 x3 x4 x5 226 n = x5 ∧ q_rm s n x1 x2 x3 x4 x5 227 n = 0 := by
  unfold q_rm
  refine ⟨?_, ?_, ?_, ?_, ?_, am_set_q⟩
  · rw [am_set_p (by omega), am_set_p (by omega), am_set_p (by omega), am_set_p (by omega), am_set_p (by omega)]; exact am_set_q
  · rw [am_set_p (by omega), am_set_p (by omega), am_set_p (by omega), am_set_p (by omega)]; exact am_set_q
  · rw [am_set_p (by omega), am_set_p (by omega), am_set_p (by omega)]; exact am_set_q
  · rw [am_set_p (by omega), am_set_p (by omega)]; exact am_set_q
  · rw [am_set_p (by omega)]; exact am_set_q
theorem q_a7_e {S : am_M} {n : Nat} (h : S 207 17 = nI n) (hn : n < 8) (x1 x2 x3 x4 x5 : Int32) : (q_a1 S x1) 207 17 = nI n ∧ (q_a2 S x1 x2) 207 17 = nI n ∧ (q_a3 S x1 x2 x3) 207 17 = nI n ∧ (q_a4 S x1 x2 x3 x4) 207 17 = nI n ∧ (q_a5 S x1 x2 x3 x4 x5) 207 17 = nI n ∧ q_a7 S x1 x2 x3 x4 x5 = am_set (q_rm S n x1 x2 x3 x4 x5) 207 17 (nI (n + 1)) := by
  have e : (nI n).toNatClampNeg = n := nI_clamp (by omega)
  have e1 : q_a1 S x1 = am_set S 222 n x1 := by unfold q_a1; rw [h, e]
  have v1 : (q_a1 S x1) 207 17 = nI n := by rw [e1, am_set_p (by omega), h]
  have e2 : q_a2 S x1 x2 = am_set (q_a1 S x1) 223 n x2 := by unfold q_a2; rw [v1, e]
  have v2 : (q_a2 S x1 x2) 207 17 = nI n := by rw [e2, am_set_p (by omega), v1]
  have e3 : q_a3 S x1 x2 x3 = am_set (q_a2 S x1 x2) 224 n x3 := by unfold q_a3; rw [v2, e]
  have v3 : (q_a3 S x1 x2 x3) 207 17 = nI n := by rw [e3, am_set_p (by omega), v2]
  have e4 : q_a4 S x1 x2 x3 x4 = am_set (q_a3 S x1 x2 x3) 225 n x4 := by unfold q_a4; rw [v3, e]
  have v4 : (q_a4 S x1 x2 x3 x4) 207 17 = nI n := by rw [e4, am_set_p (by omega), v3]
  have e5 : q_a5 S x1 x2 x3 x4 x5 = am_set (q_a4 S x1 x2 x3 x4) 226 n x5 := by unfold q_a5; rw [v4, e]
  have v5 : (q_a5 S x1 x2 x3 x4 x5) 207 17 = nI n := by rw [e5, am_set_p (by omega), v4]
  have e6 : q_a6 S x1 x2 x3 x4 x5 = am_set (q_a5 S x1 x2 x3 x4 x5) 227 n 0 := by unfold q_a6; rw [v5, e]
  have v6 : (q_a6 S x1 x2 x3 x4 x5) 207 17 = nI n := by rw [e6, am_set_p (by omega), v5]
  refine ⟨v1, v2, v3, v4, v5, ?_⟩
  unfold q_a7
  rw [v6, e6, e5, e4, e3, e2, e1]
  show _ = am_set (q_rm S n x1 x2 x3 x4 x5) 207 17 (nI (n + 1))
  rw [← nI_add]; rfl
/-- the rules with one more -/
theorem q_ru_uc {s S U : am_M} {n : Nat} {x1 x2 x3 x4 x5 y : Int32} (hn : n < 8) (uc : q_uc s U) (h5 : U 227 n = 0) (hS : q_out (q_ru s n x1 x2 x3 x4 x5) S (fun a _ => a = 13 ∨ a = 14 ∨ a = 15)) : q_uc (am_set S 1 6 y) (am_set (q_rm U n x1 x2 x3 x4 x5) 207 17 y) := by
  obtain ⟨r0, r1, r2, r3, r4⟩ := q_ru_v s n x1 x2 x3 x4 x5
  obtain ⟨m0, m1, m2, m3, m4, m5⟩ := q_rm_v U n x1 x2 x3 x4 x5
  refine ⟨by rw [am_set_q, am_set_q], fun r j hr hj => ?_⟩
  rw [am_set_p (by omega), am_set_p (by omega), hS _ _ (by omega)]
  by_cases e : r = n
  · subst e
    have ej : j = 0 ∨ j = 1 ∨ j = 2 ∨ j = 3 ∨ j = 4 ∨ j = 5 := by omega
    rcases ej with rfl | rfl | rfl | rfl | rfl | rfl
    · rw [r0]; exact m0.symm
    · rw [r1]; exact m1.symm
    · rw [r2]; exact m2.symm
    · rw [r3]; exact m3.symm
    · rw [r4]; exact m4.symm
    · rw [q_ru_o (by omega), uc.2 r 5 hr hj]; exact h5.trans m5.symm
  · rw [q_ru_o (by omega), q_rm_o (by omega)]; exact uc.2 r j hr hj
theorem q_rm_um {s U : am_M} {n : Nat} {x1 x2 x3 x4 x5 y : Int32} (um : q_um s U) : q_um (am_set (q_rm s n x1 x2 x3 x4 x5) 207 17 y) (am_set (q_rm U n x1 x2 x3 x4 x5) 207 17 y) := by
  obtain ⟨l0, l1, l2, l3, l4, l5⟩ := q_rm_v s n x1 x2 x3 x4 x5
  obtain ⟨m0, m1, m2, m3, m4, m5⟩ := q_rm_v U n x1 x2 x3 x4 x5
  refine ⟨by rw [am_set_q, am_set_q], fun a h1 h2 => ?_⟩
  rw [am_set_o (by omega), am_set_o (by omega)]
  funext b
  by_cases e : b = n
  · subst e
    have ea : a = 222 ∨ a = 223 ∨ a = 224 ∨ a = 225 ∨ a = 226 ∨ a = 227 := by omega
    rcases ea with rfl | rfl | rfl | rfl | rfl | rfl
    · rw [l0, m0]
    · rw [l1, m1]
    · rw [l2, m2]
    · rw [l3, m3]
    · rw [l4, m4]
    · rw [l5, m5]
  · rw [q_rm_o (Or.inr e), q_rm_o (Or.inr e), um.2 a h1 h2]
/-- written, yet not counted: a refused rule -/
theorem q_rm_uw {U : am_M} {n m : Nat} {x1 x2 x3 x4 x5 : Int32} (hn : n < 8) (hU : U 207 17 = nI n) (uw : q_uw U) (hm : m = n ∨ (m = n + 1 ∧ (∃ t a b, t < 4 ∧ a < 6 ∧ b < 6 ∧ x1 = nI t ∧ x2 = nI a ∧ x4 = nI b) ∧ -9999 ≤ x5.toInt ∧ x5.toInt ≤ 9999)) : q_uw (am_set (q_rm U n x1 x2 x3 x4 x5) 207 17 (nI m)) := by
  obtain ⟨m0, m1, m2, m3, m4, m5⟩ := q_rm_v U n x1 x2 x3 x4 x5
  have e : q_c (nI m) = m := nI_clamp (by omega)
  have en : q_c (U 207 17) = n := by rw [hU]; exact nI_clamp (by omega)
  refine ⟨by rw [am_set_q, e]; exact ⟨rfl, by omega⟩, fun r hr => ?_⟩
  have h := uw.2 r hr
  rw [en] at h
  rw [am_set_q, e, am_set_p (by omega), am_set_p (by omega), am_set_p (by omega), am_set_p (by omega), am_set_p (by omega)]
  by_cases c : r = n
  · subst c
    rw [m0, m1, m3, m4, m5]
    refine ⟨fun q => ?_, Or.inl rfl, fun _ => rfl⟩
    rcases hm with z | ⟨-, z⟩
    · omega
    · exact z
  · rw [q_rm_o (Or.inr c), q_rm_o (Or.inr c), q_rm_o (Or.inr c), q_rm_o (Or.inr c), q_rm_o (Or.inr c)]
    have m1 : m ≤ n + 1 := by rcases hm with z | ⟨z, -⟩ <;> omega
    have m2 : n ≤ m := by rcases hm with z | ⟨z, -⟩ <;> omega
    exact ⟨fun q => h.1 (by clear h hm; omega), h.2.1, fun q => h.2.2 (by clear h hm; omega)⟩
/-- the class's part -/
theorem qc_rule {s A R U : am_M} {n : Nat} {x1 x2 x3 x4 x5 : Int32} (cd : q_cd s A) (oc : q_oc s A) (w : q_wd A) (e : q_we A R) (cb : q_cb s 9 10 11 R) (uc : q_uc s U) (hU : U 207 17 = nI n) (hn : n < 8) (h5 : U 227 n = 0) (uw1 : q_uw (am_set (q_rm U n x1 x2 x3 x4 x5) 207 17 (nI (n + 1)))) : p_BA_makeRule s x1 x2 x3 x4 x5 ∧ ∃ t, f_BA_makeRule s x1 x2 x3 x4 x5 = ((if q_good (q_brk A (am_set (q_rm U n x1 x2 x3 x4 x5) 207 17 (nI (n + 1))) (q_reck A R)) = 0 then -1 else nI n), t) ∧ q_out s t (fun a b => (9 ≤ a ∧ a ≤ 11) ∨ (13 ≤ a ∧ a ≤ 16) ∨ a = 19 ∨ a = 44 + n ∨ (a = 1 ∧ b = 6)) ∧ q_uc t (q_pick (q_brk A (am_set (q_rm U n x1 x2 x3 x4 x5) 207 17 (nI (n + 1))) (q_reck A R)) (am_set (q_rm U n x1 x2 x3 x4 x5) 207 17 (nI (n + 1))) (am_set (q_rm U n x1 x2 x3 x4 x5) 207 17 (nI n))) ∧ q_cb t 9 10 11 (q_pick (q_brk A (am_set (q_rm U n x1 x2 x3 x4 x5) 207 17 (nI (n + 1))) (q_reck A R)) (q_reck A R) R) ∧ q_fd t 16 0 (q_brk A (am_set (q_rm U n x1 x2 x3 x4 x5) 207 17 (nI (n + 1))) (q_reck A R)) := by
  have e16 : s 1 6 = nI n := uc.1.trans hU
  have eN : (nI n).toNatClampNeg = n := nI_clamp (by omega)
  have hru : f_BA_rule s (nI n) = 44 + n := by
    unfold f_BA_rule
    rw [if_neg (qz (by omega)), if_pos (qt_8 (by omega)), eN, qb_lk (by omega)]
  have pru : p_BA_rule s (nI n) := ⟨fun q => absurd q (qz (by omega)), fun _ => ⟨fun _ => ⟨vp_in_nI hn (by omega), by rw [eN, qb_lk (by omega)]; exact ⟨by omega, qb_sh (by omega)⟩, trivial⟩, fun _ => trivial⟩⟩
  have hfold : am_set (am_set (am_set (am_set (am_set s (44 + n) 0 x1) (44 + n) 1 x2) (44 + n) 2 x3) (44 + n) 3 x4) (44 + n) 4 x5 = q_ru s n x1 x2 x3 x4 x5 := rfl
  have o0 : q_out s (q_ru s n x1 x2 x3 x4 x5) (fun a b => a = 44 + n) := fun a b hab => q_ru_o (Or.inl hab)
  obtain ⟨p1, S, s1, s2, s3⟩ := qk_keep (q_cb_out o0 (fun a b q => by omega) cb)
  have eS : S 1 6 = nI n := by rw [s2 _ _ (by omega), o0 _ _ (by omega), e16]
  have e1 : nI n + (1 : Int32) = nI (n + 1) := nI_add n 1
  have o1 : q_out s (am_set S 1 6 (nI (n + 1))) (fun a b => (13 ≤ a ∧ a ≤ 15) ∨ a = 44 + n ∨ (a = 1 ∧ b = 6)) := fun a b hab => by
    rw [am_set_p (by omega), s2 a b (by omega), o0 a b (by omega)]
  have o4 : q_out S (am_set S 1 6 (nI (n + 1))) (fun a b => a = 1 ∧ b = 6) := fun a b hab => am_set_p (by omega)
  obtain ⟨p2, T, t1, t2, t3, t4⟩ := qs_settle (q_cd_out o1 (fun a b q => by omega) cd) (q_oc_out o1 (fun a b q => by omega) oc) w e (q_cb_out o1 (fun a b q => by omega) cb) (q_ru_uc hn uc h5 s2) uw1 (q_cb_out2 o4 (fun a b q => by omega) s3)
  have uT := q_uc_out t2 (fun a b q => by omega) (q_ru_uc (y := nI (n + 1)) hn uc h5 s2)
  have eT : T 1 6 = nI (n + 1) := by rw [t2 _ _ (by omega)]; exact am_set_q
  have oT : q_out s T (fun a b => (9 ≤ a ∧ a ≤ 11) ∨ (13 ≤ a ∧ a ≤ 16) ∨ a = 19 ∨ a = 44 + n ∨ (a = 1 ∧ b = 6)) := fun a b hab => by rw [t2 a b (by omega), o1 a b (by omega)]
  unfold p_BA_makeRule f_BA_makeRule
  rw [e16, hru, hfold, s1, eS, e1, t1]
  refine ⟨⟨pru, ⟨by omega, qb_sh (by omega)⟩, p1, p2, fun _ => trivial, fun _ => trivial⟩, ?_⟩
  rcases q_good_c (q_brk A (am_set (q_rm U n x1 x2 x3 x4 x5) 207 17 (nI (n + 1))) (q_reck A R)) with ⟨g1, g2, g3⟩ | ⟨g1, g2, g3⟩
  · rw [g3] at t3
    rw [g2, g3, g3]
    dsimp only
    rw [if_neg i10, if_neg i10]
    exact ⟨T, rfl, oT, uT, t3, t4⟩
  · rw [g3] at t3
    rw [g2, g3, g3]
    dsimp only
    have em : nI (n + 1) - (1 : Int32) = nI n := by rw [← e1, Int32.sub_eq_add_neg, Int32.add_assoc]; exact Int32.add_zero _
    rw [if_pos rfl, if_pos rfl, eT, em]
    have hT : ∀ r j, r < 8 → j < 6 → T (44 + r) j = q_rm U n x1 x2 x3 x4 x5 (222 + j) r := fun r j hr hj => by
      have h := uT.2 r j hr hj
      rw [am_set_p (by omega)] at h; exact h
    refine ⟨_, rfl, fun a b hab => by rw [am_set_p (by omega), oT a b hab], ⟨by rw [am_set_q, am_set_q], fun r j hr hj => by rw [am_set_p (by omega), am_set_p (by omega)]; exact hT r j hr hj⟩, q_cb_set (by omega) t3, q_fd_out (P := fun a b => a = 1 ∧ b = 6) (fun a b hab => am_set_p (by omega)) (fun i j q => by omega) t4⟩
/-- the model's part, from a memory whose 'thrown' is 0 -/
theorem qm_rule {u A R U : am_M} {n : Nat} {x1 x2 x3 x4 x5 : Int32} (x6 x7 : Int32) (md : q_md u A) (w : q_wd A) (e : q_we A R) (mb : q_mb u R) (um : q_um u U) (hU : U 207 17 = nI n) (hn : n < 8) (uw1 : q_uw (am_set (q_rm U n x1 x2 x3 x4 x5) 207 17 (nI (n + 1)))) : p_MO_addRule_115 u x1 x2 x3 x4 x5 x6 x7 0 ∧ ∃ t, f_MO_addRule_115 u x1 x2 x3 x4 x5 x6 x7 0 = ((if q_good (q_brk A (am_set (q_rm U n x1 x2 x3 x4 x5) 207 17 (nI (n + 1))) (q_reck A R)) = 0 then -1 else nI n), t) ∧ q_out u t (fun a b => (a = 207 ∧ (b = 0 ∨ b = 15 ∨ b = 17 ∨ (31 ≤ b ∧ b ≤ 34) ∨ b = 38)) ∨ (220 ≤ a ∧ a ≤ 221) ∨ (222 ≤ a ∧ a ≤ 230) ∨ (a = 233 ∧ 4320 ≤ b) ∨ (a = 234 ∧ 720 ≤ b) ∨ (a = 235 ∧ 24 ≤ b)) ∧ t 207 0 = 0 ∧ q_um t (q_pick (q_brk A (am_set (q_rm U n x1 x2 x3 x4 x5) 207 17 (nI (n + 1))) (q_reck A R)) (am_set (q_rm U n x1 x2 x3 x4 x5) 207 17 (nI (n + 1))) (am_set (q_rm U n x1 x2 x3 x4 x5) 207 17 (nI n))) ∧ q_mb t (q_pick (q_brk A (am_set (q_rm U n x1 x2 x3 x4 x5) 207 17 (nI (n + 1))) (q_reck A R)) (q_reck A R) R) ∧ q_fd t 207 31 (q_brk A (am_set (q_rm U n x1 x2 x3 x4 x5) 207 17 (nI (n + 1))) (q_reck A R)) ∧ t 207 38 = (if q_good (q_brk A (am_set (q_rm U n x1 x2 x3 x4 x5) 207 17 (nI (n + 1))) (q_reck A R)) = 0 then u 207 38 else 0) := by
  rw [qm_f115, qm_p115, pr_holds0]
  dsimp only
  obtain ⟨p1, S, s1, s2, s3⟩ := qm_saves (l := 6) (by omega) (q_mb_set (i := 207) (k := 0) (x := 0) (by omega) mb)
  have e6 : nI 6 = (6 : Int32) := rfl
  rw [e6] at p1 s1
  rw [s1]
  have oS : q_out u S (fun a b => (a = 207 ∧ b = 0) ∨ (a = 233 ∧ 4320 ≤ b) ∨ (a = 234 ∧ 720 ≤ b) ∨ (a = 235 ∧ 24 ≤ b)) := fun a b hab => by rw [s2 a b (by omega), am_set_p (by omega)]
  have eS : S 207 17 = nI n := by rw [oS _ _ (by omega), um.1, hU]
  obtain ⟨v1, v2, v3, v4, v5, v7⟩ := q_a7_e eS hn x1 x2 x3 x4 x5
  have hv : vp_in (nI n) 8 := vp_in_nI hn (by omega)
  rw [eS, v1, v2, v3, v4, v5, v7]
  have umS := q_um_out oS (fun a b q => by omega) um
  have o1 : q_out S (am_set (q_rm S n x1 x2 x3 x4 x5) 207 17 (nI (n + 1))) (fun a b => (222 ≤ a ∧ a ≤ 227) ∨ (a = 207 ∧ b = 17)) := fun a b hab => by rw [am_set_p (by omega), q_rm_o (by omega)]
  have o2 : q_out u (am_set (q_rm S n x1 x2 x3 x4 x5) 207 17 (nI (n + 1))) (fun a b => (a = 207 ∧ (b = 0 ∨ b = 17)) ∨ (222 ≤ a ∧ a ≤ 227) ∨ (a = 233 ∧ 4320 ≤ b) ∨ (a = 234 ∧ 720 ≤ b) ∨ (a = 235 ∧ 24 ≤ b)) := fun a b hab => by rw [o1 a b (by omega), oS a b (by omega)]
  obtain ⟨p2, T, t1, t2, t3, t4⟩ := qm_isKept (q_md_out o2 (fun a b q => by omega) md) w e (q_mb_out o2 (fun a b q => by omega) mb) (q_rm_um (y := nI (n + 1)) umS) uw1 (q_mh_out o1 (fun a b q => by omega) s3)
  have uT := q_um_out t2 (fun a b q => by omega) (q_rm_um (n := n) (x1 := x1) (x2 := x2) (x3 := x3) (x4 := x4) (x5 := x5) (y := nI (n + 1)) umS)
  have eT : T 207 17 = nI (n + 1) := by rw [uT.1]; exact am_set_q
  have e1 : nI n + (1 : Int32) = nI (n + 1) := nI_add n 1
  have em : nI (n + 1) - (1 : Int32) = nI n := by rw [← e1, Int32.sub_eq_add_neg, Int32.add_assoc]; exact Int32.add_zero _
  have eS0 : S 207 0 = 0 := by rw [s2 _ _ (by omega)]; exact am_set_q
  have oT : q_out u T (fun a b => (a = 207 ∧ (b = 0 ∨ b = 15 ∨ b = 17 ∨ (31 ≤ b ∧ b ≤ 34) ∨ b = 38)) ∨ (220 ≤ a ∧ a ≤ 221) ∨ (222 ≤ a ∧ a ≤ 230) ∨ (a = 233 ∧ 4320 ≤ b) ∨ (a = 234 ∧ 720 ≤ b) ∨ (a = 235 ∧ 24 ≤ b)) := fun a b hab => by rw [t2 a b (by omega), o2 a b (by omega)]
  have eT0 : T 207 0 = 0 := by rw [t2 _ _ (by omega), o1 _ _ (by omega), eS0]
  have e38 : T 207 38 = u 207 38 := by rw [t2 _ _ (by omega), o2 _ _ (by omega)]
  rw [t1]
  obtain ⟨p3, t, c1, c2, c3⟩ := @qm_chg T (q_brk A (am_set (q_rm U n x1 x2 x3 x4 x5) 207 17 (nI (n + 1))) (q_reck A R))
  rcases q_good_c (q_brk A (am_set (q_rm U n x1 x2 x3 x4 x5) 207 17 (nI (n + 1))) (q_reck A R)) with ⟨g1, g2, g3⟩ | ⟨g1, g2, g3⟩
  · rw [g3] at t3
    rw [g2] at p3 c1 c3 ⊢
    rw [g3, g3]
    dsimp only
    rw [c1]
    dsimp only
    rw [if_neg i10, if_neg i10, if_neg i10, if_neg i10, c2 _ _ (by omega), eT, em]
    rw [if_neg i10] at c3
    exact ⟨⟨fun _ => trivial, fun _ => ⟨p1, hv, hv, hv, hv, hv, hv, p2, fun _ => trivial, fun _ => ⟨p3, trivial⟩⟩⟩, t, rfl, fun a b hab => by rw [c2 a b (by omega), oT a b hab], by rw [c2 _ _ (by omega), eT0], q_um_out c2 (fun a b q => by omega) uT, q_mb_out c2 (fun a b q => by omega) t3, q_fd_out c2 (fun i j q => by omega) t4, c3⟩
  · rw [g3] at t3
    rw [g2, g3, g3]
    dsimp only
    rw [if_neg i10, if_pos rfl, if_pos rfl, if_pos rfl, eT, em]
    refine ⟨⟨fun _ => trivial, fun _ => ⟨p1, hv, hv, hv, hv, hv, hv, p2, fun _ => trivial, fun q => absurd rfl q⟩⟩, _, rfl, fun a b hab => by rw [am_set_p (by omega), oT a b hab], by rw [am_set_p (by omega), eT0], ⟨by rw [am_set_q, am_set_q], fun a h1 h2 => ?_⟩, q_mb_set (by omega) t3, q_fd_out (P := fun a b => a = 207 ∧ b = 17) (fun a b hab => am_set_p (by omega)) (fun i j q => by omega) t4, by rw [am_set_p (by omega), e38]⟩
    have h := uT.2 a h1 h2
    rw [am_set_o (by omega)] at h
    rw [am_set_o (by omega), am_set_o (by omega), h]
end
