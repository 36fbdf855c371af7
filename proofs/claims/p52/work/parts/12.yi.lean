noncomputable section
-- the class looks for what is broken
def q_uc (s U : am_M) : Prop := s 1 6 = U 207 17 ∧ ∀ r j, r < 8 → j < 6 → s (44 + r) j = U (222 + j) r
def q_um (s U : am_M) : Prop := s 207 17 = U 207 17 ∧ ∀ a, 222 ≤ a → a ≤ 227 → s a = U a
def q_uw (U : am_M) : Prop := (U 207 17 = nI (q_c (U 207 17)) ∧ q_c (U 207 17) ≤ 8) ∧ (∀ r, r < 8 → (r < q_c (U 207 17) → (∃ t a b, t < 4 ∧ a < 6 ∧ b < 6 ∧ U 222 r = nI t ∧ U 223 r = nI a ∧ U 225 r = nI b) ∧ -9999 ≤ (U 226 r).toInt ∧ (U 226 r).toInt ≤ 9999) ∧ (U 227 r = 0 ∨ U 227 r = 1) ∧ (q_c (U 207 17) ≤ r → U 227 r = 0))
theorem q_x2_p {s U : am_M} (h : q_x2 s U) : q_uc s U ∧ q_um s U ∧ q_uw U := ⟨⟨h.1.1, h.2.1⟩, ⟨h.1.2.1, h.2.2.1⟩, h.1.2.2, h.2.2.2⟩
theorem q_x2_m {s U : am_M} (a : q_uc s U) (b : q_um s U) (c : q_uw U) : q_x2 s U := ⟨⟨a.1, b.1, c.1⟩, a.2, b.2, c.2⟩
theorem q_uc_out {s t U : am_M} {P : Nat → Nat → Prop} (h : q_out s t P) (hP : ∀ a b, P a b → (a = 1 → b ≠ 6) ∧ (a < 44 ∨ 51 < a)) (m : q_uc s U) : q_uc t U := by
  refine ⟨?_, fun r j hr hj => ?_⟩
  · rw [h _ _ (fun q => by have := (hP _ _ q).1 rfl; omega)]; exact m.1
  · rw [h _ _ (fun q => by have := (hP _ _ q).2; omega)]; exact m.2 r j hr hj
theorem q_um_out {s t U : am_M} {P : Nat → Nat → Prop} (h : q_out s t P) (hP : ∀ a b, P a b → (a = 207 → b ≠ 17) ∧ (a < 222 ∨ 227 < a)) (m : q_um s U) : q_um t U := by
  refine ⟨?_, fun a h1 h2 => ?_⟩
  · rw [h _ _ (fun q => by have := (hP _ _ q).1 rfl; omega)]; exact m.1
  · rw [← m.2 a h1 h2]; funext b; exact h _ _ (fun q => by have := (hP _ _ q).2; omega)
theorem qb_lk {r : Nat} (h : r < 8) : am_lk 5 r = 44 + r := (by decide +kernel : ∀ r, r < 8 → am_lk 5 r = 44 + r) r h
theorem qb_sh {r : Nat} (h : r < 8) : am_sh (44 + r) = (0, 7, 6) := (by decide +kernel : ∀ r, r < 8 → am_sh (44 + r) = (0, 7, 6)) r h
theorem q_fi_y {P : Nat → Prop} [DecidablePred P] {d j : Nat} (h : P j) : q_fi P (d + 1) j = j := if_pos h
theorem q_fi_n {P : Nat → Prop} [DecidablePred P] {d j : Nat} (h : ¬ P j) : q_fi P (d + 1) j = q_fi P d (j + 1) := if_neg h
theorem q_bk0 {A R : am_M} {t r c : Nat} : q_bk A R t r c 0 = true ↔ (A 209 (6 * t + c) = 0 ∧ R 2 (180 * t + 6 * r + c) ≠ -1000000 ∧ (R 2 (180 * t + 6 * r + c) < A 210 (6 * t + c) ∨ A 211 (6 * t + c) < R 2 (180 * t + 6 * r + c))) := decide_eq_true_iff
theorem q_bk1 {A R : am_M} {t r c : Nat} : q_bk A R t r c 1 = true ↔ (A 218 (6 * t + c) ≠ 0 ∧ R 2 (180 * t + 6 * r + c) = -1000000) := decide_eq_true_iff
theorem q_bk2 {A R : am_M} {t r c : Nat} : q_bk A R t r c 2 = true ↔ (A 219 (6 * t + c) ≠ 0 ∧ R 2 (180 * t + 6 * r + c) ≠ -1000000 ∧ q_rep R t r c) := decide_eq_true_iff
theorem q_bk3 {A R : am_M} {t r c : Nat} : q_bk A R t r c 3 = true ↔ (A 209 (6 * t + c) = 1 ∧ R 2 (180 * t + 6 * r + c) ≠ -1000000 ∧ ¬ q_hs R (q_tg A (6 * t + c)) (R 2 (180 * t + 6 * r + c))) := decide_eq_true_iff
theorem qb_rep57 {s R : am_M} (cb : q_cb s 9 10 11 R) {t r c : Nat} (ht : t < 4) (hr : r < 30) (hc : c < 6) (x : Int32) (v : Int32) : ∀ (d j n : Nat), j + d = r → d < n → p_RO_repeats_57 n s 8 x (nI r) (nI c) (nI (t * 30)) v (nI (t * 30 + j)) ∧ f_RO_repeats_57 n s 8 x (nI r) (nI c) (nI (t * 30)) v (nI (t * 30 + j)) = if q_fi (fun i => R 1 (30 * t + i) ≠ 0 ∧ R 2 (180 * t + 6 * i + c) = v) d j < r then 1 else 0 := by
  intro d
  induction d with
  | zero =>
    intro j n h1 h2
    obtain ⟨n, rfl⟩ : ∃ k, n = k + 1 := ⟨n - 1, by omega⟩
    unfold p_RO_repeats_57 f_RO_repeats_57 q_fi
    have c1 : nI (t * 30 + r) ≤ nI (t * 30 + j) := qn_le (by omega) (by omega)
    rw [nI_add, if_pos c1, if_neg (by omega)]
    exact ⟨⟨fun _ => trivial, fun q => absurd c1 q⟩, rfl⟩
  | succ d ih =>
    intro j n h1 h2
    obtain ⟨n, rfl⟩ : ∃ k, n = k + 1 := ⟨n - 1, by omega⟩
    have ih := ih (j + 1) n (by omega) (by omega)
    have c1 : ¬ nI (t * 30 + r) ≤ nI (t * 30 + j) := nI_ge (by omega) (by omega)
    unfold p_RO_repeats_57 f_RO_repeats_57 p_RO_repeats_95 f_RO_repeats_95
    rw [nI_add, if_neg c1, lk_8_1, lk_8_2, nI_clamp (n := t * 30 + j) (by omega), cb.2.1 _ (by omega), qm_6, nI_add, nI_clamp (n := (t * 30 + j) * 6 + c) (by omega), nI_1, show t * 30 + j + 1 = t * 30 + (j + 1) from by omega, show t * 30 + j = 30 * t + j from by omega, show (30 * t + j) * 6 + c = 180 * t + 6 * j + c from by omega]
    have v1 : vp_in (nI (30 * t + j)) 120 := vp_in_nI (by omega) (by omega)
    have v2 : vp_in (nI (180 * t + 6 * j + c)) 720 := vp_in_nI (by omega) (by omega)
    rw [show t * 30 + r = 30 * t + r from by omega] at c1
    by_cases h0 : R 1 (30 * t + j) = 0
    · rw [if_pos h0, q_fi_n (P := fun i => R 1 (30 * t + i) ≠ 0 ∧ R 2 (180 * t + 6 * i + c) = v) (fun q => q.1 h0)]
      exact ⟨⟨fun _ => trivial, fun _ => ⟨⟨by omega, sh_8⟩, ⟨by omega, sh_10⟩, v1, fun _ => ih.1, fun q => absurd h0 q⟩⟩, ih.2⟩
    · have ev : s 11 (180 * t + 6 * j + c) = R 2 (180 * t + 6 * j + c) := cb.2.2 _ (by omega) (by rw [show (180 * t + 6 * j + c) / 6 = 30 * t + j from by omega]; exact h0)
      rw [if_neg h0, ev]
      by_cases h3 : R 2 (180 * t + 6 * j + c) = v
      · rw [if_pos h3, q_fi_y (P := fun i => R 1 (30 * t + i) ≠ 0 ∧ R 2 (180 * t + 6 * i + c) = v) ⟨h0, h3⟩, if_pos (show j < r by omega)]
        exact ⟨⟨fun _ => trivial, fun _ => ⟨⟨by omega, sh_8⟩, ⟨by omega, sh_10⟩, v1, fun q => absurd q h0, fun _ => ⟨⟨by omega, sh_11⟩, v2, fun _ => trivial, fun q => absurd h3 q⟩⟩⟩, rfl⟩
      · rw [if_neg h3, q_fi_n (P := fun i => R 1 (30 * t + i) ≠ 0 ∧ R 2 (180 * t + 6 * i + c) = v) (fun q => h3 q.2)]
        exact ⟨⟨fun _ => trivial, fun _ => ⟨⟨by omega, sh_8⟩, ⟨by omega, sh_10⟩, v1, fun q => absurd q h0, fun _ => ⟨⟨by omega, sh_11⟩, v2, fun q => absurd q h3, fun _ => ih.1⟩⟩⟩, ih.2⟩
theorem qb_rep {s R : am_M} (cb : q_cb s 9 10 11 R) {t r c : Nat} (ht : t < 4) (hr : r < 30) (hc : c < 6) (hh : R 1 (30 * t + r) ≠ 0) : p_RO_repeats s 8 (nI t) (nI r) (nI c) ∧ f_RO_repeats s 8 (nI t) (nI r) (nI c) = if q_rep R t r c then 1 else 0 := by
  have h := qb_rep57 cb ht hr hc (nI t) (R 2 (180 * t + 6 * r + c)) r 0 am_F (by omega) (by rw [am_F_eq]; omega)
  rw [Nat.add_zero] at h
  have ev : s 11 (180 * t + 6 * r + c) = R 2 (180 * t + 6 * r + c) := cb.2.2 _ (by omega) (by rw [show (180 * t + 6 * r + c) / 6 = 30 * t + r from by omega]; exact hh)
  unfold p_RO_repeats f_RO_repeats
  rw [if_neg (qz (by omega)), if_neg (ql_4 ht), if_neg (qz (by omega)), if_neg (ql_30 hr), if_neg (qz (by omega)), if_pos (qt_6 hc), lk_8_2, qm_30, nI_add, qm_6, nI_add, nI_clamp (n := (t * 30 + r) * 6 + c) (by omega), show (t * 30 + r) * 6 + c = 180 * t + 6 * r + c from by omega, ev]
  exact ⟨⟨fun _ => trivial, fun _ => ⟨fun _ => trivial, fun _ => ⟨fun _ => trivial, fun _ => ⟨fun _ => trivial, fun _ => ⟨fun _ => trivial, fun _ => ⟨fun _ => ⟨⟨by omega, sh_8⟩, ⟨by omega, sh_11⟩, vp_in_nI (by omega) (by omega), h.1⟩, fun _ => trivial⟩⟩⟩⟩⟩⟩, h.2⟩
theorem q_b1_b {A R : am_M} {t r c b : Nat} (hb : b < 4) : q_b1 A R t r (4 * c + b) = if q_bk A R t r c b = true then [(1 + b, t, r, c)] else [] := by
  unfold q_b1
  rw [show (4 * c + b) / 4 = c from by omega, show (4 * c + b) % 4 = b from by omega]
theorem q_kd_1 {k t r c : Nat} (h : 1 ≤ k) (h2 : k ≤ 5) : q_kd [(k, t, r, c)] := fun x hx => by rw [List.mem_singleton] at hx; rw [hx]; exact ⟨h, h2⟩
theorem q_one (x : Int32) : x + nI ([] : List q_It).length = x := by show x + nI 0 = x; rw [nI_0, Int32.add_zero]
theorem q_one1 (x : Int32) (y : q_It) : x + nI [y].length = x + 1 := rfl
theorem q_addl (x : Int32) (l m : List q_It) : x + nI l.length + nI m.length = x + nI (l ++ m).length := by
  rw [List.length_append, Int32.add_assoc, nI_add]
theorem qb_136 {s A R : am_M} (cd : q_cd s A) (w : q_wd A) (cb : q_cb s 9 10 11 R) {t r c : Nat} (ht : t < 4) (_hr : r < 30) (hc : c < 6) (x6 : Int32) : p_BA_brokenInCell_136 s (nI t) (nI r) (nI c) (20 + (6 * t + c)) (R 2 (180 * t + 6 * r + c)) x6 ∧ f_BA_brokenInCell_136 s (nI t) (nI r) (nI c) (20 + (6 * t + c)) (R 2 (180 * t + 6 * r + c)) x6 = (x6 + nI (q_b1 A R t r (4 * c + 3)).length, q_F s (q_b1 A R t r (4 * c + 3))) := by
  have hk : 6 * t + c < 24 := by omega
  have f0 := cd.2.2.1 (6 * t + c) hk
  have f3 : s (20 + (6 * t + c)) 3 = A 212 (6 * t + c) := cd.2.2.2 _ 3 hk (by omega) (by omega)
  have rf : (20 + (6 * t + c)) < 207 ∧ am_sh (20 + (6 * t + c)) = (0, 3, 11) := ⟨by omega, qd_sh hk⟩
  unfold p_BA_brokenInCell_136 f_BA_brokenInCell_136
  rw [f0, f3, q_b1_b (by omega)]
  refine ⟨⟨rf, fun _ => ⟨fun _ => trivial, fun _ => ⟨qr_phas _ _ _, fun _ => ⟨q_pset16 _ _ _ _ _, trivial⟩, fun _ => trivial⟩⟩, fun _ => trivial⟩, ?_⟩
  by_cases c1 : A 209 (6 * t + c) = 1
  · rw [if_pos (q_kc_2.mpr c1)]
    by_cases cv : R 2 (180 * t + 6 * r + c) = -1000000
    · rw [if_pos cv, if_neg (fun q => (q_bk3.mp q).2.1 cv), q_one]; rfl
    · have hx := w.2.2.2.1 _ hk c1
      have h4 := w.1.2
      rw [if_neg cv, hx.1, qr_has cb (by omega)]
      by_cases hh : q_hs R (q_tg A (6 * t + c)) (R 2 (180 * t + 6 * r + c))
      · rw [if_pos hh, if_neg i10, if_neg (fun q => (q_bk3.mp q).2.2 hh), q_one]; rfl
      · rw [if_neg hh, if_pos rfl, if_pos (q_bk3.mpr ⟨c1, cv, hh⟩)]; rfl
  · rw [if_neg (fun q => c1 (q_kc_2.mp q)), if_neg (fun q => c1 (q_bk3.mp q).1), q_one]; rfl
theorem q_cd_F {s A : am_M} {l : List q_It} (cd : q_cd s A) : q_cd (q_F s l) A := q_cd_out q_F_o (fun a b q => by omega) cd
theorem q_cb_F {s R : am_M} {l : List q_It} (cb : q_cb s 9 10 11 R) : q_cb (q_F s l) 9 10 11 R := q_cb_out q_F_o (fun a b q => by omega) cb
theorem q_uc_F {s U : am_M} {l : List q_It} (h : q_uc s U) : q_uc (q_F s l) U := q_uc_out q_F_o (fun a b q => by omega) h
theorem qb_94 {s A R : am_M} (cd : q_cd s A) (w : q_wd A) (cb : q_cb s 9 10 11 R) {t r c : Nat} (ht : t < 4) (hr : r < 30) (hc : c < 6) (hh : R 1 (30 * t + r) ≠ 0) (x6 : Int32) : p_BA_brokenInCell_94 s (nI t) (nI r) (nI c) (20 + (6 * t + c)) (R 2 (180 * t + 6 * r + c)) x6 ∧ f_BA_brokenInCell_94 s (nI t) (nI r) (nI c) (20 + (6 * t + c)) (R 2 (180 * t + 6 * r + c)) x6 = (x6 + nI (q_b1 A R t r (4 * c + 2) ++ q_b1 A R t r (4 * c + 3)).length, q_F s (q_b1 A R t r (4 * c + 2) ++ q_b1 A R t r (4 * c + 3))) := by
  have hk : 6 * t + c < 24 := by omega
  have f6 : s (20 + (6 * t + c)) 6 = A 219 (6 * t + c) := cd.2.2.2 _ 6 hk (by omega) (by omega)
  have rf : (20 + (6 * t + c)) < 207 ∧ am_sh (20 + (6 * t + c)) = (0, 3, 11) := ⟨by omega, qd_sh hk⟩
  have h0 := qb_136 cd w cb ht hr hc x6
  have hre := qb_rep cb ht hr hc hh
  have h1 := qb_136 (s := q_F s [(3, t, r, c)]) (q_cd_F cd) w (q_cb_F cb) ht hr hc (x6 + 1)
  have hF : f_RE_setFirst s 16 (3 : Int32) (nI t) (nI r) (nI c) = q_F s [(3, t, r, c)] := rfl
  have eb := q_b1_b (A := A) (R := R) (t := t) (r := r) (c := c) (b := 2) (by omega)
  unfold p_BA_brokenInCell_94 f_BA_brokenInCell_94
  rw [f6, hre.2, hF]
  refine ⟨⟨rf, fun _ => h0.1, fun _ => ⟨fun _ => h0.1, fun _ => ⟨hre.1, fun _ => h0.1, fun _ => ⟨q_pset16 _ _ _ _ _, h1.1⟩⟩⟩⟩, ?_⟩
  have none : q_bk A R t r c 2 ≠ true → (x6 + nI (q_b1 A R t r (4 * c + 3)).length, q_F s (q_b1 A R t r (4 * c + 3))) = (x6 + nI (q_b1 A R t r (4 * c + 2) ++ q_b1 A R t r (4 * c + 3)).length, q_F s (q_b1 A R t r (4 * c + 2) ++ q_b1 A R t r (4 * c + 3))) := fun q => by rw [eb, if_neg q]; rfl
  by_cases c6 : A 219 (6 * t + c) = 0
  · rw [if_pos c6, h0.2]; exact none (fun q0 => (fun q => q.1 c6) (q_bk2.mp q0))
  rw [if_neg c6]
  by_cases cv : R 2 (180 * t + 6 * r + c) = -1000000
  · rw [if_pos cv, h0.2]; exact none (fun q0 => (fun q => q.2.1 cv) (q_bk2.mp q0))
  rw [if_neg cv]
  by_cases ce : q_rep R t r c
  · rw [if_pos ce, if_neg i10, h1.2, eb, if_pos (q_bk2.mpr ⟨c6, cv, ce⟩), q_F_a (q_kd_1 (by decide) (by decide))]
    rw [← q_addl]; rfl
  · rw [if_neg ce, if_pos rfl, h0.2]; exact none (fun q0 => (fun q => ce q.2.2) (q_bk2.mp q0))
theorem qb_65 {s A R : am_M} (cd : q_cd s A) (w : q_wd A) (cb : q_cb s 9 10 11 R) {t r c : Nat} (ht : t < 4) (hr : r < 30) (hc : c < 6) (hh : R 1 (30 * t + r) ≠ 0) (x6 : Int32) : p_BA_brokenInCell_65 s (nI t) (nI r) (nI c) (20 + (6 * t + c)) (R 2 (180 * t + 6 * r + c)) x6 ∧ f_BA_brokenInCell_65 s (nI t) (nI r) (nI c) (20 + (6 * t + c)) (R 2 (180 * t + 6 * r + c)) x6 = (x6 + nI (q_bi A R t r 3 (4 * c + 1)).length, q_F s (q_bi A R t r 3 (4 * c + 1))) := by
  have hk : 6 * t + c < 24 := by omega
  have f5 : s (20 + (6 * t + c)) 5 = A 218 (6 * t + c) := cd.2.2.2 _ 5 hk (by omega) (by omega)
  have rf : (20 + (6 * t + c)) < 207 ∧ am_sh (20 + (6 * t + c)) = (0, 3, 11) := ⟨by omega, qd_sh hk⟩
  have h0 := qb_94 cd w cb ht hr hc hh x6
  have h1 := qb_94 (s := q_F s [(2, t, r, c)]) (q_cd_F cd) w (q_cb_F cb) ht hr hc hh (x6 + 1)
  have hF : f_RE_setFirst s 16 (2 : Int32) (nI t) (nI r) (nI c) = q_F s [(2, t, r, c)] := rfl
  have eb := q_b1_b (A := A) (R := R) (t := t) (r := r) (c := c) (b := 1) (by omega)
  have el : q_bi A R t r 3 (4 * c + 1) = q_b1 A R t r (4 * c + 1) ++ (q_b1 A R t r (4 * c + 2) ++ q_b1 A R t r (4 * c + 3)) := by
    show q_b1 A R t r (4 * c + 1) ++ (q_b1 A R t r (4 * c + 2) ++ (q_b1 A R t r (4 * c + 3) ++ [])) = _
    rw [List.append_nil]
  unfold p_BA_brokenInCell_65 f_BA_brokenInCell_65
  rw [f5, hF, el]
  refine ⟨⟨rf, fun _ => h0.1, fun _ => ⟨fun _ => ⟨q_pset16 _ _ _ _ _, h1.1⟩, fun _ => h0.1⟩⟩, ?_⟩
  by_cases c6 : A 218 (6 * t + c) = 0
  · rw [if_pos c6, h0.2, eb, if_neg (fun q0 => (fun q => q.1 c6) (q_bk1.mp q0))]; rfl
  rw [if_neg c6]
  by_cases cv : R 2 (180 * t + 6 * r + c) = -1000000
  · rw [if_pos cv, h1.2, eb, if_pos (q_bk1.mpr ⟨c6, cv⟩), q_F_a (q_kd_1 (by decide) (by decide))]
    rw [← q_addl x6 [(1 + 1, t, r, c)]]; rfl
  · rw [if_neg cv, h0.2, eb, if_neg (fun q0 => (fun q => cv q.2) (q_bk1.mp q0))]; rfl
theorem qb_cell {s A R : am_M} (cd : q_cd s A) (w : q_wd A) (cb : q_cb s 9 10 11 R) {t r c : Nat} (ht : t < 4) (hr : r < 30) (hc : c < 6) (hh : R 1 (30 * t + r) ≠ 0) : p_BA_brokenInCell s (nI t) (nI r) (nI c) ∧ f_BA_brokenInCell s (nI t) (nI r) (nI c) = (nI (q_bi A R t r 4 (4 * c)).length, q_F s (q_bi A R t r 4 (4 * c))) := by
  have hk : 6 * t + c < 24 := by omega
  have f0 := cd.2.2.1 (6 * t + c) hk
  have f1 : s (20 + (6 * t + c)) 1 = A 210 (6 * t + c) := cd.2.2.2 _ 1 hk (by omega) (by omega)
  have f2 : s (20 + (6 * t + c)) 2 = A 211 (6 * t + c) := cd.2.2.2 _ 2 hk (by omega) (by omega)
  have rf : (20 + (6 * t + c)) < 207 ∧ am_sh (20 + (6 * t + c)) = (0, 3, 11) := ⟨by omega, qd_sh hk⟩
  have h0 := qb_65 cd w cb ht hr hc hh 0
  have h1 := qb_65 (s := q_F s [(1, t, r, c)]) (q_cd_F cd) w (q_cb_F cb) ht hr hc hh ((0 : Int32) + 1)
  have hF : f_RE_setFirst s 16 (1 : Int32) (nI t) (nI r) (nI c) = q_F s [(1, t, r, c)] := rfl
  have eb := q_b1_b (A := A) (R := R) (t := t) (r := r) (c := c) (b := 0) (by omega)
  rw [Nat.add_zero] at eb
  have el : q_bi A R t r 4 (4 * c) = q_b1 A R t r (4 * c) ++ q_bi A R t r 3 (4 * c + 1) := rfl
  unfold p_BA_brokenInCell f_BA_brokenInCell
  rw [qd_col ht hc, qr_cell cb ht hr hc hh, f0, f1, f2, hF, el]
  refine ⟨⟨qd_pcol _ _ _, qr_pget _ _ _ _, rf, fun _ => ⟨fun _ => h0.1, fun _ => ⟨q_pset16 _ _ _ _ _, h1.1⟩⟩, fun _ => h0.1⟩, ?_⟩
  have none : q_bk A R t r c 0 ≠ true → ((0 : Int32) + nI (q_bi A R t r 3 (4 * c + 1)).length, q_F s (q_bi A R t r 3 (4 * c + 1))) = (nI (q_b1 A R t r (4 * c) ++ q_bi A R t r 3 (4 * c + 1)).length, q_F s (q_b1 A R t r (4 * c) ++ q_bi A R t r 3 (4 * c + 1))) := fun q => by rw [eb, if_neg q, Int32.zero_add]; rfl
  by_cases c1 : A 209 (6 * t + c) = 0
  · rw [if_pos (q_kc_1.mpr c1)]
    unfold f_BA_isOutside
    by_cases cv : R 2 (180 * t + 6 * r + c) = -1000000
    · rw [if_pos cv, if_pos rfl, h0.2]; exact none (fun q0 => (fun q => q.2.1 cv) (q_bk0.mp q0))
    rw [if_neg cv]
    have yes : q_bk A R t r c 0 = true → f_BA_brokenInCell_65 (q_F s [(1, t, r, c)]) (nI t) (nI r) (nI c) (20 + (6 * t + c)) (R 2 (180 * t + 6 * r + c)) ((0 : Int32) + 1) = (nI (q_b1 A R t r (4 * c) ++ q_bi A R t r 3 (4 * c + 1)).length, q_F s (q_b1 A R t r (4 * c) ++ q_bi A R t r 3 (4 * c + 1))) := fun q => by
      rw [h1.2, eb, if_pos q, q_F_a (q_kd_1 (by decide) (by decide)), Int32.zero_add]
      have := q_addl 0 [(1 + 0, t, r, c)] (q_bi A R t r 3 (4 * c + 1))
      rw [Int32.zero_add, Int32.zero_add] at this
      rw [← this]; rfl
    by_cases l1 : R 2 (180 * t + 6 * r + c) < A 210 (6 * t + c)
    · rw [if_pos l1, if_neg i10]; exact yes (q_bk0.mpr ⟨c1, cv, Or.inl l1⟩)
    rw [if_neg l1]
    by_cases l2 : R 2 (180 * t + 6 * r + c) ≤ A 211 (6 * t + c)
    · rw [if_pos l2, if_pos rfl, h0.2]
      exact none (fun q0 => (fun q => by
        rcases q.2.2 with q | q
        · exact l1 q
        · exact (pr_le.mp q) l2) (q_bk0.mp q0))
    · rw [if_neg l2, if_neg i10]; exact yes (q_bk0.mpr ⟨c1, cv, Or.inr (pr_le.mpr l2)⟩)
  · rw [if_neg (fun q => c1 (q_kc_1.mp q)), h0.2]; exact none (fun q0 => (fun q => c1 q.1) (q_bk0.mp q0))
end
