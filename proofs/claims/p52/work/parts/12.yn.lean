noncomputable section
-- what a change owes
theorem q_rk_o {A R : am_M} {k y : Nat} (hk : A 209 k = 2) (h : A 209 (6 * (y / 180) + y % 6) ≠ 2) : q_rk A R k 2 y = R 2 y := q_rkp_o (fun q => h (by rw [q]; exact hk))
theorem q_fold_o {A : am_M} {y : Nat} (h : A 209 (6 * (y / 180) + y % 6) ≠ 2) : ∀ (l : List Nat) (R : am_M), (∀ i, i < l.length → l.getD i 0 < 24 ∧ A 209 (l.getD i 0) = 2) → (l.foldl (q_rk A) R) 2 y = R 2 y := by
  intro l
  induction l with
  | nil => intro R _; rfl
  | cons k l ih =>
    intro R hl
    have h0 := hl 0 (by simp)
    rw [List.foldl_cons, ih (q_rk A R k) (fun i hi => hl (i + 1) (by rw [List.length_cons]; omega))]
    exact q_rk_o h0.2 h
/-- cells of columns that aren't reckoned stay -/
theorem q_reck_o {A R : am_M} {y : Nat} (h : A 209 (6 * (y / 180) + y % 6) ≠ 2) : q_reck A R 2 y = R 2 y := q_fold_o h _ _ (fun _ hi => q_ord_lt hi)
theorem q_all_nil {A U R : am_M} : ∀ (d p : Nat), q_all A U R d p = [] → ∀ i, p ≤ i → i < p + d → q_row1 A U R i = [] := by
  intro d
  induction d with
  | zero => intro p _ i h1 h2; omega
  | succ d ih =>
    intro p h i h1 h2
    have h := List.append_eq_nil_iff.mp (show q_row1 A U R p ++ q_all A U R d (p + 1) = [] from h)
    by_cases e : i = p
    · rw [e]; exact h.1
    · exact ih (p + 1) h.2 i (by omega) (by omega)
theorem q_bi_nil {A R : am_M} {t r : Nat} : ∀ (d i : Nat), q_bi A R t r d i = [] → ∀ j, i ≤ j → j < i + d → q_bk A R t r (j / 4) (j % 4) ≠ true := by
  intro d
  induction d with
  | zero => intro i _ j h1 h2; omega
  | succ d ih =>
    intro i h j h1 h2
    have h := List.append_eq_nil_iff.mp (show q_b1 A R t r i ++ q_bi A R t r d (i + 1) = [] from h)
    by_cases e : j = i
    · rw [e]; intro q
      have := h.1
      unfold q_b1 at this
      rw [if_pos q] at this
      exact absurd this (by simp)
    · exact ih (i + 1) h.2 j (by omega) (by omega)
/-- nothing broken: no cell is -/
theorem q_brk_nil {A U R : am_M} (w : q_wd A) (h : q_brk A U R = []) {t r c b : Nat} (ht : t < q_nt A) (hr : r < 30) (hc : c < q_w A t) (hb : b < 4) (hh : R 1 (30 * t + r) ≠ 0) : q_bk A R t r c b ≠ true := by
  have h1 := q_all_nil _ _ h (30 * t + r) (by omega) (by omega)
  unfold q_row1 at h1
  rw [if_neg hh, show (30 * t + r) / 30 = t from by omega, show (30 * t + r) % 30 = r from by omega] at h1
  have h2 := (List.append_eq_nil_iff.mp h1).1
  have h3 := q_bi_nil _ _ h2 (4 * c + b) (by omega) (by omega)
  rw [show (4 * c + b) / 4 = c from by omega, show (4 * c + b) % 4 = b from by omega] at h3
  exact h3
theorem q_wr_good {A U R : am_M} (w : q_wd A) (e : q_we A R) (h4 : ∀ p c, p < 120 → c < 6 → R 1 p ≠ 0 → (A 209 (6 * (p / 30) + c) = 3 ∨ A 209 (6 * (p / 30) + c) = -1) → R 2 (6 * p + c) = -1000000) (h : q_brk A U (q_reck A R) = []) : q_wr A (q_reck A R) := by
  obtain ⟨⟨g1, g2, g3⟩, e1, e0⟩ := q_we_reck w e
  refine ⟨g1, g2, g3, fun p c hp hc hh hk => ?_, fun p c hp hc hh hk => ?_⟩
  · rw [q_reck_o (by
      rw [show 6 * ((6 * p + c) / 180) + (6 * p + c) % 6 = 6 * (p / 30) + c from by omega]
      rcases hk with q | q <;> rw [q] <;> decide)]
    rw [e1] at hh
    exact h4 p c hp hc hh hk
  · have hr := q_we_r (A := A) (R := q_reck A R) ⟨g1, g2, g3⟩ (t := p / 30) (r := p % 30) (by omega) (by omega) (by rw [show 30 * (p / 30) + p % 30 = p from by omega]; exact hh)
    have hw : c < q_w A (p / 30) := by
      by_cases q : c < q_w A (p / 30)
      · exact q
      · have := (w.2.2.1 (6 * (p / 30) + c) (by omega)).2 (by rw [show (6 * (p / 30) + c) / 6 = p / 30 from by omega]; omega)
        rw [this] at hk; exact absurd hk (by decide)
    have hb := q_brk_nil (b := 3) w h hr.2 (Nat.mod_lt _ (by omega)) hw (by omega) (show q_reck A R 1 (30 * (p / 30) + p % 30) ≠ 0 by rw [show 30 * (p / 30) + p % 30 = p from by omega]; exact hh)
    have ex : 180 * (p / 30) + 6 * (p % 30) + c = 6 * p + c := by omega
    by_cases q : q_reck A R 2 (6 * p + c) = -1000000
    · exact Or.inl q
    · right
      have hs : q_hs (q_reck A R) (q_tg A (6 * (p / 30) + c)) (q_reck A R 2 (6 * p + c)) := by
        by_cases hs : q_hs (q_reck A R) (q_tg A (6 * (p / 30) + c)) (q_reck A R 2 (6 * p + c))
        · exact hs
        · exact absurd (q_bk3.mpr ⟨hk, by rw [ex]; exact q, by rw [ex]; exact hs⟩) hb
      obtain ⟨r, h1, h2, h3⟩ := q_hs_x hs
      exact ⟨r, h1, h2, h3⟩
theorem am_set_back {A : am_M} {i k : Nat} {x : Int32} : am_set (am_set A i k x) i k (A i k) = A := by
  funext a b
  by_cases h : a = i ∧ b = k
  · rw [h.1, h.2, am_set_q]
  · rw [am_set_p (by omega), am_set_p (by omega)]
theorem pu_up_id {Z : Nat → am_M} {i : Nat} : pu_up Z i (Z i) = Z := by
  funext j
  by_cases h : j = i
  · rw [h, pu_up_s]
  · rw [pu_up_o h]
/-- all that a change of design and rows owes -/
theorem pu_chg {c : Nat} {s t : am_M} {Z : Nat → am_M} {A' R' : am_M} {L M : Nat} (hP : ∀ i, pu_P i s) (hZ : ∀ j, pu_X c j s Z) (hf : pu_fr (· ∈ [0, 1, 2, 3, 6, 8, 9]) s t) (h9 : ∀ a b, ¬ (a = 1 ∧ b = 12) → pu_own a b = 9 → t a b = s a b) (told : pr_told t) (dr : pr_draft t) (x1 : q_x1 t A') (x3 : q_x3 t A' R') (hL : s 1 12 = nI L) (hL1 : L < 100000) (hM : t 1 12 = nI M) (hLM : L ≤ M) (hMc : M ≤ c) (hM1 : M < 100000) (hc : (t 0 7 = s 0 7 ∧ t 207 38 = s 207 38 ∧ A' = Z 6 ∧ R' = Z 8) ∨ (t 0 7 = 0 ∧ t 207 38 = 0 ∧ q_nt (Z 6) ≤ q_nt A' ∧ q_sr (Z 8) R' L M)) (hq : q_dq (Z 6) A' (Z 11)) (hgd : (A' = Z 6 ∧ R' = Z 8) ∨ q_gd A' (Z 7) R') : pu_R c t := by
  have wd : q_wd (Z 6) := (hZ 1 : q_x1 s (Z 6)).2.2.2
  have und : pr_und t := by
    rcases hc with ⟨u1, u2, -⟩ | ⟨u1, u2, -⟩
    · obtain ⟨k, k1, k2, k3⟩ : pr_und s := hP 2
      exact ⟨k, k1, u1.trans k2, u2.trans k3⟩
    · exact ⟨0, by omega, u1, u2⟩
  have h10 : ∀ a b, ¬ (a = 1 ∧ b = 12) → pu_own a b = 9 ∨ pu_own a b = 10 → t a b = s a b := fun a b hn q => by
    rcases q with q | q
    · exact h9 a b hn q
    · exact hf a b (by rw [q]; decide)
  have y6 : pu_up (pu_up Z 6 A') 8 R' 6 = A' := by rw [pu_up_o (by decide), pu_up_s]
  have y8 : pu_up (pu_up Z 6 A') 8 R' 8 = R' := pu_up_s
  refine pu_keepX (J := [0, 1, 2, 3, 6, 8, 9]) (Y := pu_up (pu_up Z 6 A') 8 R') hP hZ hf (fun i hi => ?_) (fun i hi => ?_) (fun j hj => ?_)
  · rw [pu_up_o (fun q => hi (by rw [q]; decide)), pu_up_o (fun q => hi (by rw [q]; decide))]
  · have e : i = 0 ∨ i = 1 ∨ i = 2 ∨ i = 3 ∨ i = 6 ∨ i = 8 ∨ i = 9 := by simpa using hi
    rcases e with rfl | rfl | rfl | rfl | rfl | rfl | rfl
    · exact trivial
    · exact told
    · exact und
    · exact dr
    · exact trivial
    · exact trivial
    · exact trivial
  · have e : j ∈ [1, 3, 4, 5, 6, 7] := hj
    have e : j = 1 ∨ j = 3 ∨ j = 4 ∨ j = 5 ∨ j = 6 ∨ j = 7 := by simpa using e
    have x56 := q_56 (V := Z 12) (fun a b q => hf a b (by rw [q]; decide)) (fun a b q => hf a b (by rw [q]; decide)) hq (hZ 5) (hZ 6)
    rcases e with rfl | rfl | rfl | rfl | rfl | rfl
    rotate_right
    · have g8 : q_gd (Z 6) (Z 7) (Z 8) := q_x7_g (hZ 7)
      have y7 : pu_up (pu_up Z 6 A') 8 R' 7 = Z 7 := by rw [pu_up_o (by decide), pu_up_o (by decide)]
      rcases hc with ⟨u1, -, u3, u4⟩ | ⟨u1, -⟩
      · exact q_x7_d u1 (y6.trans u3) y7 (y8.trans u4) (fun j hj => by rw [pu_up_o (by omega), pu_up_o (by omega)]) (hZ 7)
      · refine q_x7_z u1 ?_
        rw [y6, y7, y8]
        rcases hgd with ⟨q1, q2⟩ | q
        · rw [q1, q2]; exact g8
        · exact q
    · show q_x1 t (pu_up (pu_up Z 6 A') 8 R' 6)
      rw [y6]; exact x1
    · show q_x3 t (pu_up (pu_up Z 6 A') 8 R' 6) (pu_up (pu_up Z 6 A') 8 R' 8)
      rw [y6, y8]; exact x3
    · refine q_x4_up (hZ 4) hL hL1 hM hLM hMc hM1 wd.1.2 h10 ?_
      rcases hc with ⟨u1, u2, u3, u4⟩ | ⟨u1, u2, u3, u4⟩
      · left
        refine ⟨u1, u2, ?_⟩
        rw [u3, u4, pu_up_id, pu_up_id]
      · right
        rw [y6, y8]
        exact ⟨u1, u2, u3, u4⟩
    · show q_x5 t (pu_up (pu_up Z 6 A') 8 R' 6) (pu_up (pu_up Z 6 A') 8 R' 11)
      rw [y6, pu_up_o (by decide), pu_up_o (by decide)]; exact x56.1
    · show q_x6 t (pu_up (pu_up Z 6 A') 8 R' 6) (pu_up (pu_up Z 6 A') 8 R' 11) (pu_up (pu_up Z 6 A') 8 R' 12)
      rw [y6, pu_up_o (by decide), pu_up_o (by decide), pu_up_o (by decide), pu_up_o (by decide)]; exact x56.2
theorem q_gd_p {A1 R1 A0 R0 U : am_M} {L : List q_It} (h : L = [] → q_gd A1 U R1) : (q_pick L A1 A0 = A0 ∧ q_pick L R1 R0 = R0) ∨ q_gd (q_pick L A1 A0) U (q_pick L R1 R0) := by
  rcases q_good_c L with ⟨g1, -, g3⟩ | ⟨-, -, g3⟩
  · exact Or.inr (by rw [g3, g3]; exact h g1)
  · exact Or.inl ⟨g3 _ _, g3 _ _⟩
/-- the same, where no row is entered -/
theorem pu_chg0 {c : Nat} {s t : am_M} {Z : Nat → am_M} {A' R' : am_M} (hP : ∀ i, pu_P i s) (hZ : ∀ j, pu_X c j s Z) (hf : pu_fr (· ∈ [0, 1, 2, 6, 8]) s t) {l : List q_It} (f1 : q_fd t 123 0 l) (f2 : q_fd t 207 31 l) (x1 : q_x1 t A') (x3 : q_x3 t A' R') (hc : (t 0 7 = s 0 7 ∧ t 207 38 = s 207 38 ∧ A' = Z 6 ∧ R' = Z 8) ∨ (t 0 7 = 0 ∧ t 207 38 = 0 ∧ q_nt (Z 6) ≤ q_nt A' ∧ (∀ u, u < 4 → q_c (Z 8 0 u) ≤ q_c (R' 0 u)) ∧ ∀ p, p < 120 → R' 1 p = Z 8 1 p ∨ R' 1 p = 0)) (hq : q_dq (Z 6) A' (Z 11)) (hgd : (A' = Z 6 ∧ R' = Z 8) ∨ q_gd A' (Z 7) R') : pu_R c t := by
  obtain ⟨k, L, k5, Lc, L1, h1, h2, h3, -⟩ : q_x4 c s Z := hZ 4
  refine pu_chg hP hZ (pu_fr_w hf (fun i hi => ?_)) (fun a b _ q => hf a b (by rw [q]; decide)) ⟨f1.1.trans f2.1.symm, f1.2.1.trans f2.2.1.symm, f1.2.2.1.trans f2.2.2.1.symm, f1.2.2.2.trans f2.2.2.2.symm⟩ ?_ x1 x3 h3 L1 ((hf 1 12 (by decide)).trans h3) (Nat.le_refl _) Lc L1 ?_ hq hgd
  · have e : i = 0 ∨ i = 1 ∨ i = 2 ∨ i = 6 ∨ i = 8 := by simpa using hi
    rcases e with rfl | rfl | rfl | rfl | rfl <;> decide
  · exact pu_P_d 3 s t (fun a b q => hf a b (by
      have q : pu_own a b = 3 := q
      rw [q]; decide)) (hP 3)
  · rcases hc with q | ⟨u1, u2, u3, u4, u5⟩
    · exact Or.inl q
    · exact Or.inr ⟨u1, u2, u3, u4, fun p hp => by
        rcases u5 p hp with q | q
        · exact Or.inl q
        · exact Or.inr (Or.inl q)⟩
theorem op_broken_ok {c d : Nat} (hcd : c ≤ d) : op_broken (pu_R c) (pu_R d) := by
  intro s h
  replace h := h.mono hcd
  have h' := h
  obtain ⟨hP, Z, hZ⟩ := h
  obtain ⟨cd, oc, md, wd⟩ : q_x1 s (Z 6) := hZ 1
  obtain ⟨uc, um, uw⟩ := q_x2_p (hZ 2 : q_x2 s (Z 7))
  obtain ⟨cb, mb, wr⟩ : q_x3 s (Z 6) (Z 8) := hZ 3
  have hC := qb_count1 cd wd wr.we cb uc uw
  have o1 : q_out s (q_F (f_RE_clear s 16) (q_brk (Z 6) (Z 7) (Z 8))) (fun a _ => a = 16) := q_out_t q_clear_o q_F_o
  generalize hT : q_F (f_RE_clear s 16) (q_brk (Z 6) (Z 7) (Z 8)) = T at *
  have o2 : q_out s (am_set T 207 0 0) (fun a b => a = 16 ∨ (a = 207 ∧ b = 0)) := fun a b hab => by rw [am_set_p (by omega), o1 a b (by omega)]
  have hM := qm_broken0 (q_md_out o2 (fun a b q => by omega) md) wd wr.we (q_mb_out o2 (fun a b q => by omega) mb) (q_um_out o2 (fun a b q => by omega) um) uw
  unfold p_CB_broken f_CB_broken p_MO_broken f_MO_broken
  rw [hC.2]
  dsimp only
  rw [hM.2]
  refine ⟨⟨hC.1, trivial⟩, ⟨hM.1, trivial⟩, rfl, ?_⟩
  refine pu_keep0 (J := [0]) h' (fun a b hab => o2 a b (fun q => hab ?_)) (fun i e => by rw [List.mem_singleton] at e; rw [e]; exact trivial) rfl
  rcases q with rfl | ⟨rfl, rfl⟩ <;> simp [pu_own]
end
