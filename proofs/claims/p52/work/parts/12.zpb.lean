noncomputable section
-- what changes of the design leave whole
theorem bk_c {A B R R' : am_M} {t r c i : Nat} (e : ∀ a, a = 209 ∨ a = 210 ∨ a = 211 ∨ a = 212 ∨ a = 218 ∨ a = 219 → B a (6 * t + c) = A a (6 * t + c)) (h1 : R' 1 = R 1) (h2 : ∀ j, j ≤ r → R' 2 (180 * t + 6 * j + c) = R 2 (180 * t + 6 * j + c)) : q_bk B R' t r c i = q_bk A R t r c i := by
  have e9 := e 209 (by omega)
  have e10 := e 210 (by omega)
  have e11 := e 211 (by omega)
  have e12 := e 212 (by omega)
  have e18 := e 218 (by omega)
  have e19 := e 219 (by omega)
  have hr := h2 r (Nat.le_refl r)
  rcases i with _ | _ | _ | i
  · exact decide_eq_decide.mpr (by rw [e9, e10, e11, hr])
  · exact decide_eq_decide.mpr (by rw [e18, hr])
  · refine decide_eq_decide.mpr ?_
    have er : q_rep R' t r c ↔ q_rep R t r c := by
      unfold q_rep
      rw [q_fi_c (P := fun i => R' 1 (30 * t + i) ≠ 0 ∧ R' 2 (180 * t + 6 * i + c) = R' 2 (180 * t + 6 * r + c)) (Q := fun i => R 1 (30 * t + i) ≠ 0 ∧ R 2 (180 * t + 6 * i + c) = R 2 (180 * t + 6 * r + c)) r 0 (fun k _ hk => by rw [h1, h2 k (by omega), hr])]
    rw [e19, hr, er]
  · refine decide_eq_decide.mpr ?_
    unfold q_hs q_tg
    rw [e9, e12, hr, h1]
theorem gd_rem {A U R : am_M} {k : Nat} {x : Int32} (w : q_wd A) (hx : x ≠ -9999999) (h : q_gd A U R) : q_gd (am_set A 213 k x) U R := by
  have ho : ∀ a, a ≠ 213 → am_set A 213 k x a = A a := fun a ha => am_set_o ha
  refine ⟨brk_iff.mpr (fun p hp hh => ?_), ?_, ⟨rr_8 (ho 208 (by decide)) h.2.2.1, fun j hj => by
    by_cases e : j = k
    · rw [e, am_set_q]; exact hx
    · rw [am_set_p (Or.inr e)]; exact h.2.2.2 j hj⟩⟩
  · have n1 : q_nt (am_set A 213 k x) = q_nt A := by unfold q_nt; rw [ho 207 (by decide)]
    have n2 : ∀ t, q_w (am_set A 213 k x) t = q_w A t := fun t => by unfold q_w; rw [ho 208 (by decide)]
    rw [n1] at hp
    obtain ⟨b1, b2⟩ := brk_iff.mp h.1 p hp hh
    refine ⟨fun c i hc hi => ?_, b2⟩
    rw [n2] at hc
    rw [bk_c (A := A) (R := R) (fun a ha => by rw [ho a (by omega)]) rfl (fun _ _ => rfl)]
    exact b1 c i hc hi
  · have eo : q_ord A = q_ord (am_set A 213 k x) := q_ord_c w (q_same_of w (fun k _ => by rw [ho 209 (by decide)]) (fun k _ _ => by rw [ho 214 (by decide), ho 215 (by decide), ho 216 (by decide), ho 217 (by decide)]; exact ⟨rfl, rfl, rfl, rfl⟩) (fun k _ _ => by rw [ho 212 (by decide)]))
    exact gd_L (fun k hk => by rw [eo]; exact hk) (fun k _ => by rw [ho 214 (by decide), ho 215 (by decide), ho 216 (by decide), ho 217 (by decide), ho 212 (by decide)]; exact ⟨rfl, rfl, rfl, rfl, fun _ => rfl⟩) h.2.1
theorem gd_table {A U R : am_M} (w : q_wd A) (c : q_nt A < 4) (wr : q_wr A R) (h : q_gd A U R) : q_gd (am_set A 207 1 (nI (q_nt A + 1))) U R := by
  have ho : ∀ a, a ≠ 207 → am_set A 207 1 (nI (q_nt A + 1)) a = A a := fun a ha => am_set_o ha
  refine ⟨brk_iff.mpr (fun p hp hh => ?_), ?_, dd_8 (ho 208 (by decide)) (ho 213 (by decide)) h.2.2⟩
  · have n1 : q_nt (am_set A 207 1 (nI (q_nt A + 1))) = q_nt A + 1 := by unfold q_nt; rw [am_set_q]; exact nI_clamp (by unfold q_nt at c; omega)
    have n2 : ∀ t, q_w (am_set A 207 1 (nI (q_nt A + 1))) t = q_w A t := fun t => by unfold q_w; rw [ho 208 (by decide)]
    rw [n1] at hp
    have ht := (q_we_r wr.we (t := p / 30) (r := p % 30) (by omega) (by omega) (by rw [show 30 * (p / 30) + p % 30 = p from by omega]; exact hh)).2
    obtain ⟨b1, b2⟩ := brk_iff.mp h.1 p (by omega) hh
    refine ⟨fun c i hc hi => ?_, b2⟩
    rw [n2] at hc
    rw [bk_c (A := A) (R := R) (fun a ha => by rw [ho a (by omega)]) rfl (fun _ _ => rfl)]
    exact b1 c i hc hi
  · have eo : q_ord A = q_ord (am_set A 207 1 (nI (q_nt A + 1))) := q_ord_c w (q_same_of w (fun k _ => by rw [ho 209 (by decide)]) (fun k _ _ => by rw [ho 214 (by decide), ho 215 (by decide), ho 216 (by decide), ho 217 (by decide)]; exact ⟨rfl, rfl, rfl, rfl⟩) (fun k _ _ => by rw [ho 212 (by decide)]))
    exact gd_L (fun k hk => by rw [eo]; exact hk) (fun k _ => by rw [ho 214 (by decide), ho 215 (by decide), ho 216 (by decide), ho 217 (by decide), ho 212 (by decide)]; exact ⟨rfl, rfl, rfl, rfl, fun _ => rfl⟩) h.2.1
/-- a rule that is taken away again -/
theorem gd_rule {A U V R : am_M} (h : q_gd A U R) (h17 : V 207 17 = U 207 17) (ho : ∀ a j, 222 ≤ a → a ≤ 227 → j < q_c (U 207 17) → V a j = U a j) : q_gd A V R := by
  refine ⟨brk_iff.mpr (fun p hp hh => ?_), h.2.1, fun j h1 h2 => by
    rw [h17] at h1
    rw [ho 222 j (by omega) (by omega) h1, ho 223 j (by omega) (by omega) h1, ho 225 j (by omega) (by omega) h1]
    rw [ho 227 j (by omega) (by omega) h1] at h2
    exact h.2.2.1 j h1 h2, h.2.2.2⟩
  obtain ⟨b1, b2⟩ := brk_iff.mp h.1 p hp hh
  refine ⟨b1, fun j hj => ?_⟩
  rw [h17] at hj
  have e := b2 j hj
  unfold q_r1 at e ⊢
  rw [ho 222 j (by omega) (by omega) hj, ho 223 j (by omega) (by omega) hj, ho 224 j (by omega) (by omega) hj, ho 225 j (by omega) (by omega) hj, ho 226 j (by omega) (by omega) hj, ho 227 j (by omega) (by omega) hj]
  exact e
/-- a cell that is BLANK in a column that nothing is asked of is never broken -/
theorem bk_B {A R : am_M} {t r c i : Nat} (h : R 2 (180 * t + 6 * r + c) = -1000000) (h18 : A 218 (6 * t + c) = 0) : q_bk A R t r c i ≠ true := by
  rcases i with _ | _ | _ | i
  · exact fun q => (of_decide_eq_true q).2.1 h
  · exact fun q => (of_decide_eq_true q).1 h18
  · exact fun q => (of_decide_eq_true q).2.1 h
  · exact fun q => (of_decide_eq_true q).2.1 h
theorem gd_mk {A B U R : am_M} {T : Nat} (w : q_wd A) (wr : q_wr A R) (ht : T < q_nt A) (hw : q_w A T < 6) (h1 : B 207 1 = A 207 1) (h8 : B 208 T = nI (q_w A T + 1)) (h8' : ∀ u, u ≠ T → B 208 u = A 208 u) (ho : ∀ a k, 209 ≤ a → a ≤ 219 → k ≠ 6 * T + q_w A T → B a k = A a k) (hk2 : B 209 (6 * T + q_w A T) ≠ 2) (hn : B 218 (6 * T + q_w A T) = 0) (h13 : B 213 (6 * T + q_w A T) ≠ -9999999) (h : q_gd A U R) : q_gd B U R := by
  have h4 := w.1.2
  have hA : A 209 (6 * T + q_w A T) = -1 := (w.2.2.1 (6 * T + q_w A T) (by omega)).2 (by rw [show (6 * T + q_w A T) / 6 = T from by omega]; omega)
  have wT : q_w B T = q_w A T + 1 := by
    show q_c (B 208 T) = _
    rw [h8]; exact nI_clamp (by omega)
  refine ⟨brk_iff.mpr (fun p hp hh => ?_), ?_, rr_c (fun u => by
    by_cases e : u = T
    · rw [e, wT]; omega
    · unfold q_w; rw [h8' u e]; exact Nat.le_refl _) h.2.2.1, fun j hj => by
    by_cases e : j = 6 * T + q_w A T
    · rw [e]; exact h13
    · rw [ho 213 j (by omega) (by omega) e]; exact h.2.2.2 j hj⟩
  · have n1 : q_nt B = q_nt A := by unfold q_nt; rw [h1]
    rw [n1] at hp
    obtain ⟨b1, b2⟩ := brk_iff.mp h.1 p hp hh
    refine ⟨fun c i hc hi => ?_, b2⟩
    have hwp := (w.2.1 (p / 30) (by omega)).2.1
    by_cases e : 6 * (p / 30) + c = 6 * T + q_w A T ∧ c < 6
    · refine bk_B ?_ (by rw [e.1]; exact hn)
      rw [show 180 * (p / 30) + 6 * (p % 30) + c = 6 * p + c from by omega]
      exact wr.2.2.2.1 p c (by omega) e.2 hh (Or.inr (by rw [e.1]; exact hA))
    · by_cases eT : p / 30 = T
      · rw [eT, wT] at hc
        rw [eT] at e hwp
        have hc2 : c < q_w A T := by omega
        rw [bk_c (A := A) (R := R) (fun a ha => ho a _ (by omega) (by omega) (by omega)) rfl (fun _ _ => rfl)]
        exact b1 c i (by rw [eT]; exact hc2) hi
      · have wq : q_w B (p / 30) = q_w A (p / 30) := by unfold q_w; rw [h8' _ eT]
        rw [wq] at hc
        rw [bk_c (A := A) (R := R) (fun a ha => ho a _ (by omega) (by omega) (by omega)) rfl (fun _ _ => rfl)]
        exact b1 c i hc hi
  · have eo : q_ord A = q_ord B := q_ord_c w (q_same_mk w ht hw ho hk2)
    refine gd_L (fun k hk => by rw [eo]; exact hk) (fun k hk => ?_) h.2.1
    rw [← eo] at hk
    obtain ⟨k24, k2⟩ := ord_m w hk
    have hne : k ≠ 6 * T + q_w A T := fun q => by rw [q, hA] at k2; exact absurd k2 (by decide)
    refine ⟨ho _ _ (by omega) (by omega) hne, ho _ _ (by omega) (by omega) hne, ho _ _ (by omega) (by omega) hne, ho _ _ (by omega) (by omega) hne, fun c => ?_⟩
    have l1 := (q_f_n w k24 k2).2.2.2.1 (Or.inl c)
    exact ho _ _ (by omega) (by omega) (fun q => by rw [q, hA] at l1; exact absurd l1 (by decide))
theorem pu_mk9 {c : Nat} {s t : am_M} {Z : Nat → am_M} {B : am_M} {T : Nat} (hP : ∀ i, pu_P i s) (hZ : ∀ j, pu_X c j s Z) (ht : T < q_nt (Z 6)) (hw : q_w (Z 6) T < 6) (h13 : B 213 (6 * T + q_w (Z 6) T) ≠ -9999999) (h1 : B 207 1 = Z 6 207 1) (h8 : B 208 T = nI (q_w (Z 6) T + 1)) (h8' : ∀ u, u ≠ T → B 208 u = Z 6 208 u) (ho : ∀ a k, 209 ≤ a → a ≤ 219 → k ≠ 6 * T + q_w (Z 6) T → B a k = Z 6 a k)
    (hk : B 209 (6 * T + q_w (Z 6) T) = 0 ∨ (B 209 (6 * T + q_w (Z 6) T) = 1 ∧ B 212 (6 * T + q_w (Z 6) T) = nI (q_tg B (6 * T + q_w (Z 6) T)) ∧ q_tg B (6 * T + q_w (Z 6) T) < q_nt (Z 6)))
    (hn : B 218 (6 * T + q_w (Z 6) T) = 0) (hs : B 219 (6 * T + q_w (Z 6) T) = 0) (hf : pu_fr (· ∈ [0, 2, 6]) s t) (cd : q_cd t B) (md : q_md t B) (oc : q_oc t (Z 6)) (u1 : t 0 7 = 0) (u2 : t 207 38 = 0) : pu_R c t :=
  pu_mk hP hZ ht hw h1 h8 h8' ho hk hn hs hf cd md oc u1 u2 (gd_mk (hZ 1 : q_x1 s (Z 6)).2.2.2 (hZ 3 : q_x3 s (Z 6) (Z 8)).2.2 ht hw h1 h8 h8' ho (by
    rcases hk with q | ⟨q, -⟩ <;> rw [q] <;> decide) hn h13 (q_x7_g (hZ 7)))
end
