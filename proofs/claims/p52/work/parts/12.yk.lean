noncomputable section
-- the model looks for what is broken
theorem qm_rep3 {s R : am_M} (mb : q_mb s R) {t r c : Nat} (ht : t < 4) (hr : r < 30) (hc : c < 6) (hh : R 1 (30 * t + r) ≠ 0) : ∀ (d j n : Nat), j + d = r → d < n → p_MO_isRepeated_3 n s (nI t) (nI r) (nI c) (nI j) ∧ f_MO_isRepeated_3 n s (nI t) (nI r) (nI c) (nI j) = if q_fi (fun i => R 1 (30 * t + i) ≠ 0 ∧ R 2 (180 * t + 6 * i + c) = R 2 (180 * t + 6 * r + c)) d j < r then 1 else 0 := by
  have hv : s 230 (180 * t + 6 * r + c) = R 2 (180 * t + 6 * r + c) := mb.2.2 _ (by omega) (by rw [show (180 * t + 6 * r + c) / 6 = 30 * t + r from by omega]; exact hh)
  intro d
  induction d with
  | zero =>
    intro j n h1 h2
    obtain ⟨n, rfl⟩ : ∃ k, n = k + 1 := ⟨n - 1, by omega⟩
    unfold p_MO_isRepeated_3 f_MO_isRepeated_3 q_fi
    have c1 : nI r ≤ nI j := qn_le (by omega) (by omega)
    rw [if_pos c1, if_neg (by omega)]
    exact ⟨⟨fun _ => trivial, fun q => absurd c1 q⟩, rfl⟩
  | succ d ih =>
    intro j n h1 h2
    obtain ⟨n, rfl⟩ : ∃ k, n = k + 1 := ⟨n - 1, by omega⟩
    have ih := ih (j + 1) n (by omega) (by omega)
    have c1 : ¬ nI r ≤ nI j := nI_ge (by omega) (by omega)
    unfold p_MO_isRepeated_3 f_MO_isRepeated_3 p_MO_isRepeated_52 f_MO_isRepeated_52
    rw [if_neg c1, qw_30, nI_add, nI_clamp (n := 30 * t + j) (by omega), mb.2.1 _ (by omega), qr_at, qr_at, nI_clamp (n := 180 * t + 6 * j + c) (by omega), nI_clamp (n := 180 * t + 6 * r + c) (by omega), hv, nI_1]
    have v1 : vp_in (nI (30 * t + j)) 120 := vp_in_nI (by omega) (by omega)
    have v2 : vp_in (nI (180 * t + 6 * j + c)) 720 := vp_in_nI (by omega) (by omega)
    have v3 : vp_in (nI (180 * t + 6 * r + c)) 720 := vp_in_nI (by omega) (by omega)
    by_cases h0 : R 1 (30 * t + j) = 0
    · rw [if_pos h0, if_pos rfl, q_fi_n (P := fun i => R 1 (30 * t + i) ≠ 0 ∧ R 2 (180 * t + 6 * i + c) = R 2 (180 * t + 6 * r + c)) (fun q => q.1 h0)]
      exact ⟨⟨fun q => absurd q c1, fun _ => ⟨v1, fun _ => ih.1, fun q => absurd rfl q⟩⟩, ih.2⟩
    · have ev : s 230 (180 * t + 6 * j + c) = R 2 (180 * t + 6 * j + c) := mb.2.2 _ (by omega) (by rw [show (180 * t + 6 * j + c) / 6 = 30 * t + j from by omega]; exact h0)
      rw [if_neg h0, if_neg i10, ev]
      by_cases h3 : R 2 (180 * t + 6 * j + c) = R 2 (180 * t + 6 * r + c)
      · rw [if_pos h3, q_fi_y (P := fun i => R 1 (30 * t + i) ≠ 0 ∧ R 2 (180 * t + 6 * i + c) = R 2 (180 * t + 6 * r + c)) ⟨h0, h3⟩, if_pos (show j < r by omega)]
        exact ⟨⟨fun q => absurd q c1, fun _ => ⟨v1, fun q => absurd q i10, fun _ => ⟨v2, v3, fun _ => trivial, fun q => absurd h3 q⟩⟩⟩, rfl⟩
      · rw [if_neg h3, q_fi_n (P := fun i => R 1 (30 * t + i) ≠ 0 ∧ R 2 (180 * t + 6 * i + c) = R 2 (180 * t + 6 * r + c)) (fun q => h3 q.2)]
        exact ⟨⟨fun q => absurd q c1, fun _ => ⟨v1, fun q => absurd q i10, fun _ => ⟨v2, v3, fun q => absurd q h3, fun _ => ih.1⟩⟩⟩, ih.2⟩
theorem qm_rep {s R : am_M} (mb : q_mb s R) {t r c : Nat} (ht : t < 4) (hr : r < 30) (hc : c < 6) (hh : R 1 (30 * t + r) ≠ 0) : p_MO_isRepeated s (nI t) (nI r) (nI c) ∧ f_MO_isRepeated s (nI t) (nI r) (nI c) = if q_rep R t r c then 1 else 0 := by
  have h := qm_rep3 mb ht hr hc hh r 0 am_F (by omega) (by rw [am_F_eq]; omega)
  rw [nI_0] at h
  exact h
theorem qm_stored {s A : am_M} (md : q_md s A) {k : Nat} (hk : k < 24) : p_MO_isStored s (nI k) ∧ f_MO_isStored s (nI k) = if A 209 k = 0 ∨ A 209 k = 1 then 1 else 0 := by
  have v : vp_in (nI k) 24 := vp_in_nI hk (by omega)
  unfold p_MO_isStored f_MO_isStored
  rw [nI_clamp (n := k) (by omega), md.2 209 (by omega) (by omega)]
  refine ⟨⟨v, fun _ => trivial, fun _ => ⟨v, fun _ => trivial, fun _ => trivial⟩⟩, ?_⟩
  by_cases c0 : A 209 k = 0
  · rw [if_pos c0, if_pos (Or.inl c0)]
  · rw [if_neg c0]
    by_cases c1 : A 209 k = 1
    · rw [if_pos c1, if_pos (Or.inr c1)]
    · rw [if_neg c1, if_neg (fun q => q.elim c0 c1)]
theorem qm_isB {s A R : am_M} (md : q_md s A) (w : q_wd A) (e : q_we A R) (mb : q_mb s R) {t r c b : Nat} (ht : t < 4) (hr : r < 30) (hc : c < 6) (hb : b < 4) (hh : R 1 (30 * t + r) ≠ 0) : p_MO_isBroken s (nI t) (nI r) (nI c) (nI (1 + b)) ∧ f_MO_isBroken s (nI t) (nI r) (nI c) (nI (1 + b)) = if q_bk A R t r c b = true then 1 else 0 := by
  have hk : 6 * t + c < 24 := by omega
  have hv : s 230 (180 * t + 6 * r + c) = R 2 (180 * t + 6 * r + c) := mb.2.2 _ (by omega) (by rw [show (180 * t + 6 * r + c) / 6 = 30 * t + r from by omega]; exact hh)
  have vk : vp_in (nI (6 * t + c)) 24 := vp_in_nI hk (by omega)
  have st := qm_stored md hk
  have re := qm_rep mb ht hr hc hh
  have row := qr_isRow md w e mb (A 212 (6 * t + c)) (R 2 (180 * t + 6 * r + c))
  have fl := w.2.2.2.2.1 (6 * t + c) hk
  unfold p_MO_isBroken f_MO_isBroken
  rw [qr_at, nI_clamp (n := 180 * t + 6 * r + c) (by omega), hv, qw_6, nI_add, nI_clamp (n := 6 * t + c) (by omega), md.2 218 (by omega) (by omega), md.2 219 (by omega) (by omega), md.2 209 (by omega) (by omega), md.2 210 (by omega) (by omega), md.2 211 (by omega) (by omega), md.2 212 (by omega) (by omega), st.2, re.2, row.2]
  refine ⟨⟨vp_in_nI (by omega) (by omega), fun _ => ⟨vk, fun _ => trivial, fun _ => ⟨st.1, fun _ => trivial, fun _ => ⟨fun _ => trivial, fun _ => trivial⟩⟩⟩, fun _ => ⟨fun _ => trivial, fun _ => ⟨st.1, fun _ => trivial, fun _ => ⟨fun _ => ⟨vk, fun _ => trivial, fun _ => ⟨re.1, fun _ => trivial, fun _ => trivial⟩⟩, fun _ => ⟨fun _ => ⟨vk, fun _ => ⟨vk, vk, fun _ => trivial, fun _ => trivial⟩, fun _ => trivial⟩, fun _ => ⟨vk, fun _ => ⟨vk, row.1, fun _ => trivial, fun _ => trivial⟩, fun _ => trivial⟩⟩⟩⟩⟩⟩, ?_⟩
  have hb4 : b = 0 ∨ b = 1 ∨ b = 2 ∨ b = 3 := by omega
  rcases hb4 with rfl | rfl | rfl | rfl
  · have n2 : ¬ nI (1 + 0) = 2 := by decide
    have n3 : ¬ nI (1 + 0) = 3 := by decide
    have n1 : nI (1 + 0) = 1 := by decide
    rw [if_neg n2, if_neg n3, if_pos n1]
    by_cases cv : R 2 (180 * t + 6 * r + c) = -1000000
    · rw [if_pos cv, if_neg (fun q => (q_bk0.mp q).2.1 cv)]
    rw [if_neg cv]
    by_cases c0 : A 209 (6 * t + c) = 0
    · rw [if_pos (Or.inl c0), if_neg i10, if_pos c0]
      unfold f_MO_in
      by_cases l1 : R 2 (180 * t + 6 * r + c) < A 210 (6 * t + c)
      · rw [if_pos l1, if_pos rfl, if_pos (q_bk0.mpr ⟨c0, cv, Or.inl l1⟩)]
      · rw [if_neg l1]
        by_cases l2 : A 211 (6 * t + c) < R 2 (180 * t + 6 * r + c)
        · rw [if_pos l2, if_pos rfl, if_pos (q_bk0.mpr ⟨c0, cv, Or.inr l2⟩)]
        · rw [if_neg l2, if_neg i10, if_neg (fun q => (q_bk0.mp q).2.2.elim l1 l2)]
    · rw [if_neg c0, if_neg (fun q => c0 (q_bk0.mp q).1)]
      by_cases cs : A 209 (6 * t + c) = 0 ∨ A 209 (6 * t + c) = 1
      · rw [if_pos cs, if_neg i10]
      · rw [if_neg cs, if_pos rfl]
  · have n2 : nI (1 + 1) = 2 := by decide
    rw [if_pos n2]
    by_cases c6 : A 218 (6 * t + c) = 0
    · rw [if_pos c6, if_neg (fun q => (q_bk1.mp q).1 c6)]
    rw [if_neg c6, if_pos (fl.1.resolve_left c6).2, if_neg i10]
    by_cases cv : R 2 (180 * t + 6 * r + c) = -1000000
    · rw [if_pos cv, if_pos (q_bk1.mpr ⟨c6, cv⟩)]
    · rw [if_neg cv, if_neg (fun q => cv (q_bk1.mp q).2)]
  · have n2 : ¬ nI (1 + 2) = 2 := by decide
    have n3 : nI (1 + 2) = 3 := by decide
    rw [if_neg n2, if_pos n3]
    by_cases cv : R 2 (180 * t + 6 * r + c) = -1000000
    · rw [if_pos cv, if_neg (fun q => (q_bk2.mp q).2.1 cv)]
    rw [if_neg cv]
    by_cases c6 : A 219 (6 * t + c) = 0
    · rw [if_pos c6, if_neg (fun q => (q_bk2.mp q).1 c6)]
      by_cases cs : A 209 (6 * t + c) = 0 ∨ A 209 (6 * t + c) = 1
      · rw [if_pos cs, if_neg i10]
      · rw [if_neg cs, if_pos rfl]
    rw [if_pos (fl.2.resolve_left c6).2, if_neg i10, if_neg c6]
    by_cases ce : q_rep R t r c
    · rw [if_pos ce, if_neg i10, if_pos (q_bk2.mpr ⟨c6, cv, ce⟩)]
    · rw [if_neg ce, if_pos rfl, if_neg (fun q => ce (q_bk2.mp q).2.2)]
  · have n2 : ¬ nI (1 + 3) = 2 := by decide
    have n3 : ¬ nI (1 + 3) = 3 := by decide
    have n1 : ¬ nI (1 + 3) = 1 := by decide
    rw [if_neg n2, if_neg n3, if_neg n1]
    by_cases cv : R 2 (180 * t + 6 * r + c) = -1000000
    · rw [if_pos cv, if_neg (fun q => (q_bk3.mp q).2.1 cv)]
    rw [if_neg cv]
    by_cases c1 : A 209 (6 * t + c) = 1
    · have hx := w.2.2.2.1 _ hk c1
      have h4 := w.1.2
      rw [if_pos (Or.inr c1), if_neg i10, if_pos c1]
      have er : q_isR A R (A 212 (6 * t + c)) (R 2 (180 * t + 6 * r + c)) = if q_hs R (q_tg A (6 * t + c)) (R 2 (180 * t + 6 * r + c)) then 1 else 0 := by
        rw [hx.1]
        unfold q_isR
        rw [show q_isT A (nI (q_tg A (6 * t + c))) = 1 from q_in_1 hx.2 (by omega), if_neg i10, show q_c (nI (q_tg A (6 * t + c))) = q_tg A (6 * t + c) from nI_clamp (by omega)]
      rw [er]
      by_cases hq : q_hs R (q_tg A (6 * t + c)) (R 2 (180 * t + 6 * r + c))
      · rw [if_pos hq, if_neg i10, if_neg (fun q => (q_bk3.mp q).2.2 hq)]
      · rw [if_neg hq, if_pos rfl, if_pos (q_bk3.mpr ⟨c1, cv, hq⟩)]
    · rw [if_neg c1, if_neg (fun q => c1 (q_bk3.mp q).1)]
      by_cases cs : A 209 (6 * t + c) = 0 ∨ A 209 (6 * t + c) = 1
      · rw [if_pos cs, if_neg i10]
      · rw [if_neg cs, if_pos rfl]
theorem qm_ho {s U R : am_M} {A : am_M} (e : q_we A R) (um : q_um s U) (uw : q_uw U) (mb : q_mb s R) {t r j : Nat} (ht : t < 4) (hr : r < 30) (hj : j < q_c (U 207 17)) : (R 1 (30 * t + r) ≠ 0 → U 222 j = nI t → p_MO_doesHold s (nI j) (nI r) ∧ f_MO_doesHold s (nI j) (nI r) = q_ho (U 224 j) (U 226 j) (R 2 (180 * t + 6 * r + q_c (U 223 j))) (R 2 (180 * t + 6 * r + q_c (U 225 j)))) := by
  intro hh h22
  have h8 := uw.1.2
  obtain ⟨⟨t9, a9, b9, g1, g2, g3, g4, g5, g6⟩, hm⟩ := (uw.2 j (by omega)).1 hj
  have va := e.2.2 (180 * t + 6 * r + a9) (by omega) (by rw [show (180 * t + 6 * r + a9) / 6 = 30 * t + r from by omega]; exact hh)
  have vb := e.2.2 (180 * t + 6 * r + b9) (by omega) (by rw [show (180 * t + 6 * r + b9) / 6 = 30 * t + r from by omega]; exact hh)
  have ea : s 230 (180 * t + 6 * r + a9) = R 2 (180 * t + 6 * r + a9) := mb.2.2 _ (by omega) (by rw [show (180 * t + 6 * r + a9) / 6 = 30 * t + r from by omega]; exact hh)
  have eb : s 230 (180 * t + 6 * r + b9) = R 2 (180 * t + 6 * r + b9) := mb.2.2 _ (by omega) (by rw [show (180 * t + 6 * r + b9) / 6 = 30 * t + r from by omega]; exact hh)
  have v8 : vp_in (nI j) 8 := vp_in_nI (by omega) (by omega)
  have w1 : vp_in (nI (180 * t + 6 * r + a9)) 720 := vp_in_nI (by omega) (by omega)
  have w2 : vp_in (nI (180 * t + 6 * r + b9)) 720 := vp_in_nI (by omega) (by omega)
  unfold p_MO_doesHold f_MO_doesHold p_MO_doesHold_66 f_MO_doesHold_66
  rw [nI_clamp (n := j) (by omega), um.2 222 (by omega) (by omega), um.2 223 (by omega) (by omega), um.2 224 (by omega) (by omega), um.2 225 (by omega) (by omega), um.2 226 (by omega) (by omega), h22, g5, g6, qr_at, qr_at, nI_clamp (n := 180 * t + 6 * r + a9) (by omega), nI_clamp (n := 180 * t + 6 * r + b9) (by omega), ea, eb, show q_c (nI a9) = a9 from nI_clamp (by omega), show q_c (nI b9) = b9 from nI_clamp (by omega)]
  generalize R 2 (180 * t + 6 * r + a9) = a at *
  generalize R 2 (180 * t + 6 * r + b9) = b at *
  generalize U 226 j = m at *
  refine ⟨⟨v8, v8, w1, v8, v8, w2, v8, fun _ => ⟨fun _ => ⟨fun _ => ⟨fun _ => trivial, fun _ => trivial⟩, fun _ => ⟨fun _ => trivial, fun _ => trivial⟩⟩, fun _ => ⟨fun _ => ⟨fun _ => trivial, fun _ => trivial⟩, fun _ => ⟨fun _ => trivial, fun _ => trivial⟩⟩⟩, fun _ => ⟨fun _ => trivial, fun _ => ⟨fun _ => trivial, fun _ => ⟨v8, v8, fun _ => ⟨fun _ => trivial, fun _ => trivial⟩, fun _ => ⟨v8, fun _ => ⟨fun _ => trivial, fun _ => trivial⟩, fun _ => ⟨fun _ => trivial, fun _ => trivial⟩⟩⟩⟩⟩⟩, ?_⟩
  have n01 : ¬ (0 : Int32) = 1 := by decide
  have z0 : (0 : Int32).toInt = 0 := by decide
  have hs : (b + m).toInt = b.toInt + m.toInt := by
    rw [Int32.toInt_add]
    exact Int.bmod_eq_of_le (by have := vb.1; have := hm.1; omega) (by have := vb.2; have := hm.2; omega)
  have hd1 : (a - b).toInt = a.toInt - b.toInt := by
    rw [Int32.toInt_sub]
    exact Int.bmod_eq_of_le (by have := va.1; have := vb.2; omega) (by have := va.2; have := vb.1; omega)
  have hd : (a - b - m).toInt = a.toInt - b.toInt - m.toInt := by
    rw [Int32.toInt_sub, hd1]
    exact Int.bmod_eq_of_le (by have := va.1; have := vb.2; have := hm.2; omega) (by have := va.2; have := vb.1; have := hm.1; omega)
  have heq : a - b - m = 0 ↔ a = b + m := by
    rw [← Int32.toInt_inj, ← Int32.toInt_inj, hd, hs, z0]
    omega
  unfold q_ho
  by_cases c3 : U 224 j = 3
  · rw [if_pos c3, if_pos c3]
    by_cases ca : a = -1000000
    · by_cases cb : b = -1000000
      · rw [if_pos ca, if_pos cb, if_pos rfl, if_pos ⟨fun _ => cb, fun _ => ca⟩]
      · rw [if_pos ca, if_neg cb, if_neg i10, if_neg (fun q => cb (q.mp ca))]
    · by_cases cb : b = -1000000
      · rw [if_neg ca, if_pos cb, if_neg n01, if_neg (fun q => ca (q.mpr cb))]
      · rw [if_neg ca, if_neg cb, if_pos rfl, if_pos ⟨fun q => absurd q ca, fun q => absurd q cb⟩]
  rw [if_neg c3, if_neg c3]
  by_cases ca : a = -1000000
  · rw [if_pos ca, if_pos ca]
  rw [if_neg ca, if_neg ca]
  by_cases cb : b = -1000000
  · rw [if_pos cb, if_pos cb]
  rw [if_neg cb, if_neg cb]
  by_cases c0 : U 224 j = 0
  · rw [if_pos c0, if_pos c0]
    by_cases l : 0 < a - b - m
    · rw [if_pos l, if_neg]
      rw [Int32.lt_iff_toInt_lt, hd, z0] at l; omega
    · rw [if_neg l, if_pos]
      rw [Int32.lt_iff_toInt_lt, hd, z0] at l; omega
  rw [if_neg c0, if_neg c0]
  by_cases c1 : U 224 j = 1
  · rw [if_pos c1, if_pos c1]
    by_cases q : a = b + m
    · rw [if_pos (heq.mpr q), if_pos q]
    · rw [if_neg (fun z => q (heq.mp z)), if_neg q]
  · rw [if_neg c1, if_neg c1]
    by_cases q : a = b + m
    · rw [if_pos (heq.mpr q), if_pos q]
    · rw [if_neg (fun z => q (heq.mp z)), if_neg q]
theorem q_md_G {s A : am_M} {b : Int32} {n : Nat} {l : List q_It} (h : q_md s A) : q_md (q_G b s n l) A := q_md_out q_G_o (fun a b q => by omega) h
theorem q_mb_G {s A : am_M} {b : Int32} {n : Nat} {l : List q_It} (h : q_mb s A) : q_mb (q_G b s n l) A := q_mb_out q_G_o (fun a b q => by omega) h
theorem q_um_G {s A : am_M} {b : Int32} {n : Nat} {l : List q_It} (h : q_um s A) : q_um (q_G b s n l) A := q_um_out q_G_o (fun a b q => by omega) h
/-- one more thing that is broken: the model's count and what it tells -/
theorem qm_hit {b : Int32} {m : Nat} (hm : m < 2000) {s : am_M} {x : q_It} {K : am_M → Int32 → Int32 × am_M} : (if b = 0 then K s (nI m + 1) else if nI m + 1 = 1 then K (f_MO_told s (nI x.1) (nI x.2.1) (nI x.2.2.1) (nI x.2.2.2)).2 (nI m + 1) else K s (nI m + 1)) = K (q_G b s m [x]) (nI (m + 1)) := by
  rw [nI_1]
  have h1 : (nI (m + 1) = 1) ↔ m = 0 := by
    rw [show (1 : Int32) = nI 1 from rfl, nI_eq (by omega) (by omega)]; omega
  show _ = K (if b ≠ 0 ∧ m = 0 then _ else s) _
  by_cases cb : b = 0
  · rw [if_pos cb, if_neg (fun q => q.1 cb)]
  · rw [if_neg cb]
    by_cases c0 : m = 0
    · rw [if_pos (h1.mpr c0), if_pos ⟨cb, c0⟩]
    · rw [if_neg (fun q => c0 (h1.mp q)), if_neg (fun q => c0 q.2)]
theorem qm_hitp {b : Int32} {m : Nat} (hm : m < 2000) {s : am_M} {x : q_It} {KP : am_M → Int32 → Prop} (h : KP (q_G b s m [x]) (nI (m + 1))) : ((b = 0) → KP s (nI m + 1)) ∧ (¬ (b = 0) → ((nI m + 1 = 1) → KP (f_MO_told s (nI x.1) (nI x.2.1) (nI x.2.2.1) (nI x.2.2.2)).2 (nI m + 1)) ∧ (¬ (nI m + 1 = 1) → KP s (nI m + 1))) := by
  rw [nI_1]
  have h1 : (nI (m + 1) = 1) ↔ m = 0 := by
    rw [show (1 : Int32) = nI 1 from rfl, nI_eq (by omega) (by omega)]; omega
  have h2 : KP (if b ≠ 0 ∧ m = 0 then (f_MO_told s (nI x.1) (nI x.2.1) (nI x.2.2.1) (nI x.2.2.2)).2 else s) (nI (m + 1)) := h
  refine ⟨fun cb => ?_, fun cb => ⟨fun c0 => ?_, fun c0 => ?_⟩⟩
  · rw [if_neg (fun q => q.1 cb)] at h2; exact h2
  · rw [if_pos ⟨cb, h1.mp c0⟩] at h2; exact h2
  · rw [if_neg (fun q => c0 (h1.mpr q.2))] at h2; exact h2
theorem qm_77 {A R U : am_M} (e : q_we A R) (uw : q_uw U) {t r : Nat} (ht : t < 4) (hr : r < 30) (hh : R 1 (30 * t + r) ≠ 0) (b : Int32) : ∀ (d j n m : Nat) (s : am_M), j + d = q_c (U 207 17) → d < n → m + d < 2000 → q_mb s R → q_um s U → p_MO_brokenIn_77 n s (nI t) (nI r) b (nI m) (nI j) ∧ f_MO_brokenIn_77 n s (nI t) (nI r) b (nI m) (nI j) = (nI (m + (q_br U R t r d j).length), q_G b s m (q_br U R t r d j)) := by
  have h8 := uw.1.2
  intro d
  induction d with
  | zero =>
    intro j n m s h1 h2 h3 mb um
    obtain ⟨n, rfl⟩ : ∃ k, n = k + 1 := ⟨n - 1, by omega⟩
    have c : s 207 17 ≤ nI j := by rw [um.1, uw.1.1]; exact qn_le (by omega) (by omega)
    unfold p_MO_brokenIn_77 f_MO_brokenIn_77
    rw [if_pos c]
    exact ⟨⟨fun _ => trivial, fun q => absurd c q⟩, rfl⟩
  | succ d ih =>
    intro j n m s h1 h2 h3 mb um
    obtain ⟨n, rfl⟩ : ∃ k, n = k + 1 := ⟨n - 1, by omega⟩
    have hj : j < q_c (U 207 17) := by omega
    have c : ¬ s 207 17 ≤ nI j := by rw [um.1, uw.1.1]; exact nI_ge (by omega) (by omega)
    have v8 : vp_in (nI j) 8 := vp_in_nI (by omega) (by omega)
    have skip := ih (j + 1) n m s (by omega) (by omega) (by omega) mb um
    have hit := ih (j + 1) n (m + 1) (q_G b s m [(5, t, r, j)]) (by omega) (by omega) (by omega) (q_mb_G mb) (q_um_G um)
    have el : q_br U R t r (d + 1) j = q_r1 U R t r j ++ q_br U R t r d (j + 1) := rfl
    unfold p_MO_brokenIn_77 f_MO_brokenIn_77 p_MO_brokenIn_140 f_MO_brokenIn_140
    rw [if_neg c, nI_clamp (n := j) (by omega), um.2 227 (by omega) (by omega), um.2 222 (by omega) (by omega), nI_1 j]
    by_cases c5 : U 227 j = 0
    rotate_left
    · have z : q_r1 U R t r j = [] := if_neg (fun q => c5 q.1)
      rw [if_neg c5, el, z]
      exact ⟨⟨fun q => absurd q c, fun _ => ⟨v8, fun q => absurd q c5, fun _ => skip.1⟩⟩, skip.2⟩
    rw [if_pos c5]
    by_cases c0 : U 222 j = nI t
    rotate_left
    · have z : q_r1 U R t r j = [] := if_neg (fun q => c0 q.2.1)
      rw [if_neg c0, el, z]
      exact ⟨⟨fun q => absurd q c, fun _ => ⟨v8, fun _ => ⟨v8, fun q => absurd q c0, fun _ => skip.1⟩, fun _ => skip.1⟩⟩, skip.2⟩
    have hho := qm_ho e um uw mb ht hr hj hh c0
    rw [if_pos c0, hho.2]
    by_cases ch : q_ho (U 224 j) (U 226 j) (R 2 (180 * t + 6 * r + q_c (U 223 j))) (R 2 (180 * t + 6 * r + q_c (U 225 j))) = 0
    · have z : q_r1 U R t r j = [(5, t, r, j)] := if_pos ⟨c5, c0, ch⟩
      have ga := @q_G_a b s m [(5, t, r, j)] (q_br U R t r d (j + 1))
      rw [if_pos ch, el, z]
      refine ⟨⟨fun q => absurd q c, fun _ => ⟨v8, fun _ => ⟨v8, fun _ => ⟨hho.1, fun _ => ?_, fun q => absurd ch q⟩, fun q => absurd c0 q⟩, fun q => absurd c5 q⟩⟩, ?_⟩
      · exact qm_hitp (b := b) (m := m) (by omega) (s := s) (x := (5, t, r, j)) (KP := fun s x => p_MO_brokenIn_77 n s (nI t) (nI r) b x (nI (j + 1))) hit.1
      · have hk := qm_hit (b := b) (m := m) (by omega) (s := s) (x := (5, t, r, j)) (K := fun s x => f_MO_brokenIn_77 n s (nI t) (nI r) b x (nI (j + 1)))
        refine hk.trans (hit.2.trans ?_)
        rw [← ga, List.length_append, show m + 1 + (q_br U R t r d (j + 1)).length = m + ([((5 : Nat), t, r, j)].length + (q_br U R t r d (j + 1)).length) from by rw [List.length_singleton]; omega]
        rfl
    · have z : q_r1 U R t r j = [] := if_neg (fun q => ch q.2.2)
      rw [if_neg ch, el, z]
      exact ⟨⟨fun q => absurd q c, fun _ => ⟨v8, fun _ => ⟨v8, fun _ => ⟨hho.1, fun q => absurd q ch, fun _ => skip.1⟩, fun q => absurd c0 q⟩, fun q => absurd c5 q⟩⟩, skip.2⟩
theorem qmb_6 {A R U : am_M} (w : q_wd A) (e : q_we A R) (uw : q_uw U) {t r : Nat} (ht : t < 4) (hr : r < 30) (hh : R 1 (30 * t + r) ≠ 0) (b : Int32) : ∀ (d i n m : Nat) (s : am_M), i + d = 4 * q_w A t → d < n → m + d < 1000 → q_md s A → q_mb s R → q_um s U → p_MO_brokenIn_6 n s (nI t) (nI r) b (nI m) (nI i) ∧ f_MO_brokenIn_6 n s (nI t) (nI r) b (nI m) (nI i) = (nI (m + (q_bi A R t r d i ++ q_br U R t r (q_c (U 207 17)) 0).length), q_G b s m (q_bi A R t r d i ++ q_br U R t r (q_c (U 207 17)) 0)) := by
  have hw6 := w.2.1 t ht
  have h8 := uw.1.2
  intro d
  induction d with
  | zero =>
    intro i n m s h1 h2 h3 md mb um
    obtain ⟨n, rfl⟩ : ∃ k, n = k + 1 := ⟨n - 1, by omega⟩
    have h := qm_77 e uw ht hr hh b (q_c (U 207 17)) 0 am_F m s (by omega) (by rw [am_F_eq]; omega) (by omega) mb um
    rw [nI_0] at h
    have c : nI (4 * q_w A t) ≤ nI i := qn_le (by omega) (by omega)
    unfold p_MO_brokenIn_6 f_MO_brokenIn_6 p_MO_brokenIn_74 f_MO_brokenIn_74
    rw [nI_clamp (n := t) (by omega), md.2 208 (by omega) (by omega), hw6.1, qw_4, show q_w A t = q_w A t from rfl]
    have e9 : q_c (nI (q_w A t)) = q_w A t := nI_clamp (by omega)
    rw [if_pos c]
    exact ⟨⟨vp_in_nI ht (by omega), fun _ => h.1, fun q => absurd c q⟩, h.2⟩
  | succ d ih =>
    intro i n m s h1 h2 h3 md mb um
    obtain ⟨n, rfl⟩ : ∃ k, n = k + 1 := ⟨n - 1, by omega⟩
    have c : ¬ nI (4 * q_w A t) ≤ nI i := nI_ge (by omega) (by omega)
    have hb := qm_isB md w e mb ht hr (show i / 4 < 6 by omega) (show i % 4 < 4 by omega) hh
    have skip := ih (i + 1) n m s (by omega) (by omega) (by omega) md mb um
    have hit := ih (i + 1) n (m + 1) (q_G b s m [(1 + i % 4, t, r, i / 4)]) (by omega) (by omega) (by omega) (q_md_G md) (q_mb_G mb) (q_um_G um)
    have el : q_bi A R t r (d + 1) i ++ q_br U R t r (q_c (U 207 17)) 0 = q_b1 A R t r i ++ (q_bi A R t r d (i + 1) ++ q_br U R t r (q_c (U 207 17)) 0) := by
      show (q_b1 A R t r i ++ q_bi A R t r d (i + 1)) ++ _ = _
      rw [List.append_assoc]
    have e1 : (1 : Int32) + nI (i % 4) = nI (1 + i % 4) := nI_add 1 (i % 4)
    unfold p_MO_brokenIn_6 f_MO_brokenIn_6 p_MO_brokenIn_68 f_MO_brokenIn_68
    rw [nI_clamp (n := t) (by omega), md.2 208 (by omega) (by omega), hw6.1, qw_4, qr_4 (by omega), qd_4 (by omega), e1, hb.2, if_neg c, nI_1 i, el]
    have vt : vp_in (nI t) 4 := vp_in_nI ht (by omega)
    by_cases cb : q_bk A R t r (i / 4) (i % 4) = true
    · have z : q_b1 A R t r i = [(1 + i % 4, t, r, i / 4)] := if_pos cb
      have ga := @q_G_a b s m [(1 + i % 4, t, r, i / 4)] (q_bi A R t r d (i + 1) ++ q_br U R t r (q_c (U 207 17)) 0)
      rw [if_pos cb, if_neg i10, z]
      refine ⟨⟨vt, fun q => absurd q c, fun _ => ⟨hb.1, fun q => absurd q i10, fun _ => ?_⟩⟩, ?_⟩
      · exact qm_hitp (b := b) (m := m) (by omega) (s := s) (x := (1 + i % 4, t, r, i / 4)) (KP := fun s x => p_MO_brokenIn_6 n s (nI t) (nI r) b x (nI (i + 1))) hit.1
      · have hk := qm_hit (b := b) (m := m) (by omega) (s := s) (x := (1 + i % 4, t, r, i / 4)) (K := fun s x => f_MO_brokenIn_6 n s (nI t) (nI r) b x (nI (i + 1)))
        refine hk.trans (hit.2.trans ?_)
        rw [← ga]
        generalize q_bi A R t r d (i + 1) ++ q_br U R t r (q_c (U 207 17)) 0 = L
        rw [show ([(1 + i % 4, t, r, i / 4)] ++ L).length = 1 + L.length from by rw [List.length_append, List.length_singleton], show m + (1 + L.length) = m + 1 + L.length from by omega]
        rfl
    · have z : q_b1 A R t r i = [] := if_neg cb
      rw [if_neg cb, if_pos rfl, z]
      exact ⟨⟨vt, fun q => absurd q c, fun _ => ⟨hb.1, fun _ => skip.1, fun q => absurd rfl q⟩⟩, skip.2⟩
/-- what is broken in a row -/
theorem qmb_row {s A R U : am_M} (md : q_md s A) (w : q_wd A) (e : q_we A R) (mb : q_mb s R) (um : q_um s U) (uw : q_uw U) {t r : Nat} (ht : t < 4) (hr : r < 30) (hh : R 1 (30 * t + r) ≠ 0) (b : Int32) : p_MO_brokenIn s (nI t) (nI r) b ∧ f_MO_brokenIn s (nI t) (nI r) b = (nI (q_row A U R t r).length, q_G b s 0 (q_row A U R t r)) := by
  have hw6 := (w.2.1 t ht).2.1
  have h := qmb_6 w e uw ht hr hh b (4 * q_w A t) 0 am_F 0 s (by omega) (by rw [am_F_eq]; omega) (by omega) md mb um
  rw [nI_0, Nat.zero_add] at h
  exact h
theorem qm_23 {A R U : am_M} (w : q_wd A) (e : q_we A R) (uw : q_uw U) {p : Nat} (hp : p < 120) (b : Int32) (x : Int32) {s : am_M} (md : q_md s A) (mb : q_mb s R) (um : q_um s U) (K4 : am_M → Int32 → Int32 → Int32 → Int32 × am_M) (KP4 : am_M → Int32 → Int32 → Int32 → Prop) : f_MO_allBroken_23 K4 s b x (nI p) = K4 (q_G b s 0 (q_row1 A U R p)) b (x + nI (q_row1 A U R p).length) (nI (p + 1)) ∧ (KP4 (q_G b s 0 (q_row1 A U R p)) b (x + nI (q_row1 A U R p).length) (nI (p + 1)) → p_MO_allBroken_23 KP4 s b x (nI p)) := by
  have v : vp_in (nI p) 120 := vp_in_nI hp (by omega)
  unfold p_MO_allBroken_23 f_MO_allBroken_23 p_MO_allBroken_50 f_MO_allBroken_50
  rw [nI_clamp (n := p) (by omega), mb.2.1 p hp, qr_30 (by omega), qd_30 (by omega), nI_1]
  unfold q_row1
  by_cases hh : R 1 p = 0
  · rw [if_pos hh, if_pos rfl, if_pos hh]
    exact ⟨rfl, fun h => ⟨v, fun _ => h, fun q => absurd rfl q⟩⟩
  · have h := qmb_row md w e mb um uw (t := p / 30) (r := p % 30) (by omega) (by omega) (by rw [show 30 * (p / 30) + p % 30 = p from by omega]; exact hh) b
    rw [if_neg hh, if_neg i10, if_neg hh, h.2]
    exact ⟨rfl, fun g => ⟨v, fun q => absurd q i10, fun _ => ⟨h.1, g⟩⟩⟩
theorem q_G_0 {s : am_M} {n : Nat} {l : List q_It} : q_G 0 s n l = s := by
  cases l with
  | nil => rfl
  | cons x l =>
    have hn : ¬ ((0 : Int32) ≠ 0 ∧ n = 0) := fun q => q.1 rfl
    exact if_neg (t := (f_MO_told s (nI x.1) (nI x.2.1) (nI x.2.2.1) (nI x.2.2.2)).2) hn
theorem qm_all0 {A R U : am_M} (w : q_wd A) (e : q_we A R) (uw : q_uw U) : ∀ (d p n : Nat) (s : am_M) (x : Int32), p + d = 30 * q_nt A → d < n → q_md s A → q_mb s R → q_um s U → p_MO_allBroken_4 n s 0 x (nI p) ∧ f_MO_allBroken_4 n s 0 x (nI p) = (x + nI (q_all A U R d p).length, s) := by
  have h4 := w.1.2
  intro d
  induction d with
  | zero =>
    intro p n s x h1 h2 md mb um
    obtain ⟨n, rfl⟩ : ∃ k, n = k + 1 := ⟨n - 1, by omega⟩
    have c : (30 : Int32) * s 207 1 ≤ nI p := by rw [md.1, w.1.1, qw_30]; exact qn_le (by omega) (by omega)
    unfold p_MO_allBroken_4 f_MO_allBroken_4
    rw [if_pos c]
    refine ⟨⟨fun _ => trivial, fun q => absurd c q⟩, ?_⟩
    show (x, s) = (x + nI ([] : List q_It).length, s)
    rw [q_one]
  | succ d ih =>
    intro p n s x h1 h2 md mb um
    obtain ⟨n, rfl⟩ : ∃ k, n = k + 1 := ⟨n - 1, by omega⟩
    have c : ¬ (30 : Int32) * s 207 1 ≤ nI p := by rw [md.1, w.1.1, qw_30]; exact nI_ge (by omega) (by omega)
    have h := qm_23 w e uw (show p < 120 by omega) 0 x md mb um (f_MO_allBroken_4 n) (p_MO_allBroken_4 n)
    rw [q_G_0] at h
    have g := ih (p + 1) n s (x + nI (q_row1 A U R p).length) (by omega) (by omega) md mb um
    rw [q_addl] at g
    unfold p_MO_allBroken_4 f_MO_allBroken_4
    rw [if_neg c]
    refine ⟨⟨fun q => absurd q c, fun _ => ⟨fun _ => h.2 g.1, fun _ => ⟨fun _ => h.2 g.1, fun q => absurd rfl q⟩⟩⟩, ?_⟩
    have hg := h.1.trans g.2
    by_cases cx : x = 0
    · rw [if_pos cx]; exact hg
    · rw [if_neg cx, if_pos rfl]; exact hg
theorem qm_all1 {A R U : am_M} (w : q_wd A) (e : q_we A R) (uw : q_uw U) : ∀ (d p n : Nat) (s : am_M), p + d = 30 * q_nt A → d < n → q_md s A → q_mb s R → q_um s U → p_MO_allBroken_4 n s 1 0 (nI p) ∧ ∃ x : Int32, (x = 0 ↔ q_all A U R d p = []) ∧ f_MO_allBroken_4 n s 1 0 (nI p) = (x, q_G 1 s 0 (q_all A U R d p)) := by
  have h4 := w.1.2
  intro d
  induction d with
  | zero =>
    intro p n s h1 h2 md mb um
    obtain ⟨n, rfl⟩ : ∃ k, n = k + 1 := ⟨n - 1, by omega⟩
    have c : (30 : Int32) * s 207 1 ≤ nI p := by rw [md.1, w.1.1, qw_30]; exact qn_le (by omega) (by omega)
    unfold p_MO_allBroken_4 f_MO_allBroken_4
    rw [if_pos c]
    exact ⟨⟨fun _ => trivial, fun q => absurd c q⟩, 0, ⟨fun _ => rfl, fun _ => rfl⟩, rfl⟩
  | succ d ih =>
    intro p n s h1 h2 md mb um
    obtain ⟨n, rfl⟩ : ∃ k, n = k + 1 := ⟨n - 1, by omega⟩
    have c : ¬ (30 : Int32) * s 207 1 ≤ nI p := by rw [md.1, w.1.1, qw_30]; exact nI_ge (by omega) (by omega)
    have h := qm_23 w e uw (show p < 120 by omega) 1 0 md mb um (f_MO_allBroken_4 n) (p_MO_allBroken_4 n)
    rw [Int32.zero_add] at h
    have hlen := @q_row1_len A U R w uw p (by omega)
    have el : q_all A U R (d + 1) p = q_row1 A U R p ++ q_all A U R d (p + 1) := rfl
    have ff : f_MO_allBroken_4 (n + 1) s 1 0 (nI p) = f_MO_allBroken_23 (f_MO_allBroken_4 n) s 1 0 (nI p) := by
      conv => lhs; unfold f_MO_allBroken_4
      rw [if_neg c, if_pos rfl]
    have pp : p_MO_allBroken_23 (p_MO_allBroken_4 n) s 1 0 (nI p) → p_MO_allBroken_4 (n + 1) s 1 0 (nI p) := fun q9 => by
      unfold p_MO_allBroken_4
      exact ⟨fun q => absurd q c, fun _ => ⟨fun _ => q9, fun q => absurd rfl q⟩⟩
    rw [ff, el]
    by_cases z : q_row1 A U R p = []
    · rw [z] at h ⊢
      obtain ⟨g1, x, g2, g3⟩ := ih (p + 1) n s (by omega) (by omega) md mb um
      exact ⟨pp (h.2 g1), x, g2, h.1.trans g3⟩
    · have hpos : 0 < (q_row1 A U R p).length := List.length_pos_iff.mpr z
      have hne : nI (q_row1 A U R p).length ≠ 0 := nI_ne0 hpos (by omega)
      have hG : q_G 1 s 0 (q_row1 A U R p ++ q_all A U R d (p + 1)) = q_G 1 s 0 (q_row1 A U R p) := by
        cases hz : q_row1 A U R p with
        | nil => exact absurd hz z
        | cons y l => rfl
      -- the next turn ends
      obtain ⟨n, rfl⟩ : ∃ k, n = k + 1 := ⟨n - 1, by omega⟩
      have st : p_MO_allBroken_4 (n + 1) (q_G 1 s 0 (q_row1 A U R p)) 1 (nI (q_row1 A U R p).length) (nI (p + 1)) ∧ f_MO_allBroken_4 (n + 1) (q_G 1 s 0 (q_row1 A U R p)) 1 (nI (q_row1 A U R p).length) (nI (p + 1)) = (nI (q_row1 A U R p).length, q_G 1 s 0 (q_row1 A U R p)) := by
        unfold p_MO_allBroken_4 f_MO_allBroken_4
        rw [if_neg hne, if_neg i10]
        refine ⟨⟨fun _ => trivial, fun _ => ⟨fun q => absurd q hne, fun _ => ⟨fun q => absurd q i10, fun _ => trivial⟩⟩⟩, ?_⟩
        by_cases cc : (30 : Int32) * q_G 1 s 0 (q_row1 A U R p) 207 1 ≤ nI (p + 1)
        · rw [if_pos cc]
        · rw [if_neg cc]
      refine ⟨pp (h.2 st.1), nI (q_row1 A U R p).length, ⟨fun q => absurd q hne, fun q => absurd (List.append_eq_nil_iff.mp q).1 z⟩, ?_⟩
      rw [hG]; exact h.1.trans st.2
theorem qm_broken0 {s A R U : am_M} (md : q_md s A) (w : q_wd A) (e : q_we A R) (mb : q_mb s R) (um : q_um s U) (uw : q_uw U) : p_MO_allBroken s 0 ∧ f_MO_allBroken s 0 = (nI (q_brk A U R).length, s) := by
  have h4 := w.1.2
  have h := qm_all0 w e uw (30 * q_nt A) 0 am_F s 0 (by omega) (by rw [am_F_eq]; omega) md mb um
  rw [nI_0, Int32.zero_add] at h
  exact h
theorem qm_broken1 {s A R U : am_M} (md : q_md s A) (w : q_wd A) (e : q_we A R) (mb : q_mb s R) (um : q_um s U) (uw : q_uw U) : p_MO_allBroken s 1 ∧ ∃ x : Int32, (x = 0 ↔ q_brk A U R = []) ∧ f_MO_allBroken s 1 = (x, q_G 1 s 0 (q_brk A U R)) := by
  have h4 := w.1.2
  have h := qm_all1 w e uw (30 * q_nt A) 0 am_F s (by omega) (by rw [am_F_eq]; omega) md mb um
  rw [nI_0] at h
  exact h
end
