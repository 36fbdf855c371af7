noncomputable section
-- narrow: the cells outside are blanked
/-- rows below j of a column, blanked where they lie outside -/
def q_na (R : am_M) (t c : Nat) (lo hi : Int32) (j : Nat) : am_M := fun a y => if a = 2 ∧ y / 180 = t ∧ y % 6 = c ∧ y / 6 % 30 < j ∧ q_ou R t c lo hi (y / 6 % 30) then -1000000 else R a y
theorem q_na_0 {R : am_M} {t c : Nat} {lo hi : Int32} : q_na R t c lo hi 0 = R := by
  funext a y; unfold q_na; rw [if_neg (fun q => by omega)]
theorem q_na_r {R : am_M} {t c j : Nat} {lo hi : Int32} {a : Nat} (h : a ≠ 2) : q_na R t c lo hi j a = R a := by
  funext y; unfold q_na; rw [if_neg (fun q => h q.1)]
theorem q_na_at {R : am_M} {t c j : Nat} {lo hi : Int32} {y : Nat} (h : ¬ (y / 180 = t ∧ y % 6 = c ∧ y / 6 % 30 < j)) : q_na R t c lo hi j 2 y = R 2 y := by
  unfold q_na; rw [if_neg (fun q => h ⟨q.2.1, q.2.2.1, q.2.2.2.1⟩)]
theorem q_na_s {R : am_M} {t c j : Nat} {lo hi : Int32} (ht : t < 4) (hc : c < 6) (hj : j < 30) (h : q_ou R t c lo hi j) : q_na R t c lo hi (j + 1) = q_put (q_na R t c lo hi j) (180 * t + 6 * j + c) (-1000000) := by
  funext a y
  unfold q_put
  by_cases e : a = 2 ∧ y = 180 * t + 6 * j + c
  · rw [if_pos e]
    unfold q_na
    have e1 : y / 6 % 30 = j := by omega
    rw [if_pos ⟨e.1, by omega, by omega, by omega, by rw [e1]; exact h⟩]
  · rw [if_neg e]
    unfold q_na
    by_cases g : a = 2 ∧ y / 180 = t ∧ y % 6 = c ∧ y / 6 % 30 < j ∧ q_ou R t c lo hi (y / 6 % 30)
    · rw [if_pos g, if_pos ⟨g.1, g.2.1, g.2.2.1, by omega, g.2.2.2.2⟩]
    · rw [if_neg g, if_neg (fun q => g ⟨q.1, q.2.1, q.2.2.1, by
        have h1 := q.1
        have h2 := q.2.1
        have h3 := q.2.2.1
        have h4 := q.2.2.2.1
        omega, q.2.2.2.2⟩)]
theorem q_na_n {R : am_M} {t c j : Nat} {lo hi : Int32} (h : ¬ q_ou R t c lo hi j) : q_na R t c lo hi (j + 1) = q_na R t c lo hi j := by
  funext a y
  unfold q_na
  by_cases g : a = 2 ∧ y / 180 = t ∧ y % 6 = c ∧ y / 6 % 30 < j ∧ q_ou R t c lo hi (y / 6 % 30)
  · rw [if_pos g, if_pos ⟨g.1, g.2.1, g.2.2.1, by omega, g.2.2.2.2⟩]
  · rw [if_neg g, if_neg (fun q => g ⟨q.1, q.2.1, q.2.2.1, by
      have h4 := q.2.2.2.1
      by_cases e : y / 6 % 30 = j
      · rw [e] at q; exact absurd q.2.2.2.2 h
      · omega, q.2.2.2.2⟩)]
theorem q_na_we {A R : am_M} {t c j : Nat} {lo hi : Int32} (e : q_we A R) : q_we A (q_na R t c lo hi j) := by
  obtain ⟨e1, e2, e3⟩ := e
  unfold q_we
  rw [q_na_r (by omega), q_na_r (by omega)]
  refine ⟨e1, e2, fun y hy hh => ?_⟩
  unfold q_na
  by_cases q : 2 = 2 ∧ y / 180 = t ∧ y % 6 = c ∧ y / 6 % 30 < j ∧ q_ou R t c lo hi (y / 6 % 30)
  · rw [if_pos q]; unfold q_v; decide
  · rw [if_neg q]; exact e3 y hy hh
/-- behind the rows that were made there is none -/
theorem q_na_made {A R : am_M} (e : q_we A R) {t c : Nat} (ht : t < 4) {lo hi : Int32} : q_na R t c lo hi 30 = q_na R t c lo hi (q_c (R 0 t)) := by
  funext a y
  unfold q_na
  by_cases g : a = 2 ∧ y / 180 = t ∧ y % 6 = c ∧ y / 6 % 30 < 30 ∧ q_ou R t c lo hi (y / 6 % 30)
  · have hr := (q_we_r e ht g.2.2.2.1 g.2.2.2.2.1).1
    rw [if_pos g, if_pos ⟨g.1, g.2.1, g.2.2.1, hr, g.2.2.2.2⟩]
  · rw [if_neg g, if_neg (fun q => g ⟨q.1, q.2.1, q.2.2.1, Nat.mod_lt _ (by omega), q.2.2.2.2⟩)]
theorem qb_iso (s : am_M) (v lo hi : Int32) : f_BA_isOutside s v lo hi = if v ≠ -1000000 ∧ (v < lo ∨ hi < v) then 1 else 0 := by
  unfold f_BA_isOutside
  by_cases g : v = -1000000
  · rw [if_pos g, if_neg (fun q => q.1 g)]
  · rw [if_neg g]
    by_cases g2 : v < lo
    · rw [if_pos g2, if_pos ⟨g, Or.inl g2⟩]
    · rw [if_neg g2]
      by_cases g3 : v ≤ hi
      · rw [if_pos g3, if_neg (fun q => q.2.elim g2 (fun z => pr_le.mp z g3))]
      · rw [if_neg g3, if_pos ⟨g, Or.inr (pr_le.mpr g3)⟩]
/-- a cell of a row that isn't there -/
theorem q_cb_gone {s R : am_M} {x : Nat} {v : Int32} (h : q_cb s 9 10 11 R) (hx : R 1 (x / 6) = 0) : q_cb (am_set s 11 x v) 9 10 11 R := by
  obtain ⟨c1, c2, c3⟩ := h
  refine ⟨fun t ht => ?_, fun p hp => ?_, fun y hy hh => ?_⟩
  · rw [am_set_o (by omega)]; exact c1 t ht
  · rw [am_set_o (by omega)]; exact c2 p hp
  · rw [am_set_p (Or.inr (fun q => hh (by rw [q]; exact hx)))]; exact c3 y hy hh
theorem qc_nar {R : am_M} {t c : Nat} (ht : t < 4) (hc : c < 6) (lo hi : Int32) (k : Nat) (l0 h0 : Int32) : ∀ (d j n : Nat) (s : am_M), j + d = 30 → d < n → q_cb s 9 10 11 (q_na R t c lo hi j) → ∃ S, q_out s S (fun a _ => a = 11) ∧ q_cb S 9 10 11 (q_na R t c lo hi 30) ∧ f_BA_changeRange_42 n s (nI t) (nI c) lo hi k l0 h0 (nI j) = f_BA_changeRange_89 S (nI t) (nI c) lo hi k l0 h0 (nI 30) ∧ (p_BA_changeRange_89 S (nI t) (nI c) lo hi k l0 h0 (nI 30) → p_BA_changeRange_42 n s (nI t) (nI c) lo hi k l0 h0 (nI j)) := by
  intro d
  induction d with
  | zero =>
    intro j n s hjd hn cb
    obtain ⟨n, rfl⟩ : ∃ m, n = m + 1 := ⟨n - 1, by omega⟩
    obtain rfl : j = 30 := by omega
    have g : (30 : Int32) ≤ nI 30 := qg_30 (by omega) (by omega)
    refine ⟨s, fun _ _ _ => rfl, cb, ?_, fun hp => ?_⟩
    · unfold f_BA_changeRange_42; rw [if_pos g]
    · unfold p_BA_changeRange_42; exact ⟨fun _ => hp, fun q => absurd g q⟩
  | succ d ih =>
    intro j n s hjd hn cb
    obtain ⟨n, rfl⟩ : ∃ m, n = m + 1 := ⟨n - 1, by omega⟩
    have g : ¬ (30 : Int32) ≤ nI j := ql_30 (by omega)
    have ex : (180 * t + 6 * j + c) / 6 = 30 * t + j := by omega
    have e1 : nI j + (1 : Int32) = nI (j + 1) := nI_add j 1
    have hget := qr_get s ht (show j < 30 by omega) hc
    have hset := qr_set s ht (show j < 30 by omega) hc (-1000000)
    -- the step, whichever way
    have key : ∃ S0, q_out s S0 (fun a _ => a = 11) ∧ q_cb S0 9 10 11 (q_na R t c lo hi (j + 1)) ∧ S0 = (if f_BA_isOutside s (s 11 (180 * t + 6 * j + c)) lo hi = 0 then s else am_set s 11 (180 * t + 6 * j + c) (-1000000)) := by
      refine ⟨_, ?_, ?_, rfl⟩
      · by_cases q : f_BA_isOutside s (s 11 (180 * t + 6 * j + c)) lo hi = 0
        · rw [if_pos q]; exact fun _ _ _ => rfl
        · rw [if_neg q]; exact fun a b hab => am_set_p (by omega)
      · by_cases hh : R 1 (30 * t + j) = 0
        · rw [q_na_n (fun q => q.1 hh)]
          by_cases q : f_BA_isOutside s (s 11 (180 * t + 6 * j + c)) lo hi = 0
          · rw [if_pos q]; exact cb
          · rw [if_neg q]; exact q_cb_gone cb (by rw [ex, q_na_r (by omega)]; exact hh)
        · have hv : s 11 (180 * t + 6 * j + c) = R 2 (180 * t + 6 * j + c) := by
            rw [cb.2.2 _ (by omega) (by rw [ex, q_na_r (by omega)]; exact hh), q_na_at (by omega)]
          rw [hv, qb_iso]
          by_cases q : R 2 (180 * t + 6 * j + c) ≠ -1000000 ∧ (R 2 (180 * t + 6 * j + c) < lo ∨ hi < R 2 (180 * t + 6 * j + c))
          · rw [if_pos q, if_neg i10, q_na_s ht hc (by omega) ⟨hh, q.1, q.2⟩]
            exact q_put_cb (by omega) cb
          · rw [if_neg q, if_pos rfl, q_na_n (fun z => q ⟨z.2.1, z.2.2⟩)]; exact cb
    obtain ⟨S0, o0, cb0, e0⟩ := key
    obtain ⟨S, o1, cbS, f1, p1⟩ := ih (j + 1) n S0 (by omega) (by omega) cb0
    refine ⟨S, q_out_t o0 o1, cbS, ?_, fun hp => ?_⟩
    · unfold f_BA_changeRange_42
      rw [if_neg g, hget, hset.2]
      unfold f_BA_changeRange_83
      rw [e1, ← f1, e0]
      by_cases q : f_BA_isOutside s (s 11 (180 * t + 6 * j + c)) lo hi = 0
      · rw [if_pos q, if_pos q]
      · rw [if_neg q, if_neg q]
    · have hp := p1 hp
      unfold p_BA_changeRange_42
      rw [hget, hset.2]
      unfold p_BA_changeRange_83
      rw [e1]
      refine ⟨fun q => absurd q g, fun _ => ⟨qr_pget _ _ _ _, fun q => ?_, fun q => ⟨hset.1, ?_⟩⟩⟩
      · rw [e0, if_pos q] at hp; exact hp
      · rw [e0, if_neg q] at hp; exact hp
/-- the model blanks -/
theorem qm_nar {A R : am_M} (e : q_we A R) {t c : Nat} (ht : t < 4) (hc : c < 6) {lo hi : Int32} : ∀ (d j n : Nat) (x : Int32) (s : am_M), j + d = q_c (R 0 t) → d < n → q_mb s (q_na R t c lo hi j) → p_MO_beyond_6 n s (nI t) (nI c) lo hi 1 x (nI j) ∧ q_out s (f_MO_beyond_6 n s (nI t) (nI c) lo hi 1 x (nI j)).2 (fun a _ => a = 230) ∧ q_mb (f_MO_beyond_6 n s (nI t) (nI c) lo hi 1 x (nI j)).2 (q_na R t c lo hi (q_c (R 0 t))) := by
  have e0 := e.1 t ht
  have vt : vp_in (nI t) 4 := vp_in_nI (by omega) (by omega)
  intro d
  induction d with
  | zero =>
    intro j n x s hjd hn mb
    obtain ⟨n, rfl⟩ : ∃ m, n = m + 1 := ⟨n - 1, by omega⟩
    have f28 : s 228 t = nI (q_c (R 0 t)) := by rw [mb.1 t ht, q_na_r (by omega)]; exact e0.1
    obtain rfl : j = q_c (R 0 t) := by omega
    unfold p_MO_beyond_6 f_MO_beyond_6
    rw [nI_clamp (n := t) (by omega), f28, if_pos (nI_le (Nat.le_refl _) (by omega))]
    exact ⟨⟨vt, fun _ => trivial, fun q => absurd (nI_le (Nat.le_refl _) (by omega)) q⟩, fun _ _ _ => rfl, mb⟩
  | succ d ih =>
    intro j n x s hjd hn mb
    obtain ⟨n, rfl⟩ : ∃ m, n = m + 1 := ⟨n - 1, by omega⟩
    have f28 : s 228 t = nI (q_c (R 0 t)) := by rw [mb.1 t ht, q_na_r (by omega)]; exact e0.1
    have c1 : ¬ nI (q_c (R 0 t)) ≤ nI j := nI_ge (by omega) (by omega)
    have e1 : nI j + (1 : Int32) = nI (j + 1) := nI_add j 1
    have v1 : vp_in (nI (180 * t + 6 * j + c)) 720 := vp_in_nI (by omega) (by omega)
    have v2 : vp_in (nI (30 * t + j)) 120 := vp_in_nI (by omega) (by omega)
    have w0 : q_mb s (q_na R t c lo hi (j + 1)) → p_MO_beyond_68 (p_MO_beyond_6 n) s (nI t) (nI c) lo hi 1 x (nI j) (s 230 (180 * t + 6 * j + c)) ∧ q_out s (f_MO_beyond_68 (f_MO_beyond_6 n) s (nI t) (nI c) lo hi 1 x (nI j) (s 230 (180 * t + 6 * j + c))).2 (fun a _ => a = 230) ∧ q_mb (f_MO_beyond_68 (f_MO_beyond_6 n) s (nI t) (nI c) lo hi 1 x (nI j) (s 230 (180 * t + 6 * j + c))).2 (q_na R t c lo hi (q_c (R 0 t))) := fun mb1 => by
      have i0 := ih (j + 1) n (x + 0) s (by omega) (by omega) mb1
      unfold p_MO_beyond_68 f_MO_beyond_68 p_MO_beyond_69 f_MO_beyond_69 p_MO_beyond_83 f_MO_beyond_83 p_MO_beyond_112 f_MO_beyond_112 p_MO_beyond_114 f_MO_beyond_114
      rw [if_pos rfl, if_pos rfl, qr_at, nI_clamp (n := 180 * t + 6 * j + c) (by omega), am_set_same, e1]
      exact ⟨⟨fun _ => ⟨fun _ => ⟨v1, i0.1⟩, fun q => absurd rfl q⟩, fun q => absurd rfl q⟩, i0.2⟩
    have w1 : q_mb (am_set s 230 (180 * t + 6 * j + c) (-1000000)) (q_na R t c lo hi (j + 1)) → p_MO_beyond_69 (p_MO_beyond_6 n) s (nI t) (nI c) lo hi 1 x (nI j) (s 230 (180 * t + 6 * j + c)) 1 ∧ q_out s (f_MO_beyond_69 (f_MO_beyond_6 n) s (nI t) (nI c) lo hi 1 x (nI j) (s 230 (180 * t + 6 * j + c)) 1).2 (fun a _ => a = 230) ∧ q_mb (f_MO_beyond_69 (f_MO_beyond_6 n) s (nI t) (nI c) lo hi 1 x (nI j) (s 230 (180 * t + 6 * j + c)) 1).2 (q_na R t c lo hi (q_c (R 0 t))) := fun mb1 => by
      have i1 := ih (j + 1) n (x + 1) (am_set s 230 (180 * t + 6 * j + c) (-1000000)) (by omega) (by omega) mb1
      unfold p_MO_beyond_69 f_MO_beyond_69 p_MO_beyond_83 f_MO_beyond_83 p_MO_beyond_114 f_MO_beyond_114
      rw [if_neg i10, if_neg i10, if_neg i10, qr_at, nI_clamp (n := 180 * t + 6 * j + c) (by omega), e1]
      exact ⟨⟨fun q => absurd q i10, fun _ => ⟨fun q => absurd q i10, fun _ => ⟨fun q => absurd q i10, fun _ => ⟨v1, i1.1⟩⟩⟩⟩, fun a b hab => by rw [i1.2.1 a b hab, am_set_p (by omega)], i1.2.2⟩
    unfold p_MO_beyond_6 f_MO_beyond_6
    rw [nI_clamp (n := t) (by omega), f28, if_neg c1, qr_at, nI_clamp (n := 180 * t + 6 * j + c) (by omega), qw_30, nI_add, nI_clamp (n := 30 * t + j) (by omega), mb.2.1 _ (by omega), q_na_r (a := 1) (by omega)]
    by_cases hh : R 1 (30 * t + j) = 0
    · have z := w0 (by rw [q_na_n (fun q => q.1 hh)]; exact mb)
      rw [if_pos hh, if_pos rfl]
      exact ⟨⟨vt, fun q => absurd q c1, fun _ => ⟨v1, v2, fun _ => z.1, fun q => absurd rfl q⟩⟩, z.2⟩
    have hv : s 230 (180 * t + 6 * j + c) = R 2 (180 * t + 6 * j + c) := by
      rw [mb.2.2 _ (by omega) (by rw [show (180 * t + 6 * j + c) / 6 = 30 * t + j from by omega, q_na_r (by omega)]; exact hh), q_na_at (by omega)]
    rw [hv] at w0 w1 ⊢
    rw [if_neg hh, if_neg i10]
    have hin : f_MO_in s (R 2 (180 * t + 6 * j + c)) lo hi = 0 ↔ (R 2 (180 * t + 6 * j + c) < lo ∨ hi < R 2 (180 * t + 6 * j + c)) := by
      unfold f_MO_in
      by_cases l1 : R 2 (180 * t + 6 * j + c) < lo
      · rw [if_pos l1]; exact ⟨fun _ => Or.inl l1, fun _ => rfl⟩
      · rw [if_neg l1]
        by_cases l2 : hi < R 2 (180 * t + 6 * j + c)
        · rw [if_pos l2]; exact ⟨fun _ => Or.inr l2, fun _ => rfl⟩
        · rw [if_neg l2]; exact ⟨fun q => absurd q i10, fun q => absurd q (fun z => z.elim l1 l2)⟩
    by_cases cv : R 2 (180 * t + 6 * j + c) = -1000000
    · have z := w0 (by rw [q_na_n (fun q => q.2.1 cv)]; exact mb)
      rw [if_pos cv]
      exact ⟨⟨vt, fun q => absurd q c1, fun _ => ⟨v1, v2, fun q => absurd q i10, fun _ => ⟨fun _ => z.1, fun q => absurd cv q⟩⟩⟩, z.2⟩
    rw [if_neg cv]
    by_cases co : R 2 (180 * t + 6 * j + c) < lo ∨ hi < R 2 (180 * t + 6 * j + c)
    · have z := w1 (by rw [q_na_s ht hc (by omega) ⟨hh, cv, co⟩]; exact q_put_mb mb)
      rw [if_pos (hin.mpr co)]
      exact ⟨⟨vt, fun q => absurd q c1, fun _ => ⟨v1, v2, fun q => absurd q i10, fun _ => ⟨fun q => absurd q cv, fun _ => ⟨fun _ => z.1, fun q => absurd (hin.mpr co) q⟩⟩⟩⟩, z.2⟩
    · have z := w0 (by rw [q_na_n (fun q => co q.2.2)]; exact mb)
      rw [if_neg (fun q => co (hin.mp q))]
      exact ⟨⟨vt, fun q => absurd q c1, fun _ => ⟨v1, v2, fun q => absurd q i10, fun _ => ⟨fun q => absurd q cv, fun _ => ⟨fun q => absurd (hin.mp q) co, fun _ => z.1⟩⟩⟩⟩, z.2⟩
end
