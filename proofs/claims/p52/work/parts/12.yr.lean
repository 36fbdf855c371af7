noncomputable section
-- put; what would be lost
/-- a cell beyond a span -/
abbrev q_ou (R : am_M) (t c : Nat) (lo hi : Int32) (r : Nat) : Prop := R 1 (30 * t + r) ≠ 0 ∧ R 2 (180 * t + 6 * r + c) ≠ -1000000 ∧ (R 2 (180 * t + 6 * r + c) < lo ∨ hi < R 2 (180 * t + 6 * r + c))
theorem qc_out {s R : am_M} (cb : q_cb s 9 10 11 R) {t c : Nat} (ht : t < 4) (hc : c < 6) {lo hi : Int32} : ∀ (d j n : Nat) (x : Int32), j + d = 30 → d < n → p_BA_countOutside_6 n s (nI t) (nI c) lo hi x (nI j) ∧ f_BA_countOutside_6 n s (nI t) (nI c) lo hi x (nI j) = x + nI (q_co (q_ou R t c lo hi) d j) := by
  intro d
  induction d with
  | zero =>
    intro j n x h1 h2
    obtain ⟨n, rfl⟩ : ∃ k, n = k + 1 := ⟨n - 1, by omega⟩
    have c1 : (30 : Int32) ≤ nI j := qg_30 (by omega) (by omega)
    unfold p_BA_countOutside_6 f_BA_countOutside_6
    rw [if_pos c1]
    refine ⟨⟨fun _ => trivial, fun q => absurd c1 q⟩, ?_⟩
    show x = x + nI 0
    rw [nI_0, Int32.add_zero]
  | succ d ih =>
    intro j n x h1 h2
    obtain ⟨n, rfl⟩ : ∃ k, n = k + 1 := ⟨n - 1, by omega⟩
    have hj : j < 30 := by omega
    have c1 : ¬ (30 : Int32) ≤ nI j := ql_30 hj
    have hs := qr_has cb ht (nI j)
    have i0 := ih (j + 1) n x (by omega) (by omega)
    have i1 := ih (j + 1) n (x + 1) (by omega) (by omega)
    have hq : q_co (q_ou R t c lo hi) (d + 1) j = (if q_ou R t c lo hi j then 1 else 0) + q_co (q_ou R t c lo hi) d (j + 1) := rfl
    unfold p_BA_countOutside_6 f_BA_countOutside_6 p_BA_countOutside_50 f_BA_countOutside_50
    rw [if_neg c1, hs, nI_1, hq]
    by_cases hh : R 1 (30 * t + j) = 0
    · rw [if_neg (fun q => (q_hs_I hj).mp q hh), if_pos rfl, if_neg (fun q => q.1 hh), Nat.zero_add]
      exact ⟨⟨fun q => absurd q c1, fun _ => ⟨qr_phas _ _ _, fun _ => i0.1, fun q => absurd rfl q⟩⟩, i0.2⟩
    rw [if_pos ((q_hs_I hj).mpr hh), if_neg i10, qr_cell cb ht hj hc hh]
    have ho : f_BA_isOutside s (R 2 (180 * t + 6 * j + c)) lo hi = if q_ou R t c lo hi j then 1 else 0 := by
      unfold f_BA_isOutside
      by_cases cv : R 2 (180 * t + 6 * j + c) = -1000000
      · rw [if_pos cv, if_neg (fun q => q.2.1 cv)]
      rw [if_neg cv]
      by_cases l1 : R 2 (180 * t + 6 * j + c) < lo
      · rw [if_pos l1, if_pos ⟨hh, cv, Or.inl l1⟩]
      rw [if_neg l1]
      by_cases l2 : R 2 (180 * t + 6 * j + c) ≤ hi
      · rw [if_pos l2, if_neg (fun q => q.2.2.elim l1 (fun z => (pr_le.mp z) l2))]
      · rw [if_neg l2, if_pos ⟨hh, cv, Or.inr (pr_le.mpr l2)⟩]
    rw [ho]
    by_cases co : q_ou R t c lo hi j
    · rw [if_pos co, if_neg i10, if_pos co]
      refine ⟨⟨fun q => absurd q c1, fun _ => ⟨qr_phas _ _ _, fun q => absurd q i10, fun _ => ⟨qr_pget _ _ _ _, fun q => absurd q i10, fun _ => i1.1⟩⟩⟩, ?_⟩
      rw [i1.2, Int32.add_assoc]
      congr 1
      exact nI_add 1 _
    · rw [if_neg co, if_pos rfl, if_neg co, Nat.zero_add]
      exact ⟨⟨fun q => absurd q c1, fun _ => ⟨qr_phas _ _ _, fun q => absurd q i10, fun _ => ⟨qr_pget _ _ _ _, fun _ => i0.1, fun q => absurd rfl q⟩⟩⟩, i0.2⟩
theorem am_set_same {s : am_M} {i k : Nat} : am_set s i k (s i k) = s := by
  funext a b
  by_cases q : a = i ∧ b = k
  · rw [q.1, q.2, am_set_q]
  · rw [am_set_p (by omega)]
/-- the model counts, and blanks nothing -/
theorem qm_bey0 {s A R : am_M} (e : q_we A R) (mb : q_mb s R) {t c : Nat} (ht : t < 4) (hc : c < 6) {lo hi : Int32} : ∀ (d j n : Nat) (x : Int32), j + d = q_c (R 0 t) → d < n → p_MO_beyond_6 n s (nI t) (nI c) lo hi 0 x (nI j) ∧ f_MO_beyond_6 n s (nI t) (nI c) lo hi 0 x (nI j) = (x + nI (q_co (q_ou R t c lo hi) d j), s) := by
  have e0 := e.1 t ht
  have f28 : s 228 t = nI (q_c (R 0 t)) := (mb.1 t ht).trans e0.1
  have vt : vp_in (nI t) 4 := vp_in_nI ht (by omega)
  intro d
  induction d with
  | zero =>
    intro j n x h1 h2
    obtain ⟨n, rfl⟩ : ∃ k, n = k + 1 := ⟨n - 1, by omega⟩
    have c1 : nI (q_c (R 0 t)) ≤ nI j := qn_le (by omega) (by omega)
    unfold p_MO_beyond_6 f_MO_beyond_6
    rw [nI_clamp (n := t) (by omega), f28, if_pos c1]
    refine ⟨⟨vt, fun _ => trivial, fun q => absurd c1 q⟩, ?_⟩
    show (x, s) = (x + nI 0, s)
    rw [nI_0, Int32.add_zero]
  | succ d ih =>
    intro j n x h1 h2
    obtain ⟨n, rfl⟩ : ∃ k, n = k + 1 := ⟨n - 1, by omega⟩
    have hj : j < 30 := by omega
    have c1 : ¬ nI (q_c (R 0 t)) ≤ nI j := nI_ge (by omega) (by omega)
    have i0 := ih (j + 1) n (x + 0) (by omega) (by omega)
    have i1 := ih (j + 1) n (x + 1) (by omega) (by omega)
    have hq : q_co (q_ou R t c lo hi) (d + 1) j = (if q_ou R t c lo hi j then 1 else 0) + q_co (q_ou R t c lo hi) d (j + 1) := rfl
    have v1 : vp_in (nI (180 * t + 6 * j + c)) 720 := vp_in_nI (by omega) (by omega)
    have v2 : vp_in (nI (30 * t + j)) 120 := vp_in_nI (by omega) (by omega)
    -- what is written back is what lay there
    have w0 : p_MO_beyond_68 (p_MO_beyond_6 n) s (nI t) (nI c) lo hi 0 x (nI j) (s 230 (180 * t + 6 * j + c)) ∧ f_MO_beyond_68 (f_MO_beyond_6 n) s (nI t) (nI c) lo hi 0 x (nI j) (s 230 (180 * t + 6 * j + c)) = (x + nI (q_co (q_ou R t c lo hi) d (j + 1)), s) := by
      unfold p_MO_beyond_68 f_MO_beyond_68 p_MO_beyond_69 f_MO_beyond_69 p_MO_beyond_83 f_MO_beyond_83 p_MO_beyond_112 f_MO_beyond_112 p_MO_beyond_114 f_MO_beyond_114
      rw [if_pos rfl, if_pos rfl, qr_at, nI_clamp (n := 180 * t + 6 * j + c) (by omega), am_set_same, nI_1]
      refine ⟨⟨fun _ => ⟨fun _ => ⟨v1, i0.1⟩, fun q => absurd rfl q⟩, fun q => absurd rfl q⟩, ?_⟩
      rw [i0.2, Int32.add_zero]
    have w1 : p_MO_beyond_69 (p_MO_beyond_6 n) s (nI t) (nI c) lo hi 0 x (nI j) (s 230 (180 * t + 6 * j + c)) 1 ∧ f_MO_beyond_69 (f_MO_beyond_6 n) s (nI t) (nI c) lo hi 0 x (nI j) (s 230 (180 * t + 6 * j + c)) 1 = (x + 1 + nI (q_co (q_ou R t c lo hi) d (j + 1)), s) := by
      unfold p_MO_beyond_69 f_MO_beyond_69 p_MO_beyond_83 f_MO_beyond_83 p_MO_beyond_112 f_MO_beyond_112 p_MO_beyond_114 f_MO_beyond_114
      rw [if_neg i10, if_neg i10, if_pos rfl, qr_at, nI_clamp (n := 180 * t + 6 * j + c) (by omega), am_set_same, nI_1]
      exact ⟨⟨fun q => absurd q i10, fun _ => ⟨fun q => absurd q i10, fun _ => ⟨fun _ => ⟨v1, i1.1⟩, fun q => absurd rfl q⟩⟩⟩, i1.2⟩
    unfold p_MO_beyond_6 f_MO_beyond_6
    rw [nI_clamp (n := t) (by omega), f28, if_neg c1, qr_at, nI_clamp (n := 180 * t + 6 * j + c) (by omega), qw_30, nI_add, nI_clamp (n := 30 * t + j) (by omega), mb.2.1 _ (by omega), hq]
    by_cases hh : R 1 (30 * t + j) = 0
    · rw [if_pos hh, if_pos rfl, if_neg (fun q => q.1 hh), Nat.zero_add]
      exact ⟨⟨vt, fun q => absurd q c1, fun _ => ⟨v1, v2, fun _ => w0.1, fun q => absurd rfl q⟩⟩, w0.2⟩
    have hv : s 230 (180 * t + 6 * j + c) = R 2 (180 * t + 6 * j + c) := mb.2.2 _ (by omega) (by rw [show (180 * t + 6 * j + c) / 6 = 30 * t + j from by omega]; exact hh)
    rw [hv] at w0 w1 ⊢
    rw [if_neg hh, if_neg i10]
    have hin : f_MO_in s (R 2 (180 * t + 6 * j + c)) lo hi = 0 ↔ (R 2 (180 * t + 6 * j + c) < lo ∨ hi < R 2 (180 * t + 6 * j + c)) := by
      unfold f_MO_in
      by_cases l1 : R 2 (180 * t + 6 * j + c) < lo
      · rw [if_pos l1]; exact ⟨fun _ => Or.inl l1, fun _ => rfl⟩
      · rw [if_neg l1]
        by_cases l2 : hi < R 2 (180 * t + 6 * j + c)
        · rw [if_pos l2]; exact ⟨fun _ => Or.inr l2, fun _ => rfl⟩
        · rw [if_neg l2]; exact ⟨fun q => absurd q i10, fun q => absurd q (fun z => z.elim l1 l2)⟩
    by_cases cv : R 2 (180 * t + 6 * j + c) = -1000000
    · rw [if_pos cv, if_neg (fun q => q.2.1 cv), Nat.zero_add]
      exact ⟨⟨vt, fun q => absurd q c1, fun _ => ⟨v1, v2, fun q => absurd q i10, fun _ => ⟨fun _ => w0.1, fun q => absurd cv q⟩⟩⟩, w0.2⟩
    rw [if_neg cv]
    by_cases co : R 2 (180 * t + 6 * j + c) < lo ∨ hi < R 2 (180 * t + 6 * j + c)
    · rw [if_pos (hin.mpr co), if_pos ⟨hh, cv, co⟩]
      refine ⟨⟨vt, fun q => absurd q c1, fun _ => ⟨v1, v2, fun q => absurd q i10, fun _ => ⟨fun q => absurd q cv, fun _ => ⟨fun _ => w1.1, fun q => absurd (hin.mpr co) q⟩⟩⟩⟩, ?_⟩
      rw [w1.2, Int32.add_assoc, show (1 : Int32) + nI (q_co (q_ou R t c lo hi) d (j + 1)) = nI (1 + q_co (q_ou R t c lo hi) d (j + 1)) from nI_add 1 _]
    · rw [if_neg (fun q => co (hin.mp q)), if_neg (fun q => co q.2.2), Nat.zero_add]
      exact ⟨⟨vt, fun q => absurd q c1, fun _ => ⟨v1, v2, fun q => absurd q i10, fun _ => ⟨fun q => absurd q cv, fun _ => ⟨fun q => absurd (hin.mp q) co, fun _ => w0.1⟩⟩⟩⟩, w0.2⟩
theorem q_co_s {P : Nat → Prop} [DecidablePred P] : ∀ (d f j : Nat), q_co P (d + f) j = q_co P d j + q_co P f (j + d) := by
  intro d
  induction d with
  | zero => intro f j; rw [Nat.zero_add]; show _ = 0 + _; rw [Nat.zero_add]; rfl
  | succ d ih =>
    intro f j
    rw [show d + 1 + f = (d + f) + 1 from by omega]
    show (if P j then 1 else 0) + q_co P (d + f) (j + 1) = ((if P j then 1 else 0) + q_co P d (j + 1)) + _
    rw [ih f (j + 1), show j + 1 + d = j + (d + 1) from by omega]; omega
theorem q_co_z {P : Nat → Prop} [DecidablePred P] : ∀ (d j : Nat), (∀ i, j ≤ i → i < j + d → ¬ P i) → q_co P d j = 0 := by
  intro d
  induction d with
  | zero => intro j _; rfl
  | succ d ih =>
    intro j h
    unfold q_co
    rw [if_neg (h j (by omega) (by omega)), ih (j + 1) (fun i h1 h2 => h i (by omega) (by omega))]
theorem q_ou_made {A R : am_M} (e : q_we A R) {t c : Nat} (ht : t < 4) {lo hi : Int32} : q_co (q_ou R t c lo hi) 30 0 = q_co (q_ou R t c lo hi) (q_c (R 0 t)) 0 := by
  have e0 := e.1 t ht
  have h := q_co_s (P := q_ou R t c lo hi) (q_c (R 0 t)) (30 - q_c (R 0 t)) 0
  rw [show q_c (R 0 t) + (30 - q_c (R 0 t)) = 30 from by omega] at h
  rw [h, q_co_z (30 - q_c (R 0 t)) (0 + q_c (R 0 t)) (fun i h1 h2 q => by
    have := (q_we_r e ht (by omega) q.1).1
    omega), Nat.add_zero]
end
