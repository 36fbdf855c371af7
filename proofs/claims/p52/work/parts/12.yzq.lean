noncomputable section
-- remove: blanking, class and model
theorem qc_bl {A R : am_M} (w : q_wd A) (wr : q_wr A R) {G : Nat → Int32} {p : Nat} (hp : p < 120) (K2 : am_M → Int32 → am_M) (KP2 : am_M → Int32 → Prop) : ∀ (d c k n : Nat) (s : am_M), c + d = 6 → k ≤ c → d < n → q_cd s A → q_cb s 9 10 11 (q_tk A R G (6 * p + c)) → (∀ p, p < 120 → (s 18 p ≠ 0 ↔ G p ≠ 0)) → ∃ S, q_out s S (fun a _ => a = 11) ∧ q_cb S 9 10 11 (q_tk A R G (6 * (p + 1))) ∧ f_BA_blankToGoing_13 K2 n s (nI p) (nI k) = K2 S (nI (p + 1)) ∧ (KP2 S (nI (p + 1)) → p_BA_blankToGoing_13 KP2 n s (nI p) (nI k)) := by
  intro d
  induction d using Nat.strongRecOn with
  | ind d ih =>
    intro c k n s hcd hk hn cd cb hG
    obtain ⟨n, rfl⟩ : ∃ k, n = k + 1 := ⟨n - 1, by omega⟩
    have e1 : nI p + (1 : Int32) = nI (p + 1) := nI_add p 1
    have e2 : nI k + (1 : Int32) = nI (k + 1) := nI_add k 1
    have v1 : vp_in (nI p) 120 := vp_in_nI hp (by omega)
    unfold f_BA_blankToGoing_13 p_BA_blankToGoing_13 f_BA_blankToGoing_39 p_BA_blankToGoing_39 f_BA_blankToGoing_66 p_BA_blankToGoing_66
    rw [e1, e2, nI_clamp (n := p) (by omega)]
    by_cases h6 : k = 6
    · have l : (6 : Int32) ≤ nI k := qg_6 (by omega) (by omega)
      have ec : 6 * p + c = 6 * (p + 1) := by omega
      rw [ec] at cb
      rw [if_pos l]
      exact ⟨s, fun _ _ _ => rfl, cb, rfl, fun q => ⟨fun _ => q, fun q2 => absurd l q2⟩⟩
    have l : ¬ (6 : Int32) ≤ nI k := ql_6 (by omega)
    rw [if_neg l]
    by_cases h1 : s 18 p = 0
    rotate_left
    · rw [if_neg h1]
      have sk : q_tk A R G (6 * (p + 1)) = q_tk A R G (6 * p + c) := q_tk_skip (by omega) (fun b b1 b2 q => by
        have := q.1
        rw [show b / 6 = p from by omega] at this
        exact (hG p hp).mp h1 this)
      exact ⟨s, fun _ _ _ => rfl, by rw [sk]; exact cb, rfl, fun q => ⟨fun q2 => absurd q2 l, fun _ => ⟨v1, fun q2 => absurd q2 h1, fun _ => q⟩⟩⟩
    rw [if_pos h1]
    obtain ⟨F1, F2⟩ := qc_first (m := 2) cd w (q_tk_wr (G := G) (y := 6 * p + c) wr) cb hp
    change p_BA_firstToGoing s (nI p) 2 at F1
    change f_BA_firstToGoing s (nI p) 2 = _ at F2
    obtain ⟨g1, g2, g3, g4⟩ := @q_fi_le (q_led A (q_tk A R G (6 * p + c)) (s 18) 2 p) _ 6 0
    have mn := @q_fi_mn (q_led A (q_tk A R G (6 * p + c)) (s 18) 2 p) _ 6 0
    generalize q_fi (q_led A (q_tk A R G (6 * p + c)) (s 18) 2 p) 6 0 = c' at *
    by_cases h2 : c' < 6
    · rw [if_pos h2] at F2
      have h0 : (0 : Int32) ≤ nI c' := nI_le (a := 0) (Nat.zero_le _) (by omega)
      have hl := (q_tk_led w wr hG hp h2 h1).mp (g3 (by omega))
      have sk : q_tk A R G (6 * p + c') = q_tk A R G (6 * p + c) := q_tk_skip hl.1 (fun b b1 b2 q => by
        refine mn (b - 6 * p) (Nat.zero_le _) (by omega) ((q_tk_led w wr hG hp (by omega) h1).mpr ⟨by omega, ?_⟩)
        rw [show 6 * p + (b - 6 * p) = b from by omega]; exact q)
      have st := qr_set s (show p / 30 < 4 by omega) (Nat.mod_lt p (show 0 < 30 by omega)) h2 (-1000000)
      rw [show 180 * (p / 30) + 6 * (p % 30) + c' = 6 * p + c' from by omega] at st
      have cb2 : q_cb (am_set s 11 (6 * p + c') (-1000000)) 9 10 11 (q_tk A R G (6 * p + (c' + 1))) := by
        rw [show 6 * p + (c' + 1) = 6 * p + c' + 1 from rfl, q_tk_s hl.2, sk]
        exact q_put_cb (by omega) cb
      rw [F2, if_pos h0, qr_30 (by omega), qd_30 (by omega), st.2]
      obtain ⟨S, i1, i2, i3, i4⟩ := ih (6 - (c' + 1)) (by omega) (c' + 1) (k + 1) n (am_set s 11 (6 * p + c') (-1000000)) (by omega) (by omega) (by omega) (q_cd_set (by omega) cd) cb2 (fun q hq => by rw [am_set_p (Or.inl (by omega))]; exact hG q hq)
      exact ⟨S, fun a b q => by rw [i1 a b q, am_set_p (Or.inl q)], i2, i3, fun q => ⟨fun q2 => absurd q2 l, fun _ => ⟨v1, fun _ => ⟨F1, fun _ => ⟨st.1, i4 q⟩, fun q2 => absurd h0 q2⟩, fun q2 => absurd h1 q2⟩⟩⟩
    · rw [if_neg h2] at F2
      have h0 : ¬ (0 : Int32) ≤ -1 := by decide
      have sk : q_tk A R G (6 * (p + 1)) = q_tk A R G (6 * p + c) := q_tk_skip (by omega) (fun b b1 b2 q => by
        refine g4 (by omega) (b - 6 * p) (Nat.zero_le _) (by omega) ((q_tk_led w wr hG hp (by omega) h1).mpr ⟨by omega, ?_⟩)
        rw [show 6 * p + (b - 6 * p) = b from by omega]; exact q)
      rw [F2, if_neg h0]
      exact ⟨s, fun _ _ _ => rfl, by rw [sk]; exact cb, rfl, fun q => ⟨fun q2 => absurd q2 l, fun _ => ⟨v1, fun _ => ⟨F1, fun q2 => absurd q2 h0, fun _ => q⟩, fun q2 => absurd h1 q2⟩⟩⟩
theorem qc_bl2 {A R : am_M} (w : q_wd A) (wr : q_wr A R) {G : Nat → Int32} : ∀ (d p n : Nat) (s : am_M), p + d = 120 → d < n → q_cd s A → q_cb s 9 10 11 (q_tk A R G (6 * p)) → (∀ p, p < 120 → (s 18 p ≠ 0 ↔ G p ≠ 0)) → p_BA_blankToGoing_2 n s (nI p) ∧ ∃ S, f_BA_blankToGoing_2 n s (nI p) = S ∧ q_out s S (fun a _ => a = 11) ∧ q_cb S 9 10 11 (q_tk A R G 720) := by
  intro d
  induction d with
  | zero =>
    intro p n s hp hn cd cb hG
    obtain ⟨n, rfl⟩ : ∃ k, n = k + 1 := ⟨n - 1, by omega⟩
    obtain rfl : p = 120 := by omega
    have l : (120 : Int32) ≤ nI 120 := qg_120 (by omega) (by omega)
    unfold p_BA_blankToGoing_2 f_BA_blankToGoing_2
    rw [if_pos l]
    exact ⟨⟨fun _ => trivial, fun q => absurd l q⟩, s, rfl, fun _ _ _ => rfl, cb⟩
  | succ d ih =>
    intro p n s hp hn cd cb hG
    obtain ⟨n, rfl⟩ : ∃ k, n = k + 1 := ⟨n - 1, by omega⟩
    have l : ¬ (120 : Int32) ≤ nI p := ql_120 (by omega)
    obtain ⟨S, j1, j2, j3, j4⟩ := qc_bl w wr (G := G) (show p < 120 by omega) (f_BA_blankToGoing_2 n) (p_BA_blankToGoing_2 n) 6 0 0 am_F s (by omega) (Nat.le_refl _) (by rw [am_F_eq]; omega) cd cb hG
    obtain ⟨i1, T, i2, i3, i4⟩ := ih (p + 1) n S (by omega) (by omega) (q_cd_out j1 (fun a b q => by omega) cd) j2 (fun q hq => by rw [j1 18 q (by omega)]; exact hG q hq)
    rw [nI_0] at j3 j4
    unfold p_BA_blankToGoing_2 f_BA_blankToGoing_2
    rw [if_neg l, j3, i2]
    exact ⟨⟨fun q => absurd q l, fun _ => j4 i1⟩, T, rfl, q_out_t j1 i3, i4⟩
theorem qm_bl2 {A R : am_M} (w : q_wd A) (wr : q_wr A R) {G : Nat → Int32} (x1 x2 x3 : Int32) : ∀ (d y n : Nat) (s : am_M), y + d = 720 → d < n → q_md s A → q_mb s (q_tk A R G y) → (∀ p, p < 120 → (s 232 p ≠ 0 ↔ G p ≠ 0)) → ∃ S, f_MO_removesRow_66 n s x1 x2 x3 (nI y) = f_MO_removesRow_142 S x1 x2 x3 (nI 720) ∧ (p_MO_removesRow_142 S x1 x2 x3 (nI 720) → p_MO_removesRow_66 n s x1 x2 x3 (nI y)) ∧ q_out s S (fun a _ => a = 230) ∧ q_mb S (q_tk A R G 720) := by
  intro d
  induction d with
  | zero =>
    intro y n s hy hn md mb hG
    obtain ⟨n, rfl⟩ : ∃ k, n = k + 1 := ⟨n - 1, by omega⟩
    obtain rfl : y = 720 := by omega
    have l : (720 : Int32) ≤ nI 720 := qg_720 (by omega) (by omega)
    unfold p_MO_removesRow_66 f_MO_removesRow_66
    rw [if_pos l]
    exact ⟨s, rfl, fun q => ⟨fun _ => q, fun q2 => absurd l q2⟩, fun _ _ _ => rfl, mb⟩
  | succ d ih =>
    intro y n s hy hn md mb hG
    obtain ⟨n, rfl⟩ : ∃ k, n = k + 1 := ⟨n - 1, by omega⟩
    have l : ¬ (720 : Int32) ≤ nI y := ql_720 (by omega)
    have hy2 : y < 720 := by omega
    have e1 : nI y + (1 : Int32) = nI (y + 1) := nI_add y 1
    have hp6 : y / 6 < 120 := by omega
    have hc6 : y % 6 < 6 := by omega
    have v1 : vp_in (nI (y / 6)) 120 := vp_in_nI (by omega) (by omega)
    have v2 : vp_in (nI y) 720 := vp_in_nI (by omega) (by omega)
    obtain ⟨F1, F2⟩ := qm_lead (m := 2) md w (q_tk_wr (G := G) (y := y) wr) mb hp6 hc6
    change p_MO_doesLead s (nI (y / 6)) (nI (y % 6)) 2 at F1
    change f_MO_doesLead s (nI (y / 6)) (nI (y % 6)) 2 = _ at F2
    have keep : ¬ q_lq A R G 2 y → ∃ S, f_MO_removesRow_66 n (am_set s 230 y (s 230 y)) x1 x2 x3 (nI (y + 1)) = f_MO_removesRow_142 S x1 x2 x3 (nI 720) ∧ (p_MO_removesRow_142 S x1 x2 x3 (nI 720) → p_MO_removesRow_66 n (am_set s 230 y (s 230 y)) x1 x2 x3 (nI (y + 1))) ∧ q_out s S (fun a _ => a = 230) ∧ q_mb S (q_tk A R G 720) := fun hn9 => by
      rw [am_set_same]
      exact ih (y + 1) n s (by omega) (by omega) md (by rw [q_tk_skip (y := y) (y' := y + 1) (by omega) (fun b b1 b2 => by rw [show b = y from by omega]; exact hn9)]; exact mb) hG
    unfold p_MO_removesRow_66 f_MO_removesRow_66 p_MO_removesRow_109 f_MO_removesRow_109 p_MO_removesRow_110 f_MO_removesRow_110 p_MO_removesRow_135 f_MO_removesRow_135
    rw [if_neg l, qr_6 (by omega), qd_6 (by omega), nI_clamp (n := y / 6) (by omega), nI_clamp (n := y) (by omega), e1]
    by_cases h1 : s 232 (y / 6) = 0
    rotate_left
    · obtain ⟨S, k1, k2, k3, k4⟩ := keep (fun q => (hG _ hp6).mp h1 q.1)
      rw [if_neg h1, if_pos rfl]
      exact ⟨S, k1, fun q => ⟨fun q2 => absurd q2 l, fun _ => ⟨v1, fun q2 => absurd q2 h1, fun _ => ⟨fun _ => ⟨v2, v2, k2 q⟩, fun q2 => absurd rfl q2⟩⟩⟩, k3, k4⟩
    have hled := @q_tk_led A R G (s 232) y _ _ w wr hG hp6 hc6 h1
    rw [show 6 * (y / 6) + y % 6 = y from by omega] at hled
    rw [if_pos h1]
    by_cases h2 : q_led A (q_tk A R G y) (s 232) 2 (y / 6) (y % 6)
    · rw [if_pos h2] at F2
      have nz : ¬ f_MO_doesLead s (nI (y / 6)) (nI (y % 6)) 2 = 0 := by rw [F2]; exact i10
      obtain ⟨S, k1, k2, k3, k4⟩ := ih (y + 1) n (am_set s 230 y (-1000000)) (by omega) (by omega) (q_md_out (P := fun a _ => a = 230) (fun a b q => am_set_p (Or.inl q)) (fun a b q => by omega) md) (by rw [q_tk_s (hled.mp h2).2]; exact q_put_mb mb) (fun q hq => by rw [am_set_p (Or.inl (by omega))]; exact hG q hq)
      rw [if_neg nz, if_neg i10]
      exact ⟨S, k1, fun q => ⟨fun q2 => absurd q2 l, fun _ => ⟨v1, fun _ => ⟨F1, fun q2 => absurd q2 nz, fun _ => ⟨fun q2 => absurd q2 i10, fun _ => ⟨v2, k2 q⟩⟩⟩, fun q2 => absurd h1 q2⟩⟩, fun a b q => by rw [k3 a b q, am_set_p (Or.inl q)], k4⟩
    · rw [if_neg h2] at F2
      obtain ⟨S, k1, k2, k3, k4⟩ := keep (fun q => h2 (hled.mpr ⟨Nat.le_refl _, q⟩))
      rw [if_pos F2, if_pos rfl]
      exact ⟨S, k1, fun q => ⟨fun q2 => absurd q2 l, fun _ => ⟨v1, fun _ => ⟨F1, fun _ => ⟨fun _ => ⟨v2, v2, k2 q⟩, fun q2 => absurd rfl q2⟩, fun q2 => absurd F2 q2⟩, fun q2 => absurd h1 q2⟩⟩, k3, k4⟩
-- remove: the rows go
def q_sz (R : am_M) (G : Nat → Int32) (j : Nat) : am_M := fun a b => if a = 1 ∧ b < j ∧ G b ≠ 0 then 0 else R a b
theorem q_sz_0 {R : am_M} {G : Nat → Int32} : q_sz R G 0 = R := by
  funext a b; unfold q_sz; rw [if_neg (fun q => absurd q.2.1 (Nat.not_lt_zero _))]
theorem q_sz_r {R : am_M} {G : Nat → Int32} {j a : Nat} (h : a ≠ 1) : q_sz R G j a = R a := by
  funext b; unfold q_sz; rw [if_neg (fun q => h q.1)]
theorem q_sz_1 {R : am_M} {G : Nat → Int32} {j b : Nat} : q_sz R G j 1 b = if b < j ∧ G b ≠ 0 then 0 else R 1 b := by
  unfold q_sz
  by_cases h : b < j ∧ G b ≠ 0
  · rw [if_pos ⟨rfl, h⟩, if_pos h]
  · rw [if_neg (fun q => h q.2), if_neg h]
theorem q_sz_ne {R : am_M} {G : Nat → Int32} {j b : Nat} (h : q_sz R G j 1 b ≠ 0) : R 1 b ≠ 0 ∧ ¬ (b < j ∧ G b ≠ 0) := by
  rw [q_sz_1] at h
  by_cases h2 : b < j ∧ G b ≠ 0
  · rw [if_pos h2] at h; exact absurd rfl h
  · rw [if_neg h2] at h; exact ⟨h, h2⟩
theorem q_sz_n {R : am_M} {G : Nat → Int32} {j : Nat} (h : G j = 0) : q_sz R G (j + 1) = q_sz R G j := by
  funext a b
  by_cases ha : a = 1
  · subst ha
    rw [q_sz_1, q_sz_1]
    by_cases hb : b < j ∧ G b ≠ 0
    · rw [if_pos hb, if_pos ⟨by omega, hb.2⟩]
    · rw [if_neg hb, if_neg (fun q => hb ⟨by
        rcases Nat.lt_or_ge b j with q2 | q2
        · exact q2
        · exact absurd (by rw [show b = j from by omega]; exact h) q.2, q.2⟩)]
  · rw [q_sz_r ha, q_sz_r ha]
theorem q_sz_o {R : am_M} {G : Nat → Int32} {j p : Nat} (h : p ≠ j) : q_sz R G (j + 1) 1 p = q_sz R G j 1 p := by
  rw [q_sz_1, q_sz_1]
  by_cases hb : p < j ∧ G p ≠ 0
  · rw [if_pos hb, if_pos ⟨by omega, hb.2⟩]
  · rw [if_neg hb, if_neg (fun q => hb ⟨by omega, q.2⟩)]
theorem q_sz_cb {s R : am_M} {G : Nat → Int32} {j : Nat} (h : G j ≠ 0) (cb : q_cb s 9 10 11 (q_sz R G j)) : q_cb (am_set s 10 j 0) 9 10 11 (q_sz R G (j + 1)) := by
  obtain ⟨c1, c2, c3⟩ := cb
  refine ⟨fun t ht => ?_, fun p hp => ?_, fun x hx q => ?_⟩
  · rw [am_set_p (Or.inl (by omega)), c1 t ht, q_sz_r (by omega), q_sz_r (by omega)]
  · by_cases hpj : p = j
    · rw [hpj, am_set_q, q_sz_1, if_pos ⟨by omega, h⟩]
    · rw [am_set_p (Or.inr hpj), c2 p hp, q_sz_o hpj]
  · obtain ⟨h1, h2⟩ := q_sz_ne q
    rw [am_set_p (Or.inl (by omega)), c3 x hx (by rw [q_sz_1, if_neg (fun q2 => h2 ⟨by omega, q2.2⟩)]; exact h1), q_sz_r (by omega), q_sz_r (by omega)]
theorem q_sz_mb {s R : am_M} {G : Nat → Int32} {j : Nat} {v : Int32} (hv : v = if q_sz R G (j + 1) 1 j = 0 then 0 else 1) (mb : q_mb s (q_sz R G j)) : q_mb (am_set s 229 j v) (q_sz R G (j + 1)) := by
  obtain ⟨c1, c2, c3⟩ := mb
  refine ⟨fun t ht => ?_, fun p hp => ?_, fun x hx q => ?_⟩
  · rw [am_set_p (Or.inl (by omega)), c1 t ht, q_sz_r (by omega), q_sz_r (by omega)]
  · by_cases hpj : p = j
    · rw [hpj, am_set_q, hv]
    · rw [am_set_p (Or.inr hpj), c2 p hp, q_sz_o hpj]
  · obtain ⟨h1, h2⟩ := q_sz_ne q
    rw [am_set_p (Or.inl (by omega)), c3 x hx (by rw [q_sz_1, if_neg (fun q2 => h2 ⟨by omega, q2.2⟩)]; exact h1), q_sz_r (by omega), q_sz_r (by omega)]
theorem qr_sset (s : am_M) {t r : Nat} (ht : t < 4) (hr : r < 30) (v : Int32) : p_RO_setSerial s 8 (nI t) (nI r) v ∧ f_RO_setSerial s 8 (nI t) (nI r) v = am_set s 10 (30 * t + r) v := by
  have z1 : ¬ nI t < 0 := qz (by omega)
  have z2 : ¬ (4 : Int32) ≤ nI t := ql_4 ht
  have z3 : ¬ nI r < 0 := qz (by omega)
  have z4 : ¬ (30 : Int32) ≤ nI r := ql_30 hr
  have ix : nI t * (30 : Int32) + nI r = nI (30 * t + r) := by rw [qm_30, nI_add, Nat.mul_comm]
  have lk : am_lk 8 1 = 10 := by decide +kernel
  unfold p_RO_setSerial f_RO_setSerial
  rw [if_neg z1, if_neg z2, if_neg z3, if_neg z4, ix, lk, nI_clamp (n := 30 * t + r) (by omega)]
  exact ⟨⟨fun _ => trivial, fun _ => ⟨fun _ => trivial, fun _ => ⟨fun _ => trivial, fun _ => ⟨fun _ => trivial, fun _ => ⟨⟨by omega, by decide +kernel⟩, ⟨by omega, by decide +kernel⟩, vp_in_nI (by omega) (by omega), trivial⟩⟩⟩⟩⟩, rfl⟩
theorem qc_sz {R : am_M} {G : Nat → Int32} (x1 x2 : Int32) : ∀ (d j n : Nat) (s : am_M), j + d = 120 → d < n → q_cb s 9 10 11 (q_sz R G j) → (∀ p, p < 120 → (s 18 p ≠ 0 ↔ G p ≠ 0)) → ∃ S, f_BA_takeOut_84 n s x1 x2 (nI j) = ((f_BA_settle S).1, (f_BA_settle S).2) ∧ (p_BA_settle S → ((f_BA_settle S).1 = 0 ∨ (f_BA_settle S).1 = 1) → p_BA_takeOut_84 n s x1 x2 (nI j)) ∧ q_out s S (fun a _ => a = 10) ∧ q_cb S 9 10 11 (q_sz R G 120) := by
  intro d
  induction d with
  | zero =>
    intro j n s hj hn cb hG
    obtain ⟨n, rfl⟩ : ∃ k, n = k + 1 := ⟨n - 1, by omega⟩
    obtain rfl : j = 120 := by omega
    have l : (120 : Int32) ≤ nI 120 := qg_120 (by omega) (by omega)
    unfold p_BA_takeOut_84 f_BA_takeOut_84
    rw [if_pos l]
    exact ⟨s, rfl, fun q q3 => ⟨fun _ => ⟨q, q3, trivial⟩, fun q2 => absurd l q2⟩, fun _ _ _ => rfl, cb⟩
  | succ d ih =>
    intro j n s hj hn cb hG
    obtain ⟨n, rfl⟩ : ∃ k, n = k + 1 := ⟨n - 1, by omega⟩
    have l : ¬ (120 : Int32) ≤ nI j := ql_120 (by omega)
    have hj2 : j < 120 := by omega
    have e1 : nI j + (1 : Int32) = nI (j + 1) := nI_add j 1
    have v1 : vp_in (nI j) 120 := vp_in_nI hj2 (by omega)
    have st := qr_sset s (show j / 30 < 4 by omega) (Nat.mod_lt j (show 0 < 30 by omega)) 0
    rw [show 30 * (j / 30) + j % 30 = j from by omega] at st
    unfold p_BA_takeOut_84 f_BA_takeOut_84 p_BA_takeOut_118 f_BA_takeOut_118
    rw [if_neg l, nI_clamp (n := j) (by omega), e1, qr_30 (by omega), qd_30 (by omega), st.2]
    by_cases h1 : s 18 j = 0
    · have hGj : G j = 0 := Classical.byContradiction (fun q => (hG j hj2).mpr q h1)
      obtain ⟨S, i1, i2, i3, i4⟩ := ih (j + 1) n s (by omega) (by omega) (by rw [q_sz_n hGj]; exact cb) hG
      rw [if_pos h1]
      exact ⟨S, i1, fun q q3 => ⟨fun q2 => absurd q2 l, fun _ => ⟨v1, fun _ => i2 q q3, fun q2 => absurd h1 q2⟩⟩, i3, i4⟩
    · obtain ⟨S, i1, i2, i3, i4⟩ := ih (j + 1) n (am_set s 10 j 0) (by omega) (by omega) (q_sz_cb ((hG j hj2).mp h1) cb) (fun q hq => by rw [am_set_p (Or.inl (by omega))]; exact hG q hq)
      rw [if_neg h1]
      exact ⟨S, i1, fun q q3 => ⟨fun q2 => absurd q2 l, fun _ => ⟨v1, fun q2 => absurd q2 h1, fun _ => ⟨st.1, i2 q q3⟩⟩⟩, fun a b q => by rw [i3 a b q, am_set_p (Or.inl q)], i4⟩
theorem qm_sz {R : am_M} {G : Nat → Int32} (x1 x2 x3 : Int32) : ∀ (d j n : Nat) (s : am_M), j + d = 120 → d < n → q_mb s (q_sz R G j) → (∀ p, p < 120 → (s 232 p ≠ 0 ↔ G p ≠ 0)) → ∃ S, f_MO_removesRow_145 n s x1 x2 x3 (nI j) = ((f_MO_isKept S).1, (f_MO_isKept S).2) ∧ (p_MO_isKept S → ((f_MO_isKept S).1 = 0 ∨ (f_MO_isKept S).1 = 1) → p_MO_removesRow_145 n s x1 x2 x3 (nI j)) ∧ q_out s S (fun a _ => a = 229) ∧ q_mb S (q_sz R G 120) := by
  intro d
  induction d with
  | zero =>
    intro j n s hj hn mb hG
    obtain ⟨n, rfl⟩ : ∃ k, n = k + 1 := ⟨n - 1, by omega⟩
    obtain rfl : j = 120 := by omega
    have l : (120 : Int32) ≤ nI 120 := qg_120 (by omega) (by omega)
    unfold p_MO_removesRow_145 f_MO_removesRow_145
    rw [if_pos l]
    exact ⟨s, rfl, fun q q3 => ⟨fun _ => ⟨q, q3, trivial⟩, fun q2 => absurd l q2⟩, fun _ _ _ => rfl, mb⟩
  | succ d ih =>
    intro j n s hj hn mb hG
    obtain ⟨n, rfl⟩ : ∃ k, n = k + 1 := ⟨n - 1, by omega⟩
    have l : ¬ (120 : Int32) ≤ nI j := ql_120 (by omega)
    have hj2 : j < 120 := by omega
    have e1 : nI j + (1 : Int32) = nI (j + 1) := nI_add j 1
    have v1 : vp_in (nI j) 120 := vp_in_nI hj2 (by omega)
    have hat : q_sz R G j 1 j = R 1 j := by rw [q_sz_1, if_neg (fun q => absurd q.1 (Nat.lt_irrefl _))]
    have h229 := mb.2.1 j hj2
    rw [hat] at h229
    have step : ∀ v : Int32, v = (if q_sz R G (j + 1) 1 j = 0 then 0 else 1) → ∃ S, f_MO_removesRow_145 n (am_set s 229 j v) x1 x2 x3 (nI (j + 1)) = ((f_MO_isKept S).1, (f_MO_isKept S).2) ∧ (p_MO_isKept S → ((f_MO_isKept S).1 = 0 ∨ (f_MO_isKept S).1 = 1) → p_MO_removesRow_145 n (am_set s 229 j v) x1 x2 x3 (nI (j + 1))) ∧ q_out s S (fun a _ => a = 229) ∧ q_mb S (q_sz R G 120) := fun v hv => by
      obtain ⟨S, i1, i2, i3, i4⟩ := ih (j + 1) n (am_set s 229 j v) (by omega) (by omega) (q_sz_mb hv mb) (fun q hq => by rw [am_set_p (Or.inl (by omega))]; exact hG q hq)
      exact ⟨S, i1, i2, fun a b q => by rw [i3 a b q, am_set_p (Or.inl q)], i4⟩
    unfold p_MO_removesRow_145 f_MO_removesRow_145 p_MO_removesRow_182 f_MO_removesRow_182 p_MO_removesRow_183 f_MO_removesRow_183
    rw [if_neg l, nI_clamp (n := j) (by omega), e1]
    by_cases h0 : R 1 j = 0
    · rw [if_pos h0] at h229
      have hz0 : q_sz R G (j + 1) 1 j = 0 := by
        rw [q_sz_1]
        by_cases q : j < j + 1 ∧ G j ≠ 0
        · rw [if_pos q]
        · rw [if_neg q]; exact h0
      obtain ⟨S, i1, i2, i3, i4⟩ := step 0 (by rw [hz0, if_pos rfl])
      rw [if_pos h229]
      exact ⟨S, i1, fun q q3 => ⟨fun q2 => absurd q2 l, fun _ => ⟨v1, fun _ => ⟨v1, Or.inl rfl, i2 q q3⟩, fun q2 => absurd h229 q2⟩⟩, i3, i4⟩
    rw [if_neg h0] at h229
    have n229 : ¬ s 229 j = 0 := by rw [h229]; exact i10
    rw [if_neg n229]
    by_cases h1 : s 232 j = 0
    · have hGj : G j = 0 := Classical.byContradiction (fun q => (hG j hj2).mpr q h1)
      have hz1 : q_sz R G (j + 1) 1 j = R 1 j := by rw [q_sz_1, if_neg (fun q => q.2 hGj)]
      obtain ⟨S, i1, i2, i3, i4⟩ := step 1 (by rw [hz1, if_neg h0])
      rw [if_pos h1]
      exact ⟨S, i1, fun q q3 => ⟨fun q2 => absurd q2 l, fun _ => ⟨v1, fun q2 => absurd q2 n229, fun _ => ⟨v1, fun _ => ⟨v1, Or.inr rfl, i2 q q3⟩, fun q2 => absurd h1 q2⟩⟩⟩, i3, i4⟩
    · have hz0 : q_sz R G (j + 1) 1 j = 0 := by rw [q_sz_1, if_pos ⟨by omega, (hG j hj2).mp h1⟩]
      obtain ⟨S, i1, i2, i3, i4⟩ := step 0 (by rw [hz0, if_pos rfl])
      rw [if_neg h1]
      exact ⟨S, i1, fun q q3 => ⟨fun q2 => absurd q2 l, fun _ => ⟨v1, fun q2 => absurd q2 n229, fun _ => ⟨v1, fun q2 => absurd q2 h1, fun _ => ⟨v1, Or.inl rfl, i2 q q3⟩⟩⟩⟩, i3, i4⟩
end
