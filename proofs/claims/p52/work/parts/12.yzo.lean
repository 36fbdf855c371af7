noncomputable section
-- remove: how the model finds the rows that go
/-- place y is of a row that stays, a link of kind m to a row that goes -/
abbrev q_lq (A R : am_M) (g : Nat → Int32) (m y : Nat) : Prop := g (y / 6) = 0 ∧ q_led A R g m (y / 6) (y % 6)
theorem q_fi_mn {P : Nat → Prop} [DecidablePred P] : ∀ (d j : Nat), ∀ k, j ≤ k → k < q_fi P d j → ¬ P k := by
  intro d
  induction d with
  | zero => intro j k h1 h2; exact absurd h2 (by unfold q_fi; omega)
  | succ d ih =>
    intro j k h1 h2
    have hx : q_fi P (d + 1) j = if P j then j else q_fi P d (j + 1) := rfl
    rw [hx] at h2
    by_cases h : P j
    · rw [if_pos h] at h2; omega
    · rw [if_neg h] at h2
      by_cases hk : k = j
      · rw [hk]; exact h
      · exact ih (j + 1) k (by omega) h2
theorem q_fi_a {P : Nat → Prop} [DecidablePred P] {e : Nat} : ∀ (d j : Nat), q_fi P (d + e) j = if q_fi P d j < j + d then q_fi P d j else q_fi P e (j + d) := by
  intro d
  induction d with
  | zero =>
    intro j
    rw [Nat.zero_add, if_neg (by unfold q_fi; omega)]; rfl
  | succ d ih =>
    intro j
    rw [show d + 1 + e = d + e + 1 from by omega]
    have hx : ∀ d, q_fi P (d + 1) j = if P j then j else q_fi P d (j + 1) := fun _ => rfl
    rw [hx, hx]
    by_cases h : P j
    · rw [if_pos h, if_pos h, if_pos (by omega)]
    · rw [if_neg h, if_neg h, ih, show j + 1 + d = j + (d + 1) from by omega]
theorem q_fi_sh {P Q : Nat → Prop} [DecidablePred P] [DecidablePred Q] : ∀ (d j k : Nat), (∀ i, i < d → (P (j + i) ↔ Q (k + i))) → q_fi P d j + k = q_fi Q d k + j := by
  intro d
  induction d with
  | zero => intro j k _; unfold q_fi; omega
  | succ d ih =>
    intro j k h
    have hP : q_fi P (d + 1) j = if P j then j else q_fi P d (j + 1) := rfl
    have hQ : q_fi Q (d + 1) k = if Q k then k else q_fi Q d (k + 1) := rfl
    rw [hP, hQ]
    have h0 := h 0 (by omega)
    rw [Nat.add_zero, Nat.add_zero] at h0
    by_cases q : P j
    · rw [if_pos q, if_pos (h0.mp q)]; omega
    · rw [if_neg q, if_neg (fun q2 => q (h0.mpr q2))]
      have := ih (j + 1) (k + 1) (fun i hi => by
        have := h (i + 1) (by omega)
        rw [show j + (i + 1) = j + 1 + i from by omega, show k + (i + 1) = k + 1 + i from by omega] at this
        exact this)
      omega
theorem qm_nx {s A R : am_M} (md : q_md s A) (w : q_wd A) (wr : q_wr A R) (mb : q_mb s R) : ∀ (d y n : Nat), y + d = 720 → d < n → p_MO_nextToGo_2 n s (nI y) ∧ f_MO_nextToGo_2 n s (nI y) = if q_fi (q_lq A R (s 232) 1) d y < 720 then nI (q_fi (q_lq A R (s 232) 1) d y / 6) else -1 := by
  intro d
  induction d with
  | zero =>
    intro y n hy hn
    obtain ⟨n, rfl⟩ : ∃ k, n = k + 1 := ⟨n - 1, by omega⟩
    obtain rfl : y = 720 := by omega
    have l : (720 : Int32) ≤ nI 720 := qg_720 (by omega) (by omega)
    unfold p_MO_nextToGo_2 f_MO_nextToGo_2
    rw [if_pos l]
    exact ⟨⟨fun _ => trivial, fun q => absurd l q⟩, rfl⟩
  | succ d ih =>
    intro y n hy hn
    obtain ⟨n, rfl⟩ : ∃ k, n = k + 1 := ⟨n - 1, by omega⟩
    have l : ¬ (720 : Int32) ≤ nI y := ql_720 (by omega)
    have hy2 : y < 720 := by omega
    have e1 : nI y + (1 : Int32) = nI (y + 1) := nI_add y 1
    obtain ⟨i1, i2⟩ := ih (y + 1) n (by omega) (by omega)
    have hx : q_fi (q_lq A R (s 232) 1) (d + 1) y = if q_lq A R (s 232) 1 y then y else q_fi (q_lq A R (s 232) 1) d (y + 1) := rfl
    obtain ⟨F1, F2⟩ := qm_lead (m := 1) md w wr mb (show y / 6 < 120 by omega) (show y % 6 < 6 by omega)
    change p_MO_doesLead s (nI (y / 6)) (nI (y % 6)) 1 at F1
    change f_MO_doesLead s (nI (y / 6)) (nI (y % 6)) 1 = _ at F2
    have v1 : vp_in (nI (y / 6)) 120 := vp_in_nI (by omega) (by omega)
    unfold p_MO_nextToGo_2 f_MO_nextToGo_2 p_MO_nextToGo_42 f_MO_nextToGo_42
    rw [if_neg l, qr_6 (by omega), qd_6 (by omega), nI_clamp (n := y / 6) (by omega), e1]
    by_cases h1 : s 232 (y / 6) = 0
    rotate_left
    · rw [if_neg h1, hx.trans (if_neg (fun q => h1 q.1))]
      exact ⟨⟨fun q => absurd q l, fun _ => ⟨v1, fun q => absurd q h1, fun _ => i1⟩⟩, i2⟩
    rw [if_pos h1]
    by_cases h2 : q_led A R (s 232) 1 (y / 6) (y % 6)
    · rw [if_pos h2] at F2
      have nz : ¬ f_MO_doesLead s (nI (y / 6)) (nI (y % 6)) 1 = 0 := by rw [F2]; exact i10
      rw [if_neg nz, hx.trans (if_pos ⟨h1, h2⟩), if_pos hy2]
      exact ⟨⟨fun q => absurd q l, fun _ => ⟨v1, fun _ => ⟨F1, fun q => absurd q nz, fun _ => trivial⟩, fun q => absurd h1 q⟩⟩, rfl⟩
    · rw [if_neg h2] at F2
      rw [if_pos F2, hx.trans (if_neg (fun q => h2 q.2))]
      exact ⟨⟨fun q => absurd q l, fun _ => ⟨v1, fun _ => ⟨F1, fun _ => i1, fun q => absurd F2 q⟩, fun q => absurd h1 q⟩⟩, i2⟩
theorem qm_g28 {A R : am_M} (w : q_wd A) (wr : q_wr A R) {z : Nat} (hz : z < 120) (x1 x2 : Int32) : ∀ (e p n : Nat) (s : am_M), q_co (fun p => s 232 p = 0) 120 0 = e → e < n → p < 120 → s 232 p = 0 → q_go A R z p → (p = z ∨ s 232 z ≠ 0) → q_md s A → q_mb s R → q_gs A R z (s 232) → ∃ t, f_MO_removesRow_28 n s x1 x2 (nI p) = f_MO_removesRow_48 t x1 x2 (-1) ∧ (p_MO_removesRow_48 t x1 x2 (-1) → p_MO_removesRow_28 n s x1 x2 (nI p)) ∧ q_out s t (fun a _ => a = 232) ∧ ∀ p, p < 120 → (t 232 p ≠ 0 ↔ q_go A R z p) := by
  intro e
  induction e using Nat.strongRecOn with
  | ind e ih =>
    intro p n s he hn hp h0 hgo hpz md mb hg
    obtain ⟨n, rfl⟩ : ∃ k, n = k + 1 := ⟨n - 1, by omega⟩
    have nm : ∀ q, q < 120 → ¬ nI q = (-1 : Int32) := fun q hq h => by
      have := qz (n := q) (by omega)
      rw [h] at this; exact this (by decide)
    have v1 : vp_in (nI p) 120 := vp_in_nI hp (by omega)
    have ho : q_out s (am_set s 232 p 1) (fun a _ => a = 232) := fun a b q => am_set_p (Or.inl q)
    have hS1 : (am_set s 232 p 1) 232 p = 1 := am_set_q
    have hSo : ∀ q, q ≠ p → (am_set s 232 p 1) 232 q = s 232 q := fun q hq => am_set_p (Or.inr hq)
    have mdS := q_md_out ho (fun a b q => by omega) md
    have mbS := q_mb_out ho (fun a b q => by omega) mb
    generalize hS : am_set s 232 p 1 = S at *
    have hgS : q_gs A R z (S 232) := fun q hq h => by
      by_cases hqp : q = p
      · rw [hqp]; exact hgo
      · rw [hSo q hqp] at h; exact hg q hq h
    have hSz : S 232 z ≠ 0 := by
      by_cases hzp : z = p
      · rw [hzp, hS1]; exact i10
      · rw [hSo z hzp]; exact hpz.resolve_left (fun q => hzp q.symm)
    have hlt := (@q_co_lt (fun p => s 232 p = 0) (fun p => S 232 p = 0) _ _ (fun q h => by
      by_cases hqp : q = p
      · rw [hqp]; exact h0
      · rw [hSo q hqp] at h; exact h) 120 0).2 p (Nat.zero_le _) (by omega) h0 (by rw [hS1]; exact i10)
    have F := qm_nx mdS w wr mbS 720 0 am_F (by omega) (by rw [am_F_eq]; omega)
    have F1 : p_MO_nextToGo S := F.1
    have F2 : f_MO_nextToGo S = if q_fi (q_lq A R (S 232) 1) 720 0 < 720 then nI (q_fi (q_lq A R (S 232) 1) 720 0 / 6) else -1 := F.2
    obtain ⟨g1, g2, g3, g4⟩ := @q_fi_le (q_lq A R (S 232) 1) _ 720 0
    unfold p_MO_removesRow_28 f_MO_removesRow_28
    rw [if_neg (nm p hp), nI_clamp (n := p) (by omega), hS, F2]
    by_cases h2 : q_fi (q_lq A R (S 232) 1) 720 0 < 720
    · rw [if_pos h2]
      have hl := g3 (by omega)
      generalize q_fi (q_lq A R (S 232) 1) 720 0 = y at *
      obtain ⟨t, j1, j2, j3, j4⟩ := ih (q_co (fun p => S 232 p = 0) 120 0) (by omega) (y / 6) n S rfl (by omega) (by omega) hl.1 (q_gs_s w wr hgS (by omega) (by omega) hl.2) (Or.inr hSz) mdS mbS hgS
      exact ⟨t, j1, fun q => ⟨fun q2 => absurd q2 (nm p hp), fun _ => ⟨v1, F1, j2 q⟩⟩, q_out_t ho j3, j4⟩
    · rw [if_neg h2]
      obtain ⟨n, rfl⟩ : ∃ k, n = k + 1 := ⟨n - 1, by omega⟩
      unfold p_MO_removesRow_28 f_MO_removesRow_28
      rw [if_pos rfl]
      refine ⟨S, rfl, fun q => ⟨fun q2 => absurd q2 (nm p hp), fun _ => ⟨v1, F1, fun _ => q, fun q2 => absurd rfl q2⟩⟩, ho, ?_⟩
      refine q_go_end w wr hz hSz hgS (fun p c hp hc hl hn => ?_)
      refine g4 (by omega) (6 * p + c) (by omega) (by omega) ⟨?_, ?_⟩
      · rw [show (6 * p + c) / 6 = p from by omega]; exact hn
      · rw [show (6 * p + c) / 6 = p from by omega, show (6 * p + c) % 6 = c from by omega]; exact hl
theorem qm_ini (x1 x2 : Int32) : ∀ (d j n : Nat) (s : am_M), j + d = 120 → d < n → ∃ S, f_MO_removesRow_2 n s x1 x2 (nI j) = f_MO_removesRow_21 S x1 x2 (nI 120) ∧ (p_MO_removesRow_21 S x1 x2 (nI 120) → p_MO_removesRow_2 n s x1 x2 (nI j)) ∧ q_out s S (fun a _ => a = 232) ∧ (∀ p, j ≤ p → p < 120 → S 232 p = 0) ∧ (∀ p, p < j → S 232 p = s 232 p) := by
  intro d
  induction d with
  | zero =>
    intro j n s hj hn
    obtain ⟨n, rfl⟩ : ∃ k, n = k + 1 := ⟨n - 1, by omega⟩
    obtain rfl : j = 120 := by omega
    have l : (120 : Int32) ≤ nI 120 := qg_120 (by omega) (by omega)
    unfold f_MO_removesRow_2 p_MO_removesRow_2
    rw [if_pos l]
    exact ⟨s, rfl, fun q => ⟨fun _ => q, fun q => absurd l q⟩, fun _ _ _ => rfl, fun p h1 h2 => absurd h2 (by omega), fun _ _ => rfl⟩
  | succ d ih =>
    intro j n s hj hn
    obtain ⟨n, rfl⟩ : ∃ k, n = k + 1 := ⟨n - 1, by omega⟩
    have l : ¬ (120 : Int32) ≤ nI j := ql_120 (by omega)
    have hj2 : j < 120 := by omega
    have e1 : nI j + (1 : Int32) = nI (j + 1) := nI_add j 1
    have v1 : vp_in (nI j) 120 := vp_in_nI hj2 (by omega)
    unfold f_MO_removesRow_2 p_MO_removesRow_2
    rw [if_neg l, e1, nI_clamp (n := j) (by omega)]
    obtain ⟨S, i1, i2, i3, i4, i5⟩ := ih (j + 1) n (am_set s 232 j 0) (by omega) (by omega)
    refine ⟨S, i1, fun q => ⟨fun q2 => absurd q2 l, fun _ => ⟨v1, i2 q⟩⟩, fun a b q => by rw [i3 a b q, am_set_p (Or.inl q)], fun p h1 h2 => ?_, fun p hp => by rw [i5 p (by omega), am_set_p (Or.inr (by omega))]⟩
    by_cases hp : p = j
    · rw [hp, i5 j (by omega), am_set_q]
    · exact i4 p (by omega) h2
/-- the model has found the rows that go -/
theorem qm_goes {s A R : am_M} (md : q_md s A) (w : q_wd A) (wr : q_wr A R) (mb : q_mb s R) {T r z : Nat} (hz : 30 * T + r = z) (hz2 : z < 120) : ∃ t, f_MO_removesRow s (nI T) (nI r) = f_MO_removesRow_48 t (nI T) (nI r) (-1) ∧ (p_MO_removesRow_48 t (nI T) (nI r) (-1) → p_MO_removesRow s (nI T) (nI r)) ∧ q_out s t (fun a _ => a = 232) ∧ ∀ p, p < 120 → (t 232 p ≠ 0 ↔ q_gg A R z p ≠ 0) := by
  obtain ⟨S, i1, i2, i3, i4, -⟩ := qm_ini (nI T) (nI r) 120 0 am_F s (by omega) (by rw [am_F_eq]; omega)
  have hle := @q_co_le (fun p => S 232 p = 0) _ 120 0
  obtain ⟨t, j1, j2, j3, j4⟩ := qm_g28 w wr hz2 (nI T) (nI r) _ z am_F S rfl (by rw [am_F_eq]; omega) hz2 (i4 z (Nat.zero_le _) hz2) q_go_z (Or.inl rfl) (q_md_out i3 (fun a b q => by omega) md) (q_mb_out i3 (fun a b q => by omega) mb) (fun p hp q => absurd (i4 p (Nat.zero_le _) hp) q)
  have ez : (30 : Int32) * nI T + nI r = nI z := by rw [qw_30, nI_add, hz]
  refine ⟨t, ?_, fun q => ?_, q_out_t i3 j3, fun p hp => (j4 p hp).trans q_gg_c.symm⟩
  · rw [← j1, ← ez]; exact i1
  · refine i2 ?_
    unfold p_MO_removesRow_21
    rw [ez]; exact j2 q
end
