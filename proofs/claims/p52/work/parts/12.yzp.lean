noncomputable section
-- remove: a row that stays forbids it
def q_fb (A R : am_M) (G : Nat → Int32) : Nat := q_fi (q_lq A R G 0) 720 0
def q_fbL (A R : am_M) (G : Nat → Int32) : List q_It := [(6, q_fb A R G / 6 / 30, q_fb A R G / 6 % 30, q_fb A R G % 6)]
theorem qc_fb2 {s A R : am_M} (cd : q_cd s A) (w : q_wd A) (wr : q_wr A R) (cb : q_cb s 9 10 11 R) {G : Nat → Int32} (hG : ∀ p, p < 120 → (s 18 p ≠ 0 ↔ G p ≠ 0)) : ∀ (d p n : Nat), p + d = 120 → d < n → p_BA_isForbidden_2 n s (nI p) ∧ f_BA_isForbidden_2 n s (nI p) = if q_fi (q_lq A R G 0) (6 * d) (6 * p) < 720 then (1, f_RE_set s 16 6 (nI (q_fi (q_lq A R G 0) (6 * d) (6 * p) / 6 / 30)) (nI (q_fi (q_lq A R G 0) (6 * d) (6 * p) / 6 % 30)) (nI (q_fi (q_lq A R G 0) (6 * d) (6 * p) % 6))) else (0, s) := by
  intro d
  induction d with
  | zero =>
    intro p n hp hn
    obtain ⟨n, rfl⟩ : ∃ k, n = k + 1 := ⟨n - 1, by omega⟩
    obtain rfl : p = 120 := by omega
    have l : (120 : Int32) ≤ nI 120 := qg_120 (by omega) (by omega)
    unfold p_BA_isForbidden_2 f_BA_isForbidden_2
    rw [if_pos l]
    exact ⟨⟨fun _ => trivial, fun q => absurd l q⟩, rfl⟩
  | succ d ih =>
    intro p n hp hn
    obtain ⟨n, rfl⟩ : ∃ k, n = k + 1 := ⟨n - 1, by omega⟩
    have l : ¬ (120 : Int32) ≤ nI p := ql_120 (by omega)
    have hp2 : p < 120 := by omega
    have e1 : nI p + (1 : Int32) = nI (p + 1) := nI_add p 1
    have v1 : vp_in (nI p) 120 := vp_in_nI hp2 (by omega)
    obtain ⟨i1, i2⟩ := ih (p + 1) n (by omega) (by omega)
    have hx : q_fi (q_lq A R G 0) (6 * (d + 1)) (6 * p) = if q_fi (q_lq A R G 0) 6 (6 * p) < 6 * p + 6 then q_fi (q_lq A R G 0) 6 (6 * p) else q_fi (q_lq A R G 0) (6 * d) (6 * (p + 1)) := by
      rw [show 6 * (d + 1) = 6 + 6 * d from by omega, q_fi_a, show 6 * p + 6 = 6 * (p + 1) from by omega]
    obtain ⟨F1, F2⟩ := qc_first (m := 0) cd w wr cb hp2
    change p_BA_firstToGoing s (nI p) 0 at F1
    change f_BA_firstToGoing s (nI p) 0 = _ at F2
    unfold p_BA_isForbidden_2 f_BA_isForbidden_2 p_BA_isForbidden_30 f_BA_isForbidden_30 p_BA_isForbidden_35 f_BA_isForbidden_35
    rw [if_neg l, nI_clamp (n := p) (by omega), e1]
    obtain ⟨g1, g2, g3, g4⟩ := @q_fi_le (q_lq A R G 0) _ 6 (6 * p)
    by_cases h1 : s 18 p = 0
    rotate_left
    · have hno : ¬ q_fi (q_lq A R G 0) 6 (6 * p) < 6 * p + 6 := fun q => by
        have := (g3 q).1
        rw [show q_fi (q_lq A R G 0) 6 (6 * p) / 6 = p from by omega] at this
        exact (hG p hp2).mp h1 this
      have m0 : (-1 : Int32) < 0 := by decide
      rw [if_neg h1, if_pos m0, hx.trans (if_neg hno)]
      exact ⟨⟨fun q => absurd q l, fun _ => ⟨v1, fun q => absurd q h1, fun _ => ⟨fun _ => i1, fun q => absurd m0 q⟩⟩⟩, i2⟩
    have hGp : G p = 0 := Classical.byContradiction (fun q => (hG p hp2).mpr q h1)
    have sh := @q_fi_sh (q_lq A R G 0) (q_led A R (s 18) 0 p) _ _ 6 (6 * p) 0 (fun i hi => by
      have e1 : (6 * p + i) / 6 = p := by omega
      have e2 : (6 * p + i) % 6 = i := by omega
      show (G ((6 * p + i) / 6) = 0 ∧ q_led A R G 0 ((6 * p + i) / 6) ((6 * p + i) % 6)) ↔ q_led A R (s 18) 0 p (0 + i)
      rw [e1, e2, Nat.zero_add]
      exact ⟨fun q => (q_led_c w wr hp2 hi hG).mpr q.2, fun q => ⟨hGp, (q_led_c w wr hp2 hi hG).mp q⟩⟩)
    rw [if_pos h1]
    by_cases h2 : q_fi (q_led A R (s 18) 0 p) 6 0 < 6
    · rw [if_pos h2] at F2
      have nz : ¬ nI (q_fi (q_led A R (s 18) 0 p) 6 0) < 0 := qz (by omega)
      rw [F2, if_neg nz, hx.trans (if_pos (by omega)), if_pos (by omega), qr_30 (by omega), qd_30 (by omega), show q_fi (q_led A R (s 18) 0 p) 6 0 = q_fi (q_lq A R G 0) 6 (6 * p) % 6 from by omega, show q_fi (q_lq A R G 0) 6 (6 * p) / 6 = p from by omega]
      refine ⟨⟨fun q => absurd q l, fun _ => ⟨v1, fun _ => ⟨F1, fun q => ?_, fun _ => ⟨(q_re16 _ _ _ _ _).1, trivial⟩⟩, fun q => absurd h1 q⟩⟩, rfl⟩
      exact absurd q (qz (by omega))
    · rw [if_neg h2] at F2
      have m0 : (-1 : Int32) < 0 := by decide
      rw [F2, if_pos m0, hx.trans (if_neg (by omega))]
      exact ⟨⟨fun q => absurd q l, fun _ => ⟨v1, fun _ => ⟨F1, fun _ => i1, fun q => absurd m0 q⟩, fun q => absurd h1 q⟩⟩, i2⟩
theorem qc_fb {s A R : am_M} (cd : q_cd s A) (w : q_wd A) (wr : q_wr A R) (cb : q_cb s 9 10 11 R) {G : Nat → Int32} (hG : ∀ p, p < 120 → (s 18 p ≠ 0 ↔ G p ≠ 0)) : p_BA_isForbidden s ∧ ∃ t, f_BA_isForbidden s = ((if q_fb A R G < 720 then 1 else 0), t) ∧ q_out s t (fun a _ => a = 16) ∧ (q_fb A R G < 720 → q_fd t 16 0 (q_fbL A R G)) := by
  obtain ⟨i1, i2⟩ := qc_fb2 cd w wr cb hG 120 0 am_F (by omega) (by rw [am_F_eq]; omega)
  have e : q_fi (q_lq A R G 0) (6 * 120) (6 * 0) = q_fb A R G := rfl
  rw [e] at i2
  refine ⟨i1, ?_⟩
  have hf : f_BA_isForbidden s = f_BA_isForbidden_2 am_F s (nI 0) := rfl
  rw [hf, i2]
  unfold q_fbL
  by_cases h : q_fb A R G < 720
  · rw [if_pos h, if_pos h]
    obtain ⟨r1, r2, r3, r4, r5, r6⟩ := q_re16 s 6 (nI (q_fb A R G / 6 / 30)) (nI (q_fb A R G / 6 % 30)) (nI (q_fb A R G % 6))
    exact ⟨_, rfl, r2, fun _ => ⟨r3, r4, r5, r6⟩⟩
  · rw [if_neg h, if_neg h]
    exact ⟨s, rfl, fun _ _ _ => rfl, fun q => absurd q h⟩
theorem qm_fb2 {s A R : am_M} (md : q_md s A) (w : q_wd A) (wr : q_wr A R) (mb : q_mb s R) {G : Nat → Int32} (hG : ∀ p, p < 120 → (s 232 p ≠ 0 ↔ G p ≠ 0)) : ∀ (d y n : Nat), y + d = 720 → d < n → p_MO_isForbidden_2 n s (nI y) ∧ f_MO_isForbidden_2 n s (nI y) = if q_fi (q_lq A R G 0) d y < 720 then (1, q_td s 6 (nI (q_fi (q_lq A R G 0) d y / 6 / 30)) (nI (q_fi (q_lq A R G 0) d y / 6 % 30)) (nI (q_fi (q_lq A R G 0) d y % 6))) else (0, s) := by
  intro d
  induction d with
  | zero =>
    intro y n hy hn
    obtain ⟨n, rfl⟩ : ∃ k, n = k + 1 := ⟨n - 1, by omega⟩
    obtain rfl : y = 720 := by omega
    have l : (720 : Int32) ≤ nI 720 := qg_720 (by omega) (by omega)
    unfold p_MO_isForbidden_2 f_MO_isForbidden_2
    rw [if_pos l]
    exact ⟨⟨fun _ => trivial, fun q => absurd l q⟩, rfl⟩
  | succ d ih =>
    intro y n hy hn
    obtain ⟨n, rfl⟩ : ∃ k, n = k + 1 := ⟨n - 1, by omega⟩
    have l : ¬ (720 : Int32) ≤ nI y := ql_720 (by omega)
    have hy2 : y < 720 := by omega
    have e1 : nI y + (1 : Int32) = nI (y + 1) := nI_add y 1
    obtain ⟨i1, i2⟩ := ih (y + 1) n (by omega) (by omega)
    have hx : q_fi (q_lq A R G 0) (d + 1) y = if q_lq A R G 0 y then y else q_fi (q_lq A R G 0) d (y + 1) := rfl
    have hp6 : y / 6 < 120 := by omega
    have hc6 : y % 6 < 6 := by omega
    obtain ⟨F1, F2⟩ := qm_lead (m := 0) md w wr mb hp6 hc6
    change p_MO_doesLead s (nI (y / 6)) (nI (y % 6)) 0 at F1
    change f_MO_doesLead s (nI (y / 6)) (nI (y % 6)) 0 = _ at F2
    have v1 : vp_in (nI (y / 6)) 120 := vp_in_nI (by omega) (by omega)
    have hgl := @q_led_c A R (s 232) G 0 _ _ w wr hp6 hc6 hG
    unfold p_MO_isForbidden_2 f_MO_isForbidden_2 p_MO_isForbidden_62 f_MO_isForbidden_62 p_MO_isForbidden_37 f_MO_isForbidden_37
    rw [if_neg l, qr_6 (by omega), qd_6 (by omega), nI_clamp (n := y / 6) (by omega), e1]
    by_cases h1 : s 232 (y / 6) = 0
    rotate_left
    · rw [if_neg h1, hx.trans (if_neg (fun q => (hG _ hp6).mp h1 q.1))]
      exact ⟨⟨fun q => absurd q l, fun _ => ⟨v1, fun q => absurd q h1, fun _ => i1⟩⟩, i2⟩
    have hGp : G (y / 6) = 0 := Classical.byContradiction (fun q => (hG _ hp6).mpr q h1)
    rw [if_pos h1]
    by_cases h2 : q_led A R (s 232) 0 (y / 6) (y % 6)
    · rw [if_pos h2] at F2
      have nz : ¬ f_MO_doesLead s (nI (y / 6)) (nI (y % 6)) 0 = 0 := by rw [F2]; exact i10
      rw [if_neg nz, hx.trans (if_pos ⟨hGp, hgl.mp h2⟩), if_pos hy2, qd_180 (by omega), qr_30 (by omega), show y / 180 = y / 6 / 30 from by omega]
      exact ⟨⟨fun q => absurd q l, fun _ => ⟨v1, fun _ => ⟨F1, fun q => absurd q nz, fun _ => trivial⟩, fun q => absurd h1 q⟩⟩, rfl⟩
    · rw [if_neg h2] at F2
      rw [if_pos F2, hx.trans (if_neg (fun q => h2 (hgl.mpr q.2)))]
      exact ⟨⟨fun q => absurd q l, fun _ => ⟨v1, fun _ => ⟨F1, fun _ => i1, fun q => absurd F2 q⟩, fun q => absurd h1 q⟩⟩, i2⟩
theorem qm_fb {s A R : am_M} (md : q_md s A) (w : q_wd A) (wr : q_wr A R) (mb : q_mb s R) {G : Nat → Int32} (hG : ∀ p, p < 120 → (s 232 p ≠ 0 ↔ G p ≠ 0)) : p_MO_isForbidden s ∧ ∃ t, f_MO_isForbidden s = ((if q_fb A R G < 720 then 1 else 0), t) ∧ q_out s t (fun a b => a = 207 ∧ 31 ≤ b ∧ b ≤ 34) ∧ (q_fb A R G < 720 → q_fd t 207 31 (q_fbL A R G)) := by
  obtain ⟨i1, i2⟩ := qm_fb2 md w wr mb hG 720 0 am_F (by omega) (by rw [am_F_eq]; omega)
  have e : q_fi (q_lq A R G 0) 720 0 = q_fb A R G := rfl
  rw [e] at i2
  refine ⟨i1, ?_⟩
  have hf : f_MO_isForbidden s = f_MO_isForbidden_2 am_F s (nI 0) := rfl
  rw [hf, i2]
  unfold q_fbL
  by_cases h : q_fb A R G < 720
  · rw [if_pos h, if_pos h]
    exact ⟨_, rfl, q_td_o _ _ _ _ _, fun _ => q_td_v _ _ _ _ _⟩
  · rw [if_neg h, if_neg h]
    exact ⟨s, rfl, fun _ _ _ => rfl, fun q => absurd q h⟩
-- remove: what is blanked
def q_tk (A R : am_M) (G : Nat → Int32) (y : Nat) : am_M := fun a b => if a = 2 ∧ b < y ∧ q_lq A R G 2 b then -1000000 else R a b
theorem q_tk_0 {A R : am_M} {G : Nat → Int32} : q_tk A R G 0 = R := by
  funext a b; unfold q_tk; rw [if_neg (fun q => absurd q.2.1 (Nat.not_lt_zero _))]
theorem q_tk_r {A R : am_M} {G : Nat → Int32} {y a : Nat} (h : a ≠ 2) : q_tk A R G y a = R a := by
  funext b; unfold q_tk; rw [if_neg (fun q => h q.1)]
theorem q_tk_2 {A R : am_M} {G : Nat → Int32} {y b : Nat} : q_tk A R G y 2 b = if b < y ∧ q_lq A R G 2 b then -1000000 else R 2 b := by
  unfold q_tk
  by_cases h : b < y ∧ q_lq A R G 2 b
  · rw [if_pos ⟨rfl, h⟩, if_pos h]
  · rw [if_neg (fun q => h q.2), if_neg h]
theorem q_tk_skip {A R : am_M} {G : Nat → Int32} {y y' : Nat} (hy : y ≤ y') (h : ∀ b, y ≤ b → b < y' → ¬ q_lq A R G 2 b) : q_tk A R G y' = q_tk A R G y := by
  funext a b
  by_cases ha : a = 2
  · subst ha
    rw [q_tk_2, q_tk_2]
    by_cases hb : b < y
    · by_cases hq : q_lq A R G 2 b
      · rw [if_pos ⟨by omega, hq⟩, if_pos ⟨hb, hq⟩]
      · rw [if_neg (fun q => hq q.2), if_neg (fun q => hq q.2)]
    · rw [if_neg (fun q => h b (by omega) q.1 q.2), if_neg (fun q => hb q.1)]
  · rw [q_tk_r ha, q_tk_r ha]
theorem q_tk_s {A R : am_M} {G : Nat → Int32} {y : Nat} (h : q_lq A R G 2 y) : q_tk A R G (y + 1) = q_put (q_tk A R G y) y (-1000000) := by
  funext a b
  unfold q_put
  by_cases ha : a = 2
  · subst ha
    rw [q_tk_2, q_tk_2]
    by_cases hb : b = y
    · subst hb
      rw [if_pos ⟨by omega, h⟩, if_pos ⟨rfl, rfl⟩]
    · rw [if_neg (show ¬ (2 = 2 ∧ b = y) from fun q => hb q.2)]
      by_cases hq : b < y ∧ q_lq A R G 2 b
      · rw [if_pos hq, if_pos ⟨by omega, hq.2⟩]
      · rw [if_neg hq, if_neg (fun q => hq ⟨by omega, q.2⟩)]
  · rw [if_neg (fun q => ha q.1), q_tk_r ha, q_tk_r ha]
theorem q_tk_wr {A R : am_M} {G : Nat → Int32} {y : Nat} (h : q_wr A R) : q_wr A (q_tk A R G y) := by
  obtain ⟨a1, a2, a3, a4, a5⟩ := h
  have e0 : q_tk A R G y 0 = R 0 := q_tk_r (by omega)
  have e1 : q_tk A R G y 1 = R 1 := q_tk_r (by omega)
  refine ⟨fun t ht => by rw [e0]; exact a1 t ht, fun p hp q => by rw [e0]; rw [e1] at q; exact a2 p hp q, fun x hx q => ?_, fun p c hp hc q q2 => ?_, fun p c hp hc q q2 => ?_⟩
  · rw [e1] at q
    rw [q_tk_2]
    by_cases hq : x < y ∧ q_lq A R G 2 x
    · rw [if_pos hq]; exact q_v_B
    · rw [if_neg hq]; exact a3 x hx q
  · rw [e1] at q
    rw [q_tk_2]
    by_cases hq : 6 * p + c < y ∧ q_lq A R G 2 (6 * p + c)
    · rw [if_pos hq]
    · rw [if_neg hq]; exact a4 p c hp hc q q2
  · rw [e1] at q ⊢
    rw [q_tk_2]
    by_cases hq : 6 * p + c < y ∧ q_lq A R G 2 (6 * p + c)
    · rw [if_pos hq]; exact Or.inl rfl
    · rw [if_neg hq]; exact a5 p c hp hc q q2
theorem q_tk_led {A R : am_M} {G g : Nat → Int32} {y p c : Nat} (w : q_wd A) (wr : q_wr A R) (hG : ∀ p, p < 120 → (g p ≠ 0 ↔ G p ≠ 0)) (hp : p < 120) (hc : c < 6) (h0 : g p = 0) : q_led A (q_tk A R G y) g 2 p c ↔ y ≤ 6 * p + c ∧ q_lq A R G 2 (6 * p + c) := by
  have e1 : q_tk A R G y 1 = R 1 := q_tk_r (by omega)
  have d1 : (6 * p + c) / 6 = p := by omega
  have d2 : (6 * p + c) % 6 = c := by omega
  have hGp : G p = 0 := Classical.byContradiction (fun q => (hG p hp).mpr q h0)
  have hl := @q_led_c A R g G 2 _ _ w wr hp hc hG
  have hq : q_lq A R G 2 (6 * p + c) ↔ q_led A R G 2 p c := by
    show (G ((6 * p + c) / 6) = 0 ∧ q_led A R G 2 ((6 * p + c) / 6) ((6 * p + c) % 6)) ↔ _
    rw [d1, d2]; exact ⟨fun q => q.2, fun q => ⟨hGp, q⟩⟩
  rw [hq, ← hl]
  unfold q_led
  rw [e1, q_tk_2]
  by_cases hy : y ≤ 6 * p + c
  · rw [if_neg (fun q => absurd q.1 (by omega))]
    exact ⟨fun q => ⟨hy, q⟩, fun q => q.2⟩
  · by_cases hk : q_led A R G 2 p c
    · rw [if_pos ⟨by omega, hq.mpr hk⟩]
      exact ⟨fun q => absurd rfl q.2.2.2.1, fun q => absurd q.1 hy⟩
    · rw [if_neg (fun q => hk (hq.mp q.2))]
      exact ⟨fun q => absurd (hl.mp q) hk, fun q => absurd q.1 hy⟩
end
