noncomputable section
-- remove: the rows that go, and how the class finds them
def q_cl (A R : am_M) (S : Nat → Prop) : Prop := ∀ p c, p < 120 → c < 6 → R 1 p ≠ 0 → A 209 (6 * (p / 30) + c) = 1 → A 213 (6 * (p / 30) + c) = nI 1 → R 2 (6 * p + c) ≠ -1000000 → S (30 * q_tg A (6 * (p / 30) + c) + q_c (R 2 (6 * p + c))) → S p
/-- row p is in every closed set that holds row z -/
def q_go (A R : am_M) (z p : Nat) : Prop := ∀ S : Nat → Prop, S z → q_cl A R S → S p
theorem q_go_z {A R : am_M} {z : Nat} : q_go A R z z := fun _ h _ => h
theorem q_led_b {A R : am_M} {g : Nat → Int32} {m p c : Nat} (w : q_wd A) (wr : q_wr A R) (hp : p < 120) (hc : c < 6) (h : q_led A R g m p c) : 30 * q_tg A (6 * (p / 30) + c) + q_c (R 2 (6 * p + c)) < 120 := by
  obtain ⟨h1, h2, h3, h4, h5⟩ := h
  obtain ⟨t1, t2⟩ := w.2.2.2.1 _ (by omega) h2
  obtain ⟨r, r1, r2, r3⟩ := (wr.2.2.2.2 p c hp hc h1 h2).resolve_left h4
  have h4' := w.1.2
  have er : q_c (R 2 (6 * p + c)) = r := by rw [r2]; exact nI_clamp (by omega)
  rw [er]; omega
theorem q_led_c {A R : am_M} {g g' : Nat → Int32} {m p c : Nat} (w : q_wd A) (wr : q_wr A R) (hp : p < 120) (hc : c < 6) (h : ∀ p, p < 120 → (g p ≠ 0 ↔ g' p ≠ 0)) : q_led A R g m p c ↔ q_led A R g' m p c :=
  ⟨fun q => ⟨q.1, q.2.1, q.2.2.1, q.2.2.2.1, (h _ (q_led_b w wr hp hc q)).mp q.2.2.2.2⟩, fun q => ⟨q.1, q.2.1, q.2.2.1, q.2.2.2.1, (h _ (q_led_b w wr hp hc q)).mpr q.2.2.2.2⟩⟩
/-- all that are marked go -/
def q_gs (A R : am_M) (z : Nat) (g : Nat → Int32) : Prop := ∀ p, p < 120 → g p ≠ 0 → q_go A R z p
theorem q_gs_s {A R : am_M} {z p c : Nat} {g : Nat → Int32} (w : q_wd A) (wr : q_wr A R) (hg : q_gs A R z g) (hp : p < 120) (hc : c < 6) (h : q_led A R g 1 p c) : q_go A R z p := fun S hz hS =>
  hS p c hp hc h.1 h.2.1 h.2.2.1 h.2.2.2.1 (hg _ (q_led_b w wr hp hc h) h.2.2.2.2 S hz hS)
theorem q_go_end {A R : am_M} {z : Nat} {g : Nat → Int32} (w : q_wd A) (wr : q_wr A R) (hz : z < 120) (h0 : g z ≠ 0) (hs : q_gs A R z g) (hcl : ∀ p c, p < 120 → c < 6 → q_led A R g 1 p c → g p ≠ 0) : ∀ p, p < 120 → (g p ≠ 0 ↔ q_go A R z p) := fun p hp =>
  ⟨hs p hp, fun q => (q (fun p => p < 120 ∧ g p ≠ 0) ⟨hz, h0⟩ (fun p c hp hc a1 a2 a3 a4 a5 => ⟨hp, hcl p c hp hc ⟨a1, a2, a3, a4, a5.2⟩⟩)).2⟩
def q_gg (A R : am_M) (z p : Nat) : Int32 := @ite Int32 (q_go A R z p) (Classical.propDecidable _) 1 0
theorem q_gg_c {A R : am_M} {z p : Nat} : q_gg A R z p ≠ 0 ↔ q_go A R z p := by
  unfold q_gg
  by_cases h : q_go A R z p
  · rw [if_pos h]; exact ⟨fun _ => h, fun _ => i10⟩
  · rw [if_neg h]; exact ⟨fun q => absurd rfl q, fun q => absurd q h⟩
theorem q_co_lt {P Q : Nat → Prop} [DecidablePred P] [DecidablePred Q] (h : ∀ i, Q i → P i) : ∀ (d j : Nat), q_co Q d j ≤ q_co P d j ∧ ∀ x, j ≤ x → x < j + d → P x → ¬ Q x → q_co Q d j < q_co P d j := by
  intro d
  induction d with
  | zero => intro j; exact ⟨Nat.le_refl _, fun x h1 h2 => absurd h2 (by omega)⟩
  | succ d ih =>
    intro j
    obtain ⟨i1, i2⟩ := ih (j + 1)
    have eQ : q_co Q (d + 1) j = (if Q j then 1 else 0) + q_co Q d (j + 1) := rfl
    have eP : q_co P (d + 1) j = (if P j then 1 else 0) + q_co P d (j + 1) := rfl
    have hle : (if Q j then 1 else 0) ≤ (if P j then 1 else 0) := by
      by_cases q : Q j
      · rw [if_pos q, if_pos (h j q)]; exact Nat.le_refl _
      · rw [if_neg q]; exact Nat.zero_le _
    refine ⟨by omega, fun x h1 h2 hP hQ => ?_⟩
    by_cases hx : x = j
    · subst hx
      rw [if_pos hP, if_neg hQ] at *
      omega
    · have := i2 x (by omega) (by omega) hP hQ
      omega
theorem qc_spr {A R : am_M} (w : q_wd A) (wr : q_wr A R) {z : Nat} : ∀ (d j n : Nat) (s : am_M) (x : Int32), j + d = 120 → d < n → q_cd s A → q_cb s 9 10 11 R → q_gs A R z (s 18) → (x = 0 ∨ x = 1) → p_BA_spreadGoing_4 n s x (nI j) ∧ ∃ v t, f_BA_spreadGoing_4 n s x (nI j) = (v, t) ∧ q_out s t (fun a _ => a = 18) ∧ q_gs A R z (t 18) ∧ (∀ p, s 18 p ≠ 0 → t 18 p ≠ 0) ∧ (v = 0 → x = 0 ∧ t = s ∧ ∀ p c, j ≤ p → p < 120 → c < 6 → q_led A R (s 18) 1 p c → s 18 p ≠ 0) ∧ (v ≠ 0 → x ≠ 0 ∨ ∃ p, p < 120 ∧ s 18 p = 0 ∧ t 18 p ≠ 0) := by
  intro d
  induction d with
  | zero =>
    intro j n s x hj hn cd cb hg hx
    obtain ⟨n, rfl⟩ : ∃ k, n = k + 1 := ⟨n - 1, by omega⟩
    obtain rfl : j = 120 := by omega
    have l : (120 : Int32) ≤ nI 120 := qg_120 (by omega) (by omega)
    unfold p_BA_spreadGoing_4 f_BA_spreadGoing_4
    rw [if_pos l]
    exact ⟨⟨fun _ => ⟨hx, trivial⟩, fun q => absurd l q⟩, x, s, rfl, fun _ _ _ => rfl, hg, fun _ q => q, fun q => ⟨q, rfl, fun p c h1 h2 => absurd h2 (by omega)⟩, fun q => Or.inl q⟩
  | succ d ih =>
    intro j n s x hj hn cd cb hg hx
    obtain ⟨n, rfl⟩ : ∃ k, n = k + 1 := ⟨n - 1, by omega⟩
    have l : ¬ (120 : Int32) ≤ nI j := ql_120 (by omega)
    have hj2 : j < 120 := by omega
    have e1 : nI j + (1 : Int32) = nI (j + 1) := nI_add j 1
    have v1 : vp_in (nI j) 120 := vp_in_nI hj2 (by omega)
    obtain ⟨F1, F2⟩ := qc_first (m := 1) cd w wr cb hj2
    change p_BA_firstToGoing s (nI j) 1 at F1
    change f_BA_firstToGoing s (nI j) 1 = _ at F2
    unfold p_BA_spreadGoing_4 f_BA_spreadGoing_4 p_BA_spreadGoing_40 f_BA_spreadGoing_40
    rw [if_neg l, nI_clamp (n := j) (by omega), e1]
    by_cases h1 : s 18 j = 0
    rotate_left
    · rw [if_neg h1]
      obtain ⟨i1, v, t, i2, i3, i4, i5, i6, i7⟩ := ih (j + 1) n s x (by omega) (by omega) cd cb hg hx
      refine ⟨⟨fun q => absurd q l, fun _ => ⟨v1, fun q => absurd q h1, fun _ => i1⟩⟩, v, t, i2, i3, i4, i5, fun q => ?_, i7⟩
      obtain ⟨k1, k2, k3⟩ := i6 q
      refine ⟨k1, k2, fun p c h2 h3 hc hl => ?_⟩
      by_cases hp : p = j
      · rw [hp]; exact h1
      · exact k3 p c (by omega) h3 hc hl
    rw [if_pos h1]
    obtain ⟨g1, g2, g3, g4⟩ := @q_fi_le (q_led A R (s 18) 1 j) _ 6 0
    by_cases h2 : q_fi (q_led A R (s 18) 1 j) 6 0 < 6
    · rw [if_pos h2] at F2
      have hl := g3 (by omega)
      have hgo := q_gs_s w wr hg hj2 h2 hl
      have nz : ¬ f_BA_firstToGoing s (nI j) 1 < 0 := by rw [F2]; exact qz (by omega)
      rw [if_neg nz]
      obtain ⟨i1, v, t, i2, i3, i4, i5, i6, i7⟩ := ih (j + 1) n (am_set s 18 j 1) 1 (by omega) (by omega) (q_cd_set (by omega) cd) (q_cb_set (by omega) cb) (fun p hp q => by
        by_cases hpj : p = j
        · rw [hpj]; exact hgo
        · rw [am_set_p (Or.inr hpj)] at q; exact hg p hp q) (Or.inr rfl)
      refine ⟨⟨fun q => absurd q l, fun _ => ⟨v1, fun _ => ⟨F1, fun q => absurd q nz, fun _ => ⟨v1, i1⟩⟩, fun q => absurd h1 q⟩⟩, v, t, i2, fun a b q => ?_, i4, fun p q => i5 p ?_, fun q => absurd (i6 q).1 i10, fun _ => Or.inr ⟨j, hj2, h1, i5 j (by rw [am_set_q]; exact i10)⟩⟩
      · rw [i3 a b q, am_set_p (Or.inl q)]
      · by_cases hpj : p = j
        · rw [hpj, am_set_q]; exact i10
        · rw [am_set_p (Or.inr hpj)]; exact q
    · rw [if_neg h2] at F2
      have nz : f_BA_firstToGoing s (nI j) 1 < 0 := by rw [F2]; decide
      rw [if_pos nz]
      obtain ⟨i1, v, t, i2, i3, i4, i5, i6, i7⟩ := ih (j + 1) n s x (by omega) (by omega) cd cb hg hx
      refine ⟨⟨fun q => absurd q l, fun _ => ⟨v1, fun _ => ⟨F1, fun _ => i1, fun q => absurd nz q⟩, fun q => absurd h1 q⟩⟩, v, t, i2, i3, i4, i5, fun q => ?_, i7⟩
      obtain ⟨k1, k2, k3⟩ := i6 q
      refine ⟨k1, k2, fun p c h3 h4 hc hl => ?_⟩
      by_cases hp : p = j
      · rw [hp] at hl
        exact absurd hl (g4 (by omega) c (by omega) (by omega))
      · exact k3 p c (by omega) h4 hc hl
theorem qc_swp {A R : am_M} (w : q_wd A) (wr : q_wr A R) {z : Nat} (hz : z < 120) (x1 x2 : Int32) : ∀ (e i n : Nat) (s : am_M), q_co (fun p => s 18 p = 0) 120 0 = e → i + e < 120 → e < n → q_cd s A → q_cb s 9 10 11 R → q_gs A R z (s 18) → s 18 z ≠ 0 → ∃ t y, f_BA_takeOut_40 n s x1 x2 (nI i) = f_BA_takeOut_65 t x1 x2 y ∧ (p_BA_takeOut_65 t x1 x2 y → p_BA_takeOut_40 n s x1 x2 (nI i)) ∧ q_out s t (fun a _ => a = 18) ∧ ∀ p, p < 120 → (t 18 p ≠ 0 ↔ q_go A R z p) := by
  intro e
  induction e using Nat.strongRecOn with
  | ind e ih =>
    intro i n s he hi hn cd cb hg h0
    obtain ⟨n, rfl⟩ : ∃ k, n = k + 1 := ⟨n - 1, by omega⟩
    have l : ¬ (120 : Int32) ≤ nI i := ql_120 (by omega)
    have e1 : nI i + (1 : Int32) = nI (i + 1) := nI_add i 1
    obtain ⟨i1, v, t, i2, i3, i4, i5, i6, i7⟩ := qc_spr w wr 120 0 am_F s 0 (by omega) (by rw [am_F_eq]; omega) cd cb hg (Or.inl rfl)
    have hs : f_BA_spreadGoing s = (v, t) := i2
    have ps : p_BA_spreadGoing s := i1
    unfold f_BA_takeOut_40 p_BA_takeOut_40 f_BA_takeOut_56 p_BA_takeOut_56
    rw [if_neg l, hs, e1]
    dsimp only
    by_cases hv : v = 0
    · rw [if_pos hv]
      obtain ⟨-, k2, k3⟩ := i6 hv
      refine ⟨t, nI i, rfl, fun q => ⟨fun q2 => absurd q2 l, fun _ => ⟨ps, fun _ => q, fun q2 => absurd hv q2⟩⟩, i3, ?_⟩
      rw [k2]
      exact q_go_end w wr hz h0 hg (fun p c hp hc q => k3 p c (Nat.zero_le _) hp hc q)
    · rw [if_neg hv]
      obtain ⟨p, p1, p2, p3⟩ := (i7 hv).resolve_left (fun q => q rfl)
      have hlt := (@q_co_lt (fun p => s 18 p = 0) (fun p => t 18 p = 0) _ _ (fun p q => Classical.byContradiction (fun q2 => i5 p q2 q)) 120 0).2 p (Nat.zero_le _) (by omega) p2 p3
      obtain ⟨T, y, j1, j2, j3, j4⟩ := ih (q_co (fun p => t 18 p = 0) 120 0) (by omega) (i + 1) n t rfl (by omega) (by omega) (q_cd_out i3 (fun a b q => by omega) cd) (q_cb_out i3 (fun a b q => by omega) cb) i4 (i5 z h0)
      exact ⟨T, y, j1, fun q => ⟨fun q2 => absurd q2 l, fun _ => ⟨ps, fun q2 => absurd q2 hv, fun _ => j2 q⟩⟩, q_out_t i3 j3, j4⟩
theorem qc_ini {T r z : Nat} (hz : 30 * T + r = z) (hz2 : z < 120) : ∀ (d j n : Nat) (s : am_M), j + d = 120 → d < n → ∃ S, f_BA_takeOut_2 n s (nI T) (nI r) (nI j) = f_BA_takeOut_38 S (nI T) (nI r) (nI 120) ∧ (p_BA_takeOut_38 S (nI T) (nI r) (nI 120) → p_BA_takeOut_2 n s (nI T) (nI r) (nI j)) ∧ q_out s S (fun a _ => a = 18) ∧ (∀ p, j ≤ p → p < 120 → S 18 p = if p = z then 1 else 0) ∧ (∀ p, p < j → S 18 p = s 18 p) := by
  intro d
  induction d with
  | zero =>
    intro j n s hj hn
    obtain ⟨n, rfl⟩ : ∃ k, n = k + 1 := ⟨n - 1, by omega⟩
    obtain rfl : j = 120 := by omega
    have l : (120 : Int32) ≤ nI 120 := qg_120 (by omega) (by omega)
    unfold f_BA_takeOut_2 p_BA_takeOut_2
    rw [if_pos l]
    exact ⟨s, rfl, fun q => ⟨fun _ => q, fun q => absurd l q⟩, fun _ _ _ => rfl, fun p h1 h2 => absurd h2 (by omega), fun _ _ => rfl⟩
  | succ d ih =>
    intro j n s hj hn
    obtain ⟨n, rfl⟩ : ∃ k, n = k + 1 := ⟨n - 1, by omega⟩
    have l : ¬ (120 : Int32) ≤ nI j := ql_120 (by omega)
    have hj2 : j < 120 := by omega
    have e1 : nI j + (1 : Int32) = nI (j + 1) := nI_add j 1
    have v1 : vp_in (nI j) 120 := vp_in_nI hj2 (by omega)
    have ez : nI T * (30 : Int32) + nI r = nI z := by rw [qm_30, nI_add, ← hz, Nat.mul_comm]
    have hcmp : nI j = nI z ↔ j = z := nI_eq (by omega) (by omega)
    unfold f_BA_takeOut_2 p_BA_takeOut_2 f_BA_takeOut_31 p_BA_takeOut_31
    rw [if_neg l, ez, e1, nI_clamp (n := j) (by omega)]
    by_cases h : j = z
    · rw [if_pos (hcmp.mpr h)]
      obtain ⟨S, i1, i2, i3, i4, i5⟩ := ih (j + 1) n (am_set s 18 j 1) (by omega) (by omega)
      refine ⟨S, i1, fun q => ⟨fun q2 => absurd q2 l, fun _ => ⟨fun _ => ⟨v1, Or.inr rfl, i2 q⟩, fun q2 => absurd (hcmp.mpr h) q2⟩⟩, fun a b q => by rw [i3 a b q, am_set_p (Or.inl q)], fun p h1 h2 => ?_, fun p hp => by rw [i5 p (by omega), am_set_p (Or.inr (by omega))]⟩
      by_cases hp : p = j
      · rw [hp, i5 j (by omega), am_set_q, if_pos h]
      · exact i4 p (by omega) h2
    · rw [if_neg (fun q => h (hcmp.mp q))]
      obtain ⟨S, i1, i2, i3, i4, i5⟩ := ih (j + 1) n (am_set s 18 j 0) (by omega) (by omega)
      refine ⟨S, i1, fun q => ⟨fun q2 => absurd q2 l, fun _ => ⟨fun q2 => absurd (hcmp.mp q2) h, fun _ => ⟨v1, Or.inl rfl, i2 q⟩⟩⟩, fun a b q => by rw [i3 a b q, am_set_p (Or.inl q)], fun p h1 h2 => ?_, fun p hp => by rw [i5 p (by omega), am_set_p (Or.inr (by omega))]⟩
      by_cases hp : p = j
      · rw [hp, i5 j (by omega), am_set_q, if_neg h]
      · exact i4 p (by omega) h2
/-- the class has found the rows that go -/
theorem qc_goes {s A R : am_M} (cd : q_cd s A) (w : q_wd A) (wr : q_wr A R) (cb : q_cb s 9 10 11 R) {T r z : Nat} (hz : 30 * T + r = z) (hz2 : z < 120) : ∃ t y, f_BA_takeOut s (nI T) (nI r) = f_BA_takeOut_65 t (nI T) (nI r) y ∧ (p_BA_takeOut_65 t (nI T) (nI r) y → p_BA_takeOut s (nI T) (nI r)) ∧ q_out s t (fun a _ => a = 18) ∧ ∀ p, p < 120 → (t 18 p ≠ 0 ↔ q_gg A R z p ≠ 0) := by
  obtain ⟨S, i1, i2, i3, i4, -⟩ := qc_ini hz hz2 120 0 am_F s (by omega) (by rw [am_F_eq]; omega)
  have hSz : S 18 z ≠ 0 := by rw [i4 z (Nat.zero_le _) hz2, if_pos rfl]; exact i10
  have hle := @q_co_le (fun _ => True) _ 120 0
  have hlt := (@q_co_lt (fun _ => True) (fun p => S 18 p = 0) _ _ (fun _ _ => trivial) 120 0).2 z (Nat.zero_le _) (by omega) trivial hSz
  obtain ⟨t, y, j1, j2, j3, j4⟩ := qc_swp w wr hz2 (nI T) (nI r) _ 0 am_F S rfl (by omega) (by rw [am_F_eq]; omega) (q_cd_out i3 (fun a b q => by omega) cd) (q_cb_out i3 (fun a b q => by omega) cb) (fun p hp q => by
    by_cases hpz : p = z
    · rw [hpz]; exact q_go_z
    · rw [i4 p (Nat.zero_le _) hp, if_neg hpz] at q; exact absurd rfl q) hSz
  refine ⟨t, y, ?_, fun q => ?_, q_out_t i3 j3, fun p hp => (j4 p hp).trans q_gg_c.symm⟩
  · rw [← j1]; exact i1
  · exact i2 (j2 q)
end
