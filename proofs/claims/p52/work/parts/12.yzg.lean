noncomputable section
-- addReckoned
theorem q_wr_reck {A R : am_M} (w : q_wd A) (h : q_wr A R) : q_wr A (q_reck A R) := by
  obtain ⟨⟨g1, g2, g3⟩, e1, e0⟩ := q_we_reck w h.we
  have ho : ∀ p c, p < 120 → c < 6 → A 209 (6 * (p / 30) + c) ≠ 2 → q_reck A R 2 (6 * p + c) = R 2 (6 * p + c) := fun p c hp hc hk => q_reck_o (by rw [show 6 * ((6 * p + c) / 180) + (6 * p + c) % 6 = 6 * (p / 30) + c from by omega]; exact hk)
  refine ⟨g1, g2, g3, fun p c hp hc hh hk => ?_, fun p c hp hc hh hk => ?_⟩
  · rw [ho p c hp hc (by rcases hk with q | q <;> rw [q] <;> decide)]
    rw [e1] at hh
    exact h.2.2.2.1 p c hp hc hh hk
  · rw [ho p c hp hc (by rw [hk]; decide), e1]
    rw [e1] at hh
    exact h.2.2.2.2 p c hp hc hh hk
/-- a column is made: the class's columns -/
theorem q_cd_mk {s A : am_M} (cd : q_cd s A) (w : q_wd A) {t : Nat} (ht : t < q_nt A) (hw : q_w A t < 6) (kd : Int32) : q_cd (am_set (am_set s 4 t (nI (q_w A t + 1))) (20 + (6 * t + q_w A t)) 0 (q_kc kd)) (q_mk A t kd) := by
  have h4 := w.1.2
  generalize hkk : 6 * t + q_w A t = k
  have hk24 : k < 24 := by omega
  have hA : A 209 k = -1 := (w.2.2.1 k hk24).2 (by rw [show k / 6 = t from by omega]; omega)
  have hx := w.2.2.2.2.1 k hk24
  rw [hA] at hx
  have x1 : A 218 k = 0 := hx.1.resolve_right (fun q => by rcases q.2 with q | q <;> exact absurd q (by decide))
  have x2 : A 219 k = 0 := hx.2.resolve_right (fun q => by rcases q.2 with q | q <;> exact absurd q (by decide))
  obtain ⟨c1, c2, c3, c4⟩ := cd
  have hfl : ∀ j, 1 ≤ j → 210 ≤ q_fld j ∧ q_fld j ≤ 219 := fun j hj => by unfold q_fld; split <;> omega
  unfold q_mk
  rw [hkk]
  refine ⟨?_, fun u hu => ?_, fun k' hk' => ?_, fun k' j hk' g1 g2 => ?_⟩
  · rw [am_set_p (by omega), am_set_p (by omega), am_set_p (by omega), am_set_p (by omega), am_set_p (by omega), am_set_p (by omega)]; exact c1
  · rw [am_set_p (by omega)]
    by_cases e9 : u = t
    · rw [e9, am_set_q, am_set_q]
    · rw [am_set_p (Or.inr e9), am_set_p (Or.inr e9), am_set_p (by omega), am_set_p (by omega), am_set_p (by omega)]; exact c2 u hu
  · rw [am_set_p (by omega : (209 : Nat) ≠ 208 ∨ _), am_set_p (by omega : (209 : Nat) ≠ 219 ∨ _), am_set_p (by omega : (209 : Nat) ≠ 218 ∨ _)]
    by_cases e9 : k' = k
    · rw [e9, am_set_q, am_set_q]
    · rw [am_set_p (by omega), am_set_p (by omega), am_set_p (by omega)]; exact c3 k' hk'
  · have hj := hfl j g1
    rw [am_set_p (by omega), am_set_p (by omega), am_set_p (by omega : q_fld j ≠ 208 ∨ _)]
    have e := c4 k' j hk' g1 g2
    by_cases e9 : k' = k
    · rw [e9] at e ⊢
      by_cases f1 : q_fld j = 219
      · rw [f1] at e ⊢; rw [am_set_q, e, x2]
      · rw [am_set_p (Or.inl f1)]
        by_cases f2 : q_fld j = 218
        · rw [f2] at e ⊢; rw [am_set_q, e, x1]
        · rw [am_set_p (Or.inl f2), am_set_p (by omega)]; exact e
    · rw [am_set_p (Or.inr e9), am_set_p (Or.inr e9), am_set_p (Or.inr e9)]; exact e
/-- a column with a formula -/
def q_mf (A : am_M) (t : Nat) (f o p h : Int32) : am_M := am_set (am_set (am_set (am_set (q_mk A t 2) 214 (6 * t + q_w A t) f) 215 (6 * t + q_w A t) o) 216 (6 * t + q_w A t) p) 217 (6 * t + q_w A t) h
theorem q_mf_wd {A : am_M} (w : q_wd A) {t : Nat} (ht : t < q_nt A) (hw : q_w A t < 6) {f o p h : Int32} (hf : q_f A t f o p h) : q_wd (q_mf A t f o p h) ∧ (∀ R, q_wr A R → q_wr (q_mf A t f o p h) R) ∧ q_nt (q_mf A t f o p h) = q_nt A := by
  have h1 : q_mf A t f o p h 207 1 = A 207 1 := by
    unfold q_mf q_mk
    repeat rw [am_set_p (by omega)]
  have h8 : q_mf A t f o p h 208 t = nI (q_w A t + 1) := by
    unfold q_mf q_mk
    rw [am_set_p (by omega), am_set_p (by omega), am_set_p (by omega), am_set_p (by omega)]; exact am_set_q
  have h8' : ∀ u, u ≠ t → q_mf A t f o p h 208 u = A 208 u := fun u hu => by
    unfold q_mf q_mk
    repeat rw [am_set_p (by omega)]
  have ho : ∀ a k, 209 ≤ a → a ≤ 219 → k ≠ 6 * t + q_w A t → q_mf A t f o p h a k = A a k := fun a k g1 g2 g3 => by
    unfold q_mf q_mk
    repeat rw [am_set_p (by omega)]
  have hk : q_mf A t f o p h 209 (6 * t + q_w A t) = 2 := by
    unfold q_mf q_mk
    rw [am_set_p (by omega), am_set_p (by omega), am_set_p (by omega), am_set_p (by omega), am_set_p (by omega), am_set_p (by omega), am_set_p (by omega)]; exact am_set_q
  have h14 : q_mf A t f o p h 214 (6 * t + q_w A t) = f := by
    unfold q_mf
    rw [am_set_p (by omega), am_set_p (by omega), am_set_p (by omega)]; exact am_set_q
  have h15 : q_mf A t f o p h 215 (6 * t + q_w A t) = o := by
    unfold q_mf
    rw [am_set_p (by omega), am_set_p (by omega)]; exact am_set_q
  have h16 : q_mf A t f o p h 216 (6 * t + q_w A t) = p := by
    unfold q_mf
    rw [am_set_p (by omega)]; exact am_set_q
  have h17 : q_mf A t f o p h 217 (6 * t + q_w A t) = h := am_set_q
  have h18 : q_mf A t f o p h 218 (6 * t + q_w A t) = 0 := by
    unfold q_mf q_mk
    rw [am_set_p (by omega), am_set_p (by omega), am_set_p (by omega), am_set_p (by omega), am_set_p (by omega), am_set_p (by omega)]; exact am_set_q
  have h19 : q_mf A t f o p h 219 (6 * t + q_w A t) = 0 := by
    unfold q_mf q_mk
    rw [am_set_p (by omega), am_set_p (by omega), am_set_p (by omega), am_set_p (by omega), am_set_p (by omega)]; exact am_set_q
  refine ⟨q_wd_mk w ht hw h1 h8 h8' ho (Or.inr (Or.inr ⟨hk, by rw [h14, h15, h16, h17]; exact hf⟩)) h18 h19, fun R hR => q_wr_mk w ht hw h1 ho (Or.inr (Or.inr hk)) hR, by unfold q_nt; rw [h1]⟩
theorem q_mf_dk {A : am_M} (w : q_wd A) {t : Nat} (ht : t < q_nt A) (hw : q_w A t < 6) {f o p h : Int32} : q_dk A (q_mf A t f o p h) := by
  have h4 := w.1.2
  have oo : ∀ a b, (a < 208 ∨ 219 < a ∨ (209 ≤ a ∧ b ≠ 6 * t + q_w A t) ∨ (a = 208 ∧ b ≠ t)) → q_mf A t f o p h a b = A a b := fun a b q => by
    unfold q_mf q_mk
    repeat rw [am_set_p (by omega)]
  have e8 : q_mf A t f o p h 208 t = nI (q_w A t + 1) := by
    unfold q_mf q_mk
    rw [am_set_p (by omega), am_set_p (by omega), am_set_p (by omega), am_set_p (by omega), am_set_q]
  refine ⟨?_, fun u hu => ?_, fun k hk q => ?_⟩
  · unfold q_nt; rw [oo 207 1 (by omega)]; exact Nat.le_refl _
  · by_cases q : u = t
    · rw [q]
      have : q_w (q_mf A t f o p h) t = q_w A t + 1 := by
        show q_c (q_mf A t f o p h 208 t) = _
        rw [e8]; exact nI_clamp (by omega)
      omega
    · unfold q_w; rw [oo 208 u (by omega)]; exact Nat.le_refl _
  · have hne : k ≠ 6 * t + q_w A t := fun e9 => by
      have := (w.2.2.1 k hk).2 (by rw [e9, show (6 * t + q_w A t) / 6 = t from by omega]; omega)
      rw [q] at this; exact absurd this (by decide)
    rw [oo 209 k (by omega), oo 212 k (by omega)]; exact ⟨q, rfl⟩
end
