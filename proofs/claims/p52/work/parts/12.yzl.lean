noncomputable section
-- remove: which cells lead to rows that go
/-- row p's cell in column c is a link of kind m (0 forbid, 1 go along, 2 blank) to a row that goes -/
abbrev q_led (A R : am_M) (g : Nat → Int32) (m p c : Nat) : Prop := R 1 p ≠ 0 ∧ A 209 (6 * (p / 30) + c) = 1 ∧ A 213 (6 * (p / 30) + c) = nI m ∧ R 2 (6 * p + c) ≠ -1000000 ∧ g (30 * q_tg A (6 * (p / 30) + c) + q_c (R 2 (6 * p + c))) ≠ 0
theorem qm_lead {s A R : am_M} (md : q_md s A) (w : q_wd A) (wr : q_wr A R) (mb : q_mb s R) {p c m : Nat} (hp : p < 120) (hc : c < 6) : p_MO_doesLead s (nI p) (nI c) (nI m) ∧ f_MO_doesLead s (nI p) (nI c) (nI m) = if q_led A R (s 232) m p c then 1 else 0 := by
  have v1 : vp_in (nI (6 * p + c)) 720 := vp_in_nI (by omega) (by omega)
  have v2 : vp_in (nI p) 120 := vp_in_nI hp (by omega)
  have v3 : vp_in (nI (6 * (p / 30) + c)) 24 := vp_in_nI (by omega) (by omega)
  unfold p_MO_doesLead f_MO_doesLead
  rw [qd_30 (by omega), qw_6, qw_6, nI_add, nI_add, nI_clamp (n := p) (by omega), nI_clamp (n := 6 * (p / 30) + c) (by omega), nI_clamp (n := 6 * p + c) (by omega), md.2 209 (by omega) (by omega), md.2 213 (by omega) (by omega), md.2 212 (by omega) (by omega), mb.2.1 p hp]
  by_cases h1 : R 1 p = 0
  · rw [if_pos h1, if_pos rfl, if_neg (fun q => q.1 h1)]
    exact ⟨⟨v1, v2, fun _ => trivial, fun q => absurd rfl q⟩, rfl⟩
  rw [if_neg h1, if_neg i10]
  have hcell : s 230 (6 * p + c) = R 2 (6 * p + c) := mb.2.2 _ (by omega) (by rw [show (6 * p + c) / 6 = p from by omega]; exact h1)
  rw [hcell]
  by_cases h2 : A 209 (6 * (p / 30) + c) = 1
  rotate_left
  · rw [if_neg h2, if_neg (fun q => h2 q.2.1)]
    exact ⟨⟨v1, v2, fun q => absurd q i10, fun _ => ⟨v3, fun q => absurd q h2, fun _ => trivial⟩⟩, rfl⟩
  rw [if_pos h2]
  by_cases h3 : A 213 (6 * (p / 30) + c) = nI m
  rotate_left
  · rw [if_neg h3, if_neg (fun q => h3 q.2.2.1)]
    exact ⟨⟨v1, v2, fun q => absurd q i10, fun _ => ⟨v3, fun _ => ⟨v3, fun q => absurd q h3, fun _ => trivial⟩, fun _ => trivial⟩⟩, rfl⟩
  rw [if_pos h3]
  by_cases h4 : R 2 (6 * p + c) = -1000000
  · rw [if_pos h4, if_neg (fun q => q.2.2.2.1 h4)]
    exact ⟨⟨v1, v2, fun q => absurd q i10, fun _ => ⟨v3, fun _ => ⟨v3, fun _ => ⟨fun _ => trivial, fun q => absurd h4 q⟩, fun _ => trivial⟩, fun _ => trivial⟩⟩, rfl⟩
  rw [if_neg h4]
  obtain ⟨t1, t2⟩ := w.2.2.2.1 _ (by omega) h2
  obtain ⟨r, r1, r2, r3⟩ := (wr.2.2.2.2 p c hp hc h1 h2).resolve_left h4
  have h4' := w.1.2
  have er : q_c (R 2 (6 * p + c)) = r := by rw [r2]; exact nI_clamp (by omega)
  have ix : (30 : Int32) * A 212 (6 * (p / 30) + c) + R 2 (6 * p + c) = nI (30 * q_tg A (6 * (p / 30) + c) + r) := by rw [t1, r2, qw_30, nI_add]
  have v4 : vp_in (nI (30 * q_tg A (6 * (p / 30) + c) + r)) 120 := vp_in_nI (by omega) (by omega)
  have h6 : q_led A R (s 232) m p c ↔ ¬ s 232 (30 * q_tg A (6 * (p / 30) + c) + r) = 0 := ⟨fun q => by
    have := q.2.2.2.2
    rw [er] at this; exact this, fun q => ⟨h1, h2, h3, h4, by rw [er]; exact q⟩⟩
  rw [ix, nI_clamp (n := 30 * q_tg A (6 * (p / 30) + c) + r) (by omega)]
  by_cases h5 : s 232 (30 * q_tg A (6 * (p / 30) + c) + r) = 0
  · rw [if_pos h5, if_neg (fun q => h6.mp q h5)]
    exact ⟨⟨v1, v2, fun q => absurd q i10, fun _ => ⟨v3, fun _ => ⟨v3, fun _ => ⟨fun _ => trivial, fun _ => ⟨v3, v4, fun _ => trivial, fun _ => trivial⟩⟩, fun _ => trivial⟩, fun _ => trivial⟩⟩, rfl⟩
  · rw [if_neg h5, if_pos (h6.mpr h5)]
    exact ⟨⟨v1, v2, fun q => absurd q i10, fun _ => ⟨v3, fun _ => ⟨v3, fun _ => ⟨fun _ => trivial, fun _ => ⟨v3, v4, fun _ => trivial, fun _ => trivial⟩⟩, fun _ => trivial⟩, fun _ => trivial⟩⟩, rfl⟩
end
