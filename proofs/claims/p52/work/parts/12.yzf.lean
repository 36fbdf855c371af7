noncomputable section
-- a formula: what is wrong with it
theorem q_formE {s u A : am_M} (cd : q_cd s A) (md : q_md u A) (w : q_wd A) {T : Nat} (hT : T < 4) (x2 x3 x4 x5 : Int32) : p_CB_wantFormula s (nI T) x2 x3 x4 x5 ∧ p_MO_errorOfFormula u (nI T) x2 x3 x4 x5 ∧ ∃ e : Nat, f_CB_wantFormula s (nI T) x2 x3 x4 x5 = e ∧ f_MO_errorOfFormula u (nI T) x2 x3 x4 x5 = nI e ∧ e < 3 ∧ (e = 0 → q_f A T x2 x3 x4 x5) := by
  have nat0 : ∀ e : Nat, (if e = 0 then 0 else e) = e := fun e => by by_cases q : e = 0 <;> simp [q]
  have hin : f_MO_in u x2 (0 : Int32) (4 : Int32) = (if x2 < 0 then 0 else if (4 : Int32) < x2 then 0 else 1) := rfl
  have bad : (x2 < 0 ∨ (4 : Int32) < x2) → p_CB_wantFormula s (nI T) x2 x3 x4 x5 ∧ p_MO_errorOfFormula u (nI T) x2 x3 x4 x5 ∧ ∃ e : Nat, f_CB_wantFormula s (nI T) x2 x3 x4 x5 = e ∧ f_MO_errorOfFormula u (nI T) x2 x3 x4 x5 = nI e ∧ e < 3 ∧ (e = 0 → q_f A T x2 x3 x4 x5) := fun q => by
    have n0 : ¬ x2 = (0 : Int32) := fun z => by rw [z] at q; exact absurd q (by decide)
    have n1 : ¬ x2 = (1 : Int32) := fun z => by rw [z] at q; exact absurd q (by decide)
    have n2 : ¬ x2 = (2 : Int32) := fun z => by rw [z] at q; exact absurd q (by decide)
    have n3 : ¬ x2 = (3 : Int32) := fun z => by rw [z] at q; exact absurd q (by decide)
    have n4 : ¬ x2 = (4 : Int32) := fun z => by rw [z] at q; exact absurd q (by decide)
    have i0 : f_MO_in u x2 (0 : Int32) (4 : Int32) = 0 := by
      rw [hin]
      by_cases g : x2 < 0
      · rw [if_pos g]
      · rw [if_neg g, if_pos (q.resolve_left g)]
    refine ⟨⟨fun z => absurd z n0, fun _ => ⟨fun z => absurd z n1, fun _ => ⟨fun z => absurd z n2, fun _ => ⟨fun z => absurd z n3, fun _ => ⟨fun z => absurd z n4, fun _ => trivial⟩⟩⟩⟩⟩, ⟨fun _ => trivial, fun z => absurd i0 z⟩, 2, ?_, ?_, by omega, fun z => absurd z (by omega)⟩
    · unfold f_CB_wantFormula; rw [if_neg n0, if_neg n1, if_neg n2, if_neg n3, if_neg n4]
    · unfold f_MO_errorOfFormula; rw [i0, if_pos rfl]; rfl
  rcases qx_5 x2 with g | g | ⟨j, hj, rfl⟩
  · exact bad (Or.inl g)
  · exact bad (Or.inr (Int32.lt_of_lt_of_le (by decide : (4 : Int32) < 5) g))
  obtain ⟨pp, pq, e1, h1, h2, h3, h4⟩ := q_pairE cd md w (T := T) x3 x4
  obtain ⟨lp, lq, e2, l1, l2, l3, l4⟩ := q_lookE cd md w (T := T) x3 x4
  clear bad
  have hjj : j = 0 ∨ j = 1 ∨ j = 2 ∨ j = 3 ∨ j = 4 := by omega
  rcases hjj with rfl | rfl | rfl | rfl | rfl
  · have e : nI 0 = (0 : Int32) := rfl
    rw [e]
    have i1 : ¬ f_MO_in u (0 : Int32) (0 : Int32) (4 : Int32) = 0 := by rw [show f_MO_in u (0 : Int32) (0 : Int32) (4 : Int32) = 1 from rfl]; exact i10
    refine ⟨⟨fun _ => ⟨pp, fun _ => trivial⟩, fun z => absurd rfl z⟩, ⟨fun z => absurd z i1, fun _ => ⟨fun z => absurd z (by decide), fun _ => pq⟩⟩, e1, ?_, ?_, h3, fun z => ?_⟩
    · unfold f_CB_wantFormula; rw [if_pos rfl, h1]; exact nat0 e1
    · unfold f_MO_errorOfFormula; rw [if_neg i1, if_neg (show ¬ (2 : Int32) ≤ 0 by decide)]; exact h2
    · obtain ⟨a, b, r⟩ := h4 hT z
      exact Or.inl ⟨Or.inl rfl, a, b, r⟩
  · have e : nI 1 = (1 : Int32) := rfl
    rw [e]
    have i1 : ¬ f_MO_in u (1 : Int32) (0 : Int32) (4 : Int32) = 0 := by rw [show f_MO_in u (1 : Int32) (0 : Int32) (4 : Int32) = 1 from rfl]; exact i10
    refine ⟨⟨fun z => absurd z i10, fun _ => ⟨fun _ => ⟨pp, fun _ => trivial⟩, fun z => absurd rfl z⟩⟩, ⟨fun z => absurd z i1, fun _ => ⟨fun z => absurd z (by decide), fun _ => pq⟩⟩, e1, ?_, ?_, h3, fun z => ?_⟩
    · unfold f_CB_wantFormula; rw [if_neg i10, if_pos rfl, h1]; exact nat0 e1
    · unfold f_MO_errorOfFormula; rw [if_neg i1, if_neg (show ¬ (2 : Int32) ≤ 1 by decide)]; exact h2
    · obtain ⟨a, b, r⟩ := h4 hT z
      exact Or.inl ⟨Or.inr rfl, a, b, r⟩
  · have e : nI 2 = (2 : Int32) := rfl
    rw [e]
    have i1 : ¬ f_MO_in u (2 : Int32) (0 : Int32) (4 : Int32) = 0 := by rw [show f_MO_in u (2 : Int32) (0 : Int32) (4 : Int32) = 1 from rfl]; exact i10
    refine ⟨⟨fun z => absurd z (by decide), fun _ => ⟨fun z => absurd z (by decide), fun _ => ⟨fun _ => ⟨lp, fun _ => trivial⟩, fun z => absurd rfl z⟩⟩⟩, ⟨fun z => absurd z i1, fun _ => ⟨fun _ => ⟨fun _ => lq, fun z => absurd rfl z⟩, fun z => absurd (by decide) z⟩⟩, e2, ?_, ?_, l3, fun z => ?_⟩
    · unfold f_CB_wantFormula; rw [if_neg (show ¬ (2 : Int32) = 0 by decide), if_neg (show ¬ (2 : Int32) = 1 by decide), if_pos rfl, l1]; exact nat0 e2
    · unfold f_MO_errorOfFormula; rw [if_neg i1, if_pos (show (2 : Int32) ≤ 2 by decide), if_pos rfl]; exact l2
    · obtain ⟨a, b, r⟩ := l4 hT z
      exact Or.inr (Or.inl ⟨rfl, a, b, r⟩)
  · have e : nI 3 = (3 : Int32) := rfl
    rw [e]
    obtain ⟨gp, gq, e3, g1, g2, g3, g4⟩ := q_gathE cd md w (T := T) 3 x3 x4 x5
    have i1 : ¬ f_MO_in u (3 : Int32) (0 : Int32) (4 : Int32) = 0 := by rw [show f_MO_in u (3 : Int32) (0 : Int32) (4 : Int32) = 1 from rfl]; exact i10
    refine ⟨⟨fun z => absurd z (by decide), fun _ => ⟨fun z => absurd z (by decide), fun _ => ⟨fun z => absurd z (by decide), fun _ => ⟨fun _ => ⟨gp, fun _ => trivial⟩, fun z => absurd rfl z⟩⟩⟩⟩, ⟨fun z => absurd z i1, fun _ => ⟨fun _ => ⟨fun z => absurd z (by decide), fun _ => gq⟩, fun z => absurd (by decide) z⟩⟩, e3, ?_, ?_, g3, fun z => ?_⟩
    · unfold f_CB_wantFormula; rw [if_neg (show ¬ (3 : Int32) = 0 by decide), if_neg (show ¬ (3 : Int32) = 1 by decide), if_neg (show ¬ (3 : Int32) = 2 by decide), if_pos rfl, g1]; exact nat0 e3
    · unfold f_MO_errorOfFormula; rw [if_neg i1, if_pos (show (2 : Int32) ≤ 3 by decide), if_neg (show ¬ (3 : Int32) = 2 by decide)]; exact g2
    · obtain ⟨o, a, r1, r2, r3, r4, r5, r6⟩ := g4 hT z
      obtain ⟨b, r7, r8⟩ := r6 rfl
      exact Or.inr (Or.inr (Or.inl ⟨rfl, o, a, b, r1, r2, r7, r3, r4, r5, r8⟩))
  · have e : nI 4 = (4 : Int32) := rfl
    rw [e]
    obtain ⟨gp, gq, e3, g1, g2, g3, g4⟩ := q_gathE cd md w (T := T) 4 x3 x4 x5
    have i1 : ¬ f_MO_in u (4 : Int32) (0 : Int32) (4 : Int32) = 0 := by rw [show f_MO_in u (4 : Int32) (0 : Int32) (4 : Int32) = 1 from rfl]; exact i10
    refine ⟨⟨fun z => absurd z (by decide), fun _ => ⟨fun z => absurd z (by decide), fun _ => ⟨fun z => absurd z (by decide), fun _ => ⟨fun z => absurd z (by decide), fun _ => ⟨fun _ => ⟨gp, fun _ => trivial⟩, fun z => absurd rfl z⟩⟩⟩⟩⟩, ⟨fun z => absurd z i1, fun _ => ⟨fun _ => ⟨fun z => absurd z (by decide), fun _ => gq⟩, fun z => absurd (by decide) z⟩⟩, e3, ?_, ?_, g3, fun z => ?_⟩
    · unfold f_CB_wantFormula; rw [if_neg (show ¬ (4 : Int32) = 0 by decide), if_neg (show ¬ (4 : Int32) = 1 by decide), if_neg (show ¬ (4 : Int32) = 2 by decide), if_neg (show ¬ (4 : Int32) = 3 by decide), if_pos rfl, g1]; exact nat0 e3
    · unfold f_MO_errorOfFormula; rw [if_neg i1, if_pos (show (2 : Int32) ≤ 4 by decide), if_neg (show ¬ (4 : Int32) = 2 by decide)]; exact g2
    · obtain ⟨o, a, r1, r2, r3, r4, r5, -⟩ := g4 hT z
      exact Or.inr (Or.inr (Or.inr ⟨rfl, o, a, r1, r2, r3, r4, r5⟩))
end
