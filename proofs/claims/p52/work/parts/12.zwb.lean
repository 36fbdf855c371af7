noncomputable section
-- both objects in step, call for call; written by wip/p52/zy2.py
def az (h : Nat × Int32 × am_M) : Int32 × am_M := if h.1 = 0 then (h.2.1, h.2.2) else (-9999999, h.2.2)
def bz (h : Nat × Int32 × am_M) : Int32 × am_M := if h.1 = 0 then (if h.2.1 = 0 then (0, h.2.2) else (1, h.2.2)) else (-9999999, h.2.2)
theorem az3 (h : Nat × Int32 × am_M) : (if h.1 = 0 then (h.2.1, h.2.2) else (if h.1 = 1 then ((-9999999 : Int32), h.2.2) else (if h.1 = 2 then ((-9999999 : Int32), h.2.2) else ((-9999999 : Int32), h.2.2)))) = az h := by
  unfold az
  split
  · rfl
  · split
    · rfl
    · split <;> rfl
theorem bz3 (h : Nat × Int32 × am_M) : (if h.1 = 0 then (if h.2.1 = 0 then ((0 : Int32), h.2.2) else ((1 : Int32), h.2.2)) else (if h.1 = 1 then ((-9999999 : Int32), h.2.2) else (if h.1 = 2 then ((-9999999 : Int32), h.2.2) else ((-9999999 : Int32), h.2.2)))) = bz h := by
  unfold bz
  split
  · rfl
  · split
    · rfl
    · split <;> rfl
/-- the same answer on both, and both in step behind; or an exception on both, and the first alone may be called -/
def ZZ (c d : Nat) (t : am_M) (P Q : Int32 × am_M) : Prop := (P.1 = -9999999 ∧ Q.1 = -9999999 ∧ RR c P.2 t ∧ RR c P.2 Q.2) ∨ (P.1 ≠ -9999999 ∧ Q.1 = P.1 ∧ RR d P.2 Q.2)
theorem ZZ_I {c d : Nat} {s t : am_M} {P Q : Nat × Int32 × am_M} (h : RR c s t) (z : zI d P Q) (tp : P.1 ≠ 0 → pu_R c P.2.2 ∧ gq P.2.2 s) (tq : Q.1 ≠ 0 → pu_R c Q.2.2 ∧ gq Q.2.2 t) (n : P.1 = 0 → P.2.1 ≠ -9999999) : ZZ c d t (az P) (az Q) := by
  unfold az
  by_cases p : P.1 = 0
  · have q := z.1.mp p
    rw [if_pos p, if_pos q]
    exact Or.inr ⟨n p, (z.2 p).1.symm, (z.2 p).2⟩
  · have q : ¬ Q.1 = 0 := fun q => p (z.1.mpr q)
    rw [if_neg p, if_neg q]
    obtain ⟨p1, p2⟩ := tp p
    obtain ⟨q1, q2⟩ := tq q
    exact Or.inl ⟨rfl, rfl, ⟨p1, h.2.1, gq_tr p2 h.2.2⟩, ⟨p1, q1, gq_tr p2 (gq_tr h.2.2 (gq_sy q2))⟩⟩
theorem ZZ_B {c d : Nat} {s t : am_M} {P Q : Nat × Int32 × am_M} (h : RR c s t) (z : zB d P Q) (tp : P.1 ≠ 0 → pu_R c P.2.2 ∧ gq P.2.2 s) (tq : Q.1 ≠ 0 → pu_R c Q.2.2 ∧ gq Q.2.2 t) : ZZ c d t (bz P) (bz Q) := by
  unfold bz
  by_cases p : P.1 = 0
  · have q := z.1.mp p
    rw [if_pos p, if_pos q]
    obtain ⟨v, r⟩ := z.2 p
    by_cases b : P.2.1 = 0
    · rw [if_pos b, if_pos (v.mp b)]
      exact Or.inr ⟨show (0 : Int32) ≠ -9999999 by decide, rfl, r⟩
    · rw [if_neg b, if_neg (fun k => b (v.mpr k))]
      exact Or.inr ⟨show (1 : Int32) ≠ -9999999 by decide, rfl, r⟩
  · have q : ¬ Q.1 = 0 := fun q => p (z.1.mpr q)
    rw [if_neg p, if_neg q]
    obtain ⟨p1, p2⟩ := tp p
    obtain ⟨q1, q2⟩ := tq q
    exact Or.inl ⟨rfl, rfl, ⟨p1, h.2.1, gq_tr p2 h.2.2⟩, ⟨p1, q1, gq_tr p2 (gq_tr h.2.2 (gq_sy q2))⟩⟩
theorem zt_gen {c : Nat} {s : am_M} {f : Nat × Int32 × am_M} {g : am_M} (h : f.1 ≠ 0 → pu_R c f.2.2 ∧ gq f.2.2 s) : (hgE f g).1 ≠ 0 → pu_R c (hgE f g).2.2 ∧ gq (hgE f g).2.2 s := fun q => by
  have q : f.1 ≠ 0 := q
  have e : (hgE f g).2.2 = f.2.2 := if_neg q
  rw [e]; exact h q
theorem zt_genV {c : Nat} {s : am_M} {f : Nat × am_M} {g : am_M} (h : f.1 ≠ 0 → pu_R c f.2 ∧ gq f.2 s) : (hgV f g).1 ≠ 0 → pu_R c (hgV f g).2 ∧ gq (hgV f g).2 s := fun q => by
  have q : f.1 ≠ 0 := q
  have e : (hgV f g).2 = f.2 := if_neg q
  rw [e]; exact h q
theorem n9_type {c : Nat} {s : am_M} {a1 a2 : Int32} (h : pu_R c s) : n9 (f_CB_type s a1 a2) := by
  intro q
  have hd : pr_draft s := h.draft
  unfold f_CB_type at q ⊢
  by_cases c1 : a1 < 0
  · rw [if_pos c1] at q; exact absurd (show (2 : Nat) = 0 from q) (by decide)
  rw [if_neg c1] at q ⊢
  by_cases c2 : a1 < (6 : Int32)
  · rw [if_pos c2] at q ⊢
    by_cases c3 : f_CB_wantValue s a2 = 0
    · rw [if_pos c3]
      have hk := pr_clamp6 c1 c2
      have := (hd a1.toNatClampNeg (by omega)).2
      show s 124 a1.toNatClampNeg ≠ -9999999
      intro e
      rw [e] at this
      exact absurd this.1 (by decide)
    · rw [if_neg c3] at q; exact absurd q c3
  · rw [if_neg c2] at q; exact absurd (show (2 : Nat) = 0 from q) (by decide)
theorem n9_addAct {c : Nat} {s : am_M} (h : pu_R c s) : n9 (f_CB_addAct s) := by
  intro q
  obtain ⟨k, hk, e1, e2⟩ := h.nact
  unfold f_CB_addAct at q ⊢
  by_cases c1 : s 0 5 < (4 : Int32)
  · rw [if_pos c1]
    show s 0 5 ≠ -9999999
    rw [e1]; exact n9_nI (by omega)
  · rw [if_neg c1] at q; exact absurd (show (3 : Nat) = 0 from q) (by decide)
end
