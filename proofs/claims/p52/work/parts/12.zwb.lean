noncomputable section
-- both objects in step, call for call; written by wip/p52/zy2.py
def az (h : Nat × Int32 × am_M) : Int32 × am_M := if h.1 = 0 then (h.2.1, h.2.2) else (-9999999, h.2.2)
def bz (h : Nat × Int32 × am_M) : Int32 × am_M := if h.1 = 0 then (if h.2.1 = 0 then (0, h.2.2) else (1, h.2.2)) else (-9999999, h.2.2)
theorem az3 (h : Nat × Int32 × am_M) : (if h.1 = 0 then (h.2.1, h.2.2) else (if h.1 = 1 then ((-9999999 : Int32), h.2.2) else (if h.1 = 2 then ((-9999999 : Int32), h.2.2) else ((-9999999 : Int32), h.2.2)))) = az h := by
  unfold az
  split
  · rfl
  · split
    · rfl
    · split <;> rfl
theorem bz3 (h : Nat × Int32 × am_M) : (if h.1 = 0 then (if h.2.1 = 0 then ((0 : Int32), h.2.2) else ((1 : Int32), h.2.2)) else (if h.1 = 1 then ((-9999999 : Int32), h.2.2) else (if h.1 = 2 then ((-9999999 : Int32), h.2.2) else ((-9999999 : Int32), h.2.2)))) = bz h := by
  unfold bz
  split
  · rfl
  · split
    · rfl
    · split <;> rfl
/-- the same answer on both, and both in step behind; or an exception on both, and the first alone may be called -/
def ZZ (c d : Nat) (t : am_M) (P Q : Int32 × am_M) : Prop := (P.1 = -9999999 ∧ Q.1 = -9999999 ∧ RR c P.2 t ∧ RR c P.2 Q.2) ∨ (P.1 ≠ -9999999 ∧ Q.1 = P.1 ∧ RR d P.2 Q.2)
theorem ZZ_I {c d : Nat} {s t : am_M} {P Q : Nat × Int32 × am_M} (h : RR c s t) (z : zI d P Q) (tp : P.1 ≠ 0 → pu_R c P.2.2 ∧ gq P.2.2 s) (tq : Q.1 ≠ 0 → pu_R c Q.2.2 ∧ gq Q.2.2 t) (n : P.1 = 0 → P.2.1 ≠ -9999999) : ZZ c d t (az P) (az Q) := by
  unfold az
  by_cases p : P.1 = 0
  · have q := z.1.mp p
    rw [if_pos p, if_pos q]
    exact Or.inr ⟨n p, (z.2 p).1.symm, (z.2 p).2⟩
  · have q : ¬ Q.1 = 0 := fun q => p (z.1.mpr q)
    rw [if_neg p, if_neg q]
    obtain ⟨p1, p2⟩ := tp p
    obtain ⟨q1, q2⟩ := tq q
    exact Or.inl ⟨rfl, rfl, ⟨p1, h.2.1, gq_tr p2 h.2.2⟩, ⟨p1, q1, gq_tr p2 (gq_tr h.2.2 (gq_sy q2))⟩⟩
theorem ZZ_B {c d : Nat} {s t : am_M} {P Q : Nat × Int32 × am_M} (h : RR c s t) (z : zB d P Q) (tp : P.1 ≠ 0 → pu_R c P.2.2 ∧ gq P.2.2 s) (tq : Q.1 ≠ 0 → pu_R c Q.2.2 ∧ gq Q.2.2 t) : ZZ c d t (bz P) (bz Q) := by
  unfold bz
  by_cases p : P.1 = 0
  · have q := z.1.mp p
    rw [if_pos p, if_pos q]
    obtain ⟨v, r⟩ := z.2 p
    by_cases b : P.2.1 = 0
    · rw [if_pos b, if_pos (v.mp b)]
      exact Or.inr ⟨show (0 : Int32) ≠ -9999999 by decide, rfl, r⟩
    · rw [if_neg b, if_neg (fun k => b (v.mpr k))]
      exact Or.inr ⟨show (1 : Int32) ≠ -9999999 by decide, rfl, r⟩
  · have q : ¬ Q.1 = 0 := fun q => p (z.1.mpr q)
    rw [if_neg p, if_neg q]
    obtain ⟨p1, p2⟩ := tp p
    obtain ⟨q1, q2⟩ := tq q
    exact Or.inl ⟨rfl, rfl, ⟨p1, h.2.1, gq_tr p2 h.2.2⟩, ⟨p1, q1, gq_tr p2 (gq_tr h.2.2 (gq_sy q2))⟩⟩
theorem n9_type {c : Nat} {s : am_M} {a1 a2 : Int32} (h : pu_R c s) : n9 (f_CB_type s a1 a2) := by
  intro q
  have hd : pr_draft s := h.draft
  unfold f_CB_type at q ⊢
  by_cases c1 : a1 < 0
  · rw [if_pos c1] at q; exact absurd (show (2 : Nat) = 0 from q) (by decide)
  rw [if_neg c1] at q ⊢
  by_cases c2 : a1 < (6 : Int32)
  · rw [if_pos c2] at q ⊢
    by_cases c3 : f_CB_wantValue s a2 = 0
    · rw [if_pos c3]
      have hk := pr_clamp6 c1 c2
      have := (hd a1.toNatClampNeg (by omega)).2
      show s 124 a1.toNatClampNeg ≠ -9999999
      intro e
      rw [e] at this
      exact absurd this.1 (by decide)
    · rw [if_neg c3] at q; exact absurd q c3
  · rw [if_neg c2] at q; exact absurd (show (2 : Nat) = 0 from q) (by decide)
theorem n9_addAct {c : Nat} {s : am_M} (h : pu_R c s) : n9 (f_CB_addAct s) := by
  intro q
  obtain ⟨k, hk, e1, e2⟩ := h.nact
  unfold f_CB_addAct at q ⊢
  by_cases c1 : s 0 5 < (4 : Int32)
  · rw [if_pos c1]
    show s 0 5 ≠ -9999999
    rw [e1]; exact n9_nI (by omega)
  · rw [if_neg c1] at q; exact absurd (show (3 : Nat) = 0 from q) (by decide)
theorem zt_addTable {c : Nat} {s : am_M} (h : pu_R c s) (q : (h_CB_addTable s).1 ≠ 0) : pu_R c (h_CB_addTable s).2.2 ∧ gq (h_CB_addTable s).2.2 s := by
  have q : (f_CB_addTable s).1 ≠ 0 := q
  rw [show (h_CB_addTable s).2.2 = (f_CB_addTable s).2.2 from if_neg q]
  exact ⟨th_addTable h q, fun a h1 _ => wl_CB_addTable h1⟩
theorem zs_addTable {c d : Nat} (hcd : c ≤ d) {s t : am_M} (h : RR c s t) : zE (h_CB_addTable s).1 ∧ zE (h_CB_addTable t).1 ∧ ZZ c d t (az (h_CB_addTable s)) (az (h_CB_addTable t)) := by
  obtain ⟨e1, e2, z, n⟩ := zo_addTable (op_addTable_ok (c := c) (d := d) hcd) h
  exact ⟨e1, e2, ZZ_I h z (zt_addTable h.1) (zt_addTable h.2.1) n⟩
theorem zt_addNumber {c : Nat} {s : am_M} {a1 a2 a3 : Int32} (h : pu_R c s) (ps : p_CB_addNumber s a1 a2 a3) (q : (h_CB_addNumber s a1 a2 a3).1 ≠ 0) : pu_R c (h_CB_addNumber s a1 a2 a3).2.2 ∧ gq (h_CB_addNumber s a1 a2 a3).2.2 s := by
  have q : (f_CB_addNumber s a1 a2 a3).1 ≠ 0 := q
  rw [show (h_CB_addNumber s a1 a2 a3).2.2 = (f_CB_addNumber s a1 a2 a3).2.2 from if_neg q]
  exact ⟨th_addNumber h q, fun a h1 _ => wl_CB_addNumber h1 ps⟩
theorem zs_addNumber {c d : Nat} (hcd : c ≤ d) {s t : am_M} {a1 a2 a3 : Int32} (h : RR c s t) : (p_CB_addNumber s a1 a2 a3 ∧ p_CB_addNumber t a1 a2 a3) ∧ zE (h_CB_addNumber s a1 a2 a3).1 ∧ zE (h_CB_addNumber t a1 a2 a3).1 ∧ ZZ c d t (az (h_CB_addNumber s a1 a2 a3)) (az (h_CB_addNumber t a1 a2 a3)) := by
  obtain ⟨⟨ps, pt⟩, e1, e2, z, n⟩ := zo_addNumber (op_addNumber_ok (c := c) (d := d) hcd) h
  exact ⟨⟨ps, pt⟩, e1, e2, ZZ_I h z (zt_addNumber h.1 ps) (zt_addNumber h.2.1 pt) n⟩
theorem zt_addLink {c : Nat} {s : am_M} {a1 a2 a3 : Int32} (h : pu_R c s) (ps : p_CB_addLink s a1 a2 a3) (q : (h_CB_addLink s a1 a2 a3).1 ≠ 0) : pu_R c (h_CB_addLink s a1 a2 a3).2.2 ∧ gq (h_CB_addLink s a1 a2 a3).2.2 s := by
  have q : (f_CB_addLink s a1 a2 a3).1 ≠ 0 := q
  rw [show (h_CB_addLink s a1 a2 a3).2.2 = (f_CB_addLink s a1 a2 a3).2.2 from if_neg q]
  exact ⟨th_addLink h q, fun a h1 _ => wl_CB_addLink h1 ps⟩
theorem zs_addLink {c d : Nat} (hcd : c ≤ d) {s t : am_M} {a1 a2 a3 : Int32} (h : RR c s t) : (p_CB_addLink s a1 a2 a3 ∧ p_CB_addLink t a1 a2 a3) ∧ zE (h_CB_addLink s a1 a2 a3).1 ∧ zE (h_CB_addLink t a1 a2 a3).1 ∧ ZZ c d t (az (h_CB_addLink s a1 a2 a3)) (az (h_CB_addLink t a1 a2 a3)) := by
  obtain ⟨⟨ps, pt⟩, e1, e2, z, n⟩ := zo_addLink (op_addLink_ok (c := c) (d := d) hcd) h
  exact ⟨⟨ps, pt⟩, e1, e2, ZZ_I h z (zt_addLink h.1 ps) (zt_addLink h.2.1 pt) n⟩
theorem zt_addReckoned {c : Nat} {s : am_M} {a1 a2 a3 a4 a5 : Int32} (h : pu_R c s) (ps : p_CB_addReckoned s a1 a2 a3 a4 a5) (q : (h_CB_addReckoned s a1 a2 a3 a4 a5).1 ≠ 0) : pu_R c (h_CB_addReckoned s a1 a2 a3 a4 a5).2.2 ∧ gq (h_CB_addReckoned s a1 a2 a3 a4 a5).2.2 s := by
  have q : (f_CB_addReckoned s a1 a2 a3 a4 a5).1 ≠ 0 := q
  rw [show (h_CB_addReckoned s a1 a2 a3 a4 a5).2.2 = (f_CB_addReckoned s a1 a2 a3 a4 a5).2.2 from if_neg q]
  exact ⟨th_addReckoned h q, fun a h1 _ => wl_CB_addReckoned h1 ps⟩
theorem zs_addReckoned {c d : Nat} (hcd : c ≤ d) {s t : am_M} {a1 a2 a3 a4 a5 : Int32} (h : RR c s t) : (p_CB_addReckoned s a1 a2 a3 a4 a5 ∧ p_CB_addReckoned t a1 a2 a3 a4 a5) ∧ zE (h_CB_addReckoned s a1 a2 a3 a4 a5).1 ∧ zE (h_CB_addReckoned t a1 a2 a3 a4 a5).1 ∧ ZZ c d t (az (h_CB_addReckoned s a1 a2 a3 a4 a5)) (az (h_CB_addReckoned t a1 a2 a3 a4 a5)) := by
  obtain ⟨⟨ps, pt⟩, e1, e2, z, n⟩ := zo_addReckoned (op_addReckoned_ok (c := c) (d := d) hcd) h
  exact ⟨⟨ps, pt⟩, e1, e2, ZZ_I h z (zt_addReckoned h.1 ps) (zt_addReckoned h.2.1 pt) n⟩
theorem zt_reckonAnew {c : Nat} {s : am_M} {a1 a2 a3 a4 a5 a6 : Int32} (h : pu_R c s) (ps : p_CB_reckonAnew s a1 a2 a3 a4 a5 a6) (q : (h_CB_reckonAnew s a1 a2 a3 a4 a5 a6).1 ≠ 0) : pu_R c (h_CB_reckonAnew s a1 a2 a3 a4 a5 a6).2.2 ∧ gq (h_CB_reckonAnew s a1 a2 a3 a4 a5 a6).2.2 s := by
  have q : (f_CB_reckonAnew s a1 a2 a3 a4 a5 a6).1 ≠ 0 := q
  rw [show (h_CB_reckonAnew s a1 a2 a3 a4 a5 a6).2.2 = (f_CB_reckonAnew s a1 a2 a3 a4 a5 a6).2.2 from if_neg q]
  exact ⟨th_reckonAnew h q, fun a h1 _ => wl_CB_reckonAnew h1 ps⟩
theorem zs_reckonAnew {c d : Nat} (hcd : c ≤ d) {s t : am_M} {a1 a2 a3 a4 a5 a6 : Int32} (h : RR c s t) : (p_CB_reckonAnew s a1 a2 a3 a4 a5 a6 ∧ p_CB_reckonAnew t a1 a2 a3 a4 a5 a6) ∧ zE (h_CB_reckonAnew s a1 a2 a3 a4 a5 a6).1 ∧ zE (h_CB_reckonAnew t a1 a2 a3 a4 a5 a6).1 ∧ ZZ c d t (bz (h_CB_reckonAnew s a1 a2 a3 a4 a5 a6)) (bz (h_CB_reckonAnew t a1 a2 a3 a4 a5 a6)) := by
  obtain ⟨⟨ps, pt⟩, e1, e2, z⟩ := zo_reckonAnew (op_reckonAnew_ok (c := c) (d := d) hcd) h
  exact ⟨⟨ps, pt⟩, e1, e2, ZZ_B h z (zt_reckonAnew h.1 ps) (zt_reckonAnew h.2.1 pt)⟩
theorem zt_need {c : Nat} {s : am_M} {a1 a2 a3 : Int32} (h : pu_R c s) (ps : p_CB_need s a1 a2 a3) (q : (h_CB_need s a1 a2 a3).1 ≠ 0) : pu_R c (h_CB_need s a1 a2 a3).2.2 ∧ gq (h_CB_need s a1 a2 a3).2.2 s := by
  have q : (f_CB_need s a1 a2 a3).1 ≠ 0 := q
  rw [show (h_CB_need s a1 a2 a3).2.2 = (f_CB_need s a1 a2 a3).2.2 from if_neg q]
  exact ⟨th_need h q, fun a h1 _ => wl_CB_need h1 ps⟩
theorem zs_need {c d : Nat} (hcd : c ≤ d) {s t : am_M} {a1 a2 a3 : Int32} (h : RR c s t) (e : (a3 = 0 ∨ a3 = 1)) : (p_CB_need s a1 a2 a3 ∧ p_CB_need t a1 a2 a3) ∧ zE (h_CB_need s a1 a2 a3).1 ∧ zE (h_CB_need t a1 a2 a3).1 ∧ ZZ c d t (bz (h_CB_need s a1 a2 a3)) (bz (h_CB_need t a1 a2 a3)) := by
  obtain ⟨⟨ps, pt⟩, e1, e2, z⟩ := zo_need (op_need_ok (c := c) (d := d) hcd) h e
  exact ⟨⟨ps, pt⟩, e1, e2, ZZ_B h z (zt_need h.1 ps) (zt_need h.2.1 pt)⟩
theorem zt_single {c : Nat} {s : am_M} {a1 a2 a3 : Int32} (h : pu_R c s) (ps : p_CB_single s a1 a2 a3) (q : (h_CB_single s a1 a2 a3).1 ≠ 0) : pu_R c (h_CB_single s a1 a2 a3).2.2 ∧ gq (h_CB_single s a1 a2 a3).2.2 s := by
  have q : (f_CB_single s a1 a2 a3).1 ≠ 0 := q
  rw [show (h_CB_single s a1 a2 a3).2.2 = (f_CB_single s a1 a2 a3).2.2 from if_neg q]
  exact ⟨th_single h q, fun a h1 _ => wl_CB_single h1 ps⟩
theorem zs_single {c d : Nat} (hcd : c ≤ d) {s t : am_M} {a1 a2 a3 : Int32} (h : RR c s t) (e : (a3 = 0 ∨ a3 = 1)) : (p_CB_single s a1 a2 a3 ∧ p_CB_single t a1 a2 a3) ∧ zE (h_CB_single s a1 a2 a3).1 ∧ zE (h_CB_single t a1 a2 a3).1 ∧ ZZ c d t (bz (h_CB_single s a1 a2 a3)) (bz (h_CB_single t a1 a2 a3)) := by
  obtain ⟨⟨ps, pt⟩, e1, e2, z⟩ := zo_single (op_single_ok (c := c) (d := d) hcd) h e
  exact ⟨⟨ps, pt⟩, e1, e2, ZZ_B h z (zt_single h.1 ps) (zt_single h.2.1 pt)⟩
theorem zt_narrow {c : Nat} {s : am_M} {a1 a2 a3 a4 : Int32} (h : pu_R c s) (ps : p_CB_narrow s a1 a2 a3 a4) (q : (h_CB_narrow s a1 a2 a3 a4).1 ≠ 0) : pu_R c (h_CB_narrow s a1 a2 a3 a4).2.2 ∧ gq (h_CB_narrow s a1 a2 a3 a4).2.2 s := by
  have q : (f_CB_narrow s a1 a2 a3 a4).1 ≠ 0 := q
  rw [show (h_CB_narrow s a1 a2 a3 a4).2.2 = (f_CB_narrow s a1 a2 a3 a4).2.2 from if_neg q]
  exact ⟨th_narrow h q, fun a h1 _ => wl_CB_narrow h1 ps⟩
theorem zs_narrow {c d : Nat} (hcd : c ≤ d) {s t : am_M} {a1 a2 a3 a4 : Int32} (h : RR c s t) : (p_CB_narrow s a1 a2 a3 a4 ∧ p_CB_narrow t a1 a2 a3 a4) ∧ zE (h_CB_narrow s a1 a2 a3 a4).1 ∧ zE (h_CB_narrow t a1 a2 a3 a4).1 ∧ ZZ c d t (bz (h_CB_narrow s a1 a2 a3 a4)) (bz (h_CB_narrow t a1 a2 a3 a4)) := by
  obtain ⟨⟨ps, pt⟩, e1, e2, z⟩ := zo_narrow (op_narrow_ok (c := c) (d := d) hcd) h
  exact ⟨⟨ps, pt⟩, e1, e2, ZZ_B h z (zt_narrow h.1 ps) (zt_narrow h.2.1 pt)⟩
theorem zt_drop {c : Nat} {s : am_M} {a1 a2 : Int32} (h : pu_R c s) (ps : p_CB_drop s a1 a2) (q : (h_CB_drop s a1 a2).1 ≠ 0) : pu_R c (h_CB_drop s a1 a2).2.2 ∧ gq (h_CB_drop s a1 a2).2.2 s := by
  have q : (f_CB_drop s a1 a2).1 ≠ 0 := q
  rw [show (h_CB_drop s a1 a2).2.2 = (f_CB_drop s a1 a2).2.2 from if_neg q]
  exact ⟨th_drop h q, fun a h1 _ => wl_CB_drop h1 ps⟩
theorem zs_drop {c d : Nat} (hcd : c ≤ d) {s t : am_M} {a1 a2 : Int32} (h : RR c s t) : (p_CB_drop s a1 a2 ∧ p_CB_drop t a1 a2) ∧ zE (h_CB_drop s a1 a2).1 ∧ zE (h_CB_drop t a1 a2).1 ∧ ZZ c d t (bz (h_CB_drop s a1 a2)) (bz (h_CB_drop t a1 a2)) := by
  obtain ⟨⟨ps, pt⟩, e1, e2, z⟩ := zo_drop (op_drop_ok (c := c) (d := d) hcd) h
  exact ⟨⟨ps, pt⟩, e1, e2, ZZ_B h z (zt_drop h.1 ps) (zt_drop h.2.1 pt)⟩
theorem zt_setRemoval {c : Nat} {s : am_M} {a1 a2 a3 : Int32} (h : pu_R c s) (ps : p_CB_setRemoval s a1 a2 a3) (q : (h_CB_setRemoval s a1 a2 a3).1 ≠ 0) : pu_R c (h_CB_setRemoval s a1 a2 a3).2.2 ∧ gq (h_CB_setRemoval s a1 a2 a3).2.2 s := by
  have q : (f_CB_setRemoval s a1 a2 a3).1 ≠ 0 := q
  rw [show (h_CB_setRemoval s a1 a2 a3).2.2 = (f_CB_setRemoval s a1 a2 a3).2.2 from if_neg q]
  exact ⟨th_setRemoval h q, fun a h1 _ => wl_CB_setRemoval h1 ps⟩
theorem zs_setRemoval {c d : Nat} (hcd : c ≤ d) {s t : am_M} {a1 a2 a3 : Int32} (h : RR c s t) : (p_CB_setRemoval s a1 a2 a3 ∧ p_CB_setRemoval t a1 a2 a3) ∧ zE (h_CB_setRemoval s a1 a2 a3).1 ∧ zE (h_CB_setRemoval t a1 a2 a3).1 ∧ ZZ c d t (az (h_CB_setRemoval s a1 a2 a3)) (az (h_CB_setRemoval t a1 a2 a3)) := by
  obtain ⟨⟨ps, pt⟩, e1, e2, z, n⟩ := zo_setRemoval (op_setRemoval_ok (c := c) (d := d) hcd) h
  exact ⟨⟨ps, pt⟩, e1, e2, ZZ_I h z (zt_setRemoval h.1 ps) (zt_setRemoval h.2.1 pt) n⟩
theorem zt_addRule {c : Nat} {s : am_M} {a1 a2 a3 a4 a5 : Int32} (h : pu_R c s) (ps : p_CB_addRule s a1 a2 a3 a4 a5) (q : (h_CB_addRule s a1 a2 a3 a4 a5).1 ≠ 0) : pu_R c (h_CB_addRule s a1 a2 a3 a4 a5).2.2 ∧ gq (h_CB_addRule s a1 a2 a3 a4 a5).2.2 s := by
  have q : (f_CB_addRule s a1 a2 a3 a4 a5).1 ≠ 0 := q
  rw [show (h_CB_addRule s a1 a2 a3 a4 a5).2.2 = (f_CB_addRule s a1 a2 a3 a4 a5).2.2 from if_neg q]
  exact ⟨th_addRule h q, fun a h1 _ => wl_CB_addRule h1 ps⟩
theorem zs_addRule {c d : Nat} (hcd : c ≤ d) {s t : am_M} {a1 a2 a3 a4 a5 : Int32} (h : RR c s t) : (p_CB_addRule s a1 a2 a3 a4 a5 ∧ p_CB_addRule t a1 a2 a3 a4 a5) ∧ zE (h_CB_addRule s a1 a2 a3 a4 a5).1 ∧ zE (h_CB_addRule t a1 a2 a3 a4 a5).1 ∧ ZZ c d t (az (h_CB_addRule s a1 a2 a3 a4 a5)) (az (h_CB_addRule t a1 a2 a3 a4 a5)) := by
  obtain ⟨⟨ps, pt⟩, e1, e2, z, n⟩ := zo_addRule (op_addRule_ok (c := c) (d := d) hcd) h
  exact ⟨⟨ps, pt⟩, e1, e2, ZZ_I h z (zt_addRule h.1 ps) (zt_addRule h.2.1 pt) n⟩
theorem zt_type {c : Nat} {s : am_M} {a1 a2 : Int32} (h : pu_R c s) (ps : p_CB_type s a1 a2) (q : (h_CB_type s a1 a2).1 ≠ 0) : pu_R c (h_CB_type s a1 a2).2.2 ∧ gq (h_CB_type s a1 a2).2.2 s := by
  have q : (f_CB_type s a1 a2).1 ≠ 0 := q
  rw [show (h_CB_type s a1 a2).2.2 = (f_CB_type s a1 a2).2.2 from if_neg q]
  exact ⟨th_type h q, fun a h1 _ => wl_CB_type h1 ps⟩
theorem zs_type {c d : Nat} (hcd : c ≤ d) {s t : am_M} {a1 a2 : Int32} (h : RR c s t) : (p_CB_type s a1 a2 ∧ p_CB_type t a1 a2) ∧ zE (h_CB_type s a1 a2).1 ∧ zE (h_CB_type t a1 a2).1 ∧ ZZ c d t (az (h_CB_type s a1 a2)) (az (h_CB_type t a1 a2)) := by
  obtain ⟨⟨ps, pt⟩, e1, e2, z⟩ := zo_type (op_type_ok (c := c) (d := d) hcd) h
  exact ⟨⟨ps, pt⟩, e1, e2, ZZ_I h z (zt_type h.1 ps) (zt_type h.2.1 pt) (n9_type h.1)⟩
theorem zt_enter {c : Nat} {s : am_M} {a1 : Int32} (h : pu_R c s) (ps : p_CB_enter s a1) (q : (h_CB_enter s a1).1 ≠ 0) : pu_R c (h_CB_enter s a1).2.2 ∧ gq (h_CB_enter s a1).2.2 s := by
  have q : (f_CB_enter s a1).1 ≠ 0 := q
  rw [show (h_CB_enter s a1).2.2 = (f_CB_enter s a1).2.2 from if_neg q]
  exact ⟨th_enter h q, fun a h1 _ => wl_CB_enter h1 ps⟩
theorem zs_enter {c d : Nat} (hcd : c + 7 ≤ d) (hd9 : d ≤ 4000) {s t : am_M} {a1 : Int32} (h : RR c s t) : (p_CB_enter s a1 ∧ p_CB_enter t a1) ∧ zE (h_CB_enter s a1).1 ∧ zE (h_CB_enter t a1).1 ∧ ZZ c d t (az (h_CB_enter s a1)) (az (h_CB_enter t a1)) := by
  obtain ⟨⟨ps, pt⟩, e1, e2, z, n⟩ := zo_enter (op_enter_ok hcd hd9) h
  exact ⟨⟨ps, pt⟩, e1, e2, ZZ_I h z (zt_enter h.1 ps) (zt_enter h.2.1 pt) n⟩
theorem zt_put {c : Nat} {s : am_M} {a1 a2 a3 a4 : Int32} (h : pu_R c s) (ps : p_CB_put s a1 a2 a3 a4) (q : (h_CB_put s a1 a2 a3 a4).1 ≠ 0) : pu_R c (h_CB_put s a1 a2 a3 a4).2.2 ∧ gq (h_CB_put s a1 a2 a3 a4).2.2 s := by
  have q : (f_CB_put s a1 a2 a3 a4).1 ≠ 0 := q
  rw [show (h_CB_put s a1 a2 a3 a4).2.2 = (f_CB_put s a1 a2 a3 a4).2.2 from if_neg q]
  exact ⟨th_put h q, fun a h1 _ => wl_CB_put h1 ps⟩
theorem zs_put {c d : Nat} (hcd : c ≤ d) {s t : am_M} {a1 a2 a3 a4 : Int32} (h : RR c s t) : (p_CB_put s a1 a2 a3 a4 ∧ p_CB_put t a1 a2 a3 a4) ∧ zE (h_CB_put s a1 a2 a3 a4).1 ∧ zE (h_CB_put t a1 a2 a3 a4).1 ∧ ZZ c d t (bz (h_CB_put s a1 a2 a3 a4)) (bz (h_CB_put t a1 a2 a3 a4)) := by
  obtain ⟨⟨ps, pt⟩, e1, e2, z⟩ := zo_put (op_put_ok (c := c) (d := d) hcd) h
  exact ⟨⟨ps, pt⟩, e1, e2, ZZ_B h z (zt_put h.1 ps) (zt_put h.2.1 pt)⟩
theorem zt_remove {c : Nat} {s : am_M} {a1 a2 : Int32} (h : pu_R c s) (ps : p_CB_remove s a1 a2) (q : (h_CB_remove s a1 a2).1 ≠ 0) : pu_R c (h_CB_remove s a1 a2).2.2 ∧ gq (h_CB_remove s a1 a2).2.2 s := by
  have q : (f_CB_remove s a1 a2).1 ≠ 0 := q
  rw [show (h_CB_remove s a1 a2).2.2 = (f_CB_remove s a1 a2).2.2 from if_neg q]
  exact ⟨th_remove h q, fun a h1 _ => wl_CB_remove h1 ps⟩
theorem zs_remove {c d : Nat} (hcd : c ≤ d) {s t : am_M} {a1 a2 : Int32} (h : RR c s t) : (p_CB_remove s a1 a2 ∧ p_CB_remove t a1 a2) ∧ zE (h_CB_remove s a1 a2).1 ∧ zE (h_CB_remove t a1 a2).1 ∧ ZZ c d t (bz (h_CB_remove s a1 a2)) (bz (h_CB_remove t a1 a2)) := by
  obtain ⟨⟨ps, pt⟩, e1, e2, z⟩ := zo_remove (op_remove_ok (c := c) (d := d) hcd) h
  exact ⟨⟨ps, pt⟩, e1, e2, ZZ_B h z (zt_remove h.1 ps) (zt_remove h.2.1 pt)⟩
theorem zt_openForm {c : Nat} {s : am_M} {a1 a2 : Int32} (h : pu_R c s) (ps : p_CB_openForm s a1 a2) (q : (h_CB_openForm s a1 a2).1 ≠ 0) : pu_R c (h_CB_openForm s a1 a2).2 ∧ gq (h_CB_openForm s a1 a2).2 s := by
  have q : (f_CB_openForm s a1 a2).1 ≠ 0 := q
  rw [show (h_CB_openForm s a1 a2).2 = (f_CB_openForm s a1 a2).2 from if_neg q]
  exact ⟨th_openForm h q, fun a h1 _ => wl_CB_openForm h1 ps⟩
theorem zt_enterInside {c : Nat} {s : am_M} {a1 a2 : Int32} (h : pu_R c s) (ps : p_CB_enterInside s a1 a2) (q : (h_CB_enterInside s a1 a2).1 ≠ 0) : pu_R c (h_CB_enterInside s a1 a2).2.2 ∧ gq (h_CB_enterInside s a1 a2).2.2 s := by
  have q : (f_CB_enterInside s a1 a2).1 ≠ 0 := q
  rw [show (h_CB_enterInside s a1 a2).2.2 = (f_CB_enterInside s a1 a2).2.2 from if_neg q]
  exact ⟨th_enterInside h q, fun a h1 _ => wl_CB_enterInside h1 ps⟩
theorem zs_enterInside {c d : Nat} (hcd : c + 7 ≤ d) (hd9 : d ≤ 4000) {s t : am_M} {a1 a2 : Int32} (h : RR c s t) : (p_CB_enterInside s a1 a2 ∧ p_CB_enterInside t a1 a2) ∧ zE (h_CB_enterInside s a1 a2).1 ∧ zE (h_CB_enterInside t a1 a2).1 ∧ ZZ c d t (az (h_CB_enterInside s a1 a2)) (az (h_CB_enterInside t a1 a2)) := by
  obtain ⟨⟨ps, pt⟩, e1, e2, z, n⟩ := zo_enterInside (op_enterInside_ok hcd hd9) h
  exact ⟨⟨ps, pt⟩, e1, e2, ZZ_I h z (zt_enterInside h.1 ps) (zt_enterInside h.2.1 pt) n⟩
theorem zt_choice {c : Nat} {s : am_M} {a1 a2 a3 a4 : Int32} (h : pu_R c s) (ps : p_CB_choice s a1 a2 a3 a4) (q : (h_CB_choice s a1 a2 a3 a4).1 ≠ 0) : pu_R c (h_CB_choice s a1 a2 a3 a4).2.2 ∧ gq (h_CB_choice s a1 a2 a3 a4).2.2 s := by
  have q : (f_CB_choice s a1 a2 a3 a4).1 ≠ 0 := q
  rw [show (h_CB_choice s a1 a2 a3 a4).2.2 = (f_CB_choice s a1 a2 a3 a4).2.2 from if_neg q]
  exact ⟨th_choice h q, fun a h1 _ => wl_CB_choice h1 ps⟩
theorem zs_choice {c d : Nat} (hcd : c ≤ d) {s t : am_M} {a1 a2 a3 a4 : Int32} (h : RR c s t) : (p_CB_choice s a1 a2 a3 a4 ∧ p_CB_choice t a1 a2 a3 a4) ∧ zE (h_CB_choice s a1 a2 a3 a4).1 ∧ zE (h_CB_choice t a1 a2 a3 a4).1 ∧ zI d (h_CB_choice s a1 a2 a3 a4) (h_CB_choice t a1 a2 a3 a4) := by
  obtain ⟨⟨ps, pt⟩, e1, e2, z⟩ := zo_choice (op_choice_ok (c := c) (d := d) hcd) h
  exact ⟨⟨ps, pt⟩, e1, e2, z⟩
theorem zt_ask {c : Nat} {s : am_M} {a1 a2 : Int32} (h : pu_R c s) (ps : p_CB_ask s a1 a2) (q : (h_CB_ask s a1 a2).1 ≠ 0) : pu_R c (h_CB_ask s a1 a2).2.2 ∧ gq (h_CB_ask s a1 a2).2.2 s := by
  have q : (f_CB_ask s a1 a2).1 ≠ 0 := q
  rw [show (h_CB_ask s a1 a2).2.2 = (f_CB_ask s a1 a2).2.2 from if_neg q]
  exact ⟨th_ask h q, fun a h1 _ => wl_CB_ask h1 ps⟩
theorem zs_ask {c d : Nat} (hcd : c ≤ d) {s t : am_M} {a1 a2 : Int32} (h : RR c s t) : (p_CB_ask s a1 a2 ∧ p_CB_ask t a1 a2) ∧ zE (h_CB_ask s a1 a2).1 ∧ zE (h_CB_ask t a1 a2).1 ∧ ZZ c d t (az (h_CB_ask s a1 a2)) (az (h_CB_ask t a1 a2)) := by
  obtain ⟨⟨ps, pt⟩, e1, e2, z, n⟩ := zo_ask (op_ask_ok (c := c) (d := d) hcd) h
  exact ⟨⟨ps, pt⟩, e1, e2, ZZ_I h z (zt_ask h.1 ps) (zt_ask h.2.1 pt) n⟩
theorem zt_condition {c : Nat} {s : am_M} {a1 a2 a3 a4 a5 : Int32} (h : pu_R c s) (ps : p_CB_condition s a1 a2 a3 a4 a5) (q : (h_CB_condition s a1 a2 a3 a4 a5).1 ≠ 0) : pu_R c (h_CB_condition s a1 a2 a3 a4 a5).2.2 ∧ gq (h_CB_condition s a1 a2 a3 a4 a5).2.2 s := by
  have q : (f_CB_condition s a1 a2 a3 a4 a5).1 ≠ 0 := q
  rw [show (h_CB_condition s a1 a2 a3 a4 a5).2.2 = (f_CB_condition s a1 a2 a3 a4 a5).2.2 from if_neg q]
  exact ⟨th_condition h q, fun a h1 _ => wl_CB_condition h1 ps⟩
theorem zs_condition {c d : Nat} (hcd : c ≤ d) {s t : am_M} {a1 a2 a3 a4 a5 : Int32} (h : RR c s t) : (p_CB_condition s a1 a2 a3 a4 a5 ∧ p_CB_condition t a1 a2 a3 a4 a5) ∧ zE (h_CB_condition s a1 a2 a3 a4 a5).1 ∧ zE (h_CB_condition t a1 a2 a3 a4 a5).1 ∧ ZZ c d t (az (h_CB_condition s a1 a2 a3 a4 a5)) (az (h_CB_condition t a1 a2 a3 a4 a5)) := by
  obtain ⟨⟨ps, pt⟩, e1, e2, z, n⟩ := zo_condition (op_condition_ok (c := c) (d := d) hcd) h
  exact ⟨⟨ps, pt⟩, e1, e2, ZZ_I h z (zt_condition h.1 ps) (zt_condition h.2.1 pt) n⟩
theorem zt_askGroups {c : Nat} {s : am_M} {a1 a2 a3 : Int32} (h : pu_R c s) (ps : p_CB_askGroups s a1 a2 a3) (q : (h_CB_askGroups s a1 a2 a3).1 ≠ 0) : pu_R c (h_CB_askGroups s a1 a2 a3).2.2 ∧ gq (h_CB_askGroups s a1 a2 a3).2.2 s := by
  have q : (f_CB_askGroups s a1 a2 a3).1 ≠ 0 := q
  rw [show (h_CB_askGroups s a1 a2 a3).2.2 = (f_CB_askGroups s a1 a2 a3).2.2 from if_neg q]
  exact ⟨th_askGroups h q, fun a h1 _ => wl_CB_askGroups h1 ps⟩
theorem zs_askGroups {c d : Nat} (hcd : c ≤ d) {s t : am_M} {a1 a2 a3 : Int32} (h : RR c s t) : (p_CB_askGroups s a1 a2 a3 ∧ p_CB_askGroups t a1 a2 a3) ∧ zE (h_CB_askGroups s a1 a2 a3).1 ∧ zE (h_CB_askGroups t a1 a2 a3).1 ∧ ZZ c d t (az (h_CB_askGroups s a1 a2 a3)) (az (h_CB_askGroups t a1 a2 a3)) := by
  obtain ⟨⟨ps, pt⟩, e1, e2, z, n⟩ := zo_askGroups (op_askGroups_ok (c := c) (d := d) hcd) h
  exact ⟨⟨ps, pt⟩, e1, e2, ZZ_I h z (zt_askGroups h.1 ps) (zt_askGroups h.2.1 pt) n⟩
theorem zt_askCross {c : Nat} {s : am_M} {a1 a2 a3 a4 : Int32} (h : pu_R c s) (ps : p_CB_askCross s a1 a2 a3 a4) (q : (h_CB_askCross s a1 a2 a3 a4).1 ≠ 0) : pu_R c (h_CB_askCross s a1 a2 a3 a4).2.2 ∧ gq (h_CB_askCross s a1 a2 a3 a4).2.2 s := by
  have q : (f_CB_askCross s a1 a2 a3 a4).1 ≠ 0 := q
  rw [show (h_CB_askCross s a1 a2 a3 a4).2.2 = (f_CB_askCross s a1 a2 a3 a4).2.2 from if_neg q]
  exact ⟨th_askCross h q, fun a h1 _ => wl_CB_askCross h1 ps⟩
theorem zs_askCross {c d : Nat} (hcd : c ≤ d) {s t : am_M} {a1 a2 a3 a4 : Int32} (h : RR c s t) : (p_CB_askCross s a1 a2 a3 a4 ∧ p_CB_askCross t a1 a2 a3 a4) ∧ zE (h_CB_askCross s a1 a2 a3 a4).1 ∧ zE (h_CB_askCross t a1 a2 a3 a4).1 ∧ ZZ c d t (az (h_CB_askCross s a1 a2 a3 a4)) (az (h_CB_askCross t a1 a2 a3 a4)) := by
  obtain ⟨⟨ps, pt⟩, e1, e2, z, n⟩ := zo_askCross (op_askCross_ok (c := c) (d := d) hcd) h
  exact ⟨⟨ps, pt⟩, e1, e2, ZZ_I h z (zt_askCross h.1 ps) (zt_askCross h.2.1 pt) n⟩
theorem zt_write {c : Nat} {s : am_M} {a1 a2 a3 a4 : Int32} (h : pu_R c s) (ps : p_CB_write s a1 a2 a3 a4) (q : (h_CB_write s a1 a2 a3 a4).1 ≠ 0) : pu_R c (h_CB_write s a1 a2 a3 a4).2.2 ∧ gq (h_CB_write s a1 a2 a3 a4).2.2 s := by
  have q : (f_CB_write s a1 a2 a3 a4).1 ≠ 0 := q
  rw [show (h_CB_write s a1 a2 a3 a4).2.2 = (f_CB_write s a1 a2 a3 a4).2.2 from if_neg q]
  exact ⟨th_write h q, fun a h1 _ => wl_CB_write h1 ps⟩
theorem zs_write {c d : Nat} (hcd : c ≤ d) {s t : am_M} {a1 a2 a3 a4 : Int32} (h : RR c s t) : (p_CB_write s a1 a2 a3 a4 ∧ p_CB_write t a1 a2 a3 a4) ∧ zE (h_CB_write s a1 a2 a3 a4).1 ∧ zE (h_CB_write t a1 a2 a3 a4).1 ∧ ZZ c d t (bz (h_CB_write s a1 a2 a3 a4)) (bz (h_CB_write t a1 a2 a3 a4)) := by
  obtain ⟨⟨ps, pt⟩, e1, e2, z⟩ := zo_write (op_write_ok (c := c) (d := d) hcd) h
  exact ⟨⟨ps, pt⟩, e1, e2, ZZ_B h z (zt_write h.1 ps) (zt_write h.2.1 pt)⟩
theorem zt_addAct {c : Nat} {s : am_M} (h : pu_R c s) (q : (h_CB_addAct s).1 ≠ 0) : pu_R c (h_CB_addAct s).2.2 ∧ gq (h_CB_addAct s).2.2 s := by
  have q : (f_CB_addAct s).1 ≠ 0 := q
  rw [show (h_CB_addAct s).2.2 = (f_CB_addAct s).2.2 from if_neg q]
  exact ⟨th_addAct h q, fun a h1 _ => wl_CB_addAct h1⟩
theorem zs_addAct {c d : Nat} (hcd : c ≤ d) {s t : am_M} (h : RR c s t) : zE (h_CB_addAct s).1 ∧ zE (h_CB_addAct t).1 ∧ ZZ c d t (az (h_CB_addAct s)) (az (h_CB_addAct t)) := by
  obtain ⟨e1, e2, z⟩ := zo_addAct (op_addAct_ok (c := c) (d := d) hcd) h
  exact ⟨e1, e2, ZZ_I h z (zt_addAct h.1) (zt_addAct h.2.1) (n9_addAct h.1)⟩
theorem zt_stepPut {c : Nat} {s : am_M} {a1 a2 a3 a4 : Int32} (h : pu_R c s) (ps : p_CB_stepPut s a1 a2 a3 a4) (q : (h_CB_stepPut s a1 a2 a3 a4).1 ≠ 0) : pu_R c (h_CB_stepPut s a1 a2 a3 a4).2.2 ∧ gq (h_CB_stepPut s a1 a2 a3 a4).2.2 s := by
  have q : (f_CB_stepPut s a1 a2 a3 a4).1 ≠ 0 := q
  rw [show (h_CB_stepPut s a1 a2 a3 a4).2.2 = (f_CB_stepPut s a1 a2 a3 a4).2.2 from if_neg q]
  exact ⟨th_stepPut h q, fun a h1 _ => wl_CB_stepPut h1 ps⟩
theorem zs_stepPut {c d : Nat} (hcd : c ≤ d) {s t : am_M} {a1 a2 a3 a4 : Int32} (h : RR c s t) : (p_CB_stepPut s a1 a2 a3 a4 ∧ p_CB_stepPut t a1 a2 a3 a4) ∧ zE (h_CB_stepPut s a1 a2 a3 a4).1 ∧ zE (h_CB_stepPut t a1 a2 a3 a4).1 ∧ ZZ c d t (az (h_CB_stepPut s a1 a2 a3 a4)) (az (h_CB_stepPut t a1 a2 a3 a4)) := by
  obtain ⟨⟨ps, pt⟩, e1, e2, z, n⟩ := zo_stepPut (op_stepPut_ok (c := c) (d := d) hcd) h
  exact ⟨⟨ps, pt⟩, e1, e2, ZZ_I h z (zt_stepPut h.1 ps) (zt_stepPut h.2.1 pt) n⟩
theorem zt_stepAdd {c : Nat} {s : am_M} {a1 a2 : Int32} (h : pu_R c s) (ps : p_CB_stepAdd s a1 a2) (q : (h_CB_stepAdd s a1 a2).1 ≠ 0) : pu_R c (h_CB_stepAdd s a1 a2).2.2 ∧ gq (h_CB_stepAdd s a1 a2).2.2 s := by
  have q : (f_CB_stepAdd s a1 a2).1 ≠ 0 := q
  rw [show (h_CB_stepAdd s a1 a2).2.2 = (f_CB_stepAdd s a1 a2).2.2 from if_neg q]
  exact ⟨th_stepAdd h q, fun a h1 _ => wl_CB_stepAdd h1 ps⟩
theorem zs_stepAdd {c d : Nat} (hcd : c ≤ d) {s t : am_M} {a1 a2 : Int32} (h : RR c s t) : (p_CB_stepAdd s a1 a2 ∧ p_CB_stepAdd t a1 a2) ∧ zE (h_CB_stepAdd s a1 a2).1 ∧ zE (h_CB_stepAdd t a1 a2).1 ∧ ZZ c d t (az (h_CB_stepAdd s a1 a2)) (az (h_CB_stepAdd t a1 a2)) := by
  obtain ⟨⟨ps, pt⟩, e1, e2, z, n⟩ := zo_stepAdd (op_stepAdd_ok (c := c) (d := d) hcd) h
  exact ⟨⟨ps, pt⟩, e1, e2, ZZ_I h z (zt_stepAdd h.1 ps) (zt_stepAdd h.2.1 pt) n⟩
theorem zt_stepRemove {c : Nat} {s : am_M} {a1 a2 a3 : Int32} (h : pu_R c s) (ps : p_CB_stepRemove s a1 a2 a3) (q : (h_CB_stepRemove s a1 a2 a3).1 ≠ 0) : pu_R c (h_CB_stepRemove s a1 a2 a3).2.2 ∧ gq (h_CB_stepRemove s a1 a2 a3).2.2 s := by
  have q : (f_CB_stepRemove s a1 a2 a3).1 ≠ 0 := q
  rw [show (h_CB_stepRemove s a1 a2 a3).2.2 = (f_CB_stepRemove s a1 a2 a3).2.2 from if_neg q]
  exact ⟨th_stepRemove h q, fun a h1 _ => wl_CB_stepRemove h1 ps⟩
theorem zs_stepRemove {c d : Nat} (hcd : c ≤ d) {s t : am_M} {a1 a2 a3 : Int32} (h : RR c s t) : (p_CB_stepRemove s a1 a2 a3 ∧ p_CB_stepRemove t a1 a2 a3) ∧ zE (h_CB_stepRemove s a1 a2 a3).1 ∧ zE (h_CB_stepRemove t a1 a2 a3).1 ∧ ZZ c d t (az (h_CB_stepRemove s a1 a2 a3)) (az (h_CB_stepRemove t a1 a2 a3)) := by
  obtain ⟨⟨ps, pt⟩, e1, e2, z, n⟩ := zo_stepRemove (op_stepRemove_ok (c := c) (d := d) hcd) h
  exact ⟨⟨ps, pt⟩, e1, e2, ZZ_I h z (zt_stepRemove h.1 ps) (zt_stepRemove h.2.1 pt) n⟩
theorem zt_stepIf {c : Nat} {s : am_M} {a1 a2 a3 : Int32} (h : pu_R c s) (ps : p_CB_stepIf s a1 a2 a3) (q : (h_CB_stepIf s a1 a2 a3).1 ≠ 0) : pu_R c (h_CB_stepIf s a1 a2 a3).2.2 ∧ gq (h_CB_stepIf s a1 a2 a3).2.2 s := by
  have q : (f_CB_stepIf s a1 a2 a3).1 ≠ 0 := q
  rw [show (h_CB_stepIf s a1 a2 a3).2.2 = (f_CB_stepIf s a1 a2 a3).2.2 from if_neg q]
  exact ⟨th_stepIf h q, fun a h1 _ => wl_CB_stepIf h1 ps⟩
theorem zs_stepIf {c d : Nat} (hcd : c ≤ d) {s t : am_M} {a1 a2 a3 : Int32} (h : RR c s t) : (p_CB_stepIf s a1 a2 a3 ∧ p_CB_stepIf t a1 a2 a3) ∧ zE (h_CB_stepIf s a1 a2 a3).1 ∧ zE (h_CB_stepIf t a1 a2 a3).1 ∧ ZZ c d t (az (h_CB_stepIf s a1 a2 a3)) (az (h_CB_stepIf t a1 a2 a3)) := by
  obtain ⟨⟨ps, pt⟩, e1, e2, z, n⟩ := zo_stepIf (op_stepIf_ok (c := c) (d := d) hcd) h
  exact ⟨⟨ps, pt⟩, e1, e2, ZZ_I h z (zt_stepIf h.1 ps) (zt_stepIf h.2.1 pt) n⟩
theorem zt_run {c : Nat} {s : am_M} {a1 : Int32} (h : pu_R c s) (ps : p_CB_run s a1) (q : (h_CB_run s a1).1 ≠ 0) : pu_R c (h_CB_run s a1).2.2 ∧ gq (h_CB_run s a1).2.2 s := by
  have q : (f_CB_run s a1).1 ≠ 0 := q
  rw [show (h_CB_run s a1).2.2 = (f_CB_run s a1).2.2 from if_neg q]
  exact ⟨th_run h q, fun a h1 _ => wl_CB_run h1 ps⟩
theorem zs_run {c d : Nat} (hcd : c + 7 ≤ d) (hd9 : d ≤ 4000) {s t : am_M} {a1 : Int32} (h : RR c s t) : (p_CB_run s a1 ∧ p_CB_run t a1) ∧ zE (h_CB_run s a1).1 ∧ zE (h_CB_run t a1).1 ∧ ZZ c d t (bz (h_CB_run s a1)) (bz (h_CB_run t a1)) := by
  obtain ⟨⟨ps, pt⟩, e1, e2, z⟩ := zo_run (op_run_ok hcd hd9) h
  exact ⟨⟨ps, pt⟩, e1, e2, ZZ_B h z (zt_run h.1 ps) (zt_run h.2.1 pt)⟩
theorem zt_undo {c : Nat} {s : am_M} (h : pu_R c s) (ps : p_CB_undo s) (q : (h_CB_undo s).1 ≠ 0) : pu_R c (h_CB_undo s).2.2 ∧ gq (h_CB_undo s).2.2 s := by
  have q : (f_CB_undo s).1 ≠ 0 := q
  rw [show (h_CB_undo s).2.2 = (f_CB_undo s).2.2 from if_neg q]
  exact ⟨th_undo h q, fun a h1 _ => wl_CB_undo h1 ps⟩
theorem zs_undo {c d : Nat} (hcd : c ≤ d) {s t : am_M} (h : RR c s t) : (p_CB_undo s ∧ p_CB_undo t) ∧ zE (h_CB_undo s).1 ∧ zE (h_CB_undo t).1 ∧ ZZ c d t (az (h_CB_undo s)) (az (h_CB_undo t)) := by
  obtain ⟨⟨ps, pt⟩, e1, e2, z, n⟩ := zo_undo (op_undo_ok (c := c) (d := d) hcd) h
  exact ⟨⟨ps, pt⟩, e1, e2, ZZ_I h z (zt_undo h.1 ps) (zt_undo h.2.1 pt) n⟩
end
