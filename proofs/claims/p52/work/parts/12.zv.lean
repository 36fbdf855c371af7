noncomputable section
-- two objects in step: what each call does to both, out of the first claim's lemmas; written by wip/p52/zx.py
def gq (s t : am_M) : Prop := ∀ a, 207 ≤ a → a ≤ 261 → s a = t a
def RR (c : Nat) (s t : am_M) : Prop := pu_R c s ∧ pu_R c t ∧ gq s t
theorem gq_rf {s : am_M} : gq s s := fun _ _ _ => rfl
theorem gq_sy {s t : am_M} (h : gq s t) : gq t s := fun a h1 h2 => (h a h1 h2).symm
theorem gq_tr {s t u : am_M} (h : gq s t) (k : gq t u) : gq s u := fun a h1 h2 => (h a h1 h2).trans (k a h1 h2)
theorem RR_sy {c : Nat} {s t : am_M} (h : RR c s t) : RR c t s := ⟨h.2.1, h.1, gq_sy h.2.2⟩
theorem RR_mo {c d : Nat} {s t : am_M} (h : RR c s t) (hcd : c ≤ d) : RR d s t := ⟨h.1.mono hcd, h.2.1.mono hcd, h.2.2⟩
theorem mx_of {b u : am_M} (h : gq b u) : mx b u = b := by
  funext a
  unfold mx
  by_cases q : 207 ≤ a ∧ a ≤ 261
  · rw [if_pos q]; exact (h a q.1 q.2).symm
  · rw [if_neg q]
theorem mx_gq {b u : am_M} : gq (mx b u) u := fun a h1 h2 => if_pos ⟨h1, h2⟩
theorem mx_ng {b u : am_M} {a : Nat} (h : ¬ (207 ≤ a ∧ a ≤ 261)) : mx b u a = b a := if_neg h
/-- the ghost goes the same way, whatever the object's memory is -/
theorem zz_M {M : am_M → Int32 × am_M} (hM : ∀ b u, M (mx b u) = mxC b (M u)) {m n : am_M} (h : gq m n) : (M m).1 = (M n).1 ∧ gq (M m).2 (M n).2 ∧ ∀ a, ¬ (207 ≤ a ∧ a ≤ 261) → (M m).2 a = m a := by
  have e : M m = mxC m (M n) := by rw [← hM, mx_of h]
  rw [e]
  exact ⟨rfl, mx_gq, fun a q => mx_ng q⟩
theorem zz_MV {M : am_M → am_M} (hM : ∀ b u, M (mx b u) = mx b (M u)) {m n : am_M} (h : gq m n) : gq (M m) (M n) ∧ ∀ a, ¬ (207 ≤ a ∧ a ≤ 261) → M m a = m a := by
  have e : M m = mx m (M n) := by rw [← hM, mx_of h]
  rw [e]
  exact ⟨mx_gq, fun a q => mx_ng q⟩
/-- a call with a number, or with a truth value, or without; thrown or not, alike on both -/
def zE (k : Nat) : Prop := k = 0 ∨ k = 1 ∨ k = 2 ∨ k = 3
def zI (d : Nat) (p q : Nat × Int32 × am_M) : Prop := (p.1 = 0 ↔ q.1 = 0) ∧ (p.1 = 0 → p.2.1 = q.2.1 ∧ RR d p.2.2 q.2.2)
def zB (d : Nat) (p q : Nat × Int32 × am_M) : Prop := (p.1 = 0 ↔ q.1 = 0) ∧ (p.1 = 0 → (p.2.1 = 0 ↔ q.2.1 = 0) ∧ RR d p.2.2 q.2.2)
def zV (d : Nat) (p q : Nat × am_M) : Prop := (p.1 = 0 ↔ q.1 = 0) ∧ (p.1 = 0 → RR d p.2 q.2)
def hgE (q : Nat × Int32 × am_M) (g : am_M) : Nat × Int32 × am_M := (q.1, q.2.1, if q.1 = 0 then lo q.2.2 g else q.2.2)
def hgV (q : Nat × am_M) (g : am_M) : Nat × am_M := (q.1, if q.1 = 0 then lo q.2 g else q.2)
theorem lo_M {M : am_M → Int32 × am_M} (hM : ∀ b u, M (mx b u) = mxC b (M u)) {m q : am_M} {v : Int32} (hm : m = am_set q 262 0 v) : lo q (M m).2 = (M m).2 := by
  funext a
  by_cases h : a < 207
  · rw [lo_at h, (zz_M hM (gq_rf (s := m))).2.2 a (by omega), hm]
    exact (am_set_o (by omega)).symm
  · unfold lo; rw [if_neg h]
theorem gq_set {q s : am_M} {v : Int32} (h : gq q s) : gq (am_set q 262 0 v) s := fun a h1 h2 => by
  rw [show am_set q 262 0 v a = q a from am_set_o (by omega)]; exact h a h1 h2
/-- what both owe, and what comes of it -/
theorem zz_I {d : Nat} {M : am_M → Int32 × am_M} (hM : ∀ b u, M (mx b u) = mxC b (M u)) {s t : am_M} {p q : Nat × Int32 × am_M} {ls lt : Int32 × am_M} (g : gq s t) (ws : gq p.2.2 s) (wt : gq q.2.2 t) (as : (p.1 = 0 → ls = (0, am_set p.2.2 262 0 p.2.1)) ∧ (¬ p.1 = 0 → ¬ ls.1 = 0 ∧ ls.2 = p.2.2)) (at' : (q.1 = 0 → lt = (0, am_set q.2.2 262 0 q.2.1)) ∧ (¬ q.1 = 0 → ¬ lt.1 = 0 ∧ lt.2 = q.2.2)) (os : pu_I (pu_R d) ls.1 (M ls.2)) (ot : pu_I (pu_R d) lt.1 (M lt.2)) : zI d (hgE p (M ls.2).2) (hgE q (M lt.2).2) := by
  have gs : gq ls.2 s := by
    by_cases h : p.1 = 0
    · rw [as.1 h]; exact gq_set ws
    · rw [(as.2 h).2]; exact ws
  have gt : gq lt.2 t := by
    by_cases h : q.1 = 0
    · rw [at'.1 h]; exact gq_set wt
    · rw [(at'.2 h).2]; exact wt
  have gg : gq ls.2 lt.2 := gq_tr gs (gq_tr g (gq_sy gt))
  obtain ⟨e1, e2, e3⟩ := zz_M hM gg
  obtain ⟨-, -, f3⟩ := zz_M hM (gq_rf (s := lt.2))
  obtain ⟨o1, o2, o3⟩ := os
  obtain ⟨t1, t2, t3⟩ := ot
  have kk : ls.1 = lt.1 := by
    rw [← o1, ← t1]
    show (M ls.2).2 207 0 = (M lt.2).2 207 0
    rw [e2 207 (by decide) (by decide)]
  have ki : p.1 = 0 ↔ q.1 = 0 := by
    constructor
    · intro h
      by_cases h2 : q.1 = 0
      · exact h2
      · exact absurd (by rw [← kk, as.1 h]) (at'.2 h2).1
    · intro h
      by_cases h2 : p.1 = 0
      · exact h2
      · exact absurd (by rw [kk, at'.1 h]) (as.2 h2).1
  refine ⟨ki, fun h => ?_⟩
  have h : p.1 = 0 := h
  have h' := ki.mp h
  have es := as.1 h
  have et := at'.1 h'
  have a1 : (M ls.2).2 262 0 = p.2.1 := by
    rw [e3 262 (by omega), es]
    show am_set p.2.2 262 0 p.2.1 262 0 = _
    exact am_set_q
  have a2 : (M lt.2).2 262 0 = q.2.1 := by
    rw [f3 262 (by omega), et]
    show am_set q.2.2 262 0 q.2.1 262 0 = _
    exact am_set_q
  have b1 := o2 (by rw [es])
  have b2 := t2 (by rw [et])
  have ms : (hgE p (M ls.2).2).2.2 = (M ls.2).2 := by
    show (if p.1 = 0 then lo p.2.2 (M ls.2).2 else p.2.2) = _
    rw [if_pos h]; exact lo_M hM (by rw [es])
  have mt : (hgE q (M lt.2).2).2.2 = (M lt.2).2 := by
    show (if q.1 = 0 then lo q.2.2 (M lt.2).2 else q.2.2) = _
    rw [if_pos h']; exact lo_M hM (by rw [et])
  rw [ms, mt]
  exact ⟨by show p.2.1 = q.2.1; rw [← a1, ← a2]; exact b1.trans (e1.trans b2.symm), o3, t3, e2⟩
theorem zz_B {d : Nat} {M : am_M → Int32 × am_M} (hM : ∀ b u, M (mx b u) = mxC b (M u)) {s t : am_M} {p q : Nat × Int32 × am_M} {ls lt : Int32 × am_M} (g : gq s t) (ws : gq p.2.2 s) (wt : gq q.2.2 t) (as : (p.1 = 0 → ls = (0, am_set p.2.2 262 0 (if p.2.1 = 0 then 0 else 1))) ∧ (¬ p.1 = 0 → ¬ ls.1 = 0 ∧ ls.2 = p.2.2)) (at' : (q.1 = 0 → lt = (0, am_set q.2.2 262 0 (if q.2.1 = 0 then 0 else 1))) ∧ (¬ q.1 = 0 → ¬ lt.1 = 0 ∧ lt.2 = q.2.2)) (os : pu_B (pu_R d) ls.1 (M ls.2)) (ot : pu_B (pu_R d) lt.1 (M lt.2)) : zB d (hgE p (M ls.2).2) (hgE q (M lt.2).2) := by
  have gs : gq ls.2 s := by
    by_cases h : p.1 = 0
    · rw [as.1 h]; exact gq_set ws
    · rw [(as.2 h).2]; exact ws
  have gt : gq lt.2 t := by
    by_cases h : q.1 = 0
    · rw [at'.1 h]; exact gq_set wt
    · rw [(at'.2 h).2]; exact wt
  have gg : gq ls.2 lt.2 := gq_tr gs (gq_tr g (gq_sy gt))
  obtain ⟨e1, e2, e3⟩ := zz_M hM gg
  obtain ⟨-, -, f3⟩ := zz_M hM (gq_rf (s := lt.2))
  obtain ⟨o1, o2, o3⟩ := os
  obtain ⟨t1, t2, t3⟩ := ot
  have kk : ls.1 = lt.1 := by
    rw [← o1, ← t1]
    show (M ls.2).2 207 0 = (M lt.2).2 207 0
    rw [e2 207 (by decide) (by decide)]
  have ki : p.1 = 0 ↔ q.1 = 0 := by
    constructor
    · intro h
      by_cases h2 : q.1 = 0
      · exact h2
      · exact absurd (by rw [← kk, as.1 h]) (at'.2 h2).1
    · intro h
      by_cases h2 : p.1 = 0
      · exact h2
      · exact absurd (by rw [kk, at'.1 h]) (as.2 h2).1
  refine ⟨ki, fun h => ?_⟩
  have h : p.1 = 0 := h
  have h' := ki.mp h
  have es := as.1 h
  have et := at'.1 h'
  have a1 : (M ls.2).2 262 0 = if p.2.1 = 0 then 0 else 1 := by
    rw [e3 262 (by omega), es]
    show am_set p.2.2 262 0 _ 262 0 = _
    exact am_set_q
  have a2 : (M lt.2).2 262 0 = if q.2.1 = 0 then 0 else 1 := by
    rw [f3 262 (by omega), et]
    show am_set q.2.2 262 0 _ 262 0 = _
    exact am_set_q
  have b1 : (M ls.2).2 262 0 = if (M ls.2).1 = 0 then 0 else 1 := o2 (by rw [es])
  have b2 : (M lt.2).2 262 0 = if (M lt.2).1 = 0 then 0 else 1 := t2 (by rw [et])
  have ms : (hgE p (M ls.2).2).2.2 = (M ls.2).2 := by
    show (if p.1 = 0 then lo p.2.2 (M ls.2).2 else p.2.2) = _
    rw [if_pos h]; exact lo_M hM (by rw [es])
  have mt : (hgE q (M lt.2).2).2.2 = (M lt.2).2 := by
    show (if q.1 = 0 then lo q.2.2 (M lt.2).2 else q.2.2) = _
    rw [if_pos h']; exact lo_M hM (by rw [et])
  rw [ms, mt]
  refine ⟨?_, o3, t3, e2⟩
  show p.2.1 = 0 ↔ q.2.1 = 0
  have key : (if p.2.1 = 0 then (0 : Int32) else 1) = if q.2.1 = 0 then 0 else 1 := by rw [← a1, ← a2, b1, b2, e1]
  by_cases c1 : p.2.1 = 0
  · by_cases c2 : q.2.1 = 0
    · exact ⟨fun _ => c2, fun _ => c1⟩
    · rw [if_pos c1, if_neg c2] at key; exact absurd key (by decide)
  · by_cases c2 : q.2.1 = 0
    · rw [if_neg c1, if_pos c2] at key; exact absurd key (by decide)
    · exact ⟨fun q => absurd q c1, fun q => absurd q c2⟩
theorem zz_V {d : Nat} {M : am_M → am_M} (hM : ∀ b u, M (mx b u) = mx b (M u)) {s t : am_M} {p q : Nat × am_M} {ls lt : Int32 × am_M} (g : gq s t) (ws : gq p.2 s) (wt : gq q.2 t) (as : (p.1 = 0 → ls = (0, p.2)) ∧ (¬ p.1 = 0 → ¬ ls.1 = 0 ∧ ls.2 = p.2)) (at' : (q.1 = 0 → lt = (0, q.2)) ∧ (¬ q.1 = 0 → ¬ lt.1 = 0 ∧ lt.2 = q.2)) (os : pu_V (pu_R d) ls.1 (M ls.2)) (ot : pu_V (pu_R d) lt.1 (M lt.2)) : zV d (hgV p (M ls.2)) (hgV q (M lt.2)) := by
  have gs : gq ls.2 s := by
    by_cases h : p.1 = 0
    · rw [as.1 h]; exact ws
    · rw [(as.2 h).2]; exact ws
  have gt : gq lt.2 t := by
    by_cases h : q.1 = 0
    · rw [at'.1 h]; exact wt
    · rw [(at'.2 h).2]; exact wt
  have gg : gq ls.2 lt.2 := gq_tr gs (gq_tr g (gq_sy gt))
  obtain ⟨e2, e3⟩ := zz_MV hM gg
  obtain ⟨-, f3⟩ := zz_MV hM (gq_rf (s := lt.2))
  obtain ⟨o1, o3⟩ := os
  obtain ⟨t1, t3⟩ := ot
  have kk : ls.1 = lt.1 := by
    rw [← o1, ← t1]
    show M ls.2 207 0 = M lt.2 207 0
    rw [e2 207 (by decide) (by decide)]
  have ki : p.1 = 0 ↔ q.1 = 0 := by
    constructor
    · intro h
      by_cases h2 : q.1 = 0
      · exact h2
      · exact absurd (by rw [← kk, as.1 h]) (at'.2 h2).1
    · intro h
      by_cases h2 : p.1 = 0
      · exact h2
      · exact absurd (by rw [kk, at'.1 h]) (as.2 h2).1
  refine ⟨ki, fun h => ?_⟩
  have h : p.1 = 0 := h
  have h' := ki.mp h
  have es := as.1 h
  have et := at'.1 h'
  have ms : (hgV p (M ls.2)).2 = M ls.2 := by
    show (if p.1 = 0 then lo p.2 (M ls.2) else p.2) = _
    rw [if_pos h]
    funext a
    by_cases h9 : a < 207
    · rw [lo_at h9, e3 a (by omega), es]
    · unfold lo; rw [if_neg h9]
  have mt : (hgV q (M lt.2)).2 = M lt.2 := by
    show (if q.1 = 0 then lo q.2 (M lt.2) else q.2) = _
    rw [if_pos h']
    funext a
    by_cases h9 : a < 207
    · rw [lo_at h9, f3 a (by omega), et]
    · unfold lo; rw [if_neg h9]
  rw [ms, mt]
  exact ⟨o3, t3, e2⟩
theorem la_addTable {s : am_M} : ((f_CB_addTable s).1 = 0 → (f_LA_addTable s) = (0, am_set (f_CB_addTable s).2.2 262 0 (f_CB_addTable s).2.1)) ∧ (¬ (f_CB_addTable s).1 = 0 → ¬ (f_LA_addTable s).1 = 0 ∧ (f_LA_addTable s).2 = (f_CB_addTable s).2.2) := by
  unfold f_LA_addTable
  refine ⟨fun h => ?_, fun h => ?_⟩
  · rw [if_pos h]
    rfl
  · rw [if_neg h]
    repeat' split
    all_goals exact ⟨by simp, rfl⟩
theorem zp_addTable {d : Nat} {s : am_M} (h : p_LA_addTable s) : zE (f_CB_addTable s).1 := by
  unfold p_LA_addTable at h
  obtain ⟨h2, -⟩ := h
  rcases h2 with e | e <;> simp [zE, e]
theorem zo_addTable {c d : Nat} (ho : op_addTable (pu_R c) (pu_R d)) {s t : am_M} (h : RR c s t) : zE (f_CB_addTable s).1 ∧ zE (f_CB_addTable t).1 ∧ zI d (h_CB_addTable s) (h_CB_addTable t) ∧ n9 (f_CB_addTable s) := by
  obtain ⟨ls, os, os9⟩ := ho s h.1
  obtain ⟨lt, ot, -⟩ := ho t h.2.1
  have es := zp_addTable (d := d) ls
  have et := zp_addTable (d := d) lt
  exact ⟨es, et, zz_I (d := d) (p := (f_CB_addTable s)) (q := (f_CB_addTable t)) (ls := (f_LA_addTable s)) (lt := (f_LA_addTable t)) (M := fun m => f_MO_addTable m) (fun b u => xl_MO_addTable u) h.2.2 (fun a h1 _ => wl_CB_addTable h1) (fun a h1 _ => wl_CB_addTable h1) la_addTable la_addTable os ot, os9⟩
theorem la_addNumber {s : am_M} {a1 a2 a3 : Int32} : ((f_CB_addNumber s a1 a2 a3).1 = 0 → (f_LA_addNumber s a1 a2 a3) = (0, am_set (f_CB_addNumber s a1 a2 a3).2.2 262 0 (f_CB_addNumber s a1 a2 a3).2.1)) ∧ (¬ (f_CB_addNumber s a1 a2 a3).1 = 0 → ¬ (f_LA_addNumber s a1 a2 a3).1 = 0 ∧ (f_LA_addNumber s a1 a2 a3).2 = (f_CB_addNumber s a1 a2 a3).2.2) := by
  unfold f_LA_addNumber
  refine ⟨fun h => ?_, fun h => ?_⟩
  · rw [if_pos h]
    rfl
  · rw [if_neg h]
    repeat' split
    all_goals exact ⟨by simp, rfl⟩
theorem zp_addNumber {d : Nat} {s : am_M} {a1 a2 a3 : Int32} (h : p_LA_addNumber s a1 a2 a3) : p_CB_addNumber s a1 a2 a3 ∧ zE (f_CB_addNumber s a1 a2 a3).1 := by
  unfold p_LA_addNumber at h
  obtain ⟨h1, h2, -⟩ := h
  exact ⟨h1, by rcases h2 with e | e | e | e <;> simp [zE, e]⟩
theorem zo_addNumber {c d : Nat} (ho : op_addNumber (pu_R c) (pu_R d)) {s t : am_M} {a1 a2 a3 : Int32} (h : RR c s t) : (p_CB_addNumber s a1 a2 a3 ∧ p_CB_addNumber t a1 a2 a3) ∧ zE (f_CB_addNumber s a1 a2 a3).1 ∧ zE (f_CB_addNumber t a1 a2 a3).1 ∧ zI d (h_CB_addNumber s a1 a2 a3) (h_CB_addNumber t a1 a2 a3) ∧ n9 (f_CB_addNumber s a1 a2 a3) := by
  obtain ⟨ls, -, os, os9⟩ := ho s a1 a2 a3 h.1
  obtain ⟨lt, -, ot, -⟩ := ho t a1 a2 a3 h.2.1
  obtain ⟨ps, es⟩ := zp_addNumber (d := d) ls
  obtain ⟨pt, et⟩ := zp_addNumber (d := d) lt
  exact ⟨⟨ps, pt⟩, es, et, zz_I (d := d) (p := (f_CB_addNumber s a1 a2 a3)) (q := (f_CB_addNumber t a1 a2 a3)) (ls := (f_LA_addNumber s a1 a2 a3)) (lt := (f_LA_addNumber t a1 a2 a3)) (M := fun m => f_MO_addNumber m a1 a2 a3) (fun b u => xl_MO_addNumber u a1 a2 a3) h.2.2 (fun a h1 _ => wl_CB_addNumber h1 ps) (fun a h1 _ => wl_CB_addNumber h1 pt) la_addNumber la_addNumber os ot, os9⟩
theorem la_addLink {s : am_M} {a1 a2 a3 : Int32} : ((f_CB_addLink s a1 a2 a3).1 = 0 → (f_LA_addLink s a1 a2 a3) = (0, am_set (f_CB_addLink s a1 a2 a3).2.2 262 0 (f_CB_addLink s a1 a2 a3).2.1)) ∧ (¬ (f_CB_addLink s a1 a2 a3).1 = 0 → ¬ (f_LA_addLink s a1 a2 a3).1 = 0 ∧ (f_LA_addLink s a1 a2 a3).2 = (f_CB_addLink s a1 a2 a3).2.2) := by
  unfold f_LA_addLink
  refine ⟨fun h => ?_, fun h => ?_⟩
  · rw [if_pos h]
    rfl
  · rw [if_neg h]
    repeat' split
    all_goals exact ⟨by simp, rfl⟩
theorem zp_addLink {d : Nat} {s : am_M} {a1 a2 a3 : Int32} (h : p_LA_addLink s a1 a2 a3) : p_CB_addLink s a1 a2 a3 ∧ zE (f_CB_addLink s a1 a2 a3).1 := by
  unfold p_LA_addLink at h
  obtain ⟨h1, h2, -⟩ := h
  exact ⟨h1, by rcases h2 with e | e | e | e <;> simp [zE, e]⟩
theorem zo_addLink {c d : Nat} (ho : op_addLink (pu_R c) (pu_R d)) {s t : am_M} {a1 a2 a3 : Int32} (h : RR c s t) : (p_CB_addLink s a1 a2 a3 ∧ p_CB_addLink t a1 a2 a3) ∧ zE (f_CB_addLink s a1 a2 a3).1 ∧ zE (f_CB_addLink t a1 a2 a3).1 ∧ zI d (h_CB_addLink s a1 a2 a3) (h_CB_addLink t a1 a2 a3) ∧ n9 (f_CB_addLink s a1 a2 a3) := by
  obtain ⟨ls, -, os, os9⟩ := ho s a1 a2 a3 h.1
  obtain ⟨lt, -, ot, -⟩ := ho t a1 a2 a3 h.2.1
  obtain ⟨ps, es⟩ := zp_addLink (d := d) ls
  obtain ⟨pt, et⟩ := zp_addLink (d := d) lt
  exact ⟨⟨ps, pt⟩, es, et, zz_I (d := d) (p := (f_CB_addLink s a1 a2 a3)) (q := (f_CB_addLink t a1 a2 a3)) (ls := (f_LA_addLink s a1 a2 a3)) (lt := (f_LA_addLink t a1 a2 a3)) (M := fun m => f_MO_addLink m a1 a2 a3) (fun b u => xl_MO_addLink u a1 a2 a3) h.2.2 (fun a h1 _ => wl_CB_addLink h1 ps) (fun a h1 _ => wl_CB_addLink h1 pt) la_addLink la_addLink os ot, os9⟩
theorem la_addReckoned {s : am_M} {a1 a2 a3 a4 a5 : Int32} : ((f_CB_addReckoned s a1 a2 a3 a4 a5).1 = 0 → (f_LA_addReckoned s a1 a2 a3 a4 a5) = (0, am_set (f_CB_addReckoned s a1 a2 a3 a4 a5).2.2 262 0 (f_CB_addReckoned s a1 a2 a3 a4 a5).2.1)) ∧ (¬ (f_CB_addReckoned s a1 a2 a3 a4 a5).1 = 0 → ¬ (f_LA_addReckoned s a1 a2 a3 a4 a5).1 = 0 ∧ (f_LA_addReckoned s a1 a2 a3 a4 a5).2 = (f_CB_addReckoned s a1 a2 a3 a4 a5).2.2) := by
  unfold f_LA_addReckoned
  refine ⟨fun h => ?_, fun h => ?_⟩
  · rw [if_pos h]
    rfl
  · rw [if_neg h]
    repeat' split
    all_goals exact ⟨by simp, rfl⟩
theorem zp_addReckoned {d : Nat} {s : am_M} {a1 a2 a3 a4 a5 : Int32} (h : p_LA_addReckoned s a1 a2 a3 a4 a5) : p_CB_addReckoned s a1 a2 a3 a4 a5 ∧ zE (f_CB_addReckoned s a1 a2 a3 a4 a5).1 := by
  unfold p_LA_addReckoned at h
  obtain ⟨h1, h2, -⟩ := h
  exact ⟨h1, by rcases h2 with e | e | e | e <;> simp [zE, e]⟩
theorem zo_addReckoned {c d : Nat} (ho : op_addReckoned (pu_R c) (pu_R d)) {s t : am_M} {a1 a2 a3 a4 a5 : Int32} (h : RR c s t) : (p_CB_addReckoned s a1 a2 a3 a4 a5 ∧ p_CB_addReckoned t a1 a2 a3 a4 a5) ∧ zE (f_CB_addReckoned s a1 a2 a3 a4 a5).1 ∧ zE (f_CB_addReckoned t a1 a2 a3 a4 a5).1 ∧ zI d (h_CB_addReckoned s a1 a2 a3 a4 a5) (h_CB_addReckoned t a1 a2 a3 a4 a5) ∧ n9 (f_CB_addReckoned s a1 a2 a3 a4 a5) := by
  obtain ⟨ls, -, os, os9⟩ := ho s a1 a2 a3 a4 a5 h.1
  obtain ⟨lt, -, ot, -⟩ := ho t a1 a2 a3 a4 a5 h.2.1
  obtain ⟨ps, es⟩ := zp_addReckoned (d := d) ls
  obtain ⟨pt, et⟩ := zp_addReckoned (d := d) lt
  exact ⟨⟨ps, pt⟩, es, et, zz_I (d := d) (p := (f_CB_addReckoned s a1 a2 a3 a4 a5)) (q := (f_CB_addReckoned t a1 a2 a3 a4 a5)) (ls := (f_LA_addReckoned s a1 a2 a3 a4 a5)) (lt := (f_LA_addReckoned t a1 a2 a3 a4 a5)) (M := fun m => f_MO_addReckoned m a1 a2 a3 a4 a5) (fun b u => xl_MO_addReckoned u a1 a2 a3 a4 a5) h.2.2 (fun a h1 _ => wl_CB_addReckoned h1 ps) (fun a h1 _ => wl_CB_addReckoned h1 pt) la_addReckoned la_addReckoned os ot, os9⟩
theorem la_reckonAnew {s : am_M} {a1 a2 a3 a4 a5 a6 : Int32} : ((f_CB_reckonAnew s a1 a2 a3 a4 a5 a6).1 = 0 → (f_LA_reckonAnew s a1 a2 a3 a4 a5 a6) = (0, am_set (f_CB_reckonAnew s a1 a2 a3 a4 a5 a6).2.2 262 0 (if (f_CB_reckonAnew s a1 a2 a3 a4 a5 a6).2.1 = 0 then 0 else 1))) ∧ (¬ (f_CB_reckonAnew s a1 a2 a3 a4 a5 a6).1 = 0 → ¬ (f_LA_reckonAnew s a1 a2 a3 a4 a5 a6).1 = 0 ∧ (f_LA_reckonAnew s a1 a2 a3 a4 a5 a6).2 = (f_CB_reckonAnew s a1 a2 a3 a4 a5 a6).2.2) := by
  unfold f_LA_reckonAnew
  refine ⟨fun h => ?_, fun h => ?_⟩
  · rw [if_pos h]
    by_cases hb : (f_CB_reckonAnew s a1 a2 a3 a4 a5 a6).2.1 = 0
    · rw [if_pos hb, if_pos hb]; rfl
    · rw [if_neg hb, if_neg hb]; rfl
  · rw [if_neg h]
    repeat' split
    all_goals exact ⟨by simp, rfl⟩
theorem zp_reckonAnew {d : Nat} {s : am_M} {a1 a2 a3 a4 a5 a6 : Int32} (h : p_LA_reckonAnew s a1 a2 a3 a4 a5 a6) : p_CB_reckonAnew s a1 a2 a3 a4 a5 a6 ∧ zE (f_CB_reckonAnew s a1 a2 a3 a4 a5 a6).1 := by
  unfold p_LA_reckonAnew at h
  obtain ⟨h1, h2, -⟩ := h
  exact ⟨h1, by rcases h2 with e | e | e <;> simp [zE, e]⟩
theorem zo_reckonAnew {c d : Nat} (ho : op_reckonAnew (pu_R c) (pu_R d)) {s t : am_M} {a1 a2 a3 a4 a5 a6 : Int32} (h : RR c s t) : (p_CB_reckonAnew s a1 a2 a3 a4 a5 a6 ∧ p_CB_reckonAnew t a1 a2 a3 a4 a5 a6) ∧ zE (f_CB_reckonAnew s a1 a2 a3 a4 a5 a6).1 ∧ zE (f_CB_reckonAnew t a1 a2 a3 a4 a5 a6).1 ∧ zB d (h_CB_reckonAnew s a1 a2 a3 a4 a5 a6) (h_CB_reckonAnew t a1 a2 a3 a4 a5 a6) := by
  obtain ⟨ls, -, os⟩ := ho s a1 a2 a3 a4 a5 a6 h.1
  obtain ⟨lt, -, ot⟩ := ho t a1 a2 a3 a4 a5 a6 h.2.1
  obtain ⟨ps, es⟩ := zp_reckonAnew (d := d) ls
  obtain ⟨pt, et⟩ := zp_reckonAnew (d := d) lt
  exact ⟨⟨ps, pt⟩, es, et, zz_B (d := d) (p := (f_CB_reckonAnew s a1 a2 a3 a4 a5 a6)) (q := (f_CB_reckonAnew t a1 a2 a3 a4 a5 a6)) (ls := (f_LA_reckonAnew s a1 a2 a3 a4 a5 a6)) (lt := (f_LA_reckonAnew t a1 a2 a3 a4 a5 a6)) (M := fun m => f_MO_reckonAnew m a1 a2 a3 a4 a5 a6) (fun b u => xl_MO_reckonAnew u a1 a2 a3 a4 a5 a6) h.2.2 (fun a h1 _ => wl_CB_reckonAnew h1 ps) (fun a h1 _ => wl_CB_reckonAnew h1 pt) la_reckonAnew la_reckonAnew os ot⟩
theorem la_need {s : am_M} {a1 a2 a3 : Int32} : ((f_CB_need s a1 a2 a3).1 = 0 → (f_LA_need s a1 a2 a3) = (0, am_set (f_CB_need s a1 a2 a3).2.2 262 0 (if (f_CB_need s a1 a2 a3).2.1 = 0 then 0 else 1))) ∧ (¬ (f_CB_need s a1 a2 a3).1 = 0 → ¬ (f_LA_need s a1 a2 a3).1 = 0 ∧ (f_LA_need s a1 a2 a3).2 = (f_CB_need s a1 a2 a3).2.2) := by
  unfold f_LA_need
  refine ⟨fun h => ?_, fun h => ?_⟩
  · rw [if_pos h]
    by_cases hb : (f_CB_need s a1 a2 a3).2.1 = 0
    · rw [if_pos hb, if_pos hb]; rfl
    · rw [if_neg hb, if_neg hb]; rfl
  · rw [if_neg h]
    repeat' split
    all_goals exact ⟨by simp, rfl⟩
theorem zp_need {d : Nat} {s : am_M} {a1 a2 a3 : Int32} (h : p_LA_need s a1 a2 a3) : p_CB_need s a1 a2 a3 ∧ zE (f_CB_need s a1 a2 a3).1 := by
  unfold p_LA_need at h
  obtain ⟨h1, h2, -⟩ := h
  exact ⟨h1, by rcases h2 with e | e | e <;> simp [zE, e]⟩
theorem zo_need {c d : Nat} (ho : op_need (pu_R c) (pu_R d)) {s t : am_M} {a1 a2 a3 : Int32} (h : RR c s t) (e : (a3 = 0 ∨ a3 = 1)) : (p_CB_need s a1 a2 a3 ∧ p_CB_need t a1 a2 a3) ∧ zE (f_CB_need s a1 a2 a3).1 ∧ zE (f_CB_need t a1 a2 a3).1 ∧ zB d (h_CB_need s a1 a2 a3) (h_CB_need t a1 a2 a3) := by
  obtain ⟨ls, -, os⟩ := ho s a1 a2 a3 h.1 e
  obtain ⟨lt, -, ot⟩ := ho t a1 a2 a3 h.2.1 e
  obtain ⟨ps, es⟩ := zp_need (d := d) ls
  obtain ⟨pt, et⟩ := zp_need (d := d) lt
  exact ⟨⟨ps, pt⟩, es, et, zz_B (d := d) (p := (f_CB_need s a1 a2 a3)) (q := (f_CB_need t a1 a2 a3)) (ls := (f_LA_need s a1 a2 a3)) (lt := (f_LA_need t a1 a2 a3)) (M := fun m => f_MO_need m a1 a2 a3) (fun b u => xl_MO_need u a1 a2 a3) h.2.2 (fun a h1 _ => wl_CB_need h1 ps) (fun a h1 _ => wl_CB_need h1 pt) la_need la_need os ot⟩
theorem la_single {s : am_M} {a1 a2 a3 : Int32} : ((f_CB_single s a1 a2 a3).1 = 0 → (f_LA_single s a1 a2 a3) = (0, am_set (f_CB_single s a1 a2 a3).2.2 262 0 (if (f_CB_single s a1 a2 a3).2.1 = 0 then 0 else 1))) ∧ (¬ (f_CB_single s a1 a2 a3).1 = 0 → ¬ (f_LA_single s a1 a2 a3).1 = 0 ∧ (f_LA_single s a1 a2 a3).2 = (f_CB_single s a1 a2 a3).2.2) := by
  unfold f_LA_single
  refine ⟨fun h => ?_, fun h => ?_⟩
  · rw [if_pos h]
    by_cases hb : (f_CB_single s a1 a2 a3).2.1 = 0
    · rw [if_pos hb, if_pos hb]; rfl
    · rw [if_neg hb, if_neg hb]; rfl
  · rw [if_neg h]
    repeat' split
    all_goals exact ⟨by simp, rfl⟩
theorem zp_single {d : Nat} {s : am_M} {a1 a2 a3 : Int32} (h : p_LA_single s a1 a2 a3) : p_CB_single s a1 a2 a3 ∧ zE (f_CB_single s a1 a2 a3).1 := by
  unfold p_LA_single at h
  obtain ⟨h1, h2, -⟩ := h
  exact ⟨h1, by rcases h2 with e | e | e <;> simp [zE, e]⟩
theorem zo_single {c d : Nat} (ho : op_single (pu_R c) (pu_R d)) {s t : am_M} {a1 a2 a3 : Int32} (h : RR c s t) (e : (a3 = 0 ∨ a3 = 1)) : (p_CB_single s a1 a2 a3 ∧ p_CB_single t a1 a2 a3) ∧ zE (f_CB_single s a1 a2 a3).1 ∧ zE (f_CB_single t a1 a2 a3).1 ∧ zB d (h_CB_single s a1 a2 a3) (h_CB_single t a1 a2 a3) := by
  obtain ⟨ls, -, os⟩ := ho s a1 a2 a3 h.1 e
  obtain ⟨lt, -, ot⟩ := ho t a1 a2 a3 h.2.1 e
  obtain ⟨ps, es⟩ := zp_single (d := d) ls
  obtain ⟨pt, et⟩ := zp_single (d := d) lt
  exact ⟨⟨ps, pt⟩, es, et, zz_B (d := d) (p := (f_CB_single s a1 a2 a3)) (q := (f_CB_single t a1 a2 a3)) (ls := (f_LA_single s a1 a2 a3)) (lt := (f_LA_single t a1 a2 a3)) (M := fun m => f_MO_single m a1 a2 a3) (fun b u => xl_MO_single u a1 a2 a3) h.2.2 (fun a h1 _ => wl_CB_single h1 ps) (fun a h1 _ => wl_CB_single h1 pt) la_single la_single os ot⟩
theorem la_narrow {s : am_M} {a1 a2 a3 a4 : Int32} : ((f_CB_narrow s a1 a2 a3 a4).1 = 0 → (f_LA_narrow s a1 a2 a3 a4) = (0, am_set (f_CB_narrow s a1 a2 a3 a4).2.2 262 0 (if (f_CB_narrow s a1 a2 a3 a4).2.1 = 0 then 0 else 1))) ∧ (¬ (f_CB_narrow s a1 a2 a3 a4).1 = 0 → ¬ (f_LA_narrow s a1 a2 a3 a4).1 = 0 ∧ (f_LA_narrow s a1 a2 a3 a4).2 = (f_CB_narrow s a1 a2 a3 a4).2.2) := by
  unfold f_LA_narrow
  refine ⟨fun h => ?_, fun h => ?_⟩
  · rw [if_pos h]
    by_cases hb : (f_CB_narrow s a1 a2 a3 a4).2.1 = 0
    · rw [if_pos hb, if_pos hb]; rfl
    · rw [if_neg hb, if_neg hb]; rfl
  · rw [if_neg h]
    repeat' split
    all_goals exact ⟨by simp, rfl⟩
theorem zp_narrow {d : Nat} {s : am_M} {a1 a2 a3 a4 : Int32} (h : p_LA_narrow s a1 a2 a3 a4) : p_CB_narrow s a1 a2 a3 a4 ∧ zE (f_CB_narrow s a1 a2 a3 a4).1 := by
  unfold p_LA_narrow at h
  obtain ⟨h1, h2, -⟩ := h
  exact ⟨h1, by rcases h2 with e | e | e <;> simp [zE, e]⟩
theorem zo_narrow {c d : Nat} (ho : op_narrow (pu_R c) (pu_R d)) {s t : am_M} {a1 a2 a3 a4 : Int32} (h : RR c s t) : (p_CB_narrow s a1 a2 a3 a4 ∧ p_CB_narrow t a1 a2 a3 a4) ∧ zE (f_CB_narrow s a1 a2 a3 a4).1 ∧ zE (f_CB_narrow t a1 a2 a3 a4).1 ∧ zB d (h_CB_narrow s a1 a2 a3 a4) (h_CB_narrow t a1 a2 a3 a4) := by
  obtain ⟨ls, -, os⟩ := ho s a1 a2 a3 a4 h.1
  obtain ⟨lt, -, ot⟩ := ho t a1 a2 a3 a4 h.2.1
  obtain ⟨ps, es⟩ := zp_narrow (d := d) ls
  obtain ⟨pt, et⟩ := zp_narrow (d := d) lt
  exact ⟨⟨ps, pt⟩, es, et, zz_B (d := d) (p := (f_CB_narrow s a1 a2 a3 a4)) (q := (f_CB_narrow t a1 a2 a3 a4)) (ls := (f_LA_narrow s a1 a2 a3 a4)) (lt := (f_LA_narrow t a1 a2 a3 a4)) (M := fun m => f_MO_narrow m a1 a2 a3 a4) (fun b u => xl_MO_narrow u a1 a2 a3 a4) h.2.2 (fun a h1 _ => wl_CB_narrow h1 ps) (fun a h1 _ => wl_CB_narrow h1 pt) la_narrow la_narrow os ot⟩
theorem la_drop {s : am_M} {a1 a2 : Int32} : ((f_CB_drop s a1 a2).1 = 0 → (f_LA_drop s a1 a2) = (0, am_set (f_CB_drop s a1 a2).2.2 262 0 (if (f_CB_drop s a1 a2).2.1 = 0 then 0 else 1))) ∧ (¬ (f_CB_drop s a1 a2).1 = 0 → ¬ (f_LA_drop s a1 a2).1 = 0 ∧ (f_LA_drop s a1 a2).2 = (f_CB_drop s a1 a2).2.2) := by
  unfold f_LA_drop
  refine ⟨fun h => ?_, fun h => ?_⟩
  · rw [if_pos h]
    by_cases hb : (f_CB_drop s a1 a2).2.1 = 0
    · rw [if_pos hb, if_pos hb]; rfl
    · rw [if_neg hb, if_neg hb]; rfl
  · rw [if_neg h]
    repeat' split
    all_goals exact ⟨by simp, rfl⟩
theorem zp_drop {d : Nat} {s : am_M} {a1 a2 : Int32} (h : p_LA_drop s a1 a2) : p_CB_drop s a1 a2 ∧ zE (f_CB_drop s a1 a2).1 := by
  unfold p_LA_drop at h
  obtain ⟨h1, h2, -⟩ := h
  exact ⟨h1, by rcases h2 with e | e | e <;> simp [zE, e]⟩
theorem zo_drop {c d : Nat} (ho : op_drop (pu_R c) (pu_R d)) {s t : am_M} {a1 a2 : Int32} (h : RR c s t) : (p_CB_drop s a1 a2 ∧ p_CB_drop t a1 a2) ∧ zE (f_CB_drop s a1 a2).1 ∧ zE (f_CB_drop t a1 a2).1 ∧ zB d (h_CB_drop s a1 a2) (h_CB_drop t a1 a2) := by
  obtain ⟨ls, -, os⟩ := ho s a1 a2 h.1
  obtain ⟨lt, -, ot⟩ := ho t a1 a2 h.2.1
  obtain ⟨ps, es⟩ := zp_drop (d := d) ls
  obtain ⟨pt, et⟩ := zp_drop (d := d) lt
  exact ⟨⟨ps, pt⟩, es, et, zz_B (d := d) (p := (f_CB_drop s a1 a2)) (q := (f_CB_drop t a1 a2)) (ls := (f_LA_drop s a1 a2)) (lt := (f_LA_drop t a1 a2)) (M := fun m => f_MO_drop m a1 a2) (fun b u => xl_MO_drop u a1 a2) h.2.2 (fun a h1 _ => wl_CB_drop h1 ps) (fun a h1 _ => wl_CB_drop h1 pt) la_drop la_drop os ot⟩
theorem la_setRemoval {s : am_M} {a1 a2 a3 : Int32} : ((f_CB_setRemoval s a1 a2 a3).1 = 0 → (f_LA_setRemoval s a1 a2 a3) = (0, am_set (f_CB_setRemoval s a1 a2 a3).2.2 262 0 (f_CB_setRemoval s a1 a2 a3).2.1)) ∧ (¬ (f_CB_setRemoval s a1 a2 a3).1 = 0 → ¬ (f_LA_setRemoval s a1 a2 a3).1 = 0 ∧ (f_LA_setRemoval s a1 a2 a3).2 = (f_CB_setRemoval s a1 a2 a3).2.2) := by
  unfold f_LA_setRemoval
  refine ⟨fun h => ?_, fun h => ?_⟩
  · rw [if_pos h]
    rfl
  · rw [if_neg h]
    repeat' split
    all_goals exact ⟨by simp, rfl⟩
theorem zp_setRemoval {d : Nat} {s : am_M} {a1 a2 a3 : Int32} (h : p_LA_setRemoval s a1 a2 a3) : p_CB_setRemoval s a1 a2 a3 ∧ zE (f_CB_setRemoval s a1 a2 a3).1 := by
  unfold p_LA_setRemoval at h
  obtain ⟨h1, h2, -⟩ := h
  exact ⟨h1, by rcases h2 with e | e | e <;> simp [zE, e]⟩
theorem zo_setRemoval {c d : Nat} (ho : op_setRemoval (pu_R c) (pu_R d)) {s t : am_M} {a1 a2 a3 : Int32} (h : RR c s t) : (p_CB_setRemoval s a1 a2 a3 ∧ p_CB_setRemoval t a1 a2 a3) ∧ zE (f_CB_setRemoval s a1 a2 a3).1 ∧ zE (f_CB_setRemoval t a1 a2 a3).1 ∧ zI d (h_CB_setRemoval s a1 a2 a3) (h_CB_setRemoval t a1 a2 a3) ∧ n9 (f_CB_setRemoval s a1 a2 a3) := by
  obtain ⟨ls, -, os, os9⟩ := ho s a1 a2 a3 h.1
  obtain ⟨lt, -, ot, -⟩ := ho t a1 a2 a3 h.2.1
  obtain ⟨ps, es⟩ := zp_setRemoval (d := d) ls
  obtain ⟨pt, et⟩ := zp_setRemoval (d := d) lt
  exact ⟨⟨ps, pt⟩, es, et, zz_I (d := d) (p := (f_CB_setRemoval s a1 a2 a3)) (q := (f_CB_setRemoval t a1 a2 a3)) (ls := (f_LA_setRemoval s a1 a2 a3)) (lt := (f_LA_setRemoval t a1 a2 a3)) (M := fun m => f_MO_setRemoval m a1 a2 a3) (fun b u => xl_MO_setRemoval u a1 a2 a3) h.2.2 (fun a h1 _ => wl_CB_setRemoval h1 ps) (fun a h1 _ => wl_CB_setRemoval h1 pt) la_setRemoval la_setRemoval os ot, os9⟩
theorem la_addRule {s : am_M} {a1 a2 a3 a4 a5 : Int32} : ((f_CB_addRule s a1 a2 a3 a4 a5).1 = 0 → (f_LA_addRule s a1 a2 a3 a4 a5) = (0, am_set (f_CB_addRule s a1 a2 a3 a4 a5).2.2 262 0 (f_CB_addRule s a1 a2 a3 a4 a5).2.1)) ∧ (¬ (f_CB_addRule s a1 a2 a3 a4 a5).1 = 0 → ¬ (f_LA_addRule s a1 a2 a3 a4 a5).1 = 0 ∧ (f_LA_addRule s a1 a2 a3 a4 a5).2 = (f_CB_addRule s a1 a2 a3 a4 a5).2.2) := by
  unfold f_LA_addRule
  refine ⟨fun h => ?_, fun h => ?_⟩
  · rw [if_pos h]
    rfl
  · rw [if_neg h]
    repeat' split
    all_goals exact ⟨by simp, rfl⟩
theorem zp_addRule {d : Nat} {s : am_M} {a1 a2 a3 a4 a5 : Int32} (h : p_LA_addRule s a1 a2 a3 a4 a5) : p_CB_addRule s a1 a2 a3 a4 a5 ∧ zE (f_CB_addRule s a1 a2 a3 a4 a5).1 := by
  unfold p_LA_addRule at h
  obtain ⟨h1, h2, -⟩ := h
  exact ⟨h1, by rcases h2 with e | e | e | e <;> simp [zE, e]⟩
theorem zo_addRule {c d : Nat} (ho : op_addRule (pu_R c) (pu_R d)) {s t : am_M} {a1 a2 a3 a4 a5 : Int32} (h : RR c s t) : (p_CB_addRule s a1 a2 a3 a4 a5 ∧ p_CB_addRule t a1 a2 a3 a4 a5) ∧ zE (f_CB_addRule s a1 a2 a3 a4 a5).1 ∧ zE (f_CB_addRule t a1 a2 a3 a4 a5).1 ∧ zI d (h_CB_addRule s a1 a2 a3 a4 a5) (h_CB_addRule t a1 a2 a3 a4 a5) ∧ n9 (f_CB_addRule s a1 a2 a3 a4 a5) := by
  obtain ⟨ls, -, os, os9⟩ := ho s a1 a2 a3 a4 a5 h.1
  obtain ⟨lt, -, ot, -⟩ := ho t a1 a2 a3 a4 a5 h.2.1
  obtain ⟨ps, es⟩ := zp_addRule (d := d) ls
  obtain ⟨pt, et⟩ := zp_addRule (d := d) lt
  exact ⟨⟨ps, pt⟩, es, et, zz_I (d := d) (p := (f_CB_addRule s a1 a2 a3 a4 a5)) (q := (f_CB_addRule t a1 a2 a3 a4 a5)) (ls := (f_LA_addRule s a1 a2 a3 a4 a5)) (lt := (f_LA_addRule t a1 a2 a3 a4 a5)) (M := fun m => f_MO_addRule m a1 a2 a3 a4 a5) (fun b u => xl_MO_addRule u a1 a2 a3 a4 a5) h.2.2 (fun a h1 _ => wl_CB_addRule h1 ps) (fun a h1 _ => wl_CB_addRule h1 pt) la_addRule la_addRule os ot, os9⟩
theorem la_type {s : am_M} {a1 a2 : Int32} : ((f_CB_type s a1 a2).1 = 0 → (f_LA_type s a1 a2) = (0, am_set (f_CB_type s a1 a2).2.2 262 0 (f_CB_type s a1 a2).2.1)) ∧ (¬ (f_CB_type s a1 a2).1 = 0 → ¬ (f_LA_type s a1 a2).1 = 0 ∧ (f_LA_type s a1 a2).2 = (f_CB_type s a1 a2).2.2) := by
  unfold f_LA_type
  refine ⟨fun h => ?_, fun h => ?_⟩
  · rw [if_pos h]
    rfl
  · rw [if_neg h]
    repeat' split
    all_goals exact ⟨by simp, rfl⟩
theorem zp_type {d : Nat} {s : am_M} {a1 a2 : Int32} (h : p_LA_type s a1 a2) : p_CB_type s a1 a2 ∧ zE (f_CB_type s a1 a2).1 := by
  unfold p_LA_type at h
  obtain ⟨h1, h2, -⟩ := h
  exact ⟨h1, by rcases h2 with e | e <;> simp [zE, e]⟩
theorem zo_type {c d : Nat} (ho : op_type (pu_R c) (pu_R d)) {s t : am_M} {a1 a2 : Int32} (h : RR c s t) : (p_CB_type s a1 a2 ∧ p_CB_type t a1 a2) ∧ zE (f_CB_type s a1 a2).1 ∧ zE (f_CB_type t a1 a2).1 ∧ zI d (h_CB_type s a1 a2) (h_CB_type t a1 a2) := by
  obtain ⟨ls, -, os⟩ := ho s a1 a2 h.1
  obtain ⟨lt, -, ot⟩ := ho t a1 a2 h.2.1
  obtain ⟨ps, es⟩ := zp_type (d := d) ls
  obtain ⟨pt, et⟩ := zp_type (d := d) lt
  exact ⟨⟨ps, pt⟩, es, et, zz_I (d := d) (p := (f_CB_type s a1 a2)) (q := (f_CB_type t a1 a2)) (ls := (f_LA_type s a1 a2)) (lt := (f_LA_type t a1 a2)) (M := fun m => f_MO_type m a1 a2) (fun b u => xl_MO_type u a1 a2) h.2.2 (fun a h1 _ => wl_CB_type h1 ps) (fun a h1 _ => wl_CB_type h1 pt) la_type la_type os ot⟩
theorem la_enter {s : am_M} {a1 : Int32} : ((f_CB_enter s a1).1 = 0 → (f_LA_enter s a1) = (0, am_set (f_CB_enter s a1).2.2 262 0 (f_CB_enter s a1).2.1)) ∧ (¬ (f_CB_enter s a1).1 = 0 → ¬ (f_LA_enter s a1).1 = 0 ∧ (f_LA_enter s a1).2 = (f_CB_enter s a1).2.2) := by
  unfold f_LA_enter
  refine ⟨fun h => ?_, fun h => ?_⟩
  · rw [if_pos h]
    rfl
  · rw [if_neg h]
    repeat' split
    all_goals exact ⟨by simp, rfl⟩
theorem zp_enter {d : Nat} {s : am_M} {a1 : Int32} (h : p_LA_enter s a1) : p_CB_enter s a1 ∧ zE (f_CB_enter s a1).1 := by
  unfold p_LA_enter at h
  obtain ⟨h1, h2, -⟩ := h
  exact ⟨h1, by rcases h2 with e | e | e <;> simp [zE, e]⟩
theorem zo_enter {c d : Nat} (ho : op_enter (pu_R c) (pu_R d)) {s t : am_M} {a1 : Int32} (h : RR c s t) : (p_CB_enter s a1 ∧ p_CB_enter t a1) ∧ zE (f_CB_enter s a1).1 ∧ zE (f_CB_enter t a1).1 ∧ zI d (h_CB_enter s a1) (h_CB_enter t a1) ∧ n9 (f_CB_enter s a1) := by
  obtain ⟨ls, -, os, os9⟩ := ho s a1 h.1
  obtain ⟨lt, -, ot, -⟩ := ho t a1 h.2.1
  obtain ⟨ps, es⟩ := zp_enter (d := d) ls
  obtain ⟨pt, et⟩ := zp_enter (d := d) lt
  exact ⟨⟨ps, pt⟩, es, et, zz_I (d := d) (p := (f_CB_enter s a1)) (q := (f_CB_enter t a1)) (ls := (f_LA_enter s a1)) (lt := (f_LA_enter t a1)) (M := fun m => f_MO_enter m a1) (fun b u => xl_MO_enter u a1) h.2.2 (fun a h1 _ => wl_CB_enter h1 ps) (fun a h1 _ => wl_CB_enter h1 pt) la_enter la_enter os ot, os9⟩
theorem la_put {s : am_M} {a1 a2 a3 a4 : Int32} : ((f_CB_put s a1 a2 a3 a4).1 = 0 → (f_LA_put s a1 a2 a3 a4) = (0, am_set (f_CB_put s a1 a2 a3 a4).2.2 262 0 (if (f_CB_put s a1 a2 a3 a4).2.1 = 0 then 0 else 1))) ∧ (¬ (f_CB_put s a1 a2 a3 a4).1 = 0 → ¬ (f_LA_put s a1 a2 a3 a4).1 = 0 ∧ (f_LA_put s a1 a2 a3 a4).2 = (f_CB_put s a1 a2 a3 a4).2.2) := by
  unfold f_LA_put
  refine ⟨fun h => ?_, fun h => ?_⟩
  · rw [if_pos h]
    by_cases hb : (f_CB_put s a1 a2 a3 a4).2.1 = 0
    · rw [if_pos hb, if_pos hb]; rfl
    · rw [if_neg hb, if_neg hb]; rfl
  · rw [if_neg h]
    repeat' split
    all_goals exact ⟨by simp, rfl⟩
theorem zp_put {d : Nat} {s : am_M} {a1 a2 a3 a4 : Int32} (h : p_LA_put s a1 a2 a3 a4) : p_CB_put s a1 a2 a3 a4 ∧ zE (f_CB_put s a1 a2 a3 a4).1 := by
  unfold p_LA_put at h
  obtain ⟨h1, h2, -⟩ := h
  exact ⟨h1, by rcases h2 with e | e | e <;> simp [zE, e]⟩
theorem zo_put {c d : Nat} (ho : op_put (pu_R c) (pu_R d)) {s t : am_M} {a1 a2 a3 a4 : Int32} (h : RR c s t) : (p_CB_put s a1 a2 a3 a4 ∧ p_CB_put t a1 a2 a3 a4) ∧ zE (f_CB_put s a1 a2 a3 a4).1 ∧ zE (f_CB_put t a1 a2 a3 a4).1 ∧ zB d (h_CB_put s a1 a2 a3 a4) (h_CB_put t a1 a2 a3 a4) := by
  obtain ⟨ls, -, os⟩ := ho s a1 a2 a3 a4 h.1
  obtain ⟨lt, -, ot⟩ := ho t a1 a2 a3 a4 h.2.1
  obtain ⟨ps, es⟩ := zp_put (d := d) ls
  obtain ⟨pt, et⟩ := zp_put (d := d) lt
  exact ⟨⟨ps, pt⟩, es, et, zz_B (d := d) (p := (f_CB_put s a1 a2 a3 a4)) (q := (f_CB_put t a1 a2 a3 a4)) (ls := (f_LA_put s a1 a2 a3 a4)) (lt := (f_LA_put t a1 a2 a3 a4)) (M := fun m => f_MO_put m a1 a2 a3 a4) (fun b u => xl_MO_put u a1 a2 a3 a4) h.2.2 (fun a h1 _ => wl_CB_put h1 ps) (fun a h1 _ => wl_CB_put h1 pt) la_put la_put os ot⟩
theorem la_remove {s : am_M} {a1 a2 : Int32} : ((f_CB_remove s a1 a2).1 = 0 → (f_LA_remove s a1 a2) = (0, am_set (f_CB_remove s a1 a2).2.2 262 0 (if (f_CB_remove s a1 a2).2.1 = 0 then 0 else 1))) ∧ (¬ (f_CB_remove s a1 a2).1 = 0 → ¬ (f_LA_remove s a1 a2).1 = 0 ∧ (f_LA_remove s a1 a2).2 = (f_CB_remove s a1 a2).2.2) := by
  unfold f_LA_remove
  refine ⟨fun h => ?_, fun h => ?_⟩
  · rw [if_pos h]
    by_cases hb : (f_CB_remove s a1 a2).2.1 = 0
    · rw [if_pos hb, if_pos hb]; rfl
    · rw [if_neg hb, if_neg hb]; rfl
  · rw [if_neg h]
    repeat' split
    all_goals exact ⟨by simp, rfl⟩
theorem zp_remove {d : Nat} {s : am_M} {a1 a2 : Int32} (h : p_LA_remove s a1 a2) : p_CB_remove s a1 a2 ∧ zE (f_CB_remove s a1 a2).1 := by
  unfold p_LA_remove at h
  obtain ⟨h1, h2, -⟩ := h
  exact ⟨h1, by rcases h2 with e | e <;> simp [zE, e]⟩
theorem zo_remove {c d : Nat} (ho : op_remove (pu_R c) (pu_R d)) {s t : am_M} {a1 a2 : Int32} (h : RR c s t) : (p_CB_remove s a1 a2 ∧ p_CB_remove t a1 a2) ∧ zE (f_CB_remove s a1 a2).1 ∧ zE (f_CB_remove t a1 a2).1 ∧ zB d (h_CB_remove s a1 a2) (h_CB_remove t a1 a2) := by
  obtain ⟨ls, -, os⟩ := ho s a1 a2 h.1
  obtain ⟨lt, -, ot⟩ := ho t a1 a2 h.2.1
  obtain ⟨ps, es⟩ := zp_remove (d := d) ls
  obtain ⟨pt, et⟩ := zp_remove (d := d) lt
  exact ⟨⟨ps, pt⟩, es, et, zz_B (d := d) (p := (f_CB_remove s a1 a2)) (q := (f_CB_remove t a1 a2)) (ls := (f_LA_remove s a1 a2)) (lt := (f_LA_remove t a1 a2)) (M := fun m => f_MO_remove m a1 a2) (fun b u => xl_MO_remove u a1 a2) h.2.2 (fun a h1 _ => wl_CB_remove h1 ps) (fun a h1 _ => wl_CB_remove h1 pt) la_remove la_remove os ot⟩
theorem la_openForm {s : am_M} {a1 a2 : Int32} : ((f_CB_openForm s a1 a2).1 = 0 → (f_LA_openForm s a1 a2) = (0, (f_CB_openForm s a1 a2).2)) ∧ (¬ (f_CB_openForm s a1 a2).1 = 0 → ¬ (f_LA_openForm s a1 a2).1 = 0 ∧ (f_LA_openForm s a1 a2).2 = (f_CB_openForm s a1 a2).2) := by
  unfold f_LA_openForm
  refine ⟨fun h => ?_, fun h => ?_⟩
  · rw [if_pos h]
  · rw [if_neg h]
    repeat' split
    all_goals exact ⟨by simp, rfl⟩
theorem zp_openForm {d : Nat} {s : am_M} {a1 a2 : Int32} (h : p_LA_openForm s a1 a2) : p_CB_openForm s a1 a2 ∧ zE (f_CB_openForm s a1 a2).1 := by
  unfold p_LA_openForm at h
  obtain ⟨h1, h2, -⟩ := h
  exact ⟨h1, by rcases h2 with e | e <;> simp [zE, e]⟩
theorem zo_openForm {c d : Nat} (ho : op_openForm (pu_R c) (pu_R d)) {s t : am_M} {a1 a2 : Int32} (h : RR c s t) : (p_CB_openForm s a1 a2 ∧ p_CB_openForm t a1 a2) ∧ zE (f_CB_openForm s a1 a2).1 ∧ zE (f_CB_openForm t a1 a2).1 ∧ zV d (h_CB_openForm s a1 a2) (h_CB_openForm t a1 a2) := by
  obtain ⟨ls, -, os⟩ := ho s a1 a2 h.1
  obtain ⟨lt, -, ot⟩ := ho t a1 a2 h.2.1
  obtain ⟨ps, es⟩ := zp_openForm (d := d) ls
  obtain ⟨pt, et⟩ := zp_openForm (d := d) lt
  exact ⟨⟨ps, pt⟩, es, et, zz_V (d := d) (p := (f_CB_openForm s a1 a2)) (q := (f_CB_openForm t a1 a2)) (ls := (f_LA_openForm s a1 a2)) (lt := (f_LA_openForm t a1 a2)) (M := fun m => f_MO_openForm m a1 a2) (fun b u => xl_MO_openForm u a1 a2) h.2.2 (fun a h1 _ => wl_CB_openForm h1 ps) (fun a h1 _ => wl_CB_openForm h1 pt) la_openForm la_openForm os ot⟩
theorem la_enterInside {s : am_M} {a1 a2 : Int32} : ((f_CB_enterInside s a1 a2).1 = 0 → (f_LA_enterInside s a1 a2) = (0, am_set (f_CB_enterInside s a1 a2).2.2 262 0 (f_CB_enterInside s a1 a2).2.1)) ∧ (¬ (f_CB_enterInside s a1 a2).1 = 0 → ¬ (f_LA_enterInside s a1 a2).1 = 0 ∧ (f_LA_enterInside s a1 a2).2 = (f_CB_enterInside s a1 a2).2.2) := by
  unfold f_LA_enterInside
  refine ⟨fun h => ?_, fun h => ?_⟩
  · rw [if_pos h]
    rfl
  · rw [if_neg h]
    repeat' split
    all_goals exact ⟨by simp, rfl⟩
theorem zp_enterInside {d : Nat} {s : am_M} {a1 a2 : Int32} (h : p_LA_enterInside s a1 a2) : p_CB_enterInside s a1 a2 ∧ zE (f_CB_enterInside s a1 a2).1 := by
  unfold p_LA_enterInside at h
  obtain ⟨h1, h2, -⟩ := h
  exact ⟨h1, by rcases h2 with e | e | e | e <;> simp [zE, e]⟩
theorem zo_enterInside {c d : Nat} (ho : op_enterInside (pu_R c) (pu_R d)) {s t : am_M} {a1 a2 : Int32} (h : RR c s t) : (p_CB_enterInside s a1 a2 ∧ p_CB_enterInside t a1 a2) ∧ zE (f_CB_enterInside s a1 a2).1 ∧ zE (f_CB_enterInside t a1 a2).1 ∧ zI d (h_CB_enterInside s a1 a2) (h_CB_enterInside t a1 a2) ∧ n9 (f_CB_enterInside s a1 a2) := by
  obtain ⟨ls, -, os, os9⟩ := ho s a1 a2 h.1
  obtain ⟨lt, -, ot, -⟩ := ho t a1 a2 h.2.1
  obtain ⟨ps, es⟩ := zp_enterInside (d := d) ls
  obtain ⟨pt, et⟩ := zp_enterInside (d := d) lt
  exact ⟨⟨ps, pt⟩, es, et, zz_I (d := d) (p := (f_CB_enterInside s a1 a2)) (q := (f_CB_enterInside t a1 a2)) (ls := (f_LA_enterInside s a1 a2)) (lt := (f_LA_enterInside t a1 a2)) (M := fun m => f_MO_enterInside m a1 a2) (fun b u => xl_MO_enterInside u a1 a2) h.2.2 (fun a h1 _ => wl_CB_enterInside h1 ps) (fun a h1 _ => wl_CB_enterInside h1 pt) la_enterInside la_enterInside os ot, os9⟩
theorem la_choice {s : am_M} {a1 a2 a3 a4 : Int32} : ((f_CB_choice s a1 a2 a3 a4).1 = 0 → (f_LA_choice s a1 a2 a3 a4) = (0, am_set (f_CB_choice s a1 a2 a3 a4).2.2 262 0 (f_CB_choice s a1 a2 a3 a4).2.1)) ∧ (¬ (f_CB_choice s a1 a2 a3 a4).1 = 0 → ¬ (f_LA_choice s a1 a2 a3 a4).1 = 0 ∧ (f_LA_choice s a1 a2 a3 a4).2 = (f_CB_choice s a1 a2 a3 a4).2.2) := by
  unfold f_LA_choice
  refine ⟨fun h => ?_, fun h => ?_⟩
  · rw [if_pos h]
    rfl
  · rw [if_neg h]
    repeat' split
    all_goals exact ⟨by simp, rfl⟩
theorem zp_choice {d : Nat} {s : am_M} {a1 a2 a3 a4 : Int32} (h : p_LA_choice s a1 a2 a3 a4) : p_CB_choice s a1 a2 a3 a4 ∧ zE (f_CB_choice s a1 a2 a3 a4).1 := by
  unfold p_LA_choice at h
  obtain ⟨h1, h2, -⟩ := h
  exact ⟨h1, by rcases h2 with e | e | e <;> simp [zE, e]⟩
theorem zo_choice {c d : Nat} (ho : op_choice (pu_R c) (pu_R d)) {s t : am_M} {a1 a2 a3 a4 : Int32} (h : RR c s t) : (p_CB_choice s a1 a2 a3 a4 ∧ p_CB_choice t a1 a2 a3 a4) ∧ zE (f_CB_choice s a1 a2 a3 a4).1 ∧ zE (f_CB_choice t a1 a2 a3 a4).1 ∧ zI d (h_CB_choice s a1 a2 a3 a4) (h_CB_choice t a1 a2 a3 a4) := by
  obtain ⟨ls, -, os⟩ := ho s a1 a2 a3 a4 h.1
  obtain ⟨lt, -, ot⟩ := ho t a1 a2 a3 a4 h.2.1
  obtain ⟨ps, es⟩ := zp_choice (d := d) ls
  obtain ⟨pt, et⟩ := zp_choice (d := d) lt
  exact ⟨⟨ps, pt⟩, es, et, zz_I (d := d) (p := (f_CB_choice s a1 a2 a3 a4)) (q := (f_CB_choice t a1 a2 a3 a4)) (ls := (f_LA_choice s a1 a2 a3 a4)) (lt := (f_LA_choice t a1 a2 a3 a4)) (M := fun m => f_MO_choice m a1 a2 a3 a4) (fun b u => xl_MO_choice u a1 a2 a3 a4) h.2.2 (fun a h1 _ => wl_CB_choice h1 ps) (fun a h1 _ => wl_CB_choice h1 pt) la_choice la_choice os ot⟩
theorem la_ask {s : am_M} {a1 a2 : Int32} : ((f_CB_ask s a1 a2).1 = 0 → (f_LA_ask s a1 a2) = (0, am_set (f_CB_ask s a1 a2).2.2 262 0 (f_CB_ask s a1 a2).2.1)) ∧ (¬ (f_CB_ask s a1 a2).1 = 0 → ¬ (f_LA_ask s a1 a2).1 = 0 ∧ (f_LA_ask s a1 a2).2 = (f_CB_ask s a1 a2).2.2) := by
  unfold f_LA_ask
  refine ⟨fun h => ?_, fun h => ?_⟩
  · rw [if_pos h]
    rfl
  · rw [if_neg h]
    repeat' split
    all_goals exact ⟨by simp, rfl⟩
theorem zp_ask {d : Nat} {s : am_M} {a1 a2 : Int32} (h : p_LA_ask s a1 a2) : p_CB_ask s a1 a2 ∧ zE (f_CB_ask s a1 a2).1 := by
  unfold p_LA_ask at h
  obtain ⟨h1, h2, -⟩ := h
  exact ⟨h1, by rcases h2 with e | e | e | e <;> simp [zE, e]⟩
theorem zo_ask {c d : Nat} (ho : op_ask (pu_R c) (pu_R d)) {s t : am_M} {a1 a2 : Int32} (h : RR c s t) : (p_CB_ask s a1 a2 ∧ p_CB_ask t a1 a2) ∧ zE (f_CB_ask s a1 a2).1 ∧ zE (f_CB_ask t a1 a2).1 ∧ zI d (h_CB_ask s a1 a2) (h_CB_ask t a1 a2) ∧ n9 (f_CB_ask s a1 a2) := by
  obtain ⟨ls, -, os, os9⟩ := ho s a1 a2 h.1
  obtain ⟨lt, -, ot, -⟩ := ho t a1 a2 h.2.1
  obtain ⟨ps, es⟩ := zp_ask (d := d) ls
  obtain ⟨pt, et⟩ := zp_ask (d := d) lt
  exact ⟨⟨ps, pt⟩, es, et, zz_I (d := d) (p := (f_CB_ask s a1 a2)) (q := (f_CB_ask t a1 a2)) (ls := (f_LA_ask s a1 a2)) (lt := (f_LA_ask t a1 a2)) (M := fun m => f_MO_ask m a1 a2) (fun b u => xl_MO_ask u a1 a2) h.2.2 (fun a h1 _ => wl_CB_ask h1 ps) (fun a h1 _ => wl_CB_ask h1 pt) la_ask la_ask os ot, os9⟩
theorem la_condition {s : am_M} {a1 a2 a3 a4 a5 : Int32} : ((f_CB_condition s a1 a2 a3 a4 a5).1 = 0 → (f_LA_condition s a1 a2 a3 a4 a5) = (0, am_set (f_CB_condition s a1 a2 a3 a4 a5).2.2 262 0 (f_CB_condition s a1 a2 a3 a4 a5).2.1)) ∧ (¬ (f_CB_condition s a1 a2 a3 a4 a5).1 = 0 → ¬ (f_LA_condition s a1 a2 a3 a4 a5).1 = 0 ∧ (f_LA_condition s a1 a2 a3 a4 a5).2 = (f_CB_condition s a1 a2 a3 a4 a5).2.2) := by
  unfold f_LA_condition
  refine ⟨fun h => ?_, fun h => ?_⟩
  · rw [if_pos h]
    rfl
  · rw [if_neg h]
    repeat' split
    all_goals exact ⟨by simp, rfl⟩
theorem zp_condition {d : Nat} {s : am_M} {a1 a2 a3 a4 a5 : Int32} (h : p_LA_condition s a1 a2 a3 a4 a5) : p_CB_condition s a1 a2 a3 a4 a5 ∧ zE (f_CB_condition s a1 a2 a3 a4 a5).1 := by
  unfold p_LA_condition at h
  obtain ⟨h1, h2, -⟩ := h
  exact ⟨h1, by rcases h2 with e | e | e | e <;> simp [zE, e]⟩
theorem zo_condition {c d : Nat} (ho : op_condition (pu_R c) (pu_R d)) {s t : am_M} {a1 a2 a3 a4 a5 : Int32} (h : RR c s t) : (p_CB_condition s a1 a2 a3 a4 a5 ∧ p_CB_condition t a1 a2 a3 a4 a5) ∧ zE (f_CB_condition s a1 a2 a3 a4 a5).1 ∧ zE (f_CB_condition t a1 a2 a3 a4 a5).1 ∧ zI d (h_CB_condition s a1 a2 a3 a4 a5) (h_CB_condition t a1 a2 a3 a4 a5) ∧ n9 (f_CB_condition s a1 a2 a3 a4 a5) := by
  obtain ⟨ls, -, os, os9⟩ := ho s a1 a2 a3 a4 a5 h.1
  obtain ⟨lt, -, ot, -⟩ := ho t a1 a2 a3 a4 a5 h.2.1
  obtain ⟨ps, es⟩ := zp_condition (d := d) ls
  obtain ⟨pt, et⟩ := zp_condition (d := d) lt
  exact ⟨⟨ps, pt⟩, es, et, zz_I (d := d) (p := (f_CB_condition s a1 a2 a3 a4 a5)) (q := (f_CB_condition t a1 a2 a3 a4 a5)) (ls := (f_LA_condition s a1 a2 a3 a4 a5)) (lt := (f_LA_condition t a1 a2 a3 a4 a5)) (M := fun m => f_MO_condition m a1 a2 a3 a4 a5) (fun b u => xl_MO_condition u a1 a2 a3 a4 a5) h.2.2 (fun a h1 _ => wl_CB_condition h1 ps) (fun a h1 _ => wl_CB_condition h1 pt) la_condition la_condition os ot, os9⟩
theorem la_askGroups {s : am_M} {a1 a2 a3 : Int32} : ((f_CB_askGroups s a1 a2 a3).1 = 0 → (f_LA_askGroups s a1 a2 a3) = (0, am_set (f_CB_askGroups s a1 a2 a3).2.2 262 0 (f_CB_askGroups s a1 a2 a3).2.1)) ∧ (¬ (f_CB_askGroups s a1 a2 a3).1 = 0 → ¬ (f_LA_askGroups s a1 a2 a3).1 = 0 ∧ (f_LA_askGroups s a1 a2 a3).2 = (f_CB_askGroups s a1 a2 a3).2.2) := by
  unfold f_LA_askGroups
  refine ⟨fun h => ?_, fun h => ?_⟩
  · rw [if_pos h]
    rfl
  · rw [if_neg h]
    repeat' split
    all_goals exact ⟨by simp, rfl⟩
theorem zp_askGroups {d : Nat} {s : am_M} {a1 a2 a3 : Int32} (h : p_LA_askGroups s a1 a2 a3) : p_CB_askGroups s a1 a2 a3 ∧ zE (f_CB_askGroups s a1 a2 a3).1 := by
  unfold p_LA_askGroups at h
  obtain ⟨h1, h2, -⟩ := h
  exact ⟨h1, by rcases h2 with e | e | e | e <;> simp [zE, e]⟩
theorem zo_askGroups {c d : Nat} (ho : op_askGroups (pu_R c) (pu_R d)) {s t : am_M} {a1 a2 a3 : Int32} (h : RR c s t) : (p_CB_askGroups s a1 a2 a3 ∧ p_CB_askGroups t a1 a2 a3) ∧ zE (f_CB_askGroups s a1 a2 a3).1 ∧ zE (f_CB_askGroups t a1 a2 a3).1 ∧ zI d (h_CB_askGroups s a1 a2 a3) (h_CB_askGroups t a1 a2 a3) ∧ n9 (f_CB_askGroups s a1 a2 a3) := by
  obtain ⟨ls, -, os, os9⟩ := ho s a1 a2 a3 h.1
  obtain ⟨lt, -, ot, -⟩ := ho t a1 a2 a3 h.2.1
  obtain ⟨ps, es⟩ := zp_askGroups (d := d) ls
  obtain ⟨pt, et⟩ := zp_askGroups (d := d) lt
  exact ⟨⟨ps, pt⟩, es, et, zz_I (d := d) (p := (f_CB_askGroups s a1 a2 a3)) (q := (f_CB_askGroups t a1 a2 a3)) (ls := (f_LA_askGroups s a1 a2 a3)) (lt := (f_LA_askGroups t a1 a2 a3)) (M := fun m => f_MO_askGroups m a1 a2 a3) (fun b u => xl_MO_askGroups u a1 a2 a3) h.2.2 (fun a h1 _ => wl_CB_askGroups h1 ps) (fun a h1 _ => wl_CB_askGroups h1 pt) la_askGroups la_askGroups os ot, os9⟩
theorem la_askCross {s : am_M} {a1 a2 a3 a4 : Int32} : ((f_CB_askCross s a1 a2 a3 a4).1 = 0 → (f_LA_askCross s a1 a2 a3 a4) = (0, am_set (f_CB_askCross s a1 a2 a3 a4).2.2 262 0 (f_CB_askCross s a1 a2 a3 a4).2.1)) ∧ (¬ (f_CB_askCross s a1 a2 a3 a4).1 = 0 → ¬ (f_LA_askCross s a1 a2 a3 a4).1 = 0 ∧ (f_LA_askCross s a1 a2 a3 a4).2 = (f_CB_askCross s a1 a2 a3 a4).2.2) := by
  unfold f_LA_askCross
  refine ⟨fun h => ?_, fun h => ?_⟩
  · rw [if_pos h]
    rfl
  · rw [if_neg h]
    repeat' split
    all_goals exact ⟨by simp, rfl⟩
theorem zp_askCross {d : Nat} {s : am_M} {a1 a2 a3 a4 : Int32} (h : p_LA_askCross s a1 a2 a3 a4) : p_CB_askCross s a1 a2 a3 a4 ∧ zE (f_CB_askCross s a1 a2 a3 a4).1 := by
  unfold p_LA_askCross at h
  obtain ⟨h1, h2, -⟩ := h
  exact ⟨h1, by rcases h2 with e | e | e | e <;> simp [zE, e]⟩
theorem zo_askCross {c d : Nat} (ho : op_askCross (pu_R c) (pu_R d)) {s t : am_M} {a1 a2 a3 a4 : Int32} (h : RR c s t) : (p_CB_askCross s a1 a2 a3 a4 ∧ p_CB_askCross t a1 a2 a3 a4) ∧ zE (f_CB_askCross s a1 a2 a3 a4).1 ∧ zE (f_CB_askCross t a1 a2 a3 a4).1 ∧ zI d (h_CB_askCross s a1 a2 a3 a4) (h_CB_askCross t a1 a2 a3 a4) ∧ n9 (f_CB_askCross s a1 a2 a3 a4) := by
  obtain ⟨ls, -, os, os9⟩ := ho s a1 a2 a3 a4 h.1
  obtain ⟨lt, -, ot, -⟩ := ho t a1 a2 a3 a4 h.2.1
  obtain ⟨ps, es⟩ := zp_askCross (d := d) ls
  obtain ⟨pt, et⟩ := zp_askCross (d := d) lt
  exact ⟨⟨ps, pt⟩, es, et, zz_I (d := d) (p := (f_CB_askCross s a1 a2 a3 a4)) (q := (f_CB_askCross t a1 a2 a3 a4)) (ls := (f_LA_askCross s a1 a2 a3 a4)) (lt := (f_LA_askCross t a1 a2 a3 a4)) (M := fun m => f_MO_askCross m a1 a2 a3 a4) (fun b u => xl_MO_askCross u a1 a2 a3 a4) h.2.2 (fun a h1 _ => wl_CB_askCross h1 ps) (fun a h1 _ => wl_CB_askCross h1 pt) la_askCross la_askCross os ot, os9⟩
theorem la_write {s : am_M} {a1 a2 a3 a4 : Int32} : ((f_CB_write s a1 a2 a3 a4).1 = 0 → (f_LA_write s a1 a2 a3 a4) = (0, am_set (f_CB_write s a1 a2 a3 a4).2.2 262 0 (if (f_CB_write s a1 a2 a3 a4).2.1 = 0 then 0 else 1))) ∧ (¬ (f_CB_write s a1 a2 a3 a4).1 = 0 → ¬ (f_LA_write s a1 a2 a3 a4).1 = 0 ∧ (f_LA_write s a1 a2 a3 a4).2 = (f_CB_write s a1 a2 a3 a4).2.2) := by
  unfold f_LA_write
  refine ⟨fun h => ?_, fun h => ?_⟩
  · rw [if_pos h]
    by_cases hb : (f_CB_write s a1 a2 a3 a4).2.1 = 0
    · rw [if_pos hb, if_pos hb]; rfl
    · rw [if_neg hb, if_neg hb]; rfl
  · rw [if_neg h]
    repeat' split
    all_goals exact ⟨by simp, rfl⟩
theorem zp_write {d : Nat} {s : am_M} {a1 a2 a3 a4 : Int32} (h : p_LA_write s a1 a2 a3 a4) : p_CB_write s a1 a2 a3 a4 ∧ zE (f_CB_write s a1 a2 a3 a4).1 := by
  unfold p_LA_write at h
  obtain ⟨h1, h2, -⟩ := h
  exact ⟨h1, by rcases h2 with e | e | e <;> simp [zE, e]⟩
theorem zo_write {c d : Nat} (ho : op_write (pu_R c) (pu_R d)) {s t : am_M} {a1 a2 a3 a4 : Int32} (h : RR c s t) : (p_CB_write s a1 a2 a3 a4 ∧ p_CB_write t a1 a2 a3 a4) ∧ zE (f_CB_write s a1 a2 a3 a4).1 ∧ zE (f_CB_write t a1 a2 a3 a4).1 ∧ zB d (h_CB_write s a1 a2 a3 a4) (h_CB_write t a1 a2 a3 a4) := by
  obtain ⟨ls, -, os⟩ := ho s a1 a2 a3 a4 h.1
  obtain ⟨lt, -, ot⟩ := ho t a1 a2 a3 a4 h.2.1
  obtain ⟨ps, es⟩ := zp_write (d := d) ls
  obtain ⟨pt, et⟩ := zp_write (d := d) lt
  exact ⟨⟨ps, pt⟩, es, et, zz_B (d := d) (p := (f_CB_write s a1 a2 a3 a4)) (q := (f_CB_write t a1 a2 a3 a4)) (ls := (f_LA_write s a1 a2 a3 a4)) (lt := (f_LA_write t a1 a2 a3 a4)) (M := fun m => f_MO_write m a1 a2 a3 a4) (fun b u => xl_MO_write u a1 a2 a3 a4) h.2.2 (fun a h1 _ => wl_CB_write h1 ps) (fun a h1 _ => wl_CB_write h1 pt) la_write la_write os ot⟩
theorem la_addAct {s : am_M} : ((f_CB_addAct s).1 = 0 → (f_LA_addAct s) = (0, am_set (f_CB_addAct s).2.2 262 0 (f_CB_addAct s).2.1)) ∧ (¬ (f_CB_addAct s).1 = 0 → ¬ (f_LA_addAct s).1 = 0 ∧ (f_LA_addAct s).2 = (f_CB_addAct s).2.2) := by
  unfold f_LA_addAct
  refine ⟨fun h => ?_, fun h => ?_⟩
  · rw [if_pos h]
    rfl
  · rw [if_neg h]
    repeat' split
    all_goals exact ⟨by simp, rfl⟩
theorem zp_addAct {d : Nat} {s : am_M} (h : p_LA_addAct s) : zE (f_CB_addAct s).1 := by
  unfold p_LA_addAct at h
  obtain ⟨h2, -⟩ := h
  rcases h2 with e | e <;> simp [zE, e]
theorem zo_addAct {c d : Nat} (ho : op_addAct (pu_R c) (pu_R d)) {s t : am_M} (h : RR c s t) : zE (f_CB_addAct s).1 ∧ zE (f_CB_addAct t).1 ∧ zI d (h_CB_addAct s) (h_CB_addAct t) := by
  obtain ⟨ls, os⟩ := ho s h.1
  obtain ⟨lt, ot⟩ := ho t h.2.1
  have es := zp_addAct (d := d) ls
  have et := zp_addAct (d := d) lt
  exact ⟨es, et, zz_I (d := d) (p := (f_CB_addAct s)) (q := (f_CB_addAct t)) (ls := (f_LA_addAct s)) (lt := (f_LA_addAct t)) (M := fun m => f_MO_addAct m) (fun b u => xl_MO_addAct u) h.2.2 (fun a h1 _ => wl_CB_addAct h1) (fun a h1 _ => wl_CB_addAct h1) la_addAct la_addAct os ot⟩
theorem la_stepPut {s : am_M} {a1 a2 a3 a4 : Int32} : ((f_CB_stepPut s a1 a2 a3 a4).1 = 0 → (f_LA_stepPut s a1 a2 a3 a4) = (0, am_set (f_CB_stepPut s a1 a2 a3 a4).2.2 262 0 (f_CB_stepPut s a1 a2 a3 a4).2.1)) ∧ (¬ (f_CB_stepPut s a1 a2 a3 a4).1 = 0 → ¬ (f_LA_stepPut s a1 a2 a3 a4).1 = 0 ∧ (f_LA_stepPut s a1 a2 a3 a4).2 = (f_CB_stepPut s a1 a2 a3 a4).2.2) := by
  unfold f_LA_stepPut
  refine ⟨fun h => ?_, fun h => ?_⟩
  · rw [if_pos h]
    rfl
  · rw [if_neg h]
    repeat' split
    all_goals exact ⟨by simp, rfl⟩
theorem zp_stepPut {d : Nat} {s : am_M} {a1 a2 a3 a4 : Int32} (h : p_LA_stepPut s a1 a2 a3 a4) : p_CB_stepPut s a1 a2 a3 a4 ∧ zE (f_CB_stepPut s a1 a2 a3 a4).1 := by
  unfold p_LA_stepPut at h
  obtain ⟨h1, h2, -⟩ := h
  exact ⟨h1, by rcases h2 with e | e | e | e <;> simp [zE, e]⟩
theorem zo_stepPut {c d : Nat} (ho : op_stepPut (pu_R c) (pu_R d)) {s t : am_M} {a1 a2 a3 a4 : Int32} (h : RR c s t) : (p_CB_stepPut s a1 a2 a3 a4 ∧ p_CB_stepPut t a1 a2 a3 a4) ∧ zE (f_CB_stepPut s a1 a2 a3 a4).1 ∧ zE (f_CB_stepPut t a1 a2 a3 a4).1 ∧ zI d (h_CB_stepPut s a1 a2 a3 a4) (h_CB_stepPut t a1 a2 a3 a4) ∧ n9 (f_CB_stepPut s a1 a2 a3 a4) := by
  obtain ⟨ls, -, os, os9⟩ := ho s a1 a2 a3 a4 h.1
  obtain ⟨lt, -, ot, -⟩ := ho t a1 a2 a3 a4 h.2.1
  obtain ⟨ps, es⟩ := zp_stepPut (d := d) ls
  obtain ⟨pt, et⟩ := zp_stepPut (d := d) lt
  exact ⟨⟨ps, pt⟩, es, et, zz_I (d := d) (p := (f_CB_stepPut s a1 a2 a3 a4)) (q := (f_CB_stepPut t a1 a2 a3 a4)) (ls := (f_LA_stepPut s a1 a2 a3 a4)) (lt := (f_LA_stepPut t a1 a2 a3 a4)) (M := fun m => f_MO_stepPut m a1 a2 a3 a4) (fun b u => xl_MO_stepPut u a1 a2 a3 a4) h.2.2 (fun a h1 _ => wl_CB_stepPut h1 ps) (fun a h1 _ => wl_CB_stepPut h1 pt) la_stepPut la_stepPut os ot, os9⟩
theorem la_stepAdd {s : am_M} {a1 a2 : Int32} : ((f_CB_stepAdd s a1 a2).1 = 0 → (f_LA_stepAdd s a1 a2) = (0, am_set (f_CB_stepAdd s a1 a2).2.2 262 0 (f_CB_stepAdd s a1 a2).2.1)) ∧ (¬ (f_CB_stepAdd s a1 a2).1 = 0 → ¬ (f_LA_stepAdd s a1 a2).1 = 0 ∧ (f_LA_stepAdd s a1 a2).2 = (f_CB_stepAdd s a1 a2).2.2) := by
  unfold f_LA_stepAdd
  refine ⟨fun h => ?_, fun h => ?_⟩
  · rw [if_pos h]
    rfl
  · rw [if_neg h]
    repeat' split
    all_goals exact ⟨by simp, rfl⟩
theorem zp_stepAdd {d : Nat} {s : am_M} {a1 a2 : Int32} (h : p_LA_stepAdd s a1 a2) : p_CB_stepAdd s a1 a2 ∧ zE (f_CB_stepAdd s a1 a2).1 := by
  unfold p_LA_stepAdd at h
  obtain ⟨h1, h2, -⟩ := h
  exact ⟨h1, by rcases h2 with e | e | e <;> simp [zE, e]⟩
theorem zo_stepAdd {c d : Nat} (ho : op_stepAdd (pu_R c) (pu_R d)) {s t : am_M} {a1 a2 : Int32} (h : RR c s t) : (p_CB_stepAdd s a1 a2 ∧ p_CB_stepAdd t a1 a2) ∧ zE (f_CB_stepAdd s a1 a2).1 ∧ zE (f_CB_stepAdd t a1 a2).1 ∧ zI d (h_CB_stepAdd s a1 a2) (h_CB_stepAdd t a1 a2) ∧ n9 (f_CB_stepAdd s a1 a2) := by
  obtain ⟨ls, -, os, os9⟩ := ho s a1 a2 h.1
  obtain ⟨lt, -, ot, -⟩ := ho t a1 a2 h.2.1
  obtain ⟨ps, es⟩ := zp_stepAdd (d := d) ls
  obtain ⟨pt, et⟩ := zp_stepAdd (d := d) lt
  exact ⟨⟨ps, pt⟩, es, et, zz_I (d := d) (p := (f_CB_stepAdd s a1 a2)) (q := (f_CB_stepAdd t a1 a2)) (ls := (f_LA_stepAdd s a1 a2)) (lt := (f_LA_stepAdd t a1 a2)) (M := fun m => f_MO_stepAdd m a1 a2) (fun b u => xl_MO_stepAdd u a1 a2) h.2.2 (fun a h1 _ => wl_CB_stepAdd h1 ps) (fun a h1 _ => wl_CB_stepAdd h1 pt) la_stepAdd la_stepAdd os ot, os9⟩
theorem la_stepRemove {s : am_M} {a1 a2 a3 : Int32} : ((f_CB_stepRemove s a1 a2 a3).1 = 0 → (f_LA_stepRemove s a1 a2 a3) = (0, am_set (f_CB_stepRemove s a1 a2 a3).2.2 262 0 (f_CB_stepRemove s a1 a2 a3).2.1)) ∧ (¬ (f_CB_stepRemove s a1 a2 a3).1 = 0 → ¬ (f_LA_stepRemove s a1 a2 a3).1 = 0 ∧ (f_LA_stepRemove s a1 a2 a3).2 = (f_CB_stepRemove s a1 a2 a3).2.2) := by
  unfold f_LA_stepRemove
  refine ⟨fun h => ?_, fun h => ?_⟩
  · rw [if_pos h]
    rfl
  · rw [if_neg h]
    repeat' split
    all_goals exact ⟨by simp, rfl⟩
theorem zp_stepRemove {d : Nat} {s : am_M} {a1 a2 a3 : Int32} (h : p_LA_stepRemove s a1 a2 a3) : p_CB_stepRemove s a1 a2 a3 ∧ zE (f_CB_stepRemove s a1 a2 a3).1 := by
  unfold p_LA_stepRemove at h
  obtain ⟨h1, h2, -⟩ := h
  exact ⟨h1, by rcases h2 with e | e | e | e <;> simp [zE, e]⟩
theorem zo_stepRemove {c d : Nat} (ho : op_stepRemove (pu_R c) (pu_R d)) {s t : am_M} {a1 a2 a3 : Int32} (h : RR c s t) : (p_CB_stepRemove s a1 a2 a3 ∧ p_CB_stepRemove t a1 a2 a3) ∧ zE (f_CB_stepRemove s a1 a2 a3).1 ∧ zE (f_CB_stepRemove t a1 a2 a3).1 ∧ zI d (h_CB_stepRemove s a1 a2 a3) (h_CB_stepRemove t a1 a2 a3) ∧ n9 (f_CB_stepRemove s a1 a2 a3) := by
  obtain ⟨ls, -, os, os9⟩ := ho s a1 a2 a3 h.1
  obtain ⟨lt, -, ot, -⟩ := ho t a1 a2 a3 h.2.1
  obtain ⟨ps, es⟩ := zp_stepRemove (d := d) ls
  obtain ⟨pt, et⟩ := zp_stepRemove (d := d) lt
  exact ⟨⟨ps, pt⟩, es, et, zz_I (d := d) (p := (f_CB_stepRemove s a1 a2 a3)) (q := (f_CB_stepRemove t a1 a2 a3)) (ls := (f_LA_stepRemove s a1 a2 a3)) (lt := (f_LA_stepRemove t a1 a2 a3)) (M := fun m => f_MO_stepRemove m a1 a2 a3) (fun b u => xl_MO_stepRemove u a1 a2 a3) h.2.2 (fun a h1 _ => wl_CB_stepRemove h1 ps) (fun a h1 _ => wl_CB_stepRemove h1 pt) la_stepRemove la_stepRemove os ot, os9⟩
theorem la_stepIf {s : am_M} {a1 a2 a3 : Int32} : ((f_CB_stepIf s a1 a2 a3).1 = 0 → (f_LA_stepIf s a1 a2 a3) = (0, am_set (f_CB_stepIf s a1 a2 a3).2.2 262 0 (f_CB_stepIf s a1 a2 a3).2.1)) ∧ (¬ (f_CB_stepIf s a1 a2 a3).1 = 0 → ¬ (f_LA_stepIf s a1 a2 a3).1 = 0 ∧ (f_LA_stepIf s a1 a2 a3).2 = (f_CB_stepIf s a1 a2 a3).2.2) := by
  unfold f_LA_stepIf
  refine ⟨fun h => ?_, fun h => ?_⟩
  · rw [if_pos h]
    rfl
  · rw [if_neg h]
    repeat' split
    all_goals exact ⟨by simp, rfl⟩
theorem zp_stepIf {d : Nat} {s : am_M} {a1 a2 a3 : Int32} (h : p_LA_stepIf s a1 a2 a3) : p_CB_stepIf s a1 a2 a3 ∧ zE (f_CB_stepIf s a1 a2 a3).1 := by
  unfold p_LA_stepIf at h
  obtain ⟨h1, h2, -⟩ := h
  exact ⟨h1, by rcases h2 with e | e | e | e <;> simp [zE, e]⟩
theorem zo_stepIf {c d : Nat} (ho : op_stepIf (pu_R c) (pu_R d)) {s t : am_M} {a1 a2 a3 : Int32} (h : RR c s t) : (p_CB_stepIf s a1 a2 a3 ∧ p_CB_stepIf t a1 a2 a3) ∧ zE (f_CB_stepIf s a1 a2 a3).1 ∧ zE (f_CB_stepIf t a1 a2 a3).1 ∧ zI d (h_CB_stepIf s a1 a2 a3) (h_CB_stepIf t a1 a2 a3) ∧ n9 (f_CB_stepIf s a1 a2 a3) := by
  obtain ⟨ls, -, os, os9⟩ := ho s a1 a2 a3 h.1
  obtain ⟨lt, -, ot, -⟩ := ho t a1 a2 a3 h.2.1
  obtain ⟨ps, es⟩ := zp_stepIf (d := d) ls
  obtain ⟨pt, et⟩ := zp_stepIf (d := d) lt
  exact ⟨⟨ps, pt⟩, es, et, zz_I (d := d) (p := (f_CB_stepIf s a1 a2 a3)) (q := (f_CB_stepIf t a1 a2 a3)) (ls := (f_LA_stepIf s a1 a2 a3)) (lt := (f_LA_stepIf t a1 a2 a3)) (M := fun m => f_MO_stepIf m a1 a2 a3) (fun b u => xl_MO_stepIf u a1 a2 a3) h.2.2 (fun a h1 _ => wl_CB_stepIf h1 ps) (fun a h1 _ => wl_CB_stepIf h1 pt) la_stepIf la_stepIf os ot, os9⟩
theorem la_run {s : am_M} {a1 : Int32} : ((f_CB_run s a1).1 = 0 → (f_LA_run s a1) = (0, am_set (f_CB_run s a1).2.2 262 0 (if (f_CB_run s a1).2.1 = 0 then 0 else 1))) ∧ (¬ (f_CB_run s a1).1 = 0 → ¬ (f_LA_run s a1).1 = 0 ∧ (f_LA_run s a1).2 = (f_CB_run s a1).2.2) := by
  unfold f_LA_run
  refine ⟨fun h => ?_, fun h => ?_⟩
  · rw [if_pos h]
    by_cases hb : (f_CB_run s a1).2.1 = 0
    · rw [if_pos hb, if_pos hb]; rfl
    · rw [if_neg hb, if_neg hb]; rfl
  · rw [if_neg h]
    repeat' split
    all_goals exact ⟨by simp, rfl⟩
theorem zp_run {d : Nat} {s : am_M} {a1 : Int32} (h : p_LA_run s a1) : p_CB_run s a1 ∧ zE (f_CB_run s a1).1 := by
  unfold p_LA_run at h
  obtain ⟨h1, h2, -⟩ := h
  exact ⟨h1, by rcases h2 with e | e <;> simp [zE, e]⟩
theorem zo_run {c d : Nat} (ho : op_run (pu_R c) (pu_R d)) {s t : am_M} {a1 : Int32} (h : RR c s t) : (p_CB_run s a1 ∧ p_CB_run t a1) ∧ zE (f_CB_run s a1).1 ∧ zE (f_CB_run t a1).1 ∧ zB d (h_CB_run s a1) (h_CB_run t a1) := by
  obtain ⟨ls, -, os⟩ := ho s a1 h.1
  obtain ⟨lt, -, ot⟩ := ho t a1 h.2.1
  obtain ⟨ps, es⟩ := zp_run (d := d) ls
  obtain ⟨pt, et⟩ := zp_run (d := d) lt
  exact ⟨⟨ps, pt⟩, es, et, zz_B (d := d) (p := (f_CB_run s a1)) (q := (f_CB_run t a1)) (ls := (f_LA_run s a1)) (lt := (f_LA_run t a1)) (M := fun m => f_MO_run m a1) (fun b u => xl_MO_run u a1) h.2.2 (fun a h1 _ => wl_CB_run h1 ps) (fun a h1 _ => wl_CB_run h1 pt) la_run la_run os ot⟩
theorem la_undo {s : am_M} : ((f_CB_undo s).1 = 0 → (f_LA_undo s) = (0, am_set (f_CB_undo s).2.2 262 0 (f_CB_undo s).2.1)) ∧ (¬ (f_CB_undo s).1 = 0 → ¬ (f_LA_undo s).1 = 0 ∧ (f_LA_undo s).2 = (f_CB_undo s).2.2) := by
  unfold f_LA_undo
  refine ⟨fun h => ?_, fun h => ?_⟩
  · rw [if_pos h]
    rfl
  · rw [if_neg h]
    repeat' split
    all_goals exact ⟨by simp, rfl⟩
theorem zp_undo {d : Nat} {s : am_M} (h : p_LA_undo s) : p_CB_undo s ∧ zE (f_CB_undo s).1 := by
  unfold p_LA_undo at h
  obtain ⟨h1, h2, -⟩ := h
  exact ⟨h1, by rcases h2 with e | e <;> simp [zE, e]⟩
theorem zo_undo {c d : Nat} (ho : op_undo (pu_R c) (pu_R d)) {s t : am_M} (h : RR c s t) : (p_CB_undo s ∧ p_CB_undo t) ∧ zE (f_CB_undo s).1 ∧ zE (f_CB_undo t).1 ∧ zI d (h_CB_undo s) (h_CB_undo t) ∧ n9 (f_CB_undo s) := by
  obtain ⟨ls, -, os, os9⟩ := ho s h.1
  obtain ⟨lt, -, ot, -⟩ := ho t h.2.1
  obtain ⟨ps, es⟩ := zp_undo (d := d) ls
  obtain ⟨pt, et⟩ := zp_undo (d := d) lt
  exact ⟨⟨ps, pt⟩, es, et, zz_I (d := d) (p := (f_CB_undo s)) (q := (f_CB_undo t)) (ls := (f_LA_undo s)) (lt := (f_LA_undo t)) (M := fun m => f_MO_undo m) (fun b u => xl_MO_undo u) h.2.2 (fun a h1 _ => wl_CB_undo h1 ps) (fun a h1 _ => wl_CB_undo h1 pt) la_undo la_undo os ot, os9⟩
end
