noncomputable section
-- tables and columns are made
theorem pu_own_col {k j : Nat} (hk : k < 24) : pu_own (20 + k) j = 6 := pu_own_6 (by omega)
def pu_up (Z : Nat → am_M) (i : Nat) (A : am_M) : Nat → am_M := fun j => if j = i then A else Z j
theorem pu_up_s {Z : Nat → am_M} {i : Nat} {A : am_M} : pu_up Z i A i = A := if_pos rfl
theorem pu_up_o {Z : Nat → am_M} {i j : Nat} {A : am_M} (h : j ≠ i) : pu_up Z i A j = Z j := if_neg h
theorem q_md_set {s A : am_M} {i k : Nat} {x : Int32} (h : i < 207 ∨ i = 262 ∨ (i = 207 ∧ k ≠ 1) ∨ 220 ≤ i) (m : q_md s A) : q_md (am_set s i k x) A := by
  refine ⟨?_, fun a h1 h2 => ?_⟩
  · rw [am_set_p (by omega)]; exact m.1
  · rw [am_set_o (by omega)]; exact m.2 a h1 h2
theorem q_cd_set {s A : am_M} {i k : Nat} {x : Int32} (h : i = 0 ∨ (1 = i ∧ k ≠ 3) ∨ (5 ≤ i ∧ i < 20) ∨ 44 ≤ i) (m : q_cd s A) : q_cd (am_set s i k x) A := by
  obtain ⟨c1, c2, c3, c4⟩ := m
  refine ⟨?_, fun t h9 => ?_, fun k hk => ?_, fun k j hk h1 h2 => ?_⟩
  · rw [am_set_p (by omega)]; exact c1
  · rw [am_set_p (by omega)]; exact c2 t h9
  · rw [am_set_p (by omega)]; exact c3 k hk
  · rw [am_set_p (by omega)]; exact c4 k j hk h1 h2
theorem q_oc_set {s A : am_M} {i k : Nat} {x : Int32} (h : i = 0 ∨ (1 = i ∧ k ≠ 8) ∨ (2 ≤ i ∧ i ≠ 7)) (m : q_oc s A) : q_oc (am_set s i k x) A := by
  refine ⟨?_, fun i9 hi => ?_⟩
  · rw [am_set_p (by omega)]; exact m.1
  · rw [am_set_p (by omega)]; exact m.2 i9 hi
theorem q_oc_B {s A B : am_M} (h : q_ord B = q_ord A) (m : q_oc s A) : q_oc s B := by unfold q_oc; rw [h]; exact m
theorem qd_mkC {s A : am_M} (h : q_cd s A) (w : q_wd A) {t : Nat} (ht : t < q_nt A) (hw : q_w A t < 6) (kd : Int32) : p_BA_makeColumn s (nI t) kd ∧ f_BA_makeColumn s (nI t) kd = (nI (q_w A t), am_set (am_set s 4 t (nI (q_w A t + 1))) (20 + (6 * t + q_w A t)) 0 kd) := by
  have h4 := w.1.2
  have ht4 : t < 4 := by omega
  unfold p_BA_makeColumn f_BA_makeColumn
  rw [qd_w h w ht4]
  have e : nI t * (6 : Int32) + nI (q_w A t) = nI (t * 6 + q_w A t) := by rw [qm_6, nI_add]
  rw [e, nI_clamp (n := t * 6 + q_w A t) (by omega), nI_clamp (n := t) (by omega), qd_lk (by omega), nI_1]
  refine ⟨⟨qd_pw s _, fun _ => trivial, fun _ => ⟨fun _ => trivial, fun _ => ⟨fun _ => trivial, fun _ => ⟨vp_in_nI ht4 (by omega), vp_in_nI (by omega) (by omega), ⟨by omega, qd_sh (by omega)⟩, trivial⟩⟩⟩⟩, ?_⟩
  rw [if_neg (qz (by omega)), if_neg (ql_4 ht4), if_neg (ql_6 hw), show t * 6 + q_w A t = 6 * t + q_w A t from by omega]
/-- the design with a new column -/
def q_mk (A : am_M) (t : Nat) (kd : Int32) : am_M := am_set (am_set (am_set (am_set A 209 (6 * t + q_w A t) kd) 218 (6 * t + q_w A t) 0) 219 (6 * t + q_w A t) 0) 208 t (nI (q_w A t + 1))
theorem qd_mkM {s A : am_M} (h : q_md s A) (w : q_wd A) {t : Nat} (ht : t < q_nt A) (hw : q_w A t < 6) (kd : Int32) : p_MO_makesColumn s (nI t) kd ∧ f_MO_makesColumn s (nI t) kd = (nI (6 * t + q_w A t), am_set (am_set (am_set (am_set (am_set s 209 (6 * t + q_w A t) kd) 218 (6 * t + q_w A t) 0) 219 (6 * t + q_w A t) 0) 208 t (nI (q_w A t + 1))) 207 38 0) := by
  have h4 := w.1.2
  have ht4 : t < 4 := by omega
  have e0 : s 208 t = nI (q_w A t) := by rw [h.2 208 (by omega) (by omega)]; exact (w.2.1 t ht4).1
  unfold p_MO_makesColumn f_MO_makesColumn
  rw [nI_clamp (n := t) (by omega), e0, qw_6, nI_add, nI_clamp (n := 6 * t + q_w A t) (by omega)]
  have e1 : am_set (am_set (am_set s 209 (6 * t + q_w A t) kd) 218 (6 * t + q_w A t) 0) 219 (6 * t + q_w A t) 0 208 t = nI (q_w A t) := by
    rw [am_set_p (by omega), am_set_p (by omega), am_set_p (by omega)]; exact e0
  rw [e1, nI_1]
  have v1 : vp_in (nI t) 4 := vp_in_nI ht4 (by omega)
  have v2 : vp_in (nI (6 * t + q_w A t)) 24 := vp_in_nI (by omega) (by omega)
  exact ⟨⟨v1, v2, v2, v2, v1, v1, trivial⟩, rfl⟩
theorem q_wd_mk {A B : am_M} {t : Nat} (w : q_wd A) (ht : t < q_nt A) (hw : q_w A t < 6) (h1 : B 207 1 = A 207 1) (h8 : B 208 t = nI (q_w A t + 1)) (h8' : ∀ u, u ≠ t → B 208 u = A 208 u) (ho : ∀ a k, 209 ≤ a → a ≤ 219 → k ≠ 6 * t + q_w A t → B a k = A a k)
    (hk : B 209 (6 * t + q_w A t) = 0 ∨ (B 209 (6 * t + q_w A t) = 1 ∧ B 212 (6 * t + q_w A t) = nI (q_tg B (6 * t + q_w A t)) ∧ q_tg B (6 * t + q_w A t) < q_nt A) ∨ (B 209 (6 * t + q_w A t) = 2 ∧ q_f A t (B 214 (6 * t + q_w A t)) (B 215 (6 * t + q_w A t)) (B 216 (6 * t + q_w A t)) (B 217 (6 * t + q_w A t))))
    (hn : B 218 (6 * t + q_w A t) = 0) (hs : B 219 (6 * t + q_w A t) = 0) : q_wd B := by
  have h4 := w.1.2
  have n1 : q_nt B = q_nt A := by unfold q_nt; rw [h1]
  have w1 : q_w B t = q_w A t + 1 := by unfold q_w; rw [h8]; exact nI_clamp (by omega)
  have w2 : ∀ u, u ≠ t → q_w B u = q_w A u := fun u hu => by unfold q_w; rw [h8' u hu]
  have w3 : ∀ u, q_w A u ≤ q_w B u := fun u => by
    by_cases e : u = t
    · rw [e, w1]; omega
    · rw [w2 u e]; exact Nat.le_refl _
  have hok : ∀ u c, q_ok A u c → q_ok B u c ∧ B 209 (6 * u + c) = A 209 (6 * u + c) ∧ B 212 (6 * u + c) = A 212 (6 * u + c) := fun u c q => by
    have b := q_ok_b w q
    have q2 := q.2.1
    have ne : 6 * u + c ≠ 6 * t + q_w A t := by
      by_cases e : u = t
      · rw [e] at q2; rw [e]; omega
      · omega
    have e9 := ho 209 _ (by omega) (by omega) ne
    refine ⟨⟨by rw [n1]; exact q.1, by have := w3 u; omega, by rw [e9]; exact q.2.2⟩, e9, ho 212 _ (by omega) (by omega) ne⟩
  refine ⟨⟨by rw [n1, h1]; exact w.1.1, by omega⟩, fun u hu => ?_, fun k hk9 => ?_, fun k hk9 e => ?_, fun k hk9 => ?_, fun k hk9 e => ?_⟩
  · by_cases e : u = t
    · rw [e, w1, h8, n1]; exact ⟨rfl, by omega, fun q => by omega⟩
    · rw [w2 u e, h8' u e, n1]; exact w.2.1 u hu
  · by_cases e : k = 6 * t + q_w A t
    · have e1 : k / 6 = t := by omega
      have e2 : k % 6 = q_w A t := by omega
      rw [e1, e2, w1]
      refine ⟨fun _ => ?_, fun q => by omega⟩
      rw [e]
      rcases hk with g | ⟨g, -⟩ | ⟨g, -⟩
      · exact Or.inl g
      · exact Or.inr (Or.inl g)
      · exact Or.inr (Or.inr (Or.inl g))
    · rw [ho 209 k (by omega) (by omega) e]
      have := w.2.2.1 k hk9
      by_cases e3 : k / 6 = t
      · have hne : k % 6 ≠ q_w A t := by omega
        rw [e3] at this
        rw [e3, w1]
        exact ⟨fun q => this.1 (by omega), fun q => this.2 (by omega)⟩
      · rw [w2 _ e3]; exact this
  · by_cases e0 : k = 6 * t + q_w A t
    · rw [e0] at e ⊢
      rcases hk with g | ⟨g, g2, g3⟩ | ⟨g, -⟩
      · rw [g] at e; exact absurd e (by decide)
      · rw [n1]; exact ⟨g2, g3⟩
      · rw [g] at e; exact absurd e (by decide)
    · rw [ho 209 k (by omega) (by omega) e0] at e
      have e2 : q_tg B k = q_tg A k := by unfold q_tg; rw [ho 212 k (by omega) (by omega) e0]
      rw [ho 212 k (by omega) (by omega) e0, e2, n1]
      exact w.2.2.2.1 k hk9 e
  · by_cases e0 : k = 6 * t + q_w A t
    · rw [e0, hn, hs]; exact ⟨Or.inl rfl, Or.inl rfl⟩
    · rw [ho 209 k (by omega) (by omega) e0, ho 218 k (by omega) (by omega) e0, ho 219 k (by omega) (by omega) e0]
      exact w.2.2.2.2.1 k hk9
  · by_cases e0 : k = 6 * t + q_w A t
    · have e1 : k / 6 = t := by omega
      rw [e0] at e
      rw [e1, e0]
      rcases hk with g | ⟨g, -⟩ | ⟨g, g2⟩
      · rw [g] at e; exact absurd e (by decide)
      · rw [g] at e; exact absurd e (by decide)
      · exact q_f_t hok g2
    · rw [ho 209 k (by omega) (by omega) e0] at e
      rw [ho 214 k (by omega) (by omega) e0, ho 215 k (by omega) (by omega) e0, ho 216 k (by omega) (by omega) e0, ho 217 k (by omega) (by omega) e0]
      exact q_f_t hok (w.2.2.2.2.2 k hk9 e)
theorem q_same_mk {A B : am_M} {t : Nat} (w : q_wd A) (ht : t < q_nt A) (hw : q_w A t < 6) (ho : ∀ a k, 209 ≤ a → a ≤ 219 → k ≠ 6 * t + q_w A t → B a k = A a k) (hk : B 209 (6 * t + q_w A t) ≠ 2) : q_same A B := by
  have h4 := w.1.2
  have hA : A 209 (6 * t + q_w A t) = -1 := (w.2.2.1 (6 * t + q_w A t) (by omega)).2 (by rw [show (6 * t + q_w A t) / 6 = t from by omega]; omega)
  refine q_same_of w (fun k _ => ?_) (fun k hk9 e => ?_) (fun k hk9 e => ?_)
  · by_cases e0 : k = 6 * t + q_w A t
    · rw [e0, hA]; exact ⟨fun q => absurd q (by decide), fun q => absurd q hk⟩
    · rw [ho 209 k (by omega) (by omega) e0]
  · have e0 : k ≠ 6 * t + q_w A t := fun q => by rw [q, hA] at e; exact absurd e (by decide)
    exact ⟨ho 214 k (by omega) (by omega) e0, ho 215 k (by omega) (by omega) e0, ho 216 k (by omega) (by omega) e0, ho 217 k (by omega) (by omega) e0⟩
  · have e0 : k ≠ 6 * t + q_w A t := fun q => by rw [q, hA] at e; exact absurd e (by decide)
    exact ho 212 k (by omega) (by omega) e0
theorem q_wr_mk {A B R : am_M} {t : Nat} (w : q_wd A) (ht : t < q_nt A) (hw : q_w A t < 6) (h1 : B 207 1 = A 207 1) (ho : ∀ a k, 209 ≤ a → a ≤ 219 → k ≠ 6 * t + q_w A t → B a k = A a k) (hk : B 209 (6 * t + q_w A t) = 0 ∨ B 209 (6 * t + q_w A t) = 1 ∨ B 209 (6 * t + q_w A t) = 2) (h : q_wr A R) : q_wr B R := by
  have h4 := w.1.2
  have hA : A 209 (6 * t + q_w A t) = -1 := (w.2.2.1 (6 * t + q_w A t) (by omega)).2 (by rw [show (6 * t + q_w A t) / 6 = t from by omega]; omega)
  have n1 : q_nt B = q_nt A := by unfold q_nt; rw [h1]
  obtain ⟨r1, r2, r3, r4, r5⟩ := h
  refine ⟨by rw [n1]; exact r1, r2, r3, fun p c hp hc e1 e2 => ?_, fun p c hp hc e1 e2 => ?_⟩
  · by_cases e0 : 6 * (p / 30) + c = 6 * t + q_w A t
    · rw [e0] at e2
      rcases hk with g | g | g <;> rw [g] at e2 <;> exact absurd e2 (by decide)
    · rw [ho 209 _ (by omega) (by omega) e0] at e2
      exact r4 p c hp hc e1 e2
  · by_cases e0 : 6 * (p / 30) + c = 6 * t + q_w A t
    · exact Or.inl (r4 p c hp hc e1 (Or.inr (by rw [e0]; exact hA)))
    · rw [ho 209 _ (by omega) (by omega) e0] at e2
      have := r5 p c hp hc e1 e2
      unfold q_tg; rw [ho 212 _ (by omega) (by omega) e0]
      exact this
theorem pr_lt4' {k : Nat} (hk : k ≤ 4) : nI k < (4 : Int32) ↔ k < 4 := nI_ltI (b := 4) (by omega) (by omega)
end
