noncomputable section
theorem i10 : ¬ (1 : Int32) = 0 := by decide
-- reading the design
theorem qd_lk {k : Nat} (hk : k < 24) : am_lk 2 k = 20 + k := (by decide +kernel : ∀ k, k < 24 → am_lk 2 k = 20 + k) k hk
theorem qd_sh {k : Nat} (hk : k < 24) : am_sh (20 + k) = (0, 3, 11) := (by decide +kernel : ∀ k, k < 24 → am_sh (20 + k) = (0, 3, 11)) k hk
theorem qd_col {s : am_M} {t c : Nat} (ht : t < 4) (hc : c < 6) : f_BA_column s (nI t) (nI c) = 20 + (6 * t + c) := by
  unfold f_BA_column
  rw [if_neg (qz (by omega)), if_neg (ql_4 ht), if_neg (qz (by omega)), if_pos (qt_6 hc), qm_6, nI_add, nI_clamp (by omega), qd_lk (by omega)]
  omega
theorem qd_ref (s : am_M) (x y : Int32) : f_BA_column s x y < 207 ∧ am_sh (f_BA_column s x y) = (0, 3, 11) := by
  have h3 : (3 : Nat) < 207 ∧ am_sh 3 = (0, 3, 11) := by decide +kernel
  unfold f_BA_column
  by_cases c1 : x < 0
  · rw [if_pos c1]; exact h3
  rw [if_neg c1]
  rcases qx_4 x with h | h | ⟨t, ht, rfl⟩
  · exact absurd h c1
  · rw [if_pos h]; exact h3
  rw [if_neg (ql_4 ht)]
  by_cases c2 : y < 0
  · rw [if_pos c2]; exact h3
  rw [if_neg c2]
  rcases qx_6 y with h | h | ⟨c, hc, rfl⟩
  · exact absurd h c2
  · rw [if_neg (fun q => absurd h (by rw [pr_le] at *; simpa using q) )]; exact h3
  rw [if_pos (qt_6 hc), qm_6, nI_add, nI_clamp (by omega), qd_lk (by omega)]
  exact ⟨by omega, qd_sh (by omega)⟩
theorem qd_pcol (s : am_M) (x y : Int32) : p_BA_column s x y := by
  unfold p_BA_column
  refine ⟨fun _ => trivial, fun c1 => ⟨fun _ => trivial, fun c2 => ⟨fun _ => trivial, fun c3 => ⟨fun c4 => ?_, fun _ => trivial⟩⟩⟩⟩
  rcases qx_4 x with h | h | ⟨t, ht, rfl⟩
  · exact absurd h c1
  · exact absurd h c2
  rcases qx_6 y with h | h | ⟨c, hc, rfl⟩
  · exact absurd h c3
  · exact absurd c4 (by rw [Int32.lt_iff_toInt_lt]; rw [Int32.le_iff_toInt_le] at h; omega)
  rw [qm_6, nI_add, nI_clamp (by omega), qd_lk (by omega)]
  exact ⟨vp_in_nI (by omega) (by omega), ⟨by omega, qd_sh (by omega)⟩, trivial⟩
theorem qd_pw (s : am_M) (x : Int32) : p_BA_widthOf s x := by
  unfold p_BA_widthOf
  refine ⟨fun _ => trivial, fun c1 => ⟨fun c2 => ⟨?_, trivial⟩, fun _ => trivial⟩⟩
  rcases qx_4 x with h | h | ⟨t, ht, rfl⟩
  · exact absurd h c1
  · exact absurd c2 (by rw [Int32.lt_iff_toInt_lt]; rw [Int32.le_iff_toInt_le] at h; omega)
  exact vp_in_nI (by omega) (by omega)
theorem qd_w {s A : am_M} (h : q_cd s A) (w : q_wd A) {t : Nat} (ht : t < 4) : f_BA_widthOf s (nI t) = nI (q_w A t) := by
  unfold f_BA_widthOf
  rw [if_neg (qz (by omega)), if_pos (qt_4 ht), nI_clamp (by omega), h.2.1 t ht]
  exact (w.2.1 t ht).1
/-- whether there is a table, a column -/
def q_isT (A : am_M) (x : Int32) : Int32 := q_in (q_nt A) x
def q_isC (A : am_M) (x y : Int32) : Int32 := if q_isT A x = 0 then 0 else q_in (q_w A (q_c x)) y
theorem q_isT_c {A : am_M} (w : q_wd A) (x : Int32) : q_isT A x = 0 ∨ (q_isT A x = 1 ∧ ∃ t, t < q_nt A ∧ x = nI t) := q_in_c _ (by have := w.1.2; omega) x
theorem q_isC_c {A : am_M} (w : q_wd A) (x y : Int32) : q_isC A x y = 0 ∨ (q_isC A x y = 1 ∧ ∃ t c, t < q_nt A ∧ t < 4 ∧ c < q_w A t ∧ c < 6 ∧ x = nI t ∧ y = nI c) := by
  unfold q_isC
  rcases q_isT_c w x with h | ⟨h, t, ht, rfl⟩
  · left; rw [if_pos h]
  · rw [if_neg (by rw [h]; decide)]
    have h4 := w.1.2
    have hw := (w.2.1 t (by omega)).2.1
    have e : q_c (nI t) = t := nI_clamp (by omega)
    rw [e]
    rcases q_in_c (q_w A t) (by omega) y with g | ⟨g, c, hc, rfl⟩
    · exact Or.inl g
    · exact Or.inr ⟨g, t, c, ht, by omega, hc, by omega, rfl, rfl⟩
theorem qd_hasT {s A : am_M} (h : q_cd s A) (w : q_wd A) (x : Int32) : f_BA_hasTable s x = q_isT A x := by
  unfold f_BA_hasTable q_isT q_in; rw [h.1, ← w.1.1]
theorem qd_phasT (s : am_M) (x : Int32) : p_BA_hasTable s x := ⟨fun _ => trivial, fun _ => ⟨fun _ => trivial, fun _ => trivial⟩⟩
theorem qd_hasC {s A : am_M} (h : q_cd s A) (w : q_wd A) (x y : Int32) : f_BA_hasColumn s x y = q_isC A x y := by
  unfold f_BA_hasColumn q_isC
  rw [qd_hasT h w]
  rcases q_isT_c w x with g | ⟨g, t, ht, rfl⟩
  · rw [if_pos g, if_pos g]
  · rw [g, if_neg i10, if_neg i10, qd_w h w (by have := w.1.2; omega)]
    have e : q_c (nI t) = t := nI_clamp (by have := w.1.2; omega)
    rw [e]; rfl
theorem qd_phasC (s : am_M) (x y : Int32) : p_BA_hasColumn s x y := ⟨fun _ => trivial, fun _ => ⟨fun _ => trivial, fun _ => ⟨qd_pw s x, fun _ => trivial, fun _ => trivial⟩⟩⟩
theorem qd_isT {s A : am_M} (h : q_md s A) (w : q_wd A) (x : Int32) : f_MO_isTable s x = q_isT A x := by
  unfold f_MO_isTable q_isT
  rw [h.1, w.1.1, qb_in1 (by have := w.1.2; omega)]
  unfold q_in; rw [← w.1.1]
theorem qd_pisT (s : am_M) (x : Int32) : p_MO_isTable s x := ⟨qb_in, trivial⟩
theorem qd_isC {s A : am_M} (h : q_md s A) (w : q_wd A) (x y : Int32) : f_MO_isColumn s x y = q_isC A x y := by
  unfold f_MO_isColumn q_isC
  rw [qd_isT h w]
  rcases q_isT_c w x with g | ⟨g, t, ht, rfl⟩
  · rw [if_pos g, if_pos g]
  · have h4 := w.1.2
    have hw := w.2.1 t (by omega)
    have e : q_c (nI t) = t := nI_clamp (by omega)
    rw [g, if_neg i10, if_neg i10, e, show (nI t).toNatClampNeg = t from e, h.2 208 (by omega) (by omega), hw.1, qb_in1 (by omega)]
    rcases q_in_c (q_w A t) (by omega) y with k | ⟨k, -⟩
    · rw [show (if y < 0 then (0 : Int32) else if nI (q_w A t) ≤ y then 0 else 1) = q_in (q_w A t) y from rfl, k]; rfl
    · rw [show (if y < 0 then (0 : Int32) else if nI (q_w A t) ≤ y then 0 else 1) = q_in (q_w A t) y from rfl, k]; rfl
theorem qd_pisC {s A : am_M} (h : q_md s A) (w : q_wd A) (x y : Int32) : p_MO_isColumn s x y := by
  unfold p_MO_isColumn
  refine ⟨qd_pisT s x, fun _ => trivial, fun c => ?_⟩
  rw [qd_isT h w] at c
  rcases q_isT_c w x with g | ⟨g, t, ht, rfl⟩
  · exact absurd g c
  · exact ⟨vp_in_nI (by have := w.1.2; omega) (by omega), fun _ => trivial, fun _ => trivial⟩
-- formulas and the order hold over changes
theorem q_ok_b {A : am_M} (w : q_wd A) {t c : Nat} (h : q_ok A t c) : t < 4 ∧ c < 6 := by
  have h4 := w.1.2
  have := h.1
  have := (w.2.1 t (by omega)).2.1
  have := h.2.1
  exact ⟨by omega, by omega⟩
theorem q_f_t {A B : am_M} (hok : ∀ t c, q_ok A t c → q_ok B t c ∧ B 209 (6 * t + c) = A 209 (6 * t + c) ∧ B 212 (6 * t + c) = A 212 (6 * t + c)) {t : Nat} {f x y o : Int32} (h : q_f A t f x y o) : q_f B t f x y o := by
  have hg : ∀ t c, q_ok A t c → q_tg B (6 * t + c) = q_tg A (6 * t + c) := fun t c q => by unfold q_tg; rw [(hok t c q).2.2]
  rcases h with ⟨h1, a, b, h2, h3, h4, h5⟩ | ⟨h1, a, b, h2, h3, h4, h5, h6⟩ | ⟨h1, p, a, b, h2, h3, h4, h5, h6, h7, h8⟩ | ⟨h1, p, a, h2, h3, h5, h6, h7⟩
  · exact Or.inl ⟨h1, a, b, h2, h3, (hok _ _ h4).1, (hok _ _ h5).1⟩
  · exact Or.inr (Or.inl ⟨h1, a, b, h2, h3, (hok _ _ h4).1, by rw [(hok _ _ h4).2.1]; exact h5, by rw [hg _ _ h4]; exact (hok _ _ h6).1⟩)
  · exact Or.inr (Or.inr (Or.inl ⟨h1, p, a, b, h2, h3, h4, (hok _ _ h5).1, by rw [(hok _ _ h5).2.1]; exact h6, by rw [hg _ _ h5]; exact h7, (hok _ _ h8).1⟩))
  · exact Or.inr (Or.inr (Or.inr ⟨h1, p, a, h2, h3, (hok _ _ h5).1, by rw [(hok _ _ h5).2.1]; exact h6, by rw [hg _ _ h5]; exact h7⟩))
theorem q_fi_c {P Q : Nat → Prop} [DecidablePred P] [DecidablePred Q] : ∀ (d j : Nat), (∀ k, j ≤ k → k < j + d → (P k ↔ Q k)) → q_fi P d j = q_fi Q d j := by
  intro d
  induction d with
  | zero => intro j _; rfl
  | succ d ih =>
    intro j h
    unfold q_fi
    have h0 := h j (by omega) (by omega)
    by_cases c : P j
    · rw [if_pos c, if_pos (h0.mp c)]
    · rw [if_neg c, if_neg (fun q => c (h0.mpr q)), ih (j + 1) (fun k h1 h2 => h k (by omega) (by omega))]
theorem q_co_c {P Q : Nat → Prop} [DecidablePred P] [DecidablePred Q] : ∀ (d j : Nat), (∀ k, j ≤ k → k < j + d → (P k ↔ Q k)) → q_co P d j = q_co Q d j := by
  intro d
  induction d with
  | zero => intro j _; rfl
  | succ d ih =>
    intro j h
    unfold q_co
    have h0 := h j (by omega) (by omega)
    rw [ih (j + 1) (fun k h1 h2 => h k (by omega) (by omega))]
    by_cases c : P j
    · rw [if_pos c, if_pos (h0.mp c)]
    · rw [if_neg c, if_neg (fun q => c (h0.mpr q))]
theorem q_fi_le {P : Nat → Prop} [DecidablePred P] : ∀ (d j : Nat), j ≤ q_fi P d j ∧ q_fi P d j ≤ j + d ∧ (q_fi P d j < j + d → P (q_fi P d j)) ∧ (q_fi P d j = j + d → ∀ k, j ≤ k → k < j + d → ¬ P k) := by
  intro d
  induction d with
  | zero => intro j; unfold q_fi; exact ⟨by omega, by omega, fun q => absurd q (by omega), fun _ k h1 h2 => absurd h2 (by omega)⟩
  | succ d ih =>
    intro j
    unfold q_fi
    by_cases c : P j
    · rw [if_pos c]; exact ⟨by omega, by omega, fun _ => c, fun q => absurd q (by omega)⟩
    · rw [if_neg c]
      obtain ⟨h1, h2, h3, h4⟩ := ih (j + 1)
      refine ⟨by omega, by omega, fun q => h3 (by omega), fun q k k1 k2 => ?_⟩
      by_cases e : k = j
      · rw [e]; exact c
      · exact h4 (by omega) k (by omega) (by omega)
theorem q_u_b {A : am_M} (w : q_wd A) {k : Nat} (hk : k < 24) (h : A 209 k = 2) : q_u1 A k < 24 ∧ (q_u2 A k < 24 ∨ q_u2 A k = 24) := by
  have hf := w.2.2.2.2.2 k hk h
  have e1 : ∀ {a : Nat}, a < 6 → q_c (nI a) = a := fun h => nI_clamp (by omega)
  unfold q_u2 q_u1 q_tb
  rcases hf with ⟨h1, a, b, h2, h3, h4, h5⟩ | ⟨h1, a, b, h2, h3, h4, h5, h6⟩ | ⟨h1, p, a, b, h2, h3, h4, h5, h6, h7, h8⟩ | ⟨h1, p, a, h2, h3, h5, h6, h7⟩
  · have b4 := q_ok_b w h4
    have b5 := q_ok_b w h5
    have n2 : ¬ A 214 k = 2 := by rcases h1 with h1 | h1 <;> rw [h1] <;> decide
    have n3 : ¬ (A 214 k = 3 ∨ A 214 k = 4) := by rcases h1 with h1 | h1 <;> rw [h1] <;> decide
    have n4 : ¬ A 214 k = 4 := fun q => n3 (Or.inr q)
    rw [if_neg n3, if_neg n4, if_neg n2, h2, h3, e1 b4.2, e1 b5.2]
    exact ⟨by omega, Or.inl (by omega)⟩
  · have b4 := q_ok_b w h4
    have b6 := q_ok_b w h6
    rw [h1, if_neg (by decide), if_neg (by decide), if_pos rfl, h2, h3, e1 b4.2, e1 b6.2]
    exact ⟨by omega, Or.inl (by omega)⟩
  · have b5 := q_ok_b w h5
    have b8 := q_ok_b w h8
    rw [h1, if_pos (Or.inl rfl), if_neg (by decide), if_neg (by decide), h2, h3, h4, e1 b5.2, e1 b8.2, e1 (show p < 6 by omega)]
    exact ⟨by omega, Or.inl (by omega)⟩
  · have b5 := q_ok_b w h5
    rw [h1, if_pos (Or.inr rfl), if_pos rfl, h2, h3, e1 b5.2, e1 (show p < 6 by omega)]
    exact ⟨by omega, Or.inr rfl⟩
/-- two designs with the same reckoned columns -/
def q_same (A B : am_M) : Prop := (∀ k, k < 24 → (A 209 k = 2 ↔ B 209 k = 2)) ∧ (∀ k, k < 24 → A 209 k = 2 → q_u1 B k = q_u1 A k ∧ q_u2 B k = q_u2 A k)
theorem q_kn_c {A B : am_M} (h : q_same A B) {c : Nat → Int32} {u : Nat} (hu : u < 24 ∨ u = 24) : q_kn A c u ↔ q_kn B c u := by
  rcases hu with hu | hu
  · have := h.1 u hu
    unfold q_kn
    constructor
    · rintro (q | q | q)
      · exact Or.inl q
      · exact Or.inr (Or.inl (fun r => q (this.mpr r)))
      · exact Or.inr (Or.inr q)
    · rintro (q | q | q)
      · exact Or.inl q
      · exact Or.inr (Or.inl (fun r => q (this.mp r)))
      · exact Or.inr (Or.inr q)
  · exact ⟨fun _ => Or.inl hu, fun _ => Or.inl hu⟩
theorem q_next_c {A B : am_M} (w : q_wd A) (h : q_same A B) (c : Nat → Int32) : q_next A c = q_next B c := by
  unfold q_next
  refine q_fi_c 24 0 (fun k _ hk => ?_)
  have hk : k < 24 := by omega
  unfold q_nx
  constructor
  · rintro ⟨h1, h2, h3, h4⟩
    have b := q_u_b w hk h1
    rw [(h.2 k hk h1).1, (h.2 k hk h1).2]
    exact ⟨(h.1 k hk).mp h1, h2, (q_kn_c h (Or.inl b.1)).mp h3, (q_kn_c h b.2).mp h4⟩
  · rintro ⟨h1, h2, h3, h4⟩
    have h1' := (h.1 k hk).mpr h1
    have b := q_u_b w hk h1'
    rw [(h.2 k hk h1').1] at h3
    rw [(h.2 k hk h1').2] at h4
    exact ⟨h1', h2, (q_kn_c h (Or.inl b.1)).mpr h3, (q_kn_c h b.2).mpr h4⟩
theorem q_lay_c {A B : am_M} (w : q_wd A) (h : q_same A B) : ∀ (r : Nat) (c : Nat → Int32), q_lay A r c = q_lay B r c := by
  intro r
  induction r with
  | zero => intro c; rfl
  | succ r ih => intro c; unfold q_lay; rw [q_next_c w h, ih]
theorem q_ord_c {A B : am_M} (w : q_wd A) (h : q_same A B) : q_ord A = q_ord B := by
  have e : q_left A (fun _ => 0) = q_left B (fun _ => 0) := by
    unfold q_left
    exact q_co_c 24 0 (fun k _ hk => by
      constructor
      · rintro ⟨a, b⟩; exact ⟨(h.1 k (by omega)).mp a, b⟩
      · rintro ⟨a, b⟩; exact ⟨(h.1 k (by omega)).mpr a, b⟩)
  unfold q_ord
  rw [q_lay_c w h, e]
/-- the same formulas over targets that are the same -/
theorem q_same_of {A B : am_M} (w : q_wd A) (h9 : ∀ k, k < 24 → (A 209 k = 2 ↔ B 209 k = 2)) (hf : ∀ k, k < 24 → A 209 k = 2 → B 214 k = A 214 k ∧ B 215 k = A 215 k ∧ B 216 k = A 216 k ∧ B 217 k = A 217 k) (ht : ∀ k, k < 24 → A 209 k = 1 → B 212 k = A 212 k) : q_same A B := by
  refine ⟨h9, fun k hk h2 => ?_⟩
  obtain ⟨f1, f2, f3, f4⟩ := hf k hk h2
  have e1 : q_tb B k = q_tb A k := by unfold q_tb; rw [f1, f4]
  have e2 : q_u1 B k = q_u1 A k := by unfold q_u1; rw [e1, f2]
  refine ⟨e2, ?_⟩
  unfold q_u2
  rw [f1, f3, e1, e2]
  by_cases c4 : A 214 k = 4
  · rw [if_pos c4, if_pos c4]
  · rw [if_neg c4, if_neg c4]
    by_cases c2 : A 214 k = 2
    · rw [if_pos c2, if_pos c2]
      have b := q_u_b w hk h2
      have hu : A 209 (q_u1 A k) = 1 := by
        have hf := w.2.2.2.2.2 k hk h2
        unfold q_u1 q_tb
        rcases hf with ⟨h1, a, b, h2, h3, h4, h5⟩ | ⟨h1, a, b, h2, h3, h4, h5, h6⟩ | ⟨h1, p, a, b, h2, h3, h4, h5, h6, h7, h8⟩ | ⟨h1, p, a, h2, h3, h5, h6, h7⟩
        · rw [c2] at h1; exact absurd h1 (by decide)
        · rw [c2, if_neg (by decide), h2, show q_c (nI a) = a from nI_clamp (by have := q_ok_b w h4; omega)]; exact h5
        · rw [c2] at h1; exact absurd h1 (by decide)
        · rw [c2] at h1; exact absurd h1 (by decide)
      unfold q_tg
      rw [ht _ b.1 hu]
    · rw [if_neg c2, if_neg c2]
end
