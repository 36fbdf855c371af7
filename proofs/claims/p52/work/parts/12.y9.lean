noncomputable section
-- the order of reckoned columns, both sides
theorem q_kc_3 {x : Int32} : q_kc x = 3 ↔ x = 2 := by
  unfold q_kc
  by_cases h0 : x = 0
  · rw [if_pos h0, h0]; decide
  rw [if_neg h0]
  by_cases h1 : x = 1
  · rw [if_pos h1, h1]; decide
  rw [if_neg h1]
  by_cases h2 : x = 2
  · rw [if_pos h2, h2]; decide
  · rw [if_neg h2]; exact ⟨fun q => absurd q (by decide), fun q => absurd q h2⟩
theorem q_kc_2 {x : Int32} : q_kc x = 2 ↔ x = 1 := by
  unfold q_kc
  by_cases h0 : x = 0
  · rw [if_pos h0, h0]; decide
  rw [if_neg h0]
  by_cases h1 : x = 1
  · rw [if_pos h1, h1]; decide
  rw [if_neg h1]
  by_cases h2 : x = 2
  · rw [if_pos h2, h2]; decide
  · rw [if_neg h2]; exact ⟨fun q => absurd q (by decide), fun q => absurd q h1⟩
theorem q_kc_1 {x : Int32} : q_kc x = 1 ↔ x = 0 := by
  unfold q_kc
  by_cases h0 : x = 0
  · rw [if_pos h0, h0]; decide
  rw [if_neg h0]
  by_cases h1 : x = 1
  · rw [if_pos h1, h1]; decide
  rw [if_neg h1]
  by_cases h2 : x = 2
  · rw [if_pos h2, h2]; decide
  · rw [if_neg h2]; exact ⟨fun q => absurd q (by decide), fun q => absurd q h0⟩
/-- a used column's number, as the model has it -/
def q_uI (u : Nat) : Int32 := if u = 24 then -1 else nI u
theorem q_f_n {A : am_M} (w : q_wd A) {k : Nat} (hk : k < 24) (h : A 209 k = 2) : (A 215 k = nI (q_c (A 215 k)) ∧ q_c (A 215 k) < 6) ∧ (A 214 k = 3 ∨ A 214 k = 4 → A 217 k = nI (q_c (A 217 k)) ∧ q_c (A 217 k) < 4) ∧ (A 214 k ≠ 4 → A 216 k = nI (q_c (A 216 k)) ∧ q_c (A 216 k) < 6) ∧ (A 214 k = 2 ∨ A 214 k = 3 ∨ A 214 k = 4 → A 209 (q_u1 A k) = 1) ∧ (A 214 k = 3 ∨ A 214 k = 4 → q_tg A (q_u1 A k) = k / 6) ∧ (A 214 k = 0 ∨ A 214 k = 1 ∨ A 214 k = 2 ∨ A 214 k = 3 ∨ A 214 k = 4) := by
  have hf := w.2.2.2.2.2 k hk h
  have e1 : ∀ {a : Nat}, a < 6 → q_c (nI a) = a := fun h => nI_clamp (by omega)
  unfold q_u1 q_tb
  rcases hf with ⟨h1, a, b, h2, h3, h4, h5⟩ | ⟨h1, a, b, h2, h3, h4, h5, h6⟩ | ⟨h1, p, a, b, h2, h3, h4, h5, h6, h7, h8⟩ | ⟨h1, p, a, h2, h3, h5, h6, h7⟩
  · have b4 := q_ok_b w h4
    have b5 := q_ok_b w h5
    have n2 : ¬ A 214 k = 2 := by rcases h1 with h1 | h1 <;> rw [h1] <;> decide
    have n3 : ¬ A 214 k = 3 := by rcases h1 with h1 | h1 <;> rw [h1] <;> decide
    have n4 : ¬ A 214 k = 4 := by rcases h1 with h1 | h1 <;> rw [h1] <;> decide
    rw [h2, h3, e1 b4.2, e1 b5.2]
    exact ⟨⟨rfl, b4.2⟩, fun q => by rcases q with q | q; exact absurd q n3; exact absurd q n4, fun _ => ⟨rfl, b5.2⟩, fun q => by rcases q with q | q | q; exact absurd q n2; exact absurd q n3; exact absurd q n4, fun q => by rcases q with q | q; exact absurd q n3; exact absurd q n4, by rcases h1 with h1 | h1; exact Or.inl h1; exact Or.inr (Or.inl h1)⟩
  · have b4 := q_ok_b w h4
    have b6 := q_ok_b w h6
    rw [h1, h2, h3, e1 b4.2, e1 b6.2, if_neg (by decide)]
    exact ⟨⟨rfl, b4.2⟩, fun q => absurd q (by decide), fun _ => ⟨rfl, b6.2⟩, fun _ => h5, fun q => absurd q (by decide), by decide⟩
  · have b5 := q_ok_b w h5
    have b8 := q_ok_b w h8
    rw [h1, h2, h3, h4, e1 b5.2, e1 b8.2, e1 (show p < 6 by omega), if_pos (Or.inl rfl)]
    exact ⟨⟨rfl, b5.2⟩, fun _ => ⟨rfl, b5.1⟩, fun _ => ⟨rfl, b8.2⟩, fun _ => h6, fun _ => h7, by decide⟩
  · have b5 := q_ok_b w h5
    rw [h1, h2, h3, e1 b5.2, e1 (show p < 6 by omega), if_pos (Or.inr rfl)]
    exact ⟨⟨rfl, b5.2⟩, fun _ => ⟨rfl, b5.1⟩, fun q => absurd rfl q, fun _ => h6, fun _ => h7, by decide⟩
theorem qo_p1 (s : am_M) {k : Nat} (hk : k < 24) : p_MO_firstUsed s (nI k) := by
  have v : vp_in (nI k) 24 := vp_in_nI hk (by omega)
  exact ⟨v, fun _ => ⟨v, v, trivial⟩, fun _ => ⟨v, fun _ => ⟨v, v, trivial⟩, fun _ => ⟨v, trivial⟩⟩⟩
theorem qo_u1 {s A : am_M} (m : q_md s A) (w : q_wd A) {k : Nat} (hk : k < 24) (h : A 209 k = 2) : f_MO_firstUsed s (nI k) = nI (q_u1 A k) := by
  obtain ⟨n1, n2, n3, n4, n5, n6⟩ := q_f_n w hk h
  unfold f_MO_firstUsed f_MO_firstUsed_20 f_MO_firstUsed_33
  rw [nI_clamp (n := k) (by omega), m.2 214 (by omega) (by omega), m.2 215 (by omega) (by omega), m.2 217 (by omega) (by omega), qd_6 (by omega)]
  unfold q_u1 q_tb
  by_cases c3 : A 214 k = 3
  · rw [if_pos c3, if_pos (Or.inl c3), (n2 (Or.inl c3)).1, n1.1, qw_6, nI_add, ← (n2 (Or.inl c3)).1, ← n1.1]
  · rw [if_neg c3]
    by_cases c4 : A 214 k = 4
    · rw [if_pos c4, if_pos (Or.inr c4), (n2 (Or.inr c4)).1, n1.1, qw_6, nI_add, ← (n2 (Or.inr c4)).1, ← n1.1]
    · rw [if_neg c4, if_neg (fun q => q.elim c3 c4), n1.1, qw_6, nI_add, ← n1.1]
theorem qo_u2 {s A : am_M} (m : q_md s A) (w : q_wd A) {k : Nat} (hk : k < 24) (h : A 209 k = 2) : p_MO_secondUsed s (nI k) ∧ f_MO_secondUsed s (nI k) = q_uI (q_u2 A k) := by
  obtain ⟨n1, n2, n3, n4, n5, n6⟩ := q_f_n w hk h
  have b := q_u_b w hk h
  have v : vp_in (nI k) 24 := vp_in_nI hk (by omega)
  unfold p_MO_secondUsed f_MO_secondUsed f_MO_secondUsed_58 p_MO_secondUsed_58
  rw [qo_u1 m w hk h, nI_clamp (n := k) (by omega), nI_clamp (n := q_u1 A k) (by omega), m.2 214 (by omega) (by omega), m.2 216 (by omega) (by omega), m.2 217 (by omega) (by omega), m.2 212 (by omega) (by omega), qd_6 (by omega)]
  refine ⟨⟨v, fun _ => trivial, fun _ => ⟨v, fun _ => ⟨v, v, trivial⟩, fun _ => ⟨v, fun _ => ⟨qo_p1 s hk, vp_in_nI b.1 (by omega), v, trivial⟩, fun _ => ⟨v, trivial⟩⟩⟩⟩, ?_⟩
  unfold q_u2
  by_cases c4 : A 214 k = 4
  · rw [if_pos c4, if_pos c4]; rfl
  rw [if_neg c4, if_neg c4]
  have n3' := n3 c4
  have hb := b.2
  unfold q_u2 at hb
  rw [if_neg c4] at hb
  have hlt : 6 * (if A 214 k = 2 then q_tg A (q_u1 A k) else q_tb A k) + q_c (A 216 k) < 24 := by
    rcases hb with hb | hb
    · exact hb
    · exfalso
      have : (if A 214 k = 2 then q_tg A (q_u1 A k) else q_tb A k) < 4 := by
        by_cases c2 : A 214 k = 2
        · rw [if_pos c2]
          have := (w.2.2.2.1 _ b.1 (n4 (Or.inl c2))).2
          have := w.1.2
          omega
        · rw [if_neg c2]
          unfold q_tb
          by_cases c3 : A 214 k = 3 ∨ A 214 k = 4
          · rw [if_pos c3]; exact (n2 c3).2
          · rw [if_neg c3]; omega
      omega
  unfold q_uI
  have hne := Nat.ne_of_lt hlt
  rw [if_neg hne]
  by_cases c3 : A 214 k = 3
  · have c2 : ¬ A 214 k = 2 := by rw [c3]; decide
    rw [if_pos c3, if_neg c2]
    unfold q_tb
    rw [if_pos (Or.inl c3), (n2 (Or.inl c3)).1, n3'.1, qw_6, nI_add, ← (n2 (Or.inl c3)).1, ← n3'.1]
  · rw [if_neg c3]
    by_cases c2 : A 214 k = 2
    · rw [if_pos c2, if_pos c2, (w.2.2.2.1 _ b.1 (n4 (Or.inl c2))).1, n3'.1, qw_6, nI_add, ← n3'.1]
    · rw [if_neg c2, if_neg c2, n3'.1, qw_6, nI_add, ← n3'.1]
      unfold q_tb
      rw [if_neg (fun q => q.elim c3 c4)]
theorem qo_ready {s A : am_M} (m : q_md s A) {u : Nat} (hu : u < 24 ∨ u = 24) : p_MO_isReady s (q_uI u) ∧ f_MO_isReady s (q_uI u) = if q_kn A (s 221) u then 1 else 0 := by
  unfold p_MO_isReady f_MO_isReady q_uI
  rcases hu with hu | hu
  · have v : vp_in (nI u) 24 := vp_in_nI hu (by omega)
    have hn : ¬ nI u = -1 := fun q => by
      have := congrArg Int32.toInt q
      rw [nI_toInt (by omega)] at this
      have e : (-1 : Int32).toInt = -1 := by decide
      omega
    rw [if_neg (show ¬ u = 24 by omega), nI_clamp (n := u) (by omega), m.2 209 (by omega) (by omega), if_neg hn]
    refine ⟨⟨fun _ => trivial, fun _ => ⟨v, fun _ => ⟨v, fun _ => trivial, fun _ => trivial⟩, fun _ => trivial⟩⟩, ?_⟩
    by_cases c2 : A 209 u = 2
    · rw [if_pos c2]
      by_cases c0 : s 221 u = 0
      · rw [if_pos c0, if_neg]
        rintro (q | q | q)
        · omega
        · exact q c2
        · exact q c0
      · rw [if_neg c0, if_pos (Or.inr (Or.inr c0))]
    · rw [if_neg c2, if_pos (Or.inr (Or.inl c2))]
  · rw [if_pos hu, if_pos rfl, if_pos (Or.inl hu)]
    exact ⟨⟨fun _ => trivial, fun q => absurd rfl q⟩, rfl⟩
theorem qo_next {s A : am_M} (m : q_md s A) (w : q_wd A) : ∀ (d j n : Nat), j + d = 24 → d < n → p_MO_nextReckoned_2 n s (nI j) ∧ f_MO_nextReckoned_2 n s (nI j) = q_uI (q_fi (q_nx A (s 221)) d j) := by
  intro d
  induction d with
  | zero =>
    intro j n h1 h2
    obtain ⟨n, rfl⟩ : ∃ k, n = k + 1 := ⟨n - 1, by omega⟩
    unfold p_MO_nextReckoned_2 f_MO_nextReckoned_2 q_fi q_uI
    have c : (24 : Int32) ≤ nI j := qg_24 (by omega) (by omega)
    rw [if_pos c, if_pos (by omega)]
    exact ⟨⟨fun _ => trivial, fun q => absurd c q⟩, rfl⟩
  | succ d ih =>
    intro j n h1 h2
    obtain ⟨n, rfl⟩ : ∃ k, n = k + 1 := ⟨n - 1, by omega⟩
    have hj : j < 24 := by omega
    have c : ¬ (24 : Int32) ≤ nI j := ql_24 hj
    have ih := ih (j + 1) n (by omega) (by omega)
    have v : vp_in (nI j) 24 := vp_in_nI hj (by omega)
    unfold p_MO_nextReckoned_2 f_MO_nextReckoned_2 p_MO_nextReckoned_53 f_MO_nextReckoned_53 q_fi
    rw [nI_1, nI_clamp (n := j) (by omega), m.2 209 (by omega) (by omega), if_neg c]
    by_cases c2 : A 209 j = 2
    · rw [if_pos c2]
      by_cases c0 : s 221 j = 0
      · have b := q_u_b w hj c2
        have r1 := qo_ready m (Or.inl b.1)
        have r2 := qo_ready m b.2
        have u1 := qo_u1 m w hj c2
        have u2 := qo_u2 m w hj c2
        have e1 : q_uI (q_u1 A j) = nI (q_u1 A j) := if_neg (by omega)
        rw [e1] at r1
        rw [if_pos c0, u1, u2.2, r1.2, r2.2]
        refine ⟨⟨fun q => absurd q c, fun _ => ⟨v, fun _ => ⟨v, fun _ => ⟨qo_p1 s hj, r1.1, fun _ => ih.1, fun _ => ⟨u2.1, r2.1, fun _ => ih.1, fun _ => trivial⟩⟩, fun _ => ih.1⟩, fun _ => ih.1⟩⟩, ?_⟩
        by_cases k1 : q_kn A (s 221) (q_u1 A j)
        · rw [if_pos k1, if_neg (by decide)]
          by_cases k2 : q_kn A (s 221) (q_u2 A j)
          · rw [if_pos k2, if_neg (by decide), if_pos ⟨c2, c0, k1, k2⟩]
            exact (if_neg (by omega)).symm
          · rw [if_neg k2, if_pos rfl, if_neg (fun q => k2 q.2.2.2)]; exact ih.2
        · rw [if_neg k1, if_pos rfl, if_neg (fun q => k1 q.2.2.1)]; exact ih.2
      · rw [if_neg c0, if_neg (fun q => c0 q.2.1)]
        exact ⟨⟨fun q => absurd q c, fun _ => ⟨v, fun _ => ⟨v, fun q => absurd q c0, fun _ => ih.1⟩, fun q => absurd c2 q⟩⟩, ih.2⟩
    · rw [if_neg c2, if_neg (fun q => c2 q.1)]
      exact ⟨⟨fun q => absurd q c, fun _ => ⟨v, fun q => absurd q c2, fun _ => ih.1⟩⟩, ih.2⟩
theorem qo_nextM {s A : am_M} (m : q_md s A) (w : q_wd A) : p_MO_nextReckoned s ∧ f_MO_nextReckoned s = q_uI (q_next A (s 221)) := by
  have h := qo_next m w 24 0 am_F (by omega) (by rw [am_F_eq]; omega)
  rw [nI_0] at h
  exact h
/-- how many are left -/
theorem q_left_0 {A : am_M} {c : Nat → Int32} : ∀ (d j : Nat), q_co (fun k => A 209 k = 2 ∧ c k = 0) d j = 0 → ∀ k, j ≤ k → k < j + d → ¬ (A 209 k = 2 ∧ c k = 0) := by
  intro d
  induction d with
  | zero => intro j _ k h1 h2; omega
  | succ d ih =>
    intro j h k h1 h2
    unfold q_co at h
    by_cases c9 : A 209 j = 2 ∧ c j = 0
    · rw [if_pos c9] at h; omega
    · rw [if_neg c9] at h
      by_cases e : k = j
      · rw [e]; exact c9
      · exact ih (j + 1) (by omega) k (by omega) (by omega)
theorem q_co_up {A : am_M} {c : Nat → Int32} {x : Nat} (hx : A 209 x = 2 ∧ c x = 0) : ∀ (d j : Nat), j ≤ x → x < j + d → q_co (fun k => A 209 k = 2 ∧ c k = 0) d j = q_co (fun k => A 209 k = 2 ∧ upd c x 1 k = 0) d j + 1 := by
  intro d
  induction d with
  | zero => intro j h1 h2; omega
  | succ d ih =>
    intro j h1 h2
    unfold q_co
    by_cases e : x = j
    · subst e
      rw [if_pos hx, if_neg (by
        rintro ⟨-, q⟩
        simp [upd] at q)]
      have : q_co (fun k => A 209 k = 2 ∧ c k = 0) d (x + 1) = q_co (fun k => A 209 k = 2 ∧ upd c x 1 k = 0) d (x + 1) := q_co_c d (x + 1) (fun k k1 k2 => by
        have : upd c x 1 k = c k := by unfold upd; rw [if_neg (by omega)]
        rw [this])
      omega
    · have := ih (j + 1) (by omega) (by omega)
      have e2 : upd c x 1 j = c j := by unfold upd; rw [if_neg (fun q => e q.symm)]
      rw [e2]
      omega
theorem q_next_b {A : am_M} (c : Nat → Int32) : q_next A c ≤ 24 ∧ (q_next A c ≠ 24 → q_nx A c (q_next A c)) := by
  obtain ⟨h1, h2, h3, h4⟩ := @q_fi_le (q_nx A c) _ 24 0
  unfold q_next
  exact ⟨by omega, fun q => h3 (by omega)⟩
theorem q_left_n {A : am_M} {c : Nat → Int32} (h : q_left A c = 0) : q_next A c = 24 := by
  by_cases e : q_next A c = 24
  · exact e
  · exfalso
    have b := q_next_b (A := A) c
    have n := b.2 e
    exact q_left_0 24 0 h (q_next A c) (by omega) (by omega) ⟨n.1, n.2.1⟩
theorem q_left_s {A : am_M} {c : Nat → Int32} (h : q_next A c ≠ 24) : q_left A c = q_left A (upd c (q_next A c) 1) + 1 := by
  have b := q_next_b (A := A) c
  have n := b.2 h
  exact q_co_up ⟨n.1, n.2.1⟩ 24 0 (by omega) (by omega)
theorem q_lay_0 {A : am_M} {c : Nat → Int32} {r : Nat} (h : q_next A c = 24) : q_lay A r c = [] := by
  cases r with
  | zero => rfl
  | succ r => unfold q_lay; rw [if_pos h]
theorem q_lay_len {A : am_M} : ∀ (r : Nat) (c : Nat → Int32), (q_lay A r c).length ≤ r := by
  intro r
  induction r with
  | zero => intro c; exact Nat.le_refl _
  | succ r ih =>
    intro c
    unfold q_lay
    by_cases e : q_next A c = 24
    · rw [if_pos e]; exact Nat.zero_le _
    · rw [if_neg e, List.length_cons]; have := ih (upd c (q_next A c) 1); omega
theorem q_uI_ne {u : Nat} (h : u < 24) : q_uI u = nI u ∧ ¬ q_uI u = -1 := by
  have e : q_uI u = nI u := if_neg (by omega)
  refine ⟨e, fun q => ?_⟩
  rw [e] at q
  have := congrArg Int32.toInt q
  rw [nI_toInt (by omega)] at this
  have e : (-1 : Int32).toInt = -1 := by decide
  omega
/-- places outside -/
def q_out (s t : am_M) (P : Nat → Nat → Prop) : Prop := ∀ a b, ¬ P a b → t a b = s a b
theorem qo_M51 {A : am_M} (w : q_wd A) : ∀ (r m n : Nat) (s : am_M), q_md s A → s 207 15 = nI m → q_left A (s 221) = r → m + r ≤ 24 → r < n → p_MO_laysOrder_51 n s (nI (m + r)) (q_uI (q_next A (s 221))) ∧ ∃ t, f_MO_laysOrder_51 n s (nI (m + r)) (q_uI (q_next A (s 221))) = ((if (q_lay A r (s 221)).length = r then 1 else 0), t) ∧ q_out s t (fun a b => (a = 207 ∧ b = 15) ∨ a = 220 ∨ a = 221) ∧ t 207 15 = nI (m + (q_lay A r (s 221)).length) ∧ (∀ i, i < m → t 220 i = s 220 i) ∧ (∀ i, i < (q_lay A r (s 221)).length → t 220 (m + i) = nI ((q_lay A r (s 221)).getD i 0)) := by
  intro r
  induction r with
  | zero =>
    intro m n s md h1 h2 h3 h4
    obtain ⟨n, rfl⟩ : ∃ k, n = k + 1 := ⟨n - 1, by omega⟩
    have e : q_next A (s 221) = 24 := q_left_n h2
    have e2 : q_uI 24 = -1 := rfl
    rw [e, e2]
    unfold p_MO_laysOrder_51 f_MO_laysOrder_51
    rw [if_pos rfl, if_pos (show s 207 15 = nI (m + 0) from h1)]
    refine ⟨⟨fun _ => ⟨fun _ => trivial, fun _ => trivial⟩, fun q => absurd rfl q⟩, s, rfl, fun _ _ _ => rfl, h1, fun _ _ => rfl, fun i hi => absurd hi (Nat.not_lt_zero _)⟩
  | succ r ih =>
    intro m n s md h1 h2 h3 h4
    obtain ⟨n, rfl⟩ : ∃ k, n = k + 1 := ⟨n - 1, by omega⟩
    by_cases e : q_next A (s 221) = 24
    · have e2 : q_uI 24 = -1 := rfl
      rw [e, e2, q_lay_0 e]
      unfold p_MO_laysOrder_51 f_MO_laysOrder_51
      rw [if_pos rfl, if_neg (by rw [h1, nI_eq (by omega) (by omega)]; omega)]
      exact ⟨⟨fun _ => ⟨fun _ => trivial, fun _ => trivial⟩, fun q => absurd rfl q⟩, s, rfl, fun _ _ _ => rfl, h1, fun _ _ => rfl, fun i hi => absurd hi (Nat.not_lt_zero _)⟩
    · have b := q_next_b (A := A) (s 221)
      have hx : q_next A (s 221) < 24 := by omega
      have u := q_uI_ne hx
      have hl := q_left_s e
      generalize hx9 : q_next A (s 221) = x at *
      have hs : ∀ y : Int32, am_set s 220 m y 207 15 = nI m := fun y => by rw [am_set_p (by omega)]; exact h1
      unfold p_MO_laysOrder_51 f_MO_laysOrder_51 q_lay
      rw [hx9, if_neg e, u.1, h1, nI_clamp (n := m) (by omega), nI_clamp (n := x) (by omega), hs, nI_1, if_neg (by rw [← u.1]; exact u.2)]
      generalize hS : am_set (am_set (am_set s 220 m (nI x)) 207 15 (nI (m + 1))) 221 x 1 = S
      have mS : q_md S A := by rw [← hS]; exact q_md_set (by omega) (q_md_set (by omega) (q_md_set (by omega) md))
      have cS : S 221 = upd (s 221) x 1 := by rw [← hS, am_set_s, am_set_o (by omega), am_set_o (by omega)]
      have kS : S 207 15 = nI (m + 1) := by rw [← hS]; simp [am_set, upd]
      have nx := qo_nextM mS w
      obtain ⟨p1, t, t1, t2, t3, t4, t5⟩ := ih (m + 1) n S mS kS (by rw [cS]; omega) (by omega) (by omega)
      rw [show m + 1 + r = m + (r + 1) from by omega] at p1 t1
      rw [nx.2]
      refine ⟨⟨fun q => absurd (u.1.trans q) u.2, fun _ => ⟨vp_in_nI (by omega) (by omega), vp_in_nI hx (by omega), nx.1, p1⟩⟩, t, ?_, fun a b9 hab => ?_, ?_, fun i hi => ?_, fun i hi => ?_⟩
      · rw [t1, cS, List.length_cons]
        by_cases g : (q_lay A r (upd (s 221) x 1)).length = r
        · rw [if_pos g, if_pos (by omega)]
        · rw [if_neg g, if_neg (by omega)]
      · rw [t2 a b9 hab, ← hS, am_set_p (by omega), am_set_p (by omega), am_set_p (by omega)]
      · rw [t3, cS, List.length_cons, show m + 1 + (q_lay A r (upd (s 221) x 1)).length = m + ((q_lay A r (upd (s 221) x 1)).length + 1) from by omega]
      · rw [t4 i (by omega), ← hS, am_set_o (by omega), am_set_o (by omega), am_set_p (by omega)]
      · rw [cS] at t5
        cases i with
        | zero =>
          rw [Nat.add_zero, t4 m (by omega), ← hS, am_set_o (by omega), am_set_o (by omega), am_set_q]; rfl
        | succ i =>
          rw [List.length_cons] at hi
          rw [List.getD_cons_succ, show m + (i + 1) = m + 1 + i from by omega]
          exact t5 i (by omega)
end
