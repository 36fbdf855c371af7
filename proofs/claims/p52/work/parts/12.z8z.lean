noncomputable section
-- is a column used? (rules, reckoned columns, questions)
def q_ur (U : am_M) (T C r : Nat) : Prop := U 227 r = 0 ∧ U 222 r = nI T ∧ (U 223 r = nI C ∨ U 225 r = nI C)
def q_ucl (A : am_M) (k p : Nat) : Prop := A 209 p = 2 ∧ (q_u1 A p = k ∨ q_u2 A p = k)
/-- nothing uses the column -/
def q_free (A U Q : am_M) (T C : Nat) : Prop := (∀ p, p < 24 → ¬ q_ucl A (6 * T + C) p) ∧ (∀ r, r < q_c (U 207 17) → ¬ q_ur U T C r) ∧ ∀ j, j < q_nq Q → ¬ q_ask Q j (10 * T + C)
theorem qm_u145 {s A Q : am_M} (w : q_wd A) (qm : q_qm s Q) (qw : q_qw A Q) {T C : Nat} (hT : T < 4) (hC : C < 6) (x1 x2 : Int32) : ∀ (d j n : Nat) (x4 : Int32), j + d = q_nq Q → d < n → (x4 = 0 ∨ x4 = 1) → p_MO_isUsed_145 n s x1 x2 (nI (6 * T + C)) x4 (nI j) ∧ (f_MO_isUsed_145 n s x1 x2 (nI (6 * T + C)) x4 (nI j) = 0 ↔ x4 = 0 ∧ ∀ j', j ≤ j' → j' < q_nq Q → ¬ q_ask Q j' (10 * T + C)) := by
  have h8 := qw.1.2
  have es : s 207 39 = nI (q_nq Q) := qm.1.trans qw.1.1
  intro d
  induction d with
  | zero =>
    intro j n x4 h1 h2 hx
    obtain ⟨n, rfl⟩ : ∃ k, n = k + 1 := ⟨n - 1, by omega⟩
    have c : nI (q_nq Q) ≤ nI j := nI_le (by omega) (by omega)
    unfold p_MO_isUsed_145 f_MO_isUsed_145
    rw [es, if_pos c]
    exact ⟨⟨fun _ => ⟨hx, trivial⟩, fun q => absurd c q⟩, fun q => ⟨q, fun j' _ _ => by omega⟩, fun q => q.1⟩
  | succ d ih =>
    intro j n x4 h1 h2 hx
    obtain ⟨n, rfl⟩ : ∃ k, n = k + 1 := ⟨n - 1, by omega⟩
    have c : ¬ nI (q_nq Q) ≤ nI j := nI_ge (by omega) (by omega)
    obtain ⟨pt, rt⟩ := ih (j + 1) n 1 (by omega) (by omega) (Or.inr rfl)
    obtain ⟨pf, rf⟩ := ih (j + 1) n 0 (by omega) (by omega) (Or.inl rfl)
    obtain ⟨a1, a2⟩ := qm_asked w qm qw (show j < q_nq Q by omega) hT hC
    have n1 : ¬ f_MO_isUsed_145 n s x1 x2 (nI (6 * T + C)) 1 (nI (j + 1)) = 0 := fun q => absurd (rt.mp q).1 i10
    unfold p_MO_isUsed_145 f_MO_isUsed_145 p_MO_isUsed_174 f_MO_isUsed_174 p_MO_isUsed_169 f_MO_isUsed_169 p_MO_isUsed_174 f_MO_isUsed_174
    rw [es, if_neg c, nI_1]
    refine ⟨⟨fun q => absurd q c, fun _ => ⟨fun _ => ⟨a1, fun _ => pf, fun _ => pt⟩, fun _ => pt⟩⟩, ?_⟩
    rcases hx with rfl | rfl
    · rw [if_pos rfl]
      by_cases q : f_MO_isAsked s (nI j) (nI (6 * T + C)) = 0
      · rw [if_pos q, rf]
        constructor
        · rintro ⟨-, r⟩
          refine ⟨rfl, fun j' h1' h2' => ?_⟩
          by_cases e : j' = j
          · rw [e]; exact a2.mp q
          · exact r j' (by omega) h2'
        · rintro ⟨-, r⟩
          exact ⟨rfl, fun j' h1' h2' => r j' (by omega) h2'⟩
      · rw [if_neg q]
        exact ⟨fun q2 => absurd q2 n1, fun q2 => absurd (a2.mpr (q2.2 j (Nat.le_refl _) (by omega))) q⟩
    · rw [if_neg i10]
      exact ⟨fun q2 => absurd q2 n1, fun q2 => absurd q2.1 i10⟩
theorem qm_u72 {s A U Q : am_M} (w : q_wd A) (um : q_um s U) (uw : q_uw U) (qm : q_qm s Q) (qw : q_qw A Q) {T C : Nat} (hT : T < 4) (hC : C < 6) : ∀ (d r n : Nat) (x4 : Int32), r + d = q_c (U 207 17) → d < n → (x4 = 0 ∨ x4 = 1) → p_MO_isUsed_72 n s (nI T) (nI C) (nI (6 * T + C)) x4 (nI r) ∧ (f_MO_isUsed_72 n s (nI T) (nI C) (nI (6 * T + C)) x4 (nI r) = 0 ↔ x4 = 0 ∧ (∀ r', r ≤ r' → r' < q_c (U 207 17) → ¬ q_ur U T C r') ∧ ∀ j', j' < q_nq Q → ¬ q_ask Q j' (10 * T + C)) := by
  have h8 := qw.1.2
  have u8 := uw.1.2
  have es : s 207 17 = nI (q_c (U 207 17)) := um.1.trans uw.1.1
  intro d
  induction d with
  | zero =>
    intro r n x4 h1 h2 hx
    obtain ⟨n, rfl⟩ : ∃ k, n = k + 1 := ⟨n - 1, by omega⟩
    have c : nI (q_c (U 207 17)) ≤ nI r := nI_le (by omega) (by omega)
    obtain ⟨a1, a2⟩ := qm_u145 (s := s) w qm qw hT hC (nI T) (nI C) (q_nq Q) 0 am_F x4 (by omega) (by rw [am_F_eq]; omega) hx
    rw [nI_0] at a1 a2
    unfold p_MO_isUsed_72 f_MO_isUsed_72 p_MO_isUsed_142 f_MO_isUsed_142
    rw [es, if_pos c, a2]
    exact ⟨⟨fun _ => a1, fun q => absurd c q⟩, fun q => ⟨q.1, fun r' _ _ => by omega, fun j' h => q.2 j' (Nat.zero_le _) h⟩, fun q => ⟨q.1, fun j' _ h => q.2.2 j' h⟩⟩
  | succ d ih =>
    intro r n x4 h1 h2 hx
    obtain ⟨n, rfl⟩ : ∃ k, n = k + 1 := ⟨n - 1, by omega⟩
    have c : ¬ nI (q_c (U 207 17)) ≤ nI r := nI_ge (by omega) (by omega)
    have v : vp_in (nI r) 8 := vp_in_nI (by omega) (by omega)
    obtain ⟨pt, rt⟩ := ih (r + 1) n 1 (by omega) (by omega) (Or.inr rfl)
    obtain ⟨pf, rf⟩ := ih (r + 1) n 0 (by omega) (by omega) (Or.inl rfl)
    have n1 : ¬ f_MO_isUsed_72 n s (nI T) (nI C) (nI (6 * T + C)) 1 (nI (r + 1)) = 0 := fun q => absurd (rt.mp q).1 i10
    have go0 : ¬ q_ur U T C r → (f_MO_isUsed_72 n s (nI T) (nI C) (nI (6 * T + C)) 0 (nI (r + 1)) = 0 ↔ (0 : Int32) = 0 ∧ (∀ r', r ≤ r' → r' < q_c (U 207 17) → ¬ q_ur U T C r') ∧ ∀ j', j' < q_nq Q → ¬ q_ask Q j' (10 * T + C)) := fun hno => by
      rw [rf]
      constructor
      · rintro ⟨-, q1, q2⟩
        refine ⟨rfl, fun r' h1' h2' => ?_, q2⟩
        by_cases e : r' = r
        · rw [e]; exact hno
        · exact q1 r' (by omega) h2'
      · rintro ⟨-, q1, q2⟩
        exact ⟨rfl, fun r' h1' h2' => q1 r' (by omega) h2', q2⟩
    have go1 : q_ur U T C r → (f_MO_isUsed_72 n s (nI T) (nI C) (nI (6 * T + C)) 1 (nI (r + 1)) = 0 ↔ (0 : Int32) = 0 ∧ (∀ r', r ≤ r' → r' < q_c (U 207 17) → ¬ q_ur U T C r') ∧ ∀ j', j' < q_nq Q → ¬ q_ask Q j' (10 * T + C)) := fun hyes =>
      ⟨fun q => absurd q n1, fun q => absurd hyes (q.2.1 r (Nat.le_refl _) (by omega))⟩
    unfold p_MO_isUsed_72 f_MO_isUsed_72 p_MO_isUsed_129 f_MO_isUsed_129 p_MO_isUsed_133 f_MO_isUsed_133 p_MO_isUsed_134 f_MO_isUsed_134
    rw [es, if_neg c, nI_clamp (n := r) (by omega), um.2 227 (by omega) (by omega), um.2 222 (by omega) (by omega), um.2 223 (by omega) (by omega), um.2 225 (by omega) (by omega), nI_1]
    refine ⟨⟨fun q => absurd q c, fun _ => ⟨fun _ => ⟨v, fun _ => ⟨v, fun _ => ⟨v, fun _ => pt, fun _ => ⟨v, fun _ => pt, fun _ => pf⟩⟩, fun _ => pf⟩, fun _ => pf⟩, fun _ => pt⟩⟩, ?_⟩
    rcases hx with rfl | rfl
    · rw [if_pos rfl]
      by_cases q7 : U 227 r = 0
      · rw [if_pos q7]
        by_cases q2 : U 222 r = nI T
        · rw [if_pos q2]
          by_cases q3 : U 223 r = nI C
          · rw [if_pos q3]; exact go1 ⟨q7, q2, Or.inl q3⟩
          · rw [if_neg q3]
            by_cases q5 : U 225 r = nI C
            · rw [if_pos q5]; exact go1 ⟨q7, q2, Or.inr q5⟩
            · rw [if_neg q5]; exact go0 (fun q => q.2.2.elim q3 q5)
        · rw [if_neg q2]; exact go0 (fun q => q2 q.2.1)
      · rw [if_neg q7]; exact go0 (fun q => q7 q.1)
    · rw [if_neg i10]
      exact ⟨fun q2 => absurd q2 n1, fun q2 => absurd q2.1 i10⟩
theorem qm_u13 {s A U Q : am_M} (md : q_md s A) (w : q_wd A) (um : q_um s U) (uw : q_uw U) (qm : q_qm s Q) (qw : q_qw A Q) {T C : Nat} (hT : T < 4) (hC : C < 6) : ∀ (d p n : Nat) (x4 : Int32), p + d = 24 → d < n → (x4 = 0 ∨ x4 = 1) → p_MO_isUsed_13 n s (nI T) (nI C) (nI (6 * T + C)) x4 (nI p) ∧ (f_MO_isUsed_13 n s (nI T) (nI C) (nI (6 * T + C)) x4 (nI p) = 0 ↔ x4 = 0 ∧ (∀ p', p ≤ p' → p' < 24 → ¬ q_ucl A (6 * T + C) p') ∧ (∀ r', r' < q_c (U 207 17) → ¬ q_ur U T C r') ∧ ∀ j', j' < q_nq Q → ¬ q_ask Q j' (10 * T + C)) := by
  have u8 := uw.1.2
  intro d
  induction d with
  | zero =>
    intro p n x4 h1 h2 hx
    obtain ⟨n, rfl⟩ : ∃ k, n = k + 1 := ⟨n - 1, by omega⟩
    have e : p = 24 := by omega
    subst e
    have c : (24 : Int32) ≤ nI 24 := qg_24 (Nat.le_refl _) (by omega)
    obtain ⟨a1, a2⟩ := qm_u72 (s := s) w um uw qm qw hT hC (q_c (U 207 17)) 0 am_F x4 (by omega) (by rw [am_F_eq]; omega) hx
    rw [nI_0] at a1 a2
    unfold p_MO_isUsed_13 f_MO_isUsed_13 p_MO_isUsed_69 f_MO_isUsed_69
    rw [if_pos c, a2]
    exact ⟨⟨fun _ => a1, fun q => absurd c q⟩, fun q => ⟨q.1, fun p' _ _ => by omega, fun r' h => q.2.1 r' (Nat.zero_le _) h, q.2.2⟩, fun q => ⟨q.1, fun r' _ h => q.2.2.1 r' h, q.2.2.2⟩⟩
  | succ d ih =>
    intro p n x4 h1 h2 hx
    obtain ⟨n, rfl⟩ : ∃ k, n = k + 1 := ⟨n - 1, by omega⟩
    have hp : p < 24 := by omega
    have c : ¬ (24 : Int32) ≤ nI p := ql_24 hp
    have v : vp_in (nI p) 24 := vp_in_nI (by omega) (by omega)
    obtain ⟨pt, rt⟩ := ih (p + 1) n 1 (by omega) (by omega) (Or.inr rfl)
    obtain ⟨pf, rf⟩ := ih (p + 1) n 0 (by omega) (by omega) (Or.inl rfl)
    have n1 : ¬ f_MO_isUsed_13 n s (nI T) (nI C) (nI (6 * T + C)) 1 (nI (p + 1)) = 0 := fun q => absurd (rt.mp q).1 i10
    have go0 : ¬ q_ucl A (6 * T + C) p → (f_MO_isUsed_13 n s (nI T) (nI C) (nI (6 * T + C)) 0 (nI (p + 1)) = 0 ↔ (0 : Int32) = 0 ∧ (∀ p', p ≤ p' → p' < 24 → ¬ q_ucl A (6 * T + C) p') ∧ (∀ r', r' < q_c (U 207 17) → ¬ q_ur U T C r') ∧ ∀ j', j' < q_nq Q → ¬ q_ask Q j' (10 * T + C)) := fun hno => by
      rw [rf]
      constructor
      · rintro ⟨-, q1, q2⟩
        refine ⟨rfl, fun p' h1' h2' => ?_, q2⟩
        by_cases e : p' = p
        · rw [e]; exact hno
        · exact q1 p' (by omega) h2'
      · rintro ⟨-, q1, q2⟩
        exact ⟨rfl, fun p' h1' h2' => q1 p' (by omega) h2', q2⟩
    have go1 : q_ucl A (6 * T + C) p → (f_MO_isUsed_13 n s (nI T) (nI C) (nI (6 * T + C)) 1 (nI (p + 1)) = 0 ↔ (0 : Int32) = 0 ∧ (∀ p', p ≤ p' → p' < 24 → ¬ q_ucl A (6 * T + C) p') ∧ (∀ r', r' < q_c (U 207 17) → ¬ q_ur U T C r') ∧ ∀ j', j' < q_nq Q → ¬ q_ask Q j' (10 * T + C)) := fun hyes =>
      ⟨fun q => absurd q n1, fun q => absurd hyes (q.2.1 p (Nat.le_refl _) hp)⟩
    unfold p_MO_isUsed_13 f_MO_isUsed_13 p_MO_isUsed_56 f_MO_isUsed_56 p_MO_isUsed_60 f_MO_isUsed_60 p_MO_isUsed_61 f_MO_isUsed_61
    rw [if_neg c, nI_clamp (n := p) (by omega), show s 209 p = A 209 p from by rw [md.2 209 (by omega) (by omega)], nI_1]
    by_cases q9 : A 209 p = 2
    rotate_left
    · refine ⟨⟨fun q => absurd q c, fun _ => ⟨fun _ => ⟨v, fun q => absurd q q9, fun _ => pf⟩, fun _ => pt⟩⟩, ?_⟩
      rcases hx with rfl | rfl
      · rw [if_pos rfl, if_neg q9]; exact go0 (fun q => q9 q.1)
      · rw [if_neg i10]
        exact ⟨fun q2 => absurd q2 n1, fun q2 => absurd q2.1 i10⟩
    have b := q_u_b w hp q9
    have e1 := qo_u1 md w hp q9
    obtain ⟨p2, e2⟩ := qo_u2 md w hp q9
    have i1 : nI (q_u1 A p) = nI (6 * T + C) ↔ q_u1 A p = 6 * T + C := nI_eq (by omega) (by omega)
    have i2 : q_uI (q_u2 A p) = nI (6 * T + C) ↔ q_u2 A p = 6 * T + C := by
      unfold q_uI
      by_cases q : q_u2 A p = 24
      · rw [if_pos q]; exact ⟨fun q2 => absurd q2.symm (q_m1_ne (by omega)), fun q2 => by omega⟩
      · rw [if_neg q]; exact nI_eq (by omega) (by omega)
    rw [e1, e2]
    refine ⟨⟨fun q => absurd q c, fun _ => ⟨fun _ => ⟨v, fun _ => ⟨qo_p1 s hp, fun _ => pt, fun _ => ⟨p2, fun _ => pt, fun _ => pf⟩⟩, fun _ => pf⟩, fun _ => pt⟩⟩, ?_⟩
    rcases hx with rfl | rfl
    · rw [if_pos rfl, if_pos q9]
      by_cases q1 : nI (q_u1 A p) = nI (6 * T + C)
      · rw [if_pos q1]; exact go1 ⟨q9, Or.inl (i1.mp q1)⟩
      · rw [if_neg q1]
        by_cases q2 : q_uI (q_u2 A p) = nI (6 * T + C)
        · rw [if_pos q2]; exact go1 ⟨q9, Or.inr (i2.mp q2)⟩
        · rw [if_neg q2]; exact go0 (fun q => q.2.elim (fun r => q1 (i1.mpr r)) (fun r => q2 (i2.mpr r)))
    · rw [if_neg i10]
      exact ⟨fun q2 => absurd q2 n1, fun q2 => absurd q2.1 i10⟩
theorem qm_isUsed {s A U Q : am_M} (md : q_md s A) (w : q_wd A) (um : q_um s U) (uw : q_uw U) (qm : q_qm s Q) (qw : q_qw A Q) {T C : Nat} (hT : T < 4) (hC : C < 6) : p_MO_isUsed s (nI T) (nI C) ∧ (f_MO_isUsed s (nI T) (nI C) = 0 ↔ q_free A U Q T C) := by
  obtain ⟨a1, a2⟩ := qm_u13 md w um uw qm qw hT hC 24 0 am_F 0 (by omega) (by rw [am_F_eq]; omega) (Or.inl rfl)
  rw [nI_0] at a1 a2
  unfold p_MO_isUsed f_MO_isUsed
  rw [qw_6, nI_add]
  exact ⟨a1, a2.trans ⟨fun q => ⟨fun p h => q.2.1 p (Nat.zero_le _) h, q.2.2⟩, fun q => ⟨rfl, fun p _ h => q.1 p h, q.2⟩⟩⟩
-- the class
theorem qc_uses {s A : am_M} (cd : q_cd s A) (w : q_wd A) {p T C : Nat} (hp : p < 24) (hT : T < 4) (hC : C < 6) : p_BA_uses s (nI p) (nI T) (nI C) ∧ ((f_BA_uses s (nI p) (nI T) (nI C) = 1 ∧ q_ucl A (6 * T + C) p) ∨ (f_BA_uses s (nI p) (nI T) (nI C) = 0 ∧ ¬ q_ucl A (6 * T + C) p)) := by
  have ecol : f_BA_column s (nI p / (6 : Int32)) (nI p - nI p / (6 : Int32) * (6 : Int32)) = 20 + p := by
    rw [qr_6 (by omega), qd_6 (by omega), qd_col (by omega) (by omega)]; omega
  unfold p_BA_uses f_BA_uses
  have hsh : 20 + p < 207 ∧ am_sh (20 + p) = (0, 3, 11) := ⟨by omega, qd_sh hp⟩
  rw [ecol, cd.2.2.1 p hp]
  by_cases q9 : A 209 p = 2
  rotate_left
  · have k3 : ¬ q_kc (A 209 p) = 3 := fun q => q9 (q_kc_3.mp q)
    rw [if_neg k3]
    exact ⟨⟨qd_pcol _ _ _, hsh, fun q => absurd q k3, fun _ => trivial⟩, Or.inr ⟨rfl, fun q => q9 q.1⟩⟩
  have k3 : q_kc (A 209 p) = 3 := q_kc_3.mpr q9
  obtain ⟨n1, -, n3, -, -, -⟩ := q_f_n w hp q9
  obtain ⟨t1, t2⟩ := qo_t1 cd w hp q9
  obtain ⟨t3, t4⟩ := qo_t2 cd w hp q9
  have b := q_u_b w hp q9
  have e8 : s (20 + p) 8 = A 215 p := cd.2.2.2 p 8 hp (by omega) (by omega)
  have e7 : s (20 + p) 7 = A 214 p := cd.2.2.2 p 7 hp (by omega) (by omega)
  have e9 : s (20 + p) 9 = A 216 p := cd.2.2.2 p 9 hp (by omega) (by omega)
  have u1 : q_u1 A p = 6 * q_tb A p + q_c (A 215 p) := rfl
  -- the second column
  have h54 : p_BA_uses_54 s (nI p) (nI T) (nI C) (20 + p) (nI (p / 6)) ∧ ((f_BA_uses_54 s (nI p) (nI T) (nI C) (20 + p) (nI (p / 6)) = 1 ∧ q_u2 A p = 6 * T + C) ∨ (f_BA_uses_54 s (nI p) (nI T) (nI C) (20 + p) (nI (p / 6)) = 0 ∧ ¬ q_u2 A p = 6 * T + C)) := by
    unfold p_BA_uses_54 f_BA_uses_54
    rw [e7, t3, e9]
    by_cases c4 : A 214 p = 4
    · rw [if_pos c4]
      refine ⟨⟨hsh, fun _ => trivial, fun q => absurd c4 q⟩, Or.inr ⟨rfl, fun q => ?_⟩⟩
      have : q_u2 A p = 24 := by unfold q_u2; rw [if_pos c4]
      omega
    · have u2 : q_u2 A p = 6 * q_tb2 A p + q_c (A 216 p) := by unfold q_u2 q_tb2; rw [if_neg c4]
      obtain ⟨m1, m2⟩ := n3 c4
      have i2 : A 216 p = nI C ↔ q_c (A 216 p) = C := ⟨fun q => by rw [q]; exact nI_clamp (by omega), fun q => by rw [m1, q]⟩
      have i1 : nI (q_tb2 A p) = nI T ↔ q_tb2 A p = T := nI_eq (by omega) (by omega)
      rw [if_neg c4]
      refine ⟨⟨hsh, fun q => absurd q c4, fun _ => ⟨qo_pt2 s hp _, fun _ => ⟨fun _ => trivial, fun _ => trivial⟩, fun _ => trivial⟩⟩, ?_⟩
      by_cases q1 : nI (q_tb2 A p) = nI T
      · rw [if_pos q1]
        have q1 := i1.mp q1
        by_cases q2 : A 216 p = nI C
        · rw [if_pos q2]
          have q2 := i2.mp q2
          exact Or.inl ⟨rfl, by omega⟩
        · rw [if_neg q2]
          have q2 : ¬ q_c (A 216 p) = C := fun q => q2 (i2.mpr q)
          exact Or.inr ⟨rfl, by omega⟩
      · rw [if_neg q1]
        have q1 : ¬ q_tb2 A p = T := fun q => q1 (i1.mpr q)
        exact Or.inr ⟨rfl, by omega⟩
  obtain ⟨h54p, h54r⟩ := h54
  have i2 : A 215 p = nI C ↔ q_c (A 215 p) = C := ⟨fun q => by rw [q]; exact nI_clamp (by omega), fun q => by rw [n1.1, q]⟩
  have i1 : nI (q_tb A p) = nI T ↔ q_tb A p = T := nI_eq (by omega) (by omega)
  have fall : ¬ q_u1 A p = 6 * T + C → (f_BA_uses_54 s (nI p) (nI T) (nI C) (20 + p) (nI (p / 6)) = 1 ∧ q_ucl A (6 * T + C) p) ∨ (f_BA_uses_54 s (nI p) (nI T) (nI C) (20 + p) (nI (p / 6)) = 0 ∧ ¬ q_ucl A (6 * T + C) p) := fun hno => by
    rcases h54r with ⟨r1, r2⟩ | ⟨r1, r2⟩
    · exact Or.inl ⟨r1, q9, Or.inr r2⟩
    · exact Or.inr ⟨r1, fun q => q.2.elim hno r2⟩
  have m2 := n1.2
  rw [if_pos k3, qd_6 (by omega), t1, e8]
  refine ⟨⟨qd_pcol _ _ _, hsh, fun _ => ⟨qo_pt1 s hp _, fun _ => ⟨fun _ => trivial, fun _ => h54p⟩, fun _ => h54p⟩, fun q => absurd k3 q⟩, ?_⟩
  by_cases q1 : nI (q_tb A p) = nI T
  · rw [if_pos q1]
    have q1 := i1.mp q1
    by_cases q2 : A 215 p = nI C
    · rw [if_pos q2]
      have q2 := i2.mp q2
      exact Or.inl ⟨rfl, q9, Or.inl (by omega)⟩
    · rw [if_neg q2]
      have q2 : ¬ q_c (A 215 p) = C := fun q => q2 (i2.mpr q)
      exact fall (by omega)
  · rw [if_neg q1]
    have q1 : ¬ q_tb A p = T := fun q => q1 (i1.mpr q)
    exact fall (by omega)
theorem qc_u40 {s A : am_M} (cd : q_cd s A) (w : q_wd A) {T C : Nat} (hT : T < 4) (hC : C < 6) : ∀ (d p n : Nat), p + d = 24 → d < n → p_BA_isUsed_40 n s (nI T) (nI C) (nI p) ∧ ((f_BA_isUsed_40 n s (nI T) (nI C) (nI p) = 1 ∧ ∃ p', p ≤ p' ∧ p' < 24 ∧ q_ucl A (6 * T + C) p') ∨ (f_BA_isUsed_40 n s (nI T) (nI C) (nI p) = 0 ∧ ∀ p', p ≤ p' → p' < 24 → ¬ q_ucl A (6 * T + C) p')) := by
  intro d
  induction d with
  | zero =>
    intro p n h1 h2
    obtain ⟨n, rfl⟩ : ∃ k, n = k + 1 := ⟨n - 1, by omega⟩
    have e : p = 24 := by omega
    subst e
    have c : (24 : Int32) ≤ nI 24 := qg_24 (Nat.le_refl _) (by omega)
    unfold p_BA_isUsed_40 f_BA_isUsed_40
    rw [if_pos c]
    exact ⟨⟨fun _ => trivial, fun q => absurd c q⟩, Or.inr ⟨rfl, fun p' _ _ => by omega⟩⟩
  | succ d ih =>
    intro p n h1 h2
    obtain ⟨n, rfl⟩ : ∃ k, n = k + 1 := ⟨n - 1, by omega⟩
    have hp : p < 24 := by omega
    have c : ¬ (24 : Int32) ≤ nI p := ql_24 hp
    obtain ⟨p1, r1⟩ := ih (p + 1) n (by omega) (by omega)
    obtain ⟨p2, r2⟩ := qc_uses cd w hp hT hC
    unfold p_BA_isUsed_40 f_BA_isUsed_40
    rw [if_neg c, nI_1]
    refine ⟨⟨fun q => absurd q c, fun _ => ⟨p2, fun _ => p1, fun _ => trivial⟩⟩, ?_⟩
    rcases r2 with ⟨r2, r3⟩ | ⟨r2, r3⟩
    · rw [r2, if_neg i10]; exact Or.inl ⟨rfl, p, Nat.le_refl _, hp, r3⟩
    · rw [r2, if_pos rfl]
      rcases r1 with ⟨r1, p', r4, r5, r6⟩ | ⟨r1, r4⟩
      · exact Or.inl ⟨r1, p', by omega, r5, r6⟩
      · refine Or.inr ⟨r1, fun p' h1' h2' => ?_⟩
        by_cases e : p' = p
        · rw [e]; exact r3
        · exact r4 p' (by omega) h2'
theorem qc_u2 {s A U : am_M} (cd : q_cd s A) (w : q_wd A) (uc : q_uc s U) (uw : q_uw U) {T C : Nat} (hT : T < 4) (hC : C < 6) : ∀ (d r n : Nat), r + d = q_c (U 207 17) → d < n → p_BA_isUsed_2 n s (nI T) (nI C) (nI r) ∧ ((f_BA_isUsed_2 n s (nI T) (nI C) (nI r) = 1 ∧ ((∃ r', r ≤ r' ∧ r' < q_c (U 207 17) ∧ q_ur U T C r') ∨ ∃ p', p' < 24 ∧ q_ucl A (6 * T + C) p')) ∨ (f_BA_isUsed_2 n s (nI T) (nI C) (nI r) = 0 ∧ (∀ r', r ≤ r' → r' < q_c (U 207 17) → ¬ q_ur U T C r') ∧ ∀ p', p' < 24 → ¬ q_ucl A (6 * T + C) p')) := by
  have u8 := uw.1.2
  have es : s 1 6 = nI (q_c (U 207 17)) := uc.1.trans uw.1.1
  intro d
  induction d with
  | zero =>
    intro r n h1 h2
    obtain ⟨n, rfl⟩ : ∃ k, n = k + 1 := ⟨n - 1, by omega⟩
    have c : nI (q_c (U 207 17)) ≤ nI r := nI_le (by omega) (by omega)
    obtain ⟨a1, a2⟩ := qc_u40 cd w hT hC 24 0 am_F (by omega) (by rw [am_F_eq]; omega)
    rw [nI_0] at a1 a2
    unfold p_BA_isUsed_2 f_BA_isUsed_2 p_BA_isUsed_38 f_BA_isUsed_38
    rw [es, if_pos c]
    refine ⟨⟨fun _ => a1, fun q => absurd c q⟩, ?_⟩
    rcases a2 with ⟨a2, p', a3, a4, a5⟩ | ⟨a2, a3⟩
    · exact Or.inl ⟨a2, Or.inr ⟨p', a4, a5⟩⟩
    · exact Or.inr ⟨a2, fun r' _ _ => by omega, fun p' h => a3 p' (Nat.zero_le _) h⟩
  | succ d ih =>
    intro r n h1 h2
    obtain ⟨n, rfl⟩ : ∃ k, n = k + 1 := ⟨n - 1, by omega⟩
    have c : ¬ nI (q_c (U 207 17)) ≤ nI r := nI_ge (by omega) (by omega)
    have c8 : ¬ (8 : Int32) ≤ nI r := ql_8 (by omega)
    have hr : r < 8 := by omega
    have psh : 44 + r < 207 ∧ am_sh (44 + r) = (0, 7, 6) := ⟨by omega, qb_sh hr⟩
    obtain ⟨p1, r1⟩ := ih (r + 1) n (by omega) (by omega)
    have f5 : s (44 + r) 5 = U 227 r := uc.2 r 5 hr (by omega)
    have f0 : s (44 + r) 0 = U 222 r := uc.2 r 0 hr (by omega)
    have f1 : s (44 + r) 1 = U 223 r := uc.2 r 1 hr (by omega)
    have f3 : s (44 + r) 3 = U 225 r := uc.2 r 3 hr (by omega)
    have hfor : p_RU_isFor s (44 + r) (nI T) (nI C) ∧ ((f_RU_isFor s (44 + r) (nI T) (nI C) = 1 ∧ q_ur U T C r) ∨ (f_RU_isFor s (44 + r) (nI T) (nI C) = 0 ∧ ¬ q_ur U T C r)) := by
      refine ⟨⟨psh, fun _ => ⟨fun _ => ⟨fun _ => trivial, fun _ => ⟨fun _ => trivial, fun _ => trivial⟩⟩, fun _ => trivial⟩, fun _ => trivial⟩, ?_⟩
      unfold f_RU_isFor
      rw [f5, f0, f1, f3]
      by_cases q7 : U 227 r = 0
      · rw [if_pos q7]
        by_cases q2 : U 222 r = nI T
        · rw [if_pos q2]
          by_cases q3 : U 223 r = nI C
          · rw [if_pos q3]; exact Or.inl ⟨rfl, q7, q2, Or.inl q3⟩
          · rw [if_neg q3]
            by_cases q5 : U 225 r = nI C
            · rw [if_pos q5]; exact Or.inl ⟨rfl, q7, q2, Or.inr q5⟩
            · rw [if_neg q5]; exact Or.inr ⟨rfl, fun q => q.2.2.elim q3 q5⟩
        · rw [if_neg q2]; exact Or.inr ⟨rfl, fun q => q2 q.2.1⟩
      · rw [if_neg q7]; exact Or.inr ⟨rfl, fun q => q7 q.1⟩
    obtain ⟨hf1, hf2⟩ := hfor
    unfold p_BA_isUsed_2 f_BA_isUsed_2
    rw [es, if_neg c, if_neg c8, nI_clamp (n := r) (by omega), qb_lk hr, nI_1]
    refine ⟨⟨fun q => absurd q c, fun _ => ⟨fun q => absurd q c8, fun _ => ⟨vp_in_nI (by omega) (by omega), psh, hf1, fun _ => p1, fun _ => trivial⟩⟩⟩, ?_⟩
    rcases hf2 with ⟨g1, g2⟩ | ⟨g1, g2⟩
    · rw [g1, if_neg i10]; exact Or.inl ⟨rfl, Or.inl ⟨r, Nat.le_refl _, by omega, g2⟩⟩
    · rw [g1, if_pos rfl]
      rcases r1 with ⟨r1, (⟨r', r4, r5, r6⟩ | r4)⟩ | ⟨r1, r4, r5⟩
      · exact Or.inl ⟨r1, Or.inl ⟨r', by omega, r5, r6⟩⟩
      · exact Or.inl ⟨r1, Or.inr r4⟩
      · refine Or.inr ⟨r1, fun r' h1' h2' => ?_, r5⟩
        by_cases e : r' = r
        · rw [e]; exact g2
        · exact r4 r' (by omega) h2'
/-- the class: base and asker -/
theorem qc_isUsed {s A U Q : am_M} (cd : q_cd s A) (w : q_wd A) (uc : q_uc s U) (uw : q_uw U) (qc : q_qc s Q) (qw : q_qw A Q) {T C : Nat} (hT : T < 4) (hC : C < 6) : p_BA_isUsed s (nI T) (nI C) ∧ p_AS_isUsed s (nI T) (nI C) ∧ ((f_BA_isUsed s (nI T) (nI C) = 0 ∧ f_AS_isUsed s (nI T) (nI C) = 0 ∧ q_free A U Q T C) ∨ (¬ f_BA_isUsed s (nI T) (nI C) = 0 ∧ ¬ q_free A U Q T C) ∨ (f_BA_isUsed s (nI T) (nI C) = 0 ∧ ¬ f_AS_isUsed s (nI T) (nI C) = 0 ∧ ¬ q_free A U Q T C)) := by
  have h8 := qw.1.2
  have u8 := uw.1.2
  obtain ⟨a1, a2⟩ := qc_u2 cd w uc uw hT hC (q_c (U 207 17)) 0 am_F (by omega) (by rw [am_F_eq]; omega)
  obtain ⟨b1, b2⟩ := qa_us (o := 10 * T + C) w qc qw (by omega) (nI T) (nI C) (q_nq Q) 0 am_F (by omega) (by rw [am_F_eq]; omega)
  rw [nI_0] at a1 a2 b1 b2
  unfold p_BA_isUsed f_BA_isUsed p_AS_isUsed f_AS_isUsed
  rw [qw_10, nI_add]
  refine ⟨a1, b1, ?_⟩
  rcases a2 with ⟨a2, a3⟩ | ⟨a2, a3, a4⟩
  · refine Or.inr (Or.inl ⟨by rw [a2]; exact i10, fun q => ?_⟩)
    rcases a3 with ⟨r', -, r1, r2⟩ | ⟨p', r1, r2⟩
    · exact q.2.1 r' r1 r2
    · exact q.1 p' r1 r2
  · rcases b2 with ⟨b2, j', -, b3, b4⟩ | ⟨b2, b3⟩
    · exact Or.inr (Or.inr ⟨a2, by rw [b2]; exact i10, fun q => q.2.2 j' b3 b4⟩)
    · exact Or.inl ⟨a2, b2, a4, fun r h => a3 r (Nat.zero_le _) h, fun j h => b3 j (Nat.zero_le _) h⟩
end
