noncomputable section
-- answers and what they are answers of: the class alone
def CQ9 (s A U R Q : am_M) : Prop := CB9 s A U R ∧ q_qc s Q
def PQ9 (A U R Q : am_M) : Prop := PW9 A U R ∧ q_qw A Q
def LK9 (a b : Nat) : Prop := q_FD a b ∨ a = 66
theorem CQ9_of {c : Nat} {s : am_M} (h : pu_R c s) : ∃ A U R Q, CQ9 s A U R Q ∧ PQ9 A U R Q := by
  obtain ⟨hP, Z, hZ⟩ := h
  obtain ⟨cd, oc, md, wd⟩ : q_x1 s (Z 6) := hZ 1
  obtain ⟨uc, um, uw⟩ := q_x2_p (hZ 2 : q_x2 s (Z 7))
  obtain ⟨cb, mb, wr⟩ : q_x3 s (Z 6) (Z 8) := hZ 3
  obtain ⟨qc, qm, qw⟩ : q_x5 s (Z 6) (Z 11) := hZ 5
  exact ⟨Z 6, Z 7, Z 8, Z 11, ⟨⟨cd, oc, uc, cb⟩, qc⟩, ⟨wd, wr, uw, q_x7_g (hZ 7)⟩, qw⟩
theorem LK9_w {a b : Nat} (h : LK9 a b) : (61 ≤ a ∧ a ≤ 66) ∨ (a = 52 ∧ (b = 4 ∨ b = 5)) := by
  unfold LK9 q_FD at h
  omega
theorem CQ9_look {s t A U R Q : am_M} (o : q_out s t LK9) (h : CQ9 s A U R Q) : CQ9 t A U R Q :=
  ⟨CB9_out o (fun a b q => by have := LK9_w q; omega) h.1, q_qc_out o (fun a b q => by have := LK9_w q; omega) h.2⟩
theorem pl9 {c : Nat} {s t : am_M} (h : pu_R c s) (o : q_out s t LK9) : pu_R c t := by
  obtain ⟨hP, Z, hZ⟩ := h
  exact pu_lookC hP hZ o
theorem gl9 {s t : am_M} (o : q_out s t LK9) : gq t s := fun a h1 _ => funext fun b => o a b (fun q => by have := LK9_w q; omega)
theorem RL9 {c : Nat} {s t u : am_M} (h : RR c s t) (o : q_out s u LK9) : RR c u t := RR_12 h ⟨pl9 h.1 o, gl9 o⟩ ⟨h.2.1, gq_rf⟩
theorem LK9_t {s t u : am_M} (o1 : q_out s t LK9) (o2 : q_out t u LK9) : q_out s u LK9 := q_out_t o1 o2
theorem A_many {s A U R Q : am_M} {x : Int32} (b : CQ9 s A U R Q) (p : PQ9 A U R Q) : (f_LH_many s (0 : Int32) x = (-9999999, s) ∧ f_LH_many s (1 : Int32) x = (-9999999, s)) ∨ ∃ j, x = nI j ∧ j < q_nq Q := by
  have hQ := qa_wantQ b.2 p.2 x
  have h8 := p.2.1.2
  rcases q_in_c (q_nq Q) (by omega) x with g | ⟨g, j, hj, rfl⟩
  · left
    rw [g, if_pos rfl] at hQ
    rw [LHmany0_e, LHmany1_e]
    unfold az f_CB_answers f_CB_columns
    rw [hQ]
    exact ⟨rfl, rfl⟩
  · exact Or.inr ⟨j, rfl, hj⟩
theorem A_wantQ {s A Q : am_M} {j : Nat} (qc : q_qc s Q) (qw : q_qw A Q) (hj : j < q_nq Q) : f_CB_wantQuestion s (nI j) = 0 := by
  have h8 := qw.1.2
  rw [qa_wantQ qc qw, q_in_1 hj (by omega), if_neg i10]
theorem A_many0 {s A U R Q : am_M} {j : Nat} (b : CQ9 s A U R Q) (p : PQ9 A U R Q) (hj : j < q_nq Q) : ∃ t, f_LH_many s (0 : Int32) (nI j) = (nI (q_sh R Q (10 + j)).length, t) ∧ q_out s t LK9 := by
  obtain ⟨-, t, e, o, -⟩ := qa_find b.1.1 p.1.1 p.1.2.1 b.1.2.2.2 b.2 p.2 hj
  refine ⟨t, ?_, o⟩
  rw [LHmany0_e]
  unfold az f_CB_answers
  rw [A_wantQ b.2 p.2 hj, if_pos rfl, e]; rfl
theorem A_many1 {s A U R Q : am_M} {j : Nat} (b : CQ9 s A U R Q) (p : PQ9 A U R Q) (hj : j < q_nq Q) : ∃ t, f_LH_many s (1 : Int32) (nI j) = (nI (q_wx A R Q (10 + j)), t) ∧ q_out s t LK9 := by
  obtain ⟨-, t, e, o, -⟩ := qa_width b.1.1 p.1.1 p.1.2.1 b.1.2.2.2 b.2 p.2 hj
  refine ⟨t, ?_, o⟩
  rw [LHmany1_e]
  unfold az f_CB_columns
  rw [A_wantQ b.2 p.2 hj, if_pos rfl, e]; rfl
theorem and_nn (x : Int32) : ¬ (x &&& (2147483647 : Int32)) < 0 := by
  rw [Int32.lt_iff_toInt_lt]
  have h : (x &&& (2147483647 : Int32)).toInt = (((x &&& (2147483647 : Int32)).toBitVec.toNat : Nat) : Int) := by
    show (x &&& (2147483647 : Int32)).toBitVec.toInt = _
    rw [BitVec.toInt_eq_toNat_cond, if_pos]
    rw [Int32.toBitVec_and, BitVec.toNat_and]
    have h1 : x.toBitVec.toNat &&& (2147483647 : Int32).toBitVec.toNat ≤ (2147483647 : Int32).toBitVec.toNat := Nat.and_le_right
    have e : (2147483647 : Int32).toBitVec.toNat = 2147483647 := by decide
    rw [e] at h1 ⊢
    omega
  rw [h]
  have z : (0 : Int32).toInt = 0 := by decide
  omega
theorem low_v {s : am_M} {x : Int32} {n : Nat} (h1 : 1 ≤ n) (h2 : n < 2 ^ 31) : ∃ i, i < n ∧ f_LH_low s x (nI n) = nI i := by
  obtain ⟨m, hm, e⟩ := nI_of (and_nn x)
  refine ⟨m % n, Nat.mod_lt _ (by omega), ?_⟩
  unfold f_LH_low
  rw [e]
  exact pk_rem hm (by omega) h2
/-- what an answer is, and whence -/
theorem q_tgt2 {A R Q : am_M} (w : q_wd A) (wr : q_wr A R) (qw : q_qw A Q) {j i k : Nat} (hj : j < q_nq Q) (hi : i < (q_sh R Q (10 + j)).length) (hk : k < q_wx A R Q (10 + j)) : Q (68 + 7 * j) k = -1 ∨ ∃ T C r, Q (68 + 7 * j) k = nI (10 * T + C) ∧ T < 4 ∧ C < 6 ∧ r < 30 ∧ T < q_nt A ∧ C < q_w A T ∧ R 1 (30 * T + r) ≠ 0 ∧ q_c (Q (69 + 7 * j) k) < q_sn Q (10 + j) ∧ ((q_sh R Q (10 + j)).getD i q_A0).2 (q_c (Q (69 + 7 * j) k)) = nI r ∧ ((q_sh R Q (10 + j)).getD i q_A0).1 k = R 2 (180 * T + 6 * r + C) := by
  have h8 := qw.1.2
  have h4 := w.1.2
  have hwx := q_wx_le (R := R) w qw (src := 10 + j) (Or.inr ⟨by omega, by omega⟩)
  have e10 : 10 + j - 10 = j := by omega
  obtain ⟨x, -, -, -, -, -, x6⟩ := q_q1_src w qw hj
  rcases x6 with ⟨k0, -⟩ | ⟨-, -, -, -, g5, -⟩
  · have hk2 : Q (67 + 7 * j) 0 ≠ 2 := by rw [k0]; decide
    rcases (qw.2.1 j hj).2.1 k (by omega) with g | ⟨T, C, g1, g2, g3⟩
    · exact Or.inl g
    · have hC6 : C < 6 := by have := (w.2.1 T (by omega)).2.1; omega
      have hne : Q (68 + 7 * j) k ≠ -1 := by rw [g1]; exact q_m1_ne (by omega)
      have hpl := ((qw.2.1 j hj).2.2 k (by omega)).2 hne
      have hsi := q_si_sh (R := R) w wr qw (10 + j) (Or.inr ⟨by omega, by omega, by rw [e10]; exact hk2⟩)
      have hmem : (q_sh R Q (10 + j)).getD i q_A0 ∈ q_sh R Q (10 + j) := by
        have hh : ∀ (l : List q_An) (n : Nat), n < l.length → l.getD n q_A0 ∈ l := by
          intro l
          induction l with
          | nil => intro n hn; exact absurd hn (Nat.not_lt_zero _)
          | cons y l ih =>
            intro n hn
            cases n with
            | zero => exact List.mem_cons_self
            | succ n => exact List.mem_cons_of_mem _ (ih n (by rw [List.length_cons] at hn; omega))
        exact hh _ _ hi
      have hwn : q_wx A R Q (10 + j) = q_sw A Q (10 + j) := q_wx_n (Or.inr (by rw [e10]; exact hk2))
      obtain ⟨-, hrow⟩ := hsi _ hmem k (by omega)
      have eso : q_so Q (10 + j) k = nI (10 * T + C) := by unfold q_so; rw [if_neg (by omega), e10]; exact g1
      have esp : q_sp Q (10 + j) k = q_c (Q (69 + 7 * j) k) := by unfold q_sp; rw [if_neg (by omega), e10]
      have esn : q_sn Q (10 + j) = q_c (Q (67 + 7 * j) 9) := by unfold q_sn; rw [if_neg (by omega), e10]
      obtain ⟨r, r1, r2, r3, r4⟩ := hrow T C (by omega) hC6 eso
      rw [esp] at r4
      exact Or.inr ⟨T, C, r, g1, by omega, hC6, r1, g2, g3, r2, by rw [esn]; exact hpl, r4, r3⟩
  · exact Or.inl (g5 k (by omega))
theorem A_want {s A U R Q : am_M} {j i k : Nat} (b : CQ9 s A U R Q) (p : PQ9 A U R Q) (hj : j < q_nq Q) (hi : i < (q_sh R Q (10 + j)).length) (hk : k < q_wx A R Q (10 + j)) : ∃ t, f_CB_wantAnswer s (nI j) (nI i) (nI k) = (0, t) ∧ q_out s t LK9 ∧ q_csh A R Q t (10 + j) := by
  have h8 := p.2.1.2
  obtain ⟨-, e, t, A1, A2, A3⟩ := qa_wantA b.1.1 p.1.1 p.1.2.1 b.1.2.2.2 b.2 p.2 (nI j) (nI i) (nI k)
  rcases A3 with ⟨-, hno⟩ | ⟨rfl, j', i', k', e1, e2, e3, hj', hi', hk', F4⟩
  · exact absurd ⟨j, i, k, rfl, rfl, rfl, hj, hi, hk⟩ hno
  · obtain rfl : j = j' := (nI_eq (by omega) (by omega)).mp e1
    exact ⟨t, A1, A2, F4⟩
theorem A_answer {s A U R Q : am_M} {j i k : Nat} (b : CQ9 s A U R Q) (p : PQ9 A U R Q) (hj : j < q_nq Q) (hi : i < (q_sh R Q (10 + j)).length) (hk : k < q_wx A R Q (10 + j)) : ∃ t, f_CB_answer s (nI j) (nI i) (nI k) = (0, ((q_sh R Q (10 + j)).getD i q_A0).1 k, t) ∧ q_out s t LK9 := by
  have h8 := p.2.1.2
  obtain ⟨t, A1, A2, F4⟩ := A_want b p hj hi hk
  have hlen := q_sh_len (R := R) p.1.1 p.2 (10 + j) (by omega)
  have hwx := q_wx_le (R := R) p.1.1 p.2 (src := 10 + j) (Or.inr ⟨by omega, by omega⟩)
  have hget := qa_get t (show i < 30 by omega) (show k < 54 by omega)
  have hcell := (F4.2.2.1 i hi).1 k hk
  rw [Nat.zero_add] at hcell
  refine ⟨t, ?_, A2⟩
  unfold f_CB_answer
  rw [A1, if_pos rfl]
  dsimp only
  rw [hget.2, hcell]
/-- an answer beyond what there is -/
theorem A_beyond {s A U R Q : am_M} {j i k : Nat} (b : CQ9 s A U R Q) (p : PQ9 A U R Q) (hj : j < q_nq Q) (hi3 : i ≤ 30) (hk3 : k ≤ 54) (hno : ¬ (i < (q_sh R Q (10 + j)).length ∧ k < q_wx A R Q (10 + j))) : ∃ t, f_CB_answer s (nI j) (nI i) (nI k) = (1, 0, t) ∧ q_out s t LK9 := by
  have h8 := p.2.1.2
  obtain ⟨-, e, t, A1, A2, A3⟩ := qa_wantA b.1.1 p.1.1 p.1.2.1 b.1.2.2.2 b.2 p.2 (nI j) (nI i) (nI k)
  rcases A3 with ⟨rfl, -⟩ | ⟨rfl, j', i', k', e1, e2, e3, hj', hi', hk', F4⟩
  · refine ⟨t, ?_, A2⟩
    unfold f_CB_answer
    rw [A1]; rfl
  · have hlen := q_sh_len (R := R) p.1.1 p.2 (10 + j') (by omega)
    have hwx := q_wx_le (R := R) p.1.1 p.2 (src := 10 + j') (Or.inr ⟨by omega, by omega⟩)
    obtain rfl : j = j' := (nI_eq (by omega) (by omega)).mp e1
    obtain rfl : i = i' := (nI_eq (by omega) (by omega)).mp e2
    obtain rfl : k = k' := (nI_eq (by omega) (by omega)).mp e3
    exact absurd ⟨hi', hk'⟩ hno
/-- what can't be written, and what can -/
def TG9 (A R Q : am_M) (j i k : Nat) (G : Int32) : Prop := (G = -1 ∧ ∀ u, q_cd u A → f_BA_isStored u (Q (68 + 7 * j) k) = 0) ∨ ∃ T C r, G = nI (1000 * T + 10 * r + C) ∧ Q (68 + 7 * j) k = nI (10 * T + C) ∧ T < 4 ∧ C < 6 ∧ r < 30 ∧ T < q_nt A ∧ C < q_w A T ∧ R 1 (30 * T + r) ≠ 0 ∧ (A 209 (6 * T + C) = 0 ∨ A 209 (6 * T + C) = 1) ∧ q_c (Q (69 + 7 * j) k) < q_sn Q (10 + j) ∧ ((q_sh R Q (10 + j)).getD i q_A0).2 (q_c (Q (69 + 7 * j) k)) = nI r ∧ ((q_sh R Q (10 + j)).getD i q_A0).1 k = R 2 (180 * T + 6 * r + C)
theorem A_row {t A U R Q : am_M} {j i k r : Nat} (qc : q_qc t Q) (p : PQ9 A U R Q) (F4 : q_csh A R Q t (10 + j)) (hj : j < q_nq Q) (hi : i < (q_sh R Q (10 + j)).length) (hk : k < q_wx A R Q (10 + j)) (g7 : q_c (Q (69 + 7 * j) k) < q_sn Q (10 + j)) (g9 : ((q_sh R Q (10 + j)).getD i q_A0).2 (q_c (Q (69 + 7 * j) k)) = nI r) : f_AS_rowOf t (nI j) (nI i) (nI k) = nI r := by
  have h8 := p.2.1.2
  have hlen := q_sh_len (R := R) p.1.1 p.2 (10 + j) (by omega)
  have hwx := q_wx_le (R := R) p.1.1 p.2 (src := 10 + j) (Or.inr ⟨by omega, by omega⟩)
  obtain ⟨-, R2⟩ := qa_row qc p.2 hj (show i < 30 by omega) (show k < 54 by omega)
  have hrow := R2 (by
    have := (q_sw_le p.1.1 p.2 (src := 10 + j) (Or.inr ⟨by omega, by omega⟩)).2
    omega)
  have hcr := (F4.2.2.1 i hi).2 _ g7
  rw [Nat.zero_add, g9] at hcr
  rw [hcr] at hrow
  exact hrow
theorem A_target {s A U R Q : am_M} {j i k : Nat} (b : CQ9 s A U R Q) (p : PQ9 A U R Q) (hj : j < q_nq Q) (hi : i < (q_sh R Q (10 + j)).length) (hk : k < q_wx A R Q (10 + j)) : ∃ G t, f_CB_target s (nI j) (nI i) (nI k) = (0, G, t) ∧ q_out s t LK9 ∧ TG9 A R Q j i k G := by
  have h8 := p.2.1.2
  obtain ⟨t, A1, A2, F4⟩ := A_want b p hj hi hk
  have bt := CQ9_look A2 b
  have hwx := q_wx_le (R := R) p.1.1 p.2 (src := 10 + j) (Or.inr ⟨by omega, by omega⟩)
  obtain ⟨Q1, Q2⟩ := qa_q t (show j < 8 by omega)
  obtain ⟨O1, O2⟩ := qa_origin bt.2 (show j < 8 by omega) (show k < 54 by omega)
  have none9 : (∀ u, q_cd u A → f_BA_isStored u (Q (68 + 7 * j) k) = 0) → ∃ G t, f_CB_target s (nI j) (nI i) (nI k) = (0, G, t) ∧ q_out s t LK9 ∧ TG9 A R Q j i k G := fun q => by
    refine ⟨-1, t, ?_, A2, Or.inl ⟨rfl, q⟩⟩
    unfold f_CB_target
    rw [A1, if_pos rfl]
    dsimp only
    rw [Q2, O2, if_pos (q t bt.1.1)]
  rcases q_tgt2 p.1.1 p.1.2.1 p.2 hj hi hk with g | ⟨T, C, r, g2, g3, g4, g5, gT, gC, g6, g7, g9, gv⟩
  · exact none9 (fun u _ => by rw [g]; exact qd_stM1 _)
  by_cases hs : A 209 (6 * T + C) = 0 ∨ A 209 (6 * T + C) = 1
  rotate_left
  · exact none9 (fun u cu => by rw [g2, qd_stO cu g3 g4, if_neg hs])
  have hrow := A_row bt.2 p F4 hj hi hk g7 g9
  have nst : ¬ f_BA_isStored t (Q (68 + 7 * j) k) = 0 := by rw [g2, qd_stO bt.1.1 g3 g4, if_pos hs]; exact i10
  refine ⟨nI (1000 * T + 10 * r + C), t, ?_, A2, Or.inr ⟨T, C, r, rfl, g2, g3, g4, g5, gT, gC, g6, hs, g7, g9, gv⟩⟩
  unfold f_CB_target
  rw [A1, if_pos rfl]
  dsimp only
  rw [Q2, O2, if_neg nst, hrow, g2, qr_10 (by omega), qd_10 (by omega), show (10 * T + C) / 10 = T from by omega, show (10 * T + C) % 10 = C from by omega, qw_1000, qw_10, nI_add, nI_add]
theorem A_write0 {s A U R Q : am_M} {j i k : Nat} {v : Int32} (b : CQ9 s A U R Q) (p : PQ9 A U R Q) (hj : j < q_nq Q) (hi : i < (q_sh R Q (10 + j)).length) (hk : k < q_wx A R Q (10 + j)) (hv : ∀ u, f_CB_wantValue u v = 0) (hst : ∀ u, q_cd u A → f_BA_isStored u (Q (68 + 7 * j) k) = 0) : ∃ T2, f_CB_write s (nI j) (nI i) (nI k) v = (0, 0, T2) ∧ T2 123 0 = 7 ∧ T2 123 1 = -1 := by
  have h8 := p.2.1.2
  obtain ⟨t1, A1, A2, F4⟩ := A_want b p hj hi hk
  have bt := CQ9_look A2 b
  have hwx := q_wx_le (R := R) p.1.1 p.2 (src := 10 + j) (Or.inr ⟨by omega, by omega⟩)
  obtain ⟨Q1, Q2⟩ := qa_q t1 (show j < 8 by omega)
  obtain ⟨O1, O2⟩ := qa_origin bt.2 (show j < 8 by omega) (show k < 54 by omega)
  obtain ⟨r1, r2, r3, r4, r5, r6⟩ := q_re16 t1 7 (-1) (-1) (-1)
  have hput : ∀ x2, f_BA_putThrough t1 (Q (68 + 7 * j) k) x2 v = (0, f_RE_set t1 16 7 (-1) (-1) (-1)) := fun x2 => by
    unfold f_BA_putThrough f_BA_refuse
    rw [if_pos (hst t1 bt.1.1)]
  have hfd : q_fd (f_RE_set t1 16 7 (-1) (-1) (-1)) 16 0 q_L7 := ⟨r3, r4, r5, r6⟩
  have hg7 : q_good q_L7 = 0 := rfl
  obtain ⟨pt, T2, hT2, cd2⟩ := qc_done (s := t1) (q_out_w r2 (fun a b q => by omega)) (q_cd_out r2 (fun a b q => by omega) bt.1.1) (q_oc_out r2 (fun a b q => by omega) bt.1.2.1) (q_cb_out r2 (fun a b q => by omega) bt.1.2.2.2) hfd
  rw [hg7] at pt hT2
  refine ⟨T2, ?_, cd2.2.2.2.2.1.1, cd2.2.2.2.2.1.2.1⟩
  unfold f_CB_write
  rw [A1, if_pos rfl]
  dsimp only
  rw [hv t1, if_pos rfl, Q2, O2, hput]
  dsimp only
  rw [hT2]
theorem A_write1 {s A U R Q : am_M} {j i k T C r : Nat} {v : Int32} (b : CQ9 s A U R Q) (p : PQ9 A U R Q) (hj : j < q_nq Q) (hi : i < (q_sh R Q (10 + j)).length) (hk : k < q_wx A R Q (10 + j)) (hv : ∀ u, f_CB_wantValue u v = 0) (hv2 : q_v v) (g2 : Q (68 + 7 * j) k = nI (10 * T + C)) (g3 : T < 4) (g4 : C < 6) (g5 : r < 30) (hs : A 209 (6 * T + C) = 0 ∨ A 209 (6 * T + C) = 1) (g7 : q_c (Q (69 + 7 * j) k) < q_sn Q (10 + j)) (g9 : ((q_sh R Q (10 + j)).getD i q_A0).2 (q_c (Q (69 + 7 * j) k)) = nI r) : ∃ T2, f_CB_write s (nI j) (nI i) (nI k) v = (0, q_good (q_brk A U (q_reck A (q_put R (180 * T + 6 * r + C) v))), T2) ∧ CB9 T2 A U (q_pick (q_brk A U (q_reck A (q_put R (180 * T + 6 * r + C) v))) (q_reck A (q_put R (180 * T + 6 * r + C) v)) R) ∧ q_fd T2 123 0 (q_brk A U (q_reck A (q_put R (180 * T + 6 * r + C) v))) := by
  have h8 := p.2.1.2
  obtain ⟨⟨wd, wr, uw, gd⟩, qw⟩ := p
  obtain ⟨t1, A1, A2, F4⟩ := A_want b ⟨⟨wd, wr, uw, gd⟩, qw⟩ hj hi hk
  have bt := CQ9_look A2 b
  have hwx := q_wx_le (R := R) wd qw (src := 10 + j) (Or.inr ⟨by omega, by omega⟩)
  obtain ⟨Q1, Q2⟩ := qa_q t1 (show j < 8 by omega)
  obtain ⟨O1, O2⟩ := qa_origin bt.2 (show j < 8 by omega) (show k < 54 by omega)
  have hrow := A_row bt.2 ⟨⟨wd, wr, uw, gd⟩, qw⟩ F4 hj hi hk g7 g9
  obtain ⟨⟨cd1, oc1, uc1, cb1⟩, qc1⟩ := bt
  obtain ⟨pB, t1', hB, oB, cbB, fdB, -⟩ := qc_put (v := v) cd1 oc1 wd wr.we cb1 uc1 uw g3 g5 g4 hs hv2
  generalize q_brk A U (q_reck A (q_put R (180 * T + 6 * r + C) v)) = L at *
  generalize q_reck A (q_put R (180 * T + 6 * r + C) v) = RR9 at *
  obtain ⟨pt, T2, hT2, oT2, cdT, ocT, cbT, fdT, u07T⟩ := qc_done (s := t1) (q_out_w oB (fun a b q => by omega)) (q_cd_out oB (fun a b q => by omega) cd1) (q_oc_out oB (fun a b q => by omega) oc1) cbB fdB
  refine ⟨T2, ?_, ⟨cdT, ocT, q_uc_out oT2 (fun a b q => by unfold q_PC at q; omega) uc1, cbT⟩, fdT⟩
  unfold f_CB_write
  rw [A1, if_pos rfl]
  dsimp only
  rw [hv t1, if_pos rfl, Q2, O2, hrow, g2, hB]
  dsimp only
  rw [hT2]
theorem hg_write {u S : am_M} {x y z w v : Int32} (e : f_CB_write u x y z w = (0, v, S)) : (h_CB_write u x y z w).1 = 0 ∧ (h_CB_write u x y z w).2.1 = v ∧ q_out S (h_CB_write u x y z w).2.2 (fun a _ => 207 ≤ a) := by
  have e0 : (f_CB_write u x y z w).1 = 0 := by rw [e]
  refine ⟨e0, by show (f_CB_write u x y z w).2.1 = v; rw [e], ?_⟩
  show q_out S (if (f_CB_write u x y z w).1 = 0 then lo (f_CB_write u x y z w).2.2 (f_MO_write (f_LA_write u x y z w).2 x y z w).2 else (f_CB_write u x y z w).2.2) _
  rw [if_pos e0, e]
  exact lo_out
theorem tg_div {T r C : Nat} (hT : T < 4) (hr : r < 30) (hC : C < 6) : nI (1000 * T + 10 * r + C) / (1000 : Int32) = nI T ∧ nI (1000 * T + 10 * r + C) / (10 : Int32) - nI (1000 * T + 10 * r + C) / (10 : Int32) / (100 : Int32) * (100 : Int32) = nI r ∧ nI (1000 * T + 10 * r + C) - nI (1000 * T + 10 * r + C) / (10 : Int32) * (10 : Int32) = nI C := by
  have e1 : nI (1000 * T + 10 * r + C) / (1000 : Int32) = nI ((1000 * T + 10 * r + C) / 1000) := pk_div (d := 1000) (by omega) (by decide) (by decide)
  have e2 := qd_10 (a := 1000 * T + 10 * r + C) (by omega)
  have e3 : nI ((1000 * T + 10 * r + C) / 10) - nI ((1000 * T + 10 * r + C) / 10) / (100 : Int32) * (100 : Int32) = nI ((1000 * T + 10 * r + C) / 10 % 100) := pk_rem (d := 100) (by omega) (by decide) (by decide)
  have e4 := qr_10 (a := 1000 * T + 10 * r + C) (by omega)
  refine ⟨?_, ?_, ?_⟩
  · rw [e1, show (1000 * T + 10 * r + C) / 1000 = T from by omega]
  · rw [e2, e3, show (1000 * T + 10 * r + C) / 10 % 100 = r from by omega]
  · rw [e4, show (1000 * T + 10 * r + C) % 10 = C from by omega]
end
