noncomputable section
-- questions that gather
theorem qm_k33 (t : am_M) (x1 x2 x3 x4 : Int32) : p_MO_errorOfKeys_32 t x1 x2 x3 x4 ∧ f_MO_errorOfKeys_32 t x1 x2 x3 x4 = (1, t) := by
  unfold p_MO_errorOfKeys_32 f_MO_errorOfKeys_32 p_MO_errorOfKeys_33 f_MO_errorOfKeys_33
  rw [if_pos rfl]
  exact ⟨⟨fun _ => trivial, fun q => absurd rfl q⟩, rfl⟩
theorem qm_keysE {s A R Q : am_M} (md : q_md s A) (w : q_wd A) (wr : q_wr A R) (mb : q_mb s R) (qm : q_qm s Q) (qw : q_qw A Q) {x1 x2 x3 x4 : Int32} (h : ¬ (q_gS A R Q x1 x2 ∧ q_gS A R Q x1 x3 ∧ q_gS A R Q x1 x4)) : p_MO_errorOfKeys s x1 x2 x3 x4 ∧ ∃ t, f_MO_errorOfKeys s x1 x2 x3 x4 = (1, t) ∧ q_out s t (q_LD Q) := by
  have h8 := qw.1.2
  obtain ⟨p1, v1, t1, A1, B1, -, D1⟩ := qm_hasC md w wr mb qm qw x1 x2
  have md1 := q_md_out B1 (fun a b q => by have := q_LD_w q; omega) md
  have mb1 := q_mb_out B1 (fun a b q => by have := q_LD_w q; omega) mb
  have qm1 := q_LD_qm h8 B1 qm
  obtain ⟨p2, v2, t2, A2, B2, -, D2⟩ := qm_hasC md1 w wr mb1 qm1 qw x1 x3
  have md2 := q_md_out B2 (fun a b q => by have := q_LD_w q; omega) md1
  have mb2 := q_mb_out B2 (fun a b q => by have := q_LD_w q; omega) mb1
  have qm2 := q_LD_qm h8 B2 qm1
  obtain ⟨p3, v3, t3, A3, B3, -, D3⟩ := qm_hasC md2 w wr mb2 qm2 qw x1 x4
  unfold p_MO_errorOfKeys f_MO_errorOfKeys
  rw [A1]
  dsimp only
  rcases D1 with ⟨rfl, d1⟩ | ⟨rfl, src, c, d1, d2, d3, d4⟩
  · obtain ⟨k1, k2⟩ := qm_k33 t1 x1 x2 x3 x4
    rw [if_pos rfl]
    exact ⟨⟨p1, fun _ => k1, fun q => absurd rfl q⟩, t1, k2, B1⟩
  have g1 : q_gS A R Q x1 x2 := ⟨src, c, d1, d2, d3, d4⟩
  rw [if_neg i10, A2]
  dsimp only
  rcases D2 with ⟨rfl, e1⟩ | ⟨rfl, src2, c2, e1, e2, e3, e4⟩
  · obtain ⟨k1, k2⟩ := qm_k33 t2 x1 x2 x3 x4
    rw [if_pos rfl]
    exact ⟨⟨p1, fun q => absurd q i10, fun _ => ⟨p2, fun _ => k1, fun q => absurd rfl q⟩⟩, t2, k2, q_out_t B1 B2⟩
  have g2 : q_gS A R Q x1 x3 := ⟨src2, c2, e1, e2, e3, e4⟩
  rw [if_neg i10, A3]
  dsimp only
  rcases D3 with ⟨rfl, f1⟩ | ⟨rfl, src3, c3, f1, f2, f3, f4⟩
  · obtain ⟨k1, k2⟩ := qm_k33 t3 x1 x2 x3 x4
    rw [if_pos rfl]
    exact ⟨⟨p1, fun q => absurd q i10, fun _ => ⟨p2, fun q => absurd q i10, fun _ => ⟨p3, fun _ => k1, fun q => absurd rfl q⟩⟩⟩, t3, k2, q_out_t B1 (q_out_t B2 B3)⟩
  · exact absurd ⟨g1, g2, ⟨src3, c3, f1, f2, f3, f4⟩⟩ h
theorem qm_keysG {s A R Q : am_M} (md : q_md s A) (w : q_wd A) (wr : q_wr A R) (mb : q_mb s R) (qm : q_qm s Q) (qw : q_qw A Q) {src : Nat} (hs : q_isS A Q src) {x2 x3 x4 : Int32} (h2 : ∃ c, x2 = nI c ∧ c < q_wx A R Q src) (h3 : ∃ c, x3 = nI c ∧ c < q_wx A R Q src) (h4 : ∃ c, x4 = nI c ∧ c < q_wx A R Q src) : p_MO_errorOfKeys s (nI src) x2 x3 x4 ∧ ∃ e t, f_MO_errorOfKeys s (nI src) x2 x3 x4 = (e, t) ∧ q_out s t (q_LD Q) ∧ q_msh A R Q t src ∧ ((e = 2 ∧ q_xS Q src) ∨ (e = 3 ∧ ¬ q_xS Q src ∧ ¬ q_nq Q < 8) ∨ (e = 0 ∧ ¬ q_xS Q src ∧ q_nq Q < 8)) := by
  have h8 := qw.1.2
  obtain ⟨c2, rfl, hc2⟩ := h2
  obtain ⟨c3, rfl, hc3⟩ := h3
  obtain ⟨c4, rfl, hc4⟩ := h4
  have hs' : src < q_nt A ∨ (10 ≤ src ∧ src < 10 + q_nq Q) := hs
  obtain ⟨p1, v1, t1, A1, B1, -, D1⟩ := qm_hasC md w wr mb qm qw (nI src) (nI c2)
  have md1 := q_md_out B1 (fun a b q => by have := q_LD_w q; omega) md
  have mb1 := q_mb_out B1 (fun a b q => by have := q_LD_w q; omega) mb
  have qm1 := q_LD_qm h8 B1 qm
  obtain ⟨p2, v2, t2, A2, B2, -, D2⟩ := qm_hasC md1 w wr mb1 qm1 qw (nI src) (nI c3)
  have md2 := q_md_out B2 (fun a b q => by have := q_LD_w q; omega) md1
  have mb2 := q_mb_out B2 (fun a b q => by have := q_LD_w q; omega) mb1
  have qm2 := q_LD_qm h8 B2 qm1
  obtain ⟨p3, v3, t3, A3, B3, C3, D3⟩ := qm_hasC md2 w wr mb2 qm2 qw (nI src) (nI c4)
  have qm3 := q_LD_qm h8 B3 qm2
  have r1 := D1.resolve_left (fun q => q.2 ⟨src, c2, rfl, rfl, hs', hc2⟩)
  have r2 := D2.resolve_left (fun q => q.2 ⟨src, c3, rfl, rfl, hs', hc3⟩)
  have r3 := D3.resolve_left (fun q => q.2 ⟨src, c4, rfl, rfl, hs', hc4⟩)
  obtain ⟨x1, x2⟩ := qm_isX w qm3 qw hs
  have e39 : t3 207 39 = nI (q_nq Q) := qm3.1.trans qw.1.1
  unfold p_MO_errorOfKeys f_MO_errorOfKeys
  rw [A1]
  dsimp only
  rw [r1.1, if_neg i10, A2]
  dsimp only
  rw [r2.1, if_neg i10, A3]
  dsimp only
  rw [r3.1, if_neg i10]
  unfold p_MO_errorOfKeys_33 f_MO_errorOfKeys_33
  rw [if_neg i10, e39]
  refine ⟨⟨p1, fun q => absurd q i10, fun _ => ⟨p2, fun q => absurd q i10, fun _ => ⟨p3, fun q => absurd q i10, fun _ => ⟨fun q => absurd q i10, fun _ => ⟨x1, fun _ => ⟨fun _ => trivial, fun _ => trivial⟩, fun _ => trivial⟩⟩⟩⟩⟩, ?_⟩
  rcases x2 with ⟨x2, x3⟩ | ⟨x2, x3⟩
  · rw [x2, if_neg i10]
    exact ⟨2, t3, rfl, q_out_t B1 (q_out_t B2 B3), C3 src hs', Or.inl ⟨rfl, x3⟩⟩
  · rw [x2, if_pos rfl]
    by_cases c : q_nq Q < 8
    · rw [if_neg (fun q => by have := (qe_8 (by omega)).mp q; omega)]
      exact ⟨0, t3, rfl, q_out_t B1 (q_out_t B2 B3), C3 src hs', Or.inr (Or.inr ⟨rfl, x3, c⟩)⟩
    · rw [if_pos ((qe_8 (by omega)).mpr (by omega))]
      exact ⟨3, t3, rfl, q_out_t B1 (q_out_t B2 B3), C3 src hs', Or.inr (Or.inl ⟨rfl, x3, c⟩)⟩
theorem qm_asksE {s t : am_M} {K x2 x3 x4 x5 e : Int32} (he : e ≠ 0) (p : p_MO_errorOfKeys s x2 x3 x4 x5) (h : f_MO_errorOfKeys s x2 x3 x4 x5 = (e, t)) : p_MO_asks s K x2 x3 x4 x5 ∧ f_MO_asks s K x2 x3 x4 x5 = (0, am_set t 207 0 e) := by
  unfold p_MO_asks f_MO_asks
  rw [h]
  dsimp only
  rw [pr_holds1 t he]
  exact ⟨⟨p, fun _ => trivial, fun q => absurd rfl q⟩, rfl⟩
/-- the class makes one -/
def q_mg9 (s : am_M) (j : Nat) (x1 x2 x3 x4 x5 : Int32) : am_M := am_set (am_set (am_set (am_set (am_set (am_set (am_set s (67 + 7 * j) 0 x1) (67 + 7 * j) 1 x2) (67 + 7 * j) 4 x3) (67 + 7 * j) 5 x4) (67 + 7 * j) 6 x5) (67 + 7 * j) 7 5) 52 3 (nI (j + 1))
theorem q_mg9_o {s : am_M} {j : Nat} {x1 x2 x3 x4 x5 : Int32} {a b : Nat} (h1 : a ≠ 67 + 7 * j ∨ b = 2 ∨ b = 3 ∨ 7 < b) (h2 : a ≠ 52 ∨ b ≠ 3) : q_mg9 s j x1 x2 x3 x4 x5 a b = s a b := by
  unfold q_mg9
  rw [am_set_p h2, am_set_p (by omega), am_set_p (by omega), am_set_p (by omega), am_set_p (by omega), am_set_p (by omega), am_set_p (by omega)]
theorem q_mg9_v {s : am_M} {j : Nat} {x1 x2 x3 x4 x5 : Int32} : q_mg9 s j x1 x2 x3 x4 x5 52 3 = nI (j + 1) ∧ q_mg9 s j x1 x2 x3 x4 x5 (67 + 7 * j) 0 = x1 ∧ q_mg9 s j x1 x2 x3 x4 x5 (67 + 7 * j) 1 = x2 ∧ q_mg9 s j x1 x2 x3 x4 x5 (67 + 7 * j) 4 = x3 ∧ q_mg9 s j x1 x2 x3 x4 x5 (67 + 7 * j) 5 = x4 ∧ q_mg9 s j x1 x2 x3 x4 x5 (67 + 7 * j) 6 = x5 ∧ q_mg9 s j x1 x2 x3 x4 x5 (67 + 7 * j) 7 = 5 := by
  unfold q_mg9
  refine ⟨am_set_q, ?_, ?_, ?_, ?_, ?_, ?_⟩
  · rw [am_set_p (by omega), am_set_p (by omega), am_set_p (by omega), am_set_p (by omega), am_set_p (by omega), am_set_p (by omega), am_set_q]
  · rw [am_set_p (by omega), am_set_p (by omega), am_set_p (by omega), am_set_p (by omega), am_set_p (by omega), am_set_q]
  · rw [am_set_p (by omega), am_set_p (by omega), am_set_p (by omega), am_set_p (by omega), am_set_q]
  · rw [am_set_p (by omega), am_set_p (by omega), am_set_p (by omega), am_set_q]
  · rw [am_set_p (by omega), am_set_p (by omega), am_set_q]
  · rw [am_set_p (by omega), am_set_q]
theorem qa_makeG {s : am_M} {j : Nat} (hj : j < 8) (h : s 52 3 = nI j) (x1 x2 x3 x4 x5 : Int32) : p_AS_makeGathered s x1 x2 x3 x4 x5 ∧ f_AS_makeGathered s x1 x2 x3 x4 x5 = (nI j, q_mg9 s j x1 x2 x3 x4 x5) := by
  obtain ⟨Q1, Q2⟩ := qa_q s hj
  have e : am_set (am_set (am_set (am_set (am_set (am_set s (67 + 7 * j) 0 x1) (67 + 7 * j) 1 x2) (67 + 7 * j) 4 x3) (67 + 7 * j) 5 x4) (67 + 7 * j) 6 x5) (67 + 7 * j) 7 5 52 3 = nI j := by
    rw [am_set_p (by omega), am_set_p (by omega), am_set_p (by omega), am_set_p (by omega), am_set_p (by omega), am_set_p (by omega)]; exact h
  unfold p_AS_makeGathered f_AS_makeGathered
  rw [h, Q2, e, nI_1 j]
  exact ⟨⟨Q1, ⟨by omega, (qa_sh hj).1⟩, trivial⟩, rfl⟩
/-- both sides make one: the relation holds behind it -/
theorem pu_makeG {c : Nat} {s t1 : am_M} {Z : Nat → am_M} {K x3 x4 x4m x5 : Int32} {src : Nat} (hP : ∀ i, pu_P i s) (hZ : ∀ j, pu_X c j s Z) (hn : q_nq (Z 11) < 8) (hs : q_isS (Z 6) (Z 11) src) (hx : ¬ q_xS (Z 11) src) (o1 : q_out s t1 (q_LU (Z 11)))
    (h3 : ∃ c, x3 = nI c ∧ c < q_wx (Z 6) (Z 8) (Z 11) src) (h4 : ∃ c, x4m = nI c ∧ c < q_wx (Z 6) (Z 8) (Z 11) src) (h5 : ∃ c, x5 = nI c ∧ c < q_wx (Z 6) (Z 8) (Z 11) src) (hK : (K = 1 ∧ x4 = -1) ∨ (K = 2 ∧ x4 = x4m)) : p_MO_asks (am_set (q_mg9 t1 (q_nq (Z 11)) K (nI src) x3 x4 x5) 262 0 (nI (q_nq (Z 11)))) K (nI src) x3 x4m x5 ∧ ∃ t, f_MO_asks (am_set (q_mg9 t1 (q_nq (Z 11)) K (nI src) x3 x4 x5) 262 0 (nI (q_nq (Z 11)))) K (nI src) x3 x4m x5 = (nI (q_nq (Z 11)), t) ∧ t 207 0 = 0 ∧ t 262 0 = nI (q_nq (Z 11)) ∧ pu_R c t := by
  obtain ⟨cd, oc, md, wd⟩ : q_x1 s (Z 6) := hZ 1
  obtain ⟨cb, mb, wr⟩ : q_x3 s (Z 6) (Z 8) := hZ 3
  obtain ⟨qc, qm, qw⟩ : q_x5 s (Z 6) (Z 11) := hZ 5
  have h4' := wd.1.2
  obtain ⟨cd1, md1, cb1, mb1, qc1, qm1⟩ := q_LU_all o1 qw cd md cb mb qc qm
  obtain ⟨j, hj⟩ : ∃ j, j = q_nq (Z 11) := ⟨_, rfl⟩
  rw [← hj] at hn
  rw [← hj]
  have hs' : src < 4 ∨ (10 ≤ src ∧ src < 10 + j) := by unfold q_isS at hs; omega
  have hwx := q_wx_le (R := Z 8) wd qw (src := src) (by omega)
  have hk2 : src < 10 ∨ Z 11 (67 + 7 * (src - 10)) 0 ≠ 2 := by
    by_cases h : src < 10
    · exact Or.inl h
    · exact Or.inr (fun q => hx ⟨by omega, q⟩)
  have ewn := q_wx_n (A := Z 6) (R := Z 8) (Q := Z 11) hk2
  obtain ⟨V0, V1, V2, V3, V4, V5, V6⟩ := @q_mg9_v t1 j K (nI src) x3 x4 x5
  have oG : ∀ a b, (a ≠ 67 + 7 * j ∨ b = 2 ∨ b = 3 ∨ 7 < b) → (a ≠ 52 ∨ b ≠ 3) → q_mg9 t1 j K (nI src) x3 x4 x5 a b = t1 a b := fun a b q1 q2 => q_mg9_o q1 q2
  generalize q_mg9 t1 j K (nI src) x3 x4 x5 = G at *
  have oU : q_out t1 (am_set G 262 0 (nI j)) (fun a b => a = 67 + 7 * j ∨ (a = 52 ∧ b = 3) ∨ a = 262) := fun a b q => by
    rw [am_set_p (by omega), oG a b (by omega) (by omega)]
  have mdU := q_md_out oU (fun a b q => by omega) md1
  have mbU := q_mb_out oU (fun a b q => by omega) mb1
  have qmU := q_qm_out qw.1.2 oU (fun a b q => by omega) qm1
  have uG : ∀ a b, a ≠ 262 → am_set G 262 0 (nI j) a b = G a b := fun a b q => am_set_p (Or.inl q)
  have u262 : am_set G 262 0 (nI j) 262 0 = nI j := am_set_q
  generalize am_set G 262 0 (nI j) = u at *
  obtain ⟨p1, e, t2, A1, B1, C1, D1⟩ := qm_keysG mdU wd wr mbU qmU qw hs h3 h4 h5
  have e0 : e = 0 := by
    rcases D1 with ⟨-, q⟩ | ⟨-, -, q⟩ | ⟨q, -⟩
    · exact absurd q hx
    · exact absurd (show q_nq (Z 11) < 8 by omega) q
    · exact q
  subst e0
  have t39 : am_set t2 207 0 0 207 39 = nI j := by
    rw [am_set_p (by omega), B1 _ _ (fun q => by have := q_LD_w q; omega), hj]; exact qmU.1.trans qw.1.1
  have tW : am_set t2 207 0 0 249 (q_sl src) = nI (q_wx (Z 6) (Z 8) (Z 11) src) := by rw [am_set_p (by omega)]; exact C1.2.1
  obtain ⟨m1, t3, m2, m3, m4, m5, m6, m7, m8, m9, m10, m11⟩ := qm_makes (K := K) hn hs' t39 tW hwx
  have vj : vp_in (nI j) 8 := vp_in_nI (by omega) (by omega)
  have cj : (nI j).toNatClampNeg = j := nI_clamp (by omega)
  have hK0 : K ≠ 0 := by
    rcases hK with ⟨q, -⟩ | ⟨q, -⟩ <;> rw [q] <;> decide
  have hM : p_MO_asks u K (nI src) x3 x4m x5 ∧ f_MO_asks u K (nI src) x3 x4m x5 = (nI j, am_set (am_set (am_set t3 240 j x3) 241 j x4m) 242 j x5) := by
    unfold p_MO_asks f_MO_asks
    rw [A1]
    dsimp only
    rw [pr_holds0 t2]
    dsimp only
    rw [if_neg i10, m2]
    dsimp only
    rw [cj]
    exact ⟨⟨p1, fun q => absurd q i10, fun _ => ⟨m1, vj, vj, vj, trivial⟩⟩, rfl⟩
  refine ⟨hM.1, _, hM.2, ?_, ?_, ?_⟩
  · rw [am_set_p (by omega), am_set_p (by omega), am_set_p (by omega), m3 _ _ (by omega), am_set_q]
  · rw [am_set_p (by omega), am_set_p (by omega), am_set_p (by omega), m3 _ _ (by omega), am_set_p (by omega), B1 _ _ (fun q => by have := q_LD_w q; omega)]; exact u262
  -- what the class has, seen behind all
  have cT : ∀ a b, a < 207 → am_set (am_set (am_set t3 240 j x3) 241 j x4m) 242 j x5 a b = G a b := fun a b q => by
    rw [am_set_p (by omega), am_set_p (by omega), am_set_p (by omega), m3 _ _ (by omega), am_set_p (by omega), B1 _ _ (fun q2 => by have := q_LD_w q2; omega), uG _ _ (by omega)]
  have zero : q_q0 (Z 11) j := qw.2.2 j (by omega) hn
  obtain ⟨z2, -, -, -, -, z9, z12, zo⟩ := zero
  have G2 : G (67 + 7 * j) 2 = -1 := by rw [oG _ _ (by omega) (by omega), qc1.2 _ (by omega) (by omega)]; exact z2
  have G9 : G (67 + 7 * j) 9 = 0 := by rw [oG _ _ (by omega) (by omega), qc1.2 _ (by omega) (by omega)]; exact z9
  have G12 : G (67 + 7 * j) 12 = 0 := by rw [oG _ _ (by omega) (by omega), qc1.2 _ (by omega) (by omega)]; exact z12
  have Go : ∀ c, c < 54 → G (68 + 7 * j) c = -1 ∧ G (69 + 7 * j) c = 0 := fun c hc => by
    rw [oG _ _ (by omega) (by omega), oG _ _ (by omega) (by omega), qc1.2 _ (by omega) (by omega), qc1.2 _ (by omega) (by omega)]; exact zo c hc
  have hT : ∃ t, t = am_set (am_set (am_set t3 240 j x3) 241 j x4m) 242 j x5 := ⟨_, rfl⟩
  obtain ⟨t, ht⟩ := hT
  have tm : ∀ a b, (a ≠ 240 ∧ a ≠ 241 ∧ a ≠ 242) → t a b = t3 a b := fun a b q => by
    rw [ht, am_set_p (by omega), am_set_p (by omega), am_set_p (by omega)]
  have t40 : t 240 j = x3 := by rw [ht, am_set_p (by omega), am_set_p (by omega), am_set_q]
  have t41 : t 241 j = x4m := by rw [ht, am_set_p (by omega), am_set_q]
  have t42 : t 242 j = x5 := by rw [ht, am_set_q]
  have o3 : q_out t3 t (fun a b => (a = 240 ∨ a = 241 ∨ a = 242) ∧ b = j) := fun a b q => by
    rw [ht, am_set_p (by omega), am_set_p (by omega), am_set_p (by omega)]
  rw [← ht] at cT ⊢
  have em1 : q_mc (-1) = -1 := by unfold q_mc; rw [if_pos rfl]
  obtain ⟨P1, P2, P3, P4, P5⟩ := @q_Pj_s (Z 6) (Z 11) t j src hs'
  refine pu_newQ (j := j) hj hn hP hZ (fun a b q => ?_) ((cT _ _ (by omega)).trans V0) ((tm _ _ (by omega)).trans m4) ?_ ?_ (fun q => ?_) ?_ (fun _ => ⟨?_, ?_⟩) (fun q => ?_) ?_ (fun q => ?_) (fun c hc => ?_) ((cT _ _ (by omega)).trans G12) ⟨⟨src, ?_, ?_, Or.inr ?_⟩, fun c hc => ?_, fun c hc => ⟨?_, fun q => ?_⟩⟩
  · have n1 : ¬ q_LU (Z 11) a b := fun q2 => q (Or.inl q2)
    have n4 : ¬ (a = 207 ∧ b = 0) := fun q2 => n1 (Or.inr (Or.inr (Or.inr (Or.inr q2))))
    have n5 : ¬ (a = 262) := fun q2 => n1 (Or.inr (Or.inr (Or.inr (Or.inl q2))))
    rw [o3 a b (by omega), m3 a b (by omega), am_set_p (by omega), B1 a b (fun q2 => n1 (Or.inr (Or.inr (Or.inl q2)))), uG a b n5, oG a b (by omega) (by omega), o1 a b n1]
  · rw [tm _ _ (by omega), m5, cT _ _ (by omega), V1]
  · rw [tm _ _ (by omega), m6, cT _ _ (by omega), V2]
  · rw [cT _ _ (by omega), V1] at q; exact absurd q hK0
  · rw [tm _ _ (by omega), m7, cT _ _ (by omega), G2]
  · rw [t40, cT _ _ (by omega), V3]
  · rw [t42, cT _ _ (by omega), V5]
  · rw [cT _ _ (by omega), V1] at q
    rcases hK with ⟨k, -⟩ | ⟨-, k⟩
    · rw [k] at q; exact absurd q (by decide)
    · rw [t41, cT _ _ (by omega), V4, k]
  · rw [tm _ _ (by omega), m8, cT _ _ (by omega), G12]
  · rw [cT _ _ (by omega), V1] at q
    rcases hK with ⟨k, -⟩ | ⟨k, -⟩
    · rw [tm _ _ (by omega), m10, if_pos k, cT _ _ (by omega), V6]
    · exact absurd k q
  · rw [tm _ _ (by omega), m11 c hc, if_neg (fun q => hK0 q.1), cT _ _ (by omega), (Go c hc).1, em1]
  · rw [q_Pj_n (by omega) (by omega), cT _ _ (by omega), V2]
  · unfold q_src
    unfold q_isS at hs
    rcases hs with q | ⟨q1, q2⟩
    · exact Or.inl q
    · refine Or.inr ⟨q1, by omega, ?_⟩
      rw [P5 q1]
      exact fun q => hx ⟨q1, q⟩
  · obtain ⟨k3, rfl, hk3⟩ := h3
    obtain ⟨k5, rfl, hk5⟩ := h5
    obtain ⟨k4, h4e, hk4⟩ := h4
    rw [ewn] at hk3 hk5 hk4
    unfold q_qg
    rw [q_Pj_n (a := 67 + 7 * j) (by omega) (by omega), q_Pj_n (a := 68 + 7 * j) (by omega) (by omega), P4, cT _ _ (by omega), cT _ _ (by omega), cT _ _ (by omega), cT _ _ (by omega), cT _ _ (by omega), cT _ _ (by omega), cT _ _ (by omega), cT _ _ (by omega), G2, G9, G12, V1, V3, V4, V5, V6]
    refine ⟨rfl, rfl, rfl, rfl, fun c hc => ?_, k3, k5, rfl, rfl, hk3, hk5, ?_⟩
    · rw [cT _ _ (by omega)]; exact (Go c hc).1
    · rcases hK with ⟨k, k'⟩ | ⟨k, k'⟩
      · exact Or.inl ⟨k, k'⟩
      · exact Or.inr ⟨k, k4, k'.trans h4e, hk4⟩
  · rw [q_Pj_n (by omega) (by omega), cT _ _ (by omega)]; exact Or.inl (Go c hc).1
  · rw [q_Pj_n (by omega) (by omega), cT _ _ (by omega), (Go c hc).2]; rfl
  · rw [q_Pj_n (by omega) (by omega), cT _ _ (by omega)] at q
    exact absurd (Go c hc).1 q
end
