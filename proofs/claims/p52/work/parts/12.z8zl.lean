noncomputable section
/-- a new plain question, on both sides -/
theorem pu_plain {c : Nat} {s t1 T2 t : am_M} {Z : Nat → am_M} {src j u w n : Nat} {v : Int32} (hP : ∀ i, pu_P i s) (hZ : ∀ j, pu_X c j s Z) (hj : j = q_nq (Z 11)) (hj8 : j < 8) (hs : q_isS (Z 6) (Z 11) src) (hx : ¬ q_xS (Z 11) src) (o1 : q_out s t1 (q_LU (Z 11))) (hu : u = q_sw (Z 6) (Z 11) src)
    (oT : q_out t1 T2 (fun a b => (a = 67 + 7 * j ∧ (b = 0 ∨ b = 1 ∨ b = 2 ∨ b = 3 ∨ b = 7 ∨ b = 8 ∨ b = 9)) ∨ ((a = 68 + 7 * j ∨ a = 69 + 7 * j) ∧ b < w) ∨ (a = 52 ∧ b = 3))) (c52 : T2 52 3 = nI (j + 1)) (c0 : T2 (67 + 7 * j) 0 = 0) (c1 : T2 (67 + 7 * j) 1 = nI src) (c7 : T2 (67 + 7 * j) 7 = nI w) (c8 : T2 (67 + 7 * j) 8 = nI u) (c9 : T2 (67 + 7 * j) 9 = nI n) (cc : ∀ c, c < u → T2 (68 + 7 * j) c = q_so (Z 11) src c ∧ T2 (69 + 7 * j) c = nI (q_sp (Z 11) src c))
    (jn : (T2 (67 + 7 * j) 2 = -1 ∧ w = u ∧ n = q_sn (Z 11) src) ∨ ∃ c T C J, T2 (67 + 7 * j) 2 = nI c ∧ c < u ∧ q_so (Z 11) src c = nI (10 * T + C) ∧ T < 4 ∧ C < 6 ∧ Z 6 209 (6 * T + C) = 1 ∧ Z 6 212 (6 * T + C) = nI J ∧ J < q_nt (Z 6) ∧ T2 (67 + 7 * j) 3 = nI J ∧ w = u + q_w (Z 6) J ∧ n = q_sn (Z 11) src + 1 ∧ ∀ i, i < q_w (Z 6) J → T2 (68 + 7 * j) (u + i) = nI (10 * J + i) ∧ T2 (69 + 7 * j) (u + i) = nI (q_sn (Z 11) src))
    (ot : q_out (am_set T2 262 0 v) t (fun a b => q_LD (Z 11) a b ∨ (a = 207 ∧ (b = 0 ∨ b = 39)) ∨ (((236 ≤ a ∧ a ≤ 239) ∨ a = 243 ∨ a = 249) ∧ b = j) ∨ (a = 252 ∧ 54 * j ≤ b ∧ b < 54 * j + 54))) (m39 : t 207 39 = nI (j + 1)) (m36 : t 236 j = 0) (m37 : t 237 j = nI src) (m43 : t 243 j = 0) (m38 : t 238 j = nI u) (m39' : t 239 j = T2 (67 + 7 * j) 2) (m49 : t 249 j = nI w) (m52 : ∀ i, i < 54 → t 252 (54 * j + i) = q_mc (T2 (68 + 7 * j) i)) : pu_R c t := by
  obtain ⟨cd, oc, md, wd⟩ : q_x1 s (Z 6) := hZ 1
  obtain ⟨cb, mb, wr⟩ : q_x3 s (Z 6) (Z 8) := hZ 3
  obtain ⟨qc, qm, qw⟩ : q_x5 s (Z 6) (Z 11) := hZ 5
  have h4 := wd.1.2
  obtain ⟨cd1, md1, cb1, mb1, qc1, qm1⟩ := q_LU_all o1 qw cd md cb mb qc qm
  have hs'' : src < 4 ∨ (10 ≤ src ∧ src < 10 + q_nq (Z 11)) := by clear jn; unfold q_isS at hs; omega
  have hs' : src < 4 ∨ (10 ≤ src ∧ src < 10 + j) := by rw [hj]; exact hs''
  obtain ⟨b1, b2, b3⟩ := q_sw_b wd qw hs''
  obtain ⟨z2, z4, z5, z6, z7, z9, z12, zo⟩ : q_q0 (Z 11) j := qw.2.2 j (by omega) hj8
  have eT : ∀ a b, a < 207 → t a b = T2 a b := fun a b q => by
    rw [ot a b (by
      rintro (q2 | q2 | q2 | q2)
      · have := q_LD_w q2; omega
      · omega
      · omega
      · omega), am_set_p (by omega)]
  have e7 : ∀ b, ¬ (b = 0 ∨ b = 1 ∨ b = 2 ∨ b = 3 ∨ b = 7 ∨ b = 8 ∨ b = 9) → T2 (67 + 7 * j) b = Z 11 (67 + 7 * j) b := fun b q => by
    rw [oT _ _ (by omega), qc1.2 _ (by omega) (by omega)]
  have e12 : T2 (67 + 7 * j) 12 = 0 := (e7 12 (by omega)).trans z12
  have tail : ∀ c, w ≤ c → c < 54 → T2 (68 + 7 * j) c = -1 ∧ T2 (69 + 7 * j) c = 0 := fun c q1 q2 => by
    rw [oT _ _ (by omega), oT _ _ (by omega), qc1.2 _ (by omega) (by omega), qc1.2 _ (by omega) (by omega)]; exact zo c q2
  obtain ⟨P1, P2, P3, P4, P5⟩ := @q_Pj_s (Z 6) (Z 11) t j src hs'
  have hw6 : u ≤ w ∧ w ≤ 6 * (j + 2) ∧ q_sn (Z 11) src ≤ n ∧ n ≤ j + 2 := by
    rcases jn with ⟨-, q1, q2⟩ | ⟨c, T, C, J, -, -, -, -, -, -, -, q3, -, q1, q2, -⟩
    · omega
    · have := (wd.2.1 J (by omega)).2.1
      omega
  have hw54 : w ≤ 54 := by omega
  -- an origin, and the part that it comes by
  have orgs : ∀ c, c < 54 → (T2 (68 + 7 * j) c = -1 ∨ ∃ T C, T2 (68 + 7 * j) c = nI (10 * T + C) ∧ T < q_nt (Z 6) ∧ C < q_w (Z 6) T) ∧ ∃ p, p < 2 ^ 31 ∧ T2 (69 + 7 * j) c = nI p ∧ (T2 (68 + 7 * j) c ≠ -1 → p < n) := fun c hc => by
    by_cases c1 : c < u
    · obtain ⟨f1, f2⟩ := cc c c1
      rw [f1, f2]
      unfold q_so q_sp
      by_cases h : src < 10
      · have hsn : q_sn (Z 11) src = 1 := by unfold q_sn; rw [if_pos h]
        have hsw : q_sw (Z 6) (Z 11) src = q_w (Z 6) src := by unfold q_sw; rw [if_pos h]
        have hnt : src < q_nt (Z 6) := by clear jn; unfold q_isS at hs; omega
        rw [if_pos h, if_pos h]
        exact ⟨Or.inr ⟨src, c, rfl, hnt, by omega⟩, 0, by omega, rfl, fun _ => by omega⟩
      · rw [if_neg h, if_neg h]
        obtain ⟨-, q1, q2⟩ := qw.2.1 (src - 10) (by omega)
        have hsn : q_sn (Z 11) src = q_c (Z 11 (67 + 7 * (src - 10)) 9) := by unfold q_sn; rw [if_neg h]
        exact ⟨q1 c hc, _, q_cLt _, rfl, fun q => by have := (q2 c hc).2 q; omega⟩
    · by_cases c2 : c < w
      · rcases jn with ⟨-, q1, -⟩ | ⟨c', T, C, J, -, -, -, -, -, -, -, q3, -, q1, q2, q4⟩
        · omega
        · obtain ⟨f1, f2⟩ := q4 (c - u) (by omega)
          rw [show u + (c - u) = c from by omega] at f1 f2
          rw [f1, f2]
          exact ⟨Or.inr ⟨J, c - u, rfl, q3, by omega⟩, _, by omega, rfl, fun _ => by omega⟩
      · obtain ⟨f1, f2⟩ := tail c (by omega) hc
        rw [f1, f2]
        exact ⟨Or.inl rfl, 0, by omega, rfl, fun q => absurd rfl q⟩
  refine pu_newQ (j := j) hj hj8 hP hZ (fun a b q => ?_) ((eT _ _ (by omega)).trans c52) m39 ?_ ?_ (fun _ => ?_) ?_ (fun q => ?_) (fun q => ?_) ?_ (fun _ => ?_) (fun i hi => ?_) ((eT _ _ (by omega)).trans e12) ⟨⟨src, ?_, ?_, Or.inl ⟨?_, ?_⟩⟩, fun i hi => ?_, fun i hi => ⟨?_, fun q => ?_⟩⟩
  · have n1 : ¬ q_LU (Z 11) a b := fun q2 => q (Or.inl q2)
    have n4 : ¬ (a = 207 ∧ b = 0) := fun q2 => n1 (Or.inr (Or.inr (Or.inr (Or.inr q2))))
    have n5 : ¬ (a = 262) := fun q2 => n1 (Or.inr (Or.inr (Or.inr (Or.inl q2))))
    have n6 : ¬ q_LD (Z 11) a b := fun q2 => n1 (Or.inr (Or.inr (Or.inl q2)))
    rw [ot a b (by
      rintro (q2 | q2 | q2 | q2)
      · exact n6 q2
      · omega
      · omega
      · omega), am_set_p (by omega), oT a b (by omega), o1 a b n1]
  · rw [m36, eT _ _ (by omega), c0]
  · rw [m37, eT _ _ (by omega), c1]
  · rw [m38, eT _ _ (by omega), c8]
  · rw [m39', eT _ _ (by omega)]
  · rw [eT _ _ (by omega), c0] at q; exact absurd rfl q
  · rw [eT _ _ (by omega), c0] at q; exact absurd q (by decide)
  · rw [m43, eT _ _ (by omega), e12]
  · rw [m49, eT _ _ (by omega), c7]
  · rw [m52 i hi, eT _ _ (by omega)]
  · rw [q_Pj_n (by omega) (by omega), eT _ _ (by omega), c1]
  · unfold q_src
    unfold q_isS at hs
    rcases hs with q | ⟨q1, q2⟩
    · exact Or.inl q
    · refine Or.inr ⟨q1, by omega, ?_⟩
      rw [P5 q1]
      exact fun q => hx ⟨q1, q⟩
  · rw [q_Pj_n (by omega) (by omega), eT _ _ (by omega), c0]
  · unfold q_qp
    rw [q_Pj_n (a := 67 + 7 * j) (by omega) (by omega), q_Pj_n (a := 68 + 7 * j) (by omega) (by omega), q_Pj_n (a := 69 + 7 * j) (by omega) (by omega), P3, P4, eT (67 + 7 * j) 2 (by omega), eT (67 + 7 * j) 3 (by omega), eT (67 + 7 * j) 4 (by omega), eT (67 + 7 * j) 5 (by omega), eT (67 + 7 * j) 6 (by omega), eT (67 + 7 * j) 7 (by omega), eT (67 + 7 * j) 8 (by omega), eT (67 + 7 * j) 9 (by omega), eT (67 + 7 * j) 12 (by omega)]
    refine ⟨(e7 4 (by omega)).trans z4, (e7 5 (by omega)).trans z5, (e7 6 (by omega)).trans z6, u, w, n, c8, c7, c9, by omega, hw6.2.1, hw6.2.2.2, fun i hi => ?_, ?_, 0, by rw [e12]; exact nI_0.symm, by omega, fun i hi => absurd hi (Nat.not_lt_zero _)⟩
    · rw [P1, P2, eT _ _ (by omega), eT _ _ (by omega)]; exact cc i hi
    · rcases jn with q | ⟨k, T, C, J, d1, d2, d3, d4, d5, d6, d7, d8, d9, d10, d11, d12⟩
      · exact Or.inl q
      · have hTn : T < q_nt (Z 6) := by
          have hk := wd.2.2.1 (6 * T + C) (by omega)
          rw [show (6 * T + C) / 6 = T from by omega, show (6 * T + C) % 6 = C from by omega] at hk
          by_cases q : T < q_nt (Z 6)
          · exact q
          · have := (wd.2.1 T d4).2.2 (by omega)
            have := hk.2 (by omega)
            rw [d6] at this
            exact absurd this (by decide)
        refine Or.inr ⟨k, T, C, J, d1, d2, by rw [P1]; exact d3, hTn, d5, d6, d7, d9, d8, by omega, by omega, d11, fun i hi => ?_⟩
        rw [eT _ _ (by omega), eT _ _ (by omega)]
        exact d12 i (by omega)
  · rw [q_Pj_n (by omega) (by omega), eT _ _ (by omega)]; exact (orgs i hi).1
  · obtain ⟨-, p, hp, f, -⟩ := orgs i hi
    rw [q_Pj_n (by omega) (by omega), eT _ _ (by omega), f]
    have : q_c (nI p) = p := nI_clamp hp
    rw [this]
  · obtain ⟨-, p, hp, f, f2⟩ := orgs i hi
    rw [q_Pj_n (by omega) (by omega), eT _ _ (by omega)] at q
    have e1 : q_c (nI p) = p := nI_clamp hp
    have e2 : q_c (nI n) = n := nI_clamp (by omega)
    rw [q_Pj_n (a := 69 + 7 * j) (by omega) (by omega), q_Pj_n (a := 67 + 7 * j) (by omega) (by omega), eT _ _ (by omega), eT _ _ (by omega), f, c9, e1, e2]
    exact f2 q
theorem qm_a93n (u : am_M) (x1 x2 x3 x4 y : Int32) (h : y ≠ 0) : p_MO_ask_93 u x1 x2 x3 x4 y ∧ f_MO_ask_93 u x1 x2 x3 x4 y = (0, am_set u 207 0 y) := by
  unfold p_MO_ask_93 f_MO_ask_93
  rw [pr_holds1 u h]
  exact ⟨⟨fun _ => trivial, fun q => absurd rfl q⟩, rfl⟩
theorem qm_a59 (u : am_M) (x1 x2 y : Int32) : (p_MO_ask_59 u x1 x2 0 y ∧ f_MO_ask_59 u x1 x2 0 y = (0, am_set u 207 0 1)) ∧ (f_MO_ask_59 u x1 x2 1 0 = (0, am_set u 207 0 2) ∧ p_MO_ask_59 u x1 x2 1 0) := by
  obtain ⟨k1, k2⟩ := qm_a93n u x1 x2 0 y 1 (by decide)
  obtain ⟨k3, k4⟩ := qm_a93n u x1 x2 1 0 2 (by decide)
  unfold p_MO_ask_59 f_MO_ask_59
  rw [if_pos rfl, if_neg i10, if_pos rfl]
  exact ⟨⟨⟨fun _ => k1, fun q => absurd rfl q⟩, k2⟩, k4, fun q => absurd q i10, fun _ => ⟨fun _ => k3, fun q => absurd rfl q⟩⟩
theorem qm_a26 (u : am_M) (x1 x2 : Int32) : p_MO_ask_26 u x1 x2 ∧ f_MO_ask_26 u x1 x2 = (0, am_set u 207 0 1) := by
  obtain ⟨⟨k1, k2⟩, -⟩ := qm_a59 u x1 x2 0
  unfold p_MO_ask_26 f_MO_ask_26 p_MO_ask_27 f_MO_ask_27 p_MO_ask_58 f_MO_ask_58
  rw [if_pos rfl]
  exact ⟨⟨fun _ => k1, fun q => absurd rfl q⟩, k2⟩
/-- what is wrong with a plain question -/
def q_aw (A R Q : am_M) (src : Nat) (x2 : Int32) (y : Nat) : Prop := (y = 2 ∧ (q_xS Q src ∨ ∃ c, x2 = nI c ∧ c < 54 ∧ ¬ q_lk A Q src c)) ∨ (y = 3 ∧ ¬ q_xS Q src ∧ ¬ q_nq Q < 8 ∧ (x2 = -1 ∨ ∃ c, x2 = nI c ∧ c < q_sw A Q src ∧ c < 54 ∧ q_lk A Q src c)) ∨ (y = 0 ∧ ¬ q_xS Q src ∧ q_nq Q < 8 ∧ (x2 = -1 ∨ ∃ c, x2 = nI c ∧ c < q_sw A Q src ∧ c < 54 ∧ q_lk A Q src c))
theorem q_aw_1 {A R Q : am_M} {src : Nat} {x2 : Int32} {y z : Nat} (h1 : q_aw A R Q src x2 y) (h2 : q_aw A R Q src x2 z) : y = z := by
  have key : (∃ c, x2 = nI c ∧ c < 54 ∧ ¬ q_lk A Q src c) → ¬ (x2 = -1 ∨ ∃ c, x2 = nI c ∧ c < q_sw A Q src ∧ c < 54 ∧ q_lk A Q src c) := by
    rintro ⟨c, e, hc, hn⟩ (q | ⟨c', e', h', hc', hk⟩)
    · rw [e] at q; exact q_m1_ne (by omega) q
    · have : c = c' := (nI_eq (by omega) (by omega)).mp (e.symm.trans e')
      subst this
      exact hn hk
  rcases h1 with ⟨rfl, a⟩ | ⟨rfl, a1, a2, a3⟩ | ⟨rfl, a1, a2, a3⟩
  · rcases h2 with ⟨rfl, b⟩ | ⟨rfl, b1, b2, b3⟩ | ⟨rfl, b1, b2, b3⟩
    · rfl
    · rcases a with a | a
      · exact absurd a b1
      · exact absurd b3 (key a)
    · rcases a with a | a
      · exact absurd a b1
      · exact absurd b3 (key a)
  · rcases h2 with ⟨rfl, b⟩ | ⟨rfl, b1, b2, b3⟩ | ⟨rfl, b1, b2, b3⟩
    · rcases b with b | b
      · exact absurd b a1
      · exact absurd a3 (key b)
    · rfl
    · exact absurd b2 a2
  · rcases h2 with ⟨rfl, b⟩ | ⟨rfl, b1, b2, b3⟩ | ⟨rfl, b1, b2, b3⟩
    · rcases b with b | b
      · exact absurd b a1
      · exact absurd a3 (key b)
    · exact absurd a2 b2
    · rfl
theorem qm_a27 {u A R Q : am_M} (md : q_md u A) (w : q_wd A) (qm : q_qm u Q) (qw : q_qw A Q) {src : Nat} (hs : q_isS A Q src) {x2 : Int32} (hj : x2 = -1 ∨ ∃ c, x2 = nI c ∧ c < q_wx A R Q src) : ∃ y, q_aw A R Q src x2 y ∧ (y ≠ 0 → p_MO_ask_27 u (nI src) x2 1 ∧ f_MO_ask_27 u (nI src) x2 1 = (0, am_set u 207 0 (nI y))) ∧ (y = 0 → (p_MO_ask_93 u (nI src) x2 1 1 0 → p_MO_ask_27 u (nI src) x2 1) ∧ f_MO_ask_27 u (nI src) x2 1 = f_MO_ask_93 u (nI src) x2 1 1 0) := by
  have h8 := qw.1.2
  have h4 := w.1.2
  have hs' : src < 4 ∨ (10 ≤ src ∧ src < 10 + q_nq Q) := by unfold q_isS at hs; omega
  have hwx := q_wx_le (R := R) w qw hs'
  obtain ⟨x1, x3⟩ := qm_isX w qm qw hs
  obtain ⟨-, k2, k1⟩ := qm_a59 u (nI src) x2 0
  have e39 : u 207 39 = nI (q_nq Q) := qm.1.trans qw.1.1
  -- the last test
  have last : ∃ y, ((y = 3 ∧ ¬ q_nq Q < 8) ∨ (y = 0 ∧ q_nq Q < 8)) ∧ (y ≠ 0 → p_MO_ask_54 u (nI src) x2 1 ∧ f_MO_ask_54 u (nI src) x2 1 = (0, am_set u 207 0 (nI y))) ∧ (y = 0 → (p_MO_ask_93 u (nI src) x2 1 1 0 → p_MO_ask_54 u (nI src) x2 1) ∧ f_MO_ask_54 u (nI src) x2 1 = f_MO_ask_93 u (nI src) x2 1 1 0) := by
    obtain ⟨k3, k4⟩ := qm_a93n u (nI src) x2 1 1 3 (by decide)
    unfold p_MO_ask_54 f_MO_ask_54 p_MO_ask_59 f_MO_ask_59
    rw [if_neg i10, if_neg i10, e39]
    by_cases c : q_nq Q < 8
    · have n8 : ¬ nI (q_nq Q) = (8 : Int32) := fun q => by have := (qe_8 (by omega)).mp q; omega
      rw [if_neg n8]
      exact ⟨0, Or.inr ⟨rfl, c⟩, fun q => absurd rfl q, fun _ => ⟨fun q => ⟨fun q2 => absurd q2 i10, fun _ => ⟨fun q2 => absurd q2 i10, fun _ => ⟨fun q2 => absurd q2 n8, fun _ => q⟩⟩⟩, rfl⟩⟩
    · have y8 : nI (q_nq Q) = (8 : Int32) := (qe_8 (by omega)).mpr (by omega)
      rw [if_pos y8]
      exact ⟨3, Or.inl ⟨rfl, c⟩, fun _ => ⟨⟨fun q2 => absurd q2 i10, fun _ => ⟨fun q2 => absurd q2 i10, fun _ => ⟨fun _ => k3, fun q2 => absurd y8 q2⟩⟩⟩, k4⟩, fun q => absurd q (by decide)⟩
  obtain ⟨y, ly, l1, l2⟩ := last
  unfold p_MO_ask_27 f_MO_ask_27
  rw [if_neg i10]
  unfold p_MO_ask_58 f_MO_ask_58
  rcases x3 with ⟨x3, hx⟩ | ⟨x3, hx⟩
  · rw [x3, if_neg i10]
    exact ⟨2, Or.inl ⟨rfl, Or.inl hx⟩, fun _ => ⟨⟨fun q => absurd q i10, fun _ => ⟨x1, fun q => absurd q i10, fun _ => k1⟩⟩, k2⟩, fun q => absurd q (by decide)⟩
  rw [x3, if_pos rfl]
  have hk2 : src < 10 ∨ Q (67 + 7 * (src - 10)) 0 ≠ 2 := by
    by_cases h : src < 10
    · exact Or.inl h
    · exact Or.inr (fun q => hx ⟨by omega, q⟩)
  have ewn := q_wx_n (A := A) (R := R) (Q := Q) hk2
  rcases hj with rfl | ⟨c, rfl, hc⟩
  · rw [if_pos rfl]
    refine ⟨y, ?_, fun q => ?_, fun q => ?_⟩
    · rcases ly with ⟨q1, q2⟩ | ⟨q1, q2⟩
      · exact Or.inr (Or.inl ⟨q1, hx, q2, Or.inl rfl⟩)
      · exact Or.inr (Or.inr ⟨q1, hx, q2, Or.inl rfl⟩)
    · exact ⟨⟨fun q => absurd q i10, fun _ => ⟨x1, fun _ => ⟨fun _ => (l1 q).1, fun q2 => absurd rfl q2⟩, fun q2 => absurd rfl q2⟩⟩, (l1 q).2⟩
    · exact ⟨fun h9 => ⟨fun q => absurd q i10, fun _ => ⟨x1, fun _ => ⟨fun _ => (l2 q).1 h9, fun q2 => absurd rfl q2⟩, fun q2 => absurd rfl q2⟩⟩, (l2 q).2⟩
  · have nm := q_m1_ne (n := c) (by omega)
    rw [ewn] at hc
    have c54 : c < 54 := by omega
    obtain ⟨z1, z2⟩ := qm_link md w qm qw hs' hc c54
    rw [if_neg nm]
    rcases z2 with ⟨z2, z3⟩ | ⟨z2, z3⟩
    · rw [z2, if_pos rfl]
      exact ⟨2, Or.inl ⟨rfl, Or.inr ⟨c, rfl, c54, z3⟩⟩, fun _ => ⟨⟨fun q => absurd q i10, fun _ => ⟨x1, fun _ => ⟨fun q => absurd q nm, fun _ => ⟨z1, fun _ => k1, fun q => absurd rfl q⟩⟩, fun q => absurd rfl q⟩⟩, k2⟩, fun q => absurd q (by decide)⟩
    · rw [z2, if_neg i10]
      refine ⟨y, ?_, fun q => ?_, fun q => ?_⟩
      · rcases ly with ⟨q1, q2⟩ | ⟨q1, q2⟩
        · exact Or.inr (Or.inl ⟨q1, hx, q2, Or.inr ⟨c, rfl, hc, c54, z3⟩⟩)
        · exact Or.inr (Or.inr ⟨q1, hx, q2, Or.inr ⟨c, rfl, hc, c54, z3⟩⟩)
      · exact ⟨⟨fun q => absurd q i10, fun _ => ⟨x1, fun _ => ⟨fun q2 => absurd q2 nm, fun _ => ⟨z1, fun q2 => absurd q2 i10, fun _ => (l1 q).1⟩⟩, fun q2 => absurd rfl q2⟩⟩, (l1 q).2⟩
      · exact ⟨fun h9 => ⟨fun q => absurd q i10, fun _ => ⟨x1, fun _ => ⟨fun q2 => absurd q2 nm, fun _ => ⟨z1, fun q2 => absurd q2 i10, fun _ => (l2 q).1 h9⟩⟩, fun q2 => absurd rfl q2⟩⟩, (l2 q).2⟩
/-- the class's tests, the same -/
theorem qa_a16 {s A R Q : am_M} (cd : q_cd s A) (w : q_wd A) (qc : q_qc s Q) (qw : q_qw A Q) {src : Nat} (hs : q_isS A Q src) {x2 : Int32} (hj : x2 = -1 ∨ ∃ c, x2 = nI c ∧ c < q_wx A R Q src) : ∃ y, q_aw A R Q src x2 y ∧ (y ≠ 0 → p_CB_ask_16 s (nI src) x2 ∧ f_CB_ask_16 s (nI src) x2 = (y, 0, s)) ∧ (y = 0 → (p_AS_makePlain s (nI src) x2 → p_CB_ask_16 s (nI src) x2) ∧ f_CB_ask_16 s (nI src) x2 = (0, (f_AS_makePlain s (nI src) x2).1, (f_AS_makePlain s (nI src) x2).2)) := by
  have h8 := qw.1.2
  have h4 := w.1.2
  have hs' : src < 4 ∨ (10 ≤ src ∧ src < 10 + q_nq Q) := by unfold q_isS at hs; omega
  have hwx := q_wx_le (R := R) w qw hs'
  obtain ⟨x1, x3⟩ := qa_noX w qc qw hs
  have hpl := qa_qplace qc qw
  have n20 : ¬ (2 : Nat) = 0 := by decide
  have n30 : ¬ (3 : Nat) = 0 := by decide
  unfold p_CB_ask_16 f_CB_ask_16
  rcases x3 with ⟨x3, hx⟩ | ⟨x3, hx⟩
  · rw [x3, if_neg n20]
    exact ⟨2, Or.inl ⟨rfl, Or.inl hx⟩, fun _ => ⟨⟨x1, fun q => absurd q n20⟩, rfl⟩, fun q => absurd q n20⟩
  rw [x3, if_pos rfl]
  have hk2 : src < 10 ∨ Q (67 + 7 * (src - 10)) 0 ≠ 2 := by
    by_cases h : src < 10
    · exact Or.inl h
    · exact Or.inr (fun q => hx ⟨by omega, q⟩)
  have ewn := q_wx_n (A := A) (R := R) (Q := Q) hk2
  rcases hj with rfl | ⟨c, rfl, hc⟩
  · rw [if_pos rfl]
    by_cases c8 : q_nq Q < 8
    · rw [if_pos c8] at hpl
      rw [hpl, if_pos rfl]
      exact ⟨0, Or.inr (Or.inr ⟨rfl, hx, c8, Or.inl rfl⟩), fun q => absurd rfl q, fun _ => ⟨fun h9 => ⟨x1, fun _ => ⟨fun _ _ => ⟨h9, trivial⟩, fun q => absurd rfl q⟩⟩, rfl⟩⟩
    · rw [if_neg c8] at hpl
      rw [hpl, if_neg n30]
      exact ⟨3, Or.inr (Or.inl ⟨rfl, hx, c8, Or.inl rfl⟩), fun _ => ⟨⟨x1, fun _ => ⟨fun _ q => absurd q n30, fun q => absurd rfl q⟩⟩, rfl⟩, fun q => absurd q n30⟩
  · have nm := q_m1_ne (n := c) (by omega)
    rw [ewn] at hc
    have c54 : c < 54 := by omega
    obtain ⟨z0, z1, z2⟩ := qa_link cd w qc qw hs' hc c54
    rw [if_neg nm]
    rcases z2 with ⟨z2, z3⟩ | ⟨z2, z3⟩
    · rw [z2, if_neg n20]
      exact ⟨2, Or.inl ⟨rfl, Or.inr ⟨c, rfl, c54, z3⟩⟩, fun _ => ⟨⟨x1, fun _ => ⟨fun q => absurd q nm, fun _ => ⟨z0, z1, fun q => absurd q n20⟩⟩⟩, rfl⟩, fun q => absurd q n20⟩
    · rw [z2, if_pos rfl]
      by_cases c8 : q_nq Q < 8
      · rw [if_pos c8] at hpl
        rw [hpl, if_pos rfl]
        exact ⟨0, Or.inr (Or.inr ⟨rfl, hx, c8, Or.inr ⟨c, rfl, hc, c54, z3⟩⟩), fun q => absurd rfl q, fun _ => ⟨fun h9 => ⟨x1, fun _ => ⟨fun q => absurd q nm, fun _ => ⟨z0, z1, fun _ _ => ⟨h9, trivial⟩⟩⟩⟩, rfl⟩⟩
      · rw [if_neg c8] at hpl
        rw [hpl, if_neg n30]
        exact ⟨3, Or.inr (Or.inl ⟨rfl, hx, c8, Or.inr ⟨c, rfl, hc, c54, z3⟩⟩), fun _ => ⟨⟨x1, fun _ => ⟨fun q => absurd q nm, fun _ => ⟨z0, z1, fun _ q => absurd q n30⟩⟩⟩, rfl⟩, fun q => absurd q n30⟩
end
