noncomputable section
-- a new question
theorem qm_og1 (s : am_M) {src c j : Nat} (hj : j ≤ 8) (hs : src < 4 ∨ (10 ≤ src ∧ src < 10 + j)) (hc : c < 54) : p_MO_originOf s (nI src) (nI c) ∧ f_MO_originOf s (nI src) (nI c) = (if src < 10 then nI (6 * src + c) else s 252 (54 * (src - 10) + c)) := by
  unfold p_MO_originOf f_MO_originOf
  by_cases h : src < 10
  · have c1 : ¬ (10 : Int32) ≤ nI src := ql_10 h
    rw [if_neg c1, if_pos h, qw_6, nI_add]
    exact ⟨⟨fun q => absurd q c1, fun _ => trivial⟩, rfl⟩
  · have c1 : (10 : Int32) ≤ nI src := qg_10 (by omega) (by omega)
    rw [if_pos c1, if_neg h, q_10m (by omega), qw_54, nI_add, nI_clamp (n := 54 * (src - 10) + c) (by omega)]
    exact ⟨⟨fun _ => ⟨vp_in_nI (by omega) (by omega), trivial⟩, fun q => absurd c1 q⟩, rfl⟩
/-- the model's number of a source's column -/
def q_mo (s : am_M) (src c : Nat) : Int32 := if src < 10 then nI (6 * src + c) else s 252 (54 * (src - 10) + c)
theorem qm_mk87 {K : Int32} {src j W : Nat} (hj : j < 8) (hs : src < 4 ∨ (10 ≤ src ∧ src < 10 + j)) (hW : W ≤ 54) : ∀ (d c n : Nat) (s : am_M), c + d = 54 → d < n → s 207 39 = nI j → s 238 j = nI W → p_MO_makes_87 n s K (nI src) (nI c) ∧ ∃ t, f_MO_makes_87 n s K (nI src) (nI c) = (nI j, t) ∧ q_out s t (fun a b => (a = 207 ∧ b = 39) ∨ (a = 252 ∧ 54 * j + c ≤ b ∧ b < 54 * j + 54)) ∧ t 207 39 = nI (j + 1) ∧ ∀ i, c ≤ i → i < 54 → t 252 (54 * j + i) = (if K = 0 ∧ i < W then q_mo s src i else -1) := by
  intro d
  induction d with
  | zero =>
    intro c n s h1 h2 h3 h4
    obtain ⟨n, rfl⟩ : ∃ k, n = k + 1 := ⟨n - 1, by omega⟩
    have e : c = 54 := by omega
    subst e
    have c1 : (54 : Int32) ≤ nI 54 := qg_54 (Nat.le_refl _) (by omega)
    unfold p_MO_makes_87 f_MO_makes_87
    rw [if_pos c1]
    unfold f_MO_makes_140
    rw [am_set_q, h3, nI_1 j, show nI (j + 1) - (1 : Int32) = nI j from q_subI j 1]
    exact ⟨⟨fun _ => trivial, fun q => absurd c1 q⟩, _, rfl, fun a b q => am_set_p (by omega), am_set_q, fun i i1 i2 => by omega⟩
  | succ d ih =>
    intro c n s h1 h2 h3 h4
    obtain ⟨n, rfl⟩ : ∃ k, n = k + 1 := ⟨n - 1, by omega⟩
    have hc : c < 54 := by omega
    have c1 : ¬ (54 : Int32) ≤ nI c := ql_54 hc
    have vx : vp_in (nI (54 * j + c)) 648 := vp_in_nI (by omega) (by omega)
    obtain ⟨o1, o2⟩ := qm_og1 s (j := j) (by omega) hs hc
    have o2 : f_MO_originOf s (nI src) (nI c) = q_mo s src c := o2
    have step : ∀ v : Int32, v = (if K = 0 ∧ c < W then q_mo s src c else -1) → p_MO_makes_87 n (am_set s 252 (54 * j + c) v) K (nI src) (nI (c + 1)) ∧ ∃ t, f_MO_makes_87 n (am_set s 252 (54 * j + c) v) K (nI src) (nI (c + 1)) = (nI j, t) ∧ q_out s t (fun a b => (a = 207 ∧ b = 39) ∨ (a = 252 ∧ 54 * j + c ≤ b ∧ b < 54 * j + 54)) ∧ t 207 39 = nI (j + 1) ∧ ∀ i, c ≤ i → i < 54 → t 252 (54 * j + i) = (if K = 0 ∧ i < W then q_mo s src i else -1) := fun v hv => by
      obtain ⟨p1, t, t1, t2, t3, t4⟩ := ih (c + 1) n (am_set s 252 (54 * j + c) v) (by omega) (by omega) (by rw [am_set_p (by omega)]; exact h3) (by rw [am_set_p (by omega)]; exact h4)
      refine ⟨p1, t, t1, fun a b q => by rw [t2 a b (by omega), am_set_p (by omega)], t3, fun i i1 i2 => ?_⟩
      by_cases e : i = c
      · rw [e, t2 _ _ (by omega), am_set_q]; exact hv
      · have em : q_mo (am_set s 252 (54 * j + c) v) src i = q_mo s src i := by
          unfold q_mo
          by_cases h : src < 10
          · rw [if_pos h, if_pos h]
          · rw [if_neg h, if_neg h, am_set_p (by omega)]
        rw [t4 i (by omega) i2, em]
    unfold p_MO_makes_87 f_MO_makes_87 p_MO_makes_132 f_MO_makes_132 p_MO_makes_133 f_MO_makes_133
    rw [if_neg c1, h3, nI_clamp (n := j) (by omega), h4, qw_54, nI_add, nI_clamp (n := 54 * j + c) (by omega), o2, nI_1]
    by_cases hK : K = 0
    · rw [if_pos hK]
      by_cases hw : nI W ≤ nI c
      · have hn : ¬ c < W := fun q => nI_ge q (by omega) hw
        obtain ⟨p1, r1⟩ := step (-1) (by rw [if_neg (fun q => hn q.2)])
        rw [if_pos hw]
        exact ⟨⟨fun q => absurd q c1, fun _ => ⟨fun _ => ⟨vp_in_nI (by omega) (by omega), fun _ => ⟨vx, p1⟩, fun q => absurd hw q⟩, fun q => absurd hK q⟩⟩, r1⟩
      · have hn : c < W := by
          by_cases q : c < W
          · exact q
          · exact absurd (nI_le (show W ≤ c by omega) (by omega)) hw
        obtain ⟨p1, r1⟩ := step (q_mo s src c) (by rw [if_pos ⟨hK, hn⟩])
        rw [if_neg hw]
        exact ⟨⟨fun q => absurd q c1, fun _ => ⟨fun _ => ⟨vp_in_nI (by omega) (by omega), fun q => absurd q hw, fun _ => ⟨o1, vx, p1⟩⟩, fun q => absurd hK q⟩⟩, r1⟩
    · rw [if_neg hK]
      obtain ⟨p1, r1⟩ := step (-1) (by rw [if_neg (fun q => hK q.1)])
      exact ⟨⟨fun q => absurd q c1, fun _ => ⟨fun q => absurd q hK, fun _ => ⟨vx, p1⟩⟩⟩, r1⟩
theorem qm_makes {s : am_M} {K : Int32} {src j W : Nat} (hj : j < 8) (hs : src < 4 ∨ (10 ≤ src ∧ src < 10 + j)) (h39 : s 207 39 = nI j) (hW : s 249 (q_sl src) = nI W) (hW54 : W ≤ 54) : p_MO_makes s K (nI src) ∧ ∃ t, f_MO_makes s K (nI src) = (nI j, t) ∧ q_out s t (fun a b => (a = 207 ∧ b = 39) ∨ ((a = 236 ∨ a = 237 ∨ a = 238 ∨ a = 239 ∨ a = 243 ∨ a = 249) ∧ b = j) ∨ (a = 252 ∧ 54 * j ≤ b ∧ b < 54 * j + 54)) ∧ t 207 39 = nI (j + 1) ∧ t 236 j = K ∧ t 237 j = nI src ∧ t 239 j = -1 ∧ t 243 j = 0 ∧ t 238 j = nI W ∧ t 249 j = (if K = 1 then 5 else nI W) ∧ ∀ i, i < 54 → t 252 (54 * j + i) = (if K = 0 ∧ i < W then q_mo s src i else -1) := by
  have cl : (nI j).toNatClampNeg = j := nI_clamp (by omega)
  have hsl : q_sl src < 12 := by
    unfold q_sl
    by_cases h : src < 10
    · rw [if_pos h]; omega
    · rw [if_neg h]; omega
  have cs : (nI (q_sl src)).toNatClampNeg = q_sl src := nI_clamp (by omega)
  have e1 : am_set s 236 j K 207 39 = nI j := by rw [am_set_p (by omega)]; exact h39
  have e2 : am_set (am_set s 236 j K) 237 j (nI src) 207 39 = nI j := by rw [am_set_p (by omega)]; exact e1
  have e3 : am_set (am_set (am_set s 236 j K) 237 j (nI src)) 239 j (-1) 207 39 = nI j := by rw [am_set_p (by omega)]; exact e2
  have e4 : am_set (am_set (am_set (am_set s 236 j K) 237 j (nI src)) 239 j (-1)) 243 j 0 207 39 = nI j := by rw [am_set_p (by omega)]; exact e3
  have e4w : am_set (am_set (am_set (am_set s 236 j K) 237 j (nI src)) 239 j (-1)) 243 j 0 249 (q_sl src) = nI W := by
    rw [am_set_p (by omega), am_set_p (by omega), am_set_p (by omega), am_set_p (by omega)]; exact hW
  have e5 : am_set (am_set (am_set (am_set (am_set s 236 j K) 237 j (nI src)) 239 j (-1)) 243 j 0) 238 j (nI W) 207 39 = nI j := by rw [am_set_p (by omega)]; exact e4
  have sl := fun u => q_sl_I u (show src < 100 by omega)
  have vj : vp_in (nI j) 8 := vp_in_nI hj (by omega)
  have fin : ∀ y : Int32, y = (if K = 1 then 5 else nI W) → p_MO_makes_87 am_F (am_set (am_set (am_set (am_set (am_set (am_set s 236 j K) 237 j (nI src)) 239 j (-1)) 243 j 0) 238 j (nI W)) 249 j y) K (nI src) 0 ∧ ∃ t, f_MO_makes_87 am_F (am_set (am_set (am_set (am_set (am_set (am_set s 236 j K) 237 j (nI src)) 239 j (-1)) 243 j 0) 238 j (nI W)) 249 j y) K (nI src) 0 = (nI j, t) ∧ q_out s t (fun a b => (a = 207 ∧ b = 39) ∨ ((a = 236 ∨ a = 237 ∨ a = 238 ∨ a = 239 ∨ a = 243 ∨ a = 249) ∧ b = j) ∨ (a = 252 ∧ 54 * j ≤ b ∧ b < 54 * j + 54)) ∧ t 207 39 = nI (j + 1) ∧ t 236 j = K ∧ t 237 j = nI src ∧ t 239 j = -1 ∧ t 243 j = 0 ∧ t 238 j = nI W ∧ t 249 j = (if K = 1 then 5 else nI W) ∧ ∀ i, i < 54 → t 252 (54 * j + i) = (if K = 0 ∧ i < W then q_mo s src i else -1) := fun y hy => by
    obtain ⟨p1, t, t1, t2, t3, t4⟩ := qm_mk87 (K := K) hj hs hW54 54 0 am_F (am_set (am_set (am_set (am_set (am_set (am_set s 236 j K) 237 j (nI src)) 239 j (-1)) 243 j 0) 238 j (nI W)) 249 j y) (by omega) (by rw [am_F_eq]; omega) (by rw [am_set_p (by omega)]; exact e5) (by rw [am_set_p (by omega), am_set_q])
    rw [nI_0] at p1 t1
    have em : ∀ i, q_mo (am_set (am_set (am_set (am_set (am_set (am_set s 236 j K) 237 j (nI src)) 239 j (-1)) 243 j 0) 238 j (nI W)) 249 j y) src i = q_mo s src i := fun i => by
      unfold q_mo
      by_cases h : src < 10
      · rw [if_pos h, if_pos h]
      · rw [if_neg h, if_neg h, am_set_p (by omega), am_set_p (by omega), am_set_p (by omega), am_set_p (by omega), am_set_p (by omega), am_set_p (by omega)]
    refine ⟨p1, t, t1, fun a b q => ?_, t3, ?_, ?_, ?_, ?_, ?_, ?_, fun i hi => ?_⟩
    · rw [t2 a b (by omega), am_set_p (by omega), am_set_p (by omega), am_set_p (by omega), am_set_p (by omega), am_set_p (by omega), am_set_p (by omega)]
    · rw [t2 _ _ (by omega), am_set_p (by omega), am_set_p (by omega), am_set_p (by omega), am_set_p (by omega), am_set_p (by omega), am_set_q]
    · rw [t2 _ _ (by omega), am_set_p (by omega), am_set_p (by omega), am_set_p (by omega), am_set_p (by omega), am_set_q]
    · rw [t2 _ _ (by omega), am_set_p (by omega), am_set_p (by omega), am_set_p (by omega), am_set_q]
    · rw [t2 _ _ (by omega), am_set_p (by omega), am_set_p (by omega), am_set_q]
    · rw [t2 _ _ (by omega), am_set_p (by omega), am_set_q]
    · rw [t2 _ _ (by omega), am_set_q]; exact hy
    · rw [t4 i (by omega) hi, em]
  have e5w : am_set (am_set (am_set (am_set (am_set s 236 j K) 237 j (nI src)) 239 j (-1)) 243 j 0) 238 j (nI W) 238 j = nI W := am_set_q
  have v12 : vp_in (nI (q_sl src)) 12 := vp_in_nI hsl (by omega)
  have vj12 : vp_in (nI j) 12 := vp_in_nI (by omega) (by omega)
  unfold p_MO_makes f_MO_makes p_MO_makes_84 f_MO_makes_84
  rw [h39, cl, e1, cl, e2, cl, e3, cl, (sl _).2, cs, e4, cl, e4w, e5, cl, e5w]
  by_cases hK : K = 1
  · obtain ⟨p1, r1⟩ := fin 5 (by rw [if_pos hK])
    rw [if_pos hK]
    exact ⟨⟨vj, vj, vj, vj, v12, vj, fun _ => ⟨vj12, p1⟩, fun q => absurd hK q⟩, r1⟩
  · obtain ⟨p1, r1⟩ := fin (nI W) (by rw [if_neg hK])
    rw [if_neg hK]
    exact ⟨⟨vj, vj, vj, vj, v12, vj, fun q => absurd q hK, fun _ => ⟨vj, vj12, p1⟩⟩, r1⟩
/-- the questions with the new one, as the class's memory has it -/
def q_Pj (Q t : am_M) (j : Nat) : am_M := fun a b => if (67 + 7 * j ≤ a ∧ a ≤ 69 + 7 * j) ∨ (a = 52 ∧ b = 3) then t a b else Q a b
theorem q_Pj_n {Q t : am_M} {j a : Nat} (h1 : 67 + 7 * j ≤ a) (h2 : a ≤ 69 + 7 * j) : q_Pj Q t j a = t a := funext fun _ => if_pos (Or.inl ⟨h1, h2⟩)
theorem q_Pj_o {Q t : am_M} {j a : Nat} (h1 : ¬ (67 + 7 * j ≤ a ∧ a ≤ 69 + 7 * j)) (h2 : a ≠ 52) : q_Pj Q t j a = Q a := funext fun _ => if_neg (by omega)
theorem q_Pj_52 {Q t : am_M} {j : Nat} : q_Pj Q t j 52 3 = t 52 3 := if_pos (Or.inr ⟨rfl, rfl⟩)
theorem pu_newQ {c : Nat} {s t : am_M} {Z : Nat → am_M} {j : Nat} (hj : j = q_nq (Z 11)) (hj8 : j < 8) (hP : ∀ i, pu_P i s) (hZ : ∀ j, pu_X c j s Z)
    (ho : q_out s t (fun a b => q_LU (Z 11) a b ∨ (67 + 7 * j ≤ a ∧ a ≤ 69 + 7 * j) ∨ (a = 52 ∧ b = 3) ∨ (a = 207 ∧ b = 39) ∨ (((236 ≤ a ∧ a ≤ 243) ∨ a = 249) ∧ b = j) ∨ (a = 252 ∧ 54 * j ≤ b ∧ b < 54 * j + 54)))
    (c52 : t 52 3 = nI (j + 1)) (m39 : t 207 39 = nI (j + 1)) (m36 : t 236 j = t (67 + 7 * j) 0) (m37 : t 237 j = t (67 + 7 * j) 1) (m38 : t (67 + 7 * j) 0 = 0 → t 238 j = t (67 + 7 * j) 8) (m39' : t 239 j = t (67 + 7 * j) 2) (m40 : t (67 + 7 * j) 0 ≠ 0 → t 240 j = t (67 + 7 * j) 4 ∧ t 242 j = t (67 + 7 * j) 6) (m41 : t (67 + 7 * j) 0 = 2 → t 241 j = t (67 + 7 * j) 5) (m43 : t 243 j = t (67 + 7 * j) 12) (m49 : t (67 + 7 * j) 0 ≠ 2 → t 249 j = t (67 + 7 * j) 7) (m52 : ∀ c, c < 54 → t 252 (54 * j + c) = q_mc (t (68 + 7 * j) c)) (h12 : t (67 + 7 * j) 12 = 0)
    (good : q_q1 (Z 6) (q_Pj (Z 11) t j) j) : pu_R c t := by
  obtain ⟨-, -, -, wd⟩ : q_x1 s (Z 6) := hZ 1
  obtain ⟨qc, qm, qw⟩ : q_x5 s (Z 6) (Z 11) := hZ 5
  have h4 := wd.1.2
  have enq : q_nq (q_Pj (Z 11) t j) = j + 1 := by unfold q_nq; rw [q_Pj_52, c52]; exact nI_clamp (by omega)
  have o7 : ∀ i, i ≠ j → q_Pj (Z 11) t j (67 + 7 * i) = Z 11 (67 + 7 * i) := fun i hi => q_Pj_o (by omega) (by omega)
  have o8 : ∀ i, i ≠ j → q_Pj (Z 11) t j (68 + 7 * i) = Z 11 (68 + 7 * i) := fun i hi => q_Pj_o (by omega) (by omega)
  have o9 : ∀ i, i ≠ j → q_Pj (Z 11) t j (69 + 7 * i) = Z 11 (69 + 7 * i) := fun i hi => q_Pj_o (by omega) (by omega)
  have n7 : q_Pj (Z 11) t j (67 + 7 * j) = t (67 + 7 * j) := q_Pj_n (by omega) (by omega)
  have n8 : q_Pj (Z 11) t j (68 + 7 * j) = t (68 + 7 * j) := q_Pj_n (by omega) (by omega)
  -- what a place of an earlier question has
  have keep : ∀ a b, ¬ q_LU (Z 11) a b → ((236 ≤ a ∧ a ≤ 247) ∨ a = 249) → b ≠ j → t a b = s a b := fun a b n1 h1 h2 => ho a b (by
    rintro (q | q | q | q | q | q)
    · exact n1 q
    · omega
    · omega
    · omega
    · omega
    · omega)
  have nl : ∀ a b, (236 ≤ a ∧ a ≤ 247) → ¬ q_LU (Z 11) a b := fun a b h q => by have := q_LU_w q; omega
  refine pu_asked (P := q_Pj (Z 11) t j) hP hZ (fun a b hab => ?_) ⟨⟨?_, fun a q1 q2 => ?_⟩, ⟨?_, fun i hi => ?_⟩, ⟨?_, ?_⟩, fun i hi => ?_, fun i hi1 hi2 => ?_⟩ ⟨?_, fun q hq => ?_⟩
  · refine ho a b (fun q => hab ?_)
    rcases q with q | q | q | q | q | q
    · exact q_LU_own q
    · rw [pu_own_11 (by omega)]; decide
    · rw [q.1, q.2]; decide
    · rw [q.1, q.2]; decide
    · rw [pu_own_11 (by omega)]; decide
    · rw [pu_own_11 (by omega)]; decide
  · exact q_Pj_52.symm
  · by_cases e : 67 + 7 * j ≤ a ∧ a ≤ 69 + 7 * j
    · exact (q_Pj_n e.1 e.2).symm
    · rw [q_Pj_o e (by omega), ← qc.2 a q1 q2]
      funext b
      refine ho a b ?_
      rintro (q | q | q | q | q | q)
      · have := q_LU_w q; omega
      · exact e q
      · omega
      · omega
      · omega
      · omega
  · rw [m39, q_Pj_52, c52]
  · rw [enq] at hi
    by_cases e : i = j
    · subst e
      rw [n7, n8]
      have ec : q_c (t (67 + 7 * i) 12) = 0 := by rw [h12]; rfl
      exact ⟨m36, m37, m38, m39', m40, m41, m43, fun i' hi' => by rw [ec] at hi'; exact absurd hi' (Nat.not_lt_zero _), m49, m52⟩
    · obtain ⟨f1, f2, f3, f4, f5, f6, f7, f8, f9, f10⟩ := qm.2 i (by omega)
      obtain ⟨-, -, -, -, -, m', -, g2', g3', -⟩ := q_flds wd qw (show i < q_nq (Z 11) by omega)
      rw [g2'] at f8
      have k := fun a (h : 236 ≤ a ∧ a ≤ 247) => keep a i (nl a i h) (Or.inl h) e
      rw [o7 i e, o8 i e, q_Pj_o (a := 70 + 7 * i) (by omega) (by omega), q_Pj_o (a := 71 + 7 * i) (by omega) (by omega), q_Pj_o (a := 72 + 7 * i) (by omega) (by omega), q_Pj_o (a := 73 + 7 * i) (by omega) (by omega), g2']
      have kk : ∀ a i', (244 ≤ a ∧ a ≤ 247) → t a (6 * i + i') = s a (6 * i + i') := fun a i' h => ho _ _ (by
        rintro (q | q | q | q | q | q)
        · have := q_LU_w q; omega
        · omega
        · omega
        · omega
        · omega
        · omega)
      refine ⟨(k 236 (by omega)).trans f1, (k 237 (by omega)).trans f2, fun q => (k 238 (by omega)).trans (f3 q), (k 239 (by omega)).trans f4, fun q => ⟨(k 240 (by omega)).trans (f5 q).1, (k 242 (by omega)).trans (f5 q).2⟩, fun q => (k 241 (by omega)).trans (f6 q), (k 243 (by omega)).trans f7, fun i' hi' => ?_, fun q => ?_, fun c hc' => ?_⟩
      · obtain ⟨d1, d2, d3, d4⟩ := f8 i' hi'
        exact ⟨(kk 244 i' (by omega)).trans d1, (kk 245 i' (by omega)).trans d2, (kk 246 i' (by omega)).trans d3, (kk 247 i' (by omega)).trans d4⟩
      · refine (keep 249 i (fun q2 => ?_) (Or.inr rfl) e).trans (f9 q)
        unfold q_LU q_FD q_LD at q2
        rcases q2 with q2 | q2 | q2 | q2
        · omega
        · omega
        · rcases q2 with q2 | q2 | q2 | q2 | q2 | q2 | q2
          · omega
          · omega
          · omega
          · omega
          · omega
          · rcases q2.2 with q3 | q3
            · omega
            · exact q q3
          · omega
        · omega
      · refine (ho 252 (54 * i + c) ?_).trans (f10 c hc')
        rintro (q | q | q | q | q | q)
        · have := q_LU_w q; omega
        · omega
        · omega
        · omega
        · omega
        · omega
  · rw [enq, q_Pj_52]; exact c52
  · rw [enq]; omega
  · rw [enq] at hi
    by_cases e : i = j
    · rw [e]; exact good
    · have hi' : i < j := by omega
      refine q_q1_e h4 (fun i' h9 b _ => by rw [o7 i' (by omega)]) (fun i' h9 => ⟨o8 i' (by omega), o9 i' (by omega)⟩) (fun _ => by rw [o7 i e]) (fun _ w _ _ hcond => ?_) (qw.2.1 i (by omega))
      rw [o7 i e, q_Pj_o (a := 70 + 7 * i) (by omega) (by omega), q_Pj_o (a := 71 + 7 * i) (by omega) (by omega), q_Pj_o (a := 72 + 7 * i) (by omega) (by omega), q_Pj_o (a := 73 + 7 * i) (by omega) (by omega)]
      exact hcond
  · rw [enq] at hi1
    have e : i ≠ j := by omega
    unfold q_q0
    rw [o7 i e, o8 i e, o9 i e]
    exact qw.2.2 i (by omega) hi2
  · rw [enq]; omega
  · rw [o7 q (by omega)]; exact ⟨rfl, rfl⟩
/-- columns and widths of a source stay -/
theorem q_Pj_s {A Q t : am_M} {j src : Nat} (hs : src < 4 ∨ (10 ≤ src ∧ src < 10 + j)) : (∀ c, q_so (q_Pj Q t j) src c = q_so Q src c) ∧ (∀ c, q_sp (q_Pj Q t j) src c = q_sp Q src c) ∧ q_sn (q_Pj Q t j) src = q_sn Q src ∧ q_sw A (q_Pj Q t j) src = q_sw A Q src ∧ (10 ≤ src → q_Pj Q t j (67 + 7 * (src - 10)) = Q (67 + 7 * (src - 10))) := by
  have e7 : 10 ≤ src → q_Pj Q t j (67 + 7 * (src - 10)) = Q (67 + 7 * (src - 10)) := fun h => q_Pj_o (by omega) (by omega)
  have e8 : 10 ≤ src → q_Pj Q t j (68 + 7 * (src - 10)) = Q (68 + 7 * (src - 10)) := fun h => q_Pj_o (by omega) (by omega)
  have e9 : 10 ≤ src → q_Pj Q t j (69 + 7 * (src - 10)) = Q (69 + 7 * (src - 10)) := fun h => q_Pj_o (by omega) (by omega)
  unfold q_so q_sp q_sn q_sw
  by_cases h : src < 10
  · refine ⟨fun c => by rw [if_pos h, if_pos h], fun c => by rw [if_pos h, if_pos h], by rw [if_pos h, if_pos h], by rw [if_pos h, if_pos h], e7⟩
  · refine ⟨fun c => by rw [if_neg h, if_neg h, e8 (by omega)], fun c => by rw [if_neg h, if_neg h, e9 (by omega)], by rw [if_neg h, if_neg h, e7 (by omega)], by rw [if_neg h, if_neg h, e7 (by omega)], e7⟩
end
