noncomputable section
-- steps are added
theorem qv_lk : ∀ j, j < 4 → am_lk 125 j = 126 + 14 * j ∧ (126 + 14 * j < 207 ∧ am_sh (126 + 14 * j) = (0, 0, 2)) ∧ am_lk (126 + 14 * j) 0 = 127 + 14 * j ∧ (127 + 14 * j < 207 ∧ am_sh (127 + 14 * j) = (1, 8, 6)) ∧ ∀ k, k < 6 → am_lk (127 + 14 * j) k = 128 + 14 * j + 2 * k ∧ (128 + 14 * j + 2 * k < 207 ∧ am_sh (128 + 14 * j + 2 * k) = (0, 8, 5)) ∧ am_lk (128 + 14 * j + 2 * k) 4 = 129 + 14 * j + 2 * k ∧ (129 + 14 * j + 2 * k < 207 ∧ am_sh (129 + 14 * j + 2 * k) = (1, 0, 6)) := by decide +kernel
/-- the class's memory behind a step that is added -/
def q_cs9 (s : am_M) (j k : Nat) (x1 x2 x3 x4 : Int32) : am_M := am_set (am_set (am_set (am_set (am_set s (128 + 14 * j + 2 * k) 0 x1) (128 + 14 * j + 2 * k) 1 x2) (128 + 14 * j + 2 * k) 2 x3) (128 + 14 * j + 2 * k) 3 x4) (126 + 14 * j) 1 (nI (k + 1))
theorem qc_adds {s : am_M} {j k : Nat} (hj : j < 4) (hk : k < 6) (h : s (126 + 14 * j) 1 = nI k) (x1 x2 x3 x4 : Int32) : p_AC_addStep s (126 + 14 * j) x1 x2 x3 x4 ∧ f_AC_addStep s (126 + 14 * j) x1 x2 x3 x4 = (nI (k + 1), q_cs9 s j k x1 x2 x3 x4) := by
  obtain ⟨l1, l2, l3, l4, l5⟩ := qv_lk j hj
  obtain ⟨m1, m2, m3, m4⟩ := l5 k hk
  have c : ¬ (6 : Int32) ≤ nI k := ql_6 hk
  unfold p_AC_addStep f_AC_addStep
  rw [h, l3, nI_clamp (n := k) (by omega), m1, if_neg c]
  refine ⟨⟨l2, fun _ => trivial, fun _ => ⟨l4, vp_in_nI (by omega) (by omega), m2, trivial⟩⟩, ?_⟩
  have e : am_set (am_set (am_set (am_set s (128 + 14 * j + 2 * k) 0 x1) (128 + 14 * j + 2 * k) 1 x2) (128 + 14 * j + 2 * k) 2 x3) (128 + 14 * j + 2 * k) 3 x4 (126 + 14 * j) 1 = nI k := by
    rw [am_set_p (by omega), am_set_p (by omega), am_set_p (by omega), am_set_p (by omega)]; exact h
  rw [e, nI_1, am_set_q]; rfl
theorem q_cs9_o {s : am_M} {j k : Nat} {x1 x2 x3 x4 : Int32} {a b : Nat} (h1 : a ≠ 126 + 14 * j ∨ b ≠ 1) (h2 : a ≠ 128 + 14 * j + 2 * k ∨ 3 < b) : q_cs9 s j k x1 x2 x3 x4 a b = s a b := by
  unfold q_cs9
  rw [am_set_p h1, am_set_p (by omega), am_set_p (by omega), am_set_p (by omega), am_set_p (by omega)]
theorem q_cs9_v {s : am_M} {j k : Nat} {x1 x2 x3 x4 : Int32} : q_cs9 s j k x1 x2 x3 x4 (126 + 14 * j) 1 = nI (k + 1) ∧ q_cs9 s j k x1 x2 x3 x4 (128 + 14 * j + 2 * k) 0 = x1 ∧ q_cs9 s j k x1 x2 x3 x4 (128 + 14 * j + 2 * k) 1 = x2 ∧ q_cs9 s j k x1 x2 x3 x4 (128 + 14 * j + 2 * k) 2 = x3 ∧ q_cs9 s j k x1 x2 x3 x4 (128 + 14 * j + 2 * k) 3 = x4 := by
  unfold q_cs9
  refine ⟨am_set_q, ?_, ?_, ?_, ?_⟩
  · rw [am_set_p (by omega), am_set_p (by omega), am_set_p (by omega), am_set_p (by omega), am_set_q]
  · rw [am_set_p (by omega), am_set_p (by omega), am_set_p (by omega), am_set_q]
  · rw [am_set_p (by omega), am_set_p (by omega), am_set_q]
  · rw [am_set_p (by omega), am_set_q]
theorem qm_ad50 (x1 x2 x3 x4 x5 : Int32) {g j k : Nat} (hg : g < 24) (hj : j < 4) (e1 : x1 = nI j) : ∀ (d i n : Nat) (s : am_M), i + d = 6 → d < n → s 255 j = nI k → p_MO_addsStep_50 n s x1 x2 x3 x4 x5 (nI g) (nI i) ∧ ∃ t, f_MO_addsStep_50 n s x1 x2 x3 x4 x5 (nI g) (nI i) = (nI (k + 1), t) ∧ q_out s t (fun a b => (a = 260 ∧ 6 * g + i ≤ b ∧ b < 6 * g + 6) ∨ (a = 255 ∧ b = j)) ∧ t 255 j = nI (k + 1) ∧ ∀ u, i ≤ u → u < 6 → t 260 (6 * g + u) = s 231 u := by
  subst e1
  intro d
  induction d with
  | zero =>
    intro i n s h1 h2 h3
    obtain ⟨n, rfl⟩ : ∃ k, n = k + 1 := ⟨n - 1, by omega⟩
    have e : i = 6 := by omega
    subst e
    have c : (6 : Int32) ≤ nI 6 := qg_6 (Nat.le_refl _) (by omega)
    have v : vp_in (nI j) 4 := vp_in_nI hj (by omega)
    unfold p_MO_addsStep_50 f_MO_addsStep_50
    rw [if_pos c]
    unfold p_MO_addsStep_83 f_MO_addsStep_83
    rw [nI_clamp (n := j) (by omega), h3, show nI k + (1 : Int32) = nI (k + 1) from nI_add k 1, am_set_q]
    exact ⟨⟨fun _ => ⟨v, v, v, trivial⟩, fun q => absurd c q⟩, _, rfl, fun a b q => am_set_p (by omega), am_set_q, fun u u1 u2 => by omega⟩
  | succ d ih =>
    intro i n s h1 h2 h3
    obtain ⟨n, rfl⟩ : ∃ k, n = k + 1 := ⟨n - 1, by omega⟩
    have hi : i < 6 := by omega
    have c : ¬ (6 : Int32) ≤ nI i := ql_6 hi
    have v1 : vp_in (nI i) 6 := vp_in_nI hi (by omega)
    have v2 : vp_in (nI (6 * g + i)) 144 := vp_in_nI (by omega) (by omega)
    obtain ⟨p1, t, t1, t2, t3, t4⟩ := ih (i + 1) n (am_set s 260 (6 * g + i) (s 231 i)) (by omega) (by omega) (by rw [am_set_p (by omega)]; exact h3)
    have q1 : q_out s t (fun a b => (a = 260 ∧ 6 * g + i ≤ b ∧ b < 6 * g + 6) ∨ (a = 255 ∧ b = j)) := fun a b hab => by rw [t2 a b (by omega), am_set_p (by omega)]
    have q2 : ∀ u, i ≤ u → u < 6 → t 260 (6 * g + u) = s 231 u := fun u u1 u2 => by
      by_cases e : u = i
      · rw [e, t2 _ _ (by omega), am_set_q]
      · rw [t4 u (by omega) u2, am_set_o (by omega)]
    unfold p_MO_addsStep_50 f_MO_addsStep_50
    rw [if_neg c, qw_6, nI_add, nI_clamp (n := 6 * g + i) (by omega), nI_clamp (n := i) (by omega), nI_1]
    exact ⟨⟨fun q => absurd q c, fun _ => ⟨v1, v2, p1⟩⟩, t, t1, q1, t3, q2⟩
theorem qm_adds {u : am_M} {j k : Nat} (hj : j < 4) (hk : k < 6) (h : u 255 j = nI k) (x2 x3 x4 x5 : Int32) : p_MO_addsStep u (nI j) x2 x3 x4 x5 ∧ ∃ t, f_MO_addsStep u (nI j) x2 x3 x4 x5 = (nI (k + 1), t) ∧ q_out u t (fun a b => (a = 255 ∧ b = j) ∨ ((a = 256 ∨ a = 257 ∨ a = 258 ∨ a = 259) ∧ b = 6 * j + k) ∨ (a = 260 ∧ 6 * (6 * j + k) ≤ b ∧ b < 6 * (6 * j + k) + 6)) ∧ t 255 j = nI (k + 1) ∧ t 256 (6 * j + k) = x2 ∧ t 257 (6 * j + k) = x3 ∧ t 258 (6 * j + k) = x4 ∧ t 259 (6 * j + k) = x5 ∧ ∀ i, i < 6 → t 260 (6 * (6 * j + k) + i) = u 231 i := by
  have v4 : vp_in (nI j) 4 := vp_in_nI hj (by omega)
  have v24 : vp_in (nI (6 * j + k)) 24 := vp_in_nI (by omega) (by omega)
  have e0 : (0 : Int32) = nI 0 := nI_0.symm
  obtain ⟨p1, t, t1, t2, t3, t4⟩ := qm_ad50 (nI j) x2 x3 x4 x5 (g := 6 * j + k) (k := k) (by omega) hj rfl 6 0 am_F (am_set (am_set (am_set (am_set u 256 (6 * j + k) x2) 257 (6 * j + k) x3) 258 (6 * j + k) x4) 259 (6 * j + k) x5) (by omega) (by rw [am_F_eq]; omega) (by
    rw [am_set_p (by omega), am_set_p (by omega), am_set_p (by omega), am_set_p (by omega)]; exact h)
  unfold p_MO_addsStep f_MO_addsStep
  rw [nI_clamp (n := j) (by omega), h, qw_6, nI_add, nI_clamp (n := 6 * j + k) (by omega), e0]
  refine ⟨⟨v4, v24, v24, v24, v24, p1⟩, t, t1, fun a b q => ?_, t3, ?_, ?_, ?_, ?_, fun i hi => ?_⟩
  · rw [t2 a b (by omega), am_set_p (by omega), am_set_p (by omega), am_set_p (by omega), am_set_p (by omega)]
  · rw [t2 _ _ (by omega), am_set_p (by omega), am_set_p (by omega), am_set_p (by omega), am_set_q]
  · rw [t2 _ _ (by omega), am_set_p (by omega), am_set_p (by omega), am_set_q]
  · rw [t2 _ _ (by omega), am_set_p (by omega), am_set_q]
  · rw [t2 _ _ (by omega), am_set_q]
  · rw [t4 i (by omega) hi, am_set_o (by omega), am_set_o (by omega), am_set_o (by omega), am_set_o (by omega)]
theorem q_v1_e {A Q V W : am_M} {x : Nat} (h1 : ∀ b, b < 4 → W x b = V x b) (h2 : ∀ i, i < 6 → W (x + 1) i = V (x + 1) i) (h : q_v1 A Q V x) : q_v1 A Q W x := by
  unfold q_v1
  rw [h1 0 (by omega), h1 1 (by omega), h1 2 (by omega), h1 3 (by omega)]
  rcases h with g | ⟨g1, g2, g3⟩ | g
  · exact Or.inl g
  · exact Or.inr (Or.inl ⟨g1, g2, fun i hi => by rw [h2 i hi]; exact g3 i hi⟩)
  · exact Or.inr (Or.inr g)
/-- one step more, on both sides -/
theorem qv_add {s t V W A Q : am_M} {j k : Nat} (hj : j < 4) (hk : k < 6) (hV : V (126 + 14 * j) 1 = nI k) (m : q_vm s V) (w : q_vw A Q V) (ho : q_out V W (fun a b => (a = 126 + 14 * j ∧ b = 1) ∨ (a = 128 + 14 * j + 2 * k ∧ b ≤ 3) ∨ a = 129 + 14 * j + 2 * k)) (hW : W (126 + 14 * j) 1 = nI (k + 1)) (good : q_v1 A Q W (128 + 14 * j + 2 * k)) (to : ∀ a b, 255 ≤ a → a ≤ 260 → ¬ ((a = 255 ∧ b = j) ∨ ((a = 256 ∨ a = 257 ∨ a = 258 ∨ a = 259) ∧ b = 6 * j + k) ∨ (a = 260 ∧ 6 * (6 * j + k) ≤ b ∧ b < 6 * (6 * j + k) + 6)) → t a b = s a b) (t5 : t 255 j = nI (k + 1)) (t6 : t 256 (6 * j + k) = W (128 + 14 * j + 2 * k) 0) (t7 : W (128 + 14 * j + 2 * k) 0 = 1 → t 257 (6 * j + k) = W (128 + 14 * j + 2 * k) 3 ∧ ∀ i, i < 6 → t 260 (6 * (6 * j + k) + i) = W (129 + 14 * j + 2 * k) i) (t8 : W (128 + 14 * j + 2 * k) 0 ≠ 1 → t 257 (6 * j + k) = W (128 + 14 * j + 2 * k) 1 ∧ t 259 (6 * j + k) = W (128 + 14 * j + 2 * k) 3) (t9 : W (128 + 14 * j + 2 * k) 0 = 0 ∨ W (128 + 14 * j + 2 * k) 0 = 2 → t 258 (6 * j + k) = W (128 + 14 * j + 2 * k) 2) : q_vm t W ∧ q_vw A Q W := by
  have ec : q_c (V (126 + 14 * j) 1) = k := by rw [hV]; exact nI_clamp (by omega)
  have ecW : q_c (W (126 + 14 * j) 1) = k + 1 := by rw [hW]; exact nI_clamp (by omega)
  have same : ∀ j', j' < 4 → j' ≠ j → ∀ a, 126 + 14 * j' ≤ a → a ≤ 139 + 14 * j' → ∀ b, W a b = V a b := fun j' hj' hne a h1 h2 b => ho a b (by omega)
  have old : ∀ k', k' < k → ∀ b, W (128 + 14 * j + 2 * k') b = V (128 + 14 * j + 2 * k') b ∧ W (129 + 14 * j + 2 * k') b = V (129 + 14 * j + 2 * k') b := fun k' hk' b => ⟨ho _ _ (by omega), ho _ _ (by omega)⟩
  refine ⟨fun j' hj' => ?_, fun j' hj' => ?_⟩
  · by_cases e : j' = j
    · subst e
      obtain ⟨e1, e2⟩ := m j' hj'
      rw [ec] at e2
      rw [ecW, hW]
      refine ⟨t5, fun k' hk' => ?_⟩
      by_cases e : k' = k
      · subst e; exact ⟨t6, t7, t8, t9⟩
      · have hk9 : k' < k := by omega
        obtain ⟨f1, f2, f3, f4⟩ := e2 k' hk9
        have o := fun b => (old k' hk9 b).1
        have o2 := fun b => (old k' hk9 b).2
        rw [o 0, o 1, o 2, o 3]
        refine ⟨(to _ _ (by omega) (by omega) (by omega)).trans f1, fun q => ⟨(to _ _ (by omega) (by omega) (by omega)).trans (f2 q).1, fun i hi => ?_⟩, fun q => ⟨(to _ _ (by omega) (by omega) (by omega)).trans (f3 q).1, (to _ _ (by omega) (by omega) (by omega)).trans (f3 q).2⟩, fun q => (to _ _ (by omega) (by omega) (by omega)).trans (f4 q)⟩
        rw [o2 i, to _ _ (by omega) (by omega) (by omega)]; exact (f2 q).2 i hi
    · obtain ⟨e1, e2⟩ := m j' hj'
      have o := same j' hj' e
      rw [o _ (by omega) (by omega)]
      refine ⟨(to _ _ (by omega) (by omega) (by omega)).trans e1, fun k' hk' => ?_⟩
      have h6 := (w j' hj').2.1
      obtain ⟨f1, f2, f3, f4⟩ := e2 k' hk'
      have o1 := fun b => o (128 + 14 * j' + 2 * k') (by omega) (by omega) b
      have o2 := fun b => o (129 + 14 * j' + 2 * k') (by omega) (by omega) b
      rw [o1 0, o1 1, o1 2, o1 3]
      refine ⟨(to _ _ (by omega) (by omega) (by omega)).trans f1, fun q => ⟨(to _ _ (by omega) (by omega) (by omega)).trans (f2 q).1, fun i hi => ?_⟩, fun q => ⟨(to _ _ (by omega) (by omega) (by omega)).trans (f3 q).1, (to _ _ (by omega) (by omega) (by omega)).trans (f3 q).2⟩, fun q => (to _ _ (by omega) (by omega) (by omega)).trans (f4 q)⟩
      rw [o2 i, to _ _ (by omega) (by omega) (by omega)]; exact (f2 q).2 i hi
  · by_cases e : j' = j
    · subst e
      obtain ⟨w1, w2, w3⟩ := w j' hj'
      rw [ec] at w3
      rw [ecW]
      refine ⟨hW, by omega, fun k' hk' => ?_⟩
      by_cases e : k' = k
      · subst e; exact good
      · have hk9 : k' < k := by omega
        exact q_v1_e (fun b _ => (old k' hk9 b).1) (fun i _ => by
          rw [show 128 + 14 * j' + 2 * k' + 1 = 129 + 14 * j' + 2 * k' from by omega]; exact (old k' hk9 i).2) (w3 k' hk9)
    · obtain ⟨w1, w2, w3⟩ := w j' hj'
      have o := same j' hj' e
      rw [o _ (by omega) (by omega)]
      refine ⟨w1, w2, fun k' hk' => ?_⟩
      exact q_v1_e (fun b _ => o _ (by omega) (by omega) b) (fun i _ => o _ (by omega) (by omega) i) (w3 k' hk')
theorem pu_step {c : Nat} {s t : am_M} {Z : Nat → am_M} {W : am_M} (hP : ∀ i, pu_P i s) (hZ : ∀ j, pu_X c j s Z) (ho : q_out s t (fun a b => q_LU (Z 11) a b ∨ (126 ≤ a ∧ a ≤ 181) ∨ (255 ≤ a ∧ a ≤ 260))) (hc : ∀ a, 126 ≤ a → a ≤ 181 → t a = W a) (vm : q_vm t W) (vw : q_vw (Z 6) (Z 11) W) : pu_R c t := by
  have hS : ∃ S : am_M, q_out s S (q_LU (Z 11)) ∧ q_out S t (fun a _ => (126 ≤ a ∧ a ≤ 181) ∨ (255 ≤ a ∧ a ≤ 260)) := by
    refine ⟨fun a b => @ite Int32 (q_LU (Z 11) a b) (Classical.propDecidable _) (t a b) (s a b), fun a b q => if_neg q, fun a b q => ?_⟩
    by_cases h : q_LU (Z 11) a b
    · exact (if_pos h).symm
    · exact (ho a b (fun q2 => q2.elim h q)).trans (if_neg h).symm
  obtain ⟨S, o1, o2⟩ := hS
  obtain ⟨hPS, hZS⟩ := pu_lookZ hP hZ o1
  refine pu_keepX (J := [12]) (Y := pu_up Z 12 W) hPS hZS (pu_fr_o o2 (fun a b q => by rw [pu_own_12 q]; decide)) (fun i hi => pu_up_o (fun q => hi (by rw [q]; decide))) (fun i hi => ?_) (fun i hi => ?_)
  · have e : i = 12 := by simpa using hi
    subst e; exact trivial
  · have e : i ∈ [6] := hi
    have e : i = 6 := by simpa using e
    subst e
    show q_x6 _ (pu_up Z 12 _ 6) (pu_up Z 12 _ 11) (pu_up Z 12 _ 12)
    rw [pu_up_s, pu_up_o (by decide), pu_up_o (by decide)]
    exact ⟨hc, vm, vw⟩
theorem qv_act {s : am_M} (h : pr_nact s) (x : Int32) : ∃ n, n ≤ 4 ∧ f_CB_wantAct s x = (if q_in n x = 0 then 1 else 0) ∧ p_CB_wantAct s x ∧ ∀ u : am_M, u 207 60 = s 207 60 → p_MO_isAct u x ∧ f_MO_isAct u x = q_in n x := by
  obtain ⟨n, h1, h2, h3⟩ := h
  refine ⟨n, h1, ?_, ⟨fun _ => trivial, fun _ => ⟨fun _ => trivial, fun _ => ⟨fun _ => trivial, fun _ => trivial⟩⟩⟩, fun u hu => ⟨⟨qb_in, trivial⟩, ?_⟩⟩
  · unfold f_CB_wantAct q_in
    rw [h2]
    by_cases c1 : x < 0
    · rw [if_pos c1, if_pos c1, if_pos rfl]
    · rw [if_neg c1, if_neg c1]
      by_cases c2 : nI n ≤ x
      · rw [if_pos c2, if_pos c2, if_pos rfl]
      · rw [if_neg c2, if_neg c2, if_neg i10]
        have c3 : x < 4 := by
          have e4 : (4 : Int32).toInt = 4 := by decide
          rw [Int32.le_iff_toInt_le, nI_toInt (by omega)] at c2
          rw [Int32.lt_iff_toInt_lt]; omega
        rw [if_pos c3]
  · unfold f_MO_isAct
    rw [hu, h3, qb_in1 (by omega)]; rfl
theorem qv_place {s : am_M} {j k : Nat} (hj : j < 4) (hk : k ≤ 6) (h : s (126 + 14 * j) 1 = nI k) : p_CB_wantStepPlace s (nI j) ∧ f_CB_wantStepPlace s (nI j) = (if k < 6 then 0 else 3) := by
  obtain ⟨l1, l2, -⟩ := qv_lk j hj
  unfold p_CB_wantStepPlace f_CB_wantStepPlace
  rw [nI_clamp (n := j) (by omega), l1, h]
  refine ⟨⟨vp_in_nI hj (by omega), l2, fun _ => trivial, fun _ => trivial⟩, ?_⟩
  by_cases c : k < 6
  · rw [if_pos c, if_pos (qt_6 c)]
  · rw [if_neg c, if_neg (qu_6 (by omega) (by omega))]
end
