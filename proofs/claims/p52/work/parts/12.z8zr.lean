noncomputable section
-- run: the steps of an act, one after the other
/-- a step on both sides: what the class's turn and the model's turn do -/
theorem qm_step0 {sm sm' : am_M} {its : Nat} {g : Int32} (hits : its < 24) (k0 : sm 256 its = 0) (p : p_MO_doesPut sm (nI its)) (h : f_MO_doesPut sm (nI its) = (g, sm')) (hg : g = 0 ∨ g = 1) : p_MO_doesStep sm (nI its) ∧ f_MO_doesStep sm (nI its) = (g, sm') := by
  have ct : (nI its).toNatClampNeg = its := nI_clamp (by omega)
  have vt : vp_in (nI its) 24 := vp_in_nI hits (by omega)
  unfold p_MO_doesStep f_MO_doesStep
  rw [ct, k0, h, if_pos rfl]
  exact ⟨⟨vt, fun _ => ⟨p, hg, trivial⟩, fun z => absurd rfl z⟩, rfl⟩
theorem qm_step1 {sm sm' : am_M} {its : Nat} {g : Int32} (hits : its < 24) (k1 : sm 256 its = 1) (p : p_MO_doesAdd sm (nI its)) (h : f_MO_doesAdd sm (nI its) = (g, sm')) (hg : g = 0 ∨ g = 1) : p_MO_doesStep sm (nI its) ∧ f_MO_doesStep sm (nI its) = (g, sm') := by
  have ct : (nI its).toNatClampNeg = its := nI_clamp (by omega)
  have vt : vp_in (nI its) 24 := vp_in_nI hits (by omega)
  unfold p_MO_doesStep f_MO_doesStep
  rw [ct, k1, h, if_neg i10, if_pos rfl]
  exact ⟨⟨vt, fun z => absurd z i10, fun _ => ⟨vt, fun _ => ⟨p, hg, trivial⟩, fun z => absurd rfl z⟩⟩, rfl⟩
theorem qm_step2 {sm sm' : am_M} {its : Nat} {g : Int32} (hits : its < 24) (k2 : sm 256 its = 2) (p : p_MO_doesRemove sm (nI its)) (h : f_MO_doesRemove sm (nI its) = (g, sm')) (hg : g = 0 ∨ g = 1) : p_MO_doesStep sm (nI its) ∧ f_MO_doesStep sm (nI its) = (g, sm') := by
  have ct : (nI its).toNatClampNeg = its := nI_clamp (by omega)
  have vt : vp_in (nI its) 24 := vp_in_nI hits (by omega)
  have n20 : ¬ (2 : Int32) = 0 := by decide
  have n21 : ¬ (2 : Int32) = 1 := by decide
  unfold p_MO_doesStep f_MO_doesStep
  rw [ct, k2, if_neg n20, if_neg n21, if_pos rfl, h]
  refine ⟨⟨vt, fun z => absurd z n20, fun _ => ⟨vt, fun z => absurd z n21, fun _ => ⟨vt, fun _ => ⟨p, fun _ => trivial, fun _ => trivial⟩, fun z => absurd rfl z⟩⟩⟩, ?_⟩
  rcases hg with rfl | rfl
  · rw [if_pos rfl]
  · rw [if_neg i10]
theorem qm_step3 {sm : am_M} {its : Nat} (hits : its < 24) (k3 : sm 256 its = 3) : p_MO_doesStep sm (nI its) ∧ f_MO_doesStep sm (nI its) = (1, sm) := by
  have ct : (nI its).toNatClampNeg = its := nI_clamp (by omega)
  have vt : vp_in (nI its) 24 := vp_in_nI hits (by omega)
  have n30 : ¬ (3 : Int32) = 0 := by decide
  have n31 : ¬ (3 : Int32) = 1 := by decide
  have n32 : ¬ (3 : Int32) = 2 := by decide
  unfold p_MO_doesStep f_MO_doesStep
  rw [ct, k3, if_neg n30, if_neg n31, if_neg n32]
  exact ⟨⟨vt, fun z => absurd z n30, fun _ => ⟨vt, fun z => absurd z n31, fun _ => ⟨vt, fun z => absurd z n32, fun _ => trivial⟩⟩⟩, rfl⟩
theorem qm_left0 {sm : am_M} {its : Nat} (hits : its < 24) (k : sm 256 its ≠ 3) : p_MO_leftOut sm (nI its) ∧ f_MO_leftOut sm (nI its) = (0, sm) := by
  have ct : (nI its).toNatClampNeg = its := nI_clamp (by omega)
  have vt : vp_in (nI its) 24 := vp_in_nI hits (by omega)
  unfold p_MO_leftOut f_MO_leftOut
  rw [ct, if_neg k]
  exact ⟨⟨vt, fun z => absurd z k, fun _ => trivial⟩, rfl⟩
/-- the model's turn -/
theorem qm_turn0 {n : Nat} {sm sm' : am_M} {j i m : Nat} (hj : j < 4) (hi : i < m) (hm : m ≤ 6) (h55 : sm 255 j = nI m) (p : p_MO_doesStep sm (nI (6 * j + i))) (h : f_MO_doesStep sm (nI (6 * j + i)) = (0, sm')) : p_MO_doesAll_2 (n + 1) sm (nI j) (nI i) ∧ f_MO_doesAll_2 (n + 1) sm (nI j) (nI i) = (0, sm') := by
  have cj : (nI j).toNatClampNeg = j := nI_clamp (by omega)
  have c1 : ¬ nI m ≤ nI i := nI_ge hi (by omega)
  have ix : (6 : Int32) * nI j + nI i = nI (6 * j + i) := by rw [qw_6, nI_add]
  unfold p_MO_doesAll_2 f_MO_doesAll_2
  rw [cj, h55, if_neg c1, ix, h, if_pos rfl]
  exact ⟨⟨vp_in_nI hj (by omega), fun z => absurd z c1, fun _ => ⟨p, fun _ => trivial, fun z => absurd rfl z⟩⟩, rfl⟩
theorem qm_turn1 {n : Nat} {sm sm' sm2 : am_M} {j i m v : Nat} (hj : j < 4) (hi : i < m) (hm : m ≤ 6) (h55 : sm 255 j = nI m) (p : p_MO_doesStep sm (nI (6 * j + i))) (h : f_MO_doesStep sm (nI (6 * j + i)) = (1, sm')) (p2 : p_MO_leftOut sm' (nI (6 * j + i))) (h2 : f_MO_leftOut sm' (nI (6 * j + i)) = (nI v, sm2)) : (p_MO_doesAll_2 n sm2 (nI j) (nI (i + (1 + v))) → p_MO_doesAll_2 (n + 1) sm (nI j) (nI i)) ∧ f_MO_doesAll_2 (n + 1) sm (nI j) (nI i) = f_MO_doesAll_2 n sm2 (nI j) (nI (i + (1 + v))) := by
  have cj : (nI j).toNatClampNeg = j := nI_clamp (by omega)
  have c1 : ¬ nI m ≤ nI i := nI_ge hi (by omega)
  have ix : (6 : Int32) * nI j + nI i = nI (6 * j + i) := by rw [qw_6, nI_add]
  have iv : nI i + ((1 : Int32) + nI v) = nI (i + (1 + v)) := by rw [show (1 : Int32) + nI v = nI (1 + v) from nI_add 1 v, nI_add]
  obtain ⟨F, hF⟩ : ∃ F, F = f_MO_doesAll_2 n := ⟨_, rfl⟩
  obtain ⟨PF, hPF⟩ : ∃ F, F = p_MO_doesAll_2 n := ⟨_, rfl⟩
  rw [← hF, ← hPF]
  unfold p_MO_doesAll_2 f_MO_doesAll_2
  rw [← hF, ← hPF, cj, h55, if_neg c1, ix, h, if_neg i10]
  dsimp only
  rw [h2]
  dsimp only
  rw [iv]
  exact ⟨fun h9 => ⟨vp_in_nI hj (by omega), fun z => absurd z c1, fun _ => ⟨p, fun _ => trivial, fun _ => ⟨p2, h9⟩⟩⟩, rfl⟩
/-- the class's turn -/
theorem qc_turn {n : Nat} {sc : am_M} {x1 : Int32} {j i m : Nat} (hj : j < 4) (hi : i < m) (hm : m ≤ 6) (h1 : sc (126 + 14 * j) 1 = nI m) : (∀ sc' g, sc (q_xs j i) 0 = 0 → p_CB_putInAll sc (q_xs j i) → f_CB_putInAll sc (q_xs j i) = (g, sc') → (p_CB_run_132 (p_CB_run_18 n) sc' x1 (126 + 14 * j) (nI i) (q_xs j i) g → p_CB_run_18 (n + 1) sc x1 (126 + 14 * j) (nI i)) ∧ f_CB_run_18 (n + 1) sc x1 (126 + 14 * j) (nI i) = f_CB_run_132 (f_CB_run_18 n) sc' x1 (126 + 14 * j) (nI i) (q_xs j i) g) ∧
    (∀ sc' g, sc (q_xs j i) 0 = 1 → p_CB_addFrom sc (q_xs j i) → f_CB_addFrom sc (q_xs j i) = (g, sc') → (p_CB_run_132 (p_CB_run_18 n) sc' x1 (126 + 14 * j) (nI i) (q_xs j i) g → p_CB_run_18 (n + 1) sc x1 (126 + 14 * j) (nI i)) ∧ f_CB_run_18 (n + 1) sc x1 (126 + 14 * j) (nI i) = f_CB_run_132 (f_CB_run_18 n) sc' x1 (126 + 14 * j) (nI i) (q_xs j i) g) ∧
    (∀ sc' g, sc (q_xs j i) 0 = 2 → p_CB_removeAll sc (q_xs j i) → f_CB_removeAll sc (q_xs j i) = (g, sc') → (p_CB_run_132 (p_CB_run_18 n) sc' x1 (126 + 14 * j) (nI i) (q_xs j i) g → p_CB_run_18 (n + 1) sc x1 (126 + 14 * j) (nI i)) ∧ f_CB_run_18 (n + 1) sc x1 (126 + 14 * j) (nI i) = f_CB_run_132 (f_CB_run_18 n) sc' x1 (126 + 14 * j) (nI i) (q_xs j i) g) ∧
    (∀ sc' (N v : Nat), N < 2 ^ 31 → sc (q_xs j i) 0 = 3 → p_AS_find sc (sc (q_xs j i) 1) → f_AS_find sc (sc (q_xs j i) 1) = (nI N, sc') → sc' (q_xs j i) 3 = nI v → (p_CB_run_18 n sc' x1 (126 + 14 * j) (nI (i + (1 + (if N = 0 then v else 0)))) → p_CB_run_18 (n + 1) sc x1 (126 + 14 * j) (nI i)) ∧ f_CB_run_18 (n + 1) sc x1 (126 + 14 * j) (nI i) = f_CB_run_18 n sc' x1 (126 + 14 * j) (nI (i + (1 + (if N = 0 then v else 0))))) := by
  obtain ⟨l1, l2, l3, l4, l5⟩ := qv_lk j hj
  obtain ⟨m1, m2, m3, m4⟩ := l5 i (by omega)
  have ci : (nI i).toNatClampNeg = i := nI_clamp (by omega)
  have c1 : ¬ nI m ≤ nI i := nI_ge hi (by omega)
  have c6 : ¬ (6 : Int32) ≤ nI i := ql_6 (by omega)
  have vi : vp_in (nI i) 6 := vp_in_nI (by omega) (by omega)
  have xs : q_xs j i = 128 + 14 * j + 2 * i := rfl
  have n20 : ¬ (2 : Int32) = 0 := by decide
  have n21 : ¬ (2 : Int32) = 1 := by decide
  have n30 : ¬ (3 : Int32) = 0 := by decide
  have n31 : ¬ (3 : Int32) = 1 := by decide
  have n32 : ¬ (3 : Int32) = 2 := by decide
  obtain ⟨F, hF⟩ : ∃ F, F = f_CB_run_18 n := ⟨_, rfl⟩
  obtain ⟨PF, hPF⟩ : ∃ F, F = p_CB_run_18 n := ⟨_, rfl⟩
  rw [xs, ← hF, ← hPF]
  refine ⟨fun sc' g k0 p h => ?_, fun sc' g k0 p h => ?_, fun sc' g k0 p h => ?_, fun sc' N v hN k0 p h hv => ?_⟩
  · unfold p_CB_run_18 f_CB_run_18
    rw [← hF, ← hPF, h1, if_neg c1, if_neg c6, l3, ci, m1, k0, if_pos rfl, h]
    exact ⟨fun h9 => ⟨l2, fun z => absurd z c1, fun _ => ⟨fun z => absurd z c6, fun _ => ⟨l4, vi, m2, fun _ => ⟨p, h9⟩, fun z => absurd rfl z⟩⟩⟩, rfl⟩
  · unfold p_CB_run_18 f_CB_run_18
    rw [← hF, ← hPF, h1, if_neg c1, if_neg c6, l3, ci, m1, k0, if_neg i10, if_pos rfl, h]
    exact ⟨fun h9 => ⟨l2, fun z => absurd z c1, fun _ => ⟨fun z => absurd z c6, fun _ => ⟨l4, vi, m2, fun z => absurd z i10, fun _ => ⟨fun _ => ⟨p, h9⟩, fun z => absurd rfl z⟩⟩⟩⟩, rfl⟩
  · unfold p_CB_run_18 f_CB_run_18
    rw [← hF, ← hPF, h1, if_neg c1, if_neg c6, l3, ci, m1, k0, if_neg n20, if_neg n21, if_pos rfl, h]
    exact ⟨fun h9 => ⟨l2, fun z => absurd z c1, fun _ => ⟨fun z => absurd z c6, fun _ => ⟨l4, vi, m2, fun z => absurd z n20, fun _ => ⟨fun z => absurd z n21, fun _ => ⟨fun _ => ⟨p, h9⟩, fun z => absurd rfl z⟩⟩⟩⟩⟩, rfl⟩
  · unfold p_CB_run_18 f_CB_run_18
    rw [← hF, ← hPF, h1, if_neg c1, if_neg c6, l3, ci, m1, k0, if_neg n30, if_neg n31, if_neg n32, h]
    unfold p_CB_run_132 f_CB_run_132
    rw [if_neg i10, if_neg i10]
    by_cases q : N = 0
    · have z0 : nI N = 0 := by rw [q, nI_0]
      have iv : nI i + nI v + (1 : Int32) = nI (i + (1 + v)) := by rw [nI_add, nI_1 (i + v), show i + v + 1 = i + (1 + v) from by omega]
      rw [if_pos q]
      refine ⟨fun h9 => ⟨l2, fun z => absurd z c1, fun _ => ⟨fun z => absurd z c6, fun _ => ⟨l4, vi, m2, fun z => absurd z n30, fun _ => ⟨fun z => absurd z n31, fun _ => ⟨fun z => absurd z n32, fun _ => ⟨p, fun _ => ⟨fun z => absurd z i10, fun _ => ?_⟩, fun z => absurd z0 z⟩⟩⟩⟩⟩⟩, ?_⟩
      · show PF sc' x1 (126 + 14 * j) (nI i + sc' (128 + 14 * j + 2 * i) 3 + (1 : Int32))
        rw [hv, iv]; exact h9
      · rw [if_pos z0]
        show F sc' x1 (126 + 14 * j) (nI i + sc' (128 + 14 * j + 2 * i) 3 + (1 : Int32)) = _
        rw [hv, iv]
    · have z0 : ¬ nI N = 0 := fun z => q ((qe_0 (by omega)).mp z)
      have iv : nI i + (1 : Int32) = nI (i + (1 + 0)) := by rw [nI_1 i]
      rw [if_neg q]
      refine ⟨fun h9 => ⟨l2, fun z => absurd z c1, fun _ => ⟨fun z => absurd z c6, fun _ => ⟨l4, vi, m2, fun z => absurd z n30, fun _ => ⟨fun z => absurd z n31, fun _ => ⟨fun z => absurd z n32, fun _ => ⟨p, fun z => absurd z z0, fun _ => ⟨fun z => absurd z i10, fun _ => ?_⟩⟩⟩⟩⟩⟩⟩, ?_⟩
      · show PF sc' x1 (126 + 14 * j) (nI i + (1 : Int32))
        rw [iv]; exact h9
      · rw [if_neg z0]
        show F sc' x1 (126 + 14 * j) (nI i + (1 : Int32)) = _
        rw [iv]
end
