noncomputable section
-- questions: groups, the model
theorem qm_g14 {s : am_M} {j g to key val W N : Nat} (hj : j < 8) (hg : g < 12) (hN : N ≤ 30) (hf : s 248 g = nI N) (h40 : s 240 j = nI key) (h42 : s 242 j = nI val) (hk : key < W) (hv : val < W) (hW : W ≤ 54) (x : Int32) : ∀ (l : List q_An) (i n : Nat) (x5 x6 x7 : Int32), i + l.length = N → l.length < n → q_v x7 → (∀ a, a ∈ l → q_v (a.1 val)) → q_ml s g l W i → ∃ y, f_MO_laysGroup_14 n s (nI j) (nI g) (nI to) x x5 x6 x7 (nI i) = f_MO_laysGroup_157 s (nI j) (nI g) (nI to) x (q_cn (q_k1 key x) x5 l) (q_lo (q_k1 key x) val x6 l) (q_hi (q_k1 key x) val x7 l) y ∧ (p_MO_laysGroup_157 s (nI j) (nI g) (nI to) x (q_cn (q_k1 key x) x5 l) (q_lo (q_k1 key x) val x6 l) (q_hi (q_k1 key x) val x7 l) y → p_MO_laysGroup_14 n s (nI j) (nI g) (nI to) x x5 x6 x7 (nI i)) := by
  have vg : vp_in (nI g) 12 := vp_in_nI (by omega) (by omega)
  have vj : vp_in (nI j) 8 := vp_in_nI (by omega) (by omega)
  have cg := nI_clamp (n := g) (by omega)
  have cj := nI_clamp (n := j) (by omega)
  intro l
  induction l with
  | nil =>
    intro i n x5 x6 x7 hi hn h7 hval ml
    obtain ⟨n, rfl⟩ : ∃ k, n = k + 1 := ⟨n - 1, by omega⟩
    have l0 : ([] : List q_An).length = 0 := rfl
    have gg : s 248 g ≤ nI i := by rw [hf]; exact qn_le (by omega) (by omega)
    unfold p_MO_laysGroup_14 f_MO_laysGroup_14
    rw [cg, if_pos gg]
    exact ⟨nI i, rfl, fun q => ⟨vg, fun _ => q, fun q2 => absurd gg q2⟩⟩
  | cons a l ih =>
    intro i n x5 x6 x7 hi hn h7 hval ml
    rw [List.length_cons] at hi hn
    obtain ⟨n, rfl⟩ : ∃ k, n = k + 1 := ⟨n - 1, by omega⟩
    have gg : ¬ s 248 g ≤ nI i := by rw [hf]; exact nI_ge (by omega) (by omega)
    have e1 : nI i + (1 : Int32) = nI (i + 1) := nI_add i 1
    have ef : (1620 : Int32) * nI g + (54 : Int32) * nI i = nI (1620 * g + 54 * i) := by rw [qw_1620, qw_54, nI_add]
    have ex : ∀ c, nI (1620 * g + 54 * i) + nI c = nI (1620 * g + 54 * i + c) := fun c => nI_add _ _
    have cx : ∀ c, c < 54 → (nI (1620 * g + 54 * i + c)).toNatClampNeg = 1620 * g + 54 * i + c := fun c hc => nI_clamp (by omega)
    have vx : ∀ c, c < 54 → vp_in (nI (1620 * g + 54 * i + c)) 19440 := fun c hc => vp_in_nI (by omega) (by omega)
    have hva := hval a List.mem_cons_self
    have hvl : ∀ b, b ∈ l → q_v (b.1 val) := fun b hb => hval b (List.mem_cons_of_mem _ hb)
    obtain ⟨c1, c2⟩ := q_ml_t ml
    have IH := fun y5 y6 y7 h => ih (i + 1) n y5 y6 y7 (by omega) (by omega) h hvl c2
    have z0 : x5 + (0 : Int32) = x5 := Int32.add_zero _
    unfold p_MO_laysGroup_14 f_MO_laysGroup_14 p_MO_laysGroup_62 f_MO_laysGroup_62 p_MO_laysGroup_88 f_MO_laysGroup_88 p_MO_laysGroup_102 f_MO_laysGroup_102 p_MO_laysGroup_126 f_MO_laysGroup_126 p_MO_laysGroup_131 f_MO_laysGroup_131 p_MO_laysGroup_133 f_MO_laysGroup_133 p_MO_laysGroup_149 f_MO_laysGroup_149 q_cn q_lo q_hi
    rw [cg, if_neg gg, ef, cj, h40, h42, ex, ex, cx key (by omega), cx val (by omega), c1 key hk, c1 val hv, e1]
    have hmax : ∀ v : Int32, (if v ≤ x7 then x7 else v) = (if x7 < v then v else x7) := fun v => by
      by_cases q : v ≤ x7
      · rw [if_pos q, if_neg (fun q2 => q_i_le.mpr q2 q)]
      · rw [if_neg q, if_pos (q_i_le.mp q)]
    by_cases h : a.1 key = x
    · rw [if_pos h, if_neg i10, if_neg i10, if_pos h, if_pos h, if_pos h]
      have h7' : q_v (if x7 < a.1 val then a.1 val else x7) := by
        by_cases q : x7 < a.1 val
        · rw [if_pos q]; exact hva
        · rw [if_neg q]; exact h7
      have fin : ∀ z6 : Int32, z6 = (if x6 = -1000000 then a.1 val else if a.1 val = -1000000 then x6 else if x6 ≤ a.1 val then x6 else a.1 val) → ∃ y, (if a.1 val ≤ x7 then f_MO_laysGroup_14 n s (nI j) (nI g) (nI to) x (x5 + 1) z6 x7 (nI (i + 1)) else f_MO_laysGroup_14 n s (nI j) (nI g) (nI to) x (x5 + 1) z6 (a.1 val) (nI (i + 1))) = f_MO_laysGroup_157 s (nI j) (nI g) (nI to) x (q_cn (q_k1 key x) (x5 + 1) l) (q_lo (q_k1 key x) val (if x6 = -1000000 then a.1 val else if a.1 val = -1000000 then x6 else if x6 ≤ a.1 val then x6 else a.1 val) l) (q_hi (q_k1 key x) val (if x7 < a.1 val then a.1 val else x7) l) y ∧ (p_MO_laysGroup_157 s (nI j) (nI g) (nI to) x (q_cn (q_k1 key x) (x5 + 1) l) (q_lo (q_k1 key x) val (if x6 = -1000000 then a.1 val else if a.1 val = -1000000 then x6 else if x6 ≤ a.1 val then x6 else a.1 val) l) (q_hi (q_k1 key x) val (if x7 < a.1 val then a.1 val else x7) l) y → ((a.1 val ≤ x7) → p_MO_laysGroup_14 n s (nI j) (nI g) (nI to) x (x5 + 1) z6 x7 (nI (i + 1))) ∧ (¬ (a.1 val ≤ x7) → p_MO_laysGroup_14 n s (nI j) (nI g) (nI to) x (x5 + 1) z6 (a.1 val) (nI (i + 1)))) := fun z6 hz => by
        rw [← hz]
        obtain ⟨y, y1, y2⟩ := IH (x5 + 1) z6 (if x7 < a.1 val then a.1 val else x7) h7'
        by_cases q : a.1 val ≤ x7
        · rw [if_neg (fun q2 => q_i_le.mpr q2 q)] at y1 y2 ⊢
          rw [if_pos q]
          exact ⟨y, y1, fun q3 => ⟨fun _ => y2 q3, fun q2 => absurd q q2⟩⟩
        · rw [if_pos (q_i_le.mp q)] at y1 y2 ⊢
          rw [if_neg q]
          exact ⟨y, y1, fun q3 => ⟨fun q2 => absurd q2 q, fun _ => y2 q3⟩⟩
      by_cases hb : a.1 val = -1000000
      · have hz : x6 = (if x6 = -1000000 then a.1 val else if a.1 val = -1000000 then x6 else if x6 ≤ a.1 val then x6 else a.1 val) := by
          by_cases q : x6 = -1000000
          · rw [if_pos q, hb]; exact q
          · rw [if_neg q, if_pos hb]
        obtain ⟨y, y1, y2⟩ := fin x6 hz
        refine ⟨y, ?_, fun q => ⟨vg, fun q2 => absurd q2 gg, fun _ => ⟨vj, vx key (by omega), fun _ => ⟨fun q2 => absurd q2 i10, fun _ => ⟨vj, vx val (by omega), fun q2 => absurd q2 i10, fun _ => ⟨fun _ => y2 q, fun q2 => absurd hb q2⟩⟩⟩, fun q2 => absurd h q2⟩⟩⟩
        rw [← y1]
        exact if_pos hb
      · by_cases h6 : x6 = -1000000
        · have hz : a.1 val = (if x6 = -1000000 then a.1 val else if a.1 val = -1000000 then x6 else if x6 ≤ a.1 val then x6 else a.1 val) := by rw [if_pos h6]
          obtain ⟨y, y1, y2⟩ := fin (a.1 val) hz
          refine ⟨y, ?_, fun q => ⟨vg, fun q2 => absurd q2 gg, fun _ => ⟨vj, vx key (by omega), fun _ => ⟨fun q2 => absurd q2 i10, fun _ => ⟨vj, vx val (by omega), fun q2 => absurd q2 i10, fun _ => ⟨fun q2 => absurd q2 hb, fun _ => ⟨fun _ => y2 q, fun q2 => absurd h6 q2⟩⟩⟩⟩, fun q2 => absurd h q2⟩⟩⟩
          rw [← y1]
          exact (if_neg hb).trans (if_pos h6)
        · by_cases hle : x6 ≤ a.1 val
          · have hz : x6 = (if x6 = -1000000 then a.1 val else if a.1 val = -1000000 then x6 else if x6 ≤ a.1 val then x6 else a.1 val) := by rw [if_neg h6, if_neg hb, if_pos hle]
            obtain ⟨y, y1, y2⟩ := fin x6 hz
            refine ⟨y, ?_, fun q => ⟨vg, fun q2 => absurd q2 gg, fun _ => ⟨vj, vx key (by omega), fun _ => ⟨fun q2 => absurd q2 i10, fun _ => ⟨vj, vx val (by omega), fun q2 => absurd q2 i10, fun _ => ⟨fun q2 => absurd q2 hb, fun _ => ⟨fun q2 => absurd q2 h6, fun _ => ⟨fun _ => y2 q, fun q2 => absurd hle q2⟩⟩⟩⟩⟩, fun q2 => absurd h q2⟩⟩⟩
            rw [← y1]
            exact (if_neg hb).trans ((if_neg h6).trans (if_pos hle))
          · have hz : a.1 val = (if x6 = -1000000 then a.1 val else if a.1 val = -1000000 then x6 else if x6 ≤ a.1 val then x6 else a.1 val) := by rw [if_neg h6, if_neg hb, if_neg hle]
            obtain ⟨y, y1, y2⟩ := fin (a.1 val) hz
            refine ⟨y, ?_, fun q => ⟨vg, fun q2 => absurd q2 gg, fun _ => ⟨vj, vx key (by omega), fun _ => ⟨fun q2 => absurd q2 i10, fun _ => ⟨vj, vx val (by omega), fun q2 => absurd q2 i10, fun _ => ⟨fun q2 => absurd q2 hb, fun _ => ⟨fun q2 => absurd q2 h6, fun _ => ⟨fun q2 => absurd q2 hle, fun _ => y2 q⟩⟩⟩⟩⟩, fun q2 => absurd h q2⟩⟩⟩
            rw [← y1]
            exact (if_neg hb).trans ((if_neg h6).trans (if_neg hle))
    · have hB : (-1000000 : Int32) ≤ x7 := by
        rw [Int32.le_iff_toInt_le]
        have eB : (-1000000 : Int32).toInt = -1000000 := by decide
        have := h7.1
        omega
      have yB : (-1000000 : Int32) = -1000000 := rfl
      obtain ⟨y, y1, y2⟩ := IH x5 x6 x7 h7
      rw [if_neg h, if_pos rfl, if_pos rfl, if_neg h, if_neg h, if_neg h, z0, if_pos rfl, if_pos hB]
      exact ⟨y, y1, fun q => ⟨vg, fun q2 => absurd q2 gg, fun _ => ⟨vj, vx key (by omega), fun q2 => absurd q2 h, fun _ => ⟨fun _ => ⟨fun _ => ⟨fun _ => ⟨fun _ => y2 q, fun q2 => absurd hB q2⟩, fun q2 => absurd yB q2⟩, fun q2 => absurd rfl q2⟩, fun q2 => absurd rfl q2⟩⟩⟩⟩
theorem qm_group {s : am_M} {j g m key val W : Nat} {l : List q_An} (hj : j < 8) (hg : g < 12) (hgj : g ≠ j) (hm : m < 30) (hl : l.length ≤ 30) (hf : s 248 g = nI l.length) (h36 : s 236 j = 1) (h40 : s 240 j = nI key) (h42 : s 242 j = nI val) (hk : key < W) (hv : val < W) (hW : W ≤ 54) (hval : ∀ a, a ∈ l → q_v (a.1 val)) (ml : q_ml s g l W 0) (x : Int32) : p_MO_laysGroup s (nI j) (nI g) (nI (1620 * j + 54 * m)) x ∧ ∃ t, f_MO_laysGroup s (nI j) (nI g) (nI (1620 * j + 54 * m)) x = t ∧ q_out s t (fun a b => a = 250 ∧ 1620 * j + 54 * m ≤ b ∧ b < 1620 * j + 54 * m + 54) ∧ ∀ c, c < 5 → t 250 (1620 * j + 54 * m + c) = (q_gr key val l x).1 c := by
  obtain ⟨y, h1, h2⟩ := qm_g14 (to := 1620 * j + 54 * m) hj hg hl hf h40 h42 hk hv hW x l 0 am_F 0 (-1000000) (-1000000) (Nat.zero_add _) (by rw [am_F_eq]; omega) q_v_B hval ml
  rw [nI_0] at h1 h2
  have hf0 : f_MO_laysGroup s (nI j) (nI g) (nI (1620 * j + 54 * m)) x = f_MO_laysGroup_14 am_F s (nI j) (nI g) (nI (1620 * j + 54 * m)) x 0 (-1000000) (-1000000) 0 := rfl
  have hp0 : p_MO_laysGroup s (nI j) (nI g) (nI (1620 * j + 54 * m)) x = p_MO_laysGroup_14 am_F s (nI j) (nI g) (nI (1620 * j + 54 * m)) x 0 (-1000000) (-1000000) 0 := rfl
  have a1 : nI (1620 * j + 54 * m) + (1 : Int32) = nI (1620 * j + 54 * m + 1) := nI_add _ 1
  have a2 : nI (1620 * j + 54 * m) + (2 : Int32) = nI (1620 * j + 54 * m + 2) := nI_add _ 2
  have a3 : nI (1620 * j + 54 * m) + (3 : Int32) = nI (1620 * j + 54 * m + 3) := nI_add _ 3
  have a4 : nI (1620 * j + 54 * m) + (4 : Int32) = nI (1620 * j + 54 * m + 4) := nI_add _ 4
  rw [hf0, hp0, h1]
  unfold f_MO_laysGroup_157
  unfold p_MO_laysGroup_157 at h2
  rw [a1, a2, a3, a4, nI_clamp (n := 1620 * j + 54 * m) (by omega), nI_clamp (n := 1620 * j + 54 * m + 1) (by omega)] at h2
  rw [a1, a2, a3, a4, nI_clamp (n := 1620 * j + 54 * m) (by omega), nI_clamp (n := 1620 * j + 54 * m + 1) (by omega), nI_clamp (n := 1620 * j + 54 * m + 2) (by omega), nI_clamp (n := 1620 * j + 54 * m + 3) (by omega), nI_clamp (n := 1620 * j + 54 * m + 4) (by omega)]
  have oX : q_out s (am_set (am_set s 250 (1620 * j + 54 * m) x) 250 (1620 * j + 54 * m + 1) (q_cn (q_k1 key x) 0 l)) (fun a b => a = 250 ∧ 1620 * j + 54 * m ≤ b ∧ b < 1620 * j + 54 * m + 2) := fun a b q => by rw [am_set_p (by omega), am_set_p (by omega)]
  obtain ⟨s1, s2⟩ := qm_sum (s := am_set (am_set s 250 (1620 * j + 54 * m) x) 250 (1620 * j + 54 * m + 1) (q_cn (q_k1 key x) 0 l)) hj hg hl ((oX _ _ (by omega)).trans hf) ((oX _ _ (by omega)).trans h40) ((oX _ _ (by omega)).trans h42) hk hv hW (fun i hi c hc => by
    rw [oX _ _ (by rcases Nat.lt_or_gt_of_ne hgj with h | h <;> omega)]; exact ml i hi c hc) x (-1000000) (P := q_k1 key x) (Or.inl ⟨(oX _ _ (by omega)).trans h36, fun a => Iff.rfl⟩)
  have vt : ∀ c, c < 54 → vp_in (nI (1620 * j + 54 * m + c)) 19440 := fun c hc => vp_in_nI (by omega) (by omega)
  rw [s2]
  refine ⟨h2 ⟨vt 0 (by omega), vt 1 (by omega), s1, vt 2 (by omega), vt 3 (by omega), vt 4 (by omega), trivial⟩, _, rfl, fun a b q => ?_, fun c hc => ?_⟩
  · rw [am_set_p (by omega), am_set_p (by omega), am_set_p (by omega), am_set_p (by omega), am_set_p (by omega)]
  · have hc : c = 0 ∨ c = 1 ∨ c = 2 ∨ c = 3 ∨ c = 4 := by omega
    rcases hc with rfl | rfl | rfl | rfl | rfl
    · rw [am_set_p (by omega), am_set_p (by omega), am_set_p (by omega), am_set_p (by omega), Nat.add_zero, am_set_q]; rfl
    · rw [am_set_p (by omega), am_set_p (by omega), am_set_p (by omega), am_set_q]; rfl
    · rw [am_set_p (by omega), am_set_p (by omega), am_set_q]; rfl
    · rw [am_set_p (by omega), am_set_q]; rfl
    · rw [am_set_q]; rfl
theorem qm_33 {j g key val W : Nat} {l : List q_An} {ks : List Int32} (hj : j < 8) (hg : g < 12) (hgj : g ≠ j) (hl : l.length ≤ 30) (hks : ks.length ≤ 30) (hk : key < W) (hv : val < W) (hW : W ≤ 54) (hval : ∀ a, a ∈ l → q_v (a.1 val)) : ∀ (d m n : Nat) (s : am_M), m + d = ks.length → d < n → s 248 g = nI l.length → s 236 j = 1 → s 240 j = nI key → s 242 j = nI val → q_ml s g l W 0 → s 207 59 = nI ks.length → q_kl s 254 ks → p_MO_laysGroups_33 n s (nI j) (nI g) (nI m) ∧ ∃ t, f_MO_laysGroups_33 n s (nI j) (nI g) (nI m) = t ∧ q_out s t (fun a b => a = 250 ∧ 1620 * j + 54 * m ≤ b ∧ b < 1620 * j + 1620) ∧ ∀ k c, m ≤ k → k < ks.length → c < 5 → t 250 (1620 * j + 54 * k + c) = (q_gr key val l (ks.getD k 0)).1 c := by
  intro d
  induction d with
  | zero =>
    intro m n s hm hn hf h36 h40 h42 ml h59 kl
    obtain ⟨n, rfl⟩ : ∃ k, n = k + 1 := ⟨n - 1, by omega⟩
    have gg : s 207 59 ≤ nI m := by rw [h59]; exact qn_le (by omega) (by omega)
    unfold p_MO_laysGroups_33 f_MO_laysGroups_33
    rw [if_pos gg]
    exact ⟨⟨fun _ => trivial, fun q => absurd gg q⟩, s, rfl, fun _ _ _ => rfl, fun k c h1 h2 => by omega⟩
  | succ d ih =>
    intro m n s hm hn hf h36 h40 h42 ml h59 kl
    obtain ⟨n, rfl⟩ : ∃ k, n = k + 1 := ⟨n - 1, by omega⟩
    have gg : ¬ s 207 59 ≤ nI m := by rw [h59]; exact nI_ge (by omega) (by omega)
    have e1 : nI m + (1 : Int32) = nI (m + 1) := nI_add m 1
    have ef : (1620 : Int32) * nI j + (54 : Int32) * nI m = nI (1620 * j + 54 * m) := by rw [qw_1620, qw_54, nI_add]
    have hkm := kl m (by omega)
    obtain ⟨j1, T, j2, j3, j4⟩ := qm_group hj hg hgj (show m < 30 by omega) hl hf h36 h40 h42 hk hv hW hval ml (ks.getD m 0)
    obtain ⟨i1, t, i2, i3, i4⟩ := ih (m + 1) n T (by omega) (by omega) ((j3 _ _ (by omega)).trans hf) ((j3 _ _ (by omega)).trans h36) ((j3 _ _ (by omega)).trans h40) ((j3 _ _ (by omega)).trans h42) (fun i hi c hc => by
      rw [j3 _ _ (by rcases Nat.lt_or_gt_of_ne hgj with h | h <;> omega)]; exact ml i hi c hc) ((j3 _ _ (by omega)).trans h59) (q_kl_out j3 (fun a b q => by omega) kl)
    unfold p_MO_laysGroups_33 f_MO_laysGroups_33
    rw [if_neg gg, ef, nI_clamp (n := m) (by omega), hkm, j2, e1]
    refine ⟨⟨fun q => absurd q gg, fun _ => ⟨vp_in_nI (by omega) (by omega), j1, i1⟩⟩, t, i2, fun a b q => by rw [i3 a b (by omega), j3 a b (by omega)], fun k c h1 h2 h3 => ?_⟩
    by_cases hkk : k = m
    · rw [hkk, i3 _ _ (by omega)]; exact j4 c h3
    · exact i4 k c (by omega) h2 h3
end
