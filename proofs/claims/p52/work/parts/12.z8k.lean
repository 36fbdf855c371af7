noncomputable section
-- questions: groups and cross tables, the model
theorem qm_groups {s Q : am_M} (qm : q_qm s Q) (h8 : q_nq Q ≤ 8) {j src key val W : Nat} {l : List q_An} (hj : j < q_nq Q) (k1 : Q (67 + 7 * j) 0 = 1) (hs1 : Q (67 + 7 * j) 1 = nI src) (hslt : src < 10 + j) (hs4 : src < 10 → src < 4) (q4 : Q (67 + 7 * j) 4 = nI key) (q6 : Q (67 + 7 * j) 6 = nI val) (q5 : ∀ c, c < 54 → Q (68 + 7 * j) c = -1) (hk : key < W) (hv : val < W) (hW : W ≤ 54) (hl : l.length ≤ 30) (hval : ∀ a, a ∈ l → q_v (a.1 val)) (hf : s 248 (q_sl src) = nI l.length) (ml : q_ml s (q_sl src) l W 0) : p_MO_laysGroups s (nI j) ∧ ∃ t, f_MO_laysGroups s (nI j) = t ∧ q_out s t (fun a b => (a = 250 ∧ 1620 * j ≤ b ∧ b < 1620 * j + 1620) ∨ a = 254 ∨ (a = 207 ∧ b = 59) ∨ (a = 248 ∧ b = j)) ∧ t 248 j = nI (q_shG key val l).length ∧ q_mx t j Q (10 + j) 5 (q_shG key val l) 0 := by
  have hg : q_sl src < 12 ∧ q_sl src ≠ j := by
    unfold q_sl
    by_cases h : src < 10
    · rw [if_pos h]; have := hs4 h; omega
    · rw [if_neg h]; omega
  obtain ⟨e1, e2, -, -, e5, -⟩ := qm.2 j hj
  have e36 : s 236 j = 1 := e1.trans k1
  have e37 : s 237 j = nI src := e2.trans hs1
  obtain ⟨e40, e42⟩ := e5 (by rw [k1]; decide)
  rw [q4] at e40
  rw [q6] at e42
  have vj : vp_in (nI j) 8 := vp_in_nI (by omega) (by omega)
  have vj12 : vp_in (nI j) 12 := vp_in_nI (by omega) (by omega)
  have cj := nI_clamp (n := j) (by omega)
  obtain ⟨p1, p2⟩ := q_sl_I s (src := src) (by omega)
  obtain ⟨K1, K, K2, K3, K4, K5⟩ := qm_keys hg.1 hk hW hl hf ml
  have l0 : ([] : List Int32).length = 0 := rfl
  have hkl := @q_ks_len key l []
  have hlen : (q_shG key val l).length = (q_ks key [] l).length := List.length_map ..
  have oX : q_out s (am_set K 248 j (nI (q_ks key [] l).length)) (fun a b => a = 254 ∨ (a = 207 ∧ b = 59) ∨ (a = 248 ∧ b = j)) := fun a b q => by rw [am_set_p (by omega), K3 a b (by omega)]
  obtain ⟨i1, t, i2, i3, i4⟩ := qm_33 (ks := q_ks key [] l) (show j < 8 by omega) hg.1 hg.2 hl (by omega) hk hv hW hval (q_ks key [] l).length 0 am_F (am_set K 248 j (nI (q_ks key [] l).length)) (Nat.zero_add _) (by rw [am_F_eq]; omega) (by rw [oX _ _ (by have := hg.2; omega)]; exact hf) ((oX _ _ (by omega)).trans e36) ((oX _ _ (by omega)).trans e40) ((oX _ _ (by omega)).trans e42) (fun i hi c hc => by rw [oX _ _ (by omega)]; exact ml i hi c hc) (by rw [am_set_p (by omega)]; exact K4) (q_kl_out (P := fun a b => a = 248) (fun a b q => am_set_p (by omega)) (fun a b q => by omega) K5)
  rw [nI_0] at i1 i2
  unfold p_MO_laysGroups f_MO_laysGroups
  rw [cj, e37, p2, e40, K2, K4]
  refine ⟨⟨vj, vj, K1, vj12, i1⟩, t, i2, fun a b q => by rw [i3 a b (by omega), oX a b (by omega)], by rw [i3 _ _ (by omega), am_set_q, hlen], fun i hi c hc => ?_⟩
  rw [hlen] at hi
  have eso : q_so Q (10 + j) c = -1 := by
    unfold q_so; rw [if_neg (by omega), show 10 + j - 10 = j from by omega]; exact q5 c (by omega)
  refine ⟨?_, fun q => absurd eso q⟩
  rw [Nat.zero_add, i4 i c (Nat.zero_le _) hi hc]
  unfold q_shG
  rw [q_map_getD _ i hi]
theorem qm_c35 {j : Nat} {ys : List Int32} (hj : j < 8) (hy : ys.length ≤ 30) (x2 : Int32) : ∀ (d k n : Nat) (s : am_M), k + d = ys.length → d < n → s 207 59 = nI ys.length → q_kl s 254 ys → ∃ S, f_MO_laysCross_35 n s (nI j) x2 (nI k) = f_MO_laysCross_66 S (nI j) x2 (nI ys.length) ∧ (p_MO_laysCross_66 S (nI j) x2 (nI ys.length) → p_MO_laysCross_35 n s (nI j) x2 (nI k)) ∧ q_out s S (fun a b => a = 253 ∧ 30 * j + k ≤ b) ∧ ∀ i, k ≤ i → i < ys.length → S 253 (30 * j + i) = ys.getD i 0 := by
  intro d
  induction d with
  | zero =>
    intro k n s hk hn h59 kl
    obtain ⟨n, rfl⟩ : ∃ k, n = k + 1 := ⟨n - 1, by omega⟩
    obtain rfl : k = ys.length := by omega
    have gg : s 207 59 ≤ nI ys.length := by rw [h59]; exact qn_le (Nat.le_refl _) (by omega)
    unfold p_MO_laysCross_35 f_MO_laysCross_35
    rw [if_pos gg]
    exact ⟨s, rfl, fun q => ⟨fun _ => q, fun q2 => absurd gg q2⟩, fun _ _ _ => rfl, fun i h1 h2 => by omega⟩
  | succ d ih =>
    intro k n s hk hn h59 kl
    obtain ⟨n, rfl⟩ : ∃ k, n = k + 1 := ⟨n - 1, by omega⟩
    have gg : ¬ s 207 59 ≤ nI k := by rw [h59]; exact nI_ge (by omega) (by omega)
    have e1 : nI k + (1 : Int32) = nI (k + 1) := nI_add k 1
    have ef : (30 : Int32) * nI j + nI k = nI (30 * j + k) := by rw [qw_30, nI_add]
    have hkk := kl k (by omega)
    obtain ⟨S, i1, i2, i3, i4⟩ := ih (k + 1) n (am_set s 253 (30 * j + k) (ys.getD k 0)) (by omega) (by omega) ((am_set_p (by omega)).trans h59) (q_kl_out (P := fun a _ => a = 253) (fun a b q => am_set_p (Or.inl q)) (fun a b q => by omega) kl)
    unfold p_MO_laysCross_35 f_MO_laysCross_35
    rw [if_neg gg, ef, nI_clamp (n := k) (by omega), nI_clamp (n := 30 * j + k) (by omega), hkk, e1]
    refine ⟨S, i1, fun q => ⟨fun q2 => absurd q2 gg, fun _ => ⟨vp_in_nI (by omega) (by omega), vp_in_nI (by omega) (by omega), i2 q⟩⟩, fun a b q => by rw [i3 a b (by omega), am_set_p (by omega)], fun i h1 h2 => ?_⟩
    by_cases hi : i = k
    · rw [hi, i3 _ _ (by omega), am_set_q]
    · exact i4 i (by omega) h2
theorem qm_c125 {j g m key sec val W : Nat} {l : List q_An} {ys : List Int32} (hj : j < 8) (hg : g < 12) (hgj : g ≠ j) (hm : m < 30) (hl : l.length ≤ 30) (hy : ys.length ≤ 30) (hk : key < W) (hc0 : sec < W) (hv : val < W) (hW : W ≤ 54) (x : Int32) (K : am_M → Int32 → Int32 → Int32 → am_M) (KP : am_M → Int32 → Int32 → Int32 → Prop) : ∀ (d c n : Nat) (s : am_M), c + d = ys.length + 1 → 1 ≤ c → d < n → s 249 j = nI (ys.length + 1) → s 248 g = nI l.length → s 236 j = 2 → s 240 j = nI key → s 241 j = nI sec → s 242 j = nI val → q_ml s g l W 0 → s 254 m = x → (∀ i, i < ys.length → s 253 (30 * j + i) = ys.getD i 0) → ∃ S, f_MO_laysCross_125 K n s (nI j) (nI g) (nI m) (nI (1620 * j + 54 * m)) (nI c) = K S (nI j) (nI g) (nI (m + 1)) ∧ (KP S (nI j) (nI g) (nI (m + 1)) → p_MO_laysCross_125 KP n s (nI j) (nI g) (nI m) (nI (1620 * j + 54 * m)) (nI c)) ∧ q_out s S (fun a b => a = 250 ∧ 1620 * j + 54 * m + c ≤ b ∧ b < 1620 * j + 54 * m + 54) ∧ ∀ e, c ≤ e → e < ys.length + 1 → S 250 (1620 * j + 54 * m + e) = q_sc (q_k2 key sec x (ys.getD (e - 1) 0)) val l := by
  have vj12 : vp_in (nI j) 12 := vp_in_nI (by omega) (by omega)
  have cj := nI_clamp (n := j) (by omega)
  have cm := nI_clamp (n := m) (by omega)
  have e1m : nI m + (1 : Int32) = nI (m + 1) := nI_add m 1
  intro d
  induction d with
  | zero =>
    intro c n s hc h1 hn h49 hf h36 h40 h41 h42 ml hx hys
    obtain ⟨n, rfl⟩ : ∃ k, n = k + 1 := ⟨n - 1, by omega⟩
    have gg : s 249 j ≤ nI c := by rw [h49]; exact qn_le (by omega) (by omega)
    unfold f_MO_laysCross_125 p_MO_laysCross_125 f_MO_laysCross_178 p_MO_laysCross_178
    rw [cj, if_pos gg, e1m]
    exact ⟨s, rfl, fun q => ⟨vj12, fun _ => q, fun q2 => absurd gg q2⟩, fun _ _ _ => rfl, fun e h2 h3 => by omega⟩
  | succ d ih =>
    intro c n s hc h1 hn h49 hf h36 h40 h41 h42 ml hx hys
    obtain ⟨n, rfl⟩ : ∃ k, n = k + 1 := ⟨n - 1, by omega⟩
    obtain ⟨p, rfl⟩ : ∃ p, c = p + 1 := ⟨c - 1, by omega⟩
    have gg : ¬ s 249 j ≤ nI (p + 1) := by rw [h49]; exact nI_ge (by omega) (by omega)
    have e1 : nI (p + 1) + (1 : Int32) = nI (p + 1 + 1) := nI_add _ 1
    have e30 : (30 : Int32) * nI j + nI (p + 1) - (1 : Int32) = nI (30 * j + p) := by
      rw [qw_30, nI_add]; exact q_decI (30 * j + p)
    have et : nI (1620 * j + 54 * m) + nI (p + 1) = nI (1620 * j + 54 * m + (p + 1)) := nI_add _ _
    have hyp := hys p (by omega)
    obtain ⟨s1, s2⟩ := qm_sum hj hg hl hf h40 h42 hk hv hW ml x (ys.getD p 0) (P := q_k2 key sec x (ys.getD p 0)) (Or.inr ⟨by rw [h36]; decide, sec, h41, hc0, fun a => Iff.rfl⟩)
    have oX : q_out s (am_set s 250 (1620 * j + 54 * m + (p + 1)) (q_sc (q_k2 key sec x (ys.getD p 0)) val l)) (fun a b => a = 250 ∧ b = 1620 * j + 54 * m + (p + 1)) := fun a b q => am_set_p (by omega)
    obtain ⟨S, i1, i2, i3, i4⟩ := ih (p + 1 + 1) n (am_set s 250 (1620 * j + 54 * m + (p + 1)) (q_sc (q_k2 key sec x (ys.getD p 0)) val l)) (by omega) (by omega) (by omega) ((oX _ _ (by omega)).trans h49) ((oX _ _ (by omega)).trans hf) ((oX _ _ (by omega)).trans h36) ((oX _ _ (by omega)).trans h40) ((oX _ _ (by omega)).trans h41) ((oX _ _ (by omega)).trans h42) (fun i hi e he => by
      rw [oX _ _ (by rcases Nat.lt_or_gt_of_ne hgj with h | h <;> omega)]; exact ml i hi e he) ((oX _ _ (by omega)).trans hx) (fun i hi => (oX _ _ (by omega)).trans (hys i hi))
    unfold f_MO_laysCross_125 p_MO_laysCross_125
    rw [cj, if_neg gg, e30, et, cm, hx, nI_clamp (n := 30 * j + p) (by omega), hyp, s2, nI_clamp (n := 1620 * j + 54 * m + (p + 1)) (by omega), e1]
    refine ⟨S, i1, fun q => ⟨vj12, fun q2 => absurd q2 gg, fun _ => ⟨vp_in_nI (by omega) (by omega), vp_in_nI (by omega) (by omega), s1, vp_in_nI (by omega) (by omega), i2 q⟩⟩, fun a b q => by rw [i3 a b (by omega), oX a b (by omega)], fun e h2 h3 => ?_⟩
    by_cases he : e = p + 1
    · rw [he, i3 _ _ (by omega), am_set_q]; rfl
    · exact i4 e (by omega) h3
theorem qm_c89 {j g key sec val W : Nat} {l : List q_An} {xs ys : List Int32} (hj : j < 8) (hg : g < 12) (hgj : g ≠ j) (hl : l.length ≤ 30) (hxl : xs.length ≤ 30) (hy : ys.length ≤ 30) (hk : key < W) (hc0 : sec < W) (hv : val < W) (hW : W ≤ 54) : ∀ (d m n : Nat) (s : am_M), m + d = xs.length → d < n → s 249 j = nI (ys.length + 1) → s 248 g = nI l.length → s 236 j = 2 → s 240 j = nI key → s 241 j = nI sec → s 242 j = nI val → q_ml s g l W 0 → s 207 59 = nI xs.length → q_kl s 254 xs → (∀ i, i < ys.length → s 253 (30 * j + i) = ys.getD i 0) → p_MO_laysCross_89 n s (nI j) (nI g) (nI m) ∧ ∃ t, f_MO_laysCross_89 n s (nI j) (nI g) (nI m) = t ∧ q_out s t (fun a b => a = 250 ∧ 1620 * j + 54 * m ≤ b ∧ b < 1620 * j + 1620) ∧ ∀ k c, m ≤ k → k < xs.length → c < ys.length + 1 → t 250 (1620 * j + 54 * k + c) = (q_cr key sec val l ys (xs.getD k 0)).1 c := by
  intro d
  induction d with
  | zero =>
    intro m n s hm hn h49 hf h36 h40 h41 h42 ml h59 kl hys
    obtain ⟨n, rfl⟩ : ∃ k, n = k + 1 := ⟨n - 1, by omega⟩
    have gg : s 207 59 ≤ nI m := by rw [h59]; exact qn_le (by omega) (by omega)
    unfold p_MO_laysCross_89 f_MO_laysCross_89
    rw [if_pos gg]
    exact ⟨⟨fun _ => trivial, fun q => absurd gg q⟩, s, rfl, fun _ _ _ => rfl, fun k c h1 h2 => by omega⟩
  | succ d ih =>
    intro m n s hm hn h49 hf h36 h40 h41 h42 ml h59 kl hys
    obtain ⟨n, rfl⟩ : ∃ k, n = k + 1 := ⟨n - 1, by omega⟩
    have gg : ¬ s 207 59 ≤ nI m := by rw [h59]; exact nI_ge (by omega) (by omega)
    have ef : (1620 : Int32) * nI j + (54 : Int32) * nI m = nI (1620 * j + 54 * m) := by rw [qw_1620, qw_54, nI_add]
    have hkm := kl m (by omega)
    have oX : q_out s (am_set s 250 (1620 * j + 54 * m) (xs.getD m 0)) (fun a b => a = 250 ∧ b = 1620 * j + 54 * m) := fun a b q => am_set_p (by omega)
    obtain ⟨T, j1, j2, j3, j4⟩ := qm_c125 (x := xs.getD m 0) hj hg hgj (show m < 30 by omega) hl hy hk hc0 hv hW (f_MO_laysCross_89 n) (p_MO_laysCross_89 n) ys.length 1 am_F (am_set s 250 (1620 * j + 54 * m) (xs.getD m 0)) (by omega) (Nat.le_refl _) (by rw [am_F_eq]; omega) ((oX _ _ (by omega)).trans h49) ((oX _ _ (by omega)).trans hf) ((oX _ _ (by omega)).trans h36) ((oX _ _ (by omega)).trans h40) ((oX _ _ (by omega)).trans h41) ((oX _ _ (by omega)).trans h42) (fun i hi e he => by
      rw [oX _ _ (by rcases Nat.lt_or_gt_of_ne hgj with h | h <;> omega)]; exact ml i hi e he) ((oX _ _ (by omega)).trans hkm) (fun i hi => (oX _ _ (by omega)).trans (hys i hi))
    have n1 : nI 1 = (1 : Int32) := rfl
    rw [n1] at j1 j2
    have oT : q_out s T (fun a b => a = 250 ∧ 1620 * j + 54 * m ≤ b ∧ b < 1620 * j + 54 * m + 54) := fun a b q => by rw [j3 a b (by omega), oX a b (by omega)]
    obtain ⟨i1, t, i2, i3, i4⟩ := ih (m + 1) n T (by omega) (by omega) ((oT _ _ (by omega)).trans h49) ((oT _ _ (by omega)).trans hf) ((oT _ _ (by omega)).trans h36) ((oT _ _ (by omega)).trans h40) ((oT _ _ (by omega)).trans h41) ((oT _ _ (by omega)).trans h42) (fun i hi e he => by
      rw [oT _ _ (by rcases Nat.lt_or_gt_of_ne hgj with h | h <;> omega)]; exact ml i hi e he) ((oT _ _ (by omega)).trans h59) (q_kl_out oT (fun a b q => by omega) kl) (fun i hi => (oT _ _ (by omega)).trans (hys i hi))
    unfold p_MO_laysCross_89 f_MO_laysCross_89
    rw [if_neg gg, ef, nI_clamp (n := m) (by omega), hkm, nI_clamp (n := 1620 * j + 54 * m) (by omega), j1, i2]
    refine ⟨⟨fun q => absurd q gg, fun _ => ⟨vp_in_nI (by omega) (by omega), vp_in_nI (by omega) (by omega), j2 i1⟩⟩, t, rfl, fun a b q => by rw [i3 a b (by omega), oT a b (by omega)], fun k c h1 h2 h3 => ?_⟩
    by_cases hkk : k = m
    · rw [hkk, i3 _ _ (by omega)]
      unfold q_cr
      dsimp only
      by_cases hc : c = 0
      · rw [if_pos hc, hc, Nat.add_zero, j3 _ _ (by omega), am_set_q]
      · rw [if_neg hc]; exact j4 c (by omega) h3
    · exact i4 k c (by omega) h2 h3
theorem qm_cross {s Q : am_M} (qm : q_qm s Q) (h8 : q_nq Q ≤ 8) {j src key sec val W : Nat} {l : List q_An} (hj : j < q_nq Q) (k2 : Q (67 + 7 * j) 0 = 2) (hs1 : Q (67 + 7 * j) 1 = nI src) (hslt : src < 10 + j) (hs4 : src < 10 → src < 4) (q4 : Q (67 + 7 * j) 4 = nI key) (q5 : Q (67 + 7 * j) 5 = nI sec) (q6 : Q (67 + 7 * j) 6 = nI val) (qo : ∀ c, c < 54 → Q (68 + 7 * j) c = -1) (hk : key < W) (hc0 : sec < W) (hv : val < W) (hW : W ≤ 54) (hl : l.length ≤ 30) (hf : s 248 (q_sl src) = nI l.length) (ml : q_ml s (q_sl src) l W 0) : p_MO_laysCross s (nI j) ∧ ∃ t, f_MO_laysCross s (nI j) = t ∧ q_out s t (fun a b => (a = 250 ∧ 1620 * j ≤ b ∧ b < 1620 * j + 1620) ∨ a = 254 ∨ (a = 207 ∧ b = 59) ∨ (a = 248 ∧ b = j) ∨ (a = 249 ∧ b = j) ∨ (a = 253 ∧ 30 * j ≤ b)) ∧ t 248 j = nI (q_shC key sec val l).length ∧ t 249 j = nI ((q_ks sec [] l).length + 1) ∧ q_mx t j Q (10 + j) ((q_ks sec [] l).length + 1) (q_shC key sec val l) 0 ∧ ∀ i, i < (q_ks sec [] l).length → t 253 (30 * j + i) = (q_ks sec [] l).getD i 0 := by
  have hg : q_sl src < 12 ∧ q_sl src ≠ j := by
    unfold q_sl
    by_cases h : src < 10
    · rw [if_pos h]; have := hs4 h; omega
    · rw [if_neg h]; omega
  obtain ⟨e1, e2, -, -, e5, e6, -⟩ := qm.2 j hj
  have e36 : s 236 j = 2 := e1.trans k2
  have e37 : s 237 j = nI src := e2.trans hs1
  obtain ⟨e40, e42⟩ := e5 (by rw [k2]; decide)
  have e41 := e6 k2
  rw [q4] at e40
  rw [q5] at e41
  rw [q6] at e42
  have vj : vp_in (nI j) 8 := vp_in_nI (by omega) (by omega)
  have vj12 : vp_in (nI j) 12 := vp_in_nI (by omega) (by omega)
  have cj := nI_clamp (n := j) (by omega)
  obtain ⟨p1, p2⟩ := q_sl_I s (src := src) (by omega)
  obtain ⟨K1, K, K2, K3, K4, K5⟩ := qm_keys hg.1 hc0 hW hl hf ml
  have l0 : ([] : List Int32).length = 0 := rfl
  have hkx := @q_ks_len key l []
  have hky := @q_ks_len sec l []
  have hlen : (q_shC key sec val l).length = (q_ks key [] l).length := List.length_map ..
  have hget : ∀ i, i < (q_ks key [] l).length → (q_shC key sec val l).getD i q_A0 = q_cr key sec val l (q_ks sec [] l) ((q_ks key [] l).getD i 0) := fun i hi => q_map_getD _ i hi
  rw [hlen]
  have e1n : (1 : Int32) + nI (q_ks sec [] l).length = nI ((q_ks sec [] l).length + 1) := by
    have := nI_add 1 (q_ks sec [] l).length
    rw [Nat.add_comm 1] at this; exact this
  have oX : q_out s (am_set K 249 j (nI ((q_ks sec [] l).length + 1))) (fun a b => a = 254 ∨ (a = 207 ∧ b = 59) ∨ (a = 249 ∧ b = j)) := fun a b q => by rw [am_set_p (by omega), K3 a b (by omega)]
  have X49 : am_set K 249 j (nI ((q_ks sec [] l).length + 1)) 249 j = nI ((q_ks sec [] l).length + 1) := am_set_q
  obtain ⟨S, i1, i2, i3, i4⟩ := qm_c35 (ys := q_ks sec [] l) (show j < 8 by omega) (by omega) (nI (q_sl src)) (q_ks sec [] l).length 0 am_F (am_set K 249 j (nI ((q_ks sec [] l).length + 1))) (Nat.zero_add _) (by rw [am_F_eq]; omega) ((am_set_p (by omega)).trans K4) (q_kl_out (P := fun a _ => a = 249) (fun a b q => am_set_p (by omega)) (fun a b q => by omega) K5)
  rw [nI_0] at i1 i2
  have oS : q_out s S (fun a b => a = 254 ∨ (a = 207 ∧ b = 59) ∨ (a = 249 ∧ b = j) ∨ (a = 253 ∧ 30 * j ≤ b)) := fun a b q => by rw [i3 a b (by omega), oX a b (by omega)]
  obtain ⟨L1, L, L2, L3, L4, L5⟩ := qm_keys (s := S) hg.1 hk hW hl ((oS _ _ (by omega)).trans hf) (fun i hi c hc => by rw [oS _ _ (by omega)]; exact ml i hi c hc)
  have oY : q_out s (am_set L 248 j (nI (q_ks key [] l).length)) (fun a b => a = 254 ∨ (a = 207 ∧ b = 59) ∨ (a = 249 ∧ b = j) ∨ (a = 253 ∧ 30 * j ≤ b) ∨ (a = 248 ∧ b = j)) := fun a b q => by rw [am_set_p (by omega), L3 a b (by omega), oS a b (by omega)]
  have Y48 : am_set L 248 j (nI (q_ks key [] l).length) 248 j = nI (q_ks key [] l).length := am_set_q
  have Y49 : am_set L 248 j (nI (q_ks key [] l).length) 249 j = nI ((q_ks sec [] l).length + 1) := by rw [am_set_p (by omega), L3 _ _ (by omega), i3 _ _ (by omega)]; exact X49
  have Y53 : ∀ i, i < (q_ks sec [] l).length → am_set L 248 j (nI (q_ks key [] l).length) 253 (30 * j + i) = (q_ks sec [] l).getD i 0 := fun i hi => by
    rw [am_set_p (by omega), L3 _ _ (by omega)]; exact i4 i (Nat.zero_le _) hi
  obtain ⟨t1, t, t2, t3, t4⟩ := qm_c89 (xs := q_ks key [] l) (ys := q_ks sec [] l) (show j < 8 by omega) hg.1 hg.2 hl (by omega) (by omega) hk hc0 hv hW (q_ks key [] l).length 0 am_F (am_set L 248 j (nI (q_ks key [] l).length)) (Nat.zero_add _) (by rw [am_F_eq]; omega) Y49 (by rw [oY _ _ (by have := hg.2; omega)]; exact hf) ((oY _ _ (by omega)).trans e36) ((oY _ _ (by omega)).trans e40) ((oY _ _ (by omega)).trans e41) ((oY _ _ (by omega)).trans e42) (fun i hi c hc => by rw [oY _ _ (by omega)]; exact ml i hi c hc) ((am_set_p (by omega)).trans L4) (q_kl_out (P := fun a _ => a = 248) (fun a b q => am_set_p (by omega)) (fun a b q => by omega) L5) Y53
  rw [nI_0] at t1 t2
  have S40 : S 240 j = nI key := (oS _ _ (by omega)).trans e40
  unfold p_MO_laysCross f_MO_laysCross
  rw [cj, e37, p2, e41, K2, K4, e1n, i1]
  unfold f_MO_laysCross_66
  unfold p_MO_laysCross_66 at i2
  rw [cj, S40, L2, L4] at i2 ⊢
  refine ⟨⟨vj, vj, K1, vj12, i2 ⟨vj, L1, vj12, t1⟩⟩, t, t2, fun a b q => by rw [t3 a b (by omega), oY a b (by omega)], by rw [t3 _ _ (by omega)]; exact Y48, by rw [t3 _ _ (by omega)]; exact Y49, fun i hi c hc => ?_, fun i hi => by rw [t3 _ _ (by omega)]; exact Y53 i hi⟩
  rw [hlen] at hi
  have eso : q_so Q (10 + j) c = -1 := by
    unfold q_so; rw [if_neg (by omega), show 10 + j - 10 = j from by omega]; exact qo c (by omega)
  refine ⟨?_, fun q => absurd eso q⟩
  rw [Nat.zero_add, t4 i c (Nat.zero_le _) hi hc, hget i hi]
end
