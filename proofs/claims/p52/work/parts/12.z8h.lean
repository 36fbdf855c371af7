noncomputable section
theorem qm_p19 {A R Q : am_M} (w : q_wd A) (wr : q_wr A R) (qw : q_qw A Q) {j src g : Nat} (hj : j < q_nq Q) (k0 : Q (67 + 7 * j) 0 = 0) (hs1 : Q (67 + 7 * j) 1 = nI src) (hsrc : q_src A Q j src) (hslt : src < 10 + j) (qp : q_qp A Q j src) (hg : g < 12) (hgj : g ≠ j) (hsw : q_sw A Q src ≤ 54) : ∀ (l : List q_An) (i k n : Nat) (s : am_M), i + l.length ≤ 30 → k ≤ i → l.length < n → q_md s A → q_mb s R → q_qm s Q → s 248 g = nI (i + l.length) → s 248 j = nI k → q_si A R Q src l → q_mx s g Q src (q_sw A Q src) l i → p_MO_laysPlain_19 n s (nI j) (nI g) (nI i) ∧ ∃ t, f_MO_laysPlain_19 n s (nI j) (nI g) (nI i) = t ∧ q_out s t (fun a b => ((a = 250 ∨ a = 251) ∧ 1620 * j + 54 * k ≤ b ∧ b < 1620 * j + 1620) ∨ (a = 248 ∧ b = j)) ∧ t 248 j = nI (k + (q_shP R Q j l).length) ∧ q_mx t j Q (10 + j) (q_c (Q (67 + 7 * j) 7)) (q_shP R Q j l) k := by
  have h8 := qw.1.2
  have vg : vp_in (nI g) 12 := vp_in_nI (by omega) (by omega)
  have vj12 : vp_in (nI j) 12 := vp_in_nI (by omega) (by omega)
  have cg := nI_clamp (n := g) (by omega)
  have cj := nI_clamp (n := j) (by omega)
  have hW : q_c (Q (67 + 7 * j) 7) ≤ 54 := by
    obtain ⟨-, -, -, u, W, n, a1, a2, a3, a4, a5, -⟩ := qp
    rw [a2, q_cI (n := W) (by omega)]; omega
  intro l
  induction l with
  | nil =>
    intro i k n s hi hk hn md mb qm hf hfj hs mx
    obtain ⟨n, rfl⟩ : ∃ k, n = k + 1 := ⟨n - 1, by omega⟩
    have l0 : ([] : List q_An).length = 0 := rfl
    have gg : s 248 g ≤ nI i := by rw [hf]; exact qn_le (by omega) (by omega)
    unfold p_MO_laysPlain_19 f_MO_laysPlain_19
    rw [cg, if_pos gg]
    exact ⟨⟨vg, fun _ => trivial, fun q => absurd gg q⟩, s, rfl, fun _ _ _ => rfl, hfj, fun i hi => absurd hi (Nat.not_lt_zero _)⟩
  | cons a l ih =>
    intro i k n s hi hk hn md mb qm hf hfj hs mx
    rw [List.length_cons] at hi hn hf
    obtain ⟨n, rfl⟩ : ∃ k, n = k + 1 := ⟨n - 1, by omega⟩
    have gg : ¬ s 248 g ≤ nI i := by rw [hf]; exact nI_ge (by omega) (by omega)
    have e1 : nI i + (1 : Int32) = nI (i + 1) := nI_add i 1
    have ef : (1620 : Int32) * nI g + (54 : Int32) * nI i = nI (1620 * g + 54 * i) := by rw [qw_1620, qw_54, nI_add]
    obtain ⟨c1, c2⟩ := q_mx_t mx
    obtain ⟨A1, v, t, A2, A3, A4⟩ := qm_ans md w wr mb qm qw hj k0 hs1 hsrc hslt qp hg hgj (show i < 30 by omega) (show k < 30 by omega) hfj (hs a List.mem_cons_self) c1
    have hsl : q_si A R Q src l := fun b hb => hs b (List.mem_cons_of_mem _ hb)
    have hdis : ∀ b, 1620 * g + 54 * (i + 1) ≤ b → b < 1620 * g + 54 * (i + 1 + l.length) → ¬ (1620 * j + 54 * k ≤ b ∧ b < 1620 * j + 54 * k + 54) := fun b b1 b2 q => by
      rcases Nat.lt_or_gt_of_ne hgj with h | h <;> omega
    have step : ∀ (m : Nat), (m = k ∨ m = k + 1) → p_MO_laysPlain_19 n (am_set t 248 j (nI m)) (nI j) (nI g) (nI (i + 1)) ∧ ∃ T, f_MO_laysPlain_19 n (am_set t 248 j (nI m)) (nI j) (nI g) (nI (i + 1)) = T ∧ q_out (am_set t 248 j (nI m)) T (fun a b => ((a = 250 ∨ a = 251) ∧ 1620 * j + 54 * m ≤ b ∧ b < 1620 * j + 1620) ∨ (a = 248 ∧ b = j)) ∧ T 248 j = nI (m + (q_shP R Q j l).length) ∧ q_mx T j Q (10 + j) (q_c (Q (67 + 7 * j) 7)) (q_shP R Q j l) m := fun m hm => by
      have oS : q_out s (am_set t 248 j (nI m)) (fun a b => ((a = 250 ∨ a = 251) ∧ 1620 * j + 54 * k ≤ b ∧ b < 1620 * j + 54 * k + 54) ∨ (a = 248 ∧ b = j)) := fun a b q => by rw [am_set_p (by omega), A3 a b (by omega)]
      exact ih (i + 1) m n (am_set t 248 j (nI m)) (by omega) (by omega) (by omega) (q_md_out oS (fun a b q => by omega) md) (q_mb_out oS (fun a b q => by omega) mb) (q_qm_out h8 oS (fun a b q => by omega) qm) (by rw [oS _ _ (by omega), hf, show i + 1 + l.length = i + (l.length + 1) from by omega]) am_set_q hsl (q_mx_o (fun a b h1 h2 h3 => oS a b (by
        have := hdis b h2 h3
        omega)) hsw c2)
    unfold p_MO_laysPlain_19 f_MO_laysPlain_19 p_MO_laysPlain_59 f_MO_laysPlain_59
    rw [cg, if_neg gg, ef, A2, cj, hfj, e1]
    dsimp only
    rcases A4 with ⟨v1, hk1, hcell⟩ | ⟨v0, hk0⟩
    · have nv : ¬ v = 0 := by rw [v1]; exact i10
      have ek : nI k + (1 : Int32) = nI (k + 1) := nI_add k 1
      obtain ⟨B1, T, B2, B3, B4, B5⟩ := step (k + 1) (Or.inr rfl)
      rw [if_neg nv, q_shP_y hk1, ek, List.length_cons]
      refine ⟨⟨vg, fun q => absurd q gg, fun _ => ⟨vj12, A1, fun q => absurd q nv, fun _ => ⟨vj12, B1⟩⟩⟩, T, B2, fun a b q => by rw [B3 a b (by omega), am_set_p (by omega), A3 a b (by omega)], by rw [B4, show k + 1 + (q_shP R Q j l).length = k + ((q_shP R Q j l).length + 1) from by omega], q_mx_c (fun c hc => ?_) B5⟩
      rw [B3 250 _ (by omega), B3 251 _ (by omega), am_set_p (by omega), am_set_p (by omega)]
      exact hcell c hc
    · have ek : nI k + (0 : Int32) = nI k := Int32.add_zero _
      obtain ⟨B1, T, B2, B3, B4, B5⟩ := step k (Or.inl rfl)
      rw [if_pos v0, q_shP_n hk0, ek]
      exact ⟨⟨vg, fun q => absurd q gg, fun _ => ⟨vj12, A1, fun _ => ⟨vj12, B1⟩, fun q => absurd v0 q⟩⟩, T, B2, fun a b q => by rw [B3 a b (by omega), am_set_p (by omega), A3 a b (by omega)], B4, B5⟩
/-- the slot of a source -/
def q_sl (src : Nat) : Nat := if src < 10 then 8 + src else src - 10
theorem q_sl_I (s : am_M) {src : Nat} (h : src < 100) : p_MO_slotOf s (nI src) ∧ f_MO_slotOf s (nI src) = nI (q_sl src) := by
  unfold p_MO_slotOf f_MO_slotOf q_sl
  by_cases h10 : src < 10
  · have l : ¬ (10 : Int32) ≤ nI src := ql_10 h10
    rw [if_neg l, if_pos h10]
    exact ⟨⟨fun _ => trivial, fun _ => trivial⟩, nI_add 8 src⟩
  · have l : (10 : Int32) ≤ nI src := qg_10 (by omega) (by omega)
    rw [if_pos l, if_neg h10]
    have := q_subI (src - 10) 10
    rw [show src - 10 + 10 = src from by omega] at this
    exact ⟨⟨fun _ => trivial, fun _ => trivial⟩, this⟩
theorem qm_plain {s A R Q : am_M} (md : q_md s A) (w : q_wd A) (wr : q_wr A R) (mb : q_mb s R) (qm : q_qm s Q) (qw : q_qw A Q) {j src : Nat} (hj : j < q_nq Q) (k0 : Q (67 + 7 * j) 0 = 0) (hs1 : Q (67 + 7 * j) 1 = nI src) (hsrc : q_src A Q j src) (hslt : src < 10 + j) (qp : q_qp A Q j src) {l : List q_An} (hl : l.length ≤ 30) (hf : s 248 (q_sl src) = nI l.length) (hs : q_si A R Q src l) (mx : q_mx s (q_sl src) Q src (q_sw A Q src) l 0) : p_MO_laysPlain s (nI j) ∧ ∃ t, f_MO_laysPlain s (nI j) = t ∧ q_out s t (fun a b => ((a = 250 ∨ a = 251) ∧ 1620 * j ≤ b ∧ b < 1620 * j + 1620) ∨ (a = 248 ∧ b = j)) ∧ t 248 j = nI (q_shP R Q j l).length ∧ q_mx t j Q (10 + j) (q_c (Q (67 + 7 * j) 7)) (q_shP R Q j l) 0 := by
  have h8 := qw.1.2
  have h4 := w.1.2
  have hsrc4 : src < 4 ∨ (10 ≤ src ∧ src < 10 + q_nq Q) := by
    rcases hsrc with q | ⟨q1, q2, -⟩
    · exact Or.inl (by omega)
    · exact Or.inr ⟨q1, by omega⟩
  obtain ⟨hsw, hsn⟩ := q_sw_le w qw hsrc4
  have hg : q_sl src < 12 ∧ q_sl src ≠ j := by
    unfold q_sl
    by_cases h : src < 10
    · rw [if_pos h]; omega
    · rw [if_neg h]; omega
  have vj : vp_in (nI j) 8 := vp_in_nI (by omega) (by omega)
  have vj12 : vp_in (nI j) 12 := vp_in_nI (by omega) (by omega)
  have cj := nI_clamp (n := j) (by omega)
  have e37 : s 237 j = nI src := ((qm.2 j hj).2.1).trans hs1
  obtain ⟨p1, p2⟩ := q_sl_I s (src := src) (by omega)
  have oS : q_out s (am_set s 248 j 0) (fun a b => a = 248 ∧ b = j) := fun a b q => am_set_p (by omega)
  obtain ⟨i1, t, i2, i3, i4, i5⟩ := qm_p19 w wr qw hj k0 hs1 hsrc hslt qp hg.1 hg.2 hsw l 0 0 am_F (am_set s 248 j 0) (by omega) (Nat.le_refl _) (by rw [am_F_eq]; omega) (q_md_out oS (fun a b q => by omega) md) (q_mb_out oS (fun a b q => by omega) mb) (q_qm_out h8 oS (fun a b q => by omega) qm) (by rw [oS _ _ (by have := hg.2; omega), Nat.zero_add]; exact hf) am_set_q hs (q_mx_o (fun a b h1 h2 h3 => oS a b (by omega)) hsw mx)
  rw [nI_0] at i1 i2
  rw [Nat.zero_add] at i4
  unfold p_MO_laysPlain f_MO_laysPlain
  rw [cj, e37, p2]
  exact ⟨⟨vj, vj12, i1⟩, t, i2, fun a b q => by rw [i3 a b (by omega), oS a b (by omega)], i4, i5⟩
-- keys, the model
theorem qm_k42 {ks : List Int32} {x : Int32} (sk : q_srt ks) (hk : ks.length ≤ 30) (x1 x2 x3 : Int32) (K : am_M → Int32 → Int32 → Int32 → am_M) (KP : am_M → Int32 → Int32 → Int32 → Prop) : ∀ (d q n : Nat) (s : am_M), q = q_pI x ks + d → q ≤ ks.length → d < n → q_kl s 254 ks → f_MO_laysKeys_42 K n s x1 x2 x3 x (nI q) = f_MO_laysKeys_67 K s x1 x2 x3 x (nI (q_pI x ks)) ∧ (p_MO_laysKeys_67 KP s x1 x2 x3 x (nI (q_pI x ks)) → p_MO_laysKeys_42 KP n s x1 x2 x3 x (nI q)) := by
  intro d
  induction d with
  | zero =>
    intro q n s hq hql hn kl
    obtain ⟨n, rfl⟩ : ∃ k, n = k + 1 := ⟨n - 1, by omega⟩
    obtain rfl : q = q_pI x ks := by omega
    unfold f_MO_laysKeys_42 p_MO_laysKeys_42
    by_cases h0 : q_pI x ks = 0
    · have l : nI (q_pI x ks) ≤ 0 := by rw [h0, nI_0]; decide
      rw [if_pos l]
      exact ⟨rfl, fun q => ⟨fun _ => q, fun q2 => absurd l q2⟩⟩
    · obtain ⟨p, hp⟩ : ∃ p, q_pI x ks = p + 1 := ⟨q_pI x ks - 1, by omega⟩
      have l : ¬ nI (q_pI x ks) ≤ 0 := nI_ge (a := 0) (by omega) (by omega)
      have hlt := q_pI_lt (x := x) ks p (by omega)
      have e1 : nI (q_pI x ks) - (1 : Int32) = nI p := by rw [hp]; exact q_decI p
      have hv : s 254 p < x := by rw [kl p (by omega)]; exact q_i_le.mp hlt
      rw [if_neg l, e1, nI_clamp (n := p) (by omega), if_pos hv]
      exact ⟨rfl, fun q => ⟨fun q2 => absurd q2 l, fun _ => ⟨vp_in_nI (by omega) (by omega), fun _ => q, fun q2 => absurd hv q2⟩⟩⟩
  | succ d ih =>
    intro q n s hq hql hn kl
    obtain ⟨n, rfl⟩ : ∃ k, n = k + 1 := ⟨n - 1, by omega⟩
    obtain ⟨p, rfl⟩ : ∃ p, q = p + 1 := ⟨q - 1, by omega⟩
    have l : ¬ nI (p + 1) ≤ 0 := nI_ge (a := 0) (by omega) (by omega)
    have e1 : nI (p + 1) - (1 : Int32) = nI p := q_decI p
    have e2 : nI (p + 1) + (-1 : Int32) = nI p := q_decI' p
    have hge := q_srt_ge (x := x) ks sk p (by omega) (by omega)
    have hv : ¬ s 254 p < x := by
      rw [kl p (by omega), Int32.lt_iff_toInt_lt]
      rw [Int32.le_iff_toInt_le] at hge
      omega
    obtain ⟨i1, i2⟩ := ih p n s (by omega) (by omega) (by omega) kl
    unfold f_MO_laysKeys_42 p_MO_laysKeys_42
    rw [if_neg l, e1, e2, nI_clamp (n := p) (by omega), if_neg hv]
    exact ⟨i1, fun q => ⟨fun q2 => absurd q2 l, fun _ => ⟨vp_in_nI (by omega) (by omega), fun q2 => absurd q2 hv, fun _ => i2 q⟩⟩⟩
theorem qm_k94 {p : Nat} (x1 x2 x3 x4 : Int32) (K : am_M → Int32 → Int32 → Int32 → am_M) (KP : am_M → Int32 → Int32 → Int32 → Prop) : ∀ (e n : Nat) (s : am_M), p + e < 30 → e < n → ∃ S, f_MO_laysKeys_94 K n s x1 x2 x3 x4 (nI p) (nI (p + e)) = f_MO_laysKeys_123 K S x1 x2 x3 x4 (nI p) (nI p) ∧ (p_MO_laysKeys_123 KP S x1 x2 x3 x4 (nI p) (nI p) → p_MO_laysKeys_94 KP n s x1 x2 x3 x4 (nI p) (nI (p + e))) ∧ q_out s S (fun a b => a = 254 ∧ p < b ∧ b ≤ p + e) ∧ ∀ i, p ≤ i → i < p + e → S 254 (i + 1) = s 254 i := by
  intro e
  induction e with
  | zero =>
    intro n s hp hn
    obtain ⟨n, rfl⟩ : ∃ k, n = k + 1 := ⟨n - 1, by omega⟩
    have l : nI (p + 0) ≤ nI p := qn_le (by omega) (by omega)
    unfold f_MO_laysKeys_94 p_MO_laysKeys_94
    rw [if_pos l]
    exact ⟨s, rfl, fun q => ⟨fun _ => q, fun q2 => absurd l q2⟩, fun _ _ _ => rfl, fun i h1 h2 => by omega⟩
  | succ e ih =>
    intro n s hp hn
    obtain ⟨n, rfl⟩ : ∃ k, n = k + 1 := ⟨n - 1, by omega⟩
    have l : ¬ nI (p + (e + 1)) ≤ nI p := nI_ge (by omega) (by omega)
    have e1 : nI (p + (e + 1)) - (1 : Int32) = nI (p + e) := q_decI (p + e)
    have e2 : nI (p + (e + 1)) + (-1 : Int32) = nI (p + e) := q_decI' (p + e)
    obtain ⟨S, i1, i2, i3, i4⟩ := ih n (am_set s 254 (p + (e + 1)) (s 254 (p + e))) (by omega) (by omega)
    unfold f_MO_laysKeys_94 p_MO_laysKeys_94
    rw [if_neg l, e1, e2, nI_clamp (n := p + (e + 1)) (by omega), nI_clamp (n := p + e) (by omega)]
    refine ⟨S, i1, fun q => ⟨fun q2 => absurd q2 l, fun _ => ⟨vp_in_nI (by omega) (by omega), vp_in_nI (by omega) (by omega), i2 q⟩⟩, fun a b q => by rw [i3 a b (by omega), am_set_p (by omega)], fun i h1 h2 => ?_⟩
    by_cases hi : i = p + e
    · rw [hi, i3 _ _ (by omega), show p + e + 1 = p + (e + 1) from by omega, am_set_q]
    · rw [i4 i h1 (by omega), am_set_p (by omega)]
end
