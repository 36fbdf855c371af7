noncomputable section
-- run: what both sides know on the way
def q_FC (a b : Nat) : Prop := (9 ≤ a ∧ a ≤ 11) ∨ (13 ≤ a ∧ a ≤ 16) ∨ a = 18 ∨ a = 19 ∨ (a = 1 ∧ b = 12) ∨ (61 ≤ a ∧ a ≤ 66) ∨ (a = 52 ∧ (b = 4 ∨ b = 5))
def q_FM (Q : am_M) (a b : Nat) : Prop := (a = 207 ∧ (b = 15 ∨ (31 ≤ b ∧ b ≤ 34))) ∨ (220 ≤ a ∧ a ≤ 221) ∨ (228 ≤ a ∧ a ≤ 230) ∨ a = 232 ∨ (a = 233 ∧ 4320 ≤ b) ∨ (a = 234 ∧ 720 ≤ b) ∨ (a = 235 ∧ 24 ≤ b) ∨ q_LD Q a b ∨ a = 261
def q_CC (A U Q V s : am_M) : Prop := q_cd s A ∧ q_oc s A ∧ q_uc s U ∧ q_qc s Q ∧ ∀ a, 126 ≤ a → a ≤ 181 → s a = V a
def q_MM (A U Q V s : am_M) : Prop := q_md s A ∧ q_um s U ∧ q_qm s Q ∧ q_vm s V
def q_WW (A U Q V : am_M) : Prop := q_wd A ∧ q_uw U ∧ q_qw A Q ∧ q_vw A Q V
theorem q_vm_out {s t V : am_M} (h : ∀ a b, 255 ≤ a → a ≤ 260 → t a b = s a b) (m : q_vm s V) : q_vm t V := by
  intro j hj
  obtain ⟨e1, e2⟩ := m j hj
  refine ⟨(h _ _ (by omega) (by omega)).trans e1, fun k hk => ?_⟩
  obtain ⟨f1, f2, f3, f4⟩ := e2 k hk
  exact ⟨(h _ _ (by omega) (by omega)).trans f1, fun q => ⟨(h _ _ (by omega) (by omega)).trans (f2 q).1, fun i hi => (h _ _ (by omega) (by omega)).trans ((f2 q).2 i hi)⟩, fun q => ⟨(h _ _ (by omega) (by omega)).trans (f3 q).1, (h _ _ (by omega) (by omega)).trans (f3 q).2⟩, fun q => (h _ _ (by omega) (by omega)).trans (f4 q)⟩
theorem q_CC_o {A U Q V s t : am_M} (o : q_out s t q_FC) (h : q_CC A U Q V s) : q_CC A U Q V t := by
  obtain ⟨h1, h2, h3, h4, h5⟩ := h
  refine ⟨q_cd_out o (fun a b q => by unfold q_FC at q; omega) h1, q_oc_out o (fun a b q => by unfold q_FC at q; omega) h2, q_uc_out o (fun a b q => by unfold q_FC at q; omega) h3, q_qc_out o (fun a b q => by unfold q_FC at q; omega) h4, fun a q1 q2 => ?_⟩
  rw [← h5 a q1 q2]; funext b
  exact o a b (by unfold q_FC; omega)
theorem q_FM_w {Q : am_M} {a b : Nat} (h : q_FM Q a b) : (a = 207 ∧ (b = 15 ∨ (31 ≤ b ∧ b ≤ 34) ∨ b = 59)) ∨ (220 ≤ a ∧ a ≤ 221) ∨ (228 ≤ a ∧ a ≤ 230) ∨ a = 232 ∨ (a = 233 ∧ 4320 ≤ b) ∨ (a = 234 ∧ 720 ≤ b) ∨ (a = 235 ∧ 24 ≤ b) ∨ (248 ≤ a ∧ a ≤ 254 ∧ a ≠ 252) ∨ a = 261 := by
  unfold q_FM at h
  rcases h with h | h | h | h | h | h | h | h | h
  · omega
  · omega
  · omega
  · omega
  · omega
  · omega
  · omega
  · have := q_LD_w h; omega
  · omega
theorem q_MM_o {A U Q V s t : am_M} (h8 : q_nq Q ≤ 8) (o : q_out s t (q_FM Q)) (h : q_MM A U Q V s) : q_MM A U Q V t := by
  obtain ⟨h1, h2, h3, h4⟩ := h
  refine ⟨q_md_out o (fun a b q => by have := q_FM_w q; omega) h1, q_um_out o (fun a b q => by have := q_FM_w q; omega) h2, q_qm_out h8 o (fun a b q => ?_) h3, q_vm_out (fun a b q1 q2 => o a b (fun q => by have := q_FM_w q; omega)) h4⟩
  have q' := q_FM_w q
  refine ⟨by omega, by omega, fun h1 h2 => ?_, by omega⟩
  unfold q_FM q_LD at q
  rcases q with q | q | q | q | q | q | q | q | q
  · omega
  · omega
  · omega
  · omega
  · omega
  · omega
  · omega
  · rcases q with q | q | q | q | q | q | q
    · omega
    · omega
    · omega
    · omega
    · omega
    · exact q.2.resolve_left (by omega)
    · omega
  · omega
theorem q_sr_t {R S T : am_M} {L M N : Nat} (h1 : q_sr R S L M) (h2 : q_sr S T M N) (hLM : L ≤ M) (hMN : M ≤ N) : q_sr R T L N := by
  refine ⟨fun t ht => Nat.le_trans (h1.1 t ht) (h2.1 t ht), fun p hp => ?_⟩
  rcases h2.2 p hp with q | q | ⟨q1, f, q2, q3, q4⟩
  · rcases h1.2 p hp with k | k | ⟨k1, f, k2, k3, k4⟩
    · exact Or.inl (q.trans k)
    · exact Or.inr (Or.inl (q.trans k))
    · exact Or.inr (Or.inr ⟨k1, f, k2, by omega, q.trans k4⟩)
  · exact Or.inr (Or.inl q)
  · have := h1.1 (p / 30) (by omega)
    exact Or.inr (Or.inr ⟨by omega, f, by omega, q3, q4⟩)
def q_st9 (A U R S : am_M) : Prop := S = R ∨ ∃ X, S = q_reck A X ∧ q_brk A U S = []
def q_sR (A U R S : am_M) (L M : Nat) : Prop := q_sr R S L M ∧ q_st9 A U R S
theorem q_sR_0 {A U R : am_M} {L : Nat} : q_sR A U R R L L := ⟨q_sr_0 rfl rfl, Or.inl rfl⟩
theorem q_sR_t {A U R S T : am_M} {L M N : Nat} (h1 : q_sR A U R S L M) (h2 : q_sR A U S T M N) (hLM : L ≤ M) (hMN : M ≤ N) : q_sR A U R T L N :=
  ⟨q_sr_t h1.1 h2.1 hLM hMN, by
    rcases h2.2 with q | q
    · rw [q]; exact h1.2
    · exact Or.inr q⟩
/-- each item has a reason of 1 to 10 -/
def q_rs (B : List q_It) : Prop := ∀ x : q_It, x ∈ B → 1 ≤ x.1 ∧ x.1 ≤ 10
theorem q_rs_0 : q_rs [] := fun x hx => absurd hx (by simp)
theorem q_rs_1 {a b c d : Nat} (h1 : 1 ≤ a) (h2 : a ≤ 10) : q_rs [(a, b, c, d)] := fun x hx => by
  have e : x = (a, b, c, d) := by simpa using hx
  rw [e]; exact ⟨h1, h2⟩
theorem q_rs_a {B C : List q_It} (h1 : q_rs B) (h2 : q_rs C) : q_rs (B ++ C) := fun x hx => by
  rcases List.mem_append.mp hx with h | h
  · exact h1 x h
  · exact h2 x h
theorem q_rs_bi {A R : am_M} {t r : Nat} : ∀ (d i : Nat), q_rs (q_bi A R t r d i) := by
  intro d
  induction d with
  | zero => intro i; exact q_rs_0
  | succ d ih =>
    intro i
    have e : q_bi A R t r (d + 1) i = q_b1 A R t r i ++ q_bi A R t r d (i + 1) := rfl
    rw [e]
    refine q_rs_a ?_ (ih _)
    unfold q_b1
    by_cases c : q_bk A R t r (i / 4) (i % 4) = true
    · rw [if_pos c]; exact q_rs_1 (by omega) (by omega)
    · rw [if_neg c]; exact q_rs_0
theorem q_rs_br {U R : am_M} {t r : Nat} : ∀ (d j : Nat), q_rs (q_br U R t r d j) := by
  intro d
  induction d with
  | zero => intro i; exact q_rs_0
  | succ d ih =>
    intro j
    have e : q_br U R t r (d + 1) j = q_r1 U R t r j ++ q_br U R t r d (j + 1) := rfl
    rw [e]
    refine q_rs_a ?_ (ih _)
    unfold q_r1
    by_cases c : U 227 j = 0 ∧ U 222 j = nI t ∧ q_ho (U 224 j) (U 226 j) (R 2 (180 * t + 6 * r + q_c (U 223 j))) (R 2 (180 * t + 6 * r + q_c (U 225 j))) = 0
    · rw [if_pos c]; exact q_rs_1 (by omega) (by omega)
    · rw [if_neg c]; exact q_rs_0
theorem q_rs_all {A U R : am_M} : ∀ (d p : Nat), q_rs (q_all A U R d p) := by
  intro d
  induction d with
  | zero => intro i; exact q_rs_0
  | succ d ih =>
    intro p
    have e : q_all A U R (d + 1) p = q_row1 A U R p ++ q_all A U R d (p + 1) := rfl
    rw [e]
    refine q_rs_a ?_ (ih _)
    unfold q_row1
    by_cases c : R 1 p = 0
    · rw [if_pos c]; exact q_rs_0
    · rw [if_neg c]; exact q_rs_a (q_rs_bi _ _) (q_rs_br _ _)
theorem q_rs_brk {A U R : am_M} : q_rs (q_brk A U R) := q_rs_all _ _
theorem q_rs_rL {A U R : am_M} {G : Nat → Int32} : q_rs (q_rL A U R G) := by
  unfold q_rL
  by_cases c : q_fb A R G < 720
  · rw [if_pos c]; exact q_rs_1 (by omega) (by omega)
  · rw [if_neg c]; exact q_rs_brk
theorem q_rs_7 : q_rs q_L7 := q_rs_1 (by omega) (by omega)
def q_SS (A U Q sc sm sc' sm' : am_M) (B : List q_It) (R R' : am_M) (L L' : Nat) : Prop := q_out sc sc' q_FC ∧ q_out sm sm' (q_FM Q) ∧ sc' 1 12 = nI L' ∧ L ≤ L' ∧ (B ≠ [] → q_fd sc' 16 0 B ∧ q_fd sm' 207 31 B ∧ q_rs B) ∧ (B = [] → q_cb sc' 9 10 11 R' ∧ q_mb sm' R' ∧ q_wr A R' ∧ q_sR A U R R' L L')
-- the rows that a step is about
theorem qm_kr7 {q c N : Nat} (hq : q < 8) (hc : c < 54) (hN : N ≤ 30) : ∀ (d i n : Nat) (s : am_M), i + d = N → d < n → s 248 q = nI N → p_MO_keepsRows_7 n s (nI q) (nI c) (nI i) ∧ ∃ t, f_MO_keepsRows_7 n s (nI q) (nI c) (nI i) = (nI N, t) ∧ q_out s t (fun a b => a = 261 ∧ i ≤ b ∧ b < N) ∧ ∀ u, i ≤ u → u < N → t 261 u = s 251 (1620 * q + 54 * u + c) := by
  have v12 : vp_in (nI q) 12 := vp_in_nI (by omega) (by omega)
  have cq : (nI q).toNatClampNeg = q := nI_clamp (by omega)
  intro d
  induction d with
  | zero =>
    intro i n s h1 h2 h3
    obtain ⟨n, rfl⟩ : ∃ k, n = k + 1 := ⟨n - 1, by omega⟩
    have c1 : nI N ≤ nI i := nI_le (by omega) (by omega)
    unfold p_MO_keepsRows_7 f_MO_keepsRows_7
    rw [cq, h3, if_pos c1]
    exact ⟨⟨v12, fun _ => ⟨v12, trivial⟩, fun q => absurd c1 q⟩, s, rfl, fun _ _ _ => rfl, fun u u1 u2 => by omega⟩
  | succ d ih =>
    intro i n s h1 h2 h3
    obtain ⟨n, rfl⟩ : ∃ k, n = k + 1 := ⟨n - 1, by omega⟩
    have c1 : ¬ nI N ≤ nI i := nI_ge (by omega) (by omega)
    have ix : (1620 : Int32) * nI q + (54 : Int32) * nI i + nI c = nI (1620 * q + 54 * i + c) := by rw [qw_1620, qw_54, nI_add, nI_add]
    have cl : (nI (1620 * q + 54 * i + c)).toNatClampNeg = 1620 * q + 54 * i + c := nI_clamp (by omega)
    have ci : (nI i).toNatClampNeg = i := nI_clamp (by omega)
    obtain ⟨p1, t, t1, t2, t3⟩ := ih (i + 1) n (am_set s 261 i (s 251 (1620 * q + 54 * i + c))) (by omega) (by omega) (by rw [am_set_p (by omega)]; exact h3)
    unfold p_MO_keepsRows_7 f_MO_keepsRows_7
    rw [cq, h3, if_neg c1, ix, cl, ci, nI_1 i]
    refine ⟨⟨v12, fun q => absurd q c1, fun _ => ⟨vp_in_nI (by omega) (by omega), vp_in_nI (by omega) (by omega), p1⟩⟩, t, t1, fun a b q => ?_, fun u u1 u2 => ?_⟩
    · rw [t2 a b (by omega), am_set_p (by omega)]
    · by_cases e : u = i
      · rw [e, t2 _ _ (by omega), am_set_q]
      · rw [t3 u (by omega) u2, am_set_p (by omega)]
/-- both sides find the answers of a step's question, and the rows that its column comes from -/
theorem qs_rows {A U Q V R sc sm : am_M} (W : q_WW A U Q V) (C : q_CC A U Q V sc) (M : q_MM A U Q V sm) (cb : q_cb sc 9 10 11 R) (mb : q_mb sm R) (wr : q_wr A R) {q c : Nat} (hq : q < q_nq Q) (hk : Q (67 + 7 * q) 0 = 0) (hc : c < q_c (Q (67 + 7 * q) 7)) : ∃ N tc tm, N ≤ 30 ∧ c < 54 ∧ p_AS_find sc (nI q) ∧ f_AS_find sc (nI q) = (nI N, tc) ∧ q_out sc tc (fun a b => q_FD a b ∨ a = 66) ∧ p_MO_keepsRows sm (nI q) (nI c) ∧ f_MO_keepsRows sm (nI q) (nI c) = (nI N, tm) ∧ q_out sm tm (fun a b => q_LD Q a b ∨ a = 261) ∧
    (Q (68 + 7 * q) c = -1 ∨ ∃ T C, Q (68 + 7 * q) c = nI (10 * T + C) ∧ T < q_nt A ∧ T < 4 ∧ C < 6 ∧ q_c (Q (69 + 7 * q) c) < 9 ∧ ∀ i, i < N → ∃ r, r < 30 ∧ R 1 (30 * T + r) ≠ 0 ∧ tc 62 (9 * i + q_c (Q (69 + 7 * q) c)) = nI r ∧ tm 261 i = nI r) := by
  obtain ⟨w, uw, qw, vw⟩ := W
  obtain ⟨cd, oc, uc, qc, vc⟩ := C
  obtain ⟨md, um, qm, vm⟩ := M
  have h8 := qw.1.2
  have h4 := w.1.2
  obtain ⟨F1, tc, F2, F3, F4⟩ := qa_find cd w wr cb qc qw hq
  obtain ⟨L1, tm0, L2, L3, L4⟩ := qm_lays_q md w wr mb qm qw hq
  have hlen := q_sh_len (R := R) w qw (10 + q) (by omega)
  have esl : q_sl (10 + q) = q := by unfold q_sl; rw [if_neg (by omega)]; omega
  have e10 : 10 + q - 10 = q := by omega
  have hwx : q_wx A R Q (10 + q) = q_c (Q (67 + 7 * q) 7) := by
    have e := q_wx_n (A := A) (R := R) (Q := Q) (src := 10 + q) (Or.inr (by rw [e10, hk]; decide))
    rw [e]; unfold q_sw; rw [if_neg (by omega), e10]
  have hwle := q_wx_le (R := R) w qw (src := 10 + q) (Or.inr ⟨by omega, by omega⟩)
  have hc54 : c < 54 := by omega
  have h248 : tm0 248 q = nI (q_sh R Q (10 + q)).length := by have := L4.1; rw [esl] at this; exact this
  obtain ⟨k1, tm, k2, k3, k4⟩ := qm_kr7 (q := q) (c := c) (by omega) hc54 hlen (q_sh R Q (10 + q)).length 0 am_F tm0 (by omega) (by rw [am_F_eq]; omega) h248
  rw [nI_0] at k1 k2
  refine ⟨(q_sh R Q (10 + q)).length, tc, tm, hlen, hc54, F1, F2, F3, ?_, ?_, fun a b hab => ?_, ?_⟩
  · unfold p_MO_keepsRows; rw [L2]; exact ⟨L1, k1⟩
  · unfold f_MO_keepsRows; rw [L2]; exact k2
  · rw [k3 a b (fun z => hab (Or.inr z.1)), L3 a b (fun z => hab (Or.inl z))]
  · rcases (qw.2.1 q hq).2.1 c hc54 with g | ⟨T, C, g1, g2, g3⟩
    · exact Or.inl g
    · have hC6 : C < 6 := by have := (w.2.1 T (by omega)).2.1; omega
      have hne : Q (68 + 7 * q) c ≠ -1 := by rw [g1]; exact q_m1_ne (by omega)
      have hpl := ((qw.2.1 q hq).2.2 c hc54).2 hne
      have hsn := (q_sw_le w qw (src := 10 + q) (Or.inr ⟨by omega, by omega⟩)).2
      have esn : q_sn Q (10 + q) = q_c (Q (67 + 7 * q) 9) := by unfold q_sn; rw [if_neg (by omega), e10]
      refine Or.inr ⟨T, C, g1, g2, by omega, hC6, by omega, fun i hi => ?_⟩
      rcases q_tgt w wr qw hq hi (by rw [hwx]; exact hc) with z | ⟨-, T', C', r, g1', hT', hC', hr, hh, hp, hrow⟩
      · exact absurd z hne
      · rw [g1] at g1'
        obtain ⟨rfl, rfl⟩ := q_10 (by omega) (by omega) (by omega) (by omega) g1'
        refine ⟨r, hr, hh, ?_, ?_⟩
        · have := (F4.2.2.1 i hi).2 _ hp
          rw [Nat.zero_add] at this
          rw [this]; exact hrow
        · have hm := (L4.2.2.1 i hi c (by rw [hwx]; exact hc)).2 (by unfold q_so; rw [if_neg (by omega), e10]; exact hne)
          have esp : q_sp Q (10 + q) c = q_c (Q (69 + 7 * q) c) := by unfold q_sp; rw [if_neg (by omega), e10]
          rw [esl, Nat.zero_add, esp, hrow] at hm
          rw [k4 i (by omega) hi]; exact hm
end
