noncomputable section
-- questions: the class goes through the answers of a plain question
theorem q_shP_len {R Q : am_M} {j : Nat} : ∀ l : List q_An, (q_shP R Q j l).length ≤ l.length := by
  intro l
  induction l with
  | nil => exact Nat.le_refl _
  | cons a l ih =>
    by_cases h : q_kp R Q j a
    · rw [q_shP_y h, List.length_cons, List.length_cons]; omega
    · rw [q_shP_n h, List.length_cons]; omega
/-- row i of the sheet is copied to row k -/
theorem qa_cpy {s : am_M} {i k : Nat} (hi : i < 30) (hk : k < i) : ∃ S, am_put (am_put s 61 (va_cpy (s 61) (s 61) ((nI i * (54 : Int32))).toNatClampNeg ((nI k * (54 : Int32))).toNatClampNeg ((54 : Int32)).toNatClampNeg)) 62 (va_cpy ((am_put s 61 (va_cpy (s 61) (s 61) ((nI i * (54 : Int32))).toNatClampNeg ((nI k * (54 : Int32))).toNatClampNeg ((54 : Int32)).toNatClampNeg)) 62) ((am_put s 61 (va_cpy (s 61) (s 61) ((nI i * (54 : Int32))).toNatClampNeg ((nI k * (54 : Int32))).toNatClampNeg ((54 : Int32)).toNatClampNeg)) 62) ((nI i * (9 : Int32))).toNatClampNeg ((nI k * (9 : Int32))).toNatClampNeg ((9 : Int32)).toNatClampNeg) = S ∧ q_out s S (fun a b => (a = 61 ∧ 54 * k ≤ b ∧ b < 54 * k + 54) ∨ (a = 62 ∧ 9 * k ≤ b ∧ b < 9 * k + 9)) ∧ (∀ c, c < 54 → S 61 (54 * k + c) = s 61 (54 * i + c)) ∧ (∀ p, p < 9 → S 62 (9 * k + p) = s 62 (9 * i + p)) := by
  have e54 : ((54 : Int32)).toNatClampNeg = 54 := by decide
  have e9 : ((9 : Int32)).toNatClampNeg = 9 := by decide
  rw [qm_54, qm_54, qm_9, qm_9, nI_clamp (n := i * 54) (by omega), nI_clamp (n := k * 54) (by omega), nI_clamp (n := i * 9) (by omega), nI_clamp (n := k * 9) (by omega), e54, e9, am_put_o (by omega)]
  refine ⟨_, rfl, fun a b q => ?_, fun c hc => ?_, fun p hp => ?_⟩
  · by_cases h2 : a = 62
    · subst h2
      rw [am_put_s]
      unfold va_cpy
      rw [if_neg (by omega)]
    · rw [am_put_o h2]
      by_cases h1 : a = 61
      · subst h1
        rw [am_put_s]
        unfold va_cpy
        rw [if_neg (by omega)]
      · rw [am_put_o h1]
  · rw [am_put_o (by omega), am_put_s]
    unfold va_cpy
    rw [if_pos (by omega), show i * 54 + (54 * k + c - k * 54) = 54 * i + c from by omega]
  · rw [am_put_s]
    unfold va_cpy
    rw [if_pos (by omega), show i * 9 + (9 * k + p - k * 9) = 9 * i + p from by omega]
theorem qa_pl {A R Q : am_M} (w : q_wd A) (wr : q_wr A R) {j src : Nat} (hj : j < 8) (qp : q_qp A Q j src) (hsw : q_sw A Q src ≤ 54) (hsn : q_sn Q src ≤ 9) : ∀ (l : List q_An) (k i n : Nat) (s : am_M), i + l.length ≤ 30 → k ≤ i → l.length < n → q_qc s Q → q_cb s 9 10 11 R → s 52 4 = nI (i + l.length) → q_si A R Q src l → q_cs s l (q_sw A Q src) (q_sn Q src) i → p_AS_findPlain_4 n s (67 + 7 * j) (nI k) (nI i) ∧ ∃ t, f_AS_findPlain_4 n s (67 + 7 * j) (nI k) (nI i) = t ∧ q_out s t (fun a b => (a = 61 ∧ 54 * k ≤ b) ∨ (a = 62 ∧ 9 * k ≤ b) ∨ (a = 52 ∧ (b = 4 ∨ b = 5))) ∧ t 52 4 = nI (k + (q_shP R Q j l).length) ∧ t 52 5 = nI (q_c (Q (67 + 7 * j) 7)) ∧ q_cs t (q_shP R Q j l) (q_c (Q (67 + 7 * j) 7)) (q_c (Q (67 + 7 * j) 9)) k := by
  have psh : 67 + 7 * j < 207 ∧ am_sh (67 + 7 * j) = (0, 4, 17) := ⟨by omega, (qa_sh hj).1⟩
  have qp' := qp
  obtain ⟨-, -, -, u, W, nn, a1, a2, a3, a4, a5, a6, a7, a8, cw⟩ := qp'
  have eW : q_c (Q (67 + 7 * j) 7) = W := by rw [a2]; exact q_cI (by omega)
  have cw' : q_cw Q j W := cw
  intro l
  induction l with
  | nil =>
    intro k i n s hi hk hn qc cb hf hs cs
    obtain ⟨n, rfl⟩ : ∃ k, n = k + 1 := ⟨n - 1, by omega⟩
    have g : s 52 4 ≤ nI i := by rw [hf]; exact qn_le (by simp) (by omega)
    unfold p_AS_findPlain_4 f_AS_findPlain_4
    rw [if_pos g, am_set_p (by omega), qc.2 (67 + 7 * j) (by omega) (by omega), eW, a2]
    refine ⟨⟨fun _ => ⟨psh, trivial⟩, fun q => absurd g q⟩, _, rfl, fun a b q => by rw [am_set_p (by omega), am_set_p (by omega)], ?_, am_set_q, fun i hi => absurd hi (Nat.not_lt_zero _)⟩
    rw [am_set_p (by omega), am_set_q]; rfl
  | cons a l ih =>
    intro k i n s hi hk hn qc cb hf hs cs
    rw [List.length_cons] at hi hn hf
    obtain ⟨n, rfl⟩ : ∃ k, n = k + 1 := ⟨n - 1, by omega⟩
    have g : ¬ s 52 4 ≤ nI i := by rw [hf]; exact nI_ge (by omega) (by omega)
    have g30 : ¬ (30 : Int32) ≤ nI i := ql_30 (by omega)
    have e1 : nI i + (1 : Int32) = nI (i + 1) := nI_add i 1
    have e2 : nI k + (1 : Int32) = nI (k + 1) := nI_add k 1
    obtain ⟨c1, c2, c3⟩ := q_cs_t cs
    have step : ∀ S, q_out s S (fun a b => (a = 61 ∧ 54 * k ≤ b ∧ b < 54 * k + 54) ∨ (a = 62 ∧ 9 * k ≤ b ∧ b < 9 * k + 9)) → (∀ c, c < q_sw A Q src → S 61 (54 * k + c) = a.1 c) → (∀ p, p < q_sn Q src → S 62 (9 * k + p) = a.2 p) → p_AS_findPlain_65 (p_AS_findPlain_4 n) S (67 + 7 * j) (nI k) (nI i) ∧ ∃ t, f_AS_findPlain_65 (f_AS_findPlain_4 n) S (67 + 7 * j) (nI k) (nI i) = t ∧ q_out s t (fun a b => (a = 61 ∧ 54 * k ≤ b) ∨ (a = 62 ∧ 9 * k ≤ b) ∨ (a = 52 ∧ (b = 4 ∨ b = 5))) ∧ t 52 4 = nI (k + (q_shP R Q j (a :: l)).length) ∧ t 52 5 = nI (q_c (Q (67 + 7 * j) 7)) ∧ q_cs t (q_shP R Q j (a :: l)) (q_c (Q (67 + 7 * j) 7)) (q_c (Q (67 + 7 * j) 9)) k := fun S oS h61 h62 => by
      have qcS := q_qc_out oS (fun a b q => by omega) qc
      have cbS := q_cb_out oS (fun a b q => by omega) cb
      obtain ⟨j1, v, t, j2, j3, j4⟩ := qa_join qcS w wr cbS hj (show k < 30 by omega) qp (hs a List.mem_cons_self) h61 h62
      have oT : q_out s t (fun a b => (a = 61 ∧ 54 * k ≤ b ∧ b < 54 * k + 54) ∨ (a = 62 ∧ 9 * k ≤ b ∧ b < 9 * k + 9)) := q_out_t oS j3
      have qcT := q_qc_out oT (fun a b q => by omega) qc
      have cbT := q_cb_out oT (fun a b q => by omega) cb
      have csT : q_cs t l (q_sw A Q src) (q_sn Q src) (i + 1) := q_cs_o (fun a b q => oT a b (by omega)) c3
      have hfT : t 52 4 = nI (i + 1 + l.length) := by rw [oT _ _ (by omega), hf, show i + 1 + l.length = i + (l.length + 1) from by omega]
      have hsT : q_si A R Q src l := fun b hb => hs b (List.mem_cons_of_mem _ hb)
      unfold p_AS_findPlain_65 f_AS_findPlain_65 p_AS_findPlain_86 f_AS_findPlain_86
      rw [j2, e1, e2]
      dsimp only
      rcases j4 with ⟨v0, hno⟩ | ⟨v1, hyes, d1, d2⟩
      · rw [if_pos v0, q_shP_n (fun q => hno q.1)]
        obtain ⟨i1, T, i2, i3, i4, i5, i6⟩ := ih k (i + 1) n t (by omega) (by omega) (by omega) qcT cbT hfT hsT csT
        exact ⟨⟨j1, fun _ => i1, fun q => absurd v0 q⟩, T, i2, fun a b q => by rw [i3 a b (by omega), oT a b (by omega)], i4, i5, i6⟩
      · have nv : ¬ v = 0 := by rw [v1]; exact i10
        rw [if_neg nv]
        rw [eW] at d1
        obtain ⟨m1, m2⟩ := qa_counts qcT hj (show k < 30 by omega) (show W ≤ 54 by omega) cw' d1
        rcases m2 with ⟨n1, n2⟩ | ⟨n1, n2⟩
        · have nn0 : ¬ f_AS_counts t (nI k) (67 + 7 * j) = 0 := by rw [n1]; exact i10
          rw [if_neg nn0, q_shP_y ⟨hyes, n2⟩]
          obtain ⟨i1, T, i2, i3, i4, i5, i6⟩ := ih (k + 1) (i + 1) n t (by omega) (by omega) (by omega) qcT cbT hfT hsT csT
          refine ⟨⟨j1, fun q => absurd q nv, fun _ => ⟨m1, fun q => absurd q nn0, fun _ => i1⟩⟩, T, i2, fun a b q => by rw [i3 a b (by omega), oT a b (by omega)], ?_, i5, q_cs_c (fun c hc => ?_) (fun p hp => ?_) i6⟩
          · rw [i4, List.length_cons, show k + 1 + (q_shP R Q j l).length = k + ((q_shP R Q j l).length + 1) from by omega]
          · rw [eW] at hc
            rw [i3 _ _ (by omega)]; exact d1 c hc
          · have : q_c (Q (67 + 7 * j) 9) ≤ 9 := by rw [a3, q_cI (n := nn) (by omega)]; omega
            rw [i3 _ _ (by omega)]; exact d2 p hp
        · rw [if_pos n1, q_shP_n (fun q => n2 q.2)]
          obtain ⟨i1, T, i2, i3, i4, i5, i6⟩ := ih k (i + 1) n t (by omega) (by omega) (by omega) qcT cbT hfT hsT csT
          exact ⟨⟨j1, fun q => absurd q nv, fun _ => ⟨m1, fun _ => i1, fun q => absurd n1 q⟩⟩, T, i2, fun a b q => by rw [i3 a b (by omega), oT a b (by omega)], i4, i5, i6⟩
    unfold p_AS_findPlain_4 f_AS_findPlain_4
    rw [if_neg g, if_neg g30]
    by_cases hki : k = i
    · have l1 : nI i ≤ nI k := qn_le (by omega) (by omega)
      rw [if_pos l1]
      obtain ⟨x1, x2⟩ := step s (fun _ _ _ => rfl) (fun c hc => by rw [hki]; exact c1 c hc) (fun p hp => by rw [hki]; exact c2 p hp)
      exact ⟨⟨fun q => absurd q g, fun _ => ⟨fun q => absurd q g30, fun _ => ⟨fun _ => x1, fun q => absurd l1 q⟩⟩⟩, x2⟩
    · have l1 : ¬ nI i ≤ nI k := nI_ge (by omega) (by omega)
      rw [if_neg l1]
      obtain ⟨S, s0, s1, s2, s3⟩ := qa_cpy (s := s) (show i < 30 by omega) (show k < i by omega)
      rw [s0]
      obtain ⟨x1, x2⟩ := step S s1 (fun c hc => by rw [s2 c (by omega)]; exact c1 c hc) (fun p hp => by rw [s3 p (by omega)]; exact c2 p hp)
      have e54 : ((54 : Int32)).toNatClampNeg = 54 := by decide
      have e9 : ((9 : Int32)).toNatClampNeg = 9 := by decide
      refine ⟨⟨fun q => absurd q g, fun _ => ⟨fun q => absurd q g30, fun _ => ⟨fun q => absurd q l1, fun _ => ⟨?_, ?_, x1⟩⟩⟩⟩, x2⟩
      · rw [qm_54, qm_54, nI_clamp (n := i * 54) (by omega), nI_clamp (n := k * 54) (by omega), e54]
        exact ⟨qz (by omega), qz (by omega), by decide, by omega, by omega⟩
      · rw [qm_9, qm_9, nI_clamp (n := i * 9) (by omega), nI_clamp (n := k * 9) (by omega), e9]
        exact ⟨qz (by omega), qz (by omega), by decide, by omega, by omega⟩
theorem qa_plain {s A R Q : am_M} (qc : q_qc s Q) (w : q_wd A) (wr : q_wr A R) (cb : q_cb s 9 10 11 R) {j src : Nat} (hj : j < 8) (qp : q_qp A Q j src) (hsw : q_sw A Q src ≤ 54) (hsn : q_sn Q src ≤ 9) {l : List q_An} (hl : l.length ≤ 30) (hf : s 52 4 = nI l.length) (hs : q_si A R Q src l) (cs : q_cs s l (q_sw A Q src) (q_sn Q src) 0) : p_AS_findPlain s (67 + 7 * j) ∧ ∃ t, f_AS_findPlain s (67 + 7 * j) = t ∧ q_out s t (fun a b => a = 61 ∨ a = 62 ∨ (a = 52 ∧ (b = 4 ∨ b = 5))) ∧ t 52 4 = nI (q_shP R Q j l).length ∧ t 52 5 = nI (q_c (Q (67 + 7 * j) 7)) ∧ q_cs t (q_shP R Q j l) (q_c (Q (67 + 7 * j) 7)) (q_c (Q (67 + 7 * j) 9)) 0 := by
  obtain ⟨i1, t, i2, i3, i4, i5, i6⟩ := qa_pl w wr hj qp hsw hsn l 0 0 am_F s (by omega) (Nat.le_refl _) (by rw [am_F_eq]; omega) qc cb (by rw [Nat.zero_add]; exact hf) hs cs
  rw [nI_0] at i1 i2
  rw [Nat.zero_add] at i4
  exact ⟨i1, t, i2, q_out_w i3 (fun a b q => by omega), i4, i5, i6⟩
end
