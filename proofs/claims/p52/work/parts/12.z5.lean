noncomputable section
-- questions: keys are gathered, class and model
theorem qa_pI {s : am_M} {b : Nat} (hb : b < 207 ∧ am_sh b = (1, 0, 30)) {m : Nat} (hm : m ≤ 30) (x : Int32) : ∀ (t : List Int32) (i n : Nat), i + t.length = m → t.length < n → (∀ k, k < t.length → s b (i + k) = t.getD k 0) → p_AS_placeIn_3 n s b (nI m) x (nI i) ∧ f_AS_placeIn_3 n s b (nI m) x (nI i) = nI (i + q_pI x t) := by
  have e30 : (Int32.ofNat 30) = (30 : Int32) := rfl
  intro t
  induction t with
  | nil =>
    intro i n hi hn h
    obtain ⟨n, rfl⟩ : ∃ k, n = k + 1 := ⟨n - 1, by omega⟩
    have l0 : ([] : List Int32).length = 0 := rfl
    have g : nI m ≤ nI i := qn_le (by omega) (by omega)
    unfold p_AS_placeIn_3 f_AS_placeIn_3
    rw [if_pos g]
    exact ⟨⟨fun _ => trivial, fun q => absurd g q⟩, rfl⟩
  | cons y t ih =>
    intro i n hi hn h
    rw [List.length_cons] at hi hn
    obtain ⟨n, rfl⟩ : ∃ k, n = k + 1 := ⟨n - 1, by omega⟩
    have g : ¬ nI m ≤ nI i := nI_ge (by omega) (by omega)
    have g30 : ¬ (30 : Int32) ≤ nI i := ql_30 (by omega)
    have e1 : nI i + (1 : Int32) = nI (i + 1) := nI_add i 1
    have h0 := h 0 (by rw [List.length_cons]; omega)
    rw [Nat.add_zero] at h0
    obtain ⟨i1, i2⟩ := ih (i + 1) n (by omega) (by omega) (fun k hk => by
      have := h (k + 1) (by rw [List.length_cons]; omega)
      rw [show i + (k + 1) = i + 1 + k from by omega] at this
      exact this)
    unfold p_AS_placeIn_3 f_AS_placeIn_3
    rw [hb.2]
    dsimp only
    rw [e30, if_neg g, if_neg g30, nI_clamp (n := i) (by omega), h0, e1, q_pI_c]
    have ey : (y :: t).getD 0 0 = y := rfl
    rw [ey]
    by_cases c : x ≤ y
    · rw [if_pos c, if_pos c]
      exact ⟨⟨fun q => absurd q g, fun _ => ⟨⟨hb.1, rfl⟩, fun q => absurd q g30, fun _ => ⟨vp_in_nI (by omega) (by omega), fun _ => trivial, fun q => absurd c q⟩⟩⟩, rfl⟩
    · rw [if_neg c, if_neg c]
      exact ⟨⟨fun q => absurd q g, fun _ => ⟨⟨hb.1, rfl⟩, fun q => absurd q g30, fun _ => ⟨vp_in_nI (by omega) (by omega), fun q => absurd q c, fun _ => i1⟩⟩⟩, by rw [i2, show i + 1 + q_pI x t = i + (q_pI x t + 1) from by omega]⟩
theorem qa_place {s : am_M} {b : Nat} (hb : b < 207 ∧ am_sh b = (1, 0, 30)) {ks : List Int32} (hk : ks.length ≤ 30) (kl : q_kl s b ks) (x : Int32) : p_AS_placeIn s b (nI ks.length) x ∧ f_AS_placeIn s b (nI ks.length) x = nI (q_pI x ks) := by
  have h := qa_pI (s := s) hb hk x ks 0 am_F (by omega) (by rw [am_F_eq]; omega) (fun k hk9 => by rw [Nat.zero_add]; exact kl k hk9)
  rw [Nat.zero_add, nI_0] at h
  exact h
theorem qa_g5 {b col W P : Nat} (hb : b < 207 ∧ am_sh b = (1, 0, 30)) (hb2 : 62 < b ∧ b < 65) (hcol : col < W) (hW : W ≤ 54) : ∀ (l : List q_An) (ks : List Int32) (i n : Nat) (s : am_M), i + l.length ≤ 30 → ks.length ≤ i → l.length < n → s 52 4 = nI (i + l.length) → q_kl s b ks → q_cs s l W P i → p_AS_gather_5 n s b (nI col) (nI ks.length) (nI i) ∧ ∃ t, f_AS_gather_5 n s b (nI col) (nI ks.length) (nI i) = (nI (q_ks col ks l).length, t) ∧ q_out s t (fun a _ => a = b) ∧ q_kl t b (q_ks col ks l) := by
  have e30 : (Int32.ofNat 30) = (30 : Int32) := rfl
  intro l
  induction l with
  | nil =>
    intro ks i n s hi hks hn hf kl cs
    obtain ⟨n, rfl⟩ : ∃ k, n = k + 1 := ⟨n - 1, by omega⟩
    have l0 : ([] : List q_An).length = 0 := rfl
    have g : s 52 4 ≤ nI i := by rw [hf]; exact qn_le (by omega) (by omega)
    unfold p_AS_gather_5 f_AS_gather_5
    rw [if_pos g]
    exact ⟨⟨fun _ => trivial, fun q => absurd g q⟩, s, rfl, fun _ _ _ => rfl, kl⟩
  | cons a l ih =>
    intro ks i n s hi hks hn hf kl cs
    rw [List.length_cons] at hi hn hf
    obtain ⟨n, rfl⟩ : ∃ k, n = k + 1 := ⟨n - 1, by omega⟩
    have g : ¬ s 52 4 ≤ nI i := by rw [hf]; exact nI_ge (by omega) (by omega)
    have g30 : ¬ (30 : Int32) ≤ nI ks.length := ql_30 (by omega)
    have e1 : nI i + (1 : Int32) = nI (i + 1) := nI_add i 1
    have e2 : nI ks.length + (1 : Int32) = nI (ks.length + 1) := nI_add _ 1
    obtain ⟨c1, c2, c3⟩ := q_cs_t cs
    have hget := qa_get s (show i < 30 by omega) (show col < 54 by omega)
    rw [c1 col hcol] at hget
    obtain ⟨P1, P2⟩ := qa_place hb (show ks.length ≤ 30 by omega) kl (a.1 col)
    have hle := q_pI_le (x := a.1 col) ks
    have step : ∀ (S : am_M), q_out s S (fun a _ => a = b) → q_kl S b (q_ins (a.1 col) ks) → p_AS_gather_5 n S b (nI col) (nI (q_ins (a.1 col) ks).length) (nI (i + 1)) ∧ ∃ t, f_AS_gather_5 n S b (nI col) (nI (q_ins (a.1 col) ks).length) (nI (i + 1)) = (nI (q_ks col ks (a :: l)).length, t) ∧ q_out s t (fun a _ => a = b) ∧ q_kl t b (q_ks col ks (a :: l)) := fun S oS kS => by
      have := q_ins_len (x := a.1 col) ks
      obtain ⟨i1, t, i2, i3, i4⟩ := ih (q_ins (a.1 col) ks) (i + 1) n S (by omega) (by omega) (by omega) (by rw [oS _ _ (by omega), hf, show i + 1 + l.length = i + (l.length + 1) from by omega]) kS (q_cs_o (fun a' b' q => oS a' b' (by omega)) c3)
      exact ⟨i1, t, i2, q_out_t oS i3, i4⟩
    unfold p_AS_gather_5 f_AS_gather_5 p_AS_gather_89 f_AS_gather_89
    rw [hb.2]
    dsimp only
    rw [e30, if_neg g, if_neg g30, hget.2, P2, e1]
    by_cases h1 : q_pI (a.1 col) ks = ks.length
    · rw [h1, if_pos rfl, e2, nI_clamp (n := ks.length) (by omega)]
      have nh : ¬ q_has (a.1 col) ks := fun q => by have := q.1; omega
      have n1 := (q_ins_new ks nh).1
      obtain ⟨x1, x2⟩ := step (am_set s b ks.length (a.1 col)) (fun a' b' q => am_set_p (Or.inl q)) (q_kl_ins kl nh (fun i hi => am_set_p (Or.inr (by omega))) (by rw [h1, am_set_q]) (fun i hi hi2 => by omega))
      rw [n1] at x1 x2
      exact ⟨⟨fun q => absurd q g, fun _ => ⟨⟨hb.1, rfl⟩, fun q => absurd q g30, fun _ => ⟨hget.1, P1, fun _ => ⟨vp_in_nI (by omega) (by omega), x1⟩, fun q => absurd rfl q⟩⟩⟩, x2⟩
    · have g2 : ¬ nI (q_pI (a.1 col) ks) = nI ks.length := fun q => h1 ((nI_eq (by omega) (by omega)).mp q)
      rw [if_neg g2, nI_clamp (n := q_pI (a.1 col) ks) (by omega)]
      have hat := kl (q_pI (a.1 col) ks) (by omega)
      by_cases h2 : s b (q_pI (a.1 col) ks) = a.1 col
      · rw [if_pos h2]
        have hs : q_has (a.1 col) ks := ⟨by omega, by rw [← hat]; exact h2⟩
        obtain ⟨x1, x2⟩ := step s (fun _ _ _ => rfl) (by rw [q_ins_in ks hs]; exact kl)
        rw [q_ins_in ks hs] at x1 x2
        exact ⟨⟨fun q => absurd q g, fun _ => ⟨⟨hb.1, rfl⟩, fun q => absurd q g30, fun _ => ⟨hget.1, P1, fun q => absurd q g2, fun _ => ⟨vp_in_nI (by omega) (by omega), fun _ => x1, fun q => absurd h2 q⟩⟩⟩⟩, x2⟩
      · rw [if_neg h2]
        have nh : ¬ q_has (a.1 col) ks := fun q => h2 (by rw [hat]; exact q.2)
        have n1 := (q_ins_new ks nh).1
        have e3 : nI (q_pI (a.1 col) ks) + (1 : Int32) = nI (q_pI (a.1 col) ks + 1) := nI_add _ 1
        have e4 : nI ks.length - nI (q_pI (a.1 col) ks) = nI (ks.length - q_pI (a.1 col) ks) := by
          have := q_subI (ks.length - q_pI (a.1 col) ks) (q_pI (a.1 col) ks)
          rw [show ks.length - q_pI (a.1 col) ks + q_pI (a.1 col) ks = ks.length from by omega] at this; exact this
        rw [e3, e4, e2, nI_clamp (n := q_pI (a.1 col) ks + 1) (by omega), nI_clamp (n := ks.length - q_pI (a.1 col) ks) (by omega)]
        obtain ⟨x1, x2⟩ := step (am_set (am_put s b (va_cpy (s b) (s b) (q_pI (a.1 col) ks) (q_pI (a.1 col) ks + 1) (ks.length - q_pI (a.1 col) ks))) b (q_pI (a.1 col) ks) (a.1 col)) (fun a' b' q => by rw [am_set_p (Or.inl q), am_put_o q]) (q_kl_ins kl nh (fun i hi => by
            rw [am_set_p (Or.inr (by omega)), am_put_s]
            unfold va_cpy
            rw [if_neg (by omega)]) (by rw [am_set_q]) (fun i hi hi2 => by
            rw [am_set_p (Or.inr (by omega)), am_put_s]
            unfold va_cpy
            rw [if_pos (by omega), show q_pI (a.1 col) ks + (i + 1 - (q_pI (a.1 col) ks + 1)) = i from by omega]))
        rw [n1] at x1 x2
        exact ⟨⟨fun q => absurd q g, fun _ => ⟨⟨hb.1, rfl⟩, fun q => absurd q g30, fun _ => ⟨hget.1, P1, fun q => absurd q g2, fun _ => ⟨vp_in_nI (by omega) (by omega), fun q => absurd q h2, fun _ => ⟨⟨qz (by omega), qz (by omega), qz (by omega), by omega, by omega⟩, vp_in_nI (by omega) (by omega), x1⟩⟩⟩⟩⟩, x2⟩
theorem qa_gather {s : am_M} {b col W P : Nat} (hb : b < 207 ∧ am_sh b = (1, 0, 30)) (hb2 : 62 < b ∧ b < 65) (hcol : col < W) (hW : W ≤ 54) {l : List q_An} (hl : l.length ≤ 30) (hf : s 52 4 = nI l.length) (cs : q_cs s l W P 0) : p_AS_gather s (nI col) b ∧ ∃ t, f_AS_gather s (nI col) b = (nI (q_ks col [] l).length, t) ∧ q_out s t (fun a _ => a = b) ∧ q_kl t b (q_ks col [] l) := by
  have h := qa_g5 hb hb2 hcol hW l [] 0 am_F s (by omega) (Nat.zero_le _) (by rw [am_F_eq]; omega) (by rw [Nat.zero_add]; exact hf) (fun i hi => absurd hi (Nat.not_lt_zero _)) cs
  exact h
-- the model
theorem q_decI (q : Nat) : nI (q + 1) - (1 : Int32) = nI q := q_subI q 1
theorem q_decI' (q : Nat) : nI (q + 1) + (-1 : Int32) = nI q := by
  have := q_decI q
  rw [Int32.sub_eq_add_neg] at this; exact this
/-- the model's slots hold answers from place m on -/
def q_ml (s : am_M) (g : Nat) (l : List q_An) (W m : Nat) : Prop := ∀ i, i < l.length → ∀ c, c < W → s 250 (1620 * g + 54 * (m + i) + c) = (l.getD i q_A0).1 c
theorem q_ml_t {s : am_M} {g : Nat} {a : q_An} {l : List q_An} {W m : Nat} (h : q_ml s g (a :: l) W m) : (∀ c, c < W → s 250 (1620 * g + 54 * m + c) = a.1 c) ∧ q_ml s g l W (m + 1) := by
  have g1 := h 0 (by rw [List.length_cons]; omega)
  rw [Nat.add_zero] at g1
  refine ⟨g1, fun i hi => ?_⟩
  have := h (i + 1) (by rw [List.length_cons]; omega)
  rw [show m + (i + 1) = m + 1 + i from by omega] at this
  exact this
theorem q_ml_c {s : am_M} {g : Nat} {a : q_An} {l : List q_An} {W m : Nat} (h1 : ∀ c, c < W → s 250 (1620 * g + 54 * m + c) = a.1 c) (h : q_ml s g l W (m + 1)) : q_ml s g (a :: l) W m := by
  intro i hi
  cases i with
  | zero => intro c hc; rw [Nat.add_zero]; exact h1 c hc
  | succ i =>
    have hi' : i < l.length := by rw [List.length_cons] at hi; omega
    rw [show m + (i + 1) = m + 1 + i from by omega]
    exact h i hi'
theorem q_ml_o {s t : am_M} {g : Nat} {l : List q_An} {W m : Nat} (h : ∀ b, 1620 * g + 54 * m ≤ b → b < 1620 * g + 54 * (m + l.length) → t 250 b = s 250 b) (hW : W ≤ 54) (hs : q_ml s g l W m) : q_ml t g l W m := fun i hi c hc => by
  rw [h _ (by omega) (by omega)]; exact hs i hi c hc
end
