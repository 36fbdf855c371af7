noncomputable section
-- questions: what is gathered of a group of answers
def q_cn (P : q_An → Prop) [DecidablePred P] : Int32 → List q_An → Int32
  | n, [] => n
  | n, a :: l => q_cn P (if P a then n + 1 else n) l
def q_su (P : q_An → Prop) [DecidablePred P] (val : Nat) : Int32 → List q_An → Int32
  | s, [] => s
  | s, a :: l => q_su P val (if P a then s + q_oz (a.1 val) else s) l
def q_lo (P : q_An → Prop) [DecidablePred P] (val : Nat) : Int32 → List q_An → Int32
  | x, [] => x
  | x, a :: l => q_lo P val (if P a then (if x = -1000000 then a.1 val else if a.1 val = -1000000 then x else if x ≤ a.1 val then x else a.1 val) else x) l
def q_hi (P : q_An → Prop) [DecidablePred P] (val : Nat) : Int32 → List q_An → Int32
  | x, [] => x
  | x, a :: l => q_hi P val (if P a then (if x < a.1 val then a.1 val else x) else x) l
abbrev q_any (P : q_An → Prop) (l : List q_An) : Prop := ∃ a, a ∈ l ∧ P a
def q_sc (P : q_An → Prop) [DecidablePred P] (val : Nat) (l : List q_An) : Int32 := @ite Int32 (q_any P l) (Classical.propDecidable _) (q_limI (q_su P val 0 l).toInt) (-1000000)
abbrev q_k1 (key : Nat) (x : Int32) (a : q_An) : Prop := a.1 key = x
abbrev q_k2 (key sec : Nat) (x y : Int32) (a : q_An) : Prop := a.1 key = x ∧ a.1 sec = y
def q_gr (key val : Nat) (l : List q_An) (x : Int32) : q_An := (fun c => if c = 0 then x else if c = 1 then q_cn (q_k1 key x) 0 l else if c = 2 then q_sc (q_k1 key x) val l else if c = 3 then q_lo (q_k1 key x) val (-1000000) l else q_hi (q_k1 key x) val (-1000000) l, fun _ => 0)
def q_shG (key val : Nat) (l : List q_An) : List q_An := (q_ks key [] l).map (q_gr key val l)
def q_cr (key sec val : Nat) (l : List q_An) (ys : List Int32) (x : Int32) : q_An := (fun c => if c = 0 then x else q_sc (q_k2 key sec x (ys.getD (c - 1) 0)) val l, fun _ => 0)
def q_shC (key sec val : Nat) (l : List q_An) : List q_An := (q_ks key [] l).map (q_cr key sec val l (q_ks sec [] l))
theorem q_map_getD {f : Int32 → q_An} : ∀ (ks : List Int32) (i : Nat), i < ks.length → (ks.map f).getD i q_A0 = f (ks.getD i 0) := by
  intro ks
  induction ks with
  | nil => intro i hi; exact absurd hi (Nat.not_lt_zero _)
  | cons y t ih =>
    intro i hi
    cases i with
    | zero => rfl
    | succ i => exact ih i (by rw [List.length_cons] at hi; omega)
theorem q_sc_any {P : q_An → Prop} [DecidablePred P] {val : Nat} {l : List q_An} (h : q_any P l) : q_sc P val l = q_limI (q_su P val 0 l).toInt := if_pos h
theorem q_sc_no {P : q_An → Prop} [DecidablePred P] {val : Nat} {l : List q_An} (h : ¬ q_any P l) : q_sc P val l = -1000000 := if_neg h
theorem qa_16 {Q : am_M} {j key val g N W P : Nat} (hj : j < 8) (hg : g < 30) (hN : N ≤ 30) (q4 : Q (67 + 7 * j) 4 = nI key) (q6 : Q (67 + 7 * j) 6 = nI val) (hk : key < W) (hv : val < W) (hW : W ≤ 54) {s : am_M} (qc : q_qc s Q) (hf : s 52 4 = nI N) : ∀ (l : List q_An) (i n : Nat) (x3 x4 x5 x6 : Int32), i + l.length = N → l.length < n → q_cs s l W P i → f_AS_findGroup_16 n s (67 + 7 * j) (nI g) x3 x4 x5 x6 (nI i) = f_AS_findGroup_114 s (67 + 7 * j) (nI g) (q_cn (q_k1 key (s 63 g)) x3 l) (q_su (q_k1 key (s 63 g)) val x4 l) (q_lo (q_k1 key (s 63 g)) val x5 l) (q_hi (q_k1 key (s 63 g)) val x6 l) (nI N) ∧ (p_AS_findGroup_114 s (67 + 7 * j) (nI g) (q_cn (q_k1 key (s 63 g)) x3 l) (q_su (q_k1 key (s 63 g)) val x4 l) (q_lo (q_k1 key (s 63 g)) val x5 l) (q_hi (q_k1 key (s 63 g)) val x6 l) (nI N) → p_AS_findGroup_16 n s (67 + 7 * j) (nI g) x3 x4 x5 x6 (nI i)) := by
  have psh : 67 + 7 * j < 207 ∧ am_sh (67 + 7 * j) = (0, 4, 17) := ⟨by omega, (qa_sh hj).1⟩
  have hs4 : s (67 + 7 * j) 4 = nI key := by rw [qc.2 _ (by omega) (by omega)]; exact q4
  have hs6 : s (67 + 7 * j) 6 = nI val := by rw [qc.2 _ (by omega) (by omega)]; exact q6
  have cg := nI_clamp (n := g) (by omega)
  have vg : vp_in (nI g) 30 := vp_in_nI (by omega) (by omega)
  intro l
  induction l with
  | nil =>
    intro i n x3 x4 x5 x6 hi hn cs
    obtain ⟨n, rfl⟩ : ∃ k, n = k + 1 := ⟨n - 1, by omega⟩
    have l0 : ([] : List q_An).length = 0 := rfl
    have gg : s 52 4 ≤ nI i := by rw [hf]; exact qn_le (by omega) (by omega)
    unfold p_AS_findGroup_16 f_AS_findGroup_16
    rw [if_pos gg, show i = N from by omega]
    exact ⟨rfl, fun q => ⟨fun _ => q, fun q2 => absurd (by rw [show i = N from by omega] at gg; exact gg) q2⟩⟩
  | cons a l ih =>
    intro i n x3 x4 x5 x6 hi hn cs
    rw [List.length_cons] at hi hn
    obtain ⟨n, rfl⟩ : ∃ k, n = k + 1 := ⟨n - 1, by omega⟩
    have gg : ¬ s 52 4 ≤ nI i := by rw [hf]; exact nI_ge (by omega) (by omega)
    have e1 : nI i + (1 : Int32) = nI (i + 1) := nI_add i 1
    obtain ⟨c1, c2, c3⟩ := q_cs_t cs
    have gk := qa_get s (show i < 30 by omega) (show key < 54 by omega)
    have gv := qa_get s (show i < 30 by omega) (show val < 54 by omega)
    rw [c1 key hk] at gk
    rw [c1 val hv] at gv
    have IH := fun y3 y4 y5 y6 => ih (i + 1) n y3 y4 y5 y6 (by omega) (by omega) c3
    unfold p_AS_findGroup_16 f_AS_findGroup_16 p_AS_findGroup_90 f_AS_findGroup_90 p_AS_findGroup_95 f_AS_findGroup_95 p_AS_findGroup_97 f_AS_findGroup_97 p_AS_findGroup_108 f_AS_findGroup_108 q_cn q_su q_lo q_hi
    rw [if_neg gg, hs4, hs6, gk.2, gv.2, cg, e1]
    have hoz : f_CB_orZero s (a.1 val) = q_oz (a.1 val) := rfl
    rw [hoz]
    by_cases h : a.1 key = s 63 g
    · rw [if_pos h, if_pos h, if_pos h, if_pos h, if_pos h]
      by_cases h5 : x5 = -1000000
      · rw [if_pos h5, if_pos h5]
        obtain ⟨I1, I2⟩ := IH (x3 + 1) (x4 + q_oz (a.1 val)) (a.1 val) (if x6 < a.1 val then a.1 val else x6)
        exact ⟨I1, fun q => ⟨fun q2 => absurd q2 gg, fun _ => ⟨psh, gk.1, vg, fun _ => ⟨gv.1, fun _ => I2 q, fun q2 => absurd h5 q2⟩, fun q2 => absurd h q2⟩⟩⟩
      · rw [if_neg h5, if_neg h5]
        by_cases hb : a.1 val = -1000000
        · rw [if_pos hb, if_pos hb]
          obtain ⟨I1, I2⟩ := IH (x3 + 1) (x4 + q_oz (a.1 val)) x5 (if x6 < a.1 val then a.1 val else x6)
          exact ⟨I1, fun q => ⟨fun q2 => absurd q2 gg, fun _ => ⟨psh, gk.1, vg, fun _ => ⟨gv.1, fun q2 => absurd q2 h5, fun _ => ⟨fun _ => I2 q, fun q2 => absurd hb q2⟩⟩, fun q2 => absurd h q2⟩⟩⟩
        · rw [if_neg hb, if_neg hb]
          by_cases hl : x5 ≤ a.1 val
          · rw [if_pos hl, if_pos hl]
            obtain ⟨I1, I2⟩ := IH (x3 + 1) (x4 + q_oz (a.1 val)) x5 (if x6 < a.1 val then a.1 val else x6)
            exact ⟨I1, fun q => ⟨fun q2 => absurd q2 gg, fun _ => ⟨psh, gk.1, vg, fun _ => ⟨gv.1, fun q2 => absurd q2 h5, fun _ => ⟨fun q2 => absurd q2 hb, fun _ => ⟨fun _ => I2 q, fun q2 => absurd hl q2⟩⟩⟩, fun q2 => absurd h q2⟩⟩⟩
          · rw [if_neg hl, if_neg hl]
            obtain ⟨I1, I2⟩ := IH (x3 + 1) (x4 + q_oz (a.1 val)) (a.1 val) (if x6 < a.1 val then a.1 val else x6)
            exact ⟨I1, fun q => ⟨fun q2 => absurd q2 gg, fun _ => ⟨psh, gk.1, vg, fun _ => ⟨gv.1, fun q2 => absurd q2 h5, fun _ => ⟨fun q2 => absurd q2 hb, fun _ => ⟨fun q2 => absurd q2 hl, fun _ => I2 q⟩⟩⟩, fun q2 => absurd h q2⟩⟩⟩
    · rw [if_neg h, if_neg h, if_neg h, if_neg h, if_neg h]
      obtain ⟨I1, I2⟩ := IH x3 x4 x5 x6
      exact ⟨I1, fun q => ⟨fun q2 => absurd q2 gg, fun _ => ⟨psh, gk.1, vg, fun q2 => absurd q2 h, fun _ => I2 q⟩⟩⟩
theorem qa_ts16 {W' i : Nat} (hW : W' ≤ 31) (hi : i < 30) (x1 : Int32) (K : am_M → Int32 → Int32 → Int32 → am_M) (KP : am_M → Int32 → Int32 → Int32 → Prop) : ∀ (d c n : Nat) (s : am_M), c + d = W' → d < n → ∃ S, q_out s S (fun a b => a = 61 ∧ 54 * i + c ≤ b ∧ b < 54 * i + 54) ∧ (∀ e, c ≤ e → e < W' → S 61 (54 * i + e) = s 65 (31 * i + e)) ∧ f_AS_takeSpare_16 K n s x1 (nI W') (nI i) (nI c) = K S x1 (nI W') (nI (i + 1)) ∧ (KP S x1 (nI W') (nI (i + 1)) → p_AS_takeSpare_16 KP n s x1 (nI W') (nI i) (nI c)) := by
  intro d
  induction d with
  | zero =>
    intro c n s hc hn
    obtain ⟨n, rfl⟩ : ∃ k, n = k + 1 := ⟨n - 1, by omega⟩
    obtain rfl : c = W' := by omega
    have g : nI c ≤ nI c := qn_le (Nat.le_refl _) (by omega)
    have e1 : nI i + (1 : Int32) = nI (i + 1) := nI_add i 1
    unfold p_AS_takeSpare_16 f_AS_takeSpare_16 p_AS_takeSpare_54 f_AS_takeSpare_54
    rw [if_pos g, e1]
    exact ⟨s, fun _ _ _ => rfl, fun e h1 h2 => absurd h2 (by omega), rfl, fun q => ⟨fun _ => q, fun q2 => absurd g q2⟩⟩
  | succ d ih =>
    intro c n s hc hn
    obtain ⟨n, rfl⟩ : ∃ k, n = k + 1 := ⟨n - 1, by omega⟩
    have g : ¬ nI W' ≤ nI c := nI_ge (by omega) (by omega)
    have g31 : ¬ (31 : Int32) ≤ nI c := ql_31 (by omega)
    have e1 : nI c + (1 : Int32) = nI (c + 1) := nI_add c 1
    have ix : nI i * (31 : Int32) + nI c = nI (31 * i + c) := by rw [qm_31, nI_add, Nat.mul_comm]
    have hst := qa_set s hi (show c < 54 by omega) (s 65 (31 * i + c))
    obtain ⟨S, i1, i2, i3, i4⟩ := ih (c + 1) n (am_set s 61 (54 * i + c) (s 65 (31 * i + c))) (by omega) (by omega)
    unfold p_AS_takeSpare_16 f_AS_takeSpare_16
    rw [if_neg g, if_neg g31, ix, nI_clamp (n := 31 * i + c) (by omega), hst.2, e1]
    refine ⟨S, fun a b q => by rw [i1 a b (by omega), am_set_p (by omega)], fun e h1 h2 => ?_, i3, fun q => ⟨fun q2 => absurd q2 g, fun _ => ⟨fun q2 => absurd q2 g31, fun _ => ⟨vp_in_nI (by omega) (by omega), hst.1, i4 q⟩⟩⟩⟩
    by_cases he : e = c
    · rw [he, i1 _ _ (by omega), am_set_q]
    · rw [i2 e (by omega) h2, am_set_p (by omega)]
theorem qa_ts {N W' : Nat} (hN : N ≤ 30) (hW : W' ≤ 31) : ∀ (d i n : Nat) (s : am_M), i + d = N → d < n → p_AS_takeSpare_2 n s (nI N) (nI W') (nI i) ∧ ∃ t, f_AS_takeSpare_2 n s (nI N) (nI W') (nI i) = t ∧ q_out s t (fun a b => (a = 61 ∧ 54 * i ≤ b) ∨ (a = 52 ∧ (b = 4 ∨ b = 5))) ∧ (∀ k c, i ≤ k → k < N → c < W' → t 61 (54 * k + c) = s 65 (31 * k + c)) ∧ t 52 4 = nI N ∧ t 52 5 = nI W' := by
  intro d
  induction d with
  | zero =>
    intro i n s hi hn
    obtain ⟨n, rfl⟩ : ∃ k, n = k + 1 := ⟨n - 1, by omega⟩
    obtain rfl : i = N := by omega
    have g : nI i ≤ nI i := qn_le (Nat.le_refl _) (by omega)
    unfold p_AS_takeSpare_2 f_AS_takeSpare_2
    rw [if_pos g]
    exact ⟨⟨fun _ => trivial, fun q => absurd g q⟩, _, rfl, fun a b q => by rw [am_set_p (by omega), am_set_p (by omega)], fun k c h1 h2 => by omega, by rw [am_set_p (by omega), am_set_q], am_set_q⟩
  | succ d ih =>
    intro i n s hi hn
    obtain ⟨n, rfl⟩ : ∃ k, n = k + 1 := ⟨n - 1, by omega⟩
    have g : ¬ nI N ≤ nI i := nI_ge (by omega) (by omega)
    have g30 : ¬ (30 : Int32) ≤ nI i := ql_30 (by omega)
    obtain ⟨S, j1, j2, j3, j4⟩ := qa_ts16 hW (show i < 30 by omega) (nI N) (f_AS_takeSpare_2 n) (p_AS_takeSpare_2 n) W' 0 am_F s (by omega) (by rw [am_F_eq]; omega)
    rw [nI_0] at j3 j4
    obtain ⟨i1, t, i2, i3, i4, i5, i6⟩ := ih (i + 1) n S (by omega) (by omega)
    unfold p_AS_takeSpare_2 f_AS_takeSpare_2
    rw [if_neg g, if_neg g30, j3, i2]
    refine ⟨⟨fun q => absurd q g, fun _ => ⟨fun q => absurd q g30, fun _ => j4 i1⟩⟩, t, rfl, fun a b q => by rw [i3 a b (by omega), j1 a b (by omega)], fun k c h1 h2 h3 => ?_, i5, i6⟩
    by_cases hk : k = i
    · rw [hk, i3 _ _ (by omega)]; exact j2 c (Nat.zero_le _) h3
    · rw [i4 k c (by omega) h2 h3, j1 _ _ (by omega)]
theorem qa_take {s : am_M} {N W' : Nat} (hN : N ≤ 30) (hW : W' ≤ 31) : p_AS_takeSpare s (nI N) (nI W') ∧ ∃ t, f_AS_takeSpare s (nI N) (nI W') = t ∧ q_out s t (fun a b => a = 61 ∨ (a = 52 ∧ (b = 4 ∨ b = 5))) ∧ (∀ k c, k < N → c < W' → t 61 (54 * k + c) = s 65 (31 * k + c)) ∧ t 52 4 = nI N ∧ t 52 5 = nI W' := by
  obtain ⟨i1, t, i2, i3, i4, i5, i6⟩ := qa_ts hN hW N 0 am_F s (by omega) (by rw [am_F_eq]; omega)
  rw [nI_0] at i1 i2
  exact ⟨i1, t, i2, q_out_w i3 (fun a b q => by omega), fun k c h1 h2 => i4 k c (Nat.zero_le _) h1 h2, i5, i6⟩
end
