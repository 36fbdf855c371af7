noncomputable section
-- questions: answers as a list, and how the class lays a table's rows
theorem q_cI {n : Nat} (h : n < 2 ^ 31) : q_c (nI n) = n := nI_clamp h
abbrev q_An : Type := (Nat → Int32) × (Nat → Int32)
def q_A0 : q_An := (fun _ => 0, fun _ => 0)
def q_sh0 (R : am_M) (t : Nat) : Nat → Nat → List q_An
  | 0, _ => []
  | d + 1, r => if R 1 (30 * t + r) = 0 then q_sh0 R t d (r + 1) else (fun c => R 2 (180 * t + 6 * r + c), fun _ => nI r) :: q_sh0 R t d (r + 1)
theorem q_sh0_len {R : am_M} {t : Nat} : ∀ (d r : Nat), (q_sh0 R t d r).length ≤ d := by
  intro d
  induction d with
  | zero => intro r; exact Nat.le_refl _
  | succ d ih =>
    intro r
    have hx : q_sh0 R t (d + 1) r = if R 1 (30 * t + r) = 0 then q_sh0 R t d (r + 1) else (fun c => R 2 (180 * t + 6 * r + c), fun _ => nI r) :: q_sh0 R t d (r + 1) := rfl
    have := ih (r + 1)
    rw [hx]
    by_cases h : R 1 (30 * t + r) = 0
    · rw [if_pos h]; omega
    · rw [if_neg h, List.length_cons]; omega
/-- the class's sheet holds answers from place m on: W columns, P parts -/
def q_cs (s : am_M) (l : List q_An) (W P m : Nat) : Prop := ∀ i, i < l.length → (∀ c, c < W → s 61 (54 * (m + i) + c) = (l.getD i q_A0).1 c) ∧ ∀ p, p < P → s 62 (9 * (m + i) + p) = (l.getD i q_A0).2 p
theorem q_cs_c {s : am_M} {a : q_An} {l : List q_An} {W P m : Nat} (h1 : ∀ c, c < W → s 61 (54 * m + c) = a.1 c) (h2 : ∀ p, p < P → s 62 (9 * m + p) = a.2 p) (h : q_cs s l W P (m + 1)) : q_cs s (a :: l) W P m := by
  intro i hi
  cases i with
  | zero => exact ⟨fun c hc => by rw [Nat.add_zero]; exact h1 c hc, fun p hp => by rw [Nat.add_zero]; exact h2 p hp⟩
  | succ i =>
    have hi' : i < l.length := by rw [List.length_cons] at hi; omega
    obtain ⟨g1, g2⟩ := h i hi'
    rw [show m + (i + 1) = m + 1 + i from by omega]
    exact ⟨g1, g2⟩
theorem q_cs_t {s : am_M} {a : q_An} {l : List q_An} {W P m : Nat} (h : q_cs s (a :: l) W P m) : (∀ c, c < W → s 61 (54 * m + c) = a.1 c) ∧ (∀ p, p < P → s 62 (9 * m + p) = a.2 p) ∧ q_cs s l W P (m + 1) := by
  obtain ⟨g1, g2⟩ := h 0 (by rw [List.length_cons]; omega)
  rw [Nat.add_zero] at g1 g2
  refine ⟨g1, g2, fun i hi => ?_⟩
  have := h (i + 1) (by rw [List.length_cons]; omega)
  rw [show m + (i + 1) = m + 1 + i from by omega] at this
  exact this
theorem q_cs_o {s t : am_M} {l : List q_An} {W P m : Nat} (h : ∀ a b, (a = 61 ∧ 54 * m ≤ b) ∨ (a = 62 ∧ 9 * m ≤ b) → t a b = s a b) (hs : q_cs s l W P m) : q_cs t l W P m := fun i hi => by
  obtain ⟨g1, g2⟩ := hs i hi
  exact ⟨fun c hc => by rw [h _ _ (by omega)]; exact g1 c hc, fun p hp => by rw [h _ _ (by omega)]; exact g2 p hp⟩
theorem qa_set (s : am_M) {a c : Nat} (ha : a < 30) (hc : c < 54) (v : Int32) : p_AS_set s (nI a) (nI c) v ∧ f_AS_set s (nI a) (nI c) v = am_set s 61 (54 * a + c) v := by
  have z1 : ¬ nI a < 0 := qz (by omega)
  have z2 : ¬ (30 : Int32) ≤ nI a := ql_30 ha
  have z3 : ¬ nI c < 0 := qz (by omega)
  have z4 : ¬ (54 : Int32) ≤ nI c := ql_54 hc
  have ix : nI a * (54 : Int32) + nI c = nI (54 * a + c) := by rw [qm_54, nI_add, Nat.mul_comm]
  unfold p_AS_set f_AS_set
  rw [if_neg z1, if_neg z2, if_neg z3, if_neg z4, ix, nI_clamp (n := 54 * a + c) (by omega)]
  exact ⟨⟨fun _ => trivial, fun _ => ⟨fun _ => trivial, fun _ => ⟨fun _ => trivial, fun _ => ⟨fun _ => trivial, fun _ => ⟨vp_in_nI (by omega) (by omega), trivial⟩⟩⟩⟩⟩, rfl⟩
theorem qa_setRow (s : am_M) {a p : Nat} (ha : a < 30) (hp : p < 9) (v : Int32) : p_AS_setRow s (nI a) (nI p) v ∧ f_AS_setRow s (nI a) (nI p) v = am_set s 62 (9 * a + p) v := by
  have z1 : ¬ nI a < 0 := qz (by omega)
  have z2 : ¬ (30 : Int32) ≤ nI a := ql_30 ha
  have z3 : ¬ nI p < 0 := qz (by omega)
  have z4 : ¬ (9 : Int32) ≤ nI p := nI_ge (b := 9) hp (by decide)
  have ix : nI a * (9 : Int32) + nI p = nI (9 * a + p) := by rw [qm_9, nI_add, Nat.mul_comm]
  unfold p_AS_setRow f_AS_setRow
  rw [if_neg z1, if_neg z2, if_neg z3, if_neg z4, ix, nI_clamp (n := 9 * a + p) (by omega)]
  exact ⟨⟨fun _ => trivial, fun _ => ⟨fun _ => trivial, fun _ => ⟨fun _ => trivial, fun _ => ⟨fun _ => trivial, fun _ => ⟨vp_in_nI (by omega) (by omega), trivial⟩⟩⟩⟩⟩, rfl⟩
theorem qa_get (s : am_M) {a c : Nat} (ha : a < 30) (hc : c < 54) : p_AS_get s (nI a) (nI c) ∧ f_AS_get s (nI a) (nI c) = s 61 (54 * a + c) := by
  have z1 : ¬ nI a < 0 := qz (by omega)
  have z2 : ¬ (30 : Int32) ≤ nI a := ql_30 ha
  have z3 : ¬ nI c < 0 := qz (by omega)
  have z4 : nI c < (54 : Int32) := qt_54 hc
  have ix : nI a * (54 : Int32) + nI c = nI (54 * a + c) := by rw [qm_54, nI_add, Nat.mul_comm]
  unfold p_AS_get f_AS_get
  rw [if_neg z1, if_neg z2, if_neg z3, if_pos z4, ix, nI_clamp (n := 54 * a + c) (by omega)]
  exact ⟨⟨fun _ => trivial, fun _ => ⟨fun _ => trivial, fun _ => ⟨fun _ => trivial, fun _ => ⟨fun _ => ⟨vp_in_nI (by omega) (by omega), trivial⟩, fun _ => trivial⟩⟩⟩⟩, rfl⟩
theorem qa_42 {R : am_M} {T r m W : Nat} (hT : T < 4) (hr : r < 30) (hm : m < 30) (hW : W ≤ 6) (h1 : R 1 (30 * T + r) ≠ 0) (K : am_M → Int32 → Int32 → am_M) (KP : am_M → Int32 → Int32 → Prop) : ∀ (d c n : Nat) (s : am_M), c + d = W → d < n → q_cb s 9 10 11 R → s 52 5 = nI W → s 52 4 = nI m → ∃ S, q_out s S (fun a b => a = 61 ∧ 54 * m ≤ b) ∧ (∀ j, c ≤ j → j < W → S 61 (54 * m + j) = R 2 (180 * T + 6 * r + j)) ∧ (∀ j, j < c → S 61 (54 * m + j) = s 61 (54 * m + j)) ∧ f_AS_findRows_42 K n s (nI T) (nI r) (nI c) = f_AS_findRows_78 K S (nI T) (nI r) (nI W) ∧ (p_AS_findRows_78 KP S (nI T) (nI r) (nI W) → p_AS_findRows_42 KP n s (nI T) (nI r) (nI c)) := by
  intro d
  induction d with
  | zero =>
    intro c n s hc hn cb hw hf
    obtain ⟨n, rfl⟩ : ∃ k, n = k + 1 := ⟨n - 1, by omega⟩
    obtain rfl : c = W := by omega
    have l : s 52 5 ≤ nI c := by rw [hw]; exact qn_le (Nat.le_refl _) (by omega)
    unfold f_AS_findRows_42 p_AS_findRows_42
    rw [if_pos l]
    exact ⟨s, fun _ _ _ => rfl, fun j a b => absurd b (by omega), fun _ _ => rfl, rfl, fun q => ⟨fun _ => q, fun q2 => absurd l q2⟩⟩
  | succ d ih =>
    intro c n s hc hn cb hw hf
    obtain ⟨n, rfl⟩ : ∃ k, n = k + 1 := ⟨n - 1, by omega⟩
    have l : ¬ s 52 5 ≤ nI c := by rw [hw]; exact nI_ge (by omega) (by omega)
    have e1 : nI c + (1 : Int32) = nI (c + 1) := nI_add c 1
    have hst := qa_set s hm (show c < 54 by omega) (R 2 (180 * T + 6 * r + c))
    have hget := qr_cell cb hT hr (show c < 6 by omega) h1
    obtain ⟨S, i1, i2, i3, i4, i5⟩ := ih (c + 1) n (am_set s 61 (54 * m + c) (R 2 (180 * T + 6 * r + c))) (by omega) (by omega) (q_cb_set (by omega) cb) ((am_set_p (by omega)).trans hw) ((am_set_p (by omega)).trans hf)
    unfold f_AS_findRows_42 p_AS_findRows_42
    rw [if_neg l, hget, hf, hst.2, e1]
    refine ⟨S, fun a b q => by rw [i1 a b q, am_set_p (by omega)], fun j h2 h3 => ?_, fun j h2 => by rw [i3 j (by omega), am_set_p (by omega)], i4, fun q => ⟨fun q2 => absurd q2 l, fun _ => ⟨qr_pget _ _ _ _, hst.1, i5 q⟩⟩⟩
    by_cases hj : j = c
    · rw [hj, i3 c (by omega), am_set_q]
    · exact i2 j (by omega) h3
theorem qa_19 {R : am_M} {T W : Nat} (hT : T < 4) (hW : W ≤ 6) : ∀ (d r m n : Nat) (s : am_M), r + d = 30 → d < n → m ≤ r → q_cb s 9 10 11 R → s 52 5 = nI W → s 52 4 = nI m → p_AS_findRows_19 n s (nI T) (nI r) ∧ ∃ t, f_AS_findRows_19 n s (nI T) (nI r) = t ∧ q_out s t (fun a b => (a = 61 ∧ 54 * m ≤ b) ∨ (a = 62 ∧ 9 * m ≤ b) ∨ (a = 52 ∧ b = 4)) ∧ t 52 4 = nI (m + (q_sh0 R T d r).length) ∧ q_cs t (q_sh0 R T d r) W 1 m := by
  intro d
  induction d with
  | zero =>
    intro r m n s hr hn hm cb hw hf
    obtain ⟨n, rfl⟩ : ∃ k, n = k + 1 := ⟨n - 1, by omega⟩
    obtain rfl : r = 30 := by omega
    have l : (30 : Int32) ≤ nI 30 := qg_30 (by omega) (by omega)
    unfold f_AS_findRows_19 p_AS_findRows_19
    rw [if_pos l]
    exact ⟨⟨fun _ => trivial, fun q => absurd l q⟩, s, rfl, fun _ _ _ => rfl, hf, fun i hi => absurd hi (Nat.not_lt_zero _)⟩
  | succ d ih =>
    intro r m n s hr hn hm cb hw hf
    obtain ⟨n, rfl⟩ : ∃ k, n = k + 1 := ⟨n - 1, by omega⟩
    have hr2 : r < 30 := by omega
    have l : ¬ (30 : Int32) ≤ nI r := ql_30 hr2
    have e1 : nI r + (1 : Int32) = nI (r + 1) := nI_add r 1
    have hhas := qr_has cb hT (nI r)
    have hhI : q_hs R T (nI r) ↔ R 1 (30 * T + r) ≠ 0 := q_hs_I hr2
    have hx : q_sh0 R T (d + 1) r = if R 1 (30 * T + r) = 0 then q_sh0 R T d (r + 1) else (fun c => R 2 (180 * T + 6 * r + c), fun _ => nI r) :: q_sh0 R T d (r + 1) := rfl
    unfold f_AS_findRows_19 p_AS_findRows_19
    rw [if_neg l, hhas]
    by_cases h1 : R 1 (30 * T + r) = 0
    · rw [if_neg (fun q => hhI.mp q h1), if_pos rfl, hx, if_pos h1]
      unfold f_AS_findRows_98 p_AS_findRows_98
      rw [e1]
      obtain ⟨i1, t, i2, i3⟩ := ih (r + 1) m n s (by omega) (by omega) (by omega) cb hw hf
      exact ⟨⟨fun q => absurd q l, fun _ => ⟨qr_phas _ _ _, fun _ => i1, fun q => absurd rfl q⟩⟩, t, i2, i3⟩
    · rw [if_pos (hhI.mpr h1), if_neg i10, hx, if_neg h1]
      obtain ⟨S, j1, j2, -, j4, j5⟩ := qa_42 hT hr2 (show m < 30 by omega) hW h1 (f_AS_findRows_19 n) (p_AS_findRows_19 n) W 0 am_F s (by omega) (by rw [am_F_eq]; omega) cb hw hf
      rw [nI_0] at j4 j5
      have hS4 : S 52 4 = nI m := (j1 _ _ (by omega)).trans hf
      have hrw := qa_setRow S (show m < 30 by omega) (show 0 < 9 by omega) (nI r)
      rw [nI_0] at hrw
      unfold f_AS_findRows_78 f_AS_findRows_98 at j4
      unfold p_AS_findRows_78 p_AS_findRows_98 at j5
      rw [hS4, hrw.2, e1, am_set_p (by omega), hS4, show nI m + (1 : Int32) = nI (m + 1) from nI_add m 1] at j4 j5
      have oT : q_out s (am_set (am_set S 62 (9 * m + 0) (nI r)) 52 4 (nI (m + 1))) (fun a b => (a = 61 ∧ 54 * m ≤ b) ∨ (a = 62 ∧ b = 9 * m) ∨ (a = 52 ∧ b = 4)) := fun a b q => by rw [am_set_p (by omega), am_set_p (by omega), j1 a b (by omega)]
      have t61 : ∀ j, j < W → am_set (am_set S 62 (9 * m + 0) (nI r)) 52 4 (nI (m + 1)) 61 (54 * m + j) = R 2 (180 * T + 6 * r + j) := fun j hj => by
        rw [am_set_p (by omega), am_set_p (by omega)]; exact j2 j (Nat.zero_le _) hj
      have t62 : am_set (am_set S 62 (9 * m + 0) (nI r)) 52 4 (nI (m + 1)) 62 (9 * m + 0) = nI r := by rw [am_set_p (by omega), am_set_q]
      have t4 : am_set (am_set S 62 (9 * m + 0) (nI r)) 52 4 (nI (m + 1)) 52 4 = nI (m + 1) := am_set_q
      generalize am_set (am_set S 62 (9 * m + 0) (nI r)) 52 4 (nI (m + 1)) = X at *
      obtain ⟨i1, t, i2, i3, i4, i5⟩ := ih (r + 1) (m + 1) n X (by omega) (by omega) (by omega) (q_cb_out oT (fun a b q => by omega) cb) ((oT _ _ (by omega)).trans hw) t4
      rw [j4, List.length_cons]
      refine ⟨⟨fun q => absurd q l, fun _ => ⟨qr_phas _ _ _, fun q => absurd q i10, fun _ => j5 ⟨hrw.1, i1⟩⟩⟩, t, i2, fun a b q => by rw [i3 a b (by omega), oT a b (by omega)], by rw [i4, show m + 1 + (q_sh0 R T d (r + 1)).length = m + ((q_sh0 R T d (r + 1)).length + 1) from by omega], q_cs_c (fun c hc => by rw [i3 _ _ (by omega)]; exact t61 c hc) (fun p hp => by
        obtain rfl : p = 0 := by omega
        rw [i3 _ _ (by omega)]; exact t62) i5⟩
theorem qa_findRows {s A R : am_M} (cd : q_cd s A) (w : q_wd A) (cb : q_cb s 9 10 11 R) {T : Nat} (hT : T < 4) : p_AS_findRows s (nI T) ∧ ∃ t, f_AS_findRows s (nI T) = t ∧ q_out s t (fun a b => a = 61 ∨ a = 62 ∨ (a = 52 ∧ (b = 4 ∨ b = 5))) ∧ t 52 4 = nI (q_sh0 R T 30 0).length ∧ t 52 5 = nI (q_w A T) ∧ q_cs t (q_sh0 R T 30 0) (q_w A T) 1 0 := by
  have hw := qd_w (q_cd_set (i := 52) (k := 4) (x := 0) (by omega) cd) w hT
  have hW := (w.2.1 T hT).2.1
  obtain ⟨i1, t, i2, i3, i4, i5⟩ := qa_19 hT hW 30 0 0 am_F (am_set (am_set s 52 4 0) 52 5 (nI (q_w A T))) (by omega) (by rw [am_F_eq]; omega) (Nat.le_refl _) (q_cb_set (by omega) (q_cb_set (by omega) cb)) am_set_q ((am_set_p (by omega)).trans am_set_q)
  rw [nI_0] at i1 i2
  rw [Nat.zero_add] at i4
  unfold p_AS_findRows f_AS_findRows
  rw [hw]
  refine ⟨⟨qd_pw _ _, i1⟩, t, i2, fun a b q => by rw [i3 a b (by omega), am_set_p (by omega), am_set_p (by omega)], i4, by rw [i3 _ _ (by omega), am_set_q], i5⟩
end
