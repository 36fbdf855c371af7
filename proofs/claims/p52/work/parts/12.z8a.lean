noncomputable section
-- questions: the sheet of a source
abbrev q_fI (Q : am_M) (j f : Nat) : Nat := q_c (Q (67 + 7 * j) f)
def q_shK (R Q : am_M) (j : Nat) (l : List q_An) : List q_An := if Q (67 + 7 * j) 0 = 0 then q_shP R Q j l else if Q (67 + 7 * j) 0 = 1 then q_shG (q_fI Q j 4) (q_fI Q j 6) l else q_shC (q_fI Q j 4) (q_fI Q j 5) (q_fI Q j 6) l
def q_shS (R Q : am_M) : Nat → Nat → List q_An
  | 0, src => q_sh0 R src 30 0
  | f + 1, src => if src < 10 then q_sh0 R src 30 0 else q_shK R Q (src - 10) (q_shS R Q f (q_fI Q (src - 10) 1))
def q_sh (R Q : am_M) (src : Nat) : List q_An := q_shS R Q (src + 1) src
/-- the number of a question's source, and that it is one -/
theorem q_q1_src {A Q : am_M} (w : q_wd A) (qw : q_qw A Q) {j : Nat} (hj : j < q_nq Q) : ∃ src, Q (67 + 7 * j) 1 = nI src ∧ q_fI Q j 1 = src ∧ q_src A Q j src ∧ src < 10 + j ∧ (src < 10 → src < 4) ∧ ((Q (67 + 7 * j) 0 = 0 ∧ q_qp A Q j src) ∨ q_qg A Q j src) := by
  obtain ⟨⟨src, s1, s2, s3⟩, -, -⟩ := qw.2.1 j hj
  have h8 := qw.1.2
  have h4 := w.1.2
  have hlt : src < 10 + j ∧ (src < 10 → src < 4) := by
    rcases s2 with g | ⟨g1, g2, -⟩
    · omega
    · omega
  exact ⟨src, s1, by unfold q_fI; rw [s1]; exact q_cI (by omega), s2, hlt.1, hlt.2, s3⟩
theorem q_shS_f {A R Q : am_M} (w : q_wd A) (qw : q_qw A Q) : ∀ (f g src : Nat), src < 10 + f → src < 10 + g → src < 10 + q_nq Q → q_shS R Q f src = q_shS R Q g src := by
  intro f
  induction f with
  | zero =>
    intro g src h1 h2 h3
    cases g with
    | zero => rfl
    | succ g => unfold q_shS; rw [if_pos (by omega)]
  | succ f ih =>
    intro g src h1 h2 h3
    cases g with
    | zero => unfold q_shS; rw [if_pos (by omega)]
    | succ g =>
      unfold q_shS
      by_cases h : src < 10
      · rw [if_pos h, if_pos h]
      · rw [if_neg h, if_neg h]
        obtain ⟨x, -, x2, -, x4, -, -⟩ := q_q1_src w qw (j := src - 10) (by omega)
        rw [x2, ih g x (by omega) (by omega) (by omega)]
theorem q_sh_t {R Q : am_M} {src : Nat} (h : src < 10) : q_sh R Q src = q_sh0 R src 30 0 := by
  unfold q_sh q_shS; rw [if_pos h]
theorem q_sh_q {A R Q : am_M} (w : q_wd A) (qw : q_qw A Q) {j : Nat} (hj : j < q_nq Q) : q_sh R Q (10 + j) = q_shK R Q j (q_sh R Q (q_fI Q j 1)) := by
  obtain ⟨x, -, x2, -, x4, -, -⟩ := q_q1_src w qw hj
  have hx : q_sh R Q (10 + j) = q_shK R Q (10 + j - 10) (q_shS R Q (10 + j) (q_fI Q (10 + j - 10) 1)) := by
    unfold q_sh
    show q_shS R Q (10 + j + 1) (10 + j) = _
    conv => lhs; unfold q_shS
    rw [if_neg (by omega)]
  rw [hx, show 10 + j - 10 = j from by omega, x2]
  unfold q_sh
  rw [q_shS_f w qw (10 + j) (x + 1) x (by omega) (by omega) (by omega)]
theorem q_shK_len {R Q : am_M} {j : Nat} {l : List q_An} (hl : l.length ≤ 30) : (q_shK R Q j l).length ≤ 30 := by
  unfold q_shK
  have l0 : ([] : List Int32).length = 0 := rfl
  by_cases h0 : Q (67 + 7 * j) 0 = 0
  · rw [if_pos h0]; exact Nat.le_trans (q_shP_len l) hl
  · rw [if_neg h0]
    have hk := @q_ks_len (q_fI Q j 4) l []
    by_cases h1 : Q (67 + 7 * j) 0 = 1
    · rw [if_pos h1]; unfold q_shG; rw [List.length_map]; omega
    · rw [if_neg h1]; unfold q_shC; rw [List.length_map]; omega
theorem q_sh_len {A R Q : am_M} (w : q_wd A) (qw : q_qw A Q) : ∀ (src : Nat), src < 10 + q_nq Q → (q_sh R Q src).length ≤ 30 := by
  intro src
  induction src using Nat.strongRecOn with
  | ind src ih =>
    intro h
    by_cases h1 : src < 10
    · rw [q_sh_t h1]; exact q_sh0_len 30 0
    · obtain ⟨x, -, x2, -, x4, -, -⟩ := q_q1_src w qw (j := src - 10) (by omega)
      have e := q_sh_q (R := R) w qw (j := src - 10) (by omega)
      rw [show 10 + (src - 10) = src from by omega] at e
      rw [e]
      exact q_shK_len (by rw [x2]; exact ih x (by omega) (by omega))
-- the cells of answers are numbers that cells may hold, and those with an origin are cells of rows
theorem q_v_add {n : Nat} (h : n < 1000) : q_v (nI n) := by
  unfold q_v
  have : (nI n).toInt = n := nI_toInt (by omega)
  omega
theorem q_cn_n {P : q_An → Prop} [DecidablePred P] : ∀ (l : List q_An) (m : Nat), ∃ k, q_cn P (nI m) l = nI k ∧ k ≤ m + l.length := by
  intro l
  induction l with
  | nil => intro m; exact ⟨m, rfl, Nat.le_refl _⟩
  | cons a l ih =>
    intro m
    unfold q_cn
    rw [List.length_cons]
    by_cases h : P a
    · rw [if_pos h, show nI m + (1 : Int32) = nI (m + 1) from nI_add m 1]
      obtain ⟨k, k1, k2⟩ := ih (m + 1)
      exact ⟨k, k1, by omega⟩
    · rw [if_neg h]
      obtain ⟨k, k1, k2⟩ := ih m
      exact ⟨k, k1, by omega⟩
theorem q_lo_v {P : q_An → Prop} [DecidablePred P] {val : Nat} : ∀ (l : List q_An) (x : Int32), q_v x → (∀ a, a ∈ l → q_v (a.1 val)) → q_v (q_lo P val x l) := by
  intro l
  induction l with
  | nil => intro x h _; exact h
  | cons a l ih =>
    intro x h hv
    have ha := hv a List.mem_cons_self
    unfold q_lo
    refine ih _ ?_ (fun b hb => hv b (List.mem_cons_of_mem _ hb))
    by_cases c1 : P a
    · rw [if_pos c1]
      by_cases c2 : x = -1000000
      · rw [if_pos c2]; exact ha
      · rw [if_neg c2]
        by_cases c3 : a.1 val = -1000000
        · rw [if_pos c3]; exact h
        · rw [if_neg c3]
          by_cases c4 : x ≤ a.1 val
          · rw [if_pos c4]; exact h
          · rw [if_neg c4]; exact ha
    · rw [if_neg c1]; exact h
theorem q_hi_v {P : q_An → Prop} [DecidablePred P] {val : Nat} : ∀ (l : List q_An) (x : Int32), q_v x → (∀ a, a ∈ l → q_v (a.1 val)) → q_v (q_hi P val x l) := by
  intro l
  induction l with
  | nil => intro x h _; exact h
  | cons a l ih =>
    intro x h hv
    have ha := hv a List.mem_cons_self
    unfold q_hi
    refine ih _ ?_ (fun b hb => hv b (List.mem_cons_of_mem _ hb))
    by_cases c1 : P a
    · rw [if_pos c1]
      by_cases c2 : x < a.1 val
      · rw [if_pos c2]; exact ha
      · rw [if_neg c2]; exact h
    · rw [if_neg c1]; exact h
theorem q_sc_v {P : q_An → Prop} [DecidablePred P] {val : Nat} {l : List q_An} : q_v (q_sc P val l) := by
  by_cases h : q_any P l
  · rw [q_sc_any h]; exact q_lim_v _
  · rw [q_sc_no h]; exact q_v_B
theorem q_gr_v {key val : Nat} {l : List q_An} {x : Int32} (hl : l.length ≤ 30) (hx : q_v x) (hv : ∀ a, a ∈ l → q_v (a.1 val)) (c : Nat) : q_v ((q_gr key val l x).1 c) := by
  unfold q_gr
  dsimp only
  by_cases h0 : c = 0
  · rw [if_pos h0]; exact hx
  rw [if_neg h0]
  by_cases h1 : c = 1
  · rw [if_pos h1]
    obtain ⟨k, k1, k2⟩ := q_cn_n (P := q_k1 key x) l 0
    rw [nI_0] at k1
    rw [k1]; exact q_v_add (by omega)
  rw [if_neg h1]
  by_cases h2 : c = 2
  · rw [if_pos h2]; exact q_sc_v
  rw [if_neg h2]
  by_cases h3 : c = 3
  · rw [if_pos h3]; exact q_lo_v l _ q_v_B hv
  · rw [if_neg h3]; exact q_hi_v l _ q_v_B hv
theorem q_sh0_mem {R : am_M} {t : Nat} {a : q_An} : ∀ (d r : Nat), a ∈ q_sh0 R t d r → ∃ k, r ≤ k ∧ k < r + d ∧ R 1 (30 * t + k) ≠ 0 ∧ a = (fun c => R 2 (180 * t + 6 * k + c), fun _ => nI k) := by
  intro d
  induction d with
  | zero => intro r h; exact absurd h List.not_mem_nil
  | succ d ih =>
    intro r h
    have hx : q_sh0 R t (d + 1) r = if R 1 (30 * t + r) = 0 then q_sh0 R t d (r + 1) else (fun c => R 2 (180 * t + 6 * r + c), fun _ => nI r) :: q_sh0 R t d (r + 1) := rfl
    rw [hx] at h
    by_cases h1 : R 1 (30 * t + r) = 0
    · rw [if_pos h1] at h
      obtain ⟨k, k1, k2, k3⟩ := ih (r + 1) h
      exact ⟨k, by omega, by omega, k3⟩
    · rw [if_neg h1] at h
      rcases List.mem_cons.mp h with q | q
      · exact ⟨r, Nat.le_refl _, by omega, h1, q⟩
      · obtain ⟨k, k1, k2, k3⟩ := ih (r + 1) q
        exact ⟨k, by omega, by omega, k3⟩
theorem q_shP_mem {R Q : am_M} {j : Nat} {b : q_An} : ∀ (l : List q_An), b ∈ q_shP R Q j l → ∃ a, a ∈ l ∧ q_kp R Q j a ∧ b = q_jn R Q j a := by
  intro l
  induction l with
  | nil => intro h; exact absurd h List.not_mem_nil
  | cons a l ih =>
    intro h
    by_cases hk : q_kp R Q j a
    · rw [q_shP_y hk] at h
      rcases List.mem_cons.mp h with q | q
      · exact ⟨a, List.mem_cons_self, hk, q⟩
      · obtain ⟨x, x1, x2⟩ := ih q
        exact ⟨x, List.mem_cons_of_mem _ x1, x2⟩
    · rw [q_shP_n hk] at h
      obtain ⟨x, x1, x2⟩ := ih h
      exact ⟨x, List.mem_cons_of_mem _ x1, x2⟩
theorem q_10 {t c T C : Nat} (hc : c < 10) (hC : C < 10) (ht : t < 1000) (hT : T < 1000) (h : nI (10 * t + c) = nI (10 * T + C)) : T = t ∧ C = c := by
  have := (nI_eq (by omega) (by omega)).mp h
  omega
theorem q_m1_ne {n : Nat} (h : n < 2 ^ 31) : nI n ≠ -1 := fun q => by
  have := qz h
  rw [q] at this; exact this (by decide)
end
