noncomputable section
-- questions: what sheets are made of
theorem q_cLt (x : Int32) : q_c x < 2 ^ 31 := by
  have h := Int32.toInt_lt x
  show x.toInt.toNat < 2 ^ 31
  omega
theorem q_s1_t {A R Q : am_M} (wr : q_wr A R) {t : Nat} (ht : t < 4) {a : q_An} (h : a ∈ q_sh0 R t 30 0) (hw : q_w A t ≤ 6) : q_s1 A R Q t a := by
  obtain ⟨k, -, k2, k3, rfl⟩ := q_sh0_mem 30 0 h
  intro c hc
  unfold q_sw at hc
  rw [if_pos (by omega)] at hc
  refine ⟨wr.2.2.1 _ (by omega) (by rw [show (180 * t + 6 * k + c) / 6 = 30 * t + k from by omega]; exact k3), fun T C hT hC q => ?_⟩
  unfold q_so at q
  rw [if_pos (by omega)] at q
  obtain ⟨rfl, rfl⟩ := q_10 (by omega) (by omega) (by omega) (by omega) q
  exact ⟨k, by omega, k3, rfl, rfl⟩
theorem q_s1_p {A R Q : am_M} (w : q_wd A) (wr : q_wr A R) (qw : q_qw A Q) {j src : Nat} (hj : j < q_nq Q) (hs : Q (67 + 7 * j) 1 = nI src) (hsrc : q_src A Q j src) (qp : q_qp A Q j src) {a : q_An} (ha : q_s1 A R Q src a) (hk : q_kp R Q j a) : q_s1 A R Q (10 + j) (q_jn R Q j a) := by
  obtain ⟨-, -, -, u, W, n, a1, a2, a3, a4, a5, a6, a7, a8, -⟩ := qp
  have h4 := w.1.2
  have h8 := qw.1.2
  have eW : q_c (Q (67 + 7 * j) 7) = W := by rw [a2]; exact q_cI (by omega)
  have en : q_c (Q (67 + 7 * j) 9) = n := by rw [a3]; exact q_cI (by omega)
  have hu : u ≤ W := by rcases a8 with ⟨-, g, -⟩ | ⟨c, T, C, J, -, -, -, -, -, -, -, -, -, g, -⟩ <;> omega
  have eu : q_c (Q (67 + 7 * j) 8) = u := by rw [a1]; exact q_cI (by omega)
  have hsn : ∀ c, c < u → q_so Q src c ≠ -1 → q_sp Q src c < q_sn Q src := fun c hc hne => by
    unfold q_so at hne
    unfold q_sp q_sn
    by_cases h : src < 10
    · rw [if_pos h, if_pos h]; omega
    · rw [if_neg h] at hne ⊢
      rw [if_neg h]
      rcases hsrc with g | ⟨g1, g2, g3⟩
      · omega
      · exact ((qw.2.1 (src - 10) (by omega)).2.2 c (by omega)).2 hne
  intro c hc
  have hc' : c < W := by
    unfold q_sw at hc
    rw [if_neg (by omega), show 10 + j - 10 = j from by omega, eW] at hc
    exact hc
  have eso : q_so Q (10 + j) c = Q (68 + 7 * j) c := by
    unfold q_so; rw [if_neg (by omega), show 10 + j - 10 = j from by omega]
  have esp : q_sp Q (10 + j) c = q_c (Q (69 + 7 * j) c) := by
    unfold q_sp; rw [if_neg (by omega), show 10 + j - 10 = j from by omega]
  rw [eso, esp]
  have pspN : q_sp Q src c < 2 ^ 31 ∨ u ≤ c := by
    by_cases h : u ≤ c
    · exact Or.inr h
    · left
      unfold q_sp
      by_cases h9 : src < 10
      · rw [if_pos h9]; omega
      · rw [if_neg h9]
        exact q_cLt _
  unfold q_jn
  rcases a8 with ⟨b1, b2, b3⟩ | ⟨cj, T', C', J, b1, b2, b3, b4, b5, b6, b7, b8, b9, b10, b11, b12, b13⟩
  · rw [if_pos b1]
    obtain ⟨e1, e2⟩ := a7 c (by omega)
    obtain ⟨v1, v2⟩ := ha c (by omega)
    refine ⟨v1, fun T C hT hC q => ?_⟩
    rw [e1] at q
    obtain ⟨r, r1, r2, r3, r4⟩ := v2 T C hT hC q
    rw [e2, q_cI (pspN.resolve_right (by omega))]
    exact ⟨r, r1, r2, r3, r4⟩
  · have hn1 := q_m1_ne (n := cj) (by omega)
    have hne : ¬ Q (67 + 7 * j) 2 = -1 := by rw [b1]; exact hn1
    have ecj : q_c (Q (67 + 7 * j) 2) = cj := by rw [b1]; exact q_cI (by omega)
    have eJ : q_c (Q (67 + 7 * j) 3) = J := by rw [b8]; exact q_cI (by omega)
    rw [if_neg hne, eu, ecj, eJ, en]
    dsimp only
    obtain ⟨-, hrow⟩ := ha cj (by omega)
    obtain ⟨r0, r1, r2, r3, r4⟩ := hrow T' C' (by omega) b5 b3
    have hx := q_x41 wr (show T' < 4 by omega) b5 r1 b6 b7 (by omega) r2
    rw [← r3] at hx
    have hnb : a.1 cj ≠ -1000000 := by
      have := hk.1.resolve_left hne
      rw [ecj] at this; exact this
    obtain ⟨x, x1, x2, x3⟩ := hx.resolve_left hnb
    have ex : q_c (a.1 cj) = x := by rw [x2]; exact q_cI (by omega)
    have w6 := (w.2.1 J (by omega)).2.1
    by_cases hcu : u ≤ c
    · rw [if_pos hcu, ex]
      obtain ⟨e1, e2⟩ := b13 (c - u) (by omega)
      rw [show u + (c - u) = c from by omega] at e1 e2
      refine ⟨wr.2.2.1 _ (by omega) (by rw [show (180 * J + 6 * x + (c - u)) / 6 = 30 * J + x from by omega]; exact x3), fun T C hT hC q => ?_⟩
      rw [e1] at q
      obtain ⟨rfl, rfl⟩ := q_10 (by omega) (by omega) (by omega) (by omega) q
      refine ⟨x, x1, x3, rfl, ?_⟩
      rw [e2, q_cI (n := q_sn Q src) (by omega), if_pos (by omega)]; exact x2
    · rw [if_neg hcu]
      obtain ⟨e1, e2⟩ := a7 c (by omega)
      obtain ⟨v1, v2⟩ := ha c (by omega)
      refine ⟨v1, fun T C hT hC q => ?_⟩
      rw [e1] at q
      have hlt := hsn c (by omega) (by rw [q]; exact q_m1_ne (by omega))
      obtain ⟨r, r1', r2', r3', r4'⟩ := v2 T C hT hC q
      rw [e2, q_cI (pspN.resolve_right (by omega)), if_neg (by omega)]
      exact ⟨r, r1', r2', r3', r4'⟩
theorem q_si_sh {A R Q : am_M} (w : q_wd A) (wr : q_wr A R) (qw : q_qw A Q) : ∀ (src : Nat), (src < 4 ∨ (10 ≤ src ∧ src < 10 + q_nq Q ∧ Q (67 + 7 * (src - 10)) 0 ≠ 2)) → q_si A R Q src (q_sh R Q src) := by
  have h8 := qw.1.2
  have h4 := w.1.2
  intro src
  induction src using Nat.strongRecOn with
  | ind src ih =>
    intro h
    rcases h with h | ⟨h1, h2, h3⟩
    · rw [q_sh_t (by omega)]
      exact fun a ha => q_s1_t wr h ha (w.2.1 src h).2.1
    · obtain ⟨j, rfl⟩ : ∃ j, src = 10 + j := ⟨src - 10, by omega⟩
      rw [show 10 + j - 10 = j from by omega] at h3
      obtain ⟨x, x1, x2, x3, x4, x5, x6⟩ := q_q1_src w qw (j := j) (by omega)
      have IH := ih x (by omega) (by
        rcases x3 with g | ⟨g1, g2, g3⟩
        · exact Or.inl (by omega)
        · exact Or.inr ⟨g1, by omega, g3⟩)
      rw [q_sh_q w qw (by omega), x2]
      unfold q_shK
      rcases x6 with ⟨k0, qp⟩ | qg
      · rw [if_pos k0]
        intro b hb
        obtain ⟨a, a1, a2, rfl⟩ := q_shP_mem _ hb
        exact q_s1_p w wr qw (by omega) x1 x3 qp (IH a a1) a2
      · obtain ⟨g1, g2, g3, g4, g5, key, val, g6, g7, g8, g9, g10⟩ := qg
        have k1 : Q (67 + 7 * j) 0 = 1 := by
          rcases g10 with ⟨g, -⟩ | ⟨g, -⟩
          · exact g
          · exact absurd g h3
        have n0 : ¬ Q (67 + 7 * j) 0 = 0 := by rw [k1]; exact i10
        have hsw : q_sw A Q x ≤ 54 := by
          unfold q_sw
          by_cases hx : x < 10
          · rw [if_pos hx]; have := (w.2.1 x (x5 hx)).2.1; omega
          · rw [if_neg hx]
            obtain ⟨y, -, -, -, -, -, y6⟩ := q_q1_src w qw (j := x - 10) (by omega)
            rcases y6 with ⟨-, -, -, -, u, W, n, -, a2, -, -, a5, -⟩ | ⟨-, a2, -⟩
            · rw [a2, q_cI (n := W) (by omega)]; omega
            · rw [a2, q_cI (n := 5) (by omega)]; omega
        have ekey : q_fI Q j 4 = key := by unfold q_fI; rw [g6]; exact q_cI (by omega)
        have eval : q_fI Q j 6 = val := by unfold q_fI; rw [g7]; exact q_cI (by omega)
        rw [if_neg n0, if_pos k1, ekey, eval]
        have hlen := q_sh_len (R := R) w qw x (by omega)
        intro b hb
        unfold q_shG at hb
        obtain ⟨z, z1, rfl⟩ := List.mem_map.mp hb
        have hz : q_v z := by
          rcases (q_ks_mem _ []).mp z1 with q | ⟨a, a1, a2⟩
          · exact absurd q List.not_mem_nil
          · rw [← a2]; exact (IH a a1 key g8).1
        intro c hc
        refine ⟨q_gr_v hlen hz (fun a ha => (IH a ha val g9).1) c, fun T C hT hC q => ?_⟩
        have hc5 : c < 54 := by
          unfold q_sw at hc
          rw [if_neg (by omega), show 10 + j - 10 = j from by omega, g2, q_cI (n := 5) (by omega)] at hc
          omega
        have eso : q_so Q (10 + j) c = -1 := by
          unfold q_so; rw [if_neg (by omega), show 10 + j - 10 = j from by omega]; exact g5 c hc5
        rw [eso] at q
        exact absurd q.symm (q_m1_ne (by omega))
end
