noncomputable section
-- the start
theorem q_i_a : pu_S0 207 1 = 0 ∧ pu_S0 1 3 = 0 ∧ pu_S0 1 8 = 0 ∧ pu_S0 1 6 = 0 ∧ pu_S0 207 17 = 0 ∧ pu_S0 1 12 = 0 ∧ pu_S0 0 7 = 0 ∧ pu_S0 207 38 = 0 ∧ pu_S0 207 28 = -1 ∧ pu_S0 0 8 = -1 ∧ pu_S0 52 3 = 0 ∧ pu_S0 207 39 = 0 ∧ pu_S0 0 5 = 0 ∧ pu_S0 207 60 = 0 := by decide +kernel
theorem q_i_b : pu_S0 123 0 = pu_S0 207 31 ∧ pu_S0 123 1 = pu_S0 207 32 ∧ pu_S0 123 2 = pu_S0 207 33 ∧ pu_S0 123 3 = pu_S0 207 34 := by decide +kernel
theorem q_i_c : ∀ k, k < 6 → pu_S0 124 k = -1000000 ∧ pu_S0 231 k = -1000000 := by decide +kernel
theorem q_i_d : ∀ t, t < 4 → pu_S0 4 t = 0 ∧ pu_S0 208 t = 0 ∧ pu_S0 9 t = 0 ∧ pu_S0 228 t = 0 ∧ pu_S0 255 t = 0 ∧ pu_S0 (126 + 14 * t) 1 = 0 := by decide +kernel
theorem q_i_e : ∀ k, k < 24 → pu_S0 209 k = -1 ∧ pu_S0 (20 + k) 0 = q_kc (pu_S0 209 k) ∧ pu_S0 218 k = 0 ∧ pu_S0 219 k = 0 := by decide +kernel
theorem q_i_f : ∀ k, k < 24 → ∀ j, j < 11 → 1 ≤ j → pu_S0 (20 + k) j = pu_S0 (q_fld j) k := by decide +kernel
theorem q_i_g : ∀ r, r < 8 → pu_S0 227 r = 0 ∧ ∀ j, j < 6 → pu_S0 (44 + r) j = pu_S0 (222 + j) r := by decide +kernel
theorem q_i_h : ∀ p, p < 120 → pu_S0 10 p = 0 ∧ pu_S0 229 p = 0 := by decide +kernel
theorem q_i_i : ∀ j, j < 6 → pu_S0 182 j = nI (183 + 4 * j) := by decide +kernel
theorem q_i_j : q_ord pu_S0 = [] := by decide +kernel
theorem q_i_k : ∀ j, j < 8 → pu_S0 (67 + 7 * j) 2 = -1 ∧ pu_S0 (67 + 7 * j) 4 = -1 ∧ pu_S0 (67 + 7 * j) 5 = -1 ∧ pu_S0 (67 + 7 * j) 6 = -1 ∧ pu_S0 (67 + 7 * j) 7 = 0 ∧ pu_S0 (67 + 7 * j) 9 = 0 ∧ pu_S0 (67 + 7 * j) 12 = 0 := by decide +kernel
theorem q_i_l : ∀ j, j < 8 → ∀ c, c < 54 → pu_S0 (68 + 7 * j) c = -1 ∧ pu_S0 (69 + 7 * j) c = 0 := by decide +kernel
theorem pu_P_0 {s : am_M} (hs : ∀ a, a < 263 → s a = pu_S0 a) : ∀ i, pu_P i s
  | 1 => by
    obtain ⟨h1, h2, h3, h4⟩ := q_i_b
    show pr_told s
    unfold pr_told
    rw [hs 123 (by omega), hs 207 (by omega)]; exact ⟨h1, h2, h3, h4⟩
  | 2 => by
    obtain ⟨-, -, -, -, -, -, h1, h2, -⟩ := q_i_a
    exact ⟨0, by omega, by rw [hs 0 (by omega), nI_0]; exact h1, by rw [hs 207 (by omega), nI_0]; exact h2⟩
  | 3 => fun k hk => by
    obtain ⟨h1, h2⟩ := q_i_c k hk
    rw [hs 124 (by omega), hs 231 (by omega), h1, h2]; exact ⟨rfl, by decide, by decide⟩
  | 4 => by
    obtain ⟨-, -, -, -, -, -, -, -, -, -, -, -, h1, h2⟩ := q_i_a
    exact ⟨0, by omega, by rw [hs 0 (by omega), nI_0]; exact h1, by rw [hs 207 (by omega), nI_0]; exact h2⟩
  | 0 => trivial
  | _ + 5 => trivial
/-- at the start class and model agree -/
theorem pu_R_0 {s : am_M} (hs : ∀ a, a < 263 → s a = pu_S0 a) : pu_R 0 s := by
  obtain ⟨a1, a2, a3, a4, a5, a6, a7, a8, a9, a10, a11, a12, -, -⟩ := q_i_a
  have c0 : q_c 0 = 0 := by decide
  have nt : q_nt pu_S0 = 0 := by show q_c (pu_S0 207 1) = 0; rw [a1]; exact c0
  have nq : q_nq pu_S0 = 0 := by show q_c (pu_S0 52 3) = 0; rw [a11]; exact c0
  have hw : ∀ t, t < 4 → q_w pu_S0 t = 0 := fun t ht => by show q_c (pu_S0 208 t) = 0; rw [(q_i_d t ht).2.1]; exact c0
  have e0 : pu_S0 207 1 = nI (q_nt pu_S0) := by rw [nt, nI_0]; exact a1
  refine ⟨pu_P_0 hs, fun i => if i = 8 then (fun b => pu_S0 (9 + b)) else pu_S0, fun j => ?_⟩
  match j with
  | 0 => exact trivial
  | 1 =>
    show q_x1 s pu_S0
    refine ⟨⟨?_, fun t ht => ?_, fun k hk => ?_, fun k j hk h1 h2 => ?_⟩, ⟨?_, fun i hi => ?_⟩, ⟨?_, fun a h1 h2 => hs a (by omega)⟩, ⟨e0, by omega⟩, fun t ht => ?_, fun k hk => ?_, fun k hk q => ?_, fun k hk => ?_, fun k hk q => ?_⟩
    · rw [hs 1 (by omega), a1, a2]
    · rw [hs 4 (by omega), (q_i_d t ht).1, (q_i_d t ht).2.1]
    · rw [hs (20 + k) (by omega)]; exact (q_i_e k hk).2.1
    · rw [hs (20 + k) (by omega)]; exact q_i_f k hk j (by omega) h1
    · rw [hs 1 (by omega), q_i_j, a3]; exact nI_0.symm
    · rw [q_i_j] at hi; exact absurd hi (by simp)
    · rw [hs 207 (by omega)]
    · have := hw t ht
      exact ⟨by rw [this, nI_0]; exact (q_i_d t ht).2.1, by omega, fun _ => this⟩
    · have := hw (k / 6) (by omega)
      exact ⟨fun q => by omega, fun _ => (q_i_e k hk).1⟩
    · rw [(q_i_e k hk).1] at q; exact absurd q (by decide)
    · exact ⟨Or.inl (q_i_e k hk).2.2.1, Or.inl (q_i_e k hk).2.2.2⟩
    · rw [(q_i_e k hk).1] at q; exact absurd q (by decide)
  | 2 =>
    show q_x2 s pu_S0
    have c1 : q_c (pu_S0 207 17) = 0 := by rw [a5]; exact c0
    refine ⟨⟨?_, ?_, ?_, by omega⟩, fun r j hr hj => ?_, fun a h1 h2 => hs a (by omega), fun r hr => ⟨fun q => by omega, Or.inl (q_i_g r hr).1, fun _ => (q_i_g r hr).1⟩⟩
    · rw [hs 1 (by omega), a4, a5]
    · rw [hs 207 (by omega)]
    · rw [c1, nI_0]; exact a5
    · rw [hs (44 + r) (by omega)]; exact (q_i_g r hr).2 j hj
  | 3 =>
    show q_x3 s pu_S0 (fun b => pu_S0 (9 + b))
    refine ⟨⟨fun t ht => by rw [hs 9 (by omega)], fun p hp => by rw [hs 10 (by omega)], fun x hx hh => absurd (q_i_h (x / 6) (by omega)).1 hh⟩, ⟨fun t ht => ?_, fun p hp => ?_, fun x hx hh => absurd (q_i_h (x / 6) (by omega)).1 hh⟩, fun t ht => ?_, fun p hp q => absurd (q_i_h p hp).1 q, fun x hx q => absurd (q_i_h (x / 6) (by omega)).1 q, fun p c hp hc q => absurd (q_i_h p hp).1 q, fun p c hp hc q => absurd (q_i_h p hp).1 q⟩
    · rw [hs 228 (by omega), (q_i_d t ht).2.2.2.1]; exact (q_i_d t ht).2.2.1.symm
    · rw [hs 229 (by omega), (q_i_h p hp).2]; exact (if_pos (q_i_h p hp).1).symm
    · have e : pu_S0 (9 + 0) t = 0 := (q_i_d t ht).2.2.1
      have e2 : q_c (pu_S0 (9 + 0) t) = 0 := by rw [e]; exact c0
      refine ⟨?_, ?_, fun _ => e2⟩
      · show pu_S0 (9 + 0) t = nI (q_c (pu_S0 (9 + 0) t))
        rw [e2, nI_0]; exact e
      · show q_c (pu_S0 (9 + 0) t) ≤ 30
        omega
  | 4 =>
    show q_x4 0 s (fun i => if i = 8 then (fun b => pu_S0 (9 + b)) else pu_S0)
    refine ⟨0, 0, by omega, by omega, by omega, ?_, ?_, ?_, ⟨fun j hj => ⟨j, hj, ?_⟩, fun i j hi hj q => ?_⟩, fun j hj => absurd hj (by omega), fun p hp => Or.inl (q_i_h p hp).1, Or.inl ⟨?_, Or.inl ?_⟩⟩
    · rw [hs 0 (by omega), nI_0]; exact a7
    · rw [hs 207 (by omega), nI_0]; exact a8
    · rw [hs 1 (by omega), nI_0]; exact a6
    · rw [hs 182 (by omega)]; exact q_i_i j hj
    · rw [hs 182 (by omega), q_i_i i hi, q_i_i j hj] at q
      have := (nI_eq (by omega) (by omega)).mp q
      omega
    · rw [hs 207 (by omega)]; exact a9
    · rw [hs 0 (by omega)]; exact a10
  | 5 =>
    show q_x5 s pu_S0 pu_S0
    refine ⟨⟨by rw [hs 52 (by omega)], fun a h1 h2 => hs a (by omega)⟩, ⟨by rw [hs 207 (by omega), a11, a12], fun j hj => by omega⟩, ⟨by rw [nq, nI_0]; exact a11, by omega⟩, fun j hj => by omega, fun j h1 h2 => ?_⟩
    obtain ⟨r1, r2, r3, r4, r5, r6, r7⟩ := q_i_k j h2
    exact ⟨r1, r2, r3, r4, r5, r6, r7, fun c hc => q_i_l j h2 c hc⟩
  | 6 =>
    show q_x6 s pu_S0 pu_S0 pu_S0
    have hv : ∀ j, j < 4 → pu_S0 (126 + 14 * j) 1 = 0 := fun j hj => (q_i_d j hj).2.2.2.2.2
    have hv2 : ∀ j, j < 4 → q_c (pu_S0 (126 + 14 * j) 1) = 0 := fun j hj => by rw [hv j hj]; exact c0
    refine ⟨fun a h1 h2 => hs a (by omega), fun j hj => ⟨?_, fun k hk => ?_⟩, fun j hj => ⟨?_, ?_, fun k hk => ?_⟩⟩
    · rw [hs 255 (by omega), hv j hj]; exact (q_i_d j hj).2.2.2.2.1
    · have := hv2 j hj; omega
    · rw [hv2 j hj, nI_0]; exact hv j hj
    · have := hv2 j hj; omega
    · have := hv2 j hj; omega
  | 7 =>
    refine q_x7_z (t := s) (Y := fun i => if i = 8 then (fun b => pu_S0 (9 + b)) else pu_S0) (by rw [hs 0 (by omega)]; exact a7) ⟨?_, fun k hk => ?_, fun j hj => ?_, (by decide +kernel : ∀ k, k < 24 → pu_S0 213 k ≠ -9999999)⟩
    · show q_all pu_S0 pu_S0 (fun b => pu_S0 (9 + b)) (30 * q_nt pu_S0) 0 = []
      rw [show q_nt pu_S0 = 0 from by show q_c (pu_S0 207 1) = 0; rw [a1]; exact c0]; rfl
    · have hk : k ∈ q_ord pu_S0 := hk
      rw [q_i_j] at hk
      simp at hk
    · have hj : j < q_c (pu_S0 207 17) := hj
      rw [a5, c0] at hj
      exact absurd hj (by omega)
  | _ + 8 => exact trivial
end
