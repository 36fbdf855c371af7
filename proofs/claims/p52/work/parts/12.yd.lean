noncomputable section
-- what a reckoned cell holds
theorem q_lim_x {x : Int64} : (if (lg_cmp x (-999999 : Int64)) < 0 then (-1000000 : Int32) else (if (lg_cmp x (999999 : Int64)) ≤ 0 then x.toInt32 else (-1000000 : Int32))) = q_limI x.toInt := by
  have e1 : (-999999 : Int64).toInt = -999999 := by decide
  have e2 : (999999 : Int64).toInt = 999999 := by decide
  unfold q_limI
  rw [Int64.ofInt_toInt]
  simp only [lg_cmp_lt, lg_cmp_le, Int64.lt_iff_toInt_lt, Int64.le_iff_toInt_le, e1, e2]
theorem q_lim_C (s : am_M) (x : Int64) : f_CB_limited s x = q_limI x.toInt := q_lim_x
theorem q_lim_M (s : am_M) (x : Int64) : f_MO_held s x = q_limI x.toInt := q_lim_x
theorem q_lim_v (z : Int) : q_v (q_limI z) := by
  unfold q_limI q_v
  by_cases c1 : z < -999999
  · rw [if_pos c1]; decide
  rw [if_neg c1]
  by_cases c2 : z ≤ 999999
  · rw [if_pos c2, Int64.toInt_toInt32, Int64.toInt_ofInt]
    have h1 : z.bmod (2 ^ 64) = z := Int.bmod_eq_of_le (by omega) (by omega)
    have h2 : z.bmod (2 ^ 32) = z := Int.bmod_eq_of_le (by omega) (by omega)
    have h1' : z.bmod Int64.size = z := h1
    rw [h1', h2]; omega
  · rw [if_neg c2]; decide
theorem q_rkp_0 (A R : am_M) (k : Nat) : q_rkp A R k 0 = R := by
  funext x y; unfold q_rkp; rw [if_neg (by omega)]
theorem q_rkp_1 (A R : am_M) (k j : Nat) : q_rkp A R k j 1 = R 1 := by
  funext y; unfold q_rkp; rw [if_neg (by omega)]
theorem q_rkp_00 (A R : am_M) (k j : Nat) : q_rkp A R k j 0 = R 0 := by
  funext y; unfold q_rkp; rw [if_neg (by omega)]
theorem q_rkp_o {A R : am_M} {k j y : Nat} (h : 6 * (y / 180) + y % 6 ≠ k) : q_rkp A R k j 2 y = R 2 y := by
  unfold q_rkp; rw [if_neg (by omega)]
theorem q_sumf_c {f g : Nat → Int} : ∀ (d j : Nat), (∀ i, j ≤ i → i < j + d → f i = g i) → q_sumf f d j = q_sumf g d j := by
  intro d
  induction d with
  | zero => intro j _; rfl
  | succ d ih =>
    intro j h
    unfold q_sumf
    rw [h j (by omega) (by omega), ih (j + 1) (fun i h1 h2 => h i (by omega) (by omega))]
theorem q_sumf_0 {f : Nat → Int} : ∀ (d j : Nat), (∀ i, j ≤ i → i < j + d → f i = 0) → q_sumf f d j = 0 := by
  intro d
  induction d with
  | zero => intro j _; rfl
  | succ d ih =>
    intro j h
    unfold q_sumf
    rw [h j (by omega) (by omega), ih (j + 1) (fun i h1 h2 => h i (by omega) (by omega))]; rfl
theorem q_sumf_s {f : Nat → Int} : ∀ (d e j : Nat), q_sumf f (d + e) j = q_sumf f d j + q_sumf f e (j + d) := by
  intro d
  induction d with
  | zero => intro e j; rw [Nat.zero_add]; show _ = 0 + _; rw [Int.zero_add]; rfl
  | succ d ih =>
    intro e j
    rw [show d + 1 + e = (d + e) + 1 from by omega]
    show f j + q_sumf f (d + e) (j + 1) = f j + q_sumf f d (j + 1) + _
    rw [ih e (j + 1), show j + 1 + d = j + (d + 1) from by omega]; omega
/-- a reckoned column that doesn't use itself -/
def q_rc (A : am_M) (k : Nat) : Prop := k < 24 ∧ A 209 k = 2 ∧ q_u1 A k ≠ k ∧ q_u2 A k ≠ k
theorem q_val_c {A R R' : am_M} (w : q_wd A) {k r : Nat} (hk : q_rc A k) (hr : r < 30) (h1 : R' 1 = R 1) (h2 : ∀ y, y < 720 → 6 * (y / 180) + y % 6 ≠ k → R' 2 y = R 2 y) : q_val A R' k r = q_val A R k r := by
  obtain ⟨hk24, hk2, hu1, hu2⟩ := hk
  obtain ⟨n1, n2, n3, n4, n5, n6⟩ := q_f_n w hk24 hk2
  have b := q_u_b w hk24 hk2
  have h4 := w.1.2
  unfold q_val
  by_cases c2 : A 214 k = 2
  · rw [if_pos c2, if_pos c2]
    have n3' := n3 (by rw [c2]; decide)
    have htg := (w.2.2.2.1 _ b.1 (n4 (Or.inl c2))).2
    have e1 : q_u1 A k = 6 * (k / 6) + q_c (A 215 k) := by unfold q_u1 q_tb; rw [c2, if_neg (by decide)]
    have e2 : q_u2 A k = 6 * q_tg A (q_u1 A k) + q_c (A 216 k) := by unfold q_u2; rw [c2, if_neg (by decide), if_pos rfl]
    have ea : q_a A R' k r = q_a A R k r := h2 _ (by omega) (by omega)
    rw [ea]
    unfold q_hs
    rw [h1]
    by_cases c : q_in 30 (q_a A R k r) = 1 ∧ R 1 (30 * q_tg A (q_u1 A k) + q_c (q_a A R k r)) ≠ 0
    · rw [if_pos c, if_pos c]
      rcases q_in_c 30 (by omega) (q_a A R k r) with g | ⟨-, r2, hr2, e⟩
      · rw [g] at c; exact absurd c.1 (by decide)
      · have e3 : q_c (q_a A R k r) = r2 := by rw [e]; exact nI_clamp (by omega)
        rw [e3]
        exact h2 _ (by omega) (by omega)
    · rw [if_neg c, if_neg c]
  · rw [if_neg c2, if_neg c2]
    by_cases c3 : A 214 k = 3 ∨ A 214 k = 4
    · rw [if_pos c3, if_pos c3]
      have ht := (n2 c3).2
      have e0 : q_tb A k = q_c (A 217 k) := by unfold q_tb; rw [if_pos c3]
      have e : q_sum A R' k r = q_sum A R k r := by
        unfold q_sum
        refine q_sumf_c 30 0 (fun i _ hi => ?_)
        unfold q_sm
        have e1 : q_u1 A k = 6 * q_tb A k + q_c (A 215 k) := rfl
        rw [h1, h2 (180 * q_tb A k + 6 * i + q_c (A 215 k)) (by omega) (by omega)]
        by_cases c : R 1 (30 * q_tb A k + i) ≠ 0 ∧ R 2 (180 * q_tb A k + 6 * i + q_c (A 215 k)) = nI r
        · rw [if_pos c, if_pos c]
          by_cases c4 : A 214 k = 4
          · rw [if_pos c4, if_pos c4]
          · rw [if_neg c4, if_neg c4]
            have n3' := n3 c4
            have e2 : q_u2 A k = 6 * q_tb A k + q_c (A 216 k) := by unfold q_u2; rw [if_neg c4, if_neg c2]
            rw [h2 (180 * q_tb A k + 6 * i + q_c (A 216 k)) (by omega) (by omega)]
        · rw [if_neg c, if_neg c]
      rw [e]
    · rw [if_neg c3, if_neg c3]
      have n3' := n3 (fun q => c3 (Or.inr q))
      have e0 : q_tb A k = k / 6 := by unfold q_tb; rw [if_neg c3]
      have e1 : q_u1 A k = 6 * (k / 6) + q_c (A 215 k) := by unfold q_u1; rw [e0]
      have e2 : q_u2 A k = 6 * (k / 6) + q_c (A 216 k) := by unfold q_u2; rw [if_neg (fun q => c3 (Or.inr q)), if_neg c2, e0]
      have ea : q_a A R' k r = q_a A R k r := h2 _ (by omega) (by omega)
      have eb : q_b A R' k r = q_b A R k r := h2 _ (by omega) (by omega)
      rw [ea, eb]
theorem q_v_B : q_v (-1000000) := by unfold q_v; decide
theorem q_val_v {A R : am_M} (w : q_wd A) (e : q_we A R) {k r : Nat} (hk24 : k < 24) (hk2 : A 209 k = 2) (_hr : r < 30) : q_v (q_val A R k r) := by
  obtain ⟨n1, n2, n3, n4, n5, n6⟩ := q_f_n w hk24 hk2
  have b := q_u_b w hk24 hk2
  have h4 := w.1.2
  unfold q_val
  by_cases c2 : A 214 k = 2
  · rw [if_pos c2]
    by_cases c : q_hs R (q_tg A (q_u1 A k)) (q_a A R k r)
    · rw [if_pos c]
      have n3' := n3 (by rw [c2]; decide)
      have htg := (w.2.2.2.1 _ b.1 (n4 (Or.inl c2))).2
      obtain ⟨r2, hr2, e2, hh⟩ := q_hs_x c
      rw [e2, show q_c (nI r2) = r2 from nI_clamp (by omega)]
      exact e.2.2 _ (by omega) (by rw [show (180 * q_tg A (q_u1 A k) + 6 * r2 + q_c (A 216 k)) / 6 = 30 * q_tg A (q_u1 A k) + r2 from by omega]; exact hh)
    · rw [if_neg c]; exact q_v_B
  rw [if_neg c2]
  by_cases c3 : A 214 k = 3 ∨ A 214 k = 4
  · rw [if_pos c3]; exact q_lim_v _
  rw [if_neg c3]
  by_cases ca : q_a A R k r = -1000000
  · rw [if_pos ca]; exact q_v_B
  rw [if_neg ca]
  by_cases cb : q_b A R k r = -1000000
  · rw [if_pos cb]; exact q_v_B
  rw [if_neg cb]
  by_cases c0 : A 214 k = 0
  · rw [if_pos c0]; exact q_lim_v _
  · rw [if_neg c0]; exact q_lim_v _
theorem q_we_rk {A R : am_M} (w : q_wd A) (e : q_we A R) {k j : Nat} (hk24 : k < 24) (hk2 : A 209 k = 2) : q_we A (q_rkp A R k j) := by
  obtain ⟨e1, e2, e3⟩ := e
  unfold q_we
  rw [q_rkp_1, q_rkp_00]
  refine ⟨e1, e2, fun x hx hh => ?_⟩
  unfold q_rkp
  by_cases c : 2 = 2 ∧ x < 720 ∧ x / 180 = k / 6 ∧ x % 6 = k % 6 ∧ R 1 (x / 6) ≠ 0 ∧ x / 6 % 30 < j
  · rw [if_pos c]; exact q_val_v w ⟨e1, e2, e3⟩ hk24 hk2 (Nat.mod_lt _ (by omega))
  · rw [if_neg c]; exact e3 x hx hh
theorem q_we_fold {A : am_M} (w : q_wd A) : ∀ (l : List Nat) (R : am_M), (∀ i, i < l.length → l.getD i 0 < 24 ∧ A 209 (l.getD i 0) = 2) → q_we A R → q_we A (l.foldl (q_rk A) R) ∧ (l.foldl (q_rk A) R) 1 = R 1 ∧ (l.foldl (q_rk A) R) 0 = R 0 := by
  intro l
  induction l with
  | nil => intro R _ h; exact ⟨h, rfl, rfl⟩
  | cons k l ih =>
    intro R hl h
    have h0 := hl 0 (by simp)
    have h1 := ih (q_rk A R k) (fun i hi => hl (i + 1) (by rw [List.length_cons]; omega)) (q_we_rk w h h0.1 h0.2)
    rw [List.foldl_cons]
    refine ⟨h1.1, ?_, ?_⟩
    · rw [h1.2.1]; exact q_rkp_1 _ _ _ _
    · rw [h1.2.2]; exact q_rkp_00 _ _ _ _
theorem q_we_reck {A R : am_M} (w : q_wd A) (h : q_we A R) : q_we A (q_reck A R) ∧ q_reck A R 1 = R 1 ∧ q_reck A R 0 = R 0 := q_we_fold w _ _ (fun _ hi => q_ord_lt hi) h
/-- reckoned columns in the order don't use themselves -/
theorem q_lay_rc {A : am_M} (w : q_wd A) : ∀ (r : Nat) (c : Nat → Int32) (i : Nat), i < (q_lay A r c).length → q_rc A ((q_lay A r c).getD i 0) := by
  intro r
  induction r with
  | zero => intro c i hi; exact absurd hi (Nat.not_lt_zero _)
  | succ r ih =>
    intro c i
    unfold q_lay
    by_cases e : q_next A c = 24
    · rw [if_pos e]; intro hi; exact absurd hi (Nat.not_lt_zero _)
    · rw [if_neg e]
      intro hi
      have b := q_next_b (A := A) c
      cases i with
      | zero =>
        show q_rc A (q_next A c)
        have n := b.2 e
        have kn : ∀ u, q_kn A c u → u ≠ q_next A c := fun u hu q => by
          rw [q] at hu
          rcases hu with hu | hu | hu
          · exact e hu
          · exact hu n.1
          · exact hu n.2.1
        exact ⟨by omega, n.1, kn _ n.2.2.1, kn _ n.2.2.2⟩
      | succ i =>
        rw [List.getD_cons_succ]
        rw [List.length_cons] at hi
        exact ih _ i (by omega)
theorem q_ord_rc {A : am_M} (w : q_wd A) {i : Nat} (hi : i < (q_ord A).length) : q_rc A ((q_ord A).getD i 0) := q_lay_rc w _ _ i hi
/-- one more row of the column is put in -/
theorem q_rkp_set {s A R : am_M} {i0 i1 i2 : Nat} {k j : Nat} (hk : k < 24) (hj : j < 30) (h9 : i2 ≠ i0 ∧ i2 ≠ i1) (h : q_cb s i0 i1 i2 (q_rkp A R k j)) : q_cb (am_set s i2 (180 * (k / 6) + 6 * j + k % 6) (q_val A R k j)) i0 i1 i2 (q_rkp A R k (j + 1)) := by
  obtain ⟨c1, c2, c3⟩ := h
  unfold q_cb at *
  rw [q_rkp_1, q_rkp_00] at *
  refine ⟨fun t ht => ?_, fun p hp => ?_, fun y hy hh => ?_⟩
  · rw [am_set_o (fun q => h9.1 q.symm)]; exact c1 t ht
  · rw [am_set_o (fun q => h9.2 q.symm)]; exact c2 p hp
  · by_cases e : y = 180 * (k / 6) + 6 * j + k % 6
    · rw [e, am_set_q]
      unfold q_rkp
      rw [e] at hh
      rw [if_pos ⟨rfl, by omega, by omega, by omega, hh, by omega⟩, show (180 * (k / 6) + 6 * j + k % 6) / 6 % 30 = j from by omega]
    · rw [am_set_p (Or.inr e), c3 y hy hh]
      unfold q_rkp
      by_cases g : 2 = 2 ∧ y < 720 ∧ y / 180 = k / 6 ∧ y % 6 = k % 6 ∧ R 1 (y / 6) ≠ 0 ∧ y / 6 % 30 < j
      · rw [if_pos g, if_pos ⟨g.1, g.2.1, g.2.2.1, g.2.2.2.1, g.2.2.2.2.1, by omega⟩]
      · rw [if_neg g, if_neg (fun q => g ⟨q.1, q.2.1, q.2.2.1, q.2.2.2.1, q.2.2.2.2.1, by omega⟩)]
theorem q_rkp_skip {s A R : am_M} {i0 i1 i2 : Nat} {k j : Nat} (hk : k < 24) (hj : j < 30) (hn : R 1 (30 * (k / 6) + j) = 0) (h : q_cb s i0 i1 i2 (q_rkp A R k j)) : q_cb s i0 i1 i2 (q_rkp A R k (j + 1)) := by
  obtain ⟨c1, c2, c3⟩ := h
  unfold q_cb at *
  rw [q_rkp_1, q_rkp_00] at *
  refine ⟨c1, c2, fun y hy hh => ?_⟩
  rw [c3 y hy hh]
  unfold q_rkp
  by_cases g : 2 = 2 ∧ y < 720 ∧ y / 180 = k / 6 ∧ y % 6 = k % 6 ∧ R 1 (y / 6) ≠ 0 ∧ y / 6 % 30 < j
  · rw [if_pos g, if_pos ⟨g.1, g.2.1, g.2.2.1, g.2.2.2.1, g.2.2.2.2.1, by omega⟩]
  · rw [if_neg g, if_neg (fun q => g ⟨q.1, q.2.1, q.2.2.1, q.2.2.2.1, q.2.2.2.2.1, by
      have : y / 6 ≠ 30 * (k / 6) + j := fun q2 => hh (by rw [q2]; exact hn)
      omega⟩)]
end
