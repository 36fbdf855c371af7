noncomputable section
-- what is reckoned, reckoned once more, is the same; what a design owes that it is changed to
theorem q_val_d {A R R' : am_M} (w : q_wd A) {k r : Nat} (hk24 : k < 24) (hk2 : A 209 k = 2) (hr : r < 30) (h1 : R' 1 = R 1) (h2 : ∀ y, y < 720 → (6 * (y / 180) + y % 6 = q_u1 A k ∨ 6 * (y / 180) + y % 6 = q_u2 A k) → R' 2 y = R 2 y) : q_val A R' k r = q_val A R k r := by
  obtain ⟨n1, n2, n3, n4, n5, n6⟩ := q_f_n w hk24 hk2
  have b := q_u_b w hk24 hk2
  have h4 := w.1.2
  unfold q_val
  by_cases c2 : A 214 k = 2
  · rw [if_pos c2, if_pos c2]
    have n3' := n3 (by rw [c2]; decide)
    have htg := (w.2.2.2.1 _ b.1 (n4 (Or.inl c2))).2
    have e1 : q_u1 A k = 6 * (k / 6) + q_c (A 215 k) := by unfold q_u1 q_tb; rw [c2, if_neg (by decide)]
    have e2 : q_u2 A k = 6 * q_tg A (q_u1 A k) + q_c (A 216 k) := by unfold q_u2; rw [c2, if_neg (by decide), if_pos rfl]
    have ea : q_a A R' k r = q_a A R k r := h2 _ (by omega) (by omega)
    rw [ea]
    unfold q_hs
    rw [h1]
    by_cases c : q_in 30 (q_a A R k r) = 1 ∧ R 1 (30 * q_tg A (q_u1 A k) + q_c (q_a A R k r)) ≠ 0
    · rw [if_pos c, if_pos c]
      rcases q_in_c 30 (by omega) (q_a A R k r) with g | ⟨-, r2, hr2, e⟩
      · rw [g] at c; exact absurd c.1 (by decide)
      · have e3 : q_c (q_a A R k r) = r2 := by rw [e]; exact nI_clamp (by omega)
        rw [e3]
        exact h2 _ (by omega) (by omega)
    · rw [if_neg c, if_neg c]
  · rw [if_neg c2, if_neg c2]
    by_cases c3 : A 214 k = 3 ∨ A 214 k = 4
    · rw [if_pos c3, if_pos c3]
      have ht := (n2 c3).2
      have e0 : q_tb A k = q_c (A 217 k) := by unfold q_tb; rw [if_pos c3]
      have e : q_sum A R' k r = q_sum A R k r := by
        unfold q_sum
        refine q_sumf_c 30 0 (fun i _ hi => ?_)
        unfold q_sm
        have e1 : q_u1 A k = 6 * q_tb A k + q_c (A 215 k) := rfl
        rw [h1, h2 (180 * q_tb A k + 6 * i + q_c (A 215 k)) (by omega) (by omega)]
        by_cases c : R 1 (30 * q_tb A k + i) ≠ 0 ∧ R 2 (180 * q_tb A k + 6 * i + q_c (A 215 k)) = nI r
        · rw [if_pos c, if_pos c]
          by_cases c4 : A 214 k = 4
          · rw [if_pos c4, if_pos c4]
          · rw [if_neg c4, if_neg c4]
            have n3' := n3 c4
            have e2 : q_u2 A k = 6 * q_tb A k + q_c (A 216 k) := by unfold q_u2; rw [if_neg c4, if_neg c2]
            rw [h2 (180 * q_tb A k + 6 * i + q_c (A 216 k)) (by omega) (by omega)]
        · rw [if_neg c, if_neg c]
      rw [e]
    · rw [if_neg c3, if_neg c3]
      have n3' := n3 (fun q => c3 (Or.inr q))
      have e0 : q_tb A k = k / 6 := by unfold q_tb; rw [if_neg c3]
      have e1 : q_u1 A k = 6 * (k / 6) + q_c (A 215 k) := by unfold q_u1; rw [e0]
      have e2 : q_u2 A k = 6 * (k / 6) + q_c (A 216 k) := by unfold q_u2; rw [if_neg (fun q => c3 (Or.inr q)), if_neg c2, e0]
      have ea : q_a A R' k r = q_a A R k r := h2 _ (by omega) (by omega)
      have eb : q_b A R' k r = q_b A R k r := h2 _ (by omega) (by omega)
      rw [ea, eb]
theorem fold_1 {A : am_M} : ∀ (l : List Nat) (R : am_M), (l.foldl (q_rk A) R) 1 = R 1 := by
  intro l
  induction l with
  | nil => intro R; rfl
  | cons k l ih => intro R; rw [List.foldl_cons, ih]; exact q_rkp_1 _ _ _ _
theorem rk_s {A R : am_M} {k p : Nat} (hk : k < 24) (hp : p < 120) (ht : p / 30 = k / 6) (hh : R 1 p ≠ 0) : q_rk A R k 2 (6 * p + k % 6) = q_val A R k (p % 30) := by
  unfold q_rk q_rkp
  have e : (6 * p + k % 6) / 6 = p := by omega
  rw [e, if_pos ⟨rfl, by omega, by omega, by omega, hh, by omega⟩]
/-- known columns' cells stay; each column that is reckoned has, at the end, what its formula gives at the end -/
theorem lay_L {A : am_M} (w : q_wd A) : ∀ (r : Nat) (c : Nat → Int32) (R : am_M), (∀ y, y < 720 → (c (6 * (y / 180) + y % 6) ≠ 0 ∨ A 209 (6 * (y / 180) + y % 6) ≠ 2) → ((q_lay A r c).foldl (q_rk A) R) 2 y = R 2 y) ∧ (∀ k, k ∈ q_lay A r c → c k = 0 ∧ k < 24 ∧ A 209 k = 2 ∧ ∀ p, p < 120 → p / 30 = k / 6 → R 1 p ≠ 0 → ((q_lay A r c).foldl (q_rk A) R) 2 (6 * p + k % 6) = q_val A ((q_lay A r c).foldl (q_rk A) R) k (p % 30)) := by
  intro r
  induction r with
  | zero => intro c R; exact ⟨fun _ _ _ => rfl, fun k hk => by simp [q_lay] at hk⟩
  | succ r ih =>
    intro c R
    by_cases h : q_next A c = 24
    · rw [q_lay_0 h]
      exact ⟨fun _ _ _ => rfl, fun k hk => by simp at hk⟩
    · have el : q_lay A (r + 1) c = q_next A c :: q_lay A r (upd c (q_next A c) 1) := by
        conv => lhs; unfold q_lay
        rw [if_neg h]
      rw [el, List.foldl_cons]
      obtain ⟨nb, nx⟩ := q_next_b (A := A) c
      obtain ⟨x1, x2, x3, x4⟩ := nx h
      generalize q_next A c = k0 at *
      have k24 : k0 < 24 := by omega
      obtain ⟨i1, i2⟩ := ih (upd c k0 1) (q_rk A R k0)
      have uo : ∀ x, x ≠ k0 → upd c k0 1 x = c x := fun x hx => by simp [upd, hx]
      have us : upd c k0 1 k0 = 1 := by simp [upd]
      have st : ∀ y, y < 720 → (c (6 * (y / 180) + y % 6) ≠ 0 ∨ A 209 (6 * (y / 180) + y % 6) ≠ 2) → ((q_lay A r (upd c k0 1)).foldl (q_rk A) (q_rk A R k0)) 2 y = R 2 y := fun y hy hc => by
        have hn : 6 * (y / 180) + y % 6 ≠ k0 := fun q => by
          rcases hc with q1 | q1
          · exact q1 (by rw [q]; exact x2)
          · exact q1 (by rw [q]; exact x1)
        rw [i1 y hy (by rw [uo _ hn]; exact hc)]
        exact q_rkp_o hn
      refine ⟨st, fun k hk => ?_⟩
      rcases List.mem_cons.mp hk with e | hk
      · subst e
        refine ⟨x2, k24, x1, fun p hp ht hh => ?_⟩
        rw [i1 (6 * p + k % 6) (by omega) (Or.inl (by rw [show 6 * ((6 * p + k % 6) / 180) + (6 * p + k % 6) % 6 = k from by omega, us]; decide)), rk_s k24 hp ht hh]
        refine (q_val_d w k24 x1 (Nat.mod_lt _ (by omega)) (by rw [fold_1]; exact q_rkp_1 _ _ _ _) (fun y hy hu => ?_)).symm
        have kn : ∀ u, u < 24 → q_kn A c u → c u ≠ 0 ∨ A 209 u ≠ 2 := fun u hu q => by
          rcases q with q | q | q
          · omega
          · exact Or.inr q
          · exact Or.inl q
        refine st y hy ?_
        rcases hu with q | q
        · rw [q]; exact kn _ (by omega) x3
        · rw [q]; exact kn _ (by omega) x4
      · obtain ⟨j1, j2, j3, j4⟩ := i2 k hk
        have hn : k ≠ k0 := fun q => by rw [q, us] at j1; exact absurd j1 (by decide)
        rw [uo _ hn] at j1
        exact ⟨j1, j2, j3, fun p hp ht hh => j4 p hp ht (by rw [show q_rk A R k0 1 = R 1 from q_rkp_1 _ _ _ _]; exact hh)⟩
theorem ord_m {A : am_M} (w : q_wd A) {k : Nat} (h : k ∈ q_ord A) : k < 24 ∧ A 209 k = 2 := by
  obtain ⟨-, h2⟩ := lay_L w (q_left A (fun _ => 0)) (fun _ => 0) A
  obtain ⟨-, j2, j3, -⟩ := h2 k h
  exact ⟨j2, j3⟩
/-- what is reckoned holds what its formula gives -/
theorem L_reck {A R : am_M} (w : q_wd A) : q_L A (q_reck A R) := by
  intro k hk p hp ht hh
  obtain ⟨-, h2⟩ := lay_L w (q_left A (fun _ => 0)) (fun _ => 0) R
  obtain ⟨-, j2, j3, j4⟩ := h2 k hk
  exact j4 p hp ht (by rw [show q_reck A R 1 = R 1 from fold_1 _ _] at hh; exact hh)
theorem gd_reck {A U R : am_M} (w : q_wd A) (hr : q_dd A U) (h : q_brk A U (q_reck A R) = []) : q_gd A U (q_reck A R) := ⟨h, L_reck w, hr⟩
theorem rr_c {A B U : am_M} (hB : ∀ t, q_w A t ≤ q_w B t) (h : q_rr A U) : q_rr B U := fun j h1 h2 => ⟨Nat.lt_of_lt_of_le (h j h1 h2).1 (hB _), Nat.lt_of_lt_of_le (h j h1 h2).2 (hB _)⟩
theorem rr_8 {A B U : am_M} (hB : B 208 = A 208) (h : q_rr A U) : q_rr B U := rr_c (fun t => by unfold q_w; rw [hB]; exact Nat.le_refl _) h
theorem dd_8 {A B U : am_M} (hB : B 208 = A 208) (h3 : B 213 = A 213) (h : q_dd A U) : q_dd B U := ⟨rr_8 hB h.1, by unfold q_r3; rw [h3]; exact h.2⟩
/-- reckoning anew what is reckoned changes nothing -/
theorem q_vA {A B R : am_M} {k r : Nat} (h4 : B 214 k = A 214 k) (h5 : B 215 k = A 215 k) (h6 : B 216 k = A 216 k) (h7 : B 217 k = A 217 k) (h2 : A 214 k = 2 → B 212 (q_u1 A k) = A 212 (q_u1 A k)) : q_val B R k r = q_val A R k r := by
  have e0 : q_tb B k = q_tb A k := by unfold q_tb; rw [h4, h7]
  have e1 : q_u1 B k = q_u1 A k := by unfold q_u1; rw [e0, h5]
  have es : q_sm B R k r = q_sm A R k r := by funext i; unfold q_sm; rw [e0, h4, h5, h6]
  unfold q_val q_sum
  rw [es, h4]
  unfold q_a q_b
  rw [h5, h6, e1]
  by_cases c : A 214 k = 2
  · rw [if_pos c, if_pos c]
    unfold q_tg
    rw [h2 c]
  · rw [if_neg c, if_neg c]
theorem gd_L {A B R : am_M} (ho : ∀ k, k ∈ q_ord B → k ∈ q_ord A) (hv : ∀ k, k ∈ q_ord B → B 214 k = A 214 k ∧ B 215 k = A 215 k ∧ B 216 k = A 216 k ∧ B 217 k = A 217 k ∧ (A 214 k = 2 → B 212 (q_u1 A k) = A 212 (q_u1 A k))) (h : q_L A R) : q_L B R := by
  intro k hk p hp ht hh
  obtain ⟨v4, v5, v6, v7, v2⟩ := hv k hk
  rw [h k (ho k hk) p hp ht hh, q_vA v4 v5 v6 v7 v2]
theorem q_all_iff {A U R : am_M} : ∀ (d p : Nat), (∀ i, p ≤ i → i < p + d → q_row1 A U R i = []) → q_all A U R d p = [] := by
  intro d
  induction d with
  | zero => intro p _; rfl
  | succ d ih =>
    intro p h
    show q_row1 A U R p ++ q_all A U R d (p + 1) = []
    rw [h p (by omega) (by omega), ih (p + 1) (fun i h1 h2 => h i (by omega) (by omega))]; rfl
theorem q_bi_iff {A R : am_M} {t r : Nat} : ∀ (d i : Nat), (∀ j, i ≤ j → j < i + d → q_bk A R t r (j / 4) (j % 4) ≠ true) → q_bi A R t r d i = [] := by
  intro d
  induction d with
  | zero => intro i _; rfl
  | succ d ih =>
    intro i h
    show q_b1 A R t r i ++ q_bi A R t r d (i + 1) = []
    rw [ih (i + 1) (fun j h1 h2 => h j (by omega) (by omega))]
    unfold q_b1
    rw [if_neg (h i (by omega) (by omega))]; rfl
theorem q_br_iff {U R : am_M} {t r : Nat} : ∀ (d i : Nat), (∀ j, i ≤ j → j < i + d → q_r1 U R t r j = []) → q_br U R t r d i = [] := by
  intro d
  induction d with
  | zero => intro i _; rfl
  | succ d ih =>
    intro i h
    show q_r1 U R t r i ++ q_br U R t r d (i + 1) = []
    rw [ih (i + 1) (fun j h1 h2 => h j (by omega) (by omega)), h i (by omega) (by omega)]; rfl
theorem q_br_nil {U R : am_M} {t r : Nat} : ∀ (d i : Nat), q_br U R t r d i = [] → ∀ j, i ≤ j → j < i + d → q_r1 U R t r j = [] := by
  intro d
  induction d with
  | zero => intro i _ j h1 h2; omega
  | succ d ih =>
    intro i h j h1 h2
    have h := List.append_eq_nil_iff.mp (show q_r1 U R t r i ++ q_br U R t r d (i + 1) = [] from h)
    by_cases e : j = i
    · rw [e]; exact h.1
    · exact ih (i + 1) h.2 j (by omega) (by omega)
/-- nothing is broken: cell for cell, rule for rule -/
theorem brk_iff {A U R : am_M} : q_brk A U R = [] ↔ ∀ p, p < 30 * q_nt A → R 1 p ≠ 0 → (∀ c i, c < q_w A (p / 30) → i < 4 → q_bk A R (p / 30) (p % 30) c i ≠ true) ∧ (∀ j, j < q_c (U 207 17) → q_r1 U R (p / 30) (p % 30) j = []) := by
  constructor
  · intro h p hp hh
    have h1 := q_all_nil _ _ h p (by omega) (by omega)
    unfold q_row1 at h1
    rw [if_neg hh] at h1
    obtain ⟨h2, h3⟩ := List.append_eq_nil_iff.mp h1
    refine ⟨fun c i hc hi => ?_, fun j hj => q_br_nil _ _ h3 j (by omega) (by omega)⟩
    have h4 := q_bi_nil _ _ h2 (4 * c + i) (by omega) (by omega)
    rw [show (4 * c + i) / 4 = c from by omega, show (4 * c + i) % 4 = i from by omega] at h4
    exact h4
  · intro h
    refine q_all_iff _ _ (fun p _ hp => ?_)
    unfold q_row1
    by_cases hh : R 1 p = 0
    · rw [if_pos hh]
    · rw [if_neg hh]
      obtain ⟨h1, h2⟩ := h p (by omega) hh
      unfold q_row
      rw [q_bi_iff _ _ (fun j _ hj => h1 (j / 4) (j % 4) (by omega) (by omega)), q_br_iff _ _ (fun j _ hj => h2 j (by omega))]; rfl
end
