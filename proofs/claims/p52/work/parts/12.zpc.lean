noncomputable section
-- the order: what is in it
theorem lay_cl {A : am_M} {k : Nat} (hk : k < 24) (h2 : A 209 k = 2) : ∀ (r : Nat) (c : Nat → Int32), q_left A c = r → c k = 0 → (q_u1 A k = 24 ∨ A 209 (q_u1 A k) ≠ 2 ∨ c (q_u1 A k) ≠ 0 ∨ q_u1 A k ∈ q_lay A r c) → (q_u2 A k = 24 ∨ A 209 (q_u2 A k) ≠ 2 ∨ c (q_u2 A k) ≠ 0 ∨ q_u2 A k ∈ q_lay A r c) → k ∈ q_lay A r c := by
  intro r
  induction r with
  | zero =>
    intro c e hc _ _
    exact absurd ⟨h2, hc⟩ (q_left_0 24 0 e k (by omega) (by omega))
  | succ r ih =>
    intro c e hc a b
    by_cases h : q_next A c = 24
    · have kn : ∀ u, (u = 24 ∨ A 209 u ≠ 2 ∨ c u ≠ 0 ∨ u ∈ q_lay A (r + 1) c) → q_kn A c u := fun u q => by
        rcases q with q | q | q | q
        · exact Or.inl q
        · exact Or.inr (Or.inl q)
        · exact Or.inr (Or.inr q)
        · rw [q_lay_0 h] at q; simp at q
      exact absurd (show q_nx A c k from ⟨h2, hc, kn _ a, kn _ b⟩) ((q_fi_le (P := q_nx A c) 24 0).2.2.2 h k (by omega) (by omega))
    · have el : q_lay A (r + 1) c = q_next A c :: q_lay A r (upd c (q_next A c) 1) := by
        conv => lhs; unfold q_lay
        rw [if_neg h]
      have e2 : q_left A (upd c (q_next A c) 1) = r := by have := q_left_s h; omega
      rw [el] at a b ⊢
      by_cases e0 : k = q_next A c
      · rw [e0]; exact List.mem_cons_self
      · refine List.mem_cons_of_mem _ (ih _ e2 (by simp [upd, e0, hc]) ?_ ?_)
        · rcases a with a | a | a | a
          · exact Or.inl a
          · exact Or.inr (Or.inl a)
          · refine Or.inr (Or.inr (Or.inl ?_))
            unfold upd; split
            · decide
            · exact a
          · rcases List.mem_cons.mp a with a | a
            · exact Or.inr (Or.inr (Or.inl (by simp [upd, a])))
            · exact Or.inr (Or.inr (Or.inr a))
        · rcases b with a | a | a | a
          · exact Or.inl a
          · exact Or.inr (Or.inl a)
          · refine Or.inr (Or.inr (Or.inl ?_))
            unfold upd; split
            · decide
            · exact a
          · rcases List.mem_cons.mp a with a | a
            · exact Or.inr (Or.inr (Or.inl (by simp [upd, a])))
            · exact Or.inr (Or.inr (Or.inr a))
theorem ord_cl {A : am_M} {k : Nat} (hk : k < 24) (h2 : A 209 k = 2) (a : q_u1 A k = 24 ∨ A 209 (q_u1 A k) ≠ 2 ∨ q_u1 A k ∈ q_ord A) (b : q_u2 A k = 24 ∨ A 209 (q_u2 A k) ≠ 2 ∨ q_u2 A k ∈ q_ord A) : k ∈ q_ord A :=
  lay_cl hk h2 _ _ rfl rfl (by
    rcases a with a | a | a
    · exact Or.inl a
    · exact Or.inr (Or.inl a)
    · exact Or.inr (Or.inr (Or.inr a))) (by
    rcases b with a | a | a
    · exact Or.inl a
    · exact Or.inr (Or.inl a)
    · exact Or.inr (Or.inr (Or.inr a)))
theorem lay_ind {A : am_M} {P : Nat → Prop} (h : ∀ k, k < 24 → A 209 k = 2 → (q_u1 A k = 24 ∨ A 209 (q_u1 A k) ≠ 2 ∨ P (q_u1 A k)) → (q_u2 A k = 24 ∨ A 209 (q_u2 A k) ≠ 2 ∨ P (q_u2 A k)) → P k) : ∀ (r : Nat) (c : Nat → Int32), (∀ x, c x ≠ 0 → P x) → ∀ k, k ∈ q_lay A r c → P k := by
  intro r
  induction r with
  | zero => intro c _ k hk; simp [q_lay] at hk
  | succ r ih =>
    intro c hc k hk
    by_cases h0 : q_next A c = 24
    · rw [q_lay_0 h0] at hk; simp at hk
    · have el : q_lay A (r + 1) c = q_next A c :: q_lay A r (upd c (q_next A c) 1) := by
        conv => lhs; unfold q_lay
        rw [if_neg h0]
      obtain ⟨nb, nx⟩ := q_next_b (A := A) c
      obtain ⟨x1, x2, x3, x4⟩ := nx h0
      have kn : ∀ u, q_kn A c u → u = 24 ∨ A 209 u ≠ 2 ∨ P u := fun u q => by
        rcases q with q | q | q
        · exact Or.inl q
        · exact Or.inr (Or.inl q)
        · exact Or.inr (Or.inr (hc u q))
      have p0 : P (q_next A c) := h _ (by omega) x1 (kn _ x3) (kn _ x4)
      rw [el] at hk
      rcases List.mem_cons.mp hk with e | hk
      · rw [e]; exact p0
      · refine ih _ (fun x hx => ?_) k hk
        by_cases e : x = q_next A c
        · rw [e]; exact p0
        · exact hc x (by simpa [upd, e] using hx)
theorem ord_ind {A : am_M} {P : Nat → Prop} (h : ∀ k, k < 24 → A 209 k = 2 → (q_u1 A k = 24 ∨ A 209 (q_u1 A k) ≠ 2 ∨ P (q_u1 A k)) → (q_u2 A k = 24 ∨ A 209 (q_u2 A k) ≠ 2 ∨ P (q_u2 A k)) → P k) {k : Nat} (hk : k ∈ q_ord A) : P k := lay_ind h _ _ (fun x hx => absurd rfl hx) k hk
/-- what is reckoned, and one column more -/
theorem fold_id {B R : am_M} (w : q_wd B) {kc : Nat} : ∀ (l : List Nat), (∀ k, k ∈ l → k = kc ∨ (k < 24 ∧ B 209 k = 2 ∧ q_u1 B k ≠ kc ∧ q_u2 B k ≠ kc ∧ ∀ p, p < 120 → p / 30 = k / 6 → R 1 p ≠ 0 → R 2 (6 * p + k % 6) = q_val B R k (p % 30))) → ∀ S : am_M, S 1 = R 1 → (∀ y, y < 720 → 6 * (y / 180) + y % 6 ≠ kc → S 2 y = R 2 y) → ∀ y, y < 720 → 6 * (y / 180) + y % 6 ≠ kc → (l.foldl (q_rk B) S) 2 y = R 2 y := by
  intro l
  induction l with
  | nil => intro _ S _ h; exact h
  | cons k l ih =>
    intro hl S h1 h2
    rw [List.foldl_cons]
    refine ih (fun k' hk' => hl k' (List.mem_cons_of_mem _ hk')) (q_rk B S k) ((q_rkp_1 _ _ _ _).trans h1) (fun y hy hc => ?_)
    rcases hl k List.mem_cons_self with e | ⟨k24, k2, u1, u2, hv⟩
    · rw [show q_rk B S k 2 y = S 2 y from q_rkp_o (fun q => hc (by rw [q]; exact e))]
      exact h2 y hy hc
    · by_cases ec : 6 * (y / 180) + y % 6 = k
      · by_cases hh : R 1 (y / 6) = 0
        · have : q_rk B S k 2 y = S 2 y := by
            unfold q_rk q_rkp
            rw [if_neg (fun q => q.2.2.2.2.1 (by rw [h1]; exact hh))]
          rw [this]; exact h2 y hy hc
        · have ey : y = 6 * (y / 6) + k % 6 := by omega
          have hp : y / 6 / 30 = k / 6 := by omega
          have e1 := rk_s (A := B) (R := S) k24 (p := y / 6) (by omega) hp (by rw [h1]; exact hh)
          rw [← ey] at e1
          have e2 := hv (y / 6) (by omega) hp hh
          rw [← ey] at e2
          rw [e1, e2]
          refine q_val_d w k24 k2 (Nat.mod_lt _ (by omega)) h1 (fun z hz q => h2 z hz ?_)
          rcases q with q | q
          · rw [q]; exact u1
          · rw [q]; exact u2
      · rw [show q_rk B S k 2 y = S 2 y from q_rkp_o ec]
        exact h2 y hy hc
theorem gd_st9 {A U R S : am_M} (w : q_wd A) (h : q_gd A U R) (st : q_st9 A U R S) : q_gd A U S := by
  rcases st with q | ⟨X, q, b⟩
  · rw [q]; exact h
  · rw [q] at b ⊢
    exact gd_reck w h.2.2 b
end
