noncomputable section
/-- places lo .. hi - 1 of the cell a hold v -/
def pq_blk (s : am_M) (a lo hi : Nat) (v : Int32) : am_M := fun i k => if i = a ∧ lo ≤ k ∧ k < hi then v else s i k
theorem pq_blk_0 {s : am_M} {a lo hi : Nat} {v : Int32} (h : hi ≤ lo) : pq_blk s a lo hi v = s := by
  funext i k; unfold pq_blk; rw [if_neg (by omega)]
theorem pq_blk_s {s : am_M} {a lo hi : Nat} {v : Int32} (h : lo < hi) : pq_blk (am_set s a lo v) a (lo + 1) hi v = pq_blk s a lo hi v := by
  funext i k; unfold pq_blk
  by_cases e : i = a
  · subst e
    by_cases e2 : k = lo
    · subst e2
      rw [if_neg (by omega), if_pos (by omega), am_set_q]
    · rw [am_set_p (Or.inr e2)]
      by_cases e3 : lo ≤ k ∧ k < hi
      · rw [if_pos (by omega), if_pos (by omega)]
      · rw [if_neg (by omega), if_neg (by omega)]
  · rw [if_neg (fun q => e q.1), if_neg (fun q => e q.1), am_set_p (Or.inl e)]
theorem pq_blk_p {s : am_M} {a lo hi i k : Nat} {v : Int32} (h : i ≠ a ∨ k < lo ∨ hi ≤ k) : pq_blk s a lo hi v i k = s i k := by
  unfold pq_blk; rw [if_neg (by omega)]
theorem pq_blk_q {s : am_M} {a lo hi k : Nat} {v : Int32} (h : lo ≤ k) (h2 : k < hi) : pq_blk s a lo hi v a k = v := by
  unfold pq_blk; rw [if_pos ⟨rfl, h, h2⟩]
theorem pu_fr_blk {J : Nat → Prop} {s t : am_M} {a lo hi : Nat} {v : Int32} (hJ : ∀ k, J (pu_own a k)) (h : pu_fr J s t) : pu_fr J s (pq_blk t a lo hi v) := fun i k hik => by
  rw [pq_blk_p (by
    by_cases ha : i = a
    · exact absurd (hJ k) (by rw [← ha]; exact hik)
    · exact Or.inl ha)]
  exact h i k hik
theorem pr_dep_blk {F : Nat → Nat → Prop} {P : am_M → Prop} (d : pr_dep F P) {s : am_M} {a lo hi : Nat} {v : Int32} (hF : ∀ k, lo ≤ k → k < hi → ¬ F a k) (h : P s) : P (pq_blk s a lo hi v) :=
  d s _ (fun i k hik => pq_blk_p (by
    by_cases hi9 : i = a
    · subst hi9
      by_cases h1 : lo ≤ k ∧ k < hi
      · exact absurd hik (hF k h1.1 h1.2)
      · omega
    · exact Or.inl hi9)) h
theorem pq_fill {a N : Nat} {v : Int32} (ha : a < 207) (hs : am_sh a = (1, 0, N)) (hN : N < 20000) : ∀ (d j n : Nat) (s : am_M), j + d = N → d < n → p_JF_fill_5 n s a v (nI j) (nI N) ∧ f_JF_fill_5 n s a v (nI j) (nI N) = pq_blk s a j N v := by
  intro d
  induction d with
  | zero =>
    intro j n s h1 h2
    obtain ⟨n, rfl⟩ : ∃ k, n = k + 1 := ⟨n - 1, by omega⟩
    have c : nI N ≤ nI j := (nI_leI (by omega) (by omega)).mpr (by omega)
    unfold p_JF_fill_5 f_JF_fill_5
    exact ⟨⟨fun _ => trivial, fun q => absurd c q⟩, by rw [if_pos c, pq_blk_0 (by omega)]⟩
  | succ d ih =>
    intro j n s h1 h2
    obtain ⟨n, rfl⟩ : ∃ k, n = k + 1 := ⟨n - 1, by omega⟩
    have c : ¬ nI N ≤ nI j := fun q => by have := (nI_leI (by omega) (by omega)).mp q; omega
    have ih := ih (j + 1) n (am_set s a j v) (by omega) (by omega)
    unfold p_JF_fill_5 f_JF_fill_5
    rw [if_neg c, nI_1, nI_clamp (by omega), hs]
    have hv : vp_in (nI j) N := vp_in_nI (by omega) (by omega)
    exact ⟨⟨fun q => absurd q c, fun _ => ⟨⟨ha, rfl⟩, hv, ih.1⟩⟩, by rw [ih.2, pq_blk_s (by omega)]⟩
theorem pq_fill0 {s : am_M} {a N : Nat} {v : Int32} (ha : a < 207) (hs : am_sh a = (1, 0, N)) (hN : N < 5100) : p_JF_fill s a v ∧ f_JF_fill s a v = pq_blk s a 0 N v := by
  have h := pq_fill ha hs (by omega) (v := v) N 0 am_F s (by omega) (by rw [am_F_eq]; omega)
  rw [nI_0] at h
  unfold p_JF_fill f_JF_fill
  rw [hs]
  exact ⟨⟨⟨ha, rfl⟩, h.1⟩, h.2⟩
/-- how many of d places from j on are filled -/
def pq_cnt (g : Nat → Int32) : Nat → Nat → Int32
  | _, 0 => 0
  | j, d + 1 => (if g j = -1000000 then 0 else 1) + pq_cnt g (j + 1) d
theorem pq_cnt_c {g h : Nat → Int32} : ∀ (d j : Nat), (∀ k, j ≤ k → k < j + d → g k = h k) → pq_cnt g j d = pq_cnt h j d := by
  intro d
  induction d with
  | zero => intro j _; rfl
  | succ d ih =>
    intro j hk
    unfold pq_cnt
    rw [hk j (by omega) (by omega), ih (j + 1) (fun k h1 h2 => hk k (by omega) (by omega))]
theorem pq_clearM : ∀ (d j n : Nat) (s : am_M) (x : Int32), j + d = 6 → d < n → p_MO_empties_4 n s x (nI j) ∧ f_MO_empties_4 n s x (nI j) = (x + pq_cnt (s 231) j d, pq_blk s 231 j 6 (-1000000)) := by
  have e6 : nI 6 = (6 : Int32) := rfl
  intro d
  induction d with
  | zero =>
    intro j n s x h1 h2
    obtain ⟨n, rfl⟩ : ∃ k, n = k + 1 := ⟨n - 1, by omega⟩
    have c : (6 : Int32) ≤ nI j := by rw [← e6]; exact (nI_leI (by omega) (by omega)).mpr (by omega)
    unfold p_MO_empties_4 f_MO_empties_4
    exact ⟨⟨fun _ => trivial, fun q => absurd c q⟩, by rw [if_pos c, pq_blk_0 (by omega)]; unfold pq_cnt; rw [Int32.add_zero]⟩
  | succ d ih =>
    intro j n s x h1 h2
    obtain ⟨n, rfl⟩ : ∃ k, n = k + 1 := ⟨n - 1, by omega⟩
    have c : ¬ (6 : Int32) ≤ nI j := fun q => by rw [← e6] at q; have := (nI_leI (by omega) (by omega)).mp q; omega
    unfold p_MO_empties_4 f_MO_empties_4 p_MO_empties_27 f_MO_empties_27
    rw [if_neg c, nI_1, nI_clamp (by omega)]
    have ih0 := ih (j + 1) n (am_set s 231 j (-1000000)) (x + 0) (by omega) (by omega)
    have ih1 := ih (j + 1) n (am_set s 231 j (-1000000)) (x + 1) (by omega) (by omega)
    have hv : vp_in (nI j) 6 := vp_in_nI (by omega) (by omega)
    refine ⟨⟨fun q => absurd q c, fun _ => ⟨hv, fun _ => ⟨hv, ih0.1⟩, fun _ => ⟨hv, ih1.1⟩⟩⟩, ?_⟩
    have hc : pq_cnt (am_set s 231 j (-1000000) 231) (j + 1) d = pq_cnt (s 231) (j + 1) d := pq_cnt_c d (j + 1) (fun k h1 _ => am_set_p (Or.inr (by omega)))
    by_cases c2 : s 231 j = (-1000000 : Int32)
    · rw [if_pos c2, ih0.2, hc, pq_blk_s (by omega)]
      conv => rhs; unfold pq_cnt
      rw [if_pos c2, Int32.add_assoc]
    · rw [if_neg c2, ih1.2, hc, pq_blk_s (by omega)]
      conv => rhs; unfold pq_cnt
      rw [if_neg c2, Int32.add_assoc]
end
