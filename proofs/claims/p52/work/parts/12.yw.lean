noncomputable section
-- enter, enterInside
/-- where the model's changes lie -/
theorem q_PM_P0 {a b : Nat} (h : q_PM a b) : q_P0 a b := by
  rcases h with ⟨h, h2⟩ | h | h | h | h | h | h
  · exact Or.inr (Or.inr (Or.inr (Or.inr (Or.inr (Or.inr (Or.inl (⟨h, by omega⟩)))))))
  · exact Or.inr (Or.inr (Or.inr (Or.inr (Or.inr (Or.inr (Or.inr (Or.inl (h))))))))
  · exact Or.inr (Or.inr (Or.inr (Or.inr (Or.inr (Or.inr (Or.inr (Or.inr (Or.inl (h)))))))))
  · exact Or.inr (Or.inr (Or.inr (Or.inr (Or.inr (Or.inr (Or.inr (Or.inr (Or.inr (Or.inl (h))))))))))
  · exact Or.inr (Or.inr (Or.inr (Or.inr (Or.inr (Or.inr (Or.inr (Or.inr (Or.inr (Or.inr (Or.inl (h)))))))))))
  · exact Or.inr (Or.inr (Or.inr (Or.inr (Or.inr (Or.inr (Or.inr (Or.inr (Or.inr (Or.inr (Or.inr (Or.inl (h))))))))))))
  · exact Or.inr (Or.inr (Or.inr (Or.inr (Or.inr (Or.inr (Or.inr (Or.inr (Or.inr (Or.inr (Or.inr (Or.inr (Or.inl (h)))))))))))))
/-- what is left behind an entry, refused or not -/
theorem pu_ent {c : Nat} {s t2 t3 : am_M} {w9 : Int32} {Z : Nat → am_M} {B : List q_It} {t m L : Nat} {v : Nat → Int32} (hP : ∀ i, pu_P i s) (hZ : ∀ j, pu_X c j s Z) (hL : s 1 12 = nI L) (hLc : L + 1 ≤ c) (hc1 : c < 100000) (ht : t < q_nt (Z 6)) (hm : m < 30) (em : q_c (Z 8 0 t) = m)
    (o2 : q_out s t2 (fun a b => (9 ≤ a ∧ a ≤ 11) ∨ (13 ≤ a ∧ a ≤ 16) ∨ a = 19 ∨ (a = 1 ∧ b = 12) ∨ a = 123 ∨ (a = 0 ∧ b = 7) ∨ a = 124)) (cb2 : q_cb t2 9 10 11 (q_pick B (q_reck (Z 6) (q_ent (Z 8) t m (nI (L + 1)) v)) (Z 8))) (fd2 : q_fd t2 123 0 B) (u2 : t2 0 7 = if q_good B = 0 then s 0 7 else 0) (l2 : t2 1 12 = nI (L + 1)) (d2 : ∀ k, k < 6 → t2 124 k = if q_good B = 0 then s 124 k else -1000000)
    (o3 : q_out (am_set (am_set t2 262 0 w9) 207 0 0) t3 (fun a b => q_PM a b ∨ a = 231)) (hmd3 : q_md t3 (Z 6)) (mb3 : q_mb t3 (q_pick B (q_reck (Z 6) (q_ent (Z 8) t m (nI (L + 1)) v)) (Z 8))) (fd3 : q_fd t3 207 31 B) (u3 : t3 207 38 = if q_good B = 0 then am_set (am_set t2 262 0 w9) 207 0 0 207 38 else 0) (d3 : ∀ k, k < 6 → t3 231 k = if q_good B = 0 then am_set (am_set t2 262 0 w9) 207 0 0 231 k else -1000000)
    (hwr : B = [] → q_wr (Z 6) (q_reck (Z 6) (q_ent (Z 8) t m (nI (L + 1)) v))) (hwe : q_we (Z 6) (q_ent (Z 8) t m (nI (L + 1)) v)) (hgd : B = [] → q_gd (Z 6) (Z 7) (q_reck (Z 6) (q_ent (Z 8) t m (nI (L + 1)) v))) : pu_R c t3 ∧ t3 207 0 = 0 ∧ t3 262 0 = w9 := by
  obtain ⟨cd, oc, md, wd⟩ : q_x1 s (Z 6) := hZ 1
  obtain ⟨cb, mb, wr⟩ : q_x3 s (Z 6) (Z 8) := hZ 3
  have hre := q_we_reck wd hwe
  have oB : q_out t2 t3 (fun a b => q_PM a b ∨ a = 231 ∨ a = 262 ∨ (a = 207 ∧ b = 0)) := fun a b hab => by
    rw [o3 a b (fun q => hab (by rcases q with q | q; exact Or.inl q; exact Or.inr (Or.inl q))), am_set_p (by omega), am_set_p (by omega)]
  have oA : q_out s t3 (fun a b => (q_PM a b ∨ a = 231 ∨ a = 262 ∨ (a = 207 ∧ b = 0)) ∨ ((9 ≤ a ∧ a ≤ 11) ∨ (13 ≤ a ∧ a ≤ 16) ∨ a = 19 ∨ (a = 1 ∧ b = 12) ∨ a = 123 ∨ (a = 0 ∧ b = 7) ∨ a = 124)) := fun a b hab => (oB a b (fun q => hab (Or.inl q))).trans (o2 a b (fun q => hab (Or.inr q)))
  have hown : ∀ a b, ((q_PM a b ∨ a = 231 ∨ a = 262 ∨ (a = 207 ∧ b = 0)) ∨ ((9 ≤ a ∧ a ≤ 11) ∨ (13 ≤ a ∧ a ≤ 16) ∨ a = 19 ∨ (a = 1 ∧ b = 12) ∨ a = 123 ∨ (a = 0 ∧ b = 7) ∨ a = 124)) → pu_own a b ∈ [0, 1, 2, 3, 6, 8, 9] ∧ (pu_own a b = 9 → a = 1 ∧ b = 12) := fun a b q => by
    rcases q with (q | q | q | ⟨q, q2⟩) | (q | q | q | ⟨q, q2⟩ | q | ⟨q, q2⟩ | q)
    · have := q_P0_own (q_PM_P0 q)
      have e : pu_own a b = 0 ∨ pu_own a b = 1 ∨ pu_own a b = 2 ∨ pu_own a b = 6 ∨ pu_own a b = 8 := by simpa using this
      rcases e with e | e | e | e | e <;> rw [e] <;> exact ⟨by decide, fun z => absurd z (by decide)⟩
    · have e : pu_own a b = 3 := by rw [q]; rfl
      rw [e]; exact ⟨by decide, fun z => absurd z (by decide)⟩
    · have e : pu_own a b = 0 := by rw [q]; rfl
      rw [e]; exact ⟨by decide, fun z => absurd z (by decide)⟩
    · have e : pu_own a b = 0 := by rw [q, q2]; rfl
      rw [e]; exact ⟨by decide, fun z => absurd z (by decide)⟩
    · have e : pu_own a b = 8 := pu_own_8 (by omega)
      rw [e]; exact ⟨by decide, fun z => absurd z (by decide)⟩
    · have e : pu_own a b = 0 := by
        unfold pu_own
        repeat (first | rw [if_neg (by omega)] | rw [if_pos (by omega)])
      rw [e]; exact ⟨by decide, fun z => absurd z (by decide)⟩
    · have e : pu_own a b = 0 := by rw [q]; rfl
      rw [e]; exact ⟨by decide, fun z => absurd z (by decide)⟩
    · have e : pu_own a b = 9 := by rw [q, q2]; rfl
      rw [e]; exact ⟨by decide, fun _ => ⟨q, q2⟩⟩
    · have e : pu_own a b = 1 := by rw [q]; rfl
      rw [e]; exact ⟨by decide, fun z => absurd z (by decide)⟩
    · have e : pu_own a b = 2 := by rw [q, q2]; rfl
      rw [e]; exact ⟨by decide, fun z => absurd z (by decide)⟩
    · have e : pu_own a b = 3 := by rw [q]; rfl
      rw [e]; exact ⟨by decide, fun z => absurd z (by decide)⟩
  have hfr : pu_fr (· ∈ [0, 1, 2, 3, 6, 8, 9]) s t3 := fun a b hab => oA a b (fun q => hab (hown a b q).1)
  have f3 := q_fd_out oB (fun a b q => by unfold q_PM at q; omega) fd2
  have u07 : t3 0 7 = if q_good B = 0 then s 0 7 else 0 := by
    rw [oB _ _ (by unfold q_PM; omega)]; exact u2
  have u38 : t3 207 38 = if q_good B = 0 then s 207 38 else 0 := by
    rw [u3, am_set_p (by omega), am_set_p (by omega), o2 _ _ (by omega)]
  have dr0 : pr_draft s := hP 3
  refine ⟨?_, ?_, ?_⟩
  · refine pu_chg hP hZ hfr (fun a b hn q => ?_) ⟨f3.1.trans fd3.1.symm, f3.2.1.trans fd3.2.1.symm, f3.2.2.1.trans fd3.2.2.1.symm, f3.2.2.2.trans fd3.2.2.2.symm⟩ (fun k hk => ?_) (A' := Z 6) (R' := q_pick B (q_reck (Z 6) (q_ent (Z 8) t m (nI (L + 1)) v)) (Z 8)) ⟨?_, ?_, ?_, wd⟩ ⟨?_, mb3, ?_⟩ hL (by omega) (M := L + 1) (by rw [oB _ _ (by unfold q_PM; omega)]; exact l2) (by omega) hLc (by omega) ?_ q_dq_0 (by
      rcases q_good_c B with ⟨g1, -, g3⟩ | ⟨-, -, g3⟩
      · rw [g3]; exact Or.inr (hgd g1)
      · rw [g3]; exact Or.inl ⟨rfl, rfl⟩)
    · exact oA a b (fun z => hn ((hown a b z).2 q))
    · rw [oB 124 k (by unfold q_PM; omega), d2 k hk, d3 k hk]
      by_cases g : q_good B = 0
      · rw [if_pos g, if_pos g, am_set_p (by omega), am_set_p (by omega), o2 _ _ (by omega)]; exact dr0 k hk
      · rw [if_neg g, if_neg g]; exact ⟨rfl, by decide, by decide⟩
    · exact q_cd_out oB (fun a b q => by unfold q_PM at q; omega) (q_cd_out o2 (fun a b q => by omega) cd)
    · exact q_oc_out oB (fun a b q => by unfold q_PM at q; omega) (q_oc_out o2 (fun a b q => by omega) oc)
    · exact hmd3
    · exact q_cb_out oB (fun a b q => by unfold q_PM at q; omega) cb2
    · rcases q_good_c B with ⟨g1, -, g3⟩ | ⟨-, -, g3⟩
      · rw [g3]; exact hwr g1
      · rw [g3]; exact wr
    · rcases q_good_c B with ⟨g1, g2, g3⟩ | ⟨g1, g2, g3⟩
      · right
        rw [g2, if_neg i10] at u07 u38
        rw [g3]
        refine ⟨u07, u38, Nat.le_refl _, fun u hu => ?_, fun p hp => ?_⟩
        · rw [hre.2.2, q_ent_0]
          by_cases q : u = t
          · rw [if_pos q, q, em, show q_c (nI (m + 1)) = m + 1 from nI_clamp (by omega)]; omega
          · rw [if_neg q]; exact Nat.le_refl _
        · rw [hre.2.1, q_ent_1]
          have ht4 : t < 4 := by have := wd.1.2; omega
          by_cases q : p = 30 * t + m
          · rw [if_pos q]
            right; right
            rw [show p / 30 = t from by omega, em]
            exact ⟨by omega, L + 1, by omega, Nat.le_refl _, rfl⟩
          · rw [if_neg q]; exact Or.inl rfl
      · left
        rw [g2, if_pos rfl] at u07 u38
        exact ⟨u07, u38, rfl, g3 _ _⟩
  · rw [o3 _ _ (by unfold q_PM; omega)]; exact am_set_q
  · rw [o3 _ _ (by unfold q_PM; omega), am_set_p (by omega)]; exact am_set_q
/-- the cells of a row out of the draft -/
def q_dv (A s : am_M) (t : Nat) (x : Int32) (y : Int32) (c : Nat) : Int32 := if q_sto A (6 * t + c) then (if nI c = x then y else s 124 c) else -1000000
theorem q_dv_vs {A s : am_M} {t : Nat} {x y : Int32} (hd : pr_draft s) (hy : q_v y) : q_vs A t (q_dv A s t x y) := fun c hc => by
  unfold q_dv
  by_cases cs : q_sto A (6 * t + c)
  · rw [if_pos cs]
    refine ⟨?_, fun q => absurd cs q⟩
    by_cases c3 : nI c = x
    · rw [if_pos c3]; exact hy
    · rw [if_neg c3]; exact (hd c hc).2
  · rw [if_neg cs]; exact ⟨q_v_B, fun _ => rfl⟩
end
