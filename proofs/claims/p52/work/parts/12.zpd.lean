noncomputable section
-- a column that goes, a reckoned column that comes
theorem u_ok {A : am_M} (w : q_wd A) {k : Nat} (hk : k < 24) (h : A 209 k = 2) : q_u1 A k % 6 < q_w A (q_u1 A k / 6) ∧ (q_u2 A k = 24 ∨ q_u2 A k % 6 < q_w A (q_u2 A k / 6)) := by
  have hf := w.2.2.2.2.2 k hk h
  have e1 : ∀ {a : Nat}, a < 6 → q_c (nI a) = a := fun h => nI_clamp (by omega)
  have dv : ∀ {t c : Nat}, q_ok A t c → (6 * t + c) % 6 < q_w A ((6 * t + c) / 6) := fun {t c} q => by
    have b := q_ok_b w q
    rw [show (6 * t + c) % 6 = c from by omega, show (6 * t + c) / 6 = t from by omega]; exact q.2.1
  unfold q_u2 q_u1 q_tb
  rcases hf with ⟨h1, a, b, h2, h3, h4, h5⟩ | ⟨h1, a, b, h2, h3, h4, h5, h6⟩ | ⟨h1, p, a, b, h2, h3, h4, h5, h6, h7, h8⟩ | ⟨h1, p, a, h2, h3, h5, h6, h7⟩
  · have b4 := q_ok_b w h4
    have b5 := q_ok_b w h5
    have n2 : ¬ A 214 k = 2 := by rcases h1 with h1 | h1 <;> rw [h1] <;> decide
    have n3 : ¬ (A 214 k = 3 ∨ A 214 k = 4) := by rcases h1 with h1 | h1 <;> rw [h1] <;> decide
    have n4 : ¬ A 214 k = 4 := fun q => n3 (Or.inr q)
    rw [if_neg n3, if_neg n4, if_neg n2, h2, h3, e1 b4.2, e1 b5.2]
    exact ⟨dv h4, Or.inr (dv h5)⟩
  · have b4 := q_ok_b w h4
    have b6 := q_ok_b w h6
    rw [h1, if_neg (by decide), if_neg (by decide), if_pos rfl, h2, h3, e1 b4.2, e1 b6.2]
    exact ⟨dv h4, Or.inr (dv h6)⟩
  · have b5 := q_ok_b w h5
    have b8 := q_ok_b w h8
    rw [h1, if_pos (Or.inl rfl), if_neg (by decide), if_neg (by decide), h2, h3, h4, e1 b5.2, e1 b8.2, e1 (show p < 6 by omega)]
    exact ⟨dv h5, Or.inr (dv h8)⟩
  · have b5 := q_ok_b w h5
    rw [h1, if_pos (Or.inr rfl), if_pos rfl, h2, h3, e1 b5.2, e1 (show p < 6 by omega)]
    exact ⟨dv h5, Or.inl rfl⟩
theorem dR_o {R : am_M} {T C y : Nat} (h : y / 180 ≠ T ∨ y % 6 ≠ C) : q_dR R T C 30 2 y = R 2 y := by
  unfold q_dR
  rw [if_neg (by omega)]
theorem dp_u {A : am_M} {k0 k : Nat} : q_u1 (q_dp A k0) k = q_u1 A k ∧ q_u2 (q_dp A k0) k = q_u2 A k := by
  have e : ∀ a, a = 212 ∨ (214 ≤ a ∧ a ≤ 217) → q_dp A k0 a = A a := fun a ha => q_dp_o (by omega) (by omega) (by omega)
  have e0 : q_tb (q_dp A k0) k = q_tb A k := by unfold q_tb; rw [e 214 (by omega), e 217 (by omega)]
  have e1 : q_u1 (q_dp A k0) k = q_u1 A k := by unfold q_u1; rw [e0, e 215 (by omega)]
  refine ⟨e1, ?_⟩
  unfold q_u2
  rw [e0, e1, e 214 (by omega), e 216 (by omega), q_dp_tg]
theorem gd_drop {A U R : am_M} {T C : Nat} (w : q_wd A) (wB : q_wd (q_dp A (6 * T + C))) (uw : q_uw U) (hT4 : T < 4) (hC6 : C < 6) (free : ∀ p, p < 24 → ¬ q_ucl A (6 * T + C) p) (fru : ∀ r, r < q_c (U 207 17) → ¬ q_ur U T C r) (h : q_gd A U R) : q_gd (q_dp A (6 * T + C)) U (q_dR R T C 30) := by
  have ho : ∀ a k, k ≠ 6 * T + C → q_dp A (6 * T + C) a k = A a k := fun a k hk => by
    by_cases e9 : a = 209
    · rw [e9, q_dp_9, if_neg hk]
    · by_cases e18 : a = 218
      · rw [e18, q_dp_18, if_neg hk]
      · by_cases e19 : a = 219
        · rw [e19, q_dp_19, if_neg hk]
        · rw [q_dp_o e9 e18 e19]
  refine ⟨brk_iff.mpr (fun p hp hh => ?_), fun k hk p hp ht hh => ?_, dd_8 (q_dp_o (by decide) (by decide) (by decide)) (q_dp_o (by decide) (by decide) (by decide)) h.2.2⟩
  · rw [q_dp_nt] at hp
    rw [q_dR_1] at hh
    obtain ⟨b1, b2⟩ := brk_iff.mp h.1 p hp hh
    have h4 := w.1.2
    have hwp := (w.2.1 (p / 30) (by omega)).2.1
    refine ⟨fun c i hc hi => ?_, fun j hj => ?_⟩
    · rw [q_dp_w] at hc
      by_cases e : 6 * (p / 30) + c = 6 * T + C
      · refine bk_B ?_ (by rw [e, q_dp_18, if_pos rfl])
        have e1 : p / 30 = T := by omega
        have e2 : c = C := by omega
        rw [e1, e2]
        exact if_pos ⟨rfl, by omega, by omega, by omega⟩
      · rw [bk_c (A := A) (R := R) (fun a _ => ho a _ e) q_dR_1 (fun j hj => dR_o (by omega))]
        exact b1 c i hc hi
    · have e := b2 j hj
      have hu := (uw.2 j (by have := uw.1.2; omega)).1 hj
      obtain ⟨⟨t2, x2, y2, t24, x26, y26, u2, u3, u5⟩, -⟩ := hu
      have nf := fru j hj
      unfold q_r1 at e ⊢
      by_cases l : U 227 j = 0 ∧ U 222 j = nI (p / 30)
      · have cl : ∀ x, x < 6 → (U 223 j = nI x ∨ U 225 j = nI x) → q_dR R T C 30 2 (180 * (p / 30) + 6 * (p % 30) + x) = R 2 (180 * (p / 30) + 6 * (p % 30) + x) := fun x hx q => dR_o (by
          by_cases eT : p / 30 = T
          · right
            intro q2
            have q3 : x = C := by omega
            rw [q3] at q
            exact nf ⟨l.1, by rw [l.2, eT], q⟩
          · left; omega)
        rw [u3, u5, show q_c (nI x2) = x2 from nI_clamp (by omega), show q_c (nI y2) = y2 from nI_clamp (by omega)] at e ⊢
        rw [cl x2 x26 (Or.inl u3), cl y2 y26 (Or.inr u5)]
        exact e
      · rw [if_neg (fun q => l ⟨q.1, q.2.1⟩)]
  · obtain ⟨k24, k2⟩ := ord_m wB hk
    have kne : k ≠ 6 * T + C := fun q => by rw [q, q_dp_9, if_pos rfl] at k2; exact absurd k2 (by decide)
    have kA : A 209 k = 2 := by rw [ho 209 k kne] at k2; exact k2
    have kO : k ∈ q_ord A := by
      refine ord_ind (A := q_dp A (6 * T + C)) (P := fun k => k ∈ q_ord A) (fun j j24 j2 a b => ?_) hk
      have jne : j ≠ 6 * T + C := fun q => by rw [q, q_dp_9, if_pos rfl] at j2; exact absurd j2 (by decide)
      have jA : A 209 j = 2 := by rw [ho 209 j jne] at j2; exact j2
      have nf := free j j24
      have n1 : q_u1 A j ≠ 6 * T + C := fun q => nf ⟨jA, Or.inl q⟩
      have n2 : q_u2 A j ≠ 6 * T + C := fun q => nf ⟨jA, Or.inr q⟩
      rw [dp_u.1, ho 209 _ n1] at a
      rw [dp_u.2, ho 209 _ n2] at b
      exact ord_cl j24 jA a b
    have nf := free k k24
    have n1 : q_u1 A k ≠ 6 * T + C := fun q => nf ⟨kA, Or.inl q⟩
    have n2 : q_u2 A k ≠ 6 * T + C := fun q => nf ⟨kA, Or.inr q⟩
    have f : ∀ a, a = 212 ∨ (214 ≤ a ∧ a ≤ 217) → q_dp A (6 * T + C) a = A a := fun a ha => q_dp_o (by omega) (by omega) (by omega)
    rw [q_dR_1] at hh
    rw [q_vA (A := A) (by rw [f 214 (by omega)]) (by rw [f 215 (by omega)]) (by rw [f 216 (by omega)]) (by rw [f 217 (by omega)]) (fun _ => by rw [f 212 (by omega)]), q_val_d w k24 kA (Nat.mod_lt _ (by omega)) (R := R) q_dR_1 (fun y hy q => dR_o (by
      rcases q with q | q
      · rw [← q] at n1; omega
      · rw [← q] at n2; omega)), dR_o (by omega)]
    exact h.2.1 k kO p hp ht hh
/-- a reckoned column more -/
theorem gd_mf {A U R B : am_M} {T : Nat} (w : q_wd A) (wB : q_wd B) (uw : q_uw U) (ht : T < q_nt A) (hw : q_w A T < 6) (h1 : B 207 1 = A 207 1) (h8 : B 208 T = nI (q_w A T + 1)) (h8' : ∀ u, u ≠ T → B 208 u = A 208 u) (ho : ∀ a k, 209 ≤ a → a ≤ 219 → k ≠ 6 * T + q_w A T → B a k = A a k) (hk2 : B 209 (6 * T + q_w A T) = 2) (hn : B 218 (6 * T + q_w A T) = 0) (hs : B 219 (6 * T + q_w A T) = 0) (h13 : B 213 (6 * T + q_w A T) ≠ -9999999) (h : q_gd A U R) : q_gd B U (q_reck B R) := by
  have h4 := w.1.2
  have hA : A 209 (6 * T + q_w A T) = -1 := (w.2.2.1 (6 * T + q_w A T) (by omega)).2 (by rw [show (6 * T + q_w A T) / 6 = T from by omega]; omega)
  have wT : q_w B T = q_w A T + 1 := by
    show q_c (B 208 T) = _
    rw [h8]; exact nI_clamp (by omega)
  have wq : ∀ u, u ≠ T → q_w B u = q_w A u := fun u e => by unfold q_w; rw [h8' u e]
  -- what old columns use is old
  have un : ∀ k, k < 24 → A 209 k = 2 → q_u1 A k ≠ 6 * T + q_w A T ∧ q_u2 A k ≠ 6 * T + q_w A T := fun k k24 kA => by
    obtain ⟨a, b⟩ := u_ok w k24 kA
    refine ⟨fun q => ?_, fun q => ?_⟩
    · rw [q, show (6 * T + q_w A T) % 6 = q_w A T from by omega, show (6 * T + q_w A T) / 6 = T from by omega] at a; omega
    · rcases b with b | b
      · omega
      · rw [q, show (6 * T + q_w A T) % 6 = q_w A T from by omega, show (6 * T + q_w A T) / 6 = T from by omega] at b; omega
  have eu : ∀ k, k < 24 → k ≠ 6 * T + q_w A T → A 209 k = 2 → q_u1 B k = q_u1 A k ∧ q_u2 B k = q_u2 A k ∧ (A 214 k = 2 → B 212 (q_u1 A k) = A 212 (q_u1 A k)) := fun k k24 kne kA => by
    have e4 := ho 214 k (by omega) (by omega) kne
    have e5 := ho 215 k (by omega) (by omega) kne
    have e6 := ho 216 k (by omega) (by omega) kne
    have e7 := ho 217 k (by omega) (by omega) kne
    have e0 : q_tb B k = q_tb A k := by unfold q_tb; rw [e4, e7]
    have e1 : q_u1 B k = q_u1 A k := by unfold q_u1; rw [e0, e5]
    have e12 : B 212 (q_u1 A k) = A 212 (q_u1 A k) := ho 212 _ (by omega) (by omega) (un k k24 kA).1
    refine ⟨e1, ?_, fun _ => e12⟩
    unfold q_u2 q_tg
    rw [e0, e1, e4, e6, e12]
  have hR : ∀ y, y < 720 → 6 * (y / 180) + y % 6 ≠ 6 * T + q_w A T → q_reck B R 2 y = R 2 y := by
    refine fold_id wB _ (fun k hk => ?_) R rfl (fun _ _ _ => rfl)
    by_cases kne : k = 6 * T + q_w A T
    · exact Or.inl kne
    · obtain ⟨k24, kB⟩ := ord_m wB hk
      have kA : A 209 k = 2 := by rw [ho 209 k (by omega) (by omega) kne] at kB; exact kB
      have kO : k ∈ q_ord A := by
        refine ord_ind (A := B) (P := fun k => k ≠ 6 * T + q_w A T → k ∈ q_ord A) (fun j j24 j2 a b jne => ?_) hk kne
        have jA : A 209 j = 2 := by rw [ho 209 j (by omega) (by omega) jne] at j2; exact j2
        obtain ⟨n1, n2⟩ := un j j24 jA
        obtain ⟨v1, v2, -⟩ := eu j j24 jne jA
        rw [v1, ho 209 _ (by omega) (by omega) n1] at a
        rw [v2, ho 209 _ (by omega) (by omega) n2] at b
        refine ord_cl j24 jA ?_ ?_
        · rcases a with q | q | q
          · exact Or.inl q
          · exact Or.inr (Or.inl q)
          · exact Or.inr (Or.inr (q n1))
        · rcases b with q | q | q
          · exact Or.inl q
          · exact Or.inr (Or.inl q)
          · exact Or.inr (Or.inr (q n2))
      obtain ⟨n1, n2⟩ := un k k24 kA
      obtain ⟨v1, v2, v3⟩ := eu k k24 kne kA
      refine Or.inr ⟨k24, kB, by rw [v1]; exact n1, by rw [v2]; exact n2, fun p hp htk hh => ?_⟩
      rw [h.2.1 k kO p hp htk hh]
      exact (q_vA (ho 214 k (by omega) (by omega) kne) (ho 215 k (by omega) (by omega) kne) (ho 216 k (by omega) (by omega) kne) (ho 217 k (by omega) (by omega) kne) v3).symm
  have r1 : q_reck B R 1 = R 1 := fold_1 _ _
  refine ⟨brk_iff.mpr (fun p hp hh => ?_), L_reck wB, rr_c (fun u => by
    by_cases e : u = T
    · rw [e, wT]; omega
    · rw [wq u e]; exact Nat.le_refl _) h.2.2.1, fun j hj => by
    by_cases e : j = 6 * T + q_w A T
    · rw [e]; exact h13
    · rw [ho 213 j (by omega) (by omega) e]; exact h.2.2.2 j hj⟩
  have n1 : q_nt B = q_nt A := by unfold q_nt; rw [h1]
  rw [n1] at hp
  rw [r1] at hh
  obtain ⟨b1, b2⟩ := brk_iff.mp h.1 p hp hh
  have hwp := (w.2.1 (p / 30) (by omega)).2.1
  refine ⟨fun c i hc hi => ?_, fun j hj => ?_⟩
  · have c6 : c < 6 := by
      by_cases eT : p / 30 = T
      · rw [eT, wT] at hc; omega
      · rw [wq _ eT] at hc; omega
    by_cases e : 6 * (p / 30) + c = 6 * T + q_w A T
    · have g9 : B 209 (6 * (p / 30) + c) = 2 := by rw [e]; exact hk2
      have g18 : B 218 (6 * (p / 30) + c) = 0 := by rw [e]; exact hn
      have g19 : B 219 (6 * (p / 30) + c) = 0 := by rw [e]; exact hs
      rcases i with _ | _ | _ | i
      · exact fun q => absurd (g9.symm.trans (of_decide_eq_true q).1) (by decide)
      · exact fun q => (of_decide_eq_true q).1 g18
      · exact fun q => (of_decide_eq_true q).1 g19
      · exact fun q => absurd (g9.symm.trans (of_decide_eq_true q).1) (by decide)
    · have hc2 : c < q_w A (p / 30) := by
        by_cases eT : p / 30 = T
        · rw [eT, wT] at hc
          rw [eT] at e ⊢
          omega
        · rw [wq _ eT] at hc; exact hc
      rw [bk_c (A := A) (R := R) (fun a ha => ho a _ (by omega) (by omega) e) r1 (fun j hj => hR _ (by omega) (by
        rw [show (180 * (p / 30) + 6 * j + c) / 180 = p / 30 from by omega, show (180 * (p / 30) + 6 * j + c) % 6 = c from by omega]; exact e))]
      exact b1 c i hc2 hi
  · have e := b2 j hj
    obtain ⟨⟨t2, x2, y2, t24, x26, y26, u2, u3, u5⟩, -⟩ := (uw.2 j (by have := uw.1.2; omega)).1 hj
    unfold q_r1 at e ⊢
    by_cases l : U 227 j = 0 ∧ U 222 j = nI (p / 30)
    · have rr := h.2.2.1 j hj l.1
      rw [l.2, u3, u5, show q_c (nI x2) = x2 from nI_clamp (by omega), show q_c (nI y2) = y2 from nI_clamp (by omega), show q_c (nI (p / 30)) = p / 30 from nI_clamp (by omega)] at rr
      have cl : ∀ x, x < q_w A (p / 30) → q_reck B R 2 (180 * (p / 30) + 6 * (p % 30) + x) = R 2 (180 * (p / 30) + 6 * (p % 30) + x) := fun x hx => hR _ (by omega) (by
        rw [show (180 * (p / 30) + 6 * (p % 30) + x) / 180 = p / 30 from by omega, show (180 * (p / 30) + 6 * (p % 30) + x) % 6 = x from by omega]
        intro q
        have eT : p / 30 = T := by omega
        rw [eT] at hx
        omega)
      rw [u3, u5, show q_c (nI x2) = x2 from nI_clamp (by omega), show q_c (nI y2) = y2 from nI_clamp (by omega)] at e ⊢
      rw [cl x2 rr.1, cl y2 rr.2]
      exact e
    · rw [if_neg (fun q => l ⟨q.1, q.2.1⟩)]
end
