/-! from the law's entry to behind the making of both objects; written by wip/p52/con9.py -/
noncomputable section
theorem cw9_LAW_4 : am_ci m_LAWr m_CB_init 208 0 := ⟨⟨ok_CB_init, rfl, by decide +kernel, by decide, by decide⟩, aw_0_22, aw_0_23, rfl, rfl⟩
/-- all is made: links stand fast from here on -/
def am_g1 (g : am_Gl) : am_Gl := (g.1, g.2.1, g.2.2.1, true, g.2.2.2.2)
theorem am_sz : ∀ i, i < 207 → (am_isr i 0 = true ∨ (am_sh i).1 = 0) → (am_sh i).2.2 < 70 := by decide +kernel
theorem am_I_lk {i k : Nat} (hr : am_isr i k = true) (hk : k < (am_sh i).2.2) : am_I i k = nI (am_lk i k) := by
  by_cases h0 : (am_sh i).1 = 0
  · have hf : am_fr (am_sh i).2.1 k = true := by simpa [am_isr, h0] using hr
    simp [am_I, h0, hf]
  · have hf : 2 < (am_sh i).2.1 := by simpa [am_isr, h0] using hr
    simp [am_I, h0, hf, hk]
theorem am_rv_flip {g : am_Gl} {i k : Nat} {σ : am_M} (hg : g.2.2.2.1 = false) (hσ : σ i = am_I i) (hr : am_isr i k = true) (ha : (am_sh i).1 = 0 → k < (am_sh i).2.2) : am_rv (am_g1 g) i k (σ i k) = am_rv g i k (σ i k) := by
  unfold am_rv
  rw [hg, show (am_g1 g).2.2.2.1 = true from rfl]
  by_cases hk : k < (am_sh i).2.2
  · have e1 := am_I_lk hr hk
    have e2 := am_lk_207 i k
    have hb : am_lk i k < 2 ^ 31 := Nat.lt_trans e2 (by decide)
    rw [hσ, e1]
    by_cases h9 : i = 182
    · simp [h9, hk, nI_pos hb, nI_clamp hb, e2]
      subst h9
      simp [nI_pos hb, nI_clamp hb, e2]
    · simp [h9, hk, nI_pos hb, nI_clamp hb, e2]
  · have h0 : ¬ (am_sh i).1 = 0 := fun q => hk (ha q)
    have hf : 2 < (am_sh i).2.1 := by simpa [am_isr, h0] using hr
    have e1 : am_I i k = -1 := by simp [am_I, h0, hf, hk]
    have e2 : (-1 : Int32) < 0 := by decide
    rw [hσ, e1]
    simp [hk, e2]
theorem am_e1_flip {g : am_Gl} {ad : Nat → Nat} {i : Nat} {σ : am_M} (hg : g.2.2.2.1 = false) (hσ : σ i = am_I i) : am_e1 (am_g1 g) ad σ i = am_e1 g ad σ i := by
  unfold am_e1
  by_cases h0 : (am_sh i).1 = 0
  · rw [if_pos h0, if_pos h0]
    congr 2
    apply List.map_congr_left
    intro k hk
    have hk := List.mem_range.mp hk
    unfold am_fv
    by_cases hf : am_fr (am_sh i).2.1 k = true
    · rw [if_pos hf, if_pos hf, am_rv_flip hg hσ (by simp [am_isr, h0, hf]) (fun _ => hk)]
    · rw [if_neg hf, if_neg hf]
  · rw [if_neg h0, if_neg h0]
    by_cases h1 : (am_sh i).2.1 < 2
    · simp [h1]; rfl
    · by_cases h2 : (am_sh i).2.1 = 2
      · simp [h2]; rfl
      · have h3 : ∀ j, am_rv (am_g1 g) i j (σ i j) = am_rv g i j (σ i j) := fun j => am_rv_flip hg hσ (by simp [am_isr, h0]; omega) (fun q => absurd q h0)
        simp only [h1, h2, if_false, h3]
        rfl
theorem am_e_flip {g : am_Gl} {ad : Nat → Nat} {i : Nat} {σ : am_M} (hg : g.2.2.2.1 = false) (hi : i < 414) (ho : ∀ a, a < 207 → σ a = am_I a) (hp : ∀ a, a < 207 → σ (a + 207) = am_I a) : am_e (am_g1 g) ad σ i = am_e g ad σ i := by
  unfold am_e
  by_cases h : i < 207
  · rw [if_pos h, if_pos h]; exact am_e1_flip hg (ho i h)
  · rw [if_neg h, if_neg h]; exact am_e1_flip hg (hp (i - 207) (by omega))
theorem am_H_k2 {g : am_Gl} {ad : Nat → Nat} {σ m : am_M} {H : Heap} (hg : g.2.2.2.1 = true) (hm : ∀ a, a < 414 → m a = σ a) (h : am_H g 414 ad σ H) : am_H g 414 ad m H := by
  obtain ⟨h3, h4, -⟩ := h
  have h3 := am_P_iff.mp h3
  refine ⟨am_P_iff.mpr fun i hi => ?_, am_D_iff.mpr (am_D_iff.mp h4), fun hf => by rw [hg] at hf; cases hf⟩
  rw [am_e_k (σ := σ) (hm i hi)]
  exact h3 i hi
/-- the links stand fast; and the memory is another that is the same in the cells that there are -/
theorem am_flip {l : Launch} {g : am_Gl} {ad0 : Nat → Nat} {P1 P : am_P} {k z : Nat} {σ m : am_M} {pc : Nat} {lv : List (Nat × Value)} {st : List Value} (hg : g.2.2.2.1 = false) (ho : ∀ a, a < 207 → σ a = am_I a) (hp : ∀ a, a < 207 → σ (a + 207) = am_I a) (hm : ∀ a, a < 414 → m a = σ a) (hP : ∀ (v : Option Value) (n : Nat) (σ' : am_M), P1 (.inl v) n σ' → (v = none ∨ ∃ x, v = some (.int x)) ∧ P (.inl v) 0 σ') (kk : AW l (am_g1 g) m_LAWr 0 ad0 P1 k z 414 m pc lv st) : AW l g m_LAWr 0 ad0 P k z 414 σ pc lv st := by
  intro p e s m9 args below meth c C ad H locs ls hn hx hH hS hl hw
  have he : am_ws (am_g1 g) 414 ad σ = am_ws g 414 ad σ := by
    unfold am_ws
    apply List.map_congr_left
    intro i hi
    have hi := List.mem_range.mp hi
    exact congrArg (fun e => (ad i, e)) (am_e_flip hg hi ho hp)
  have hH2 : am_H (am_g1 g) 414 ad σ H := ⟨by rw [he]; exact hH.1, by rw [he]; exact hH.2.1, fun h => by cases h⟩
  have K := kk p e s m9 args below meth c C ad H locs ls hn hx (am_H_k2 rfl hm hH2) hS hl hw
  intro T hT X
  obtain ⟨t, a1, b1⟩ := K T hT X
  refine ⟨t, a1, ?_⟩
  have hq : ¬ am_yt m_LAWr = true := by decide
  unfold am_Q at b1 ⊢
  rw [if_neg hq] at b1 ⊢
  obtain ⟨o, r1, r2, ⟨⟨v, n', ad', σ', q1, q2, q3, q4, q5, q6⟩, q7⟩, r4⟩ := b1
  refine ⟨o, r1, r2, ⟨⟨v, 0, ad', σ', q1, fun y hy => ?_, (hP v n' σ' q3).2, Nat.le_refl 0, fun i hi => absurd hi (Nat.not_lt_zero i), ⟨fun k q h => ?_, ⟨fun i j p q h => ?_, fun k q h => ?_⟩, fun _ => ⟨fun i j hi => absurd hi (Nat.not_lt_zero i), fun i j hi => absurd hi (by omega)⟩⟩⟩, q7⟩, r4⟩
  · rcases (hP v n' σ' q3).1 with h | ⟨x, h⟩
    · rw [h] at hy; cases hy
    · rw [h] at hy; cases hy; exact am_rl_int
  · simp [am_ws] at h
  · simp [am_ws] at h
  · simp [am_ws] at h
/-- the second object's cell -/
theorem am_new2 {l : Launch} {g : am_Gl} {Y : am_Y} {n0 : Nat} {ad0 : Nat → Nat} {P : am_P} {k z : Nat} {σ t0 : am_M} {pc : Nat} {lv : List (Nat × Value)} {st : List Value} {idx : Nat} (d : decode Y.2.1 pc = .ok (.new idx, 3)) (hnw : am_nw Y.1.cls idx 9 11) (hg : g.2.2.2.1 = false) (hk : k + 1 ≤ am_yc Y) (hz : z + 11 ≤ am_ys Y) (kk : AW l g Y n0 ad0 P (k + 1) (z + 11) 208 (jn σ (am_put t0 0 (am_z 9))) (pc + 3) lv (.ref 207 :: st)) : AW l g Y n0 ad0 P k z 207 σ pc lv st := by
  intro p e s m args below meth c C ad H locs ls hn hx hH hS hl hw
  obtain ⟨q, tyf, h1, h2, h3, h4, h5, h6, h7, h8⟩ := hnw
  have hA : ∀ x, s.heap.size ≤ x → am_A g x := fun x hx9 => C.2.2.2.2.2.2.2.2.2.2.1 x hx9
  refine va_new (D := g.1) (C := q.1) (T := q.2.1) (N := q.2.2) (fs := (List.range q.2.2).map (fun k => if am_fr 9 k then Value.null else .int 0)) C.1 C.2.1 C.2.2.2.2.1 (fun w hw => List.mem_cons_of_mem _ (h6 w hw)) tyf h7 C.2.2.2.1 (am_word_G C h3) (am_word_G C (by rw [h2]; exact h4)) (am_word_G C h5) C.2.2.2.2.2.2.2.2.2.1.1 hH.1 hH.2.1 hS hA h1 (fun j hj => by rw [h8 j hj]; simp [vp_V, hj]) hk (by rw [h2]; exact hz) d (fun a H1 hP hD hS1 => ?_)
  rw [h2] at hP hD
  have hmw := (hH.2.2 hg).1
  have eo : ∀ i, i < 207 → am_e g (am_up ad 207 a) (jn σ (am_put t0 0 (am_z 9))) i = am_e g ad σ i := fun i hi => by
    rw [am_e_o hi, am_e_1 hi]
    exact am_e1_ad (n := 207) (fun j hj => am_up_lt hj) (Or.inr ⟨hg, hmw, hi⟩)
  have e1 : (Sum.inr (9, (List.range 11).map (fun k => if am_fr 9 k then Value.null else .int 0)) : va_E) = am_e g (am_up ad 207 a) (jn σ (am_put t0 0 (am_z 9))) 207 := by
    rw [show (207 : Nat) = 0 + 207 from rfl, am_e_p, ← am_e_1 (by decide), am_e_obj sh_0]
    congr 2
    apply List.map_congr_left
    intro b _
    rw [am_put_s]
    by_cases hb : am_fr 9 b = true
    · simp [am_fv, hb, am_z, am_rv, hg, va_rf]
    · simp [am_fv, hb, am_z]
  have ew : am_ws g 207 ad σ ++ [(a, (Sum.inr (9, (List.range 11).map (fun k => if am_fr 9 k then Value.null else .int 0)) : va_E))] = am_ws g 208 (am_up ad 207 a) (jn σ (am_put t0 0 (am_z 9))) := by
    unfold am_ws
    rw [show (208 : Nat) = 207 + 1 from rfl, List.range_succ (n := 207), List.map_append]
    congr 1
    · apply List.map_congr_left
      intro i hi
      have hi := List.mem_range.mp hi
      rw [eo i hi, am_up_lt hi]
    · rw [e1]; simp [am_up]
  rw [ew] at hP hD
  have hx1 : ∀ i, i < 207 → am_up ad 207 a i = ad i := fun i hi => am_up_lt hi
  rw [am_extlv hx1 hw.1] at hl
  have hmw2 : am_mw 208 (jn σ (am_put t0 0 (am_z 9))) := by
    refine ⟨fun i j hi hj => ?_, ?_⟩
    · by_cases h207 : i < 207
      · rw [jn_o h207]
        exact (hmw i j h207 hj).imp id (fun h => by omega)
      · exfalso
        have e : am_sh i = (9, 0, 0) := by
          unfold am_sh
          rw [List.getD_eq_getElem?_getD, List.getElem?_eq_none (by rw [show am_L.length = 207 from by decide +kernel]; omega)]
          rfl
        unfold am_isr at hj
        rw [e] at hj
        simp at hj
    · rw [jn_q]
      intro i j hi hj
      have h0 : i = 0 := by omega
      subst h0
      rw [am_isr_obj sh_0] at hj
      rw [am_put_s]
      simp [am_z, hj]
  have K := kk p e s m args below meth c C (am_up ad 207 a) H1 locs ls (Nat.le_succ_of_le hn) (fun i hi => (hx1 i (Nat.lt_of_lt_of_le hi hn)).trans (hx i hi)) ⟨hP, hD, fun _ => hmw2⟩ hS1 hl ⟨fun x hx9 => am_rl_le (Nat.le_succ 207) (hw.1 x hx9), fun v hv => by
    rcases List.mem_cons.mp hv with h | h
    · rw [h]; intro i hi; cases hi; exact Nat.lt_succ_self 207
    · exact am_rl_le (Nat.le_succ 207) (hw.2 v h)⟩
  have e2 : am_up ad 207 a 207 = a := by simp [am_up]
  rw [List.map_cons, ← am_extst hx1 hw.2] at K
  simp only [am_tr, e2] at K
  rw [h2]
  exact K
def am_P1 : am_P := fun o _ _ => o = .inl (some (.int 1))
theorem ct_init2 {l : Launch} {g : am_Gl} (hg : g.2.2.2.1 = false) {s t : am_M} (hz : t 0 = am_z 9) : AC l g m_CB_init 208 (jn s t) [.ref 207] (fun r n' σ' => r = .inl none ∧ n' = 414 ∧ ∃ t', σ' = jn s t' ∧ ∀ a, a < 207 → t' a = am_I a) := by
  refine am_liftP (m := 1) (av1 := [.ref 0]) (P := am_made 0 207 t) (Or.inr ⟨hg, by decide⟩) (am_okv_s rfl) (fun ad => rfl) (fun A => ct_CB_init (g := am_ga g A) hg hz) (fun r n' σ' h => ?_)
  obtain ⟨e1, e2, -, e4⟩ := h
  subst e1
  refine ⟨by omega, (fun v hv => by cases hv), rfl, rfl, σ', rfl, fun a ha => e4 a (Nat.zero_le a) (by omega)⟩
set_option maxHeartbeats 4000000 in
set_option maxRecDepth 100000 in
theorem law_start {l : Launch} {g : am_Gl} (hg : g.2.2.2.1 = false) (hL : g.2.2.2.2.2.1 ≤ 260) {ad0 : Nat → Nat} {σ0 : am_M} : AW l g m_LAWr 0 ad0 am_P1 0 0 0 σ0 0 [(0, .retAddr g.2.2.2.2.1)] [] := by
  have hC0 : Co σ0 σ0 0 0 [] := ⟨fun a h => absurd h (Nat.not_lt_zero a), fun a _ h => absurd h (Nat.not_lt_zero a), fun q hq => by cases hq⟩
  refine cw_new (ci := 9) (N := 11) 1 1 11 d_LAW_0 nw_LH_9 hg sh_0 hC0 (by omega) (fun q hq => by cases hq) rfl rfl rfl (by have := rm_c; show _ ≤ room_1.cells; omega) (by have := rm_s; show _ ≤ room_1.slots; omega) (fun σ hC => ?_)
  refine am_dup d_LAW_3 rfl ?_
  refine cw_init (n1 := 0) (kk9 := 207) 207 207 11935 d_LAW_4 cw9_LAW_4 rfl (ct_CB_init hg (hC.2.2 (0, am_z 9) List.mem_cons_self)) (by omega) (Nat.le_of_ble_eq_true rfl) hC (by omega) (fun q hq => by cases hq) (by omega) (by show _ + 206 = _; omega) (by show _ + 11924 = _; omega) (by have := rm_c; show _ ≤ room_1.cells; omega) (by have := rm_s; show _ ≤ room_1.slots; omega) (fun σ hC => ?_)
  refine am_astore_n (lv2 := [(1, .ref 0), (0, .retAddr g.2.2.2.2.1)]) d_LAW_7 rfl (by decide) rfl ?_
  have ho : ∀ a, a < 207 → σ a = am_I a := fun a ha => hC.2.1 a (Nat.zero_le a) ha (fun q hq => by cases hq)
  refine am_new2 (t0 := fun _ _ => 0) d_LAW_8 nw_LH_9 hg (by have := rm_c; show _ ≤ room_1.cells; omega) (by have := rm_s; show _ ≤ room_1.slots; omega) ?_
  refine am_dup d_LAW_11 rfl ?_
  refine am_callI (b := 207) (as := []) (rest := [.ref 207]) d_LAW_12 cw9_LAW_4 rfl (ct_init2 hg (am_put_s _ _ _)) rfl rfl (Nat.le_of_ble_eq_true rfl) (by have := rm_c; show _ + 206 ≤ room_1.cells; omega) (by have := rm_s; show _ + 11924 ≤ room_1.slots; omega) (fun v n' σ' hP hn => ?_)
  obtain ⟨e1, e2, t', e3, hp⟩ := hP
  cases e1
  subst e2
  subst e3
  refine am_astore_n (lv2 := [(2, .ref 207), (1, .ref 0), (0, .retAddr g.2.2.2.2.1)]) d_LAW_15 rfl (by decide) rfl ?_
  refine am_sub [2, 1, 0] (lv2 := [(0, .retAddr g.2.2.2.2.1), (1, .ref 0), (2, .ref 207)]) rfl ?_
  refine am_widen (k2 := 414) (z2 := 23870) (by show _ + 1 + 206 ≤ 414; omega) (by show _ + 11 + 11924 ≤ 23870; omega) ?_
  obtain ⟨h1, h2⟩ := law_pure (L := g.2.2.2.2.2.1) (xs := g.2.2.2.2.2.2) hL
  refine am_flip (m := jn pu_S0 pu_S0) (P1 := am_oC2 (f_LAW g.2.2.2.2.2.1 g.2.2.2.2.2.2 pu_S0 pu_S0)) hg (fun a ha => by rw [jn_o ha]; exact ho a ha) (fun a ha => by rw [jn_p]; exact hp a ha) (fun a ha => ?_) (fun v n σ' h => ?_) (w9_LAW (g := am_g1 g) rfl (by decide) (by decide) h1)
  · by_cases h207 : a < 207
    · rw [jn_o h207, jn_o h207, ho a h207]; exact lo_at h207
    · obtain ⟨j, rfl⟩ : ∃ j, a = j + 207 := ⟨a - 207, by omega⟩
      rw [jn_p, jn_p, hp j (by omega)]; exact lo_at (by omega)
  · obtain ⟨e1, -, -⟩ := h
    have e1 : v = some (.int (f_LAW g.2.2.2.2.2.1 g.2.2.2.2.2.2 pu_S0 pu_S0).1) := Sum.inl.inj e1
    rw [h2] at e1
    exact ⟨Or.inr ⟨1, e1⟩, by rw [e1]; rfl⟩
end
