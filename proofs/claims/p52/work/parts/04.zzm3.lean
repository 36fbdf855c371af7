theorem am_callSH9 {l : Launch} {g : am_Gl} {Y : am_Y} {n0 : Nat} {ad0 : Nat → Nat} {P : am_P} {k z n : Nat} {σ : am_M} {pc : Nat} {lv : List (Nat × Value)} {st : List Value} {Y' : am_Y} {idx nargs : Nat} {as rest : List Value} {P' : am_P} (d : decode Y.2.1 pc = .ok (.invokestatic idx, 3)) (cw : am_cs Y Y' idx nargs) (ht : am_yt Y' = true) (hA : AC l g Y' n σ as P') (hst : as.reverse ++ rest = st) (hna : as.length = nargs) (hcat : (rest.map fun v => v.category).sum ≤ 8) (hk : k + am_yc Y' ≤ am_yc Y) (hz : z + am_ys Y' ≤ am_ys Y)
    (kx : ∀ (E : String) (n' : Nat) (σ' : am_M), P' (.inr E) n' σ' → n ≤ n' → ∃ hpc : Nat, am_hd Y pc E hpc ∧ ∀ q9 : Nat, AW l g Y n0 ad0 P (k + am_yc Y') (z + am_ys Y') n' σ' hpc lv [.retAddr q9])
    (kk : ∀ (v : Option Value) (n' : Nat) (σ' : am_M), P' (.inl v) n' σ' → n ≤ n' → AW l g Y n0 ad0 P (k + am_yc Y') (z + am_ys Y') n' σ' (pc + 3) lv (v.toList ++ rest)) : AW l g Y n0 ad0 P k z n σ pc lv st := by
  intro p e s m args below meth c C ad H locs ls hn hx hH hS hl hw
  subst hst
  have hav : ∀ v ∈ as, am_rl n v := fun v hv => hw.2 v (by simp [hv])
  have hM := hA hav ad
  rw [if_pos ht] at hM
  have hK := C.2.2.2.2.2.2.2.2.2.1
  refine am_afterX (vx_runS (As := as.map (am_tr ad)) (rest := rest.map (am_tr ad)) ⟨C.1, C.2.1, C.2.2.1, C.2.2.2.1, C.2.2.2.2.1⟩ hM (va_cwS nargs C.2.2.2.2.1 (am_goodS cw.1.1 cw.2.1 cw.2.2) (am_ws_code cw.1.2.1) rfl rfl ⟨cw.1.1.2.2.2.1, cw.1.1.2.2.2.2, cw.1.2.2.1⟩ ⟨cw.1.2.2.2.1, cw.1.2.2.2.2⟩) ⟨am_blind, am_prest C hH hS _⟩ rfl (by simpa using hna) hl.1 (by simp [am_tr]) (lv_room (by rw [am_sum]; exact hcat)) d ⟨hk, hz⟩) hS (fun E ce q n' ad' σ' H1 locs1 hP hn1 hx1 hH1 hS1 hce hcv hcl => ?_) (fun v n' ad' σ' H1 locs1 hv hP hn1 hx1 hH1 hS1 => ?_)
  · obtain ⟨hpc, ⟨pre, x, suf, t1, t2, t3, t4, t5, t6, t7⟩, KK⟩ := kx E n' σ' hP hn1
    refine vx_catch C.2.2.2.1 pre x suf (by rw [C.2.2.2.2.2.2.2.2.1, t1]) (fun z hz9 => ?_) t2 t4 (am_word_G C t5) (va_Nw.use (am_N2on _ t6) (hK.2.2.1 _ t6)) hce hcv hcl ?_
    · rcases t7 z hz9 with h | ⟨h1, nm, h2, h3⟩
      · exact Or.inl h
      · exact Or.inr ⟨h1, nm, am_word_G C h2, hK.2.2.2.2.1 _ h3⟩
    · rw [t3]
      rw [am_extlv hx1 hw.1] at hl
      exact KK q p e s m args below meth c C ad' H1 locs1 ls (Nat.le_trans hn hn1) (fun i hi => (hx1 i (Nat.lt_of_lt_of_le hi hn)).trans (hx i hi)) hH1 hS1 hl ⟨fun q hq => am_rl_le hn1 (hw.1 q hq), fun u hu => by
        rcases List.mem_cons.mp hu with h | h
        · rw [h]; intro i hi; cases hi
        · cases h⟩
  · have hrest : ∀ v ∈ rest, am_rl n v := fun v hv => hw.2 v (by simp [hv])
    rw [am_extst hx1 hrest]
    have e9 : (v.map (am_tr ad')).toList ++ rest.map (am_tr ad') = (v.toList ++ rest).map (am_tr ad') := by cases v <;> simp
    rw [e9]
    rw [am_extlv hx1 hw.1] at hl
    refine kk v n' σ' hP hn1 p e s m args below meth c C ad' H1 locs1 ls (Nat.le_trans hn hn1) (fun i hi => (hx1 i (Nat.lt_of_lt_of_le hi hn)).trans (hx i hi)) hH1 hS1 hl ⟨fun q hq => am_rl_le hn1 (hw.1 q hq), fun u hu => ?_⟩
    rcases List.mem_append.mp hu with hu | hu
    · exact hv u (Option.mem_toList.mp hu)
    · exact am_rl_le hn1 (hrest u hu)
theorem ak_EHS {l : Launch} {g : am_Gl} {Y : am_Y} {n0 : Nat} {ad0 : Nat → Nat} {P : am_P} {k z : Nat} {σ : am_M} {pc : Nat} {lv : List (Nat × Value)} {st : List Value} {Y' : am_Y} {idx nargs : Nat} {as rest : List Value} {q : Nat × Int32 × am_M} (d : decode Y.2.1 pc = .ok (.invokestatic idx, 3)) (cw : am_cs Y Y' idx nargs) (ht : am_yt Y' = true) (hA : AC l g Y' 207 σ as (am_oE q)) (hst : as.reverse ++ rest = st) (hna : as.length = nargs) (hcat : (rest.map fun v => v.category).sum ≤ 8) (hk : k + am_yc Y' ≤ am_yc Y) (hz : z + am_ys Y' ≤ am_ys Y)
    (kx : ¬ q.1 = 0 → ∃ hpc : Nat, am_hd Y pc (am_exn q.1) hpc ∧ ∀ q9 : Nat, AW l g Y n0 ad0 P (k + am_yc Y') (z + am_ys Y') 207 q.2.2 hpc lv [.retAddr q9])
    (kk : q.1 = 0 → AW l g Y n0 ad0 P (k + am_yc Y') (z + am_ys Y') 207 q.2.2 (pc + 3) lv (.int q.2.1 :: rest)) : AW l g Y n0 ad0 P k z 207 σ pc lv st := by
  by_cases h : q.1 = 0
  · rw [am_oE, if_pos h] at hA
    refine am_callSH9 d cw ht hA hst hna hcat hk hz (fun E n' σ' hP _ => by cases hP.1) (fun v n' σ' hP hn => ?_)
    obtain ⟨e1, e2, e3⟩ := hP
    cases e1
    subst e2
    subst e3
    exact kk h
  · rw [am_oE, if_neg h] at hA
    refine am_callSH9 d cw ht hA hst hna hcat hk hz (fun E n' σ' hP _ => ?_) (fun v n' σ' hP hn => by cases hP.1)
    obtain ⟨e1, e2, e3⟩ := hP
    cases e1
    subst e2
    subst e3
    exact kx h

