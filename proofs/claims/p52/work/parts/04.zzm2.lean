theorem am_callV9 {l : Launch} {g : am_Gl} {Y : am_Y} {n0 : Nat} {ad0 : Nat → Nat} {P : am_P} {k z n : Nat} {σ : am_M} {pc : Nat} {lv : List (Nat × Value)} {st : List Value} {Y' : am_Y} {idx nargs : Nat} {b : Nat} {as rest : List Value} {P' : am_P} (d : decode Y.2.1 pc = .ok (.invokevirtual idx, 3)) (cw : am_cv Y Y' idx nargs) (ht : am_yt Y' = false) (hA : AC l g Y' n σ (.ref b :: as) P') (hst : as.reverse ++ .ref b :: rest = st) (hna : as.length = nargs) (hr : am_rc n b Y'.1.cls) (hcat : (rest.map fun v => v.category).sum ≤ 8) (hk : k + am_yc Y' ≤ am_yc Y) (hz : z + am_ys Y' ≤ am_ys Y)
    (kk : ∀ (v : Option Value) (n' : Nat) (σ' : am_M), P' (.inl v) n' σ' → n ≤ n' → AW l g Y n0 ad0 P (k + am_yc Y') (z + am_ys Y') n' σ' (pc + 3) lv (v.toList ++ rest)) : AW l g Y n0 ad0 P k z n σ pc lv st := by
  intro p e s m args below meth c C ad H locs ls hn hx hH hS hl hw
  subst hst
  have hav : ∀ v ∈ (.ref b :: as), am_rl n v := fun v hv => hw.2 v (by rcases List.mem_cons.mp hv with h | h <;> simp [h])
  have hM := hA hav ad
  rw [if_neg (by rw [ht]; decide)] at hM
  have am_recvp := hr g ad σ s H C.2.2.2.2.2.2.2.2.2.1.1 hH
  refine am_after (va_runV (As := as.map (am_tr ad)) (rest := rest.map (am_tr ad)) ⟨C.1, C.2.1, C.2.2.1, C.2.2.2.1, C.2.2.2.2.1⟩ hM (cwV nargs C.2.2.2.2.1 (am_goodV cw) (am_ws_code cw.1.2.1) rfl rfl ⟨rfl, cw.1.1.2.2.2.1, cw.1.1.2.2.2.2, cw.1.2.2.1⟩ ⟨cw.1.2.2.2.1, cw.1.2.2.2.2⟩) ⟨am_blind, am_recvp, am_prest C hH hS _⟩ rfl (by simpa using hna) hl.1 (by simp [am_tr]) (lv_room (by rw [am_sum]; exact hcat)) d ⟨hk, hz⟩) hS (fun v n' ad' σ' H1 locs1 hv hP hn1 hx1 hH1 hS1 => ?_)
  · have hrest : ∀ v ∈ rest, am_rl n v := fun v hv => hw.2 v (by simp [hv])
    rw [am_extst hx1 hrest]
    have e9 : (v.map (am_tr ad')).toList ++ rest.map (am_tr ad') = (v.toList ++ rest).map (am_tr ad') := by cases v <;> simp
    rw [e9]
    rw [am_extlv hx1 hw.1] at hl
    refine kk v n' σ' hP hn1 p e s m args below meth c C ad' H1 locs1 ls (Nat.le_trans hn hn1) (fun i hi => (hx1 i (Nat.lt_of_lt_of_le hi hn)).trans (hx i hi)) hH1 hS1 hl ⟨fun q hq => am_rl_le hn1 (hw.1 q hq), fun u hu => ?_⟩
    rcases List.mem_append.mp hu with hu | hu
    · exact hv u (Option.mem_toList.mp hu)
    · exact am_rl_le hn1 (hrest u hu)
theorem am_callVH9 {l : Launch} {g : am_Gl} {Y : am_Y} {n0 : Nat} {ad0 : Nat → Nat} {P : am_P} {k z n : Nat} {σ : am_M} {pc : Nat} {lv : List (Nat × Value)} {st : List Value} {Y' : am_Y} {idx nargs : Nat} {b : Nat} {as rest : List Value} {P' : am_P} (d : decode Y.2.1 pc = .ok (.invokevirtual idx, 3)) (cw : am_cv Y Y' idx nargs) (ht : am_yt Y' = true) (hA : AC l g Y' n σ (.ref b :: as) P') (hst : as.reverse ++ .ref b :: rest = st) (hna : as.length = nargs) (hr : am_rc n b Y'.1.cls) (hcat : (rest.map fun v => v.category).sum ≤ 8) (hk : k + am_yc Y' ≤ am_yc Y) (hz : z + am_ys Y' ≤ am_ys Y)
    (kx : ∀ (E : String) (n' : Nat) (σ' : am_M), P' (.inr E) n' σ' → n ≤ n' → ∃ hpc : Nat, am_hd Y pc E hpc ∧ ∀ q9 : Nat, AW l g Y n0 ad0 P (k + am_yc Y') (z + am_ys Y') n' σ' hpc lv [.retAddr q9])
    (kk : ∀ (v : Option Value) (n' : Nat) (σ' : am_M), P' (.inl v) n' σ' → n ≤ n' → AW l g Y n0 ad0 P (k + am_yc Y') (z + am_ys Y') n' σ' (pc + 3) lv (v.toList ++ rest)) : AW l g Y n0 ad0 P k z n σ pc lv st := by
  intro p e s m args below meth c C ad H locs ls hn hx hH hS hl hw
  subst hst
  have hav : ∀ v ∈ (.ref b :: as), am_rl n v := fun v hv => hw.2 v (by rcases List.mem_cons.mp hv with h | h <;> simp [h])
  have hM := hA hav ad
  rw [if_pos ht] at hM
  have am_recvp := hr g ad σ s H C.2.2.2.2.2.2.2.2.2.1.1 hH
  have hK := C.2.2.2.2.2.2.2.2.2.1
  refine am_afterX (vx_runV (As := as.map (am_tr ad)) (rest := rest.map (am_tr ad)) ⟨C.1, C.2.1, C.2.2.1, C.2.2.2.1, C.2.2.2.2.1⟩ hM (cwV nargs C.2.2.2.2.1 (am_goodV cw) (am_ws_code cw.1.2.1) rfl rfl ⟨rfl, cw.1.1.2.2.2.1, cw.1.1.2.2.2.2, cw.1.2.2.1⟩ ⟨cw.1.2.2.2.1, cw.1.2.2.2.2⟩) ⟨am_blind, am_recvp, am_prest C hH hS _⟩ rfl (by simpa using hna) hl.1 (by simp [am_tr]) (lv_room (by rw [am_sum]; exact hcat)) d ⟨hk, hz⟩) hS (fun E ce q n' ad' σ' H1 locs1 hP hn1 hx1 hH1 hS1 hce hcv hcl => ?_) (fun v n' ad' σ' H1 locs1 hv hP hn1 hx1 hH1 hS1 => ?_)
  · obtain ⟨hpc, ⟨pre, x, suf, t1, t2, t3, t4, t5, t6, t7⟩, KK⟩ := kx E n' σ' hP hn1
    refine vx_catch C.2.2.2.1 pre x suf (by rw [C.2.2.2.2.2.2.2.2.1, t1]) (fun z hz9 => ?_) t2 t4 (am_word_G C t5) (va_Nw.use (am_N2on _ t6) (hK.2.2.1 _ t6)) hce hcv hcl ?_
    · rcases t7 z hz9 with h | ⟨h1, nm, h2, h3⟩
      · exact Or.inl h
      · exact Or.inr ⟨h1, nm, am_word_G C h2, hK.2.2.2.2.1 _ h3⟩
    · rw [t3]
      rw [am_extlv hx1 hw.1] at hl
      exact KK q p e s m args below meth c C ad' H1 locs1 ls (Nat.le_trans hn hn1) (fun i hi => (hx1 i (Nat.lt_of_lt_of_le hi hn)).trans (hx i hi)) hH1 hS1 hl ⟨fun q hq => am_rl_le hn1 (hw.1 q hq), fun u hu => by
        rcases List.mem_cons.mp hu with h | h
        · rw [h]; intro i hi; cases hi
        · cases h⟩
  · have hrest : ∀ v ∈ rest, am_rl n v := fun v hv => hw.2 v (by simp [hv])
    rw [am_extst hx1 hrest]
    have e9 : (v.map (am_tr ad')).toList ++ rest.map (am_tr ad') = (v.toList ++ rest).map (am_tr ad') := by cases v <;> simp
    rw [e9]
    rw [am_extlv hx1 hw.1] at hl
    refine kk v n' σ' hP hn1 p e s m args below meth c C ad' H1 locs1 ls (Nat.le_trans hn hn1) (fun i hi => (hx1 i (Nat.lt_of_lt_of_le hi hn)).trans (hx i hi)) hH1 hS1 hl ⟨fun q hq => am_rl_le hn1 (hw.1 q hq), fun u hu => ?_⟩
    rcases List.mem_append.mp hu with hu | hu
    · exact hv u (Option.mem_toList.mp hu)
    · exact am_rl_le hn1 (hrest u hu)
theorem ak9_V {l : Launch} {g : am_Gl} {Y : am_Y} {n0 : Nat} {ad0 : Nat → Nat} {P : am_P} {k z n : Nat} {σ : am_M} {pc : Nat} {lv : List (Nat × Value)} {st : List Value} {b : Nat} {Y' : am_Y} {idx nargs : Nat} {as rest : List Value} {x : Int32} {σ' : am_M} (d : decode Y.2.1 pc = .ok (.invokevirtual idx, 3)) (cw : am_cv Y Y' idx nargs) (ht : am_yt Y' = false) (hA : AC l g Y' n σ (.ref b :: as) (am_ri x n σ')) (hst : as.reverse ++ .ref b :: rest = st) (hna : as.length = nargs) (hr : am_rc n b Y'.1.cls) (hcat : (rest.map fun v => v.category).sum ≤ 8) (hk : k + am_yc Y' ≤ am_yc Y) (hz : z + am_ys Y' ≤ am_ys Y) (kk : AW l g Y n0 ad0 P (k + am_yc Y') (z + am_ys Y') n σ' (pc + 3) lv (.int x :: rest)) : AW l g Y n0 ad0 P k z n σ pc lv st := by
  refine am_callV9 d cw ht hA hst hna hr hcat hk hz (fun v n' σ'' hP hn => ?_)
  obtain ⟨e1, e2, e3⟩ := hP
  cases e1
  subst e2
  subst e3
  exact kk
theorem ak9_VX {l : Launch} {g : am_Gl} {Y : am_Y} {n0 : Nat} {ad0 : Nat → Nat} {P : am_P} {k z n : Nat} {σ : am_M} {pc : Nat} {lv : List (Nat × Value)} {st : List Value} {b : Nat} {Y' : am_Y} {idx nargs : Nat} {as rest : List Value} {x : Int32} {σ' : am_M} (d : decode Y.2.1 pc = .ok (.invokevirtual idx, 3)) (cw : am_cv Y Y' idx nargs) (ht : am_yt Y' = true) (hA : AC l g Y' n σ (.ref b :: as) (am_ri x n σ')) (hst : as.reverse ++ .ref b :: rest = st) (hna : as.length = nargs) (hr : am_rc n b Y'.1.cls) (hcat : (rest.map fun v => v.category).sum ≤ 8) (hk : k + am_yc Y' ≤ am_yc Y) (hz : z + am_ys Y' ≤ am_ys Y) (kk : AW l g Y n0 ad0 P (k + am_yc Y') (z + am_ys Y') n σ' (pc + 3) lv (.int x :: rest)) : AW l g Y n0 ad0 P k z n σ pc lv st := by
  refine am_callVH9 d cw ht hA hst hna hr hcat hk hz (fun E n' σ'' hP _ => by cases hP.1) (fun v n' σ'' hP hn => ?_)
  obtain ⟨e1, e2, e3⟩ := hP
  cases e1
  subst e2
  subst e3
  exact kk
theorem ak9_S {l : Launch} {g : am_Gl} {Y : am_Y} {n0 : Nat} {ad0 : Nat → Nat} {P : am_P} {k z n : Nat} {σ : am_M} {pc : Nat} {lv : List (Nat × Value)} {st : List Value} {Y' : am_Y} {idx nargs : Nat} {as rest : List Value} {x : Int32} {σ' : am_M} (d : decode Y.2.1 pc = .ok (.invokestatic idx, 3)) (cw : am_cs Y Y' idx nargs) (ht : am_yt Y' = false) (hA : AC l g Y' n σ as (am_ri x n σ')) (hst : as.reverse ++ rest = st) (hna : as.length = nargs) (hcat : (rest.map fun v => v.category).sum ≤ 8) (hk : k + am_yc Y' ≤ am_yc Y) (hz : z + am_ys Y' ≤ am_ys Y) (kk : AW l g Y n0 ad0 P (k + am_yc Y') (z + am_ys Y') n σ' (pc + 3) lv (.int x :: rest)) : AW l g Y n0 ad0 P k z n σ pc lv st := by
  refine am_callS d cw ht hA hst hna hcat hk hz (fun v n' σ'' hP hn => ?_)
  obtain ⟨e1, e2, e3⟩ := hP
  cases e1
  subst e2
  subst e3
  exact kk
theorem ak9_SX {l : Launch} {g : am_Gl} {Y : am_Y} {n0 : Nat} {ad0 : Nat → Nat} {P : am_P} {k z n : Nat} {σ : am_M} {pc : Nat} {lv : List (Nat × Value)} {st : List Value} {Y' : am_Y} {idx nargs : Nat} {as rest : List Value} {x : Int32} {σ' : am_M} (d : decode Y.2.1 pc = .ok (.invokestatic idx, 3)) (cw : am_sh9 Y Y' idx nargs) (ht : am_yt Y' = true) (hA : AC l g Y' n σ as (am_ri x n σ')) (hst : as.reverse ++ rest = st) (hna : as.length = nargs) (hcat : (rest.map fun v => v.category).sum ≤ 8) (hk : k + am_yc Y' ≤ am_yc Y) (hz : z + am_ys Y' ≤ am_ys Y)
    (kk : AW l g Y n0 ad0 P (k + am_yc Y') (z + am_ys Y') n σ' (pc + 3) lv (.int x :: rest)) : AW l g Y n0 ad0 P k z n σ pc lv st := by
  intro p e s m args below meth c C ad H locs ls hn hx hH hS hl hw
  subst hst
  have hav : ∀ v ∈ as, am_rl n v := fun v hv => hw.2 v (by simp [hv])
  have hM := hA hav ad
  rw [if_pos ht] at hM
  obtain ⟨c1, ⟨hh9, c2⟩, c3, c4, c5, c6, c7⟩ := cw
  have hws : am_wsY Y' = Cond.codeWith Y'.1 Y'.2.1 Y'.2.2.1 Y'.2.2.2.1 hh9 :: am_G := by simp [am_wsY, am_word, c2]
  refine am_afterX (vx_runSX (hh := hh9) (As := as.map (am_tr ad)) (rest := rest.map (am_tr ad)) ⟨C.1, C.2.1, C.2.2.1, C.2.2.2.1, C.2.2.2.2.1⟩ hM (vx_cwSW nargs C.2.2.2.2.1 (am_goodS c1 c6 c7) hws rfl rfl ⟨c1.2.2.2.1, c1.2.2.2.2, c3⟩ ⟨c4, c5⟩) ⟨am_blind, am_prest C hH hS _⟩ rfl (by simpa using hna) hl.1 (by simp) (lv_room (by rw [am_sum]; exact hcat)) d ⟨hk, hz⟩) hS (fun E ce q n' ad' σ' H1 locs1 hP hn1 hx1 hH1 hS1 hce hcv hcl => by cases hP.1) (fun v n' ad' σ' H1 locs1 hv hP hn1 hx1 hH1 hS1 => ?_)
  obtain ⟨e1, e2, e3⟩ := hP
  cases e1
  subst e2
  subst e3
  have hrest : ∀ v ∈ rest, am_rl n' v := fun v hv => hw.2 v (by simp [hv])
  rw [am_extst hx1 hrest]
  rw [am_extlv hx1 hw.1] at hl
  exact kk p e s m args below meth c C ad' H1 locs1 ls hn (fun i hi => (hx1 i (Nat.lt_of_lt_of_le hi hn)).trans (hx i hi)) hH1 hS1 hl ⟨hw.1, fun u hu => by
    rcases List.mem_cons.mp hu with h | h
    · rw [h]; exact am_rl_int
    · exact hrest u h⟩
