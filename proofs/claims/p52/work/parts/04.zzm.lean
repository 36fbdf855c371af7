/-! rows in any world; contracts of one object in the world of two; written by wip/p52/rows9.py -/
theorem am_ior {l : Launch} {g : am_Gl} {Y : am_Y} {n0 : Nat} {ad0 : Nat → Nat} {P : am_P} {k z n : Nat} {σ : am_M} {pc : Nat} {lv : List (Nat × Value)} {st : List Value} {x y : Int32} (d : decode Y.2.1 pc = .ok (.ior, 1)) (kk : AW l g Y n0 ad0 P k z n σ (pc + 1) lv (.int (x ||| y) :: st)) : AW l g Y n0 ad0 P k z n σ pc lv (.int y :: .int x :: st) := by
  intro p e s m args below meth c C ad H locs ls hn hx hH hS hl hw
  exact lv_ior C.1 C.2.1 d (kk p e s m args below meth c C ad H locs ls hn hx hH hS hl (am_wf_int (fun _ => by intro h; cases h) (am_wf_tl (am_wf_tl hw))))
theorem am_ishl {l : Launch} {g : am_Gl} {Y : am_Y} {n0 : Nat} {ad0 : Nat → Nat} {P : am_P} {k z n : Nat} {σ : am_M} {pc : Nat} {lv : List (Nat × Value)} {st : List Value} {x y : Int32} (d : decode Y.2.1 pc = .ok (.ishl, 1)) (kk : AW l g Y n0 ad0 P k z n σ (pc + 1) lv (.int (x <<< (y &&& 31)) :: st)) : AW l g Y n0 ad0 P k z n σ pc lv (.int y :: .int x :: st) := by
  intro p e s m args below meth c C ad H locs ls hn hx hH hS hl hw
  exact lv_ishl C.1 C.2.1 d (kk p e s m args below meth c C ad H locs ls hn hx hH hS hl (am_wf_int (fun _ => by intro h; cases h) (am_wf_tl (am_wf_tl hw))))
theorem am_ishr {l : Launch} {g : am_Gl} {Y : am_Y} {n0 : Nat} {ad0 : Nat → Nat} {P : am_P} {k z n : Nat} {σ : am_M} {pc : Nat} {lv : List (Nat × Value)} {st : List Value} {x y : Int32} (d : decode Y.2.1 pc = .ok (.ishr, 1)) (kk : AW l g Y n0 ad0 P k z n σ (pc + 1) lv (.int (x >>> (y &&& 31)) :: st)) : AW l g Y n0 ad0 P k z n σ pc lv (.int y :: .int x :: st) := by
  intro p e s m args below meth c C ad H locs ls hn hx hH hS hl hw
  exact lv_ishr C.1 C.2.1 d (kk p e s m args below meth c C ad H locs ls hn hx hH hS hl (am_wf_int (fun _ => by intro h; cases h) (am_wf_tl (am_wf_tl hw))))
theorem am_ineg {l : Launch} {g : am_Gl} {Y : am_Y} {n0 : Nat} {ad0 : Nat → Nat} {P : am_P} {k z n : Nat} {σ : am_M} {pc : Nat} {lv : List (Nat × Value)} {st : List Value} {x : Int32} (d : decode Y.2.1 pc = .ok (.ineg, 1)) (kk : AW l g Y n0 ad0 P k z n σ (pc + 1) lv (.int (-x) :: st)) : AW l g Y n0 ad0 P k z n σ pc lv (.int x :: st) := by
  intro p e s m args below meth c C ad H locs ls hn hx hH hS hl hw
  exact lv_ineg C.1 C.2.1 d (kk p e s m args below meth c C ad H locs ls hn hx hH hS hl (am_wf_int (fun _ => by intro h; cases h) (am_wf_tl hw)))

def am_okv (n : Nat) (av : List Value) : Bool := av.all (fun v => match v with
  | .ref i => decide (i < n)
  | _ => true)
theorem am_okv_s {n : Nat} {av : List Value} (h : am_okv n av = true) : ∀ v ∈ av, am_rl n v := by
  intro v hv i hi
  have := List.all_eq_true.mp h v hv
  rw [hi] at this
  exact of_decide_eq_true this
-- the receiver
def am_rc (n b : Nat) (C : String) : Prop := ∀ (g : am_Gl) (ad : Nat → Nat) (σ : am_M) (s : State) (H : Heap), va_K g.1 am_cl (am_tys g) s → am_H g n ad σ H → ∃ cell : Cell, H[ad b]? = some cell ∧ cell.vm.isStatics = false ∧ s.vm.findClass C = some cell.cls
theorem rc_0 : am_rc 207 0 "ClubBase" := fun g ad σ s H hK hH => am_recv (q := (R_9, T_9, 11)) hK hH (by decide) sh_0 rfl
theorem rc_1 : am_rc 414 0 "ClubBase" := fun g ad σ s H hK hH => am_recv (q := (R_9, T_9, 11)) hK hH (by decide) sh_0 rfl
theorem rc_2 : am_rc 414 207 "ClubBase" := fun g ad σ s H hK hH => va_recv (r := (R_9, T_9, 11)) hK hH.1 (k := 207) (by rfl) (show (am_ws g 414 ad σ)[207]? = some (ad 207, _) by
  rw [am_ws_get (by decide)]
  have e : am_e g ad σ 207 = am_e g (fun j => ad (j + 207)) (fun j => σ (j + 207)) 0 := by
    unfold am_e
    rw [if_neg (by decide), if_pos (by decide)]
  rw [e, am_e_obj sh_0])
-- calls that return an int
def am_ri (x : Int32) (n : Nat) (σ : am_M) : am_P := am_ret (some (.int x)) n σ

theorem am_callV9 {l : Launch} {g : am_Gl} {Y : am_Y} {n0 : Nat} {ad0 : Nat → Nat} {P : am_P} {k z n : Nat} {σ : am_M} {pc : Nat} {lv : List (Nat × Value)} {st : List Value} {Y' : am_Y} {idx nargs : Nat} {b : Nat} {as rest : List Value} {P' : am_P} (d : decode Y.2.1 pc = .ok (.invokevirtual idx, 3)) (cw : am_cv Y Y' idx nargs) (ht : am_yt Y' = false) (hA : AC l g Y' n σ (.ref b :: as) P') (hst : as.reverse ++ .ref b :: rest = st) (hna : as.length = nargs) (hr : am_rc n b Y'.1.cls) (hcat : (rest.map fun v => v.category).sum ≤ 8) (hk : k + am_yc Y' ≤ am_yc Y) (hz : z + am_ys Y' ≤ am_ys Y)
    (kk : ∀ (v : Option Value) (n' : Nat) (σ' : am_M), P' (.inl v) n' σ' → n ≤ n' → AW l g Y n0 ad0 P (k + am_yc Y') (z + am_ys Y') n' σ' (pc + 3) lv (v.toList ++ rest)) : AW l g Y n0 ad0 P k z n σ pc lv st := by
  intro p e s m args below meth c C ad H locs ls hn hx hH hS hl hw
  subst hst
  have hav : ∀ v ∈ (.ref b :: as), am_rl n v := fun v hv => hw.2 v (by rcases List.mem_cons.mp hv with h | h <;> simp [h])
  have hM := hA hav ad
  rw [if_neg (by rw [ht]; decide)] at hM
  have am_recvp := hr g ad σ s H C.2.2.2.2.2.2.2.2.2.1.1 hH
  refine am_after (va_runV (As := as.map (am_tr ad)) (rest := rest.map (am_tr ad)) ⟨C.1, C.2.1, C.2.2.1, C.2.2.2.1, C.2.2.2.2.1⟩ hM (cwV nargs C.2.2.2.2.1 (am_goodV cw) (am_ws_code cw.1.2.1) rfl rfl ⟨rfl, cw.1.1.2.2.2.1, cw.1.1.2.2.2.2, cw.1.2.2.1⟩ ⟨cw.1.2.2.2.1, cw.1.2.2.2.2⟩) ⟨am_blind, am_recvp, am_prest C hH hS _⟩ rfl (by simpa using hna) hl.1 (by simp [am_tr]) (lv_room (by rw [am_sum]; exact hcat)) d ⟨hk, hz⟩) hS (fun v n' ad' σ' H1 locs1 hv hP hn1 hx1 hH1 hS1 => ?_)
  · have hrest : ∀ v ∈ rest, am_rl n v := fun v hv => hw.2 v (by simp [hv])
    rw [am_extst hx1 hrest]
    have e9 : (v.map (am_tr ad')).toList ++ rest.map (am_tr ad') = (v.toList ++ rest).map (am_tr ad') := by cases v <;> simp
    rw [e9]
    rw [am_extlv hx1 hw.1] at hl
    refine kk v n' σ' hP hn1 p e s m args below meth c C ad' H1 locs1 ls (Nat.le_trans hn hn1) (fun i hi => (hx1 i (Nat.lt_of_lt_of_le hi hn)).trans (hx i hi)) hH1 hS1 hl ⟨fun q hq => am_rl_le hn1 (hw.1 q hq), fun u hu => ?_⟩
    rcases List.mem_append.mp hu with hu | hu
    · exact hv u (Option.mem_toList.mp hu)
    · exact am_rl_le hn1 (hrest u hu)
theorem am_callVH9 {l : Launch} {g : am_Gl} {Y : am_Y} {n0 : Nat} {ad0 : Nat → Nat} {P : am_P} {k z n : Nat} {σ : am_M} {pc : Nat} {lv : List (Nat × Value)} {st : List Value} {Y' : am_Y} {idx nargs : Nat} {b : Nat} {as rest : List Value} {P' : am_P} (d : decode Y.2.1 pc = .ok (.invokevirtual idx, 3)) (cw : am_cv Y Y' idx nargs) (ht : am_yt Y' = true) (hA : AC l g Y' n σ (.ref b :: as) P') (hst : as.reverse ++ .ref b :: rest = st) (hna : as.length = nargs) (hr : am_rc n b Y'.1.cls) (hcat : (rest.map fun v => v.category).sum ≤ 8) (hk : k + am_yc Y' ≤ am_yc Y) (hz : z + am_ys Y' ≤ am_ys Y)
    (kx : ∀ (E : String) (n' : Nat) (σ' : am_M), P' (.inr E) n' σ' → n ≤ n' → ∃ hpc : Nat, am_hd Y pc E hpc ∧ ∀ q9 : Nat, AW l g Y n0 ad0 P (k + am_yc Y') (z + am_ys Y') n' σ' hpc lv [.retAddr q9])
    (kk : ∀ (v : Option Value) (n' : Nat) (σ' : am_M), P' (.inl v) n' σ' → n ≤ n' → AW l g Y n0 ad0 P (k + am_yc Y') (z + am_ys Y') n' σ' (pc + 3) lv (v.toList ++ rest)) : AW l g Y n0 ad0 P k z n σ pc lv st := by
  intro p e s m args below meth c C ad H locs ls hn hx hH hS hl hw
  subst hst
  have hav : ∀ v ∈ (.ref b :: as), am_rl n v := fun v hv => hw.2 v (by rcases List.mem_cons.mp hv with h | h <;> simp [h])
  have hM := hA hav ad
  rw [if_pos ht] at hM
  have am_recvp := hr g ad σ s H C.2.2.2.2.2.2.2.2.2.1.1 hH
  have hK := C.2.2.2.2.2.2.2.2.2.1
  refine am_afterX (vx_runV (As := as.map (am_tr ad)) (rest := rest.map (am_tr ad)) ⟨C.1, C.2.1, C.2.2.1, C.2.2.2.1, C.2.2.2.2.1⟩ hM (cwV nargs C.2.2.2.2.1 (am_goodV cw) (am_ws_code cw.1.2.1) rfl rfl ⟨rfl, cw.1.1.2.2.2.1, cw.1.1.2.2.2.2, cw.1.2.2.1⟩ ⟨cw.1.2.2.2.1, cw.1.2.2.2.2⟩) ⟨am_blind, am_recvp, am_prest C hH hS _⟩ rfl (by simpa using hna) hl.1 (by simp [am_tr]) (lv_room (by rw [am_sum]; exact hcat)) d ⟨hk, hz⟩) hS (fun E ce q n' ad' σ' H1 locs1 hP hn1 hx1 hH1 hS1 hce hcv hcl => ?_) (fun v n' ad' σ' H1 locs1 hv hP hn1 hx1 hH1 hS1 => ?_)
  · obtain ⟨hpc, ⟨pre, x, suf, t1, t2, t3, t4, t5, t6, t7⟩, KK⟩ := kx E n' σ' hP hn1
    refine vx_catch C.2.2.2.1 pre x suf (by rw [C.2.2.2.2.2.2.2.2.1, t1]) (fun z hz9 => ?_) t2 t4 (am_word_G C t5) (va_Nw.use (am_N2on _ t6) (hK.2.2.1 _ t6)) hce hcv hcl ?_
    · rcases t7 z hz9 with h | ⟨h1, nm, h2, h3⟩
      · exact Or.inl h
      · exact Or.inr ⟨h1, nm, am_word_G C h2, hK.2.2.2.2.1 _ h3⟩
    · rw [t3]
      rw [am_extlv hx1 hw.1] at hl
      exact KK q p e s m args below meth c C ad' H1 locs1 ls (Nat.le_trans hn hn1) (fun i hi => (hx1 i (Nat.lt_of_lt_of_le hi hn)).trans (hx i hi)) hH1 hS1 hl ⟨fun q hq => am_rl_le hn1 (hw.1 q hq), fun u hu => by
        rcases List.mem_cons.mp hu with h | h
        · rw [h]; intro i hi; cases hi
        · cases h⟩
  · have hrest : ∀ v ∈ rest, am_rl n v := fun v hv => hw.2 v (by simp [hv])
    rw [am_extst hx1 hrest]
    have e9 : (v.map (am_tr ad')).toList ++ rest.map (am_tr ad') = (v.toList ++ rest).map (am_tr ad') := by cases v <;> simp
    rw [e9]
    rw [am_extlv hx1 hw.1] at hl
    refine kk v n' σ' hP hn1 p e s m args below meth c C ad' H1 locs1 ls (Nat.le_trans hn hn1) (fun i hi => (hx1 i (Nat.lt_of_lt_of_le hi hn)).trans (hx i hi)) hH1 hS1 hl ⟨fun q hq => am_rl_le hn1 (hw.1 q hq), fun u hu => ?_⟩
    rcases List.mem_append.mp hu with hu | hu
    · exact hv u (Option.mem_toList.mp hu)
    · exact am_rl_le hn1 (hrest u hu)
theorem ak9_V {l : Launch} {g : am_Gl} {Y : am_Y} {n0 : Nat} {ad0 : Nat → Nat} {P : am_P} {k z n : Nat} {σ : am_M} {pc : Nat} {lv : List (Nat × Value)} {st : List Value} {b : Nat} {Y' : am_Y} {idx nargs : Nat} {as rest : List Value} {x : Int32} {σ' : am_M} (d : decode Y.2.1 pc = .ok (.invokevirtual idx, 3)) (cw : am_cv Y Y' idx nargs) (ht : am_yt Y' = false) (hA : AC l g Y' n σ (.ref b :: as) (am_ri x n σ')) (hst : as.reverse ++ .ref b :: rest = st) (hna : as.length = nargs) (hr : am_rc n b Y'.1.cls) (hcat : (rest.map fun v => v.category).sum ≤ 8) (hk : k + am_yc Y' ≤ am_yc Y) (hz : z + am_ys Y' ≤ am_ys Y) (kk : AW l g Y n0 ad0 P (k + am_yc Y') (z + am_ys Y') n σ' (pc + 3) lv (.int x :: rest)) : AW l g Y n0 ad0 P k z n σ pc lv st := by
  refine am_callV9 d cw ht hA hst hna hr hcat hk hz (fun v n' σ'' hP hn => ?_)
  obtain ⟨e1, e2, e3⟩ := hP
  cases e1
  subst e2
  subst e3
  exact kk
theorem ak9_VX {l : Launch} {g : am_Gl} {Y : am_Y} {n0 : Nat} {ad0 : Nat → Nat} {P : am_P} {k z n : Nat} {σ : am_M} {pc : Nat} {lv : List (Nat × Value)} {st : List Value} {b : Nat} {Y' : am_Y} {idx nargs : Nat} {as rest : List Value} {x : Int32} {σ' : am_M} (d : decode Y.2.1 pc = .ok (.invokevirtual idx, 3)) (cw : am_cv Y Y' idx nargs) (ht : am_yt Y' = true) (hA : AC l g Y' n σ (.ref b :: as) (am_ri x n σ')) (hst : as.reverse ++ .ref b :: rest = st) (hna : as.length = nargs) (hr : am_rc n b Y'.1.cls) (hcat : (rest.map fun v => v.category).sum ≤ 8) (hk : k + am_yc Y' ≤ am_yc Y) (hz : z + am_ys Y' ≤ am_ys Y) (kk : AW l g Y n0 ad0 P (k + am_yc Y') (z + am_ys Y') n σ' (pc + 3) lv (.int x :: rest)) : AW l g Y n0 ad0 P k z n σ pc lv st := by
  refine am_callVH9 d cw ht hA hst hna hr hcat hk hz (fun E n' σ'' hP _ => by cases hP.1) (fun v n' σ'' hP hn => ?_)
  obtain ⟨e1, e2, e3⟩ := hP
  cases e1
  subst e2
  subst e3
  exact kk
theorem ak9_S {l : Launch} {g : am_Gl} {Y : am_Y} {n0 : Nat} {ad0 : Nat → Nat} {P : am_P} {k z n : Nat} {σ : am_M} {pc : Nat} {lv : List (Nat × Value)} {st : List Value} {Y' : am_Y} {idx nargs : Nat} {as rest : List Value} {x : Int32} {σ' : am_M} (d : decode Y.2.1 pc = .ok (.invokestatic idx, 3)) (cw : am_cs Y Y' idx nargs) (ht : am_yt Y' = false) (hA : AC l g Y' n σ as (am_ri x n σ')) (hst : as.reverse ++ rest = st) (hna : as.length = nargs) (hcat : (rest.map fun v => v.category).sum ≤ 8) (hk : k + am_yc Y' ≤ am_yc Y) (hz : z + am_ys Y' ≤ am_ys Y) (kk : AW l g Y n0 ad0 P (k + am_yc Y') (z + am_ys Y') n σ' (pc + 3) lv (.int x :: rest)) : AW l g Y n0 ad0 P k z n σ pc lv st := by
  refine am_callS d cw ht hA hst hna hcat hk hz (fun v n' σ'' hP hn => ?_)
  obtain ⟨e1, e2, e3⟩ := hP
  cases e1
  subst e2
  subst e3
  exact kk
theorem ak9_SX {l : Launch} {g : am_Gl} {Y : am_Y} {n0 : Nat} {ad0 : Nat → Nat} {P : am_P} {k z n : Nat} {σ : am_M} {pc : Nat} {lv : List (Nat × Value)} {st : List Value} {Y' : am_Y} {idx nargs : Nat} {as rest : List Value} {x : Int32} {σ' : am_M} (d : decode Y.2.1 pc = .ok (.invokestatic idx, 3)) (cw : am_sh9 Y Y' idx nargs) (ht : am_yt Y' = true) (hA : AC l g Y' n σ as (am_ri x n σ')) (hst : as.reverse ++ rest = st) (hna : as.length = nargs) (hcat : (rest.map fun v => v.category).sum ≤ 8) (hk : k + am_yc Y' ≤ am_yc Y) (hz : z + am_ys Y' ≤ am_ys Y)
    (kk : AW l g Y n0 ad0 P (k + am_yc Y') (z + am_ys Y') n σ' (pc + 3) lv (.int x :: rest)) : AW l g Y n0 ad0 P k z n σ pc lv st := by
  intro p e s m args below meth c C ad H locs ls hn hx hH hS hl hw
  subst hst
  have hav : ∀ v ∈ as, am_rl n v := fun v hv => hw.2 v (by simp [hv])
  have hM := hA hav ad
  rw [if_pos ht] at hM
  obtain ⟨c1, ⟨hh9, c2⟩, c3, c4, c5, c6, c7⟩ := cw
  have hws : am_wsY Y' = Cond.codeWith Y'.1 Y'.2.1 Y'.2.2.1 Y'.2.2.2.1 hh9 :: am_G := by simp [am_wsY, am_word, c2]
  refine am_afterX (vx_runSX (hh := hh9) (As := as.map (am_tr ad)) (rest := rest.map (am_tr ad)) ⟨C.1, C.2.1, C.2.2.1, C.2.2.2.1, C.2.2.2.2.1⟩ hM (vx_cwSW nargs C.2.2.2.2.1 (am_goodS c1 c6 c7) hws rfl rfl ⟨c1.2.2.2.1, c1.2.2.2.2, c3⟩ ⟨c4, c5⟩) ⟨am_blind, am_prest C hH hS _⟩ rfl (by simpa using hna) hl.1 (by simp) (lv_room (by rw [am_sum]; exact hcat)) d ⟨hk, hz⟩) hS (fun E ce q n' ad' σ' H1 locs1 hP hn1 hx1 hH1 hS1 hce hcv hcl => by cases hP.1) (fun v n' ad' σ' H1 locs1 hv hP hn1 hx1 hH1 hS1 => ?_)
  obtain ⟨e1, e2, e3⟩ := hP
  cases e1
  subst e2
  subst e3
  have hrest : ∀ v ∈ rest, am_rl n v := fun v hv => hw.2 v (by simp [hv])
  rw [am_extst hx1 hrest]
  rw [am_extlv hx1 hw.1] at hl
  exact kk p e s m args below meth c C ad' H1 locs1 ls hn (fun i hi => (hx1 i (Nat.lt_of_lt_of_le hi hn)).trans (hx i hi)) hH1 hS1 hl ⟨hw.1, fun u hu => by
    rcases List.mem_cons.mp hu with h | h
    · rw [h]; exact am_rl_int
    · exact hrest u h⟩
theorem am_callSH9 {l : Launch} {g : am_Gl} {Y : am_Y} {n0 : Nat} {ad0 : Nat → Nat} {P : am_P} {k z n : Nat} {σ : am_M} {pc : Nat} {lv : List (Nat × Value)} {st : List Value} {Y' : am_Y} {idx nargs : Nat} {as rest : List Value} {P' : am_P} (d : decode Y.2.1 pc = .ok (.invokestatic idx, 3)) (cw : am_cs Y Y' idx nargs) (ht : am_yt Y' = true) (hA : AC l g Y' n σ as P') (hst : as.reverse ++ rest = st) (hna : as.length = nargs) (hcat : (rest.map fun v => v.category).sum ≤ 8) (hk : k + am_yc Y' ≤ am_yc Y) (hz : z + am_ys Y' ≤ am_ys Y)
    (kx : ∀ (E : String) (n' : Nat) (σ' : am_M), P' (.inr E) n' σ' → n ≤ n' → ∃ hpc : Nat, am_hd Y pc E hpc ∧ ∀ q9 : Nat, AW l g Y n0 ad0 P (k + am_yc Y') (z + am_ys Y') n' σ' hpc lv [.retAddr q9])
    (kk : ∀ (v : Option Value) (n' : Nat) (σ' : am_M), P' (.inl v) n' σ' → n ≤ n' → AW l g Y n0 ad0 P (k + am_yc Y') (z + am_ys Y') n' σ' (pc + 3) lv (v.toList ++ rest)) : AW l g Y n0 ad0 P k z n σ pc lv st := by
  intro p e s m args below meth c C ad H locs ls hn hx hH hS hl hw
  subst hst
  have hav : ∀ v ∈ as, am_rl n v := fun v hv => hw.2 v (by simp [hv])
  have hM := hA hav ad
  rw [if_pos ht] at hM
  have hK := C.2.2.2.2.2.2.2.2.2.1
  refine am_afterX (vx_runS (As := as.map (am_tr ad)) (rest := rest.map (am_tr ad)) ⟨C.1, C.2.1, C.2.2.1, C.2.2.2.1, C.2.2.2.2.1⟩ hM (va_cwS nargs C.2.2.2.2.1 (am_goodS cw.1.1 cw.2.1 cw.2.2) (am_ws_code cw.1.2.1) rfl rfl ⟨cw.1.1.2.2.2.1, cw.1.1.2.2.2.2, cw.1.2.2.1⟩ ⟨cw.1.2.2.2.1, cw.1.2.2.2.2⟩) ⟨am_blind, am_prest C hH hS _⟩ rfl (by simpa using hna) hl.1 (by simp [am_tr]) (lv_room (by rw [am_sum]; exact hcat)) d ⟨hk, hz⟩) hS (fun E ce q n' ad' σ' H1 locs1 hP hn1 hx1 hH1 hS1 hce hcv hcl => ?_) (fun v n' ad' σ' H1 locs1 hv hP hn1 hx1 hH1 hS1 => ?_)
  · obtain ⟨hpc, ⟨pre, x, suf, t1, t2, t3, t4, t5, t6, t7⟩, KK⟩ := kx E n' σ' hP hn1
    refine vx_catch C.2.2.2.1 pre x suf (by rw [C.2.2.2.2.2.2.2.2.1, t1]) (fun z hz9 => ?_) t2 t4 (am_word_G C t5) (va_Nw.use (am_N2on _ t6) (hK.2.2.1 _ t6)) hce hcv hcl ?_
    · rcases t7 z hz9 with h | ⟨h1, nm, h2, h3⟩
      · exact Or.inl h
      · exact Or.inr ⟨h1, nm, am_word_G C h2, hK.2.2.2.2.1 _ h3⟩
    · rw [t3]
      rw [am_extlv hx1 hw.1] at hl
      exact KK q p e s m args below meth c C ad' H1 locs1 ls (Nat.le_trans hn hn1) (fun i hi => (hx1 i (Nat.lt_of_lt_of_le hi hn)).trans (hx i hi)) hH1 hS1 hl ⟨fun q hq => am_rl_le hn1 (hw.1 q hq), fun u hu => by
        rcases List.mem_cons.mp hu with h | h
        · rw [h]; intro i hi; cases hi
        · cases h⟩
  · have hrest : ∀ v ∈ rest, am_rl n v := fun v hv => hw.2 v (by simp [hv])
    rw [am_extst hx1 hrest]
    have e9 : (v.map (am_tr ad')).toList ++ rest.map (am_tr ad') = (v.toList ++ rest).map (am_tr ad') := by cases v <;> simp
    rw [e9]
    rw [am_extlv hx1 hw.1] at hl
    refine kk v n' σ' hP hn1 p e s m args below meth c C ad' H1 locs1 ls (Nat.le_trans hn hn1) (fun i hi => (hx1 i (Nat.lt_of_lt_of_le hi hn)).trans (hx i hi)) hH1 hS1 hl ⟨fun q hq => am_rl_le hn1 (hw.1 q hq), fun u hu => ?_⟩
    rcases List.mem_append.mp hu with hu | hu
    · exact hv u (Option.mem_toList.mp hu)
    · exact am_rl_le hn1 (hrest u hu)
theorem ak_EHS {l : Launch} {g : am_Gl} {Y : am_Y} {n0 : Nat} {ad0 : Nat → Nat} {P : am_P} {k z : Nat} {σ : am_M} {pc : Nat} {lv : List (Nat × Value)} {st : List Value} {Y' : am_Y} {idx nargs : Nat} {as rest : List Value} {q : Nat × Int32 × am_M} (d : decode Y.2.1 pc = .ok (.invokestatic idx, 3)) (cw : am_cs Y Y' idx nargs) (ht : am_yt Y' = true) (hA : AC l g Y' 207 σ as (am_oE q)) (hst : as.reverse ++ rest = st) (hna : as.length = nargs) (hcat : (rest.map fun v => v.category).sum ≤ 8) (hk : k + am_yc Y' ≤ am_yc Y) (hz : z + am_ys Y' ≤ am_ys Y)
    (kx : ¬ q.1 = 0 → ∃ hpc : Nat, am_hd Y pc (am_exn q.1) hpc ∧ ∀ q9 : Nat, AW l g Y n0 ad0 P (k + am_yc Y') (z + am_ys Y') 207 q.2.2 hpc lv [.retAddr q9])
    (kk : q.1 = 0 → AW l g Y n0 ad0 P (k + am_yc Y') (z + am_ys Y') 207 q.2.2 (pc + 3) lv (.int q.2.1 :: rest)) : AW l g Y n0 ad0 P k z 207 σ pc lv st := by
  by_cases h : q.1 = 0
  · rw [am_oE, if_pos h] at hA
    refine am_callSH9 d cw ht hA hst hna hcat hk hz (fun E n' σ' hP _ => by cases hP.1) (fun v n' σ' hP hn => ?_)
    obtain ⟨e1, e2, e3⟩ := hP
    cases e1
    subst e2
    subst e3
    exact kk h
  · rw [am_oE, if_neg h] at hA
    refine am_callSH9 d cw ht hA hst hna hcat hk hz (fun E n' σ' hP _ => ?_) (fun v n' σ' hP hn => by cases hP.1)
    obtain ⟨e1, e2, e3⟩ := hP
    cases e1
    subst e2
    subst e3
    exact kx h

-- what contracts of one object say, in the forms that are called
abbrev am_oC2 (q : Int32 × am_M × am_M) : am_P := am_ri q.1 414 (jn q.2.1 q.2.2)
theorem am_oC2_ok {s t : am_M} {x : Int32} : am_oC2 (x, s, t) (.inl (some (.int x))) 414 (jn s t) := ⟨rfl, rfl, rfl⟩
theorem am_1I {l : Launch} {g : am_Gl} {Y : am_Y} {s σ : am_M} {av : List Value} {x : Int32} (h : AC l g Y 207 s av (am_oI σ x)) : AC l g Y 207 s av (am_ri x 207 σ) := h
theorem am_1C {l : Launch} {g : am_Gl} {Y : am_Y} {s : am_M} {av : List Value} {q : Int32 × am_M} (h : AC l g Y 207 s av (am_oC q)) : AC l g Y 207 s av (am_ri q.1 207 q.2) := h
theorem am_1E {l : Launch} {g : am_Gl} {Y : am_Y} {s : am_M} {av : List Value} {q : Nat × Int32 × am_M} (h0 : q.1 = 0) (h : AC l g Y 207 s av (am_oE q)) : AC l g Y 207 s av (am_ri q.2.1 207 q.2.2) := by
  rw [am_oE, if_pos h0] at h; exact h
theorem am_ri_h {s t : am_M} {x : Int32} : ∀ r n' σ', am_ri x 207 s r n' σ' → n' = 207 ∧ am_nr r ∧ am_ri x 414 (jn s t) r 414 (jn σ' t) := fun r n' σ' h => by
  obtain ⟨h1, h2, h3⟩ := h
  subst h1 h2 h3
  exact ⟨rfl, fun v hv i hi => (by rw [hi] at hv; cases hv), rfl, rfl, rfl⟩
theorem am_ri_p {s t : am_M} {x : Int32} : ∀ r n' σ', am_ri x 207 t r n' σ' → n' = 207 ∧ am_nr r ∧ am_ri x 414 (jn s t) r 414 (jn s σ') := fun r n' σ' h => by
  obtain ⟨h1, h2, h3⟩ := h
  subst h1 h2 h3
  exact ⟨rfl, fun v hv i hi => (by rw [hi] at hv; cases hv), rfl, rfl, rfl⟩
theorem am_2O {l : Launch} {g : am_Gl} {Y : am_Y} {s s' t : am_M} {av : List Value} {x : Int32} (hg : g.2.2.2.1 = true) (hav : am_okv 207 av = true) (hA : ∀ A : Nat → Prop, AC l (am_ga g A) Y 207 s av (am_ri x 207 s')) : AC l g Y 414 (jn s t) av (am_ri x 414 (jn s' t)) := am_liftO hg (am_okv_s hav) hA am_ri_h
theorem am_2P {l : Launch} {g : am_Gl} {Y : am_Y} {s t t' : am_M} {av av1 : List Value} {x : Int32} (hg : g.2.2.2.1 = true) (hav : am_okv 207 av1 = true) (ha : ∀ ad : Nat → Nat, av.map (am_tr ad) = av1.map (am_tr (fun i => ad (i + 207)))) (hA : ∀ A : Nat → Prop, AC l (am_ga g A) Y 207 t av1 (am_ri x 207 t')) : AC l g Y 414 (jn s t) av (am_ri x 414 (jn s t')) := am_liftP (m := 207) (Or.inl ⟨hg, rfl⟩) (am_okv_s hav) ha hA am_ri_p
-- another memory that is the same in the cells of the object
def lo (m u : am_M) : am_M := fun a => if a < 207 then m a else u a
theorem lo_at {m u : am_M} {a : Nat} (h : a < 207) : lo m u a = m a := if_pos h
theorem am_H_k {g : am_Gl} {ad : Nat → Nat} {σ m : am_M} {H : Heap} (hg : g.2.2.2.1 = true) (hm : ∀ a, a < 207 → m a = σ a) (h : am_H g 207 ad σ H) : am_H g 207 ad m H := by
  obtain ⟨h3, h4, -⟩ := h
  have h3 := am_P_iff.mp h3
  refine ⟨am_P_iff.mpr fun i hi => ?_, am_D_iff.mpr (am_D_iff.mp h4), fun hf => by rw [hg] at hf; cases hf⟩
  rw [am_e_k (σ := σ) (hm i hi)]
  exact h3 i hi
theorem am_up9 {l : Launch} {g : am_Gl} {Y : am_Y} {s : am_M} {av : List Value} {P P2 : am_P} (hg : g.2.2.2.1 = true) (hA : AC l g Y 207 s av P) (hP : ∀ r n' σ', P r n' σ' → n' = 207 ∧ ∃ m, (∀ a, a < 207 → m a = σ' a) ∧ P2 r 207 m) : AC l g Y 207 s av P2 := by
  intro hav ad
  have hM := hA hav ad
  by_cases ht : am_yt Y = true
  · rw [if_pos ht] at hM ⊢
    refine vx_Met_c hM (fun a s h => h) (fun a U o T hpre hq => ?_) (fun a E U T hpre hq => ?_) (fun q h => h)
    · obtain ⟨⟨v, n', ad', σ', h1, h2, h3, h4, h5, h6⟩, h7⟩ := hq
      obtain ⟨rfl, m, g2, g3⟩ := hP _ _ _ h3
      exact ⟨⟨v, 207, ad', m, h1, h2, g3, h4, h5, am_H_k hg g2 h6⟩, h7⟩
    · obtain ⟨⟨n', ad', σ', h3, h4, h5, h6⟩, h7⟩ := hq
      obtain ⟨rfl, m, g2, g3⟩ := hP _ _ _ h3
      exact ⟨⟨207, ad', m, g3, h4, h5, am_H_k hg g2 h6⟩, h7⟩
  · rw [if_neg ht] at hM ⊢
    refine Met_c hM (fun a s h => h) (fun a U o T hpre hq => ?_) (fun q h => h)
    obtain ⟨⟨v, n', ad', σ', h1, h2, h3, h4, h5, h6⟩, h7⟩ := hq
    obtain ⟨rfl, m, g2, g3⟩ := hP _ _ _ h3
    exact ⟨⟨v, 207, ad', m, h1, h2, g3, h4, h5, am_H_k hg g2 h6⟩, h7⟩
theorem am_ghE {l : Launch} {g : am_Gl} {Y : am_Y} {s : am_M} {av : List Value} {q : Nat × Int32 × am_M} {m : am_M} (hg : g.2.2.2.1 = true) (hA : AC l g Y 207 s av (am_oE q)) (hm : ∀ a, a < 207 → m a = q.2.2 a) : AC l g Y 207 s av (am_oE (q.1, q.2.1, m)) := by
  refine am_up9 hg hA (fun r n' σ' h => ?_)
  unfold am_oE at h ⊢
  by_cases h0 : q.1 = 0
  · rw [if_pos h0] at h
    obtain ⟨h1, h2, h3⟩ := h
    subst h3
    rw [if_pos h0]
    exact ⟨h2, m, hm, h1, rfl, rfl⟩
  · rw [if_neg h0] at h
    obtain ⟨h1, h2, h3⟩ := h
    subst h3
    rw [if_neg h0]
    exact ⟨h2, m, hm, h1, rfl, rfl⟩
theorem am_ghV {l : Launch} {g : am_Gl} {Y : am_Y} {s : am_M} {av : List Value} {q : Nat × am_M} {m : am_M} (hg : g.2.2.2.1 = true) (hA : AC l g Y 207 s av (am_oV q)) (hm : ∀ a, a < 207 → m a = q.2 a) : AC l g Y 207 s av (am_oV (q.1, m)) := by
  refine am_up9 hg hA (fun r n' σ' h => ?_)
  unfold am_oV at h ⊢
  by_cases h0 : q.1 = 0
  · rw [if_pos h0] at h
    obtain ⟨h1, h2, h3⟩ := h
    subst h3
    rw [if_pos h0]
    exact ⟨h2, m, hm, h1, rfl, rfl⟩
  · rw [if_neg h0] at h
    obtain ⟨h1, h2, h3⟩ := h
    subst h3
    rw [if_neg h0]
    exact ⟨h2, m, hm, h1, rfl, rfl⟩

