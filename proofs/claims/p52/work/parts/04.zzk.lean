/-! the script, handlers, calls of the law's helpers; written by wip/p52/gen11.py -/
theorem am_aloadS_n {l : Launch} {g : am_Gl} {Y : am_Y} {n0 : Nat} {ad0 : Nat → Nat} {P : am_P} {k z n : Nat} {σ : am_M} {pc : Nat} {lv : List (Nat × Value)} {st : List Value} {f : Fin 4} {i j : Nat} {x : Nat} (d : decode Y.2.1 pc = .ok (.aload_n f, 1)) (hi : (f : Nat) = i) (hl0 : lv[j]? = some (i, .retAddr x)) (kk : AW l g Y n0 ad0 P k z n σ (pc + 1) lv (.retAddr x :: st)) : AW l g Y n0 ad0 P k z n σ pc lv st := by
  intro p e s m args below meth c C ad H locs ls hn hx hH hS hl hw
  exact lv_aload_n C.1 C.2.1 d hi (am_lv_at hl j hl0) (kk p e s m args below meth c C ad H locs ls hn hx hH hS hl (am_wf_int (fun _ => by intro h; cases h) hw))
theorem am_astoreS_n {l : Launch} {g : am_Gl} {Y : am_Y} {n0 : Nat} {ad0 : Nat → Nat} {P : am_P} {k z n : Nat} {σ : am_M} {pc : Nat} {lv : List (Nat × Value)} {st : List Value} {f : Fin 4} {i : Nat} {x : Nat} {lv2 : List (Nat × Value)} (d : decode Y.2.1 pc = .ok (.astore_n f, 1)) (hi : (f : Nat) = i) (hn9 : i < Y.2.2.1) (hlv : (i, Value.retAddr x) :: lv.filter (fun q => !(q.1 == i) && !(q.1 + 1 == i && q.2.category == 2)) = lv2) (kk : AW l g Y n0 ad0 P k z n σ (pc + 1) lv2 st) : AW l g Y n0 ad0 P k z n σ pc lv (.retAddr x :: st) := by
  intro p e s m args below meth c C ad H locs ls hn hx hH hS hl hw
  refine lv_astore_n C.1 C.2.1 d hi hl hn9 (am_lv_sto ad i (.retAddr x) lv) (fun ls9 hl9 => ?_)
  subst hlv
  exact kk p e s m args below meth c C ad H locs ls9 hn hx hH hS hl9 (am_wf_sto hw)
theorem am_astoreS {l : Launch} {g : am_Gl} {Y : am_Y} {n0 : Nat} {ad0 : Nat → Nat} {P : am_P} {k z n : Nat} {σ : am_M} {pc : Nat} {lv : List (Nat × Value)} {st : List Value} {i : Nat} {x : Nat} {lv2 : List (Nat × Value)} (d : decode Y.2.1 pc = .ok (.astore i, 2)) (hn9 : i < Y.2.2.1) (hlv : (i, Value.retAddr x) :: lv.filter (fun q => !(q.1 == i) && !(q.1 + 1 == i && q.2.category == 2)) = lv2) (kk : AW l g Y n0 ad0 P k z n σ (pc + 2) lv2 st) : AW l g Y n0 ad0 P k z n σ pc lv (.retAddr x :: st) := by
  intro p e s m args below meth c C ad H locs ls hn hx hH hS hl hw
  refine lv_astore C.1 C.2.1 d hl hn9 (am_lv_sto ad i (.retAddr x) lv) (fun ls9 hl9 => ?_)
  subst hlv
  exact kk p e s m args below meth c C ad H locs ls9 hn hx hH hS hl9 (am_wf_sto hw)
theorem am_slen {l : Launch} {g : am_Gl} {Y : am_Y} {n0 : Nat} {ad0 : Nat → Nat} {P : am_P} {k z n : Nat} {σ : am_M} {pc : Nat} {lv : List (Nat × Value)} {st : List Value} (d : decode Y.2.1 pc = .ok (.arraylength, 1)) (kk : AW l g Y n0 ad0 P k z n σ (pc + 1) lv (.int (Int32.ofNat g.2.2.2.2.2.1) :: st)) : AW l g Y n0 ad0 P k z n σ pc lv (.retAddr g.2.2.2.2.1 :: st) := by
  intro p e s m args below meth c C ad H locs ls hn hx hH hS hl hw
  have hK := C.2.2.2.2.2.2.2.2.2.1
  have hX := hK.2.2.2.2.2.2.2.1
  have hbl : g.2.2.2.2.1 < s.heap.size := by obtain ⟨c9, e9, -⟩ := hX; exact (Array.getElem?_eq_some_iff.mp e9).1
  exact va_slen C.1 C.2.1 hX hbl (hK.2.2.2.2.2.2.2.2) hS d (kk p e s m args below meth c C ad H locs ls hn hx hH hS hl (am_wf_int (fun _ => by intro h; cases h) (am_wf_tl hw)))
theorem am_sld {l : Launch} {g : am_Gl} {Y : am_Y} {n0 : Nat} {ad0 : Nat → Nat} {P : am_P} {k z n : Nat} {σ : am_M} {pc : Nat} {lv : List (Nat × Value)} {st : List Value} {x : Int32} (d : decode Y.2.1 pc = .ok (.iaload, 1)) (hin : vp_in x g.2.2.2.2.2.1) (kk : AW l g Y n0 ad0 P k z n σ (pc + 1) lv (.int (g.2.2.2.2.2.2 x.toNatClampNeg) :: st)) : AW l g Y n0 ad0 P k z n σ pc lv (.int x :: .retAddr g.2.2.2.2.1 :: st) := by
  intro p e s m args below meth c C ad H locs ls hn hx hH hS hl hw
  have hK := C.2.2.2.2.2.2.2.2.2.1
  have hX := hK.2.2.2.2.2.2.2.1
  have hbl : g.2.2.2.2.1 < s.heap.size := by obtain ⟨c9, e9, -⟩ := hX; exact (Array.getElem?_eq_some_iff.mp e9).1
  exact va_sld C.1 C.2.1 hX hbl (hK.2.2.2.2.2.2.2.2) hS hin d (kk p e s m args below meth c C ad H locs ls hn hx hH hS hl (am_wf_int (fun _ => by intro h; cases h) (am_wf_tl (am_wf_tl hw))))
/-- a handler at hpc takes what is thrown at pc -/
def am_hd (Y : am_Y) (pc : Nat) (E : String) (hpc : Nat) : Prop := ∃ (pre : List ExceptionTableEntry) (x : ExceptionTableEntry) (suf : List ExceptionTableEntry), am_tb Y = pre ++ x :: suf ∧ covers x pc = true ∧ x.handlerPc = hpc ∧ x.catchType ≠ 0 ∧ Cond.classLink Y.1.cls x.catchType E ∈ am_G ∧ Cond.castable E E ∈ am_N2 ∧ ∀ z ∈ pre, covers z pc = false ∨ (z.catchType ≠ 0 ∧ ∃ nm : String, Cond.classLink Y.1.cls z.catchType nm ∈ am_G ∧ (E, nm) ∈ am_N4)
theorem am_callVH {l : Launch} {g : am_Gl} {Y : am_Y} {n0 : Nat} {ad0 : Nat → Nat} {P : am_P} {k z n : Nat} {σ : am_M} {pc : Nat} {lv : List (Nat × Value)} {st : List Value} {Y' : am_Y} {idx nargs : Nat} {b : Nat} {ci N : Nat} {as rest : List Value} {P' : am_P} (d : decode Y.2.1 pc = .ok (.invokevirtual idx, 3)) (cw : am_cv Y Y' idx nargs) (ht : am_yt Y' = true) (hA : AC l g Y' n σ (.ref b :: as) P') (hst : as.reverse ++ .ref b :: rest = st) (hna : as.length = nargs) (hb : b < n) (hs : am_sh b = (0, ci, N)) (hc : (am_cl[ci]?).map Prod.fst = some Y'.1.cls) (hcat : (rest.map fun v => v.category).sum ≤ 8) (hk : k + am_yc Y' ≤ am_yc Y) (hz : z + am_ys Y' ≤ am_ys Y)
    (kx : ∀ (E : String) (n' : Nat) (σ' : am_M), P' (.inr E) n' σ' → n ≤ n' → ∃ hpc : Nat, am_hd Y pc E hpc ∧ ∀ q9 : Nat, AW l g Y n0 ad0 P (k + am_yc Y') (z + am_ys Y') n' σ' hpc lv [.retAddr q9])
    (kk : ∀ (v : Option Value) (n' : Nat) (σ' : am_M), P' (.inl v) n' σ' → n ≤ n' → AW l g Y n0 ad0 P (k + am_yc Y') (z + am_ys Y') n' σ' (pc + 3) lv (v.toList ++ rest)) : AW l g Y n0 ad0 P k z n σ pc lv st := by
  intro p e s m args below meth c C ad H locs ls hn hx hH hS hl hw
  subst hst
  have hav : ∀ v ∈ (.ref b :: as), am_rl n v := fun v hv => hw.2 v (by rcases List.mem_cons.mp hv with h | h <;> simp [h])
  have hM := hA hav ad
  rw [if_pos ht] at hM
  obtain ⟨q9, hq9, hq8⟩ : ∃ q : vw_C, am_cl[ci]? = some q ∧ q.1 = Y'.1.cls := by
    cases h : am_cl[ci]? with
    | none => rw [h] at hc; cases hc
    | some q => rw [h] at hc; exact ⟨q, rfl, Option.some.inj hc⟩
  have am_recvp : ∃ cell : Cell, H[ad b]? = some cell ∧ cell.vm.isStatics = false ∧ s.vm.findClass Y'.1.cls = some cell.cls := by
    rw [← hq8]
    exact am_recv C.2.2.2.2.2.2.2.2.2.1.1 hH hb hs hq9
  have hK := C.2.2.2.2.2.2.2.2.2.1
  refine am_afterX (vx_runV (As := as.map (am_tr ad)) (rest := rest.map (am_tr ad)) ⟨C.1, C.2.1, C.2.2.1, C.2.2.2.1, C.2.2.2.2.1⟩ hM (cwV nargs C.2.2.2.2.1 (am_goodV cw) (am_ws_code cw.1.2.1) rfl rfl ⟨rfl, cw.1.1.2.2.2.1, cw.1.1.2.2.2.2, cw.1.2.2.1⟩ ⟨cw.1.2.2.2.1, cw.1.2.2.2.2⟩) ⟨am_blind, am_recvp, am_prest C hH hS _⟩ rfl (by simpa using hna) hl.1 (by simp [am_tr]) (lv_room (by rw [am_sum]; exact hcat)) d ⟨hk, hz⟩) hS (fun E ce q n' ad' σ' H1 locs1 hP hn1 hx1 hH1 hS1 hce hcv hcl => ?_) (fun v n' ad' σ' H1 locs1 hv hP hn1 hx1 hH1 hS1 => ?_)
  · obtain ⟨hpc, ⟨pre, x, suf, t1, t2, t3, t4, t5, t6, t7⟩, KK⟩ := kx E n' σ' hP hn1
    refine vx_catch C.2.2.2.1 pre x suf (by rw [C.2.2.2.2.2.2.2.2.1, t1]) (fun z hz9 => ?_) t2 t4 (am_word_G C t5) (va_Nw.use (am_N2on _ t6) (hK.2.2.1 _ t6)) hce hcv hcl ?_
    · rcases t7 z hz9 with h | ⟨h1, nm, h2, h3⟩
      · exact Or.inl h
      · exact Or.inr ⟨h1, nm, am_word_G C h2, hK.2.2.2.2.1 _ h3⟩
    · rw [t3]
      rw [am_extlv hx1 hw.1] at hl
      exact KK q p e s m args below meth c C ad' H1 locs1 ls (Nat.le_trans hn hn1) (fun i hi => (hx1 i (Nat.lt_of_lt_of_le hi hn)).trans (hx i hi)) hH1 hS1 hl ⟨fun q hq => am_rl_le hn1 (hw.1 q hq), fun u hu => by
        rcases List.mem_cons.mp hu with h | h
        · rw [h]; intro i hi; cases hi
        · cases h⟩
  · have hrest : ∀ v ∈ rest, am_rl n v := fun v hv => hw.2 v (by simp [hv])
    rw [am_extst hx1 hrest]
    have e9 : (v.map (am_tr ad')).toList ++ rest.map (am_tr ad') = (v.toList ++ rest).map (am_tr ad') := by cases v <;> simp
    rw [e9]
    rw [am_extlv hx1 hw.1] at hl
    refine kk v n' σ' hP hn1 p e s m args below meth c C ad' H1 locs1 ls (Nat.le_trans hn hn1) (fun i hi => (hx1 i (Nat.lt_of_lt_of_le hi hn)).trans (hx i hi)) hH1 hS1 hl ⟨fun q hq => am_rl_le hn1 (hw.1 q hq), fun u hu => ?_⟩
    rcases List.mem_append.mp hu with hu | hu
    · exact hv u (Option.mem_toList.mp hu)
    · exact am_rl_le hn1 (hrest u hu)
theorem am_caseN {l : Launch} {g : am_Gl} {Y : am_Y} {n0 : Nat} {ad0 : Nat → Nat} {k z n : Nat} {σ : am_M} {pc : Nat} {lv : List (Nat × Value)} {st : List Value} {α : Type} {F : α → am_P} {V U : α} {q c : Nat} (kt : q = c → AW l g Y n0 ad0 (F V) k z n σ pc lv st) (kf : ¬ q = c → AW l g Y n0 ad0 (F U) k z n σ pc lv st) : AW l g Y n0 ad0 (F (if q = c then V else U)) k z n σ pc lv st := by
  by_cases h : q = c
  · rw [if_pos h]; exact kt h
  · rw [if_neg h]; exact kf h
theorem ak_EH {l : Launch} {g : am_Gl} {Y : am_Y} {n0 : Nat} {ad0 : Nat → Nat} {P : am_P} {k z : Nat} {σ : am_M} {pc : Nat} {lv : List (Nat × Value)} {st : List Value} {Y' : am_Y} {idx nargs : Nat} {b : Nat} {ci N : Nat} {as rest : List Value} {q : Nat × Int32 × am_M} (d : decode Y.2.1 pc = .ok (.invokevirtual idx, 3)) (cw : am_cv Y Y' idx nargs) (ht : am_yt Y' = true) (hA : AC l g Y' 207 σ (.ref b :: as) (am_oE q)) (hst : as.reverse ++ .ref b :: rest = st) (hna : as.length = nargs) (hb : b < 207) (hs : am_sh b = (0, ci, N)) (hc : (am_cl[ci]?).map Prod.fst = some Y'.1.cls) (hcat : (rest.map fun v => v.category).sum ≤ 8) (hk : k + am_yc Y' ≤ am_yc Y) (hz : z + am_ys Y' ≤ am_ys Y)
    (kx : ¬ q.1 = 0 → ∃ hpc : Nat, am_hd Y pc (am_exn q.1) hpc ∧ ∀ q9 : Nat, AW l g Y n0 ad0 P (k + am_yc Y') (z + am_ys Y') 207 q.2.2 hpc lv [.retAddr q9])
    (kk : q.1 = 0 → AW l g Y n0 ad0 P (k + am_yc Y') (z + am_ys Y') 207 q.2.2 (pc + 3) lv (.int q.2.1 :: rest)) : AW l g Y n0 ad0 P k z 207 σ pc lv st := by
  by_cases h : q.1 = 0
  · rw [am_oE, if_pos h] at hA
    refine am_callVH d cw ht hA hst hna hb hs hc hcat hk hz (fun E n' σ' hP _ => by cases hP.1) (fun v n' σ' hP hn => ?_)
    obtain ⟨e1, e2, e3⟩ := hP
    cases e1
    subst e2
    subst e3
    exact kk h
  · rw [am_oE, if_neg h] at hA
    refine am_callVH d cw ht hA hst hna hb hs hc hcat hk hz (fun E n' σ' hP _ => ?_) (fun v n' σ' hP hn => by cases hP.1)
    obtain ⟨e1, e2, e3⟩ := hP
    cases e1
    subst e2
    subst e3
    exact kx h
theorem ak_VH {l : Launch} {g : am_Gl} {Y : am_Y} {n0 : Nat} {ad0 : Nat → Nat} {P : am_P} {k z : Nat} {σ : am_M} {pc : Nat} {lv : List (Nat × Value)} {st : List Value} {Y' : am_Y} {idx nargs : Nat} {b : Nat} {ci N : Nat} {as rest : List Value} {q : Nat × am_M} (d : decode Y.2.1 pc = .ok (.invokevirtual idx, 3)) (cw : am_cv Y Y' idx nargs) (ht : am_yt Y' = true) (hA : AC l g Y' 207 σ (.ref b :: as) (am_oV q)) (hst : as.reverse ++ .ref b :: rest = st) (hna : as.length = nargs) (hb : b < 207) (hs : am_sh b = (0, ci, N)) (hc : (am_cl[ci]?).map Prod.fst = some Y'.1.cls) (hcat : (rest.map fun v => v.category).sum ≤ 8) (hk : k + am_yc Y' ≤ am_yc Y) (hz : z + am_ys Y' ≤ am_ys Y)
    (kx : ¬ q.1 = 0 → ∃ hpc : Nat, am_hd Y pc (am_exn q.1) hpc ∧ ∀ q9 : Nat, AW l g Y n0 ad0 P (k + am_yc Y') (z + am_ys Y') 207 q.2 hpc lv [.retAddr q9])
    (kk : q.1 = 0 → AW l g Y n0 ad0 P (k + am_yc Y') (z + am_ys Y') 207 q.2 (pc + 3) lv rest) : AW l g Y n0 ad0 P k z 207 σ pc lv st := by
  by_cases h : q.1 = 0
  · rw [am_oV, if_pos h] at hA
    refine am_callVH d cw ht hA hst hna hb hs hc hcat hk hz (fun E n' σ' hP _ => by cases hP.1) (fun v n' σ' hP hn => ?_)
    obtain ⟨e1, e2, e3⟩ := hP
    cases e1
    subst e2
    subst e3
    exact kk h
  · rw [am_oV, if_neg h] at hA
    refine am_callVH d cw ht hA hst hna hb hs hc hcat hk hz (fun E n' σ' hP _ => ?_) (fun v n' σ' hP hn => by cases hP.1)
    obtain ⟨e1, e2, e3⟩ := hP
    cases e1
    subst e2
    subst e3
    exact kx h
/-- entry of a method with handlers -/
theorem am_enterH {l : Launch} {g : am_Gl} {Y : am_Y} {n : Nat} {σ : am_M} {av : List Value} {P : am_P} {lv : List (Nat × Value)} {hh9 : List (Nat × Nat × Nat × Nat)} (ok : am_ok Y) (hh : am_yh Y = some hh9) (ht : am_yt Y = true) (hlen : (lg_sl av).length ≤ Y.2.2.1) (hlv : lv_args 0 av = lv) (h : ∀ ad0 : Nat → Nat, AW l g Y n ad0 P 0 0 n σ 0 lv []) : AC l g Y n σ av P := by
  intro hav ad
  subst hlv
  have hl := lv_entry (av.map (am_tr ad)) (n := Y.2.2.1) (by rw [am_sl_len]; exact hlen)
  rw [am_largs] at hl
  have hw : am_wf n (lv_args 0 av) [] := ⟨am_rl_args 0 av hav, fun v hv => by cases hv⟩
  rw [if_pos ht]
  have hws : am_wsY Y = Cond.codeWith Y.1 Y.2.1 Y.2.2.1 Y.2.2.2.1 hh9 :: am_G := by simp [am_wsY, am_word, hh]
  refine vx_ofWH (cc := Y.2.1) (maxL := Y.2.2.1) (ret := Y.2.2.2.1) (hh := hh9) ok.1 hws ?_
  intro p e s m args below meth c s₁ B hml hv
  obtain ⟨rfl, hB, hst⟩ := hv
  rw [lg_entry_eq]
  have htab := vx_table (x := Y.1) B (atoms_spec (ws := am_wsY Y) B.pre _ (by rw [hws]; exact List.mem_cons_self))
  have C : am_C l g Y p s m (av.map (am_tr ad)).toArray meth c := ⟨B.exec, B.bytes, hml, findClass_of_methodNamed B.named, atoms_spec (ws := am_wsY Y) B.pre, B.returns, B.notSynchronized, (name_of_methodNamed B.named B.method).1, by rw [am_tb, hh]; exact htab, hB.2.2, hB.1, hst⟩
  have K := h ad p e s m (av.map (am_tr ad)).toArray below meth c C ad s.heap [] _ (Nat.le_refl n) (fun _ _ => rfl) hB.2.1 va_S.rf hl hw
  unfold am_Q at K
  rw [if_pos ht] at K
  exact K
def am_sh9 (Y Y' : am_Y) (idx nargs : Nat) : Prop := am_ok Y' ∧ (∃ hh, am_yh Y' = some hh) ∧ (parseMethodDescriptor Y'.1.desc).map (fun d => d.parameters.length) = some nargs ∧ am_yl Y' + 1 ≤ am_yl Y ∧ 8 + (Y'.2.2.1 + 11) + am_lo Y' ≤ am_lo Y ∧ Cond.methodLink Y.1.cls idx Y'.1 ∈ am_G ∧ Cond.static Y'.1 ∈ am_G
theorem ak_SH {l : Launch} {g : am_Gl} {Y : am_Y} {n0 : Nat} {ad0 : Nat → Nat} {P : am_P} {k z : Nat} {σ : am_M} {pc : Nat} {lv : List (Nat × Value)} {st : List Value} {Y' : am_Y} {idx nargs : Nat} {as rest : List Value} {q : Int32 × am_M} (d : decode Y.2.1 pc = .ok (.invokestatic idx, 3)) (cw : am_sh9 Y Y' idx nargs) (ht : am_yt Y' = true) (hA : AC l g Y' 207 σ as (am_oC q)) (hst : as.reverse ++ rest = st) (hna : as.length = nargs) (hcat : (rest.map fun v => v.category).sum ≤ 8) (hk : k + am_yc Y' ≤ am_yc Y) (hz : z + am_ys Y' ≤ am_ys Y)
    (kk : AW l g Y n0 ad0 P (k + am_yc Y') (z + am_ys Y') 207 q.2 (pc + 3) lv (.int q.1 :: rest)) : AW l g Y n0 ad0 P k z 207 σ pc lv st := by
  intro p e s m args below meth c C ad H locs ls hn hx hH hS hl hw
  subst hst
  have hav : ∀ v ∈ as, am_rl 207 v := fun v hv => hw.2 v (by simp [hv])
  have hM := hA hav ad
  rw [if_pos ht] at hM
  obtain ⟨c1, ⟨hh9, c2⟩, c3, c4, c5, c6, c7⟩ := cw
  have hws : am_wsY Y' = Cond.codeWith Y'.1 Y'.2.1 Y'.2.2.1 Y'.2.2.2.1 hh9 :: am_G := by simp [am_wsY, am_word, c2]
  refine am_afterX (vx_runSX (hh := hh9) (As := as.map (am_tr ad)) (rest := rest.map (am_tr ad)) ⟨C.1, C.2.1, C.2.2.1, C.2.2.2.1, C.2.2.2.2.1⟩ hM (vx_cwSW nargs C.2.2.2.2.1 (am_goodS c1 c6 c7) hws rfl rfl ⟨c1.2.2.2.1, c1.2.2.2.2, c3⟩ ⟨c4, c5⟩) ⟨am_blind, am_prest C hH hS _⟩ rfl (by simpa using hna) hl.1 (by simp) (lv_room (by rw [am_sum]; exact hcat)) d ⟨hk, hz⟩) hS (fun E ce q n' ad' σ' H1 locs1 hP hn1 hx1 hH1 hS1 hce hcv hcl => by cases hP.1) (fun v n' ad' σ' H1 locs1 hv hP hn1 hx1 hH1 hS1 => ?_)
  obtain ⟨e1, e2, e3⟩ := hP
  cases e1
  subst e2
  subst e3
  have hrest : ∀ v ∈ rest, am_rl 207 v := fun v hv => hw.2 v (by simp [hv])
  rw [am_extst hx1 hrest]
  rw [am_extlv hx1 hw.1] at hl
  exact kk p e s m args below meth c C ad' H1 locs1 ls hn (fun i hi => (hx1 i (Nat.lt_of_lt_of_le hi hn)).trans (hx i hi)) hH1 hS1 hl ⟨hw.1, fun u hu => by
    rcases List.mem_cons.mp hu with h | h
    · rw [h]; exact am_rl_int
    · exact hrest u h⟩

