/-! rows in any world; contracts of one object in the world of two; written by wip/p52/rows9.py -/
theorem am_ior {l : Launch} {g : am_Gl} {Y : am_Y} {n0 : Nat} {ad0 : Nat → Nat} {P : am_P} {k z n : Nat} {σ : am_M} {pc : Nat} {lv : List (Nat × Value)} {st : List Value} {x y : Int32} (d : decode Y.2.1 pc = .ok (.ior, 1)) (kk : AW l g Y n0 ad0 P k z n σ (pc + 1) lv (.int (x ||| y) :: st)) : AW l g Y n0 ad0 P k z n σ pc lv (.int y :: .int x :: st) := by
  intro p e s m args below meth c C ad H locs ls hn hx hH hS hl hw
  exact lv_ior C.1 C.2.1 d (kk p e s m args below meth c C ad H locs ls hn hx hH hS hl (am_wf_int (fun _ => by intro h; cases h) (am_wf_tl (am_wf_tl hw))))
theorem am_ishl {l : Launch} {g : am_Gl} {Y : am_Y} {n0 : Nat} {ad0 : Nat → Nat} {P : am_P} {k z n : Nat} {σ : am_M} {pc : Nat} {lv : List (Nat × Value)} {st : List Value} {x y : Int32} (d : decode Y.2.1 pc = .ok (.ishl, 1)) (kk : AW l g Y n0 ad0 P k z n σ (pc + 1) lv (.int (x <<< (y &&& 31)) :: st)) : AW l g Y n0 ad0 P k z n σ pc lv (.int y :: .int x :: st) := by
  intro p e s m args below meth c C ad H locs ls hn hx hH hS hl hw
  exact lv_ishl C.1 C.2.1 d (kk p e s m args below meth c C ad H locs ls hn hx hH hS hl (am_wf_int (fun _ => by intro h; cases h) (am_wf_tl (am_wf_tl hw))))
theorem am_ishr {l : Launch} {g : am_Gl} {Y : am_Y} {n0 : Nat} {ad0 : Nat → Nat} {P : am_P} {k z n : Nat} {σ : am_M} {pc : Nat} {lv : List (Nat × Value)} {st : List Value} {x y : Int32} (d : decode Y.2.1 pc = .ok (.ishr, 1)) (kk : AW l g Y n0 ad0 P k z n σ (pc + 1) lv (.int (x >>> (y &&& 31)) :: st)) : AW l g Y n0 ad0 P k z n σ pc lv (.int y :: .int x :: st) := by
  intro p e s m args below meth c C ad H locs ls hn hx hH hS hl hw
  exact lv_ishr C.1 C.2.1 d (kk p e s m args below meth c C ad H locs ls hn hx hH hS hl (am_wf_int (fun _ => by intro h; cases h) (am_wf_tl (am_wf_tl hw))))
theorem am_ineg {l : Launch} {g : am_Gl} {Y : am_Y} {n0 : Nat} {ad0 : Nat → Nat} {P : am_P} {k z n : Nat} {σ : am_M} {pc : Nat} {lv : List (Nat × Value)} {st : List Value} {x : Int32} (d : decode Y.2.1 pc = .ok (.ineg, 1)) (kk : AW l g Y n0 ad0 P k z n σ (pc + 1) lv (.int (-x) :: st)) : AW l g Y n0 ad0 P k z n σ pc lv (.int x :: st) := by
  intro p e s m args below meth c C ad H locs ls hn hx hH hS hl hw
  exact lv_ineg C.1 C.2.1 d (kk p e s m args below meth c C ad H locs ls hn hx hH hS hl (am_wf_int (fun _ => by intro h; cases h) (am_wf_tl hw)))

def am_okv (n : Nat) (av : List Value) : Bool := av.all (fun v => match v with
  | .ref i => decide (i < n)
  | _ => true)
theorem am_okv_s {n : Nat} {av : List Value} (h : am_okv n av = true) : ∀ v ∈ av, am_rl n v := by
  intro v hv i hi
  have := List.all_eq_true.mp h v hv
  rw [hi] at this
  exact of_decide_eq_true this
-- the receiver
def am_rc (n b : Nat) (C : String) : Prop := ∀ (g : am_Gl) (ad : Nat → Nat) (σ : am_M) (s : State) (H : Heap), va_K g.1 am_cl (am_tys g) s → am_H g n ad σ H → ∃ cell : Cell, H[ad b]? = some cell ∧ cell.vm.isStatics = false ∧ s.vm.findClass C = some cell.cls
theorem rc_0 : am_rc 207 0 "ClubBase" := fun g ad σ s H hK hH => am_recv (q := (R_9, T_9, 11)) hK hH (by decide) sh_0 rfl
theorem rc_1 : am_rc 414 0 "ClubBase" := fun g ad σ s H hK hH => am_recv (q := (R_9, T_9, 11)) hK hH (by decide) sh_0 rfl
theorem am_e_207 {g : am_Gl} {ad : Nat → Nat} {σ : am_M} : am_e g ad σ 207 = am_e g (fun j => ad (j + 207)) (fun j => σ (j + 207)) 0 := by
  unfold am_e
  rw [if_neg (by decide), if_pos (by decide)]
theorem rc_2 : am_rc 414 207 "ClubBase" := fun g ad σ s H hK hH => va_recv (q := (R_9, T_9, 11)) (ci := 9) (q0 := 207) hK hH.1 rfl (by rw [am_ws_get (by decide), am_e_207, am_e_obj sh_0])
-- calls that return an int
def am_ri (x : Int32) (n : Nat) (σ : am_M) : am_P := am_ret (some (.int x)) n σ

