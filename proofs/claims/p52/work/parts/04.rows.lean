/-! cells, calls and ends of the abstract machine; written by wip/p52/gen4.py -/
/-- what an instruction's word of a field says: class ci, slot j -/
def am_fl (own : String) (index ci j : Nat) : Prop := ∃ (q : vw_C) (ty : FieldType), am_cl[ci]? = some q ∧ j < q.2.2 ∧ Cond.fieldLink own index q.1 (q.2.1 j).2.1 (q.2.1 j).2.2.1 ∈ am_G ∧ (q.2.1 j).1 = q.1 ∧ (∀ w ∈ u_ws q.1 q.2.1 q.2.2, w ∈ am_G) ∧ parseFieldDescriptor (q.2.1 j).2.2.1 = some ty ∧ (∃ tyf : Nat → FieldType, tyf j = ty ∧ ∀ k, k < q.2.2 → parseFieldDescriptor (q.2.1 k).2.2.1 = some (tyf k)) ∧ (∀ a, a < q.2.2 → ∀ b, b < q.2.2 → a ≠ b → (q.2.1 a).2.1 ≠ (q.2.1 b).2.1)
/-- .. and of its type: 0 int, 1 boolean, 2 a reference; whether it is final -/
def am_ft (ci j : Nat) (ty : FieldType) (fin : Bool) : Prop := ∃ q : vw_C, am_cl[ci]? = some q ∧ parseFieldDescriptor (q.2.1 j).2.2.1 = some ty ∧ (q.2.1 j).2.2.2 = fin
theorem am_get {l : Launch} {g : am_Gl} {Y : am_Y} {n0 : Nat} {ad0 : Nat → Nat} {P : am_P} {k z n : Nat} {σ : am_M} {pc : Nat} {lv : List (Nat × Value)} {st : List Value} {i ci N j idx : Nat} {v : Value} (d : decode Y.2.1 pc = .ok (.getfield idx, 3)) (hf : am_fl Y.1.cls idx ci j) (hi : i < n) (hs : am_sh i = (0, ci, N)) (hj : j < N) (hv : ∀ ad : Nat → Nat, am_fv g ad ci i j (σ i j) = am_tr ad v) (hr : am_rl n v) (kk : AW l g Y n0 ad0 P k z n σ (pc + 3) lv (v :: st)) : AW l g Y n0 ad0 P k z n σ pc lv (.ref i :: st) := by
  intro p e s m args below meth c C ad H locs ls hn hx hH hS hl hw
  obtain ⟨q, ty, h1, h2, h3, h4, h5, h6, -, -⟩ := hf
  refine va_get (D := g.1) (C := q.1) (T := q.2.1) (N := q.2.2) C.1 C.2.1 C.2.2.2.2.1 (fun w hw => List.mem_cons_of_mem _ (h5 w hw)) C.2.2.2.1 C.2.2.2.2.2.2.2.2.2.1.1 hH.1 i (by rw [am_ws_get hi, am_e_obj hs]) h1 j h2 (am_word_G C h3) (fun x hx => by rw [h4] at hx; exact hx) (v := am_tr ad v) ?_ d (kk p e s m args below meth c C ad H locs ls hn hx hH hS hl (am_wf_val hr (am_wf_tl hw)))
  rw [List.getElem?_map, List.getElem?_range hj]
  exact congrArg some (hv ad)
theorem am_getI {l : Launch} {g : am_Gl} {Y : am_Y} {n0 : Nat} {ad0 : Nat → Nat} {P : am_P} {k z n : Nat} {σ : am_M} {pc : Nat} {lv : List (Nat × Value)} {st : List Value} {i ci N j idx : Nat} (d : decode Y.2.1 pc = .ok (.getfield idx, 3)) (hf : am_fl Y.1.cls idx ci j) (hi : i < n) (hs : am_sh i = (0, ci, N)) (hj : j < N) (hr : am_fr ci j = false) (kk : AW l g Y n0 ad0 P k z n σ (pc + 3) lv (.int (σ i j) :: st)) : AW l g Y n0 ad0 P k z n σ pc lv (.ref i :: st) :=
  am_get d hf hi hs hj (v := .int (σ i j)) (fun ad => by simp [am_fv, hr, am_tr]) am_rl_int kk
theorem am_getR {l : Launch} {g : am_Gl} {Y : am_Y} {n0 : Nat} {ad0 : Nat → Nat} {P : am_P} {k z n : Nat} {σ : am_M} {pc : Nat} {lv : List (Nat × Value)} {st : List Value} {i ci N j idx t : Nat} (d : decode Y.2.1 pc = .ok (.getfield idx, 3)) (hf : am_fl Y.1.cls idx ci j) (hg : g.2.2.2.1 = true) (hi : i < n) (hs : am_sh i = (0, ci, N)) (hj : j < N) (hr : am_fr ci j = true) (h9 : (i == 182) = false) (ht : am_lk i j = t) (htn : t < n) (kk : AW l g Y n0 ad0 P k z n σ (pc + 3) lv (.ref t :: st)) : AW l g Y n0 ad0 P k z n σ pc lv (.ref i :: st) :=
  am_get d hf hi hs hj (v := .ref t) (fun ad => by simp [am_fv, hr, am_tr, am_rv, hg, h9, ht, va_rf, hs, hj]) (fun x hx => by cases hx; exact htn) kk
theorem am_putI {l : Launch} {g : am_Gl} {Y : am_Y} {n0 : Nat} {ad0 : Nat → Nat} {P : am_P} {k z n : Nat} {σ : am_M} {pc : Nat} {lv : List (Nat × Value)} {st : List Value} {i ci N j idx : Nat} {x : Int32} {ty : FieldType} (d : decode Y.2.1 pc = .ok (.putfield idx, 3)) (hf : am_fl Y.1.cls idx ci j) (ht : am_ft ci j ty false) (hi : i < n) (hs : am_sh i = (0, ci, N)) (hj : j < N) (hr : am_fr ci j = false) (hx1 : narrow ty (.int x) = .int x) (hx2 : fits ty (.int x) = true) (kk : AW l g Y n0 ad0 P k z n (am_set σ i j x) (pc + 3) lv st) : AW l g Y n0 ad0 P k z n σ pc lv (.int x :: .ref i :: st) := by
  intro p e s m args below meth c C ad H locs ls hn hx hH hS hl hw
  obtain ⟨q, ty', h1, h2, h3, h4, h5, h6, ⟨tyf, -, h7⟩, h8⟩ := hf
  obtain ⟨q', g1, g2, g3⟩ := ht
  cases h1.symm.trans g1
  refine va_put (D := g.1) (C := q.1) (T := q.2.1) (N := q.2.2) (ty := ty) C.1 C.2.1 C.2.2.2.2.1 (fun w hw => List.mem_cons_of_mem _ (h5 w hw)) tyf h7 h8 C.2.2.2.1 C.2.2.2.2.2.2.2.2.2.1.1 hH.1 hH.2.1 hS i (by rw [am_ws_get hi, am_e_obj hs]) h1 j h2 (am_word_G C h3) (fun x hx => by rw [h4] at hx; exact hx) g3 (v := .int x) g2 hx1 hx2 (by simpa using hj) d (fun H1 locs1 hP hD hS1 => ?_)
  have e1 : (am_ws g n ad σ).set i (ad i, .inr (ci, ((List.range N).map (fun k => am_fv g ad ci i k (σ i k))).set j (.int x))) = am_ws g n ad (am_set σ i j x) := by
    refine am_ws_set ?_ (fun b hb => am_set_o hb)
    rw [am_e_obj hs]
    congr 2
    apply List.ext_getElem?
    intro b
    by_cases hb : b < N
    · by_cases hbj : b = j
      · subst hbj
        rw [List.getElem?_set_self (by simpa using hb)]
        simp [hb, am_fv, hr, am_set, upd]
      · rw [List.getElem?_set_ne (fun q => hbj q.symm)]
        simp [hb, am_set, upd, hbj]
    · rw [List.getElem?_eq_none (by simp; omega), List.getElem?_eq_none (by simp; omega)]
  rw [e1] at hP hD
  exact kk p e s m args below meth c C ad H1 locs1 ls hn hx ⟨hP, hD, fun hf => am_mw_set hs (by decide) (hH.2.2 hf) (fun h9 => by rw [am_isr_obj hs, hr] at h9; cases h9)⟩ hS1 hl (am_wf_tl (am_wf_tl hw))
theorem am_iald {l : Launch} {g : am_Gl} {Y : am_Y} {n0 : Nat} {ad0 : Nat → Nat} {P : am_P} {k z n : Nat} {σ : am_M} {pc : Nat} {lv : List (Nat × Value)} {st : List Value} {i N : Nat} {x : Int32} (d : decode Y.2.1 pc = .ok (.iaload, 1)) (hi : i < n) (hs : am_sh i = (1, 0, N)) (hin : vp_in x N) (kk : AW l g Y n0 ad0 P k z n σ (pc + 1) lv (.int (σ i x.toNatClampNeg) :: st)) : AW l g Y n0 ad0 P k z n σ pc lv (.int x :: .ref i :: st) := by
  intro p e s m args below meth c C ad H locs ls hn hx hH hS hl hw
  exact va_iald C.1 C.2.1 C.2.2.2.2.2.2.2.2.2.1.1 hH.1 i 0 (by rw [am_ws_get hi, am_e_int hs (by decide)]) (am_tys_get (by decide)) hin d (kk p e s m args below meth c C ad H locs ls hn hx hH hS hl (am_wf_int (fun _ => by intro h; cases h) (am_wf_tl (am_wf_tl hw))))
theorem am_zald {l : Launch} {g : am_Gl} {Y : am_Y} {n0 : Nat} {ad0 : Nat → Nat} {P : am_P} {k z n : Nat} {σ : am_M} {pc : Nat} {lv : List (Nat × Value)} {st : List Value} {i N : Nat} {x : Int32} (d : decode Y.2.1 pc = .ok (.baload, 1)) (hi : i < n) (hs : am_sh i = (1, 1, N)) (hin : vp_in x N) (kk : AW l g Y n0 ad0 P k z n σ (pc + 1) lv (.int (σ i x.toNatClampNeg) :: st)) : AW l g Y n0 ad0 P k z n σ pc lv (.int x :: .ref i :: st) := by
  intro p e s m args below meth c C ad H locs ls hn hx hH hS hl hw
  exact va_zald C.1 C.2.1 C.2.2.2.2.2.2.2.2.2.1.1 hH.1 i 1 (by rw [am_ws_get hi, am_e_int hs (by decide)]) (am_tys_get (by decide)) hin d (kk p e s m args below meth c C ad H locs ls hn hx hH hS hl (am_wf_int (fun _ => by intro h; cases h) (am_wf_tl (am_wf_tl hw))))
theorem am_e_set {g : am_Gl} {ad : Nat → Nat} {σ : am_M} {i t N a : Nat} {x : Int32} (h : am_sh i = (1, t, N)) (ht : t < 2) : (Sum.inl (g.2.1 t, N, Sum.inl (upd (σ i) a x)) : va_E) = am_e g ad (am_set σ i a x) i := by
  rw [am_e_int h ht, am_set_s]
theorem am_iast {l : Launch} {g : am_Gl} {Y : am_Y} {n0 : Nat} {ad0 : Nat → Nat} {P : am_P} {k z n : Nat} {σ : am_M} {pc : Nat} {lv : List (Nat × Value)} {st : List Value} {i N : Nat} {x y : Int32} (d : decode Y.2.1 pc = .ok (.iastore, 1)) (hi : i < n) (hs : am_sh i = (1, 0, N)) (hin : vp_in x N) (kk : AW l g Y n0 ad0 P k z n (am_set σ i x.toNatClampNeg y) (pc + 1) lv st) : AW l g Y n0 ad0 P k z n σ pc lv (.int y :: .int x :: .ref i :: st) := by
  intro p e s m args below meth c C ad H locs ls hn hx hH hS hl hw
  refine va_iast C.1 C.2.1 C.2.2.2.2.2.2.2.2.2.1.1 hH.1 hH.2.1 hS i 0 (by rw [am_ws_get hi, am_e_int hs (by decide)]) (am_tys_get (by decide)) hin d (fun H1 locs1 hP hD hS1 => ?_)
  rw [am_ws_set (am_e_set hs (by decide)) (fun b hb => am_set_o hb)] at hP hD
  exact kk p e s m args below meth c C ad H1 locs1 ls hn hx ⟨hP, hD, fun hf => am_mw_set hs (by decide) (hH.2.2 hf) (fun h9 => by rw [am_isr_arr hs] at h9; cases h9)⟩ hS1 hl (am_wf_tl (am_wf_tl (am_wf_tl hw)))
theorem am_zast {l : Launch} {g : am_Gl} {Y : am_Y} {n0 : Nat} {ad0 : Nat → Nat} {P : am_P} {k z n : Nat} {σ : am_M} {pc : Nat} {lv : List (Nat × Value)} {st : List Value} {i N : Nat} {x y : Int32} (d : decode Y.2.1 pc = .ok (.bastore, 1)) (hi : i < n) (hs : am_sh i = (1, 1, N)) (hin : vp_in x N) (hy : y = 0 ∨ y = 1) (kk : AW l g Y n0 ad0 P k z n (am_set σ i x.toNatClampNeg y) (pc + 1) lv st) : AW l g Y n0 ad0 P k z n σ pc lv (.int y :: .int x :: .ref i :: st) := by
  intro p e s m args below meth c C ad H locs ls hn hx hH hS hl hw
  refine va_zast C.1 C.2.1 C.2.2.2.2.2.2.2.2.2.1.1 hH.1 hH.2.1 hS i 1 (by rw [am_ws_get hi, am_e_int hs (by decide)]) (am_tys_get (by decide)) hin d (fun H1 locs1 hP hD hS1 => ?_)
  have hy2 : vp_nar .boolean y = y := by rcases hy with rfl | rfl <;> rfl
  rw [hy2, am_ws_set (am_e_set hs (by decide)) (fun b hb => am_set_o hb)] at hP hD
  exact kk p e s m args below meth c C ad H1 locs1 ls hn hx ⟨hP, hD, fun hf => am_mw_set hs (by decide) (hH.2.2 hf) (fun h9 => by rw [am_isr_arr hs] at h9; cases h9)⟩ hS1 hl (am_wf_tl (am_wf_tl (am_wf_tl hw)))
theorem am_aald {l : Launch} {g : am_Gl} {Y : am_Y} {n0 : Nat} {ad0 : Nat → Nat} {P : am_P} {k z n : Nat} {σ : am_M} {pc : Nat} {lv : List (Nat × Value)} {st : List Value} {i t N b : Nat} {x : Int32} (d : decode Y.2.1 pc = .ok (.aaload, 1)) (hi : i < n) (hs : am_sh i = (1, t, N)) (ht : 2 < t ∧ t < 9) (hin : vp_in x N) (hv : am_rv g i x.toNatClampNeg (σ i x.toNatClampNeg) = some b) (hb : b < n) (kk : AW l g Y n0 ad0 P k z n σ (pc + 1) lv (.ref b :: st)) : AW l g Y n0 ad0 P k z n σ pc lv (.int x :: .ref i :: st) := by
  intro p e s m args below meth c C ad H locs ls hn hx hH hS hl hw
  obtain ⟨Cn, hC⟩ : ∃ Cn : String, am_ty t = .object Cn := by
    obtain ⟨h1, h2⟩ := ht
    match t, h1, h2 with
    | 3, _, _ => exact ⟨_, rfl⟩
    | 4, _, _ => exact ⟨_, rfl⟩
    | 5, _, _ => exact ⟨_, rfl⟩
    | 6, _, _ => exact ⟨_, rfl⟩
    | 7, _, _ => exact ⟨_, rfl⟩
    | 8, _, _ => exact ⟨_, rfl⟩
  refine va_aldq C.1 C.2.1 C.2.2.2.2.2.2.2.2.2.1.1 hH.1 i t (by rw [am_ws_get hi, am_e_ref hs ht.1]) (by rw [am_tys_get ht.2, hC]) hin d ?_
  rw [hv]
  exact kk p e s m args below meth c C ad H locs ls hn hx hH hS hl (am_wf_ref hb (am_wf_tl (am_wf_tl hw)))
theorem am_aalL {l : Launch} {g : am_Gl} {Y : am_Y} {n0 : Nat} {ad0 : Nat → Nat} {P : am_P} {k z n : Nat} {σ : am_M} {pc : Nat} {lv : List (Nat × Value)} {st : List Value} {i t N b : Nat} {x : Int32} (d : decode Y.2.1 pc = .ok (.aaload, 1)) (hg : g.2.2.2.1 = true) (hi : i < n) (hs : am_sh i = (1, t, N)) (ht : 2 < t ∧ t < 9) (h9 : (i == 182) = false) (hin : vp_in x N) (hv : am_lk i x.toNatClampNeg = b) (hb : b < n) (kk : AW l g Y n0 ad0 P k z n σ (pc + 1) lv (.ref b :: st)) : AW l g Y n0 ad0 P k z n σ pc lv (.int x :: .ref i :: st) :=
  am_aald d hi hs ht hin (by have hlt : x.toNatClampNeg < N := Nat.not_le.mp fun q => hin (Or.inr q); simp [am_rv, hg, h9, hv, hs, hlt]) hb kk
theorem am_alen {l : Launch} {g : am_Gl} {Y : am_Y} {n0 : Nat} {ad0 : Nat → Nat} {P : am_P} {k z n : Nat} {σ : am_M} {pc : Nat} {lv : List (Nat × Value)} {st : List Value} {i t N : Nat} {v : Int32} (d : decode Y.2.1 pc = .ok (.arraylength, 1)) (hi : i < n) (hs : am_sh i = (1, t, N)) (ht : t < 9) (hv : Int32.ofNat N = v) (kk : AW l g Y n0 ad0 P k z n σ (pc + 1) lv (.int v :: st)) : AW l g Y n0 ad0 P k z n σ pc lv (.ref i :: st) := by
  intro p e s m args below meth c C ad H locs ls hn hx hH hS hl hw
  obtain ⟨x, hx9, hxN⟩ : ∃ x : vp_A, am_e g ad σ i = .inl (g.2.1 t, x) ∧ x.1 = N := by
    rw [am_e, if_pos (am_sh_lt hs (by decide))]; simp only [am_e1, hs]; exact ⟨_, rfl, rfl⟩
  exact va_alen (x := x) C.1 C.2.1 C.2.2.2.2.2.2.2.2.2.1.1 hH.1 i t (cA := g.2.1 t) (by rw [am_ws_get hi, hx9]) (am_tys_get ht) (by rw [hxN]; exact hv) d (kk p e s m args below meth c C ad H locs ls hn hx hH hS hl (am_wf_int (fun _ => by intro h; cases h) (am_wf_tl hw)))
