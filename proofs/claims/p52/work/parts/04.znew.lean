/-! making of cells, handlers; written by wip/p52/gen7.py -/
def am_up (ad : Nat → Nat) (n q : Nat) : Nat → Nat := fun i => if i = n then q else ad i
theorem am_up_lt {ad : Nat → Nat} {n q i : Nat} (h : i < n) : am_up ad n q i = ad i := by simp [am_up, Nat.ne_of_lt h]
theorem am_rv_lt {g : am_Gl} {n i k : Nat} {σ : am_M} (hg : g.2.2.2.1 = false) (hm : am_mw n σ) (hi : i < n) (hr : am_isr i k = true) {b : Nat} (hb : am_rv g i k (σ i k) = some b) : b < n := by
  rw [am_rv, hg] at hb
  rcases hm.1 i k hi hr with h | h
  · simp [h] at hb
  · by_cases h0 : σ i k < 0
    · simp [h0] at hb
    · simp [h0] at hb
      rw [← hb]; exact h
theorem am_e_up {g : am_Gl} {ad : Nat → Nat} {n q i : Nat} {σ σ' : am_M} (hn207 : n < 207) (hg : g.2.2.2.1 = false) (hm : am_mw n σ) (hi : i < n) (hσ : σ' i = σ i) : am_e g ad σ i = am_e g (am_up ad n q) σ' i := by
  have key : ∀ k, am_isr i k = true → (am_rv g i k (σ i k)).map ad = (am_rv g i k (σ i k)).map (am_up ad n q) := by
    intro k hk
    cases hb : am_rv g i k (σ i k) with
    | none => rfl
    | some b => simp [am_up_lt (am_rv_lt hg hm hi hk hb)]
  unfold am_e
  rw [if_pos (by omega), if_pos (by omega)]
  unfold am_e1
  rw [hσ]
  by_cases h0 : (am_sh i).1 = 0
  · rw [if_pos h0, if_pos h0]
    congr 2
    apply List.map_congr_left
    intro k _
    unfold am_fv
    by_cases hf : am_fr (am_sh i).2.1 k = true
    · rw [if_pos hf, if_pos hf, key k (by simp [am_isr, h0, hf])]
    · rw [if_neg hf, if_neg hf]
  · rw [if_neg h0, if_neg h0]
    by_cases h1 : (am_sh i).2.1 < 2
    · simp [h1]
    · by_cases h2 : (am_sh i).2.1 = 2
      · simp [h2]
      · simp only [h1, h2, if_false]
        congr 7
        funext j
        exact key j (by simp [am_isr, h0]; omega)
theorem am_ws_push {g : am_Gl} {ad : Nat → Nat} {n q : Nat} {σ : am_M} {f : Nat → Int32} {e : va_E} (hn207 : n < 207) (hg : g.2.2.2.1 = false) (hm : am_mw n σ) (he : e = am_e g (am_up ad n q) (am_put σ n f) n) : am_ws g n ad σ ++ [(q, e)] = am_ws g (n + 1) (am_up ad n q) (am_put σ n f) := by
  unfold am_ws
  rw [List.range_succ, List.map_append]
  congr 1
  · apply List.map_congr_left
    intro i hi
    have hi := List.mem_range.mp hi
    rw [am_up_lt hi, am_e_up (q := q) (σ' := am_put σ n f) hn207 hg hm hi (am_put_o (Nat.ne_of_lt hi))]
  · simp [he, am_up]
theorem am_mw_push {n : Nat} {σ : am_M} {f : Nat → Int32} (hn207 : n < 207) (h : am_mw n σ) (hf : ∀ j, am_isr n j = true → f j < 0) : am_mw (n + 1) (am_put σ n f) := by
  refine ⟨?_, fun i j hi => absurd hi (by omega)⟩
  intro i j hi hj
  by_cases hin : i = n
  · subst hin
    exact Or.inl (by simpa [am_put] using hf j hj)
  · rw [am_put_o hin]
    rcases h.1 i j (by omega) hj with h | h
    · exact Or.inl h
    · exact Or.inr (by omega)
/-- what a new object's words are -/
def am_z (ci : Nat) : Nat → Int32 := fun k => if am_fr ci k then -1 else 0
def am_nw (own : String) (idx ci N : Nat) : Prop := ∃ (q : vw_C) (tyf : Nat → FieldType), am_cl[ci]? = some q ∧ q.2.2 = N ∧ Cond.classLink own idx q.1 ∈ am_G ∧ Cond.instantiable q.1 N ∈ am_G ∧ Cond.initialized q.1 ∈ am_G ∧ (∀ w ∈ u_ws q.1 q.2.1 q.2.2, w ∈ am_G) ∧ (∀ k, k < q.2.2 → parseFieldDescriptor (q.2.1 k).2.2.1 = some (tyf k)) ∧ ∀ k, k < q.2.2 → defaultValue (tyf k) = if am_fr ci k then .null else .int 0
theorem am_new {l : Launch} {g : am_Gl} {Y : am_Y} {n0 : Nat} {ad0 : Nat → Nat} {P : am_P} {k z n : Nat} {σ : am_M} {pc : Nat} {lv : List (Nat × Value)} {st : List Value} {idx ci N : Nat} (d : decode Y.2.1 pc = .ok (.new idx, 3)) (hnw : am_nw Y.1.cls idx ci N) (hg : g.2.2.2.1 = false) (hs : am_sh n = (0, ci, N)) (hk : k + 1 ≤ am_yc Y) (hz : z + N ≤ am_ys Y) (kk : AW l g Y n0 ad0 P (k + 1) (z + N) (n + 1) (am_put σ n (am_z ci)) (pc + 3) lv (.ref n :: st)) : AW l g Y n0 ad0 P k z n σ pc lv st := by
  intro p e s m args below meth c C ad H locs ls hn hx hH hS hl hw
  obtain ⟨q, tyf, h1, h2, h3, h4, h5, h6, h7, h8⟩ := hnw
  subst h2
  have hA : ∀ x, s.heap.size ≤ x → am_A g x := fun x hx9 => C.2.2.2.2.2.2.2.2.2.2.1 x hx9
  refine va_new (D := g.1) (C := q.1) (T := q.2.1) (N := q.2.2) (fs := (List.range q.2.2).map (fun k => if am_fr ci k then Value.null else .int 0)) C.1 C.2.1 C.2.2.2.2.1 (fun w hw => List.mem_cons_of_mem _ (h6 w hw)) tyf h7 C.2.2.2.1 (am_word_G C h3) (am_word_G C h4) (am_word_G C h5) C.2.2.2.2.2.2.2.2.2.1.1 hH.1 hH.2.1 hS hA h1 (fun j hj => by rw [h8 j hj]; simp [vp_V, hj]) hk hz d (fun a H1 hP hD hS1 => ?_)
  have e1 : (Sum.inr (ci, (List.range q.2.2).map (fun k => if am_fr ci k then Value.null else .int 0)) : va_E) = am_e g (am_up ad n a) (am_put σ n (am_z ci)) n := by
    rw [am_e_obj hs]
    congr 2
    apply List.map_congr_left
    intro b _
    rw [am_put_s]
    by_cases hb : am_fr ci b = true
    · simp [am_fv, hb, am_z, am_rv, hg, va_rf]
    · simp [am_fv, hb, am_z]
  rw [am_ws_push (am_sh_lt hs (by decide)) hg (hH.2.2 hg) e1] at hP hD
  have hx1 : ∀ i, i < n → am_up ad n a i = ad i := fun i hi => am_up_lt hi
  have hw2 := hw
  rw [am_extlv hx1 hw.1] at hl
  have K := kk p e s m args below meth c C (am_up ad n a) H1 locs ls (Nat.le_succ_of_le hn) (fun i hi => (hx1 i (Nat.lt_of_lt_of_le hi hn)).trans (hx i hi)) ⟨hP, hD, fun hf => am_mw_push (am_sh_lt hs (by decide)) (hH.2.2 hf) (fun j hj => by rw [am_isr_obj hs] at hj; simp [am_z, hj])⟩ hS1 hl ⟨fun x hx9 => am_rl_le (Nat.le_succ n) (hw.1 x hx9), fun v hv => by
    rcases List.mem_cons.mp hv with h | h
    · rw [h]; intro i hi; cases hi; exact Nat.lt_succ_self n
    · exact am_rl_le (Nat.le_succ n) (hw.2 v h)⟩
  have e2 : am_up ad n a n = a := by simp [am_up]
  rw [List.map_cons, ← am_extst hx1 hw.2] at K
  simp only [am_tr, e2] at K
  exact K
theorem am_newa {l : Launch} {g : am_Gl} {Y : am_Y} {n0 : Nat} {ad0 : Nat → Nat} {P : am_P} {k z n : Nat} {σ : am_M} {pc : Nat} {lv : List (Nat × Value)} {st : List Value} {x : Int32} {t N : Nat} {aty : ArrayType} (d : decode Y.2.1 pc = .ok (.newarray aty, 2)) (hty : newarray.typeOf aty = am_ty t) (ht : t < 2) (hac : Cond.arrayClass (am_ty t) ∈ am_G) (hg : g.2.2.2.1 = false) (hs : am_sh n = (1, t, N)) (hx0 : ¬ x < 0) (hxN : x.toNatClampNeg = N) (hN : N ≤ 60000) (hk : k + 1 ≤ am_yc Y) (hz : z + N ≤ am_ys Y) (kk : AW l g Y n0 ad0 P (k + 1) (z + N) (n + 1) (am_put σ n (fun _ => 0)) (pc + 2) lv (.ref n :: st)) : AW l g Y n0 ad0 P k z n σ pc lv (.int x :: st) := by
  intro p e s m args below meth c C ad H locs ls hn hx hH hS hl hw
  have hA : ∀ x, s.heap.size ≤ x → am_A g x := fun x hx9 => C.2.2.2.2.2.2.2.2.2.2.1 x hx9
  have ha : ∃ a0 : vp_A, (∀ cA : ClassId, vp_cell cA a0 = arrV cA N (fun _ => defaultValue (am_ty t))) ∧ ∀ (cA : ClassId) (a : Nat), cA = g.2.1 t → (Sum.inl (cA, a0) : va_E) = am_e g (am_up ad n a) (am_put σ n (fun _ => 0)) n := by
    match t, ht, hs with
    | 0, _, hs => exact ⟨(N, .inl (fun _ => 0)), fun cA => rfl, fun cA a h => by rw [am_e_int hs (by decide), am_put_s, h]⟩
    | 1, _, hs => exact ⟨(N, .inl (fun _ => 0)), fun cA => rfl, fun cA a h => by rw [am_e_int hs (by decide), am_put_s, h]⟩
  obtain ⟨a0, ha1, ha2⟩ := ha
  have hbytes : N * componentBytes (am_ty t) ≤ 536870912 := by
    have : componentBytes (am_ty t) ≤ 8 := by
      match t, ht with
      | 0, _ => decide
      | 1, _ => decide
    have h2 := Nat.mul_le_mul hN this
    omega
  refine va_newa (a0 := a0) (ty := am_ty t) C.1 C.2.1 (by rw [hty]; exact am_word_G C hac) hty C.2.2.2.2.2.2.2.2.2.1.1 hH.1 hH.2.1 hS hA ha1 hx0 hxN hbytes hk hz d (fun a cA H1 hK1 hP hD hS1 => ?_)
  have hcA : cA = g.2.1 t := by
    have r1 := (hK1.2 9 (cA, am_ty t) (by rw [List.getElem?_append_right (by simp [am_tys])]; simp [am_tys])).2
    have r2 := (C.2.2.2.2.2.2.2.2.2.1.1.2 t _ (am_tys_get (g := g) (Nat.lt_trans ht (by decide)))).2
    have : ∀ ty : FieldType, (ty = .int ∨ ty = .boolean ∨ ty = .long) → va_RA s cA ty → va_RA s (g.2.1 t) ty → cA = g.2.1 t := by
      intro ty h q1 q2
      rcases h with rfl | rfl | rfl
      · exact Option.some.inj (Eq.trans (Eq.symm q1) q2)
      · exact Option.some.inj (Eq.trans (Eq.symm q1) q2)
      · exact Option.some.inj (Eq.trans (Eq.symm q1) q2)
    refine this (am_ty t) ?_ r1 r2
    match t, ht with
    | 0, _ => exact Or.inl rfl
    | 1, _ => exact Or.inr (Or.inl rfl)
  rw [am_ws_push (am_sh_lt hs (by decide)) hg (hH.2.2 hg) (ha2 cA a hcA)] at hP hD
  have hx1 : ∀ i, i < n → am_up ad n a i = ad i := fun i hi => am_up_lt hi
  rw [am_extlv hx1 hw.1] at hl
  have K := kk p e s m args below meth c C (am_up ad n a) H1 locs ls (Nat.le_succ_of_le hn) (fun i hi => (hx1 i (Nat.lt_of_lt_of_le hi hn)).trans (hx i hi)) ⟨hP, hD, fun hf => am_mw_push (am_sh_lt hs (by decide)) (hH.2.2 hf) (fun j hj => by rw [am_isr_arr hs] at hj; simp at hj; omega)⟩ hS1 hl ⟨fun x hx9 => am_rl_le (Nat.le_succ n) (hw.1 x hx9), fun v hv => by
    rcases List.mem_cons.mp hv with h | h
    · rw [h]; intro i hi; cases hi; exact Nat.lt_succ_self n
    · exact am_rl_le (Nat.le_succ n) (hw.2 v (List.mem_cons_of_mem _ h))⟩
  have e2 : am_up ad n a n = a := by simp [am_up]
  rw [List.map_cons, ← am_extst hx1 (fun v hv => hw.2 v (List.mem_cons_of_mem _ hv))] at K
  simp only [am_tr, e2] at K
  exact K
theorem am_newr {l : Launch} {g : am_Gl} {Y : am_Y} {n0 : Nat} {ad0 : Nat → Nat} {P : am_P} {k z n : Nat} {σ : am_M} {pc : Nat} {lv : List (Nat × Value)} {st : List Value} {x : Int32} {t N idx : Nat} {Cn : String} (d : decode Y.2.1 pc = .ok (.anewarray idx, 3)) (hty : am_ty t = .object Cn) (ht : 2 < t ∧ t < 9) (hcl : Cond.classLink Y.1.cls idx Cn ∈ am_G) (hov : Cn ∈ am_N3) (hg : g.2.2.2.1 = false) (hs : am_sh n = (1, t, N)) (hx0 : ¬ x < 0) (hxN : x.toNatClampNeg = N) (hN : N ≤ 60000) (hk : k + 1 ≤ am_yc Y) (hz : z + N ≤ am_ys Y) (kk : AW l g Y n0 ad0 P (k + 1) (z + N) (n + 1) (am_put σ n (fun _ => -1)) (pc + 3) lv (.ref n :: st)) : AW l g Y n0 ad0 P k z n σ pc lv (.int x :: st) := by
  intro p e s m args below meth c C ad H locs ls hn hx hH hS hl hw
  have hA : ∀ x, s.heap.size ≤ x → am_A g x := fun x hx9 => C.2.2.2.2.2.2.2.2.2.2.1 x hx9
  refine va_newq (C := Cn) C.1 C.2.1 C.2.2.2.1 (am_word_G C hcl) (C.2.2.2.2.2.2.2.2.2.1.2.2.2.1 Cn hov) C.2.2.2.2.2.2.2.2.2.1.1 hH.1 hH.2.1 hS hA hx0 hxN (by omega) hk hz d (fun a cA H1 hK1 hP hD hS1 => ?_)
  have hcA : cA = g.2.1 t := by
    have r1 := (hK1.2 9 (cA, .object Cn) (by rw [List.getElem?_append_right (by simp [am_tys])]; simp [am_tys])).2
    have r2 := (C.2.2.2.2.2.2.2.2.2.1.1.2 t _ (am_tys_get (g := g) ht.2)).2
    rw [hty] at r2
    obtain ⟨_, _, _, _, _, q1⟩ := r1
    obtain ⟨_, _, _, _, _, q2⟩ := r2
    exact Option.some.inj (Eq.trans (Eq.symm q1) q2)
  have e1 : (Sum.inl (cA, N, Sum.inr (Sum.inr (Sum.inr (Sum.inr (fun _ => none))))) : va_E) = am_e g (am_up ad n a) (am_put σ n (fun _ => -1)) n := by
    rw [am_e_ref hs ht.1, am_put_s, hcA]
    congr 7
    funext j
    simp [am_rv, hg]
  rw [am_ws_push (am_sh_lt hs (by decide)) hg (hH.2.2 hg) e1] at hP hD
  have hx1 : ∀ i, i < n → am_up ad n a i = ad i := fun i hi => am_up_lt hi
  rw [am_extlv hx1 hw.1] at hl
  have K := kk p e s m args below meth c C (am_up ad n a) H1 locs ls (Nat.le_succ_of_le hn) (fun i hi => (hx1 i (Nat.lt_of_lt_of_le hi hn)).trans (hx i hi)) ⟨hP, hD, fun hf => am_mw_push (am_sh_lt hs (by decide)) (hH.2.2 hf) (fun j hj => by decide)⟩ hS1 hl ⟨fun x hx9 => am_rl_le (Nat.le_succ n) (hw.1 x hx9), fun v hv => by
    rcases List.mem_cons.mp hv with h | h
    · rw [h]; intro i hi; cases hi; exact Nat.lt_succ_self n
    · exact am_rl_le (Nat.le_succ n) (hw.2 v (List.mem_cons_of_mem _ h))⟩
  have e2 : am_up ad n a n = a := by simp [am_up]
  rw [List.map_cons, ← am_extst hx1 (fun v hv => hw.2 v (List.mem_cons_of_mem _ hv))] at K
  simp only [am_tr, e2] at K
  exact K
/-- a final link, in a constructor -/
theorem am_putR {l : Launch} {g : am_Gl} {Y : am_Y} {n0 : Nat} {ad0 : Nat → Nat} {P : am_P} {k z n : Nat} {σ : am_M} {pc : Nat} {lv : List (Nat × Value)} {st : List Value} {i ci N j idx b : Nat} {x : Int32} {ty : FieldType} (d : decode Y.2.1 pc = .ok (.putfield idx, 3)) (hf : am_fl Y.1.cls idx ci j) (ht : am_ft ci j ty true) (hcls : (am_cl[ci]?).map Prod.fst = some Y.1.cls) (hin : Y.1.name = "<init>") (hg : g.2.2.2.1 = false) (hi : i < n) (hs : am_sh i = (0, ci, N)) (hj : j < N) (hr : am_fr ci j = true) (hrt : (∃ q, ty = .object q) ∨ ∃ q, ty = .array q) (hx0 : ¬ x < 0) (hxb : x.toNatClampNeg = b) (kk : AW l g Y n0 ad0 P k z n (am_set σ i j x) (pc + 3) lv st) : AW l g Y n0 ad0 P k z n σ pc lv (.ref b :: .ref i :: st) := by
  intro p e s m args below meth c C ad H locs ls hn hx hH hS hl hw
  obtain ⟨q, ty', h1, h2, h3, h4, h5, h6, ⟨tyf, -, h7⟩, h8⟩ := hf
  obtain ⟨q', g1, g2, g3⟩ := ht
  cases h1.symm.trans g1
  have hq1 : q.1 = Y.1.cls := by rw [h1] at hcls; exact Option.some.inj hcls
  have hb : b < n := am_wf_hd hw b rfl
  refine va_putF (D := g.1) (C := q.1) (T := q.2.1) (N := q.2.2) (ty := ty) (v := .ref (ad b)) C.1 C.2.1 C.2.2.2.2.1 (fun w hw => List.mem_cons_of_mem _ (h5 w hw)) tyf h7 h8 C.2.2.2.1 C.2.2.2.2.2.2.2.2.2.1.1 hH.1 hH.2.1 hS i (by rw [am_ws_get hi, am_e_obj hs]) h1 j h2 (am_word_G C h3) (fun x hx => by rw [h4] at hx; exact hx) g3 (C.2.2.2.2.2.2.2.1.trans hin) (h4.trans hq1) g2 (by rcases hrt with ⟨q, rfl⟩ | ⟨q, rfl⟩ <;> rfl) (by rcases hrt with ⟨q, rfl⟩ | ⟨q, rfl⟩ <;> rfl) (by simpa using hj) d (fun H1 locs1 hP hD hS1 => ?_)
  have e1 : (am_ws g n ad σ).set i (ad i, .inr (ci, ((List.range N).map (fun k => am_fv g ad ci i k (σ i k))).set j (.ref (ad b)))) = am_ws g n ad (am_set σ i j x) := by
    refine am_ws_set ?_ (fun b hb => am_set_o hb)
    rw [am_e_obj hs]
    congr 2
    apply List.ext_getElem?
    intro a
    by_cases ha : a < N
    · by_cases haj : a = j
      · subst haj
        rw [List.getElem?_set_self (by simpa using ha)]
        simp [ha, am_fv, hr, am_set, upd, am_rv, hg, hx0, hxb, va_rf]
      · rw [List.getElem?_set_ne (fun q => haj q.symm)]
        simp [ha, am_set, upd, haj]
    · rw [List.getElem?_eq_none (by simp; omega), List.getElem?_eq_none (by simp; omega)]
  rw [e1] at hP hD
  exact kk p e s m args below meth c C ad H1 locs1 ls hn hx ⟨hP, hD, fun hf => am_mw_set hs (by decide) (hH.2.2 hf) (fun _ => Or.inr (by rw [hxb]; exact hb))⟩ hS1 hl (am_wf_tl (am_wf_tl hw))
theorem am_get0 {l : Launch} {g : am_Gl} {Y : am_Y} {n0 : Nat} {ad0 : Nat → Nat} {P : am_P} {k z n : Nat} {σ : am_M} {pc : Nat} {lv : List (Nat × Value)} {st : List Value} {i ci N j idx b : Nat} (d : decode Y.2.1 pc = .ok (.getfield idx, 3)) (hf : am_fl Y.1.cls idx ci j) (hg : g.2.2.2.1 = false) (hi : i < n) (hs : am_sh i = (0, ci, N)) (hj : j < N) (hr : am_fr ci j = true) (hx0 : ¬ σ i j < 0) (hb : (σ i j).toNatClampNeg = b) (hbn : b < n) (kk : AW l g Y n0 ad0 P k z n σ (pc + 3) lv (.ref b :: st)) : AW l g Y n0 ad0 P k z n σ pc lv (.ref i :: st) :=
  am_get d hf hi hs hj (v := .ref b) (fun ad => by simp [am_fv, hr, am_tr, am_rv, hg, hx0, hb, va_rf]) (fun x hx => by cases hx; exact hbn) kk

