theorem cw_newa {l : Launch} {g : am_Gl} {Y : am_Y} {n0 : Nat} {ad0 : Nat → Nat} {P : am_P} {k z n : Nat} {σ : am_M} {pc : Nat} {lv : List (Nat × Value)} {st : List Value} {s0 : am_M} {lo : Nat} {op : List (Nat × (Nat → Int32))} {x : Int32} {t N : Nat} {aty : ArrayType} (m k2 z2 : Nat) (d : decode Y.2.1 pc = .ok (.newarray aty, 2)) (hty : newarray.typeOf aty = am_ty t) (ht : t < 3) (hac : Cond.arrayClass (am_ty t) ∈ am_G) (hg : g.2.2.2.1 = false) (hs : am_sh n = (1, t, N)) (hx0 : ¬ x < 0) (hxN : x.toNatClampNeg = N) (hN : N ≤ 60000) (hC : Co s0 σ lo n op) (hlo : lo ≤ n) (hop : ∀ q ∈ op, q.1 < n) (hI : am_I n = fun _ => 0) (hm : n + 1 = m) (hk : k + 1 = k2) (hz : z + N = z2) (hk2 : k2 ≤ am_yc Y) (hz2 : z2 ≤ am_ys Y) (kk : ∀ σ' : am_M, Co s0 σ' lo m op → AW l g Y n0 ad0 P k2 z2 m σ' (pc + 2) lv (.ref n :: st)) : AW l g Y n0 ad0 P k z n σ pc lv (.int x :: st) := by
  subst hm; subst hk; subst hz
  exact am_newa d hty ht hac hg hs hx0 hxN hN hk2 hz2 (kk _ (Co_new hC hlo hop hI))
theorem cw_newaO {l : Launch} {g : am_Gl} {Y : am_Y} {n0 : Nat} {ad0 : Nat → Nat} {P : am_P} {k z n : Nat} {σ : am_M} {pc : Nat} {lv : List (Nat × Value)} {st : List Value} {s0 : am_M} {lo : Nat} {op : List (Nat × (Nat → Int32))} {x : Int32} {t N : Nat} {aty : ArrayType} (m k2 z2 : Nat) (d : decode Y.2.1 pc = .ok (.newarray aty, 2)) (hty : newarray.typeOf aty = am_ty t) (ht : t < 3) (hac : Cond.arrayClass (am_ty t) ∈ am_G) (hg : g.2.2.2.1 = false) (hs : am_sh n = (1, t, N)) (hx0 : ¬ x < 0) (hxN : x.toNatClampNeg = N) (hN : N ≤ 60000) (hC : Co s0 σ lo n op) (hlo : lo ≤ n) (hop : ∀ q ∈ op, q.1 < n) (hm : n + 1 = m) (hk : k + 1 = k2) (hz : z + N = z2) (hk2 : k2 ≤ am_yc Y) (hz2 : z2 ≤ am_ys Y) (kk : ∀ σ' : am_M, Co s0 σ' lo m ((n, fun _ => 0) :: op) → AW l g Y n0 ad0 P k2 z2 m σ' (pc + 2) lv (.ref n :: st)) : AW l g Y n0 ad0 P k z n σ pc lv (.int x :: st) := by
  subst hm; subst hk; subst hz
  exact am_newa d hty ht hac hg hs hx0 hxN hN hk2 hz2 (kk _ (Co_open hC hlo hop))
theorem cw_newr {l : Launch} {g : am_Gl} {Y : am_Y} {n0 : Nat} {ad0 : Nat → Nat} {P : am_P} {k z n : Nat} {σ : am_M} {pc : Nat} {lv : List (Nat × Value)} {st : List Value} {s0 : am_M} {lo : Nat} {op : List (Nat × (Nat → Int32))} {x : Int32} {t N idx : Nat} {Cn : String} (m k2 z2 : Nat) (d : decode Y.2.1 pc = .ok (.anewarray idx, 3)) (hty : am_ty t = .object Cn) (ht : 2 < t ∧ t < 9) (hcl : Cond.classLink Y.1.cls idx Cn ∈ am_G) (hov : Cn ∈ am_N3) (hg : g.2.2.2.1 = false) (hs : am_sh n = (1, t, N)) (hx0 : ¬ x < 0) (hxN : x.toNatClampNeg = N) (hN : N ≤ 60000) (hC : Co s0 σ lo n op) (hlo : lo ≤ n) (hop : ∀ q ∈ op, q.1 < n) (hm : n + 1 = m) (hk : k + 1 = k2) (hz : z + N = z2) (hk2 : k2 ≤ am_yc Y) (hz2 : z2 ≤ am_ys Y) (kk : ∀ σ' : am_M, Co s0 σ' lo m ((n, fun _ => -1) :: op) → AW l g Y n0 ad0 P k2 z2 m σ' (pc + 3) lv (.ref n :: st)) : AW l g Y n0 ad0 P k z n σ pc lv (.int x :: st) := by
  subst hm; subst hk; subst hz
  exact am_newr d hty ht hcl hov hg hs hx0 hxN hN hk2 hz2 (kk _ (Co_open hC hlo hop))
theorem cw_new {l : Launch} {g : am_Gl} {Y : am_Y} {n0 : Nat} {ad0 : Nat → Nat} {P : am_P} {k z n : Nat} {σ : am_M} {pc : Nat} {lv : List (Nat × Value)} {st : List Value} {s0 : am_M} {lo : Nat} {op : List (Nat × (Nat → Int32))} {idx ci N : Nat} (m k2 z2 : Nat) (d : decode Y.2.1 pc = .ok (.new idx, 3)) (hnw : am_nw Y.1.cls idx ci N) (hg : g.2.2.2.1 = false) (hs : am_sh n = (0, ci, N)) (hC : Co s0 σ lo n op) (hlo : lo ≤ n) (hop : ∀ q ∈ op, q.1 < n) (hm : n + 1 = m) (hk : k + 1 = k2) (hz : z + N = z2) (hk2 : k2 ≤ am_yc Y) (hz2 : z2 ≤ am_ys Y) (kk : ∀ σ' : am_M, Co s0 σ' lo m ((n, am_z ci) :: op) → AW l g Y n0 ad0 P k2 z2 m σ' (pc + 3) lv (.ref n :: st)) : AW l g Y n0 ad0 P k z n σ pc lv st := by
  subst hm; subst hk; subst hz
  exact am_new d hnw hg hs hk2 hz2 (kk _ (Co_open hC hlo hop))
theorem cw_putR {l : Launch} {g : am_Gl} {Y : am_Y} {n0 : Nat} {ad0 : Nat → Nat} {P : am_P} {k z n : Nat} {σ : am_M} {pc : Nat} {lv : List (Nat × Value)} {st : List Value} {s0 : am_M} {lo : Nat} {op : List (Nat × (Nat → Int32))} {i ci N j idx b : Nat} {ty : FieldType} {f : Nat → Int32} (d : decode Y.2.1 pc = .ok (.putfield idx, 3)) (hf : am_fl Y.1.cls idx ci j) (ht : am_ft ci j ty true) (hcls : (am_cl[ci]?).map Prod.fst = some Y.1.cls) (hin : Y.1.name = "<init>") (hg : g.2.2.2.1 = false) (hi : i < n) (hs : am_sh i = (0, ci, N)) (hj : j < N) (hr : am_fr ci j = true) (hrt : (∃ q, ty = .object q) ∨ ∃ q, ty = .array q) (hb : b < 2 ^ 31) (hC : Co s0 σ lo n ((i, f) :: op)) (hlo : lo ≤ i) (hop : ∀ q ∈ op, q.1 ≠ i) (kk : ∀ σ' : am_M, Co s0 σ' lo n ((i, upd f j (nI b)) :: op) → AW l g Y n0 ad0 P k z n σ' (pc + 3) lv st) : AW l g Y n0 ad0 P k z n σ pc lv (.ref b :: .ref i :: st) :=
  am_putR (x := nI b) d hf ht hcls hin hg hi hs hj hr hrt (nI_pos hb) (nI_clamp hb) (kk _ (Co_set hC hlo hop))
theorem cw_putI {l : Launch} {g : am_Gl} {Y : am_Y} {n0 : Nat} {ad0 : Nat → Nat} {P : am_P} {k z n : Nat} {σ : am_M} {pc : Nat} {lv : List (Nat × Value)} {st : List Value} {s0 : am_M} {lo : Nat} {op : List (Nat × (Nat → Int32))} {i ci N j idx : Nat} {x : Int32} {f : Nat → Int32} (d : decode Y.2.1 pc = .ok (.putfield idx, 3)) (hf : am_fl Y.1.cls idx ci j) (ht : am_ft ci j .int false) (hi : i < n) (hs : am_sh i = (0, ci, N)) (hj : j < N) (hr : am_fr ci j = false) (hC : Co s0 σ lo n ((i, f) :: op)) (hlo : lo ≤ i) (hop : ∀ q ∈ op, q.1 ≠ i) (kk : ∀ σ' : am_M, Co s0 σ' lo n ((i, upd f j x) :: op) → AW l g Y n0 ad0 P k z n σ' (pc + 3) lv st) : AW l g Y n0 ad0 P k z n σ pc lv (.int x :: .ref i :: st) :=
  am_putI (ty := .int) d hf ht hi hs hj hr rfl rfl (kk _ (Co_set hC hlo hop))
theorem cw_get {l : Launch} {g : am_Gl} {Y : am_Y} {n0 : Nat} {ad0 : Nat → Nat} {P : am_P} {k z n : Nat} {σ : am_M} {pc : Nat} {lv : List (Nat × Value)} {st : List Value} {s0 : am_M} {lo : Nat} {op : List (Nat × (Nat → Int32))} {i ci N j idx b a : Nat} {f : Nat → Int32} (d : decode Y.2.1 pc = .ok (.getfield idx, 3)) (hf : am_fl Y.1.cls idx ci j) (hg : g.2.2.2.1 = false) (hi : i < n) (hs : am_sh i = (0, ci, N)) (hj : j < N) (hr : am_fr ci j = true) (hC : Co s0 σ lo n op) (hq : op[a]? = some (i, f)) (hv : f j = nI b) (hbn : b < n) (hn : n < 1000) (kk : AW l g Y n0 ad0 P k z n σ (pc + 3) lv (.ref b :: st)) : AW l g Y n0 ad0 P k z n σ pc lv (.ref i :: st) := by
  have e : σ i j = nI b := by rw [hC.2.2 (i, f) (List.mem_of_getElem? hq)]; exact hv
  exact am_get0 d hf hg hi hs hj hr (by rw [e]; exact nI_pos (by omega)) (by rw [e]; exact nI_clamp (by omega)) hbn kk
theorem cw_fill {l : Launch} {g : am_Gl} {Y : am_Y} {n0 : Nat} {ad0 : Nat → Nat} {P : am_P} {k z n : Nat} {σ : am_M} {pc : Nat} {lv : List (Nat × Value)} {st : List Value} {s0 : am_M} {lo : Nat} {op : List (Nat × (Nat → Int32))} {a N idx na : Nat} {v : Int32} {f : Nat → Int32} (d : decode Y.2.1 pc = .ok (.invokestatic idx, 3)) (cw : am_cs Y m_JF_fill idx 2) (ha : a < n) (hs : am_sh a = (1, 0, N)) (hN : N < 2 ^ 30) (hcat : (st.map fun v => v.category).sum ≤ 8) (hk : k ≤ am_yc Y) (hz : z ≤ am_ys Y) (hC : Co s0 σ lo n ((a, f) :: op)) (hlo : lo ≤ a) (hop : ∀ q ∈ op, q.1 ≠ a) (kk : ∀ σ' : am_M, Co s0 σ' lo n ((a, fun j => if j < N then v else f j) :: op) → AW l g Y n0 ad0 P k z n σ' (pc + 3) lv st) : AW l g Y n0 ad0 P k z n σ pc lv (.int v :: .ref a :: st) := by
  refine am_callS (Y' := m_JF_fill) (as := [.ref a, .int v]) (rest := st) d cw rfl (ct_fill ha hs hN) rfl rfl hcat (by show k + 0 ≤ _; omega) (by show z + 0 ≤ _; omega) (fun v9 n' σ' hP hn => ?_)
  obtain ⟨e1, e2, e3⟩ := hP
  cases e1
  subst e2
  subst e3
  refine kk _ ?_
  rw [hC.2.2 (a, f) List.mem_cons_self]
  exact Co_put hC hlo hop
theorem cw_init {l : Launch} {g : am_Gl} {Y : am_Y} {n0 : Nat} {ad0 : Nat → Nat} {P : am_P} {k z n : Nat} {σ : am_M} {pc : Nat} {lv : List (Nat × Value)} {st : List Value} {s0 : am_M} {lo : Nat} {op : List (Nat × (Nat → Int32))} {Y' : am_Y} {idx n1 kk9 : Nat} {f : Nat → Int32} (m k2 z2 : Nat) (d : decode Y.2.1 pc = .ok (.invokespecial idx, 3)) (cw : am_ci Y Y' idx 0) (ht : am_yt Y' = false) (hA : AC l g Y' (n1 + 1) σ [.ref n1] (am_made n1 kk9 σ)) (hn1 : n1 + 1 = n) (hcat : (st.map fun v => v.category).sum ≤ 8) (hC : Co s0 σ lo n ((n1, f) :: op)) (hlo : lo ≤ n1) (hop : ∀ q ∈ op, q.1 < n1) (hm : n1 + kk9 = m) (hk : k + am_yc Y' = k2) (hz : z + am_ys Y' = z2) (hk2 : k2 ≤ am_yc Y) (hz2 : z2 ≤ am_ys Y) (kk : ∀ σ' : am_M, Co s0 σ' lo m op → AW l g Y n0 ad0 P k2 z2 m σ' (pc + 3) lv st) : AW l g Y n0 ad0 P k z n σ pc lv (.ref n1 :: st) := by
  subst hn1; subst hk; subst hz
  refine am_callI (Y' := Y') (as := []) (rest := st) d cw ht hA rfl rfl hcat hk2 hz2 (fun v9 n' σ' hP hn => ?_)
  obtain ⟨e1, e2, h1, h2⟩ := hP
  cases e1
  subst e2
  have h3 := Co_made hC hlo hop hm h1 h2
  subst hm
  exact kk _ h3
theorem cw_initN {l : Launch} {g : am_Gl} {Y : am_Y} {n0 : Nat} {ad0 : Nat → Nat} {P : am_P} {k z n : Nat} {σ : am_M} {pc : Nat} {lv : List (Nat × Value)} {st : List Value} {s0 : am_M} {lo : Nat} {op : List (Nat × (Nat → Int32))} {Y' : am_Y} {idx n1 kk9 : Nat} {f : Nat → Int32} (m k2 z2 : Nat) (d : decode Y.2.1 pc = .ok (.invokespecial idx, 3)) (cw : am_in Y Y' idx 0) (ht : am_yt Y' = false) (hA : AC l g Y' (n1 + 1) σ [.ref n1] (am_made n1 kk9 σ)) (hn1 : n1 + 1 = n) (hcat : (st.map fun v => v.category).sum ≤ 8) (hC : Co s0 σ lo n ((n1, f) :: op)) (hlo : lo ≤ n1) (hop : ∀ q ∈ op, q.1 < n1) (hm : n1 + kk9 = m) (hk : k + am_yc Y' = k2) (hz : z + am_ys Y' = z2) (hk2 : k2 ≤ am_yc Y) (hz2 : z2 ≤ am_ys Y) (kk : ∀ σ' : am_M, Co s0 σ' lo m op → AW l g Y n0 ad0 P k2 z2 m σ' (pc + 3) lv st) : AW l g Y n0 ad0 P k z n σ pc lv (.ref n1 :: st) := by
  subst hn1; subst hk; subst hz
  refine am_callIN (Y' := Y') (as := []) (rest := st) d cw ht hA rfl rfl hcat hk2 hz2 (fun v9 n' σ' hP hn => ?_)
  obtain ⟨e1, e2, h1, h2⟩ := hP
  cases e1
  subst e2
  have h3 := Co_made hC hlo hop hm h1 h2
  subst hm
  exact kk _ h3
theorem cw_aast {l : Launch} {g : am_Gl} {Y : am_Y} {n0 : Nat} {ad0 : Nat → Nat} {P : am_P} {k z n : Nat} {σ : am_M} {pc : Nat} {lv : List (Nat × Value)} {st : List Value} {s0 : am_M} {lo : Nat} {op : List (Nat × (Nat → Int32))} {i t N b ci M : Nat} {x : Int32} {f : Nat → Int32} (d : decode Y.2.1 pc = .ok (.aastore, 1)) (hg : g.2.2.2.1 = false) (hi : i < n) (hs : am_sh i = (1, t, N)) (ht : 2 < t ∧ t < 9) (hin : vp_in x N) (hb : b < n) (hb9 : b < 2 ^ 31) (hsb : am_sh b = (0, ci, M)) (hc : (am_cl[ci]?).map (fun q => FieldType.object q.1) = some (am_ty t)) (hC : Co s0 σ lo n ((i, f) :: op)) (hlo : lo ≤ i) (hop : ∀ q ∈ op, q.1 ≠ i) (kk : ∀ σ' : am_M, Co s0 σ' lo n ((i, upd f x.toNatClampNeg (nI b)) :: op) → AW l g Y n0 ad0 P k z n σ' (pc + 1) lv st) : AW l g Y n0 ad0 P k z n σ pc lv (.ref b :: .int x :: .ref i :: st) :=
  am_aast (y := nI b) d hi hs ht hin hb hsb hc (by rw [am_rv, hg]; simp only [Bool.false_and, Bool.false_eq_true, if_false, if_neg (nI_pos hb9), nI_clamp hb9]) (kk _ (Co_set hC hlo hop))
theorem am_obj {i ci N : Nat} {f : Nat → Int32} (hs : am_sh i = (0, ci, N)) (h1 : ∀ k, k < N → f k = if am_fr ci k then nI (am_lk i k) else am_i0 ci k) (h2 : ∀ k, N ≤ k → f k = 0) (h3 : ∀ k, N ≤ k → am_fr ci k = false ∧ am_i0 ci k = 0) : f = am_I i := by
  rw [am_I_o hs]
  funext k
  by_cases hk : k < N
  · exact h1 k hk
  · rw [h2 k (by omega), (h3 k (by omega)).1, (h3 k (by omega)).2]; rfl
theorem am_out_0 (k : Nat) (h : 2 ≤ k) : am_fr 0 k = false ∧ am_i0 0 k = 0 := ⟨List.getD_eq_default _ _ h, List.getD_eq_default _ _ h⟩
theorem am_out_1 (k : Nat) (h : 12 ≤ k) : am_fr 1 k = false ∧ am_i0 1 k = 0 := ⟨List.getD_eq_default _ _ h, List.getD_eq_default _ _ h⟩
theorem am_out_2 (k : Nat) (h : 16 ≤ k) : am_fr 2 k = false ∧ am_i0 2 k = 0 := ⟨List.getD_eq_default _ _ h, List.getD_eq_default _ _ h⟩
theorem am_out_3 (k : Nat) (h : 11 ≤ k) : am_fr 3 k = false ∧ am_i0 3 k = 0 := ⟨List.getD_eq_default _ _ h, List.getD_eq_default _ _ h⟩
theorem am_out_4 (k : Nat) (h : 17 ≤ k) : am_fr 4 k = false ∧ am_i0 4 k = 0 := ⟨List.getD_eq_default _ _ h, List.getD_eq_default _ _ h⟩
theorem am_out_5 (k : Nat) (h : 4 ≤ k) : am_fr 5 k = false ∧ am_i0 5 k = 0 := ⟨List.getD_eq_default _ _ h, List.getD_eq_default _ _ h⟩
theorem am_out_6 (k : Nat) (h : 3 ≤ k) : am_fr 6 k = false ∧ am_i0 6 k = 0 := ⟨List.getD_eq_default _ _ h, List.getD_eq_default _ _ h⟩
theorem am_out_7 (k : Nat) (h : 6 ≤ k) : am_fr 7 k = false ∧ am_i0 7 k = 0 := ⟨List.getD_eq_default _ _ h, List.getD_eq_default _ _ h⟩
theorem am_out_8 (k : Nat) (h : 5 ≤ k) : am_fr 8 k = false ∧ am_i0 8 k = 0 := ⟨List.getD_eq_default _ _ h, List.getD_eq_default _ _ h⟩
theorem am_out_9 (k : Nat) (h : 11 ≤ k) : am_fr 9 k = false ∧ am_i0 9 k = 0 := ⟨List.getD_eq_default _ _ h, List.getD_eq_default _ _ h⟩
theorem am_out_10 (k : Nat) (h : 68 ≤ k) : am_fr 10 k = false ∧ am_i0 10 k = 0 := ⟨List.getD_eq_default _ _ h, List.getD_eq_default _ _ h⟩
theorem nw_LA_8 : am_nw "ClubBaseLaw" 8 9 11 := ⟨(R_9, T_9, 11), ty_9, rfl, rfl, aw_0_21, aw_0_22, aw_0_1, in_9, tyok_9, by decide +kernel⟩
theorem nw_CB_9 : am_nw "ClubBase" 9 2 16 := ⟨(R_2, T_2, 16), ty_2, rfl, rfl, aw_0_29, aw_0_30, aw_0_2, in_2, tyok_2, by decide +kernel⟩
theorem nw_BA_9 : am_nw "ClubBase$Base" 9 3 11 := ⟨(R_3, T_3, 11), ty_3, rfl, rfl, aw_0_35, aw_0_37, aw_0_3, in_3, tyok_3, by decide +kernel⟩
theorem nw_BA_26 : am_nw "ClubBase$Base" 26 7 6 := ⟨(R_7, T_7, 6), ty_7, rfl, rfl, aw_0_85, aw_0_87, aw_0_4, in_7, tyok_7, by decide +kernel⟩
theorem nw_BA_40 : am_nw "ClubBase$Base" 40 6 3 := ⟨(R_6, T_6, 3), ty_6, rfl, rfl, aw_0_119, aw_0_120, aw_0_5, in_6, tyok_6, by decide +kernel⟩
theorem nw_BA_50 : am_nw "ClubBase$Base" 50 5 4 := ⟨(R_5, T_5, 4), ty_5, rfl, rfl, aw_0_139, aw_0_140, aw_0_7, in_5, tyok_5, by decide +kernel⟩
theorem nw_CB_16 : am_nw "ClubBase" 16 1 12 := ⟨(R_1, T_1, 12), ty_1, rfl, rfl, aw_0_219, aw_0_220, aw_0_8, in_1, tyok_1, by decide +kernel⟩
theorem nw_AS_9 : am_nw "ClubBase$Aske\x72" 9 4 17 := ⟨(R_4, T_4, 17), ty_4, rfl, rfl, aw_0_225, aw_0_227, aw_0_9, in_4, tyok_4, by decide +kernel⟩
theorem nw_CB_25 : am_nw "ClubBase" 25 5 4 := ⟨(R_5, T_5, 4), ty_5, rfl, rfl, aw_1_99, aw_0_140, aw_0_7, in_5, tyok_5, by decide +kernel⟩
theorem nw_CB_43 : am_nw "ClubBase" 43 0 2 := ⟨(R_0, T_0, 2), ty_0, rfl, rfl, aw_1_103, aw_1_105, aw_0_10, in_0, tyok_0, by decide +kernel⟩
theorem nw_AC_9 : am_nw "ClubBase$Act" 9 8 5 := ⟨(R_8, T_8, 5), ty_8, rfl, rfl, aw_1_110, aw_1_112, aw_0_11, in_8, tyok_8, by decide +kernel⟩
theorem nw_CB_50 : am_nw "ClubBase" 50 6 3 := ⟨(R_6, T_6, 3), ty_6, rfl, rfl, aw_1_148, aw_0_120, aw_0_5, in_6, tyok_6, by decide +kernel⟩
theorem nw_LA_155 : am_nw "ClubBaseLaw" 155 10 68 := ⟨(R_10, T_10, 68), ty_10, rfl, rfl, aw_5_227, aw_5_228, aw_0_12, in_10, tyok_10, by decide +kernel⟩
