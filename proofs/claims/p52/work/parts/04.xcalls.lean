/-! calls, ends, entry; written by wip/p52/gen5.py -/
def am_ret (v : Option Value) (n : Nat) (σ : am_M) : am_P := fun o n' σ' => o = .inl v ∧ n' = n ∧ σ' = σ
def am_thr (E : String) (n : Nat) (σ : am_M) : am_P := fun o n' σ' => o = .inr E ∧ n' = n ∧ σ' = σ
theorem am_K_moved {g : am_Gl} {s U : State} {H : Heap} (hW : s.WarmedH U.vm) (hK : am_K g s s.heap) (hq : ∀ a : Nat, a < s.heap.size → ¬ am_A g a → H[a]? = s.heap[a]?) : am_K g U H := by
  obtain ⟨h1, h2, h3, h4, h7, h5, h6, h8, h9⟩ := hK
  have k1 : ∀ w ∈ am_N1, va_Nw w s → va_Nw w U := by
    unfold am_N1
    repeat (refine List.forall_mem_cons.mpr ⟨fun h => va_Nw.warmM hW h, ?_⟩)
    exact fun w h => absurd h List.not_mem_nil
  have k2 : ∀ w ∈ am_N2, va_Nw w s → va_Nw w U := by
    unfold am_N2
    repeat (refine List.forall_mem_cons.mpr ⟨fun h => by first | exact va_Nw.warmC hW h | exact va_Nw.warmD hW h, ?_⟩)
    exact fun w h => absurd h List.not_mem_nil
  exact ⟨va_K.moved hW.alike h1, fun w hw => k1 w hw (h2 w hw), fun w hw => k2 w hw (h3 w hw), fun C hC => va_AO.moved hW.alike (h4 C hC), fun q hq => va_Nc.moved hW.alike (h7 q hq), (vx_Zq.moved hW.alike h5).kept hq, (vx_Zq.moved hW.alike h6).kept hq, (va_X.moved hW.alike h8).kept (hq _ (by obtain ⟨c9, e9, -⟩ := h8; exact (Array.getElem?_eq_some_iff.mp e9).1) h9), h9⟩
theorem am_K_same {g : am_Gl} {s U : State} {H : Heap} (hvm : s.vm = U.vm) (hK : am_K g s H) : am_K g U H := by
  have ha : s.vm.Alike U.vm := by rw [hvm]; exact Vm.Alike.refl _
  obtain ⟨h1, h2, h3, h4, h7, h5, h6, h8, h9⟩ := hK
  have k1 : ∀ w ∈ am_N1, w.onTables = true := by decide +kernel
  have k2 : ∀ w ∈ am_N2, w.onTables = true := by decide +kernel
  exact ⟨va_K.moved ha h1, fun w hw => va_Nw.same (k1 w hw) hvm (h2 w hw), fun w hw => va_Nw.same (k2 w hw) hvm (h3 w hw), fun C hC => va_AO.moved ha (h4 C hC), fun q hq => va_Nc.moved ha (h7 q hq), vx_Zq.moved ha h5, vx_Zq.moved ha h6, va_X.moved ha h8, h9⟩
theorem am_blind {l : Launch} {g : am_Gl} {n : Nat} {ad : Nat → Nat} {σ : am_M} {av : List Value} : FrameBlind (am_Pc l g n ad σ av) := fun a U f mk h => ⟨h.1, ⟨h.2.1.1, h.2.1.2.1, (am_K_same (s := U) (U := U.calling f mk a) (H := U.heap) rfl h.2.1.2.2 : am_K g (U.calling f mk a) U.heap)⟩, h.2.2⟩
theorem am_prest {l : Launch} {g : am_Gl} {Y : am_Y} {p : Program} {s : State} {m : MethodId} {args : Array Value} {meth : Method} {c : Code} {n : Nat} {ad : Nat → Nat} {σ : am_M} {H : Heap} {locs : List Loc} (C : am_C l g Y p s m args meth c) (hH : am_H g n ad σ H) (hS : va_S (am_A g) s.heap H locs) (av : List Value) :
    ∀ U : State, U.heap = H → s.WarmedH U.vm → am_Pc l g n ad σ av (av.map (am_tr ad)).toArray U := by
  intro U hU hW
  obtain ⟨-, -, -, -, -, -, -, -, -, hK, hbs, hst⟩ := C
  refine ⟨rfl, ⟨by rw [hU]; exact fun q9 h9 => hbs q9 (Nat.le_trans hS.1 h9), by rw [hU]; exact hH, ?_⟩, hst⟩
  rw [hU]
  exact am_K_moved hW hK hS.2.1
theorem am_extv {n : Nat} {ad ad' : Nat → Nat} {v : Value} (h : ∀ i, i < n → ad' i = ad i) (hv : am_rl n v) : am_tr ad v = am_tr ad' v := by
  cases v with
  | ref i => show Value.ref _ = Value.ref _; rw [h i (hv i rfl)]
  | _ => rfl
theorem am_extst {n : Nat} {ad ad' : Nat → Nat} {st : List Value} (h : ∀ i, i < n → ad' i = ad i) (hv : ∀ v ∈ st, am_rl n v) : st.map (am_tr ad) = st.map (am_tr ad') := List.map_congr_left fun v hm => am_extv h (hv v hm)
theorem am_extlv {n : Nat} {ad ad' : Nat → Nat} {lv : List (Nat × Value)} (h : ∀ i, i < n → ad' i = ad i) (hv : ∀ q ∈ lv, am_rl n q.2) : am_lv ad lv = am_lv ad' lv := List.map_congr_left fun q hm => by rw [am_extv h (hv q hm)]
theorem am_rl_le {n n' : Nat} {v : Value} (h : n ≤ n') (hv : am_rl n v) : am_rl n' v := fun i hi => Nat.lt_of_lt_of_le (hv i hi) h
section AMC
variable {p : Program} {l : Launch} {e : Env} {R : Room} {s : State} {m : MethodId} {args : Array Value} {below : List Frame} {meth : Method} {c : Code} {H : Heap} {locs : List Loc} {cells slots : Nat} {Q : State → Prop}
variable {pc : Nat} {ls : Array Slot} {rest st0 : List Value} {a : Array Value} {mc ms : Nat} {g : am_Gl} {n : Nat} {ad : Nat → Nat} {P' : am_P}
theorem am_after (hr : va_Run p l e R s m args below meth c H locs cells slots mc ms (F0 m pc ls st0) rest (am_Qc g n ad P' a) (am_A g)) (hS : va_S (am_A g) s.heap H locs)
    (kk : ∀ (v : Option Value) (n' : Nat) (ad' : Nat → Nat) (σ' : am_M) (H1 : Heap) (locs1 : List Loc), (∀ x, v = some x → am_rl n' x) → P' (.inl v) n' σ' → n ≤ n' → (∀ i, i < n → ad' i = ad i) → am_H g n' ad' σ' H1 → va_S (am_A g) s.heap H1 locs1 →
      W p l e R s m args below meth c H1 locs1 (cells + mc) (slots + ms) Q (F0 m (pc + 3) ls ((v.map (am_tr ad')).toList ++ rest))) : W p l e R s m args below meth c H locs cells slots Q (F0 m pc ls st0) := by
  intro T hT X
  obtain ⟨v, st₀, t, T', L, h0, X', hL, e1, e2, ⟨⟨v2, n', ad', σ', hv, hrl, hP, hn, hx, hH⟩, hF⟩, st⟩ := hr T hT X
  cases hv
  obtain ⟨-, -, k3⟩ := vx_keep h0 e1 hS (fun q _ h => h) (fun q h => h) hL hF
  obtain ⟨t2, a1, b1⟩ := kk v2 n' ad' σ' T'.heap (locs ++ L) hrl hP hn hx (by rw [e1]; exact hH) k3 T' rfl X'
  exact ⟨t2, st t2 a1, b1⟩
theorem am_afterX (hr : vx_Run p l e R s m args below meth c H locs cells slots mc ms (F0 m pc ls st0) rest (am_Qc g n ad P' a) (am_XC g n ad P') (am_A g)) (hS : va_S (am_A g) s.heap H locs)
    (kx : ∀ (E : String) (ce : Cell) (q : Addr) (n' : Nat) (ad' : Nat → Nat) (σ' : am_M) (H1 : Heap) (locs1 : List Loc), P' (.inr E) n' σ' → n ≤ n' → (∀ i, i < n → ad' i = ad i) → am_H g n' ad' σ' H1 → va_S (am_A g) s.heap H1 locs1 → H1[q]? = some ce → ce.vm = .none → s.vm.findClass E = some ce.cls →
      vx_W p l e R s m args below meth c H1 locs1 (cells + mc) (slots + ms) Q (F0 m pc ls rest) q)
    (kk : ∀ (v : Option Value) (n' : Nat) (ad' : Nat → Nat) (σ' : am_M) (H1 : Heap) (locs1 : List Loc), (∀ x, v = some x → am_rl n' x) → P' (.inl v) n' σ' → n ≤ n' → (∀ i, i < n → ad' i = ad i) → am_H g n' ad' σ' H1 → va_S (am_A g) s.heap H1 locs1 →
      W p l e R s m args below meth c H1 locs1 (cells + mc) (slots + ms) Q (F0 m (pc + 3) ls ((v.map (am_tr ad')).toList ++ rest))) : W p l e R s m args below meth c H locs cells slots Q (F0 m pc ls st0) := by
  intro T hT X
  rcases hr T hT X with ⟨v, st₀, t, T', L, h0, X', hL, e1, e2, ⟨⟨v2, n', ad', σ', hv, hrl, hP, hn, hx, hH⟩, hF⟩, st⟩ | ⟨q, st₀, t, T', L, E, ce, h0, X', hL, e1, e2, ⟨⟨n', ad', σ', hP, hn, hx, hH⟩, hF⟩, hce, hcv, hcl, st⟩
  · cases hv
    obtain ⟨-, -, k3⟩ := vx_keep h0 e1 hS (fun q _ h => h) (fun q h => h) hL hF
    obtain ⟨t2, a1, b1⟩ := kk v2 n' ad' σ' T'.heap (locs ++ L) hrl hP hn hx (by rw [e1]; exact hH) k3 T' rfl X'
    exact ⟨t2, st t2 a1, b1⟩
  · obtain ⟨-, -, k3⟩ := vx_keep h0 e1 hS (fun q _ h => h) (fun q h => h) hL hF
    obtain ⟨t2, a1, b1⟩ := kx E ce q n' ad' σ' T'.heap (locs ++ L) hP hn hx (by rw [e1]; exact hH) k3 (by rw [e1]; exact hce) hcv hcl T' rfl X'
    exact ⟨t2, st.trans a1, b1⟩
end AMC
/-- a call's words: common, of a virtual call, of a static one, of a constructor's, of a nest mate's -/
def am_cc (Y Y' : am_Y) (nargs : Nat) : Prop := am_ok Y' ∧ am_yh Y' = none ∧ (parseMethodDescriptor Y'.1.desc).map (fun d => d.parameters.length) = some nargs ∧ am_yl Y' + 1 ≤ am_yl Y ∧ 8 + (Y'.2.2.1 + 11) + am_lo Y' ≤ am_lo Y
def am_cv (Y Y' : am_Y) (idx nargs : Nat) : Prop := am_cc Y Y' nargs ∧ Cond.methodLink Y.1.cls idx Y'.1 ∈ am_G ∧ Cond.instanceMethod Y'.1 ∈ am_G ∧ Cond.selects Y'.1.cls Y'.1 Y'.1 ∈ am_G
def am_cs (Y Y' : am_Y) (idx nargs : Nat) : Prop := am_cc Y Y' nargs ∧ Cond.methodLink Y.1.cls idx Y'.1 ∈ am_G ∧ Cond.static Y'.1 ∈ am_G
def am_ci (Y Y' : am_Y) (idx nargs : Nat) : Prop := am_cc Y Y' nargs ∧ Cond.methodLink Y.1.cls idx Y'.1 ∈ am_G ∧ Cond.instanceMethod Y'.1 ∈ am_G ∧ Y'.1.name = "<init>" ∧ Y'.2.2.2.1 = none
def am_sn (Y Y' : am_Y) (idx nargs : Nat) : Prop := am_cc Y Y' nargs ∧ Cond.methodLinkNest Y.1.cls idx Y'.1 "ClubBase" ∈ am_N1 ∧ Cond.static Y'.1 ∈ am_G
def am_in (Y Y' : am_Y) (idx nargs : Nat) : Prop := am_cc Y Y' nargs ∧ Cond.methodLinkNest Y.1.cls idx Y'.1 "ClubBase" ∈ am_N1 ∧ Cond.instanceMethod Y'.1 ∈ am_G ∧ Y'.1.name = "<init>" ∧ Y'.2.2.2.1 = none
theorem am_ws_code {Y : am_Y} (h : am_yh Y = none) : am_wsY Y = Cond.code Y.1 Y.2.1 Y.2.2.1 Y.2.2.2.1 :: am_G := by simp [am_wsY, am_word, h]
theorem am_goodV {Y Y' : am_Y} {idx nargs : Nat} (h : am_cv Y Y' idx nargs) : GoodIn (am_wsY Y) (wsV Y.1.cls idx Y'.1.cls Y'.1 (am_wsY Y')) := by
  intro w hw
  have key : w ∈ am_G := by
    unfold wsV at hw
    rcases List.mem_append.mp hw with hw | hw
    · simp only [List.mem_cons, List.not_mem_nil, or_false] at hw
      rcases hw with rfl | rfl | rfl | rfl
      · exact h.2.1
      · exact h.2.2.1
      · exact h.2.2.2
      · exact h.1.1.2.2.1
    · exact am_Y_in h.1.1 hw
  exact ⟨List.mem_cons_of_mem _ key, good_of_word (am_G_good key)⟩
theorem am_goodS {Y Y' : am_Y} {idx : Nat} (ok : am_ok Y') (h1 : Cond.methodLink Y.1.cls idx Y'.1 ∈ am_G) (h2 : Cond.static Y'.1 ∈ am_G) : GoodIn (am_wsY Y) (va_wsS Y.1.cls idx Y'.1 (am_wsY Y')) := by
  intro w hw
  have key : w ∈ am_G := by
    unfold va_wsS at hw
    rcases List.mem_append.mp hw with hw | hw
    · simp only [List.mem_cons, List.not_mem_nil, or_false] at hw
      rcases hw with rfl | rfl | rfl
      · exact h1
      · exact h2
      · exact ok.2.2.1
    · exact am_Y_in ok hw
  exact ⟨List.mem_cons_of_mem _ key, good_of_word (am_G_good key)⟩
theorem am_sum {ad : Nat → Nat} {st : List Value} : ((st.map (am_tr ad)).map fun v => v.category).sum = (st.map fun v => v.category).sum := by
  rw [List.map_map]
  congr 1
  exact List.map_congr_left fun v _ => am_tr_cat ad v
theorem am_recv {g : am_Gl} {n b ci N : Nat} {ad : Nat → Nat} {σ : am_M} {s : State} {H : Heap} {q : vw_C} (hK : va_K g.1 am_cl (am_tys g) s) (hH : am_H g n ad σ H) (hb : b < n) (hs : am_sh b = (0, ci, N)) (hc : am_cl[ci]? = some q) : ∃ cell : Cell, H[ad b]? = some cell ∧ cell.vm.isStatics = false ∧ s.vm.findClass q.1 = some cell.cls :=
  va_recv hK hH.1 hc (show (am_ws g n ad σ)[b]? = _ by rw [am_ws_get hb, am_e_obj hs])
theorem am_callV {l : Launch} {g : am_Gl} {Y : am_Y} {n0 : Nat} {ad0 : Nat → Nat} {P : am_P} {k z n : Nat} {σ : am_M} {pc : Nat} {lv : List (Nat × Value)} {st : List Value} {Y' : am_Y} {idx nargs : Nat} {b : Nat} {ci N : Nat} {as rest : List Value} {P' : am_P} (d : decode Y.2.1 pc = .ok (.invokevirtual idx, 3)) (cw : am_cv Y Y' idx nargs) (ht : am_yt Y' = false) (hA : AC l g Y' n σ (.ref b :: as) P') (hst : as.reverse ++ .ref b :: rest = st) (hna : as.length = nargs) (hb : b < n) (hs : am_sh b = (0, ci, N)) (hc : (am_cl[ci]?).map Prod.fst = some Y'.1.cls) (hcat : (rest.map fun v => v.category).sum ≤ 8) (hk : k + am_yc Y' ≤ am_yc Y) (hz : z + am_ys Y' ≤ am_ys Y)
    (kk : ∀ (v : Option Value) (n' : Nat) (σ' : am_M), P' (.inl v) n' σ' → n ≤ n' → AW l g Y n0 ad0 P (k + am_yc Y') (z + am_ys Y') n' σ' (pc + 3) lv (v.toList ++ rest)) : AW l g Y n0 ad0 P k z n σ pc lv st := by
  intro p e s m args below meth c C ad H locs ls hn hx hH hS hl hw
  subst hst
  have hav : ∀ v ∈ (.ref b :: as), am_rl n v := fun v hv => hw.2 v (by rcases List.mem_cons.mp hv with h | h <;> simp [h])
  have hM := hA hav ad
  rw [if_neg (by rw [ht]; decide)] at hM
  obtain ⟨q9, hq9, hq8⟩ : ∃ q : vw_C, am_cl[ci]? = some q ∧ q.1 = Y'.1.cls := by
    cases h : am_cl[ci]? with
    | none => rw [h] at hc; cases hc
    | some q => rw [h] at hc; exact ⟨q, rfl, Option.some.inj hc⟩
  have am_recvp : ∃ cell : Cell, H[ad b]? = some cell ∧ cell.vm.isStatics = false ∧ s.vm.findClass Y'.1.cls = some cell.cls := by
    rw [← hq8]
    exact am_recv C.2.2.2.2.2.2.2.2.2.1.1 hH hb hs hq9
  refine am_after (va_runV (As := as.map (am_tr ad)) (rest := rest.map (am_tr ad)) ⟨C.1, C.2.1, C.2.2.1, C.2.2.2.1, C.2.2.2.2.1⟩ hM (cwV nargs C.2.2.2.2.1 (am_goodV cw) (am_ws_code cw.1.2.1) rfl rfl ⟨rfl, cw.1.1.2.2.2.1, cw.1.1.2.2.2.2, cw.1.2.2.1⟩ ⟨cw.1.2.2.2.1, cw.1.2.2.2.2⟩) ⟨am_blind, am_recvp, am_prest C hH hS _⟩ rfl (by simpa using hna) hl.1 (by simp [am_tr]) (lv_room (by rw [am_sum]; exact hcat)) d ⟨hk, hz⟩) hS (fun v n' ad' σ' H1 locs1 hv hP hn1 hx1 hH1 hS1 => ?_)
  · have hrest : ∀ v ∈ rest, am_rl n v := fun v hv => hw.2 v (by simp [hv])
    rw [am_extst hx1 hrest]
    have e9 : (v.map (am_tr ad')).toList ++ rest.map (am_tr ad') = (v.toList ++ rest).map (am_tr ad') := by cases v <;> simp
    rw [e9]
    rw [am_extlv hx1 hw.1] at hl
    refine kk v n' σ' hP hn1 p e s m args below meth c C ad' H1 locs1 ls (Nat.le_trans hn hn1) (fun i hi => (hx1 i (Nat.lt_of_lt_of_le hi hn)).trans (hx i hi)) hH1 hS1 hl ⟨fun q hq => am_rl_le hn1 (hw.1 q hq), fun u hu => ?_⟩
    rcases List.mem_append.mp hu with hu | hu
    · exact hv u (Option.mem_toList.mp hu)
    · exact am_rl_le hn1 (hrest u hu)
theorem am_callVX {l : Launch} {g : am_Gl} {Y : am_Y} {n0 : Nat} {ad0 : Nat → Nat} {P : am_P} {k z n : Nat} {σ : am_M} {pc : Nat} {lv : List (Nat × Value)} {st : List Value} {Y' : am_Y} {idx nargs : Nat} {b : Nat} {ci N : Nat} {as rest : List Value} {P' : am_P} (d : decode Y.2.1 pc = .ok (.invokevirtual idx, 3)) (cw : am_cv Y Y' idx nargs) (ht : am_yt Y' = true) (hY : am_yt Y = true) (hh : am_yh Y = none) (hA : AC l g Y' n σ (.ref b :: as) P') (hst : as.reverse ++ .ref b :: rest = st) (hna : as.length = nargs) (hb : b < n) (hs : am_sh b = (0, ci, N)) (hc : (am_cl[ci]?).map Prod.fst = some Y'.1.cls) (hcat : (rest.map fun v => v.category).sum ≤ 8) (hk : k + am_yc Y' ≤ am_yc Y) (hz : z + am_ys Y' ≤ am_ys Y) (kx : ∀ (E : String) (n' : Nat) (σ' : am_M), P' (.inr E) n' σ' → n ≤ n' → P (.inr E) n' σ')
    (kk : ∀ (v : Option Value) (n' : Nat) (σ' : am_M), P' (.inl v) n' σ' → n ≤ n' → AW l g Y n0 ad0 P (k + am_yc Y') (z + am_ys Y') n' σ' (pc + 3) lv (v.toList ++ rest)) : AW l g Y n0 ad0 P k z n σ pc lv st := by
  intro p e s m args below meth c C ad H locs ls hn hx hH hS hl hw
  subst hst
  have hav : ∀ v ∈ (.ref b :: as), am_rl n v := fun v hv => hw.2 v (by rcases List.mem_cons.mp hv with h | h <;> simp [h])
  have hM := hA hav ad
  rw [if_pos ht] at hM
  obtain ⟨q9, hq9, hq8⟩ : ∃ q : vw_C, am_cl[ci]? = some q ∧ q.1 = Y'.1.cls := by
    cases h : am_cl[ci]? with
    | none => rw [h] at hc; cases hc
    | some q => rw [h] at hc; exact ⟨q, rfl, Option.some.inj hc⟩
  have am_recvp : ∃ cell : Cell, H[ad b]? = some cell ∧ cell.vm.isStatics = false ∧ s.vm.findClass Y'.1.cls = some cell.cls := by
    rw [← hq8]
    exact am_recv C.2.2.2.2.2.2.2.2.2.1.1 hH hb hs hq9
  refine am_afterX (vx_runV (As := as.map (am_tr ad)) (rest := rest.map (am_tr ad)) ⟨C.1, C.2.1, C.2.2.1, C.2.2.2.1, C.2.2.2.2.1⟩ hM (cwV nargs C.2.2.2.2.1 (am_goodV cw) (am_ws_code cw.1.2.1) rfl rfl ⟨rfl, cw.1.1.2.2.2.1, cw.1.1.2.2.2.2, cw.1.2.2.1⟩ ⟨cw.1.2.2.2.1, cw.1.2.2.2.2⟩) ⟨am_blind, am_recvp, am_prest C hH hS _⟩ rfl (by simpa using hna) hl.1 (by simp [am_tr]) (lv_room (by rw [am_sum]; exact hcat)) d ⟨hk, hz⟩) hS (fun E ce q n' ad' σ' H1 locs1 hP hn1 hx1 hH1 hS1 hce hcv hcl => ?_) (fun v n' ad' σ' H1 locs1 hv hP hn1 hx1 hH1 hS1 => ?_)
  · refine vx_widen hk hz ?_
    unfold am_Q
    rw [if_pos hY]
    refine vx_out (fun x hx9 => by rw [C.2.2.2.2.2.2.2.2.1, am_tb, hh] at hx9; cases hx9) C.2.2.2.2.2.2.1 hce hcv hcl (fun t ht9 ha9 => ⟨⟨n', ad', σ', kx E n' σ' hP hn1, Nat.le_trans hn hn1, fun i hi => (hx1 i (Nat.lt_of_lt_of_le hi hn)).trans (hx i hi), by rw [ht9]; exact hH1⟩, hS1.F ht9⟩) hS1.2.2 (Nat.le_refl _) (Nat.le_refl _)
  · have hrest : ∀ v ∈ rest, am_rl n v := fun v hv => hw.2 v (by simp [hv])
    rw [am_extst hx1 hrest]
    have e9 : (v.map (am_tr ad')).toList ++ rest.map (am_tr ad') = (v.toList ++ rest).map (am_tr ad') := by cases v <;> simp
    rw [e9]
    rw [am_extlv hx1 hw.1] at hl
    refine kk v n' σ' hP hn1 p e s m args below meth c C ad' H1 locs1 ls (Nat.le_trans hn hn1) (fun i hi => (hx1 i (Nat.lt_of_lt_of_le hi hn)).trans (hx i hi)) hH1 hS1 hl ⟨fun q hq => am_rl_le hn1 (hw.1 q hq), fun u hu => ?_⟩
    rcases List.mem_append.mp hu with hu | hu
    · exact hv u (Option.mem_toList.mp hu)
    · exact am_rl_le hn1 (hrest u hu)
theorem am_callS {l : Launch} {g : am_Gl} {Y : am_Y} {n0 : Nat} {ad0 : Nat → Nat} {P : am_P} {k z n : Nat} {σ : am_M} {pc : Nat} {lv : List (Nat × Value)} {st : List Value} {Y' : am_Y} {idx nargs : Nat} {as rest : List Value} {P' : am_P} (d : decode Y.2.1 pc = .ok (.invokestatic idx, 3)) (cw : am_cs Y Y' idx nargs) (ht : am_yt Y' = false) (hA : AC l g Y' n σ as P') (hst : as.reverse ++ rest = st) (hna : as.length = nargs) (hcat : (rest.map fun v => v.category).sum ≤ 8) (hk : k + am_yc Y' ≤ am_yc Y) (hz : z + am_ys Y' ≤ am_ys Y)
    (kk : ∀ (v : Option Value) (n' : Nat) (σ' : am_M), P' (.inl v) n' σ' → n ≤ n' → AW l g Y n0 ad0 P (k + am_yc Y') (z + am_ys Y') n' σ' (pc + 3) lv (v.toList ++ rest)) : AW l g Y n0 ad0 P k z n σ pc lv st := by
  intro p e s m args below meth c C ad H locs ls hn hx hH hS hl hw
  subst hst
  have hav : ∀ v ∈ as, am_rl n v := fun v hv => hw.2 v (by simp [hv])
  have hM := hA hav ad
  rw [if_neg (by rw [ht]; decide)] at hM
  skip
  refine am_after (va_runS (As := as.map (am_tr ad)) (rest := rest.map (am_tr ad)) ⟨C.1, C.2.1, C.2.2.1, C.2.2.2.1, C.2.2.2.2.1⟩ hM (va_cwS nargs C.2.2.2.2.1 (am_goodS cw.1.1 cw.2.1 cw.2.2) (am_ws_code cw.1.2.1) rfl rfl ⟨cw.1.1.2.2.2.1, cw.1.1.2.2.2.2, cw.1.2.2.1⟩ ⟨cw.1.2.2.2.1, cw.1.2.2.2.2⟩) ⟨am_blind, am_prest C hH hS _⟩ rfl (by simpa using hna) hl.1 (by simp [am_tr]) (lv_room (by rw [am_sum]; exact hcat)) d ⟨hk, hz⟩) hS (fun v n' ad' σ' H1 locs1 hv hP hn1 hx1 hH1 hS1 => ?_)
  · have hrest : ∀ v ∈ rest, am_rl n v := fun v hv => hw.2 v (by simp [hv])
    rw [am_extst hx1 hrest]
    have e9 : (v.map (am_tr ad')).toList ++ rest.map (am_tr ad') = (v.toList ++ rest).map (am_tr ad') := by cases v <;> simp
    rw [e9]
    rw [am_extlv hx1 hw.1] at hl
    refine kk v n' σ' hP hn1 p e s m args below meth c C ad' H1 locs1 ls (Nat.le_trans hn hn1) (fun i hi => (hx1 i (Nat.lt_of_lt_of_le hi hn)).trans (hx i hi)) hH1 hS1 hl ⟨fun q hq => am_rl_le hn1 (hw.1 q hq), fun u hu => ?_⟩
    rcases List.mem_append.mp hu with hu | hu
    · exact hv u (Option.mem_toList.mp hu)
    · exact am_rl_le hn1 (hrest u hu)
theorem am_callSX {l : Launch} {g : am_Gl} {Y : am_Y} {n0 : Nat} {ad0 : Nat → Nat} {P : am_P} {k z n : Nat} {σ : am_M} {pc : Nat} {lv : List (Nat × Value)} {st : List Value} {Y' : am_Y} {idx nargs : Nat} {as rest : List Value} {P' : am_P} (d : decode Y.2.1 pc = .ok (.invokestatic idx, 3)) (cw : am_cs Y Y' idx nargs) (ht : am_yt Y' = true) (hY : am_yt Y = true) (hh : am_yh Y = none) (hA : AC l g Y' n σ as P') (hst : as.reverse ++ rest = st) (hna : as.length = nargs) (hcat : (rest.map fun v => v.category).sum ≤ 8) (hk : k + am_yc Y' ≤ am_yc Y) (hz : z + am_ys Y' ≤ am_ys Y) (kx : ∀ (E : String) (n' : Nat) (σ' : am_M), P' (.inr E) n' σ' → n ≤ n' → P (.inr E) n' σ')
    (kk : ∀ (v : Option Value) (n' : Nat) (σ' : am_M), P' (.inl v) n' σ' → n ≤ n' → AW l g Y n0 ad0 P (k + am_yc Y') (z + am_ys Y') n' σ' (pc + 3) lv (v.toList ++ rest)) : AW l g Y n0 ad0 P k z n σ pc lv st := by
  intro p e s m args below meth c C ad H locs ls hn hx hH hS hl hw
  subst hst
  have hav : ∀ v ∈ as, am_rl n v := fun v hv => hw.2 v (by simp [hv])
  have hM := hA hav ad
  rw [if_pos ht] at hM
  skip
  refine am_afterX (vx_runS (As := as.map (am_tr ad)) (rest := rest.map (am_tr ad)) ⟨C.1, C.2.1, C.2.2.1, C.2.2.2.1, C.2.2.2.2.1⟩ hM (va_cwS nargs C.2.2.2.2.1 (am_goodS cw.1.1 cw.2.1 cw.2.2) (am_ws_code cw.1.2.1) rfl rfl ⟨cw.1.1.2.2.2.1, cw.1.1.2.2.2.2, cw.1.2.2.1⟩ ⟨cw.1.2.2.2.1, cw.1.2.2.2.2⟩) ⟨am_blind, am_prest C hH hS _⟩ rfl (by simpa using hna) hl.1 (by simp [am_tr]) (lv_room (by rw [am_sum]; exact hcat)) d ⟨hk, hz⟩) hS (fun E ce q n' ad' σ' H1 locs1 hP hn1 hx1 hH1 hS1 hce hcv hcl => ?_) (fun v n' ad' σ' H1 locs1 hv hP hn1 hx1 hH1 hS1 => ?_)
  · refine vx_widen hk hz ?_
    unfold am_Q
    rw [if_pos hY]
    refine vx_out (fun x hx9 => by rw [C.2.2.2.2.2.2.2.2.1, am_tb, hh] at hx9; cases hx9) C.2.2.2.2.2.2.1 hce hcv hcl (fun t ht9 ha9 => ⟨⟨n', ad', σ', kx E n' σ' hP hn1, Nat.le_trans hn hn1, fun i hi => (hx1 i (Nat.lt_of_lt_of_le hi hn)).trans (hx i hi), by rw [ht9]; exact hH1⟩, hS1.F ht9⟩) hS1.2.2 (Nat.le_refl _) (Nat.le_refl _)
  · have hrest : ∀ v ∈ rest, am_rl n v := fun v hv => hw.2 v (by simp [hv])
    rw [am_extst hx1 hrest]
    have e9 : (v.map (am_tr ad')).toList ++ rest.map (am_tr ad') = (v.toList ++ rest).map (am_tr ad') := by cases v <;> simp
    rw [e9]
    rw [am_extlv hx1 hw.1] at hl
    refine kk v n' σ' hP hn1 p e s m args below meth c C ad' H1 locs1 ls (Nat.le_trans hn hn1) (fun i hi => (hx1 i (Nat.lt_of_lt_of_le hi hn)).trans (hx i hi)) hH1 hS1 hl ⟨fun q hq => am_rl_le hn1 (hw.1 q hq), fun u hu => ?_⟩
    rcases List.mem_append.mp hu with hu | hu
    · exact hv u (Option.mem_toList.mp hu)
    · exact am_rl_le hn1 (hrest u hu)
theorem am_callI {l : Launch} {g : am_Gl} {Y : am_Y} {n0 : Nat} {ad0 : Nat → Nat} {P : am_P} {k z n : Nat} {σ : am_M} {pc : Nat} {lv : List (Nat × Value)} {st : List Value} {Y' : am_Y} {idx nargs : Nat} {b : Nat} {as rest : List Value} {P' : am_P} (d : decode Y.2.1 pc = .ok (.invokespecial idx, 3)) (cw : am_ci Y Y' idx nargs) (ht : am_yt Y' = false) (hA : AC l g Y' n σ (.ref b :: as) P') (hst : as.reverse ++ .ref b :: rest = st) (hna : as.length = nargs) (hcat : (rest.map fun v => v.category).sum ≤ 8) (hk : k + am_yc Y' ≤ am_yc Y) (hz : z + am_ys Y' ≤ am_ys Y)
    (kk : ∀ (v : Option Value) (n' : Nat) (σ' : am_M), P' (.inl v) n' σ' → n ≤ n' → AW l g Y n0 ad0 P (k + am_yc Y') (z + am_ys Y') n' σ' (pc + 3) lv (v.toList ++ rest)) : AW l g Y n0 ad0 P k z n σ pc lv st := by
  intro p e s m args below meth c C ad H locs ls hn hx hH hS hl hw
  subst hst
  have hav : ∀ v ∈ (.ref b :: as), am_rl n v := fun v hv => hw.2 v (by rcases List.mem_cons.mp hv with h | h <;> simp [h])
  have hM := hA hav ad
  rw [if_neg (by rw [ht]; decide)] at hM
  skip
  refine am_after (va_runI (As := as.map (am_tr ad)) (rest := rest.map (am_tr ad)) ⟨C.1, C.2.1, C.2.2.1, C.2.2.2.1, C.2.2.2.2.1⟩ hM (cwI nargs C.2.2.2.2.1 (am_good cw.1.1) (by rw [am_ws_code cw.1.2.1, cw.2.2.2.2]) rfl rfl (am_word_G C cw.1.1.2.2.1) (am_word_G C cw.2.1) (am_word_G C cw.2.2.1) cw.2.2.2.1 ⟨cw.1.1.2.2.2.1, cw.1.1.2.2.2.2, cw.1.2.2.1⟩ ⟨cw.1.2.2.2.1, cw.1.2.2.2.2⟩) ⟨am_blind, am_prest C hH hS _⟩ rfl (by simpa using hna) hl.1 (by simp [am_tr]) (lv_room (by rw [am_sum]; exact hcat)) d ⟨hk, hz⟩) hS (fun v n' ad' σ' H1 locs1 hv hP hn1 hx1 hH1 hS1 => ?_)
  · have hrest : ∀ v ∈ rest, am_rl n v := fun v hv => hw.2 v (by simp [hv])
    rw [am_extst hx1 hrest]
    have e9 : (v.map (am_tr ad')).toList ++ rest.map (am_tr ad') = (v.toList ++ rest).map (am_tr ad') := by cases v <;> simp
    rw [e9]
    rw [am_extlv hx1 hw.1] at hl
    refine kk v n' σ' hP hn1 p e s m args below meth c C ad' H1 locs1 ls (Nat.le_trans hn hn1) (fun i hi => (hx1 i (Nat.lt_of_lt_of_le hi hn)).trans (hx i hi)) hH1 hS1 hl ⟨fun q hq => am_rl_le hn1 (hw.1 q hq), fun u hu => ?_⟩
    rcases List.mem_append.mp hu with hu | hu
    · exact hv u (Option.mem_toList.mp hu)
    · exact am_rl_le hn1 (hrest u hu)
theorem am_callSN {l : Launch} {g : am_Gl} {Y : am_Y} {n0 : Nat} {ad0 : Nat → Nat} {P : am_P} {k z n : Nat} {σ : am_M} {pc : Nat} {lv : List (Nat × Value)} {st : List Value} {Y' : am_Y} {idx nargs : Nat} {as rest : List Value} {P' : am_P} (d : decode Y.2.1 pc = .ok (.invokestatic idx, 3)) (cw : am_sn Y Y' idx nargs) (ht : am_yt Y' = false) (hA : AC l g Y' n σ as P') (hst : as.reverse ++ rest = st) (hna : as.length = nargs) (hcat : (rest.map fun v => v.category).sum ≤ 8) (hk : k + am_yc Y' ≤ am_yc Y) (hz : z + am_ys Y' ≤ am_ys Y)
    (kk : ∀ (v : Option Value) (n' : Nat) (σ' : am_M), P' (.inl v) n' σ' → n ≤ n' → AW l g Y n0 ad0 P (k + am_yc Y') (z + am_ys Y') n' σ' (pc + 3) lv (v.toList ++ rest)) : AW l g Y n0 ad0 P k z n σ pc lv st := by
  intro p e s m args below meth c C ad H locs ls hn hx hH hS hl hw
  subst hst
  have hav : ∀ v ∈ as, am_rl n v := fun v hv => hw.2 v (by simp [hv])
  have hM := hA hav ad
  rw [if_neg (by rw [ht]; decide)] at hM
  skip
  refine am_after (va_runSN (As := as.map (am_tr ad)) (rest := rest.map (am_tr ad)) ⟨C.1, C.2.1, C.2.2.1, C.2.2.2.1, C.2.2.2.2.1⟩ hM (⟨va_cnB nargs C.2.2.2.2.1 (am_good cw.1.1) (am_ws_code cw.1.2.1) rfl rfl (C.2.2.2.2.2.2.2.2.2.1.2.1 _ cw.2.1) (am_word_G C cw.1.1.2.2.1) ⟨cw.1.1.2.2.2.1, cw.1.1.2.2.2.2, cw.1.2.2.1⟩ ⟨cw.1.2.2.2.1, cw.1.2.2.2.2⟩, am_word_G C cw.2.2, trivial⟩) ⟨am_blind, am_prest C hH hS _⟩ rfl (by simpa using hna) hl.1 (by simp [am_tr]) (lv_room (by rw [am_sum]; exact hcat)) d ⟨hk, hz⟩) hS (fun v n' ad' σ' H1 locs1 hv hP hn1 hx1 hH1 hS1 => ?_)
  · have hrest : ∀ v ∈ rest, am_rl n v := fun v hv => hw.2 v (by simp [hv])
    rw [am_extst hx1 hrest]
    have e9 : (v.map (am_tr ad')).toList ++ rest.map (am_tr ad') = (v.toList ++ rest).map (am_tr ad') := by cases v <;> simp
    rw [e9]
    rw [am_extlv hx1 hw.1] at hl
    refine kk v n' σ' hP hn1 p e s m args below meth c C ad' H1 locs1 ls (Nat.le_trans hn hn1) (fun i hi => (hx1 i (Nat.lt_of_lt_of_le hi hn)).trans (hx i hi)) hH1 hS1 hl ⟨fun q hq => am_rl_le hn1 (hw.1 q hq), fun u hu => ?_⟩
    rcases List.mem_append.mp hu with hu | hu
    · exact hv u (Option.mem_toList.mp hu)
    · exact am_rl_le hn1 (hrest u hu)
theorem am_callIN {l : Launch} {g : am_Gl} {Y : am_Y} {n0 : Nat} {ad0 : Nat → Nat} {P : am_P} {k z n : Nat} {σ : am_M} {pc : Nat} {lv : List (Nat × Value)} {st : List Value} {Y' : am_Y} {idx nargs : Nat} {b : Nat} {as rest : List Value} {P' : am_P} (d : decode Y.2.1 pc = .ok (.invokespecial idx, 3)) (cw : am_in Y Y' idx nargs) (ht : am_yt Y' = false) (hA : AC l g Y' n σ (.ref b :: as) P') (hst : as.reverse ++ .ref b :: rest = st) (hna : as.length = nargs) (hcat : (rest.map fun v => v.category).sum ≤ 8) (hk : k + am_yc Y' ≤ am_yc Y) (hz : z + am_ys Y' ≤ am_ys Y)
    (kk : ∀ (v : Option Value) (n' : Nat) (σ' : am_M), P' (.inl v) n' σ' → n ≤ n' → AW l g Y n0 ad0 P (k + am_yc Y') (z + am_ys Y') n' σ' (pc + 3) lv (v.toList ++ rest)) : AW l g Y n0 ad0 P k z n σ pc lv st := by
  intro p e s m args below meth c C ad H locs ls hn hx hH hS hl hw
  subst hst
  have hav : ∀ v ∈ (.ref b :: as), am_rl n v := fun v hv => hw.2 v (by rcases List.mem_cons.mp hv with h | h <;> simp [h])
  have hM := hA hav ad
  rw [if_neg (by rw [ht]; decide)] at hM
  skip
  refine am_after (va_runIN (As := as.map (am_tr ad)) (rest := rest.map (am_tr ad)) ⟨C.1, C.2.1, C.2.2.1, C.2.2.2.1, C.2.2.2.2.1⟩ hM (⟨va_cnB nargs C.2.2.2.2.1 (am_good cw.1.1) (by rw [am_ws_code cw.1.2.1, cw.2.2.2.2]) rfl rfl (C.2.2.2.2.2.2.2.2.2.1.2.1 _ cw.2.1) (am_word_G C cw.1.1.2.2.1) ⟨cw.1.1.2.2.2.1, cw.1.1.2.2.2.2, cw.1.2.2.1⟩ ⟨cw.1.2.2.2.1, cw.1.2.2.2.2⟩, cw.2.2.2.1, am_word_G C cw.2.2.1⟩) ⟨am_blind, am_prest C hH hS _⟩ rfl (by simpa using hna) hl.1 (by simp [am_tr]) (lv_room (by rw [am_sum]; exact hcat)) d ⟨hk, hz⟩) hS (fun v n' ad' σ' H1 locs1 hv hP hn1 hx1 hH1 hS1 => ?_)
  · have hrest : ∀ v ∈ rest, am_rl n v := fun v hv => hw.2 v (by simp [hv])
    rw [am_extst hx1 hrest]
    have e9 : (v.map (am_tr ad')).toList ++ rest.map (am_tr ad') = (v.toList ++ rest).map (am_tr ad') := by cases v <;> simp
    rw [e9]
    rw [am_extlv hx1 hw.1] at hl
    refine kk v n' σ' hP hn1 p e s m args below meth c C ad' H1 locs1 ls (Nat.le_trans hn hn1) (fun i hi => (hx1 i (Nat.lt_of_lt_of_le hi hn)).trans (hx i hi)) hH1 hS1 hl ⟨fun q hq => am_rl_le hn1 (hw.1 q hq), fun u hu => ?_⟩
    rcases List.mem_append.mp hu with hu | hu
    · exact hv u (Option.mem_toList.mp hu)
    · exact am_rl_le hn1 (hrest u hu)
/-- an end with an int -/
theorem am_iret {l : Launch} {g : am_Gl} {Y : am_Y} {n0 : Nat} {ad0 : Nat → Nat} {P : am_P} {k z n : Nat} {σ : am_M} {pc : Nat} {lv : List (Nat × Value)} {x : Int32} {ty : FieldType} (d : decode Y.2.1 pc = .ok (.ireturn, 1)) (hr : Y.2.2.2.1 = some ty) (hn9 : narrow ty (.int x) = .int x) (hk : k ≤ am_yc Y) (hz : z ≤ am_ys Y) (hP : P (.inl (some (.int x))) n σ) : AW l g Y n0 ad0 P k z n σ pc lv [.int x] := by
  intro p e s m args below meth c C ad H locs ls hn hx hH hS hl hw
  refine W.widen hk hz ?_
  have hq : ∀ t : State, t.heap = H → s.WarmedH t.vm → am_Qc g n0 ad0 P args s (.returned (some (.int x))) t := fun t ht _ => ⟨⟨some (.int x), n, ad, σ, rfl, fun y hy => by cases hy; exact am_rl_int, hP, hn, hx, by rw [ht]; exact hH⟩, hS.F ht⟩
  unfold am_Q
  by_cases h : am_yt Y = true
  · rw [if_pos h]
    exact vx_ret (W.zret (ty := ty) C.1 C.2.1 (C.2.2.2.2.2.1.trans hr) hn9 hq hS.2.2 d C.2.2.2.2.2.2.1)
  · rw [if_neg h]
    exact W.zret (ty := ty) C.1 C.2.1 (C.2.2.2.2.2.1.trans hr) hn9 hq hS.2.2 d C.2.2.2.2.2.2.1
theorem am_aret {l : Launch} {g : am_Gl} {Y : am_Y} {n0 : Nat} {ad0 : Nat → Nat} {P : am_P} {k z n : Nat} {σ : am_M} {pc : Nat} {lv : List (Nat × Value)} {b : Nat} {cn : String} (d : decode Y.2.1 pc = .ok (.areturn, 1)) (hr : Y.2.2.2.1 = some (.object cn)) (hk : k ≤ am_yc Y) (hz : z ≤ am_ys Y) (hP : P (.inl (some (.ref b))) n σ) : AW l g Y n0 ad0 P k z n σ pc lv [.ref b] := by
  intro p e s m args below meth c C ad H locs ls hn hx hH hS hl hw
  refine W.widen hk hz ?_
  have hq : ∀ t : State, t.heap = H → s.WarmedH t.vm → am_Qc g n0 ad0 P args s (.returned (some (.ref (ad b)))) t := fun t ht _ => ⟨⟨some (.ref b), n, ad, σ, rfl, fun y hy => by cases hy; exact am_wf_hd hw, hP, hn, hx, by rw [ht]; exact hH⟩, hS.F ht⟩
  unfold am_Q
  by_cases h : am_yt Y = true
  · rw [if_pos h]
    exact vx_ret (W.aret C.1 C.2.1 (C.2.2.2.2.2.1.trans hr) (Or.inl ⟨cn, rfl⟩) (Or.inr ⟨_, rfl⟩) hq hS.2.2 d C.2.2.2.2.2.2.1)
  · rw [if_neg h]
    exact W.aret C.1 C.2.1 (C.2.2.2.2.2.1.trans hr) (Or.inl ⟨cn, rfl⟩) (Or.inr ⟨_, rfl⟩) hq hS.2.2 d C.2.2.2.2.2.2.1
theorem am_vret {l : Launch} {g : am_Gl} {Y : am_Y} {n0 : Nat} {ad0 : Nat → Nat} {P : am_P} {k z n : Nat} {σ : am_M} {pc : Nat} {lv : List (Nat × Value)} (d : decode Y.2.1 pc = .ok (.return_, 1)) (hr : Y.2.2.2.1 = none) (hk : k ≤ am_yc Y) (hz : z ≤ am_ys Y) (hP : P (.inl none) n σ) : AW l g Y n0 ad0 P k z n σ pc lv [] := by
  intro p e s m args below meth c C ad H locs ls hn hx hH hS hl hw
  refine W.widen hk hz ?_
  have hq : ∀ t : State, t.heap = H → s.WarmedH t.vm → am_Qc g n0 ad0 P args s (.returned none) t := fun t ht _ => ⟨⟨none, n, ad, σ, rfl, (fun y hy => by cases hy), hP, hn, hx, by rw [ht]; exact hH⟩, hS.F ht⟩
  unfold am_Q
  by_cases h : am_yt Y = true
  · rw [if_pos h]
    exact vx_ret (W.vret C.1 C.2.1 (C.2.2.2.2.2.1.trans hr) hq hS.2.2 d C.2.2.2.2.2.2.1)
  · rw [if_neg h]
    exact W.vret C.1 C.2.1 (C.2.2.2.2.2.1.trans hr) hq hS.2.2 d C.2.2.2.2.2.2.1
theorem am_largs (ad : Nat → Nat) : ∀ (i : Nat) (vs : List Value), lv_args i (vs.map (am_tr ad)) = am_lv ad (lv_args i vs)
  | _, [] => rfl
  | i, v :: vs => by
    show (i, am_tr ad v) :: lv_args (if (am_tr ad v).category = 2 then i + 2 else i + 1) (vs.map (am_tr ad)) = _
    rw [am_tr_cat, am_largs ad _ vs]
    rfl
theorem am_sl_len (ad : Nat → Nat) (vs : List Value) : (lg_sl (vs.map (am_tr ad))).length = (lg_sl vs).length := by
  induction vs with
  | nil => rfl
  | cons v vs ih =>
    simp only [lg_sl, List.map_cons, List.flatMap_cons, List.length_append] at ih ⊢
    rw [ih, am_tr_cat]
    by_cases h : v.category = 2 <;> simp [h]
theorem am_rl_args {n : Nat} : ∀ (i : Nat) (vs : List Value), (∀ v ∈ vs, am_rl n v) → ∀ q ∈ lv_args i vs, am_rl n q.2
  | _, [], _, q, hq => by cases hq
  | i, v :: vs, h, q, hq => by
    rcases List.mem_cons.mp hq with e | e
    · rw [e]; exact h v List.mem_cons_self
    · exact am_rl_args _ vs (fun u hu => h u (List.mem_cons_of_mem _ hu)) q e
/-- a method's contract out of a walk from its entry -/
theorem am_enter {l : Launch} {g : am_Gl} {Y : am_Y} {n : Nat} {σ : am_M} {av : List Value} {P : am_P} {lv : List (Nat × Value)} (ok : am_ok Y) (hh : am_yh Y = none) (hlen : (lg_sl av).length ≤ Y.2.2.1) (hlv : lv_args 0 av = lv) (h : ∀ ad0 : Nat → Nat, AW l g Y n ad0 P 0 0 n σ 0 lv []) : AC l g Y n σ av P := by
  intro hav ad
  subst hlv
  have hl := lv_entry (av.map (am_tr ad)) (n := Y.2.2.1) (by rw [am_sl_len]; exact hlen)
  rw [am_largs] at hl
  have hw : am_wf n (lv_args 0 av) [] := ⟨am_rl_args 0 av hav, fun v hv => by cases hv⟩
  by_cases ht : am_yt Y = true
  · rw [if_pos ht]
    refine vx_ofW (cc := Y.2.1) (maxL := Y.2.2.1) (ret := Y.2.2.2.1) ok.1 (am_ws_code hh) ?_
    intro p e s m args below meth c s₁ B hml htab hv
    obtain ⟨rfl, hB, hst⟩ := hv
    rw [lg_entry_eq]
    have C : am_C l g Y p s m (av.map (am_tr ad)).toArray meth c := ⟨B.exec, B.bytes, hml, findClass_of_methodNamed B.named, atoms_spec (ws := am_wsY Y) B.pre, B.returns, B.notSynchronized, (name_of_methodNamed B.named B.method).1, by rw [am_tb, hh]; exact List.eq_nil_iff_forall_not_mem.mpr (fun x hx => htab x hx), hB.2.2, hB.1, hst⟩
    have K := h ad p e s m (av.map (am_tr ad)).toArray below meth c C ad s.heap [] _ (Nat.le_refl n) (fun _ _ => rfl) hB.2.1 va_S.rf hl hw
    unfold am_Q at K
    rw [if_pos ht] at K
    exact K
  · rw [if_neg ht]
    refine Met.ofW (cc := Y.2.1) (maxL := Y.2.2.1) (ret := Y.2.2.2.1) ok.1 (am_ws_code hh) ?_
    intro p e s m args below meth c s₁ B hml hv
    obtain ⟨rfl, hB, hst⟩ := hv
    rw [lg_entry_eq]
    have htab : c.exceptionTable.toList = [] := by
      obtain ⟨meth9, c9, h1, h2, -, -, -, -, h7, -⟩ := Cond.code_spec B.named (atoms_spec (ws := am_wsY Y) B.pre _ (by rw [am_ws_code hh]; exact List.mem_cons_self))
      cases Option.some.inj (h1.symm.trans B.method)
      cases Option.some.inj (h2.symm.trans (Stand.of_body B).code)
      simpa using h7
    have C : am_C l g Y p s m (av.map (am_tr ad)).toArray meth c := ⟨B.exec, B.bytes, hml, findClass_of_methodNamed B.named, atoms_spec (ws := am_wsY Y) B.pre, B.returns, B.notSynchronized, (name_of_methodNamed B.named B.method).1, by rw [am_tb, hh]; exact htab, hB.2.2, hB.1, hst⟩
    have K := h ad p e s m (av.map (am_tr ad)).toArray below meth c C ad s.heap [] _ (Nat.le_refl n) (fun _ _ => rfl) hB.2.1 va_S.rf hl hw
    unfold am_Q at K
    rw [if_neg ht] at K
    exact K
