/-! THE CLAIM OUT OF ONE WALK OF THE LAW'S BODY. Your part is whole_start (and what it stands on); all else here is the same for every law, but numbers. -/
def R_law : String := "ClubBaseLaw"
def lw_P (b : Addr) (xs : List Int32) (args : Array Value) (s : State) : Prop := args = #[.ref b] ∧ s.IntsAt b xs ∧ xs.length ≤ 3584 ∧ (Jvm.Cond.and given_1 narrow_1).before args s = true
def lw_Q (_ : Array Value) (s : State) (o : Outcome) (t : State) : Prop := o = .returned (some (.int 1)) ∧ Framed s o t [] room_1.cells room_1.slots
def lw_Z (below : List Frame) (a : Array Value) (s : State) : State → Prop := fun t => ∃ o, t.status = .running ∧ Ended t below o ∧ lw_Q a s o t
/-- the law's own end, with 1 on the stack, nothing written that was there before, its room as the claim has it -/
theorem lw_ret {p : Program} {l : Launch} {e : Env} {s : State} {m : MethodId} {below : List Frame} {meth : Method} {c : Code} {b : Nat} (hx : p.tables.exec = Jvm.exec) (hb : c.code = code) (hr : meth.sig.returnType = ret) (hlocks : meth.locks = false) {pc : Nat} {H : Heap} {ls : Array Slot} (hdg : decode code pc = .ok (.ireturn, 1)) : W p l e room_1 s m #[Value.ref b] below meth c H [] room_1.cells room_1.slots (lw_Z below #[Value.ref b] s) (F0 m pc ls [.int 1]) := by
  intro T hT X
  obtain ⟨fs, hret, hrun, hended, hW, hframe⟩ := X.leave (v := some (.int 1)) (hlocks := hlocks) (fun h => by rw [hr] at h; cases h)
  have hmeth' : T.vm.method? m = some meth := X.method'
  refine ⟨T.setFrames fs, ?_, .returned (some (.int 1)), hrun, hended, rfl, ⟨_, rfl⟩, hW, hframe⟩
  jvm_step X.here [X.here.top, hx, hb, hdg, hmeth', hr, ret, narrow_b1]
  (try refine ⟨rfl, ?_⟩); (try refine ⟨rfl, ?_⟩)
  first | (intro acts; rw [hret _ acts rfl rfl rfl]) | rw [hret _ _ rfl rfl rfl]
  exact Steps.refl _
/-- what holds at the law's entry: the machine, the code, the tables' words (any of lw_tbl by 'hts w (by decide +kernel)'), the script of L ints xs at the cell b, what the Statement gives of the start (any of its parts by flat_of_before) -/
def lw_At (p : Program) (s : State) (m : MethodId) (meth : Method) (c : Code) (b L : Nat) (xs : Nat → Int32) : Prop :=
  p.tables.exec = Jvm.exec ∧ c.code = code ∧ meth.sig.returnType = ret ∧ c.maxLocals = 7 ∧ s.vm.findClass R_law = some m.cls ∧ (∀ w ∈ lw_tbl, w.before #[Value.ref b] s = true) ∧ va_X b L xs s s.heap ∧ b < s.heap.size ∧ meth.locks = false ∧ (Jvm.Cond.and given_1 narrow_1).before #[Value.ref b] s = true

theorem am_forget {s t : State} {o : Outcome} {L : List Loc} {k n : Nat} (h : FrameEnd s o t L k n) (hL : ∀ q ∈ L, s.heap.size ≤ q.base) : Framed s o t [] k n := by
  obtain ⟨h1, h2, h3, h4, h5, h6, h7, h8⟩ := h
  refine ⟨h1, h2, h3, h4, h5, h6, h7, fun a c hc => ?_⟩
  obtain ⟨c', g1, g2, g3, g4⟩ := h8 a c hc
  refine ⟨c', g1, g2, g3, fun i _ => g4 i (fun hm => ?_)⟩
  have := hL _ hm
  have h9 : a < s.heap.size := (Array.getElem?_eq_some_iff.mp hc).1
  exact absurd this (Nat.not_le.mpr h9)
theorem am_all_in {k : Nat} {q : vw_C} (h : am_cl[k]? = some q) : (∀ w ∈ u_ws q.1 q.2.1 q.2.2, w ∈ am_G) ∧ ∃ n, Cond.instantiable q.1 n ∈ am_G := by
  match k, h with
  | 0, h => cases h; exact ⟨in_0, _, aw_1_105⟩
  | 1, h => cases h; exact ⟨in_1, _, aw_0_220⟩
  | 2, h => cases h; exact ⟨in_2, _, aw_0_30⟩
  | 3, h => cases h; exact ⟨in_3, _, aw_0_37⟩
  | 4, h => cases h; exact ⟨in_4, _, aw_0_227⟩
  | 5, h => cases h; exact ⟨in_5, _, aw_0_140⟩
  | 6, h => cases h; exact ⟨in_6, _, aw_0_120⟩
  | 7, h => cases h; exact ⟨in_7, _, aw_0_87⟩
  | 8, h => cases h; exact ⟨in_8, _, aw_1_112⟩
  | 9, h => cases h; exact ⟨in_9, _, aw_0_22⟩
  | 10, h => cases h; exact ⟨in_10, _, aw_5_228⟩
  | k + 11, h => simp [am_cl] at h
theorem am_tbl {w : Cond} (h : w ∈ tables_1) : w ∈ lw_tbl := List.mem_append_right _ h
theorem am_N1_in : ∀ w ∈ am_N1, w ∈ tables_1 := List.forall_mem_cons.mpr ⟨(show _ ∈ tables_1 from List.mem_append_left _ ((List.mem_of_getElem? (i := 38) (by decide +kernel) : _ ∈ tables_1_1))), List.forall_mem_cons.mpr ⟨(show _ ∈ tables_1 from List.mem_append_left _ ((List.mem_of_getElem? (i := 88) (by decide +kernel) : _ ∈ tables_1_1))), List.forall_mem_cons.mpr ⟨(show _ ∈ tables_1 from List.mem_append_left _ ((List.mem_of_getElem? (i := 141) (by decide +kernel) : _ ∈ tables_1_1))), List.forall_mem_cons.mpr ⟨(show _ ∈ tables_1 from List.mem_append_right _ (List.mem_append_left _ ((List.mem_of_getElem? (i := 100) (by decide +kernel) : _ ∈ tables_1_2)))), List.forall_mem_cons.mpr ⟨(show _ ∈ tables_1 from List.mem_append_right _ (List.mem_append_left _ ((List.mem_of_getElem? (i := 113) (by decide +kernel) : _ ∈ tables_1_2)))), List.forall_mem_cons.mpr ⟨(show _ ∈ tables_1 from List.mem_append_right _ (List.mem_append_right _ (List.mem_append_right _ (List.mem_append_left _ ((List.mem_of_getElem? (i := 28) (by decide +kernel) : _ ∈ tables_1_4)))))), List.forall_mem_cons.mpr ⟨(show _ ∈ tables_1 from List.mem_append_right _ (List.mem_append_right _ (List.mem_append_right _ (List.mem_append_left _ ((List.mem_of_getElem? (i := 31) (by decide +kernel) : _ ∈ tables_1_4)))))), List.forall_mem_cons.mpr ⟨(show _ ∈ tables_1 from List.mem_append_right _ (List.mem_append_right _ (List.mem_append_right _ (List.mem_append_right _ (List.mem_append_left _ ((List.mem_of_getElem? (i := 234) (by decide +kernel) : _ ∈ tables_1_5))))))), List.forall_mem_cons.mpr ⟨(show _ ∈ tables_1 from List.mem_append_right _ (List.mem_append_right _ (List.mem_append_right _ (List.mem_append_right _ (List.mem_append_left _ ((List.mem_of_getElem? (i := 238) (by decide +kernel) : _ ∈ tables_1_5))))))), fun w h => absurd h List.not_mem_nil⟩⟩⟩⟩⟩⟩⟩⟩⟩
theorem am_N2_in : ∀ w ∈ am_N2, w ∈ tables_1 := List.forall_mem_cons.mpr ⟨(show _ ∈ tables_1 from List.mem_append_right _ (List.mem_append_right _ (List.mem_append_left _ ((List.mem_of_getElem? (i := 38) (by decide +kernel) : _ ∈ tables_1_3))))), List.forall_mem_cons.mpr ⟨(show _ ∈ tables_1 from List.mem_append_right _ (List.mem_append_right _ (List.mem_append_left _ ((List.mem_of_getElem? (i := 39) (by decide +kernel) : _ ∈ tables_1_3))))), List.forall_mem_cons.mpr ⟨(show _ ∈ tables_1 from List.mem_append_right _ (List.mem_append_right _ (List.mem_append_left _ ((List.mem_of_getElem? (i := 40) (by decide +kernel) : _ ∈ tables_1_3))))), List.forall_mem_cons.mpr ⟨(show _ ∈ tables_1 from List.mem_append_right _ (List.mem_append_right _ (List.mem_append_left _ ((List.mem_of_getElem? (i := 41) (by decide +kernel) : _ ∈ tables_1_3))))), List.forall_mem_cons.mpr ⟨(show _ ∈ tables_1 from List.mem_append_right _ (List.mem_append_right _ (List.mem_append_left _ ((List.mem_of_getElem? (i := 42) (by decide +kernel) : _ ∈ tables_1_3))))), List.forall_mem_cons.mpr ⟨(show _ ∈ tables_1 from List.mem_append_right _ (List.mem_append_right _ (List.mem_append_left _ ((List.mem_of_getElem? (i := 43) (by decide +kernel) : _ ∈ tables_1_3))))), List.forall_mem_cons.mpr ⟨(show _ ∈ tables_1 from List.mem_append_right _ (List.mem_append_right _ (List.mem_append_left _ ((List.mem_of_getElem? (i := 44) (by decide +kernel) : _ ∈ tables_1_3))))), List.forall_mem_cons.mpr ⟨(show _ ∈ tables_1 from List.mem_append_right _ (List.mem_append_right _ (List.mem_append_left _ ((List.mem_of_getElem? (i := 122) (by decide +kernel) : _ ∈ tables_1_3))))), List.forall_mem_cons.mpr ⟨(show _ ∈ tables_1 from List.mem_append_right _ (List.mem_append_right _ (List.mem_append_left _ ((List.mem_of_getElem? (i := 141) (by decide +kernel) : _ ∈ tables_1_3))))), fun w h => absurd h List.not_mem_nil⟩⟩⟩⟩⟩⟩⟩⟩⟩
theorem am_N3_in : ∀ C ∈ am_N3, Cond.arrayOver (.object C) ∈ tables_1 := List.forall_mem_cons.mpr ⟨(show _ ∈ tables_1 from List.mem_append_left _ ((List.mem_of_getElem? (i := 36) (by decide +kernel) : _ ∈ tables_1_1))), List.forall_mem_cons.mpr ⟨(show _ ∈ tables_1 from List.mem_append_left _ ((List.mem_of_getElem? (i := 86) (by decide +kernel) : _ ∈ tables_1_1))), List.forall_mem_cons.mpr ⟨(show _ ∈ tables_1 from List.mem_append_left _ ((List.mem_of_getElem? (i := 226) (by decide +kernel) : _ ∈ tables_1_1))), List.forall_mem_cons.mpr ⟨(show _ ∈ tables_1 from List.mem_append_right _ (List.mem_append_left _ ((List.mem_of_getElem? (i := 104) (by decide +kernel) : _ ∈ tables_1_2)))), List.forall_mem_cons.mpr ⟨(show _ ∈ tables_1 from List.mem_append_right _ (List.mem_append_left _ ((List.mem_of_getElem? (i := 111) (by decide +kernel) : _ ∈ tables_1_2)))), List.forall_mem_cons.mpr ⟨(show _ ∈ tables_1 from List.mem_append_right _ (List.mem_append_left _ ((List.mem_of_getElem? (i := 149) (by decide +kernel) : _ ∈ tables_1_2)))), fun w h => absurd h List.not_mem_nil⟩⟩⟩⟩⟩⟩
theorem am_us : Cond.laysStatic Bundle.tN "UNASSIGNED_STACK" Bundle.steD ∈ tables_1 := (show _ ∈ tables_1 from List.mem_append_right _ (List.mem_append_right _ (List.mem_append_left _ ((List.mem_of_getElem? (i := 63) (by decide +kernel) : _ ∈ tables_1_3)))))
theorem am_ss : Cond.laysStatic Bundle.tN "SUPPRESSED_SENTINEL" Bundle.listD ∈ tables_1 := (show _ ∈ tables_1 from List.mem_append_right _ (List.mem_append_right _ (List.mem_append_left _ ((List.mem_of_getElem? (i := 65) (by decide +kernel) : _ ∈ tables_1_3)))))
theorem am_arr_at {s : State} {args : Array Value} {ty : FieldType} (hty : ty = .int ∨ ty = .boolean ∨ ty = .long) (h : (Cond.arrayClass ty).before args s = true) : ∃ cA : ClassId, ArrOfT s cA ty ∧ va_RA s cA ty := by
  obtain ⟨c, k, comp, h1, h2, h3⟩ := Cond.arrayClass_spec h
  refine ⟨c, fun n z => ⟨(fun k9 h9 => by cases h9), k, h2, comp, h3⟩, ?_⟩
  rcases hty with rfl | rfl | rfl <;> exact h1
theorem am_ref_at {s : State} {args : Array Value} {C : String} (h : (Cond.arrayOver (.object C)).before args s = true) : ∃ cA : ClassId, ArrOfT s cA (.object C) ∧ va_RA s cA (.object C) := by
  obtain ⟨comp, c, k, h1, h2, h3, h4, h5⟩ := Cond.arrayOver_spec h
  exact ⟨c, fun n z => ⟨(fun k9 h9 => by cases h9), k, h3, comp, h4⟩, k, comp, h3, h4, h1, h5⟩
/-- YOUR PART: from the entry, for every script of at most 3584 ints, the law comes to its end with true ('hflags': the launch's flags, for a law that throws: no stack traces) -/
theorem whole_start {p : Program} {e : Env} {s : State} {m : MethodId} {below : List Frame} {meth : Method} {c : Code} (l : Launch) (hflags : l.flags = flags0) {b L : Nat} {xs : Nat → Int32} (hL : L ≤ 3584) (C0 : lw_At p s m meth c b L xs) (hname9 : meth.name = "law") (htab9 : c.exceptionTable.toList = []) (hcode9 : (Jvm.Cond.code x code maxLocals ret).before #[Value.ref b] s = true) : W p l e room_1 s m #[Value.ref b] below meth c s.heap [] 0 0 (lw_Z below #[Value.ref b] s) (entryFrame m ([Value.ref b] : List Value).toArray 7) := by
  obtain ⟨hx, hb, hr, hml, hown, hts, hX, hbl, hlocks, hgv⟩ := id C0
  have htG : ∀ w ∈ am_G, w.before #[Value.ref b] s = true := fun w hw => hts w (List.mem_filter.mp hw).1
  have hkn : ∀ k : Nat, ∃ q : ClassId × (Nat → Nat), ∀ r : vw_C, am_cl[k]? = some r → u_Kn s r.1 r.2.1 r.2.2 q.1 q.2 := by
    intro k
    cases hk : am_cl[k]? with
    | none => exact ⟨(0, fun _ => 0), fun r hr => by cases hr⟩
    | some r =>
      obtain ⟨h1, n, h2⟩ := am_all_in hk
      obtain ⟨cC, iS, h3⟩ := u_known (C := r.1) (T := r.2.1) (N := r.2.2) (n := n) htG h1 (htG _ h2)
      exact ⟨(cC, iS), fun r' hr' => by cases hr'; exact h3⟩
  have hta : ∀ t : Nat, ∃ cA : ClassId, t < 9 → ArrOfT s cA (am_ty t) ∧ va_RA s cA (am_ty t) := by
    intro t
    by_cases ht : t < 9
    · have h3 : ∀ C ∈ am_N3, ∃ cA : ClassId, ArrOfT s cA (.object C) ∧ va_RA s cA (.object C) := fun C hC => am_ref_at (hts _ (am_tbl (am_N3_in C hC)))
      match t, ht with
      | 0, _ => obtain ⟨c, h⟩ := am_arr_at (Or.inl rfl) (htG _ am_acI); exact ⟨c, fun _ => h⟩
      | 1, _ => obtain ⟨c, h⟩ := am_arr_at (Or.inr (Or.inl rfl)) (htG _ am_acZ); exact ⟨c, fun _ => h⟩
      | 2, _ => obtain ⟨c, h⟩ := am_arr_at (Or.inr (Or.inr rfl)) (htG _ am_acJ); exact ⟨c, fun _ => h⟩
      | 3, _ => obtain ⟨c, h⟩ := h3 "ClubBase$Column" (by decide +kernel); exact ⟨c, fun _ => h⟩
      | 4, _ => obtain ⟨c, h⟩ := h3 "ClubBase$Rule" (by decide +kernel); exact ⟨c, fun _ => h⟩
      | 5, _ => obtain ⟨c, h⟩ := h3 "ClubBase$Question" (by decide +kernel); exact ⟨c, fun _ => h⟩
      | 6, _ => obtain ⟨c, h⟩ := h3 "ClubBase$Act" (by decide +kernel); exact ⟨c, fun _ => h⟩
      | 7, _ => obtain ⟨c, h⟩ := h3 "ClubBase$Rows" (by decide +kernel); exact ⟨c, fun _ => h⟩
      | 8, _ => obtain ⟨c, h⟩ := h3 "ClubBase$Step" (by decide +kernel); exact ⟨c, fun _ => h⟩
    · exact ⟨0, fun h => absurd h ht⟩
  obtain ⟨g, hg, hg3, hgx, hK0⟩ : ∃ g : am_Gl, g.2.2.2.1 = false ∧ g.2.2.1 = s.heap.size ∧ g.2.2.2.2 = (b, L, xs) ∧ va_K g.1 am_cl (am_tys g) s := by
    refine ⟨((fun k => (Classical.choose (hkn k)).1, fun k => (Classical.choose (hkn k)).2), fun t => Classical.choose (hta t), s.heap.size, false, b, L, xs), rfl, rfl, rfl, fun k q hq => Classical.choose_spec (hkn k) q hq, fun k q hq => ?_⟩
    by_cases hk : k < 9
    · rw [am_tys_get hk] at hq
      cases hq
      exact Classical.choose_spec (hta k) hk
    · rw [List.getElem?_eq_none (by simp [am_tys]; omega)] at hq
      cases hq
  have hA : ∀ a : Nat, a < s.heap.size → ¬ am_A g a := fun a ha h => absurd (show s.heap.size ≤ a by rw [← hg3]; exact h) (Nat.not_le.mpr ha)
  have hfl := flat_of_before _ hgv
  have hK : am_K g s s.heap := by
    refine ⟨hK0, fun w hw => va_Nw.of ((by decide +kernel : ∀ w ∈ am_N1, w.onTables = true) w hw) (hts w (am_tbl (am_N1_in w hw))), fun w hw => va_Nw.of (am_N2on w hw) (hts w (am_tbl (am_N2_in w hw))), fun C hC => va_AO.of (hts _ (am_tbl (am_N3_in C hC))), ?_, ?_, ?_, ?_, ?_⟩
    · have key : ∀ q ∈ am_N4, Cond.not (.castable q.1 q.2) ∈ flatC (Jvm.Cond.and given_1 narrow_1) := by decide +kernel
      exact fun q hq => va_Nc.of (hfl _ (key q hq))
    · exact vx_Zqof (hts _ (am_tbl am_us)) (htG _ aw_0_13) (hfl _ (by decide +kernel)) hA
    · exact vx_Zqof (hts _ (am_tbl am_ss)) (htG _ aw_0_13) (hfl _ (by decide +kernel)) hA
    · rw [hgx]; exact hX
    · rw [hgx, hg3]; exact hbl
  have hY : am_word m_LAW = Jvm.Cond.code x code maxLocals ret := rfl
  have hcode : (Jvm.Cond.code x code maxLocals ret).before #[Value.ref b] s = true := hcode9
  have C : am_C l g m_LAW p s m #[Value.ref b] meth c := ⟨hx, hb, hml, hown, fun w hw => by
    rcases List.mem_cons.mp hw with h | h
    · rw [h, hY]; exact hcode
    · exact htG w h, hr, hlocks, hname9, htab9, hK, Nat.le_of_eq hg3, by show l.stackTraces = false; unfold Launch.stackTraces; rw [hflags]; decide +kernel⟩
  have hgb : g.2.2.2.2.1 = b := by rw [hgx]
  have hgL : g.2.2.2.2.2.1 = L := by rw [hgx]
  have hl := lv_entry ([.ref b]) (n := 7) (Nat.le_of_ble_eq_true rfl)
  rw [show (#[Value.ref b] : Array Value) = ([Value.ref b] : List Value).toArray from rfl, lg_entry_eq]
  have hl2 : lv_has ((lg_sl ([.ref b]) ++ List.replicate (7 - (lg_sl ([.ref b])).length) Slot.unset).toArray) 7 (am_lv (fun _ => 0) [(0, .retAddr g.2.2.2.2.1)]) := by rw [hgb]; exact hl
  have K := law_start (l := l) (g := g) hg (by rw [hgL]; exact hL) (ad0 := fun _ => 0) (σ0 := fun _ _ => 0) p e s m #[Value.ref b] below meth c C (fun _ => 0) s.heap [] _ (Nat.le_refl 0) (fun _ _ => rfl) ⟨fun k q h => by simp [am_ws] at h, ⟨fun i j p q h => by simp [am_ws] at h, fun k q h => by simp [am_ws] at h⟩, fun _ i j hi => absurd hi (Nat.not_lt_zero i)⟩ va_S.rf hl2 ⟨(fun q hq i hi => by
    rcases List.mem_cons.mp hq with h | h
    · rw [h] at hi; cases hi
    · cases h), fun v hv => by cases hv⟩
  intro T hT X
  obtain ⟨t, a1, b1⟩ := K T hT X
  refine ⟨t, a1, ?_⟩
  have hq : ¬ am_yt m_LAW = true := by decide
  unfold am_Q at b1
  rw [if_neg hq] at b1
  obtain ⟨o, r1, r2, ⟨⟨v, n', ad', σ', q1, q2, q3, q4, q5, q6⟩, q7⟩, L9, r4, r5⟩ := b1
  have q3 : v = some (.int 1) := Sum.inl.inj q3
  rw [q3] at q1
  exact ⟨o, r1, r2, q1, am_forget r4 (fun q hq => by have h9 : g.2.2.1 ≤ q.base := r5 q hq; rw [hg3] at h9; exact h9)⟩

set_option maxHeartbeats 4000000 in
theorem lw_walk (l : Launch) (hflags : l.flags = flags0) (b : Addr) (xs : List Int32) : MetFree l x (headSpec (Jvm.Cond.code x code maxLocals ret :: tables_1) room_1) (lw_P b xs) (fun _ _ _ _ _ => True) lw_Q := by
  refine MetFree.of_bodyS (code := code) (maxLocals := maxLocals) (ret := ret) (by decide) ?_ ?_
  · intro args s m h hn
    obtain ⟨meth, c, h1, h2, h3, h4, h5, h6, -, -⟩ := Cond.code_spec hn (atoms_spec (ws := Jvm.Cond.code x code maxLocals ret :: tables_1) h _ List.mem_cons_self)
    exact ⟨meth, c, h1, h2, h3, h4, h5, h6⟩
  · intro p e s m args below meth c s₁ B hml0 hP _
    obtain ⟨rfl, hx, hbd, hgv⟩ := hP
    obtain ⟨scr, harrAt, hlist, hof, hsmall⟩ := hx
    obtain ⟨hcb, hkn, -, -⟩ := State.arrayAt?_spec harrAt
    have hown : s.vm.findClass R_law = some m.cls := findClass_of_methodNamed B.named
    have hts0 : ∀ c ∈ (Jvm.Cond.code x code maxLocals ret :: tables_1), c.before #[Value.ref b] s = true := atoms_spec (ws := Jvm.Cond.code x code maxLocals ret :: tables_1) B.pre
    have hts : ∀ w ∈ lw_tbl, w.before #[Value.ref b] s = true := k2_hts_sels lw_privs (fun w hw => hts0 w (List.mem_cons_of_mem _ hw)) lw_privs_ok
    have hml : c.maxLocals = 7 := B.maxLocals_eq (hts0 _ List.mem_cons_self)
    have htab9 : c.exceptionTable.toList = [] := by
      obtain ⟨meth9, c9, h1, h2, -, -, -, -, h7, -⟩ := Cond.code_spec B.named (hts0 _ List.mem_cons_self)
      cases Option.some.inj (h1.symm.trans B.method)
      cases Option.some.inj (h2.symm.trans (Stand.of_body B).code)
      simpa using h7
    have X₀ : Stand p l e room_1 s m #[Value.ref b] below meth c s₁ [] 0 0 := Stand.of_body B
    have hh0 : s₁.heap = s.heap := by rw [B.state]; rfl
    have hsz : scr.slots.size = xs.length := by rw [← Array.length_toList, hlist, List.length_map]
    have hval : ∀ j : Nat, j < xs.length → scr.slots[j]? = some (.int (xs.getD j 0)) := fun j hj => by
      rw [← Array.getElem?_toList, hlist]
      simp [hj]
    have hbl : b < s.heap.size := (Array.getElem?_eq_some_iff.mp hcb).1
    have hX : va_X b xs.length (fun j => xs.getD j 0) s s.heap := ⟨scr, hcb, hof, hkn, hsz, hval⟩
    have K : W p l e room_1 s m #[Value.ref b] below meth c s₁.heap [] 0 0 (lw_Z below #[Value.ref b] s) (entryFrame m ([Value.ref b] : List Value).toArray 7) := by
      rw [hh0]
      exact whole_start l hflags hbd ⟨B.exec, B.bytes, B.returns, hml, hown, hts, hX, hbl, B.notSynchronized, hgv⟩ (name_of_methodNamed B.named B.method).1 htab9 (hts0 _ List.mem_cons_self)
    obtain ⟨t, a1, o, b1, b2, b3⟩ := K s₁ rfl X₀
    exact ⟨t, o, a1, b1, b2, b3⟩
theorem lw_pre_spec {args : Array Value} {s : State} (h : (Jvm.Cond.and given_1 narrow_1).before args s = true) (hr : rest_1_c.before args s = true) : ∃ (b : Addr) (xs : List Int32), lw_P b xs args s := by
  have hs := flat_of_before _ h
  have hq := flat_of_before _ hr
  have hc : (Cond.count 1).before args s = true := hs _ (by decide +kernel)
  have harr : (Cond.arrayOf (.arg 0) .int).before args s = true := hs _ (by decide +kernel)
  have hle : (Cond.le (.length (.arg 0)) (.int 3584)).before args s = true := hs _ (by decide +kernel)
  have hlen : (Cond.isInt (.length (.arg 0))).before args s = true := hq _ (by decide +kernel)
  have hall : (Cond.all (.arg 0) (.isInt (.elem (.arg 0) (.index 0)))).before args s = true := hq _ (by decide +kernel)
  obtain ⟨b, xs, hb, hx⟩ := State.ints_of_pre rfl harr hlen hall
  have hsm : xs.length < 2 ^ 31 := hx.choose_spec.2.2.2
  have hev : (Term.length (.arg 0)).eval args s none [] s = some (.int xs.length.toInt32) := hx.length_eval hb
  have hv := Cond.le_ints hev (show (Term.int 3584).eval args s none [] s = some (.int 3584) from rfl)
  have hd : xs.length.toInt32 ≤ 3584 := by
    simpa [Cond.before, Cond.holds, hv] using hle
  have hN : xs.length ≤ 3584 := (Int32.ofNat_le_ofNat hsm (by decide)).mp (show Int32.ofNat xs.length ≤ Int32.ofNat 3584 from hd)
  exact ⟨b, xs, Cond.one_arg hc (show args[0]? = some (.ref b) from hb), hx, hN, h⟩
theorem lw_comes (l : Launch) (hflags : l.flags = flags0) : Comes l x (Jvm.Cond.code x code maxLocals ret :: tables_1) room_1 (fun tb e args s => Calls_1 tb e args s ∧ rest_1 tb e args s ∧ Pre_1 tb e args s)
    (fun _ _ args s o t => lw_Q args s o t) := by
  intro p e ha hc hk s m args below hf hfit hheap happ hpre
  obtain ⟨b, xs, hP⟩ := lw_pre_spec hpre.2.2 hpre.2.1
  obtain ⟨k, o, h1, h2, h3, hQ⟩ := lw_walk l hflags b xs p e ha hc hk s m args below hf ((Spec.applies_iff_loose hf).mp happ).1 hP trivial
  exact ⟨k, o, h1, h2, h3, hQ⟩
theorem lw_frame {s t : State} {o : Outcome} {args : Array Value} (h : Framed s o t [] room_1.cells room_1.slots) :
    Framed s o t (fieldLocs frame_1_writes args s ++ arrayLocs frame_1_arrays args s ++ staticLocs frame_1_statics s) room_1.cells room_1.slots := h
theorem lw_limb (L : Cond) (hL : ∀ (args : Array Value) (s t : State), L.after args s (.returned (some (.int 1))) t = true) :
    ArmFor flags0 classFile x code maxLocals ret World_1 tables_1 room_1 Calls_1 rest_1 Pre_1
      (fun tb e a s o t => postC L tb e a s o t ∧ Framed s o t (fieldLocs frame_1_writes a s ++ arrayLocs frame_1_arrays a s ++ staticLocs frame_1_statics s) room_1.cells room_1.slots) := by
  intro l hflags _ _ p e ha hc hk s m args below hf hfit hheap happ hpre
  obtain ⟨k, o, h1, h2, h3, rfl, hF⟩ := lw_comes l hflags p e ha hc hk s m args below hf hfit hheap happ hpre
  exact ⟨k, _, h1, h2, h3, hL args s _, lw_frame hF⟩
theorem i_vc : Claimed_1_1 ∧ Claimed_1_2 := ⟨lw_limb limb_1_1 (fun args s t => by simp [limb_1_1, Cond.after, Cond.holds, Cond.value]), lw_limb limb_1_2 (fun args s t => Cond.after_iff.mpr (by
  first | (rw [show limb_1_2 = Cond.eq .result (.int 1) from rfl, Cond.eq_ints (x := 1) (y := 1) rfl rfl]; simp; done) | (simp [limb_1_2, Cond.value, Term.eval]; done)))⟩
