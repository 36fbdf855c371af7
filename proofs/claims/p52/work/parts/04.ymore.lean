theorem am_cpy1 : Cond.native arraycopyName ∈ am_G := aw_2_152
theorem am_cpy2 : Cond.static arraycopyName ∈ am_G := aw_2_151
theorem am_cpy3 : Cond.initialized "java/lang/System" ∈ am_G := aw_0_18
theorem am_max1 : Cond.static Lib.Math.max.name ∈ am_G := aw_3_169
theorem am_max2 : Cond.initialized "java/lang/Math" ∈ am_G := aw_0_19
theorem am_max3 : Cond.code Lib.Math.max.name Lib.Math.max.code 2 (some .int) ∈ am_G := aw_3_170
theorem am_min1 : Cond.static Lib.Math.min.name ∈ am_G := aw_4_223
theorem am_min3 : Cond.code Lib.Math.min.name Lib.Math.min.code 2 (some .int) ∈ am_G := aw_4_224
theorem am_obj1 : Cond.instanceMethod Lib.objectInit ∈ am_G := aw_0_26
theorem am_obj2 : Cond.code Lib.objectInit ⟨#[0xb1]⟩ 1 none ∈ am_G := aw_0_27
/-! throws, copies, Math; written by wip/p52/gen6.py -/
def am_sup : List String := ["java/lang/RuntimeException", "java/lang/Exception"]
def am_tw (own : String) (ik ic : Nat) (E : String) : Prop := Cond.classLink own ik E ∈ am_G ∧ Cond.initialized E ∈ am_G ∧ (∀ w ∈ (vx_at0 own ic E am_sup).filter goodWord, w ∈ am_G) ∧ (∀ w ∈ (vx_at0 own ic E am_sup).filter (fun w => !goodWord w), w ∈ am_N2) ∧ (∀ w ∈ Cond.classLink own ik E :: Cond.initialized E :: vx_at0 own ic E am_sup, vx_ot w = true) ∧ Bundle.fit E = true
theorem am_supfit : ∀ n ∈ am_sup, Bundle.fit n = true := by decide +kernel
theorem am_N2on : ∀ w ∈ am_N2, w.onTables = true := by decide +kernel
theorem am_throw {l : Launch} {g : am_Gl} {Y : am_Y} {n0 : Nat} {ad0 : Nat → Nat} {P : am_P} {k z n : Nat} {σ : am_M} {pc : Nat} {lv : List (Nat × Value)} {E : String} {ik ic : Nat} (d0 : decode Y.2.1 pc = .ok (.new ik, 3)) (d3 : decode Y.2.1 (pc + 3) = .ok (.dup, 1)) (d4 : decode Y.2.1 (pc + 4) = .ok (.invokespecial ic, 3)) (d7 : decode Y.2.1 (pc + 7) = .ok (.athrow, 1)) (tw : am_tw Y.1.cls ik ic E) (hY : am_yt Y = true) (hh : am_yh Y = none) (hf : 6 ≤ am_yl Y) (hk : k + 1 ≤ am_yc Y) (hz : z + 6 ≤ am_ys Y) (hP : P (.inr E) n σ) : AW l g Y n0 ad0 P k z n σ pc lv [] := by
  intro p e s m args below meth c C ad H locs ls hn hx hH hS hl hw
  unfold am_Q
  rw [if_pos hY]
  obtain ⟨t1, t2, t3, t4, t5, t6⟩ := tw
  have hK := C.2.2.2.2.2.2.2.2.2.1
  refine vx_throw0 (names := am_sup) (rest := []) (A := am_A g) C.1 C.2.1 C.2.2.2.2.2.2.2.2.2.2.2 C.2.2.2.1 t6 am_supfit (am_word_G C t1) (am_word_G C t2) (vx_hat (B := am_N2) (fun w hw => am_word_G C (t3 w hw)) t4 (fun w hw => va_Nw.use (am_N2on w hw) (hK.2.2.1 w hw))) t5 hK.2.2.2.2.2.1 hK.2.2.2.2.2.2.1 hS (hl.1.trans C.2.2.1.symm) d0 d3 d4 d7 (fun x hx9 => by rw [C.2.2.2.2.2.2.2.2.1, am_tb, hh] at hx9; cases hx9) (by show 2 + 3 < am_yl Y; omega) (by have := am_lo_ge Y; show 0 + (13 * (2 + 1) + 42) ≤ am_lo Y; omega) hk hz C.2.2.2.2.2.2.1 (fun t hvm hsz hq => ?_) hS.2.2 hk hz
  refine ⟨⟨n, ad, σ, hP, hn, hx, hH.1.kept (fun k q hk9 => hq _ (hH.1 k q hk9).lt), hH.2⟩, Nat.le_trans hS.1 hsz, fun q h1 h2 => ?_⟩
  rw [hq q (Nat.lt_of_lt_of_le h1 hS.1)]
  exact hS.2.1 q h1 h2
/-- System.arraycopy of ints -/
theorem am_copy {l : Launch} {g : am_Gl} {Y : am_Y} {n0 : Nat} {ad0 : Nat → Nat} {P : am_P} {k z n : Nat} {σ : am_M} {pc : Nat} {lv : List (Nat × Value)} {st : List Value} {a b N0 N1 idx : Nat} {sp dp x : Int32} (d : decode Y.2.1 pc = .ok (.invokestatic idx, 3)) (hlink : Cond.methodLink Y.1.cls idx arraycopyName ∈ am_G) (ha : a < n) (hb : b < n) (hsa : am_sh a = (1, 0, N0)) (hsb : am_sh b = (1, 0, N1)) (h1 : ¬ sp < 0) (h2 : ¬ dp < 0) (h3 : ¬ x < 0) (h4 : sp.toNatClampNeg + x.toNatClampNeg ≤ N0) (h5 : dp.toNatClampNeg + x.toNatClampNeg ≤ N1) (hcat : (st.map fun v => v.category).sum ≤ 8) (hf : 1 ≤ am_yl Y)
    (kk : AW l g Y n0 ad0 P k z n (am_put σ b (va_cpy (σ a) (σ b) sp.toNatClampNeg dp.toNatClampNeg x.toNatClampNeg)) (pc + 3) lv st) : AW l g Y n0 ad0 P k z n σ pc lv (.int x :: .int dp :: .ref b :: .int sp :: .ref a :: st) := by
  intro p e s m args below meth c C ad H locs ls hn hx hH hS hl hw
  refine va_copyi (ty := .int) C.1 C.2.1 (C.2.2.1.trans hl.1.symm) C.2.2.2.1 (am_word_G C hlink) (am_word_G C am_cpy1) (am_word_G C am_cpy2) (am_word_G C am_cpy3) C.2.2.2.2.2.2.2.2.2.1.1 hH.1 hH.2.1 hS a b 0 0 (by rw [am_ws_get ha, am_e_int hsa (by decide)]) (by rw [am_ws_get hb, am_e_int hsb (by decide)]) (am_tys_get (by decide)) (am_tys_get (by decide)) rfl h1 h2 h3 h4 h5 (fun _ _ => rfl) hf ?_ d (fun H1 locs1 hP hD hS1 => ?_)
  · rw [am_sum]
    have h8 := am_lo_ge Y
    show _ + _ ≤ am_lo Y
    have : nativeFrameWords "java/lang/System" "arraycopy" 5 + 11 ≤ 28 := by decide +kernel
    omega
  · have e1 : (Sum.inl (g.2.1 0, N1, Sum.inl (va_cpy (σ a) (σ b) sp.toNatClampNeg dp.toNatClampNeg x.toNatClampNeg)) : va_E) = am_e g ad (am_put σ b (va_cpy (σ a) (σ b) sp.toNatClampNeg dp.toNatClampNeg x.toNatClampNeg)) b := by
      rw [am_e_int hsb (by decide), am_put_s]
    rw [am_ws_set e1 (fun j hj => am_put_o hj)] at hP hD
    exact kk p e s m args below meth c C ad H1 locs1 ls hn hx ⟨hP, hD, fun hf => am_mw_put hsb (by decide) (hH.2.2 hf) (fun j => by rw [am_isr_arr hsb]; rfl)⟩ hS1 hl (am_wf_tl (am_wf_tl (am_wf_tl (am_wf_tl (am_wf_tl hw)))))
theorem am_mmax {l : Launch} {g : am_Gl} {Y : am_Y} {n0 : Nat} {ad0 : Nat → Nat} {P : am_P} {k z n : Nat} {σ : am_M} {pc : Nat} {lv : List (Nat × Value)} {st : List Value} {idx : Nat} {x y : Int32} (d : decode Y.2.1 pc = .ok (.invokestatic idx, 3)) (hlink : Cond.methodLink Y.1.cls idx Lib.Math.max.name ∈ am_G) (hcat : (st.map fun v => v.category).sum ≤ 8) (hf : 1 ≤ am_yl Y) (hk : k ≤ am_yc Y) (hz : z ≤ am_ys Y) (kk : AW l g Y n0 ad0 P k z n σ (pc + 3) lv (.int (if x < y then y else x) :: st)) : AW l g Y n0 ad0 P k z n σ pc lv (.int y :: .int x :: st) := by
  intro p e s m args below meth c C ad H locs ls hn hx hH hS hl hw
  exact va_mmax C.1 C.2.1 (C.2.2.1.trans hl.1.symm) C.2.2.2.1 (am_word_G C hlink) (am_word_G C am_max1) (am_word_G C am_max2) (am_word_G C am_max3) hf (by rw [am_sum]; have := am_lo_ge Y; show _ ≤ am_lo Y; omega) hk hz d (kk p e s m args below meth c C ad H locs ls hn hx hH hS hl (am_wf_int (fun _ => by intro h; cases h) (am_wf_tl (am_wf_tl hw))))
theorem am_mmin {l : Launch} {g : am_Gl} {Y : am_Y} {n0 : Nat} {ad0 : Nat → Nat} {P : am_P} {k z n : Nat} {σ : am_M} {pc : Nat} {lv : List (Nat × Value)} {st : List Value} {idx : Nat} {x y : Int32} (d : decode Y.2.1 pc = .ok (.invokestatic idx, 3)) (hlink : Cond.methodLink Y.1.cls idx Lib.Math.min.name ∈ am_G) (hcat : (st.map fun v => v.category).sum ≤ 8) (hf : 1 ≤ am_yl Y) (hk : k ≤ am_yc Y) (hz : z ≤ am_ys Y) (kk : AW l g Y n0 ad0 P k z n σ (pc + 3) lv (.int (if y < x then y else x) :: st)) : AW l g Y n0 ad0 P k z n σ pc lv (.int y :: .int x :: st) := by
  intro p e s m args below meth c C ad H locs ls hn hx hH hS hl hw
  exact va_mmin C.1 C.2.1 (C.2.2.1.trans hl.1.symm) C.2.2.2.1 (am_word_G C hlink) (am_word_G C am_min1) (am_word_G C am_max2) (am_word_G C am_min3) hf (by rw [am_sum]; have := am_lo_ge Y; show _ ≤ am_lo Y; omega) hk hz d (kk p e s m args below meth c C ad H locs ls hn hx hH hS hl (am_wf_int (fun _ => by intro h; cases h) (am_wf_tl (am_wf_tl hw))))
theorem am_aast {l : Launch} {g : am_Gl} {Y : am_Y} {n0 : Nat} {ad0 : Nat → Nat} {P : am_P} {k z n : Nat} {σ : am_M} {pc : Nat} {lv : List (Nat × Value)} {st : List Value} {i t N b ci M : Nat} {x y : Int32} (d : decode Y.2.1 pc = .ok (.aastore, 1)) (hi : i < n) (hs : am_sh i = (1, t, N)) (ht : 2 < t ∧ t < 9) (hin : vp_in x N) (hb : b < n) (hsb : am_sh b = (0, ci, M)) (hc : (am_cl[ci]?).map (fun q => FieldType.object q.1) = some (am_ty t)) (hy : am_rv g i x.toNatClampNeg y = some b) (kk : AW l g Y n0 ad0 P k z n (am_set σ i x.toNatClampNeg y) (pc + 1) lv st) : AW l g Y n0 ad0 P k z n σ pc lv (.ref b :: .int x :: .ref i :: st) := by
  intro p e s m args below meth c C ad H locs ls hn hx hH hS hl hw
  obtain ⟨q9, hq9, hq8⟩ : ∃ q : vw_C, am_cl[ci]? = some q ∧ am_ty t = .object q.1 := by
    cases h : am_cl[ci]? with
    | none => rw [h] at hc; cases hc
    | some q => rw [h] at hc; exact ⟨q, rfl, (Option.some.inj hc).symm⟩
  refine va_astq (r := q9) (v := ad b) C.1 C.2.1 C.2.2.2.2.2.2.2.2.2.1.1 hH.1 hH.2.1 hS i t b ci (by rw [am_ws_get hi, am_e_ref hs ht.1]) (by rw [am_tys_get ht.2, hq8]) (by rw [am_ws_get hb, am_e_obj hsb]) hq9 hin d (fun H1 locs1 hP hD hS1 => ?_)
  have e1 : (Sum.inl (g.2.1 t, N, Sum.inr (Sum.inr (Sum.inr (Sum.inr (va_up (fun j => (am_rv g i j (σ i j)).map ad) x.toNatClampNeg (some (ad b))))))) : va_E) = am_e g ad (am_set σ i x.toNatClampNeg y) i := by
    rw [am_e_ref hs ht.1, am_set_s]
    congr 7
    funext j
    by_cases hj : j = x.toNatClampNeg
    · simp [va_up, upd, hj, hy]
    · simp [va_up, upd, hj]
  rw [am_ws_set e1 (fun b hb => am_set_o hb)] at hP hD
  exact kk p e s m args below meth c C ad H1 locs1 ls hn hx ⟨hP, hD, fun hf => am_mw_set hs (by decide) (hH.2.2 hf) (fun _ => by
    by_cases hy0 : y < 0
    · exact Or.inl hy0
    · rw [am_rv, hf] at hy
      simp [hy0] at hy
      exact Or.inr (by rw [hy]; exact hb))⟩ hS1 hl (am_wf_tl (am_wf_tl (am_wf_tl hw)))
theorem am_objInit {l : Launch} {g : am_Gl} {Y : am_Y} {n0 : Nat} {ad0 : Nat → Nat} {P : am_P} {k z n : Nat} {σ : am_M} {pc : Nat} {lv : List (Nat × Value)} {st : List Value} {b idx : Nat} (d : decode Y.2.1 pc = .ok (.invokespecial idx, 3)) (hlink : Cond.methodLink Y.1.cls idx Lib.objectInit ∈ am_G) (hf : 1 ≤ am_yl Y) (hcat : (st.map fun v => v.category).sum ≤ 8) (kk : AW l g Y n0 ad0 P k z n σ (pc + 3) lv st) : AW l g Y n0 ad0 P k z n σ pc lv (.ref b :: st) := by
  intro p e s m args below meth c C ad H locs ls hn hx hH hS hl hw
  refine W.objInit C.1 C.2.1 C.2.2.2.1 (am_word_G C hlink) (am_word_G C am_obj1) (am_word_G C am_obj2) rfl (hl.1.trans C.2.2.1.symm) rfl d hf ?_ (kk p e s m args below meth c C ad H locs ls hn hx hH hS hl (am_wf_tl hw))
  show 2 * 0 + ((st.map (am_tr ad)).map fun v => v.category).sum + 12 ≤ am_lo Y
  rw [am_sum]
  have := am_lo_ge Y
  omega
/-- a number gets a name -/
theorem am_name {α : Type} {W9 : α → Prop} (e : α) (kk : ∀ x, x = e → W9 x) : W9 e := kk e rfl
set_option maxRecDepth 100000 in
theorem tw_ISE : am_tw "ClubBase" 64 66 "java/lang/IllegalStateException" := ⟨aw_1_203, aw_0_15, fun w hw => List.mem_filter.mpr ⟨by revert hw; revert w; decide +kernel, (List.mem_filter.mp hw).2⟩, by decide +kernel, by decide +kernel, by decide +kernel⟩
set_option maxRecDepth 100000 in
theorem tw_IAE : am_tw "ClubBase" 111 113 "java/lang/IllegalArgumentException" := ⟨aw_2_61, aw_0_17, fun w hw => List.mem_filter.mpr ⟨by revert hw; revert w; decide +kernel, (List.mem_filter.mp hw).2⟩, by decide +kernel, by decide +kernel, by decide +kernel⟩
set_option maxRecDepth 100000 in
theorem tw_IOB : am_tw "ClubBase" 178 180 "java/lang/IndexOutOfBoundsException" := ⟨aw_2_42, aw_0_16, fun w hw => List.mem_filter.mpr ⟨by revert hw; revert w; decide +kernel, (List.mem_filter.mp hw).2⟩, by decide +kernel, by decide +kernel, by decide +kernel⟩
