/-! small helpers of the methods that are read off; written by wip/p52/gen10.py -/
theorem am_oI_ok {s : am_M} {x : Int32} : am_oI s x (.inl (some (.int x))) 207 s := ⟨rfl, rfl, rfl⟩
theorem am_oM_ok {s : am_M} : am_oM s (.inl none) 207 s := ⟨rfl, rfl, rfl⟩
theorem am_oC_ok {s : am_M} {x : Int32} : am_oC (x, s) (.inl (some (.int x))) 207 s := ⟨rfl, rfl, rfl⟩
theorem am_oR_ok {s : am_M} {b : Nat} : am_oR s b (.inl (some (.ref b))) 207 s := ⟨rfl, rfl, rfl⟩
theorem am_oD_ok {s : am_M} : am_oD s 0 (.inl none) 207 s := ⟨rfl, rfl, rfl⟩
theorem am_oE_ok {s : am_M} {x : Int32} : am_oE (0, x, s) (.inl (some (.int x))) 207 s := ⟨rfl, rfl, rfl⟩
theorem am_oV_ok {s : am_M} : am_oV (0, s) (.inl none) 207 s := ⟨rfl, rfl, rfl⟩
theorem am_oD_1 {s : am_M} : am_oD s 1 (.inr "java/lang/IndexOutOfBoundsException") 207 s := ⟨rfl, rfl, rfl⟩
theorem am_oD_2 {s : am_M} : am_oD s 2 (.inr "java/lang/IllegalArgumentException") 207 s := ⟨rfl, rfl, rfl⟩
theorem am_oD_3 {s : am_M} : am_oD s 3 (.inr "java/lang/IllegalStateException") 207 s := ⟨rfl, rfl, rfl⟩
theorem am_oE_1 {s : am_M} : am_oE (1, 0, s) (.inr "java/lang/IndexOutOfBoundsException") 207 s := ⟨rfl, rfl, rfl⟩
theorem am_oE_2 {s : am_M} : am_oE (2, 0, s) (.inr "java/lang/IllegalArgumentException") 207 s := ⟨rfl, rfl, rfl⟩
theorem am_oE_3 {s : am_M} : am_oE (3, 0, s) (.inr "java/lang/IllegalStateException") 207 s := ⟨rfl, rfl, rfl⟩
theorem am_oV_1 {s : am_M} : am_oV (1, s) (.inr "java/lang/IndexOutOfBoundsException") 207 s := ⟨rfl, rfl, rfl⟩
theorem am_oV_2 {s : am_M} : am_oV (2, s) (.inr "java/lang/IllegalArgumentException") 207 s := ⟨rfl, rfl, rfl⟩
theorem am_oV_3 {s : am_M} : am_oV (3, s) (.inr "java/lang/IllegalStateException") 207 s := ⟨rfl, rfl, rfl⟩
theorem am_oD_x {s : am_M} {q : Nat} (h : ¬ q = 0) : am_oD s q (.inr (am_exn q)) 207 s := by rw [am_oD, if_neg h]; exact ⟨rfl, rfl, rfl⟩
theorem am_oE_x {s : am_M} {q : Nat} (h : ¬ q = 0) : am_oE (q, 0, s) (.inr (am_exn q)) 207 s := by rw [am_oE, if_neg h]; exact ⟨rfl, rfl, rfl⟩
theorem am_oV_x {s : am_M} {q : Nat} (h : ¬ q = 0) : am_oV (q, s) (.inr (am_exn q)) 207 s := by rw [am_oV, if_neg h]; exact ⟨rfl, rfl, rfl⟩
theorem ak_V {l : Launch} {g : am_Gl} {Y : am_Y} {n0 : Nat} {ad0 : Nat → Nat} {k z : Nat} {σ : am_M} {pc : Nat} {lv : List (Nat × Value)} {st : List Value} {α : Type} {F : α → am_P} {V U : α} {Y' : am_Y} {idx nargs : Nat} {b ci N : Nat} {q : Nat × am_M} {as rest : List Value} (d : decode Y.2.1 pc = .ok (.invokevirtual idx, 3)) (cw : am_cv Y Y' idx nargs) (ht : am_yt Y' = true) (hY : am_yt Y = true) (hh : am_yh Y = none) (hA : AC l g Y' 207 σ (.ref b :: as) (am_oV q)) (hst : as.reverse ++ .ref b :: rest = st) (hna : as.length = nargs) (hb : b < 207) (hs : am_sh b = (0, ci, N)) (hc : (am_cl[ci]?).map Prod.fst = some Y'.1.cls) (hcat : (rest.map fun v => v.category).sum ≤ 8) (hk : k + am_yc Y' ≤ am_yc Y) (hz : z + am_ys Y' ≤ am_ys Y)
    (hF : ¬ q.1 = 0 → F U (.inr (am_exn q.1)) 207 q.2) (kk : q.1 = 0 → AW l g Y n0 ad0 (F V) (k + am_yc Y') (z + am_ys Y') 207 q.2 (pc + 3) lv rest) : AW l g Y n0 ad0 (F (if q.1 = 0 then V else U)) k z 207 σ pc lv st := by
  by_cases h : q.1 = 0
  · rw [if_pos h]
    rw [am_oV, if_pos h] at hA
    refine am_callVX d cw ht hY hh hA hst hna hb hs hc hcat hk hz (fun E n' σ' hP _ => by cases hP.1) (fun v n' σ' hP hn => ?_)
    obtain ⟨e1, e2, e3⟩ := hP
    cases e1
    subst e2
    subst e3
    exact kk h
  · rw [if_neg h]
    rw [am_oV, if_neg h] at hA
    refine am_callVX d cw ht hY hh hA hst hna hb hs hc hcat hk hz (fun E n' σ' hP _ => ?_) (fun v n' σ' hP hn => by cases hP.1)
    obtain ⟨e1, e2, e3⟩ := hP
    cases e1
    subst e2
    subst e3
    exact hF h
theorem am_ne0 {i ci N : Nat} (h : am_sh i = (0, ci, N)) : (i == 182) = false := by
  cases h9 : i == 182
  · rfl
  · rw [beq_iff_eq.mp h9, sh_182] at h
    cases h
theorem am_ne1 {i t N : Nat} (h : am_sh i = (1, t, N)) (ht : t ≠ 7) : (i == 182) = false := by
  cases h9 : i == 182
  · rfl
  · rw [beq_iff_eq.mp h9, sh_182] at h
    cases h
    exact absurd rfl ht
theorem am_rv9 {g : am_Gl} {k : Nat} {x : Int32} (h : ¬ x < 0) (h9 : x.toNatClampNeg < 207) : am_rv g 182 k x = some x.toNatClampNeg := by simp [am_rv, h, h9]
theorem am_rvN {g : am_Gl} {k b : Nat} (h : b < 207) : am_rv g 182 k (nI b) = some b := by
  rw [am_rv9 (nI_pos (by omega)) (by rw [nI_clamp (by omega)]; exact h), nI_clamp (by omega)]
theorem am_i0 {x : Int32} {k : Int32} (h : x.toInt = k.toInt) : x = k := Int32.toInt_inj.mp h
theorem am_sw3 {x : Int32} {j : Int} (h1 : (0 : Int) ≤ j) (h2 : j ≤ 2) (e : x.toInt = j) (n0 : ¬ x = 0) (n1 : ¬ x = 1) (n2 : ¬ x = 2) : False := by
  rcases (show j = 0 ∨ j = 1 ∨ j = 2 by omega) with rfl | rfl | rfl
  · exact n0 (am_i0 e)
  · exact n1 (am_i0 e)
  · exact n2 (am_i0 e)
theorem am_sw5 {x : Int32} {j : Int} (h1 : (0 : Int) ≤ j) (h2 : j ≤ 4) (e : x.toInt = j) (n0 : ¬ x = 0) (n1 : ¬ x = 1) (n2 : ¬ x = 2) (n3 : ¬ x = 3) (n4 : ¬ x = 4) : False := by
  rcases (show j = 0 ∨ j = 1 ∨ j = 2 ∨ j = 3 ∨ j = 4 by omega) with rfl | rfl | rfl | rfl | rfl
  · exact n0 (am_i0 e)
  · exact n1 (am_i0 e)
  · exact n2 (am_i0 e)
  · exact n3 (am_i0 e)
  · exact n4 (am_i0 e)
