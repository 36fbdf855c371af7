/-! rows over functions that are read off the bytecode; written by wip/p52/gen8.py -/
def am_exn (c : Nat) : String := if c = 1 then "java/lang/IndexOutOfBoundsException" else if c = 2 then "java/lang/IllegalArgumentException" else "java/lang/IllegalStateException"
def am_oI (σ : am_M) (x : Int32) : am_P := am_ret (some (.int x)) 207 σ
def am_oM (s : am_M) : am_P := am_ret none 207 s
def am_oC (q : Int32 × am_M) : am_P := am_ret (some (.int q.1)) 207 q.2
def am_oR (σ : am_M) (b : Nat) : am_P := am_ret (some (.ref b)) 207 σ
def am_oD (σ : am_M) (c : Nat) : am_P := if c = 0 then am_ret none 207 σ else am_thr (am_exn c) 207 σ
def am_oE (q : Nat × Int32 × am_M) : am_P := if q.1 = 0 then am_ret (some (.int q.2.1)) 207 q.2.2 else am_thr (am_exn q.1) 207 q.2.2
def am_oV (q : Nat × am_M) : am_P := if q.1 = 0 then am_ret none 207 q.2 else am_thr (am_exn q.1) 207 q.2
noncomputable def am_F : Nat := Classical.choose (⟨5100, rfl⟩ : ∃ n : Nat, n = 5100)
theorem am_F_eq : am_F = 5100 := Classical.choose_spec (⟨5100, rfl⟩ : ∃ n : Nat, n = 5100)
theorem ai_eq {l : Launch} {g : am_Gl} {Y : am_Y} {n0 : Nat} {ad0 : Nat → Nat} {k z n : Nat} {σ : am_M} {pc : Nat} {lv : List (Nat × Value)} {st : List Value} {α : Type} {F : α → am_P} {V U : α} {x : Int32} {off : Int} {tgt : Nat} (d : decode Y.2.1 pc = .ok (.ifCond .eq off, 3)) (ht : (pc : Int) + off = (tgt : Int)) (kt : x = 0 → AW l g Y n0 ad0 (F V) k z n σ tgt lv st) (kf : ¬ x = 0 → AW l g Y n0 ad0 (F U) k z n σ (pc + 3) lv st) : AW l g Y n0 ad0 (F (if x = 0 then V else U)) k z n σ pc lv (.int x :: st) := by
  by_cases h : x = 0
  · rw [if_pos h]; exact am_if_eq d ht (fun _ => kt h) (fun q => absurd h q)
  · rw [if_neg h]; exact am_if_eq d ht (fun q => absurd q h) (fun _ => kf h)
theorem ai_lt {l : Launch} {g : am_Gl} {Y : am_Y} {n0 : Nat} {ad0 : Nat → Nat} {k z n : Nat} {σ : am_M} {pc : Nat} {lv : List (Nat × Value)} {st : List Value} {α : Type} {F : α → am_P} {V U : α} {x : Int32} {off : Int} {tgt : Nat} (d : decode Y.2.1 pc = .ok (.ifCond .lt off, 3)) (ht : (pc : Int) + off = (tgt : Int)) (kt : x < 0 → AW l g Y n0 ad0 (F V) k z n σ tgt lv st) (kf : ¬ x < 0 → AW l g Y n0 ad0 (F U) k z n σ (pc + 3) lv st) : AW l g Y n0 ad0 (F (if x < 0 then V else U)) k z n σ pc lv (.int x :: st) := by
  by_cases h : x < 0
  · rw [if_pos h]; exact am_if_lt d ht (fun _ => kt h) (fun q => absurd h q)
  · rw [if_neg h]; exact am_if_lt d ht (fun q => absurd q h) (fun _ => kf h)
theorem ai_ge {l : Launch} {g : am_Gl} {Y : am_Y} {n0 : Nat} {ad0 : Nat → Nat} {k z n : Nat} {σ : am_M} {pc : Nat} {lv : List (Nat × Value)} {st : List Value} {α : Type} {F : α → am_P} {V U : α} {x : Int32} {off : Int} {tgt : Nat} (d : decode Y.2.1 pc = .ok (.ifCond .ge off, 3)) (ht : (pc : Int) + off = (tgt : Int)) (kt : 0 ≤ x → AW l g Y n0 ad0 (F V) k z n σ tgt lv st) (kf : ¬ 0 ≤ x → AW l g Y n0 ad0 (F U) k z n σ (pc + 3) lv st) : AW l g Y n0 ad0 (F (if 0 ≤ x then V else U)) k z n σ pc lv (.int x :: st) := by
  by_cases h : 0 ≤ x
  · rw [if_pos h]; exact am_if_ge d ht (fun _ => kt h) (fun q => absurd h q)
  · rw [if_neg h]; exact am_if_ge d ht (fun q => absurd q h) (fun _ => kf h)
theorem ai_gt {l : Launch} {g : am_Gl} {Y : am_Y} {n0 : Nat} {ad0 : Nat → Nat} {k z n : Nat} {σ : am_M} {pc : Nat} {lv : List (Nat × Value)} {st : List Value} {α : Type} {F : α → am_P} {V U : α} {x : Int32} {off : Int} {tgt : Nat} (d : decode Y.2.1 pc = .ok (.ifCond .gt off, 3)) (ht : (pc : Int) + off = (tgt : Int)) (kt : 0 < x → AW l g Y n0 ad0 (F V) k z n σ tgt lv st) (kf : ¬ 0 < x → AW l g Y n0 ad0 (F U) k z n σ (pc + 3) lv st) : AW l g Y n0 ad0 (F (if 0 < x then V else U)) k z n σ pc lv (.int x :: st) := by
  by_cases h : 0 < x
  · rw [if_pos h]; exact am_if_gt d ht (fun _ => kt h) (fun q => absurd h q)
  · rw [if_neg h]; exact am_if_gt d ht (fun q => absurd q h) (fun _ => kf h)
theorem ai_le {l : Launch} {g : am_Gl} {Y : am_Y} {n0 : Nat} {ad0 : Nat → Nat} {k z n : Nat} {σ : am_M} {pc : Nat} {lv : List (Nat × Value)} {st : List Value} {α : Type} {F : α → am_P} {V U : α} {x : Int32} {off : Int} {tgt : Nat} (d : decode Y.2.1 pc = .ok (.ifCond .le off, 3)) (ht : (pc : Int) + off = (tgt : Int)) (kt : x ≤ 0 → AW l g Y n0 ad0 (F V) k z n σ tgt lv st) (kf : ¬ x ≤ 0 → AW l g Y n0 ad0 (F U) k z n σ (pc + 3) lv st) : AW l g Y n0 ad0 (F (if x ≤ 0 then V else U)) k z n σ pc lv (.int x :: st) := by
  by_cases h : x ≤ 0
  · rw [if_pos h]; exact am_if_le d ht (fun _ => kt h) (fun q => absurd h q)
  · rw [if_neg h]; exact am_if_le d ht (fun q => absurd q h) (fun _ => kf h)
theorem aj_eq {l : Launch} {g : am_Gl} {Y : am_Y} {n0 : Nat} {ad0 : Nat → Nat} {k z n : Nat} {σ : am_M} {pc : Nat} {lv : List (Nat × Value)} {st : List Value} {α : Type} {F : α → am_P} {V U : α} {x y : Int32} {off : Int} {tgt : Nat} (d : decode Y.2.1 pc = .ok (.if_icmp .eq off, 3)) (ht : (pc : Int) + off = (tgt : Int)) (kt : x = y → AW l g Y n0 ad0 (F V) k z n σ tgt lv st) (kf : ¬ x = y → AW l g Y n0 ad0 (F U) k z n σ (pc + 3) lv st) : AW l g Y n0 ad0 (F (if x = y then V else U)) k z n σ pc lv (.int y :: .int x :: st) := by
  by_cases h : x = y
  · rw [if_pos h]; exact am_icmp_eq d ht (fun _ => kt h) (fun q => absurd h q)
  · rw [if_neg h]; exact am_icmp_eq d ht (fun q => absurd q h) (fun _ => kf h)
theorem aj_lt {l : Launch} {g : am_Gl} {Y : am_Y} {n0 : Nat} {ad0 : Nat → Nat} {k z n : Nat} {σ : am_M} {pc : Nat} {lv : List (Nat × Value)} {st : List Value} {α : Type} {F : α → am_P} {V U : α} {x y : Int32} {off : Int} {tgt : Nat} (d : decode Y.2.1 pc = .ok (.if_icmp .lt off, 3)) (ht : (pc : Int) + off = (tgt : Int)) (kt : x < y → AW l g Y n0 ad0 (F V) k z n σ tgt lv st) (kf : ¬ x < y → AW l g Y n0 ad0 (F U) k z n σ (pc + 3) lv st) : AW l g Y n0 ad0 (F (if x < y then V else U)) k z n σ pc lv (.int y :: .int x :: st) := by
  by_cases h : x < y
  · rw [if_pos h]; exact am_icmp_lt d ht (fun _ => kt h) (fun q => absurd h q)
  · rw [if_neg h]; exact am_icmp_lt d ht (fun q => absurd q h) (fun _ => kf h)
theorem aj_ge {l : Launch} {g : am_Gl} {Y : am_Y} {n0 : Nat} {ad0 : Nat → Nat} {k z n : Nat} {σ : am_M} {pc : Nat} {lv : List (Nat × Value)} {st : List Value} {α : Type} {F : α → am_P} {V U : α} {x y : Int32} {off : Int} {tgt : Nat} (d : decode Y.2.1 pc = .ok (.if_icmp .ge off, 3)) (ht : (pc : Int) + off = (tgt : Int)) (kt : y ≤ x → AW l g Y n0 ad0 (F V) k z n σ tgt lv st) (kf : ¬ y ≤ x → AW l g Y n0 ad0 (F U) k z n σ (pc + 3) lv st) : AW l g Y n0 ad0 (F (if y ≤ x then V else U)) k z n σ pc lv (.int y :: .int x :: st) := by
  by_cases h : y ≤ x
  · rw [if_pos h]; exact am_icmp_ge d ht (fun _ => kt h) (fun q => absurd h q)
  · rw [if_neg h]; exact am_icmp_ge d ht (fun q => absurd q h) (fun _ => kf h)
theorem aj_gt {l : Launch} {g : am_Gl} {Y : am_Y} {n0 : Nat} {ad0 : Nat → Nat} {k z n : Nat} {σ : am_M} {pc : Nat} {lv : List (Nat × Value)} {st : List Value} {α : Type} {F : α → am_P} {V U : α} {x y : Int32} {off : Int} {tgt : Nat} (d : decode Y.2.1 pc = .ok (.if_icmp .gt off, 3)) (ht : (pc : Int) + off = (tgt : Int)) (kt : y < x → AW l g Y n0 ad0 (F V) k z n σ tgt lv st) (kf : ¬ y < x → AW l g Y n0 ad0 (F U) k z n σ (pc + 3) lv st) : AW l g Y n0 ad0 (F (if y < x then V else U)) k z n σ pc lv (.int y :: .int x :: st) := by
  by_cases h : y < x
  · rw [if_pos h]; exact am_icmp_gt d ht (fun _ => kt h) (fun q => absurd h q)
  · rw [if_neg h]; exact am_icmp_gt d ht (fun q => absurd q h) (fun _ => kf h)
theorem aj_le {l : Launch} {g : am_Gl} {Y : am_Y} {n0 : Nat} {ad0 : Nat → Nat} {k z n : Nat} {σ : am_M} {pc : Nat} {lv : List (Nat × Value)} {st : List Value} {α : Type} {F : α → am_P} {V U : α} {x y : Int32} {off : Int} {tgt : Nat} (d : decode Y.2.1 pc = .ok (.if_icmp .le off, 3)) (ht : (pc : Int) + off = (tgt : Int)) (kt : x ≤ y → AW l g Y n0 ad0 (F V) k z n σ tgt lv st) (kf : ¬ x ≤ y → AW l g Y n0 ad0 (F U) k z n σ (pc + 3) lv st) : AW l g Y n0 ad0 (F (if x ≤ y then V else U)) k z n σ pc lv (.int y :: .int x :: st) := by
  by_cases h : x ≤ y
  · rw [if_pos h]; exact am_icmp_le d ht (fun _ => kt h) (fun q => absurd h q)
  · rw [if_neg h]; exact am_icmp_le d ht (fun q => absurd q h) (fun _ => kf h)
theorem ai_ne {l : Launch} {g : am_Gl} {Y : am_Y} {n0 : Nat} {ad0 : Nat → Nat} {k z n : Nat} {σ : am_M} {pc : Nat} {lv : List (Nat × Value)} {st : List Value} {α : Type} {F : α → am_P} {V U : α} {x : Int32} {off : Int} {tgt : Nat} (d : decode Y.2.1 pc = .ok (.ifCond .ne off, 3)) (ht : (pc : Int) + off = (tgt : Int)) (kt : ¬ x = 0 → AW l g Y n0 ad0 (F V) k z n σ tgt lv st) (kf : x = 0 → AW l g Y n0 ad0 (F U) k z n σ (pc + 3) lv st) : AW l g Y n0 ad0 (F (if x = 0 then U else V)) k z n σ pc lv (.int x :: st) := by
  by_cases h : x = 0
  · rw [if_pos h]; exact am_if_ne d ht (fun q => absurd h q) (fun _ => kf h)
  · rw [if_neg h]; exact am_if_ne d ht (fun _ => kt h) (fun q => absurd q h)
theorem aj_ne {l : Launch} {g : am_Gl} {Y : am_Y} {n0 : Nat} {ad0 : Nat → Nat} {k z n : Nat} {σ : am_M} {pc : Nat} {lv : List (Nat × Value)} {st : List Value} {α : Type} {F : α → am_P} {V U : α} {x y : Int32} {off : Int} {tgt : Nat} (d : decode Y.2.1 pc = .ok (.if_icmp .ne off, 3)) (ht : (pc : Int) + off = (tgt : Int)) (kt : ¬ x = y → AW l g Y n0 ad0 (F V) k z n σ tgt lv st) (kf : x = y → AW l g Y n0 ad0 (F U) k z n σ (pc + 3) lv st) : AW l g Y n0 ad0 (F (if x = y then U else V)) k z n σ pc lv (.int y :: .int x :: st) := by
  by_cases h : x = y
  · rw [if_pos h]; exact am_icmp_ne d ht (fun q => absurd h q) (fun _ => kf h)
  · rw [if_neg h]; exact am_icmp_ne d ht (fun _ => kt h) (fun q => absurd q h)
theorem am_case {l : Launch} {g : am_Gl} {Y : am_Y} {n0 : Nat} {ad0 : Nat → Nat} {k z n : Nat} {σ : am_M} {pc : Nat} {lv : List (Nat × Value)} {st : List Value} {α : Type} {F : α → am_P} {V U : α} {x c : Int32} (kt : x = c → AW l g Y n0 ad0 (F V) k z n σ pc lv (.int x :: st)) (kf : ¬ x = c → AW l g Y n0 ad0 (F U) k z n σ pc lv (.int x :: st)) : AW l g Y n0 ad0 (F (if x = c then V else U)) k z n σ pc lv (.int x :: st) := by
  by_cases h : x = c
  · rw [if_pos h]; exact kt h
  · rw [if_neg h]; exact kf h
theorem am_out5 {x : Int32} {lo hi : Int} (h : ∀ j : Int, lo ≤ j → j ≤ hi → x.toInt ≠ j) : x.toInt < lo ∨ hi < x.toInt := by
  by_cases h1 : x.toInt < lo
  · exact Or.inl h1
  · exact Or.inr (Int.not_le.mp fun h2 => h x.toInt (Int.not_lt.mp h1) h2 rfl)
theorem am_widen {l : Launch} {g : am_Gl} {Y : am_Y} {n0 : Nat} {ad0 : Nat → Nat} {k z n : Nat} {σ : am_M} {pc : Nat} {lv : List (Nat × Value)} {st : List Value}  {k2 z2 : Nat} {P : am_P} (h1 : k ≤ k2) (h2 : z ≤ z2) (kk : AW l g Y n0 ad0 P k2 z2 n σ pc lv st) : AW l g Y n0 ad0 P k z n σ pc lv st := by
  intro p e s m args below meth c C ad H locs ls hn hx hH hS hl hw
  exact W.widen h1 h2 (kk p e s m args below meth c C ad H locs ls hn hx hH hS hl hw)
theorem ak_VI {l : Launch} {g : am_Gl} {Y : am_Y} {n0 : Nat} {ad0 : Nat → Nat} {P : am_P} {k z : Nat} {σ : am_M} {pc : Nat} {lv : List (Nat × Value)} {st : List Value} {Y' : am_Y} {idx nargs : Nat} {b ci N : Nat} {v : Int32} {as rest : List Value} (d : decode Y.2.1 pc = .ok (.invokevirtual idx, 3)) (cw : am_cv Y Y' idx nargs) (ht : am_yt Y' = false) (hc0 : am_yc Y' = 0) (hs0 : am_ys Y' = 0) (hA : AC l g Y' 207 σ (.ref b :: as) (am_oI σ v)) (hst : as.reverse ++ .ref b :: rest = st) (hna : as.length = nargs) (hb : b < 207) (hs : am_sh b = (0, ci, N)) (hc : (am_cl[ci]?).map Prod.fst = some Y'.1.cls) (hcat : (rest.map fun v => v.category).sum ≤ 8) (hk : k ≤ am_yc Y) (hz : z ≤ am_ys Y) (kk : AW l g Y n0 ad0 P k z 207 σ (pc + 3) lv (.int v :: rest)) : AW l g Y n0 ad0 P k z 207 σ pc lv st := by
  refine am_callV d cw ht hA hst hna hb hs hc hcat (by omega) (by omega) (fun v n' σ' hP hn => ?_)
  obtain ⟨e1, e2, e3⟩ := hP
  cases e1
  subst e2
  subst e3
  rw [hc0, hs0]
  exact kk
theorem ak_VM {l : Launch} {g : am_Gl} {Y : am_Y} {n0 : Nat} {ad0 : Nat → Nat} {P : am_P} {k z : Nat} {σ : am_M} {pc : Nat} {lv : List (Nat × Value)} {st : List Value} {Y' : am_Y} {idx nargs : Nat} {b ci N : Nat} {s : am_M} {as rest : List Value} (d : decode Y.2.1 pc = .ok (.invokevirtual idx, 3)) (cw : am_cv Y Y' idx nargs) (ht : am_yt Y' = false) (hc0 : am_yc Y' = 0) (hs0 : am_ys Y' = 0) (hA : AC l g Y' 207 σ (.ref b :: as) (am_oM s)) (hst : as.reverse ++ .ref b :: rest = st) (hna : as.length = nargs) (hb : b < 207) (hs : am_sh b = (0, ci, N)) (hc : (am_cl[ci]?).map Prod.fst = some Y'.1.cls) (hcat : (rest.map fun v => v.category).sum ≤ 8) (hk : k ≤ am_yc Y) (hz : z ≤ am_ys Y) (kk : AW l g Y n0 ad0 P k z 207 s (pc + 3) lv rest) : AW l g Y n0 ad0 P k z 207 σ pc lv st := by
  refine am_callV d cw ht hA hst hna hb hs hc hcat (by omega) (by omega) (fun v n' σ' hP hn => ?_)
  obtain ⟨e1, e2, e3⟩ := hP
  cases e1
  subst e2
  subst e3
  rw [hc0, hs0]
  exact kk
theorem ak_VC {l : Launch} {g : am_Gl} {Y : am_Y} {n0 : Nat} {ad0 : Nat → Nat} {P : am_P} {k z : Nat} {σ : am_M} {pc : Nat} {lv : List (Nat × Value)} {st : List Value} {Y' : am_Y} {idx nargs : Nat} {b ci N : Nat} {q : Int32 × am_M} {as rest : List Value} (d : decode Y.2.1 pc = .ok (.invokevirtual idx, 3)) (cw : am_cv Y Y' idx nargs) (ht : am_yt Y' = false) (hc0 : am_yc Y' = 0) (hs0 : am_ys Y' = 0) (hA : AC l g Y' 207 σ (.ref b :: as) (am_oC q)) (hst : as.reverse ++ .ref b :: rest = st) (hna : as.length = nargs) (hb : b < 207) (hs : am_sh b = (0, ci, N)) (hc : (am_cl[ci]?).map Prod.fst = some Y'.1.cls) (hcat : (rest.map fun v => v.category).sum ≤ 8) (hk : k ≤ am_yc Y) (hz : z ≤ am_ys Y) (kk : AW l g Y n0 ad0 P k z 207 q.2 (pc + 3) lv (.int q.1 :: rest)) : AW l g Y n0 ad0 P k z 207 σ pc lv st := by
  refine am_callV d cw ht hA hst hna hb hs hc hcat (by omega) (by omega) (fun v n' σ' hP hn => ?_)
  obtain ⟨e1, e2, e3⟩ := hP
  cases e1
  subst e2
  subst e3
  rw [hc0, hs0]
  exact kk
theorem ak_VR {l : Launch} {g : am_Gl} {Y : am_Y} {n0 : Nat} {ad0 : Nat → Nat} {P : am_P} {k z : Nat} {σ : am_M} {pc : Nat} {lv : List (Nat × Value)} {st : List Value} {Y' : am_Y} {idx nargs : Nat} {b ci N : Nat} {v : Nat} {as rest : List Value} (d : decode Y.2.1 pc = .ok (.invokevirtual idx, 3)) (cw : am_cv Y Y' idx nargs) (ht : am_yt Y' = false) (hc0 : am_yc Y' = 0) (hs0 : am_ys Y' = 0) (hA : AC l g Y' 207 σ (.ref b :: as) (am_oR σ v)) (hst : as.reverse ++ .ref b :: rest = st) (hna : as.length = nargs) (hb : b < 207) (hs : am_sh b = (0, ci, N)) (hc : (am_cl[ci]?).map Prod.fst = some Y'.1.cls) (hcat : (rest.map fun v => v.category).sum ≤ 8) (hk : k ≤ am_yc Y) (hz : z ≤ am_ys Y) (kk : AW l g Y n0 ad0 P k z 207 σ (pc + 3) lv (.ref v :: rest)) : AW l g Y n0 ad0 P k z 207 σ pc lv st := by
  refine am_callV d cw ht hA hst hna hb hs hc hcat (by omega) (by omega) (fun v n' σ' hP hn => ?_)
  obtain ⟨e1, e2, e3⟩ := hP
  cases e1
  subst e2
  subst e3
  rw [hc0, hs0]
  exact kk
theorem ak_SI {l : Launch} {g : am_Gl} {Y : am_Y} {n0 : Nat} {ad0 : Nat → Nat} {P : am_P} {k z : Nat} {σ : am_M} {pc : Nat} {lv : List (Nat × Value)} {st : List Value} {Y' : am_Y} {idx nargs : Nat} {v : Int32} {as rest : List Value} (d : decode Y.2.1 pc = .ok (.invokestatic idx, 3)) (cw : am_cs Y Y' idx nargs) (ht : am_yt Y' = false) (hc0 : am_yc Y' = 0) (hs0 : am_ys Y' = 0) (hA : AC l g Y' 207 σ as (am_oI σ v)) (hst : as.reverse ++ rest = st) (hna : as.length = nargs) (hcat : (rest.map fun v => v.category).sum ≤ 8) (hk : k ≤ am_yc Y) (hz : z ≤ am_ys Y) (kk : AW l g Y n0 ad0 P k z 207 σ (pc + 3) lv (.int v :: rest)) : AW l g Y n0 ad0 P k z 207 σ pc lv st := by
  refine am_callS d cw ht hA hst hna hcat (by omega) (by omega) (fun v n' σ' hP hn => ?_)
  obtain ⟨e1, e2, e3⟩ := hP
  cases e1
  subst e2
  subst e3
  rw [hc0, hs0]
  exact kk
theorem ak_SM {l : Launch} {g : am_Gl} {Y : am_Y} {n0 : Nat} {ad0 : Nat → Nat} {P : am_P} {k z : Nat} {σ : am_M} {pc : Nat} {lv : List (Nat × Value)} {st : List Value} {Y' : am_Y} {idx nargs : Nat} {s : am_M} {as rest : List Value} (d : decode Y.2.1 pc = .ok (.invokestatic idx, 3)) (cw : am_cs Y Y' idx nargs) (ht : am_yt Y' = false) (hc0 : am_yc Y' = 0) (hs0 : am_ys Y' = 0) (hA : AC l g Y' 207 σ as (am_oM s)) (hst : as.reverse ++ rest = st) (hna : as.length = nargs) (hcat : (rest.map fun v => v.category).sum ≤ 8) (hk : k ≤ am_yc Y) (hz : z ≤ am_ys Y) (kk : AW l g Y n0 ad0 P k z 207 s (pc + 3) lv rest) : AW l g Y n0 ad0 P k z 207 σ pc lv st := by
  refine am_callS d cw ht hA hst hna hcat (by omega) (by omega) (fun v n' σ' hP hn => ?_)
  obtain ⟨e1, e2, e3⟩ := hP
  cases e1
  subst e2
  subst e3
  rw [hc0, hs0]
  exact kk
theorem ak_SC {l : Launch} {g : am_Gl} {Y : am_Y} {n0 : Nat} {ad0 : Nat → Nat} {P : am_P} {k z : Nat} {σ : am_M} {pc : Nat} {lv : List (Nat × Value)} {st : List Value} {Y' : am_Y} {idx nargs : Nat} {q : Int32 × am_M} {as rest : List Value} (d : decode Y.2.1 pc = .ok (.invokestatic idx, 3)) (cw : am_cs Y Y' idx nargs) (ht : am_yt Y' = false) (hc0 : am_yc Y' = 0) (hs0 : am_ys Y' = 0) (hA : AC l g Y' 207 σ as (am_oC q)) (hst : as.reverse ++ rest = st) (hna : as.length = nargs) (hcat : (rest.map fun v => v.category).sum ≤ 8) (hk : k ≤ am_yc Y) (hz : z ≤ am_ys Y) (kk : AW l g Y n0 ad0 P k z 207 q.2 (pc + 3) lv (.int q.1 :: rest)) : AW l g Y n0 ad0 P k z 207 σ pc lv st := by
  refine am_callS d cw ht hA hst hna hcat (by omega) (by omega) (fun v n' σ' hP hn => ?_)
  obtain ⟨e1, e2, e3⟩ := hP
  cases e1
  subst e2
  subst e3
  rw [hc0, hs0]
  exact kk
theorem ak_SR {l : Launch} {g : am_Gl} {Y : am_Y} {n0 : Nat} {ad0 : Nat → Nat} {P : am_P} {k z : Nat} {σ : am_M} {pc : Nat} {lv : List (Nat × Value)} {st : List Value} {Y' : am_Y} {idx nargs : Nat} {v : Nat} {as rest : List Value} (d : decode Y.2.1 pc = .ok (.invokestatic idx, 3)) (cw : am_cs Y Y' idx nargs) (ht : am_yt Y' = false) (hc0 : am_yc Y' = 0) (hs0 : am_ys Y' = 0) (hA : AC l g Y' 207 σ as (am_oR σ v)) (hst : as.reverse ++ rest = st) (hna : as.length = nargs) (hcat : (rest.map fun v => v.category).sum ≤ 8) (hk : k ≤ am_yc Y) (hz : z ≤ am_ys Y) (kk : AW l g Y n0 ad0 P k z 207 σ (pc + 3) lv (.ref v :: rest)) : AW l g Y n0 ad0 P k z 207 σ pc lv st := by
  refine am_callS d cw ht hA hst hna hcat (by omega) (by omega) (fun v n' σ' hP hn => ?_)
  obtain ⟨e1, e2, e3⟩ := hP
  cases e1
  subst e2
  subst e3
  rw [hc0, hs0]
  exact kk
theorem ak_SNI {l : Launch} {g : am_Gl} {Y : am_Y} {n0 : Nat} {ad0 : Nat → Nat} {P : am_P} {k z : Nat} {σ : am_M} {pc : Nat} {lv : List (Nat × Value)} {st : List Value} {Y' : am_Y} {idx nargs : Nat} {v : Int32} {as rest : List Value} (d : decode Y.2.1 pc = .ok (.invokestatic idx, 3)) (cw : am_sn Y Y' idx nargs) (ht : am_yt Y' = false) (hc0 : am_yc Y' = 0) (hs0 : am_ys Y' = 0) (hA : AC l g Y' 207 σ as (am_oI σ v)) (hst : as.reverse ++ rest = st) (hna : as.length = nargs) (hcat : (rest.map fun v => v.category).sum ≤ 8) (hk : k ≤ am_yc Y) (hz : z ≤ am_ys Y) (kk : AW l g Y n0 ad0 P k z 207 σ (pc + 3) lv (.int v :: rest)) : AW l g Y n0 ad0 P k z 207 σ pc lv st := by
  refine am_callSN d cw ht hA hst hna hcat (by omega) (by omega) (fun v n' σ' hP hn => ?_)
  obtain ⟨e1, e2, e3⟩ := hP
  cases e1
  subst e2
  subst e3
  rw [hc0, hs0]
  exact kk
theorem ak_SNM {l : Launch} {g : am_Gl} {Y : am_Y} {n0 : Nat} {ad0 : Nat → Nat} {P : am_P} {k z : Nat} {σ : am_M} {pc : Nat} {lv : List (Nat × Value)} {st : List Value} {Y' : am_Y} {idx nargs : Nat} {s : am_M} {as rest : List Value} (d : decode Y.2.1 pc = .ok (.invokestatic idx, 3)) (cw : am_sn Y Y' idx nargs) (ht : am_yt Y' = false) (hc0 : am_yc Y' = 0) (hs0 : am_ys Y' = 0) (hA : AC l g Y' 207 σ as (am_oM s)) (hst : as.reverse ++ rest = st) (hna : as.length = nargs) (hcat : (rest.map fun v => v.category).sum ≤ 8) (hk : k ≤ am_yc Y) (hz : z ≤ am_ys Y) (kk : AW l g Y n0 ad0 P k z 207 s (pc + 3) lv rest) : AW l g Y n0 ad0 P k z 207 σ pc lv st := by
  refine am_callSN d cw ht hA hst hna hcat (by omega) (by omega) (fun v n' σ' hP hn => ?_)
  obtain ⟨e1, e2, e3⟩ := hP
  cases e1
  subst e2
  subst e3
  rw [hc0, hs0]
  exact kk
theorem ak_SNC {l : Launch} {g : am_Gl} {Y : am_Y} {n0 : Nat} {ad0 : Nat → Nat} {P : am_P} {k z : Nat} {σ : am_M} {pc : Nat} {lv : List (Nat × Value)} {st : List Value} {Y' : am_Y} {idx nargs : Nat} {q : Int32 × am_M} {as rest : List Value} (d : decode Y.2.1 pc = .ok (.invokestatic idx, 3)) (cw : am_sn Y Y' idx nargs) (ht : am_yt Y' = false) (hc0 : am_yc Y' = 0) (hs0 : am_ys Y' = 0) (hA : AC l g Y' 207 σ as (am_oC q)) (hst : as.reverse ++ rest = st) (hna : as.length = nargs) (hcat : (rest.map fun v => v.category).sum ≤ 8) (hk : k ≤ am_yc Y) (hz : z ≤ am_ys Y) (kk : AW l g Y n0 ad0 P k z 207 q.2 (pc + 3) lv (.int q.1 :: rest)) : AW l g Y n0 ad0 P k z 207 σ pc lv st := by
  refine am_callSN d cw ht hA hst hna hcat (by omega) (by omega) (fun v n' σ' hP hn => ?_)
  obtain ⟨e1, e2, e3⟩ := hP
  cases e1
  subst e2
  subst e3
  rw [hc0, hs0]
  exact kk
theorem ak_SNR {l : Launch} {g : am_Gl} {Y : am_Y} {n0 : Nat} {ad0 : Nat → Nat} {P : am_P} {k z : Nat} {σ : am_M} {pc : Nat} {lv : List (Nat × Value)} {st : List Value} {Y' : am_Y} {idx nargs : Nat} {v : Nat} {as rest : List Value} (d : decode Y.2.1 pc = .ok (.invokestatic idx, 3)) (cw : am_sn Y Y' idx nargs) (ht : am_yt Y' = false) (hc0 : am_yc Y' = 0) (hs0 : am_ys Y' = 0) (hA : AC l g Y' 207 σ as (am_oR σ v)) (hst : as.reverse ++ rest = st) (hna : as.length = nargs) (hcat : (rest.map fun v => v.category).sum ≤ 8) (hk : k ≤ am_yc Y) (hz : z ≤ am_ys Y) (kk : AW l g Y n0 ad0 P k z 207 σ (pc + 3) lv (.ref v :: rest)) : AW l g Y n0 ad0 P k z 207 σ pc lv st := by
  refine am_callSN d cw ht hA hst hna hcat (by omega) (by omega) (fun v n' σ' hP hn => ?_)
  obtain ⟨e1, e2, e3⟩ := hP
  cases e1
  subst e2
  subst e3
  rw [hc0, hs0]
  exact kk
theorem ak_D {l : Launch} {g : am_Gl} {Y : am_Y} {n0 : Nat} {ad0 : Nat → Nat} {k z : Nat} {σ : am_M} {pc : Nat} {lv : List (Nat × Value)} {st : List Value} {α : Type} {F : α → am_P} {V U : α} {Y' : am_Y} {idx nargs : Nat} {b ci N : Nat} {q : Nat} {as rest : List Value} (d : decode Y.2.1 pc = .ok (.invokevirtual idx, 3)) (cw : am_cv Y Y' idx nargs) (ht : am_yt Y' = true) (hY : am_yt Y = true) (hh : am_yh Y = none) (hA : AC l g Y' 207 σ (.ref b :: as) (am_oD σ q)) (hst : as.reverse ++ .ref b :: rest = st) (hna : as.length = nargs) (hb : b < 207) (hs : am_sh b = (0, ci, N)) (hc : (am_cl[ci]?).map Prod.fst = some Y'.1.cls) (hcat : (rest.map fun v => v.category).sum ≤ 8) (hk : k + am_yc Y' ≤ am_yc Y) (hz : z + am_ys Y' ≤ am_ys Y)
    (hF : ¬ q = 0 → F U (.inr (am_exn q)) 207 σ) (kk : q = 0 → AW l g Y n0 ad0 (F V) (k + am_yc Y') (z + am_ys Y') 207 σ (pc + 3) lv rest) : AW l g Y n0 ad0 (F (if q = 0 then V else U)) k z 207 σ pc lv st := by
  by_cases h : q = 0
  · rw [if_pos h]
    rw [am_oD, if_pos h] at hA
    refine am_callVX d cw ht hY hh hA hst hna hb hs hc hcat hk hz (fun E n' σ' hP _ => by cases hP.1) (fun v n' σ' hP hn => ?_)
    obtain ⟨e1, e2, e3⟩ := hP
    cases e1
    subst e2
    subst e3
    exact kk h
  · rw [if_neg h]
    rw [am_oD, if_neg h] at hA
    refine am_callVX d cw ht hY hh hA hst hna hb hs hc hcat hk hz (fun E n' σ' hP _ => ?_) (fun v n' σ' hP hn => by cases hP.1)
    obtain ⟨e1, e2, e3⟩ := hP
    cases e1
    subst e2
    subst e3
    exact hF h
theorem am_bool {x : Int32} (h : x = 0 ∨ x = 1) : narrow .boolean (.int x) = .int x ∧ fits .boolean (.int x) = true := by rcases h with rfl | rfl <;> exact ⟨rfl, rfl⟩
