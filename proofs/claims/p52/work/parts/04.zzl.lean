/-! two objects: the first at 0 .., the second at 207 ..; contracts of one object hold for either; written by wip/p52/lift.py -/
def jn (s t : am_M) : am_M := fun i => if i < 207 then s i else t (i - 207)
theorem jn_o {s t : am_M} {i : Nat} (h : i < 207) : jn s t i = s i := if_pos h
theorem jn_p {s t : am_M} {i : Nat} : jn s t (i + 207) = t i := by
  unfold jn
  rw [if_neg (by omega), Nat.add_sub_cancel]
def jd (ad ad' : Nat → Nat) : Nat → Nat := fun i => if i < 207 then ad i else ad' (i - 207)
theorem jd_o {ad ad' : Nat → Nat} {i : Nat} (h : i < 207) : jd ad ad' i = ad i := if_pos h
theorem jd_p {ad ad' : Nat → Nat} {i : Nat} : jd ad ad' (i + 207) = ad' i := by
  unfold jd
  rw [if_neg (by omega), Nat.add_sub_cancel]
theorem jn_q {s t : am_M} : (fun i => jn s t (i + 207)) = t := funext fun _ => jn_p
theorem Met_c {l : Launch} {y : MethodName} {ws : List Cond} {rm : Room} {Pc Pc' : Array Value → State → Prop} {Qc Qc' : Array Value → State → Outcome → State → Prop} {mc ms : Nat} {free free' : Addr → Prop} (hM : Met l y ws rm Pc Qc mc ms free) (hp : ∀ a s, Pc' a s → Pc a s) (hq : ∀ a s o t, Pc' a s → Qc a s o t → Qc' a s o t) (hf : ∀ q, free q → free' q) : Met l y ws rm Pc' Qc' mc ms free' := by
  intro p e ha hc hk s m args below h1 h2 h3 h4
  obtain ⟨n, o, r1, r2, r3, r4, L9, r5, r6⟩ := hM p e ha hc hk s m args below h1 h2 (hp _ _ h3) h4
  exact ⟨n, o, r1, r2, r3, hq _ _ _ _ h3 r4, L9, r5, fun q hq9 => hf _ (r6 q hq9)⟩
theorem vx_Met_c {l : Launch} {y : MethodName} {ws : List Cond} {rm : Room} {Pc Pc' : Array Value → State → Prop} {Qc Qc' : Array Value → State → Outcome → State → Prop} {XC XC' : String → State → State → Prop} {mc ms : Nat} {free free' : Addr → Prop} (hM : vx_Met l y ws rm Pc Qc XC mc ms free) (hp : ∀ a s, Pc' a s → Pc a s) (hq : ∀ a s o t, Pc' a s → Qc a s o t → Qc' a s o t) (hx : ∀ a E s t, Pc' a s → XC E s t → XC' E s t) (hf : ∀ q, free q → free' q) : vx_Met l y ws rm Pc' Qc' XC' mc ms free' := by
  intro p e ha hc hk s m args below h1 h2 h3 h4
  obtain ⟨n, o, r1, r2, r3, r4⟩ := hM p e ha hc hk s m args below h1 h2 (hp _ _ h3) h4
  refine ⟨n, o, r1, r2, r3, ?_⟩
  rcases r4 with ⟨r4, L9, r5, r6⟩ | ⟨q9, r4, E, ce, L9, r5, r6, r7, r8, r9, r10, r11⟩
  · exact Or.inl ⟨hq _ _ _ _ h3 r4, L9, r5, fun q hq9 => hf _ (r6 q hq9)⟩
  · exact Or.inr ⟨q9, r4, E, ce, L9, hx _ _ _ _ h3 r5, r6, r7, r8, r9, r10, fun q hq9 => hf _ (r11 q hq9)⟩
/-- the same, with another area -/
def am_ga (g : am_Gl) (A : Nat → Prop) : am_Gl := (g.1, g.2.1, A, g.2.2.2)
theorem am_P_iff {D : va_G} {g : am_Gl} {n : Nat} {ad : Nat → Nat} {σ : am_M} {H : Heap} : va_P D am_cl (am_ws g n ad σ) H ↔ ∀ i, i < n → va_at D am_cl (ad i, am_e g ad σ i) H := by
  constructor
  · intro h i hi
    exact h i _ (am_ws_get hi)
  · intro h k q hq
    by_cases hk : k < n
    · rw [am_ws_get hk] at hq
      cases hq
      exact h k hk
    · rw [List.getElem?_eq_none (by simp [am_ws]; omega)] at hq
      cases hq
theorem am_D_iff {A : Nat → Prop} {g : am_Gl} {n : Nat} {ad : Nat → Nat} {σ : am_M} : va_D A (am_ws g n ad σ) ↔ (∀ i j, i < n → j < n → ad i = ad j → i = j) ∧ ∀ i, i < n → A (ad i) := by
  constructor
  · intro h
    exact ⟨fun i j hi hj e => h.1 i j _ _ (am_ws_get hi) (am_ws_get hj) e, fun i hi => h.2 i _ (am_ws_get hi)⟩
  · intro h
    have key : ∀ (k : Nat) (q : Nat × va_E), (am_ws g n ad σ)[k]? = some q → k < n ∧ q.1 = ad k := fun k q hq => by
      by_cases hk : k < n
      · rw [am_ws_get hk] at hq
        cases hq
        exact ⟨hk, rfl⟩
      · rw [List.getElem?_eq_none (by simp [am_ws]; omega)] at hq
        cases hq
    exact ⟨fun i j p q hp hq e => h.1 i j (key i p hp).1 (key j q hq).1 ((key i p hp).2.symm.trans (e.trans (key j q hq).2)), fun k q hq => by rw [(key k q hq).2]; exact h.2 k (key k q hq).1⟩
theorem am_lk_all : am_lkL.all (fun l => l.all (fun x => decide (x < 207))) = true := by decide +kernel
theorem am_lk_207 (i k : Nat) : am_lk i k < 207 := by
  unfold am_lk
  rw [List.getD_eq_getElem?_getD, List.getD_eq_getElem?_getD]
  cases h : am_lkL[i]? with
  | none => simp
  | some l =>
    have hl := List.all_eq_true.mp am_lk_all l (List.mem_of_getElem? h)
    show l[k]?.getD 0 < 207
    cases h2 : l[k]? with
    | none => simp
    | some x => exact of_decide_eq_true (List.all_eq_true.mp hl x (List.mem_of_getElem? h2))
/-- a cell's addresses count where its references lead -/
theorem am_e1_ad {g : am_Gl} {n i : Nat} {ad ad2 : Nat → Nat} {σ : am_M} (hx : ∀ j, j < n → ad2 j = ad j) (hv : (g.2.2.2.1 = true ∧ 207 ≤ n) ∨ (g.2.2.2.1 = false ∧ am_mw1 n σ ∧ i < n)) : am_e1 g ad2 σ i = am_e1 g ad σ i := by
  have key : ∀ k, am_isr i k = true → (am_rv g i k (σ i k)).map ad2 = (am_rv g i k (σ i k)).map ad := by
    intro k hk
    cases hb : am_rv g i k (σ i k) with
    | none => rfl
    | some b =>
      have hbn : b < n := by
        rcases hv with ⟨hg, h207⟩ | ⟨hg, hm, hi⟩
        · unfold am_rv at hb
          rw [hg] at hb
          by_cases h1 : (true && (!(i == 182) && decide (k < (am_sh i).2.2))) = true
          · rw [if_pos h1] at hb
            cases hb
            exact Nat.lt_of_lt_of_le (am_lk_207 i k) h207
          · rw [if_neg h1] at hb
            by_cases h2 : σ i k < 0
            · rw [if_pos h2] at hb; cases hb
            · rw [if_neg h2] at hb
              by_cases h3 : (σ i k).toNatClampNeg < 207
              · simp [h3] at hb
                omega
              · simp [h3] at hb
        · rw [am_rv, hg] at hb
          rcases hm i k hi hk with h | h
          · simp [h] at hb
          · by_cases h0 : σ i k < 0
            · simp [h0] at hb
            · simp [h0] at hb
              rw [← hb]; exact h
      show some (ad2 b) = some (ad b)
      rw [hx b hbn]
  unfold am_e1
  by_cases h0 : (am_sh i).1 = 0
  · rw [if_pos h0, if_pos h0]
    congr 2
    apply List.map_congr_left
    intro k _
    unfold am_fv
    by_cases hf : am_fr (am_sh i).2.1 k = true
    · rw [if_pos hf, if_pos hf, key k (by simp [am_isr, h0, hf])]
    · rw [if_neg hf, if_neg hf]
  · rw [if_neg h0, if_neg h0]
    by_cases h1 : (am_sh i).2.1 < 2
    · simp [h1]
    · by_cases h2 : (am_sh i).2.1 = 2
      · simp [h2]
      · simp only [h1, h2, if_false]
        congr 7
        funext j
        exact key j (by simp [am_isr, h0]; omega)
theorem am_e_o {g : am_Gl} {ad : Nat → Nat} {s t : am_M} {i : Nat} (h : i < 207) : am_e g ad (jn s t) i = am_e1 g ad s i := by
  rw [am_e_k (σ := s) (jn_o h)]
  exact if_pos h
theorem am_e_p {g : am_Gl} {ad : Nat → Nat} {s t : am_M} {i : Nat} : am_e g ad (jn s t) (i + 207) = am_e1 g (fun j => ad (j + 207)) t i := by
  unfold am_e
  rw [if_neg (by omega), jn_q, Nat.add_sub_cancel]
theorem am_e_1 {g : am_Gl} {ad : Nat → Nat} {s : am_M} {i : Nat} (h : i < 207) : am_e g ad s i = am_e1 g ad s i := if_pos h
theorem am_K_ga {g : am_Gl} {A : Nat → Prop} {U : State} {H : Heap} (h : am_K g U H) (hA : ∀ q, A q → am_A g q) : am_K (am_ga g A) U H := by
  obtain ⟨h1, h2, h3, h4, h5, h6, h7, h8, h9⟩ := h
  exact ⟨h1, h2, h3, h4, h5, h6.narrow hA, h7.narrow hA, h8, fun q => h9 (hA _ q)⟩
theorem am_tr_nr {ad ad' : Nat → Nat} {v : Value} (h : ∀ i, v ≠ .ref i) : am_tr ad v = am_tr ad' v := by
  cases v with
  | ref i => exact absurd rfl (h i)
  | _ => rfl
/-- what a contract of one object may tell: no cell is handed out -/
def am_nr (r : Option Value ⊕ String) : Prop := ∀ v, r = .inl (some v) → ∀ i, v ≠ .ref i
def am_aO (g : am_Gl) (ad : Nat → Nat) : Nat → Prop := fun q => am_A g q ∧ ∀ i, i < 207 → q ≠ ad (i + 207)
def am_aP (g : am_Gl) (ad : Nat → Nat) : Nat → Prop := fun q => am_A g q ∧ ∀ i, i < 207 → q ≠ ad i
set_option maxRecDepth 100000 in
theorem am_O_pre {l : Launch} {g : am_Gl} {ad : Nat → Nat} {s t : am_M} {av : List Value} {v : Array Value} {U : State} (hg : g.2.2.2.1 = true) (h : am_Pc l g 414 ad (jn s t) av v U) : am_Pc l (am_ga g (am_aO g ad)) 207 ad s av v U := by
  obtain ⟨h1, ⟨h2, ⟨h3, h4, h5⟩, h6⟩, h7⟩ := h
  have h3 := am_P_iff.mp h3
  have h4 := am_D_iff.mp h4
  refine ⟨h1, ⟨fun q hq => ⟨h2 q hq, fun i hi e => ?_⟩, ⟨am_P_iff.mpr fun i hi => ?_, am_D_iff.mpr ⟨fun i j hi hj e => h4.1 i j (by omega) (by omega) e, fun i hi => ⟨h4.2 i (by omega), fun j hj e => ?_⟩⟩, fun hf => ?_⟩, am_K_ga h6 (fun q h => h.1)⟩, h7⟩
  · have := (h3 (i + 207) (by omega)).lt
    have h9 : ad (i + 207) < U.heap.size := this
    omega
  · have := h3 i (by omega)
    rw [am_e_o hi] at this
    rw [am_e_1 hi]
    exact this
  · have := h4.1 i (j + 207) (by omega) (by omega) e
    omega
  · rw [show (am_ga g (am_aO g ad)).2.2.2.1 = g.2.2.2.1 from rfl, hg] at hf; cases hf
set_option maxRecDepth 100000 in
theorem am_O_H {g : am_Gl} {ad ad' : Nat → Nat} {s t s' : am_M} {U T : State} (hg : g.2.2.2.1 = true) (h : am_H g 414 ad (jn s t) U.heap) (hx : ∀ i, i < 207 → ad' i = ad i) (hH : am_H (am_ga g (am_aO g ad)) 207 ad' s' T.heap) (hF : va_F (am_aO g ad) U T) : am_H g 414 ad (jn s' t) T.heap := by
  obtain ⟨h3, h4, h5⟩ := h
  have h3 := am_P_iff.mp h3
  have h4 := am_D_iff.mp h4
  have k3 := am_P_iff.mp hH.1
  refine ⟨am_P_iff.mpr fun i hi => ?_, am_D_iff.mpr h4, fun hf => by rw [hg] at hf; cases hf⟩
  by_cases h207 : i < 207
  · have := k3 i h207
    rw [am_e_1 h207] at this
    rw [am_e_o h207, ← hx i h207, ← am_e1_ad (g := g) (n := 207) (i := i) (σ := s') hx (Or.inl ⟨hg, Nat.le_refl _⟩)]
    exact this
  · obtain ⟨j, rfl⟩ : ∃ j, i = j + 207 := ⟨i - 207, by omega⟩
    have := h3 (j + 207) hi
    rw [am_e_p] at this ⊢
    exact this.kept (hF.2 _ this.lt (fun z => z.2 j (by omega) rfl))
set_option maxRecDepth 100000 in
theorem am_liftO {l : Launch} {g : am_Gl} {Y : am_Y} {s t : am_M} {av : List Value} {P P2 : am_P} (hg : g.2.2.2.1 = true) (hav : ∀ v ∈ av, am_rl 207 v) (hA : ∀ A : Nat → Prop, AC l (am_ga g A) Y 207 s av P) (hP : ∀ r n' σ', P r n' σ' → n' = 207 ∧ am_nr r ∧ P2 r 414 (jn σ' t)) : AC l g Y 414 (jn s t) av P2 := by
  intro hav' ad
  have hM := hA (am_aO g ad) hav ad
  have hfree : ∀ q, am_A (am_ga g (am_aO g ad)) q → am_A g q := fun q h => h.1
  have hF9 : ∀ {U T : State}, va_F (am_aO g ad) U T → va_F (am_A g) U T := fun h => ⟨h.1, fun q h1 h2 => h.2 q h1 (fun z => h2 z.1)⟩
  by_cases ht : am_yt Y = true
  · rw [if_pos ht] at hM ⊢
    refine vx_Met_c hM (fun a s h => am_O_pre hg h) (fun a U o T hpre hq => ?_) (fun a E U T hpre hq => ?_) hfree
    · obtain ⟨⟨v, n', ad', σ', h1, h2, h3, h4, h5, h6⟩, h7⟩ := hq
      obtain ⟨rfl, g2, g3⟩ := hP _ _ _ h3
      have nr : ∀ x, v = some x → ∀ i, x ≠ .ref i := fun x hx => g2 x (by rw [hx])
      refine ⟨⟨v, 414, ad, jn σ' t, ?_, fun x hx i hi => absurd hi (nr x hx i), g3, Nat.le_refl _, fun _ _ => rfl, am_O_H hg hpre.2.1.2.1 h5 h6 h7⟩, hF9 h7⟩
      rw [h1]
      cases v with
      | none => rfl
      | some x => rw [Option.map_some, Option.map_some, am_tr_nr (nr x rfl)]
    · obtain ⟨⟨n', ad', σ', h3, h4, h5, h6⟩, h7⟩ := hq
      obtain ⟨rfl, g2, g3⟩ := hP _ _ _ h3
      exact ⟨⟨414, ad, jn σ' t, g3, Nat.le_refl _, fun _ _ => rfl, am_O_H hg hpre.2.1.2.1 h5 h6 h7⟩, hF9 h7⟩
  · rw [if_neg ht] at hM ⊢
    refine Met_c hM (fun a s h => am_O_pre hg h) (fun a U o T hpre hq => ?_) hfree
    obtain ⟨⟨v, n', ad', σ', h1, h2, h3, h4, h5, h6⟩, h7⟩ := hq
    obtain ⟨rfl, g2, g3⟩ := hP _ _ _ h3
    have nr : ∀ x, v = some x → ∀ i, x ≠ .ref i := fun x hx => g2 x (by rw [hx])
    refine ⟨⟨v, 414, ad, jn σ' t, ?_, fun x hx i hi => absurd hi (nr x hx i), g3, Nat.le_refl _, fun _ _ => rfl, am_O_H hg hpre.2.1.2.1 h5 h6 h7⟩, hF9 h7⟩
    rw [h1]
    cases v with
    | none => rfl
    | some x => rw [Option.map_some, Option.map_some, am_tr_nr (nr x rfl)]
-- the second object; also while it is made
set_option maxRecDepth 100000 in
theorem am_P_pre {l : Launch} {g : am_Gl} {ad : Nat → Nat} {s t : am_M} {m : Nat} (hm : m ≤ 207) {av av1 : List Value} {v : Array Value} {U : State} (ha : av.map (am_tr ad) = av1.map (am_tr (fun i => ad (i + 207)))) (h : am_Pc l g (207 + m) ad (jn s t) av v U) : am_Pc l (am_ga g (am_aP g ad)) m (fun i => ad (i + 207)) t av1 v U := by
  obtain ⟨h1, ⟨h2, ⟨h3, h4, h5⟩, h6⟩, h7⟩ := h
  have h3 := am_P_iff.mp h3
  have h4 := am_D_iff.mp h4
  refine ⟨by rw [h1, ha], ⟨fun q hq => ⟨h2 q hq, fun i hi e => ?_⟩, ⟨am_P_iff.mpr fun i hi => ?_, am_D_iff.mpr ⟨fun i j hi hj e => ?_, fun i hi => ⟨h4.2 (i + 207) (by omega), fun j hj e => ?_⟩⟩, fun hf => ?_⟩, am_K_ga h6 (fun q h => h.1)⟩, h7⟩
  · have := (h3 i (by omega)).lt
    have h9 : ad i < U.heap.size := this
    omega
  · have := h3 (i + 207) (by omega)
    rw [am_e_p] at this
    rw [am_e_1 (by omega)]
    exact this
  · have := h4.1 (i + 207) (j + 207) (by omega) (by omega) e
    omega
  · have := h4.1 (i + 207) j (by omega) (by omega) e
    omega
  · have h := (h5 hf).2
    rw [jn_q, Nat.add_sub_cancel_left] at h
    refine ⟨h, fun i j hi => absurd hi (by omega)⟩
set_option maxRecDepth 100000 in
theorem am_P_H {g : am_Gl} {ad ad' : Nat → Nat} {s t t' : am_M} {m : Nat} {U T : State} (hm : (g.2.2.2.1 = true ∧ m = 207) ∨ (g.2.2.2.1 = false ∧ m ≤ 207)) (h : am_H g (207 + m) ad (jn s t) U.heap) (hx : ∀ i, i < m → ad' i = ad (i + 207)) (hH : am_H (am_ga g (am_aP g ad)) 207 ad' t' T.heap) (hF : va_F (am_aP g ad) U T) : am_H g 414 (jd ad ad') (jn s t') T.heap := by
  obtain ⟨h3, h4, h5⟩ := h
  have h3 := am_P_iff.mp h3
  have h4 := am_D_iff.mp h4
  obtain ⟨k3, k4, k5⟩ := hH
  have k3 := am_P_iff.mp k3
  have k4 := am_D_iff.mp k4
  have hm2 : m ≤ 207 := by rcases hm with ⟨-, h⟩ | ⟨-, h⟩ <;> omega
  have e2 : (fun j => jd ad ad' (j + 207)) = ad' := funext fun j => jd_p
  have adO : ∀ i, i < 207 → jd ad ad' i = ad i := fun i hi => jd_o hi
  have adP : ∀ i, jd ad ad' (i + 207) = ad' i := fun i => jd_p
  have adX : ∀ j, j < 207 + m → (jd ad ad') j = ad j := fun j hj => by
    by_cases h : j < 207
    · exact jd_o h
    · obtain ⟨i, rfl⟩ : ∃ i, j = i + 207 := ⟨j - 207, by omega⟩
      rw [adP]; exact hx i (by omega)
  refine ⟨am_P_iff.mpr fun i hi => ?_, am_D_iff.mpr ⟨fun i j hi hj e => ?_, fun i hi => ?_⟩, fun hf => ?_⟩
  · by_cases h207 : i < 207
    · have := h3 i (by omega)
      rw [am_e_o h207] at this
      rw [am_e_o h207, adO i h207, am_e1_ad (n := 207 + m) (ad := ad) adX ?_]
      · exact this.kept (hF.2 _ this.lt (fun z => z.2 i h207 rfl))
      · rcases hm with ⟨hg, -⟩ | ⟨hg, -⟩
        · exact Or.inl ⟨hg, by omega⟩
        · refine Or.inr ⟨hg, fun a b ha hb => ?_, by omega⟩
          by_cases a207 : a < 207
          · have := (h5 hg).1 a b ha hb
            rw [jn_o a207] at this
            exact this
          · exfalso
            have e : am_sh a = (9, 0, 0) := by
              unfold am_sh
              rw [List.getD_eq_getElem?_getD, List.getElem?_eq_none (by rw [show am_L.length = 207 from by decide +kernel]; omega)]
              rfl
            unfold am_isr at hb
            rw [e] at hb
            simp at hb
    · obtain ⟨j, rfl⟩ : ∃ j, i = j + 207 := ⟨i - 207, by omega⟩
      have := k3 j (by omega)
      rw [am_e_1 (by omega)] at this
      rw [am_e_p, adP, e2]
      exact this
  · by_cases a207 : i < 207
    · by_cases b207 : j < 207
      · rw [adO i a207, adO j b207] at e
        exact h4.1 i j (by omega) (by omega) e
      · obtain ⟨j, rfl⟩ : ∃ k, j = k + 207 := ⟨j - 207, by omega⟩
        rw [adO i a207, adP] at e
        exact absurd e.symm ((k4.2 j (by omega)).2 i a207)
    · obtain ⟨i, rfl⟩ : ∃ k, i = k + 207 := ⟨i - 207, by omega⟩
      by_cases b207 : j < 207
      · rw [adO j b207, adP] at e
        exact absurd e ((k4.2 i (by omega)).2 j b207)
      · obtain ⟨j, rfl⟩ : ∃ k, j = k + 207 := ⟨j - 207, by omega⟩
        rw [adP, adP] at e
        rw [k4.1 i j (by omega) (by omega) e]
  · by_cases a207 : i < 207
    · rw [adO i a207]; exact h4.2 i (by omega)
    · obtain ⟨i, rfl⟩ : ∃ k, i = k + 207 := ⟨i - 207, by omega⟩
      rw [adP]; exact (k4.2 i (by omega)).1
  · refine ⟨fun a b ha hb => ?_, ?_⟩
    · by_cases a207 : a < 207
      · have := (h5 hf).1 a b (by omega) hb
        rw [jn_o a207] at this ⊢
        exact this.imp id (fun h9 => by omega)
      · exfalso
        have e : am_sh a = (9, 0, 0) := by
          unfold am_sh
          rw [List.getD_eq_getElem?_getD, List.getElem?_eq_none (by rw [show am_L.length = 207 from by decide +kernel]; omega)]
          rfl
        unfold am_isr at hb
        rw [e] at hb
        simp at hb
    · rw [jn_q]; exact (k5 hf).1
set_option maxRecDepth 100000 in
theorem am_liftP {l : Launch} {g : am_Gl} {Y : am_Y} {s t : am_M} {m : Nat} {av av1 : List Value} {P P2 : am_P} (hm : (g.2.2.2.1 = true ∧ m = 207) ∨ (g.2.2.2.1 = false ∧ m ≤ 207)) (hav : ∀ v ∈ av1, am_rl m v) (ha : ∀ ad : Nat → Nat, av.map (am_tr ad) = av1.map (am_tr (fun i => ad (i + 207)))) (hA : ∀ A : Nat → Prop, AC l (am_ga g A) Y m t av1 P) (hP : ∀ r n' σ', P r n' σ' → n' = 207 ∧ am_nr r ∧ P2 r 414 (jn s σ')) : AC l g Y (207 + m) (jn s t) av P2 := by
  intro hav' ad
  have hM := hA (am_aP g ad) hav (fun i => ad (i + 207))
  have hm2 : m ≤ 207 := by rcases hm with ⟨-, h⟩ | ⟨-, h⟩ <;> omega
  have hfree : ∀ q, am_A (am_ga g (am_aP g ad)) q → am_A g q := fun q h => h.1
  have hF9 : ∀ {U T : State}, va_F (am_aP g ad) U T → va_F (am_A g) U T := fun h => ⟨h.1, fun q h1 h2 => h.2 q h1 (fun z => h2 z.1)⟩
  have hadX : ∀ {ad' : Nat → Nat}, (∀ i, i < m → ad' i = ad (i + 207)) → ∀ j, j < 207 + m → (jd ad ad') j = ad j := fun {ad'} hx j hj => by
    by_cases h : j < 207
    · exact jd_o h
    · obtain ⟨i, rfl⟩ : ∃ i, j = i + 207 := ⟨j - 207, by omega⟩
      rw [jd_p]
      exact hx i (by omega)
  by_cases ht : am_yt Y = true
  · rw [if_pos ht] at hM ⊢
    refine vx_Met_c hM (fun a s h => am_P_pre hm2 (ha ad) h) (fun a U o T hpre hq => ?_) (fun a E U T hpre hq => ?_) hfree
    · obtain ⟨⟨v, n', ad', σ', h1, h2, h3, h4, h5, h6⟩, h7⟩ := hq
      obtain ⟨rfl, g2, g3⟩ := hP _ _ _ h3
      have nr : ∀ x, v = some x → ∀ i, x ≠ .ref i := fun x hx => g2 x (by rw [hx])
      refine ⟨⟨v, 414, _, jn s σ', ?_, fun x hx i hi => absurd hi (nr x hx i), g3, by omega, hadX h5, am_P_H hm hpre.2.1.2.1 h5 h6 h7⟩, hF9 h7⟩
      rw [h1]
      cases v with
      | none => rfl
      | some x => rw [Option.map_some, Option.map_some, am_tr_nr (nr x rfl)]
    · obtain ⟨⟨n', ad', σ', h3, h4, h5, h6⟩, h7⟩ := hq
      obtain ⟨rfl, g2, g3⟩ := hP _ _ _ h3
      exact ⟨⟨414, _, jn s σ', g3, by omega, hadX h5, am_P_H hm hpre.2.1.2.1 h5 h6 h7⟩, hF9 h7⟩
  · rw [if_neg ht] at hM ⊢
    refine Met_c hM (fun a s h => am_P_pre hm2 (ha ad) h) (fun a U o T hpre hq => ?_) hfree
    obtain ⟨⟨v, n', ad', σ', h1, h2, h3, h4, h5, h6⟩, h7⟩ := hq
    obtain ⟨rfl, g2, g3⟩ := hP _ _ _ h3
    have nr : ∀ x, v = some x → ∀ i, x ≠ .ref i := fun x hx => g2 x (by rw [hx])
    refine ⟨⟨v, 414, _, jn s σ', ?_, fun x hx i hi => absurd hi (nr x hx i), g3, by omega, hadX h5, am_P_H hm hpre.2.1.2.1 h5 h6 h7⟩, hF9 h7⟩
    rw [h1]
    cases v with
    | none => rfl
    | some x => rw [Option.map_some, Option.map_some, am_tr_nr (nr x rfl)]
