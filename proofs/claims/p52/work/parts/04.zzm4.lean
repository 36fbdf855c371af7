-- what contracts of one object say, in the forms that are called
abbrev am_oC2 (q : Int32 × am_M × am_M) : am_P := am_ri q.1 414 (jn q.2.1 q.2.2)
theorem am_oC2_ok {s t : am_M} {x : Int32} : am_oC2 (x, s, t) (.inl (some (.int x))) 414 (jn s t) := ⟨rfl, rfl, rfl⟩
theorem am_1I {l : Launch} {g : am_Gl} {Y : am_Y} {s σ : am_M} {av : List Value} {x : Int32} (h : AC l g Y 207 s av (am_oI σ x)) : AC l g Y 207 s av (am_ri x 207 σ) := h
theorem am_1C {l : Launch} {g : am_Gl} {Y : am_Y} {s : am_M} {av : List Value} {q : Int32 × am_M} (h : AC l g Y 207 s av (am_oC q)) : AC l g Y 207 s av (am_ri q.1 207 q.2) := h
theorem am_1E {l : Launch} {g : am_Gl} {Y : am_Y} {s : am_M} {av : List Value} {q : Nat × Int32 × am_M} (h0 : q.1 = 0) (h : AC l g Y 207 s av (am_oE q)) : AC l g Y 207 s av (am_ri q.2.1 207 q.2.2) := by
  rw [am_oE, if_pos h0] at h; exact h
theorem am_ri_h {s t : am_M} {x : Int32} : ∀ r n' σ', am_ri x 207 s r n' σ' → n' = 207 ∧ am_nr r ∧ am_ri x 414 (jn s t) r 414 (jn σ' t) := fun r n' σ' h => by
  obtain ⟨h1, h2, h3⟩ := h
  subst h1 h2 h3
  exact ⟨rfl, fun v hv i hi => (by rw [hi] at hv; cases hv), rfl, rfl, rfl⟩
theorem am_ri_p {s t : am_M} {x : Int32} : ∀ r n' σ', am_ri x 207 t r n' σ' → n' = 207 ∧ am_nr r ∧ am_ri x 414 (jn s t) r 414 (jn s σ') := fun r n' σ' h => by
  obtain ⟨h1, h2, h3⟩ := h
  subst h1 h2 h3
  exact ⟨rfl, fun v hv i hi => (by rw [hi] at hv; cases hv), rfl, rfl, rfl⟩
theorem am_2O {l : Launch} {g : am_Gl} {Y : am_Y} {s s' t : am_M} {av : List Value} {x : Int32} (hg : g.2.2.2.1 = true) (hav : am_okv 207 av = true) (hA : ∀ A : Nat → Prop, AC l (am_ga g A) Y 207 s av (am_ri x 207 s')) : AC l g Y 414 (jn s t) av (am_ri x 414 (jn s' t)) := am_liftO hg (am_okv_s hav) hA am_ri_h
theorem am_2P {l : Launch} {g : am_Gl} {Y : am_Y} {s t t' : am_M} {av av1 : List Value} {x : Int32} (hg : g.2.2.2.1 = true) (hav : am_okv 207 av1 = true) (ha : ∀ ad : Nat → Nat, av.map (am_tr ad) = av1.map (am_tr (fun i => ad (i + 207)))) (hA : ∀ A : Nat → Prop, AC l (am_ga g A) Y 207 t av1 (am_ri x 207 t')) : AC l g Y 414 (jn s t) av (am_ri x 414 (jn s t')) := am_liftP (m := 207) (Or.inl ⟨hg, rfl⟩) (am_okv_s hav) ha hA am_ri_p
-- another memory that is the same in the cells of the object
def lo (m u : am_M) : am_M := fun a => if a < 207 then m a else u a
theorem lo_at {m u : am_M} {a : Nat} (h : a < 207) : lo m u a = m a := if_pos h
theorem am_H_k {g : am_Gl} {ad : Nat → Nat} {σ m : am_M} {H : Heap} (hg : g.2.2.2.1 = true) (hm : ∀ a, a < 207 → m a = σ a) (h : am_H g 207 ad σ H) : am_H g 207 ad m H := by
  obtain ⟨h3, h4, -⟩ := h
  have h3 := am_P_iff.mp h3
  refine ⟨am_P_iff.mpr fun i hi => ?_, am_D_iff.mpr (am_D_iff.mp h4), fun hf => by rw [hg] at hf; cases hf⟩
  rw [am_e_k (σ := σ) (hm i hi)]
  exact h3 i hi
theorem am_up9 {l : Launch} {g : am_Gl} {Y : am_Y} {s : am_M} {av : List Value} {P P2 : am_P} (hg : g.2.2.2.1 = true) (hA : AC l g Y 207 s av P) (hP : ∀ r n' σ', P r n' σ' → n' = 207 ∧ ∃ m, (∀ a, a < 207 → m a = σ' a) ∧ P2 r 207 m) : AC l g Y 207 s av P2 := by
  intro hav ad
  have hM := hA hav ad
  by_cases ht : am_yt Y = true
  · rw [if_pos ht] at hM ⊢
    refine vx_Met_c hM (fun a s h => h) (fun a U o T hpre hq => ?_) (fun a E U T hpre hq => ?_) (fun q h => h)
    · obtain ⟨⟨v, n', ad', σ', h1, h2, h3, h4, h5, h6⟩, h7⟩ := hq
      obtain ⟨rfl, m, g2, g3⟩ := hP _ _ _ h3
      exact ⟨⟨v, 207, ad', m, h1, h2, g3, h4, h5, am_H_k hg g2 h6⟩, h7⟩
    · obtain ⟨⟨n', ad', σ', h3, h4, h5, h6⟩, h7⟩ := hq
      obtain ⟨rfl, m, g2, g3⟩ := hP _ _ _ h3
      exact ⟨⟨207, ad', m, g3, h4, h5, am_H_k hg g2 h6⟩, h7⟩
  · rw [if_neg ht] at hM ⊢
    refine Met_c hM (fun a s h => h) (fun a U o T hpre hq => ?_) (fun q h => h)
    obtain ⟨⟨v, n', ad', σ', h1, h2, h3, h4, h5, h6⟩, h7⟩ := hq
    obtain ⟨rfl, m, g2, g3⟩ := hP _ _ _ h3
    exact ⟨⟨v, 207, ad', m, h1, h2, g3, h4, h5, am_H_k hg g2 h6⟩, h7⟩
theorem am_ghE {l : Launch} {g : am_Gl} {Y : am_Y} {s : am_M} {av : List Value} {q : Nat × Int32 × am_M} {m : am_M} (hg : g.2.2.2.1 = true) (hA : AC l g Y 207 s av (am_oE q)) (hm : ∀ a, a < 207 → m a = q.2.2 a) : AC l g Y 207 s av (am_oE (q.1, q.2.1, m)) := by
  refine am_up9 hg hA (fun r n' σ' h => ?_)
  unfold am_oE at h ⊢
  by_cases h0 : q.1 = 0
  · rw [if_pos h0] at h
    obtain ⟨h1, h2, h3⟩ := h
    subst h3
    rw [if_pos h0]
    exact ⟨h2, m, hm, h1, rfl, rfl⟩
  · rw [if_neg h0] at h
    obtain ⟨h1, h2, h3⟩ := h
    subst h3
    rw [if_neg h0]
    exact ⟨h2, m, hm, h1, rfl, rfl⟩
theorem am_ghV {l : Launch} {g : am_Gl} {Y : am_Y} {s : am_M} {av : List Value} {q : Nat × am_M} {m : am_M} (hg : g.2.2.2.1 = true) (hA : AC l g Y 207 s av (am_oV q)) (hm : ∀ a, a < 207 → m a = q.2 a) : AC l g Y 207 s av (am_oV (q.1, m)) := by
  refine am_up9 hg hA (fun r n' σ' h => ?_)
  unfold am_oV at h ⊢
  by_cases h0 : q.1 = 0
  · rw [if_pos h0] at h
    obtain ⟨h1, h2, h3⟩ := h
    subst h3
    rw [if_pos h0]
    exact ⟨h2, m, hm, h1, rfl, rfl⟩
  · rw [if_neg h0] at h
    obtain ⟨h1, h2, h3⟩ := h
    subst h3
    rw [if_neg h0]
    exact ⟨h2, m, hm, h1, rfl, rfl⟩

