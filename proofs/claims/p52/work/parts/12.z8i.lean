noncomputable section
-- questions: keys and groups, the model
theorem qm_k7 {g col W : Nat} (hg : g < 12) (hcol : col < W) (hW : W ≤ 54) : ∀ (l : List q_An) (ks : List Int32) (i n : Nat) (s : am_M), i + l.length ≤ 30 → ks.length ≤ i → l.length < n → s 248 g = nI (i + l.length) → q_kl s 254 ks → q_srt ks → s 207 59 = nI ks.length → q_ml s g l W i → p_MO_laysKeys_7 n s (nI g) (nI col) (nI i) ∧ ∃ t, f_MO_laysKeys_7 n s (nI g) (nI col) (nI i) = t ∧ q_out s t (fun a b => a = 254 ∨ (a = 207 ∧ b = 59)) ∧ t 207 59 = nI (q_ks col ks l).length ∧ q_kl t 254 (q_ks col ks l) := by
  have vg : vp_in (nI g) 12 := vp_in_nI (by omega) (by omega)
  have cg := nI_clamp (n := g) (by omega)
  intro l
  induction l with
  | nil =>
    intro ks i n s hi hks hn hf kl sk h59 ml
    obtain ⟨n, rfl⟩ : ∃ k, n = k + 1 := ⟨n - 1, by omega⟩
    have l0 : ([] : List q_An).length = 0 := rfl
    have gg : s 248 g ≤ nI i := by rw [hf]; exact qn_le (by omega) (by omega)
    unfold p_MO_laysKeys_7 f_MO_laysKeys_7
    rw [cg, if_pos gg]
    exact ⟨⟨vg, fun _ => trivial, fun q => absurd gg q⟩, s, rfl, fun _ _ _ => rfl, h59, kl⟩
  | cons a l ih =>
    intro ks i n s hi hks hn hf kl sk h59 ml
    rw [List.length_cons] at hi hn hf
    obtain ⟨n, rfl⟩ : ∃ k, n = k + 1 := ⟨n - 1, by omega⟩
    have gg : ¬ s 248 g ≤ nI i := by rw [hf]; exact nI_ge (by omega) (by omega)
    have e1 : nI i + (1 : Int32) = nI (i + 1) := nI_add i 1
    have e2 : nI ks.length + (1 : Int32) = nI (ks.length + 1) := nI_add _ 1
    have ef : (1620 : Int32) * nI g + (54 : Int32) * nI i + nI col = nI (1620 * g + 54 * i + col) := by rw [qw_1620, qw_54, nI_add, nI_add]
    obtain ⟨c1, c2⟩ := q_ml_t ml
    have hcell := c1 col hcol
    have vc : vp_in (nI (1620 * g + 54 * i + col)) 19440 := vp_in_nI (by omega) (by omega)
    have hle := q_pI_le (x := a.1 col) ks
    have hil := q_ins_len (x := a.1 col) ks
    obtain ⟨k1, k2⟩ := qm_k42 (x := a.1 col) sk (show ks.length ≤ 30 by omega) (nI g) (nI col) (nI i) (f_MO_laysKeys_7 n) (p_MO_laysKeys_7 n) (ks.length - q_pI (a.1 col) ks) ks.length am_F s (by omega) (Nat.le_refl _) (by rw [am_F_eq]; omega) kl
    have step : ∀ S, q_out s S (fun a b => a = 254 ∨ (a = 207 ∧ b = 59)) → q_kl S 254 (q_ins (a.1 col) ks) → S 207 59 = nI (q_ins (a.1 col) ks).length → p_MO_laysKeys_7 n S (nI g) (nI col) (nI (i + 1)) ∧ ∃ t, f_MO_laysKeys_7 n S (nI g) (nI col) (nI (i + 1)) = t ∧ q_out s t (fun a b => a = 254 ∨ (a = 207 ∧ b = 59)) ∧ t 207 59 = nI (q_ks col ks (a :: l)).length ∧ q_kl t 254 (q_ks col ks (a :: l)) := fun S oS kS hS => by
      obtain ⟨i1, t, i2, i3, i4, i5⟩ := ih (q_ins (a.1 col) ks) (i + 1) n S (by omega) (by omega) (by omega) (by rw [oS _ _ (by omega), hf, show i + 1 + l.length = i + (l.length + 1) from by omega]) kS (q_ins_srt ks sk) hS (fun x hx c hc => by rw [oS _ _ (by omega)]; exact c2 x hx c hc)
      exact ⟨i1, t, i2, q_out_t oS i3, i4, i5⟩
    unfold p_MO_laysKeys_7 f_MO_laysKeys_7
    rw [cg, if_neg gg, ef, nI_clamp (n := 1620 * g + 54 * i + col) (by omega), hcell, h59, k1]
    unfold f_MO_laysKeys_67
    unfold p_MO_laysKeys_67 at k2
    rw [h59] at k2 ⊢
    -- a new key
    have new : ¬ q_has (a.1 col) ks → p_MO_laysKeys_88 (p_MO_laysKeys_7 n) s (nI g) (nI col) (nI i) (a.1 col) (nI (q_pI (a.1 col) ks)) ∧ ∃ t, f_MO_laysKeys_88 (f_MO_laysKeys_7 n) s (nI g) (nI col) (nI i) (a.1 col) (nI (q_pI (a.1 col) ks)) = t ∧ q_out s t (fun a b => a = 254 ∨ (a = 207 ∧ b = 59)) ∧ t 207 59 = nI (q_ks col ks (a :: l)).length ∧ q_kl t 254 (q_ks col ks (a :: l)) := fun nh => by
      have n1 := (q_ins_new ks nh).1
      obtain ⟨S, z1, z2, z3, z4⟩ := qm_k94 (p := q_pI (a.1 col) ks) (nI g) (nI col) (nI i) (a.1 col) (f_MO_laysKeys_7 n) (p_MO_laysKeys_7 n) (ks.length - q_pI (a.1 col) ks) am_F s (by omega) (by rw [am_F_eq]; omega)
      rw [show q_pI (a.1 col) ks + (ks.length - q_pI (a.1 col) ks) = ks.length from by omega] at z1 z2 z3 z4
      have cp := nI_clamp (n := q_pI (a.1 col) ks) (by omega)
      have hS59 : am_set S 254 (q_pI (a.1 col) ks) (a.1 col) 207 59 = nI ks.length := by rw [am_set_p (by omega), z3 _ _ (by omega)]; exact h59
      unfold f_MO_laysKeys_123 f_MO_laysKeys_142 at z1
      unfold p_MO_laysKeys_123 p_MO_laysKeys_142 at z2
      rw [cp, hS59, e2, e1] at z1 z2
      obtain ⟨x1, x2⟩ := step (am_set (am_set S 254 (q_pI (a.1 col) ks) (a.1 col)) 207 59 (nI (ks.length + 1))) (fun a' b' q => by rw [am_set_p (by omega), am_set_p (by omega), z3 a' b' (by omega)]) (q_kl_ins kl nh (fun x hx => by rw [am_set_p (by omega), am_set_p (by omega), z3 _ _ (by omega)]) (by rw [am_set_p (by omega), am_set_q]) (fun x h1 h2 => by rw [am_set_p (by omega), am_set_p (by omega)]; exact z4 x h1 h2)) (by rw [am_set_q, n1])
      unfold p_MO_laysKeys_88 f_MO_laysKeys_88
      rw [h59, z1]
      exact ⟨z2 ⟨vp_in_nI (by omega) (by omega), x1⟩, x2⟩
    by_cases h1 : q_pI (a.1 col) ks = ks.length
    · have y1 : nI (q_pI (a.1 col) ks) = nI ks.length := by rw [h1]
      rw [if_pos y1]
      obtain ⟨x1, x2⟩ := new (fun q => by have := q.1; omega)
      exact ⟨⟨vg, fun q => absurd q gg, fun _ => ⟨vc, k2 ⟨fun _ => x1, fun q => absurd y1 q⟩⟩⟩, x2⟩
    · have y1 : ¬ nI (q_pI (a.1 col) ks) = nI ks.length := fun q => h1 ((nI_eq (by omega) (by omega)).mp q)
      have hat := kl (q_pI (a.1 col) ks) (by omega)
      rw [nI_clamp (n := q_pI (a.1 col) ks) (by omega)] at k2 ⊢
      rw [if_neg y1]
      by_cases h2 : s 254 (q_pI (a.1 col) ks) = a.1 col
      · have hs : q_has (a.1 col) ks := ⟨by omega, by rw [← hat]; exact h2⟩
        obtain ⟨x1, x2⟩ := step s (fun _ _ _ => rfl) (by rw [q_ins_in ks hs]; exact kl) (by rw [q_ins_in ks hs]; exact h59)
        rw [if_pos h2]
        unfold f_MO_laysKeys_142
        unfold p_MO_laysKeys_142 at k2
        rw [e1] at k2 ⊢
        exact ⟨⟨vg, fun q => absurd q gg, fun _ => ⟨vc, k2 ⟨fun q => absurd q y1, fun _ => ⟨vp_in_nI (by omega) (by omega), fun _ => x1, fun q => absurd h2 q⟩⟩⟩⟩, x2⟩
      · rw [if_neg h2]
        obtain ⟨x1, x2⟩ := new (fun q => h2 (by rw [hat]; exact q.2))
        exact ⟨⟨vg, fun q => absurd q gg, fun _ => ⟨vc, k2 ⟨fun q => absurd q y1, fun _ => ⟨vp_in_nI (by omega) (by omega), fun q => absurd q h2, fun _ => x1⟩⟩⟩⟩, x2⟩
theorem qm_keys {s : am_M} {g col W : Nat} (hg : g < 12) (hcol : col < W) (hW : W ≤ 54) {l : List q_An} (hl : l.length ≤ 30) (hf : s 248 g = nI l.length) (ml : q_ml s g l W 0) : p_MO_laysKeys s (nI g) (nI col) ∧ ∃ t, f_MO_laysKeys s (nI g) (nI col) = t ∧ q_out s t (fun a b => a = 254 ∨ (a = 207 ∧ b = 59)) ∧ t 207 59 = nI (q_ks col [] l).length ∧ q_kl t 254 (q_ks col [] l) := by
  have oS : q_out s (am_set s 207 59 0) (fun a b => a = 207 ∧ b = 59) := fun a b q => am_set_p (by omega)
  obtain ⟨i1, t, i2, i3, i4, i5⟩ := qm_k7 hg hcol hW l [] 0 am_F (am_set s 207 59 0) (by omega) (Nat.le_refl _) (by rw [am_F_eq]; omega) (by rw [oS _ _ (by omega), Nat.zero_add]; exact hf) (fun i hi => absurd hi (Nat.not_lt_zero _)) trivial am_set_q (fun x hx c hc => by rw [oS _ _ (by omega)]; exact ml x hx c hc)
  rw [nI_0] at i1 i2
  exact ⟨i1, t, i2, fun a b q => by rw [i3 a b q, oS a b (by omega)], i4, i5⟩
theorem qm_s9 {s : am_M} {j g key val W N : Nat} (hj : j < 8) (hg : g < 12) (hN : N ≤ 30) (hf : s 248 g = nI N) (h40 : s 240 j = nI key) (h42 : s 242 j = nI val) (hk : key < W) (hv : val < W) (hW : W ≤ 54) (x y : Int32) {P : q_An → Prop} [DecidablePred P] (hP : (s 236 j = 1 ∧ ∀ a : q_An, P a ↔ a.1 key = x) ∨ (s 236 j ≠ 1 ∧ ∃ sec, s 241 j = nI sec ∧ sec < W ∧ ∀ a : q_An, P a ↔ (a.1 key = x ∧ a.1 sec = y))) : ∀ (l : List q_An) (i n : Nat) (x5 x6 : Int32), i + l.length = N → l.length < n → (x6 = 0 ∨ x6 = 1) → q_ml s g l W i → p_MO_sumOf_9 n s (nI j) (nI g) x y x5 x6 (nI i) ∧ (((x6 ≠ 0 ∨ q_any P l) → f_MO_sumOf_9 n s (nI j) (nI g) x y x5 x6 (nI i) = q_limI (q_su P val x5 l).toInt) ∧ (¬ (x6 ≠ 0 ∨ q_any P l) → f_MO_sumOf_9 n s (nI j) (nI g) x y x5 x6 (nI i) = -1000000)) := by
  have vg : vp_in (nI g) 12 := vp_in_nI (by omega) (by omega)
  have vj : vp_in (nI j) 8 := vp_in_nI (by omega) (by omega)
  have cg := nI_clamp (n := g) (by omega)
  have cj := nI_clamp (n := j) (by omega)
  intro l
  induction l with
  | nil =>
    intro i n x5 x6 hi hn h6 ml
    obtain ⟨n, rfl⟩ : ∃ k, n = k + 1 := ⟨n - 1, by omega⟩
    have l0 : ([] : List q_An).length = 0 := rfl
    have gg : s 248 g ≤ nI i := by rw [hf]; exact qn_le (by omega) (by omega)
    unfold p_MO_sumOf_9 f_MO_sumOf_9
    rw [cg, if_pos gg]
    refine ⟨⟨vg, fun _ => ⟨fun _ => trivial, fun _ => trivial⟩, fun q => absurd gg q⟩, fun q => ?_, fun q => ?_⟩
    · have h60 : ¬ x6 = 0 := q.elim id (fun ⟨a, h, _⟩ => absurd h List.not_mem_nil)
      rw [if_neg h60, q_lim_M, Int32.toInt_toInt64]; rfl
    · have h60 : x6 = 0 := Classical.byContradiction (fun q2 => q (Or.inl q2))
      rw [if_pos h60]
  | cons a l ih =>
    intro i n x5 x6 hi hn h6 ml
    rw [List.length_cons] at hi hn
    obtain ⟨n, rfl⟩ : ∃ k, n = k + 1 := ⟨n - 1, by omega⟩
    have gg : ¬ s 248 g ≤ nI i := by rw [hf]; exact nI_ge (by omega) (by omega)
    have e1 : nI i + (1 : Int32) = nI (i + 1) := nI_add i 1
    have ef : (1620 : Int32) * nI g + (54 : Int32) * nI i = nI (1620 * g + 54 * i) := by rw [qw_1620, qw_54, nI_add]
    have ex : ∀ c, nI (1620 * g + 54 * i) + nI c = nI (1620 * g + 54 * i + c) := fun c => nI_add _ _
    have cx : ∀ c, c < 54 → (nI (1620 * g + 54 * i + c)).toNatClampNeg = 1620 * g + 54 * i + c := fun c hc => nI_clamp (by omega)
    have vx : ∀ c, c < 54 → vp_in (nI (1620 * g + 54 * i + c)) 19440 := fun c hc => vp_in_nI (by omega) (by omega)
    obtain ⟨c1, c2⟩ := q_ml_t ml
    have IH := fun y5 y6 h => ih (i + 1) n y5 y6 (by omega) (by omega) h c2
    have any_c : q_any P (a :: l) ↔ (P a ∨ q_any P l) := ⟨fun ⟨b, b1, b2⟩ => by
      rcases List.mem_cons.mp b1 with q | q
      · rw [q] at b2; exact Or.inl b2
      · exact Or.inr ⟨b, q, b2⟩, fun q => q.elim (fun q => ⟨a, List.mem_cons_self, q⟩) (fun ⟨b, b1, b2⟩ => ⟨b, List.mem_cons_of_mem _ b1, b2⟩)⟩
    have su_c : q_su P val x5 (a :: l) = q_su P val (if P a then x5 + q_oz (a.1 val) else x5) l := rfl
    rw [any_c, su_c]
    -- an answer that is of the group
    have yes : P a → p_MO_sumOf_80 (p_MO_sumOf_9 n s) s (nI j) (nI g) x y x5 x6 (nI i) (nI (1620 * g + 54 * i)) ∧ (((x6 ≠ 0 ∨ (P a ∨ q_any P l)) → f_MO_sumOf_80 (f_MO_sumOf_9 n s) s (nI j) (nI g) x y x5 x6 (nI i) (nI (1620 * g + 54 * i)) = q_limI (q_su P val (if P a then x5 + q_oz (a.1 val) else x5) l).toInt) ∧ (¬ (x6 ≠ 0 ∨ (P a ∨ q_any P l)) → f_MO_sumOf_80 (f_MO_sumOf_9 n s) s (nI j) (nI g) x y x5 x6 (nI i) (nI (1620 * g + 54 * i)) = -1000000)) := fun hp => by
      unfold p_MO_sumOf_80 f_MO_sumOf_80 p_MO_sumOf_85 f_MO_sumOf_85 p_MO_sumOf_113 f_MO_sumOf_113 p_MO_sumOf_118 f_MO_sumOf_118 p_MO_sumOf_139 f_MO_sumOf_139 p_MO_sumOf_140 f_MO_sumOf_140
      rw [cj, h42, ex, cx val (by omega), c1 val hv, e1, if_pos hp, if_neg i10, if_neg i10, ite_self]
      unfold q_oz
      by_cases hb : a.1 val = -1000000
      · have z0 : x5 + (0 : Int32) = x5 := Int32.add_zero _
        obtain ⟨a1, a2, -⟩ := IH x5 1 (Or.inr rfl)
        rw [if_pos hb, if_pos hb, z0]
        exact ⟨⟨vj, vx val (by omega), fun _ => ⟨fun q => absurd q i10, fun _ => ⟨fun q => absurd q i10, fun _ => ⟨fun _ => a1, fun q => absurd hb q⟩⟩⟩, fun _ => ⟨fun q => absurd q i10, fun _ => ⟨fun _ => a1, fun q => absurd hb q⟩⟩⟩, fun _ => a2 (Or.inl i10), fun q => absurd (Or.inr (Or.inl hp)) q⟩
      · obtain ⟨a1, a2, -⟩ := IH (x5 + a.1 val) 1 (Or.inr rfl)
        rw [if_neg hb, if_neg hb]
        exact ⟨⟨vj, vx val (by omega), fun _ => ⟨fun q => absurd q i10, fun _ => ⟨fun q => absurd q i10, fun _ => ⟨fun q => absurd q hb, fun _ => a1⟩⟩⟩, fun _ => ⟨fun q => absurd q i10, fun _ => ⟨fun q => absurd q hb, fun _ => a1⟩⟩⟩, fun _ => a2 (Or.inl i10), fun q => absurd (Or.inr (Or.inl hp)) q⟩
    have no : ¬ P a → p_MO_sumOf_84 (p_MO_sumOf_9 n s) s (nI j) (nI g) x y x5 x6 (nI i) (nI (1620 * g + 54 * i)) ∧ (((x6 ≠ 0 ∨ (P a ∨ q_any P l)) → f_MO_sumOf_84 (f_MO_sumOf_9 n s) s (nI j) (nI g) x y x5 x6 (nI i) (nI (1620 * g + 54 * i)) = q_limI (q_su P val (if P a then x5 + q_oz (a.1 val) else x5) l).toInt) ∧ (¬ (x6 ≠ 0 ∨ (P a ∨ q_any P l)) → f_MO_sumOf_84 (f_MO_sumOf_9 n s) s (nI j) (nI g) x y x5 x6 (nI i) (nI (1620 * g + 54 * i)) = -1000000)) := fun hp => by
      have z0 : x5 + (0 : Int32) = x5 := Int32.add_zero _
      have eor : (x6 ≠ 0 ∨ (P a ∨ q_any P l)) ↔ (x6 ≠ 0 ∨ q_any P l) := ⟨fun q => q.elim Or.inl (fun q => q.elim (fun q => absurd q hp) Or.inr), fun q => q.elim Or.inl (fun q => Or.inr (Or.inr q))⟩
      unfold p_MO_sumOf_84 f_MO_sumOf_84 p_MO_sumOf_85 f_MO_sumOf_85 p_MO_sumOf_113 f_MO_sumOf_113 p_MO_sumOf_118 f_MO_sumOf_118 p_MO_sumOf_139 f_MO_sumOf_139 p_MO_sumOf_140 f_MO_sumOf_140
      rw [cj, h42, ex, cx val (by omega), c1 val hv, e1, if_neg hp, eor, if_pos rfl, if_pos rfl, if_pos rfl, z0]
      rcases h6 with rfl | rfl
      · obtain ⟨a1, a2, a3⟩ := IH x5 0 (Or.inl rfl)
        rw [if_pos rfl]
        exact ⟨⟨vj, vx val (by omega), fun _ => ⟨fun _ => ⟨fun _ => a1, fun q => absurd rfl q⟩, fun q => absurd rfl q⟩, fun q => absurd rfl q⟩, a2, a3⟩
      · obtain ⟨a1, a2, a3⟩ := IH x5 1 (Or.inr rfl)
        rw [if_neg i10]
        exact ⟨⟨vj, vx val (by omega), fun q => absurd q i10, fun _ => ⟨fun _ => a1, fun q => absurd rfl q⟩⟩, a2, a3⟩
    unfold p_MO_sumOf_9 f_MO_sumOf_9
    rw [cg, if_neg gg, ef, cj, h40, ex, cx key (by omega), c1 key hk]
    rcases hP with ⟨k1, hP⟩ | ⟨k1, sec, h41, hs, hP⟩
    · by_cases h : a.1 key = x
      · obtain ⟨y1, y2⟩ := yes ((hP a).mpr h)
        rw [if_pos h, if_pos k1]
        exact ⟨⟨vg, fun q => absurd q gg, fun _ => ⟨vj, vx key (by omega), fun _ => ⟨vj, fun _ => y1, fun q => absurd k1 q⟩, fun q => absurd h q⟩⟩, y2⟩
      · obtain ⟨y1, y2⟩ := no (fun q => h ((hP a).mp q))
        rw [if_neg h]
        exact ⟨⟨vg, fun q => absurd q gg, fun _ => ⟨vj, vx key (by omega), fun q => absurd q h, fun _ => y1⟩⟩, y2⟩
    · rw [h41, ex, cx sec (by omega), c1 sec hs]
      by_cases h : a.1 key = x
      · rw [if_pos h, if_neg k1]
        by_cases h' : a.1 sec = y
        · obtain ⟨y1, y2⟩ := yes ((hP a).mpr ⟨h, h'⟩)
          rw [if_pos h']
          exact ⟨⟨vg, fun q => absurd q gg, fun _ => ⟨vj, vx key (by omega), fun _ => ⟨vj, fun q => absurd q k1, fun _ => ⟨vj, vx sec (by omega), fun _ => y1, fun q => absurd h' q⟩⟩, fun q => absurd h q⟩⟩, y2⟩
        · obtain ⟨y1, y2⟩ := no (fun q => h' ((hP a).mp q).2)
          rw [if_neg h']
          exact ⟨⟨vg, fun q => absurd q gg, fun _ => ⟨vj, vx key (by omega), fun _ => ⟨vj, fun q => absurd q k1, fun _ => ⟨vj, vx sec (by omega), fun q => absurd q h', fun _ => y1⟩⟩, fun q => absurd h q⟩⟩, y2⟩
      · obtain ⟨y1, y2⟩ := no (fun q => h ((hP a).mp q).1)
        rw [if_neg h]
        exact ⟨⟨vg, fun q => absurd q gg, fun _ => ⟨vj, vx key (by omega), fun q => absurd q h, fun _ => y1⟩⟩, y2⟩
theorem qm_sum {s : am_M} {j g key val W : Nat} {l : List q_An} (hj : j < 8) (hg : g < 12) (hl : l.length ≤ 30) (hf : s 248 g = nI l.length) (h40 : s 240 j = nI key) (h42 : s 242 j = nI val) (hk : key < W) (hv : val < W) (hW : W ≤ 54) (ml : q_ml s g l W 0) (x y : Int32) {P : q_An → Prop} [DecidablePred P] (hP : (s 236 j = 1 ∧ ∀ a : q_An, P a ↔ a.1 key = x) ∨ (s 236 j ≠ 1 ∧ ∃ sec, s 241 j = nI sec ∧ sec < W ∧ ∀ a : q_An, P a ↔ (a.1 key = x ∧ a.1 sec = y))) : p_MO_sumOf s (nI j) (nI g) x y ∧ f_MO_sumOf s (nI j) (nI g) x y = q_sc P val l := by
  obtain ⟨h1, h2, h3⟩ := qm_s9 hj hg hl hf h40 h42 hk hv hW x y hP l 0 am_F 0 0 (Nat.zero_add _) (by rw [am_F_eq]; omega) (Or.inl rfl) ml
  rw [nI_0] at h1 h2 h3
  refine ⟨h1, ?_⟩
  have hf0 : f_MO_sumOf s (nI j) (nI g) x y = f_MO_sumOf_9 am_F s (nI j) (nI g) x y 0 0 0 := rfl
  rw [hf0]
  by_cases h : q_any P l
  · rw [q_sc_any h]; exact h2 (Or.inr h)
  · rw [q_sc_no h]; exact h3 (fun q => q.elim (fun q => absurd rfl q) h)
end
