noncomputable section
-- questions: cross tables, the class
theorem qa_38 {Q : am_M} {j key sec val W P N : Nat} (hj : j < 8) (hN : N ≤ 30) (q4 : Q (67 + 7 * j) 4 = nI key) (q5 : Q (67 + 7 * j) 5 = nI sec) (q6 : Q (67 + 7 * j) 6 = nI val) (hk : key < W) (hc : sec < W) (hv : val < W) (hW : W ≤ 54) {xs ys : List Int32} (hx : xs.length ≤ 30) (hy : ys.length ≤ 30) (sx : q_srt xs) (sy : q_srt ys) : ∀ (l : List q_An) (i n : Nat) (s : am_M), i + l.length = N → l.length < n → q_qc s Q → s 52 4 = nI N → q_cs s l W P i → q_kl s 63 xs → q_kl s 64 ys → (∀ a, a ∈ l → a.1 key ∈ xs ∧ a.1 sec ∈ ys) → ∃ t, f_AS_findCross_38 n s (67 + 7 * j) (nI xs.length) (nI ys.length) (nI i) = f_AS_findCross_157 t (67 + 7 * j) (nI xs.length) (nI ys.length) (nI N) ∧ (p_AS_findCross_157 t (67 + 7 * j) (nI xs.length) (nI ys.length) (nI N) → p_AS_findCross_38 n s (67 + 7 * j) (nI xs.length) (nI ys.length) (nI i)) ∧ q_out s t (fun a _ => a = 65) ∧ ∀ a b, a < xs.length → b < ys.length → t 65 (31 * a + 1 + b) = q_ac (q_k2 key sec (xs.getD a 0) (ys.getD b 0)) val (s 65 (31 * a + 1 + b)) l := by
  have psh : 67 + 7 * j < 207 ∧ am_sh (67 + 7 * j) = (0, 4, 17) := ⟨by omega, (qa_sh hj).1⟩
  intro l
  induction l with
  | nil =>
    intro i n s hi hn qc hf cs kx ky hm
    obtain ⟨n, rfl⟩ : ∃ k, n = k + 1 := ⟨n - 1, by omega⟩
    have l0 : ([] : List q_An).length = 0 := rfl
    obtain rfl : i = N := by omega
    have g : s 52 4 ≤ nI i := by rw [hf]; exact qn_le (by omega) (by omega)
    unfold p_AS_findCross_38 f_AS_findCross_38
    rw [if_pos g]
    exact ⟨s, rfl, fun q => ⟨fun _ => q, fun q2 => absurd g q2⟩, fun _ _ _ => rfl, fun a b _ _ => rfl⟩
  | cons a l ih =>
    intro i n s hi hn qc hf cs kx ky hm
    rw [List.length_cons] at hi hn
    obtain ⟨n, rfl⟩ : ∃ k, n = k + 1 := ⟨n - 1, by omega⟩
    have g : ¬ s 52 4 ≤ nI i := by rw [hf]; exact nI_ge (by omega) (by omega)
    have e1 : nI i + (1 : Int32) = nI (i + 1) := nI_add i 1
    have hs4 : s (67 + 7 * j) 4 = nI key := by rw [qc.2 _ (by omega) (by omega)]; exact q4
    have hs5 : s (67 + 7 * j) 5 = nI sec := by rw [qc.2 _ (by omega) (by omega)]; exact q5
    have hs6 : s (67 + 7 * j) 6 = nI val := by rw [qc.2 _ (by omega) (by omega)]; exact q6
    obtain ⟨c1, c2, c3⟩ := q_cs_t cs
    have gk := qa_get s (show i < 30 by omega) (show key < 54 by omega)
    have gs := qa_get s (show i < 30 by omega) (show sec < 54 by omega)
    have gv := qa_get s (show i < 30 by omega) (show val < 54 by omega)
    rw [c1 key hk] at gk
    rw [c1 sec hc] at gs
    rw [c1 val hv] at gv
    obtain ⟨m1, m2⟩ := hm a List.mem_cons_self
    obtain ⟨x1, x2⟩ := q_srt_pI sx m1
    obtain ⟨y1, y2⟩ := q_srt_pI sy m2
    obtain ⟨P1, P2⟩ := qa_place (s := s) (b := 63) ⟨by omega, by decide +kernel⟩ hx kx (a.1 key)
    obtain ⟨P3, P4⟩ := qa_place (s := s) (b := 64) ⟨by omega, by decide +kernel⟩ hy ky (a.1 sec)
    have ix : nI (q_pI (a.1 key) xs) * (31 : Int32) + (1 : Int32) + nI (q_pI (a.1 sec) ys) = nI (31 * q_pI (a.1 key) xs + 1 + q_pI (a.1 sec) ys) := by
      have a1 : nI (q_pI (a.1 key) xs * 31) + (1 : Int32) = nI (q_pI (a.1 key) xs * 31 + 1) := nI_add _ 1
      rw [qm_31, a1, nI_add, Nat.mul_comm]
    have hix : ∀ a' b', a' < xs.length → b' < ys.length → (q_k2 key sec (xs.getD a' 0) (ys.getD b' 0) a ↔ (a' = q_pI (a.1 key) xs ∧ b' = q_pI (a.1 sec) ys)) := fun a' b' h1 h2 => ⟨fun q => by
      have u1 := q_srt_ix xs sx a' h1
      have u2 := q_srt_ix ys sy b' h2
      rw [← q.1] at u1
      rw [← q.2] at u2
      exact ⟨u1.symm, u2.symm⟩, fun q => by
      rw [q.1, q.2]; exact ⟨x2.symm, y2.symm⟩⟩
    generalize q_pI (a.1 key) xs = px at *
    generalize q_pI (a.1 sec) ys = py at *
    have g930 : ¬ (930 : Int32) ≤ nI (31 * px + 1 + py) := nI_ge (b := 930) (by omega) (by decide)
    have v930 : vp_in (nI (31 * px + 1 + py)) 930 := vp_in_nI (by omega) (by omega)
    have hoz : f_CB_orZero s (a.1 val) = q_oz (a.1 val) := rfl
    have step : ∀ y0 : Int32, y0 = (if s 65 (31 * px + 1 + py) = q_NO then 0 else s 65 (31 * px + 1 + py)) → ∃ t, f_AS_findCross_38 n (am_set s 65 (31 * px + 1 + py) (y0 + q_oz (a.1 val))) (67 + 7 * j) (nI xs.length) (nI ys.length) (nI (i + 1)) = f_AS_findCross_157 t (67 + 7 * j) (nI xs.length) (nI ys.length) (nI N) ∧ (p_AS_findCross_157 t (67 + 7 * j) (nI xs.length) (nI ys.length) (nI N) → p_AS_findCross_38 n (am_set s 65 (31 * px + 1 + py) (y0 + q_oz (a.1 val))) (67 + 7 * j) (nI xs.length) (nI ys.length) (nI (i + 1))) ∧ q_out s t (fun a _ => a = 65) ∧ ∀ a' b', a' < xs.length → b' < ys.length → t 65 (31 * a' + 1 + b') = q_ac (q_k2 key sec (xs.getD a' 0) (ys.getD b' 0)) val (s 65 (31 * a' + 1 + b')) (a :: l) := fun y0 hy0 => by
      have oS : q_out s (am_set s 65 (31 * px + 1 + py) (y0 + q_oz (a.1 val))) (fun a _ => a = 65) := fun a' b' q => am_set_p (Or.inl q)
      obtain ⟨t, i1, i2, i3, i4⟩ := ih (i + 1) n (am_set s 65 (31 * px + 1 + py) (y0 + q_oz (a.1 val))) (by omega) (by omega) (q_qc_out oS (fun a b q => by omega) qc) ((oS _ _ (by omega)).trans hf) (q_cs_o (fun a b q => oS a b (by omega)) c3) (q_kl_out oS (fun a b q => by omega) kx) (q_kl_out oS (fun a b q => by omega) ky) (fun b hb => hm b (List.mem_cons_of_mem _ hb))
      refine ⟨t, i1, i2, q_out_t oS i3, fun a' b' h1 h2 => ?_⟩
      rw [i4 a' b' h1 h2]
      have hdef : q_ac (q_k2 key sec (xs.getD a' 0) (ys.getD b' 0)) val (s 65 (31 * a' + 1 + b')) (a :: l) = q_ac (q_k2 key sec (xs.getD a' 0) (ys.getD b' 0)) val (if q_k2 key sec (xs.getD a' 0) (ys.getD b' 0) a then (if s 65 (31 * a' + 1 + b') = q_NO then 0 else s 65 (31 * a' + 1 + b')) + q_oz (a.1 val) else s 65 (31 * a' + 1 + b')) l := rfl
      rw [hdef]
      by_cases hh : q_k2 key sec (xs.getD a' 0) (ys.getD b' 0) a
      · rw [if_pos hh]
        obtain ⟨e1, e2⟩ := (hix a' b' h1 h2).mp hh
        rw [e1, e2, am_set_q, hy0]
      · rw [if_neg hh, am_set_p (Or.inr (fun q => hh ((hix a' b' h1 h2).mpr (by omega))))]
    unfold p_AS_findCross_38 f_AS_findCross_38 p_AS_findCross_126 f_AS_findCross_126 p_AS_findCross_151 f_AS_findCross_151
    rw [if_neg g, hs4, hs5, hs6, gk.2, gs.2, gv.2, P2, P4, ix, if_neg g930, e1, hoz, nI_clamp (n := 31 * px + 1 + py) (by omega)]
    by_cases hno : s 65 (31 * px + 1 + py) = -1000000000
    · obtain ⟨t, i1, i2, i3, i4⟩ := step 0 (by rw [if_pos hno])
      rw [if_pos hno]
      exact ⟨t, i1, fun q => ⟨fun q2 => absurd q2 g, fun _ => ⟨psh, gk.1, P1, gs.1, P3, fun q2 => absurd q2 g930, fun _ => ⟨v930, fun _ => ⟨psh, gv.1, v930, i2 q⟩, fun q2 => absurd hno q2⟩⟩⟩, i3, i4⟩
    · obtain ⟨t, i1, i2, i3, i4⟩ := step (s 65 (31 * px + 1 + py)) (by rw [if_neg hno])
      rw [if_neg hno]
      exact ⟨t, i1, fun q => ⟨fun q2 => absurd q2 g, fun _ => ⟨psh, gk.1, P1, gs.1, P3, fun q2 => absurd q2 g930, fun _ => ⟨v930, fun q2 => absurd q2 hno, fun _ => ⟨v930, psh, gv.1, v930, i2 q⟩⟩⟩⟩, i3, i4⟩
theorem qa_160 {n1 n2 : Nat} (x : Nat) : ∀ (d y n : Nat) (s : am_M), y + d = 930 → d < n → ∃ S, f_AS_findCross_160 n s x (nI n1) (nI n2) (nI y) = f_AS_takeSpare S (nI n1) (nI (n2 + 1)) ∧ (p_AS_takeSpare S (nI n1) (nI (n2 + 1)) → p_AS_findCross_160 n s x (nI n1) (nI n2) (nI y)) ∧ q_out s S (fun a b => a = 65 ∧ y ≤ b) ∧ ∀ b, y ≤ b → b < 930 → S 65 b = if b % 31 = 0 then s 63 (b / 31) else q_limI (s 65 b).toInt := by
  intro d
  induction d with
  | zero =>
    intro y n s hy hn
    obtain ⟨n, rfl⟩ : ∃ k, n = k + 1 := ⟨n - 1, by omega⟩
    obtain rfl : y = 930 := by omega
    have g : (930 : Int32) ≤ nI 930 := nI_le (a := 930) (Nat.le_refl _) (by omega)
    have e1 : nI n2 + (1 : Int32) = nI (n2 + 1) := nI_add n2 1
    unfold p_AS_findCross_160 f_AS_findCross_160
    rw [if_pos g, e1]
    exact ⟨s, rfl, fun q => ⟨fun _ => ⟨q, trivial⟩, fun q2 => absurd g q2⟩, fun _ _ _ => rfl, fun b h1 h2 => by omega⟩
  | succ d ih =>
    intro y n s hy hn
    obtain ⟨n, rfl⟩ : ∃ k, n = k + 1 := ⟨n - 1, by omega⟩
    have hy2 : y < 930 := by omega
    have g : ¬ (930 : Int32) ≤ nI y := nI_ge (b := 930) (by omega) (by decide)
    have e1 : nI y + (1 : Int32) = nI (y + 1) := nI_add y 1
    have vy : vp_in (nI y) 930 := vp_in_nI (by omega) (by omega)
    have step : ∀ v : Int32, v = (if y % 31 = 0 then s 63 (y / 31) else q_limI (s 65 y).toInt) → ∃ S, f_AS_findCross_160 n (am_set s 65 y v) x (nI n1) (nI n2) (nI (y + 1)) = f_AS_takeSpare S (nI n1) (nI (n2 + 1)) ∧ (p_AS_takeSpare S (nI n1) (nI (n2 + 1)) → p_AS_findCross_160 n (am_set s 65 y v) x (nI n1) (nI n2) (nI (y + 1))) ∧ q_out s S (fun a b => a = 65 ∧ y ≤ b) ∧ ∀ b, y ≤ b → b < 930 → S 65 b = if b % 31 = 0 then s 63 (b / 31) else q_limI (s 65 b).toInt := fun v hv => by
      obtain ⟨S, i1, i2, i3, i4⟩ := ih (y + 1) n (am_set s 65 y v) (by omega) (by omega)
      refine ⟨S, i1, i2, fun a b q => by rw [i3 a b (by omega), am_set_p (by omega)], fun b h1 h2 => ?_⟩
      by_cases hb : b = y
      · rw [hb, i3 _ _ (by omega), am_set_q, hv]
      · rw [i4 b (by omega) h2, am_set_p (show 63 ≠ 65 ∨ b / 31 ≠ y from Or.inl (by omega)), am_set_p (show 65 ≠ 65 ∨ b ≠ y from Or.inr hb)]
    unfold p_AS_findCross_160 f_AS_findCross_160 p_AS_findCross_208 f_AS_findCross_208
    rw [if_neg g, qr_31 (by omega), qd_31 (by omega), e1, nI_clamp (n := y) (by omega), nI_clamp (n := y / 31) (by omega), q_lim_C, Int32.toInt_toInt64]
    by_cases h : y % 31 = 0
    · have h0 : nI (y % 31) = 0 := by rw [h, nI_0]
      obtain ⟨S, i1, i2, i3, i4⟩ := step (s 63 (y / 31)) (by rw [if_pos h])
      rw [if_pos h0]
      exact ⟨S, i1, fun q => ⟨fun q2 => absurd q2 g, fun _ => ⟨fun _ => ⟨vp_in_nI (by omega) (by omega), vy, i2 q⟩, fun q2 => absurd h0 q2⟩⟩, i3, i4⟩
    · have h0 : ¬ nI (y % 31) = 0 := fun q => h ((qe_0 (by omega)).mp q)
      obtain ⟨S, i1, i2, i3, i4⟩ := step (q_limI (s 65 y).toInt) (by rw [if_neg h])
      rw [if_neg h0]
      exact ⟨S, i1, fun q => ⟨fun q2 => absurd q2 g, fun _ => ⟨fun q2 => absurd q2 h0, fun _ => ⟨vy, vy, i2 q⟩⟩⟩, i3, i4⟩
theorem qa_cross {s Q : am_M} (qc : q_qc s Q) {j key sec val W P : Nat} (hj : j < 8) (q4 : Q (67 + 7 * j) 4 = nI key) (q5 : Q (67 + 7 * j) 5 = nI sec) (q6 : Q (67 + 7 * j) 6 = nI val) (hk : key < W) (hc : sec < W) (hv : val < W) (hW : W ≤ 54) {l : List q_An} (hl : l.length ≤ 30) (hf : s 52 4 = nI l.length) (cs : q_cs s l W P 0) (hval : ∀ a, a ∈ l → q_v (a.1 val)) : p_AS_findCross s (67 + 7 * j) ∧ ∃ t, f_AS_findCross s (67 + 7 * j) = t ∧ q_out s t (fun a b => a = 61 ∨ a = 63 ∨ a = 64 ∨ a = 65 ∨ (a = 52 ∧ (b = 4 ∨ b = 5))) ∧ t 52 4 = nI (q_shC key sec val l).length ∧ t 52 5 = nI ((q_ks sec [] l).length + 1) ∧ q_cs t (q_shC key sec val l) ((q_ks sec [] l).length + 1) 0 0 ∧ q_kl t 64 (q_ks sec [] l) := by
  have psh : 67 + 7 * j < 207 ∧ am_sh (67 + 7 * j) = (0, 4, 17) := ⟨by omega, (qa_sh hj).1⟩
  have l0 : ([] : List Int32).length = 0 := rfl
  have hs4 : s (67 + 7 * j) 4 = nI key := by rw [qc.2 _ (by omega) (by omega)]; exact q4
  obtain ⟨g1, G, g2, g3, g4⟩ := qa_gather (b := 63) ⟨by omega, by decide +kernel⟩ (by omega) hk hW hl hf cs
  have qcG := q_qc_out g3 (fun a b q => by omega) qc
  have csG : q_cs G l W P 0 := q_cs_o (fun a b q => g3 a b (by omega)) cs
  have hfG : G 52 4 = nI l.length := (g3 _ _ (by omega)).trans hf
  have hs5 : G (67 + 7 * j) 5 = nI sec := by rw [qcG.2 _ (by omega) (by omega)]; exact q5
  obtain ⟨h1, H, h2, h3, h4⟩ := qa_gather (b := 64) ⟨by omega, by decide +kernel⟩ (by omega) hc hW hl hfG csG
  have hkx := @q_ks_len key l []
  have hky := @q_ks_len sec l []
  have sx := q_ks_srt (col := key) l [] trivial
  have sy := q_ks_srt (col := sec) l [] trivial
  have hm : ∀ a, a ∈ l → a.1 key ∈ q_ks key [] l ∧ a.1 sec ∈ q_ks sec [] l := fun a ha => ⟨(q_ks_mem l []).mpr (Or.inr ⟨a, ha, rfl⟩), (q_ks_mem l []).mpr (Or.inr ⟨a, ha, rfl⟩)⟩
  have hlen : (q_shC key sec val l).length = (q_ks key [] l).length := List.length_map ..
  have hget : ∀ i, i < (q_ks key [] l).length → (q_shC key sec val l).getD i q_A0 = q_cr key sec val l (q_ks sec [] l) ((q_ks key [] l).getD i 0) := fun i hi => q_map_getD _ i hi
  rw [hlen]
  generalize q_ks key [] l = xs at *
  generalize q_ks sec [] l = ys at *
  obtain ⟨b1, b2⟩ := pq_fill0 (s := H) (a := 65) (N := 930) (v := -1000000000) (by omega) (by decide +kernel) (by omega)
  have oF : q_out H (pq_blk H 65 0 930 (-1000000000)) (fun a _ => a = 65) := fun a b q => pq_blk_p (Or.inl q)
  have vF : ∀ b, b < 930 → pq_blk H 65 0 930 (-1000000000) 65 b = -1000000000 := fun b hb => pq_blk_q (Nat.zero_le _) hb
  generalize pq_blk H 65 0 930 (-1000000000) = F at *
  have oF2 : q_out s F (fun a _ => a = 63 ∨ a = 64 ∨ a = 65) := fun a b q => by rw [oF a b (by omega), h3 a b (by omega), g3 a b (by omega)]
  obtain ⟨T, i1, i2, i3, i4⟩ := qa_38 (P := P) hj hl q4 q5 q6 hk hc hv hW (xs := xs) (ys := ys) (by omega) (by omega) sx sy l 0 am_F F (Nat.zero_add _) (by rw [am_F_eq]; omega) (q_qc_out oF2 (fun a b q => by omega) qc) ((oF2 _ _ (by omega)).trans hf) (q_cs_o (fun a b q => oF2 a b (by omega)) cs) (q_kl_out oF (fun a b q => by omega) (q_kl_out h3 (fun a b q => by omega) g4)) (q_kl_out oF (fun a b q => by omega) h4) hm
  obtain ⟨S, s1, s2, s3, s4⟩ := @qa_160 xs.length ys.length (67 + 7 * j) 930 0 am_F T (by omega) (by rw [am_F_eq]; omega)
  rw [nI_0] at i1 i2 s1 s2
  obtain ⟨t1, t, t2, t3, t4, t5, t6⟩ := qa_take (s := S) (N := xs.length) (W' := ys.length + 1) (by omega) (by omega)
  unfold p_AS_findCross f_AS_findCross
  rw [hs4, g2]
  dsimp only
  rw [hs5, h2]
  dsimp only
  rw [b2, i1]
  unfold f_AS_findCross_157
  unfold p_AS_findCross_157 at i2
  rw [s1, t2]
  refine ⟨⟨psh, g1, h1, b1, i2 (s2 t1)⟩, t, rfl, fun a b q => by rw [t3 a b (by omega), s3 a b (by omega), i3 a b (by omega), oF2 a b (by omega)], t5, t6, fun i hi => ?_, fun i hi => ?_⟩
  · rw [hlen] at hi
    refine ⟨fun c hc9 => ?_, fun p hp => absurd hp (Nat.not_lt_zero _)⟩
    rw [Nat.zero_add, t4 i c hi hc9, hget i hi, s4 _ (Nat.zero_le _) (by omega)]
    unfold q_cr
    dsimp only
    by_cases h0 : c = 0
    · rw [h0, Nat.add_zero, if_pos (by omega), if_pos rfl, show 31 * i / 31 = i from by omega, i3 _ _ (by omega), oF _ _ (by omega), h3 _ _ (by omega)]
      exact g4 i hi
    · have hval9 := i4 i (c - 1) hi (by omega)
      rw [show 31 * i + 1 + (c - 1) = 31 * i + c from by omega, vF _ (by omega)] at hval9
      rw [if_neg (by omega), if_neg h0, hval9]
      exact q_ac_sc hval hl
  · rw [t3 _ _ (by omega), s3 _ _ (by omega), i3 _ _ (by omega), oF _ _ (by omega)]
    exact h4 i hi
end
