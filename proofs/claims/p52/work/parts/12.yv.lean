noncomputable section
-- a row is entered, the model; what is told
theorem qm_e40 {A : am_M} (w : q_wd A) {t m x2 off N : Nat} {x4 : Int32} {v : Nat → Int32} (ht : t < q_nt A) (ht4 : t < 4) (hm : m < 30) (hx : x2 < 263 ∧ gh_sh x2 = (1, 0, N)) (hx2 : 230 < x2) (ho : off + 6 ≤ N) (hN : N < 20000) : ∀ (d j n : Nat) (s : am_M), j + d = 6 → d < n → q_md s A → (∀ c, c < 6 → v c = if q_sto A (6 * t + c) then (if nI c = x4 then s 207 29 else s x2 (off + c)) else -1000000) → ∃ S, q_out s S (fun a b => a = 230 ∧ b / 6 = 30 * t + m ∧ j ≤ b % 6) ∧ (∀ c, j ≤ c → c < 6 → S 230 (180 * t + 6 * m + c) = v c) ∧ f_MO_entersRow_40 n s x2 (nI t) (nI off) x4 (nI m) (nI j) = (if (f_MO_isKept S).1 = 0 then ((-1 : Int32), (f_MO_isKept S).2) else (nI m, (f_MO_isKept S).2)) ∧ (p_MO_isKept S → p_MO_entersRow_40 n s x2 (nI t) (nI off) x4 (nI m) (nI j)) := by
  have hw6 := w.2.1 t ht4
  intro d
  induction d with
  | zero =>
    intro j n s h1 h2 md hv
    obtain ⟨n, rfl⟩ : ∃ k, n = k + 1 := ⟨n - 1, by omega⟩
    have c6 : (6 : Int32) ≤ nI j := qg_6 (by omega) (by omega)
    refine ⟨s, fun _ _ _ => rfl, fun c k1 k2 => absurd k2 (by omega), ?_, fun h => ?_⟩
    · unfold f_MO_entersRow_40; rw [if_pos c6]
    · unfold p_MO_entersRow_40; exact ⟨fun _ => ⟨h, fun _ => trivial, fun _ => trivial⟩, fun q => absurd c6 q⟩
  | succ d ih =>
    intro j n s h1 h2 md hv
    obtain ⟨n, rfl⟩ : ∃ k, n = k + 1 := ⟨n - 1, by omega⟩
    have hj : j < 6 := by omega
    have c6 : ¬ (6 : Int32) ≤ nI j := ql_6 hj
    have hk : 6 * t + j < 24 := by omega
    have v4 : vp_in (nI t) 4 := vp_in_nI ht4 (by omega)
    have vx : vp_in (nI (180 * t + 6 * m + j)) 720 := vp_in_nI (by omega) (by omega)
    have vo : vp_in (nI off + nI j) (gh_sh x2).2.2 := by rw [nI_add, hx.2]; exact vp_in_nI (show off + j < N by omega) (show N < 2 ^ 31 by omega)
    have hst := qm_stored md hk
    have f8 : s 208 t = nI (q_w A t) := by rw [md.2 208 (by omega) (by omega)]; exact hw6.1
    have hvj := hv j hj
    obtain ⟨S, s1, s2, s3, s4⟩ := ih (j + 1) n (am_set s 230 (180 * t + 6 * m + j) (v j)) (by omega) (by omega) (q_md_set (by omega) md) (fun c hc => by rw [am_set_o (by omega), am_set_o (by omega)]; exact hv c hc)
    have q1 : q_out s S (fun a b => a = 230 ∧ b / 6 = 30 * t + m ∧ j ≤ b % 6) := fun a b hab => by rw [s1 a b (by omega), am_set_p (by omega)]
    have q2 : ∀ c, j ≤ c → c < 6 → S 230 (180 * t + 6 * m + c) = v c := fun c k1 k2 => by
      by_cases e : c = j
      · rw [e, s1 _ _ (by omega), am_set_q]
      · exact s2 c (by omega) k2
    -- BLANK is written
    have w76 : ¬ q_sto A (6 * t + j) → f_MO_entersRow_76 (f_MO_entersRow_40 n) s x2 (nI t) (nI off) x4 (nI m) (nI j) = (if (f_MO_isKept S).1 = 0 then ((-1 : Int32), (f_MO_isKept S).2) else (nI m, (f_MO_isKept S).2)) ∧ (p_MO_isKept S → p_MO_entersRow_76 (p_MO_entersRow_40 n) s x2 (nI t) (nI off) x4 (nI m) (nI j)) := fun cs => by
      rw [if_neg cs] at hvj
      unfold f_MO_entersRow_76 f_MO_entersRow_77 f_MO_entersRow_121 p_MO_entersRow_76 p_MO_entersRow_77 p_MO_entersRow_121
      rw [if_pos rfl, qr_at, nI_clamp (n := 180 * t + 6 * m + j) (by omega), nI_1]
      rw [hvj] at s3 s4
      exact ⟨s3, fun h => ⟨fun _ => ⟨vx, s4 h⟩, fun q => absurd rfl q⟩⟩
    by_cases cs : q_sto A (6 * t + j)
    · have hw : j < q_w A t := by
        by_cases q : j < q_w A t
        · exact q
        · have := (w.2.2.1 (6 * t + j) hk).2 (by rw [show (6 * t + j) / 6 = t from by omega]; omega)
          rw [q_sto, this] at cs; exact absurd cs (by decide)
      have cw : ¬ nI (q_w A t) ≤ nI j := nI_ge hw (by omega)
      rw [if_pos cs] at hvj hst
      refine ⟨S, q1, q2, ?_, fun h => ?_⟩
      · unfold f_MO_entersRow_40 f_MO_entersRow_77 f_MO_entersRow_121
        rw [if_neg c6, nI_clamp (n := t) (by omega), f8, if_neg cw, qw_6, nI_add, hst.2, if_neg i10, if_neg i10, qr_at, nI_clamp (n := 180 * t + 6 * m + j) (by omega), nI_1, nI_add, nI_clamp (n := off + j) (by omega)]
        by_cases c3 : nI j = x4
        · rw [if_pos c3] at hvj ⊢
          rw [hvj] at s3; exact s3
        · rw [if_neg c3] at hvj ⊢
          rw [hvj] at s3; exact s3
      · unfold p_MO_entersRow_40 p_MO_entersRow_77 p_MO_entersRow_121
        rw [nI_clamp (n := t) (by omega), f8, qw_6, nI_add, hst.2, qr_at, nI_clamp (n := 180 * t + 6 * m + j) (by omega), nI_1]
        have s4 := s4 h
        refine ⟨fun q => absurd q c6, fun _ => ⟨v4, fun q => absurd q cw, fun _ => ⟨hst.1, fun q => absurd q i10, fun _ => ⟨fun q => absurd q i10, fun _ => ⟨fun c3 => ⟨vx, ?_⟩, fun c3 => ⟨⟨hx.1, by rw [hx.2]⟩, vo, vx, ?_⟩⟩⟩⟩⟩⟩
        · rw [if_pos c3] at hvj
          rw [hvj] at s4; exact s4
        · rw [if_neg c3] at hvj
          rw [nI_add, nI_clamp (n := off + j) (by omega)]
          rw [hvj] at s4; exact s4
    · have z := w76 cs
      rw [if_neg cs] at hst
      refine ⟨S, q1, q2, ?_, fun h => ?_⟩
      · unfold f_MO_entersRow_40
        rw [if_neg c6, nI_clamp (n := t) (by omega), f8, qw_6, nI_add, hst.2, if_pos rfl]
        by_cases cw : nI (q_w A t) ≤ nI j
        · rw [if_pos cw]; exact z.1
        · rw [if_neg cw]; exact z.1
      · unfold p_MO_entersRow_40
        rw [nI_clamp (n := t) (by omega), f8, qw_6, nI_add, hst.2]
        exact ⟨fun q => absurd q c6, fun _ => ⟨v4, fun _ => z.2 h, fun _ => ⟨hst.1, fun _ => z.2 h, fun q => absurd rfl q⟩⟩⟩
theorem qm_enter {s A R U : am_M} (md : q_md s A) (w : q_wd A) (e : q_we A R) (mb : q_mb s R) (um : q_um s U) (uw : q_uw U) {t m x2 off N f : Nat} {x4 : Int32} {v : Nat → Int32} (ht : t < q_nt A) (hm : m < 30) (em : q_c (R 0 t) = m) (hx : x2 < 263 ∧ gh_sh x2 = (1, 0, N)) (hx2 : 230 < x2) (hx3 : x2 ≠ 233 ∧ x2 ≠ 234 ∧ x2 ≠ 235) (ho : off + 6 ≤ N) (hN : N < 20000) (hf : 1 ≤ f) (hf2 : f < 100001) (hvs : q_vs A t v) (hv : ∀ c, c < 6 → v c = if q_sto A (6 * t + c) then (if nI c = x4 then s 207 29 else s x2 (off + c)) else -1000000) : p_MO_entersRow s (nI t) x2 (nI off) x4 ∧ ∃ T, f_MO_entersRow s (nI t) x2 (nI off) x4 = ((if q_good (q_brk A U (q_reck A (q_ent R t m (nI f) v))) = 0 then (-1 : Int32) else nI m), T) ∧ q_out s T (fun a b => (a = 207 ∧ (b = 15 ∨ (31 ≤ b ∧ b ≤ 34))) ∨ (220 ≤ a ∧ a ≤ 221) ∨ (228 ≤ a ∧ a ≤ 230) ∨ (a = 233 ∧ 4320 ≤ b) ∨ (a = 234 ∧ 720 ≤ b) ∨ (a = 235 ∧ 24 ≤ b)) ∧ q_mb T (q_pick (q_brk A U (q_reck A (q_ent R t m (nI f) v))) (q_reck A (q_ent R t m (nI f) v)) R) ∧ q_fd T 207 31 (q_brk A U (q_reck A (q_ent R t m (nI f) v))) := by
  have ht4 : t < 4 := by have := w.1.2; omega
  have e0 := e.1 t ht4
  obtain ⟨p1, S, s1, s2, s3⟩ := qm_saves (l := 6) (by omega) mb
  have e6 : nI 6 = (6 : Int32) := rfl
  rw [e6] at p1 s1
  have f28 : s 228 t = nI m := by rw [mb.1 t ht4, e0.1, em]
  have S28 : S 228 t = nI m := by rw [s2 _ _ (by omega)]; exact f28
  generalize hW : am_set (am_set S 228 t (nI (m + 1))) 229 (30 * t + m) 1 = W
  have oW : q_out S W (fun a b => (a = 228 ∧ b = t) ∨ (a = 229 ∧ b = 30 * t + m)) := fun a b hab => by rw [← hW, am_set_p (by omega), am_set_p (by omega)]
  have oW2 : q_out s W (fun a b => (228 ≤ a ∧ a ≤ 229) ∨ (a = 233 ∧ 4320 ≤ b) ∨ (a = 234 ∧ 720 ≤ b) ∨ (a = 235 ∧ 24 ≤ b)) := fun a b hab => by rw [oW a b (by omega), s2 a b (by omega)]
  obtain ⟨V, v1, v2, v3, v4⟩ := qm_e40 w (x2 := x2) (off := off) (x4 := x4) (v := v) ht ht4 hm hx hx2 ho hN 6 0 am_F W (by omega) (by rw [am_F_eq]; omega) (q_md_out oW2 (fun a b q => by omega) md) (fun c hc => by
    rw [oW2 207 29 (by omega), oW2 x2 (off + c) (by omega)]; exact hv c hc)
  rw [nI_0] at v3 v4
  have oV : q_out s V (fun a b => (228 ≤ a ∧ a ≤ 230) ∨ (a = 233 ∧ 4320 ≤ b) ∨ (a = 234 ∧ 720 ≤ b) ∨ (a = 235 ∧ 24 ≤ b)) := fun a b hab => by rw [v1 a b (by omega), oW2 a b (by omega)]
  have mbV : q_mb V (q_ent R t m (nI f) v) := by
    refine ⟨fun u hu => ?_, fun p hp => ?_, fun y hy hh => ?_⟩
    · rw [v1 _ _ (by omega), q_ent_0, ← hW, am_set_o (by omega)]
      by_cases q : u = t
      · rw [q, am_set_q, if_pos rfl]
      · rw [am_set_p (Or.inr q), s2 _ _ (by omega), if_neg q]; exact mb.1 u hu
    · rw [v1 _ _ (by omega), q_ent_1, ← hW]
      by_cases q : p = 30 * t + m
      · rw [q, am_set_q, if_pos rfl, if_neg (nI_ne0 (by omega) (by omega))]
      · rw [am_set_p (Or.inr q), am_set_p (by omega), s2 _ _ (by omega), if_neg q]; exact mb.2.1 p hp
    · rw [q_ent_1] at hh
      rw [q_ent_2]
      by_cases q : y / 6 = 30 * t + m
      · rw [if_pos q]
        have := v2 (y % 6) (by omega) (Nat.mod_lt _ (by omega))
        rw [show 180 * t + 6 * m + y % 6 = y from by omega] at this
        exact this
      · rw [if_neg q] at hh ⊢
        rw [v1 _ _ (by omega), oW _ _ (by omega), s2 _ _ (by omega)]
        exact mb.2.2 y hy hh
  have mhV : q_mh V 6 R := by
    refine q_mh_out (P := fun a _ => a = 228 ∨ a = 229 ∨ a = 230) (fun a b hab => by rw [v1 a b (by omega), oW a b (by omega)]) (fun a b q => by omega) s3
  obtain ⟨p2, T, t1, t2, t3, t4⟩ := qm_isKept (q_md_out oV (fun a b q => by omega) md) w (q_ent_we e ht ht4 hm em hvs) mbV (q_um_out oV (fun a b q => by omega) um) uw mhV
  unfold p_MO_entersRow f_MO_entersRow
  rw [s1, nI_clamp (n := t) (by omega), f28, S28, nI_1, qw_30, nI_add, nI_clamp (n := 30 * t + m) (by omega), hW, v3, t1]
  dsimp only
  refine ⟨⟨vp_in_nI ht4 (by omega), p1, vp_in_nI ht4 (by omega), vp_in_nI ht4 (by omega), vp_in_nI (by omega) (by omega), v4 p2⟩, T, ?_, fun a b hab => by rw [t2 a b (by omega), oV a b (by omega)], t3, t4⟩
  by_cases q : q_good (q_brk A U (q_reck A (q_ent R t m (nI f) v))) = 0
  · rw [if_pos q, if_pos q]
  · rw [if_neg q, if_neg q]
theorem qc_tellE {s : am_M} {l : List q_It} {m : Nat} (hm : m < 30) (h : q_fd s 16 0 l) : p_CB_tellEntry s (if q_good l = 0 then (-1 : Int32) else nI m) ∧ ∃ t, f_CB_tellEntry s (if q_good l = 0 then (-1 : Int32) else nI m) = ((if q_good l = 0 then (-1 : Int32) else nI m), t) ∧ q_out s t (fun a b => a = 123 ∨ (a = 0 ∧ b = 7) ∨ a = 124) ∧ q_fd t 123 0 l ∧ t 0 7 = (if q_good l = 0 then s 0 7 else 0) ∧ (∀ k, k < 6 → t 124 k = if q_good l = 0 then s 124 k else -1000000) := by
  obtain ⟨p1, S, s1, s2, s3, s4⟩ := qc_tell h
  unfold p_CB_tellEntry f_CB_tellEntry
  rcases q_good_c l with ⟨-, g2, -⟩ | ⟨-, g2, -⟩
  · rw [g2] at p1 s1 s4 ⊢
    have hf := pq_fill0 (s := S) (a := 124) (N := 6) (v := -1000000) (by omega) sh_124 (by omega)
    rw [if_neg i10, if_neg (qz (by omega)), s1]
    dsimp only
    rw [if_neg i10, if_neg i10, hf.2]
    refine ⟨⟨fun q => absurd q (qz (by omega)), fun _ => ⟨p1, fun q => absurd q i10, fun _ => ⟨hf.1, trivial⟩⟩⟩, _, rfl, fun a b hab => by rw [pq_blk_p (by omega), s2 a b (by omega)], ?_, ?_, fun k hk => ?_⟩
    · exact q_fd_out (P := fun a _ => a = 124) (fun a b hab => pq_blk_p (by omega)) (fun i j q => by omega) s3
    · rw [pq_blk_p (by omega), s4, if_neg i10]
    · rw [if_neg i10]; exact pq_blk_q (by omega) hk
  · rw [g2] at p1 s1 s4 ⊢
    rw [if_pos rfl, if_pos (by decide), s1]
    dsimp only
    rw [if_pos rfl]
    exact ⟨⟨fun _ => ⟨p1, fun _ => trivial, fun q => absurd rfl q⟩, fun q => absurd (show (-1 : Int32) < 0 by decide) q⟩, S, rfl, q_out_w s2 (fun a b q => by omega), s3, s4, fun k hk => by rw [if_pos rfl, s2 _ _ (by omega)]⟩
theorem qm_draft {s A R U : am_M} (md : q_md s A) (w : q_wd A) (e : q_we A R) (mb : q_mb s R) (um : q_um s U) (uw : q_uw U) {t m f : Nat} {x4 : Int32} {v : Nat → Int32} (ht : t < q_nt A) (hm : m < 30) (em : q_c (R 0 t) = m) (hf : 1 ≤ f) (hf2 : f < 100001) (hvs : q_vs A t v) (hv : ∀ c, c < 6 → v c = if q_sto A (6 * t + c) then (if nI c = x4 then s 207 29 else s 231 c) else -1000000) : p_MO_entersDraft s (nI t) x4 ∧ ∃ T, f_MO_entersDraft s (nI t) x4 = ((if q_good (q_brk A U (q_reck A (q_ent R t m (nI f) v))) = 0 then (-1 : Int32) else nI m), T) ∧ q_out s T (fun a b => q_PM a b ∨ a = 231) ∧ q_mb T (q_pick (q_brk A U (q_reck A (q_ent R t m (nI f) v))) (q_reck A (q_ent R t m (nI f) v)) R) ∧ q_fd T 207 31 (q_brk A U (q_reck A (q_ent R t m (nI f) v))) ∧ T 207 38 = (if q_good (q_brk A U (q_reck A (q_ent R t m (nI f) v))) = 0 then s 207 38 else 0) ∧ (∀ k, k < 6 → T 231 k = if q_good (q_brk A U (q_reck A (q_ent R t m (nI f) v))) = 0 then s 231 k else -1000000) ∧ q_md T A := by
  obtain ⟨p1, S, s1, s2, s3, s4⟩ := qm_enter md w e mb um uw (x2 := 231) (off := 0) (N := 6) (x4 := x4) ht hm em ⟨by omega, by decide +kernel⟩ (by omega) (by omega) (by omega) (by omega) hf hf2 hvs (fun c hc => by rw [Nat.zero_add]; exact hv c hc)
  rw [nI_0] at p1 s1
  obtain ⟨p2, T, t1, t2, t3⟩ := @qm_chg S (q_brk A U (q_reck A (q_ent R t m (nI f) v)))
  generalize q_brk A U (q_reck A (q_ent R t m (nI f) v)) = B at *
  unfold p_MO_entersDraft f_MO_entersDraft
  rw [s1]
  dsimp only
  have nm : ¬ nI m = -1 := fun q => by
    have := congrArg Int32.toInt q
    rw [nI_toInt (by omega)] at this
    have e1 : (-1 : Int32).toInt = -1 := by decide
    omega
  have oT : q_out s T q_PM := fun a b hab => by
    unfold q_PM at hab
    rw [t2 a b (by omega), s2 a b (by omega)]
  rcases q_good_c B with ⟨-, g2, g3⟩ | ⟨-, g2, g3⟩
  · rw [g2] at p2 t1 t3 ⊢
    rw [g3] at s3 ⊢
    rw [if_neg i10, if_neg nm, t1]
    dsimp only
    rw [if_neg i10, if_neg i10]
    have hM := pq_clearM 6 0 am_F T 0 (by omega) (by rw [am_F_eq]; omega)
    rw [nI_0] at hM
    have hE : f_MO_empties T = (0 + pq_cnt (T 231) 0 6, pq_blk T 231 0 6 (-1000000)) := hM.2
    rw [hE]
    dsimp only
    refine ⟨⟨p1, fun q => absurd q nm, fun _ => ⟨p2, fun q => absurd q i10, fun _ => ⟨hM.1, trivial⟩⟩⟩, _, rfl, fun a b hab => ?_, ?_, ?_, ?_, fun k hk => ?_, ?_⟩
    · rw [pq_blk_p (by omega), oT a b (fun q => hab (Or.inl q))]
    · exact q_mb_out (P := fun a b => a = 231 ∨ (a = 207 ∧ b = 38)) (fun a b hab => by rw [pq_blk_p (by omega), t2 a b (by omega)]) (fun a b q => by omega) s3
    · exact q_fd_out (P := fun a b => a = 231 ∨ (a = 207 ∧ b = 38)) (fun a b hab => by rw [pq_blk_p (by omega), t2 a b (by omega)]) (fun i j q => by omega) s4
    · rw [pq_blk_p (by omega), t3, if_neg i10]
    · rw [if_neg i10]; exact pq_blk_q (by omega) hk
    · exact q_md_out (P := fun a b => a = 231 ∨ (a = 207 ∧ b = 38)) (fun a b hab => by rw [pq_blk_p (by omega), t2 a b (by omega)]) (fun a b q => by omega) (q_md_out s2 (fun a b q => by omega) md)
  · rw [g2] at p2 t1 t3 ⊢
    rw [g3] at s3 ⊢
    rw [if_pos rfl, if_pos rfl, t1]
    dsimp only
    rw [if_pos rfl]
    refine ⟨⟨p1, fun _ => ⟨p2, fun _ => trivial, fun q => absurd rfl q⟩, fun q => absurd rfl q⟩, T, rfl, q_out_w oT (fun a b q => Or.inl q), q_mb_out t2 (fun a b q => by omega) s3, q_fd_out t2 (fun i j q => by omega) s4, ?_, fun k hk => ?_, q_md_out t2 (fun a b q => by omega) (q_md_out s2 (fun a b q => by omega) md)⟩
    · rw [t3, if_pos rfl, if_pos rfl, s2 _ _ (by omega)]
    · rw [if_pos rfl, t2 _ _ (by omega), s2 _ _ (by omega)]
end
