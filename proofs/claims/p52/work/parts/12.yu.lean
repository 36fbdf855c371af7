noncomputable section
-- a row is entered
def q_ent (R : am_M) (t m : Nat) (se : Int32) (v : Nat → Int32) : am_M := fun a b => if a = 0 ∧ b = t then nI (m + 1) else if a = 1 ∧ b = 30 * t + m then se else if a = 2 ∧ b / 6 = 30 * t + m then v (b % 6) else R a b
theorem q_ent_0 {R : am_M} {t m u : Nat} {se : Int32} {v : Nat → Int32} : q_ent R t m se v 0 u = if u = t then nI (m + 1) else R 0 u := by
  unfold q_ent
  by_cases e : u = t
  · rw [if_pos ⟨rfl, e⟩, if_pos e]
  · rw [if_neg (fun q => e q.2), if_neg (by omega), if_neg (by omega), if_neg e]
theorem q_ent_1 {R : am_M} {t m p : Nat} {se : Int32} {v : Nat → Int32} : q_ent R t m se v 1 p = if p = 30 * t + m then se else R 1 p := by
  unfold q_ent
  by_cases e : p = 30 * t + m
  · rw [if_neg (by omega), if_pos ⟨rfl, e⟩, if_pos e]
  · rw [if_neg (by omega), if_neg (fun q => e q.2), if_neg (by omega), if_neg e]
theorem q_ent_2 {R : am_M} {t m y : Nat} {se : Int32} {v : Nat → Int32} : q_ent R t m se v 2 y = if y / 6 = 30 * t + m then v (y % 6) else R 2 y := by
  unfold q_ent
  by_cases e : y / 6 = 30 * t + m
  · rw [if_neg (by omega), if_neg (by omega), if_pos ⟨rfl, e⟩, if_pos e]
  · rw [if_neg (by omega), if_neg (by omega), if_neg (fun q => e q.2), if_neg e]
abbrev q_sto (A : am_M) (k : Nat) : Prop := A 209 k = 0 ∨ A 209 k = 1
/-- the cells of a new row: what is entered, BLANK where nothing is stored -/
def q_vs (A : am_M) (t : Nat) (v : Nat → Int32) : Prop := ∀ c, c < 6 → q_v (v c) ∧ (¬ q_sto A (6 * t + c) → v c = -1000000)
theorem q_ent_we {A R : am_M} {t m f : Nat} {v : Nat → Int32} (e : q_we A R) (ht : t < q_nt A) (ht4 : t < 4) (hm : m < 30) (em : q_c (R 0 t) = m) (hv : q_vs A t v) : q_we A (q_ent R t m (nI f) v) := by
  obtain ⟨e1, e2, e3⟩ := e
  refine ⟨fun u hu => ?_, fun p hp hh => ?_, fun y hy hh => ?_⟩
  · rw [q_ent_0]
    by_cases q : u = t
    · have e9 : q_c (nI (m + 1)) = m + 1 := nI_clamp (by omega)
      rw [if_pos q, e9]
      exact ⟨rfl, by omega, fun z => by omega⟩
    · rw [if_neg q]; exact e1 u hu
  · rw [q_ent_1] at hh
    rw [q_ent_0]
    by_cases q : p = 30 * t + m
    · have e9 : q_c (nI (m + 1)) = m + 1 := nI_clamp (by omega)
      rw [if_pos (by omega), e9]; omega
    · rw [if_neg q] at hh
      have h := e2 p hp hh
      by_cases z : p / 30 = t
      · have e9 : q_c (nI (m + 1)) = m + 1 := nI_clamp (by omega)
        rw [if_pos z, e9]; rw [z, em] at h; omega
      · rw [if_neg z]; exact h
  · rw [q_ent_1] at hh
    rw [q_ent_2]
    by_cases q : y / 6 = 30 * t + m
    · rw [if_pos q]; exact (hv (y % 6) (Nat.mod_lt _ (by omega))).1
    · rw [if_neg q] at hh ⊢; exact e3 y hy hh
theorem q_ent_wr {A R U : am_M} {t m f : Nat} {v : Nat → Int32} (w : q_wd A) (h : q_wr A R) (ht : t < q_nt A) (ht4 : t < 4) (hm : m < 30) (em : q_c (R 0 t) = m) (hv : q_vs A t v) (hg : q_brk A U (q_reck A (q_ent R t m (nI f) v)) = []) : q_wr A (q_reck A (q_ent R t m (nI f) v)) := by
  refine q_wr_good (U := U) w (q_ent_we h.we ht ht4 hm em hv) (fun p c hp hc hh hk => ?_) hg
  rw [q_ent_1] at hh
  rw [q_ent_2]
  by_cases q : p = 30 * t + m
  · rw [if_pos (by omega), show (6 * p + c) % 6 = c from by omega]
    refine (hv c hc).2 (fun z => ?_)
    have e1 : 6 * (p / 30) + c = 6 * t + c := by omega
    rw [e1] at hk
    rcases hk with k | k <;> rw [q_sto, k] at z <;> exact absurd z (by decide)
  · rw [if_neg q] at hh
    rw [if_neg (by omega)]
    exact h.2.2.2.1 p c hp hc hh hk
/-- the cells of the new row, the class -/
theorem qc_e44 {A : am_M} (w : q_wd A) {t m xd : Nat} {x3 x4 : Int32} {v : Nat → Int32} (ht4 : t < 4) (hm : m < 30) (hd : xd < 207 ∧ am_sh xd = (1, 0, 6)) (hd2 : 100 < xd) : ∀ (d j n : Nat) (s : am_M), j + d = 6 → d < n → q_cd s A → (∀ c, c < 6 → v c = if q_sto A (6 * t + c) then (if nI c = x3 then x4 else s xd c) else -1000000) → ∃ S, q_out s S (fun a b => a = 11 ∧ b / 6 = 30 * t + m ∧ j ≤ b % 6) ∧ (∀ c, j ≤ c → c < 6 → S 11 (180 * t + 6 * m + c) = v c) ∧ f_BA_enterRow_44 n s xd (nI t) x3 x4 (nI m) (nI j) = (if (f_BA_settle S).1 = 0 then ((-1 : Int32), (f_BA_settle S).2) else (nI m, (f_BA_settle S).2)) ∧ (p_BA_settle S → p_BA_enterRow_44 n s xd (nI t) x3 x4 (nI m) (nI j)) := by
  intro d
  induction d with
  | zero =>
    intro j n s h1 h2 cd hv
    obtain ⟨n, rfl⟩ : ∃ k, n = k + 1 := ⟨n - 1, by omega⟩
    have c6 : (6 : Int32) ≤ nI j := qg_6 (by omega) (by omega)
    refine ⟨s, fun _ _ _ => rfl, fun c k1 k2 => absurd k2 (by omega), ?_, fun h => ?_⟩
    · unfold f_BA_enterRow_44; rw [if_pos c6]
    · unfold p_BA_enterRow_44; exact ⟨fun _ => ⟨h, fun _ => trivial, fun _ => trivial⟩, fun q => absurd c6 q⟩
  | succ d ih =>
    intro j n s h1 h2 cd hv
    obtain ⟨n, rfl⟩ : ∃ k, n = k + 1 := ⟨n - 1, by omega⟩
    have hj : j < 6 := by omega
    have c6 : ¬ (6 : Int32) ≤ nI j := ql_6 hj
    have hof : ¬ Int32.ofNat (am_sh xd).2.2 ≤ nI j := by rw [hd.2]; exact c6
    have st := fun y => qr_set s ht4 hm hj y
    have hk : 6 * t + j < 24 := by omega
    have hst : f_CO_isStored s (f_BA_column s (nI t) (nI j)) = if q_sto A (6 * t + j) then 1 else 0 := by
      unfold f_CO_isStored
      rw [qd_col ht4 hj, cd.2.2.1 _ hk]
      by_cases c0 : A 209 (6 * t + j) = 0
      · rw [if_pos (q_kc_1.mpr c0), if_pos (Or.inl c0)]
      · rw [if_neg (fun q => c0 (q_kc_1.mp q))]
        by_cases c1 : A 209 (6 * t + j) = 1
        · rw [if_pos (q_kc_2.mpr c1), if_pos (Or.inr c1)]
        · rw [if_neg (fun q => c1 (q_kc_2.mp q)), if_neg (fun q => q.elim c0 c1)]
    obtain ⟨S, s1, s2, s3, s4⟩ := ih (j + 1) n (am_set s 11 (180 * t + 6 * m + j) (v j)) (by omega) (by omega) (q_cd_set (by omega) cd) (fun c hc => by rw [am_set_o (by omega)]; exact hv c hc)
    have q1 : q_out s S (fun a b => a = 11 ∧ b / 6 = 30 * t + m ∧ j ≤ b % 6) := fun a b hab => by rw [s1 a b (by omega), am_set_p (by omega)]
    have q2 : ∀ c, j ≤ c → c < 6 → S 11 (180 * t + 6 * m + c) = v c := fun c k1 k2 => by
      by_cases e : c = j
      · rw [e, s1 _ _ (by omega), am_set_q]
      · exact s2 c (by omega) k2
    refine ⟨S, q1, q2, ?_, fun h => ?_⟩
    · unfold f_BA_enterRow_44 f_BA_enterRow_104
      rw [if_neg c6, if_neg hof, hst, nI_1]
      have hvj := hv j hj
      by_cases cs : q_sto A (6 * t + j)
      · rw [if_pos cs] at hvj
        rw [if_pos cs, if_neg i10]
        by_cases c3 : nI j = x3
        · rw [if_pos c3] at hvj
          rw [if_pos c3, (st x4).2]; rw [hvj] at s3; exact s3
        · rw [if_neg c3] at hvj
          rw [if_neg c3, nI_clamp (n := j) (by omega), (st _).2, ← hvj]; exact s3
      · rw [if_neg cs] at hvj
        rw [if_neg cs, if_pos rfl, (st _).2, ← hvj]; exact s3
    · have s4 := s4 h
      unfold p_BA_enterRow_44 p_BA_enterRow_104
      rw [hst, nI_1, hd.2]
      have hvj := hv j hj
      refine ⟨fun q => absurd q c6, fun _ => ⟨⟨hd.1, rfl⟩, fun q => absurd q c6, fun _ => ⟨qd_pcol _ _ _, qd_pstored _ _ _, qd_ref _ _ _, fun z => ⟨qr_pset _ _ _ _ _, ?_⟩, fun z => ⟨fun z2 => ⟨qr_pset _ _ _ _ _, ?_⟩, fun z2 => ⟨(vp_in_nI hj (by decide) : vp_in (nI j) 6), qr_pset _ _ _ _ _, ?_⟩⟩⟩⟩⟩
      · by_cases cs : q_sto A (6 * t + j)
        · rw [if_pos cs] at z; exact absurd z i10
        · rw [if_neg cs] at hvj
          rw [(st _).2, ← hvj]; exact s4
      · by_cases cs : q_sto A (6 * t + j)
        · rw [if_pos cs, if_pos z2] at hvj
          rw [(st _).2]; rw [hvj] at s4; exact s4
        · rw [if_neg cs] at z; exact absurd rfl z
      · by_cases cs : q_sto A (6 * t + j)
        · rw [if_pos cs, if_neg z2] at hvj
          rw [nI_clamp (n := j) (by omega), (st _).2, ← hvj]; exact s4
        · rw [if_neg cs] at z; exact absurd rfl z
theorem q_full (s : am_M) {R : am_M} (cb : q_cb s 9 10 11 R) {t : Nat} (ht : t < 4) (e : R 0 t = nI (q_c (R 0 t)) ∧ q_c (R 0 t) ≤ 30) : p_RO_isFull s 8 (nI t) ∧ f_RO_isFull s 8 (nI t) = if q_c (R 0 t) < 30 then 0 else 1 := by
  unfold p_RO_isFull f_RO_isFull
  rw [qr_made cb ht]
  refine ⟨⟨qr_pmade _ _, ⟨by omega, sh_8⟩, fun _ => trivial, fun _ => trivial⟩, ?_⟩
  rw [e.1]
  have e9 : q_c (nI (q_c (R 0 t))) = q_c (R 0 t) := nI_clamp (by omega)
  rw [e9]
  by_cases c : q_c (R 0 t) < 30
  · rw [if_pos (qt_30 c), if_pos c]
  · rw [if_neg (qu_30 (by omega) (by omega)), if_neg c]
/-- a row is entered, the class -/
theorem qc_enter {s A R U : am_M} (cd : q_cd s A) (oc : q_oc s A) (w : q_wd A) (e : q_we A R) (cb : q_cb s 9 10 11 R) (uc : q_uc s U) (uw : q_uw U) {t m xd L : Nat} {x3 x4 : Int32} {v : Nat → Int32} (ht : t < q_nt A) (hm : m < 30) (em : q_c (R 0 t) = m) (hd : xd < 207 ∧ am_sh xd = (1, 0, 6)) (hd2 : 100 < xd) (hL : s 1 12 = nI L) (hL1 : L < 100000) (hvs : q_vs A t v) (hv : ∀ c, c < 6 → v c = if q_sto A (6 * t + c) then (if nI c = x3 then x4 else s xd c) else -1000000) : p_BA_enterRow s (nI t) xd x3 x4 ∧ ∃ T, f_BA_enterRow s (nI t) xd x3 x4 = ((if q_good (q_brk A U (q_reck A (q_ent R t m (nI (L + 1)) v))) = 0 then (-1 : Int32) else nI m), T) ∧ q_out s T (fun a b => (9 ≤ a ∧ a ≤ 11) ∨ (13 ≤ a ∧ a ≤ 16) ∨ a = 19 ∨ (a = 1 ∧ b = 12)) ∧ q_cb T 9 10 11 (q_pick (q_brk A U (q_reck A (q_ent R t m (nI (L + 1)) v))) (q_reck A (q_ent R t m (nI (L + 1)) v)) R) ∧ q_fd T 16 0 (q_brk A U (q_reck A (q_ent R t m (nI (L + 1)) v))) ∧ T 1 12 = nI (L + 1) := by
  have ht4 : t < 4 := by have := w.1.2; omega
  have e0 := e.1 t ht4
  obtain ⟨p1, S, s1, s2, s3⟩ := qk_keep cb
  have hfull := q_full s cb ht4 ⟨e0.1, e0.2.1⟩
  rw [em, if_pos hm] at hfull
  have hS12 : S 1 12 = nI L := by rw [s2 _ _ (by omega)]; exact hL
  -- the place is made
  have cbS := q_cb_set (i := 1) (k := 12) (x := nI (L + 1)) (by omega) (q_cb_out s2 (fun a b q => by omega) cb)
  have hmd : f_RO_madeIn (am_set S 1 12 (nI (L + 1))) 8 (nI t) = nI m := by rw [qr_made cbS ht4, e0.1, em]
  have hmk : p_RO_make (am_set S 1 12 (nI (L + 1))) 8 (nI t) (nI (L + 1)) ∧ f_RO_make (am_set S 1 12 (nI (L + 1))) 8 (nI t) (nI (L + 1)) = (nI m, am_set (am_set (am_set S 1 12 (nI (L + 1))) 9 t (nI (m + 1))) 10 (30 * t + m) (nI (L + 1))) := by
    unfold p_RO_make f_RO_make
    rw [hmd, if_neg (qz (by omega)), if_neg (ql_4 ht4), if_neg (ql_30 hm), lk_8_0, lk_8_1, nI_clamp (n := t) (by omega), qm_30, nI_add, nI_clamp (n := t * 30 + m) (by omega), nI_1, show t * 30 + m = 30 * t + m from by omega]
    exact ⟨⟨qr_pmade _ _, ⟨by omega, sh_8⟩, fun _ => trivial, fun _ => ⟨fun _ => trivial, fun _ => ⟨fun _ => trivial, fun _ => ⟨⟨by omega, sh_9⟩, vp_in_nI ht4 (by omega), ⟨by omega, sh_10⟩, vp_in_nI (by omega) (by omega), trivial⟩⟩⟩⟩, rfl⟩
  generalize hW : am_set (am_set (am_set S 1 12 (nI (L + 1))) 9 t (nI (m + 1))) 10 (30 * t + m) (nI (L + 1)) = W at hmk
  have oW : q_out s W (fun a b => (a = 9 ∧ b = t) ∨ (a = 10 ∧ b = 30 * t + m) ∨ (13 ≤ a ∧ a ≤ 15) ∨ (a = 1 ∧ b = 12)) := fun a b hab => by
    rw [← hW, am_set_p (by omega), am_set_p (by omega), am_set_p (by omega), s2 a b (by omega)]
  obtain ⟨V, v1, v2, v3, v4⟩ := qc_e44 w (xd := xd) (x3 := x3) (x4 := x4) (v := v) ht4 hm hd hd2 6 0 am_F W (by omega) (by rw [am_F_eq]; omega) (q_cd_out oW (fun a b q => by omega) cd) (fun c hc => by
    rw [oW xd c (by omega)]; exact hv c hc)
  rw [nI_0] at v3 v4
  have oV : q_out s V (fun a b => (9 ≤ a ∧ a ≤ 11) ∨ (13 ≤ a ∧ a ≤ 15) ∨ (a = 1 ∧ b = 12)) := fun a b hab => by rw [v1 a b (by omega), oW a b (by omega)]
  have cbV : q_cb V 9 10 11 (q_ent R t m (nI (L + 1)) v) := by
    refine ⟨fun u hu => ?_, fun p hp => ?_, fun y hy hh => ?_⟩
    · rw [v1 _ _ (by omega), q_ent_0, ← hW, am_set_o (by omega)]
      by_cases q : u = t
      · rw [q, am_set_q, if_pos rfl]
      · rw [am_set_p (Or.inr q), am_set_p (by omega), s2 _ _ (by omega), if_neg q]; exact cb.1 u hu
    · rw [v1 _ _ (by omega), q_ent_1, ← hW]
      by_cases q : p = 30 * t + m
      · rw [q, am_set_q, if_pos rfl]
      · rw [am_set_p (Or.inr q), am_set_p (by omega), am_set_p (by omega), s2 _ _ (by omega), if_neg q]; exact cb.2.1 p hp
    · rw [q_ent_1] at hh
      rw [q_ent_2]
      by_cases q : y / 6 = 30 * t + m
      · rw [if_pos q]
        have := v2 (y % 6) (by omega) (Nat.mod_lt _ (by omega))
        rw [show 180 * t + 6 * m + y % 6 = y from by omega] at this
        exact this
      · rw [if_neg q] at hh ⊢
        rw [v1 _ _ (by omega), ← hW, am_set_p (by omega), am_set_p (by omega), am_set_p (by omega), s2 _ _ (by omega)]
        exact cb.2.2 y hy hh
  have oSV : q_out S V (fun a b => (9 ≤ a ∧ a ≤ 11) ∨ (a = 1 ∧ b = 12)) := fun a b hab => by rw [v1 a b (by omega), ← hW, am_set_p (by omega), am_set_p (by omega), am_set_p (by omega)]
  obtain ⟨p2, T, t1, t2, t3, t4⟩ := qs_settle (q_cd_out oV (fun a b q => by omega) cd) (q_oc_out oV (fun a b q => by omega) oc) w (q_ent_we e ht ht4 hm em hvs) cbV (q_uc_out oV (fun a b q => by omega) uc) uw (q_cb_out2 oSV (fun a b q => by omega) s3)
  unfold p_BA_enterRow f_BA_enterRow
  rw [hfull.2, if_pos rfl, s1, hS12, nI_1]
  have e12 : am_set S 1 12 (nI (L + 1)) 1 12 = nI (L + 1) := am_set_q
  rw [e12, hmk.2]
  dsimp only
  rw [v3, t1]
  dsimp only
  refine ⟨⟨hfull.1, fun _ => ⟨p1, hmk.1, v4 p2⟩, fun q => absurd rfl q⟩, T, ?_, fun a b hab => by rw [t2 a b (by omega), oV a b (by omega)], t3, t4, ?_⟩
  · by_cases q : q_good (q_brk A U (q_reck A (q_ent R t m (nI (L + 1)) v))) = 0
    · rw [if_pos q, if_pos q]
    · rw [if_neg q, if_neg q]
  · rw [t2 _ _ (by omega), v1 _ _ (by omega), ← hW, am_set_p (by omega), am_set_p (by omega)]; exact am_set_q
end
