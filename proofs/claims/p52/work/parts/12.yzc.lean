noncomputable section
-- choice
def q_cx (P : Nat → Prop) [DecidablePred P] : Nat → Nat → Int32
  | 0, _ => -1
  | d + 1, j => if P j then nI j else q_cx P d (j + 1)
theorem q_cx_n {P : Nat → Prop} [DecidablePred P] : ∀ (d j : Nat), (∀ i, j ≤ i → i < j + d → ¬ P i) → q_cx P d j = -1 := by
  intro d
  induction d with
  | zero => intro j _; rfl
  | succ d ih =>
    intro j h
    unfold q_cx
    rw [if_neg (h j (by omega) (by omega)), ih (j + 1) (fun i h1 h2 => h i (by omega) (by omega))]
theorem q_cx_a {P : Nat → Prop} [DecidablePred P] {e : Nat} : ∀ (d j : Nat), (∀ i, j + d ≤ i → i < j + d + e → ¬ P i) → q_cx P (d + e) j = q_cx P d j := by
  intro d
  induction d with
  | zero => intro j h; rw [Nat.zero_add]; exact q_cx_n e j (fun i h1 h2 => h i (by omega) (by omega))
  | succ d ih =>
    intro j h
    rw [show d + 1 + e = (d + e) + 1 from by omega]
    show (if P j then nI j else q_cx P (d + e) (j + 1)) = if P j then nI j else q_cx P d (j + 1)
    rw [ih (j + 1) (fun i h1 h2 => h i (by omega) (by omega))]
abbrev q_cP (A U R : am_M) (g x j : Nat) : Prop := R 1 (30 * g + j) ≠ 0 ∧ ¬ q_good (q_brk A U (q_reck A (q_put R x (nI j)))) = 0
theorem q_v_30 {j : Nat} (h : j < 30) : q_v (nI j) := by
  unfold q_v
  have : j = 0 ∨ j = 1 ∨ j = 2 ∨ j = 3 ∨ j = 4 ∨ j = 5 ∨ j = 6 ∨ j = 7 ∨ j = 8 ∨ j = 9 ∨ j = 10 ∨ j = 11 ∨ j = 12 ∨ j = 13 ∨ j = 14 ∨ j = 15 ∨ j = 16 ∨ j = 17 ∨ j = 18 ∨ j = 19 ∨ j = 20 ∨ j = 21 ∨ j = 22 ∨ j = 23 ∨ j = 24 ∨ j = 25 ∨ j = 26 ∨ j = 27 ∨ j = 28 ∨ j = 29 := by omega
  rcases this with rfl | rfl | rfl | rfl | rfl | rfl | rfl | rfl | rfl | rfl | rfl | rfl | rfl | rfl | rfl | rfl | rfl | rfl | rfl | rfl | rfl | rfl | rfl | rfl | rfl | rfl | rfl | rfl | rfl | rfl <;> decide
theorem qc_could {s A R U : am_M} {t r c : Nat} {v : Int32} (cd : q_cd s A) (oc : q_oc s A) (w : q_wd A) (e : q_we A R) (cb : q_cb s 9 10 11 R) (uc : q_uc s U) (uw : q_uw U) (ht : t < 4) (hr : r < 30) (hc : c < 6) (hs : A 209 (6 * t + c) = 0 ∨ A 209 (6 * t + c) = 1) (hv : q_v v) : p_BA_couldPut s (nI (10 * t + c)) (nI r) v ∧ ∃ S, f_BA_couldPut s (nI (10 * t + c)) (nI r) v = (q_good (q_brk A U (q_reck A (q_put R (180 * t + 6 * r + c) v))), S) ∧ q_out s S (fun a _ => (9 ≤ a ∧ a ≤ 11) ∨ (13 ≤ a ∧ a ≤ 16) ∨ a = 19) ∧ q_cb S 9 10 11 R := by
  obtain ⟨p1, T, t1, t2, t3, t4, t5⟩ := qc_put cd oc w e cb uc uw ht hr hc hs hv
  obtain ⟨p2, S, s1, s2, s3⟩ := qk_back t5
  unfold p_BA_couldPut f_BA_couldPut
  rw [t1]
  dsimp only
  rw [s1]
  exact ⟨⟨p1, p2, q_good_01 _, trivial⟩, S, rfl, fun a b hab => by rw [s2 a b (by omega), t2 a b hab], s3⟩
theorem qm_could {s A R U : am_M} {t r c : Nat} {v : Int32} (md : q_md s A) (w : q_wd A) (e : q_we A R) (mb : q_mb s R) (um : q_um s U) (uw : q_uw U) (ht : t < 4) (hr : r < 30) (hc : c < 6) (hv : q_v v) : p_MO_couldPut s (nI t) (nI r) (nI c) v ∧ ∃ S, f_MO_couldPut s (nI t) (nI r) (nI c) v = (q_good (q_brk A U (q_reck A (q_put R (180 * t + 6 * r + c) v))), S) ∧ q_out s S (fun a b => (a = 207 ∧ (b = 15 ∨ (31 ≤ b ∧ b ≤ 34))) ∨ (220 ≤ a ∧ a ≤ 221) ∨ (228 ≤ a ∧ a ≤ 230) ∨ (a = 233 ∧ 4320 ≤ b) ∨ (a = 234 ∧ 720 ≤ b) ∨ (a = 235 ∧ 24 ≤ b)) ∧ q_mb S R := by
  obtain ⟨p1, X, s1, s2, s3⟩ := qm_saves (l := 6) (by omega) mb
  have e6 : nI 6 = (6 : Int32) := rfl
  rw [e6] at p1 s1
  have o1 : q_out X (am_set X 230 (180 * t + 6 * r + c) v) (fun a _ => a = 230) := fun a b hab => am_set_p (by omega)
  obtain ⟨p2, T, t1, t2, -, -⟩ := qm_isWhole (q_md_out o1 (fun a b q => by omega) (q_md_out s2 (fun a b q => by omega) md)) w (q_put_we e hv) (q_put_mb (x := 180 * t + 6 * r + c) (v := v) (q_mb_out s2 (fun a b q => by omega) mb)) (q_um_out o1 (fun a b q => by omega) (q_um_out s2 (fun a b q => by omega) um)) uw
  obtain ⟨p3, S, r1, r2, r3⟩ := qm_restores (l := 6) (by omega) (q_mh_out t2 (fun a b q => by omega) (q_mh_out o1 (fun a b q => by omega) s3))
  rw [e6] at p3 r1
  unfold p_MO_couldPut f_MO_couldPut
  rw [s1, qr_at, nI_clamp (n := 180 * t + 6 * r + c) (by omega), t1]
  dsimp only
  rw [r1]
  exact ⟨⟨p1, vp_in_nI (by omega) (by omega), p2, p3, q_good_01 _, trivial⟩, S, rfl, fun a b hab => by rw [r2 a b (by omega), t2 a b (by omega), o1 a b (by omega), s2 a b (by omega)], r3⟩
theorem qc_ch {A R U : am_M} {t r c g : Nat} (w : q_wd A) (e : q_we A R) (uw : q_uw U) (ht : t < 4) (hr : r < 30) (hc : c < 6) (hg : g < 4) (hs : A 209 (6 * t + c) = 0 ∨ A 209 (6 * t + c) = 1) (x4 : Int32) : ∀ (d j n : Nat) (s : am_M), j + d = 30 → d < n → q_cd s A → q_oc s A → q_cb s 9 10 11 R → q_uc s U → p_CB_choice_49 n s (nI t) (nI r) (nI c) x4 (nI g) (nI j) ∧ ∃ S, f_CB_choice_49 n s (nI t) (nI r) (nI c) x4 (nI g) (nI j) = (0, q_cx (q_cP A U R g (180 * t + 6 * r + c)) d j, S) ∧ q_out s S (fun a _ => (9 ≤ a ∧ a ≤ 11) ∨ (13 ≤ a ∧ a ≤ 16) ∨ a = 19) ∧ q_cb S 9 10 11 R := by
  intro d
  induction d with
  | zero =>
    intro j n s hjd hn cd oc cb uc
    obtain ⟨n, rfl⟩ : ∃ m, n = m + 1 := ⟨n - 1, by omega⟩
    obtain rfl : j = 30 := by omega
    have l : (30 : Int32) ≤ nI 30 := qg_30 (by omega) (by omega)
    unfold p_CB_choice_49 f_CB_choice_49
    rw [if_pos l]
    exact ⟨⟨fun _ => trivial, fun q => absurd l q⟩, s, rfl, fun _ _ _ => rfl, cb⟩
  | succ d ih =>
    intro j n s hjd hn cd oc cb uc
    obtain ⟨n, rfl⟩ : ∃ m, n = m + 1 := ⟨n - 1, by omega⟩
    have l : ¬ (30 : Int32) ≤ nI j := ql_30 (by omega)
    have e1 : nI j + (1 : Int32) = nI (j + 1) := nI_add j 1
    have iO : (10 : Int32) * nI t + nI c = nI (10 * t + c) := by rw [qw_10, nI_add]
    have hh := qr_has cb hg (nI j)
    obtain ⟨p1, S1, s1, s2, s3⟩ := qc_could (v := nI j) cd oc w e cb uc uw ht hr hc hs (q_v_30 (by omega))
    unfold p_CB_choice_49 f_CB_choice_49 p_CB_choice_95 f_CB_choice_95
    rw [if_neg l, hh, iO, s1, e1]
    dsimp only
    have hx : q_cx (q_cP A U R g (180 * t + 6 * r + c)) (d + 1) j = if q_cP A U R g (180 * t + 6 * r + c) j then nI j else q_cx (q_cP A U R g (180 * t + 6 * r + c)) d (j + 1) := rfl
    rw [hx]
    by_cases c1 : R 1 (30 * g + j) = 0
    · have n1 : ¬ q_hs R g (nI j) := fun q => (q_hs_I (by omega)).mp q c1
      obtain ⟨i1, i2⟩ := ih (j + 1) n s (by omega) (by omega) cd oc cb uc
      rw [if_neg n1, if_pos rfl, if_neg (fun q => q.1 c1)]
      exact ⟨⟨fun q => absurd q l, fun _ => ⟨qr_phas _ _ _, fun _ => i1, fun q => absurd rfl q⟩⟩, i2⟩
    have n1 : q_hs R g (nI j) := (q_hs_I (by omega)).mpr c1
    rw [if_pos n1, if_neg i10]
    by_cases c2 : q_good (q_brk A U (q_reck A (q_put R (180 * t + 6 * r + c) (nI j)))) = 0
    · obtain ⟨i1, S, f1, f2, f3⟩ := ih (j + 1) n S1 (by omega) (by omega) (q_cd_out s2 (fun a b q => by omega) cd) (q_oc_out s2 (fun a b q => by omega) oc) s3 (q_uc_out s2 (fun a b q => by omega) uc)
      rw [if_pos c2, if_neg (fun q => q.2 c2)]
      exact ⟨⟨fun q => absurd q l, fun _ => ⟨qr_phas _ _ _, fun q => absurd q i10, fun _ => ⟨p1, fun _ => i1, fun q => absurd c2 q⟩⟩⟩, S, f1, q_out_t s2 f2, f3⟩
    · rw [if_neg c2, if_pos ⟨c1, c2⟩]
      exact ⟨⟨fun q => absurd q l, fun _ => ⟨qr_phas _ _ _, fun q => absurd q i10, fun _ => ⟨p1, fun q => absurd q c2, fun _ => trivial⟩⟩⟩, S1, rfl, s2, s3⟩
def q_td (s : am_M) (x6 x7 x8 x9 : Int32) : am_M := am_set (am_set (am_set (am_set s 207 31 x6) 207 32 x7) 207 33 x8) 207 34 x9
theorem q_td_o (s : am_M) (x6 x7 x8 x9 : Int32) : q_out s (q_td s x6 x7 x8 x9) (fun a b => a = 207 ∧ 31 ≤ b ∧ b ≤ 34) := fun a b hab => by
  unfold q_td; rw [am_set_p (by omega), am_set_p (by omega), am_set_p (by omega), am_set_p (by omega)]
theorem q_td_v (s : am_M) (x6 x7 x8 x9 : Int32) : q_td s x6 x7 x8 x9 207 31 = x6 ∧ q_td s x6 x7 x8 x9 207 32 = x7 ∧ q_td s x6 x7 x8 x9 207 33 = x8 ∧ q_td s x6 x7 x8 x9 207 34 = x9 := by
  unfold q_td
  refine ⟨?_, ?_, ?_, am_set_q⟩
  · rw [am_set_p (by omega), am_set_p (by omega), am_set_p (by omega)]; exact am_set_q
  · rw [am_set_p (by omega), am_set_p (by omega)]; exact am_set_q
  · rw [am_set_p (by omega)]; exact am_set_q
/-- the model's loop ends: what was told is told again -/
theorem qm_ch145 {s R : am_M} {g : Nat} (mb : q_mb s R) (hg : g < 4) (x1 x2 x3 x4 x5 x6 x7 x8 x9 x11 : Int32) : p_MO_choice_145 s x1 x2 x3 x4 x5 x6 x7 x8 x9 (nI g) x11 ∧ f_MO_choice_145 s x1 x2 x3 x4 x5 x6 x7 x8 x9 (nI g) x11 = ((if R 0 g ≤ x11 then -1 else x11), q_td s x6 x7 x8 x9) := by
  have e : (q_td s x6 x7 x8 x9) 228 g = R 0 g := by rw [q_td_o s x6 x7 x8 x9 _ _ (by omega)]; exact mb.1 g hg
  have hT : (f_MO_told s x6 x7 x8 x9).2 = q_td s x6 x7 x8 x9 := rfl
  unfold p_MO_choice_145 f_MO_choice_145
  rw [hT, nI_clamp (n := g) (by omega), e]
  refine ⟨⟨vp_in_nI hg (by omega), fun _ => trivial, fun _ => trivial⟩, ?_⟩
  by_cases q : R 0 g ≤ x11
  · rw [if_pos q, if_pos q]
  · rw [if_neg q, if_neg q]
theorem qm_ch0 {s R : am_M} {g : Nat} (mb : q_mb s R) (hg : g < 4) (x1 x2 x3 x4 x5 x6 x7 x8 x9 x11 : Int32) (h : R 0 g ≤ x11) (n : Nat) : p_MO_choice_104 (n + 1) s x1 x2 x3 x4 x5 x6 x7 x8 x9 (nI g) x11 ∧ f_MO_choice_104 (n + 1) s x1 x2 x3 x4 x5 x6 x7 x8 x9 (nI g) x11 = (-1, q_td s x6 x7 x8 x9) := by
  have h145 := qm_ch145 mb hg x1 x2 x3 x4 x5 x6 x7 x8 x9 x11
  rw [if_pos h] at h145
  unfold p_MO_choice_104 f_MO_choice_104
  rw [nI_clamp (n := g) (by omega), mb.1 g hg, if_pos h]
  exact ⟨⟨vp_in_nI hg (by omega), fun _ => h145.1, fun q => absurd h q⟩, h145.2⟩
theorem qm_ch {A R U : am_M} {t r c g : Nat} (w : q_wd A) (e : q_we A R) (uw : q_uw U) (ht : t < 4) (hr : r < 30) (hc : c < 6) (hg : g < q_nt A) (x4 x5 x6 x7 x8 x9 : Int32) : ∀ (d j n : Nat) (s : am_M), d = q_c (R 0 g) - j → d < n → j ≤ 30 → q_md s A → q_mb s R → q_um s U → p_MO_choice_104 n s (nI t) (nI r) (nI c) x4 x5 x6 x7 x8 x9 (nI g) (nI j) ∧ ∃ S, f_MO_choice_104 n s (nI t) (nI r) (nI c) x4 x5 x6 x7 x8 x9 (nI g) (nI j) = (q_cx (q_cP A U R g (180 * t + 6 * r + c)) d j, q_td S x6 x7 x8 x9) ∧ q_out s S (fun a b => (a = 207 ∧ (b = 15 ∨ (31 ≤ b ∧ b ≤ 34))) ∨ (220 ≤ a ∧ a ≤ 221) ∨ (228 ≤ a ∧ a ≤ 230) ∨ (a = 233 ∧ 4320 ≤ b) ∨ (a = 234 ∧ 720 ≤ b) ∨ (a = 235 ∧ 24 ≤ b)) ∧ q_mb S R := by
  have h4 := w.1.2
  have hg4 : g < 4 := by omega
  have er := e.1 g hg4
  intro d
  induction d with
  | zero =>
    intro j n s hjd hn hj md mb um
    obtain ⟨n, rfl⟩ : ∃ m, n = m + 1 := ⟨n - 1, by omega⟩
    have h0 := qm_ch0 mb hg4 (nI t) (nI r) (nI c) x4 x5 x6 x7 x8 x9 (nI j) (by rw [er.1]; exact nI_le (by omega) (by omega)) n
    exact ⟨h0.1, s, h0.2, fun _ _ _ => rfl, mb⟩
  | succ d ih =>
    intro j n s hjd hn hj md mb um
    obtain ⟨n, rfl⟩ : ∃ m, n = m + 1 := ⟨n - 1, by omega⟩
    have l : ¬ R 0 g ≤ nI j := by rw [er.1]; exact nI_ge (by omega) (by omega)
    have e1 : nI j + (1 : Int32) = nI (j + 1) := nI_add j 1
    have hR := qr_isRow md w e mb (nI g) (nI j)
    have hgI : q_isT A (nI g) = 1 := q_in_1 hg (by omega)
    have eg : q_c (nI g) = g := nI_clamp (by omega)
    have hRv : q_isR A R (nI g) (nI j) = if R 1 (30 * g + j) = 0 then 0 else 1 := by
      unfold q_isR
      rw [hgI, if_neg i10, eg]
      by_cases q : R 1 (30 * g + j) = 0
      · rw [if_pos q, if_neg (fun z => (q_hs_I (by omega)).mp z q)]
      · rw [if_neg q, if_pos ((q_hs_I (by omega)).mpr q)]
    obtain ⟨p1, S1, s1, s2, s3⟩ := qm_could (t := t) (r := r) (c := c) (v := nI j) md w e mb um uw ht hr hc (q_v_30 (by omega))
    unfold p_MO_choice_104 f_MO_choice_104 p_MO_choice_139 f_MO_choice_139
    rw [nI_clamp (n := g) (by omega), mb.1 g hg4, if_neg l, hR.2, hRv, s1, e1]
    dsimp only
    have hx : q_cx (q_cP A U R g (180 * t + 6 * r + c)) (d + 1) j = if q_cP A U R g (180 * t + 6 * r + c) j then nI j else q_cx (q_cP A U R g (180 * t + 6 * r + c)) d (j + 1) := rfl
    rw [hx]
    have vg : vp_in (nI g) 4 := vp_in_nI hg4 (by omega)
    by_cases c1 : R 1 (30 * g + j) = 0
    · obtain ⟨i1, i2⟩ := ih (j + 1) n s (by omega) (by omega) (by omega) md mb um
      rw [if_pos c1, if_pos rfl, if_neg (fun q => q.1 c1)]
      exact ⟨⟨vg, fun q => absurd q l, fun _ => ⟨hR.1, fun _ => i1, fun q => absurd rfl q⟩⟩, i2⟩
    rw [if_neg c1, if_neg i10]
    by_cases c2 : q_good (q_brk A U (q_reck A (q_put R (180 * t + 6 * r + c) (nI j)))) = 0
    · obtain ⟨i1, S, f1, f2, f3⟩ := ih (j + 1) n S1 (by omega) (by omega) (by omega) (q_md_out s2 (fun a b q => by omega) md) s3 (q_um_out s2 (fun a b q => by omega) um)
      rw [if_pos c2, if_neg (fun q => q.2 c2)]
      exact ⟨⟨vg, fun q => absurd q l, fun _ => ⟨hR.1, fun q => absurd q i10, fun _ => ⟨p1, fun _ => i1, fun q => absurd c2 q⟩⟩⟩, S, f1, q_out_t s2 f2, f3⟩
    · have h145 := qm_ch145 s3 hg4 (nI t) (nI r) (nI c) x4 x5 x6 x7 x8 x9 (nI j)
      rw [if_neg l] at h145
      rw [if_neg c2, if_pos ⟨c1, c2⟩]
      exact ⟨⟨vg, fun q => absurd q l, fun _ => ⟨hR.1, fun q => absurd q i10, fun _ => ⟨p1, fun q => absurd q c2, fun _ => h145.1⟩⟩⟩, S1, h145.2, s2, s3⟩
end
