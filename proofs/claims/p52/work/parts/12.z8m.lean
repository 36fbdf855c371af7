noncomputable section
-- questions: what is looked at leaves the relation as it is
def q_LU (Q : am_M) (a b : Nat) : Prop := q_FD a b ∨ a = 66 ∨ q_LD Q a b ∨ a = 262 ∨ (a = 207 ∧ b = 0)
theorem q_LU_w {Q : am_M} {a b : Nat} (h : q_LU Q a b) : (61 ≤ a ∧ a ≤ 66) ∨ (a = 52 ∧ (b = 4 ∨ b = 5)) ∨ (a = 207 ∧ (b = 59 ∨ b = 0)) ∨ (248 ≤ a ∧ a ≤ 254 ∧ a ≠ 252) ∨ a = 262 := by
  unfold q_LU q_FD at h
  rcases h with h | h | h | h
  · omega
  · omega
  · have := q_LD_w h; omega
  · omega
theorem q_LU_own {Q : am_M} {a b : Nat} (h : q_LU Q a b) : pu_own a b ∈ [0, 11] := by
  have h' := q_LU_w h
  by_cases h9 : a = 249 ∧ b < 8
  · rw [pu_own_11 (by omega)]; decide
  · have : pu_own a b = 0 := by
      unfold pu_own
      rcases h' with h | h | h | h | h
      all_goals repeat (first | rw [if_neg (by omega)] | rw [if_pos (by omega)])
    rw [this]; decide
theorem q_LU_qm {s t Q : am_M} (h8 : q_nq Q ≤ 8) (h : q_out s t (q_LU Q)) (m : q_qm s Q) : q_qm t Q := q_qm_out h8 h (fun a b q => by
  have q' := q_LU_w q
  refine ⟨by omega, by omega, fun h1 h2 => ?_, by omega⟩
  unfold q_LU q_FD q_LD at q
  rcases q with q | q | q | q
  · omega
  · omega
  · rcases q with q | q | q | q | q | q | q
    · omega
    · omega
    · omega
    · omega
    · omega
    · exact q.2.resolve_left (by omega)
    · omega
  · omega) m
theorem pu_look {c : Nat} {s t : am_M} {Z : Nat → am_M} (hP : ∀ i, pu_P i s) (hZ : ∀ j, pu_X c j s Z) (h : q_out s t (q_LU (Z 11))) : pu_R c t := by
  have hf : pu_fr (· ∈ [0, 11]) s t := fun a b hab => h a b (fun q => hab (q_LU_own q))
  obtain ⟨qc, qm, qw⟩ : q_x5 s (Z 6) (Z 11) := hZ 5
  have x6 : q_x6 s (Z 6) (Z 11) (Z 12) := hZ 6
  refine pu_keepX (J := [0, 11]) (Y := Z) hP hZ hf (fun _ _ => rfl) (fun i hi => ?_) (fun j hj => ?_)
  · have e : i = 0 ∨ i = 11 := by simpa using hi
    rcases e with rfl | rfl <;> exact trivial
  · have e : j ∈ [5, 6] := hj
    have e : j = 5 ∨ j = 6 := by simpa using e
    rcases e with rfl | rfl
    · exact ⟨q_qc_out h (fun a b q => by have := q_LU_w q; omega) qc, q_LU_qm qw.1.2 h qm, qw⟩
    · exact q_x6_up (fun a b q => h a b (fun q2 => by
        have := q_LU_own q2
        rw [q] at this; exact absurd this (by decide))) (Nat.le_refl _) ⟨Nat.le_refl _, fun _ _ => ⟨rfl, rfl⟩⟩ x6
theorem q_FD_LU {Q : am_M} {s t : am_M} (h : q_out s t (fun a b => q_FD a b ∨ a = 66)) : q_out s t (q_LU Q) := q_out_w h (fun a b q => q.elim Or.inl (fun q => Or.inr (Or.inl q)))
theorem q_LD_LU {Q : am_M} {s t : am_M} (h : q_out s t (q_LD Q)) : q_out s t (q_LU Q) := q_out_w h (fun a b q => Or.inr (Or.inr (Or.inl q)))
theorem q_262_LU {Q : am_M} {s : am_M} {v : Int32} : q_out s (am_set s 262 0 v) (q_LU Q) := fun a b q => am_set_p (by
  by_cases h : a = 262
  · exact absurd (Or.inr (Or.inr (Or.inr (Or.inl h)))) q
  · exact Or.inl h)
theorem q_207_LU {Q : am_M} {s : am_M} {v : Int32} : q_out s (am_set s 207 0 v) (q_LU Q) := fun a b q => am_set_p (by
  by_cases h : a = 207 ∧ b = 0
  · exact absurd (Or.inr (Or.inr (Or.inr (Or.inr h)))) q
  · omega)
/-- what both sides know, behind a look -/
theorem q_LU_all {A R Q s t : am_M} (h : q_out s t (q_LU Q)) (qw : q_qw A Q) (cd : q_cd s A) (md : q_md s A) (cb : q_cb s 9 10 11 R) (mb : q_mb s R) (qc : q_qc s Q) (qm : q_qm s Q) : q_cd t A ∧ q_md t A ∧ q_cb t 9 10 11 R ∧ q_mb t R ∧ q_qc t Q ∧ q_qm t Q :=
  ⟨q_cd_out h (fun a b q => by have := q_LU_w q; omega) cd, q_md_out h (fun a b q => by have := q_LU_w q; omega) md, q_cb_out h (fun a b q => by have := q_LU_w q; omega) cb, q_mb_out h (fun a b q => by have := q_LU_w q; omega) mb, q_qc_out h (fun a b q => by have := q_LU_w q; omega) qc, q_LU_qm qw.1.2 h qm⟩
theorem qa_wantQ {s A Q : am_M} (qc : q_qc s Q) (qw : q_qw A Q) (x : Int32) : f_CB_wantQuestion s x = if q_in (q_nq Q) x = 0 then 1 else 0 := by
  have e : s 52 3 = nI (q_nq Q) := qc.1.trans qw.1.1
  unfold f_CB_wantQuestion f_AS_has q_in
  rw [e]
theorem qa_pwantQ (s : am_M) (x : Int32) : p_CB_wantQuestion s x := ⟨fun _ => trivial, fun _ => trivial⟩
theorem qm_isQ {s A Q : am_M} (qm : q_qm s Q) (qw : q_qw A Q) (x : Int32) : p_MO_isQuestion s x ∧ f_MO_isQuestion s x = q_in (q_nq Q) x := by
  have h8 := qw.1.2
  have e : s 207 39 = nI (q_nq Q) := qm.1.trans qw.1.1
  refine ⟨⟨qb_in, trivial⟩, ?_⟩
  unfold f_MO_isQuestion
  rw [e, qb_in1 (by omega)]; rfl
/-- a question, an answer of it and a column -/
def q_gA (A R Q : am_M) (x1 x2 x3 : Int32) : Prop := ∃ j i c, x1 = nI j ∧ x2 = nI i ∧ x3 = nI c ∧ j < q_nq Q ∧ i < (q_sh R Q (10 + j)).length ∧ c < q_wx A R Q (10 + j)
theorem qa_wantA {s A R Q : am_M} (cd : q_cd s A) (w : q_wd A) (wr : q_wr A R) (cb : q_cb s 9 10 11 R) (qc : q_qc s Q) (qw : q_qw A Q) (x1 x2 x3 : Int32) : p_CB_wantAnswer s x1 x2 x3 ∧ ∃ e t, f_CB_wantAnswer s x1 x2 x3 = (e, t) ∧ q_out s t (fun a b => q_FD a b ∨ a = 66) ∧ ((e = 1 ∧ ¬ q_gA A R Q x1 x2 x3) ∨ (e = 0 ∧ ∃ j i c, x1 = nI j ∧ x2 = nI i ∧ x3 = nI c ∧ j < q_nq Q ∧ i < (q_sh R Q (10 + j)).length ∧ c < q_wx A R Q (10 + j) ∧ q_csh A R Q t (10 + j))) := by
  have h8 := qw.1.2
  have hQ := qa_wantQ qc qw x1
  unfold p_CB_wantAnswer f_CB_wantAnswer
  rw [hQ]
  rcases q_in_c (q_nq Q) (by omega) x1 with g | ⟨g, j, hj, rfl⟩
  · rw [g, if_pos rfl]
    refine ⟨fun q => absurd q (by decide), 1, s, by rw [if_neg (show ¬ 1 = 0 by decide)], fun _ _ _ => rfl, Or.inl ⟨rfl, ?_⟩⟩
    rintro ⟨j, i, c, e1, -, -, hj, -⟩
    rw [e1, q_in_1 hj (by omega)] at g
    exact absurd g (by decide)
  rw [g, if_neg i10, if_pos rfl]
  obtain ⟨F1, t, F2, F3, F4⟩ := qa_find cd w wr cb qc qw hj
  have hlen := q_sh_len (R := R) w qw (10 + j) (by omega)
  have hwx := q_wx_le (R := R) w qw (src := 10 + j) (Or.inr ⟨by omega, by omega⟩)
  have hw5 : t 52 5 = nI (q_wx A R Q (10 + j)) := F4.2.1
  rw [F2]
  dsimp only
  have uniq : ∀ x3', q_gA A R Q (nI j) x2 x3' → ∃ i c, x2 = nI i ∧ x3' = nI c ∧ i < (q_sh R Q (10 + j)).length ∧ c < q_wx A R Q (10 + j) := fun x3' ⟨j', i, c, e1, e2, e3, hj', h1, h2⟩ => by
    have : j = j' := (nI_eq (by omega) (by omega)).mp e1
    subst this
    exact ⟨i, c, e2, e3, h1, h2⟩
  have hp : (x2 < 0 → True) ∧ (¬ x2 < 0 → p_AS_find s (nI j) ∧ (((nI (q_sh R Q (10 + j)).length ≤ x2) → True) ∧ (¬ (nI (q_sh R Q (10 + j)).length ≤ x2) → ((x3 < 0) → True) ∧ (¬ (x3 < 0) → ((x3 < t 52 5) → True) ∧ (¬ (x3 < t 52 5) → True))))) := ⟨fun _ => trivial, fun _ => ⟨F1, fun _ => trivial, fun _ => ⟨fun _ => trivial, fun _ => ⟨fun _ => trivial, fun _ => trivial⟩⟩⟩⟩
  rcases pk_ix x2 (n := (q_sh R Q (10 + j)).length) (by omega) with c1 | c1 | ⟨i, hi, rfl⟩
  · rw [if_pos c1]
    refine ⟨fun _ => hp, 1, s, rfl, fun _ _ _ => rfl, Or.inl ⟨rfl, fun q => ?_⟩⟩
    obtain ⟨i, c, e2, -, h1, -⟩ := uniq _ q
    rw [e2] at c1; exact absurd c1 (qz (by omega))
  · have c0 : ¬ x2 < 0 := fun q => by
      rw [Int32.lt_iff_toInt_lt] at q
      rw [Int32.le_iff_toInt_le, nI_toInt (by omega)] at c1
      have z : (0 : Int32).toInt = 0 := by decide
      omega
    rw [if_neg c0, if_pos c1]
    refine ⟨fun _ => hp, 1, t, rfl, F3, Or.inl ⟨rfl, fun q => ?_⟩⟩
    obtain ⟨i, c, e2, -, h1, -⟩ := uniq _ q
    rw [e2] at c1; exact absurd c1 (nI_ge h1 (by omega))
  have c0 : ¬ nI i < 0 := qz (by omega)
  have c1 : ¬ nI (q_sh R Q (10 + j)).length ≤ nI i := nI_ge hi (by omega)
  rw [if_neg c0, if_neg c1]
  rcases pk_ix x3 (n := q_wx A R Q (10 + j)) (by omega) with c2 | c2 | ⟨c, hc, rfl⟩
  · rw [if_pos c2]
    refine ⟨fun _ => hp, 1, t, rfl, F3, Or.inl ⟨rfl, fun q => ?_⟩⟩
    obtain ⟨_, c, _, e3, _, h2⟩ := uniq _ q
    rw [e3] at c2; exact absurd c2 (qz (by omega))
  · have c3 : ¬ x3 < 0 := fun q => by
      rw [Int32.lt_iff_toInt_lt] at q
      rw [Int32.le_iff_toInt_le, nI_toInt (by omega)] at c2
      have z : (0 : Int32).toInt = 0 := by decide
      omega
    have c4 : ¬ x3 < t 52 5 := by
      rw [hw5]; intro q
      rw [Int32.lt_iff_toInt_lt] at q
      rw [Int32.le_iff_toInt_le] at c2
      omega
    rw [if_neg c3, if_neg c4]
    refine ⟨fun _ => hp, 1, t, rfl, F3, Or.inl ⟨rfl, fun q => ?_⟩⟩
    obtain ⟨_, c, _, e3, _, h2⟩ := uniq _ q
    rw [e3] at c2; exact absurd c2 (nI_ge h2 (by omega))
  · have c3 : ¬ nI c < 0 := qz (by omega)
    have c4 : nI c < t 52 5 := by rw [hw5]; exact nI_lt hc (by omega)
    rw [if_neg c3, if_pos c4]
    exact ⟨fun _ => hp, 0, t, rfl, F3, Or.inr ⟨rfl, j, i, c, rfl, rfl, rfl, hj, hi, hc, F4⟩⟩
theorem qm_isA {s A R Q : am_M} (md : q_md s A) (w : q_wd A) (wr : q_wr A R) (mb : q_mb s R) (qm : q_qm s Q) (qw : q_qw A Q) (x1 x2 x3 : Int32) : p_MO_isAnswer s x1 x2 x3 ∧ ∃ v t, f_MO_isAnswer s x1 x2 x3 = (v, t) ∧ q_out s t (q_LD Q) ∧ ((v = 0 ∧ ¬ q_gA A R Q x1 x2 x3) ∨ (v = 1 ∧ ∃ j i c, x1 = nI j ∧ x2 = nI i ∧ x3 = nI c ∧ j < q_nq Q ∧ i < (q_sh R Q (10 + j)).length ∧ c < q_wx A R Q (10 + j) ∧ q_msh A R Q t (10 + j))) := by
  have h8 := qw.1.2
  obtain ⟨p1, hQ⟩ := qm_isQ qm qw x1
  unfold p_MO_isAnswer f_MO_isAnswer
  rw [hQ]
  rcases q_in_c (q_nq Q) (by omega) x1 with g | ⟨g, j, hj, rfl⟩
  · rw [g, if_pos rfl]
    refine ⟨⟨p1, fun _ => trivial, fun q => absurd rfl q⟩, 0, s, rfl, fun _ _ _ => rfl, Or.inl ⟨rfl, ?_⟩⟩
    rintro ⟨j, i, c, e1, -, -, hj, -⟩
    rw [e1, q_in_1 hj (by omega)] at g
    exact absurd g (by decide)
  rw [g, if_neg i10]
  obtain ⟨L1, t, L2, L3, L4⟩ := qm_lays_q md w wr mb qm qw hj
  have hlen := q_sh_len (R := R) w qw (10 + j) (by omega)
  have hwx := q_wx_le (R := R) w qw (src := 10 + j) (Or.inr ⟨by omega, by omega⟩)
  have esl : q_sl (10 + j) = j := by unfold q_sl; rw [if_neg (by omega)]; omega
  obtain ⟨M1, M2, M3, M4⟩ := L4
  have L4 : q_msh A R Q t (10 + j) := ⟨M1, M2, M3, M4⟩
  rw [esl] at M1 M2
  have v12 : vp_in (nI j) 12 := vp_in_nI (by omega) (by omega)
  rw [L2, nI_clamp (n := j) (by omega), M1, M2, qb_in1 (by omega), qb_in1 (by omega)]
  have uniq : ∀ x3', q_gA A R Q (nI j) x2 x3' → ∃ i c, x2 = nI i ∧ x3' = nI c ∧ i < (q_sh R Q (10 + j)).length ∧ c < q_wx A R Q (10 + j) := fun x3' ⟨j', i, c, e1, e2, e3, hj', h1, h2⟩ => by
    have : j = j' := (nI_eq (by omega) (by omega)).mp e1
    subst this
    exact ⟨i, c, e2, e3, h1, h2⟩
  have hp : p_MO_isQuestion s (nI j) ∧ ((((1 : Int32) = 0) → True) ∧ (¬ ((1 : Int32) = 0) → p_MO_lays s (nI j) ∧ (vp_in (nI j) 12 ∧ ((((if x2 < 0 then (0 : Int32) else if nI (q_sh R Q (10 + j)).length ≤ x2 then 0 else 1) = 0) → True) ∧ (¬ ((if x2 < 0 then (0 : Int32) else if nI (q_sh R Q (10 + j)).length ≤ x2 then 0 else 1) = 0) → vp_in (nI j) 12 ∧ ((((if x3 < 0 then (0 : Int32) else if nI (q_wx A R Q (10 + j)) ≤ x3 then 0 else 1) = 0) → True) ∧ (¬ ((if x3 < 0 then (0 : Int32) else if nI (q_wx A R Q (10 + j)) ≤ x3 then 0 else 1) = 0) → True))))))) := ⟨p1, fun _ => trivial, fun _ => ⟨L1, v12, fun _ => trivial, fun _ => ⟨v12, fun _ => trivial, fun _ => trivial⟩⟩⟩
  refine ⟨hp, ?_⟩
  rcases q_in_c (q_sh R Q (10 + j)).length (by omega) x2 with g2 | ⟨g2, i, hi, rfl⟩
  · have g2' : (if x2 < 0 then (0 : Int32) else if nI (q_sh R Q (10 + j)).length ≤ x2 then 0 else 1) = 0 := g2
    rw [if_pos g2']
    refine ⟨0, t, rfl, L3, Or.inl ⟨rfl, fun q => ?_⟩⟩
    obtain ⟨i, c, e2, -, h1, -⟩ := uniq _ q
    rw [e2, q_in_1 h1 (by omega)] at g2
    exact absurd g2 (by decide)
  · have g2' : (if nI i < 0 then (0 : Int32) else if nI (q_sh R Q (10 + j)).length ≤ nI i then 0 else 1) = 1 := g2
    rw [g2', if_neg i10]
    rcases q_in_c (q_wx A R Q (10 + j)) (by omega) x3 with g3 | ⟨g3, c, hc, rfl⟩
    · have g3' : (if x3 < 0 then (0 : Int32) else if nI (q_wx A R Q (10 + j)) ≤ x3 then 0 else 1) = 0 := g3
      rw [if_pos g3']
      refine ⟨0, t, rfl, L3, Or.inl ⟨rfl, fun q => ?_⟩⟩
      obtain ⟨_, c, _, e3, _, h2⟩ := uniq _ q
      rw [e3, q_in_1 h2 (by omega)] at g3
      exact absurd g3 (by decide)
    · have g3' : (if nI c < 0 then (0 : Int32) else if nI (q_wx A R Q (10 + j)) ≤ nI c then 0 else 1) = 1 := g3
      rw [g3', if_neg i10]
      exact ⟨1, t, rfl, L3, Or.inr ⟨rfl, j, i, c, rfl, rfl, rfl, hj, hi, hc, L4⟩⟩
end
