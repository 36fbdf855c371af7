noncomputable section
-- questions: groups and cross tables, the class
theorem qa_fg {Q : am_M} {j key val g W P : Nat} (hj : j < 8) (hg : g < 30) (q4 : Q (67 + 7 * j) 4 = nI key) (q6 : Q (67 + 7 * j) 6 = nI val) (hk : key < W) (hv : val < W) (hW : W ≤ 54) {s : am_M} (qc : q_qc s Q) {l : List q_An} (hl : l.length ≤ 30) (hf : s 52 4 = nI l.length) (cs : q_cs s l W P 0) (hany : q_any (q_k1 key (s 63 g)) l) : p_AS_findGroup s (67 + 7 * j) (nI g) ∧ ∃ t, f_AS_findGroup s (67 + 7 * j) (nI g) = t ∧ q_out s t (fun a b => a = 65 ∧ 31 * g ≤ b ∧ b < 31 * g + 31) ∧ ∀ c, c < 5 → t 65 (31 * g + c) = (q_gr key val l (s 63 g)).1 c := by
  obtain ⟨h1, h2⟩ := qa_16 hj hg hl q4 q6 hk hv hW qc hf l 0 am_F 0 0 (-1000000) (-1000000) (Nat.zero_add _) (by rw [am_F_eq]; omega) cs
  rw [nI_0] at h1 h2
  have hf0 : f_AS_findGroup s (67 + 7 * j) (nI g) = f_AS_findGroup_16 am_F s (67 + 7 * j) (nI g) 0 0 (-1000000) (-1000000) 0 := rfl
  have hp0 : p_AS_findGroup s (67 + 7 * j) (nI g) = p_AS_findGroup_16 am_F s (67 + 7 * j) (nI g) 0 0 (-1000000) (-1000000) 0 := rfl
  have a1 : nI (31 * g) + (1 : Int32) = nI (31 * g + 1) := nI_add _ 1
  have a2 : nI (31 * g) + (2 : Int32) = nI (31 * g + 2) := nI_add _ 2
  have a3 : nI (31 * g) + (3 : Int32) = nI (31 * g + 3) := nI_add _ 3
  have a4 : nI (31 * g) + (4 : Int32) = nI (31 * g + 4) := nI_add _ 4
  rw [hf0, hp0, h1]
  unfold f_AS_findGroup_114
  unfold p_AS_findGroup_114 at h2
  rw [qm_31, Nat.mul_comm g 31, a1, a2, a3, a4] at h2 ⊢
  rw [nI_clamp (n := 31 * g) (by omega), nI_clamp (n := 31 * g + 1) (by omega), nI_clamp (n := 31 * g + 2) (by omega), nI_clamp (n := 31 * g + 3) (by omega), nI_clamp (n := 31 * g + 4) (by omega), nI_clamp (n := g) (by omega), q_lim_C, Int32.toInt_toInt64]
  refine ⟨h2 ⟨vp_in_nI (by omega) (by omega), vp_in_nI (by omega) (by omega), vp_in_nI (by omega) (by omega), vp_in_nI (by omega) (by omega), vp_in_nI (by omega) (by omega), vp_in_nI (by omega) (by omega), trivial⟩, _, rfl, fun a b q => ?_, fun c hc => ?_⟩
  · rw [am_set_p (by omega), am_set_p (by omega), am_set_p (by omega), am_set_p (by omega), am_set_p (by omega)]
  · have hc : c = 0 ∨ c = 1 ∨ c = 2 ∨ c = 3 ∨ c = 4 := by omega
    rcases hc with rfl | rfl | rfl | rfl | rfl
    · rw [am_set_p (by omega), am_set_p (by omega), am_set_p (by omega), am_set_p (by omega), Nat.add_zero, am_set_q]; rfl
    · rw [am_set_p (by omega), am_set_p (by omega), am_set_p (by omega), am_set_q]; rfl
    · rw [am_set_p (by omega), am_set_p (by omega), am_set_q]
      exact (q_sc_any hany).symm
    · rw [am_set_p (by omega), am_set_q]; rfl
    · rw [am_set_q]; rfl
theorem qa_15 {Q : am_M} {j key val W P : Nat} (hj : j < 8) (q4 : Q (67 + 7 * j) 4 = nI key) (q6 : Q (67 + 7 * j) 6 = nI val) (hk : key < W) (hv : val < W) (hW : W ≤ 54) {l : List q_An} (hl : l.length ≤ 30) {ks : List Int32} (hks : ks.length ≤ 30) (hany : ∀ x, x ∈ ks → q_any (q_k1 key x) l) : ∀ (d g n : Nat) (s : am_M), g + d = ks.length → d < n → q_qc s Q → s 52 4 = nI l.length → q_cs s l W P 0 → q_kl s 63 ks → ∃ S, f_AS_findGroups_15 n s (67 + 7 * j) (nI ks.length) (nI g) = f_AS_takeSpare S (nI ks.length) 5 ∧ (p_AS_takeSpare S (nI ks.length) 5 → p_AS_findGroups_15 n s (67 + 7 * j) (nI ks.length) (nI g)) ∧ q_out s S (fun a b => a = 65 ∧ 31 * g ≤ b) ∧ ∀ k c, g ≤ k → k < ks.length → c < 5 → S 65 (31 * k + c) = (q_gr key val l (ks.getD k 0)).1 c := by
  intro d
  induction d with
  | zero =>
    intro g n s hg hn qc hf cs kl
    obtain ⟨n, rfl⟩ : ∃ k, n = k + 1 := ⟨n - 1, by omega⟩
    obtain rfl : g = ks.length := by omega
    have gg : nI ks.length ≤ nI ks.length := qn_le (Nat.le_refl _) (by omega)
    unfold p_AS_findGroups_15 f_AS_findGroups_15
    rw [if_pos gg]
    exact ⟨s, rfl, fun q => ⟨fun _ => ⟨q, trivial⟩, fun q2 => absurd gg q2⟩, fun _ _ _ => rfl, fun k c h1 h2 => by omega⟩
  | succ d ih =>
    intro g n s hg hn qc hf cs kl
    obtain ⟨n, rfl⟩ : ∃ k, n = k + 1 := ⟨n - 1, by omega⟩
    have gg : ¬ nI ks.length ≤ nI g := nI_ge (by omega) (by omega)
    have g30 : ¬ (30 : Int32) ≤ nI g := ql_30 (by omega)
    have e1 : nI g + (1 : Int32) = nI (g + 1) := nI_add g 1
    have hkg := kl g (by omega)
    obtain ⟨j1, T, j2, j3, j4⟩ := qa_fg hj (show g < 30 by omega) q4 q6 hk hv hW qc hl hf cs (by rw [hkg]; exact hany _ (q_getD_mem g (by omega)))
    obtain ⟨S, i1, i2, i3, i4⟩ := ih (g + 1) n T (by omega) (by omega) (q_qc_out j3 (fun a b q => by omega) qc) ((j3 _ _ (by omega)).trans hf) (q_cs_o (fun a b q => j3 a b (by omega)) cs) (q_kl_out j3 (fun a b q => by omega) kl)
    unfold p_AS_findGroups_15 f_AS_findGroups_15
    rw [if_neg gg, if_neg g30, j2, e1]
    refine ⟨S, i1, fun q => ⟨fun q2 => absurd q2 gg, fun _ => ⟨fun q2 => absurd q2 g30, fun _ => ⟨j1, i2 q⟩⟩⟩, fun a b q => by rw [i3 a b (by omega), j3 a b (by omega)], fun k c h1 h2 h3 => ?_⟩
    by_cases hkk : k = g
    · rw [hkk, i3 _ _ (by omega), j4 c h3, hkg]
    · exact i4 k c (by omega) h2 h3
theorem qa_groups {s Q : am_M} (qc : q_qc s Q) {j key val W P : Nat} (hj : j < 8) (q4 : Q (67 + 7 * j) 4 = nI key) (q6 : Q (67 + 7 * j) 6 = nI val) (hk : key < W) (hv : val < W) (hW : W ≤ 54) {l : List q_An} (hl : l.length ≤ 30) (hf : s 52 4 = nI l.length) (cs : q_cs s l W P 0) : p_AS_findGroups s (67 + 7 * j) ∧ ∃ t, f_AS_findGroups s (67 + 7 * j) = t ∧ q_out s t (fun a b => a = 61 ∨ a = 63 ∨ a = 65 ∨ (a = 52 ∧ (b = 4 ∨ b = 5))) ∧ t 52 4 = nI (q_shG key val l).length ∧ t 52 5 = nI 5 ∧ q_cs t (q_shG key val l) 5 0 0 := by
  have psh : 67 + 7 * j < 207 ∧ am_sh (67 + 7 * j) = (0, 4, 17) := ⟨by omega, (qa_sh hj).1⟩
  have hs4 : s (67 + 7 * j) 4 = nI key := by rw [qc.2 _ (by omega) (by omega)]; exact q4
  obtain ⟨g1, G, g2, g3, g4⟩ := qa_gather (b := 63) ⟨by omega, by decide +kernel⟩ (by omega) hk hW hl hf cs
  have hkl := @q_ks_len key l []
  have l0 : ([] : List Int32).length = 0 := rfl
  obtain ⟨S, i1, i2, i3, i4⟩ := qa_15 hj q4 q6 hk hv hW hl (ks := q_ks key [] l) (by omega) (fun x hx => by
    rcases (q_ks_mem l []).mp hx with q | ⟨a, a1, a2⟩
    · exact absurd q List.not_mem_nil
    · exact ⟨a, a1, a2⟩) (q_ks key [] l).length 0 am_F G (Nat.zero_add _) (by rw [am_F_eq]; omega) (q_qc_out g3 (fun a b q => by omega) qc) ((g3 _ _ (by omega)).trans hf) (q_cs_o (fun a b q => g3 a b (by omega)) cs) g4
  rw [nI_0] at i1 i2
  have n5 : (5 : Int32) = nI 5 := rfl
  obtain ⟨t1, t, t2, t3, t4, t5, t6⟩ := qa_take (s := S) (N := (q_ks key [] l).length) (W' := 5) (by omega) (by omega)
  have hlen : (q_shG key val l).length = (q_ks key [] l).length := List.length_map ..
  unfold p_AS_findGroups f_AS_findGroups
  rw [hs4, g2]
  dsimp only
  rw [i1, n5, t2, hlen]
  refine ⟨⟨psh, g1, i2 (by rw [n5]; exact t1)⟩, t, rfl, fun a b q => by rw [t3 a b (by omega), i3 a b (by omega), g3 a b (by omega)], t5, t6, fun i hi => ?_⟩
  rw [hlen] at hi
  refine ⟨fun c hc => ?_, fun p hp => absurd hp (Nat.not_lt_zero _)⟩
  rw [Nat.zero_add, t4 i c hi hc, i4 i c (Nat.zero_le _) hi hc]
  unfold q_shG
  rw [q_map_getD _ i hi]
-- cross tables
abbrev q_NO : Int32 := -1000000000
def q_ac (P : q_An → Prop) [DecidablePred P] (val : Nat) : Int32 → List q_An → Int32
  | x, [] => x
  | x, a :: l => q_ac P val (if P a then (if x = q_NO then 0 else x) + q_oz (a.1 val) else x) l
theorem q_oz_b {x : Int32} (h : q_v x) : -1000000 ≤ (q_oz x).toInt ∧ (q_oz x).toInt ≤ 1000000 := by
  unfold q_oz
  unfold q_v at h
  by_cases c : x = -1000000
  · rw [if_pos c]; decide
  · rw [if_neg c]; omega
theorem q_ac_1 {P : q_An → Prop} [DecidablePred P] {val : Nat} : ∀ (l : List q_An) (x : Int32) (m : Nat), (∀ a, a ∈ l → q_v (a.1 val)) → m + l.length ≤ 31 → -(1000000 * (m : Int)) ≤ x.toInt → x.toInt ≤ 1000000 * (m : Int) → q_ac P val x l = q_su P val x l := by
  intro l
  induction l with
  | nil => intro x m _ _ _ _; rfl
  | cons a l ih =>
    intro x m hv hm h1 h2
    rw [List.length_cons] at hm
    have hne : ¬ x = q_NO := fun q => by
      have e : q_NO.toInt = -1000000000 := by decide
      rw [q, e] at h1; omega
    have hb := q_oz_b (hv a List.mem_cons_self)
    unfold q_ac q_su
    rw [if_neg hne]
    by_cases h : P a
    · rw [if_pos h]
      have hadd : (x + q_oz (a.1 val)).toInt = x.toInt + (q_oz (a.1 val)).toInt := by
        rw [Int32.toInt_add]
        exact Int.bmod_eq_of_le (by omega) (by omega)
      exact ih _ (m + 1) (fun b hb => hv b (List.mem_cons_of_mem _ hb)) (by omega) (by rw [hadd]; omega) (by rw [hadd]; omega)
    · rw [if_neg h]
      exact ih x m (fun b hb => hv b (List.mem_cons_of_mem _ hb)) (by omega) h1 h2
theorem q_ac_0 {P : q_An → Prop} [DecidablePred P] {val : Nat} : ∀ (l : List q_An), (∀ a, a ∈ l → q_v (a.1 val)) → l.length ≤ 30 → (q_any P l → q_ac P val q_NO l = q_su P val 0 l) ∧ (¬ q_any P l → q_ac P val q_NO l = q_NO) := by
  intro l
  induction l with
  | nil => intro _ _; exact ⟨fun ⟨a, h, _⟩ => absurd h List.not_mem_nil, fun _ => rfl⟩
  | cons a l ih =>
    intro hv hl
    rw [List.length_cons] at hl
    have hvl : ∀ b, b ∈ l → q_v (b.1 val) := fun b hb => hv b (List.mem_cons_of_mem _ hb)
    obtain ⟨i1, i2⟩ := ih hvl (by omega)
    have hb := q_oz_b (hv a List.mem_cons_self)
    unfold q_ac q_su
    rw [if_pos rfl]
    by_cases h : P a
    · rw [if_pos h, if_pos h]
      refine ⟨fun _ => ?_, fun q => absurd ⟨a, List.mem_cons_self, h⟩ q⟩
      have hz : (0 : Int32) + q_oz (a.1 val) = q_oz (a.1 val) := Int32.zero_add _
      rw [hz]
      exact q_ac_1 l _ 1 hvl (by omega) (by omega) (by omega)
    · rw [if_neg h, if_neg h]
      have e : q_any P (a :: l) ↔ q_any P l := ⟨fun ⟨b, b1, b2⟩ => by
        rcases List.mem_cons.mp b1 with q | q
        · rw [q] at b2; exact absurd b2 h
        · exact ⟨b, q, b2⟩, fun ⟨b, b1, b2⟩ => ⟨b, List.mem_cons_of_mem _ b1, b2⟩⟩
      rw [e]
      exact ⟨i1, i2⟩
theorem q_ac_sc {P : q_An → Prop} [DecidablePred P] {val : Nat} {l : List q_An} (hv : ∀ a, a ∈ l → q_v (a.1 val)) (hl : l.length ≤ 30) : q_limI (q_ac P val q_NO l).toInt = q_sc P val l := by
  obtain ⟨i1, i2⟩ := q_ac_0 (P := P) l hv hl
  by_cases h : q_any P l
  · rw [i1 h, q_sc_any h]
  · rw [i2 h, q_sc_no h]; decide
end
