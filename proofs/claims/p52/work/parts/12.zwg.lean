noncomputable section
-- the order of the reckoned columns, and what cells hold: one object alone
theorem bit0 (y : Int32) : y &&& (1 : Int32) = 0 ↔ y.toBitVec.getLsbD 0 = false := by
  have h : (y &&& (1 : Int32)).toBitVec.toNat = y.toBitVec.toNat % 2 := by
    rw [Int32.toBitVec_and, BitVec.toNat_and]; exact Nat.and_one_is_mod _
  have hb : y.toBitVec.getLsbD 0 = decide (y.toBitVec.toNat % 2 = 1) := by
    rw [BitVec.getLsbD, Nat.testBit_zero]
  rw [hb]
  constructor
  · intro e
    rw [e] at h
    have : (0 : Int32).toBitVec.toNat = 0 := rfl
    rw [this] at h
    exact decide_eq_false (by omega)
  · intro e
    have e := of_decide_eq_false e
    apply Int32.toBitVec_inj.mp
    apply BitVec.eq_of_toNat_eq
    rw [h]
    have : (0 : Int32).toBitVec.toNat = 0 := rfl
    rw [this]; omega
theorem sh_n : ∀ k, k < 24 → ((nI k &&& (31 : Int32)).toBitVec.smod 32).toNat = k := by decide +kernel
theorem sr_k (x : Int32) {k : Nat} (hk : k < 24) : (x >>> (nI k &&& (31 : Int32))).toBitVec.getLsbD 0 = x.toBitVec.getLsbD k := by
  rw [Int32.toBitVec_shiftRight, BitVec.sshiftRight_eq', sh_n k hk, BitVec.getLsbD_sshiftRight]
  rw [Nat.add_zero]
  simp [show k < 32 by omega]
theorem bit_t (x : Int32) {k : Nat} (hk : k < 24) : (x >>> (nI k &&& (31 : Int32))) &&& (1 : Int32) = 0 ↔ x.toBitVec.getLsbD k = false := by
  rw [bit0, sr_k x hk]
theorem sl_k : ∀ j, j < 24 → ∀ k, k < 24 → ((1 : Int32) <<< (nI j &&& (31 : Int32))).toBitVec.getLsbD k = decide (k = j) := by decide +kernel
theorem bit_or (x : Int32) {j k : Nat} (hj : j < 24) (hk : k < 24) (hne : k ≠ j) (h : x.toBitVec.getLsbD k = false) : (x ||| ((1 : Int32) <<< (nI j &&& (31 : Int32)))).toBitVec.getLsbD k = false := by
  rw [Int32.toBitVec_or, BitVec.getLsbD_or, h, sl_k j hj k hk, decide_eq_false hne]; rfl
/-- what a cell of a row holds -/
theorem cell_v {c : Nat} {s : am_M} {x y z a b e : Int32} (h : pu_R c s) : (f_LH_sets10 s x y z a b e).1 = -9999999 ∨ ((f_CB_isThere s x y).2.1 ≠ 0 ∧ q_v (f_LH_sets10 s x y z a b e).1) := by
  obtain ⟨hP, Z, hZ⟩ := h
  obtain ⟨cd, oc, md, wd⟩ : q_x1 s (Z 6) := hZ 1
  obtain ⟨cb, mb, wr⟩ : q_x3 s (Z 6) (Z 8) := hZ 3
  rw [LHcell_e]
  unfold az
  by_cases k : (f_CB_cell s x y z).1 = 0
  · rw [if_pos k]
    right
    have hT := qr_row cd wd cb x y
    have hK := qd_wantC cd wd x z
    unfold f_CB_cell at k ⊢
    rcases q_isR_c wd wr.we x y with g | ⟨g, T, r, ht, ht4, hr30, hrm, rfl, rfl, hh⟩
    · rw [g, if_pos rfl] at hT
      rw [hT, if_neg (by decide)] at k
      exact absurd (show (1 : Nat) = 0 from k) (by decide)
    rw [g, if_neg i10] at hT
    rw [hT, if_pos rfl] at k ⊢
    rcases q_isC_c wd (nI T) z with g2 | ⟨g2, T2, C, hT2, hT24, hc, hc6, eT, rfl⟩
    · rw [g2, if_pos rfl] at hK
      rw [hK, if_neg (by decide)] at k
      exact absurd (show (1 : Nat) = 0 from k) (by decide)
    rw [g2, if_neg i10] at hK
    rw [hK, if_pos rfl]
    have hw : f_CB_wantTable s (nI T) = 0 := by
      rw [qd_wantT cd wd (nI T)]
      unfold q_isT
      rw [q_in_1 ht (by have := wd.1.2; omega), if_neg i10]
    have ee : (f_CB_isThere s (nI T) (nI r)).2.1 = f_RO_has s 8 (nI T) (nI r) := by unfold f_CB_isThere; rw [if_pos hw]
    refine ⟨?_, ?_⟩
    · rw [ee, qr_has cb ht4, if_pos ⟨q_in_1 hr30 (by omega), by rw [show q_c (nI r) = r from nI_clamp (by omega)]; exact hh⟩]
      decide
    · show q_v (f_RO_get s 8 (nI T) (nI r) (nI C))
      rw [qr_cell cb ht4 hr30 hc6 hh]
      exact wr.2.2.1 _ (by omega) (by rw [show (180 * T + 6 * r + C) / 6 = 30 * T + r from by omega]; exact hh)
  · rw [if_neg k]; exact Or.inl rfl
-- the loop over cells of a table
theorem SO111 {KP97 : am_M → Int32 → Int32 → Int32 → Int32 → Int32 → Prop} {K97 : am_M → Int32 → Int32 → Int32 → Int32 → Int32 → Int32 × am_M} {c : Nat} {s : am_M} (h : pu_R c s) {x1 x2 x3 x5 : Int32} (hk : KP97 s x1 x2 x3 1 (x5 + (1 : Int32))) {m : Nat} (hm : m ≤ 30) (hr : (f_LH_rows s x5).1 = nI m) (hw : f_CB_wantTable s x5 = 0) : ∀ (d k n : Nat), k + d = 6 * m → d < n → p_LH_isOrderSo_111 KP97 n s x1 x2 x3 1 x5 (nI k) ∧ f_LH_isOrderSo_111 K97 n s x1 x2 x3 1 x5 (nI k) = K97 s x1 x2 x3 1 (x5 + (1 : Int32)) := by
  have i1 : ¬ (1 : Int32) = 0 := by decide
  have hS : RR c s s := ⟨h, h, gq_rf⟩
  obtain ⟨r1, -, -⟩ := Q_rows hS (x := x5)
  have e6 : (6 : Int32) * (f_LH_rows s x5).1 = nI (6 * m) := by rw [hr]; exact qw_6 m
  intro d
  induction d with
  | zero =>
    intro k n h1 h2
    obtain ⟨n, rfl⟩ : ∃ k, n = k + 1 := ⟨n - 1, by omega⟩
    have c1 : (6 : Int32) * (f_LH_rows s x5).1 ≤ nI k := by rw [e6]; exact nI_le (by omega) (by omega)
    unfold p_LH_isOrderSo_111 f_LH_isOrderSo_111 p_LH_isOrderSo_208 f_LH_isOrderSo_208
    rw [LHrows_2]
    exact ⟨⟨r1, fun _ => hk, fun q => absurd c1 q⟩, by rw [if_pos c1]⟩
  | succ d ih =>
    intro k n h1 h2
    obtain ⟨n, rfl⟩ : ∃ k, n = k + 1 := ⟨n - 1, by omega⟩
    have c1 : ¬ (6 : Int32) * (f_LH_rows s x5).1 ≤ nI k := fun q => by rw [e6] at q; have := (nI_leI (by omega) (by omega)).mp q; omega
    obtain ⟨q1, -, -⟩ := Q_cell hS (x := x5) (y := nI k / (6 : Int32)) (z := nI k - nI k / (6 : Int32) * (6 : Int32)) (a := (0 : Int32)) (b := (0 : Int32)) (e := (0 : Int32))
    obtain ⟨t1, -, t3, -, -⟩ := Q_there hS hw (y := nI k / (6 : Int32))
    have z := ih (k + 1) n (by omega) (by omega)
    rw [← nI_1 k] at z
    have v := cell_v h (x := x5) (y := nI k / (6 : Int32)) (z := nI k - nI k / (6 : Int32) * (6 : Int32)) (a := (0 : Int32)) (b := (0 : Int32)) (e := (0 : Int32))
    unfold p_LH_isOrderSo_111 f_LH_isOrderSo_111 p_LH_isOrderSo_195 f_LH_isOrderSo_195 p_LH_isOrderSo_200 f_LH_isOrderSo_200 p_LH_isOrderSo_199 f_LH_isOrderSo_199
    rw [LHrows_2, LHcell_2, there_2, if_neg c1, if_neg i1]
    generalize hV : (f_LH_sets10 s x5 (nI k / (6 : Int32)) (nI k - nI k / (6 : Int32) * (6 : Int32)) (0 : Int32) (0 : Int32) (0 : Int32)).1 = V at *
    by_cases k9 : V = (-9999999 : Int32)
    · rw [if_pos k9]
      exact ⟨⟨r1, fun q => absurd q c1, fun _ => ⟨fun q => absurd q i1, fun _ => ⟨q1, fun _ => z.1, fun q => absurd k9 q⟩⟩⟩, z.2⟩
    · rcases v with v | ⟨v1, v2⟩
      · exact absurd v k9
      rw [if_neg k9, if_neg v1]
      by_cases kB : V = (-1000000 : Int32)
      · rw [if_pos kB]
        exact ⟨⟨r1, fun q => absurd q c1, fun _ => ⟨fun q => absurd q i1, fun _ => ⟨q1, fun q => absurd q k9, fun _ => ⟨t1, t3, fun q => absurd q v1, fun _ => ⟨fun _ => z.1, fun q => absurd kB q⟩⟩⟩⟩⟩, z.2⟩
      · have u1 : ¬ V < (-999999 : Int32) := fun q => by
          rw [Int32.lt_iff_toInt_lt] at q
          have g1 : (-999999 : Int32).toInt = -999999 := by decide
          have g2 : (-1000000 : Int32).toInt = -1000000 := by decide
          have := v2.1
          exact kB (Int32.toInt_inj.mp (by omega))
        have u2 : ¬ (999999 : Int32) < V := fun q => by
          rw [Int32.lt_iff_toInt_lt] at q
          have g1 : (999999 : Int32).toInt = 999999 := by decide
          have := v2.2
          omega
        rw [if_neg kB, if_neg u1, if_neg u2]
        exact ⟨⟨r1, fun q => absurd q c1, fun _ => ⟨fun q => absurd q i1, fun _ => ⟨q1, fun q => absurd q k9, fun _ => ⟨t1, t3, fun q => absurd q v1, fun _ => ⟨fun q => absurd q kB, fun _ => ⟨fun q => absurd q u1, fun _ => ⟨fun q => absurd q u2, fun _ => z.1⟩⟩⟩⟩⟩⟩⟩, z.2⟩
theorem SO97 {c : Nat} {s : am_M} (h : pu_R c s) {x1 x3 : Int32} {p : Nat} (hp : p ≤ 24) : ∀ (d j n : Nat), j + d = 4 → d < n → p_LH_isOrderSo_97 n s x1 (nI p) x3 1 (nI j) ∧ f_LH_isOrderSo_97 n s x1 (nI p) x3 1 (nI j) = (1, s) := by
  have e4 : nI 4 = (4 : Int32) := rfl
  have i1 : ¬ (1 : Int32) = 0 := by decide
  have c24 : ¬ (24 : Int32) < nI p := fun q => by
    have : nI p ≤ nI 24 := nI_le hp (by omega)
    have e : nI 24 = (24 : Int32) := rfl
    rw [e, Int32.le_iff_toInt_le] at this
    rw [Int32.lt_iff_toInt_lt] at q
    omega
  have hS : RR c s s := ⟨h, h, gq_rf⟩
  intro d
  induction d with
  | zero =>
    intro j n h1 h2
    obtain ⟨n, rfl⟩ : ∃ k, n = k + 1 := ⟨n - 1, by omega⟩
    have c4 : (4 : Int32) ≤ nI j := by rw [← e4]; exact (nI_leI (by omega) (by omega)).mpr (by omega)
    unfold p_LH_isOrderSo_97 f_LH_isOrderSo_97
    rw [if_pos c4, if_neg i1, if_neg c24]
    exact ⟨⟨fun _ => ⟨fun q => absurd q i1, fun _ => ⟨fun _ => trivial, fun _ => trivial⟩⟩, fun q => absurd c4 q⟩, rfl⟩
  | succ d ih =>
    intro j n h1 h2
    obtain ⟨n, rfl⟩ : ∃ k, n = k + 1 := ⟨n - 1, by omega⟩
    have c4 : ¬ (4 : Int32) ≤ nI j := fun q => by rw [← e4] at q; have := (nI_leI (by omega) (by omega)).mp q; omega
    have z := ih (j + 1) n (by omega) (by omega)
    rw [← nI_1 j] at z
    have w : p_LH_isOrderSo_111 (p_LH_isOrderSo_97 n) 181 s x1 (nI p) x3 1 (nI j) (0 : Int32) ∧ f_LH_isOrderSo_111 (f_LH_isOrderSo_97 n) 181 s x1 (nI p) x3 1 (nI j) (0 : Int32) = f_LH_isOrderSo_97 n s x1 (nI p) x3 1 (nI j + (1 : Int32)) := by
      rcases rows_v h (x := nI j) with ⟨m, hm, e, hw⟩ | e
      · have := SO111 (KP97 := p_LH_isOrderSo_97 n) (K97 := f_LH_isOrderSo_97 n) h z.1 hm e hw (6 * m) 0 181 (by omega) (by omega)
        rw [nI_0] at this; exact this
      · obtain ⟨r1, -, -⟩ := Q_rows hS (x := nI j)
        have c1 : (6 : Int32) * (f_LH_rows s (nI j)).1 ≤ (0 : Int32) := by rw [e]; decide
        unfold p_LH_isOrderSo_111 f_LH_isOrderSo_111 p_LH_isOrderSo_208 f_LH_isOrderSo_208
        rw [LHrows_2]
        exact ⟨⟨r1, fun _ => z.1, fun q => absurd c1 q⟩, by rw [if_pos c1]⟩
    unfold p_LH_isOrderSo_97 f_LH_isOrderSo_97
    rw [if_neg c4, if_neg i1, w.2]
    exact ⟨⟨fun q => absurd q c4, fun _ => ⟨fun q => absurd q i1, fun _ => w.1⟩⟩, z.2⟩
theorem lay_nd {A : am_M} (w : q_wd A) : ∀ (r : Nat) (c : Nat → Int32), (q_lay A r c).Nodup := by
  intro r
  induction r with
  | zero => intro c; exact List.nodup_nil
  | succ r ih =>
    intro c
    by_cases h : q_next A c = 24
    · rw [q_lay_0 h]; exact List.nodup_nil
    · have el : q_lay A (r + 1) c = q_next A c :: q_lay A r (upd c (q_next A c) 1) := by
        conv => lhs; unfold q_lay
        rw [if_neg h]
      rw [el]
      refine List.nodup_cons.mpr ⟨fun q => ?_, ih _⟩
      have := ((lay_L w r (upd c (q_next A c) 1) A).2 _ q).1
      simp [upd] at this
/-- the order, place for place -/
theorem order_v {c : Nat} {s : am_M} (h : pu_R c s) : ∃ l : List Nat, l.length ≤ 24 ∧ l.Nodup ∧ (∀ k, k ∈ l → k < 24) ∧ ∀ i, i ≤ 24 → (f_LH_does s (4 : Int32) (nI i) (0 : Int32) (0 : Int32)).1 = if i < l.length then nI (q_code (l.getD i 0)) else -9999999 := by
  obtain ⟨hP, Z, hZ⟩ := h
  obtain ⟨cd, oc, md, wd⟩ : q_x1 s (Z 6) := hZ 1
  refine ⟨q_ord (Z 6), q_ord_len, lay_nd wd _ _, fun k hk => (ord_m wd hk).1, fun i hi => ?_⟩
  have hl := q_ord_len (A := Z 6)
  rw [LHorder_e]
  unfold az f_CB_order
  have c0 : ¬ nI i < 0 := qz (by omega)
  rw [if_neg c0, oc.1]
  by_cases k : i < (q_ord (Z 6)).length
  · have c1 : ¬ nI (q_ord (Z 6)).length ≤ nI i := fun q => by have := (nI_leI (by omega) (by omega)).mp q; omega
    have c2 : nI i < (24 : Int32) := nI_lt (b := 24) (by omega) (by decide)
    rw [if_neg c1, if_pos c2, if_pos rfl, if_pos k]
    show s 7 (nI i).toNatClampNeg = _
    rw [nI_clamp (by omega)]
    exact oc.2 i k
  · have c1 : nI (q_ord (Z 6)).length ≤ nI i := nI_le (by omega) (by omega)
    rw [if_pos c1, if_neg (show ¬ ((1 : Nat) = 0) by decide), if_neg k]
theorem order_p {c : Nat} {s : am_M} {x : Int32} (h : pu_R c s) : p_LH_does s (4 : Int32) x (0 : Int32) (0 : Int32) := (Q_order ⟨h, h, gq_rf⟩).1
theorem SO16 {c : Nat} {s : am_M} (h : pu_R c s) {l : List Nat} (l24 : l.length ≤ 24) (nd : l.Nodup) (lt : ∀ k, k ∈ l → k < 24) (hv : ∀ i, i ≤ 24 → (f_LH_does s (4 : Int32) (nI i) (0 : Int32) (0 : Int32)).1 = if i < l.length then nI (q_code (l.getD i 0)) else -9999999) : ∀ (d i n : Nat) (x1 : Int32), i + d = l.length → d < n → (∀ j, i ≤ j → j < l.length → x1.toBitVec.getLsbD (l.getD j 0) = false) → p_LH_isOrderSo_16 n s x1 (nI i) (f_LH_does s (4 : Int32) (nI i) (0 : Int32) (0 : Int32)).1 1 ∧ f_LH_isOrderSo_16 n s x1 (nI i) (f_LH_does s (4 : Int32) (nI i) (0 : Int32) (0 : Int32)).1 1 = (1, s) := by
  have i1 : ¬ (1 : Int32) = 0 := by decide
  intro d
  induction d with
  | zero =>
    intro i n x1 h1 h2 hb
    obtain ⟨n, rfl⟩ : ∃ k, n = k + 1 := ⟨n - 1, by omega⟩
    have z := SO97 h (x1 := x1) (x3 := (f_LH_does s (4 : Int32) (nI i) (0 : Int32) (0 : Int32)).1) (p := i) (by omega) 4 0 5 (by omega) (by omega)
    rw [nI_0] at z
    have c0 : (f_LH_does s (4 : Int32) (nI i) (0 : Int32) (0 : Int32)).1 < 0 := by rw [hv i (by omega), if_neg (by omega)]; decide
    unfold p_LH_isOrderSo_16 f_LH_isOrderSo_16 p_LH_isOrderSo_94 f_LH_isOrderSo_94
    rw [if_pos c0]
    exact ⟨⟨fun _ => z.1, fun q => absurd c0 q⟩, z.2⟩
  | succ d ih =>
    intro i n x1 h1 h2 hb
    obtain ⟨n, rfl⟩ : ∃ k, n = k + 1 := ⟨n - 1, by omega⟩
    have hi : i < l.length := by omega
    have ge : l.getD i 0 = l[i] := by rw [List.getD_eq_getElem?_getD, List.getElem?_eq_getElem hi]; rfl
    have hk := lt (l.getD i 0) (by rw [ge]; exact List.getElem_mem hi)
    have bi := hb i (Nat.le_refl i) hi
    have hV := hv i (by omega)
    rw [if_pos hi] at hV
    have hz : ∀ j, i + 1 ≤ j → j < l.length → (x1 ||| ((1 : Int32) <<< (nI (l.getD i 0) &&& (31 : Int32)))).toBitVec.getLsbD (l.getD j 0) = false := fun j hj hj2 => by
      have gj : l.getD j 0 = l[j] := by rw [List.getD_eq_getElem?_getD, List.getElem?_eq_getElem hj2]; rfl
      refine bit_or x1 hk (lt _ (by rw [gj]; exact List.getElem_mem hj2)) (fun q => ?_) (hb j (by omega) hj2)
      rw [ge, gj] at q
      exact (List.pairwise_iff_getElem.mp nd i j hi hj2 (by omega)) q.symm
    have z := ih (i + 1) n (x1 ||| ((1 : Int32) <<< (nI (l.getD i 0) &&& (31 : Int32)))) (by omega) (by omega) hz
    rw [← nI_1 i] at z
    generalize l.getD i 0 = k0 at *
    have q1 : q_code k0 < 100 := by unfold q_code; omega
    have q2 : q_code k0 % 10 = k0 % 6 := by unfold q_code; omega
    have q3 : q_code k0 / 10 = k0 / 6 := by unfold q_code; omega
    rw [hV]
    have c0 : ¬ nI (q_code k0) < 0 := qz (by omega)
    have e1 : nI (q_code k0) - nI (q_code k0) / (10 : Int32) * (10 : Int32) = nI (k0 % 6) := by rw [qr_10 (by omega), q2]
    have e2 : nI (q_code k0) / (10 : Int32) = nI (k0 / 6) := by rw [qd_10 (by omega), q3]
    have e3 : (6 : Int32) * nI (k0 / 6) + nI (k0 % 6) = nI k0 := by rw [qw_6, nI_add, show 6 * (k0 / 6) + k0 % 6 = k0 from by omega]
    have c6 : ¬ (6 : Int32) ≤ nI (k0 % 6) := ql_6 (by omega)
    have c4 : ¬ (4 : Int32) ≤ nI (k0 / 6) := ql_4 (by omega)
    have cb : (x1 >>> (nI k0 &&& (31 : Int32))) &&& (1 : Int32) = 0 := (bit_t x1 hk).mpr bi
    unfold p_LH_isOrderSo_16 f_LH_isOrderSo_16 p_LH_isOrderSo_70 f_LH_isOrderSo_70
    rw [e1, e2, e3, LHorder_2, if_neg c0, if_neg i1, if_neg c6, if_neg c4, if_pos cb]
    exact ⟨⟨fun q => absurd q c0, fun _ => ⟨fun q => absurd q i1, fun _ => ⟨fun q => absurd q c6, fun _ => ⟨fun q => absurd q c4, fun _ => ⟨fun _ => ⟨order_p h, z.1⟩, fun q => absurd cb q⟩⟩⟩⟩⟩, z.2⟩
/-- THE ORDER IS SO -/
theorem LS_order {c : Nat} {s : am_M} (h : pu_R c s) : p_LH_isOrderSo s ∧ f_LH_isOrderSo s = (1, s) := by
  obtain ⟨l, l24, nd, lt, hv⟩ := order_v h
  have z := SO16 h l24 nd lt hv l.length 0 25 0 (by omega) (by omega) (fun j _ _ => by
    show (0 : Int32).toBitVec.getLsbD _ = false
    exact BitVec.getLsbD_zero)
  rw [nI_0] at z
  unfold p_LH_isOrderSo f_LH_isOrderSo
  rw [LHorder_2]
  exact ⟨⟨order_p h, z.1⟩, z.2⟩
end
