noncomputable section
-- run: a row is added
def q_L10 (t : Nat) : List q_It := [(10, t, q_m1, q_m1)]
theorem qs_dAdd {A U Q V R sc sm : am_M} (W : q_WW A U Q V) (CC : q_CC A U Q V sc) (MM : q_MM A U Q V sm) (cb : q_cb sc 9 10 11 R) (mb : q_mb sm R) (wr : q_wr A R) {j k t L : Nat} (hj : j < 4) (hk : k < 6) (hkk : k < q_c (V (126 + 14 * j) 1)) (k1 : V (q_xs j k) 0 = 1) (v3 : V (q_xs j k) 3 = nI t) (ht : t < q_nt A) (hd : ∀ i, i < 6 → q_v (V (q_xs j k + 1) i)) (hL : sc 1 12 = nI L) (hL1 : L < 100000) : ∃ B sc' sm' R' L', p_CB_addFrom sc (q_xs j k) ∧ f_CB_addFrom sc (q_xs j k) = (q_good B, sc') ∧ p_MO_doesAdd sm (nI (6 * j + k)) ∧ f_MO_doesAdd sm (nI (6 * j + k)) = (q_good B, sm') ∧ q_SS A U Q sc sm sc' sm' B R R' L L' ∧ L' ≤ L + 1 := by
  obtain ⟨w, uw, qw, vw⟩ := W
  have h4 := w.1.2
  obtain ⟨cd, oc, uc, qc, vc⟩ := CC
  obtain ⟨md, um, qm, vm⟩ := MM
  obtain ⟨l1, l2, l3, l4, l5⟩ := qv_lk j hj
  obtain ⟨-, hx, lk4, hxd⟩ := l5 k hk
  have hx1 : 126 ≤ 128 + 14 * j + 2 * k := by omega
  have hx2 : 128 + 14 * j + 2 * k ≤ 181 := by omega
  have ht4 : t < 4 := by omega
  have e0 := wr.1 t ht4
  obtain ⟨-, m2⟩ := vm j hj
  obtain ⟨-, m3, -, -⟩ := m2 k hkk
  obtain ⟨m5, m6⟩ := m3 k1
  have x3 : sc (128 + 14 * j + 2 * k) 3 = nI t := by rw [vc _ hx1 hx2]; exact v3
  have s57 : sm 257 (6 * j + k) = nI t := m5.trans v3
  have ct : (nI (6 * j + k)).toNatClampNeg = 6 * j + k := nI_clamp (by omega)
  have ctt : (nI t).toNatClampNeg = t := nI_clamp (by omega)
  have vt : vp_in (nI (6 * j + k)) 24 := vp_in_nI (by omega) (by omega)
  have v4 : vp_in (nI t) 4 := vp_in_nI ht4 (by omega)
  have hfull := q_full sc cb ht4 ⟨e0.1, e0.2.1⟩
  have f28 : sm 228 t = nI (q_c (R 0 t)) := (mb.1 t ht4).trans e0.1
  have xs : q_xs j k = 128 + 14 * j + 2 * k := rfl
  rw [xs]
  generalize hm9 : q_c (R 0 t) = m at *
  by_cases hm : m < 30
  rotate_left
  · rw [if_neg hm] at hfull
    have y30 : nI m = (30 : Int32) := (qe_30 (by omega)).mpr (by omega)
    obtain ⟨r1, r2, r3, r4, r5, r6⟩ := q_re16 sc 10 (nI t) (-1) (-1)
    have href : f_BA_refuse sc 10 (nI t) (-1) = (0, f_RE_set sc 16 10 (nI t) (-1) (-1)) := rfl
    refine ⟨q_L10 t, f_RE_set sc 16 10 (nI t) (-1) (-1), q_td sm 10 (nI t) (-1) (-1), R, L, ?_, ?_, ?_, ?_, ⟨q_out_w r2 (fun a b z => by unfold q_FC; omega), q_out_w (q_td_o _ _ _ _ _) (fun a b z => by unfold q_FM; omega), by rw [r2 _ _ (by omega)]; exact hL, Nat.le_refl _, fun _ => ⟨⟨r3, r4, r5, r6⟩, q_td_v _ _ _ _ _, q_rs_1 (by omega) (by omega)⟩, fun z => absurd z (by unfold q_L10; simp)⟩, by omega⟩
    · unfold p_CB_addFrom
      rw [x3, hfull.2]
      exact ⟨hx, hfull.1, fun z => absurd z i10, fun _ => ⟨⟨r1, trivial⟩, Or.inl rfl, trivial⟩⟩
    · unfold f_CB_addFrom
      rw [x3, hfull.2, if_neg i10, href]; rfl
    · unfold p_MO_doesAdd
      rw [ct, s57, ctt, f28]
      exact ⟨vt, v4, fun _ => trivial, fun z => absurd y30 z⟩
    · unfold f_MO_doesAdd
      rw [ct, s57, ctt, f28, if_pos y30]; rfl
  rw [if_pos hm] at hfull
  have n30 : ¬ nI m = (30 : Int32) := fun z => by have := (qe_30 (by omega)).mp z; omega
  obtain ⟨v, hv⟩ : ∃ v : Nat → Int32, ∀ c, c < 6 → v c = if q_sto A (6 * t + c) then sc (129 + 14 * j + 2 * k) c else -1000000 := ⟨fun c => if q_sto A (6 * t + c) then sc (129 + 14 * j + 2 * k) c else -1000000, fun _ _ => rfl⟩
  have scd : ∀ c, sc (129 + 14 * j + 2 * k) c = V (129 + 14 * j + 2 * k) c := fun c => by rw [vc _ (by omega) (by omega)]
  have hvs : q_vs A t v := fun c hc => by
    rw [hv c hc]
    by_cases s : q_sto A (6 * t + c)
    · rw [if_pos s, scd c]
      have := hd c hc
      rw [xs, show 128 + 14 * j + 2 * k + 1 = 129 + 14 * j + 2 * k from by omega] at this
      exact ⟨this, fun z => absurd s z⟩
    · rw [if_neg s]; exact ⟨by unfold q_v; decide, fun _ => rfl⟩
  have hn : ∀ c, c < 6 → ¬ nI c = (-1 : Int32) := fun c hc => q_m1_ne (by omega)
  have hv1 : ∀ c, c < 6 → v c = if q_sto A (6 * t + c) then (if nI c = (-1 : Int32) then (-1000000 : Int32) else sc (129 + 14 * j + 2 * k) c) else -1000000 := fun c hc => by
    rw [hv c hc, if_neg (hn c hc)]
  have hv2 : ∀ c, c < 6 → v c = if q_sto A (6 * t + c) then (if nI c = (-1 : Int32) then sm 207 29 else sm 260 (6 * (6 * j + k) + c)) else -1000000 := fun c hc => by
    rw [hv c hc, if_neg (hn c hc), m6 c hc, scd c]
  have hwr := fun z => q_ent_wr (U := U) (f := L + 1) w wr ht ht4 hm hm9 hvs z
  have hwe := q_ent_we (f := L + 1) wr.we ht ht4 hm hm9 hvs
  obtain ⟨a1, sc1, a2, a3, a4, a5, a6⟩ := qc_enter (xd := 129 + 14 * j + 2 * k) (x3 := -1) (x4 := -1000000) cd oc w wr.we cb uc uw ht hm hm9 hxd (by omega) hL hL1 hvs hv1
  obtain ⟨b1, sm1, b2, b3, b4, b5⟩ := qm_enter (x2 := 260) (off := 6 * (6 * j + k)) (N := 144) (f := L + 1) (x4 := -1) md w wr.we mb um uw ht hm hm9 ⟨by omega, by decide +kernel⟩ (by omega) ⟨by omega, by omega, by omega⟩ (by omega) (by omega) (by omega) (by omega) hvs hv2
  have hre := q_we_reck w hwe
  have hsr : q_sr R (q_reck A (q_ent R t m (nI (L + 1)) v)) L (L + 1) := by
    refine ⟨fun u hu => ?_, fun p hp => ?_⟩
    · rw [hre.2.2, q_ent_0]
      by_cases e : u = t
      · rw [if_pos e, e, hm9, show q_c (nI (m + 1)) = m + 1 from nI_clamp (by omega)]; omega
      · rw [if_neg e]; exact Nat.le_refl _
    · rw [hre.2.1, q_ent_1]
      by_cases e : p = 30 * t + m
      · rw [if_pos e]
        refine Or.inr (Or.inr ⟨?_, L + 1, by omega, by omega, rfl⟩)
        rw [e, show (30 * t + m) / 30 = t from by omega, hm9]; omega
      · rw [if_neg e]; exact Or.inl rfl
  have hst9 : q_brk A U (q_reck A (q_ent R t m (nI (L + 1)) v)) = [] → q_st9 A U R (q_reck A (q_ent R t m (nI (L + 1)) v)) := fun z => Or.inr ⟨_, rfl, z⟩
  have hrs : q_rs (q_brk A U (q_reck A (q_ent R t m (nI (L + 1)) v))) := q_rs_brk
  generalize q_brk A U (q_reck A (q_ent R t m (nI (L + 1)) v)) = B at *
  generalize q_reck A (q_ent R t m (nI (L + 1)) v) = RR at *
  have oc1 : q_out sc sc1 q_FC := q_out_w a3 (fun a b z => by unfold q_FC; omega)
  have om1 : q_out sm sm1 (q_FM Q) := q_out_w b3 (fun a b z => by unfold q_FM; omega)
  have ix : (6 : Int32) * nI (6 * j + k) = nI (6 * (6 * j + k)) := qw_6 _
  have l0 : (-1 : Int32) < 0 := by decide
  have zm : ¬ nI m < 0 := qz (by omega)
  have nm := q_m1_ne (n := m) (by omega)
  have pC : p_CB_addFrom sc (128 + 14 * j + 2 * k) := by
    unfold p_CB_addFrom
    rw [x3, hfull.2, lk4]
    exact ⟨hx, hfull.1, fun _ => ⟨hxd, a1, fun _ => trivial, fun _ => trivial⟩, fun z => absurd rfl z⟩
  have pM : p_MO_doesAdd sm (nI (6 * j + k)) := by
    unfold p_MO_doesAdd
    rw [ct, s57, ctt, f28, ix]
    exact ⟨vt, v4, fun z => absurd z n30, fun _ => ⟨b1, fun _ => trivial, fun _ => trivial⟩⟩
  rcases q_good_c B with ⟨g1, g2, g3⟩ | ⟨g1, g2, g3⟩
  · rw [g2, if_neg i10] at a2 b2
    rw [g3] at a4 b4
    refine ⟨B, sc1, sm1, RR, L + 1, pC, ?_, pM, ?_, ⟨oc1, om1, a6, by omega, fun z => absurd g1 z, fun _ => ⟨a4, b4, hwr g1, hsr, hst9 g1⟩⟩, Nat.le_refl _⟩
    · unfold f_CB_addFrom
      rw [x3, hfull.2, if_pos rfl, lk4, a2, if_neg zm, g2]
    · unfold f_MO_doesAdd
      rw [ct, s57, ctt, f28, if_neg n30, ix, b2, if_neg nm, g2]
  · rw [g2, if_pos rfl] at a2 b2
    refine ⟨B, sc1, sm1, RR, L + 1, pC, ?_, pM, ?_, ⟨oc1, om1, a6, by omega, fun _ => ⟨a5, b5, hrs⟩, fun z => absurd z g1⟩, Nat.le_refl _⟩
    · unfold f_CB_addFrom
      rw [x3, hfull.2, if_pos rfl, lk4, a2, if_pos l0, g2]
    · unfold f_MO_doesAdd
      rw [ct, s57, ctt, f28, if_neg n30, ix, b2, if_pos rfl, g2]
end
