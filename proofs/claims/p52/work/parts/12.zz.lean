noncomputable section
-- THE LAW'S LOOP
section
variable {L : Nat} {xs : Nat → Int32} {K : am_M → am_M → Int32 → Int32 → Int32 × am_M × am_M} {KP : am_M → am_M → Int32 → Int32 → Prop} {d : Nat} {x4 : Int32}
theorem V310 (H : ∀ s t, RR d s t → KP s t (1 : Int32) (x4 + (1 : Int32)) ∧ (K s t (1 : Int32) (x4 + (1 : Int32))).1 = 1) {s t : am_M} {x5 x6 : Int32} (r : RR d s t) : p_LAW_310 L xs KP s t (1 : Int32) x4 x5 x6 ∧ (f_LAW_310 L xs K s t (1 : Int32) x4 x5 x6).1 = 1 := H s t r
theorem V258 (H : ∀ s t, RR d s t → KP s t (1 : Int32) (x4 + (1 : Int32)) ∧ (K s t (1 : Int32) (x4 + (1 : Int32))).1 = 1) {s t : am_M} {x5 x6 : Int32} (r : RR d s t) : p_LAW_258 L xs KP s t (1 : Int32) x4 x5 x6 ∧ (f_LAW_258 L xs K s t (1 : Int32) x4 x5 x6).1 = 1 := by
  unfold p_LAW_258 f_LAW_258
  by_cases q : (x4 - x4 / (13 : Int32) * (13 : Int32)) = (10 : Int32)
  · obtain ⟨a1, a2, a3⟩ := LS_lost r (f_LH_low s (x5 >>> ((6 : Int32) &&& 31)) (3 : Int32)) (f_LH_low s (x5 >>> ((9 : Int32) &&& 31)) (6 : Int32)) (x5 >>> ((11 : Int32) &&& 31))
    have k := V310 (L := L) (xs := xs) (x5 := x5) (x6 := x6) H a3
    have n : ¬ (f_LH_isLostSo s t (f_LH_low s (x5 >>> ((6 : Int32) &&& 31)) (3 : Int32)) (f_LH_low s (x5 >>> ((9 : Int32) &&& 31)) (6 : Int32)) (x5 >>> ((11 : Int32) &&& 31))).1 = 0 := by rw [a2]; exact i10
    rw [if_pos q, if_neg i10, if_neg n]
    exact ⟨⟨fun _ => ⟨fun z => absurd z i10, fun _ => ⟨lowp (by decide), lowp (by decide), a1, fun z => absurd z n, fun _ => k.1⟩⟩, fun z => absurd q z⟩, k.2⟩
  · have k := V310 (L := L) (xs := xs) (x5 := x5) (x6 := x6) H r
    rw [if_neg q]
    exact ⟨⟨fun z => absurd z q, fun _ => k.1⟩, k.2⟩
theorem V221 (H : ∀ s t, RR d s t → KP s t (1 : Int32) (x4 + (1 : Int32)) ∧ (K s t (1 : Int32) (x4 + (1 : Int32))).1 = 1) {c : Nat} (hc : c + 14 ≤ d) (hd : d ≤ 4000) {s t : am_M} {x5 x6 : Int32} (r : RR c s t) : p_LAW_221 L xs KP s t (1 : Int32) x4 x5 x6 ∧ (f_LAW_221 L xs K s t (1 : Int32) x4 x5 x6).1 = 1 := by
  unfold p_LAW_221 f_LAW_221
  by_cases q : (x4 - x4 / (8 : Int32) * (8 : Int32)) = (6 : Int32)
  · obtain ⟨a1, a2, a3⟩ := LS_act hc hd r (f_LH_low s (x5 >>> ((6 : Int32) &&& 31)) (3 : Int32))
    have k := V258 (L := L) (xs := xs) (x5 := x5) (x6 := x6) H a3
    have n : ¬ (f_LH_isActSo s t (f_LH_low s (x5 >>> ((6 : Int32) &&& 31)) (3 : Int32))).1 = 0 := by rw [a2]; exact i10
    rw [if_pos q, if_neg i10, if_neg n]
    exact ⟨⟨fun _ => ⟨fun z => absurd z i10, fun _ => ⟨lowp (by decide), a1, fun z => absurd z n, fun _ => k.1⟩⟩, fun z => absurd q z⟩, k.2⟩
  · have k := V258 (L := L) (xs := xs) (x5 := x5) (x6 := x6) H (RR_up9 (by omega) r)
    rw [if_neg q]
    exact ⟨⟨fun z => absurd z q, fun _ => k.1⟩, k.2⟩
theorem V177 (H : ∀ s t, RR d s t → KP s t (1 : Int32) (x4 + (1 : Int32)) ∧ (K s t (1 : Int32) (x4 + (1 : Int32))).1 = 1) {c : Nat} (hc : c + 14 ≤ d) (hd : d ≤ 4000) {s t : am_M} {x5 x6 : Int32} (r : RR c s t) : p_LAW_177 L xs KP s t (1 : Int32) x4 x5 x6 ∧ (f_LAW_177 L xs K s t (1 : Int32) x4 x5 x6).1 = 1 := by
  unfold p_LAW_177 f_LAW_177
  by_cases q : (x4 - x4 / (9 : Int32) * (9 : Int32)) = (5 : Int32)
  · obtain ⟨a1, a2, a3⟩ := LS_choice r ((x5 >>> ((6 : Int32) &&& 31)) &&& (1 : Int32)) (f_LH_low s (x5 >>> ((8 : Int32) &&& 31)) (5 : Int32)) (1 : Int32)
    have k := V221 (L := L) (xs := xs) (x5 := x5) (x6 := x6) H hc hd a3
    have n : ¬ (f_LH_isChoiceSo s t ((x5 >>> ((6 : Int32) &&& 31)) &&& (1 : Int32)) (f_LH_low s (x5 >>> ((8 : Int32) &&& 31)) (5 : Int32)) (1 : Int32)).1 = 0 := by rw [a2]; exact i10
    rw [if_pos q, if_neg i10, if_neg n]
    exact ⟨⟨fun _ => ⟨fun z => absurd z i10, fun _ => ⟨lowp (by decide), a1, fun z => absurd z n, fun _ => k.1⟩⟩, fun z => absurd q z⟩, k.2⟩
  · have k := V221 (L := L) (xs := xs) (x5 := x5) (x6 := x6) H hc hd r
    rw [if_neg q]
    exact ⟨⟨fun z => absurd z q, fun _ => k.1⟩, k.2⟩
theorem V129 (H : ∀ s t, RR d s t → KP s t (1 : Int32) (x4 + (1 : Int32)) ∧ (K s t (1 : Int32) (x4 + (1 : Int32))).1 = 1) {c : Nat} (hc : c + 14 ≤ d) (hd : d ≤ 4000) {s t : am_M} {x3 x5 x6 : Int32} (r : RR c s t) : p_LAW_129 L xs KP s t x3 x4 x5 x6 ∧ (f_LAW_129 L xs K s t x3 x4 x5 x6).1 = 1 := by
  unfold p_LAW_129 f_LAW_129 p_LAW_134 f_LAW_134
  by_cases q : (x4 - x4 / (7 : Int32) * (7 : Int32)) = (4 : Int32)
  · obtain ⟨a1, a2, a3⟩ := LS_answer r (f_LH_low s (x5 >>> ((6 : Int32) &&& 31)) (6 : Int32)) (x5 >>> ((9 : Int32) &&& 31))
    have k := V177 (L := L) (xs := xs) (x5 := x5) (x6 := x6) H hc hd a3
    have n : ¬ (f_LH_isAnswerSo s t (f_LH_low s (x5 >>> ((6 : Int32) &&& 31)) (6 : Int32)) (x5 >>> ((9 : Int32) &&& 31))).1 = 0 := by rw [a2]; exact i10
    rw [if_pos q, if_neg i10, if_neg n]
    exact ⟨⟨fun _ => ⟨fun z => absurd z i10, fun _ => ⟨lowp (by decide), a1, fun z => absurd z n, fun _ => k.1⟩⟩, fun z => absurd q z⟩, k.2⟩
  · have k := V177 (L := L) (xs := xs) (x5 := x5) (x6 := x6) H hc hd r
    rw [if_neg q]
    exact ⟨⟨fun z => absurd z q, fun _ => k.1⟩, k.2⟩
theorem V113 (H : ∀ s t, RR d s t → KP s t (1 : Int32) (x4 + (1 : Int32)) ∧ (K s t (1 : Int32) (x4 + (1 : Int32))).1 = 1) {c : Nat} (hc : c + 14 ≤ d) (hd : d ≤ 4000) {s t : am_M} {x3 x5 x6 : Int32} (r : RR c s t) : p_LAW_113 L xs KP s t x3 x4 x5 x6 ∧ (f_LAW_113 L xs K s t x3 x4 x5 x6).1 = 1 := by
  unfold p_LAW_113 f_LAW_113
  have k := V129 (L := L) (xs := xs) (x3 := x3) (x5 := x5) (x6 := x6) H hc hd r
  by_cases q : (x4 - x4 / (6 : Int32) * (6 : Int32)) = (1 : Int32)
  · obtain ⟨a1, a2⟩ := LS_order r.1
    rw [if_pos q, a2]
    dsimp only
    rw [if_neg i10]
    exact ⟨⟨fun _ => ⟨a1, fun z => absurd z i10, fun _ => k.1⟩, fun z => absurd q z⟩, k.2⟩
  · rw [if_neg q]
    exact ⟨⟨fun z => absurd z q, fun _ => k.1⟩, k.2⟩
theorem V97 (H : ∀ s t, RR d s t → KP s t (1 : Int32) (x4 + (1 : Int32)) ∧ (K s t (1 : Int32) (x4 + (1 : Int32))).1 = 1) {c : Nat} (hc : c + 14 ≤ d) (hd : d ≤ 4000) {s t : am_M} {x3 x5 x6 : Int32} (r : RR c s t) : p_LAW_97 L xs KP s t x3 x4 x5 x6 ∧ (f_LAW_97 L xs K s t x3 x4 x5 x6).1 = 1 := by
  unfold p_LAW_97 f_LAW_97
  by_cases q : (x4 - x4 / (5 : Int32) * (5 : Int32)) = (3 : Int32)
  · obtain ⟨a1, a2, a3⟩ := LS_alike r
    have k := V113 (L := L) (xs := xs) (x3 := x3) (x5 := x5) (x6 := x6) H hc hd a3
    have n : ¬ (f_LH_areAlike s t).1 = 0 := by rw [a2]; exact i10
    rw [if_pos q, if_neg n]
    exact ⟨⟨fun _ => ⟨a1, fun z => absurd z n, fun _ => k.1⟩, fun z => absurd q z⟩, k.2⟩
  · have k := V113 (L := L) (xs := xs) (x3 := x3) (x5 := x5) (x6 := x6) H hc hd r
    rw [if_neg q]
    exact ⟨⟨fun z => absurd z q, fun _ => k.1⟩, k.2⟩
end
theorem V316 {L : Nat} {xs : Nat → Int32} {c : Nat} {s t : am_M} {x4 : Int32} (r : RR c s t) : p_LAW_316 L xs s t (1 : Int32) x4 ∧ (f_LAW_316 L xs s t (1 : Int32) x4).1 = 1 := by
  unfold p_LAW_316 f_LAW_316
  obtain ⟨a1, a2, a3⟩ := LS_alike r
  obtain ⟨b1, b2⟩ := LS_order a3.1
  have n : ¬ (f_LH_areAlike s t).1 = 0 := by rw [a2]; exact i10
  have n2 : ¬ (f_LH_isOrderSo (f_LH_areAlike s t).2.1).1 = 0 := by rw [b2]; exact i10
  rw [if_neg i10, if_neg n, if_neg n2]
  exact ⟨⟨fun z => absurd z i10, fun _ => ⟨a1, fun z => absurd z n, fun _ => ⟨b1, fun z => absurd z n2, fun _ => trivial⟩⟩⟩, rfl⟩
theorem V39 {L : Nat} {xs : Nat → Int32} (hL : L ≤ 260) : ∀ (n k : Nat) (s t : am_M), n + k = 101 → k ≤ 100 → RR (98 + 21 * k) s t → p_LAW_39 L xs n s t (1 : Int32) (nI k) ∧ (f_LAW_39 L xs n s t (1 : Int32) (nI k)).1 = 1 := by
  intro n
  induction n with
  | zero => intro k s t h1 h2 _; omega
  | succ n ih =>
    intro k s t h1 h2 r
    unfold p_LAW_39 f_LAW_39
    by_cases h : k = 100
    · have l : (100 : Int32) ≤ nI k := nI_le (a := 100) (by omega) (by omega)
      have z := V316 (L := L) (xs := xs) (x4 := nI k) r
      rw [if_pos l]
      exact ⟨⟨fun _ => z.1, fun q => absurd l q⟩, z.2⟩
    · have l : ¬ (100 : Int32) ≤ nI k := nI_ge (b := 100) (by omega) (by decide)
      have e61 : nI k - nI k / (61 : Int32) * (61 : Int32) = nI (k % 61) := pk_rem (d := 61) (by omega) (by decide) (by decide)
      have pc : p_LH_cell L xs s (nI k - nI k / (61 : Int32) * (61 : Int32)) := by
        rw [e61]
        unfold p_LH_cell
        exact ⟨fun _ => trivial, fun q => ⟨vp_in_nI (Nat.lt_of_not_le (fun z => q (nI_le z (by omega)))) (by omega), trivial⟩⟩
      have H : ∀ s t, RR (98 + 21 * (k + 1)) s t → p_LAW_39 L xs n s t (1 : Int32) (nI k + (1 : Int32)) ∧ (f_LAW_39 L xs n s t (1 : Int32) (nI k + (1 : Int32))).1 = 1 := fun s t r => by
        rw [nI_1]
        exact ih (k + 1) s t (by omega) (by omega) r
      rw [if_neg l, if_neg i10]
      generalize (f_LH_cel L xs s (nI k - nI k / (61 : Int32) * (61 : Int32))) + ((1429 : Int32) * (nI k / (61 : Int32))) = v
      obtain ⟨ps, pt, z⟩ := LA_all (c := 98 + 21 * k) (d := 98 + 21 * k + 7) (Nat.le_refl _) (by omega) (x1 := v) r
      rcases z with ⟨z1, z2, z3, z4⟩ | ⟨z1, z2, z3⟩
      · have w := V97 (L := L) (xs := xs) (x3 := (1 : Int32)) (x5 := v) (x6 := (f_LH_act s v).1) H (by omega) (by omega) z3
        rw [if_pos z1]
        exact ⟨⟨fun q => absurd q l, fun _ => ⟨fun q => absurd q i10, fun _ => ⟨pc, ps, fun _ => w.1, fun q => absurd z1 q⟩⟩⟩, w.2⟩
      · have w := V97 (L := L) (xs := xs) (x3 := (1 : Int32)) (x5 := v) (x6 := (f_LH_act s v).1) H (by omega) (by omega) z3
        rw [if_neg z1, if_pos z2]
        exact ⟨⟨fun q => absurd q l, fun _ => ⟨fun q => absurd q i10, fun _ => ⟨pc, ps, fun q => absurd q z1, fun _ => ⟨pt, fun _ => w.1, fun q => absurd z2 q⟩⟩⟩⟩, w.2⟩
/-- THE LAW'S OWN PART: what is left when the machine is gone -/
theorem law_pure {L : Nat} {xs : Nat → Int32} (hL : L ≤ 260) : p_LAW L xs pu_S0 pu_S0 ∧ (f_LAW L xs pu_S0 pu_S0).1 = 1 := by
  have f0 : BF pu_S0 0 0 0 0 0 0 := ⟨by decide +kernel, by decide +kernel, by decide +kernel, by decide +kernel, by decide +kernel, by decide +kernel, by decide +kernel⟩
  obtain ⟨b1, b2, b3⟩ := LS_begun (c := 98) ((pu_R_0 (fun _ _ => rfl)).mono (by omega)) f0
  have n : ¬ (f_LH_isBegun pu_S0).1 = 0 := by rw [b2]; exact i10
  have k := V39 (L := L) (xs := xs) hL 101 0 (f_LH_isBegun pu_S0).2 (f_LH_isBegun pu_S0).2 (by omega) (by omega) ⟨b3, b3, gq_rf⟩
  have k : p_LAW_39 L xs 101 (f_LH_isBegun pu_S0).2 (f_LH_isBegun pu_S0).2 (1 : Int32) (0 : Int32) ∧ (f_LAW_39 L xs 101 (f_LH_isBegun pu_S0).2 (f_LH_isBegun pu_S0).2 (1 : Int32) (0 : Int32)).1 = 1 := k
  unfold p_LAW f_LAW p_LAW_35 f_LAW_35
  rw [if_neg n, if_neg n]
  exact ⟨⟨b1, fun q => absurd q n, fun _ => ⟨b1, fun q => absurd q n, fun _ => k.1⟩⟩, k.2⟩
end
