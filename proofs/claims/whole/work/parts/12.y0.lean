noncomputable section
theorem pu_cmp (x : Int64) : lg_cmp x x = 0 := by simp [lg_cmp]
/-- what each operation owes: the model's 'thrown' is the class's code, the answers are one, the relation holds behind it -/
def pu_I (R : am_M → Prop) (k : Int32) (r : Int32 × am_M) : Prop := f_MO_thrown r.2 = k ∧ (k = 0 → r.2 262 ((0 : Int32)).toNatClampNeg = r.1) ∧ R r.2
def pu_B (R : am_M → Prop) (k : Int32) (r : Int32 × am_M) : Prop := f_MO_thrown r.2 = k ∧ (k = 0 → r.2 262 ((0 : Int32)).toNatClampNeg = if r.1 = 0 then 0 else 1) ∧ R r.2
def pu_V (R : am_M → Prop) (k : Int32) (r : am_M) : Prop := f_MO_thrown r = k ∧ R r
theorem pu_fI {R : am_M → Prop} {K : am_M → Int32 × am_M} {k : Int32} {r : Int32 × am_M} (h : pu_I R k r) : (if (f_MO_thrown r.2) = k then (if k = 0 then (if (lg_cmp (r.2 262 ((0 : Int32)).toNatClampNeg).toInt64 r.1.toInt64) = 0 then (K r.2) else ((0 : Int32), r.2)) else (K r.2)) else ((0 : Int32), r.2)) = K r.2 := by
  obtain ⟨h1, h2, -⟩ := h
  rw [if_pos h1]
  by_cases hk : k = 0
  · rw [if_pos hk, h2 hk, if_pos (pu_cmp _)]
  · rw [if_neg hk]
theorem pu_pI {R : am_M → Prop} {KP : am_M → Prop} {k : Int32} {r : Int32 × am_M} (_h : pu_I R k r) (h : KP r.2) : (((f_MO_thrown r.2) = k) → ((k = 0) → vp_in (0 : Int32) 1 ∧ ((((lg_cmp (r.2 262 ((0 : Int32)).toNatClampNeg).toInt64 r.1.toInt64) = 0) → (KP r.2)) ∧ (¬ ((lg_cmp (r.2 262 ((0 : Int32)).toNatClampNeg).toInt64 r.1.toInt64) = 0) → True))) ∧ (¬ (k = 0) → (KP r.2))) ∧ (¬ ((f_MO_thrown r.2) = k) → True) :=
  ⟨fun _ => ⟨fun _ => ⟨vp_in_nI (n := 0) (by decide) (by decide), fun _ => h, fun _ => trivial⟩, fun _ => h⟩, fun _ => trivial⟩
theorem pu_fB {R : am_M → Prop} {K : am_M → Int32 × am_M} {k : Int32} {r : Int32 × am_M} (h : pu_B R k r) : (if (f_MO_thrown r.2) = k then (if k = 0 then (if r.1 = 0 then (if (lg_cmp (r.2 262 ((0 : Int32)).toNatClampNeg).toInt64 (0 : Int32).toInt64) = 0 then (K r.2) else ((0 : Int32), r.2)) else (if (lg_cmp (r.2 262 ((0 : Int32)).toNatClampNeg).toInt64 (1 : Int32).toInt64) = 0 then (K r.2) else ((0 : Int32), r.2))) else (K r.2)) else ((0 : Int32), r.2)) = K r.2 := by
  obtain ⟨h1, h2, -⟩ := h
  rw [if_pos h1]
  by_cases hk : k = 0
  · rw [if_pos hk, h2 hk]
    by_cases h0 : r.1 = 0
    · rw [if_pos h0, if_pos h0, if_pos (pu_cmp _)]
    · rw [if_neg h0, if_neg h0, if_pos (pu_cmp _)]
  · rw [if_neg hk]
theorem pu_pB {R : am_M → Prop} {KP : am_M → Prop} {k : Int32} {r : Int32 × am_M} (_h : pu_B R k r) (h : KP r.2) : (((f_MO_thrown r.2) = k) → ((k = 0) → vp_in (0 : Int32) 1 ∧ (((r.1 = 0) → (((lg_cmp (r.2 262 ((0 : Int32)).toNatClampNeg).toInt64 (0 : Int32).toInt64) = 0) → (KP r.2)) ∧ (¬ ((lg_cmp (r.2 262 ((0 : Int32)).toNatClampNeg).toInt64 (0 : Int32).toInt64) = 0) → True)) ∧ (¬ (r.1 = 0) → (((lg_cmp (r.2 262 ((0 : Int32)).toNatClampNeg).toInt64 (1 : Int32).toInt64) = 0) → (KP r.2)) ∧ (¬ ((lg_cmp (r.2 262 ((0 : Int32)).toNatClampNeg).toInt64 (1 : Int32).toInt64) = 0) → True)))) ∧ (¬ (k = 0) → (KP r.2))) ∧ (¬ ((f_MO_thrown r.2) = k) → True) :=
  ⟨fun _ => ⟨fun _ => ⟨vp_in_nI (n := 0) (by decide) (by decide), fun _ => ⟨fun _ => h, fun _ => trivial⟩, fun _ => ⟨fun _ => h, fun _ => trivial⟩⟩, fun _ => h⟩, fun _ => trivial⟩
theorem pu_fV {R : am_M → Prop} {K : am_M → Int32 × am_M} {k : Int32} {r : am_M} (h : pu_V R k r) : (if (f_MO_thrown r) = k then (K r) else ((0 : Int32), r)) = K r := by rw [if_pos h.1]
theorem pu_pV {R : am_M → Prop} {KP : am_M → Prop} {k : Int32} {r : am_M} (_h : pu_V R k r) (h : KP r) : (((f_MO_thrown r) = k) → (KP r)) ∧ (¬ ((f_MO_thrown r) = k) → True) := ⟨fun _ => h, fun _ => trivial⟩
theorem pu_sw {e p1 p2 : Prop} [Decidable e] {f1 f2 : Int32 × am_M} (h1 : e → p1 ∧ f1.1 = 1) (h2 : ¬ e → p2 ∧ f2.1 = 1) : ((e → p1) ∧ (¬ e → p2)) ∧ (if e then f1 else f2).1 = 1 := by
  by_cases h : e
  · rw [if_pos h]; exact ⟨⟨fun _ => (h1 h).1, fun q => absurd h q⟩, (h1 h).2⟩
  · rw [if_neg h]; exact ⟨⟨fun q => absurd q h, fun _ => (h2 h).1⟩, (h2 h).2⟩
theorem pu_cs {R : am_M → Prop} {K : am_M → Int32 × am_M} {KP : am_M → Prop} {f : Int32 × am_M} {p : Prop} (H : ∃ t, R t ∧ f = K t ∧ (KP t → p)) (ih : ∀ t, R t → KP t ∧ (K t).1 = 1) : p ∧ f.1 = 1 := by
  obtain ⟨t, h1, h2, h3⟩ := H
  exact ⟨h3 (ih t h1).1, by rw [h2]; exact (ih t h1).2⟩
theorem pu_L {L : Nat} (hL : L ≤ 3584) : ((Int32.ofNat L) - (7 : Int32)).toInt = (L : Int) - 7 := by
  have h1 : (Int32.ofNat L).toInt = (L : Int) := nI_toInt (n := L) (by omega)
  have h2 : (7 : Int32).toInt = 7 := by decide
  rw [Int32.toInt_sub, h1, h2]
  exact Int.bmod_eq_of_le (by omega) (by omega)
theorem pu_Lt {L i : Nat} (hL : L ≤ 3584) (hi : i ≤ L) : ((Int32.ofNat L) - (7 : Int32)) < nI i ↔ L < i + 7 := by
  rw [Int32.lt_iff_toInt_lt, pu_L hL, nI_toInt (by omega)]
  omega
theorem pu_v {L i d : Nat} (hL : L ≤ 3584) (h : ¬ L < i + 7) (hd : d < 7) : vp_in (nI i + nI d) L := by
  rw [nI_add]; exact vp_in_nI (by omega) (by omega)
def op_addTable (R R1 : am_M → Prop) : Prop := ∀ (s : am_M), R s → p_LA_addTable s ∧ pu_I R1 (f_LA_addTable s).1 (f_MO_addTable (f_LA_addTable s).2)
theorem pb_252 {R R1 : am_M → Prop} (h : op_addTable R R1) {L : Nat} {xs : Nat → Int32} {K : am_M → Int32 × am_M} {KP : am_M → Prop} {s : am_M} {x4 : Int32} (h1 : vp_in (x4 + (1 : Int32)) L) (h2 : vp_in (x4 + (2 : Int32)) L) (h3 : vp_in (x4 + (3 : Int32)) L) (h4 : vp_in (x4 + (4 : Int32)) L) (h5 : vp_in (x4 + (5 : Int32)) L) (h6 : vp_in (x4 + (6 : Int32)) L) (hR : R s) : ∃ t, R1 t ∧ f_LB_252 L xs K s x4 = K t ∧ (KP t → p_LB_252 L xs KP s x4) := by
  obtain ⟨qa, e⟩ := h s hR
  refine ⟨_, e.2.2, ?_, fun hK => ?_⟩
  · unfold f_LB_252 f_LC_259 f_LC_265; exact pu_fI e
  · unfold p_LB_252 p_LC_259 p_LC_265; exact ⟨qa, pu_pI e hK⟩
def op_addNumber (R R1 : am_M → Prop) : Prop := ∀ (s : am_M) (a1 a2 a3 : Int32), R s → p_LA_addNumber s a1 a2 a3 ∧ p_MO_addNumber (f_LA_addNumber s a1 a2 a3).2 a1 a2 a3 ∧ pu_I R1 (f_LA_addNumber s a1 a2 a3).1 (f_MO_addNumber (f_LA_addNumber s a1 a2 a3).2 a1 a2 a3)
theorem pb_296 {R R1 : am_M → Prop} (h : op_addNumber R R1) {L : Nat} {xs : Nat → Int32} {K : am_M → Int32 × am_M} {KP : am_M → Prop} {s : am_M} {x4 : Int32} (h1 : vp_in (x4 + (1 : Int32)) L) (h2 : vp_in (x4 + (2 : Int32)) L) (h3 : vp_in (x4 + (3 : Int32)) L) (h4 : vp_in (x4 + (4 : Int32)) L) (h5 : vp_in (x4 + (5 : Int32)) L) (h6 : vp_in (x4 + (6 : Int32)) L) (hR : R s) : ∃ t, R1 t ∧ f_LB_296 L xs K s x4 = K t ∧ (KP t → p_LB_296 L xs KP s x4) := by
  obtain ⟨qa, qm, e⟩ := h s (xs (x4 + (1 : Int32)).toNatClampNeg) (xs (x4 + (2 : Int32)).toNatClampNeg) (xs (x4 + (3 : Int32)).toNatClampNeg) hR
  refine ⟨_, e.2.2, ?_, fun hK => ?_⟩
  · unfold f_LB_296 f_LC_321 f_LC_345; exact pu_fI e
  · unfold p_LB_296 p_LC_321 p_LC_345; exact ⟨h1, h2, h3, qa, ⟨h1, h2, h3, qm, pu_pI e hK⟩⟩
def op_addLink (R R1 : am_M → Prop) : Prop := ∀ (s : am_M) (a1 a2 a3 : Int32), R s → p_LA_addLink s a1 a2 a3 ∧ p_MO_addLink (f_LA_addLink s a1 a2 a3).2 a1 a2 a3 ∧ pu_I R1 (f_LA_addLink s a1 a2 a3).1 (f_MO_addLink (f_LA_addLink s a1 a2 a3).2 a1 a2 a3)
theorem pb_376 {R R1 : am_M → Prop} (h : op_addLink R R1) {L : Nat} {xs : Nat → Int32} {K : am_M → Int32 × am_M} {KP : am_M → Prop} {s : am_M} {x4 : Int32} (h1 : vp_in (x4 + (1 : Int32)) L) (h2 : vp_in (x4 + (2 : Int32)) L) (h3 : vp_in (x4 + (3 : Int32)) L) (h4 : vp_in (x4 + (4 : Int32)) L) (h5 : vp_in (x4 + (5 : Int32)) L) (h6 : vp_in (x4 + (6 : Int32)) L) (hR : R s) : ∃ t, R1 t ∧ f_LB_376 L xs K s x4 = K t ∧ (KP t → p_LB_376 L xs KP s x4) := by
  obtain ⟨qa, qm, e⟩ := h s (xs (x4 + (1 : Int32)).toNatClampNeg) (xs (x4 + (2 : Int32)).toNatClampNeg) (xs (x4 + (3 : Int32)).toNatClampNeg) hR
  refine ⟨_, e.2.2, ?_, fun hK => ?_⟩
  · unfold f_LB_376 f_LC_401 f_LC_425; exact pu_fI e
  · unfold p_LB_376 p_LC_401 p_LC_425; exact ⟨h1, h2, h3, qa, ⟨h1, h2, h3, qm, pu_pI e hK⟩⟩
def op_addReckoned (R R1 : am_M → Prop) : Prop := ∀ (s : am_M) (a1 a2 a3 a4 a5 : Int32), R s → p_LA_addReckoned s a1 a2 a3 a4 a5 ∧ p_MO_addReckoned (f_LA_addReckoned s a1 a2 a3 a4 a5).2 a1 a2 a3 a4 a5 ∧ pu_I R1 (f_LA_addReckoned s a1 a2 a3 a4 a5).1 (f_MO_addReckoned (f_LA_addReckoned s a1 a2 a3 a4 a5).2 a1 a2 a3 a4 a5)
theorem pb_456 {R R1 : am_M → Prop} (h : op_addReckoned R R1) {L : Nat} {xs : Nat → Int32} {K : am_M → Int32 × am_M} {KP : am_M → Prop} {s : am_M} {x4 : Int32} (h1 : vp_in (x4 + (1 : Int32)) L) (h2 : vp_in (x4 + (2 : Int32)) L) (h3 : vp_in (x4 + (3 : Int32)) L) (h4 : vp_in (x4 + (4 : Int32)) L) (h5 : vp_in (x4 + (5 : Int32)) L) (h6 : vp_in (x4 + (6 : Int32)) L) (hR : R s) : ∃ t, R1 t ∧ f_LB_456 L xs K s x4 = K t ∧ (KP t → p_LB_456 L xs KP s x4) := by
  obtain ⟨qa, qm, e⟩ := h s (xs (x4 + (1 : Int32)).toNatClampNeg) (xs (x4 + (2 : Int32)).toNatClampNeg) (xs (x4 + (3 : Int32)).toNatClampNeg) (xs (x4 + (4 : Int32)).toNatClampNeg) (xs (x4 + (5 : Int32)).toNatClampNeg) hR
  refine ⟨_, e.2.2, ?_, fun hK => ?_⟩
  · unfold f_LB_456 f_LC_493 f_LC_529; exact pu_fI e
  · unfold p_LB_456 p_LC_493 p_LC_529; exact ⟨h1, h2, h3, h4, h5, qa, ⟨h1, h2, h3, h4, h5, qm, pu_pI e hK⟩⟩
def op_reckonAnew (R R1 : am_M → Prop) : Prop := ∀ (s : am_M) (a1 a2 a3 a4 a5 a6 : Int32), R s → p_LA_reckonAnew s a1 a2 a3 a4 a5 a6 ∧ p_MO_reckonAnew (f_LA_reckonAnew s a1 a2 a3 a4 a5 a6).2 a1 a2 a3 a4 a5 a6 ∧ pu_B R1 (f_LA_reckonAnew s a1 a2 a3 a4 a5 a6).1 (f_MO_reckonAnew (f_LA_reckonAnew s a1 a2 a3 a4 a5 a6).2 a1 a2 a3 a4 a5 a6)
theorem pb_560 {R R1 : am_M → Prop} (h : op_reckonAnew R R1) {L : Nat} {xs : Nat → Int32} {K : am_M → Int32 × am_M} {KP : am_M → Prop} {s : am_M} {x4 : Int32} (h1 : vp_in (x4 + (1 : Int32)) L) (h2 : vp_in (x4 + (2 : Int32)) L) (h3 : vp_in (x4 + (3 : Int32)) L) (h4 : vp_in (x4 + (4 : Int32)) L) (h5 : vp_in (x4 + (5 : Int32)) L) (h6 : vp_in (x4 + (6 : Int32)) L) (hR : R s) : ∃ t, R1 t ∧ f_LB_560 L xs K s x4 = K t ∧ (KP t → p_LB_560 L xs KP s x4) := by
  obtain ⟨qa, qm, e⟩ := h s (xs (x4 + (1 : Int32)).toNatClampNeg) (xs (x4 + (2 : Int32)).toNatClampNeg) (xs (x4 + (3 : Int32)).toNatClampNeg) (xs (x4 + (4 : Int32)).toNatClampNeg) (xs (x4 + (5 : Int32)).toNatClampNeg) (xs (x4 + (6 : Int32)).toNatClampNeg) hR
  refine ⟨_, e.2.2, ?_, fun hK => ?_⟩
  · unfold f_LB_560 f_LC_604 f_LC_647; exact pu_fB e
  · unfold p_LB_560 p_LC_604 p_LC_647; exact ⟨h1, h2, h3, h4, h5, h6, qa, ⟨h1, h2, h3, h4, h5, h6, qm, pu_pB e hK⟩⟩
def op_need (R R1 : am_M → Prop) : Prop := ∀ (s : am_M) (a1 a2 a3 : Int32), R s → (a3 = 0 ∨ a3 = 1) → p_LA_need s a1 a2 a3 ∧ p_MO_need (f_LA_need s a1 a2 a3).2 a1 a2 a3 ∧ pu_B R1 (f_LA_need s a1 a2 a3).1 (f_MO_need (f_LA_need s a1 a2 a3).2 a1 a2 a3)
theorem pb_685 {R R1 : am_M → Prop} (h : op_need R R1) {L : Nat} {xs : Nat → Int32} {K : am_M → Int32 × am_M} {KP : am_M → Prop} {s : am_M} {x4 : Int32} (h1 : vp_in (x4 + (1 : Int32)) L) (h2 : vp_in (x4 + (2 : Int32)) L) (h3 : vp_in (x4 + (3 : Int32)) L) (h4 : vp_in (x4 + (4 : Int32)) L) (h5 : vp_in (x4 + (5 : Int32)) L) (h6 : vp_in (x4 + (6 : Int32)) L) (hR : R s) : ∃ t, R1 t ∧ f_LB_685 L xs K s x4 = K t ∧ (KP t → p_LB_685 L xs KP s x4) := by
  by_cases c0 : (xs (x4 + (3 : Int32)).toNatClampNeg) = 0
  · skip
    obtain ⟨qa, qm, e⟩ := h s (xs (x4 + (1 : Int32)).toNatClampNeg) (xs (x4 + (2 : Int32)).toNatClampNeg) 0 hR (by decide)
    refine ⟨_, e.2.2, ?_, fun hK => ?_⟩
    · unfold f_LB_685 f_LC_718 f_LC_750; rw [if_pos c0, if_pos c0]; exact pu_fB e
    · unfold p_LB_685 p_LC_718 p_LC_750; exact ⟨h1, h2, h3, ⟨fun _ => ⟨qa, ⟨h1, h2, h3, ⟨fun _ => ⟨qm, pu_pB e hK⟩, fun q => absurd c0 q⟩⟩⟩, fun q => absurd c0 q⟩⟩
  · skip
    obtain ⟨qa, qm, e⟩ := h s (xs (x4 + (1 : Int32)).toNatClampNeg) (xs (x4 + (2 : Int32)).toNatClampNeg) 1 hR (by decide)
    refine ⟨_, e.2.2, ?_, fun hK => ?_⟩
    · unfold f_LB_685 f_LC_718 f_LC_750; rw [if_neg c0, if_neg c0]; exact pu_fB e
    · unfold p_LB_685 p_LC_718 p_LC_750; exact ⟨h1, h2, h3, ⟨fun q => absurd q c0, fun _ => ⟨qa, ⟨h1, h2, h3, ⟨fun q => absurd q c0, fun _ => ⟨qm, pu_pB e hK⟩⟩⟩⟩⟩⟩
def op_single (R R1 : am_M → Prop) : Prop := ∀ (s : am_M) (a1 a2 a3 : Int32), R s → (a3 = 0 ∨ a3 = 1) → p_LA_single s a1 a2 a3 ∧ p_MO_single (f_LA_single s a1 a2 a3).2 a1 a2 a3 ∧ pu_B R1 (f_LA_single s a1 a2 a3).1 (f_MO_single (f_LA_single s a1 a2 a3).2 a1 a2 a3)
theorem pb_788 {R R1 : am_M → Prop} (h : op_single R R1) {L : Nat} {xs : Nat → Int32} {K : am_M → Int32 × am_M} {KP : am_M → Prop} {s : am_M} {x4 : Int32} (h1 : vp_in (x4 + (1 : Int32)) L) (h2 : vp_in (x4 + (2 : Int32)) L) (h3 : vp_in (x4 + (3 : Int32)) L) (h4 : vp_in (x4 + (4 : Int32)) L) (h5 : vp_in (x4 + (5 : Int32)) L) (h6 : vp_in (x4 + (6 : Int32)) L) (hR : R s) : ∃ t, R1 t ∧ f_LB_788 L xs K s x4 = K t ∧ (KP t → p_LB_788 L xs KP s x4) := by
  by_cases c0 : (xs (x4 + (3 : Int32)).toNatClampNeg) = 0
  · skip
    obtain ⟨qa, qm, e⟩ := h s (xs (x4 + (1 : Int32)).toNatClampNeg) (xs (x4 + (2 : Int32)).toNatClampNeg) 0 hR (by decide)
    refine ⟨_, e.2.2, ?_, fun hK => ?_⟩
    · unfold f_LB_788 f_LC_821 f_LC_853; rw [if_pos c0, if_pos c0]; exact pu_fB e
    · unfold p_LB_788 p_LC_821 p_LC_853; exact ⟨h1, h2, h3, ⟨fun _ => ⟨qa, ⟨h1, h2, h3, ⟨fun _ => ⟨qm, pu_pB e hK⟩, fun q => absurd c0 q⟩⟩⟩, fun q => absurd c0 q⟩⟩
  · skip
    obtain ⟨qa, qm, e⟩ := h s (xs (x4 + (1 : Int32)).toNatClampNeg) (xs (x4 + (2 : Int32)).toNatClampNeg) 1 hR (by decide)
    refine ⟨_, e.2.2, ?_, fun hK => ?_⟩
    · unfold f_LB_788 f_LC_821 f_LC_853; rw [if_neg c0, if_neg c0]; exact pu_fB e
    · unfold p_LB_788 p_LC_821 p_LC_853; exact ⟨h1, h2, h3, ⟨fun q => absurd q c0, fun _ => ⟨qa, ⟨h1, h2, h3, ⟨fun q => absurd q c0, fun _ => ⟨qm, pu_pB e hK⟩⟩⟩⟩⟩⟩
def op_wouldLose (R R1 : am_M → Prop) : Prop := ∀ (s : am_M) (a1 a2 a3 a4 : Int32), R s → p_LA_wouldLose s a1 a2 a3 a4 ∧ p_MO_wouldLose (f_LA_wouldLose s a1 a2 a3 a4).2 a1 a2 a3 a4 ∧ pu_I R1 (f_LA_wouldLose s a1 a2 a3 a4).1 (f_MO_wouldLose (f_LA_wouldLose s a1 a2 a3 a4).2 a1 a2 a3 a4)
theorem pb_891 {R R1 : am_M → Prop} (h : op_wouldLose R R1) {L : Nat} {xs : Nat → Int32} {K : am_M → Int32 × am_M} {KP : am_M → Prop} {s : am_M} {x4 : Int32} (h1 : vp_in (x4 + (1 : Int32)) L) (h2 : vp_in (x4 + (2 : Int32)) L) (h3 : vp_in (x4 + (3 : Int32)) L) (h4 : vp_in (x4 + (4 : Int32)) L) (h5 : vp_in (x4 + (5 : Int32)) L) (h6 : vp_in (x4 + (6 : Int32)) L) (hR : R s) : ∃ t, R1 t ∧ f_LB_891 L xs K s x4 = K t ∧ (KP t → p_LB_891 L xs KP s x4) := by
  obtain ⟨qa, qm, e⟩ := h s (xs (x4 + (1 : Int32)).toNatClampNeg) (xs (x4 + (2 : Int32)).toNatClampNeg) (xs (x4 + (3 : Int32)).toNatClampNeg) (xs (x4 + (4 : Int32)).toNatClampNeg) hR
  refine ⟨_, e.2.2, ?_, fun hK => ?_⟩
  · unfold f_LB_891 f_LC_922 f_LC_952; exact pu_fI e
  · unfold p_LB_891 p_LC_922 p_LC_952; exact ⟨h1, h2, h3, h4, qa, ⟨h1, h2, h3, h4, qm, pu_pI e hK⟩⟩
def op_narrow (R R1 : am_M → Prop) : Prop := ∀ (s : am_M) (a1 a2 a3 a4 : Int32), R s → p_LA_narrow s a1 a2 a3 a4 ∧ p_MO_narrow (f_LA_narrow s a1 a2 a3 a4).2 a1 a2 a3 a4 ∧ pu_B R1 (f_LA_narrow s a1 a2 a3 a4).1 (f_MO_narrow (f_LA_narrow s a1 a2 a3 a4).2 a1 a2 a3 a4)
theorem pb_983 {R R1 : am_M → Prop} (h : op_narrow R R1) {L : Nat} {xs : Nat → Int32} {K : am_M → Int32 × am_M} {KP : am_M → Prop} {s : am_M} {x4 : Int32} (h1 : vp_in (x4 + (1 : Int32)) L) (h2 : vp_in (x4 + (2 : Int32)) L) (h3 : vp_in (x4 + (3 : Int32)) L) (h4 : vp_in (x4 + (4 : Int32)) L) (h5 : vp_in (x4 + (5 : Int32)) L) (h6 : vp_in (x4 + (6 : Int32)) L) (hR : R s) : ∃ t, R1 t ∧ f_LB_983 L xs K s x4 = K t ∧ (KP t → p_LB_983 L xs KP s x4) := by
  obtain ⟨qa, qm, e⟩ := h s (xs (x4 + (1 : Int32)).toNatClampNeg) (xs (x4 + (2 : Int32)).toNatClampNeg) (xs (x4 + (3 : Int32)).toNatClampNeg) (xs (x4 + (4 : Int32)).toNatClampNeg) hR
  refine ⟨_, e.2.2, ?_, fun hK => ?_⟩
  · unfold f_LB_983 f_LC_1014 f_LC_1044; exact pu_fB e
  · unfold p_LB_983 p_LC_1014 p_LC_1044; exact ⟨h1, h2, h3, h4, qa, ⟨h1, h2, h3, h4, qm, pu_pB e hK⟩⟩
def op_wouldLoseAll (R R1 : am_M → Prop) : Prop := ∀ (s : am_M) (a1 a2 : Int32), R s → p_LA_wouldLoseAll s a1 a2 ∧ p_MO_wouldLoseAll (f_LA_wouldLoseAll s a1 a2).2 a1 a2 ∧ pu_I R1 (f_LA_wouldLoseAll s a1 a2).1 (f_MO_wouldLoseAll (f_LA_wouldLoseAll s a1 a2).2 a1 a2)
theorem pb_1082 {R R1 : am_M → Prop} (h : op_wouldLoseAll R R1) {L : Nat} {xs : Nat → Int32} {K : am_M → Int32 × am_M} {KP : am_M → Prop} {s : am_M} {x4 : Int32} (h1 : vp_in (x4 + (1 : Int32)) L) (h2 : vp_in (x4 + (2 : Int32)) L) (h3 : vp_in (x4 + (3 : Int32)) L) (h4 : vp_in (x4 + (4 : Int32)) L) (h5 : vp_in (x4 + (5 : Int32)) L) (h6 : vp_in (x4 + (6 : Int32)) L) (hR : R s) : ∃ t, R1 t ∧ f_LB_1082 L xs K s x4 = K t ∧ (KP t → p_LB_1082 L xs KP s x4) := by
  obtain ⟨qa, qm, e⟩ := h s (xs (x4 + (1 : Int32)).toNatClampNeg) (xs (x4 + (2 : Int32)).toNatClampNeg) hR
  refine ⟨_, e.2.2, ?_, fun hK => ?_⟩
  · unfold f_LB_1082 f_LC_1101 f_LC_1119; exact pu_fI e
  · unfold p_LB_1082 p_LC_1101 p_LC_1119; exact ⟨h1, h2, qa, ⟨h1, h2, qm, pu_pI e hK⟩⟩
def op_drop (R R1 : am_M → Prop) : Prop := ∀ (s : am_M) (a1 a2 : Int32), R s → p_LA_drop s a1 a2 ∧ p_MO_drop (f_LA_drop s a1 a2).2 a1 a2 ∧ pu_B R1 (f_LA_drop s a1 a2).1 (f_MO_drop (f_LA_drop s a1 a2).2 a1 a2)
theorem pb_1150 {R R1 : am_M → Prop} (h : op_drop R R1) {L : Nat} {xs : Nat → Int32} {K : am_M → Int32 × am_M} {KP : am_M → Prop} {s : am_M} {x4 : Int32} (h1 : vp_in (x4 + (1 : Int32)) L) (h2 : vp_in (x4 + (2 : Int32)) L) (h3 : vp_in (x4 + (3 : Int32)) L) (h4 : vp_in (x4 + (4 : Int32)) L) (h5 : vp_in (x4 + (5 : Int32)) L) (h6 : vp_in (x4 + (6 : Int32)) L) (hR : R s) : ∃ t, R1 t ∧ f_LB_1150 L xs K s x4 = K t ∧ (KP t → p_LB_1150 L xs KP s x4) := by
  obtain ⟨qa, qm, e⟩ := h s (xs (x4 + (1 : Int32)).toNatClampNeg) (xs (x4 + (2 : Int32)).toNatClampNeg) hR
  refine ⟨_, e.2.2, ?_, fun hK => ?_⟩
  · unfold f_LB_1150 f_LC_1169 f_LC_1187; exact pu_fB e
  · unfold p_LB_1150 p_LC_1169 p_LC_1187; exact ⟨h1, h2, qa, ⟨h1, h2, qm, pu_pB e hK⟩⟩
def op_setRemoval (R R1 : am_M → Prop) : Prop := ∀ (s : am_M) (a1 a2 a3 : Int32), R s → p_LA_setRemoval s a1 a2 a3 ∧ p_MO_setRemoval (f_LA_setRemoval s a1 a2 a3).2 a1 a2 a3 ∧ pu_I R1 (f_LA_setRemoval s a1 a2 a3).1 (f_MO_setRemoval (f_LA_setRemoval s a1 a2 a3).2 a1 a2 a3)
theorem pb_1225 {R R1 : am_M → Prop} (h : op_setRemoval R R1) {L : Nat} {xs : Nat → Int32} {K : am_M → Int32 × am_M} {KP : am_M → Prop} {s : am_M} {x4 : Int32} (h1 : vp_in (x4 + (1 : Int32)) L) (h2 : vp_in (x4 + (2 : Int32)) L) (h3 : vp_in (x4 + (3 : Int32)) L) (h4 : vp_in (x4 + (4 : Int32)) L) (h5 : vp_in (x4 + (5 : Int32)) L) (h6 : vp_in (x4 + (6 : Int32)) L) (hR : R s) : ∃ t, R1 t ∧ f_LB_1225 L xs K s x4 = K t ∧ (KP t → p_LB_1225 L xs KP s x4) := by
  obtain ⟨qa, qm, e⟩ := h s (xs (x4 + (1 : Int32)).toNatClampNeg) (xs (x4 + (2 : Int32)).toNatClampNeg) (xs (x4 + (3 : Int32)).toNatClampNeg) hR
  refine ⟨_, e.2.2, ?_, fun hK => ?_⟩
  · unfold f_LB_1225 f_LC_1250 f_LC_1274; exact pu_fI e
  · unfold p_LB_1225 p_LC_1250 p_LC_1274; exact ⟨h1, h2, h3, qa, ⟨h1, h2, h3, qm, pu_pI e hK⟩⟩
def op_addRule (R R1 : am_M → Prop) : Prop := ∀ (s : am_M) (a1 a2 a3 a4 a5 : Int32), R s → p_LA_addRule s a1 a2 a3 a4 a5 ∧ p_MO_addRule (f_LA_addRule s a1 a2 a3 a4 a5).2 a1 a2 a3 a4 a5 ∧ pu_I R1 (f_LA_addRule s a1 a2 a3 a4 a5).1 (f_MO_addRule (f_LA_addRule s a1 a2 a3 a4 a5).2 a1 a2 a3 a4 a5)
theorem pb_1305 {R R1 : am_M → Prop} (h : op_addRule R R1) {L : Nat} {xs : Nat → Int32} {K : am_M → Int32 × am_M} {KP : am_M → Prop} {s : am_M} {x4 : Int32} (h1 : vp_in (x4 + (1 : Int32)) L) (h2 : vp_in (x4 + (2 : Int32)) L) (h3 : vp_in (x4 + (3 : Int32)) L) (h4 : vp_in (x4 + (4 : Int32)) L) (h5 : vp_in (x4 + (5 : Int32)) L) (h6 : vp_in (x4 + (6 : Int32)) L) (hR : R s) : ∃ t, R1 t ∧ f_LB_1305 L xs K s x4 = K t ∧ (KP t → p_LB_1305 L xs KP s x4) := by
  obtain ⟨qa, qm, e⟩ := h s (xs (x4 + (1 : Int32)).toNatClampNeg) (xs (x4 + (2 : Int32)).toNatClampNeg) (xs (x4 + (3 : Int32)).toNatClampNeg) (xs (x4 + (4 : Int32)).toNatClampNeg) (xs (x4 + (5 : Int32)).toNatClampNeg) hR
  refine ⟨_, e.2.2, ?_, fun hK => ?_⟩
  · unfold f_LB_1305 f_LC_1342 f_LC_1378; exact pu_fI e
  · unfold p_LB_1305 p_LC_1342 p_LC_1378; exact ⟨h1, h2, h3, h4, h5, qa, ⟨h1, h2, h3, h4, h5, qm, pu_pI e hK⟩⟩
def op_dropRule (R R1 : am_M → Prop) : Prop := ∀ (s : am_M) (a1 : Int32), R s → p_LA_dropRule s a1 ∧ p_MO_dropRule (f_LA_dropRule s a1).2 a1 ∧ pu_V R1 (f_LA_dropRule s a1).1 (f_MO_dropRule (f_LA_dropRule s a1).2 a1)
theorem pb_1409 {R R1 : am_M → Prop} (h : op_dropRule R R1) {L : Nat} {xs : Nat → Int32} {K : am_M → Int32 × am_M} {KP : am_M → Prop} {s : am_M} {x4 : Int32} (h1 : vp_in (x4 + (1 : Int32)) L) (h2 : vp_in (x4 + (2 : Int32)) L) (h3 : vp_in (x4 + (3 : Int32)) L) (h4 : vp_in (x4 + (4 : Int32)) L) (h5 : vp_in (x4 + (5 : Int32)) L) (h6 : vp_in (x4 + (6 : Int32)) L) (hR : R s) : ∃ t, R1 t ∧ f_LB_1409 L xs K s x4 = K t ∧ (KP t → p_LB_1409 L xs KP s x4) := by
  obtain ⟨qa, qm, e⟩ := h s (xs (x4 + (1 : Int32)).toNatClampNeg) hR
  refine ⟨_, e.2, ?_, fun hK => ?_⟩
  · unfold f_LB_1409 f_LC_1421 f_LC_1431; exact pu_fV e
  · unfold p_LB_1409 p_LC_1421 p_LC_1431; exact ⟨h1, qa, ⟨h1, qm, pu_pV e hK⟩⟩
def op_order (R R1 : am_M → Prop) : Prop := ∀ (s : am_M) (a1 : Int32), R s → p_LA_order s a1 ∧ p_MO_order (f_LA_order s a1).2 a1 ∧ pu_I R1 (f_LA_order s a1).1 (f_MO_order (f_LA_order s a1).2 a1)
theorem pb_1445 {R R1 : am_M → Prop} (h : op_order R R1) {L : Nat} {xs : Nat → Int32} {K : am_M → Int32 × am_M} {KP : am_M → Prop} {s : am_M} {x4 : Int32} (h1 : vp_in (x4 + (1 : Int32)) L) (h2 : vp_in (x4 + (2 : Int32)) L) (h3 : vp_in (x4 + (3 : Int32)) L) (h4 : vp_in (x4 + (4 : Int32)) L) (h5 : vp_in (x4 + (5 : Int32)) L) (h6 : vp_in (x4 + (6 : Int32)) L) (hR : R s) : ∃ t, R1 t ∧ f_LB_1445 L xs K s x4 = K t ∧ (KP t → p_LB_1445 L xs KP s x4) := by
  obtain ⟨qa, qm, e⟩ := h s (xs (x4 + (1 : Int32)).toNatClampNeg) hR
  refine ⟨_, e.2.2, ?_, fun hK => ?_⟩
  · unfold f_LB_1445 f_LC_1458 f_LC_1470; exact pu_fI e
  · unfold p_LB_1445 p_LC_1458 p_LC_1470; exact ⟨h1, qa, ⟨h1, qm, pu_pI e hK⟩⟩
def op_reason (R R1 : am_M → Prop) : Prop := ∀ s : am_M, R s → (f_CB_reason s) = (f_MO_reason s).1 ∧ R1 (f_MO_reason s).2
theorem pb_1501 {R R1 : am_M → Prop} (h : op_reason R R1) {L : Nat} {xs : Nat → Int32} {K : am_M → Int32 × am_M} {KP : am_M → Prop} {s : am_M} {x4 : Int32} (h1 : vp_in (x4 + (1 : Int32)) L) (h2 : vp_in (x4 + (2 : Int32)) L) (h3 : vp_in (x4 + (3 : Int32)) L) (h4 : vp_in (x4 + (4 : Int32)) L) (h5 : vp_in (x4 + (5 : Int32)) L) (h6 : vp_in (x4 + (6 : Int32)) L) (hR : R s) : ∃ t, R1 t ∧ f_LB_1501 L xs K s x4 = K t ∧ (KP t → p_LB_1501 L xs KP s x4) := by
  obtain ⟨e, r⟩ := h s hR
  refine ⟨_, r, ?_, fun hK => ?_⟩
  · unfold f_LB_1501; rw [if_pos e]
  · unfold p_LB_1501; exact ⟨fun _ => hK, fun _ => trivial⟩
def op_whereTable (R R1 : am_M → Prop) : Prop := ∀ s : am_M, R s → (f_CB_whereTable s) = (f_MO_whereTable s).1 ∧ R1 (f_MO_whereTable s).2
theorem pb_1514 {R R1 : am_M → Prop} (h : op_whereTable R R1) {L : Nat} {xs : Nat → Int32} {K : am_M → Int32 × am_M} {KP : am_M → Prop} {s : am_M} {x4 : Int32} (h1 : vp_in (x4 + (1 : Int32)) L) (h2 : vp_in (x4 + (2 : Int32)) L) (h3 : vp_in (x4 + (3 : Int32)) L) (h4 : vp_in (x4 + (4 : Int32)) L) (h5 : vp_in (x4 + (5 : Int32)) L) (h6 : vp_in (x4 + (6 : Int32)) L) (hR : R s) : ∃ t, R1 t ∧ f_LB_1514 L xs K s x4 = K t ∧ (KP t → p_LB_1514 L xs KP s x4) := by
  obtain ⟨e, r⟩ := h s hR
  refine ⟨_, r, ?_, fun hK => ?_⟩
  · unfold f_LB_1514; rw [if_pos e]
  · unfold p_LB_1514; exact ⟨fun _ => hK, fun _ => trivial⟩
def op_whereRow (R R1 : am_M → Prop) : Prop := ∀ s : am_M, R s → (f_CB_whereRow s) = (f_MO_whereRow s).1 ∧ R1 (f_MO_whereRow s).2
theorem pb_1527 {R R1 : am_M → Prop} (h : op_whereRow R R1) {L : Nat} {xs : Nat → Int32} {K : am_M → Int32 × am_M} {KP : am_M → Prop} {s : am_M} {x4 : Int32} (h1 : vp_in (x4 + (1 : Int32)) L) (h2 : vp_in (x4 + (2 : Int32)) L) (h3 : vp_in (x4 + (3 : Int32)) L) (h4 : vp_in (x4 + (4 : Int32)) L) (h5 : vp_in (x4 + (5 : Int32)) L) (h6 : vp_in (x4 + (6 : Int32)) L) (hR : R s) : ∃ t, R1 t ∧ f_LB_1527 L xs K s x4 = K t ∧ (KP t → p_LB_1527 L xs KP s x4) := by
  obtain ⟨e, r⟩ := h s hR
  refine ⟨_, r, ?_, fun hK => ?_⟩
  · unfold f_LB_1527; rw [if_pos e]
  · unfold p_LB_1527; exact ⟨fun _ => hK, fun _ => trivial⟩
def op_whereColumn (R R1 : am_M → Prop) : Prop := ∀ s : am_M, R s → (f_CB_whereColumn s) = (f_MO_whereColumn s).1 ∧ R1 (f_MO_whereColumn s).2
theorem pb_1540 {R R1 : am_M → Prop} (h : op_whereColumn R R1) {L : Nat} {xs : Nat → Int32} {K : am_M → Int32 × am_M} {KP : am_M → Prop} {s : am_M} {x4 : Int32} (h1 : vp_in (x4 + (1 : Int32)) L) (h2 : vp_in (x4 + (2 : Int32)) L) (h3 : vp_in (x4 + (3 : Int32)) L) (h4 : vp_in (x4 + (4 : Int32)) L) (h5 : vp_in (x4 + (5 : Int32)) L) (h6 : vp_in (x4 + (6 : Int32)) L) (hR : R s) : ∃ t, R1 t ∧ f_LB_1540 L xs K s x4 = K t ∧ (KP t → p_LB_1540 L xs KP s x4) := by
  obtain ⟨e, r⟩ := h s hR
  refine ⟨_, r, ?_, fun hK => ?_⟩
  · unfold f_LB_1540; rw [if_pos e]
  · unfold p_LB_1540; exact ⟨fun _ => hK, fun _ => trivial⟩
def op_broken (R R1 : am_M → Prop) : Prop := ∀ s : am_M, R s → p_CB_broken s ∧ p_MO_broken (f_CB_broken s).2 ∧ (f_CB_broken s).1 = (f_MO_broken (f_CB_broken s).2).1 ∧ R1 (f_MO_broken (f_CB_broken s).2).2
theorem pb_1553 {R R1 : am_M → Prop} (h : op_broken R R1) {L : Nat} {xs : Nat → Int32} {K : am_M → Int32 × am_M} {KP : am_M → Prop} {s : am_M} {x4 : Int32} (h1 : vp_in (x4 + (1 : Int32)) L) (h2 : vp_in (x4 + (2 : Int32)) L) (h3 : vp_in (x4 + (3 : Int32)) L) (h4 : vp_in (x4 + (4 : Int32)) L) (h5 : vp_in (x4 + (5 : Int32)) L) (h6 : vp_in (x4 + (6 : Int32)) L) (hR : R s) : ∃ t, R1 t ∧ f_LB_1553 L xs K s x4 = K t ∧ (KP t → p_LB_1553 L xs KP s x4) := by
  obtain ⟨q0, q1, e, r⟩ := h s hR
  refine ⟨_, r, ?_, fun hK => ?_⟩
  · unfold f_LB_1553; rw [if_pos e]
  · unfold p_LB_1553; exact ⟨q0, q1, fun _ => hK, fun _ => trivial⟩
def op_type (R R1 : am_M → Prop) : Prop := ∀ (s : am_M) (a1 a2 : Int32), R s → p_LA_type s a1 a2 ∧ p_MO_type (f_LA_type s a1 a2).2 a1 a2 ∧ pu_I R1 (f_LA_type s a1 a2).1 (f_MO_type (f_LA_type s a1 a2).2 a1 a2)
theorem pb_1566 {R R1 : am_M → Prop} (h : op_type R R1) {L : Nat} {xs : Nat → Int32} {K : am_M → Int32 × am_M} {KP : am_M → Prop} {s : am_M} {x4 : Int32} (h1 : vp_in (x4 + (1 : Int32)) L) (h2 : vp_in (x4 + (2 : Int32)) L) (h3 : vp_in (x4 + (3 : Int32)) L) (h4 : vp_in (x4 + (4 : Int32)) L) (h5 : vp_in (x4 + (5 : Int32)) L) (h6 : vp_in (x4 + (6 : Int32)) L) (hR : R s) : ∃ t, R1 t ∧ f_LB_1566 L xs K s x4 = K t ∧ (KP t → p_LB_1566 L xs KP s x4) := by
  obtain ⟨qa, qm, e⟩ := h s (xs (x4 + (1 : Int32)).toNatClampNeg) (xs (x4 + (2 : Int32)).toNatClampNeg) hR
  refine ⟨_, e.2.2, ?_, fun hK => ?_⟩
  · unfold f_LB_1566 f_LC_1585 f_LC_1603; exact pu_fI e
  · unfold p_LB_1566 p_LC_1585 p_LC_1603; exact ⟨h1, h2, qa, ⟨h1, h2, qm, pu_pI e hK⟩⟩
def op_clearDraft (R R1 : am_M → Prop) : Prop := ∀ s : am_M, R s → p_CB_clearDraft s ∧ p_MO_clearDraft (f_CB_clearDraft s).2 ∧ (f_CB_clearDraft s).1 = (f_MO_clearDraft (f_CB_clearDraft s).2).1 ∧ R1 (f_MO_clearDraft (f_CB_clearDraft s).2).2
theorem pb_1634 {R R1 : am_M → Prop} (h : op_clearDraft R R1) {L : Nat} {xs : Nat → Int32} {K : am_M → Int32 × am_M} {KP : am_M → Prop} {s : am_M} {x4 : Int32} (h1 : vp_in (x4 + (1 : Int32)) L) (h2 : vp_in (x4 + (2 : Int32)) L) (h3 : vp_in (x4 + (3 : Int32)) L) (h4 : vp_in (x4 + (4 : Int32)) L) (h5 : vp_in (x4 + (5 : Int32)) L) (h6 : vp_in (x4 + (6 : Int32)) L) (hR : R s) : ∃ t, R1 t ∧ f_LB_1634 L xs K s x4 = K t ∧ (KP t → p_LB_1634 L xs KP s x4) := by
  obtain ⟨q0, q1, e, r⟩ := h s hR
  refine ⟨_, r, ?_, fun hK => ?_⟩
  · unfold f_LB_1634; rw [if_pos e]
  · unfold p_LB_1634; exact ⟨q0, q1, fun _ => hK, fun _ => trivial⟩
def op_enter (R R1 : am_M → Prop) : Prop := ∀ (s : am_M) (a1 : Int32), R s → p_LA_enter s a1 ∧ p_MO_enter (f_LA_enter s a1).2 a1 ∧ pu_I R1 (f_LA_enter s a1).1 (f_MO_enter (f_LA_enter s a1).2 a1)
theorem pb_1647 {R R1 : am_M → Prop} (h : op_enter R R1) {L : Nat} {xs : Nat → Int32} {K : am_M → Int32 × am_M} {KP : am_M → Prop} {s : am_M} {x4 : Int32} (h1 : vp_in (x4 + (1 : Int32)) L) (h2 : vp_in (x4 + (2 : Int32)) L) (h3 : vp_in (x4 + (3 : Int32)) L) (h4 : vp_in (x4 + (4 : Int32)) L) (h5 : vp_in (x4 + (5 : Int32)) L) (h6 : vp_in (x4 + (6 : Int32)) L) (hR : R s) : ∃ t, R1 t ∧ f_LB_1647 L xs K s x4 = K t ∧ (KP t → p_LB_1647 L xs KP s x4) := by
  obtain ⟨qa, qm, e⟩ := h s (xs (x4 + (1 : Int32)).toNatClampNeg) hR
  refine ⟨_, e.2.2, ?_, fun hK => ?_⟩
  · unfold f_LB_1647 f_LC_1660 f_LC_1672; exact pu_fI e
  · unfold p_LB_1647 p_LC_1660 p_LC_1672; exact ⟨h1, qa, ⟨h1, qm, pu_pI e hK⟩⟩
def op_put (R R1 : am_M → Prop) : Prop := ∀ (s : am_M) (a1 a2 a3 a4 : Int32), R s → p_LA_put s a1 a2 a3 a4 ∧ p_MO_put (f_LA_put s a1 a2 a3 a4).2 a1 a2 a3 a4 ∧ pu_B R1 (f_LA_put s a1 a2 a3 a4).1 (f_MO_put (f_LA_put s a1 a2 a3 a4).2 a1 a2 a3 a4)
theorem pb_1703 {R R1 : am_M → Prop} (h : op_put R R1) {L : Nat} {xs : Nat → Int32} {K : am_M → Int32 × am_M} {KP : am_M → Prop} {s : am_M} {x4 : Int32} (h1 : vp_in (x4 + (1 : Int32)) L) (h2 : vp_in (x4 + (2 : Int32)) L) (h3 : vp_in (x4 + (3 : Int32)) L) (h4 : vp_in (x4 + (4 : Int32)) L) (h5 : vp_in (x4 + (5 : Int32)) L) (h6 : vp_in (x4 + (6 : Int32)) L) (hR : R s) : ∃ t, R1 t ∧ f_LB_1703 L xs K s x4 = K t ∧ (KP t → p_LB_1703 L xs KP s x4) := by
  obtain ⟨qa, qm, e⟩ := h s (xs (x4 + (1 : Int32)).toNatClampNeg) (xs (x4 + (2 : Int32)).toNatClampNeg) (xs (x4 + (3 : Int32)).toNatClampNeg) (xs (x4 + (4 : Int32)).toNatClampNeg) hR
  refine ⟨_, e.2.2, ?_, fun hK => ?_⟩
  · unfold f_LB_1703 f_LC_1734 f_LC_1764; exact pu_fB e
  · unfold p_LB_1703 p_LC_1734 p_LC_1764; exact ⟨h1, h2, h3, h4, qa, ⟨h1, h2, h3, h4, qm, pu_pB e hK⟩⟩
def op_remove (R R1 : am_M → Prop) : Prop := ∀ (s : am_M) (a1 a2 : Int32), R s → p_LA_remove s a1 a2 ∧ p_MO_remove (f_LA_remove s a1 a2).2 a1 a2 ∧ pu_B R1 (f_LA_remove s a1 a2).1 (f_MO_remove (f_LA_remove s a1 a2).2 a1 a2)
theorem pb_1802 {R R1 : am_M → Prop} (h : op_remove R R1) {L : Nat} {xs : Nat → Int32} {K : am_M → Int32 × am_M} {KP : am_M → Prop} {s : am_M} {x4 : Int32} (h1 : vp_in (x4 + (1 : Int32)) L) (h2 : vp_in (x4 + (2 : Int32)) L) (h3 : vp_in (x4 + (3 : Int32)) L) (h4 : vp_in (x4 + (4 : Int32)) L) (h5 : vp_in (x4 + (5 : Int32)) L) (h6 : vp_in (x4 + (6 : Int32)) L) (hR : R s) : ∃ t, R1 t ∧ f_LB_1802 L xs K s x4 = K t ∧ (KP t → p_LB_1802 L xs KP s x4) := by
  obtain ⟨qa, qm, e⟩ := h s (xs (x4 + (1 : Int32)).toNatClampNeg) (xs (x4 + (2 : Int32)).toNatClampNeg) hR
  refine ⟨_, e.2.2, ?_, fun hK => ?_⟩
  · unfold f_LB_1802 f_LC_1821 f_LC_1839; exact pu_fB e
  · unfold p_LB_1802 p_LC_1821 p_LC_1839; exact ⟨h1, h2, qa, ⟨h1, h2, qm, pu_pB e hK⟩⟩
def op_openForm (R R1 : am_M → Prop) : Prop := ∀ (s : am_M) (a1 a2 : Int32), R s → p_LA_openForm s a1 a2 ∧ p_MO_openForm (f_LA_openForm s a1 a2).2 a1 a2 ∧ pu_V R1 (f_LA_openForm s a1 a2).1 (f_MO_openForm (f_LA_openForm s a1 a2).2 a1 a2)
theorem pb_1877 {R R1 : am_M → Prop} (h : op_openForm R R1) {L : Nat} {xs : Nat → Int32} {K : am_M → Int32 × am_M} {KP : am_M → Prop} {s : am_M} {x4 : Int32} (h1 : vp_in (x4 + (1 : Int32)) L) (h2 : vp_in (x4 + (2 : Int32)) L) (h3 : vp_in (x4 + (3 : Int32)) L) (h4 : vp_in (x4 + (4 : Int32)) L) (h5 : vp_in (x4 + (5 : Int32)) L) (h6 : vp_in (x4 + (6 : Int32)) L) (hR : R s) : ∃ t, R1 t ∧ f_LB_1877 L xs K s x4 = K t ∧ (KP t → p_LB_1877 L xs KP s x4) := by
  obtain ⟨qa, qm, e⟩ := h s (xs (x4 + (1 : Int32)).toNatClampNeg) (xs (x4 + (2 : Int32)).toNatClampNeg) hR
  refine ⟨_, e.2, ?_, fun hK => ?_⟩
  · unfold f_LB_1877 f_LC_1895 f_LC_1911; exact pu_fV e
  · unfold p_LB_1877 p_LC_1895 p_LC_1911; exact ⟨h1, h2, qa, ⟨h1, h2, qm, pu_pV e hK⟩⟩
def op_enterInside (R R1 : am_M → Prop) : Prop := ∀ (s : am_M) (a1 a2 : Int32), R s → p_LA_enterInside s a1 a2 ∧ p_MO_enterInside (f_LA_enterInside s a1 a2).2 a1 a2 ∧ pu_I R1 (f_LA_enterInside s a1 a2).1 (f_MO_enterInside (f_LA_enterInside s a1 a2).2 a1 a2)
theorem pb_1925 {R R1 : am_M → Prop} (h : op_enterInside R R1) {L : Nat} {xs : Nat → Int32} {K : am_M → Int32 × am_M} {KP : am_M → Prop} {s : am_M} {x4 : Int32} (h1 : vp_in (x4 + (1 : Int32)) L) (h2 : vp_in (x4 + (2 : Int32)) L) (h3 : vp_in (x4 + (3 : Int32)) L) (h4 : vp_in (x4 + (4 : Int32)) L) (h5 : vp_in (x4 + (5 : Int32)) L) (h6 : vp_in (x4 + (6 : Int32)) L) (hR : R s) : ∃ t, R1 t ∧ f_LB_1925 L xs K s x4 = K t ∧ (KP t → p_LB_1925 L xs KP s x4) := by
  obtain ⟨qa, qm, e⟩ := h s (xs (x4 + (1 : Int32)).toNatClampNeg) (xs (x4 + (2 : Int32)).toNatClampNeg) hR
  refine ⟨_, e.2.2, ?_, fun hK => ?_⟩
  · unfold f_LB_1925 f_LC_1944 f_LC_1962; exact pu_fI e
  · unfold p_LB_1925 p_LC_1944 p_LC_1962; exact ⟨h1, h2, qa, ⟨h1, h2, qm, pu_pI e hK⟩⟩
def op_choice (R R1 : am_M → Prop) : Prop := ∀ (s : am_M) (a1 a2 a3 a4 : Int32), R s → p_LA_choice s a1 a2 a3 a4 ∧ p_MO_choice (f_LA_choice s a1 a2 a3 a4).2 a1 a2 a3 a4 ∧ pu_I R1 (f_LA_choice s a1 a2 a3 a4).1 (f_MO_choice (f_LA_choice s a1 a2 a3 a4).2 a1 a2 a3 a4)
theorem pb_1993 {R R1 : am_M → Prop} (h : op_choice R R1) {L : Nat} {xs : Nat → Int32} {K : am_M → Int32 × am_M} {KP : am_M → Prop} {s : am_M} {x4 : Int32} (h1 : vp_in (x4 + (1 : Int32)) L) (h2 : vp_in (x4 + (2 : Int32)) L) (h3 : vp_in (x4 + (3 : Int32)) L) (h4 : vp_in (x4 + (4 : Int32)) L) (h5 : vp_in (x4 + (5 : Int32)) L) (h6 : vp_in (x4 + (6 : Int32)) L) (hR : R s) : ∃ t, R1 t ∧ f_LB_1993 L xs K s x4 = K t ∧ (KP t → p_LB_1993 L xs KP s x4) := by
  obtain ⟨qa, qm, e⟩ := h s (xs (x4 + (1 : Int32)).toNatClampNeg) (xs (x4 + (2 : Int32)).toNatClampNeg) (xs (x4 + (3 : Int32)).toNatClampNeg) (xs (x4 + (4 : Int32)).toNatClampNeg) hR
  refine ⟨_, e.2.2, ?_, fun hK => ?_⟩
  · unfold f_LB_1993 f_LC_2024 f_LC_2054; exact pu_fI e
  · unfold p_LB_1993 p_LC_2024 p_LC_2054; exact ⟨h1, h2, h3, h4, qa, ⟨h1, h2, h3, h4, qm, pu_pI e hK⟩⟩
def op_cell (R R1 : am_M → Prop) : Prop := ∀ (s : am_M) (a1 a2 a3 : Int32), R s → p_LA_cell s a1 a2 a3 ∧ p_MO_cell (f_LA_cell s a1 a2 a3).2 a1 a2 a3 ∧ pu_I R1 (f_LA_cell s a1 a2 a3).1 (f_MO_cell (f_LA_cell s a1 a2 a3).2 a1 a2 a3)
theorem pb_2085 {R R1 : am_M → Prop} (h : op_cell R R1) {L : Nat} {xs : Nat → Int32} {K : am_M → Int32 × am_M} {KP : am_M → Prop} {s : am_M} {x4 : Int32} (h1 : vp_in (x4 + (1 : Int32)) L) (h2 : vp_in (x4 + (2 : Int32)) L) (h3 : vp_in (x4 + (3 : Int32)) L) (h4 : vp_in (x4 + (4 : Int32)) L) (h5 : vp_in (x4 + (5 : Int32)) L) (h6 : vp_in (x4 + (6 : Int32)) L) (hR : R s) : ∃ t, R1 t ∧ f_LB_2085 L xs K s x4 = K t ∧ (KP t → p_LB_2085 L xs KP s x4) := by
  obtain ⟨qa, qm, e⟩ := h s (xs (x4 + (1 : Int32)).toNatClampNeg) (xs (x4 + (2 : Int32)).toNatClampNeg) (xs (x4 + (3 : Int32)).toNatClampNeg) hR
  refine ⟨_, e.2.2, ?_, fun hK => ?_⟩
  · unfold f_LB_2085 f_LC_2110 f_LC_2134; exact pu_fI e
  · unfold p_LB_2085 p_LC_2110 p_LC_2134; exact ⟨h1, h2, h3, qa, ⟨h1, h2, h3, qm, pu_pI e hK⟩⟩
def op_isThere (R R1 : am_M → Prop) : Prop := ∀ (s : am_M) (a1 a2 : Int32), R s → p_LA_isThere s a1 a2 ∧ p_MO_isThere (f_LA_isThere s a1 a2).2 a1 a2 ∧ pu_B R1 (f_LA_isThere s a1 a2).1 (f_MO_isThere (f_LA_isThere s a1 a2).2 a1 a2)
theorem pb_2165 {R R1 : am_M → Prop} (h : op_isThere R R1) {L : Nat} {xs : Nat → Int32} {K : am_M → Int32 × am_M} {KP : am_M → Prop} {s : am_M} {x4 : Int32} (h1 : vp_in (x4 + (1 : Int32)) L) (h2 : vp_in (x4 + (2 : Int32)) L) (h3 : vp_in (x4 + (3 : Int32)) L) (h4 : vp_in (x4 + (4 : Int32)) L) (h5 : vp_in (x4 + (5 : Int32)) L) (h6 : vp_in (x4 + (6 : Int32)) L) (hR : R s) : ∃ t, R1 t ∧ f_LB_2165 L xs K s x4 = K t ∧ (KP t → p_LB_2165 L xs KP s x4) := by
  obtain ⟨qa, qm, e⟩ := h s (xs (x4 + (1 : Int32)).toNatClampNeg) (xs (x4 + (2 : Int32)).toNatClampNeg) hR
  refine ⟨_, e.2.2, ?_, fun hK => ?_⟩
  · unfold f_LB_2165 f_LC_2184 f_LC_2202; exact pu_fB e
  · unfold p_LB_2165 p_LC_2184 p_LC_2202; exact ⟨h1, h2, qa, ⟨h1, h2, qm, pu_pB e hK⟩⟩
def op_rows (R R1 : am_M → Prop) : Prop := ∀ (s : am_M) (a1 : Int32), R s → p_LA_rows s a1 ∧ p_MO_rows (f_LA_rows s a1).2 a1 ∧ pu_I R1 (f_LA_rows s a1).1 (f_MO_rows (f_LA_rows s a1).2 a1)
theorem pb_2240 {R R1 : am_M → Prop} (h : op_rows R R1) {L : Nat} {xs : Nat → Int32} {K : am_M → Int32 × am_M} {KP : am_M → Prop} {s : am_M} {x4 : Int32} (h1 : vp_in (x4 + (1 : Int32)) L) (h2 : vp_in (x4 + (2 : Int32)) L) (h3 : vp_in (x4 + (3 : Int32)) L) (h4 : vp_in (x4 + (4 : Int32)) L) (h5 : vp_in (x4 + (5 : Int32)) L) (h6 : vp_in (x4 + (6 : Int32)) L) (hR : R s) : ∃ t, R1 t ∧ f_LB_2240 L xs K s x4 = K t ∧ (KP t → p_LB_2240 L xs KP s x4) := by
  obtain ⟨qa, qm, e⟩ := h s (xs (x4 + (1 : Int32)).toNatClampNeg) hR
  refine ⟨_, e.2.2, ?_, fun hK => ?_⟩
  · unfold f_LB_2240 f_LC_2253 f_LC_2265; exact pu_fI e
  · unfold p_LB_2240 p_LC_2253 p_LC_2265; exact ⟨h1, qa, ⟨h1, qm, pu_pI e hK⟩⟩
def op_ask (R R1 : am_M → Prop) : Prop := ∀ (s : am_M) (a1 a2 : Int32), R s → p_LA_ask s a1 a2 ∧ p_MO_ask (f_LA_ask s a1 a2).2 a1 a2 ∧ pu_I R1 (f_LA_ask s a1 a2).1 (f_MO_ask (f_LA_ask s a1 a2).2 a1 a2)
theorem pb_2296 {R R1 : am_M → Prop} (h : op_ask R R1) {L : Nat} {xs : Nat → Int32} {K : am_M → Int32 × am_M} {KP : am_M → Prop} {s : am_M} {x4 : Int32} (h1 : vp_in (x4 + (1 : Int32)) L) (h2 : vp_in (x4 + (2 : Int32)) L) (h3 : vp_in (x4 + (3 : Int32)) L) (h4 : vp_in (x4 + (4 : Int32)) L) (h5 : vp_in (x4 + (5 : Int32)) L) (h6 : vp_in (x4 + (6 : Int32)) L) (hR : R s) : ∃ t, R1 t ∧ f_LB_2296 L xs K s x4 = K t ∧ (KP t → p_LB_2296 L xs KP s x4) := by
  obtain ⟨qa, qm, e⟩ := h s (xs (x4 + (1 : Int32)).toNatClampNeg) (xs (x4 + (2 : Int32)).toNatClampNeg) hR
  refine ⟨_, e.2.2, ?_, fun hK => ?_⟩
  · unfold f_LB_2296 f_LC_2315 f_LC_2333; exact pu_fI e
  · unfold p_LB_2296 p_LC_2315 p_LC_2333; exact ⟨h1, h2, qa, ⟨h1, h2, qm, pu_pI e hK⟩⟩
def op_condition (R R1 : am_M → Prop) : Prop := ∀ (s : am_M) (a1 a2 a3 a4 a5 : Int32), R s → p_LA_condition s a1 a2 a3 a4 a5 ∧ p_MO_condition (f_LA_condition s a1 a2 a3 a4 a5).2 a1 a2 a3 a4 a5 ∧ pu_I R1 (f_LA_condition s a1 a2 a3 a4 a5).1 (f_MO_condition (f_LA_condition s a1 a2 a3 a4 a5).2 a1 a2 a3 a4 a5)
theorem pb_2364 {R R1 : am_M → Prop} (h : op_condition R R1) {L : Nat} {xs : Nat → Int32} {K : am_M → Int32 × am_M} {KP : am_M → Prop} {s : am_M} {x4 : Int32} (h1 : vp_in (x4 + (1 : Int32)) L) (h2 : vp_in (x4 + (2 : Int32)) L) (h3 : vp_in (x4 + (3 : Int32)) L) (h4 : vp_in (x4 + (4 : Int32)) L) (h5 : vp_in (x4 + (5 : Int32)) L) (h6 : vp_in (x4 + (6 : Int32)) L) (hR : R s) : ∃ t, R1 t ∧ f_LB_2364 L xs K s x4 = K t ∧ (KP t → p_LB_2364 L xs KP s x4) := by
  obtain ⟨qa, qm, e⟩ := h s (xs (x4 + (1 : Int32)).toNatClampNeg) (xs (x4 + (2 : Int32)).toNatClampNeg) (xs (x4 + (3 : Int32)).toNatClampNeg) (xs (x4 + (4 : Int32)).toNatClampNeg) (xs (x4 + (5 : Int32)).toNatClampNeg) hR
  refine ⟨_, e.2.2, ?_, fun hK => ?_⟩
  · unfold f_LB_2364 f_LC_2401 f_LC_2437; exact pu_fI e
  · unfold p_LB_2364 p_LC_2401 p_LC_2437; exact ⟨h1, h2, h3, h4, h5, qa, ⟨h1, h2, h3, h4, h5, qm, pu_pI e hK⟩⟩
def op_askGroups (R R1 : am_M → Prop) : Prop := ∀ (s : am_M) (a1 a2 a3 : Int32), R s → p_LA_askGroups s a1 a2 a3 ∧ p_MO_askGroups (f_LA_askGroups s a1 a2 a3).2 a1 a2 a3 ∧ pu_I R1 (f_LA_askGroups s a1 a2 a3).1 (f_MO_askGroups (f_LA_askGroups s a1 a2 a3).2 a1 a2 a3)
theorem pb_2468 {R R1 : am_M → Prop} (h : op_askGroups R R1) {L : Nat} {xs : Nat → Int32} {K : am_M → Int32 × am_M} {KP : am_M → Prop} {s : am_M} {x4 : Int32} (h1 : vp_in (x4 + (1 : Int32)) L) (h2 : vp_in (x4 + (2 : Int32)) L) (h3 : vp_in (x4 + (3 : Int32)) L) (h4 : vp_in (x4 + (4 : Int32)) L) (h5 : vp_in (x4 + (5 : Int32)) L) (h6 : vp_in (x4 + (6 : Int32)) L) (hR : R s) : ∃ t, R1 t ∧ f_LB_2468 L xs K s x4 = K t ∧ (KP t → p_LB_2468 L xs KP s x4) := by
  obtain ⟨qa, qm, e⟩ := h s (xs (x4 + (1 : Int32)).toNatClampNeg) (xs (x4 + (2 : Int32)).toNatClampNeg) (xs (x4 + (3 : Int32)).toNatClampNeg) hR
  refine ⟨_, e.2.2, ?_, fun hK => ?_⟩
  · unfold f_LB_2468 f_LC_2493 f_LC_2517; exact pu_fI e
  · unfold p_LB_2468 p_LC_2493 p_LC_2517; exact ⟨h1, h2, h3, qa, ⟨h1, h2, h3, qm, pu_pI e hK⟩⟩
def op_askCross (R R1 : am_M → Prop) : Prop := ∀ (s : am_M) (a1 a2 a3 a4 : Int32), R s → p_LA_askCross s a1 a2 a3 a4 ∧ p_MO_askCross (f_LA_askCross s a1 a2 a3 a4).2 a1 a2 a3 a4 ∧ pu_I R1 (f_LA_askCross s a1 a2 a3 a4).1 (f_MO_askCross (f_LA_askCross s a1 a2 a3 a4).2 a1 a2 a3 a4)
theorem pb_2548 {R R1 : am_M → Prop} (h : op_askCross R R1) {L : Nat} {xs : Nat → Int32} {K : am_M → Int32 × am_M} {KP : am_M → Prop} {s : am_M} {x4 : Int32} (h1 : vp_in (x4 + (1 : Int32)) L) (h2 : vp_in (x4 + (2 : Int32)) L) (h3 : vp_in (x4 + (3 : Int32)) L) (h4 : vp_in (x4 + (4 : Int32)) L) (h5 : vp_in (x4 + (5 : Int32)) L) (h6 : vp_in (x4 + (6 : Int32)) L) (hR : R s) : ∃ t, R1 t ∧ f_LB_2548 L xs K s x4 = K t ∧ (KP t → p_LB_2548 L xs KP s x4) := by
  obtain ⟨qa, qm, e⟩ := h s (xs (x4 + (1 : Int32)).toNatClampNeg) (xs (x4 + (2 : Int32)).toNatClampNeg) (xs (x4 + (3 : Int32)).toNatClampNeg) (xs (x4 + (4 : Int32)).toNatClampNeg) hR
  refine ⟨_, e.2.2, ?_, fun hK => ?_⟩
  · unfold f_LB_2548 f_LC_2579 f_LC_2609; exact pu_fI e
  · unfold p_LB_2548 p_LC_2579 p_LC_2609; exact ⟨h1, h2, h3, h4, qa, ⟨h1, h2, h3, h4, qm, pu_pI e hK⟩⟩
def op_answers (R R1 : am_M → Prop) : Prop := ∀ (s : am_M) (a1 : Int32), R s → p_LA_answers s a1 ∧ p_MO_answers (f_LA_answers s a1).2 a1 ∧ pu_I R1 (f_LA_answers s a1).1 (f_MO_answers (f_LA_answers s a1).2 a1)
theorem pb_2640 {R R1 : am_M → Prop} (h : op_answers R R1) {L : Nat} {xs : Nat → Int32} {K : am_M → Int32 × am_M} {KP : am_M → Prop} {s : am_M} {x4 : Int32} (h1 : vp_in (x4 + (1 : Int32)) L) (h2 : vp_in (x4 + (2 : Int32)) L) (h3 : vp_in (x4 + (3 : Int32)) L) (h4 : vp_in (x4 + (4 : Int32)) L) (h5 : vp_in (x4 + (5 : Int32)) L) (h6 : vp_in (x4 + (6 : Int32)) L) (hR : R s) : ∃ t, R1 t ∧ f_LB_2640 L xs K s x4 = K t ∧ (KP t → p_LB_2640 L xs KP s x4) := by
  obtain ⟨qa, qm, e⟩ := h s (xs (x4 + (1 : Int32)).toNatClampNeg) hR
  refine ⟨_, e.2.2, ?_, fun hK => ?_⟩
  · unfold f_LB_2640 f_LC_2653 f_LC_2665; exact pu_fI e
  · unfold p_LB_2640 p_LC_2653 p_LC_2665; exact ⟨h1, qa, ⟨h1, qm, pu_pI e hK⟩⟩
def op_columns (R R1 : am_M → Prop) : Prop := ∀ (s : am_M) (a1 : Int32), R s → p_LA_columns s a1 ∧ p_MO_columns (f_LA_columns s a1).2 a1 ∧ pu_I R1 (f_LA_columns s a1).1 (f_MO_columns (f_LA_columns s a1).2 a1)
theorem pb_2696 {R R1 : am_M → Prop} (h : op_columns R R1) {L : Nat} {xs : Nat → Int32} {K : am_M → Int32 × am_M} {KP : am_M → Prop} {s : am_M} {x4 : Int32} (h1 : vp_in (x4 + (1 : Int32)) L) (h2 : vp_in (x4 + (2 : Int32)) L) (h3 : vp_in (x4 + (3 : Int32)) L) (h4 : vp_in (x4 + (4 : Int32)) L) (h5 : vp_in (x4 + (5 : Int32)) L) (h6 : vp_in (x4 + (6 : Int32)) L) (hR : R s) : ∃ t, R1 t ∧ f_LB_2696 L xs K s x4 = K t ∧ (KP t → p_LB_2696 L xs KP s x4) := by
  obtain ⟨qa, qm, e⟩ := h s (xs (x4 + (1 : Int32)).toNatClampNeg) hR
  refine ⟨_, e.2.2, ?_, fun hK => ?_⟩
  · unfold f_LB_2696 f_LC_2709 f_LC_2721; exact pu_fI e
  · unfold p_LB_2696 p_LC_2709 p_LC_2721; exact ⟨h1, qa, ⟨h1, qm, pu_pI e hK⟩⟩
def op_answer (R R1 : am_M → Prop) : Prop := ∀ (s : am_M) (a1 a2 a3 : Int32), R s → p_LA_answer s a1 a2 a3 ∧ p_MO_answer (f_LA_answer s a1 a2 a3).2 a1 a2 a3 ∧ pu_I R1 (f_LA_answer s a1 a2 a3).1 (f_MO_answer (f_LA_answer s a1 a2 a3).2 a1 a2 a3)
theorem pb_2752 {R R1 : am_M → Prop} (h : op_answer R R1) {L : Nat} {xs : Nat → Int32} {K : am_M → Int32 × am_M} {KP : am_M → Prop} {s : am_M} {x4 : Int32} (h1 : vp_in (x4 + (1 : Int32)) L) (h2 : vp_in (x4 + (2 : Int32)) L) (h3 : vp_in (x4 + (3 : Int32)) L) (h4 : vp_in (x4 + (4 : Int32)) L) (h5 : vp_in (x4 + (5 : Int32)) L) (h6 : vp_in (x4 + (6 : Int32)) L) (hR : R s) : ∃ t, R1 t ∧ f_LB_2752 L xs K s x4 = K t ∧ (KP t → p_LB_2752 L xs KP s x4) := by
  obtain ⟨qa, qm, e⟩ := h s (xs (x4 + (1 : Int32)).toNatClampNeg) (xs (x4 + (2 : Int32)).toNatClampNeg) (xs (x4 + (3 : Int32)).toNatClampNeg) hR
  refine ⟨_, e.2.2, ?_, fun hK => ?_⟩
  · unfold f_LB_2752 f_LC_2777 f_LC_2801; exact pu_fI e
  · unfold p_LB_2752 p_LC_2777 p_LC_2801; exact ⟨h1, h2, h3, qa, ⟨h1, h2, h3, qm, pu_pI e hK⟩⟩
def op_keyOf (R R1 : am_M → Prop) : Prop := ∀ (s : am_M) (a1 a2 : Int32), R s → p_LA_keyOf s a1 a2 ∧ p_MO_keyOf (f_LA_keyOf s a1 a2).2 a1 a2 ∧ pu_I R1 (f_LA_keyOf s a1 a2).1 (f_MO_keyOf (f_LA_keyOf s a1 a2).2 a1 a2)
theorem pb_2832 {R R1 : am_M → Prop} (h : op_keyOf R R1) {L : Nat} {xs : Nat → Int32} {K : am_M → Int32 × am_M} {KP : am_M → Prop} {s : am_M} {x4 : Int32} (h1 : vp_in (x4 + (1 : Int32)) L) (h2 : vp_in (x4 + (2 : Int32)) L) (h3 : vp_in (x4 + (3 : Int32)) L) (h4 : vp_in (x4 + (4 : Int32)) L) (h5 : vp_in (x4 + (5 : Int32)) L) (h6 : vp_in (x4 + (6 : Int32)) L) (hR : R s) : ∃ t, R1 t ∧ f_LB_2832 L xs K s x4 = K t ∧ (KP t → p_LB_2832 L xs KP s x4) := by
  obtain ⟨qa, qm, e⟩ := h s (xs (x4 + (1 : Int32)).toNatClampNeg) (xs (x4 + (2 : Int32)).toNatClampNeg) hR
  refine ⟨_, e.2.2, ?_, fun hK => ?_⟩
  · unfold f_LB_2832 f_LC_2851 f_LC_2869; exact pu_fI e
  · unfold p_LB_2832 p_LC_2851 p_LC_2869; exact ⟨h1, h2, qa, ⟨h1, h2, qm, pu_pI e hK⟩⟩
def op_target (R R1 : am_M → Prop) : Prop := ∀ (s : am_M) (a1 a2 a3 : Int32), R s → p_LA_target s a1 a2 a3 ∧ p_MO_target (f_LA_target s a1 a2 a3).2 a1 a2 a3 ∧ pu_I R1 (f_LA_target s a1 a2 a3).1 (f_MO_target (f_LA_target s a1 a2 a3).2 a1 a2 a3)
theorem pb_2900 {R R1 : am_M → Prop} (h : op_target R R1) {L : Nat} {xs : Nat → Int32} {K : am_M → Int32 × am_M} {KP : am_M → Prop} {s : am_M} {x4 : Int32} (h1 : vp_in (x4 + (1 : Int32)) L) (h2 : vp_in (x4 + (2 : Int32)) L) (h3 : vp_in (x4 + (3 : Int32)) L) (h4 : vp_in (x4 + (4 : Int32)) L) (h5 : vp_in (x4 + (5 : Int32)) L) (h6 : vp_in (x4 + (6 : Int32)) L) (hR : R s) : ∃ t, R1 t ∧ f_LB_2900 L xs K s x4 = K t ∧ (KP t → p_LB_2900 L xs KP s x4) := by
  obtain ⟨qa, qm, e⟩ := h s (xs (x4 + (1 : Int32)).toNatClampNeg) (xs (x4 + (2 : Int32)).toNatClampNeg) (xs (x4 + (3 : Int32)).toNatClampNeg) hR
  refine ⟨_, e.2.2, ?_, fun hK => ?_⟩
  · unfold f_LB_2900 f_LC_2925 f_LC_2949; exact pu_fI e
  · unfold p_LB_2900 p_LC_2925 p_LC_2949; exact ⟨h1, h2, h3, qa, ⟨h1, h2, h3, qm, pu_pI e hK⟩⟩
def op_write (R R1 : am_M → Prop) : Prop := ∀ (s : am_M) (a1 a2 a3 a4 : Int32), R s → p_LA_write s a1 a2 a3 a4 ∧ p_MO_write (f_LA_write s a1 a2 a3 a4).2 a1 a2 a3 a4 ∧ pu_B R1 (f_LA_write s a1 a2 a3 a4).1 (f_MO_write (f_LA_write s a1 a2 a3 a4).2 a1 a2 a3 a4)
theorem pb_2980 {R R1 : am_M → Prop} (h : op_write R R1) {L : Nat} {xs : Nat → Int32} {K : am_M → Int32 × am_M} {KP : am_M → Prop} {s : am_M} {x4 : Int32} (h1 : vp_in (x4 + (1 : Int32)) L) (h2 : vp_in (x4 + (2 : Int32)) L) (h3 : vp_in (x4 + (3 : Int32)) L) (h4 : vp_in (x4 + (4 : Int32)) L) (h5 : vp_in (x4 + (5 : Int32)) L) (h6 : vp_in (x4 + (6 : Int32)) L) (hR : R s) : ∃ t, R1 t ∧ f_LB_2980 L xs K s x4 = K t ∧ (KP t → p_LB_2980 L xs KP s x4) := by
  obtain ⟨qa, qm, e⟩ := h s (xs (x4 + (1 : Int32)).toNatClampNeg) (xs (x4 + (2 : Int32)).toNatClampNeg) (xs (x4 + (3 : Int32)).toNatClampNeg) (xs (x4 + (4 : Int32)).toNatClampNeg) hR
  refine ⟨_, e.2.2, ?_, fun hK => ?_⟩
  · unfold f_LB_2980 f_LC_3011 f_LC_3041; exact pu_fB e
  · unfold p_LB_2980 p_LC_3011 p_LC_3041; exact ⟨h1, h2, h3, h4, qa, ⟨h1, h2, h3, h4, qm, pu_pB e hK⟩⟩
def op_addAct (R R1 : am_M → Prop) : Prop := ∀ (s : am_M), R s → p_LA_addAct s ∧ pu_I R1 (f_LA_addAct s).1 (f_MO_addAct (f_LA_addAct s).2)
theorem pb_3079 {R R1 : am_M → Prop} (h : op_addAct R R1) {L : Nat} {xs : Nat → Int32} {K : am_M → Int32 × am_M} {KP : am_M → Prop} {s : am_M} {x4 : Int32} (h1 : vp_in (x4 + (1 : Int32)) L) (h2 : vp_in (x4 + (2 : Int32)) L) (h3 : vp_in (x4 + (3 : Int32)) L) (h4 : vp_in (x4 + (4 : Int32)) L) (h5 : vp_in (x4 + (5 : Int32)) L) (h6 : vp_in (x4 + (6 : Int32)) L) (hR : R s) : ∃ t, R1 t ∧ f_LB_3079 L xs K s x4 = K t ∧ (KP t → p_LB_3079 L xs KP s x4) := by
  obtain ⟨qa, e⟩ := h s hR
  refine ⟨_, e.2.2, ?_, fun hK => ?_⟩
  · unfold f_LB_3079 f_LC_3086 f_LC_3092; exact pu_fI e
  · unfold p_LB_3079 p_LC_3086 p_LC_3092; exact ⟨qa, pu_pI e hK⟩
def op_stepPut (R R1 : am_M → Prop) : Prop := ∀ (s : am_M) (a1 a2 a3 a4 : Int32), R s → p_LA_stepPut s a1 a2 a3 a4 ∧ p_MO_stepPut (f_LA_stepPut s a1 a2 a3 a4).2 a1 a2 a3 a4 ∧ pu_I R1 (f_LA_stepPut s a1 a2 a3 a4).1 (f_MO_stepPut (f_LA_stepPut s a1 a2 a3 a4).2 a1 a2 a3 a4)
theorem pb_3123 {R R1 : am_M → Prop} (h : op_stepPut R R1) {L : Nat} {xs : Nat → Int32} {K : am_M → Int32 × am_M} {KP : am_M → Prop} {s : am_M} {x4 : Int32} (h1 : vp_in (x4 + (1 : Int32)) L) (h2 : vp_in (x4 + (2 : Int32)) L) (h3 : vp_in (x4 + (3 : Int32)) L) (h4 : vp_in (x4 + (4 : Int32)) L) (h5 : vp_in (x4 + (5 : Int32)) L) (h6 : vp_in (x4 + (6 : Int32)) L) (hR : R s) : ∃ t, R1 t ∧ f_LB_3123 L xs K s x4 = K t ∧ (KP t → p_LB_3123 L xs KP s x4) := by
  obtain ⟨qa, qm, e⟩ := h s (xs (x4 + (1 : Int32)).toNatClampNeg) (xs (x4 + (2 : Int32)).toNatClampNeg) (xs (x4 + (3 : Int32)).toNatClampNeg) (xs (x4 + (4 : Int32)).toNatClampNeg) hR
  refine ⟨_, e.2.2, ?_, fun hK => ?_⟩
  · unfold f_LB_3123 f_LC_3154 f_LC_3184; exact pu_fI e
  · unfold p_LB_3123 p_LC_3154 p_LC_3184; exact ⟨h1, h2, h3, h4, qa, ⟨h1, h2, h3, h4, qm, pu_pI e hK⟩⟩
def op_stepAdd (R R1 : am_M → Prop) : Prop := ∀ (s : am_M) (a1 a2 : Int32), R s → p_LA_stepAdd s a1 a2 ∧ p_MO_stepAdd (f_LA_stepAdd s a1 a2).2 a1 a2 ∧ pu_I R1 (f_LA_stepAdd s a1 a2).1 (f_MO_stepAdd (f_LA_stepAdd s a1 a2).2 a1 a2)
theorem pb_3215 {R R1 : am_M → Prop} (h : op_stepAdd R R1) {L : Nat} {xs : Nat → Int32} {K : am_M → Int32 × am_M} {KP : am_M → Prop} {s : am_M} {x4 : Int32} (h1 : vp_in (x4 + (1 : Int32)) L) (h2 : vp_in (x4 + (2 : Int32)) L) (h3 : vp_in (x4 + (3 : Int32)) L) (h4 : vp_in (x4 + (4 : Int32)) L) (h5 : vp_in (x4 + (5 : Int32)) L) (h6 : vp_in (x4 + (6 : Int32)) L) (hR : R s) : ∃ t, R1 t ∧ f_LB_3215 L xs K s x4 = K t ∧ (KP t → p_LB_3215 L xs KP s x4) := by
  obtain ⟨qa, qm, e⟩ := h s (xs (x4 + (1 : Int32)).toNatClampNeg) (xs (x4 + (2 : Int32)).toNatClampNeg) hR
  refine ⟨_, e.2.2, ?_, fun hK => ?_⟩
  · unfold f_LB_3215 f_LC_3234 f_LC_3252; exact pu_fI e
  · unfold p_LB_3215 p_LC_3234 p_LC_3252; exact ⟨h1, h2, qa, ⟨h1, h2, qm, pu_pI e hK⟩⟩
def op_stepRemove (R R1 : am_M → Prop) : Prop := ∀ (s : am_M) (a1 a2 a3 : Int32), R s → p_LA_stepRemove s a1 a2 a3 ∧ p_MO_stepRemove (f_LA_stepRemove s a1 a2 a3).2 a1 a2 a3 ∧ pu_I R1 (f_LA_stepRemove s a1 a2 a3).1 (f_MO_stepRemove (f_LA_stepRemove s a1 a2 a3).2 a1 a2 a3)
theorem pb_3283 {R R1 : am_M → Prop} (h : op_stepRemove R R1) {L : Nat} {xs : Nat → Int32} {K : am_M → Int32 × am_M} {KP : am_M → Prop} {s : am_M} {x4 : Int32} (h1 : vp_in (x4 + (1 : Int32)) L) (h2 : vp_in (x4 + (2 : Int32)) L) (h3 : vp_in (x4 + (3 : Int32)) L) (h4 : vp_in (x4 + (4 : Int32)) L) (h5 : vp_in (x4 + (5 : Int32)) L) (h6 : vp_in (x4 + (6 : Int32)) L) (hR : R s) : ∃ t, R1 t ∧ f_LB_3283 L xs K s x4 = K t ∧ (KP t → p_LB_3283 L xs KP s x4) := by
  obtain ⟨qa, qm, e⟩ := h s (xs (x4 + (1 : Int32)).toNatClampNeg) (xs (x4 + (2 : Int32)).toNatClampNeg) (xs (x4 + (3 : Int32)).toNatClampNeg) hR
  refine ⟨_, e.2.2, ?_, fun hK => ?_⟩
  · unfold f_LB_3283 f_LC_3308 f_LC_3332; exact pu_fI e
  · unfold p_LB_3283 p_LC_3308 p_LC_3332; exact ⟨h1, h2, h3, qa, ⟨h1, h2, h3, qm, pu_pI e hK⟩⟩
def op_stepIf (R R1 : am_M → Prop) : Prop := ∀ (s : am_M) (a1 a2 a3 : Int32), R s → p_LA_stepIf s a1 a2 a3 ∧ p_MO_stepIf (f_LA_stepIf s a1 a2 a3).2 a1 a2 a3 ∧ pu_I R1 (f_LA_stepIf s a1 a2 a3).1 (f_MO_stepIf (f_LA_stepIf s a1 a2 a3).2 a1 a2 a3)
theorem pb_3363 {R R1 : am_M → Prop} (h : op_stepIf R R1) {L : Nat} {xs : Nat → Int32} {K : am_M → Int32 × am_M} {KP : am_M → Prop} {s : am_M} {x4 : Int32} (h1 : vp_in (x4 + (1 : Int32)) L) (h2 : vp_in (x4 + (2 : Int32)) L) (h3 : vp_in (x4 + (3 : Int32)) L) (h4 : vp_in (x4 + (4 : Int32)) L) (h5 : vp_in (x4 + (5 : Int32)) L) (h6 : vp_in (x4 + (6 : Int32)) L) (hR : R s) : ∃ t, R1 t ∧ f_LB_3363 L xs K s x4 = K t ∧ (KP t → p_LB_3363 L xs KP s x4) := by
  obtain ⟨qa, qm, e⟩ := h s (xs (x4 + (1 : Int32)).toNatClampNeg) (xs (x4 + (2 : Int32)).toNatClampNeg) (xs (x4 + (3 : Int32)).toNatClampNeg) hR
  refine ⟨_, e.2.2, ?_, fun hK => ?_⟩
  · unfold f_LB_3363 f_LC_3388 f_LC_3412; exact pu_fI e
  · unfold p_LB_3363 p_LC_3388 p_LC_3412; exact ⟨h1, h2, h3, qa, ⟨h1, h2, h3, qm, pu_pI e hK⟩⟩
def op_run (R R1 : am_M → Prop) : Prop := ∀ (s : am_M) (a1 : Int32), R s → p_LA_run s a1 ∧ p_MO_run (f_LA_run s a1).2 a1 ∧ pu_B R1 (f_LA_run s a1).1 (f_MO_run (f_LA_run s a1).2 a1)
theorem pb_3443 {R R1 : am_M → Prop} (h : op_run R R1) {L : Nat} {xs : Nat → Int32} {K : am_M → Int32 × am_M} {KP : am_M → Prop} {s : am_M} {x4 : Int32} (h1 : vp_in (x4 + (1 : Int32)) L) (h2 : vp_in (x4 + (2 : Int32)) L) (h3 : vp_in (x4 + (3 : Int32)) L) (h4 : vp_in (x4 + (4 : Int32)) L) (h5 : vp_in (x4 + (5 : Int32)) L) (h6 : vp_in (x4 + (6 : Int32)) L) (hR : R s) : ∃ t, R1 t ∧ f_LB_3443 L xs K s x4 = K t ∧ (KP t → p_LB_3443 L xs KP s x4) := by
  obtain ⟨qa, qm, e⟩ := h s (xs (x4 + (1 : Int32)).toNatClampNeg) hR
  refine ⟨_, e.2.2, ?_, fun hK => ?_⟩
  · unfold f_LB_3443 f_LC_3456 f_LC_3468; exact pu_fB e
  · unfold p_LB_3443 p_LC_3456 p_LC_3468; exact ⟨h1, qa, ⟨h1, qm, pu_pB e hK⟩⟩
def op_undoable (R R1 : am_M → Prop) : Prop := ∀ s : am_M, R s → (f_CB_undoable s) = (f_MO_undoable s).1 ∧ R1 (f_MO_undoable s).2
theorem pb_3506 {R R1 : am_M → Prop} (h : op_undoable R R1) {L : Nat} {xs : Nat → Int32} {K : am_M → Int32 × am_M} {KP : am_M → Prop} {s : am_M} {x4 : Int32} (h1 : vp_in (x4 + (1 : Int32)) L) (h2 : vp_in (x4 + (2 : Int32)) L) (h3 : vp_in (x4 + (3 : Int32)) L) (h4 : vp_in (x4 + (4 : Int32)) L) (h5 : vp_in (x4 + (5 : Int32)) L) (h6 : vp_in (x4 + (6 : Int32)) L) (hR : R s) : ∃ t, R1 t ∧ f_LB_3506 L xs K s x4 = K t ∧ (KP t → p_LB_3506 L xs KP s x4) := by
  obtain ⟨e, r⟩ := h s hR
  refine ⟨_, r, ?_, fun hK => ?_⟩
  · unfold f_LB_3506; rw [if_pos e]
  · unfold p_LB_3506; exact ⟨fun _ => hK, fun _ => trivial⟩
def op_undo (R R1 : am_M → Prop) : Prop := ∀ (s : am_M), R s → p_LA_undo s ∧ p_MO_undo (f_LA_undo s).2 ∧ pu_I R1 (f_LA_undo s).1 (f_MO_undo (f_LA_undo s).2)
theorem pb_3519 {R R1 : am_M → Prop} (h : op_undo R R1) {L : Nat} {xs : Nat → Int32} {K : am_M → Int32 × am_M} {KP : am_M → Prop} {s : am_M} {x4 : Int32} (h1 : vp_in (x4 + (1 : Int32)) L) (h2 : vp_in (x4 + (2 : Int32)) L) (h3 : vp_in (x4 + (3 : Int32)) L) (h4 : vp_in (x4 + (4 : Int32)) L) (h5 : vp_in (x4 + (5 : Int32)) L) (h6 : vp_in (x4 + (6 : Int32)) L) (hR : R s) : ∃ t, R1 t ∧ f_LB_3519 L xs K s x4 = K t ∧ (KP t → p_LB_3519 L xs KP s x4) := by
  obtain ⟨qa, qm, e⟩ := h s hR
  refine ⟨_, e.2.2, ?_, fun hK => ?_⟩
  · unfold f_LB_3519 f_LC_3526 f_LC_3532; exact pu_fI e
  · unfold p_LB_3519 p_LC_3526 p_LC_3532; exact ⟨qa, ⟨qm, pu_pI e hK⟩⟩
set_option maxRecDepth 100000 in
theorem pu_chain {R R1 : am_M → Prop} (mono : ∀ s, R s → R1 s) (o0 : op_addTable R R1) (o1 : op_addNumber R R1) (o2 : op_addLink R R1) (o3 : op_addReckoned R R1) (o4 : op_reckonAnew R R1) (o5 : op_need R R1) (o6 : op_single R R1) (o7 : op_wouldLose R R1) (o8 : op_narrow R R1) (o9 : op_wouldLoseAll R R1) (o10 : op_drop R R1) (o11 : op_setRemoval R R1) (o12 : op_addRule R R1) (o13 : op_dropRule R R1) (o14 : op_order R R1) (o15 : op_reason R R1) (o16 : op_whereTable R R1) (o17 : op_whereRow R R1) (o18 : op_whereColumn R R1) (o19 : op_broken R R1) (o20 : op_type R R1) (o21 : op_clearDraft R R1) (o22 : op_enter R R1) (o23 : op_put R R1) (o24 : op_remove R R1) (o25 : op_openForm R R1) (o26 : op_enterInside R R1) (o27 : op_choice R R1) (o28 : op_cell R R1) (o29 : op_isThere R R1) (o30 : op_rows R R1) (o31 : op_ask R R1) (o32 : op_condition R R1) (o33 : op_askGroups R R1) (o34 : op_askCross R R1) (o35 : op_answers R R1) (o36 : op_columns R R1) (o37 : op_answer R R1) (o38 : op_keyOf R R1) (o39 : op_target R R1) (o40 : op_write R R1) (o41 : op_addAct R R1) (o42 : op_stepPut R R1) (o43 : op_stepAdd R R1) (o44 : op_stepRemove R R1) (o45 : op_stepIf R R1) (o46 : op_run R R1) (o47 : op_undoable R R1) (o48 : op_undo R R1) {L n : Nat} {xs : Nat → Int32} {s : am_M} {x4 : Int32} (h1 : vp_in (x4 + (1 : Int32)) L) (h2 : vp_in (x4 + (2 : Int32)) L) (h3 : vp_in (x4 + (3 : Int32)) L) (h4 : vp_in (x4 + (4 : Int32)) L) (h5 : vp_in (x4 + (5 : Int32)) L) (h6 : vp_in (x4 + (6 : Int32)) L) (hR : R s) (ih : ∀ t, R1 t → p_LAW L xs n t (x4 + (7 : Int32)) ∧ (f_LAW L xs n t (x4 + (7 : Int32))).1 = 1) : (((((xs (x4).toNatClampNeg) &&& (63 : Int32)) = (0 : Int32)) → (p_LB_252 L xs (fun s => p_LAW L xs n s (x4 + (7 : Int32))) s x4)) ∧ (¬ (((xs (x4).toNatClampNeg) &&& (63 : Int32)) = (0 : Int32)) → ((((xs (x4).toNatClampNeg) &&& (63 : Int32)) = (1 : Int32)) → (p_LB_296 L xs (fun s => p_LAW L xs n s (x4 + (7 : Int32))) s x4)) ∧ (¬ (((xs (x4).toNatClampNeg) &&& (63 : Int32)) = (1 : Int32)) → ((((xs (x4).toNatClampNeg) &&& (63 : Int32)) = (2 : Int32)) → (p_LB_376 L xs (fun s => p_LAW L xs n s (x4 + (7 : Int32))) s x4)) ∧ (¬ (((xs (x4).toNatClampNeg) &&& (63 : Int32)) = (2 : Int32)) → ((((xs (x4).toNatClampNeg) &&& (63 : Int32)) = (3 : Int32)) → (p_LB_456 L xs (fun s => p_LAW L xs n s (x4 + (7 : Int32))) s x4)) ∧ (¬ (((xs (x4).toNatClampNeg) &&& (63 : Int32)) = (3 : Int32)) → ((((xs (x4).toNatClampNeg) &&& (63 : Int32)) = (4 : Int32)) → (p_LB_560 L xs (fun s => p_LAW L xs n s (x4 + (7 : Int32))) s x4)) ∧ (¬ (((xs (x4).toNatClampNeg) &&& (63 : Int32)) = (4 : Int32)) → ((((xs (x4).toNatClampNeg) &&& (63 : Int32)) = (5 : Int32)) → (p_LB_685 L xs (fun s => p_LAW L xs n s (x4 + (7 : Int32))) s x4)) ∧ (¬ (((xs (x4).toNatClampNeg) &&& (63 : Int32)) = (5 : Int32)) → ((((xs (x4).toNatClampNeg) &&& (63 : Int32)) = (6 : Int32)) → (p_LB_788 L xs (fun s => p_LAW L xs n s (x4 + (7 : Int32))) s x4)) ∧ (¬ (((xs (x4).toNatClampNeg) &&& (63 : Int32)) = (6 : Int32)) → ((((xs (x4).toNatClampNeg) &&& (63 : Int32)) = (7 : Int32)) → (p_LB_891 L xs (fun s => p_LAW L xs n s (x4 + (7 : Int32))) s x4)) ∧ (¬ (((xs (x4).toNatClampNeg) &&& (63 : Int32)) = (7 : Int32)) → ((((xs (x4).toNatClampNeg) &&& (63 : Int32)) = (8 : Int32)) → (p_LB_983 L xs (fun s => p_LAW L xs n s (x4 + (7 : Int32))) s x4)) ∧ (¬ (((xs (x4).toNatClampNeg) &&& (63 : Int32)) = (8 : Int32)) → ((((xs (x4).toNatClampNeg) &&& (63 : Int32)) = (9 : Int32)) → (p_LB_1082 L xs (fun s => p_LAW L xs n s (x4 + (7 : Int32))) s x4)) ∧ (¬ (((xs (x4).toNatClampNeg) &&& (63 : Int32)) = (9 : Int32)) → ((((xs (x4).toNatClampNeg) &&& (63 : Int32)) = (10 : Int32)) → (p_LB_1150 L xs (fun s => p_LAW L xs n s (x4 + (7 : Int32))) s x4)) ∧ (¬ (((xs (x4).toNatClampNeg) &&& (63 : Int32)) = (10 : Int32)) → ((((xs (x4).toNatClampNeg) &&& (63 : Int32)) = (11 : Int32)) → (p_LB_1225 L xs (fun s => p_LAW L xs n s (x4 + (7 : Int32))) s x4)) ∧ (¬ (((xs (x4).toNatClampNeg) &&& (63 : Int32)) = (11 : Int32)) → ((((xs (x4).toNatClampNeg) &&& (63 : Int32)) = (12 : Int32)) → (p_LB_1305 L xs (fun s => p_LAW L xs n s (x4 + (7 : Int32))) s x4)) ∧ (¬ (((xs (x4).toNatClampNeg) &&& (63 : Int32)) = (12 : Int32)) → ((((xs (x4).toNatClampNeg) &&& (63 : Int32)) = (13 : Int32)) → (p_LB_1409 L xs (fun s => p_LAW L xs n s (x4 + (7 : Int32))) s x4)) ∧ (¬ (((xs (x4).toNatClampNeg) &&& (63 : Int32)) = (13 : Int32)) → ((((xs (x4).toNatClampNeg) &&& (63 : Int32)) = (14 : Int32)) → (p_LB_1445 L xs (fun s => p_LAW L xs n s (x4 + (7 : Int32))) s x4)) ∧ (¬ (((xs (x4).toNatClampNeg) &&& (63 : Int32)) = (14 : Int32)) → ((((xs (x4).toNatClampNeg) &&& (63 : Int32)) = (15 : Int32)) → (p_LB_1501 L xs (fun s => p_LAW L xs n s (x4 + (7 : Int32))) s x4)) ∧ (¬ (((xs (x4).toNatClampNeg) &&& (63 : Int32)) = (15 : Int32)) → ((((xs (x4).toNatClampNeg) &&& (63 : Int32)) = (16 : Int32)) → (p_LB_1514 L xs (fun s => p_LAW L xs n s (x4 + (7 : Int32))) s x4)) ∧ (¬ (((xs (x4).toNatClampNeg) &&& (63 : Int32)) = (16 : Int32)) → ((((xs (x4).toNatClampNeg) &&& (63 : Int32)) = (17 : Int32)) → (p_LB_1527 L xs (fun s => p_LAW L xs n s (x4 + (7 : Int32))) s x4)) ∧ (¬ (((xs (x4).toNatClampNeg) &&& (63 : Int32)) = (17 : Int32)) → ((((xs (x4).toNatClampNeg) &&& (63 : Int32)) = (18 : Int32)) → (p_LB_1540 L xs (fun s => p_LAW L xs n s (x4 + (7 : Int32))) s x4)) ∧ (¬ (((xs (x4).toNatClampNeg) &&& (63 : Int32)) = (18 : Int32)) → ((((xs (x4).toNatClampNeg) &&& (63 : Int32)) = (19 : Int32)) → (p_LB_1553 L xs (fun s => p_LAW L xs n s (x4 + (7 : Int32))) s x4)) ∧ (¬ (((xs (x4).toNatClampNeg) &&& (63 : Int32)) = (19 : Int32)) → ((((xs (x4).toNatClampNeg) &&& (63 : Int32)) = (20 : Int32)) → (p_LB_1566 L xs (fun s => p_LAW L xs n s (x4 + (7 : Int32))) s x4)) ∧ (¬ (((xs (x4).toNatClampNeg) &&& (63 : Int32)) = (20 : Int32)) → ((((xs (x4).toNatClampNeg) &&& (63 : Int32)) = (21 : Int32)) → (p_LB_1634 L xs (fun s => p_LAW L xs n s (x4 + (7 : Int32))) s x4)) ∧ (¬ (((xs (x4).toNatClampNeg) &&& (63 : Int32)) = (21 : Int32)) → ((((xs (x4).toNatClampNeg) &&& (63 : Int32)) = (22 : Int32)) → (p_LB_1647 L xs (fun s => p_LAW L xs n s (x4 + (7 : Int32))) s x4)) ∧ (¬ (((xs (x4).toNatClampNeg) &&& (63 : Int32)) = (22 : Int32)) → ((((xs (x4).toNatClampNeg) &&& (63 : Int32)) = (23 : Int32)) → (p_LB_1703 L xs (fun s => p_LAW L xs n s (x4 + (7 : Int32))) s x4)) ∧ (¬ (((xs (x4).toNatClampNeg) &&& (63 : Int32)) = (23 : Int32)) → ((((xs (x4).toNatClampNeg) &&& (63 : Int32)) = (24 : Int32)) → (p_LB_1802 L xs (fun s => p_LAW L xs n s (x4 + (7 : Int32))) s x4)) ∧ (¬ (((xs (x4).toNatClampNeg) &&& (63 : Int32)) = (24 : Int32)) → ((((xs (x4).toNatClampNeg) &&& (63 : Int32)) = (25 : Int32)) → (p_LB_1877 L xs (fun s => p_LAW L xs n s (x4 + (7 : Int32))) s x4)) ∧ (¬ (((xs (x4).toNatClampNeg) &&& (63 : Int32)) = (25 : Int32)) → ((((xs (x4).toNatClampNeg) &&& (63 : Int32)) = (26 : Int32)) → (p_LB_1925 L xs (fun s => p_LAW L xs n s (x4 + (7 : Int32))) s x4)) ∧ (¬ (((xs (x4).toNatClampNeg) &&& (63 : Int32)) = (26 : Int32)) → ((((xs (x4).toNatClampNeg) &&& (63 : Int32)) = (27 : Int32)) → (p_LB_1993 L xs (fun s => p_LAW L xs n s (x4 + (7 : Int32))) s x4)) ∧ (¬ (((xs (x4).toNatClampNeg) &&& (63 : Int32)) = (27 : Int32)) → ((((xs (x4).toNatClampNeg) &&& (63 : Int32)) = (28 : Int32)) → (p_LB_2085 L xs (fun s => p_LAW L xs n s (x4 + (7 : Int32))) s x4)) ∧ (¬ (((xs (x4).toNatClampNeg) &&& (63 : Int32)) = (28 : Int32)) → ((((xs (x4).toNatClampNeg) &&& (63 : Int32)) = (29 : Int32)) → (p_LB_2165 L xs (fun s => p_LAW L xs n s (x4 + (7 : Int32))) s x4)) ∧ (¬ (((xs (x4).toNatClampNeg) &&& (63 : Int32)) = (29 : Int32)) → ((((xs (x4).toNatClampNeg) &&& (63 : Int32)) = (30 : Int32)) → (p_LB_2240 L xs (fun s => p_LAW L xs n s (x4 + (7 : Int32))) s x4)) ∧ (¬ (((xs (x4).toNatClampNeg) &&& (63 : Int32)) = (30 : Int32)) → ((((xs (x4).toNatClampNeg) &&& (63 : Int32)) = (31 : Int32)) → (p_LB_2296 L xs (fun s => p_LAW L xs n s (x4 + (7 : Int32))) s x4)) ∧ (¬ (((xs (x4).toNatClampNeg) &&& (63 : Int32)) = (31 : Int32)) → ((((xs (x4).toNatClampNeg) &&& (63 : Int32)) = (32 : Int32)) → (p_LB_2364 L xs (fun s => p_LAW L xs n s (x4 + (7 : Int32))) s x4)) ∧ (¬ (((xs (x4).toNatClampNeg) &&& (63 : Int32)) = (32 : Int32)) → ((((xs (x4).toNatClampNeg) &&& (63 : Int32)) = (33 : Int32)) → (p_LB_2468 L xs (fun s => p_LAW L xs n s (x4 + (7 : Int32))) s x4)) ∧ (¬ (((xs (x4).toNatClampNeg) &&& (63 : Int32)) = (33 : Int32)) → ((((xs (x4).toNatClampNeg) &&& (63 : Int32)) = (34 : Int32)) → (p_LB_2548 L xs (fun s => p_LAW L xs n s (x4 + (7 : Int32))) s x4)) ∧ (¬ (((xs (x4).toNatClampNeg) &&& (63 : Int32)) = (34 : Int32)) → ((((xs (x4).toNatClampNeg) &&& (63 : Int32)) = (35 : Int32)) → (p_LB_2640 L xs (fun s => p_LAW L xs n s (x4 + (7 : Int32))) s x4)) ∧ (¬ (((xs (x4).toNatClampNeg) &&& (63 : Int32)) = (35 : Int32)) → ((((xs (x4).toNatClampNeg) &&& (63 : Int32)) = (36 : Int32)) → (p_LB_2696 L xs (fun s => p_LAW L xs n s (x4 + (7 : Int32))) s x4)) ∧ (¬ (((xs (x4).toNatClampNeg) &&& (63 : Int32)) = (36 : Int32)) → ((((xs (x4).toNatClampNeg) &&& (63 : Int32)) = (37 : Int32)) → (p_LB_2752 L xs (fun s => p_LAW L xs n s (x4 + (7 : Int32))) s x4)) ∧ (¬ (((xs (x4).toNatClampNeg) &&& (63 : Int32)) = (37 : Int32)) → ((((xs (x4).toNatClampNeg) &&& (63 : Int32)) = (38 : Int32)) → (p_LB_2832 L xs (fun s => p_LAW L xs n s (x4 + (7 : Int32))) s x4)) ∧ (¬ (((xs (x4).toNatClampNeg) &&& (63 : Int32)) = (38 : Int32)) → ((((xs (x4).toNatClampNeg) &&& (63 : Int32)) = (39 : Int32)) → (p_LB_2900 L xs (fun s => p_LAW L xs n s (x4 + (7 : Int32))) s x4)) ∧ (¬ (((xs (x4).toNatClampNeg) &&& (63 : Int32)) = (39 : Int32)) → ((((xs (x4).toNatClampNeg) &&& (63 : Int32)) = (40 : Int32)) → (p_LB_2980 L xs (fun s => p_LAW L xs n s (x4 + (7 : Int32))) s x4)) ∧ (¬ (((xs (x4).toNatClampNeg) &&& (63 : Int32)) = (40 : Int32)) → ((((xs (x4).toNatClampNeg) &&& (63 : Int32)) = (41 : Int32)) → (p_LB_3079 L xs (fun s => p_LAW L xs n s (x4 + (7 : Int32))) s x4)) ∧ (¬ (((xs (x4).toNatClampNeg) &&& (63 : Int32)) = (41 : Int32)) → ((((xs (x4).toNatClampNeg) &&& (63 : Int32)) = (42 : Int32)) → (p_LB_3123 L xs (fun s => p_LAW L xs n s (x4 + (7 : Int32))) s x4)) ∧ (¬ (((xs (x4).toNatClampNeg) &&& (63 : Int32)) = (42 : Int32)) → ((((xs (x4).toNatClampNeg) &&& (63 : Int32)) = (43 : Int32)) → (p_LB_3215 L xs (fun s => p_LAW L xs n s (x4 + (7 : Int32))) s x4)) ∧ (¬ (((xs (x4).toNatClampNeg) &&& (63 : Int32)) = (43 : Int32)) → ((((xs (x4).toNatClampNeg) &&& (63 : Int32)) = (44 : Int32)) → (p_LB_3283 L xs (fun s => p_LAW L xs n s (x4 + (7 : Int32))) s x4)) ∧ (¬ (((xs (x4).toNatClampNeg) &&& (63 : Int32)) = (44 : Int32)) → ((((xs (x4).toNatClampNeg) &&& (63 : Int32)) = (45 : Int32)) → (p_LB_3363 L xs (fun s => p_LAW L xs n s (x4 + (7 : Int32))) s x4)) ∧ (¬ (((xs (x4).toNatClampNeg) &&& (63 : Int32)) = (45 : Int32)) → ((((xs (x4).toNatClampNeg) &&& (63 : Int32)) = (46 : Int32)) → (p_LB_3443 L xs (fun s => p_LAW L xs n s (x4 + (7 : Int32))) s x4)) ∧ (¬ (((xs (x4).toNatClampNeg) &&& (63 : Int32)) = (46 : Int32)) → ((((xs (x4).toNatClampNeg) &&& (63 : Int32)) = (47 : Int32)) → (p_LB_3506 L xs (fun s => p_LAW L xs n s (x4 + (7 : Int32))) s x4)) ∧ (¬ (((xs (x4).toNatClampNeg) &&& (63 : Int32)) = (47 : Int32)) → ((((xs (x4).toNatClampNeg) &&& (63 : Int32)) = (48 : Int32)) → (p_LB_3519 L xs (fun s => p_LAW L xs n s (x4 + (7 : Int32))) s x4)) ∧ (¬ (((xs (x4).toNatClampNeg) &&& (63 : Int32)) = (48 : Int32)) → (p_LAW L xs n s (x4 + (7 : Int32))))))))))))))))))))))))))))))))))))))))))))))))))))) ∧ (if ((xs (x4).toNatClampNeg) &&& (63 : Int32)) = (0 : Int32) then (f_LB_252 L xs (fun s => f_LAW L xs n s (x4 + (7 : Int32))) s x4) else (if ((xs (x4).toNatClampNeg) &&& (63 : Int32)) = (1 : Int32) then (f_LB_296 L xs (fun s => f_LAW L xs n s (x4 + (7 : Int32))) s x4) else (if ((xs (x4).toNatClampNeg) &&& (63 : Int32)) = (2 : Int32) then (f_LB_376 L xs (fun s => f_LAW L xs n s (x4 + (7 : Int32))) s x4) else (if ((xs (x4).toNatClampNeg) &&& (63 : Int32)) = (3 : Int32) then (f_LB_456 L xs (fun s => f_LAW L xs n s (x4 + (7 : Int32))) s x4) else (if ((xs (x4).toNatClampNeg) &&& (63 : Int32)) = (4 : Int32) then (f_LB_560 L xs (fun s => f_LAW L xs n s (x4 + (7 : Int32))) s x4) else (if ((xs (x4).toNatClampNeg) &&& (63 : Int32)) = (5 : Int32) then (f_LB_685 L xs (fun s => f_LAW L xs n s (x4 + (7 : Int32))) s x4) else (if ((xs (x4).toNatClampNeg) &&& (63 : Int32)) = (6 : Int32) then (f_LB_788 L xs (fun s => f_LAW L xs n s (x4 + (7 : Int32))) s x4) else (if ((xs (x4).toNatClampNeg) &&& (63 : Int32)) = (7 : Int32) then (f_LB_891 L xs (fun s => f_LAW L xs n s (x4 + (7 : Int32))) s x4) else (if ((xs (x4).toNatClampNeg) &&& (63 : Int32)) = (8 : Int32) then (f_LB_983 L xs (fun s => f_LAW L xs n s (x4 + (7 : Int32))) s x4) else (if ((xs (x4).toNatClampNeg) &&& (63 : Int32)) = (9 : Int32) then (f_LB_1082 L xs (fun s => f_LAW L xs n s (x4 + (7 : Int32))) s x4) else (if ((xs (x4).toNatClampNeg) &&& (63 : Int32)) = (10 : Int32) then (f_LB_1150 L xs (fun s => f_LAW L xs n s (x4 + (7 : Int32))) s x4) else (if ((xs (x4).toNatClampNeg) &&& (63 : Int32)) = (11 : Int32) then (f_LB_1225 L xs (fun s => f_LAW L xs n s (x4 + (7 : Int32))) s x4) else (if ((xs (x4).toNatClampNeg) &&& (63 : Int32)) = (12 : Int32) then (f_LB_1305 L xs (fun s => f_LAW L xs n s (x4 + (7 : Int32))) s x4) else (if ((xs (x4).toNatClampNeg) &&& (63 : Int32)) = (13 : Int32) then (f_LB_1409 L xs (fun s => f_LAW L xs n s (x4 + (7 : Int32))) s x4) else (if ((xs (x4).toNatClampNeg) &&& (63 : Int32)) = (14 : Int32) then (f_LB_1445 L xs (fun s => f_LAW L xs n s (x4 + (7 : Int32))) s x4) else (if ((xs (x4).toNatClampNeg) &&& (63 : Int32)) = (15 : Int32) then (f_LB_1501 L xs (fun s => f_LAW L xs n s (x4 + (7 : Int32))) s x4) else (if ((xs (x4).toNatClampNeg) &&& (63 : Int32)) = (16 : Int32) then (f_LB_1514 L xs (fun s => f_LAW L xs n s (x4 + (7 : Int32))) s x4) else (if ((xs (x4).toNatClampNeg) &&& (63 : Int32)) = (17 : Int32) then (f_LB_1527 L xs (fun s => f_LAW L xs n s (x4 + (7 : Int32))) s x4) else (if ((xs (x4).toNatClampNeg) &&& (63 : Int32)) = (18 : Int32) then (f_LB_1540 L xs (fun s => f_LAW L xs n s (x4 + (7 : Int32))) s x4) else (if ((xs (x4).toNatClampNeg) &&& (63 : Int32)) = (19 : Int32) then (f_LB_1553 L xs (fun s => f_LAW L xs n s (x4 + (7 : Int32))) s x4) else (if ((xs (x4).toNatClampNeg) &&& (63 : Int32)) = (20 : Int32) then (f_LB_1566 L xs (fun s => f_LAW L xs n s (x4 + (7 : Int32))) s x4) else (if ((xs (x4).toNatClampNeg) &&& (63 : Int32)) = (21 : Int32) then (f_LB_1634 L xs (fun s => f_LAW L xs n s (x4 + (7 : Int32))) s x4) else (if ((xs (x4).toNatClampNeg) &&& (63 : Int32)) = (22 : Int32) then (f_LB_1647 L xs (fun s => f_LAW L xs n s (x4 + (7 : Int32))) s x4) else (if ((xs (x4).toNatClampNeg) &&& (63 : Int32)) = (23 : Int32) then (f_LB_1703 L xs (fun s => f_LAW L xs n s (x4 + (7 : Int32))) s x4) else (if ((xs (x4).toNatClampNeg) &&& (63 : Int32)) = (24 : Int32) then (f_LB_1802 L xs (fun s => f_LAW L xs n s (x4 + (7 : Int32))) s x4) else (if ((xs (x4).toNatClampNeg) &&& (63 : Int32)) = (25 : Int32) then (f_LB_1877 L xs (fun s => f_LAW L xs n s (x4 + (7 : Int32))) s x4) else (if ((xs (x4).toNatClampNeg) &&& (63 : Int32)) = (26 : Int32) then (f_LB_1925 L xs (fun s => f_LAW L xs n s (x4 + (7 : Int32))) s x4) else (if ((xs (x4).toNatClampNeg) &&& (63 : Int32)) = (27 : Int32) then (f_LB_1993 L xs (fun s => f_LAW L xs n s (x4 + (7 : Int32))) s x4) else (if ((xs (x4).toNatClampNeg) &&& (63 : Int32)) = (28 : Int32) then (f_LB_2085 L xs (fun s => f_LAW L xs n s (x4 + (7 : Int32))) s x4) else (if ((xs (x4).toNatClampNeg) &&& (63 : Int32)) = (29 : Int32) then (f_LB_2165 L xs (fun s => f_LAW L xs n s (x4 + (7 : Int32))) s x4) else (if ((xs (x4).toNatClampNeg) &&& (63 : Int32)) = (30 : Int32) then (f_LB_2240 L xs (fun s => f_LAW L xs n s (x4 + (7 : Int32))) s x4) else (if ((xs (x4).toNatClampNeg) &&& (63 : Int32)) = (31 : Int32) then (f_LB_2296 L xs (fun s => f_LAW L xs n s (x4 + (7 : Int32))) s x4) else (if ((xs (x4).toNatClampNeg) &&& (63 : Int32)) = (32 : Int32) then (f_LB_2364 L xs (fun s => f_LAW L xs n s (x4 + (7 : Int32))) s x4) else (if ((xs (x4).toNatClampNeg) &&& (63 : Int32)) = (33 : Int32) then (f_LB_2468 L xs (fun s => f_LAW L xs n s (x4 + (7 : Int32))) s x4) else (if ((xs (x4).toNatClampNeg) &&& (63 : Int32)) = (34 : Int32) then (f_LB_2548 L xs (fun s => f_LAW L xs n s (x4 + (7 : Int32))) s x4) else (if ((xs (x4).toNatClampNeg) &&& (63 : Int32)) = (35 : Int32) then (f_LB_2640 L xs (fun s => f_LAW L xs n s (x4 + (7 : Int32))) s x4) else (if ((xs (x4).toNatClampNeg) &&& (63 : Int32)) = (36 : Int32) then (f_LB_2696 L xs (fun s => f_LAW L xs n s (x4 + (7 : Int32))) s x4) else (if ((xs (x4).toNatClampNeg) &&& (63 : Int32)) = (37 : Int32) then (f_LB_2752 L xs (fun s => f_LAW L xs n s (x4 + (7 : Int32))) s x4) else (if ((xs (x4).toNatClampNeg) &&& (63 : Int32)) = (38 : Int32) then (f_LB_2832 L xs (fun s => f_LAW L xs n s (x4 + (7 : Int32))) s x4) else (if ((xs (x4).toNatClampNeg) &&& (63 : Int32)) = (39 : Int32) then (f_LB_2900 L xs (fun s => f_LAW L xs n s (x4 + (7 : Int32))) s x4) else (if ((xs (x4).toNatClampNeg) &&& (63 : Int32)) = (40 : Int32) then (f_LB_2980 L xs (fun s => f_LAW L xs n s (x4 + (7 : Int32))) s x4) else (if ((xs (x4).toNatClampNeg) &&& (63 : Int32)) = (41 : Int32) then (f_LB_3079 L xs (fun s => f_LAW L xs n s (x4 + (7 : Int32))) s x4) else (if ((xs (x4).toNatClampNeg) &&& (63 : Int32)) = (42 : Int32) then (f_LB_3123 L xs (fun s => f_LAW L xs n s (x4 + (7 : Int32))) s x4) else (if ((xs (x4).toNatClampNeg) &&& (63 : Int32)) = (43 : Int32) then (f_LB_3215 L xs (fun s => f_LAW L xs n s (x4 + (7 : Int32))) s x4) else (if ((xs (x4).toNatClampNeg) &&& (63 : Int32)) = (44 : Int32) then (f_LB_3283 L xs (fun s => f_LAW L xs n s (x4 + (7 : Int32))) s x4) else (if ((xs (x4).toNatClampNeg) &&& (63 : Int32)) = (45 : Int32) then (f_LB_3363 L xs (fun s => f_LAW L xs n s (x4 + (7 : Int32))) s x4) else (if ((xs (x4).toNatClampNeg) &&& (63 : Int32)) = (46 : Int32) then (f_LB_3443 L xs (fun s => f_LAW L xs n s (x4 + (7 : Int32))) s x4) else (if ((xs (x4).toNatClampNeg) &&& (63 : Int32)) = (47 : Int32) then (f_LB_3506 L xs (fun s => f_LAW L xs n s (x4 + (7 : Int32))) s x4) else (if ((xs (x4).toNatClampNeg) &&& (63 : Int32)) = (48 : Int32) then (f_LB_3519 L xs (fun s => f_LAW L xs n s (x4 + (7 : Int32))) s x4) else (f_LAW L xs n s (x4 + (7 : Int32)))))))))))))))))))))))))))))))))))))))))))))))))))).1 = 1 := by
  refine pu_sw (fun _ => pu_cs (pb_252 o0 h1 h2 h3 h4 h5 h6 hR) ih) (fun _ => ?_)
  refine pu_sw (fun _ => pu_cs (pb_296 o1 h1 h2 h3 h4 h5 h6 hR) ih) (fun _ => ?_)
  refine pu_sw (fun _ => pu_cs (pb_376 o2 h1 h2 h3 h4 h5 h6 hR) ih) (fun _ => ?_)
  refine pu_sw (fun _ => pu_cs (pb_456 o3 h1 h2 h3 h4 h5 h6 hR) ih) (fun _ => ?_)
  refine pu_sw (fun _ => pu_cs (pb_560 o4 h1 h2 h3 h4 h5 h6 hR) ih) (fun _ => ?_)
  refine pu_sw (fun _ => pu_cs (pb_685 o5 h1 h2 h3 h4 h5 h6 hR) ih) (fun _ => ?_)
  refine pu_sw (fun _ => pu_cs (pb_788 o6 h1 h2 h3 h4 h5 h6 hR) ih) (fun _ => ?_)
  refine pu_sw (fun _ => pu_cs (pb_891 o7 h1 h2 h3 h4 h5 h6 hR) ih) (fun _ => ?_)
  refine pu_sw (fun _ => pu_cs (pb_983 o8 h1 h2 h3 h4 h5 h6 hR) ih) (fun _ => ?_)
  refine pu_sw (fun _ => pu_cs (pb_1082 o9 h1 h2 h3 h4 h5 h6 hR) ih) (fun _ => ?_)
  refine pu_sw (fun _ => pu_cs (pb_1150 o10 h1 h2 h3 h4 h5 h6 hR) ih) (fun _ => ?_)
  refine pu_sw (fun _ => pu_cs (pb_1225 o11 h1 h2 h3 h4 h5 h6 hR) ih) (fun _ => ?_)
  refine pu_sw (fun _ => pu_cs (pb_1305 o12 h1 h2 h3 h4 h5 h6 hR) ih) (fun _ => ?_)
  refine pu_sw (fun _ => pu_cs (pb_1409 o13 h1 h2 h3 h4 h5 h6 hR) ih) (fun _ => ?_)
  refine pu_sw (fun _ => pu_cs (pb_1445 o14 h1 h2 h3 h4 h5 h6 hR) ih) (fun _ => ?_)
  refine pu_sw (fun _ => pu_cs (pb_1501 o15 h1 h2 h3 h4 h5 h6 hR) ih) (fun _ => ?_)
  refine pu_sw (fun _ => pu_cs (pb_1514 o16 h1 h2 h3 h4 h5 h6 hR) ih) (fun _ => ?_)
  refine pu_sw (fun _ => pu_cs (pb_1527 o17 h1 h2 h3 h4 h5 h6 hR) ih) (fun _ => ?_)
  refine pu_sw (fun _ => pu_cs (pb_1540 o18 h1 h2 h3 h4 h5 h6 hR) ih) (fun _ => ?_)
  refine pu_sw (fun _ => pu_cs (pb_1553 o19 h1 h2 h3 h4 h5 h6 hR) ih) (fun _ => ?_)
  refine pu_sw (fun _ => pu_cs (pb_1566 o20 h1 h2 h3 h4 h5 h6 hR) ih) (fun _ => ?_)
  refine pu_sw (fun _ => pu_cs (pb_1634 o21 h1 h2 h3 h4 h5 h6 hR) ih) (fun _ => ?_)
  refine pu_sw (fun _ => pu_cs (pb_1647 o22 h1 h2 h3 h4 h5 h6 hR) ih) (fun _ => ?_)
  refine pu_sw (fun _ => pu_cs (pb_1703 o23 h1 h2 h3 h4 h5 h6 hR) ih) (fun _ => ?_)
  refine pu_sw (fun _ => pu_cs (pb_1802 o24 h1 h2 h3 h4 h5 h6 hR) ih) (fun _ => ?_)
  refine pu_sw (fun _ => pu_cs (pb_1877 o25 h1 h2 h3 h4 h5 h6 hR) ih) (fun _ => ?_)
  refine pu_sw (fun _ => pu_cs (pb_1925 o26 h1 h2 h3 h4 h5 h6 hR) ih) (fun _ => ?_)
  refine pu_sw (fun _ => pu_cs (pb_1993 o27 h1 h2 h3 h4 h5 h6 hR) ih) (fun _ => ?_)
  refine pu_sw (fun _ => pu_cs (pb_2085 o28 h1 h2 h3 h4 h5 h6 hR) ih) (fun _ => ?_)
  refine pu_sw (fun _ => pu_cs (pb_2165 o29 h1 h2 h3 h4 h5 h6 hR) ih) (fun _ => ?_)
  refine pu_sw (fun _ => pu_cs (pb_2240 o30 h1 h2 h3 h4 h5 h6 hR) ih) (fun _ => ?_)
  refine pu_sw (fun _ => pu_cs (pb_2296 o31 h1 h2 h3 h4 h5 h6 hR) ih) (fun _ => ?_)
  refine pu_sw (fun _ => pu_cs (pb_2364 o32 h1 h2 h3 h4 h5 h6 hR) ih) (fun _ => ?_)
  refine pu_sw (fun _ => pu_cs (pb_2468 o33 h1 h2 h3 h4 h5 h6 hR) ih) (fun _ => ?_)
  refine pu_sw (fun _ => pu_cs (pb_2548 o34 h1 h2 h3 h4 h5 h6 hR) ih) (fun _ => ?_)
  refine pu_sw (fun _ => pu_cs (pb_2640 o35 h1 h2 h3 h4 h5 h6 hR) ih) (fun _ => ?_)
  refine pu_sw (fun _ => pu_cs (pb_2696 o36 h1 h2 h3 h4 h5 h6 hR) ih) (fun _ => ?_)
  refine pu_sw (fun _ => pu_cs (pb_2752 o37 h1 h2 h3 h4 h5 h6 hR) ih) (fun _ => ?_)
  refine pu_sw (fun _ => pu_cs (pb_2832 o38 h1 h2 h3 h4 h5 h6 hR) ih) (fun _ => ?_)
  refine pu_sw (fun _ => pu_cs (pb_2900 o39 h1 h2 h3 h4 h5 h6 hR) ih) (fun _ => ?_)
  refine pu_sw (fun _ => pu_cs (pb_2980 o40 h1 h2 h3 h4 h5 h6 hR) ih) (fun _ => ?_)
  refine pu_sw (fun _ => pu_cs (pb_3079 o41 h1 h2 h3 h4 h5 h6 hR) ih) (fun _ => ?_)
  refine pu_sw (fun _ => pu_cs (pb_3123 o42 h1 h2 h3 h4 h5 h6 hR) ih) (fun _ => ?_)
  refine pu_sw (fun _ => pu_cs (pb_3215 o43 h1 h2 h3 h4 h5 h6 hR) ih) (fun _ => ?_)
  refine pu_sw (fun _ => pu_cs (pb_3283 o44 h1 h2 h3 h4 h5 h6 hR) ih) (fun _ => ?_)
  refine pu_sw (fun _ => pu_cs (pb_3363 o45 h1 h2 h3 h4 h5 h6 hR) ih) (fun _ => ?_)
  refine pu_sw (fun _ => pu_cs (pb_3443 o46 h1 h2 h3 h4 h5 h6 hR) ih) (fun _ => ?_)
  refine pu_sw (fun _ => pu_cs (pb_3506 o47 h1 h2 h3 h4 h5 h6 hR) ih) (fun _ => ?_)
  refine pu_sw (fun _ => pu_cs (pb_3519 o48 h1 h2 h3 h4 h5 h6 hR) ih) (fun _ => ?_)
  exact ih s (mono s hR)
theorem pu_law {R : Nat → am_M → Prop} (mono : ∀ i s, R i s → R (i + 7) s) (o0 : ∀ i, i ≤ 3584 → op_addTable (R i) (R (i + 7))) (o1 : ∀ i, i ≤ 3584 → op_addNumber (R i) (R (i + 7))) (o2 : ∀ i, i ≤ 3584 → op_addLink (R i) (R (i + 7))) (o3 : ∀ i, i ≤ 3584 → op_addReckoned (R i) (R (i + 7))) (o4 : ∀ i, i ≤ 3584 → op_reckonAnew (R i) (R (i + 7))) (o5 : ∀ i, i ≤ 3584 → op_need (R i) (R (i + 7))) (o6 : ∀ i, i ≤ 3584 → op_single (R i) (R (i + 7))) (o7 : ∀ i, i ≤ 3584 → op_wouldLose (R i) (R (i + 7))) (o8 : ∀ i, i ≤ 3584 → op_narrow (R i) (R (i + 7))) (o9 : ∀ i, i ≤ 3584 → op_wouldLoseAll (R i) (R (i + 7))) (o10 : ∀ i, i ≤ 3584 → op_drop (R i) (R (i + 7))) (o11 : ∀ i, i ≤ 3584 → op_setRemoval (R i) (R (i + 7))) (o12 : ∀ i, i ≤ 3584 → op_addRule (R i) (R (i + 7))) (o13 : ∀ i, i ≤ 3584 → op_dropRule (R i) (R (i + 7))) (o14 : ∀ i, i ≤ 3584 → op_order (R i) (R (i + 7))) (o15 : ∀ i, i ≤ 3584 → op_reason (R i) (R (i + 7))) (o16 : ∀ i, i ≤ 3584 → op_whereTable (R i) (R (i + 7))) (o17 : ∀ i, i ≤ 3584 → op_whereRow (R i) (R (i + 7))) (o18 : ∀ i, i ≤ 3584 → op_whereColumn (R i) (R (i + 7))) (o19 : ∀ i, i ≤ 3584 → op_broken (R i) (R (i + 7))) (o20 : ∀ i, i ≤ 3584 → op_type (R i) (R (i + 7))) (o21 : ∀ i, i ≤ 3584 → op_clearDraft (R i) (R (i + 7))) (o22 : ∀ i, i ≤ 3584 → op_enter (R i) (R (i + 7))) (o23 : ∀ i, i ≤ 3584 → op_put (R i) (R (i + 7))) (o24 : ∀ i, i ≤ 3584 → op_remove (R i) (R (i + 7))) (o25 : ∀ i, i ≤ 3584 → op_openForm (R i) (R (i + 7))) (o26 : ∀ i, i ≤ 3584 → op_enterInside (R i) (R (i + 7))) (o27 : ∀ i, i ≤ 3584 → op_choice (R i) (R (i + 7))) (o28 : ∀ i, i ≤ 3584 → op_cell (R i) (R (i + 7))) (o29 : ∀ i, i ≤ 3584 → op_isThere (R i) (R (i + 7))) (o30 : ∀ i, i ≤ 3584 → op_rows (R i) (R (i + 7))) (o31 : ∀ i, i ≤ 3584 → op_ask (R i) (R (i + 7))) (o32 : ∀ i, i ≤ 3584 → op_condition (R i) (R (i + 7))) (o33 : ∀ i, i ≤ 3584 → op_askGroups (R i) (R (i + 7))) (o34 : ∀ i, i ≤ 3584 → op_askCross (R i) (R (i + 7))) (o35 : ∀ i, i ≤ 3584 → op_answers (R i) (R (i + 7))) (o36 : ∀ i, i ≤ 3584 → op_columns (R i) (R (i + 7))) (o37 : ∀ i, i ≤ 3584 → op_answer (R i) (R (i + 7))) (o38 : ∀ i, i ≤ 3584 → op_keyOf (R i) (R (i + 7))) (o39 : ∀ i, i ≤ 3584 → op_target (R i) (R (i + 7))) (o40 : ∀ i, i ≤ 3584 → op_write (R i) (R (i + 7))) (o41 : ∀ i, i ≤ 3584 → op_addAct (R i) (R (i + 7))) (o42 : ∀ i, i ≤ 3584 → op_stepPut (R i) (R (i + 7))) (o43 : ∀ i, i ≤ 3584 → op_stepAdd (R i) (R (i + 7))) (o44 : ∀ i, i ≤ 3584 → op_stepRemove (R i) (R (i + 7))) (o45 : ∀ i, i ≤ 3584 → op_stepIf (R i) (R (i + 7))) (o46 : ∀ i, i ≤ 3584 → op_run (R i) (R (i + 7))) (o47 : ∀ i, i ≤ 3584 → op_undoable (R i) (R (i + 7))) (o48 : ∀ i, i ≤ 3584 → op_undo (R i) (R (i + 7))) {L : Nat} {xs : Nat → Int32} (hL : L ≤ 3584) : ∀ (n i : Nat) (s : am_M), R i s → i ≤ L → L + 7 ≤ i + 7 * n → p_LAW L xs n s (nI i) ∧ (f_LAW L xs n s (nI i)).1 = 1 := by
  intro n
  induction n with
  | zero => intro i s _ h1 h2; omega
  | succ n ih =>
    intro i s hR hi hn
    unfold p_LAW f_LAW
    refine pu_sw (fun _ => ⟨trivial, rfl⟩) (fun c => ?_)
    have hc : ¬ L < i + 7 := fun q => c ((pu_Lt hL hi).mpr q)
    have h0 : vp_in (nI i) L := vp_in_nI (by omega) (by omega)
    have h1 : vp_in (nI i + (1 : Int32)) L := pu_v (d := 1) hL hc (by omega)
    have h2 : vp_in (nI i + (2 : Int32)) L := pu_v (d := 2) hL hc (by omega)
    have h3 : vp_in (nI i + (3 : Int32)) L := pu_v (d := 3) hL hc (by omega)
    have h4 : vp_in (nI i + (4 : Int32)) L := pu_v (d := 4) hL hc (by omega)
    have h5 : vp_in (nI i + (5 : Int32)) L := pu_v (d := 5) hL hc (by omega)
    have h6 : vp_in (nI i + (6 : Int32)) L := pu_v (d := 6) hL hc (by omega)
    have ih2 : ∀ t, R (i + 7) t → p_LAW L xs n t (nI i + (7 : Int32)) ∧ (f_LAW L xs n t (nI i + (7 : Int32))).1 = 1 := fun t ht => by
      have e : nI i + (7 : Int32) = nI (i + 7) := nI_add i 7
      rw [e]; exact ih (i + 7) t ht (by omega) (by omega)
    refine ⟨⟨h0, ?_⟩, ?_⟩
    all_goals skip
    · exact (pu_chain (mono i) (o0 i (by omega)) (o1 i (by omega)) (o2 i (by omega)) (o3 i (by omega)) (o4 i (by omega)) (o5 i (by omega)) (o6 i (by omega)) (o7 i (by omega)) (o8 i (by omega)) (o9 i (by omega)) (o10 i (by omega)) (o11 i (by omega)) (o12 i (by omega)) (o13 i (by omega)) (o14 i (by omega)) (o15 i (by omega)) (o16 i (by omega)) (o17 i (by omega)) (o18 i (by omega)) (o19 i (by omega)) (o20 i (by omega)) (o21 i (by omega)) (o22 i (by omega)) (o23 i (by omega)) (o24 i (by omega)) (o25 i (by omega)) (o26 i (by omega)) (o27 i (by omega)) (o28 i (by omega)) (o29 i (by omega)) (o30 i (by omega)) (o31 i (by omega)) (o32 i (by omega)) (o33 i (by omega)) (o34 i (by omega)) (o35 i (by omega)) (o36 i (by omega)) (o37 i (by omega)) (o38 i (by omega)) (o39 i (by omega)) (o40 i (by omega)) (o41 i (by omega)) (o42 i (by omega)) (o43 i (by omega)) (o44 i (by omega)) (o45 i (by omega)) (o46 i (by omega)) (o47 i (by omega)) (o48 i (by omega)) h1 h2 h3 h4 h5 h6 hR ih2).1
    · exact (pu_chain (mono i) (o0 i (by omega)) (o1 i (by omega)) (o2 i (by omega)) (o3 i (by omega)) (o4 i (by omega)) (o5 i (by omega)) (o6 i (by omega)) (o7 i (by omega)) (o8 i (by omega)) (o9 i (by omega)) (o10 i (by omega)) (o11 i (by omega)) (o12 i (by omega)) (o13 i (by omega)) (o14 i (by omega)) (o15 i (by omega)) (o16 i (by omega)) (o17 i (by omega)) (o18 i (by omega)) (o19 i (by omega)) (o20 i (by omega)) (o21 i (by omega)) (o22 i (by omega)) (o23 i (by omega)) (o24 i (by omega)) (o25 i (by omega)) (o26 i (by omega)) (o27 i (by omega)) (o28 i (by omega)) (o29 i (by omega)) (o30 i (by omega)) (o31 i (by omega)) (o32 i (by omega)) (o33 i (by omega)) (o34 i (by omega)) (o35 i (by omega)) (o36 i (by omega)) (o37 i (by omega)) (o38 i (by omega)) (o39 i (by omega)) (o40 i (by omega)) (o41 i (by omega)) (o42 i (by omega)) (o43 i (by omega)) (o44 i (by omega)) (o45 i (by omega)) (o46 i (by omega)) (o47 i (by omega)) (o48 i (by omega)) h1 h2 h3 h4 h5 h6 hR ih2).2
end
