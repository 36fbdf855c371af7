noncomputable section
-- both objects are alike
theorem AL148 {KP77 : am_M → am_M → Int32 → Int32 → Prop} {KP108 : am_M → am_M → Int32 → Int32 → Int32 → Prop} {K77 : am_M → am_M → Int32 → Int32 → Int32 × am_M × am_M} {K108 : am_M → am_M → Int32 → Int32 → Int32 → Int32 × am_M × am_M} {c : Nat} {s t : am_M} {x3 x4 : Int32} (h : RR c s t) (hk : KP108 s t 1 x3 (x4 + (1 : Int32))) : ∀ (d j n : Nat), j + d = 6 → d < n → p_LH_areAlike_148 KP77 KP108 n s t 1 x3 x4 (nI j) ∧ f_LH_areAlike_148 K77 K108 n s t 1 x3 x4 (nI j) = K108 s t 1 x3 (x4 + (1 : Int32)) := by
  have e6 : nI 6 = (6 : Int32) := rfl
  have i1 : ¬ (1 : Int32) = 0 := by decide
  intro d
  induction d with
  | zero =>
    intro j n h1 h2
    obtain ⟨n, rfl⟩ : ∃ k, n = k + 1 := ⟨n - 1, by omega⟩
    have c6 : (6 : Int32) ≤ nI j := by rw [← e6]; exact (nI_leI (by omega) (by omega)).mpr (by omega)
    unfold p_LH_areAlike_148 f_LH_areAlike_148 p_LH_areAlike_202 f_LH_areAlike_202
    exact ⟨⟨fun _ => hk, fun q => absurd c6 q⟩, by rw [if_pos c6]⟩
  | succ d ih =>
    intro j n h1 h2
    obtain ⟨n, rfl⟩ : ∃ k, n = k + 1 := ⟨n - 1, by omega⟩
    have c6 : ¬ (6 : Int32) ≤ nI j := fun q => by rw [← e6] at q; have := (nI_leI (by omega) (by omega)).mp q; omega
    obtain ⟨q1, q2, q3⟩ := Q_cell h (x := x3) (y := x4) (z := nI j) (a := (0 : Int32)) (b := (0 : Int32)) (e := (0 : Int32))
    have z := ih (j + 1) n (by omega) (by omega)
    unfold p_LH_areAlike_148 f_LH_areAlike_148 p_LH_areAlike_195 f_LH_areAlike_195
    rw [if_neg c6, if_neg i1, if_pos q3, LHcell_2, LHcell_2, nI_1]
    exact ⟨⟨fun q => absurd q c6, fun _ => ⟨fun q => absurd q i1, fun _ => ⟨q1, q2, fun _ => z.1, fun q => absurd q3 q⟩⟩⟩, z.2⟩
theorem AL108 {KP77 : am_M → am_M → Int32 → Int32 → Prop} {K77 : am_M → am_M → Int32 → Int32 → Int32 × am_M × am_M} {c : Nat} {s t : am_M} {x3 : Int32} (h : RR c s t) (hk : KP77 s t 1 (x3 + (1 : Int32))) {m : Nat} (hm : m ≤ 30) (hr : (f_LH_rows s x3).1 = nI m) (hw : f_CB_wantTable s x3 = 0) : ∀ (d i n : Nat), i + d = m → d < n → p_LH_areAlike_108 KP77 n s t 1 x3 (nI i) ∧ f_LH_areAlike_108 K77 n s t 1 x3 (nI i) = K77 s t 1 (x3 + (1 : Int32)) := by
  have i1 : ¬ (1 : Int32) = 0 := by decide
  obtain ⟨r1, -, -⟩ := Q_rows h (x := x3)
  intro d
  induction d with
  | zero =>
    intro i n h1 h2
    obtain ⟨n, rfl⟩ : ∃ k, n = k + 1 := ⟨n - 1, by omega⟩
    have c1 : (f_LH_rows s x3).1 ≤ nI i := by rw [hr]; exact nI_le (by omega) (by omega)
    unfold p_LH_areAlike_108 f_LH_areAlike_108 p_LH_areAlike_208 f_LH_areAlike_208
    rw [LHrows_2]
    exact ⟨⟨r1, fun _ => hk, fun q => absurd c1 q⟩, by rw [if_pos c1]⟩
  | succ d ih =>
    intro i n h1 h2
    obtain ⟨n, rfl⟩ : ∃ k, n = k + 1 := ⟨n - 1, by omega⟩
    have c1 : ¬ (f_LH_rows s x3).1 ≤ nI i := fun q => by rw [hr] at q; have := (nI_leI (by omega) (by omega)).mp q; omega
    obtain ⟨q1, q2, q3, q4, q5⟩ := Q_there h hw (y := nI i)
    have z := ih (i + 1) n (by omega) (by omega)
    have w := AL148 (KP77 := KP77) (K77 := K77) (KP108 := p_LH_areAlike_108 KP77 n) (K108 := f_LH_areAlike_108 K77 n) (x3 := x3) (x4 := nI i) h (by rw [nI_1]; exact z.1) 6 0 7 (by omega) (by omega)
    rw [nI_0] at w
    unfold p_LH_areAlike_108 f_LH_areAlike_108 p_LH_areAlike_144 f_LH_areAlike_144
    rw [LHrows_2, there_2, there_2, if_neg c1, if_neg i1, if_pos q5]
    refine ⟨⟨r1, fun q => absurd q c1, fun _ => ⟨fun q => absurd q i1, fun _ => ⟨q1, q3, q2, q4, fun _ => w.1, fun q => absurd q5 q⟩⟩⟩, ?_⟩
    rw [w.2, nI_1]; exact z.2
theorem AL104 {KP77 : am_M → am_M → Int32 → Int32 → Prop} {K77 : am_M → am_M → Int32 → Int32 → Int32 × am_M × am_M} {c : Nat} {s t : am_M} {x3 : Int32} (h : RR c s t) (hk : KP77 s t 1 (x3 + (1 : Int32))) : p_LH_areAlike_108 KP77 31 s t 1 x3 (0 : Int32) ∧ f_LH_areAlike_108 K77 31 s t 1 x3 (0 : Int32) = K77 s t 1 (x3 + (1 : Int32)) := by
  rcases rows_v h.1 (x := x3) with ⟨m, hm, e, hw⟩ | e
  · have := AL108 (KP77 := KP77) (K77 := K77) h hk hm e hw m 0 31 (by omega) (by omega)
    rw [nI_0] at this; exact this
  · obtain ⟨r1, -, -⟩ := Q_rows h (x := x3)
    have c1 : (f_LH_rows s x3).1 ≤ (0 : Int32) := by rw [e]; decide
    unfold p_LH_areAlike_108 f_LH_areAlike_108 p_LH_areAlike_208 f_LH_areAlike_208
    rw [LHrows_2]
    exact ⟨⟨r1, fun _ => hk, fun q => absurd c1 q⟩, by rw [if_pos c1]⟩
theorem AL216 {c : Nat} : ∀ (d k n : Nat) (s t : am_M), RR c s t → k + d = 8 → d < n → p_LH_areAlike_216 n s t 1 (nI k) ∧ (f_LH_areAlike_216 n s t 1 (nI k)).1 = 1 ∧ RR c (f_LH_areAlike_216 n s t 1 (nI k)).2.1 (f_LH_areAlike_216 n s t 1 (nI k)).2.2 := by
  have e8 : nI 8 = (8 : Int32) := rfl
  have i1 : ¬ (1 : Int32) = 0 := by decide
  intro d
  induction d with
  | zero =>
    intro k n s t h h1 h2
    obtain ⟨n, rfl⟩ : ∃ k, n = k + 1 := ⟨n - 1, by omega⟩
    have c8 : (8 : Int32) ≤ nI k := by rw [← e8]; exact (nI_leI (by omega) (by omega)).mpr (by omega)
    unfold p_LH_areAlike_216 f_LH_areAlike_216
    rw [if_pos c8]
    exact ⟨⟨fun _ => ⟨Or.inr rfl, trivial⟩, fun q => absurd c8 q⟩, rfl, h⟩
  | succ d ih =>
    intro k n s t h h1 h2
    obtain ⟨n, rfl⟩ : ∃ k, n = k + 1 := ⟨n - 1, by omega⟩
    have c8 : ¬ (8 : Int32) ≤ nI k := fun q => by rw [← e8] at q; have := (nI_leI (by omega) (by omega)).mp q; omega
    obtain ⟨a1, a2, a3, a4⟩ := Q_many0 h (x := nI k)
    obtain ⟨b1, b2, b3, b4⟩ := Q_many1 a4 (x := nI k)
    obtain ⟨o1, o2, o3⟩ := Q_order b4 (x := nI k)
    have z := ih (k + 1) n _ _ b4 (by omega) (by omega)
    unfold p_LH_areAlike_216 f_LH_areAlike_216 p_LH_areAlike_280 f_LH_areAlike_280
    rw [if_neg c8, if_neg i1, if_pos a3, if_pos b3, if_pos o3, LHorder_2, LHorder_2, nI_1]
    exact ⟨⟨fun q => absurd q c8, fun _ => ⟨fun q => absurd q i1, fun _ => ⟨a1, a2, fun _ => ⟨b1, b2, fun _ => ⟨o1, o2, fun _ => z.1, fun q => absurd o3 q⟩, fun q => absurd b3 q⟩, fun q => absurd a3 q⟩⟩⟩, z.2⟩
theorem AL77 {c : Nat} {s t : am_M} (h : RR c s t) : ∀ (d j n : Nat), j + d = 4 → d < n → p_LH_areAlike_77 n s t 1 (nI j) ∧ (f_LH_areAlike_77 n s t 1 (nI j)).1 = 1 ∧ RR c (f_LH_areAlike_77 n s t 1 (nI j)).2.1 (f_LH_areAlike_77 n s t 1 (nI j)).2.2 := by
  have e4 : nI 4 = (4 : Int32) := rfl
  have i1 : ¬ (1 : Int32) = 0 := by decide
  intro d
  induction d with
  | zero =>
    intro j n h1 h2
    obtain ⟨n, rfl⟩ : ∃ k, n = k + 1 := ⟨n - 1, by omega⟩
    have c4 : (4 : Int32) ≤ nI j := by rw [← e4]; exact (nI_leI (by omega) (by omega)).mpr (by omega)
    have z := AL216 (c := c) 8 0 9 s t h (by omega) (by omega)
    rw [nI_0] at z
    unfold p_LH_areAlike_77 f_LH_areAlike_77 p_LH_areAlike_214 f_LH_areAlike_214
    rw [if_pos c4]
    exact ⟨⟨fun _ => z.1, fun q => absurd c4 q⟩, z.2⟩
  | succ d ih =>
    intro j n h1 h2
    obtain ⟨n, rfl⟩ : ∃ k, n = k + 1 := ⟨n - 1, by omega⟩
    have c4 : ¬ (4 : Int32) ≤ nI j := fun q => by rw [← e4] at q; have := (nI_leI (by omega) (by omega)).mp q; omega
    obtain ⟨r1, r2, r3⟩ := Q_rows h (x := nI j)
    have z := ih (j + 1) n (by omega) (by omega)
    have w := AL104 (KP77 := p_LH_areAlike_77 n) (K77 := f_LH_areAlike_77 n) (x3 := nI j) h (by rw [nI_1]; exact z.1)
    unfold p_LH_areAlike_77 f_LH_areAlike_77 p_LH_areAlike_104 f_LH_areAlike_104
    rw [if_neg c4, if_neg i1, if_pos r3, LHrows_2, LHrows_2, w.2, nI_1]
    exact ⟨⟨fun q => absurd q c4, fun _ => ⟨fun q => absurd q i1, fun _ => ⟨r1, r2, fun _ => w.1, fun q => absurd r3 q⟩⟩⟩, z.2⟩
/-- ALIKE: both objects in step are alike -/
theorem LS_alike {c : Nat} {s t : am_M} (h : RR c s t) : p_LH_areAlike s t ∧ (f_LH_areAlike s t).1 = 1 ∧ RR c (f_LH_areAlike s t).2.1 (f_LH_areAlike s t).2.2 := by
  obtain ⟨a1, a2, -, a4, a5⟩ := Q_broken h.1
  obtain ⟨b1, b2, -, b4, b5⟩ := Q_broken h.2.1
  have h2 : RR c (f_CB_broken s).2 (f_CB_broken t).2 := RR_12 h ⟨a4, a5⟩ ⟨b4, b5⟩
  obtain ⟨e0, e1, e2, e3, e4⟩ := RR_told h2
  have z := AL77 h2 4 0 5 (by omega) (by omega)
  rw [nI_0] at z
  have u0 : f_CB_undoable (f_CB_broken s).2 = f_CB_undoable (f_CB_broken t).2 := e0
  have u1 : f_CB_reason (f_CB_broken s).2 = f_CB_reason (f_CB_broken t).2 := e1
  have u2 : f_CB_whereTable (f_CB_broken s).2 = f_CB_whereTable (f_CB_broken t).2 := e2
  have u3 : f_CB_whereRow (f_CB_broken s).2 = f_CB_whereRow (f_CB_broken t).2 := e3
  have u4 : f_CB_whereColumn (f_CB_broken s).2 = f_CB_whereColumn (f_CB_broken t).2 := e4
  unfold p_LH_areAlike f_LH_areAlike p_LH_areAlike_74 f_LH_areAlike_74
  rw [if_pos a2, if_pos b2, if_pos u0, if_pos u1, if_pos u2, if_pos u3, if_pos u4]
  exact ⟨⟨a1, fun _ => ⟨b1, fun _ => ⟨fun _ => ⟨fun _ => ⟨fun _ => ⟨fun _ => ⟨fun _ => z.1, fun q => absurd u4 q⟩, fun q => absurd u3 q⟩, fun q => absurd u2 q⟩, fun q => absurd u1 q⟩, fun q => absurd u0 q⟩, fun q => absurd b2 q⟩, fun q => absurd a2 q⟩, z.2⟩
end
