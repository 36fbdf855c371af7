noncomputable section
-- reading the rows
theorem q_hs_I {R : am_M} {t r : Nat} (hr : r < 30) : q_hs R t (nI r) ↔ R 1 (30 * t + r) ≠ 0 := by
  have e : q_c (nI r) = r := nI_clamp (by omega)
  unfold q_hs
  rw [e]
  exact ⟨fun q => q.2, fun q => ⟨q_in_1 hr (by omega), q⟩⟩
theorem q_hs_x {R : am_M} {t : Nat} {x : Int32} (h : q_hs R t x) : ∃ r, r < 30 ∧ x = nI r ∧ R 1 (30 * t + r) ≠ 0 := by
  rcases q_in_c 30 (by omega) x with g | ⟨g, r, hr, rfl⟩
  · have h1 := h.1
    rw [g] at h1; exact absurd h1 (by decide)
  · exact ⟨r, hr, rfl, (q_hs_I hr).mp h⟩
theorem qr_phas (s : am_M) (x y : Int32) : p_RO_has s 8 x y := by
  unfold p_RO_has
  rw [lk_8_1]
  refine ⟨fun _ => trivial, fun c1 => ⟨fun _ => trivial, fun c2 => ⟨fun _ => trivial, fun c3 => ⟨fun _ => trivial, fun c4 => ⟨⟨by omega, sh_8⟩, ⟨by omega, sh_10⟩, ?_, fun _ => trivial, fun _ => trivial⟩⟩⟩⟩⟩
  rcases qx_4 x with h | h | ⟨t, ht, rfl⟩
  · exact absurd h c1
  · exact absurd h c2
  rcases qx_30 y with h | h | ⟨r, hr, rfl⟩
  · exact absurd h c3
  · exact absurd h c4
  rw [qm_30, nI_add]; exact vp_in_nI (by omega) (by omega)
theorem qr_has {s : am_M} {R : am_M} (h : q_cb s 9 10 11 R) {t : Nat} (ht : t < 4) (x : Int32) : f_RO_has s 8 (nI t) x = if q_hs R t x then 1 else 0 := by
  unfold f_RO_has
  rw [if_neg (qz (by omega)), if_neg (ql_4 ht), lk_8_1]
  rcases qx_30 x with g | g | ⟨r, hr, rfl⟩
  · rw [if_pos g, if_neg]
    rintro ⟨q, -⟩
    unfold q_in at q; rw [if_pos g] at q; exact absurd q (by decide)
  · by_cases c : x < 0
    · rw [if_pos c, if_neg]
      rintro ⟨q, -⟩
      unfold q_in at q; rw [if_pos c] at q; exact absurd q (by decide)
    · rw [if_neg c, if_pos g, if_neg]
      rintro ⟨q, -⟩
      unfold q_in at q; rw [if_neg c, if_pos (show nI 30 ≤ x from g)] at q; exact absurd q (by decide)
  · rw [if_neg (qz (by omega)), if_neg (ql_30 hr), qm_30, nI_add, nI_clamp (n := t * 30 + r) (by omega), h.2.1 _ (by omega), show t * 30 + r = 30 * t + r from by omega]
    by_cases c : R 1 (30 * t + r) = 0
    · rw [if_pos c, if_neg (fun q => (q_hs_I hr).mp q c)]
    · rw [if_neg c, if_pos ((q_hs_I hr).mpr c)]
theorem qr_pget (s : am_M) (x y z : Int32) : p_RO_get s 8 x y z := by
  unfold p_RO_get
  rw [lk_8_2]
  refine ⟨fun _ => trivial, fun c1 => ⟨fun _ => trivial, fun c2 => ⟨fun _ => trivial, fun c3 => ⟨fun _ => trivial, fun c4 => ⟨fun _ => trivial, fun c5 => ⟨fun c6 => ⟨⟨by omega, sh_8⟩, ⟨by omega, sh_11⟩, ?_, trivial⟩, fun _ => trivial⟩⟩⟩⟩⟩⟩
  rcases qx_4 x with h | h | ⟨t, ht, rfl⟩
  · exact absurd h c1
  · exact absurd h c2
  rcases qx_30 y with h | h | ⟨r, hr, rfl⟩
  · exact absurd h c3
  · exact absurd h c4
  rcases qx_6 z with h | h | ⟨c, hc, rfl⟩
  · exact absurd h c5
  · rw [Int32.lt_iff_toInt_lt] at c6; rw [Int32.le_iff_toInt_le] at h; omega
  rw [qm_30, nI_add, qm_6, nI_add]; exact vp_in_nI (by omega) (by omega)
theorem qr_get (s : am_M) {t r c : Nat} (ht : t < 4) (hr : r < 30) (hc : c < 6) : f_RO_get s 8 (nI t) (nI r) (nI c) = s 11 (180 * t + 6 * r + c) := by
  unfold f_RO_get
  rw [if_neg (qz (by omega)), if_neg (ql_4 ht), if_neg (qz (by omega)), if_neg (ql_30 hr), if_neg (qz (by omega)), if_pos (qt_6 hc), lk_8_2, qm_30, nI_add, qm_6, nI_add, nI_clamp (by omega), show (t * 30 + r) * 6 + c = 180 * t + 6 * r + c from by omega]
theorem qr_cell {s R : am_M} (h : q_cb s 9 10 11 R) {t r c : Nat} (ht : t < 4) (hr : r < 30) (hc : c < 6) (hh : R 1 (30 * t + r) ≠ 0) : f_RO_get s 8 (nI t) (nI r) (nI c) = R 2 (180 * t + 6 * r + c) := by
  rw [qr_get s ht hr hc, h.2.2 _ (by omega) (by rw [show (180 * t + 6 * r + c) / 6 = 30 * t + r from by omega]; exact hh)]
theorem qr_set (s : am_M) {t r c : Nat} (ht : t < 4) (hr : r < 30) (hc : c < 6) (v : Int32) : p_RO_set s 8 (nI t) (nI r) (nI c) v ∧ f_RO_set s 8 (nI t) (nI r) (nI c) v = am_set s 11 (180 * t + 6 * r + c) v := by
  unfold p_RO_set f_RO_set
  rw [if_neg (qz (by omega)), if_neg (ql_4 ht), if_neg (qz (by omega)), if_neg (ql_30 hr), if_neg (qz (by omega)), if_neg (ql_6 hc), lk_8_2, qm_30, nI_add, qm_6, nI_add, nI_clamp (n := (t * 30 + r) * 6 + c) (by omega), show (t * 30 + r) * 6 + c = 180 * t + 6 * r + c from by omega]
  exact ⟨⟨fun _ => trivial, fun _ => ⟨fun _ => trivial, fun _ => ⟨fun _ => trivial, fun _ => ⟨fun _ => trivial, fun _ => ⟨fun _ => trivial, fun _ => ⟨fun _ => trivial, fun _ => ⟨⟨by omega, sh_8⟩, ⟨by omega, sh_11⟩, vp_in_nI (by omega) (by omega), trivial⟩⟩⟩⟩⟩⟩⟩, rfl⟩
theorem qr_pset (s : am_M) (x y z v : Int32) : p_RO_set s 8 x y z v := by
  unfold p_RO_set
  rw [lk_8_2]
  refine ⟨fun _ => trivial, fun c1 => ⟨fun _ => trivial, fun c2 => ⟨fun _ => trivial, fun c3 => ⟨fun _ => trivial, fun c4 => ⟨fun _ => trivial, fun c5 => ⟨fun _ => trivial, fun c6 => ⟨⟨by omega, sh_8⟩, ⟨by omega, sh_11⟩, ?_, trivial⟩⟩⟩⟩⟩⟩⟩
  rcases qx_4 x with h | h | ⟨t, ht, rfl⟩
  · exact absurd h c1
  · exact absurd h c2
  rcases qx_30 y with h | h | ⟨r, hr, rfl⟩
  · exact absurd h c3
  · exact absurd h c4
  rcases qx_6 z with h | h | ⟨c, hc, rfl⟩
  · exact absurd h c5
  · exact absurd h c6
  rw [qm_30, nI_add, qm_6, nI_add]; exact vp_in_nI (by omega) (by omega)
theorem qr_pmade (s : am_M) (x : Int32) : p_RO_madeIn s 8 x := by
  unfold p_RO_madeIn
  rw [lk_8_0]
  refine ⟨fun _ => trivial, fun c1 => ⟨fun c2 => ⟨⟨by omega, sh_8⟩, ⟨by omega, sh_9⟩, ?_, trivial⟩, fun _ => trivial⟩⟩
  rcases qx_4 x with h | h | ⟨t, ht, rfl⟩
  · exact absurd h c1
  · rw [Int32.lt_iff_toInt_lt] at c2; rw [Int32.le_iff_toInt_le] at h; omega
  exact vp_in_nI ht (by omega)
theorem qr_made {s R : am_M} (h : q_cb s 9 10 11 R) {t : Nat} (ht : t < 4) : f_RO_madeIn s 8 (nI t) = R 0 t := by
  unfold f_RO_madeIn
  rw [if_neg (qz (by omega)), if_pos (qt_4 ht), lk_8_0, nI_clamp (by omega), h.1 t ht]
/-- what is always so of rows, also within a change -/
def q_we (A R : am_M) : Prop :=
  (∀ t, t < 4 → R 0 t = nI (q_c (R 0 t)) ∧ q_c (R 0 t) ≤ 30 ∧ (q_nt A ≤ t → q_c (R 0 t) = 0)) ∧
  (∀ p, p < 120 → R 1 p ≠ 0 → p % 30 < q_c (R 0 (p / 30))) ∧
  (∀ x, x < 720 → R 1 (x / 6) ≠ 0 → q_v (R 2 x))
theorem q_wr.we {A R : am_M} (h : q_wr A R) : q_we A R := ⟨h.1, h.2.1, h.2.2.1⟩
theorem q_we_r {A R : am_M} (h : q_we A R) {t r : Nat} (ht : t < 4) (hr : r < 30) (hh : R 1 (30 * t + r) ≠ 0) : r < q_c (R 0 t) ∧ t < q_nt A := by
  have h2 := h.2.1 (30 * t + r) (by omega) hh
  rw [show (30 * t + r) / 30 = t from by omega, show (30 * t + r) % 30 = r from by omega] at h2
  refine ⟨h2, ?_⟩
  by_cases c : t < q_nt A
  · exact c
  · have := (h.1 t ht).2.2 (by omega); omega
def q_isR (A R : am_M) (x y : Int32) : Int32 := if q_isT A x = 0 then 0 else if q_hs R (q_c x) y then 1 else 0
theorem q_isR_c {A R : am_M} (w : q_wd A) (e : q_we A R) (x y : Int32) : q_isR A R x y = 0 ∨ (q_isR A R x y = 1 ∧ ∃ t r, t < q_nt A ∧ t < 4 ∧ r < 30 ∧ r < q_c (R 0 t) ∧ x = nI t ∧ y = nI r ∧ R 1 (30 * t + r) ≠ 0) := by
  unfold q_isR
  have h4 := w.1.2
  rcases q_isT_c w x with g | ⟨g, t, ht, rfl⟩
  · left; rw [if_pos g]
  · have e1 : q_c (nI t) = t := nI_clamp (by omega)
    rw [g, if_neg i10, e1]
    by_cases c : q_hs R t y
    · right
      rw [if_pos c]
      obtain ⟨r, hr, rfl, hh⟩ := q_hs_x c
      exact ⟨rfl, t, r, ht, by omega, hr, (q_we_r e (by omega) hr hh).1, rfl, rfl, hh⟩
    · left; rw [if_neg c]
theorem qr_row {s A R : am_M} (cd : q_cd s A) (w : q_wd A) (h : q_cb s 9 10 11 R) (x y : Int32) : f_CB_wantRow s x y = if q_isR A R x y = 0 then 1 else 0 := by
  unfold f_CB_wantRow q_isR
  rw [qd_hasT cd w]
  rcases q_isT_c w x with g | ⟨g, t, ht, rfl⟩
  · rw [if_pos g, if_pos g, if_pos rfl]
  · have h4 := w.1.2
    rw [g, if_neg i10, if_neg i10, qr_has h (by omega), show q_c (nI t) = t from nI_clamp (by omega)]
theorem qr_prow (s : am_M) (x y : Int32) : p_CB_wantRow s x y := ⟨fun _ => trivial, fun _ => ⟨qr_phas s x y, fun _ => trivial, fun _ => trivial⟩⟩
theorem qr_isRow {s A R : am_M} (m : q_md s A) (w : q_wd A) (e : q_we A R) (h : q_mb s R) (x y : Int32) : p_MO_isRow s x y ∧ f_MO_isRow s x y = q_isR A R x y := by
  unfold p_MO_isRow f_MO_isRow q_isR
  rw [qd_isT m w]
  have h4 := w.1.2
  rcases q_isT_c w x with g | ⟨g, t, ht, rfl⟩
  · rw [g, if_pos rfl, if_pos rfl]
    exact ⟨⟨qd_pisT s x, fun _ => trivial, fun q => absurd rfl q⟩, rfl⟩
  · have e1 : q_c (nI t) = t := nI_clamp (by omega)
    have e0 := e.1 t (by omega)
    have eb : f_MO_in s y (0 : Int32) (s 228 t - (1 : Int32)) = q_in (q_c (R 0 t)) y := by
      rw [h.1 t (by omega), e0.1, qb_in1 (by omega), show q_c (nI (q_c (R 0 t))) = q_c (R 0 t) from nI_clamp (by omega)]; rfl
    rw [g, if_neg i10, if_neg i10, e1, show (nI t).toNatClampNeg = t from e1, eb]
    rcases q_in_c (q_c (R 0 t)) (by omega) y with k | ⟨k, r, hr, rfl⟩
    · have hn : ¬ q_hs R t y := fun q => by
        obtain ⟨r, hr, rfl, hh⟩ := q_hs_x q
        rw [q_in_1 (q_we_r e (by omega) hr hh).1 (by omega)] at k
        exact absurd k (by decide)
      rw [k, if_pos rfl, if_neg hn]
      exact ⟨⟨qd_pisT s _, fun q => absurd q i10, fun _ => ⟨vp_in_nI (by omega) (by omega), fun _ => trivial, fun q => absurd rfl q⟩⟩, rfl⟩
    · have hr30 : r < 30 := by omega
      rw [k, if_neg i10, qw_30, nI_add, nI_clamp (n := 30 * t + r) (by omega), h.2.1 _ (by omega)]
      refine ⟨⟨qd_pisT s _, fun q => absurd q i10, fun _ => ⟨vp_in_nI (by omega) (by omega), fun q => absurd q i10, fun _ => ⟨vp_in_nI (by omega) (by omega), fun _ => trivial, fun _ => trivial⟩⟩⟩, ?_⟩
      by_cases c : R 1 (30 * t + r) = 0
      · rw [if_pos c, if_pos rfl, if_neg (fun q => (q_hs_I hr30).mp q c)]
      · rw [if_neg c, if_neg i10, if_pos ((q_hs_I hr30).mpr c)]
theorem qr_at (s : am_M) (t r c : Nat) : f_MO_at s (nI t) (nI r) (nI c) = nI (180 * t + 6 * r + c) := by
  unfold f_MO_at
  rw [qw_30, nI_add, qw_6, nI_add, show 6 * (30 * t + r) + c = 180 * t + 6 * r + c from by omega]
theorem q_mb_set {s R : am_M} {i k : Nat} {x : Int32} (h : i < 228 ∨ 230 < i) (m : q_mb s R) : q_mb (am_set s i k x) R := by
  refine ⟨fun a ha => ?_, fun a ha => ?_, fun a ha h9 => ?_⟩
  · rw [am_set_o (by omega)]; exact m.1 a ha
  · rw [am_set_o (by omega)]; exact m.2.1 a ha
  · rw [am_set_o (by omega)]; exact m.2.2 a ha h9
theorem q_cb_set {s R : am_M} {i k : Nat} {x : Int32} (h : i < 9 ∨ 11 < i) (m : q_cb s 9 10 11 R) : q_cb (am_set s i k x) 9 10 11 R := by
  refine ⟨fun a ha => ?_, fun a ha => ?_, fun a ha h9 => ?_⟩
  · rw [am_set_o (by omega)]; exact m.1 a ha
  · rw [am_set_o (by omega)]; exact m.2.1 a ha
  · rw [am_set_o (by omega)]; exact m.2.2 a ha h9
theorem op_rows_ok {c d : Nat} (hcd : c ≤ d) : op_rows (pu_R c) (pu_R d) := by
  intro s a1 h
  replace h := h.mono hcd
  have h' := h
  obtain ⟨hP, Z, hZ⟩ := h
  obtain ⟨cd, oc, md, wd⟩ : q_x1 s (Z 6) := hZ 1
  obtain ⟨cb, mb, wr⟩ : q_x3 s (Z 6) (Z 8) := hZ 3
  have hT := qd_wantT cd wd a1
  have hI := qd_isT md wd a1
  have h4 := wd.1.2
  rcases q_isT_c wd a1 with g | ⟨g, T, ht, rfl⟩
  · rw [g, if_pos rfl] at hT
    rw [g] at hI
    refine on_rows_1 (v := 0) (s1 := s) (w := 0) (t := am_set s 207 0 1) (by unfold f_CB_rows; rw [hT]; rfl) (by unfold p_CB_rows; rw [hT]; exact fun q => absurd q (by decide)) ?_ ?_ am_set_q (pu_R_thrown h')
    · unfold p_MO_rows; rw [hI, pr_holds1 s (by decide)]; exact ⟨qd_pisT s _, fun _ => ⟨fun _ => trivial, fun q => absurd rfl q⟩, fun q => absurd rfl q⟩
    · unfold f_MO_rows; rw [hI, pr_holds1 s (by decide)]; rfl
  rw [g, if_neg i10] at hT
  have ht4 : T < 4 := by omega
  refine og_rows (v := Z 8 0 T) (s1 := s) (w := Z 8 0 T) (t := am_set (am_set s 262 0 (Z 8 0 T)) 207 0 0) ?_ ?_ ?_ ?_ am_set_q ?_ (pu_R_thrown (pu_R_out h'))
  · unfold f_CB_rows; rw [hT, qr_made cb ht4]; rfl
  · unfold p_CB_rows; rw [hT]; exact fun _ => ⟨qr_pmade _ _, trivial⟩
  · have hI := qd_isT (q_md_set (i := 262) (k := 0) (x := Z 8 0 T) (by omega) md) wd (nI T)
    rw [g] at hI
    unfold p_MO_rows; rw [hI, pr_holds0]; exact ⟨qd_pisT _ _, fun q => absurd q i10, fun _ => ⟨fun q => absurd q i10, fun _ => ⟨vp_in_nI ht4 (by omega), trivial⟩⟩⟩
  · have hI := qd_isT (q_md_set (i := 262) (k := 0) (x := Z 8 0 T) (by omega) md) wd (nI T)
    rw [g] at hI
    unfold f_MO_rows; rw [hI, if_neg i10, pr_holds0, if_neg i10]
    dsimp only
    rw [nI_clamp (by omega), am_set_o (by omega), am_set_o (by omega), mb.1 T ht4]
  · rw [am_set_p (by omega)]; exact am_set_q
theorem op_isThere_ok {c d : Nat} (hcd : c ≤ d) : op_isThere (pu_R c) (pu_R d) := by
  intro s a1 a2 h
  replace h := h.mono hcd
  have h' := h
  obtain ⟨hP, Z, hZ⟩ := h
  obtain ⟨cd, oc, md, wd⟩ : q_x1 s (Z 6) := hZ 1
  obtain ⟨cb, mb, wr⟩ : q_x3 s (Z 6) (Z 8) := hZ 3
  have hT := qd_wantT cd wd a1
  have hI := qd_isT md wd a1
  have h4 := wd.1.2
  rcases q_isT_c wd a1 with g | ⟨g, T, ht, rfl⟩
  · rw [g, if_pos rfl] at hT
    rw [g] at hI
    refine on_isThere_1 (v := 0) (s1 := s) (w := 0) (t := am_set s 207 0 1) (by unfold f_CB_isThere; rw [hT]; rfl) (by unfold p_CB_isThere; rw [hT]; exact fun q => absurd q (by decide)) ?_ ?_ am_set_q (pu_R_thrown h')
    · unfold p_MO_isThere p_MO_isThere_14; rw [hI, pr_holds1 s (by decide)]; exact ⟨qd_pisT s _, fun _ => ⟨fun _ => trivial, fun q => absurd rfl q⟩, fun q => absurd rfl q⟩
    · unfold f_MO_isThere f_MO_isThere_14; rw [hI, pr_holds1 s (by decide)]; rfl
  rw [g, if_neg i10] at hT
  have ht4 : T < 4 := by omega
  have hh := qr_has cb ht4 a2
  have hb : f_RO_has s 8 (nI T) a2 = 0 ∨ f_RO_has s 8 (nI T) a2 = 1 := by
    rw [hh]
    by_cases c : q_hs (Z 8) T a2
    · rw [if_pos c]; exact Or.inr rfl
    · rw [if_neg c]; exact Or.inl rfl
  have hrow : ∀ u, q_md u (Z 6) → q_mb u (Z 8) → p_MO_isThere u (nI T) a2 ∧ f_MO_isThere u (nI T) a2 = (f_RO_has s 8 (nI T) a2, am_set u 207 0 0) := fun u mu bu => by
    have hI := qd_isT mu wd (nI T)
    rw [g] at hI
    have hr := qr_isRow (q_md_set (i := 207) (k := 0) (x := 0) (by omega) mu) wd wr.we (q_mb_set (i := 207) (k := 0) (x := 0) (by omega) bu) (nI T) a2
    have hr2 : q_isR (Z 6) (Z 8) (nI T) a2 = f_RO_has s 8 (nI T) a2 := by
      unfold q_isR; rw [g, if_neg i10, hh, show q_c (nI T) = T from nI_clamp (by omega)]
    rw [hr2] at hr
    unfold p_MO_isThere f_MO_isThere p_MO_isThere_14 f_MO_isThere_14
    rw [hI, if_neg i10, pr_holds0, if_neg i10]
    dsimp only
    rw [hr.2]
    refine ⟨⟨qd_pisT _ _, fun q => absurd q i10, fun _ => ⟨fun q => absurd q i10, fun _ => ⟨hr.1, fun _ => trivial, fun _ => trivial⟩⟩⟩, ?_⟩
    rcases hb with q | q
    · rw [q]; rfl
    · rw [q]; rfl
  have hz := hrow (am_set s 262 0 (if f_RO_has s 8 (nI T) a2 = 0 then 0 else 1)) (q_md_set (by omega) md) (q_mb_set (by omega) mb)
  refine og_isThere (v := f_RO_has s 8 (nI T) a2) (s1 := s) ?_ ?_ hz.1 hz.2 am_set_q ?_ (pu_R_thrown (pu_R_out h'))
  · unfold f_CB_isThere; rw [hT]; rfl
  · unfold p_CB_isThere; rw [hT]; exact fun _ => ⟨qr_phas _ _ _, hb, trivial⟩
  · rw [am_set_p (by omega)]; exact am_set_q
theorem op_cell_ok {c d : Nat} (hcd : c ≤ d) : op_cell (pu_R c) (pu_R d) := by
  intro s a1 a2 a3 h
  replace h := h.mono hcd
  have h' := h
  obtain ⟨hP, Z, hZ⟩ := h
  obtain ⟨cd, oc, md, wd⟩ : q_x1 s (Z 6) := hZ 1
  obtain ⟨cb, mb, wr⟩ : q_x3 s (Z 6) (Z 8) := hZ 3
  have hT := qr_row cd wd cb a1 a2
  have hr := qr_isRow md wd wr.we mb a1 a2
  have h4 := wd.1.2
  have p24 : p_MO_cell_24 s a1 a2 a3 1 ∧ f_MO_cell_24 s a1 a2 a3 1 = (0, am_set s 207 0 1) := by
    unfold p_MO_cell_24 f_MO_cell_24
    rw [pr_holds1 s (by decide)]
    exact ⟨⟨fun _ => trivial, fun q => absurd rfl q⟩, rfl⟩
  rcases q_isR_c wd wr.we a1 a2 with g | ⟨g, T, r, ht, ht4, hr30, hrm, rfl, rfl, hh⟩
  · rw [g, if_pos rfl] at hT
    rw [g] at hr
    refine on_cell_1 (v := 0) (s1 := s) (w := 0) (t := am_set s 207 0 1) (by unfold f_CB_cell; rw [hT]; rfl) (by unfold p_CB_cell; rw [hT]; exact ⟨qr_prow _ _ _, fun q => absurd q (by decide)⟩) ?_ ?_ am_set_q (pu_R_thrown h')
    · unfold p_MO_cell p_MO_cell_23; rw [hr.2]; exact ⟨hr.1, fun _ => p24.1, fun q => absurd rfl q⟩
    · unfold f_MO_cell f_MO_cell_23; rw [hr.2, p24.2]; rfl
  rw [g, if_neg i10] at hT
  rw [g] at hr
  have hT2 := qd_wantC cd wd (nI T) a3
  have hI2 := qd_isC md wd (nI T) a3
  rcases q_isC_c wd (nI T) a3 with k | ⟨k, T2, C, hT9, hT4, hC, hC6, e1, rfl⟩
  · rw [k, if_pos rfl] at hT2
    rw [k] at hI2
    refine on_cell_1 (v := 0) (s1 := s) (w := 0) (t := am_set s 207 0 1) (by unfold f_CB_cell; rw [hT, hT2]; rfl) (by unfold p_CB_cell; rw [hT, hT2]; exact ⟨qr_prow _ _ _, fun _ => ⟨qd_pwantC _ _ _, fun q => absurd q (by decide)⟩⟩) ?_ ?_ am_set_q (pu_R_thrown h')
    · unfold p_MO_cell p_MO_cell_23; rw [hr.2, hI2]; exact ⟨hr.1, fun q => absurd q i10, fun _ => ⟨qd_pisC md wd _ _, fun _ => p24.1, fun q => absurd rfl q⟩⟩
    · unfold f_MO_cell f_MO_cell_23; rw [hr.2, hI2, p24.2]; rfl
  rw [k, if_neg i10] at hT2
  have hrow : ∀ u, q_md u (Z 6) → q_mb u (Z 8) → p_MO_cell u (nI T) (nI r) (nI C) ∧ f_MO_cell u (nI T) (nI r) (nI C) = (Z 8 2 (180 * T + 6 * r + C), am_set u 207 0 0) := fun u mu bu => by
    have hI := qd_isC mu wd (nI T) (nI C)
    rw [k] at hI
    have hr := qr_isRow mu wd wr.we bu (nI T) (nI r)
    rw [g] at hr
    unfold p_MO_cell f_MO_cell p_MO_cell_24 f_MO_cell_24
    rw [hr.2, if_neg i10, hI, if_neg i10, pr_holds0, if_neg i10, qr_at, nI_clamp (n := 180 * T + 6 * r + C) (by omega)]
    dsimp only
    rw [am_set_o (by omega), bu.2.2 _ (by omega) (by rw [show (180 * T + 6 * r + C) / 6 = 30 * T + r from by omega]; exact hh)]
    exact ⟨⟨hr.1, fun q => absurd q i10, fun _ => ⟨qd_pisC mu wd _ _, fun q => absurd q i10, fun _ => ⟨fun q => absurd q i10, fun _ => ⟨vp_in_nI (by omega) (by omega), trivial⟩⟩⟩⟩, rfl⟩
  have hz := hrow (am_set s 262 0 (Z 8 2 (180 * T + 6 * r + C))) (q_md_set (by omega) md) (q_mb_set (by omega) mb)
  refine og_cell (v := Z 8 2 (180 * T + 6 * r + C)) (s1 := s) ?_ ?_ hz.1 hz.2 am_set_q ?_ (pu_R_thrown (pu_R_out h'))
  · unfold f_CB_cell; rw [hT, hT2, qr_cell cb ht4 hr30 hC6 hh]; rfl
  · unfold p_CB_cell; rw [hT, hT2]; exact ⟨qr_prow _ _ _, fun _ => ⟨qd_pwantC _ _ _, fun _ => ⟨qr_pget _ _ _ _, trivial⟩⟩⟩
  · rw [am_set_p (by omega)]; exact am_set_q
end
