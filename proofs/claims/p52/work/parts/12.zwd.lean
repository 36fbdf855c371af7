noncomputable section
-- an act in step; written by wip/p52/zy4.py
theorem and1 (x : Int32) : x &&& (1 : Int32) = 0 ∨ x &&& (1 : Int32) = 1 := by
  have h : (x &&& (1 : Int32)).toBitVec.toNat = x.toBitVec.toNat % 2 := by
    rw [Int32.toBitVec_and, BitVec.toNat_and]; exact Nat.and_one_is_mod _
  have h2 : x.toBitVec.toNat % 2 = 0 ∨ x.toBitVec.toNat % 2 = 1 := by omega
  rcases h2 with e | e
  · left
    apply Int32.toBitVec_inj.mp
    apply BitVec.eq_of_toNat_eq
    rw [h, e]; rfl
  · right
    apply Int32.toBitVec_inj.mp
    apply BitVec.eq_of_toNat_eq
    rw [h, e]; rfl
theorem L3_i {c d : Nat} {t : am_M} {p : Prop} [Decidable p] {P1 P2 Q1 Q2 : Prop} {x1 x2 y1 y2 : Int32 × am_M} (h1 : p → P1 ∧ Q1 ∧ ZZ c d t x1 y1) (h2 : ¬ p → P2 ∧ Q2 ∧ ZZ c d t x2 y2) : ((p → P1) ∧ (¬ p → P2)) ∧ ((p → Q1) ∧ (¬ p → Q2)) ∧ ZZ c d t (if p then x1 else x2) (if p then y1 else y2) := by
  refine ⟨⟨fun c => (h1 c).1, fun c => (h2 c).1⟩, ⟨fun c => (h1 c).2.1, fun c => (h2 c).2.1⟩, ?_⟩
  split
  · exact (h1 ‹_›).2.2
  · exact (h2 ‹_›).2.2
theorem L3_a {c d : Nat} {t : am_M} {A B P Q : Prop} {x y : Int32 × am_M} (a : A) (b : B) (h : P ∧ Q ∧ ZZ c d t x y) : (A ∧ P) ∧ (B ∧ Q) ∧ ZZ c d t x y := ⟨⟨a, h.1⟩, ⟨b, h.2.1⟩, h.2.2⟩
theorem L3_l {c d : Nat} {t : am_M} {P Q : Prop} {x y : Int32 × am_M} (h : P ∧ Q ∧ ZZ c d t x y) : (P ∧ True) ∧ (Q ∧ True) ∧ ZZ c d t (x.1, x.2) (y.1, y.2) := ⟨⟨h.1, trivial⟩, ⟨h.2.1, trivial⟩, h.2.2⟩
theorem lowp {s : am_M} {a b : Int32} (h : ¬ (b = 0)) : p_LH_low s a b := ⟨h, trivial⟩
theorem nump {s : am_M} {a b : Int32} : p_LH_number s a b := by
  unfold p_LH_number
  exact ⟨fun _ => trivial, fun _ => ⟨fun _ => ⟨lowp (by decide), trivial⟩, fun _ => ⟨lowp (by decide), trivial⟩⟩⟩
theorem LS_sets_23 {c d : Nat} (hcd : c ≤ d) {s t : am_M} {k x2 x3 x4 x5 x6 x7 : Int32} (h : RR c s t) : p_LH_sets s ((2 : Int32) + (k &&& (1 : Int32))) x2 x3 x4 x5 x6 x7 ∧ p_LH_sets t ((2 : Int32) + (k &&& (1 : Int32))) x2 x3 x4 x5 x6 x7 ∧ ZZ c d t (f_LH_sets s ((2 : Int32) + (k &&& (1 : Int32))) x2 x3 x4 x5 x6 x7) (f_LH_sets t ((2 : Int32) + (k &&& (1 : Int32))) x2 x3 x4 x5 x6 x7) := by
  rcases and1 k with e | e
  · rw [e, show (2 : Int32) + 0 = 2 from by decide]; exact LS_sets_2 hcd h
  · rw [e, show (2 : Int32) + 1 = 3 from by decide]; exact LS_sets_3 hcd h
theorem LS_asks_23 {c d : Nat} (hcd : c ≤ d) {s t : am_M} {k x2 x3 x4 x5 x6 : Int32} (h : RR c s t) : p_LH_asks s ((2 : Int32) + (k &&& (1 : Int32))) x2 x3 x4 x5 x6 ∧ p_LH_asks t ((2 : Int32) + (k &&& (1 : Int32))) x2 x3 x4 x5 x6 ∧ ZZ c d t (f_LH_asks s ((2 : Int32) + (k &&& (1 : Int32))) x2 x3 x4 x5 x6) (f_LH_asks t ((2 : Int32) + (k &&& (1 : Int32))) x2 x3 x4 x5 x6) := by
  rcases and1 k with e | e
  · rw [e, show (2 : Int32) + 0 = 2 from by decide]; exact LS_asks_2 hcd h
  · rw [e, show (2 : Int32) + 1 = 3 from by decide]; exact LS_asks_3 hcd h
theorem LS_sets_46 {c d : Nat} (hcd : c ≤ d) {s t : am_M} {k x2 x3 x4 x5 x6 x7 : Int32} (hk : k = 4 ∨ k = 6) (h : RR c s t) : p_LH_sets s k x2 x3 x4 x5 x6 x7 ∧ p_LH_sets t k x2 x3 x4 x5 x6 x7 ∧ ZZ c d t (f_LH_sets s k x2 x3 x4 x5 x6 x7) (f_LH_sets t k x2 x3 x4 x5 x6 x7) := by
  rcases hk with e | e
  · rw [e]; exact LS_sets_4 hcd h
  · rw [e]; exact LS_sets_6 hcd h
theorem LA_170 {c d : Nat} (hcd : c + 7 ≤ d) (hd9 : d ≤ 4000) {s t : am_M} {x1 x2 x3 x4 x5 x6 y2 y3 : Int32} (h : RR c s t)  : p_LH_act_170 s x1 x2 x3 x4 x5 x6 (1 : Int32) y2 y3 ∧ p_LH_act_170 t x1 x2 x3 x4 x5 x6 (1 : Int32) y2 y3 ∧ ZZ c d t (f_LH_act_170 s x1 x2 x3 x4 x5 x6 (1 : Int32) y2 y3) (f_LH_act_170 t x1 x2 x3 x4 x5 x6 (1 : Int32) y2 y3) := by
  unfold p_LH_act_170 f_LH_act_170
  have el : ∀ a b, f_LH_low t a b = f_LH_low s a b := fun _ _ => rfl
  have en : ∀ a b, f_LH_number t a b = f_LH_number s a b := fun _ _ => rfl
  try simp only [el, en]
  repeat' (first | with_reducible exact L3_l (LS_does_1 hcd hd9 h) | with_reducible refine L3_a (lowp (by first | decide | assumption)) (lowp (by first | decide | assumption)) ?_ | with_reducible refine L3_a nump nump ?_ | with_reducible refine L3_i (fun _ => ?_) (fun _ => ?_))
theorem LA_227 {c d : Nat} (hcd : c + 7 ≤ d) (hd9 : d ≤ 4000) {s t : am_M} {x1 x2 x3 x4 x5 x6 y2 y3 : Int32} (h : RR c s t)  : p_LH_act_227 s x1 x2 x3 x4 x5 x6 (2 : Int32) y2 y3 ∧ p_LH_act_227 t x1 x2 x3 x4 x5 x6 (2 : Int32) y2 y3 ∧ ZZ c d t (f_LH_act_227 s x1 x2 x3 x4 x5 x6 (2 : Int32) y2 y3) (f_LH_act_227 t x1 x2 x3 x4 x5 x6 (2 : Int32) y2 y3) := by
  unfold p_LH_act_227 f_LH_act_227
  have el : ∀ a b, f_LH_low t a b = f_LH_low s a b := fun _ _ => rfl
  have en : ∀ a b, f_LH_number t a b = f_LH_number s a b := fun _ _ => rfl
  try simp only [el, en]
  repeat' (first | with_reducible exact L3_l (LS_does_2 hcd hd9 h) | with_reducible refine L3_a (lowp (by first | decide | assumption)) (lowp (by first | decide | assumption)) ?_ | with_reducible refine L3_a nump nump ?_ | with_reducible refine L3_i (fun _ => ?_) (fun _ => ?_))
theorem LA_289 {c d : Nat} (hcd : c + 7 ≤ d) (hd9 : d ≤ 4000) {s t : am_M} {x1 x2 x3 x4 x5 x6 x7 y0 y1 : Int32} (h : RR c s t) (n1 : ¬ (y1 = 0)) : p_LH_act_289 s x1 x2 x3 x4 x5 x6 x7 y0 y1 ∧ p_LH_act_289 t x1 x2 x3 x4 x5 x6 x7 y0 y1 ∧ ZZ c d t (f_LH_act_289 s x1 x2 x3 x4 x5 x6 x7 y0 y1) (f_LH_act_289 t x1 x2 x3 x4 x5 x6 x7 y0 y1) := by
  unfold p_LH_act_289 f_LH_act_289
  have el : ∀ a b, f_LH_low t a b = f_LH_low s a b := fun _ _ => rfl
  have en : ∀ a b, f_LH_number t a b = f_LH_number s a b := fun _ _ => rfl
  try simp only [el, en]
  repeat' (first | with_reducible exact L3_l (LS_sets_0 (c := c) (d := d) (by omega) h) | with_reducible exact L3_l (LS_sets_1 (c := c) (d := d) (by omega) h) | with_reducible refine L3_a (lowp (by first | decide | assumption)) (lowp (by first | decide | assumption)) ?_ | with_reducible refine L3_a nump nump ?_ | with_reducible refine L3_i (fun _ => ?_) (fun _ => ?_))
theorem LA_273 {c d : Nat} (hcd : c + 7 ≤ d) (hd9 : d ≤ 4000) {s t : am_M} {x1 x2 x3 x4 x5 x6 y0 : Int32} (h : RR c s t)  : p_LH_act_273 s x1 x2 x3 x4 x5 x6 y0 ∧ p_LH_act_273 t x1 x2 x3 x4 x5 x6 y0 ∧ ZZ c d t (f_LH_act_273 s x1 x2 x3 x4 x5 x6 y0) (f_LH_act_273 t x1 x2 x3 x4 x5 x6 y0) := by
  unfold p_LH_act_273 f_LH_act_273
  have el : ∀ a b, f_LH_low t a b = f_LH_low s a b := fun _ _ => rfl
  have en : ∀ a b, f_LH_number t a b = f_LH_number s a b := fun _ _ => rfl
  try simp only [el, en]
  repeat' (first | with_reducible exact LA_289 hcd hd9 h (by first | assumption | decide) | with_reducible refine L3_a (lowp (by first | decide | assumption)) (lowp (by first | decide | assumption)) ?_ | with_reducible refine L3_a nump nump ?_ | with_reducible refine L3_i (fun _ => ?_) (fun _ => ?_))
theorem LA_455 {c d : Nat} (hcd : c + 7 ≤ d) (hd9 : d ≤ 4000) {s t : am_M} {x1 x2 x3 x4 x5 x6 y1 y2 y3 y4 : Int32} (h : RR c s t) (n1 : y1 = 4 ∨ y1 = 6) : p_LH_act_455 s x1 x2 x3 x4 x5 x6 y1 y2 y3 y4 ∧ p_LH_act_455 t x1 x2 x3 x4 x5 x6 y1 y2 y3 y4 ∧ ZZ c d t (f_LH_act_455 s x1 x2 x3 x4 x5 x6 y1 y2 y3 y4) (f_LH_act_455 t x1 x2 x3 x4 x5 x6 y1 y2 y3 y4) := by
  unfold p_LH_act_455 f_LH_act_455
  have el : ∀ a b, f_LH_low t a b = f_LH_low s a b := fun _ _ => rfl
  have en : ∀ a b, f_LH_number t a b = f_LH_number s a b := fun _ _ => rfl
  try simp only [el, en]
  repeat' (first | with_reducible exact L3_l (LS_sets_46 (c := c) (d := d) (by omega) n1 h) | with_reducible refine L3_a (lowp (by first | decide | assumption)) (lowp (by first | decide | assumption)) ?_ | with_reducible refine L3_a nump nump ?_ | with_reducible refine L3_i (fun _ => ?_) (fun _ => ?_))
theorem LA_425 {c d : Nat} (hcd : c + 7 ≤ d) (hd9 : d ≤ 4000) {s t : am_M} {x1 x2 x3 x4 x5 x6 y1 : Int32} (h : RR c s t) (n1 : y1 = 4 ∨ y1 = 6) : p_LH_act_425 s x1 x2 x3 x4 x5 x6 y1 ∧ p_LH_act_425 t x1 x2 x3 x4 x5 x6 y1 ∧ ZZ c d t (f_LH_act_425 s x1 x2 x3 x4 x5 x6 y1) (f_LH_act_425 t x1 x2 x3 x4 x5 x6 y1) := by
  unfold p_LH_act_425 f_LH_act_425
  have el : ∀ a b, f_LH_low t a b = f_LH_low s a b := fun _ _ => rfl
  have en : ∀ a b, f_LH_number t a b = f_LH_number s a b := fun _ _ => rfl
  try simp only [el, en]
  repeat' (first | with_reducible exact LA_455 hcd hd9 h (by first | assumption | decide) | with_reducible refine L3_a (lowp (by first | decide | assumption)) (lowp (by first | decide | assumption)) ?_ | with_reducible refine L3_a nump nump ?_ | with_reducible refine L3_i (fun _ => ?_) (fun _ => ?_))
theorem LA_523 {c d : Nat} (hcd : c + 7 ≤ d) (hd9 : d ≤ 4000) {s t : am_M} {x1 x2 x3 x4 x5 x6 y2 y3 y4 y5 : Int32} (h : RR c s t) (n1 : ¬ (y5 = 0)) : p_LH_act_523 s x1 x2 x3 x4 x5 x6 (7 : Int32) y2 y3 y4 y5 ∧ p_LH_act_523 t x1 x2 x3 x4 x5 x6 (7 : Int32) y2 y3 y4 y5 ∧ ZZ c d t (f_LH_act_523 s x1 x2 x3 x4 x5 x6 (7 : Int32) y2 y3 y4 y5) (f_LH_act_523 t x1 x2 x3 x4 x5 x6 (7 : Int32) y2 y3 y4 y5) := by
  unfold p_LH_act_523 f_LH_act_523
  have el : ∀ a b, f_LH_low t a b = f_LH_low s a b := fun _ _ => rfl
  have en : ∀ a b, f_LH_number t a b = f_LH_number s a b := fun _ _ => rfl
  try simp only [el, en]
  repeat' (first | with_reducible exact L3_l (LS_sets_7 (c := c) (d := d) (by omega) h) | with_reducible refine L3_a (lowp (by first | decide | assumption)) (lowp (by first | decide | assumption)) ?_ | with_reducible refine L3_a nump nump ?_ | with_reducible refine L3_i (fun _ => ?_) (fun _ => ?_))
theorem LA_503 {c d : Nat} (hcd : c + 7 ≤ d) (hd9 : d ≤ 4000) {s t : am_M} {x1 x2 x3 x4 x5 x6 : Int32} (h : RR c s t)  : p_LH_act_503 s x1 x2 x3 x4 x5 x6 ∧ p_LH_act_503 t x1 x2 x3 x4 x5 x6 ∧ ZZ c d t (f_LH_act_503 s x1 x2 x3 x4 x5 x6) (f_LH_act_503 t x1 x2 x3 x4 x5 x6) := by
  unfold p_LH_act_503 f_LH_act_503
  have el : ∀ a b, f_LH_low t a b = f_LH_low s a b := fun _ _ => rfl
  have en : ∀ a b, f_LH_number t a b = f_LH_number s a b := fun _ _ => rfl
  try simp only [el, en]
  repeat' (first | with_reducible exact LA_523 hcd hd9 h (by first | assumption | decide) | with_reducible refine L3_a (lowp (by first | decide | assumption)) (lowp (by first | decide | assumption)) ?_ | with_reducible refine L3_a nump nump ?_ | with_reducible refine L3_i (fun _ => ?_) (fun _ => ?_))
theorem LA_858 {c d : Nat} (hcd : c + 7 ≤ d) (hd9 : d ≤ 4000) {s t : am_M} {x1 x2 x3 x4 x5 x6 x7 y2 y3 y4 y5 y6 : Int32} (h : RR c s t) (n1 : ¬ (y6 = 0)) : p_LH_act_858 s x1 x2 x3 x4 x5 x6 x7 (1 : Int32) y2 y3 y4 y5 y6 ∧ p_LH_act_858 t x1 x2 x3 x4 x5 x6 x7 (1 : Int32) y2 y3 y4 y5 y6 ∧ ZZ c d t (f_LH_act_858 s x1 x2 x3 x4 x5 x6 x7 (1 : Int32) y2 y3 y4 y5 y6) (f_LH_act_858 t x1 x2 x3 x4 x5 x6 x7 (1 : Int32) y2 y3 y4 y5 y6) := by
  unfold p_LH_act_858 f_LH_act_858
  have el : ∀ a b, f_LH_low t a b = f_LH_low s a b := fun _ _ => rfl
  have en : ∀ a b, f_LH_number t a b = f_LH_number s a b := fun _ _ => rfl
  try simp only [el, en]
  repeat' (first | with_reducible exact L3_l (LS_asks_1 (c := c) (d := d) (by omega) h) | with_reducible refine L3_a (lowp (by first | decide | assumption)) (lowp (by first | decide | assumption)) ?_ | with_reducible refine L3_a nump nump ?_ | with_reducible refine L3_i (fun _ => ?_) (fun _ => ?_))
theorem LA_840 {c d : Nat} (hcd : c + 7 ≤ d) (hd9 : d ≤ 4000) {s t : am_M} {x1 x2 x3 x4 x5 x6 x7 y2 y3 y4 : Int32} (h : RR c s t) (n1 : ¬ (y4 = 0)) : p_LH_act_840 s x1 x2 x3 x4 x5 x6 x7 (1 : Int32) y2 y3 y4 ∧ p_LH_act_840 t x1 x2 x3 x4 x5 x6 x7 (1 : Int32) y2 y3 y4 ∧ ZZ c d t (f_LH_act_840 s x1 x2 x3 x4 x5 x6 x7 (1 : Int32) y2 y3 y4) (f_LH_act_840 t x1 x2 x3 x4 x5 x6 x7 (1 : Int32) y2 y3 y4) := by
  unfold p_LH_act_840 f_LH_act_840
  have el : ∀ a b, f_LH_low t a b = f_LH_low s a b := fun _ _ => rfl
  have en : ∀ a b, f_LH_number t a b = f_LH_number s a b := fun _ _ => rfl
  try simp only [el, en]
  repeat' (first | with_reducible exact LA_858 hcd hd9 h (by first | assumption | decide) | with_reducible refine L3_a (lowp (by first | decide | assumption)) (lowp (by first | decide | assumption)) ?_ | with_reducible refine L3_a nump nump ?_ | with_reducible refine L3_i (fun _ => ?_) (fun _ => ?_))
theorem LA_736 {c d : Nat} (hcd : c + 7 ≤ d) (hd9 : d ≤ 4000) {s t : am_M} {x1 x2 x3 x4 x5 x6 y0 : Int32} (h : RR c s t)  : p_LH_act_736 s x1 x2 x3 x4 x5 x6 y0 ∧ p_LH_act_736 t x1 x2 x3 x4 x5 x6 y0 ∧ ZZ c d t (f_LH_act_736 s x1 x2 x3 x4 x5 x6 y0) (f_LH_act_736 t x1 x2 x3 x4 x5 x6 y0) := by
  unfold p_LH_act_736 f_LH_act_736
  have el : ∀ a b, f_LH_low t a b = f_LH_low s a b := fun _ _ => rfl
  have en : ∀ a b, f_LH_number t a b = f_LH_number s a b := fun _ _ => rfl
  try simp only [el, en]
  repeat' (first | with_reducible exact L3_l (LS_asks_0 (c := c) (d := d) (by omega) h) | with_reducible exact L3_l (LS_asks_23 (c := c) (d := d) (by omega) h) | with_reducible exact LA_840 hcd hd9 h (by first | assumption | decide) | with_reducible refine L3_a (lowp (by first | decide | assumption)) (lowp (by first | decide | assumption)) ?_ | with_reducible refine L3_a nump nump ?_ | with_reducible refine L3_i (fun _ => ?_) (fun _ => ?_))
theorem LA_732 {c d : Nat} (hcd : c + 7 ≤ d) (hd9 : d ≤ 4000) {s t : am_M} {x1 x2 x3 x4 x5 x6 y0 y1 y2 : Int32} (h : RR c s t) (n1 : ¬ (y2 = 0)) : p_LH_act_732 s x1 x2 x3 x4 x5 x6 y0 y1 y2 ∧ p_LH_act_732 t x1 x2 x3 x4 x5 x6 y0 y1 y2 ∧ ZZ c d t (f_LH_act_732 s x1 x2 x3 x4 x5 x6 y0 y1 y2) (f_LH_act_732 t x1 x2 x3 x4 x5 x6 y0 y1 y2) := by
  unfold p_LH_act_732 f_LH_act_732
  have el : ∀ a b, f_LH_low t a b = f_LH_low s a b := fun _ _ => rfl
  have en : ∀ a b, f_LH_number t a b = f_LH_number s a b := fun _ _ => rfl
  try simp only [el, en]
  repeat' (first | with_reducible exact LA_736 hcd hd9 h | with_reducible refine L3_a (lowp (by first | decide | assumption)) (lowp (by first | decide | assumption)) ?_ | with_reducible refine L3_a nump nump ?_ | with_reducible refine L3_i (fun _ => ?_) (fun _ => ?_))
theorem LA_109 {c d : Nat} (hcd : c + 7 ≤ d) (hd9 : d ≤ 4000) {s t : am_M} {x1 x2 x3 x4 x5 y0 : Int32} (h : RR c s t)  : p_LH_act_109 s x1 x2 x3 x4 x5 y0 ∧ p_LH_act_109 t x1 x2 x3 x4 x5 y0 ∧ ZZ c d t (f_LH_act_109 s x1 x2 x3 x4 x5 y0) (f_LH_act_109 t x1 x2 x3 x4 x5 y0) := by
  unfold p_LH_act_109 f_LH_act_109
  have el : ∀ a b, f_LH_low t a b = f_LH_low s a b := fun _ _ => rfl
  have en : ∀ a b, f_LH_number t a b = f_LH_number s a b := fun _ _ => rfl
  try simp only [el, en]
  repeat' (first | with_reducible exact L3_l (LS_does_0 hcd hd9 h) | with_reducible exact L3_l (LS_does_3 hcd hd9 h) | with_reducible exact L3_l (LS_does_5 hcd hd9 h) | with_reducible exact L3_l (LS_does_6 hcd hd9 h) | with_reducible exact L3_l (LS_does_7 hcd hd9 h) | with_reducible exact L3_l (LS_does_8 hcd hd9 h) | with_reducible exact L3_l (LS_does_9 hcd hd9 h) | with_reducible exact L3_l (LS_does_10 hcd hd9 h) | with_reducible exact L3_l (LS_does_11 hcd hd9 h) | with_reducible exact L3_l (LS_sets_5 (c := c) (d := d) (by omega) h) | with_reducible exact L3_l (LS_sets_8 (c := c) (d := d) (by omega) h) | with_reducible exact L3_l (LS_asks_7 (c := c) (d := d) (by omega) h) | with_reducible exact L3_l (LS_asks_8 (c := c) (d := d) (by omega) h) | with_reducible exact L3_l (LS_asks_9 (c := c) (d := d) (by omega) h) | with_reducible exact L3_l (LS_asks_10 (c := c) (d := d) (by omega) h) | with_reducible exact L3_l (LS_sets_23 (c := c) (d := d) (by omega) h) | with_reducible exact LA_170 hcd hd9 h | with_reducible exact LA_227 hcd hd9 h | with_reducible exact LA_273 hcd hd9 h | with_reducible exact LA_425 hcd hd9 h (by first | assumption | decide) | with_reducible exact LA_503 hcd hd9 h | with_reducible exact LA_732 hcd hd9 h (by first | assumption | decide) | with_reducible exact LA_736 hcd hd9 h | with_reducible refine L3_a (lowp (by first | decide | assumption)) (lowp (by first | decide | assumption)) ?_ | with_reducible refine L3_a nump nump ?_ | with_reducible refine L3_i (fun _ => ?_) (fun _ => ?_))
theorem LA_80 {c d : Nat} (hcd : c + 7 ≤ d) (hd9 : d ≤ 4000) {s t : am_M} {x1 x2 x3 x4 y0 : Int32} (h : RR c s t)  : p_LH_act_80 s x1 x2 x3 x4 y0 ∧ p_LH_act_80 t x1 x2 x3 x4 y0 ∧ ZZ c d t (f_LH_act_80 s x1 x2 x3 x4 y0) (f_LH_act_80 t x1 x2 x3 x4 y0) := by
  unfold p_LH_act_80 f_LH_act_80
  have el : ∀ a b, f_LH_low t a b = f_LH_low s a b := fun _ _ => rfl
  have en : ∀ a b, f_LH_number t a b = f_LH_number s a b := fun _ _ => rfl
  try simp only [el, en]
  repeat' (first | with_reducible exact LA_109 hcd hd9 h | with_reducible refine L3_a (lowp (by first | decide | assumption)) (lowp (by first | decide | assumption)) ?_ | with_reducible refine L3_a nump nump ?_ | with_reducible refine L3_i (fun _ => ?_) (fun _ => ?_))
theorem LA_51 {c d : Nat} (hcd : c + 7 ≤ d) (hd9 : d ≤ 4000) {s t : am_M} {x1 x2 x3 y0 : Int32} (h : RR c s t)  : p_LH_act_51 s x1 x2 x3 y0 ∧ p_LH_act_51 t x1 x2 x3 y0 ∧ ZZ c d t (f_LH_act_51 s x1 x2 x3 y0) (f_LH_act_51 t x1 x2 x3 y0) := by
  unfold p_LH_act_51 f_LH_act_51
  have el : ∀ a b, f_LH_low t a b = f_LH_low s a b := fun _ _ => rfl
  have en : ∀ a b, f_LH_number t a b = f_LH_number s a b := fun _ _ => rfl
  try simp only [el, en]
  repeat' (first | with_reducible exact LA_80 hcd hd9 h | with_reducible refine L3_a (lowp (by first | decide | assumption)) (lowp (by first | decide | assumption)) ?_ | with_reducible refine L3_a nump nump ?_ | with_reducible refine L3_i (fun _ => ?_) (fun _ => ?_))
theorem LA_17 {c d : Nat} (hcd : c + 7 ≤ d) (hd9 : d ≤ 4000) {s t : am_M} {x1 y0 : Int32} (h : RR c s t)  : p_LH_act_17 s x1 y0 ∧ p_LH_act_17 t x1 y0 ∧ ZZ c d t (f_LH_act_17 s x1 y0) (f_LH_act_17 t x1 y0) := by
  unfold p_LH_act_17 f_LH_act_17
  have el : ∀ a b, f_LH_low t a b = f_LH_low s a b := fun _ _ => rfl
  have en : ∀ a b, f_LH_number t a b = f_LH_number s a b := fun _ _ => rfl
  try simp only [el, en]
  repeat' (first | with_reducible exact LA_51 hcd hd9 h | with_reducible refine L3_a (lowp (by first | decide | assumption)) (lowp (by first | decide | assumption)) ?_ | with_reducible refine L3_a nump nump ?_ | with_reducible refine L3_i (fun _ => ?_) (fun _ => ?_))
theorem LA_all {c d : Nat} (hcd : c + 7 ≤ d) (hd9 : d ≤ 4000) {s t : am_M} {x1 : Int32} (h : RR c s t)  : p_LH_act s x1 ∧ p_LH_act t x1 ∧ ZZ c d t (f_LH_act s x1) (f_LH_act t x1) := by
  unfold p_LH_act f_LH_act
  have el : ∀ a b, f_LH_low t a b = f_LH_low s a b := fun _ _ => rfl
  have en : ∀ a b, f_LH_number t a b = f_LH_number s a b := fun _ _ => rfl
  try simp only [el, en]
  repeat' (first | with_reducible exact LA_17 hcd hd9 h | with_reducible refine L3_a (lowp (by first | decide | assumption)) (lowp (by first | decide | assumption)) ?_ | with_reducible refine L3_a nump nump ?_ | with_reducible refine L3_i (fun _ => ?_) (fun _ => ?_))
end
