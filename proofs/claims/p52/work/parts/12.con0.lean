/-! what is there at first, and the constructors; written by wip/p52/con.py -/
def am_izL : List (List Int32) := [[0, 0], [0, 0, 0, 0, 0, 0, 0, 0, 0, 0, 0, 0], [0, 0, 0, 0, 0, 0, 0, 0, 0, 0, 0, 0, 0, 0, 0, 0], [0, 0, 0, 0, 0, 0, 0, 0, 0, 0, 0], [0, 0, -1, -1, -1, -1, -1, 0, 0, 0, 0, 0, 0, 0, 0, 0, 0], [0, -1, -1, -1], [0, 0, 0], [0, 0, 0, 0, 0, 0], [0, 0, 0, 0, 0], [0, 0, 0, 0, 0, 0, 0, 0, -1, 0, 0]]
def am_iz (ci k : Nat) : Int32 := (am_izL.getD ci []).getD k 0
def am_sp : List (Nat × Nat × Int32) := [(11, 720, -1000000), (15, 720, -1000000), (55, 54, -1), (68, 54, -1), (75, 54, -1), (82, 54, -1), (89, 54, -1), (96, 54, -1), (103, 54, -1), (110, 54, -1), (117, 54, -1), (124, 6, -1000000), (186, 720, -1000000), (190, 720, -1000000), (194, 720, -1000000), (198, 720, -1000000), (202, 720, -1000000), (206, 720, -1000000)]
def am_i1 (i k : Nat) : Int32 := match am_sp.lookup i with
  | some q => if k < q.1 then q.2 else 0
  | none => 0
/-- the words of all cells once all is made -/
def am_I (i : Nat) : Nat → Int32 := if (am_sh i).1 = 0 then (fun k => if am_fr (am_sh i).2.1 k then nI (am_lk i k) else am_iz (am_sh i).2.1 k) else if 2 < (am_sh i).2.1 then (fun k => if k < (am_sh i).2.2 then nI (am_lk i k) else -1) else am_i1 i
theorem am_I_0 {i t N : Nat} (h : am_sh i = (1, t, N)) (ht : ¬ 2 < t) (hl : am_sp.lookup i = none) : am_I i = fun _ => 0 := by
  funext k; simp [am_I, h, ht, am_i1, hl]
theorem am_I_s {i t N M : Nat} {v : Int32} (h : am_sh i = (1, t, N)) (ht : ¬ 2 < t) (hl : am_sp.lookup i = some (M, v)) : am_I i = fun k => if k < M then v else 0 := by
  funext k; simp [am_I, h, ht, am_i1, hl]
theorem am_I_r {i t N : Nat} (h : am_sh i = (1, t, N)) (ht : 2 < t) : am_I i = fun k => if k < N then nI (am_lk i k) else -1 := by
  funext k; simp [am_I, h, ht]
theorem am_I_o {i ci N : Nat} (h : am_sh i = (0, ci, N)) : am_I i = fun k => if am_fr ci k then nI (am_lk i k) else am_iz ci k := by
  funext k; simp [am_I, h]
/-- behind the making of the cells lo .. n - 1: those below stay; those behind are as they'll be, but for the open ones -/
def Co (s0 σ : am_M) (lo n : Nat) (op : List (Nat × (Nat → Int32))) : Prop := (∀ a, a < lo → σ a = s0 a) ∧ (∀ a, lo ≤ a → a < n → (∀ q ∈ op, q.1 ≠ a) → σ a = am_I a) ∧ ∀ q ∈ op, σ q.1 = q.2
theorem Co_new {s0 σ : am_M} {lo n : Nat} {op : List (Nat × (Nat → Int32))} {f : Nat → Int32} (h : Co s0 σ lo n op) (h1 : lo ≤ n) (h2 : ∀ q ∈ op, q.1 < n) (hf : am_I n = f) : Co s0 (am_put σ n f) lo (n + 1) op := by
  refine ⟨fun a ha => ?_, fun a h3 h4 h5 => ?_, fun q hq => ?_⟩
  · rw [am_put_o (by omega)]; exact h.1 a ha
  · by_cases ha : a = n
    · subst ha; rw [am_put_s, hf]
    · rw [am_put_o ha]; exact h.2.1 a h3 (by omega) h5
  · rw [am_put_o (Nat.ne_of_lt (h2 q hq))]; exact h.2.2 q hq
theorem Co_open {s0 σ : am_M} {lo n : Nat} {op : List (Nat × (Nat → Int32))} {f : Nat → Int32} (h : Co s0 σ lo n op) (h1 : lo ≤ n) (h2 : ∀ q ∈ op, q.1 < n) : Co s0 (am_put σ n f) lo (n + 1) ((n, f) :: op) := by
  refine ⟨fun a ha => ?_, fun a h3 h4 h5 => ?_, fun q hq => ?_⟩
  · rw [am_put_o (by omega)]; exact h.1 a ha
  · have ha : a ≠ n := fun e => h5 (n, f) List.mem_cons_self e.symm
    rw [am_put_o ha]; exact h.2.1 a h3 (by omega) (fun q hq => h5 q (List.mem_cons_of_mem _ hq))
  · rcases List.mem_cons.mp hq with e | e
    · rw [e, am_put_s]
    · rw [am_put_o (Nat.ne_of_lt (h2 q e))]; exact h.2.2 q e
/-- a word of the first open one is set -/
theorem Co_set {s0 σ : am_M} {lo n i k : Nat} {x : Int32} {f : Nat → Int32} {op : List (Nat × (Nat → Int32))} (h : Co s0 σ lo n ((i, f) :: op)) (h1 : lo ≤ i) (h2 : ∀ q ∈ op, q.1 ≠ i) : Co s0 (am_set σ i k x) lo n ((i, upd f k x) :: op) := by
  refine ⟨fun a ha => ?_, fun a h3 h4 h5 => ?_, fun q hq => ?_⟩
  · rw [am_set_o (by omega)]; exact h.1 a ha
  · have ha : a ≠ i := fun e => h5 (i, _) List.mem_cons_self e.symm
    rw [am_set_o ha]
    refine h.2.1 a h3 h4 (fun q hq => ?_)
    rcases List.mem_cons.mp hq with e | e
    · rw [e]; exact fun e2 => ha e2.symm
    · exact h5 q (List.mem_cons_of_mem _ e)
  · rcases List.mem_cons.mp hq with e | e
    · rw [e, am_set_s, h.2.2 (i, f) List.mem_cons_self]
    · rw [am_set_o (h2 q e)]; exact h.2.2 q (List.mem_cons_of_mem _ e)
/-- .. all of its words are put -/
theorem Co_put {s0 σ : am_M} {lo n i : Nat} {f f2 : Nat → Int32} {op : List (Nat × (Nat → Int32))} (h : Co s0 σ lo n ((i, f) :: op)) (h1 : lo ≤ i) (h2 : ∀ q ∈ op, q.1 ≠ i) : Co s0 (am_put σ i f2) lo n ((i, f2) :: op) := by
  refine ⟨fun a ha => ?_, fun a h3 h4 h5 => ?_, fun q hq => ?_⟩
  · rw [am_put_o (by omega)]; exact h.1 a ha
  · have ha : a ≠ i := fun e => h5 (i, _) List.mem_cons_self e.symm
    rw [am_put_o ha]
    refine h.2.1 a h3 h4 (fun q hq => ?_)
    rcases List.mem_cons.mp hq with e | e
    · rw [e]; exact fun e2 => ha e2.symm
    · exact h5 q (List.mem_cons_of_mem _ e)
  · rcases List.mem_cons.mp hq with e | e
    · rw [e, am_put_s]
    · rw [am_put_o (h2 q e)]; exact h.2.2 q (List.mem_cons_of_mem _ e)
theorem Co_swap {s0 σ : am_M} {lo n : Nat} {p q : Nat × (Nat → Int32)} {op : List (Nat × (Nat → Int32))} (h : Co s0 σ lo n (p :: q :: op)) : Co s0 σ lo n (q :: p :: op) :=
  ⟨h.1, fun a h1 h2 h3 => h.2.1 a h1 h2 (fun x hx => h3 x (by simp only [List.mem_cons] at hx ⊢; rcases hx with h | h | h <;> simp [h])), fun x hx => h.2.2 x (by simp only [List.mem_cons] at hx ⊢; rcases hx with h | h | h <;> simp [h])⟩
/-- an open one is as it'll be -/
theorem Co_shut {s0 σ : am_M} {lo n i : Nat} {f : Nat → Int32} {op : List (Nat × (Nat → Int32))} (h : Co s0 σ lo n ((i, f) :: op)) (hf : f = am_I i) : Co s0 σ lo n op := by
  refine ⟨h.1, fun a h3 h4 h5 => ?_, fun q hq => h.2.2 q (List.mem_cons_of_mem _ hq)⟩
  by_cases ha : a = i
  · rw [ha, h.2.2 (i, f) List.mem_cons_self, hf]
  · refine h.2.1 a h3 h4 (fun q hq => ?_)
    rcases List.mem_cons.mp hq with e | e
    · rw [e]; exact fun e2 => ha e2.symm
    · exact h5 q e
/-- behind a constructor's call, of the last cell made -/
def am_made (i k : Nat) (σ : am_M) : am_P := fun o n' σ' => o = .inl none ∧ n' = i + k ∧ (∀ a, a < i → σ' a = σ a) ∧ ∀ a, i ≤ a → a < i + k → σ' a = am_I a
theorem Co_made {s0 σ σ' : am_M} {lo n m k : Nat} {f : Nat → Int32} {op : List (Nat × (Nat → Int32))} (h : Co s0 σ lo (n + 1) ((n, f) :: op)) (hlo : lo ≤ n) (h2 : ∀ q ∈ op, q.1 < n) (hm : n + k = m) (ha : ∀ a, a < n → σ' a = σ a) (hb : ∀ a, n ≤ a → a < n + k → σ' a = am_I a) : Co s0 σ' lo m op := by
  subst hm
  refine ⟨fun a h1 => by rw [ha a (by omega)]; exact h.1 a h1, fun a h3 h4 h5 => ?_, fun q hq => by rw [ha _ (h2 q hq)]; exact h.2.2 q (List.mem_cons_of_mem _ hq)⟩
  by_cases h6 : a < n
  · rw [ha a h6]
    refine h.2.1 a h3 (by omega) (fun q hq => ?_)
    rcases List.mem_cons.mp hq with e | e
    · rw [e]; exact fun e2 => absurd e2.symm (Nat.ne_of_lt h6)
    · exact h5 q e
  · exact hb a (by omega) h4
theorem Co_start {s : am_M} {i : Nat} {f : Nat → Int32} (h : s i = f) : Co s s i (i + 1) [(i, f)] := ⟨fun _ _ => rfl, fun a h1 h2 h3 => absurd (by omega : i = a) (h3 (i, f) List.mem_cons_self), fun q hq => by
  rcases List.mem_cons.mp hq with e | e
  · rw [e]; exact h
  · cases e⟩
theorem Co_end {s σ : am_M} {i m k : Nat} (h : Co s σ i m []) (hm : m = i + k) : am_made i k s (.inl none) m σ := ⟨rfl, hm, h.1, fun a h1 h2 => h.2.1 a h1 (by omega) (fun q hq => by cases hq)⟩
/-- Arrays.fill, of any cell -/
theorem ct_fill {l : Launch} {g : am_Gl} {n a N : Nat} {s : am_M} {v : Int32} (ha : a < n) (hs : am_sh a = (1, 0, N)) (hN : N < 2 ^ 30) : AC l g m_JF_fill n s [.ref a, .int v] (am_ret none n (am_put s a (fun j => if j < N then v else s a j))) := by
  refine am_enter ok_JF_fill rfl (Nat.le_of_ble_eq_true rfl) rfl (fun ad0 => ?_)
  have key : ∀ (m i : Nat), N - i < m → i ≤ N → ∀ σ : am_M, σ = am_put s a (fun j => if j < i then v else s a j) → AW l g m_JF_fill n ad0 (am_ret none n (am_put s a (fun j => if j < N then v else s a j))) 0 0 n σ 5 [(0, .ref a), (1, .int v), (2, .int (nI i)), (3, .int (nI N))] [] := by
    intro m
    induction m with
    | zero => intro i h; omega
    | succ m ih =>
      intro i h1 h2 σ hσ
      refine am_iload_n (j := 2) d_JF_fill_5 rfl rfl ?_
      refine am_iload_n (j := 3) d_JF_fill_6 rfl rfl ?_
      refine am_icmp_ge (tgt := 20) d_JF_fill_7 (by decide) (fun c => ?_) (fun c => ?_)
      · have e : i = N := by
          have := (nI_leI (by omega) (by omega)).mp c
          omega
        subst e
        subst hσ
        exact am_vret d_JF_fill_20 rfl (by decide) (by decide) ⟨rfl, rfl, rfl⟩
      · have e : i < N := by
          have h3 : ¬ N ≤ i := fun q => c ((nI_leI (by omega) (by omega)).mpr q)
          omega
        refine am_aload_n (j := 0) d_JF_fill_10 rfl rfl ?_
        refine am_iload_n (j := 2) d_JF_fill_11 rfl rfl ?_
        refine am_iload_n (j := 1) d_JF_fill_12 rfl rfl ?_
        refine am_iast d_JF_fill_13 ha hs (vp_in_nI e (by omega)) ?_
        refine am_iinc (j := 2) (v := nI (i + 1)) (lv2 := [(2, .int (nI (i + 1))), (0, .ref a), (1, .int v), (3, .int (nI N))]) d_JF_fill_14 rfl (nI_1 i) (by decide) rfl ?_
        refine am_goto (tgt := 5) d_JF_fill_17 (by decide) ?_
        refine am_sub [1, 2, 0, 3] (lv2 := [(0, .ref a), (1, .int v), (2, .int (nI (i + 1))), (3, .int (nI N))]) rfl ?_
        refine ih (i + 1) (by omega) (by omega) _ ?_
        rw [hσ, nI_clamp (by omega)]
        funext b
        by_cases hb : b = a
        · subst hb
          rw [am_set_s, am_put_s, am_put_s]
          funext j
          by_cases hj : j = i
          · subst hj; simp [upd]
          · have : (j < i + 1) ↔ (j < i) := by omega
            simp [upd, hj, this]
        · rw [am_set_o hb, am_put_o hb, am_put_o hb]
  refine am_iconst (v := (0 : Int32)) d_JF_fill_0 (by decide) ?_
  refine am_istore_n (lv2 := [(2, .int (0 : Int32)), (0, .ref a), (1, .int v)]) d_JF_fill_1 rfl (by decide) rfl ?_
  refine am_aload_n (j := 1) d_JF_fill_2 rfl rfl ?_
  refine am_alen (v := nI N) d_JF_fill_3 ha hs (by decide) rfl ?_
  refine am_istore_n (lv2 := [(3, .int (nI N)), (2, .int (0 : Int32)), (0, .ref a), (1, .int v)]) d_JF_fill_4 rfl (by decide) rfl ?_
  refine am_sub [2, 3, 1, 0] (lv2 := [(0, .ref a), (1, .int v), (2, .int (nI 0)), (3, .int (nI N))]) rfl ?_
  refine key (N + 1) 0 (by omega) (Nat.zero_le N) s ?_
  funext b
  by_cases hb : b = a
  · subst hb; rw [am_put_s]; funext j; simp
  · rw [am_put_o hb]

theorem am_acI : Cond.arrayClass (am_ty 0) ∈ am_G := aw_0_116
theorem am_acZ : Cond.arrayClass (am_ty 1) ∈ am_G := aw_0_216
