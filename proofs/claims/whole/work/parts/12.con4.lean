theorem cw_iast {l : Launch} {g : am_Gl} {Y : am_Y} {n0 : Nat} {ad0 : Nat → Nat} {P : am_P} {k z n : Nat} {σ : am_M} {pc : Nat} {lv : List (Nat × Value)} {st : List Value} {s0 : am_M} {lo : Nat} {op : List (Nat × (Nat → Int32))} {i N : Nat} {x y : Int32} {f : Nat → Int32} (d : decode Y.2.1 pc = .ok (.iastore, 1)) (hi : i < n) (hs : am_sh i = (1, 0, N)) (hin : vp_in x N) (hC : Co s0 σ lo n ((i, f) :: op)) (hlo : lo ≤ i) (hop : ∀ q ∈ op, q.1 ≠ i) (kk : ∀ σ' : am_M, Co s0 σ' lo n ((i, upd f x.toNatClampNeg y) :: op) → AW l g Y n0 ad0 P k z n σ' (pc + 1) lv st) : AW l g Y n0 ad0 P k z n σ pc lv (.int y :: .int x :: .ref i :: st) :=
  am_iast d hi hs hin (kk _ (Co_set hC hlo hop))
set_option maxHeartbeats 4000000 in
theorem ct_MO_init {l : Launch} {g : am_Gl} (hg : g.2.2.2.1 = false) {s : am_M} (hz : s 207 = am_z 10) : AC l g m_MO_init 208 s [.ref 207] (am_made 207 55 s) := by
  refine am_enter ok_MO_init rfl (Nat.le_of_ble_eq_true rfl) rfl (fun ad0 => ?_)
  have hC : Co s s 207 208 [(207, am_z 10)] := Co_start hz
  refine am_aload_n (j := 0) d_MO_init_0 rfl rfl ?_
  refine am_objInit d_MO_init_1 aw_5_232 (by decide) (Nat.le_of_ble_eq_true rfl) ?_
  refine am_aload_n (j := 0) d_MO_init_4 rfl rfl ?_
  refine am_iconst (v := (4 : Int32)) d_MO_init_5 (by decide) ?_
  refine cw_newa (t := 0) (N := 4) 209 (0 + 1) (0 + 4) d_MO_init_6 rfl (by decide) am_acI hg sh_208 (by decide) (by decide) (by decide) hC (by omega) (fun q hq => by simp only [List.mem_cons, List.not_mem_nil, or_false] at hq; rcases hq with rfl <;> dsimp only <;> omega) (am_I_0 sh_208 (by decide) (by decide +kernel)) (by omega) (by omega) (by omega) (by show _ ≤ 54; omega) (by show _ ≤ 47594; omega) (fun σ hC => ?_)
  refine cw_putR (b := 208) d_MO_init_8 fl_MO_7 ft_10_2 rfl rfl hg (by omega) sh_207 (by decide) rfl (Or.inr ⟨_, rfl⟩) (by omega) hC (by omega) (fun q hq => by cases hq) (fun σ hC => ?_)
  refine am_aload_n (j := 0) d_MO_init_11 rfl rfl ?_
  refine am_bipush (v := (24 : Int32)) d_MO_init_12 (by decide) ?_
  refine cw_newaO (t := 0) (N := 24) 210 (0 + 2) (0 + 28) d_MO_init_14 rfl (by decide) am_acI hg sh_209 (by decide) (by decide) (by decide) hC (by omega) (fun q hq => by simp only [List.mem_cons, List.not_mem_nil, or_false] at hq; rcases hq with rfl <;> dsimp only <;> omega) (by omega) (by omega) (by omega) (by show _ ≤ 54; omega) (by show _ ≤ 47594; omega) (fun σ hC => ?_)
  have hC := Co_swap hC
  refine cw_putR (b := 209) d_MO_init_16 fl_MO_13 ft_10_3 rfl rfl hg (by omega) sh_207 (by decide) rfl (Or.inr ⟨_, rfl⟩) (by omega) hC (by omega) (fun q hq => by simp only [List.mem_cons, List.not_mem_nil, or_false] at hq; rcases hq with rfl <;> dsimp only <;> omega) (fun σ hC => ?_)
  refine am_aload_n (j := 0) d_MO_init_19 rfl rfl ?_
  refine am_bipush (v := (24 : Int32)) d_MO_init_20 (by decide) ?_
  refine cw_newa (t := 0) (N := 24) 211 (0 + 3) (0 + 52) d_MO_init_22 rfl (by decide) am_acI hg sh_210 (by decide) (by decide) (by decide) hC (by omega) (fun q hq => by simp only [List.mem_cons, List.not_mem_nil, or_false] at hq; rcases hq with rfl | rfl <;> dsimp only <;> omega) (am_I_0 sh_210 (by decide) (by decide +kernel)) (by omega) (by omega) (by omega) (by show _ ≤ 54; omega) (by show _ ≤ 47594; omega) (fun σ hC => ?_)
  refine cw_putR (b := 210) d_MO_init_24 fl_MO_16 ft_10_4 rfl rfl hg (by omega) sh_207 (by decide) rfl (Or.inr ⟨_, rfl⟩) (by omega) hC (by omega) (fun q hq => by simp only [List.mem_cons, List.not_mem_nil, or_false] at hq; rcases hq with rfl <;> dsimp only <;> omega) (fun σ hC => ?_)
  refine am_aload_n (j := 0) d_MO_init_27 rfl rfl ?_
  refine am_bipush (v := (24 : Int32)) d_MO_init_28 (by decide) ?_
  refine cw_newa (t := 0) (N := 24) 212 (0 + 4) (0 + 76) d_MO_init_30 rfl (by decide) am_acI hg sh_211 (by decide) (by decide) (by decide) hC (by omega) (fun q hq => by simp only [List.mem_cons, List.not_mem_nil, or_false] at hq; rcases hq with rfl | rfl <;> dsimp only <;> omega) (am_I_0 sh_211 (by decide) (by decide +kernel)) (by omega) (by omega) (by omega) (by show _ ≤ 54; omega) (by show _ ≤ 47594; omega) (fun σ hC => ?_)
  refine cw_putR (b := 211) d_MO_init_32 fl_MO_19 ft_10_5 rfl rfl hg (by omega) sh_207 (by decide) rfl (Or.inr ⟨_, rfl⟩) (by omega) hC (by omega) (fun q hq => by simp only [List.mem_cons, List.not_mem_nil, or_false] at hq; rcases hq with rfl <;> dsimp only <;> omega) (fun σ hC => ?_)
  refine am_aload_n (j := 0) d_MO_init_35 rfl rfl ?_
  refine am_bipush (v := (24 : Int32)) d_MO_init_36 (by decide) ?_
  refine cw_newa (t := 0) (N := 24) 213 (0 + 5) (0 + 100) d_MO_init_38 rfl (by decide) am_acI hg sh_212 (by decide) (by decide) (by decide) hC (by omega) (fun q hq => by simp only [List.mem_cons, List.not_mem_nil, or_false] at hq; rcases hq with rfl | rfl <;> dsimp only <;> omega) (am_I_0 sh_212 (by decide) (by decide +kernel)) (by omega) (by omega) (by omega) (by show _ ≤ 54; omega) (by show _ ≤ 47594; omega) (fun σ hC => ?_)
  refine cw_putR (b := 212) d_MO_init_40 fl_MO_22 ft_10_6 rfl rfl hg (by omega) sh_207 (by decide) rfl (Or.inr ⟨_, rfl⟩) (by omega) hC (by omega) (fun q hq => by simp only [List.mem_cons, List.not_mem_nil, or_false] at hq; rcases hq with rfl <;> dsimp only <;> omega) (fun σ hC => ?_)
  refine am_aload_n (j := 0) d_MO_init_43 rfl rfl ?_
  refine am_bipush (v := (24 : Int32)) d_MO_init_44 (by decide) ?_
  refine cw_newa (t := 0) (N := 24) 214 (0 + 6) (0 + 124) d_MO_init_46 rfl (by decide) am_acI hg sh_213 (by decide) (by decide) (by decide) hC (by omega) (fun q hq => by simp only [List.mem_cons, List.not_mem_nil, or_false] at hq; rcases hq with rfl | rfl <;> dsimp only <;> omega) (am_I_0 sh_213 (by decide) (by decide +kernel)) (by omega) (by omega) (by omega) (by show _ ≤ 54; omega) (by show _ ≤ 47594; omega) (fun σ hC => ?_)
  refine cw_putR (b := 213) d_MO_init_48 fl_MO_25 ft_10_7 rfl rfl hg (by omega) sh_207 (by decide) rfl (Or.inr ⟨_, rfl⟩) (by omega) hC (by omega) (fun q hq => by simp only [List.mem_cons, List.not_mem_nil, or_false] at hq; rcases hq with rfl <;> dsimp only <;> omega) (fun σ hC => ?_)
  refine am_aload_n (j := 0) d_MO_init_51 rfl rfl ?_
  refine am_bipush (v := (24 : Int32)) d_MO_init_52 (by decide) ?_
  refine cw_newa (t := 0) (N := 24) 215 (0 + 7) (0 + 148) d_MO_init_54 rfl (by decide) am_acI hg sh_214 (by decide) (by decide) (by decide) hC (by omega) (fun q hq => by simp only [List.mem_cons, List.not_mem_nil, or_false] at hq; rcases hq with rfl | rfl <;> dsimp only <;> omega) (am_I_0 sh_214 (by decide) (by decide +kernel)) (by omega) (by omega) (by omega) (by show _ ≤ 54; omega) (by show _ ≤ 47594; omega) (fun σ hC => ?_)
  refine cw_putR (b := 214) d_MO_init_56 fl_MO_28 ft_10_8 rfl rfl hg (by omega) sh_207 (by decide) rfl (Or.inr ⟨_, rfl⟩) (by omega) hC (by omega) (fun q hq => by simp only [List.mem_cons, List.not_mem_nil, or_false] at hq; rcases hq with rfl <;> dsimp only <;> omega) (fun σ hC => ?_)
  refine am_aload_n (j := 0) d_MO_init_59 rfl rfl ?_
  refine am_bipush (v := (24 : Int32)) d_MO_init_60 (by decide) ?_
  refine cw_newa (t := 0) (N := 24) 216 (0 + 8) (0 + 172) d_MO_init_62 rfl (by decide) am_acI hg sh_215 (by decide) (by decide) (by decide) hC (by omega) (fun q hq => by simp only [List.mem_cons, List.not_mem_nil, or_false] at hq; rcases hq with rfl | rfl <;> dsimp only <;> omega) (am_I_0 sh_215 (by decide) (by decide +kernel)) (by omega) (by omega) (by omega) (by show _ ≤ 54; omega) (by show _ ≤ 47594; omega) (fun σ hC => ?_)
  refine cw_putR (b := 215) d_MO_init_64 fl_MO_31 ft_10_9 rfl rfl hg (by omega) sh_207 (by decide) rfl (Or.inr ⟨_, rfl⟩) (by omega) hC (by omega) (fun q hq => by simp only [List.mem_cons, List.not_mem_nil, or_false] at hq; rcases hq with rfl <;> dsimp only <;> omega) (fun σ hC => ?_)
  refine am_aload_n (j := 0) d_MO_init_67 rfl rfl ?_
  refine am_bipush (v := (24 : Int32)) d_MO_init_68 (by decide) ?_
  refine cw_newa (t := 0) (N := 24) 217 (0 + 9) (0 + 196) d_MO_init_70 rfl (by decide) am_acI hg sh_216 (by decide) (by decide) (by decide) hC (by omega) (fun q hq => by simp only [List.mem_cons, List.not_mem_nil, or_false] at hq; rcases hq with rfl | rfl <;> dsimp only <;> omega) (am_I_0 sh_216 (by decide) (by decide +kernel)) (by omega) (by omega) (by omega) (by show _ ≤ 54; omega) (by show _ ≤ 47594; omega) (fun σ hC => ?_)
  refine cw_putR (b := 216) d_MO_init_72 fl_MO_34 ft_10_10 rfl rfl hg (by omega) sh_207 (by decide) rfl (Or.inr ⟨_, rfl⟩) (by omega) hC (by omega) (fun q hq => by simp only [List.mem_cons, List.not_mem_nil, or_false] at hq; rcases hq with rfl <;> dsimp only <;> omega) (fun σ hC => ?_)
  refine am_aload_n (j := 0) d_MO_init_75 rfl rfl ?_
  refine am_bipush (v := (24 : Int32)) d_MO_init_76 (by decide) ?_
  refine cw_newa (t := 0) (N := 24) 218 (0 + 10) (0 + 220) d_MO_init_78 rfl (by decide) am_acI hg sh_217 (by decide) (by decide) (by decide) hC (by omega) (fun q hq => by simp only [List.mem_cons, List.not_mem_nil, or_false] at hq; rcases hq with rfl | rfl <;> dsimp only <;> omega) (am_I_0 sh_217 (by decide) (by decide +kernel)) (by omega) (by omega) (by omega) (by show _ ≤ 54; omega) (by show _ ≤ 47594; omega) (fun σ hC => ?_)
  refine cw_putR (b := 217) d_MO_init_80 fl_MO_37 ft_10_11 rfl rfl hg (by omega) sh_207 (by decide) rfl (Or.inr ⟨_, rfl⟩) (by omega) hC (by omega) (fun q hq => by simp only [List.mem_cons, List.not_mem_nil, or_false] at hq; rcases hq with rfl <;> dsimp only <;> omega) (fun σ hC => ?_)
  refine am_aload_n (j := 0) d_MO_init_83 rfl rfl ?_
  refine am_bipush (v := (24 : Int32)) d_MO_init_84 (by decide) ?_
  refine cw_newa (t := 1) (N := 24) 219 (0 + 11) (0 + 244) d_MO_init_86 rfl (by decide) am_acZ hg sh_218 (by decide) (by decide) (by decide) hC (by omega) (fun q hq => by simp only [List.mem_cons, List.not_mem_nil, or_false] at hq; rcases hq with rfl | rfl <;> dsimp only <;> omega) (am_I_0 sh_218 (by decide) (by decide +kernel)) (by omega) (by omega) (by omega) (by show _ ≤ 54; omega) (by show _ ≤ 47594; omega) (fun σ hC => ?_)
  refine cw_putR (b := 218) d_MO_init_88 fl_MO_40 ft_10_12 rfl rfl hg (by omega) sh_207 (by decide) rfl (Or.inr ⟨_, rfl⟩) (by omega) hC (by omega) (fun q hq => by simp only [List.mem_cons, List.not_mem_nil, or_false] at hq; rcases hq with rfl <;> dsimp only <;> omega) (fun σ hC => ?_)
  refine am_aload_n (j := 0) d_MO_init_91 rfl rfl ?_
  refine am_bipush (v := (24 : Int32)) d_MO_init_92 (by decide) ?_
  refine cw_newa (t := 1) (N := 24) 220 (0 + 12) (0 + 268) d_MO_init_94 rfl (by decide) am_acZ hg sh_219 (by decide) (by decide) (by decide) hC (by omega) (fun q hq => by simp only [List.mem_cons, List.not_mem_nil, or_false] at hq; rcases hq with rfl | rfl <;> dsimp only <;> omega) (am_I_0 sh_219 (by decide) (by decide +kernel)) (by omega) (by omega) (by omega) (by show _ ≤ 54; omega) (by show _ ≤ 47594; omega) (fun σ hC => ?_)
  refine cw_putR (b := 219) d_MO_init_96 fl_MO_44 ft_10_13 rfl rfl hg (by omega) sh_207 (by decide) rfl (Or.inr ⟨_, rfl⟩) (by omega) hC (by omega) (fun q hq => by simp only [List.mem_cons, List.not_mem_nil, or_false] at hq; rcases hq with rfl <;> dsimp only <;> omega) (fun σ hC => ?_)
  refine am_aload_n (j := 0) d_MO_init_99 rfl rfl ?_
  refine am_bipush (v := (24 : Int32)) d_MO_init_100 (by decide) ?_
  refine cw_newa (t := 0) (N := 24) 221 (0 + 13) (0 + 292) d_MO_init_102 rfl (by decide) am_acI hg sh_220 (by decide) (by decide) (by decide) hC (by omega) (fun q hq => by simp only [List.mem_cons, List.not_mem_nil, or_false] at hq; rcases hq with rfl | rfl <;> dsimp only <;> omega) (am_I_0 sh_220 (by decide) (by decide +kernel)) (by omega) (by omega) (by omega) (by show _ ≤ 54; omega) (by show _ ≤ 47594; omega) (fun σ hC => ?_)
  refine cw_putR (b := 220) d_MO_init_104 fl_MO_47 ft_10_14 rfl rfl hg (by omega) sh_207 (by decide) rfl (Or.inr ⟨_, rfl⟩) (by omega) hC (by omega) (fun q hq => by simp only [List.mem_cons, List.not_mem_nil, or_false] at hq; rcases hq with rfl <;> dsimp only <;> omega) (fun σ hC => ?_)
  refine am_aload_n (j := 0) d_MO_init_107 rfl rfl ?_
  refine am_bipush (v := (24 : Int32)) d_MO_init_108 (by decide) ?_
  refine cw_newa (t := 1) (N := 24) 222 (0 + 14) (0 + 316) d_MO_init_110 rfl (by decide) am_acZ hg sh_221 (by decide) (by decide) (by decide) hC (by omega) (fun q hq => by simp only [List.mem_cons, List.not_mem_nil, or_false] at hq; rcases hq with rfl | rfl <;> dsimp only <;> omega) (am_I_0 sh_221 (by decide) (by decide +kernel)) (by omega) (by omega) (by omega) (by show _ ≤ 54; omega) (by show _ ≤ 47594; omega) (fun σ hC => ?_)
  refine cw_putR (b := 221) d_MO_init_112 fl_MO_50 ft_10_16 rfl rfl hg (by omega) sh_207 (by decide) rfl (Or.inr ⟨_, rfl⟩) (by omega) hC (by omega) (fun q hq => by simp only [List.mem_cons, List.not_mem_nil, or_false] at hq; rcases hq with rfl <;> dsimp only <;> omega) (fun σ hC => ?_)
  refine am_aload_n (j := 0) d_MO_init_115 rfl rfl ?_
  refine am_bipush (v := (8 : Int32)) d_MO_init_116 (by decide) ?_
  refine cw_newa (t := 0) (N := 8) 223 (0 + 15) (0 + 324) d_MO_init_118 rfl (by decide) am_acI hg sh_222 (by decide) (by decide) (by decide) hC (by omega) (fun q hq => by simp only [List.mem_cons, List.not_mem_nil, or_false] at hq; rcases hq with rfl | rfl <;> dsimp only <;> omega) (am_I_0 sh_222 (by decide) (by decide +kernel)) (by omega) (by omega) (by omega) (by show _ ≤ 54; omega) (by show _ ≤ 47594; omega) (fun σ hC => ?_)
  refine cw_putR (b := 222) d_MO_init_120 fl_MO_53 ft_10_18 rfl rfl hg (by omega) sh_207 (by decide) rfl (Or.inr ⟨_, rfl⟩) (by omega) hC (by omega) (fun q hq => by simp only [List.mem_cons, List.not_mem_nil, or_false] at hq; rcases hq with rfl <;> dsimp only <;> omega) (fun σ hC => ?_)
  refine am_aload_n (j := 0) d_MO_init_123 rfl rfl ?_
  refine am_bipush (v := (8 : Int32)) d_MO_init_124 (by decide) ?_
  refine cw_newa (t := 0) (N := 8) 224 (0 + 16) (0 + 332) d_MO_init_126 rfl (by decide) am_acI hg sh_223 (by decide) (by decide) (by decide) hC (by omega) (fun q hq => by simp only [List.mem_cons, List.not_mem_nil, or_false] at hq; rcases hq with rfl | rfl <;> dsimp only <;> omega) (am_I_0 sh_223 (by decide) (by decide +kernel)) (by omega) (by omega) (by omega) (by show _ ≤ 54; omega) (by show _ ≤ 47594; omega) (fun σ hC => ?_)
  refine cw_putR (b := 223) d_MO_init_128 fl_MO_56 ft_10_19 rfl rfl hg (by omega) sh_207 (by decide) rfl (Or.inr ⟨_, rfl⟩) (by omega) hC (by omega) (fun q hq => by simp only [List.mem_cons, List.not_mem_nil, or_false] at hq; rcases hq with rfl <;> dsimp only <;> omega) (fun σ hC => ?_)
  refine am_aload_n (j := 0) d_MO_init_131 rfl rfl ?_
  refine am_bipush (v := (8 : Int32)) d_MO_init_132 (by decide) ?_
  refine cw_newa (t := 0) (N := 8) 225 (0 + 17) (0 + 340) d_MO_init_134 rfl (by decide) am_acI hg sh_224 (by decide) (by decide) (by decide) hC (by omega) (fun q hq => by simp only [List.mem_cons, List.not_mem_nil, or_false] at hq; rcases hq with rfl | rfl <;> dsimp only <;> omega) (am_I_0 sh_224 (by decide) (by decide +kernel)) (by omega) (by omega) (by omega) (by show _ ≤ 54; omega) (by show _ ≤ 47594; omega) (fun σ hC => ?_)
  refine cw_putR (b := 224) d_MO_init_136 fl_MO_59 ft_10_20 rfl rfl hg (by omega) sh_207 (by decide) rfl (Or.inr ⟨_, rfl⟩) (by omega) hC (by omega) (fun q hq => by simp only [List.mem_cons, List.not_mem_nil, or_false] at hq; rcases hq with rfl <;> dsimp only <;> omega) (fun σ hC => ?_)
  refine am_aload_n (j := 0) d_MO_init_139 rfl rfl ?_
  refine am_bipush (v := (8 : Int32)) d_MO_init_140 (by decide) ?_
  refine cw_newa (t := 0) (N := 8) 226 (0 + 18) (0 + 348) d_MO_init_142 rfl (by decide) am_acI hg sh_225 (by decide) (by decide) (by decide) hC (by omega) (fun q hq => by simp only [List.mem_cons, List.not_mem_nil, or_false] at hq; rcases hq with rfl | rfl <;> dsimp only <;> omega) (am_I_0 sh_225 (by decide) (by decide +kernel)) (by omega) (by omega) (by omega) (by show _ ≤ 54; omega) (by show _ ≤ 47594; omega) (fun σ hC => ?_)
  refine cw_putR (b := 225) d_MO_init_144 fl_MO_62 ft_10_21 rfl rfl hg (by omega) sh_207 (by decide) rfl (Or.inr ⟨_, rfl⟩) (by omega) hC (by omega) (fun q hq => by simp only [List.mem_cons, List.not_mem_nil, or_false] at hq; rcases hq with rfl <;> dsimp only <;> omega) (fun σ hC => ?_)
  refine am_aload_n (j := 0) d_MO_init_147 rfl rfl ?_
  refine am_bipush (v := (8 : Int32)) d_MO_init_148 (by decide) ?_
  refine cw_newa (t := 0) (N := 8) 227 (0 + 19) (0 + 356) d_MO_init_150 rfl (by decide) am_acI hg sh_226 (by decide) (by decide) (by decide) hC (by omega) (fun q hq => by simp only [List.mem_cons, List.not_mem_nil, or_false] at hq; rcases hq with rfl | rfl <;> dsimp only <;> omega) (am_I_0 sh_226 (by decide) (by decide +kernel)) (by omega) (by omega) (by omega) (by show _ ≤ 54; omega) (by show _ ≤ 47594; omega) (fun σ hC => ?_)
  refine cw_putR (b := 226) d_MO_init_152 fl_MO_65 ft_10_22 rfl rfl hg (by omega) sh_207 (by decide) rfl (Or.inr ⟨_, rfl⟩) (by omega) hC (by omega) (fun q hq => by simp only [List.mem_cons, List.not_mem_nil, or_false] at hq; rcases hq with rfl <;> dsimp only <;> omega) (fun σ hC => ?_)
  refine am_aload_n (j := 0) d_MO_init_155 rfl rfl ?_
  refine am_bipush (v := (8 : Int32)) d_MO_init_156 (by decide) ?_
  refine cw_newa (t := 1) (N := 8) 228 (0 + 20) (0 + 364) d_MO_init_158 rfl (by decide) am_acZ hg sh_227 (by decide) (by decide) (by decide) hC (by omega) (fun q hq => by simp only [List.mem_cons, List.not_mem_nil, or_false] at hq; rcases hq with rfl | rfl <;> dsimp only <;> omega) (am_I_0 sh_227 (by decide) (by decide +kernel)) (by omega) (by omega) (by omega) (by show _ ≤ 54; omega) (by show _ ≤ 47594; omega) (fun σ hC => ?_)
  refine cw_putR (b := 227) d_MO_init_160 fl_MO_68 ft_10_23 rfl rfl hg (by omega) sh_207 (by decide) rfl (Or.inr ⟨_, rfl⟩) (by omega) hC (by omega) (fun q hq => by simp only [List.mem_cons, List.not_mem_nil, or_false] at hq; rcases hq with rfl <;> dsimp only <;> omega) (fun σ hC => ?_)
  refine am_aload_n (j := 0) d_MO_init_163 rfl rfl ?_
  refine am_iconst (v := (4 : Int32)) d_MO_init_164 (by decide) ?_
  refine cw_newa (t := 0) (N := 4) 229 (0 + 21) (0 + 368) d_MO_init_165 rfl (by decide) am_acI hg sh_228 (by decide) (by decide) (by decide) hC (by omega) (fun q hq => by simp only [List.mem_cons, List.not_mem_nil, or_false] at hq; rcases hq with rfl | rfl <;> dsimp only <;> omega) (am_I_0 sh_228 (by decide) (by decide +kernel)) (by omega) (by omega) (by omega) (by show _ ≤ 54; omega) (by show _ ≤ 47594; omega) (fun σ hC => ?_)
  refine cw_putR (b := 228) d_MO_init_167 fl_MO_71 ft_10_24 rfl rfl hg (by omega) sh_207 (by decide) rfl (Or.inr ⟨_, rfl⟩) (by omega) hC (by omega) (fun q hq => by simp only [List.mem_cons, List.not_mem_nil, or_false] at hq; rcases hq with rfl <;> dsimp only <;> omega) (fun σ hC => ?_)
  refine am_aload_n (j := 0) d_MO_init_170 rfl rfl ?_
  refine am_bipush (v := (120 : Int32)) d_MO_init_171 (by decide) ?_
  refine cw_newa (t := 1) (N := 120) 230 (0 + 22) (0 + 488) d_MO_init_173 rfl (by decide) am_acZ hg sh_229 (by decide) (by decide) (by decide) hC (by omega) (fun q hq => by simp only [List.mem_cons, List.not_mem_nil, or_false] at hq; rcases hq with rfl | rfl <;> dsimp only <;> omega) (am_I_0 sh_229 (by decide) (by decide +kernel)) (by omega) (by omega) (by omega) (by show _ ≤ 54; omega) (by show _ ≤ 47594; omega) (fun σ hC => ?_)
  refine cw_putR (b := 229) d_MO_init_175 fl_MO_74 ft_10_25 rfl rfl hg (by omega) sh_207 (by decide) rfl (Or.inr ⟨_, rfl⟩) (by omega) hC (by omega) (fun q hq => by simp only [List.mem_cons, List.not_mem_nil, or_false] at hq; rcases hq with rfl <;> dsimp only <;> omega) (fun σ hC => ?_)
  refine am_aload_n (j := 0) d_MO_init_178 rfl rfl ?_
  refine am_sipush (v := (720 : Int32)) d_MO_init_179 (by decide) ?_
  refine cw_newa (t := 0) (N := 720) 231 (0 + 23) (0 + 1208) d_MO_init_182 rfl (by decide) am_acI hg sh_230 (by decide) (by decide) (by decide) hC (by omega) (fun q hq => by simp only [List.mem_cons, List.not_mem_nil, or_false] at hq; rcases hq with rfl | rfl <;> dsimp only <;> omega) (am_I_0 sh_230 (by decide) (by decide +kernel)) (by omega) (by omega) (by omega) (by show _ ≤ 54; omega) (by show _ ≤ 47594; omega) (fun σ hC => ?_)
  refine cw_putR (b := 230) d_MO_init_184 fl_MO_77 ft_10_26 rfl rfl hg (by omega) sh_207 (by decide) rfl (Or.inr ⟨_, rfl⟩) (by omega) hC (by omega) (fun q hq => by simp only [List.mem_cons, List.not_mem_nil, or_false] at hq; rcases hq with rfl <;> dsimp only <;> omega) (fun σ hC => ?_)
  refine am_aload_n (j := 0) d_MO_init_187 rfl rfl ?_
  refine am_bipush (v := (6 : Int32)) d_MO_init_188 (by decide) ?_
  refine cw_newaO (t := 0) (N := 6) 232 (0 + 24) (0 + 1214) d_MO_init_190 rfl (by decide) am_acI hg sh_231 (by decide) (by decide) (by decide) hC (by omega) (fun q hq => by simp only [List.mem_cons, List.not_mem_nil, or_false] at hq; rcases hq with rfl | rfl <;> dsimp only <;> omega) (by omega) (by omega) (by omega) (by show _ ≤ 54; omega) (by show _ ≤ 47594; omega) (fun σ hC => ?_)
  have hC := Co_swap hC
  refine cw_putR (b := 231) d_MO_init_192 fl_MO_80 ft_10_27 rfl rfl hg (by omega) sh_207 (by decide) rfl (Or.inr ⟨_, rfl⟩) (by omega) hC (by omega) (fun q hq => by simp only [List.mem_cons, List.not_mem_nil, or_false] at hq; rcases hq with rfl | rfl <;> dsimp only <;> omega) (fun σ hC => ?_)
  refine am_aload_n (j := 0) d_MO_init_195 rfl rfl ?_
  refine am_iconst (v := (-1 : Int32)) d_MO_init_196 (by decide) ?_
  refine cw_putI d_MO_init_197 fl_MO_83 ft_10_28 (by omega) sh_207 (by decide) rfl hC (by omega) (fun q hq => by simp only [List.mem_cons, List.not_mem_nil, or_false] at hq; rcases hq with rfl | rfl <;> dsimp only <;> omega) (fun σ hC => ?_)
  refine am_aload_n (j := 0) d_MO_init_200 rfl rfl ?_
  refine am_bipush (v := (120 : Int32)) d_MO_init_201 (by decide) ?_
  refine cw_newa (t := 1) (N := 120) 233 (0 + 25) (0 + 1334) d_MO_init_203 rfl (by decide) am_acZ hg sh_232 (by decide) (by decide) (by decide) hC (by omega) (fun q hq => by simp only [List.mem_cons, List.not_mem_nil, or_false] at hq; rcases hq with rfl | rfl | rfl <;> dsimp only <;> omega) (am_I_0 sh_232 (by decide) (by decide +kernel)) (by omega) (by omega) (by omega) (by show _ ≤ 54; omega) (by show _ ≤ 47594; omega) (fun σ hC => ?_)
  refine cw_putR (b := 232) d_MO_init_205 fl_MO_87 ft_10_30 rfl rfl hg (by omega) sh_207 (by decide) rfl (Or.inr ⟨_, rfl⟩) (by omega) hC (by omega) (fun q hq => by simp only [List.mem_cons, List.not_mem_nil, or_false] at hq; rcases hq with rfl | rfl <;> dsimp only <;> omega) (fun σ hC => ?_)
  refine am_aload_n (j := 0) d_MO_init_208 rfl rfl ?_
  refine am_iconst (v := (-1 : Int32)) d_MO_init_209 (by decide) ?_
  refine cw_putI d_MO_init_210 fl_MO_90 ft_10_32 (by omega) sh_207 (by decide) rfl hC (by omega) (fun q hq => by simp only [List.mem_cons, List.not_mem_nil, or_false] at hq; rcases hq with rfl | rfl <;> dsimp only <;> omega) (fun σ hC => ?_)
  refine am_aload_n (j := 0) d_MO_init_213 rfl rfl ?_
  refine am_iconst (v := (-1 : Int32)) d_MO_init_214 (by decide) ?_
  refine cw_putI d_MO_init_215 fl_MO_93 ft_10_33 (by omega) sh_207 (by decide) rfl hC (by omega) (fun q hq => by simp only [List.mem_cons, List.not_mem_nil, or_false] at hq; rcases hq with rfl | rfl <;> dsimp only <;> omega) (fun σ hC => ?_)
  refine am_aload_n (j := 0) d_MO_init_218 rfl rfl ?_
  refine am_iconst (v := (-1 : Int32)) d_MO_init_219 (by decide) ?_
  refine cw_putI d_MO_init_220 fl_MO_96 ft_10_34 (by omega) sh_207 (by decide) rfl hC (by omega) (fun q hq => by simp only [List.mem_cons, List.not_mem_nil, or_false] at hq; rcases hq with rfl | rfl <;> dsimp only <;> omega) (fun σ hC => ?_)
  refine am_aload_n (j := 0) d_MO_init_223 rfl rfl ?_
  refine am_sipush (v := (5040 : Int32)) d_MO_init_224 (by decide) ?_
  refine cw_newa (t := 0) (N := 5040) 234 (0 + 26) (0 + 6374) d_MO_init_227 rfl (by decide) am_acI hg sh_233 (by decide) (by decide) (by decide) hC (by omega) (fun q hq => by simp only [List.mem_cons, List.not_mem_nil, or_false] at hq; rcases hq with rfl | rfl | rfl <;> dsimp only <;> omega) (am_I_0 sh_233 (by decide) (by decide +kernel)) (by omega) (by omega) (by omega) (by show _ ≤ 54; omega) (by show _ ≤ 47594; omega) (fun σ hC => ?_)
  refine cw_putR (b := 233) d_MO_init_229 fl_MO_99 ft_10_35 rfl rfl hg (by omega) sh_207 (by decide) rfl (Or.inr ⟨_, rfl⟩) (by omega) hC (by omega) (fun q hq => by simp only [List.mem_cons, List.not_mem_nil, or_false] at hq; rcases hq with rfl | rfl <;> dsimp only <;> omega) (fun σ hC => ?_)
  refine am_aload_n (j := 0) d_MO_init_232 rfl rfl ?_
  refine am_sipush (v := (840 : Int32)) d_MO_init_233 (by decide) ?_
  refine cw_newa (t := 1) (N := 840) 235 (0 + 27) (0 + 7214) d_MO_init_236 rfl (by decide) am_acZ hg sh_234 (by decide) (by decide) (by decide) hC (by omega) (fun q hq => by simp only [List.mem_cons, List.not_mem_nil, or_false] at hq; rcases hq with rfl | rfl | rfl <;> dsimp only <;> omega) (am_I_0 sh_234 (by decide) (by decide +kernel)) (by omega) (by omega) (by omega) (by show _ ≤ 54; omega) (by show _ ≤ 47594; omega) (fun σ hC => ?_)
  refine cw_putR (b := 234) d_MO_init_238 fl_MO_102 ft_10_36 rfl rfl hg (by omega) sh_207 (by decide) rfl (Or.inr ⟨_, rfl⟩) (by omega) hC (by omega) (fun q hq => by simp only [List.mem_cons, List.not_mem_nil, or_false] at hq; rcases hq with rfl | rfl <;> dsimp only <;> omega) (fun σ hC => ?_)
  refine am_aload_n (j := 0) d_MO_init_241 rfl rfl ?_
  refine am_bipush (v := (28 : Int32)) d_MO_init_242 (by decide) ?_
  refine cw_newa (t := 0) (N := 28) 236 (0 + 28) (0 + 7242) d_MO_init_244 rfl (by decide) am_acI hg sh_235 (by decide) (by decide) (by decide) hC (by omega) (fun q hq => by simp only [List.mem_cons, List.not_mem_nil, or_false] at hq; rcases hq with rfl | rfl | rfl <;> dsimp only <;> omega) (am_I_0 sh_235 (by decide) (by decide +kernel)) (by omega) (by omega) (by omega) (by show _ ≤ 54; omega) (by show _ ≤ 47594; omega) (fun σ hC => ?_)
  refine cw_putR (b := 235) d_MO_init_246 fl_MO_105 ft_10_37 rfl rfl hg (by omega) sh_207 (by decide) rfl (Or.inr ⟨_, rfl⟩) (by omega) hC (by omega) (fun q hq => by simp only [List.mem_cons, List.not_mem_nil, or_false] at hq; rcases hq with rfl | rfl <;> dsimp only <;> omega) (fun σ hC => ?_)
  refine am_aload_n (j := 0) d_MO_init_249 rfl rfl ?_
  refine am_bipush (v := (8 : Int32)) d_MO_init_250 (by decide) ?_
  refine cw_newa (t := 0) (N := 8) 237 (0 + 29) (0 + 7250) d_MO_init_252 rfl (by decide) am_acI hg sh_236 (by decide) (by decide) (by decide) hC (by omega) (fun q hq => by simp only [List.mem_cons, List.not_mem_nil, or_false] at hq; rcases hq with rfl | rfl | rfl <;> dsimp only <;> omega) (am_I_0 sh_236 (by decide) (by decide +kernel)) (by omega) (by omega) (by omega) (by show _ ≤ 54; omega) (by show _ ≤ 47594; omega) (fun σ hC => ?_)
  refine cw_putR (b := 236) d_MO_init_254 fl_MO_108 ft_10_40 rfl rfl hg (by omega) sh_207 (by decide) rfl (Or.inr ⟨_, rfl⟩) (by omega) hC (by omega) (fun q hq => by simp only [List.mem_cons, List.not_mem_nil, or_false] at hq; rcases hq with rfl | rfl <;> dsimp only <;> omega) (fun σ hC => ?_)
  refine am_aload_n (j := 0) d_MO_init_257 rfl rfl ?_
  refine am_bipush (v := (8 : Int32)) d_MO_init_258 (by decide) ?_
  refine cw_newa (t := 0) (N := 8) 238 (0 + 30) (0 + 7258) d_MO_init_260 rfl (by decide) am_acI hg sh_237 (by decide) (by decide) (by decide) hC (by omega) (fun q hq => by simp only [List.mem_cons, List.not_mem_nil, or_false] at hq; rcases hq with rfl | rfl | rfl <;> dsimp only <;> omega) (am_I_0 sh_237 (by decide) (by decide +kernel)) (by omega) (by omega) (by omega) (by show _ ≤ 54; omega) (by show _ ≤ 47594; omega) (fun σ hC => ?_)
  refine cw_putR (b := 237) d_MO_init_262 fl_MO_111 ft_10_41 rfl rfl hg (by omega) sh_207 (by decide) rfl (Or.inr ⟨_, rfl⟩) (by omega) hC (by omega) (fun q hq => by simp only [List.mem_cons, List.not_mem_nil, or_false] at hq; rcases hq with rfl | rfl <;> dsimp only <;> omega) (fun σ hC => ?_)
  refine am_aload_n (j := 0) d_MO_init_265 rfl rfl ?_
  refine am_bipush (v := (8 : Int32)) d_MO_init_266 (by decide) ?_
  refine cw_newa (t := 0) (N := 8) 239 (0 + 31) (0 + 7266) d_MO_init_268 rfl (by decide) am_acI hg sh_238 (by decide) (by decide) (by decide) hC (by omega) (fun q hq => by simp only [List.mem_cons, List.not_mem_nil, or_false] at hq; rcases hq with rfl | rfl | rfl <;> dsimp only <;> omega) (am_I_0 sh_238 (by decide) (by decide +kernel)) (by omega) (by omega) (by omega) (by show _ ≤ 54; omega) (by show _ ≤ 47594; omega) (fun σ hC => ?_)
  refine cw_putR (b := 238) d_MO_init_270 fl_MO_114 ft_10_42 rfl rfl hg (by omega) sh_207 (by decide) rfl (Or.inr ⟨_, rfl⟩) (by omega) hC (by omega) (fun q hq => by simp only [List.mem_cons, List.not_mem_nil, or_false] at hq; rcases hq with rfl | rfl <;> dsimp only <;> omega) (fun σ hC => ?_)
  refine am_aload_n (j := 0) d_MO_init_273 rfl rfl ?_
  refine am_bipush (v := (8 : Int32)) d_MO_init_274 (by decide) ?_
  refine cw_newa (t := 0) (N := 8) 240 (0 + 32) (0 + 7274) d_MO_init_276 rfl (by decide) am_acI hg sh_239 (by decide) (by decide) (by decide) hC (by omega) (fun q hq => by simp only [List.mem_cons, List.not_mem_nil, or_false] at hq; rcases hq with rfl | rfl | rfl <;> dsimp only <;> omega) (am_I_0 sh_239 (by decide) (by decide +kernel)) (by omega) (by omega) (by omega) (by show _ ≤ 54; omega) (by show _ ≤ 47594; omega) (fun σ hC => ?_)
  refine cw_putR (b := 239) d_MO_init_278 fl_MO_117 ft_10_43 rfl rfl hg (by omega) sh_207 (by decide) rfl (Or.inr ⟨_, rfl⟩) (by omega) hC (by omega) (fun q hq => by simp only [List.mem_cons, List.not_mem_nil, or_false] at hq; rcases hq with rfl | rfl <;> dsimp only <;> omega) (fun σ hC => ?_)
  refine am_aload_n (j := 0) d_MO_init_281 rfl rfl ?_
  refine am_bipush (v := (8 : Int32)) d_MO_init_282 (by decide) ?_
  refine cw_newa (t := 0) (N := 8) 241 (0 + 33) (0 + 7282) d_MO_init_284 rfl (by decide) am_acI hg sh_240 (by decide) (by decide) (by decide) hC (by omega) (fun q hq => by simp only [List.mem_cons, List.not_mem_nil, or_false] at hq; rcases hq with rfl | rfl | rfl <;> dsimp only <;> omega) (am_I_0 sh_240 (by decide) (by decide +kernel)) (by omega) (by omega) (by omega) (by show _ ≤ 54; omega) (by show _ ≤ 47594; omega) (fun σ hC => ?_)
  refine cw_putR (b := 240) d_MO_init_286 fl_MO_120 ft_10_44 rfl rfl hg (by omega) sh_207 (by decide) rfl (Or.inr ⟨_, rfl⟩) (by omega) hC (by omega) (fun q hq => by simp only [List.mem_cons, List.not_mem_nil, or_false] at hq; rcases hq with rfl | rfl <;> dsimp only <;> omega) (fun σ hC => ?_)
  refine am_aload_n (j := 0) d_MO_init_289 rfl rfl ?_
  refine am_bipush (v := (8 : Int32)) d_MO_init_290 (by decide) ?_
  refine cw_newa (t := 0) (N := 8) 242 (0 + 34) (0 + 7290) d_MO_init_292 rfl (by decide) am_acI hg sh_241 (by decide) (by decide) (by decide) hC (by omega) (fun q hq => by simp only [List.mem_cons, List.not_mem_nil, or_false] at hq; rcases hq with rfl | rfl | rfl <;> dsimp only <;> omega) (am_I_0 sh_241 (by decide) (by decide +kernel)) (by omega) (by omega) (by omega) (by show _ ≤ 54; omega) (by show _ ≤ 47594; omega) (fun σ hC => ?_)
  refine cw_putR (b := 241) d_MO_init_294 fl_MO_123 ft_10_45 rfl rfl hg (by omega) sh_207 (by decide) rfl (Or.inr ⟨_, rfl⟩) (by omega) hC (by omega) (fun q hq => by simp only [List.mem_cons, List.not_mem_nil, or_false] at hq; rcases hq with rfl | rfl <;> dsimp only <;> omega) (fun σ hC => ?_)
  refine am_aload_n (j := 0) d_MO_init_297 rfl rfl ?_
  refine am_bipush (v := (8 : Int32)) d_MO_init_298 (by decide) ?_
  refine cw_newa (t := 0) (N := 8) 243 (0 + 35) (0 + 7298) d_MO_init_300 rfl (by decide) am_acI hg sh_242 (by decide) (by decide) (by decide) hC (by omega) (fun q hq => by simp only [List.mem_cons, List.not_mem_nil, or_false] at hq; rcases hq with rfl | rfl | rfl <;> dsimp only <;> omega) (am_I_0 sh_242 (by decide) (by decide +kernel)) (by omega) (by omega) (by omega) (by show _ ≤ 54; omega) (by show _ ≤ 47594; omega) (fun σ hC => ?_)
  refine cw_putR (b := 242) d_MO_init_302 fl_MO_126 ft_10_46 rfl rfl hg (by omega) sh_207 (by decide) rfl (Or.inr ⟨_, rfl⟩) (by omega) hC (by omega) (fun q hq => by simp only [List.mem_cons, List.not_mem_nil, or_false] at hq; rcases hq with rfl | rfl <;> dsimp only <;> omega) (fun σ hC => ?_)
  refine am_aload_n (j := 0) d_MO_init_305 rfl rfl ?_
  refine am_bipush (v := (8 : Int32)) d_MO_init_306 (by decide) ?_
  refine cw_newa (t := 0) (N := 8) 244 (0 + 36) (0 + 7306) d_MO_init_308 rfl (by decide) am_acI hg sh_243 (by decide) (by decide) (by decide) hC (by omega) (fun q hq => by simp only [List.mem_cons, List.not_mem_nil, or_false] at hq; rcases hq with rfl | rfl | rfl <;> dsimp only <;> omega) (am_I_0 sh_243 (by decide) (by decide +kernel)) (by omega) (by omega) (by omega) (by show _ ≤ 54; omega) (by show _ ≤ 47594; omega) (fun σ hC => ?_)
  refine cw_putR (b := 243) d_MO_init_310 fl_MO_129 ft_10_47 rfl rfl hg (by omega) sh_207 (by decide) rfl (Or.inr ⟨_, rfl⟩) (by omega) hC (by omega) (fun q hq => by simp only [List.mem_cons, List.not_mem_nil, or_false] at hq; rcases hq with rfl | rfl <;> dsimp only <;> omega) (fun σ hC => ?_)
  refine am_aload_n (j := 0) d_MO_init_313 rfl rfl ?_
  refine am_bipush (v := (48 : Int32)) d_MO_init_314 (by decide) ?_
  refine cw_newa (t := 0) (N := 48) 245 (0 + 37) (0 + 7354) d_MO_init_316 rfl (by decide) am_acI hg sh_244 (by decide) (by decide) (by decide) hC (by omega) (fun q hq => by simp only [List.mem_cons, List.not_mem_nil, or_false] at hq; rcases hq with rfl | rfl | rfl <;> dsimp only <;> omega) (am_I_0 sh_244 (by decide) (by decide +kernel)) (by omega) (by omega) (by omega) (by show _ ≤ 54; omega) (by show _ ≤ 47594; omega) (fun σ hC => ?_)
  refine cw_putR (b := 244) d_MO_init_318 fl_MO_132 ft_10_48 rfl rfl hg (by omega) sh_207 (by decide) rfl (Or.inr ⟨_, rfl⟩) (by omega) hC (by omega) (fun q hq => by simp only [List.mem_cons, List.not_mem_nil, or_false] at hq; rcases hq with rfl | rfl <;> dsimp only <;> omega) (fun σ hC => ?_)
  refine am_aload_n (j := 0) d_MO_init_321 rfl rfl ?_
  refine am_bipush (v := (48 : Int32)) d_MO_init_322 (by decide) ?_
  refine cw_newa (t := 0) (N := 48) 246 (0 + 38) (0 + 7402) d_MO_init_324 rfl (by decide) am_acI hg sh_245 (by decide) (by decide) (by decide) hC (by omega) (fun q hq => by simp only [List.mem_cons, List.not_mem_nil, or_false] at hq; rcases hq with rfl | rfl | rfl <;> dsimp only <;> omega) (am_I_0 sh_245 (by decide) (by decide +kernel)) (by omega) (by omega) (by omega) (by show _ ≤ 54; omega) (by show _ ≤ 47594; omega) (fun σ hC => ?_)
  refine cw_putR (b := 245) d_MO_init_326 fl_MO_135 ft_10_49 rfl rfl hg (by omega) sh_207 (by decide) rfl (Or.inr ⟨_, rfl⟩) (by omega) hC (by omega) (fun q hq => by simp only [List.mem_cons, List.not_mem_nil, or_false] at hq; rcases hq with rfl | rfl <;> dsimp only <;> omega) (fun σ hC => ?_)
  refine am_aload_n (j := 0) d_MO_init_329 rfl rfl ?_
  refine am_bipush (v := (48 : Int32)) d_MO_init_330 (by decide) ?_
  refine cw_newa (t := 0) (N := 48) 247 (0 + 39) (0 + 7450) d_MO_init_332 rfl (by decide) am_acI hg sh_246 (by decide) (by decide) (by decide) hC (by omega) (fun q hq => by simp only [List.mem_cons, List.not_mem_nil, or_false] at hq; rcases hq with rfl | rfl | rfl <;> dsimp only <;> omega) (am_I_0 sh_246 (by decide) (by decide +kernel)) (by omega) (by omega) (by omega) (by show _ ≤ 54; omega) (by show _ ≤ 47594; omega) (fun σ hC => ?_)
  refine cw_putR (b := 246) d_MO_init_334 fl_MO_138 ft_10_50 rfl rfl hg (by omega) sh_207 (by decide) rfl (Or.inr ⟨_, rfl⟩) (by omega) hC (by omega) (fun q hq => by simp only [List.mem_cons, List.not_mem_nil, or_false] at hq; rcases hq with rfl | rfl <;> dsimp only <;> omega) (fun σ hC => ?_)
  refine am_aload_n (j := 0) d_MO_init_337 rfl rfl ?_
  refine am_bipush (v := (48 : Int32)) d_MO_init_338 (by decide) ?_
  refine cw_newa (t := 0) (N := 48) 248 (0 + 40) (0 + 7498) d_MO_init_340 rfl (by decide) am_acI hg sh_247 (by decide) (by decide) (by decide) hC (by omega) (fun q hq => by simp only [List.mem_cons, List.not_mem_nil, or_false] at hq; rcases hq with rfl | rfl | rfl <;> dsimp only <;> omega) (am_I_0 sh_247 (by decide) (by decide +kernel)) (by omega) (by omega) (by omega) (by show _ ≤ 54; omega) (by show _ ≤ 47594; omega) (fun σ hC => ?_)
  refine cw_putR (b := 247) d_MO_init_342 fl_MO_141 ft_10_51 rfl rfl hg (by omega) sh_207 (by decide) rfl (Or.inr ⟨_, rfl⟩) (by omega) hC (by omega) (fun q hq => by simp only [List.mem_cons, List.not_mem_nil, or_false] at hq; rcases hq with rfl | rfl <;> dsimp only <;> omega) (fun σ hC => ?_)
  refine am_aload_n (j := 0) d_MO_init_345 rfl rfl ?_
  refine am_bipush (v := (12 : Int32)) d_MO_init_346 (by decide) ?_
  refine cw_newa (t := 0) (N := 12) 249 (0 + 41) (0 + 7510) d_MO_init_348 rfl (by decide) am_acI hg sh_248 (by decide) (by decide) (by decide) hC (by omega) (fun q hq => by simp only [List.mem_cons, List.not_mem_nil, or_false] at hq; rcases hq with rfl | rfl | rfl <;> dsimp only <;> omega) (am_I_0 sh_248 (by decide) (by decide +kernel)) (by omega) (by omega) (by omega) (by show _ ≤ 54; omega) (by show _ ≤ 47594; omega) (fun σ hC => ?_)
  refine cw_putR (b := 248) d_MO_init_350 fl_MO_144 ft_10_52 rfl rfl hg (by omega) sh_207 (by decide) rfl (Or.inr ⟨_, rfl⟩) (by omega) hC (by omega) (fun q hq => by simp only [List.mem_cons, List.not_mem_nil, or_false] at hq; rcases hq with rfl | rfl <;> dsimp only <;> omega) (fun σ hC => ?_)
  refine am_aload_n (j := 0) d_MO_init_353 rfl rfl ?_
  refine am_bipush (v := (12 : Int32)) d_MO_init_354 (by decide) ?_
  refine cw_newa (t := 0) (N := 12) 250 (0 + 42) (0 + 7522) d_MO_init_356 rfl (by decide) am_acI hg sh_249 (by decide) (by decide) (by decide) hC (by omega) (fun q hq => by simp only [List.mem_cons, List.not_mem_nil, or_false] at hq; rcases hq with rfl | rfl | rfl <;> dsimp only <;> omega) (am_I_0 sh_249 (by decide) (by decide +kernel)) (by omega) (by omega) (by omega) (by show _ ≤ 54; omega) (by show _ ≤ 47594; omega) (fun σ hC => ?_)
  refine cw_putR (b := 249) d_MO_init_358 fl_MO_147 ft_10_53 rfl rfl hg (by omega) sh_207 (by decide) rfl (Or.inr ⟨_, rfl⟩) (by omega) hC (by omega) (fun q hq => by simp only [List.mem_cons, List.not_mem_nil, or_false] at hq; rcases hq with rfl | rfl <;> dsimp only <;> omega) (fun σ hC => ?_)
  refine am_aload_n (j := 0) d_MO_init_361 rfl rfl ?_
  refine am_sipush (v := (19440 : Int32)) d_MO_init_362 (by decide) ?_
  refine cw_newa (t := 0) (N := 19440) 251 (0 + 43) (0 + 26962) d_MO_init_365 rfl (by decide) am_acI hg sh_250 (by decide) (by decide) (by decide) hC (by omega) (fun q hq => by simp only [List.mem_cons, List.not_mem_nil, or_false] at hq; rcases hq with rfl | rfl | rfl <;> dsimp only <;> omega) (am_I_0 sh_250 (by decide) (by decide +kernel)) (by omega) (by omega) (by omega) (by show _ ≤ 54; omega) (by show _ ≤ 47594; omega) (fun σ hC => ?_)
  refine cw_putR (b := 250) d_MO_init_367 fl_MO_150 ft_10_54 rfl rfl hg (by omega) sh_207 (by decide) rfl (Or.inr ⟨_, rfl⟩) (by omega) hC (by omega) (fun q hq => by simp only [List.mem_cons, List.not_mem_nil, or_false] at hq; rcases hq with rfl | rfl <;> dsimp only <;> omega) (fun σ hC => ?_)
  refine am_aload_n (j := 0) d_MO_init_370 rfl rfl ?_
  refine am_sipush (v := (19440 : Int32)) d_MO_init_371 (by decide) ?_
  refine cw_newa (t := 0) (N := 19440) 252 (0 + 44) (0 + 46402) d_MO_init_374 rfl (by decide) am_acI hg sh_251 (by decide) (by decide) (by decide) hC (by omega) (fun q hq => by simp only [List.mem_cons, List.not_mem_nil, or_false] at hq; rcases hq with rfl | rfl | rfl <;> dsimp only <;> omega) (am_I_0 sh_251 (by decide) (by decide +kernel)) (by omega) (by omega) (by omega) (by show _ ≤ 54; omega) (by show _ ≤ 47594; omega) (fun σ hC => ?_)
  refine cw_putR (b := 251) d_MO_init_376 fl_MO_153 ft_10_55 rfl rfl hg (by omega) sh_207 (by decide) rfl (Or.inr ⟨_, rfl⟩) (by omega) hC (by omega) (fun q hq => by simp only [List.mem_cons, List.not_mem_nil, or_false] at hq; rcases hq with rfl | rfl <;> dsimp only <;> omega) (fun σ hC => ?_)
  refine am_aload_n (j := 0) d_MO_init_379 rfl rfl ?_
  refine am_sipush (v := (648 : Int32)) d_MO_init_380 (by decide) ?_
  refine cw_newa (t := 0) (N := 648) 253 (0 + 45) (0 + 47050) d_MO_init_383 rfl (by decide) am_acI hg sh_252 (by decide) (by decide) (by decide) hC (by omega) (fun q hq => by simp only [List.mem_cons, List.not_mem_nil, or_false] at hq; rcases hq with rfl | rfl | rfl <;> dsimp only <;> omega) (am_I_0 sh_252 (by decide) (by decide +kernel)) (by omega) (by omega) (by omega) (by show _ ≤ 54; omega) (by show _ ≤ 47594; omega) (fun σ hC => ?_)
  refine cw_putR (b := 252) d_MO_init_385 fl_MO_156 ft_10_56 rfl rfl hg (by omega) sh_207 (by decide) rfl (Or.inr ⟨_, rfl⟩) (by omega) hC (by omega) (fun q hq => by simp only [List.mem_cons, List.not_mem_nil, or_false] at hq; rcases hq with rfl | rfl <;> dsimp only <;> omega) (fun σ hC => ?_)
  refine am_aload_n (j := 0) d_MO_init_388 rfl rfl ?_
  refine am_sipush (v := (240 : Int32)) d_MO_init_389 (by decide) ?_
  refine cw_newa (t := 0) (N := 240) 254 (0 + 46) (0 + 47290) d_MO_init_392 rfl (by decide) am_acI hg sh_253 (by decide) (by decide) (by decide) hC (by omega) (fun q hq => by simp only [List.mem_cons, List.not_mem_nil, or_false] at hq; rcases hq with rfl | rfl | rfl <;> dsimp only <;> omega) (am_I_0 sh_253 (by decide) (by decide +kernel)) (by omega) (by omega) (by omega) (by show _ ≤ 54; omega) (by show _ ≤ 47594; omega) (fun σ hC => ?_)
  refine cw_putR (b := 253) d_MO_init_394 fl_MO_159 ft_10_57 rfl rfl hg (by omega) sh_207 (by decide) rfl (Or.inr ⟨_, rfl⟩) (by omega) hC (by omega) (fun q hq => by simp only [List.mem_cons, List.not_mem_nil, or_false] at hq; rcases hq with rfl | rfl <;> dsimp only <;> omega) (fun σ hC => ?_)
  refine am_aload_n (j := 0) d_MO_init_397 rfl rfl ?_
  refine am_bipush (v := (30 : Int32)) d_MO_init_398 (by decide) ?_
  refine cw_newa (t := 0) (N := 30) 255 (0 + 47) (0 + 47320) d_MO_init_400 rfl (by decide) am_acI hg sh_254 (by decide) (by decide) (by decide) hC (by omega) (fun q hq => by simp only [List.mem_cons, List.not_mem_nil, or_false] at hq; rcases hq with rfl | rfl | rfl <;> dsimp only <;> omega) (am_I_0 sh_254 (by decide) (by decide +kernel)) (by omega) (by omega) (by omega) (by show _ ≤ 54; omega) (by show _ ≤ 47594; omega) (fun σ hC => ?_)
  refine cw_putR (b := 254) d_MO_init_402 fl_MO_162 ft_10_58 rfl rfl hg (by omega) sh_207 (by decide) rfl (Or.inr ⟨_, rfl⟩) (by omega) hC (by omega) (fun q hq => by simp only [List.mem_cons, List.not_mem_nil, or_false] at hq; rcases hq with rfl | rfl <;> dsimp only <;> omega) (fun σ hC => ?_)
  refine am_aload_n (j := 0) d_MO_init_405 rfl rfl ?_
  refine am_iconst (v := (4 : Int32)) d_MO_init_406 (by decide) ?_
  refine cw_newa (t := 0) (N := 4) 256 (0 + 48) (0 + 47324) d_MO_init_407 rfl (by decide) am_acI hg sh_255 (by decide) (by decide) (by decide) hC (by omega) (fun q hq => by simp only [List.mem_cons, List.not_mem_nil, or_false] at hq; rcases hq with rfl | rfl | rfl <;> dsimp only <;> omega) (am_I_0 sh_255 (by decide) (by decide +kernel)) (by omega) (by omega) (by omega) (by show _ ≤ 54; omega) (by show _ ≤ 47594; omega) (fun σ hC => ?_)
  refine cw_putR (b := 255) d_MO_init_409 fl_MO_165 ft_10_61 rfl rfl hg (by omega) sh_207 (by decide) rfl (Or.inr ⟨_, rfl⟩) (by omega) hC (by omega) (fun q hq => by simp only [List.mem_cons, List.not_mem_nil, or_false] at hq; rcases hq with rfl | rfl <;> dsimp only <;> omega) (fun σ hC => ?_)
  refine am_aload_n (j := 0) d_MO_init_412 rfl rfl ?_
  refine am_bipush (v := (24 : Int32)) d_MO_init_413 (by decide) ?_
  refine cw_newa (t := 0) (N := 24) 257 (0 + 49) (0 + 47348) d_MO_init_415 rfl (by decide) am_acI hg sh_256 (by decide) (by decide) (by decide) hC (by omega) (fun q hq => by simp only [List.mem_cons, List.not_mem_nil, or_false] at hq; rcases hq with rfl | rfl | rfl <;> dsimp only <;> omega) (am_I_0 sh_256 (by decide) (by decide +kernel)) (by omega) (by omega) (by omega) (by show _ ≤ 54; omega) (by show _ ≤ 47594; omega) (fun σ hC => ?_)
  refine cw_putR (b := 256) d_MO_init_417 fl_MO_168 ft_10_62 rfl rfl hg (by omega) sh_207 (by decide) rfl (Or.inr ⟨_, rfl⟩) (by omega) hC (by omega) (fun q hq => by simp only [List.mem_cons, List.not_mem_nil, or_false] at hq; rcases hq with rfl | rfl <;> dsimp only <;> omega) (fun σ hC => ?_)
  refine am_aload_n (j := 0) d_MO_init_420 rfl rfl ?_
  refine am_bipush (v := (24 : Int32)) d_MO_init_421 (by decide) ?_
  refine cw_newa (t := 0) (N := 24) 258 (0 + 50) (0 + 47372) d_MO_init_423 rfl (by decide) am_acI hg sh_257 (by decide) (by decide) (by decide) hC (by omega) (fun q hq => by simp only [List.mem_cons, List.not_mem_nil, or_false] at hq; rcases hq with rfl | rfl | rfl <;> dsimp only <;> omega) (am_I_0 sh_257 (by decide) (by decide +kernel)) (by omega) (by omega) (by omega) (by show _ ≤ 54; omega) (by show _ ≤ 47594; omega) (fun σ hC => ?_)
  refine cw_putR (b := 257) d_MO_init_425 fl_MO_171 ft_10_63 rfl rfl hg (by omega) sh_207 (by decide) rfl (Or.inr ⟨_, rfl⟩) (by omega) hC (by omega) (fun q hq => by simp only [List.mem_cons, List.not_mem_nil, or_false] at hq; rcases hq with rfl | rfl <;> dsimp only <;> omega) (fun σ hC => ?_)
  refine am_aload_n (j := 0) d_MO_init_428 rfl rfl ?_
  refine am_bipush (v := (24 : Int32)) d_MO_init_429 (by decide) ?_
  refine cw_newa (t := 0) (N := 24) 259 (0 + 51) (0 + 47396) d_MO_init_431 rfl (by decide) am_acI hg sh_258 (by decide) (by decide) (by decide) hC (by omega) (fun q hq => by simp only [List.mem_cons, List.not_mem_nil, or_false] at hq; rcases hq with rfl | rfl | rfl <;> dsimp only <;> omega) (am_I_0 sh_258 (by decide) (by decide +kernel)) (by omega) (by omega) (by omega) (by show _ ≤ 54; omega) (by show _ ≤ 47594; omega) (fun σ hC => ?_)
  refine cw_putR (b := 258) d_MO_init_433 fl_MO_174 ft_10_64 rfl rfl hg (by omega) sh_207 (by decide) rfl (Or.inr ⟨_, rfl⟩) (by omega) hC (by omega) (fun q hq => by simp only [List.mem_cons, List.not_mem_nil, or_false] at hq; rcases hq with rfl | rfl <;> dsimp only <;> omega) (fun σ hC => ?_)
  refine am_aload_n (j := 0) d_MO_init_436 rfl rfl ?_
  refine am_bipush (v := (24 : Int32)) d_MO_init_437 (by decide) ?_
  refine cw_newa (t := 0) (N := 24) 260 (0 + 52) (0 + 47420) d_MO_init_439 rfl (by decide) am_acI hg sh_259 (by decide) (by decide) (by decide) hC (by omega) (fun q hq => by simp only [List.mem_cons, List.not_mem_nil, or_false] at hq; rcases hq with rfl | rfl | rfl <;> dsimp only <;> omega) (am_I_0 sh_259 (by decide) (by decide +kernel)) (by omega) (by omega) (by omega) (by show _ ≤ 54; omega) (by show _ ≤ 47594; omega) (fun σ hC => ?_)
  refine cw_putR (b := 259) d_MO_init_441 fl_MO_177 ft_10_65 rfl rfl hg (by omega) sh_207 (by decide) rfl (Or.inr ⟨_, rfl⟩) (by omega) hC (by omega) (fun q hq => by simp only [List.mem_cons, List.not_mem_nil, or_false] at hq; rcases hq with rfl | rfl <;> dsimp only <;> omega) (fun σ hC => ?_)
  refine am_aload_n (j := 0) d_MO_init_444 rfl rfl ?_
  refine am_sipush (v := (144 : Int32)) d_MO_init_445 (by decide) ?_
  refine cw_newa (t := 0) (N := 144) 261 (0 + 53) (0 + 47564) d_MO_init_448 rfl (by decide) am_acI hg sh_260 (by decide) (by decide) (by decide) hC (by omega) (fun q hq => by simp only [List.mem_cons, List.not_mem_nil, or_false] at hq; rcases hq with rfl | rfl | rfl <;> dsimp only <;> omega) (am_I_0 sh_260 (by decide) (by decide +kernel)) (by omega) (by omega) (by omega) (by show _ ≤ 54; omega) (by show _ ≤ 47594; omega) (fun σ hC => ?_)
  refine cw_putR (b := 260) d_MO_init_450 fl_MO_180 ft_10_66 rfl rfl hg (by omega) sh_207 (by decide) rfl (Or.inr ⟨_, rfl⟩) (by omega) hC (by omega) (fun q hq => by simp only [List.mem_cons, List.not_mem_nil, or_false] at hq; rcases hq with rfl | rfl <;> dsimp only <;> omega) (fun σ hC => ?_)
  refine am_aload_n (j := 0) d_MO_init_453 rfl rfl ?_
  refine am_bipush (v := (30 : Int32)) d_MO_init_454 (by decide) ?_
  refine cw_newa (t := 0) (N := 30) 262 (0 + 54) (0 + 47594) d_MO_init_456 rfl (by decide) am_acI hg sh_261 (by decide) (by decide) (by decide) hC (by omega) (fun q hq => by simp only [List.mem_cons, List.not_mem_nil, or_false] at hq; rcases hq with rfl | rfl | rfl <;> dsimp only <;> omega) (am_I_0 sh_261 (by decide) (by decide +kernel)) (by omega) (by omega) (by omega) (by show _ ≤ 54; omega) (by show _ ≤ 47594; omega) (fun σ hC => ?_)
  refine cw_putR (b := 261) d_MO_init_458 fl_MO_183 ft_10_67 rfl rfl hg (by omega) sh_207 (by decide) rfl (Or.inr ⟨_, rfl⟩) (by omega) hC (by omega) (fun q hq => by simp only [List.mem_cons, List.not_mem_nil, or_false] at hq; rcases hq with rfl | rfl <;> dsimp only <;> omega) (fun σ hC => ?_)
  refine am_iconst (v := (0 : Int32)) d_MO_init_461 (by decide) ?_
  refine am_istore_n (lv2 := [(1, .int (0 : Int32)), (0, .ref 207)]) d_MO_init_462 rfl (by decide) rfl ?_
  refine am_sub [1, 0] (lv2 := [(0, .ref 207), (1, .int (nI 0))]) rfl ?_
  have key : ∀ (m j : Nat), 6 - j < m → j ≤ 6 → ∀ σ : am_M, Co s σ 207 262 [(207, (upd (upd (upd (upd (upd (upd (upd (upd (upd (upd (upd (upd (upd (upd (upd (upd (upd (upd (upd (upd (upd (upd (upd (upd (upd (upd (upd (upd (upd (upd (upd (upd (upd (upd (upd (upd (upd (upd (upd (upd (upd (upd (upd (upd (upd (upd (upd (upd (upd (upd (upd (upd (upd (upd (upd (upd (upd (upd (am_z 10) 2 (nI 208)) 3 (nI 209)) 4 (nI 210)) 5 (nI 211)) 6 (nI 212)) 7 (nI 213)) 8 (nI 214)) 9 (nI 215)) 10 (nI 216)) 11 (nI 217)) 12 (nI 218)) 13 (nI 219)) 14 (nI 220)) 16 (nI 221)) 18 (nI 222)) 19 (nI 223)) 20 (nI 224)) 21 (nI 225)) 22 (nI 226)) 23 (nI 227)) 24 (nI 228)) 25 (nI 229)) 26 (nI 230)) 27 (nI 231)) 28 (-1 : Int32)) 30 (nI 232)) 32 (-1 : Int32)) 33 (-1 : Int32)) 34 (-1 : Int32)) 35 (nI 233)) 36 (nI 234)) 37 (nI 235)) 40 (nI 236)) 41 (nI 237)) 42 (nI 238)) 43 (nI 239)) 44 (nI 240)) 45 (nI 241)) 46 (nI 242)) 47 (nI 243)) 48 (nI 244)) 49 (nI 245)) 50 (nI 246)) 51 (nI 247)) 52 (nI 248)) 53 (nI 249)) 54 (nI 250)) 55 (nI 251)) 56 (nI 252)) 57 (nI 253)) 58 (nI 254)) 61 (nI 255)) 62 (nI 256)) 63 (nI 257)) 64 (nI 258)) 65 (nI 259)) 66 (nI 260)) 67 (nI 261))), (231, (fun k => if k < j then (-1000000) else (fun _ => 0 : Nat → Int32) k)), (209, (fun _ => 0))] → AW l g m_MO_init 208 ad0 (am_made 207 55 s) (0 + 54) (0 + 47594) 262 σ 463 [(0, .ref 207), (1, .int (nI j))] [] := by
    intro m
    induction m with
    | zero => intro j h; omega
    | succ m ih =>
      intro j h1 h2 σ hC
      refine am_iload_n (j := 1) d_MO_init_463 rfl rfl ?_
      refine am_bipush (v := (6 : Int32)) d_MO_init_464 (by decide) ?_
      refine am_icmp_ge (tgt := 483) d_MO_init_466 (by decide) (fun c => ?_) (fun c => ?_)
      · have e : j = 6 := by
          have := (nI_leI (a := 6) (b := j) (by omega) (by omega)).mp c
          omega
        subst e
        have hC := Co_swap hC
        have hC := Co_shut hC (am_I_s (M := 6) (v := -1000000) sh_231 (by decide) (by decide +kernel) : am_I 231 = _).symm
        refine am_iconst (v := (0 : Int32)) d_MO_init_483 (by decide) ?_
        refine am_istore_n (lv2 := [(1, .int (0 : Int32)), (0, .ref 207)]) d_MO_init_484 rfl (by decide) rfl ?_
        refine am_sub [1, 0] (lv2 := [(0, .ref 207), (1, .int (nI 0))]) rfl ?_
        have key : ∀ (m j : Nat), 24 - j < m → j ≤ 24 → ∀ σ : am_M, Co s σ 207 262 [(207, (upd (upd (upd (upd (upd (upd (upd (upd (upd (upd (upd (upd (upd (upd (upd (upd (upd (upd (upd (upd (upd (upd (upd (upd (upd (upd (upd (upd (upd (upd (upd (upd (upd (upd (upd (upd (upd (upd (upd (upd (upd (upd (upd (upd (upd (upd (upd (upd (upd (upd (upd (upd (upd (upd (upd (upd (upd (upd (am_z 10) 2 (nI 208)) 3 (nI 209)) 4 (nI 210)) 5 (nI 211)) 6 (nI 212)) 7 (nI 213)) 8 (nI 214)) 9 (nI 215)) 10 (nI 216)) 11 (nI 217)) 12 (nI 218)) 13 (nI 219)) 14 (nI 220)) 16 (nI 221)) 18 (nI 222)) 19 (nI 223)) 20 (nI 224)) 21 (nI 225)) 22 (nI 226)) 23 (nI 227)) 24 (nI 228)) 25 (nI 229)) 26 (nI 230)) 27 (nI 231)) 28 (-1 : Int32)) 30 (nI 232)) 32 (-1 : Int32)) 33 (-1 : Int32)) 34 (-1 : Int32)) 35 (nI 233)) 36 (nI 234)) 37 (nI 235)) 40 (nI 236)) 41 (nI 237)) 42 (nI 238)) 43 (nI 239)) 44 (nI 240)) 45 (nI 241)) 46 (nI 242)) 47 (nI 243)) 48 (nI 244)) 49 (nI 245)) 50 (nI 246)) 51 (nI 247)) 52 (nI 248)) 53 (nI 249)) 54 (nI 250)) 55 (nI 251)) 56 (nI 252)) 57 (nI 253)) 58 (nI 254)) 61 (nI 255)) 62 (nI 256)) 63 (nI 257)) 64 (nI 258)) 65 (nI 259)) 66 (nI 260)) 67 (nI 261))), (209, (fun k => if k < j then (-1) else (fun _ => 0 : Nat → Int32) k))] → AW l g m_MO_init 208 ad0 (am_made 207 55 s) (0 + 54) (0 + 47594) 262 σ 485 [(0, .ref 207), (1, .int (nI j))] [] := by
          intro m
          induction m with
          | zero => intro j h; omega
          | succ m ih =>
            intro j h1 h2 σ hC
            refine am_iload_n (j := 1) d_MO_init_485 rfl rfl ?_
            refine am_bipush (v := (24 : Int32)) d_MO_init_486 (by decide) ?_
            refine am_icmp_ge (tgt := 504) d_MO_init_488 (by decide) (fun c => ?_) (fun c => ?_)
            · have e : j = 24 := by
                have := (nI_leI (a := 24) (b := j) (by omega) (by omega)).mp c
                omega
              subst e
              have hC := Co_swap hC
              have hC := Co_shut hC (am_I_s (M := 24) (v := -1) sh_209 (by decide) (by decide +kernel) : am_I 209 = _).symm
              exact am_vret d_MO_init_504 rfl (by show _ ≤ 54; omega) (by show _ ≤ 47594; omega) (Co_end (Co_shut hC (am_obj sh_207 (by decide +kernel) (fun k hk => by simp only [upd]; rw [if_neg (by omega), if_neg (by omega), if_neg (by omega), if_neg (by omega), if_neg (by omega), if_neg (by omega), if_neg (by omega), if_neg (by omega), if_neg (by omega), if_neg (by omega), if_neg (by omega), if_neg (by omega), if_neg (by omega), if_neg (by omega), if_neg (by omega), if_neg (by omega), if_neg (by omega), if_neg (by omega), if_neg (by omega), if_neg (by omega), if_neg (by omega), if_neg (by omega), if_neg (by omega), if_neg (by omega), if_neg (by omega), if_neg (by omega), if_neg (by omega), if_neg (by omega), if_neg (by omega), if_neg (by omega), if_neg (by omega), if_neg (by omega), if_neg (by omega), if_neg (by omega), if_neg (by omega), if_neg (by omega), if_neg (by omega), if_neg (by omega), if_neg (by omega), if_neg (by omega), if_neg (by omega), if_neg (by omega), if_neg (by omega), if_neg (by omega), if_neg (by omega), if_neg (by omega), if_neg (by omega), if_neg (by omega), if_neg (by omega), if_neg (by omega), if_neg (by omega), if_neg (by omega), if_neg (by omega), if_neg (by omega), if_neg (by omega), if_neg (by omega), if_neg (by omega), if_neg (by omega)]; simp [am_z, (am_out_10 k hk).1]) am_out_10)) (by omega))
            · have hlt : j < 24 := by
                have h3 : ¬ 24 ≤ j := fun q => c ((nI_leI (a := 24) (b := j) (by omega) (by omega)).mpr q)
                omega
              refine am_aload_n (j := 0) d_MO_init_491 rfl rfl ?_
              refine cw_get (a := 0) (b := 209) d_MO_init_492 fl_MO_13 hg (by omega) sh_207 (by decide) rfl hC rfl rfl (by omega) (by omega) ?_
              refine am_iload_n (j := 1) d_MO_init_495 rfl rfl ?_
              refine am_iconst (v := (-1 : Int32)) d_MO_init_496 (by decide) ?_
              have hC := Co_swap hC
              refine cw_iast (N := 24) (x := nI j) d_MO_init_497 (by omega) sh_209 (vp_in_nI (by omega) (by decide)) hC (by omega) (fun q hq => by simp only [List.mem_cons, List.not_mem_nil, or_false] at hq; rcases hq with rfl <;> dsimp only <;> omega) (fun σ hC => ?_)
              rw [am_arr2 (B := 0) (S := 0) (by omega)] at hC
              have hC := Co_swap hC
              refine am_iinc (j := 1) (v := nI (j + 1)) (lv2 := [(1, .int (nI (j + 1))), (0, .ref 207)]) d_MO_init_498 rfl (nI_1 j) (by decide) rfl ?_
              refine am_goto (tgt := 485) d_MO_init_501 (by decide) ?_
              refine am_sub [1, 0] (lv2 := [(0, .ref 207), (1, .int (nI (j + 1)))]) rfl ?_
              exact ih (j + 1) (by omega) (by omega) _ hC
        refine key 25 0 (by omega) (Nat.zero_le _) σ ?_
        have e0 : (fun _ => 0 : Nat → Int32) = fun k => if k < 0 then (-1) else (fun _ => 0 : Nat → Int32) k := by funext k; simp
        have hC2 := hC.2.2 (209, (fun _ => 0)) (by simp)
        refine ⟨hC.1, fun a h1 h2 h3 => hC.2.1 a h1 h2 (fun q hq => ?_), fun q hq => ?_⟩
        · simp only [List.mem_cons, List.not_mem_nil, or_false] at hq h3
          rcases hq with rfl | rfl
          · exact h3 (207, _) (by simp)
          · exact h3 (209, _) (by simp)
        · simp only [List.mem_cons, List.not_mem_nil, or_false] at hq
          rcases hq with rfl | rfl
          · exact hC.2.2 _ (by simp)
          · exact hC2.trans e0
      · have hlt : j < 6 := by
          have h3 : ¬ 6 ≤ j := fun q => c ((nI_leI (a := 6) (b := j) (by omega) (by omega)).mpr q)
          omega
        refine am_aload_n (j := 0) d_MO_init_469 rfl rfl ?_
        refine cw_get (a := 0) (b := 231) d_MO_init_470 fl_MO_80 hg (by omega) sh_207 (by decide) rfl hC rfl rfl (by omega) (by omega) ?_
        refine am_iload_n (j := 1) d_MO_init_473 rfl rfl ?_
        refine am_ldc (v := (-1000000 : Int32)) d_MO_init_474 aw_5_233 ?_
        have hC := Co_swap hC
        refine cw_iast (N := 6) (x := nI j) d_MO_init_476 (by omega) sh_231 (vp_in_nI (by omega) (by decide)) hC (by omega) (fun q hq => by simp only [List.mem_cons, List.not_mem_nil, or_false] at hq; rcases hq with rfl | rfl <;> dsimp only <;> omega) (fun σ hC => ?_)
        rw [am_arr2 (B := 0) (S := 0) (by omega)] at hC
        have hC := Co_swap hC
        refine am_iinc (j := 1) (v := nI (j + 1)) (lv2 := [(1, .int (nI (j + 1))), (0, .ref 207)]) d_MO_init_477 rfl (nI_1 j) (by decide) rfl ?_
        refine am_goto (tgt := 463) d_MO_init_480 (by decide) ?_
        refine am_sub [1, 0] (lv2 := [(0, .ref 207), (1, .int (nI (j + 1)))]) rfl ?_
        exact ih (j + 1) (by omega) (by omega) _ hC
  refine key 7 0 (by omega) (Nat.zero_le _) σ ?_
  have e0 : (fun _ => 0 : Nat → Int32) = fun k => if k < 0 then (-1000000) else (fun _ => 0 : Nat → Int32) k := by funext k; simp
  have hC2 := hC.2.2 (231, (fun _ => 0)) (by simp)
  refine ⟨hC.1, fun a h1 h2 h3 => hC.2.1 a h1 h2 (fun q hq => ?_), fun q hq => ?_⟩
  · simp only [List.mem_cons, List.not_mem_nil, or_false] at hq h3
    rcases hq with rfl | rfl | rfl
    · exact h3 (207, _) (by simp)
    · exact h3 (231, _) (by simp)
    · exact h3 (209, _) (by simp)
  · simp only [List.mem_cons, List.not_mem_nil, or_false] at hq
    rcases hq with rfl | rfl | rfl
    · exact hC.2.2 _ (by simp)
    · exact hC2.trans e0
    · exact hC.2.2 _ (by simp)
