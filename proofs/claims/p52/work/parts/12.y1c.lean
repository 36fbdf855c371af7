noncomputable section
theorem qz {n : Nat} (h : n < 2 ^ 31) : ¬ nI n < 0 := nI_pos h
theorem ql_1 {n : Nat} (h : n < 1) : ¬ (1 : Int32) ≤ nI n := nI_ge (b := 1) h (by decide)
theorem qg_1 {n : Nat} (h : 1 ≤ n) (hn : n < 2 ^ 31) : (1 : Int32) ≤ nI n := nI_le (a := 1) h hn
theorem qt_1 {n : Nat} (h : n < 1) : nI n < (1 : Int32) := nI_lt (b := 1) h (by decide)
theorem qu_1 {n : Nat} (h : 1 ≤ n) (hn : n < 2 ^ 31) : ¬ nI n < (1 : Int32) := nI_nlt (b := 1) h hn
theorem qx_1 (x : Int32) : x < 0 ∨ (1 : Int32) ≤ x ∨ ∃ j : Nat, j < 1 ∧ x = nI j := pk_ix x (n := 1) (by decide)
theorem qe_1 {n : Nat} (hn : n < 2 ^ 31) : nI n = (1 : Int32) ↔ n = 1 := nI_eq (b := 1) hn (by decide)
theorem ql_2 {n : Nat} (h : n < 2) : ¬ (2 : Int32) ≤ nI n := nI_ge (b := 2) h (by decide)
theorem qg_2 {n : Nat} (h : 2 ≤ n) (hn : n < 2 ^ 31) : (2 : Int32) ≤ nI n := nI_le (a := 2) h hn
theorem qt_2 {n : Nat} (h : n < 2) : nI n < (2 : Int32) := nI_lt (b := 2) h (by decide)
theorem qu_2 {n : Nat} (h : 2 ≤ n) (hn : n < 2 ^ 31) : ¬ nI n < (2 : Int32) := nI_nlt (b := 2) h hn
theorem qx_2 (x : Int32) : x < 0 ∨ (2 : Int32) ≤ x ∨ ∃ j : Nat, j < 2 ∧ x = nI j := pk_ix x (n := 2) (by decide)
theorem qe_2 {n : Nat} (hn : n < 2 ^ 31) : nI n = (2 : Int32) ↔ n = 2 := nI_eq (b := 2) hn (by decide)
theorem ql_3 {n : Nat} (h : n < 3) : ¬ (3 : Int32) ≤ nI n := nI_ge (b := 3) h (by decide)
theorem qg_3 {n : Nat} (h : 3 ≤ n) (hn : n < 2 ^ 31) : (3 : Int32) ≤ nI n := nI_le (a := 3) h hn
theorem qt_3 {n : Nat} (h : n < 3) : nI n < (3 : Int32) := nI_lt (b := 3) h (by decide)
theorem qu_3 {n : Nat} (h : 3 ≤ n) (hn : n < 2 ^ 31) : ¬ nI n < (3 : Int32) := nI_nlt (b := 3) h hn
theorem qx_3 (x : Int32) : x < 0 ∨ (3 : Int32) ≤ x ∨ ∃ j : Nat, j < 3 ∧ x = nI j := pk_ix x (n := 3) (by decide)
theorem qe_3 {n : Nat} (hn : n < 2 ^ 31) : nI n = (3 : Int32) ↔ n = 3 := nI_eq (b := 3) hn (by decide)
theorem ql_4 {n : Nat} (h : n < 4) : ¬ (4 : Int32) ≤ nI n := nI_ge (b := 4) h (by decide)
theorem qg_4 {n : Nat} (h : 4 ≤ n) (hn : n < 2 ^ 31) : (4 : Int32) ≤ nI n := nI_le (a := 4) h hn
theorem qt_4 {n : Nat} (h : n < 4) : nI n < (4 : Int32) := nI_lt (b := 4) h (by decide)
theorem qu_4 {n : Nat} (h : 4 ≤ n) (hn : n < 2 ^ 31) : ¬ nI n < (4 : Int32) := nI_nlt (b := 4) h hn
theorem qx_4 (x : Int32) : x < 0 ∨ (4 : Int32) ≤ x ∨ ∃ j : Nat, j < 4 ∧ x = nI j := pk_ix x (n := 4) (by decide)
theorem qe_4 {n : Nat} (hn : n < 2 ^ 31) : nI n = (4 : Int32) ↔ n = 4 := nI_eq (b := 4) hn (by decide)
theorem ql_5 {n : Nat} (h : n < 5) : ¬ (5 : Int32) ≤ nI n := nI_ge (b := 5) h (by decide)
theorem qg_5 {n : Nat} (h : 5 ≤ n) (hn : n < 2 ^ 31) : (5 : Int32) ≤ nI n := nI_le (a := 5) h hn
theorem qt_5 {n : Nat} (h : n < 5) : nI n < (5 : Int32) := nI_lt (b := 5) h (by decide)
theorem qu_5 {n : Nat} (h : 5 ≤ n) (hn : n < 2 ^ 31) : ¬ nI n < (5 : Int32) := nI_nlt (b := 5) h hn
theorem qx_5 (x : Int32) : x < 0 ∨ (5 : Int32) ≤ x ∨ ∃ j : Nat, j < 5 ∧ x = nI j := pk_ix x (n := 5) (by decide)
theorem qe_5 {n : Nat} (hn : n < 2 ^ 31) : nI n = (5 : Int32) ↔ n = 5 := nI_eq (b := 5) hn (by decide)
theorem ql_6 {n : Nat} (h : n < 6) : ¬ (6 : Int32) ≤ nI n := nI_ge (b := 6) h (by decide)
theorem qg_6 {n : Nat} (h : 6 ≤ n) (hn : n < 2 ^ 31) : (6 : Int32) ≤ nI n := nI_le (a := 6) h hn
theorem qt_6 {n : Nat} (h : n < 6) : nI n < (6 : Int32) := nI_lt (b := 6) h (by decide)
theorem qu_6 {n : Nat} (h : 6 ≤ n) (hn : n < 2 ^ 31) : ¬ nI n < (6 : Int32) := nI_nlt (b := 6) h hn
theorem qx_6 (x : Int32) : x < 0 ∨ (6 : Int32) ≤ x ∨ ∃ j : Nat, j < 6 ∧ x = nI j := pk_ix x (n := 6) (by decide)
theorem qe_6 {n : Nat} (hn : n < 2 ^ 31) : nI n = (6 : Int32) ↔ n = 6 := nI_eq (b := 6) hn (by decide)
theorem ql_8 {n : Nat} (h : n < 8) : ¬ (8 : Int32) ≤ nI n := nI_ge (b := 8) h (by decide)
theorem qg_8 {n : Nat} (h : 8 ≤ n) (hn : n < 2 ^ 31) : (8 : Int32) ≤ nI n := nI_le (a := 8) h hn
theorem qt_8 {n : Nat} (h : n < 8) : nI n < (8 : Int32) := nI_lt (b := 8) h (by decide)
theorem qu_8 {n : Nat} (h : 8 ≤ n) (hn : n < 2 ^ 31) : ¬ nI n < (8 : Int32) := nI_nlt (b := 8) h hn
theorem qx_8 (x : Int32) : x < 0 ∨ (8 : Int32) ≤ x ∨ ∃ j : Nat, j < 8 ∧ x = nI j := pk_ix x (n := 8) (by decide)
theorem qe_8 {n : Nat} (hn : n < 2 ^ 31) : nI n = (8 : Int32) ↔ n = 8 := nI_eq (b := 8) hn (by decide)
theorem ql_10 {n : Nat} (h : n < 10) : ¬ (10 : Int32) ≤ nI n := nI_ge (b := 10) h (by decide)
theorem qg_10 {n : Nat} (h : 10 ≤ n) (hn : n < 2 ^ 31) : (10 : Int32) ≤ nI n := nI_le (a := 10) h hn
theorem qt_10 {n : Nat} (h : n < 10) : nI n < (10 : Int32) := nI_lt (b := 10) h (by decide)
theorem qu_10 {n : Nat} (h : 10 ≤ n) (hn : n < 2 ^ 31) : ¬ nI n < (10 : Int32) := nI_nlt (b := 10) h hn
theorem qx_10 (x : Int32) : x < 0 ∨ (10 : Int32) ≤ x ∨ ∃ j : Nat, j < 10 ∧ x = nI j := pk_ix x (n := 10) (by decide)
theorem qe_10 {n : Nat} (hn : n < 2 ^ 31) : nI n = (10 : Int32) ↔ n = 10 := nI_eq (b := 10) hn (by decide)
theorem ql_24 {n : Nat} (h : n < 24) : ¬ (24 : Int32) ≤ nI n := nI_ge (b := 24) h (by decide)
theorem qg_24 {n : Nat} (h : 24 ≤ n) (hn : n < 2 ^ 31) : (24 : Int32) ≤ nI n := nI_le (a := 24) h hn
theorem qt_24 {n : Nat} (h : n < 24) : nI n < (24 : Int32) := nI_lt (b := 24) h (by decide)
theorem qu_24 {n : Nat} (h : 24 ≤ n) (hn : n < 2 ^ 31) : ¬ nI n < (24 : Int32) := nI_nlt (b := 24) h hn
theorem qx_24 (x : Int32) : x < 0 ∨ (24 : Int32) ≤ x ∨ ∃ j : Nat, j < 24 ∧ x = nI j := pk_ix x (n := 24) (by decide)
theorem qe_24 {n : Nat} (hn : n < 2 ^ 31) : nI n = (24 : Int32) ↔ n = 24 := nI_eq (b := 24) hn (by decide)
theorem ql_30 {n : Nat} (h : n < 30) : ¬ (30 : Int32) ≤ nI n := nI_ge (b := 30) h (by decide)
theorem qg_30 {n : Nat} (h : 30 ≤ n) (hn : n < 2 ^ 31) : (30 : Int32) ≤ nI n := nI_le (a := 30) h hn
theorem qt_30 {n : Nat} (h : n < 30) : nI n < (30 : Int32) := nI_lt (b := 30) h (by decide)
theorem qu_30 {n : Nat} (h : 30 ≤ n) (hn : n < 2 ^ 31) : ¬ nI n < (30 : Int32) := nI_nlt (b := 30) h hn
theorem qx_30 (x : Int32) : x < 0 ∨ (30 : Int32) ≤ x ∨ ∃ j : Nat, j < 30 ∧ x = nI j := pk_ix x (n := 30) (by decide)
theorem qe_30 {n : Nat} (hn : n < 2 ^ 31) : nI n = (30 : Int32) ↔ n = 30 := nI_eq (b := 30) hn (by decide)
theorem ql_31 {n : Nat} (h : n < 31) : ¬ (31 : Int32) ≤ nI n := nI_ge (b := 31) h (by decide)
theorem qg_31 {n : Nat} (h : 31 ≤ n) (hn : n < 2 ^ 31) : (31 : Int32) ≤ nI n := nI_le (a := 31) h hn
theorem qt_31 {n : Nat} (h : n < 31) : nI n < (31 : Int32) := nI_lt (b := 31) h (by decide)
theorem qu_31 {n : Nat} (h : 31 ≤ n) (hn : n < 2 ^ 31) : ¬ nI n < (31 : Int32) := nI_nlt (b := 31) h hn
theorem qx_31 (x : Int32) : x < 0 ∨ (31 : Int32) ≤ x ∨ ∃ j : Nat, j < 31 ∧ x = nI j := pk_ix x (n := 31) (by decide)
theorem qe_31 {n : Nat} (hn : n < 2 ^ 31) : nI n = (31 : Int32) ↔ n = 31 := nI_eq (b := 31) hn (by decide)
theorem ql_54 {n : Nat} (h : n < 54) : ¬ (54 : Int32) ≤ nI n := nI_ge (b := 54) h (by decide)
theorem qg_54 {n : Nat} (h : 54 ≤ n) (hn : n < 2 ^ 31) : (54 : Int32) ≤ nI n := nI_le (a := 54) h hn
theorem qt_54 {n : Nat} (h : n < 54) : nI n < (54 : Int32) := nI_lt (b := 54) h (by decide)
theorem qu_54 {n : Nat} (h : 54 ≤ n) (hn : n < 2 ^ 31) : ¬ nI n < (54 : Int32) := nI_nlt (b := 54) h hn
theorem qx_54 (x : Int32) : x < 0 ∨ (54 : Int32) ≤ x ∨ ∃ j : Nat, j < 54 ∧ x = nI j := pk_ix x (n := 54) (by decide)
theorem qe_54 {n : Nat} (hn : n < 2 ^ 31) : nI n = (54 : Int32) ↔ n = 54 := nI_eq (b := 54) hn (by decide)
theorem ql_120 {n : Nat} (h : n < 120) : ¬ (120 : Int32) ≤ nI n := nI_ge (b := 120) h (by decide)
theorem qg_120 {n : Nat} (h : 120 ≤ n) (hn : n < 2 ^ 31) : (120 : Int32) ≤ nI n := nI_le (a := 120) h hn
theorem qt_120 {n : Nat} (h : n < 120) : nI n < (120 : Int32) := nI_lt (b := 120) h (by decide)
theorem qu_120 {n : Nat} (h : 120 ≤ n) (hn : n < 2 ^ 31) : ¬ nI n < (120 : Int32) := nI_nlt (b := 120) h hn
theorem qx_120 (x : Int32) : x < 0 ∨ (120 : Int32) ≤ x ∨ ∃ j : Nat, j < 120 ∧ x = nI j := pk_ix x (n := 120) (by decide)
theorem qe_120 {n : Nat} (hn : n < 2 ^ 31) : nI n = (120 : Int32) ↔ n = 120 := nI_eq (b := 120) hn (by decide)
theorem ql_720 {n : Nat} (h : n < 720) : ¬ (720 : Int32) ≤ nI n := nI_ge (b := 720) h (by decide)
theorem qg_720 {n : Nat} (h : 720 ≤ n) (hn : n < 2 ^ 31) : (720 : Int32) ≤ nI n := nI_le (a := 720) h hn
theorem qt_720 {n : Nat} (h : n < 720) : nI n < (720 : Int32) := nI_lt (b := 720) h (by decide)
theorem qu_720 {n : Nat} (h : 720 ≤ n) (hn : n < 2 ^ 31) : ¬ nI n < (720 : Int32) := nI_nlt (b := 720) h hn
theorem qx_720 (x : Int32) : x < 0 ∨ (720 : Int32) ≤ x ∨ ∃ j : Nat, j < 720 ∧ x = nI j := pk_ix x (n := 720) (by decide)
theorem qe_720 {n : Nat} (hn : n < 2 ^ 31) : nI n = (720 : Int32) ↔ n = 720 := nI_eq (b := 720) hn (by decide)
theorem qe_0 {n : Nat} (hn : n < 2 ^ 31) : nI n = (0 : Int32) ↔ n = 0 := nI_eq (b := 0) hn (by decide)
theorem qm_2 (a : Nat) : nI a * (2 : Int32) = nI (a * 2) := pk_mul a 2
theorem qw_2 (a : Nat) : (2 : Int32) * nI a = nI (2 * a) := pk_mul 2 a
theorem qp_2 (a : Nat) : nI a + (2 : Int32) = nI (a + 2) := nI_add a 2
theorem qd_2 {a : Nat} (h : a < 2 ^ 31) : nI a / (2 : Int32) = nI (a / 2) := pk_div (d := 2) h (by decide) (by decide)
theorem qr_2 {a : Nat} (h : a < 2 ^ 31) : nI a - nI a / (2 : Int32) * (2 : Int32) = nI (a % 2) := pk_rem (d := 2) h (by decide) (by decide)
theorem qm_3 (a : Nat) : nI a * (3 : Int32) = nI (a * 3) := pk_mul a 3
theorem qw_3 (a : Nat) : (3 : Int32) * nI a = nI (3 * a) := pk_mul 3 a
theorem qp_3 (a : Nat) : nI a + (3 : Int32) = nI (a + 3) := nI_add a 3
theorem qd_3 {a : Nat} (h : a < 2 ^ 31) : nI a / (3 : Int32) = nI (a / 3) := pk_div (d := 3) h (by decide) (by decide)
theorem qr_3 {a : Nat} (h : a < 2 ^ 31) : nI a - nI a / (3 : Int32) * (3 : Int32) = nI (a % 3) := pk_rem (d := 3) h (by decide) (by decide)
theorem qm_4 (a : Nat) : nI a * (4 : Int32) = nI (a * 4) := pk_mul a 4
theorem qw_4 (a : Nat) : (4 : Int32) * nI a = nI (4 * a) := pk_mul 4 a
theorem qp_4 (a : Nat) : nI a + (4 : Int32) = nI (a + 4) := nI_add a 4
theorem qd_4 {a : Nat} (h : a < 2 ^ 31) : nI a / (4 : Int32) = nI (a / 4) := pk_div (d := 4) h (by decide) (by decide)
theorem qr_4 {a : Nat} (h : a < 2 ^ 31) : nI a - nI a / (4 : Int32) * (4 : Int32) = nI (a % 4) := pk_rem (d := 4) h (by decide) (by decide)
theorem qm_5 (a : Nat) : nI a * (5 : Int32) = nI (a * 5) := pk_mul a 5
theorem qw_5 (a : Nat) : (5 : Int32) * nI a = nI (5 * a) := pk_mul 5 a
theorem qp_5 (a : Nat) : nI a + (5 : Int32) = nI (a + 5) := nI_add a 5
theorem qd_5 {a : Nat} (h : a < 2 ^ 31) : nI a / (5 : Int32) = nI (a / 5) := pk_div (d := 5) h (by decide) (by decide)
theorem qr_5 {a : Nat} (h : a < 2 ^ 31) : nI a - nI a / (5 : Int32) * (5 : Int32) = nI (a % 5) := pk_rem (d := 5) h (by decide) (by decide)
theorem qm_6 (a : Nat) : nI a * (6 : Int32) = nI (a * 6) := pk_mul a 6
theorem qw_6 (a : Nat) : (6 : Int32) * nI a = nI (6 * a) := pk_mul 6 a
theorem qp_6 (a : Nat) : nI a + (6 : Int32) = nI (a + 6) := nI_add a 6
theorem qd_6 {a : Nat} (h : a < 2 ^ 31) : nI a / (6 : Int32) = nI (a / 6) := pk_div (d := 6) h (by decide) (by decide)
theorem qr_6 {a : Nat} (h : a < 2 ^ 31) : nI a - nI a / (6 : Int32) * (6 : Int32) = nI (a % 6) := pk_rem (d := 6) h (by decide) (by decide)
theorem qm_7 (a : Nat) : nI a * (7 : Int32) = nI (a * 7) := pk_mul a 7
theorem qw_7 (a : Nat) : (7 : Int32) * nI a = nI (7 * a) := pk_mul 7 a
theorem qp_7 (a : Nat) : nI a + (7 : Int32) = nI (a + 7) := nI_add a 7
theorem qd_7 {a : Nat} (h : a < 2 ^ 31) : nI a / (7 : Int32) = nI (a / 7) := pk_div (d := 7) h (by decide) (by decide)
theorem qr_7 {a : Nat} (h : a < 2 ^ 31) : nI a - nI a / (7 : Int32) * (7 : Int32) = nI (a % 7) := pk_rem (d := 7) h (by decide) (by decide)
theorem qm_8 (a : Nat) : nI a * (8 : Int32) = nI (a * 8) := pk_mul a 8
theorem qw_8 (a : Nat) : (8 : Int32) * nI a = nI (8 * a) := pk_mul 8 a
theorem qp_8 (a : Nat) : nI a + (8 : Int32) = nI (a + 8) := nI_add a 8
theorem qd_8 {a : Nat} (h : a < 2 ^ 31) : nI a / (8 : Int32) = nI (a / 8) := pk_div (d := 8) h (by decide) (by decide)
theorem qr_8 {a : Nat} (h : a < 2 ^ 31) : nI a - nI a / (8 : Int32) * (8 : Int32) = nI (a % 8) := pk_rem (d := 8) h (by decide) (by decide)
theorem qm_9 (a : Nat) : nI a * (9 : Int32) = nI (a * 9) := pk_mul a 9
theorem qw_9 (a : Nat) : (9 : Int32) * nI a = nI (9 * a) := pk_mul 9 a
theorem qp_9 (a : Nat) : nI a + (9 : Int32) = nI (a + 9) := nI_add a 9
theorem qd_9 {a : Nat} (h : a < 2 ^ 31) : nI a / (9 : Int32) = nI (a / 9) := pk_div (d := 9) h (by decide) (by decide)
theorem qr_9 {a : Nat} (h : a < 2 ^ 31) : nI a - nI a / (9 : Int32) * (9 : Int32) = nI (a % 9) := pk_rem (d := 9) h (by decide) (by decide)
theorem qm_10 (a : Nat) : nI a * (10 : Int32) = nI (a * 10) := pk_mul a 10
theorem qw_10 (a : Nat) : (10 : Int32) * nI a = nI (10 * a) := pk_mul 10 a
theorem qp_10 (a : Nat) : nI a + (10 : Int32) = nI (a + 10) := nI_add a 10
theorem qd_10 {a : Nat} (h : a < 2 ^ 31) : nI a / (10 : Int32) = nI (a / 10) := pk_div (d := 10) h (by decide) (by decide)
theorem qr_10 {a : Nat} (h : a < 2 ^ 31) : nI a - nI a / (10 : Int32) * (10 : Int32) = nI (a % 10) := pk_rem (d := 10) h (by decide) (by decide)
theorem qm_20 (a : Nat) : nI a * (20 : Int32) = nI (a * 20) := pk_mul a 20
theorem qw_20 (a : Nat) : (20 : Int32) * nI a = nI (20 * a) := pk_mul 20 a
theorem qp_20 (a : Nat) : nI a + (20 : Int32) = nI (a + 20) := nI_add a 20
theorem qd_20 {a : Nat} (h : a < 2 ^ 31) : nI a / (20 : Int32) = nI (a / 20) := pk_div (d := 20) h (by decide) (by decide)
theorem qr_20 {a : Nat} (h : a < 2 ^ 31) : nI a - nI a / (20 : Int32) * (20 : Int32) = nI (a % 20) := pk_rem (d := 20) h (by decide) (by decide)
theorem qm_30 (a : Nat) : nI a * (30 : Int32) = nI (a * 30) := pk_mul a 30
theorem qw_30 (a : Nat) : (30 : Int32) * nI a = nI (30 * a) := pk_mul 30 a
theorem qp_30 (a : Nat) : nI a + (30 : Int32) = nI (a + 30) := nI_add a 30
theorem qd_30 {a : Nat} (h : a < 2 ^ 31) : nI a / (30 : Int32) = nI (a / 30) := pk_div (d := 30) h (by decide) (by decide)
theorem qr_30 {a : Nat} (h : a < 2 ^ 31) : nI a - nI a / (30 : Int32) * (30 : Int32) = nI (a % 30) := pk_rem (d := 30) h (by decide) (by decide)
theorem qm_31 (a : Nat) : nI a * (31 : Int32) = nI (a * 31) := pk_mul a 31
theorem qw_31 (a : Nat) : (31 : Int32) * nI a = nI (31 * a) := pk_mul 31 a
theorem qp_31 (a : Nat) : nI a + (31 : Int32) = nI (a + 31) := nI_add a 31
theorem qd_31 {a : Nat} (h : a < 2 ^ 31) : nI a / (31 : Int32) = nI (a / 31) := pk_div (d := 31) h (by decide) (by decide)
theorem qr_31 {a : Nat} (h : a < 2 ^ 31) : nI a - nI a / (31 : Int32) * (31 : Int32) = nI (a % 31) := pk_rem (d := 31) h (by decide) (by decide)
theorem qm_54 (a : Nat) : nI a * (54 : Int32) = nI (a * 54) := pk_mul a 54
theorem qw_54 (a : Nat) : (54 : Int32) * nI a = nI (54 * a) := pk_mul 54 a
theorem qp_54 (a : Nat) : nI a + (54 : Int32) = nI (a + 54) := nI_add a 54
theorem qd_54 {a : Nat} (h : a < 2 ^ 31) : nI a / (54 : Int32) = nI (a / 54) := pk_div (d := 54) h (by decide) (by decide)
theorem qr_54 {a : Nat} (h : a < 2 ^ 31) : nI a - nI a / (54 : Int32) * (54 : Int32) = nI (a % 54) := pk_rem (d := 54) h (by decide) (by decide)
theorem qm_120 (a : Nat) : nI a * (120 : Int32) = nI (a * 120) := pk_mul a 120
theorem qw_120 (a : Nat) : (120 : Int32) * nI a = nI (120 * a) := pk_mul 120 a
theorem qp_120 (a : Nat) : nI a + (120 : Int32) = nI (a + 120) := nI_add a 120
theorem qd_120 {a : Nat} (h : a < 2 ^ 31) : nI a / (120 : Int32) = nI (a / 120) := pk_div (d := 120) h (by decide) (by decide)
theorem qr_120 {a : Nat} (h : a < 2 ^ 31) : nI a - nI a / (120 : Int32) * (120 : Int32) = nI (a % 120) := pk_rem (d := 120) h (by decide) (by decide)
theorem qm_180 (a : Nat) : nI a * (180 : Int32) = nI (a * 180) := pk_mul a 180
theorem qw_180 (a : Nat) : (180 : Int32) * nI a = nI (180 * a) := pk_mul 180 a
theorem qp_180 (a : Nat) : nI a + (180 : Int32) = nI (a + 180) := nI_add a 180
theorem qd_180 {a : Nat} (h : a < 2 ^ 31) : nI a / (180 : Int32) = nI (a / 180) := pk_div (d := 180) h (by decide) (by decide)
theorem qr_180 {a : Nat} (h : a < 2 ^ 31) : nI a - nI a / (180 : Int32) * (180 : Int32) = nI (a % 180) := pk_rem (d := 180) h (by decide) (by decide)
theorem qm_720 (a : Nat) : nI a * (720 : Int32) = nI (a * 720) := pk_mul a 720
theorem qw_720 (a : Nat) : (720 : Int32) * nI a = nI (720 * a) := pk_mul 720 a
theorem qp_720 (a : Nat) : nI a + (720 : Int32) = nI (a + 720) := nI_add a 720
theorem qd_720 {a : Nat} (h : a < 2 ^ 31) : nI a / (720 : Int32) = nI (a / 720) := pk_div (d := 720) h (by decide) (by decide)
theorem qr_720 {a : Nat} (h : a < 2 ^ 31) : nI a - nI a / (720 : Int32) * (720 : Int32) = nI (a % 720) := pk_rem (d := 720) h (by decide) (by decide)
theorem qm_1000 (a : Nat) : nI a * (1000 : Int32) = nI (a * 1000) := pk_mul a 1000
theorem qw_1000 (a : Nat) : (1000 : Int32) * nI a = nI (1000 * a) := pk_mul 1000 a
theorem qp_1000 (a : Nat) : nI a + (1000 : Int32) = nI (a + 1000) := nI_add a 1000
theorem qd_1000 {a : Nat} (h : a < 2 ^ 31) : nI a / (1000 : Int32) = nI (a / 1000) := pk_div (d := 1000) h (by decide) (by decide)
theorem qr_1000 {a : Nat} (h : a < 2 ^ 31) : nI a - nI a / (1000 : Int32) * (1000 : Int32) = nI (a % 1000) := pk_rem (d := 1000) h (by decide) (by decide)
theorem qm_1620 (a : Nat) : nI a * (1620 : Int32) = nI (a * 1620) := pk_mul a 1620
theorem qw_1620 (a : Nat) : (1620 : Int32) * nI a = nI (1620 * a) := pk_mul 1620 a
theorem qp_1620 (a : Nat) : nI a + (1620 : Int32) = nI (a + 1620) := nI_add a 1620
theorem qd_1620 {a : Nat} (h : a < 2 ^ 31) : nI a / (1620 : Int32) = nI (a / 1620) := pk_div (d := 1620) h (by decide) (by decide)
theorem qr_1620 {a : Nat} (h : a < 2 ^ 31) : nI a - nI a / (1620 : Int32) * (1620 : Int32) = nI (a % 1620) := pk_rem (d := 1620) h (by decide) (by decide)
theorem qb_in {s : am_M} {x a b : Int32} : f_MO_in s x a b = 0 ∨ f_MO_in s x a b = 1 := by
  unfold f_MO_in
  by_cases c1 : x < a
  · rw [if_pos c1]; exact Or.inl rfl
  · rw [if_neg c1]
    by_cases c2 : b < x
    · rw [if_pos c2]; exact Or.inl rfl
    · rw [if_neg c2]; exact Or.inr rfl
theorem qb_n1 {n : Nat} (hn : n < 2 ^ 31) : (nI n - 1).toInt = (n : Int) - 1 := by
  rw [Int32.toInt_sub, nI_toInt hn, show (1 : Int32).toInt = 1 from by decide]
  exact Int.bmod_eq_of_le (by omega) (by omega)
theorem qb_in1 {s : am_M} {x : Int32} {n : Nat} (hn : n < 2 ^ 31) : f_MO_in s x (0 : Int32) (nI n - 1) = if x < 0 then 0 else if nI n ≤ x then 0 else 1 := by
  unfold f_MO_in
  by_cases c1 : x < 0
  · rw [if_pos c1, if_pos c1]
  · rw [if_neg c1, if_neg c1]
    by_cases c2 : nI n ≤ x
    · rw [if_pos c2, if_pos]
      rw [Int32.lt_iff_toInt_lt, qb_n1 hn]
      rw [Int32.le_iff_toInt_le, nI_toInt hn] at c2; omega
    · rw [if_neg c2, if_neg]
      rw [Int32.lt_iff_toInt_lt, qb_n1 hn]
      rw [Int32.le_iff_toInt_le, nI_toInt hn] at c2; omega
/-- within a bound: what both sides' tests answer -/
def q_in (n : Nat) (x : Int32) : Int32 := if x < 0 then 0 else if nI n ≤ x then 0 else 1
theorem q_in_c (n : Nat) (hn : n < 2 ^ 31) (x : Int32) : q_in n x = 0 ∨ (q_in n x = 1 ∧ ∃ j, j < n ∧ x = nI j) := by
  unfold q_in
  rcases pk_ix x hn with h | h | ⟨j, h1, h2⟩
  · left; rw [if_pos h]
  · left
    by_cases c : x < 0
    · rw [if_pos c]
    · rw [if_neg c, if_pos h]
  · right
    refine ⟨?_, j, h1, h2⟩
    rw [h2, if_neg (qz (by omega)), if_neg (nI_ge h1 hn)]
theorem q_in_1 {n j : Nat} (h : j < n) (hn : n < 2 ^ 31) : q_in n (nI j) = 1 := by
  unfold q_in
  rw [if_neg (qz (by omega)), if_neg (nI_ge h hn)]
theorem qb_span (s : am_M) (x y : Int32) : (f_CB_wantRange s x y = 0 ∧ f_MO_isSpan s x y = 1) ∨ (f_CB_wantRange s x y = 2 ∧ f_MO_isSpan s x y = 0) := by
  have e1 : (-9999 : Int32).toInt = -9999 := by decide
  have e2 : (9999 : Int32).toInt = 9999 := by decide
  unfold f_CB_wantRange f_MO_isSpan f_MO_in
  simp only [Int32.lt_iff_toInt_lt, Int32.le_iff_toInt_le, e1, e2]
  generalize x.toInt = a
  generalize y.toInt = b
  by_cases h1 : a < -9999
  · right; simp [h1]
  by_cases h2 : 9999 < b
  · right
    by_cases h3 : 9999 < a
    · simp [h1, h2, h3]
    · simp [h1, h2, h3]
  by_cases h4 : a ≤ b
  · left
    have h3 : ¬ 9999 < a := by omega
    have h5 : ¬ b < a := by omega
    simp [h1, h2, h3, h4, h5]
  · right
    have h5 : b < a := by omega
    by_cases h3 : 9999 < a
    · simp [h1, h2, h3, h4]
    · simp [h1, h2, h3, h4, h5]
theorem qb_removal (s : am_M) (x : Int32) : (f_CB_wantRemoval s x = 0 ∧ f_MO_in s x (0 : Int32) (2 : Int32) = 1) ∨ (f_CB_wantRemoval s x = 2 ∧ f_MO_in s x (0 : Int32) (2 : Int32) = 0) := by
  unfold f_CB_wantRemoval f_MO_in
  by_cases h1 : x < 0
  · right; simp [h1]
  by_cases h2 : x ≤ 2
  · left; simp [h1, h2, pr_le]
  · right; simp [h1, h2, pr_le]
end
