/-! what a program asks of small numbers -/
theorem not_lt_z {a : Nat} (h : a < 2 ^ 31) : (nI a < 0) = False := lt0_nI h
theorem lt_l0 {a : Nat} (h : a < 2 ^ 31) : (nI a < 0) = (a < 0) := lt_nI h (by decide)
theorem le_l0 {a : Nat} (h : a < 2 ^ 31) : (nI a ≤ 0) = (a ≤ 0) := le_nI h (by decide)
theorem eq_l0 {a : Nat} (h : a < 2 ^ 31) : (nI a = 0) = (a = 0) := eq_nI h (by decide)
theorem ll_t0 {a : Nat} (h : a < 2 ^ 31) : (0 < nI a) = (0 < a) := lt_nI (by decide) h
theorem add_l0 {a : Nat} : nI a + 0 = nI (a + 0) := nI_add a 0
theorem lt_l1 {a : Nat} (h : a < 2 ^ 31) : (nI a < 1) = (a < 1) := lt_nI h (by decide)
theorem le_l1 {a : Nat} (h : a < 2 ^ 31) : (nI a ≤ 1) = (a ≤ 1) := le_nI h (by decide)
theorem eq_l1 {a : Nat} (h : a < 2 ^ 31) : (nI a = 1) = (a = 1) := eq_nI h (by decide)
theorem ll_t1 {a : Nat} (h : a < 2 ^ 31) : (1 < nI a) = (1 < a) := lt_nI (by decide) h
theorem add_l1 {a : Nat} : nI a + 1 = nI (a + 1) := nI_add a 1
theorem lt_l2 {a : Nat} (h : a < 2 ^ 31) : (nI a < 2) = (a < 2) := lt_nI h (by decide)
theorem le_l2 {a : Nat} (h : a < 2 ^ 31) : (nI a ≤ 2) = (a ≤ 2) := le_nI h (by decide)
theorem eq_l2 {a : Nat} (h : a < 2 ^ 31) : (nI a = 2) = (a = 2) := eq_nI h (by decide)
theorem ll_t2 {a : Nat} (h : a < 2 ^ 31) : (2 < nI a) = (2 < a) := lt_nI (by decide) h
theorem add_l2 {a : Nat} : nI a + 2 = nI (a + 2) := nI_add a 2
theorem lt_l3 {a : Nat} (h : a < 2 ^ 31) : (nI a < 3) = (a < 3) := lt_nI h (by decide)
theorem le_l3 {a : Nat} (h : a < 2 ^ 31) : (nI a ≤ 3) = (a ≤ 3) := le_nI h (by decide)
theorem eq_l3 {a : Nat} (h : a < 2 ^ 31) : (nI a = 3) = (a = 3) := eq_nI h (by decide)
theorem ll_t3 {a : Nat} (h : a < 2 ^ 31) : (3 < nI a) = (3 < a) := lt_nI (by decide) h
theorem add_l3 {a : Nat} : nI a + 3 = nI (a + 3) := nI_add a 3
theorem lt_l4 {a : Nat} (h : a < 2 ^ 31) : (nI a < 4) = (a < 4) := lt_nI h (by decide)
theorem le_l4 {a : Nat} (h : a < 2 ^ 31) : (nI a ≤ 4) = (a ≤ 4) := le_nI h (by decide)
theorem eq_l4 {a : Nat} (h : a < 2 ^ 31) : (nI a = 4) = (a = 4) := eq_nI h (by decide)
theorem ll_t4 {a : Nat} (h : a < 2 ^ 31) : (4 < nI a) = (4 < a) := lt_nI (by decide) h
theorem add_l4 {a : Nat} : nI a + 4 = nI (a + 4) := nI_add a 4
theorem lt_l5 {a : Nat} (h : a < 2 ^ 31) : (nI a < 5) = (a < 5) := lt_nI h (by decide)
theorem le_l5 {a : Nat} (h : a < 2 ^ 31) : (nI a ≤ 5) = (a ≤ 5) := le_nI h (by decide)
theorem eq_l5 {a : Nat} (h : a < 2 ^ 31) : (nI a = 5) = (a = 5) := eq_nI h (by decide)
theorem ll_t5 {a : Nat} (h : a < 2 ^ 31) : (5 < nI a) = (5 < a) := lt_nI (by decide) h
theorem add_l5 {a : Nat} : nI a + 5 = nI (a + 5) := nI_add a 5
theorem lt_l6 {a : Nat} (h : a < 2 ^ 31) : (nI a < 6) = (a < 6) := lt_nI h (by decide)
theorem le_l6 {a : Nat} (h : a < 2 ^ 31) : (nI a ≤ 6) = (a ≤ 6) := le_nI h (by decide)
theorem eq_l6 {a : Nat} (h : a < 2 ^ 31) : (nI a = 6) = (a = 6) := eq_nI h (by decide)
theorem ll_t6 {a : Nat} (h : a < 2 ^ 31) : (6 < nI a) = (6 < a) := lt_nI (by decide) h
theorem add_l6 {a : Nat} : nI a + 6 = nI (a + 6) := nI_add a 6
theorem lt_l10 {a : Nat} (h : a < 2 ^ 31) : (nI a < 10) = (a < 10) := lt_nI h (by decide)
theorem le_l10 {a : Nat} (h : a < 2 ^ 31) : (nI a ≤ 10) = (a ≤ 10) := le_nI h (by decide)
theorem eq_l10 {a : Nat} (h : a < 2 ^ 31) : (nI a = 10) = (a = 10) := eq_nI h (by decide)
theorem ll_t10 {a : Nat} (h : a < 2 ^ 31) : (10 < nI a) = (10 < a) := lt_nI (by decide) h
theorem add_l10 {a : Nat} : nI a + 10 = nI (a + 10) := nI_add a 10
theorem lt_l12 {a : Nat} (h : a < 2 ^ 31) : (nI a < 12) = (a < 12) := lt_nI h (by decide)
theorem le_l12 {a : Nat} (h : a < 2 ^ 31) : (nI a ≤ 12) = (a ≤ 12) := le_nI h (by decide)
theorem eq_l12 {a : Nat} (h : a < 2 ^ 31) : (nI a = 12) = (a = 12) := eq_nI h (by decide)
theorem ll_t12 {a : Nat} (h : a < 2 ^ 31) : (12 < nI a) = (12 < a) := lt_nI (by decide) h
theorem add_l12 {a : Nat} : nI a + 12 = nI (a + 12) := nI_add a 12
theorem lt_l25 {a : Nat} (h : a < 2 ^ 31) : (nI a < 25) = (a < 25) := lt_nI h (by decide)
theorem le_l25 {a : Nat} (h : a < 2 ^ 31) : (nI a ≤ 25) = (a ≤ 25) := le_nI h (by decide)
theorem eq_l25 {a : Nat} (h : a < 2 ^ 31) : (nI a = 25) = (a = 25) := eq_nI h (by decide)
theorem ll_t25 {a : Nat} (h : a < 2 ^ 31) : (25 < nI a) = (25 < a) := lt_nI (by decide) h
theorem add_l25 {a : Nat} : nI a + 25 = nI (a + 25) := nI_add a 25
theorem lt_l40 {a : Nat} (h : a < 2 ^ 31) : (nI a < 40) = (a < 40) := lt_nI h (by decide)
theorem le_l40 {a : Nat} (h : a < 2 ^ 31) : (nI a ≤ 40) = (a ≤ 40) := le_nI h (by decide)
theorem eq_l40 {a : Nat} (h : a < 2 ^ 31) : (nI a = 40) = (a = 40) := eq_nI h (by decide)
theorem ll_t40 {a : Nat} (h : a < 2 ^ 31) : (40 < nI a) = (40 < a) := lt_nI (by decide) h
theorem add_l40 {a : Nat} : nI a + 40 = nI (a + 40) := nI_add a 40
theorem lt_l41 {a : Nat} (h : a < 2 ^ 31) : (nI a < 41) = (a < 41) := lt_nI h (by decide)
theorem le_l41 {a : Nat} (h : a < 2 ^ 31) : (nI a ≤ 41) = (a ≤ 41) := le_nI h (by decide)
theorem eq_l41 {a : Nat} (h : a < 2 ^ 31) : (nI a = 41) = (a = 41) := eq_nI h (by decide)
theorem ll_t41 {a : Nat} (h : a < 2 ^ 31) : (41 < nI a) = (41 < a) := lt_nI (by decide) h
theorem add_l41 {a : Nat} : nI a + 41 = nI (a + 41) := nI_add a 41
theorem lt_l42 {a : Nat} (h : a < 2 ^ 31) : (nI a < 42) = (a < 42) := lt_nI h (by decide)
theorem le_l42 {a : Nat} (h : a < 2 ^ 31) : (nI a ≤ 42) = (a ≤ 42) := le_nI h (by decide)
theorem eq_l42 {a : Nat} (h : a < 2 ^ 31) : (nI a = 42) = (a = 42) := eq_nI h (by decide)
theorem ll_t42 {a : Nat} (h : a < 2 ^ 31) : (42 < nI a) = (42 < a) := lt_nI (by decide) h
theorem add_l42 {a : Nat} : nI a + 42 = nI (a + 42) := nI_add a 42
theorem lt_l61 {a : Nat} (h : a < 2 ^ 31) : (nI a < 61) = (a < 61) := lt_nI h (by decide)
theorem le_l61 {a : Nat} (h : a < 2 ^ 31) : (nI a ≤ 61) = (a ≤ 61) := le_nI h (by decide)
theorem eq_l61 {a : Nat} (h : a < 2 ^ 31) : (nI a = 61) = (a = 61) := eq_nI h (by decide)
theorem ll_t61 {a : Nat} (h : a < 2 ^ 31) : (61 < nI a) = (61 < a) := lt_nI (by decide) h
theorem add_l61 {a : Nat} : nI a + 61 = nI (a + 61) := nI_add a 61
theorem lt_l120 {a : Nat} (h : a < 2 ^ 31) : (nI a < 120) = (a < 120) := lt_nI h (by decide)
theorem le_l120 {a : Nat} (h : a < 2 ^ 31) : (nI a ≤ 120) = (a ≤ 120) := le_nI h (by decide)
theorem eq_l120 {a : Nat} (h : a < 2 ^ 31) : (nI a = 120) = (a = 120) := eq_nI h (by decide)
theorem ll_t120 {a : Nat} (h : a < 2 ^ 31) : (120 < nI a) = (120 < a) := lt_nI (by decide) h
theorem add_l120 {a : Nat} : nI a + 120 = nI (a + 120) := nI_add a 120
theorem lt_l121 {a : Nat} (h : a < 2 ^ 31) : (nI a < 121) = (a < 121) := lt_nI h (by decide)
theorem le_l121 {a : Nat} (h : a < 2 ^ 31) : (nI a ≤ 121) = (a ≤ 121) := le_nI h (by decide)
theorem eq_l121 {a : Nat} (h : a < 2 ^ 31) : (nI a = 121) = (a = 121) := eq_nI h (by decide)
theorem ll_t121 {a : Nat} (h : a < 2 ^ 31) : (121 < nI a) = (121 < a) := lt_nI (by decide) h
theorem add_l121 {a : Nat} : nI a + 121 = nI (a + 121) := nI_add a 121
theorem lt_l122 {a : Nat} (h : a < 2 ^ 31) : (nI a < 122) = (a < 122) := lt_nI h (by decide)
theorem le_l122 {a : Nat} (h : a < 2 ^ 31) : (nI a ≤ 122) = (a ≤ 122) := le_nI h (by decide)
theorem eq_l122 {a : Nat} (h : a < 2 ^ 31) : (nI a = 122) = (a = 122) := eq_nI h (by decide)
theorem ll_t122 {a : Nat} (h : a < 2 ^ 31) : (122 < nI a) = (122 < a) := lt_nI (by decide) h
theorem add_l122 {a : Nat} : nI a + 122 = nI (a + 122) := nI_add a 122
theorem lt_l576 {a : Nat} (h : a < 2 ^ 31) : (nI a < 576) = (a < 576) := lt_nI h (by decide)
theorem le_l576 {a : Nat} (h : a < 2 ^ 31) : (nI a ≤ 576) = (a ≤ 576) := le_nI h (by decide)
theorem eq_l576 {a : Nat} (h : a < 2 ^ 31) : (nI a = 576) = (a = 576) := eq_nI h (by decide)
theorem ll_t576 {a : Nat} (h : a < 2 ^ 31) : (576 < nI a) = (576 < a) := lt_nI (by decide) h
theorem add_l576 {a : Nat} : nI a + 576 = nI (a + 576) := nI_add a 576
theorem lt_l600 {a : Nat} (h : a < 2 ^ 31) : (nI a < 600) = (a < 600) := lt_nI h (by decide)
theorem le_l600 {a : Nat} (h : a < 2 ^ 31) : (nI a ≤ 600) = (a ≤ 600) := le_nI h (by decide)
theorem eq_l600 {a : Nat} (h : a < 2 ^ 31) : (nI a = 600) = (a = 600) := eq_nI h (by decide)
theorem ll_t600 {a : Nat} (h : a < 2 ^ 31) : (600 < nI a) = (600 < a) := lt_nI (by decide) h
theorem add_l600 {a : Nat} : nI a + 600 = nI (a + 600) := nI_add a 600
theorem lt_l1000 {a : Nat} (h : a < 2 ^ 31) : (nI a < 1000) = (a < 1000) := lt_nI h (by decide)
theorem le_l1000 {a : Nat} (h : a < 2 ^ 31) : (nI a ≤ 1000) = (a ≤ 1000) := le_nI h (by decide)
theorem eq_l1000 {a : Nat} (h : a < 2 ^ 31) : (nI a = 1000) = (a = 1000) := eq_nI h (by decide)
theorem ll_t1000 {a : Nat} (h : a < 2 ^ 31) : (1000 < nI a) = (1000 < a) := lt_nI (by decide) h
theorem add_l1000 {a : Nat} : nI a + 1000 = nI (a + 1000) := nI_add a 1000
theorem cell5 {r c : Nat} : 5 * nI r + nI c = nI (5 * r + c) := by
  rw [show (5 : Int32) = nI 5 from rfl, nI_mul, nI_add]
theorem cell25 {r c : Nat} : 25 * nI r + nI c = nI (25 * r + c) := by
  rw [show (25 : Int32) = nI 25 from rfl, nI_mul, nI_add]
theorem ce_m1 {a : Nat} (h : a < 2 ^ 30) : (ce a = -1) = (a = 0) := by
  rw [← ce_0, ce_inj h (by decide)]
theorem ce_lt0 {a : Nat} (h : a < 2 ^ 30) : (ce a < 0) = (a = 0) := by
  cases a with
  | zero => simp [ce_0]
  | succ a => rw [ce_s, lt0_nI (by omega)]; simp
theorem ce_eqn {a s : Nat} (h : a < 2 ^ 30) (hs : s < 2 ^ 29) : (ce a = nI s) = (a = s + 1) := by
  rw [← ce_s, ce_inj h (by omega)]
theorem nce_eq {a s : Nat} (h : a < 2 ^ 30) (hs : s < 2 ^ 29) : (nI s = ce a) = (a = s + 1) := by
  rw [show (nI s = ce a) = (ce a = nI s) from propext eq_comm, ce_eqn h hs]
theorem wr_fn {σ : St} {k k' j : Nat} {v : Int32} (h : k' ≠ k) : wr σ k j v k' = σ k' := wr_ne h
