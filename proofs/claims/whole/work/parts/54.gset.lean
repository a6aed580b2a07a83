/-! writing into a grid -/
section GSET
variable {σ : St} {k n : Nat} {B : Nat → Nat → Nat}
theorem Wf.row1 (h : Wf n B) {r c s : Nat} (he : B r c = s + 1) {c' : Nat} (hc : c' ≠ c) : B r c' ≠ s + 1 := fun e => hc (h.2.2.2.1 r c c' (by omega) (by omega)).symm
theorem Wf.col1 (h : Wf n B) {r c s : Nat} (he : B r c = s + 1) {r' : Nat} (hr : r' ≠ r) : B r' c ≠ s + 1 := fun e => hr (h.2.2.2.2 r r' c (by omega) (by omega)).symm
theorem rowHas_up (h : Wf n B) {r c v r' : Nat} (hc : c < 5) (s : Nat) : rowHas (upB B r c v) r' s = if r' = r then (rowHas B r s && !decide (B r c = s + 1)) || decide (v = s + 1) else rowHas B r' s := by
  by_cases hr : r' = r
  · subst hr
    rw [if_pos rfl, Bool.eq_iff_iff, rowHas_iff, Bool.or_eq_true, Bool.and_eq_true, rowHas_iff]
    simp only [Bool.not_eq_true', decide_eq_false_iff_not, decide_eq_true_eq]
    constructor
    · rintro ⟨c', h1, h2⟩
      by_cases hcc : c' = c
      · subst hcc; rw [upB_at] at h2; exact Or.inr h2
      · rw [upB_ne (by omega)] at h2
        refine Or.inl ⟨⟨c', h1, h2⟩, fun e => h.row1 e hcc h2⟩
    · rintro (⟨⟨c', h1, h2⟩, h3⟩ | h4)
      · have hcc : c' ≠ c := by intro e; subst e; exact h3 h2
        exact ⟨c', h1, by rw [upB_ne (by omega)]; exact h2⟩
      · exact ⟨c, hc, by rw [upB_at]; exact h4⟩
  · rw [if_neg hr, Bool.eq_iff_iff, rowHas_iff, rowHas_iff]
    constructor
    · rintro ⟨c', h1, h2⟩; exact ⟨c', h1, by rwa [upB_ne (by omega)] at h2⟩
    · rintro ⟨c', h1, h2⟩; exact ⟨c', h1, by rwa [upB_ne (by omega)]⟩
theorem colHas_up (h : Wf n B) {r c v c' : Nat} (hr : r < 5) (s : Nat) : colHas (upB B r c v) c' s = if c' = c then (colHas B c s && !decide (B r c = s + 1)) || decide (v = s + 1) else colHas B c' s := by
  by_cases hc : c' = c
  · subst hc
    rw [if_pos rfl, Bool.eq_iff_iff, colHas_iff, Bool.or_eq_true, Bool.and_eq_true, colHas_iff]
    simp only [Bool.not_eq_true', decide_eq_false_iff_not, decide_eq_true_eq]
    constructor
    · rintro ⟨r', h1, h2⟩
      by_cases hcc : r' = r
      · subst hcc; rw [upB_at] at h2; exact Or.inr h2
      · rw [upB_ne (by omega)] at h2
        refine Or.inl ⟨⟨r', h1, h2⟩, fun e => h.col1 e hcc h2⟩
    · rintro (⟨⟨r', h1, h2⟩, h3⟩ | h4)
      · have hcc : r' ≠ r := by intro e; subst e; exact h3 h2
        exact ⟨r', h1, by rw [upB_ne (by omega)]; exact h2⟩
      · exact ⟨r, hr, by rw [upB_at]; exact h4⟩
  · rw [if_neg hc, Bool.eq_iff_iff, colHas_iff, colHas_iff]
    constructor
    · rintro ⟨c', h1, h2⟩; exact ⟨c', h1, by rwa [upB_ne (by omega)] at h2⟩
    · rintro ⟨c', h1, h2⟩; exact ⟨c', h1, by rwa [upB_ne (by omega)]⟩
/-- what set leaves behind -/
def setSt (σ : St) (k r c a v : Nat) : St :=
  let σ1 := if a = 0 then σ else wr (wr (wr σ (k + 2) r (σ (k + 2) r &&& ((1 <<< (nI (a - 1) &&& 31)) ^^^ (-1)))) (k + 3) c (σ (k + 3) c &&& ((1 <<< (nI (a - 1) &&& 31)) ^^^ (-1)))) k 4 (σ k 4 - 1)
  let σ2 := if v = 0 then σ1 else wr (wr (wr σ1 (k + 2) r (σ1 (k + 2) r ||| (1 <<< (nI (v - 1) &&& 31)))) (k + 3) c (σ1 (k + 3) c ||| (1 <<< (nI (v - 1) &&& 31)))) k 4 (σ1 k 4 + 1)
  wr σ2 (k + 1) (5 * r + c) (ce v)
theorem set_eq (h : GOK σ k n B) {r c v : Nat} (hr : r < n) (hc : c < n) (hv : v ≤ n) : f_Grid_set σ k (nI r) (nI c) (ce v) = some ((), setSt σ k r c (B r c) v) := by
  have hn := h.le
  have ho := h.ord
  have hb := h.1.bd r c
  have e := h.cel (r := r) (c := c) (by omega) (by omega)
  have c1 : ¬ ce v < -1 := by
    cases v with
    | zero => decide
    | succ v => rw [ce_s]; exact fun h => nI_pos (n := v) (by omega) (Int32.lt_trans h (by decide))
  have c2 : ce v < nI n := by
    cases v with
    | zero => rw [ce_0]; exact (by rw [neg1_lt (by omega)]; trivial)
    | succ v => rw [ce_s]; exact nI_lt (by omega) (by omega)
  unfold f_Grid_set setSt
  simp (disch := omega) only [has_in h hr hc, e, ho, c1, c2, and_self, and_true, true_and, and_false, false_and, cap_some, cal_some, cax_ok, cax_er, jn_eq, lt1_eq, sto_eq, ald_nI, ast_nI, gld_nI, fac_nI, lt_nI, le_nI, eq_nI, nI_1, nI_add, nI_mul, cell5, cell25, ce_m1, if_pos, if_neg, ↓reduceIte, if_true, if_false, lt_l0, le_l0, eq_l0, ll_t0, add_l0, lt_l1, le_l1, eq_l1, ll_t1, add_l1, lt_l2, le_l2, eq_l2, ll_t2, add_l2, lt_l3, le_l3, eq_l3, ll_t3, add_l3, lt_l4, le_l4, eq_l4, ll_t4, add_l4, lt_l5, le_l5, eq_l5, ll_t5, add_l5, lt_l6, le_l6, eq_l6, ll_t6, add_l6, lt_l10, le_l10, eq_l10, ll_t10, add_l10, lt_l12, le_l12, eq_l12, ll_t12, add_l12, lt_l25, le_l25, eq_l25, ll_t25, add_l25, lt_l40, le_l40, eq_l40, ll_t40, add_l40, lt_l41, le_l41, eq_l41, ll_t41, add_l41, lt_l42, le_l42, eq_l42, ll_t42, add_l42, lt_l61, le_l61, eq_l61, ll_t61, add_l61, lt_l120, le_l120, eq_l120, ll_t120, add_l120, lt_l121, le_l121, eq_l121, ll_t121, add_l121, lt_l122, le_l122, eq_l122, ll_t122, add_l122, lt_l576, le_l576, eq_l576, ll_t576, add_l576, lt_l600, le_l600, eq_l600, ll_t600, add_l600, lt_l1000, le_l1000, eq_l1000, ll_t1000, add_l1000]
  rw [if_neg (by decide)]
  generalize B r c = a at *
  cases a with
  | zero =>
    cases v with
    | zero => simp (disch := omega) only [ce_0, and_self, and_true, true_and, and_false, false_and, cap_some, cal_some, cax_ok, cax_er, jn_eq, lt1_eq, sto_eq, ald_nI, ast_nI, gld_nI, fac_nI, lt_nI, le_nI, eq_nI, nI_1, nI_add, nI_mul, cell5, cell25, ce_m1, if_pos, if_neg, ↓reduceIte, if_true, if_false, lt_l0, le_l0, eq_l0, ll_t0, add_l0, lt_l1, le_l1, eq_l1, ll_t1, add_l1, lt_l2, le_l2, eq_l2, ll_t2, add_l2, lt_l3, le_l3, eq_l3, ll_t3, add_l3, lt_l4, le_l4, eq_l4, ll_t4, add_l4, lt_l5, le_l5, eq_l5, ll_t5, add_l5, lt_l6, le_l6, eq_l6, ll_t6, add_l6, lt_l10, le_l10, eq_l10, ll_t10, add_l10, lt_l12, le_l12, eq_l12, ll_t12, add_l12, lt_l25, le_l25, eq_l25, ll_t25, add_l25, lt_l40, le_l40, eq_l40, ll_t40, add_l40, lt_l41, le_l41, eq_l41, ll_t41, add_l41, lt_l42, le_l42, eq_l42, ll_t42, add_l42, lt_l61, le_l61, eq_l61, ll_t61, add_l61, lt_l120, le_l120, eq_l120, ll_t120, add_l120, lt_l121, le_l121, eq_l121, ll_t121, add_l121, lt_l122, le_l122, eq_l122, ll_t122, add_l122, lt_l576, le_l576, eq_l576, ll_t576, add_l576, lt_l600, le_l600, eq_l600, ll_t600, add_l600, lt_l1000, le_l1000, eq_l1000, ll_t1000, add_l1000]
    | succ v => simp (disch := omega) only [ce_s, Nat.add_sub_cancel, wr_get, and_self, and_true, true_and, and_false, false_and, cap_some, cal_some, cax_ok, cax_er, jn_eq, lt1_eq, sto_eq, ald_nI, ast_nI, gld_nI, fac_nI, lt_nI, le_nI, eq_nI, nI_1, nI_add, nI_mul, cell5, cell25, ce_m1, if_pos, if_neg, ↓reduceIte, if_true, if_false, lt_l0, le_l0, eq_l0, ll_t0, add_l0, lt_l1, le_l1, eq_l1, ll_t1, add_l1, lt_l2, le_l2, eq_l2, ll_t2, add_l2, lt_l3, le_l3, eq_l3, ll_t3, add_l3, lt_l4, le_l4, eq_l4, ll_t4, add_l4, lt_l5, le_l5, eq_l5, ll_t5, add_l5, lt_l6, le_l6, eq_l6, ll_t6, add_l6, lt_l10, le_l10, eq_l10, ll_t10, add_l10, lt_l12, le_l12, eq_l12, ll_t12, add_l12, lt_l25, le_l25, eq_l25, ll_t25, add_l25, lt_l40, le_l40, eq_l40, ll_t40, add_l40, lt_l41, le_l41, eq_l41, ll_t41, add_l41, lt_l42, le_l42, eq_l42, ll_t42, add_l42, lt_l61, le_l61, eq_l61, ll_t61, add_l61, lt_l120, le_l120, eq_l120, ll_t120, add_l120, lt_l121, le_l121, eq_l121, ll_t121, add_l121, lt_l122, le_l122, eq_l122, ll_t122, add_l122, lt_l576, le_l576, eq_l576, ll_t576, add_l576, lt_l600, le_l600, eq_l600, ll_t600, add_l600, lt_l1000, le_l1000, eq_l1000, ll_t1000, add_l1000]
  | succ a =>
    cases v with
    | zero => simp (disch := omega) only [ce_0, ce_s, Nat.add_sub_cancel, wr_get, and_self, and_true, true_and, and_false, false_and, cap_some, cal_some, cax_ok, cax_er, jn_eq, lt1_eq, sto_eq, ald_nI, ast_nI, gld_nI, fac_nI, lt_nI, le_nI, eq_nI, nI_1, nI_add, nI_mul, cell5, cell25, ce_m1, if_pos, if_neg, ↓reduceIte, if_true, if_false, lt_l0, le_l0, eq_l0, ll_t0, add_l0, lt_l1, le_l1, eq_l1, ll_t1, add_l1, lt_l2, le_l2, eq_l2, ll_t2, add_l2, lt_l3, le_l3, eq_l3, ll_t3, add_l3, lt_l4, le_l4, eq_l4, ll_t4, add_l4, lt_l5, le_l5, eq_l5, ll_t5, add_l5, lt_l6, le_l6, eq_l6, ll_t6, add_l6, lt_l10, le_l10, eq_l10, ll_t10, add_l10, lt_l12, le_l12, eq_l12, ll_t12, add_l12, lt_l25, le_l25, eq_l25, ll_t25, add_l25, lt_l40, le_l40, eq_l40, ll_t40, add_l40, lt_l41, le_l41, eq_l41, ll_t41, add_l41, lt_l42, le_l42, eq_l42, ll_t42, add_l42, lt_l61, le_l61, eq_l61, ll_t61, add_l61, lt_l120, le_l120, eq_l120, ll_t120, add_l120, lt_l121, le_l121, eq_l121, ll_t121, add_l121, lt_l122, le_l122, eq_l122, ll_t122, add_l122, lt_l576, le_l576, eq_l576, ll_t576, add_l576, lt_l600, le_l600, eq_l600, ll_t600, add_l600, lt_l1000, le_l1000, eq_l1000, ll_t1000, add_l1000]
    | succ v => simp (disch := omega) only [ce_s, Nat.add_sub_cancel, wr_get, and_self, and_true, true_and, and_false, false_and, cap_some, cal_some, cax_ok, cax_er, jn_eq, lt1_eq, sto_eq, ald_nI, ast_nI, gld_nI, fac_nI, lt_nI, le_nI, eq_nI, nI_1, nI_add, nI_mul, cell5, cell25, ce_m1, if_pos, if_neg, ↓reduceIte, if_true, if_false, lt_l0, le_l0, eq_l0, ll_t0, add_l0, lt_l1, le_l1, eq_l1, ll_t1, add_l1, lt_l2, le_l2, eq_l2, ll_t2, add_l2, lt_l3, le_l3, eq_l3, ll_t3, add_l3, lt_l4, le_l4, eq_l4, ll_t4, add_l4, lt_l5, le_l5, eq_l5, ll_t5, add_l5, lt_l6, le_l6, eq_l6, ll_t6, add_l6, lt_l10, le_l10, eq_l10, ll_t10, add_l10, lt_l12, le_l12, eq_l12, ll_t12, add_l12, lt_l25, le_l25, eq_l25, ll_t25, add_l25, lt_l40, le_l40, eq_l40, ll_t40, add_l40, lt_l41, le_l41, eq_l41, ll_t41, add_l41, lt_l42, le_l42, eq_l42, ll_t42, add_l42, lt_l61, le_l61, eq_l61, ll_t61, add_l61, lt_l120, le_l120, eq_l120, ll_t120, add_l120, lt_l121, le_l121, eq_l121, ll_t121, add_l121, lt_l122, le_l122, eq_l122, ll_t122, add_l122, lt_l576, le_l576, eq_l576, ll_t576, add_l576, lt_l600, le_l600, eq_l600, ll_t600, add_l600, lt_l1000, le_l1000, eq_l1000, ll_t1000, add_l1000]
end GSET
