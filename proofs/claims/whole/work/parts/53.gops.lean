/-! what the methods of a grid say -/
section GO
variable {σ : St} {k n : Nat} {B : Nat → Nat → Nat}
theorem GOK.le (h : GOK σ k n B) : 2 ≤ n ∧ n ≤ 5 := ⟨h.1.1, h.1.2.1⟩
theorem GOK.ord (h : GOK σ k n B) : σ k 3 = nI n := h.2.1
theorem GOK.fil (h : GOK σ k n B) : σ k 4 = nI (cnt B) := h.2.2.1
theorem GOK.cel (h : GOK σ k n B) {r c : Nat} (hr : r < 5) (hc : c < 5) : σ (k + 1) (5 * r + c) = ce (B r c) := h.2.2.2.1 r c hr hc
theorem GOK.row (h : GOK σ k n B) {r : Nat} (hr : r < 5) : σ (k + 2) r = sI (rowHas B r) := h.2.2.2.2.1 r hr
theorem GOK.col (h : GOK σ k n B) {c : Nat} (hc : c < 5) : σ (k + 3) c = sI (colHas B c) := h.2.2.2.2.2 c hc
theorem Wf.bd (h : Wf n B) (r c : Nat) : B r c ≤ 5 := by
  by_cases h0 : B r c = 0
  · omega
  · have := (h.2.2.1 r c h0).2.2; have := h.2.1; omega
theorem Wf.bn (h : Wf n B) (r c : Nat) : B r c ≤ n := by
  by_cases h0 : B r c = 0
  · omega
  · exact (h.2.2.1 r c h0).2.2
theorem Wf.out (h : Wf n B) {r c : Nat} (h1 : n ≤ r ∨ n ≤ c) : B r c = 0 := by
  apply Classical.byContradiction
  intro h0
  have := h.2.2.1 r c h0
  omega
theorem line_in (h : GOK σ k n B) {r : Nat} (hr : r < n) : f_Grid_isLine σ k (nI r) = some 1 := by
  have ho := h.ord; have hn := h.le
  unfold f_Grid_isLine
  simp (disch := omega) only [ho, and_self, and_true, true_and, and_false, false_and, cap_some, cal_some, cax_ok, cax_er, jn_eq, lt1_eq, sto_eq, ald_nI, ast_nI, gld_nI, fac_nI, lt_nI, le_nI, eq_nI, nI_1, nI_add, nI_mul, cell5, cell25, ce_m1, if_pos, if_neg, ↓reduceIte, if_true, if_false, lt_l0, le_l0, eq_l0, ll_t0, add_l0, lt_l1, le_l1, eq_l1, ll_t1, add_l1, lt_l2, le_l2, eq_l2, ll_t2, add_l2, lt_l3, le_l3, eq_l3, ll_t3, add_l3, lt_l4, le_l4, eq_l4, ll_t4, add_l4, lt_l5, le_l5, eq_l5, ll_t5, add_l5, lt_l6, le_l6, eq_l6, ll_t6, add_l6, lt_l10, le_l10, eq_l10, ll_t10, add_l10, lt_l12, le_l12, eq_l12, ll_t12, add_l12, lt_l25, le_l25, eq_l25, ll_t25, add_l25, lt_l40, le_l40, eq_l40, ll_t40, add_l40, lt_l41, le_l41, eq_l41, ll_t41, add_l41, lt_l42, le_l42, eq_l42, ll_t42, add_l42, lt_l61, le_l61, eq_l61, ll_t61, add_l61, lt_l120, le_l120, eq_l120, ll_t120, add_l120, lt_l121, le_l121, eq_l121, ll_t121, add_l121, lt_l122, le_l122, eq_l122, ll_t122, add_l122, lt_l576, le_l576, eq_l576, ll_t576, add_l576, lt_l600, le_l600, eq_l600, ll_t600, add_l600, lt_l1000, le_l1000, eq_l1000, ll_t1000, add_l1000]
theorem line_out (h : GOK σ k n B) {x : Int32} (hx : x < 0 ∨ nI n ≤ x) : f_Grid_isLine σ k x = some 0 := by
  have ho := h.ord
  unfold f_Grid_isLine
  rcases hx with hx | hx
  · simp only [jn_eq, hx, if_true]
  · have h2 : ¬ x < nI n := Int32.not_lt.mpr hx
    simp only [jn_eq, ho, h2, if_false, ite_self]
theorem has_in (h : GOK σ k n B) {r c : Nat} (hr : r < n) (hc : c < n) : f_Grid_has σ k (nI r) (nI c) = some 1 := by
  unfold f_Grid_has
  rw [line_in h hr, line_in h hc]
  rfl
theorem has_out1 (h : GOK σ k n B) {x y : Int32} (hx : x < 0 ∨ nI n ≤ x) : f_Grid_has σ k x y = some 0 := by
  unfold f_Grid_has
  rw [line_out h hx]
  rfl
theorem has_out2 (h : GOK σ k n B) {x y : Int32} (hy : y < 0 ∨ nI n ≤ y) : f_Grid_has σ k x y = some 0 := by
  have hn := h.le
  rcases i32_cases x n (by omega) with ⟨r, hr, rfl⟩ | hx
  · unfold f_Grid_has
    rw [line_in h hr, line_out h hy]
    rfl
  · exact has_out1 h hx
theorem sign_in (h : GOK σ k n B) {r c : Nat} (hr : r < n) (hc : c < n) : f_Grid_signAt σ k (nI r) (nI c) = some (ce (B r c)) := by
  have hn := h.le
  unfold f_Grid_signAt
  have e := h.cel (r := r) (c := c) (by omega) (by omega)
  simp (disch := omega) only [has_in h hr hc, e, and_self, and_true, true_and, and_false, false_and, cap_some, cal_some, cax_ok, cax_er, jn_eq, lt1_eq, sto_eq, ald_nI, ast_nI, gld_nI, fac_nI, lt_nI, le_nI, eq_nI, nI_1, nI_add, nI_mul, cell5, cell25, ce_m1, if_pos, if_neg, ↓reduceIte, if_true, if_false, lt_l0, le_l0, eq_l0, ll_t0, add_l0, lt_l1, le_l1, eq_l1, ll_t1, add_l1, lt_l2, le_l2, eq_l2, ll_t2, add_l2, lt_l3, le_l3, eq_l3, ll_t3, add_l3, lt_l4, le_l4, eq_l4, ll_t4, add_l4, lt_l5, le_l5, eq_l5, ll_t5, add_l5, lt_l6, le_l6, eq_l6, ll_t6, add_l6, lt_l10, le_l10, eq_l10, ll_t10, add_l10, lt_l12, le_l12, eq_l12, ll_t12, add_l12, lt_l25, le_l25, eq_l25, ll_t25, add_l25, lt_l40, le_l40, eq_l40, ll_t40, add_l40, lt_l41, le_l41, eq_l41, ll_t41, add_l41, lt_l42, le_l42, eq_l42, ll_t42, add_l42, lt_l61, le_l61, eq_l61, ll_t61, add_l61, lt_l120, le_l120, eq_l120, ll_t120, add_l120, lt_l121, le_l121, eq_l121, ll_t121, add_l121, lt_l122, le_l122, eq_l122, ll_t122, add_l122, lt_l576, le_l576, eq_l576, ll_t576, add_l576, lt_l600, le_l600, eq_l600, ll_t600, add_l600, lt_l1000, le_l1000, eq_l1000, ll_t1000, add_l1000]
  rfl
theorem sign_out1 (h : GOK σ k n B) {x y : Int32} (hx : x < 0 ∨ nI n ≤ x) : f_Grid_signAt σ k x y = some (-1) := by
  unfold f_Grid_signAt
  rw [has_out1 h hx]
  rfl
theorem sign_out2 (h : GOK σ k n B) {x y : Int32} (hx : y < 0 ∨ nI n ≤ y) : f_Grid_signAt σ k x y = some (-1) := by
  unfold f_Grid_signAt
  rw [has_out2 h hx]
  rfl
/-- the signs that may stand at an empty cell -/
def opt (n : Nat) (B : Nat → Nat → Nat) (r c s : Nat) : Bool := decide (B r c = 0) && decide (s < n) && !rowHas B r s && !colHas B c s
theorem all_ok (h : GOK σ k n B) : f_Grid_allSigns σ k = some (sI (fun t => decide (t < n))) := by
  have ho := h.ord; have hn := h.le
  unfold f_Grid_allSigns
  rw [ho, sI_all (by omega)]
theorem opt_in (h : GOK σ k n B) {r c : Nat} (hr : r < n) (hc : c < n) : f_Grid_optionsAt σ k (nI r) (nI c) = some (sI (opt n B r c)) := by
  have hn := h.le
  have hb := h.1.bd r c
  unfold f_Grid_optionsAt
  have e := h.cel (r := r) (c := c) (by omega) (by omega)
  have e1 := h.row (r := r) (by omega)
  have e2 := h.col (c := c) (by omega)
  simp (disch := omega) only [has_in h hr hc, e, e1, e2, all_ok h, and_self, and_true, true_and, and_false, false_and, cap_some, cal_some, cax_ok, cax_er, jn_eq, lt1_eq, sto_eq, ald_nI, ast_nI, gld_nI, fac_nI, lt_nI, le_nI, eq_nI, nI_1, nI_add, nI_mul, cell5, cell25, ce_m1, if_pos, if_neg, ↓reduceIte, if_true, if_false, lt_l0, le_l0, eq_l0, ll_t0, add_l0, lt_l1, le_l1, eq_l1, ll_t1, add_l1, lt_l2, le_l2, eq_l2, ll_t2, add_l2, lt_l3, le_l3, eq_l3, ll_t3, add_l3, lt_l4, le_l4, eq_l4, ll_t4, add_l4, lt_l5, le_l5, eq_l5, ll_t5, add_l5, lt_l6, le_l6, eq_l6, ll_t6, add_l6, lt_l10, le_l10, eq_l10, ll_t10, add_l10, lt_l12, le_l12, eq_l12, ll_t12, add_l12, lt_l25, le_l25, eq_l25, ll_t25, add_l25, lt_l40, le_l40, eq_l40, ll_t40, add_l40, lt_l41, le_l41, eq_l41, ll_t41, add_l41, lt_l42, le_l42, eq_l42, ll_t42, add_l42, lt_l61, le_l61, eq_l61, ll_t61, add_l61, lt_l120, le_l120, eq_l120, ll_t120, add_l120, lt_l121, le_l121, eq_l121, ll_t121, add_l121, lt_l122, le_l122, eq_l122, ll_t122, add_l122, lt_l576, le_l576, eq_l576, ll_t576, add_l576, lt_l600, le_l600, eq_l600, ll_t600, add_l600, lt_l1000, le_l1000, eq_l1000, ll_t1000, add_l1000]
  rw [if_neg (by decide)]
  by_cases h0 : B r c = 0
  · rw [if_pos h0, sI_or, sI_andn]
    congr 1
    apply sI_cong
    intro s hs
    simp only [opt, h0, decide_true, Bool.true_and, Bool.not_or, Bool.and_assoc]
  · rw [if_neg h0, ← sI_none]
    congr 1
    apply sI_cong
    intro s hs
    simp only [opt, h0, decide_false, Bool.false_and]
theorem bI_zero (b : Bool) : (bI b = 0) = (b = false) := by cases b <;> decide
theorem isIn_opt (h : GOK σ k n B) {τ : St} {r c s : Nat} (hs : s < n) : f_Q_isIn τ (sI (opt n B r c)) (nI s) = some (bI (opt n B r c s)) := isIn_sI _ (by have := h.le; omega)
theorem col_L (h : GOK σ k n B) {r s : Nat} (hr : r < n) (kx : Int32 → Option Int32) : ∀ m c, c ≤ n → n - c < m → (∀ c', c' < c → B r c' ≠ s + 1) → s < 5 →
    (∃ c', c' < n ∧ B r c' = s + 1 ∧ f_Grid_columnOf_L2 k (nI r) (nI s) σ kx m (nI c) = kx (nI c')) ∨ ((∀ c', c' < n → B r c' ≠ s + 1) ∧ f_Grid_columnOf_L2 k (nI r) (nI s) σ kx m (nI c) = some (-1)) := by
  have hn := h.le
  have ho := h.ord
  intro m
  induction m with
  | zero => intro c h1 h2; omega
  | succ m ih =>
    intro c h1 h2 h3 hs
    unfold f_Grid_columnOf_L2
    by_cases hc : c < n
    · have hb := h.1.bd r c
      simp (disch := omega) only [ho, sign_in h hr hc, ce_eqn, and_self, and_true, true_and, and_false, false_and, cap_some, cal_some, cax_ok, cax_er, jn_eq, lt1_eq, sto_eq, ald_nI, ast_nI, gld_nI, fac_nI, lt_nI, le_nI, eq_nI, nI_1, nI_add, nI_mul, cell5, cell25, ce_m1, if_pos, if_neg, ↓reduceIte, if_true, if_false, lt_l0, le_l0, eq_l0, ll_t0, add_l0, lt_l1, le_l1, eq_l1, ll_t1, add_l1, lt_l2, le_l2, eq_l2, ll_t2, add_l2, lt_l3, le_l3, eq_l3, ll_t3, add_l3, lt_l4, le_l4, eq_l4, ll_t4, add_l4, lt_l5, le_l5, eq_l5, ll_t5, add_l5, lt_l6, le_l6, eq_l6, ll_t6, add_l6, lt_l10, le_l10, eq_l10, ll_t10, add_l10, lt_l12, le_l12, eq_l12, ll_t12, add_l12, lt_l25, le_l25, eq_l25, ll_t25, add_l25, lt_l40, le_l40, eq_l40, ll_t40, add_l40, lt_l41, le_l41, eq_l41, ll_t41, add_l41, lt_l42, le_l42, eq_l42, ll_t42, add_l42, lt_l61, le_l61, eq_l61, ll_t61, add_l61, lt_l120, le_l120, eq_l120, ll_t120, add_l120, lt_l121, le_l121, eq_l121, ll_t121, add_l121, lt_l122, le_l122, eq_l122, ll_t122, add_l122, lt_l576, le_l576, eq_l576, ll_t576, add_l576, lt_l600, le_l600, eq_l600, ll_t600, add_l600, lt_l1000, le_l1000, eq_l1000, ll_t1000, add_l1000]
      by_cases he : B r c = s + 1
      · rw [if_pos he]
        exact Or.inl ⟨c, hc, he, rfl⟩
      · rw [if_neg he]
        refine ih (c + 1) hc (by omega) ?_ hs
        intro c' hc'
        by_cases h4 : c' = c
        · rw [h4]; exact he
        · exact h3 c' (by omega)
    · have e : c = n := by omega
      subst e
      simp (disch := omega) only [ho, and_self, and_true, true_and, and_false, false_and, cap_some, cal_some, cax_ok, cax_er, jn_eq, lt1_eq, sto_eq, ald_nI, ast_nI, gld_nI, fac_nI, lt_nI, le_nI, eq_nI, nI_1, nI_add, nI_mul, cell5, cell25, ce_m1, if_pos, if_neg, ↓reduceIte, if_true, if_false, lt_l0, le_l0, eq_l0, ll_t0, add_l0, lt_l1, le_l1, eq_l1, ll_t1, add_l1, lt_l2, le_l2, eq_l2, ll_t2, add_l2, lt_l3, le_l3, eq_l3, ll_t3, add_l3, lt_l4, le_l4, eq_l4, ll_t4, add_l4, lt_l5, le_l5, eq_l5, ll_t5, add_l5, lt_l6, le_l6, eq_l6, ll_t6, add_l6, lt_l10, le_l10, eq_l10, ll_t10, add_l10, lt_l12, le_l12, eq_l12, ll_t12, add_l12, lt_l25, le_l25, eq_l25, ll_t25, add_l25, lt_l40, le_l40, eq_l40, ll_t40, add_l40, lt_l41, le_l41, eq_l41, ll_t41, add_l41, lt_l42, le_l42, eq_l42, ll_t42, add_l42, lt_l61, le_l61, eq_l61, ll_t61, add_l61, lt_l120, le_l120, eq_l120, ll_t120, add_l120, lt_l121, le_l121, eq_l121, ll_t121, add_l121, lt_l122, le_l122, eq_l122, ll_t122, add_l122, lt_l576, le_l576, eq_l576, ll_t576, add_l576, lt_l600, le_l600, eq_l600, ll_t600, add_l600, lt_l1000, le_l1000, eq_l1000, ll_t1000, add_l1000]
      exact Or.inr h3
theorem col_has (h : GOK σ k n B) {r s c : Nat} (hr : r < n) (hc : c < n) (he : B r c = s + 1) : f_Grid_columnOf σ k (nI r) (nI s) = some (nI c) := by
  have hn := h.le
  have hb := h.1.bd r c
  unfold f_Grid_columnOf
  rcases col_L (s := s) h hr (fun v => some v) FU 0 (by omega) (FU_gt (by omega)) (by intro c' h; omega) (by omega) with ⟨c', h1, h2, h3⟩ | ⟨h1, h2⟩
  · rw [show (0 : Int32) = nI 0 from rfl, h3, h.1.2.2.2.1 r c c' (by omega) (by omega)]
  · exact absurd he (h1 c hc)
theorem col_none (h : GOK σ k n B) {r s : Nat} (hr : r < n) (hs : s < 5) (he : ∀ c, c < n → B r c ≠ s + 1) : f_Grid_columnOf σ k (nI r) (nI s) = some (-1) := by
  have hn := h.le
  unfold f_Grid_columnOf
  rcases col_L h hr (fun v => some v) FU 0 (by omega) (FU_gt (by omega)) (by intro c' h; omega) hs with ⟨c', h1, h2, h3⟩ | ⟨h1, h2⟩
  · exact absurd h2 (he c' h1)
  · exact h2
theorem empt_ok (h : GOK σ k n B) : f_Grid_emptyCells σ k = some (nI (n * n) - nI (cnt B)) := by
  unfold f_Grid_emptyCells
  rw [h.ord, h.fil, nI_mul]
end GO
