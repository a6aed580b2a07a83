/-! what each operation asks first -/
section FA
variable {σ : St} {M : Nat} {N : Nat → Nat} {B : Nat → Nat → Nat → Nat}
theorem CW.le (h : CW σ M N B) : M ≤ 12 := h.1
theorem CW.g (h : CW σ M N B) {j : Nat} (hj : j < M) : GOK σ (gid j) (N j) (B j) := h.2.2 j hj
theorem MW.le (h : MW σ M N B) : M ≤ 12 := h.1.1
theorem MW.wf (h : MW σ M N B) {j : Nat} (hj : j < M) : Wf (N j) (B j) := h.1.2 j hj
theorem MW.n (h : MW σ M N B) {j : Nat} (hj : j < M) : 2 ≤ N j ∧ N j ≤ 5 := ⟨(h.wf hj).1, (h.wf hj).2.1⟩
theorem MW.od (h : MW σ M N B) {j : Nat} (hj : j < M) : σ 83 j = nI (N j) := h.2.2.1 j hj
theorem MW.ce (h : MW σ M N B) {j r c : Nat} (hj : j < M) (hr : r < N j) (hc : c < N j) : σ 84 (25 * j + N j * r + c) = ce (B j r c) := h.2.2.2 j r c hj hr hc
theorem gridAt_in (h : CW σ M N B) {j : Nat} (hj : j < M) : f_Q_gridAt σ (nI j) = some (.ok (gid j), σ) := by
  have hM := h.le
  unfold f_Q_gridAt
  simp (disch := omega) only [h.2.1, and_self, and_true, true_and, and_false, false_and, cap_some, cal_some, cax_ok, cax_er, jn_eq, lt1_eq, sto_eq, ald_nI, ast_nI, gld_nI, fac_nI, lt_nI, le_nI, eq_nI, nI_1, nI_add, nI_mul, cell5, cell25, ce_m1, if_pos, if_neg, ↓reduceIte, if_true, if_false, lt_l0, le_l0, eq_l0, ll_t0, add_l0, lt_l1, le_l1, eq_l1, ll_t1, add_l1, lt_l2, le_l2, eq_l2, ll_t2, add_l2, lt_l3, le_l3, eq_l3, ll_t3, add_l3, lt_l4, le_l4, eq_l4, ll_t4, add_l4, lt_l5, le_l5, eq_l5, ll_t5, add_l5, lt_l6, le_l6, eq_l6, ll_t6, add_l6, lt_l10, le_l10, eq_l10, ll_t10, add_l10, lt_l12, le_l12, eq_l12, ll_t12, add_l12, lt_l25, le_l25, eq_l25, ll_t25, add_l25, lt_l40, le_l40, eq_l40, ll_t40, add_l40, lt_l41, le_l41, eq_l41, ll_t41, add_l41, lt_l42, le_l42, eq_l42, ll_t42, add_l42, lt_l61, le_l61, eq_l61, ll_t61, add_l61, lt_l120, le_l120, eq_l120, ll_t120, add_l120, lt_l121, le_l121, eq_l121, ll_t121, add_l121, lt_l122, le_l122, eq_l122, ll_t122, add_l122, lt_l576, le_l576, eq_l576, ll_t576, add_l576, lt_l600, le_l600, eq_l600, ll_t600, add_l600, lt_l1000, le_l1000, eq_l1000, ll_t1000, add_l1000]
theorem gridAt_out (h : CW σ M N B) {x : Int32} (hx : x < 0 ∨ nI M ≤ x) : f_Q_gridAt σ x = some (.error 1, σ) := by
  unfold f_Q_gridAt
  simp only [jn_eq, h.2.1]
  rcases hx with hx | hx
  · rw [if_pos hx]
  · rw [if_neg (Int32.not_lt.mpr hx), ite_self]
theorem nst0 {τ : St} : f_Q_needState τ 0 = some (.error 3, τ) := rfl
theorem nst1 {τ : St} : f_Q_needState τ 1 = some (.ok (), τ) := rfl
theorem nar0 {τ : St} : f_Q_needArgument τ 0 = some (.error 2, τ) := rfl
theorem nar1 {τ : St} : f_Q_needArgument τ 1 = some (.ok (), τ) := rfl
theorem nst {τ : St} (b : Bool) : f_Q_needState τ (bI b) = if b = true then some (.ok (), τ) else some (.error 3, τ) := by cases b <;> rfl
theorem nar {τ : St} (b : Bool) : f_Q_needArgument τ (bI b) = if b = true then some (.ok (), τ) else some (.error 2, τ) := by cases b <;> rfl
def btw (v a b : Int32) : Bool := decide (¬ v < a) && decide (v ≤ b)
theorem isFrom_ok {τ : St} (v a b : Int32) : f_Q_isFrom τ v a b = some (bI (btw v a b)) := by
  unfold f_Q_isFrom btw
  by_cases h1 : v < a
  · simp [jn_eq, h1, bI]
  · by_cases h2 : v ≤ b <;> simp [jn_eq, h1, h2, bI]
theorem rbtw {τ : St} (v a b : Int32) : f_R_between τ v a b = some (bI (btw v a b)) := by
  unfold f_R_between btw
  by_cases h1 : v < a
  · simp [jn_eq, h1, bI]
  · by_cases h2 : v ≤ b <;> simp [jn_eq, h1, h2, bI]
theorem zb_bI (b : Bool) : zb (bI b) = bI b := by cases b <;> rfl
theorem btw_nI {a b v : Nat} (ha : a < 2 ^ 31) (hb : b < 2 ^ 31) (hv : v < 2 ^ 31) : btw (nI v) (nI a) (nI b) = decide (a ≤ v ∧ v ≤ b) := by
  unfold btw
  rw [Bool.eq_iff_iff, Bool.and_eq_true, decide_eq_true_iff, decide_eq_true_iff, decide_eq_true_iff, lt_nI hv ha, le_nI hv hb, Nat.not_lt]
theorem btw_iff {v : Int32} {a b : Nat} (ha : a < 2 ^ 30) (hb : b < 2 ^ 30) : btw v (nI a) (nI b) = true ↔ ∃ j, a ≤ j ∧ j ≤ b ∧ v = nI j := by
  constructor
  · intro h
    rcases i32_cases v (b + 1) (by omega) with ⟨j, hj, rfl⟩ | hx | hx
    · rw [btw_nI (by omega) (by omega) (by omega)] at h
      exact ⟨j, (of_decide_eq_true h).1, by omega, rfl⟩
    · exfalso
      have h1 : v < nI a := Int32.lt_of_lt_of_le hx (nI_pos' (by omega))
      simp [btw, h1] at h
    · exfalso
      have h1 : ¬ v ≤ nI b := fun h2 => nI_ge (a := b) (b := b + 1) (by omega) (by omega) (Int32.le_trans hx h2)
      simp [btw, h1] at h
  · rintro ⟨j, h1, h2, rfl⟩
    rw [btw_nI (by omega) (by omega) (by omega)]
    exact decide_eq_true ⟨h1, h2⟩
theorem rgrid_in (h : MW σ M N B) {j : Nat} (hj : j < M) : f_R_isGrid σ (nI j) = some 1 := by
  have hM := h.le
  unfold f_R_isGrid
  rw [rbtw, h.2.1, show M = (M - 1) + 1 by omega, nI_pred, show (0 : Int32) = nI 0 from rfl, btw_nI (by omega) (by omega) (by omega)]
  simp only [cap_some, zb_bI]
  rw [show decide (0 ≤ j ∧ j ≤ M - 1) = true by simp; omega]
  rfl
theorem rgrid_out (h : MW σ M N B) {x : Int32} (hx : x < 0 ∨ nI M ≤ x) : f_R_isGrid σ x = some 0 := by
  have hM := h.le
  unfold f_R_isGrid
  rw [rbtw, h.2.1]
  have e : btw x 0 (nI M - 1) = false := by
    rcases hx with hx | hx
    · simp [btw, hx]
    · by_cases h0 : M = 0
      · subst h0
        by_cases hx0 : x < 0
        · simp [btw, hx0]
        · have h1 : ¬ x ≤ nI 0 - 1 := fun h2 => hx0 (Int32.lt_of_le_of_lt h2 (by decide))
          simp only [btw, h1, decide_false, Bool.and_false]
      · have h1 : ¬ x ≤ nI M - 1 := fun h2 => by
          rw [show M = (M - 1) + 1 by omega, nI_pred] at h2
          exact nI_ge (a := M - 1) (b := M) (by omega) (by omega) (Int32.le_trans hx h2)
        simp only [btw, h1, decide_false, Bool.and_false]
  rw [e]
  rfl
theorem c25 {j r c n : Nat} : 25 * nI j + nI n * nI r + nI c = nI (25 * j + n * r + c) := by
  rw [show (25 : Int32) = nI 25 from rfl]
  simp only [nI_mul, nI_add]
theorem at_ok (h : MW σ M N B) {j r c : Nat} (hj : j < M) (hr : r < N j) (hc : c < N j) : f_R_at σ (nI j) (nI r) (nI c) = some (ce (B j r c)) := by
  have hM := h.le; have hn := h.n hj
  have hb : N j * r + c < 25 := by
    have h1 : N j * r ≤ N j * (N j - 1) := Nat.mul_le_mul_left _ (by omega)
    have h2 : N j * (N j - 1) ≤ 5 * (N j - 1) := Nat.mul_le_mul_right _ (by omega)
    omega
  unfold f_R_at
  rw [ald_nI (by omega) (by decide), h.od hj, c25, ald_nI (by omega) (by decide), h.ce hj hr hc]
end FA
