/-! turned from whole: 54.gset -/
section GSET
variable {σ : St} {k n : Nat} {B : Nat → Nat → Nat}
theorem Wf.row1 (h : Wf n B) {r c s : Nat} (he : B r c = s + 1) {c' : Nat} (hc : c' ≠ c) : B r c' ≠ s + 1 := fun e => hc (h.2.2.2.1 r c c' (by omega) (by omega)).symm
theorem Wf.col1 (h : Wf n B) {r c s : Nat} (he : B r c = s + 1) {r' : Nat} (hr : r' ≠ r) : B r' c ≠ s + 1 := fun e => hr (h.2.2.2.2 r r' c (by omega) (by omega)).symm
theorem rowHas_up (h : Wf n B) {r c v r' : Nat} (hc : c < 5) (s : Nat) : rowHas (upB B r c v) r' s = if r' = r then (rowHas B r s && !decide (B r c = s + 1)) || decide (v = s + 1) else rowHas B r' s := by
  by_cases hr : r' = r
  · subst hr
    rw [if_pos rfl, Bool.eq_iff_iff, rowHas_iff, Bool.or_eq_true, Bool.and_eq_true, rowHas_iff]
    simp only [Bool.not_eq_true', decide_eq_false_iff_not, decide_eq_true_eq]
    constructor
    · rintro ⟨c', h1, h2⟩
      by_cases hcc : c' = c
      · subst hcc; rw [upB_at] at h2; exact Or.inr h2
      · rw [upB_ne (by omega)] at h2
        refine Or.inl ⟨⟨c', h1, h2⟩, fun e => h.row1 e hcc h2⟩
    · rintro (⟨⟨c', h1, h2⟩, h3⟩ | h4)
      · have hcc : c' ≠ c := by intro e; subst e; exact h3 h2
        exact ⟨c', h1, by rw [upB_ne (by omega)]; exact h2⟩
      · exact ⟨c, hc, by rw [upB_at]; exact h4⟩
  · rw [if_neg hr, Bool.eq_iff_iff, rowHas_iff, rowHas_iff]
    constructor
    · rintro ⟨c', h1, h2⟩; exact ⟨c', h1, by rwa [upB_ne (by omega)] at h2⟩
    · rintro ⟨c', h1, h2⟩; exact ⟨c', h1, by rwa [upB_ne (by omega)]⟩
theorem colHas_up (h : Wf n B) {r c v c' : Nat} (hr : r < 5) (s : Nat) : colHas (upB B r c v) c' s = if c' = c then (colHas B c s && !decide (B r c = s + 1)) || decide (v = s + 1) else colHas B c' s := by
  by_cases hc : c' = c
  · subst hc
    rw [if_pos rfl, Bool.eq_iff_iff, colHas_iff, Bool.or_eq_true, Bool.and_eq_true, colHas_iff]
    simp only [Bool.not_eq_true', decide_eq_false_iff_not, decide_eq_true_eq]
    constructor
    · rintro ⟨r', h1, h2⟩
      by_cases hcc : r' = r
      · subst hcc; rw [upB_at] at h2; exact Or.inr h2
      · rw [upB_ne (by omega)] at h2
        refine Or.inl ⟨⟨r', h1, h2⟩, fun e => h.col1 e hcc h2⟩
    · rintro (⟨⟨r', h1, h2⟩, h3⟩ | h4)
      · have hcc : r' ≠ r := by intro e; subst e; exact h3 h2
        exact ⟨r', h1, by rw [upB_ne (by omega)]; exact h2⟩
      · exact ⟨r, hr, by rw [upB_at]; exact h4⟩
  · rw [if_neg hc, Bool.eq_iff_iff, colHas_iff, colHas_iff]
    constructor
    · rintro ⟨c', h1, h2⟩; exact ⟨c', h1, by rwa [upB_ne (by omega)] at h2⟩
    · rintro ⟨c', h1, h2⟩; exact ⟨c', h1, by rwa [upB_ne (by omega)]⟩
/-- what set leaves behind -/
def setSt (σ : St) (k r c a v : Nat) : St :=
  let σ1 := if a = 0 then σ else wr (wr (wr σ (k + 2) r (σ (k + 2) r &&& ((1 <<< (nI (a - 1) &&& 31)) ^^^ (-1)))) (k + 3) c (σ (k + 3) c &&& ((1 <<< (nI (a - 1) &&& 31)) ^^^ (-1)))) k 4 (σ k 4 - 1)
  let σ2 := if v = 0 then σ1 else wr (wr (wr σ1 (k + 2) r (σ1 (k + 2) r ||| (1 <<< (nI (v - 1) &&& 31)))) (k + 3) c (σ1 (k + 3) c ||| (1 <<< (nI (v - 1) &&& 31)))) k 4 (σ1 k 4 + 1)
  wr σ2 (k + 1) (5 * r + c) (ce v)
theorem set_eq (h : GOK σ k n B) {r c v : Nat} (hr : r < n) (hc : c < n) (hv : v ≤ n) : f_Grid_set σ k (nI r) (nI c) (ce v) = some ((), setSt σ k r c (B r c) v) := by
  have hn := h.le
  have ho := h.ord
  have hb := h.1.bd r c
  have e := h.cel (r := r) (c := c) (by omega) (by omega)
  have c1 : ¬ ce v < -1 := by
    cases v with
    | zero => decide
    | succ v => rw [ce_s]; exact fun h => nI_pos (n := v) (by omega) (Int32.lt_trans h (by decide))
  have c2 : ce v < nI n := by
    cases v with
    | zero => rw [ce_0]; exact (by rw [neg1_lt (by omega)]; trivial)
    | succ v => rw [ce_s]; exact nI_lt (by omega) (by omega)
  unfold f_Grid_set setSt
  simp (disch := omega) only [has_in h hr hc, e, ho, c1, c2, and_self, and_true, true_and, and_false, false_and, cap_some, cal_some, cax_ok, cax_er, jn_eq, lt1_eq, sto_eq, ald_nI, ast_nI, gld_nI, lt_nI, le_nI, eq_nI, nI_1, nI_add, nI_mul, cell5, cell25, ce_m1, if_pos, if_neg, ↓reduceIte, if_true, if_false, lt_l0, le_l0, eq_l0, ll_t0, add_l0, lt_l1, le_l1, eq_l1, ll_t1, add_l1, lt_l2, le_l2, eq_l2, ll_t2, add_l2, lt_l3, le_l3, eq_l3, ll_t3, add_l3, lt_l4, le_l4, eq_l4, ll_t4, add_l4, lt_l5, le_l5, eq_l5, ll_t5, add_l5, lt_l6, le_l6, eq_l6, ll_t6, add_l6, lt_l10, le_l10, eq_l10, ll_t10, add_l10, lt_l12, le_l12, eq_l12, ll_t12, add_l12, lt_l25, le_l25, eq_l25, ll_t25, add_l25, lt_l40, le_l40, eq_l40, ll_t40, add_l40, lt_l41, le_l41, eq_l41, ll_t41, add_l41, lt_l42, le_l42, eq_l42, ll_t42, add_l42, lt_l61, le_l61, eq_l61, ll_t61, add_l61, lt_l120, le_l120, eq_l120, ll_t120, add_l120, lt_l121, le_l121, eq_l121, ll_t121, add_l121, lt_l122, le_l122, eq_l122, ll_t122, add_l122, lt_l576, le_l576, eq_l576, ll_t576, add_l576, lt_l600, le_l600, eq_l600, ll_t600, add_l600, lt_l1000, le_l1000, eq_l1000, ll_t1000, add_l1000]
  rw [if_neg (by decide)]
  generalize B r c = a at *
  cases a with
  | zero =>
    cases v with
    | zero => simp (disch := omega) only [ce_0, and_self, and_true, true_and, and_false, false_and, cap_some, cal_some, cax_ok, cax_er, jn_eq, lt1_eq, sto_eq, ald_nI, ast_nI, gld_nI, lt_nI, le_nI, eq_nI, nI_1, nI_add, nI_mul, cell5, cell25, ce_m1, if_pos, if_neg, ↓reduceIte, if_true, if_false, lt_l0, le_l0, eq_l0, ll_t0, add_l0, lt_l1, le_l1, eq_l1, ll_t1, add_l1, lt_l2, le_l2, eq_l2, ll_t2, add_l2, lt_l3, le_l3, eq_l3, ll_t3, add_l3, lt_l4, le_l4, eq_l4, ll_t4, add_l4, lt_l5, le_l5, eq_l5, ll_t5, add_l5, lt_l6, le_l6, eq_l6, ll_t6, add_l6, lt_l10, le_l10, eq_l10, ll_t10, add_l10, lt_l12, le_l12, eq_l12, ll_t12, add_l12, lt_l25, le_l25, eq_l25, ll_t25, add_l25, lt_l40, le_l40, eq_l40, ll_t40, add_l40, lt_l41, le_l41, eq_l41, ll_t41, add_l41, lt_l42, le_l42, eq_l42, ll_t42, add_l42, lt_l61, le_l61, eq_l61, ll_t61, add_l61, lt_l120, le_l120, eq_l120, ll_t120, add_l120, lt_l121, le_l121, eq_l121, ll_t121, add_l121, lt_l122, le_l122, eq_l122, ll_t122, add_l122, lt_l576, le_l576, eq_l576, ll_t576, add_l576, lt_l600, le_l600, eq_l600, ll_t600, add_l600, lt_l1000, le_l1000, eq_l1000, ll_t1000, add_l1000]
    | succ v => simp (disch := omega) only [ce_s, Nat.add_sub_cancel, wr_get, and_self, and_true, true_and, and_false, false_and, cap_some, cal_some, cax_ok, cax_er, jn_eq, lt1_eq, sto_eq, ald_nI, ast_nI, gld_nI, lt_nI, le_nI, eq_nI, nI_1, nI_add, nI_mul, cell5, cell25, ce_m1, if_pos, if_neg, ↓reduceIte, if_true, if_false, lt_l0, le_l0, eq_l0, ll_t0, add_l0, lt_l1, le_l1, eq_l1, ll_t1, add_l1, lt_l2, le_l2, eq_l2, ll_t2, add_l2, lt_l3, le_l3, eq_l3, ll_t3, add_l3, lt_l4, le_l4, eq_l4, ll_t4, add_l4, lt_l5, le_l5, eq_l5, ll_t5, add_l5, lt_l6, le_l6, eq_l6, ll_t6, add_l6, lt_l10, le_l10, eq_l10, ll_t10, add_l10, lt_l12, le_l12, eq_l12, ll_t12, add_l12, lt_l25, le_l25, eq_l25, ll_t25, add_l25, lt_l40, le_l40, eq_l40, ll_t40, add_l40, lt_l41, le_l41, eq_l41, ll_t41, add_l41, lt_l42, le_l42, eq_l42, ll_t42, add_l42, lt_l61, le_l61, eq_l61, ll_t61, add_l61, lt_l120, le_l120, eq_l120, ll_t120, add_l120, lt_l121, le_l121, eq_l121, ll_t121, add_l121, lt_l122, le_l122, eq_l122, ll_t122, add_l122, lt_l576, le_l576, eq_l576, ll_t576, add_l576, lt_l600, le_l600, eq_l600, ll_t600, add_l600, lt_l1000, le_l1000, eq_l1000, ll_t1000, add_l1000]
  | succ a =>
    cases v with
    | zero => simp (disch := omega) only [ce_0, ce_s, Nat.add_sub_cancel, wr_get, and_self, and_true, true_and, and_false, false_and, cap_some, cal_some, cax_ok, cax_er, jn_eq, lt1_eq, sto_eq, ald_nI, ast_nI, gld_nI, lt_nI, le_nI, eq_nI, nI_1, nI_add, nI_mul, cell5, cell25, ce_m1, if_pos, if_neg, ↓reduceIte, if_true, if_false, lt_l0, le_l0, eq_l0, ll_t0, add_l0, lt_l1, le_l1, eq_l1, ll_t1, add_l1, lt_l2, le_l2, eq_l2, ll_t2, add_l2, lt_l3, le_l3, eq_l3, ll_t3, add_l3, lt_l4, le_l4, eq_l4, ll_t4, add_l4, lt_l5, le_l5, eq_l5, ll_t5, add_l5, lt_l6, le_l6, eq_l6, ll_t6, add_l6, lt_l10, le_l10, eq_l10, ll_t10, add_l10, lt_l12, le_l12, eq_l12, ll_t12, add_l12, lt_l25, le_l25, eq_l25, ll_t25, add_l25, lt_l40, le_l40, eq_l40, ll_t40, add_l40, lt_l41, le_l41, eq_l41, ll_t41, add_l41, lt_l42, le_l42, eq_l42, ll_t42, add_l42, lt_l61, le_l61, eq_l61, ll_t61, add_l61, lt_l120, le_l120, eq_l120, ll_t120, add_l120, lt_l121, le_l121, eq_l121, ll_t121, add_l121, lt_l122, le_l122, eq_l122, ll_t122, add_l122, lt_l576, le_l576, eq_l576, ll_t576, add_l576, lt_l600, le_l600, eq_l600, ll_t600, add_l600, lt_l1000, le_l1000, eq_l1000, ll_t1000, add_l1000]
    | succ v => simp (disch := omega) only [ce_s, Nat.add_sub_cancel, wr_get, and_self, and_true, true_and, and_false, false_and, cap_some, cal_some, cax_ok, cax_er, jn_eq, lt1_eq, sto_eq, ald_nI, ast_nI, gld_nI, lt_nI, le_nI, eq_nI, nI_1, nI_add, nI_mul, cell5, cell25, ce_m1, if_pos, if_neg, ↓reduceIte, if_true, if_false, lt_l0, le_l0, eq_l0, ll_t0, add_l0, lt_l1, le_l1, eq_l1, ll_t1, add_l1, lt_l2, le_l2, eq_l2, ll_t2, add_l2, lt_l3, le_l3, eq_l3, ll_t3, add_l3, lt_l4, le_l4, eq_l4, ll_t4, add_l4, lt_l5, le_l5, eq_l5, ll_t5, add_l5, lt_l6, le_l6, eq_l6, ll_t6, add_l6, lt_l10, le_l10, eq_l10, ll_t10, add_l10, lt_l12, le_l12, eq_l12, ll_t12, add_l12, lt_l25, le_l25, eq_l25, ll_t25, add_l25, lt_l40, le_l40, eq_l40, ll_t40, add_l40, lt_l41, le_l41, eq_l41, ll_t41, add_l41, lt_l42, le_l42, eq_l42, ll_t42, add_l42, lt_l61, le_l61, eq_l61, ll_t61, add_l61, lt_l120, le_l120, eq_l120, ll_t120, add_l120, lt_l121, le_l121, eq_l121, ll_t121, add_l121, lt_l122, le_l122, eq_l122, ll_t122, add_l122, lt_l576, le_l576, eq_l576, ll_t576, add_l576, lt_l600, le_l600, eq_l600, ll_t600, add_l600, lt_l1000, le_l1000, eq_l1000, ll_t1000, add_l1000]
end GSET
/-! turned from whole: 55.gset2 -/
section GSET2
variable {σ : St} {k n : Nat} {B : Nat → Nat → Nat}
theorem setSt_fr {r c a v m : Nat} (h : m < k ∨ k + 3 < m) : setSt σ k r c a v m = σ m := by
  unfold setSt
  by_cases ha : a = 0 <;> by_cases hv : v = 0 <;> simp (disch := omega) only [ha, hv, if_true, if_false, wr_ne]
theorem setSt_3 {r c a v : Nat} : setSt σ k r c a v k 3 = σ k 3 := by
  unfold setSt
  by_cases ha : a = 0 <;> by_cases hv : v = 0 <;> simp (disch := omega) only [ha, hv, if_true, if_false, wr_get, and_self, and_true, true_and, and_false, false_and, if_neg, if_pos]
theorem setSt_4 {r c a v : Nat} : setSt σ k r c a v k 4 = σ k 4 - (if a = 0 then 0 else 1) + (if v = 0 then 0 else 1) := by
  unfold setSt
  by_cases ha : a = 0 <;> by_cases hv : v = 0 <;> simp (disch := omega) only [ha, hv, if_true, if_false, wr_get, and_self, and_true, true_and, and_false, false_and, if_neg, if_pos, Int32.sub_zero, Int32.add_zero]
theorem setSt_c {r c a v j : Nat} : setSt σ k r c a v (k + 1) j = if j = 5 * r + c then ce v else σ (k + 1) j := by
  unfold setSt
  by_cases ha : a = 0 <;> by_cases hv : v = 0 <;> simp (disch := omega) only [ha, hv, if_true, if_false, wr_get, and_self, and_true, true_and, and_false, false_and, if_neg, if_pos, true_and, false_and]
  all_goals (by_cases hj : j = 5 * r + c <;> simp (disch := omega) only [hj, if_true, if_false, if_neg, if_pos, and_true, and_false, true_and])
theorem setSt_r {r c a v j : Nat} {p : Nat → Bool} (ha5 : a ≤ 5) (hv5 : v ≤ 5) (hp : σ (k + 2) j = sI p) : setSt σ k r c a v (k + 2) j = sI (fun s => if j = r then (p s && !decide (a = s + 1)) || decide (v = s + 1) else p s) := by
  unfold setSt
  by_cases hj : j = r
  · subst hj
    cases a with
    | zero =>
      cases v with
      | zero =>
        simp (disch := omega) only [if_true, wr_get, and_self, and_true, true_and, and_false, false_and, if_neg]
        rw [hp]; apply sI_cong; intro s hs; simp
      | succ v =>
        simp (disch := omega) only [if_true, wr_get, and_self, and_true, true_and, and_false, false_and, if_neg, if_pos, Nat.add_sub_cancel]
        rw [hp, sI_one (by omega), sI_or]; apply sI_cong; intro s hs; simp [eq_comm]
    | succ a =>
      cases v with
      | zero =>
        simp (disch := omega) only [if_true, wr_get, and_self, and_true, true_and, and_false, false_and, if_neg, if_pos, Nat.add_sub_cancel]
        rw [hp, sI_one (by omega), sI_andn]; apply sI_cong; intro s hs; simp [eq_comm]
      | succ v =>
        simp (disch := omega) only [if_true, wr_get, and_self, and_true, true_and, and_false, false_and, if_neg, if_pos, Nat.add_sub_cancel]
        rw [hp, sI_one (by omega), sI_andn, sI_one (by omega), sI_or]; apply sI_cong; intro s hs; simp [eq_comm]
  · by_cases ha : a = 0 <;> by_cases hv : v = 0 <;> simp (disch := omega) only [ha, hv, if_true, if_false, wr_get, and_self, and_true, true_and, and_false, false_and, if_neg, if_pos, hp]
theorem setSt_k {r c a v j : Nat} {p : Nat → Bool} (ha5 : a ≤ 5) (hv5 : v ≤ 5) (hp : σ (k + 3) j = sI p) : setSt σ k r c a v (k + 3) j = sI (fun s => if j = c then (p s && !decide (a = s + 1)) || decide (v = s + 1) else p s) := by
  unfold setSt
  by_cases hj : j = c
  · subst hj
    cases a with
    | zero =>
      cases v with
      | zero =>
        simp (disch := omega) only [if_true, wr_get, and_self, and_true, true_and, and_false, false_and, if_neg]
        rw [hp]; apply sI_cong; intro s hs; simp
      | succ v =>
        simp (disch := omega) only [if_true, wr_get, and_self, and_true, true_and, and_false, false_and, if_neg, if_pos, Nat.add_sub_cancel]
        rw [hp, sI_one (by omega), sI_or]; apply sI_cong; intro s hs; simp [eq_comm]
    | succ a =>
      cases v with
      | zero =>
        simp (disch := omega) only [if_true, wr_get, and_self, and_true, true_and, and_false, false_and, if_neg, if_pos, Nat.add_sub_cancel]
        rw [hp, sI_one (by omega), sI_andn]; apply sI_cong; intro s hs; simp [eq_comm]
      | succ v =>
        simp (disch := omega) only [if_true, wr_get, and_self, and_true, true_and, and_false, false_and, if_neg, if_pos, Nat.add_sub_cancel]
        rw [hp, sI_one (by omega), sI_andn, sI_one (by omega), sI_or]; apply sI_cong; intro s hs; simp [eq_comm]
  · by_cases ha : a = 0 <;> by_cases hv : v = 0 <;> simp (disch := omega) only [ha, hv, if_true, if_false, wr_get, and_self, and_true, true_and, and_false, false_and, if_neg, if_pos, hp]
theorem set_GOK (h : GOK σ k n B) {r c v : Nat} (hr : r < n) (hc : c < n) (hv : v ≤ n) (hw : Wf n (upB B r c v)) : GOK (setSt σ k r c (B r c) v) k n (upB B r c v) := by
  have hn := h.le
  have hb := h.1.bd r c
  refine ⟨hw, ?_, ?_, ?_, ?_, ?_⟩
  · rw [setSt_3]; exact h.ord
  · rw [setSt_4, h.fil]
    have hu := cnt_up (B := B) (r := r) (c := c) (v := v) (by omega) (by omega)
    generalize cnt (upB B r c v) = x at *
    generalize cnt B = y at *
    by_cases ha : B r c = 0 <;> by_cases hv : v = 0 <;> simp only [ha, hv, if_true, if_false, Int32.sub_zero, Int32.add_zero] at hu ⊢
    · rw [show x = y by omega]
    · rw [show x = y + 1 by omega, nI_1]
    · rw [show y = x + 1 by omega, nI_pred]
    · rw [show x = y by omega]; exact Int32.sub_add_cancel _ _
  · intro r' c' hr' hc'
    rw [setSt_c]
    by_cases hcc : r' = r ∧ c' = c
    · rw [if_pos (by omega), hcc.1, hcc.2, upB_at]
    · rw [if_neg (by omega), upB_ne hcc, h.cel hr' hc']
  · intro r' hr'
    rw [setSt_r hb (by omega) (h.row hr')]
    apply sI_cong
    intro s hs
    rw [rowHas_up h.1 (by omega)]
    by_cases e : r' = r
    · rw [if_pos e, if_pos e, e]
    · rw [if_neg e, if_neg e]
  · intro c' hc'
    rw [setSt_k hb (by omega) (h.col hc')]
    apply sI_cong
    intro s hs
    rw [colHas_up h.1 (by omega)]
    by_cases e : c' = c
    · rw [if_pos e, if_pos e, e]
    · rw [if_neg e, if_neg e]
/-- writing a sign that may stand there, or taking one away, keeps the law -/
theorem Wf.put0 (h : Wf n B) (r c : Nat) : Wf n (upB B r c 0) := by
  refine ⟨h.1, h.2.1, ?_, ?_, ?_⟩
  · intro r' c' h0
    by_cases hcc : r' = r ∧ c' = c
    · obtain ⟨rfl, rfl⟩ := hcc; rw [upB_at] at h0; exact absurd rfl h0
    · rw [upB_ne hcc] at h0 ⊢; exact h.2.2.1 r' c' h0
  · intro r' c' c'' h0 he
    have hcc : ¬ (r' = r ∧ c' = c) := by rintro ⟨rfl, rfl⟩; rw [upB_at] at h0; exact h0 rfl
    rw [upB_ne hcc] at h0 he
    have hcd : ¬ (r' = r ∧ c'' = c) := by rintro ⟨rfl, rfl⟩; rw [upB_at] at he; exact h0 he
    rw [upB_ne hcd] at he
    exact h.2.2.2.1 r' c' c'' h0 he
  · intro r' r'' c' h0 he
    have hcc : ¬ (r' = r ∧ c' = c) := by rintro ⟨rfl, rfl⟩; rw [upB_at] at h0; exact h0 rfl
    rw [upB_ne hcc] at h0 he
    have hcd : ¬ (r'' = r ∧ c' = c) := by rintro ⟨rfl, rfl⟩; rw [upB_at] at he; exact h0 he
    rw [upB_ne hcd] at he
    exact h.2.2.2.2 r' r'' c' h0 he
theorem Wf.put (h : Wf n B) {r c s : Nat} (hr : r < n) (hc : c < n) (hs : s < n) (h1 : ∀ c', c' ≠ c → B r c' ≠ s + 1) (h2 : ∀ r', r' ≠ r → B r' c ≠ s + 1) : Wf n (upB B r c (s + 1)) := by
  refine ⟨h.1, h.2.1, ?_, ?_, ?_⟩
  · intro r' c' h0
    by_cases hcc : r' = r ∧ c' = c
    · obtain ⟨rfl, rfl⟩ := hcc; rw [upB_at]; omega
    · rw [upB_ne hcc] at h0 ⊢; exact h.2.2.1 r' c' h0
  · intro r' c' c'' h0 he
    by_cases hcc : r' = r ∧ c' = c
    · obtain ⟨rfl, rfl⟩ := hcc
      by_cases hcd : c'' = c'
      · exact hcd.symm
      · rw [upB_at, upB_ne (by omega)] at he
        exact absurd he.symm (h1 c'' hcd)
    · rw [upB_ne hcc] at h0 he
      by_cases hcd : r' = r ∧ c'' = c
      · obtain ⟨rfl, rfl⟩ := hcd
        rw [upB_at] at he
        exact absurd he (h1 c' (by omega))
      · rw [upB_ne hcd] at he
        exact h.2.2.2.1 r' c' c'' h0 he
  · intro r' r'' c' h0 he
    by_cases hcc : r' = r ∧ c' = c
    · obtain ⟨rfl, rfl⟩ := hcc
      by_cases hcd : r'' = r'
      · exact hcd.symm
      · rw [upB_at, upB_ne (by omega)] at he
        exact absurd he.symm (h2 r'' hcd)
    · rw [upB_ne hcc] at h0 he
      by_cases hcd : r'' = r ∧ c' = c
      · obtain ⟨rfl, rfl⟩ := hcd
        rw [upB_at] at he
        exact absurd he (h2 r' (by omega))
      · rw [upB_ne hcd] at he
        exact h.2.2.2.2 r' r'' c' h0 he
theorem opt_iff {r c s : Nat} : opt n B r c s = true ↔ B r c = 0 ∧ s < n ∧ (∀ c', c' < 5 → B r c' ≠ s + 1) ∧ ∀ r', r' < 5 → B r' c ≠ s + 1 := by
  simp only [opt, Bool.and_eq_true, decide_eq_true_eq, Bool.not_eq_true', and_assoc]
  constructor
  · rintro ⟨h1, h2, h3, h4⟩
    refine ⟨h1, h2, fun c' hc e => ?_, fun r' hr e => ?_⟩
    · rw [rowHas_iff.mpr ⟨c', hc, e⟩] at h3; cases h3
    · rw [colHas_iff.mpr ⟨r', hr, e⟩] at h4; cases h4
  · rintro ⟨h1, h2, h3, h4⟩
    refine ⟨h1, h2, ?_, ?_⟩
    · apply Bool.eq_false_iff.mpr
      intro e; obtain ⟨c', hc, e⟩ := rowHas_iff.mp e; exact h3 c' hc e
    · apply Bool.eq_false_iff.mpr
      intro e; obtain ⟨r', hr, e⟩ := colHas_iff.mp e; exact h4 r' hr e
theorem Wf.opt (h : Wf n B) {r c s : Nat} (hr : r < n) (hc : c < n) (ho : opt n B r c s = true) : Wf n (upB B r c (s + 1)) := by
  obtain ⟨h1, h2, h3, h4⟩ := opt_iff.mp ho
  have hn := h.2.1
  refine h.put hr hc h2 (fun c' _ e => ?_) (fun r' _ e => ?_)
  · have := h.2.2.1 r c' (by omega); exact h3 c' (by omega) e
  · have := h.2.2.1 r' c (by omega); exact h4 r' (by omega) e
theorem upB_self {r c : Nat} : upB B r c (B r c) = B := by
  funext r' c'; unfold upB; split
  · rename_i h; rw [h.1, h.2]
  · rfl
def B0 : Nat → Nat → Nat := fun _ _ => 0
theorem Wf0 (h1 : 2 ≤ n) (h2 : n ≤ 5) : Wf n B0 := ⟨h1, h2, fun _ _ h => absurd rfl h, fun _ _ _ h => absurd rfl h, fun _ _ _ h => absurd rfl h⟩
theorem cnt_B0 : cnt B0 = 0 := by decide
theorem row_B0 (r s : Nat) : rowHas B0 r s = false := by
  apply Bool.eq_false_iff.mpr
  intro e; obtain ⟨c, _, h⟩ := rowHas_iff.mp e; cases h
theorem col_B0 (r s : Nat) : colHas B0 r s = false := by
  apply Bool.eq_false_iff.mpr
  intro e; obtain ⟨c, _, h⟩ := colHas_iff.mp e; cases h
theorem clear_e {n : Nat} (h1 : 2 ≤ n) (h2 : n ≤ 5) : mmax 2 (mmin (nI n) 5) = nI n := by
  have e1 : ¬ ((5 : Int32) < nI n) := by rw [ll_t5 (by omega)]; omega
  unfold mmax mmin
  rw [if_neg e1]
  by_cases h : (2 : Int32) < nI n
  · rw [if_pos h]
  · rw [if_neg h]
    rw [ll_t2 (by omega)] at h
    rw [show n = 2 by omega]
    rfl
theorem clear_L20 (k : Nat) (σ : St) (K : St → Option (Unit × St)) : ∃ τ, f_Grid_clear_L20 k K FU 0 σ = K τ ∧ (∀ j, j < 25 → τ (k + 1) j = -1) ∧ ∀ m, m ≠ k + 1 → τ m = σ m := by
  refine loopE (fun m i (τ : St) => f_Grid_clear_L20 k K m (nI i) τ) 25
    (fun i τ => (∀ j, j < i → τ (k + 1) j = -1) ∧ ∀ m, m ≠ k + 1 → τ m = σ m)
    (fun R => ∃ τ, R = K τ ∧ (∀ j, j < 25 → τ (k + 1) j = -1) ∧ ∀ m, m ≠ k + 1 → τ m = σ m) ?_ ?_ FU 0 σ (by omega) (FU_gt (by decide)) ⟨fun j hj => by omega, fun m hm => rfl⟩
  · intro m i τ hi ⟨p3, p4⟩
    refine Or.inr ⟨wr τ (k + 1) i (-1), ?_, fun j hj => ?_, fun m' hm => ?_⟩
    · show f_Grid_clear_L20 k _ (m + 1) (nI i) τ = _
      rw [f_Grid_clear_L20.eq_2]
      simp (disch := omega) only [and_self, and_true, true_and, and_false, false_and, cap_some, cal_some, cax_ok, cax_er, jn_eq, lt1_eq, sto_eq, ald_nI, ast_nI, gld_nI, lt_nI, le_nI, eq_nI, nI_1, nI_add, nI_mul, cell5, cell25, ce_m1, if_pos, if_neg, ↓reduceIte, if_true, if_false, lt_l0, le_l0, eq_l0, ll_t0, add_l0, lt_l1, le_l1, eq_l1, ll_t1, add_l1, lt_l2, le_l2, eq_l2, ll_t2, add_l2, lt_l3, le_l3, eq_l3, ll_t3, add_l3, lt_l4, le_l4, eq_l4, ll_t4, add_l4, lt_l5, le_l5, eq_l5, ll_t5, add_l5, lt_l6, le_l6, eq_l6, ll_t6, add_l6, lt_l10, le_l10, eq_l10, ll_t10, add_l10, lt_l12, le_l12, eq_l12, ll_t12, add_l12, lt_l25, le_l25, eq_l25, ll_t25, add_l25, lt_l40, le_l40, eq_l40, ll_t40, add_l40, lt_l41, le_l41, eq_l41, ll_t41, add_l41, lt_l42, le_l42, eq_l42, ll_t42, add_l42, lt_l61, le_l61, eq_l61, ll_t61, add_l61, lt_l120, le_l120, eq_l120, ll_t120, add_l120, lt_l121, le_l121, eq_l121, ll_t121, add_l121, lt_l122, le_l122, eq_l122, ll_t122, add_l122, lt_l576, le_l576, eq_l576, ll_t576, add_l576, lt_l600, le_l600, eq_l600, ll_t600, add_l600, lt_l1000, le_l1000, eq_l1000, ll_t1000, add_l1000]
    · rw [wr_get]
      by_cases hji : j = i
      · rw [if_pos ⟨rfl, hji⟩]
      · rw [if_neg (by omega)]; exact p3 j (by omega)
    · rw [wr_fn (by omega)]; exact p4 m' hm
  · intro m τ ⟨p3, p4⟩
    refine ⟨τ, ?_, p3, p4⟩
    show f_Grid_clear_L20 k _ (m + 1) (nI 25) τ = _
    rw [f_Grid_clear_L20.eq_2]
    simp (disch := omega) only [and_self, and_true, true_and, and_false, false_and, cap_some, cal_some, cax_ok, cax_er, jn_eq, lt1_eq, sto_eq, ald_nI, ast_nI, gld_nI, lt_nI, le_nI, eq_nI, nI_1, nI_add, nI_mul, cell5, cell25, ce_m1, if_pos, if_neg, ↓reduceIte, if_true, if_false, lt_l0, le_l0, eq_l0, ll_t0, add_l0, lt_l1, le_l1, eq_l1, ll_t1, add_l1, lt_l2, le_l2, eq_l2, ll_t2, add_l2, lt_l3, le_l3, eq_l3, ll_t3, add_l3, lt_l4, le_l4, eq_l4, ll_t4, add_l4, lt_l5, le_l5, eq_l5, ll_t5, add_l5, lt_l6, le_l6, eq_l6, ll_t6, add_l6, lt_l10, le_l10, eq_l10, ll_t10, add_l10, lt_l12, le_l12, eq_l12, ll_t12, add_l12, lt_l25, le_l25, eq_l25, ll_t25, add_l25, lt_l40, le_l40, eq_l40, ll_t40, add_l40, lt_l41, le_l41, eq_l41, ll_t41, add_l41, lt_l42, le_l42, eq_l42, ll_t42, add_l42, lt_l61, le_l61, eq_l61, ll_t61, add_l61, lt_l120, le_l120, eq_l120, ll_t120, add_l120, lt_l121, le_l121, eq_l121, ll_t121, add_l121, lt_l122, le_l122, eq_l122, ll_t122, add_l122, lt_l576, le_l576, eq_l576, ll_t576, add_l576, lt_l600, le_l600, eq_l600, ll_t600, add_l600, lt_l1000, le_l1000, eq_l1000, ll_t1000, add_l1000]
theorem clear_L41 (k : Nat) (σ : St) : ∃ τ, f_Grid_clear_L41 k FU 0 σ = some ((), τ) ∧ (∀ j, j < 5 → τ (k + 2) j = 0) ∧ (∀ j, j < 5 → τ (k + 3) j = 0) ∧ ∀ m, m ≠ k + 2 → m ≠ k + 3 → τ m = σ m := by
  refine loopE (fun m i (τ : St) => f_Grid_clear_L41 k m (nI i) τ) 5
    (fun i τ => (∀ j, j < i → τ (k + 2) j = 0) ∧ (∀ j, j < i → τ (k + 3) j = 0) ∧ ∀ m, m ≠ k + 2 → m ≠ k + 3 → τ m = σ m)
    (fun R => ∃ τ, R = some ((), τ) ∧ (∀ j, j < 5 → τ (k + 2) j = 0) ∧ (∀ j, j < 5 → τ (k + 3) j = 0) ∧ ∀ m, m ≠ k + 2 → m ≠ k + 3 → τ m = σ m) ?_ ?_ FU 0 σ (by omega) (FU_gt (by decide)) ⟨fun j hj => by omega, fun j hj => by omega, fun m hm _ => rfl⟩
  · intro m i τ hi ⟨q4, q5, q6⟩
    refine Or.inr ⟨wr (wr τ (k + 2) i 0) (k + 3) i 0, ?_, fun j hj => ?_, fun j hj => ?_, fun m' hm hm2 => ?_⟩
    · show f_Grid_clear_L41 k (m + 1) (nI i) τ = _
      rw [f_Grid_clear_L41.eq_2]
      simp (disch := omega) only [and_self, and_true, true_and, and_false, false_and, cap_some, cal_some, cax_ok, cax_er, jn_eq, lt1_eq, sto_eq, ald_nI, ast_nI, gld_nI, lt_nI, le_nI, eq_nI, nI_1, nI_add, nI_mul, cell5, cell25, ce_m1, if_pos, if_neg, ↓reduceIte, if_true, if_false, lt_l0, le_l0, eq_l0, ll_t0, add_l0, lt_l1, le_l1, eq_l1, ll_t1, add_l1, lt_l2, le_l2, eq_l2, ll_t2, add_l2, lt_l3, le_l3, eq_l3, ll_t3, add_l3, lt_l4, le_l4, eq_l4, ll_t4, add_l4, lt_l5, le_l5, eq_l5, ll_t5, add_l5, lt_l6, le_l6, eq_l6, ll_t6, add_l6, lt_l10, le_l10, eq_l10, ll_t10, add_l10, lt_l12, le_l12, eq_l12, ll_t12, add_l12, lt_l25, le_l25, eq_l25, ll_t25, add_l25, lt_l40, le_l40, eq_l40, ll_t40, add_l40, lt_l41, le_l41, eq_l41, ll_t41, add_l41, lt_l42, le_l42, eq_l42, ll_t42, add_l42, lt_l61, le_l61, eq_l61, ll_t61, add_l61, lt_l120, le_l120, eq_l120, ll_t120, add_l120, lt_l121, le_l121, eq_l121, ll_t121, add_l121, lt_l122, le_l122, eq_l122, ll_t122, add_l122, lt_l576, le_l576, eq_l576, ll_t576, add_l576, lt_l600, le_l600, eq_l600, ll_t600, add_l600, lt_l1000, le_l1000, eq_l1000, ll_t1000, add_l1000]
    · rw [wr_fn (by omega), wr_get]
      by_cases hji : j = i
      · rw [if_pos ⟨rfl, hji⟩]
      · rw [if_neg (by omega)]; exact q4 j (by omega)
    · rw [wr_get]
      by_cases hji : j = i
      · rw [if_pos ⟨rfl, hji⟩]
      · rw [if_neg (by omega), wr_fn (by omega)]; exact q5 j (by omega)
    · rw [wr_fn (by omega), wr_fn (by omega)]; exact q6 m' hm hm2
  · intro m τ ⟨q4, q5, q6⟩
    refine ⟨τ, ?_, q4, q5, q6⟩
    show f_Grid_clear_L41 k (m + 1) (nI 5) τ = _
    rw [f_Grid_clear_L41.eq_2]
    simp (disch := omega) only [and_self, and_true, true_and, and_false, false_and, cap_some, cal_some, cax_ok, cax_er, jn_eq, lt1_eq, sto_eq, ald_nI, ast_nI, gld_nI, lt_nI, le_nI, eq_nI, nI_1, nI_add, nI_mul, cell5, cell25, ce_m1, if_pos, if_neg, ↓reduceIte, if_true, if_false, lt_l0, le_l0, eq_l0, ll_t0, add_l0, lt_l1, le_l1, eq_l1, ll_t1, add_l1, lt_l2, le_l2, eq_l2, ll_t2, add_l2, lt_l3, le_l3, eq_l3, ll_t3, add_l3, lt_l4, le_l4, eq_l4, ll_t4, add_l4, lt_l5, le_l5, eq_l5, ll_t5, add_l5, lt_l6, le_l6, eq_l6, ll_t6, add_l6, lt_l10, le_l10, eq_l10, ll_t10, add_l10, lt_l12, le_l12, eq_l12, ll_t12, add_l12, lt_l25, le_l25, eq_l25, ll_t25, add_l25, lt_l40, le_l40, eq_l40, ll_t40, add_l40, lt_l41, le_l41, eq_l41, ll_t41, add_l41, lt_l42, le_l42, eq_l42, ll_t42, add_l42, lt_l61, le_l61, eq_l61, ll_t61, add_l61, lt_l120, le_l120, eq_l120, ll_t120, add_l120, lt_l121, le_l121, eq_l121, ll_t121, add_l121, lt_l122, le_l122, eq_l122, ll_t122, add_l122, lt_l576, le_l576, eq_l576, ll_t576, add_l576, lt_l600, le_l600, eq_l600, ll_t600, add_l600, lt_l1000, le_l1000, eq_l1000, ll_t1000, add_l1000]
theorem clear_ok (k n : Nat) (h1 : 2 ≤ n) (h2 : n ≤ 5) (σ : St) : ∃ σ', f_Grid_clear σ k (nI n) = some ((), σ') ∧ GOK σ' k n B0 ∧ ∀ m, m < k ∨ k + 3 < m → σ' m = σ m := by
  unfold f_Grid_clear sto
  rw [clear_e h1 h2]
  obtain ⟨τ, e, a1, a2⟩ := clear_L20 k (wr (wr σ k 3 (nI n)) k 4 0) (fun (σ_4 : St) => f_Grid_clear_L41 k FU 0 σ_4)
  obtain ⟨υ, e2, b1, b2, b3⟩ := clear_L41 k τ
  refine ⟨υ, e.trans e2, ⟨Wf0 h1 h2, ?_, ?_, ?_, ?_, ?_⟩, fun m hm => ?_⟩
  · rw [b3 k (by omega) (by omega), a2 k (by omega), wr_get, if_neg (by omega), wr_at]
  · rw [b3 k (by omega) (by omega), a2 k (by omega), wr_at, cnt_B0]; rfl
  · intro r c hr hc; rw [b3 _ (by omega) (by omega)]; exact a1 _ (by omega)
  · intro r hr; rw [b1 r hr, ← sI_none]; exact sI_cong (fun s _ => (row_B0 r s).symm)
  · intro r hr; rw [b2 r hr, ← sI_none]; exact sI_cong (fun s _ => (col_B0 r s).symm)
  · rw [b3 m (by omega) (by omega), a2 m (by omega), wr_fn (by omega), wr_fn (by omega)]
theorem copy_L18 (k l : Nat) (σ : St) (hkl : k + 1 ≠ l + 1) (K : St → Option (Unit × St)) : ∃ τ, f_Grid_copy_L18 k l K FU 0 σ = K τ ∧ (∀ j, j < 25 → τ (k + 1) j = σ (l + 1) j) ∧ ∀ m, m ≠ k + 1 → τ m = σ m := by
  refine loopE (fun m i (τ : St) => f_Grid_copy_L18 k l K m (nI i) τ) 25
    (fun i τ => (∀ j, j < i → τ (k + 1) j = σ (l + 1) j) ∧ ∀ m, m ≠ k + 1 → τ m = σ m)
    (fun R => ∃ τ, R = K τ ∧ (∀ j, j < 25 → τ (k + 1) j = σ (l + 1) j) ∧ ∀ m, m ≠ k + 1 → τ m = σ m) ?_ ?_ FU 0 σ (by omega) (FU_gt (by decide)) ⟨fun j hj => by omega, fun m hm => rfl⟩
  · intro m i τ hi ⟨p3, p4⟩
    have e := p4 (l + 1) (by omega)
    refine Or.inr ⟨wr τ (k + 1) i (σ (l + 1) i), ?_, fun j hj => ?_, fun m' hm => ?_⟩
    · show f_Grid_copy_L18 k l _ (m + 1) (nI i) τ = _
      rw [f_Grid_copy_L18.eq_2]
      simp (disch := omega) only [e, and_self, and_true, true_and, and_false, false_and, cap_some, cal_some, cax_ok, cax_er, jn_eq, lt1_eq, sto_eq, ald_nI, ast_nI, gld_nI, lt_nI, le_nI, eq_nI, nI_1, nI_add, nI_mul, cell5, cell25, ce_m1, if_pos, if_neg, ↓reduceIte, if_true, if_false, lt_l0, le_l0, eq_l0, ll_t0, add_l0, lt_l1, le_l1, eq_l1, ll_t1, add_l1, lt_l2, le_l2, eq_l2, ll_t2, add_l2, lt_l3, le_l3, eq_l3, ll_t3, add_l3, lt_l4, le_l4, eq_l4, ll_t4, add_l4, lt_l5, le_l5, eq_l5, ll_t5, add_l5, lt_l6, le_l6, eq_l6, ll_t6, add_l6, lt_l10, le_l10, eq_l10, ll_t10, add_l10, lt_l12, le_l12, eq_l12, ll_t12, add_l12, lt_l25, le_l25, eq_l25, ll_t25, add_l25, lt_l40, le_l40, eq_l40, ll_t40, add_l40, lt_l41, le_l41, eq_l41, ll_t41, add_l41, lt_l42, le_l42, eq_l42, ll_t42, add_l42, lt_l61, le_l61, eq_l61, ll_t61, add_l61, lt_l120, le_l120, eq_l120, ll_t120, add_l120, lt_l121, le_l121, eq_l121, ll_t121, add_l121, lt_l122, le_l122, eq_l122, ll_t122, add_l122, lt_l576, le_l576, eq_l576, ll_t576, add_l576, lt_l600, le_l600, eq_l600, ll_t600, add_l600, lt_l1000, le_l1000, eq_l1000, ll_t1000, add_l1000]
    · rw [wr_get]
      by_cases hji : j = i
      · rw [if_pos ⟨rfl, hji⟩, hji]
      · rw [if_neg (by omega)]; exact p3 j (by omega)
    · rw [wr_fn (by omega)]; exact p4 m' hm
  · intro m τ ⟨p3, p4⟩
    refine ⟨τ, ?_, p3, p4⟩
    show f_Grid_copy_L18 k l _ (m + 1) (nI 25) τ = _
    rw [f_Grid_copy_L18.eq_2]
    simp (disch := omega) only [and_self, and_true, true_and, and_false, false_and, cap_some, cal_some, cax_ok, cax_er, jn_eq, lt1_eq, sto_eq, ald_nI, ast_nI, gld_nI, lt_nI, le_nI, eq_nI, nI_1, nI_add, nI_mul, cell5, cell25, ce_m1, if_pos, if_neg, ↓reduceIte, if_true, if_false, lt_l0, le_l0, eq_l0, ll_t0, add_l0, lt_l1, le_l1, eq_l1, ll_t1, add_l1, lt_l2, le_l2, eq_l2, ll_t2, add_l2, lt_l3, le_l3, eq_l3, ll_t3, add_l3, lt_l4, le_l4, eq_l4, ll_t4, add_l4, lt_l5, le_l5, eq_l5, ll_t5, add_l5, lt_l6, le_l6, eq_l6, ll_t6, add_l6, lt_l10, le_l10, eq_l10, ll_t10, add_l10, lt_l12, le_l12, eq_l12, ll_t12, add_l12, lt_l25, le_l25, eq_l25, ll_t25, add_l25, lt_l40, le_l40, eq_l40, ll_t40, add_l40, lt_l41, le_l41, eq_l41, ll_t41, add_l41, lt_l42, le_l42, eq_l42, ll_t42, add_l42, lt_l61, le_l61, eq_l61, ll_t61, add_l61, lt_l120, le_l120, eq_l120, ll_t120, add_l120, lt_l121, le_l121, eq_l121, ll_t121, add_l121, lt_l122, le_l122, eq_l122, ll_t122, add_l122, lt_l576, le_l576, eq_l576, ll_t576, add_l576, lt_l600, le_l600, eq_l600, ll_t600, add_l600, lt_l1000, le_l1000, eq_l1000, ll_t1000, add_l1000]
theorem copy_L44 (k l : Nat) (σ : St) (hkl : k + 3 < l ∨ l + 3 < k) : ∃ τ, f_Grid_copy_L44 k l FU 0 σ = some ((), τ) ∧ (∀ j, j < 5 → τ (k + 2) j = σ (l + 2) j) ∧ (∀ j, j < 5 → τ (k + 3) j = σ (l + 3) j) ∧ ∀ m, m ≠ k + 2 → m ≠ k + 3 → τ m = σ m := by
  refine loopE (fun m i (τ : St) => f_Grid_copy_L44 k l m (nI i) τ) 5
    (fun i τ => (∀ j, j < i → τ (k + 2) j = σ (l + 2) j) ∧ (∀ j, j < i → τ (k + 3) j = σ (l + 3) j) ∧ ∀ m, m ≠ k + 2 → m ≠ k + 3 → τ m = σ m)
    (fun R => ∃ τ, R = some ((), τ) ∧ (∀ j, j < 5 → τ (k + 2) j = σ (l + 2) j) ∧ (∀ j, j < 5 → τ (k + 3) j = σ (l + 3) j) ∧ ∀ m, m ≠ k + 2 → m ≠ k + 3 → τ m = σ m) ?_ ?_ FU 0 σ (by omega) (FU_gt (by decide)) ⟨fun j hj => by omega, fun j hj => by omega, fun m hm _ => rfl⟩
  · intro m i τ hi ⟨q4, q5, q6⟩
    have e1 := q6 (l + 2) (by omega) (by omega)
    have e2 := q6 (l + 3) (by omega) (by omega)
    refine Or.inr ⟨wr (wr τ (k + 2) i (σ (l + 2) i)) (k + 3) i (σ (l + 3) i), ?_, fun j hj => ?_, fun j hj => ?_, fun m' hm hm2 => ?_⟩
    · show f_Grid_copy_L44 k l (m + 1) (nI i) τ = _
      rw [f_Grid_copy_L44.eq_2]
      simp (disch := omega) only [e1, e2, wr_fn, and_self, and_true, true_and, and_false, false_and, cap_some, cal_some, cax_ok, cax_er, jn_eq, lt1_eq, sto_eq, ald_nI, ast_nI, gld_nI, lt_nI, le_nI, eq_nI, nI_1, nI_add, nI_mul, cell5, cell25, ce_m1, if_pos, if_neg, ↓reduceIte, if_true, if_false, lt_l0, le_l0, eq_l0, ll_t0, add_l0, lt_l1, le_l1, eq_l1, ll_t1, add_l1, lt_l2, le_l2, eq_l2, ll_t2, add_l2, lt_l3, le_l3, eq_l3, ll_t3, add_l3, lt_l4, le_l4, eq_l4, ll_t4, add_l4, lt_l5, le_l5, eq_l5, ll_t5, add_l5, lt_l6, le_l6, eq_l6, ll_t6, add_l6, lt_l10, le_l10, eq_l10, ll_t10, add_l10, lt_l12, le_l12, eq_l12, ll_t12, add_l12, lt_l25, le_l25, eq_l25, ll_t25, add_l25, lt_l40, le_l40, eq_l40, ll_t40, add_l40, lt_l41, le_l41, eq_l41, ll_t41, add_l41, lt_l42, le_l42, eq_l42, ll_t42, add_l42, lt_l61, le_l61, eq_l61, ll_t61, add_l61, lt_l120, le_l120, eq_l120, ll_t120, add_l120, lt_l121, le_l121, eq_l121, ll_t121, add_l121, lt_l122, le_l122, eq_l122, ll_t122, add_l122, lt_l576, le_l576, eq_l576, ll_t576, add_l576, lt_l600, le_l600, eq_l600, ll_t600, add_l600, lt_l1000, le_l1000, eq_l1000, ll_t1000, add_l1000]
    · rw [wr_fn (by omega), wr_get]
      by_cases hji : j = i
      · rw [if_pos ⟨rfl, hji⟩, hji]
      · rw [if_neg (by omega)]; exact q4 j (by omega)
    · rw [wr_get]
      by_cases hji : j = i
      · rw [if_pos ⟨rfl, hji⟩, hji]
      · rw [if_neg (by omega), wr_fn (by omega)]; exact q5 j (by omega)
    · rw [wr_fn (by omega), wr_fn (by omega)]; exact q6 m' hm hm2
  · intro m τ ⟨q4, q5, q6⟩
    refine ⟨τ, ?_, q4, q5, q6⟩
    show f_Grid_copy_L44 k l (m + 1) (nI 5) τ = _
    rw [f_Grid_copy_L44.eq_2]
    simp (disch := omega) only [and_self, and_true, true_and, and_false, false_and, cap_some, cal_some, cax_ok, cax_er, jn_eq, lt1_eq, sto_eq, ald_nI, ast_nI, gld_nI, lt_nI, le_nI, eq_nI, nI_1, nI_add, nI_mul, cell5, cell25, ce_m1, if_pos, if_neg, ↓reduceIte, if_true, if_false, lt_l0, le_l0, eq_l0, ll_t0, add_l0, lt_l1, le_l1, eq_l1, ll_t1, add_l1, lt_l2, le_l2, eq_l2, ll_t2, add_l2, lt_l3, le_l3, eq_l3, ll_t3, add_l3, lt_l4, le_l4, eq_l4, ll_t4, add_l4, lt_l5, le_l5, eq_l5, ll_t5, add_l5, lt_l6, le_l6, eq_l6, ll_t6, add_l6, lt_l10, le_l10, eq_l10, ll_t10, add_l10, lt_l12, le_l12, eq_l12, ll_t12, add_l12, lt_l25, le_l25, eq_l25, ll_t25, add_l25, lt_l40, le_l40, eq_l40, ll_t40, add_l40, lt_l41, le_l41, eq_l41, ll_t41, add_l41, lt_l42, le_l42, eq_l42, ll_t42, add_l42, lt_l61, le_l61, eq_l61, ll_t61, add_l61, lt_l120, le_l120, eq_l120, ll_t120, add_l120, lt_l121, le_l121, eq_l121, ll_t121, add_l121, lt_l122, le_l122, eq_l122, ll_t122, add_l122, lt_l576, le_l576, eq_l576, ll_t576, add_l576, lt_l600, le_l600, eq_l600, ll_t600, add_l600, lt_l1000, le_l1000, eq_l1000, ll_t1000, add_l1000]
theorem copy_ok {k l n : Nat} {σ : St} {B : Nat → Nat → Nat} (h : GOK σ l n B) (hkl : k + 3 < l ∨ l + 3 < k) : ∃ σ', f_Grid_copy σ k l = some ((), σ') ∧ GOK σ' k n B ∧ ∀ m, m < k ∨ k + 3 < m → σ' m = σ m := by
  unfold f_Grid_copy sto
  obtain ⟨τ, e, a1, a2⟩ := copy_L18 k l (wr (wr σ k 3 (σ l 3)) k 4 (wr σ k 3 (σ l 3) l 4)) (by omega) (fun (σ_4 : St) => f_Grid_copy_L44 k l FU 0 σ_4)
  obtain ⟨υ, e2, b1, b2, b3⟩ := copy_L44 k l τ hkl
  refine ⟨υ, e.trans e2, ⟨h.1, ?_, ?_, ?_, ?_, ?_⟩, fun m hm => ?_⟩
  · rw [b3 k (by omega) (by omega), a2 k (by omega), wr_get, if_neg (by omega), wr_at]; exact h.ord
  · rw [b3 k (by omega) (by omega), a2 k (by omega), wr_at, wr_fn (by omega)]; exact h.fil
  · intro r c hr hc; rw [b3 _ (by omega) (by omega), a1 _ (by omega), wr_fn (by omega), wr_fn (by omega)]; exact h.cel hr hc
  · intro r hr; rw [b1 r hr, a2 _ (by omega), wr_fn (by omega), wr_fn (by omega)]; exact h.row hr
  · intro r hr; rw [b2 r hr, a2 _ (by omega), wr_fn (by omega), wr_fn (by omega)]; exact h.col hr
  · rw [b3 m (by omega) (by omega), a2 m (by omega), wr_fn (by omega), wr_fn (by omega)]
end GSET2
/-! turned from whole: 60.world -/
/-- insert v at p into the row f -/
def insA (f : Nat → Nat) (p v : Nat) : Nat → Nat := fun i => if i < p then f i else if i = p then v else f (i - 1)
/-- the class's map m -/
def cp (m : Nat) : Nat → Nat :=
  let f0 : Nat → Nat := fun _ => 0
  let f1 := insA f0 (1 - m % 2) 1
  let f2 := insA f1 (2 - m / 2 % 3) 2
  let f3 := insA f2 (3 - m / 6 % 4) 3
  insA f3 (4 - m / 24 % 5) 4
def cpm (m : Nat) : Nat := 2 ^ (cp m 0) + 2 ^ (5 + cp m 1) + 2 ^ (10 + cp m 2) + 2 ^ (15 + cp m 3) + 2 ^ (20 + cp m 4)
def facN : Nat → Nat
  | 0 => 1
  | a + 1 => (a + 1) * facN a
/-- the reference's map m of the order a: the m-th in the dictionary's order -/
def lpf : Nat → List Nat → Nat → Nat → Nat
  | 0, _, _, _ => 0
  | a + 1, l, m, i => match i with
    | 0 => l.getD (m / facN a) 0
    | i + 1 => lpf a (l.eraseIdx (m / facN a)) (m % facN a) i
def lp (a m i : Nat) : Nat := lpf a (List.range a) m i
def MT (σ : St) : Prop := ∀ m, m < 120 → (∀ i, i < 5 → σ 7 (5 * m + i) = nI (cp m i)) ∧ σ 8 m = nI (cpm m)
def CW (σ : St) (M : Nat) (N : Nat → Nat) (B : Nat → Nat → Nat → Nat) : Prop := M ≤ 12 ∧ σ 0 8 = nI M ∧ ∀ j, j < M → GOK σ (gid j) (N j) (B j)
def isCh (x : Nat) : Prop := x = 40 ∨ x = 41 ∨ x = 61 ∨ x = 120 ∨ x = 121 ∨ x = 122
def CT (σ : St) (t : Nat) (ch : Nat → Nat) : Prop := t ≤ 40 ∧ σ 10 3 = nI t ∧ (∀ i, i < t → σ 11 i = nI (ch i)) ∧ ∀ i, i < t → isCh (ch i)
/-- the class's scratch -/
def scr (m : Nat) : Prop := (2 ≤ m ∧ m ≤ 6) ∨ m = 9 ∨ (12 ≤ m ∧ m ≤ 33)
def FrC (σ σ' : St) : Prop := ∀ m, ¬ scr m → σ' m = σ m
theorem FrC.trans {a b c : St} (h : FrC a b) (h2 : FrC b c) : FrC a c := fun m hm => (h2 m hm).trans (h m hm)
theorem CW.fr {σ σ' : St} {M : Nat} {N : Nat → Nat} {B : Nat → Nat → Nat → Nat} (h : CW σ M N B) (hf : FrC σ σ') : CW σ' M N B := by
  obtain ⟨h1, h2, h3⟩ := h
  refine ⟨h1, ?_, fun j hj => (h3 j hj).frame (fun m a b => ?_)⟩
  · rw [hf 0 (by unfold scr; omega)]; exact h2
  · unfold gid at a b
    exact hf m (by unfold scr; omega)
theorem CT.fr {σ σ' : St} {t : Nat} {ch : Nat → Nat} (h : CT σ t ch) (hf : FrC σ σ') : CT σ' t ch := by
  obtain ⟨h1, h2, h3, h4⟩ := h
  refine ⟨h1, ?_, fun i hi => ?_, h4⟩
  · rw [hf 10 (by unfold scr; omega)]; exact h2
  · rw [hf 11 (by unfold scr; omega)]; exact h3 i hi
theorem MT.fr {σ σ' : St} (h : MT σ) (hf : FrC σ σ') : MT σ' := by
  intro m hm
  rw [hf 7 (by unfold scr; omega), hf 8 (by unfold scr; omega)]
  exact h m hm
