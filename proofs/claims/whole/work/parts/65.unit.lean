/-! unit -/
def isU (n : Nat) (S : Nat → Nat → Nat) (e : Nat) : Prop := ∀ x, x < n → S e x = x ∧ S x e = x
theorem isU_uni {n : Nat} {S : Nat → Nat → Nat} {e e' : Nat} (he : e < n) (he' : e' < n) (h : isU n S e) (h' : isU n S e') : e = e' := by
  have h1 := (h e' he').1
  have h2 := (h' e he).2
  rw [h2] at h1
  exact h1
section UN
variable {σ : St} {k n : Nat} {B : Nat → Nat → Nat}
theorem isUnit_ok (h : GOK σ k n B) (hs : SQ n B) {e : Nat} (he : e < n) : f_Laws_isUnit σ k (nI e) = some (bI (dB (isU n (sg B) e))) := by
  have hn := h.le; have ho := h.ord
  unfold f_Laws_isUnit
  have A := loop_all (fun m i => f_Laws_isUnit_L2 k (nI e) σ m (nI i)) n (fun x => sg B e x = x ∧ sg B x e = x) (some 0) (some 1) (by omega) ?_ ?_ ?_
  · refine A.trans ?_
    unfold isU
    cases dB _ <;> rfl
  · intro m i hi ⟨h1, h2⟩
    show f_Laws_isUnit_L2 k (nI e) σ (m + 1) (nI i) = _
    rw [f_Laws_isUnit_L2.eq_2]
    simp (disch := omega) only [ho, sq_sign h hs he hi, sq_sign h hs hi he, h1, h2, and_self, and_true, true_and, and_false, false_and, cap_some, cal_some, cax_ok, cax_er, jn_eq, lt1_eq, sto_eq, ald_nI, ast_nI, gld_nI, fac_nI, lt_nI, le_nI, eq_nI, nI_1, nI_add, nI_mul, cell5, cell25, ce_m1, if_pos, if_neg, ↓reduceIte, if_true, if_false, lt_l0, le_l0, eq_l0, ll_t0, add_l0, lt_l1, le_l1, eq_l1, ll_t1, add_l1, lt_l2, le_l2, eq_l2, ll_t2, add_l2, lt_l3, le_l3, eq_l3, ll_t3, add_l3, lt_l4, le_l4, eq_l4, ll_t4, add_l4, lt_l5, le_l5, eq_l5, ll_t5, add_l5, lt_l6, le_l6, eq_l6, ll_t6, add_l6, lt_l10, le_l10, eq_l10, ll_t10, add_l10, lt_l12, le_l12, eq_l12, ll_t12, add_l12, lt_l25, le_l25, eq_l25, ll_t25, add_l25, lt_l40, le_l40, eq_l40, ll_t40, add_l40, lt_l41, le_l41, eq_l41, ll_t41, add_l41, lt_l42, le_l42, eq_l42, ll_t42, add_l42, lt_l61, le_l61, eq_l61, ll_t61, add_l61, lt_l120, le_l120, eq_l120, ll_t120, add_l120, lt_l121, le_l121, eq_l121, ll_t121, add_l121, lt_l122, le_l122, eq_l122, ll_t122, add_l122, lt_l576, le_l576, eq_l576, ll_t576, add_l576, lt_l600, le_l600, eq_l600, ll_t600, add_l600, lt_l1000, le_l1000, eq_l1000, ll_t1000, add_l1000]
  · intro m i hi h1
    show f_Laws_isUnit_L2 k (nI e) σ (m + 1) (nI i) = _
    rw [f_Laws_isUnit_L2.eq_2]
    have l1 := hs.lt he hi
    have l2 := hs.lt hi he
    simp (disch := omega) only [ho, sq_sign h hs he hi, sq_sign h hs hi he, and_self, and_true, true_and, and_false, false_and, cap_some, cal_some, cax_ok, cax_er, jn_eq, lt1_eq, sto_eq, ald_nI, ast_nI, gld_nI, fac_nI, lt_nI, le_nI, eq_nI, nI_1, nI_add, nI_mul, cell5, cell25, ce_m1, if_pos, if_neg, ↓reduceIte, if_true, if_false, lt_l0, le_l0, eq_l0, ll_t0, add_l0, lt_l1, le_l1, eq_l1, ll_t1, add_l1, lt_l2, le_l2, eq_l2, ll_t2, add_l2, lt_l3, le_l3, eq_l3, ll_t3, add_l3, lt_l4, le_l4, eq_l4, ll_t4, add_l4, lt_l5, le_l5, eq_l5, ll_t5, add_l5, lt_l6, le_l6, eq_l6, ll_t6, add_l6, lt_l10, le_l10, eq_l10, ll_t10, add_l10, lt_l12, le_l12, eq_l12, ll_t12, add_l12, lt_l25, le_l25, eq_l25, ll_t25, add_l25, lt_l40, le_l40, eq_l40, ll_t40, add_l40, lt_l41, le_l41, eq_l41, ll_t41, add_l41, lt_l42, le_l42, eq_l42, ll_t42, add_l42, lt_l61, le_l61, eq_l61, ll_t61, add_l61, lt_l120, le_l120, eq_l120, ll_t120, add_l120, lt_l121, le_l121, eq_l121, ll_t121, add_l121, lt_l122, le_l122, eq_l122, ll_t122, add_l122, lt_l576, le_l576, eq_l576, ll_t576, add_l576, lt_l600, le_l600, eq_l600, ll_t600, add_l600, lt_l1000, le_l1000, eq_l1000, ll_t1000, add_l1000]
    by_cases h2 : sg B e i = i
    · have h3 : ¬ sg B i e = i := fun h3 => h1 ⟨h2, h3⟩
      simp only [h2, h3, if_true, if_false]
    · simp only [h2, if_false]
  · intro m
    show f_Laws_isUnit_L2 k (nI e) σ (m + 1) (nI n) = _
    rw [f_Laws_isUnit_L2.eq_2]
    simp (disch := omega) only [ho, and_self, and_true, true_and, and_false, false_and, cap_some, cal_some, cax_ok, cax_er, jn_eq, lt1_eq, sto_eq, ald_nI, ast_nI, gld_nI, fac_nI, lt_nI, le_nI, eq_nI, nI_1, nI_add, nI_mul, cell5, cell25, ce_m1, if_pos, if_neg, ↓reduceIte, if_true, if_false, lt_l0, le_l0, eq_l0, ll_t0, add_l0, lt_l1, le_l1, eq_l1, ll_t1, add_l1, lt_l2, le_l2, eq_l2, ll_t2, add_l2, lt_l3, le_l3, eq_l3, ll_t3, add_l3, lt_l4, le_l4, eq_l4, ll_t4, add_l4, lt_l5, le_l5, eq_l5, ll_t5, add_l5, lt_l6, le_l6, eq_l6, ll_t6, add_l6, lt_l10, le_l10, eq_l10, ll_t10, add_l10, lt_l12, le_l12, eq_l12, ll_t12, add_l12, lt_l25, le_l25, eq_l25, ll_t25, add_l25, lt_l40, le_l40, eq_l40, ll_t40, add_l40, lt_l41, le_l41, eq_l41, ll_t41, add_l41, lt_l42, le_l42, eq_l42, ll_t42, add_l42, lt_l61, le_l61, eq_l61, ll_t61, add_l61, lt_l120, le_l120, eq_l120, ll_t120, add_l120, lt_l121, le_l121, eq_l121, ll_t121, add_l121, lt_l122, le_l122, eq_l122, ll_t122, add_l122, lt_l576, le_l576, eq_l576, ll_t576, add_l576, lt_l600, le_l600, eq_l600, ll_t600, add_l600, lt_l1000, le_l1000, eq_l1000, ll_t1000, add_l1000]
theorem unitOf_ok (h : GOK σ k n B) (hs : SQ n B) : ((∀ i, i < n → ¬ isU n (sg B) i) ∧ f_Laws_unitOf σ k = some (-1)) ∨ ∃ e, e < n ∧ isU n (sg B) e ∧ f_Laws_unitOf σ k = some (nI e) := by
  have hn := h.le; have ho := h.ord
  unfold f_Laws_unitOf
  rcases loop_find (fun m i => f_Laws_unitOf_L2 k σ (fun v => some v) m (nI i)) n (fun i => ¬ isU n (sg B) i) (fun i => some (nI i)) (some (-1)) (by omega) (by
    intro m i hi hp
    show f_Laws_unitOf_L2 k σ _ (m + 1) (nI i) = _
    rw [f_Laws_unitOf_L2.eq_2]
    simp (disch := omega) only [ho, isUnit_ok h hs hi, dB_f hp, and_self, and_true, true_and, and_false, false_and, cap_some, cal_some, cax_ok, cax_er, jn_eq, lt1_eq, sto_eq, ald_nI, ast_nI, gld_nI, fac_nI, lt_nI, le_nI, eq_nI, nI_1, nI_add, nI_mul, cell5, cell25, ce_m1, if_pos, if_neg, ↓reduceIte, if_true, if_false, lt_l0, le_l0, eq_l0, ll_t0, add_l0, lt_l1, le_l1, eq_l1, ll_t1, add_l1, lt_l2, le_l2, eq_l2, ll_t2, add_l2, lt_l3, le_l3, eq_l3, ll_t3, add_l3, lt_l4, le_l4, eq_l4, ll_t4, add_l4, lt_l5, le_l5, eq_l5, ll_t5, add_l5, lt_l6, le_l6, eq_l6, ll_t6, add_l6, lt_l10, le_l10, eq_l10, ll_t10, add_l10, lt_l12, le_l12, eq_l12, ll_t12, add_l12, lt_l25, le_l25, eq_l25, ll_t25, add_l25, lt_l40, le_l40, eq_l40, ll_t40, add_l40, lt_l41, le_l41, eq_l41, ll_t41, add_l41, lt_l42, le_l42, eq_l42, ll_t42, add_l42, lt_l61, le_l61, eq_l61, ll_t61, add_l61, lt_l120, le_l120, eq_l120, ll_t120, add_l120, lt_l121, le_l121, eq_l121, ll_t121, add_l121, lt_l122, le_l122, eq_l122, ll_t122, add_l122, lt_l576, le_l576, eq_l576, ll_t576, add_l576, lt_l600, le_l600, eq_l600, ll_t600, add_l600, lt_l1000, le_l1000, eq_l1000, ll_t1000, add_l1000]
    rfl) (by
    intro m i hi hp
    show f_Laws_unitOf_L2 k σ _ (m + 1) (nI i) = _
    rw [f_Laws_unitOf_L2.eq_2]
    simp (disch := omega) only [ho, isUnit_ok h hs hi, dB_t (Classical.not_not.mp hp), and_self, and_true, true_and, and_false, false_and, cap_some, cal_some, cax_ok, cax_er, jn_eq, lt1_eq, sto_eq, ald_nI, ast_nI, gld_nI, fac_nI, lt_nI, le_nI, eq_nI, nI_1, nI_add, nI_mul, cell5, cell25, ce_m1, if_pos, if_neg, ↓reduceIte, if_true, if_false, lt_l0, le_l0, eq_l0, ll_t0, add_l0, lt_l1, le_l1, eq_l1, ll_t1, add_l1, lt_l2, le_l2, eq_l2, ll_t2, add_l2, lt_l3, le_l3, eq_l3, ll_t3, add_l3, lt_l4, le_l4, eq_l4, ll_t4, add_l4, lt_l5, le_l5, eq_l5, ll_t5, add_l5, lt_l6, le_l6, eq_l6, ll_t6, add_l6, lt_l10, le_l10, eq_l10, ll_t10, add_l10, lt_l12, le_l12, eq_l12, ll_t12, add_l12, lt_l25, le_l25, eq_l25, ll_t25, add_l25, lt_l40, le_l40, eq_l40, ll_t40, add_l40, lt_l41, le_l41, eq_l41, ll_t41, add_l41, lt_l42, le_l42, eq_l42, ll_t42, add_l42, lt_l61, le_l61, eq_l61, ll_t61, add_l61, lt_l120, le_l120, eq_l120, ll_t120, add_l120, lt_l121, le_l121, eq_l121, ll_t121, add_l121, lt_l122, le_l122, eq_l122, ll_t122, add_l122, lt_l576, le_l576, eq_l576, ll_t576, add_l576, lt_l600, le_l600, eq_l600, ll_t600, add_l600, lt_l1000, le_l1000, eq_l1000, ll_t1000, add_l1000]
    rfl) (by
    intro m
    show f_Laws_unitOf_L2 k σ _ (m + 1) (nI n) = _
    rw [f_Laws_unitOf_L2.eq_2]
    simp (disch := omega) only [ho, and_self, and_true, true_and, and_false, false_and, cap_some, cal_some, cax_ok, cax_er, jn_eq, lt1_eq, sto_eq, ald_nI, ast_nI, gld_nI, fac_nI, lt_nI, le_nI, eq_nI, nI_1, nI_add, nI_mul, cell5, cell25, ce_m1, if_pos, if_neg, ↓reduceIte, if_true, if_false, lt_l0, le_l0, eq_l0, ll_t0, add_l0, lt_l1, le_l1, eq_l1, ll_t1, add_l1, lt_l2, le_l2, eq_l2, ll_t2, add_l2, lt_l3, le_l3, eq_l3, ll_t3, add_l3, lt_l4, le_l4, eq_l4, ll_t4, add_l4, lt_l5, le_l5, eq_l5, ll_t5, add_l5, lt_l6, le_l6, eq_l6, ll_t6, add_l6, lt_l10, le_l10, eq_l10, ll_t10, add_l10, lt_l12, le_l12, eq_l12, ll_t12, add_l12, lt_l25, le_l25, eq_l25, ll_t25, add_l25, lt_l40, le_l40, eq_l40, ll_t40, add_l40, lt_l41, le_l41, eq_l41, ll_t41, add_l41, lt_l42, le_l42, eq_l42, ll_t42, add_l42, lt_l61, le_l61, eq_l61, ll_t61, add_l61, lt_l120, le_l120, eq_l120, ll_t120, add_l120, lt_l121, le_l121, eq_l121, ll_t121, add_l121, lt_l122, le_l122, eq_l122, ll_t122, add_l122, lt_l576, le_l576, eq_l576, ll_t576, add_l576, lt_l600, le_l600, eq_l600, ll_t600, add_l600, lt_l1000, le_l1000, eq_l1000, ll_t1000, add_l1000]) with ⟨a, b⟩ | ⟨i, a, b, _, d⟩
  · exact Or.inl ⟨a, b⟩
  · exact Or.inr ⟨i, a, Classical.not_not.mp b, d⟩
variable {M : Nat} {N : Nat → Nat} {B : Nat → Nat → Nat → Nat}
theorem runit30 (h : MW σ M N B) {j : Nat} (hj : j < M) (hs : SQ (N j) (B j)) {e : Nat} (he : e < N j) (v2 : Int32) (K : Int32 → Option (Int32 × St)) :
    f_R_unit_L30 (nI j) v2 (nI e) σ K FU 1 0 = K (bI (dB (isU (N j) (sg (B j)) e))) := by
  have hM := h.le; have hn := h.n hj; have ho := h.od hj
  refine (loop_flag (fun m i b => f_R_unit_L30 (nI j) v2 (nI e) σ K m (bI b) (nI i)) (N j) (fun x => sg (B j) e x = x ∧ sg (B j) x e = x) (fun b => K (bI b)) (by omega) true ?_ ?_).trans ?_
  · intro m i b hi
    show f_R_unit_L30 (nI j) v2 (nI e) σ K (m + 1) (bI b) (nI i) = _
    rw [f_R_unit_L30.eq_2]
    have l1 := hs.lt he hi
    have l2 := hs.lt hi he
    simp (disch := omega) only [ho, sq_at h hj hs he hi, sq_at h hj hs hi he, and_self, and_true, true_and, and_false, false_and, cap_some, cal_some, cax_ok, cax_er, jn_eq, lt1_eq, sto_eq, ald_nI, ast_nI, gld_nI, fac_nI, lt_nI, le_nI, eq_nI, nI_1, nI_add, nI_mul, cell5, cell25, ce_m1, if_pos, if_neg, ↓reduceIte, if_true, if_false, lt_l0, le_l0, eq_l0, ll_t0, add_l0, lt_l1, le_l1, eq_l1, ll_t1, add_l1, lt_l2, le_l2, eq_l2, ll_t2, add_l2, lt_l3, le_l3, eq_l3, ll_t3, add_l3, lt_l4, le_l4, eq_l4, ll_t4, add_l4, lt_l5, le_l5, eq_l5, ll_t5, add_l5, lt_l6, le_l6, eq_l6, ll_t6, add_l6, lt_l10, le_l10, eq_l10, ll_t10, add_l10, lt_l12, le_l12, eq_l12, ll_t12, add_l12, lt_l25, le_l25, eq_l25, ll_t25, add_l25, lt_l40, le_l40, eq_l40, ll_t40, add_l40, lt_l41, le_l41, eq_l41, ll_t41, add_l41, lt_l42, le_l42, eq_l42, ll_t42, add_l42, lt_l61, le_l61, eq_l61, ll_t61, add_l61, lt_l120, le_l120, eq_l120, ll_t120, add_l120, lt_l121, le_l121, eq_l121, ll_t121, add_l121, lt_l122, le_l122, eq_l122, ll_t122, add_l122, lt_l576, le_l576, eq_l576, ll_t576, add_l576, lt_l600, le_l600, eq_l600, ll_t600, add_l600, lt_l1000, le_l1000, eq_l1000, ll_t1000, add_l1000]
    cases b
    · rfl
    · rw [if_neg (by decide)]
      by_cases h2 : sg (B j) e i = i
      · by_cases h3 : sg (B j) i e = i
        · simp only [h2, h3, if_true, and_self, dB_T, Bool.and_self]; rfl
        · simp only [h2, h3, if_true, if_false, and_false, dB_F]; rfl
      · simp only [h2, if_false, false_and, dB_F]; rfl
  · intro m b
    show f_R_unit_L30 (nI j) v2 (nI e) σ K (m + 1) (bI b) (nI (N j)) = _
    rw [f_R_unit_L30.eq_2]
    simp (disch := omega) only [ho, and_self, and_true, true_and, and_false, false_and, cap_some, cal_some, cax_ok, cax_er, jn_eq, lt1_eq, sto_eq, ald_nI, ast_nI, gld_nI, fac_nI, lt_nI, le_nI, eq_nI, nI_1, nI_add, nI_mul, cell5, cell25, ce_m1, if_pos, if_neg, ↓reduceIte, if_true, if_false, lt_l0, le_l0, eq_l0, ll_t0, add_l0, lt_l1, le_l1, eq_l1, ll_t1, add_l1, lt_l2, le_l2, eq_l2, ll_t2, add_l2, lt_l3, le_l3, eq_l3, ll_t3, add_l3, lt_l4, le_l4, eq_l4, ll_t4, add_l4, lt_l5, le_l5, eq_l5, ll_t5, add_l5, lt_l6, le_l6, eq_l6, ll_t6, add_l6, lt_l10, le_l10, eq_l10, ll_t10, add_l10, lt_l12, le_l12, eq_l12, ll_t12, add_l12, lt_l25, le_l25, eq_l25, ll_t25, add_l25, lt_l40, le_l40, eq_l40, ll_t40, add_l40, lt_l41, le_l41, eq_l41, ll_t41, add_l41, lt_l42, le_l42, eq_l42, ll_t42, add_l42, lt_l61, le_l61, eq_l61, ll_t61, add_l61, lt_l120, le_l120, eq_l120, ll_t120, add_l120, lt_l121, le_l121, eq_l121, ll_t121, add_l121, lt_l122, le_l122, eq_l122, ll_t122, add_l122, lt_l576, le_l576, eq_l576, ll_t576, add_l576, lt_l600, le_l600, eq_l600, ll_t600, add_l600, lt_l1000, le_l1000, eq_l1000, ll_t1000, add_l1000]
  · rw [Bool.true_and]; rfl
theorem runit14 (h : MW σ M N B) {j : Nat} (hj : j < M) (hs : SQ (N j) (B j)) (K : Int32 → Option (Int32 × St)) :
    ((∀ i, i < N j → ¬ isU (N j) (sg (B j)) i) ∧ f_R_unit_L14 (nI j) σ K FU (-1) 0 = K (-1)) ∨ ∃ e, e < N j ∧ isU (N j) (sg (B j)) e ∧ f_R_unit_L14 (nI j) σ K FU (-1) 0 = K (nI e) := by
  have hM := h.le; have hn := h.n hj; have ho := h.od hj
  refine loopE (fun m i a => f_R_unit_L14 (nI j) σ K m a (nI i)) (N j) (fun i a => ((∀ i', i' < i → ¬ isU (N j) (sg (B j)) i') ∧ a = -1) ∨ ∃ e, e < i ∧ isU (N j) (sg (B j)) e ∧ a = nI e)
    (fun R => ((∀ i, i < N j → ¬ isU (N j) (sg (B j)) i) ∧ R = K (-1)) ∨ ∃ e, e < N j ∧ isU (N j) (sg (B j)) e ∧ R = K (nI e)) ?_ ?_ FU 0 (-1) (by omega) (FU_gt (by omega)) (Or.inl ⟨fun i hi => by omega, rfl⟩)
  · intro m i a hi hp
    have e0 : f_R_unit_L14 (nI j) σ K (m + 1) a (nI i) = f_R_unit_L14 (nI j) σ K m (if dB (isU (N j) (sg (B j)) i) = true then nI i else a) (nI (i + 1)) := by
      rw [f_R_unit_L14.eq_2]
      simp (disch := omega) only [ho, and_self, and_true, true_and, and_false, false_and, cap_some, cal_some, cax_ok, cax_er, jn_eq, lt1_eq, sto_eq, ald_nI, ast_nI, gld_nI, fac_nI, lt_nI, le_nI, eq_nI, nI_1, nI_add, nI_mul, cell5, cell25, ce_m1, if_pos, if_neg, ↓reduceIte, if_true, if_false, lt_l0, le_l0, eq_l0, ll_t0, add_l0, lt_l1, le_l1, eq_l1, ll_t1, add_l1, lt_l2, le_l2, eq_l2, ll_t2, add_l2, lt_l3, le_l3, eq_l3, ll_t3, add_l3, lt_l4, le_l4, eq_l4, ll_t4, add_l4, lt_l5, le_l5, eq_l5, ll_t5, add_l5, lt_l6, le_l6, eq_l6, ll_t6, add_l6, lt_l10, le_l10, eq_l10, ll_t10, add_l10, lt_l12, le_l12, eq_l12, ll_t12, add_l12, lt_l25, le_l25, eq_l25, ll_t25, add_l25, lt_l40, le_l40, eq_l40, ll_t40, add_l40, lt_l41, le_l41, eq_l41, ll_t41, add_l41, lt_l42, le_l42, eq_l42, ll_t42, add_l42, lt_l61, le_l61, eq_l61, ll_t61, add_l61, lt_l120, le_l120, eq_l120, ll_t120, add_l120, lt_l121, le_l121, eq_l121, ll_t121, add_l121, lt_l122, le_l122, eq_l122, ll_t122, add_l122, lt_l576, le_l576, eq_l576, ll_t576, add_l576, lt_l600, le_l600, eq_l600, ll_t600, add_l600, lt_l1000, le_l1000, eq_l1000, ll_t1000, add_l1000]
      rw [runit30 h hj hs hi]
      cases dB (isU (N j) (sg (B j)) i) <;> rfl
    refine Or.inr ⟨_, e0, ?_⟩
    by_cases hu : isU (N j) (sg (B j)) i
    · rw [dB_t hu]
      exact Or.inr ⟨i, by omega, hu, rfl⟩
    · rw [dB_f hu]
      rcases hp with ⟨h1, h2⟩ | ⟨e, h1, h2, h3⟩
      · refine Or.inl ⟨fun i' hi' => ?_, h2⟩
        by_cases h4 : i' = i
        · rw [h4]; exact hu
        · exact h1 i' (by omega)
      · exact Or.inr ⟨e, by omega, h2, h3⟩
  · intro m a hp
    have e0 : f_R_unit_L14 (nI j) σ K (m + 1) a (nI (N j)) = K a := by
      rw [f_R_unit_L14.eq_2]
      simp (disch := omega) only [ho, and_self, and_true, true_and, and_false, false_and, cap_some, cal_some, cax_ok, cax_er, jn_eq, lt1_eq, sto_eq, ald_nI, ast_nI, gld_nI, fac_nI, lt_nI, le_nI, eq_nI, nI_1, nI_add, nI_mul, cell5, cell25, ce_m1, if_pos, if_neg, ↓reduceIte, if_true, if_false, lt_l0, le_l0, eq_l0, ll_t0, add_l0, lt_l1, le_l1, eq_l1, ll_t1, add_l1, lt_l2, le_l2, eq_l2, ll_t2, add_l2, lt_l3, le_l3, eq_l3, ll_t3, add_l3, lt_l4, le_l4, eq_l4, ll_t4, add_l4, lt_l5, le_l5, eq_l5, ll_t5, add_l5, lt_l6, le_l6, eq_l6, ll_t6, add_l6, lt_l10, le_l10, eq_l10, ll_t10, add_l10, lt_l12, le_l12, eq_l12, ll_t12, add_l12, lt_l25, le_l25, eq_l25, ll_t25, add_l25, lt_l40, le_l40, eq_l40, ll_t40, add_l40, lt_l41, le_l41, eq_l41, ll_t41, add_l41, lt_l42, le_l42, eq_l42, ll_t42, add_l42, lt_l61, le_l61, eq_l61, ll_t61, add_l61, lt_l120, le_l120, eq_l120, ll_t120, add_l120, lt_l121, le_l121, eq_l121, ll_t121, add_l121, lt_l122, le_l122, eq_l122, ll_t122, add_l122, lt_l576, le_l576, eq_l576, ll_t576, add_l576, lt_l600, le_l600, eq_l600, ll_t600, add_l600, lt_l1000, le_l1000, eq_l1000, ll_t1000, add_l1000]
    rcases hp with ⟨h1, rfl⟩ | ⟨e, h1, h2, rfl⟩
    · exact Or.inl ⟨h1, e0⟩
    · exact Or.inr ⟨e, h1, h2, e0⟩
end UN
theorem ok_unit : Ok_unit Inv := by
  intro σ hI p0
  refine op_rd hI (Q := fun σ => f_Q_unit σ p0) (R := fun σ => f_R_unit σ p0) (fun M N B cw mt ct => ?_)
  rcases g_cases M cw.le p0 with ⟨j, hj, rfl⟩ | hx
  · have hG := cw.g hj
    have hn := hG.le
    cases hf : full (N j) (B j)
    · refine rd_err 3 2 (σ' := σ) ?_ (FrC.refl σ) (by decide) (fun σ1 mw _ => ?_)
      · show f_Q_unit σ _ = _
        unfold f_Q_unit
        rw [gridAt_in cw hj, cax_ok, sq_ok hG, hf]
        rfl
      · obtain ⟨τ, e, k, h0⟩ := ask_in mw hj
        rw [hf] at e h0
        refine ⟨0, τ, ?_, k, h0⟩
        show f_R_unit σ1 _ = _
        unfold f_R_unit
        rw [e]
        rfl
    · have hs := full_sq hG.1 hf
      have key : ∃ v, f_Laws_unitOf σ (gid j) = some v ∧ ∀ τ, MW τ M N B → ∀ K : Int32 → Option (Int32 × St), f_R_unit_L14 (nI j) τ K FU (-1) 0 = K v := by
        rcases unitOf_ok hG hs with ⟨a, b⟩ | ⟨e, h1, h2, h3⟩
        · refine ⟨_, b, fun τ mw K => ?_⟩
          rcases runit14 mw hj hs K with ⟨c, d⟩ | ⟨e, h1, h2, h3⟩
          · exact d
          · exact absurd h2 (a e h1)
        · refine ⟨_, h3, fun τ mw K => ?_⟩
          rcases runit14 mw hj hs K with ⟨c, d⟩ | ⟨e', g1, g2, g3⟩
          · exact absurd h2 (c e h1)
          · rw [g3, isU_uni h1 g1 h2 g2]
      obtain ⟨v, e1, e2⟩ := key
      refine rd_k v (σ' := σ) ?_ (FrC.refl σ) (fun σ1 mw => ?_)
      · show f_Q_unit σ _ = _
        unfold f_Q_unit
        rw [gridAt_in cw hj, cax_ok, sq_ok hG, hf]
        show (cap (f_Laws_unitOf σ (gid j)) fun r_10 => some (Except.ok r_10, σ)) = _
        rw [e1]
        rfl
      · obtain ⟨τ, e, k, h0⟩ := ask_in mw hj
        rw [hf] at e h0
        refine ⟨τ, ?_, k, h0⟩
        show f_R_unit σ1 _ = _
        unfold f_R_unit
        rw [e]
        show f_R_unit_L14 (nI j) τ _ FU (-1) 0 = _
        rw [e2 τ (mw.k k)]
  · refine rd_err 1 1 (σ' := σ) ?_ (FrC.refl σ) (by decide) (fun σ1 mw _ => ?_)
    · show f_Q_unit σ _ = _
      unfold f_Q_unit
      rw [gridAt_out cw hx, cax_er]
    · obtain ⟨τ, e, k, h0⟩ := ask_out mw hx
      refine ⟨0, τ, ?_, k, h0⟩
      show f_R_unit σ1 _ = _
      unfold f_R_unit
      rw [e]
      rfl
