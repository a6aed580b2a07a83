/-! operations that ask for a square -/
section SO
variable {cd : Nat → Option Int32} {Q : St → Option (Except Nat Int32 × St)} {R : St → Option (Int32 × St)} {σ : St} {M : Nat} {N : Nat → Nat} {B : Nat → Nat → Nat → Nat} {x : Int32}
theorem sq1 (cw : CW σ M N B) (hcd : cd 1 = some 1 ∧ cd 3 = some 2) {QB : Nat → St → Option (Except Nat Int32 × St)} {RB : St → Option (Int32 × St)}
    (hQ : ∀ σ, Q σ = cax (f_Q_gridAt σ x) fun g σ3 => cap (f_Grid_isSquare σ3 g) fun r5 => cax (f_Q_needState σ3 r5) fun _ σ8 => QB g σ8)
    (hR : ∀ σ, R σ = cal (f_R_canAsk σ x) fun r σ3 => if r = 0 then some (0, σ3) else RB σ3)
    (hb : ∀ j, j < M → x = nI j → SQ (N j) (B j) → GOK σ (gid j) (N j) (B j) → ∃ v σ', QB (gid j) σ = some (.ok v, σ') ∧ FrC σ σ' ∧ ∀ σ1, MW σ1 M N B → CA σ1 → σ1 82 0 = 0 → ∃ τ, RB σ1 = some (v, τ) ∧ FrM σ1 τ ∧ CA τ ∧ τ 82 0 = 0) : RdG cd Q R σ M N B := by
  rcases g_cases M cw.le x with ⟨j, hj, hx⟩ | hx
  · subst hx
    have hG := cw.g hj
    cases hf : full (N j) (B j)
    · refine rd_err 3 2 (σ' := σ) ?_ (FrC.refl σ) ⟨hcd.2, by decide⟩ (fun σ1 mw _ => ?_)
      · rw [hQ, gridAt_in cw hj, cax_ok, sq_ok hG, hf]
        rfl
      · obtain ⟨τ, e, k, h0⟩ := ask_in mw hj
        rw [hf] at e h0
        refine ⟨0, τ, ?_, k, h0⟩
        rw [hR, e]
        rfl
    · obtain ⟨v, σ', h1, h2, h3⟩ := hb j hj rfl (full_sq hG.1 hf) hG
      refine rd_ok v (σ' := σ') ?_ h2 (fun σ1 mw ca _ => ?_)
      · rw [hQ, gridAt_in cw hj, cax_ok, sq_ok hG, hf]
        exact h1
      · obtain ⟨τ, e, k, h0⟩ := ask_in mw hj
        rw [hf] at e h0
        obtain ⟨υ, g1, g2, g3, g4⟩ := h3 τ (mw.k k) (k.ca ca) h0
        refine ⟨υ, ?_, k.m.trans g2, g3, g4⟩
        rw [hR, e]
        exact g1
  · refine rd_err 1 1 (σ' := σ) ?_ (FrC.refl σ) ⟨hcd.1, by decide⟩ (fun σ1 mw _ => ?_)
    · rw [hQ, gridAt_out cw hx, cax_er]
    · obtain ⟨τ, e, k, h0⟩ := ask_out mw hx
      refine ⟨0, τ, ?_, k, h0⟩
      rw [hR, e]
      rfl
theorem sqA {y : Int32} {b : Nat} (cw : CW σ M N B) (hcd : cd 1 = some 1 ∧ cd 2 = some 2 ∧ cd 3 = some 3) (hb5 : b < 1000) {QB : Nat → St → Option (Except Nat Int32 × St)} {RB : St → Option (Int32 × St)}
    (hQ : ∀ σ, Q σ = cax (f_Q_gridAt σ x) fun g σ3 => cap (f_Q_isFrom σ3 y 0 (nI b)) fun r4 => cax (f_Q_needArgument σ3 r4) fun _ σ7 => cap (f_Grid_isSquare σ7 g) fun r5 => cax (f_Q_needState σ7 r5) fun _ σ8 => QB g σ8)
    (hR : ∀ σ, R σ = cap (f_R_between σ y 0 (nI b)) fun r2 => cal (f_R_canAskWith σ x r2) fun r σ3 => if r = 0 then some (0, σ3) else RB σ3)
    (hb : ∀ j a, j < M → x = nI j → a ≤ b → y = nI a → SQ (N j) (B j) → GOK σ (gid j) (N j) (B j) → ∃ v σ', QB (gid j) σ = some (.ok v, σ') ∧ FrC σ σ' ∧ ∀ σ1, MW σ1 M N B → CA σ1 → σ1 82 0 = 0 → ∃ τ, RB σ1 = some (v, τ) ∧ FrM σ1 τ ∧ CA τ ∧ τ 82 0 = 0) : RdG cd Q R σ M N B := by
  rcases g_cases M cw.le x with ⟨j, hj, hx⟩ | hx
  · subst hx
    have hG := cw.g hj
    cases hy : btw y 0 (nI b)
    · refine rd_err 2 2 (σ' := σ) ?_ (FrC.refl σ) ⟨hcd.2.1, by decide⟩ (fun σ1 mw _ => ?_)
      · rw [hQ, gridAt_in cw hj, cax_ok, isFrom_ok, hy]
        rfl
      · obtain ⟨τ, e, k, h0⟩ := askw_in mw hj false
        refine ⟨0, τ, ?_, k, h0⟩
        rw [hR, rbtw, hy]
        simp only [cap_some]
        rw [e]
        rfl
    · obtain ⟨a, _, ha, rfl⟩ := (btw_iff (a := 0) (by omega) (by omega)).mp hy
      cases hf : full (N j) (B j)
      · refine rd_err 3 3 (σ' := σ) ?_ (FrC.refl σ) ⟨hcd.2.2, by decide⟩ (fun σ1 mw _ => ?_)
        · rw [hQ, gridAt_in cw hj, cax_ok, isFrom_ok, hy]
          simp only [cap_some]
          rw [nar true, if_pos rfl, cax_ok, sq_ok hG, hf]
          rfl
        · obtain ⟨τ, e, k, h0⟩ := askw_in mw hj true
          rw [hf] at e h0
          refine ⟨0, τ, ?_, k, h0⟩
          rw [hR, rbtw, hy]
          simp only [cap_some]
          rw [e]
          rfl
      · obtain ⟨v, σ', h1, h2, h3⟩ := hb j a hj rfl ha rfl (full_sq hG.1 hf) hG
        refine rd_ok v (σ' := σ') ?_ h2 (fun σ1 mw ca _ => ?_)
        · rw [hQ, gridAt_in cw hj, cax_ok, isFrom_ok, hy]
          simp only [cap_some]
          rw [nar true, if_pos rfl, cax_ok, sq_ok hG, hf]
          exact h1
        · obtain ⟨τ, e, k, h0⟩ := askw_in mw hj true
          rw [hf] at e h0
          obtain ⟨υ, g1, g2, g3, g4⟩ := h3 τ (mw.k k) (k.ca ca) h0
          refine ⟨υ, ?_, k.m.trans g2, g3, g4⟩
          rw [hR, rbtw, hy]
          simp only [cap_some]
          rw [e]
          exact g1
  · refine rd_err 1 1 (σ' := σ) ?_ (FrC.refl σ) ⟨hcd.1, by decide⟩ (fun σ1 mw _ => ?_)
    · rw [hQ, gridAt_out cw hx, cax_er]
    · obtain ⟨τ, e, k, h0⟩ := askw_out (v := bI (btw y 0 (nI b))) mw hx
      refine ⟨0, τ, ?_, k, h0⟩
      rw [hR, rbtw]
      simp only [cap_some]
      rw [e]
      rfl
end SO
/-! nucleus -/
def asc (S : Nat → Nat → Nat) (a b c : Nat) : Prop := S (S a b) c = S a (S b c)
def nuc (n : Nat) (S : Nat → Nat → Nat) (k e : Nat) : Prop := (k = 0 ∨ k = 3 → ∀ y z, y < n → z < n → asc S e y z) ∧ (k = 1 ∨ k = 3 → ∀ y z, y < n → z < n → asc S y e z) ∧ (k = 2 ∨ k = 3 → ∀ y z, y < n → z < n → asc S y z e) ∧ (k = 3 → ∀ y, y < n → S e y = S y e)
section NU
variable {σ : St} {k n : Nat} {B : Nat → Nat → Nat}
theorem assoc_ok (h : GOK σ k n B) (hs : SQ n B) {a b c : Nat} (ha : a < n) (hb : b < n) (hc : c < n) : f_Laws_associates σ k (nI a) (nI b) (nI c) = some (bI (dB (asc (sg B) a b c))) := by
  have hn := h.le
  unfold f_Laws_associates
  have l1 := hs.lt (hs.lt ha hb) hc
  have l2 := hs.lt ha (hs.lt hb hc)
  rw [sq_sign h hs ha hb, cap_some, sq_sign h hs (hs.lt ha hb) hc, cap_some, sq_sign h hs hb hc, cap_some, sq_sign h hs ha (hs.lt hb hc), cap_some]
  simp (disch := omega) only [and_self, and_true, true_and, and_false, false_and, cap_some, cal_some, cax_ok, cax_er, jn_eq, lt1_eq, sto_eq, ald_nI, ast_nI, gld_nI, fac_nI, lt_nI, le_nI, eq_nI, nI_1, nI_add, nI_mul, cell5, cell25, ce_m1, if_pos, if_neg, ↓reduceIte, if_true, if_false, lt_l0, le_l0, eq_l0, ll_t0, add_l0, lt_l1, le_l1, eq_l1, ll_t1, add_l1, lt_l2, le_l2, eq_l2, ll_t2, add_l2, lt_l3, le_l3, eq_l3, ll_t3, add_l3, lt_l4, le_l4, eq_l4, ll_t4, add_l4, lt_l5, le_l5, eq_l5, ll_t5, add_l5, lt_l6, le_l6, eq_l6, ll_t6, add_l6, lt_l10, le_l10, eq_l10, ll_t10, add_l10, lt_l12, le_l12, eq_l12, ll_t12, add_l12, lt_l25, le_l25, eq_l25, ll_t25, add_l25, lt_l40, le_l40, eq_l40, ll_t40, add_l40, lt_l41, le_l41, eq_l41, ll_t41, add_l41, lt_l42, le_l42, eq_l42, ll_t42, add_l42, lt_l61, le_l61, eq_l61, ll_t61, add_l61, lt_l120, le_l120, eq_l120, ll_t120, add_l120, lt_l121, le_l121, eq_l121, ll_t121, add_l121, lt_l122, le_l122, eq_l122, ll_t122, add_l122, lt_l576, le_l576, eq_l576, ll_t576, add_l576, lt_l600, le_l600, eq_l600, ll_t600, add_l600, lt_l1000, le_l1000, eq_l1000, ll_t1000, add_l1000]
  unfold asc
  by_cases e : sg B (sg B a b) c = sg B a (sg B b c)
  · rw [if_pos e, dB_t e]; rfl
  · rw [if_neg e, dB_f e]; rfl
theorem some_bI (b : Bool) : (if b = true then some (1 : Int32) else some 0) = some (bI b) := by cases b <;> rfl
theorem some_bI2 (b : Bool) : (if b = true then some (0 : Int32) else some 1) = some (bI (!b)) := by cases b <;> rfl
def asw (S : Nat → Nat → Nat) (w e y z : Nat) : Prop := if w = 0 then asc S e y z else if w = 1 then asc S y e z else asc S y z e
theorem ascAt13 (h : GOK σ k n B) (hs : SQ n B) {w e y : Nat} (hw : w < 3) (he : e < n) (hy : y < n) (K : Option Int32) : f_Laws_associatesAt_L13 k (nI w) (nI e) (nI y) σ K FU 0 = if dB (∀ z, z < n → asw (sg B) w e y z) = true then K else some 0 := by
  have hn := h.le; have ho := h.ord
  have key : ∀ m i, i < n → f_Laws_associatesAt_L13 k (nI w) (nI e) (nI y) σ K (m + 1) (nI i) = if bI (dB (asw (sg B) w e y i)) = 0 then some 0 else f_Laws_associatesAt_L13 k (nI w) (nI e) (nI y) σ K m (nI (i + 1)) := by
    intro m i hi
    rw [f_Laws_associatesAt_L13.eq_2]
    simp (disch := omega) only [ho, assoc_ok h hs he hy hi, assoc_ok h hs hy he hi, assoc_ok h hs hy hi he, and_self, and_true, true_and, and_false, false_and, cap_some, cal_some, cax_ok, cax_er, jn_eq, lt1_eq, sto_eq, ald_nI, ast_nI, gld_nI, fac_nI, lt_nI, le_nI, eq_nI, nI_1, nI_add, nI_mul, cell5, cell25, ce_m1, if_pos, if_neg, ↓reduceIte, if_true, if_false, lt_l0, le_l0, eq_l0, ll_t0, add_l0, lt_l1, le_l1, eq_l1, ll_t1, add_l1, lt_l2, le_l2, eq_l2, ll_t2, add_l2, lt_l3, le_l3, eq_l3, ll_t3, add_l3, lt_l4, le_l4, eq_l4, ll_t4, add_l4, lt_l5, le_l5, eq_l5, ll_t5, add_l5, lt_l6, le_l6, eq_l6, ll_t6, add_l6, lt_l10, le_l10, eq_l10, ll_t10, add_l10, lt_l12, le_l12, eq_l12, ll_t12, add_l12, lt_l25, le_l25, eq_l25, ll_t25, add_l25, lt_l40, le_l40, eq_l40, ll_t40, add_l40, lt_l41, le_l41, eq_l41, ll_t41, add_l41, lt_l42, le_l42, eq_l42, ll_t42, add_l42, lt_l61, le_l61, eq_l61, ll_t61, add_l61, lt_l120, le_l120, eq_l120, ll_t120, add_l120, lt_l121, le_l121, eq_l121, ll_t121, add_l121, lt_l122, le_l122, eq_l122, ll_t122, add_l122, lt_l576, le_l576, eq_l576, ll_t576, add_l576, lt_l600, le_l600, eq_l600, ll_t600, add_l600, lt_l1000, le_l1000, eq_l1000, ll_t1000, add_l1000]
    unfold asw
    match w, hw with
    | 0, _ => rfl
    | 1, _ => rfl
    | 2, _ => rfl
  refine loop_all (fun m i => f_Laws_associatesAt_L13 k (nI w) (nI e) (nI y) σ K m (nI i)) n (fun z => asw (sg B) w e y z) (some 0) K (by omega) ?_ ?_ ?_
  · intro m i hi hp
    show f_Laws_associatesAt_L13 k (nI w) (nI e) (nI y) σ K (m + 1) (nI i) = _
    rw [key m i hi, dB_t hp]; rfl
  · intro m i hi hp
    show f_Laws_associatesAt_L13 k (nI w) (nI e) (nI y) σ K (m + 1) (nI i) = _
    rw [key m i hi, dB_f hp]; rfl
  · intro m
    show f_Laws_associatesAt_L13 k (nI w) (nI e) (nI y) σ K (m + 1) (nI n) = _
    rw [f_Laws_associatesAt_L13.eq_2]
    simp (disch := omega) only [ho, and_self, and_true, true_and, and_false, false_and, cap_some, cal_some, cax_ok, cax_er, jn_eq, lt1_eq, sto_eq, ald_nI, ast_nI, gld_nI, fac_nI, lt_nI, le_nI, eq_nI, nI_1, nI_add, nI_mul, cell5, cell25, ce_m1, if_pos, if_neg, ↓reduceIte, if_true, if_false, lt_l0, le_l0, eq_l0, ll_t0, add_l0, lt_l1, le_l1, eq_l1, ll_t1, add_l1, lt_l2, le_l2, eq_l2, ll_t2, add_l2, lt_l3, le_l3, eq_l3, ll_t3, add_l3, lt_l4, le_l4, eq_l4, ll_t4, add_l4, lt_l5, le_l5, eq_l5, ll_t5, add_l5, lt_l6, le_l6, eq_l6, ll_t6, add_l6, lt_l10, le_l10, eq_l10, ll_t10, add_l10, lt_l12, le_l12, eq_l12, ll_t12, add_l12, lt_l25, le_l25, eq_l25, ll_t25, add_l25, lt_l40, le_l40, eq_l40, ll_t40, add_l40, lt_l41, le_l41, eq_l41, ll_t41, add_l41, lt_l42, le_l42, eq_l42, ll_t42, add_l42, lt_l61, le_l61, eq_l61, ll_t61, add_l61, lt_l120, le_l120, eq_l120, ll_t120, add_l120, lt_l121, le_l121, eq_l121, ll_t121, add_l121, lt_l122, le_l122, eq_l122, ll_t122, add_l122, lt_l576, le_l576, eq_l576, ll_t576, add_l576, lt_l600, le_l600, eq_l600, ll_t600, add_l600, lt_l1000, le_l1000, eq_l1000, ll_t1000, add_l1000]
theorem ascAt_ok (h : GOK σ k n B) (hs : SQ n B) {w e : Nat} (hw : w < 3) (he : e < n) : f_Laws_associatesAt σ k (nI w) (nI e) = some (bI (dB (∀ y, y < n → ∀ z, z < n → asw (sg B) w e y z))) := by
  have hn := h.le; have ho := h.ord
  unfold f_Laws_associatesAt
  refine (loop_all (fun m i => f_Laws_associatesAt_L2 k (nI w) (nI e) σ m (nI i)) n (fun y => ∀ z, z < n → asw (sg B) w e y z) (some 0) (some 1) (by omega) ?_ ?_ ?_).trans (some_bI _)
  · intro m i hi hp
    show f_Laws_associatesAt_L2 k (nI w) (nI e) σ (m + 1) (nI i) = _
    rw [f_Laws_associatesAt_L2.eq_2]
    simp (disch := omega) only [ho, ascAt13 h hs hw he hi, dB_t hp, and_self, and_true, true_and, and_false, false_and, cap_some, cal_some, cax_ok, cax_er, jn_eq, lt1_eq, sto_eq, ald_nI, ast_nI, gld_nI, fac_nI, lt_nI, le_nI, eq_nI, nI_1, nI_add, nI_mul, cell5, cell25, ce_m1, if_pos, if_neg, ↓reduceIte, if_true, if_false, lt_l0, le_l0, eq_l0, ll_t0, add_l0, lt_l1, le_l1, eq_l1, ll_t1, add_l1, lt_l2, le_l2, eq_l2, ll_t2, add_l2, lt_l3, le_l3, eq_l3, ll_t3, add_l3, lt_l4, le_l4, eq_l4, ll_t4, add_l4, lt_l5, le_l5, eq_l5, ll_t5, add_l5, lt_l6, le_l6, eq_l6, ll_t6, add_l6, lt_l10, le_l10, eq_l10, ll_t10, add_l10, lt_l12, le_l12, eq_l12, ll_t12, add_l12, lt_l25, le_l25, eq_l25, ll_t25, add_l25, lt_l40, le_l40, eq_l40, ll_t40, add_l40, lt_l41, le_l41, eq_l41, ll_t41, add_l41, lt_l42, le_l42, eq_l42, ll_t42, add_l42, lt_l61, le_l61, eq_l61, ll_t61, add_l61, lt_l120, le_l120, eq_l120, ll_t120, add_l120, lt_l121, le_l121, eq_l121, ll_t121, add_l121, lt_l122, le_l122, eq_l122, ll_t122, add_l122, lt_l576, le_l576, eq_l576, ll_t576, add_l576, lt_l600, le_l600, eq_l600, ll_t600, add_l600, lt_l1000, le_l1000, eq_l1000, ll_t1000, add_l1000]
  · intro m i hi hp
    show f_Laws_associatesAt_L2 k (nI w) (nI e) σ (m + 1) (nI i) = _
    rw [f_Laws_associatesAt_L2.eq_2]
    simp (disch := omega) only [ho, ascAt13 h hs hw he hi, dB_f hp, and_self, and_true, true_and, and_false, false_and, cap_some, cal_some, cax_ok, cax_er, jn_eq, lt1_eq, sto_eq, ald_nI, ast_nI, gld_nI, fac_nI, lt_nI, le_nI, eq_nI, nI_1, nI_add, nI_mul, cell5, cell25, ce_m1, if_pos, if_neg, ↓reduceIte, if_true, if_false, lt_l0, le_l0, eq_l0, ll_t0, add_l0, lt_l1, le_l1, eq_l1, ll_t1, add_l1, lt_l2, le_l2, eq_l2, ll_t2, add_l2, lt_l3, le_l3, eq_l3, ll_t3, add_l3, lt_l4, le_l4, eq_l4, ll_t4, add_l4, lt_l5, le_l5, eq_l5, ll_t5, add_l5, lt_l6, le_l6, eq_l6, ll_t6, add_l6, lt_l10, le_l10, eq_l10, ll_t10, add_l10, lt_l12, le_l12, eq_l12, ll_t12, add_l12, lt_l25, le_l25, eq_l25, ll_t25, add_l25, lt_l40, le_l40, eq_l40, ll_t40, add_l40, lt_l41, le_l41, eq_l41, ll_t41, add_l41, lt_l42, le_l42, eq_l42, ll_t42, add_l42, lt_l61, le_l61, eq_l61, ll_t61, add_l61, lt_l120, le_l120, eq_l120, ll_t120, add_l120, lt_l121, le_l121, eq_l121, ll_t121, add_l121, lt_l122, le_l122, eq_l122, ll_t122, add_l122, lt_l576, le_l576, eq_l576, ll_t576, add_l576, lt_l600, le_l600, eq_l600, ll_t600, add_l600, lt_l1000, le_l1000, eq_l1000, ll_t1000, add_l1000]
    rfl
  · intro m
    show f_Laws_associatesAt_L2 k (nI w) (nI e) σ (m + 1) (nI n) = _
    rw [f_Laws_associatesAt_L2.eq_2]
    simp (disch := omega) only [ho, and_self, and_true, true_and, and_false, false_and, cap_some, cal_some, cax_ok, cax_er, jn_eq, lt1_eq, sto_eq, ald_nI, ast_nI, gld_nI, fac_nI, lt_nI, le_nI, eq_nI, nI_1, nI_add, nI_mul, cell5, cell25, ce_m1, if_pos, if_neg, ↓reduceIte, if_true, if_false, lt_l0, le_l0, eq_l0, ll_t0, add_l0, lt_l1, le_l1, eq_l1, ll_t1, add_l1, lt_l2, le_l2, eq_l2, ll_t2, add_l2, lt_l3, le_l3, eq_l3, ll_t3, add_l3, lt_l4, le_l4, eq_l4, ll_t4, add_l4, lt_l5, le_l5, eq_l5, ll_t5, add_l5, lt_l6, le_l6, eq_l6, ll_t6, add_l6, lt_l10, le_l10, eq_l10, ll_t10, add_l10, lt_l12, le_l12, eq_l12, ll_t12, add_l12, lt_l25, le_l25, eq_l25, ll_t25, add_l25, lt_l40, le_l40, eq_l40, ll_t40, add_l40, lt_l41, le_l41, eq_l41, ll_t41, add_l41, lt_l42, le_l42, eq_l42, ll_t42, add_l42, lt_l61, le_l61, eq_l61, ll_t61, add_l61, lt_l120, le_l120, eq_l120, ll_t120, add_l120, lt_l121, le_l121, eq_l121, ll_t121, add_l121, lt_l122, le_l122, eq_l122, ll_t122, add_l122, lt_l576, le_l576, eq_l576, ll_t576, add_l576, lt_l600, le_l600, eq_l600, ll_t600, add_l600, lt_l1000, le_l1000, eq_l1000, ll_t1000, add_l1000]
theorem comm_ok (h : GOK σ k n B) (hs : SQ n B) {e : Nat} (he : e < n) : f_Laws_commutes σ k (nI e) = some (bI (dB (∀ y, y < n → sg B e y = sg B y e))) := by
  have hn := h.le; have ho := h.ord
  unfold f_Laws_commutes
  refine (loop_all (fun m i => f_Laws_commutes_L2 k (nI e) σ m (nI i)) n (fun y => sg B e y = sg B y e) (some 0) (some 1) (by omega) ?_ ?_ ?_).trans (some_bI _)
  · intro m i hi hp
    show f_Laws_commutes_L2 k (nI e) σ (m + 1) (nI i) = _
    rw [f_Laws_commutes_L2.eq_2]
    simp (disch := omega) only [ho, sq_sign h hs he hi, sq_sign h hs hi he, hp, and_self, and_true, true_and, and_false, false_and, cap_some, cal_some, cax_ok, cax_er, jn_eq, lt1_eq, sto_eq, ald_nI, ast_nI, gld_nI, fac_nI, lt_nI, le_nI, eq_nI, nI_1, nI_add, nI_mul, cell5, cell25, ce_m1, if_pos, if_neg, ↓reduceIte, if_true, if_false, lt_l0, le_l0, eq_l0, ll_t0, add_l0, lt_l1, le_l1, eq_l1, ll_t1, add_l1, lt_l2, le_l2, eq_l2, ll_t2, add_l2, lt_l3, le_l3, eq_l3, ll_t3, add_l3, lt_l4, le_l4, eq_l4, ll_t4, add_l4, lt_l5, le_l5, eq_l5, ll_t5, add_l5, lt_l6, le_l6, eq_l6, ll_t6, add_l6, lt_l10, le_l10, eq_l10, ll_t10, add_l10, lt_l12, le_l12, eq_l12, ll_t12, add_l12, lt_l25, le_l25, eq_l25, ll_t25, add_l25, lt_l40, le_l40, eq_l40, ll_t40, add_l40, lt_l41, le_l41, eq_l41, ll_t41, add_l41, lt_l42, le_l42, eq_l42, ll_t42, add_l42, lt_l61, le_l61, eq_l61, ll_t61, add_l61, lt_l120, le_l120, eq_l120, ll_t120, add_l120, lt_l121, le_l121, eq_l121, ll_t121, add_l121, lt_l122, le_l122, eq_l122, ll_t122, add_l122, lt_l576, le_l576, eq_l576, ll_t576, add_l576, lt_l600, le_l600, eq_l600, ll_t600, add_l600, lt_l1000, le_l1000, eq_l1000, ll_t1000, add_l1000]
  · intro m i hi hp
    show f_Laws_commutes_L2 k (nI e) σ (m + 1) (nI i) = _
    rw [f_Laws_commutes_L2.eq_2]
    have l1 := hs.lt he hi
    have l2 := hs.lt hi he
    simp (disch := omega) only [ho, sq_sign h hs he hi, sq_sign h hs hi he, hp, and_self, and_true, true_and, and_false, false_and, cap_some, cal_some, cax_ok, cax_er, jn_eq, lt1_eq, sto_eq, ald_nI, ast_nI, gld_nI, fac_nI, lt_nI, le_nI, eq_nI, nI_1, nI_add, nI_mul, cell5, cell25, ce_m1, if_pos, if_neg, ↓reduceIte, if_true, if_false, lt_l0, le_l0, eq_l0, ll_t0, add_l0, lt_l1, le_l1, eq_l1, ll_t1, add_l1, lt_l2, le_l2, eq_l2, ll_t2, add_l2, lt_l3, le_l3, eq_l3, ll_t3, add_l3, lt_l4, le_l4, eq_l4, ll_t4, add_l4, lt_l5, le_l5, eq_l5, ll_t5, add_l5, lt_l6, le_l6, eq_l6, ll_t6, add_l6, lt_l10, le_l10, eq_l10, ll_t10, add_l10, lt_l12, le_l12, eq_l12, ll_t12, add_l12, lt_l25, le_l25, eq_l25, ll_t25, add_l25, lt_l40, le_l40, eq_l40, ll_t40, add_l40, lt_l41, le_l41, eq_l41, ll_t41, add_l41, lt_l42, le_l42, eq_l42, ll_t42, add_l42, lt_l61, le_l61, eq_l61, ll_t61, add_l61, lt_l120, le_l120, eq_l120, ll_t120, add_l120, lt_l121, le_l121, eq_l121, ll_t121, add_l121, lt_l122, le_l122, eq_l122, ll_t122, add_l122, lt_l576, le_l576, eq_l576, ll_t576, add_l576, lt_l600, le_l600, eq_l600, ll_t600, add_l600, lt_l1000, le_l1000, eq_l1000, ll_t1000, add_l1000]
  · intro m
    show f_Laws_commutes_L2 k (nI e) σ (m + 1) (nI n) = _
    rw [f_Laws_commutes_L2.eq_2]
    simp (disch := omega) only [ho, and_self, and_true, true_and, and_false, false_and, cap_some, cal_some, cax_ok, cax_er, jn_eq, lt1_eq, sto_eq, ald_nI, ast_nI, gld_nI, fac_nI, lt_nI, le_nI, eq_nI, nI_1, nI_add, nI_mul, cell5, cell25, ce_m1, if_pos, if_neg, ↓reduceIte, if_true, if_false, lt_l0, le_l0, eq_l0, ll_t0, add_l0, lt_l1, le_l1, eq_l1, ll_t1, add_l1, lt_l2, le_l2, eq_l2, ll_t2, add_l2, lt_l3, le_l3, eq_l3, ll_t3, add_l3, lt_l4, le_l4, eq_l4, ll_t4, add_l4, lt_l5, le_l5, eq_l5, ll_t5, add_l5, lt_l6, le_l6, eq_l6, ll_t6, add_l6, lt_l10, le_l10, eq_l10, ll_t10, add_l10, lt_l12, le_l12, eq_l12, ll_t12, add_l12, lt_l25, le_l25, eq_l25, ll_t25, add_l25, lt_l40, le_l40, eq_l40, ll_t40, add_l40, lt_l41, le_l41, eq_l41, ll_t41, add_l41, lt_l42, le_l42, eq_l42, ll_t42, add_l42, lt_l61, le_l61, eq_l61, ll_t61, add_l61, lt_l120, le_l120, eq_l120, ll_t120, add_l120, lt_l121, le_l121, eq_l121, ll_t121, add_l121, lt_l122, le_l122, eq_l122, ll_t122, add_l122, lt_l576, le_l576, eq_l576, ll_t576, add_l576, lt_l600, le_l600, eq_l600, ll_t600, add_l600, lt_l1000, le_l1000, eq_l1000, ll_t1000, add_l1000]
theorem inNuc_ok (h : GOK σ k n B) (hs : SQ n B) {w e : Nat} (hw : w ≤ 3) (he : e < n) : f_Laws_isInNucleus σ k (nI w) (nI e) = some (bI (dB (nuc n (sg B) w e))) := by
  unfold f_Laws_isInNucleus
  have A := fun w hw => ascAt_ok h hs (w := w) hw he
  have A0 : f_Laws_associatesAt σ k 0 (nI e) = _ := A 0 (by omega)
  have A1 : f_Laws_associatesAt σ k 1 (nI e) = _ := A 1 (by omega)
  have A2 : f_Laws_associatesAt σ k 2 (nI e) = _ := A 2 (by omega)
  have C := comm_ok h hs he
  match w, hw with
  | 0, _ =>
    rw [if_neg (by decide), A 0 (by omega), cap_some, zb_bI]
    congr 2
    apply dB_cong
    simp [nuc, asw]
    constructor
    · intro h y z hy hz; exact h y hy z hz
    · intro h y hy z hz; exact h y z hy hz
  | 1, _ =>
    rw [if_neg (by decide), A 1 (by omega), cap_some, zb_bI]
    congr 2
    apply dB_cong
    simp [nuc, asw]
    constructor
    · intro h y z hy hz; exact h y hy z hz
    · intro h y hy z hz; exact h y z hy hz
  | 2, _ =>
    rw [if_neg (by decide), A 2 (by omega), cap_some, zb_bI]
    congr 2
    apply dB_cong
    simp [nuc, asw]
    constructor
    · intro h y z hy hz; exact h y hy z hz
    · intro h y hy z hz; exact h y z hy hz
  | 3, _ =>
    rw [if_pos (by decide), A0, cap_some]
    simp only [jn_eq]
    rw [A1, A2, C]
    simp only [cap_some]
    have e : nuc n (sg B) 3 e ↔ ((∀ y, y < n → ∀ z, z < n → asw (sg B) 0 e y z) ∧ (∀ y, y < n → ∀ z, z < n → asw (sg B) 1 e y z) ∧ (∀ y, y < n → ∀ z, z < n → asw (sg B) 2 e y z) ∧ ∀ y, y < n → sg B e y = sg B y e) := by
      simp [nuc, asw]
      constructor
      · rintro ⟨h1, h2, h3, h4⟩
        exact ⟨fun y hy z hz => h1 y z hy hz, fun y hy z hz => h2 y z hy hz, fun y hy z hz => h3 y z hy hz, h4⟩
      · rintro ⟨h1, h2, h3, h4⟩
        exact ⟨fun y z hy hz => h1 y hy z hz, fun y z hy hz => h2 y hy z hz, fun y z hy hz => h3 y hy z hz, h4⟩
    rw [dB_cong e, dB_and, dB_and, dB_and]
    generalize dB _ = b0
    generalize dB _ = b1
    generalize dB _ = b2
    generalize dB _ = b3
    cases b0 <;> cases b1 <;> cases b2 <;> cases b3 <;> rfl
end NU
