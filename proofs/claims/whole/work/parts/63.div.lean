/-! division, and the simplest operations -/
theorem nI_div {a b : Nat} (ha : a < 2 ^ 31) (hb : b < 2 ^ 31) : nI a / nI b = nI (a / b) := by
  apply Int32.toInt_inj.mp
  rw [Int32.toInt_div, nI_toInt ha, nI_toInt hb, nI_toInt (Nat.lt_of_le_of_lt (Nat.div_le_self _ _) ha)]
  rw [← Int.ofNat_tdiv]
  have : a / b ≤ a := Nat.div_le_self _ _
  generalize a / b = q at *
  apply Int.bmod_eq_of_le <;> omega
theorem dvi_nI {β : Type} {a b : Nat} {f : Int32 → Option β} (hb0 : 0 < b) (ha : a < 2 ^ 31) (hb : b < 2 ^ 31) : dvi (nI a) (nI b) f = f (nI (a / b)) := by
  unfold dvi
  rw [if_neg (nI_ne0 hb0 hb), nI_div ha hb]
theorem rmi_nI {β : Type} {a b : Nat} {f : Int32 → Option β} (hb0 : 0 < b) (ha : a < 2 ^ 31) (hb : b < 2 ^ 31) : rmi (nI a) (nI b) f = f (nI (a % b)) := by
  unfold rmi
  rw [if_neg (nI_ne0 hb0 hb), nI_div ha hb, nI_mul, nI_sub (Nat.div_mul_le_self a b)]
  congr 2
  have := Nat.div_add_mod a b
  rw [Nat.mul_comm] at this
  omega
section OA
variable {σ : St}
theorem needCell_in {k n r c : Nat} {B : Nat → Nat → Nat} (h : GOK σ k n B) (hr : r < n) (hc : c < n) : f_Q_needCell σ k (nI r) (nI c) = some (.ok (), σ) := by
  unfold f_Q_needCell
  rw [has_in h hr hc]
  rfl
theorem needCell_out {k n : Nat} {x y : Int32} {B : Nat → Nat → Nat} (h : GOK σ k n B) (hx : (x < 0 ∨ nI n ≤ x) ∨ (y < 0 ∨ nI n ≤ y)) : f_Q_needCell σ k x y = some (.error 1, σ) := by
  unfold f_Q_needCell
  rcases hx with hx | hx
  · rw [has_out1 h hx]; rfl
  · rw [has_out2 h hx]; rfl
variable {M : Nat} {N : Nat → Nat} {B : Nat → Nat → Nat → Nat}
theorem rline_in (h : MW σ M N B) {j r : Nat} (hj : j < M) (hr : r < N j) : f_R_isLine σ (nI j) (nI r) = some 1 := by
  have hM := h.le; have hn := h.n hj
  unfold f_R_isLine
  simp (disch := omega) only [h.od hj, and_self, and_true, true_and, and_false, false_and, cap_some, cal_some, cax_ok, cax_er, jn_eq, lt1_eq, sto_eq, ald_nI, ast_nI, gld_nI, fac_nI, lt_nI, le_nI, eq_nI, nI_1, nI_add, nI_mul, cell5, cell25, ce_m1, if_pos, if_neg, ↓reduceIte, if_true, if_false, lt_l0, le_l0, eq_l0, ll_t0, add_l0, lt_l1, le_l1, eq_l1, ll_t1, add_l1, lt_l2, le_l2, eq_l2, ll_t2, add_l2, lt_l3, le_l3, eq_l3, ll_t3, add_l3, lt_l4, le_l4, eq_l4, ll_t4, add_l4, lt_l5, le_l5, eq_l5, ll_t5, add_l5, lt_l6, le_l6, eq_l6, ll_t6, add_l6, lt_l10, le_l10, eq_l10, ll_t10, add_l10, lt_l12, le_l12, eq_l12, ll_t12, add_l12, lt_l25, le_l25, eq_l25, ll_t25, add_l25, lt_l40, le_l40, eq_l40, ll_t40, add_l40, lt_l41, le_l41, eq_l41, ll_t41, add_l41, lt_l42, le_l42, eq_l42, ll_t42, add_l42, lt_l61, le_l61, eq_l61, ll_t61, add_l61, lt_l120, le_l120, eq_l120, ll_t120, add_l120, lt_l121, le_l121, eq_l121, ll_t121, add_l121, lt_l122, le_l122, eq_l122, ll_t122, add_l122, lt_l576, le_l576, eq_l576, ll_t576, add_l576, lt_l600, le_l600, eq_l600, ll_t600, add_l600, lt_l1000, le_l1000, eq_l1000, ll_t1000, add_l1000]
  rw [rbtw, show N j = (N j - 1) + 1 by omega, nI_pred, show (0 : Int32) = nI 0 from rfl, btw_nI (by omega) (by omega) (by omega), decide_eq_true (by omega)]
  rfl
theorem rline_out (h : MW σ M N B) {j : Nat} {x : Int32} (hj : j < M) (hx : x < 0 ∨ nI (N j) ≤ x) : f_R_isLine σ (nI j) x = some 0 := by
  have hM := h.le; have hn := h.n hj
  unfold f_R_isLine
  simp (disch := omega) only [h.od hj, and_self, and_true, true_and, and_false, false_and, cap_some, cal_some, cax_ok, cax_er, jn_eq, lt1_eq, sto_eq, ald_nI, ast_nI, gld_nI, fac_nI, lt_nI, le_nI, eq_nI, nI_1, nI_add, nI_mul, cell5, cell25, ce_m1, if_pos, if_neg, ↓reduceIte, if_true, if_false, lt_l0, le_l0, eq_l0, ll_t0, add_l0, lt_l1, le_l1, eq_l1, ll_t1, add_l1, lt_l2, le_l2, eq_l2, ll_t2, add_l2, lt_l3, le_l3, eq_l3, ll_t3, add_l3, lt_l4, le_l4, eq_l4, ll_t4, add_l4, lt_l5, le_l5, eq_l5, ll_t5, add_l5, lt_l6, le_l6, eq_l6, ll_t6, add_l6, lt_l10, le_l10, eq_l10, ll_t10, add_l10, lt_l12, le_l12, eq_l12, ll_t12, add_l12, lt_l25, le_l25, eq_l25, ll_t25, add_l25, lt_l40, le_l40, eq_l40, ll_t40, add_l40, lt_l41, le_l41, eq_l41, ll_t41, add_l41, lt_l42, le_l42, eq_l42, ll_t42, add_l42, lt_l61, le_l61, eq_l61, ll_t61, add_l61, lt_l120, le_l120, eq_l120, ll_t120, add_l120, lt_l121, le_l121, eq_l121, ll_t121, add_l121, lt_l122, le_l122, eq_l122, ll_t122, add_l122, lt_l576, le_l576, eq_l576, ll_t576, add_l576, lt_l600, le_l600, eq_l600, ll_t600, add_l600, lt_l1000, le_l1000, eq_l1000, ll_t1000, add_l1000]
  rw [rbtw]
  have e : btw x 0 (nI (N j) - 1) = false := by
    rcases hx with hx | hx
    · simp [btw, hx]
    · have h1 : ¬ x ≤ nI (N j) - 1 := fun h2 => by
        rw [show N j = (N j - 1) + 1 by omega, nI_pred] at h2
        exact nI_ge (a := N j - 1) (b := N j) (by omega) (by omega) (Int32.le_trans hx h2)
      simp only [btw, h1, decide_false, Bool.and_false]
  rw [e]
  rfl
theorem rcell_g (h : MW σ M N B) {x y z : Int32} (hx : x < 0 ∨ nI M ≤ x) : f_R_isCell σ x y z = some 0 := by
  unfold f_R_isCell
  rw [rgrid_out h hx]
  rfl
theorem rcell_in (h : MW σ M N B) {j r c : Nat} (hj : j < M) (hr : r < N j) (hc : c < N j) : f_R_isCell σ (nI j) (nI r) (nI c) = some 1 := by
  unfold f_R_isCell
  rw [rgrid_in h hj, rline_in h hj hr, rline_in h hj hc]
  rfl
theorem rcell_out (h : MW σ M N B) {j : Nat} {x y : Int32} (hj : j < M) (hx : (x < 0 ∨ nI (N j) ≤ x) ∨ (y < 0 ∨ nI (N j) ≤ y)) : f_R_isCell σ (nI j) x y = some 0 := by
  unfold f_R_isCell
  rw [rgrid_in h hj]
  rcases hx with hx | hx
  · rw [rline_out h hj hx]; rfl
  · rw [rline_out h hj hx]
    simp only [cap_some, jn_eq]
    rcases i32_cases x (N j) (by have := h.n hj; omega) with ⟨r, hr, rfl⟩ | hy
    · rw [rline_in h hj hr]; rfl
    · rw [rline_out h hj hy]; rfl
end OA
/-- a grid number that isn't one -/
theorem g_cases (M : Nat) (hM : M ≤ 12) (x : Int32) : (∃ j, j < M ∧ x = nI j) ∨ (x < 0 ∨ nI M ≤ x) := i32_cases x M (by omega)
theorem cell_cases (n : Nat) (hn : n ≤ 5) (x y : Int32) : (∃ r c, r < n ∧ c < n ∧ x = nI r ∧ y = nI c) ∨ ((x < 0 ∨ nI n ≤ x) ∨ (y < 0 ∨ nI n ≤ y)) := by
  rcases i32_cases x n (by omega) with ⟨r, hr, rfl⟩ | hx
  · rcases i32_cases y n (by omega) with ⟨c, hc, rfl⟩ | hy
    · exact Or.inl ⟨r, c, hr, hc, rfl, rfl⟩
    · exact Or.inr (Or.inr hy)
  · exact Or.inr (Or.inl hx)
def RdG (cd : Nat → Option Int32) (Q : St → Option (Except Nat Int32 × St)) (R : St → Option (Int32 × St)) (σ : St) (M : Nat) (N : Nat → Nat) (B : Nat → Nat → Nat → Nat) : Prop :=
  ∃ q σ', Q σ = some (q, σ') ∧ FrC σ σ' ∧ ∀ σ1, MW σ1 M N B → CA σ1 → (∃ t ch, CT σ t ch ∧ MC σ1 t ch) → ∃ b9 σ2, R σ1 = some (b9, σ2) ∧ FrM σ1 σ2 ∧ CA σ2 ∧ Agr cd q b9 (σ2 82 0)
theorem op_rd {cd : Nat → Option Int32} {Q : St → Option (Except Nat Int32 × St)} {R : St → Option (Int32 × St)} {σ : St} (hI : Inv σ)
    (h : ∀ M N B, CW σ M N B → MT σ → (∃ t ch, CT σ t ch) → RdG cd Q R σ M N B) :
    ∃ (k b9 : Int32) (σ1 σ2 : St), wv cd (Q σ) = some (k, σ1) ∧ R σ1 = some (b9, σ2) ∧ σ2 82 0 = k ∧ (k = 0 → σ2 103 0 = b9) ∧ Inv σ2 := op_read hI h
theorem rd_err {cd : Nat → Option Int32} {Q : St → Option (Except Nat Int32 × St)} {R : St → Option (Int32 × St)} {σ : St} {M : Nat} {N : Nat → Nat} {B : Nat → Nat → Nat → Nat} (e : Nat) (k : Int32) {σ' : St}
    (hQ : Q σ = some (.error e, σ')) (hf : FrC σ σ') (hk : cd e = some k ∧ k ≠ 0) (hR : ∀ σ1, MW σ1 M N B → (∃ t ch, CT σ t ch ∧ MC σ1 t ch) → ∃ v τ, R σ1 = some (v, τ) ∧ FrK σ1 τ ∧ τ 82 0 = k) : RdG cd Q R σ M N B := by
  refine ⟨_, σ', hQ, hf, fun σ1 mw ca ct => ?_⟩
  obtain ⟨v, τ, h1, h2, h3⟩ := hR σ1 mw ct
  exact ⟨v, τ, h1, h2.m, h2.ca ca, by rw [h3]; exact hk⟩
theorem rd_ok {cd : Nat → Option Int32} {Q : St → Option (Except Nat Int32 × St)} {R : St → Option (Int32 × St)} {σ : St} {M : Nat} {N : Nat → Nat} {B : Nat → Nat → Nat → Nat} (v : Int32) {σ' : St}
    (hQ : Q σ = some (.ok v, σ')) (hf : FrC σ σ') (hR : ∀ σ1, MW σ1 M N B → CA σ1 → (∃ t ch, CT σ t ch ∧ MC σ1 t ch) → ∃ τ, R σ1 = some (v, τ) ∧ FrM σ1 τ ∧ CA τ ∧ τ 82 0 = 0) : RdG cd Q R σ M N B := by
  refine ⟨_, σ', hQ, hf, fun σ1 mw ca ct => ?_⟩
  obtain ⟨τ, h1, h2, h3, h4⟩ := hR σ1 mw ca ct
  exact ⟨v, τ, h1, h2, h3, h4, rfl⟩
theorem rd_k {cd : Nat → Option Int32} {Q : St → Option (Except Nat Int32 × St)} {R : St → Option (Int32 × St)} {σ : St} {M : Nat} {N : Nat → Nat} {B : Nat → Nat → Nat → Nat} (v : Int32) {σ' : St}
    (hQ : Q σ = some (.ok v, σ')) (hf : FrC σ σ') (hR : ∀ σ1, MW σ1 M N B → ∃ τ, R σ1 = some (v, τ) ∧ FrK σ1 τ ∧ τ 82 0 = 0) : RdG cd Q R σ M N B := by
  refine rd_ok v hQ hf (fun σ1 mw ca _ => ?_)
  obtain ⟨τ, h1, h2, h3⟩ := hR σ1 mw
  exact ⟨τ, h1, h2.m, h2.ca ca, h3⟩
theorem ok_cell : Ok_cell Inv := by
  intro σ hI p0 p1 p2
  refine op_rd hI (Q := fun σ => f_Q_cell σ p0 p1 p2) (R := fun σ => f_R_cell σ p0 p1 p2) (fun M N B cw mt ct => ?_)
  rcases g_cases M cw.le p0 with ⟨j, hj, rfl⟩ | hx
  · have hG := cw.g hj
    rcases cell_cases (N j) hG.le.2 p1 p2 with ⟨r, c, hr, hc, rfl, rfl⟩ | hx
    · refine rd_k (ce (B j r c)) (σ' := σ) ?_ (FrC.refl σ) (fun σ1 mw => ⟨wr σ1 82 0 0, ?_, FrK.t, rfl⟩)
      · show f_Q_cell σ _ _ _ = _
        unfold f_Q_cell
        rw [gridAt_in cw hj, cax_ok, needCell_in hG hr hc, cax_ok, sign_in hG hr hc]
        rfl
      · show f_R_cell σ1 _ _ _ = _
        unfold f_R_cell
        rw [rcell_in mw hj hr hc]
        simp only [cap_some, jn_eq, sto_eq]
        rw [if_neg (by decide), wr_at, if_pos (by decide), at_ok (mw.k FrK.t) hj hr hc]
        rfl
    · refine rd_err 1 1 (σ' := σ) ?_ (FrC.refl σ) (by decide) (fun σ1 mw _ => ⟨0, wr σ1 82 0 1, ?_, FrK.t, rfl⟩)
      · show f_Q_cell σ _ _ _ = _
        unfold f_Q_cell
        rw [gridAt_in cw hj, cax_ok, needCell_out hG hx, cax_er]
      · show f_R_cell σ1 _ _ _ = _
        unfold f_R_cell
        rw [rcell_out mw hj hx]
        rfl
  · refine rd_err 1 1 (σ' := σ) ?_ (FrC.refl σ) (by decide) (fun σ1 mw _ => ⟨0, wr σ1 82 0 1, ?_, FrK.t, rfl⟩)
    · show f_Q_cell σ _ _ _ = _
      unfold f_Q_cell
      rw [gridAt_out cw hx, cax_er]
    · show f_R_cell σ1 _ _ _ = _
      unfold f_R_cell
      rw [rcell_g mw hx]
      rfl
