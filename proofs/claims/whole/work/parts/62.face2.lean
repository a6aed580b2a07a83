/-! counting what a grid holds; the reference's questions -/
theorem cnt_nn {n : Nat} {B : Nat → Nat → Nat} (h : Wf n B) : cnt B = (List.range (n * n)).countP (fun i => decide (B (i / n) (i % n) ≠ 0)) := by
  have h1 := h.1
  have h2 := h.2.1
  have ho : ∀ r c, n ≤ r ∨ n ≤ c → B r c = 0 := fun r c => h.out
  match n, h1, h2 with
  | 2, _, _ =>
    have := ho
    simp (disch := omega) [cnt, List.range, List.range.loop, List.countP_cons, ho]
  | 3, _, _ => simp (disch := omega) [cnt, List.range, List.range.loop, List.countP_cons, ho]
  | 4, _, _ => simp (disch := omega) [cnt, List.range, List.range.loop, List.countP_cons, ho]
  | 5, _, _ => rfl
theorem cnt_nle {n : Nat} {B : Nat → Nat → Nat} (h : Wf n B) : cnt B ≤ n * n := by
  rw [cnt_nn h]
  exact Nat.le_trans List.countP_le_length (by simp)
theorem full_iff {n : Nat} {B : Nat → Nat → Nat} (h : Wf n B) : cnt B = n * n ↔ ∀ r c, r < n → c < n → B r c ≠ 0 := by
  have h1 := h.1
  rw [cnt_nn h]
  have e : n * n = (List.range (n * n)).length := by simp
  rw [show ((List.range (n * n)).countP (fun i => decide (B (i / n) (i % n) ≠ 0)) = n * n) = ((List.range (n * n)).countP (fun i => decide (B (i / n) (i % n) ≠ 0)) = (List.range (n * n)).length) by rw [← e], List.countP_eq_length]
  constructor
  · intro h2 r c hr hc
    have h3 : n * r + c < n * n := by
      have : n * r ≤ n * (n - 1) := Nat.mul_le_mul_left _ (by omega)
      have : n * (n - 1) + n = n * n := by rw [← Nat.mul_succ]; congr 1; omega
      omega
    have h4 := h2 (n * r + c) (List.mem_range.mpr h3)
    rw [Nat.mul_add_div (by omega), Nat.mul_add_mod, Nat.div_eq_of_lt hc, Nat.mod_eq_of_lt hc] at h4
    simpa using h4
  · intro h2 i hi
    have hi := List.mem_range.mp hi
    have := h2 (i / n) (i % n) (Nat.div_lt_of_lt_mul hi) (Nat.mod_lt _ (by omega))
    simpa using this
def full (n : Nat) (B : Nat → Nat → Nat) : Bool := decide (cnt B = n * n)
def FrK (σ τ : St) : Prop := (∀ m, m < 82 ∨ m = 83 ∨ m = 84 ∨ m = 85 ∨ m = 89 ∨ m = 103 → τ m = σ m) ∧ ∀ s, s = 1 ∨ s = 4 ∨ s = 9 ∨ s = 10 → τ 82 s = σ 82 s
theorem FrK.refl (σ : St) : FrK σ σ := ⟨fun _ _ => rfl, fun _ _ => rfl⟩
theorem FrK.trans {a b c : St} (h : FrK a b) (h2 : FrK b c) : FrK a c := ⟨fun m hm => (h2.1 m hm).trans (h.1 m hm), fun m hm => (h2.2 m hm).trans (h.2 m hm)⟩
theorem FrK.w {σ τ : St} (h : FrK σ τ) {m s : Nat} {v : Int32} (hm : ¬ (m < 82 ∨ m = 83 ∨ m = 84 ∨ m = 85 ∨ m = 89 ∨ m = 103)) (hs : ¬ (m = 82 ∧ (s = 1 ∨ s = 4 ∨ s = 9 ∨ s = 10))) : FrK σ (wr τ m s v) := by
  refine ⟨fun m' hm' => ?_, fun s' hs' => ?_⟩
  · rw [wr_fn (by omega)]; exact h.1 m' hm'
  · rw [wr_get, if_neg (by omega)]; exact h.2 s' hs'
theorem FrK.m {σ τ : St} (h : FrK σ τ) : FrM σ τ := ⟨fun m hm => h.1 m (by omega), h.2 1 (by omega), h.2 4 (by omega)⟩
theorem FrK.ca {σ τ : St} (h : FrK σ τ) (hc : CA σ) : CA τ := hc.fr (h.2 9 (by omega)) (h.2 10 (by omega)) (h.1 89 (by omega))
theorem FrK.t {σ : St} {v : Int32} : FrK σ (wr σ 82 0 v) := (FrK.refl σ).w (by omega) (by omega)
section FB
variable {σ : St} {M : Nat} {N : Nat → Nat} {B : Nat → Nat → Nat → Nat}
theorem sq_ok {k n : Nat} {B : Nat → Nat → Nat} (h : GOK σ k n B) : f_Grid_isSquare σ k = some (bI (full n B)) := by
  have hn := h.le
  have h1 := cnt_nle h.1
  have h2 : n * n ≤ 25 := Nat.mul_le_mul hn.2 hn.2
  unfold f_Grid_isSquare full
  rw [empt_ok h, nI_sub h1]
  simp only [cap_some]
  simp (disch := omega) only [eq_l0]
  by_cases h3 : cnt B = n * n
  · rw [if_pos (by omega), decide_eq_true h3]; rfl
  · rw [if_neg (by omega), decide_eq_false h3]; rfl
theorem filled_ok (h : MW σ M N B) {j : Nat} (hj : j < M) : f_R_filled σ (nI j) = some (nI (cnt (B j))) := by
  have hM := h.le; have hn := h.n hj
  have h2 : N j * N j ≤ 25 := Nat.mul_le_mul hn.2 hn.2
  have ho := h.od hj
  unfold f_R_filled
  have A := loopE (fun m i (a : Nat) => f_R_filled_L4 (nI j) σ (fun v => some v) m (nI a) (nI i)) (N j * N j)
    (fun i a => a = (List.range i).countP (fun i => decide (B j (i / N j) (i % N j) ≠ 0)))
    (fun R => R = some (nI (cnt (B j)))) ?_ ?_ FU 0 0 (by omega) (FU_gt (by omega)) rfl
  · exact A
  · intro m i a hi hp
    refine Or.inr ⟨_, ?_, rfl⟩
    show f_R_filled_L4 (nI j) σ _ (m + 1) (nI a) (nI i) = _
    rw [f_R_filled_L4.eq_2]
    have hb : B j (i / N j) (i % N j) ≤ 5 := (h.wf hj).bd _ _
    have he := h.ce hj (r := i / N j) (c := i % N j) (Nat.div_lt_of_lt_mul hi) (Nat.mod_lt _ (by omega))
    rw [Nat.add_assoc, Nat.div_add_mod] at he
    simp (disch := omega) only [ho, he, and_self, and_true, true_and, and_false, false_and, cap_some, cal_some, cax_ok, cax_er, jn_eq, lt1_eq, sto_eq, ald_nI, ast_nI, gld_nI, fac_nI, lt_nI, le_nI, eq_nI, nI_1, nI_add, nI_mul, cell5, cell25, ce_m1, if_pos, if_neg, ↓reduceIte, if_true, if_false, lt_l0, le_l0, eq_l0, ll_t0, add_l0, lt_l1, le_l1, eq_l1, ll_t1, add_l1, lt_l2, le_l2, eq_l2, ll_t2, add_l2, lt_l3, le_l3, eq_l3, ll_t3, add_l3, lt_l4, le_l4, eq_l4, ll_t4, add_l4, lt_l5, le_l5, eq_l5, ll_t5, add_l5, lt_l6, le_l6, eq_l6, ll_t6, add_l6, lt_l10, le_l10, eq_l10, ll_t10, add_l10, lt_l12, le_l12, eq_l12, ll_t12, add_l12, lt_l25, le_l25, eq_l25, ll_t25, add_l25, lt_l40, le_l40, eq_l40, ll_t40, add_l40, lt_l41, le_l41, eq_l41, ll_t41, add_l41, lt_l42, le_l42, eq_l42, ll_t42, add_l42, lt_l61, le_l61, eq_l61, ll_t61, add_l61, lt_l120, le_l120, eq_l120, ll_t120, add_l120, lt_l121, le_l121, eq_l121, ll_t121, add_l121, lt_l122, le_l122, eq_l122, ll_t122, add_l122, lt_l576, le_l576, eq_l576, ll_t576, add_l576, lt_l600, le_l600, eq_l600, ll_t600, add_l600, lt_l1000, le_l1000, eq_l1000, ll_t1000, add_l1000]
    rw [List.range_succ, List.countP_append, ← hp]
    by_cases h0 : B j (i / N j) (i % N j) = 0
    · simp only [h0, if_true, List.countP_cons, List.countP_nil]
      rfl
    · simp only [h0, if_false, List.countP_cons, List.countP_nil, add_l1]
      simp [h0]
  · intro m a hp
    show f_R_filled_L4 (nI j) σ _ (m + 1) (nI a) (nI (N j * N j)) = _
    rw [f_R_filled_L4.eq_2]
    simp (disch := omega) only [ho, and_self, and_true, true_and, and_false, false_and, cap_some, cal_some, cax_ok, cax_er, jn_eq, lt1_eq, sto_eq, ald_nI, ast_nI, gld_nI, fac_nI, lt_nI, le_nI, eq_nI, nI_1, nI_add, nI_mul, cell5, cell25, ce_m1, if_pos, if_neg, ↓reduceIte, if_true, if_false, lt_l0, le_l0, eq_l0, ll_t0, add_l0, lt_l1, le_l1, eq_l1, ll_t1, add_l1, lt_l2, le_l2, eq_l2, ll_t2, add_l2, lt_l3, le_l3, eq_l3, ll_t3, add_l3, lt_l4, le_l4, eq_l4, ll_t4, add_l4, lt_l5, le_l5, eq_l5, ll_t5, add_l5, lt_l6, le_l6, eq_l6, ll_t6, add_l6, lt_l10, le_l10, eq_l10, ll_t10, add_l10, lt_l12, le_l12, eq_l12, ll_t12, add_l12, lt_l25, le_l25, eq_l25, ll_t25, add_l25, lt_l40, le_l40, eq_l40, ll_t40, add_l40, lt_l41, le_l41, eq_l41, ll_t41, add_l41, lt_l42, le_l42, eq_l42, ll_t42, add_l42, lt_l61, le_l61, eq_l61, ll_t61, add_l61, lt_l120, le_l120, eq_l120, ll_t120, add_l120, lt_l121, le_l121, eq_l121, ll_t121, add_l121, lt_l122, le_l122, eq_l122, ll_t122, add_l122, lt_l576, le_l576, eq_l576, ll_t576, add_l576, lt_l600, le_l600, eq_l600, ll_t600, add_l600, lt_l1000, le_l1000, eq_l1000, ll_t1000, add_l1000]
    rw [hp, cnt_nn (h.wf hj)]
theorem rsq_ok (h : MW σ M N B) {j : Nat} (hj : j < M) : f_R_isSquare σ (nI j) = some (bI (full (N j) (B j))) := by
  have hM := h.le; have hn := h.n hj
  have h2 : N j * N j ≤ 25 := Nat.mul_le_mul hn.2 hn.2
  have h1 := cnt_nle (h.wf hj)
  unfold f_R_isSquare full
  rw [filled_ok h hj]
  simp (disch := omega) only [h.od hj, and_self, and_true, true_and, and_false, false_and, cap_some, cal_some, cax_ok, cax_er, jn_eq, lt1_eq, sto_eq, ald_nI, ast_nI, gld_nI, fac_nI, lt_nI, le_nI, eq_nI, nI_1, nI_add, nI_mul, cell5, cell25, ce_m1, if_pos, if_neg, ↓reduceIte, if_true, if_false, lt_l0, le_l0, eq_l0, ll_t0, add_l0, lt_l1, le_l1, eq_l1, ll_t1, add_l1, lt_l2, le_l2, eq_l2, ll_t2, add_l2, lt_l3, le_l3, eq_l3, ll_t3, add_l3, lt_l4, le_l4, eq_l4, ll_t4, add_l4, lt_l5, le_l5, eq_l5, ll_t5, add_l5, lt_l6, le_l6, eq_l6, ll_t6, add_l6, lt_l10, le_l10, eq_l10, ll_t10, add_l10, lt_l12, le_l12, eq_l12, ll_t12, add_l12, lt_l25, le_l25, eq_l25, ll_t25, add_l25, lt_l40, le_l40, eq_l40, ll_t40, add_l40, lt_l41, le_l41, eq_l41, ll_t41, add_l41, lt_l42, le_l42, eq_l42, ll_t42, add_l42, lt_l61, le_l61, eq_l61, ll_t61, add_l61, lt_l120, le_l120, eq_l120, ll_t120, add_l120, lt_l121, le_l121, eq_l121, ll_t121, add_l121, lt_l122, le_l122, eq_l122, ll_t122, add_l122, lt_l576, le_l576, eq_l576, ll_t576, add_l576, lt_l600, le_l600, eq_l600, ll_t600, add_l600, lt_l1000, le_l1000, eq_l1000, ll_t1000, add_l1000]
  by_cases h3 : cnt (B j) = N j * N j
  · rw [if_pos h3, decide_eq_true h3]; rfl
  · rw [if_neg h3, decide_eq_false h3]; rfl
theorem MW.k {τ : St} (h : MW σ M N B) (hf : FrK σ τ) : MW τ M N B := h.fr hf.m
theorem ask_out (h : MW σ M N B) {x : Int32} (hx : x < 0 ∨ nI M ≤ x) : ∃ τ, f_R_canAsk σ x = some (0, τ) ∧ FrK σ τ ∧ τ 82 0 = 1 := by
  unfold f_R_canAsk
  rw [rgrid_out h hx]
  exact ⟨wr σ 82 0 1, rfl, FrK.t, rfl⟩
theorem ask_in (h : MW σ M N B) {j : Nat} (hj : j < M) : ∃ τ, f_R_canAsk σ (nI j) = some (bI (full (N j) (B j)), τ) ∧ FrK σ τ ∧ τ 82 0 = if full (N j) (B j) = true then 0 else 2 := by
  unfold f_R_canAsk
  rw [rgrid_in h hj]
  simp only [cap_some, jn_eq, sto_eq]
  rw [if_neg (by decide), wr_at, if_pos rfl, rsq_ok (h.k FrK.t) hj]
  simp only [cap_some]
  cases full (N j) (B j)
  · exact ⟨wr (wr σ 82 0 0) 82 0 2, rfl, FrK.t.trans FrK.t, rfl⟩
  · exact ⟨wr (wr σ 82 0 0) 82 0 0, rfl, FrK.t.trans FrK.t, rfl⟩
theorem askw_out (h : MW σ M N B) {x v : Int32} (hx : x < 0 ∨ nI M ≤ x) : ∃ τ, f_R_canAskWith σ x v = some (0, τ) ∧ FrK σ τ ∧ τ 82 0 = 1 := by
  unfold f_R_canAskWith
  rw [rgrid_out h hx]
  exact ⟨wr σ 82 0 1, rfl, FrK.t, rfl⟩
theorem askw_in (h : MW σ M N B) {j : Nat} (hj : j < M) (b : Bool) : ∃ τ, f_R_canAskWith σ (nI j) (bI b) = some (bI (b && full (N j) (B j)), τ) ∧ FrK σ τ ∧ τ 82 0 = if b = true then (if full (N j) (B j) = true then 0 else 3) else 2 := by
  unfold f_R_canAskWith
  rw [rgrid_in h hj]
  simp only [cap_some, jn_eq, sto_eq]
  rw [if_neg (by decide)]
  cases b
  · exact ⟨wr σ 82 0 2, rfl, FrK.t, rfl⟩
  · rw [if_neg (by decide), wr_at, if_pos rfl, rsq_ok (h.k FrK.t) hj]
    simp only [cap_some]
    cases full (N j) (B j)
    · exact ⟨wr (wr σ 82 0 0) 82 0 3, rfl, FrK.t.trans FrK.t, rfl⟩
    · exact ⟨wr (wr σ 82 0 0) 82 0 0, rfl, FrK.t.trans FrK.t, rfl⟩
end FB
