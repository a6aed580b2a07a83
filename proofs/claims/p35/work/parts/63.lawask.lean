/-! what the class answers in the law's world -/
theorem cay_ok {α β : Type} {v : α} {σ : St} {f : α → St → Option β} : cay (some (.ok v, σ)) f = f v σ := rfl
theorem CW.lo {σ σ' : St} {M : Nat} {N : Nat → Nat} {B : Nat → Bd} (h : CW σ M N B) (hf : ∀ m, m < 82 → σ' m = σ m) : CW σ' M N B := by
  obtain ⟨h1, h2, h3⟩ := h
  refine ⟨h1, ?_, fun j hj => (h3 j hj).frame (fun m a b => ?_)⟩
  · rw [hf 0 (by omega)]; exact h2
  · unfold gid at a b
    exact hf m (by omega)
def Bs (B B1 : Bd) : Nat → Bd := fun j => if j = 0 then B else B1
/-- the class holds two grids of the order n -/
def LW (σ : St) (n : Nat) (B B1 : Bd) : Prop := CW σ 2 (fun _ => n) (Bs B B1)
section LA9
variable {σ : St} {n : Nat} {B B1 : Bd}
theorem LW.g0 (h : LW σ n B B1) : GOK σ 34 n B := h.g (j := 0) (by decide)
theorem LW.g1 (h : LW σ n B B1) : GOK σ 38 n B1 := h.g (j := 1) (by decide)
theorem LW.at0 (h : LW σ n B B1) : f_Q_gridAt σ 0 = some (.ok 34, σ) := gridAt_in (j := 0) h (by decide)
theorem LW.at1 (h : LW σ n B B1) : f_Q_gridAt σ 1 = some (.ok 38, σ) := gridAt_in (j := 1) h (by decide)
theorem LW.lo {τ : St} (h : LW σ n B B1) (hf : ∀ m, m < 82 → τ m = σ m) : LW τ n B B1 := CW.lo h hf
theorem lq_cell0 (h : LW σ n B B1) {r c : Nat} (hr : r < n) (hc : c < n) : f_Q_cell σ 0 (nI r) (nI c) = some (.ok (ce (B r c)), σ) := by
  unfold f_Q_cell
  rw [h.at0, cax_ok, needCell_in h.g0 hr hc, cax_ok, sign_in h.g0 hr hc, cap_some]
theorem lq_cell1 (h : LW σ n B B1) {r c : Nat} (hr : r < n) (hc : c < n) : f_Q_cell σ 1 (nI r) (nI c) = some (.ok (ce (B1 r c)), σ) := by
  unfold f_Q_cell
  rw [h.at1, cax_ok, needCell_in h.g1 hr hc, cax_ok, sign_in h.g1 hr hc, cap_some]
theorem lq_can (h : LW σ n B B1) {r c : Nat} (hr : r < n) (hc : c < n) : f_Q_can σ 0 (nI r) (nI c) = some (.ok (sI (opt n B r c)), σ) := by
  unfold f_Q_can
  rw [h.at0, cax_ok, needCell_in h.g0 hr hc, cax_ok, opt_in h.g0 hr hc, cap_some]
theorem lq_of0 (h : LW σ n B B1) : f_Q_of σ 0 0 = some (.ok (nI n), σ) := by
  unfold f_Q_of
  rw [h.at0, cax_ok, isFrom_ok, cap_some, show btw 0 0 2 = true from rfl, nar true, if_pos rfl, cax_ok, if_pos rfl, h.g0.ord]
theorem lq_of1 (h : LW σ n B B1) : f_Q_of σ 0 1 = some (.ok (nI (cnt B)), σ) := by
  unfold f_Q_of
  rw [h.at0, cax_ok, isFrom_ok, cap_some, show btw 1 0 2 = true from rfl, nar true, if_pos rfl, cax_ok, if_neg (by decide), if_pos rfl, h.g0.fil]
theorem lq_of2 (h : LW σ n B B1) : f_Q_of σ 0 2 = some (.ok (nI (sumN n (fun r => sumN n (fun c => dead n B r c)))), σ) := by
  unfold f_Q_of
  rw [h.at0, cax_ok, isFrom_ok, cap_some, show btw 2 0 2 = true from rfl, nar true, if_pos rfl, cax_ok, if_neg (by decide), if_neg (by decide), dead_ok h.g0, cap_some]
theorem lq_dist (h : LW σ n B B1) : f_Q_distance σ 0 1 = some (.ok (nI (sumN n (fun r => sumN n (fun c => unl B B1 r c)))), σ) := by
  unfold f_Q_distance
  rw [h.at0, cax_ok, h.at1, cax_ok, h.g0.ord, h.g1.ord, jn_eq, if_pos rfl]
  show cax (f_Q_needArgument σ 1) _ = _
  rw [nar1, cax_ok, dist39 h.g0 h.g1 rfl]
theorem lq_forced (h : LW σ n B B1) {τ : St} {o : Nat} (hA : Arr τ o n B) : ∃ x, f_Q_forced σ 0 = some (.ok x, σ) ∧ f_L_forced τ o (nI n) = some x := by
  have hw := h.g0.1
  have hn1 := hw.1
  have hn2 := hw.2.1
  have q0 : f_Q_forced σ 0 = cap (f_Filling_firstForced σ 34) fun r_5 => cap (f_Move_told σ r_5 (nI n)) fun r_7 => some (.ok r_7, σ) := by
    unfold f_Q_forced
    rw [h.at0, cax_ok, h.g0.ord]
  by_cases hno : ∃ i, i < n * n * n ∧ fI n B i
  · obtain ⟨i, hi, hp, hmin⟩ := pl_least _ _ hno
    have hl := idx_lt hi
    refine ⟨nI (10 * (i / n) + i % n), ?_, (pl_forced hw hA).at (by rw [pl_mulc]; exact hi) hp hmin⟩
    rw [q0, (first_ok h.g0).at hi hp hmin, cap_some]
    unfold pk
    rw [told_pk hn2 (by omega) (by omega) (by omega), cap_some, Nat.div_add_mod]
  · refine ⟨-1, ?_, (pl_forced hw hA).no (by rw [pl_mulc]; exact hno)⟩
    rw [q0, (first_ok h.g0).no hno, cap_some]
    rfl
theorem jn_01 {β : Type} (k : Int32 → β) (c : Prop) [Decidable c] : (jn k fun j => if c then j 0 else j 1) = k (bI (!decide c)) := by
  unfold jn
  by_cases h : c <;> simp [h, bI]
theorem jn_10 {β : Type} (k : Int32 → β) (c : Prop) [Decidable c] : (jn k fun j => if c then j 1 else j 0) = k (bI (decide c)) := by
  unfold jn
  by_cases h : c <;> simp [h, bI]
theorem jn_sel {β : Type} (k : Int32 → β) (c d : Prop) [Decidable c] [Decidable d] : (jn k fun j => jn (j 0) fun j2 => if c then (if d then j 1 else j2) else j2) = k (bI (decide c && decide d)) := by
  unfold jn
  by_cases h : c <;> by_cases h2 : d <;> simp [h, h2, bI]
theorem pl_1 : ((1 : Int32) = 0) = False := by decide
theorem pl_759 (h : LW σ n B B1) (hA : Arr σ 82 n B) (hS : Arr σ 83 n B1) {i : Nat} (hi : i < n * n) (a d u m : Nat) (v9 : Int32) (kx : Int32 → Int32 → Int32 → Int32 → St → Option Int32) :
    f_L_law_L759 (nI n) v9 kx (m + 1) 1 (nI a) (nI d) (nI u) (nI i) σ = f_L_law_L759 (nI n) v9 kx m 1 (nI (a + (decide (B (i / n) (i % n) ≠ 0)).toNat)) (nI (d + dead n B (i / n) (i % n))) (nI (u + unl B B1 (i / n) (i % n))) (nI (i + 1)) (wr σ 84 i (ce (B (i / n) (i % n)))) := by
  have hw := h.g0.1
  have hn1 := hw.1
  have hn2 := hw.2.1
  have h25 : n * n ≤ 25 := Nat.mul_le_mul hn2 hn2
  have hr : i / n < n := Nat.div_lt_of_lt_mul hi
  have hc : i % n < n := Nat.mod_lt _ (by omega)
  have x0 := hA.at hi
  have x1 := hS.at hi
  have hb := hw.bd (i / n) (i % n)
  have hb1 := h.g1.1.bd (i / n) (i % n)
  have e2 : ∀ {τ : St}, Arr τ 82 n B → f_L_set τ 82 (nI n) (nI i) = some (sI (opt n B (i / n) (i % n))) := by
    intro τ hτ
    have := pl_set hw hτ hr hc
    rwa [Nat.div_add_mod] at this
  have hT : LW (wr σ 84 i (ce (B (i / n) (i % n)))) n B B1 := h.lo (fun m hm => wr_fn (by omega))
  have hA2 : Arr (wr σ 84 i (ce (B (i / n) (i % n)))) 82 n B := hA.fr (wr_fn (by omega))
  have y0 : wr σ 84 i (ce (B (i / n) (i % n))) 82 i = ce (B (i / n) (i % n)) := by rw [wr_fn (by omega)]; exact x0
  have y1 : wr σ 84 i (ce (B (i / n) (i % n))) 83 i = ce (B1 (i / n) (i % n)) := by rw [wr_fn (by omega)]; exact x1
  rw [f_L_law_L759.eq_2]
  have C : (ce (B (i / n) (i % n)) < 0) = (B (i / n) (i % n) = 0) := ce_lt0 (by omega)
  have C1 : (ce (B (i / n) (i % n)) = ce (B1 (i / n) (i % n))) = (B (i / n) (i % n) = B1 (i / n) (i % n)) := ce_inj (by omega) (by omega)
  have C2 := opt_0 hn2 (B := B) (r := i / n) (c := i % n)
  rw [nI_mul, if_pos (nI_lt hi (by omega))]
  simp (disch := omega) only [ald_nI, ast_nI, x0, x1, e2 hA, cap_some, jn_01, jn_10, jn_sel, C, C1, pl_1, if_false, dvi_nI, rmi_nI]
  simp (disch := omega) only [jn_eq, ald_nI, y0, y1, lq_cell0 hT hr hc, lq_cell1 hT hr hc, lq_can hT hr hc, e2 hA2, cay_ok, cap_some, if_true, dvi_nI, rmi_nI, pl_b2n, nI_1]
  have d1 : (!decide (B (i / n) (i % n) = 0)) = decide (B (i / n) (i % n) ≠ 0) := by simp
  have d2 : (decide (B (i / n) (i % n) = 0) && decide (sI (opt n B (i / n) (i % n)) = 0)).toNat = dead n B (i / n) (i % n) := by
    unfold dead
    congr 1
    apply b_dB
    rw [Bool.and_eq_true, decide_eq_true_iff, decide_eq_true_iff, C2]
  have d3 : (!decide (B (i / n) (i % n) = B1 (i / n) (i % n))).toNat = unl B B1 (i / n) (i % n) := by
    unfold unl
    congr 1
    apply b_dB
    simp
  rw [d1, d2, d3]
end LA9
