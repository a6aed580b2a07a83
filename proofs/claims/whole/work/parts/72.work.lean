/-! the reference's work; of, can, distance -/
def WK (σ : St) (n : Nat) (B : Nat → Nat → Nat) : Prop := (2 ≤ n ∧ n ≤ 5 ∧ ∀ r c, B r c ≤ 5) ∧ σ 82 13 = nI n ∧ ∀ r c, r < n → c < n → σ 91 (n * r + c) = ce (B r c)
section WKS
variable {σ : St} {n : Nat} {B : Nat → Nat → Nat}
theorem WK.n2 (h : WK σ n B) : 2 ≤ n ∧ n ≤ 5 := ⟨h.1.1, h.1.2.1⟩
theorem WK.bd (h : WK σ n B) (r c : Nat) : B r c ≤ 5 := h.1.2.2 r c
theorem WK.side (h : WK σ n B) : σ 82 13 = nI n := h.2.1
theorem WK.cel (h : WK σ n B) {r c : Nat} (hr : r < n) (hc : c < n) : σ 91 (n * r + c) = ce (B r c) := h.2.2 r c hr hc
theorem WK.fr {τ : St} (h : WK σ n B) (h1 : τ 82 13 = σ 82 13) (h2 : ∀ i, τ 91 i = σ 91 i) : WK τ n B := ⟨h.1, by rw [h1]; exact h.2.1, fun r c hr hc => by rw [h2]; exact h.2.2 r c hr hc⟩
theorem fits5 (h : WK σ n B) {r c s : Nat} (hr : r < n) (hc : c < n) (hs : s < n) (K : Int32 → Option Int32) : f_R_fits_L5 (nI (n * r + c)) (nI s) σ K FU 1 0 = K (bI (true && dB (∀ i, i < n → ¬ clash n B r c (s + 1) i))) := by
  have hn := h.n2; have ho := h.side
  have b0 := ix25 hn.2 hr hc
  refine loop_flag (fun m i b => f_R_fits_L5 (nI (n * r + c)) (nI s) σ K m (bI b) (nI i)) n (fun i => ¬ clash n B r c (s + 1) i) (fun b => K (bI b)) (by omega) true ?_ ?_
  · intro m i b hi
    show f_R_fits_L5 (nI (n * r + c)) (nI s) σ K (m + 1) (bI b) (nI i) = _
    rw [f_R_fits_L5.eq_2]
    have b1 := ix25 hn.2 hr hi
    have b2 := ix25 hn.2 hi hc
    have d1 : (n * r + c) / n = r := by rw [Nat.mul_add_div (by omega), Nat.div_eq_of_lt hc, Nat.add_zero]
    have d2 : (n * r + c) % n = c := by rw [Nat.mul_add_mod, Nat.mod_eq_of_lt hc]
    rw [ho, if_pos (nI_lt hi (by omega)), dvi_nI (by omega) (by omega) (by omega), d1, lt1_eq, rmi_nI (by omega) (by omega) (by omega), d2, lt1_eq, nI_mul, nI_add, nI_mul, nI_add, Nat.mul_comm r n]
    have c1 := h.cel hr hi
    have c2 := h.cel hi hc
    have v1 := h.bd r i
    have v2 := h.bd i c
    have E1 : (nI (n * r + i) = nI (n * r + c)) = (i = c) := by
      rw [eq_nI (by omega) (by omega)]
      exact propext ⟨fun h => by omega, fun h => by rw [h]⟩
    have E2 : (nI (n * i + c) = nI (n * r + c)) = (i = r) := by
      rw [eq_nI (by omega) (by omega)]
      exact propext ⟨fun h => (idx_inj hc hc h).1, fun h => by rw [h]⟩
    simp only [jn_eq, nI_1]
    rw [ald_nI (by omega) (by decide), ald_nI (by omega) (by decide), c1, c2]
    simp only [E1, E2]
    rw [dB_not, clash]
    simp (disch := omega) only [ce_eqn]
    cases b
    · rw [if_pos (by rfl)]; rfl
    · rw [if_neg (by decide)]
      by_cases e1 : i = c
      · rw [if_pos e1]
        by_cases e2 : i = r
        · rw [if_pos e2, dB_f (by rintro (h | h) <;> omega)]; rfl
        · rw [if_neg e2]
          by_cases e3 : B i c = s + 1
          · rw [if_pos e3, dB_t (Or.inr ⟨e2, e3⟩)]; rfl
          · rw [if_neg e3, dB_f (by rintro (h | h) <;> omega)]; rfl
      · rw [if_neg e1]
        by_cases e4 : B r i = s + 1
        · rw [if_pos e4, dB_t (Or.inl ⟨e1, e4⟩)]; rfl
        · rw [if_neg e4]
          by_cases e2 : i = r
          · rw [if_pos e2, dB_f (by rintro (h | h) <;> omega)]; rfl
          · rw [if_neg e2]
            by_cases e3 : B i c = s + 1
            · rw [if_pos e3, dB_t (Or.inr ⟨e2, e3⟩)]; rfl
            · rw [if_neg e3, dB_f (by rintro (h | h) <;> omega)]; rfl
  · intro m b
    show f_R_fits_L5 (nI (n * r + c)) (nI s) σ K (m + 1) (bI b) (nI n) = _
    rw [f_R_fits_L5.eq_2]
    rw [ho, if_neg (nI_nlt (Nat.le_refl _) (by omega))]
theorem fits_ok (h : WK σ n B) {r c s : Nat} (hr : r < n) (hc : c < n) (hs : s < n) : f_R_fits σ (nI (n * r + c)) (nI s) = some (bI (dB (∀ i, i < n → ¬ clash n B r c (s + 1) i))) := by
  unfold f_R_fits
  rw [fits5 h hr hc hs, zb_bI, Bool.true_and]
theorem opt_clash (hw : Wf n B) {r c s : Nat} (h0 : B r c = 0) : opt n B r c s = true ↔ s < n ∧ ∀ i, i < n → ¬ clash n B r c (s + 1) i := by
  rw [opt_iff]
  have hn := hw.2.1
  constructor
  · rintro ⟨_, h1, h2, h3⟩
    refine ⟨h1, fun i hi hc => ?_⟩
    rcases hc with ⟨_, hc⟩ | ⟨_, hc⟩
    · exact h2 i (by omega) hc
    · exact h3 i (by omega) hc
  · rintro ⟨h1, h2⟩
    refine ⟨h0, h1, fun i hi hc => ?_, fun i hi hc => ?_⟩
    · by_cases e : i = c
      · rw [e] at hc; omega
      · exact h2 i (hw.2.2.1 r i (by omega)).2.1 (Or.inl ⟨e, hc⟩)
    · by_cases e : i = r
      · rw [e] at hc; omega
      · exact h2 i (hw.2.2.1 i c (by omega)).1 (Or.inr ⟨e, hc⟩)
theorem opt_in_n {r c : Nat} : inN n (opt n B r c) := fun s hs => (opt_iff.mp hs).2.1
theorem setAt_ok (h : WK σ n B) (hw : Wf n B) {r c : Nat} (hr : r < n) (hc : c < n) : f_R_setAt σ (nI (n * r + c)) = some (sI (opt n B r c)) := by
  have hn := h.n2; have ho := h.side
  have b0 := ix25 hn.2 hr hc
  have hv := h.bd r c
  unfold f_R_setAt
  by_cases h0 : B r c = 0
  · refine (loop_or (fun m i q => f_R_setAt_L4 (nI (n * r + c)) σ (fun v => some v) m (sI q) (nI i)) n (fun i s => s = i ∧ ∀ k, k < n → ¬ clash n B r c (i + 1) k) (fun q => some (sI q)) (by omega) (fun _ => false) ?_ ?_).trans ?_
    · intro m i q hi
      show f_R_setAt_L4 (nI (n * r + c)) σ _ (m + 1) (sI q) (nI i) = _
      rw [f_R_setAt_L4.eq_2]
      rw [ho, if_pos (nI_lt hi (by omega)), ald_nI (by omega) (by decide), h.cel hr hc, h0, if_pos (by rfl), fits_ok h hr hc hi]
      simp only [cap_some, jn_eq, nI_1]
      by_cases e : ∀ k, k < n → ¬ clash n B r c (i + 1) k
      · rw [dB_t e, if_neg (by decide), or_oneB (by omega)]
        congr 1; apply sI_cong; intro s _; congr 1; apply dB_cong; exact ⟨fun h => ⟨h, e⟩, fun h => h.1⟩
      · rw [dB_f e, if_pos (by rfl), Int32.or_zero]
        congr 1; apply sI_cong; intro s _; rw [dB_f (fun h => e h.2), Bool.or_false]
    · intro m q
      show f_R_setAt_L4 (nI (n * r + c)) σ _ (m + 1) (sI q) (nI n) = _
      rw [f_R_setAt_L4.eq_2]
      rw [ho, if_neg (nI_nlt (Nat.le_refl _) (by omega))]
    · congr 1
      apply sI_cong
      intro s _
      rw [Bool.false_or]
      apply Eq.symm
      apply b_dB
      rw [opt_clash hw h0]
      constructor
      · rintro ⟨h1, h2⟩; exact ⟨s, h1, rfl, h2⟩
      · rintro ⟨i, h1, rfl, h2⟩; exact ⟨h1, h2⟩
  · have e : f_R_setAt_L4 (nI (n * r + c)) σ (fun v => some v) FU 0 0 = some 0 := by
      show f_R_setAt_L4 (nI (n * r + c)) σ (fun v => some v) (999999999999999999999999999999999999999999999999 + 1) 0 0 = some 0
      rw [f_R_setAt_L4.eq_2]
      rw [ho, show (0 : Int32) = nI 0 from rfl, if_pos (nI_lt (by omega) (by omega)), ald_nI (by omega) (by decide), h.cel hr hc, if_neg (by rw [ce_m1 (by omega)]; exact h0)]
    rw [← sI_none] at e
    refine e.trans ?_
    congr 1
    apply sI_cong
    intro s _
    apply Eq.symm
    apply Bool.eq_false_iff.mpr
    intro h1
    exact h0 (opt_iff.mp h1).1
end WKS
theorem copyW_ok {σ : St} {M : Nat} {N : Nat → Nat} {B : Nat → Nat → Nat → Nat} (h : MW σ M N B) {j : Nat} (hj : j < M) : ∃ τ, f_R_copyToWork σ (nI j) = some ((), τ) ∧ WK τ (N j) (B j) ∧ ∀ m s, ¬ (m = 82 ∧ s = 13) → m ≠ 91 → τ m s = σ m s := by
  have hM := h.le; have hn := h.n hj; have ho := h.od hj
  unfold f_R_copyToWork
  rw [ald_nI (by omega) (by decide), ho, sto_eq]
  have A : ∃ τ, f_R_copyToWork_L12 (nI j) FU 0 (wr σ 82 13 (nI (N j))) = some ((), τ) ∧ (∀ i, i < 25 → τ 91 i = σ 84 (25 * j + i)) ∧ ∀ m s, m ≠ 91 → τ m s = wr σ 82 13 (nI (N j)) m s := by
    refine loopE (fun m i (τ : St) => f_R_copyToWork_L12 (nI j) m (nI i) τ) 25
      (fun i τ => (∀ i', i' < i → τ 91 i' = σ 84 (25 * j + i')) ∧ ∀ m s, m ≠ 91 → τ m s = wr σ 82 13 (nI (N j)) m s)
      (fun R => ∃ τ, R = some ((), τ) ∧ (∀ i, i < 25 → τ 91 i = σ 84 (25 * j + i)) ∧ ∀ m s, m ≠ 91 → τ m s = wr σ 82 13 (nI (N j)) m s) ?_ ?_ FU 0 _ (by omega) (FU_gt (by decide)) ⟨fun j hj => by omega, fun m s hm => rfl⟩
    · intro m i τ hi ⟨p3, p4⟩
      have e := p4 84 (25 * j + i) (by omega)
      rw [wr_fn (by omega)] at e
      refine Or.inr ⟨wr τ 91 i (σ 84 (25 * j + i)), ?_, fun i' hi' => ?_, fun m' s hm => ?_⟩
      · show f_R_copyToWork_L12 (nI j) (m + 1) (nI i) τ = _
        rw [f_R_copyToWork_L12.eq_2]
        simp (disch := omega) only [e, and_self, and_true, true_and, and_false, false_and, cap_some, cal_some, cax_ok, cax_er, jn_eq, lt1_eq, sto_eq, ald_nI, ast_nI, gld_nI, fac_nI, lt_nI, le_nI, eq_nI, nI_1, nI_add, nI_mul, cell5, cell25, ce_m1, if_pos, if_neg, ↓reduceIte, if_true, if_false, lt_l0, le_l0, eq_l0, ll_t0, add_l0, lt_l1, le_l1, eq_l1, ll_t1, add_l1, lt_l2, le_l2, eq_l2, ll_t2, add_l2, lt_l3, le_l3, eq_l3, ll_t3, add_l3, lt_l4, le_l4, eq_l4, ll_t4, add_l4, lt_l5, le_l5, eq_l5, ll_t5, add_l5, lt_l6, le_l6, eq_l6, ll_t6, add_l6, lt_l10, le_l10, eq_l10, ll_t10, add_l10, lt_l12, le_l12, eq_l12, ll_t12, add_l12, lt_l25, le_l25, eq_l25, ll_t25, add_l25, lt_l40, le_l40, eq_l40, ll_t40, add_l40, lt_l41, le_l41, eq_l41, ll_t41, add_l41, lt_l42, le_l42, eq_l42, ll_t42, add_l42, lt_l61, le_l61, eq_l61, ll_t61, add_l61, lt_l120, le_l120, eq_l120, ll_t120, add_l120, lt_l121, le_l121, eq_l121, ll_t121, add_l121, lt_l122, le_l122, eq_l122, ll_t122, add_l122, lt_l576, le_l576, eq_l576, ll_t576, add_l576, lt_l600, le_l600, eq_l600, ll_t600, add_l600, lt_l1000, le_l1000, eq_l1000, ll_t1000, add_l1000]
      · rw [wr_get]
        by_cases hji : i' = i
        · rw [if_pos ⟨rfl, hji⟩, hji]
        · rw [if_neg (by omega)]; exact p3 i' (by omega)
      · rw [wr_fn (by omega)]; exact p4 m' s hm
    · intro m τ ⟨p3, p4⟩
      refine ⟨τ, ?_, p3, p4⟩
      show f_R_copyToWork_L12 (nI j) (m + 1) (nI 25) τ = _
      rw [f_R_copyToWork_L12.eq_2]
      simp (disch := omega) only [and_self, and_true, true_and, and_false, false_and, cap_some, cal_some, cax_ok, cax_er, jn_eq, lt1_eq, sto_eq, ald_nI, ast_nI, gld_nI, fac_nI, lt_nI, le_nI, eq_nI, nI_1, nI_add, nI_mul, cell5, cell25, ce_m1, if_pos, if_neg, ↓reduceIte, if_true, if_false, lt_l0, le_l0, eq_l0, ll_t0, add_l0, lt_l1, le_l1, eq_l1, ll_t1, add_l1, lt_l2, le_l2, eq_l2, ll_t2, add_l2, lt_l3, le_l3, eq_l3, ll_t3, add_l3, lt_l4, le_l4, eq_l4, ll_t4, add_l4, lt_l5, le_l5, eq_l5, ll_t5, add_l5, lt_l6, le_l6, eq_l6, ll_t6, add_l6, lt_l10, le_l10, eq_l10, ll_t10, add_l10, lt_l12, le_l12, eq_l12, ll_t12, add_l12, lt_l25, le_l25, eq_l25, ll_t25, add_l25, lt_l40, le_l40, eq_l40, ll_t40, add_l40, lt_l41, le_l41, eq_l41, ll_t41, add_l41, lt_l42, le_l42, eq_l42, ll_t42, add_l42, lt_l61, le_l61, eq_l61, ll_t61, add_l61, lt_l120, le_l120, eq_l120, ll_t120, add_l120, lt_l121, le_l121, eq_l121, ll_t121, add_l121, lt_l122, le_l122, eq_l122, ll_t122, add_l122, lt_l576, le_l576, eq_l576, ll_t576, add_l576, lt_l600, le_l600, eq_l600, ll_t600, add_l600, lt_l1000, le_l1000, eq_l1000, ll_t1000, add_l1000]
  obtain ⟨τ, e, a1, a2⟩ := A
  refine ⟨τ, e, ⟨⟨hn.1, hn.2, (h.wf hj).bd⟩, ?_, fun r c hr hc => ?_⟩, fun m s h1 h2 => ?_⟩
  · rw [a2 82 13 (by omega), wr_at]
  · rw [a1 _ (ix25 hn.2 hr hc), ← Nat.add_assoc, h.ce hj hr hc]
  · rw [a2 m s h2, wr_get, if_neg h1]
theorem FrK.mk' {σ τ : St} (h : ∀ m s, m ≠ 91 → m ≠ 92 → m ≠ 93 → ¬ (m = 82 ∧ ¬ (s = 1 ∨ s = 4 ∨ s = 9 ∨ s = 10)) → τ m s = σ m s) : FrK σ τ := ⟨fun m hm => funext (fun s => h m s (by omega) (by omega) (by omega) (by omega)), fun s hs => h 82 s (by omega) (by omega) (by omega) (by omega)⟩
/-! sums over a grid -/
theorem sumN_add (a b : Nat) (w : Nat → Nat) : sumN (a + b) w = sumN a w + sumN b (fun i => w (a + i)) := by
  induction b with
  | zero => rfl
  | succ b ih => rw [← Nat.add_assoc, sumN, ih, sumN, Nat.add_assoc]
theorem sumN_mul (a b : Nat) (w : Nat → Nat) : sumN (b * a) w = sumN a (fun r => sumN b (fun c => w (b * r + c))) := by
  induction a with
  | zero => rfl
  | succ a ih => rw [Nat.mul_succ, sumN_add, ih, sumN]
theorem sumN_sq (n : Nat) (w : Nat → Nat → Nat) : sumN (n * n) (fun i => w (i / n) (i % n)) = sumN n (fun r => sumN n (fun c => w r c)) := by
  by_cases h : n = 0
  · subst h; rfl
  rw [sumN_mul]
  apply sumN_congr
  intro r hr
  apply sumN_congr
  intro c hc
  rw [Nat.mul_add_div (by omega), Nat.mul_add_mod, Nat.div_eq_of_lt hc, Nat.mod_eq_of_lt hc, Nat.add_zero]
noncomputable def dead (n : Nat) (B : Nat → Nat → Nat) (r c : Nat) : Nat := (dB (B r c = 0 ∧ opt n B r c = fun _ => false)).toNat
theorem opt_0 {n : Nat} (hn : n ≤ 5) {B : Nat → Nat → Nat} {r c : Nat} : (sI (opt n B r c) = 0) = (opt n B r c = fun _ => false) := by
  rw [← sI_none]
  exact sI_eq hn opt_in_n (fun s hs => by cases hs)
theorem dead14 {σ : St} {k n : Nat} {B : Nat → Nat → Nat} (h : GOK σ k n B) {r : Nat} (hr : r < n) (a : Nat) (ha : a ≤ 100) (K : Int32 → Option Int32) : f_Grid_deadCells_L14 k (nI r) σ K FU (nI a) 0 = K (nI (a + sumN n (dead n B r))) := by
  have hn := h.le; have ho := h.ord
  refine loop_sum (fun m i a => f_Grid_deadCells_L14 k (nI r) σ K m (nI a) (nI i)) n 1 (dead n B r) (fun a => K (nI a)) (by omega) (fun i _ => tn_le _) a ?_ ?_
  · intro m i x hi hx
    show f_Grid_deadCells_L14 k (nI r) σ K (m + 1) (nI x) (nI i) = _
    rw [f_Grid_deadCells_L14.eq_2]
    have hb := h.1.bd r i
    rw [ho, if_pos (nI_lt hi (by omega)), sign_in h hr hi, opt_in h hr hi]
    simp only [cap_some, jn_eq, nI_1]
    simp (disch := omega) only [ce_m1]
    unfold dead
    by_cases e1 : B r i = 0
    · rw [if_pos e1]
      by_cases e2 : opt n B r i = fun _ => false
      · rw [if_pos (by rw [opt_0 hn.2]; exact e2), dB_t ⟨e1, e2⟩]; rfl
      · rw [if_neg (by rw [opt_0 hn.2]; exact e2), dB_f (fun h => e2 h.2)]; rfl
    · rw [if_neg e1, dB_f (fun h => e1 h.1)]; rfl
  · intro m x hx
    show f_Grid_deadCells_L14 k (nI r) σ K (m + 1) (nI x) (nI n) = _
    rw [f_Grid_deadCells_L14.eq_2]
    rw [ho, if_neg (nI_nlt (Nat.le_refl _) (by omega))]
theorem dead_ok {σ : St} {k n : Nat} {B : Nat → Nat → Nat} (h : GOK σ k n B) : f_Grid_deadCells σ k = some (nI (sumN n (fun r => sumN n (fun c => dead n B r c)))) := by
  have hn := h.le; have ho := h.ord
  have hb : ∀ i, i < n → sumN n (dead n B i) ≤ 5 := fun i _ => Nat.le_trans (sumN_le (b := 1) (fun i _ => tn_le _)) (by omega)
  unfold f_Grid_deadCells
  refine (loop_sum (fun m i a => f_Grid_deadCells_L4 k σ (fun v => some v) m (nI a) (nI i)) n 5 (fun r => sumN n (dead n B r)) (fun a => some (nI a)) (by omega) hb 0 ?_ ?_).trans ?_
  · intro m i x hi hx
    show f_Grid_deadCells_L4 k σ _ (m + 1) (nI x) (nI i) = _
    rw [f_Grid_deadCells_L4.eq_2]
    rw [ho, if_pos (nI_lt hi (by omega)), dead14 h hi x (by omega), nI_1]
  · intro m x hx
    show f_Grid_deadCells_L4 k σ _ (m + 1) (nI x) (nI n) = _
    rw [f_Grid_deadCells_L4.eq_2]
    rw [ho, if_neg (nI_nlt (Nat.le_refl _) (by omega))]
  · rw [Nat.zero_add]
theorem rdead_ok {σ : St} {n : Nat} {B : Nat → Nat → Nat} (h : WK σ n B) (hw : Wf n B) (K : Int32 → Option (Int32 × St)) : f_R_of_L74 σ K FU 0 0 = K (nI (sumN n (fun r => sumN n (fun c => dead n B r c)))) := by
  have hn := h.n2; have ho := h.side
  have h25 : n * n ≤ 25 := Nat.mul_le_mul hn.2 hn.2
  refine (loop_sum (fun m i a => f_R_of_L74 σ K m (nI a) (nI i)) (n * n) 1 (fun i => dead n B (i / n) (i % n)) (fun a => K (nI a)) (by omega) (fun i _ => tn_le _) 0 ?_ ?_).trans ?_
  · intro m i x hi hx
    show f_R_of_L74 σ K (m + 1) (nI x) (nI i) = _
    rw [f_R_of_L74.eq_2]
    have hr : i / n < n := Nat.div_lt_of_lt_mul hi
    have hc : i % n < n := Nat.mod_lt _ (by omega)
    have hb := h.bd (i / n) (i % n)
    have e1 := h.cel hr hc
    have e2 := setAt_ok h hw hr hc
    rw [Nat.div_add_mod] at e1 e2
    rw [ho, nI_mul, if_pos (nI_lt hi (by omega)), ald_nI (by omega) (by decide), e1, e2]
    simp only [cap_some, jn_eq, nI_1, Int32.add_zero]
    simp (disch := omega) only [ce_m1]
    unfold dead
    by_cases e1 : B (i / n) (i % n) = 0
    · rw [if_pos e1]
      by_cases e2 : opt n B (i / n) (i % n) = fun _ => false
      · rw [if_pos (by rw [opt_0 hn.2]; exact e2), dB_t ⟨e1, e2⟩]; rfl
      · rw [if_neg (by rw [opt_0 hn.2]; exact e2), dB_f (fun h => e2 h.2)]; rfl
    · rw [if_neg e1, dB_f (fun h => e1 h.1)]; rfl
  · intro m x hx
    show f_R_of_L74 σ K (m + 1) (nI x) (nI (n * n)) = _
    rw [f_R_of_L74.eq_2]
    rw [ho, nI_mul, if_neg (nI_nlt (Nat.le_refl _) (by omega))]
  · rw [Nat.zero_add, sumN_sq n (dead n B)]
theorem ok_of : Ok_of Inv := by
  intro σ hI p0 p1
  refine op_rd hI (Q := fun σ => f_Q_of σ p0 p1) (R := fun σ => f_R_of σ p0 p1) (fun M N B cw mt ct => ?_)
  have hM12 := cw.le
  rcases g_cases M cw.le p0 with ⟨j, hj, rfl⟩ | hx
  · have hG := cw.g hj
    have hn := hG.le
    cases hy : btw p1 0 (nI 2)
    · refine rd_err 2 2 (σ' := σ) ?_ (FrC.refl σ) (by decide) (fun σ1 mw _ => ⟨0, wr σ1 82 0 2, ?_, FrK.t, rfl⟩)
      · show f_Q_of σ (nI j) p1 = _
        unfold f_Q_of
        rw [gridAt_in cw hj, cax_ok, isFrom_ok, show (2 : Int32) = nI 2 from rfl, hy]
        rfl
      · show f_R_of σ1 (nI j) p1 = _
        unfold f_R_of
        rw [rgrid_in mw hj, rbtw, show (2 : Int32) = nI 2 from rfl, hy]
        rfl
    · obtain ⟨a, _, ha, rfl⟩ := (btw_iff (a := 0) (by omega) (by omega)).mp hy
      have q0 : f_Q_of σ (nI j) (nI a) = if nI a = 0 then some (.ok (nI (N j)), σ) else if nI a = 1 then some (.ok (nI (cnt (B j))), σ) else cap (f_Grid_deadCells σ (gid j)) fun r => some (.ok r, σ) := by
        unfold f_Q_of
        rw [gridAt_in cw hj, cax_ok, isFrom_ok, show (2 : Int32) = nI 2 from rfl, hy, cap_some, nar true, if_pos rfl, cax_ok, hG.ord, hG.fil]
      have r0 : ∀ σ1 : St, MW σ1 M N B → f_R_of σ1 (nI j) (nI a) = if nI a < 2 then if nI a = 0 then some (nI (N j), wr σ1 82 0 0) else some (nI (cnt (B j)), wr σ1 82 0 0) else cal (f_R_copyToWork (wr σ1 82 0 0) (nI j)) fun _ σ_8 => f_R_of_L74 σ_8 (fun (v3_15 : Int32) => some (v3_15, σ_8)) FU 0 0 := by
        intro σ1 mw
        have hM := mw.le
        unfold f_R_of
        rw [rgrid_in mw hj, rbtw, show (2 : Int32) = nI 2 from rfl, hy, cap_some, jn_eq, if_neg (by decide), cap_some, if_neg (by decide)]
        simp only [sto_eq]
        rw [wr_at, if_pos (by decide), ald_nI (by omega) (by decide), filled_ok (mw.k FrK.t) hj, wr_fn (by omega), mw.od hj, cap_some]
      rcases (by omega : a = 0 ∨ a = 1 ∨ a = 2) with rfl | rfl | rfl
      · skip
        refine rd_k (nI (N j)) (σ' := σ) ?_ (FrC.refl σ) (fun σ1 mw => ⟨wr σ1 82 0 0, ?_, FrK.t, rfl⟩)
        · show f_Q_of σ (nI j) (nI 0) = _
          rw [q0, if_pos (by rfl)]
        · show f_R_of σ1 (nI j) (nI 0) = _
          rw [r0 σ1 mw, if_pos (by decide), if_pos (by rfl)]
      · skip
        refine rd_k (nI (cnt (B j))) (σ' := σ) ?_ (FrC.refl σ) (fun σ1 mw => ⟨wr σ1 82 0 0, ?_, FrK.t, rfl⟩)
        · show f_Q_of σ (nI j) (nI 1) = _
          rw [q0, if_neg (by decide), if_pos (by rfl)]
        · show f_R_of σ1 (nI j) (nI 1) = _
          rw [r0 σ1 mw, if_pos (by decide), if_neg (by decide)]
      · skip
        refine rd_k (nI (sumN (N j) (fun r => sumN (N j) (fun c => dead (N j) (B j) r c)))) (σ' := σ) ?_ (FrC.refl σ) (fun σ1 mw => ?_)
        · show f_Q_of σ (nI j) (nI 2) = _
          rw [q0, if_neg (by decide), if_neg (by decide), dead_ok hG, cap_some]
        · obtain ⟨τ, e, wk, f⟩ := copyW_ok (mw.k (FrK.t (v := 0))) hj
          refine ⟨τ, ?_, FrK.mk' (fun m s a1 a2 a3 a4 => ?_), by rw [f 82 0 (by omega) (by omega), wr_at]⟩
          · show f_R_of σ1 (nI j) (nI 2) = _
            rw [r0 σ1 mw, if_neg (by decide), e, cal_some, rdead_ok wk (mw.wf hj)]
          · rw [f m s (by omega) a1, wr_get, if_neg (by omega)]
  · refine rd_err 1 1 (σ' := σ) ?_ (FrC.refl σ) (by decide) (fun σ1 mw _ => ⟨0, wr σ1 82 0 1, ?_, FrK.t, rfl⟩)
    · show f_Q_of σ _ _ = _
      unfold f_Q_of
      rw [gridAt_out cw hx, cax_er]
    · show f_R_of σ1 _ _ = _
      unfold f_R_of
      rw [rgrid_out mw hx]
      rfl
theorem ok_can : Ok_can Inv := by
  intro σ hI p0 p1 p2
  refine op_rd hI (Q := fun σ => f_Q_can σ p0 p1 p2) (R := fun σ => f_R_can σ p0 p1 p2) (fun M N B cw mt ct => ?_)
  rcases g_cases M cw.le p0 with ⟨j, hj, rfl⟩ | hx
  · have hG := cw.g hj
    rcases cell_cases (N j) hG.le.2 p1 p2 with ⟨r, c, hr, hc, rfl, rfl⟩ | hx
    · refine rd_k (sI (opt (N j) (B j) r c)) (σ' := σ) ?_ (FrC.refl σ) (fun σ1 mw => ?_)
      · show f_Q_can σ _ _ _ = _
        unfold f_Q_can
        rw [gridAt_in cw hj, cax_ok, needCell_in hG hr hc, cax_ok, opt_in hG hr hc]
        rfl
      · obtain ⟨τ, e, wk, f⟩ := copyW_ok (mw.k (FrK.t (v := 0))) hj
        refine ⟨τ, ?_, FrK.mk' (fun m s a1 a2 a3 a4 => ?_), by rw [f 82 0 (by omega) (by omega), wr_at]⟩
        · show f_R_can σ1 _ _ _ = _
          unfold f_R_can
          rw [rcell_in mw hj hr hc]
          simp only [cap_some, jn_eq, sto_eq]
          rw [if_neg (by decide), wr_at, if_pos (by decide), e, cal_some, wk.side, nI_mul, nI_add, setAt_ok wk (mw.wf hj) hr hc]
          rfl
        · rw [f m s (by omega) a1, wr_get, if_neg (by omega)]
    · refine rd_err 1 1 (σ' := σ) ?_ (FrC.refl σ) (by decide) (fun σ1 mw _ => ⟨0, wr σ1 82 0 1, ?_, FrK.t, rfl⟩)
      · show f_Q_can σ _ _ _ = _
        unfold f_Q_can
        rw [gridAt_in cw hj, cax_ok, needCell_out hG hx, cax_er]
      · show f_R_can σ1 _ _ _ = _
        unfold f_R_can
        rw [rcell_out mw hj hx]
        rfl
  · refine rd_err 1 1 (σ' := σ) ?_ (FrC.refl σ) (by decide) (fun σ1 mw _ => ⟨0, wr σ1 82 0 1, ?_, FrK.t, rfl⟩)
    · show f_Q_can σ _ _ _ = _
      unfold f_Q_can
      rw [gridAt_out cw hx, cax_er]
    · show f_R_can σ1 _ _ _ = _
      unfold f_R_can
      rw [rcell_g mw hx]
      rfl
