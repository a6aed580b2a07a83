/-! turned from whole: 88.turn2 -/
section TV
variable {n r1 r2 : Nat} {B : Bd} {S : Nat → Bool}
theorem EX_cnt (hw : Wf n B) (hr1 : r1 < n) (hr2 : r2 < n) (f1 : FRo n B r1) (f2 : FRo n B r2) : cnt (EX S r1 r2 B) = cnt B := by
  unfold cnt
  apply List.countP_congr
  intro i _
  rw [decide_eq_true_iff, decide_eq_true_iff]
  exact EX_nz hw hr1 hr2 f1 f2 _ _
theorem EX_row (hw : Wf n B) (hX : Wf n (EX S r1 r2 B)) (hr1 : r1 < n) (hr2 : r2 < n) (f1 : FRo n B r1) (f2 : FRo n B r2) (r s : Nat) : rowHas (EX S r1 r2 B) r s = rowHas B r s := by
  by_cases h : r = r1 ∨ r = r2
  · have hf : FRo n B r := by rcases h with h | h <;> rw [h] <;> assumption
    rw [full_has hX (fun c hc => (EX_nz hw hr1 hr2 f1 f2 r c).mpr (hf c hc)), full_has hw hf]
  · have e : ∀ c, EX S r1 r2 B r c = B r c := by
      intro c
      cases hS : S c
      · exact EX_f hS
      · rw [EX_t hS, swp_o (fun h2 => h (Or.inl h2)) (fun h2 => h (Or.inr h2))]
    rw [Bool.eq_iff_iff, rowHas_iff, rowHas_iff]
    simp only [e]
theorem EX_col (hr1 : r1 < 5) (hr2 : r2 < 5) (c s : Nat) : colHas (EX S r1 r2 B) c s = colHas B c s := by
  rw [Bool.eq_iff_iff, colHas_iff, colHas_iff]
  cases hS : S c
  · simp only [EX_f hS]
  · simp only [EX_t hS]
    constructor
    · rintro ⟨r, hr, e⟩; exact ⟨_, swp_lt hr1 hr2 hr, e⟩
    · rintro ⟨r, hr, e⟩; exact ⟨_, swp_lt hr1 hr2 hr, by rw [swp_swp]; exact e⟩
end TV
/-- the column in which the first row has what the second one has in a column -/
noncomputable def piF (n : Nat) (B : Bd) (r1 r2 c : Nat) : Nat := if h : ∃ c', c' < n ∧ B r1 c' = B r2 c then Classical.choose h else 0
section PI2
variable {n r1 r2 : Nat} {B : Bd}
theorem piF_ok (hw : Wf n B) (f1 : FRo n B r1) (f2 : FRo n B r2) {c : Nat} (hc : c < n) : piF n B r1 r2 c < n ∧ B r1 (piF n B r1 r2 c) = B r2 c := by
  have h1 := f2 c hc
  have h2 := hw.bn r2 c
  have h := row_sur2 hw f1 (v := B r2 c) (by omega) h2
  unfold piF
  rw [dif_pos h]
  exact Classical.choose_spec h
theorem piF_u (hw : Wf n B) (f1 : FRo n B r1) (f2 : FRo n B r2) {c c' : Nat} (hc : c < n) (e : B r1 c' = B r2 c) : c' = piF n B r1 r2 c := by
  obtain ⟨h1, h2⟩ := piF_ok hw f1 f2 hc
  exact hw.2.2.2.1 r1 c' _ (by rw [e]; exact f2 c hc) (by rw [e, h2])
theorem piF_inj (hw : Wf n B) (f1 : FRo n B r1) (f2 : FRo n B r2) : ∀ c c', c < n → c' < n → piF n B r1 r2 c = piF n B r1 r2 c' → c = c' := by
  intro c c' hc hc' e
  have h1 := (piF_ok hw f1 f2 hc).2
  have h2 := (piF_ok hw f1 f2 hc').2
  rw [e, h2] at h1
  exact hw.2.2.2.1 r2 c c' (f2 c hc) h1.symm
end PI2
/-- the round that begins at c0 -/
def RND (n : Nat) (B : Bd) (r1 r2 c0 p : Nat) (q : Nat → Nat) : Prop := 1 ≤ p ∧ p ≤ n ∧ q 0 = c0 ∧ (∀ i, q (i + 1) = piF n B r1 r2 (q i)) ∧ q p = c0 ∧ (∀ i, q i < n) ∧ ∀ i j, i < p → j < p → q i = q j → i = j
section RND0
variable {n : Nat} {B : Bd} {r1 r2 c0 p : Nat} {q : Nat → Nat}
theorem RND.p1 (h : RND n B r1 r2 c0 p q) : 1 ≤ p := h.1
theorem RND.pn (h : RND n B r1 r2 c0 p q) : p ≤ n := h.2.1
theorem RND.q0 (h : RND n B r1 r2 c0 p q) : q 0 = c0 := h.2.2.1
theorem RND.qs (h : RND n B r1 r2 c0 p q) (i : Nat) : q (i + 1) = piF n B r1 r2 (q i) := h.2.2.2.1 i
theorem RND.qp (h : RND n B r1 r2 c0 p q) : q p = c0 := h.2.2.2.2.1
theorem RND.ql (h : RND n B r1 r2 c0 p q) (i : Nat) : q i < n := h.2.2.2.2.2.1 i
theorem RND.qi (h : RND n B r1 r2 c0 p q) : ∀ i j, i < p → j < p → q i = q j → i = j := h.2.2.2.2.2.2
end RND0
theorem rnd {n r1 r2 c0 : Nat} {B : Bd} (hw : Wf n B) (f1 : FRo n B r1) (f2 : FRo n B r2) (hc : c0 < n) : ∃ p q, RND n B r1 r2 c0 p q := by
  have hf : ∀ c, c < n → piF n B r1 r2 c < n := fun c hc => (piF_ok hw f1 f2 hc).1
  obtain ⟨p, h1, h2, h3, h4⟩ := cyc hf (piF_inj hw f1 f2) hc
  exact ⟨p, itr (piF n B r1 r2) c0, h1, h2, rfl, fun _ => rfl, h3, itr_lt hf hc, h4⟩
noncomputable def rS (q : Nat → Nat) (i c : Nat) : Bool := dB (∃ j, j < i ∧ q j = c)
theorem rS_next {q : Nat → Nat} {i c : Nat} : rS q (i + 1) c = (rS q i c || decide (c = q i)) := by
  unfold rS
  rw [dB_cong (ex_next (p := fun j => q j = c)), dB_or]
  congr 1
  apply Eq.symm
  apply b_dB
  rw [decide_eq_true_iff]
  exact ⟨fun h => h.symm, fun h => h.symm⟩
section RN2
variable {n r1 r2 c0 p : Nat} {B : Bd} {q : Nat → Nat}
theorem RND.new (h : RND n B r1 r2 c0 p q) {i : Nat} (hi : i < p) : rS q i (q i) = false := by
  unfold rS
  apply dB_f
  rintro ⟨j, hj, e⟩
  have := h.qi j i (by omega) hi e
  omega
theorem RND.closed (h : RND n B r1 r2 c0 p q) (hw : Wf n B) (f1 : FRo n B r1) (f2 : FRo n B r2) : ∀ c c', c < n → c' < n → B r1 c' = B r2 c → rS q p c' = rS q p c := by
  intro c c' hc hc' e
  have e2 := piF_u hw f1 f2 hc e
  unfold rS
  apply dB_cong
  constructor
  · rintro ⟨j, hj, e3⟩
    cases j with
    | zero =>
      obtain ⟨p', rfl⟩ : ∃ p', p = p' + 1 := ⟨p - 1, by have := h.p1; omega⟩
      refine ⟨p', by omega, piF_inj hw f1 f2 _ _ (h.ql p') hc ?_⟩
      rw [← h.qs, h.qp, ← e2, ← e3, h.q0]
    | succ j =>
      refine ⟨j, by omega, piF_inj hw f1 f2 _ _ (h.ql j) hc ?_⟩
      rw [← h.qs, ← e2, e3]
  · rintro ⟨j, hj, e3⟩
    by_cases hl : j + 1 < p
    · exact ⟨j + 1, hl, by rw [h.qs, e3, e2]⟩
    · refine ⟨0, by have := h.p1; omega, ?_⟩
      rw [h.q0, ← h.qp, show p = j + 1 by omega, h.qs, e3, e2]
end RN2
/-- the class's grid with cells alone in order -/
def RW (τ : St) (k n : Nat) (D : Bd) : Prop := (2 ≤ n ∧ n ≤ 5 ∧ ∀ r c, D r c ≤ 5) ∧ τ k 3 = nI n ∧ ∀ r c, r < 5 → c < 5 → τ (k + 1) (5 * r + c) = ce (D r c)
section RWS
variable {τ : St} {k n : Nat} {D : Bd}
theorem GOK.rw (h : GOK τ k n D) : RW τ k n D := ⟨⟨h.le.1, h.le.2, h.1.bd⟩, h.ord, fun r c hr hc => h.cel hr hc⟩
theorem rw_has (h : RW τ k n D) {r c : Nat} (hr : r < n) (hc : c < n) : f_Grid_has τ k (nI r) (nI c) = some 1 := by
  have hn := h.1
  have ho := h.2.1
  unfold f_Grid_has f_Grid_isLine
  simp (disch := omega) only [ho, and_self, and_true, true_and, and_false, false_and, cap_some, cal_some, cax_ok, cax_er, jn_eq, lt1_eq, sto_eq, ald_nI, ast_nI, gld_nI, lt_nI, le_nI, eq_nI, nI_1, nI_add, nI_mul, cell5, cell25, ce_m1, if_pos, if_neg, ↓reduceIte, if_true, if_false, lt_l0, le_l0, eq_l0, ll_t0, add_l0, lt_l1, le_l1, eq_l1, ll_t1, add_l1, lt_l2, le_l2, eq_l2, ll_t2, add_l2, lt_l3, le_l3, eq_l3, ll_t3, add_l3, lt_l4, le_l4, eq_l4, ll_t4, add_l4, lt_l5, le_l5, eq_l5, ll_t5, add_l5, lt_l6, le_l6, eq_l6, ll_t6, add_l6, lt_l10, le_l10, eq_l10, ll_t10, add_l10, lt_l12, le_l12, eq_l12, ll_t12, add_l12, lt_l25, le_l25, eq_l25, ll_t25, add_l25, lt_l40, le_l40, eq_l40, ll_t40, add_l40, lt_l41, le_l41, eq_l41, ll_t41, add_l41, lt_l42, le_l42, eq_l42, ll_t42, add_l42, lt_l61, le_l61, eq_l61, ll_t61, add_l61, lt_l120, le_l120, eq_l120, ll_t120, add_l120, lt_l121, le_l121, eq_l121, ll_t121, add_l121, lt_l122, le_l122, eq_l122, ll_t122, add_l122, lt_l576, le_l576, eq_l576, ll_t576, add_l576, lt_l600, le_l600, eq_l600, ll_t600, add_l600, lt_l1000, le_l1000, eq_l1000, ll_t1000, add_l1000]
  rw [if_neg (by decide)]
theorem rw_sign (h : RW τ k n D) {r c : Nat} (hr : r < n) (hc : c < n) : f_Grid_signAt τ k (nI r) (nI c) = some (ce (D r c)) := by
  have hn := h.1
  unfold f_Grid_signAt
  rw [rw_has h hr hc, cap_some, if_neg (by decide), show (5 : Int32) = nI 5 from rfl, nI_mul, nI_add, ald_nI (by omega) (by decide), h.2.2 r c (by omega) (by omega)]
theorem rw_col (h : RW τ k n D) {r s : Nat} (hr : r < n) (hs : s < 5) : (∃ c, c < n ∧ D r c = s + 1 ∧ f_Grid_columnOf τ k (nI r) (nI s) = some (nI c)) ∨ ((∀ c, c < n → D r c ≠ s + 1) ∧ f_Grid_columnOf τ k (nI r) (nI s) = some (-1)) := by
  have hn := h.1
  have ho := h.2.1
  unfold f_Grid_columnOf
  rcases fst_loop (fun m i => f_Grid_columnOf_L2 k (nI r) (nI s) τ (fun v => some v) m (nI i)) n (fun c => D r c = s + 1) (fun c => some (nI c)) (some (-1)) (by omega) (by
    intro m i hi hp
    show f_Grid_columnOf_L2 k (nI r) (nI s) τ _ (m + 1) (nI i) = _
    have hb := h.1.2.2 r i
    rw [f_Grid_columnOf_L2.eq_2]
    rw [ho, if_pos (nI_lt hi (by omega)), rw_sign h hr hi, cap_some, if_neg (by rw [ce_eqn (by omega) (by omega)]; exact hp), nI_1]) (by
    intro m i hi hp
    show f_Grid_columnOf_L2 k (nI r) (nI s) τ _ (m + 1) (nI i) = _
    have hb := h.1.2.2 r i
    rw [f_Grid_columnOf_L2.eq_2]
    rw [ho, if_pos (nI_lt hi (by omega)), rw_sign h hr hi, cap_some, if_pos (by rw [ce_eqn (by omega) (by omega)]; exact hp)]) (by
    intro m
    show f_Grid_columnOf_L2 k (nI r) (nI s) τ _ (m + 1) (nI n) = _
    rw [f_Grid_columnOf_L2.eq_2]
    rw [ho, if_neg (nI_nlt (Nat.le_refl _) (by omega))]) with ⟨e, hno⟩ | ⟨c, hc, hp, _, e⟩
  · exact Or.inr ⟨hno, e⟩
  · exact Or.inl ⟨c, hc, hp, e⟩
theorem rw_exch (h : RW τ k n D) {r1 r2 c : Nat} (h1 : r1 < n) (h2 : r2 < n) (hc : c < n) (hne : r1 ≠ r2) : ∃ τ', f_Grid_exchange τ k (nI r1) (nI r2) (nI c) = some ((), τ') ∧ RW τ' k n (upB (upB D r1 c (D r2 c)) r2 c (D r1 c)) ∧ Frx (k + 1) τ τ' := by
  have hn := h.1
  refine ⟨wr (wr τ (k + 1) (5 * r1 + c) (ce (D r2 c))) (k + 1) (5 * r2 + c) (ce (D r1 c)), ?_, ⟨⟨hn.1, hn.2.1, fun r' c' => ?_⟩, ?_, fun r' c' hr' hc' => ?_⟩, fun m hm => by rw [wr_fn hm, wr_fn hm]⟩
  · unfold f_Grid_exchange
    rw [rw_has h h1 hc, cap_some, if_neg (by decide), rw_has h h2 hc, cap_some, if_neg (by decide), show (5 : Int32) = nI 5 from rfl, nI_mul, nI_add, nI_mul, nI_add, ald_nI (by omega) (by decide), ald_nI (by omega) (by decide), ast_nI (by omega) (by decide), ast_nI (by omega) (by decide), h.2.2 r1 c (by omega) (by omega), h.2.2 r2 c (by omega) (by omega)]
  · unfold upB
    split
    · exact hn.2.2 _ _
    · split
      · exact hn.2.2 _ _
      · exact hn.2.2 _ _
  · rw [wr_fn (by omega), wr_fn (by omega)]; exact h.2.1
  · rw [wr_get]
    by_cases e2 : r' = r2 ∧ c' = c
    · rw [if_pos ⟨rfl, by rw [e2.1, e2.2]⟩, e2.1, e2.2, upB_at]
    · rw [if_neg (by omega), upB_ne e2, wr_get]
      by_cases e1 : r' = r1 ∧ c' = c
      · rw [if_pos ⟨rfl, by rw [e1.1, e1.2]⟩, e1.1, e1.2, upB_at]
      · rw [if_neg (by omega), upB_ne e1]
        exact h.2.2 r' c' hr' hc'
end RWS
theorem EX_step {q : Nat → Nat} {i r1 r2 : Nat} {B : Bd} (hne : r1 ≠ r2) (hnew : rS q i (q i) = false) : upB (upB (EX (rS q i) r1 r2 B) r1 (q i) (EX (rS q i) r1 r2 B r2 (q i))) r2 (q i) (EX (rS q i) r1 r2 B r1 (q i)) = EX (rS q (i + 1)) r1 r2 B := by
  funext r c
  by_cases hc : c = q i
  · subst hc
    have ht : rS q (i + 1) (q i) = true := by rw [rS_next, decide_eq_true rfl, Bool.or_true]
    rw [EX_t ht]
    by_cases e2 : r = r2
    · rw [e2, upB_at, EX_f hnew, swp_2]
    · rw [upB_ne (fun h => e2 h.1)]
      by_cases e1 : r = r1
      · rw [e1, upB_at, EX_f hnew, swp_1]
      · rw [upB_ne (fun h => e1 h.1), EX_f hnew, swp_o e1 e2]
  · rw [upB_ne (fun h => hc h.2), upB_ne (fun h => hc h.2)]
    have : rS q (i + 1) c = rS q i c := by rw [rS_next, decide_eq_false hc, Bool.or_false]
    unfold EX
    rw [this]
theorem turn_cls {σ : St} {k n r1 r2 c0 p : Nat} {B : Bd} {q : Nat → Nat} (hG : GOK σ k n B) (h1 : r1 < n) (h2 : r2 < n) (hne : r1 ≠ r2) (f1 : FRo n B r1) (f2 : FRo n B r2) (hR : RND n B r1 r2 c0 p q) : ∃ τ, f_Grid_turnRows σ k (nI r1) (nI r2) (nI c0) = some (nI p, τ) ∧ GOK τ k n (EX (rS q p) r1 r2 B) ∧ ∀ m, m < k ∨ k + 3 < m → τ m = σ m := by
  have hn := hG.le
  have hw := hG.1
  have hX := EX_wf hw h1 h2 f1 f2 (hR.closed hw f1 f2)
  unfold f_Grid_turnRows
  have A : ∃ τ, f_Grid_turnRows_L6 k (nI r1) (nI r2) (fun (v4_8 : Int32) (σ_9 : St) => some (v4_8, σ_9)) FU 0 (nI c0) σ = some (nI p, τ) ∧ RW τ k n (EX (rS q p) r1 r2 B) ∧ Frx (k + 1) σ τ := by
    have hp1 := hR.p1
    have hpn := hR.pn
    refine loopE (fun m i (x : Int32 × St) => f_Grid_turnRows_L6 k (nI r1) (nI r2) (fun (v4_8 : Int32) (σ_9 : St) => some (v4_8, σ_9)) m (nI i) x.1 x.2) p
      (fun i x => x.1 = (if i < p then nI (q i) else -1) ∧ RW x.2 k n (EX (rS q i) r1 r2 B) ∧ Frx (k + 1) σ x.2)
      (fun R => ∃ τ, R = some (nI p, τ) ∧ RW τ k n (EX (rS q p) r1 r2 B) ∧ Frx (k + 1) σ τ) ?_ ?_ FU 0 (nI c0, σ) (by omega) (FU_gt (by omega)) ⟨by rw [if_pos (by omega), hR.q0], ?_, fun m _ => rfl⟩
    · rintro m i ⟨x, τ⟩ hi ⟨e1, hRW, f⟩
      have e1 : x = if i < p then nI (q i) else -1 := e1
      rw [if_pos hi] at e1
      subst e1
      have hRW : RW τ k n (EX (rS q i) r1 r2 B) := hRW
      have f : Frx (k + 1) σ τ := f
      have hql := hR.ql i
      have hnew := hR.new hi
      have hv : EX (rS q i) r1 r2 B r2 (q i) = B r2 (q i) := EX_f hnew
      have hv0 := f2 (q i) hql
      have hvn := hw.bn r2 (q i)
      obtain ⟨s, hs⟩ : ∃ s, B r2 (q i) = s + 1 := ⟨B r2 (q i) - 1, by omega⟩
      obtain ⟨τ', ee, hRW2, f'⟩ := rw_exch hRW h1 h2 hql hne
      rw [EX_step hne hnew] at hRW2
      have hcol : f_Grid_columnOf τ k (nI r1) (nI s) = some (if i + 1 < p then nI (q (i + 1)) else -1) := by
        have hval : ∀ c, c < n → (EX (rS q i) r1 r2 B r1 c = s + 1 ↔ c = q (i + 1) ∧ rS q i c = false) := by
          intro c hc
          cases hS : rS q i c
          · rw [EX_f hS, ← hs, hR.qs]
            constructor
            · intro h; exact ⟨piF_u hw f1 f2 hql h, rfl⟩
            · rintro ⟨rfl, _⟩; exact (piF_ok hw f1 f2 hql).2
          · rw [EX_t hS, swp_1, ← hs]
            constructor
            · intro h
              have := hw.2.2.2.1 r2 c (q i) (by rw [h]; exact hv0) h
              rw [this, hnew] at hS; cases hS
            · rintro ⟨_, h⟩; cases h
        rcases rw_col hRW h1 (show s < 5 by omega) with ⟨c, hc, hd, e⟩ | ⟨hno, e⟩
        · rw [e]
          obtain ⟨hcq, hcS⟩ := (hval c hc).mp hd
          by_cases hl : i + 1 < p
          · rw [if_pos hl, hcq]
          · exfalso
            have hp : p = i + 1 := by omega
            have hc0 : c = c0 := by rw [hcq, ← hp, hR.qp]
            by_cases hi0 : i = 0
            · subst hi0
              have hq0 := hR.q0
              have h3 := (piF_ok hw f1 f2 (show q 0 < n from hql)).2
              rw [← hR.qs, ← hcq, hc0, ← hq0] at h3
              exact hne (hw.2.2.2.2 r1 r2 (q 0) (by rw [h3]; exact hv0) h3)
            · have : rS q i c = true := dB_t ⟨0, by omega, by rw [hR.q0, hc0]⟩
              rw [this] at hcS; cases hcS
        · rw [e]
          by_cases hl : i + 1 < p
          · exfalso
            refine hno (q (i + 1)) (hR.ql _) ((hval _ (hR.ql _)).mpr ⟨rfl, ?_⟩)
            unfold rS
            apply dB_f
            rintro ⟨j, hj, ej⟩
            have := hR.qi j (i + 1) (by omega) hl ej
            omega
          · rw [if_neg hl]
      refine Or.inr ⟨(if i + 1 < p then nI (q (i + 1)) else -1, τ'), ?_, rfl, hRW2, fun m' hm' => (f' m' hm').trans (f m' hm')⟩
      show f_Grid_turnRows_L6 k (nI r1) (nI r2) _ (m + 1) (nI i) (nI (q i)) τ = _
      rw [f_Grid_turnRows_L6.eq_2]
      rw [hRW.2.1, if_pos (nI_lt (by omega) (by omega)), if_neg (nm1 (by omega)), rw_sign hRW h2 hql, cap_some, hv, hs, ce_s, hcol, cap_some, ee, cal_some, nI_1]
    · rintro m ⟨x, τ⟩ ⟨e1, hRW, f⟩
      have e1 : x = if p < p then nI (q p) else -1 := e1
      rw [if_neg (by omega)] at e1
      subst e1
      have hRW : RW τ k n (EX (rS q p) r1 r2 B) := hRW
      have f : Frx (k + 1) σ τ := f
      refine ⟨τ, ?_, hRW, f⟩
      show f_Grid_turnRows_L6 k (nI r1) (nI r2) _ (m + 1) (nI p) (-1) τ = _
      rw [f_Grid_turnRows_L6.eq_2]
      rw [if_pos (show (-1 : Int32) = -1 from rfl), ite_self]
    · have e : EX (rS q 0) r1 r2 B = B := by
        funext r c
        refine EX_f ?_
        unfold rS
        exact dB_f (fun ⟨j, hj, _⟩ => by omega)
      rw [e]
      exact hG.rw
  obtain ⟨τ, e, hRW, f⟩ := A
  refine ⟨τ, e, ⟨hX, hRW.2.1, ?_, hRW.2.2, fun r hr => ?_, fun c hc => ?_⟩, fun m hm => f m (by omega)⟩
  · rw [f k (by omega), EX_cnt hw h1 h2 f1 f2]; exact hG.fil
  · rw [f (k + 2) (by omega), hG.row hr]
    exact sI_cong (fun s _ => (EX_row hw hX h1 h2 f1 f2 r s).symm)
  · rw [f (k + 3) (by omega), hG.col hc]
    exact sI_cong (fun s _ => (EX_col (by omega) (by omega) c s).symm)
/-! turned from whole: 92.maps -/
def nmN (n : Nat) (d : Nat → Nat) : Nat := sumN n (fun i => sumN n (fun j => if i < j ∧ d j < d i then facN (d i) else 0))
def dist5 (f : Nat → Nat) : Bool := (List.range 5).all fun i => (List.range 5).all fun j => decide (f i = f j → i = j)
theorem tab1 : ((List.range 120).all fun m => (List.range 5).all (fun i => decide (cp m i < 5)) && dist5 (cp m) && decide (nmN 5 (cp m) = m) && decide (m < 24 → cp m 4 = 4 ∧ nmN 4 (cp m) = m) && decide (m < 6 → cp m 3 = 3 ∧ nmN 3 (cp m) = m) && decide (m < 2 → cp m 2 = 2 ∧ nmN 2 (cp m) = m)) = true := by decide +kernel
theorem dist5_iff {f : Nat → Nat} : dist5 f = true ↔ ∀ i j, i < 5 → j < 5 → f i = f j → i = j := by
  unfold dist5
  rw [List.all_eq_true]
  constructor
  · intro h i j hi hj
    have := List.all_eq_true.mp (h i (List.mem_range.mpr hi)) j (List.mem_range.mpr hj)
    exact of_decide_eq_true this
  · intro h i hi
    rw [List.all_eq_true]
    intro j hj
    exact decide_eq_true (h i j (List.mem_range.mp hi) (List.mem_range.mp hj))
/-- what the table says of a map of the class -/
theorem cp_all {m : Nat} (hm : m < 120) : (∀ i, i < 5 → cp m i < 5) ∧ (∀ i j, i < 5 → j < 5 → cp m i = cp m j → i = j) ∧ nmN 5 (cp m) = m ∧ (m < 24 → cp m 4 = 4 ∧ nmN 4 (cp m) = m) ∧ (m < 6 → cp m 3 = 3 ∧ nmN 3 (cp m) = m) ∧ (m < 2 → cp m 2 = 2 ∧ nmN 2 (cp m) = m) := by
  have h := List.all_eq_true.mp tab1 m (List.mem_range.mpr hm)
  simp only [Bool.and_eq_true] at h
  obtain ⟨⟨⟨⟨⟨h1, h2⟩, h3⟩, h4⟩, h5⟩, h6⟩ := h
  refine ⟨fun i hi => ?_, dist5_iff.mp h2, of_decide_eq_true h3, of_decide_eq_true h4, of_decide_eq_true h5, of_decide_eq_true h6⟩
  exact of_decide_eq_true (List.all_eq_true.mp h1 i (List.mem_range.mpr hi))
/-! turned from whole: 93.lay -/
def LA (σ : St) (n : Nat) : Prop := σ 82 9 = nI n ∧ σ 82 10 = nI (facN n) ∧ ∀ m i, m < facN n → i < n → σ 89 (5 * m + i) = nI (lp n m i)
theorem LA.fr {σ τ : St} {n : Nat} (h : LA σ n) (h1 : τ 82 9 = σ 82 9) (h2 : τ 82 10 = σ 82 10) (h3 : τ 89 = σ 89) : LA τ n := ⟨by rw [h1]; exact h.1, by rw [h2]; exact h.2.1, fun m i a b => by rw [h3]; exact h.2.2 m i a b⟩
/-! turned from whole: 94.trans -/
/-- a list of numbers that lies in an object -/
def Lst (o : Nat) (τ : St) (l : List Nat) : Prop := ∀ i x, l[i]? = some x → τ o i = nI x
theorem Lst.fr {o : Nat} {τ τ' : St} {l : List Nat} (h : Lst o τ l) (e : ∀ i, τ' o i = τ o i) : Lst o τ' l := fun i x hx => by rw [e]; exact h i x hx
/-! turned from whole: 99.group -/
def Rch (mks : List Nat) (mul : Nat → Nat → Nat) (x : Nat) : Prop := ∀ S : Nat → Prop, S 0 → (∀ y mk, S y → mk ∈ mks → S (mul mk y)) → S x
theorem Rch.zero {mks : List Nat} {mul : Nat → Nat → Nat} : Rch mks mul 0 := fun _ h _ => h
def GI (N : Nat) (mks : List Nat) (mul : Nat → Nat → Nat) (i : Nat) (L : List Nat) : Prop := L.Nodup ∧ (∀ x, x ∈ L → x < N ∧ Rch mks mul x) ∧ 0 ∈ L ∧ ∀ k y, k < i → L[k]? = some y → ∀ mk, mk ∈ mks → mul mk y ∈ L
/-- what a growing loop does with its list -/
theorem GI.full {N : Nat} {mks : List Nat} {mul : Nat → Nat → Nat} {L : List Nat} (h : GI N mks mul L.length L) : ∀ x, x ∈ L ↔ Rch mks mul x := by
  intro x
  constructor
  · intro hx; exact (h.2.1 x hx).2
  · intro hr
    refine hr (fun y => y ∈ L) h.2.2.1 (fun y mk hy hmk => ?_)
    obtain ⟨k, hk, e⟩ := List.getElem_of_mem hy
    exact h.2.2.2 k y hk (by rw [List.getElem?_eq_getElem hk, e]) mk hmk
def CM (τ : St) (L : List Nat) : Prop := τ 18 6 = nI L.length ∧ Lst 20 τ L ∧ ∀ x, x < 120 → τ 21 x = bI (decide (x ∈ L))
def FrQ (σ τ : St) : Prop := ∀ m s, ¬ (m = 18 ∧ s = 6) → m ≠ 9 → m ≠ 20 → m ≠ 21 → τ m s = σ m s
theorem FrQ.trans {a b c : St} (h : FrQ a b) (h2 : FrQ b c) : FrQ a c := fun m s x y z w => (h2 m s x y z w).trans (h m s x y z w)
/-! turned from whole: 99b.group2 -/
section GS
variable {σ : St} {k n : Nat} {B : Bd}
theorem CM.fr {τ τ' : St} {L : List Nat} (h : CM τ L) (e1 : τ' 18 6 = τ 18 6) (e2 : ∀ i, τ' 20 i = τ 20 i) (e3 : ∀ i, τ' 21 i = τ 21 i) : CM τ' L := ⟨by rw [e1]; exact h.1, h.2.1.fr e2, fun x hx => by rw [e3]; exact h.2.2 x hx⟩
end GS
/-! turned from whole: 99c.group3 -/
def RM (τ : St) (L : List Nat) : Prop := τ 82 18 = nI L.length ∧ Lst 94 τ L ∧ ∀ x, x < 120 → τ 95 x = bI (decide (x ∈ L))
theorem RM.fr {τ τ' : St} {L : List Nat} (h : RM τ L) (e1 : τ' 82 18 = τ 82 18) (e2 : ∀ i, τ' 94 i = τ 94 i) (e3 : ∀ i, τ' 95 i = τ 95 i) : RM τ' L := ⟨by rw [e1]; exact h.1, h.2.1.fr e2, fun x hx => by rw [e3]; exact h.2.2 x hx⟩
