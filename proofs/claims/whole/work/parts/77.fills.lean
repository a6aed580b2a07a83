/-! fills and fill -/
theorem squares_ok {σ : St} {k n most : Nat} {B : Bd} (hG : GOK σ k n B) (h1 : 1 ≤ most) (h2 : most ≤ 1000) : ∃ σ', f_Filling_squares σ k (nI most) = some (nI (min most (nC n B)), σ') ∧ GOK σ' k n B ∧ ∀ m, m < k ∨ k + 3 < m → σ' m = σ m := by
  have hn := hG.le
  have h25 : n * n ≤ 25 := Nat.mul_le_mul hn.2 hn.2
  obtain ⟨σ', e, g, f⟩ := sqFrom_ok DP B σ most 0 (show n * n - cnt B < 40 by omega) hG h1 h2 (by omega)
  refine ⟨σ', ?_, g, f⟩
  unfold f_Filling_squares
  rw [show (0 : Int32) = nI 0 from rfl, e]
  rfl
theorem fillsOf_ok {σ : St} {M : Nat} {N : Nat → Nat} {B : Nat → Bd} (mw : MW σ M N B) {j most : Nat} (hj : j < M) (h1 : 1 ≤ most) (h2 : most ≤ 1000) : ∃ τ, f_R_fillsOf σ (nI j) (nI most) = some (nI (min most (nC (N j) (B j))), τ) ∧ FrK σ τ ∧ τ 82 0 = 0 := by
  have hM := mw.le
  obtain ⟨τ, e, wk, f⟩ := copyW_ok (mw.k (FrK.t (v := 0))) hj
  obtain ⟨υ, e2, f2, _⟩ := search_ok wk (mw.wf hj) h1 h2
  refine ⟨υ, ?_, FrK.mk' (fun m s a1 a2 a3 a4 => ?_), by rw [f2 82 0 (by omega) (by omega) (by omega) (by omega), f 82 0 (by omega) (by omega), wr_at]⟩
  · unfold f_R_fillsOf
    rw [rgrid_in mw hj]
    simp only [cap_some, jn_eq, sto_eq]
    rw [if_neg (by decide), rbtw, show (1000 : Int32) = nI 1000 from rfl, show (1 : Int32) = nI 1 from rfl, btw_nI (by omega) (by omega) (by omega), decide_eq_true ⟨h1, h2⟩]
    simp only [cap_some]
    rw [if_neg (by decide), wr_at, if_pos (by decide), e, cal_some, e2, cal_some]
  · rw [f2 m s a1 a2 a3 (by omega), f m s (by omega) a1, wr_get, if_neg (by omega)]
theorem fillsOf_arg {σ : St} {M : Nat} {N : Nat → Nat} {B : Nat → Bd} (mw : MW σ M N B) {j : Nat} (hj : j < M) {y : Int32} (hy : btw y 1 (nI 1000) = false) : f_R_fillsOf σ (nI j) y = some (0, wr σ 82 0 2) := by
  unfold f_R_fillsOf
  rw [rgrid_in mw hj, rbtw, show (1000 : Int32) = nI 1000 from rfl, hy]
  rfl
theorem fillsOf_out {σ : St} {M : Nat} {N : Nat → Nat} {B : Nat → Bd} (mw : MW σ M N B) {x y : Int32} (hx : x < 0 ∨ nI M ≤ x) : f_R_fillsOf σ x y = some (0, wr σ 82 0 1) := by
  unfold f_R_fillsOf
  rw [rgrid_out mw hx]
  rfl
theorem ok_fills : Ok_fills Inv := by
  intro σ hI p0 p1
  refine op_rd hI (Q := fun σ => f_Q_fills σ p0 p1) (R := fun σ => f_R_fills σ p0 p1) (fun M N B cw mt ct => ?_)
  have hM12 := cw.le
  rcases g_cases M cw.le p0 with ⟨j, hj, rfl⟩ | hx
  · have hG := cw.g hj
    cases hy : btw p1 1 (nI 1000)
    · refine rd_err 2 2 (σ' := σ) ?_ (FrC.refl σ) (by decide) (fun σ1 mw _ => ⟨0, wr σ1 82 0 2, ?_, FrK.t, rfl⟩)
      · show f_Q_fills σ (nI j) p1 = _
        unfold f_Q_fills
        rw [gridAt_in cw hj, cax_ok, isFrom_ok, show (1000 : Int32) = nI 1000 from rfl, hy]
        rfl
      · show f_R_fills σ1 (nI j) p1 = _
        unfold f_R_fills
        rw [fillsOf_arg mw hj hy]
        rfl
    · obtain ⟨a, ha1, ha, rfl⟩ := (btw_iff (a := 1) (by omega) (by omega)).mp hy
      obtain ⟨σ2, e2, g2, f2⟩ := copy_ok (k := 2) hG (by unfold gid; omega)
      obtain ⟨σ3, e3, g3, f3⟩ := squares_ok g2 ha1 ha
      refine rd_k (nI (min a (nC (N j) (B j)))) (σ' := σ3) ?_ (fun m hm => ?_) (fun σ1 mw => ?_)
      · show f_Q_fills σ (nI j) (nI a) = _
        unfold f_Q_fills
        rw [gridAt_in cw hj, cax_ok, isFrom_ok, show (1000 : Int32) = nI 1000 from rfl, hy, cap_some, nar true, if_pos rfl, cax_ok, e2, cal_some, e3, cal_some]
      · have h6 : m < 2 ∨ 5 < m := by unfold scr at hm; omega
        rw [f3 m (by omega), f2 m (by omega)]
      · obtain ⟨τ, e, k, h0⟩ := fillsOf_ok mw hj ha1 ha
        refine ⟨τ, ?_, k, h0⟩
        show f_R_fills σ1 (nI j) (nI a) = _
        unfold f_R_fills
        rw [e]
        rfl
  · refine rd_err 1 1 (σ' := σ) ?_ (FrC.refl σ) (by decide) (fun σ1 mw _ => ⟨0, wr σ1 82 0 1, ?_, FrK.t, rfl⟩)
    · show f_Q_fills σ _ _ = _
      unfold f_Q_fills
      rw [gridAt_out cw hx, cax_er]
    · show f_R_fills σ1 _ _ = _
      unfold f_R_fills
      rw [fillsOf_out mw hx]
      rfl
/-! the lowest one -/
theorem enS_skip {n : Nat} {B : Bd} {r c : Nat} {f : Bd → List Bd} : ∀ i, i ≤ n → (∀ s, s < i → opt n B r c s = true → f (upB B r c (s + 1)) = []) → enS n B r c f n = enS n B r c f (n - i) := by
  intro i
  induction i with
  | zero => intro _ _; rfl
  | succ i ih =>
    intro hi h
    rw [ih (by omega) (fun s hs => h s (by omega)), show n - i = (n - (i + 1)) + 1 by omega, enS, show n - 1 - (n - (i + 1)) = i by omega]
    by_cases ho : opt n B r c i = true
    · rw [if_pos ho, h i (by omega) ho]; rfl
    · rw [if_neg ho]; rfl
theorem emp_split {n i : Nat} {B : Bd} (hi : i < n * n) (h : ∀ j, j < i → B (j / n) (j % n) ≠ 0) (h0 : B (i / n) (i % n) = 0) : ∃ l, empties n B = (i / n, i % n) :: l ∧ ∀ v, v ≠ 0 → empties n (upB B (i / n) (i % n) v) = l := by
  obtain ⟨b, hb⟩ : ∃ b, n * n = i + (b + 1) := ⟨n * n - i - 1, by omega⟩
  have hcell : ∀ C : Bd, empties n C = (((List.range i).map (fun i => (i / n, i % n))).filter (fun p => decide (C p.1 p.2 = 0))) ++ ((if C (i / n) (i % n) = 0 then [(i / n, i % n)] else []) ++ (((List.range b).map (fun k => ((i + (k + 1)) / n, (i + (k + 1)) % n))).filter (fun p => decide (C p.1 p.2 = 0)))) := by
    intro C
    unfold empties cells
    rw [hb, List.range_add, List.map_append, List.filter_append, List.range_succ_eq_map]
    congr 1
    simp only [List.map_cons, List.map_map, List.filter_cons, Nat.add_zero]
    by_cases e : C (i / n) (i % n) = 0
    · rw [if_pos e, decide_eq_true e, if_pos rfl]; rfl
    · rw [if_neg e, decide_eq_false e, if_neg (by decide)]; rfl
  have hnil : ∀ C : Bd, (∀ j, j < i → C (j / n) (j % n) ≠ 0) → ((List.range i).map (fun i => (i / n, i % n))).filter (fun p => decide (C p.1 p.2 = 0)) = [] := by
    intro C hC
    apply List.filter_eq_nil_iff.mpr
    intro p hp
    obtain ⟨j, hj, rfl⟩ := List.mem_map.mp hp
    have := hC j (List.mem_range.mp hj)
    simpa using this
  have hne : ∀ j, j ≠ i → ¬ (j / n = i / n ∧ j % n = i % n) := by
    rintro j hj ⟨e1, e2⟩
    apply hj
    rw [← Nat.div_add_mod j n, ← Nat.div_add_mod i n, e1, e2]
  refine ⟨((List.range b).map (fun k => ((i + (k + 1)) / n, (i + (k + 1)) % n))).filter (fun p => decide (B p.1 p.2 = 0)), ?_, fun v hv => ?_⟩
  · rw [hcell B, hnil B h, if_pos h0]; rfl
  · rw [hcell, hnil _ (fun j hj => by rw [upB_ne (hne j (by omega))]; exact h j hj), upB_at, if_neg hv]
    rw [List.nil_append, List.nil_append]
    apply List.filter_congr
    intro p hp
    obtain ⟨k, hk, rfl⟩ := List.mem_map.mp hp
    rw [upB_ne (hne _ (by omega))]
def Low (n : Nat) (X C : Bd) (i : Nat) : Prop := (∃ t, comps n C = X :: t) ∧ ∀ j, j < i → C (j / n) (j % n) ≠ 0
theorem setLowest_ok {σ : St} {k n : Nat} {C X : Bd} (hG : GOK σ k n C) {r c : Nat} (hr : r < n) (hc : c < n) (hL : Low n X C (n * r + c)) : ∃ σ' C', f_Filling_setLowest σ k (nI r) (nI c) = some ((), σ') ∧ GOK σ' k n C' ∧ Low n X C' (n * r + c + 1) ∧ ∀ m, m < k ∨ k + 3 < m → σ' m = σ m := by
  have hn := hG.le
  have h25 : n * n ≤ 25 := Nat.mul_le_mul hn.2 hn.2
  have d1 : (n * r + c) / n = r := by rw [Nat.mul_add_div (by omega), Nat.div_eq_of_lt hc, Nat.add_zero]
  have d2 : (n * r + c) % n = c := by rw [Nat.mul_add_mod, Nat.mod_eq_of_lt hc]
  obtain ⟨⟨t, ht⟩, hlow⟩ := hL
  have hinn : n * r + c < n * n := by
    have h1 : n * (r + 1) ≤ n * n := Nat.mul_le_mul_left _ hr
    rw [Nat.mul_succ] at h1; omega
  unfold f_Filling_setLowest
  rw [opt_in hG hr hc, cap_some]
  by_cases h0 : C r c = 0
  · obtain ⟨l, l1, l2⟩ := emp_split hinn hlow (by rw [d1, d2]; exact h0)
    rw [d1, d2] at l1 l2
    have hE : comps n C = enS n C r c (enu n l) n := by unfold comps; rw [l1]; rfl
    have hS : ∀ s, comps n (upB C r c (s + 1)) = enu n l (upB C r c (s + 1)) := fun s => by unfold comps; rw [l2 _ (by omega)]
    refine loopE (fun m i (τ : St) => f_Filling_setLowest_L10 k (nI r) (nI c) (sI (opt n C r c)) m (nI i) τ) n
      (fun i τ => GOK τ k n C ∧ (∀ m, m < k ∨ k + 3 < m → τ m = σ m) ∧ ∀ s, s < i → opt n C r c s = true → enu n l (upB C r c (s + 1)) = [])
      (fun R => ∃ σ' C', R = some ((), σ') ∧ GOK σ' k n C' ∧ Low n X C' (n * r + c + 1) ∧ ∀ m, m < k ∨ k + 3 < m → σ' m = σ m) ?_ ?_ FU 0 σ (by omega) (FU_gt (by omega)) ⟨hG, fun m _ => rfl, fun s hs => by omega⟩
    · rintro m i τ hi ⟨p1, p2, p3⟩
      cases ho : opt n C r c i
      · refine Or.inr ⟨τ, ?_, p1, p2, fun s hs hos => ?_⟩
        · show f_Filling_setLowest_L10 k (nI r) (nI c) (sI (opt n C r c)) (m + 1) (nI i) τ = _
          rw [f_Filling_setLowest_L10.eq_2]
          rw [p1.ord, if_pos (nI_lt hi (by omega)), isIn_opt p1 hi, cap_some, jn_eq, ho, if_pos (by rfl), nI_1]
        · by_cases e : s = i
          · subst e; rw [ho] at hos; cases hos
          · exact p3 s (by omega) hos
      · have hw := hG.1.opt hr hc ho
        have hse := set_eq p1 hr hc (v := i + 1) (by omega)
        have hG2 := set_GOK p1 hr hc (v := i + 1) (by omega) hw
        rw [ce_s] at hse
        obtain ⟨υ, e1, g1, f1⟩ := sqFrom_ok DP _ _ 1 0 (show n * n - cnt (upB C r c (i + 1)) < 40 by omega) hG2 (by omega) (by omega) (by omega)
        have hstep : f_Filling_setLowest_L10 k (nI r) (nI c) (sI (opt n C r c)) (m + 1) (nI i) τ = if nI (min 1 (nC n (upB C r c (i + 1)))) = 1 then some ((), υ) else cal (f_Grid_set υ k (nI r) (nI c) (-1)) fun r_14 σ_15 => f_Filling_setLowest_L10 k (nI r) (nI c) (sI (opt n C r c)) m (nI (i + 1)) σ_15 := by
          rw [f_Filling_setLowest_L10.eq_2]
          rw [p1.ord, if_pos (nI_lt hi (by omega)), isIn_opt p1 hi, cap_some, jn_eq, ho, if_neg (by decide), hse, cal_some]
          rw [show (1 : Int32) = nI 1 from rfl, show (0 : Int32) = nI 0 from rfl, e1, cal_some]
          rw [nI_add]
        cases hE2 : enu n l (upB C r c (i + 1)) with
        | nil =>
          have hn0 : nC n (upB C r c (i + 1)) = 0 := by unfold nC; rw [hS, hE2]; rfl
          have hse2 := set_eq g1 hr hc (v := 0) (by omega)
          have hG3 := set_GOK g1 hr hc (v := 0) (by omega) (hw.put0 r c)
          rw [upB_zero h0] at hG3
          rw [ce_0] at hse2
          refine Or.inr ⟨setSt υ k r c (upB C r c (i + 1) r c) 0, ?_, hG3, fun m' hm' => ?_, fun s hs hos => ?_⟩
          · show f_Filling_setLowest_L10 k (nI r) (nI c) (sI (opt n C r c)) (m + 1) (nI i) τ = _
            rw [hstep, hn0, if_neg (by decide), hse2, cal_some]
          · rw [setSt_fr hm', f1 m' hm', setSt_fr hm', p2 m' hm']
          · by_cases e : s = i
            · subst e; exact hE2
            · exact p3 s (by omega) hos
        | cons Y u =>
          have hn1 : min 1 (nC n (upB C r c (i + 1))) = 1 := by unfold nC; rw [hS, hE2, List.length_cons]; omega
          refine Or.inl ⟨υ, upB C r c (i + 1), ?_, g1, ⟨?_, fun j hj => ?_⟩, fun m' hm' => ?_⟩
          · show f_Filling_setLowest_L10 k (nI r) (nI c) (sI (opt n C r c)) (m + 1) (nI i) τ = _
            rw [hstep, hn1, if_pos (by rfl)]
          · refine ⟨u, ?_⟩
            rw [hS, hE2]
            have h1 := enS_skip (f := enu n l) i (by omega) p3
            rw [show n - i = (n - 1 - i) + 1 by omega, enS, show n - 1 - (n - 1 - i) = i by omega, if_pos ho, hE2, ← hE, ht] at h1
            have := congrArg List.head? h1
            simp at this
            rw [this]
          · by_cases e : j = n * r + c
            · subst e; rw [d1, d2, upB_at]; omega
            · have h1 := hlow j (by omega)
              by_cases e2 : j / n = r ∧ j % n = c
              · rw [e2.1, e2.2, upB_at]; omega
              · rw [upB_ne e2]; exact h1
          · rw [f1 m' hm', setSt_fr hm', p2 m' hm']
    · rintro m τ ⟨p1, p2, p3⟩
      have h1 := enS_skip (f := enu n l) n (Nat.le_refl n) p3
      rw [Nat.sub_self, ← hE, ht] at h1
      cases h1
  · refine ⟨σ, C, ?_, hG, ⟨⟨t, ht⟩, fun j hj => ?_⟩, fun m _ => rfl⟩
    · refine loopE (fun m i (_ : Unit) => f_Filling_setLowest_L10 k (nI r) (nI c) (sI (opt n C r c)) m (nI i) σ) n (fun _ _ => True) (fun R => R = some ((), σ)) ?_ ?_ FU 0 () (by omega) (FU_gt (by omega)) trivial
      · intro m i _ hi _
        refine Or.inr ⟨(), ?_, trivial⟩
        show f_Filling_setLowest_L10 k (nI r) (nI c) (sI (opt n C r c)) (m + 1) (nI i) σ = _
        have ho : opt n C r c i = false := by
          apply Bool.eq_false_iff.mpr
          intro h
          exact h0 (opt_iff.mp h).1
        rw [f_Filling_setLowest_L10.eq_2]
        rw [hG.ord, if_pos (nI_lt hi (by omega)), isIn_opt hG hi, cap_some, jn_eq, ho, if_pos (by rfl), nI_1]
      · intro m _ _
        show f_Filling_setLowest_L10 k (nI r) (nI c) (sI (opt n C r c)) (m + 1) (nI n) σ = _
        rw [f_Filling_setLowest_L10.eq_2]
        rw [hG.ord, if_neg (nI_nlt (Nat.le_refl _) (by omega))]
    · by_cases e : j = n * r + c
      · subst e; rw [d1, d2]; exact h0
      · exact hlow j (by omega)
theorem makeLowest_ok {σ : St} {k n : Nat} {B X : Bd} {t : List Bd} (hG : GOK σ k n B) (ht : comps n B = X :: t) : ∃ σ', f_Filling_makeLowest σ k = some ((), σ') ∧ GOK σ' k n X ∧ ∀ m, m < k ∨ k + 3 < m → σ' m = σ m := by
  have hn := hG.le
  have h25 : n * n ≤ 25 := Nat.mul_le_mul hn.2 hn.2
  have row : ∀ (K : St → Option (Unit × St)) (r : Nat), r < n → ∀ (σ0 : St) (C : Bd), GOK σ0 k n C → Low n X C (n * r) → ∃ τ C', f_Filling_makeLowest_L12 k (nI r) K FU 0 σ0 = K τ ∧ GOK τ k n C' ∧ Low n X C' (n * r + n) ∧ ∀ m, m < k ∨ k + 3 < m → τ m = σ0 m := by
    intro K r hr σ0 C g0 l0
    refine loopE (fun m i (τ : St) => f_Filling_makeLowest_L12 k (nI r) K m (nI i) τ) n
      (fun i τ => ∃ C', GOK τ k n C' ∧ Low n X C' (n * r + i) ∧ ∀ m, m < k ∨ k + 3 < m → τ m = σ0 m)
      (fun R => ∃ τ C', R = K τ ∧ GOK τ k n C' ∧ Low n X C' (n * r + n) ∧ ∀ m, m < k ∨ k + 3 < m → τ m = σ0 m) ?_ ?_ FU 0 σ0 (by omega) (FU_gt (by omega)) ⟨C, g0, l0, fun m _ => rfl⟩
    · rintro m i τ hi ⟨C', p1, p2, p3⟩
      obtain ⟨υ, D, e, g, l, f⟩ := setLowest_ok p1 hr hi p2
      refine Or.inr ⟨υ, ?_, D, g, l, fun m' hm' => by rw [f m' hm', p3 m' hm']⟩
      show f_Filling_makeLowest_L12 k (nI r) K (m + 1) (nI i) τ = _
      rw [f_Filling_makeLowest_L12.eq_2]
      rw [p1.ord, if_pos (nI_lt hi (by omega)), e, cal_some, nI_1]
    · rintro m τ ⟨C', p1, p2, p3⟩
      refine ⟨τ, C', ?_, p1, p2, p3⟩
      show f_Filling_makeLowest_L12 k (nI r) K (m + 1) (nI n) τ = _
      rw [f_Filling_makeLowest_L12.eq_2]
      rw [p1.ord, if_neg (nI_nlt (Nat.le_refl _) (by omega))]
  unfold f_Filling_makeLowest
  have A : ∃ τ C', f_Filling_makeLowest_L2 k FU 0 σ = some ((), τ) ∧ GOK τ k n C' ∧ Low n X C' (n * n) ∧ ∀ m, m < k ∨ k + 3 < m → τ m = σ m := by
    refine loopE (fun m i (τ : St) => f_Filling_makeLowest_L2 k m (nI i) τ) n
      (fun i τ => ∃ C', GOK τ k n C' ∧ Low n X C' (n * i) ∧ ∀ m, m < k ∨ k + 3 < m → τ m = σ m)
      (fun R => ∃ τ C', R = some ((), τ) ∧ GOK τ k n C' ∧ Low n X C' (n * n) ∧ ∀ m, m < k ∨ k + 3 < m → τ m = σ m) ?_ ?_ FU 0 σ (by omega) (FU_gt (by omega)) ⟨B, hG, ⟨⟨t, ht⟩, fun j hj => by omega⟩, fun m _ => rfl⟩
    · rintro m i τ hi ⟨C', p1, p2, p3⟩
      obtain ⟨υ, D, e, g, l, f⟩ := row (fun (σ_4 : St) => f_Filling_makeLowest_L2 k m (nI i + 1) σ_4) i hi τ C' p1 p2
      refine Or.inr ⟨υ, ?_, D, g, l, fun m' hm' => by rw [f m' hm', p3 m' hm']⟩
      show f_Filling_makeLowest_L2 k (m + 1) (nI i) τ = _
      rw [f_Filling_makeLowest_L2.eq_2]
      rw [p1.ord, if_pos (nI_lt hi (by omega))]
      refine e.trans ?_
      show f_Filling_makeLowest_L2 k m (nI i + 1) υ = _
      rw [nI_1]
    · rintro m τ ⟨C', p1, p2, p3⟩
      refine ⟨τ, C', ?_, p1, p2, p3⟩
      show f_Filling_makeLowest_L2 k (m + 1) (nI n) τ = _
      rw [f_Filling_makeLowest_L2.eq_2]
      rw [p1.ord, if_neg (nI_nlt (Nat.le_refl _) (by omega))]
  obtain ⟨τ, C', e, g, ⟨⟨u, hu⟩, hfull⟩, f⟩ := A
  refine ⟨τ, e, ?_, f⟩
  have e2 : empties n C' = [] := by
    apply List.eq_nil_iff_forall_not_mem.mpr
    intro p hp
    have h1 := emp_ok p hp
    have h3 : n * p.1 + p.2 < n * n := by
      have h4 : n * (p.1 + 1) ≤ n * n := Nat.mul_le_mul_left _ h1.1
      rw [Nat.mul_succ] at h4; omega
    have h2 := hfull (n * p.1 + p.2) h3
    rw [Nat.mul_add_div (by omega), Nat.div_eq_of_lt h1.2.1, Nat.add_zero, Nat.mul_add_mod, Nat.mod_eq_of_lt h1.2.1] at h2
    exact h2 h1.2.2
  unfold comps at hu
  rw [e2] at hu
  have : C' = X := by
    have := congrArg List.head? hu
    simpa [enu] using this
  rw [← this]
  exact g
