/-! the reference's search; fills -/
def EM (σ : St) (n : Nat) (es : List (Nat × Nat)) : Prop := σ 82 15 = nI es.length ∧ ∀ (i : Nat) (p : Nat × Nat), es[i]? = some p → σ 92 i = nI (n * p.1 + p.2)
theorem EM.fr {σ τ : St} {n : Nat} {es : List (Nat × Nat)} (h : EM σ n es) (h1 : τ 82 15 = σ 82 15) (h2 : ∀ s, τ 92 s = σ 92 s) : EM τ n es := ⟨by rw [h1]; exact h.1, fun i p hp => by rw [h2]; exact h.2 i p hp⟩
theorem layEmpties_ok {σ : St} {n : Nat} {B : Bd} (h : WK σ n B) : ∃ τ, f_R_layEmpties σ = some ((), τ) ∧ EM τ n (empties n B) ∧ ∀ m s, ¬ (m = 82 ∧ s = 15) → m ≠ 92 → τ m s = σ m s := by
  have hn := h.n2
  have h25 : n * n ≤ 25 := Nat.mul_le_mul hn.2 hn.2
  unfold f_R_layEmpties
  rw [sto_eq]
  refine loopE (fun m i (τ : St) => f_R_layEmpties_L7 m (nI i) τ) (n * n)
    (fun i τ => EM τ n (((List.range i).map (fun i => (i / n, i % n))).filter (fun p => decide (B p.1 p.2 = 0))) ∧ ∀ m s, ¬ (m = 82 ∧ s = 15) → m ≠ 92 → τ m s = σ m s)
    (fun R => ∃ τ, R = some ((), τ) ∧ EM τ n (empties n B) ∧ ∀ m s, ¬ (m = 82 ∧ s = 15) → m ≠ 92 → τ m s = σ m s) ?_ ?_ FU 0 _ (by omega) (FU_gt (by omega)) ⟨⟨by rw [wr_at]; rfl, fun i p hp => by cases hp⟩, fun m s h1 _ => by rw [wr_get, if_neg h1]⟩
  · intro m i τ hi ⟨⟨p1, p2⟩, p3⟩
    have hr : i / n < n := Nat.div_lt_of_lt_mul hi
    have hc : i % n < n := Nat.mod_lt _ (by omega)
    have hb := h.bd (i / n) (i % n)
    have e1 := h.cel hr hc
    rw [Nat.div_add_mod] at e1
    have s1 : τ 82 13 = nI n := by rw [p3 82 13 (by omega) (by omega)]; exact h.side
    have s2 : τ 91 i = ce (B (i / n) (i % n)) := by rw [p3 91 i (by omega) (by omega)]; exact e1
    have hL : ∀ L : List (Nat × Nat), L = ((List.range i).map (fun i => (i / n, i % n))).filter (fun p => decide (B p.1 p.2 = 0)) → ((List.range (i + 1)).map (fun i => (i / n, i % n))).filter (fun p => decide (B p.1 p.2 = 0)) = L ++ (if B (i / n) (i % n) = 0 then [(i / n, i % n)] else []) := by
      rintro L rfl
      rw [List.range_succ, List.map_append, List.filter_append]
      congr 1
      by_cases h0 : B (i / n) (i % n) = 0
      · simp [h0]
      · simp [h0]
    have hL := hL _ rfl
    have hlen : (((List.range i).map (fun i => (i / n, i % n))).filter (fun p => decide (B p.1 p.2 = 0))).length ≤ i := by
      refine Nat.le_trans (List.length_filter_le _ _) (by simp)
    generalize ((List.range i).map (fun i => (i / n, i % n))).filter (fun p => decide (B p.1 p.2 = 0)) = L at *
    refine Or.inr ?_
    show ∃ a', f_R_layEmpties_L7 (m + 1) (nI i) τ = _ ∧ _
    have key : f_R_layEmpties_L7 (m + 1) (nI i) τ = if B (i / n) (i % n) = 0 then f_R_layEmpties_L7 m (nI (i + 1)) (wr (wr τ 92 L.length (nI i)) 82 15 (nI (L.length + 1))) else f_R_layEmpties_L7 m (nI (i + 1)) τ := by
      rw [f_R_layEmpties_L7.eq_2]
      rw [s1, nI_mul, if_pos (nI_lt hi (by omega)), ald_nI (by omega) (by decide), s2]
      simp only [jn_eq, nI_1]
      by_cases h0 : B (i / n) (i % n) = 0
      · rw [if_pos (by rw [ce_m1 (by omega)]; exact h0), if_pos h0, p1, ast_nI (by omega) (by decide), sto_eq, wr_fn (by omega), p1, nI_1]
      · rw [if_neg (by rw [ce_m1 (by omega)]; exact h0), if_neg h0]
    rw [key, hL]
    by_cases h0 : B (i / n) (i % n) = 0
    · refine ⟨_, by rw [if_pos h0], ⟨?_, fun k p hp => ?_⟩, fun m' s h1 h2 => ?_⟩
      · rw [if_pos h0, wr_at]; simp
      · rw [wr_fn (by omega), wr_get]
        rw [if_pos h0, List.getElem?_append] at hp
        by_cases hk : k < L.length
        · rw [if_pos hk] at hp
          rw [if_neg (by omega)]; exact p2 k p hp
        · rw [if_neg hk] at hp
          by_cases hk2 : k = L.length
          · subst hk2
            rw [Nat.sub_self] at hp
            have hp : (i / n, i % n) = p := Option.some.inj hp
            rw [if_pos ⟨rfl, rfl⟩, ← hp, Nat.div_add_mod]
          · rw [List.getElem?_eq_none (by simp; omega)] at hp; cases hp
      · rw [wr_get, if_neg h1, wr_fn h2]; exact p3 m' s h1 h2
    · refine ⟨τ, by rw [if_neg h0], ?_, p3⟩
      rw [if_neg h0, List.append_nil]
      exact ⟨p1, p2⟩
  · intro m τ ⟨p1, p3⟩
    have s1 : τ 82 13 = nI n := by rw [p3 82 13 (by omega) (by omega)]; exact h.side
    refine ⟨τ, ?_, p1, p3⟩
    show f_R_layEmpties_L7 (m + 1) (nI (n * n)) τ = _
    rw [f_R_layEmpties_L7.eq_2]
    rw [s1, nI_mul, if_neg (nI_nlt (Nat.le_refl _) (by omega))]
theorem search28 {σ : St} (v1 v3 : Int32) (K : St → Option (Int32 × St)) : ∃ τ, f_R_search_L28 v1 0 v3 K FU 0 σ = K τ ∧ (∀ i, i < 25 → τ 93 i = σ 91 i) ∧ ∀ m s, m ≠ 93 → τ m s = σ m s := by
  refine loopE (fun m i (τ : St) => f_R_search_L28 v1 0 v3 K m (nI i) τ) 25
    (fun i τ => (∀ i', i' < i → τ 93 i' = σ 91 i') ∧ ∀ m s, m ≠ 93 → τ m s = σ m s)
    (fun R => ∃ τ, R = K τ ∧ (∀ i, i < 25 → τ 93 i = σ 91 i) ∧ ∀ m s, m ≠ 93 → τ m s = σ m s) ?_ ?_ FU 0 _ (by omega) (FU_gt (by decide)) ⟨fun j hj => by omega, fun m s hm => rfl⟩
  · intro m i τ hi ⟨p3, p4⟩
    have e := p4 91 i (by omega)
    refine Or.inr ⟨wr τ 93 i (σ 91 i), ?_, fun i' hi' => ?_, fun m' s hm => ?_⟩
    · show f_R_search_L28 v1 0 v3 K (m + 1) (nI i) τ = _
      rw [f_R_search_L28.eq_2]
      simp (disch := omega) only [e, and_self, and_true, true_and, and_false, false_and, cap_some, cal_some, cax_ok, cax_er, jn_eq, lt1_eq, sto_eq, ald_nI, ast_nI, gld_nI, fac_nI, lt_nI, le_nI, eq_nI, nI_1, nI_add, nI_mul, cell5, cell25, ce_m1, if_pos, if_neg, ↓reduceIte, if_true, if_false, lt_l0, le_l0, eq_l0, ll_t0, add_l0, lt_l1, le_l1, eq_l1, ll_t1, add_l1, lt_l2, le_l2, eq_l2, ll_t2, add_l2, lt_l3, le_l3, eq_l3, ll_t3, add_l3, lt_l4, le_l4, eq_l4, ll_t4, add_l4, lt_l5, le_l5, eq_l5, ll_t5, add_l5, lt_l6, le_l6, eq_l6, ll_t6, add_l6, lt_l10, le_l10, eq_l10, ll_t10, add_l10, lt_l12, le_l12, eq_l12, ll_t12, add_l12, lt_l25, le_l25, eq_l25, ll_t25, add_l25, lt_l40, le_l40, eq_l40, ll_t40, add_l40, lt_l41, le_l41, eq_l41, ll_t41, add_l41, lt_l42, le_l42, eq_l42, ll_t42, add_l42, lt_l61, le_l61, eq_l61, ll_t61, add_l61, lt_l120, le_l120, eq_l120, ll_t120, add_l120, lt_l121, le_l121, eq_l121, ll_t121, add_l121, lt_l122, le_l122, eq_l122, ll_t122, add_l122, lt_l576, le_l576, eq_l576, ll_t576, add_l576, lt_l600, le_l600, eq_l600, ll_t600, add_l600, lt_l1000, le_l1000, eq_l1000, ll_t1000, add_l1000]
    · rw [wr_get]
      by_cases hji : i' = i
      · rw [if_pos ⟨rfl, hji⟩, hji]
      · rw [if_neg (by omega)]; exact p3 i' (by omega)
    · rw [wr_fn (by omega)]; exact p4 m' s hm
  · intro m τ ⟨p3, p4⟩
    refine ⟨τ, ?_, p3, p4⟩
    show f_R_search_L28 v1 0 v3 K (m + 1) (nI 25) τ = _
    rw [f_R_search_L28.eq_2]
    simp (disch := omega) only [and_self, and_true, true_and, and_false, false_and, cap_some, cal_some, cax_ok, cax_er, jn_eq, lt1_eq, sto_eq, ald_nI, ast_nI, gld_nI, fac_nI, lt_nI, le_nI, eq_nI, nI_1, nI_add, nI_mul, cell5, cell25, ce_m1, if_pos, if_neg, ↓reduceIte, if_true, if_false, lt_l0, le_l0, eq_l0, ll_t0, add_l0, lt_l1, le_l1, eq_l1, ll_t1, add_l1, lt_l2, le_l2, eq_l2, ll_t2, add_l2, lt_l3, le_l3, eq_l3, ll_t3, add_l3, lt_l4, le_l4, eq_l4, ll_t4, add_l4, lt_l5, le_l5, eq_l5, ll_t5, add_l5, lt_l6, le_l6, eq_l6, ll_t6, add_l6, lt_l10, le_l10, eq_l10, ll_t10, add_l10, lt_l12, le_l12, eq_l12, ll_t12, add_l12, lt_l25, le_l25, eq_l25, ll_t25, add_l25, lt_l40, le_l40, eq_l40, ll_t40, add_l40, lt_l41, le_l41, eq_l41, ll_t41, add_l41, lt_l42, le_l42, eq_l42, ll_t42, add_l42, lt_l61, le_l61, eq_l61, ll_t61, add_l61, lt_l120, le_l120, eq_l120, ll_t120, add_l120, lt_l121, le_l121, eq_l121, ll_t121, add_l121, lt_l122, le_l122, eq_l122, ll_t122, add_l122, lt_l576, le_l576, eq_l576, ll_t576, add_l576, lt_l600, le_l600, eq_l600, ll_t600, add_l600, lt_l1000, le_l1000, eq_l1000, ll_t1000, add_l1000]
def FD (σ σ' : St) (n many : Nat) (E : List Bd) : Prop := (many = 0 → ∀ X t, E = X :: t → ∀ r c, r < n → c < n → σ' 93 (n * r + c) = ce (X r c)) ∧ ((many ≠ 0 ∨ E = []) → ∀ s, σ' 93 s = σ 93 s)
theorem FD.comp {σ σ1 σ2 : St} {n many : Nat} {E1 E2 : List Bd} (h1 : FD σ σ1 n many E1) (h2 : FD σ1 σ2 n (many + E1.length) E2) : FD σ σ2 n many (E1 ++ E2) := by
  cases E1 with
  | nil =>
    have k1 := h1.2 (Or.inr rfl)
    refine ⟨fun h0 X t e r c hr hc => h2.1 (by rw [h0]; rfl) X t e r c hr hc, fun h s => ?_⟩
    rw [h2.2 h s, k1]
  | cons Y u =>
    have k2 := h2.2 (Or.inl (by simp))
    refine ⟨fun h0 X t e r c hr hc => ?_, fun h s => ?_⟩
    · rw [k2]
      have : Y = X := by
        have := congrArg List.head? e
        simpa using this
      subst this
      exact h1.1 h0 _ u rfl r c hr hc
    · rw [k2]
      rcases h with h | h
      · exact h1.2 (Or.inl h) s
      · cases h
theorem FD.more {σ σ1 : St} {n many : Nat} {E1 E2 : List Bd} (h1 : FD σ σ1 n many E1) (h : E1 ≠ []) : FD σ σ1 n many (E1 ++ E2) := by
  cases E1 with
  | nil => exact absurd rfl h
  | cons Y u =>
    refine ⟨fun h0 X t e r c hr hc => ?_, fun h s => ?_⟩
    · have : Y = X := by
        have := congrArg List.head? e
        simpa using this
      subst this
      exact h1.1 h0 _ u rfl r c hr hc
    · rcases h with h | h
      · exact h1.2 (Or.inl h) s
      · cases h
theorem FD.fr {σ σ1 τ τ1 : St} {n many : Nat} {E : List Bd} (h : FD σ σ1 n many E) (e : ∀ s, τ 93 s = σ 93 s) (e1 : ∀ s, τ1 93 s = σ1 93 s) : FD τ τ1 n many E :=
  ⟨fun h0 X t hE r c hr hc => by rw [e1]; exact h.1 h0 X t hE r c hr hc, fun hh s => by rw [e, e1]; exact h.2 hh s⟩
def K95 (v1 v2 v3 r4 : Int32) (σ6 : St) (K : Int32 → St → Option (Int32 × St)) (m : Nat) : Int32 → Option (Int32 × St) :=
  fun v5_9 => jn (fun (s_11 : Int32) => ast σ6 91 25 r4 s_11 fun σ_12 =>
          jn (fun (s_14 : Int32) => f_R_search_L8 v1 K m v2 (v3 + s_14) σ_12) fun j158_13 =>
          if v5_9 < (σ_12 82 13) then
            j158_13 1
          else
            j158_13 (-1)) fun j142_10 =>
          if v5_9 < (σ6 82 13) then
            j142_10 v5_9
          else
            j142_10 (-1)
theorem upB_zero {B : Bd} {r c v : Nat} (h0 : B r c = 0) : upB (upB B r c v) r c 0 = B := by
  rw [upB_upB, show upB B r c 0 = B by rw [← h0]; exact upB_self]
theorem step8 {σ : St} {n : Nat} {B : Bd} {es : List (Nat × Nat)} {most many k r c v : Nat} (K : Int32 → St → Option (Int32 × St)) (he : EM σ n es) (h : WK σ n (upB B r c v)) (hlen : es.length ≤ 25) (hk : es[k]? = some (r, c)) (hr : r < n) (hc : c < n) (hv : v ≤ n) (hm : many < most) (hmost : most ≤ 1000) (m : Nat) :
    f_R_search_L8 (nI most) K (m + 1) (nI many) (nI k) σ = f_R_search_L95 (nI most) (nI many) (nI k) (nI (n * r + c)) (wr σ 91 (n * r + c) (-1)) (K95 (nI most) (nI many) (nI k) (nI (n * r + c)) (wr σ 91 (n * r + c) (-1)) K m) FU (nI v) := by
  have hn := h.n2
  have hkl : k < es.length := by
    apply Classical.byContradiction
    intro hh
    rw [List.getElem?_eq_none (by omega)] at hk
    cases hk
  have hb := ix25 hn.2 hr hc
  have hcel := h.cel hr hc
  rw [upB_at] at hcel
  have e92 := he.2 k _ hk
  rw [f_R_search_L8.eq_2]
  rw [if_neg (nI_pos (by omega)), if_pos (nI_lt hm (by omega)), he.1, if_neg (by rw [eq_nI (by omega) (by omega)]; omega), ald_nI (by omega) (by decide), e92, ald_nI (by omega) (by decide), hcel, ast_nI (by omega) (by decide)]
  rw [show ce v + 1 = nI v by unfold ce; exact Int32.sub_add_cancel _ _]
  rfl
theorem search_cell {n most k r c : Nat} {B : Bd} {es l : List (Nat × Nat)} (K : Int32 → St → Option (Int32 × St)) (hw : Wf n B) (h0 : B r c = 0) (hlen : es.length ≤ 25) (hk : es[k]? = some (r, c)) (hr : r < n) (hc : c < n) (hmost : most ≤ 1000)
    (ih : ∀ s σ many, s < n → opt n B r c s = true → EM σ n es → WK σ n (upB B r c (s + 1)) → many < most → ∃ cst σ' d', cst ≤ 7 ^ (l.length + 1) ∧ (∀ m, f_R_search_L8 (nI most) K (m + cst) (nI many) (nI (k + 1)) σ = f_R_search_L8 (nI most) K m (nI (min most (many + (enu n l (upB B r c (s + 1))).length))) d' σ') ∧ (many + (enu n l (upB B r c (s + 1))).length < most → d' = nI (k + 1) - 1 ∧ WK σ' n (upB B r c (s + 1))) ∧ (∀ m s, m ≠ 91 → m ≠ 93 → σ' m s = σ m s) ∧ FD σ σ' n many (enu n l (upB B r c (s + 1)))) :
    ∀ j, j ≤ n → ∀ σ many f, j < f → EM σ n es → WK σ n B → many < most → ∃ cst σ' d', cst ≤ j * (7 ^ (l.length + 1) + 1) ∧ (∀ m, f_R_search_L95 (nI most) (nI many) (nI k) (nI (n * r + c)) σ (K95 (nI most) (nI many) (nI k) (nI (n * r + c)) σ K (m + cst)) f (nI (n - j)) = f_R_search_L8 (nI most) K m (nI (min most (many + (enS n B r c (enu n l) j).length))) d' σ') ∧ (many + (enS n B r c (enu n l) j).length < most → d' = nI k - 1 ∧ WK σ' n B) ∧ (∀ m s, m ≠ 91 → m ≠ 93 → σ' m s = σ m s) ∧ FD σ σ' n many (enS n B r c (enu n l) j) := by
  intro j
  induction j with
  | zero =>
    intro _ σ many f hf he hW hm
    have hn := hW.n2
    have hb := ix25 hn.2 hr hc
    obtain ⟨f, rfl⟩ : ∃ f', f = f' + 1 := ⟨f - 1, by omega⟩
    have hW' := hW.set hr hc (v := 0) (by omega)
    rw [show upB B r c 0 = B by rw [← h0]; exact upB_self] at hW'
    refine ⟨0, wr σ 91 (n * r + c) (ce 0), nI k - 1, by omega, fun m => ?_, fun _ => ⟨rfl, hW'⟩, fun m s h1 _ => by rw [wr_fn h1], ⟨fun _ X t e => (by cases e), fun _ s => (by rw [wr_fn (by omega)])⟩⟩
    rw [f_R_search_L95.eq_2]
    rw [hW.side, if_neg (nI_nlt (by omega) (by omega))]
    unfold K95
    rw [hW.side, jn_eq, if_neg (nI_nlt (by omega) (by omega))]
    simp only [jn_eq]
    rw [ast_nI (by omega) (by decide), wr_fn (by omega), hW.side, if_neg (nI_nlt (by omega) (by omega)), Nat.min_eq_right (by simp [enS]; omega)]
    simp only [enS, List.length_nil, Nat.add_zero]
    rw [show nI k + -1 = nI k - 1 from (Int32.sub_eq_add_neg ..).symm]
    rfl
  | succ j ihj =>
    intro hj σ many f hf he hW hm
    have hn := hW.n2
    have hb := ix25 hn.2 hr hc
    obtain ⟨f, rfl⟩ : ∃ f', f = f' + 1 := ⟨f - 1, by omega⟩
    have hs : n - (j + 1) < n := by omega
    have es1 : n - 1 - j = n - (j + 1) := by omega
    have hfit := fits_ok hW hr hc hs
    cases ho : opt n B r c (n - (j + 1))
    · have hnf : ¬ (∀ i, i < n → ¬ clash n B r c (n - (j + 1) + 1) i) := by
        intro h
        have := (opt_clash hw h0 (s := n - (j + 1))).mpr ⟨hs, h⟩
        rw [ho] at this; cases this
      obtain ⟨cst, σ', d', c1, c2, c3, c4, c5⟩ := ihj (by omega) σ many f (by omega) he hW hm
      have eE : enS n B r c (enu n l) (j + 1) = enS n B r c (enu n l) j := by
        rw [enS, es1, ho]; rfl
      rw [eE]
      refine ⟨cst, σ', d', Nat.le_trans c1 (Nat.mul_le_mul_right _ (by omega)), fun m => ?_, c3, c4, c5⟩
      rw [f_R_search_L95.eq_2]
      rw [hW.side, if_pos (nI_lt hs (by omega)), hfit, cap_some, dB_f hnf, if_pos (by rfl), nI_1, show n - (j + 1) + 1 = n - j by omega]
      exact c2 m
    · have hfi : ∀ i, i < n → ¬ clash n B r c (n - (j + 1) + 1) i := ((opt_clash hw h0).mp ho).2
      have hW2 := hW.set hr hc (v := n - (j + 1) + 1) (by omega)
      rw [ce_s] at hW2
      have he2 : EM (wr σ 91 (n * r + c) (nI (n - (j + 1)))) n es := he.fr (by rw [wr_fn (by omega)]) (fun s => by rw [wr_fn (by omega)])
      obtain ⟨cst, σ', d', c1, c2, c3, c4, c5⟩ := ih _ _ many hs ho he2 hW2 hm
      have c5 := c5.fr (τ := σ) (τ1 := σ') (fun s => by rw [wr_fn (by omega)]) (fun s => rfl)
      have c4 : ∀ m s, m ≠ 91 → m ≠ 93 → σ' m s = σ m s := fun m s h1 h2 => by rw [c4 m s h1 h2, wr_fn h1]
      have eE : enS n B r c (enu n l) (j + 1) = enu n l (upB B r c (n - (j + 1) + 1)) ++ enS n B r c (enu n l) j := by
        rw [enS, es1, ho]; rfl
      have hstep : ∀ m, f_R_search_L95 (nI most) (nI many) (nI k) (nI (n * r + c)) σ (K95 (nI most) (nI many) (nI k) (nI (n * r + c)) σ K m) (f + 1) (nI (n - (j + 1))) = f_R_search_L8 (nI most) K m (nI many) (nI (k + 1)) (wr σ 91 (n * r + c) (nI (n - (j + 1)))) := by
        intro m
        rw [f_R_search_L95.eq_2]
        rw [hW.side, if_pos (nI_lt hs (by omega)), hfit, cap_some, dB_t hfi, if_neg (by decide)]
        unfold K95
        rw [hW.side, jn_eq, if_pos (nI_lt hs (by omega))]
        simp only [jn_eq]
        rw [ast_nI (by omega) (by decide), wr_fn (by omega), hW.side, if_pos (nI_lt hs (by omega)), nI_1]
      rw [eE, List.length_append]
      generalize enu n l (upB B r c (n - (j + 1) + 1)) = E1 at *
      by_cases hstop : many + E1.length < most
      · obtain ⟨rfl, hW3⟩ := c3 hstop
        have he3 : EM σ' n es := he.fr (c4 82 15 (by omega) (by omega)) (fun s => c4 92 s (by omega) (by omega))
        have hW4 := hW3.set hr hc (v := 0) (by omega)
        rw [upB_zero h0, ce_0] at hW4
        have he4 : EM (wr σ' 91 (n * r + c) (-1)) n es := he3.fr (by rw [wr_fn (by omega)]) (fun s => by rw [wr_fn (by omega)])
        obtain ⟨cst2, σ2, d2, k1, k2, k3, k4, k5⟩ := ihj (by omega) (wr σ' 91 (n * r + c) (-1)) (many + E1.length) FU (FU_gt (by omega)) he4 hW4 hstop
        have k5 := k5.fr (τ := σ') (τ1 := σ2) (fun s => by rw [wr_fn (by omega)]) (fun s => rfl)
        refine ⟨cst2 + 1 + cst, σ2, d2, ?_, fun m => ?_, fun h => k3 (by omega), fun m s h1 h2 => by rw [k4 m s h1 h2, wr_fn h1, c4 m s h1 h2], c5.comp k5⟩
        · rw [Nat.succ_mul]; omega
        · rw [← Nat.add_assoc, hstep, c2, Nat.min_eq_right (Nat.le_of_lt hstop), nI_pred, ← Nat.add_assoc, step8 K he3 hW3 hlen hk hr hc (by omega) hstop hmost, show n - (j + 1) + 1 = n - j by omega, k2, Nat.add_assoc]
      · refine ⟨cst, σ', d', ?_, fun m => ?_, fun h => absurd h (by omega), c4, c5.more (fun h => by subst h; simp at hstop; omega)⟩
        · rw [Nat.succ_mul]; omega
        · rw [hstep, c2, Nat.min_eq_left (by omega), Nat.min_eq_left (by omega)]
theorem search_rest {n most : Nat} {es : List (Nat × Nat)} (K : Int32 → St → Option (Int32 × St)) (hlen : es.length ≤ 25) (hmost : most ≤ 1000) : ∀ (l pre : List (Nat × Nat)) (B : Bd) (σ : St) (many : Nat), es = pre ++ l → Wf n B → (∀ p, p ∈ l → p.1 < n ∧ p.2 < n ∧ B p.1 p.2 = 0) → l.Nodup → EM σ n es → WK σ n B → many < most →
    ∃ cst σ' d', cst ≤ 7 ^ (l.length + 1) ∧ (∀ m, f_R_search_L8 (nI most) K (m + cst) (nI many) (nI pre.length) σ = f_R_search_L8 (nI most) K m (nI (min most (many + (enu n l B).length))) d' σ') ∧ (many + (enu n l B).length < most → d' = nI pre.length - 1 ∧ WK σ' n B) ∧ (∀ m s, m ≠ 91 → m ≠ 93 → σ' m s = σ m s) ∧ FD σ σ' n many (enu n l B) := by
  intro l
  induction l with
  | nil =>
    intro pre B σ many hes hw _ _ he hW hm
    have hn := hW.n2
    rw [List.append_nil] at hes
    have hstep : ∀ m, f_R_search_L8 (nI most) K (m + 1) (nI many) (nI pre.length) σ = f_R_search_L28 (nI most) (nI many) (nI pre.length) (fun (σ_17 : St) => f_R_search_L8 (nI most) K m (nI many + 1) (nI pre.length + (-1)) σ_17) FU 0 σ := by
      intro m
      rw [f_R_search_L8.eq_2]
      rw [if_neg (nI_pos (by rw [hes] at hlen; omega)), if_pos (nI_lt hm (by omega)), he.1, if_pos (by rw [hes])]
    by_cases h0 : many = 0
    · subst h0
      have hcost : ∃ τ, (∀ m, f_R_search_L28 (nI most) 0 (nI pre.length) (fun (σ_17 : St) => f_R_search_L8 (nI most) K m (0 + 1) (nI pre.length + (-1)) σ_17) FU 0 σ = f_R_search_L8 (nI most) K m (0 + 1) (nI pre.length + (-1)) τ) ∧ (∀ i, i < 25 → τ 93 i = σ 91 i) ∧ ∀ m s, m ≠ 93 → τ m s = σ m s := by
        refine ⟨fun m s => if m = 93 then (if s < 25 then σ 91 s else σ 93 s) else σ m s, fun m => ?_, fun i hi => by simp [hi], fun m s hm => by simp [hm]⟩
        have A : ∃ τ : St, f_R_search_L28 (nI most) 0 (nI pre.length) (fun (σ_17 : St) => f_R_search_L8 (nI most) K m (0 + 1) (nI pre.length + (-1)) σ_17) FU 0 σ = f_R_search_L8 (nI most) K m (0 + 1) (nI pre.length + (-1)) τ ∧ τ = fun m s => if m = 93 then (if s < 25 then σ 91 s else σ 93 s) else σ m s := by
          refine loopE (fun m' i (τ : St) => f_R_search_L28 (nI most) 0 (nI pre.length) (fun (σ_17 : St) => f_R_search_L8 (nI most) K m (0 + 1) (nI pre.length + (-1)) σ_17) m' (nI i) τ) 25
            (fun i τ => τ = fun m s => if m = 93 then (if s < i then σ 91 s else σ 93 s) else σ m s)
            (fun R => ∃ τ : St, R = f_R_search_L8 (nI most) K m (0 + 1) (nI pre.length + (-1)) τ ∧ τ = fun m s => if m = 93 then (if s < 25 then σ 91 s else σ 93 s) else σ m s) ?_ ?_ FU 0 _ (by omega) (FU_gt (by decide)) (by
            funext m s
            by_cases h : m = 93
            · subst h; simp
            · simp [h])
          · intro m' i τ hi hp
            have e : τ 91 i = σ 91 i := by rw [hp]; simp
            refine Or.inr ⟨wr τ 93 i (σ 91 i), ?_, ?_⟩
            · show f_R_search_L28 (nI most) 0 (nI pre.length) _ (m' + 1) (nI i) τ = _
              rw [f_R_search_L28.eq_2]
              rw [if_pos (show nI i < 25 from nI_lt hi (by decide)), if_pos rfl, ald_nI (by omega) (by decide), e, ast_nI (by omega) (by decide), nI_1]
            · funext m s
              rw [wr_get, hp]
              by_cases h1 : m = 93
              · by_cases h2 : s = i
                · subst h2; simp [h1]
                · simp [h1, h2]
                  by_cases h3 : s < i
                  · rw [if_pos h3, if_pos (by omega)]
                  · rw [if_neg h3, if_neg (by omega)]
              · simp [h1]
          · intro m' τ hp
            refine ⟨τ, ?_, hp⟩
            show f_R_search_L28 (nI most) 0 (nI pre.length) _ (m' + 1) (nI 25) τ = _
            rw [f_R_search_L28.eq_2]
            rw [if_neg (show ¬ nI 25 < 25 by decide)]
        obtain ⟨τ, e1, e2⟩ := A
        rw [e1, e2]
      obtain ⟨τ, t1, t2, t3⟩ := hcost
      refine ⟨1, τ, nI pre.length - 1, by simp, fun m => ?_, fun _ => ⟨rfl, hW.fr (t3 82 13 (by omega)) (fun i => t3 91 i (by omega))⟩, fun m s _ h2 => t3 m s h2, ⟨fun _ X t e r c hr hc => ?_, fun h => ?_⟩⟩
      · rw [hstep]
        refine (t1 m).trans ?_
        rw [show nI pre.length + -1 = nI pre.length - 1 from (Int32.sub_eq_add_neg ..).symm, show (0 : Int32) + 1 = nI (min most (0 + (enu n [] B).length)) by rw [Nat.min_eq_right (by simp [enu]; omega)]; rfl]
      · have : B = X := by
          have := congrArg List.head? e
          simpa [enu] using this
        subst this
        rw [t2 _ (ix25 hn.2 hr hc), hW.cel hr hc]
      · rcases h with h | h
        · exact absurd rfl h
        · cases h
    · refine ⟨1, σ, nI pre.length - 1, by simp, fun m => ?_, fun _ => ⟨rfl, hW⟩, fun m s _ _ => rfl, ⟨fun h => absurd h h0, fun _ s => rfl⟩⟩
      rw [hstep]
      have : ∀ (f : St → Option (Int32 × St)) (q : Nat), f_R_search_L28 (nI most) (nI many) (nI pre.length) f (q + 1) 0 σ = f σ := by
        intro f q
        rw [f_R_search_L28.eq_2]
        rw [if_pos (by decide), if_neg (nI_ne0 (by omega) (by omega))]
      refine (this _ 999999999999999999999999999999999999999999999999).trans ?_
      show f_R_search_L8 (nI most) K m (nI many + 1) (nI pre.length + (-1)) σ = _
      rw [show nI pre.length + -1 = nI pre.length - 1 from (Int32.sub_eq_add_neg ..).symm, nI_1, Nat.min_eq_right (by simp [enu]; omega)]
      rfl
  | cons p l ih =>
    intro pre B σ many hes hw hl hd he hW hm
    obtain ⟨r, c⟩ := p
    obtain ⟨hr, hc, h0⟩ := hl (r, c) (List.mem_cons_self ..)
    have hr : r < n := hr
    have hc : c < n := hc
    have h0 : B r c = 0 := h0
    have hd1 := (List.nodup_cons.mp hd)
    have hn := hW.n2
    have hk : es[pre.length]? = some (r, c) := by rw [hes]; simp
    have hl' : ∀ s, ∀ p, p ∈ l → p.1 < n ∧ p.2 < n ∧ upB B r c (s + 1) p.1 p.2 = 0 := by
      intro s p hp
      have h1 := hl p (List.mem_cons_of_mem _ hp)
      refine ⟨h1.1, h1.2.1, ?_⟩
      rw [upB_ne, h1.2.2]
      rintro ⟨e1, e2⟩
      exact hd1.1 (by rw [← e1, ← e2]; exact hp)
    have hW0 : WK σ n (upB B r c 0) := by rw [show upB B r c 0 = B by rw [← h0]; exact upB_self]; exact hW
    have hW1 := hW0.set hr hc (v := 0) (by omega)
    rw [upB_zero h0, ce_0] at hW1
    have he1 : EM (wr σ 91 (n * r + c) (-1)) n es := he.fr (by rw [wr_fn (by omega)]) (fun s => by rw [wr_fn (by omega)])
    obtain ⟨cst, σ', d', c1, c2, c3, c4, c5⟩ := search_cell (l := l) (k := pre.length) K hw h0 hlen hk hr hc hmost (fun s σ many hs ho he hW hm => by
      have := ih (pre ++ [(r, c)]) (upB B r c (s + 1)) σ many (by rw [hes]; simp) (hw.opt hr hc ho) (hl' s) hd1.2 he hW hm
      simpa using this) n (Nat.le_refl n) (wr σ 91 (n * r + c) (-1)) many FU (FU_gt (by omega)) he1 hW1 hm
    refine ⟨cst + 1, σ', d', ?_, fun m => ?_, c3, fun m s h1 h2 => by rw [c4 m s h1 h2, wr_fn h1], c5.fr (fun s => by rw [wr_fn (by omega)]) (fun s => rfl)⟩
    · have h7 : n * (7 ^ (l.length + 1) + 1) ≤ 5 * (7 ^ (l.length + 1) + 1) := Nat.mul_le_mul_right _ hn.2
      have h8 : 7 ^ 1 ≤ 7 ^ (l.length + 1) := Nat.pow_le_pow_right (by omega) (by omega)
      rw [List.length_cons, Nat.pow_succ 7 (l.length + 1)]
      omega
    · rw [← Nat.add_assoc, step8 K he hW0 hlen hk hr hc (by omega) hm hmost]
      have := c2 m
      rw [Nat.sub_self] at this
      exact this
theorem search_ok {σ : St} {n most : Nat} {B : Bd} (h : WK σ n B) (hw : Wf n B) (h1 : 1 ≤ most) (h2 : most ≤ 1000) : ∃ τ, f_R_search σ (nI most) = some (nI (min most (nC n B)), τ) ∧ (∀ m s, m ≠ 91 → m ≠ 92 → m ≠ 93 → ¬ (m = 82 ∧ s = 15) → τ m s = σ m s) ∧ ∀ X t, comps n B = X :: t → ∀ r c, r < n → c < n → τ 93 (n * r + c) = ce (X r c) := by
  have hn := h.n2
  have h25 : n * n ≤ 25 := Nat.mul_le_mul hn.2 hn.2
  have hlen : (empties n B).length ≤ 25 := by
    refine Nat.le_trans (List.length_filter_le _ _) ?_
    unfold cells; simp; omega
  obtain ⟨τ, e1, e2, e3⟩ := layEmpties_ok h
  have hWτ : WK τ n B := h.fr (e3 82 13 (by omega) (by omega)) (fun i => e3 91 i (by omega) (by omega))
  unfold f_R_search
  rw [e1, cal_some]
  obtain ⟨cst, σ', d', c1, c2, c3, c4, c5⟩ := search_rest (fun (v2_18 : Int32) (σ_19 : St) => some (v2_18, σ_19)) hlen h2 (empties n B) [] B τ 0 rfl hw emp_ok (nodup_empties n B) e2 hWτ (by omega)
  have h7 : 7 ^ ((empties n B).length + 1) ≤ 7 ^ 26 := Nat.pow_le_pow_right (by omega) (by omega)
  have hFU : cst < FU := FU_gt (Nat.lt_of_le_of_lt (Nat.le_trans c1 h7) (by decide))
  obtain ⟨q, hq⟩ : ∃ q, FU = (q + 1) + cst := ⟨FU - cst - 1, by omega⟩
  have hr := c2 (q + 1)
  rw [← hq, Nat.zero_add] at hr
  refine ⟨σ', ?_, fun m s a b c d => by rw [c4 m s a c, e3 m s d b], fun X t hX r c hr hc => c5.1 rfl X t hX r c hr hc⟩
  refine Eq.trans hr ?_
  show f_R_search_L8 (nI most) _ (q + 1) (nI (min most (nC n B))) d' σ' = _
  rw [f_R_search_L8.eq_2]
  by_cases hlt : nC n B < most
  · obtain ⟨rfl, _⟩ := c3 (by rw [Nat.zero_add]; exact hlt)
    rw [if_pos (by decide)]
  · by_cases hd : d' < 0
    · rw [if_pos hd]
    · rw [if_neg hd, if_neg (nI_nlt (by omega) (by omega))]
