/-! the law's start, and all its turns -/
section LM9
variable {σ : St} {n : Nat} {B B1 : Bd}
theorem lq_new (h0 : σ 0 8 = 0) (X : Bd) (h1 : 2 ≤ n) (h2 : n ≤ 5) : ∃ σ', f_Q_newGrid σ (nI n) = some (.ok 34, σ') ∧ CW σ' 1 (upN (fun _ => n) 0 n) (upG (fun _ => X) 0 B0) ∧ ∀ m, m ≠ 0 → (m < 34 ∨ 37 < m) → σ' m = σ m := by
  have c0 : CW σ 0 (fun _ => n) (fun _ => X) := ⟨by omega, h0, fun j hj => by omega⟩
  exact newGrid_ok c0 (by omega) h1 h2
theorem cw_one {τ : St} {X : Bd} (h : CW τ 1 (upN (fun _ => n) 0 n) (upG (fun _ => X) 0 X)) : CW τ 1 (fun _ => n) (fun _ => X) := by
  have e1 : upN (fun _ => n) 0 n = fun _ => n := by funext j; unfold upN; split <;> rfl
  have e2 : upG (fun _ => X) 0 X = fun _ => X := by funext j; unfold upG; split <;> rfl
  rw [e1, e2] at h
  exact h
theorem lq_grid (h0 : σ 0 8 = 0) (h1 : 2 ≤ n) (h2 : n ≤ 5) : ∃ σ', f_Q_grid σ (nI n) = some (.ok 0, σ') ∧ CW σ' 1 (fun _ => n) (fun _ => B0) ∧ ∀ m, 82 ≤ m → σ' m = σ m := by
  obtain ⟨σ', e, c, f⟩ := lq_new h0 B0 h1 h2
  have c1 := cw_one c
  refine ⟨σ', ?_, c1, fun m hm => f m (by omega) (by omega)⟩
  have hb : btw (nI n) 2 5 = true := by
    rw [show (2 : Int32) = nI 2 from rfl, show (5 : Int32) = nI 5 from rfl, btw_nI (by omega) (by omega) (by omega)]
    exact decide_eq_true ⟨h1, h2⟩
  unfold f_Q_grid
  rw [isFrom_ok, cap_some, hb, nar true, if_pos rfl, cax_ok, e, cax_ok, c1.2.1, show nI 1 - 1 = nI 0 from nI_pred 0]
  rfl
theorem prm1 (h1 : 2 ≤ n) (h2 : n ≤ 5) : prm 1 n = true := by
  match n, h1, h2 with
  | 2, _, _ => decide
  | 3, _, _ => decide
  | 4, _, _ => decide
  | 5, _, _ => decide
theorem lq_linear (h0 : σ 0 8 = 0) (h1 : 2 ≤ n) (h2 : n ≤ 5) {d : Nat} (hd : d < 5) : ∃ σ', f_Q_linear σ (nI n) 1 1 (nI d) = some (.ok 0, σ') ∧ CW σ' 1 (fun _ => n) (fun _ => linB n 1 1 d) ∧ ∀ m, 82 ≤ m → σ' m = σ m := by
  have p1 := prm1 h1 h2
  obtain ⟨σ', e, c, f⟩ := lq_new h0 (linB n 1 1 d) h1 h2
  have hG : GOK σ' 34 n B0 := by
    have := c.g (j := 0) (by omega)
    rwa [upN_at, upG_at] at this
  obtain ⟨τ, e2, g2, f2⟩ := lin_cls (a := 1) (b := 1) hG (by omega) (by omega) hd p1 p1 (fun (σ_29 : St) => some (.ok ((σ_29 0 8) - 1), σ_29))
  have c2 := cw_one (new_cw (M := 0) (N := fun _ => n) (B := fun _ => linB n 1 1 d) c g2 f2)
  refine ⟨τ, ?_, c2, fun m hm => by rw [f2 m (by omega), f m (by omega) (by omega)]⟩
  have hb : btw (nI n) 2 5 = true := by
    rw [show (2 : Int32) = nI 2 from rfl, show (5 : Int32) = nI 5 from rfl, btw_nI (by omega) (by omega) (by omega)]
    exact decide_eq_true ⟨h1, h2⟩
  have h4 : btw (nI d) 0 4 = true := by
    rw [show (0 : Int32) = nI 0 from rfl, show (4 : Int32) = nI 4 from rfl, btw_nI (by omega) (by omega) (by omega)]
    exact decide_eq_true ⟨by omega, by omega⟩
  have r1 := reach_ok (σ := σ) (a := 1) (by omega) ⟨h1, h2⟩
  rw [p1] at r1
  have r1 : f_Q_reachesAll σ 1 (nI n) = some (bI true) := r1
  unfold f_Q_linear
  rw [isFrom_ok, cap_some, hb, nar true, if_pos rfl, cax_ok, isFrom_ok, cap_some, show btw 1 0 4 = true from rfl, isFrom_ok, h4, jn_eq, jn_eq, if_neg (show ¬ bI true = 0 by decide), cap_some, if_neg (show ¬ bI true = 0 by decide), cap_some, if_neg (show ¬ bI true = 0 by decide)]
  show cax (f_Q_needArgument σ 1) _ = _
  rw [nar1, cax_ok, r1, cap_some, jn_eq, jn_eq, if_neg (show ¬ bI true = 0 by decide), cap_some, if_neg (show ¬ bI true = 0 by decide)]
  show cax (f_Q_needArgument σ 1) _ = _
  rw [nar1, cax_ok, e, cax_ok]
  refine e2.trans ?_
  rw [c2.2.1, show nI 1 - 1 = nI 0 from nI_pred 0]
  rfl
theorem cj_0 (hw : Wf n B) : cj 0 B = B := by
  funext a b
  cases hb : B a b with
  | zero =>
    cases hc : cj 0 B a b with
    | zero => rfl
    | succ v =>
      obtain ⟨r, c, s, e1, e2, e3, _⟩ := (cj_iff hw (by omega)).mp hc
      have e2 : r = a := e2
      have e3 : c = b := e3
      rw [e2, e3, hb] at e1
      cases e1
  | succ v =>
    refine (cj_iff hw (by omega)).mpr ⟨a, b, v, hb, rfl, rfl, ?_⟩
    show a + b + v - a - b = v
    omega
theorem lq_conj (h : CW σ 1 (fun _ => n) (fun _ => B)) : ∃ τ, f_Q_conjugate σ 0 0 = some (.ok 1, τ) ∧ LW τ n B B ∧ ∀ m, 82 ≤ m → τ m = σ m := by
  have hG : GOK σ 34 n B := h.g (j := 0) (by decide)
  have hw := hG.1
  obtain ⟨σ', e, c, f⟩ := newGrid_ok h (by omega) hw.1 hw.2.1
  have hA : GOK σ' 34 n B := c.g (j := 0) (by decide)
  have hB : GOK σ' 38 n B0 := c.g (j := 1) (by decide)
  obtain ⟨τ, e2, g2, f2⟩ := conj_cls (h := 0) hA hB (by omega) (by omega) (fun (σ_20 : St) => some (.ok ((σ_20 0 8) - 1), σ_20))
  rw [cj_0 hw] at g2
  have c2 := new_cw (M := 1) (N := fun _ => n) (B := fun _ => B) c g2 f2
  have e1 : upN (fun _ => n) 1 n = fun _ => n := by funext j; unfold upN; split <;> rfl
  have e9 : upG (fun _ => B) 1 B = Bs B B := by funext j; unfold upG Bs; split <;> split <;> rfl
  rw [e1, e9] at c2
  refine ⟨τ, ?_, c2, fun m hm => ?_⟩
  · unfold f_Q_conjugate
    rw [show f_Q_gridAt σ 0 = some (.ok 34, σ) from gridAt_in (j := 0) h (by decide), cax_ok, isFrom_ok, cap_some, show btw 0 0 5 = true from rfl, nar true, if_pos rfl, cax_ok, hG.ord, e, cax_ok]
    refine e2.trans ?_
    rw [c2.2.1, show nI 2 - 1 = nI 1 from nI_pred 1]
    rfl
  · rw [f2 m (by omega)]
    exact f m (by omega) (by unfold gid; omega)
theorem pl_114 (hn1 : 2 ≤ n) (hn2 : n ≤ 5) (v5 s9 v8 : Int32) (X : Bd) (hv : ∀ (τ : St) (J : Int32 → Option Int32) (i : Nat), i < n * n → (if s9 = 0 then dvi (nI i) (nI n) fun q_21 => rmi (nI i) (nI n) fun q_22 => dvi v5 32 fun q_23 => cap (f_L_up τ q_23 5) fun r_25 => rmi ((q_21 + q_22) + r_25) (nI n) fun q_26 => J q_26 else J (-1)) = J (ce (X (i / n) (i % n)))) (K : St → Option Int32) :
    ∃ τ, f_L_law_L114 v5 (nI n) s9 v8 K FU 0 σ = K τ ∧ Arr τ 82 n X ∧ Arr τ 83 n X ∧ ∀ m, m < 82 → τ m = σ m := by
  have h25 : n * n ≤ 25 := Nat.mul_le_mul hn2 hn2
  have Z := loopE (fun m i (τ : St) => f_L_law_L114 v5 (nI n) s9 v8 K m (nI i) τ) (n * n) (fun e τ => (∀ j, j < e → τ 82 j = ce (X (j / n) (j % n)) ∧ τ 83 j = ce (X (j / n) (j % n))) ∧ ∀ m, m < 82 → τ m = σ m) (fun R => ∃ τ : St, ((∀ j, j < n * n → τ 82 j = ce (X (j / n) (j % n)) ∧ τ 83 j = ce (X (j / n) (j % n))) ∧ ∀ m, m < 82 → τ m = σ m) ∧ R = K τ) ?_ ?_ FU 0 σ (by omega) (FU_gt (by omega)) ⟨fun j hj => by omega, fun m _ => rfl⟩
  · obtain ⟨τ, ⟨h1, h2⟩, e⟩ := Z
    have b : ∀ r c, r < n → c < n → n * r + c < n * n := fun r c hr hc => by
      have : n * r ≤ n * (n - 1) := Nat.mul_le_mul_left _ (by omega)
      have : n * (n - 1) + n = n * n := by rw [← Nat.mul_succ]; congr 1; omega
      omega
    refine ⟨τ, e, fun r c hr hc => ?_, fun r c hr hc => ?_, h2⟩
    · have := (h1 _ (b r c hr hc)).1
      rwa [(pl_i hc).1, (pl_i hc).2] at this
    · have := (h1 _ (b r c hr hc)).2
      rwa [(pl_i hc).1, (pl_i hc).2] at this
  · intro m i τ hi ⟨h1, h2⟩
    refine Or.inr ⟨wr (wr τ 82 i (ce (X (i / n) (i % n)))) 83 i (ce (X (i / n) (i % n))), ?_, fun j hj => ⟨?_, ?_⟩, fun m hm => by rw [wr_fn (by omega), wr_fn (by omega)]; exact h2 m hm⟩
    · show f_L_law_L114 v5 (nI n) s9 v8 K (m + 1) (nI i) τ = _
      rw [f_L_law_L114.eq_2]
      rw [nI_mul, if_pos (nI_lt hi (by omega)), jn_eq]
      refine (hv τ _ i hi).trans ?_
      show ast τ 82 25 (nI i) _ _ = _
      rw [ast_nI (by omega) (by decide), ald_nI (by omega) (by decide), wr_at, ast_nI (by omega) (by decide), nI_1]
    · rw [wr_fn (by omega), wr_get]
      by_cases e : j = i
      · rw [if_pos ⟨rfl, e⟩, e]
      · rw [if_neg (by omega)]; exact (h1 j (by omega)).1
    · rw [wr_get]
      by_cases e : j = i
      · rw [if_pos ⟨rfl, e⟩, e]
      · rw [if_neg (by omega), wr_fn (by omega)]; exact (h1 j (by omega)).2
  · intro m τ hT
    refine ⟨τ, hT, ?_⟩
    show f_L_law_L114 v5 (nI n) s9 v8 K (m + 1) (nI (n * n)) τ = _
    rw [f_L_law_L114.eq_2]
    rw [nI_mul, if_neg (nI_nlt (Nat.le_refl _) (by omega))]
theorem pl_turns {N : Nat} (hN : N ≤ 260) (xs : Nat → Int32) : ∀ (m k : Nat) (σ : St) (B : Bd), LW σ n B B1 → Arr σ 82 n B → Arr σ 83 n B1 → k ≤ 45 → 45 - k < m → f_L_law_L178 N xs (nI n) (fun (v8 : Int32) (_ : St) => some v8) m 1 (nI k) σ = some 1 := by
  intro m
  induction m with
  | zero => intro k σ B _ _ _ _ h; omega
  | succ m ih =>
    intro k σ B h hA hS hk hm
    have hn1 := h.g0.1.1
    have hn2 := h.g0.1.2.1
    rw [f_L_law_L178.eq_2]
    by_cases e45 : k = 45
    · subst e45
      rw [if_neg (show ¬ nI 45 < 45 from nI_nlt (Nat.le_refl 45) (by omega))]
    · have L45 : nI k < nI 45 := nI_lt (by omega) (by omega)
      rw [if_pos (show nI k < 45 from L45), if_neg (show ¬ (1 : Int32) = 0 by decide)]
      have next : ∀ (B' : Bd) (τ : St), LW τ n B' B1 → Arr τ 82 n B' → Arr τ 83 n B1 → p_T1 N xs (nI n) (fun (v8 : Int32) (_ : St) => some v8) m (nI k) 1 τ = some 1 := by
        intro B' τ h1 h2 h3
        obtain ⟨τ', e, g1, g2, g3⟩ := pl_tail h1 h2 h3 N xs (fun (v8 : Int32) (_ : St) => some v8) m (nI k)
        rw [e, nI_1]
        exact ih (k + 1) τ' B' g1 g2 g3 (by omega) (by omega)
      obtain ⟨y, ey⟩ := pl_cell hN xs (k := k) (by omega)
      obtain ⟨r, hr, er⟩ := pl_up (σ := σ) (y / 16) (m := n) (by omega) (by omega)
      obtain ⟨c, hc, ec⟩ := pl_up (σ := σ) (y / 64) (m := n) (by omega) (by omega)
      obtain ⟨t, ht, et⟩ := pl_up (σ := σ) y (m := 4) (by omega) (by omega)
      have et : f_L_up σ y 4 = some (nI t) := et
      rw [ey, cap_some, pl_dvi (by decide), er, cap_some, pl_dvi (by decide), ec, cap_some, lt1_eq, nI_mul, nI_add, et, cap_some, jn_eq]
      by_cases h3 : t < 3
      · have L3 : nI t < nI 3 := nI_lt h3 (by omega)
        rw [if_pos (show nI t < 3 from L3)]
        obtain ⟨w, hw, ew⟩ := pl_up (σ := σ) y (m := 16) (by omega) (by omega)
        have ew : f_L_up σ y 16 = some (nI w) := ew
        rw [ew, cap_some, jn_eq]
        have fin : ∀ v, v ≤ n → p_P (nI n) (nI k) (nI r) (nI c) (nI (n * r + c)) σ (p_T1 N xs (nI n) (fun (v8 : Int32) (_ : St) => some v8) m (nI k)) (ce v) = some 1 := by
          intro v hv
          obtain ⟨B', τ, e, g1, g2, g3⟩ := pl_put h hA hS hr hc hv (nI k) (p_T1 N xs (nI n) (fun (v8 : Int32) (_ : St) => some v8) m (nI k))
          rw [e]
          exact next B' τ g1 g2 g3
        by_cases h4 : w < 4
        · have L4 : nI w < nI 4 := nI_lt h4 (by omega)
          rw [if_pos (show nI w < 4 from L4)]
          exact fin 0 (by omega)
        · obtain ⟨s, hs, es⟩ := pl_up (σ := σ) (y / 256) (m := n) (by omega) (by omega)
          have f1 := fin (s + 1) (by omega)
          rw [ce_s] at f1
          have L4 : ¬ nI w < nI 4 := nI_nlt (by omega) (by omega)
          rw [if_neg (show ¬ nI w < 4 from L4), pl_dvi (by decide), es, cap_some]
          exact f1
      · have L3 : ¬ nI t < nI 3 := nI_nlt (by omega) (by omega)
        rw [if_neg (show ¬ nI t < 3 from L3)]
        obtain ⟨s, hs, es⟩ := pl_up (σ := σ) (y / 256) (m := n) (by omega) (by omega)
        rw [pl_dvi (by decide), es, cap_some]
        obtain ⟨B', τ, e, g1, g2, g3⟩ := pl_turn h hA hS hr hs hc (nI k) (p_T1 N xs (nI n) (fun (v8 : Int32) (_ : St) => some v8) m (nI k))
        exact e.trans (next B' τ g1 g2 g3)
end LM9
