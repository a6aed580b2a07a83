/-! operations that write -/
theorem ix25 {n r c : Nat} (hn : n ≤ 5) (hr : r < n) (hc : c < n) : n * r + c < 25 := by
  have h1 : n * r ≤ n * (n - 1) := Nat.mul_le_mul_left _ (by omega)
  have h2 : n * (n - 1) ≤ 5 * (n - 1) := Nat.mul_le_mul_right _ (by omega)
  omega
def upG (B : Nat → Nat → Nat → Nat) (j : Nat) (X : Nat → Nat → Nat) : Nat → Nat → Nat → Nat := fun j' => if j' = j then X else B j'
def upN (N : Nat → Nat) (j n : Nat) : Nat → Nat := fun j' => if j' = j then n else N j'
def MR (σ : St) (M : Nat) (N : Nat → Nat) (B : Nat → Nat → Nat → Nat) : Prop := σ 82 1 = nI M ∧ (∀ j, j < M → σ 83 j = nI (N j)) ∧ ∀ j r c, j < M → r < N j → c < N j → σ 84 (25 * j + N j * r + c) = ce (B j r c)
theorem MW.mr {σ : St} {M : Nat} {N : Nat → Nat} {B : Nat → Nat → Nat → Nat} (h : MW σ M N B) : MR σ M N B := h.2
theorem MR.mw {σ : St} {M : Nat} {N : Nat → Nat} {B : Nat → Nat → Nat → Nat} (h : MR σ M N B) (hM : M ≤ 12) (hw : ∀ j, j < M → Wf (N j) (B j)) : MW σ M N B := ⟨⟨hM, hw⟩, h⟩
def FrG (σ σ' : St) : Prop := ∀ m, ¬ scr m → m ≠ 0 → ¬ (34 ≤ m ∧ m ≤ 81) → σ' m = σ m
def FrW (σ τ : St) : Prop := (∀ m, m < 82 ∨ m = 85 ∨ m = 89 ∨ m = 103 → τ m = σ m) ∧ ∀ s, s = 4 ∨ s = 9 ∨ s = 10 → τ 82 s = σ 82 s
theorem FrW.trans {a b c : St} (h : FrW a b) (h2 : FrW b c) : FrW a c := ⟨fun m hm => (h2.1 m hm).trans (h.1 m hm), fun m hm => (h2.2 m hm).trans (h.2 m hm)⟩
theorem FrK.fw {σ τ : St} (h : FrK σ τ) : FrW σ τ := ⟨fun m hm => h.1 m (by omega), fun s hs => h.2 s (by omega)⟩
theorem FrW.refl (σ : St) : FrW σ σ := ⟨fun _ _ => rfl, fun _ _ => rfl⟩
theorem FrW.w {σ τ : St} (h : FrW σ τ) {m s : Nat} {v : Int32} (hm : ¬ (m < 82 ∨ m = 85 ∨ m = 89 ∨ m = 103)) (hs : ¬ (m = 82 ∧ (s = 4 ∨ s = 9 ∨ s = 10))) : FrW σ (wr τ m s v) := by
  refine ⟨fun m' hm' => ?_, fun s' hs' => ?_⟩
  · rw [wr_fn (by omega)]; exact h.1 m' hm'
  · rw [wr_get, if_neg (by omega)]; exact h.2 s' hs'
theorem FrG.c {σ σ' : St} (h : FrC σ σ') : FrG σ σ' := fun m hm _ _ => h m hm
theorem FrG.refl (σ : St) : FrG σ σ := fun _ _ _ _ => rfl
theorem FrG.trans {a b c : St} (h : FrG a b) (h2 : FrG b c) : FrG a c := fun m a b c => (h2 m a b c).trans (h m a b c)
def WrG (cd : Nat → Option Int32) (Q : St → Option (Except Nat Int32 × St)) (R : St → Option (Int32 × St)) (σ : St) (M : Nat) (N : Nat → Nat) (B : Nat → Nat → Nat → Nat) : Prop :=
  ∃ q σ' M' N' B', Q σ = some (q, σ') ∧ CW σ' M' N' B' ∧ FrG σ σ' ∧
      ∀ σ1, MW σ1 M N B → CA σ1 → ∃ b9 σ2, R σ1 = some (b9, σ2) ∧ MW σ2 M' N' B' ∧ FrW σ1 σ2 ∧ Agr cd q b9 (σ2 82 0)
theorem op_wr {cd : Nat → Option Int32} {Q : St → Option (Except Nat Int32 × St)} {R : St → Option (Int32 × St)} {σ : St} (hI : Inv σ)
    (h : ∀ M N B, CW σ M N B → MT σ → WrG cd Q R σ M N B) :
    ∃ (k b9 : Int32) (σ1 σ2 : St), wv cd (Q σ) = some (k, σ1) ∧ R σ1 = some (b9, σ2) ∧ σ2 82 0 = k ∧ (k = 0 → σ2 103 0 = b9) ∧ Inv σ2 := by
  refine op_all hI (fun M N B t ch c1 c2 c3 c4 c5 c6 => ?_)
  obtain ⟨q, σ', M', N', B', e, d1, d2, d3⟩ := h M N B c1 c5
  refine ⟨q, σ', M', N', B', t, ch, e, d1, ?_, ?_, fun m hm => d2 m (by unfold scr; omega) (by omega) (by omega), fun σ1 m1 m2 m3 => ?_⟩
  · obtain ⟨h1, h2, h3, h4⟩ := c3
    refine ⟨h1, ?_, ?_, h4⟩
    · rw [d2 10 (by unfold scr; omega) (by omega) (by omega)]; exact h2
    · rw [d2 11 (by unfold scr; omega) (by omega) (by omega)]; exact h3
  · intro m hm
    rw [d2 7 (by unfold scr; omega) (by omega) (by omega), d2 8 (by unfold scr; omega) (by omega) (by omega)]
    exact c5 m hm
  · obtain ⟨b9, σ2, r1, r2, r3, r4⟩ := d3 σ1 m1 m3
    refine ⟨b9, σ2, r1, fun m hm => r3.1 m (by omega), r2, ?_, m3.fr (r3.2 9 (by omega)) (r3.2 10 (by omega)) (r3.1 89 (by omega)), r4⟩
    obtain ⟨h1, h2, h3, h4⟩ := m2
    refine ⟨h1, ?_, ?_, h4⟩
    · rw [r3.2 4 (by omega)]; exact h2
    · rw [r3.1 85 (by omega)]; exact h3
section WO
variable {cd : Nat → Option Int32} {Q : St → Option (Except Nat Int32 × St)} {R : St → Option (Int32 × St)} {σ : St} {M : Nat} {N : Nat → Nat} {B : Nat → Nat → Nat → Nat}
theorem wr_err (cw : CW σ M N B) (e : Nat) (k : Int32) {σ' : St} (hQ : Q σ = some (.error e, σ')) (hf : FrC σ σ') (hk : cd e = some k ∧ k ≠ 0) (hR : ∀ σ1, MW σ1 M N B → ∃ v τ, R σ1 = some (v, τ) ∧ FrK σ1 τ ∧ τ 82 0 = k) : WrG cd Q R σ M N B := by
  refine ⟨_, σ', M, N, B, hQ, cw.fr hf, FrG.c hf, fun σ1 mw ca => ?_⟩
  obtain ⟨v, τ, h1, h2, h3⟩ := hR σ1 mw
  exact ⟨v, τ, h1, mw.k h2, h2.fw, by rw [h3]; exact hk⟩
theorem wr_ok (v : Int32) {σ' : St} {M' : Nat} {N' : Nat → Nat} {B' : Nat → Nat → Nat → Nat} (hQ : Q σ = some (.ok v, σ')) (hc : CW σ' M' N' B') (hf : FrG σ σ') (hR : ∀ σ1, MW σ1 M N B → ∃ τ, R σ1 = some (v, τ) ∧ MW τ M' N' B' ∧ FrW σ1 τ ∧ τ 82 0 = 0) : WrG cd Q R σ M N B := by
  refine ⟨_, σ', M', N', B', hQ, hc, hf, fun σ1 mw ca => ?_⟩
  obtain ⟨τ, h1, h2, h3, h4⟩ := hR σ1 mw
  exact ⟨v, τ, h1, h2, h3, h4, rfl⟩
theorem gid_off {i j : Nat} (h : i ≠ j) {m : Nat} (h1 : gid i ≤ m) (h2 : m ≤ gid i + 3) : m < gid j ∨ gid j + 3 < m := by unfold gid at *; omega
/-- the class writes into the grid j -/
theorem CW.up (h : CW σ M N B) {σ' : St} {j : Nat} (hj : j < M) {X : Nat → Nat → Nat} (hX : GOK σ' (gid j) (N j) X) (h0 : σ' 0 8 = σ 0 8) (hf : ∀ m, 34 ≤ m → m ≤ 81 → (m < gid j ∨ gid j + 3 < m) → σ' m = σ m) : CW σ' M N (upG B j X) := by
  obtain ⟨h1, h2, h3⟩ := h
  refine ⟨h1, by rw [h0]; exact h2, fun i hi => ?_⟩
  by_cases e : i = j
  · subst e
    unfold upG; rw [if_pos rfl]; exact hX
  · unfold upG; rw [if_neg e]
    exact (h3 i hi).frame (fun m a b => hf m (by unfold gid at a; omega) (by unfold gid at b; omega) (gid_off e a b))
theorem newGrid_ok (h : CW σ M N B) (hM : M < 12) {n : Nat} (h1 : 2 ≤ n) (h2 : n ≤ 5) : ∃ σ', f_Q_newGrid σ (nI n) = some (.ok (gid M), σ') ∧ CW σ' (M + 1) (upN N M n) (upG B M B0) ∧ ∀ m, m ≠ 0 → (m < gid M ∨ gid M + 3 < m) → σ' m = σ m := by
  obtain ⟨τ, e, g, f⟩ := clear_ok (gid M) n h1 h2 (wr σ 0 8 (nI (M + 1)))
  refine ⟨τ, ?_, ⟨by omega, ?_, fun i hi => ?_⟩, fun m hm hm2 => ?_⟩
  · unfold f_Q_newGrid
    simp (disch := omega) only [h.2.1, e, and_self, and_true, true_and, and_false, false_and, cap_some, cal_some, cax_ok, cax_er, jn_eq, lt1_eq, sto_eq, ald_nI, ast_nI, gld_nI, fac_nI, lt_nI, le_nI, eq_nI, nI_1, nI_add, nI_mul, cell5, cell25, ce_m1, if_pos, if_neg, ↓reduceIte, if_true, if_false, lt_l0, le_l0, eq_l0, ll_t0, add_l0, lt_l1, le_l1, eq_l1, ll_t1, add_l1, lt_l2, le_l2, eq_l2, ll_t2, add_l2, lt_l3, le_l3, eq_l3, ll_t3, add_l3, lt_l4, le_l4, eq_l4, ll_t4, add_l4, lt_l5, le_l5, eq_l5, ll_t5, add_l5, lt_l6, le_l6, eq_l6, ll_t6, add_l6, lt_l10, le_l10, eq_l10, ll_t10, add_l10, lt_l12, le_l12, eq_l12, ll_t12, add_l12, lt_l25, le_l25, eq_l25, ll_t25, add_l25, lt_l40, le_l40, eq_l40, ll_t40, add_l40, lt_l41, le_l41, eq_l41, ll_t41, add_l41, lt_l42, le_l42, eq_l42, ll_t42, add_l42, lt_l61, le_l61, eq_l61, ll_t61, add_l61, lt_l120, le_l120, eq_l120, ll_t120, add_l120, lt_l121, le_l121, eq_l121, ll_t121, add_l121, lt_l122, le_l122, eq_l122, ll_t122, add_l122, lt_l576, le_l576, eq_l576, ll_t576, add_l576, lt_l600, le_l600, eq_l600, ll_t600, add_l600, lt_l1000, le_l1000, eq_l1000, ll_t1000, add_l1000]
  · rw [f 0 (by unfold gid; omega), wr_at]
  · by_cases ei : i = M
    · subst ei
      unfold upG upN; rw [if_pos rfl, if_pos rfl]; exact g
    · unfold upG upN; rw [if_neg ei, if_neg ei]
      refine (h.2.2 i (by omega)).frame (fun m a b => ?_)
      rw [f m (gid_off ei a b), wr_fn (by unfold gid at a; omega)]
  · rw [f m hm2, wr_fn hm]
theorem newGrid_no (h : CW σ M N B) (hM : M = 12) (x : Int32) : f_Q_newGrid σ x = some (.error 3, σ) := by
  subst hM
  unfold f_Q_newGrid
  simp (disch := omega) only [h.2.1, and_self, and_true, true_and, and_false, false_and, cap_some, cal_some, cax_ok, cax_er, jn_eq, lt1_eq, sto_eq, ald_nI, ast_nI, gld_nI, fac_nI, lt_nI, le_nI, eq_nI, nI_1, nI_add, nI_mul, cell5, cell25, ce_m1, if_pos, if_neg, ↓reduceIte, if_true, if_false, lt_l0, le_l0, eq_l0, ll_t0, add_l0, lt_l1, le_l1, eq_l1, ll_t1, add_l1, lt_l2, le_l2, eq_l2, ll_t2, add_l2, lt_l3, le_l3, eq_l3, ll_t3, add_l3, lt_l4, le_l4, eq_l4, ll_t4, add_l4, lt_l5, le_l5, eq_l5, ll_t5, add_l5, lt_l6, le_l6, eq_l6, ll_t6, add_l6, lt_l10, le_l10, eq_l10, ll_t10, add_l10, lt_l12, le_l12, eq_l12, ll_t12, add_l12, lt_l25, le_l25, eq_l25, ll_t25, add_l25, lt_l40, le_l40, eq_l40, ll_t40, add_l40, lt_l41, le_l41, eq_l41, ll_t41, add_l41, lt_l42, le_l42, eq_l42, ll_t42, add_l42, lt_l61, le_l61, eq_l61, ll_t61, add_l61, lt_l120, le_l120, eq_l120, ll_t120, add_l120, lt_l121, le_l121, eq_l121, ll_t121, add_l121, lt_l122, le_l122, eq_l122, ll_t122, add_l122, lt_l576, le_l576, eq_l576, ll_t576, add_l576, lt_l600, le_l600, eq_l600, ll_t600, add_l600, lt_l1000, le_l1000, eq_l1000, ll_t1000, add_l1000]
theorem MR.make (h : MR σ M N B) (hM : M < 12) (hN : ∀ j, j < M → N j ≤ 5) {n : Nat} (hn5 : n ≤ 5) : ∃ τ, f_R_make σ (nI n) = some (nI M, τ) ∧ MR τ (M + 1) (upN N M n) (upG B M B0) ∧ FrW σ τ ∧ τ 82 0 = σ 82 0 ∧ ∀ i, i < 25 → τ 84 (25 * M + i) = -1 := by
  obtain ⟨h1, h2, h3⟩ := h
  unfold f_R_make
  have A : ∀ (σ : St), σ 82 1 = nI M → ∃ τ, f_R_make_L12 (fun (σ_3 : St) => sto σ_3 82 1 ((σ_3 82 1) + 1) fun σ_4 => some (((σ_4 82 1) - 1), σ_4)) FU 0 σ = some (nI M, wr τ 82 1 (nI (M + 1))) ∧ (∀ m, m ≠ 84 → τ m = σ m) ∧ (∀ i, i < 25 → τ 84 (25 * M + i) = -1) ∧ ∀ i, i < 25 * M → τ 84 i = σ 84 i := by
    intro σ h1
    refine loopE (fun m i (τ : St) => f_R_make_L12 (fun (σ_3 : St) => sto σ_3 82 1 ((σ_3 82 1) + 1) fun σ_4 => some (((σ_4 82 1) - 1), σ_4)) m (nI i) τ) 25
      (fun i τ => (∀ m, m ≠ 84 → τ m = σ m) ∧ (∀ i', i' < i → τ 84 (25 * M + i') = -1) ∧ ∀ i, i < 25 * M → τ 84 i = σ 84 i)
      (fun R => ∃ τ, R = some (nI M, wr τ 82 1 (nI (M + 1))) ∧ (∀ m, m ≠ 84 → τ m = σ m) ∧ (∀ i, i < 25 → τ 84 (25 * M + i) = -1) ∧ ∀ i, i < 25 * M → τ 84 i = σ 84 i) ?_ ?_ FU 0 σ (by omega) (FU_gt (by decide)) ⟨fun m _ => rfl, fun i hi => by omega, fun i _ => rfl⟩
    · intro m i τ hi ⟨p1, p2, p3⟩
      refine Or.inr ⟨wr τ 84 (25 * M + i) (-1), ?_, fun m hm => ?_, fun i' hi' => ?_, fun i' hi' => ?_⟩
      · show f_R_make_L12 _ (m + 1) (nI i) τ = _
        rw [f_R_make_L12.eq_2]
        simp (disch := omega) only [p1 82 (by omega), h1, and_self, and_true, true_and, and_false, false_and, cap_some, cal_some, cax_ok, cax_er, jn_eq, lt1_eq, sto_eq, ald_nI, ast_nI, gld_nI, fac_nI, lt_nI, le_nI, eq_nI, nI_1, nI_add, nI_mul, cell5, cell25, ce_m1, if_pos, if_neg, ↓reduceIte, if_true, if_false, lt_l0, le_l0, eq_l0, ll_t0, add_l0, lt_l1, le_l1, eq_l1, ll_t1, add_l1, lt_l2, le_l2, eq_l2, ll_t2, add_l2, lt_l3, le_l3, eq_l3, ll_t3, add_l3, lt_l4, le_l4, eq_l4, ll_t4, add_l4, lt_l5, le_l5, eq_l5, ll_t5, add_l5, lt_l6, le_l6, eq_l6, ll_t6, add_l6, lt_l10, le_l10, eq_l10, ll_t10, add_l10, lt_l12, le_l12, eq_l12, ll_t12, add_l12, lt_l25, le_l25, eq_l25, ll_t25, add_l25, lt_l40, le_l40, eq_l40, ll_t40, add_l40, lt_l41, le_l41, eq_l41, ll_t41, add_l41, lt_l42, le_l42, eq_l42, ll_t42, add_l42, lt_l61, le_l61, eq_l61, ll_t61, add_l61, lt_l120, le_l120, eq_l120, ll_t120, add_l120, lt_l121, le_l121, eq_l121, ll_t121, add_l121, lt_l122, le_l122, eq_l122, ll_t122, add_l122, lt_l576, le_l576, eq_l576, ll_t576, add_l576, lt_l600, le_l600, eq_l600, ll_t600, add_l600, lt_l1000, le_l1000, eq_l1000, ll_t1000, add_l1000]
      · rw [wr_fn hm]; exact p1 m hm
      · rw [wr_get]
        by_cases e : i' = i
        · rw [if_pos ⟨rfl, by rw [e]⟩]
        · rw [if_neg (by omega)]; exact p2 i' (by omega)
      · rw [wr_get, if_neg (by omega)]; exact p3 i' hi'
    · intro m τ ⟨p1, p2, p3⟩
      refine ⟨τ, ?_, p1, p2, p3⟩
      show f_R_make_L12 _ (m + 1) (nI 25) τ = _
      rw [f_R_make_L12.eq_2]
      have e1 : τ 82 1 = nI M := by rw [p1 82 (by omega)]; exact h1
      simp (disch := omega) only [wr_at, e1, nI_pred, and_self, and_true, true_and, and_false, false_and, cap_some, cal_some, cax_ok, cax_er, jn_eq, lt1_eq, sto_eq, ald_nI, ast_nI, gld_nI, fac_nI, lt_nI, le_nI, eq_nI, nI_1, nI_add, nI_mul, cell5, cell25, ce_m1, if_pos, if_neg, ↓reduceIte, if_true, if_false, lt_l0, le_l0, eq_l0, ll_t0, add_l0, lt_l1, le_l1, eq_l1, ll_t1, add_l1, lt_l2, le_l2, eq_l2, ll_t2, add_l2, lt_l3, le_l3, eq_l3, ll_t3, add_l3, lt_l4, le_l4, eq_l4, ll_t4, add_l4, lt_l5, le_l5, eq_l5, ll_t5, add_l5, lt_l6, le_l6, eq_l6, ll_t6, add_l6, lt_l10, le_l10, eq_l10, ll_t10, add_l10, lt_l12, le_l12, eq_l12, ll_t12, add_l12, lt_l25, le_l25, eq_l25, ll_t25, add_l25, lt_l40, le_l40, eq_l40, ll_t40, add_l40, lt_l41, le_l41, eq_l41, ll_t41, add_l41, lt_l42, le_l42, eq_l42, ll_t42, add_l42, lt_l61, le_l61, eq_l61, ll_t61, add_l61, lt_l120, le_l120, eq_l120, ll_t120, add_l120, lt_l121, le_l121, eq_l121, ll_t121, add_l121, lt_l122, le_l122, eq_l122, ll_t122, add_l122, lt_l576, le_l576, eq_l576, ll_t576, add_l576, lt_l600, le_l600, eq_l600, ll_t600, add_l600, lt_l1000, le_l1000, eq_l1000, ll_t1000, add_l1000]
  rw [h1, ast_nI (by omega) (by decide)]
  obtain ⟨τ, e, p1, p2, p3⟩ := A (wr σ 83 M (nI n)) (by rw [wr_fn (by omega)]; exact h1)
  refine ⟨wr τ 82 1 (nI (M + 1)), e, ⟨?_, fun j hj => ?_, fun j r c hj hr hc => ?_⟩, ⟨fun m hm => ?_, fun s hs => ?_⟩, ?_, fun i hi => ?_⟩
  · rw [wr_at]
  · rw [wr_fn (by omega), p1 83 (by omega), wr_get]
    unfold upN
    by_cases ej : j = M
    · rw [if_pos ⟨rfl, ej⟩, if_pos ej]
    · rw [if_neg (by omega), if_neg ej]; exact h2 j (by omega)
  · rw [wr_fn (by omega)]
    unfold upN at hr hc ⊢
    unfold upG
    by_cases ej : j = M
    · subst ej
      rw [if_pos rfl] at hr hc
      rw [if_pos rfl, if_pos rfl, Nat.add_assoc]
      exact p2 _ (ix25 hn5 hr hc)
    · rw [if_neg ej] at hr hc
      rw [if_neg ej, if_neg ej]
      have hb := ix25 (hN j (by omega)) hr hc
      rw [p3 _ (by omega), wr_fn (by omega)]
      exact h3 j r c (by omega) hr hc
  · rw [wr_fn (by omega), p1 m (by omega), wr_fn (by omega)]
  · rw [wr_get, if_neg (by omega), p1 82 (by omega), wr_fn (by omega)]
  · rw [wr_get, if_neg (by omega), p1 82 (by omega), wr_fn (by omega)]
  · rw [wr_fn (by omega)]; exact p2 i hi
theorem Wf_up (h : ∀ j, j < M → Wf (N j) (B j)) {n : Nat} {X : Nat → Nat → Nat} (hX : Wf n X) : ∀ j, j < M + 1 → Wf (upN N M n j) (upG B M X j) := by
  intro j hj
  unfold upN upG
  by_cases e : j = M
  · rw [if_pos e, if_pos e]; exact hX
  · rw [if_neg e, if_neg e]; exact h j (by omega)
theorem mw12 (h : MW σ M N B) : (σ 82 1 = 12) = (M = 12) := by
  have := h.le
  rw [h.2.1, show (12 : Int32) = nI 12 from rfl, eq_nI (by omega) (by omega)]
end WO
theorem ok_grid : Ok_grid Inv := by
  intro σ hI p0
  refine op_wr hI (Q := fun σ => f_Q_grid σ p0) (R := fun σ => f_R_grid σ p0) (fun M N B cw mt => ?_)
  have hM := cw.le
  cases hy : btw p0 2 (nI 5)
  · refine wr_err cw 2 1 (σ' := σ) ?_ (FrC.refl σ) (by decide) (fun σ1 mw => ⟨0, wr σ1 82 0 1, ?_, FrK.t, rfl⟩)
    · show f_Q_grid σ p0 = _
      unfold f_Q_grid
      rw [isFrom_ok, show (5 : Int32) = nI 5 from rfl, hy]
      rfl
    · show f_R_grid σ1 p0 = _
      unfold f_R_grid
      rw [rbtw, show (5 : Int32) = nI 5 from rfl, hy]
      rfl
  · obtain ⟨n, h1, h2, rfl⟩ := (btw_iff (a := 2) (by omega) (by omega)).mp hy
    have q0 : f_Q_grid σ (nI n) = cax (f_Q_newGrid σ (nI n)) fun r_7 σ_8 => some (.ok ((σ_8 0 8) - 1), σ_8) := by
      unfold f_Q_grid
      rw [isFrom_ok, show (5 : Int32) = nI 5 from rfl, hy]
      rfl
    have r0 : ∀ σ1 : St, MW σ1 M N B → f_R_grid σ1 (nI n) = if M = 12 then some (0, wr σ1 82 0 2) else cal (f_R_make (wr σ1 82 0 0) (nI n)) fun r_7 σ_8 => some (r_7, σ_8) := by
      intro σ1 mw
      unfold f_R_grid
      rw [rbtw, show (5 : Int32) = nI 5 from rfl, hy]
      simp only [cap_some, jn_eq, sto_eq, mw12 mw]
      rw [if_neg (by decide)]
      by_cases e : M = 12
      · rw [if_pos e, if_pos e, wr_at, if_neg (by decide)]
      · rw [if_neg e, if_neg e, wr_at, if_pos (by decide)]
    by_cases e : M = 12
    · refine wr_err cw 3 2 (σ' := σ) ?_ (FrC.refl σ) (by decide) (fun σ1 mw => ⟨0, wr σ1 82 0 2, ?_, FrK.t, rfl⟩)
      · show f_Q_grid σ (nI n) = _
        rw [q0, newGrid_no cw e, cax_er]
      · show f_R_grid σ1 (nI n) = _
        rw [r0 σ1 mw, if_pos e]
    · obtain ⟨σ', e1, c1, f1⟩ := newGrid_ok cw (by omega) h1 h2
      refine wr_ok (nI M) (σ' := σ') (M' := M + 1) (N' := upN N M n) (B' := upG B M B0) ?_ c1 (fun m a b c => f1 m b (by unfold gid; omega)) (fun σ1 mw => ?_)
      · show f_Q_grid σ (nI n) = _
        rw [q0, e1, cax_ok, c1.2.1, nI_pred]
      · obtain ⟨τ, e2, m1, m2, m3, _⟩ := (mw.k (FrK.t (v := 0))).mr.make (by omega) (fun j hj => (mw.n hj).2) h2
        refine ⟨τ, ?_, m1.mw (by omega) (Wf_up (fun j hj => mw.wf hj) (Wf0 h1 h2)), FrK.t.fw.trans m2, by rw [m3]; rfl⟩
        show f_R_grid σ1 (nI n) = _
        rw [r0 σ1 mw, if_neg e, e2]
        rfl
