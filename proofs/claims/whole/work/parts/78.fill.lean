/-! fill -/
theorem MR.rep {σ τ : St} {M : Nat} {N : Nat → Nat} {B : Nat → Bd} (h : MR σ M N B) (hN : ∀ j, j < M → N j ≤ 5) {j : Nat} {X : Bd} (h84 : ∀ r c, r < N j → c < N j → τ 84 (25 * j + N j * r + c) = ce (X r c)) (hot : ∀ x, (x < 25 * j ∨ 25 * j + 25 ≤ x) → τ 84 x = σ 84 x) (h1 : τ 82 1 = σ 82 1) (h2 : ∀ i, τ 83 i = σ 83 i) : MR τ M N (upG B j X) := by
  refine ⟨by rw [h1]; exact h.1, fun i hi => by rw [h2]; exact h.2.1 i hi, fun i r c hi hr hc => ?_⟩
  unfold upG
  by_cases e : i = j
  · subst e; rw [if_pos rfl]; exact h84 r c hr hc
  · rw [if_neg e]
    have hb := ix25 (hN i hi) hr hc
    rw [hot _ (by omega)]
    exact h.2.2 i r c hi hr hc
theorem Wf_rep {M : Nat} {N : Nat → Nat} {B : Nat → Bd} (h : ∀ j, j < M → Wf (N j) (B j)) {j : Nat} {X : Bd} (hX : Wf (N j) X) : ∀ i, i < M → Wf (N i) (upG B j X i) := by
  intro i hi
  unfold upG
  by_cases e : i = j
  · subst e; rw [if_pos rfl]; exact hX
  · rw [if_neg e]; exact h i hi
theorem fill78 {σ : St} {n j : Nat} {v1 v3 : Int32} (hv : v1 = nI j) (hj : j < 12) (hn : n ≤ 5) (h13 : σ 82 13 = nI n) (K : St → Option (Int32 × St)) : ∃ τ, f_R_fill_L78 v1 v3 K FU 0 σ = K τ ∧ (∀ i, i < n * n → τ 84 (25 * j + i) = σ 93 i) ∧ (∀ x, (x < 25 * j ∨ 25 * j + 25 ≤ x) → τ 84 x = σ 84 x) ∧ ∀ m, m ≠ 84 → τ m = σ m := by
  subst hv
  have h25 : n * n ≤ 25 := Nat.mul_le_mul hn hn
  refine loopE (fun m i (τ : St) => f_R_fill_L78 (nI j) v3 K m (nI i) τ) (n * n)
    (fun i τ => (∀ i', i' < i → τ 84 (25 * j + i') = σ 93 i') ∧ (∀ x, (x < 25 * j ∨ 25 * j + 25 ≤ x) → τ 84 x = σ 84 x) ∧ ∀ m, m ≠ 84 → τ m = σ m)
    (fun R => ∃ τ, R = K τ ∧ (∀ i, i < n * n → τ 84 (25 * j + i) = σ 93 i) ∧ (∀ x, (x < 25 * j ∨ 25 * j + 25 ≤ x) → τ 84 x = σ 84 x) ∧ ∀ m, m ≠ 84 → τ m = σ m) ?_ ?_ FU 0 _ (by omega) (FU_gt (by omega)) ⟨fun j hj => by omega, fun x _ => rfl, fun m hm => rfl⟩
  · intro m i τ hi ⟨p1, p2, p3⟩
    have e := p3 93 (by omega)
    have e2 : τ 82 13 = nI n := by rw [p3 82 (by omega)]; exact h13
    refine Or.inr ⟨wr τ 84 (25 * j + i) (σ 93 i), ?_, fun i' hi' => ?_, fun x hx => ?_, fun m' hm => ?_⟩
    · show f_R_fill_L78 (nI j) v3 K (m + 1) (nI i) τ = _
      rw [f_R_fill_L78.eq_2]
      rw [e2, nI_mul, if_pos (nI_lt hi (by omega)), ald_nI (by omega) (by decide), e, show (25 : Int32) = nI 25 from rfl, nI_mul, nI_add, ast_nI (by omega) (by decide), nI_1]
    · rw [wr_get]
      by_cases hji : i' = i
      · rw [if_pos ⟨rfl, by rw [hji]⟩, hji]
      · rw [if_neg (by omega)]; exact p1 i' (by omega)
    · rw [wr_get, if_neg (by omega)]; exact p2 x hx
    · rw [wr_fn hm]; exact p3 m' hm
  · intro m τ ⟨p1, p2, p3⟩
    have e2 : τ 82 13 = nI n := by rw [p3 82 (by omega)]; exact h13
    refine ⟨τ, ?_, p1, p2, p3⟩
    show f_R_fill_L78 (nI j) v3 K (m + 1) (nI (n * n)) τ = _
    rw [f_R_fill_L78.eq_2]
    rw [e2, nI_mul, if_neg (nI_nlt (Nat.le_refl _) (by omega))]
theorem ok_fill : Ok_fill Inv := by
  intro σ hI p0
  refine op_wr hI (Q := fun σ => f_Q_fill σ p0) (R := fun σ => f_R_fill σ p0) (fun M N B cw mt => ?_)
  have hM12 := cw.le
  rcases g_cases M cw.le p0 with ⟨j, hj, rfl⟩ | hx
  · have hG := cw.g hj
    have hn := hG.le
    have h25 : N j * N j ≤ 25 := Nat.mul_le_mul hn.2 hn.2
    obtain ⟨σ2, e2, g2, f2⟩ := copy_ok (k := 2) hG (by unfold gid; omega)
    obtain ⟨σ3, e3, g3, f3⟩ := squares_ok g2 (Nat.le_refl 1) (by omega)
    have hfr : FrC σ σ3 := fun m hm => by
      have h6 : m < 2 ∨ 5 < m := by unfold scr at hm; omega
      rw [f3 m (by omega), f2 m (by omega)]
    have cw3 := cw.fr hfr
    have q0 : f_Q_fill σ (nI j) = if nC (N j) (B j) = 0 then some (.error 3, σ3) else cap (f_Grid_emptyCells σ3 (gid j)) fun r_16 => cal (f_Filling_makeLowest σ3 2) fun r_18 σ_19 => cal (f_Grid_copy σ_19 (gid j) 2) fun r_21 σ_22 => some (.ok r_16, σ_22) := by
      unfold f_Q_fill
      rw [gridAt_in cw hj, cax_ok, e2, cal_some, show (1 : Int32) = nI 1 from rfl, e3, cal_some, jn_eq]
      by_cases h0 : nC (N j) (B j) = 0
      · rw [h0, if_neg (by decide), if_pos rfl]; rfl
      · rw [if_pos (by rw [Nat.min_eq_left (by omega)]), if_neg h0]; rfl
    have r0 : ∀ σ1 : St, MW σ1 M N B → ∃ τ, FrK σ1 τ ∧ τ 82 13 = nI (N j) ∧ (∀ X t, comps (N j) (B j) = X :: t → ∀ r c, r < N j → c < N j → τ 93 (N j * r + c) = ce (X r c)) ∧ f_R_fill σ1 (nI j) = if nC (N j) (B j) = 0 then some (0, wr τ 82 0 2) else f_R_fill_L78 (nI j) (nI (N j * N j) - nI (cnt (B j))) (fun σ => some (nI (N j * N j) - nI (cnt (B j)), σ)) FU 0 (wr τ 82 0 0) := by
      intro σ1 mw
      obtain ⟨τ, e, wk, f⟩ := copyW_ok (mw.k (FrK.t (v := 0))) hj
      obtain ⟨υ, e4, f4, h4⟩ := search_ok wk (mw.wf hj) (Nat.le_refl 1) (by omega)
      have hk : FrK σ1 υ := FrK.mk' (fun m s a1 a2 a3 a4 => by rw [f4 m s a1 a2 a3 (by omega), f m s (by omega) a1, wr_get, if_neg (by omega)])
      have h13 : υ 82 13 = nI (N j) := by rw [f4 82 13 (by omega) (by omega) (by omega) (by omega)]; exact wk.side
      refine ⟨υ, hk, h13, h4, ?_⟩
      unfold f_R_fill
      rw [rgrid_in mw hj]
      simp only [cap_some, jn_eq, sto_eq, lt1_eq]
      rw [if_neg (by decide), wr_at, if_pos (by decide), e, cal_some, show f_R_search τ 1 = _ from e4, cal_some]
      by_cases h0 : nC (N j) (B j) = 0
      · rw [if_pos h0, h0, if_pos (by rfl), wr_at, if_neg (by decide)]
      · rw [if_neg h0, Nat.min_eq_left (by omega), if_neg (by decide), wr_at, if_pos (by decide), filled_ok ((mw.k hk).k FrK.t) hj, cap_some, wr_get, if_neg (by omega), h13, nI_mul]
    by_cases h0 : nC (N j) (B j) = 0
    · refine wr_err cw 3 2 (σ' := σ3) ?_ hfr (by decide) (fun σ1 mw => ?_)
      · show f_Q_fill σ (nI j) = _
        rw [q0, if_pos h0]
      · obtain ⟨τ, k, _, _, e⟩ := r0 σ1 mw
        refine ⟨0, wr τ 82 0 2, ?_, k.trans FrK.t, rfl⟩
        show f_R_fill σ1 (nI j) = _
        rw [e, if_pos h0]
    · obtain ⟨X, t, ht⟩ : ∃ X t, comps (N j) (B j) = X :: t := by
        cases h : comps (N j) (B j) with
        | nil => exact absurd (by unfold nC; rw [h]; rfl) h0
        | cons X t => exact ⟨X, t, rfl⟩
      have hX := ((mem_comps hG.1).mp (by rw [ht]; exact List.mem_cons_self ..)).1
      obtain ⟨σ4, e4, g4, f4⟩ := makeLowest_ok g3 ht
      obtain ⟨σ5, e5, g5, f5⟩ := copy_ok (k := gid j) g4 (by unfold gid; omega)
      have hG3 := cw3.g hj
      refine wr_ok (nI (N j * N j) - nI (cnt (B j))) (σ' := σ5) (M' := M) (N' := N) (B' := upG B j X) ?_ (cw3.up hj g5 ?_ (fun m a b c => ?_)) (fun m a b c => ?_) (fun σ1 mw => ?_)
      · show f_Q_fill σ (nI j) = _
        rw [q0, if_neg h0, empt_ok hG3, cap_some, e4, cal_some, e5, cal_some]
      · rw [f5 0 (by unfold gid; omega), f4 0 (by omega)]
      · rw [f5 m c, f4 m (by omega)]
      · rw [f5 m (by unfold gid; omega), f4 m (by unfold scr at a; omega), hfr m a]
      · obtain ⟨τ, k, h13, hf, e⟩ := r0 σ1 mw
        obtain ⟨υ, t1, t2, t3, t4⟩ := fill78 (σ := wr τ 82 0 0) (v1 := nI j) (v3 := nI (N j * N j) - nI (cnt (B j))) rfl (show j < 12 by omega) hn.2 (by rw [wr_get, if_neg (by omega)]; exact h13) (fun σ => some (nI (N j * N j) - nI (cnt (B j)), σ))
        have k2 : FrK σ1 (wr τ 82 0 0) := k.trans FrK.t
        refine ⟨υ, ?_, ((mw.k k2).mr.rep (fun i hi => (mw.n hi).2) (j := j) (X := X) (fun r c hr hc => ?_) t3 (by rw [t4 82 (by omega)]) (fun i => by rw [t4 83 (by omega)])).mw mw.le (Wf_rep (fun i hi => mw.wf hi) hX.1), ⟨fun m hm => ?_, fun s hs => ?_⟩, ?_⟩
        · show f_R_fill σ1 (nI j) = _
          rw [e, if_neg h0, t1]
        · have hb : N j * r + c < N j * N j := by
            have h1 : N j * (r + 1) ≤ N j * N j := Nat.mul_le_mul_left _ hr
            rw [Nat.mul_succ] at h1; omega
          rw [Nat.add_assoc, t2 _ hb, wr_fn (by omega)]
          exact hf X t ht r c hr hc
        · rw [t4 m (by omega)]; exact k2.fw.1 m hm
        · rw [t4 82 (by omega)]; exact k2.fw.2 s hs
        · rw [t4 82 (by omega), wr_at]
  · refine wr_err cw 1 1 (σ' := σ) ?_ (FrC.refl σ) (by decide) (fun σ1 mw => ⟨0, wr σ1 82 0 1, ?_, FrK.t, rfl⟩)
    · show f_Q_fill σ _ = _
      unfold f_Q_fill
      rw [gridAt_out cw hx, cax_er]
    · show f_R_fill σ1 _ = _
      unfold f_R_fill
      rw [rgrid_out mw hx]
      rfl
