/-! put -/
theorem ce_cases {n : Nat} (hn : n ≤ 5) (x : Int32) : btw x (-1) (nI n - 1) = true ↔ ∃ v, v ≤ n ∧ x = ce v := by
  have e : nI n - 1 = ce n := rfl
  constructor
  · intro h
    unfold btw at h
    rw [Bool.and_eq_true, decide_eq_true_iff, decide_eq_true_iff] at h
    by_cases h0 : x < 0
    · have h1 : x = -1 := by
        apply Int32.toInt_inj.mp
        have a := Int32.not_lt.mp h.1
        rw [Int32.le_iff_toInt_le] at a
        rw [Int32.lt_iff_toInt_lt] at h0
        have b : (-1 : Int32).toInt = -1 := by decide
        have c : (0 : Int32).toInt = 0 := by decide
        omega
      exact ⟨0, by omega, h1⟩
    · obtain ⟨s, hs, rfl⟩ := nI_of h0
      refine ⟨s + 1, ?_, (ce_s s).symm⟩
      cases n with
      | zero =>
        exfalso
        rw [e, ce_0] at h
        exact nI_pos (n := s) (by omega) (Int32.lt_of_le_of_lt h.2 (by decide))
      | succ n =>
        rw [nI_pred, le_nI hs (by omega)] at h
        omega
  · rintro ⟨v, hv, rfl⟩
    unfold btw
    rw [Bool.and_eq_true, decide_eq_true_iff, decide_eq_true_iff]
    cases v with
    | zero =>
      refine ⟨by decide, ?_⟩
      rw [e]
      cases n with
      | zero => decide
      | succ n => rw [ce_s, ce_0]; exact Int32.le_trans (by decide : (-1 : Int32) ≤ 0) (nI_pos' (by omega))
    | succ v =>
      rw [ce_s]
      refine ⟨fun h => nI_pos (n := v) (by omega) (Int32.lt_trans h (by decide)), ?_⟩
      cases n with
      | zero => omega
      | succ n => rw [nI_pred]; exact nI_le (by omega) (by omega)
theorem idx_inj {n r c r' c' : Nat} (hc : c < n) (hc' : c' < n) (h : n * r + c = n * r' + c') : r = r' ∧ c = c' := by
  have h1 := congrArg (· / n) h
  simp only [Nat.mul_add_div (show n > 0 by omega), Nat.div_eq_of_lt hc, Nat.div_eq_of_lt hc', Nat.add_zero] at h1
  subst h1
  exact ⟨rfl, by omega⟩
section PU
variable {σ : St} {M : Nat} {N : Nat → Nat} {B : Nat → Nat → Nat → Nat}
theorem MR.set (h : MR σ M N B) (hN : ∀ j, j < M → N j ≤ 5) {j r c : Nat} (hj : j < M) (hr : r < N j) (hc : c < N j) (v : Nat) : MR (wr σ 84 (25 * j + N j * r + c) (ce v)) M N (upG B j (upB (B j) r c v)) := by
  obtain ⟨h1, h2, h3⟩ := h
  refine ⟨by rw [wr_fn (by omega)]; exact h1, fun i hi => by rw [wr_fn (by omega)]; exact h2 i hi, fun i r' c' hi hr' hc' => ?_⟩
  have b1 := ix25 (hN i hi) hr' hc'
  have b2 := ix25 (hN j hj) hr hc
  rw [wr_get]
  unfold upG
  by_cases e : i = j
  · subst e
    rw [if_pos rfl]
    by_cases e2 : r' = r ∧ c' = c
    · rw [if_pos (by rw [e2.1, e2.2]; exact ⟨rfl, rfl⟩), e2.1, e2.2, upB_at]
    · rw [if_neg, upB_ne e2]
      · exact h3 i r' c' hi hr' hc'
      · intro h
        exact e2 (idx_inj hc' hc (by omega))
  · rw [if_neg e, if_neg (by omega)]
    exact h3 i r' c' hi hr' hc'
theorem upG_upG {j : Nat} {X Y : Nat → Nat → Nat} : upG (upG B j X) j Y = upG B j Y := by
  funext i; unfold upG; split <;> rfl
theorem upG_self {j : Nat} : upG B j (B j) = B := by
  funext i; unfold upG; split
  · rename_i h; rw [h]
  · rfl
theorem upG_at {j : Nat} {X : Nat → Nat → Nat} : upG B j X j = X := by unfold upG; rw [if_pos rfl]
def clash (n : Nat) (B : Nat → Nat → Nat) (r c v i : Nat) : Prop := (i ≠ c ∧ B r i = v) ∨ (i ≠ r ∧ B i c = v)
theorem rput68 (h : MW σ M N B) {j r c v : Nat} (hj : j < M) (hr : r < N j) (hc : c < N j) (hv : v ≤ N j) (K : Int32 → Option (Int32 × St)) :
    f_R_put_L68 (nI j) (nI r) (nI c) (ce v) σ K FU 0 0 = K (bI (dB (∃ i, i < N j ∧ clash (N j) (B j) r c v i))) := by
  have hM := h.le; have hn := h.n hj; have ho := h.od hj
  have A := loop_flag (fun m i b => f_R_put_L68 (nI j) (nI r) (nI c) (ce v) σ K m (bI (!b)) (nI i)) (N j) (fun i => ¬ clash (N j) (B j) r c v i) (fun b => K (bI (!b))) (by omega) true ?_ ?_
  · refine A.trans ?_
    rw [Bool.true_and]
    congr 2
    rw [← dB_not]
    apply dB_cong
    constructor
    · intro h
      apply Classical.byContradiction
      intro h2
      exact h (fun i hi hc => h2 ⟨i, hi, hc⟩)
    · rintro ⟨i, hi, hc⟩ h
      exact h i hi hc
  · intro m i b hi
    show f_R_put_L68 (nI j) (nI r) (nI c) (ce v) σ K (m + 1) (bI (!b)) (nI i) = _
    rw [f_R_put_L68.eq_2]
    have b1 := (h.wf hj).bd r i
    have b2 := (h.wf hj).bd i c
    rw [ald_nI (by omega) (by decide), ho, if_pos (nI_lt hi (by omega)), at_ok h hj hr hi, at_ok h hj hi hc]
    simp only [cap_some, jn_eq, nI_1]
    simp (disch := omega) only [eq_nI, ce_inj]
    rw [dB_not, clash]
    cases b
    · rw [if_neg (by decide)]; rfl
    · rw [if_pos (by rfl)]
      by_cases e1 : i = c
      · rw [if_pos e1]
        by_cases e2 : i = r
        · rw [if_pos e2, dB_f (by rintro (h | h) <;> omega)]; rfl
        · rw [if_neg e2]
          by_cases e3 : B j i c = v
          · rw [if_pos e3, dB_t (Or.inr ⟨e2, e3⟩)]; rfl
          · rw [if_neg e3, dB_f (by rintro (h | h) <;> omega)]; rfl
      · rw [if_neg e1]
        by_cases e4 : B j r i = v
        · rw [if_pos e4, dB_t (Or.inl ⟨e1, e4⟩)]; rfl
        · rw [if_neg e4]
          by_cases e2 : i = r
          · rw [if_pos e2, dB_f (by rintro (h | h) <;> omega)]; rfl
          · rw [if_neg e2]
            by_cases e3 : B j i c = v
            · rw [if_pos e3, dB_t (Or.inr ⟨e2, e3⟩)]; rfl
            · rw [if_neg e3, dB_f (by rintro (h | h) <;> omega)]; rfl
  · intro m b
    show f_R_put_L68 (nI j) (nI r) (nI c) (ce v) σ K (m + 1) (bI (!b)) (nI (N j)) = _
    rw [f_R_put_L68.eq_2]
    rw [ald_nI (by omega) (by decide), ho, if_neg (nI_nlt (Nat.le_refl _) (by omega))]
theorem hasInLines_ok {k n : Nat} {B : Nat → Nat → Nat} (h : GOK σ k n B) {r c s : Nat} (hr : r < n) (hc : c < n) (hs : s < 5) : f_Grid_hasInLines σ k (nI r) (nI c) (nI s) = some (bI (rowHas B r s || colHas B c s)) := by
  have hn := h.le
  unfold f_Grid_hasInLines
  rw [has_in h hr hc]
  simp only [cap_some, jn_eq]
  rw [if_neg (by decide), ald_nI (by omega) (by decide), ald_nI (by omega) (by decide), h.row (by omega), h.col (by omega), sI_or, isIn_sI _ hs]
  simp only [cap_some]
  cases rowHas B r s <;> cases colHas B c s <;> rfl
theorem hasInLines_m {k n : Nat} {B : Nat → Nat → Nat} (h : GOK σ k n B) {r c : Nat} (hr : r < n) (hc : c < n) : f_Grid_hasInLines σ k (nI r) (nI c) (-1) = some 0 := by
  have hn := h.le
  unfold f_Grid_hasInLines
  rw [has_in h hr hc]
  simp only [cap_some, jn_eq]
  rw [if_neg (by decide), ald_nI (by omega) (by decide), ald_nI (by omega) (by decide)]
  rfl
/-- the class writes one cell of the grid j -/
theorem CW.cell (h : CW σ M N B) {j r c v : Nat} (hj : j < M) (hr : r < N j) (hc : c < N j) (hv : v ≤ N j) (hw : Wf (N j) (upB (B j) r c v)) : ∃ σ', f_Grid_set σ (gid j) (nI r) (nI c) (ce v) = some ((), σ') ∧ CW σ' M N (upG B j (upB (B j) r c v)) ∧ ∀ m, m < gid j ∨ gid j + 3 < m → σ' m = σ m := by
  have hG := h.g hj
  refine ⟨_, set_eq hG hr hc hv, h.up hj (set_GOK hG hr hc hv hw) ?_ (fun m _ _ hm => setSt_fr hm), fun m hm => setSt_fr hm⟩
  rw [setSt_fr (by unfold gid; omega)]
end PU
theorem Wf.putv {n : Nat} {B : Nat → Nat → Nat} (h : Wf n B) {r c v : Nat} (hr : r < n) (hc : c < n) (hv : v ≤ n) (hcl : v ≠ 0 → ∀ i, i < n → ¬ clash n B r c v i) : Wf n (upB B r c v) := by
  cases v with
  | zero => exact h.put0 r c
  | succ s =>
    have hcl := hcl (by omega)
    refine h.put hr hc (by omega) (fun c' hc' e => ?_) (fun r' hr' e => ?_)
    · exact hcl c' (h.2.2.1 r c' (by omega)).2.1 (Or.inl ⟨hc', e⟩)
    · exact hcl r' (h.2.2.1 r' c (by omega)).1 (Or.inr ⟨hr', e⟩)
theorem ok_put : Ok_put Inv := by
  intro σ hI p0 p1 p2 p3
  refine op_wr hI (Q := fun σ => f_Q_put σ p0 p1 p2 p3) (R := fun σ => f_R_put σ p0 p1 p2 p3) (fun M N B cw mt => ?_)
  have hM12 := cw.le
  rcases g_cases M cw.le p0 with ⟨j, hj, rfl⟩ | hx
  · have hG := cw.g hj
    have hn := hG.le
    rcases cell_cases (N j) hG.le.2 p1 p2 with ⟨r, c, hr, hc, rfl, rfl⟩ | hx
    · have hb := hG.1.bd r c
      have q0 : f_Q_put σ (nI j) (nI r) (nI c) p3 = cax (f_Q_needArgument σ (bI (btw p3 (-1) (nI (N j) - 1)))) fun r_10 σ_11 => jn (fun (σ_15 : St) => some (.ok (ce (B j r c)), σ_15)) fun j75_14 => if p3 = ce (B j r c) then j75_14 σ_11 else cap (f_Grid_hasInLines σ_11 (gid j) (nI r) (nI c) p3) fun r_17 => jn (fun (s_19 : Int32) => cax (f_Q_needState σ_11 s_19) fun r_21 σ_22 => cal (f_Grid_set σ_22 (gid j) (nI r) (nI c) p3) fun r_24 σ_25 => j75_14 σ_25) fun j63_18 => if r_17 = 0 then j63_18 1 else j63_18 0 := by
        unfold f_Q_put
        rw [gridAt_in cw hj, cax_ok, needCell_in hG hr hc, cax_ok, hG.ord, isFrom_ok, cap_some]
        cases btw p3 (-1) (nI (N j) - 1)
        · rfl
        · rw [nar true, if_pos rfl, cax_ok, cax_ok, sign_in hG hr hc, cap_some]
      have r0 : ∀ σ1 : St, MW σ1 M N B → ∃ τ, FrK σ1 τ ∧ (τ 82 0 = if btw p3 (-1) (nI (N j) - 1) = true then 0 else 2) ∧ f_R_put σ1 (nI j) (nI r) (nI c) p3 = if btw p3 (-1) (nI (N j) - 1) = true then
          f_R_put_L68 (nI j) (nI r) (nI c) p3 τ (fun (v5_18 : Int32) => jn (fun (s_20 : Int32) => sto τ 82 0 s_20 fun σ_21 => if (σ_21 82 0) ≤ 0 then ald σ_21 83 12 (nI j) fun r_22 => lt1 (((25 * (nI j)) + (r_22 * (nI r))) + (nI c)) fun v6_23 => ald σ_21 84 300 v6_23 fun r_24 => ast σ_21 84 300 v6_23 p3 fun σ_25 => some (r_24, σ_25) else some (0, σ_21)) fun j152_19 => jn (j152_19 0) fun j151_26 => if v5_18 = 0 then j151_26 else if p3 = (-1) then j151_26 else j152_19 3) FU 0 0
          else some (0, τ) := by
        intro σ1 mw
        have hM := mw.le
        unfold f_R_put
        rw [rcell_in mw hj hr hc, cap_some, jn_eq, if_neg (show ¬ ((1 : Int32) = 0) by decide)]
        simp only [sto_eq]
        rw [jn_eq, wr_at, if_pos rfl, ald_nI (by omega) (by decide), wr_fn (by omega), mw.od hj, rbtw, cap_some, jn_eq]
        cases btw p3 (-1) (nI (N j) - 1)
        · exact ⟨wr (wr σ1 82 0 0) 82 0 2, FrK.t.trans FrK.t, rfl, rfl⟩
        · exact ⟨wr (wr σ1 82 0 0) 82 0 0, FrK.t.trans FrK.t, rfl, rfl⟩
      cases hy : btw p3 (-1) (nI (N j) - 1)
      · refine wr_err cw 2 2 (σ' := σ) ?_ (FrC.refl σ) (by decide) (fun σ1 mw => ?_)
        · show f_Q_put σ _ _ _ _ = _
          rw [q0, hy]
          rfl
        · obtain ⟨τ, k, h0, e⟩ := r0 σ1 mw
          rw [hy] at h0 e
          exact ⟨0, τ, e, k, h0⟩
      · obtain ⟨v, hv, rfl⟩ := (ce_cases hn.2 p3).mp hy
        have key : ∀ b : Bool, dB (v ≠ 0 ∧ ∃ i, i < N j ∧ clash (N j) (B j) r c v i) = b → True := fun _ _ => trivial
        have r1 : ∀ σ1 : St, MW σ1 M N B → ∃ τ, FrK σ1 τ ∧ τ 82 0 = (if dB (v ≠ 0 ∧ ∃ i, i < N j ∧ clash (N j) (B j) r c v i) = true then 3 else 0) ∧ f_R_put σ1 (nI j) (nI r) (nI c) (ce v) = if dB (v ≠ 0 ∧ ∃ i, i < N j ∧ clash (N j) (B j) r c v i) = true then some (0, τ) else some (ce (B j r c), wr τ 84 (25 * j + N j * r + c) (ce v)) := by
          intro σ1 mw
          obtain ⟨τ, k, h0, e⟩ := r0 σ1 mw
          rw [hy] at h0 e
          have hM := mw.le
          have hi := ix25 hn.2 hr hc
          have mw2 := mw.k k
          rw [e, if_pos rfl, rput68 mw2 hj hr hc hv, dB_and]
          simp (disch := omega) only [jn_eq, sto_eq, ce_m1]
          have key2 : ∀ s : Int32, s ≤ 0 → (if wr τ 82 0 s 82 0 ≤ 0 then ald (wr τ 82 0 s) 83 12 (nI j) fun r_22 => lt1 (((25 * (nI j)) + (r_22 * (nI r))) + (nI c)) fun v6_23 => ald (wr τ 82 0 s) 84 300 v6_23 fun r_24 => ast (wr τ 82 0 s) 84 300 v6_23 (ce v) fun σ_25 => some (r_24, σ_25) else some (0, wr τ 82 0 s)) = some (ce (B j r c), wr (wr τ 82 0 s) 84 (25 * j + N j * r + c) (ce v)) := by
            intro s hs
            rw [wr_at, if_pos hs, ald_nI (by omega) (by decide), wr_fn (by omega), mw2.od hj, lt1_eq, c25, ald_nI (by omega) (by decide), ast_nI (by omega) (by decide), wr_fn (by omega), mw2.ce hj hr hc]
          rw [dB_not]
          by_cases e1 : v = 0
          · refine ⟨wr τ 82 0 0, k.trans FrK.t, ?_, ?_⟩
            · rw [dB_t e1]; rfl
            · rw [dB_t e1, if_pos e1, ite_self, key2 0 (by decide)]; rfl
          · rw [dB_f e1, if_neg e1]
            cases dB (∃ i, i < N j ∧ clash (N j) (B j) r c v i)
            · refine ⟨wr τ 82 0 0, k.trans FrK.t, rfl, ?_⟩
              rw [if_pos (by rfl), key2 0 (by decide)]; rfl
            · exact ⟨wr τ 82 0 3, k.trans FrK.t, rfl, rfl⟩
        cases hd : dB (v ≠ 0 ∧ ∃ i, i < N j ∧ clash (N j) (B j) r c v i)
        · have hnc := dB_fi.mp hd
          have hw : Wf (N j) (upB (B j) r c v) := hG.1.putv hr hc hv (fun h0 i hi hcl => hnc ⟨h0, i, hi, hcl⟩)
          have mwr : ∀ σ1 : St, MW σ1 M N B → ∃ τ, f_R_put σ1 (nI j) (nI r) (nI c) (ce v) = some (ce (B j r c), τ) ∧ MW τ M N (upG B j (upB (B j) r c v)) ∧ FrW σ1 τ ∧ τ 82 0 = 0 := by
            intro σ1 mw
            obtain ⟨τ, k, h0, e⟩ := r1 σ1 mw
            rw [hd] at h0 e
            refine ⟨_, e, ((mw.k k).mr.set (fun i hi => (mw.n hi).2) hj hr hc v).mw mw.le (fun i hi => ?_), k.fw.trans ((FrW.refl τ).w (by omega) (by omega)), ?_⟩
            · unfold upG
              by_cases e2 : i = j
              · rw [if_pos e2, e2]; exact hw
              · rw [if_neg e2]; exact mw.wf hi
            · rw [wr_fn (by omega)]; exact h0
          by_cases e : v = B j r c
          · refine wr_ok (ce (B j r c)) (σ' := σ) (M' := M) (N' := N) (B' := upG B j (upB (B j) r c v)) ?_ ?_ (FrG.refl σ) mwr
            · show f_Q_put σ _ _ _ _ = _
              rw [q0, hy, nar true, if_pos rfl, cax_ok, jn_eq, if_pos (by rw [e])]
            · rw [e, upB_self, upG_self]; exact cw
          · obtain ⟨σ', e1, c1, f1⟩ := cw.cell hj hr hc hv hw
            refine wr_ok (ce (B j r c)) (σ' := σ') (M' := M) (N' := N) (B' := upG B j (upB (B j) r c v)) ?_ c1 (fun m a b c => f1 m (by unfold gid; omega)) mwr
            show f_Q_put σ _ _ _ _ = _
            rw [q0, hy, nar true, if_pos rfl, cax_ok, jn_eq, if_neg (by rw [ce_inj (by omega) (by omega)]; exact e)]
            have hl : f_Grid_hasInLines σ (gid j) (nI r) (nI c) (ce v) = some 0 := by
              cases v with
              | zero => exact hasInLines_m hG hr hc
              | succ s =>
                rw [ce_s, hasInLines_ok hG hr hc (by omega)]
                have h1 : rowHas (B j) r s = false := by
                  apply Bool.eq_false_iff.mpr
                  intro h; obtain ⟨c', hc', he⟩ := rowHas_iff.mp h
                  exact hnc ⟨by omega, c', (hG.1.2.2.1 r c' (by omega)).2.1, Or.inl ⟨fun h => e (by rw [← he, h]), he⟩⟩
                have h2 : colHas (B j) c s = false := by
                  apply Bool.eq_false_iff.mpr
                  intro h; obtain ⟨r', hr', he⟩ := colHas_iff.mp h
                  exact hnc ⟨by omega, r', (hG.1.2.2.1 r' c (by omega)).1, Or.inr ⟨fun h => e (by rw [← he, h]), he⟩⟩
                rw [h1, h2]; rfl
            rw [hl]
            simp only [cap_some, jn_eq]
            rw [if_pos trivial, nst1, cax_ok, e1]
            rfl
        · obtain ⟨h0, i, hi, hcl⟩ := dB_iff.mp hd
          refine wr_err cw 3 3 (σ' := σ) ?_ (FrC.refl σ) (by decide) (fun σ1 mw => ?_)
          · show f_Q_put σ _ _ _ _ = _
            obtain ⟨s, rfl⟩ : ∃ s, v = s + 1 := ⟨v - 1, by omega⟩
            have hne : ¬ (s + 1 = B j r c) := by
              intro e
              rcases hcl with ⟨h1, h2⟩ | ⟨h1, h2⟩
              · exact h1 (hG.1.2.2.2.1 r i c (by omega) (by omega))
              · exact h1 (hG.1.2.2.2.2 i r c (by omega) (by omega))
            rw [q0, hy, nar true, if_pos rfl, cax_ok, jn_eq, if_neg (by rw [ce_inj (by omega) (by omega)]; exact hne), ce_s, hasInLines_ok hG hr hc (by omega)]
            have : (rowHas (B j) r s || colHas (B j) c s) = true := by
              rw [Bool.or_eq_true, rowHas_iff, colHas_iff]
              rcases hcl with ⟨h1, h2⟩ | ⟨h1, h2⟩
              · exact Or.inl ⟨i, by omega, h2⟩
              · exact Or.inr ⟨i, by omega, h2⟩
            rw [this]
            rfl
          · obtain ⟨τ, k, h0, e⟩ := r1 σ1 mw
            rw [hd] at h0 e
            exact ⟨0, τ, e, k, h0⟩
    · refine wr_err cw 1 1 (σ' := σ) ?_ (FrC.refl σ) (by decide) (fun σ1 mw => ⟨0, wr σ1 82 0 1, ?_, FrK.t, rfl⟩)
      · show f_Q_put σ _ _ _ _ = _
        unfold f_Q_put
        rw [gridAt_in cw hj, cax_ok, needCell_out hG hx, cax_er]
      · show f_R_put σ1 _ _ _ _ = _
        unfold f_R_put
        rw [rcell_out mw hj hx]
        rfl
  · refine wr_err cw 1 1 (σ' := σ) ?_ (FrC.refl σ) (by decide) (fun σ1 mw => ⟨0, wr σ1 82 0 1, ?_, FrK.t, rfl⟩)
    · show f_Q_put σ _ _ _ _ = _
      unfold f_Q_put
      rw [gridAt_out cw hx, cax_er]
    · show f_R_put σ1 _ _ _ _ = _
      unfold f_R_put
      rw [rcell_g mw hx]
      rfl
