/-! a SIGN put or taken away -/
def p_P (v6 v9 r_32 r_35 v13_36 : Int32) (σ : St) (j747_39 : Int32 → St → Option Int32) (s_162 : Int32) : Option Int32 := f_L_law_L276 v6 v9 r_32 r_35 v13_36 s_162 σ (fun (v15_170 : Int32) => jn (fun (s_172 : Int32) => cal (f_L_act σ 0 0 r_32 r_35 s_162) fun r_174 σ_175 =>
          jn (fun (s_177 : Int32) => jn (fun (s_179 : Int32) => jn (fun (s_181 : Int32) => ast σ_175 82 25 v13_36 s_181 fun σ_182 =>
          j747_39 s_179 σ_182) fun j416_180 =>
          if s_172 = 0 then
            ald σ_175 82 25 v13_36 fun r_183 =>
            j416_180 r_183
          else
            j416_180 s_162) fun j397_178 =>
          if r_174 = s_177 then
            j397_178 1
          else
            j397_178 0) fun j389_176 =>
          if s_172 = 0 then
            j389_176 (-1003)
          else
            ald σ_175 82 25 v13_36 fun r_184 =>
            j389_176 r_184) fun j360_171 =>
          jn (j360_171 1) fun j355_185 =>
          if s_162 < 0 then
            j355_185
          else
            if v15_170 = 0 then
              j355_185
            else
              j360_171 0) FU 0 0
section LP9
variable {σ : St} {n : Nat} {B B1 : Bd}
theorem pl_276 (hw : Wf n B) (hA : Arr σ 82 n B) {r c v : Nat} (hr : r < n) (hc : c < n) (hv : v ≤ n) (v9 v13 : Int32) (K : Int32 → Option Int32) :
    f_L_law_L276 (nI n) v9 (nI r) (nI c) v13 (ce v) σ K FU 0 0 = K (bI (dB (∃ i, i < n ∧ clash n B r c v i))) := by
  have hn1 := hw.1
  have hn2 := hw.2.1
  have A := loop_flag (fun m i b => f_L_law_L276 (nI n) v9 (nI r) (nI c) v13 (ce v) σ K m (bI (!b)) (nI i)) n (fun i => ¬ clash n B r c v i) (fun b => K (bI (!b))) (by omega) true ?_ ?_
  · refine A.trans ?_
    rw [Bool.true_and]
    congr 2
    cases h : dB (∀ i, i < n → ¬ clash n B r c v i)
    · refine (dB_t (Classical.byContradiction fun h2 => ?_)).symm
      exact dB_fi.mp h (fun i hi hc => h2 ⟨i, hi, hc⟩)
    · exact (dB_f (fun ⟨i, hi, hc⟩ => dB_iff.mp h i hi hc)).symm
  · intro m i b hi
    show f_L_law_L276 (nI n) v9 (nI r) (nI c) v13 (ce v) σ K (m + 1) (bI (!b)) (nI i) = f_L_law_L276 (nI n) v9 (nI r) (nI c) v13 (ce v) σ K m (bI (!(b && dB (¬ clash n B r c v i)))) (nI (i + 1))
    rw [f_L_law_L276.eq_2]
    have b1 := ix25 hn2 hr hi
    have b2 := ix25 hn2 hi hc
    have x1 := hw.bd r i
    have x2 := hw.bd i c
    have y1 := hA r i hr hi
    have y2 := hA i c hi hc
    rw [if_pos (nI_lt hi (by omega)), nI_mul, nI_add, nI_mul, nI_add, nI_1]
    simp (disch := omega) only [ald_nI, y1, y2, eq_nI, ce_inj, jn_eq]
    have D : ∀ p : Prop, (p → clash n B r c v i) → (clash n B r c v i → p) → dB (¬ clash n B r c v i) = dB (¬ p) := fun p h1 h2 => dB_cong ⟨fun h hp => h (h1 hp), fun h hc => h (h2 hc)⟩
    cases b
    · rw [if_neg (by decide)]; rfl
    · rw [if_pos (by rfl)]
      by_cases e1 : i = c
      · rw [if_pos e1]
        by_cases e2 : i = r
        · rw [if_pos e2, dB_t (show ¬ clash n B r c v i by rintro (h | h) <;> omega)]; rfl
        · rw [if_neg e2]
          by_cases e3 : B i c = v
          · rw [if_pos e3, dB_f (show ¬ ¬ clash n B r c v i from fun h => h (Or.inr ⟨e2, e3⟩))]; rfl
          · rw [if_neg e3, dB_t (show ¬ clash n B r c v i by rintro (h | h) <;> omega)]; rfl
      · rw [if_neg e1]
        by_cases e4 : B r i = v
        · rw [if_pos e4, dB_f (show ¬ ¬ clash n B r c v i from fun h => h (Or.inl ⟨e1, e4⟩))]; rfl
        · rw [if_neg e4]
          by_cases e2 : i = r
          · rw [if_pos e2, dB_t (show ¬ clash n B r c v i by rintro (h | h) <;> omega)]; rfl
          · rw [if_neg e2]
            by_cases e3 : B i c = v
            · rw [if_pos e3, dB_f (show ¬ ¬ clash n B r c v i from fun h => h (Or.inr ⟨e2, e3⟩))]; rfl
            · rw [if_neg e3, dB_t (show ¬ clash n B r c v i by rintro (h | h) <;> omega)]; rfl
  · intro m b
    show f_L_law_L276 (nI n) v9 (nI r) (nI c) v13 (ce v) σ K (m + 1) (bI (!b)) (nI n) = _
    rw [f_L_law_L276.eq_2]
    rw [if_neg (nI_nlt (Nat.le_refl _) (by omega))]
theorem Bs_up {X : Bd} : upG (Bs B B1) 0 X = Bs X B1 := by
  funext j
  unfold upG Bs
  split <;> rfl
theorem lq_put (h : LW σ n B B1) {r c v : Nat} (hr : r < n) (hc : c < n) (hv : v ≤ n) :
    (dB (v ≠ 0 ∧ ∃ i, i < n ∧ clash n B r c v i) = false → ∃ τ, f_Q_put σ 0 (nI r) (nI c) (ce v) = some (.ok (ce (B r c)), τ) ∧ LW τ n (upB B r c v) B1 ∧ ∀ m, 82 ≤ m → τ m = σ m) ∧
      (dB (v ≠ 0 ∧ ∃ i, i < n ∧ clash n B r c v i) = true → f_Q_put σ 0 (nI r) (nI c) (ce v) = some (.error 3, σ)) := by
  have hG := h.g0
  have hw := hG.1
  have hn1 := hw.1
  have hn2 := hw.2.1
  have hb := hw.bd r c
  have hy : btw (ce v) (-1) (nI n - 1) = true := (ce_cases hn2 (ce v)).mpr ⟨v, hv, rfl⟩
  have q0 : f_Q_put σ 0 (nI r) (nI c) (ce v) = jn (fun (σ_15 : St) => some (.ok (ce (B r c)), σ_15)) fun j75_14 => if ce v = ce (B r c) then j75_14 σ else cap (f_Grid_hasInLines σ 34 (nI r) (nI c) (ce v)) fun r_17 => jn (fun (s_19 : Int32) => cax (f_Q_needState σ s_19) fun r_21 σ_22 => cal (f_Grid_set σ_22 34 (nI r) (nI c) (ce v)) fun r_24 σ_25 => j75_14 σ_25) fun j63_18 => if r_17 = 0 then j63_18 1 else j63_18 0 := by
    unfold f_Q_put
    rw [h.at0, cax_ok, needCell_in hG hr hc, cax_ok, hG.ord, isFrom_ok, cap_some, hy, nar true, if_pos rfl, cax_ok, sign_in hG hr hc, cap_some]
  have E : (ce v = ce (B r c)) = (v = B r c) := ce_inj (by omega) (by omega)
  constructor
  · intro hd
    have hnc := dB_fi.mp hd
    have hw2 : Wf n (upB B r c v) := hw.putv hr hc hv (fun h0 i hi hcl => hnc ⟨h0, i, hi, hcl⟩)
    by_cases e : v = B r c
    · refine ⟨σ, ?_, ?_, fun m _ => rfl⟩
      · rw [q0, jn_eq, if_pos (by rw [E]; exact e)]
      · rw [e, upB_self]; exact h
    · obtain ⟨τ, e1, c1, f1⟩ := CW.cell (B := Bs B B1) (N := fun _ => n) (j := 0) h (by decide) hr hc hv hw2
      refine ⟨τ, ?_, ?_, fun m hm => f1 m (by unfold gid; omega)⟩
      · have hl : f_Grid_hasInLines σ 34 (nI r) (nI c) (ce v) = some 0 := by
          cases v with
          | zero => exact hasInLines_m hG hr hc
          | succ s =>
            rw [ce_s, hasInLines_ok hG hr hc (by omega)]
            have h1 : rowHas B r s = false := by
              apply Bool.eq_false_iff.mpr
              intro h; obtain ⟨c', hc', he⟩ := rowHas_iff.mp h
              exact hnc ⟨by omega, c', (hw.2.2.1 r c' (by omega)).2.1, Or.inl ⟨fun h => e (by rw [← he, h]), he⟩⟩
            have h2 : colHas B c s = false := by
              apply Bool.eq_false_iff.mpr
              intro h; obtain ⟨r', hr', he⟩ := colHas_iff.mp h
              exact hnc ⟨by omega, r', (hw.2.2.1 r' c (by omega)).1, Or.inr ⟨fun h => e (by rw [← he, h]), he⟩⟩
            rw [h1, h2]; rfl
        have e1 : f_Grid_set σ 34 (nI r) (nI c) (ce v) = some ((), τ) := e1
        rw [q0, jn_eq, if_neg (by rw [E]; exact e), hl]
        simp only [cap_some, jn_eq]
        rw [if_pos trivial, nst1, cax_ok, e1]
        rfl
      · have c2 : CW τ 2 (fun _ => n) (upG (Bs B B1) 0 (upB B r c v)) := c1
        rw [Bs_up] at c2
        exact c2
  · intro hd
    obtain ⟨h0, i, hi, hcl⟩ := dB_iff.mp hd
    obtain ⟨s, rfl⟩ : ∃ s, v = s + 1 := ⟨v - 1, by omega⟩
    have hne : ¬ (s + 1 = B r c) := by
      intro e
      rcases hcl with ⟨h1, h2⟩ | ⟨h1, h2⟩
      · exact h1 (hw.2.2.2.1 r i c (by omega) (by omega))
      · exact h1 (hw.2.2.2.2 i r c (by omega) (by omega))
    rw [q0, jn_eq, if_neg (by rw [E]; exact hne), ce_s, hasInLines_ok hG hr hc (by omega)]
    have : (rowHas B r s || colHas B c s) = true := by
      rw [Bool.or_eq_true, rowHas_iff, colHas_iff]
      rcases hcl with ⟨h1, h2⟩ | ⟨h1, h2⟩
      · exact Or.inl ⟨i, by omega, h2⟩
      · exact Or.inr ⟨i, by omega, h2⟩
    rw [this]
    rfl
theorem pl_put (h : LW σ n B B1) (hA : Arr σ 82 n B) (hS : Arr σ 83 n B1) {r c v : Nat} (hr : r < n) (hc : c < n) (hv : v ≤ n) (v9 : Int32) (J : Int32 → St → Option Int32) :
    ∃ B' τ, p_P (nI n) v9 (nI r) (nI c) (nI (n * r + c)) σ J (ce v) = J 1 τ ∧ LW τ n B' B1 ∧ Arr τ 82 n B' ∧ Arr τ 83 n B1 := by
  have hw := h.g0.1
  have hn1 := hw.1
  have hn2 := hw.2.1
  have hb := ix25 hn2 hr hc
  have hbd := hw.bd r c
  have C : (ce v < 0) = (v = 0) := ce_lt0 (by omega)
  obtain ⟨p1, p2⟩ := lq_put h hr hc hv
  unfold p_P
  rw [pl_276 hw hA hr hc hv]
  cases hd : dB (v ≠ 0 ∧ ∃ i, i < n ∧ clash n B r c v i)
  · obtain ⟨τ, e1, l1, f1⟩ := p1 hd
    have ea : f_L_act σ 0 0 (nI r) (nI c) (ce v) = some (ce (B r c), τ) := by
      unfold f_L_act f_L_told
      rw [if_pos rfl, e1]
      rfl
    have a1 : Arr τ 82 n B := hA.fr (f1 82 (by omega))
    have y1 := a1 r c hr hc
    refine ⟨upB B r c v, wr τ 82 (n * r + c) (ce v), ?_, l1.lo (fun m hm => wr_fn (by omega)), a1.set hc, hS.fr (by rw [wr_fn (by omega), f1 83 (by omega)])⟩
    by_cases e0 : v = 0
    · subst e0
      have C9 : (ce 0 < 0) = True := eq_true (by decide)
      simp (disch := omega) only [jn_eq, C9, if_true, ea, cal_some, ald_nI, ast_nI, y1, pl_1, if_false]
    · have hx : dB (∃ i, i < n ∧ clash n B r c v i) = false := dB_f (fun hx => dB_fi.mp hd ⟨e0, hx⟩)
      rw [hx]
      simp (disch := omega) only [jn_eq, C, e0, if_true, ea, cal_some, pl_1, if_false, ald_nI, ast_nI, y1, show bI false = 0 from rfl]
  · have e1 := p2 hd
    obtain ⟨e0, hx⟩ := dB_iff.mp hd
    have ea : f_L_act σ 0 0 (nI r) (nI c) (ce v) = some (-1003, σ) := by
      unfold f_L_act f_L_told
      rw [if_pos rfl, e1]
      rfl
    have y1 := hA r c hr hc
    have hx2 : dB (∃ i, i < n ∧ clash n B r c v i) = true := dB_t hx
    rw [hx2]
    refine ⟨B, wr σ 82 (n * r + c) (ce (B r c)), ?_, h.lo (fun m hm => wr_fn (by omega)), ?_, hS.fr (wr_fn (by omega))⟩
    · simp (disch := omega) only [jn_eq, C, e0, if_true, ea, cal_some, pl_1, if_false, ald_nI, ast_nI, y1, show bI true = 1 from rfl]
    · have := hA.set (r := r) (c := c) (v := B r c) hc
      rwa [upB_self] at this
end LP9
