/-! conjugate -/
def cR (h r c s : Nat) : Nat := if h = 0 ∨ h = 2 then r else if h = 1 ∨ h = 4 then c else s
def cC (h r c s : Nat) : Nat := if h = 0 ∨ h = 3 then c else if h = 1 ∨ h = 5 then r else s
def cV (h r c s : Nat) : Nat := r + c + s - cR h r c s - cC h r c s
def cT (h : Nat) (B : Bd) (a b v : Nat) : Prop := ∃ r c s, B r c = s + 1 ∧ cR h r c s = a ∧ cC h r c s = b ∧ cV h r c s = v
theorem c_tab (h : Nat) (hh : h ≤ 5) (r c s : Nat) : (h = 0 ∧ cR h r c s = r ∧ cC h r c s = c ∧ cV h r c s = s) ∨ (h = 1 ∧ cR h r c s = c ∧ cC h r c s = r ∧ cV h r c s = s) ∨ (h = 2 ∧ cR h r c s = r ∧ cC h r c s = s ∧ cV h r c s = c) ∨ (h = 3 ∧ cR h r c s = s ∧ cC h r c s = c ∧ cV h r c s = r) ∨ (h = 4 ∧ cR h r c s = c ∧ cC h r c s = s ∧ cV h r c s = r) ∨ (h = 5 ∧ cR h r c s = s ∧ cC h r c s = r ∧ cV h r c s = c) := by
  unfold cV cR cC
  rcases (by omega : h = 0 ∨ h = 1 ∨ h = 2 ∨ h = 3 ∨ h = 4 ∨ h = 5) with rfl | rfl | rfl | rfl | rfl | rfl <;> simp <;> omega
section CT2
variable {n h : Nat} {B : Bd}
theorem trip (hw : Wf n B) {r c s r' c' s' : Nat} (e : B r c = s + 1) (e' : B r' c' = s' + 1) (hq : (r = r' ∧ c = c') ∨ (r = r' ∧ s = s') ∨ (c = c' ∧ s = s')) : r = r' ∧ c = c' ∧ s = s' := by
  rcases hq with ⟨rfl, rfl⟩ | ⟨rfl, rfl⟩ | ⟨rfl, rfl⟩
  · exact ⟨rfl, rfl, by omega⟩
  · exact ⟨rfl, hw.2.2.2.1 r c c' (by omega) (by omega), rfl⟩
  · exact ⟨hw.2.2.2.2 r r' c (by omega) (by omega), rfl, rfl⟩
theorem c_bd (hw : Wf n B) (hh : h ≤ 5) {r c s : Nat} (e : B r c = s + 1) : r < n ∧ c < n ∧ s < n ∧ cR h r c s < n ∧ cC h r c s < n ∧ cV h r c s < n := by
  have h1 := hw.2.2.1 r c (by omega)
  have hs : s < n := by omega
  rcases c_tab h hh r c s with ⟨_, a, b, d⟩ | ⟨_, a, b, d⟩ | ⟨_, a, b, d⟩ | ⟨_, a, b, d⟩ | ⟨_, a, b, d⟩ | ⟨_, a, b, d⟩ <;> rw [a, b, d] <;> omega
theorem c_two (hw : Wf n B) (hh : h ≤ 5) {r c s r' c' s' : Nat} (e : B r c = s + 1) (e' : B r' c' = s' + 1) (hq : (cR h r c s = cR h r' c' s' ∧ cC h r c s = cC h r' c' s') ∨ (cR h r c s = cR h r' c' s' ∧ cV h r c s = cV h r' c' s') ∨ (cC h r c s = cC h r' c' s' ∧ cV h r c s = cV h r' c' s')) : r = r' ∧ c = c' ∧ s = s' := by
  refine trip hw e e' ?_
  rcases c_tab h hh r c s with ⟨q, a, b, d⟩ | ⟨q, a, b, d⟩ | ⟨q, a, b, d⟩ | ⟨q, a, b, d⟩ | ⟨q, a, b, d⟩ | ⟨q, a, b, d⟩ <;>
  rcases c_tab h hh r' c' s' with ⟨q', a', b', d'⟩ | ⟨q', a', b', d'⟩ | ⟨q', a', b', d'⟩ | ⟨q', a', b', d'⟩ | ⟨q', a', b', d'⟩ | ⟨q', a', b', d'⟩ <;>
  first
    | (exfalso; omega)
    | (rw [a, b, d, a', b', d'] at hq; omega)
noncomputable def cj (h : Nat) (B : Bd) : Bd := fun a b => @dite _ (∃ v, cT h B a b v) (Classical.propDecidable _) (fun hx => Classical.choose hx + 1) (fun _ => 0)
theorem cj_iff (hw : Wf n B) (hh : h ≤ 5) {a b v : Nat} : cj h B a b = v + 1 ↔ cT h B a b v := by
  unfold cj
  constructor
  · intro e
    by_cases hx : ∃ v, cT h B a b v
    · rw [dif_pos hx] at e
      have := Classical.choose_spec hx
      rwa [show Classical.choose hx = v by omega] at this
    · rw [dif_neg hx] at e; omega
  · rintro ⟨r, c, s, e, rfl, rfl, rfl⟩
    have hx : ∃ v, cT h B (cR h r c s) (cC h r c s) v := ⟨_, r, c, s, e, rfl, rfl, rfl⟩
    rw [dif_pos hx]
    obtain ⟨r', c', s', e', q1, q2, q3⟩ := Classical.choose_spec hx
    obtain ⟨rfl, rfl, rfl⟩ := c_two hw hh e e' (Or.inl ⟨q1.symm, q2.symm⟩)
    rw [← q3]
theorem cj_wf (hw : Wf n B) (hh : h ≤ 5) : Wf n (cj h B) := by
  have hT : ∀ a b, cj h B a b ≠ 0 → cT h B a b (cj h B a b - 1) := fun a b h0 => (cj_iff hw hh).mp (by omega)
  refine ⟨hw.1, hw.2.1, fun a b h0 => ?_, fun a b b' h0 he => ?_, fun a a' b h0 he => ?_⟩
  · obtain ⟨r, c, s, e, q1, q2, q3⟩ := hT a b h0
    have := c_bd hw hh e
    rw [q1, q2, q3] at this
    omega
  · obtain ⟨r, c, s, e, q1, q2, q3⟩ := hT a b h0
    obtain ⟨r', c', s', e', q1', q2', q3'⟩ := hT a b' (by omega)
    obtain ⟨rfl, rfl, rfl⟩ := c_two hw hh e e' (Or.inr (Or.inl ⟨by omega, by omega⟩))
    omega
  · obtain ⟨r, c, s, e, q1, q2, q3⟩ := hT a b h0
    obtain ⟨r', c', s', e', q1', q2', q3'⟩ := hT a' b (by omega)
    obtain ⟨rfl, rfl, rfl⟩ := c_two hw hh e e' (Or.inr (Or.inr ⟨by omega, by omega⟩))
    omega
theorem cj_at (hw : Wf n B) (hh : h ≤ 5) {r c s : Nat} (e : B r c = s + 1) : cj h B (cR h r c s) (cC h r c s) = cV h r c s + 1 := (cj_iff hw hh).mpr ⟨r, c, s, e, rfl, rfl, rfl⟩
theorem cj_cov (hw : Wf n B) (hh : h ≤ 5) : ∀ a b, cj h B a b ≠ 0 → ∃ r c, r < n ∧ c < n ∧ B r c ≠ 0 ∧ cR h r c (B r c - 1) = a ∧ cC h r c (B r c - 1) = b := by
  intro a b h0
  obtain ⟨r, c, s, e, q1, q2, q3⟩ := (cj_iff (a := a) (b := b) (v := cj h B a b - 1) hw hh).mp (by omega)
  have := c_bd hw hh e
  exact ⟨r, c, this.1, this.2.1, by omega, by rw [e]; exact q1, by rw [e]; exact q2⟩
end CT2
theorem setConj_eq {σ : St} {k h r c s : Nat} (hh : h ≤ 5) : f_Q_setConjugate σ k (nI h) (nI r) (nI c) (nI s) = cal (f_Grid_set σ k (nI (cR h r c s)) (nI (cC h r c s)) (nI (cV h r c s))) fun _ σ => some ((), σ) := by
  unfold f_Q_setConjugate
  rcases c_tab h hh r c s with ⟨rfl, a, b, d⟩ | ⟨rfl, a, b, d⟩ | ⟨rfl, a, b, d⟩ | ⟨rfl, a, b, d⟩ | ⟨rfl, a, b, d⟩ | ⟨rfl, a, b, d⟩ <;> rw [a, b, d]
  · rw [if_pos (by rfl)]
  · rw [if_neg (by decide), if_pos (by rfl)]
  · rw [if_neg (by decide), if_neg (by decide), if_pos (by rfl)]
  · rw [if_neg (by decide), if_neg (by decide), if_neg (by decide), if_pos (by rfl)]
  · rw [if_neg (by decide), if_neg (by decide), if_neg (by decide), if_neg (by decide), if_pos (by rfl)]
  · rw [if_neg (by decide), if_neg (by decide), if_neg (by decide), if_neg (by decide), if_neg (by decide)]
theorem conj_cls {σ : St} {g k n h : Nat} {B : Bd} (hB : GOK σ g n B) (hG : GOK σ k n B0) (hgk : g + 3 < k ∨ k + 3 < g) (hh : h ≤ 5) (K : St → Option (Except Nat Int32 × St)) : ∃ τ, f_Q_conjugate_L28 (nI h) g k K FU 0 σ = K τ ∧ GOK τ k n (cj h B) ∧ ∀ m, m < k ∨ k + 3 < m → τ m = σ m := by
  have hn := hG.le
  have hw := hB.1
  have hX := cj_wf hw hh
  have fr : ∀ τ : St, (∀ m, m < k ∨ k + 3 < m → τ m = σ m) → GOK τ g n B := fun τ f => hB.frame (fun m a b => f m (by omega))
  have A := nest2 n (fun i τ => ∃ Y, GOK τ k n Y ∧ BI n (cj h B) (fun r c => B r c ≠ 0) (fun r c => cR h r c (B r c - 1)) (fun r c => cC h r c (B r c - 1)) i Y ∧ ∀ m, m < k ∨ k + 3 < m → τ m = σ m) (fun m r τ => f_Q_conjugate_L28 (nI h) g k K m (nI r) τ) (fun r κ m c τ => f_Q_conjugate_L40 (nI h) g k (nI r) κ m (nI c) τ) K (by omega) ?_ ?_ ?_ ?_ σ ⟨B0, hG, BI.zero, fun m _ => rfl⟩
  · obtain ⟨τ, e, Y, g', bi, f⟩ := A
    refine ⟨τ, e, ?_, f⟩
    rw [← bi.done (cj_cov hw hh)]
    exact g'
  · rintro r κ m c τ hr hc ⟨Y, g', bi, f⟩
    have gB := fr τ f
    show ∃ τ', f_Q_conjugate_L40 (nI h) g k (nI r) κ (m + 1) (nI c) τ = _ ∧ _
    have hb := hw.bd r c
    by_cases h0 : B r c = 0
    · refine ⟨τ, ?_, Y, g', bi.skip hc (fun h => h h0), f⟩
      rw [f_Q_conjugate_L40.eq_2]
      rw [gB.ord, if_pos (nI_lt hc (by omega)), sign_in gB hr hc, cap_some, jn_eq, h0, if_pos (by rfl), nI_1]
    · obtain ⟨s, hs⟩ : ∃ s, B r c = s + 1 := ⟨B r c - 1, by omega⟩
      have hbd := c_bd hw hh hs
      obtain ⟨τ', e, g2, f2⟩ := gset g' bi.1 hX hbd.2.2.2.1 hbd.2.2.2.2.1
      have hput := bi.put hc
      rw [show B r c - 1 = s by omega] at hput
      refine ⟨τ', ?_, _, g2, hput, fun m hm => (f2 m hm).trans (f m hm)⟩
      rw [f_Q_conjugate_L40.eq_2]
      rw [cj_at hw hh hs, ce_s] at e
      rw [gB.ord, if_pos (nI_lt hc (by omega)), sign_in gB hr hc, cap_some, jn_eq, hs, ce_s, if_neg (nm1 (by omega)), setConj_eq hh, e, cal_some, cal_some, nI_1]
  · rintro r κ m τ hr ⟨Y, g', bi, f⟩
    rw [f_Q_conjugate_L40.eq_2]
    rw [(fr τ f).ord, if_neg (nI_nlt (Nat.le_refl _) (by omega))]
  · rintro m r τ hr ⟨Y, g', bi, f⟩
    rw [f_Q_conjugate_L28.eq_2]
    rw [(fr τ f).ord, if_pos (nI_lt hr (by omega)), nI_1]
    rfl
  · rintro m τ ⟨Y, g', bi, f⟩
    rw [f_Q_conjugate_L28.eq_2]
    rw [(fr τ f).ord, if_neg (nI_nlt (Nat.le_refl _) (by omega))]
theorem conj_ref {σ : St} {M n h j : Nat} {N : Nat → Nat} {B : Nat → Bd} (hj : j < M) (hNj : N j = n) (hR : MR σ (M + 1) (upN N M n) (upG B M B0)) (hM : M < 12) (hW : ∀ j, j < M → Wf (N j) (B j)) (hh : h ≤ 5) (K : St → Option (Int32 × St)) : ∃ τ, f_R_conjugate_L70 (nI j) (nI h) (nI n) (nI M) K FU 0 σ = K τ ∧ MR τ (M + 1) (upN N M n) (upG B M (cj h (B j))) ∧ Frx 84 σ τ := by
  have hw := hW j hj
  rw [hNj] at hw
  have hn : 2 ≤ n ∧ n ≤ 5 := ⟨hw.1, hw.2.1⟩
  have hN : ∀ j, j < M → N j ≤ 5 := fun j hj => (hW j hj).2.1
  have hX := cj_wf hw hh
  have hat : ∀ τ Y, MR τ (M + 1) (upN N M n) (upG B M Y) → Wf n Y → ∀ r c, r < n → c < n → f_R_at τ (nI j) (nI r) (nI c) = some (ce (B j r c)) := by
    intro τ Y m hY r c hr hc
    have mw := m.mw (by omega) (Wf_up hW hY)
    have e1 : upN N M n j = n := by unfold upN; rw [if_neg (by omega)]; exact hNj
    have := at_ok mw (j := j) (r := r) (c := c) (by omega) (by rw [e1]; exact hr) (by rw [e1]; exact hc)
    rw [this]
    unfold upG
    rw [if_neg (by omega)]
  have A := nest2 n (fun i τ => ∃ Y, MR τ (M + 1) (upN N M n) (upG B M Y) ∧ BI n (cj h (B j)) (fun r c => B j r c ≠ 0) (fun r c => cR h r c (B j r c - 1)) (fun r c => cC h r c (B j r c - 1)) i Y ∧ Frx 84 σ τ) (fun m r τ => f_R_conjugate_L70 (nI j) (nI h) (nI n) (nI M) K m (nI r) τ) (fun r κ m c τ => f_R_conjugate_L79 (nI j) (nI h) (nI n) (nI M) (nI r) κ m (nI c) τ) K (by omega) ?_ ?_ ?_ ?_ σ ⟨B0, hR, BI.zero, fun m _ => rfl⟩
  · obtain ⟨τ, e, Y, g, bi, f⟩ := A
    refine ⟨τ, e, ?_, f⟩
    rw [← bi.done (cj_cov hw hh)]
    exact g
  · rintro r κ m c τ hr hc ⟨Y, g, bi, f⟩
    show ∃ τ', f_R_conjugate_L79 (nI j) (nI h) (nI n) (nI M) (nI r) κ (m + 1) (nI c) τ = _ ∧ _
    have ha := hat τ Y g (bi.1.wf hX) r c hr hc
    have hb := hw.bd r c
    by_cases h0 : B j r c = 0
    · refine ⟨τ, ?_, Y, g, bi.skip hc (fun h => h h0), f⟩
      rw [f_R_conjugate_L79.eq_2]
      rw [if_pos (nI_lt hc (by omega)), ha, cap_some, jn_eq, h0, if_pos (by rfl), nI_1]
    · obtain ⟨s, hs⟩ : ∃ s, B j r c = s + 1 := ⟨B j r c - 1, by omega⟩
      have hbd := c_bd hw hh hs
      have b0 := ix25 hn.2 hbd.2.2.2.1 hbd.2.2.2.2.1
      have hput := bi.put hc
      rw [show B j r c - 1 = s by omega] at hput
      refine ⟨_, ?_, _, g.nset hN hn.2 hbd.2.2.2.1 hbd.2.2.2.2.1 _, hput, fun m hm => (wr_fn hm).trans (f m hm)⟩
      rw [f_R_conjugate_L79.eq_2]
      rw [if_pos (nI_lt hc (by omega)), ha, cap_some, hs, ce_s]
      simp only [jn_eq, nI_1]
      rw [if_neg (nm1 (by omega)), cj_at hw hh hs, ce_s]
      have key : ∀ x y z : Nat, x = cR h r c s → y = cC h r c s → z = cV h r c s → r + c + s = x + y + z → x < n → y < n → (ast τ 84 300 (((25 * nI M) + (nI n * nI x)) + nI y) ((((nI r + nI c) + nI s) - nI x) - nI y) fun σ_18 => f_R_conjugate_L79 (nI j) (nI h) (nI n) (nI M) (nI r) κ m (nI (c + 1)) σ_18) = f_R_conjugate_L79 (nI j) (nI h) (nI n) (nI M) (nI r) κ m (nI (c + 1)) (wr τ 84 (25 * M + n * cR h r c s + cC h r c s) (nI (cV h r c s))) := by
        intro x y z hx hy hz hsum hxn hyn
        have b1 := ix25 hn.2 hxn hyn
        rw [c25, ast_nI (by omega) (by decide), nI_add, nI_add, nI_sub (by omega), nI_sub (by omega), hsum, show x + y + z - x - y = z by omega, ← hx, ← hy, ← hz]
      rcases c_tab h hh r c s with ⟨rfl, a, b, d⟩ | ⟨rfl, a, b, d⟩ | ⟨rfl, a, b, d⟩ | ⟨rfl, a, b, d⟩ | ⟨rfl, a, b, d⟩ | ⟨rfl, a, b, d⟩
      · exact key r c s a.symm b.symm d.symm (by omega) (by omega) (by omega)
      · exact key c r s a.symm b.symm d.symm (by omega) (by omega) (by omega)
      · exact key r s c a.symm b.symm d.symm (by omega) (by omega) (by omega)
      · exact key s c r a.symm b.symm d.symm (by omega) (by omega) (by omega)
      · exact key c s r a.symm b.symm d.symm (by omega) (by omega) (by omega)
      · exact key s r c a.symm b.symm d.symm (by omega) (by omega) (by omega)
  · rintro r κ m τ hr _
    rw [f_R_conjugate_L79.eq_2]
    rw [if_neg (nI_nlt (Nat.le_refl _) (by omega))]
  · rintro m r τ hr _
    rw [f_R_conjugate_L70.eq_2]
    rw [if_pos (nI_lt hr (by omega)), nI_1]
    rfl
  · rintro m τ _
    rw [f_R_conjugate_L70.eq_2]
    rw [if_neg (nI_nlt (Nat.le_refl _) (by omega))]
theorem ok_conjugate : Ok_conjugate Inv := by
  intro σ hI p0 p1
  refine op_wr hI (Q := fun σ => f_Q_conjugate σ p0 p1) (R := fun σ => f_R_conjugate σ p0 p1) (fun M N B cw mt => ?_)
  have hM := cw.le
  have c5 : (5 : Int32) = nI 5 := rfl
  rcases g_cases M cw.le p0 with ⟨j, hj, rfl⟩ | hx
  · have hG := cw.g hj
    have hn := hG.le
    cases hy : btw p1 0 (nI 5)
    · refine wr_err cw 2 2 (σ' := σ) ?_ (FrC.refl σ) (by decide) (fun σ1 mw => ⟨0, wr σ1 82 0 2, ?_, FrK.t, rfl⟩)
      · show f_Q_conjugate σ _ _ = _
        unfold f_Q_conjugate
        rw [gridAt_in cw hj, cax_ok, isFrom_ok, c5, hy]; rfl
      · show f_R_conjugate σ1 _ _ = _
        unfold f_R_conjugate
        rw [rgrid_in mw hj, rbtw, c5, hy]; rfl
    · obtain ⟨h, _, hh, rfl⟩ := (btw_iff (a := 0) (by omega) (by omega)).mp hy
      have q0 : f_Q_conjugate σ (nI j) (nI h) = cax (f_Q_newGrid σ (nI (N j))) fun r_10 σ_11 => f_Q_conjugate_L28 (nI h) (gid j) r_10 (fun (σ_20 : St) => some (.ok ((σ_20 0 8) - 1), σ_20)) FU 0 σ_11 := by
        unfold f_Q_conjugate
        rw [gridAt_in cw hj, cax_ok, isFrom_ok, c5, hy, cap_some, nar true, if_pos rfl, cax_ok, hG.ord]
      have r0 : ∀ σ1 : St, MW σ1 M N B → f_R_conjugate σ1 (nI j) (nI h) = if M = 12 then some (0, wr σ1 82 0 3) else cal (f_R_make (wr σ1 82 0 0) (nI (N j))) fun r_8 σ_9 => f_R_conjugate_L70 (nI j) (nI h) (nI (N j)) r_8 (fun (σ_24 : St) => some (r_8, σ_24)) FU 0 σ_9 := by
        intro σ1 mw
        unfold f_R_conjugate
        rw [rgrid_in mw hj, rbtw, c5, hy, cap_some, jn_eq, if_neg (show ¬ (1 : Int32) = 0 by decide), cap_some, if_neg (show ¬ bI true = 0 by decide)]
        by_cases e : M = 12
        · rw [if_pos (show σ1 82 1 = 12 by rw [mw12 mw]; exact e), if_pos e]
          rfl
        · rw [if_neg (show ¬ σ1 82 1 = 12 by rw [mw12 mw]; exact e), if_neg e]
          show sto σ1 82 0 0 _ = _
          rw [sto_eq, wr_at, if_pos (show (0 : Int32) ≤ 0 by decide), ald_nI (by omega) (by decide), wr_fn (by omega), mw.od hj]
      by_cases e : M = 12
      · refine wr_err cw 3 3 (σ' := σ) ?_ (FrC.refl σ) (by decide) (fun σ1 mw => ⟨0, wr σ1 82 0 3, ?_, FrK.t, rfl⟩)
        · show f_Q_conjugate σ _ _ = _
          rw [q0, newGrid_no cw e, cax_er]
        · show f_R_conjugate σ1 _ _ = _
          rw [r0 σ1 mw, if_pos e]
      · obtain ⟨σ', e1, c1, f1⟩ := newGrid_ok cw (by omega) hn.1 hn.2
        have hG0 : GOK σ' (gid M) (N j) B0 := by
          have := c1.g (j := M) (by omega)
          rwa [upN_at, upG_at] at this
        have hGj : GOK σ' (gid j) (N j) (B j) := hG.frame (fun m a b => f1 m (by unfold gid at a; omega) (gid_off (show j ≠ M by omega) a b))
        obtain ⟨τ, e2, g2, f2⟩ := conj_cls hGj hG0 (by unfold gid; omega) hh (fun (σ_20 : St) => some (.ok ((σ_20 0 8) - 1), σ_20))
        have c2 := new_cw c1 g2 f2
        refine wr_ok (nI M) (σ' := τ) (M' := M + 1) (N' := upN N M (N j)) (B' := upG B M (cj h (B j))) ?_ c2 (fun m a b c => by rw [f2 m (by unfold gid; omega), f1 m b (by unfold gid; omega)]) (fun σ1 mw => ?_)
        · show f_Q_conjugate σ _ _ = _
          rw [q0, e1, cax_ok, e2, c2.2.1, nI_pred]
        · obtain ⟨υ, e3, m1, m2, m3, _⟩ := (mw.k (FrK.t (v := 0))).mr.make (by omega) (fun j hj => (mw.n hj).2) hn.2
          obtain ⟨φ, e4, m4, f4⟩ := conj_ref hj rfl m1 (by omega) (fun j hj => mw.wf hj) hh (fun (σ_24 : St) => some (nI M, σ_24))
          refine ⟨φ, ?_, m4.mw (by omega) (Wf_up (fun j hj => mw.wf hj) (cj_wf hG.1 hh)), (FrK.t.fw.trans m2).trans ⟨fun m hm => f4 m (by omega), fun s _ => by rw [f4 82 (by omega)]⟩, by rw [f4 82 (by omega), m3]; rfl⟩
          show f_R_conjugate σ1 _ _ = _
          rw [r0 σ1 mw, if_neg e, e3, cal_some, e4]
  · refine wr_err cw 1 1 (σ' := σ) ?_ (FrC.refl σ) (by decide) (fun σ1 mw => ⟨0, wr σ1 82 0 1, ?_, FrK.t, rfl⟩)
    · show f_Q_conjugate σ _ _ = _
      unfold f_Q_conjugate
      rw [gridAt_out cw hx, cax_er]
    · show f_R_conjugate σ1 _ _ = _
      unfold f_R_conjugate
      rw [rgrid_out mw hx]
      rfl
