/-! forced and logic, the operations -/
theorem nm1 {a : Nat} (h : a < 2 ^ 31) : ¬ (nI a = -1) := by rw [neg1_ne h]; exact id
theorem told_pk {σ : St} {n r c s : Nat} (hn : n ≤ 5) (hr : r < 5) (hc : c < 5) (hs : s < 5) : f_Move_told σ (nI (10 * (5 * r + c) + s)) (nI n) = some (nI (10 * (n * r + c) + s)) := by
  have hb : n * r ≤ 5 * 5 := Nat.mul_le_mul hn (by omega)
  unfold f_Move_told f_Move_row f_Move_column f_Move_sign
  rw [if_neg (nm1 (by omega)), show (50 : Int32) = nI 50 from rfl, dvi_nI (by omega) (by omega) (by omega), cap_some, show (10 : Int32) = nI 10 from rfl, dvi_nI (by omega) (by omega) (by omega), show (5 : Int32) = nI 5 from rfl, rmi_nI (by omega) (by omega) (by omega), cap_some, rmi_nI (by omega) (by omega) (by omega), cap_some]
  rw [show (10 * (5 * r + c) + s) / 50 = r by omega, show (10 * (5 * r + c) + s) / 10 % 5 = c by omega, show (10 * (5 * r + c) + s) % 10 = s by omega]
  rw [nI_mul, nI_add, nI_mul, nI_add]
theorem WK.set {σ : St} {n : Nat} {B : Nat → Nat → Nat} (h : WK σ n B) {r c v : Nat} (hr : r < n) (hc : c < n) (hv : v ≤ 5) : WK (wr σ 91 (n * r + c) (ce v)) n (upB B r c v) := by
  refine ⟨⟨h.1.1, h.1.2.1, fun r' c' => ?_⟩, by rw [wr_fn (by omega)]; exact h.side, fun r' c' hr' hc' => ?_⟩
  · by_cases e : r' = r ∧ c' = c
    · rw [e.1, e.2, upB_at]; exact hv
    · rw [upB_ne e]; exact h.bd r' c'
  · rw [wr_get]
    by_cases e : r' = r ∧ c' = c
    · rw [if_pos ⟨rfl, by rw [e.1, e.2]⟩, e.1, e.2, upB_at]
    · rw [if_neg, upB_ne e]
      · exact h.cel hr' hc'
      · intro h2
        exact e (idx_inj hc' hc h2.2)
theorem cnt_opt {n : Nat} {B : Nat → Nat → Nat} (hw : Wf n B) {r c : Nat} (hr : r < n) (hc : c < n) (h0 : B r c = 0) : cnt B < n * n := by
  have h1 := cnt_nle hw
  have h2 : cnt B ≠ n * n := fun h => (full_iff hw).mp h r c hr hc h0
  omega
theorem idx_lt {n i : Nat} (h : i < n * n * n) : i / n / n < n ∧ i / n % n < n ∧ i % n < n := by
  have h0 : n > 0 := Nat.pos_of_ne_zero (fun e => by subst e; omega)
  refine ⟨Nat.div_lt_of_lt_mul (Nat.div_lt_of_lt_mul ?_), Nat.mod_lt _ h0, Nat.mod_lt _ h0⟩
  rwa [← Nat.mul_assoc]
theorem ok_forced : Ok_forced Inv := by
  intro σ hI p0
  refine op_rd hI (Q := fun σ => f_Q_forced σ p0) (R := fun σ => f_R_forced σ p0) (fun M N B cw mt ct => ?_)
  have hM12 := cw.le
  rcases g_cases M cw.le p0 with ⟨j, hj, rfl⟩ | hx
  · have hG := cw.g hj
    have hn := hG.le
    have hF := first_ok hG
    have q0 : f_Q_forced σ (nI j) = cap (f_Filling_firstForced σ (gid j)) fun r_5 => cap (f_Move_told σ r_5 (nI (N j))) fun r_7 => some (.ok r_7, σ) := by
      unfold f_Q_forced
      rw [gridAt_in cw hj, cax_ok, hG.ord]
    have r0 : ∀ σ1 : St, MW σ1 M N B → ∃ τ, WK τ (N j) (B j) ∧ FrK σ1 τ ∧ τ 82 0 = 0 ∧ f_R_forced σ1 (nI j) = cap (f_R_forcedAtWork τ) fun r => some (r, τ) := by
      intro σ1 mw
      obtain ⟨τ, e, wk, f⟩ := copyW_ok (mw.k (FrK.t (v := 0))) hj
      refine ⟨τ, wk, FrK.mk' (fun m s a1 a2 a3 a4 => ?_), by rw [f 82 0 (by omega) (by omega), wr_at], ?_⟩
      · rw [f m s (by omega) a1, wr_get, if_neg (by omega)]
      · unfold f_R_forced
        rw [rgrid_in mw hj]
        simp only [cap_some, jn_eq, sto_eq]
        rw [if_neg (by decide), wr_at, if_pos (by decide), e, cal_some]
    rcases hF with ⟨e1, hno⟩ | ⟨i, hi, hp, hmin, e1⟩
    · refine rd_k (-1) (σ' := σ) ?_ (FrC.refl σ) (fun σ1 mw => ?_)
      · show f_Q_forced σ (nI j) = _
        rw [q0, e1, cap_some]
        rfl
      · obtain ⟨τ, wk, k, h0, e⟩ := r0 σ1 mw
        refine ⟨τ, ?_, k, h0⟩
        show f_R_forced σ1 (nI j) = _
        rcases rforced_ok wk hG.1 with ⟨e2, _⟩ | ⟨i, hi, hp, _⟩
        · rw [e, e2, cap_some]
        · exact absurd hp (hno i (by rw [Nat.mul_assoc]; exact hi))
    · have hl := idx_lt hi
      refine rd_k (nI (10 * (i / N j) + i % N j)) (σ' := σ) ?_ (FrC.refl σ) (fun σ1 mw => ?_)
      · show f_Q_forced σ (nI j) = _
        rw [q0, e1, cap_some]
        unfold pk
        rw [told_pk hn.2 (by omega) (by omega) (by omega), cap_some, Nat.div_add_mod]
      · obtain ⟨τ, wk, k, h0, e⟩ := r0 σ1 mw
        refine ⟨τ, ?_, k, h0⟩
        show f_R_forced σ1 (nI j) = _
        have hF' : Fst (N j * N j * N j) (fI (N j) (B j)) (0 : Nat) (fun _ => 0) 1 := Or.inr ⟨i, hi, hp, hmin, rfl⟩
        have hR := rforced_ok wk hG.1
        rw [← Nat.mul_assoc] at hR
        rcases hF'.uniq hR with ⟨h, _⟩ | ⟨i', a1, a2, a3, _, a5⟩
        · cases h
        · have : i' = i := by
            rcases Nat.lt_trichotomy i i' with h | h | h
            · exact absurd hp (a3 i h)
            · exact h.symm
            · exact absurd a2 (hmin i' h)
          subst this
          rw [e, a5, cap_some]
  · refine rd_err 1 1 (σ' := σ) ?_ (FrC.refl σ) (by decide) (fun σ1 mw _ => ⟨0, wr σ1 82 0 1, ?_, FrK.t, rfl⟩)
    · show f_Q_forced σ _ = _
      unfold f_Q_forced
      rw [gridAt_out cw hx, cax_er]
    · show f_R_forced σ1 _ = _
      unfold f_R_forced
      rw [rgrid_out mw hx]
      rfl
theorem logic_L {n : Nat} (K K2 : Int32 → St → Option (Int32 × St)) : ∀ (e : Nat) (B : Nat → Nat → Nat) (σ : St) (a m1 : Nat), n * n - cnt B ≤ e → e < m1 → GOK σ 2 n B → a ≤ cnt B →
    ∃ v σ', (∀ x, f_Filling_firstForced σ 2 = some x → f_Filling_fillForced_L7 2 K m1 (nI a) x σ = K v σ') ∧ (∀ m, m < 2 ∨ 5 < m → σ' m = σ m) ∧
      ∀ σ1 m2, WK σ1 n B → e < m2 → ∀ y, f_R_forcedAtWork σ1 = some y → ∃ τ, f_R_logic_L38 K2 m2 (nI a) y σ1 = K2 v τ ∧ ∀ m s, m ≠ 91 → τ m s = σ1 m s := by
  intro e
  induction e with
  | zero =>
    intro B σ a m1 h1 h2 hG ha
    have hn := hG.le
    obtain ⟨m1, rfl⟩ : ∃ m, m1 = m + 1 := ⟨m1 - 1, by omega⟩
    have hno : ∀ i, i < n * n * n → ¬ fI n B i := by
      intro i hi hp
      have hl := idx_lt hi
      have := cnt_opt hG.1 hl.1 hl.2.1 (opt_iff.mp hp.1).1
      omega
    refine ⟨nI a, σ, fun x hx => ?_, fun m _ => rfl, fun σ1 m2 wk hm2 y hy => ⟨σ1, ?_, fun m s _ => rfl⟩⟩
    · rcases first_ok hG with ⟨e1, _⟩ | ⟨i, hi, hp, _⟩
      · rw [hx] at e1
        rw [f_Filling_fillForced_L7.eq_2]
        rw [if_pos (Option.some.inj e1)]
      · exact absurd hp (hno i hi)
    · obtain ⟨m2, rfl⟩ : ∃ m, m2 = m + 1 := ⟨m2 - 1, by omega⟩
      rcases rforced_ok wk hG.1 with ⟨e1, _⟩ | ⟨i, hi, hp, _⟩
      · rw [hy] at e1
        rw [f_R_logic_L38.eq_2]
        rw [if_pos (Option.some.inj e1)]
      · exact absurd hp (hno i (by rw [Nat.mul_assoc]; exact hi))
  | succ e ih =>
    intro B σ a m1 h1 h2 hG ha
    have hn := hG.le
    have h25 : n * n ≤ 25 := Nat.mul_le_mul hn.2 hn.2
    obtain ⟨m1, rfl⟩ : ∃ m, m1 = m + 1 := ⟨m1 - 1, by omega⟩
    rcases first_ok hG with ⟨e1, hno⟩ | ⟨i, hi, hp, hmin, e1⟩
    · refine ⟨nI a, σ, fun x hx => ?_, fun m _ => rfl, fun σ1 m2 wk hm2 y hy => ⟨σ1, ?_, fun m s _ => rfl⟩⟩
      · rw [hx] at e1
        rw [f_Filling_fillForced_L7.eq_2]
        rw [if_pos (Option.some.inj e1)]
      · obtain ⟨m2, rfl⟩ : ∃ m, m2 = m + 1 := ⟨m2 - 1, by omega⟩
        rcases rforced_ok wk hG.1 with ⟨e1, _⟩ | ⟨i, hi, hp, _⟩
        · rw [hy] at e1
          rw [f_R_logic_L38.eq_2]
          rw [if_pos (Option.some.inj e1)]
        · exact absurd hp (hno i (by rw [Nat.mul_assoc]; exact hi))
    · have hl := idx_lt hi
      have hpo := hp.1
      have hw := hG.1.opt hl.1 hl.2.1 hpo
      have h0 := (opt_iff.mp hpo).1
      have hlt := cnt_opt hG.1 hl.1 hl.2.1 h0
      have hup := cnt_up (B := B) (r := i / n / n) (c := i / n % n) (v := i % n + 1) (by omega) (by omega)
      rw [if_pos h0, if_neg (by omega)] at hup
      have hG2 := set_GOK hG hl.1 hl.2.1 (v := i % n + 1) (by omega) hw
      have hse := set_eq hG hl.1 hl.2.1 (v := i % n + 1) (by omega)
      rw [ce_s] at hse
      obtain ⟨v, σ', q1, q2, q3⟩ := ih _ _ (a + 1) m1 (by omega) (by omega) hG2 (by omega)
      refine ⟨v, σ', fun x hx => ?_, fun m hm => (q2 m hm).trans (setSt_fr (by omega)), fun σ1 m2 wk hm2 y hy => ?_⟩
      · rw [hx] at e1
        have ex := Option.some.inj e1
        have hx2 : ∃ x', f_Filling_firstForced (setSt σ 2 (i / n / n) (i / n % n) (B (i / n / n) (i / n % n)) (i % n + 1)) 2 = some x' := by
          rcases first_ok hG2 with ⟨e2, _⟩ | ⟨i2, _, _, _, e2⟩
          · exact ⟨_, e2⟩
          · exact ⟨_, e2⟩
        obtain ⟨x', hx2⟩ := hx2
        rw [f_Filling_fillForced_L7.eq_2]
        rw [ex]
        unfold pk f_Move_row f_Move_column f_Move_sign
        rw [if_neg (nm1 (by omega)), if_pos (show nI a < 25 from nI_lt (show a < 25 by omega) (by decide)), show (50 : Int32) = nI 50 from rfl, dvi_nI (by omega) (by omega) (by omega), cap_some, show (10 : Int32) = nI 10 from rfl, dvi_nI (by omega) (by omega) (by omega), show (5 : Int32) = nI 5 from rfl, rmi_nI (by omega) (by omega) (by omega), cap_some, rmi_nI (by omega) (by omega) (by omega), cap_some]
        rw [show (10 * (5 * (i / n / n) + i / n % n) + i % n) / 50 = i / n / n by omega, show (10 * (5 * (i / n / n) + i / n % n) + i % n) / 10 % 5 = i / n % n by omega, show (10 * (5 * (i / n / n) + i / n % n) + i % n) % 10 = i % n by omega]
        rw [hse, cal_some, hx2, cap_some, nI_1]
        exact q1 x' hx2
      · obtain ⟨m2, rfl⟩ : ∃ m, m2 = m + 1 := ⟨m2 - 1, by omega⟩
        have hF' : Fst (n * n * n) (fI n B) (0 : Nat) (fun _ => 0) 1 := Or.inr ⟨i, hi, hp, hmin, rfl⟩
        have hR := rforced_ok wk hG.1
        rw [← Nat.mul_assoc] at hR
        rcases hF'.uniq hR with ⟨h, _⟩ | ⟨i', a1, a2, a3, _, a5⟩
        · cases h
        · have : i' = i := by
            rcases Nat.lt_trichotomy i i' with h | h | h
            · exact absurd hp (a3 i h)
            · exact h.symm
            · exact absurd a2 (hmin i' h)
          subst this
          rw [hy] at a5
          have ey := Option.some.inj a5
          have wk2 := wk.set hl.1 hl.2.1 (v := i' % n + 1) (by omega)
          have hin : n * (i' / n / n) + i' / n % n = i' / n := Nat.div_add_mod _ _
          have hb := ix25 hn.2 hl.1 hl.2.1
          rw [hin] at hb
          rw [hin, ce_s] at wk2
          have hy2 : ∃ y', f_R_forcedAtWork (wr σ1 91 (i' / n) (nI (i' % n))) = some y' := by
            rcases rforced_ok wk2 hw with ⟨e2, _⟩ | ⟨i2, _, _, _, e2⟩
            · exact ⟨_, e2⟩
            · exact ⟨_, e2⟩
          obtain ⟨y', hy2⟩ := hy2
          obtain ⟨τ, t1, t2⟩ := q3 _ m2 wk2 (by omega) y' hy2
          refine ⟨τ, ?_, fun m s hm => ?_⟩
          · rw [f_R_logic_L38.eq_2]
            rw [ey]
            rw [if_neg (nm1 (by omega)), show (10 : Int32) = nI 10 from rfl, dvi_nI (by omega) (by omega) (by omega), rmi_nI (by omega) (by omega) (by omega)]
            rw [show (10 * (i' / n) + i' % n) / 10 = i' / n by omega, show (10 * (i' / n) + i' % n) % 10 = i' % n by omega]
            rw [ast_nI (by omega) (by decide), hy2, cap_some, nI_1]
            exact t1
          · rw [t2 m s hm, wr_fn hm]
theorem ok_logic : Ok_logic Inv := by
  intro σ hI p0
  refine op_rd hI (Q := fun σ => f_Q_logic σ p0) (R := fun σ => f_R_logic σ p0) (fun M N B cw mt ct => ?_)
  have hM12 := cw.le
  rcases g_cases M cw.le p0 with ⟨j, hj, rfl⟩ | hx
  · have hG := cw.g hj
    have hn := hG.le
    have h25 : N j * N j ≤ 25 := Nat.mul_le_mul hn.2 hn.2
    obtain ⟨σ2, e2, g2, f2⟩ := copy_ok (k := 2) hG (by unfold gid; omega)
    obtain ⟨v, σ3, q1, q2, q3⟩ := logic_L (n := N j) (fun v σ => some (v, σ)) (fun v σ => some (v, σ)) 25 (B j) σ2 0 FU (by omega) (FU_gt (by decide)) g2 (by omega)
    refine rd_k v (σ' := σ3) ?_ ?_ (fun σ1 mw => ?_)
    · show f_Q_logic σ (nI j) = _
      unfold f_Q_logic
      rw [gridAt_in cw hj, cax_ok, e2, cal_some]
      unfold f_Filling_fillForced
      obtain ⟨x, hx⟩ : ∃ x, f_Filling_firstForced σ2 2 = some x := by
        rcases first_ok g2 with ⟨e2, _⟩ | ⟨i2, _, _, _, e2⟩
        · exact ⟨_, e2⟩
        · exact ⟨_, e2⟩
      rw [hx, cap_some]
      show cal (f_Filling_fillForced_L7 2 (fun v σ => some (v, σ)) FU (nI 0) x σ2) _ = _
      rw [q1 x hx]
      rfl
    · intro m hm
      have h6 : m < 2 ∨ 5 < m := by unfold scr at hm; omega
      rw [q2 m h6, f2 m (by omega)]
    · obtain ⟨τ, e, wk, f⟩ := copyW_ok (mw.k (FrK.t (v := 0))) hj
      obtain ⟨y, hy⟩ : ∃ y, f_R_forcedAtWork τ = some y := by
        rcases rforced_ok wk hG.1 with ⟨e2, _⟩ | ⟨i2, _, _, _, e2⟩
        · exact ⟨_, e2⟩
        · exact ⟨_, e2⟩
      obtain ⟨υ, t1, t2⟩ := q3 τ FU wk (FU_gt (by decide)) y hy
      refine ⟨υ, ?_, FrK.mk' (fun m s a1 a2 a3 a4 => ?_), by rw [t2 82 0 (by omega), f 82 0 (by omega) (by omega), wr_at]⟩
      · show f_R_logic σ1 (nI j) = _
        unfold f_R_logic
        rw [rgrid_in mw hj]
        simp only [cap_some, jn_eq, sto_eq]
        rw [if_neg (by decide), wr_at, if_pos (by decide), e, cal_some, hy, cap_some]
        exact t1
      · rw [t2 m s a1, f m s (by omega) a1, wr_get, if_neg (by omega)]
  · refine rd_err 1 1 (σ' := σ) ?_ (FrC.refl σ) (by decide) (fun σ1 mw _ => ⟨0, wr σ1 82 0 1, ?_, FrK.t, rfl⟩)
    · show f_Q_logic σ _ = _
      unfold f_Q_logic
      rw [gridAt_out cw hx, cax_er]
    · show f_R_logic σ1 _ = _
      unfold f_R_logic
      rw [rgrid_out mw hx]
      rfl
