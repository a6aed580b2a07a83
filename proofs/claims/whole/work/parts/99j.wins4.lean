/-! wins, the operation -/
section WIN4
variable {σ : St} {n : Nat} {B : Bd}
def Ans (n : Nat) (X : Bd) (x : Int32) : Prop := Fst (n * n * n) (fun i => wP n (zc n X) X (i / n / n) (i / n % n) (i % n)) x (fun i => nI (10 * (i / n) + i % n)) (-1)
theorem winner_ok2 {code c' : Nat} (hw : Wf n B) (hL : (empties n B).length ≤ 6) (hcode : code < (n + 1) ^ (empties n B).length) (he : EM σ n (empties n B)) (hW : WK σ n (BC n B c')) (hT : TBL σ n B (code + 1)) : ∃ τ x, f_R_winner σ (nI code) = some (x, τ) ∧ WK τ n (BC n B code) ∧ (∀ m s, m ≠ 91 → m ≠ 102 → τ m s = σ m s) ∧ Ans n (BC n B code) x ∧ (if x = -1 then (0 : Int32) else 1) = bI (dB (GW n (zc n (BC n B code)) (BC n B code))) := by
  have hn := hw.2.1
  obtain ⟨τ, h1, h2, h3⟩ := winner_ok hw hL hcode he hW hT
  have hG := GW_bc (code := code) hw
  rcases h3 with ⟨a, b⟩ | ⟨i, a, b, c, d⟩
  · refine ⟨τ, -1, a, h1, h2, Or.inl ⟨rfl, b⟩, ?_⟩
    rw [if_pos rfl, dB_f (fun h => by obtain ⟨i, h4, h5⟩ := hG.mp h; exact b i h4 h5)]
    rfl
  · obtain ⟨i1, i2, i3⟩ := idx_lt a
    have h4 : i / n < n * n := Nat.div_lt_of_lt_mul (by rw [← Nat.mul_assoc]; exact a)
    have h25 : n * n ≤ 25 := Nat.mul_le_mul hn hn
    refine ⟨τ, nI (10 * (i / n) + i % n), d, h1, h2, Or.inr ⟨i, a, b, c, rfl⟩, ?_⟩
    rw [if_neg (nm1 (by omega)), dB_t (hG.mpr ⟨i, a, b⟩)]
    rfl
theorem table_ok (hw : Wf n B) (hL : (empties n B).length ≤ 6) (he : EM σ n (empties n B)) (hW : WK σ n B) : ∃ x τ, f_R_wins_L109 (fun (v3_22 : Int32) (σ_23 : St) => some (v3_22, σ_23)) FU (-1) (nI ((n + 1) ^ (empties n B).length) - 1) σ = some (x, τ) ∧ (∀ m s, m ≠ 91 → m ≠ 102 → m ≠ 101 → τ m s = σ m s) ∧ Ans n B x := by
  have hpb := pow_b hw.2.1 hL
  have hpos : 0 < (n + 1) ^ (empties n B).length := Nat.pow_pos (by omega)
  generalize hTT : (n + 1) ^ (empties n B).length = T at *
  have A := loopE (fun m i (a : Int32 × St) => f_R_wins_L109 (fun (v3_22 : Int32) (σ_23 : St) => some (v3_22, σ_23)) m a.1 (nI (T - i) - 1) a.2) T
    (fun i a => (∃ c', WK a.2 n (BC n B c')) ∧ TBL a.2 n B (T - i) ∧ (∀ m s, m ≠ 91 → m ≠ 102 → m ≠ 101 → a.2 m s = σ m s) ∧ (0 < i → Ans n (BC n B (T - i)) a.1))
    (fun R => ∃ x τ, R = some (x, τ) ∧ (∀ m s, m ≠ 91 → m ≠ 102 → m ≠ 101 → τ m s = σ m s) ∧ Ans n B x) ?_ ?_ FU 0 (-1, σ) (by omega) (FU_gt (by omega)) ⟨⟨0, by rw [BC_0]; exact hW⟩, fun c' a b => by rw [hTT] at b; omega, fun m s _ _ _ => rfl, fun h => by omega⟩
  · exact A
  · rintro m i ⟨y, τ⟩ hi ⟨⟨c', p1⟩, p2, p3, p4⟩
    have p1 : WK τ n (BC n B c') := p1
    have p2 : TBL τ n B (T - i) := p2
    have p3 : ∀ m s, m ≠ 91 → m ≠ 102 → m ≠ 101 → τ m s = σ m s := p3
    obtain ⟨code, hc⟩ : ∃ code, T - i = code + 1 := ⟨T - i - 1, by omega⟩
    rw [hc] at p2
    have heτ : EM τ n (empties n B) := he.fr (p3 82 15 (by omega) (by omega) (by omega)) (fun s => p3 92 s (by omega) (by omega) (by omega))
    obtain ⟨υ, x, e, g1, g2, g3, g4⟩ := winner_ok2 hw hL (show code < (n + 1) ^ (empties n B).length by omega) heτ p1 p2
    refine Or.inr ⟨(x, wr υ 101 code (bI (dB (GW n (zc n (BC n B code)) (BC n B code))))), ?_, ⟨code, g1.fr (τ := wr υ 101 code (bI (dB (GW n (zc n (BC n B code)) (BC n B code))))) (by rw [wr_fn (by omega)]) (fun s => by rw [wr_fn (by omega)])⟩, fun k hk1 hk2 => ?_, fun m' s a b c => ?_, fun _ => ?_⟩
    · show f_R_wins_L109 _ (m + 1) y (nI (T - i) - 1) τ = f_R_wins_L109 _ m x (nI (T - (i + 1)) - 1) (wr υ 101 code (bI (dB (GW n (zc n (BC n B code)) (BC n B code)))))
      rw [hc, nI_pred, show T - (i + 1) = code by omega]
      rw [f_R_wins_L109.eq_2]
      rw [if_neg (nI_pos (by omega)), e, cal_some, ← g4]
      simp only [jn_eq]
      rw [show nI code + -1 = nI code - 1 from (Int32.sub_eq_add_neg ..).symm]
      by_cases hx : x = -1
      · rw [if_pos hx, if_pos hx, asz_nI (by omega) (by decide), zb_0]
      · rw [if_neg hx, if_neg hx, asz_nI (by omega) (by decide), zb_1]
    · show wr υ 101 code _ 101 k = _
      rw [wr_get]
      by_cases hk : k = code
      · rw [if_pos ⟨rfl, hk⟩, hk]
      · rw [if_neg (fun h => hk h.2), g2 101 k (by omega) (by omega)]
        have hk1 : T - (i + 1) ≤ k := hk1
        exact p2 k (by omega) hk2
    · show wr υ 101 code _ m' s = _
      rw [wr_fn c, g2 m' s a b, p3 m' s a b c]
    · show Ans n (BC n B (T - (i + 1))) x
      rw [show T - (i + 1) = code by omega]
      exact g3
  · rintro m ⟨y, τ⟩ ⟨_, _, p3, p4⟩
    refine ⟨y, τ, ?_, p3, ?_⟩
    · show f_R_wins_L109 _ (m + 1) y (nI (T - T) - 1) τ = _
      rw [Nat.sub_self]
      rw [f_R_wins_L109.eq_2]
      rw [if_pos (by decide)]
    · have := p4 hpos
      rw [Nat.sub_self, BC_0] at this
      exact this
theorem wins79 {L : Nat} (hL : L ≤ 6) (h2 : n ≤ 5) (hs : σ 82 13 = nI n) (hl : σ 82 15 = nI L) (K : Int32 → Option (Int32 × St)) : f_R_wins_L79 σ K FU 1 0 = K (nI ((n + 1) ^ L)) := by
  have hpb := pow_b h2 hL
  have A := loopE (fun m i (_ : Unit) => f_R_wins_L79 σ K m (nI ((n + 1) ^ i)) (nI i)) L (fun _ _ => True) (fun R => R = K (nI ((n + 1) ^ L))) ?_ ?_ FU 0 () (by omega) (FU_gt (by omega)) trivial
  · have A : f_R_wins_L79 σ K FU (nI ((n + 1) ^ 0)) (nI 0) = K (nI ((n + 1) ^ L)) := A
    rw [Nat.pow_zero] at A
    exact A
  · intro m i _ hi _
    refine Or.inr ⟨(), ?_, trivial⟩
    show f_R_wins_L79 σ K (m + 1) (nI ((n + 1) ^ i)) (nI i) = _
    rw [f_R_wins_L79.eq_2]
    rw [hl, if_pos (nI_lt hi (by omega)), hs, lt1_eq, nI_1, nI_mul, ← Nat.pow_succ, nI_1]
  · intro m _ _
    show f_R_wins_L79 σ K (m + 1) (nI ((n + 1) ^ L)) (nI L) = _
    rw [f_R_wins_L79.eq_2]
    rw [hl, if_neg (nI_nlt (Nat.le_refl _) (by omega))]
end WIN4
theorem ok_wins : Ok_wins Inv := by
  intro σ hI p0
  refine op_rd hI (Q := fun σ => f_Q_wins σ p0) (R := fun σ => f_R_wins σ p0) (fun M N B cw mt ct => ?_)
  have hM12 := cw.le
  rcases g_cases M cw.le p0 with ⟨j, hj, rfl⟩ | hx
  · have hG := cw.g hj
    have hn := hG.le
    have h25 : N j * N j ≤ 25 := Nat.mul_le_mul hn.2 hn.2
    have hcn := cnt_nle hG.1
    have hes := es_len hG.1
    have q0 : f_Q_wins σ (nI j) = if N j * N j - cnt (B j) ≤ 6 then cal (f_Grid_copy σ 2 (gid j)) fun r_12 σ_13 => cal (f_Game_winningMove σ_13 2) fun r_15 σ_16 => cap (f_Move_told σ_16 r_15 (σ_16 (gid j) 3)) fun r_18 => some (.ok r_18, σ_16) else some (.error 3, σ) := by
      unfold f_Q_wins
      rw [gridAt_in cw hj, cax_ok, empt_ok hG, cap_some, nI_sub hcn]
      simp only [jn_eq]
      rw [show (6 : Int32) = nI 6 from rfl]
      by_cases h6 : N j * N j - cnt (B j) ≤ 6
      · rw [if_pos (by rw [le_nI (by omega) (by omega)]; exact h6), if_pos h6, nst1, cax_ok]
      · rw [if_neg (by rw [le_nI (by omega) (by omega)]; exact h6), if_neg h6, nst0, cax_er]
    have r0 : ∀ σ1 : St, MW σ1 M N B → f_R_wins σ1 (nI j) = if N j * N j - cnt (B j) ≤ 6 then cal (f_R_copyToWork (wr (wr σ1 82 0 0) 82 0 0) (nI j)) fun r_9 σ_10 => cal (f_R_layEmpties σ_10) fun r_12 σ_13 => f_R_wins_L79 σ_13 (fun (v2_15 : Int32) => f_R_wins_L109 (fun (v3_22 : Int32) (σ_23 : St) => some (v3_22, σ_23)) FU (-1) (v2_15 - 1) σ_13) FU 1 0 else some (0, wr (wr σ1 82 0 0) 82 0 2) := by
      intro σ1 mw
      have mw2 := mw.k (FrK.t (v := 0))
      unfold f_R_wins
      rw [rgrid_in mw hj]
      simp only [cap_some, jn_eq, sto_eq]
      rw [if_neg (by decide), wr_at, if_pos (by decide), ald_nI (by omega) (by decide), mw2.od hj, ald_nI (by omega) (by decide), mw2.od hj, filled_ok mw2 hj, cap_some, nI_mul, nI_sub hcn, show (6 : Int32) = nI 6 from rfl]
      by_cases h6 : N j * N j - cnt (B j) ≤ 6
      · rw [if_pos (by rw [le_nI (by omega) (by omega)]; exact h6), if_pos h6, wr_at, if_pos (by decide)]
      · rw [if_neg (by rw [le_nI (by omega) (by omega)]; exact h6), if_neg h6, wr_at, if_neg (by decide)]
    by_cases h6 : N j * N j - cnt (B j) ≤ 6
    · obtain ⟨σ2, e2, g2, f2⟩ := copy_ok (k := 2) hG (by unfold gid; omega)
      have hwin := win_ok (n := N j) (k := 2) hn.1 hn.2 DP (N j * N j - cnt (B j)) 0 (B j) σ2 (show N j * N j - cnt (B j) < 40 by omega) rfl g2 (by omega)
      have fin : ∀ (x : Int32) (y : Int32) (σ3 : St), GJ 2 (N j) (B j) σ2 σ3 → f_Game_winningFrom DP σ2 2 (nI 0) = some (x, σ3) → f_Move_told σ3 x (nI (N j)) = some y → (∀ z, Ans (N j) (B j) z → z = y) → RdG cd_wins (fun σ => f_Q_wins σ (nI j)) (fun σ => f_R_wins σ (nI j)) σ M N B := by
        intro x y σ3 hJ e3 ht hz
        refine rd_k y (σ' := σ3) ?_ (fun m hm => ?_) (fun σ1 mw => ?_)
        · show f_Q_wins σ (nI j) = _
          rw [q0, if_pos h6, e2, cal_some]
          unfold f_Game_winningMove
          rw [show (0 : Int32) = nI 0 from rfl, e3, cal_some, cal_some, hJ.2 (gid j) (by unfold gid; omega), f2 (gid j) (by unfold gid; omega), hG.ord, ht, cap_some]
        · have h7 : m < 2 ∨ 5 < m := by unfold scr at hm; omega
          rw [hJ.2 m (by omega), f2 m (by omega)]
        · obtain ⟨τ, e, wk, f⟩ := copyW_ok ((mw.k (FrK.t (v := 0))).k (FrK.t (v := 0))) hj
          obtain ⟨υ, e4, he, f4⟩ := layEmpties_ok wk
          have wk2 : WK υ (N j) (B j) := wk.fr (f4 82 13 (by omega) (by omega)) (fun i => f4 91 i (by omega) (by omega))
          have hL : (empties (N j) (B j)).length ≤ 6 := by omega
          obtain ⟨z, ρ, e5, f5, hA⟩ := table_ok hG.1 hL he wk2
          refine ⟨ρ, ?_, ⟨fun m hm => funext (fun s => ?_), fun s hs => ?_⟩, ?_⟩
          · show f_R_wins σ1 (nI j) = _
            rw [r0 σ1 mw, if_pos h6, e, cal_some, e4, cal_some, wins79 hL hn.2 wk2.side he.1, e5, hz z hA]
          · rw [f5 m s (by omega) (by omega) (by omega), f4 m s (by omega) (by omega), f m s (by omega) (by omega), wr_fn (by omega), wr_fn (by omega)]
          · rw [f5 82 s (by omega) (by omega) (by omega), f4 82 s (by omega) (by omega), f 82 s (by omega) (by omega), wr_get, if_neg (by omega), wr_get, if_neg (by omega)]
          · rw [f5 82 0 (by omega) (by omega) (by omega), f4 82 0 (by omega) (by omega), f 82 0 (by omega) (by omega), wr_at]
      rcases hwin with ⟨σ3, a, b, c⟩ | ⟨i, σ3, a, b, c, d, e⟩
      · refine fin (-1) (-1) σ3 a b rfl (fun z hz => ?_)
        rcases hz with ⟨h, _⟩ | ⟨i, h1, h2, _⟩
        · exact h
        · exact absurd h2 (c i h1)
      · obtain ⟨i1, i2, i3⟩ := idx_lt a
        have hdm := Nat.div_add_mod (i / N j) (N j)
        refine fin _ (nI (10 * (i / N j) + i % N j)) σ3 d e ?_ (fun z hz => ?_)
        · unfold pk
          rw [told_pk hn.2 (by omega) (by omega) (by omega), hdm]
        · rcases hz with ⟨_, h⟩ | ⟨i', h1, h2, h3, h4⟩
          · exact absurd b (h i a)
          · have : i' = i := by
              rcases Nat.lt_trichotomy i' i with h | h | h
              · exact absurd h2 (c i' h)
              · exact h
              · exact absurd b (h3 i h)
            rw [h4, this]
    · refine rd_err 3 2 (σ' := σ) ?_ (FrC.refl σ) (by decide) (fun σ1 mw _ => ⟨0, wr (wr σ1 82 0 0) 82 0 2, ?_, FrK.t.trans FrK.t, rfl⟩)
      · show f_Q_wins σ (nI j) = _
        rw [q0, if_neg h6]
      · show f_R_wins σ1 (nI j) = _
        rw [r0 σ1 mw, if_neg h6]
  · refine rd_err 1 1 (σ' := σ) ?_ (FrC.refl σ) (by decide) (fun σ1 mw _ => ⟨0, wr σ1 82 0 1, ?_, FrK.t, rfl⟩)
    · show f_Q_wins σ _ = _
      unfold f_Q_wins
      rw [gridAt_out cw hx, cax_er]
    · show f_R_wins σ1 _ = _
      unfold f_R_wins
      rw [rgrid_out mw hx]
      rfl
