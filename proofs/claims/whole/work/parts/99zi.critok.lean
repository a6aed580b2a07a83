/-! critical holds -/
theorem ok_critical : Ok_critical Inv := by
  intro σ hI p0
  refine op_rd hI (Q := fun σ => f_Q_critical σ p0) (R := fun σ => f_R_critical σ p0) (fun M N B cw mt ct => ?_)
  have hM12 := cw.le
  rcases g_cases M cw.le p0 with ⟨j, hj, rfl⟩ | hx
  · have hG := cw.g hj
    have hn := hG.le
    have q0 : f_Q_critical σ (nI j) = if full (N j) (B j) = true ∧ N j < 5 then cal (f_Telling_fewestCells σ (gid j)) fun r_12 σ_13 => some (.ok r_12, σ_13) else some (.error 3, σ) := by
      unfold f_Q_critical
      rw [gridAt_in cw hj, cax_ok, sq_ok hG, cap_some, jn_eq, jn_eq, hG.ord]
      cases hf : full (N j) (B j)
      · rw [if_pos (show bI false = 0 from rfl), if_neg (fun h => by cases h.1)]; rfl
      · rw [if_neg (show ¬ bI true = 0 by decide)]
        by_cases h5 : N j < 5
        · rw [if_pos (show nI (N j) < 5 from nI_lt (show N j < 5 from h5) (by decide)), if_pos ⟨rfl, h5⟩]; rfl
        · rw [if_neg (show ¬ nI (N j) < 5 from nI_nlt (show 5 ≤ N j by omega) (by omega)), if_neg (fun h => h5 h.2)]; rfl
    have r0 : ∀ σ1 : St, MW σ1 M N B → f_R_critical σ1 (nI j) = if full (N j) (B j) = true ∧ N j < 5 then f_R_critical_L76 (nI j) (nI (N j * N j)) (fun (v3_27 : Int32) (σ_28 : St) => some (v3_27, σ_28)) (fun (σ_29 : St) => some (nI (N j * N j), σ_29)) FU 0 (wr (wr σ1 82 0 0) 82 0 0) else some (0, wr (wr σ1 82 0 0) 82 0 2) := by
      intro σ1 mw
      have mw1 := mw.k (FrK.t (v := 0))
      unfold f_R_critical
      rw [rgrid_in mw hj, cap_some, jn_eq, if_neg (show ¬ (1 : Int32) = 0 by decide)]
      show sto σ1 82 0 0 _ = _
      rw [sto_eq, jn_eq, wr_at, if_pos (show (0 : Int32) = 0 from rfl), rsq_ok mw1 hj, cap_some, jn_eq, jn_eq, ald_nI (by omega) (by decide), mw1.od hj]
      have fin : ∀ s : Int32, (sto (wr σ1 82 0 0) 82 0 s fun σ_34 => (fun (σ_7 : St) => if (σ_7 82 0) ≤ 0 then ald σ_7 83 12 (nI j) fun r_8 => ald σ_7 83 12 (nI j) fun r_9 => f_R_critical_L76 (nI j) (r_8 * r_9) (fun (v3_27 : Int32) (σ_28 : St) => some (v3_27, σ_28)) (fun (σ_29 : St) => some ((r_8 * r_9), σ_29)) FU 0 σ_7 else some (0, σ_7)) σ_34) = if s ≤ 0 then f_R_critical_L76 (nI j) (nI (N j * N j)) (fun (v3_27 : Int32) (σ_28 : St) => some (v3_27, σ_28)) (fun (σ_29 : St) => some (nI (N j * N j), σ_29)) FU 0 (wr (wr σ1 82 0 0) 82 0 s) else some (0, wr (wr σ1 82 0 0) 82 0 s) := by
        intro s
        have e83 : wr (wr σ1 82 0 0) 82 0 s 83 j = nI (N j) := by rw [wr_fn (by omega)]; exact mw1.od hj
        rw [sto_eq]
        show (if wr (wr σ1 82 0 0) 82 0 s 82 0 ≤ 0 then ald (wr (wr σ1 82 0 0) 82 0 s) 83 12 (nI j) _ else _) = _
        rw [wr_at, ald_nI (by omega) (by decide), ald_nI (by omega) (by decide), e83, nI_mul]
      cases hf : full (N j) (B j)
      · rw [if_pos (show bI false = 0 from rfl), if_neg (fun h => by cases h.1)]
        refine (fin 2).trans ?_
        rw [if_neg (by decide)]
      · rw [if_neg (show ¬ bI true = 0 by decide)]
        by_cases h5 : N j < 5
        · rw [if_neg (show ¬ nI (N j) = 5 by rw [show (5 : Int32) = nI 5 from rfl, eq_nI (by omega) (by omega)]; omega), if_pos ⟨rfl, h5⟩]
          refine (fin 0).trans ?_
          rw [if_pos (by decide)]
        · rw [if_pos (show nI (N j) = 5 by rw [show N j = 5 by omega]; rfl), if_neg (fun h => h5 h.2)]
          refine (fin 2).trans ?_
          rw [if_neg (by decide)]
    by_cases hc : full (N j) (B j) = true ∧ N j < 5
    · have hs := full_sq hG.1 hc.1
      obtain ⟨τ, v, e, ha, fr⟩ := fewest_ok mt hG hs (show N j ≤ 4 by omega) (by unfold gid; omega)
      refine rd_k (nI v) (σ' := τ) ?_ (fun m hm => funext (fun s => fr m s (by unfold scr at hm; omega) (by unfold scr at hm; omega))) (fun σ1 mw => ?_)
      · show f_Q_critical σ (nI j) = _
        rw [q0, if_pos hc, e, cal_some]
      · have mw2 := (mw.k (FrK.t (v := 0))).k (FrK.t (v := 0))
        obtain ⟨υ, w, e2, ha2, fr2⟩ := crit76 mw2 hj hs (show N j ≤ 4 by omega)
        have : v = w := ANS_uq ha ha2
        subst this
        refine ⟨υ, ?_, (FrK.t.trans FrK.t).trans fr2.k, ?_⟩
        · show f_R_critical σ1 (nI j) = _
          rw [r0 σ1 mw, if_pos hc, e2]
        · rw [fr2 82 0 (by omega) (by omega) (by omega) (by omega), wr_at]
    · refine rd_err 3 2 (σ' := σ) ?_ (FrC.refl σ) (by decide) (fun σ1 mw _ => ⟨0, wr (wr σ1 82 0 0) 82 0 2, ?_, FrK.t.trans FrK.t, wr_at⟩)
      · show f_Q_critical σ (nI j) = _
        rw [q0, if_neg hc]
      · show f_R_critical σ1 (nI j) = _
        rw [r0 σ1 mw, if_neg hc]
  · refine rd_err 1 1 (σ' := σ) ?_ (FrC.refl σ) (by decide) (fun σ1 mw _ => ⟨0, wr σ1 82 0 1, ?_, FrK.t, wr_at⟩)
    · show f_Q_critical σ _ = _
      unfold f_Q_critical
      rw [gridAt_out cw hx, cax_er]
    · show f_R_critical σ1 _ = _
      unfold f_R_critical
      rw [rgrid_out mw hx, cap_some, jn_eq, if_pos (show (0 : Int32) = 0 from rfl)]
      show sto σ1 82 0 1 _ = _
      rw [sto_eq, jn_eq, wr_at, if_neg (show ¬ (1 : Int32) = 0 by decide)]
      show (if wr σ1 82 0 1 82 0 ≤ 0 then _ else _) = _
      rw [wr_at, if_neg (by decide)]
