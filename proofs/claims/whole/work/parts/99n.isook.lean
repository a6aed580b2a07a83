theorem ok_isotopies : Ok_isotopies Inv := by
  intro σ hI p0 p1
  refine op_rd hI (Q := fun σ => f_Q_isotopies σ p0 p1) (R := fun σ => f_R_isotopies σ p0 p1) (fun M N B cw mt ct => ?_)
  have hM12 := cw.le
  rcases g_cases M cw.le p0 with ⟨i, hi, rfl⟩ | hx
  · have hG := cw.g hi
    rcases g_cases M cw.le p1 with ⟨j, hj, rfl⟩ | hx
    · have hG2 := cw.g hj
      have n1 := hG.le
      have n2 := hG2.le
      have q0 : f_Q_isotopies σ (nI i) (nI j) = if (full (N i) (B i) && full (N j) (B j)) = true then (if N i = N j then cal (f_Symmetry_isotopiesBetween σ (gid i) (gid j)) fun r_15 σ_16 => some (.ok r_15, σ_16) else some (.ok 0, σ)) else some (.error 3, σ) := by
        unfold f_Q_isotopies
        rw [gridAt_in cw hi, cax_ok, gridAt_in cw hj, cax_ok, sq_ok hG, sq_ok hG2, cap_some, jn_eq, jn_eq, cap_some]
        cases full (N i) (B i)
        · rfl
        · rw [if_neg (by decide)]
          cases full (N j) (B j)
          · rfl
          · rw [if_neg (by decide)]
            show cax (f_Q_needState σ 1) _ = _
            rw [nst1, cax_ok, hG.ord, hG2.ord, if_pos (show (true && true) = true from rfl)]
            by_cases e : N i = N j
            · rw [if_pos (show nI (N i) = nI (N j) by rw [e]), if_pos e]
            · rw [if_neg (show ¬ nI (N i) = nI (N j) by rw [eq_nI (by omega) (by omega)]; exact e), if_neg e]
      have r0 : ∀ σ1 : St, MW σ1 M N B → ∃ τ, FrK σ1 τ ∧ τ 82 0 = (if (full (N i) (B i) && full (N j) (B j)) = true then 0 else 2) ∧ f_R_isotopies σ1 (nI i) (nI j) = if τ 82 0 ≤ 0 then (if N i = N j then cal (f_R_layAll τ (nI (N i))) fun r_12 σ_13 => f_R_isotopies_L96 (nI i) (nI j) (fun (v3_21 : Int32) (σ_22 : St) => some (v3_21, σ_22)) FU 0 0 σ_13 else some (0, τ)) else some (0, τ) := by
        intro σ1 mw
        have hM := mw.le
        refine ⟨wr (wr σ1 82 0 0) 82 0 (if (full (N i) (B i) && full (N j) (B j)) = true then 0 else 2), FrK.t.trans FrK.t, wr_at, ?_⟩
        unfold f_R_isotopies
        rw [rgrid_in mw hi, rgrid_in mw hj, cap_some, jn_eq, jn_eq, if_neg (show ¬ (1 : Int32) = 0 by decide), cap_some, if_neg (show ¬ (1 : Int32) = 0 by decide)]
        show sto σ1 82 0 0 _ = _
        rw [sto_eq, jn_eq, wr_at, if_pos (show (0 : Int32) = 0 from rfl), rsq_ok (mw.k FrK.t) hi, rsq_ok (mw.k FrK.t) hj, cap_some, jn_eq, jn_eq, cap_some]
        have key : ∀ s : Int32, (sto (wr σ1 82 0 0) 82 0 s fun σ_27 => (fun (σ_7 : St) => if (σ_7 82 0) ≤ 0 then ald σ_7 83 12 (nI i) fun r_8 => ald σ_7 83 12 (nI j) fun r_9 => if r_8 = r_9 then ald σ_7 83 12 (nI i) fun r_10 => cal (f_R_layAll σ_7 r_10) fun r_12 σ_13 => f_R_isotopies_L96 (nI i) (nI j) (fun (v3_21 : Int32) (σ_22 : St) => some (v3_21, σ_22)) FU 0 0 σ_13 else some (0, σ_7) else some (0, σ_7)) σ_27) = if wr (wr σ1 82 0 0) 82 0 s 82 0 ≤ 0 then (if N i = N j then cal (f_R_layAll (wr (wr σ1 82 0 0) 82 0 s) (nI (N i))) fun r_12 σ_13 => f_R_isotopies_L96 (nI i) (nI j) (fun (v3_21 : Int32) (σ_22 : St) => some (v3_21, σ_22)) FU 0 0 σ_13 else some (0, (wr (wr σ1 82 0 0) 82 0 s))) else some (0, (wr (wr σ1 82 0 0) 82 0 s)) := by
          intro s
          have ei : wr (wr σ1 82 0 0) 82 0 s 83 i = nI (N i) := by rw [wr_fn (by omega), wr_fn (by omega), mw.od hi]
          have ej : wr (wr σ1 82 0 0) 82 0 s 83 j = nI (N j) := by rw [wr_fn (by omega), wr_fn (by omega), mw.od hj]
          rw [sto_eq]
          show (if wr (wr σ1 82 0 0) 82 0 s 82 0 ≤ 0 then ald (wr (wr σ1 82 0 0) 82 0 s) 83 12 (nI i) _ else _) = _
          rw [ald_nI (by omega) (by decide), ald_nI (by omega) (by decide), ald_nI (by omega) (by decide), ei, ej]
          by_cases e : N i = N j
          · rw [if_pos (show nI (N i) = nI (N j) by rw [e]), if_pos e]
          · rw [if_neg (show ¬ nI (N i) = nI (N j) by rw [eq_nI (by omega) (by omega)]; exact e), if_neg e]
        cases full (N i) (B i)
        · rw [if_pos (by rfl)]
          exact key 2
        · rw [if_neg (show ¬ bI true = 0 by decide)]
          cases full (N j) (B j)
          · rw [if_pos (by rfl)]
            exact key 2
          · rw [if_neg (show ¬ bI true = 0 by decide)]
            exact key 0
      cases hf : (full (N i) (B i) && full (N j) (B j))
      · refine rd_err 3 2 (σ' := σ) ?_ (FrC.refl σ) (by decide) (fun σ1 mw _ => ?_)
        · show f_Q_isotopies σ (nI i) (nI j) = _
          rw [q0, hf]; rfl
        · obtain ⟨τ, k, h0, e3⟩ := r0 σ1 mw
          rw [hf] at h0
          have h0 : τ 82 0 = 2 := h0
          refine ⟨0, τ, ?_, k, h0⟩
          show f_R_isotopies σ1 (nI i) (nI j) = _
          rw [e3, h0, if_neg (by decide)]
      · obtain ⟨hf1, hf2⟩ := Bool.and_eq_true_iff.mp hf
        have hs := full_sq hG.1 hf1
        have hs2 := full_sq hG2.1 hf2
        by_cases e : N i = N j
        · have hG2' := hG2
          have hs2' := hs2
          rw [← e] at hG2' hs2'
          obtain ⟨σ2, e2, f2⟩ := isoBetween_ok mt hG hG2' hs hs2' (by unfold gid; omega) (by unfold gid; omega)
          refine rd_ok (nI (sumN (facN (N i)) (fun m => sumN (N i) (fun d => (CC (N i) (B i) (B j) (cp m) d).toNat)))) (σ' := σ2) ?_ (fun m hm => f2 m (by unfold scr at hm; omega)) (fun σ1 mw ca _ => ?_)
          · show f_Q_isotopies σ (nI i) (nI j) = _
            rw [q0, hf, if_pos rfl, if_pos e, e2, cal_some]
          · obtain ⟨τ, k, h0, e3⟩ := r0 σ1 mw
            rw [hf, if_pos rfl] at h0
            obtain ⟨υ, e4, la, f4⟩ := layAll_ok (k.ca ca) n1.1 n1.2
            have mwτ := mw.k k
            have mwυ : MW υ M N B := mwτ.fr ⟨fun m hm => funext (fun s => f4 m s (by omega) (by omega)), f4 82 1 (by omega) (by omega), f4 82 4 (by omega) (by omega)⟩
            obtain ⟨φ, e5, f5⟩ := iso96 mwυ la hi hj rfl e.symm hs hs2' (fun (v3_21 : Int32) (σ_22 : St) => some (v3_21, σ_22))
            have km := k.m
            refine ⟨φ, ?_, ⟨fun m hm => ?_, ?_, ?_⟩, LA.ca (la.fr (by rw [f5 82 (by omega)]) (by rw [f5 82 (by omega)]) (f5 89 (by omega))) n1.1 n1.2, by rw [f5 82 (by omega), f4 82 0 (by omega) (by omega), h0]⟩
            · show f_R_isotopies σ1 (nI i) (nI j) = _
              rw [e3, h0, if_pos (by decide), if_pos e, e4, cal_some, e5]
              have := iso_sum n1.1 n1.2 hs hs2'
              rw [this]
              rfl
            · rw [f5 m (by omega), show υ m = τ m from funext (fun s => f4 m s (by omega) (by omega)), km.1 m hm]
            · rw [f5 82 (by omega), f4 82 1 (by omega) (by omega), km.2.1]
            · rw [f5 82 (by omega), f4 82 4 (by omega) (by omega), km.2.2]
        · refine rd_k 0 (σ' := σ) ?_ (FrC.refl σ) (fun σ1 mw => ?_)
          · show f_Q_isotopies σ (nI i) (nI j) = _
            rw [q0, hf, if_pos rfl, if_neg e]
          · obtain ⟨τ, k, h0, e3⟩ := r0 σ1 mw
            rw [hf, if_pos rfl] at h0
            refine ⟨τ, ?_, k, h0⟩
            show f_R_isotopies σ1 (nI i) (nI j) = _
            rw [e3, h0, if_pos (by decide), if_neg e]
    · refine rd_err 1 1 (σ' := σ) ?_ (FrC.refl σ) (by decide) (fun σ1 mw _ => ⟨0, wr σ1 82 0 1, ?_, FrK.t, rfl⟩)
      · show f_Q_isotopies σ _ _ = _
        unfold f_Q_isotopies
        rw [gridAt_in cw hi, cax_ok, gridAt_out cw hx, cax_er]
      · show f_R_isotopies σ1 (nI i) p1 = some (0, wr σ1 82 0 1)
        unfold f_R_isotopies
        rw [rgrid_in mw hi, rgrid_out mw hx, cap_some, jn_eq, jn_eq, if_neg (show ¬ (1 : Int32) = 0 by decide), cap_some, if_pos rfl]
        show sto σ1 82 0 1 _ = _
        rw [sto_eq, jn_eq, wr_at, if_neg (by decide)]
        show (if wr σ1 82 0 1 82 0 ≤ 0 then _ else _) = _
        rw [wr_at, if_neg (by decide)]
  · refine rd_err 1 1 (σ' := σ) ?_ (FrC.refl σ) (by decide) (fun σ1 mw _ => ⟨0, wr σ1 82 0 1, ?_, FrK.t, rfl⟩)
    · show f_Q_isotopies σ _ _ = _
      unfold f_Q_isotopies
      rw [gridAt_out cw hx, cax_er]
    · show f_R_isotopies σ1 p0 p1 = some (0, wr σ1 82 0 1)
      unfold f_R_isotopies
      rw [rgrid_out mw hx, cap_some, jn_eq, jn_eq, if_pos rfl]
      show sto σ1 82 0 1 _ = _
      rw [sto_eq, jn_eq, wr_at, if_neg (by decide)]
      show (if wr σ1 82 0 1 82 0 ≤ 0 then _ else _) = _
      rw [wr_at, if_neg (by decide)]
