/-! mates holds -/
theorem KTm_le : ∀ n, n ≤ 5 → KTm n ≤ 1000000000000 := by
  intro n hn
  rcases (by omega : n = 0 ∨ n = 1 ∨ n = 2 ∨ n = 3 ∨ n = 4 ∨ n = 5) with rfl | rfl | rfl | rfl | rfl | rfl <;> decide
section RC3
variable {σ : St} {M : Nat} {N : Nat → Nat} {B : Nat → Bd}
theorem matesOf_ok (h : MW σ M N B) (ca : CA σ) {j : Nat} (hj : j < M) (hs : SQ (N j) (B j)) : ∃ τ, f_R_matesOf σ (nI j) = some (nI (MB (N j) (B j)).length, τ) ∧ LA τ (N j) ∧ ARm τ (N j) (MB (N j) (B j)) ∧ ∀ m s, ¬ (m = 82 ∧ (s = 9 ∨ s = 10 ∨ s = 22)) → m ≠ 89 → m ≠ 97 → m ≠ 91 → m ≠ 93 → m ≠ 98 → τ m s = σ m s := by
  have hM := h.le
  have hn := h.n hj
  have hf := fac_le hn.1 hn.2
  obtain ⟨σ4, e4, la, l97, h22, f4⟩ := crosses_ok h ca hj hs
  have hle := FL_le (p := fun m => TRV (N j) (B j) (lp (N j) m)) (k := facN (N j))
  have hlenB : (MB (N j) (B j)).length < 1000000000 := by
    rw [← MA_len hn.1 hn.2]
    exact MA_le hn.1 hn.2
  have sm : SMr (wr σ4 98 0 (-1)) (N j) (FL (fun m => TRV (N j) (B j) (lp (N j) m)) (facN (N j))) 0 (fun _ => 0) := by
    refine SMr.fr (σ := σ4) ⟨la, l97, h22, fun i hi => by omega⟩ (fun o _ _ ho => wr_fn ho) (fun i hi => by omega)
  obtain ⟨cst, τ, hc, e5, ar, _, f5⟩ := mate_all hn.2 hn.1 (fun i hi => (FL_mem.mp hi).1) (show (FL (fun m => TRV (N j) (B j) (lp (N j) m)) (facN (N j))).length ≤ 120 by omega) (fun (v3_20 : Int32) (σ_21 : St) => some (v3_20, σ_21)) (N j) 0 (by omega) (wr σ4 98 0 (-1)) (fun _ => 0) [] sm (fun s hs => by omega) (fun h => absurd rfl h) (fun _ => wr_at) (by
    show (MB (N j) (B j)).length < 2 ^ 31
    omega)
  have e5 : ∀ m, f_R_matesOf_L24 (nI (N j)) (fun (v3_20 : Int32) (σ_21 : St) => some (v3_20, σ_21)) (m + cst) 0 0 (wr σ4 98 0 (-1)) = f_R_matesOf_L24 (nI (N j)) (fun (v3_20 : Int32) (σ_21 : St) => some (v3_20, σ_21)) m (nI (MB (N j) (B j)).length) (nI 0 + -1) τ := e5
  have ar : ARm τ (N j) (MB (N j) (B j)) := ar
  have hk := KTm_le (N j) hn.2
  obtain ⟨k, hFU⟩ : ∃ k, FU = k + 1 + cst := by
    have := FU_gt (n := cst + 1) (by omega)
    exact ⟨FU - cst - 1, by omega⟩
  refine ⟨τ, ?_, ?_, ar, fun m s h1 h2 h3 h4 h5 h6 => ?_⟩
  · unfold f_R_matesOf
    rw [ald_nI (by omega) (by decide), h.od hj, e4, cal_some, show (0 : Int32) = nI 0 from rfl, ast_nI (by omega) (by decide)]
    show f_R_matesOf_L24 (nI (N j)) (fun (v3_20 : Int32) (σ_21 : St) => some (v3_20, σ_21)) FU 0 0 (wr σ4 98 0 (-1)) = _
    rw [hFU, e5, f_R_matesOf_L24.eq_2, if_pos (show nI 0 + -1 < 0 by decide)]
  · refine la.fr ?_ ?_ ?_
    · rw [f5 82 (by omega) (by omega) (by omega), wr_fn (by omega)]
    · rw [f5 82 (by omega) (by omega) (by omega), wr_fn (by omega)]
    · rw [f5 89 (by omega) (by omega) (by omega), wr_fn (by omega)]
  · rw [f5 m h4 h5 h6, wr_fn h6, f4 m s h1 h2 h3]
end RC3
theorem ok_mates : Ok_mates Inv := by
  intro σ hI p0
  refine op_rd hI (Q := fun σ => f_Q_mates σ p0) (R := fun σ => f_R_mates σ p0) (fun M N B cw mt ct => ?_)
  refine sq1 cw (by decide) (QB := fun g σ => cal (f_Mating_findMates σ g) fun r_10 σ_11 => some (.ok r_10, σ_11)) (RB := fun σ_3 => cal (f_R_matesOf σ_3 p0) fun r_5 σ_6 => some (r_5, σ_6)) (fun _ => rfl) (fun _ => rfl) ?_
  rintro j hj rfl hs hG
  have hn := hG.le
  obtain ⟨τ, e, _, f⟩ := findMates_ok mt hG hs (by unfold gid; omega)
  refine ⟨nI (MA (N j) (B j)).length, τ, ?_, fun m hm => f m (by unfold scr at hm; omega), fun σ1 mw ca h0 => ?_⟩
  · show cal (f_Mating_findMates σ (gid j)) _ = _
    rw [e, cal_some]
  · obtain ⟨υ, e2, la, _, f2⟩ := matesOf_ok mw ca hj hs
    refine ⟨υ, ?_, ⟨fun m hm => funext (fun s => f2 m s (by omega) (by omega) (by omega) (by omega) (by omega) (by omega)), f2 82 1 (by omega) (by omega) (by omega) (by omega) (by omega) (by omega), f2 82 4 (by omega) (by omega) (by omega) (by omega) (by omega) (by omega)⟩, la.ca hn.1 hn.2, by rw [f2 82 0 (by omega) (by omega) (by omega) (by omega) (by omega) (by omega)]; exact h0⟩
    show cal (f_R_matesOf σ1 (nI j)) _ = _
    rw [e2, cal_some, MA_len hn.1 hn.2]
