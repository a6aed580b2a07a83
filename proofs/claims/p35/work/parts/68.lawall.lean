/-! the whole law -/
def p_S (N : Nat) (xs : Nat → Int32) (r_2 r_4 s_9 : Int32) : Int32 → St → Option Int32 := fun (s_11 : Int32) (σ_12 : St) => jn (fun (s_14 : Int32) (σ_15 : St) => f_L_law_L114 r_2 (2 + r_4) s_9 s_14 (fun (σ_27 : St) => f_L_law_L178 N xs (2 + r_4) (fun (v8_189 : Int32) (σ_190 : St) => some v8_189) 46 s_14 1 σ_27) FU 0 σ_15) fun j109_13 =>
  jn (fun (σ_192 : St) => j109_13 0 σ_192) fun j108_191 =>
  if s_11 = 0 then
    cay (f_Q_conjugate σ_12 0 0) fun r_194 σ_195 =>
    if r_194 = 1 then
      j109_13 1 σ_195
    else
      j108_191 σ_195
  else
    j108_191 σ_12
section LV9
theorem pl_chkC {σ τ : St} (e : f_Q_conjugate σ 0 0 = some (.ok 1, τ)) (K : Int32 → St → Option Int32) :
    (jn K fun j109 => jn (fun (σ : St) => j109 0 σ) fun j108 => if (0 : Int32) = 0 then cay (f_Q_conjugate σ 0 0) fun r_194 σ_195 => if r_194 = 1 then j109 1 σ_195 else j108 σ_195 else j108 σ) = K 1 τ := by
  simp only [jn_eq, if_true, e, cay_ok]
theorem pl_law {N : Nat} (hN : N ≤ 260) (xs : Nat → Int32) {σ : St} (h0 : σ 0 8 = 0) : f_L_law N xs σ = some 1 := by
  obtain ⟨y, ey⟩ := pl_cell hN xs (k := 0) (by omega)
  have ey : f_L_cell N xs 0 = some y := ey
  obtain ⟨t, ht, et⟩ := pl_up (σ := σ) y (m := 4) (by omega) (by omega)
  have et : f_L_up σ y 4 = some (nI t) := et
  obtain ⟨w, hw, ew⟩ := pl_up (σ := σ) (y / 16) (m := 2) (by omega) (by omega)
  have ew : f_L_up σ (y / 16) 2 = some (nI w) := ew
  obtain ⟨d, hd, ed⟩ := pl_up (σ := σ) (y / 32) (m := 5) (by omega) (by omega)
  have ed : ∀ τ : St, f_L_up τ (y / 32) 5 = some (nI d) := fun τ => ed
  have hn : (2 + nI t : Int32) = nI (2 + t) := nI_add 2 t
  have n1 : 2 ≤ 2 + t := by omega
  have n2 : 2 + t ≤ 5 := by omega
  have fin : ∀ (s9 : Int32) (X : Bd) (σa : St), CW σa 1 (fun _ => 2 + t) (fun _ => X) → (∀ (τ : St) (J : Int32 → Option Int32) (i : Nat), i < (2 + t) * (2 + t) → (if s9 = 0 then dvi (nI i) (nI (2 + t)) fun q_21 => rmi (nI i) (nI (2 + t)) fun q_22 => dvi y 32 fun q_23 => cap (f_L_up τ q_23 5) fun r_25 => rmi ((q_21 + q_22) + r_25) (nI (2 + t)) fun q_26 => J q_26 else J (-1)) = J (ce (X (i / (2 + t)) (i % (2 + t))))) → p_S N xs y (nI t) s9 0 σa = some 1 := by
    intro s9 X σa hC hv
    obtain ⟨τ, e, l1, _⟩ := lq_conj hC
    unfold p_S
    rw [pl_chkC e, hn]
    obtain ⟨τ2, e2, a1, a2, f2⟩ := pl_114 (σ := τ) n1 n2 y s9 1 X hv (fun (σ_27 : St) => f_L_law_L178 N xs (nI (2 + t)) (fun (v8_189 : Int32) (σ_190 : St) => some v8_189) 46 1 1 σ_27)
    rw [e2]
    exact pl_turns hN xs 46 1 τ2 X (l1.lo f2) a1 a2 (by omega) (by omega)
  unfold f_L_law
  rw [ey, cap_some, et, cap_some, pl_dvi (by decide), ew, cap_some, jn_eq]
  by_cases hw0 : w = 0
  · subst hw0
    obtain ⟨σa, ea, ca, fa⟩ := lq_grid h0 n1 n2
    have ea : f_Q_grid σ (2 + nI t) = some (.ok 0, σa) := by rw [hn]; exact ea
    rw [if_pos (show nI 0 = 0 from rfl)]
    show jn _ _ = _
    rw [jn_eq, if_neg (show ¬ (1 : Int32) = 0 by decide), ea, cay_ok]
    exact fin 1 B0 σa ca (fun τ J i hi => by rw [if_neg (by decide)]; rfl)
  · have hw1 : ¬ nI w = 0 := by
      rw [show (0 : Int32) = nI 0 from rfl, eq_nI (by omega) (by omega)]
      exact hw0
    obtain ⟨σa, ea, ca, fa⟩ := lq_linear h0 n1 n2 hd
    have ea : f_Q_linear σ (2 + nI t) 1 1 (nI d) = some (.ok 0, σa) := by rw [hn]; exact ea
    rw [if_neg hw1]
    show jn _ _ = _
    rw [jn_eq, if_pos rfl, pl_dvi (by decide), ed σ, cap_some, ea, cay_ok]
    refine fin 0 (linB (2 + t) 1 1 d) σa ca (fun τ J i hi => ?_)
    have hr : i / (2 + t) < 2 + t := Nat.div_lt_of_lt_mul hi
    have hc : i % (2 + t) < 2 + t := Nat.mod_lt _ (by omega)
    have h25 : (2 + t) * (2 + t) ≤ 25 := Nat.mul_le_mul n2 n2
    rw [if_pos rfl, dvi_nI (by omega) (by omega) (by omega), rmi_nI (by omega) (by omega) (by omega), pl_dvi (by decide), ed τ, cap_some, nI_add, nI_add, rmi_nI (by omega) (by omega) (by omega), linB_in hr hc, ce_s, Nat.one_mul, Nat.one_mul]
theorem init_ok {N : Nat} (hN : N ≤ 260) (xs : Nat → Int32) : Init9 (fun σ => f_L_law N xs σ = some 1) := by
  obtain ⟨σm, e, _, f⟩ := maps_ok (σ := wr (wr (fun _ _ => 0) 2 3 2) 2 4 0) (fun x => by rw [wr_fn (by omega), wr_fn (by omega)])
  have hz : ∀ m j, 10 ≤ m → σm m j = 0 := fun m j hm => by rw [f m (by omega) (by omega), wr_fn (by omega), wr_fn (by omega)]
  refine ⟨σm, e, hz, pl_law hN xs ?_⟩
  simp [q_end, wr_get]
end LV9
