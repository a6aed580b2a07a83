/-! mates, the class keeps the lower -/
def AC (σ : St) (n : Nat) (P : List Bd) : Prop := σ 23 6 = nI P.length ∧ (P ≠ [] → ∃ m, LOW P m ∧ GOK σ 30 n m)
def HF (n : Nat) (ch : Nat → Nat) (c : Nat) : Prop := ∀ s, s < c → fitM n (bdM n ch s) (cp (ch s)) s
section MC2
variable {σ : St} {n : Nat} {ch : Nat → Nat}
theorem bdM_mono {c : Nat} (h : HF n ch c) : ∀ e s, s + e = c → ∀ r k, bdM n ch s r k ≠ 0 → bdM n ch c r k = bdM n ch s r k := by
  intro e
  induction e with
  | zero => intro s hs r k _; rw [show s = c by omega]
  | succ e ih =>
    intro s hs r k h0
    have h1 : bdM n ch (s + 1) r k = bdM n ch s r k := by
      show putM n (bdM n ch s) (cp (ch s)) s r k = _
      apply putM_ne
      rintro ⟨hr, rfl⟩
      exact h0 ((h s (by omega)).2 r hr)
    rw [ih (s + 1) (by omega) r k (by rw [h1]; exact h0), h1]
theorem bdM_part {c s i : Nat} (h : HF n ch c) (hs : s < c) (hi : i ≤ n) : ∀ r k, putM i (bdM n ch s) (cp (ch s)) s r k ≠ 0 → putM i (bdM n ch s) (cp (ch s)) s r k = bdM n ch c r k := by
  intro r k h0
  have hm := bdM_mono h (c - (s + 1)) (s + 1) (by omega) r k
  by_cases hk : r < i ∧ k = cp (ch s) r
  · have e1 : putM i (bdM n ch s) (cp (ch s)) s r k = s + 1 := by unfold putM; rw [if_pos hk]
    have e2 : bdM n ch (s + 1) r k = s + 1 := by
      show putM n (bdM n ch s) (cp (ch s)) s r k = _
      unfold putM
      rw [if_pos ⟨by omega, hk.2⟩]
    rw [e1, hm (by rw [e2]; omega), e2]
  · rw [putM_ne hk] at h0 ⊢
    exact (bdM_mono h (c - s) s (by omega) r k h0).symm
theorem keep22 (mt : MT σ) (h1 : 2 ≤ n) (h2 : n ≤ 5) (hch : ∀ c, c < n → σ 25 c = nI (ch c) ∧ ch c < facN n) (hF : HF n ch n) (hw : Wf n (bdM n ch n)) {s : Nat} (hs : s < n) (hG : GOK σ 26 n (bdM n ch s)) (K : St → Option (Unit × St)) : ∃ τ, f_Mating_keepLower_L22 (nI n) (nI s) K FU 0 σ = K τ ∧ GOK τ 26 n (bdM n ch (s + 1)) ∧ ∀ m, m < 26 ∨ 29 < m → τ m = σ m := by
  have hf := fac_le h1 h2
  have hc := hch s hs
  have hp := (cp_pm h1 h2 hc.2).1
  refine loopE (fun f i (τ : St) => f_Mating_keepLower_L22 (nI n) (nI s) K f (nI i) τ) n (fun i τ => GOK τ 26 n (putM i (bdM n ch s) (cp (ch s)) s) ∧ ∀ m, m < 26 ∨ 29 < m → τ m = σ m)
    (fun R => ∃ τ, R = K τ ∧ GOK τ 26 n (bdM n ch (s + 1)) ∧ ∀ m, m < 26 ∨ 29 < m → τ m = σ m) ?_ ?_ FU 0 σ (by omega) (FU_gt (by omega)) ⟨by rw [putM_0]; exact hG, fun m _ => rfl⟩
  · rintro f i τ hi ⟨p1, p2⟩
    have mtτ : MT τ := fun m hm => by rw [p2 7 (by omega), p2 8 (by omega)]; exact mt m hm
    have e25 : τ 25 s = nI (ch s) := by rw [p2 25 (by omega)]; exact hc.1
    have hci := hp.1 i hi
    have hw2 : Wf n (upB (putM i (bdM n ch s) (cp (ch s)) s) i (cp (ch s) i) (s + 1)) := by
      rw [← putM_step]
      exact Wf_sub hw (bdM_part hF hs (by omega))
    have hse := set_eq p1 hi hci (v := s + 1) (by omega)
    rw [ce_s] at hse
    have hG2 := set_GOK p1 hi hci (v := s + 1) (by omega) hw2
    rw [← putM_step] at hG2
    refine Or.inr ⟨_, ?_, hG2, fun m hm => by rw [setSt_fr (by omega)]; exact p2 m hm⟩
    show f_Mating_keepLower_L22 (nI n) (nI s) K (f + 1) (nI i) τ = _
    rw [f_Mating_keepLower_L22.eq_2]
    rw [if_pos (nI_lt hi (by omega)), ald_nI (by omega) (by decide), e25, image_ok mtτ (by omega) (by omega), cap_some, hse, cal_some, nI_1]
  · rintro f τ ⟨p1, p2⟩
    refine ⟨τ, ?_, p1, p2⟩
    show f_Mating_keepLower_L22 (nI n) (nI s) K (f + 1) (nI n) τ = _
    rw [f_Mating_keepLower_L22.eq_2]
    rw [if_neg (nI_nlt (Nat.le_refl _) (by omega))]
theorem keep10 (mt : MT σ) (h1 : 2 ≤ n) (h2 : n ≤ 5) (hch : ∀ c, c < n → σ 25 c = nI (ch c) ∧ ch c < facN n) (hF : HF n ch n) (hw : Wf n (bdM n ch n)) (hG : GOK σ 26 n B0) (K : St → Option (Unit × St)) : ∃ τ, f_Mating_keepLower_L10 (nI n) K FU 0 σ = K τ ∧ GOK τ 26 n (bdM n ch n) ∧ ∀ m, m < 26 ∨ 29 < m → τ m = σ m := by
  refine loopE (fun f i (τ : St) => f_Mating_keepLower_L10 (nI n) K f (nI i) τ) n (fun i τ => GOK τ 26 n (bdM n ch i) ∧ ∀ m, m < 26 ∨ 29 < m → τ m = σ m)
    (fun R => ∃ τ, R = K τ ∧ GOK τ 26 n (bdM n ch n) ∧ ∀ m, m < 26 ∨ 29 < m → τ m = σ m) ?_ ?_ FU 0 σ (by omega) (FU_gt (by omega)) ⟨hG, fun m _ => rfl⟩
  · rintro f i τ hi ⟨p1, p2⟩
    have mtτ : MT τ := fun m hm => by rw [p2 7 (by omega), p2 8 (by omega)]; exact mt m hm
    obtain ⟨υ, e, g, fu⟩ := keep22 mtτ h1 h2 (fun c hc => by rw [p2 25 (by omega)]; exact hch c hc) hF hw hi p1 (fun (σ_10 : St) => f_Mating_keepLower_L10 (nI n) K f (nI i + 1) σ_10)
    refine Or.inr ⟨υ, ?_, g, fun m hm => (fu m hm).trans (p2 m hm)⟩
    show f_Mating_keepLower_L10 (nI n) K (f + 1) (nI i) τ = f_Mating_keepLower_L10 (nI n) K f (nI (i + 1)) υ
    rw [f_Mating_keepLower_L10.eq_2]
    rw [if_pos (nI_lt hi (by omega)), if_pos (show nI i < 5 from nI_lt (show i < 5 by omega) (by decide)), e]
    show f_Mating_keepLower_L10 (nI n) K f (nI i + 1) υ = _
    rw [nI_1]
  · rintro f τ ⟨p1, p2⟩
    refine ⟨τ, ?_, p1, p2⟩
    show f_Mating_keepLower_L10 (nI n) K (f + 1) (nI n) τ = _
    rw [f_Mating_keepLower_L10.eq_2]
    rw [if_neg (nI_nlt (Nat.le_refl _) (by omega))]
theorem keepLow_ok {P : List Bd} (mt : MT σ) (h1 : 2 ≤ n) (h2 : n ≤ 5) (hch : ∀ c, c < n → σ 25 c = nI (ch c) ∧ ch c < facN n) (hF : HF n ch n) (hw : Wf n (bdM n ch n)) (ac : AC σ n P) (hP : P.length < 1000000000) : ∃ τ, f_Mating_keepLower σ (nI n) = some ((), τ) ∧ AC τ n (P ++ [bdM n ch n]) ∧ ∀ m s, m < 26 ∨ 33 < m → ¬ (m = 23 ∧ s = 6) → τ m s = σ m s := by
  obtain ⟨σ1, e1, g1, f1⟩ := clear_ok 26 n h1 h2 σ
  have mt1 : MT σ1 := fun m hm => by rw [f1 7 (by omega), f1 8 (by omega)]; exact mt m hm
  unfold f_Mating_keepLower
  rw [e1, cal_some]
  obtain ⟨τ, e, g, f⟩ := keep10 mt1 h1 h2 (fun c hc => by rw [f1 25 (by omega)]; exact hch c hc) hF hw g1 (fun (σ_11 : St) => jn (fun (σ_13 : St) => sto σ_13 23 6 ((σ_13 23 6) + 1) fun σ_14 => some ((), σ_14)) fun j94_12 => jn (cal (f_Grid_copy σ_11 30 26) fun r_17 σ_18 => j94_12 σ_18) fun j83_15 => if (σ_11 23 6) = 0 then j83_15 else cap (f_Grid_isLowerThan σ_11 26 30) fun r_20 => if r_20 = 0 then j94_12 σ_11 else j83_15)
  have fr : ∀ m, m < 26 ∨ 29 < m → τ m = σ m := fun m hm => (f m hm).trans (f1 m hm)
  have h23 : τ 23 6 = nI P.length := by rw [fr 23 (by omega)]; exact ac.1
  have hlen : (P ++ [bdM n ch n]).length = P.length + 1 := by simp
  rw [e]
  simp only [jn_eq, sto_eq]
  rw [h23]
  have copy : ∃ υ, f_Grid_copy τ 30 26 = some ((), υ) ∧ GOK υ 30 n (bdM n ch n) ∧ ∀ m, m < 30 ∨ 33 < m → υ m = τ m := copy_ok (k := 30) g (by omega)
  obtain ⟨υ, e3, g3, f3⟩ := copy
  have newc : ∀ (hlow : LOW (P ++ [bdM n ch n]) (bdM n ch n)), ∃ ρ, (cal (f_Grid_copy τ 30 26) fun r_17 σ_18 => some ((), wr σ_18 23 6 (σ_18 23 6 + 1))) = some ((), ρ) ∧ AC ρ n (P ++ [bdM n ch n]) ∧ ∀ m s, m < 26 ∨ 33 < m → ¬ (m = 23 ∧ s = 6) → ρ m s = σ m s := by
    intro hlow
    refine ⟨wr υ 23 6 (υ 23 6 + 1), by rw [e3, cal_some], ⟨?_, fun _ => ⟨_, hlow, ?_⟩⟩, fun m s hm hs => ?_⟩
    · rw [wr_at, f3 23 (by omega), h23, nI_1, hlen]
    · exact g3.frame (fun m a b => wr_fn (by omega))
    · rw [wr_get, if_neg hs, f3 m (by omega), fr m (by omega)]
  by_cases hp : P = []
  · subst hp
    rw [if_pos (by rfl)]
    exact newc LOW_one
  · have hpos : 0 < P.length := List.length_pos_iff.mpr hp
    obtain ⟨m0, hl0, gm0⟩ := ac.2 hp
    have gm : GOK τ 30 n m0 := gm0.frame (fun m a b => fr m (by omega))
    rw [if_neg (nI_ne0 hpos (by omega)), lower_ok g gm, cap_some]
    by_cases hlt : ltC (bdM n ch n) m0
    · rw [dB_t hlt, if_neg (by decide)]
      exact newc (LOW_new hl0 hlt)
    · rw [dB_f hlt, if_pos (by rfl)]
      refine ⟨wr τ 23 6 (nI P.length + 1), rfl, ⟨?_, fun _ => ⟨m0, LOW_keep hl0 hlt, ?_⟩⟩, fun m s hm hs => ?_⟩
      · rw [wr_at, nI_1, hlen]
      · exact gm.frame (fun m a b => wr_fn (by omega))
      · rw [wr_get, if_neg hs, fr m (by omega)]
end MC2
