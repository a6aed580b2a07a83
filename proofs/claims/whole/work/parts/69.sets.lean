/-! how many closed sets -/
noncomputable def isCl (n : Nat) (S : Nat → Nat → Nat) (v : Nat) : Nat := (dB (cl n S (fun s => v.testBit s) = fun s => v.testBit s)).toNat
theorem ni_b (b : Bool) (a : Nat) : (if b = true then nI a + 1 else nI a) = nI (a + b.toNat) := by cases b <;> simp [nI_1]
theorem tn_le (b : Bool) : b.toNat ≤ 1 := by cases b <;> decide
theorem clSets_ok {σ : St} {k n : Nat} {B : Nat → Nat → Nat} (h : GOK σ k n B) (hs : SQ n B) : f_Laws_closedSets σ k = some (nI (sumN (2 ^ n - 1) (fun i => isCl n (sg B) (i + 1)))) := by
  have hn := h.le
  have hp2 := pow32 hn.1 hn.2
  have hS : ∀ a b, a < n → b < n → sg B a b < n := fun a b ha hb => hs.lt ha hb
  unfold f_Laws_closedSets
  refine (loop_sum (fun m i a => f_Laws_closedSets_L4 k σ (fun v => some v) m (nI a) (nI (i + 1))) (2 ^ n - 1) 1 (fun i => isCl n (sg B) (i + 1)) (fun a => some (nI a)) (by omega) (fun i _ => tn_le _) 0 ?_ ?_).trans ?_
  · intro m i x hi hx
    show f_Laws_closedSets_L4 k σ _ (m + 1) (nI x) (nI (i + 1)) = _
    rw [f_Laws_closedSets_L4.eq_2]
    rw [all_ok h, all_n hn.1 hn.2, cap_some, if_pos (nI_le (by omega) (by omega)), bits32 (i + 1) (by omega), prod_ok h hs, ← bits32 (i + 1) (by omega)]
    simp only [cap_some, jn_eq, nI_1]
    rw [bits32 (i + 1) (by omega), sI_andn, ← sI_none]
    have e : (sI (fun s => dB (prd n (sg B) (fun s => (i + 1).testBit s) s) && !(i + 1).testBit s) = sI fun _ => false) = (cl n (sg B) (fun s => (i + 1).testBit s) = fun s => (i + 1).testBit s) := by
      rw [sI_eq hn.2 (fun s hs => ?_) (fun s hs => by cases hs)]
      · apply propext
        constructor
        · intro h
          funext s
          have h1 := congrFun h s
          unfold cl
          cases e1 : (i + 1).testBit s
          · simp only [e1, Bool.not_false, Bool.and_true] at h1
            rw [h1]; exact (Bool.or_false _).trans e1
          · show ((i + 1).testBit s || _) = true
            rw [e1]; rfl
        · intro h
          funext s
          have h1 := congrFun h s
          unfold cl at h1
          cases e1 : (i + 1).testBit s
          · simp only [e1, Bool.false_or] at h1
            rw [h1]; rfl
          · rw [Bool.not_true, Bool.and_false]
      · have h1 := Bool.and_eq_true_iff.mp hs
        obtain ⟨a, ha, b, hb, _, _, rfl⟩ := dB_iff.mp h1.1
        exact hS a b ha hb
    by_cases h3 : cl n (sg B) (fun s => (i + 1).testBit s) = fun s => (i + 1).testBit s
    · rw [if_pos (e ▸ h3 : sI _ = sI _), isCl, dB_t h3]; rfl
    · rw [if_neg (fun h4 => h3 (e ▸ h4)), isCl, dB_f h3]; rfl
  · intro m x hx
    show f_Laws_closedSets_L4 k σ _ (m + 1) (nI x) (nI (2 ^ n - 1 + 1)) = _
    rw [f_Laws_closedSets_L4.eq_2]
    rw [all_ok h, all_n hn.1 hn.2, cap_some, if_neg (nI_ge (by omega) (by omega))]
  · rw [Nat.zero_add]
theorem rclSets_ok {σ : St} {M : Nat} {N : Nat → Nat} {B : Nat → Nat → Nat → Nat} (h : MW σ M N B) {j : Nat} (hj : j < M) (hs : SQ (N j) (B j)) : f_R_closedSets σ (nI j) = some (nI (sumN (2 ^ N j - 1) (fun i => isCl (N j) (sg (B j)) (i + 1)))) := by
  have hM := h.le; have hn := h.n hj; have ho := h.od hj
  have hp2 := pow32 hn.1 hn.2
  have hS : ∀ a b, a < N j → b < N j → sg (B j) a b < N j := fun a b ha hb => hs.lt ha hb
  unfold f_R_closedSets
  refine (loop_sum (fun m i a => f_R_closedSets_L4 (nI j) σ (fun v => some v) m (nI a) (nI (i + 1))) (2 ^ N j - 1) 1 (fun i => isCl (N j) (sg (B j)) (i + 1)) (fun a => some (nI a)) (by omega) (fun i _ => tn_le _) 0 ?_ ?_).trans ?_
  · intro m i x hi hx
    show f_R_closedSets_L4 (nI j) σ _ (m + 1) (nI x) (nI (i + 1)) = _
    rw [f_R_closedSets_L4.eq_2]
    rw [ald_nI (by omega) (by decide), ho, shl_n hn.1 hn.2, if_pos (nI_lt (by omega) (by omega)), bits32 (i + 1) (by omega), rprod_ok h hj hs]
    simp only [cap_some, jn_eq]
    rw [← bits32 (i + 1) (by omega)]
    simp only [nI_1]
    rw [bits32 (i + 1) (by omega)]
    have hin : inN (N j) (fun s => (i + 1).testBit s) := bits_in (by omega)
    by_cases h3 : cl (N j) (sg (B j)) (fun s => (i + 1).testBit s) = fun s => (i + 1).testBit s
    · rw [if_pos (by rw [h3]), isCl, dB_t h3]; rfl
    · rw [if_neg (by rw [sI_eq hn.2 (cl_in hS hin) hin]; exact h3), isCl, dB_f h3, Int32.add_zero]; rfl
  · intro m x hx
    show f_R_closedSets_L4 (nI j) σ _ (m + 1) (nI x) (nI (2 ^ N j - 1 + 1)) = _
    rw [f_R_closedSets_L4.eq_2]
    rw [ald_nI (by omega) (by decide), ho, shl_n hn.1 hn.2, if_neg (nI_nlt (by omega) (by omega))]
  · rw [Nat.zero_add]
