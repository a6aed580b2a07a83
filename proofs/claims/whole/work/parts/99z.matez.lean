/-! mates, the search: the next that fits -/
section RZ
variable {σ : St} {n : Nat} {L : List Nat} {ch : Nat → Nat}
def okAt (n : Nat) (L : List Nat) (C : Bd) (c y : Nat) : Prop := ∃ m, L[y]? = some m ∧ fitM n C (lp n m) c
theorem take69 (h2 : n ≤ 5) (la : LA σ n) (l97 : Lst 97 σ L) (hL : ∀ i, i ∈ L → i < facN n) (hLl : L.length ≤ 120) (hn : 2 ≤ n) (h22 : σ 82 22 = nI L.length) {c : Nat} (hc : c < n) (rc : RC σ L c ch) (v3 : Int32) (K : Int32 → Option (Int32 × St)) {i0 : Nat} (hi0 : i0 ≤ L.length) :
    ∃ x, i0 ≤ x ∧ x ≤ L.length ∧ f_R_matesOf_L69 (nI n) v3 (nI c) σ K FU (nI i0) = K (nI x) ∧ (∀ y, i0 ≤ y → y < x → ¬ okAt n L (bdT (lp n) n ch c) c y) ∧ (x < L.length → okAt n L (bdT (lp n) n ch c) c x) := by
  have hlp : ∀ m, m < facN n → PM n (lp n m) := fun m hm => lp_pm hn h2 hm
  refine loopE (fun f i (_ : Unit) => f_R_matesOf_L69 (nI n) v3 (nI c) σ K f (nI i)) L.length
    (fun i _ => i0 ≤ i ∧ ∀ y, i0 ≤ y → y < i → ¬ okAt n L (bdT (lp n) n ch c) c y)
    (fun R => ∃ x, i0 ≤ x ∧ x ≤ L.length ∧ R = K (nI x) ∧ (∀ y, i0 ≤ y → y < x → ¬ okAt n L (bdT (lp n) n ch c) c y) ∧ (x < L.length → okAt n L (bdT (lp n) n ch c) c x)) ?_ ?_ FU i0 () hi0 (FU_gt (by omega)) ⟨Nat.le_refl _, fun y h1 h2 => by omega⟩
  · rintro f i _ hi ⟨p0, p1⟩
    obtain ⟨m, hm⟩ : ∃ m, L[i]? = some m := ⟨_, List.getElem?_eq_getElem hi⟩
    have e := canTake_ok h2 la l97 hL hLl hn hlp hm hc rc
    have key : f_R_matesOf_L69 (nI n) v3 (nI c) σ K (f + 1) (nI i) = if bI (dB (fitM n (bdT (lp n) n ch c) (lp n m) c)) = 0 then f_R_matesOf_L69 (nI n) v3 (nI c) σ K f (nI (i + 1)) else K (nI i) := by
      rw [f_R_matesOf_L69.eq_2]
      rw [h22, if_pos (nI_lt hi (by omega)), e, cap_some, nI_1]
    by_cases hf : fitM n (bdT (lp n) n ch c) (lp n m) c
    · left
      refine ⟨i, p0, by omega, ?_, p1, fun _ => ⟨m, hm, hf⟩⟩
      show f_R_matesOf_L69 (nI n) v3 (nI c) σ K (f + 1) (nI i) = _
      rw [key, dB_t hf, if_neg (by decide)]
    · right
      refine ⟨(), ?_, by omega, fun y h3 h4 => ?_⟩
      · show f_R_matesOf_L69 (nI n) v3 (nI c) σ K (f + 1) (nI i) = _
        rw [key, dB_f hf, if_pos (by rfl)]
      · by_cases e : y = i
        · subst e
          rintro ⟨m', hm', hf'⟩
          rw [hm] at hm'
          have := Option.some.inj hm'
          subst this
          exact hf hf'
        · exact p1 y h3 (by omega)
  · rintro f _ ⟨p0, p1⟩
    refine ⟨L.length, p0, Nat.le_refl _, ?_, p1, fun h => by omega⟩
    show f_R_matesOf_L69 (nI n) v3 (nI c) σ K (f + 1) (nI L.length) = _
    rw [f_R_matesOf_L69.eq_2]
    rw [h22, if_neg (nI_nlt (Nat.le_refl _) (by omega))]
end RZ
