/-! mates: the list of all -/
def putM (n : Nat) (C : Bd) (q : Nat → Nat) (s : Nat) : Bd := fun r c => if r < n ∧ c = q r then s + 1 else C r c
def fitM (n : Nat) (C : Bd) (q : Nat → Nat) (s : Nat) : Prop := q 0 = s ∧ ∀ r, r < n → C r (q r) = 0
noncomputable def EN2 (n : Nat) (f : Nat → Nat → Nat) (L : List Nat) : Nat → Nat → Bd → List Bd
  | 0, _, C => [C]
  | d + 1, c, C => (L.filter (fun i => dB (fitM n C (f i) c))).flatMap (fun i => EN2 n f L d (c + 1) (putM n C (f i) c))
def TH (n : Nat) (S : Bd) (f : Nat → Nat → Nat) (L : List Nat) : Prop := (∀ i, i ∈ L → PM n (f i) ∧ TRV n S (f i) = true) ∧ (∀ q, PM n q → TRV n S q = true → ∃ i, i ∈ L ∧ ∀ r, r < n → f i r = q r) ∧ L.Nodup ∧ ∀ i j, i ∈ L → j ∈ L → (∀ r, r < n → f i r = f j r) → i = j
def MX (n : Nat) (S : Bd) (d c : Nat) (C X : Bd) : Prop := (∀ r k, C r k ≠ 0 → X r k = C r k) ∧ (∀ r k, X r k ≠ 0 → X r k = C r k ∨ (c < X r k ∧ X r k ≤ c + d)) ∧ ∀ s, c ≤ s → s < c + d → ∃ q, PM n q ∧ TRV n S q = true ∧ q 0 = s ∧ ∀ r k, X r k = s + 1 ↔ (r < n ∧ k = q r)
section EN2S
variable {n : Nat} {S : Bd} {f : Nat → Nat → Nat} {L : List Nat}
theorem putM_at {C : Bd} {q : Nat → Nat} {s r : Nat} (hr : r < n) : putM n C q s r (q r) = s + 1 := by unfold putM; rw [if_pos ⟨hr, rfl⟩]
theorem putM_ne {C : Bd} {q : Nat → Nat} {s r k : Nat} (h : ¬ (r < n ∧ k = q r)) : putM n C q s r k = C r k := by unfold putM; rw [if_neg h]
theorem putM_le {C : Bd} {q : Nat → Nat} {s : Nat} (h : ∀ r k, C r k ≤ s) : ∀ r k, putM n C q s r k ≤ s + 1 := by
  intro r k
  unfold putM
  split
  · omega
  · have := h r k; omega
theorem mem_EN2 (hn : 0 < n) (ht : TH n S f L) : ∀ (d c : Nat) (C X : Bd), (∀ r k, C r k ≤ c) → (X ∈ EN2 n f L d c C ↔ MX n S d c C X) := by
  intro d
  induction d with
  | zero =>
    intro c C X hC
    constructor
    · intro h
      have h : X ∈ [C] := h
      have h := List.mem_singleton.mp h
      subst h
      exact ⟨fun _ _ _ => rfl, fun _ _ _ => Or.inl rfl, fun s h1 h2 => by omega⟩
    · rintro ⟨h1, h2, _⟩
      show X ∈ [C]
      apply List.mem_singleton.mpr
      funext r k
      by_cases hX : X r k = 0
      · by_cases hc : C r k = 0
        · rw [hX, hc]
        · exact h1 r k hc
      · rcases h2 r k hX with h | h
        · exact h
        · omega
  | succ d ih =>
    intro c C X hC
    have hmem : X ∈ EN2 n f L (d + 1) c C ↔ ∃ i, (i ∈ L ∧ fitM n C (f i) c) ∧ X ∈ EN2 n f L d (c + 1) (putM n C (f i) c) := by
      show X ∈ (L.filter (fun i => dB (fitM n C (f i) c))).flatMap (fun i => EN2 n f L d (c + 1) (putM n C (f i) c)) ↔ _
      rw [List.mem_flatMap]
      constructor
      · rintro ⟨i, h1, h2⟩
        have h1 := List.mem_filter.mp h1
        exact ⟨i, ⟨h1.1, dB_iff.mp h1.2⟩, h2⟩
      · rintro ⟨i, ⟨h1, h2⟩, h3⟩
        exact ⟨i, List.mem_filter.mpr ⟨h1, dB_iff.mpr h2⟩, h3⟩
    rw [hmem]
    constructor
    · rintro ⟨i, ⟨hi, hf1, hf2⟩, hX⟩
      obtain ⟨m1, m2, m3⟩ := (ih (c + 1) _ X (putM_le hC)).mp hX
      have hpt : ∀ r k, C r k ≠ 0 → putM n C (f i) c r k = C r k := by
        intro r k h
        apply putM_ne
        rintro ⟨hr, rfl⟩
        exact h (hf2 r hr)
      have hat : ∀ r k, X r k = c + 1 ↔ (r < n ∧ k = f i r) := by
        intro r k
        constructor
        · intro e
          rcases m2 r k (by omega) with h | h
          · apply Classical.byContradiction
            intro hno
            rw [putM_ne hno] at h
            have := hC r k
            omega
          · omega
        · rintro ⟨hr, rfl⟩
          rw [m1 r _ (by rw [putM_at hr]; omega), putM_at hr]
      refine ⟨fun r k h => ?_, fun r k h => ?_, fun s h1 h2 => ?_⟩
      · rw [m1 r k (by rw [hpt r k h]; exact h), hpt r k h]
      · rcases m2 r k h with h3 | h3
        · by_cases hk : r < n ∧ k = f i r
          · have := (hat r k).mpr hk
            exact Or.inr (by omega)
          · rw [putM_ne hk] at h3; exact Or.inl h3
        · exact Or.inr (by omega)
      · by_cases e : s = c
        · subst e
          exact ⟨f i, (ht.1 i hi).1, (ht.1 i hi).2, hf1, hat⟩
        · exact m3 s (by omega) (by omega)
    · rintro ⟨m1, m2, m3⟩
      obtain ⟨q, hq, hT, h0, hat⟩ := m3 c (Nat.le_refl c) (by omega)
      obtain ⟨i, hi, hfi⟩ := ht.2.1 q hq hT
      have hat2 : ∀ r k, X r k = c + 1 ↔ (r < n ∧ k = f i r) := by
        intro r k
        rw [hat r k]
        constructor
        · rintro ⟨a, b⟩; exact ⟨a, by rw [b, hfi r a]⟩
        · rintro ⟨a, b⟩; exact ⟨a, by rw [b, hfi r a]⟩
      refine ⟨i, ⟨hi, by rw [hfi 0 hn, h0], fun r hr => ?_⟩, (ih (c + 1) _ X (putM_le hC)).mpr ⟨fun r k h => ?_, fun r k h => ?_, fun s h1 h2 => m3 s (by omega) (by omega)⟩⟩
      · apply Classical.byContradiction
        intro hne
        have h1 := m1 r (f i r) hne
        have h2 := (hat2 r (f i r)).mpr ⟨hr, rfl⟩
        have := hC r (f i r)
        omega
      · by_cases hk : r < n ∧ k = f i r
        · rw [(hat2 r k).mpr hk]
          unfold putM
          rw [if_pos hk]
        · rw [putM_ne hk] at h ⊢
          exact m1 r k h
      · by_cases hk : r < n ∧ k = f i r
        · left
          rw [(hat2 r k).mpr hk]
          unfold putM
          rw [if_pos hk]
        · rw [putM_ne hk]
          rcases m2 r k h with h3 | h3
          · exact Or.inl h3
          · have : X r k ≠ c + 1 := fun e => hk ((hat2 r k).mp e)
            exact Or.inr (by omega)
theorem nodup_EN2 (hn : 0 < n) (ht : TH n S f L) : ∀ (d c : Nat) (C : Bd), (∀ r k, C r k ≤ c) → (EN2 n f L d c C).Nodup := by
  intro d
  induction d with
  | zero =>
    intro c C _
    show [C].Nodup
    simp
  | succ d ih =>
    intro c C hC
    show List.Pairwise _ ((L.filter (fun i => dB (fitM n C (f i) c))).flatMap (fun i => EN2 n f L d (c + 1) (putM n C (f i) c)))
    rw [List.pairwise_flatMap]
    refine ⟨fun i _ => ih (c + 1) _ (putM_le hC), ?_⟩
    refine List.Pairwise.imp_of_mem ?_ (List.Pairwise.filter _ ht.2.2.1)
    intro i j hi hj hij X hX Y hY e
    subst e
    have hiL := (List.mem_filter.mp hi).1
    have hjL := (List.mem_filter.mp hj).1
    obtain ⟨a1, _, _⟩ := (mem_EN2 hn ht d (c + 1) _ X (putM_le hC)).mp hX
    obtain ⟨_, b2, _⟩ := (mem_EN2 hn ht d (c + 1) _ X (putM_le hC)).mp hY
    refine hij (ht.2.2.2 i j hiL hjL (fun r hr => ?_))
    have h1 : X r (f i r) = c + 1 := by rw [a1 r (f i r) (by rw [putM_at hr]; omega), putM_at hr]
    apply Classical.byContradiction
    intro hne
    rcases b2 r (f i r) (by omega) with h | h
    · rw [putM_ne (fun hk => hne hk.2)] at h
      have := hC r (f i r)
      omega
    · omega
theorem TH_cp (h1 : 2 ≤ n) (h2 : n ≤ 5) : TH n S cp (FL (fun m => TRV n S (cp m)) (facN n)) := by
  refine ⟨fun i hi => ?_, fun q hq hT => ?_, ?_, fun i j hi hj h => ?_⟩
  · have h := FL_mem.mp hi
    exact ⟨(cp_pm h1 h2 h.1).1, h.2⟩
  · obtain ⟨a, b⟩ := cp_sur h1 h2 hq
    exact ⟨_, FL_mem.mpr ⟨a, by rw [TRV_congr (f := cp (nmN n q)) (g := q) b]; exact hT⟩, b⟩
  · exact List.Pairwise.filter _ (List.nodup_range (n := facN n))
  · exact cp_inj h1 h2 (FL_mem.mp hi).1 (FL_mem.mp hj).1 h
theorem TH_lp (h1 : 2 ≤ n) (h2 : n ≤ 5) : TH n S (lp n) (FL (fun m => TRV n S (lp n m)) (facN n)) := by
  refine ⟨fun i hi => ?_, fun q hq hT => ?_, ?_, fun i j hi hj h => ?_⟩
  · have h := FL_mem.mp hi
    exact ⟨lp_pm h1 h2 h.1, h.2⟩
  · obtain ⟨a, b⟩ := lp_sur h1 h2 hq
    exact ⟨_, FL_mem.mpr ⟨a, by rw [TRV_congr (f := lp n (rkN n q n)) (g := q) b]; exact hT⟩, b⟩
  · exact List.Pairwise.filter _ (List.nodup_range (n := facN n))
  · have a1 := lp_all h1 h2 (FL_mem.mp hi).1
    have a2 := lp_all h1 h2 (FL_mem.mp hj).1
    rw [← a1.2.2.2.2, ← a2.2.2.2.2]
    exact rk_congr n (Nat.le_refl n) h
/-- all mates that the class finds, and all that the reference finds -/
noncomputable def MA (n : Nat) (S : Bd) : List Bd := EN2 n cp (FL (fun m => TRV n S (cp m)) (facN n)) n 0 B0
noncomputable def MB (n : Nat) (S : Bd) : List Bd := EN2 n (lp n) (FL (fun m => TRV n S (lp n m)) (facN n)) n 0 B0
theorem MA_mem (h1 : 2 ≤ n) (h2 : n ≤ 5) (X : Bd) : X ∈ MA n S ↔ X ∈ MB n S :=
  (mem_EN2 (by omega) (TH_cp h1 h2) n 0 B0 X (fun _ _ => Nat.le_refl 0)).trans (mem_EN2 (by omega) (TH_lp h1 h2) n 0 B0 X (fun _ _ => Nat.le_refl 0)).symm
theorem MA_len (h1 : 2 ≤ n) (h2 : n ≤ 5) : (MA n S).length = (MB n S).length := by
  have a := len_sub _ (MB n S) (nodup_EN2 (S := S) (by omega) (TH_cp h1 h2) n 0 B0 (fun _ _ => Nat.le_refl 0)) (fun X hX => (MA_mem h1 h2 X).mp hX)
  have b := len_sub _ (MA n S) (nodup_EN2 (S := S) (by omega) (TH_lp h1 h2) n 0 B0 (fun _ _ => Nat.le_refl 0)) (fun X hX => (MA_mem h1 h2 X).mpr hX)
  exact Nat.le_antisymm a b
end EN2S
