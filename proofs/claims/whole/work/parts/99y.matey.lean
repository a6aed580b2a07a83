/-! mates: the lowest of both sides is the same -/
def OZ (n : Nat) (X : Bd) : Prop := ∀ r k, n ≤ r ∨ n ≤ k → X r k = 0
def LOWR (n : Nat) (P : List Bd) (m : Bd) : Prop := m ∈ P ∧ ∀ X, X ∈ P → ¬ ltR n X m
theorem min_ex {p : Nat → Prop} : ∀ k, (∃ x, x < k ∧ p x) → ∃ x, x < k ∧ p x ∧ ∀ y, y < x → ¬ p y := by
  intro k
  induction k with
  | zero => rintro ⟨x, hx, _⟩; omega
  | succ k ih =>
    rintro ⟨x, hx, hp⟩
    by_cases h : ∃ y, y < k ∧ p y
    · obtain ⟨z, a, b, c⟩ := ih h
      exact ⟨z, by omega, b, c⟩
    · have : x = k := by
        apply Classical.byContradiction
        intro hne
        exact h ⟨x, by omega, hp⟩
      subst this
      exact ⟨x, by omega, hp, fun y hy hpy => h ⟨y, hy, hpy⟩⟩
section LRS
variable {n : Nat} {X Y : Bd}
theorem ltC_R (h2 : n ≤ 5) (hX : OZ n X) (hY : OZ n Y) : ltC X Y ↔ ltR n X Y := by
  constructor
  · rintro ⟨x, hx, a, b⟩
    have b : X (x / 5) (x % 5) < Y (x / 5) (x % 5) := b
    have hr : x / 5 < n := Classical.byContradiction (fun h => by rw [hX _ _ (Or.inl (by omega)), hY _ _ (Or.inl (by omega))] at b; omega)
    have hc : x % 5 < n := Classical.byContradiction (fun h => by rw [hX _ _ (Or.inr (by omega)), hY _ _ (Or.inr (by omega))] at b; omega)
    have d1 := idx2 (c := x / 5) hc
    refine ⟨n * (x / 5) + x % 5, ?_, fun y hy => ?_, ?_⟩
    · have h3 : n * (x / 5 + 1) ≤ n * n := Nat.mul_le_mul_left _ hr
      rw [Nat.mul_succ] at h3; omega
    · have hm : y % n < n := Nat.mod_lt _ (by omega)
      have hdm := Nat.div_add_mod y n
      have hlt : 5 * (y / n) + y % n < x := by
        rcases Nat.lt_trichotomy (y / n) (x / 5) with h | h | h
        · omega
        · rw [h] at hdm; omega
        · have h3 : n * (x / 5 + 1) ≤ n * (y / n) := Nat.mul_le_mul_left _ h
          rw [Nat.mul_succ] at h3; omega
      have h4 : X ((5 * (y / n) + y % n) / 5) ((5 * (y / n) + y % n) % 5) = Y ((5 * (y / n) + y % n) / 5) ((5 * (y / n) + y % n) % 5) := a _ hlt
      rw [show (5 * (y / n) + y % n) / 5 = y / n by omega, show (5 * (y / n) + y % n) % 5 = y % n by omega] at h4
      exact h4
    · show X ((n * (x / 5) + x % 5) / n) ((n * (x / 5) + x % 5) % n) < Y ((n * (x / 5) + x % 5) / n) ((n * (x / 5) + x % 5) % n)
      rw [d1.1, d1.2]; exact b
  · rintro ⟨x, hx, a, b⟩
    have hn : 0 < n := Nat.pos_of_ne_zero (fun e => by subst e; omega)
    have hr : x / n < n := Nat.div_lt_of_lt_mul hx
    have hc : x % n < n := Nat.mod_lt _ hn
    have hdm := Nat.div_add_mod x n
    refine ⟨5 * (x / n) + x % n, by omega, fun y hy => ?_, ?_⟩
    · show X (y / 5) (y % 5) = Y (y / 5) (y % 5)
      by_cases h : y / 5 < n ∧ y % 5 < n
      · have d1 := idx2 (c := y / 5) h.2
        have hlt : n * (y / 5) + y % 5 < x := by
          rcases Nat.lt_trichotomy (y / 5) (x / n) with h3 | h3 | h3
          · have h4 : n * (y / 5 + 1) ≤ n * (x / n) := Nat.mul_le_mul_left _ h3
            rw [Nat.mul_succ] at h4; omega
          · rw [h3]; omega
          · omega
        have h5 : X ((n * (y / 5) + y % 5) / n) ((n * (y / 5) + y % 5) % n) = Y ((n * (y / 5) + y % 5) / n) ((n * (y / 5) + y % 5) % n) := a _ hlt
        rw [d1.1, d1.2] at h5
        exact h5
      · rw [hX _ _ (by omega), hY _ _ (by omega)]
    · show X ((5 * (x / n) + x % n) / 5) ((5 * (x / n) + x % n) % 5) < Y ((5 * (x / n) + x % n) / 5) ((5 * (x / n) + x % n) % 5)
      rw [show (5 * (x / n) + x % n) / 5 = x / n by omega, show (5 * (x / n) + x % n) % 5 = x % n by omega]
      exact b
theorem ltC_tot (h2 : n ≤ 5) (hX : OZ n X) (hY : OZ n Y) (h : X ≠ Y) : ltC X Y ∨ ltC Y X := by
  have hex : ∃ x, x < 25 ∧ clB X x ≠ clB Y x := by
    apply Classical.byContradiction
    intro hno
    apply h
    funext r k
    by_cases hrk : r < 5 ∧ k < 5
    · have h3 : clB X (5 * r + k) = clB Y (5 * r + k) := Classical.byContradiction (fun h => hno ⟨5 * r + k, by omega, h⟩)
      unfold clB at h3
      rw [show (5 * r + k) / 5 = r by omega, show (5 * r + k) % 5 = k by omega] at h3
      exact h3
    · rw [hX _ _ (by omega), hY _ _ (by omega)]
  obtain ⟨x, a, b, c⟩ := min_ex (p := fun x => clB X x ≠ clB Y x) 25 hex
  rcases Nat.lt_trichotomy (clB X x) (clB Y x) with h3 | h3 | h3
  · exact Or.inl ⟨x, a, fun y hy => Classical.byContradiction (c y hy), h3⟩
  · exact absurd h3 b
  · exact Or.inr ⟨x, a, fun y hy => (Classical.byContradiction (c y hy) : clB X y = clB Y y).symm, h3⟩
theorem low_same {P Q : List Bd} {m m' : Bd} (h2 : n ≤ 5) (hPQ : ∀ X, X ∈ P ↔ X ∈ Q) (hO : ∀ X, X ∈ P → OZ n X) (h : LOW P m) (h' : LOWR n Q m') : m = m' := by
  have hm' := (hPQ m').mpr h'.1
  apply Classical.byContradiction
  intro hne
  rcases ltC_tot h2 (hO m h.1) (hO m' hm') hne with h3 | h3
  · exact h'.2 m ((hPQ m).mp h.1) ((ltC_R h2 (hO m h.1) (hO m' hm')).mp h3)
  · exact h.2 m' hm' h3
end LRS
