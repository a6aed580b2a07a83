/-! how far what is FORCED goes: class and law in step -/
theorem pl_least (P : Nat → Prop) : ∀ N, (∃ i, i < N ∧ P i) → ∃ i, i < N ∧ P i ∧ ∀ i', i' < i → ¬ P i' := by
  intro N
  induction N with
  | zero => rintro ⟨i, hi, _⟩; omega
  | succ N ih =>
    rintro ⟨i, hi, hp⟩
    by_cases h : ∃ i, i < N ∧ P i
    · obtain ⟨j, h1, h2, h3⟩ := ih h
      exact ⟨j, by omega, h2, h3⟩
    · have : i = N := by
        apply Classical.byContradiction
        intro h2
        exact h ⟨i, by omega, hp⟩
      subst this
      exact ⟨i, by omega, hp, fun i' hi' hp' => h ⟨i', hi', hp'⟩⟩
theorem Fst.at {α : Type} {e : Nat} {p : Nat → Prop} {R Y : α} {X : Nat → α} (h : Fst e p R X Y) {i : Nat} (hi : i < e) (hp : p i) (hm : ∀ i', i' < i → ¬ p i') : R = X i := by
  rcases h with ⟨_, b⟩ | ⟨j, a, b, c, d⟩
  · exact absurd hp (b i hi)
  · rcases Nat.lt_trichotomy i j with h | h | h
    · exact absurd hp (c i h)
    · rw [d, h]
    · exact absurd b (hm j h)
theorem Fst.no {α : Type} {e : Nat} {p : Nat → Prop} {R Y : α} {X : Nat → α} (h : Fst e p R X Y) (hn : ¬ ∃ i, i < e ∧ p i) : R = Y := by
  rcases h with ⟨a, _⟩ | ⟨j, a, b, _, _⟩
  · exact a
  · exact absurd ⟨j, a, b⟩ hn
theorem Arr.set {σ : St} {o n : Nat} {B : Bd} (h : Arr σ o n B) {r c v : Nat} (hc : c < n) : Arr (wr σ o (n * r + c) (ce v)) o n (upB B r c v) := by
  intro r' c' hr' hc'
  rw [wr_get]
  by_cases e : r' = r ∧ c' = c
  · rw [if_pos ⟨rfl, by rw [e.1, e.2]⟩, e.1, e.2, upB_at]
  · rw [if_neg, upB_ne e]
    · exact h r' c' hr' hc'
    · intro h2
      exact e (idx_inj hc' hc h2.2)
theorem pl_mulc {n : Nat} : n * (n * n) = n * n * n := (Nat.mul_assoc n n n).symm
theorem pl_logic {n : Nat} (K : Int32 → St → Option (Int32 × St)) (v8 v9 : Int32) (K2 : Int32 → St → Option Int32) : ∀ (e : Nat) (B : Bd) (a : Nat), n * n - cnt B ≤ e → a ≤ cnt B → Wf n B →
    ∃ v : Int32, (∀ (σ : St) (m1 : Nat), e < m1 → GOK σ 2 n B → ∃ σ', (∀ x, f_Filling_firstForced σ 2 = some x → f_Filling_fillForced_L7 2 K m1 (nI a) x σ = K v σ') ∧ ∀ m, m < 2 ∨ 5 < m → σ' m = σ m) ∧
      ∀ (σ1 : St) (m2 : Nat), e < m2 → Arr σ1 84 n B → ∀ y, f_L_forced σ1 84 (nI n) = some y → ∃ τ, f_L_law_L1010 (nI n) v8 v9 K2 m2 (nI a) y σ1 = K2 v τ ∧ ∀ m, m ≠ 84 → τ m = σ1 m := by
  have stopC : ∀ (σ : St) (m : Nat) (a : Nat), f_Filling_fillForced_L7 2 K (m + 1) (nI a) (-1) σ = K (nI a) σ := by
    intro σ m a
    rw [f_Filling_fillForced_L7.eq_2]
    rw [if_pos rfl]
  have stopL : ∀ (σ : St) (m : Nat) (a : Nat), f_L_law_L1010 (nI n) v8 v9 K2 (m + 1) (nI a) (-1) σ = K2 (nI a) σ := by
    intro σ m a
    rw [f_L_law_L1010.eq_2]
    rw [if_pos (by decide)]
  intro e
  induction e with
  | zero =>
    intro B a h1 ha hw
    have hno : ¬ ∃ i, i < n * n * n ∧ fI n B i := by
      rintro ⟨i, hi, hp⟩
      have hl := idx_lt hi
      have := cnt_opt hw hl.1 hl.2.1 (opt_iff.mp hp.1).1
      omega
    refine ⟨nI a, fun σ m1 hm hG => ⟨σ, fun x hx => ?_, fun m _ => rfl⟩, fun σ1 m2 hm2 hA y hy => ⟨σ1, ?_, fun m _ => rfl⟩⟩
    · have e1 := (first_ok hG).no hno
      rw [hx] at e1
      obtain ⟨m1, rfl⟩ : ∃ m, m1 = m + 1 := ⟨m1 - 1, by omega⟩
      rw [Option.some.inj e1, stopC]
    · have e1 := (pl_forced hw hA).no (by rw [pl_mulc]; exact hno)
      rw [hy] at e1
      obtain ⟨m2, rfl⟩ : ∃ m, m2 = m + 1 := ⟨m2 - 1, by omega⟩
      rw [Option.some.inj e1, stopL]
  | succ e ih =>
    intro B a h1 ha hw
    have hn1 := hw.1
    have hn2 := hw.2.1
    have h25 : n * n ≤ 25 := Nat.mul_le_mul hn2 hn2
    by_cases hno : ∃ i, i < n * n * n ∧ fI n B i
    · obtain ⟨i, hi, hp, hmin⟩ := pl_least _ _ hno
      have hl := idx_lt hi
      have hpo := hp.1
      have hw2 := hw.opt hl.1 hl.2.1 hpo
      have h0 := (opt_iff.mp hpo).1
      have hlt := cnt_opt hw hl.1 hl.2.1 h0
      have hup := cnt_up (B := B) (r := i / n / n) (c := i / n % n) (v := i % n + 1) (by omega) (by omega)
      rw [if_pos h0, if_neg (by omega)] at hup
      obtain ⟨v, q1, q2⟩ := ih _ (a + 1) (by omega) (by omega) hw2
      refine ⟨v, fun σ m1 hm hG => ?_, fun σ1 m2 hm2 hA y hy => ?_⟩
      · obtain ⟨m1, rfl⟩ : ∃ m, m1 = m + 1 := ⟨m1 - 1, by omega⟩
        have hG2 := set_GOK hG hl.1 hl.2.1 (v := i % n + 1) (by omega) hw2
        have hse := set_eq hG hl.1 hl.2.1 (v := i % n + 1) (by omega)
        rw [ce_s] at hse
        obtain ⟨σ', p1, p2⟩ := q1 _ m1 (by omega) hG2
        refine ⟨σ', fun x hx => ?_, fun m hm => (p2 m hm).trans (setSt_fr (by omega))⟩
        have e1 := (first_ok hG).at hi hp hmin
        rw [hx] at e1
        have ex := Option.some.inj e1
        have hx2 : ∃ x', f_Filling_firstForced (setSt σ 2 (i / n / n) (i / n % n) (B (i / n / n) (i / n % n)) (i % n + 1)) 2 = some x' := by
          rcases first_ok hG2 with ⟨e2, _⟩ | ⟨i2, _, _, _, e2⟩
          · exact ⟨_, e2⟩
          · exact ⟨_, e2⟩
        obtain ⟨x', hx2⟩ := hx2
        rw [f_Filling_fillForced_L7.eq_2]
        rw [ex]
        unfold pk f_Move_row f_Move_column f_Move_sign
        rw [if_neg (nm1 (by omega)), if_pos (show nI a < 25 from nI_lt (show a < 25 by omega) (by decide)), show (50 : Int32) = nI 50 from rfl, dvi_nI (by omega) (by omega) (by omega), cap_some, show (10 : Int32) = nI 10 from rfl, dvi_nI (by omega) (by omega) (by omega), show (5 : Int32) = nI 5 from rfl, rmi_nI (by omega) (by omega) (by omega), cap_some, rmi_nI (by omega) (by omega) (by omega), cap_some]
        rw [show (10 * (5 * (i / n / n) + i / n % n) + i % n) / 50 = i / n / n by omega, show (10 * (5 * (i / n / n) + i / n % n) + i % n) / 10 % 5 = i / n % n by omega, show (10 * (5 * (i / n / n) + i / n % n) + i % n) % 10 = i % n by omega]
        rw [hse, cal_some, hx2, cap_some, nI_1]
        exact p1 x' hx2
      · obtain ⟨m2, rfl⟩ : ∃ m, m2 = m + 1 := ⟨m2 - 1, by omega⟩
        have e1 := (pl_forced hw hA).at (by rw [pl_mulc]; exact hi) hp hmin
        rw [hy] at e1
        have ey := Option.some.inj e1
        have hA2 := hA.set (r := i / n / n) (c := i / n % n) (v := i % n + 1) hl.2.1
        have hin : n * (i / n / n) + i / n % n = i / n := Nat.div_add_mod _ _
        have hb := ix25 hn2 hl.1 hl.2.1
        rw [hin] at hb
        rw [hin, ce_s] at hA2
        have hy2 : ∃ y', f_L_forced (wr σ1 84 (i / n) (nI (i % n))) 84 (nI n) = some y' := by
          rcases pl_forced hw2 hA2 with ⟨e2, _⟩ | ⟨i2, _, _, _, e2⟩
          · exact ⟨_, e2⟩
          · exact ⟨_, e2⟩
        obtain ⟨y', hy2⟩ := hy2
        obtain ⟨τ, t1, t2⟩ := q2 _ m2 (by omega) hA2 y' hy2
        refine ⟨τ, ?_, fun m hm => by rw [t2 m hm, wr_fn hm]⟩
        rw [f_L_law_L1010.eq_2]
        rw [ey]
        rw [if_neg (by rw [lt0_nI (by omega)]; exact id), show (10 : Int32) = nI 10 from rfl, dvi_nI (by omega) (by omega) (by omega), rmi_nI (by omega) (by omega) (by omega)]
        rw [show (10 * (i / n) + i % n) / 10 = i / n by omega, show (10 * (i / n) + i % n) % 10 = i % n by omega]
        rw [ast_nI (by omega) (by decide), hy2, cap_some, nI_1]
        exact t1
    · refine ⟨nI a, fun σ m1 hm hG => ⟨σ, fun x hx => ?_, fun m _ => rfl⟩, fun σ1 m2 hm2 hA y hy => ⟨σ1, ?_, fun m _ => rfl⟩⟩
      · have e1 := (first_ok hG).no hno
        rw [hx] at e1
        obtain ⟨m1, rfl⟩ : ∃ m, m1 = m + 1 := ⟨m1 - 1, by omega⟩
        rw [Option.some.inj e1, stopC]
      · have e1 := (pl_forced hw hA).no (by rw [pl_mulc]; exact hno)
        rw [hy] at e1
        obtain ⟨m2, rfl⟩ : ∃ m, m2 = m + 1 := ⟨m2 - 1, by omega⟩
        rw [Option.some.inj e1, stopL]
