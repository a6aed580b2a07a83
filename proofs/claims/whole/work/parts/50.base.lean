/-! pure rows: numbers, rows, loops -/
theorem nI_mul (a b : Nat) : nI a * nI b = nI (a * b) := by
  simp [nI, Int32.ofNat_mul]
theorem nI_lit (n : Nat) : (OfNat.ofNat n : Int32) = nI n := rfl
theorem nI_sub {a b : Nat} (h : b ≤ a) : nI a - nI b = nI (a - b) := by
  obtain ⟨c, rfl⟩ : ∃ c, a = c + b := ⟨a - b, by omega⟩
  rw [← nI_add, Nat.add_sub_cancel]
  exact Int32.add_sub_cancel _ _
theorem inb_iff {n k : Nat} (hk : n < 2 ^ 31) : inb (nI k) n = true → k < 2 ^ 31 → k < n := by
  intro h hk'
  simp only [inb, Bool.and_eq_true, decide_eq_true_eq] at h
  rw [nI_clamp hk'] at h
  exact h.2
theorem ix_nI {k : Nat} (h : k < 2 ^ 31) : ix (nI k) = k := nI_clamp h
theorem ald_nI {β : Type} {σ : St} {k n j : Nat} {f : Int32 → Option β} (h : j < n) (hn : n < 2 ^ 31) : ald σ k n (nI j) f = f (σ k j) := by
  unfold ald
  rw [inb_nI h hn, if_pos rfl, ix_nI (by omega)]
theorem ast_nI {β : Type} {σ : St} {k n j : Nat} {v : Int32} {f : St → Option β} (h : j < n) (hn : n < 2 ^ 31) : ast σ k n (nI j) v f = f (wr σ k j v) := by
  unfold ast
  rw [inb_nI h hn, if_pos rfl, ix_nI (by omega)]
theorem zb_0 : zb 0 = 0 := rfl
theorem zb_1 : zb 1 = 1 := rfl
theorem asz_nI {β : Type} {σ : St} {k n j : Nat} {v : Int32} {f : St → Option β} (h : j < n) (hn : n < 2 ^ 31) : asz σ k n (nI j) v f = f (wr σ k j (zb v)) := by
  unfold asz
  rw [inb_nI h hn, if_pos rfl, ix_nI (by omega)]
  rfl
theorem gld_nI {β : Type} {j : Nat} {f : Nat → Option β} (h : j < 12) : gld (nI j) f = f (gid j) := by
  unfold gld
  rw [inb_nI h (by decide), if_pos rfl, ix_nI (by omega)]
theorem fac_nI {β : Type} {j : Nat} {f : Int32 → Option β} (h : j < 6) : fac (nI j) f = f (g_fact j) := by
  unfold fac
  rw [inb_nI h (by decide), if_pos rfl, ix_nI (by omega)]
theorem wr_at {σ : St} {k j : Nat} {v : Int32} : wr σ k j v k j = v := by simp [wr, upd]
theorem wr_at_ne {σ : St} {k j j' : Nat} {v : Int32} (h : j' ≠ j) : wr σ k j v k j' = σ k j' := by simp [wr, upd, h]
theorem wr_ob {σ : St} {k k' j j' : Nat} {v : Int32} (h : k' ≠ k) : wr σ k j v k' j' = σ k' j' := by simp [wr, h]
theorem wr_get {σ : St} {k j k' j' : Nat} {v : Int32} : wr σ k j v k' j' = if k' = k ∧ j' = j then v else σ k' j' := by
  by_cases h : k' = k
  · subst h
    by_cases h2 : j' = j
    · subst h2; simp [wr, upd]
    · simp [wr, upd, h2]
  · simp [wr, h]
theorem cap_some {α β : Type} {v : α} {f : α → Option β} : cap (some v) f = f v := rfl
theorem cal_some {α β : Type} {v : α} {σ : St} {f : α → St → Option β} : cal (some (v, σ)) f = f v σ := rfl
theorem cax_ok {α β : Type} {v : α} {σ : St} {f : α → St → Option (Except Nat β × St)} : cax (some (.ok v, σ)) f = f v σ := rfl
theorem cax_er {α β : Type} {e : Nat} {σ : St} {f : α → St → Option (Except Nat β × St)} : cax (some (.error e, σ)) f = some (.error e, σ) := rfl
theorem jn_eq {α β : Type} {k : α} {f : α → β} : jn k f = f k := rfl
theorem lt1_eq {α β : Type} {e : α} {f : α → β} : lt1 e f = f e := rfl
theorem sto_eq {β : Type} {σ : St} {k j : Nat} {v : Int32} {f : St → β} : sto σ k j v f = f (wr σ k j v) := rfl
/-- a loop that counts up to e: what it ends in -/
theorem loopE {α R : Type} (F : Nat → Nat → α → R) (e : Nat) (P : Nat → α → Prop) (Res : R → Prop)
    (hs : ∀ n i a, i < e → P i a → Res (F (n + 1) i a) ∨ ∃ a', F (n + 1) i a = F n (i + 1) a' ∧ P (i + 1) a')
    (hx : ∀ n a, P e a → Res (F (n + 1) e a)) : ∀ n i a, i ≤ e → e - i < n → P i a → Res (F n i a) := by
  intro n
  induction n with
  | zero => intro i a h1 h2; omega
  | succ n ih =>
    intro i a h1 h2 hP
    by_cases hi : i = e
    · subst hi; exact hx n a hP
    · rcases hs n i a (by omega) hP with h | ⟨a', h, hP'⟩
      · exact h
      · rw [h]; exact ih (i + 1) a' (by omega) (by omega) hP'
theorem FU_gt {n : Nat} (h : n < 1000000000000000000000000000000000000000000000000) : n < FU := h
/-- a loop with a measure -/
theorem loopM {α R : Type} (F : Nat → α → R) (P : α → Prop) (μ : α → Nat) (Res : R → Prop)
    (hs : ∀ n a, P a → Res (F (n + 1) a) ∨ ∃ a', F (n + 1) a = F n a' ∧ P a' ∧ μ a' < μ a) : ∀ n a, μ a < n → P a → Res (F n a) := by
  intro n
  induction n with
  | zero => intro a h; omega
  | succ n ih =>
    intro a h hP
    rcases hs n a hP with h1 | ⟨a', h1, h2, h3⟩
    · exact h1
    · rw [h1]; exact ih a' (by omega) h2
/-- comparisons of what a program asks -/
theorem lt_nI {a b : Nat} (ha : a < 2 ^ 31) (hb : b < 2 ^ 31) : (nI a < nI b) = (a < b) := propext (nI_ltI ha hb)
theorem le_nI {a b : Nat} (ha : a < 2 ^ 31) (hb : b < 2 ^ 31) : (nI a ≤ nI b) = (a ≤ b) := propext (nI_leI ha hb)
theorem eq_nI {a b : Nat} (ha : a < 2 ^ 31) (hb : b < 2 ^ 31) : (nI a = nI b) = (a = b) := propext (nI_eq ha hb)
theorem lt0_nI {a : Nat} (ha : a < 2 ^ 31) : (nI a < 0) = False := by simp [nI_pos ha]
theorem neg1_ne {a : Nat} (ha : a < 2 ^ 31) : (nI a = -1) = False := by
  apply eq_false
  intro h
  have h1 := nI_pos ha
  rw [h] at h1
  exact h1 (by decide)
theorem neg1_lt {a : Nat} (ha : a < 2 ^ 31) : (-1 < nI a) = True := by
  apply eq_true
  have h := nI_toInt ha
  rw [Int32.lt_iff_toInt_lt, h]
  have : (-1 : Int32).toInt = -1 := by decide
  omega
/-- any int is a small number, or out of a small range -/
theorem i32_cases (x : Int32) (N : Nat) (hN : N < 2 ^ 31) : (∃ j : Nat, j < N ∧ x = nI j) ∨ x < 0 ∨ nI N ≤ x := by
  by_cases h : x < 0
  · exact Or.inr (Or.inl h)
  · obtain ⟨j, hj, rfl⟩ := nI_of h
    by_cases h2 : j < N
    · exact Or.inl ⟨j, h2, rfl⟩
    · exact Or.inr (Or.inr (nI_le (by omega) hj))
/-- a cell's content: 0 is empty, s + 1 the sign s -/
def ce (v : Nat) : Int32 := nI v - 1
theorem ce_0 : ce 0 = -1 := rfl
theorem ce_s (s : Nat) : ce (s + 1) = nI s := by
  unfold ce
  exact nI_pred s
theorem ce_inj {a b : Nat} (ha : a < 2 ^ 30) (hb : b < 2 ^ 30) : (ce a = ce b) = (a = b) := by
  cases a with
  | zero =>
    cases b with
    | zero => simp
    | succ b =>
      rw [ce_0, ce_s]
      apply propext
      constructor
      · intro h; exact absurd h.symm (by rw [neg1_ne (by omega)]; exact id)
      · intro h; omega
  | succ a =>
    cases b with
    | zero =>
      rw [ce_0, ce_s, neg1_ne (by omega)]
      simp
    | succ b =>
      rw [ce_s, ce_s, eq_nI (by omega) (by omega)]
      simp
