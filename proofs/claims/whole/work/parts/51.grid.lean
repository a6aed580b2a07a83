/-! sets of at most five numbers, and what a grid is -/
def s5 (a b c d e : Bool) : Int32 := nI (a.toNat + 2 * b.toNat + 4 * c.toNat + 8 * d.toNat + 16 * e.toNat)
def sI (p : Nat → Bool) : Int32 := s5 (p 0) (p 1) (p 2) (p 3) (p 4)
def bI (b : Bool) : Int32 := if b then 1 else 0
theorem s5_or (a b c d e a' b' c' d' e' : Bool) : s5 a b c d e ||| s5 a' b' c' d' e' = s5 (a || a') (b || b') (c || c') (d || d') (e || e') := by
  revert a b c d e a' b' c' d' e'
  decide +kernel
theorem s5_andn (a b c d e a' b' c' d' e' : Bool) : s5 a b c d e &&& (s5 a' b' c' d' e' ^^^ (-1)) = s5 (a && !a') (b && !b') (c && !c') (d && !d') (e && !e') := by
  revert a b c d e a' b' c' d' e'
  decide +kernel
theorem s5_and (a b c d e a' b' c' d' e' : Bool) : s5 a b c d e &&& s5 a' b' c' d' e' = s5 (a && a') (b && b') (c && c') (d && d') (e && e') := by
  revert a b c d e a' b' c' d' e'
  decide +kernel
theorem s5_eq (a b c d e a' b' c' d' e' : Bool) : (s5 a b c d e = s5 a' b' c' d' e') = (a = a' ∧ b = b' ∧ c = c' ∧ d = d' ∧ e = e') := by
  apply propext
  revert a b c d e a' b' c' d' e'
  decide +kernel
theorem sI_or (p q : Nat → Bool) : sI p ||| sI q = sI (fun s => p s || q s) := s5_or ..
theorem sI_andn (p q : Nat → Bool) : sI p &&& (sI q ^^^ (-1)) = sI (fun s => p s && !q s) := s5_andn ..
theorem sI_and (p q : Nat → Bool) : sI p &&& sI q = sI (fun s => p s && q s) := s5_and ..
theorem sI_cong {p q : Nat → Bool} (h : ∀ s, s < 5 → p s = q s) : sI p = sI q := by
  unfold sI
  rw [h 0 (by decide), h 1 (by decide), h 2 (by decide), h 3 (by decide), h 4 (by decide)]
theorem sI_inj {p q : Nat → Bool} (h : sI p = sI q) : ∀ s, s < 5 → p s = q s := by
  unfold sI at h
  rw [s5_eq] at h
  obtain ⟨h0, h1, h2, h3, h4⟩ := h
  intro s hs
  match s, hs with
  | 0, _ => exact h0
  | 1, _ => exact h1
  | 2, _ => exact h2
  | 3, _ => exact h3
  | 4, _ => exact h4
theorem sI_one {s : Nat} (hs : s < 5) : (1 : Int32) <<< (nI s &&& 31) = sI (fun t => decide (t = s)) := by
  match s, hs with
  | 0, _ => rfl
  | 1, _ => rfl
  | 2, _ => rfl
  | 3, _ => rfl
  | 4, _ => rfl
theorem sI_all {n : Nat} (hn : n ≤ 5) : ((1 : Int32) <<< (nI n &&& 31)) - 1 = sI (fun t => decide (t < n)) := by
  match n, hn with
  | 0, _ => rfl
  | 1, _ => rfl
  | 2, _ => rfl
  | 3, _ => rfl
  | 4, _ => rfl
  | 5, _ => rfl
theorem sI_none : sI (fun _ => false) = 0 := rfl
theorem s5_bit0 (a b c d e : Bool) : ((s5 a b c d e >>> (nI 0 &&& 31)) &&& 1 = 1) = (a = true) := by
  apply propext; revert a b c d e; decide +kernel
theorem s5_bit1 (a b c d e : Bool) : ((s5 a b c d e >>> (nI 1 &&& 31)) &&& 1 = 1) = (b = true) := by
  apply propext; revert a b c d e; decide +kernel
theorem s5_bit2 (a b c d e : Bool) : ((s5 a b c d e >>> (nI 2 &&& 31)) &&& 1 = 1) = (c = true) := by
  apply propext; revert a b c d e; decide +kernel
theorem s5_bit3 (a b c d e : Bool) : ((s5 a b c d e >>> (nI 3 &&& 31)) &&& 1 = 1) = (d = true) := by
  apply propext; revert a b c d e; decide +kernel
theorem s5_bit4 (a b c d e : Bool) : ((s5 a b c d e >>> (nI 4 &&& 31)) &&& 1 = 1) = (e = true) := by
  apply propext; revert a b c d e; decide +kernel
theorem sI_bit (p : Nat → Bool) {s : Nat} (hs : s < 5) : ((sI p >>> (nI s &&& 31)) &&& 1 = 1) = (p s = true) := by
  unfold sI
  match s, hs with
  | 0, _ => exact s5_bit0 ..
  | 1, _ => exact s5_bit1 ..
  | 2, _ => exact s5_bit2 ..
  | 3, _ => exact s5_bit3 ..
  | 4, _ => exact s5_bit4 ..
theorem isIn_sI {σ : St} (p : Nat → Bool) {s : Nat} (hs : s < 5) : f_Q_isIn σ (sI p) (nI s) = some (bI (p s)) := by
  have e1 : (nI s < 0) = False := lt0_nI (by omega)
  have e2 : (nI s < 31) = True := by rw [show (31 : Int32) = nI 31 from rfl, lt_nI (by omega) (by decide)]; exact eq_true (by omega)
  simp only [f_Q_isIn, jn, e1, e2, if_false, if_true, sI_bit p hs]
  cases p s <;> rfl
def rowHas (B : Nat → Nat → Nat) (r s : Nat) : Bool := (List.range 5).any (fun c => decide (B r c = s + 1))
def colHas (B : Nat → Nat → Nat) (c s : Nat) : Bool := (List.range 5).any (fun r => decide (B r c = s + 1))
theorem rowHas_iff {B : Nat → Nat → Nat} {r s : Nat} : rowHas B r s = true ↔ ∃ c, c < 5 ∧ B r c = s + 1 := by
  simp [rowHas]
theorem colHas_iff {B : Nat → Nat → Nat} {c s : Nat} : colHas B c s = true ↔ ∃ r, r < 5 ∧ B r c = s + 1 := by
  simp [colHas]
def cnt (B : Nat → Nat → Nat) : Nat := (List.range 25).countP (fun i => decide (B (i / 5) (i % 5) ≠ 0))
def upB (B : Nat → Nat → Nat) (r c v : Nat) : Nat → Nat → Nat := fun r' c' => if r' = r ∧ c' = c then v else B r' c'
/-- a board of the order n in which no row and no column has a sign twice -/
def Wf (n : Nat) (B : Nat → Nat → Nat) : Prop := 2 ≤ n ∧ n ≤ 5 ∧ (∀ r c, B r c ≠ 0 → r < n ∧ c < n ∧ B r c ≤ n) ∧ (∀ r c c', B r c ≠ 0 → B r c = B r c' → c = c') ∧ ∀ r r' c, B r c ≠ 0 → B r c = B r' c → r = r'
/-- the grid in the object k -/
def GOK (σ : St) (k n : Nat) (B : Nat → Nat → Nat) : Prop := Wf n B ∧ σ k 3 = nI n ∧ σ k 4 = nI (cnt B) ∧ (∀ r c, r < 5 → c < 5 → σ (k + 1) (5 * r + c) = ce (B r c)) ∧ (∀ r, r < 5 → σ (k + 2) r = sI (rowHas B r)) ∧ ∀ c, c < 5 → σ (k + 3) c = sI (colHas B c)
theorem GOK.frame {σ σ' : St} {k n : Nat} {B : Nat → Nat → Nat} (h : GOK σ k n B) (hf : ∀ m, k ≤ m → m ≤ k + 3 → σ' m = σ m) : GOK σ' k n B := by
  obtain ⟨h1, h2, h3, h4, h5, h6⟩ := h
  refine ⟨h1, ?_, ?_, ?_, ?_, ?_⟩
  · rw [hf k (by omega) (by omega)]; exact h2
  · rw [hf k (by omega) (by omega)]; exact h3
  · intro r c hr hc; rw [hf (k + 1) (by omega) (by omega)]; exact h4 r c hr hc
  · intro r hr; rw [hf (k + 2) (by omega) (by omega)]; exact h5 r hr
  · intro r hr; rw [hf (k + 3) (by omega) (by omega)]; exact h6 r hr
theorem upB_at {B : Nat → Nat → Nat} {r c v : Nat} : upB B r c v r c = v := by simp [upB]
theorem upB_ne {B : Nat → Nat → Nat} {r c v r' c' : Nat} (h : ¬ (r' = r ∧ c' = c)) : upB B r c v r' c' = B r' c' := by simp [upB, h]
theorem countP_up {p q : Nat → Bool} {i : Nat} : ∀ {n : Nat}, i < n → (∀ j, j ≠ i → p j = q j) → (List.range n).countP p + (q i).toNat = (List.range n).countP q + (p i).toNat
  | 0, h, _ => by omega
  | n + 1, h, hpq => by
    rw [List.range_succ, List.countP_append, List.countP_append]
    by_cases hn : i = n
    · subst hn
      have : ∀ m, m ≤ i → (List.range m).countP p = (List.range m).countP q := by
        intro m hm
        apply List.countP_congr
        intro x hx
        rw [hpq x (by have := List.mem_range.mp hx; omega)]
      rw [this i (Nat.le_refl _)]
      cases hp : p i <;> cases hq : q i <;> simp [List.countP_cons, hp, hq]
    · have ih := countP_up (n := n) (p := p) (q := q) (i := i) (by omega) hpq
      have e : p n = q n := hpq n (by omega)
      simp only [List.countP_cons, List.countP_nil, e]
      omega
theorem cnt_up {B : Nat → Nat → Nat} {r c v : Nat} (hr : r < 5) (hc : c < 5) : cnt (upB B r c v) + (if B r c = 0 then 0 else 1) = cnt B + (if v = 0 then 0 else 1) := by
  have h := countP_up (p := fun i => decide (upB B r c v (i / 5) (i % 5) ≠ 0)) (q := fun i => decide (B (i / 5) (i % 5) ≠ 0)) (i := 5 * r + c) (n := 25) (by omega) (by
    intro j hj
    have : ¬ (j / 5 = r ∧ j % 5 = c) := by omega
    simp only [upB_ne this])
  have e1 : (5 * r + c) / 5 = r := by omega
  have e2 : (5 * r + c) % 5 = c := by omega
  simp only [e1, e2, upB_at] at h
  unfold cnt
  by_cases h1 : B r c = 0 <;> by_cases h2 : v = 0 <;> simp [h1, h2] at h ⊢ <;> omega
theorem cnt_le {B : Nat → Nat → Nat} : cnt B ≤ 25 := by
  unfold cnt
  exact Nat.le_trans List.countP_le_length (by simp)
