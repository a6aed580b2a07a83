/-! small numbers in a row's bounds -/
theorem inb_nI {k n : Nat} (h : k < n) (hn : n < 2 ^ 31) : inb (nI k) n = true := by
  have hv := vp_in_nI h hn
  simp only [vp_in, not_or, Nat.not_le] at hv
  simp only [inb, Bool.and_eq_true, decide_eq_true_eq]
  exact ⟨Int32.not_lt.mp hv.1, hv.2⟩
/-! turned from whole: 50 -/
theorem nI_mul (a b : Nat) : nI a * nI b = nI (a * b) := by
  simp [nI, Int32.ofNat_mul]
theorem nI_lit (n : Nat) : (OfNat.ofNat n : Int32) = nI n := rfl
theorem nI_sub {a b : Nat} (h : b ≤ a) : nI a - nI b = nI (a - b) := by
  obtain ⟨c, rfl⟩ : ∃ c, a = c + b := ⟨a - b, by omega⟩
  rw [← nI_add, Nat.add_sub_cancel]
  exact Int32.add_sub_cancel _ _
theorem ix_nI {k : Nat} (h : k < 2 ^ 31) : ix (nI k) = k := nI_clamp h
theorem ald_nI {β : Type} {σ : St} {k n j : Nat} {f : Int32 → Option β} (h : j < n) (hn : n < 2 ^ 31) : ald σ k n (nI j) f = f (σ k j) := by
  unfold ald
  rw [inb_nI h hn, if_pos rfl, ix_nI (by omega)]
theorem ast_nI {β : Type} {σ : St} {k n j : Nat} {v : Int32} {f : St → Option β} (h : j < n) (hn : n < 2 ^ 31) : ast σ k n (nI j) v f = f (wr σ k j v) := by
  unfold ast
  rw [inb_nI h hn, if_pos rfl, ix_nI (by omega)]
theorem gld_nI {β : Type} {j : Nat} {f : Nat → Option β} (h : j < 12) : gld (nI j) f = f (gid j) := by
  unfold gld
  rw [inb_nI h (by decide), if_pos rfl, ix_nI (by omega)]
theorem wr_at {σ : St} {k j : Nat} {v : Int32} : wr σ k j v k j = v := by simp [wr, upd]
theorem wr_get {σ : St} {k j k' j' : Nat} {v : Int32} : wr σ k j v k' j' = if k' = k ∧ j' = j then v else σ k' j' := by
  by_cases h : k' = k
  · subst h
    by_cases h2 : j' = j
    · subst h2; simp [wr, upd]
    · simp [wr, upd, h2]
  · simp [wr, h]
theorem cap_some {α β : Type} {v : α} {f : α → Option β} : cap (some v) f = f v := rfl
theorem cal_some {α β : Type} {v : α} {σ : St} {f : α → St → Option β} : cal (some (v, σ)) f = f v σ := rfl
theorem cax_ok {α β : Type} {v : α} {σ : St} {f : α → St → Option (Except Nat β × St)} : cax (some (.ok v, σ)) f = f v σ := rfl
theorem cax_er {α β : Type} {e : Nat} {σ : St} {f : α → St → Option (Except Nat β × St)} : cax (some (.error e, σ)) f = some (.error e, σ) := rfl
theorem jn_eq {α β : Type} {k : α} {f : α → β} : jn k f = f k := rfl
theorem lt1_eq {α β : Type} {e : α} {f : α → β} : lt1 e f = f e := rfl
theorem sto_eq {β : Type} {σ : St} {k j : Nat} {v : Int32} {f : St → β} : sto σ k j v f = f (wr σ k j v) := rfl
/-- a loop that counts up to e: what it ends in -/
theorem loopE {α R : Type} (F : Nat → Nat → α → R) (e : Nat) (P : Nat → α → Prop) (Res : R → Prop)
    (hs : ∀ n i a, i < e → P i a → Res (F (n + 1) i a) ∨ ∃ a', F (n + 1) i a = F n (i + 1) a' ∧ P (i + 1) a')
    (hx : ∀ n a, P e a → Res (F (n + 1) e a)) : ∀ n i a, i ≤ e → e - i < n → P i a → Res (F n i a) := by
  intro n
  induction n with
  | zero => intro i a h1 h2; omega
  | succ n ih =>
    intro i a h1 h2 hP
    by_cases hi : i = e
    · subst hi; exact hx n a hP
    · rcases hs n i a (by omega) hP with h | ⟨a', h, hP'⟩
      · exact h
      · rw [h]; exact ih (i + 1) a' (by omega) (by omega) hP'
theorem FU_gt {n : Nat} (h : n < 1000000000000000000000000000000000000000000000000) : n < FU := h
/-- a loop with a measure -/
theorem loopM {α R : Type} (F : Nat → α → R) (P : α → Prop) (μ : α → Nat) (Res : R → Prop)
    (hs : ∀ n a, P a → Res (F (n + 1) a) ∨ ∃ a', F (n + 1) a = F n a' ∧ P a' ∧ μ a' < μ a) : ∀ n a, μ a < n → P a → Res (F n a) := by
  intro n
  induction n with
  | zero => intro a h; omega
  | succ n ih =>
    intro a h hP
    rcases hs n a hP with h1 | ⟨a', h1, h2, h3⟩
    · exact h1
    · rw [h1]; exact ih a' (by omega) h2
/-- comparisons of what a program asks -/
theorem lt_nI {a b : Nat} (ha : a < 2 ^ 31) (hb : b < 2 ^ 31) : (nI a < nI b) = (a < b) := propext (nI_ltI ha hb)
theorem le_nI {a b : Nat} (ha : a < 2 ^ 31) (hb : b < 2 ^ 31) : (nI a ≤ nI b) = (a ≤ b) := propext (nI_leI ha hb)
theorem eq_nI {a b : Nat} (ha : a < 2 ^ 31) (hb : b < 2 ^ 31) : (nI a = nI b) = (a = b) := propext (nI_eq ha hb)
theorem lt0_nI {a : Nat} (ha : a < 2 ^ 31) : (nI a < 0) = False := by simp [nI_pos ha]
theorem neg1_ne {a : Nat} (ha : a < 2 ^ 31) : (nI a = -1) = False := by
  apply eq_false
  intro h
  have h1 := nI_pos ha
  rw [h] at h1
  exact h1 (by decide)
theorem neg1_lt {a : Nat} (ha : a < 2 ^ 31) : (-1 < nI a) = True := by
  apply eq_true
  have h := nI_toInt ha
  rw [Int32.lt_iff_toInt_lt, h]
  have : (-1 : Int32).toInt = -1 := by decide
  omega
/-- any int is a small number, or out of a small range -/
theorem i32_cases (x : Int32) (N : Nat) (hN : N < 2 ^ 31) : (∃ j : Nat, j < N ∧ x = nI j) ∨ x < 0 ∨ nI N ≤ x := by
  by_cases h : x < 0
  · exact Or.inr (Or.inl h)
  · obtain ⟨j, hj, rfl⟩ := nI_of h
    by_cases h2 : j < N
    · exact Or.inl ⟨j, h2, rfl⟩
    · exact Or.inr (Or.inr (nI_le (by omega) hj))
/-- a cell's content: 0 is empty, s + 1 the sign s -/
def ce (v : Nat) : Int32 := nI v - 1
theorem ce_0 : ce 0 = -1 := rfl
theorem ce_s (s : Nat) : ce (s + 1) = nI s := by
  unfold ce
  exact nI_pred s
theorem ce_inj {a b : Nat} (ha : a < 2 ^ 30) (hb : b < 2 ^ 30) : (ce a = ce b) = (a = b) := by
  cases a with
  | zero =>
    cases b with
    | zero => simp
    | succ b =>
      rw [ce_0, ce_s]
      apply propext
      constructor
      · intro h; exact absurd h.symm (by rw [neg1_ne (by omega)]; exact id)
      · intro h; omega
  | succ a =>
    cases b with
    | zero =>
      rw [ce_0, ce_s, neg1_ne (by omega)]
      simp
    | succ b =>
      rw [ce_s, ce_s, eq_nI (by omega) (by omega)]
      simp
/-! turned from whole: 51 -/
def s5 (a b c d e : Bool) : Int32 := nI (a.toNat + 2 * b.toNat + 4 * c.toNat + 8 * d.toNat + 16 * e.toNat)
def sI (p : Nat → Bool) : Int32 := s5 (p 0) (p 1) (p 2) (p 3) (p 4)
def bI (b : Bool) : Int32 := if b then 1 else 0
theorem s5_or (a b c d e a' b' c' d' e' : Bool) : s5 a b c d e ||| s5 a' b' c' d' e' = s5 (a || a') (b || b') (c || c') (d || d') (e || e') := by
  revert a b c d e a' b' c' d' e'
  decide +kernel
theorem s5_andn (a b c d e a' b' c' d' e' : Bool) : s5 a b c d e &&& (s5 a' b' c' d' e' ^^^ (-1)) = s5 (a && !a') (b && !b') (c && !c') (d && !d') (e && !e') := by
  revert a b c d e a' b' c' d' e'
  decide +kernel
theorem s5_and (a b c d e a' b' c' d' e' : Bool) : s5 a b c d e &&& s5 a' b' c' d' e' = s5 (a && a') (b && b') (c && c') (d && d') (e && e') := by
  revert a b c d e a' b' c' d' e'
  decide +kernel
theorem s5_eq (a b c d e a' b' c' d' e' : Bool) : (s5 a b c d e = s5 a' b' c' d' e') = (a = a' ∧ b = b' ∧ c = c' ∧ d = d' ∧ e = e') := by
  apply propext
  revert a b c d e a' b' c' d' e'
  decide +kernel
theorem sI_or (p q : Nat → Bool) : sI p ||| sI q = sI (fun s => p s || q s) := s5_or ..
theorem sI_andn (p q : Nat → Bool) : sI p &&& (sI q ^^^ (-1)) = sI (fun s => p s && !q s) := s5_andn ..
theorem sI_and (p q : Nat → Bool) : sI p &&& sI q = sI (fun s => p s && q s) := s5_and ..
theorem sI_cong {p q : Nat → Bool} (h : ∀ s, s < 5 → p s = q s) : sI p = sI q := by
  unfold sI
  rw [h 0 (by decide), h 1 (by decide), h 2 (by decide), h 3 (by decide), h 4 (by decide)]
theorem sI_inj {p q : Nat → Bool} (h : sI p = sI q) : ∀ s, s < 5 → p s = q s := by
  unfold sI at h
  rw [s5_eq] at h
  obtain ⟨h0, h1, h2, h3, h4⟩ := h
  intro s hs
  match s, hs with
  | 0, _ => exact h0
  | 1, _ => exact h1
  | 2, _ => exact h2
  | 3, _ => exact h3
  | 4, _ => exact h4
theorem sI_one {s : Nat} (hs : s < 5) : (1 : Int32) <<< (nI s &&& 31) = sI (fun t => decide (t = s)) := by
  match s, hs with
  | 0, _ => rfl
  | 1, _ => rfl
  | 2, _ => rfl
  | 3, _ => rfl
  | 4, _ => rfl
theorem sI_all {n : Nat} (hn : n ≤ 5) : ((1 : Int32) <<< (nI n &&& 31)) - 1 = sI (fun t => decide (t < n)) := by
  match n, hn with
  | 0, _ => rfl
  | 1, _ => rfl
  | 2, _ => rfl
  | 3, _ => rfl
  | 4, _ => rfl
  | 5, _ => rfl
theorem sI_none : sI (fun _ => false) = 0 := rfl
theorem s5_bit0 (a b c d e : Bool) : ((s5 a b c d e >>> (nI 0 &&& 31)) &&& 1 = 1) = (a = true) := by
  apply propext; revert a b c d e; decide +kernel
theorem s5_bit1 (a b c d e : Bool) : ((s5 a b c d e >>> (nI 1 &&& 31)) &&& 1 = 1) = (b = true) := by
  apply propext; revert a b c d e; decide +kernel
theorem s5_bit2 (a b c d e : Bool) : ((s5 a b c d e >>> (nI 2 &&& 31)) &&& 1 = 1) = (c = true) := by
  apply propext; revert a b c d e; decide +kernel
theorem s5_bit3 (a b c d e : Bool) : ((s5 a b c d e >>> (nI 3 &&& 31)) &&& 1 = 1) = (d = true) := by
  apply propext; revert a b c d e; decide +kernel
theorem s5_bit4 (a b c d e : Bool) : ((s5 a b c d e >>> (nI 4 &&& 31)) &&& 1 = 1) = (e = true) := by
  apply propext; revert a b c d e; decide +kernel
theorem sI_bit (p : Nat → Bool) {s : Nat} (hs : s < 5) : ((sI p >>> (nI s &&& 31)) &&& 1 = 1) = (p s = true) := by
  unfold sI
  match s, hs with
  | 0, _ => exact s5_bit0 ..
  | 1, _ => exact s5_bit1 ..
  | 2, _ => exact s5_bit2 ..
  | 3, _ => exact s5_bit3 ..
  | 4, _ => exact s5_bit4 ..
theorem isIn_sI {σ : St} (p : Nat → Bool) {s : Nat} (hs : s < 5) : f_Q_isIn σ (sI p) (nI s) = some (bI (p s)) := by
  have e1 : (nI s < 0) = False := lt0_nI (by omega)
  have e2 : (nI s < 31) = True := by rw [show (31 : Int32) = nI 31 from rfl, lt_nI (by omega) (by decide)]; exact eq_true (by omega)
  simp only [f_Q_isIn, jn, e1, e2, if_false, if_true, sI_bit p hs]
  cases p s <;> rfl
def rowHas (B : Nat → Nat → Nat) (r s : Nat) : Bool := (List.range 5).any (fun c => decide (B r c = s + 1))
def colHas (B : Nat → Nat → Nat) (c s : Nat) : Bool := (List.range 5).any (fun r => decide (B r c = s + 1))
theorem rowHas_iff {B : Nat → Nat → Nat} {r s : Nat} : rowHas B r s = true ↔ ∃ c, c < 5 ∧ B r c = s + 1 := by
  simp [rowHas]
theorem colHas_iff {B : Nat → Nat → Nat} {c s : Nat} : colHas B c s = true ↔ ∃ r, r < 5 ∧ B r c = s + 1 := by
  simp [colHas]
def cnt (B : Nat → Nat → Nat) : Nat := (List.range 25).countP (fun i => decide (B (i / 5) (i % 5) ≠ 0))
def upB (B : Nat → Nat → Nat) (r c v : Nat) : Nat → Nat → Nat := fun r' c' => if r' = r ∧ c' = c then v else B r' c'
/-- a board of the order n in which no row and no column has a sign twice -/
def Wf (n : Nat) (B : Nat → Nat → Nat) : Prop := 2 ≤ n ∧ n ≤ 5 ∧ (∀ r c, B r c ≠ 0 → r < n ∧ c < n ∧ B r c ≤ n) ∧ (∀ r c c', B r c ≠ 0 → B r c = B r c' → c = c') ∧ ∀ r r' c, B r c ≠ 0 → B r c = B r' c → r = r'
/-- the grid in the object k -/
def GOK (σ : St) (k n : Nat) (B : Nat → Nat → Nat) : Prop := Wf n B ∧ σ k 3 = nI n ∧ σ k 4 = nI (cnt B) ∧ (∀ r c, r < 5 → c < 5 → σ (k + 1) (5 * r + c) = ce (B r c)) ∧ (∀ r, r < 5 → σ (k + 2) r = sI (rowHas B r)) ∧ ∀ c, c < 5 → σ (k + 3) c = sI (colHas B c)
theorem GOK.frame {σ σ' : St} {k n : Nat} {B : Nat → Nat → Nat} (h : GOK σ k n B) (hf : ∀ m, k ≤ m → m ≤ k + 3 → σ' m = σ m) : GOK σ' k n B := by
  obtain ⟨h1, h2, h3, h4, h5, h6⟩ := h
  refine ⟨h1, ?_, ?_, ?_, ?_, ?_⟩
  · rw [hf k (by omega) (by omega)]; exact h2
  · rw [hf k (by omega) (by omega)]; exact h3
  · intro r c hr hc; rw [hf (k + 1) (by omega) (by omega)]; exact h4 r c hr hc
  · intro r hr; rw [hf (k + 2) (by omega) (by omega)]; exact h5 r hr
  · intro r hr; rw [hf (k + 3) (by omega) (by omega)]; exact h6 r hr
theorem upB_at {B : Nat → Nat → Nat} {r c v : Nat} : upB B r c v r c = v := by simp [upB]
theorem upB_ne {B : Nat → Nat → Nat} {r c v r' c' : Nat} (h : ¬ (r' = r ∧ c' = c)) : upB B r c v r' c' = B r' c' := by simp [upB, h]
theorem countP_up {p q : Nat → Bool} {i : Nat} : ∀ {n : Nat}, i < n → (∀ j, j ≠ i → p j = q j) → (List.range n).countP p + (q i).toNat = (List.range n).countP q + (p i).toNat
  | 0, h, _ => by omega
  | n + 1, h, hpq => by
    rw [List.range_succ, List.countP_append, List.countP_append]
    by_cases hn : i = n
    · subst hn
      have : ∀ m, m ≤ i → (List.range m).countP p = (List.range m).countP q := by
        intro m hm
        apply List.countP_congr
        intro x hx
        rw [hpq x (by have := List.mem_range.mp hx; omega)]
      rw [this i (Nat.le_refl _)]
      cases hp : p i <;> cases hq : q i <;> simp [List.countP_cons, hp, hq]
    · have ih := countP_up (n := n) (p := p) (q := q) (i := i) (by omega) hpq
      have e : p n = q n := hpq n (by omega)
      simp only [List.countP_cons, List.countP_nil, e]
      omega
theorem cnt_up {B : Nat → Nat → Nat} {r c v : Nat} (hr : r < 5) (hc : c < 5) : cnt (upB B r c v) + (if B r c = 0 then 0 else 1) = cnt B + (if v = 0 then 0 else 1) := by
  have h := countP_up (p := fun i => decide (upB B r c v (i / 5) (i % 5) ≠ 0)) (q := fun i => decide (B (i / 5) (i % 5) ≠ 0)) (i := 5 * r + c) (n := 25) (by omega) (by
    intro j hj
    have : ¬ (j / 5 = r ∧ j % 5 = c) := by omega
    simp only [upB_ne this])
  have e1 : (5 * r + c) / 5 = r := by omega
  have e2 : (5 * r + c) % 5 = c := by omega
  simp only [e1, e2, upB_at] at h
  unfold cnt
  by_cases h1 : B r c = 0 <;> by_cases h2 : v = 0 <;> simp [h1, h2] at h ⊢ <;> omega
/-! turned from whole: 52.lits -/
theorem lt_l0 {a : Nat} (h : a < 2 ^ 31) : (nI a < 0) = (a < 0) := lt_nI h (by decide)
theorem le_l0 {a : Nat} (h : a < 2 ^ 31) : (nI a ≤ 0) = (a ≤ 0) := le_nI h (by decide)
theorem eq_l0 {a : Nat} (h : a < 2 ^ 31) : (nI a = 0) = (a = 0) := eq_nI h (by decide)
theorem ll_t0 {a : Nat} (h : a < 2 ^ 31) : (0 < nI a) = (0 < a) := lt_nI (by decide) h
theorem add_l0 {a : Nat} : nI a + 0 = nI (a + 0) := nI_add a 0
theorem lt_l1 {a : Nat} (h : a < 2 ^ 31) : (nI a < 1) = (a < 1) := lt_nI h (by decide)
theorem le_l1 {a : Nat} (h : a < 2 ^ 31) : (nI a ≤ 1) = (a ≤ 1) := le_nI h (by decide)
theorem eq_l1 {a : Nat} (h : a < 2 ^ 31) : (nI a = 1) = (a = 1) := eq_nI h (by decide)
theorem ll_t1 {a : Nat} (h : a < 2 ^ 31) : (1 < nI a) = (1 < a) := lt_nI (by decide) h
theorem add_l1 {a : Nat} : nI a + 1 = nI (a + 1) := nI_add a 1
theorem lt_l2 {a : Nat} (h : a < 2 ^ 31) : (nI a < 2) = (a < 2) := lt_nI h (by decide)
theorem le_l2 {a : Nat} (h : a < 2 ^ 31) : (nI a ≤ 2) = (a ≤ 2) := le_nI h (by decide)
theorem eq_l2 {a : Nat} (h : a < 2 ^ 31) : (nI a = 2) = (a = 2) := eq_nI h (by decide)
theorem ll_t2 {a : Nat} (h : a < 2 ^ 31) : (2 < nI a) = (2 < a) := lt_nI (by decide) h
theorem add_l2 {a : Nat} : nI a + 2 = nI (a + 2) := nI_add a 2
theorem lt_l3 {a : Nat} (h : a < 2 ^ 31) : (nI a < 3) = (a < 3) := lt_nI h (by decide)
theorem le_l3 {a : Nat} (h : a < 2 ^ 31) : (nI a ≤ 3) = (a ≤ 3) := le_nI h (by decide)
theorem eq_l3 {a : Nat} (h : a < 2 ^ 31) : (nI a = 3) = (a = 3) := eq_nI h (by decide)
theorem ll_t3 {a : Nat} (h : a < 2 ^ 31) : (3 < nI a) = (3 < a) := lt_nI (by decide) h
theorem add_l3 {a : Nat} : nI a + 3 = nI (a + 3) := nI_add a 3
theorem lt_l4 {a : Nat} (h : a < 2 ^ 31) : (nI a < 4) = (a < 4) := lt_nI h (by decide)
theorem le_l4 {a : Nat} (h : a < 2 ^ 31) : (nI a ≤ 4) = (a ≤ 4) := le_nI h (by decide)
theorem eq_l4 {a : Nat} (h : a < 2 ^ 31) : (nI a = 4) = (a = 4) := eq_nI h (by decide)
theorem ll_t4 {a : Nat} (h : a < 2 ^ 31) : (4 < nI a) = (4 < a) := lt_nI (by decide) h
theorem add_l4 {a : Nat} : nI a + 4 = nI (a + 4) := nI_add a 4
theorem lt_l5 {a : Nat} (h : a < 2 ^ 31) : (nI a < 5) = (a < 5) := lt_nI h (by decide)
theorem le_l5 {a : Nat} (h : a < 2 ^ 31) : (nI a ≤ 5) = (a ≤ 5) := le_nI h (by decide)
theorem eq_l5 {a : Nat} (h : a < 2 ^ 31) : (nI a = 5) = (a = 5) := eq_nI h (by decide)
theorem ll_t5 {a : Nat} (h : a < 2 ^ 31) : (5 < nI a) = (5 < a) := lt_nI (by decide) h
theorem add_l5 {a : Nat} : nI a + 5 = nI (a + 5) := nI_add a 5
theorem lt_l6 {a : Nat} (h : a < 2 ^ 31) : (nI a < 6) = (a < 6) := lt_nI h (by decide)
theorem le_l6 {a : Nat} (h : a < 2 ^ 31) : (nI a ≤ 6) = (a ≤ 6) := le_nI h (by decide)
theorem eq_l6 {a : Nat} (h : a < 2 ^ 31) : (nI a = 6) = (a = 6) := eq_nI h (by decide)
theorem ll_t6 {a : Nat} (h : a < 2 ^ 31) : (6 < nI a) = (6 < a) := lt_nI (by decide) h
theorem add_l6 {a : Nat} : nI a + 6 = nI (a + 6) := nI_add a 6
theorem lt_l10 {a : Nat} (h : a < 2 ^ 31) : (nI a < 10) = (a < 10) := lt_nI h (by decide)
theorem le_l10 {a : Nat} (h : a < 2 ^ 31) : (nI a ≤ 10) = (a ≤ 10) := le_nI h (by decide)
theorem eq_l10 {a : Nat} (h : a < 2 ^ 31) : (nI a = 10) = (a = 10) := eq_nI h (by decide)
theorem ll_t10 {a : Nat} (h : a < 2 ^ 31) : (10 < nI a) = (10 < a) := lt_nI (by decide) h
theorem add_l10 {a : Nat} : nI a + 10 = nI (a + 10) := nI_add a 10
theorem lt_l12 {a : Nat} (h : a < 2 ^ 31) : (nI a < 12) = (a < 12) := lt_nI h (by decide)
theorem le_l12 {a : Nat} (h : a < 2 ^ 31) : (nI a ≤ 12) = (a ≤ 12) := le_nI h (by decide)
theorem eq_l12 {a : Nat} (h : a < 2 ^ 31) : (nI a = 12) = (a = 12) := eq_nI h (by decide)
theorem ll_t12 {a : Nat} (h : a < 2 ^ 31) : (12 < nI a) = (12 < a) := lt_nI (by decide) h
theorem add_l12 {a : Nat} : nI a + 12 = nI (a + 12) := nI_add a 12
theorem lt_l25 {a : Nat} (h : a < 2 ^ 31) : (nI a < 25) = (a < 25) := lt_nI h (by decide)
theorem le_l25 {a : Nat} (h : a < 2 ^ 31) : (nI a ≤ 25) = (a ≤ 25) := le_nI h (by decide)
theorem eq_l25 {a : Nat} (h : a < 2 ^ 31) : (nI a = 25) = (a = 25) := eq_nI h (by decide)
theorem ll_t25 {a : Nat} (h : a < 2 ^ 31) : (25 < nI a) = (25 < a) := lt_nI (by decide) h
theorem add_l25 {a : Nat} : nI a + 25 = nI (a + 25) := nI_add a 25
theorem lt_l40 {a : Nat} (h : a < 2 ^ 31) : (nI a < 40) = (a < 40) := lt_nI h (by decide)
theorem le_l40 {a : Nat} (h : a < 2 ^ 31) : (nI a ≤ 40) = (a ≤ 40) := le_nI h (by decide)
theorem eq_l40 {a : Nat} (h : a < 2 ^ 31) : (nI a = 40) = (a = 40) := eq_nI h (by decide)
theorem ll_t40 {a : Nat} (h : a < 2 ^ 31) : (40 < nI a) = (40 < a) := lt_nI (by decide) h
theorem add_l40 {a : Nat} : nI a + 40 = nI (a + 40) := nI_add a 40
theorem lt_l41 {a : Nat} (h : a < 2 ^ 31) : (nI a < 41) = (a < 41) := lt_nI h (by decide)
theorem le_l41 {a : Nat} (h : a < 2 ^ 31) : (nI a ≤ 41) = (a ≤ 41) := le_nI h (by decide)
theorem eq_l41 {a : Nat} (h : a < 2 ^ 31) : (nI a = 41) = (a = 41) := eq_nI h (by decide)
theorem ll_t41 {a : Nat} (h : a < 2 ^ 31) : (41 < nI a) = (41 < a) := lt_nI (by decide) h
theorem add_l41 {a : Nat} : nI a + 41 = nI (a + 41) := nI_add a 41
theorem lt_l42 {a : Nat} (h : a < 2 ^ 31) : (nI a < 42) = (a < 42) := lt_nI h (by decide)
theorem le_l42 {a : Nat} (h : a < 2 ^ 31) : (nI a ≤ 42) = (a ≤ 42) := le_nI h (by decide)
theorem eq_l42 {a : Nat} (h : a < 2 ^ 31) : (nI a = 42) = (a = 42) := eq_nI h (by decide)
theorem ll_t42 {a : Nat} (h : a < 2 ^ 31) : (42 < nI a) = (42 < a) := lt_nI (by decide) h
theorem add_l42 {a : Nat} : nI a + 42 = nI (a + 42) := nI_add a 42
theorem lt_l61 {a : Nat} (h : a < 2 ^ 31) : (nI a < 61) = (a < 61) := lt_nI h (by decide)
theorem le_l61 {a : Nat} (h : a < 2 ^ 31) : (nI a ≤ 61) = (a ≤ 61) := le_nI h (by decide)
theorem eq_l61 {a : Nat} (h : a < 2 ^ 31) : (nI a = 61) = (a = 61) := eq_nI h (by decide)
theorem ll_t61 {a : Nat} (h : a < 2 ^ 31) : (61 < nI a) = (61 < a) := lt_nI (by decide) h
theorem add_l61 {a : Nat} : nI a + 61 = nI (a + 61) := nI_add a 61
theorem lt_l120 {a : Nat} (h : a < 2 ^ 31) : (nI a < 120) = (a < 120) := lt_nI h (by decide)
theorem le_l120 {a : Nat} (h : a < 2 ^ 31) : (nI a ≤ 120) = (a ≤ 120) := le_nI h (by decide)
theorem eq_l120 {a : Nat} (h : a < 2 ^ 31) : (nI a = 120) = (a = 120) := eq_nI h (by decide)
theorem ll_t120 {a : Nat} (h : a < 2 ^ 31) : (120 < nI a) = (120 < a) := lt_nI (by decide) h
theorem add_l120 {a : Nat} : nI a + 120 = nI (a + 120) := nI_add a 120
theorem lt_l121 {a : Nat} (h : a < 2 ^ 31) : (nI a < 121) = (a < 121) := lt_nI h (by decide)
theorem le_l121 {a : Nat} (h : a < 2 ^ 31) : (nI a ≤ 121) = (a ≤ 121) := le_nI h (by decide)
theorem eq_l121 {a : Nat} (h : a < 2 ^ 31) : (nI a = 121) = (a = 121) := eq_nI h (by decide)
theorem ll_t121 {a : Nat} (h : a < 2 ^ 31) : (121 < nI a) = (121 < a) := lt_nI (by decide) h
theorem add_l121 {a : Nat} : nI a + 121 = nI (a + 121) := nI_add a 121
theorem lt_l122 {a : Nat} (h : a < 2 ^ 31) : (nI a < 122) = (a < 122) := lt_nI h (by decide)
theorem le_l122 {a : Nat} (h : a < 2 ^ 31) : (nI a ≤ 122) = (a ≤ 122) := le_nI h (by decide)
theorem eq_l122 {a : Nat} (h : a < 2 ^ 31) : (nI a = 122) = (a = 122) := eq_nI h (by decide)
theorem ll_t122 {a : Nat} (h : a < 2 ^ 31) : (122 < nI a) = (122 < a) := lt_nI (by decide) h
theorem add_l122 {a : Nat} : nI a + 122 = nI (a + 122) := nI_add a 122
theorem lt_l576 {a : Nat} (h : a < 2 ^ 31) : (nI a < 576) = (a < 576) := lt_nI h (by decide)
theorem le_l576 {a : Nat} (h : a < 2 ^ 31) : (nI a ≤ 576) = (a ≤ 576) := le_nI h (by decide)
theorem eq_l576 {a : Nat} (h : a < 2 ^ 31) : (nI a = 576) = (a = 576) := eq_nI h (by decide)
theorem ll_t576 {a : Nat} (h : a < 2 ^ 31) : (576 < nI a) = (576 < a) := lt_nI (by decide) h
theorem add_l576 {a : Nat} : nI a + 576 = nI (a + 576) := nI_add a 576
theorem lt_l600 {a : Nat} (h : a < 2 ^ 31) : (nI a < 600) = (a < 600) := lt_nI h (by decide)
theorem le_l600 {a : Nat} (h : a < 2 ^ 31) : (nI a ≤ 600) = (a ≤ 600) := le_nI h (by decide)
theorem eq_l600 {a : Nat} (h : a < 2 ^ 31) : (nI a = 600) = (a = 600) := eq_nI h (by decide)
theorem ll_t600 {a : Nat} (h : a < 2 ^ 31) : (600 < nI a) = (600 < a) := lt_nI (by decide) h
theorem add_l600 {a : Nat} : nI a + 600 = nI (a + 600) := nI_add a 600
theorem lt_l1000 {a : Nat} (h : a < 2 ^ 31) : (nI a < 1000) = (a < 1000) := lt_nI h (by decide)
theorem le_l1000 {a : Nat} (h : a < 2 ^ 31) : (nI a ≤ 1000) = (a ≤ 1000) := le_nI h (by decide)
theorem eq_l1000 {a : Nat} (h : a < 2 ^ 31) : (nI a = 1000) = (a = 1000) := eq_nI h (by decide)
theorem ll_t1000 {a : Nat} (h : a < 2 ^ 31) : (1000 < nI a) = (1000 < a) := lt_nI (by decide) h
theorem add_l1000 {a : Nat} : nI a + 1000 = nI (a + 1000) := nI_add a 1000
theorem cell5 {r c : Nat} : 5 * nI r + nI c = nI (5 * r + c) := by
  rw [show (5 : Int32) = nI 5 from rfl, nI_mul, nI_add]
theorem cell25 {r c : Nat} : 25 * nI r + nI c = nI (25 * r + c) := by
  rw [show (25 : Int32) = nI 25 from rfl, nI_mul, nI_add]
theorem ce_m1 {a : Nat} (h : a < 2 ^ 30) : (ce a = -1) = (a = 0) := by
  rw [← ce_0, ce_inj h (by decide)]
theorem ce_lt0 {a : Nat} (h : a < 2 ^ 30) : (ce a < 0) = (a = 0) := by
  cases a with
  | zero => simp [ce_0]
  | succ a => rw [ce_s, lt0_nI (by omega)]; simp
theorem ce_eqn {a s : Nat} (h : a < 2 ^ 30) (hs : s < 2 ^ 29) : (ce a = nI s) = (a = s + 1) := by
  rw [← ce_s, ce_inj h (by omega)]
theorem nce_eq {a s : Nat} (h : a < 2 ^ 30) (hs : s < 2 ^ 29) : (nI s = ce a) = (a = s + 1) := by
  rw [show (nI s = ce a) = (ce a = nI s) from propext eq_comm, ce_eqn h hs]
theorem wr_fn {σ : St} {k k' j : Nat} {v : Int32} (h : k' ≠ k) : wr σ k j v k' = σ k' := wr_ne h
/-! turned from whole: 53.gops -/
section GO
variable {σ : St} {k n : Nat} {B : Nat → Nat → Nat}
theorem GOK.le (h : GOK σ k n B) : 2 ≤ n ∧ n ≤ 5 := ⟨h.1.1, h.1.2.1⟩
theorem GOK.ord (h : GOK σ k n B) : σ k 3 = nI n := h.2.1
theorem GOK.fil (h : GOK σ k n B) : σ k 4 = nI (cnt B) := h.2.2.1
theorem GOK.cel (h : GOK σ k n B) {r c : Nat} (hr : r < 5) (hc : c < 5) : σ (k + 1) (5 * r + c) = ce (B r c) := h.2.2.2.1 r c hr hc
theorem GOK.row (h : GOK σ k n B) {r : Nat} (hr : r < 5) : σ (k + 2) r = sI (rowHas B r) := h.2.2.2.2.1 r hr
theorem GOK.col (h : GOK σ k n B) {c : Nat} (hc : c < 5) : σ (k + 3) c = sI (colHas B c) := h.2.2.2.2.2 c hc
theorem Wf.bd (h : Wf n B) (r c : Nat) : B r c ≤ 5 := by
  by_cases h0 : B r c = 0
  · omega
  · have := (h.2.2.1 r c h0).2.2; have := h.2.1; omega
theorem Wf.bn (h : Wf n B) (r c : Nat) : B r c ≤ n := by
  by_cases h0 : B r c = 0
  · omega
  · exact (h.2.2.1 r c h0).2.2
theorem Wf.out (h : Wf n B) {r c : Nat} (h1 : n ≤ r ∨ n ≤ c) : B r c = 0 := by
  apply Classical.byContradiction
  intro h0
  have := h.2.2.1 r c h0
  omega
theorem line_in (h : GOK σ k n B) {r : Nat} (hr : r < n) : f_Grid_isLine σ k (nI r) = some 1 := by
  have ho := h.ord; have hn := h.le
  unfold f_Grid_isLine
  simp (disch := omega) only [ho, and_self, and_true, true_and, and_false, false_and, cap_some, cal_some, cax_ok, cax_er, jn_eq, lt1_eq, sto_eq, ald_nI, ast_nI, gld_nI, lt_nI, le_nI, eq_nI, nI_1, nI_add, nI_mul, cell5, cell25, ce_m1, if_pos, if_neg, ↓reduceIte, if_true, if_false, lt_l0, le_l0, eq_l0, ll_t0, add_l0, lt_l1, le_l1, eq_l1, ll_t1, add_l1, lt_l2, le_l2, eq_l2, ll_t2, add_l2, lt_l3, le_l3, eq_l3, ll_t3, add_l3, lt_l4, le_l4, eq_l4, ll_t4, add_l4, lt_l5, le_l5, eq_l5, ll_t5, add_l5, lt_l6, le_l6, eq_l6, ll_t6, add_l6, lt_l10, le_l10, eq_l10, ll_t10, add_l10, lt_l12, le_l12, eq_l12, ll_t12, add_l12, lt_l25, le_l25, eq_l25, ll_t25, add_l25, lt_l40, le_l40, eq_l40, ll_t40, add_l40, lt_l41, le_l41, eq_l41, ll_t41, add_l41, lt_l42, le_l42, eq_l42, ll_t42, add_l42, lt_l61, le_l61, eq_l61, ll_t61, add_l61, lt_l120, le_l120, eq_l120, ll_t120, add_l120, lt_l121, le_l121, eq_l121, ll_t121, add_l121, lt_l122, le_l122, eq_l122, ll_t122, add_l122, lt_l576, le_l576, eq_l576, ll_t576, add_l576, lt_l600, le_l600, eq_l600, ll_t600, add_l600, lt_l1000, le_l1000, eq_l1000, ll_t1000, add_l1000]
theorem line_out (h : GOK σ k n B) {x : Int32} (hx : x < 0 ∨ nI n ≤ x) : f_Grid_isLine σ k x = some 0 := by
  have ho := h.ord
  unfold f_Grid_isLine
  rcases hx with hx | hx
  · simp only [jn_eq, hx, if_true]
  · have h2 : ¬ x < nI n := Int32.not_lt.mpr hx
    simp only [jn_eq, ho, h2, if_false, ite_self]
theorem has_in (h : GOK σ k n B) {r c : Nat} (hr : r < n) (hc : c < n) : f_Grid_has σ k (nI r) (nI c) = some 1 := by
  unfold f_Grid_has
  rw [line_in h hr, line_in h hc]
  rfl
theorem has_out1 (h : GOK σ k n B) {x y : Int32} (hx : x < 0 ∨ nI n ≤ x) : f_Grid_has σ k x y = some 0 := by
  unfold f_Grid_has
  rw [line_out h hx]
  rfl
theorem has_out2 (h : GOK σ k n B) {x y : Int32} (hy : y < 0 ∨ nI n ≤ y) : f_Grid_has σ k x y = some 0 := by
  have hn := h.le
  rcases i32_cases x n (by omega) with ⟨r, hr, rfl⟩ | hx
  · unfold f_Grid_has
    rw [line_in h hr, line_out h hy]
    rfl
  · exact has_out1 h hx
theorem sign_in (h : GOK σ k n B) {r c : Nat} (hr : r < n) (hc : c < n) : f_Grid_signAt σ k (nI r) (nI c) = some (ce (B r c)) := by
  have hn := h.le
  unfold f_Grid_signAt
  have e := h.cel (r := r) (c := c) (by omega) (by omega)
  simp (disch := omega) only [has_in h hr hc, e, and_self, and_true, true_and, and_false, false_and, cap_some, cal_some, cax_ok, cax_er, jn_eq, lt1_eq, sto_eq, ald_nI, ast_nI, gld_nI, lt_nI, le_nI, eq_nI, nI_1, nI_add, nI_mul, cell5, cell25, ce_m1, if_pos, if_neg, ↓reduceIte, if_true, if_false, lt_l0, le_l0, eq_l0, ll_t0, add_l0, lt_l1, le_l1, eq_l1, ll_t1, add_l1, lt_l2, le_l2, eq_l2, ll_t2, add_l2, lt_l3, le_l3, eq_l3, ll_t3, add_l3, lt_l4, le_l4, eq_l4, ll_t4, add_l4, lt_l5, le_l5, eq_l5, ll_t5, add_l5, lt_l6, le_l6, eq_l6, ll_t6, add_l6, lt_l10, le_l10, eq_l10, ll_t10, add_l10, lt_l12, le_l12, eq_l12, ll_t12, add_l12, lt_l25, le_l25, eq_l25, ll_t25, add_l25, lt_l40, le_l40, eq_l40, ll_t40, add_l40, lt_l41, le_l41, eq_l41, ll_t41, add_l41, lt_l42, le_l42, eq_l42, ll_t42, add_l42, lt_l61, le_l61, eq_l61, ll_t61, add_l61, lt_l120, le_l120, eq_l120, ll_t120, add_l120, lt_l121, le_l121, eq_l121, ll_t121, add_l121, lt_l122, le_l122, eq_l122, ll_t122, add_l122, lt_l576, le_l576, eq_l576, ll_t576, add_l576, lt_l600, le_l600, eq_l600, ll_t600, add_l600, lt_l1000, le_l1000, eq_l1000, ll_t1000, add_l1000]
  rfl
/-- the signs that may stand at an empty cell -/
def opt (n : Nat) (B : Nat → Nat → Nat) (r c s : Nat) : Bool := decide (B r c = 0) && decide (s < n) && !rowHas B r s && !colHas B c s
theorem all_ok (h : GOK σ k n B) : f_Grid_allSigns σ k = some (sI (fun t => decide (t < n))) := by
  have ho := h.ord; have hn := h.le
  unfold f_Grid_allSigns
  rw [ho, sI_all (by omega)]
theorem opt_in (h : GOK σ k n B) {r c : Nat} (hr : r < n) (hc : c < n) : f_Grid_optionsAt σ k (nI r) (nI c) = some (sI (opt n B r c)) := by
  have hn := h.le
  have hb := h.1.bd r c
  unfold f_Grid_optionsAt
  have e := h.cel (r := r) (c := c) (by omega) (by omega)
  have e1 := h.row (r := r) (by omega)
  have e2 := h.col (c := c) (by omega)
  simp (disch := omega) only [has_in h hr hc, e, e1, e2, all_ok h, and_self, and_true, true_and, and_false, false_and, cap_some, cal_some, cax_ok, cax_er, jn_eq, lt1_eq, sto_eq, ald_nI, ast_nI, gld_nI, lt_nI, le_nI, eq_nI, nI_1, nI_add, nI_mul, cell5, cell25, ce_m1, if_pos, if_neg, ↓reduceIte, if_true, if_false, lt_l0, le_l0, eq_l0, ll_t0, add_l0, lt_l1, le_l1, eq_l1, ll_t1, add_l1, lt_l2, le_l2, eq_l2, ll_t2, add_l2, lt_l3, le_l3, eq_l3, ll_t3, add_l3, lt_l4, le_l4, eq_l4, ll_t4, add_l4, lt_l5, le_l5, eq_l5, ll_t5, add_l5, lt_l6, le_l6, eq_l6, ll_t6, add_l6, lt_l10, le_l10, eq_l10, ll_t10, add_l10, lt_l12, le_l12, eq_l12, ll_t12, add_l12, lt_l25, le_l25, eq_l25, ll_t25, add_l25, lt_l40, le_l40, eq_l40, ll_t40, add_l40, lt_l41, le_l41, eq_l41, ll_t41, add_l41, lt_l42, le_l42, eq_l42, ll_t42, add_l42, lt_l61, le_l61, eq_l61, ll_t61, add_l61, lt_l120, le_l120, eq_l120, ll_t120, add_l120, lt_l121, le_l121, eq_l121, ll_t121, add_l121, lt_l122, le_l122, eq_l122, ll_t122, add_l122, lt_l576, le_l576, eq_l576, ll_t576, add_l576, lt_l600, le_l600, eq_l600, ll_t600, add_l600, lt_l1000, le_l1000, eq_l1000, ll_t1000, add_l1000]
  rw [if_neg (by decide)]
  by_cases h0 : B r c = 0
  · rw [if_pos h0, sI_or, sI_andn]
    congr 1
    apply sI_cong
    intro s hs
    simp only [opt, h0, decide_true, Bool.true_and, Bool.not_or, Bool.and_assoc]
  · rw [if_neg h0, ← sI_none]
    congr 1
    apply sI_cong
    intro s hs
    simp only [opt, h0, decide_false, Bool.false_and]
theorem bI_zero (b : Bool) : (bI b = 0) = (b = false) := by cases b <;> decide
theorem isIn_opt (h : GOK σ k n B) {τ : St} {r c s : Nat} (hs : s < n) : f_Q_isIn τ (sI (opt n B r c)) (nI s) = some (bI (opt n B r c s)) := isIn_sI _ (by have := h.le; omega)
end GO
