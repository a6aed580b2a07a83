/-! turned from whole: 61.face -/
section FA
variable {σ : St} {M : Nat} {N : Nat → Nat} {B : Nat → Nat → Nat → Nat}
theorem CW.le (h : CW σ M N B) : M ≤ 12 := h.1
theorem CW.g (h : CW σ M N B) {j : Nat} (hj : j < M) : GOK σ (gid j) (N j) (B j) := h.2.2 j hj
theorem gridAt_in (h : CW σ M N B) {j : Nat} (hj : j < M) : f_Q_gridAt σ (nI j) = some (.ok (gid j), σ) := by
  have hM := h.le
  unfold f_Q_gridAt
  simp (disch := omega) only [h.2.1, and_self, and_true, true_and, and_false, false_and, cap_some, cal_some, cax_ok, cax_er, jn_eq, lt1_eq, sto_eq, ald_nI, ast_nI, gld_nI, lt_nI, le_nI, eq_nI, nI_1, nI_add, nI_mul, cell5, cell25, ce_m1, if_pos, if_neg, ↓reduceIte, if_true, if_false, lt_l0, le_l0, eq_l0, ll_t0, add_l0, lt_l1, le_l1, eq_l1, ll_t1, add_l1, lt_l2, le_l2, eq_l2, ll_t2, add_l2, lt_l3, le_l3, eq_l3, ll_t3, add_l3, lt_l4, le_l4, eq_l4, ll_t4, add_l4, lt_l5, le_l5, eq_l5, ll_t5, add_l5, lt_l6, le_l6, eq_l6, ll_t6, add_l6, lt_l10, le_l10, eq_l10, ll_t10, add_l10, lt_l12, le_l12, eq_l12, ll_t12, add_l12, lt_l25, le_l25, eq_l25, ll_t25, add_l25, lt_l40, le_l40, eq_l40, ll_t40, add_l40, lt_l41, le_l41, eq_l41, ll_t41, add_l41, lt_l42, le_l42, eq_l42, ll_t42, add_l42, lt_l61, le_l61, eq_l61, ll_t61, add_l61, lt_l120, le_l120, eq_l120, ll_t120, add_l120, lt_l121, le_l121, eq_l121, ll_t121, add_l121, lt_l122, le_l122, eq_l122, ll_t122, add_l122, lt_l576, le_l576, eq_l576, ll_t576, add_l576, lt_l600, le_l600, eq_l600, ll_t600, add_l600, lt_l1000, le_l1000, eq_l1000, ll_t1000, add_l1000]
theorem nst0 {τ : St} : f_Q_needState τ 0 = some (.error 3, τ) := rfl
theorem nst1 {τ : St} : f_Q_needState τ 1 = some (.ok (), τ) := rfl
theorem nar0 {τ : St} : f_Q_needArgument τ 0 = some (.error 2, τ) := rfl
theorem nar1 {τ : St} : f_Q_needArgument τ 1 = some (.ok (), τ) := rfl
theorem nst {τ : St} (b : Bool) : f_Q_needState τ (bI b) = if b = true then some (.ok (), τ) else some (.error 3, τ) := by cases b <;> rfl
theorem nar {τ : St} (b : Bool) : f_Q_needArgument τ (bI b) = if b = true then some (.ok (), τ) else some (.error 2, τ) := by cases b <;> rfl
def btw (v a b : Int32) : Bool := decide (¬ v < a) && decide (v ≤ b)
theorem isFrom_ok {τ : St} (v a b : Int32) : f_Q_isFrom τ v a b = some (bI (btw v a b)) := by
  unfold f_Q_isFrom btw
  by_cases h1 : v < a
  · simp [jn_eq, h1, bI]
  · by_cases h2 : v ≤ b <;> simp [jn_eq, h1, h2, bI]
theorem btw_nI {a b v : Nat} (ha : a < 2 ^ 31) (hb : b < 2 ^ 31) (hv : v < 2 ^ 31) : btw (nI v) (nI a) (nI b) = decide (a ≤ v ∧ v ≤ b) := by
  unfold btw
  rw [Bool.eq_iff_iff, Bool.and_eq_true, decide_eq_true_iff, decide_eq_true_iff, decide_eq_true_iff, lt_nI hv ha, le_nI hv hb, Nat.not_lt]
theorem btw_iff {v : Int32} {a b : Nat} (ha : a < 2 ^ 30) (hb : b < 2 ^ 30) : btw v (nI a) (nI b) = true ↔ ∃ j, a ≤ j ∧ j ≤ b ∧ v = nI j := by
  constructor
  · intro h
    rcases i32_cases v (b + 1) (by omega) with ⟨j, hj, rfl⟩ | hx | hx
    · rw [btw_nI (by omega) (by omega) (by omega)] at h
      exact ⟨j, (of_decide_eq_true h).1, by omega, rfl⟩
    · exfalso
      have h1 : v < nI a := Int32.lt_of_lt_of_le hx (nI_pos' (by omega))
      simp [btw, h1] at h
    · exfalso
      have h1 : ¬ v ≤ nI b := fun h2 => nI_ge (a := b) (b := b + 1) (by omega) (by omega) (Int32.le_trans hx h2)
      simp [btw, h1] at h
  · rintro ⟨j, h1, h2, rfl⟩
    rw [btw_nI (by omega) (by omega) (by omega)]
    exact decide_eq_true ⟨h1, h2⟩
end FA
/-! turned from whole: 62.face2 -/
theorem cnt_nn {n : Nat} {B : Nat → Nat → Nat} (h : Wf n B) : cnt B = (List.range (n * n)).countP (fun i => decide (B (i / n) (i % n) ≠ 0)) := by
  have h1 := h.1
  have h2 := h.2.1
  have ho : ∀ r c, n ≤ r ∨ n ≤ c → B r c = 0 := fun r c => h.out
  match n, h1, h2 with
  | 2, _, _ =>
    have := ho
    simp (disch := omega) [cnt, List.range, List.range.loop, List.countP_cons, ho]
  | 3, _, _ => simp (disch := omega) [cnt, List.range, List.range.loop, List.countP_cons, ho]
  | 4, _, _ => simp (disch := omega) [cnt, List.range, List.range.loop, List.countP_cons, ho]
  | 5, _, _ => rfl
theorem cnt_nle {n : Nat} {B : Nat → Nat → Nat} (h : Wf n B) : cnt B ≤ n * n := by
  rw [cnt_nn h]
  exact Nat.le_trans List.countP_le_length (by simp)
theorem full_iff {n : Nat} {B : Nat → Nat → Nat} (h : Wf n B) : cnt B = n * n ↔ ∀ r c, r < n → c < n → B r c ≠ 0 := by
  have h1 := h.1
  rw [cnt_nn h]
  have e : n * n = (List.range (n * n)).length := by simp
  rw [show ((List.range (n * n)).countP (fun i => decide (B (i / n) (i % n) ≠ 0)) = n * n) = ((List.range (n * n)).countP (fun i => decide (B (i / n) (i % n) ≠ 0)) = (List.range (n * n)).length) by rw [← e], List.countP_eq_length]
  constructor
  · intro h2 r c hr hc
    have h3 : n * r + c < n * n := by
      have : n * r ≤ n * (n - 1) := Nat.mul_le_mul_left _ (by omega)
      have : n * (n - 1) + n = n * n := by rw [← Nat.mul_succ]; congr 1; omega
      omega
    have h4 := h2 (n * r + c) (List.mem_range.mpr h3)
    rw [Nat.mul_add_div (by omega), Nat.mul_add_mod, Nat.div_eq_of_lt hc, Nat.mod_eq_of_lt hc] at h4
    simpa using h4
  · intro h2 i hi
    have hi := List.mem_range.mp hi
    have := h2 (i / n) (i % n) (Nat.div_lt_of_lt_mul hi) (Nat.mod_lt _ (by omega))
    simpa using this
def full (n : Nat) (B : Nat → Nat → Nat) : Bool := decide (cnt B = n * n)
/-! turned from whole: 63.div -/
theorem nI_div {a b : Nat} (ha : a < 2 ^ 31) (hb : b < 2 ^ 31) : nI a / nI b = nI (a / b) := by
  apply Int32.toInt_inj.mp
  rw [Int32.toInt_div, nI_toInt ha, nI_toInt hb, nI_toInt (Nat.lt_of_le_of_lt (Nat.div_le_self _ _) ha)]
  rw [← Int.ofNat_tdiv]
  have : a / b ≤ a := Nat.div_le_self _ _
  generalize a / b = q at *
  apply Int.bmod_eq_of_le <;> omega
theorem dvi_nI {β : Type} {a b : Nat} {f : Int32 → Option β} (hb0 : 0 < b) (ha : a < 2 ^ 31) (hb : b < 2 ^ 31) : dvi (nI a) (nI b) f = f (nI (a / b)) := by
  unfold dvi
  rw [if_neg (nI_ne0 hb0 hb), nI_div ha hb]
theorem rmi_nI {β : Type} {a b : Nat} {f : Int32 → Option β} (hb0 : 0 < b) (ha : a < 2 ^ 31) (hb : b < 2 ^ 31) : rmi (nI a) (nI b) f = f (nI (a % b)) := by
  unfold rmi
  rw [if_neg (nI_ne0 hb0 hb), nI_div ha hb, nI_mul, nI_sub (Nat.div_mul_le_self a b)]
  congr 2
  have := Nat.div_add_mod a b
  rw [Nat.mul_comm] at this
  omega
section OA
variable {σ : St}
theorem needCell_in {k n r c : Nat} {B : Nat → Nat → Nat} (h : GOK σ k n B) (hr : r < n) (hc : c < n) : f_Q_needCell σ k (nI r) (nI c) = some (.ok (), σ) := by
  unfold f_Q_needCell
  rw [has_in h hr hc]
  rfl
theorem needCell_out {k n : Nat} {x y : Int32} {B : Nat → Nat → Nat} (h : GOK σ k n B) (hx : (x < 0 ∨ nI n ≤ x) ∨ (y < 0 ∨ nI n ≤ y)) : f_Q_needCell σ k x y = some (.error 1, σ) := by
  unfold f_Q_needCell
  rcases hx with hx | hx
  · rw [has_out1 h hx]; rfl
  · rw [has_out2 h hx]; rfl
variable {M : Nat} {N : Nat → Nat} {B : Nat → Nat → Nat → Nat}
end OA
/-- a grid number that isn't one -/
theorem g_cases (M : Nat) (hM : M ≤ 12) (x : Int32) : (∃ j, j < M ∧ x = nI j) ∨ (x < 0 ∨ nI M ≤ x) := i32_cases x M (by omega)
theorem cell_cases (n : Nat) (hn : n ≤ 5) (x y : Int32) : (∃ r c, r < n ∧ c < n ∧ x = nI r ∧ y = nI c) ∨ ((x < 0 ∨ nI n ≤ x) ∨ (y < 0 ∨ nI n ≤ y)) := by
  rcases i32_cases x n (by omega) with ⟨r, hr, rfl⟩ | hx
  · rcases i32_cases y n (by omega) with ⟨c, hc, rfl⟩ | hy
    · exact Or.inl ⟨r, c, hr, hc, rfl, rfl⟩
    · exact Or.inr (Or.inr hy)
  · exact Or.inr (Or.inl hx)
/-! turned from whole: 64.loops -/
noncomputable def dB (p : Prop) : Bool := @decide p (Classical.propDecidable p)
theorem dB_iff {p : Prop} : dB p = true ↔ p := @decide_eq_true_iff p (Classical.propDecidable p)
theorem dB_t {p : Prop} (h : p) : dB p = true := dB_iff.mpr h
theorem dB_f {p : Prop} (h : ¬ p) : dB p = false := by
  cases e : dB p
  · rfl
  · exact absurd (dB_iff.mp e) h
theorem dB_fi {p : Prop} : dB p = false ↔ ¬ p := ⟨fun h hp => (by rw [dB_t hp] at h; cases h), dB_f⟩
theorem dB_cong {p q : Prop} (h : p ↔ q) : dB p = dB q := by
  by_cases hp : p
  · rw [dB_t hp, dB_t (h.mp hp)]
  · rw [dB_f hp, dB_f (fun hq => hp (h.mpr hq))]
theorem dB_not {p : Prop} : dB (¬ p) = !dB p := by
  by_cases h : p
  · rw [dB_t h, dB_f (fun h2 => h2 h)]; rfl
  · rw [dB_f h, dB_t h]; rfl
theorem dB_and {p q : Prop} : dB (p ∧ q) = (dB p && dB q) := by
  by_cases h : p
  · by_cases h2 : q
    · rw [dB_t h, dB_t h2, dB_t ⟨h, h2⟩]; rfl
    · rw [dB_f h2, dB_f (fun h3 => h2 h3.2), Bool.and_false]
  · rw [dB_f h, dB_f (fun h3 => h h3.1), Bool.false_and]
theorem b_dB {b : Bool} {p : Prop} (h : b = true ↔ p) : b = dB p := by
  cases b
  · exact (dB_f (fun hp => by cases h.mpr hp)).symm
  · exact (dB_t (h.mp rfl)).symm
def sumN : Nat → (Nat → Nat) → Nat
  | 0, _ => 0
  | e + 1, w => sumN e w + w e
theorem sumN_congr {e : Nat} {w w' : Nat → Nat} (h : ∀ i, i < e → w i = w' i) : sumN e w = sumN e w' := by
  induction e with
  | zero => rfl
  | succ e ih => rw [sumN, sumN, ih (fun i hi => h i (by omega)), h e (by omega)]
theorem sumN_le {e b : Nat} {w : Nat → Nat} (h : ∀ i, i < e → w i ≤ b) : sumN e w ≤ e * b := by
  induction e with
  | zero => simp [sumN]
  | succ e ih =>
    have h1 := ih (fun i hi => h i (by omega))
    have h2 := h e (by omega)
    rw [sumN, Nat.succ_mul]
    omega
/-- the first i below e with no p, or none -/
theorem loop_find {α : Type} (F : Nat → Nat → α) (e : Nat) (p : Nat → Prop) (X : Nat → α) (Y : α) (he : e < 1000000000000)
    (h1 : ∀ n i, i < e → p i → F (n + 1) i = F n (i + 1)) (h2 : ∀ n i, i < e → ¬ p i → F (n + 1) i = X i) (h3 : ∀ n, F (n + 1) e = Y) :
    ((∀ i, i < e → p i) ∧ F FU 0 = Y) ∨ ∃ i, i < e ∧ ¬ p i ∧ (∀ i', i' < i → p i') ∧ F FU 0 = X i := by
  refine loopE (fun n i (_ : Unit) => F n i) e (fun i _ => ∀ i', i' < i → p i') (fun R => ((∀ i, i < e → p i) ∧ R = Y) ∨ ∃ i, i < e ∧ ¬ p i ∧ (∀ i', i' < i → p i') ∧ R = X i) ?_ ?_ FU 0 () (by omega) (FU_gt (by omega)) (fun i' hi => by omega)
  · intro n i a hi hp
    by_cases h : p i
    · refine Or.inr ⟨(), h1 n i hi h, fun i' hi' => ?_⟩
      by_cases h4 : i' = i
      · rw [h4]; exact h
      · exact hp i' (by omega)
    · exact Or.inl (Or.inr ⟨i, hi, h, hp, h2 n i hi h⟩)
  · intro n a hp
    exact Or.inl ⟨hp, h3 n⟩
theorem loop_all {α : Type} (F : Nat → Nat → α) (e : Nat) (p : Nat → Prop) (X : α) (Y : α) (he : e < 1000000000000)
    (h1 : ∀ n i, i < e → p i → F (n + 1) i = F n (i + 1)) (h2 : ∀ n i, i < e → ¬ p i → F (n + 1) i = X) (h3 : ∀ n, F (n + 1) e = Y) :
    F FU 0 = if dB (∀ i, i < e → p i) = true then Y else X := by
  rcases loop_find F e p (fun _ => X) Y he h1 h2 h3 with ⟨a, b⟩ | ⟨i, a, b, c, d⟩
  · rw [dB_t a, b]; rfl
  · rw [dB_f (fun h => b (h i a)), d]; rfl
theorem loop_acc {α β : Type} (F : Nat → Nat → β → α) (e : Nat) (g : Nat → β → β) (K : β → α) (P : Nat → β → Prop) (he : e < 1000000000000) (a : β) (ha : P 0 a)
    (hs : ∀ n i a, i < e → P i a → F (n + 1) i a = F n (i + 1) (g i a)) (hP : ∀ i a, i < e → P i a → P (i + 1) (g i a)) (hx : ∀ n a, P e a → F (n + 1) e a = K a) : ∃ a', P e a' ∧ F FU 0 a = K a' := by
  refine loopE F e P (fun R => ∃ a', P e a' ∧ R = K a') ?_ ?_ FU 0 a (by omega) (FU_gt (by omega)) ha
  · intro n i a hi hp
    exact Or.inr ⟨g i a, hs n i a hi hp, hP i a hi hp⟩
  · intro n a hp
    exact ⟨a, hp, hx n a hp⟩
theorem loop_sum {α : Type} (F : Nat → Nat → Nat → α) (e b : Nat) (w : Nat → Nat) (K : Nat → α) (he : e < 1000000) (hb : ∀ i, i < e → w i ≤ b) (a : Nat)
    (hs : ∀ n i x, i < e → x ≤ a + i * b → F (n + 1) i x = F n (i + 1) (x + w i)) (hx : ∀ n x, x ≤ a + e * b → F (n + 1) e x = K x) : F FU 0 a = K (a + sumN e w) := by
  obtain ⟨x, hx1, hx2⟩ := loop_acc F e (fun i x => x + w i) K (fun i x => x = a + sumN i w ∧ i ≤ e) (by omega) a ⟨by simp [sumN], by omega⟩
    (fun n i x hi hp => hs n i x hi (by have := sumN_le (fun j hj => hb j (Nat.lt_trans hj hi)); omega))
    (fun i x hi hp => ⟨by rw [hp.1, sumN, Nat.add_assoc], hi⟩)
    (fun n x hp => hx n x (by have := sumN_le (fun j hj => hb j hj); omega))
  rw [hx2, hx1.1]
theorem loop_flag {α : Type} (F : Nat → Nat → Bool → α) (e : Nat) (p : Nat → Prop) (K : Bool → α) (he : e < 1000000000000) (b : Bool)
    (hs : ∀ n i x, i < e → F (n + 1) i x = F n (i + 1) (x && dB (p i))) (hx : ∀ n x, F (n + 1) e x = K x) : F FU 0 b = K (b && dB (∀ i, i < e → p i)) := by
  have hP : ∀ i x, i < e → x = (b && dB (∀ i', i' < i → p i')) → (x && dB (p i)) = (b && dB (∀ i', i' < i + 1 → p i')) := by
    intro i x hi hp
    rw [hp, Bool.and_assoc]
    congr 1
    apply b_dB
    rw [Bool.and_eq_true, dB_iff, dB_iff]
    constructor
    · rintro ⟨h1, h2⟩ i' hi'
      by_cases h4 : i' = i
      · rw [h4]; exact h2
      · exact h1 i' (by omega)
    · intro h; exact ⟨fun i' hi' => h i' (by omega), h i (by omega)⟩
  obtain ⟨x, hx1, hx2⟩ := loop_acc F e (fun i x => x && dB (p i)) K (fun i x => x = (b && dB (∀ i', i' < i → p i'))) he b (by rw [dB_t (fun i hi => by omega), Bool.and_true]) (fun n i x hi _ => hs n i x hi) hP (fun n x _ => hx n x)
  rw [hx2, hx1]
theorem loop_or {α : Type} (F : Nat → Nat → (Nat → Bool) → α) (e : Nat) (q : Nat → Nat → Prop) (K : (Nat → Bool) → α) (he : e < 1000000000000) (p0 : Nat → Bool)
    (hs : ∀ n i p, i < e → F (n + 1) i p = F n (i + 1) (fun s => p s || dB (q i s))) (hx : ∀ n p, F (n + 1) e p = K p) : F FU 0 p0 = K (fun s => p0 s || dB (∃ i, i < e ∧ q i s)) := by
  have hP : ∀ i (x : Nat → Bool), i < e → x = (fun s => p0 s || dB (∃ i', i' < i ∧ q i' s)) → (fun s => x s || dB (q i s)) = (fun s => p0 s || dB (∃ i', i' < i + 1 ∧ q i' s)) := by
    intro i x hi hp
    rw [hp]
    funext s
    rw [Bool.or_assoc]
    congr 1
    apply b_dB
    rw [Bool.or_eq_true, dB_iff, dB_iff]
    constructor
    · rintro (⟨i', h1, h2⟩ | h)
      · exact ⟨i', by omega, h2⟩
      · exact ⟨i, by omega, h⟩
    · rintro ⟨i', h1, h2⟩
      by_cases h4 : i' = i
      · rw [h4] at h2; exact Or.inr h2
      · exact Or.inl ⟨i', by omega, h2⟩
  obtain ⟨x, hx1, hx2⟩ := loop_acc F e (fun i p => fun s => p s || dB (q i s)) K (fun i p => p = (fun s => p0 s || dB (∃ i', i' < i ∧ q i' s))) he p0 (by funext s; rw [dB_f (fun ⟨i, hi, _⟩ => by omega), Bool.or_false]) (fun n i x hi _ => hs n i x hi) hP (fun n x _ => hx n x)
  rw [hx2, hx1]
/-- a square: full, by the law -/
def SQ (n : Nat) (B : Nat → Nat → Nat) : Prop := Wf n B ∧ ∀ r c, r < n → c < n → B r c ≠ 0
def sg (B : Nat → Nat → Nat) (r c : Nat) : Nat := B r c - 1
theorem SQ.ce {n : Nat} {B : Nat → Nat → Nat} (h : SQ n B) {r c : Nat} (hr : r < n) (hc : c < n) : ce (B r c) = nI (sg B r c) := by
  have h1 := h.2 r c hr hc
  unfold sg
  rw [show B r c = (B r c - 1) + 1 by omega, ce_s, Nat.add_sub_cancel]
/-! turned from whole: 66.sqop -/
section NU
variable {σ : St} {k n : Nat} {B : Nat → Nat → Nat}
theorem some_bI (b : Bool) : (if b = true then some (1 : Int32) else some 0) = some (bI b) := by cases b <;> rfl
end NU
/-! turned from whole: 68.closed -/
theorem or_oneB {i : Nat} (hi : i < 5) (p : Nat → Bool) : sI p ||| (1 <<< (nI i &&& 31)) = sI (fun s => p s || dB (s = i)) := by
  rw [sI_one hi, sI_or]; apply sI_cong; intro s hs; congr 1; apply b_dB; simp
def inN (n : Nat) (p : Nat → Bool) : Prop := ∀ s, p s = true → s < n
theorem sI_eq {n : Nat} (hn : n ≤ 5) {p q : Nat → Bool} (hp : inN n p) (hq : inN n q) : (sI p = sI q) = (p = q) := by
  apply propext
  constructor
  · intro h
    funext s
    by_cases hs : s < 5
    · exact sI_inj h s hs
    · have h1 : p s = false := Bool.eq_false_iff.mpr (fun h => by have := hp s h; omega)
      have h2 : q s = false := Bool.eq_false_iff.mpr (fun h => by have := hq s h; omega)
      rw [h1, h2]
  · rintro rfl; rfl
/-! turned from whole: 69.sets -/
theorem tn_le (b : Bool) : b.toNat ≤ 1 := by cases b <;> decide
/-! turned from whole: 70.write -/
theorem ix25 {n r c : Nat} (hn : n ≤ 5) (hr : r < n) (hc : c < n) : n * r + c < 25 := by
  have h1 : n * r ≤ n * (n - 1) := Nat.mul_le_mul_left _ (by omega)
  have h2 : n * (n - 1) ≤ 5 * (n - 1) := Nat.mul_le_mul_right _ (by omega)
  omega
def upG (B : Nat → Nat → Nat → Nat) (j : Nat) (X : Nat → Nat → Nat) : Nat → Nat → Nat → Nat := fun j' => if j' = j then X else B j'
def upN (N : Nat → Nat) (j n : Nat) : Nat → Nat := fun j' => if j' = j then n else N j'
def FrG (σ σ' : St) : Prop := ∀ m, ¬ scr m → m ≠ 0 → ¬ (34 ≤ m ∧ m ≤ 81) → σ' m = σ m
theorem FrG.c {σ σ' : St} (h : FrC σ σ') : FrG σ σ' := fun m hm _ _ => h m hm
theorem FrG.trans {a b c : St} (h : FrG a b) (h2 : FrG b c) : FrG a c := fun m a b c => (h2 m a b c).trans (h m a b c)
section WO
variable {cd : Nat → Option Int32} {Q : St → Option (Except Nat Int32 × St)} {R : St → Option (Int32 × St)} {σ : St} {M : Nat} {N : Nat → Nat} {B : Nat → Nat → Nat → Nat}
theorem gid_off {i j : Nat} (h : i ≠ j) {m : Nat} (h1 : gid i ≤ m) (h2 : m ≤ gid i + 3) : m < gid j ∨ gid j + 3 < m := by unfold gid at *; omega
/-- the class writes into the grid j -/
theorem CW.up (h : CW σ M N B) {σ' : St} {j : Nat} (hj : j < M) {X : Nat → Nat → Nat} (hX : GOK σ' (gid j) (N j) X) (h0 : σ' 0 8 = σ 0 8) (hf : ∀ m, 34 ≤ m → m ≤ 81 → (m < gid j ∨ gid j + 3 < m) → σ' m = σ m) : CW σ' M N (upG B j X) := by
  obtain ⟨h1, h2, h3⟩ := h
  refine ⟨h1, by rw [h0]; exact h2, fun i hi => ?_⟩
  by_cases e : i = j
  · subst e
    unfold upG; rw [if_pos rfl]; exact hX
  · unfold upG; rw [if_neg e]
    exact (h3 i hi).frame (fun m a b => hf m (by unfold gid at a; omega) (by unfold gid at b; omega) (gid_off e a b))
theorem newGrid_ok (h : CW σ M N B) (hM : M < 12) {n : Nat} (h1 : 2 ≤ n) (h2 : n ≤ 5) : ∃ σ', f_Q_newGrid σ (nI n) = some (.ok (gid M), σ') ∧ CW σ' (M + 1) (upN N M n) (upG B M B0) ∧ ∀ m, m ≠ 0 → (m < gid M ∨ gid M + 3 < m) → σ' m = σ m := by
  obtain ⟨τ, e, g, f⟩ := clear_ok (gid M) n h1 h2 (wr σ 0 8 (nI (M + 1)))
  refine ⟨τ, ?_, ⟨by omega, ?_, fun i hi => ?_⟩, fun m hm hm2 => ?_⟩
  · unfold f_Q_newGrid
    simp (disch := omega) only [h.2.1, e, and_self, and_true, true_and, and_false, false_and, cap_some, cal_some, cax_ok, cax_er, jn_eq, lt1_eq, sto_eq, ald_nI, ast_nI, gld_nI, lt_nI, le_nI, eq_nI, nI_1, nI_add, nI_mul, cell5, cell25, ce_m1, if_pos, if_neg, ↓reduceIte, if_true, if_false, lt_l0, le_l0, eq_l0, ll_t0, add_l0, lt_l1, le_l1, eq_l1, ll_t1, add_l1, lt_l2, le_l2, eq_l2, ll_t2, add_l2, lt_l3, le_l3, eq_l3, ll_t3, add_l3, lt_l4, le_l4, eq_l4, ll_t4, add_l4, lt_l5, le_l5, eq_l5, ll_t5, add_l5, lt_l6, le_l6, eq_l6, ll_t6, add_l6, lt_l10, le_l10, eq_l10, ll_t10, add_l10, lt_l12, le_l12, eq_l12, ll_t12, add_l12, lt_l25, le_l25, eq_l25, ll_t25, add_l25, lt_l40, le_l40, eq_l40, ll_t40, add_l40, lt_l41, le_l41, eq_l41, ll_t41, add_l41, lt_l42, le_l42, eq_l42, ll_t42, add_l42, lt_l61, le_l61, eq_l61, ll_t61, add_l61, lt_l120, le_l120, eq_l120, ll_t120, add_l120, lt_l121, le_l121, eq_l121, ll_t121, add_l121, lt_l122, le_l122, eq_l122, ll_t122, add_l122, lt_l576, le_l576, eq_l576, ll_t576, add_l576, lt_l600, le_l600, eq_l600, ll_t600, add_l600, lt_l1000, le_l1000, eq_l1000, ll_t1000, add_l1000]
  · rw [f 0 (by unfold gid; omega), wr_at]
  · by_cases ei : i = M
    · subst ei
      unfold upG upN; rw [if_pos rfl, if_pos rfl]; exact g
    · unfold upG upN; rw [if_neg ei, if_neg ei]
      refine (h.2.2 i (by omega)).frame (fun m a b => ?_)
      rw [f m (gid_off ei a b), wr_fn (by unfold gid at a; omega)]
  · rw [f m hm2, wr_fn hm]
end WO
/-! turned from whole: 71.put -/
theorem ce_cases {n : Nat} (hn : n ≤ 5) (x : Int32) : btw x (-1) (nI n - 1) = true ↔ ∃ v, v ≤ n ∧ x = ce v := by
  have e : nI n - 1 = ce n := rfl
  constructor
  · intro h
    unfold btw at h
    rw [Bool.and_eq_true, decide_eq_true_iff, decide_eq_true_iff] at h
    by_cases h0 : x < 0
    · have h1 : x = -1 := by
        apply Int32.toInt_inj.mp
        have a := Int32.not_lt.mp h.1
        rw [Int32.le_iff_toInt_le] at a
        rw [Int32.lt_iff_toInt_lt] at h0
        have b : (-1 : Int32).toInt = -1 := by decide
        have c : (0 : Int32).toInt = 0 := by decide
        omega
      exact ⟨0, by omega, h1⟩
    · obtain ⟨s, hs, rfl⟩ := nI_of h0
      refine ⟨s + 1, ?_, (ce_s s).symm⟩
      cases n with
      | zero =>
        exfalso
        rw [e, ce_0] at h
        exact nI_pos (n := s) (by omega) (Int32.lt_of_le_of_lt h.2 (by decide))
      | succ n =>
        rw [nI_pred, le_nI hs (by omega)] at h
        omega
  · rintro ⟨v, hv, rfl⟩
    unfold btw
    rw [Bool.and_eq_true, decide_eq_true_iff, decide_eq_true_iff]
    cases v with
    | zero =>
      refine ⟨by decide, ?_⟩
      rw [e]
      cases n with
      | zero => decide
      | succ n => rw [ce_s, ce_0]; exact Int32.le_trans (by decide : (-1 : Int32) ≤ 0) (nI_pos' (by omega))
    | succ v =>
      rw [ce_s]
      refine ⟨fun h => nI_pos (n := v) (by omega) (Int32.lt_trans h (by decide)), ?_⟩
      cases n with
      | zero => omega
      | succ n => rw [nI_pred]; exact nI_le (by omega) (by omega)
theorem idx_inj {n r c r' c' : Nat} (hc : c < n) (hc' : c' < n) (h : n * r + c = n * r' + c') : r = r' ∧ c = c' := by
  have h1 := congrArg (· / n) h
  simp only [Nat.mul_add_div (show n > 0 by omega), Nat.div_eq_of_lt hc, Nat.div_eq_of_lt hc', Nat.add_zero] at h1
  subst h1
  exact ⟨rfl, by omega⟩
section PU
variable {σ : St} {M : Nat} {N : Nat → Nat} {B : Nat → Nat → Nat → Nat}
theorem upG_upG {j : Nat} {X Y : Nat → Nat → Nat} : upG (upG B j X) j Y = upG B j Y := by
  funext i; unfold upG; split <;> rfl
theorem upG_at {j : Nat} {X : Nat → Nat → Nat} : upG B j X j = X := by unfold upG; rw [if_pos rfl]
def clash (n : Nat) (B : Nat → Nat → Nat) (r c v i : Nat) : Prop := (i ≠ c ∧ B r i = v) ∨ (i ≠ r ∧ B i c = v)
theorem hasInLines_ok {k n : Nat} {B : Nat → Nat → Nat} (h : GOK σ k n B) {r c s : Nat} (hr : r < n) (hc : c < n) (hs : s < 5) : f_Grid_hasInLines σ k (nI r) (nI c) (nI s) = some (bI (rowHas B r s || colHas B c s)) := by
  have hn := h.le
  unfold f_Grid_hasInLines
  rw [has_in h hr hc]
  simp only [cap_some, jn_eq]
  rw [if_neg (by decide), ald_nI (by omega) (by decide), ald_nI (by omega) (by decide), h.row (by omega), h.col (by omega), sI_or, isIn_sI _ hs]
  simp only [cap_some]
  cases rowHas B r s <;> cases colHas B c s <;> rfl
theorem hasInLines_m {k n : Nat} {B : Nat → Nat → Nat} (h : GOK σ k n B) {r c : Nat} (hr : r < n) (hc : c < n) : f_Grid_hasInLines σ k (nI r) (nI c) (-1) = some 0 := by
  have hn := h.le
  unfold f_Grid_hasInLines
  rw [has_in h hr hc]
  simp only [cap_some, jn_eq]
  rw [if_neg (by decide), ald_nI (by omega) (by decide), ald_nI (by omega) (by decide)]
  rfl
/-- the class writes one cell of the grid j -/
theorem CW.cell (h : CW σ M N B) {j r c v : Nat} (hj : j < M) (hr : r < N j) (hc : c < N j) (hv : v ≤ N j) (hw : Wf (N j) (upB (B j) r c v)) : ∃ σ', f_Grid_set σ (gid j) (nI r) (nI c) (ce v) = some ((), σ') ∧ CW σ' M N (upG B j (upB (B j) r c v)) ∧ ∀ m, m < gid j ∨ gid j + 3 < m → σ' m = σ m := by
  have hG := h.g hj
  refine ⟨_, set_eq hG hr hc hv, h.up hj (set_GOK hG hr hc hv hw) ?_ (fun m _ _ hm => setSt_fr hm), fun m hm => setSt_fr hm⟩
  rw [setSt_fr (by unfold gid; omega)]
end PU
theorem Wf.putv {n : Nat} {B : Nat → Nat → Nat} (h : Wf n B) {r c v : Nat} (hr : r < n) (hc : c < n) (hv : v ≤ n) (hcl : v ≠ 0 → ∀ i, i < n → ¬ clash n B r c v i) : Wf n (upB B r c v) := by
  cases v with
  | zero => exact h.put0 r c
  | succ s =>
    have hcl := hcl (by omega)
    refine h.put hr hc (by omega) (fun c' hc' e => ?_) (fun r' hr' e => ?_)
    · exact hcl c' (h.2.2.1 r c' (by omega)).2.1 (Or.inl ⟨hc', e⟩)
    · exact hcl r' (h.2.2.1 r' c (by omega)).1 (Or.inr ⟨hr', e⟩)
