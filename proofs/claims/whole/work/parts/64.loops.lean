/-! loops of a kind; squares -/
noncomputable def dB (p : Prop) : Bool := @decide p (Classical.propDecidable p)
theorem dB_iff {p : Prop} : dB p = true ↔ p := @decide_eq_true_iff p (Classical.propDecidable p)
theorem dB_t {p : Prop} (h : p) : dB p = true := dB_iff.mpr h
theorem dB_f {p : Prop} (h : ¬ p) : dB p = false := by
  cases e : dB p
  · rfl
  · exact absurd (dB_iff.mp e) h
theorem dB_fi {p : Prop} : dB p = false ↔ ¬ p := ⟨fun h hp => (by rw [dB_t hp] at h; cases h), dB_f⟩
theorem dB_cong {p q : Prop} (h : p ↔ q) : dB p = dB q := by
  by_cases hp : p
  · rw [dB_t hp, dB_t (h.mp hp)]
  · rw [dB_f hp, dB_f (fun hq => hp (h.mpr hq))]
theorem dB_T : dB True = true := dB_t trivial
theorem dB_F : dB False = false := dB_f id
theorem dB_not {p : Prop} : dB (¬ p) = !dB p := by
  by_cases h : p
  · rw [dB_t h, dB_f (fun h2 => h2 h)]; rfl
  · rw [dB_f h, dB_t h]; rfl
theorem dB_and {p q : Prop} : dB (p ∧ q) = (dB p && dB q) := by
  by_cases h : p
  · by_cases h2 : q
    · rw [dB_t h, dB_t h2, dB_t ⟨h, h2⟩]; rfl
    · rw [dB_f h2, dB_f (fun h3 => h2 h3.2), Bool.and_false]
  · rw [dB_f h, dB_f (fun h3 => h h3.1), Bool.false_and]
theorem b_dB {b : Bool} {p : Prop} (h : b = true ↔ p) : b = dB p := by
  cases b
  · exact (dB_f (fun hp => by cases h.mpr hp)).symm
  · exact (dB_t (h.mp rfl)).symm
def sumN : Nat → (Nat → Nat) → Nat
  | 0, _ => 0
  | e + 1, w => sumN e w + w e
theorem sumN_congr {e : Nat} {w w' : Nat → Nat} (h : ∀ i, i < e → w i = w' i) : sumN e w = sumN e w' := by
  induction e with
  | zero => rfl
  | succ e ih => rw [sumN, sumN, ih (fun i hi => h i (by omega)), h e (by omega)]
theorem sumN_le {e b : Nat} {w : Nat → Nat} (h : ∀ i, i < e → w i ≤ b) : sumN e w ≤ e * b := by
  induction e with
  | zero => simp [sumN]
  | succ e ih =>
    have h1 := ih (fun i hi => h i (by omega))
    have h2 := h e (by omega)
    rw [sumN, Nat.succ_mul]
    omega
/-- the first i below e with no p, or none -/
theorem loop_find {α : Type} (F : Nat → Nat → α) (e : Nat) (p : Nat → Prop) (X : Nat → α) (Y : α) (he : e < 1000000000000)
    (h1 : ∀ n i, i < e → p i → F (n + 1) i = F n (i + 1)) (h2 : ∀ n i, i < e → ¬ p i → F (n + 1) i = X i) (h3 : ∀ n, F (n + 1) e = Y) :
    ((∀ i, i < e → p i) ∧ F FU 0 = Y) ∨ ∃ i, i < e ∧ ¬ p i ∧ (∀ i', i' < i → p i') ∧ F FU 0 = X i := by
  refine loopE (fun n i (_ : Unit) => F n i) e (fun i _ => ∀ i', i' < i → p i') (fun R => ((∀ i, i < e → p i) ∧ R = Y) ∨ ∃ i, i < e ∧ ¬ p i ∧ (∀ i', i' < i → p i') ∧ R = X i) ?_ ?_ FU 0 () (by omega) (FU_gt (by omega)) (fun i' hi => by omega)
  · intro n i a hi hp
    by_cases h : p i
    · refine Or.inr ⟨(), h1 n i hi h, fun i' hi' => ?_⟩
      by_cases h4 : i' = i
      · rw [h4]; exact h
      · exact hp i' (by omega)
    · exact Or.inl (Or.inr ⟨i, hi, h, hp, h2 n i hi h⟩)
  · intro n a hp
    exact Or.inl ⟨hp, h3 n⟩
theorem loop_all {α : Type} (F : Nat → Nat → α) (e : Nat) (p : Nat → Prop) (X : α) (Y : α) (he : e < 1000000000000)
    (h1 : ∀ n i, i < e → p i → F (n + 1) i = F n (i + 1)) (h2 : ∀ n i, i < e → ¬ p i → F (n + 1) i = X) (h3 : ∀ n, F (n + 1) e = Y) :
    F FU 0 = if dB (∀ i, i < e → p i) = true then Y else X := by
  rcases loop_find F e p (fun _ => X) Y he h1 h2 h3 with ⟨a, b⟩ | ⟨i, a, b, c, d⟩
  · rw [dB_t a, b]; rfl
  · rw [dB_f (fun h => b (h i a)), d]; rfl
theorem loop_acc {α β : Type} (F : Nat → Nat → β → α) (e : Nat) (g : Nat → β → β) (K : β → α) (P : Nat → β → Prop) (he : e < 1000000000000) (a : β) (ha : P 0 a)
    (hs : ∀ n i a, i < e → P i a → F (n + 1) i a = F n (i + 1) (g i a)) (hP : ∀ i a, i < e → P i a → P (i + 1) (g i a)) (hx : ∀ n a, P e a → F (n + 1) e a = K a) : ∃ a', P e a' ∧ F FU 0 a = K a' := by
  refine loopE F e P (fun R => ∃ a', P e a' ∧ R = K a') ?_ ?_ FU 0 a (by omega) (FU_gt (by omega)) ha
  · intro n i a hi hp
    exact Or.inr ⟨g i a, hs n i a hi hp, hP i a hi hp⟩
  · intro n a hp
    exact ⟨a, hp, hx n a hp⟩
theorem loop_sum {α : Type} (F : Nat → Nat → Nat → α) (e b : Nat) (w : Nat → Nat) (K : Nat → α) (he : e < 1000000) (hb : ∀ i, i < e → w i ≤ b) (a : Nat)
    (hs : ∀ n i x, i < e → x ≤ a + i * b → F (n + 1) i x = F n (i + 1) (x + w i)) (hx : ∀ n x, x ≤ a + e * b → F (n + 1) e x = K x) : F FU 0 a = K (a + sumN e w) := by
  obtain ⟨x, hx1, hx2⟩ := loop_acc F e (fun i x => x + w i) K (fun i x => x = a + sumN i w ∧ i ≤ e) (by omega) a ⟨by simp [sumN], by omega⟩
    (fun n i x hi hp => hs n i x hi (by have := sumN_le (fun j hj => hb j (Nat.lt_trans hj hi)); omega))
    (fun i x hi hp => ⟨by rw [hp.1, sumN, Nat.add_assoc], hi⟩)
    (fun n x hp => hx n x (by have := sumN_le (fun j hj => hb j hj); omega))
  rw [hx2, hx1.1]
theorem loop_flag {α : Type} (F : Nat → Nat → Bool → α) (e : Nat) (p : Nat → Prop) (K : Bool → α) (he : e < 1000000000000) (b : Bool)
    (hs : ∀ n i x, i < e → F (n + 1) i x = F n (i + 1) (x && dB (p i))) (hx : ∀ n x, F (n + 1) e x = K x) : F FU 0 b = K (b && dB (∀ i, i < e → p i)) := by
  have hP : ∀ i x, i < e → x = (b && dB (∀ i', i' < i → p i')) → (x && dB (p i)) = (b && dB (∀ i', i' < i + 1 → p i')) := by
    intro i x hi hp
    rw [hp, Bool.and_assoc]
    congr 1
    apply b_dB
    rw [Bool.and_eq_true, dB_iff, dB_iff]
    constructor
    · rintro ⟨h1, h2⟩ i' hi'
      by_cases h4 : i' = i
      · rw [h4]; exact h2
      · exact h1 i' (by omega)
    · intro h; exact ⟨fun i' hi' => h i' (by omega), h i (by omega)⟩
  obtain ⟨x, hx1, hx2⟩ := loop_acc F e (fun i x => x && dB (p i)) K (fun i x => x = (b && dB (∀ i', i' < i → p i'))) he b (by rw [dB_t (fun i hi => by omega), Bool.and_true]) (fun n i x hi _ => hs n i x hi) hP (fun n x _ => hx n x)
  rw [hx2, hx1]
theorem loop_or {α : Type} (F : Nat → Nat → (Nat → Bool) → α) (e : Nat) (q : Nat → Nat → Prop) (K : (Nat → Bool) → α) (he : e < 1000000000000) (p0 : Nat → Bool)
    (hs : ∀ n i p, i < e → F (n + 1) i p = F n (i + 1) (fun s => p s || dB (q i s))) (hx : ∀ n p, F (n + 1) e p = K p) : F FU 0 p0 = K (fun s => p0 s || dB (∃ i, i < e ∧ q i s)) := by
  have hP : ∀ i (x : Nat → Bool), i < e → x = (fun s => p0 s || dB (∃ i', i' < i ∧ q i' s)) → (fun s => x s || dB (q i s)) = (fun s => p0 s || dB (∃ i', i' < i + 1 ∧ q i' s)) := by
    intro i x hi hp
    rw [hp]
    funext s
    rw [Bool.or_assoc]
    congr 1
    apply b_dB
    rw [Bool.or_eq_true, dB_iff, dB_iff]
    constructor
    · rintro (⟨i', h1, h2⟩ | h)
      · exact ⟨i', by omega, h2⟩
      · exact ⟨i, by omega, h⟩
    · rintro ⟨i', h1, h2⟩
      by_cases h4 : i' = i
      · rw [h4] at h2; exact Or.inr h2
      · exact Or.inl ⟨i', by omega, h2⟩
  obtain ⟨x, hx1, hx2⟩ := loop_acc F e (fun i p => fun s => p s || dB (q i s)) K (fun i p => p = (fun s => p0 s || dB (∃ i', i' < i ∧ q i' s))) he p0 (by funext s; rw [dB_f (fun ⟨i, hi, _⟩ => by omega), Bool.or_false]) (fun n i x hi _ => hs n i x hi) hP (fun n x _ => hx n x)
  rw [hx2, hx1]
/-- a square: full, by the law -/
def SQ (n : Nat) (B : Nat → Nat → Nat) : Prop := Wf n B ∧ ∀ r c, r < n → c < n → B r c ≠ 0
def sg (B : Nat → Nat → Nat) (r c : Nat) : Nat := B r c - 1
theorem full_sq {n : Nat} {B : Nat → Nat → Nat} (h : Wf n B) (hf : full n B = true) : SQ n B := ⟨h, (full_iff h).mp (of_decide_eq_true hf)⟩
theorem SQ.lt {n : Nat} {B : Nat → Nat → Nat} (h : SQ n B) {r c : Nat} (hr : r < n) (hc : c < n) : sg B r c < n := by
  have h1 := h.2 r c hr hc
  have h2 := h.1.bn r c
  unfold sg; omega
theorem SQ.ce {n : Nat} {B : Nat → Nat → Nat} (h : SQ n B) {r c : Nat} (hr : r < n) (hc : c < n) : ce (B r c) = nI (sg B r c) := by
  have h1 := h.2 r c hr hc
  unfold sg
  rw [show B r c = (B r c - 1) + 1 by omega, ce_s, Nat.add_sub_cancel]
theorem SQ.inj_r {n : Nat} {B : Nat → Nat → Nat} (h : SQ n B) {r c c' : Nat} (hr : r < n) (hc : c < n) (hc' : c' < n) (e : sg B r c = sg B r c') : c = c' := by
  have h1 := h.2 r c hr hc; have h2 := h.2 r c' hr hc'
  unfold sg at e
  exact h.1.2.2.2.1 r c c' h1 (by omega)
theorem SQ.inj_c {n : Nat} {B : Nat → Nat → Nat} (h : SQ n B) {r r' c : Nat} (hr : r < n) (hr' : r' < n) (hc : c < n) (e : sg B r c = sg B r' c) : r = r' := by
  have h1 := h.2 r c hr hc; have h2 := h.2 r' c hr' hc
  unfold sg at e
  exact h.1.2.2.2.2 r r' c h1 (by omega)
theorem sq_sign {σ : St} {k n : Nat} {B : Nat → Nat → Nat} (h : GOK σ k n B) (hs : SQ n B) {r c : Nat} (hr : r < n) (hc : c < n) : f_Grid_signAt σ k (nI r) (nI c) = some (nI (sg B r c)) := by
  rw [sign_in h hr hc, hs.ce hr hc]
theorem sq_at {σ : St} {M : Nat} {N : Nat → Nat} {B : Nat → Nat → Nat → Nat} (h : MW σ M N B) {j : Nat} (hj : j < M) (hs : SQ (N j) (B j)) {r c : Nat} (hr : r < N j) (hc : c < N j) : f_R_at σ (nI j) (nI r) (nI c) = some (nI (sg (B j) r c)) := by
  rw [at_ok h hj hr hc, hs.ce hr hc]
