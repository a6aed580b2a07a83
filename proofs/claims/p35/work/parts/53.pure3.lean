/-! turned from whole: 72.work -/
section WKS
variable {σ : St} {n : Nat} {B : Nat → Nat → Nat}
theorem opt_clash (hw : Wf n B) {r c s : Nat} (h0 : B r c = 0) : opt n B r c s = true ↔ s < n ∧ ∀ i, i < n → ¬ clash n B r c (s + 1) i := by
  rw [opt_iff]
  have hn := hw.2.1
  constructor
  · rintro ⟨_, h1, h2, h3⟩
    refine ⟨h1, fun i hi hc => ?_⟩
    rcases hc with ⟨_, hc⟩ | ⟨_, hc⟩
    · exact h2 i (by omega) hc
    · exact h3 i (by omega) hc
  · rintro ⟨h1, h2⟩
    refine ⟨h0, h1, fun i hi hc => ?_, fun i hi hc => ?_⟩
    · by_cases e : i = c
      · rw [e] at hc; omega
      · exact h2 i (hw.2.2.1 r i (by omega)).2.1 (Or.inl ⟨e, hc⟩)
    · by_cases e : i = r
      · rw [e] at hc; omega
      · exact h2 i (hw.2.2.1 i c (by omega)).1 (Or.inr ⟨e, hc⟩)
theorem opt_in_n {r c : Nat} : inN n (opt n B r c) := fun s hs => (opt_iff.mp hs).2.1
end WKS
theorem sumN_add (a b : Nat) (w : Nat → Nat) : sumN (a + b) w = sumN a w + sumN b (fun i => w (a + i)) := by
  induction b with
  | zero => rfl
  | succ b ih => rw [← Nat.add_assoc, sumN, ih, sumN, Nat.add_assoc]
theorem sumN_mul (a b : Nat) (w : Nat → Nat) : sumN (b * a) w = sumN a (fun r => sumN b (fun c => w (b * r + c))) := by
  induction a with
  | zero => rfl
  | succ a ih => rw [Nat.mul_succ, sumN_add, ih, sumN]
theorem sumN_sq (n : Nat) (w : Nat → Nat → Nat) : sumN (n * n) (fun i => w (i / n) (i % n)) = sumN n (fun r => sumN n (fun c => w r c)) := by
  by_cases h : n = 0
  · subst h; rfl
  rw [sumN_mul]
  apply sumN_congr
  intro r hr
  apply sumN_congr
  intro c hc
  rw [Nat.mul_add_div (by omega), Nat.mul_add_mod, Nat.div_eq_of_lt hc, Nat.mod_eq_of_lt hc, Nat.add_zero]
noncomputable def dead (n : Nat) (B : Nat → Nat → Nat) (r c : Nat) : Nat := (dB (B r c = 0 ∧ opt n B r c = fun _ => false)).toNat
theorem opt_0 {n : Nat} (hn : n ≤ 5) {B : Nat → Nat → Nat} {r c : Nat} : (sI (opt n B r c) = 0) = (opt n B r c = fun _ => false) := by
  rw [← sI_none]
  exact sI_eq hn opt_in_n (fun s hs => by cases hs)
theorem dead14 {σ : St} {k n : Nat} {B : Nat → Nat → Nat} (h : GOK σ k n B) {r : Nat} (hr : r < n) (a : Nat) (ha : a ≤ 100) (K : Int32 → Option Int32) : f_Grid_deadCells_L14 k (nI r) σ K FU (nI a) 0 = K (nI (a + sumN n (dead n B r))) := by
  have hn := h.le; have ho := h.ord
  refine loop_sum (fun m i a => f_Grid_deadCells_L14 k (nI r) σ K m (nI a) (nI i)) n 1 (dead n B r) (fun a => K (nI a)) (by omega) (fun i _ => tn_le _) a ?_ ?_
  · intro m i x hi hx
    show f_Grid_deadCells_L14 k (nI r) σ K (m + 1) (nI x) (nI i) = _
    rw [f_Grid_deadCells_L14.eq_2]
    have hb := h.1.bd r i
    rw [ho, if_pos (nI_lt hi (by omega)), sign_in h hr hi, opt_in h hr hi]
    simp only [cap_some, jn_eq, nI_1]
    simp (disch := omega) only [ce_m1]
    unfold dead
    by_cases e1 : B r i = 0
    · rw [if_pos e1]
      by_cases e2 : opt n B r i = fun _ => false
      · rw [if_pos (by rw [opt_0 hn.2]; exact e2), dB_t ⟨e1, e2⟩]; rfl
      · rw [if_neg (by rw [opt_0 hn.2]; exact e2), dB_f (fun h => e2 h.2)]; rfl
    · rw [if_neg e1, dB_f (fun h => e1 h.1)]; rfl
  · intro m x hx
    show f_Grid_deadCells_L14 k (nI r) σ K (m + 1) (nI x) (nI n) = _
    rw [f_Grid_deadCells_L14.eq_2]
    rw [ho, if_neg (nI_nlt (Nat.le_refl _) (by omega))]
theorem dead_ok {σ : St} {k n : Nat} {B : Nat → Nat → Nat} (h : GOK σ k n B) : f_Grid_deadCells σ k = some (nI (sumN n (fun r => sumN n (fun c => dead n B r c)))) := by
  have hn := h.le; have ho := h.ord
  have hb : ∀ i, i < n → sumN n (dead n B i) ≤ 5 := fun i _ => Nat.le_trans (sumN_le (b := 1) (fun i _ => tn_le _)) (by omega)
  unfold f_Grid_deadCells
  refine (loop_sum (fun m i a => f_Grid_deadCells_L4 k σ (fun v => some v) m (nI a) (nI i)) n 5 (fun r => sumN n (dead n B r)) (fun a => some (nI a)) (by omega) hb 0 ?_ ?_).trans ?_
  · intro m i x hi hx
    show f_Grid_deadCells_L4 k σ _ (m + 1) (nI x) (nI i) = _
    rw [f_Grid_deadCells_L4.eq_2]
    rw [ho, if_pos (nI_lt hi (by omega)), dead14 h hi x (by omega), nI_1]
  · intro m x hx
    show f_Grid_deadCells_L4 k σ _ (m + 1) (nI x) (nI n) = _
    rw [f_Grid_deadCells_L4.eq_2]
    rw [ho, if_neg (nI_nlt (Nat.le_refl _) (by omega))]
  · rw [Nat.zero_add]
/-! turned from whole: 73.forced -/
theorem s5_bv (a b c d e : Bool) : ((s5 a b c d e >>> (nI 0 &&& 31)) &&& 1 = bI a) ∧ ((s5 a b c d e >>> (nI 1 &&& 31)) &&& 1 = bI b) ∧ ((s5 a b c d e >>> (nI 2 &&& 31)) &&& 1 = bI c) ∧ ((s5 a b c d e >>> (nI 3 &&& 31)) &&& 1 = bI d) ∧ ((s5 a b c d e >>> (nI 4 &&& 31)) &&& 1 = bI e) := by
  revert a b c d e; decide +kernel
theorem sI_bv (p : Nat → Bool) {s : Nat} (hs : s < 5) : (sI p >>> (nI s &&& 31)) &&& 1 = bI (p s) := by
  unfold sI
  obtain ⟨h0, h1, h2, h3, h4⟩ := s5_bv (p 0) (p 1) (p 2) (p 3) (p 4)
  match s, hs with
  | 0, _ => exact h0
  | 1, _ => exact h1
  | 2, _ => exact h2
  | 3, _ => exact h3
  | 4, _ => exact h4
/-- the first i below e with p, or none -/
def Fst {α : Type} (e : Nat) (p : Nat → Prop) (R : α) (X : Nat → α) (Y : α) : Prop := (R = Y ∧ ∀ i, i < e → ¬ p i) ∨ ∃ i, i < e ∧ p i ∧ (∀ i', i' < i → ¬ p i') ∧ R = X i
theorem fst_loop {α : Type} (F : Nat → Nat → α) (e : Nat) (p : Nat → Prop) (X : Nat → α) (Y : α) (he : e < 1000000000000)
    (h1 : ∀ n i, i < e → ¬ p i → F (n + 1) i = F n (i + 1)) (h2 : ∀ n i, i < e → p i → F (n + 1) i = X i) (h3 : ∀ n, F (n + 1) e = Y) : Fst e p (F FU 0) X Y := by
  rcases loop_find F e (fun i => ¬ p i) X Y he h1 (fun n i hi hp => h2 n i hi (Classical.byContradiction hp)) h3 with ⟨a, b⟩ | ⟨i, a, b, c, d⟩
  · exact Or.inl ⟨b, a⟩
  · exact Or.inr ⟨i, a, Classical.byContradiction b, c, d⟩
theorem fst_nest {α : Type} (F : Nat → Nat → α) (e b : Nat) (p : Nat → Prop) (X : Nat → α) (Y : α) (he : e < 1000000000000)
    (h : ∀ m i, i < e → Fst b (fun j => p (b * i + j)) (F (m + 1) i) (fun j => X (b * i + j)) (F m (i + 1))) (hx : ∀ m, F (m + 1) e = Y) : Fst (b * e) p (F FU 0) X Y := by
  refine loopE (fun m i (_ : Unit) => F m i) e (fun i _ => ∀ i', i' < b * i → ¬ p i') (fun R => Fst (b * e) p R X Y) ?_ ?_ FU 0 () (by omega) (FU_gt (by omega)) (fun i' hi' => by omega)
  · intro m i _ hi hP
    rcases h m i hi with ⟨e1, e2⟩ | ⟨j, hj, hp, hmin, hR⟩
    · refine Or.inr ⟨(), e1, fun i' hi' => ?_⟩
      by_cases h4 : i' < b * i
      · exact hP i' h4
      · have h5 : ¬ p (b * i + (i' - b * i)) := e2 (i' - b * i) (by rw [Nat.mul_succ] at hi'; omega)
        rwa [show b * i + (i' - b * i) = i' by omega] at h5
    · refine Or.inl (Or.inr ⟨b * i + j, ?_, hp, fun i' hi' => ?_, hR⟩)
      · have h6 : b * (i + 1) ≤ b * e := Nat.mul_le_mul_left b hi
        rw [Nat.mul_succ] at h6; omega
      · by_cases h4 : i' < b * i
        · exact hP i' h4
        · have h5 : ¬ p (b * i + (i' - b * i)) := hmin (i' - b * i) (by omega)
          rwa [show b * i + (i' - b * i) = i' by omega] at h5
  · intro m _ hP
    exact Or.inl ⟨hx m, hP⟩
noncomputable def unl (B C : Nat → Nat → Nat) (r c : Nat) : Nat := (dB (B r c ≠ C r c)).toNat
theorem dist51 {σ : St} {k l n n' : Nat} {B C : Nat → Nat → Nat} (h : GOK σ k n B) (h' : GOK σ l n' C) (e : n = n') {r : Nat} (hr : r < n) (a : Nat) (ha : a ≤ 100) (K : Int32 → Option (Except Nat Int32 × St)) : f_Q_distance_L51 k l (nI r) σ K FU (nI a) 0 = K (nI (a + sumN n (unl B C r))) := by
  subst e
  have hn := h.le; have ho := h.ord
  refine loop_sum (fun m i a => f_Q_distance_L51 k l (nI r) σ K m (nI a) (nI i)) n 1 (unl B C r) (fun a => K (nI a)) (by omega) (fun i _ => tn_le _) a ?_ ?_
  · intro m i x hi hx
    show f_Q_distance_L51 k l (nI r) σ K (m + 1) (nI x) (nI i) = _
    rw [f_Q_distance_L51.eq_2]
    have hb := h.1.bd r i
    have hb' := h'.1.bd r i
    rw [ho, if_pos (nI_lt hi (by omega)), sign_in h hr hi, sign_in h' hr hi]
    simp only [cap_some, jn_eq, nI_1]
    simp (disch := omega) only [ce_inj]
    unfold unl
    by_cases e1 : B r i = C r i
    · rw [if_pos e1, dB_f (fun h => h e1)]; rfl
    · rw [if_neg e1, dB_t e1]; rfl
  · intro m x hx
    show f_Q_distance_L51 k l (nI r) σ K (m + 1) (nI x) (nI n) = _
    rw [f_Q_distance_L51.eq_2]
    rw [ho, if_neg (nI_nlt (Nat.le_refl _) (by omega))]
theorem dist39 {σ : St} {k l n n' : Nat} {B C : Nat → Nat → Nat} (h : GOK σ k n B) (h' : GOK σ l n' C) (e : n = n') (K : Int32 → Option (Except Nat Int32 × St)) : f_Q_distance_L39 k l σ K FU 0 0 = K (nI (sumN n (fun r => sumN n (fun c => unl B C r c)))) := by
  have hn := h.le; have ho := h.ord
  have hb : ∀ i, i < n → sumN n (unl B C i) ≤ 5 := fun i _ => Nat.le_trans (sumN_le (b := 1) (fun i _ => tn_le _)) (by omega)
  refine (loop_sum (fun m i a => f_Q_distance_L39 k l σ K m (nI a) (nI i)) n 5 (fun r => sumN n (unl B C r)) (fun a => K (nI a)) (by omega) hb 0 ?_ ?_).trans ?_
  · intro m i x hi hx
    show f_Q_distance_L39 k l σ K (m + 1) (nI x) (nI i) = _
    rw [f_Q_distance_L39.eq_2]
    rw [ho, if_pos (nI_lt hi (by omega)), dist51 h h' e hi x (by omega), nI_1]
  · intro m x hx
    show f_Q_distance_L39 k l σ K (m + 1) (nI x) (nI n) = _
    rw [f_Q_distance_L39.eq_2]
    rw [ho, if_neg (nI_nlt (Nat.le_refl _) (by omega))]
  · rw [Nat.zero_add]
def fP (n : Nat) (B : Nat → Nat → Nat) (r c s : Nat) : Prop := opt n B r c s = true ∧ ((∀ t, opt n B r c t = true → t = s) ∨ (∀ k, k < n → k ≠ c → opt n B r k s = false) ∨ (∀ k, k < n → k ≠ r → opt n B k c s = false))
section FO
variable {σ : St} {k n : Nat} {B : Nat → Nat → Nat}
theorem aloneR (h : GOK σ k n B) {r c s : Nat} (hr : r < n) (hc : c < n) (hs : s < n) : f_Filling_isAloneInRow σ k (nI r) (nI c) (nI s) = some (bI (dB (∀ i, i < n → i ≠ c → opt n B r i s = false))) := by
  have hn := h.le; have ho := h.ord
  unfold f_Filling_isAloneInRow
  have key : ∀ m i, i < n → f_Filling_isAloneInRow_L3 k (nI r) (nI c) (nI s) σ (m + 1) (nI i) = if i = c then f_Filling_isAloneInRow_L3 k (nI r) (nI c) (nI s) σ m (nI (i + 1)) else if bI (opt n B r i s) = 0 then f_Filling_isAloneInRow_L3 k (nI r) (nI c) (nI s) σ m (nI (i + 1)) else some 0 := by
    intro m i hi
    rw [f_Filling_isAloneInRow_L3.eq_2]
    rw [ho, if_pos (nI_lt hi (by omega)), opt_in h hr hi]
    simp (disch := omega) only [jn_eq, nI_1, eq_nI, cap_some, isIn_opt h hs]
  refine (loop_all (fun m i => f_Filling_isAloneInRow_L3 k (nI r) (nI c) (nI s) σ m (nI i)) n (fun i => i ≠ c → opt n B r i s = false) (some 0) (some 1) (by omega) ?_ ?_ ?_).trans (some_bI _)
  · intro m i hi hp
    show f_Filling_isAloneInRow_L3 k (nI r) (nI c) (nI s) σ (m + 1) (nI i) = _
    rw [key m i hi]
    by_cases e : i = c
    · rw [if_pos e]
    · rw [if_neg e, hp e, if_pos (by rfl)]
  · intro m i hi hp
    show f_Filling_isAloneInRow_L3 k (nI r) (nI c) (nI s) σ (m + 1) (nI i) = _
    rw [key m i hi, if_neg (fun e => hp (fun h => absurd e h))]
    cases e : opt n B r i s
    · exact absurd (fun _ => e) hp
    · rfl
  · intro m
    show f_Filling_isAloneInRow_L3 k (nI r) (nI c) (nI s) σ (m + 1) (nI n) = _
    rw [f_Filling_isAloneInRow_L3.eq_2]
    rw [ho, if_neg (nI_nlt (Nat.le_refl _) (by omega))]
theorem aloneC (h : GOK σ k n B) {r c s : Nat} (hr : r < n) (hc : c < n) (hs : s < n) : f_Filling_isAloneInColumn σ k (nI r) (nI c) (nI s) = some (bI (dB (∀ i, i < n → i ≠ r → opt n B i c s = false))) := by
  have hn := h.le; have ho := h.ord
  unfold f_Filling_isAloneInColumn
  have key : ∀ m i, i < n → f_Filling_isAloneInColumn_L3 k (nI r) (nI c) (nI s) σ (m + 1) (nI i) = if i = r then f_Filling_isAloneInColumn_L3 k (nI r) (nI c) (nI s) σ m (nI (i + 1)) else if bI (opt n B i c s) = 0 then f_Filling_isAloneInColumn_L3 k (nI r) (nI c) (nI s) σ m (nI (i + 1)) else some 0 := by
    intro m i hi
    rw [f_Filling_isAloneInColumn_L3.eq_2]
    rw [ho, if_pos (nI_lt hi (by omega)), opt_in h hi hc]
    simp (disch := omega) only [jn_eq, nI_1, eq_nI, cap_some, isIn_opt h hs]
  refine (loop_all (fun m i => f_Filling_isAloneInColumn_L3 k (nI r) (nI c) (nI s) σ m (nI i)) n (fun i => i ≠ r → opt n B i c s = false) (some 0) (some 1) (by omega) ?_ ?_ ?_).trans (some_bI _)
  · intro m i hi hp
    show f_Filling_isAloneInColumn_L3 k (nI r) (nI c) (nI s) σ (m + 1) (nI i) = _
    rw [key m i hi]
    by_cases e : i = r
    · rw [if_pos e]
    · rw [if_neg e, hp e, if_pos (by rfl)]
  · intro m i hi hp
    show f_Filling_isAloneInColumn_L3 k (nI r) (nI c) (nI s) σ (m + 1) (nI i) = _
    rw [key m i hi, if_neg (fun e => hp (fun h => absurd e h))]
    cases e : opt n B i c s
    · exact absurd (fun _ => e) hp
    · rfl
  · intro m
    show f_Filling_isAloneInColumn_L3 k (nI r) (nI c) (nI s) σ (m + 1) (nI n) = _
    rw [f_Filling_isAloneInColumn_L3.eq_2]
    rw [ho, if_neg (nI_nlt (Nat.le_refl _) (by omega))]
theorem one_opt (hn : n ≤ 5) {r c s : Nat} (hs : s < n) (ho : opt n B r c s = true) : (sI (opt n B r c) = (1 : Int32) <<< (nI s &&& 31)) = (∀ t, opt n B r c t = true → t = s) := by
  rw [sI_one (by omega), sI_eq hn opt_in_n (fun t ht => by rw [of_decide_eq_true ht]; exact hs)]
  apply propext
  constructor
  · intro h t ht
    have := congrFun h t
    rw [ht] at this
    exact of_decide_eq_true this.symm
  · intro h
    funext t
    cases e : opt n B r c t
    · apply Eq.symm
      apply decide_eq_false
      rintro rfl
      rw [ho] at e; cases e
    · exact (decide_eq_true (h t e)).symm
theorem forced_ok (h : GOK σ k n B) {r c s : Nat} (hr : r < n) (hc : c < n) (hs : s < n) : f_Filling_isForced σ k (nI r) (nI c) (nI s) = some (bI (dB (fP n B r c s))) := by
  have hn := h.le
  unfold f_Filling_isForced
  simp only [opt_in h hr hc, cap_some, isIn_opt h hs, aloneR h hr hc hs, aloneC h hr hc hs, jn_eq]
  cases e : opt n B r c s
  · rw [if_pos (by rfl), dB_f (fun h => by rw [h.1] at e; cases e)]; rfl
  · rw [if_neg (by decide)]
    by_cases e1 : ∀ t, opt n B r c t = true → t = s
    · rw [if_pos (by rw [one_opt hn.2 hs e]; exact e1), dB_t (p := fP n B r c s) ⟨e, Or.inl e1⟩]; rfl
    · rw [if_neg (by rw [one_opt hn.2 hs e]; exact e1)]
      by_cases e2 : ∀ i, i < n → i ≠ c → opt n B r i s = false
      · rw [dB_t e2, if_neg (by decide), dB_t (p := fP n B r c s) ⟨e, Or.inr (Or.inl e2)⟩]; rfl
      · rw [dB_f e2, if_pos (by rfl)]
        by_cases e3 : ∀ i, i < n → i ≠ r → opt n B i c s = false
        · rw [dB_t e3, if_neg (by decide), dB_t (p := fP n B r c s) ⟨e, Or.inr (Or.inr e3)⟩]; rfl
        · rw [dB_f e3, if_pos (by rfl), dB_f (p := fP n B r c s)]
          · rfl
          · rintro ⟨_, h1 | h1 | h1⟩
            · exact e1 h1
            · exact e2 h1
            · exact e3 h1
def fI (n : Nat) (B : Nat → Nat → Nat) (i : Nat) : Prop := fP n B (i / n / n) (i / n % n) (i % n)
def pk (n i : Nat) : Nat := 10 * (5 * (i / n / n) + i / n % n) + i % n
theorem idx3 {n r c s : Nat} (hc : c < n) (hs : s < n) : (n * n * r + (n * c + s)) / n / n = r ∧ (n * n * r + (n * c + s)) / n % n = c ∧ (n * n * r + (n * c + s)) % n = s := by
  have h0 : n > 0 := by omega
  rw [show n * n * r + (n * c + s) = n * (n * r + c) + s by rw [Nat.mul_add, Nat.mul_assoc, Nat.add_assoc]]
  rw [Nat.mul_add_div h0, Nat.div_eq_of_lt hs, Nat.add_zero]
  refine ⟨?_, ?_, ?_⟩
  · rw [Nat.mul_add_div h0, Nat.div_eq_of_lt hc, Nat.add_zero]
  · rw [Nat.mul_add_mod, Nat.mod_eq_of_lt hc]
  · rw [Nat.mul_add_mod, Nat.mod_eq_of_lt hs]
theorem first_ok (h : GOK σ k n B) : Fst (n * n * n) (fI n B) (f_Filling_firstForced σ k) (fun i => some (nI (pk n i))) (some (-1)) := by
  have hn := h.le; have ho := h.ord
  unfold f_Filling_firstForced
  refine fst_nest (fun m i => f_Filling_firstForced_L2 k σ (fun a b c => cap (f_Move_packed σ a b c) fun r => some r) m (nI i)) n (n * n) (fI n B) (fun i => some (nI (pk n i))) (some (-1)) (by omega) ?_ ?_
  · intro m r hr
    show Fst (n * n) _ (f_Filling_firstForced_L2 k σ _ (m + 1) (nI r)) _ _
    rw [f_Filling_firstForced_L2.eq_2]
    rw [ho, if_pos (nI_lt hr (by omega)), nI_1]
    refine fst_nest (fun m i => f_Filling_firstForced_L12 k (nI r) σ _ _ m (nI i)) n n (fun j => fI n B (n * n * r + j)) (fun j => some (nI (pk n (n * n * r + j)))) _ (by omega) ?_ ?_
    · intro m c hc
      show Fst n _ (f_Filling_firstForced_L12 k (nI r) σ _ _ (m + 1) (nI c)) _ _
      rw [f_Filling_firstForced_L12.eq_2]
      rw [ho, if_pos (nI_lt hc (by omega)), nI_1]
      refine fst_loop (fun m i => f_Filling_firstForced_L22 k (nI r) (nI c) σ _ _ m (nI i)) n (fun j => fI n B (n * n * r + (n * c + j))) (fun j => some (nI (pk n (n * n * r + (n * c + j))))) _ (by omega) ?_ ?_ ?_
      · intro m s hs hp
        show f_Filling_firstForced_L22 k (nI r) (nI c) σ _ _ (m + 1) (nI s) = _
        rw [f_Filling_firstForced_L22.eq_2]
        unfold fI at hp
        obtain ⟨a1, a2, a3⟩ := idx3 (r := r) hc hs
        rw [a1, a2, a3] at hp
        rw [ho, if_pos (nI_lt hs (by omega)), forced_ok h hr hc hs, dB_f hp, cap_some, if_pos (by rfl), nI_1]
      · intro m s hs hp
        show f_Filling_firstForced_L22 k (nI r) (nI c) σ _ _ (m + 1) (nI s) = _
        rw [f_Filling_firstForced_L22.eq_2]
        unfold fI at hp
        obtain ⟨a1, a2, a3⟩ := idx3 (r := r) hc hs
        unfold pk
        rw [a1, a2, a3] at hp ⊢
        rw [ho, if_pos (nI_lt hs (by omega)), forced_ok h hr hc hs, dB_t hp, cap_some, if_neg (by decide)]
        unfold f_Move_packed
        rw [cap_some, show (5 : Int32) = nI 5 from rfl, show (10 : Int32) = nI 10 from rfl, nI_mul, nI_add, nI_mul, nI_add]
      · intro m
        show f_Filling_firstForced_L22 k (nI r) (nI c) σ _ _ (m + 1) (nI n) = _
        rw [f_Filling_firstForced_L22.eq_2]
        rw [ho, if_neg (nI_nlt (Nat.le_refl _) (by omega))]
    · intro m
      show f_Filling_firstForced_L12 k (nI r) σ _ _ (m + 1) (nI n) = _
      rw [f_Filling_firstForced_L12.eq_2]
      rw [ho, if_neg (nI_nlt (Nat.le_refl _) (by omega))]
  · intro m
    show f_Filling_firstForced_L2 k σ _ (m + 1) (nI n) = _
    rw [f_Filling_firstForced_L2.eq_2]
    rw [ho, if_neg (nI_nlt (Nat.le_refl _) (by omega))]
end FO
/-! turned from whole: 74.logic -/
theorem nm1 {a : Nat} (h : a < 2 ^ 31) : ¬ (nI a = -1) := by rw [neg1_ne h]; exact id
theorem told_pk {σ : St} {n r c s : Nat} (hn : n ≤ 5) (hr : r < 5) (hc : c < 5) (hs : s < 5) : f_Move_told σ (nI (10 * (5 * r + c) + s)) (nI n) = some (nI (10 * (n * r + c) + s)) := by
  have hb : n * r ≤ 5 * 5 := Nat.mul_le_mul hn (by omega)
  unfold f_Move_told f_Move_row f_Move_column f_Move_sign
  rw [if_neg (nm1 (by omega)), show (50 : Int32) = nI 50 from rfl, dvi_nI (by omega) (by omega) (by omega), cap_some, show (10 : Int32) = nI 10 from rfl, dvi_nI (by omega) (by omega) (by omega), show (5 : Int32) = nI 5 from rfl, rmi_nI (by omega) (by omega) (by omega), cap_some, rmi_nI (by omega) (by omega) (by omega), cap_some]
  rw [show (10 * (5 * r + c) + s) / 50 = r by omega, show (10 * (5 * r + c) + s) / 10 % 5 = c by omega, show (10 * (5 * r + c) + s) % 10 = s by omega]
  rw [nI_mul, nI_add, nI_mul, nI_add]
theorem cnt_opt {n : Nat} {B : Nat → Nat → Nat} (hw : Wf n B) {r c : Nat} (hr : r < n) (hc : c < n) (h0 : B r c = 0) : cnt B < n * n := by
  have h1 := cnt_nle hw
  have h2 : cnt B ≠ n * n := fun h => (full_iff hw).mp h r c hr hc h0
  omega
theorem idx_lt {n i : Nat} (h : i < n * n * n) : i / n / n < n ∧ i / n % n < n ∧ i % n < n := by
  have h0 : n > 0 := Nat.pos_of_ne_zero (fun e => by subst e; omega)
  refine ⟨Nat.div_lt_of_lt_mul (Nat.div_lt_of_lt_mul ?_), Nat.mod_lt _ h0, Nat.mod_lt _ h0⟩
  rwa [← Nat.mul_assoc]
/-! turned from whole: 75.comps -/
abbrev Bd := Nat → Nat → Nat
def cells (n : Nat) : List (Nat × Nat) := (List.range (n * n)).map (fun i => (i / n, i % n))
theorem len_sub {α : Type} : ∀ (l l' : List α), l.Nodup → (∀ x, x ∈ l → x ∈ l') → l.length ≤ l'.length := by
  intro l
  induction l with
  | nil => intro l' _ _; simp
  | cons a t ih =>
    intro l' hd hs
    obtain ⟨u, v, rfl⟩ := List.append_of_mem (hs a (List.mem_cons_self ..))
    have hd := List.nodup_cons.mp hd
    have := ih (u ++ v) hd.2 (fun x hx => by
      have h1 := hs x (List.mem_cons_of_mem _ hx)
      rw [List.mem_append, List.mem_cons] at h1
      rw [List.mem_append]
      rcases h1 with h | h | h
      · exact Or.inl h
      · subst h; exact absurd hx hd.1
      · exact Or.inr h)
    simp only [List.length_append, List.length_cons] at this ⊢
    omega
/-! turned from whole: 76.search -/
def EM (σ : St) (n : Nat) (es : List (Nat × Nat)) : Prop := σ 82 15 = nI es.length ∧ ∀ (i : Nat) (p : Nat × Nat), es[i]? = some p → σ 92 i = nI (n * p.1 + p.2)
theorem EM.fr {σ τ : St} {n : Nat} {es : List (Nat × Nat)} (h : EM σ n es) (h1 : τ 82 15 = σ 82 15) (h2 : ∀ s, τ 92 s = σ 92 s) : EM τ n es := ⟨by rw [h1]; exact h.1, fun i p hp => by rw [h2]; exact h.2 i p hp⟩
def FD (σ σ' : St) (n many : Nat) (E : List Bd) : Prop := (many = 0 → ∀ X t, E = X :: t → ∀ r c, r < n → c < n → σ' 93 (n * r + c) = ce (X r c)) ∧ ((many ≠ 0 ∨ E = []) → ∀ s, σ' 93 s = σ 93 s)
theorem FD.fr {σ σ1 τ τ1 : St} {n many : Nat} {E : List Bd} (h : FD σ σ1 n many E) (e : ∀ s, τ 93 s = σ 93 s) (e1 : ∀ s, τ1 93 s = σ1 93 s) : FD τ τ1 n many E :=
  ⟨fun h0 X t hE r c hr hc => by rw [e1]; exact h.1 h0 X t hE r c hr hc, fun hh s => by rw [e, e1]; exact h.2 hh s⟩
/-! turned from whole: 80.fault -/
def upW (w : Nat → Nat) (k v : Nat) : Nat → Nat := fun e => if e = k then v else w e
theorem upW_at {w : Nat → Nat} {k v : Nat} : upW w k v k = v := by unfold upW; rw [if_pos rfl]
theorem upW_ne {w : Nat → Nat} {k v e : Nat} (h : e ≠ k) : upW w k v e = w e := by unfold upW; rw [if_neg h]
theorem CT.ch {σ : St} {t : Nat} {ch : Nat → Nat} (h : CT σ t ch) {i : Nat} (hi : i < t) : isCh (ch i) := h.2.2.2 i hi
def CRs (o : Nat) (σ : St) (d : Nat) (w : Nat → Nat) : Prop := ∀ e, e ≤ d → σ o e = nI (w e)
theorem CRs.up {o : Nat} {σ : St} {d : Nat} {w : Nat → Nat} (h : CRs o σ d w) {k v : Nat} {d' : Nat} (hd : d' ≤ d ∨ (d' = d + 1 ∧ k = d + 1)) : CRs o (wr σ o k (nI v)) d' (upW w k v) := by
  intro e he
  rw [wr_get]
  by_cases e1 : e = k
  · rw [if_pos ⟨rfl, e1⟩, e1, upW_at]
  · rw [if_neg (by omega), upW_ne e1]
    exact h e (by omega)
def Frx (o : Nat) (σ τ : St) : Prop := ∀ m, m ≠ o → τ m = σ m
/-! turned from whole: 81.breaks -/
def Vat (o : Nat) (τ : St) (V : Nat → Nat) (top : Nat) : Prop := ∀ k, k < top → τ o k = nI (V k)
theorem Vat.up {o : Nat} {τ : St} {V : Nat → Nat} {top k v top' : Nat} (h : Vat o τ V top) (hk : ∀ j, j < top' → j = k ∨ j < top) : Vat o (wr τ o k (nI v)) (upW V k v) top' := by
  intro j hj
  rw [wr_get]
  by_cases e : j = k
  · rw [if_pos ⟨rfl, e⟩, e, upW_at]
  · rw [if_neg (by omega), upW_ne e]
    rcases hk j hj with h1 | h1
    · exact absurd h1 e
    · exact h j h1
/-! turned from whole: 82.breaks2 -/
noncomputable def ends (n t : Nat) (ch : Nat → Nat) (l : Nat) : Nat := if dB (∃ i, i < t ∧ ch i = l) = true then n else 1
/-! turned from whole: 83.parity -/
/-- a loop in a loop -/
theorem nest2 {α : Type} (n : Nat) (P : Nat → St → Prop) (F : Nat → Nat → St → α) (G : Nat → (St → α) → Nat → Nat → St → α) (K : St → α) (hn : n < 1000)
    (hG : ∀ r κ m c τ, r < n → c < n → P (n * r + c) τ → ∃ τ', G r κ (m + 1) c τ = G r κ m (c + 1) τ' ∧ P (n * r + c + 1) τ')
    (hGx : ∀ r κ m τ, r < n → P (n * r + n) τ → G r κ (m + 1) n τ = κ τ)
    (hF : ∀ m r τ, r < n → P (n * r) τ → F (m + 1) r τ = G r (fun τ => F m (r + 1) τ) FU 0 τ)
    (hFx : ∀ m τ, P (n * n) τ → F (m + 1) n τ = K τ) : ∀ τ, P 0 τ → ∃ τ', F FU 0 τ = K τ' ∧ P (n * n) τ' := by
  intro τ0 h0
  refine loopE F n (fun r τ => P (n * r) τ) (fun R => ∃ τ', R = K τ' ∧ P (n * n) τ') ?_ ?_ FU 0 τ0 (by omega) (FU_gt (by omega)) h0
  · intro m r τ hr hP
    have A : ∃ τ', G r (fun τ => F m (r + 1) τ) FU 0 τ = F m (r + 1) τ' ∧ P (n * r + n) τ' := by
      refine loopE (G r (fun τ => F m (r + 1) τ)) n (fun c τ => P (n * r + c) τ) (fun R => ∃ τ', R = F m (r + 1) τ' ∧ P (n * r + n) τ') ?_ ?_ FU 0 τ (by omega) (FU_gt (by omega)) hP
      · intro m' c τ hc hP
        obtain ⟨τ', e, h⟩ := hG r _ m' c τ hr hc hP
        exact Or.inr ⟨τ', e, h⟩
      · intro m' τ hP
        exact ⟨τ, hGx r _ m' τ hr hP, hP⟩
    obtain ⟨τ', e, h⟩ := A
    refine Or.inr ⟨τ', ?_, by rw [Nat.mul_succ]; exact h⟩
    rw [hF m r τ hr hP, e]
  · intro m τ hP
    exact ⟨τ, hFx m τ hP, hP⟩
/-! turned from whole: 84.amates -/
theorem ex_next {i : Nat} {p : Nat → Prop} : (∃ a, a < i + 1 ∧ p a) ↔ (∃ a, a < i ∧ p a) ∨ p i := by
  constructor
  · rintro ⟨a, h1, h2⟩
    by_cases e : a = i
    · rw [e] at h2; exact Or.inr h2
    · exact Or.inl ⟨a, by omega, h2⟩
  · rintro (⟨a, h1, h2⟩ | h)
    · exact ⟨a, by omega, h2⟩
    · exact ⟨i, by omega, h⟩
theorem dB_or {p q : Prop} : dB (p ∨ q) = (dB p || dB q) := by
  by_cases h : p
  · rw [dB_t h, dB_t (Or.inl h)]; rfl
  · by_cases h2 : q
    · rw [dB_t h2, dB_t (Or.inr h2), Bool.or_true]
    · rw [dB_f h, dB_f h2, dB_f (fun h3 => h3.elim h h2)]; rfl
