/-! numbers that the law draws from its script -/
theorem pl_ushr (v : Int32) : ∃ j, j < 2 ^ 30 ∧ (v.toUInt32 >>> ((2 : Int32).toUInt32 &&& Int32.toUInt32 31)).toInt32 = nI j := by
  refine ⟨(v.toUInt32 >>> ((2 : Int32).toUInt32 &&& Int32.toUInt32 31)).toNat, ?_, ?_⟩
  · have h1 : ((2 : Int32).toUInt32 &&& Int32.toUInt32 31) = 2 := by decide
    rw [h1, UInt32.toNat_shiftRight]
    have h2 := v.toUInt32.toNat_lt
    have h3 : (2 : UInt32).toNat % 32 = 2 := by decide
    rw [h3, Nat.shiftRight_eq_div_pow]
    omega
  · generalize (v.toUInt32 >>> ((2 : Int32).toUInt32 &&& Int32.toUInt32 31)) = x
    apply Int32.toBitVec_inj.mp
    apply BitVec.eq_of_toNat_eq
    unfold nI
    simp
theorem pl_up {σ : St} (q : Int32) {m : Nat} (hm : 0 < m) (hm2 : m < 2 ^ 31) : ∃ j, j < m ∧ f_L_up σ q (nI m) = some (nI j) := by
  obtain ⟨j, hj, e⟩ := pl_ushr q
  refine ⟨j % m, Nat.mod_lt _ hm, ?_⟩
  unfold f_L_up
  rw [e, rmi_nI hm (by omega) hm2]
theorem pl_dvi {β : Type} {x d : Int32} {f : Int32 → Option β} (hd : d ≠ 0) : dvi x d f = f (x / d) := by
  unfold dvi
  rw [if_neg hd]
theorem pl_cell {N : Nat} (hN : N ≤ 260) (xs : Nat → Int32) {k : Nat} (hk : k < 1000) : ∃ y, f_L_cell N xs (nI k) = some y := by
  unfold f_L_cell
  by_cases h0 : N = 0
  · subst h0
    exact ⟨0, if_pos (by decide)⟩
  · have e : (Int32.ofNat N = 0) = False := by
      rw [show Int32.ofNat N = nI N from rfl, show (0 : Int32) = nI 0 from rfl, eq_nI (by omega) (by omega)]
      simp [h0]
    rw [if_neg (by rw [e]; exact id), show Int32.ofNat N = nI N from rfl, rmi_nI (by omega) (by omega) (by omega), inb_nI (Nat.mod_lt _ (by omega)) (by omega), if_pos rfl]
    exact ⟨_, rfl⟩
/-- a board in a row of the law's own -/
def Arr (σ : St) (o n : Nat) (B : Bd) : Prop := ∀ r c, r < n → c < n → σ o (n * r + c) = ce (B r c)
theorem Arr.fr {σ τ : St} {o n : Nat} {B : Bd} (h : Arr σ o n B) (e : τ o = σ o) : Arr τ o n B := fun r c hr hc => by rw [e]; exact h r c hr hc
theorem pl_i {n r c : Nat} (hc : c < n) : (n * r + c) / n = r ∧ (n * r + c) % n = c := ⟨by rw [Nat.mul_add_div (by omega), Nat.div_eq_of_lt hc, Nat.add_zero], by rw [Nat.mul_add_mod, Nat.mod_eq_of_lt hc]⟩
theorem Arr.at {σ : St} {o n : Nat} {B : Bd} (h : Arr σ o n B) {i : Nat} (hi : i < n * n) : σ o i = ce (B (i / n) (i % n)) := by
  have hn : 0 < n := Nat.pos_of_ne_zero (fun e => by subst e; omega)
  have := h (i / n) (i % n) (Nat.div_lt_of_lt_mul hi) (Nat.mod_lt _ hn)
  rwa [Nat.div_add_mod] at this
theorem pl_and (p : Nat → Bool) : sI p &&& sI p = sI p := by
  rw [sI_and]
  exact sI_cong (fun s _ => by cases p s <;> rfl)
theorem pl_set {σ : St} {o n : Nat} {B : Bd} (hw : Wf n B) (h : Arr σ o n B) {r c : Nat} (hr : r < n) (hc : c < n) : f_L_set σ o (nI n) (nI (n * r + c)) = some (sI (opt n B r c)) := by
  have hn1 := hw.1
  have hn2 := hw.2.1
  have h25 := ix25 hn2 hr hc
  have hd := pl_i (r := r) hc
  unfold f_L_set
  rw [ald_nI h25 (by decide), h r c hr hc]
  have A : ∀ K : Int32 → Option Int32, f_L_set_L19 o (nI n) (nI (n * r + c)) σ K FU (sI (fun s => decide (B r c = 0) && decide (s < n))) 0 = K (sI (opt n B r c)) := by
    intro K
    have Z : ∃ p : Nat → Bool, (∀ s, p s = ((decide (B r c = 0) && decide (s < n)) && dB (∀ i', i' < n → B r i' ≠ s + 1 ∧ B i' c ≠ s + 1))) ∧ f_L_set_L19 o (nI n) (nI (n * r + c)) σ K FU (sI (fun s => decide (B r c = 0) && decide (s < n))) 0 = K (sI p) := by
      refine loop_acc (fun m i p => f_L_set_L19 o (nI n) (nI (n * r + c)) σ K m (sI p) (nI i)) n (fun i p => fun s => p s && (!decide (B r i = s + 1) && !decide (B i c = s + 1))) (fun p => K (sI p)) (fun i p => ∀ s, p s = ((decide (B r c = 0) && decide (s < n)) && dB (∀ i', i' < i → B r i' ≠ s + 1 ∧ B i' c ≠ s + 1))) (by omega) (fun s => decide (B r c = 0) && decide (s < n)) (fun s => by rw [dB_t (fun i hi => by omega), Bool.and_true]) ?_ ?_ ?_
      · intro m i p hi _
        show f_L_set_L19 o (nI n) (nI (n * r + c)) σ K (m + 1) (sI p) (nI i) = f_L_set_L19 o (nI n) (nI (n * r + c)) σ K m (sI _) (nI (i + 1))
        rw [f_L_set_L19.eq_2]
        have b1 := ix25 hn2 hr hi
        have b2 := ix25 hn2 hi hc
        have x1 := hw.bd r i
        have x2 := hw.bd i c
        rw [if_pos (nI_lt hi (by omega)), dvi_nI (by omega) (by omega) (by omega), hd.1, nI_mul, nI_add, Nat.mul_comm r n, ald_nI b1 (by decide), h r i hr hi, rmi_nI (by omega) (by omega) (by omega), hd.2, nI_mul, nI_add, ald_nI b2 (by decide), h i c hi hc, nI_1]
        simp only [jn_eq, lt1_eq]
        have M1 : ∀ (q : Nat → Bool) (b : Nat), b ≤ 5 → b ≠ 0 → sI q &&& (((1 : Int32) <<< (ce b &&& 31)) ^^^ (-1)) = sI (fun s => q s && !decide (b = s + 1)) := by
          intro q b hb h0
          obtain ⟨t, rfl⟩ : ∃ t, b = t + 1 := ⟨b - 1, by omega⟩
          rw [ce_s, sI_one (by omega), sI_andn]
          exact sI_cong (fun s _ => by simp only [Nat.add_right_cancel_iff, eq_comm])
        have M0 : ∀ (q : Nat → Bool) (b : Nat), b = 0 → sI q = sI (fun s => q s && !decide (b = s + 1)) := by
          intro q b h0
          subst h0
          exact sI_cong (fun s _ => by simp)
        have C : ∀ b, b ≤ 5 → (ce b < 0) = (b = 0) := fun b hb => ce_lt0 (by omega)
        simp only [C _ x1, C _ x2]
        by_cases e1 : B r i = 0
        · rw [if_pos e1, pl_and]
          by_cases e2 : B i c = 0
          · rw [if_pos e2, pl_and]
            congr 1
            exact sI_cong (fun s _ => by simp [e1, e2])
          · rw [if_neg e2, M1 p _ x2 e2]
            congr 1
            exact sI_cong (fun s _ => by simp [e1])
        · rw [if_neg e1, M1 p _ x1 e1]
          by_cases e2 : B i c = 0
          · rw [if_pos e2, pl_and]
            congr 1
            exact sI_cong (fun s _ => by simp [e2])
          · rw [if_neg e2, M1 _ _ x2 e2]
            congr 1
            exact sI_cong (fun s _ => by rw [Bool.and_assoc])
      · intro i p hi hp s
        show (p s && _) = _
        rw [hp s, Bool.eq_iff_iff]
        simp only [Bool.and_eq_true, decide_eq_true_eq, dB_iff, Bool.not_eq_true', decide_eq_false_iff_not]
        constructor
        · rintro ⟨⟨h1, h2⟩, h3, h4⟩
          refine ⟨h1, fun i' hi' => ?_⟩
          by_cases e : i' = i
          · rw [e]; exact ⟨h3, h4⟩
          · exact h2 i' (by omega)
        · rintro ⟨h1, h2⟩
          exact ⟨⟨h1, fun i' hi' => h2 i' (by omega)⟩, h2 i (by omega)⟩
      · intro m p _
        show f_L_set_L19 o (nI n) (nI (n * r + c)) σ K (m + 1) (sI p) (nI n) = _
        rw [f_L_set_L19.eq_2]
        rw [if_neg (nI_nlt (Nat.le_refl _) (by omega))]
    obtain ⟨p, hp, e⟩ := Z
    refine Eq.trans e ?_
    congr 2
    funext s
    rw [hp s, Bool.eq_iff_iff, opt_iff]
    simp only [Bool.and_eq_true, decide_eq_true_eq, dB_iff]
    constructor
    · rintro ⟨⟨h1, h2⟩, h3⟩
      refine ⟨h1, h2, fun c' hc' e => ?_, fun r' hr' e => ?_⟩
      · exact (h3 c' (hw.2.2.1 r c' (by omega)).2.1).1 e
      · exact (h3 r' (hw.2.2.1 r' c (by omega)).1).2 e
    · rintro ⟨h1, h2, h3, h4⟩
      exact ⟨⟨h1, h2⟩, fun i hi => ⟨h3 i (by omega), h4 i (by omega)⟩⟩
  have C0 : (ce (B r c) < 0) = (B r c = 0) := ce_lt0 (by have := hw.bd r c; omega)
  simp only [jn_eq, C0]
  by_cases e : B r c = 0
  · rw [if_pos e, sI_all hn2, ← A (fun v => some v)]
    congr 1
    exact sI_cong (fun s _ => by simp [e])
  · rw [if_neg e, ← A (fun v => some v)]
    congr 1
    rw [← sI_none]
    exact sI_cong (fun s _ => by simp [e])
