/-! the class's maps as it asks for them; the reference lays all maps -/
section MO
variable {σ : St}
theorem image_ok (mt : MT σ) {m i : Nat} (hm : m < 120) (hi : i < 5) : f_Maps_imageOf σ (nI m) (nI i) = some (nI (cp m i)) := by
  unfold f_Maps_imageOf
  rw [jn_eq, jn_eq, if_neg (nI_pos (by omega)), if_pos (show nI m < 120 from nI_lt hm (by decide)), if_neg (nI_pos (by omega)), if_pos (show nI i < 5 from nI_lt hi (by decide))]
  show (if (1 : Int32) = 0 then _ else _) = _
  rw [if_neg (show ¬ (1 : Int32) = 0 by decide), show (5 : Int32) = nI 5 from rfl, nI_mul, nI_add, ald_nI (by omega) (by decide), (mt m hm).1 i hi]
theorem image_m (mt : MT σ) {m : Nat} (hm : m < 120) : f_Maps_imageOf σ (nI m) (-1) = some (-1) := by
  unfold f_Maps_imageOf
  rw [jn_eq, jn_eq, if_neg (nI_pos (by omega)), if_pos (show nI m < 120 from nI_lt hm (by decide)), if_pos (by decide)]
  rfl
theorem g_fact_v : g_fact 0 = 1 ∧ g_fact 1 = 1 ∧ g_fact 2 = 2 ∧ g_fact 3 = 6 ∧ g_fact 4 = 24 ∧ g_fact 5 = 120 := by decide
theorem amount_ok {n : Nat} (h1 : 2 ≤ n) (h2 : n ≤ 5) : f_Maps_amount σ (nI n) = some (nI (facN n)) := by
  unfold f_Maps_amount
  rw [jn_eq, if_neg (nI_pos (by omega)), if_pos (show nI n < 6 from nI_lt (show n < 6 by omega) (by decide)), fac_nI (by omega)]
  rcases (by omega : n = 2 ∨ n = 3 ∨ n = 4 ∨ n = 5) with rfl | rfl | rfl | rfl <;> rfl
theorem bt_nI {v i : Nat} (hi : i < 32) : bt (nI v) i = v.testBit i := by
  unfold bt
  rw [nI_bv, BitVec.getLsbD_ofNat, decide_eq_true hi, Bool.true_and]
theorem mask_bt {n i : Nat} (h1 : 2 ≤ n) (h2 : n ≤ 5) (hi : i < 32) : bt (((1 : Int32) <<< (((5 : Int32) * nI n) &&& 31)) - 1) i = decide (i < 5 * n) := by
  have e : ((1 : Int32) <<< (((5 : Int32) * nI n) &&& 31)) - 1 = nI (2 ^ (5 * n) - 1) := by
    rcases (by omega : n = 2 ∨ n = 3 ∨ n = 4 ∨ n = 5) with rfl | rfl | rfl | rfl <;> decide
  rw [e, bt_nI hi, Nat.testBit_two_pow_sub_one]
/-- the pairs of a map -/
def pB (n m : Nat) (k : Nat) : Bool := decide (k < 5 * n) && decide (cp m (k / 5) = k % 5)
theorem pairs_ok (mt : MT σ) {n m : Nat} (h1 : 2 ≤ n) (h2 : n ≤ 5) (hm : m < 120) : ∃ x, f_Maps_pairsOf σ (nI m) (nI n) = some x ∧ ∀ k, k < 32 → bt x k = pB n m k := by
  unfold f_Maps_pairsOf
  rw [jn_eq, if_neg (nI_pos (by omega)), if_pos (show nI m < 120 from nI_lt hm (by decide)), ald_nI (by omega) (by decide), (mt m hm).2]
  refine ⟨_, rfl, fun k hk => ?_⟩
  rw [bt_and, bt_nI hk, mask_bt h1 h2 hk]
  unfold pB
  by_cases h25 : k < 25
  · rw [cpm_bit hm h25, Bool.and_comm]
  · have h3 : (cpm m).testBit k = false := Nat.testBit_lt_two_pow (Nat.lt_of_lt_of_le (cpm_lt hm) (Nat.pow_le_pow_right (by omega) (by omega)))
    rw [h3, decide_eq_false (by omega : ¬ k < 5 * n)]
    rfl
theorem pB_at {n m i j : Nat} (hi : i < n) (hj : j < 5) : pB n m (5 * i + j) = decide (cp m i = j) := by
  unfold pB
  rw [decide_eq_true (by omega : 5 * i + j < 5 * n), show (5 * i + j) / 5 = i by omega, show (5 * i + j) % 5 = j by omega, Bool.true_and]
theorem pB_out {n m k : Nat} (hk : 5 * n ≤ k) : pB n m k = false := by
  unfold pB
  rw [decide_eq_false (by omega), Bool.false_and]
end MO
def rsN (n m : Nat) : Nat → Nat
  | 0 => m
  | k + 1 => rsN n m k % facN (n - (k + 1))
theorem tab6 : ((List.range 6).all fun n => decide (n < 2) || ((List.range (facN n)).all fun m => (List.range n).all fun k => (List.range k).all (fun i => lp n m i != lp n m k) && decide (((List.range (lp n m k)).countP (fun x => (List.range k).all (fun i => lp n m i != x))) = rsN n m k / facN (n - (k + 1))) && decide (lp n m k < n))) = true := by decide +kernel
theorem lay_tab {n m k : Nat} (h1 : 2 ≤ n) (h2 : n ≤ 5) (hm : m < facN n) (hk : k < n) : (∀ i, i < k → lp n m i ≠ lp n m k) ∧ ((List.range (lp n m k)).countP (fun x => (List.range k).all (fun i => lp n m i != x))) = rsN n m k / facN (n - (k + 1)) ∧ lp n m k < n := by
  have h := List.all_eq_true.mp tab6 n (List.mem_range.mpr (by omega))
  rw [decide_eq_false (by omega : ¬ n < 2), Bool.false_or] at h
  have h := List.all_eq_true.mp (List.all_eq_true.mp h m (List.mem_range.mpr hm)) k (List.mem_range.mpr hk)
  simp only [Bool.and_eq_true] at h
  obtain ⟨⟨q1, q2⟩, q3⟩ := h
  refine ⟨fun i hi => ?_, of_decide_eq_true q2, of_decide_eq_true q3⟩
  have := List.all_eq_true.mp q1 i (List.mem_range.mpr hi)
  simpa using this
noncomputable def usd (n m k s : Nat) : Bool := dB (∃ i, i < k ∧ lp n m i = s)
theorem usd_all {n m k x : Nat} : ((List.range k).all (fun i => lp n m i != x)) = !usd n m k x := by
  unfold usd
  rw [← dB_not]
  apply b_dB
  rw [List.all_eq_true]
  constructor
  · rintro h ⟨i, hi, e⟩
    have := h i (List.mem_range.mpr hi)
    simp [e] at this
  · intro h i hi
    have : lp n m i ≠ x := fun e => h ⟨i, List.mem_range.mp hi, e⟩
    simpa using this
theorem lay95 {σ : St} {n m k : Nat} (h1 : 2 ≤ n) (h2 : n ≤ 5) (hm : m < facN n) (hk : k < n) (v2 v3 v4 v6 : Int32) (K : Int32 → Option (Unit × St)) : f_R_layAll_L95 (nI n) v2 v3 v4 (sI (usd n m k)) v6 σ K FU (nI (rsN n m k / facN (n - (k + 1)))) 0 = K (nI (lp n m k)) := by
  obtain ⟨t1, t2, t3⟩ := lay_tab h1 h2 hm hk
  have hcnt : ∀ t, (List.range t).countP (fun x => (List.range k).all (fun i => lp n m i != x)) ≤ t := fun t => Nat.le_trans List.countP_le_length (by simp)
  have hmono : ∀ t d, (List.range t).countP (fun x => (List.range k).all (fun i => lp n m i != x)) ≤ (List.range (t + d)).countP (fun x => (List.range k).all (fun i => lp n m i != x)) := by
    intro t d
    rw [List.range_add, List.countP_append]
    omega
  have hsucc : ∀ t, (List.range (t + 1)).countP (fun x => (List.range k).all (fun i => lp n m i != x)) = (List.range t).countP (fun x => (List.range k).all (fun i => lp n m i != x)) + if usd n m k t = true then 0 else 1 := by
    intro t
    rw [List.range_succ, List.countP_append]
    simp only [List.countP_cons, List.countP_nil, usd_all]
    cases usd n m k t <;> rfl
  rw [← t2]
  have h0 := hcnt (lp n m k)
  refine loopE (fun f t (x : Nat) => f_R_layAll_L95 (nI n) v2 v3 v4 (sI (usd n m k)) v6 σ K f (nI x) (nI t)) (lp n m k)
    (fun t x => x + (List.range t).countP (fun x => (List.range k).all (fun i => lp n m i != x)) = (List.range (lp n m k)).countP (fun x => (List.range k).all (fun i => lp n m i != x)))
    (fun R => R = K (nI (lp n m k))) ?_ ?_ FU 0 _ (by omega) (FU_gt (by omega)) rfl
  · intro f t x ht hx
    refine Or.inr ⟨x - (if usd n m k t = true then 0 else 1), ?_, ?_⟩
    · show f_R_layAll_L95 (nI n) v2 v3 v4 (sI (usd n m k)) v6 σ K (f + 1) (nI x) (nI t) = _
      rw [f_R_layAll_L95.eq_2]
      have hb := sI_bit (usd n m k) (show t < 5 by omega)
      rw [jn_eq, jn_eq]
      cases hu : usd n m k t
      · have e0 : ¬ ((sI (usd n m k) >>> (nI t &&& 31)) &&& 1 = 1) := by rw [hb, hu]; decide
        have hm1 := hmono (t + 1) (lp n m k - (t + 1))
        rw [show t + 1 + (lp n m k - (t + 1)) = lp n m k by omega, hsucc t, hu, if_neg (by decide)] at hm1
        rw [if_neg e0, if_neg (show ¬ nI x ≤ 0 from nI_ge (a := 0) (b := x) (by omega) (by omega)), if_neg e0]
        show f_R_layAll_L95 (nI n) v2 v3 v4 (sI (usd n m k)) v6 σ K f (nI x - 1) (nI t + 1) = _
        rw [show nI x - 1 = nI (x - 1) from nI_sub (b := 1) (by omega), nI_1]
        rfl
      · have e1 : ((sI (usd n m k) >>> (nI t &&& 31)) &&& 1 = 1) := by rw [hb, hu]
        rw [if_pos e1, if_pos e1]
        show f_R_layAll_L95 (nI n) v2 v3 v4 (sI (usd n m k)) v6 σ K f (nI x - 0) (nI t + 1) = _
        rw [Int32.sub_zero, nI_1]
        rfl
    · rw [hsucc]
      have hm1 := hmono (t + 1) (lp n m k - (t + 1))
      rw [show t + 1 + (lp n m k - (t + 1)) = lp n m k by omega, hsucc t] at hm1
      cases hu : usd n m k t
      · rw [hu, if_neg (by decide)] at hm1
        rw [if_neg (by decide)]; omega
      · rw [if_pos rfl]; omega
  · intro f x hx
    have hx0 : x = 0 := by omega
    subst hx0
    show f_R_layAll_L95 (nI n) v2 v3 v4 (sI (usd n m k)) v6 σ K (f + 1) (nI 0) (nI (lp n m k)) = _
    rw [f_R_layAll_L95.eq_2]
    have hb := sI_bit (usd n m k) (show lp n m k < 5 by omega)
    have hu : usd n m k (lp n m k) = false := dB_f (fun ⟨i, hi, e⟩ => t1 i hi e)
    have e0 : ¬ ((sI (usd n m k) >>> (nI (lp n m k) &&& 31)) &&& 1 = 1) := by rw [hb, hu]; decide
    rw [jn_eq, jn_eq, if_neg e0, if_pos (by decide)]
theorem fac_step {n k : Nat} (hk : k < n) : facN (n - k) / (n - k) = facN (n - (k + 1)) ∧ 0 < facN (n - (k + 1)) := by
  have h : ∀ a, 0 < facN a := by
    intro a
    induction a with
    | zero => decide
    | succ a ih => rw [facN]; exact Nat.mul_pos (by omega) ih
  refine ⟨?_, h _⟩
  rw [show n - k = (n - (k + 1)) + 1 by omega, facN, Nat.mul_div_cancel_left _ (by omega)]
theorem fac5 : ∀ a, a ≤ 5 → facN a ≤ 120 := by decide
theorem rs_le {n m : Nat} (hm : m < 200) : ∀ k, rsN n m k < 200
  | 0 => hm
  | k + 1 => Nat.lt_of_le_of_lt (Nat.mod_le _ _) (rs_le hm k)
theorem lay66 {σ : St} {n m : Nat} (h1 : 2 ≤ n) (h2 : n ≤ 5) (hm : m < facN n) (K : St → Option (Unit × St)) : ∃ τ, f_R_layAll_L66 (nI n) (nI m) K FU (nI m) (nI (facN n)) 0 0 σ = K τ ∧ (∀ i, i < n → τ 89 (5 * m + i) = nI (lp n m i)) ∧ (∀ x, (x < 5 * m ∨ 5 * m + 5 ≤ x) → τ 89 x = σ 89 x) ∧ Frx 89 σ τ := by
  have hf := fac_le h1 h2
  refine loopE (fun f k (τ : St) => f_R_layAll_L66 (nI n) (nI m) K f (nI (rsN n m k)) (nI (facN (n - k))) (sI (usd n m k)) (nI k) τ) n
    (fun k τ => (∀ i, i < k → τ 89 (5 * m + i) = nI (lp n m i)) ∧ (∀ x, (x < 5 * m ∨ 5 * m + 5 ≤ x) → τ 89 x = σ 89 x) ∧ Frx 89 σ τ)
    (fun R => ∃ τ, R = K τ ∧ (∀ i, i < n → τ 89 (5 * m + i) = nI (lp n m i)) ∧ (∀ x, (x < 5 * m ∨ 5 * m + 5 ≤ x) → τ 89 x = σ 89 x) ∧ Frx 89 σ τ) ?_ ?_ FU 0 σ (by omega) (FU_gt (by omega)) ⟨fun i hi => by omega, fun x _ => rfl, fun m _ => rfl⟩ |> fun A => by
      have e : sI (usd n m 0) = 0 := by
        rw [← sI_none]
        exact sI_cong (fun s _ => dB_f (fun ⟨i, hi, _⟩ => by omega))
      rw [e, Nat.sub_zero] at A
      exact A
  · rintro f k τ hk ⟨p1, p2, p3⟩
    obtain ⟨t1, t2, t3⟩ := lay_tab h1 h2 hm hk
    obtain ⟨d1, d2⟩ := fac_step hk
    have hl := fac5 (n - k) (by omega)
    have hl2 := fac5 (n - (k + 1)) (by omega)
    have hrs := rs_le (n := n) (m := m) (by omega) k
    refine Or.inr ⟨wr τ 89 (5 * m + k) (nI (lp n m k)), ?_, fun i hi => ?_, fun x hx => ?_, fun m' hm' => by rw [wr_fn hm']; exact p3 m' hm'⟩
    · show f_R_layAll_L66 (nI n) (nI m) K (f + 1) (nI (rsN n m k)) (nI (facN (n - k))) (sI (usd n m k)) (nI k) τ = _
      rw [f_R_layAll_L66.eq_2]
      rw [if_pos (nI_lt hk (by omega)), nI_sub (by omega), dvi_nI (by omega) (by omega) (by omega), d1, dvi_nI (by omega) (by omega) (by omega), rmi_nI (by omega) (by omega) (by omega)]
      rw [lay95 h1 h2 hm hk, lt1_eq, show (5 : Int32) = nI 5 from rfl, nI_mul, nI_add, ast_nI (by omega) (by decide), nI_1, or_oneB (by omega)]
      have e : sI (fun s => usd n m k s || dB (s = lp n m k)) = sI (usd n m (k + 1)) := by
        apply sI_cong
        intro s _
        unfold usd
        rw [dB_cong (ex_next (p := fun i => lp n m i = s)), dB_or]
        congr 1
        exact dB_cong ⟨fun h => h.symm, fun h => h.symm⟩
      rw [e]
      rfl
    · rw [wr_get]
      by_cases e : i = k
      · rw [if_pos ⟨rfl, by rw [e]⟩, e]
      · rw [if_neg (by omega)]; exact p1 i (by omega)
    · rw [wr_get, if_neg (by omega)]; exact p2 x hx
  · rintro f τ ⟨p1, p2, p3⟩
    refine ⟨τ, ?_, p1, p2, p3⟩
    show f_R_layAll_L66 (nI n) (nI m) K (f + 1) _ _ _ (nI n) τ = _
    rw [f_R_layAll_L66.eq_2]
    rw [if_neg (nI_nlt (Nat.le_refl _) (by omega))]
def LA (σ : St) (n : Nat) : Prop := σ 82 9 = nI n ∧ σ 82 10 = nI (facN n) ∧ ∀ m i, m < facN n → i < n → σ 89 (5 * m + i) = nI (lp n m i)
theorem LA.ca {σ : St} {n : Nat} (h : LA σ n) (h1 : 2 ≤ n) (h2 : n ≤ 5) : CA σ := ⟨n, h.1, Or.inr ⟨h1, h2, h.2.1, h.2.2⟩⟩
theorem LA.fr {σ τ : St} {n : Nat} (h : LA σ n) (h1 : τ 82 9 = σ 82 9) (h2 : τ 82 10 = σ 82 10) (h3 : τ 89 = σ 89) : LA τ n := ⟨by rw [h1]; exact h.1, by rw [h2]; exact h.2.1, fun m i a b => by rw [h3]; exact h.2.2 m i a b⟩
theorem layAll_ok {σ : St} {n : Nat} (ca : CA σ) (h1 : 2 ≤ n) (h2 : n ≤ 5) : ∃ τ, f_R_layAll σ (nI n) = some ((), τ) ∧ LA τ n ∧ ∀ m s, ¬ (m = 82 ∧ (s = 9 ∨ s = 10)) → m ≠ 89 → τ m s = σ m s := by
  have hf := fac_le h1 h2
  unfold f_R_layAll
  by_cases he : σ 82 9 = nI n
  · rw [if_pos he]
    obtain ⟨a, c1, c2⟩ := ca
    have hb : a = n := by
      rw [c1] at he
      rcases c2 with rfl | c2
      · rw [eq_nI (by omega) (by omega)] at he; exact he
      · rw [eq_nI (by omega) (by omega)] at he; exact he
    subst hb
    rcases c2 with h0 | ⟨_, _, c3, c4⟩
    · omega
    · exact ⟨σ, rfl, ⟨c1, c3, c4⟩, fun m s _ _ => rfl⟩
  · rw [if_neg he, sto_eq, sto_eq]
    have A21 : ∀ (τ0 : St) (K : St → Option (Unit × St)), τ0 82 10 = 1 → f_R_layAll_L21 (nI n) K FU 2 τ0 = K (wr τ0 82 10 (nI (facN n))) := by
      intro τ0 K h0
      refine loopE (fun f i (τ : St) => f_R_layAll_L21 (nI n) K f (nI (i + 2)) τ) (n - 1) (fun i τ => τ = wr τ0 82 10 (nI (facN (i + 1)))) (fun R => R = K (wr τ0 82 10 (nI (facN n)))) ?_ ?_ FU 0 τ0 (by omega) (FU_gt (by omega)) ?_
      · rintro f i τ hi rfl
        refine Or.inr ⟨_, ?_, rfl⟩
        show f_R_layAll_L21 (nI n) K (f + 1) (nI (i + 2)) _ = _
        rw [f_R_layAll_L21.eq_2]
        have hl := fac5 (i + 1) (by omega)
        rw [if_pos (nI_le (by omega) (by omega)), sto_eq, wr_at, nI_mul, nI_1]
        congr 1
        funext m s
        rw [wr_get, wr_get, wr_get]
        by_cases e : m = 82 ∧ s = 10
        · rw [if_pos e, if_pos e, Nat.mul_comm]; rfl
        · rw [if_neg e, if_neg e, if_neg e]
      · rintro f τ rfl
        show f_R_layAll_L21 (nI n) K (f + 1) (nI (n - 1 + 2)) _ = _
        rw [f_R_layAll_L21.eq_2]
        rw [if_neg (nI_ge (by omega) (by omega)), show n - 1 + 1 = n by omega]
      · funext m s
        rw [wr_get]
        by_cases e : m = 82 ∧ s = 10
        · rw [if_pos e, e.1, e.2, h0]; rfl
        · rw [if_neg e]
    rw [A21 _ _ wr_at]
    have A44 : ∀ τ0 : St, τ0 82 10 = nI (facN n) → ∃ τ, f_R_layAll_L44 (nI n) FU 0 τ0 = some ((), τ) ∧ (∀ m i, m < facN n → i < n → τ 89 (5 * m + i) = nI (lp n m i)) ∧ Frx 89 τ0 τ := by
      intro τ0 h10
      refine loopE (fun f i (τ : St) => f_R_layAll_L44 (nI n) f (nI i) τ) (facN n) (fun k τ => (∀ m i, m < k → i < n → τ 89 (5 * m + i) = nI (lp n m i)) ∧ Frx 89 τ0 τ) (fun R => ∃ τ, R = some ((), τ) ∧ (∀ m i, m < facN n → i < n → τ 89 (5 * m + i) = nI (lp n m i)) ∧ Frx 89 τ0 τ) ?_ ?_ FU 0 τ0 (by omega) (FU_gt (by omega)) ⟨fun m i hm => by omega, fun m _ => rfl⟩
      · rintro f k τ hk ⟨p1, p2⟩
        have e10 : τ 82 10 = nI (facN n) := by rw [p2 82 (by omega)]; exact h10
        obtain ⟨υ, e, q1, q2, q3⟩ := lay66 (σ := τ) h1 h2 hk (fun (σ_14 : St) => f_R_layAll_L44 (nI n) f (nI k + 1) σ_14)
        refine Or.inr ⟨υ, ?_, fun m i hm hi => ?_, fun m hm => (q3 m hm).trans (p2 m hm)⟩
        · show f_R_layAll_L44 (nI n) (f + 1) (nI k) τ = _
          rw [f_R_layAll_L44.eq_2]
          rw [e10, if_pos (nI_lt hk (by omega))]
          refine e.trans ?_
          show f_R_layAll_L44 (nI n) f (nI k + 1) υ = _
          rw [nI_1]
        · by_cases em : m = k
          · rw [em]; exact q1 i hi
          · rw [q2 _ (by omega)]; exact p1 m i (by omega) hi
      · rintro f τ ⟨p1, p2⟩
        have e10 : τ 82 10 = nI (facN n) := by rw [p2 82 (by omega)]; exact h10
        refine ⟨τ, ?_, p1, p2⟩
        show f_R_layAll_L44 (nI n) (f + 1) (nI (facN n)) τ = _
        rw [f_R_layAll_L44.eq_2]
        rw [e10, if_neg (nI_nlt (Nat.le_refl _) (by omega))]
    obtain ⟨τ, e, a1, a2⟩ := A44 _ (wr_at (σ := wr (wr σ 82 9 (nI n)) 82 10 1) (k := 82) (j := 10) (v := nI (facN n)))
    refine ⟨τ, e, ⟨?_, ?_, a1⟩, fun m s b c => ?_⟩
    · rw [a2 82 (by omega), wr_get, if_neg (by omega), wr_get, if_neg (by omega), wr_at]
    · rw [a2 82 (by omega), wr_at]
    · rw [a2 m c, wr_get, if_neg (by omega), wr_get, if_neg (by omega), wr_get, if_neg (by omega)]
