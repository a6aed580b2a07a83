/-! critical, the reference -/
theorem bit1 (x : Int32) {k : Nat} (hk : k < 31) : ((x >>> (nI k &&& 31)) &&& 1 = 1) = (bt x k = true) := by
  apply propext
  rw [← Int32.toBitVec_inj, Int32.toBitVec_and, Int32.toBitVec_shiftRight]
  show (x.toBitVec.sshiftRight' _ &&& 1#32 = 1#32) ↔ _
  unfold BitVec.sshiftRight'
  rw [sh_bv k (by omega)]
  unfold bt
  constructor
  · intro h
    have h1 := congrArg (fun v => BitVec.getLsbD v 0) h
    simp only [BitVec.getLsbD_and, BitVec.getLsbD_sshiftRight] at h1
    simpa [show k < 32 by omega] using h1
  · intro h
    apply BitVec.eq_of_getLsbD_eq
    intro i hi
    rw [BitVec.getLsbD_and]
    by_cases h0 : i = 0
    · subst h0
      rw [BitVec.getLsbD_sshiftRight]
      simp [h, show k < 32 by omega]
    · simp [h0]
theorem and1_cases (y : Int32) : y &&& 1 = 0 ∨ y &&& 1 = 1 := by
  have h1 : ∀ i, i < 32 → bt (1 : Int32) i = decide (0 = i) := fun i hi => by
    rw [show (1 : Int32) = nI (2 ^ 0) from rfl, bt_nI hi, pow_bt]
  cases hb : bt y 0
  · left
    apply bt_ext
    intro i hi
    rw [bt_and, h1 i hi, bt_0]
    by_cases e : i = 0
    · rw [e, hb]; rfl
    · rw [decide_eq_false (by omega), Bool.and_false]
  · right
    apply bt_ext
    intro i hi
    rw [bt_and, h1 i hi]
    by_cases e : i = 0
    · rw [e, hb]; rfl
    · rw [decide_eq_false (by omega), Bool.and_false]
theorem shr1b (s : Nat) {k : Nat} (hk : k < 31) : (nI s >>> (nI k &&& 31)) &&& 1 = nI (if s.testBit k = true then 1 else 0) := by
  have e := bit1 (nI s) hk
  rw [bt_nI (by omega)] at e
  by_cases hb : s.testBit k = true
  · rw [if_pos hb, e.mpr hb]; rfl
  · rw [if_neg hb]
    rcases and1_cases (nI s >>> (nI k &&& 31)) with h | h
    · rw [h]; rfl
    · exact absurd (e.mp h) hb
theorem bitsOf_ok {σ : St} (s : Nat) : f_R_bitsOf σ (nI s) = some (nI (PCb s 0 16)) := by
  unfold f_R_bitsOf
  refine loopE (fun f i (a : Nat) => f_R_bitsOf_L4 (nI s) σ (fun v => some v) f (nI a) (nI i)) 16 (fun i a => a = PCb s 0 i) (fun R => R = some (nI (PCb s 0 16))) ?_ ?_ FU 0 0 (by omega) (FU_gt (by omega)) rfl
  · rintro f i a hi ha
    refine Or.inr ⟨PCb s 0 (i + 1), ?_, rfl⟩
    show f_R_bitsOf_L4 (nI s) σ _ (f + 1) (nI a) (nI i) = _
    rw [f_R_bitsOf_L4.eq_2]
    rw [if_pos (show nI i < 16 from nI_lt (show i < 16 by omega) (by decide)), lt1_eq, shr1b s (by omega), nI_add, nI_1, PCb, ha]
    congr 2
    by_cases hb : s.testBit i = true
    · rw [if_pos hb, if_pos ⟨by omega, hb⟩]
    · rw [if_neg hb, if_neg (fun h => hb h.2)]
  · rintro f a ha
    show f_R_bitsOf_L4 (nI s) σ _ (f + 1) (nI a) (nI 16) = _
    rw [f_R_bitsOf_L4.eq_2]
    rw [if_neg (show ¬ nI 16 < 16 by decide), ha]
section CRR
variable {σ : St} {n : Nat} {S : Bd}
theorem crit110 (h : WK σ n S) (h4 : n ≤ 4) (s : Nat) (v1 v3 : Int32) (K : St → Option (Int32 × St)) : ∃ τ, f_R_critical_L110 v1 (nI (n * n)) v3 (nI s) K FU 0 σ = K τ ∧ WK τ n (rsB n S s) ∧ ∀ m, m ≠ 91 → τ m = σ m := by
  have h16 : n * n ≤ 4 * 4 := Nat.mul_le_mul h4 h4
  refine loopE (fun f i (τ : St) => f_R_critical_L110 v1 (nI (n * n)) v3 (nI s) K f (nI i) τ) (n * n)
    (fun i τ => (∀ x, x < i → τ 91 x = if s.testBit x = true then σ 91 x else -1) ∧ (∀ x, i ≤ x → τ 91 x = σ 91 x) ∧ ∀ m, m ≠ 91 → τ m = σ m)
    (fun R => ∃ τ, R = K τ ∧ WK τ n (rsB n S s) ∧ ∀ m, m ≠ 91 → τ m = σ m) ?_ ?_ FU 0 σ (by omega) (FU_gt (by omega)) ⟨fun x hx => by omega, fun _ _ => rfl, fun _ _ => rfl⟩
  · rintro f i τ hi ⟨p1, p2, p3⟩
    refine Or.inr ⟨wr τ 91 i (if s.testBit i = true then σ 91 i else -1), ?_, fun x hx => ?_, fun x hx => by rw [wr_get, if_neg (by omega)]; exact p2 x (by omega), fun m hm => by rw [wr_fn hm]; exact p3 m hm⟩
    · show f_R_critical_L110 v1 (nI (n * n)) v3 (nI s) K (f + 1) (nI i) τ = _
      have e := bit1 (nI s) (show i < 31 by omega)
      rw [bt_nI (by omega)] at e
      rw [f_R_critical_L110.eq_2]
      rw [if_pos (nI_lt hi (by omega))]
      simp only [jn_eq, nI_1]
      by_cases hb : s.testBit i = true
      · rw [if_pos (e.mpr hb), if_pos hb, ald_nI (by omega) (by decide), p2 i (Nat.le_refl _), ast_nI (by omega) (by decide)]
      · rw [if_neg (fun h => hb (e.mp h)), if_neg hb, ast_nI (by omega) (by decide)]
    · rw [wr_get]
      by_cases e : x = i
      · rw [if_pos ⟨rfl, e⟩, e]
      · rw [if_neg (by omega)]; exact p1 x (by omega)
  · rintro f τ ⟨p1, p2, p3⟩
    refine ⟨τ, ?_, ⟨⟨h.1.1, h.1.2.1, fun r c => ?_⟩, by rw [p3 82 (by omega)]; exact h.2.1, fun r c hr hc => ?_⟩, p3⟩
    · show f_R_critical_L110 v1 (nI (n * n)) v3 (nI s) K (f + 1) (nI (n * n)) τ = _
      rw [f_R_critical_L110.eq_2]
      rw [if_neg (nI_nlt (Nat.le_refl _) (by omega))]
    · have := h.1.2.2 r c
      unfold rsB
      split <;> omega
    · have hi : n * r + c < n * n := by
        have h3 : n * (r + 1) ≤ n * n := Nat.mul_le_mul_left _ hr
        rw [Nat.mul_succ] at h3; omega
      rw [p1 _ hi, h.2.2 r c hr hc]
      unfold rsB
      by_cases hb : s.testBit (n * r + c) = true
      · rw [if_pos hb, if_pos ⟨⟨hr, hc⟩, hb⟩]
      · rw [if_neg hb, if_neg (fun h => hb h.2)]; rfl
def FRC (σ τ : St) : Prop := ∀ m s, m ≠ 91 → m ≠ 92 → m ≠ 93 → ¬ (m = 82 ∧ (s = 13 ∨ s = 15)) → τ m s = σ m s
theorem FRC.m {σ τ : St} (h : FRC σ τ) : FrM σ τ := ⟨fun m hm => funext (fun s => h m s (by omega) (by omega) (by omega) (by omega)), h 82 1 (by omega) (by omega) (by omega) (by omega), h 82 4 (by omega) (by omega) (by omega) (by omega)⟩
theorem FRC.k {σ τ : St} (h : FRC σ τ) : FrK σ τ := ⟨fun m hm => funext (fun s => h m s (by omega) (by omega) (by omega) (by omega)), fun s hs => h 82 s (by omega) (by omega) (by omega) (by omega)⟩
theorem FRC.trans {a b c : St} (h : FRC a b) (h2 : FRC b c) : FRC a c := fun m s p q r t => (h2 m s p q r t).trans (h m s p q r t)
end CRR
section CRS
variable {σ : St} {M : Nat} {N : Nat → Nat} {B : Nat → Bd}
theorem crit84 (mw : MW σ M N B) {j : Nat} (hj : j < M) (hs : SQ (N j) (B j)) (h4 : N j ≤ 4) {size : Nat} (hz : size < 1000) (KA KB : St → Option (Int32 × St)) : (∃ τ, FRC σ τ ∧ f_R_critical_L84 (nI j) (nI (N j * N j)) (nI size) KA KB FU 0 σ = KA τ ∧ CRT (N j) (B j) size) ∨ (∃ τ, FRC σ τ ∧ f_R_critical_L84 (nI j) (nI (N j * N j)) (nI size) KA KB FU 0 σ = KB τ ∧ ¬ CRT (N j) (B j) size) := by
  have hn := mw.n hj
  have h16 : N j * N j ≤ 4 * 4 := Nat.mul_le_mul h4 h4
  have hpw : 2 ^ (N j * N j) ≤ 2 ^ 16 := Nat.pow_le_pow_right (by omega) (by omega)
  refine loopE (fun f s (τ : St) => f_R_critical_L84 (nI j) (nI (N j * N j)) (nI size) KA KB f (nI s) τ) (2 ^ (N j * N j))
    (fun i τ => FRC σ τ ∧ ∀ s, s < i → ¬ (PCb s 0 (N j * N j) = size ∧ nC (N j) (rsB (N j) (B j) s) = 1))
    (fun R => (∃ τ, FRC σ τ ∧ R = KA τ ∧ CRT (N j) (B j) size) ∨ (∃ τ, FRC σ τ ∧ R = KB τ ∧ ¬ CRT (N j) (B j) size)) ?_ ?_ FU 0 σ (Nat.zero_le _) (FU_gt (by omega)) ⟨fun _ _ _ _ _ _ => rfl, fun s hs => by omega⟩
  · rintro f s τ hi ⟨fr, p1⟩
    have hps : PCb s 0 16 = PCb s 0 (N j * N j) := by
      have := PC_ext (s := s) (a := 0) (N j * N j) (16 - N j * N j) (fun i h1 _ => Nat.testBit_lt_two_pow (Nat.lt_of_lt_of_le hi (Nat.pow_le_pow_right (by omega) h1)))
      rw [show N j * N j + (16 - N j * N j) = 16 by omega] at this
      exact this
    have hpl : PCb s 0 (N j * N j) ≤ N j * N j := PC_le _
    have mwτ := mw.fr fr.m
    have next : f_R_critical_L84 (nI j) (nI (N j * N j)) (nI size) KA KB (f + 1) (nI s) τ = if PCb s 0 (N j * N j) = size then cal (f_R_copyToWork τ (nI j)) fun r_15 σ_16 => f_R_critical_L110 (nI j) (nI (N j * N j)) (nI size) (nI s) (fun (σ_21 : St) => cal (f_R_search σ_21 2) fun r_23 σ_24 => if r_23 = 1 then KA σ_24 else f_R_critical_L84 (nI j) (nI (N j * N j)) (nI size) KA KB f (nI (s + 1)) σ_24) FU 0 σ_16 else f_R_critical_L84 (nI j) (nI (N j * N j)) (nI size) KA KB f (nI (s + 1)) τ := by
      rw [f_R_critical_L84.eq_2]
      rw [nI_pow (by omega), if_pos (nI_lt hi (by omega)), bitsOf_ok, hps, cap_some, jn_eq]
      by_cases e : PCb s 0 (N j * N j) = size
      · rw [if_pos (by rw [e]), if_pos e, nI_1]
      · rw [if_neg (by rw [eq_nI (by omega) (by omega)]; exact e), if_neg e, nI_1]
    by_cases e : PCb s 0 (N j * N j) = size
    · rw [if_pos e] at next
      obtain ⟨τ1, e1, wk1, f1⟩ := copyW_ok mwτ hj
      obtain ⟨τ2, e2, wk2, f2⟩ := crit110 wk1 h4 s (nI j) (nI size) (fun (σ_21 : St) => cal (f_R_search σ_21 2) fun r_23 σ_24 => if r_23 = 1 then KA σ_24 else f_R_critical_L84 (nI j) (nI (N j * N j)) (nI size) KA KB f (nI (s + 1)) σ_24)
      obtain ⟨τ3, e3, f3, _⟩ := search_ok (most := 2) wk2 (rsB_sub.wf hs.1) (by omega) (by omega)
      have e3 : f_R_search τ2 2 = some (nI (min 2 (nC (N j) (rsB (N j) (B j) s))), τ3) := e3
      have fr3 : FRC σ τ3 := by
        intro m x a b c d
        rw [f3 m x a b c (by omega), f2 m a, f1 m x (by omega) a]
        exact fr m x a b c d
      rw [e1, cal_some, e2, e3, cal_some] at next
      by_cases hC : nC (N j) (rsB (N j) (B j) s) = 1
      · left
        left
        refine ⟨τ3, fr3, ?_, s, hi, e, hC⟩
        show f_R_critical_L84 (nI j) (nI (N j * N j)) (nI size) KA KB (f + 1) (nI s) τ = _
        rw [next, hC, if_pos (by rfl)]
      · right
        refine ⟨τ3, ?_, fr3, fun s' hs' => ?_⟩
        · show f_R_critical_L84 (nI j) (nI (N j * N j)) (nI size) KA KB (f + 1) (nI s) τ = _
          rw [next, if_neg (by rw [show (1 : Int32) = nI 1 from rfl, eq_nI (by omega) (by omega)]; omega)]
        · by_cases es : s' = s
          · rw [es]; exact fun h => hC h.2
          · exact p1 s' (by omega)
    · right
      refine ⟨τ, ?_, fr, fun s' hs' => ?_⟩
      · show f_R_critical_L84 (nI j) (nI (N j * N j)) (nI size) KA KB (f + 1) (nI s) τ = _
        rw [next, if_neg e]
      · by_cases es : s' = s
        · rw [es]; exact fun h => e h.1
        · exact p1 s' (by omega)
  · rintro f τ ⟨fr, p1⟩
    right
    refine ⟨τ, fr, ?_, ?_⟩
    · show f_R_critical_L84 (nI j) (nI (N j * N j)) (nI size) KA KB (f + 1) (nI (2 ^ (N j * N j))) τ = _
      rw [f_R_critical_L84.eq_2]
      rw [nI_pow (by omega), if_neg (nI_nlt (Nat.le_refl _) (by omega))]
    · rintro ⟨s, a, b⟩
      exact p1 s a b
theorem crit76 (mw : MW σ M N B) {j : Nat} (hj : j < M) (hs : SQ (N j) (B j)) (h4 : N j ≤ 4) : ∃ τ v, f_R_critical_L76 (nI j) (nI (N j * N j)) (fun (v3_27 : Int32) (σ_28 : St) => some (v3_27, σ_28)) (fun (σ_29 : St) => some (nI (N j * N j), σ_29)) FU 0 σ = some (nI v, τ) ∧ ANS (N j * N j) (CRT (N j) (B j)) v ∧ FRC σ τ := by
  have h16 : N j * N j ≤ 4 * 4 := Nat.mul_le_mul h4 h4
  refine loopE (fun f i (τ : St) => f_R_critical_L76 (nI j) (nI (N j * N j)) (fun (v3_27 : Int32) (σ_28 : St) => some (v3_27, σ_28)) (fun (σ_29 : St) => some (nI (N j * N j), σ_29)) f (nI i) τ) (N j * N j)
    (fun i τ => FRC σ τ ∧ ∀ i', i' < i → ¬ CRT (N j) (B j) i')
    (fun R => ∃ τ v, R = some (nI v, τ) ∧ ANS (N j * N j) (CRT (N j) (B j)) v ∧ FRC σ τ) ?_ ?_ FU 0 σ (by omega) (FU_gt (by omega)) ⟨fun _ _ _ _ _ _ => rfl, fun i hi => by omega⟩
  · rintro f i τ hi ⟨fr, p1⟩
    have mwτ := mw.fr fr.m
    have e0 : f_R_critical_L76 (nI j) (nI (N j * N j)) (fun (v3_27 : Int32) (σ_28 : St) => some (v3_27, σ_28)) (fun (σ_29 : St) => some (nI (N j * N j), σ_29)) (f + 1) (nI i) τ = f_R_critical_L84 (nI j) (nI (N j * N j)) (nI i) (fun (σ_25 : St) => some (nI i, σ_25)) (fun (σ_26 : St) => f_R_critical_L76 (nI j) (nI (N j * N j)) (fun (v3_27 : Int32) (σ_28 : St) => some (v3_27, σ_28)) (fun (σ_29 : St) => some (nI (N j * N j), σ_29)) f (nI (i + 1)) σ_26) FU 0 τ := by
      rw [f_R_critical_L76.eq_2]
      rw [if_pos (nI_lt hi (by omega)), nI_1]
    rcases crit84 mwτ hj hs h4 (size := i) (by omega) (fun (σ_25 : St) => some (nI i, σ_25)) (fun (σ_26 : St) => f_R_critical_L76 (nI j) (nI (N j * N j)) (fun (v3_27 : Int32) (σ_28 : St) => some (v3_27, σ_28)) (fun (σ_29 : St) => some (nI (N j * N j), σ_29)) f (nI (i + 1)) σ_26) with ⟨υ, fr2, e, hC⟩ | ⟨υ, fr2, e, hC⟩
    · left
      exact ⟨υ, i, e0.trans e, Or.inr ⟨hi, hC, p1⟩, fr.trans fr2⟩
    · right
      refine ⟨υ, e0.trans e, fr.trans fr2, fun i' hi' => ?_⟩
      by_cases es : i' = i
      · rw [es]; exact hC
      · exact p1 i' (by omega)
  · rintro f τ ⟨fr, p1⟩
    refine ⟨τ, N j * N j, ?_, Or.inl ⟨rfl, p1⟩, fr⟩
    show f_R_critical_L76 (nI j) (nI (N j * N j)) _ _ (f + 1) (nI (N j * N j)) τ = _
    rw [f_R_critical_L76.eq_2]
    rw [if_neg (nI_nlt (Nat.le_refl _) (by omega))]
end CRS
