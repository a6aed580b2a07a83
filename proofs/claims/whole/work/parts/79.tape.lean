/-! type, wipe -/
theorem al_err {cd : Nat → Option Int32} {Q : St → Option (Except Nat Int32 × St)} {R : St → Option (Int32 × St)} {σ : St} {M : Nat} {N : Nat → Nat} {B : Nat → Bd} {t : Nat} {ch : Nat → Nat} (cw : CW σ M N B) (ct : CT σ t ch) (mt : MT σ) (e : Nat) (k : Int32)
    (hQ : Q σ = some (.error e, σ)) (hk : cd e = some k ∧ k ≠ 0) (hR : ∀ σ1, MW σ1 M N B → MC σ1 t ch → ∃ v τ, R σ1 = some (v, τ) ∧ FrK σ1 τ ∧ τ 82 0 = k) :
    ∃ q σ' M' N' B' t' ch', Q σ = some (q, σ') ∧ CW σ' M' N' B' ∧ CT σ' t' ch' ∧ MT σ' ∧ (∀ m, 82 ≤ m → σ' m = σ m) ∧
      ∀ σ1, MW σ1 M N B → MC σ1 t ch → CA σ1 → ∃ b9 σ2, R σ1 = some (b9, σ2) ∧ (∀ m, m < 82 ∨ m = 103 → σ2 m = σ1 m) ∧ MW σ2 M' N' B' ∧ MC σ2 t' ch' ∧ CA σ2 ∧ Agr cd q b9 (σ2 82 0) := by
  refine ⟨_, σ, M, N, B, t, ch, hQ, cw, ct, mt, fun m _ => rfl, fun σ1 mw mc ca => ?_⟩
  obtain ⟨v, τ, h1, h2, h3⟩ := hR σ1 mw mc
  exact ⟨v, τ, h1, fun m hm => h2.1 m (by omega), mw.k h2, mc.fr h2.m, h2.ca ca, by rw [h3]; exact hk⟩
def cv (x : Int64) (k : Nat) : Int32 := ((x.toUInt64 >>> ((8 * nI k).toInt64.toUInt64 &&& Int64.toUInt64 63)).toInt64 &&& (255 : Int64)).toInt32
theorem typed_ok {σ : St} (x : Int64) (k : Nat) : f_Q_typed σ x (nI k) = some (cv x k) := rfl
theorem shr_low (v : BitVec 64) (n : Nat) (hn : n ≤ 56) : (v >>> n) &&& 255#64 = (v.sshiftRight n) &&& 255#64 := by
  apply BitVec.eq_of_getLsbD_eq
  intro i hi
  rw [BitVec.getLsbD_and, BitVec.getLsbD_and]
  by_cases h8 : i < 8
  · congr 1
    rw [BitVec.getLsbD_ushiftRight, BitVec.getLsbD_sshiftRight, if_pos (by omega)]
    simp; omega
  · have h0 : (255#64).getLsbD i = false := by
      rw [BitVec.getLsbD_ofNat]
      have : (255 : Nat).testBit i = false := Nat.testBit_lt_two_pow (Nat.lt_of_lt_of_le (by decide : 255 < 2 ^ 8) (Nat.pow_le_pow_right (by omega) (by omega)))
      rw [this, Bool.and_false]
    rw [h0, Bool.and_false, Bool.and_false]
theorem cv_ref (x : Int64) {k : Nat} (hk : k < 8) : ((x >>> ((8 * nI k).toInt64 &&& 63)) &&& (255 : Int64)).toInt32 = cv x k := by
  unfold cv
  congr 1
  have key : ∀ (a : Int64) (b : UInt64) (n : Nat), n ≤ 56 → (x >>> a).toBitVec = x.toBitVec.sshiftRight n → (x.toUInt64 >>> b).toBitVec = x.toBitVec >>> n → ((x >>> a) &&& (255 : Int64)) = ((x.toUInt64 >>> b).toInt64 &&& (255 : Int64)) := by
    intro a b n hn h1 h2
    apply Int64.toBitVec_inj.mp
    rw [Int64.toBitVec_and, Int64.toBitVec_and, h1, show (x.toUInt64 >>> b).toInt64.toBitVec = (x.toUInt64 >>> b).toBitVec from rfl, h2]
    exact (shr_low x.toBitVec n hn).symm
  match k, hk with
  | 0, _ => exact key _ _ 0 (by omega) (by rfl) (by rfl)
  | 1, _ => exact key _ _ 8 (by omega) (by rfl) (by rfl)
  | 2, _ => exact key _ _ 16 (by omega) (by rfl) (by rfl)
  | 3, _ => exact key _ _ 24 (by omega) (by rfl) (by rfl)
  | 4, _ => exact key _ _ 32 (by omega) (by rfl) (by rfl)
  | 5, _ => exact key _ _ 40 (by omega) (by rfl) (by rfl)
  | 6, _ => exact key _ _ 48 (by omega) (by rfl) (by rfl)
  | 7, _ => exact key _ _ 56 (by omega) (by rfl) (by rfl)
def gd (v : Int32) : Prop := ∃ x, isCh x ∧ v = nI x
theorem letter_ok {σ : St} (v : Int32) : f_Tape_isLetter σ v = some (bI (btw v (nI 120) (nI 122))) := by
  unfold f_Tape_isLetter btw
  rw [jn_eq]
  by_cases h1 : v < 120
  · rw [if_pos h1, show decide (¬ v < nI 120) = false from decide_eq_false (fun h => h h1)]; rfl
  · rw [if_neg h1, show decide (¬ v < nI 120) = true from decide_eq_true h1]
    by_cases h2 : v ≤ 122
    · rw [if_pos h2, show decide (v ≤ nI 122) = true from decide_eq_true h2]; rfl
    · rw [if_neg h2, show decide (v ≤ nI 122) = false from decide_eq_false h2]; rfl
theorem isChar_ok {σ : St} (v : Int32) : f_Tape_isCharacter σ v = some (bI (dB (gd v))) := by
  unfold f_Tape_isCharacter
  rw [letter_ok, cap_some, jn_eq]
  cases hb : btw v (nI 120) (nI 122)
  · rw [if_pos (by rfl)]
    have hnl : ∀ x, 120 ≤ x → x ≤ 122 → v ≠ nI x := by
      intro x h1 h2 h3
      rw [(btw_iff (by omega) (by omega)).mpr ⟨x, h1, h2, h3⟩] at hb
      cases hb
    by_cases h1 : v = 40
    · rw [if_pos h1, dB_t (p := gd v) ⟨40, Or.inl rfl, h1⟩]; rfl
    · rw [if_neg h1]
      by_cases h2 : v = 41
      · rw [if_pos h2, dB_t (p := gd v) ⟨41, Or.inr (Or.inl rfl), h2⟩]; rfl
      · rw [if_neg h2]
        by_cases h3 : v = 61
        · rw [if_pos h3, dB_t (p := gd v) ⟨61, Or.inr (Or.inr (Or.inl rfl)), h3⟩]; rfl
        · rw [if_neg h3, dB_f (p := gd v)]
          · rfl
          · rintro ⟨x, (rfl | rfl | rfl | rfl | rfl | rfl), hx⟩
            · exact h1 hx
            · exact h2 hx
            · exact h3 hx
            · exact hnl 120 (by omega) (by omega) hx
            · exact hnl 121 (by omega) (by omega) hx
            · exact hnl 122 (by omega) (by omega) hx
  · obtain ⟨x, h1, h2, rfl⟩ := (btw_iff (by omega) (by omega)).mp hb
    rw [if_neg (by decide), dB_t (p := gd (nI x)) ⟨x, by unfold isCh; omega, rfl⟩]
    rfl
theorem isSign_ok {σ : St} (v : Int32) : f_R_isSign σ v = some (bI (dB (gd v))) := by
  unfold f_R_isSign
  rw [jn_eq]
  by_cases h1 : v = 120
  · rw [if_pos h1, dB_t (p := gd v) ⟨120, by unfold isCh; omega, h1⟩]; rfl
  rw [if_neg h1]
  by_cases h2 : v = 121
  · rw [if_pos h2, dB_t (p := gd v) ⟨121, by unfold isCh; omega, h2⟩]; rfl
  rw [if_neg h2]
  by_cases h3 : v = 122
  · rw [if_pos h3, dB_t (p := gd v) ⟨122, by unfold isCh; omega, h3⟩]; rfl
  rw [if_neg h3]
  by_cases h4 : v = 40
  · rw [if_pos h4, dB_t (p := gd v) ⟨40, by unfold isCh; omega, h4⟩]; rfl
  rw [if_neg h4]
  by_cases h5 : v = 41
  · rw [if_pos h5, dB_t (p := gd v) ⟨41, by unfold isCh; omega, h5⟩]; rfl
  rw [if_neg h5]
  by_cases h6 : v = 61
  · rw [if_pos h6, dB_t (p := gd v) ⟨61, by unfold isCh; omega, h6⟩]; rfl
  rw [if_neg h6, dB_f (p := gd v)]
  · rfl
  · rintro ⟨x, (rfl | rfl | rfl | rfl | rfl | rfl), hx⟩
    · exact h4 hx
    · exact h5 hx
    · exact h6 hx
    · exact h1 hx
    · exact h2 hx
    · exact h3 hx
theorem type13 {σ : St} (x : Int64) {n : Nat} (hn : n ≤ 8) (K : St → Option (Except Nat Int32 × St)) : f_Q_type_L13 x (nI n) K FU 0 σ = if dB (∀ i, i < n → gd (cv x i)) = true then K σ else some (.error 2, σ) := by
  have key : ∀ m i, i < n → f_Q_type_L13 x (nI n) K (m + 1) (nI i) σ = cax (f_Q_needArgument σ (bI (dB (gd (cv x i))))) fun r_11 σ_12 => f_Q_type_L13 x (nI n) K m (nI (i + 1)) σ_12 := by
    intro m i hi
    rw [f_Q_type_L13.eq_2]
    rw [if_pos (nI_lt hi (by omega)), typed_ok, cap_some, isChar_ok, cap_some, nI_1]
  refine loop_all (fun m i => f_Q_type_L13 x (nI n) K m (nI i) σ) n (fun i => gd (cv x i)) (some (.error 2, σ)) (K σ) (by omega) ?_ ?_ ?_
  · intro m i hi hp
    show f_Q_type_L13 x (nI n) K (m + 1) (nI i) σ = _
    rw [key m i hi, dB_t hp]
    rfl
  · intro m i hi hp
    show f_Q_type_L13 x (nI n) K (m + 1) (nI i) σ = _
    rw [key m i hi, dB_f hp]
    rfl
  · intro m
    show f_Q_type_L13 x (nI n) K (m + 1) (nI n) σ = _
    rw [f_Q_type_L13.eq_2]
    rw [if_neg (nI_nlt (Nat.le_refl _) (by omega))]
theorem rtype23 {σ : St} (x : Int64) {n : Nat} (hn : n ≤ 8) (h0 : σ 82 0 = 0) (K : St → Option (Int32 × St)) : ∃ τ, f_R_type_L23 x (nI n) K FU 0 σ = K τ ∧ FrK σ τ ∧ τ 82 0 = if dB (∀ i, i < n → gd (cv x i)) = true then 0 else 1 := by
  refine loopE (fun m i (τ : St) => f_R_type_L23 x (nI n) K m (nI i) τ) n
    (fun i τ => FrK σ τ ∧ ((τ 82 0 = 0 ∧ ∀ i', i' < i → gd (cv x i')) ∨ (τ 82 0 = 1 ∧ ∃ i', i' < n ∧ ¬ gd (cv x i'))))
    (fun R => ∃ τ, R = K τ ∧ FrK σ τ ∧ τ 82 0 = if dB (∀ i, i < n → gd (cv x i)) = true then 0 else 1) ?_ ?_ FU 0 σ (by omega) (FU_gt (by omega)) ⟨FrK.refl σ, Or.inl ⟨h0, fun i hi => by omega⟩⟩
  · rintro m i τ hi ⟨p1, p2⟩
    rcases p2 with ⟨p2, p3⟩ | ⟨p2, i', hi', p3⟩
    · have hstep : f_R_type_L23 x (nI n) K (m + 1) (nI i) τ = f_R_type_L23 x (nI n) K m (nI (i + 1)) (wr τ 82 0 (if bI (dB (gd (cv x i))) = 0 then 1 else 0)) := by
        rw [f_R_type_L23.eq_2]
        rw [if_pos p2, if_pos (nI_lt hi (by omega)), cv_ref x (by omega), isSign_ok, cap_some, nI_1]
        simp only [jn_eq, sto_eq]
        cases dB (gd (cv x i)) <;> rfl
      refine Or.inr ⟨_, hstep, p1.w (by omega) (by omega), ?_⟩
      by_cases hg : gd (cv x i)
      · rw [dB_t hg]
        refine Or.inl ⟨rfl, fun i' hi' => ?_⟩
        by_cases e : i' = i
        · rw [e]; exact hg
        · exact p3 i' (by omega)
      · rw [dB_f hg]
        exact Or.inr ⟨rfl, i, hi, hg⟩
    · refine Or.inl ⟨τ, ?_, p1, ?_⟩
      · show f_R_type_L23 x (nI n) K (m + 1) (nI i) τ = _
        rw [f_R_type_L23.eq_2]
        rw [p2, if_neg (by decide)]
      · rw [dB_f (fun h => p3 (h i' hi')), p2]; rfl
  · rintro m τ ⟨p1, p2⟩
    rcases p2 with ⟨p2, p3⟩ | ⟨p2, i', hi', p3⟩
    · refine ⟨τ, ?_, p1, ?_⟩
      · show f_R_type_L23 x (nI n) K (m + 1) (nI n) τ = _
        rw [f_R_type_L23.eq_2]
        rw [if_pos p2, if_neg (nI_nlt (Nat.le_refl _) (by omega))]
      · rw [dB_t p3, p2]; rfl
    · refine ⟨τ, ?_, p1, ?_⟩
      · show f_R_type_L23 x (nI n) K (m + 1) (nI n) τ = _
        rw [f_R_type_L23.eq_2]
        rw [p2, if_neg (by decide)]
      · rw [dB_f (fun h => p3 (h i' hi')), p2]; rfl
theorem type62 {σ : St} (x : Int64) {n t : Nat} (hn : n ≤ 8) (ht : t + n ≤ 40) (h3 : σ 10 3 = nI t) (K : St → Option (Except Nat Int32 × St)) : ∃ τ, f_Q_type_L62 x (nI n) K FU 0 σ = K τ ∧ τ 10 3 = nI (t + n) ∧ (∀ k, k < n → τ 11 (t + k) = cv x k) ∧ (∀ k, k < t → τ 11 k = σ 11 k) ∧ ∀ m, m ≠ 10 → m ≠ 11 → τ m = σ m := by
  refine loopE (fun m i (τ : St) => f_Q_type_L62 x (nI n) K m (nI i) τ) n
    (fun i τ => τ 10 3 = nI (t + i) ∧ (∀ k, k < i → τ 11 (t + k) = cv x k) ∧ (∀ k, k < t → τ 11 k = σ 11 k) ∧ ∀ m, m ≠ 10 → m ≠ 11 → τ m = σ m)
    (fun R => ∃ τ, R = K τ ∧ τ 10 3 = nI (t + n) ∧ (∀ k, k < n → τ 11 (t + k) = cv x k) ∧ (∀ k, k < t → τ 11 k = σ 11 k) ∧ ∀ m, m ≠ 10 → m ≠ 11 → τ m = σ m) ?_ ?_ FU 0 σ (by omega) (FU_gt (by omega)) ⟨h3, fun k hk => by omega, fun k _ => rfl, fun m _ _ => rfl⟩
  · rintro m i τ hi ⟨p1, p2, p3, p4⟩
    refine Or.inr ⟨wr (wr τ 11 (t + i) (cv x i)) 10 3 (nI (t + i + 1)), ?_, ?_, fun k hk => ?_, fun k hk => ?_, fun m' a b => ?_⟩
    · show f_Q_type_L62 x (nI n) K (m + 1) (nI i) τ = _
      rw [f_Q_type_L62.eq_2]
      unfold f_Tape_append
      rw [if_pos (nI_lt hi (by omega)), typed_ok, cap_some, p1, if_neg (nI_pos (by omega)), if_pos (show nI (t + i) < 40 from nI_lt (show t + i < 40 by omega) (by decide)), ast_nI (by omega) (by decide), sto_eq, wr_fn (by omega), p1, cal_some, nI_1, nI_1]
    · rw [wr_at, Nat.add_assoc]
    · rw [wr_fn (by omega), wr_get]
      by_cases e : k = i
      · rw [if_pos ⟨rfl, by rw [e]⟩, e]
      · rw [if_neg (by omega)]; exact p2 k (by omega)
    · rw [wr_fn (by omega), wr_get, if_neg (by omega)]; exact p3 k hk
    · rw [wr_fn a, wr_fn b]; exact p4 m' a b
  · rintro m τ ⟨p1, p2, p3, p4⟩
    refine ⟨τ, ?_, p1, p2, p3, p4⟩
    show f_Q_type_L62 x (nI n) K (m + 1) (nI n) τ = _
    rw [f_Q_type_L62.eq_2]
    rw [if_neg (nI_nlt (Nat.le_refl _) (by omega))]
theorem rtype112 {σ : St} (x : Int64) {n t : Nat} (hn : n ≤ 8) (ht : t + n ≤ 40) (h3 : σ 82 4 = nI t) (K : St → Option (Int32 × St)) : ∃ τ, f_R_type_L112 x (nI n) K FU 0 σ = K τ ∧ (∀ k, k < n → τ 85 (t + k) = cv x k) ∧ (∀ k, k < t → τ 85 k = σ 85 k) ∧ ∀ m, m ≠ 85 → τ m = σ m := by
  refine loopE (fun m i (τ : St) => f_R_type_L112 x (nI n) K m (nI i) τ) n
    (fun i τ => (∀ k, k < i → τ 85 (t + k) = cv x k) ∧ (∀ k, k < t → τ 85 k = σ 85 k) ∧ ∀ m, m ≠ 85 → τ m = σ m)
    (fun R => ∃ τ, R = K τ ∧ (∀ k, k < n → τ 85 (t + k) = cv x k) ∧ (∀ k, k < t → τ 85 k = σ 85 k) ∧ ∀ m, m ≠ 85 → τ m = σ m) ?_ ?_ FU 0 σ (by omega) (FU_gt (by omega)) ⟨fun k hk => by omega, fun k _ => rfl, fun m _ => rfl⟩
  · rintro m i τ hi ⟨p2, p3, p4⟩
    have e4 : τ 82 4 = nI t := by rw [p4 82 (by omega)]; exact h3
    refine Or.inr ⟨wr τ 85 (t + i) (cv x i), ?_, fun k hk => ?_, fun k hk => ?_, fun m' b => ?_⟩
    · show f_R_type_L112 x (nI n) K (m + 1) (nI i) τ = _
      rw [f_R_type_L112.eq_2]
      rw [if_pos (nI_lt hi (by omega)), cv_ref x (by omega), e4, nI_add, ast_nI (by omega) (by decide), nI_1]
    · rw [wr_get]
      by_cases e : k = i
      · rw [if_pos ⟨rfl, by rw [e]⟩, e]
      · rw [if_neg (by omega)]; exact p2 k (by omega)
    · rw [wr_get, if_neg (by omega)]; exact p3 k hk
    · rw [wr_fn b]; exact p4 m' b
  · rintro m τ ⟨p2, p3, p4⟩
    refine ⟨τ, ?_, p2, p3, p4⟩
    show f_R_type_L112 x (nI n) K (m + 1) (nI n) τ = _
    rw [f_R_type_L112.eq_2]
    rw [if_neg (nI_nlt (Nat.le_refl _) (by omega))]
def KT (p0 : Int64) (n : Nat) : St → Option (Int32 × St) := fun (σ_11 : St) => jn (fun (s_13 : Int32) => sto σ_11 82 0 s_13 fun σ_14 =>
  if (σ_14 82 0) ≤ 0 then
    f_R_type_L112 p0 (nI n) (fun (σ_16 : St) => sto σ_16 82 4 ((σ_16 82 4) + nI n) fun σ_17 =>
    some ((σ_17 82 4), σ_17)) FU 0 σ_14
  else
    some (0, σ_14)) fun j97_12 =>
  jn (j97_12 (σ_11 82 0)) fun j93_18 =>
  if (σ_11 82 0) = 0 then
    if ((σ_11 82 4) + nI n) ≤ 40 then
      j93_18
    else
      j97_12 2
  else
    j93_18
def chT (t : Nat) (ch : Nat → Nat) (x : Int64) (i : Nat) : Nat := if i < t then ch i else (cv x (i - t)).toNatClampNeg
theorem chT_lt {t : Nat} {ch : Nat → Nat} {x : Int64} {i : Nat} (h : i < t) : chT t ch x i = ch i := by unfold chT; rw [if_pos h]
theorem chT_ge {t : Nat} {ch : Nat → Nat} {x : Int64} {i : Nat} (h : ¬ i < t) : chT t ch x i = (cv x (i - t)).toNatClampNeg := by unfold chT; rw [if_neg h]
theorem rtype_bad (x : Int64) (y : Int32) (K : St → Option (Int32 × St)) (τ : St) (h : τ 82 0 = 1) : f_R_type_L23 x y K FU 0 τ = K τ := by
  show f_R_type_L23 x y K (999999999999999999999999999999999999999999999999 + 1) 0 τ = K τ
  rw [f_R_type_L23.eq_2]
  rw [h, if_neg (by decide)]
theorem rtype_no {σ1 : St} {p0 : Int64} {p1 : Int32} (hy : btw p1 1 (nI 8) = false) : f_R_type σ1 p0 p1 = some (0, wr (wr σ1 82 0 1) 82 0 1) := by
  unfold f_R_type
  rw [rbtw, show (8 : Int32) = nI 8 from rfl, hy, cap_some, jn_eq, if_pos (by rfl)]
  show sto σ1 82 0 1 _ = _
  rw [sto_eq, rtype_bad _ _ _ _ (by rw [wr_at]), jn_eq, jn_eq, wr_at, if_neg (by decide)]
  show sto (wr σ1 82 0 1) 82 0 1 _ = _
  rw [sto_eq, wr_at, if_neg (by decide)]
theorem type_q0 {σ : St} {t n : Nat} {ch : Nat → Nat} {p0 : Int64} (ct : CT σ t ch) (hn : n ≤ 8) (ht : t ≤ 40) (hy : btw (nI n) 1 (nI 8) = true) : f_Q_type σ p0 (nI n) = if dB (∀ i, i < n → gd (cv p0 i)) = true then (if t + n ≤ 40 then f_Q_type_L62 p0 (nI n) (fun (σ_24 : St) => some (.ok (σ_24 10 3), σ_24)) FU 0 σ else some (.error 3, σ)) else some (.error 2, σ) := by
      unfold f_Q_type
      rw [isFrom_ok, show (8 : Int32) = nI 8 from rfl, hy, cap_some, nar true, if_pos rfl, cax_ok, type13 p0 hn]
      congr 1
      rw [ct.2.1, nI_add, jn_eq]
      by_cases h : t + n ≤ 40
      · rw [if_pos (show nI (t + n) ≤ 40 from nI_le h (by decide)), if_pos h]
        show cax (f_Q_needState σ 1) _ = _
        rw [nst1, cax_ok]
      · rw [if_neg (show ¬ nI (t + n) ≤ 40 from nI_ge (a := 40) (b := t + n) (by omega) (by omega)), if_neg h]; rfl
theorem type_r0 {t n : Nat} {ch : Nat → Nat} {p0 : Int64} (hn : n ≤ 8) (ht : t ≤ 40) (hy : btw (nI n) 1 (nI 8) = true) : ∀ σ1 : St, MC σ1 t ch → ∃ τ, FrK σ1 τ ∧ τ 82 0 = (if dB (∀ i, i < n → gd (cv p0 i)) = true then (if t + n ≤ 40 then 0 else 2) else 1) ∧ f_R_type σ1 p0 (nI n) = if τ 82 0 = 0 then f_R_type_L112 p0 (nI n) (fun (σ_16 : St) => sto σ_16 82 4 ((σ_16 82 4) + nI n) fun σ_17 => some ((σ_17 82 4), σ_17)) FU 0 τ else some (0, τ) := by
      intro σ1 mc
      obtain ⟨τ, e, k, h0⟩ := rtype23 (σ := wr σ1 82 0 0) p0 hn (by rw [wr_at]) (KT p0 n)
      have k2 : FrK σ1 τ := FrK.t.trans k
      have e4 : τ 82 4 = nI t := by rw [k2.2 4 (by omega)]; exact mc.2.1
      have e00 : f_R_type σ1 p0 (nI n) = f_R_type_L23 p0 (nI n) (KT p0 n) FU 0 (wr σ1 82 0 0) := by
        unfold f_R_type
        rw [rbtw, show (8 : Int32) = nI 8 from rfl, hy, cap_some, jn_eq, if_neg (by decide)]
        show sto σ1 82 0 0 _ = _
        rw [sto_eq]
        rfl
      have e0 := e00.trans e
      unfold KT at e0
      have body : ∀ s : Int32, (s = 0 ∨ s = 1 ∨ s = 2) → (sto τ 82 0 s fun σ_14 => if (σ_14 82 0) ≤ 0 then f_R_type_L112 p0 (nI n) (fun (σ_16 : St) => sto σ_16 82 4 ((σ_16 82 4) + nI n) fun σ_17 => some ((σ_17 82 4), σ_17)) FU 0 σ_14 else some (0, σ_14)) = if wr τ 82 0 s 82 0 = 0 then f_R_type_L112 p0 (nI n) (fun (σ_16 : St) => sto σ_16 82 4 ((σ_16 82 4) + nI n) fun σ_17 => some ((σ_17 82 4), σ_17)) FU 0 (wr τ 82 0 s) else some (0, wr τ 82 0 s) := by
        intro s hs
        rw [sto_eq, wr_at]
        rcases hs with rfl | rfl | rfl
        · rw [if_pos (by decide), if_pos rfl]
        · rw [if_neg (by decide), if_neg (by decide)]
        · rw [if_neg (by decide), if_neg (by decide)]
      cases hd : dB (∀ i, i < n → gd (cv p0 i))
      · rw [hd] at h0
        have h0 : τ 82 0 = 1 := h0
        refine ⟨wr τ 82 0 1, k2.trans FrK.t, rfl, ?_⟩
        rw [← body 1 (by simp), e0, jn_eq, jn_eq, h0, if_neg (by decide)]
      · rw [hd] at h0
        have h0 : τ 82 0 = 0 := h0
        by_cases h : t + n ≤ 40
        · refine ⟨wr τ 82 0 0, k2.trans FrK.t, by rw [if_pos rfl, if_pos h]; rfl, ?_⟩
          rw [← body 0 (by simp), e0, jn_eq, jn_eq, h0, if_pos rfl, e4, nI_add, if_pos (show nI (t + n) ≤ 40 from nI_le h (by decide))]
        · refine ⟨wr τ 82 0 2, k2.trans FrK.t, by rw [if_pos rfl, if_neg h]; rfl, ?_⟩
          rw [← body 2 (by simp), e0, jn_eq, jn_eq, h0, if_pos rfl, e4, nI_add, if_neg (show ¬ nI (t + n) ≤ 40 from nI_ge (a := 40) (b := t + n) (by omega) (by omega))]
theorem ok_type : Ok_type Inv := by
  intro σ hI p0 p1
  refine op_all hI (Q := fun σ => f_Q_type σ p0 p1) (R := fun σ => f_R_type σ p0 p1) (fun M N B t ch cw mw0 ct mc0 mt ca0 => ?_)
  have ht := ct.1
  cases hy : btw p1 1 (nI 8)
  · refine al_err (cd := cd_type) (Q := fun σ => f_Q_type σ p0 p1) (R := fun σ => f_R_type σ p0 p1) cw ct mt 2 1 ?_ (by decide) (fun σ1 mw mc => ?_)
    · show f_Q_type σ p0 p1 = _
      unfold f_Q_type
      rw [isFrom_ok, show (8 : Int32) = nI 8 from rfl, hy]
      rfl
    · have e : f_R_type σ1 p0 p1 = some (0, wr (wr σ1 82 0 1) 82 0 1) := rtype_no hy
      exact ⟨0, _, e, FrK.t.trans FrK.t, rfl⟩
  · obtain ⟨n, hn1, hn, rfl⟩ := (btw_iff (a := 1) (by omega) (by omega)).mp hy
    have q0 := type_q0 (p0 := p0) ct hn ht hy
    have r0 := type_r0 (ch := ch) (p0 := p0) hn ht hy
    cases hd : dB (∀ i, i < n → gd (cv p0 i))
    · refine al_err (cd := cd_type) (Q := fun σ => f_Q_type σ p0 (nI n)) (R := fun σ => f_R_type σ p0 (nI n)) cw ct mt 2 1 ?_ (by decide) (fun σ1 mw mc => ?_)
      · show f_Q_type σ p0 (nI n) = _
        rw [q0, hd]; rfl
      · obtain ⟨τ, k, h0, e⟩ := r0 σ1 mc
        rw [hd] at h0
        have h0 : τ 82 0 = 1 := h0
        refine ⟨0, τ, ?_, k, h0⟩
        show f_R_type σ1 p0 (nI n) = _
        rw [e, h0, if_neg (by decide)]
    · by_cases h : t + n ≤ 40
      · obtain ⟨σ', e, s1, s2, s3, s4⟩ := type62 (σ := σ) p0 hn h ct.2.1 (fun (σ_24 : St) => some (.ok (σ_24 10 3), σ_24))
        have hgd := dB_iff.mp hd
        have hcl : ∀ k, k < n → isCh (cv p0 k).toNatClampNeg ∧ cv p0 k = nI (cv p0 k).toNatClampNeg := by
          intro k hk
          obtain ⟨x, hx, e⟩ := hgd k hk
          have h31 : x < 2 ^ 31 := by unfold isCh at hx; omega
          have e2 : (cv p0 k).toNatClampNeg = x := by rw [e]; exact nI_clamp h31
          rw [e2]; exact ⟨hx, e⟩
        refine ⟨.ok (nI (t + n)), σ', M, N, B, t + n, chT t ch p0, ?_, ?_, ?_, ?_, fun m hm => s4 m (by omega) (by omega), fun σ1 mw mc ca => ?_⟩
        · show f_Q_type σ p0 (nI n) = _
          rw [q0, hd, if_pos rfl, if_pos h, e, s1]
        · obtain ⟨h1, h2, h3⟩ := cw
          refine ⟨h1, by rw [s4 0 (by omega) (by omega)]; exact h2, fun j hj => (h3 j hj).frame (fun m a b => s4 m (by unfold gid at a; omega) (by unfold gid at a; omega))⟩
        · refine ⟨h, s1, fun i hi => ?_, fun i hi => ?_⟩
          · by_cases e : i < t
            · rw [chT_lt e, s3 i e]; exact ct.2.2.1 i e
            · rw [chT_ge e, ← (hcl (i - t) (by omega)).2]
              have := s2 (i - t) (by omega)
              rwa [show t + (i - t) = i by omega] at this
          · by_cases e : i < t
            · rw [chT_lt e]; exact ct.2.2.2 i e
            · rw [chT_ge e]; exact (hcl (i - t) (by omega)).1
        · intro m hm
          rw [s4 7 (by omega) (by omega), s4 8 (by omega) (by omega)]
          exact mt m hm
        · obtain ⟨τ, k, h0, e⟩ := r0 σ1 mc
          rw [hd, if_pos rfl, if_pos h] at h0
          have e4 : τ 82 4 = nI t := by rw [k.2 4 (by omega)]; exact mc.2.1
          obtain ⟨υ, e2, u1, u2, u3⟩ := rtype112 (σ := τ) p0 hn h e4 (fun (σ_16 : St) => sto σ_16 82 4 ((σ_16 82 4) + nI n) fun σ_17 => some ((σ_17 82 4), σ_17))
          refine ⟨nI (t + n), wr υ 82 4 (nI (t + n)), ?_, fun m hm => ?_, ?_, ⟨h, by rw [wr_at], fun i hi => ?_, fun i hi => ?_⟩, ?_, ?_⟩
          · show f_R_type σ1 p0 (nI n) = _
            rw [e, h0, if_pos rfl, e2]
            show sto υ 82 4 (υ 82 4 + nI n) _ = _
            rw [u3 82 (by omega), e4, nI_add, sto_eq, wr_at]
          · rw [wr_fn (by omega), u3 m (by omega)]; exact k.1 m (by omega)
          · obtain ⟨h1, h2, h3, h4⟩ := mw.k k
            refine ⟨h1, by rw [wr_get, if_neg (by omega), u3 82 (by omega)]; exact h2, fun j hj => by rw [wr_fn (by omega), u3 83 (by omega)]; exact h3 j hj, fun j r c a b d => by rw [wr_fn (by omega), u3 84 (by omega)]; exact h4 j r c a b d⟩
          · rw [wr_fn (by omega)]
            by_cases e : i < t
            · rw [chT_lt e, u2 i e, k.1 85 (by omega)]; exact mc.2.2.1 i e
            · rw [chT_ge e, ← (hcl (i - t) (by omega)).2]
              have := u1 (i - t) (by omega)
              rwa [show t + (i - t) = i by omega] at this
          · by_cases e : i < t
            · rw [chT_lt e]; exact mc.2.2.2 i e
            · rw [chT_ge e]; exact (hcl (i - t) (by omega)).1
          · refine (k.ca ca).fr ?_ ?_ ?_
            · rw [wr_get, if_neg (by omega), u3 82 (by omega)]
            · rw [wr_get, if_neg (by omega), u3 82 (by omega)]
            · rw [wr_fn (by omega), u3 89 (by omega)]
          · refine ⟨?_, rfl⟩
            rw [wr_get, if_neg (by omega), u3 82 (by omega), h0]
      · refine al_err (cd := cd_type) (Q := fun σ => f_Q_type σ p0 (nI n)) (R := fun σ => f_R_type σ p0 (nI n)) cw ct mt 3 2 ?_ (by decide) (fun σ1 mw mc => ?_)
        · show f_Q_type σ p0 (nI n) = _
          rw [q0, hd, if_pos rfl, if_neg h]
        · obtain ⟨τ, k, h0, e⟩ := r0 σ1 mc
          rw [hd, if_pos rfl, if_neg h] at h0
          refine ⟨0, τ, ?_, k, h0⟩
          show f_R_type σ1 p0 (nI n) = _
          rw [e, h0, if_neg (by decide)]
theorem ok_wipe : Ok_wipe Inv := by
  rintro σ ⟨M, N, B, t, ch, cw, mw, ct, mc, mt, ca⟩
  refine ⟨nI t, nI t, wr σ 10 3 0, wr (wr (wr σ 10 3 0) 82 0 0) 82 4 0, ?_, ?_, rfl, M, N, B, 0, ch, ?_, ?_, ?_, ?_, ?_, ?_⟩
  · unfold f_Q_wipe
    rw [ct.2.1]; rfl
  · unfold f_R_wipe
    rw [sto_eq, sto_eq, wr_get, if_neg (by omega), wr_fn (by omega), mc.2.1]
  · obtain ⟨h1, h2, h3⟩ := cw
    refine ⟨h1, by rw [wr_fn (by omega), wr_fn (by omega), wr_fn (by omega)]; exact h2, fun j hj => (h3 j hj).frame (fun m a b => by unfold gid at a b; rw [wr_fn (by omega), wr_fn (by omega), wr_fn (by omega)])⟩
  · obtain ⟨h1, h2, h3, h4⟩ := mw
    refine ⟨h1, by rw [wr_get, if_neg (by omega), wr_get, if_neg (by omega), wr_fn (by omega)]; exact h2, fun j hj => by rw [wr_fn (by omega), wr_fn (by omega), wr_fn (by omega)]; exact h3 j hj, fun j r c a b d => by rw [wr_fn (by omega), wr_fn (by omega), wr_fn (by omega)]; exact h4 j r c a b d⟩
  · exact ⟨by omega, by rw [wr_fn (by omega), wr_fn (by omega), wr_at]; rfl, fun i hi => by omega, fun i hi => by omega⟩
  · exact ⟨by omega, by rw [wr_at]; rfl, fun i hi => by omega, fun i hi => by omega⟩
  · intro m hm
    rw [wr_fn (by omega), wr_fn (by omega), wr_fn (by omega), wr_fn (by omega), wr_fn (by omega), wr_fn (by omega)]
    exact mt m hm
  · refine ca.fr ?_ ?_ ?_
    · rw [wr_get, if_neg (by omega), wr_get, if_neg (by omega), wr_fn (by omega)]
    · rw [wr_get, if_neg (by omega), wr_get, if_neg (by omega), wr_fn (by omega)]
    · rw [wr_fn (by omega), wr_fn (by omega), wr_fn (by omega)]
