/-! breaks, the operation -/
def FstS {α : Type} (e : Nat) (p : Nat → Prop) (I : St → Prop) (R : α) (X : Nat → St → α) (Y : St → α) : Prop := (∃ τ, I τ ∧ R = Y τ ∧ ∀ i, i < e → ¬ p i) ∨ ∃ i τ, i < e ∧ p i ∧ (∀ i', i' < i → ¬ p i') ∧ I τ ∧ R = X i τ
theorem fstS_loop {α : Type} (F : Nat → Nat → St → α) (e : Nat) (p : Nat → Prop) (I : St → Prop) (X : Nat → St → α) (Y : St → α) (he : e < 1000000000000)
    (h1 : ∀ n i τ, i < e → I τ → ¬ p i → ∃ τ', I τ' ∧ F (n + 1) i τ = F n (i + 1) τ') (h2 : ∀ n i τ, i < e → I τ → p i → ∃ τ', I τ' ∧ F (n + 1) i τ = X i τ') (h3 : ∀ n τ, I τ → F (n + 1) e τ = Y τ) : ∀ τ, I τ → FstS e p I (F FU 0 τ) X Y := by
  intro τ hτ
  refine loopE F e (fun i τ => I τ ∧ ∀ i', i' < i → ¬ p i') (fun R => FstS e p I R X Y) ?_ ?_ FU 0 τ (by omega) (FU_gt (by omega)) ⟨hτ, fun i' hi' => by omega⟩
  · rintro n i τ hi ⟨hI, hp⟩
    by_cases h : p i
    · obtain ⟨τ', a, b⟩ := h2 n i τ hi hI h
      exact Or.inl (Or.inr ⟨i, τ', hi, h, hp, a, b⟩)
    · obtain ⟨τ', a, b⟩ := h1 n i τ hi hI h
      refine Or.inr ⟨τ', b, a, fun i' hi' => ?_⟩
      by_cases e : i' = i
      · rw [e]; exact h
      · exact hp i' (by omega)
  · rintro n τ ⟨hI, hp⟩
    exact Or.inl ⟨τ, hI, h3 n τ hI, hp⟩
theorem fstS_nest {α : Type} (F : Nat → Nat → St → α) (e b : Nat) (p : Nat → Prop) (I : St → Prop) (X : Nat → St → α) (Y : St → α) (he : e < 1000000000000)
    (h : ∀ m i τ, i < e → I τ → FstS b (fun j => p (b * i + j)) I (F (m + 1) i τ) (fun j => X (b * i + j)) (F m (i + 1))) (hx : ∀ m τ, I τ → F (m + 1) e τ = Y τ) : ∀ τ, I τ → FstS (b * e) p I (F FU 0 τ) X Y := by
  intro τ hτ
  refine loopE F e (fun i τ => I τ ∧ ∀ i', i' < b * i → ¬ p i') (fun R => FstS (b * e) p I R X Y) ?_ ?_ FU 0 τ (by omega) (FU_gt (by omega)) ⟨hτ, fun i' hi' => by omega⟩
  · rintro m i τ hi ⟨hI, hP⟩
    rcases h m i τ hi hI with ⟨τ', a, e1, e2⟩ | ⟨j, τ', hj, hp, hmin, a, hR⟩
    · refine Or.inr ⟨τ', e1, a, fun i' hi' => ?_⟩
      by_cases h4 : i' < b * i
      · exact hP i' h4
      · have h5 : ¬ p (b * i + (i' - b * i)) := e2 (i' - b * i) (by rw [Nat.mul_succ] at hi'; omega)
        rwa [show b * i + (i' - b * i) = i' by omega] at h5
    · refine Or.inl (Or.inr ⟨b * i + j, τ', ?_, hp, fun i' hi' => ?_, a, hR⟩)
      · have h6 : b * (i + 1) ≤ b * e := Nat.mul_le_mul_left b hi
        rw [Nat.mul_succ] at h6; omega
      · by_cases h4 : i' < b * i
        · exact hP i' h4
        · have h5 : ¬ p (b * i + (i' - b * i)) := hmin (i' - b * i) (by omega)
          rwa [show b * i + (i' - b * i) = i' by omega] at h5
  · rintro m τ ⟨hI, hP⟩
    exact Or.inl ⟨τ, hI, hx m τ hI, hP⟩
theorem FstS.conv {α : Type} {e : Nat} {p p' : Nat → Prop} {I : St → Prop} {R : α} {X X' : Nat → St → α} {Y Y' : St → α} (h : FstS e p I R X Y) (hp : ∀ i, i < e → (p i ↔ p' i)) (hX : ∀ i τ, i < e → X i τ = X' i τ) (hY : ∀ τ, Y τ = Y' τ) : FstS e p' I R X' Y' := by
  rcases h with ⟨τ, a, b, c⟩ | ⟨i, τ, a, b, c, d, f⟩
  · exact Or.inl ⟨τ, a, by rw [b, hY], fun i hi h => c i hi ((hp i hi).mpr h)⟩
  · exact Or.inr ⟨i, τ, a, (hp i a).mp b, fun i' hi' h => c i' hi' ((hp i' (by omega)).mpr h), d, by rw [f, hX i τ a]⟩
noncomputable def ends (n t : Nat) (ch : Nat → Nat) (l : Nat) : Nat := if dB (∃ i, i < t ∧ ch i = l) = true then n else 1
theorem ends_le {n t l : Nat} {ch : Nat → Nat} (h : 2 ≤ n) : 1 ≤ ends n t ch l ∧ ends n t ch l ≤ n := by unfold ends; split <;> omega
theorem hasCh_ok {σ : St} {t l : Nat} {ch : Nat → Nat} (ct : CT σ t ch) (hl : l < 200) : f_Tape_hasCharacter σ (nI l) = some (bI (dB (∃ i, i < t ∧ ch i = l))) := by
  have ht := ct.1
  unfold f_Tape_hasCharacter
  have key : ∀ m i, i < t → f_Tape_hasCharacter_L2 (nI l) σ (m + 1) (nI i) = if ch i = l then some 1 else f_Tape_hasCharacter_L2 (nI l) σ m (nI (i + 1)) := by
    intro m i hi
    have h200 := ch_lt (ct.ch hi)
    rw [f_Tape_hasCharacter_L2.eq_2]
    rw [ct.2.1, if_pos (nI_lt hi (by omega)), if_pos (show nI i < 40 from nI_lt (show i < 40 by omega) (by decide)), ald_nI (by omega) (by decide), ct.2.2.1 i hi, nI_1]
    simp (disch := omega) only [eq_nI]
  refine (loop_all (fun m i => f_Tape_hasCharacter_L2 (nI l) σ m (nI i)) t (fun i => ¬ ch i = l) (some 1) (some 0) (by omega) ?_ ?_ ?_).trans ?_
  · intro m i hi hp
    show f_Tape_hasCharacter_L2 (nI l) σ (m + 1) (nI i) = _
    rw [key m i hi, if_neg hp]
  · intro m i hi hp
    show f_Tape_hasCharacter_L2 (nI l) σ (m + 1) (nI i) = _
    rw [key m i hi, if_pos (Classical.byContradiction hp)]
  · intro m
    show f_Tape_hasCharacter_L2 (nI l) σ (m + 1) (nI t) = _
    rw [f_Tape_hasCharacter_L2.eq_2]
    rw [ct.2.1, if_neg (nI_nlt (Nat.le_refl _) (by omega))]
  · by_cases h : ∃ i, i < t ∧ ch i = l
    · obtain ⟨i, h1, h2⟩ := h
      rw [dB_f (fun h => h i h1 h2), dB_t ⟨i, h1, h2⟩]; rfl
    · rw [dB_t (fun i hi he => h ⟨i, hi, he⟩), dB_f h]; rfl
theorem valOf_ok {σ : St} {t l n : Nat} {ch : Nat → Nat} (mc : MC σ t ch) (hl : l < 200) : f_R_valuesOf σ (nI l) (nI n) = some (nI (ends n t ch l)) := by
  have ht := mc.1
  unfold f_R_valuesOf
  obtain ⟨x, h1, h2⟩ := loop_acc (fun m i (x : Nat) => f_R_valuesOf_L5 (nI l) (nI n) σ (fun v => some v) m (nI x) (nI i)) t (fun i x => if ch i = l then n else x) (fun x => some (nI x)) (fun i x => x = ends n i ch l) (by omega) 1 (by unfold ends; rw [dB_f (fun ⟨i, hi, _⟩ => by omega)]; rfl) (by
    intro m i x hi _
    show f_R_valuesOf_L5 (nI l) (nI n) σ _ (m + 1) (nI x) (nI i) = _
    have h200 := ch_lt (mc.ch hi)
    rw [f_R_valuesOf_L5.eq_2]
    rw [mc.2.1, if_pos (nI_lt hi (by omega)), ald_nI (by omega) (by decide), mc.2.2.1 i hi, nI_1]
    simp only [jn_eq]
    simp (disch := omega) only [eq_nI]
    split <;> rfl) (by
    intro i x hi hx
    show (if ch i = l then n else x) = _
    rw [hx]
    unfold ends
    by_cases h : ch i = l
    · rw [if_pos h, dB_t ⟨i, by omega, h⟩]; rfl
    · rw [if_neg h]
      congr 2
      apply dB_cong
      constructor
      · rintro ⟨k, h1, h2⟩; exact ⟨k, by omega, h2⟩
      · rintro ⟨k, h1, h2⟩
        refine ⟨k, ?_, h2⟩
        have : k ≠ i := fun e => h (by rw [← e]; exact h2)
        omega) (by
    intro m x hx
    show f_R_valuesOf_L5 (nI l) (nI n) σ _ (m + 1) (nI x) (nI t) = _
    rw [f_R_valuesOf_L5.eq_2]
    rw [mc.2.1, if_neg (nI_nlt (Nat.le_refl _) (by omega))])
  rw [← h1]
  exact h2
def bkI (S : Nat → Nat → Nat) (ch : Nat → Nat) (t nx ny i : Nat) : Prop := ¬ HB S ch t (i % nx) (i / nx % ny) (i / nx / ny)
def bkX (n nx ny i : Nat) : Nat := i % nx + n * (i / nx % ny) + n * n * (i / nx / ny)
theorem idx3b {nx ny x y z : Nat} (hx : x < nx) (hy : y < ny) : (nx * ny * z + (nx * y + x)) % nx = x ∧ (nx * ny * z + (nx * y + x)) / nx % ny = y ∧ (nx * ny * z + (nx * y + x)) / nx / ny = z := by
  have h0 : nx > 0 := by omega
  have h1 : ny > 0 := by omega
  rw [show nx * ny * z + (nx * y + x) = nx * (ny * z + y) + x by rw [Nat.mul_add, Nat.mul_assoc, Nat.add_assoc]]
  rw [Nat.mul_add_div h0, Nat.div_eq_of_lt hx, Nat.add_zero]
  refine ⟨?_, ?_, ?_⟩
  · rw [Nat.mul_add_mod, Nat.mod_eq_of_lt hx]
  · rw [Nat.mul_add_mod, Nat.mod_eq_of_lt hy]
  · rw [Nat.mul_add_div h1, Nat.div_eq_of_lt hy, Nat.add_zero]
theorem cbrk75 {σ : St} {k n t nx ny nz : Nat} {B : Bd} {ch : Nat → Nat} (ct : CT σ t ch) (hG : GOK σ k n B) (hk : 13 < k) (hs : SQ n B) (hok : okT t ch) (hx : nx ≤ n) (hy : ny ≤ n) (hz : nz ≤ n) {y z : Nat} (hy' : y < ny) (hz' : z < nz) (kA : Int32 → St → Option (Int32 × St)) (kB : St → Option (Int32 × St)) : ∀ τ, Frx 13 σ τ → FstS nx (fun x => ¬ HB (sg B) ch t x y z) (Frx 13 σ) (f_Tape_firstBreak_L75 k (nI n) (nI nx) (nI ny) (nI nz) (nI z) (nI y) kA kB FU 0 τ) (fun x τ => kA (nI x) τ) kB := by
  have hn := hG.le
  refine fstS_loop (fun m i τ => f_Tape_firstBreak_L75 k (nI n) (nI nx) (nI ny) (nI nz) (nI z) (nI y) kA kB m (nI i) τ) nx (fun x => ¬ HB (sg B) ch t x y z) (Frx 13 σ) (fun x τ => kA (nI x) τ) kB (by omega) ?_ ?_ ?_
  · intro m x τ hx' hI hp
    have hp := Classical.byContradiction hp
    have ctτ : CT τ t ch := ⟨ct.1, by rw [hI 10 (by omega)]; exact ct.2.1, fun i hi => by rw [hI 11 (by omega)]; exact ct.2.2.1 i hi, ct.2.2.2⟩
    obtain ⟨υ, e, f⟩ := holds_ok ctτ (hG.frame (fun m a b => hI m (by omega))) hk hs hok (show x < n by omega) (show y < n by omega) (show z < n by omega)
    refine ⟨υ, fun m hm => (f m hm).trans (hI m hm), ?_⟩
    show f_Tape_firstBreak_L75 k (nI n) (nI nx) (nI ny) (nI nz) (nI z) (nI y) kA kB (m + 1) (nI x) τ = _
    rw [f_Tape_firstBreak_L75.eq_2]
    rw [if_pos (nI_lt hx' (by omega)), e, cal_some, dB_t hp, if_neg (by decide), nI_1]
  · intro m x τ hx' hI hp
    have ctτ : CT τ t ch := ⟨ct.1, by rw [hI 10 (by omega)]; exact ct.2.1, fun i hi => by rw [hI 11 (by omega)]; exact ct.2.2.1 i hi, ct.2.2.2⟩
    obtain ⟨υ, e, f⟩ := holds_ok ctτ (hG.frame (fun m a b => hI m (by omega))) hk hs hok (show x < n by omega) (show y < n by omega) (show z < n by omega)
    refine ⟨υ, fun m hm => (f m hm).trans (hI m hm), ?_⟩
    show f_Tape_firstBreak_L75 k (nI n) (nI nx) (nI ny) (nI nz) (nI z) (nI y) kA kB (m + 1) (nI x) τ = _
    rw [f_Tape_firstBreak_L75.eq_2]
    rw [if_pos (nI_lt hx' (by omega)), e, cal_some, dB_f hp, if_pos (by rfl)]
  · intro m τ hI
    show f_Tape_firstBreak_L75 k (nI n) (nI nx) (nI ny) (nI nz) (nI z) (nI y) kA kB (m + 1) (nI nx) τ = _
    rw [f_Tape_firstBreak_L75.eq_2]
    rw [if_neg (nI_nlt (Nat.le_refl _) (by omega))]
theorem cbrk65 {σ : St} {k n t nx ny nz : Nat} {B : Bd} {ch : Nat → Nat} (ct : CT σ t ch) (hG : GOK σ k n B) (hk : 13 < k) (hs : SQ n B) (hok : okT t ch) (hx : nx ≤ n) (hy : ny ≤ n) (hz : nz ≤ n) {z : Nat} (hz' : z < nz) (kA : Int32 → Int32 → St → Option (Int32 × St)) (kB : St → Option (Int32 × St)) : ∀ τ, Frx 13 σ τ → FstS (nx * ny) (fun q => ¬ HB (sg B) ch t (q % nx) (q / nx) z) (Frx 13 σ) (f_Tape_firstBreak_L65 k (nI n) (nI nx) (nI ny) (nI nz) (nI z) kA kB FU 0 τ) (fun q τ => kA (nI (q / nx)) (nI (q % nx)) τ) kB := by
  have hn := hG.le
  refine fstS_nest (fun m i τ => f_Tape_firstBreak_L65 k (nI n) (nI nx) (nI ny) (nI nz) (nI z) kA kB m (nI i) τ) ny nx (fun q => ¬ HB (sg B) ch t (q % nx) (q / nx) z) (Frx 13 σ) (fun q τ => kA (nI (q / nx)) (nI (q % nx)) τ) kB (by omega) ?_ ?_
  · intro m y τ hy' hI
    have hd : ∀ x, x < nx → (nx * y + x) % nx = x ∧ (nx * y + x) / nx = y := fun x hx => ⟨by rw [Nat.mul_add_mod, Nat.mod_eq_of_lt hx], by rw [Nat.mul_add_div (by omega), Nat.div_eq_of_lt hx, Nat.add_zero]⟩
    show FstS _ _ _ (f_Tape_firstBreak_L65 k (nI n) (nI nx) (nI ny) (nI nz) (nI z) kA kB (m + 1) (nI y) τ) _ _
    rw [f_Tape_firstBreak_L65.eq_2]
    rw [if_pos (nI_lt hy' (by omega))]
    refine (cbrk75 ct hG hk hs hok hx hy hz hy' hz' (fun v8 σ => kA (nI y) v8 σ) (fun σ => f_Tape_firstBreak_L65 k (nI n) (nI nx) (nI ny) (nI nz) (nI z) kA kB m (nI y + 1) σ) τ hI).conv (fun x hx => ?_) (fun x υ hx => ?_) (fun υ => ?_)
    · rw [(hd x hx).1, (hd x hx).2]
    · rw [(hd x hx).1, (hd x hx).2]
    · rw [nI_1]
  · intro m τ hI
    show f_Tape_firstBreak_L65 k (nI n) (nI nx) (nI ny) (nI nz) (nI z) kA kB (m + 1) (nI ny) τ = _
    rw [f_Tape_firstBreak_L65.eq_2]
    rw [if_neg (nI_nlt (Nat.le_refl _) (by omega))]
theorem cbrk55 {σ : St} {k n t nx ny nz : Nat} {B : Bd} {ch : Nat → Nat} (ct : CT σ t ch) (hG : GOK σ k n B) (hk : 13 < k) (hs : SQ n B) (hok : okT t ch) (hx : nx ≤ n) (hy : ny ≤ n) (hz : nz ≤ n) (kA : Int32 → Int32 → Int32 → St → Option (Int32 × St)) : ∀ τ, Frx 13 σ τ → FstS (nx * ny * nz) (bkI (sg B) ch t nx ny) (Frx 13 σ) (f_Tape_firstBreak_L55 k (nI n) (nI nx) (nI ny) (nI nz) kA FU 0 τ) (fun i τ => kA (nI (i / nx / ny)) (nI (i / nx % ny)) (nI (i % nx)) τ) (fun τ => some (-1, τ)) := by
  have hn := hG.le
  refine fstS_nest (fun m i τ => f_Tape_firstBreak_L55 k (nI n) (nI nx) (nI ny) (nI nz) kA m (nI i) τ) nz (nx * ny) (bkI (sg B) ch t nx ny) (Frx 13 σ) (fun i τ => kA (nI (i / nx / ny)) (nI (i / nx % ny)) (nI (i % nx)) τ) (fun τ => some (-1, τ)) (by omega) ?_ ?_
  · intro m z τ hz' hI
    have hd : ∀ i, i < nx * ny → (nx * ny * z + i) % nx = i % nx ∧ (nx * ny * z + i) / nx % ny = i / nx ∧ (nx * ny * z + i) / nx / ny = z := by
      intro i hi
      have h0 : nx > 0 := Nat.pos_of_ne_zero (fun e => by subst e; omega)
      have := idx3b (z := z) (Nat.mod_lt i h0) (Nat.div_lt_of_lt_mul hi)
      rwa [Nat.div_add_mod] at this
    show FstS _ _ _ (f_Tape_firstBreak_L55 k (nI n) (nI nx) (nI ny) (nI nz) kA (m + 1) (nI z) τ) _ _
    rw [f_Tape_firstBreak_L55.eq_2]
    rw [if_pos (nI_lt hz' (by omega))]
    refine (cbrk65 ct hG hk hs hok hx hy hz hz' (fun v7 v8 σ => kA (nI z) v7 v8 σ) (fun σ => f_Tape_firstBreak_L55 k (nI n) (nI nx) (nI ny) (nI nz) kA m (nI z + 1) σ) τ hI).conv (fun i hi => ?_) (fun i υ hi => ?_) (fun υ => ?_)
    · unfold bkI
      rw [(hd i hi).1, (hd i hi).2.1, (hd i hi).2.2]
    · rw [(hd i hi).1, (hd i hi).2.1, (hd i hi).2.2]
    · rw [nI_1]
  · intro m τ hI
    show f_Tape_firstBreak_L55 k (nI n) (nI nx) (nI ny) (nI nz) kA (m + 1) (nI nz) τ = _
    rw [f_Tape_firstBreak_L55.eq_2]
    rw [if_neg (nI_nlt (Nat.le_refl _) (by omega))]
theorem pick {α : Type} (b : Bool) (n : Nat) (X : Int32 → α) : (if bI b = 0 then X 1 else X (nI n)) = X (nI (if b = true then n else 1)) := by cases b <;> rfl
theorem break_ok {σ : St} {k n t : Nat} {B : Bd} {ch : Nat → Nat} (ct : CT σ t ch) (hG : GOK σ k n B) (hk : 13 < k) (hs : SQ n B) (hok : okT t ch) : FstS (ends n t ch 120 * ends n t ch 121 * ends n t ch 122) (bkI (sg B) ch t (ends n t ch 120) (ends n t ch 121)) (Frx 13 σ) (f_Tape_firstBreak σ k) (fun i τ => some (nI (bkX n (ends n t ch 120) (ends n t ch 121) i), τ)) (fun τ => some (-1, τ)) := by
  have hn := hG.le
  have hx := ends_le (t := t) (ch := ch) (l := 120) hn.1
  have hy := ends_le (t := t) (ch := ch) (l := 121) hn.1
  have hz := ends_le (t := t) (ch := ch) (l := 122) hn.1
  have e0 : f_Tape_firstBreak σ k = f_Tape_firstBreak_L55 k (nI n) (nI (ends n t ch 120)) (nI (ends n t ch 121)) (nI (ends n t ch 122)) (fun (v6_23 : Int32) (v7_24 : Int32) (v8_25 : Int32) (σ_26 : St) => some (((v8_25 + (nI n * v7_24)) + ((nI n * nI n) * v6_23)), σ_26)) FU 0 σ := by
    unfold f_Tape_firstBreak ends
    rw [hG.ord, show (120 : Int32) = nI 120 from rfl, show (121 : Int32) = nI 121 from rfl, show (122 : Int32) = nI 122 from rfl, hasCh_ok ct (by omega), cap_some, jn_eq]
    refine (pick _ n (fun (s_4 : Int32) => cap (f_Tape_hasCharacter σ (nI 121)) fun r_6 => jn (fun (s_8 : Int32) => cap (f_Tape_hasCharacter σ (nI 122)) fun r_10 => jn (fun (s_12 : Int32) => f_Tape_firstBreak_L55 k (nI n) s_4 s_8 s_12 (fun (v6_23 : Int32) (v7_24 : Int32) (v8_25 : Int32) (σ_26 : St) => some (((v8_25 + (nI n * v7_24)) + ((nI n * nI n) * v6_23)), σ_26)) FU 0 σ) fun j50_11 => if r_10 = 0 then j50_11 1 else j50_11 (nI n)) fun j34_7 => if r_6 = 0 then j34_7 1 else j34_7 (nI n))).trans ?_
    show cap (f_Tape_hasCharacter σ (nI 121)) _ = _
    rw [hasCh_ok ct (by omega), cap_some, jn_eq]
    refine (pick _ n (fun (s_8 : Int32) => cap (f_Tape_hasCharacter σ (nI 122)) fun r_10 => jn (fun (s_12 : Int32) => f_Tape_firstBreak_L55 k (nI n) _ s_8 s_12 (fun (v6_23 : Int32) (v7_24 : Int32) (v8_25 : Int32) (σ_26 : St) => some (((v8_25 + (nI n * v7_24)) + ((nI n * nI n) * v6_23)), σ_26)) FU 0 σ) fun j50_11 => if r_10 = 0 then j50_11 1 else j50_11 (nI n))).trans ?_
    show cap (f_Tape_hasCharacter σ (nI 122)) _ = _
    rw [hasCh_ok ct (by omega), cap_some, jn_eq]
    exact pick _ n (fun (s_12 : Int32) => f_Tape_firstBreak_L55 k (nI n) _ _ s_12 (fun (v6_23 : Int32) (v7_24 : Int32) (v8_25 : Int32) (σ_26 : St) => some (((v8_25 + (nI n * v7_24)) + ((nI n * nI n) * v6_23)), σ_26)) FU 0 σ)
  rw [e0]
  refine (cbrk55 ct hG hk hs hok hx.2 hy.2 hz.2 _ σ (fun m _ => rfl)).conv (fun i _ => Iff.rfl) (fun i τ _ => ?_) (fun τ => rfl)
  unfold bkX
  rw [nI_mul, nI_add, nI_mul, nI_mul, nI_add]
theorem rbrk75 {σ : St} {M : Nat} {N : Nat → Nat} {B : Nat → Bd} {j t n nx ny nz : Nat} {ch : Nat → Nat} (mw : MW σ M N B) (hj : j < M) (hnN : N j = n) (mc : MC σ t ch) (hs : SQ (N j) (B j)) (hok : okT t ch) (hx : nx ≤ n) (hy : ny ≤ n) (hz : nz ≤ n) (v120 : ∀ τ, Frx 87 σ τ → f_R_valuesOf τ 120 (nI n) = some (nI nx)) (v121 : ∀ τ, Frx 87 σ τ → f_R_valuesOf τ 121 (nI n) = some (nI ny)) (v122 : ∀ τ, Frx 87 σ τ → f_R_valuesOf τ 122 (nI n) = some (nI nz)) {y z : Nat} (hy' : y < ny) (hz' : z < nz) (kA : Int32 → St → Option (Int32 × St)) (kB : St → Option (Int32 × St)) : ∀ τ, Frx 87 σ τ → FstS nx (fun x => ¬ HB (sg (B j)) ch t x y z) (Frx 87 σ) (f_R_breaks_L100 (nI j) (nI n) (nI z) (nI y) kA kB FU 0 τ) (fun x τ => kA (nI x) τ) kB := by
  have hn := mw.n hj
  refine fstS_loop (fun m i τ => f_R_breaks_L100 (nI j) (nI n) (nI z) (nI y) kA kB m (nI i) τ) nx (fun x => ¬ HB (sg (B j)) ch t x y z) (Frx 87 σ) (fun x τ => kA (nI x) τ) kB (by omega) ?_ ?_ ?_
  · intro m x τ hx' hI hp
    have hp := Classical.byContradiction hp
    have hm : FrM σ τ := ⟨fun m hm => hI m (by omega), by rw [hI 82 (by omega)], by rw [hI 82 (by omega)]⟩
    obtain ⟨υ, e, f⟩ := rholds_ok (mw.fr hm) hj (mc.fr hm) hs hok (show x < N j by omega) (show y < N j by omega) (show z < N j by omega)
    refine ⟨υ, fun m hm => (f m hm).trans (hI m hm), ?_⟩
    show f_R_breaks_L100 (nI j) (nI n) (nI z) (nI y) kA kB (m + 1) (nI x) τ = _
    rw [f_R_breaks_L100.eq_2]
    rw [v120 τ hI, cap_some, if_pos (nI_lt hx' (by omega)), e, cal_some, dB_t hp, if_neg (by decide), nI_1]
  · intro m x τ hx' hI hp
    have hm : FrM σ τ := ⟨fun m hm => hI m (by omega), by rw [hI 82 (by omega)], by rw [hI 82 (by omega)]⟩
    obtain ⟨υ, e, f⟩ := rholds_ok (mw.fr hm) hj (mc.fr hm) hs hok (show x < N j by omega) (show y < N j by omega) (show z < N j by omega)
    refine ⟨υ, fun m hm => (f m hm).trans (hI m hm), ?_⟩
    show f_R_breaks_L100 (nI j) (nI n) (nI z) (nI y) kA kB (m + 1) (nI x) τ = _
    rw [f_R_breaks_L100.eq_2]
    rw [v120 τ hI, cap_some, if_pos (nI_lt hx' (by omega)), e, cal_some, dB_f hp, if_pos (by rfl)]
  · intro m τ hI
    show f_R_breaks_L100 (nI j) (nI n) (nI z) (nI y) kA kB (m + 1) (nI nx) τ = _
    rw [f_R_breaks_L100.eq_2]
    rw [v120 τ hI, cap_some, if_neg (nI_nlt (Nat.le_refl _) (by omega))]
theorem rbrk65 {σ : St} {M : Nat} {N : Nat → Nat} {B : Nat → Bd} {j t n nx ny nz : Nat} {ch : Nat → Nat} (mw : MW σ M N B) (hj : j < M) (hnN : N j = n) (mc : MC σ t ch) (hs : SQ (N j) (B j)) (hok : okT t ch) (hx : nx ≤ n) (hy : ny ≤ n) (hz : nz ≤ n) (v120 : ∀ τ, Frx 87 σ τ → f_R_valuesOf τ 120 (nI n) = some (nI nx)) (v121 : ∀ τ, Frx 87 σ τ → f_R_valuesOf τ 121 (nI n) = some (nI ny)) (v122 : ∀ τ, Frx 87 σ τ → f_R_valuesOf τ 122 (nI n) = some (nI nz)) {z : Nat} (hz' : z < nz) (kA : Int32 → Int32 → St → Option (Int32 × St)) (kB : St → Option (Int32 × St)) : ∀ τ, Frx 87 σ τ → FstS (nx * ny) (fun q => ¬ HB (sg (B j)) ch t (q % nx) (q / nx) z) (Frx 87 σ) (f_R_breaks_L85 (nI j) (nI n) (nI z) kA kB FU 0 τ) (fun q τ => kA (nI (q / nx)) (nI (q % nx)) τ) kB := by
  have hn := mw.n hj
  refine fstS_nest (fun m i τ => f_R_breaks_L85 (nI j) (nI n) (nI z) kA kB m (nI i) τ) ny nx (fun q => ¬ HB (sg (B j)) ch t (q % nx) (q / nx) z) (Frx 87 σ) (fun q τ => kA (nI (q / nx)) (nI (q % nx)) τ) kB (by omega) ?_ ?_
  · intro m y τ hy' hI
    have hd : ∀ x, x < nx → (nx * y + x) % nx = x ∧ (nx * y + x) / nx = y := fun x hx => ⟨by rw [Nat.mul_add_mod, Nat.mod_eq_of_lt hx], by rw [Nat.mul_add_div (by omega), Nat.div_eq_of_lt hx, Nat.add_zero]⟩
    show FstS _ _ _ (f_R_breaks_L85 (nI j) (nI n) (nI z) kA kB (m + 1) (nI y) τ) _ _
    rw [f_R_breaks_L85.eq_2]
    rw [v121 τ hI, cap_some, if_pos (nI_lt hy' (by omega))]
    refine (rbrk75 mw hj hnN mc hs hok hx hy hz v120 v121 v122 hy' hz' (fun v8 σ => kA (nI y) v8 σ) (fun σ => f_R_breaks_L85 (nI j) (nI n) (nI z) kA kB m (nI y + 1) σ) τ hI).conv (fun x hx => ?_) (fun x υ hx => ?_) (fun υ => ?_)
    · rw [(hd x hx).1, (hd x hx).2]
    · rw [(hd x hx).1, (hd x hx).2]
    · rw [nI_1]
  · intro m τ hI
    show f_R_breaks_L85 (nI j) (nI n) (nI z) kA kB (m + 1) (nI ny) τ = _
    rw [f_R_breaks_L85.eq_2]
    rw [v121 τ hI, cap_some, if_neg (nI_nlt (Nat.le_refl _) (by omega))]
theorem rbrk55 {σ : St} {M : Nat} {N : Nat → Nat} {B : Nat → Bd} {j t n nx ny nz : Nat} {ch : Nat → Nat} (mw : MW σ M N B) (hj : j < M) (hnN : N j = n) (mc : MC σ t ch) (hs : SQ (N j) (B j)) (hok : okT t ch) (hx : nx ≤ n) (hy : ny ≤ n) (hz : nz ≤ n) (v120 : ∀ τ, Frx 87 σ τ → f_R_valuesOf τ 120 (nI n) = some (nI nx)) (v121 : ∀ τ, Frx 87 σ τ → f_R_valuesOf τ 121 (nI n) = some (nI ny)) (v122 : ∀ τ, Frx 87 σ τ → f_R_valuesOf τ 122 (nI n) = some (nI nz)) (kA : Int32 → Int32 → Int32 → St → Option (Int32 × St)) : ∀ τ, Frx 87 σ τ → FstS (nx * ny * nz) (bkI (sg (B j)) ch t nx ny) (Frx 87 σ) (f_R_breaks_L71 (nI j) (nI n) kA FU 0 τ) (fun i τ => kA (nI (i / nx / ny)) (nI (i / nx % ny)) (nI (i % nx)) τ) (fun τ => some (-1, τ)) := by
  have hn := mw.n hj
  refine fstS_nest (fun m i τ => f_R_breaks_L71 (nI j) (nI n) kA m (nI i) τ) nz (nx * ny) (bkI (sg (B j)) ch t nx ny) (Frx 87 σ) (fun i τ => kA (nI (i / nx / ny)) (nI (i / nx % ny)) (nI (i % nx)) τ) (fun τ => some (-1, τ)) (by omega) ?_ ?_
  · intro m z τ hz' hI
    have hd : ∀ i, i < nx * ny → (nx * ny * z + i) % nx = i % nx ∧ (nx * ny * z + i) / nx % ny = i / nx ∧ (nx * ny * z + i) / nx / ny = z := by
      intro i hi
      have h0 : nx > 0 := Nat.pos_of_ne_zero (fun e => by subst e; omega)
      have := idx3b (z := z) (Nat.mod_lt i h0) (Nat.div_lt_of_lt_mul hi)
      rwa [Nat.div_add_mod] at this
    show FstS _ _ _ (f_R_breaks_L71 (nI j) (nI n) kA (m + 1) (nI z) τ) _ _
    rw [f_R_breaks_L71.eq_2]
    rw [v122 τ hI, cap_some, if_pos (nI_lt hz' (by omega))]
    refine (rbrk65 mw hj hnN mc hs hok hx hy hz v120 v121 v122 hz' (fun v7 v8 σ => kA (nI z) v7 v8 σ) (fun σ => f_R_breaks_L71 (nI j) (nI n) kA m (nI z + 1) σ) τ hI).conv (fun i hi => ?_) (fun i υ hi => ?_) (fun υ => ?_)
    · unfold bkI
      rw [(hd i hi).1, (hd i hi).2.1, (hd i hi).2.2]
    · rw [(hd i hi).1, (hd i hi).2.1, (hd i hi).2.2]
    · rw [nI_1]
  · intro m τ hI
    show f_R_breaks_L71 (nI j) (nI n) kA (m + 1) (nI nz) τ = _
    rw [f_R_breaks_L71.eq_2]
    rw [v122 τ hI, cap_some, if_neg (nI_nlt (Nat.le_refl _) (by omega))]
theorem rbreak_ok {σ : St} {M : Nat} {N : Nat → Nat} {B : Nat → Bd} (mw : MW σ M N B) {j t : Nat} (hj : j < M) {ch : Nat → Nat} (mc : MC σ t ch) (hs : SQ (N j) (B j)) (hok : okT t ch) (n : Nat) (hnN : N j = n) : FstS (ends n t ch 120 * ends n t ch 121 * ends n t ch 122) (bkI (sg (B j)) ch t (ends n t ch 120) (ends n t ch 121)) (Frx 87 σ) (f_R_breaks_L71 (nI j) (nI n) (fun (v3_26 : Int32) (v4_27 : Int32) (v5_28 : Int32) (σ_29 : St) => some (((v5_28 + (nI n * v4_27)) + ((nI n * nI n) * v3_26)), σ_29)) FU 0 σ) (fun i τ => some (nI (bkX n (ends n t ch 120) (ends n t ch 121) i), τ)) (fun τ => some (-1, τ)) := by
  have hn := mw.n hj
  rw [hnN] at hn
  have hx := ends_le (t := t) (ch := ch) (l := 120) hn.1
  have hy := ends_le (t := t) (ch := ch) (l := 121) hn.1
  have hz := ends_le (t := t) (ch := ch) (l := 122) hn.1
  have v0 : ∀ l τ, l < 200 → Frx 87 σ τ → f_R_valuesOf τ (nI l) (nI n) = some (nI (ends n t ch l)) := fun l τ hl hI => valOf_ok (mc.fr ⟨fun m hm => hI m (by omega), by rw [hI 82 (by omega)], by rw [hI 82 (by omega)]⟩) hl
  refine (rbrk55 mw hj hnN mc hs hok hx.2 hy.2 hz.2 (fun τ => v0 120 τ (by omega)) (fun τ => v0 121 τ (by omega)) (fun τ => v0 122 τ (by omega)) _ σ (fun m _ => rfl)).conv (fun i _ => Iff.rfl) (fun i τ _ => ?_) (fun τ => rfl)
  unfold bkX
  rw [nI_mul, nI_add, nI_mul, nI_mul, nI_add]
theorem MC.tr {σ σ1 : St} {t t' : Nat} {ch ch' : Nat → Nat} (h : CT σ t ch) (h' : CT σ t' ch') (m : MC σ1 t' ch') : MC σ1 t ch := by
  have e : t' = t := by
    have h1 := h.2.1
    rw [h'.2.1, eq_nI (by have := h'.1; omega) (by have := h.1; omega)] at h1
    exact h1
  subst e
  refine ⟨h.1, m.2.1, fun i hi => ?_, h.2.2.2⟩
  rw [m.2.2.1 i hi, ← h'.2.2.1 i hi, h.2.2.1 i hi]
theorem ok_breaks : Ok_breaks Inv := by
  intro σ hI p0
  refine op_rd hI (Q := fun σ => f_Q_breaks σ p0) (R := fun σ => f_R_breaks σ p0) (fun M N B cw mt ct => ?_)
  have hM12 := cw.le
  obtain ⟨t, ch, ct⟩ := ct
  rcases g_cases M cw.le p0 with ⟨j, hj, rfl⟩ | hx
  · have hG := cw.g hj
    have hn := hG.le
    obtain ⟨v, σ', e, hP, f⟩ := cfault_ok ct
    have fc : FrC σ σ' := fun m hm => f m (by unfold scr at hm; omega)
    have cw' := cw.fr fc
    have ct' := ct.fr fc
    have hG' := cw'.g hj
    have hiff := okT_iff hP ct.1
    have q0 : f_Q_breaks σ (nI j) = if v = -1 then cap (f_Grid_isSquare σ' (gid j)) fun r_13 => cax (f_Q_needState σ' r_13) fun r_15 σ_16 => cal (f_Tape_firstBreak σ_16 (gid j)) fun r_18 σ_19 => some (.ok r_18, σ_19) else some (.error 2, σ') := by
      unfold f_Q_breaks
      rw [gridAt_in cw hj, cax_ok, e, cal_some, jn_eq]
      by_cases h : v = -1
      · rw [if_pos h, if_pos h]
        show cax (f_Q_needArgument σ' 1) _ = _
        rw [nar1, cax_ok]
      · rw [if_neg h, if_neg h]; rfl
    have r0 : ∀ σ1 : St, MW σ1 M N B → MC σ1 t ch → ∃ τ, FrK σ1 τ ∧ τ 82 0 = (if v = -1 then (if full (N j) (B j) = true then 0 else 3) else 2) ∧ f_R_breaks σ1 (nI j) = if τ 82 0 ≤ 0 then f_R_breaks_L71 (nI j) (nI (N j)) (fun (v3_26 : Int32) (v4_27 : Int32) (v5_28 : Int32) (σ_29 : St) => some (((v5_28 + (nI (N j) * v4_27)) + ((nI (N j) * nI (N j)) * v3_26)), σ_29)) FU 0 τ else some (0, τ) := by
      intro σ1 mw mc
      have hM := mw.le
      obtain ⟨v', τ, e2, hP2, f2⟩ := rfault_ok mc
      have hv := hP.uniq hP2
      subst hv
      have hk : FrK σ1 τ := ⟨fun m hm => f2 m (by omega), fun s _ => by rw [f2 82 (by omega)]⟩
      unfold f_R_breaks
      rw [rgrid_in mw hj, cap_some, jn_eq, if_neg (show ¬ (1 : Int32) = 0 by decide), e2, cal_some]
      by_cases h : v = -1
      · refine ⟨wr (wr τ 82 0 0) 82 0 (if full (N j) (B j) = true then 0 else 3), (hk.trans FrK.t).trans FrK.t, by rw [wr_at, if_pos h], ?_⟩
        rw [if_pos h]
        show sto τ 82 0 0 _ = _
        rw [sto_eq, jn_eq, wr_at, if_pos rfl, rsq_ok ((mw.k hk).k FrK.t) hj, cap_some, jn_eq]
        have key : ∀ s : Int32, (sto (wr τ 82 0 0) 82 0 s fun σ_34 => (fun (σ_8 : St) => if (σ_8 82 0) ≤ 0 then ald σ_8 83 12 (nI j) fun r_9 => f_R_breaks_L71 (nI j) r_9 (fun (v3_26 : Int32) (v4_27 : Int32) (v5_28 : Int32) (σ_29 : St) => some (((v5_28 + (r_9 * v4_27)) + ((r_9 * r_9) * v3_26)), σ_29)) FU 0 σ_8 else some (0, σ_8)) σ_34) = if wr (wr τ 82 0 0) 82 0 s 82 0 ≤ 0 then f_R_breaks_L71 (nI j) (nI (N j)) (fun (v3_26 : Int32) (v4_27 : Int32) (v5_28 : Int32) (σ_29 : St) => some (((v5_28 + (nI (N j) * v4_27)) + ((nI (N j) * nI (N j)) * v3_26)), σ_29)) FU 0 (wr (wr τ 82 0 0) 82 0 s) else some (0, wr (wr τ 82 0 0) 82 0 s) := by
          intro s
          rw [sto_eq]
          show (if wr (wr τ 82 0 0) 82 0 s 82 0 ≤ 0 then ald (wr (wr τ 82 0 0) 82 0 s) 83 12 (nI j) _ else _) = _
          have e83 : wr (wr τ 82 0 0) 82 0 s 83 j = nI (N j) := by rw [wr_fn (by omega), wr_fn (by omega), (mw.k hk).od hj]
          rw [ald_nI (by omega) (by decide), e83]
        cases full (N j) (B j)
        · rw [if_pos (by rfl)]
          exact key 3
        · rw [if_neg (by decide)]
          exact key 0
      · refine ⟨wr τ 82 0 2, hk.trans FrK.t, by rw [wr_at, if_neg h], ?_⟩
        rw [if_neg h]
        show sto τ 82 0 2 _ = _
        rw [sto_eq, jn_eq, wr_at, if_neg (by decide)]
        show (if wr τ 82 0 2 82 0 ≤ 0 then _ else _) = _
        rw [wr_at, if_neg (by decide), if_neg (by decide)]
    by_cases h : v = -1
    · have hok := hiff.mp h
      cases hf : full (N j) (B j)
      · refine rd_err 3 3 (σ' := σ') ?_ fc (by decide) (fun σ1 mw hct => ?_)
        · show f_Q_breaks σ (nI j) = _
          rw [q0, if_pos h, sq_ok hG', hf]
          rfl
        · obtain ⟨t', ch', c1, c2⟩ := hct
          obtain ⟨τ, k, h0, e3⟩ := r0 σ1 mw (c2.tr ct c1)
          rw [if_pos h, hf] at h0
          have h0 : τ 82 0 = 3 := h0
          refine ⟨0, τ, ?_, k, h0⟩
          show f_R_breaks σ1 (nI j) = _
          rw [e3, h0, if_neg (by decide)]
      · have hs := full_sq hG.1 hf
        have hB := break_ok ct' hG' (by unfold gid; omega) hs hok
        have q1 : f_Q_breaks σ (nI j) = cal (f_Tape_firstBreak σ' (gid j)) fun r_18 σ_19 => some (.ok r_18, σ_19) := by
          rw [q0, if_pos h, sq_ok hG', hf, cap_some, nst true, if_pos rfl, cax_ok]
        have r1 : ∀ σ1, MW σ1 M N B → (∃ t ch, CT σ t ch ∧ MC σ1 t ch) → ∃ τ, FrK σ1 τ ∧ τ 82 0 = 0 ∧ f_R_breaks σ1 (nI j) = f_R_breaks_L71 (nI j) (nI (N j)) (fun (v3_26 : Int32) (v4_27 : Int32) (v5_28 : Int32) (σ_29 : St) => some (((v5_28 + (nI (N j) * v4_27)) + ((nI (N j) * nI (N j)) * v3_26)), σ_29)) FU 0 τ ∧ MW τ M N B ∧ MC τ t ch := by
          rintro σ1 mw ⟨t', ch', c1, c2⟩
          obtain ⟨τ, k, h0, e3⟩ := r0 σ1 mw (c2.tr ct c1)
          rw [if_pos h, hf, if_pos rfl] at h0
          refine ⟨τ, k, h0, ?_, mw.k k, (c2.tr ct c1).fr k.m⟩
          rw [e3, h0, if_pos (by decide)]
        have kk : ∀ σ1 τ υ : St, FrK σ1 τ → Frx 87 τ υ → FrK σ1 υ := fun σ1 τ υ k f => k.trans ⟨fun m hm => f m (by omega), fun s _ => by rw [f 82 (by omega)]⟩
        rcases hB with ⟨σ2, i1, i2, i3⟩ | ⟨i, σ2, i1, i2, i3, i4, i5⟩
        · refine rd_ok (-1) (σ' := σ2) ?_ (fc.trans (fun m hm => i1 m (by unfold scr at hm; omega))) (fun σ1 mw ca hct => ?_)
          · show f_Q_breaks σ (nI j) = _
            rw [q1, i2, cal_some]
          · obtain ⟨τ, k, h0, e3, mwτ, mcτ⟩ := r1 σ1 mw hct
            rcases rbreak_ok mwτ hj mcτ hs hok (N j) rfl with ⟨υ, j1, j2, j3⟩ | ⟨i, υ, j1, j2, j3, j4, j5⟩
            · have k2 := kk σ1 τ υ k j1
              refine ⟨υ, ?_, k2.m, k2.ca ca, by rw [j1 82 (by omega)]; exact h0⟩
              show f_R_breaks σ1 (nI j) = _
              rw [e3, j2]
            · exact absurd j2 (i3 i j1)
        · refine rd_ok (nI (bkX (N j) (ends (N j) t ch 120) (ends (N j) t ch 121) i)) (σ' := σ2) ?_ (fc.trans (fun m hm => i4 m (by unfold scr at hm; omega))) (fun σ1 mw ca hct => ?_)
          · show f_Q_breaks σ (nI j) = _
            rw [q1, i5, cal_some]
          · obtain ⟨τ, k, h0, e3, mwτ, mcτ⟩ := r1 σ1 mw hct
            rcases rbreak_ok mwτ hj mcτ hs hok (N j) rfl with ⟨υ, j1, j2, j3⟩ | ⟨i', υ, j1, j2, j3, j4, j5⟩
            · exact absurd i2 (j3 i i1)
            · have : i' = i := by
                rcases Nat.lt_trichotomy i i' with h | h | h
                · exact absurd i2 (j3 i h)
                · exact h.symm
                · exact absurd j2 (i3 i' h)
              subst this
              have k2 := kk σ1 τ υ k j4
              refine ⟨υ, ?_, k2.m, k2.ca ca, by rw [j4 82 (by omega)]; exact h0⟩
              show f_R_breaks σ1 (nI j) = _
              rw [e3, j5]
    · refine rd_err 2 2 (σ' := σ') ?_ fc (by decide) (fun σ1 mw hct => ?_)
      · show f_Q_breaks σ (nI j) = _
        rw [q0, if_neg h]
      · obtain ⟨t', ch', c1, c2⟩ := hct
        obtain ⟨τ, k, h0, e3⟩ := r0 σ1 mw (c2.tr ct c1)
        rw [if_neg h] at h0
        refine ⟨0, τ, ?_, k, h0⟩
        show f_R_breaks σ1 (nI j) = _
        rw [e3, h0, if_neg (by decide)]
  · refine rd_err 1 1 (σ' := σ) ?_ (FrC.refl σ) (by decide) (fun σ1 mw _ => ⟨0, wr σ1 82 0 1, ?_, FrK.t, rfl⟩)
    · show f_Q_breaks σ _ = _
      unfold f_Q_breaks
      rw [gridAt_out cw hx, cax_er]
    · show f_R_breaks σ1 _ = _
      unfold f_R_breaks
      rw [rgrid_out mw hx, cap_some, jn_eq, if_pos (by rfl)]
      show sto σ1 82 0 1 _ = _
      rw [sto_eq, jn_eq, wr_at, if_neg (by decide)]
      show (if wr σ1 82 0 1 82 0 ≤ 0 then _ else _) = _
      rw [wr_at, if_neg (by decide)]
