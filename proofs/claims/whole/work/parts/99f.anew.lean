/-! the search by rows -/
def RS (n : Nat) (B C : Bd) (left : Nat → Bool) (t : Int32) : Prop := Wf n C ∧ extB B C ∧ (∀ r, left r = true → r < n ∧ ∀ c, C r c = B r c) ∧ (∀ r c, r < n → c < n → left r = false → C r c ≠ 0) ∧ ∀ k, k < 32 → bt t k = (decide (k < 5 * n) && dB (∃ r, r < n ∧ left r = false ∧ C r (k / 5) = k % 5 + 1))
section AN
variable {σ : St} {n : Nat} {B C : Bd} {left : Nat → Bool} {t : Int32}
theorem and_zero {x y z : Int32} : (x &&& ((y &&& (z ^^^ (-1))) ^^^ (-1)) = 0) ↔ ∀ k, k < 32 → bt x k = true → bt y k = true ∧ bt z k = false := by
  rw [bt_eq]
  constructor
  · intro h k hk hx
    have := h k hk
    rw [bt_and, bt_not _ hk, bt_and, bt_not _ hk, bt_0, hx] at this
    cases hy : bt y k <;> cases hz : bt z k <;> rw [hy, hz] at this <;> simp at this <;> simp
  · intro h k hk
    rw [bt_and, bt_not _ hk, bt_and, bt_not _ hk, bt_0]
    cases hx : bt x k
    · rfl
    · obtain ⟨h1, h2⟩ := h k hk hx
      rw [h1, h2]; rfl
theorem fit_ok (al : ∀ r, r < n → ∀ i, i < 32 → bt (σ 15 r) i = alB n B r i) (h1 : 2 ≤ n) (h2 : n ≤ 5) (hS : RS n B C left t) (hwB : Wf n B) {r m : Nat} (hr : left r = true) (hm : m < facN n) {x : Int32} (hx : ∀ k, k < 32 → bt x k = pB n m k) : f_RowFilling_fits σ (nI r) x t = some (bI (dB (RF n C r (cp m)))) := by
  obtain ⟨hw, hext, hl, hd, ht⟩ := hS
  obtain ⟨hrn, hCB⟩ := hl r hr
  have hp := (cp_pm h1 h2 hm).1
  unfold f_RowFilling_fits
  rw [jn_eq, if_neg (nI_pos (by omega)), if_pos (show nI r < 5 from nI_lt (show r < 5 by omega) (by decide)), ald_nI (by omega) (by decide)]
  have hiff : (x &&& ((σ 15 r &&& (t ^^^ (-1))) ^^^ (-1)) = 0) ↔ RF n C r (cp m) := by
    rw [and_zero]
    have hbit : (∀ k, k < 32 → bt x k = true → bt (σ 15 r) k = true ∧ bt t k = false) ↔ ∀ c, c < n → aP n B r c (cp m c) = true ∧ ¬ ∃ r', r' < n ∧ left r' = false ∧ C r' c = cp m c + 1 := by
      constructor
      · intro h c hc
        have hpc := hp.1 c hc
        have h3 := h (5 * c + cp m c) (by omega) (by rw [hx _ (by omega), pB_at hc (by omega), decide_eq_true rfl])
        rw [al r hrn _ (by omega), ht _ (by omega)] at h3
        unfold alB at h3
        rw [decide_eq_true (by omega : 5 * c + cp m c < 5 * n), Bool.true_and, Bool.true_and, show (5 * c + cp m c) / 5 = c by omega, show (5 * c + cp m c) % 5 = cp m c by omega] at h3
        exact ⟨h3.1, dB_fi.mp h3.2⟩
      · intro h k hk hbk
        rw [hx k hk] at hbk
        unfold pB at hbk
        rw [Bool.and_eq_true, decide_eq_true_iff, decide_eq_true_iff] at hbk
        obtain ⟨a1, a2⟩ := h (k / 5) (by omega)
        rw [al r hrn k hk, ht k hk]
        unfold alB
        rw [decide_eq_true hbk.1, Bool.true_and, Bool.true_and]
        rw [hbk.2] at a1 a2
        exact ⟨a1, dB_f a2⟩
    rw [hbit]
    constructor
    · intro h
      refine ⟨fun c hc h0 => ?_, fun r' c hr' hc e => ?_⟩
      · obtain ⟨a1, _⟩ := h c hc
        rw [hCB] at h0 ⊢
        unfold aP at a1
        rw [if_neg h0] at a1
        exact of_decide_eq_true a1
      · obtain ⟨a1, a2⟩ := h c hc
        have h0 : C r' c ≠ 0 := by omega
        have hrn' := (hw.2.2.1 r' c h0).1
        by_cases hl' : left r' = true
        · rw [(hl r' hl').2] at e
          unfold aP at a1
          by_cases hb0 : B r c = 0
          · rw [if_pos hb0] at a1
            exact (opt_iff.mp a1).2.2.2 r' (by omega) e
          · rw [if_neg hb0] at a1
            have := of_decide_eq_true a1
            exact hr' (hwB.2.2.2.2 r' r c (by omega) (by omega))
        · exact a2 ⟨r', hrn', Bool.eq_false_iff.mpr hl', e⟩
    · rintro ⟨g1, g2⟩ c hc
      refine ⟨?_, fun ⟨r', hr', hl', e⟩ => ?_⟩
      · unfold aP
        by_cases hb0 : B r c = 0
        · rw [if_pos hb0]
          refine opt_iff.mpr ⟨hb0, hp.1 c hc, fun c' hc' e => ?_, fun r' hr' e => ?_⟩
          · have hcn := (hwB.2.2.1 r c' (by omega)).2.1
            have h3 := g1 c' hcn (by rw [hCB]; omega)
            rw [hCB, e] at h3
            have := hp.2 c' c hcn hc (by omega)
            rw [this] at e
            omega
          · have hne : r' ≠ r := fun h => by rw [h] at e; omega
            exact g2 r' c hne hc (by rw [hext r' c (by omega)]; exact e)
        · rw [if_neg hb0]
          have := g1 c hc (by rw [hCB]; exact hb0)
          rw [hCB] at this
          exact decide_eq_true this
      · refine g2 r' c (fun h => ?_) hc e
        rw [h, hr] at hl'; cases hl'
  by_cases hh : RF n C r (cp m)
  · rw [if_pos (hiff.mpr hh), dB_t hh]; rfl
  · rw [if_neg (fun h => hh (hiff.mp h)), dB_f hh]; rfl
theorem RS.next (h1 : 2 ≤ n) (h2 : n ≤ 5) (hS : RS n B C left t) {r m : Nat} (hr : left r = true) (hm : m < facN n) {x : Int32} (hx : ∀ k, k < 32 → bt x k = pB n m k) (hf : RF n C r (cp m)) : RS n B (setR n C r (cp m)) (fun s => left s && !decide (s = r)) (t ||| x) := by
  obtain ⟨hw, hext, hl, hd, ht⟩ := hS
  obtain ⟨hrn, hCB⟩ := hl r hr
  have hp := (cp_pm h1 h2 hm).1
  refine ⟨setR_wf hw hrn hp hf, fun r' c h0 => ?_, fun r' hr' => ?_, fun r' c hr' hc hl' => ?_, fun k hk => ?_⟩
  · have h3 := hext r' c h0
    by_cases e : r' = r
    · subst e
      have hc := (hw.2.2.1 r' c (by rw [h3]; exact h0)).2.1
      rw [setR_at hc, ← hf.1 c hc (by rw [h3]; exact h0), h3]
    · rw [setR_ne e, h3]
  · rw [Bool.and_eq_true, Bool.not_eq_true', decide_eq_false_iff_not] at hr'
    exact ⟨(hl r' hr'.1).1, fun c => by rw [setR_ne hr'.2]; exact (hl r' hr'.1).2 c⟩
  · by_cases e : r' = r
    · subst e
      rw [setR_at hc]; omega
    · rw [setR_ne e]
      have hl2 : (left r' && !decide (r' = r)) = false := hl'
      rw [decide_eq_false e, Bool.not_false, Bool.and_true] at hl2
      exact hd r' c hr' hc hl2
  · rw [bt_or, ht k hk, hx k hk]
    unfold pB
    by_cases hk5 : k < 5 * n
    · rw [decide_eq_true hk5, Bool.true_and, Bool.true_and, Bool.true_and]
      apply b_dB
      rw [Bool.or_eq_true, dB_iff, decide_eq_true_iff]
      constructor
      · rintro (⟨r', a, b, c⟩ | e)
        · have hne : r' ≠ r := fun h => by rw [h, hr] at b; cases b
          exact ⟨r', a, by show (left r' && !decide (r' = r)) = false; rw [b]; rfl, by rw [setR_ne hne]; exact c⟩
        · exact ⟨r, hrn, by show (left r && !decide (r = r)) = false; rw [decide_eq_true rfl, Bool.not_true, Bool.and_false], by rw [setR_at (by omega), e]⟩
      · rintro ⟨r', a, b, c⟩
        by_cases e : r' = r
        · subst e
          rw [setR_at (by omega)] at c
          exact Or.inr (by omega)
        · rw [setR_ne e] at c
          have b2 : (left r' && !decide (r' = r)) = false := b
          rw [decide_eq_false e, Bool.not_false, Bool.and_true] at b2
          exact Or.inl ⟨r', a, b2, c⟩
    · rw [decide_eq_false hk5]; rfl
theorem mapsFit_ok (mt : MT σ) (al : ∀ r, r < n → ∀ i, i < 32 → bt (σ 15 r) i = alB n B r i) (h1 : 2 ≤ n) (h2 : n ≤ 5) (hS : RS n B C left t) (hwB : Wf n B) {r : Nat} (hr : left r = true) : ∃ v, v ≤ 120 ∧ f_RowFilling_mapsThatFit σ (nI n) (nI r) t = some (nI v) := by
  have hf := fac_le h1 h2
  unfold f_RowFilling_mapsThatFit
  refine ⟨_, ?_, (loop_sum (fun f i a => f_RowFilling_mapsThatFit_L6 (nI n) (nI r) t σ (fun v => some v) f (nI a) (nI i)) (facN n) 1 (fun m => (dB (RF n C r (cp m))).toNat) (fun a => some (nI a)) (by omega) (fun i _ => tn_le _) 0 ?_ ?_).trans (by rw [Nat.zero_add])⟩
  · have : sumN (facN n) (fun m => (dB (RF n C r (cp m))).toNat) ≤ facN n * 1 := sumN_le (fun i _ => tn_le _)
    omega
  · intro f i x hi hx
    obtain ⟨p, ep, hp⟩ := pairs_ok mt h1 h2 (show i < 120 by omega)
    show f_RowFilling_mapsThatFit_L6 (nI n) (nI r) t σ _ (f + 1) (nI x) (nI i) = _
    rw [f_RowFilling_mapsThatFit_L6.eq_2]
    rw [amount_ok h1 h2, cap_some, if_pos (nI_lt hi (by omega)), ep, cap_some, fit_ok al h1 h2 hS hwB hr hi hp, cap_some, nI_1]
    simp only [jn_eq]
    cases dB (RF n C r (cp i))
    · rw [if_pos (by rfl)]; rfl
    · rw [if_neg (by decide), nI_1]; rfl
  · intro f x hx
    show f_RowFilling_mapsThatFit_L6 (nI n) (nI r) t σ _ (f + 1) (nI x) (nI (facN n)) = _
    rw [f_RowFilling_mapsThatFit_L6.eq_2]
    rw [amount_ok h1 h2, cap_some, if_neg (nI_nlt (Nat.le_refl _) (by omega))]
theorem tightRow_ok (mt : MT σ) (al : ∀ r, r < n → ∀ i, i < 32 → bt (σ 15 r) i = alB n B r i) (h1 : 2 ≤ n) (h2 : n ≤ 5) (hS : RS n B C left t) (hwB : Wf n B) : (f_RowFilling_tightestRow σ (nI n) (sI left) t = some (-1) ∧ ∀ r, r < n → left r = false) ∨ ∃ r, left r = true ∧ f_RowFilling_tightestRow σ (nI n) (sI left) t = some (nI r) := by
  unfold f_RowFilling_tightestRow
  refine loopE (fun f r (x : Int32 × Int32) => f_RowFilling_tightestRow_L10 (nI n) (sI left) t σ (fun v => some v) f x.1 x.2 (nI r)) n (fun r x => (x.1 = -1 ∧ x.2 = 121 ∧ ∀ r', r' < r → left r' = false) ∨ (∃ r', left r' = true ∧ x.1 = nI r' ∧ ∃ v, v ≤ 120 ∧ x.2 = nI v)) (fun R => (R = some (-1) ∧ ∀ r, r < n → left r = false) ∨ ∃ r, left r = true ∧ R = some (nI r)) ?_ ?_ FU 0 (-1, 121) (by omega) (FU_gt (by omega)) (Or.inl ⟨rfl, rfl, fun r' hr' => by omega⟩)
  · rintro f r ⟨x, y⟩ hr hx
    show (_ ∨ _) ∨ ∃ a' : Int32 × Int32, f_RowFilling_tightestRow_L10 (nI n) (sI left) t σ (fun v => some v) (f + 1) x y (nI r) = _ ∧ _
    right
    cases hl : left r
    · have e0 : f_RowFilling_tightestRow_L10 (nI n) (sI left) t σ (fun v => some v) (f + 1) x y (nI r) = f_RowFilling_tightestRow_L10 (nI n) (sI left) t σ (fun v => some v) f x y (nI (r + 1)) := by
        rw [f_RowFilling_tightestRow_L10.eq_2]
        rw [if_pos (nI_lt hr (by omega)), isIn_sI left (by omega), cap_some, hl]
        simp only [jn_eq, nI_1]
        rw [if_pos (by rfl), if_neg (Int32.not_lt.mpr (Int32.le_refl y))]
      refine ⟨(x, y), e0, ?_⟩
      rcases hx with ⟨a, b, c⟩ | hx
      · refine Or.inl ⟨a, b, fun r' hr' => ?_⟩
        by_cases e : r' = r
        · rw [e]; exact hl
        · exact c r' (by omega)
      · exact Or.inr hx
    · obtain ⟨v, hv, ev⟩ := mapsFit_ok mt al h1 h2 hS hwB hl
      have e0 : f_RowFilling_tightestRow_L10 (nI n) (sI left) t σ (fun v => some v) (f + 1) x y (nI r) = if nI v < y then f_RowFilling_tightestRow_L10 (nI n) (sI left) t σ (fun v => some v) f (nI r) (nI v) (nI (r + 1)) else f_RowFilling_tightestRow_L10 (nI n) (sI left) t σ (fun v => some v) f x y (nI (r + 1)) := by
        rw [f_RowFilling_tightestRow_L10.eq_2]
        rw [if_pos (nI_lt hr (by omega)), isIn_sI left (by omega), cap_some, hl, ev]
        simp only [jn_eq, nI_1, cap_some]
        rw [if_neg (by decide)]
      rw [e0]
      rcases hx with ⟨a, b, c⟩ | ⟨r', a, b, w, c, d⟩
      · have b : y = 121 := b
        refine ⟨(nI r, nI v), by rw [if_pos (by rw [b]; exact nI_lt (show v < 121 by omega) (by decide))], Or.inr ⟨r, hl, rfl, v, hv, rfl⟩⟩
      · by_cases hlt : nI v < y
        · exact ⟨(nI r, nI v), by rw [if_pos hlt], Or.inr ⟨r, hl, rfl, v, hv, rfl⟩⟩
        · exact ⟨(x, y), by rw [if_neg hlt], Or.inr ⟨r', a, b, w, c, d⟩⟩
  · rintro f ⟨x, y⟩ hx
    have e0 : f_RowFilling_tightestRow_L10 (nI n) (sI left) t σ (fun v => some v) (f + 1) x y (nI n) = some x := by
      rw [f_RowFilling_tightestRow_L10.eq_2]
      rw [if_neg (nI_nlt (Nat.le_refl _) (by omega))]
    show (f_RowFilling_tightestRow_L10 (nI n) (sI left) t σ (fun v => some v) (f + 1) x y (nI n) = some (-1) ∧ _) ∨ _
    rw [e0]
    rcases hx with ⟨a, b, c⟩ | ⟨r', a, b, w, c, d⟩
    · have a : x = -1 := a
      exact Or.inl ⟨by rw [a], c⟩
    · have b : x = nI r' := b
      exact Or.inr ⟨r', a, by rw [b]⟩
def lc (n : Nat) (left : Nat → Bool) : Nat := (List.range n).countP left
theorem rowFrom_ok (mt : MT σ) (al : ∀ r, r < n → ∀ i, i < 32 → bt (σ 15 r) i = alB n B r i) (h1 : 2 ≤ n) (h2 : n ≤ 5) (hwB : Wf n B) : ∀ (d : Nat) (C : Bd) (left : Nat → Bool) (t : Int32) (most depth : Nat), lc n left < d → RS n B C left t → 1 ≤ most → most ≤ 1000 → depth + lc n left ≤ n →
    f_RowFilling_squaresFrom d σ (nI n) (sI left) t (nI most) (nI depth) = some (nI (min most (nC n C))) := by
  intro d
  induction d with
  | zero => intro C left t most depth h; omega
  | succ d ih =>
    intro C left t most depth hlc hS hm1 hm2 hdep
    have hf := fac_le h1 h2
    show fb_RowFilling_squaresFrom (f_RowFilling_squaresFrom d) σ (nI n) (sI left) t (nI most) (nI depth) = _
    unfold fb_RowFilling_squaresFrom
    have hin : inN n left := fun s hs => (hS.2.2.1 s hs).1
    by_cases hz : ∀ r, r < n → left r = false
    · have e0 : sI left = 0 := by
        rw [← sI_none]
        exact sI_cong (fun s _ => by
          by_cases hs : s < n
          · exact hz s hs
          · exact Bool.eq_false_iff.mpr (fun h => hs (hin s h)))
      rw [if_pos e0, nC_full (fun r c hr hc => hS.2.2.2.1 r c hr hc (hz r hr)), Nat.min_eq_right hm1]
      rfl
    · have e0 : ¬ sI left = 0 := by
        rw [← sI_none]
        intro h
        exact hz (fun r hr => sI_inj h r (by omega))
      rw [if_neg e0]
      rcases tightRow_ok mt al h1 h2 hS hwB with ⟨_, hno⟩ | ⟨r, hr, e⟩
      · exact absurd hno hz
      · obtain ⟨hrn, hCB⟩ := hS.2.2.1 r hr
        have hcnt : lc n (fun s => left s && !decide (s = r)) < lc n left := countP_lt (fun s hs => (Bool.and_eq_true_iff.mp hs).1) hrn (by rw [decide_eq_true rfl]; simp) hr
        rw [e, cap_some, if_neg (nm1 (by omega)), if_pos (show nI depth < 5 from nI_lt (show depth < 5 by omega) (by decide))]
        rw [nC_row hS.1 hrn]
        refine loopE (fun f i (x : Nat) => f_RowFilling_squaresFrom_L35 (f_RowFilling_squaresFrom d) (nI n) (sI left) t (nI most) (nI depth) (nI r) σ (fun v => some v) f (nI x) (nI i)) (facN n) (fun i x => x = min most (sumN i (rW n C r))) (fun R => R = some (nI (min most (sumN (facN n) (rW n C r))))) ?_ ?_ FU 0 0 (by omega) (FU_gt (by omega)) (by simp [sumN])
        · intro f i x hi hx
          obtain ⟨p, ep, hp⟩ := pairs_ok mt h1 h2 (show i < 120 by omega)
          have hmono : sumN i (rW n C r) + sumN (facN n - i) (fun t => rW n C r (i + t)) = sumN (facN n) (rW n C r) := by
            rw [← sumN_add]; congr 1; omega
          by_cases hxm : x < most
          · right
            have e1 : f_RowFilling_squaresFrom_L35 (f_RowFilling_squaresFrom d) (nI n) (sI left) t (nI most) (nI depth) (nI r) σ (fun v => some v) (f + 1) (nI x) (nI i) = if bI (dB (RF n C r (cp i))) = 0 then f_RowFilling_squaresFrom_L35 (f_RowFilling_squaresFrom d) (nI n) (sI left) t (nI most) (nI depth) (nI r) σ (fun v => some v) f (nI x) (nI (i + 1)) else cap (f_RowFilling_squaresFrom d σ (nI n) (sI left &&& ((1 <<< (nI r &&& 31)) ^^^ (-1))) (t ||| p) (nI (most - x)) (nI (depth + 1))) fun r_13 => f_RowFilling_squaresFrom_L35 (f_RowFilling_squaresFrom d) (nI n) (sI left) t (nI most) (nI depth) (nI r) σ (fun v => some v) f (nI x + r_13) (nI (i + 1)) := by
              rw [f_RowFilling_squaresFrom_L35.eq_2]
              rw [amount_ok h1 h2, cap_some, if_pos (nI_lt hi (by omega)), if_pos (nI_lt hxm (by omega)), ep, cap_some, fit_ok al h1 h2 hS hwB hr hi hp, cap_some, nI_1 i]
              simp only [jn_eq, lt1_eq]
              rw [nI_sub (by omega), nI_1]
            by_cases hRF : RF n C r (cp i)
            · have hS2 := hS.next h1 h2 hr hi hp hRF
              have hrec := ih _ _ _ (most - x) (depth + 1) (by omega) hS2 (by omega) (by omega) (by omega)
              refine ⟨x + min (most - x) (nC n (setR n C r (cp i))), ?_, ?_⟩
              · show f_RowFilling_squaresFrom_L35 (f_RowFilling_squaresFrom d) (nI n) (sI left) t (nI most) (nI depth) (nI r) σ (fun v => some v) (f + 1) (nI x) (nI i) = _
                rw [e1, dB_t hRF, if_neg (by decide), sI_one (by omega), sI_andn, hrec, cap_some, nI_add]
              · rw [sumN]
                unfold rW
                rw [dB_t hRF, if_pos rfl]
                unfold rW at hx
                omega
            · refine ⟨x, ?_, ?_⟩
              · show f_RowFilling_squaresFrom_L35 (f_RowFilling_squaresFrom d) (nI n) (sI left) t (nI most) (nI depth) (nI r) σ (fun v => some v) (f + 1) (nI x) (nI i) = _
                rw [e1, dB_f hRF, if_pos (by rfl)]
              · rw [sumN]
                have : rW n C r i = 0 := by unfold rW; rw [dB_f hRF, if_neg (by decide)]
                rw [this]; exact hx
          · left
            show f_RowFilling_squaresFrom_L35 (f_RowFilling_squaresFrom d) (nI n) (sI left) t (nI most) (nI depth) (nI r) σ (fun v => some v) (f + 1) (nI x) (nI i) = _
            rw [f_RowFilling_squaresFrom_L35.eq_2]
            rw [amount_ok h1 h2, cap_some, if_pos (nI_lt hi (by omega)), if_neg (nI_nlt (by omega) (by omega)), show min most (sumN (facN n) (rW n C r)) = x by omega]
        · intro f x hx
          show f_RowFilling_squaresFrom_L35 (f_RowFilling_squaresFrom d) (nI n) (sI left) t (nI most) (nI depth) (nI r) σ (fun v => some v) (f + 1) (nI x) (nI (facN n)) = _
          rw [f_RowFilling_squaresFrom_L35.eq_2]
          rw [amount_ok h1 h2, cap_some, if_neg (nI_nlt (Nat.le_refl _) (by omega)), hx]
end AN
theorem rowSquares_ok {σ : St} {k n most : Nat} {B : Bd} (mt : MT σ) (h : GOK σ k n B) (hk : 33 < k) (h1 : 1 ≤ most) (h2 : most ≤ 1000) : ∃ τ, f_RowFilling_squares σ k (nI most) = some (nI (min most (nC n B)), τ) ∧ Frx 15 σ τ := by
  have hn := h.le
  unfold f_RowFilling_squares
  have A : ∀ K : St → Option (Int32 × St), ∃ τ, f_RowFilling_squares_L2 k (nI most) K FU 0 σ = K τ ∧ (∀ r, r < n → ∀ i, i < 32 → bt (τ 15 r) i = alB n B r i) ∧ Frx 15 σ τ := by
    intro K
    refine loopE (fun f i (τ : St) => f_RowFilling_squares_L2 k (nI most) K f (nI i) τ) n (fun i τ => (∀ r, r < i → ∀ j, j < 32 → bt (τ 15 r) j = alB n B r j) ∧ Frx 15 σ τ) (fun R => ∃ τ, R = K τ ∧ (∀ r, r < n → ∀ i, i < 32 → bt (τ 15 r) i = alB n B r i) ∧ Frx 15 σ τ) ?_ ?_ FU 0 σ (by omega) (FU_gt (by omega)) ⟨fun r hr => by omega, fun m _ => rfl⟩
    · rintro f i τ hi ⟨p1, p2⟩
      have hG : GOK τ k n B := h.frame (fun m a b => p2 m (by omega))
      obtain ⟨x, e, hx⟩ := allowed_ok hG hi
      refine Or.inr ⟨wr τ 15 i x, ?_, fun r hr j hj => ?_, fun m hm => by rw [wr_fn hm]; exact p2 m hm⟩
      · show f_RowFilling_squares_L2 k (nI most) K (f + 1) (nI i) τ = _
        rw [f_RowFilling_squares_L2.eq_2]
        rw [hG.ord, if_pos (nI_lt hi (by omega)), if_pos (show nI i < 5 from nI_lt (show i < 5 by omega) (by decide)), e, cap_some, ast_nI (by omega) (by decide), nI_1]
      · rw [wr_get]
        by_cases e : r = i
        · rw [if_pos ⟨rfl, e⟩, e]; exact hx j hj
        · rw [if_neg (by omega)]; exact p1 r (by omega) j hj
    · rintro f τ ⟨p1, p2⟩
      have ho : τ k 3 = nI n := by rw [p2 k (by omega)]; exact h.ord
      refine ⟨τ, ?_, p1, p2⟩
      show f_RowFilling_squares_L2 k (nI most) K (f + 1) (nI n) τ = _
      rw [f_RowFilling_squares_L2.eq_2]
      rw [ho, if_neg (nI_nlt (Nat.le_refl _) (by omega))]
  obtain ⟨τ, e, al, f⟩ := A (fun (σ_4 : St) => cap (f_Grid_allSigns σ_4 k) fun r_6 => cap (f_RowFilling_squaresFrom DP σ_4 (σ_4 k 3) r_6 0 (nI most) 0) fun r_8 => some (r_8, σ_4))
  have hG : GOK τ k n B := h.frame (fun m a b => f m (by omega))
  have mtτ : MT τ := fun m hm => by rw [f 7 (by omega), f 8 (by omega)]; exact mt m hm
  refine ⟨τ, e.trans ?_, f⟩
  show cap (f_Grid_allSigns τ k) _ = _
  have hlc : lc n (fun t => decide (t < n)) ≤ n := Nat.le_trans List.countP_le_length (by simp)
  have hS : RS n B B (fun t => decide (t < n)) 0 := by
    refine ⟨h.1, fun _ _ _ => rfl, fun r hr => ⟨of_decide_eq_true hr, fun _ => rfl⟩, fun r c hr _ hl => ?_, fun k hk => ?_⟩
    · have hl2 : decide (r < n) = false := hl
      rw [decide_eq_true hr] at hl2; cases hl2
    · rw [bt_0, dB_f, Bool.and_false]
      rintro ⟨r, hr, hl, _⟩
      have hl2 : decide (r < n) = false := hl
      rw [decide_eq_true hr] at hl2; cases hl2
  rw [all_ok hG, cap_some, hG.ord, show (0 : Int32) = nI 0 from rfl]
  have := rowFrom_ok mtτ al hn.1 hn.2 h.1 DP B (fun t => decide (t < n)) 0 most 0 (show lc n (fun t => decide (t < n)) < 40 by omega) hS h1 h2 (by omega)
  rw [show f_RowFilling_squaresFrom DP τ (nI n) (sI fun t => decide (t < n)) (nI 0) (nI most) (nI 0) = _ from this, cap_some]
theorem ok_fillsAnew : Ok_fillsAnew Inv := by
  intro σ hI p0 p1
  refine op_rd hI (Q := fun σ => f_Q_fillsAnew σ p0 p1) (R := fun σ => f_R_fillsAnew σ p0 p1) (fun M N B cw mt ct => ?_)
  have hM12 := cw.le
  rcases g_cases M cw.le p0 with ⟨j, hj, rfl⟩ | hx
  · have hG := cw.g hj
    cases hy : btw p1 1 (nI 1000)
    · refine rd_err 2 2 (σ' := σ) ?_ (FrC.refl σ) (by decide) (fun σ1 mw _ => ⟨0, wr σ1 82 0 2, ?_, FrK.t, rfl⟩)
      · show f_Q_fillsAnew σ (nI j) p1 = _
        unfold f_Q_fillsAnew
        rw [gridAt_in cw hj, cax_ok, isFrom_ok, show (1000 : Int32) = nI 1000 from rfl, hy]
        rfl
      · show f_R_fillsAnew σ1 (nI j) p1 = _
        unfold f_R_fillsAnew
        rw [fillsOf_arg mw hj hy]
        rfl
    · obtain ⟨a, ha1, ha, rfl⟩ := (btw_iff (a := 1) (by omega) (by omega)).mp hy
      obtain ⟨σ3, e3, f3⟩ := rowSquares_ok mt hG (by unfold gid; omega) ha1 ha
      refine rd_k (nI (min a (nC (N j) (B j)))) (σ' := σ3) ?_ (fun m hm => f3 m (by unfold scr at hm; omega)) (fun σ1 mw => ?_)
      · show f_Q_fillsAnew σ (nI j) (nI a) = _
        unfold f_Q_fillsAnew
        rw [gridAt_in cw hj, cax_ok, isFrom_ok, show (1000 : Int32) = nI 1000 from rfl, hy, cap_some, nar true, if_pos rfl, cax_ok, e3, cal_some]
      · obtain ⟨τ, e, k, h0⟩ := fillsOf_ok mw hj ha1 ha
        refine ⟨τ, ?_, k, h0⟩
        show f_R_fillsAnew σ1 (nI j) (nI a) = _
        unfold f_R_fillsAnew
        rw [e]
        rfl
  · refine rd_err 1 1 (σ' := σ) ?_ (FrC.refl σ) (by decide) (fun σ1 mw _ => ⟨0, wr σ1 82 0 1, ?_, FrK.t, rfl⟩)
    · show f_Q_fillsAnew σ _ _ = _
      unfold f_Q_fillsAnew
      rw [gridAt_out cw hx, cax_er]
    · show f_R_fillsAnew σ1 _ _ = _
      unfold f_R_fillsAnew
      rw [fillsOf_out mw hx]
      rfl
