/-! breaks: the values of both words -/
def htt (s d : Nat) (w : Nat → Nat) : Nat := s + sumN (d + 1) w
theorem sum_upW {w : Nat → Nat} {k v : Nat} : sumN (k + 1) (upW w k v) = sumN k w + v := by
  rw [sumN, upW_at, sumN_congr (fun i hi => upW_ne (show i ≠ k by omega))]
theorem htt_step {c s d : Nat} {w : Nat → Nat} {s' d' : Nat} {w' : Nat → Nat} (e : pstep c s d w = some (s', d', w')) : (c = 41 → 2 ≤ htt s d w) ∧ htt s' d' w' = if c = 41 then htt s d w - 1 else if c = 40 ∨ c = 61 then htt s d w else htt s d w + 1 := by
  unfold htt
  unfold pstep at e
  by_cases c1 : c = 41
  · rw [if_pos c1] at e
    by_cases c2 : 0 < d ∧ w d = 2
    · rw [if_pos c2] at e
      obtain ⟨rfl, rfl, rfl⟩ := (by simpa using e : s = s' ∧ d - 1 = d' ∧ _ = w')
      rw [if_pos c1]
      obtain ⟨d, rfl⟩ : ∃ k, d = k + 1 := ⟨d - 1, by omega⟩
      simp only [Nat.add_sub_cancel]
      rw [sum_upW, sumN, c2.2, sumN]
      omega
    · rw [if_neg c2] at e; cases e
  · rw [if_neg c1] at e
    rw [if_neg c1]
    refine ⟨fun h => absurd h c1, ?_⟩
    by_cases c2 : c = 61
    · rw [if_pos c2] at e
      by_cases c3 : d = 0 ∧ s = 0 ∧ w 0 = 1
      · rw [if_pos c3] at e
        obtain ⟨rfl, rfl, rfl⟩ := (by simpa using e : 1 = s' ∧ 0 = d' ∧ _ = w')
        obtain ⟨rfl, rfl, c5⟩ := c3
        rw [if_pos (Or.inr c2), sum_upW, sumN, sumN, sumN, c5]
      · rw [if_neg c3] at e; cases e
    · rw [if_neg c2] at e
      by_cases c3 : w d < lim d
      · rw [if_pos c3] at e
        by_cases c4 : c = 40
        · rw [if_pos c4] at e
          obtain ⟨rfl, rfl, rfl⟩ := (by simpa using e : s = s' ∧ d + 1 = d' ∧ _ = w')
          rw [if_pos (Or.inl c4), sum_upW]; rfl
        · rw [if_neg c4] at e
          obtain ⟨rfl, rfl, rfl⟩ := (by simpa using e : s = s' ∧ d = d' ∧ _ = w')
          rw [if_neg (by omega), sum_upW, sumN]; omega
      · rw [if_neg c3] at e; cases e
def vstep (S : Nat → Nat → Nat) (x y z c : Nat) (V : Nat → Nat) (top : Nat) : (Nat → Nat) × Nat :=
  if c = 41 then (upW V (top - 2) (S (V (top - 2)) (V (top - 1))), top - 1)
  else if c = 40 ∨ c = 61 then (V, top)
  else (upW V top (if c = 120 then x else if c = 121 then y else z), top + 1)
def vrun (S : Nat → Nat → Nat) (x y z : Nat) (ch : Nat → Nat) : Nat → (Nat → Nat) × Nat
  | 0 => (fun _ => 0, 0)
  | i + 1 => vstep S x y z (ch i) (vrun S x y z ch i).1 (vrun S x y z ch i).2
def VI (n : Nat) (S : Nat → Nat → Nat) (x y z : Nat) (ch : Nat → Nat) (i : Nat) : Prop := ∃ s d w, prun ch i = some (s, d, w) ∧ (vrun S x y z ch i).2 = htt s d w ∧ (vrun S x y z ch i).2 ≤ i ∧ ∀ k, k < (vrun S x y z ch i).2 → (vrun S x y z ch i).1 k < n
def okT (t : Nat) (ch : Nat → Nat) : Prop := ∃ w, prun ch t = some (1, 0, w) ∧ w 0 = 1
theorem okT_some {t : Nat} {ch : Nat → Nat} (h : okT t ch) {i : Nat} (hi : i ≤ t) : ∃ s d w, prun ch i = some (s, d, w) := by
  obtain ⟨w, h, _⟩ := h
  cases e : prun ch i with
  | none =>
    have := prun_none e (t - i)
    rw [show i + (t - i) = t by omega, h] at this
    cases this
  | some p => exact ⟨p.1, p.2.1, p.2.2, rfl⟩
theorem okT_iff {t : Nat} {ch : Nat → Nat} {v : Int32} (h : PF t ch v) (ht : t ≤ 40) : v = -1 ↔ okT t ch := by
  rcases h with ⟨i, s, d, w, a1, a2, a3, a4⟩ | ⟨s, d, w, a1, a2⟩
  · constructor
    · intro e; rw [a4] at e; exact absurd e (nm1 (by omega))
    · rintro ⟨w', h, _⟩
      rw [prun_stop a2 a3 a1] at h; cases h
  · constructor
    · intro e
      by_cases c : s = 1 ∧ d = 0 ∧ w 0 = 1
      · obtain ⟨rfl, rfl, c⟩ := c; exact ⟨w, a1, c⟩
      · rw [if_neg c] at a2; rw [a2] at e; exact absurd e (nm1 (by omega))
    · rintro ⟨w', h, h2⟩
      rw [a1] at h
      obtain ⟨rfl, rfl, rfl⟩ := (by simpa using h : s = 1 ∧ d = 0 ∧ w = w')
      rw [a2, if_pos ⟨rfl, rfl, h2⟩]
section VR
variable {n : Nat} {S : Nat → Nat → Nat} {x y z t : Nat} {ch : Nat → Nat}
theorem vrun_step (hok : okT t ch) {i : Nat} (hi : i < t) (h : VI n S x y z ch i) : (ch i = 41 → 2 ≤ (vrun S x y z ch i).2) ∧ ∃ s d w, prun ch (i + 1) = some (s, d, w) ∧ (vrun S x y z ch (i + 1)).2 = htt s d w := by
  obtain ⟨s, d, w, h1, h2, h3, h4⟩ := h
  obtain ⟨s', d', w', e⟩ := okT_some hok (show i + 1 ≤ t by omega)
  have e' : pstep (ch i) s d w = some (s', d', w') := by
    have e2 : (prun ch i).bind (fun p => pstep (ch i) p.1 p.2.1 p.2.2) = some (s', d', w') := e
    rw [h1] at e2; exact e2
  obtain ⟨q1, q2⟩ := htt_step e'
  rw [← h2] at q1 q2
  refine ⟨q1, s', d', w', e, ?_⟩
  rw [q2]
  show (vstep S x y z (ch i) (vrun S x y z ch i).1 (vrun S x y z ch i).2).2 = _
  unfold vstep
  by_cases c1 : ch i = 41
  · rw [if_pos c1, if_pos c1]
  · rw [if_neg c1, if_neg c1]
    by_cases c2 : ch i = 40 ∨ ch i = 61
    · rw [if_pos c2, if_pos c2]
    · rw [if_neg c2, if_neg c2]
theorem VI_all (hok : okT t ch) (hS : ∀ a b, a < n → b < n → S a b < n) (hx : x < n) (hy : y < n) (hz : z < n) : ∀ i, i ≤ t → VI n S x y z ch i := by
  intro i
  induction i with
  | zero => intro _; exact ⟨0, 0, fun _ => 0, rfl, rfl, Nat.le_refl _, fun k hk => absurd hk (Nat.not_lt_zero k)⟩
  | succ i ih =>
    intro hi
    have h := ih (by omega)
    obtain ⟨q1, s', d', w', e, e2⟩ := vrun_step hok (by omega) h
    obtain ⟨s, d, w, h1, h2, h3, h4⟩ := h
    refine ⟨s', d', w', e, e2, ?_, ?_⟩
    · show (vstep S x y z (ch i) (vrun S x y z ch i).1 (vrun S x y z ch i).2).2 ≤ _
      unfold vstep
      by_cases c1 : ch i = 41
      · rw [if_pos c1]; show (vrun S x y z ch i).2 - 1 ≤ _; omega
      · rw [if_neg c1]
        by_cases c2 : ch i = 40 ∨ ch i = 61
        · rw [if_pos c2]; show (vrun S x y z ch i).2 ≤ _; omega
        · rw [if_neg c2]; show (vrun S x y z ch i).2 + 1 ≤ _; omega
    · show ∀ k, k < (vstep S x y z (ch i) (vrun S x y z ch i).1 (vrun S x y z ch i).2).2 → (vstep S x y z (ch i) (vrun S x y z ch i).1 (vrun S x y z ch i).2).1 k < n
      generalize (vrun S x y z ch i).1 = V at *
      generalize (vrun S x y z ch i).2 = top at *
      unfold vstep
      by_cases c1 : ch i = 41
      · have := q1 c1
        rw [if_pos c1]
        intro k hk
        have hk : k < top - 1 := hk
        show upW V (top - 2) _ k < n
        by_cases e : k = top - 2
        · rw [e, upW_at]; exact hS _ _ (h4 _ (by omega)) (h4 _ (by omega))
        · rw [upW_ne e]; exact h4 k (by omega)
      · rw [if_neg c1]
        by_cases c2 : ch i = 40 ∨ ch i = 61
        · rw [if_pos c2]; exact h4
        · rw [if_neg c2]
          intro k hk
          have hk : k < top + 1 := hk
          show upW V top _ k < n
          by_cases e : k = top
          · rw [e, upW_at]
            split
            · exact hx
            · split
              · exact hy
              · exact hz
          · rw [upW_ne e]; exact h4 k (by omega)
theorem vrun_end (hok : okT t ch) (h : VI n S x y z ch t) : (vrun S x y z ch t).2 = 2 := by
  obtain ⟨s, d, w, h1, h2, _⟩ := h
  obtain ⟨w', e, e2⟩ := hok
  rw [e] at h1
  obtain ⟨rfl, rfl, rfl⟩ := (by simpa using h1 : 1 = s ∧ 0 = d ∧ w' = w)
  rw [h2]
  unfold htt
  rw [sumN, sumN, e2]
end VR
def HB (S : Nat → Nat → Nat) (ch : Nat → Nat) (t x y z : Nat) : Prop := (vrun S x y z ch t).1 0 = (vrun S x y z ch t).1 1
def Vat (o : Nat) (τ : St) (V : Nat → Nat) (top : Nat) : Prop := ∀ k, k < top → τ o k = nI (V k)
theorem Vat.up {o : Nat} {τ : St} {V : Nat → Nat} {top k v top' : Nat} (h : Vat o τ V top) (hk : ∀ j, j < top' → j = k ∨ j < top) : Vat o (wr τ o k (nI v)) (upW V k v) top' := by
  intro j hj
  rw [wr_get]
  by_cases e : j = k
  · rw [if_pos ⟨rfl, e⟩, e, upW_at]
  · rw [if_neg (by omega), upW_ne e]
    rcases hk j hj with h1 | h1
    · exact absurd h1 e
    · exact h j h1
theorem chooseV {α : Type} (c x y z : Nat) (hc : c < 200) (F : Int32 → α) : (if nI c = 120 then F (nI x) else if nI c = 121 then F (nI y) else F (nI z)) = F (nI (if c = 120 then x else if c = 121 then y else z)) := by
  simp (disch := omega) only [eq_l120, eq_l121]
  split
  · rfl
  · split
    · rfl
    · rfl
theorem holds_ok {σ : St} {k n t x y z : Nat} {B : Bd} {ch : Nat → Nat} (ct : CT σ t ch) (hG : GOK σ k n B) (hk : 13 < k) (hs : SQ n B) (hok : okT t ch) (hx : x < n) (hy : y < n) (hz : z < n) : ∃ τ, f_Tape_holds σ k (nI x) (nI y) (nI z) = some (bI (dB (HB (sg B) ch t x y z)), τ) ∧ Frx 13 σ τ := by
  have hn := hG.le
  have ht := ct.1
  have hS : ∀ a b, a < n → b < n → sg B a b < n := fun a b ha hb => hs.lt ha hb
  have hV := VI_all hok hS hx hy hz
  unfold f_Tape_holds
  have A : ∀ K : St → Option (Int32 × St), ∃ τ, f_Tape_holds_L6 k (nI x) (nI y) (nI z) K FU 0 0 σ = K τ ∧ Vat 13 τ (vrun (sg B) x y z ch t).1 (vrun (sg B) x y z ch t).2 ∧ Frx 13 σ τ := by
    intro K
    refine loopE (fun m i (τ : St) => f_Tape_holds_L6 k (nI x) (nI y) (nI z) K m (nI (vrun (sg B) x y z ch i).2) (nI i) τ) t
      (fun i τ => Vat 13 τ (vrun (sg B) x y z ch i).1 (vrun (sg B) x y z ch i).2 ∧ Frx 13 σ τ)
      (fun R => ∃ τ, R = K τ ∧ Vat 13 τ (vrun (sg B) x y z ch t).1 (vrun (sg B) x y z ch t).2 ∧ Frx 13 σ τ) ?_ ?_ FU 0 σ (by omega) (FU_gt (by omega)) ⟨fun k hk => absurd hk (Nat.not_lt_zero k), fun m _ => rfl⟩
    · rintro m i τ hi ⟨p1, p2⟩
      have hVi := hV i (by omega)
      have q1 := (vrun_step hok hi hVi).1
      have hc := ct.ch hi
      have h200 := ch_lt hc
      have e10 : τ 10 3 = nI t := by rw [p2 10 (by omega)]; exact ct.2.1
      have e11 : τ 11 i = nI (ch i) := by rw [p2 11 (by omega)]; exact ct.2.2.1 i hi
      have hGτ : GOK τ k n B := hG.frame (fun m a b => p2 m (by omega))
      obtain ⟨s, d, w, h1, h2, h3, h4⟩ := hVi
      show (∃ _, _) ∨ ∃ a' : St, f_Tape_holds_L6 k (nI x) (nI y) (nI z) K (m + 1) (nI (vrun (sg B) x y z ch i).2) (nI i) τ = f_Tape_holds_L6 k (nI x) (nI y) (nI z) K m (nI (vstep (sg B) x y z (ch i) (vrun (sg B) x y z ch i).1 (vrun (sg B) x y z ch i).2).2) (nI (i + 1)) a' ∧ (Vat 13 a' (vstep (sg B) x y z (ch i) (vrun (sg B) x y z ch i).1 (vrun (sg B) x y z ch i).2).1 (vstep (sg B) x y z (ch i) (vrun (sg B) x y z ch i).1 (vrun (sg B) x y z ch i).2).2 ∧ Frx 13 σ a')
      generalize (vrun (sg B) x y z ch i).1 = V at *
      generalize (vrun (sg B) x y z ch i).2 = top at *
      refine Or.inr ?_
      have e0 : f_Tape_holds_L6 k (nI x) (nI y) (nI z) K (m + 1) (nI top) (nI i) τ = if ch i = 41 then f_Tape_holds_L6 k (nI x) (nI y) (nI z) K m (nI (top - 1)) (nI (i + 1)) (wr τ 13 (top - 2) (nI (sg B (V (top - 2)) (V (top - 1))))) else if ch i = 40 ∨ ch i = 61 then f_Tape_holds_L6 k (nI x) (nI y) (nI z) K m (nI top) (nI (i + 1)) τ else f_Tape_holds_L6 k (nI x) (nI y) (nI z) K m (nI (top + 1)) (nI (i + 1)) (wr τ 13 top (nI (if ch i = 120 then x else if ch i = 121 then y else z))) := by
        rw [f_Tape_holds_L6.eq_2]
        rw [e10, if_pos (nI_lt hi (by omega)), if_pos (show nI i < 40 from nI_lt (show i < 40 by omega) (by decide)), ald_nI (by omega) (by decide), e11, letter_ok, cap_some, btw_nI (by omega) (by omega) (by omega)]
        simp only [jn_eq, nI_1]
        by_cases c1 : ch i = 41
        · have hq := q1 c1
          rw [decide_eq_false (by omega), if_pos (by rfl), if_pos (by rw [c1]; rfl), if_pos c1, if_neg (show ¬ nI top < 2 from (nI_nlt hq (by omega) : ¬ nI top < nI 2)), if_pos (show nI top ≤ 40 from nI_le (show top ≤ 40 by omega) (by decide)), show nI top - 2 = nI (top - 2) from nI_sub (b := 2) hq, show nI top - 1 = nI (top - 1) from nI_sub (b := 1) (by omega), ald_nI (by omega) (by decide), ald_nI (by omega) (by decide), p1 _ (by omega), p1 _ (by omega), sq_sign hGτ hs (h4 _ (by omega)) (h4 _ (by omega)), cap_some, ast_nI (by omega) (by decide), show nI top + -1 = nI (top - 1) by rw [← Int32.sub_eq_add_neg]; exact nI_sub (b := 1) (by omega)]
        · rw [if_neg c1]
          have c1' : ¬ nI (ch i) = 41 := by rw [eq_l41 (by omega)]; exact c1
          by_cases c2 : ch i = 40 ∨ ch i = 61
          · rw [decide_eq_false (by omega), if_pos (by rfl), if_neg c1', if_pos c2]
          · have h120 : 120 ≤ ch i ∧ ch i ≤ 122 := by unfold isCh at hc; omega
            rw [decide_eq_true h120, if_neg (show ¬ bI true = 0 by decide), if_neg (nI_pos (by omega)), if_pos (show nI top < 40 from nI_lt (show top < 40 by omega) (by decide)), if_neg c2]
            rw [chooseV (ch i) x y z h200 (fun v => ast τ 13 40 (nI top) v fun σ_15 => f_Tape_holds_L6 k (nI x) (nI y) (nI z) K m (nI (top + 1)) (nI (i + 1)) σ_15)]
            rw [ast_nI (by omega) (by decide)]
      rw [e0]
      unfold vstep
      by_cases c1 : ch i = 41
      · have hq := q1 c1
        rw [if_pos c1, if_pos c1]
        exact ⟨_, rfl, p1.up (fun j hj => Or.inr (by have hj : j < top - 1 := hj; omega)), fun m' hm' => by rw [wr_fn hm']; exact p2 m' hm'⟩
      · rw [if_neg c1, if_neg c1]
        by_cases c2 : ch i = 40 ∨ ch i = 61
        · rw [if_pos c2, if_pos c2]
          exact ⟨τ, rfl, p1, p2⟩
        · rw [if_neg c2, if_neg c2]
          exact ⟨_, rfl, p1.up (fun j hj => by have hj : j < top + 1 := hj; omega), fun m' hm' => by rw [wr_fn hm']; exact p2 m' hm'⟩
    · rintro m τ ⟨p1, p2⟩
      have e10 : τ 10 3 = nI t := by rw [p2 10 (by omega)]; exact ct.2.1
      refine ⟨τ, ?_, p1, p2⟩
      show f_Tape_holds_L6 k (nI x) (nI y) (nI z) K (m + 1) _ (nI t) τ = _
      rw [f_Tape_holds_L6.eq_2]
      rw [e10, if_neg (nI_nlt (Nat.le_refl _) (by omega))]
  obtain ⟨τ, e, hv, f⟩ := A (fun (σ_16 : St) => ald σ_16 13 40 0 fun r_17 => ald σ_16 13 40 1 fun r_18 => if r_17 = r_18 then some (1, σ_16) else some (0, σ_16))
  have hVt := hV t (Nat.le_refl t)
  have h2 := vrun_end hok hVt
  obtain ⟨_, _, _, _, _, _, h4⟩ := hVt
  have v0 := hv 0 (by omega)
  have v1 := hv 1 (by omega)
  have b0 := h4 0 (by omega)
  have b1 := h4 1 (by omega)
  refine ⟨τ, e.trans ?_, f⟩
  rw [show ald τ 13 40 0 = ald τ 13 40 (nI 0) from rfl, ald_nI (by omega) (by decide), show ald τ 13 40 1 = ald τ 13 40 (nI 1) from rfl, ald_nI (by omega) (by decide), v0, v1]
  unfold HB
  by_cases hh : (vrun (sg B) x y z ch t).1 0 = (vrun (sg B) x y z ch t).1 1
  · rw [if_pos (by rw [hh]), dB_t hh]; rfl
  · rw [if_neg (by rw [eq_nI (by omega) (by omega)]; exact hh), dB_f hh]; rfl
theorem rholds_ok {σ : St} {M : Nat} {N : Nat → Nat} {B : Nat → Bd} (mw : MW σ M N B) {j t x y z : Nat} (hj : j < M) {ch : Nat → Nat} (mc : MC σ t ch) (hs : SQ (N j) (B j)) (hok : okT t ch) (hx : x < N j) (hy : y < N j) (hz : z < N j) : ∃ τ, f_R_holds σ (nI j) (nI x) (nI y) (nI z) = some (bI (dB (HB (sg (B j)) ch t x y z)), τ) ∧ Frx 87 σ τ := by
  have hn := mw.n hj
  have ht := mc.1
  have hS : ∀ a b, a < N j → b < N j → sg (B j) a b < N j := fun a b ha hb => hs.lt ha hb
  have hV := VI_all hok hS hx hy hz
  unfold f_R_holds
  have A : ∀ K : St → Option (Int32 × St), ∃ τ, f_R_holds_L6 (nI j) (nI x) (nI y) (nI z) K FU 0 0 σ = K τ ∧ Vat 87 τ (vrun (sg (B j)) x y z ch t).1 (vrun (sg (B j)) x y z ch t).2 ∧ Frx 87 σ τ := by
    intro K
    refine loopE (fun m i (τ : St) => f_R_holds_L6 (nI j) (nI x) (nI y) (nI z) K m (nI (vrun (sg (B j)) x y z ch i).2) (nI i) τ) t
      (fun i τ => Vat 87 τ (vrun (sg (B j)) x y z ch i).1 (vrun (sg (B j)) x y z ch i).2 ∧ Frx 87 σ τ)
      (fun R => ∃ τ, R = K τ ∧ Vat 87 τ (vrun (sg (B j)) x y z ch t).1 (vrun (sg (B j)) x y z ch t).2 ∧ Frx 87 σ τ) ?_ ?_ FU 0 σ (by omega) (FU_gt (by omega)) ⟨fun k hk => absurd hk (Nat.not_lt_zero k), fun m _ => rfl⟩
    · rintro m i τ hi ⟨p1, p2⟩
      have hVi := hV i (by omega)
      have q1 := (vrun_step hok hi hVi).1
      have hc := mc.ch hi
      have h200 := ch_lt hc
      have e10 : τ 82 4 = nI t := by rw [p2 82 (by omega)]; exact mc.2.1
      have e11 : τ 85 i = nI (ch i) := by rw [p2 85 (by omega)]; exact mc.2.2.1 i hi
      have hGτ : MW τ M N B := mw.fr ⟨fun m hm => p2 m (by omega), by rw [p2 82 (by omega)], by rw [p2 82 (by omega)]⟩
      obtain ⟨s, d, w, h1, h2, h3, h4⟩ := hVi
      show (∃ _, _) ∨ ∃ a' : St, f_R_holds_L6 (nI j) (nI x) (nI y) (nI z) K (m + 1) (nI (vrun (sg (B j)) x y z ch i).2) (nI i) τ = f_R_holds_L6 (nI j) (nI x) (nI y) (nI z) K m (nI (vstep (sg (B j)) x y z (ch i) (vrun (sg (B j)) x y z ch i).1 (vrun (sg (B j)) x y z ch i).2).2) (nI (i + 1)) a' ∧ (Vat 87 a' (vstep (sg (B j)) x y z (ch i) (vrun (sg (B j)) x y z ch i).1 (vrun (sg (B j)) x y z ch i).2).1 (vstep (sg (B j)) x y z (ch i) (vrun (sg (B j)) x y z ch i).1 (vrun (sg (B j)) x y z ch i).2).2 ∧ Frx 87 σ a')
      generalize (vrun (sg (B j)) x y z ch i).1 = V at *
      generalize (vrun (sg (B j)) x y z ch i).2 = top at *
      refine Or.inr ?_
      have e0 : f_R_holds_L6 (nI j) (nI x) (nI y) (nI z) K (m + 1) (nI top) (nI i) τ = if ch i = 41 then f_R_holds_L6 (nI j) (nI x) (nI y) (nI z) K m (nI (top - 1)) (nI (i + 1)) (wr τ 87 (top - 2) (nI (sg (B j) (V (top - 2)) (V (top - 1))))) else if ch i = 40 ∨ ch i = 61 then f_R_holds_L6 (nI j) (nI x) (nI y) (nI z) K m (nI top) (nI (i + 1)) τ else f_R_holds_L6 (nI j) (nI x) (nI y) (nI z) K m (nI (top + 1)) (nI (i + 1)) (wr τ 87 top (nI (if ch i = 120 then x else if ch i = 121 then y else z))) := by
        rw [f_R_holds_L6.eq_2]
        rw [e10, if_pos (nI_lt hi (by omega)), ald_nI (by omega) (by decide), e11]
        simp only [jn_eq, nI_1]
        by_cases c1 : ch i = 41
        · have hq := q1 c1
          rw [if_pos (show nI (ch i) = 41 by rw [c1]; rfl), if_pos c1, show nI top - 2 = nI (top - 2) from nI_sub (b := 2) hq, show nI top - 1 = nI (top - 1) from nI_sub (b := 1) (by omega), ald_nI (by omega) (by decide), ald_nI (by omega) (by decide), p1 _ (by omega), p1 _ (by omega), sq_at hGτ hj hs (h4 _ (by omega)) (h4 _ (by omega)), cap_some, ast_nI (by omega) (by decide), show nI top + -1 = nI (top - 1) by rw [← Int32.sub_eq_add_neg]; exact nI_sub (b := 1) (by omega)]
        · rw [if_neg c1]
          have c1' : ¬ nI (ch i) = 41 := by rw [eq_l41 (by omega)]; exact c1
          rw [if_neg c1']
          by_cases c2 : ch i = 40 ∨ ch i = 61
          · rw [if_pos c2]
            rcases c2 with c2 | c2
            · rw [if_pos (show nI (ch i) = 40 by rw [c2]; rfl)]
            · rw [if_neg (show ¬ nI (ch i) = 40 by rw [c2]; decide), if_pos (show nI (ch i) = 61 by rw [c2]; rfl)]
          · rw [if_neg c2, if_neg (show ¬ nI (ch i) = 40 by rw [eq_l40 (by omega)]; omega), if_neg (show ¬ nI (ch i) = 61 by rw [eq_l61 (by omega)]; omega)]
            rw [chooseV (ch i) x y z h200 (fun v => ast τ 87 42 (nI top) v fun σ_15 => f_R_holds_L6 (nI j) (nI x) (nI y) (nI z) K m (nI (top + 1)) (nI (i + 1)) σ_15)]
            rw [ast_nI (by omega) (by decide)]
      rw [e0]
      unfold vstep
      by_cases c1 : ch i = 41
      · have hq := q1 c1
        rw [if_pos c1, if_pos c1]
        exact ⟨_, rfl, p1.up (fun j hj => Or.inr (by have hj : j < top - 1 := hj; omega)), fun m' hm' => by rw [wr_fn hm']; exact p2 m' hm'⟩
      · rw [if_neg c1, if_neg c1]
        by_cases c2 : ch i = 40 ∨ ch i = 61
        · rw [if_pos c2, if_pos c2]
          exact ⟨τ, rfl, p1, p2⟩
        · rw [if_neg c2, if_neg c2]
          exact ⟨_, rfl, p1.up (fun j hj => by have hj : j < top + 1 := hj; omega), fun m' hm' => by rw [wr_fn hm']; exact p2 m' hm'⟩
    · rintro m τ ⟨p1, p2⟩
      have e10 : τ 82 4 = nI t := by rw [p2 82 (by omega)]; exact mc.2.1
      refine ⟨τ, ?_, p1, p2⟩
      show f_R_holds_L6 (nI j) (nI x) (nI y) (nI z) K (m + 1) _ (nI t) τ = _
      rw [f_R_holds_L6.eq_2]
      rw [e10, if_neg (nI_nlt (Nat.le_refl _) (by omega))]
  obtain ⟨τ, e, hv, f⟩ := A (fun (σ_13 : St) => ald σ_13 87 42 0 fun r_14 => ald σ_13 87 42 1 fun r_15 => if r_14 = r_15 then some (1, σ_13) else some (0, σ_13))
  have hVt := hV t (Nat.le_refl t)
  have h2 := vrun_end hok hVt
  obtain ⟨_, _, _, _, _, _, h4⟩ := hVt
  have v0 := hv 0 (by omega)
  have v1 := hv 1 (by omega)
  have b0 := h4 0 (by omega)
  have b1 := h4 1 (by omega)
  refine ⟨τ, e.trans ?_, f⟩
  rw [show ald τ 87 42 0 = ald τ 87 42 (nI 0) from rfl, ald_nI (by omega) (by decide), show ald τ 87 42 1 = ald τ 87 42 (nI 1) from rfl, ald_nI (by omega) (by decide), v0, v1]
  unfold HB
  by_cases hh : (vrun (sg (B j)) x y z ch t).1 0 = (vrun (sg (B j)) x y z ch t).1 1
  · rw [if_pos (by rw [hh]), dB_t hh]; rfl
  · rw [if_neg (by rw [eq_nI (by omega) (by omega)]; exact hh), dB_f hh]; rfl
