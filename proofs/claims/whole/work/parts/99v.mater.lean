/-! mates, the reference: what may be taken -/
def bdT (f : Nat → Nat → Nat) (n : Nat) (ch : Nat → Nat) : Nat → Bd
  | 0 => B0
  | c + 1 => putM n (bdT f n ch c) (f (ch c)) c
theorem bdT_val {f : Nat → Nat → Nat} {n : Nat} {ch : Nat → Nat} : ∀ c r k, bdT f n ch c r k ≠ 0 → ∃ s, s < c ∧ r < n ∧ k = f (ch s) r ∧ bdT f n ch c r k = s + 1 := by
  intro c
  induction c with
  | zero => intro r k h; exact absurd rfl h
  | succ c ih =>
    intro r k h
    have h : putM n (bdT f n ch c) (f (ch c)) c r k ≠ 0 := h
    show ∃ s, s < c + 1 ∧ r < n ∧ k = f (ch s) r ∧ putM n (bdT f n ch c) (f (ch c)) c r k = s + 1
    by_cases hk : r < n ∧ k = f (ch c) r
    · exact ⟨c, by omega, hk.1, hk.2, by unfold putM; rw [if_pos hk]⟩
    · rw [putM_ne hk] at h ⊢
      obtain ⟨s, a, b, d, e⟩ := ih r k h
      exact ⟨s, by omega, b, d, e⟩
theorem bdT_0 {f : Nat → Nat → Nat} {n : Nat} {ch : Nat → Nat} : ∀ c r k, r < n → (bdT f n ch c r k = 0 ↔ ∀ s, s < c → k ≠ f (ch s) r) := by
  intro c
  induction c with
  | zero => intro r k _; exact ⟨fun _ s hs => by omega, fun _ => rfl⟩
  | succ c ih =>
    intro r k hr
    show putM n (bdT f n ch c) (f (ch c)) c r k = 0 ↔ _
    by_cases hk : r < n ∧ k = f (ch c) r
    · constructor
      · intro h
        unfold putM at h
        rw [if_pos hk] at h
        omega
      · intro h
        exact absurd hk.2 (h c (by omega))
    · rw [putM_ne hk, ih r k hr]
      constructor
      · intro h s hs
        by_cases e : s = c
        · subst e
          exact fun e2 => hk ⟨hr, e2⟩
        · exact h s (by omega)
      · intro h s hs
        exact h s (by omega)
theorem bdT_congr {f : Nat → Nat → Nat} {n : Nat} {ch ch' : Nat → Nat} : ∀ c, (∀ i, i < c → ch i = ch' i) → bdT f n ch c = bdT f n ch' c := by
  intro c
  induction c with
  | zero => intro _; rfl
  | succ c ih =>
    intro h
    rw [bdT, bdT, ih (fun i hi => h i (by omega)), h c (by omega)]
theorem bdT_wf {f : Nat → Nat → Nat} {n : Nat} {ch : Nat → Nat} (h1 : 2 ≤ n) (h2 : n ≤ 5) (hp : ∀ s, s < n → PM n (f (ch s))) : Wf n (bdT f n ch n) := by
  refine ⟨h1, h2, fun r c h => ?_, fun r c c' h e => ?_, fun r r' c h e => ?_⟩
  · obtain ⟨s, a, b, d, e⟩ := bdT_val n r c h
    refine ⟨b, ?_, by omega⟩
    rw [d]; exact (hp s a).1 r b
  · obtain ⟨s, a, b, d, e1⟩ := bdT_val n r c h
    obtain ⟨s', a', b', d', e2⟩ := bdT_val n r c' (by rw [← e]; exact h)
    have : s = s' := by omega
    subst this
    rw [d, d']
  · obtain ⟨s, a, b, d, e1⟩ := bdT_val n r c h
    obtain ⟨s', a', b', d', e2⟩ := bdT_val n r' c (by rw [← e]; exact h)
    have : s = s' := by omega
    subst this
    exact (hp s a).2 r r' b b' (by rw [← d, ← d'])
/-- the reference's choices at the first c columns: 98 holds the places in the list 97 -/
def RC (σ : St) (L : List Nat) (c : Nat) (ch : Nat → Nat) : Prop := ∀ i, i < c → ∃ x, σ 98 i = nI x ∧ L[x]? = some (ch i)
section RT
variable {σ : St} {n : Nat} {L : List Nat} {ch : Nat → Nat}
theorem take41 (h2 : n ≤ 5) (la : LA σ n) (l97 : Lst 97 σ L) (hL : ∀ i, i ∈ L → i < facN n) (hLl : L.length ≤ 120) (hn : 2 ≤ n) (hlp : ∀ m, m < facN n → PM n (lp n m)) {i m c : Nat} (hi : L[i]? = some m) (hc : c < 5) {y : Nat} {m' : Nat} (hy : σ 98 c = nI y) (hm' : L[y]? = some m') (v3 : Int32) (b : Bool) (K : Int32 → Option Int32) : f_R_canTake_L41 (nI n) (nI i) v3 (nI c) σ K FU (bI b) 0 = K (bI (b && dB (∀ r, r < n → lp n m r ≠ lp n m' r))) := by
  have hf := fac_le hn h2
  obtain ⟨hil, _⟩ := List.getElem?_eq_some_iff.mp hi
  obtain ⟨hyl, _⟩ := List.getElem?_eq_some_iff.mp hm'
  have hm := hL m (List.mem_iff_getElem?.mpr ⟨i, hi⟩)
  have hmm := hL m' (List.mem_iff_getElem?.mpr ⟨y, hm'⟩)
  refine loop_flag (fun f r x => f_R_canTake_L41 (nI n) (nI i) v3 (nI c) σ K f (bI x) (nI r)) n (fun r => lp n m r ≠ lp n m' r) (fun x => K (bI x)) (by omega) b ?_ ?_
  · intro f r x hr
    have q1 := (hlp m hm).1 r hr
    have q2 := (hlp m' hmm).1 r hr
    show f_R_canTake_L41 (nI n) (nI i) v3 (nI c) σ K (f + 1) (bI x) (nI r) = _
    rw [f_R_canTake_L41.eq_2]
    rw [if_pos (nI_lt hr (by omega))]
    simp only [jn_eq, nI_1]
    cases x
    · rw [if_pos (by rfl)]; rfl
    · rw [if_neg (by decide), ald_nI (by omega) (by decide), l97 i m hi, show (5 : Int32) = nI 5 from rfl, nI_mul, nI_add, ald_nI (by omega) (by decide), la.2.2 m r hm hr, ald_nI (by omega) (by decide), hy, ald_nI (by omega) (by decide), l97 y m' hm', nI_mul, nI_add, ald_nI (by omega) (by decide), la.2.2 m' r hmm hr]
      by_cases e : lp n m r = lp n m' r
      · rw [if_pos (by rw [e]), dB_f (fun h => h e)]; rfl
      · rw [if_neg (by rw [eq_nI (by omega) (by omega)]; exact e), dB_t e]; rfl
  · intro f x
    show f_R_canTake_L41 (nI n) (nI i) v3 (nI c) σ K (f + 1) (bI x) (nI n) = _
    rw [f_R_canTake_L41.eq_2]
    rw [if_neg (nI_nlt (Nat.le_refl _) (by omega))]
theorem canTake_ok (h2 : n ≤ 5) (la : LA σ n) (l97 : Lst 97 σ L) (hL : ∀ i, i ∈ L → i < facN n) (hLl : L.length ≤ 120) (hn : 2 ≤ n) (hlp : ∀ m, m < facN n → PM n (lp n m)) {i m c : Nat} (hi : L[i]? = some m) (hc : c < n) (rc : RC σ L c ch) : f_R_canTake σ (nI n) (nI i) (nI c) = some (bI (dB (fitM n (bdT (lp n) n ch c) (lp n m) c))) := by
  have hf := fac_le hn h2
  obtain ⟨hil, _⟩ := List.getElem?_eq_some_iff.mp hi
  have hm := hL m (List.mem_iff_getElem?.mpr ⟨i, hi⟩)
  have q0 := (hlp m hm).1 0 (by omega)
  have e0 : σ 89 (5 * m) = nI (lp n m 0) := la.2.2 m 0 hm (by omega)
  have hfit : fitM n (bdT (lp n) n ch c) (lp n m) c ↔ (lp n m 0 = c ∧ ∀ s, s < c → ∀ r, r < n → lp n m r ≠ lp n (ch s) r) := by
    unfold fitM
    constructor
    · rintro ⟨a, b⟩
      exact ⟨a, fun s hs r hr => (bdT_0 c r _ hr).mp (b r hr) s hs⟩
    · rintro ⟨a, b⟩
      exact ⟨a, fun r hr => (bdT_0 c r _ hr).mpr (fun s hs => b s hs r hr)⟩
  unfold f_R_canTake
  rw [ald_nI (by omega) (by decide), l97 i m hi, show (5 : Int32) = nI 5 from rfl, nI_mul, ald_nI (by omega) (by decide), e0]
  simp only [jn_eq]
  have key : ∀ b : Bool, f_R_canTake_L27 (nI n) (nI i) (nI c) σ (fun (v4_14 : Int32) => some (zb v4_14)) FU (bI b) 0 = some (bI (b && dB (∀ s, s < c → ∀ r, r < n → lp n m r ≠ lp n (ch s) r))) := by
    intro b
    refine loopE (fun f s (x : Bool) => f_R_canTake_L27 (nI n) (nI i) (nI c) σ (fun (v4_14 : Int32) => some (zb v4_14)) f (bI x) (nI s)) c (fun s x => x = (b && dB (∀ s', s' < s → ∀ r, r < n → lp n m r ≠ lp n (ch s') r)))
      (fun R => R = some (bI (b && dB (∀ s, s < c → ∀ r, r < n → lp n m r ≠ lp n (ch s) r)))) ?_ ?_ FU 0 b (by omega) (FU_gt (by omega)) (by rw [dB_t (fun s hs => by omega), Bool.and_true])
    · intro f s x hs hx
      cases x
      · left
        show f_R_canTake_L27 (nI n) (nI i) (nI c) σ _ (f + 1) (bI false) (nI s) = _
        rw [f_R_canTake_L27.eq_2]
        rw [if_pos (nI_lt hs (by omega)), if_pos (by rfl)]
        have : (b && dB (∀ s, s < c → ∀ r, r < n → lp n m r ≠ lp n (ch s) r)) = false := by
          cases b
          · rfl
          · rw [Bool.true_and] at hx ⊢
            exact dB_f (fun h => dB_fi.mp hx.symm (fun s' hs' => h s' (by omega)))
        rw [this]; rfl
      · right
        obtain ⟨y, hy, hm'⟩ := rc s hs
        have hx2 := Bool.and_eq_true_iff.mp hx.symm
        have hx3 := dB_iff.mp hx2.2
        refine ⟨dB (∀ r, r < n → lp n m r ≠ lp n (ch s) r), ?_, ?_⟩
        · show f_R_canTake_L27 (nI n) (nI i) (nI c) σ _ (f + 1) (bI true) (nI s) = _
          rw [f_R_canTake_L27.eq_2]
          rw [if_pos (nI_lt hs (by omega)), if_neg (by decide), take41 h2 la l97 hL hLl hn hlp hi (show s < 5 by omega) hy hm', Bool.true_and, nI_1]
        · rw [hx2.1, Bool.true_and]
          apply dB_cong
          constructor
          · intro h s' hs'
            by_cases e : s' = s
            · rw [e]; exact h
            · exact hx3 s' (by omega)
          · intro h; exact h s (by omega)
    · intro f x hx
      show f_R_canTake_L27 (nI n) (nI i) (nI c) σ _ (f + 1) (bI x) (nI c) = _
      rw [f_R_canTake_L27.eq_2]
      rw [if_neg (nI_nlt (Nat.le_refl _) (by omega)), zb_bI, hx]
  by_cases h0 : lp n m 0 = c
  · rw [if_pos (by rw [h0])]
    refine (key true).trans ?_
    rw [Bool.true_and]
    congr 2
    apply dB_cong
    rw [hfit]
    exact ⟨fun h => ⟨h0, h⟩, fun h => h.2⟩
  · rw [if_neg (by rw [eq_nI (by omega) (by omega)]; exact h0)]
    refine (key false).trans ?_
    rw [Bool.false_and, dB_f (fun h => h0 (hfit.mp h).1)]
end RT
