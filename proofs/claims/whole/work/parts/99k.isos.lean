/-! isotopies between two squares -/
theorem sumN_one {k : Nat} {p : Nat → Prop} (h : ∀ i j, i < k → j < k → p i → p j → i = j) : sumN k (fun i => (dB (p i)).toNat) = (dB (∃ i, i < k ∧ p i)).toNat := by
  induction k with
  | zero => rw [dB_f (fun ⟨i, hi, _⟩ => by omega)]; rfl
  | succ k ih =>
    rw [sumN, ih (fun i j hi hj => h i j (by omega) (by omega))]
    by_cases hk : p k
    · rw [dB_f (fun ⟨i, hi, hp⟩ => by have := h i k (by omega) (by omega) hp hk; omega), dB_t hk, dB_t ⟨k, by omega, hk⟩]; rfl
    · rw [dB_f hk]
      show _ + 0 = _
      rw [Nat.add_zero]
      congr 1
      apply dB_cong
      constructor
      · rintro ⟨i, hi, hp⟩; exact ⟨i, by omega, hp⟩
      · rintro ⟨i, hi, hp⟩
        refine ⟨i, ?_, hp⟩
        have : i ≠ k := fun e => hk (by rw [← e]; exact hp)
        omega
theorem sumN_plus {k : Nat} {f g : Nat → Nat} : sumN k (fun i => f i + g i) = sumN k f + sumN k g := by
  induction k with
  | zero => rfl
  | succ k ih => rw [sumN, ih, sumN, sumN]; omega
theorem sumN_0 {k : Nat} : sumN k (fun _ => 0) = 0 := by
  induction k with
  | zero => rfl
  | succ k ih => rw [sumN, ih]
theorem sumN_swap {a b : Nat} {f : Nat → Nat → Nat} : sumN a (fun i => sumN b (fun j => f i j)) = sumN b (fun j => sumN a (fun i => f i j)) := by
  induction a with
  | zero => exact sumN_0.symm
  | succ a ih =>
    rw [sumN, ih, ← sumN_plus]
    rfl
def BR (n : Nat) (S T : Bd) (p q : Nat → Nat) : Prop := ∃ O : Nat → Nat, ∀ r c, r < n → c < n → O (sg S r c) = sg T (p r) (q c)
def CB (n : Nat) (T : Bd) (S : Bd) (p : Nat → Nat) (M : Nat → Nat) : Prop := ∀ c, c < n → 1 ≤ c → ∀ r, r < n → 1 ≤ r → sg T (p r) (cS n T (p 0) (M (sg S 0 c))) = M (sg S r c)
section ISO
variable {n : Nat} {S T : Bd} {p : Nat → Nat}
theorem col_sur0 (hS : SQ n S) {c s : Nat} (hc : c < n) (hs : s < n) : ∃ r, r < n ∧ sg S r c = s := inj_sur (f := fun r => sg S r c) ⟨fun r hr => hS.lt hr hc, fun r r' hr hr' e => hS.inj_c hr hr' hc e⟩ hs
theorem BR_q (hS : SQ n S) (hT : SQ n T) (hp : PM n p) {q : Nat → Nat} (hq : PM n q) (h0 : 0 < n) (h : BR n S T p q) {M : Nat → Nat} (hM : ∀ r, r < n → M (sg S r 0) = sg T (p r) (q 0)) : (∀ r c, r < n → c < n → M (sg S r c) = sg T (p r) (q c)) ∧ ∀ c, c < n → q c = cS n T (p 0) (M (sg S 0 c)) := by
  obtain ⟨O, hO⟩ := h
  have hMO : ∀ s, s < n → M s = O s := by
    intro s hs
    obtain ⟨r, hr, e⟩ := col_sur0 hS h0 hs
    rw [← e, hM r hr, hO r 0 hr h0]
  have h1 : ∀ r c, r < n → c < n → M (sg S r c) = sg T (p r) (q c) := fun r c hr hc => by rw [hMO _ (hS.lt hr hc), hO r c hr hc]
  refine ⟨h1, fun c hc => ?_⟩
  rw [h1 0 c h0 hc, cS_of hT (hp.1 0 h0) (hq.1 c hc)]
theorem CB_iff (hS : SQ n S) (hT : SQ n T) (hp : PM n p) (h0 : 0 < n) {d : Nat} (hd : d < n) {M : Nat → Nat} (hM : ∀ r, r < n → M (sg S r 0) = sg T (p r) d) : CB n T S p M ↔ ∃ q, PM n q ∧ q 0 = d ∧ BR n S T p q := by
  constructor
  · intro h
    have hMl : ∀ s, s < n → M s < n := by
      intro s hs
      obtain ⟨r, hr, e⟩ := col_sur0 hS h0 hs
      rw [← e, hM r hr]; exact hT.lt (hp.1 r hr) hd
    have hMi : ∀ s s', s < n → s' < n → M s = M s' → s = s' := by
      intro s s' hs hs' e
      obtain ⟨r, hr, e1⟩ := col_sur0 hS h0 hs
      obtain ⟨r', hr', e2⟩ := col_sur0 hS h0 hs'
      rw [← e1, ← e2, hM r hr, hM r' hr'] at e
      have := hp.2 r r' hr hr' (hT.inj_c (hp.1 r hr) (hp.1 r' hr') hd e)
      rw [← e1, ← e2, this]
    have hq0 : cS n T (p 0) (M (sg S 0 0)) = d := by
      rw [hM 0 h0, cS_of hT (hp.1 0 h0) hd]
    refine ⟨fun c => cS n T (p 0) (M (sg S 0 c)), ⟨fun c hc => (cS_ok hT (hp.1 0 h0) (hMl _ (hS.lt h0 hc))).1, fun c c' hc hc' e => ?_⟩, hq0, M, fun r c hr hc => ?_⟩
    · have e : cS n T (p 0) (M (sg S 0 c)) = cS n T (p 0) (M (sg S 0 c')) := e
      have e1 := (cS_ok hT (hp.1 0 h0) (hMl _ (hS.lt h0 hc))).2
      have e2 := (cS_ok hT (hp.1 0 h0) (hMl _ (hS.lt h0 hc'))).2
      rw [← e, e1] at e2
      exact hS.inj_r h0 hc hc' (hMi _ _ (hS.lt h0 hc) (hS.lt h0 hc') e2)
    · show M (sg S r c) = sg T (p r) (cS n T (p 0) (M (sg S 0 c)))
      by_cases hr0 : r = 0
      · subst hr0
        exact (cS_ok hT (hp.1 0 h0) (hMl _ (hS.lt h0 hc))).2.symm
      · by_cases hc0 : c = 0
        · subst hc0
          rw [hq0, hM r hr]
        · exact (h c hc (by omega) r hr (by omega)).symm
  · rintro ⟨q, hq, rfl, hb⟩ c hc _ r hr _
    obtain ⟨a, b⟩ := BR_q hS hT hp hq h0 hb hM
    rw [← b c hc, a r c hr hc]
theorem BR_congr {p' q q' : Nat → Nat} (hp : ∀ i, i < n → p i = p' i) (hq : ∀ i, i < n → q i = q' i) : BR n S T p q ↔ BR n S T p' q' := by
  constructor
  · rintro ⟨O, h⟩
    exact ⟨O, fun r c hr hc => by rw [h r c hr hc, hp r hr, hq c hc]⟩
  · rintro ⟨O, h⟩
    exact ⟨O, fun r c hr hc => by rw [h r c hr hc, hp r hr, hq c hc]⟩
noncomputable def CC (n : Nat) (S T : Bd) (p : Nat → Nat) (d : Nat) : Bool := dB (∃ q, PM n q ∧ q 0 = d ∧ BR n S T p q)
theorem iso_row (h1 : 2 ≤ n) (h2 : n ≤ 5) (hS : SQ n S) (hT : SQ n T) (hp : PM n p) : sumN n (fun d => (CC n S T p d).toNat) = sumN (facN n) (fun i => (dB (BR n S T p (lp n i))).toNat) := by
  have e1 : ∀ i, i < facN n → (dB (BR n S T p (lp n i))).toNat = sumN n (fun d => (dB (lp n i 0 = d ∧ BR n S T p (lp n i))).toNat) := by
    intro i hi
    have hl := lp_pm h1 h2 hi
    rw [sumN_one (p := fun d => lp n i 0 = d ∧ BR n S T p (lp n i)) (fun a b _ _ ha hb => by rw [← ha.1, ← hb.1])]
    congr 1
    apply dB_cong
    constructor
    · intro h; exact ⟨lp n i 0, hl.1 0 (by omega), rfl, h⟩
    · rintro ⟨_, _, _, h⟩; exact h
  rw [sumN_congr e1, sumN_swap]
  apply sumN_congr
  intro d hd
  rw [sumN_one (p := fun i => lp n i 0 = d ∧ BR n S T p (lp n i)) (fun i j hi hj ha hb => ?_)]
  · congr 1
    apply dB_cong
    constructor
    · rintro ⟨q, hq, e, hb⟩
      obtain ⟨a, b⟩ := lp_sur h1 h2 hq
      exact ⟨_, a, by rw [b 0 (by omega), e], (BR_congr (fun _ _ => rfl) b).mpr hb⟩
    · rintro ⟨i, hi, e, hb⟩
      exact ⟨lp n i, lp_pm h1 h2 hi, e, hb⟩
  · have hl := lp_pm h1 h2 hi
    have hl' := lp_pm h1 h2 hj
    have hM : ∃ M : Nat → Nat, ∀ r, r < n → M (sg S r 0) = sg T (p r) d := by
      obtain ⟨O, hO⟩ := ha.2
      exact ⟨O, fun r hr => by rw [hO r 0 hr (by omega), ha.1]⟩
    obtain ⟨M, hM⟩ := hM
    have q1 := (BR_q hS hT hp hl (by omega) ha.2 (M := M) (fun r hr => by rw [hM r hr, ha.1])).2
    have q2 := (BR_q hS hT hp hl' (by omega) hb.2 (M := M) (fun r hr => by rw [hM r hr, hb.1])).2
    have a1 := lp_all h1 h2 hi
    have a2 := lp_all h1 h2 hj
    rw [← a1.2.2.2.2, ← a2.2.2.2.2]
    exact rk_congr n (Nat.le_refl n) (fun c hc => by rw [q1 c hc, q2 c hc])
theorem iso_sum (h1 : 2 ≤ n) (h2 : n ≤ 5) (hS : SQ n S) (hT : SQ n T) : sumN (facN n) (fun m => sumN n (fun d => (CC n S T (cp m) d).toNat)) = sumN (facN n) (fun b => sumN (facN n) (fun i => (dB (BR n S T (lp n b) (lp n i))).toNat)) := by
  refine sum_maps h1 h2 _ _ (fun m b hm hb e => ?_)
  rw [iso_row h1 h2 hS hT (cp_pm h1 h2 hm).1]
  apply sumN_congr
  intro i _
  congr 1
  apply dB_cong
  exact BR_congr e (fun _ _ => rfl)
theorem iso_le (h1 : 2 ≤ n) (h2 : n ≤ 5) : sumN (facN n) (fun m => sumN n (fun d => (CC n S T (cp m) d).toNat)) ≤ 600 := by
  have hf := fac_le h1 h2
  have : sumN (facN n) (fun m => sumN n (fun d => (CC n S T (cp m) d).toNat)) ≤ facN n * 5 := sumN_le (fun m _ => Nat.le_trans (sumN_le (b := 1) (fun d _ => tn_le _)) (by omega))
  omega
end ISO
