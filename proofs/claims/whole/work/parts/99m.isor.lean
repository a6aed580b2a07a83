/-! isotopies, the reference and the operation -/
section ISOR
variable {σ : St} {M : Nat} {N : Nat → Nat} {B : Nat → Bd} {i j n : Nat}
theorem brings_ok (mw : MW σ M N B) (la : LA σ n) (hi : i < M) (hj : j < M) (hni : N i = n) (hnj : N j = n) (hS : SQ n (B i)) (hT : SQ n (B j)) {a b : Nat} (ha : a < facN n) (hb : b < facN n) : ∃ τ, f_R_brings σ (nI i) (nI j) (nI a) (nI b) = some (bI (dB (BR n (B i) (B j) (lp n a) (lp n b))), τ) ∧ Frx 90 σ τ := by
  have hM := mw.le
  have hn := mw.n hi
  rw [hni] at hn
  have hf := fac_le hn.1 hn.2
  have hp := lp_pm hn.1 hn.2 ha
  have hq := lp_pm hn.1 hn.2 hb
  have la0 : σ 89 (5 * a) = nI (lp n a 0) := la.2.2 a 0 ha (by omega)
  unfold f_R_brings
  rw [ald_nI (by omega) (by decide), mw.od hi, hni]
  have A : ∀ K : St → Option (Int32 × St), ∃ τ, f_R_brings_L11 (nI i) (nI j) (nI a) (nI b) (nI n) K FU 0 σ = K τ ∧ (∀ c, c < n → τ 90 (sg (B i) 0 c) = nI (sg (B j) (lp n a 0) (lp n b c))) ∧ Frx 90 σ τ := by
    intro K
    refine loopE (fun f c (τ : St) => f_R_brings_L11 (nI i) (nI j) (nI a) (nI b) (nI n) K f (nI c) τ) n (fun c τ => (∀ c', c' < c → τ 90 (sg (B i) 0 c') = nI (sg (B j) (lp n a 0) (lp n b c'))) ∧ Frx 90 σ τ)
      (fun R => ∃ τ, R = K τ ∧ (∀ c, c < n → τ 90 (sg (B i) 0 c) = nI (sg (B j) (lp n a 0) (lp n b c))) ∧ Frx 90 σ τ) ?_ ?_ FU 0 σ (by omega) (FU_gt (by omega)) ⟨fun r hr => by omega, fun m _ => rfl⟩
    · rintro f c τ hc ⟨p1, p2⟩
      have mwτ : MW τ M N B := mw.fr ⟨fun m hm => p2 m (by omega), by rw [p2 82 (by omega)], by rw [p2 82 (by omega)]⟩
      have laτ : LA τ n := la.fr (by rw [p2 82 (by omega)]) (by rw [p2 82 (by omega)]) (p2 89 (by omega))
      have e1 := sq_at mwτ hi (by rw [hni]; exact hS) (show 0 < N i by omega) (show c < N i by omega)
      rw [show nI 0 = (0 : Int32) from rfl] at e1
      have e2 := sq_at mwτ hj (by rw [hnj]; exact hT) (show lp n a 0 < N j by rw [hnj]; exact hp.1 0 (by omega)) (show lp n b c < N j by rw [hnj]; exact hq.1 c hc)
      have e3 : τ 89 (5 * a) = nI (lp n a 0) := by rw [p2 89 (by omega)]; exact la0
      have hs := hS.lt (show 0 < n by omega) hc
      refine Or.inr ⟨wr τ 90 (sg (B i) 0 c) (nI (sg (B j) (lp n a 0) (lp n b c))), ?_, fun c' hc' => ?_, fun m hm => by rw [wr_fn hm]; exact p2 m hm⟩
      · show f_R_brings_L11 (nI i) (nI j) (nI a) (nI b) (nI n) K (f + 1) (nI c) τ = _
        rw [f_R_brings_L11.eq_2]
        rw [if_pos (nI_lt hc (by omega)), e1, cap_some, show (5 : Int32) = nI 5 from rfl, nI_mul, nI_mul, nI_add, ald_nI (by omega) (by decide), e3, ald_nI (by omega) (by decide), laτ.2.2 b c hb hc, e2, cap_some, show 5 = 5 from rfl, ast_nI (by omega) (by decide), nI_1]
      · rw [wr_get]
        by_cases e : c' = c
        · rw [if_pos ⟨rfl, by rw [e]⟩, e]
        · rw [if_neg (fun h => e (hS.inj_r (show 0 < n by omega) (show c' < n by omega) hc h.2))]
          exact p1 c' (by omega)
    · rintro f τ ⟨p1, p2⟩
      refine ⟨τ, ?_, p1, p2⟩
      show f_R_brings_L11 (nI i) (nI j) (nI a) (nI b) (nI n) K (f + 1) (nI n) τ = _
      rw [f_R_brings_L11.eq_2]
      rw [if_neg (nI_nlt (Nat.le_refl _) (by omega))]
  obtain ⟨τ, e, h90, fr⟩ := A (fun (σ_9 : St) => f_R_brings_L68 (nI i) (nI j) (nI a) (nI b) (nI n) σ_9 (fun (v6_21 : Int32) => some ((zb v6_21), σ_9)) FU 1 1)
  refine ⟨τ, e.trans ?_, fr⟩
  have hx : ∀ s, ∃ v, ∀ c, c < n → sg (B i) 0 c = s → v = sg (B j) (lp n a 0) (lp n b c) := by
    intro s
    by_cases hs : ∃ c, c < n ∧ sg (B i) 0 c = s
    · obtain ⟨c, hc, e⟩ := hs
      exact ⟨sg (B j) (lp n a 0) (lp n b c), fun c' hc' e' => by rw [hS.inj_r (show 0 < n by omega) hc hc' (by rw [e, e'])]⟩
    · exact ⟨0, fun c hc e => absurd ⟨c, hc, e⟩ hs⟩
  obtain ⟨O, hO⟩ := Classical.axiomOfChoice hx
  have hO1 : ∀ c, c < n → O (sg (B i) 0 c) = sg (B j) (lp n a 0) (lp n b c) := fun c hc => hO _ c hc rfl
  have hv : ∀ s, s < n → τ 90 s = nI (O s) ∧ O s < n := by
    intro s hs
    obtain ⟨c, hc, e⟩ := row_sur hS (show 0 < n by omega) hs
    rw [← e, h90 c hc, hO1 c hc]
    exact ⟨rfl, hT.lt (hp.1 0 (by omega)) (hq.1 c hc)⟩
  have mwτ : MW τ M N B := mw.fr ⟨fun m hm => fr m (by omega), by rw [fr 82 (by omega)], by rw [fr 82 (by omega)]⟩
  have laτ : LA τ n := la.fr (by rw [fr 82 (by omega)]) (by rw [fr 82 (by omega)]) (fr 89 (by omega))
  have inner : ∀ (r : Nat) (K : Int32 → Option (Int32 × St)), r < n → f_R_brings_L83 (nI i) (nI j) (nI a) (nI b) (nI n) (nI r) τ K FU 1 0 = K (bI (true && dB (∀ c, c < n → O (sg (B i) r c) = sg (B j) (lp n a r) (lp n b c)))) := by
    intro r K hr
    refine loop_flag (fun f c x => f_R_brings_L83 (nI i) (nI j) (nI a) (nI b) (nI n) (nI r) τ K f (bI x) (nI c)) n (fun c => O (sg (B i) r c) = sg (B j) (lp n a r) (lp n b c)) (fun x => K (bI x)) (by omega) true ?_ ?_
    · intro f c x hc
      have e1 := sq_at mwτ hi (by rw [hni]; exact hS) (show r < N i by omega) (show c < N i by omega)
      have e2 := sq_at mwτ hj (by rw [hnj]; exact hT) (show lp n a r < N j by rw [hnj]; exact hp.1 r hr) (show lp n b c < N j by rw [hnj]; exact hq.1 c hc)
      have hs := hS.lt hr hc
      have b1 := (hv _ hs).2
      have b2 := hT.lt (hp.1 r hr) (hq.1 c hc)
      show f_R_brings_L83 (nI i) (nI j) (nI a) (nI b) (nI n) (nI r) τ K (f + 1) (bI x) (nI c) = _
      rw [f_R_brings_L83.eq_2]
      rw [if_pos (nI_lt hc (by omega))]
      simp only [jn_eq, nI_1]
      cases x
      · rw [if_pos (by rfl)]; rfl
      · rw [if_neg (by decide), e1, cap_some, ald_nI (by omega) (by decide), (hv _ hs).1, show (5 : Int32) = nI 5 from rfl, nI_mul, nI_mul, nI_add, nI_add, ald_nI (by omega) (by decide), laτ.2.2 a r ha hr, ald_nI (by omega) (by decide), laτ.2.2 b c hb hc, e2, cap_some]
        by_cases h : O (sg (B i) r c) = sg (B j) (lp n a r) (lp n b c)
        · rw [if_pos (by rw [h]), dB_t h]; rfl
        · rw [if_neg (by rw [eq_nI (by omega) (by omega)]; exact h), dB_f h]; rfl
    · intro f x
      show f_R_brings_L83 (nI i) (nI j) (nI a) (nI b) (nI n) (nI r) τ K (f + 1) (bI x) (nI n) = _
      rw [f_R_brings_L83.eq_2]
      rw [if_neg (nI_nlt (Nat.le_refl _) (by omega))]
  have hfin : dB (∀ k, k < n - 1 → ∀ c, c < n → O (sg (B i) (k + 1) c) = sg (B j) (lp n a (k + 1)) (lp n b c)) = dB (BR n (B i) (B j) (lp n a) (lp n b)) := by
    apply dB_cong
    constructor
    · intro h
      refine ⟨O, fun r c hr hc => ?_⟩
      by_cases hr0 : r = 0
      · subst hr0; exact hO1 c hc
      · have := h (r - 1) (by omega) c hc
        rw [show r - 1 + 1 = r by omega] at this
        exact this
    · rintro ⟨O', h⟩ k hk c hc
      rw [← h (k + 1) c (by omega) hc]
      obtain ⟨c', hc', e⟩ := row_sur hS (show 0 < n by omega) (hS.lt (show k + 1 < n by omega) hc)
      rw [← e, hO1 c' hc', h 0 c' (by omega) hc']
  have A2 := loopE (fun f k (x : Bool) => f_R_brings_L68 (nI i) (nI j) (nI a) (nI b) (nI n) τ (fun (v6_21 : Int32) => some ((zb v6_21), τ)) f (bI x) (nI (k + 1))) (n - 1)
    (fun k x => x = dB (∀ k', k' < k → ∀ c, c < n → O (sg (B i) (k' + 1) c) = sg (B j) (lp n a (k' + 1)) (lp n b c)))
    (fun R => R = some (bI (dB (∀ k, k < n - 1 → ∀ c, c < n → O (sg (B i) (k + 1) c) = sg (B j) (lp n a (k + 1)) (lp n b c))), τ)) ?_ ?_ FU 0 true (by omega) (FU_gt (by omega)) (by rw [dB_t]; intro k hk; omega)
  · rw [hfin] at A2
    exact A2
  · intro f k x hk hx
    cases x
    · left
      show f_R_brings_L68 (nI i) (nI j) (nI a) (nI b) (nI n) τ _ (f + 1) (bI false) (nI (k + 1)) = _
      rw [f_R_brings_L68.eq_2]
      have hx := dB_fi.mp hx.symm
      rw [if_pos (nI_lt (show k + 1 < n by omega) (by omega)), if_pos (by rfl), dB_f (fun h => hx (fun k' hk' => h k' (by omega)))]
      rfl
    · right
      have hx := dB_iff.mp hx.symm
      refine ⟨dB (∀ c, c < n → O (sg (B i) (k + 1) c) = sg (B j) (lp n a (k + 1)) (lp n b c)), ?_, ?_⟩
      · show f_R_brings_L68 (nI i) (nI j) (nI a) (nI b) (nI n) τ _ (f + 1) (bI true) (nI (k + 1)) = _
        rw [f_R_brings_L68.eq_2]
        rw [if_pos (nI_lt (show k + 1 < n by omega) (by omega)), if_neg (by decide), show bI true = (1 : Int32) from rfl, inner (k + 1) _ (by omega), Bool.true_and, nI_1]
      · apply dB_cong
        constructor
        · intro h k' hk'
          by_cases e : k' = k
          · rw [e]; exact h
          · exact hx k' (by omega)
        · intro h; exact h k (by omega)
  · intro f x hx
    show f_R_brings_L68 (nI i) (nI j) (nI a) (nI b) (nI n) τ _ (f + 1) (bI x) (nI (n - 1 + 1)) = _
    rw [show n - 1 + 1 = n by omega]
    rw [f_R_brings_L68.eq_2]
    rw [if_neg (nI_nlt (Nat.le_refl _) (by omega)), zb_bI, hx]
noncomputable def IR (n : Nat) (S T : Bd) (a : Nat) : Nat := sumN (facN n) (fun b => (dB (BR n S T (lp n a) (lp n b))).toNat)
theorem iso108 (mw : MW σ M N B) (la : LA σ n) (hi : i < M) (hj : j < M) (hni : N i = n) (hnj : N j = n) (hS : SQ n (B i)) (hT : SQ n (B j)) {a : Nat} (ha : a < facN n) (x0 : Nat) (K : Int32 → St → Option (Int32 × St)) : ∃ τ, f_R_isotopies_L108 (nI i) (nI j) (nI a) K FU (nI x0) 0 σ = K (nI (x0 + IR n (B i) (B j) a)) τ ∧ Frx 90 σ τ := by
  have hn := mw.n hi
  rw [hni] at hn
  have hf := fac_le hn.1 hn.2
  refine loopE (fun f b (x : Nat × St) => f_R_isotopies_L108 (nI i) (nI j) (nI a) K f (nI x.1) (nI b) x.2) (facN n) (fun b x => x.1 = x0 + sumN b (fun b => (dB (BR n (B i) (B j) (lp n a) (lp n b))).toNat) ∧ Frx 90 σ x.2)
    (fun R => ∃ τ, R = K (nI (x0 + IR n (B i) (B j) a)) τ ∧ Frx 90 σ τ) ?_ ?_ FU 0 (x0, σ) (by omega) (FU_gt (by omega)) ⟨rfl, fun m _ => rfl⟩
  · rintro f b ⟨x, τ⟩ hb ⟨p1, p2⟩
    have p1 : x = x0 + sumN b (fun b => (dB (BR n (B i) (B j) (lp n a) (lp n b))).toNat) := p1
    have p2 : Frx 90 σ τ := p2
    have mwτ : MW τ M N B := mw.fr ⟨fun m hm => p2 m (by omega), by rw [p2 82 (by omega)], by rw [p2 82 (by omega)]⟩
    have laτ : LA τ n := la.fr (by rw [p2 82 (by omega)]) (by rw [p2 82 (by omega)]) (p2 89 (by omega))
    obtain ⟨υ, e, fu⟩ := brings_ok mwτ laτ hi hj hni hnj hS hT ha hb
    refine Or.inr ⟨(x + (dB (BR n (B i) (B j) (lp n a) (lp n b))).toNat, υ), ?_, by rw [p1]; exact Nat.add_assoc .., fun m hm => (fu m hm).trans (p2 m hm)⟩
    show f_R_isotopies_L108 (nI i) (nI j) (nI a) K (f + 1) (nI x) (nI b) τ = f_R_isotopies_L108 (nI i) (nI j) (nI a) K f (nI (x + (dB (BR n (B i) (B j) (lp n a) (lp n b))).toNat)) (nI (b + 1)) υ
    rw [f_R_isotopies_L108.eq_2]
    rw [laτ.2.1, if_pos (nI_lt hb (by omega)), e, cal_some]
    simp only [jn_eq, nI_1 b]
    cases dB (BR n (B i) (B j) (lp n a) (lp n b))
    · rw [if_pos (by rfl), Int32.add_zero]; rfl
    · rw [if_neg (by decide), nI_1]; rfl
  · rintro f ⟨x, τ⟩ ⟨p1, p2⟩
    have p1 : x = x0 + IR n (B i) (B j) a := p1
    have p2 : Frx 90 σ τ := p2
    have laτ : LA τ n := la.fr (by rw [p2 82 (by omega)]) (by rw [p2 82 (by omega)]) (p2 89 (by omega))
    refine ⟨τ, ?_, p2⟩
    show f_R_isotopies_L108 (nI i) (nI j) (nI a) K (f + 1) (nI x) (nI (facN n)) τ = _
    rw [f_R_isotopies_L108.eq_2]
    rw [laτ.2.1, if_neg (nI_nlt (Nat.le_refl _) (by omega)), p1]
theorem iso96 (mw : MW σ M N B) (la : LA σ n) (hi : i < M) (hj : j < M) (hni : N i = n) (hnj : N j = n) (hS : SQ n (B i)) (hT : SQ n (B j)) (K : Int32 → St → Option (Int32 × St)) : ∃ τ, f_R_isotopies_L96 (nI i) (nI j) K FU 0 0 σ = K (nI (sumN (facN n) (IR n (B i) (B j)))) τ ∧ Frx 90 σ τ := by
  have hn := mw.n hi
  rw [hni] at hn
  have hf := fac_le hn.1 hn.2
  refine loopE (fun f b (x : Nat × St) => f_R_isotopies_L96 (nI i) (nI j) K f (nI x.1) (nI b) x.2) (facN n) (fun b x => x.1 = sumN b (IR n (B i) (B j)) ∧ Frx 90 σ x.2)
    (fun R => ∃ τ, R = K (nI (sumN (facN n) (IR n (B i) (B j)))) τ ∧ Frx 90 σ τ) ?_ ?_ FU 0 (0, σ) (by omega) (FU_gt (by omega)) ⟨rfl, fun m _ => rfl⟩
  · rintro f a ⟨x, τ⟩ ha ⟨p1, p2⟩
    have p1 : x = sumN a (IR n (B i) (B j)) := p1
    have p2 : Frx 90 σ τ := p2
    have mwτ : MW τ M N B := mw.fr ⟨fun m hm => p2 m (by omega), by rw [p2 82 (by omega)], by rw [p2 82 (by omega)]⟩
    have laτ : LA τ n := la.fr (by rw [p2 82 (by omega)]) (by rw [p2 82 (by omega)]) (p2 89 (by omega))
    obtain ⟨υ, e, fu⟩ := iso108 mwτ laτ hi hj hni hnj hS hT ha x (fun (v3_19 : Int32) (σ_20 : St) => f_R_isotopies_L96 (nI i) (nI j) K f v3_19 (nI a + 1) σ_20)
    refine Or.inr ⟨(x + IR n (B i) (B j) a, υ), ?_, by rw [p1]; rfl, fun m hm => (fu m hm).trans (p2 m hm)⟩
    show f_R_isotopies_L96 (nI i) (nI j) K (f + 1) (nI x) (nI a) τ = f_R_isotopies_L96 (nI i) (nI j) K f (nI (x + IR n (B i) (B j) a)) (nI (a + 1)) υ
    rw [f_R_isotopies_L96.eq_2]
    rw [laτ.2.1, if_pos (nI_lt ha (by omega)), e]
    show f_R_isotopies_L96 (nI i) (nI j) K f _ (nI a + 1) υ = _
    rw [nI_1]
  · rintro f ⟨x, τ⟩ ⟨p1, p2⟩
    have p1 : x = sumN (facN n) (IR n (B i) (B j)) := p1
    have p2 : Frx 90 σ τ := p2
    have laτ : LA τ n := la.fr (by rw [p2 82 (by omega)]) (by rw [p2 82 (by omega)]) (p2 89 (by omega))
    refine ⟨τ, ?_, p2⟩
    show f_R_isotopies_L96 (nI i) (nI j) K (f + 1) (nI x) (nI (facN n)) τ = _
    rw [f_R_isotopies_L96.eq_2]
    rw [laτ.2.1, if_neg (nI_nlt (Nat.le_refl _) (by omega)), p1]
end ISOR
