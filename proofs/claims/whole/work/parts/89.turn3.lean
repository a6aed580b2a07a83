/-! turnRows of the reference; turn -/
theorem mr_at {σ : St} {M : Nat} {N : Nat → Nat} {B : Nat → Bd} (h : MR σ M N B) (hM : M ≤ 12) {j r c : Nat} (hj : j < M) (hN : N j ≤ 5) (hr : r < N j) (hc : c < N j) : f_R_at σ (nI j) (nI r) (nI c) = some (ce (B j r c)) := by
  have hb := ix25 hN hr hc
  unfold f_R_at
  rw [ald_nI (by omega) (by decide), h.2.1 j hj, c25, ald_nI (by omega) (by decide), h.2.2 j r c hj hr hc]
theorem upG_same {B : Nat → Bd} {j : Nat} : upG B j (B j) = B := by
  funext i
  unfold upG
  split
  · rename_i h; rw [h]
  · rfl
section RT
variable {σ : St} {M : Nat} {N : Nat → Nat} {B : Nat → Bd}
theorem rt11 (v1 v2 v3 v4 : Int32) {n : Nat} (hn : n ≤ 5) (K : St → Option (Int32 × St)) : ∃ τ, f_R_turnRows_L11 v1 v2 v3 v4 (nI n) K FU 0 σ = K τ ∧ (∀ i, i < n → τ 100 i = 0) ∧ Frx 100 σ τ := by
  refine loopE (fun m i (τ : St) => f_R_turnRows_L11 v1 v2 v3 v4 (nI n) K m (nI i) τ) n
    (fun i τ => (∀ i', i' < i → τ 100 i' = 0) ∧ Frx 100 σ τ)
    (fun R => ∃ τ, R = K τ ∧ (∀ i, i < n → τ 100 i = 0) ∧ Frx 100 σ τ) ?_ ?_ FU 0 _ (by omega) (FU_gt (by omega)) ⟨fun j hj => by omega, fun m hm => rfl⟩
  · intro m i τ hi ⟨p3, p4⟩
    refine Or.inr ⟨wr τ 100 i (zb 0), ?_, fun i' hi' => ?_, fun m' hm => ?_⟩
    · show f_R_turnRows_L11 v1 v2 v3 v4 (nI n) K (m + 1) (nI i) τ = _
      rw [f_R_turnRows_L11.eq_2]
      rw [if_pos (nI_lt hi (by omega)), asz_nI (by omega) (by decide), nI_1]
    · rw [wr_get]
      by_cases hji : i' = i
      · rw [if_pos ⟨rfl, hji⟩]; rfl
      · rw [if_neg (by omega)]; exact p3 i' (by omega)
    · rw [wr_fn hm]; exact p4 m' hm
  · intro m τ ⟨p3, p4⟩
    refine ⟨τ, ?_, p3, p4⟩
    show f_R_turnRows_L11 v1 v2 v3 v4 (nI n) K (m + 1) (nI n) τ = _
    rw [f_R_turnRows_L11.eq_2]
    rw [if_neg (nI_nlt (Nat.le_refl _) (by omega))]
theorem rt67 (h : MW σ M N B) {j r1 r2 c n : Nat} (hj : j < M) (hN : N j = n) (h1 : r1 < n) (h2 : r2 < n) (hc : c < n) (f1 : FRo n (B j) r1) (f2 : FRo n (B j) r2) (v7 : Int32) (K : Int32 → Option (Int32 × St)) : f_R_turnRows_L67 (nI j) (nI r1) (nI r2) (nI n) (nI c) v7 σ K FU (nI c) 0 = K (nI (piF n (B j) r1 r2 c)) := by
  have hw := h.wf hj
  rw [hN] at hw
  have hn : 2 ≤ n ∧ n ≤ 5 := ⟨hw.1, hw.2.1⟩
  obtain ⟨x, e1, e2⟩ := loop_acc (fun m i (x : Nat) => f_R_turnRows_L67 (nI j) (nI r1) (nI r2) (nI n) (nI c) v7 σ K m (nI x) (nI i)) n (fun i x => if B j r1 i = B j r2 c then i else x) (fun x => K (nI x)) (fun i x => x = if piF n (B j) r1 r2 c < i then piF n (B j) r1 r2 c else c) (by omega) c (by rw [if_neg (by omega)]) (by
    intro m i x hi _
    show f_R_turnRows_L67 (nI j) (nI r1) (nI r2) (nI n) (nI c) v7 σ K (m + 1) (nI x) (nI i) = _
    have b1 := hw.bd r1 i
    have b2 := hw.bd r2 c
    rw [f_R_turnRows_L67.eq_2]
    rw [if_pos (nI_lt hi (by omega)), at_ok h hj (by omega) (by omega), at_ok h hj (by omega) (by omega), cap_some, cap_some, nI_1]
    simp only [jn_eq]
    simp (disch := omega) only [ce_inj]
    split <;> rfl) (by
    intro i x hi hx
    show (if B j r1 i = B j r2 c then i else x) = _
    obtain ⟨p1, p2⟩ := piF_ok hw f1 f2 hc
    by_cases e : B j r1 i = B j r2 c
    · rw [if_pos e, ← piF_u hw f1 f2 hc e, if_pos (by omega)]
    · rw [if_neg e, hx]
      have : piF n (B j) r1 r2 c ≠ i := fun h => e (by rw [← h]; exact p2)
      by_cases hl : piF n (B j) r1 r2 c < i
      · rw [if_pos hl, if_pos (by omega)]
      · rw [if_neg hl, if_neg (by omega)]) (by
    intro m x hx
    show f_R_turnRows_L67 (nI j) (nI r1) (nI r2) (nI n) (nI c) v7 σ K (m + 1) (nI x) (nI n) = _
    rw [f_R_turnRows_L67.eq_2]
    rw [if_neg (nI_nlt (Nat.le_refl _) (by omega))])
  rw [if_pos (piF_ok hw f1 f2 hc).1] at e1
  rw [← e1]
  exact e2
theorem rt39 (h : MW σ M N B) {j r1 r2 c0 n p : Nat} {q : Nat → Nat} (hj : j < M) (hN : N j = n) (h1 : r1 < n) (h2 : r2 < n) (f1 : FRo n (B j) r1) (f2 : FRo n (B j) r2) (hR : RND n (B j) r1 r2 c0 p q) (h100 : ∀ i, i < n → σ 100 i = 0) (K : Int32 → St → Option (Int32 × St)) : ∃ τ, f_R_turnRows_L39 (nI j) (nI r1) (nI r2) (nI n) K FU (nI c0) 0 σ = K (nI p) τ ∧ (∀ c, c < n → τ 100 c = bI (rS q p c)) ∧ Frx 100 σ τ := by
  have hn := h.n hj
  rw [hN] at hn
  have hp1 := hR.p1
  have hpn := hR.pn
  have fr : ∀ τ, Frx 100 σ τ → MW τ M N B := fun τ f => h.fr ⟨fun m hm => f m (by omega), by rw [f 82 (by omega)], by rw [f 82 (by omega)]⟩
  have A := loopE (fun m i (τ : St) => f_R_turnRows_L39 (nI j) (nI r1) (nI r2) (nI n) K m (nI (q i)) (nI i) τ) p
    (fun i τ => (∀ c, c < n → τ 100 c = bI (rS q i c)) ∧ Frx 100 σ τ)
    (fun R => ∃ τ, R = K (nI p) τ ∧ (∀ c, c < n → τ 100 c = bI (rS q p c)) ∧ Frx 100 σ τ) ?_ ?_ FU 0 σ (by omega) (FU_gt (by omega)) ⟨fun c hc => ?_, fun m _ => rfl⟩
  · rw [hR.q0] at A
    exact A
  · rintro m i τ hi ⟨p1, p2⟩
    have hql := hR.ql i
    have hnew := hR.new hi
    have e100 := p1 (q i) hql
    rw [hnew] at e100
    refine Or.inr ⟨wr τ 100 (q i) 1, ?_, fun c hc => ?_, fun m' hm' => by rw [wr_fn hm']; exact p2 m' hm'⟩
    · show f_R_turnRows_L39 (nI j) (nI r1) (nI r2) (nI n) K (m + 1) (nI (q i)) (nI i) τ = _
      rw [f_R_turnRows_L39.eq_2]
      rw [ald_nI (by omega) (by decide), e100, if_pos (by rfl), asz_nI (by omega) (by decide), zb_1, nI_1]
      rw [rt67 (fr _ (fun m' hm' => by rw [wr_fn hm']; exact p2 m' hm')) hj hN h1 h2 hql f1 f2, hR.qs]
    · rw [rS_next, wr_get]
      by_cases e : c = q i
      · rw [if_pos ⟨rfl, e⟩, decide_eq_true e, Bool.or_true]; rfl
      · rw [if_neg (by omega), decide_eq_false e, Bool.or_false]; exact p1 c hc
  · rintro m τ ⟨p1, p2⟩
    refine ⟨τ, ?_, p1, p2⟩
    have e100 := p1 (q p) (hR.ql p)
    have : rS q p (q p) = true := dB_t ⟨0, by omega, by rw [hR.q0, hR.qp]⟩
    rw [this] at e100
    have hql := hR.ql p
    show f_R_turnRows_L39 (nI j) (nI r1) (nI r2) (nI n) K (m + 1) (nI (q p)) (nI p) τ = _
    rw [f_R_turnRows_L39.eq_2]
    rw [ald_nI (by omega) (by decide), e100, if_neg (by decide)]
  · rw [h100 c hc]
    have : rS q 0 c = false := dB_f (fun ⟨j, hj, _⟩ => by omega)
    rw [this]; rfl
def cutX (k : Nat) (X Y : Bd) : Bd := fun r c => if c < k then X r c else Y r c
theorem rt118 {σ : St} (h : MR σ M N B) (hM : M ≤ 12) (hW : ∀ j, j < M → Wf (N j) (B j)) {j r1 r2 n : Nat} (hj : j < M) (hN : N j = n) (h1 : r1 < n) (h2 : r2 < n) (hne : r1 ≠ r2) (S : Nat → Bool) (h100 : ∀ c, c < n → σ 100 c = bI (S c)) (v7 : Int32) (K : St → Option (Int32 × St)) : ∃ τ, f_R_turnRows_L118 (nI j) (nI r1) (nI r2) (nI n) v7 K FU 0 σ = K τ ∧ MR τ M N (upG B j (EX S r1 r2 (B j))) ∧ Frx 84 σ τ := by
  have hw := hW j hj
  rw [hN] at hw
  have hn : 2 ≤ n ∧ n ≤ 5 := ⟨hw.1, hw.2.1⟩
  have hN5 : ∀ i, i < M → N i ≤ 5 := fun i hi => (hW i hi).2.1
  have A := loopE (fun m i (τ : St) => f_R_turnRows_L118 (nI j) (nI r1) (nI r2) (nI n) v7 K m (nI i) τ) n
    (fun i τ => MR τ M N (upG B j (cutX i (EX S r1 r2 (B j)) (B j))) ∧ Frx 84 σ τ)
    (fun R => ∃ τ, R = K τ ∧ MR τ M N (upG B j (cutX n (EX S r1 r2 (B j)) (B j))) ∧ Frx 84 σ τ) ?_ ?_ FU 0 σ (by omega) (FU_gt (by omega)) ⟨?_, fun m _ => rfl⟩
  · obtain ⟨τ, e, m, f⟩ := A
    refine ⟨τ, e, ?_, f⟩
    have : cutX n (EX S r1 r2 (B j)) (B j) = EX S r1 r2 (B j) := by
      funext r c
      unfold cutX
      by_cases hc : c < n
      · rw [if_pos hc]
      · rw [if_neg hc]
        unfold EX
        split
        · rw [hw.out (Or.inr (by omega)), hw.out (Or.inr (by omega))]
        · rfl
    rw [this] at m
    exact m
  · rintro m c τ hc ⟨mr, f⟩
    have e100 : τ 100 c = bI (S c) := by rw [f 100 (by omega)]; exact h100 c hc
    have a1 := mr_at mr hM hj (hN5 j hj) (r := r1) (c := c) (by omega) (by omega)
    have a2 := mr_at mr hM hj (hN5 j hj) (r := r2) (c := c) (by omega) (by omega)
    rw [upG_at] at a1 a2
    have u1 : cutX c (EX S r1 r2 (B j)) (B j) r1 c = B j r1 c := by unfold cutX; rw [if_neg (by omega)]
    have u2 : cutX c (EX S r1 r2 (B j)) (B j) r2 c = B j r2 c := by unfold cutX; rw [if_neg (by omega)]
    rw [u1] at a1
    rw [u2] at a2
    have b1 := ix25 hn.2 h1 hc
    have b2 := ix25 hn.2 h2 hc
    show (∃ _, _) ∨ ∃ a' : St, f_R_turnRows_L118 (nI j) (nI r1) (nI r2) (nI n) v7 K (m + 1) (nI c) τ = _ ∧ _
    refine Or.inr ?_
    cases hS : S c
    · refine ⟨τ, ?_, ?_, f⟩
      · rw [f_R_turnRows_L118.eq_2]
        rw [if_pos (nI_lt hc (by omega)), ald_nI (by omega) (by decide), e100, hS, jn_eq, if_pos (by rfl), nI_1]
      · have : cutX (c + 1) (EX S r1 r2 (B j)) (B j) = cutX c (EX S r1 r2 (B j)) (B j) := by
          funext r c'
          unfold cutX
          by_cases e : c' = c
          · rw [if_pos (by omega), if_neg (by omega), e, EX_f hS]
          · by_cases hl : c' < c
            · rw [if_pos (by omega), if_pos hl]
            · rw [if_neg (by omega), if_neg hl]
        rw [this]; exact mr
    · have m1 := mr.set hN5 hj (r := r1) (c := c) (by omega) (by omega) (B j r2 c)
      rw [upG_at, upG_upG] at m1
      have m2 := m1.set hN5 hj (r := r2) (c := c) (by omega) (by omega) (B j r1 c)
      rw [upG_at, upG_upG] at m2
      rw [hN] at m2
      refine ⟨wr (wr τ 84 (25 * j + n * r1 + c) (ce (B j r2 c))) 84 (25 * j + n * r2 + c) (ce (B j r1 c)), ?_, ?_, fun m' hm' => ?_⟩
      · rw [f_R_turnRows_L118.eq_2]
        rw [if_pos (nI_lt hc (by omega)), ald_nI (by omega) (by decide), e100, hS, jn_eq, if_neg (by decide), a1, a2, cap_some, cap_some, c25, c25, ast_nI (by omega) (by decide), ast_nI (by omega) (by decide), nI_1]
      · have e : upB (upB (cutX c (EX S r1 r2 (B j)) (B j)) r1 c (B j r2 c)) r2 c (B j r1 c) = cutX (c + 1) (EX S r1 r2 (B j)) (B j) := by
          funext r c'
          by_cases e : c' = c
          · subst e
            have hcut : cutX (c' + 1) (EX S r1 r2 (B j)) (B j) r c' = EX S r1 r2 (B j) r c' := by unfold cutX; rw [if_pos (by omega)]
            rw [hcut, EX_t hS]
            by_cases e2 : r = r2
            · rw [e2, upB_at, swp_2]
            · rw [upB_ne (fun h => e2 h.1)]
              by_cases e1 : r = r1
              · rw [e1, upB_at, swp_1]
              · rw [upB_ne (fun h => e1 h.1), swp_o e1 e2]
                unfold cutX
                rw [if_neg (by omega)]
          · rw [upB_ne (fun h => e h.2), upB_ne (fun h => e h.2)]
            unfold cutX
            by_cases hl : c' < c
            · rw [if_pos hl, if_pos (show c' < c + 1 by omega)]
            · rw [if_neg hl, if_neg (show ¬ c' < c + 1 by omega)]
        rw [e] at m2
        exact m2
      · rw [wr_fn hm', wr_fn hm']; exact f m' hm'
  · rintro m τ ⟨mr, f⟩
    refine ⟨τ, ?_, mr, f⟩
    show f_R_turnRows_L118 (nI j) (nI r1) (nI r2) (nI n) v7 K (m + 1) (nI n) τ = _
    rw [f_R_turnRows_L118.eq_2]
    rw [if_neg (nI_nlt (Nat.le_refl _) (by omega))]
  · have : cutX 0 (EX S r1 r2 (B j)) (B j) = B j := by
      funext r c; unfold cutX; rw [if_neg (Nat.not_lt_zero _)]
    rw [this, upG_same]
    exact h
theorem turn_ref (h : MW σ M N B) {j r1 r2 c0 p : Nat} {q : Nat → Nat} (hj : j < M) (h1 : r1 < N j) (h2 : r2 < N j) (hne : r1 ≠ r2) (f1 : FRo (N j) (B j) r1) (f2 : FRo (N j) (B j) r2) (hR : RND (N j) (B j) r1 r2 c0 p q) : ∃ τ, f_R_turnRows σ (nI j) (nI r1) (nI r2) (nI c0) = some (nI p, τ) ∧ MW τ M N (upG B j (EX (rS q p) r1 r2 (B j))) ∧ ∀ m, m ≠ 84 → m ≠ 100 → τ m = σ m := by
  have hM := h.le
  have hn := h.n hj
  unfold f_R_turnRows
  rw [ald_nI (by omega) (by decide), h.od hj]
  obtain ⟨τ1, e1, z1, g1⟩ := rt11 (σ := σ) (nI j) (nI r1) (nI r2) (nI c0) hn.2 (fun (σ_3 : St) => f_R_turnRows_L39 (nI j) (nI r1) (nI r2) (nI (N j)) (fun (v7_13 : Int32) (σ_14 : St) => f_R_turnRows_L118 (nI j) (nI r1) (nI r2) (nI (N j)) v7_13 (fun (σ_24 : St) => some (v7_13, σ_24)) FU 0 σ_14) FU (nI c0) 0 σ_3)
  have mw1 : MW τ1 M N B := h.fr ⟨fun m hm => g1 m (by omega), by rw [g1 82 (by omega)], by rw [g1 82 (by omega)]⟩
  obtain ⟨τ2, e2, z2, g2⟩ := rt39 mw1 hj rfl h1 h2 f1 f2 hR z1 (fun (v7_13 : Int32) (σ_14 : St) => f_R_turnRows_L118 (nI j) (nI r1) (nI r2) (nI (N j)) v7_13 (fun (σ_24 : St) => some (v7_13, σ_24)) FU 0 σ_14)
  have mw2 : MW τ2 M N B := mw1.fr ⟨fun m hm => g2 m (by omega), by rw [g2 82 (by omega)], by rw [g2 82 (by omega)]⟩
  obtain ⟨τ3, e3, m3, g3⟩ := rt118 mw2.mr hM (fun i hi => h.wf hi) hj rfl h1 h2 hne (rS q p) z2 (nI p) (fun (σ_24 : St) => some (nI p, σ_24))
  refine ⟨τ3, e1.trans (e2.trans e3), m3.mw hM (Wf_rep (fun i hi => h.wf hi) (EX_wf (h.wf hj) h1 h2 f1 f2 (hR.closed (h.wf hj) f1 f2))), fun m a b => ?_⟩
  rw [g3 m a, g2 m b, g1 m b]
end RT
theorem rturn44 {σ : St} {M : Nat} {N : Nat → Nat} {B : Nat → Bd} (h : MW σ M N B) (h0 : σ 82 0 = 0) {j r1 r2 : Nat} (hj : j < M) (h1 : r1 < N j) (h2 : r2 < N j) (v4 : Int32) (K : Int32 → Option (Int32 × St)) : f_R_turn_L44 (nI j) (nI r1) (nI r2) v4 σ K FU 0 0 = K (bI (!dB (∀ k, k < N j → B j r1 k ≠ 0 ∧ B j r2 k ≠ 0))) := by
  have hM := h.le
  have hn := h.n hj
  have A := loop_flag (fun m i b => f_R_turn_L44 (nI j) (nI r1) (nI r2) v4 σ K m (bI (!b)) (nI i)) (N j) (fun k => B j r1 k ≠ 0 ∧ B j r2 k ≠ 0) (fun b => K (bI (!b))) (by omega) true ?_ ?_
  · rw [Bool.true_and] at A
    exact A
  · intro m i b hi
    show f_R_turn_L44 (nI j) (nI r1) (nI r2) v4 σ K (m + 1) (bI (!b)) (nI i) = _
    have b1 := (h.wf hj).bd r1 i
    have b2 := (h.wf hj).bd r2 i
    rw [f_R_turn_L44.eq_2]
    rw [if_pos h0, ald_nI (by omega) (by decide), h.od hj, if_pos (nI_lt hi (by omega)), at_ok h hj h1 hi, at_ok h hj h2 hi]
    simp only [jn_eq, nI_1, cap_some]
    simp (disch := omega) only [ce_m1]
    cases b
    · rw [if_neg (by decide)]; rfl
    · rw [if_pos (by rfl)]
      by_cases e1 : B j r1 i = 0
      · rw [if_pos e1, dB_f (fun h => h.1 e1)]; rfl
      · rw [if_neg e1]
        by_cases e2 : B j r2 i = 0
        · rw [if_pos e2, dB_f (fun h => h.2 e2)]; rfl
        · rw [if_neg e2, dB_t ⟨e1, e2⟩]; rfl
  · intro m b
    show f_R_turn_L44 (nI j) (nI r1) (nI r2) v4 σ K (m + 1) (bI (!b)) (nI (N j)) = _
    rw [f_R_turn_L44.eq_2]
    rw [if_pos h0, ald_nI (by omega) (by decide), h.od hj, if_neg (nI_nlt (Nat.le_refl _) (by omega))]
theorem rturn44e {σ : St} (v1 v2 v3 v4 : Int32) (h0 : σ 82 0 ≠ 0) (K : Int32 → Option (Int32 × St)) : f_R_turn_L44 v1 v2 v3 v4 σ K FU 0 0 = K 0 := by
  show f_R_turn_L44 v1 v2 v3 v4 σ K (999999999999999999999999999999999999999999999999 + 1) 0 0 = K 0
  rw [f_R_turn_L44.eq_2]
  rw [if_neg h0]
theorem ok_turn : Ok_turn Inv := by
  intro σ hI p0 p1 p2 p3
  refine op_wr hI (Q := fun σ => f_Q_turn σ p0 p1 p2 p3) (R := fun σ => f_R_turn σ p0 p1 p2 p3) (fun M N B cw mt => ?_)
  have hM12 := cw.le
  have bad1 : ∀ (σ1 : St) (k : Int32), k ≠ 0 → ¬ k ≤ 0 → f_R_turn_L44 p0 p1 p2 p3 (wr σ1 82 0 k) (fun (v5_14 : Int32) => jn (fun (s_16 : Int32) => sto (wr σ1 82 0 k) 82 0 s_16 fun σ_17 => if (σ_17 82 0) ≤ 0 then cal (f_R_turnRows σ_17 p0 p1 p2 p3) fun r_19 σ_20 => some (r_19, σ_20) else some (0, σ_17)) fun j118_15 => if v5_14 = 0 then j118_15 ((wr σ1 82 0 k) 82 0) else j118_15 3) FU 0 0 = some (0, wr (wr σ1 82 0 k) 82 0 k) := by
    intro σ1 k h1 h2
    rw [rturn44e p0 p1 p2 p3 (by rw [wr_at]; exact h1), jn_eq, if_pos (show (0 : Int32) = 0 from rfl), wr_at]
    show sto (wr σ1 82 0 k) 82 0 k _ = _
    rw [sto_eq, wr_at, if_neg h2]
  rcases g_cases M cw.le p0 with ⟨j, hj, rfl⟩ | hx
  · have hG := cw.g hj
    have hn := hG.le
    rcases cell_cases (N j) hG.le.2 p1 p3 with ⟨r1, c, h1, hc, rfl, rfl⟩ | hx
    · rcases i32_cases p2 (N j) (by omega) with ⟨r2, h2, rfl⟩ | hx
      · by_cases hne : r1 = r2
        · refine wr_err cw 2 2 (σ' := σ) ?_ (FrC.refl σ) (by decide) (fun σ1 mw => ⟨0, wr (wr σ1 82 0 2) 82 0 2, ?_, FrK.t.trans FrK.t, rfl⟩)
          · show f_Q_turn σ _ _ _ _ = _
            unfold f_Q_turn
            rw [gridAt_in cw hj, cax_ok, needCell_in hG h1 hc, cax_ok, needCell_in hG h2 hc, cax_ok, jn_eq, if_pos (by rw [hne])]
            rfl
          · show f_R_turn σ1 _ _ _ _ = _
            unfold f_R_turn
            rw [rcell_in mw hj h1 hc, cap_some, jn_eq, jn_eq, if_neg (show ¬ (1 : Int32) = 0 by decide), rline_in mw hj h2, cap_some, if_neg (show ¬ (1 : Int32) = 0 by decide), if_pos (by rw [hne])]
            show sto σ1 82 0 2 _ = _
            rw [sto_eq]
            exact bad1 σ1 2 (by decide) (by decide)
        · have q0 : f_Q_turn σ (nI j) (nI r1) (nI r2) (nI c) = if dB (FRo (N j) (B j) r1 ∧ FRo (N j) (B j) r2) = true then cal (f_Grid_turnRows σ (gid j) (nI r1) (nI r2) (nI c)) fun r_23 σ_24 => some (.ok r_23, σ_24) else some (.error 3, σ) := by
            unfold f_Q_turn
            rw [gridAt_in cw hj, cax_ok, needCell_in hG h1 hc, cax_ok, needCell_in hG h2 hc, cax_ok, jn_eq, if_neg (show ¬ nI r1 = nI r2 by rw [eq_nI (by omega) (by omega)]; exact hne)]
            show cax (f_Q_needArgument σ 1) _ = _
            rw [nar1, cax_ok, rowFull_ok hG h1, rowFull_ok hG h2, cap_some, jn_eq, jn_eq, cap_some, dB_and]
            cases dB (FRo (N j) (B j) r1)
            · rfl
            · rw [if_neg (show ¬ bI true = 0 by decide)]
              cases dB (FRo (N j) (B j) r2)
              · rfl
              · rw [if_neg (show ¬ bI true = 0 by decide), if_pos (show (true && true) = true from rfl)]
                show cax (f_Q_needState σ 1) _ = _
                rw [nst1, cax_ok]
          have r0 : ∀ σ1 : St, MW σ1 M N B → f_R_turn σ1 (nI j) (nI r1) (nI r2) (nI c) = if dB (FRo (N j) (B j) r1 ∧ FRo (N j) (B j) r2) = true then f_R_turnRows (wr (wr σ1 82 0 0) 82 0 0) (nI j) (nI r1) (nI r2) (nI c) else some (0, wr (wr σ1 82 0 0) 82 0 3) := by
            intro σ1 mw
            have hdd : dB (∀ k, k < N j → B j r1 k ≠ 0 ∧ B j r2 k ≠ 0) = dB (FRo (N j) (B j) r1 ∧ FRo (N j) (B j) r2) := dB_cong ⟨fun h => ⟨fun k hk => (h k hk).1, fun k hk => (h k hk).2⟩, fun h k hk => ⟨h.1 k hk, h.2 k hk⟩⟩
            unfold f_R_turn
            rw [rcell_in mw hj h1 hc, cap_some, jn_eq, jn_eq, if_neg (show ¬ (1 : Int32) = 0 by decide), rline_in mw hj h2, cap_some, if_neg (show ¬ (1 : Int32) = 0 by decide), if_neg (show ¬ nI r1 = nI r2 by rw [eq_nI (by omega) (by omega)]; exact hne)]
            show sto σ1 82 0 0 _ = _
            rw [sto_eq, rturn44 (mw.k FrK.t) wr_at hj h1 h2, jn_eq, hdd]
            cases dB (FRo (N j) (B j) r1 ∧ FRo (N j) (B j) r2)
            · rw [if_neg (show ¬ bI (!false) = 0 by decide)]
              show sto (wr σ1 82 0 0) 82 0 3 _ = _
              rw [sto_eq, wr_at, if_neg (show ¬ (3 : Int32) ≤ 0 by decide)]
              rfl
            · rw [if_pos (show bI (!true) = 0 from rfl), wr_at]
              show sto (wr σ1 82 0 0) 82 0 0 _ = _
              rw [sto_eq, wr_at, if_pos (show (0 : Int32) ≤ 0 by decide), if_pos (show true = true from rfl)]
              cases f_R_turnRows (wr (wr σ1 82 0 0) 82 0 0) (nI j) (nI r1) (nI r2) (nI c) with
              | none => rfl
              | some x => rfl
          cases hd : dB (FRo (N j) (B j) r1 ∧ FRo (N j) (B j) r2)
          · refine wr_err cw 3 3 (σ' := σ) ?_ (FrC.refl σ) (by decide) (fun σ1 mw => ⟨0, wr (wr σ1 82 0 0) 82 0 3, ?_, FrK.t.trans FrK.t, rfl⟩)
            · show f_Q_turn σ _ _ _ _ = _
              rw [q0, hd]; rfl
            · show f_R_turn σ1 _ _ _ _ = _
              rw [r0 σ1 mw, hd, if_neg (by decide)]
          · obtain ⟨f1, f2⟩ := dB_iff.mp hd
            obtain ⟨p, q, hR⟩ := rnd hG.1 f1 f2 hc
            obtain ⟨τ, e1, g1, fr1⟩ := turn_cls hG h1 h2 hne f1 f2 hR
            refine wr_ok (nI p) (σ' := τ) (M' := M) (N' := N) (B' := upG B j (EX (rS q p) r1 r2 (B j))) ?_ (cw.up hj g1 (by rw [fr1 0 (by unfold gid; omega)]) (fun m _ _ hm => fr1 m hm)) (fun m a b c => fr1 m (by unfold gid; omega)) (fun σ1 mw => ?_)
            · show f_Q_turn σ _ _ _ _ = _
              rw [q0, hd, if_pos rfl, e1, cal_some]
            · obtain ⟨υ, e2, m2, g2⟩ := turn_ref ((mw.k (FrK.t (v := 0))).k (FrK.t (v := 0))) hj h1 h2 hne f1 f2 hR
              refine ⟨υ, ?_, m2, (FrK.t.trans FrK.t).fw.trans ⟨fun m hm => g2 m (by omega) (by omega), fun s _ => by rw [g2 82 (by omega) (by omega)]⟩, by rw [g2 82 (by omega) (by omega), wr_at]⟩
              show f_R_turn σ1 _ _ _ _ = _
              rw [r0 σ1 mw, hd, if_pos rfl, e2]
      · refine wr_err cw 1 1 (σ' := σ) ?_ (FrC.refl σ) (by decide) (fun σ1 mw => ⟨0, wr (wr σ1 82 0 1) 82 0 1, ?_, FrK.t.trans FrK.t, rfl⟩)
        · show f_Q_turn σ _ _ _ _ = _
          unfold f_Q_turn
          rw [gridAt_in cw hj, cax_ok, needCell_in hG h1 hc, cax_ok, needCell_out hG (Or.inl hx), cax_er]
        · show f_R_turn σ1 _ _ _ _ = _
          unfold f_R_turn
          rw [rcell_in mw hj h1 hc, cap_some, jn_eq, jn_eq, if_neg (show ¬ (1 : Int32) = 0 by decide), rline_out mw hj hx, cap_some, if_pos (show (0 : Int32) = 0 from rfl)]
          show sto σ1 82 0 1 _ = _
          rw [sto_eq]
          exact bad1 σ1 1 (by decide) (by decide)
    · refine wr_err cw 1 1 (σ' := σ) ?_ (FrC.refl σ) (by decide) (fun σ1 mw => ⟨0, wr (wr σ1 82 0 1) 82 0 1, ?_, FrK.t.trans FrK.t, rfl⟩)
      · show f_Q_turn σ _ _ _ _ = _
        unfold f_Q_turn
        rw [gridAt_in cw hj, cax_ok, needCell_out hG hx, cax_er]
      · show f_R_turn σ1 _ _ _ _ = _
        unfold f_R_turn
        rw [rcell_out mw hj hx, cap_some, jn_eq, jn_eq, if_pos (show (0 : Int32) = 0 from rfl)]
        show sto σ1 82 0 1 _ = _
        rw [sto_eq]
        exact bad1 σ1 1 (by decide) (by decide)
  · refine wr_err cw 1 1 (σ' := σ) ?_ (FrC.refl σ) (by decide) (fun σ1 mw => ⟨0, wr (wr σ1 82 0 1) 82 0 1, ?_, FrK.t.trans FrK.t, rfl⟩)
    · show f_Q_turn σ _ _ _ _ = _
      unfold f_Q_turn
      rw [gridAt_out cw hx, cax_er]
    · show f_R_turn σ1 _ _ _ _ = _
      unfold f_R_turn
      rw [rcell_g mw hx, cap_some, jn_eq, jn_eq, if_pos (show (0 : Int32) = 0 from rfl)]
      show sto σ1 82 0 1 _ = _
      rw [sto_eq]
      exact bad1 σ1 1 (by decide) (by decide)
