/-! mate holds -/
theorem MA_OZ {n : Nat} {S X : Bd} (h1 : 2 ≤ n) (h2 : n ≤ 5) (h : X ∈ MA n S) : OZ n X := by
  obtain ⟨_, m2, m3⟩ := (mem_EN2 (by omega) (TH_cp h1 h2) n 0 B0 X (fun _ _ => Nat.le_refl 0)).mp h
  intro r k hrk
  apply Classical.byContradiction
  intro h0
  rcases m2 r k h0 with e | e
  · exact h0 e
  · obtain ⟨q, hq, _, _, hat⟩ := m3 (X r k - 1) (by omega) (by omega)
    have h3 := (hat r k).mp (by omega)
    have h4 := hq.1 r h3.1
    omega
def WcG (cd : Nat → Option Int32) (Q : St → Option (Except Nat Int32 × St)) (R : St → Option (Int32 × St)) (σ : St) (M : Nat) (N : Nat → Nat) (B : Nat → Nat → Nat → Nat) : Prop :=
  ∃ q σ' M' N' B', Q σ = some (q, σ') ∧ CW σ' M' N' B' ∧ FrG σ σ' ∧
      ∀ σ1, MW σ1 M N B → CA σ1 → ∃ b9 σ2, R σ1 = some (b9, σ2) ∧ MW σ2 M' N' B' ∧ (∀ m, m < 82 ∨ m = 85 ∨ m = 103 → σ2 m = σ1 m) ∧ σ2 82 4 = σ1 82 4 ∧ CA σ2 ∧ Agr cd q b9 (σ2 82 0)
theorem op_wc {cd : Nat → Option Int32} {Q : St → Option (Except Nat Int32 × St)} {R : St → Option (Int32 × St)} {σ : St} (hI : Inv σ)
    (h : ∀ M N B, CW σ M N B → MT σ → WcG cd Q R σ M N B) :
    ∃ (k b9 : Int32) (σ1 σ2 : St), wv cd (Q σ) = some (k, σ1) ∧ R σ1 = some (b9, σ2) ∧ σ2 82 0 = k ∧ (k = 0 → σ2 103 0 = b9) ∧ Inv σ2 := by
  refine op_all hI (fun M N B t ch c1 c2 c3 c4 c5 c6 => ?_)
  obtain ⟨q, σ', M', N', B', e, d1, d2, d3⟩ := h M N B c1 c5
  refine ⟨q, σ', M', N', B', t, ch, e, d1, ?_, ?_, fun m hm => d2 m (by unfold scr; omega) (by omega) (by omega), fun σ1 m1 m2 m3 => ?_⟩
  · obtain ⟨h1, h2, h3, h4⟩ := c3
    refine ⟨h1, ?_, ?_, h4⟩
    · rw [d2 10 (by unfold scr; omega) (by omega) (by omega)]; exact h2
    · rw [d2 11 (by unfold scr; omega) (by omega) (by omega)]; exact h3
  · intro m hm
    rw [d2 7 (by unfold scr; omega) (by omega) (by omega), d2 8 (by unfold scr; omega) (by omega) (by omega)]
    exact c5 m hm
  · obtain ⟨b9, σ2, r1, r2, r3, r5, r6, r4⟩ := d3 σ1 m1 m3
    refine ⟨b9, σ2, r1, fun m hm => r3 m (by omega), r2, ?_, r6, r4⟩
    obtain ⟨h1, h2, h3, h4⟩ := m2
    refine ⟨h1, ?_, ?_, h4⟩
    · rw [r5]; exact h2
    · rw [r3 85 (by omega)]; exact h3
theorem WrG.wc {cd : Nat → Option Int32} {Q : St → Option (Except Nat Int32 × St)} {R : St → Option (Int32 × St)} {σ : St} {M : Nat} {N : Nat → Nat} {B : Nat → Nat → Nat → Nat} (h : WrG cd Q R σ M N B) : WcG cd Q R σ M N B := by
  obtain ⟨q, σ', M', N', B', e, d1, d2, d3⟩ := h
  refine ⟨q, σ', M', N', B', e, d1, d2, fun σ1 mw ca => ?_⟩
  obtain ⟨b9, σ2, r1, r2, r3, r4⟩ := d3 σ1 mw ca
  exact ⟨b9, σ2, r1, r2, fun m hm => r3.1 m (by omega), r3.2 4 (by omega), ca.fr (r3.2 9 (by omega)) (r3.2 10 (by omega)) (r3.1 89 (by omega)), r4⟩
theorem mate58 {σ : St} {n j M : Nat} (hj : j < M) (hM : M < 12) (hn : n ≤ 5) (h83 : σ 83 j = nI n) (K : St → Option (Int32 × St)) : ∃ τ, f_R_mate_L58 (nI j) (nI M) K FU 0 σ = K τ ∧ (∀ i, i < n * n → τ 84 (25 * M + i) = σ 93 i) ∧ (∀ x, (x < 25 * M ∨ 25 * M + 25 ≤ x) → τ 84 x = σ 84 x) ∧ ∀ m, m ≠ 84 → τ m = σ m := by
  have h25 : n * n ≤ 25 := Nat.mul_le_mul hn hn
  refine loopE (fun m i (τ : St) => f_R_mate_L58 (nI j) (nI M) K m (nI i) τ) (n * n)
    (fun i τ => (∀ i', i' < i → τ 84 (25 * M + i') = σ 93 i') ∧ (∀ x, (x < 25 * M ∨ 25 * M + 25 ≤ x) → τ 84 x = σ 84 x) ∧ ∀ m, m ≠ 84 → τ m = σ m)
    (fun R => ∃ τ, R = K τ ∧ (∀ i, i < n * n → τ 84 (25 * M + i) = σ 93 i) ∧ (∀ x, (x < 25 * M ∨ 25 * M + 25 ≤ x) → τ 84 x = σ 84 x) ∧ ∀ m, m ≠ 84 → τ m = σ m) ?_ ?_ FU 0 _ (by omega) (FU_gt (by omega)) ⟨fun j hj => by omega, fun x _ => rfl, fun m hm => rfl⟩
  · intro m i τ hi ⟨p1, p2, p3⟩
    have e := p3 93 (by omega)
    have e2 : τ 83 j = nI n := by rw [p3 83 (by omega)]; exact h83
    refine Or.inr ⟨wr τ 84 (25 * M + i) (σ 93 i), ?_, fun i' hi' => ?_, fun x hx => ?_, fun m' hm => ?_⟩
    · show f_R_mate_L58 (nI j) (nI M) K (m + 1) (nI i) τ = _
      rw [f_R_mate_L58.eq_2]
      rw [ald_nI (by omega) (by decide), e2, ald_nI (by omega) (by decide), e2, nI_mul, if_pos (nI_lt hi (by omega)), ald_nI (by omega) (by decide), e, show (25 : Int32) = nI 25 from rfl, nI_mul, nI_add, ast_nI (by omega) (by decide), nI_1]
    · rw [wr_get]
      by_cases hji : i' = i
      · rw [if_pos ⟨rfl, by rw [hji]⟩, hji]
      · rw [if_neg (by omega)]; exact p1 i' (by omega)
    · rw [wr_get, if_neg (by omega)]; exact p2 x hx
    · rw [wr_fn hm]; exact p3 m' hm
  · intro m τ ⟨p1, p2, p3⟩
    have e2 : τ 83 j = nI n := by rw [p3 83 (by omega)]; exact h83
    refine ⟨τ, ?_, p1, p2, p3⟩
    show f_R_mate_L58 (nI j) (nI M) K (m + 1) (nI (n * n)) τ = _
    rw [f_R_mate_L58.eq_2]
    rw [ald_nI (by omega) (by decide), e2, ald_nI (by omega) (by decide), e2, nI_mul, if_neg (nI_nlt (Nat.le_refl _) (by omega))]
theorem ok_mate : Ok_mate Inv := by
  intro σ hI p0
  refine op_wc hI (Q := fun σ => f_Q_mate σ p0) (R := fun σ => f_R_mate σ p0) (fun M N B cw mt => ?_)
  have hM12 := cw.le
  rcases g_cases M cw.le p0 with ⟨j, hj, rfl⟩ | hx
  · have hG := cw.g hj
    have hn := hG.le
    have h25 : N j * N j ≤ 25 := Nat.mul_le_mul hn.2 hn.2
    cases hfu : full (N j) (B j)
    · refine (wr_err cw 3 2 (σ' := σ) ?_ (FrC.refl σ) (by decide) (fun σ1 mw => ?_)).wc
      · show f_Q_mate σ (nI j) = _
        unfold f_Q_mate
        rw [gridAt_in cw hj, cax_ok, sq_ok hG, hfu]
        rfl
      · obtain ⟨τ, e, k, h0⟩ := ask_in mw hj
        rw [hfu] at e h0
        refine ⟨0, τ, ?_, k, h0⟩
        show f_R_mate σ1 (nI j) = _
        unfold f_R_mate
        rw [e]
        rfl
    · have hs := full_sq hG.1 hfu
      obtain ⟨σ2, e2, ac, f2⟩ := findMates_ok mt hG hs (by unfold gid; omega)
      have fc : FrC σ σ2 := fun m hm => f2 m (by unfold scr at hm; omega)
      have cw2 := cw.fr fc
      have hlen := MA_le (S := B j) hn.1 hn.2
      have q0 : f_Q_mate σ (nI j) = if (MA (N j) (B j)).length = 0 then some (.error 3, σ2) else cax (f_Q_newGrid σ2 (nI (N j))) fun r_18 σ_19 => cal (f_Grid_copy σ_19 r_18 30) fun r_21 σ_22 => some (.ok ((σ_22 0 8) - 1), σ_22) := by
        unfold f_Q_mate
        rw [gridAt_in cw hj, cax_ok, sq_ok hG, hfu, cap_some]
        show cax (f_Q_needState σ 1) _ = _
        show cal (f_Mating_findMates σ (gid j)) _ = _
        rw [e2, cal_some, jn_eq]
        by_cases h0 : (MA (N j) (B j)).length = 0
        · rw [if_pos h0, h0, if_pos (show nI 0 ≤ 0 by decide)]; rfl
        · rw [if_neg h0, if_neg (show ¬ nI (MA (N j) (B j)).length ≤ 0 from nI_ge (a := 0) (by omega) (by omega))]
          show cax (f_Q_newGrid σ2 (σ2 (gid j) 3)) _ = _
          rw [(cw2.g hj).ord]
      have r0 : ∀ σ1 : St, MW σ1 M N B → CA σ1 → ∃ τ, LA τ (N j) ∧ ARm τ (N j) (MB (N j) (B j)) ∧ FrM σ1 τ ∧ f_R_mate σ1 (nI j) = if (MA (N j) (B j)).length = 0 ∨ M = 12 then some (0, wr τ 82 0 2) else cal (f_R_make (wr τ 82 0 0) (nI (N j))) fun r_12 σ_13 => f_R_mate_L58 (nI j) r_12 (fun (σ_18 : St) => some (r_12, σ_18)) FU 0 σ_13 := by
        intro σ1 mw ca
        obtain ⟨υ, e, k, h0⟩ := ask_in mw hj
        rw [hfu] at e h0
        have mwυ := mw.k k
        obtain ⟨τ, e3, la, ar, f3⟩ := matesOf_ok mwυ (k.ca ca) hj hs
        have fm : FrM υ τ := ⟨fun m hm => funext (fun s => f3 m s (by omega) (by omega) (by omega) (by omega) (by omega) (by omega)), f3 82 1 (by omega) (by omega) (by omega) (by omega) (by omega) (by omega), f3 82 4 (by omega) (by omega) (by omega) (by omega) (by omega) (by omega)⟩
        have mwτ := mwυ.fr fm
        refine ⟨τ, la, ar, k.m.trans fm, ?_⟩
        have h2 : ∀ s : Int32, (sto τ 82 0 s fun σ_9 => if (σ_9 82 0) ≤ 0 then ald σ_9 83 12 (nI j) fun r_10 => cal (f_R_make σ_9 r_10) fun r_12 σ_13 => f_R_mate_L58 (nI j) r_12 (fun (σ_18 : St) => some (r_12, σ_18)) FU 0 σ_13 else some (0, σ_9)) = if s ≤ 0 then cal (f_R_make (wr τ 82 0 s) (nI (N j))) fun r_12 σ_13 => f_R_mate_L58 (nI j) r_12 (fun (σ_18 : St) => some (r_12, σ_18)) FU 0 σ_13 else some (0, wr τ 82 0 s) := by
          intro s
          have e83 : wr τ 82 0 s 83 j = nI (N j) := by rw [wr_fn (by omega)]; exact mwτ.od hj
          rw [sto_eq, wr_at, ald_nI (by omega) (by decide), e83]
        have eN : (nI (MB (N j) (B j)).length = 0) = ((MA (N j) (B j)).length = 0) := by
          rw [← MA_len hn.1 hn.2, show (0 : Int32) = nI 0 from rfl, eq_nI (by omega) (by omega)]
        unfold f_R_mate
        rw [e, cal_some, if_neg (show ¬ bI true = 0 by decide), e3, cal_some, jn_eq, jn_eq]
        by_cases h0 : (MA (N j) (B j)).length = 0
        · rw [if_pos (by rw [eN]; exact h0), if_pos (Or.inl h0)]
          refine (h2 2).trans ?_
          rw [if_neg (by decide)]
        · rw [if_neg (by rw [eN]; exact h0)]
          by_cases h12 : M = 12
          · rw [if_pos (show τ 82 1 = 12 by rw [mw12 mwτ]; exact h12), if_pos (Or.inr h12)]
            refine (h2 2).trans ?_
            rw [if_neg (by decide)]
          · rw [if_neg (show ¬ τ 82 1 = 12 by rw [mw12 mwτ]; exact h12), if_neg (fun h => h.elim h0 h12)]
            refine (h2 0).trans ?_
            rw [if_pos (by decide)]
      have bad : (MA (N j) (B j)).length = 0 ∨ M = 12 → f_Q_mate σ (nI j) = some (.error 3, σ2) → WcG cd_mate (fun σ => f_Q_mate σ (nI j)) (fun σ => f_R_mate σ (nI j)) σ M N B := by
        intro hor hq
        refine ⟨_, σ2, M, N, B, hq, cw2, FrG.c fc, fun σ1 mw ca => ?_⟩
        obtain ⟨τ, la, _, fm, er⟩ := r0 σ1 mw ca
        rw [if_pos hor] at er
        refine ⟨0, wr τ 82 0 2, er, (mw.fr fm).k FrK.t, fun m hm => by rw [wr_fn (by omega)]; exact fm.1 m (by omega), ?_, (FrK.t (v := 2)).ca (la.ca hn.1 hn.2), by rw [wr_at]; exact ⟨by decide, by decide⟩⟩
        rw [wr_get, if_neg (by omega)]
        exact fm.2.2
      by_cases h0 : (MA (N j) (B j)).length = 0
      · exact bad (Or.inl h0) (by rw [q0, if_pos h0])
      · rw [if_neg h0] at q0
        by_cases h12 : M = 12
        · exact bad (Or.inr h12) (by rw [q0, newGrid_no cw2 h12, cax_er])
        · obtain ⟨mC, lo, g30⟩ := ac.2 (fun h => h0 (by rw [h]; rfl))
          obtain ⟨σ4, e4, cw4, f4⟩ := newGrid_ok cw2 (by omega) hn.1 hn.2
          have g30' : GOK σ4 30 (N j) mC := g30.frame (fun m a b => f4 m (by omega) (by unfold gid; omega))
          obtain ⟨σ5, e5, g5, f5⟩ := copy_ok (k := gid M) g30' (by unfold gid; omega)
          have cw5 := new_cw cw4 g5 f5
          refine ⟨.ok (nI M), σ5, M + 1, upN N M (N j), upG B M mC, ?_, cw5, fun m a b c => by rw [f5 m (by unfold gid; omega), f4 m b (by unfold gid; omega), fc m a], fun σ1 mw ca => ?_⟩
          · show f_Q_mate σ (nI j) = _
            rw [q0, e4, cax_ok, e5, cal_some, cw5.2.1, nI_pred]
          · obtain ⟨τ, la, ar, fm, er⟩ := r0 σ1 mw ca
            rw [if_neg (fun h => h.elim h0 h12)] at er
            have mwτ := (mw.fr fm).k (FrK.t (v := 0))
            have mr := mwτ.mr
            obtain ⟨υ, e6, m1, m2, m3, _⟩ := mr.make (by omega) (fun j hj => (mw.n hj).2) hn.2
            have fmk := make_fr mr (by omega) e6
            have e83 : υ 83 j = nI (N j) := by
              have := m1.2.1 j (by omega)
              rw [this]
              unfold upN
              rw [if_neg (by omega)]
            obtain ⟨φ, e7, p1, p2, p3⟩ := mate58 hj (by omega) hn.2 e83 (fun (σ_18 : St) => some (nI M, σ_18))
            obtain ⟨mR, loR, _, hcel⟩ := ar (fun h => h0 (by rw [MA_len hn.1 hn.2, h]; rfl))
            have same : mC = mR := low_same hn.2 (fun X => MA_mem hn.1 hn.2 X) (fun X hX => MA_OZ hn.1 hn.2 hX) lo loR
            subst same
            have hN' : ∀ i, i < M + 1 → upN N M (N j) i ≤ 5 := by
              intro i hi
              unfold upN
              split
              · exact hn.2
              · exact (mw.n (by omega)).2
            have m7 : MR φ (M + 1) (upN N M (N j)) (upG B M mC) := by
              have := m1.rep hN' (j := M) (X := mC) (τ := φ) (fun r c hr hc => ?_) p2 (by rw [p3 82 (by omega)]) (fun i => by rw [p3 83 (by omega)])
              · rwa [upG_upG] at this
              · rw [upN_at] at hr hc ⊢
                have hi : N j * r + c < N j * N j := by
                  have h3 : N j * (r + 1) ≤ N j * N j := Nat.mul_le_mul_left _ hr
                  rw [Nat.mul_succ] at h3; omega
                have d1 := idx2 (c := r) hc
                rw [Nat.add_assoc, p1 _ hi, fmk 93 (by omega) (by omega) (by omega), wr_fn (by omega), hcel _ hi]
                unfold clR
                rw [d1.1, d1.2]
            have fw : FrW (wr τ 82 0 0) φ := m2.trans ⟨fun m hm => p3 m (by omega), fun s _ => by rw [p3 82 (by omega)]⟩
            have laφ : LA φ (N j) := la.fr (by rw [fw.2 9 (by omega), wr_get, if_neg (by omega)]) (by rw [fw.2 10 (by omega), wr_get, if_neg (by omega)]) (by rw [fw.1 89 (by omega), wr_fn (by omega)])
            refine ⟨nI M, φ, ?_, m7.mw (by omega) (Wf_up (fun j hj => mw.wf hj) g30.1), fun m hm => ?_, ?_, laφ.ca hn.1 hn.2, ?_⟩
            · show f_R_mate σ1 (nI j) = _
              rw [er, e6, cal_some, e7]
            · rw [fw.1 m (by omega), wr_fn (by omega)]; exact fm.1 m (by omega)
            · rw [fw.2 4 (by omega), wr_get, if_neg (by omega)]; exact fm.2.2
            · rw [p3 82 (by omega), m3, wr_at]; exact ⟨rfl, rfl⟩
  · refine (wr_err cw 1 1 (σ' := σ) ?_ (FrC.refl σ) (by decide) (fun σ1 mw => ?_)).wc
    · show f_Q_mate σ _ = _
      unfold f_Q_mate
      rw [gridAt_out cw hx, cax_er]
    · obtain ⟨τ, e, k, h0⟩ := ask_out mw hx
      refine ⟨0, τ, ?_, k, h0⟩
      show f_R_mate σ1 p0 = _
      unfold f_R_mate
      rw [e]
      rfl
