/-! stir -/
theorem SQ.fro {n : Nat} {B : Bd} (h : SQ n B) {r : Nat} (hr : r < n) : FRo n B r := fun c hc => h.2 r c hr hc
theorem EX_sq {n r1 r2 c0 p : Nat} {B : Bd} {q : Nat → Nat} (hs : SQ n B) (h1 : r1 < n) (h2 : r2 < n) (hR : RND n B r1 r2 c0 p q) : SQ n (EX (rS q p) r1 r2 B) :=
  ⟨EX_wf hs.1 h1 h2 (hs.fro h1) (hs.fro h2) (hR.closed hs.1 (hs.fro h1) (hs.fro h2)), fun r c hr hc => (EX_nz hs.1 h1 h2 (hs.fro h1) (hs.fro h2) r c).mpr (hs.2 r c hr hc)⟩
theorem pair_ne {n a b : Nat} (hn : 2 ≤ n ∧ n ≤ 5) (ha : a < n) (hb : b < n - 1) : a ≠ (a + 1 + b) % n := by
  rcases (by omega : n = 2 ∨ n = 3 ∨ n = 4 ∨ n = 5) with rfl | rfl | rfl | rfl <;> omega
theorem turnBy_ok {σ : St} {k n u : Nat} {B : Bd} (hG : GOK σ k n B) (hu : u < 2 ^ 15) : f_Q_turnBy σ k (nI u) = cal (f_Grid_turnRows σ k (nI (u % n)) (nI ((u % n + 1 + u / n % (n - 1)) % n)) (nI (u / (n * n) % n))) fun _ σ => some ((), σ) := by
  have hn := hG.le
  have h25 : n * n ≤ 25 := Nat.mul_le_mul hn.2 hn.2
  have h4 : 4 ≤ n * n := Nat.mul_le_mul hn.1 hn.1
  have d1 : u / n ≤ u := Nat.div_le_self _ _
  have d2 : u / (n * n) ≤ u := Nat.div_le_self _ _
  have m1 := Nat.mod_lt u (show n > 0 by omega)
  have m2 := Nat.mod_lt (u / n) (show n - 1 > 0 by omega)
  unfold f_Q_turnBy
  rw [hG.ord, if_neg (show ¬ nI n < 2 from (nI_nlt (show 2 ≤ n by omega) (by omega) : ¬ nI n < nI 2)), if_pos (show nI n ≤ 5 from nI_le hn.2 (by decide)), rmi_nI (by omega) (by omega) (by omega), dvi_nI (by omega) (by omega) (by omega), show nI n - 1 = nI (n - 1) from nI_sub (b := 1) (by omega), rmi_nI (by omega) (by omega) (by omega), nI_1, nI_add, rmi_nI (by omega) (by omega) (by omega), nI_mul, dvi_nI (by omega) (by omega) (by omega), rmi_nI (by omega) (by omega) (by omega)]
theorem stir_L {k n times : Nat} {j M : Nat} {N : Nat → Nat} (hj : j < M) (hN : N j = n) (ht : times ≤ 50) (K : Int32 → St → Option (Except Nat Int32 × St)) (K2 : Int64 → St → Option (Int32 × St)) : ∀ (e i : Nat) (B : Bd) (σ : St) (x m1 : Nat), i + e = times → e < m1 → GOK σ k n B → SQ n B → x < 2 ^ 31 →
    ∃ x' B' σ', x' < 2 ^ 31 ∧ f_Q_stir_L43 (nI times) k K m1 (nI x) (nI i) σ = K (nI x') σ' ∧ SQ n B' ∧ GOK σ' k n B' ∧ (∀ m, m < k ∨ k + 3 < m → σ' m = σ m) ∧
      ∀ (σ1 : St) (m2 : Nat) (Bs : Nat → Bd), MW σ1 M N (upG Bs j B) → e < m2 → ∃ τ, f_R_stir_L84 (nI j) (nI times) (nI n) K2 m2 (nL x) (nI i) σ1 = K2 (nL x') τ ∧ MW τ M N (upG Bs j B') ∧ ∀ m, m ≠ 84 → m ≠ 100 → τ m = σ1 m := by
  intro e
  induction e with
  | zero =>
    intro i B σ x m1 hi hm1 hG hs hx
    obtain ⟨m1, rfl⟩ : ∃ m, m1 = m + 1 := ⟨m1 - 1, by omega⟩
    refine ⟨x, B, σ, hx, ?_, hs, hG, fun m _ => rfl, fun σ1 m2 Bs mw hm2 => ⟨σ1, ?_, mw, fun m _ _ => rfl⟩⟩
    · rw [f_Q_stir_L43.eq_2]
      rw [if_neg (nI_nlt (by omega) (by omega))]
    · obtain ⟨m2, rfl⟩ : ∃ m, m2 = m + 1 := ⟨m2 - 1, by omega⟩
      rw [f_R_stir_L84.eq_2]
      rw [if_neg (nI_nlt (by omega) (by omega))]
  | succ e ih =>
    intro i B σ x m1 hi hm1 hG hs hx
    have hn := hG.le
    have h25 : n * n ≤ 25 := Nat.mul_le_mul hn.2 hn.2
    have h4 : 4 ≤ n * n := Nat.mul_le_mul hn.1 hn.1
    obtain ⟨m1, rfl⟩ : ∃ m, m1 = m + 1 := ⟨m1 - 1, by omega⟩
    have hy := lcg_lt x
    have hyv : (1103515245 * x + 12345) % 2147483648 = lcg x := rfl
    have hu : lcg x / 65536 < 2 ^ 15 := by omega
    have d1 : lcg x / 65536 / n ≤ lcg x / 65536 := Nat.div_le_self _ _
    have d2 : lcg x / 65536 / (n * n) ≤ lcg x / 65536 := Nat.div_le_self _ _
    have a1 := Nat.mod_lt (lcg x / 65536) (show n > 0 by omega)
    have a2 := Nat.mod_lt (lcg x / 65536 / n) (show n - 1 > 0 by omega)
    have a3 := Nat.mod_lt (lcg x / 65536 % n + 1 + lcg x / 65536 / n % (n - 1)) (show n > 0 by omega)
    have a4 := Nat.mod_lt (lcg x / 65536 / (n * n)) (show n > 0 by omega)
    have hne := pair_ne hn a1 a2
    obtain ⟨p, q, hR⟩ := rnd hs.1 (hs.fro a1) (hs.fro a3) a4
    obtain ⟨σ2, e2, g2, f2⟩ := turn_cls hG a1 a3 hne (hs.fro a1) (hs.fro a3) hR
    have hs2 := EX_sq hs a1 a3 hR
    obtain ⟨x', B', σ', hx', e3, hs', g3, f3, hr⟩ := ih (i + 1) _ σ2 (lcg x) m1 (by omega) (by omega) g2 hs2 hy
    refine ⟨x', B', σ', hx', ?_, hs', g3, fun m hm => (f3 m hm).trans (f2 m hm), fun σ1 m2 Bs mw hm2 => ?_⟩
    · rw [f_Q_stir_L43.eq_2]
      rw [if_pos (nI_lt (by omega) (by omega)), lcg_cls hx, lt1_eq, nI_shr hy, turnBy_ok hG hu, e2, cal_some, cal_some, nI_1]
      exact e3
    · obtain ⟨m2, rfl⟩ : ∃ m, m2 = m + 1 := ⟨m2 - 1, by omega⟩
      have tr := turn_ref mw hj (r1 := lcg x / 65536 % n) (r2 := (lcg x / 65536 % n + 1 + lcg x / 65536 / n % (n - 1)) % n) (c0 := lcg x / 65536 / (n * n) % n) (p := p) (q := q) (by rw [hN]; exact a1) (by rw [hN]; exact a3) hne (by rw [hN, upG_at]; exact hs.fro a1) (by rw [hN, upG_at]; exact hs.fro a3) (by rw [hN, upG_at]; exact hR)
      rw [upG_at, upG_upG] at tr
      obtain ⟨τ, t1, t2, t3⟩ := tr
      obtain ⟨υ, u1, u2, u3⟩ := hr τ m2 Bs t2 (by omega)
      refine ⟨υ, ?_, u2, fun m h1 h2 => (u3 m h1 h2).trans (t3 m h1 h2)⟩
      rw [f_R_stir_L84.eq_2]
      rw [if_pos (nI_lt (by omega) (by omega)), show (1103515245 : Int64) = nL 1103515245 from rfl, show (12345 : Int64) = nL 12345 from rfl, nL_mul, nL_add, show (2147483648 : Int64) = nL 2147483648 from rfl, rml_nL (by omega) (by omega) (by omega), hyv, show (65536 : Int64) = nL 65536 from rfl, dvl_nL (by omega) (by omega) (by omega), nL_int, rmi_nI (by omega) (by omega) (by omega), dvi_nI (by omega) (by omega) (by omega), show nI n - 1 = nI (n - 1) from nI_sub (b := 1) (by omega), rmi_nI (by omega) (by omega) (by omega), nI_1, nI_add, rmi_nI (by omega) (by omega) (by omega), nI_mul, dvi_nI (by omega) (by omega) (by omega), rmi_nI (by omega) (by omega) (by omega), t1, cal_some, nI_1]
      exact u1
theorem ok_stir : Ok_stir Inv := by
  intro σ hI p0 p1 p2
  refine op_wr hI (Q := fun σ => f_Q_stir σ p0 p1 p2) (R := fun σ => f_R_stir σ p0 p1 p2) (fun M N B cw mt => ?_)
  have hM12 := cw.le
  have c50 : (50 : Int32) = nI 50 := rfl
  rcases g_cases M cw.le p0 with ⟨j, hj, rfl⟩ | hx
  · have hG := cw.g hj
    have hn := hG.le
    have bad : ∀ σ1 : St, (sto σ1 82 0 2 fun σ_5 => jn (fun (σ_7 : St) => if (σ_7 82 0) ≤ 0 then ald σ_7 83 12 (nI j) fun r_8 => lt1 (p1.toInt64) fun v5_9 => f_R_stir_L84 (nI j) p2 r_8 (fun (v5_21 : Int64) (σ_22 : St) => some (v5_21.toInt32, σ_22)) FU v5_9 0 σ_7 else some (0, σ_7)) fun j60_6 => if (σ_5 82 0) = 0 then cap (f_R_isSquare σ_5 (nI j)) fun r_24 => jn (fun (s_26 : Int32) => sto σ_5 82 0 s_26 fun σ_27 => j60_6 σ_27) fun j57_25 => if r_24 = 0 then j57_25 3 else j57_25 0 else j60_6 σ_5) = some (0, wr σ1 82 0 2) := by
      intro σ1
      rw [sto_eq, jn_eq, wr_at, if_neg (show ¬ (2 : Int32) = 0 by decide)]
      show (if wr σ1 82 0 2 82 0 ≤ 0 then _ else _) = _
      rw [wr_at, if_neg (by decide)]
    by_cases h1 : p1 < 0
    · refine wr_err cw 2 2 (σ' := σ) ?_ (FrC.refl σ) (by decide) (fun σ1 mw => ⟨0, wr σ1 82 0 2, ?_, FrK.t, rfl⟩)
      · show f_Q_stir σ _ _ _ = _
        unfold f_Q_stir
        rw [gridAt_in cw hj, cax_ok, jn_eq, jn_eq, if_pos h1]
        rfl
      · show f_R_stir σ1 _ _ _ = _
        unfold f_R_stir
        rw [rgrid_in mw hj, cap_some, jn_eq, if_neg (show ¬ (1 : Int32) = 0 by decide), jn_eq, if_pos h1]
        exact bad σ1
    · obtain ⟨x, hx, rfl⟩ := nI_of h1
      cases hy : btw p2 1 (nI 50)
      · refine wr_err cw 2 2 (σ' := σ) ?_ (FrC.refl σ) (by decide) (fun σ1 mw => ⟨0, wr σ1 82 0 2, ?_, FrK.t, rfl⟩)
        · show f_Q_stir σ _ _ _ = _
          unfold f_Q_stir
          rw [gridAt_in cw hj, cax_ok, jn_eq, jn_eq, if_neg h1, isFrom_ok, c50, hy]
          rfl
        · show f_R_stir σ1 _ _ _ = _
          unfold f_R_stir
          rw [rgrid_in mw hj, cap_some, jn_eq, if_neg (show ¬ (1 : Int32) = 0 by decide), jn_eq, if_neg h1, rbtw, c50, hy, cap_some, if_pos (show bI false = 0 from rfl)]
          exact bad σ1
      · obtain ⟨times, t1, t2, rfl⟩ := (btw_iff (a := 1) (by omega) (by omega)).mp hy
        have q0 : f_Q_stir σ (nI j) (nI x) (nI times) = if full (N j) (B j) = true then f_Q_stir_L43 (nI times) (gid j) (fun (v5_18 : Int32) (σ_19 : St) => some (.ok v5_18, σ_19)) FU (nI x) 0 σ else some (.error 3, σ) := by
          unfold f_Q_stir
          rw [gridAt_in cw hj, cax_ok, jn_eq, jn_eq, if_neg h1, isFrom_ok, c50, hy, cap_some, if_neg (show ¬ bI true = 0 by decide)]
          show cax (f_Q_needArgument σ 1) _ = _
          rw [nar1, cax_ok, sq_ok hG, cap_some]
          cases full (N j) (B j)
          · rfl
          · rw [nst true, if_pos rfl, cax_ok, if_pos rfl]
        have r0 : ∀ σ1 : St, MW σ1 M N B → f_R_stir σ1 (nI j) (nI x) (nI times) = if full (N j) (B j) = true then f_R_stir_L84 (nI j) (nI times) (nI (N j)) (fun (v5_21 : Int64) (σ_22 : St) => some (v5_21.toInt32, σ_22)) FU (nL x) 0 (wr (wr σ1 82 0 0) 82 0 0) else some (0, wr (wr σ1 82 0 0) 82 0 3) := by
          intro σ1 mw
          have hM := mw.le
          unfold f_R_stir
          rw [rgrid_in mw hj, cap_some, jn_eq, if_neg (show ¬ (1 : Int32) = 0 by decide), jn_eq, if_neg h1, rbtw, c50, hy, cap_some, if_neg (show ¬ bI true = 0 by decide)]
          show sto σ1 82 0 0 _ = _
          rw [sto_eq, jn_eq, wr_at, if_pos (show (0 : Int32) = 0 from rfl), rsq_ok (mw.k FrK.t) hj, cap_some, jn_eq]
          cases full (N j) (B j)
          · rw [if_pos (show bI false = 0 from rfl), if_neg (show ¬ false = true by decide)]
            show sto (wr σ1 82 0 0) 82 0 3 _ = _
            rw [sto_eq]
            show (if wr (wr σ1 82 0 0) 82 0 3 82 0 ≤ 0 then _ else _) = _
            rw [wr_at, if_neg (by decide)]
          · rw [if_neg (show ¬ bI true = 0 by decide), if_pos (show true = true from rfl)]
            show sto (wr σ1 82 0 0) 82 0 0 _ = _
            rw [sto_eq]
            show (if wr (wr σ1 82 0 0) 82 0 0 82 0 ≤ 0 then _ else _) = _
            rw [wr_at, if_pos (show (0 : Int32) ≤ 0 by decide), ald_nI (by omega) (by decide), wr_fn (by omega), wr_fn (by omega), mw.od hj, lt1_eq, nI_long hx]
        cases hf : full (N j) (B j)
        · refine wr_err cw 3 3 (σ' := σ) ?_ (FrC.refl σ) (by decide) (fun σ1 mw => ⟨0, wr (wr σ1 82 0 0) 82 0 3, ?_, FrK.t.trans FrK.t, rfl⟩)
          · show f_Q_stir σ _ _ _ = _
            rw [q0, hf]; rfl
          · show f_R_stir σ1 _ _ _ = _
            rw [r0 σ1 mw, hf, if_neg (by decide)]
        · have hs := full_sq hG.1 hf
          obtain ⟨x', B', σ', hx', e1, hs', g', f', hr⟩ := stir_L (k := gid j) (n := N j) (times := times) hj rfl t2 (fun (v5_18 : Int32) (σ_19 : St) => some (.ok v5_18, σ_19)) (fun (v5_21 : Int64) (σ_22 : St) => some (v5_21.toInt32, σ_22)) times 0 (B j) σ x FU (by omega) (FU_gt (by omega)) hG hs hx
          refine wr_ok (nI x') (σ' := σ') (M' := M) (N' := N) (B' := upG B j B') ?_ (cw.up hj g' (by rw [f' 0 (by unfold gid; omega)]) (fun m _ _ hm => f' m hm)) (fun m a b c => f' m (by unfold gid; omega)) (fun σ1 mw => ?_)
          · show f_Q_stir σ _ _ _ = _
            rw [q0, hf, if_pos rfl]
            exact e1
          · obtain ⟨τ, u1, u2, u3⟩ := hr (wr (wr σ1 82 0 0) 82 0 0) FU B (by rw [upG_same]; exact (mw.k FrK.t).k FrK.t) (FU_gt (by omega))
            refine ⟨τ, ?_, u2, (FrK.t.trans FrK.t).fw.trans ⟨fun m hm => u3 m (by omega) (by omega), fun s _ => by rw [u3 82 (by omega) (by omega)]⟩, by rw [u3 82 (by omega) (by omega), wr_at]⟩
            show f_R_stir σ1 _ _ _ = _
            rw [r0 σ1 mw, hf, if_pos rfl]
            refine u1.trans ?_
            rw [nL_int]
  · refine wr_err cw 1 1 (σ' := σ) ?_ (FrC.refl σ) (by decide) (fun σ1 mw => ⟨0, wr σ1 82 0 1, ?_, FrK.t, rfl⟩)
    · show f_Q_stir σ _ _ _ = _
      unfold f_Q_stir
      rw [gridAt_out cw hx, cax_er]
    · show f_R_stir σ1 _ _ _ = _
      unfold f_R_stir
      rw [rgrid_out mw hx, cap_some, jn_eq, if_pos (show (0 : Int32) = 0 from rfl)]
      show sto σ1 82 0 1 _ = _
      rw [sto_eq, jn_eq, wr_at, if_neg (show ¬ (1 : Int32) = 0 by decide)]
      show (if wr σ1 82 0 1 82 0 ≤ 0 then _ else _) = _
      rw [wr_at, if_neg (by decide)]
