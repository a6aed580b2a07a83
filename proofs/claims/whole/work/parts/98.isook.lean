/-! isotope holds -/
theorem make_fr {σ : St} {M n : Nat} {N : Nat → Nat} {B : Nat → Bd} (h : MR σ M N B) (hM : M < 12) {x : Int32} {τ : St} (e : f_R_make σ (nI n) = some (x, τ)) : ∀ m, m ≠ 82 → m ≠ 83 → m ≠ 84 → τ m = σ m := by
  have h1 := h.1
  have A : ∀ (σ0 : St), σ0 82 1 = nI M → ∃ τ : St, f_R_make_L12 (fun (σ_3 : St) => sto σ_3 82 1 ((σ_3 82 1) + 1) fun σ_4 => some (((σ_4 82 1) - 1), σ_4)) FU 0 σ0 = some (nI M, wr τ 82 1 (nI (M + 1))) ∧ ∀ m, m ≠ 84 → τ m = σ0 m := by
    intro σ0 h1
    refine loopE (fun m i (τ : St) => f_R_make_L12 (fun (σ_3 : St) => sto σ_3 82 1 ((σ_3 82 1) + 1) fun σ_4 => some (((σ_4 82 1) - 1), σ_4)) m (nI i) τ) 25
      (fun i τ => ∀ m, m ≠ 84 → τ m = σ0 m)
      (fun R => ∃ τ : St, R = some (nI M, wr τ 82 1 (nI (M + 1))) ∧ ∀ m, m ≠ 84 → τ m = σ0 m) ?_ ?_ FU 0 σ0 (by omega) (FU_gt (by decide)) (fun m _ => rfl)
    · intro m i τ hi p1
      refine Or.inr ⟨wr τ 84 (25 * M + i) (-1), ?_, fun m hm => ?_⟩
      · show f_R_make_L12 _ (m + 1) (nI i) τ = _
        rw [f_R_make_L12.eq_2]
        simp (disch := omega) only [p1 82 (by omega), h1, and_self, and_true, true_and, and_false, false_and, cap_some, cal_some, cax_ok, cax_er, jn_eq, lt1_eq, sto_eq, ald_nI, ast_nI, gld_nI, fac_nI, lt_nI, le_nI, eq_nI, nI_1, nI_add, nI_mul, cell5, cell25, ce_m1, if_pos, if_neg, ↓reduceIte, if_true, if_false, lt_l0, le_l0, eq_l0, ll_t0, add_l0, lt_l1, le_l1, eq_l1, ll_t1, add_l1, lt_l2, le_l2, eq_l2, ll_t2, add_l2, lt_l3, le_l3, eq_l3, ll_t3, add_l3, lt_l4, le_l4, eq_l4, ll_t4, add_l4, lt_l5, le_l5, eq_l5, ll_t5, add_l5, lt_l6, le_l6, eq_l6, ll_t6, add_l6, lt_l10, le_l10, eq_l10, ll_t10, add_l10, lt_l12, le_l12, eq_l12, ll_t12, add_l12, lt_l25, le_l25, eq_l25, ll_t25, add_l25, lt_l40, le_l40, eq_l40, ll_t40, add_l40, lt_l41, le_l41, eq_l41, ll_t41, add_l41, lt_l42, le_l42, eq_l42, ll_t42, add_l42, lt_l61, le_l61, eq_l61, ll_t61, add_l61, lt_l120, le_l120, eq_l120, ll_t120, add_l120, lt_l121, le_l121, eq_l121, ll_t121, add_l121, lt_l122, le_l122, eq_l122, ll_t122, add_l122, lt_l576, le_l576, eq_l576, ll_t576, add_l576, lt_l600, le_l600, eq_l600, ll_t600, add_l600, lt_l1000, le_l1000, eq_l1000, ll_t1000, add_l1000]
      · rw [wr_fn hm]; exact p1 m hm
    · intro m τ p1
      refine ⟨τ, ?_, p1⟩
      show f_R_make_L12 _ (m + 1) (nI 25) τ = _
      rw [f_R_make_L12.eq_2]
      have e1 : τ 82 1 = nI M := by rw [p1 82 (by omega)]; exact h1
      simp (disch := omega) only [wr_at, e1, nI_pred, and_self, and_true, true_and, and_false, false_and, cap_some, cal_some, cax_ok, cax_er, jn_eq, lt1_eq, sto_eq, ald_nI, ast_nI, gld_nI, fac_nI, lt_nI, le_nI, eq_nI, nI_1, nI_add, nI_mul, cell5, cell25, ce_m1, if_pos, if_neg, ↓reduceIte, if_true, if_false, lt_l0, le_l0, eq_l0, ll_t0, add_l0, lt_l1, le_l1, eq_l1, ll_t1, add_l1, lt_l2, le_l2, eq_l2, ll_t2, add_l2, lt_l3, le_l3, eq_l3, ll_t3, add_l3, lt_l4, le_l4, eq_l4, ll_t4, add_l4, lt_l5, le_l5, eq_l5, ll_t5, add_l5, lt_l6, le_l6, eq_l6, ll_t6, add_l6, lt_l10, le_l10, eq_l10, ll_t10, add_l10, lt_l12, le_l12, eq_l12, ll_t12, add_l12, lt_l25, le_l25, eq_l25, ll_t25, add_l25, lt_l40, le_l40, eq_l40, ll_t40, add_l40, lt_l41, le_l41, eq_l41, ll_t41, add_l41, lt_l42, le_l42, eq_l42, ll_t42, add_l42, lt_l61, le_l61, eq_l61, ll_t61, add_l61, lt_l120, le_l120, eq_l120, ll_t120, add_l120, lt_l121, le_l121, eq_l121, ll_t121, add_l121, lt_l122, le_l122, eq_l122, ll_t122, add_l122, lt_l576, le_l576, eq_l576, ll_t576, add_l576, lt_l600, le_l600, eq_l600, ll_t600, add_l600, lt_l1000, le_l1000, eq_l1000, ll_t1000, add_l1000]
  unfold f_R_make at e
  rw [h1, ast_nI (by omega) (by decide)] at e
  obtain ⟨υ, e2, f⟩ := A (wr σ 83 M (nI n)) (by rw [wr_fn (by omega)]; exact h1)
  have e3 : some (nI M, wr υ 82 1 (nI (M + 1))) = some (x, τ) := e2.symm.trans e
  have e4 : wr υ 82 1 (nI (M + 1)) = τ := congrArg Prod.snd (Option.some.inj e3)
  intro m a b c
  rw [← e4, wr_fn a, f m c, wr_fn b]
theorem ok_isotope : Ok_isotope Inv := by
  intro σ hI p0 p1 p2 p3
  refine op_wr hI (Q := fun σ => f_Q_isotope σ p0 p1 p2 p3) (R := fun σ => f_R_isotope σ p0 p1 p2 p3) (fun M N B cw mt => ?_)
  have hM12 := cw.le
  rcases g_cases M cw.le p0 with ⟨j, hj, rfl⟩ | hx
  · have hG := cw.g hj
    have hn := hG.le
    have hf := fac_le hn.1 hn.2
    obtain ⟨v1, σ1, e1, f1, c1⟩ := code_cls (σ := σ) hn.1 hn.2 p1
    obtain ⟨v2, σ2, e2, f2, c2⟩ := code_cls (σ := σ1) hn.1 hn.2 p2
    obtain ⟨v3, σ3, e3, f3, c3⟩ := code_cls (σ := σ2) hn.1 hn.2 p3
    have fr3 : Frx 9 σ σ3 := fun m hm => (f3 m hm).trans ((f2 m hm).trans (f1 m hm))
    have fc : FrC σ σ3 := fun m hm => fr3 m (by unfold scr at hm; omega)
    have cw3 := cw.fr fc
    have mt3 := mt.fr fc
    have o0 : σ (gid j) 3 = nI (N j) := hG.ord
    have o1 : σ1 (gid j) 3 = nI (N j) := by rw [f1 (gid j) (by unfold gid; omega)]; exact o0
    have o2 : σ2 (gid j) 3 = nI (N j) := by rw [f2 (gid j) (by unfold gid; omega)]; exact o1
    have o3 : σ3 (gid j) 3 = nI (N j) := by rw [f3 (gid j) (by unfold gid; omega)]; exact o2
    have q0 : f_Q_isotope σ (nI j) p1 p2 p3 = if v1 = -1 then some (.error 2, σ3) else if v2 = -1 then some (.error 2, σ3) else if v3 = -1 then some (.error 2, σ3) else cax (f_Q_newGrid σ3 (nI (N j))) fun r_19 σ_20 => f_Q_isotope_L93 (gid j) v1 v2 v3 r_19 (fun (σ_33 : St) => some (.ok ((σ_33 0 8) - 1), σ_33)) FU 0 σ_20 := by
      unfold f_Q_isotope
      rw [gridAt_in cw hj, cax_ok, o0, e1, cal_some, o1, e2, cal_some, o2, e3, cal_some, jn_eq, jn_eq]
      by_cases h1 : v1 = -1
      · rw [if_pos h1, if_pos h1]; rfl
      · rw [if_neg h1, if_neg h1]
        by_cases h2 : v2 = -1
        · rw [if_pos h2, if_pos h2]; rfl
        · rw [if_neg h2, if_neg h2]
          by_cases h3 : v3 = -1
          · rw [if_pos h3, if_pos h3]; rfl
          · rw [if_neg h3, if_neg h3]
            show cax (f_Q_needArgument σ3 1) _ = _
            rw [nar1, cax_ok, o3]
    have r0 : ∀ ρ : St, MW ρ M N B → ∃ τ1 τ2 τ3 : St, f_R_isMap (wr ρ 82 0 0) p1 (nI (N j)) 0 = some (bI (dB (GC (N j) p1)), τ1) ∧ f_R_isMap τ1 p2 (nI (N j)) 1 = some (bI (dB (GC (N j) p2)), τ2) ∧ f_R_isMap τ2 p3 (nI (N j)) 2 = some (bI (dB (GC (N j) p3)), τ3) ∧ Frx 88 (wr ρ 82 0 0) τ3 ∧ (∀ a b c, a < 2 ^ 31 → b < 2 ^ 31 → c < 2 ^ 31 → p1 = nI a → p2 = nI b → p3 = nI c → ∀ i, i < N j → τ3 88 i = nI (dig a i) ∧ τ3 88 (5 + i) = nI (dig b i) ∧ τ3 88 (10 + i) = nI (dig c i)) ∧
        ∃ s : Int32, (s = if dB (GC (N j) p1 ∧ GC (N j) p2 ∧ GC (N j) p3) = true then (if M = 12 then 3 else 0) else 2) ∧ f_R_isotope ρ (nI j) p1 p2 p3 = if s ≤ 0 then cal (f_R_make (wr τ3 82 0 s) (nI (N j))) fun r_10 σ_11 => f_R_isotope_L144 (nI j) (nI (N j)) r_10 (fun (σ_21 : St) => some (r_10, σ_21)) FU 0 σ_11 else some (0, wr τ3 82 0 s) := by
      intro ρ mw
      obtain ⟨τ1, d1, g1, k1⟩ := code_ref (σ := wr ρ 82 0 0) (w := 0) hn.1 hn.2 (by omega) p1
      obtain ⟨τ2, d2, g2, k2⟩ := code_ref (σ := τ1) (w := 1) hn.1 hn.2 (by omega) p2
      obtain ⟨τ3, d3, g3, k3⟩ := code_ref (σ := τ2) (w := 2) hn.1 hn.2 (by omega) p3
      have d1 : f_R_isMap (wr ρ 82 0 0) p1 (nI (N j)) 0 = some (bI (dB (GC (N j) p1)), τ1) := d1
      have d2 : f_R_isMap τ1 p2 (nI (N j)) 1 = some (bI (dB (GC (N j) p2)), τ2) := d2
      have d3 : f_R_isMap τ2 p3 (nI (N j)) 2 = some (bI (dB (GC (N j) p3)), τ3) := d3
      have g : Frx 88 (wr ρ 82 0 0) τ3 := fun m hm => (g3 m hm).trans ((g2 m hm).trans (g1 m hm))
      refine ⟨τ1, τ2, τ3, d1, d2, d3, g, ?_, _, rfl, ?_⟩
      · intro a b c ha hb hc ea eb ec i hi
        obtain ⟨a1, a2⟩ := k1 a ha ea
        obtain ⟨b1, b2⟩ := k2 b hb eb
        obtain ⟨c1, c2⟩ := k3 c hc ec
        refine ⟨?_, ?_, ?_⟩
        · rw [c2 i (by omega), b2 i (by omega)]
          have := a1 i hi
          rwa [Nat.mul_zero, Nat.zero_add] at this
        · rw [c2 (5 + i) (by omega)]
          exact b1 i hi
        · exact c1 i hi
      · have mwk : MW τ3 M N B := mw.fr ⟨fun m hm => by rw [g m (by omega), wr_fn (by omega)], by rw [g 82 (by omega), wr_get, if_neg (by omega)], by rw [g 82 (by omega), wr_get, if_neg (by omega)]⟩
        unfold f_R_isotope
        rw [rgrid_in mw hj, cap_some, jn_eq, if_neg (show ¬ (1 : Int32) = 0 by decide)]
        show sto ρ 82 0 0 _ = _
        rw [sto_eq, jn_eq, wr_at, if_pos (show (0 : Int32) = 0 from rfl), ald_nI (by omega) (by decide), wr_fn (by omega), mw.od hj, d1, cal_some, d2, cal_some, jn_eq, jn_eq]
        have fin : ∀ s : Int32, (sto τ3 82 0 s fun σ_38 => (fun (σ_7 : St) => if (σ_7 82 0) ≤ 0 then ald σ_7 83 12 (nI j) fun r_8 => cal (f_R_make σ_7 r_8) fun r_10 σ_11 => f_R_isotope_L144 (nI j) r_8 r_10 (fun (σ_21 : St) => some (r_10, σ_21)) FU 0 σ_11 else some (0, σ_7)) σ_38) = if s ≤ 0 then cal (f_R_make (wr τ3 82 0 s) (nI (N j))) fun r_10 σ_11 => f_R_isotope_L144 (nI j) (nI (N j)) r_10 (fun (σ_21 : St) => some (r_10, σ_21)) FU 0 σ_11 else some (0, wr τ3 82 0 s) := by
          intro s
          have e83 : wr τ3 82 0 s 83 j = nI (N j) := by rw [wr_fn (by omega)]; exact mwk.od hj
          rw [sto_eq]
          show (if wr τ3 82 0 s 82 0 ≤ 0 then ald (wr τ3 82 0 s) 83 12 (nI j) _ else _) = _
          rw [ald_nI (by omega) (by decide), e83, wr_at]
        have third : ∀ s30 : Bool, (cal (f_R_isMap τ2 p3 (nI (N j)) 2) fun r_32 σ_33 => jn (fun (s_35 : Int32) => jn (fun (s_37 : Int32) => sto σ_33 82 0 s_37 fun σ_38 => (fun (σ_7 : St) => if (σ_7 82 0) ≤ 0 then ald σ_7 83 12 (nI j) fun r_8 => cal (f_R_make σ_7 r_8) fun r_10 σ_11 => f_R_isotope_L144 (nI j) r_8 r_10 (fun (σ_21 : St) => some (r_10, σ_21)) FU 0 σ_11 else some (0, σ_7)) σ_38) fun j113_36 => if s_35 = 0 then j113_36 2 else if (σ_33 82 1) = 12 then j113_36 3 else j113_36 0) fun j87_34 => jn (j87_34 0) fun j86_39 => if r_32 = 0 then j86_39 else if bI s30 = 0 then j86_39 else j87_34 1) = if (if (dB (GC (N j) p3) && s30) = true then (if M = 12 then (3 : Int32) else 0) else 2) ≤ 0 then cal (f_R_make (wr τ3 82 0 (if (dB (GC (N j) p3) && s30) = true then (if M = 12 then (3 : Int32) else 0) else 2)) (nI (N j))) fun r_10 σ_11 => f_R_isotope_L144 (nI j) (nI (N j)) r_10 (fun (σ_21 : St) => some (r_10, σ_21)) FU 0 σ_11 else some (0, wr τ3 82 0 (if (dB (GC (N j) p3) && s30) = true then (if M = 12 then (3 : Int32) else 0) else 2)) := by
          intro s30
          have e12 : (τ3 82 1 = 12) = (M = 12) := mw12 mwk
          rw [d3, cal_some, jn_eq, jn_eq]
          cases dB (GC (N j) p3)
          · rw [if_pos (show bI false = 0 from rfl)]
            exact fin 2
          · rw [if_neg (show ¬ bI true = 0 by decide)]
            cases s30
            · rw [if_pos (show bI false = 0 from rfl)]
              exact fin 2
            · rw [if_neg (show ¬ bI true = 0 by decide)]
              show (if τ3 82 1 = 12 then _ else _) = _
              by_cases e : M = 12
              · rw [if_pos (by rw [e12]; exact e), if_pos (show (true && true) = true from rfl), if_pos e]
                exact fin 3
              · rw [if_neg (by rw [e12]; exact e), if_pos (show (true && true) = true from rfl), if_neg e]
                exact fin 0
        rw [dB_and, dB_and]
        cases hc1 : dB (GC (N j) p1)
        · cases hc2 : dB (GC (N j) p2)
          · rw [if_pos (show bI false = 0 from rfl)]
            refine (third false).trans ?_
            rw [Bool.and_false]; rfl
          · rw [if_neg (show ¬ bI true = 0 by decide), if_pos (show bI false = 0 from rfl)]
            refine (third false).trans ?_
            rw [Bool.and_false]; rfl
        · cases hc2 : dB (GC (N j) p2)
          · rw [if_pos (show bI false = 0 from rfl)]
            refine (third false).trans ?_
            rw [Bool.and_false]; rfl
          · rw [if_neg (show ¬ bI true = 0 by decide), if_neg (show ¬ bI true = 0 by decide)]
            refine (third true).trans ?_
            rw [Bool.and_true, Bool.true_and, Bool.true_and]
    have bad : ¬ (GC (N j) p1 ∧ GC (N j) p2 ∧ GC (N j) p3) → f_Q_isotope σ (nI j) p1 p2 p3 = some (.error 2, σ3) → WrG cd_isotope (fun σ => f_Q_isotope σ (nI j) p1 p2 p3) (fun σ => f_R_isotope σ (nI j) p1 p2 p3) σ M N B := by
      intro hno hq
      refine wr_err cw 2 2 (σ' := σ3) hq fc (by decide) (fun ρ mw => ?_)
      obtain ⟨τ1, τ2, τ3, _, _, _, g, _, s, hs, e⟩ := r0 ρ mw
      rw [dB_f hno, if_neg (by decide)] at hs
      subst hs
      refine ⟨0, wr τ3 82 0 2, ?_, ?_, wr_at⟩
      · show f_R_isotope ρ (nI j) p1 p2 p3 = _
        rw [e, if_neg (by decide)]
      · have hk : FrK (wr ρ 82 0 0) τ3 := ⟨fun m hm => g m (by omega), fun s _ => by rw [g 82 (by omega)]⟩
        exact (FrK.t.trans hk).trans FrK.t
    rcases c1 with ⟨n1, x1⟩ | ⟨a, ha, ea, va, x1⟩
    · exact bad (fun h => n1 h.1) (by rw [q0, if_pos x1])
    have hva := cp_sur hn.1 hn.2 va.2
    have w1 : ¬ v1 = -1 := by rw [x1]; exact nm1 (by omega)
    rcases c2 with ⟨n2, x2⟩ | ⟨b, hb, eb, vb, x2⟩
    · exact bad (fun h => n2 h.2.1) (by rw [q0, if_neg w1, if_pos x2])
    have hvb := cp_sur hn.1 hn.2 vb.2
    have w2 : ¬ v2 = -1 := by rw [x2]; exact nm1 (by omega)
    rcases c3 with ⟨n3, x3⟩ | ⟨c, hc, ec, vc, x3⟩
    · exact bad (fun h => n3 h.2.2) (by rw [q0, if_neg w1, if_neg w2, if_pos x3])
    have hvc := cp_sur hn.1 hn.2 vc.2
    have w3 : ¬ v3 = -1 := by rw [x3]; exact nm1 (by omega)
    rw [if_neg w1, if_neg w2, if_neg w3] at q0
    have hall : dB (GC (N j) p1 ∧ GC (N j) p2 ∧ GC (N j) p3) = true := dB_t ⟨⟨a, ha, ea, va⟩, ⟨b, hb, eb, vb⟩, ⟨c, hc, ec, vc⟩⟩
    by_cases e : M = 12
    · refine wr_err cw 3 3 (σ' := σ3) ?_ fc (by decide) (fun ρ mw => ?_)
      · show f_Q_isotope σ _ _ _ _ = _
        rw [q0, newGrid_no cw3 e, cax_er]
      · obtain ⟨τ1, τ2, τ3, _, _, _, g, _, s, hs, er⟩ := r0 ρ mw
        rw [hall, if_pos rfl, if_pos e] at hs
        subst hs
        refine ⟨0, wr τ3 82 0 3, ?_, ?_, wr_at⟩
        · show f_R_isotope ρ (nI j) p1 p2 p3 = _
          rw [er, if_neg (by decide)]
        · have hk : FrK (wr ρ 82 0 0) τ3 := ⟨fun m hm => g m (by omega), fun s _ => by rw [g 82 (by omega)]⟩
          exact (FrK.t.trans hk).trans FrK.t
    · obtain ⟨σ4, e4, cw4, f4⟩ := newGrid_ok cw3 (by omega) hn.1 hn.2
      have hG0 : GOK σ4 (gid M) (N j) B0 := by
        have := cw4.g (j := M) (by omega)
        rwa [upN_at, upG_at] at this
      have hGj : GOK σ4 (gid j) (N j) (B j) := (cw3.g hj).frame (fun m a b => f4 m (by unfold gid at a; omega) (gid_off (show j ≠ M by omega) a b))
      have mt4 : MT σ4 := fun m hm => by rw [f4 7 (by omega) (by unfold gid; omega), f4 8 (by omega) (by unfold gid; omega)]; exact mt3 m hm
      obtain ⟨τ, e5, g5, f5⟩ := iso_cls mt4 hGj hG0 (by unfold gid; omega) (by unfold gid; omega) va.2 vb.2 vc.2 (show nmN (N j) (dig a) < 120 by omega) (show nmN (N j) (dig b) < 120 by omega) (show nmN (N j) (dig c) < 120 by omega) hva.2 hvb.2 hvc.2 (fun (σ_33 : St) => some (.ok ((σ_33 0 8) - 1), σ_33))
      have cw5 := new_cw cw4 g5 f5
      refine wr_ok (nI M) (σ' := τ) (M' := M + 1) (N' := upN N M (N j)) (B' := upG B M (isoB (N j) (B j) (dig a) (dig b) (dig c))) ?_ cw5 (fun m a b c => by rw [f5 m (by unfold gid; omega), f4 m b (by unfold gid; omega), fc m a]) (fun ρ mw => ?_)
      · show f_Q_isotope σ _ _ _ _ = _
        rw [q0, e4, cax_ok, x1, x2, x3, e5, cw5.2.1, nI_pred]
      · obtain ⟨τ1, τ2, τ3, _, _, _, g, hdig, s, hs, er⟩ := r0 ρ mw
        rw [hall, if_pos rfl, if_neg e] at hs
        subst hs
        have hk : FrK (wr ρ 82 0 0) τ3 := ⟨fun m hm => g m (by omega), fun s _ => by rw [g 82 (by omega)]⟩
        have hk2 : FrK ρ (wr τ3 82 0 0) := (FrK.t.trans hk).trans FrK.t
        have mr := (mw.k hk2).mr
        obtain ⟨υ, e6, m1, m2, m3, _⟩ := mr.make (by omega) (fun j hj => (mw.n hj).2) hn.2
        have fmk := make_fr mr (by omega) e6
        have h88 : ∀ i, υ 88 i = τ3 88 i := fun i => by rw [fmk 88 (by omega) (by omega) (by omega), wr_fn (by omega)]
        obtain ⟨φ, e7, m7, f7⟩ := iso_ref hj rfl m1 (by omega) (fun j hj => mw.wf hj) va.2 vb.2 vc.2 (fun i hi => by rw [h88]; exact (hdig a b c ha hb hc ea eb ec i hi).1) (fun i hi => by rw [h88]; exact (hdig a b c ha hb hc ea eb ec i hi).2.1) (fun i hi => by rw [h88]; exact (hdig a b c ha hb hc ea eb ec i hi).2.2) (fun (σ_21 : St) => some (nI M, σ_21))
        refine ⟨φ, ?_, m7.mw (by omega) (Wf_up (fun j hj => mw.wf hj) (isoB_wf hG.1 va.2 vb.2 vc.2)), (hk2.fw.trans m2).trans ⟨fun m hm => f7 m (by omega), fun s _ => by rw [f7 82 (by omega)]⟩, by rw [f7 82 (by omega), m3, wr_at]⟩
        show f_R_isotope ρ _ _ _ _ = _
        rw [er, if_pos (by decide), e6, cal_some, e7]
  · refine wr_err cw 1 1 (σ' := σ) ?_ (FrC.refl σ) (by decide) (fun σ1 mw => ⟨0, wr σ1 82 0 1, ?_, FrK.t, rfl⟩)
    · show f_Q_isotope σ _ _ _ _ = _
      unfold f_Q_isotope
      rw [gridAt_out cw hx, cax_er]
    · show f_R_isotope σ1 _ _ _ _ = _
      unfold f_R_isotope
      rw [rgrid_out mw hx, cap_some, jn_eq, if_pos (show (0 : Int32) = 0 from rfl)]
      show sto σ1 82 0 1 _ = _
      rw [sto_eq, jn_eq, wr_at, if_neg (show ¬ (1 : Int32) = 0 by decide)]
      show (if wr σ1 82 0 1 82 0 ≤ 0 then _ else _) = _
      rw [wr_at, if_neg (by decide)]
