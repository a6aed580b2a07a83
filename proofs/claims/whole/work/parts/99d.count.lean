/-! count -/
section RG
variable {σ : St} {M : Nat} {N : Nat → Nat} {B : Nat → Bd}
theorem oneL {τ : St} {n : Nat} (d : Nat → Nat) {F : Nat → Nat → St → Option (Int32 × St)} {K : St → Option (Int32 × St)} (h5 : n ≤ 5) (hs : ∀ f i υ, i < n → Frx 90 τ υ → F (f + 1) i υ = F f (i + 1) (wr υ 90 i (nI (d i)))) (hx : ∀ f υ, Frx 90 τ υ → F (f + 1) n υ = K υ) : ∃ υ, F FU 0 τ = K υ ∧ (∀ i, i < n → υ 90 i = nI (d i)) ∧ Frx 90 τ υ := by
  refine loopE F n (fun i υ => (∀ k, k < i → υ 90 k = nI (d k)) ∧ Frx 90 τ υ) (fun R => ∃ υ, R = K υ ∧ (∀ i, i < n → υ 90 i = nI (d i)) ∧ Frx 90 τ υ) ?_ ?_ FU 0 τ (by omega) (FU_gt (by omega)) ⟨fun k hk => by omega, fun m _ => rfl⟩
  · rintro f i υ hi ⟨p1, p2⟩
    refine Or.inr ⟨_, hs f i υ hi p2, fun k hk => ?_, fun m hm => by rw [wr_fn hm]; exact p2 m hm⟩
    rw [wr_get]
    by_cases e : k = i
    · rw [if_pos ⟨rfl, e⟩, e]
    · rw [if_neg (by omega)]; exact p1 k (by omega)
  · rintro f υ ⟨p1, p2⟩
    exact ⟨υ, hx f υ p2, p1, p2⟩
theorem mw_frx {τ : St} {o : Nat} (h : MW σ M N B) (f : Frx o σ τ) (ho : o ≠ 82 ∧ o ≠ 83 ∧ o ≠ 84 ∧ o ≠ 85 ∧ o ≠ 103 ∧ 82 ≤ o) : MW τ M N B := h.fr ⟨fun m hm => f m (by omega), by rw [f 82 (by omega)], by rw [f 82 (by omega)]⟩
theorem line75 (h : MW σ M N B) {j a : Nat} (hj : j < M) (hs : SQ (N j) (B j)) (ha : a < 2 * N j) (v2 v3 v5 : Int32) (K : St → Option (Int32 × St)) : ∃ τ, f_R_groupOf_L75 (nI j) v2 v3 (nI (N j)) v5 (nI a) (bI (decide (a < N j))) K FU 0 σ = K τ ∧ (∀ i, i < N j → τ 90 i = nI (if a < N j then sg (B j) a i else sg (B j) i (a - N j))) ∧ Frx 90 σ τ := by
  have hn := h.n hj
  refine oneL (n := N j) (fun i => if a < N j then sg (B j) a i else sg (B j) i (a - N j)) (F := fun f i τ => f_R_groupOf_L75 (nI j) v2 v3 (nI (N j)) v5 (nI a) (bI (decide (a < N j))) K f (nI i) τ) hn.2 ?_ ?_
  · intro f i τ hi fr
    have mwτ := mw_frx h fr (by omega)
    show f_R_groupOf_L75 (nI j) v2 v3 (nI (N j)) v5 (nI a) (bI (decide (a < N j))) K (f + 1) (nI i) τ = _
    rw [f_R_groupOf_L75.eq_2]
    rw [if_pos (nI_lt hi (by omega)), jn_eq]
    by_cases hl : a < N j
    · rw [decide_eq_true hl, if_neg (show ¬ bI true = 0 by decide), sq_at mwτ hj hs hl hi, cap_some, if_pos hl]
      show ast τ 90 5 (nI i) (nI (sg (B j) a i)) _ = _
      rw [ast_nI (by omega) (by decide), nI_1]
    · rw [decide_eq_false hl, if_pos (show bI false = 0 from rfl), nI_sub (by omega), sq_at mwτ hj hs hi (by omega), cap_some, if_neg hl]
      show ast τ 90 5 (nI i) (nI (sg (B j) i (a - N j))) _ = _
      rw [ast_nI (by omega) (by decide), nI_1]
  · intro f τ fr
    show f_R_groupOf_L75 (nI j) v2 v3 (nI (N j)) v5 (nI a) (bI (decide (a < N j))) K (f + 1) (nI (N j)) τ = _
    rw [f_R_groupOf_L75.eq_2]
    rw [if_neg (nI_nlt (Nat.le_refl _) (by omega))]
theorem makers49 (h : MW σ M N B) {j : Nat} (hj : j < M) (hs : SQ (N j) (B j)) (R C : Bool) (K : Int32 → St → Option (Int32 × St)) : ∃ τ, f_R_groupOf_L49 (nI j) (bI R) (bI C) (nI (N j)) K FU 0 0 σ = K (nI (mkR (N j) (B j) R C (2 * N j)).length) τ ∧ Lst 96 τ (mkR (N j) (B j) R C (2 * N j)) ∧ ∀ m, m ≠ 90 → m ≠ 96 → τ m = σ m := by
  have hn := h.n hj
  refine loopE (fun f a (τ : St) => f_R_groupOf_L49 (nI j) (bI R) (bI C) (nI (N j)) K f (nI (mkR (N j) (B j) R C a).length) (nI a) τ) (2 * N j)
    (fun a τ => Lst 96 τ (mkR (N j) (B j) R C a) ∧ ∀ m, m ≠ 90 → m ≠ 96 → τ m = σ m)
    (fun R' => ∃ τ, R' = K (nI (mkR (N j) (B j) R C (2 * N j)).length) τ ∧ Lst 96 τ (mkR (N j) (B j) R C (2 * N j)) ∧ ∀ m, m ≠ 90 → m ≠ 96 → τ m = σ m) ?_ ?_ FU 0 σ (by omega) (FU_gt (by omega)) ⟨fun i x hx => (by cases hx), fun m _ _ => rfl⟩
  · rintro f a τ ha ⟨p1, p2⟩
    have mwτ : MW τ M N B := h.fr ⟨fun m hm => p2 m (by omega) (by omega), by rw [p2 82 (by omega) (by omega)], by rw [p2 82 (by omega) (by omega)]⟩
    have hlen := mkR_len (n := N j) (B := B j) R C a
    obtain ⟨υ, e1, d1, f1⟩ := line75 mwτ hj hs ha (bI R) (bI C) (nI (mkR (N j) (B j) R C a).length) (fun (σ_17 : St) => jn (fun (v5_19 : Int32) (σ_20 : St) => f_R_groupOf_L49 (nI j) (bI R) (bI C) (nI (N j)) K f v5_19 (nI a + 1) σ_20) fun j156_18 => jn (cap (f_R_numberOf σ_17 (nI (N j))) fun r_23 => ast σ_17 96 10 (nI (mkR (N j) (B j) R C a).length) r_23 fun σ_24 => j156_18 ((nI (mkR (N j) (B j) R C a).length) + 1) σ_24) fun j140_21 => if bI (decide (a < N j)) = 0 then if bI C = 0 then j156_18 (nI (mkR (N j) (B j) R C a).length) σ_17 else j140_21 else if bI R = 0 then j156_18 (nI (mkR (N j) (B j) R C a).length) σ_17 else j140_21)
    have l1 : Lst 96 υ (mkR (N j) (B j) R C a) := p1.fr (fun i => by rw [f1 96 (by omega)])
    have fr1 : ∀ m, m ≠ 90 → m ≠ 96 → υ m = σ m := fun m x y => by rw [f1 m x, p2 m x y]
    have e0 : f_R_groupOf_L49 (nI j) (bI R) (bI C) (nI (N j)) K (f + 1) (nI (mkR (N j) (B j) R C a).length) (nI a) τ = f_R_groupOf_L75 (nI j) (bI R) (bI C) (nI (N j)) (nI (mkR (N j) (B j) R C a).length) (nI a) (bI (decide (a < N j))) (fun (σ_17 : St) => jn (fun (v5_19 : Int32) (σ_20 : St) => f_R_groupOf_L49 (nI j) (bI R) (bI C) (nI (N j)) K f v5_19 (nI a + 1) σ_20) fun j156_18 => jn (cap (f_R_numberOf σ_17 (nI (N j))) fun r_23 => ast σ_17 96 10 (nI (mkR (N j) (B j) R C a).length) r_23 fun σ_24 => j156_18 ((nI (mkR (N j) (B j) R C a).length) + 1) σ_24) fun j140_21 => if bI (decide (a < N j)) = 0 then if bI C = 0 then j156_18 (nI (mkR (N j) (B j) R C a).length) σ_17 else j140_21 else if bI R = 0 then j156_18 (nI (mkR (N j) (B j) R C a).length) σ_17 else j140_21) FU 0 τ := by
      rw [f_R_groupOf_L49.eq_2]
      rw [show (2 : Int32) = nI 2 from rfl, nI_mul, if_pos (nI_lt ha (by omega)), jn_eq]
      by_cases hl : a < N j
      · rw [if_pos (nI_lt hl (by omega)), decide_eq_true hl]; rfl
      · rw [if_neg (nI_nlt (by omega) (by omega)), decide_eq_false hl]; rfl
    have add : ∀ x : Nat, f_R_numberOf υ (nI (N j)) = some (nI x) → ∃ τ', (cap (f_R_numberOf υ (nI (N j))) fun r_23 => ast υ 96 10 (nI (mkR (N j) (B j) R C a).length) r_23 fun σ_24 => f_R_groupOf_L49 (nI j) (bI R) (bI C) (nI (N j)) K f ((nI (mkR (N j) (B j) R C a).length) + 1) (nI a + 1) σ_24) = f_R_groupOf_L49 (nI j) (bI R) (bI C) (nI (N j)) K f (nI (mkR (N j) (B j) R C a ++ [x]).length) (nI (a + 1)) τ' ∧ Lst 96 τ' (mkR (N j) (B j) R C a ++ [x]) ∧ ∀ m, m ≠ 90 → m ≠ 96 → τ' m = σ m := by
      intro x hx
      refine ⟨wr υ 96 (mkR (N j) (B j) R C a).length (nI x), ?_, l1.add x, fun m y z => by rw [wr_fn z]; exact fr1 m y z⟩
      rw [hx, cap_some, ast_nI (by omega) (by decide), nI_1, nI_1, List.length_append]
      rfl
    show (∃ _, _) ∨ ∃ a' : St, f_R_groupOf_L49 (nI j) (bI R) (bI C) (nI (N j)) K (f + 1) (nI (mkR (N j) (B j) R C a).length) (nI a) τ = _ ∧ _
    rw [e0, e1]
    right
    by_cases hl : a < N j
    · have hE : mkR (N j) (B j) R C (a + 1) = mkR (N j) (B j) R C a ++ (if R = true then [rkN (N j) (sg (B j) a) (N j)] else []) := by rw [mkR, if_pos hl]
      rw [hE]
      have hno : f_R_numberOf υ (nI (N j)) = some (nI (rkN (N j) (sg (B j) a) (N j))) := rno_ok hn.2 (row_pm hs hl).1 (fun i hi => by rw [d1 i hi, if_pos hl])
      cases R
      · refine ⟨υ, ?_, by simpa using l1, fr1⟩
        rw [jn_eq, jn_eq, decide_eq_true hl, if_neg (show ¬ bI true = 0 by decide), if_pos (show bI false = 0 from rfl), nI_1, if_neg (show ¬ false = true by decide), List.append_nil]
      · obtain ⟨τ', q1, q2, q3⟩ := add _ hno
        refine ⟨τ', ?_, q2, q3⟩
        rw [jn_eq, jn_eq, decide_eq_true hl, if_neg (show ¬ bI true = 0 by decide), if_neg (show ¬ bI true = 0 by decide)]
        exact q1
    · have hE : mkR (N j) (B j) R C (a + 1) = mkR (N j) (B j) R C a ++ (if C = true then [rkN (N j) (fun b => sg (B j) b (a - N j)) (N j)] else []) := by rw [mkR, if_neg hl]
      rw [hE]
      have hno : f_R_numberOf υ (nI (N j)) = some (nI (rkN (N j) (fun b => sg (B j) b (a - N j)) (N j))) := rno_ok hn.2 (col_pm hs (show a - N j < N j by omega)).1 (fun i hi => by rw [d1 i hi, if_neg hl])
      cases C
      · refine ⟨υ, ?_, by simpa using l1, fr1⟩
        rw [jn_eq, jn_eq, decide_eq_false hl, if_pos (show bI false = 0 from rfl), if_pos (show bI false = 0 from rfl), nI_1, if_neg (show ¬ false = true by decide), List.append_nil]
      · obtain ⟨τ', q1, q2, q3⟩ := add _ hno
        refine ⟨τ', ?_, q2, q3⟩
        rw [jn_eq, jn_eq, decide_eq_false hl, if_pos (show bI false = 0 from rfl), if_neg (show ¬ bI true = 0 by decide)]
        exact q1
  · rintro f τ ⟨p1, p2⟩
    refine ⟨τ, ?_, p1, p2⟩
    show f_R_groupOf_L49 (nI j) (bI R) (bI C) (nI (N j)) K (f + 1) _ (nI (2 * N j)) τ = _
    rw [f_R_groupOf_L49.eq_2]
    rw [show (2 : Int32) = nI 2 from rfl, nI_mul, if_neg (nI_nlt (Nat.le_refl _) (by omega))]
theorem rclose_ok {n : Nat} {mks : List Nat} (h1 : 2 ≤ n) (h2 : n ≤ 5) (la : LA σ n) (hmk : ∀ x, x ∈ mks → x < facN n) (hlen : mks.length ≤ 10) (hl : Lst 96 σ mks) {L0 : List Nat} (hc : RM σ L0) (hg : GI (facN n) mks (rmul n) 0 L0) (K : St → Option (Int32 × St)) : ∃ τ L, f_R_groupOf_L170 (nI n) (nI mks.length) K FU 0 σ = K τ ∧ RM τ L ∧ GI (facN n) mks (rmul n) L.length L ∧ FrJ σ τ := by
  have hf := fac_le h1 h2
  have ft : ∀ τ, FrJ σ τ → LA τ n ∧ Lst 96 τ mks := by
    intro τ f
    exact ⟨la.fr (f 82 9 (by omega) (by omega) (by omega) (by omega)) (f 82 10 (by omega) (by omega) (by omega) (by omega)) (funext (fun s => f 89 s (by omega) (by omega) (by omega) (by omega))), hl.fr (fun i => f 96 i (by omega) (by omega) (by omega) (by omega))⟩
  have inner : ∀ (κ : St → Option (Int32 × St)) (i y : Nat) (τ : St) (L : List Nat), RM τ L → GI (facN n) mks (rmul n) i L → FrJ σ τ → L[i]? = some y → ∃ τ' L', f_R_groupOf_L182 (nI n) (nI mks.length) (nI i) κ FU 0 τ = κ τ' ∧ RM τ' L' ∧ GI (facN n) mks (rmul n) (i + 1) L' ∧ FrJ σ τ' ∧ i < L'.length := by
    intro κ i y τ L hC hG hF hy
    refine loopE (fun f j (x : St × List Nat) => f_R_groupOf_L182 (nI n) (nI mks.length) (nI i) κ f (nI j) x.1) mks.length
      (fun j x => RM x.1 x.2 ∧ GI (facN n) mks (rmul n) i x.2 ∧ FrJ σ x.1 ∧ x.2[i]? = some y ∧ ∀ t mk, t < j → mks[t]? = some mk → rmul n mk y ∈ x.2)
      (fun R => ∃ τ' L', R = κ τ' ∧ RM τ' L' ∧ GI (facN n) mks (rmul n) (i + 1) L' ∧ FrJ σ τ' ∧ i < L'.length) ?_ ?_ FU 0 (τ, L) (by omega) (FU_gt (by omega)) ⟨hC, hG, hF, hy, fun t mk ht => by omega⟩
    · rintro f j ⟨τ, L⟩ hj ⟨p1, p2, p3, p4, p5⟩
      have p1 : RM τ L := p1
      have p2 : GI (facN n) mks (rmul n) i L := p2
      have p3 : FrJ σ τ := p3
      have p4 : L[i]? = some y := p4
      obtain ⟨gA, g19⟩ := ft τ p3
      have hyL : y ∈ L := List.mem_of_getElem? p4
      have hyN := (p2.2.1 y hyL).1
      obtain ⟨mk, hmkj⟩ : ∃ mk, mks[j]? = some mk := ⟨mks[j]'hj, List.getElem?_eq_getElem hj⟩
      have hmkm : mk ∈ mks := List.mem_of_getElem? hmkj
      have hmkN := hmk mk hmkm
      have hlen1 := p2.len
      have hil : i < L.length := by
        apply Classical.byContradiction
        intro hh
        rw [List.getElem?_eq_none (by omega)] at p4
        cases p4
      have hpa := lp_pm h1 h2 hmkN
      have hpb := lp_pm h1 h2 hyN
      have hpm := rmul_pm h1 h2 hmkN hyN
      obtain ⟨υ, e1, d1, f1⟩ := oneL (n := n) (τ := τ) (fun b => lp n mk (lp n y b)) (F := fun f' b υ => f_R_groupOf_L192 (nI n) (nI mks.length) (nI i) (nI j) (fun (σ_35 : St) => cap (f_R_numberOf σ_35 (nI n)) fun r_37 => cal (f_R_join σ_35 r_37) fun r_39 σ_40 => f_R_groupOf_L182 (nI n) (nI mks.length) (nI i) κ f (nI j + 1) σ_40) f' (nI b) υ) (K := fun (σ_35 : St) => cap (f_R_numberOf σ_35 (nI n)) fun r_37 => cal (f_R_join σ_35 r_37) fun r_39 σ_40 => f_R_groupOf_L182 (nI n) (nI mks.length) (nI i) κ f (nI j + 1) σ_40) h2 (by
        intro f' b υ hb fr
        have lb := hpb.1 b hb
        have x96 : υ 96 j = nI mk := by rw [fr 96 (by omega)]; exact g19 j mk hmkj
        have x94 : υ 94 i = nI y := by rw [fr 94 (by omega)]; exact p1.2.1 i y p4
        have x89 : ∀ m t, m < facN n → t < n → υ 89 (5 * m + t) = nI (lp n m t) := fun m t a b => by rw [fr 89 (by omega)]; exact gA.2.2 m t a b
        show f_R_groupOf_L192 (nI n) (nI mks.length) (nI i) (nI j) _ (f' + 1) (nI b) υ = _
        rw [f_R_groupOf_L192.eq_2]
        rw [if_pos (nI_lt hb (by omega)), ald_nI (by omega) (by decide), ald_nI (by omega) (by decide), x96, x94, show (5 : Int32) = nI 5 from rfl, nI_mul, nI_add, ald_nI (by omega) (by decide), x89 y b hyN hb, nI_mul, nI_add, ald_nI (by omega) (by decide), x89 mk _ hmkN lb, ast_nI (by omega) (by decide), show nI b + 1 = nI (b + 1) from nI_1 b]) (by
        intro f' υ fr
        show f_R_groupOf_L192 (nI n) (nI mks.length) (nI i) (nI j) _ (f' + 1) (nI n) υ = _
        rw [f_R_groupOf_L192.eq_2]
        rw [if_neg (nI_nlt (Nat.le_refl _) (by omega))])
      have hno : f_R_numberOf υ (nI n) = some (nI (rmul n mk y)) := rno_ok h2 hpm.1 d1
      have hnew : rmul n mk y < facN n := (lp_sur h1 h2 hpm).1
      have hC1 : RM υ L := p1.fr (by rw [f1 82 (by omega)]) (fun i => by rw [f1 94 (by omega)]) (fun i => by rw [f1 95 (by omega)])
      obtain ⟨υ2, e2, hC2, f2⟩ := join_ok hC1 p2.1 (fun x hx => by have := (p2.2.1 x hx).1; omega) (show rmul n mk y < 120 by omega)
      refine Or.inr ⟨(υ2, addL L (rmul n mk y)), ?_, hC2, p2.add hnew ((p2.2.1 y hyL).2.step hmkm) (by omega), fun m s a b c d => by
        show υ2 m s = σ m s
        rw [f2 m s a b c d, f1 m b, p3 m s a b c d], addL_get p4, fun t mk' ht hmk' => ?_⟩
      · show f_R_groupOf_L182 (nI n) (nI mks.length) (nI i) κ (f + 1) (nI j) τ = _
        rw [f_R_groupOf_L182.eq_2]
        rw [if_pos (nI_lt hj (by omega))]
        refine e1.trans ?_
        show cap (f_R_numberOf υ (nI n)) _ = _
        rw [hno, cap_some, e2, cal_some, nI_1]
      · show rmul n mk' y ∈ addL L (rmul n mk y)
        by_cases e : t = j
        · rw [e, hmkj] at hmk'
          have : mk = mk' := Option.some.inj hmk'
          rw [← this]
          exact addL_mem.mpr (Or.inr rfl)
        · exact addL_mem.mpr (Or.inl (p5 t mk' (by omega) hmk'))
    · rintro f ⟨τ, L⟩ ⟨p1, p2, p3, p4, p5⟩
      have p2 : GI (facN n) mks (rmul n) i L := p2
      have p4 : L[i]? = some y := p4
      refine ⟨τ, L, ?_, p1, ⟨p2.1, p2.2.1, p2.2.2.1, fun t z ht hz mk hmkm => ?_⟩, p3, ?_⟩
      · show f_R_groupOf_L182 (nI n) (nI mks.length) (nI i) κ (f + 1) (nI mks.length) τ = _
        rw [f_R_groupOf_L182.eq_2]
        rw [if_neg (nI_nlt (Nat.le_refl _) (by omega))]
      · by_cases e : t = i
        · rw [e, p4] at hz
          have : y = z := Option.some.inj hz
          subst this
          obtain ⟨t', ht', e'⟩ := List.getElem_of_mem hmkm
          exact p5 t' mk ht' (by rw [List.getElem?_eq_getElem ht', e'])
        · exact p2.2.2.2 t z (by omega) hz mk hmkm
      · apply Classical.byContradiction
        intro hh
        rw [List.getElem?_eq_none (by omega)] at p4
        cases p4
  have main := loopM (fun f (x : Nat × St × List Nat) => f_R_groupOf_L170 (nI n) (nI mks.length) K f (nI x.1) x.2.1) (fun x => RM x.2.1 x.2.2 ∧ GI (facN n) mks (rmul n) x.1 x.2.2 ∧ FrJ σ x.2.1 ∧ x.1 ≤ x.2.2.length) (fun x => 121 - x.1) (fun R => ∃ τ L, R = K τ ∧ RM τ L ∧ GI (facN n) mks (rmul n) L.length L ∧ FrJ σ τ) ?_ FU (0, σ, L0) (FU_gt (by show 121 - 0 < _; decide)) ⟨hc, hg, FrJ.refl σ, Nat.zero_le _⟩
  · exact main
  · rintro f ⟨i, τ, L⟩ ⟨p1, p2, p3, p4⟩
    have p1 : RM τ L := p1
    have p2 : GI (facN n) mks (rmul n) i L := p2
    have p3 : FrJ σ τ := p3
    have p4 : i ≤ L.length := p4
    have hlen1 := p2.len
    by_cases hi : i < L.length
    · right
      obtain ⟨τ', L', e, q1, q2, q3, q4⟩ := inner (fun (σ_41 : St) => f_R_groupOf_L170 (nI n) (nI mks.length) K f (nI i + 1) σ_41) i (L[i]'hi) τ L p1 p2 p3 (List.getElem?_eq_getElem hi)
      refine ⟨(i + 1, τ', L'), ?_, ⟨q1, q2, q3, q4⟩, by show 121 - (i + 1) < 121 - i; omega⟩
      show f_R_groupOf_L170 (nI n) (nI mks.length) K (f + 1) (nI i) τ = _
      rw [f_R_groupOf_L170.eq_2]
      rw [p1.1, if_pos (nI_lt hi (by omega)), e, nI_1]
    · left
      have e : i = L.length := by omega
      subst e
      have p1 : RM τ L := p1
      have p3 : FrJ σ τ := p3
      refine ⟨τ, L, ?_, p1, p2, p3⟩
      show f_R_groupOf_L170 (nI n) (nI mks.length) K (f + 1) (nI L.length) τ = _
      rw [f_R_groupOf_L170.eq_2]
      rw [p1.1, if_neg (nI_nlt (Nat.le_refl _) (by omega))]
theorem flags25 (v1 v2 v3 v4 v5 : Int32) (K : St → Option (Int32 × St)) : ∃ τ, f_R_groupOf_L25 v1 v2 v3 v4 v5 K FU 0 σ = K τ ∧ (∀ i, i < 120 → τ 95 i = 0) ∧ Frx 95 σ τ := by
  refine loopE (fun m i (τ : St) => f_R_groupOf_L25 v1 v2 v3 v4 v5 K m (nI i) τ) 120
    (fun i τ => (∀ i', i' < i → τ 95 i' = 0) ∧ Frx 95 σ τ)
    (fun R => ∃ τ, R = K τ ∧ (∀ i, i < 120 → τ 95 i = 0) ∧ Frx 95 σ τ) ?_ ?_ FU 0 _ (by omega) (FU_gt (by decide)) ⟨fun j hj => by omega, fun m hm => rfl⟩
  · intro m i τ hi ⟨p3, p4⟩
    refine Or.inr ⟨wr τ 95 i (zb 0), ?_, fun i' hi' => ?_, fun m' hm => ?_⟩
    · show f_R_groupOf_L25 v1 v2 v3 v4 v5 K (m + 1) (nI i) τ = _
      rw [f_R_groupOf_L25.eq_2]
      rw [if_pos (show nI i < 120 from nI_lt hi (by decide)), asz_nI (by omega) (by decide), nI_1]
    · rw [wr_get]
      by_cases hji : i' = i
      · rw [if_pos ⟨rfl, hji⟩]; rfl
      · rw [if_neg (by omega)]; exact p3 i' (by omega)
    · rw [wr_fn hm]; exact p4 m' hm
  · intro m τ ⟨p3, p4⟩
    refine ⟨τ, ?_, p3, p4⟩
    show f_R_groupOf_L25 v1 v2 v3 v4 v5 K (m + 1) (nI 120) τ = _
    rw [f_R_groupOf_L25.eq_2]
    rw [if_neg (show ¬ nI 120 < 120 by decide)]
theorem groupOf_ok (h : MW σ M N B) (ca : CA σ) {j : Nat} (hj : j < M) (hs : SQ (N j) (B j)) (R C : Bool) : ∃ τ L, f_R_groupOf σ (nI j) (bI R) (bI C) = some (nI L.length, τ) ∧ GI (facN (N j)) (mkR (N j) (B j) R C (2 * N j)) (rmul (N j)) L.length L ∧ LA τ (N j) ∧ ∀ m s, ¬ (m = 82 ∧ (s = 9 ∨ s = 10 ∨ s = 18)) → m ≠ 89 → m ≠ 90 → m ≠ 94 → m ≠ 95 → m ≠ 96 → τ m s = σ m s := by
  have hM := h.le
  have hn := h.n hj
  have hf := fac_le hn.1 hn.2
  obtain ⟨τ1, e1, la, f1⟩ := layAll_ok ca hn.1 hn.2
  unfold f_R_groupOf
  rw [ald_nI (by omega) (by decide), h.od hj, e1, cal_some, sto_eq]
  obtain ⟨τ2, e2, z2, f2⟩ := flags25 (σ := wr τ1 82 18 0) (nI j) (bI R) (bI C) (nI (N j)) 0 (fun (σ_7 : St) => f_R_groupOf_L49 (nI j) (bI R) (bI C) (nI (N j)) (fun (v5_25 : Int32) (σ_26 : St) => cal (f_R_join σ_26 0) fun r_28 σ_29 => f_R_groupOf_L170 (nI (N j)) v5_25 (fun (σ_42 : St) => some ((σ_42 82 18), σ_42)) FU 0 σ_29) FU 0 0 σ_7)
  have F2 : ∀ m s, ¬ (m = 82 ∧ (s = 9 ∨ s = 10 ∨ s = 18)) → m ≠ 89 → m ≠ 95 → τ2 m s = σ m s := fun m s a b c => by rw [f2 m c, wr_get, if_neg (by omega), f1 m s (by omega) b]
  have mw2 : MW τ2 M N B := h.fr ⟨fun m hm => funext (fun s => F2 m s (by omega) (by omega) (by omega)), F2 82 1 (by omega) (by omega) (by omega), F2 82 4 (by omega) (by omega) (by omega)⟩
  have la2 : LA τ2 (N j) := la.fr (by rw [f2 82 (by omega), wr_get, if_neg (by omega)]) (by rw [f2 82 (by omega), wr_get, if_neg (by omega)]) (by rw [f2 89 (by omega), wr_fn (by omega)])
  obtain ⟨τ3, e3, l3, f3⟩ := makers49 mw2 hj hs R C (fun (v5_25 : Int32) (σ_26 : St) => cal (f_R_join σ_26 0) fun r_28 σ_29 => f_R_groupOf_L170 (nI (N j)) v5_25 (fun (σ_42 : St) => some ((σ_42 82 18), σ_42)) FU 0 σ_29)
  have c3 : RM τ3 [] := ⟨by rw [f3 82 (by omega) (by omega), f2 82 (by omega), wr_at]; rfl, fun i x hx => (by cases hx), fun x hx => by rw [f3 95 (by omega) (by omega), z2 x hx]; rfl⟩
  have la3 : LA τ3 (N j) := la2.fr (by rw [f3 82 (by omega) (by omega)]) (by rw [f3 82 (by omega) (by omega)]) (f3 89 (by omega) (by omega))
  obtain ⟨τ4, e4, c4, f4⟩ := join_ok c3 List.nodup_nil (fun x hx => by cases hx) (show 0 < 120 by omega)
  have la4 : LA τ4 (N j) := la3.fr (f4 82 9 (by omega) (by omega) (by omega) (by omega)) (f4 82 10 (by omega) (by omega) (by omega) (by omega)) (funext (fun s => f4 89 s (by omega) (by omega) (by omega) (by omega)))
  have hmk : ∀ x, x ∈ mkR (N j) (B j) R C (2 * N j) → x < facN (N j) := by
    intro x hx
    rcases (mkR_mem R C _).mp hx with ⟨_, b, _, hb, rfl⟩ | ⟨_, b, hb, rfl⟩
    · exact (lp_sur hn.1 hn.2 (row_pm hs hb)).1
    · exact (lp_sur hn.1 hn.2 (col_pm hs (show b < N j by omega))).1
  have hg0 : GI (facN (N j)) (mkR (N j) (B j) R C (2 * N j)) (rmul (N j)) 0 (addL [] 0) := by
    refine ⟨addL_nodup List.nodup_nil, fun x hx => ?_, addL_mem.mpr (Or.inr rfl), fun k y hk => by omega⟩
    rcases addL_mem.mp hx with h1 | rfl
    · cases h1
    · exact ⟨by omega, Rch.zero⟩
  have hlen := mkR_len (n := N j) (B := B j) R C (2 * N j)
  obtain ⟨τ, L, e5, c5, g5, f5⟩ := rclose_ok hn.1 hn.2 la4 hmk (by omega) (l3.fr (fun i => f4 96 i (by omega) (by omega) (by omega) (by omega))) c4 hg0 (fun (σ_42 : St) => some ((σ_42 82 18), σ_42))
  refine ⟨τ, L, ?_, g5, la4.fr (f5 82 9 (by omega) (by omega) (by omega) (by omega)) (f5 82 10 (by omega) (by omega) (by omega) (by omega)) (funext (fun s => f5 89 s (by omega) (by omega) (by omega) (by omega))), fun m s a b c d e g => ?_⟩
  · refine e2.trans (e3.trans ?_)
    show cal (f_R_join τ3 0) _ = _
    rw [show (0 : Int32) = nI 0 from rfl, e4, cal_some]
    refine e5.trans ?_
    show some (τ 82 18, τ) = _
    rw [c5.1]
  · rw [f5 m s (by omega) c d e, f4 m s (by omega) c d e, f3 m c g, F2 m s a b e]
end RG
theorem ok_count : Ok_count Inv := by
  intro σ hI p0 p1
  refine op_rd hI (Q := fun σ => f_Q_count σ p0 p1) (R := fun σ => f_R_count σ p0 p1) (fun M N B cw mt ct => ?_)
  refine sqA (b := 4) cw (by decide) (by omega) (QB := fun g σ_13 => if p1 = 0 then cap (f_Laws_closedSets σ_13 g) fun r_15 => some (.ok r_15, σ_13) else if p1 = 1 then cap (f_Symmetry_automorphisms σ_13 g) fun r_17 => some (.ok r_17, σ_13) else if p1 = 2 then cal (f_Symmetry_groupSize σ_13 g 1 0) fun r_19 σ_20 => some (.ok r_19, σ_20) else if p1 = 3 then cal (f_Symmetry_groupSize σ_13 g 0 1) fun r_22 σ_23 => some (.ok r_22, σ_23) else cal (f_Symmetry_groupSize σ_13 g 1 1) fun r_25 σ_26 => some (.ok r_25, σ_26)) (RB := fun σ_5 => if p1 = 0 then cap (f_R_closedSets σ_5 p0) fun r_17 => some (r_17, σ_5) else if p1 = 1 then cal (f_R_automorphisms σ_5 p0) fun r_14 σ_15 => some (r_14, σ_15) else jn (fun (s_7 : Int32) => jn (fun (s_9 : Int32) => cal (f_R_groupOf σ_5 p0 s_7 s_9) fun r_11 σ_12 => some (r_11, σ_12)) fun j64_8 => if p1 = 2 then j64_8 0 else j64_8 1) fun j54_6 => if p1 = 3 then j54_6 0 else j54_6 1) (fun _ => rfl) (fun _ => rfl) ?_
  rintro j a hj rfl ha rfl hs hG
  have hn := hG.le
  have grp : ∀ R C : Bool, ∃ v σ', f_Symmetry_groupSize σ (gid j) (bI R) (bI C) = some (v, σ') ∧ FrC σ σ' ∧ ∀ σ1, MW σ1 M N B → CA σ1 → σ1 82 0 = 0 → ∃ τ, f_R_groupOf σ1 (nI j) (bI R) (bI C) = some (v, τ) ∧ FrM σ1 τ ∧ CA τ ∧ τ 82 0 = 0 := by
    intro R C
    obtain ⟨σ', L, e, g, f⟩ := group_cls mt hG hs (show 33 < gid j by unfold gid; omega) R C
    refine ⟨nI L.length, σ', e, fun m hm => funext (fun s => f m s (by unfold scr at hm; omega) (by unfold scr at hm; omega) (by unfold scr at hm; omega) (by unfold scr at hm; omega) (by unfold scr at hm; omega)), fun σ1 mw ca h0 => ?_⟩
    obtain ⟨τ, L', e', g', la, f'⟩ := groupOf_ok mw ca hj hs R C
    refine ⟨τ, ?_, ⟨fun m hm => funext (fun s => f' m s (by omega) (by omega) (by omega) (by omega) (by omega) (by omega)), f' 82 1 (by omega) (by omega) (by omega) (by omega) (by omega) (by omega), f' 82 4 (by omega) (by omega) (by omega) (by omega) (by omega) (by omega)⟩, la.ca hn.1 hn.2, by rw [f' 82 0 (by omega) (by omega) (by omega) (by omega) (by omega) (by omega)]; exact h0⟩
    rw [e', group_same hn.1 hn.2 hs R C g g']
  rcases (by omega : a = 0 ∨ a = 1 ∨ a = 2 ∨ a = 3 ∨ a = 4) with rfl | rfl | rfl | rfl | rfl
  · refine ⟨nI (sumN (2 ^ N j - 1) (fun i => isCl (N j) (sg (B j)) (i + 1))), σ, ?_, FrC.refl σ, fun σ1 mw ca h0 => ⟨σ1, ?_, FrM.refl σ1, ca, h0⟩⟩
    · show (if nI 0 = 0 then _ else _) = _
      rw [if_pos (by rfl), clSets_ok hG hs, cap_some]
    · show (if nI 0 = 0 then _ else _) = _
      rw [if_pos (by rfl), rclSets_ok mw hj hs, cap_some]
  · refine ⟨nI (sumN (facN (N j)) (fun m => (dB (AU (N j) (sg (B j)) (cp m))).toNat)), σ, ?_, FrC.refl σ, fun σ1 mw ca h0 => ?_⟩
    · show (if nI 1 = 0 then _ else if nI 1 = 1 then _ else _) = _
      rw [if_neg (by decide), if_pos (by rfl), auto_ok mt hG hs, cap_some]
    · obtain ⟨τ, e, la, f⟩ := rauto_ok mw ca hj hs
      refine ⟨τ, ?_, ⟨fun m hm => funext (fun s => f m s (by omega) (by omega)), f 82 1 (by omega) (by omega), f 82 4 (by omega) (by omega)⟩, la.ca hn.1 hn.2, by rw [f 82 0 (by omega) (by omega)]; exact h0⟩
      show (if nI 1 = 0 then _ else if nI 1 = 1 then _ else _) = _
      rw [if_neg (by decide), if_pos (by rfl), e, cal_some, auto_same hn.1 hn.2 hs]
  · obtain ⟨v, σ', e, fc, hr⟩ := grp true false
    refine ⟨v, σ', ?_, fc, fun σ1 mw ca h0 => ?_⟩
    · show (if nI 2 = 0 then _ else if nI 2 = 1 then _ else if nI 2 = 2 then cal (f_Symmetry_groupSize σ (gid j) (bI true) (bI false)) _ else _) = _
      rw [if_neg (by decide), if_neg (by decide), if_pos (by rfl), e, cal_some]
    · obtain ⟨τ, e2, a1, a2, a3⟩ := hr σ1 mw ca h0
      refine ⟨τ, ?_, a1, a2, a3⟩
      show (if nI 2 = 0 then _ else if nI 2 = 1 then _ else _) = _
      rw [if_neg (by decide), if_neg (by decide), jn_eq, if_neg (by decide)]
      show jn _ _ = _
      rw [jn_eq, if_pos (by rfl)]
      show cal (f_R_groupOf σ1 (nI j) (bI true) (bI false)) _ = _
      rw [e2, cal_some]
  · obtain ⟨v, σ', e, fc, hr⟩ := grp false true
    refine ⟨v, σ', ?_, fc, fun σ1 mw ca h0 => ?_⟩
    · show (if nI 3 = 0 then _ else if nI 3 = 1 then _ else if nI 3 = 2 then _ else if nI 3 = 3 then cal (f_Symmetry_groupSize σ (gid j) (bI false) (bI true)) _ else _) = _
      rw [if_neg (by decide), if_neg (by decide), if_neg (by decide), if_pos (by rfl), e, cal_some]
    · obtain ⟨τ, e2, a1, a2, a3⟩ := hr σ1 mw ca h0
      refine ⟨τ, ?_, a1, a2, a3⟩
      show (if nI 3 = 0 then _ else if nI 3 = 1 then _ else _) = _
      rw [if_neg (by decide), if_neg (by decide), jn_eq, if_pos (by rfl)]
      show jn _ _ = _
      rw [jn_eq, if_neg (by decide)]
      show cal (f_R_groupOf σ1 (nI j) (bI false) (bI true)) _ = _
      rw [e2, cal_some]
  · obtain ⟨v, σ', e, fc, hr⟩ := grp true true
    refine ⟨v, σ', ?_, fc, fun σ1 mw ca h0 => ?_⟩
    · show (if nI 4 = 0 then _ else if nI 4 = 1 then _ else if nI 4 = 2 then _ else if nI 4 = 3 then _ else cal (f_Symmetry_groupSize σ (gid j) (bI true) (bI true)) _) = _
      rw [if_neg (by decide), if_neg (by decide), if_neg (by decide), if_neg (by decide), e, cal_some]
    · obtain ⟨τ, e2, a1, a2, a3⟩ := hr σ1 mw ca h0
      refine ⟨τ, ?_, a1, a2, a3⟩
      show (if nI 4 = 0 then _ else if nI 4 = 1 then _ else _) = _
      rw [if_neg (by decide), if_neg (by decide), jn_eq, if_neg (by decide)]
      show jn _ _ = _
      rw [jn_eq, if_neg (by decide)]
      show cal (f_R_groupOf σ1 (nI j) (bI true) (bI true)) _ = _
      rw [e2, cal_some]
