/-! the size of a group: the class -/
section GS
variable {σ : St} {k n : Nat} {B : Bd}
theorem CM.fr {τ τ' : St} {L : List Nat} (h : CM τ L) (e1 : τ' 18 6 = τ 18 6) (e2 : ∀ i, τ' 20 i = τ 20 i) (e3 : ∀ i, τ' 21 i = τ 21 i) : CM τ' L := ⟨by rw [e1]; exact h.1, h.2.1.fr e2, fun x hx => by rw [e3]; exact h.2.2 x hx⟩
theorem makers8 (h : GOK σ k n B) (hs : SQ n B) (hk : 33 < k) (R C : Bool) (h5 : σ 18 5 = 0) (K : St → Option (Int32 × St)) : ∃ τ, f_Symmetry_groupSize_L8 k (bI R) (bI C) K FU 0 σ = K τ ∧ τ 18 5 = nI (mkC n B R C n).length ∧ Lst 19 τ (mkC n B R C n) ∧ ∀ m s, ¬ (m = 18 ∧ s = 5) → m ≠ 9 → m ≠ 19 → τ m s = σ m s := by
  have hn := h.le
  refine loopE (fun f a (τ : St) => f_Symmetry_groupSize_L8 k (bI R) (bI C) K f (nI a) τ) n
    (fun a τ => τ 18 5 = nI (mkC n B R C a).length ∧ Lst 19 τ (mkC n B R C a) ∧ ∀ m s, ¬ (m = 18 ∧ s = 5) → m ≠ 9 → m ≠ 19 → τ m s = σ m s)
    (fun R' => ∃ τ, R' = K τ ∧ τ 18 5 = nI (mkC n B R C n).length ∧ Lst 19 τ (mkC n B R C n) ∧ ∀ m s, ¬ (m = 18 ∧ s = 5) → m ≠ 9 → m ≠ 19 → τ m s = σ m s) ?_ ?_ FU 0 σ (by omega) (FU_gt (by omega)) ⟨h5, fun i x hx => (by cases hx), fun m s _ _ _ => rfl⟩
  · rintro f a τ ha ⟨p1, p2, p3⟩
    have hG : GOK τ k n B := h.frame (fun m x y => funext (fun s => p3 m s (by omega) (by omega) (by omega)))
    have hlen := mkC_len (n := n) (B := B) R C a
    -- the row
    have hrow : ∃ τ1 l1, (jn (fun (σ_3 : St) => jn (fun (σ_5 : St) => f_Symmetry_groupSize_L8 k (bI R) (bI C) K f (nI a + 1) σ_5) fun j47_4 => if bI C = 0 then j47_4 σ_3 else cal (f_Symmetry_columnMap σ_3 k (nI a)) fun r_7 σ_8 => cal (f_Symmetry_addMaker σ_8 r_7) fun r_10 σ_11 => j47_4 σ_11) fun j32_2 => if bI R = 0 then j32_2 τ else cal (f_Symmetry_rowMap τ k (nI a)) fun r_13 σ_14 => cal (f_Symmetry_addMaker σ_14 r_13) fun r_16 σ_17 => j32_2 σ_17) = (jn (fun (σ_5 : St) => f_Symmetry_groupSize_L8 k (bI R) (bI C) K f (nI a + 1) σ_5) fun j47_4 => if bI C = 0 then j47_4 τ1 else cal (f_Symmetry_columnMap τ1 k (nI a)) fun r_7 σ_8 => cal (f_Symmetry_addMaker σ_8 r_7) fun r_10 σ_11 => j47_4 σ_11) ∧ l1 = mkC n B R C a ++ (if R = true then [nmN n (sg B a)] else []) ∧ τ1 18 5 = nI l1.length ∧ Lst 19 τ1 l1 ∧ ∀ m s, ¬ (m = 18 ∧ s = 5) → m ≠ 9 → m ≠ 19 → τ1 m s = τ m s := by
      cases R
      · exact ⟨τ, _, by rw [jn_eq, if_pos (show bI false = 0 from rfl)], rfl, by simpa using p1, by simpa using p2, fun m s _ _ _ => rfl⟩
      · obtain ⟨υ, e1, f1⟩ := rowMap_ok hG hs hk ha
        have l1 : Lst 19 υ (mkC n B true C a) := p2.fr (fun i => by rw [f1 19 (by omega)])
        obtain ⟨υ2, e2, q1, q2, q3⟩ := addMaker_ok (by rw [f1 18 (by omega)]; exact p1) l1 (by omega) (nmN n (sg B a))
        refine ⟨υ2, mkC n B true C a ++ [nmN n (sg B a)], ?_, rfl, q1, q2, fun m s x y z => by rw [q3 m s x z, f1 m y]⟩
        rw [jn_eq, if_neg (show ¬ bI true = 0 by decide), e1, cal_some, e2, cal_some]
    obtain ⟨τ1, l1, er, el, r1, r2, r3⟩ := hrow
    have hG1 : GOK τ1 k n B := hG.frame (fun m x y => funext (fun s => r3 m s (by omega) (by omega) (by omega)))
    have hl1 : l1.length < 10 := by
      rw [el, List.length_append]
      cases R <;> simp <;> omega
    have hcol : ∃ τ2, (jn (fun (σ_5 : St) => f_Symmetry_groupSize_L8 k (bI R) (bI C) K f (nI a + 1) σ_5) fun j47_4 => if bI C = 0 then j47_4 τ1 else cal (f_Symmetry_columnMap τ1 k (nI a)) fun r_7 σ_8 => cal (f_Symmetry_addMaker σ_8 r_7) fun r_10 σ_11 => j47_4 σ_11) = f_Symmetry_groupSize_L8 k (bI R) (bI C) K f (nI a + 1) τ2 ∧ τ2 18 5 = nI (mkC n B R C (a + 1)).length ∧ Lst 19 τ2 (mkC n B R C (a + 1)) ∧ ∀ m s, ¬ (m = 18 ∧ s = 5) → m ≠ 9 → m ≠ 19 → τ2 m s = τ1 m s := by
      have hE : mkC n B R C (a + 1) = l1 ++ (if C = true then [nmN n (fun b => sg B b a)] else []) := by rw [el, mkC, List.append_assoc]
      rw [hE]
      cases C
      · exact ⟨τ1, by rw [jn_eq, if_pos (show bI false = 0 from rfl)], by simpa using r1, by simpa using r2, fun m s _ _ _ => rfl⟩
      · obtain ⟨υ, e1, f1⟩ := colMap_ok hG1 hs hk ha
        obtain ⟨υ2, e2, q1, q2, q3⟩ := addMaker_ok (by rw [f1 18 (by omega)]; exact r1) (r2.fr (τ' := υ) (fun i => by rw [f1 19 (by omega)])) hl1 (nmN n (fun b => sg B b a))
        refine ⟨υ2, ?_, q1, q2, fun m s x y z => by rw [q3 m s x z, f1 m y]⟩
        rw [jn_eq, if_neg (show ¬ bI true = 0 by decide), e1, cal_some, e2, cal_some]
    obtain ⟨τ2, ec, s1, s2, s3⟩ := hcol
    refine Or.inr ⟨τ2, ?_, s1, s2, fun m s x y z => by rw [s3 m s x y z, r3 m s x y z, p3 m s x y z]⟩
    show f_Symmetry_groupSize_L8 k (bI R) (bI C) K (f + 1) (nI a) τ = _
    rw [f_Symmetry_groupSize_L8.eq_2]
    rw [hG.ord, if_pos (nI_lt ha (by omega)), er, ec, nI_1]
  · rintro f τ ⟨p1, p2, p3⟩
    have ho : τ k 3 = nI n := by rw [p3 k 3 (by omega) (by omega) (by omega)]; exact h.ord
    refine ⟨τ, ?_, p1, p2, p3⟩
    show f_Symmetry_groupSize_L8 k (bI R) (bI C) K (f + 1) (nI n) τ = _
    rw [f_Symmetry_groupSize_L8.eq_2]
    rw [ho, if_neg (nI_nlt (Nat.le_refl _) (by omega))]
theorem clearM_ok : ∃ τ, f_Symmetry_clearMembers σ = some ((), τ) ∧ CM τ [] ∧ FrQ σ τ := by
  unfold f_Symmetry_clearMembers
  rw [sto_eq]
  have A : ∃ τ, f_Symmetry_clearMembers_L7 FU 0 (wr σ 18 6 0) = some ((), τ) ∧ (∀ i, i < 120 → τ 21 i = 0) ∧ Frx 21 (wr σ 18 6 0) τ := by
    refine loopE (fun m i (τ : St) => f_Symmetry_clearMembers_L7 m (nI i) τ) 120
      (fun i τ => (∀ i', i' < i → τ 21 i' = 0) ∧ Frx 21 (wr σ 18 6 0) τ)
      (fun R => ∃ τ, R = some ((), τ) ∧ (∀ i, i < 120 → τ 21 i = 0) ∧ Frx 21 (wr σ 18 6 0) τ) ?_ ?_ FU 0 _ (by omega) (FU_gt (by decide)) ⟨fun j hj => by omega, fun m hm => rfl⟩
    · intro m i τ hi ⟨p3, p4⟩
      refine Or.inr ⟨wr τ 21 i (zb 0), ?_, fun i' hi' => ?_, fun m' hm => ?_⟩
      · show f_Symmetry_clearMembers_L7 (m + 1) (nI i) τ = _
        rw [f_Symmetry_clearMembers_L7.eq_2]
        rw [if_pos (show nI i < 120 from nI_lt hi (by decide)), asz_nI (by omega) (by decide), nI_1]
      · rw [wr_get]
        by_cases hji : i' = i
        · rw [if_pos ⟨rfl, hji⟩]; rfl
        · rw [if_neg (by omega)]; exact p3 i' (by omega)
      · rw [wr_fn hm]; exact p4 m' hm
    · intro m τ ⟨p3, p4⟩
      refine ⟨τ, ?_, p3, p4⟩
      show f_Symmetry_clearMembers_L7 (m + 1) (nI 120) τ = _
      rw [f_Symmetry_clearMembers_L7.eq_2]
      rw [if_neg (show ¬ nI 120 < 120 by decide)]
  obtain ⟨τ, e, a1, a2⟩ := A
  refine ⟨τ, e, ⟨by rw [a2 18 (by omega), wr_at]; rfl, fun i x hx => (by cases hx), fun x hx => by rw [a1 x hx]; rfl⟩, fun m s a b c d => by rw [a2 m d, wr_get, if_neg a]⟩
theorem close_ok {mks : List Nat} (h : GOK σ k n B) (hk : 33 < k) (mt : MT σ) (hmk : ∀ x, x ∈ mks → x < facN n) (hlen : mks.length ≤ 10) (h5 : σ 18 5 = nI mks.length) (hl : Lst 19 σ mks) {L0 : List Nat} (hc : CM σ L0) (hg : GI (facN n) mks (cmul n) 0 L0) (K : St → Option (Int32 × St)) : ∃ τ L, f_Symmetry_groupSize_L65 k K FU 0 σ = K τ ∧ CM τ L ∧ GI (facN n) mks (cmul n) L.length L ∧ FrQ σ τ := by
  have hn := h.le
  have hf := fac_le hn.1 hn.2
  have ft : ∀ τ, FrQ σ τ → GOK τ k n B ∧ MT τ ∧ τ 18 5 = nI mks.length ∧ Lst 19 τ mks := by
    intro τ f
    refine ⟨h.frame (fun m x y => funext (fun s => f m s (by omega) (by omega) (by omega) (by omega))), fun m hm => ⟨fun i hi => ?_, ?_⟩, by rw [f 18 5 (by omega) (by omega) (by omega) (by omega)]; exact h5, hl.fr (fun i => f 19 i (by omega) (by omega) (by omega) (by omega))⟩
    · rw [f 7 _ (by omega) (by omega) (by omega) (by omega)]; exact (mt m hm).1 i hi
    · rw [f 8 _ (by omega) (by omega) (by omega) (by omega)]; exact (mt m hm).2
  have inner : ∀ (κ : St → Option (Int32 × St)) (i y : Nat) (τ : St) (L : List Nat), CM τ L → GI (facN n) mks (cmul n) i L → FrQ σ τ → L[i]? = some y → ∃ τ' L', f_Symmetry_groupSize_L84 k (nI i) κ FU 0 τ = κ τ' ∧ CM τ' L' ∧ GI (facN n) mks (cmul n) (i + 1) L' ∧ FrQ σ τ' ∧ i < L'.length := by
    intro κ i y τ L hC hG hF hy
    have hyL : y ∈ L := List.mem_of_getElem? hy
    have hil : i < L.length := by
      apply Classical.byContradiction
      intro hh
      rw [List.getElem?_eq_none (by omega)] at hy
      cases hy
    refine loopE (fun f j (x : St × List Nat) => f_Symmetry_groupSize_L84 k (nI i) κ f (nI j) x.1) mks.length
      (fun j x => CM x.1 x.2 ∧ GI (facN n) mks (cmul n) i x.2 ∧ FrQ σ x.1 ∧ x.2[i]? = some y ∧ ∀ t mk, t < j → mks[t]? = some mk → cmul n mk y ∈ x.2)
      (fun R => ∃ τ' L', R = κ τ' ∧ CM τ' L' ∧ GI (facN n) mks (cmul n) (i + 1) L' ∧ FrQ σ τ' ∧ i < L'.length) ?_ ?_ FU 0 (τ, L) (by omega) (FU_gt (by omega)) ⟨hC, hG, hF, hy, fun t mk ht => by omega⟩
    · rintro f j ⟨τ, L⟩ hj ⟨p1, p2, p3, p4, p5⟩
      have p1 : CM τ L := p1
      have p2 : GI (facN n) mks (cmul n) i L := p2
      have p3 : FrQ σ τ := p3
      have p4 : L[i]? = some y := p4
      obtain ⟨gG, gM, g5, g19⟩ := ft τ p3
      have hyL : y ∈ L := List.mem_of_getElem? p4
      have hyN := (p2.2.1 y hyL).1
      obtain ⟨mk, hmkj⟩ : ∃ mk, mks[j]? = some mk := ⟨mks[j]'hj, List.getElem?_eq_getElem hj⟩
      have hmkm : mk ∈ mks := List.mem_of_getElem? hmkj
      have hmkN := hmk mk hmkm
      have hlen1 := p2.len
      have hil : i < L.length := by
        apply Classical.byContradiction
        intro hh
        rw [List.getElem?_eq_none (by omega)] at p4
        cases p4
      obtain ⟨υ, e1, f1⟩ := one_ok gM hn.1 hn.2 hmkN hyN
      have hnew : cmul n mk y < facN n := (cp_sur hn.1 hn.2 (cmul_pm hn.1 hn.2 hmkN hyN)).1
      have hC1 : CM υ L := p1.fr (by rw [f1 18 (by omega)]) (fun i => by rw [f1 20 (by omega)]) (fun i => by rw [f1 21 (by omega)])
      obtain ⟨υ2, e2, hC2, f2⟩ := addMember_ok hC1 p2.1 (fun x hx => by have := (p2.2.1 x hx).1; omega) (show cmul n mk y < 120 by omega)
      refine Or.inr ⟨(υ2, addL L (cmul n mk y)), ?_, hC2, p2.add hnew ((p2.2.1 y hyL).2.step hmkm) (by omega), fun m s a b c d => by
        show υ2 m s = σ m s
        rw [f2 m s a b c d, f1 m b, p3 m s a b c d], addL_get p4, fun t mk' ht hmk' => ?_⟩
      · show f_Symmetry_groupSize_L84 k (nI i) κ (f + 1) (nI j) τ = _
        rw [f_Symmetry_groupSize_L84.eq_2]
        rw [g5, if_pos (nI_lt hj (by omega)), if_pos (show nI j < 10 from nI_lt (show j < 10 by omega) (by decide)), ald_nI (by omega) (by decide), ald_nI (by omega) (by decide), p1.2.1 i y p4, g19 j mk hmkj, gG.ord, e1, cal_some, e2, cal_some, nI_1]
      · show cmul n mk' y ∈ addL L (cmul n mk y)
        by_cases e : t = j
        · rw [e, hmkj] at hmk'
          have : mk = mk' := Option.some.inj hmk'
          rw [← this]
          exact addL_mem.mpr (Or.inr rfl)
        · exact addL_mem.mpr (Or.inl (p5 t mk' (by omega) hmk'))
    · rintro f ⟨τ, L⟩ ⟨p1, p2, p3, p4, p5⟩
      have p2 : GI (facN n) mks (cmul n) i L := p2
      have p4 : L[i]? = some y := p4
      obtain ⟨gG, gM, g5, g19⟩ := ft τ p3
      refine ⟨τ, L, ?_, p1, ⟨p2.1, p2.2.1, p2.2.2.1, fun t z ht hz mk hmkm => ?_⟩, p3, ?_⟩
      · show f_Symmetry_groupSize_L84 k (nI i) κ (f + 1) (nI mks.length) τ = _
        rw [f_Symmetry_groupSize_L84.eq_2]
        rw [g5, if_neg (nI_nlt (Nat.le_refl _) (by omega))]
      · by_cases e : t = i
        · rw [e, p4] at hz
          have : y = z := Option.some.inj hz
          subst this
          obtain ⟨t', ht', e'⟩ := List.getElem_of_mem hmkm
          exact p5 t' mk ht' (by rw [List.getElem?_eq_getElem ht', e'])
        · exact p2.2.2.2 t z (by omega) hz mk hmkm
      · apply Classical.byContradiction
        intro hh
        rw [List.getElem?_eq_none (by omega)] at p4
        cases p4
  have main := loopM (fun f (x : Nat × St × List Nat) => f_Symmetry_groupSize_L65 k K f (nI x.1) x.2.1) (fun x => CM x.2.1 x.2.2 ∧ GI (facN n) mks (cmul n) x.1 x.2.2 ∧ FrQ σ x.2.1 ∧ x.1 ≤ x.2.2.length) (fun x => 121 - x.1) (fun R => ∃ τ L, R = K τ ∧ CM τ L ∧ GI (facN n) mks (cmul n) L.length L ∧ FrQ σ τ) ?_ FU (0, σ, L0) (FU_gt (by show 121 - 0 < _; decide)) ⟨hc, hg, FrQ.refl σ, Nat.zero_le _⟩
  · exact main
  · rintro f ⟨i, τ, L⟩ ⟨p1, p2, p3, p4⟩
    have p1 : CM τ L := p1
    have p2 : GI (facN n) mks (cmul n) i L := p2
    have p3 : FrQ σ τ := p3
    have p4 : i ≤ L.length := p4
    have hlen1 := p2.len
    by_cases hi : i < L.length
    · right
      obtain ⟨τ', L', e, q1, q2, q3, q4⟩ := inner (fun (σ_33 : St) => f_Symmetry_groupSize_L65 k K f (nI i + 1) σ_33) i (L[i]'hi) τ L p1 p2 p3 (List.getElem?_eq_getElem hi)
      refine ⟨(i + 1, τ', L'), ?_, ⟨q1, q2, q3, ?_⟩, by show 121 - (i + 1) < 121 - i; omega⟩
      · show f_Symmetry_groupSize_L65 k K (f + 1) (nI i) τ = _
        rw [f_Symmetry_groupSize_L65.eq_2]
        rw [p1.1, if_pos (nI_lt hi (by omega)), if_pos (show nI i < 120 from nI_lt (show i < 120 by omega) (by decide)), e, nI_1]
      · exact q4
    · left
      have e : i = L.length := by omega
      subst e
      have p1 : CM τ L := p1
      have p3 : FrQ σ τ := p3
      refine ⟨τ, L, ?_, p1, p2, p3⟩
      show f_Symmetry_groupSize_L65 k K (f + 1) (nI L.length) τ = _
      rw [f_Symmetry_groupSize_L65.eq_2]
      rw [p1.1, if_neg (nI_nlt (Nat.le_refl _) (by omega))]
end GS
theorem id_tab : ((List.range 6).all fun n => decide (n < 2) || (decide (nmN n (cp 0) = 0) && decide (rkN n (cp 0) n = 0))) = true := by decide +kernel
theorem group_cls {σ : St} {k n : Nat} {B : Bd} (mt : MT σ) (h : GOK σ k n B) (hs : SQ n B) (hk : 33 < k) (R C : Bool) : ∃ τ L, f_Symmetry_groupSize σ k (bI R) (bI C) = some (nI L.length, τ) ∧ GI (facN n) (mkC n B R C n) (cmul n) L.length L ∧ ∀ m s, m ≠ 9 → m ≠ 18 → m ≠ 19 → m ≠ 20 → m ≠ 21 → τ m s = σ m s := by
  have hn := h.le
  have hf := fac_le hn.1 hn.2
  unfold f_Symmetry_groupSize
  rw [sto_eq]
  have h0 : GOK (wr σ 18 5 0) k n B := h.frame (fun m a b => wr_fn (by omega))
  obtain ⟨τ1, e1, q1, q2, f1⟩ := makers8 h0 hs hk R C wr_at (fun (σ_18 : St) => cal (f_Symmetry_clearMembers σ_18) fun r_20 σ_21 => cal (f_Symmetry_addMember σ_21 0) fun r_23 σ_24 => f_Symmetry_groupSize_L65 k (fun (σ_34 : St) => some ((σ_34 18 6), σ_34)) FU 0 σ_24)
  obtain ⟨τ2, e2, c2, f2⟩ := clearM_ok (σ := τ1)
  obtain ⟨τ3, e3, c3, f3⟩ := addMember_ok c2 List.nodup_nil (fun x hx => by cases hx) (show 0 < 120 by omega)
  have F3 : ∀ m s, m ≠ 9 → m ≠ 18 → m ≠ 19 → m ≠ 20 → m ≠ 21 → τ3 m s = σ m s := fun m s a b c d e => by rw [f3 m s (by omega) a d e, f2 m s (by omega) a d e, f1 m s (by omega) a c, wr_fn b]
  have hG3 : GOK τ3 k n B := h.frame (fun m a b => funext (fun s => F3 m s (by omega) (by omega) (by omega) (by omega) (by omega)))
  have mt3 : MT τ3 := fun m hm => ⟨fun i hi => by rw [F3 7 _ (by omega) (by omega) (by omega) (by omega) (by omega)]; exact (mt m hm).1 i hi, by rw [F3 8 _ (by omega) (by omega) (by omega) (by omega) (by omega)]; exact (mt m hm).2⟩
  have hmk : ∀ x, x ∈ mkC n B R C n → x < facN n := by
    intro x hx
    rcases (mkC_mem R C n).mp hx with ⟨_, b, hb, rfl⟩ | ⟨_, b, hb, rfl⟩
    · exact (cp_sur hn.1 hn.2 (row_pm hs hb)).1
    · exact (cp_sur hn.1 hn.2 (col_pm hs hb)).1
  have hg0 : GI (facN n) (mkC n B R C n) (cmul n) 0 (addL [] 0) := by
    refine ⟨addL_nodup List.nodup_nil, fun x hx => ?_, addL_mem.mpr (Or.inr rfl), fun k y hk => by omega⟩
    rcases addL_mem.mp hx with h1 | rfl
    · cases h1
    · exact ⟨by omega, Rch.zero⟩
  have hlen := mkC_len (n := n) (B := B) R C n
  obtain ⟨τ, L, e4, c4, g4, f4⟩ := close_ok hG3 hk mt3 hmk (by omega) (by rw [f3 18 5 (by omega) (by omega) (by omega) (by omega), f2 18 5 (by omega) (by omega) (by omega) (by omega)]; exact q1) (q2.fr (fun i => by rw [f3 19 i (by omega) (by omega) (by omega) (by omega), f2 19 i (by omega) (by omega) (by omega) (by omega)])) c3 hg0 (fun (σ_34 : St) => some ((σ_34 18 6), σ_34))
  refine ⟨τ, L, ?_, g4, fun m s a b c d e => by rw [f4 m s (by omega) a d e, F3 m s a b c d e]⟩
  refine e1.trans ?_
  show cal (f_Symmetry_clearMembers τ1) _ = _
  rw [e2, cal_some, show (0 : Int32) = nI 0 from rfl, e3, cal_some]
  refine e4.trans ?_
  show some (τ 18 6, τ) = _
  rw [c4.1]
