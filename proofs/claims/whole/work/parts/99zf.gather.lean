/-! critical: all the squares are gathered -/
def PTb : Nat → List Nat
  | 2 => [65, 34]
  | 3 => [4161, 4130, 2177, 1154, 2084, 1092]
  | 4 => [266305, 266274, 264321, 263298, 264228, 263236, 139329, 139298, 73857, 41090, 73764, 41028, 133377, 132354, 69889, 37122, 66820, 35076, 133160, 132168, 69672, 36936, 66696, 34952]
  | _ => []
def pN (n m : Nat) : Nat := (PTb n).getD m 0
theorem tabP : ((List.range 5).all fun n => decide (n < 2) || ((List.range (facN n)).all fun m => decide (pN n m = cpm m % 2 ^ (5 * n)))) = true := by decide +kernel
def cG (n : Nat) : Nat → Nat → Nat
  | 0, _ => 1
  | e + 1, tk => sumN (facN n) (fun m => if pN n m &&& tk = 0 then cG n e (tk ||| pN n m) else 0)
theorem cG_le {n : Nat} (h1 : 2 ≤ n) (h4 : n ≤ 4) : cG n n 0 ≤ 576 := by
  rcases (by omega : n = 2 ∨ n = 3 ∨ n = 4) with rfl | rfl | rfl <;> decide +kernel
def mkN (n : Nat) (ch : Nat → Nat) : Nat → Nat
  | 0 => 0
  | r + 1 => mkN n ch r ||| pN n (ch r)
theorem mkN_congr {n : Nat} {ch ch' : Nat → Nat} : ∀ r, (∀ i, i < r → ch i = ch' i) → mkN n ch r = mkN n ch' r := by
  intro r
  induction r with
  | zero => intro _; rfl
  | succ r ih =>
    intro h
    rw [mkN, mkN, ih (fun i hi => h i (by omega)), h r (by omega)]
def GOODc (n : Nat) (ch : Nat → Nat) (R : Nat) : Prop := (∀ i, i < R → ch i < facN n) ∧ ∀ i j, i < j → j < R → ∀ c, c < n → cp (ch i) c ≠ cp (ch j) c
def TRb (n : Nat) (S : Bd) (ch : Nat → Nat) (R : Nat) (t : Int32) : Prop := ∀ k, k < 32 → bt t k = dB (∃ r c, r < R ∧ c < n ∧ k = n * r + c ∧ sg S r c ≠ cp (ch r) c)
def MemG (n : Nat) (S : Bd) (ch : Nat → Nat) (row : Nat) (t : Int32) : Prop := ∃ ch' : Nat → Nat, (∀ i, i < row → ch' i = ch i) ∧ GOODc n ch' n ∧ TRb n S ch' n t
section GA
variable {σ : St} {k n : Nat} {S : Bd}
theorem pN_eq (h1 : 2 ≤ n) (h4 : n ≤ 4) {m : Nat} (hm : m < facN n) : pN n m = cpm m % 2 ^ (5 * n) := by
  have h := List.all_eq_true.mp tabP n (List.mem_range.mpr (by omega))
  rw [decide_eq_false (by omega : ¬ n < 2), Bool.false_or] at h
  exact of_decide_eq_true (List.all_eq_true.mp h m (List.mem_range.mpr hm))
theorem pN_bt (h1 : 2 ≤ n) (h4 : n ≤ 4) {m : Nat} (hm : m < facN n) (k : Nat) : (pN n m).testBit k = pB n m k := by
  have hf := fac_le h1 (show n ≤ 5 by omega)
  rw [pN_eq h1 h4 hm, Nat.testBit_mod_two_pow]
  unfold pB
  by_cases hk : k < 5 * n
  · rw [cpm_bit (by omega) (by omega)]
  · rw [decide_eq_false hk, Bool.false_and, Bool.false_and]
theorem pN_lt (h1 : 2 ≤ n) (h4 : n ≤ 4) {m : Nat} (hm : m < facN n) : pN n m < 2 ^ 20 := by
  rw [pN_eq h1 h4 hm]
  exact Nat.lt_of_lt_of_le (Nat.mod_lt _ (Nat.pos_of_ne_zero (by have := Nat.pow_pos (n := 5 * n) (show 0 < 2 by omega); omega))) (Nat.pow_le_pow_right (by omega) (by omega))
theorem pairsN (mt : MT σ) (h1 : 2 ≤ n) (h4 : n ≤ 4) {m : Nat} (hm : m < facN n) : f_Maps_pairsOf σ (nI m) (nI n) = some (nI (pN n m)) := by
  have hf := fac_le h1 (show n ≤ 5 by omega)
  obtain ⟨x, e, hx⟩ := pairs_ok mt h1 (show n ≤ 5 by omega) (show m < 120 by omega)
  rw [e]
  congr 1
  exact bt_ext (fun k hk => by rw [hx k hk, bt_nI hk, pN_bt h1 h4 hm])
theorem nI_and (a b : Nat) : nI a &&& nI b = nI (a &&& b) := bt_ext (fun k hk => by rw [bt_and, bt_nI hk, bt_nI hk, bt_nI hk, Nat.testBit_and])
theorem nI_or (a b : Nat) : nI a ||| nI b = nI (a ||| b) := bt_ext (fun k hk => by rw [bt_or, bt_nI hk, bt_nI hk, bt_nI hk, Nat.testBit_or])
theorem mkN_bt (h1 : 2 ≤ n) (h4 : n ≤ 4) {ch : Nat → Nat} {c s : Nat} (hc : c < n) (hs : s < 5) : ∀ r, (∀ i, i < r → ch i < facN n) → ((mkN n ch r).testBit (5 * c + s) = true ↔ ∃ i, i < r ∧ cp (ch i) c = s) := by
  intro r
  induction r with
  | zero =>
    intro _
    constructor
    · intro h
      have h : (0 : Nat).testBit (5 * c + s) = true := h
      rw [Nat.zero_testBit] at h; cases h
    · rintro ⟨i, hi, _⟩; omega
  | succ r ih =>
    intro h
    rw [mkN, Nat.testBit_or, pN_bt h1 h4 (h r (by omega)), pB_at hc hs, Bool.or_eq_true, ih (fun i hi => h i (by omega)), decide_eq_true_iff]
    constructor
    · rintro (⟨i, hi, e⟩ | e)
      · exact ⟨i, by omega, e⟩
      · exact ⟨r, by omega, e⟩
    · rintro ⟨i, hi, e⟩
      by_cases hir : i = r
      · rw [hir] at e; exact Or.inr e
      · exact Or.inl ⟨i, by omega, e⟩
theorem fitG (h1 : 2 ≤ n) (h4 : n ≤ 4) {ch : Nat → Nat} {r m : Nat} (hch : ∀ i, i < r → ch i < facN n) (hm : m < facN n) : (pN n m &&& mkN n ch r = 0) ↔ ∀ i, i < r → ∀ c, c < n → cp (ch i) c ≠ cp m c := by
  have hp := (cp_pm h1 (show n ≤ 5 by omega) hm).1
  constructor
  · intro h i hi c hc e
    have hpc := hp.1 c hc
    have h2 : (pN n m &&& mkN n ch r).testBit (5 * c + cp m c) = true := by
      rw [Nat.testBit_and, pN_bt h1 h4 hm, pB_at hc (by omega), decide_eq_true rfl, Bool.true_and]
      exact (mkN_bt h1 h4 hc (by omega) r hch).mpr ⟨i, hi, e⟩
    rw [h, Nat.zero_testBit] at h2
    cases h2
  · intro h
    apply Nat.eq_of_testBit_eq
    intro k
    rw [Nat.testBit_and, Nat.zero_testBit, pN_bt h1 h4 hm]
    unfold pB
    by_cases hk : k < 5 * n
    · by_cases hc : cp m (k / 5) = k % 5
      · have hb : (mkN n ch r).testBit k = false := by
          apply Bool.eq_false_iff.mpr
          intro ht
          rw [show k = 5 * (k / 5) + k % 5 by omega] at ht
          obtain ⟨i, hi, e⟩ := (mkN_bt h1 h4 (show k / 5 < n by omega) (show k % 5 < 5 by omega) r hch).mp ht
          exact h i hi (k / 5) (by omega) (by rw [e, hc])
        rw [hb, Bool.and_false]
      · rw [decide_eq_false hc, Bool.and_false, Bool.false_and]
    · rw [decide_eq_false hk, Bool.false_and, Bool.false_and]
theorem unlike_ok (mt : MT σ) (h : GOK σ k n S) (hs : SQ n S) {r m : Nat} (hr : r < n) (hm : m < facN n) : ∃ x, f_Telling_unlike σ k (nI r) (nI m) = some x ∧ ∀ i, i < 32 → bt x i = dB (∃ c, c < n ∧ i = n * r + c ∧ sg S r c ≠ cp m c) := by
  have hn := h.le
  have ho := h.ord
  have hf := fac_le hn.1 hn.2
  have hp := (cp_pm hn.1 hn.2 hm).1
  unfold f_Telling_unlike
  refine loopE (fun f c (x : Int32) => f_Telling_unlike_L6 k (nI r) (nI m) σ (fun v => some v) f x (nI c)) n (fun c x => ∀ i, i < 32 → bt x i = dB (∃ c', c' < c ∧ i = n * r + c' ∧ sg S r c' ≠ cp m c')) (fun R => ∃ x, R = some x ∧ ∀ i, i < 32 → bt x i = dB (∃ c, c < n ∧ i = n * r + c ∧ sg S r c ≠ cp m c)) ?_ ?_ FU 0 0 (by omega) (FU_gt (by omega)) (fun i hi => by rw [bt_0, dB_f (fun ⟨c, hc, _⟩ => by omega)])
  · rintro f c x hc hx
    have hb := ix25 hn.2 hr hc
    have h3 := hs.lt hr hc
    have h4 := hp.1 c hc
    have e0 : f_Telling_unlike_L6 k (nI r) (nI m) σ (fun v => some v) (f + 1) x (nI c) = f_Telling_unlike_L6 k (nI r) (nI m) σ (fun v => some v) f (if sg S r c = cp m c then x else x ||| (1 <<< (nI (n * r + c) &&& 31))) (nI (c + 1)) := by
      rw [f_Telling_unlike_L6.eq_2]
      rw [ho, if_pos (nI_lt hc (by omega)), sq_sign h hs hr hc, image_ok mt (show m < 120 by omega) (show c < 5 by omega)]
      simp only [jn_eq, lt1_eq, cap_some, nI_1]
      rw [nI_mul, nI_add]
      by_cases e : sg S r c = cp m c
      · rw [if_pos (by rw [e]), if_pos e]
      · rw [if_neg (by rw [eq_nI (by omega) (by omega)]; exact e), if_neg e]
    refine Or.inr ⟨_, e0, fun i hi => ?_⟩
    by_cases e : sg S r c = cp m c
    · rw [if_pos e, hx i hi]
      apply dB_cong
      constructor
      · rintro ⟨c', a, b⟩; exact ⟨c', by omega, b⟩
      · rintro ⟨c', a, b, d⟩
        have : c' ≠ c := fun e2 => d (by rw [e2]; exact e)
        exact ⟨c', by omega, b, d⟩
    · rw [if_neg e, bt_or, hx i hi, bt_one (by omega)]
      by_cases hi2 : i = n * r + c
      · rw [decide_eq_true hi2, Bool.or_true, dB_t ⟨c, by omega, hi2, e⟩]
      · rw [decide_eq_false hi2, Bool.or_false]
        apply dB_cong
        constructor
        · rintro ⟨c', a, b⟩; exact ⟨c', by omega, b⟩
        · rintro ⟨c', a, b, d⟩
          have : c' ≠ c := fun e2 => hi2 (by rw [b, e2])
          exact ⟨c', by omega, b, d⟩
  · rintro f x hx
    refine ⟨x, ?_, hx⟩
    show f_Telling_unlike_L6 k (nI r) (nI m) σ _ (f + 1) x (nI n) = _
    rw [f_Telling_unlike_L6.eq_2]
    rw [ho, if_neg (nI_nlt (Nat.le_refl _) (by omega))]
theorem sumN_mono {f : Nat → Nat} {a b : Nat} (h : a ≤ b) : sumN a f ≤ sumN b f := by
  induction b with
  | zero => rw [show a = 0 by omega]; exact Nat.le_refl _
  | succ b ih =>
    by_cases e : a = b + 1
    · rw [e]; exact Nat.le_refl _
    · rw [sumN]
      have := ih (by omega)
      omega
theorem gather_ok (h1 : 2 ≤ n) (h4 : n ≤ 4) (hk : 33 < k) (hs : SQ n S) : ∀ (d e row : Nat) (σ : St) (ch : Nat → Nat) (v4 : Int32) (K T : List Int32), row + e = n → e < d → MT σ → GOK σ k n S → LsT σ K → KVt K T → GOODc n ch row → TRb n S ch row v4 → T.length + cG n e (mkN n ch row) ≤ 576 →
    ∃ τ G K', f_Telling_gather d σ k (nI row) (nI (mkN n ch row)) v4 = some ((), τ) ∧ LsT τ K' ∧ KVt K' (T ++ G) ∧ G.length = cG n e (mkN n ch row) ∧ (∀ t, t ∈ G ↔ MemG n S ch row t) ∧ FrT σ τ := by
  have h5 : n ≤ 5 := by omega
  have hf := fac_le h1 h5
  intro d
  induction d with
  | zero => intro e row σ ch v4 K T _ h; omega
  | succ d ih =>
    intro e row σ ch v4 K T hre hed mt hG l kv hgood htr hlen
    show ∃ τ G K', fb_Telling_gather (f_Telling_gather d) σ k (nI row) (nI (mkN n ch row)) v4 = _ ∧ _
    unfold fb_Telling_gather
    rw [hG.ord]
    match e, hre, hed, hlen with
    | 0, hre, hed, hlen =>
      have hrn : row = n := by omega
      subst hrn
      have hlen : T.length + 1 ≤ 576 := hlen
      rw [if_neg (nI_nlt (Nat.le_refl _) (by omega))]
      obtain ⟨τ, K', e1, l', kv', f⟩ := keepT_ok (t := v4) l kv (by omega)
      refine ⟨τ, [v4], K', by rw [e1, cal_some], l', kv', rfl, fun t => ?_, f⟩
      constructor
      · intro ht
        rw [List.mem_singleton.mp ht]
        exact ⟨ch, fun _ _ => rfl, hgood, htr⟩
      · rintro ⟨ch', a, b, c⟩
        apply List.mem_singleton.mpr
        apply bt_ext
        intro i hi
        rw [c i hi, htr i hi]
        apply dB_cong
        constructor
        · rintro ⟨r, x, p, q⟩; exact ⟨r, x, p, by rw [← a r p]; exact q⟩
        · rintro ⟨r, x, p, q⟩; exact ⟨r, x, p, by rw [a r p]; exact q⟩
    | e + 1, hre, hed, hlen =>
      have hrow : row < n := by omega
      have hw : cG n (e + 1) (mkN n ch row) = sumN (facN n) (fun m => if pN n m &&& mkN n ch row = 0 then cG n e (mkN n ch row ||| pN n m) else 0) := rfl
      rw [hw] at hlen ⊢
      generalize hwf : (fun m => if pN n m &&& mkN n ch row = 0 then cG n e (mkN n ch row ||| pN n m) else 0) = w at hlen ⊢
      have hwm : ∀ m, w m = if pN n m &&& mkN n ch row = 0 then cG n e (mkN n ch row ||| pN n m) else 0 := fun m => by rw [← hwf]
      rw [if_pos (nI_lt hrow (by omega))]
      refine loopE (fun f m (τ : St) => f_Telling_gather_L18 (f_Telling_gather d) k (nI row) (nI (mkN n ch row)) v4 f (nI m) τ) (facN n)
        (fun m τ => ∃ G K', LsT τ K' ∧ KVt K' (T ++ G) ∧ G.length = sumN m w ∧ (∀ t, t ∈ G ↔ ∃ ch' : Nat → Nat, (∀ i, i < row → ch' i = ch i) ∧ ch' row < m ∧ GOODc n ch' n ∧ TRb n S ch' n t) ∧ FrT σ τ)
        (fun R => ∃ τ G K', R = some ((), τ) ∧ LsT τ K' ∧ KVt K' (T ++ G) ∧ G.length = sumN (facN n) w ∧ (∀ t, t ∈ G ↔ MemG n S ch row t) ∧ FrT σ τ) ?_ ?_ FU 0 σ (by omega) (FU_gt (by omega))
        ⟨[], K, l, by rw [List.append_nil]; exact kv, rfl, fun t => ⟨fun h => (by cases h), fun ⟨_, _, h, _⟩ => by omega⟩, fun _ _ _ _ => rfl⟩
      · rintro f m τ hm ⟨G, K', l', kv', hlG, hmem, fr⟩
        have mtτ : MT τ := fun m hm => ⟨fun i hi => by rw [fr 7 _ (by omega) (by omega)]; exact (mt m hm).1 i hi, by rw [fr 8 _ (by omega) (by omega)]; exact (mt m hm).2⟩
        have hGτ : GOK τ k n S := hG.frame (fun m a b => funext (fun s => fr m s (by omega) (by omega)))
        obtain ⟨x, ex, hx⟩ := unlike_ok mtτ hGτ hs hrow hm
        have hpl := pN_lt h1 h4 hm
        have hal : pN n m &&& mkN n ch row ≤ pN n m := Nat.and_le_left
        have key : f_Telling_gather_L18 (f_Telling_gather d) k (nI row) (nI (mkN n ch row)) v4 (f + 1) (nI m) τ = if pN n m &&& mkN n ch row = 0 then cal (f_Telling_gather d τ k (nI (row + 1)) (nI (mkN n ch row ||| pN n m)) (v4 ||| x)) fun _ σ_11 => f_Telling_gather_L18 (f_Telling_gather d) k (nI row) (nI (mkN n ch row)) v4 f (nI (m + 1)) σ_11 else f_Telling_gather_L18 (f_Telling_gather d) k (nI row) (nI (mkN n ch row)) v4 f (nI (m + 1)) τ := by
          rw [f_Telling_gather_L18.eq_2]
          rw [hGτ.ord, amount_ok h1 h5, cap_some, if_pos (nI_lt hm (by omega)), pairsN mtτ h1 h4 hm, cap_some, jn_eq, nI_and, ex, cap_some, nI_or, nI_1, nI_1]
          by_cases h0 : pN n m &&& mkN n ch row = 0
          · rw [if_pos h0, if_pos (by rw [h0]; rfl)]
          · rw [if_neg h0, if_neg (by rw [show (0 : Int32) = nI 0 from rfl, eq_nI (by omega) (by omega)]; exact h0)]
        have hsum : sumN (m + 1) w ≤ sumN (facN n) w := sumN_mono hm
        have hsm : sumN (m + 1) w = sumN m w + w m := rfl
        right
        by_cases h0 : pN n m &&& mkN n ch row = 0
        · rw [hwm m, if_pos h0] at hsm
          have hfit := (fitG h1 h4 hgood.1 hm).mp h0
          generalize hch : (fun i => if i = row then m else ch i) = ch1
          have c1 : ∀ i, i < row → ch1 i = ch i := fun i hi => by rw [← hch]; show (if i = row then m else ch i) = _; rw [if_neg (by omega)]
          have c2 : ch1 row = m := by rw [← hch]; show (if row = row then m else ch row) = _; rw [if_pos rfl]
          have hmk : mkN n ch1 (row + 1) = mkN n ch row ||| pN n m := by rw [mkN, mkN_congr row c1, c2]
          have good1 : GOODc n ch1 (row + 1) := by
            refine ⟨fun i hi => ?_, fun i j hij hj c hc => ?_⟩
            · by_cases e1 : i = row
              · rw [e1, c2]; exact hm
              · rw [c1 i (by omega)]; exact hgood.1 i (by omega)
            · by_cases e1 : j = row
              · rw [e1, c2, c1 i (by omega)]; exact hfit i (by omega) c hc
              · rw [c1 i (by omega), c1 j (by omega)]; exact hgood.2 i j hij (by omega) c hc
          have tr1 : TRb n S ch1 (row + 1) (v4 ||| x) := by
            intro i hi
            rw [bt_or, htr i hi, hx i hi, ← dB_or]
            apply dB_cong
            constructor
            · rintro (⟨r, c, a, b⟩ | ⟨c, a, b⟩)
              · exact ⟨r, c, by omega, by rw [c1 r a]; exact b⟩
              · exact ⟨row, c, by omega, a, by rw [c2]; exact b⟩
            · rintro ⟨r, c, a, b⟩
              by_cases e1 : r = row
              · rw [e1, c2] at b; exact Or.inr ⟨c, b⟩
              · rw [c1 r (by omega)] at b; exact Or.inl ⟨r, c, by omega, b⟩
          have hl1 : (T ++ G).length + cG n e (mkN n ch1 (row + 1)) ≤ 576 := by
            rw [List.length_append, hmk]
            omega
          obtain ⟨υ, G1, K1, e1, l1, kv1, hlG1, hmem1, fr1⟩ := ih e (row + 1) τ ch1 (v4 ||| x) K' (T ++ G) (by omega) (by omega) mtτ hGτ l' kv' good1 tr1 hl1
          rw [hmk] at e1 hlG1
          refine ⟨υ, ?_, G ++ G1, K1, l1, by rw [← List.append_assoc]; exact kv1, by rw [List.length_append]; omega, fun t => ?_, fr.trans fr1⟩
          · show f_Telling_gather_L18 (f_Telling_gather d) k (nI row) (nI (mkN n ch row)) v4 (f + 1) (nI m) τ = _
            rw [key, if_pos h0, e1, cal_some]
          · rw [List.mem_append, hmem t, hmem1 t]
            constructor
            · rintro (⟨ch', a, b, c⟩ | ⟨ch', a, b⟩)
              · exact ⟨ch', a, by omega, c⟩
              · exact ⟨ch', fun i hi => by rw [a i (by omega), c1 i hi], by rw [a row (by omega), c2]; omega, b⟩
            · rintro ⟨ch', a, b, c⟩
              by_cases e2 : ch' row = m
              · refine Or.inr ⟨ch', fun i hi => ?_, c⟩
                by_cases e3 : i = row
                · rw [e3, e2, c2]
                · rw [a i (by omega), c1 i (by omega)]
              · exact Or.inl ⟨ch', a, by omega, c⟩
        · rw [hwm m, if_neg h0, Nat.add_zero] at hsm
          refine ⟨τ, ?_, G, K', l', kv', by rw [hsm]; exact hlG, fun t => ?_, fr⟩
          · show f_Telling_gather_L18 (f_Telling_gather d) k (nI row) (nI (mkN n ch row)) v4 (f + 1) (nI m) τ = _
            rw [key, if_neg h0]
          · rw [hmem t]
            constructor
            · rintro ⟨ch', a, b, c⟩
              exact ⟨ch', a, by omega, c⟩
            · rintro ⟨ch', a, b, c, d'⟩
              refine ⟨ch', a, ?_, c, d'⟩
              have : ch' row ≠ m := by
                intro e2
                apply h0
                refine (fitG h1 h4 hgood.1 hm).mpr (fun i hi c' hc' => ?_)
                have := c.2 i row hi hrow c' hc'
                rw [e2, a i hi] at this
                exact this
              omega
      · rintro f τ ⟨G, K', l', kv', hlG, hmem, fr⟩
        have hGτ : GOK τ k n S := hG.frame (fun m a b => funext (fun s => fr m s (by omega) (by omega)))
        refine ⟨τ, G, K', ?_, l', kv', hlG, fun t => ?_, fr⟩
        · show f_Telling_gather_L18 (f_Telling_gather d) k (nI row) (nI (mkN n ch row)) v4 (f + 1) (nI (facN n)) τ = _
          rw [f_Telling_gather_L18.eq_2]
          rw [hGτ.ord, amount_ok h1 h5, cap_some, if_neg (nI_nlt (Nat.le_refl _) (by omega))]
        · rw [hmem t]
          constructor
          · rintro ⟨ch', a, _, c⟩; exact ⟨ch', a, c⟩
          · rintro ⟨ch', a, c⟩; exact ⟨ch', a, c.1.1 row hrow, c⟩
end GA
