/-! isotope: a map as a code -/
theorem inj_sur {n : Nat} {f : Nat → Nat} (hf : PM n f) {s : Nat} (hs : s < n) : ∃ r, r < n ∧ f r = s := by
  apply Classical.byContradiction
  intro hno
  have hnd : (s :: (List.range n).map f).Nodup := by
    refine List.nodup_cons.mpr ⟨fun hm => ?_, ?_⟩
    · obtain ⟨r, hr, e⟩ := List.mem_map.mp hm
      exact hno ⟨r, List.mem_range.mp hr, e⟩
    · rw [List.Nodup, List.pairwise_map]
      refine List.Pairwise.imp_of_mem ?_ (List.nodup_range (n := n))
      intro a b ha hb hab e
      exact hab (hf.2 a b (List.mem_range.mp ha) (List.mem_range.mp hb) e)
  have := len_sub _ (List.range n) hnd (fun x hx => by
    rcases List.mem_cons.mp hx with e | hm
    · rw [e]; exact List.mem_range.mpr hs
    · obtain ⟨r, hr, e⟩ := List.mem_map.mp hm
      rw [← e]; exact List.mem_range.mpr (hf.1 r (List.mem_range.mp hr)))
  simp at this
  omega
theorem sur_pm {n : Nat} {d : Nat → Nat} (hh : ∀ s, s < n → ∃ r, r < n ∧ d r = s) : PM n d := by
  have hex : ∀ s : Nat, ∃ r, s < n → r < n ∧ d r = s := fun s => by
    by_cases hs : s < n
    · obtain ⟨r, hr⟩ := hh s hs; exact ⟨r, fun _ => hr⟩
    · exact ⟨0, fun h => absurd h hs⟩
  obtain ⟨g, hg⟩ := Classical.axiomOfChoice hex
  have hpm : PM n g := ⟨fun s hs => (hg s hs).1, fun a b ha hb e => by
    have := (hg a ha).2
    rw [e, (hg b hb).2] at this
    exact this.symm⟩
  have hd : ∀ r, r < n → d r < n ∧ g (d r) = r := by
    intro r hr
    obtain ⟨s, hs, e⟩ := inj_sur hpm hr
    have := (hg s hs).2
    rw [e] at this
    rw [this]
    exact ⟨hs, e⟩
  exact ⟨fun r hr => (hd r hr).1, fun i j hi hj e => by rw [← (hd i hi).2, e, (hd j hj).2]⟩
theorem pm_sur {n : Nat} {d : Nat → Nat} : (∀ s, s < n → ∃ r, r < n ∧ d r = s) ↔ PM n d := ⟨sur_pm, fun h s hs => inj_sur h hs⟩
def dig (c i : Nat) : Nat := c / 10 ^ i % 10
def VC (n c : Nat) : Prop := c / 10 ^ n = 0 ∧ PM n (dig c)
theorem dig_s {c i : Nat} : c / 10 ^ i / 10 = c / 10 ^ (i + 1) := by rw [Nat.div_div_eq_div_mul, Nat.pow_succ]
section CD
variable {σ : St}
theorem draft60_any {n : Nat} (hn : n ≤ 5) {m : Nat} (hm : m < 6) (v3 v4 : Int32) (i : Nat) (hi : i ≤ n) (x : Int32) (K : Int32 → Option Int32) : ∃ y, f_Maps_numberOfDraft_L60 (nI n) v3 v4 (nI m) σ K FU x (nI i) = K y := by
  refine loopE (fun f t (x : Int32) => f_Maps_numberOfDraft_L60 (nI n) v3 v4 (nI m) σ K f x (nI (i + t))) (n - i) (fun _ _ => True) (fun R => ∃ y, R = K y) ?_ ?_ FU 0 x (by omega) (FU_gt (by omega)) trivial
  · intro f t x ht _
    show (∃ _, _) ∨ ∃ a' : Int32, f_Maps_numberOfDraft_L60 (nI n) v3 v4 (nI m) σ K (f + 1) x (nI (i + t)) = _ ∧ _
    rw [f_Maps_numberOfDraft_L60.eq_2]
    rw [if_pos (nI_lt (by omega) (by omega)), if_pos (show nI (i + t) < 5 from nI_lt (show i + t < 5 by omega) (by decide)), ald_nI (by omega) (by decide)]
    simp only [jn_eq, nI_1]
    rw [fac_nI (by omega)]
    by_cases h : σ 9 (i + t) < nI m
    · rw [if_pos h]; exact Or.inr ⟨_, rfl, trivial⟩
    · rw [if_neg h]; exact Or.inr ⟨_, rfl, trivial⟩
  · intro f x _
    refine ⟨x, ?_⟩
    show f_Maps_numberOfDraft_L60 (nI n) v3 v4 (nI m) σ K (f + 1) x (nI (i + (n - i))) = _
    rw [f_Maps_numberOfDraft_L60.eq_2]
    rw [if_neg (nI_nlt (by omega) (by omega))]
theorem draft_bad {n : Nat} (h1 : 2 ≤ n) (h2 : n ≤ 5) (hb : ∃ i, i < n ∧ (σ 9 i < 0 ∨ nI n ≤ σ 9 i)) : f_Maps_numberOfDraft σ (nI n) = some (-1) := by
  unfold f_Maps_numberOfDraft
  refine loopE (fun f i (x : Int32 × Int32) => f_Maps_numberOfDraft_L7 (nI n) σ (fun (v2_9 : Int32) (v3_10 : Int32) => if v3_10 = ((1 <<< (nI n &&& 31)) - 1) then some v2_9 else some (-1)) f x.1 x.2 (nI i)) n (fun i _ => ∀ k, k < i → ¬ (σ 9 k < 0 ∨ nI n ≤ σ 9 k)) (fun R => R = some (-1)) ?_ ?_ FU 0 (0, 0) (by omega) (FU_gt (by omega)) (fun k hk => by omega)
  · rintro f i ⟨x, y⟩ hi hp
    show f_Maps_numberOfDraft_L7 (nI n) σ _ (f + 1) x y (nI i) = _ ∨ ∃ a' : Int32 × Int32, f_Maps_numberOfDraft_L7 (nI n) σ _ (f + 1) x y (nI i) = _ ∧ _
    rw [f_Maps_numberOfDraft_L7.eq_2]
    rw [if_pos (nI_lt hi (by omega)), if_pos (show nI i < 5 from nI_lt (show i < 5 by omega) (by decide)), ald_nI (by omega) (by decide)]
    rcases i32_cases (σ 9 i) n (by omega) with ⟨d, hd, e⟩ | h | h
    · right
      rw [e, if_neg (nI_pos (by omega)), if_pos (nI_lt hd (by omega)), if_pos (show nI d < 5 from nI_lt (show d < 5 by omega) (by decide)), lt1_eq, nI_1]
      obtain ⟨z, ez⟩ := draft60_any (σ := σ) h2 (show d < 6 by omega) (y ||| (1 <<< (nI d &&& 31))) (nI i) (i + 1) (by omega) x (fun (v2_8 : Int32) => f_Maps_numberOfDraft_L7 (nI n) σ (fun (v2_9 : Int32) (v3_10 : Int32) => if v3_10 = ((1 <<< (nI n &&& 31)) - 1) then some v2_9 else some (-1)) f v2_8 (y ||| (1 <<< (nI d &&& 31))) (nI (i + 1)))
      refine ⟨(z, y ||| (1 <<< (nI d &&& 31))), ez, fun k hk => ?_⟩
      by_cases ek : k = i
      · rw [ek, e]
        rintro (h | h)
        · exact nI_pos (show d < 2 ^ 31 by omega) h
        · exact nI_ge (a := d) (b := n) hd (by omega) h
      · exact hp k (by omega)
    · left
      rw [if_pos h]
    · left
      have h3 : ¬ σ 9 i < nI n := Int32.not_lt.mpr h
      by_cases h0 : σ 9 i < 0
      · rw [if_pos h0]
      · rw [if_neg h0, if_neg h3]
  · rintro f ⟨x, y⟩ hp
    obtain ⟨i, hi, h⟩ := hb
    exact absurd h (hp i hi)
theorem code_pos {n c : Nat} (h1 : 2 ≤ n) (h2 : n ≤ 5) (hc : c < 2 ^ 31) : ∃ τ, f_Maps_numberOfCode σ (nI c) (nI n) = some ((if dB (VC n c) = true then nI (nmN n (dig c)) else -1), τ) ∧ Frx 9 σ τ := by
  unfold f_Maps_numberOfCode
  have A : ∀ K : Int32 → St → Option (Int32 × St), ∃ τ, f_Maps_numberOfCode_L5 (nI n) K FU (nI c) 0 σ = K (nI (c / 10 ^ n)) τ ∧ (∀ i, i < n → τ 9 i = nI (dig c i)) ∧ Frx 9 σ τ := by
    intro K
    have hz : c / 10 ^ 0 = c := by rw [Nat.pow_zero, Nat.div_one]
    refine loopE (fun f i (τ : St) => f_Maps_numberOfCode_L5 (nI n) K f (nI (c / 10 ^ i)) (nI i) τ) n (fun i τ => (∀ k, k < i → τ 9 k = nI (dig c k)) ∧ Frx 9 σ τ) (fun R => ∃ τ, R = K (nI (c / 10 ^ n)) τ ∧ (∀ i, i < n → τ 9 i = nI (dig c i)) ∧ Frx 9 σ τ) ?_ ?_ FU 0 σ (by omega) (FU_gt (by omega)) ⟨fun k hk => by omega, fun m _ => rfl⟩ |> fun A => by rw [hz] at A; exact A
    · rintro f i τ hi ⟨p1, p2⟩
      have hq : c / 10 ^ i ≤ c := Nat.div_le_self _ _
      refine Or.inr ⟨wr τ 9 i (nI (dig c i)), ?_, fun k hk => ?_, fun m hm => by rw [wr_fn hm]; exact p2 m hm⟩
      · show f_Maps_numberOfCode_L5 (nI n) K (f + 1) (nI (c / 10 ^ i)) (nI i) τ = _
        rw [f_Maps_numberOfCode_L5.eq_2]
        rw [if_pos (nI_lt hi (by omega)), show (10 : Int32) = nI 10 from rfl, rmi_nI (by omega) (by omega) (by omega), write_ok (by omega), cal_some, dvi_nI (by omega) (by omega) (by omega), dig_s, nI_1]
        rfl
      · rw [wr_get]
        by_cases e : k = i
        · rw [if_pos ⟨rfl, e⟩, e]
        · rw [if_neg (by omega)]; exact p1 k (by omega)
    · rintro f τ ⟨p1, p2⟩
      refine ⟨τ, ?_, p1, p2⟩
      show f_Maps_numberOfCode_L5 (nI n) K (f + 1) (nI (c / 10 ^ n)) (nI n) τ = _
      rw [f_Maps_numberOfCode_L5.eq_2]
      rw [if_neg (nI_nlt (Nat.le_refl _) (by omega))]
  obtain ⟨τ, e, a1, a2⟩ := A (fun (v3_6 : Int32) (σ_7 : St) => if v3_6 = 0 then cap (f_Maps_numberOfDraft σ_7 (nI n)) fun r_9 => some (r_9, σ_7) else some ((-1), σ_7))
  refine ⟨τ, e.trans ?_, a2⟩
  have hq : c / 10 ^ n ≤ c := Nat.div_le_self _ _
  unfold VC
  by_cases h0 : c / 10 ^ n = 0
  · rw [if_pos (by rw [h0]; rfl)]
    by_cases hd : ∀ i, i < n → dig c i < n
    · rw [draft_ok h1 h2 (dig c) (fun i hi => ⟨a1 i hi, hd i hi⟩), cap_some, dB_and, dB_t h0, Bool.true_and]
    · have hb : ∃ i, i < n ∧ (τ 9 i < 0 ∨ nI n ≤ τ 9 i) := by
        apply Classical.byContradiction
        intro hno
        refine hd (fun i hi => ?_)
        apply Classical.byContradiction
        intro h3
        have hl : dig c i < 10 := Nat.mod_lt _ (by decide)
        exact hno ⟨i, hi, Or.inr (by rw [a1 i hi]; exact nI_le (by omega) (by omega))⟩
      rw [draft_bad h1 h2 hb, cap_some, dB_f (fun h => hd h.2.1), if_neg (by decide)]
  · rw [if_neg (by rw [eq_l0 (by omega)]; exact h0), dB_f (fun h => h0 h.1), if_neg (by decide)]
theorem rmi10 {β : Type} {y : Int32} {f : Int32 → Option β} : rmi y 10 f = f (y - y / 10 * 10) := by
  unfold rmi
  rw [if_neg (show ¬ (10 : Int32) = 0 by decide)]
theorem dvi10 {β : Type} {y : Int32} {f : Int32 → Option β} : dvi y 10 f = f (y / 10) := by
  unfold dvi
  rw [if_neg (show ¬ (10 : Int32) = 0 by decide)]
theorem neg_div {x : Int32} (h : x < 0) : x / 10 < 0 ∨ (x / 10 = 0 ∧ x - x / 10 * 10 < 0) := by
  have h0 : x.toInt < 0 := by
    rw [Int32.lt_iff_toInt_lt] at h
    have : (0 : Int32).toInt = 0 := by decide
    omega
  have hb := Int32.le_toInt x
  obtain ⟨a, ha⟩ : ∃ a : Nat, x.toInt = -(a : Int) := ⟨x.toInt.natAbs, by omega⟩
  have ht : x.toInt.tdiv 10 = -((a / 10 : Nat) : Int) := by
    rw [ha, Int.neg_tdiv]
    show -((a : Int).tdiv ((10 : Nat) : Int)) = _
    rw [← Int.ofNat_tdiv]
  have e : (x / 10).toInt = -((a / 10 : Nat) : Int) := by
    rw [Int32.toInt_div, show (10 : Int32).toInt = 10 by decide, ht]
    apply Int.bmod_eq_of_le <;> omega
  by_cases h3 : a / 10 = 0
  · right
    have h4 : x / 10 = 0 := by
      apply Int32.toInt_inj.mp
      rw [e, h3]; decide
    refine ⟨h4, ?_⟩
    rw [h4, Int32.zero_mul, Int32.sub_zero]
    exact h
  · left
    rw [Int32.lt_iff_toInt_lt, e, show (0 : Int32).toInt = 0 by decide]
    omega
theorem code_neg {n : Nat} {x : Int32} (h1 : 2 ≤ n) (h2 : n ≤ 5) (hx : x < 0) : ∃ τ, f_Maps_numberOfCode σ x (nI n) = some (-1, τ) ∧ Frx 9 σ τ := by
  unfold f_Maps_numberOfCode
  have A : ∀ K : Int32 → St → Option (Int32 × St), ∃ y τ, f_Maps_numberOfCode_L5 (nI n) K FU x 0 σ = K y τ ∧ (y < 0 ∨ (y = 0 ∧ ∃ i, i < n ∧ τ 9 i < 0)) ∧ Frx 9 σ τ := by
    intro K
    refine loopE (fun f i (p : Int32 × St) => f_Maps_numberOfCode_L5 (nI n) K f p.1 (nI i) p.2) n (fun i p => (p.1 < 0 ∨ (p.1 = 0 ∧ ∃ k, k < i ∧ p.2 9 k < 0)) ∧ Frx 9 σ p.2) (fun R => ∃ y τ, R = K y τ ∧ (y < 0 ∨ (y = 0 ∧ ∃ i, i < n ∧ τ 9 i < 0)) ∧ Frx 9 σ τ) ?_ ?_ FU 0 (x, σ) (by omega) (FU_gt (by omega)) ⟨Or.inl hx, fun m _ => rfl⟩
    · rintro f i ⟨y, τ⟩ hi ⟨p1, p2⟩
      have p1 : y < 0 ∨ (y = 0 ∧ ∃ k, k < i ∧ τ 9 k < 0) := p1
      have p2 : Frx 9 σ τ := p2
      refine Or.inr ⟨(y / 10, wr τ 9 i (y - y / 10 * 10)), ?_, ?_, fun m hm => (wr_fn hm).trans (p2 m hm)⟩
      · show f_Maps_numberOfCode_L5 (nI n) K (f + 1) y (nI i) τ = _
        rw [f_Maps_numberOfCode_L5.eq_2]
        rw [if_pos (nI_lt hi (by omega)), rmi10, write_ok (by omega), cal_some, dvi10, nI_1]
      · show y / 10 < 0 ∨ (y / 10 = 0 ∧ ∃ k, k < i + 1 ∧ wr τ 9 i (y - y / 10 * 10) 9 k < 0)
        rcases p1 with h | ⟨rfl, k, hk, h⟩
        · rcases neg_div h with h3 | ⟨h3, h4⟩
          · exact Or.inl h3
          · exact Or.inr ⟨h3, i, by omega, by rw [wr_at]; exact h4⟩
        · refine Or.inr ⟨by decide, k, by omega, ?_⟩
          rw [wr_get, if_neg (by omega)]; exact h
    · rintro f ⟨y, τ⟩ ⟨p1, p2⟩
      refine ⟨y, τ, ?_, p1, p2⟩
      show f_Maps_numberOfCode_L5 (nI n) K (f + 1) y (nI n) τ = _
      rw [f_Maps_numberOfCode_L5.eq_2]
      rw [if_neg (nI_nlt (Nat.le_refl _) (by omega))]
  obtain ⟨y, τ, e, a1, a2⟩ := A (fun (v3_6 : Int32) (σ_7 : St) => if v3_6 = 0 then cap (f_Maps_numberOfDraft σ_7 (nI n)) fun r_9 => some (r_9, σ_7) else some ((-1), σ_7))
  refine ⟨τ, e.trans ?_, a2⟩
  rcases a1 with h | ⟨rfl, i, hi, h⟩
  · rw [if_neg (fun h0 => by rw [h0] at h; exact absurd h (by decide))]
  · rw [if_pos rfl, draft_bad h1 h2 ⟨i, hi, Or.inl h⟩, cap_some]
/-! the reference -/
theorem rmap_any {n w : Nat} (h2 : n ≤ 5) (hw : w < 3) (x : Int32) (hx : x < 0) : ∃ τ, f_R_isMap σ x (nI n) (nI w) = some (0, τ) ∧ Frx 88 σ τ := by
  unfold f_R_isMap
  have A : ∀ K : Int32 → Int32 → St → Option (Int32 × St), ∃ y z τ, f_R_isMap_L9 x (nI n) (nI w) K FU x 0 0 σ = K y z τ ∧ Frx 88 σ τ := by
    intro K
    refine loopE (fun f i (p : Int32 × Int32 × St) => f_R_isMap_L9 x (nI n) (nI w) K f p.1 p.2.1 (nI i) p.2.2) n (fun i p => Frx 88 σ p.2.2) (fun R => ∃ y z τ, R = K y z τ ∧ Frx 88 σ τ) ?_ ?_ FU 0 (x, 0, σ) (by omega) (FU_gt (by omega)) (fun m _ => rfl)
    · rintro f i ⟨y, z, τ⟩ hi p2
      have p2 : Frx 88 σ τ := p2
      show (∃ _, _) ∨ ∃ a' : Int32 × Int32 × St, f_R_isMap_L9 x (nI n) (nI w) K (f + 1) y z (nI i) τ = _ ∧ _
      right
      rw [f_R_isMap_L9.eq_2]
      rw [if_pos (nI_lt hi (by omega)), rmi10, dvi10, show (5 : Int32) = nI 5 from rfl, nI_mul, nI_add, ast_nI (by omega) (by decide), rbtw, cap_some, nI_1]
      simp only [jn_eq]
      cases btw (y - y / 10 * 10) 0 (nI n - 1)
      · rw [if_pos (by rfl)]
        exact ⟨(y / 10, z ||| 0, wr τ 88 (5 * w + i) (y - y / 10 * 10)), rfl, fun m hm => (wr_fn hm).trans (p2 m hm)⟩
      · rw [if_neg (by decide)]
        exact ⟨(y / 10, z ||| (1 <<< ((y - y / 10 * 10) &&& 31)), wr τ 88 (5 * w + i) (y - y / 10 * 10)), rfl, fun m hm => (wr_fn hm).trans (p2 m hm)⟩
    · rintro f ⟨y, z, τ⟩ p2
      refine ⟨y, z, τ, ?_, p2⟩
      show f_R_isMap_L9 x (nI n) (nI w) K (f + 1) y z (nI n) τ = _
      rw [f_R_isMap_L9.eq_2]
      rw [if_neg (nI_nlt (Nat.le_refl _) (by omega))]
  obtain ⟨y, z, τ, e, a2⟩ := A (fun (v4_8 : Int32) (v5_9 : Int32) (σ_10 : St) => jn (some (0, σ_10)) fun j97_11 => if x < 0 then j97_11 else if v4_8 = 0 then if v5_9 = ((1 <<< (nI n &&& 31)) - 1) then some (1, σ_10) else j97_11 else j97_11)
  refine ⟨τ, e.trans ?_, a2⟩
  rw [jn_eq, if_pos hx]
theorem rmap_pos {n w c : Nat} (h1 : 2 ≤ n) (h2 : n ≤ 5) (hw : w < 3) (hc : c < 2 ^ 31) : ∃ τ, f_R_isMap σ (nI c) (nI n) (nI w) = some (bI (dB (VC n c)), τ) ∧ (∀ i, i < n → τ 88 (5 * w + i) = nI (dig c i)) ∧ (∀ x, (x < 5 * w ∨ 5 * w + 5 ≤ x) → τ 88 x = σ 88 x) ∧ Frx 88 σ τ := by
  unfold f_R_isMap
  have A : ∀ K : Int32 → Int32 → St → Option (Int32 × St), ∃ τ, f_R_isMap_L9 (nI c) (nI n) (nI w) K FU (nI c) 0 0 σ = K (nI (c / 10 ^ n)) (sI (fun s => dB (s < n ∧ ∃ r, r < n ∧ dig c r = s))) τ ∧ (∀ i, i < n → τ 88 (5 * w + i) = nI (dig c i)) ∧ (∀ x, (x < 5 * w ∨ 5 * w + 5 ≤ x) → τ 88 x = σ 88 x) ∧ Frx 88 σ τ := by
    intro K
    have hz : c / 10 ^ 0 = c := by rw [Nat.pow_zero, Nat.div_one]
    have hz2 : sI (fun s => dB (s < n ∧ ∃ r, r < 0 ∧ dig c r = s)) = 0 := by
      rw [← sI_none]
      exact sI_cong (fun s _ => dB_f (fun ⟨_, r, hr, _⟩ => by omega))
    refine loopE (fun f i (τ : St) => f_R_isMap_L9 (nI c) (nI n) (nI w) K f (nI (c / 10 ^ i)) (sI (fun s => dB (s < n ∧ ∃ r, r < i ∧ dig c r = s))) (nI i) τ) n (fun i τ => (∀ k, k < i → τ 88 (5 * w + k) = nI (dig c k)) ∧ (∀ x, (x < 5 * w ∨ 5 * w + 5 ≤ x) → τ 88 x = σ 88 x) ∧ Frx 88 σ τ) (fun R => ∃ τ, R = K (nI (c / 10 ^ n)) (sI (fun s => dB (s < n ∧ ∃ r, r < n ∧ dig c r = s))) τ ∧ (∀ i, i < n → τ 88 (5 * w + i) = nI (dig c i)) ∧ (∀ x, (x < 5 * w ∨ 5 * w + 5 ≤ x) → τ 88 x = σ 88 x) ∧ Frx 88 σ τ) ?_ ?_ FU 0 σ (by omega) (FU_gt (by omega)) ⟨fun k hk => by omega, fun x _ => rfl, fun m _ => rfl⟩ |> fun A => by rw [hz, hz2] at A; exact A
    · rintro f i τ hi ⟨p1, p2, p3⟩
      have hq : c / 10 ^ i ≤ c := Nat.div_le_self _ _
      have hdl : dig c i < 10 := Nat.mod_lt _ (by decide)
      refine Or.inr ⟨wr τ 88 (5 * w + i) (nI (dig c i)), ?_, fun k hk => ?_, fun x hx => ?_, fun m hm => by rw [wr_fn hm]; exact p3 m hm⟩
      · show f_R_isMap_L9 (nI c) (nI n) (nI w) K (f + 1) (nI (c / 10 ^ i)) _ (nI i) τ = _
        rw [f_R_isMap_L9.eq_2]
        rw [if_pos (nI_lt hi (by omega)), show (10 : Int32) = nI 10 from rfl, rmi_nI (by omega) (by omega) (by omega), dvi_nI (by omega) (by omega) (by omega), dig_s, show (5 : Int32) = nI 5 from rfl, nI_mul, nI_add, ast_nI (by omega) (by decide), rbtw, cap_some, nI_1]
        simp only [jn_eq]
        have hbt : btw (nI (c / 10 ^ i % 10)) 0 (nI n - 1) = decide (dig c i < n) := by
          rw [show nI n - 1 = nI (n - 1) from nI_sub (b := 1) (by omega), show (0 : Int32) = nI 0 from rfl, btw_nI (by omega) (by omega) (by omega)]
          unfold dig
          rw [decide_eq_decide]
          omega
        rw [hbt]
        by_cases hlt : dig c i < n
        · rw [decide_eq_true hlt, if_neg (by decide)]
          show f_R_isMap_L9 (nI c) (nI n) (nI w) K f (nI (c / 10 ^ (i + 1))) (sI _ ||| (1 <<< (nI (dig c i) &&& 31))) (nI (i + 1)) _ = _
          rw [or_oneB (by omega)]
          congr 1
          apply sI_cong
          intro s _
          rw [dB_cong (q := (s < n ∧ ∃ r, r < i + 1 ∧ dig c r = s)) Iff.rfl, ← dB_or]
          apply dB_cong
          rw [ex_next]
          constructor
          · rintro (⟨a, b⟩ | rfl)
            · exact ⟨a, Or.inl b⟩
            · exact ⟨hlt, Or.inr rfl⟩
          · rintro ⟨a, b | b⟩
            · exact Or.inl ⟨a, b⟩
            · exact Or.inr b.symm
        · rw [decide_eq_false hlt, if_pos (by rfl), Int32.or_zero]
          show f_R_isMap_L9 (nI c) (nI n) (nI w) K f (nI (c / 10 ^ (i + 1))) (sI _) (nI (i + 1)) _ = _
          congr 1
          apply sI_cong
          intro s _
          apply dB_cong
          rw [ex_next]
          constructor
          · rintro ⟨a, b⟩; exact ⟨a, Or.inl b⟩
          · rintro ⟨a, b | b⟩
            · exact ⟨a, b⟩
            · omega
      · rw [wr_get]
        by_cases e : k = i
        · rw [if_pos ⟨rfl, by rw [e]⟩, e]
        · rw [if_neg (by omega)]; exact p1 k (by omega)
      · rw [wr_get, if_neg (by omega)]; exact p2 x hx
    · rintro f τ ⟨p1, p2, p3⟩
      refine ⟨τ, ?_, p1, p2, p3⟩
      show f_R_isMap_L9 (nI c) (nI n) (nI w) K (f + 1) (nI (c / 10 ^ n)) _ (nI n) τ = _
      rw [f_R_isMap_L9.eq_2]
      rw [if_neg (nI_nlt (Nat.le_refl _) (by omega))]
  obtain ⟨τ, e, a1, a2, a3⟩ := A (fun (v4_8 : Int32) (v5_9 : Int32) (σ_10 : St) => jn (some (0, σ_10)) fun j97_11 => if nI c < 0 then j97_11 else if v4_8 = 0 then if v5_9 = ((1 <<< (nI n &&& 31)) - 1) then some (1, σ_10) else j97_11 else j97_11)
  refine ⟨τ, e.trans ?_, a1, a2, a3⟩
  have hq : c / 10 ^ n ≤ c := Nat.div_le_self _ _
  rw [jn_eq, if_neg (nI_pos hc)]
  unfold VC
  by_cases h0 : c / 10 ^ n = 0
  · rw [if_pos (by rw [h0]; rfl), sI_all h2, dB_and, dB_t h0, Bool.true_and]
    have e2 : (sI (fun s => dB (s < n ∧ ∃ r, r < n ∧ dig c r = s)) = sI (fun t => decide (t < n))) ↔ PM n (dig c) := by
      rw [← pm_sur]
      · have : sI (fun s => dB (s < n ∧ ∃ r, r < n ∧ dig c r = s)) = sI (fun s => false || dB (∃ r, r < n ∧ s < n ∧ dig c r = s)) := sI_cong (fun s _ => by
          rw [Bool.false_or]
          exact dB_cong ⟨fun ⟨a, r, b, d⟩ => ⟨r, b, a, d⟩, fun ⟨r, b, a, d⟩ => ⟨a, r, b, d⟩⟩)
        rw [this, set_all h2 (q := fun r s => s < n ∧ dig c r = s) (fun r s _ h => h.1)]
        constructor
        · intro h s hs
          obtain ⟨r, a, b⟩ := h s hs
          exact ⟨r, a, b.2⟩
        · intro h s hs
          obtain ⟨r, a, b⟩ := h s hs
          exact ⟨r, a, hs, b⟩
    by_cases hp : PM n (dig c)
    · rw [if_pos (e2.mpr hp), dB_t hp]; rfl
    · rw [if_neg (fun h => hp (e2.mp h)), dB_f hp]; rfl
  · rw [if_neg (by rw [eq_l0 (by omega)]; exact h0), dB_f (fun h => h0 h.1)]; rfl
end CD
