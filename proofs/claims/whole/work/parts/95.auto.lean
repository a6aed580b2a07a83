/-! automorphisms; the number of a draft -/
def AU (n : Nat) (S : Nat → Nat → Nat) (f : Nat → Nat) : Prop := ∀ a, a < n → ∀ b, b < n → f (S a b) = S (f a) (f b)
theorem AU_congr {n : Nat} {S : Nat → Nat → Nat} {f g : Nat → Nat} (hS : ∀ a b, a < n → b < n → S a b < n) (h : ∀ i, i < n → f i = g i) : AU n S f ↔ AU n S g := by
  constructor
  · intro hh a ha b hb
    rw [← h a ha, ← h b hb, ← h _ (hS a b ha hb)]; exact hh a ha b hb
  · intro hh a ha b hb
    rw [h a ha, h b hb, h _ (hS a b ha hb)]; exact hh a ha b hb
section AUC
variable {σ : St} {k n : Nat} {B : Bd}
theorem keep13 (mt : MT σ) (h : GOK σ k n B) (hs : SQ n B) {m a : Nat} (hm : m < facN n) (ha : a < n) (K : Option Int32) : f_Symmetry_keepsProducts_L13 k (nI m) (nI a) σ K FU 0 = if dB (∀ b, b < n → cp m (sg B a b) = sg B (cp m a) (cp m b)) = true then K else some 0 := by
  have hn := h.le
  have ho := h.ord
  have hf := fac_le hn.1 hn.2
  have hp := (cp_pm hn.1 hn.2 hm).1
  have key : ∀ f b, b < n → f_Symmetry_keepsProducts_L13 k (nI m) (nI a) σ K (f + 1) (nI b) = if cp m (sg B a b) = sg B (cp m a) (cp m b) then f_Symmetry_keepsProducts_L13 k (nI m) (nI a) σ K f (nI (b + 1)) else some 0 := by
    intro f b hb
    have q1 := hp.1 a ha
    have q2 := hp.1 b hb
    have q3 := hs.lt ha hb
    have q4 := hs.lt q1 q2
    have q5 := hp.1 _ q3
    rw [f_Symmetry_keepsProducts_L13.eq_2]
    rw [ho, if_pos (nI_lt hb (by omega)), image_ok mt (by omega) (by omega), cap_some, image_ok mt (by omega) (by omega), cap_some, sq_sign h hs q1 q2, cap_some, sq_sign h hs ha hb, cap_some, image_ok mt (by omega) (by omega), cap_some, nI_1]
    simp (disch := omega) only [eq_nI]
  refine loop_all (fun f i => f_Symmetry_keepsProducts_L13 k (nI m) (nI a) σ K f (nI i)) n (fun b => cp m (sg B a b) = sg B (cp m a) (cp m b)) (some 0) K (by omega) ?_ ?_ ?_
  · intro f b hb hp
    show f_Symmetry_keepsProducts_L13 k (nI m) (nI a) σ K (f + 1) (nI b) = _
    rw [key f b hb, if_pos hp]
  · intro f b hb hp
    show f_Symmetry_keepsProducts_L13 k (nI m) (nI a) σ K (f + 1) (nI b) = _
    rw [key f b hb, if_neg hp]
  · intro f
    show f_Symmetry_keepsProducts_L13 k (nI m) (nI a) σ K (f + 1) (nI n) = _
    rw [f_Symmetry_keepsProducts_L13.eq_2]
    rw [ho, if_neg (nI_nlt (Nat.le_refl _) (by omega))]
theorem keep_ok (mt : MT σ) (h : GOK σ k n B) (hs : SQ n B) {m : Nat} (hm : m < facN n) : f_Symmetry_keepsProducts σ k (nI m) = some (bI (dB (AU n (sg B) (cp m)))) := by
  have hn := h.le
  have ho := h.ord
  unfold f_Symmetry_keepsProducts AU
  refine (loop_all (fun f i => f_Symmetry_keepsProducts_L2 k (nI m) σ f (nI i)) n (fun a => ∀ b, b < n → cp m (sg B a b) = sg B (cp m a) (cp m b)) (some 0) (some 1) (by omega) ?_ ?_ ?_).trans (some_bI _)
  · intro f a ha hp
    show f_Symmetry_keepsProducts_L2 k (nI m) σ (f + 1) (nI a) = _
    rw [f_Symmetry_keepsProducts_L2.eq_2]
    rw [ho, if_pos (nI_lt ha (by omega)), keep13 mt h hs hm ha, dB_t hp, if_pos rfl, nI_1]
  · intro f a ha hp
    show f_Symmetry_keepsProducts_L2 k (nI m) σ (f + 1) (nI a) = _
    rw [f_Symmetry_keepsProducts_L2.eq_2]
    rw [ho, if_pos (nI_lt ha (by omega)), keep13 mt h hs hm ha, dB_f hp, if_neg (by decide)]
  · intro f
    show f_Symmetry_keepsProducts_L2 k (nI m) σ (f + 1) (nI n) = _
    rw [f_Symmetry_keepsProducts_L2.eq_2]
    rw [ho, if_neg (nI_nlt (Nat.le_refl _) (by omega))]
theorem auto_ok (mt : MT σ) (h : GOK σ k n B) (hs : SQ n B) : f_Symmetry_automorphisms σ k = some (nI (sumN (facN n) (fun m => (dB (AU n (sg B) (cp m))).toNat))) := by
  have hn := h.le
  have ho := h.ord
  have hf := fac_le hn.1 hn.2
  unfold f_Symmetry_automorphisms
  refine (loop_sum (fun f i a => f_Symmetry_automorphisms_L4 k σ (fun v => some v) f (nI a) (nI i)) (facN n) 1 (fun m => (dB (AU n (sg B) (cp m))).toNat) (fun a => some (nI a)) (by omega) (fun i _ => tn_le _) 0 ?_ ?_).trans ?_
  · intro f i x hi hx
    show f_Symmetry_automorphisms_L4 k σ _ (f + 1) (nI x) (nI i) = _
    rw [f_Symmetry_automorphisms_L4.eq_2]
    rw [ho, amount_ok hn.1 hn.2, cap_some, if_pos (nI_lt hi (by omega)), keep_ok mt h hs hi, cap_some, nI_1]
    simp only [jn_eq]
    cases dB (AU n (sg B) (cp i))
    · rw [if_pos (by rfl)]; rfl
    · rw [if_neg (by decide), nI_1]; rfl
  · intro f x hx
    show f_Symmetry_automorphisms_L4 k σ _ (f + 1) (nI x) (nI (facN n)) = _
    rw [f_Symmetry_automorphisms_L4.eq_2]
    rw [ho, amount_ok hn.1 hn.2, cap_some, if_neg (nI_nlt (Nat.le_refl _) (by omega))]
  · rw [Nat.zero_add]
end AUC
section AUR
variable {σ : St} {M : Nat} {N : Nat → Nat} {B : Nat → Bd}
theorem rauto41 (h : MW σ M N B) {j : Nat} (hj : j < M) (hs : SQ (N j) (B j)) (la : LA σ (N j)) {m a : Nat} (hm : m < facN (N j)) (ha : a < N j) (v3 : Int32) (b : Bool) (K : Int32 → Option (Int32 × St)) : f_R_automorphisms_L41 (nI j) (nI (N j)) v3 (nI m) (nI a) σ K FU (bI b) 0 = K (bI (b && dB (∀ c, c < N j → lp (N j) m (sg (B j) a c) = sg (B j) (lp (N j) m a) (lp (N j) m c)))) := by
  have hn := h.n hj
  have hf := fac_le hn.1 hn.2
  have hp := lp_pm hn.1 hn.2 hm
  refine loop_flag (fun f i b => f_R_automorphisms_L41 (nI j) (nI (N j)) v3 (nI m) (nI a) σ K f (bI b) (nI i)) (N j) (fun c => lp (N j) m (sg (B j) a c) = sg (B j) (lp (N j) m a) (lp (N j) m c)) (fun b => K (bI b)) (by omega) b ?_ ?_
  · intro f c b hc
    show f_R_automorphisms_L41 (nI j) (nI (N j)) v3 (nI m) (nI a) σ K (f + 1) (bI b) (nI c) = _
    have q1 := hp.1 a ha
    have q2 := hp.1 c hc
    have q3 := hs.lt ha hc
    have q4 := hs.lt q1 q2
    have q5 := hp.1 _ q3
    rw [f_R_automorphisms_L41.eq_2]
    rw [if_pos (nI_lt hc (by omega)), sq_at h hj hs ha hc]
    simp only [jn_eq, nI_1, cap_some]
    rw [show (5 : Int32) = nI 5 from rfl, nI_mul, nI_add, nI_add, nI_add, ald_nI (by omega) (by decide), ald_nI (by omega) (by decide), ald_nI (by omega) (by decide), la.2.2 m _ hm q3, la.2.2 m a hm ha, la.2.2 m c hm hc, sq_at h hj hs q1 q2, cap_some]
    cases b
    · rw [if_pos (by rfl)]; rfl
    · rw [if_neg (by decide)]
      by_cases e : lp (N j) m (sg (B j) a c) = sg (B j) (lp (N j) m a) (lp (N j) m c)
      · rw [if_pos (by rw [e]), dB_t e]; rfl
      · rw [if_neg (by rw [eq_nI (by omega) (by omega)]; exact e), dB_f e]; rfl
  · intro f b
    show f_R_automorphisms_L41 (nI j) (nI (N j)) v3 (nI m) (nI a) σ K (f + 1) (bI b) (nI (N j)) = _
    rw [f_R_automorphisms_L41.eq_2]
    rw [if_neg (nI_nlt (Nat.le_refl _) (by omega))]
theorem rauto32 (h : MW σ M N B) {j : Nat} (hj : j < M) (hs : SQ (N j) (B j)) (la : LA σ (N j)) {m : Nat} (hm : m < facN (N j)) (v3 : Int32) (K : Int32 → Option (Int32 × St)) : f_R_automorphisms_L32 (nI j) (nI (N j)) v3 (nI m) σ K FU 1 0 = K (bI (dB (AU (N j) (sg (B j)) (lp (N j) m)))) := by
  have hn := h.n hj
  have A := loop_flag (fun f i b => f_R_automorphisms_L32 (nI j) (nI (N j)) v3 (nI m) σ K f (bI b) (nI i)) (N j) (fun a => ∀ c, c < N j → lp (N j) m (sg (B j) a c) = sg (B j) (lp (N j) m a) (lp (N j) m c)) (fun b => K (bI b)) (by omega) true ?_ ?_
  · rw [Bool.true_and] at A
    exact A
  · intro f a b ha
    show f_R_automorphisms_L32 (nI j) (nI (N j)) v3 (nI m) σ K (f + 1) (bI b) (nI a) = _
    rw [f_R_automorphisms_L32.eq_2]
    rw [if_pos (nI_lt ha (by omega)), rauto41 h hj hs la hm ha, nI_1]
  · intro f b
    show f_R_automorphisms_L32 (nI j) (nI (N j)) v3 (nI m) σ K (f + 1) (bI b) (nI (N j)) = _
    rw [f_R_automorphisms_L32.eq_2]
    rw [if_neg (nI_nlt (Nat.le_refl _) (by omega))]
theorem rauto_ok (h : MW σ M N B) (ca : CA σ) {j : Nat} (hj : j < M) (hs : SQ (N j) (B j)) : ∃ τ, f_R_automorphisms σ (nI j) = some (nI (sumN (facN (N j)) (fun m => (dB (AU (N j) (sg (B j)) (lp (N j) m))).toNat)), τ) ∧ LA τ (N j) ∧ ∀ m s, ¬ (m = 82 ∧ (s = 9 ∨ s = 10)) → m ≠ 89 → τ m s = σ m s := by
  have hM := h.le
  have hn := h.n hj
  have hf := fac_le hn.1 hn.2
  obtain ⟨υ, e1, la, f1⟩ := layAll_ok ca hn.1 hn.2
  have mwυ : MW υ M N B := h.fr ⟨fun m hm => funext (fun s => f1 m s (by omega) (by omega)), f1 82 1 (by omega) (by omega), f1 82 4 (by omega) (by omega)⟩
  refine ⟨υ, ?_, la, f1⟩
  unfold f_R_automorphisms
  rw [ald_nI (by omega) (by decide), h.od hj, e1, cal_some]
  refine (loop_sum (fun f i a => f_R_automorphisms_L17 (nI j) (nI (N j)) υ (fun (v3_19 : Int32) => some (v3_19, υ)) f (nI a) (nI i)) (facN (N j)) 1 (fun m => (dB (AU (N j) (sg (B j)) (lp (N j) m))).toNat) (fun a => some (nI a, υ)) (by omega) (fun i _ => tn_le _) 0 ?_ ?_).trans ?_
  · intro f i x hi hx
    show f_R_automorphisms_L17 (nI j) (nI (N j)) υ _ (f + 1) (nI x) (nI i) = _
    rw [f_R_automorphisms_L17.eq_2]
    rw [la.2.1, if_pos (nI_lt hi (by omega)), rauto32 mwυ hj hs la hi, jn_eq, nI_1]
    cases dB (AU (N j) (sg (B j)) (lp (N j) i))
    · rw [if_pos (show bI false = 0 from rfl)]
      show f_R_automorphisms_L17 (nI j) (nI (N j)) υ _ f (nI x + 0) (nI (i + 1)) = _
      rw [Int32.add_zero]; rfl
    · rw [if_neg (show ¬ bI true = 0 by decide)]
      show f_R_automorphisms_L17 (nI j) (nI (N j)) υ _ f (nI x + 1) (nI (i + 1)) = _
      rw [nI_1]; rfl
  · intro f x hx
    show f_R_automorphisms_L17 (nI j) (nI (N j)) υ _ (f + 1) (nI x) (nI (facN (N j))) = _
    rw [f_R_automorphisms_L17.eq_2]
    rw [la.2.1, if_neg (nI_nlt (Nat.le_refl _) (by omega))]
  · rw [Nat.zero_add]
end AUR
theorem auto_same {n : Nat} (h1 : 2 ≤ n) (h2 : n ≤ 5) {B : Bd} (hs : SQ n B) : sumN (facN n) (fun m => (dB (AU n (sg B) (cp m))).toNat) = sumN (facN n) (fun m => (dB (AU n (sg B) (lp n m))).toNat) :=
  sum_maps h1 h2 _ _ (fun m m' _ _ h => by rw [dB_cong (AU_congr (fun a b ha hb => hs.lt ha hb) h)])
/-! the number of a draft -/
section DR
variable {σ : St}
theorem draft60 {n i : Nat} (hn : n ≤ 5) (hi : i < n) (d : Nat → Nat) (hd : ∀ j, i < j → j < n → σ 9 j = nI (d j) ∧ d j < 1000) (hdi : d i < 6) (v3 v4 : Int32) (a : Nat) (ha : a ≤ 10000) (K : Int32 → Option Int32) : f_Maps_numberOfDraft_L60 (nI n) v3 v4 (nI (d i)) σ K FU (nI a) (nI (i + 1)) = K (nI (a + sumN n (fun j => if i < j ∧ d j < d i then facN (d i) else 0))) := by
  have hfac : facN (d i) ≤ 120 := fac5 (d i) (by omega)
  have hg : g_fact (d i) = nI (facN (d i)) := by
    rcases (by omega : d i = 0 ∨ d i = 1 ∨ d i = 2 ∨ d i = 3 ∨ d i = 4 ∨ d i = 5) with e | e | e | e | e | e <;> rw [e] <;> rfl
  have e : sumN n (fun j => if i < j ∧ d j < d i then facN (d i) else 0) = sumN (n - (i + 1)) (fun t => if d (i + 1 + t) < d i then facN (d i) else 0) := by
    have := sumN_add (i + 1) (n - (i + 1)) (fun j => if i < j ∧ d j < d i then facN (d i) else 0)
    rw [show i + 1 + (n - (i + 1)) = n by omega] at this
    rw [this]
    have z : sumN (i + 1) (fun j => if i < j ∧ d j < d i then facN (d i) else 0) = 0 := by
      have : sumN (i + 1) (fun j => if i < j ∧ d j < d i then facN (d i) else 0) ≤ (i + 1) * 0 := sumN_le (fun j hj => by rw [if_neg (by omega)]; omega)
      omega
    rw [z, Nat.zero_add]
    apply sumN_congr
    intro t ht
    by_cases h : d (i + 1 + t) < d i
    · rw [if_pos h, if_pos ⟨by omega, h⟩]
    · rw [if_neg h, if_neg (fun h2 => h h2.2)]
  rw [e]
  refine loop_sum (fun f t a => f_Maps_numberOfDraft_L60 (nI n) v3 v4 (nI (d i)) σ K f (nI a) (nI (i + 1 + t))) (n - (i + 1)) 120 (fun t => if d (i + 1 + t) < d i then facN (d i) else 0) (fun a => K (nI a)) (by omega) (fun t ht => by split <;> omega) a ?_ ?_
  · intro f t x ht hx
    obtain ⟨q1, q2⟩ := hd (i + 1 + t) (by omega) (by omega)
    show f_Maps_numberOfDraft_L60 (nI n) v3 v4 (nI (d i)) σ K (f + 1) (nI x) (nI (i + 1 + t)) = _
    rw [f_Maps_numberOfDraft_L60.eq_2]
    rw [if_pos (nI_lt (by omega) (by omega)), if_pos (show nI (i + 1 + t) < 5 from nI_lt (show i + 1 + t < 5 by omega) (by decide)), ald_nI (by omega) (by decide), q1]
    simp only [jn_eq, nI_1]
    rw [fac_nI (by omega), hg]
    by_cases h : d (i + 1 + t) < d i
    · rw [if_pos (nI_lt h (by omega)), if_pos h, nI_add]; rfl
    · rw [if_neg (nI_nlt (by omega) (by omega)), if_neg h, Int32.add_zero]; rfl
  · intro f x hx
    show f_Maps_numberOfDraft_L60 (nI n) v3 v4 (nI (d i)) σ K (f + 1) (nI x) (nI (i + 1 + (n - (i + 1)))) = _
    rw [f_Maps_numberOfDraft_L60.eq_2]
    rw [if_neg (nI_nlt (by omega) (by omega))]
theorem nm_le {n : Nat} (hn : n ≤ 5) {d : Nat → Nat} (hd : ∀ i, i < n → d i < 6) {k : Nat} (hk : k ≤ n) : sumN k (fun i => sumN n (fun j => if i < j ∧ d j < d i then facN (d i) else 0)) ≤ k * 600 := by
  refine sumN_le (fun i hi => ?_)
  have : sumN n (fun j => if i < j ∧ d j < d i then facN (d i) else 0) ≤ n * 120 := sumN_le (fun j hj => by
    have := fac5 (d i) (by have := hd i (by omega); omega)
    split <;> omega)
  omega
theorem draft_ok {n : Nat} (h1 : 2 ≤ n) (h2 : n ≤ 5) (d : Nat → Nat) (hd : ∀ i, i < n → σ 9 i = nI (d i) ∧ d i < n) : f_Maps_numberOfDraft σ (nI n) = some (if dB (PM n d) = true then nI (nmN n d) else -1) := by
  have hbd : ∀ i, i < n → d i < 6 := fun i hi => by have := (hd i hi).2; omega
  unfold f_Maps_numberOfDraft
  have A := loop_acc (fun f i (x : Nat × (Nat → Bool)) => f_Maps_numberOfDraft_L7 (nI n) σ (fun (v2_9 : Int32) (v3_10 : Int32) => if v3_10 = ((1 <<< (nI n &&& 31)) - 1) then some v2_9 else some (-1)) f (nI x.1) (sI x.2) (nI i)) n
    (fun i x => (x.1 + sumN n (fun j => if i < j ∧ d j < d i then facN (d i) else 0), fun s => x.2 s || dB (s = d i))) (fun x => if sI x.2 = ((1 <<< (nI n &&& 31)) - 1) then some (nI x.1) else some (-1))
    (fun i x => x.1 = sumN i (fun i => sumN n (fun j => if i < j ∧ d j < d i then facN (d i) else 0)) ∧ x.2 = fun s => dB (∃ r, r < i ∧ d r = s)) (by omega) (0, fun _ => false) ⟨rfl, by funext s; rw [dB_f (fun ⟨r, hr, _⟩ => by omega)]⟩ ?_ ?_ ?_
  · obtain ⟨⟨x, p⟩, ⟨hx1, hx2⟩, e⟩ := A
    have hx1 : x = nmN n d := hx1
    have hx2 : p = fun s => dB (∃ r, r < n ∧ d r = s) := hx2
    refine e.trans ?_
    show (if sI p = ((1 <<< (nI n &&& 31)) - 1) then some (nI x) else some (-1)) = _
    rw [sI_all h2, hx1, hx2]
    have e2 := set_all h2 (q := fun r s => d r = s) (fun r s hr e => by rw [← e]; exact (hd r hr).2)
    simp only [Bool.false_or] at e2
    have hiff : (∀ s, s < n → ∃ r, r < n ∧ d r = s) ↔ PM n d := by
      constructor
      · intro hh
        refine ⟨fun i hi => (hd i hi).2, fun i j hi hj hij => ?_⟩
        apply Classical.byContradiction
        intro hne
        obtain ⟨g, hg⟩ := Classical.axiomOfChoice (fun s : Nat => (by
          by_cases hs : s < n
          · obtain ⟨r, hr⟩ := hh s hs; exact ⟨r, fun _ => hr⟩
          · exact ⟨0, fun h => absurd h hs⟩ : ∃ r, s < n → r < n ∧ d r = s))
        have hnd : ((List.range n).map g).Nodup := by
          rw [List.Nodup, List.pairwise_map]
          refine List.Pairwise.imp_of_mem ?_ (List.nodup_range (n := n))
          intro a b ha hb hab e
          have := (hg a (List.mem_range.mp ha)).2
          rw [e, (hg b (List.mem_range.mp hb)).2] at this
          exact hab this.symm
        have hsub : ∀ x, x ∈ (List.range n).map g → x ∈ (List.range n).filter (fun x => decide (x ≠ if g (d i) = i then j else i)) := by
          intro x hx
          obtain ⟨s, hs, rfl⟩ := List.mem_map.mp hx
          have hs := List.mem_range.mp hs
          refine List.mem_filter.mpr ⟨List.mem_range.mpr (hg s hs).1, decide_eq_true ?_⟩
          intro e
          have hds := (hg s hs).2
          split at e
          · rename_i he
            have : s = d j := by rw [← hds, e]
            rw [this, ← hij] at e
            omega
          · rename_i he
            have : s = d i := by rw [← hds, e]
            rw [this] at e
            exact he e
        have hlen := len_sub _ _ hnd hsub
        have hlt : ((List.range n).filter (fun x => decide (x ≠ if g (d i) = i then j else i))).length < (List.range n).length := by
          have hm : (if g (d i) = i then j else i) ∈ List.range n := by split <;> exact List.mem_range.mpr (by assumption)
          refine Nat.lt_of_le_of_ne (List.length_filter_le _ _) (fun he => ?_)
          have := List.length_filter_eq_length_iff.mp he _ hm
          exact of_decide_eq_true this rfl
        rw [List.length_map] at hlen
        omega
      · intro hpm s hs
        obtain ⟨q1, q2⟩ := cp_sur h1 h2 hpm
        apply Classical.byContradiction
        intro hno
        have hnd : (s :: (List.range n).map d).Nodup := by
          refine List.nodup_cons.mpr ⟨fun hm => ?_, ?_⟩
          · obtain ⟨r, hr, e⟩ := List.mem_map.mp hm
            exact hno ⟨r, List.mem_range.mp hr, e⟩
          · rw [List.Nodup, List.pairwise_map]
            refine List.Pairwise.imp_of_mem ?_ (List.nodup_range (n := n))
            intro a b ha hb hab e
            exact hab (hpm.2 a b (List.mem_range.mp ha) (List.mem_range.mp hb) e)
        have := len_sub _ (List.range n) hnd (fun x hx => by
          rcases List.mem_cons.mp hx with e | hm
          · rw [e]; exact List.mem_range.mpr hs
          · obtain ⟨r, hr, e⟩ := List.mem_map.mp hm
            rw [← e]; exact List.mem_range.mpr (hpm.1 r (List.mem_range.mp hr)))
        simp at this
        omega
    by_cases hp : PM n d
    · rw [if_pos (e2.mpr (hiff.mpr hp)), dB_t hp, if_pos rfl]
    · rw [if_neg (fun h => hp (hiff.mp (e2.mp h))), dB_f hp, if_neg (by decide)]
  · rintro f i ⟨x, p⟩ hi ⟨hx1, hx2⟩
    have hx1 : x = sumN i _ := hx1
    obtain ⟨q1, q2⟩ := hd i hi
    have hle := nm_le h2 hbd (show i ≤ n by omega)
    show f_Maps_numberOfDraft_L7 (nI n) σ _ (f + 1) (nI x) (sI p) (nI i) = _
    rw [f_Maps_numberOfDraft_L7.eq_2]
    rw [if_pos (nI_lt hi (by omega)), if_pos (show nI i < 5 from nI_lt (show i < 5 by omega) (by decide)), ald_nI (by omega) (by decide), q1, if_neg (nI_pos (by omega)), if_pos (nI_lt q2 (by omega)), if_pos (show nI (d i) < 5 from nI_lt (show d i < 5 by omega) (by decide)), lt1_eq, or_oneB (by omega), nI_1]
    rw [draft60 h2 hi d (fun j hj hjn => ⟨(hd j hjn).1, by have := (hd j hjn).2; omega⟩) (by omega) _ _ x (by omega)]
  · rintro i ⟨x, p⟩ hi ⟨hx1, hx2⟩
    have hx1 : x = sumN i _ := hx1
    have hx2 : p = fun s => dB (∃ r, r < i ∧ d r = s) := hx2
    refine ⟨by show x + _ = _; rw [hx1, sumN], ?_⟩
    show (fun s => p s || dB (s = d i)) = _
    funext s
    rw [hx2, dB_cong (ex_next (p := fun r => d r = s)), dB_or]
    congr 1
    exact dB_cong ⟨fun h => h.symm, fun h => h.symm⟩
  · rintro f ⟨x, p⟩ _
    show f_Maps_numberOfDraft_L7 (nI n) σ _ (f + 1) (nI x) (sI p) (nI n) = _
    rw [f_Maps_numberOfDraft_L7.eq_2]
    rw [if_neg (nI_nlt (Nat.le_refl _) (by omega))]
theorem write_ok {i : Nat} (hi : i < 5) (v : Int32) : f_Maps_write σ (nI i) v = some ((), wr σ 9 i v) := by
  unfold f_Maps_write
  rw [if_neg (nI_pos (by omega)), if_pos (show nI i < 5 from nI_lt hi (by decide)), ast_nI hi (by decide)]
end DR
