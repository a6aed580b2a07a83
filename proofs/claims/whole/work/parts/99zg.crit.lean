/-! critical: what the trades say -/
def ofB (z : Nat → Bool) : Nat → Nat
  | 0 => 0
  | k + 1 => if z k = true then 2 ^ k + ofB z k else ofB z k
theorem ofB_lt (z : Nat → Bool) : ∀ k, ofB z k < 2 ^ k := by
  intro k
  induction k with
  | zero => exact Nat.zero_lt_one
  | succ k ih =>
    rw [ofB, Nat.pow_succ]
    split <;> omega
theorem ofB_bt (z : Nat → Bool) : ∀ k i, (ofB z k).testBit i = (decide (i < k) && z i) := by
  intro k
  induction k with
  | zero =>
    intro i
    rw [decide_eq_false (by omega)]
    exact Nat.zero_testBit i
  | succ k ih =>
    intro i
    have hlt := ofB_lt z k
    rw [ofB]
    by_cases hz : z k = true
    · rw [if_pos hz]
      by_cases e : i = k
      · rw [e, Nat.testBit_two_pow_add_eq, Nat.testBit_lt_two_pow hlt, decide_eq_true (by omega : k < k + 1), hz]; rfl
      · by_cases hik : i < k
        · rw [Nat.testBit_two_pow_add_gt hik, ih i, decide_eq_true hik, decide_eq_true (by omega : i < k + 1)]
        · rw [decide_eq_false (by omega : ¬ i < k + 1), Bool.false_and]
          apply Nat.testBit_lt_two_pow
          have h2 : 2 ^ (k + 1) ≤ 2 ^ i := Nat.pow_le_pow_right (by omega) (by omega)
          rw [Nat.pow_succ] at h2
          omega
    · rw [if_neg hz, ih i]
      by_cases e : i = k
      · rw [e, decide_eq_false (by omega : ¬ k < k), Bool.eq_false_iff.mpr hz, Bool.and_false, Bool.and_false]
      · rw [show (decide (i < k + 1)) = decide (i < k) by rw [decide_eq_decide]; omega]
def rsB (n : Nat) (S : Bd) (s : Nat) : Bd := fun r c => if (r < n ∧ c < n) ∧ s.testBit (n * r + c) = true then S r c else 0
def bdC (n : Nat) (ch : Nat → Nat) : Bd := fun r c => if r < n ∧ c < n then cp (ch r) c + 1 else 0
section CR
variable {n : Nat} {S : Bd}
theorem rsB_sub {s : Nat} : subB (rsB n S s) S := fun r c => by
  unfold rsB
  split
  · exact Or.inl rfl
  · exact Or.inr rfl
theorem bdC_sq (h1 : 2 ≤ n) (h5 : n ≤ 5) {ch : Nat → Nat} (h : GOODc n ch n) : SQ n (bdC n ch) := by
  have hp : ∀ r, r < n → PM n (cp (ch r)) := fun r hr => (cp_pm h1 h5 (h.1 r hr)).1
  have hnz : ∀ r c, bdC n ch r c ≠ 0 → (r < n ∧ c < n) ∧ bdC n ch r c = cp (ch r) c + 1 := by
    intro r c h0
    unfold bdC at h0 ⊢
    by_cases hb : r < n ∧ c < n
    · exact ⟨hb, by rw [if_pos hb]⟩
    · rw [if_neg hb] at h0; exact absurd rfl h0
  refine ⟨⟨h1, h5, fun r c h0 => ?_, fun r c c' h0 e => ?_, fun r r' c h0 e => ?_⟩, fun r c hr hc => by unfold bdC; rw [if_pos ⟨hr, hc⟩]; omega⟩
  · obtain ⟨a, b⟩ := hnz r c h0
    have := (hp r a.1).1 c a.2
    exact ⟨a.1, a.2, by omega⟩
  · obtain ⟨a, b⟩ := hnz r c h0
    obtain ⟨a', b'⟩ := hnz r c' (by rw [← e]; exact h0)
    exact (hp r a.1).2 c c' a.2 a'.2 (by omega)
  · obtain ⟨a, b⟩ := hnz r c h0
    obtain ⟨a', b'⟩ := hnz r' c (by rw [← e]; exact h0)
    rcases Nat.lt_trichotomy r r' with h3 | h3 | h3
    · exact absurd (by omega) (h.2 r r' h3 a'.1 c a.2)
    · exact h3
    · exact absurd (by omega) (h.2 r' r h3 a.1 c a.2)
theorem sq_out {X : Bd} (h : SQ n X) {r c : Nat} (hrc : ¬ (r < n ∧ c < n)) : X r c = 0 := by
  apply Classical.byContradiction
  intro h0
  have := h.1.2.2.1 r c h0
  exact hrc ⟨this.1, this.2.1⟩
theorem sq_ch (h1 : 2 ≤ n) (h5 : n ≤ 5) {X : Bd} (h : SQ n X) : ∃ ch : Nat → Nat, GOODc n ch n ∧ X = bdC n ch := by
  have hp : ∀ r, r < n → PM n (fun c => sg X r c) := fun r hr => ⟨fun c hc => h.lt hr hc, fun c c' hc hc' e => h.inj_r hr hc hc' e⟩
  have hq : ∀ r, r < n → ∀ c, c < n → cp (nmN n (fun c => sg X r c)) c = sg X r c := fun r hr => (cp_sur h1 h5 (hp r hr)).2
  refine ⟨fun r => nmN n (fun c => sg X r c), ⟨fun i hi => (cp_sur h1 h5 (hp i hi)).1, fun i j hij hj c hc e => ?_⟩, ?_⟩
  · have e : cp (nmN n (fun c => sg X i c)) c = cp (nmN n (fun c => sg X j c)) c := e
    rw [hq i (by omega) c hc, hq j hj c hc] at e
    have := h.inj_c (show i < n by omega) hj hc e
    omega
  · funext r c
    by_cases hb : r < n ∧ c < n
    · have h0 := h.2 r c hb.1 hb.2
      show X r c = if r < n ∧ c < n then cp (nmN n (fun c => sg X r c)) c + 1 else 0
      rw [if_pos hb, hq r hb.1 c hb.2]
      unfold sg
      omega
    · rw [sq_out h hb]
      unfold bdC
      rw [if_neg hb]
theorem nC_one {B : Bd} (hw : Wf n B) (hS : SQ n S) (he : extB B S) : nC n B = 1 ↔ ∀ X, SQ n X → extB B X → X = S := by
  have hm : S ∈ comps n B := (mem_comps hw).mpr ⟨hS, he⟩
  unfold nC
  constructor
  · intro h X hX hXe
    have hX' : X ∈ comps n B := (mem_comps hw).mpr ⟨hX, hXe⟩
    obtain ⟨Y, hY⟩ := List.length_eq_one_iff.mp h
    rw [hY] at hm hX'
    rw [List.mem_singleton.mp hm, List.mem_singleton.mp hX']
  · intro h
    have a := len_sub (comps n B) [S] (nodup_comps hw) (fun X hX => by
      obtain ⟨p, q⟩ := (mem_comps hw).mp hX
      exact List.mem_singleton.mpr (h X p q))
    have a : (comps n B).length ≤ 1 := a
    have b := List.length_pos_of_mem hm
    omega
theorem i32_ne0 {x : Int32} (h : x ≠ 0) : ∃ k, k < 32 ∧ bt x k = true := by
  apply Classical.byContradiction
  intro hno
  apply h
  apply bt_ext
  intro k hk
  rw [bt_0]
  apply Bool.eq_false_iff.mpr
  intro ht
  exact hno ⟨k, hk, ht⟩
theorem crit_iff (h1 : 2 ≤ n) (h4 : n ≤ 4) (hS : SQ n S) {G : List Int32} {ch0 : Nat → Nat} (hG : ∀ t, t ∈ G ↔ MemG n S ch0 0 t) (s : Nat) : (∀ t, t ∈ G → t ≠ 0 → t &&& nI s ≠ 0) ↔ nC n (rsB n S s) = 1 := by
  have h5 : n ≤ 5 := by omega
  have hw : Wf n (rsB n S s) := rsB_sub.wf hS.1
  have he : extB (rsB n S s) S := fun r c h0 => ((rsB_sub r c).resolve_right h0).symm
  rw [nC_one hw hS he]
  constructor
  · intro h X hX hXe
    apply Classical.byContradiction
    intro hne
    obtain ⟨ch, hgood, hXc⟩ := sq_ch h1 h5 hX
    have hz : ∀ k, k < 32 → bt (nI (ofB (fun k => dB (∃ r c, r < n ∧ c < n ∧ k = n * r + c ∧ sg S r c ≠ cp (ch r) c)) 32)) k = dB (∃ r c, r < n ∧ c < n ∧ k = n * r + c ∧ sg S r c ≠ cp (ch r) c) := by
      intro k hk
      rw [bt_nI hk, ofB_bt, decide_eq_true hk, Bool.true_and]
    generalize nI (ofB (fun k => dB (∃ r c, r < n ∧ c < n ∧ k = n * r + c ∧ sg S r c ≠ cp (ch r) c)) 32) = t at hz
    have htG : t ∈ G := (hG t).mpr ⟨ch, fun i hi => by omega, hgood, hz⟩
    have hdiff : ∃ r c, r < n ∧ c < n ∧ sg S r c ≠ cp (ch r) c := by
      apply Classical.byContradiction
      intro hno
      apply hne
      funext r c
      by_cases hb : r < n ∧ c < n
      · have h0 := hS.2 r c hb.1 hb.2
        have hs : sg S r c = cp (ch r) c := Classical.byContradiction (fun h => hno ⟨r, c, hb.1, hb.2, h⟩)
        rw [hXc]
        unfold bdC
        rw [if_pos hb, ← hs]
        unfold sg
        omega
      · rw [sq_out hX hb, sq_out hS hb]
    obtain ⟨r, c, hr, hc, hd⟩ := hdiff
    have hi := ix25 h5 hr hc
    have ht0 : t ≠ 0 := by
      intro e
      have h2 := hz (n * r + c) (by omega)
      rw [e, bt_0, dB_t ⟨r, c, hr, hc, rfl, hd⟩] at h2
      cases h2
    obtain ⟨k, hk, hb⟩ := i32_ne0 (h t htG ht0)
    rw [bt_and, hz k hk, bt_nI hk, Bool.and_eq_true] at hb
    obtain ⟨r', c', hr', hc', ek, hd'⟩ := dB_iff.mp hb.1
    have h0 := hS.2 r' c' hr' hc'
    have hrs : rsB n S s r' c' = S r' c' := by
      unfold rsB
      rw [if_pos ⟨⟨hr', hc'⟩, by rw [← ek]; exact hb.2⟩]
    have hX2 := hXe r' c' (by rw [hrs]; exact h0)
    rw [hrs, hXc] at hX2
    unfold bdC at hX2
    rw [if_pos ⟨hr', hc'⟩] at hX2
    apply hd'
    unfold sg
    omega
  · intro h t ht h0 hand
    obtain ⟨ch, _, hgood, htr⟩ := (hG t).mp ht
    have hX := bdC_sq h1 h5 hgood
    have hbit : ∀ r c, r < n → c < n → s.testBit (n * r + c) = true → sg S r c = cp (ch r) c := by
      intro r c hr hc hb
      apply Classical.byContradiction
      intro hd
      have hi := ix25 h5 hr hc
      have h2 : bt (t &&& nI s) (n * r + c) = true := by
        rw [bt_and, htr _ (by omega), dB_t ⟨r, c, hr, hc, rfl, hd⟩, bt_nI (by omega), hb]; rfl
      rw [hand, bt_0] at h2
      cases h2
    have hext : extB (rsB n S s) (bdC n ch) := by
      intro r c hne
      unfold rsB at hne ⊢
      by_cases hc : (r < n ∧ c < n) ∧ s.testBit (n * r + c) = true
      · rw [if_pos hc]
        have h2 := hbit r c hc.1.1 hc.1.2 hc.2
        have h3 := hS.2 r c hc.1.1 hc.1.2
        unfold bdC
        rw [if_pos hc.1, ← h2]
        unfold sg
        omega
      · rw [if_neg hc] at hne; exact absurd rfl hne
    have hXS := h _ hX hext
    apply h0
    apply bt_ext
    intro k hk
    rw [htr k hk, bt_0, dB_f]
    rintro ⟨r, c, hr, hc, _, hd⟩
    apply hd
    have h3 : bdC n ch r c = S r c := by rw [hXS]
    unfold bdC at h3
    rw [if_pos ⟨hr, hc⟩] at h3
    unfold sg
    omega
end CR
theorem KV_meet {K T : List Int32} (kv : KVt K T) (c : Int32) : (∀ x, x ∈ K → x &&& c ≠ 0) ↔ ∀ t, t ∈ T → t ≠ 0 → t &&& c ≠ 0 := by
  constructor
  · intro h t ht h0 hz
    obtain ⟨x, hx, hs⟩ := kv.2.2.1 t ht h0
    apply h x hx
    apply bt_ext
    intro k hk
    rw [bt_and, bt_0]
    cases hb : bt x k
    · rfl
    · have h2 : bt (t &&& c) k = false := by rw [hz, bt_0]
      rw [bt_and, sbs_iff.mp hs k hk hb] at h2
      exact h2
  · intro h x hx
    obtain ⟨a, b⟩ := kv.2.1 x hx
    exact h x b a
/-- bits of s from a on, below b -/
def PCb (s a : Nat) : Nat → Nat
  | 0 => 0
  | b + 1 => PCb s a b + if a ≤ b ∧ s.testBit b = true then 1 else 0
section PCS
variable {s a : Nat}
theorem PC_z : ∀ b, (∀ i, a ≤ i → i < b → s.testBit i = false) → PCb s a b = 0 := by
  intro b
  induction b with
  | zero => intro _; rfl
  | succ b ih =>
    intro h
    rw [PCb, ih (fun i h1 h2 => h i h1 (by omega)), if_neg]
    rintro ⟨h1, h2⟩
    rw [h b h1 (by omega)] at h2; cases h2
theorem PC_0 : ∀ b, PCb s a b = 0 → ∀ i, a ≤ i → i < b → s.testBit i = false := by
  intro b
  induction b with
  | zero => intro _ i _ h; omega
  | succ b ih =>
    intro h i h1 h2
    rw [PCb] at h
    by_cases e : i = b
    · subst e
      apply Bool.eq_false_iff.mpr
      intro ht
      rw [if_pos ⟨h1, ht⟩] at h
      omega
    · exact ih (by omega) i h1 (by omega)
theorem PC_split {i : Nat} (hi : a ≤ i) (h0 : ∀ j, a ≤ j → j < i → s.testBit j = false) (h1 : s.testBit i = true) : ∀ b, i < b → PCb s a b = 1 + PCb s (i + 1) b := by
  intro b
  induction b with
  | zero => intro h; omega
  | succ b ih =>
    intro h
    rw [PCb, PCb]
    by_cases e : b = i
    · subst e
      rw [PC_z b h0, PC_z b (fun j h2 h3 => by omega), if_pos ⟨hi, h1⟩, if_neg (fun h => by omega)]
    · rw [ih (by omega)]
      by_cases hb : s.testBit b = true
      · rw [if_pos ⟨by omega, hb⟩, if_pos ⟨by omega, hb⟩]; omega
      · rw [if_neg (fun h => hb h.2), if_neg (fun h => hb h.2)]; rfl
theorem PC_ext : ∀ b d, (∀ i, b ≤ i → i < b + d → s.testBit i = false) → PCb s a (b + d) = PCb s a b := by
  intro b d
  induction d with
  | zero => intro _; rfl
  | succ d ih =>
    intro h
    rw [← Nat.add_assoc, PCb, ih (fun i h1 h2 => h i h1 (by omega)), if_neg, Nat.add_zero]
    rintro ⟨_, h2⟩
    rw [h (b + d) (by omega) (by omega)] at h2; cases h2
theorem PC_le : ∀ b, PCb s a b ≤ b := by
  intro b
  induction b with
  | zero => exact Nat.le_refl _
  | succ b ih => rw [PCb]; split <;> omega
end PCS
def SMx (cells from_ c left : Nat) (Q : Nat → Prop) : Prop := ∃ s, s < 2 ^ cells ∧ (∀ i, i < from_ → s.testBit i = c.testBit i) ∧ PCb s from_ cells = left ∧ Q s
theorem lt_pow {s k : Nat} (h : ∀ i, k ≤ i → s.testBit i = false) : s < 2 ^ k := Nat.lt_pow_two_of_testBit s (fun i hi => h i hi)
theorem SM_zero {cells from_ c : Nat} {Q : Nat → Prop} (hf : from_ ≤ cells) (hc : ∀ i, from_ ≤ i → c.testBit i = false) : SMx cells from_ c 0 Q ↔ Q c := by
  constructor
  · rintro ⟨s, h1, h2, h3, h4⟩
    have e : s = c := by
      apply Nat.eq_of_testBit_eq
      intro i
      by_cases hi : i < from_
      · exact h2 i hi
      · rw [hc i (by omega)]
        by_cases hi2 : i < cells
        · exact PC_0 cells h3 i (by omega) hi2
        · exact Nat.testBit_lt_two_pow (Nat.lt_of_lt_of_le h1 (Nat.pow_le_pow_right (by omega) (by omega)))
    rw [← e]; exact h4
  · intro h
    exact ⟨c, lt_pow (fun i hi => hc i (by omega)), fun _ _ => rfl, PC_z cells (fun i h1 _ => hc i h1), h⟩
theorem pow_bt (k i : Nat) : (2 ^ k).testBit i = decide (k = i) := Nat.testBit_two_pow
theorem SM_succ {cells from_ c left : Nat} {Q : Nat → Prop} (hc : ∀ i, from_ ≤ i → c.testBit i = false) : SMx cells from_ c (left + 1) Q ↔ ∃ i, from_ ≤ i ∧ i < cells ∧ SMx cells (i + 1) (c ||| 2 ^ i) left Q := by
  constructor
  · rintro ⟨s, h1, h2, h3, h4⟩
    have hex : ∃ i, i < cells ∧ from_ ≤ i ∧ s.testBit i = true := by
      apply Classical.byContradiction
      intro hno
      have := PC_z (s := s) (a := from_) cells (fun i a b => Bool.eq_false_iff.mpr (fun h => hno ⟨i, b, a, h⟩))
      omega
    obtain ⟨i, a, ⟨b, b'⟩, d⟩ := min_ex (p := fun i => from_ ≤ i ∧ s.testBit i = true) cells hex
    have d' : ∀ j, from_ ≤ j → j < i → s.testBit j = false := fun j hj hji => Bool.eq_false_iff.mpr (fun h => d j hji ⟨hj, h⟩)
    have hsp := PC_split b d' b' cells a
    refine ⟨i, b, a, s, h1, fun j hj => ?_, by omega, h4⟩
    rw [Nat.testBit_or, pow_bt]
    by_cases e : j < from_
    · rw [h2 j e, decide_eq_false (by omega), Bool.or_false]
    · rw [hc j (by omega), Bool.false_or]
      by_cases e2 : j = i
      · rw [e2, b', decide_eq_true rfl]
      · rw [d' j (by omega) (by omega), decide_eq_false (by omega)]
  · rintro ⟨i, a, b, s, h1, h2, h3, h4⟩
    have hb : ∀ j, j < i + 1 → s.testBit j = (c.testBit j || decide (i = j)) := fun j hj => by rw [h2 j hj, Nat.testBit_or, pow_bt]
    refine ⟨s, h1, fun j hj => by rw [hb j (by omega), decide_eq_false (by omega), Bool.or_false], ?_, h4⟩
    rw [PC_split a (fun j h5 h6 => by rw [hb j (by omega), hc j h5, decide_eq_false (by omega)]; rfl) (by rw [hb i (by omega), decide_eq_true rfl, Bool.or_true]) cells b]
    omega
/-! critical, the class -/
section CC
variable {σ : St} {K : List Int32}
def MQt (K : List Int32) (s : Nat) : Prop := ∀ x, x ∈ K → x &&& nI s ≠ 0
theorem meets_ok (l : LsT σ K) (hK : K.length ≤ 576) (s : Nat) : f_Telling_meetsAll σ (nI s) = some (bI (dB (MQt K s))) := by
  unfold f_Telling_meetsAll
  have A := loop_all (fun f i => f_Telling_meetsAll_L2 (nI s) σ f (nI i)) K.length (fun i => ∀ x, K[i]? = some x → x &&& nI s ≠ 0) (some 0) (some 1) (by omega)
    (fun f i hi hp => by
      obtain ⟨y, hy⟩ : ∃ y, K[i]? = some y := ⟨_, List.getElem?_eq_getElem hi⟩
      show f_Telling_meetsAll_L2 (nI s) σ (f + 1) (nI i) = _
      rw [f_Telling_meetsAll_L2.eq_2]
      rw [l.2, if_pos (nI_lt hi (by omega)), if_pos (show nI i < 576 from nI_lt (show i < 576 by omega) (by decide)), ald_nI (by omega) (by decide), l.1 i y hy, if_neg (hp y hy), nI_1])
    (fun f i hi hp => by
      obtain ⟨y, hy⟩ : ∃ y, K[i]? = some y := ⟨_, List.getElem?_eq_getElem hi⟩
      have h0 : y &&& nI s = 0 := by
        apply Classical.byContradiction
        intro h
        apply hp
        intro x hx
        rw [hy] at hx
        rw [← Option.some.inj hx]; exact h
      show f_Telling_meetsAll_L2 (nI s) σ (f + 1) (nI i) = _
      rw [f_Telling_meetsAll_L2.eq_2]
      rw [l.2, if_pos (nI_lt hi (by omega)), if_pos (show nI i < 576 from nI_lt (show i < 576 by omega) (by decide)), ald_nI (by omega) (by decide), l.1 i y hy, if_pos h0])
    (fun f => by
      show f_Telling_meetsAll_L2 (nI s) σ (f + 1) (nI K.length) = _
      rw [f_Telling_meetsAll_L2.eq_2]
      rw [l.2, if_neg (nI_nlt (Nat.le_refl _) (by omega))])
  refine Eq.trans A ?_
  have e : (∀ i, i < K.length → ∀ x, K[i]? = some x → x &&& nI s ≠ 0) ↔ MQt K s := by
    constructor
    · intro h x hx
      obtain ⟨i, hi⟩ := List.mem_iff_getElem?.mp hx
      obtain ⟨hl, _⟩ := List.getElem?_eq_some_iff.mp hi
      exact h i hl x hi
    · intro h i _ x hx
      exact h x (List.mem_iff_getElem?.mpr ⟨i, hx⟩)
  rw [dB_cong e]
  cases dB (MQt K s) <;> rfl
theorem nI_pow {k : Nat} (hk : k < 31) : (1 : Int32) <<< (nI k &&& 31) = nI (2 ^ k) := bt_ext (fun i hi => by rw [bt_one (by omega), bt_nI hi, pow_bt, decide_eq_decide]; omega)
theorem someMeet_ok (l : LsT σ K) (hK : K.length ≤ 576) {cells : Nat} (hc : cells ≤ 16) : ∀ (d left from_ c : Nat), left < d → from_ ≤ cells → left < 1000 → (∀ i, from_ ≤ i → c.testBit i = false) → f_Telling_someMeet d σ (nI cells) (nI from_) (nI c) (nI left) = some (bI (dB (SMx cells from_ c left (MQt K)))) := by
  intro d
  induction d with
  | zero => intro left from_ c h; omega
  | succ d ih =>
    intro left from_ c hd hf hl hz
    show fb_Telling_someMeet (f_Telling_someMeet d) σ (nI cells) (nI from_) (nI c) (nI left) = _
    unfold fb_Telling_someMeet
    match left, hd, hl with
    | 0, _, _ =>
      rw [if_pos (show nI 0 ≤ 0 by decide), meets_ok l hK, cap_some, zb_bI, dB_cong (SM_zero hf hz)]
    | left + 1, hd, hl =>
      rw [if_neg (show ¬ nI (left + 1) ≤ 0 from nI_ge (a := 0) (by omega) (by omega)), dB_cong (SM_succ hz)]
      refine loopE (fun f i (_ : Unit) => f_Telling_someMeet_L14 (f_Telling_someMeet d) (nI cells) (nI c) (nI (left + 1)) σ f (nI i)) cells
        (fun i _ => from_ ≤ i ∧ ∀ i', from_ ≤ i' → i' < i → ¬ SMx cells (i' + 1) (c ||| 2 ^ i') left (MQt K))
        (fun R => R = some (bI (dB (∃ i, from_ ≤ i ∧ i < cells ∧ SMx cells (i + 1) (c ||| 2 ^ i) left (MQt K))))) ?_ ?_ FU from_ () hf (FU_gt (by omega)) ⟨Nat.le_refl _, fun i' h1 h2 => by omega⟩
      · rintro f i _ hi ⟨p0, p1⟩
        have hz' : ∀ j, i + 1 ≤ j → (c ||| 2 ^ i).testBit j = false := fun j hj => by
          rw [Nat.testBit_or, pow_bt, hz j (by omega), decide_eq_false (by omega)]; rfl
        have e := ih left (i + 1) (c ||| 2 ^ i) (by omega) (by omega) (by omega) hz'
        have key : f_Telling_someMeet_L14 (f_Telling_someMeet d) (nI cells) (nI c) (nI (left + 1)) σ (f + 1) (nI i) = if bI (dB (SMx cells (i + 1) (c ||| 2 ^ i) left (MQt K))) = 0 then f_Telling_someMeet_L14 (f_Telling_someMeet d) (nI cells) (nI c) (nI (left + 1)) σ f (nI (i + 1)) else some 1 := by
          rw [f_Telling_someMeet_L14.eq_2]
          rw [if_pos (nI_lt hi (by omega)), nI_pow (by omega), nI_or, nI_pred, nI_1, e, cap_some]
        by_cases hp : SMx cells (i + 1) (c ||| 2 ^ i) left (MQt K)
        · left
          show f_Telling_someMeet_L14 (f_Telling_someMeet d) (nI cells) (nI c) (nI (left + 1)) σ (f + 1) (nI i) = _
          rw [key, dB_t hp, if_neg (by decide), dB_t ⟨i, p0, hi, hp⟩]; rfl
        · right
          refine ⟨(), ?_, by omega, fun i' h1 h2 => ?_⟩
          · show f_Telling_someMeet_L14 (f_Telling_someMeet d) (nI cells) (nI c) (nI (left + 1)) σ (f + 1) (nI i) = _
            rw [key, dB_f hp, if_pos (by rfl)]
          · by_cases e2 : i' = i
            · rw [e2]; exact hp
            · exact p1 i' h1 (by omega)
      · rintro f _ ⟨p0, p1⟩
        show f_Telling_someMeet_L14 (f_Telling_someMeet d) (nI cells) (nI c) (nI (left + 1)) σ (f + 1) (nI cells) = _
        rw [f_Telling_someMeet_L14.eq_2]
        rw [if_neg (nI_nlt (Nat.le_refl _) (by omega)), dB_f]
        · rfl
        · rintro ⟨i, a, b, h⟩
          exact p1 i a b h
end CC
def ANS (e : Nat) (p : Nat → Prop) (v : Nat) : Prop := (v = e ∧ ∀ i, i < e → ¬ p i) ∨ (v < e ∧ p v ∧ ∀ i, i < v → ¬ p i)
theorem ANS_uq {e : Nat} {p : Nat → Prop} {v w : Nat} (h : ANS e p v) (h' : ANS e p w) : v = w := by
  rcases h with ⟨a, b⟩ | ⟨a, b, c⟩
  · rcases h' with ⟨a', b'⟩ | ⟨a', b', c'⟩
    · omega
    · exact absurd b' (b w a')
  · rcases h' with ⟨a', b'⟩ | ⟨a', b', c'⟩
    · exact absurd b (b' v a)
    · rcases Nat.lt_trichotomy v w with h | h | h
      · exact absurd b (c' v h)
      · exact h
      · exact absurd b' (c w h)
theorem ANS_iff {e : Nat} {p q : Nat → Prop} {v : Nat} (h : ANS e p v) (hpq : ∀ i, i < e → (p i ↔ q i)) : ANS e q v := by
  rcases h with ⟨a, b⟩ | ⟨a, b, c⟩
  · exact Or.inl ⟨a, fun i hi h => b i hi ((hpq i hi).mpr h)⟩
  · exact Or.inr ⟨a, (hpq v a).mp b, fun i hi h => c i hi ((hpq i (by omega)).mpr h)⟩
def CRT (n : Nat) (S : Bd) (size : Nat) : Prop := ∃ s, s < 2 ^ (n * n) ∧ PCb s 0 (n * n) = size ∧ nC n (rsB n S s) = 1
theorem fewest_ok {σ : St} {k n : Nat} {S : Bd} (mt : MT σ) (hG : GOK σ k n S) (hs : SQ n S) (h4 : n ≤ 4) (hk : 33 < k) : ∃ τ v, f_Telling_fewestCells σ k = some (nI v, τ) ∧ ANS (n * n) (CRT n S) v ∧ FrT σ τ := by
  have hn := hG.le
  have h16 : n * n ≤ 4 * 4 := Nat.mul_le_mul h4 h4
  have kv0 : KVt [] [] := ⟨List.Pairwise.nil, fun x hx => (by cases hx), fun t ht => (by cases ht), Nat.le_refl _⟩
  have fr0 : FrT σ (wr σ 16 2 0) := fun m s h1 h2 => by rw [wr_get, if_neg h1]
  have mt0 : MT (wr σ 16 2 0) := fun m hm => ⟨fun i hi => by rw [wr_fn (by omega)]; exact (mt m hm).1 i hi, by rw [wr_fn (by omega)]; exact (mt m hm).2⟩
  have hG0 : GOK (wr σ 16 2 0) k n S := hG.frame (fun m a b => wr_fn (by omega))
  obtain ⟨τ, G, K, e, l, kv, hlen, hmem, fr⟩ := gather_ok hn.1 h4 hk hs DP n 0 (wr σ 16 2 0) (fun _ => 0) 0 [] [] (by omega) (by show n < 40; omega) mt0 hG0 ⟨fun i x h => (by cases h), wr_at⟩ kv0 ⟨fun i hi => (by omega), fun i j h1 h2 => (by omega)⟩ (fun i hi => by rw [bt_0, dB_f (fun ⟨r, c, h, _⟩ => by omega)]) (by
    show 0 + cG n n 0 ≤ 576
    rw [Nat.zero_add]; exact cG_le hn.1 h4)
  rw [List.nil_append] at kv
  have e : f_Telling_gather DP (wr σ 16 2 0) k 0 0 0 = some ((), τ) := e
  have hK : K.length ≤ 576 := by
    have h1 := kv.2.2.2
    have h2 := cG_le hn.1 h4
    have hlen : G.length = cG n n 0 := hlen
    omega
  have hord : τ k 3 = nI n := by rw [fr k 3 (by omega) (by omega)]; exact hG0.ord
  have hiff : ∀ size, SMx (n * n) 0 0 size (MQt K) ↔ CRT n S size := by
    intro size
    have hQ : ∀ s, MQt K s ↔ nC n (rsB n S s) = 1 := fun s => (KV_meet kv (nI s)).trans (crit_iff hn.1 h4 hs hmem s)
    constructor
    · rintro ⟨s, a, _, b, c⟩; exact ⟨s, a, b, (hQ s).mp c⟩
    · rintro ⟨s, a, b, c⟩; exact ⟨s, a, fun i hi => by omega, b, (hQ s).mpr c⟩
  have hsm : ∀ i, i < n * n → f_Telling_someMeet DP τ (nI (n * n)) 0 0 (nI i) = some (bI (dB (CRT n S i))) := by
    intro i hi
    have := someMeet_ok l hK (show n * n ≤ 16 by omega) DP i 0 0 (by show i < 40; omega) (by omega) (by omega) (fun j _ => Nat.zero_testBit j)
    rw [dB_cong (hiff i)] at this
    exact this
  have A := loop_find (fun f i => f_Telling_fewestCells_L25 (nI (n * n)) τ (fun (v3_8 : Int32) => some (v3_8, τ)) (some (nI (n * n), τ)) f (nI i)) (n * n) (fun i => ¬ CRT n S i) (fun i => some (nI i, τ)) (some (nI (n * n), τ)) (by omega)
    (fun f i hi hp => by
      show f_Telling_fewestCells_L25 (nI (n * n)) τ _ _ (f + 1) (nI i) = _
      rw [f_Telling_fewestCells_L25.eq_2]
      rw [if_pos (nI_lt hi (by omega)), hsm i hi, cap_some, dB_f hp, if_pos (show bI false = 0 from rfl), nI_1])
    (fun f i hi hp => by
      show f_Telling_fewestCells_L25 (nI (n * n)) τ _ _ (f + 1) (nI i) = _
      rw [f_Telling_fewestCells_L25.eq_2]
      rw [if_pos (nI_lt hi (by omega)), hsm i hi, cap_some, dB_t (Classical.byContradiction hp), if_neg (show ¬ bI true = 0 by decide)])
    (fun f => by
      show f_Telling_fewestCells_L25 (nI (n * n)) τ _ _ (f + 1) (nI (n * n)) = _
      rw [f_Telling_fewestCells_L25.eq_2]
      rw [if_neg (nI_nlt (Nat.le_refl _) (by omega))])
  have q : f_Telling_fewestCells σ k = f_Telling_fewestCells_L25 (nI (n * n)) τ (fun (v3_8 : Int32) => some (v3_8, τ)) (some (nI (n * n), τ)) FU 0 := by
    unfold f_Telling_fewestCells
    rw [hG.ord, lt1_eq, sto_eq, e, cal_some, nI_mul]
  rcases A with ⟨a, b⟩ | ⟨i, hi, a, b, c⟩
  · exact ⟨τ, n * n, q.trans b, Or.inl ⟨rfl, a⟩, fr0.trans fr⟩
  · exact ⟨τ, i, q.trans c, Or.inr ⟨hi, Classical.byContradiction a, b⟩, fr0.trans fr⟩
