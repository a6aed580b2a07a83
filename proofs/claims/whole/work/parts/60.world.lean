/-! the two worlds, and what is owed of an operation -/
/-- insert v at p into the row f -/
def insA (f : Nat → Nat) (p v : Nat) : Nat → Nat := fun i => if i < p then f i else if i = p then v else f (i - 1)
/-- the class's map m -/
def cp (m : Nat) : Nat → Nat :=
  let f0 : Nat → Nat := fun _ => 0
  let f1 := insA f0 (1 - m % 2) 1
  let f2 := insA f1 (2 - m / 2 % 3) 2
  let f3 := insA f2 (3 - m / 6 % 4) 3
  insA f3 (4 - m / 24 % 5) 4
def cpm (m : Nat) : Nat := 2 ^ (cp m 0) + 2 ^ (5 + cp m 1) + 2 ^ (10 + cp m 2) + 2 ^ (15 + cp m 3) + 2 ^ (20 + cp m 4)
def facN : Nat → Nat
  | 0 => 1
  | a + 1 => (a + 1) * facN a
/-- the reference's map m of the order a: the m-th in the dictionary's order -/
def lpf : Nat → List Nat → Nat → Nat → Nat
  | 0, _, _, _ => 0
  | a + 1, l, m, i => match i with
    | 0 => l.getD (m / facN a) 0
    | i + 1 => lpf a (l.eraseIdx (m / facN a)) (m % facN a) i
def lp (a m i : Nat) : Nat := lpf a (List.range a) m i
def MT (σ : St) : Prop := ∀ m, m < 120 → (∀ i, i < 5 → σ 7 (5 * m + i) = nI (cp m i)) ∧ σ 8 m = nI (cpm m)
def CA (σ : St) : Prop := ∃ a, σ 82 9 = nI a ∧ (a = 0 ∨ (2 ≤ a ∧ a ≤ 5 ∧ σ 82 10 = nI (facN a) ∧ ∀ m i, m < facN a → i < a → σ 89 (5 * m + i) = nI (lp a m i)))
def CW (σ : St) (M : Nat) (N : Nat → Nat) (B : Nat → Nat → Nat → Nat) : Prop := M ≤ 12 ∧ σ 0 8 = nI M ∧ ∀ j, j < M → GOK σ (gid j) (N j) (B j)
def MW (σ : St) (M : Nat) (N : Nat → Nat) (B : Nat → Nat → Nat → Nat) : Prop := (M ≤ 12 ∧ ∀ j, j < M → Wf (N j) (B j)) ∧ σ 82 1 = nI M ∧ (∀ j, j < M → σ 83 j = nI (N j)) ∧ ∀ j r c, j < M → r < N j → c < N j → σ 84 (25 * j + N j * r + c) = ce (B j r c)
def isCh (x : Nat) : Prop := x = 40 ∨ x = 41 ∨ x = 61 ∨ x = 120 ∨ x = 121 ∨ x = 122
def CT (σ : St) (t : Nat) (ch : Nat → Nat) : Prop := t ≤ 40 ∧ σ 10 3 = nI t ∧ (∀ i, i < t → σ 11 i = nI (ch i)) ∧ ∀ i, i < t → isCh (ch i)
def MC (σ : St) (t : Nat) (ch : Nat → Nat) : Prop := t ≤ 40 ∧ σ 82 4 = nI t ∧ (∀ i, i < t → σ 85 i = nI (ch i)) ∧ ∀ i, i < t → isCh (ch i)
def Inv (σ : St) : Prop := ∃ M N B t ch, CW σ M N B ∧ MW σ M N B ∧ CT σ t ch ∧ MC σ t ch ∧ MT σ ∧ CA σ
/-- the class's scratch -/
def scr (m : Nat) : Prop := (2 ≤ m ∧ m ≤ 6) ∨ m = 9 ∨ (12 ≤ m ∧ m ≤ 33)
def FrC (σ σ' : St) : Prop := ∀ m, ¬ scr m → σ' m = σ m
def FrM (σ σ' : St) : Prop := (∀ m, m < 82 ∨ m = 83 ∨ m = 84 ∨ m = 85 ∨ m = 103 → σ' m = σ m) ∧ σ' 82 1 = σ 82 1 ∧ σ' 82 4 = σ 82 4
theorem FrC.refl (σ : St) : FrC σ σ := fun _ _ => rfl
theorem FrC.trans {a b c : St} (h : FrC a b) (h2 : FrC b c) : FrC a c := fun m hm => (h2 m hm).trans (h m hm)
theorem FrM.refl (σ : St) : FrM σ σ := ⟨fun _ _ => rfl, rfl, rfl⟩
theorem FrM.trans {a b c : St} (h : FrM a b) (h2 : FrM b c) : FrM a c := ⟨fun m hm => (h2.1 m hm).trans (h.1 m hm), h2.2.1.trans h.2.1, h2.2.2.trans h.2.2⟩
theorem CW.fr {σ σ' : St} {M : Nat} {N : Nat → Nat} {B : Nat → Nat → Nat → Nat} (h : CW σ M N B) (hf : FrC σ σ') : CW σ' M N B := by
  obtain ⟨h1, h2, h3⟩ := h
  refine ⟨h1, ?_, fun j hj => (h3 j hj).frame (fun m a b => ?_)⟩
  · rw [hf 0 (by unfold scr; omega)]; exact h2
  · unfold gid at a b
    exact hf m (by unfold scr; omega)
theorem CT.fr {σ σ' : St} {t : Nat} {ch : Nat → Nat} (h : CT σ t ch) (hf : FrC σ σ') : CT σ' t ch := by
  obtain ⟨h1, h2, h3, h4⟩ := h
  refine ⟨h1, ?_, fun i hi => ?_, h4⟩
  · rw [hf 10 (by unfold scr; omega)]; exact h2
  · rw [hf 11 (by unfold scr; omega)]; exact h3 i hi
theorem MT.fr {σ σ' : St} (h : MT σ) (hf : FrC σ σ') : MT σ' := by
  intro m hm
  rw [hf 7 (by unfold scr; omega), hf 8 (by unfold scr; omega)]
  exact h m hm
theorem MW.fr {σ σ' : St} {M : Nat} {N : Nat → Nat} {B : Nat → Nat → Nat → Nat} (h : MW σ M N B) (hf : FrM σ σ') : MW σ' M N B := by
  obtain ⟨h1, h2, h3, h4⟩ := h
  refine ⟨h1, ?_, fun j hj => ?_, fun j r c hj hr hc => ?_⟩
  · rw [hf.2.1]; exact h2
  · rw [hf.1 83 (by omega)]; exact h3 j hj
  · rw [hf.1 84 (by omega)]; exact h4 j r c hj hr hc
theorem MC.fr {σ σ' : St} {t : Nat} {ch : Nat → Nat} (h : MC σ t ch) (hf : FrM σ σ') : MC σ' t ch := by
  obtain ⟨h1, h2, h3, h4⟩ := h
  refine ⟨h1, ?_, fun i hi => ?_, h4⟩
  · rw [hf.2.2]; exact h2
  · rw [hf.1 85 (by omega)]; exact h3 i hi
theorem CA.fr {σ σ' : St} (h : CA σ) (h1 : σ' 82 9 = σ 82 9) (h2 : σ' 82 10 = σ 82 10) (h3 : σ' 89 = σ 89) : CA σ' := by
  unfold CA at *
  rw [h1, h2, h3]
  exact h
def Agr (cd : Nat → Option Int32) (q : Except Nat Int32) (b9 k : Int32) : Prop := match q with
  | .ok v => k = 0 ∧ b9 = v
  | .error e => cd e = some k ∧ k ≠ 0
theorem op_all {cd : Nat → Option Int32} {Q : St → Option (Except Nat Int32 × St)} {R : St → Option (Int32 × St)} {σ : St} (hI : Inv σ)
    (h : ∀ M N B t ch, CW σ M N B → MW σ M N B → CT σ t ch → MC σ t ch → MT σ → CA σ → ∃ q σ' M' N' B' t' ch', Q σ = some (q, σ') ∧ CW σ' M' N' B' ∧ CT σ' t' ch' ∧ MT σ' ∧ (∀ m, 82 ≤ m → σ' m = σ m) ∧
      ∀ σ1, MW σ1 M N B → MC σ1 t ch → CA σ1 → ∃ b9 σ2, R σ1 = some (b9, σ2) ∧ (∀ m, m < 82 ∨ m = 103 → σ2 m = σ1 m) ∧ MW σ2 M' N' B' ∧ MC σ2 t' ch' ∧ CA σ2 ∧ Agr cd q b9 (σ2 82 0)) :
    ∃ (k b9 : Int32) (σ1 σ2 : St), wv cd (Q σ) = some (k, σ1) ∧ R σ1 = some (b9, σ2) ∧ σ2 82 0 = k ∧ (k = 0 → σ2 103 0 = b9) ∧ Inv σ2 := by
  obtain ⟨M, N, B, t, ch, c1, c2, c3, c4, c5, c6⟩ := hI
  obtain ⟨q, σ', M', N', B', t', ch', e, d1, d2, d3, d4, d5⟩ := h M N B t ch c1 c2 c3 c4 c5 c6
  have key : ∀ σ1 : St, (∀ m, m ≠ 103 → σ1 m = σ' m) → ∃ b9 σ2, R σ1 = some (b9, σ2) ∧ Agr cd q b9 (σ2 82 0) ∧ σ2 103 = σ1 103 ∧ Inv σ2 := by
    intro σ1 hs
    have hm : ∀ m, 82 ≤ m → m ≠ 103 → σ1 m = σ m := fun m h1 h2 => (hs m h2).trans (d4 m h1)
    have m1 : MW σ1 M N B := by
      obtain ⟨h1, h2, h3, h4⟩ := c2
      refine ⟨h1, ?_, ?_, ?_⟩
      · rw [hm 82 (by omega) (by omega)]; exact h2
      · rw [hm 83 (by omega) (by omega)]; exact h3
      · rw [hm 84 (by omega) (by omega)]; exact h4
    have m2 : MC σ1 t ch := by
      obtain ⟨h1, h2, h3, h4⟩ := c4
      refine ⟨h1, ?_, ?_, h4⟩
      · rw [hm 82 (by omega) (by omega)]; exact h2
      · rw [hm 85 (by omega) (by omega)]; exact h3
    have m3 : CA σ1 := c6.fr (by rw [hm 82 (by omega) (by omega)]) (by rw [hm 82 (by omega) (by omega)]) (hm 89 (by omega) (by omega))
    obtain ⟨b9, σ2, r1, r2, r3, r4, r5, r6⟩ := d5 σ1 m1 m2 m3
    have hlow : ∀ m, m < 82 → σ2 m = σ' m := fun m hm2 => (r2 m (Or.inl hm2)).trans (hs m (by omega))
    refine ⟨b9, σ2, r1, r6, r2 103 (Or.inr rfl), M', N', B', t', ch', ?_, r3, ?_, r4, ?_, r5⟩
    · obtain ⟨h1, h2, h3⟩ := d1
      refine ⟨h1, ?_, fun j hj => (h3 j hj).frame (fun m a b => ?_)⟩
      · rw [hlow 0 (by omega)]; exact h2
      · unfold gid at a b; exact hlow m (by omega)
    · obtain ⟨h1, h2, h3, h4⟩ := d2
      refine ⟨h1, ?_, ?_, h4⟩
      · rw [hlow 10 (by omega)]; exact h2
      · rw [hlow 11 (by omega)]; exact h3
    · intro m hm; rw [hlow 7 (by omega), hlow 8 (by omega)]; exact d3 m hm
  cases q with
  | ok v =>
    obtain ⟨b9, σ2, r1, ⟨r2, r3⟩, r4, r5⟩ := key (wr σ' 103 0 v) (fun m hm => wr_fn hm)
    refine ⟨0, b9, wr σ' 103 0 v, σ2, ?_, r1, r2, fun _ => ?_, r5⟩
    · rw [e]; rfl
    · rw [r4, wr_at, r3]
  | error x =>
    obtain ⟨b9, σ2, r1, ⟨r2, r3⟩, r4, r5⟩ := key σ' (fun m hm => rfl)
    refine ⟨σ2 82 0, b9, σ', σ2, ?_, r1, rfl, fun h0 => absurd h0 r3, r5⟩
    rw [e]
    show (match cd x with | none => none | some k => some (k, σ')) = _
    rw [r2]
theorem op_read {cd : Nat → Option Int32} {Q : St → Option (Except Nat Int32 × St)} {R : St → Option (Int32 × St)} {σ : St} (hI : Inv σ)
    (h : ∀ M N B, CW σ M N B → MT σ → (∃ t ch, CT σ t ch) → ∃ q σ', Q σ = some (q, σ') ∧ FrC σ σ' ∧
      ∀ σ1, MW σ1 M N B → CA σ1 → (∃ t ch, CT σ t ch ∧ MC σ1 t ch) → ∃ b9 σ2, R σ1 = some (b9, σ2) ∧ FrM σ1 σ2 ∧ CA σ2 ∧ Agr cd q b9 (σ2 82 0)) :
    ∃ (k b9 : Int32) (σ1 σ2 : St), wv cd (Q σ) = some (k, σ1) ∧ R σ1 = some (b9, σ2) ∧ σ2 82 0 = k ∧ (k = 0 → σ2 103 0 = b9) ∧ Inv σ2 := by
  refine op_all hI (fun M N B t ch c1 c2 c3 c4 c5 c6 => ?_)
  obtain ⟨q, σ', e, f, g⟩ := h M N B c1 c5 ⟨t, ch, c3⟩
  refine ⟨q, σ', M, N, B, t, ch, e, c1.fr f, c3.fr f, c5.fr f, fun m hm => f m (by unfold scr; omega), fun σ1 m1 m2 m3 => ?_⟩
  obtain ⟨b9, σ2, r1, r2, r3, r4⟩ := g σ1 m1 m3 ⟨t, ch, c3, m2⟩
  exact ⟨b9, σ2, r1, fun m hm => r2.1 m (by omega), m1.fr r2, m2.fr r2, r3, r4⟩
