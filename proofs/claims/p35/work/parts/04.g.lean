/-! The G layer: abstract states (a table of shapes, numbers in them) over the kit's worlds. -/
abbrev St : Type := Nat → Nat → Int32
abbrev LV : Type := List (Option Value)
abbrev Shp : Type := (Nat × List (Option (Option Nat))) ⊕ ((Nat × Nat) ⊕ List (Option Nat))
abbrev Wd : Type := List Shp × (Nat → Nat)
def wr (σ : St) (k j : Nat) (v : Int32) : St := fun a => if a = k then upd (σ k) j v else σ a
def g_fv (ad : Nat → Nat) (f : Nat → Int32) (j : Nat) (o : Option (Option Nat)) : Value := match o with
  | none => .int (f j)
  | some none => .null
  | some (some t) => .ref (ad t)
def g_ent (cA : Nat → ClassId) (ad : Nat → Nat) (f : Nat → Int32) (x : Shp) : va_E := match x with
  | .inl (ci, fl) => .inr (ci, fl.mapIdx (fun j o => g_fv ad f j o))
  | .inr (.inl (kd, n)) => if kd = 2 then .inl (cA 2, n, .inr (.inl fun j => (f j).toInt64)) else .inl (cA kd, n, .inl f)
  | .inr (.inr ts) => .inl (cA 3, ts.length, .inr (.inr (.inr (.inr fun j => (ts.getD j none).map ad))))
def g_ws (cA : Nat → ClassId) (w : Wd) (σ : St) : va_W := w.1.mapIdx (fun k sh => (w.2 k, g_ent cA w.2 (σ k) sh))
theorem wr_same {σ : St} {k j : Nat} {v : Int32} : wr σ k j v k = upd (σ k) j v := by simp [wr]
theorem wr_ne {σ : St} {k j k' : Nat} {v : Int32} (h : k' ≠ k) : wr σ k j v k' = σ k' := by simp [wr, h]
theorem g_get {cA : Nat → ClassId} {w : Wd} {σ : St} {k : Nat} {sh : Shp} (h : w.1[k]? = some sh) : (g_ws cA w σ)[k]? = some (w.2 k, g_ent cA w.2 (σ k) sh) := by
  simp [g_ws, List.getElem?_mapIdx, h]
theorem g_getI {cA : Nat → ClassId} {w : Wd} {σ : St} {k n : Nat} (h : w.1[k]? = some (.inr (.inl (0, n)))) : (g_ws cA w σ)[k]? = some (w.2 k, .inl (cA 0, n, .inl (σ k))) := g_get h
theorem g_getZ {cA : Nat → ClassId} {w : Wd} {σ : St} {k n : Nat} (h : w.1[k]? = some (.inr (.inl (1, n)))) : (g_ws cA w σ)[k]? = some (w.2 k, .inl (cA 1, n, .inl (σ k))) := g_get h
theorem g_getJ {cA : Nat → ClassId} {w : Wd} {σ : St} {k n : Nat} (h : w.1[k]? = some (.inr (.inl (2, n)))) : (g_ws cA w σ)[k]? = some (w.2 k, .inl (cA 2, n, .inr (.inl fun j => (σ k j).toInt64))) := g_get h
theorem g_getQ {cA : Nat → ClassId} {w : Wd} {σ : St} {k : Nat} {ts : List (Option Nat)} (h : w.1[k]? = some (.inr (.inr ts))) : (g_ws cA w σ)[k]? = some (w.2 k, .inl (cA 3, ts.length, .inr (.inr (.inr (.inr fun j => (ts.getD j none).map w.2))))) := g_get h
theorem g_getO {cA : Nat → ClassId} {w : Wd} {σ : St} {k ci : Nat} {fl : List (Option (Option Nat))} (h : w.1[k]? = some (.inl (ci, fl))) : (g_ws cA w σ)[k]? = some (w.2 k, .inr (ci, fl.mapIdx (fun j o => g_fv w.2 (σ k) j o))) := g_get h
theorem g_setAt {cA : Nat → ClassId} {w : Wd} {σ : St} {k j : Nat} {v : Int32} {sh : Shp} {e : va_E} (h : w.1[k]? = some sh) (he : g_ent cA w.2 (upd (σ k) j v) sh = e) : (g_ws cA w σ).set k (w.2 k, e) = g_ws cA w (wr σ k j v) := by
  apply List.ext_getElem?
  intro i
  rw [List.getElem?_set]
  by_cases hi : k = i
  · subst hi
    have hlt : k < (g_ws cA w σ).length := by
      have := g_get (cA := cA) (σ := σ) h
      exact (List.getElem?_eq_some_iff.mp this).1
    rw [if_pos rfl, if_pos hlt, g_get h, wr_same, he]
  · rw [if_neg hi]
    have hw : wr σ k j v i = σ i := wr_ne (Ne.symm hi)
    simp [g_ws, List.getElem?_mapIdx, hw]
theorem g_setI {cA : Nat → ClassId} {w : Wd} {σ : St} {k n i : Nat} {v : Int32} (h : w.1[k]? = some (.inr (.inl (0, n)))) : (g_ws cA w σ).set k (w.2 k, .inl (cA 0, n, .inl (upd (σ k) i v))) = g_ws cA w (wr σ k i v) := g_setAt h rfl
theorem g_setZ {cA : Nat → ClassId} {w : Wd} {σ : St} {k n i : Nat} {v : Int32} (h : w.1[k]? = some (.inr (.inl (1, n)))) : (g_ws cA w σ).set k (w.2 k, .inl (cA 1, n, .inl (upd (σ k) i v))) = g_ws cA w (wr σ k i v) := g_setAt h rfl
theorem g_updL {f : Nat → Int32} {i : Nat} {v : Int32} : (vp_updL (fun j => (f j).toInt64) i v.toInt64) = fun j => (upd f i v j).toInt64 := by
  funext j
  by_cases h : j = i <;> simp [vp_updL, upd, h]
theorem g_setJ {cA : Nat → ClassId} {w : Wd} {σ : St} {k n i : Nat} {v : Int32} (h : w.1[k]? = some (.inr (.inl (2, n)))) : (g_ws cA w σ).set k (w.2 k, .inl (cA 2, n, .inr (.inl (vp_updL (fun j => (σ k j).toInt64) i v.toInt64)))) = g_ws cA w (wr σ k i v) := by
  rw [g_updL]
  exact g_setAt h rfl
theorem g_setO {cA : Nat → ClassId} {w : Wd} {σ : St} {k ci j : Nat} {fl : List (Option (Option Nat))} {v : Int32} (h : w.1[k]? = some (.inl (ci, fl))) (hf : fl[j]? = some none) : (g_ws cA w σ).set k (w.2 k, .inr (ci, (fl.mapIdx (fun j o => g_fv w.2 (σ k) j o)).set j (.int v))) = g_ws cA w (wr σ k j v) := by
  refine g_setAt h ?_
  show (Sum.inr (ci, _) : va_E) = Sum.inr (ci, _)
  congr 2
  apply List.ext_getElem?
  intro i
  rw [List.getElem?_set]
  by_cases hi : j = i
  · subst hi
    have hlt : j < fl.length := (List.getElem?_eq_some_iff.mp hf).1
    simp [List.getElem?_mapIdx, hf, hlt]
    simp [List.getElem?_eq_some_iff.mp hf |>.2, g_fv, upd]
  · simp only [List.getElem?_mapIdx, if_neg hi]
    cases fl[i]? with
    | none => rfl
    | some a => rcases a with _ | _ | a <;> simp [g_fv, upd, Ne.symm hi]

/-! locals: a list, by their places -/
def LH (ls : Array Slot) (nL : Nat) (L : LV) : Prop := ls.size = nL ∧ lv_wf ls ∧ ∀ (i : Nat) (v : Value), L[i]? = some (some v) → ls[i]? = some (.val v)
def g_pairs (L : LV) : List (Nat × Value) := (L.zipIdx).filterMap (fun q => q.1.map (fun v => (q.2, v)))
theorem g_pairs_mem {L : LV} {i : Nat} {v : Value} : (i, v) ∈ g_pairs L ↔ L[i]? = some (some v) := by
  simp only [g_pairs, List.mem_filterMap, Option.map_eq_some_iff]
  constructor
  · rintro ⟨⟨o, j⟩, h1, v', h2, h3⟩
    have h4 := List.mk_mem_zipIdx_iff_getElem?.mp h1
    cases h3
    simp only at h2
    rw [h4, h2]
  · intro h
    exact ⟨(some v, i), List.mk_mem_zipIdx_iff_getElem?.mpr h, v, rfl, rfl⟩
theorem LH.lv {ls : Array Slot} {nL : Nat} {L : LV} (h : LH ls nL L) : lv_has ls nL (g_pairs L) := ⟨h.1, h.2.1, fun q hq => h.2.2 q.1 q.2 (g_pairs_mem.mp hq)⟩
theorem LH.at {ls : Array Slot} {nL : Nat} {L : LV} (h : LH ls nL L) {i : Nat} {v : Value} (hi : L[i]? = some (some v)) : ls[i]? = some (.val v) := h.2.2 i v hi
/-- no long lies below a place -/
def okSt (L : LV) (i : Nat) : Bool := match i with
  | 0 => true
  | j + 1 => match L[j]? with
    | some (some (.long _)) => false
    | some (some (.double _)) => false
    | _ => true
theorem okSt_cat {L : LV} {j : Nat} {v : Value} (h : okSt L (j + 1) = true) (hj : L[j]? = some (some v)) : (v.category == 2) = false := by
  simp only [okSt, hj] at h
  cases v <;> first | rfl | simp at h
theorem LH.set1 {ls : Array Slot} {nL : Nat} {L : LV} {i : Nat} {x : Value} (ok : okSt L i = true) (h : lv_has ls nL ((i, x) :: (g_pairs L).filter (fun q => !(q.1 == i) && !(q.1 + 1 == i && q.2.category == 2)))) : LH ls nL (L.set i (some x)) := by
  refine ⟨h.1, h.2.1, fun j v hj => ?_⟩
  rw [List.getElem?_set] at hj
  by_cases hij : i = j
  · subst hij
    rw [if_pos rfl] at hj
    split at hj
    · cases hj
      exact h.2.2 (i, x) List.mem_cons_self
    · cases hj
  · rw [if_neg hij] at hj
    refine h.2.2 (j, v) (List.mem_cons_of_mem _ (List.mem_filter.mpr ⟨g_pairs_mem.mpr hj, ?_⟩))
    have h1 : (j == i) = false := by simp [Ne.symm hij]
    simp only [h1, Bool.not_false, Bool.true_and]
    by_cases hji : j + 1 = i
    · subst hji
      rw [okSt_cat ok hj]; simp
    · simp [hji]
theorem LH.set2 {ls : Array Slot} {nL : Nat} {L : LV} {i : Nat} {x : Value} (ok : okSt L i = true) (h : lv_has ls nL ((i, x) :: (g_pairs L).filter (fun q => !(q.1 == i) && (!(q.1 == i + 1) && !(q.1 + 1 == i && q.2.category == 2))))) : LH ls nL ((L.set i (some x)).set (i + 1) none) := by
  refine ⟨h.1, h.2.1, fun j v hj => ?_⟩
  rw [List.getElem?_set] at hj
  by_cases hij1 : i + 1 = j
  · subst hij1
    rw [if_pos rfl] at hj
    split at hj <;> cases hj
  · rw [if_neg hij1, List.getElem?_set] at hj
    by_cases hij : i = j
    · subst hij
      rw [if_pos rfl] at hj
      split at hj
      · cases hj
        exact h.2.2 (i, x) List.mem_cons_self
      · cases hj
    · rw [if_neg hij] at hj
      refine h.2.2 (j, v) (List.mem_cons_of_mem _ (List.mem_filter.mpr ⟨g_pairs_mem.mpr hj, ?_⟩))
      have h1 : (j == i) = false := by simp [Ne.symm hij]
      have h2 : (j == i + 1) = false := by simp [Ne.symm hij1]
      simp only [h1, h2, Bool.not_false, Bool.true_and]
      by_cases hji : j + 1 = i
      · subst hji
        rw [okSt_cat ok hj]; simp
      · simp [hji]
/-- L' tells no more than L -/
def lsub (L' L : LV) : Prop := match L', L with
  | [], _ => True
  | none :: a, [] => lsub a []
  | none :: a, _ :: b => lsub a b
  | some _ :: _, [] => False
  | some v :: a, x :: b => x = some v ∧ lsub a b
theorem lsub.get : ∀ {L' L : LV} (_ : lsub L' L) {i : Nat} {v : Value} (_ : L'[i]? = some (some v)), L[i]? = some (some v)
  | [], _, _, i, v, h => by simp at h
  | none :: a, [], hs, i, v, h => by
    cases i with
    | zero => simp at h
    | succ i => exact absurd (lsub.get (L' := a) (L := []) hs (i := i) (v := v) (by simpa using h)) (by simp)
  | none :: a, _ :: b, hs, i, v, h => by
    cases i with
    | zero => simp at h
    | succ i => simpa using lsub.get (L' := a) (L := b) hs (i := i) (v := v) (by simpa using h)
  | some w :: a, [], hs, i, v, h => hs.elim
  | some w :: a, x :: b, hs, i, v, h => by
    obtain ⟨h1, h2⟩ := hs
    cases i with
    | zero => subst h1; simpa using h
    | succ i => simpa using lsub.get (L' := a) (L := b) h2 (i := i) (v := v) (by simpa using h)
theorem LH.sub {ls : Array Slot} {nL : Nat} {L L' : LV} (h : LH ls nL L) (hs : lsub L' L) : LH ls nL L' := ⟨h.1, h.2.1, fun _ _ hi => h.2.2 _ _ (hs.get hi)⟩
theorem LH.entry (vs : List Value) {n : Nat} {L : LV} (h : (lg_sl vs).length ≤ n) (hL : g_pairs L = lv_args 0 vs) : LH ((lg_sl vs ++ List.replicate (n - (lg_sl vs).length) Slot.unset).toArray) n L := by
  have h1 := lv_entry vs h
  refine ⟨h1.1, h1.2.1, fun i v hi => ?_⟩
  exact h1.2.2 (i, v) (by rw [← hL]; exact g_pairs_mem.mpr hi)

/-! the machine's part of a method's walk -/
abbrev Th : Type := Program × Launch × Env × Room × State × MethodId × Array Value × List Frame × Method × Code × (Nat → Prop) × va_G × (Nat → ClassId) × (State → Prop)
def g_tys (cA : Nat → ClassId) : List (ClassId × FieldType) := [(cA 0, .int), (cA 1, .boolean), (cA 2, .int), (cA 3, .object "Quasigrove$Grid")]
def g_strs : List (String × Nat × String) := [("Quasigrove", 256, "there is no such grid"), ("Quasigrove", 263, "there are 12 grids"), ("Quasigrove", 272, "there is no such row or column"), ("Quasigrove", 276, "an argument does not fit"), ("Quasigrove", 279, "the grove does not allow it")]
def Zx (A : Nat → Prop) (U : State) (H : Heap) : Prop :=
  vx_Zq Bundle.tN "UNASSIGNED_STACK" Bundle.steD A U H ∧ vx_Zq Bundle.tN "SUPPRESSED_SENTINEL" Bundle.listD A U H
def g_SR (q : String × Nat × String) (U : State) : Prop := ∃ sa : Nat, vk_R q.1 q.2.1 q.2.2 sa U
def Kx (D : va_G) (cA : Nat → ClassId) (strs : List (String × Nat × String)) (A : Nat → Prop) (U : State) (H : Heap) : Prop :=
  va_K D vwCl (g_tys cA) U ∧ (∀ w ∈ g_NW, va_Nw w U) ∧ Zx A U H ∧ ∀ q ∈ strs, g_SR q U
theorem Zx.to {A : Nat → Prop} {s U : State} {H H1 : Heap} (hvm : s.vm.Alike U.vm) (h : Zx A s H) (hq : ∀ a : Nat, a < H.size → ¬ A a → H1[a]? = H[a]?) : Zx A U H1 := ⟨vx_Zq.moved hvm (h.1.kept hq), vx_Zq.moved hvm (h.2.kept hq)⟩
theorem g_nw_cases {w : Cond} (h : w ∈ g_NW) : (∃ a i b n d h', w = .fieldLinkNest a i b n d h') ∨ (∃ a i x h', w = .methodLinkNest a i x h') ∨ (∃ a b, w = .castable a b) ∨ ∃ x, w = .declares x := by
  have h1 := (List.mem_filter.mp h).2
  cases w <;> simp [g_nest] at h1 ⊢
theorem Kx.warm {D : va_G} {cA : Nat → ClassId} {strs : List (String × Nat × String)} {A : Nat → Prop} {s U : State} {H H1 : Heap} (hW : s.WarmedH U.vm) (h : Kx D cA strs A s H) (hq : ∀ a : Nat, a < H.size → ¬ A a → H1[a]? = H[a]?) : Kx D cA strs A U H1 := by
  obtain ⟨h1, h2, h3, h4⟩ := h
  refine ⟨va_K.moved hW.alike h1, fun w hw => ?_, h3.to hW.alike hq, fun q hq => ?_⟩
  · rcases g_nw_cases hw with ⟨a, i, b, n, d, h', rfl⟩ | ⟨a, i, x, h', rfl⟩ | ⟨a, b, rfl⟩ | ⟨x, rfl⟩
    · exact va_Nw.warmF hW (h2 _ hw)
    · exact va_Nw.warmM hW (h2 _ hw)
    · exact va_Nw.warmC hW (h2 _ hw)
    · exact va_Nw.warmD hW (h2 _ hw)
  · obtain ⟨sa, hs⟩ := h4 q hq
    exact ⟨sa, vk_R.warm hW hs⟩
theorem Kx.same {D : va_G} {cA : Nat → ClassId} {strs : List (String × Nat × String)} {A : Nat → Prop} {s U : State} {H : Heap} (hv : s.vm = U.vm) (h : Kx D cA strs A s H) : Kx D cA strs A U H := by
  obtain ⟨h1, h2, h3, h4⟩ := h
  have ha : s.vm.Alike U.vm := by rw [hv]; exact Vm.Alike.refl _
  refine ⟨va_K.moved ha h1, fun w hw => ?_, h3.to ha (fun _ _ _ => rfl), fun q hq => ?_⟩
  · rcases g_nw_cases hw with ⟨a, i, b, n, d, h', rfl⟩ | ⟨a, i, x, h', rfl⟩ | ⟨a, b, rfl⟩ | ⟨x, rfl⟩ <;> exact va_Nw.same rfl hv (h2 _ hw)
  · obtain ⟨sa, hs⟩ := h4 q hq
    exact ⟨sa, vk_R.same hv.symm hs⟩
/-- the goal at an abstract state -/
def G (θ : Th) (cs : Nat × Nat) (w : Wd) (σ : St) (pc : Nat) (L : LV) (S : List Value) : Prop := match θ with
  | (p, l, e, R, s, m, args, below, meth, c, A, D, cA, Q) => ∀ (H : Heap) (locs : List Loc) (ls : Array Slot), LH ls c.maxLocals L → va_P D vwCl (g_ws cA w σ) H → va_D A (g_ws cA w σ) → va_S A s.heap H locs →
    W p l e R s m args below meth c H locs cs.1 cs.2 Q (F0 m pc ls S)
/-- what holds all along a method's walk -/
def Cx (θ : Th) (strs : List (String × Nat × String)) (cc : ByteArray) (nL : Nat) (own : String) (fr lo : Nat) : Prop := match θ with
  | (p, l, e, R, s, m, args, below, meth, c, A, D, cA, Q) => p.tables.exec = Jvm.exec ∧ c.code = cc ∧ c.maxLocals = nL ∧ s.vm.findClass own = some m.cls ∧ (∀ w ∈ g_GW, w.before args s = true) ∧ meth.locks = false ∧ (∀ q, s.heap.size ≤ q → A q) ∧ Kx D cA strs A s s.heap ∧ fr ≤ R.frames ∧ lo ≤ R.locals
def g_B (D : va_G) (cA : Nat → ClassId) (strs : List (String × Nat × String)) (A : Nat → Prop) (w : Wd) (σ : St) (sz : Nat) (U : State) : Prop :=
  U.heap.size = sz ∧ va_P D vwCl (g_ws cA w σ) U.heap ∧ va_D A (g_ws cA w σ) ∧ Kx D cA strs A U U.heap
def g_Qc (D : va_G) (cA : Nat → ClassId) (A : Nat → Prop) (w : Wd) (v : Option Value) (σ : St) : Array Value → State → Outcome → State → Prop := fun _ st oc t =>
  oc = .returned v ∧ va_P D vwCl (g_ws cA w σ) t.heap ∧ va_F A st t
/-- method y, from σ on the arguments av: returns v, and leaves σ' -/
def Rt (l : Launch) (strs : List (String × Nat × String)) (y : MethodName) (cc : ByteArray) (maxL : Nat) (ret : Option FieldType) (fr lo : Nat) (w : Wd) (av : List Value) (σ : St) (v : Option Value) (σ' : St) : Prop :=
  ∀ (A : Nat → Prop) (D : va_G) (cA : Nat → ClassId) (sz : Nat), (∀ q, sz ≤ q → A q) →
    Met l y (Cond.code y cc maxL ret :: g_GW) { frames := fr, cells := 0, slots := 0, locals := lo } (va_Pc av (g_B D cA strs A w σ sz)) (g_Qc D cA A w v σ') 0 0 A
/-- the end that a returning walk owes -/
def Rq (θ : Th) (w : Wd) (ret : Option FieldType) (v : Option Value) (σ : St) : Prop := match θ with
  | (p, l, e, R, s, m, args, below, meth, c, A, D, cA, Q) => meth.sig.returnType = ret ∧ Q = MQ below (g_Qc D cA A w v σ) args s 0 0 A
theorem g_blind {D : va_G} {cA : Nat → ClassId} {strs : List (String × Nat × String)} {A : Nat → Prop} {w : Wd} {σ : St} {sz : Nat} {av : List Value} : FrameBlind (va_Pc av (g_B D cA strs A w σ sz)) := by
  intro a U g mk h
  obtain ⟨h0, h1, h2, h3, h4⟩ := h
  exact ⟨h0, h1, h2, h3, Kx.same (s := U) (U := U.calling g mk a) rfl h4⟩
theorem g_D {A : Nat → Prop} {cA : Nat → ClassId} {w : Wd} {σ σ' : St} (h : va_D A (g_ws cA w σ)) : va_D A (g_ws cA w σ') := by
  have key : ∀ (i : Nat) (p : Nat × va_E), (g_ws cA w σ')[i]? = some p → ∃ p', (g_ws cA w σ)[i]? = some p' ∧ p'.1 = p.1 := by
    intro i p hp
    simp only [g_ws, List.getElem?_mapIdx, Option.map_eq_some_iff] at hp ⊢
    obtain ⟨sh, h1, h2⟩ := hp
    exact ⟨_, ⟨sh, h1, rfl⟩, by rw [← h2]⟩
  refine ⟨fun i j p q hp hq hpq => ?_, fun k q hq => ?_⟩
  · obtain ⟨p', hp', ep⟩ := key i p hp
    obtain ⟨q', hq', eq⟩ := key j q hq
    exact h.1 i j p' q' hp' hq' (by rw [ep, eq, hpq])
  · obtain ⟨q', hq', eq⟩ := key k q hq
    rw [← eq]
    exact h.2 k q' hq'
theorem Rt.intro {l : Launch} {strs : List (String × Nat × String)} {y : MethodName} {cc : ByteArray} {maxL : Nat} {ret : Option FieldType} {fr lo : Nat} {w : Wd} {av : List Value} {σ : St} {v : Option Value} {σ' : St} {L : LV}
    (hy : plainName y.cls = true) (hn : (lg_sl av).length ≤ maxL) (hL : g_pairs L = lv_args 0 av)
    (body : ∀ θ : Th, θ.2.1 = l → Cx θ strs cc maxL y.cls fr lo → Rq θ w ret v σ' → G θ (0, 0) w σ 0 L []) : Rt l strs y cc maxL ret fr lo w av σ v σ' := by
  intro A D cA sz hA
  refine Met.ofW (cc := cc) (maxL := maxL) (ret := ret) hy rfl ?_
  intro p e s m args below meth c s₁ B hml hv
  obtain ⟨rfl, hsz, hP, hD, hK⟩ := hv
  have hts := atoms_spec (ws := Cond.code y cc maxL ret :: g_GW) B.pre
  have hown : s.vm.findClass y.cls = some m.cls := findClass_of_methodNamed B.named
  subst hsz
  have hb := body (p, l, e, (headSpec (Cond.code y cc maxL ret :: g_GW) { frames := fr, cells := 0, slots := 0, locals := lo }).room, s, m, av.toArray, below, meth, c, A, D, cA, MQ below (g_Qc D cA A w v σ') av.toArray s 0 0 A) rfl
    ⟨B.exec, B.bytes, hml, hown, fun w hw => hts w (List.mem_cons_of_mem _ hw), B.notSynchronized, hA, hK, Nat.le_refl _, Nat.le_refl _⟩ ⟨B.returns, rfl⟩
  rw [lg_entry_eq]
  exact hb s.heap [] _ (by rw [hml]; exact LH.entry av hn hL) hP hD va_S.rf
