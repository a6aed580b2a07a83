/-! constructors: the world grows -/
def g_rb (SH : List Shp) (n : Nat) : Bool := SH.all (fun sh => match sh with
  | .inl (_, fl) => fl.all (fun o => match o with
    | some (some t) => decide (t < n)
    | _ => true)
  | .inr (.inr ts) => ts.all (fun o => match o with
    | some t => decide (t < n)
    | none => true)
  | _ => true)
theorem g_ent_ad {cA : Nat → ClassId} {ad ad' : Nat → Nat} {f : Nat → Int32} {sh : Shp} {n : Nat} (h : g_rb [sh] n = true) (ha : ∀ i, i < n → ad' i = ad i) : g_ent cA ad' f sh = g_ent cA ad f sh := by
  rcases sh with ⟨ci, fl⟩ | ⟨kd, m⟩ | ts
  · simp only [g_rb, List.all_cons, List.all_nil, Bool.and_true, List.all_eq_true] at h
    show (Sum.inr (ci, _) : va_E) = Sum.inr (ci, _)
    congr 2
    apply List.ext_getElem?
    intro i
    simp only [List.getElem?_mapIdx]
    cases hi : fl[i]? with
    | none => rfl
    | some o =>
      have := h o (List.mem_of_getElem? hi)
      rcases o with _ | _ | t
      · rfl
      · rfl
      · simp only [decide_eq_true_eq] at this
        simp [g_fv, ha t this]
  · rfl
  · simp only [g_rb, List.all_cons, List.all_nil, Bool.and_true, List.all_eq_true] at h
    show (Sum.inl _ : va_E) = Sum.inl _
    congr 7
    funext j
    rw [List.getD_eq_getElem?_getD]
    cases hi : ts[j]? with
    | none => rfl
    | some o =>
      have := h o (List.mem_of_getElem? hi)
      rcases o with _ | t
      · rfl
      · simp only [decide_eq_true_eq] at this
        simp [ha t this]
theorem g_app {cA : Nat → ClassId} {SH : List Shp} {ad ad' : Nat → Nat} {σ : St} {sh : Shp} {q : Nat} {e : va_E} (hr : g_rb SH SH.length = true) (ha : ∀ i, i < SH.length → ad' i = ad i) (hq : ad' SH.length = q) (he : g_ent cA ad' (σ SH.length) sh = e) : g_ws cA (SH ++ [sh], ad') σ = g_ws cA (SH, ad) σ ++ [(q, e)] := by
  apply List.ext_getElem?
  intro i
  rw [List.getElem?_append]
  have hl : (g_ws cA (SH, ad) σ).length = SH.length := by simp [g_ws]
  rw [hl]
  by_cases hi : i < SH.length
  · rw [if_pos hi]
    simp only [g_ws, List.getElem?_mapIdx]
    rw [List.getElem?_append_left hi]
    obtain ⟨x, hx⟩ : ∃ x, SH[i]? = some x := ⟨_, List.getElem?_eq_getElem hi⟩
    rw [hx]
    have hx1 : g_rb [x] SH.length = true := by
      simp only [g_rb, List.all_eq_true] at hr ⊢
      intro y hy
      rw [List.mem_singleton.mp hy]
      exact hr x (List.mem_of_getElem? hx)
    simp only [Option.map_some]
    rw [ha i hi, g_ent_ad hx1 ha]
  · rw [if_neg hi]
    simp only [g_ws, List.getElem?_mapIdx]
    rw [List.getElem?_append_right (Nat.not_lt.mp hi)]
    by_cases h0 : i = SH.length
    · subst h0
      simp [hq, he]
    · have : i - SH.length ≠ 0 := by omega
      rw [List.getElem?_eq_none (by simp; omega), List.getElem?_eq_none (by simp; omega)]
      rfl
def upA (ad : Nat → Nat) (n q : Nat) : Nat → Nat := fun i => if i = n then q else ad i
theorem upA_lt {ad : Nat → Nat} {n q : Nat} : ∀ i, i < n → upA ad n q i = ad i := fun i h => by simp [upA, Nat.ne_of_lt h]
theorem upA_eq {ad : Nat → Nat} {n q : Nat} : upA ad n q n = q := by simp [upA]
/-- which array class is it -/
theorem g_arr {D : va_G} {cA : Nat → ClassId} {s : State} {cB : ClassId} {ty : FieldType} {t : Nat} {c0 : ClassId} (ht : (g_tys cA)[t]? = some (c0, ty)) (hK : va_K D vwCl (g_tys cA) s) (hK' : va_K D vwCl (g_tys cA ++ [(cB, ty)]) s) : cB = c0 := by
  have h1 := (hK.2 t _ ht).2
  have h2 := (hK'.2 (g_tys cA).length (cB, ty) (by simp)).2
  cases ty with
  | object C =>
    obtain ⟨_, _, _, _, _, e1⟩ := h1
    obtain ⟨_, _, _, _, _, e2⟩ := h2
    exact Option.some.inj (e2.symm.trans e1)
  | _ => exact Option.some.inj (h2.symm.trans h1)
def Rm (θ : Th) (c n : Nat) : Prop := match θ with
  | (p, l, e, R, s, m, args, below, meth, c0, A, D, cA, Q) => c ≤ R.cells ∧ n ≤ R.slots
def AOx (θ : Th) : Prop := match θ with
  | (p, l, e, R, s, m, args, below, meth, c0, A, D, cA, Q) => va_AO "Quasigrove$Grid" s
def Ix (θ : Th) : Prop := match θ with
  | (p, l, e, R, s, m, args, below, meth, c0, A, D, cA, Q) => meth.name = "<init>"
section GN
variable {θ : Th} {cs : Nat × Nat} {SH : List Shp} {ad : Nat → Nat} {σ : St} {pc : Nat} {L : LV} {S : List Value} {strs strs' : List (String × Nat × String)} {cc : ByteArray} {nL : Nat} {own : String} {fr lo : Nat}
theorem G_new {ci N idx : Nat} {C : String} {T : u_T} {ty : Nat → FieldType} (fl : List (Option (Option Nat))) (X : Cx θ strs cc nL own fr lo) (hd : decode cc pc = .ok (.new idx, 3)) (hF : FC ci C T N ty) (h1 : Cond.classLink own idx C ∈ g_GW) (h2 : Cond.instantiable C N ∈ g_GW) (h3 : Cond.initialized C ∈ g_GW)
    (hlen : fl.length = N) (hdef : ∀ j, j < N → ∃ o, fl[j]? = some o ∧ ((o = none ∧ defaultValue (ty j) = .int 0) ∨ (o = some none ∧ defaultValue (ty j) = .null))) (hr : g_rb SH SH.length = true) (hz : ∀ j, σ SH.length j = 0) (hR : Rm θ (cs.1 + 1) (cs.2 + N))
    (kk : ∀ (ad' : Nat → Nat) (q : Nat), (∀ i, i < SH.length → ad' i = ad i) → ad' SH.length = q → G θ (cs.1 + 1, cs.2 + N) (SH ++ [.inl (ci, fl)], ad') σ (pc + 3) L (.ref q :: S)) : G θ cs (SH, ad) σ pc L S := by
  obtain ⟨p, l, e, R, s, m, args, below, meth, c, A, D, cA, Q⟩ := θ
  obtain ⟨hx, hb, hml, hown, hts, hlk, hA, hK, hfr, hlo⟩ := X
  intro H locs ls hl' hP hD hS
  obtain ⟨f1, f2, f3, f4⟩ := hF
  refine va_new (fs := fl.mapIdx (fun j o => g_fv ad (σ SH.length) j o)) hx hb hts f2 ty f3 hown (hts _ h1) (hts _ h2) (hts _ h3) hK.1 hP hD hS hA f1 ?_ hR.1 hR.2 hd (fun q H1 hP1 hD1 hS1 => ?_)
  · intro j hj
    obtain ⟨o, ho, h⟩ := hdef j hj
    rcases h with ⟨rfl, h⟩ | ⟨rfl, h⟩ <;> rw [h] <;> simp [vp_V, List.getElem?_mapIdx, ho, g_fv, hz]
  · have hw : g_ws cA (SH ++ [.inl (ci, fl)], upA ad SH.length q) σ = g_ws cA (SH, ad) σ ++ [(q, .inr (ci, fl.mapIdx (fun j o => g_fv ad (σ SH.length) j o)))] := by
      refine g_app hr upA_lt upA_eq ?_
      show (Sum.inr (ci, _) : va_E) = Sum.inr (ci, _)
      congr 2
      apply List.ext_getElem?
      intro i
      simp only [List.getElem?_mapIdx]
      by_cases hi : i < N
      · obtain ⟨o, ho, h⟩ := hdef i hi
        rw [ho]
        rcases h with ⟨rfl, h⟩ | ⟨rfl, h⟩ <;> rfl
      · rw [List.getElem?_eq_none (by omega)]; rfl
    rw [← hw] at hP1 hD1
    exact kk _ q upA_lt upA_eq H1 locs ls hl' hP1 hD1 hS1
theorem g_va_arr {cA : Nat → ClassId} {f : Nat → Int32} {n : Nat} (hz : ∀ j, f j = 0) (c : ClassId) : vp_cell c (n, .inl f) = arrV c n (fun _ => .int 0) := by
  rw [vp_cell_i]
  congr 1
  funext j
  rw [hz]
theorem G_newa {at9 : ArrayType} {kd N : Nat} {n : Int32} {ty : FieldType} (X : Cx θ strs cc nL own fr lo) (hd : decode cc pc = .ok (.newarray at9, 2)) (h1 : Cond.arrayClass ty ∈ g_GW) (hty : newarray.typeOf at9 = ty) (hkd : (kd = 0 ∧ ty = .int) ∨ (kd = 1 ∧ ty = .boolean)) (hn : ¬ n < 0) (hN : n.toNatClampNeg = N) (hb9 : N * componentBytes ty ≤ 536870912) (hr : g_rb SH SH.length = true) (hz : ∀ j, σ SH.length j = 0) (hR : Rm θ (cs.1 + 1) (cs.2 + N))
    (kk : ∀ (ad' : Nat → Nat) (q : Nat), (∀ i, i < SH.length → ad' i = ad i) → ad' SH.length = q → G θ (cs.1 + 1, cs.2 + N) (SH ++ [.inr (.inl (kd, N))], ad') σ (pc + 2) L (.ref q :: S)) : G θ cs (SH, ad) σ pc L (.int n :: S) := by
  obtain ⟨p, l, e, R, s, m, args, below, meth, c, A, D, cA, Q⟩ := θ
  obtain ⟨hx, hb, hml, hown, hts, hlk, hA, hK, hfr, hlo⟩ := X
  intro H locs ls hl' hP hD hS
  rcases hkd with ⟨rfl, rfl⟩ | ⟨rfl, rfl⟩
  · refine va_newa (a0 := (N, .inl (σ SH.length))) (ty := .int) (atype := at9) hx hb (by rw [hty]; exact hts _ h1) hty hK.1 hP hD hS hA (fun c => g_va_arr (cA := cA) hz c) hn hN hb9 hR.1 hR.2 hd (fun q cB H1 hK1 hP1 hD1 hS1 => ?_)
    have hc := g_arr (cA := cA) (t := 0) (c0 := cA 0) rfl hK.1 hK1
    subst hc
    have hw : g_ws cA (SH ++ [.inr (.inl (0, N))], upA ad SH.length q) σ = g_ws cA (SH, ad) σ ++ [(q, .inl (cA 0, N, .inl (σ SH.length)))] := g_app hr upA_lt upA_eq rfl
    rw [← hw] at hP1 hD1
    exact kk _ q upA_lt upA_eq H1 locs ls hl' hP1 hD1 hS1
  · refine va_newa (a0 := (N, .inl (σ SH.length))) (ty := .boolean) (atype := at9) hx hb (by rw [hty]; exact hts _ h1) hty hK.1 hP hD hS hA (fun c => g_va_arr (cA := cA) hz c) hn hN hb9 hR.1 hR.2 hd (fun q cB H1 hK1 hP1 hD1 hS1 => ?_)
    have hc := g_arr (cA := cA) (t := 1) (c0 := cA 1) rfl hK.1 hK1
    subst hc
    have hw : g_ws cA (SH ++ [.inr (.inl (1, N))], upA ad SH.length q) σ = g_ws cA (SH, ad) σ ++ [(q, .inl (cA 1, N, .inl (σ SH.length)))] := g_app hr upA_lt upA_eq rfl
    rw [← hw] at hP1 hD1
    exact kk _ q upA_lt upA_eq H1 locs ls hl' hP1 hD1 hS1
theorem G_newq {idx N : Nat} {n : Int32} (X : Cx θ strs cc nL own fr lo) (hd : decode cc pc = .ok (.anewarray idx, 3)) (h1 : Cond.classLink own idx "Quasigrove$Grid" ∈ g_GW) (h2 : AOx θ) (hn : ¬ n < 0) (hN : n.toNatClampNeg = N) (hb9 : N * 4 ≤ 536870912) (hr : g_rb SH SH.length = true) (hR : Rm θ (cs.1 + 1) (cs.2 + N))
    (kk : ∀ (ad' : Nat → Nat) (q : Nat), (∀ i, i < SH.length → ad' i = ad i) → ad' SH.length = q → G θ (cs.1 + 1, cs.2 + N) (SH ++ [.inr (.inr (List.replicate N none))], ad') σ (pc + 3) L (.ref q :: S)) : G θ cs (SH, ad) σ pc L (.int n :: S) := by
  obtain ⟨p, l, e, R, s, m, args, below, meth, c, A, D, cA, Q⟩ := θ
  obtain ⟨hx, hb, hml, hown, hts, hlk, hA, hK, hfr, hlo⟩ := X
  intro H locs ls hl' hP hD hS
  refine va_newq hx hb hown (hts _ h1) h2 hK.1 hP hD hS hA hn hN hb9 hR.1 hR.2 hd (fun q cB H1 hK1 hP1 hD1 hS1 => ?_)
  have hc := g_arr (cA := cA) (t := 3) (c0 := cA 3) rfl hK.1 hK1
  subst hc
  have hw : g_ws cA (SH ++ [.inr (.inr (List.replicate N none))], upA ad SH.length q) σ = g_ws cA (SH, ad) σ ++ [(q, .inl (cA 3, N, .inr (.inr (.inr (.inr (fun _ => none))))))] := by
    refine g_app hr upA_lt upA_eq ?_
    show (Sum.inl (cA 3, (List.replicate N none).length, _) : va_E) = _
    rw [List.length_replicate]
    congr 7
    funext j
    rw [List.getD_eq_getElem?_getD, List.getElem?_replicate]
    split <;> rfl
  rw [← hw] at hP1 hD1
  exact kk _ q upA_lt upA_eq H1 locs ls hl' hP1 hD1 hS1
theorem g_setR {cA : Nat → ClassId} {k ci j t : Nat} {fl : List (Option (Option Nat))} (h : SH[k]? = some (.inl (ci, fl))) : (g_ws cA (SH, ad) σ).set k (ad k, .inr (ci, (fl.mapIdx (fun j o => g_fv ad (σ k) j o)).set j (.ref (ad t)))) = g_ws cA (SH.set k (.inl (ci, fl.set j (some (some t)))), ad) σ := by
  apply List.ext_getElem?
  intro i
  rw [List.getElem?_set]
  have hlt : k < SH.length := (List.getElem?_eq_some_iff.mp h).1
  by_cases hi : k = i
  · subst hi
    have hl : k < (g_ws cA (SH, ad) σ).length := by simp [g_ws, hlt]
    rw [if_pos rfl, if_pos hl]
    simp only [g_ws, List.getElem?_mapIdx, List.getElem?_set, if_pos hlt, if_pos rfl, Option.map_some]
    congr 2
    show (Sum.inr (ci, _) : va_E) = Sum.inr (ci, _)
    congr 2
    apply List.ext_getElem?
    intro y
    simp only [List.getElem?_mapIdx, List.getElem?_set, List.length_mapIdx]
    by_cases hy : j = y
    · subst hy
      by_cases hj : j < fl.length
      · simp [hj, g_fv]
      · simp [hj]
    · simp [hy]
  · rw [if_neg hi]
    simp only [g_ws, List.getElem?_mapIdx, List.getElem?_set, if_neg hi]
/-- a final field, a reference, in the constructor -/
theorem G_putR {ci N idx k t q q' : Nat} {C : String} {T : u_T} {ty : Nat → FieldType} {fl : List (Option (Option Nat))} (j : Nat) (X : Cx θ strs cc nL own fr lo) (hI : Ix θ) (hd : decode cc pc = .ok (.putfield idx, 3)) (hF : FC ci C T N ty) (hl : Cond.fieldLink own idx C (T j).2.1 (T j).2.2.1 ∈ g_GW) (hT : (T j).1 = C) (hown9 : C = own) (hj : j < N) (hfin : (T j).2.2.2 = true) (hty : (∃ n, ty j = .object n) ∨ ∃ t, ty j = .array t) (hs : SH[k]? = some (.inl (ci, fl))) (hlen : fl.length = N) (hq : ad k = q) (ht : ad t = q')
    (kk : G θ cs (SH.set k (.inl (ci, fl.set j (some (some t)))), ad) σ (pc + 3) L S) : G θ cs (SH, ad) σ pc L (.ref q' :: .ref q :: S) := by
  obtain ⟨p, l, e, R, s, m, args, below, meth, c, A, D, cA, Q⟩ := θ
  obtain ⟨hx, hb, hml, hown, hts, hlk, hA, hK, hfr, hlo⟩ := X
  intro H locs ls hl' hP hD hS
  obtain ⟨f1, f2, f3, f4⟩ := hF
  subst hq
  refine va_putF (D := D) (ci := ci) (ref := C) (v := .ref q') (ty := ty j) hx hb hts f2 ty f3 f4 hown hK.1 hP hD hS k (g_getO hs) f1 j hj (hts _ hl) (fun _ h => by rw [hT] at h; exact h) hfin hI (by rw [hT]; exact hown9) (f3 j hj) (by rcases hty with ⟨n, e⟩ | ⟨n, e⟩ <;> rw [e] <;> rfl) (by rcases hty with ⟨n, e⟩ | ⟨n, e⟩ <;> rw [e] <;> rfl) (by simp [hlen, hj]) hd (fun H1 locs1 hP1 hD1 hS1 => ?_)
  rw [← ht] at hP1 hD1
  have e9 := g_setR (cA := cA) (ad := ad) (σ := σ) (j := j) (t := t) hs
  have hP2 : va_P D vwCl (g_ws cA (SH.set k (.inl (ci, fl.set j (some (some t)))), ad) σ) H1 := by rw [← e9]; exact hP1
  have hD2 : va_D A (g_ws cA (SH.set k (.inl (ci, fl.set j (some (some t)))), ad) σ) := by rw [← e9]; exact hD1
  exact kk H1 locs1 ls hl' hP2 hD2 hS1
theorem G_putQ {ci N idx k q : Nat} {C : String} {T : u_T} {ty : Nat → FieldType} {fl : List (Option (Option Nat))} {v : Int32} (j : Nat) (X : Cx θ strs cc nL own fr lo) (hd : decode cc pc = .ok (.putfield idx, 3)) (hF : FC ci C T N ty) (hl : Cond.fieldLink own idx C (T j).2.1 (T j).2.2.1 ∈ g_GW) (hT : (T j).1 = C) (hj : j < N) (hfin : (T j).2.2.2 = false) (hty : ty j = .int) (hs : SH[k]? = some (.inl (ci, fl))) (hf : fl[j]? = some none) (hq : ad k = q)
    (kk : G θ cs (SH, ad) (wr σ k j v) (pc + 3) L S) : G θ cs (SH, ad) σ pc L (.int v :: .ref q :: S) := by
  subst hq
  exact G_put (w := (SH, ad)) (f := id) (r := wr σ k j v) j X hd hF hl hT hj hfin hty hs hf rfl (fun σ' h => by rw [show σ' = wr σ k j v from h]; exact kk)
theorem G_getRQ {ci N idx k t q : Nat} {C : String} {T : u_T} {ty : Nat → FieldType} {fl : List (Option (Option Nat))} (j : Nat) (X : Cx θ strs cc nL own fr lo) (hd : decode cc pc = .ok (.getfield idx, 3)) (hF : FC ci C T N ty) (hl : Cond.fieldLink own idx C (T j).2.1 (T j).2.2.1 ∈ g_GW) (hT : (T j).1 = C) (hj : j < N) (hs : SH[k]? = some (.inl (ci, fl))) (hf : fl[j]? = some (some (some t))) (hq : ad k = q)
    (kk : G θ cs (SH, ad) σ (pc + 3) L (.ref (ad t) :: S)) : G θ cs (SH, ad) σ pc L (.ref q :: S) := by
  subst hq
  exact G_get (w := (SH, ad)) j X hd hF hl hT hj hs hf kk
theorem G_objInit {idx a : Nat} (X : Cx θ strs cc nL own fr lo) (hd : decode cc pc = .ok (.invokespecial idx, 3)) (h1 : Cond.methodLink own idx Lib.objectInit ∈ g_GW) (h2 : Cond.instanceMethod Lib.objectInit ∈ g_GW) (h3 : Cond.code Lib.objectInit ⟨#[0xb1]⟩ 1 none ∈ g_GW) (hfr' : 1 ≤ fr) (hlo' : (S.map fun v => v.category).sum + 12 ≤ lo)
    (kk : G θ cs (SH, ad) σ (pc + 3) L S) : G θ cs (SH, ad) σ pc L (.ref a :: S) := by
  obtain ⟨p, l, e, R, s, m, args, below, meth, c, A, D, cA, Q⟩ := θ
  obtain ⟨hx, hb, hml, hown, hts, hlk, hA, hK, hfr, hlo⟩ := X
  intro H locs ls hl' hP hD hS
  refine W.objInit hx hb hown (hts _ h1) (hts _ h2) (hts _ h3) rfl hl'.1 rfl hd (Nat.le_trans hfr' hfr) ?_ (kk H locs ls hl' hP hD hS)
  show 2 * 0 + _ + 12 ≤ _
  omega
theorem Rm_of {a b c n : Nat} (h : Rm θ a b) (h1 : c ≤ a) (h2 : n ≤ b) : Rm θ c n := by
  obtain ⟨p, l, e, R, s, m, args, below, meth, c0, A, D, cA, Q⟩ := θ
  exact ⟨Nat.le_trans h1 h.1, Nat.le_trans h2 h.2⟩
theorem Rm_rc {a b : Nat} (h : Rm θ a b) : Rc θ (a, b) := by
  obtain ⟨p, l, e, R, s, m, args, below, meth, c0, A, D, cA, Q⟩ := θ
  exact h
theorem G_alenQQ {k q : Nat} {ts : List (Option Nat)} (v : Int32) (X : Cx θ strs cc nL own fr lo) (hd : decode cc pc = .ok (.arraylength, 1)) (hs : SH[k]? = some (.inr (.inr ts))) (hv : Int32.ofNat ts.length = v) (hq : ad k = q) (kk : G θ cs (SH, ad) σ (pc + 1) L (.int v :: S)) : G θ cs (SH, ad) σ pc L (.ref q :: S) := by
  subst hq
  exact G_alenQ (w := (SH, ad)) v X hd hs hv kk
theorem g_setQ {cA : Nat → ClassId} {k i t : Nat} {ts : List (Option Nat)} (h : SH[k]? = some (.inr (.inr ts))) (hi : i < ts.length) : (g_ws cA (SH, ad) σ).set k (ad k, .inl (cA 3, ts.length, .inr (.inr (.inr (.inr (va_up (fun j => (ts.getD j none).map ad) i (some (ad t)))))))) = g_ws cA (SH.set k (.inr (.inr (ts.set i (some t)))), ad) σ := by
  apply List.ext_getElem?
  intro y
  rw [List.getElem?_set]
  have hlt : k < SH.length := (List.getElem?_eq_some_iff.mp h).1
  by_cases hy : k = y
  · subst hy
    have hl : k < (g_ws cA (SH, ad) σ).length := by simp [g_ws, hlt]
    rw [if_pos rfl, if_pos hl]
    simp only [g_ws, List.getElem?_mapIdx, List.getElem?_set, if_pos hlt, if_pos rfl, Option.map_some]
    congr 2
    show _ = (Sum.inl (cA 3, (ts.set i (some t)).length, _) : va_E)
    rw [List.length_set]
    congr 7
    funext j
    by_cases hj : j = i
    · subst hj
      simp [va_up, List.getD_eq_getElem?_getD, List.getElem?_set, hi]
    · simp [va_up, List.getD_eq_getElem?_getD, List.getElem?_set, hj, Ne.symm hj]
  · rw [if_neg hy]
    simp only [g_ws, List.getElem?_mapIdx, List.getElem?_set, if_neg hy]
theorem G_astq {k t q q' : Nat} {ts : List (Option Nat)} {fl : List (Option (Option Nat))} {i : Int32} (X : Cx θ strs cc nL own fr lo) (hd : decode cc pc = .ok (.aastore, 1)) (hs : SH[k]? = some (.inr (.inr ts))) (hin : inb i ts.length = true) (ht : SH[t]? = some (.inl (0, fl))) (hq : ad k = q) (hq' : ad t = q')
    (kk : G θ cs (SH.set k (.inr (.inr (ts.set (ix i) (some t)))), ad) σ (pc + 1) L S) : G θ cs (SH, ad) σ pc L (.ref q' :: .int i :: .ref q :: S) := by
  obtain ⟨p, l, e, R, s, m, args, below, meth, c, A, D, cA, Q⟩ := θ
  obtain ⟨hx, hb, hml, hown, hts, hlk, hA, hK, hfr, hlo⟩ := X
  intro H locs ls hl' hP hD hS
  subst hq
  subst hq'
  have hlt : ix i < ts.length := by
    simp only [inb, Bool.and_eq_true, decide_eq_true_eq] at hin
    exact hin.2
  refine va_astq (tys := g_tys cA) (t0 := 3) (qk := t) (ci := 0) (r := (RX2, TX2, 5)) hx hb hK.1 hP hD hS k (g_getQ (w := (SH, ad)) hs) rfl (g_getO (w := (SH, ad)) ht) rfl (inb_vp hin) hd (fun H1 locs1 hP1 hD1 hS1 => ?_)
  have e9 := g_setQ (cA := cA) (ad := ad) (σ := σ) (t := t) hs hlt
  have hP2 : va_P D vwCl (g_ws cA (SH.set k (.inr (.inr (ts.set (ix i) (some t)))), ad) σ) H1 := by rw [← e9]; exact hP1
  have hD2 : va_D A (g_ws cA (SH.set k (.inr (.inr (ts.set (ix i) (some t)))), ad) σ) := by rw [← e9]; exact hD1
  exact kk H1 locs1 ls hl' hP2 hD2 hS1
end GN
