section GH
variable {θ : Th} {cs : Nat × Nat} {w : Wd} {σ : St} {pc : Nat} {L : LV} {S : List Value} {strs : List (String × Nat × String)} {cc : ByteArray} {nL : Nat} {own : String} {fr lo : Nat}
/-- a class of the tables -/
def FC (ci : Nat) (C : String) (T : u_T) (N : Nat) (ty : Nat → FieldType) : Prop := vwCl[ci]? = some (C, T, N) ∧ (∀ w ∈ u_ws C T N, w ∈ g_GW) ∧ (∀ k, k < N → parseFieldDescriptor (T k).2.2.1 = some (ty k)) ∧ ∀ a, a < N → ∀ b, b < N → a ≠ b → (T a).2.1 ≠ (T b).2.1
theorem g_nw {s : State} {args : Array Value} {w : Cond} (h : ∀ w ∈ g_NW, va_Nw w s) (hw : w ∈ g_NW) : w.before args s = true := by
  rcases g_nw_cases hw with ⟨a, i, b, n, d, h', rfl⟩ | ⟨a, i, x, h', rfl⟩ | ⟨a, b, rfl⟩ | ⟨x, rfl⟩ <;> exact va_Nw.use rfl (h _ hw)
theorem G_get {ci N idx k : Nat} {C : String} {T : u_T} {ty : Nat → FieldType} {fl : List (Option (Option Nat))} {o : Option (Option Nat)} (j : Nat) (X : Cx θ strs cc nL own fr lo) (hd : decode cc pc = .ok (.getfield idx, 3)) (hF : FC ci C T N ty) (hl : Cond.fieldLink own idx C (T j).2.1 (T j).2.2.1 ∈ g_GW) (hT : (T j).1 = C) (hj : j < N) (hs : w.1[k]? = some (.inl (ci, fl))) (hf : fl[j]? = some o)
    (kk : G θ cs w σ (pc + 3) L (g_fv w.2 (σ k) j o :: S)) : G θ cs w σ pc L (.ref (w.2 k) :: S) := by
  obtain ⟨p, l, e, R, s, m, args, below, meth, c, A, D, cA, Q⟩ := θ
  obtain ⟨hx, hb, hml, hown, hts, hlk, hA, hK, hfr, hlo⟩ := X
  intro H locs ls hl' hP hD hS
  obtain ⟨f1, f2, f3, f4⟩ := hF
  exact va_get (D := D) (ci := ci) (ref := C) (v := g_fv w.2 (σ k) j o) hx hb hts f2 hown hK.1 hP k (g_getO hs) f1 j hj (hts _ hl) (fun _ h => by rw [hT] at h; exact h) (by simp [List.getElem?_mapIdx, hf]) hd (kk H locs ls hl' hP hD hS)
theorem G_getN {ci N idx k : Nat} {C host : String} {T : u_T} {ty : Nat → FieldType} {fl : List (Option (Option Nat))} {o : Option (Option Nat)} (j : Nat) (X : Cx θ strs cc nL own fr lo) (hd : decode cc pc = .ok (.getfield idx, 3)) (hF : FC ci C T N ty) (hl : Cond.fieldLinkNest own idx C (T j).2.1 (T j).2.2.1 host ∈ g_NW) (hT : (T j).1 = C) (hj : j < N) (hs : w.1[k]? = some (.inl (ci, fl))) (hf : fl[j]? = some o)
    (kk : G θ cs w σ (pc + 3) L (g_fv w.2 (σ k) j o :: S)) : G θ cs w σ pc L (.ref (w.2 k) :: S) := by
  obtain ⟨p, l, e, R, s, m, args, below, meth, c, A, D, cA, Q⟩ := θ
  obtain ⟨hx, hb, hml, hown, hts, hlk, hA, hK, hfr, hlo⟩ := X
  intro H locs ls hl' hP hD hS
  obtain ⟨f1, f2, f3, f4⟩ := hF
  exact va_getN (D := D) (ci := ci) (ref := C) (v := g_fv w.2 (σ k) j o) hx hb hts f2 hown hK.1 hP k (g_getO hs) f1 j hj (g_nw hK.2.1 hl) (fun _ h => by rw [hT] at h; exact h) (by simp [List.getElem?_mapIdx, hf]) hd (kk H locs ls hl' hP hD hS)
theorem G_put {β : Type} {f : St → β} {r : β} {ci N idx k : Nat} {C : String} {T : u_T} {ty : Nat → FieldType} {fl : List (Option (Option Nat))} {v : Int32} (j : Nat) (X : Cx θ strs cc nL own fr lo) (hd : decode cc pc = .ok (.putfield idx, 3)) (hF : FC ci C T N ty) (hl : Cond.fieldLink own idx C (T j).2.1 (T j).2.2.1 ∈ g_GW) (hT : (T j).1 = C) (hj : j < N) (hfin : (T j).2.2.2 = false) (hty : ty j = .int) (hs : w.1[k]? = some (.inl (ci, fl))) (hf : fl[j]? = some none)
    (h : sto σ k j v f = r) (kk : ∀ σ', f σ' = r → G θ cs w σ' (pc + 3) L S) : G θ cs w σ pc L (.int v :: .ref (w.2 k) :: S) := by
  obtain ⟨p, l, e, R, s, m, args, below, meth, c, A, D, cA, Q⟩ := θ
  obtain ⟨hx, hb, hml, hown, hts, hlk, hA, hK, hfr, hlo⟩ := X
  intro H locs ls hl' hP hD hS
  obtain ⟨f1, f2, f3, f4⟩ := hF
  refine va_put (D := D) (ci := ci) (ref := C) (v := .int v) (ty := .int) hx hb hts f2 ty f3 f4 hown hK.1 hP hD hS k (g_getO hs) f1 j hj (hts _ hl) (fun _ h => by rw [hT] at h; exact h) hfin (by rw [f3 j hj, hty]) rfl rfl (by simpa using (List.getElem?_eq_some_iff.mp hf).1) hd (fun H1 locs1 hP1 hD1 hS1 => ?_)
  rw [g_setO hs hf] at hP1 hD1
  exact kk _ h H1 locs1 ls hl' hP1 hD1 hS1
theorem G_putN {β : Type} {f : St → β} {r : β} {ci N idx k : Nat} {C host : String} {T : u_T} {ty : Nat → FieldType} {fl : List (Option (Option Nat))} {v : Int32} (j : Nat) (X : Cx θ strs cc nL own fr lo) (hd : decode cc pc = .ok (.putfield idx, 3)) (hF : FC ci C T N ty) (hl : Cond.fieldLinkNest own idx C (T j).2.1 (T j).2.2.1 host ∈ g_NW) (hT : (T j).1 = C) (hj : j < N) (hfin : (T j).2.2.2 = false) (hty : ty j = .int) (hs : w.1[k]? = some (.inl (ci, fl))) (hf : fl[j]? = some none)
    (h : sto σ k j v f = r) (kk : ∀ σ', f σ' = r → G θ cs w σ' (pc + 3) L S) : G θ cs w σ pc L (.int v :: .ref (w.2 k) :: S) := by
  obtain ⟨p, l, e, R, s, m, args, below, meth, c, A, D, cA, Q⟩ := θ
  obtain ⟨hx, hb, hml, hown, hts, hlk, hA, hK, hfr, hlo⟩ := X
  intro H locs ls hl' hP hD hS
  obtain ⟨f1, f2, f3, f4⟩ := hF
  refine va_putN (D := D) (ci := ci) (ref := C) (v := .int v) (ty := .int) hx hb hts f2 ty f3 f4 hown hK.1 hP hD hS k (g_getO hs) f1 j hj (g_nw hK.2.1 hl) (fun _ h => by rw [hT] at h; exact h) hfin (by rw [f3 j hj, hty]) rfl rfl (by simpa using (List.getElem?_eq_some_iff.mp hf).1) hd (fun H1 locs1 hP1 hD1 hS1 => ?_)
  rw [g_setO hs hf] at hP1 hD1
  exact kk _ h H1 locs1 ls hl' hP1 hD1 hS1
theorem G_iald {β : Type} {f : Int32 → Option β} {r : β} {k n : Nat} {i : Int32} (X : Cx θ strs cc nL own fr lo) (hd : decode cc pc = .ok (.iaload, 1)) (hs : w.1[k]? = some (.inr (.inl (0, n)))) (h : ald σ k n i f = some r) (kk : ∀ v, f v = some r → G θ cs w σ (pc + 1) L (.int v :: S)) : G θ cs w σ pc L (.int i :: .ref (w.2 k) :: S) := by
  obtain ⟨p, l, e, R, s, m, args, below, meth, c, A, D, cA, Q⟩ := θ
  obtain ⟨hx, hb, hml, hown, hts, hlk, hA, hK, hfr, hlo⟩ := X
  intro H locs ls hl' hP hD hS
  unfold ald at h
  split at h
  next hin => exact va_iald (tys := g_tys cA) (t0 := 0) hx hb hK.1 hP k (g_getI hs) rfl (inb_vp hin) hd (kk _ h H locs ls hl' hP hD hS)
  next => cases h
theorem G_zald {β : Type} {f : Int32 → Option β} {r : β} {k n : Nat} {i : Int32} (X : Cx θ strs cc nL own fr lo) (hd : decode cc pc = .ok (.baload, 1)) (hs : w.1[k]? = some (.inr (.inl (1, n)))) (h : ald σ k n i f = some r) (kk : ∀ v, f v = some r → G θ cs w σ (pc + 1) L (.int v :: S)) : G θ cs w σ pc L (.int i :: .ref (w.2 k) :: S) := by
  obtain ⟨p, l, e, R, s, m, args, below, meth, c, A, D, cA, Q⟩ := θ
  obtain ⟨hx, hb, hml, hown, hts, hlk, hA, hK, hfr, hlo⟩ := X
  intro H locs ls hl' hP hD hS
  unfold ald at h
  split at h
  next hin => exact va_zald (tys := g_tys cA) (t0 := 1) hx hb hK.1 hP k (g_getZ hs) rfl (inb_vp hin) hd (kk _ h H locs ls hl' hP hD hS)
  next => cases h
theorem G_iast {β : Type} {f : St → Option β} {r : β} {k n : Nat} {i v : Int32} (X : Cx θ strs cc nL own fr lo) (hd : decode cc pc = .ok (.iastore, 1)) (hs : w.1[k]? = some (.inr (.inl (0, n)))) (h : ast σ k n i v f = some r) (kk : ∀ σ', f σ' = some r → G θ cs w σ' (pc + 1) L S) : G θ cs w σ pc L (.int v :: .int i :: .ref (w.2 k) :: S) := by
  obtain ⟨p, l, e, R, s, m, args, below, meth, c, A, D, cA, Q⟩ := θ
  obtain ⟨hx, hb, hml, hown, hts, hlk, hA, hK, hfr, hlo⟩ := X
  intro H locs ls hl' hP hD hS
  unfold ast at h
  split at h
  next hin =>
    refine va_iast (tys := g_tys cA) (t0 := 0) hx hb hK.1 hP hD hS k (g_getI hs) rfl (inb_vp hin) hd (fun H1 locs1 hP1 hD1 hS1 => ?_)
    rw [g_setI hs] at hP1 hD1
    exact kk _ h H1 locs1 ls hl' hP1 hD1 hS1
  next => cases h
theorem G_zast {β : Type} {f : St → Option β} {r : β} {k n : Nat} {i v : Int32} (X : Cx θ strs cc nL own fr lo) (hd : decode cc pc = .ok (.bastore, 1)) (hs : w.1[k]? = some (.inr (.inl (1, n)))) (h : asz σ k n i v f = some r) (kk : ∀ σ', f σ' = some r → G θ cs w σ' (pc + 1) L S) : G θ cs w σ pc L (.int v :: .int i :: .ref (w.2 k) :: S) := by
  obtain ⟨p, l, e, R, s, m, args, below, meth, c, A, D, cA, Q⟩ := θ
  obtain ⟨hx, hb, hml, hown, hts, hlk, hA, hK, hfr, hlo⟩ := X
  intro H locs ls hl' hP hD hS
  unfold asz at h
  split at h
  next hin =>
    refine va_zast (tys := g_tys cA) (t0 := 1) hx hb hK.1 hP hD hS k (g_getZ hs) rfl (inb_vp hin) hd (fun H1 locs1 hP1 hD1 hS1 => ?_)
    rw [g_setZ hs] at hP1 hD1
    exact kk _ h H1 locs1 ls hl' hP1 hD1 hS1
  next => cases h
theorem G_aald {k t : Nat} {ts : List (Option Nat)} {i : Int32} (X : Cx θ strs cc nL own fr lo) (hd : decode cc pc = .ok (.aaload, 1)) (hs : w.1[k]? = some (.inr (.inr ts))) (hin : inb i ts.length = true) (ht : ts[ix i]? = some (some t)) (kk : G θ cs w σ (pc + 1) L (.ref (w.2 t) :: S)) : G θ cs w σ pc L (.int i :: .ref (w.2 k) :: S) := by
  obtain ⟨p, l, e, R, s, m, args, below, meth, c, A, D, cA, Q⟩ := θ
  obtain ⟨hx, hb, hml, hown, hts, hlk, hA, hK, hfr, hlo⟩ := X
  intro H locs ls hl' hP hD hS
  refine va_aldq (tys := g_tys cA) (t0 := 3) (C := "Quasigrove$Grid") hx hb hK.1 hP k (g_getQ hs) rfl (inb_vp hin) hd ?_
  have hg : va_rf ((ts.getD i.toNatClampNeg none).map w.2) = .ref (w.2 t) := by
    have : ts.getD i.toNatClampNeg none = some t := by rw [List.getD_eq_getElem?_getD]; rw [show ts[i.toNatClampNeg]? = some (some t) from ht]; rfl
    rw [this]; rfl
  rw [hg]
  exact kk H locs ls hl' hP hD hS
theorem G_alen {k n kd : Nat} (v : Int32) (X : Cx θ strs cc nL own fr lo) (hd : decode cc pc = .ok (.arraylength, 1)) (hs : w.1[k]? = some (.inr (.inl (kd, n)))) (hkd : kd < 2) (hv : Int32.ofNat n = v) (kk : G θ cs w σ (pc + 1) L (.int v :: S)) : G θ cs w σ pc L (.ref (w.2 k) :: S) := by
  obtain ⟨p, l, e, R, s, m, args, below, meth, c, A, D, cA, Q⟩ := θ
  obtain ⟨hx, hb, hml, hown, hts, hlk, hA, hK, hfr, hlo⟩ := X
  intro H locs ls hl' hP hD hS
  match kd, hkd with
  | 0, _ => exact va_alen (tys := g_tys cA) (t0 := 0) (ty := .int) (x := (n, .inl (σ k))) hx hb hK.1 hP k (g_getI hs) rfl hv hd (kk H locs ls hl' hP hD hS)
  | 1, _ => exact va_alen (tys := g_tys cA) (t0 := 1) (ty := .boolean) (x := (n, .inl (σ k))) hx hb hK.1 hP k (g_getZ hs) rfl hv hd (kk H locs ls hl' hP hD hS)
theorem G_alenQ {k : Nat} {ts : List (Option Nat)} (v : Int32) (X : Cx θ strs cc nL own fr lo) (hd : decode cc pc = .ok (.arraylength, 1)) (hs : w.1[k]? = some (.inr (.inr ts))) (hv : Int32.ofNat ts.length = v) (kk : G θ cs w σ (pc + 1) L (.int v :: S)) : G θ cs w σ pc L (.ref (w.2 k) :: S) := by
  obtain ⟨p, l, e, R, s, m, args, below, meth, c, A, D, cA, Q⟩ := θ
  obtain ⟨hx, hb, hml, hown, hts, hlk, hA, hK, hfr, hlo⟩ := X
  intro H locs ls hl' hP hD hS
  exact va_alen (tys := g_tys cA) (t0 := 3) (ty := .object "Quasigrove$Grid") hx hb hK.1 hP k (g_getQ hs) rfl hv hd (kk H locs ls hl' hP hD hS)
/-! the end of a walk -/
theorem G_iret {r : Int32} {σ' : St} {v : Int32} (X : Cx θ strs cc nL own fr lo) (hq : Rq θ w (some .int) (some (.int r)) σ') (hd : decode cc pc = .ok (.ireturn, 1)) (h : some (v, σ) = some (r, σ')) : G θ (0, 0) w σ pc L [.int v] := by
  obtain ⟨p, l, e, R, s, m, args, below, meth, c, A, D, cA, Q⟩ := θ
  obtain ⟨hx, hb, hml, hown, hts, hlk, hA, hK, hfr, hlo⟩ := X
  obtain ⟨hr, rfl⟩ := hq
  intro H locs ls hl' hP hD hS
  cases h
  exact W.iret hx hb hr (fun t ht hW => ⟨rfl, by rw [ht]; exact hP, hS.F ht⟩) hS.2.2 hd
theorem G_iretp {r : Int32} {v : Int32} (X : Cx θ strs cc nL own fr lo) (hq : Rq θ w (some .int) (some (.int r)) σ) (hd : decode cc pc = .ok (.ireturn, 1)) (h : some v = some r) : G θ (0, 0) w σ pc L [.int v] := by
  cases h
  exact G_iret X hq hd rfl
theorem W.zret' {p : Program} {l : Launch} {e : Env} {R : Room} {s : State} {m : MethodId} {args : Array Value} {below : List Frame} {meth : Method} {c : Code} {H : Heap} {locs : List Loc} {cells slots : Nat} {cc : ByteArray} {Qc : Array Value → State → Outcome → State → Prop} {free : Addr → Prop} {v v' : Int32} {ty : FieldType} (hexec : p.tables.exec = Jvm.exec) (hb : c.code = cc) (hr : meth.sig.returnType = some ty) (hn : narrow ty (.int v) = .int v')
    (hq : ∀ t : State, t.heap = H → s.WarmedH t.vm → Qc args s (.returned (some (.int v'))) t) (hf : ∀ q ∈ locs, free q.base)
    {pc : Nat} {ls : Array Slot} (hdg : decode cc pc = .ok (.ireturn, 1)) (hlocks : meth.locks = false) : W p l e R s m args below meth c H locs cells slots (MQ below Qc args s cells slots free) (F0 m pc ls [.int v]) := by
  intro T hT X
  obtain ⟨fs, hret, hrun, hended, hW, hframe⟩ := X.leave (v := some (.int v')) (fun h => by rw [hr] at h; cases h)
  have hmeth' : T.vm.method? m = some meth := X.method'
  refine ⟨T.setFrames fs, ?_, .returned (some (.int v')), hrun, hended, hq _ hT hW, locs, ⟨⟨_, rfl⟩, hW, hframe⟩, hf⟩
  jvm_step X.here [X.here.top, hexec, hb, hdg, hmeth', hr, hn]
  (try refine ⟨rfl, ?_⟩); (try refine ⟨rfl, ?_⟩)
  first | (intro acts; rw [hret _ acts rfl rfl rfl]) | rw [hret _ _ rfl rfl rfl]
  exact Steps.refl _
theorem zb_nar (v : Int32) : narrow .boolean (.int v) = .int (zb v) := by
  simp only [zb, vp_nar]
  cases h : narrow .boolean (.int v) <;> simp [narrow] at h ⊢
theorem G_zret {r : Int32} {σ' : St} {v : Int32} (X : Cx θ strs cc nL own fr lo) (hq : Rq θ w (some .boolean) (some (.int r)) σ') (hd : decode cc pc = .ok (.ireturn, 1)) (h : some (zb v, σ) = some (r, σ')) : G θ (0, 0) w σ pc L [.int v] := by
  obtain ⟨p, l, e, R, s, m, args, below, meth, c, A, D, cA, Q⟩ := θ
  obtain ⟨hx, hb, hml, hown, hts, hlk, hA, hK, hfr, hlo⟩ := X
  obtain ⟨hr, rfl⟩ := hq
  intro H locs ls hl' hP hD hS
  cases h
  exact W.zret' hx hb hr (zb_nar v) (fun t ht hW => ⟨rfl, by rw [ht]; exact hP, hS.F ht⟩) hS.2.2 hd hlk
theorem G_zretp {r : Int32} {v : Int32} (X : Cx θ strs cc nL own fr lo) (hq : Rq θ w (some .boolean) (some (.int r)) σ) (hd : decode cc pc = .ok (.ireturn, 1)) (h : some (zb v) = some r) : G θ (0, 0) w σ pc L [.int v] := by
  cases h
  exact G_zret X hq hd rfl
theorem G_vret {σ' : St} (X : Cx θ strs cc nL own fr lo) (hq : Rq θ w none none σ') (hd : decode cc pc = .ok (.return_, 1)) (h : some ((), σ) = some ((), σ')) : G θ (0, 0) w σ pc L [] := by
  obtain ⟨p, l, e, R, s, m, args, below, meth, c, A, D, cA, Q⟩ := θ
  obtain ⟨hx, hb, hml, hown, hts, hlk, hA, hK, hfr, hlo⟩ := X
  obtain ⟨hr, rfl⟩ := hq
  intro H locs ls hl' hP hD hS
  cases h
  exact W.vret hx hb hr (fun t ht hW => ⟨rfl, by rw [ht]; exact hP, hS.F ht⟩) hS.2.2 hd
theorem G_aret {k k' : Nat} {C : String} {σ' : St} (X : Cx θ strs cc nL own fr lo) (hq : Rq θ w (some (.object C)) (some (.ref (w.2 k'))) σ') (hd : decode cc pc = .ok (.areturn, 1)) (h : some (k, σ) = some (k', σ')) : G θ (0, 0) w σ pc L [.ref (w.2 k)] := by
  obtain ⟨p, l, e, R, s, m, args, below, meth, c, A, D, cA, Q⟩ := θ
  obtain ⟨hx, hb, hml, hown, hts, hlk, hA, hK, hfr, hlo⟩ := X
  obtain ⟨hr, rfl⟩ := hq
  intro H locs ls hl' hP hD hS
  cases h
  exact W.aret hx hb hr (Or.inl ⟨C, rfl⟩) (Or.inr ⟨_, rfl⟩) (fun t ht hW => ⟨rfl, by rw [ht]; exact hP, hS.F ht⟩) hS.2.2 hd
end GH
