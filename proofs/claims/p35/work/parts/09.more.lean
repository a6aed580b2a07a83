/-! further rules, of one piece with the functions that a program prints -/
def FU : Nat := 1000000000000000000000000000000000000000000000000
def DP : Nat := 40
def decAll (cc : ByteArray) (T : List (Nat × Instr × Nat)) : Prop := ∀ q ∈ T, decode cc q.1 = .ok (q.2.1, q.2.2)
theorem dg {cc : ByteArray} {T : List (Nat × Instr × Nat)} (h : decAll cc T) (i : Nat) {pc n : Nat} {j : Instr} (hi : T[i]? = some (pc, j, n)) : decode cc pc = .ok (j, n) := h (pc, j, n) (List.mem_of_getElem? hi)
def gid (i : Nat) : Nat := 34 + 4 * i
def gok (k : Nat) : Prop := k = 2 ∨ k = 26 ∨ k = 30 ∨ ∃ i, i < 12 ∧ k = gid i
def gld {β : Type} (i : Int32) (f : Nat → Option β) : Option β := if inb i 12 = true then f (gid (ix i)) else none
def xi (x : Except Nat Int32) : Except Nat (Option Value) := match x with
  | .ok v => .ok (some (.int v))
  | .error e => .error e
def xv (x : Except Nat Unit) : Except Nat (Option Value) := match x with
  | .ok _ => .ok none
  | .error e => .error e
def xr (ad : Nat → Nat) (x : Except Nat Nat) : Except Nat (Option Value) := match x with
  | .ok k => .ok (some (.ref (ad k)))
  | .error e => .error e
theorem nosub {strs : List (String × Nat × String)} : ∀ q ∈ ([] : List (String × Nat × String)), q ∈ strs := fun _ h => absurd h List.not_mem_nil
section GM
variable {θ : Th} {cs : Nat × Nat} {w : Wd} {σ : St} {pc : Nat} {L : LV} {S : List Value} {strs : List (String × Nat × String)} {cc : ByteArray} {nL : Nat} {own : String} {fr lo : Nat}
theorem G_getI {ci N idx k : Nat} {C : String} {T : u_T} {ty : Nat → FieldType} {fl : List (Option (Option Nat))} (j : Nat) (X : Cx θ strs cc nL own fr lo) (hd : decode cc pc = .ok (.getfield idx, 3)) (hF : FC ci C T N ty) (hl : Cond.fieldLink own idx C (T j).2.1 (T j).2.2.1 ∈ g_GW) (hT : (T j).1 = C) (hj : j < N) (hs : w.1[k]? = some (.inl (ci, fl))) (hf : fl[j]? = some none)
    (kk : G θ cs w σ (pc + 3) L (.int (σ k j) :: S)) : G θ cs w σ pc L (.ref (w.2 k) :: S) := G_get j X hd hF hl hT hj hs hf kk
theorem G_getR {ci N idx k t : Nat} {C : String} {T : u_T} {ty : Nat → FieldType} {fl : List (Option (Option Nat))} (j : Nat) (X : Cx θ strs cc nL own fr lo) (hd : decode cc pc = .ok (.getfield idx, 3)) (hF : FC ci C T N ty) (hl : Cond.fieldLink own idx C (T j).2.1 (T j).2.2.1 ∈ g_GW) (hT : (T j).1 = C) (hj : j < N) (hs : w.1[k]? = some (.inl (ci, fl))) (hf : fl[j]? = some (some (some t)))
    (kk : G θ cs w σ (pc + 3) L (.ref (w.2 t) :: S)) : G θ cs w σ pc L (.ref (w.2 k) :: S) := G_get j X hd hF hl hT hj hs hf kk
theorem G_getIN {ci N idx k : Nat} {C host : String} {T : u_T} {ty : Nat → FieldType} {fl : List (Option (Option Nat))} (j : Nat) (X : Cx θ strs cc nL own fr lo) (hd : decode cc pc = .ok (.getfield idx, 3)) (hF : FC ci C T N ty) (hl : Cond.fieldLinkNest own idx C (T j).2.1 (T j).2.2.1 host ∈ g_NW) (hT : (T j).1 = C) (hj : j < N) (hs : w.1[k]? = some (.inl (ci, fl))) (hf : fl[j]? = some none)
    (kk : G θ cs w σ (pc + 3) L (.int (σ k j) :: S)) : G θ cs w σ pc L (.ref (w.2 k) :: S) := G_getN j X hd hF hl hT hj hs hf kk
theorem G_getRN {ci N idx k t : Nat} {C host : String} {T : u_T} {ty : Nat → FieldType} {fl : List (Option (Option Nat))} (j : Nat) (X : Cx θ strs cc nL own fr lo) (hd : decode cc pc = .ok (.getfield idx, 3)) (hF : FC ci C T N ty) (hl : Cond.fieldLinkNest own idx C (T j).2.1 (T j).2.2.1 host ∈ g_NW) (hT : (T j).1 = C) (hj : j < N) (hs : w.1[k]? = some (.inl (ci, fl))) (hf : fl[j]? = some (some (some t)))
    (kk : G θ cs w σ (pc + 3) L (.ref (w.2 t) :: S)) : G θ cs w σ pc L (.ref (w.2 k) :: S) := G_getN j X hd hF hl hT hj hs hf kk
theorem G_wk {L' : LV} (k : G θ cs w σ pc L' S) (hs : lsub L' L) : G θ cs w σ pc L S := G_weak hs k
theorem G_istore_n_lt {β : Type} {f : Int32 → β} {r : β} {k4 : Fin 4} (i : Nat) {x : Int32} (X : Cx θ strs cc nL own fr lo) (hd : decode cc pc = .ok (.istore_n k4, 1)) (hi : (k4 : Nat) = i) (hn : i < nL) (ok : okSt L i = true) (h : lt1 x f = r) (k : ∀ y, f y = r → G θ cs w σ (pc + 1) (L.set i (some (.int y))) S) : G θ cs w σ pc L (.int x :: S) := G_istore_n i X hd hi hn ok (k x h)
theorem G_istore_lt {β : Type} {f : Int32 → β} {r : β} {i : Nat} {x : Int32} (X : Cx θ strs cc nL own fr lo) (hd : decode cc pc = .ok (.istore i, 2)) (hn : i < nL) (ok : okSt L i = true) (h : lt1 x f = r) (k : ∀ y, f y = r → G θ cs w σ (pc + 2) (L.set i (some (.int y))) S) : G θ cs w σ pc L (.int x :: S) := G_istore X hd hn ok (k x h)
theorem G_lstore_n_lt {β : Type} {f : Int64 → β} {r : β} {k4 : Fin 4} (i : Nat) {x : Int64} (X : Cx θ strs cc nL own fr lo) (hd : decode cc pc = .ok (.lstore_n k4, 1)) (hi : (k4 : Nat) = i) (hn : i + 1 < nL) (ok : okSt L i = true) (h : lt1 x f = r) (k : ∀ y, f y = r → G θ cs w σ (pc + 1) ((L.set i (some (.long y))).set (i + 1) none) S) : G θ cs w σ pc L (.long x :: S) := G_lstore_n i X hd hi hn ok (k x h)
theorem G_lstore_lt {β : Type} {f : Int64 → β} {r : β} {i : Nat} {x : Int64} (X : Cx θ strs cc nL own fr lo) (hd : decode cc pc = .ok (.lstore i, 2)) (hn : i + 1 < nL) (ok : okSt L i = true) (h : lt1 x f = r) (k : ∀ y, f y = r → G θ cs w σ (pc + 2) ((L.set i (some (.long y))).set (i + 1) none) S) : G θ cs w σ pc L (.long x :: S) := G_lstore X hd hn ok (k x h)
theorem G_zretl {r : Int32} {σ' : St} {v : Int32} (X : Cx θ strs cc nL own fr lo) (hq : Rq θ w (some .boolean) (some (.int r)) σ') (hd : decode cc pc = .ok (.ireturn, 1)) (hz : zb v = v) (h : some (v, σ) = some (r, σ')) : G θ (0, 0) w σ pc L [.int v] := G_zret X hq hd (by rw [hz]; exact h)
theorem G_zretlp {r : Int32} {v : Int32} (X : Cx θ strs cc nL own fr lo) (hq : Rq θ w (some .boolean) (some (.int r)) σ) (hd : decode cc pc = .ok (.ireturn, 1)) (hz : zb v = v) (h : some v = some r) : G θ (0, 0) w σ pc L [.int v] := G_zretp X hq hd (by rw [hz]; exact h)
theorem G_vretp {r : Unit} (X : Cx θ strs cc nL own fr lo) (hq : Rq θ w none none σ) (hd : decode cc pc = .ok (.return_, 1)) (_ : some () = some r) : G θ (0, 0) w σ pc L [] := G_vret X hq hd rfl
theorem G_xiret {x : Except Nat Int32} {σ' : St} {v : Int32} (X : Cx θ strs cc nL own fr lo) (hq : Xq θ w (some .int) (xi x) σ') (hd : decode cc pc = .ok (.ireturn, 1)) (h : some (Except.ok v, σ) = some (x, σ')) : G θ (0, 0) w σ pc L [.int v] := by
  cases h
  exact G_iret X hq hd rfl
theorem G_xzret {x : Except Nat Int32} {σ' : St} {v : Int32} (X : Cx θ strs cc nL own fr lo) (hq : Xq θ w (some .boolean) (xi x) σ') (hd : decode cc pc = .ok (.ireturn, 1)) (h : some (Except.ok (zb v), σ) = some (x, σ')) : G θ (0, 0) w σ pc L [.int v] := by
  cases h
  exact G_zret X hq hd rfl
theorem G_xzretl {x : Except Nat Int32} {σ' : St} {v : Int32} (X : Cx θ strs cc nL own fr lo) (hq : Xq θ w (some .boolean) (xi x) σ') (hd : decode cc pc = .ok (.ireturn, 1)) (hz : zb v = v) (h : some (Except.ok v, σ) = some (x, σ')) : G θ (0, 0) w σ pc L [.int v] := by
  cases h
  exact G_zretl X hq hd hz rfl
theorem G_xvret {x : Except Nat Unit} {σ' : St} (X : Cx θ strs cc nL own fr lo) (hq : Xq θ w none (xv x) σ') (hd : decode cc pc = .ok (.return_, 1)) (h : some (Except.ok (), σ) = some (x, σ')) : G θ (0, 0) w σ pc L [] := by
  cases h
  exact G_vret X hq hd rfl
theorem G_xaret {C : String} {x : Except Nat Nat} {σ' : St} {k : Nat} (X : Cx θ strs cc nL own fr lo) (hq : Xq θ w (some (.object C)) (xr w.2 x) σ') (hd : decode cc pc = .ok (.areturn, 1)) (h : some (Except.ok k, σ) = some (x, σ')) : G θ (0, 0) w σ pc L [.ref (w.2 k)] := by
  cases h
  exact G_aret X hq hd rfl
theorem G_xthrow {α : Type} {f : Except Nat α → Except Nat (Option Value)} {text : String} {names : List String} {ik is ic e : Nat} {ret : Option FieldType} {x : Except Nat α} {σ' : St} (X : Cx θ strs cc nL own fr lo) (hq : Xq θ w ret (f x) σ') (tw : TW own (g_xn e) ik ic names) (hstr : (own, is, text) ∈ strs)
    (d0 : decode cc pc = .ok (.new ik, 3)) (d3 : decode cc (pc + 3) = .ok (.dup, 1)) (d4 : decode cc (pc + 4) = .ok (.ldc_w is, 3)) (d7 : decode cc (pc + 7) = .ok (.invokespecial ic, 3)) (d10 : decode cc (pc + 10) = .ok (.athrow, 1))
    (h : some (Except.error e, σ) = some (x, σ')) (hRf : names.length + 3 < fr) (hRl : (S.map fun v => v.category).sum + (13 * (names.length + 1) + 43) ≤ lo) (hfe : f (.error e) = .error e := by rfl) : G θ (0, 0) w σ pc L S := by
  cases h
  rw [hfe] at hq
  exact G_throw X hq tw hstr d0 d3 d4 d7 d10 hRf hRl
theorem i32_ne {x k : Int32} {p : Int} (e : k.toInt = p) (h : ¬ x = k) : ¬ p = x.toInt := fun q => h (Int32.toInt_inj.mp (by rw [e, ← q]))
theorem G_lookup2 {α : Type} {a1 a2 d r : α} {x k1 k2 : Int32} {p1 p2 o1 o2 dflt : Int} {len : Nat} (t1 t2 t3 : Nat) (X : Cx θ strs cc nL own fr lo) (hd : decode cc pc = .ok (.lookupswitch dflt #[(p1, o1), (p2, o2)], len)) (hp : p1 < p2) (e1 : k1.toInt = p1) (e2 : k2.toInt = p2) (g1 : (pc : Int) + o1 = (t1 : Int)) (g2 : (pc : Int) + o2 = (t2 : Int)) (g3 : (pc : Int) + dflt = (t3 : Int))
    (h : (if x = k1 then a1 else if x = k2 then a2 else d) = r) (c1 : a1 = r → G θ cs w σ t1 L S) (c2 : a2 = r → G θ cs w σ t2 L S) (c3 : d = r → G θ cs w σ t3 L S) : G θ cs w σ pc L (.int x :: S) := by
  have hps : ((#[(p1, o1), (p2, o2)] : Array (Int × Int)).toList.zip ((#[(p1, o1), (p2, o2)] : Array (Int × Int)).toList.drop 1)).all (fun (a, next) => a.1 < next.1) = true := by simp [hp]
  obtain ⟨p, l, e, R, s, m, args, below, meth, c, A, D, cA, Q⟩ := θ
  obtain ⟨hx, hb, hml, hown, hts, hlk, hA, hK, hfr, hlo⟩ := X
  intro H locs ls hl hP hD hS
  by_cases h1 : x = k1
  · rw [if_pos h1] at h
    exact lv_lookup hx hb hd hps (off := o1) (by subst h1; simp [Op.lookupswitch.offset, e1]) g1 (c1 h H locs ls hl hP hD hS)
  · rw [if_neg h1] at h
    have n1 := i32_ne e1 h1
    by_cases h2 : x = k2
    · rw [if_pos h2] at h
      exact lv_lookup hx hb hd hps (off := o2) (by subst h2; rw [e2] at n1; simp [Op.lookupswitch.offset, e2, n1]) g2 (c2 h H locs ls hl hP hD hS)
    · rw [if_neg h2] at h
      have n2 := i32_ne e2 h2
      exact lv_lookup hx hb hd hps (off := dflt) (by simp [Op.lookupswitch.offset, n1, n2]) g3 (c3 h H locs ls hl hP hD hS)
theorem G_table3 {α : Type} {a0 a1 a2 d r : α} {x : Int32} {o0 o1 o2 dflt hi : Int} {len : Nat} (t0 t1 t2 td : Nat) (X : Cx θ strs cc nL own fr lo) (hd : decode cc pc = .ok (.tableswitch dflt 0 hi #[o0, o1, o2], len)) (hhi : hi = 2) (g0 : (pc : Int) + o0 = (t0 : Int)) (g1 : (pc : Int) + o1 = (t1 : Int)) (g2 : (pc : Int) + o2 = (t2 : Int)) (gd : (pc : Int) + dflt = (td : Int))
    (h : (if x = 0 then a0 else if x = 1 then a1 else if x = 2 then a2 else d) = r) (c0 : a0 = r → G θ cs w σ t0 L S) (c1 : a1 = r → G θ cs w σ t1 L S) (c2 : a2 = r → G θ cs w σ t2 L S) (cd : d = r → G θ cs w σ td L S) : G θ cs w σ pc L (.int x :: S) := by
  obtain ⟨p, l, e, R, s, m, args, below, meth, c, A, D, cA, Q⟩ := θ
  obtain ⟨hx, hb, hml, hown, hts, hlk, hA, hK, hfr, hlo⟩ := X
  intro H locs ls hl hP hD hS
  subst hhi
  by_cases h0 : x = 0
  · rw [if_pos h0] at h
    exact lv_tableIn hx hb hd (off := o0) (by subst h0; decide) (by subst h0; decide) (by subst h0; rfl) g0 (c0 h H locs ls hl hP hD hS)
  · rw [if_neg h0] at h
    have n0 := i32_ne (x := x) (k := 0) (p := 0) (by decide) h0
    by_cases h1 : x = 1
    · rw [if_pos h1] at h
      exact lv_tableIn hx hb hd (off := o1) (by subst h1; decide) (by subst h1; decide) (by subst h1; rfl) g1 (c1 h H locs ls hl hP hD hS)
    · rw [if_neg h1] at h
      have n1 := i32_ne (x := x) (k := 1) (p := 1) (by decide) h1
      by_cases h2 : x = 2
      · rw [if_pos h2] at h
        exact lv_tableIn hx hb hd (off := o2) (by subst h2; decide) (by subst h2; decide) (by subst h2; rfl) g2 (c2 h H locs ls hl hP hD hS)
      · rw [if_neg h2] at h
        have n2 := i32_ne (x := x) (k := 2) (p := 2) (by decide) h2
        exact lv_tableOut hx hb hd (by omega) gd (cd h H locs ls hl hP hD hS)
theorem G_table4 {α : Type} {a0 a1 a2 a3 d r : α} {x : Int32} {o0 o1 o2 o3 dflt hi : Int} {len : Nat} (t0 t1 t2 t3 td : Nat) (X : Cx θ strs cc nL own fr lo) (hd : decode cc pc = .ok (.tableswitch dflt 0 hi #[o0, o1, o2, o3], len)) (hhi : hi = 3) (g0 : (pc : Int) + o0 = (t0 : Int)) (g1 : (pc : Int) + o1 = (t1 : Int)) (g2 : (pc : Int) + o2 = (t2 : Int)) (g3 : (pc : Int) + o3 = (t3 : Int)) (gd : (pc : Int) + dflt = (td : Int))
    (h : (if x = 0 then a0 else if x = 1 then a1 else if x = 2 then a2 else if x = 3 then a3 else d) = r) (c0 : a0 = r → G θ cs w σ t0 L S) (c1 : a1 = r → G θ cs w σ t1 L S) (c2 : a2 = r → G θ cs w σ t2 L S) (c3 : a3 = r → G θ cs w σ t3 L S) (cd : d = r → G θ cs w σ td L S) : G θ cs w σ pc L (.int x :: S) := by
  obtain ⟨p, l, e, R, s, m, args, below, meth, c, A, D, cA, Q⟩ := θ
  obtain ⟨hx, hb, hml, hown, hts, hlk, hA, hK, hfr, hlo⟩ := X
  intro H locs ls hl hP hD hS
  subst hhi
  by_cases h0 : x = 0
  · rw [if_pos h0] at h
    exact lv_tableIn hx hb hd (off := o0) (by subst h0; decide) (by subst h0; decide) (by subst h0; rfl) g0 (c0 h H locs ls hl hP hD hS)
  · rw [if_neg h0] at h
    have n0 := i32_ne (x := x) (k := 0) (p := 0) (by decide) h0
    by_cases h1 : x = 1
    · rw [if_pos h1] at h
      exact lv_tableIn hx hb hd (off := o1) (by subst h1; decide) (by subst h1; decide) (by subst h1; rfl) g1 (c1 h H locs ls hl hP hD hS)
    · rw [if_neg h1] at h
      have n1 := i32_ne (x := x) (k := 1) (p := 1) (by decide) h1
      by_cases h2 : x = 2
      · rw [if_pos h2] at h
        exact lv_tableIn hx hb hd (off := o2) (by subst h2; decide) (by subst h2; decide) (by subst h2; rfl) g2 (c2 h H locs ls hl hP hD hS)
      · rw [if_neg h2] at h
        have n2 := i32_ne (x := x) (k := 2) (p := 2) (by decide) h2
        by_cases h3 : x = 3
        · rw [if_pos h3] at h
          exact lv_tableIn hx hb hd (off := o3) (by subst h3; decide) (by subst h3; decide) (by subst h3; rfl) g3 (c3 h H locs ls hl hP hD hS)
        · rw [if_neg h3] at h
          have n3 := i32_ne (x := x) (k := 3) (p := 3) (by decide) h3
          exact lv_tableOut hx hb hd (by omega) gd (cd h H locs ls hl hP hD hS)
theorem G_table5 {α : Type} {a0 a1 a2 a3 a4 d r : α} {x : Int32} {o0 o1 o2 o3 o4 dflt hi : Int} {len : Nat} (t0 t1 t2 t3 t4 td : Nat) (X : Cx θ strs cc nL own fr lo) (hd : decode cc pc = .ok (.tableswitch dflt 0 hi #[o0, o1, o2, o3, o4], len)) (hhi : hi = 4) (g0 : (pc : Int) + o0 = (t0 : Int)) (g1 : (pc : Int) + o1 = (t1 : Int)) (g2 : (pc : Int) + o2 = (t2 : Int)) (g3 : (pc : Int) + o3 = (t3 : Int)) (g4 : (pc : Int) + o4 = (t4 : Int)) (gd : (pc : Int) + dflt = (td : Int))
    (h : (if x = 0 then a0 else if x = 1 then a1 else if x = 2 then a2 else if x = 3 then a3 else if x = 4 then a4 else d) = r) (c0 : a0 = r → G θ cs w σ t0 L S) (c1 : a1 = r → G θ cs w σ t1 L S) (c2 : a2 = r → G θ cs w σ t2 L S) (c3 : a3 = r → G θ cs w σ t3 L S) (c4 : a4 = r → G θ cs w σ t4 L S) (cd : d = r → G θ cs w σ td L S) : G θ cs w σ pc L (.int x :: S) := by
  obtain ⟨p, l, e, R, s, m, args, below, meth, c, A, D, cA, Q⟩ := θ
  obtain ⟨hx, hb, hml, hown, hts, hlk, hA, hK, hfr, hlo⟩ := X
  intro H locs ls hl hP hD hS
  subst hhi
  by_cases h0 : x = 0
  · rw [if_pos h0] at h
    exact lv_tableIn hx hb hd (off := o0) (by subst h0; decide) (by subst h0; decide) (by subst h0; rfl) g0 (c0 h H locs ls hl hP hD hS)
  · rw [if_neg h0] at h
    have n0 := i32_ne (x := x) (k := 0) (p := 0) (by decide) h0
    by_cases h1 : x = 1
    · rw [if_pos h1] at h
      exact lv_tableIn hx hb hd (off := o1) (by subst h1; decide) (by subst h1; decide) (by subst h1; rfl) g1 (c1 h H locs ls hl hP hD hS)
    · rw [if_neg h1] at h
      have n1 := i32_ne (x := x) (k := 1) (p := 1) (by decide) h1
      by_cases h2 : x = 2
      · rw [if_pos h2] at h
        exact lv_tableIn hx hb hd (off := o2) (by subst h2; decide) (by subst h2; decide) (by subst h2; rfl) g2 (c2 h H locs ls hl hP hD hS)
      · rw [if_neg h2] at h
        have n2 := i32_ne (x := x) (k := 2) (p := 2) (by decide) h2
        by_cases h3 : x = 3
        · rw [if_pos h3] at h
          exact lv_tableIn hx hb hd (off := o3) (by subst h3; decide) (by subst h3; decide) (by subst h3; rfl) g3 (c3 h H locs ls hl hP hD hS)
        · rw [if_neg h3] at h
          have n3 := i32_ne (x := x) (k := 3) (p := 3) (by decide) h3
          by_cases h4 : x = 4
          · rw [if_pos h4] at h
            exact lv_tableIn hx hb hd (off := o4) (by subst h4; decide) (by subst h4; decide) (by subst h4; rfl) g4 (c4 h H locs ls hl hP hD hS)
          · rw [if_neg h4] at h
            have n4 := i32_ne (x := x) (k := 4) (p := 4) (by decide) h4
            exact lv_tableOut hx hb hd (by omega) gd (cd h H locs ls hl hP hD hS)
def mmax (x y : Int32) : Int32 := if x < y then y else x
def mmin (x y : Int32) : Int32 := if y < x then y else x
theorem G_mmax {idx : Nat} {x y : Int32} (X : Cx θ strs cc nL own fr lo) (hd : decode cc pc = .ok (.invokestatic idx, 3)) (hl : Cond.methodLink own idx Lib.Math.max.name ∈ g_GW) (h2 : Cond.static Lib.Math.max.name ∈ g_GW) (h3 : Cond.initialized "java/lang/Math" ∈ g_GW) (h4 : Cond.code Lib.Math.max.name Lib.Math.max.code 2 (some .int) ∈ g_GW) (hfr' : 1 ≤ fr) (hlo' : (S.map fun v => v.category).sum + 13 ≤ lo) (hcs : Rc θ cs) (k : G θ cs w σ (pc + 3) L (.int (mmax x y) :: S)) : G θ cs w σ pc L (.int y :: .int x :: S) := by
  obtain ⟨p, l, e, R, s, m, args, below, meth, c, A, D, cA, Q⟩ := θ
  obtain ⟨hx, hb, hml, hown, hts, hlk, hA, hK, hfr, hlo⟩ := X
  intro H locs ls hl' hP hD hS
  exact va_mmax hx hb hl'.1.symm hown (hts _ hl) (hts _ h2) (hts _ h3) (hts _ h4) (Nat.le_trans hfr' hfr) (Nat.le_trans hlo' hlo) hcs.1 hcs.2 hd (k H locs ls hl' hP hD hS)
theorem G_mmin {idx : Nat} {x y : Int32} (X : Cx θ strs cc nL own fr lo) (hd : decode cc pc = .ok (.invokestatic idx, 3)) (hl : Cond.methodLink own idx Lib.Math.min.name ∈ g_GW) (h2 : Cond.static Lib.Math.min.name ∈ g_GW) (h3 : Cond.initialized "java/lang/Math" ∈ g_GW) (h4 : Cond.code Lib.Math.min.name Lib.Math.min.code 2 (some .int) ∈ g_GW) (hfr' : 1 ≤ fr) (hlo' : (S.map fun v => v.category).sum + 13 ≤ lo) (hcs : Rc θ cs) (k : G θ cs w σ (pc + 3) L (.int (mmin x y) :: S)) : G θ cs w σ pc L (.int y :: .int x :: S) := by
  obtain ⟨p, l, e, R, s, m, args, below, meth, c, A, D, cA, Q⟩ := θ
  obtain ⟨hx, hb, hml, hown, hts, hlk, hA, hK, hfr, hlo⟩ := X
  intro H locs ls hl' hP hD hS
  exact va_mmin hx hb hl'.1.symm hown (hts _ hl) (hts _ h2) (hts _ h3) (hts _ h4) (Nat.le_trans hfr' hfr) (Nat.le_trans hlo' hlo) hcs.1 hcs.2 hd (k H locs ls hl' hP hD hS)
end GM
