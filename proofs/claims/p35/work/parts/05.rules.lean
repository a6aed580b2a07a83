section GR
variable {θ : Th} {cs : Nat × Nat} {w : Wd} {σ : St} {pc : Nat} {L : LV} {S : List Value} {strs : List (String × Nat × String)} {cc : ByteArray} {nL : Nat} {own : String} {fr lo : Nat}
theorem G_weak {L' : LV} (hs : lsub L' L) (k : G θ cs w σ pc L' S) : G θ cs w σ pc L S := by
  obtain ⟨p, l, e, R, s, m, args, below, meth, c, A, D, cA, Q⟩ := θ
  intro H locs ls hl hP hD hS
  exact k H locs ls (hl.sub hs) hP hD hS
/-! function words -/
def lt1 {α β : Type} (e : α) (f : α → β) : β := f e
def jn {α β : Type} (k : α) (f : α → β) : β := f k
def inb (i : Int32) (n : Nat) : Bool := decide (0 ≤ i) && decide (i.toNatClampNeg < n)
def ix (i : Int32) : Nat := i.toNatClampNeg
def ald {β : Type} (σ : St) (k n : Nat) (i : Int32) (f : Int32 → Option β) : Option β := if inb i n = true then f (σ k (ix i)) else none
def ast {β : Type} (σ : St) (k n : Nat) (i v : Int32) (f : St → Option β) : Option β := if inb i n = true then f (wr σ k (ix i) v) else none
def asz {β : Type} (σ : St) (k n : Nat) (i v : Int32) (f : St → Option β) : Option β := if inb i n = true then f (wr σ k (ix i) (vp_nar .boolean v)) else none
def sto {β : Type} (σ : St) (k j : Nat) (v : Int32) (f : St → β) : β := f (wr σ k j v)
def dvi {β : Type} (x y : Int32) (f : Int32 → Option β) : Option β := if y = 0 then none else f (x / y)
def rmi {β : Type} (x y : Int32) (f : Int32 → Option β) : Option β := if y = 0 then none else f (x - x / y * y)
def dvl {β : Type} (x y : Int64) (f : Int64 → Option β) : Option β := if y = 0 then none else f (x / y)
def rml {β : Type} (x y : Int64) (f : Int64 → Option β) : Option β := if y = 0 then none else f (x - x / y * y)
def cal {α β : Type} (o : Option (α × St)) (f : α → St → Option β) : Option β := match o with
  | none => none
  | some (v, σ) => f v σ
def cap {α β : Type} (o : Option α) (f : α → Option β) : Option β := match o with
  | none => none
  | some v => f v
def zb (v : Int32) : Int32 := vp_nar .boolean v
theorem inb_vp {i : Int32} {n : Nat} (h : inb i n = true) : vp_in i n := by
  simp only [inb, Bool.and_eq_true, decide_eq_true_eq] at h
  rintro (h1 | h1)
  · exact absurd h.1 (Int32.not_le.mpr h1)
  · omega
theorem jn_go {α β : Type} {k : α} {f : α → β} {r : β} {C : Prop} (P : α → Prop) (h : jn k f = r) (hP : P k) (hc : ∀ j, P j → f j = r → C) : C := hc k hP h
theorem cal_go {α β : Type} {o : Option (α × St)} {f : α → St → Option β} {r : β} (h : cal o f = some r) : ∃ v σ, o = some (v, σ) ∧ f v σ = some r := by
  cases o with
  | none => cases h
  | some q => exact ⟨q.1, q.2, rfl, h⟩
theorem cap_go {α β : Type} {o : Option α} {f : α → Option β} {r : β} (h : cap o f = some r) : ∃ v, o = some v ∧ f v = some r := by
  cases o with
  | none => cases h
  | some q => exact ⟨q, rfl, h⟩
theorem if_go {α : Type} {c : Prop} [Decidable c] {a b r : α} {C : Prop} (h : (if c then a else b) = r) (kt : c → a = r → C) (kf : ¬ c → b = r → C) : C := by
  by_cases hc : c
  · exact kt hc (by rw [if_pos hc] at h; exact h)
  · exact kf hc (by rw [if_neg hc] at h; exact h)

theorem G_iconst {n : Int} (v : Int32) (X : Cx θ strs cc nL own fr lo) (hd : decode cc pc = .ok (.iconst n, 1)) (hv : Int32.ofInt n = v) (k : G θ cs w σ (pc + 1) L (.int v :: S)) : G θ cs w σ pc L S := by
  obtain ⟨p, l, e, R, s, m, args, below, meth, c, A, D, cA, Q⟩ := θ
  obtain ⟨hx, hb, hml, hown, hts, hlk, hA, hK, hfr, hlo⟩ := X
  intro H locs ls hl hP hD hS
  exact lv_iconst hx hb hd hv (k H locs ls hl hP hD hS)
theorem G_bipush {n : Int} (v : Int32) (X : Cx θ strs cc nL own fr lo) (hd : decode cc pc = .ok (.bipush n, 2)) (hv : (Int8.ofInt n).toInt32 = v) (k : G θ cs w σ (pc + 2) L (.int v :: S)) : G θ cs w σ pc L S := by
  obtain ⟨p, l, e, R, s, m, args, below, meth, c, A, D, cA, Q⟩ := θ
  obtain ⟨hx, hb, hml, hown, hts, hlk, hA, hK, hfr, hlo⟩ := X
  intro H locs ls hl hP hD hS
  exact lv_bipush hx hb hd hv (k H locs ls hl hP hD hS)
theorem G_sipush {n : Int} (v : Int32) (X : Cx θ strs cc nL own fr lo) (hd : decode cc pc = .ok (.sipush n, 3)) (hv : (Int16.ofInt n).toInt32 = v) (k : G θ cs w σ (pc + 3) L (.int v :: S)) : G θ cs w σ pc L S := by
  obtain ⟨p, l, e, R, s, m, args, below, meth, c, A, D, cA, Q⟩ := θ
  obtain ⟨hx, hb, hml, hown, hts, hlk, hA, hK, hfr, hlo⟩ := X
  intro H locs ls hl hP hD hS
  exact lv_sipush hx hb hd hv (k H locs ls hl hP hD hS)
theorem G_lconst {n : Fin 2} (v : Int64) (X : Cx θ strs cc nL own fr lo) (hd : decode cc pc = .ok (.lconst n, 1)) (hv : Int64.ofNat (n : Nat) = v) (k : G θ cs w σ (pc + 1) L (.long v :: S)) : G θ cs w σ pc L S := by
  obtain ⟨p, l, e, R, s, m, args, below, meth, c, A, D, cA, Q⟩ := θ
  obtain ⟨hx, hb, hml, hown, hts, hlk, hA, hK, hfr, hlo⟩ := X
  intro H locs ls hl hP hD hS
  exact lv_lconst hx hb hd hv (k H locs ls hl hP hD hS)
theorem G_ldc {i : Nat} {v : Int32} (X : Cx θ strs cc nL own fr lo) (hd : decode cc pc = .ok (.ldc i, 2)) (hc : Cond.constant own i v ∈ g_GW) (k : G θ cs w σ (pc + 2) L (.int v :: S)) : G θ cs w σ pc L S := by
  obtain ⟨p, l, e, R, s, m, args, below, meth, c, A, D, cA, Q⟩ := θ
  obtain ⟨hx, hb, hml, hown, hts, hlk, hA, hK, hfr, hlo⟩ := X
  intro H locs ls hl hP hD hS
  exact lv_ldc hx hb hown (hts _ hc) hd (k H locs ls hl hP hD hS)
theorem G_ldcw {i : Nat} {v : Int32} (X : Cx θ strs cc nL own fr lo) (hd : decode cc pc = .ok (.ldc_w i, 3)) (hc : Cond.constant own i v ∈ g_GW) (k : G θ cs w σ (pc + 3) L (.int v :: S)) : G θ cs w σ pc L S := by
  obtain ⟨p, l, e, R, s, m, args, below, meth, c, A, D, cA, Q⟩ := θ
  obtain ⟨hx, hb, hml, hown, hts, hlk, hA, hK, hfr, hlo⟩ := X
  intro H locs ls hl hP hD hS
  exact lv_ldcw hx hb hown (hts _ hc) hd (k H locs ls hl hP hD hS)
theorem G_ldc2 {i : Nat} {v : Int64} (X : Cx θ strs cc nL own fr lo) (hd : decode cc pc = .ok (.ldc2_w i, 3)) (hc : Cond.constantLong own i v ∈ g_GW) (k : G θ cs w σ (pc + 3) L (.long v :: S)) : G θ cs w σ pc L S := by
  obtain ⟨p, l, e, R, s, m, args, below, meth, c, A, D, cA, Q⟩ := θ
  obtain ⟨hx, hb, hml, hown, hts, hlk, hA, hK, hfr, hlo⟩ := X
  intro H locs ls hl hP hD hS
  exact lv_ldc2 hx hb hown (hts _ hc) hd (k H locs ls hl hP hD hS)

theorem G_iload_n {k4 : Fin 4} (i : Nat) {x : Int32} (X : Cx θ strs cc nL own fr lo) (hd : decode cc pc = .ok (.iload_n k4, 1)) (hi : (k4 : Nat) = i) (hl' : L[i]? = some (some (.int x))) (k : G θ cs w σ (pc + 1) L (.int x :: S)) : G θ cs w σ pc L S := by
  obtain ⟨p, l, e, R, s, m, args, below, meth, c, A, D, cA, Q⟩ := θ
  obtain ⟨hx, hb, hml, hown, hts, hlk, hA, hK, hfr, hlo⟩ := X
  intro H locs ls hl hP hD hS
  exact lv_iload_n hx hb hd hi (hl.at hl') (k H locs ls hl hP hD hS)
theorem G_iload {i : Nat} {x : Int32} (X : Cx θ strs cc nL own fr lo) (hd : decode cc pc = .ok (.iload i, 2)) (hl' : L[i]? = some (some (.int x))) (k : G θ cs w σ (pc + 2) L (.int x :: S)) : G θ cs w σ pc L S := by
  obtain ⟨p, l, e, R, s, m, args, below, meth, c, A, D, cA, Q⟩ := θ
  obtain ⟨hx, hb, hml, hown, hts, hlk, hA, hK, hfr, hlo⟩ := X
  intro H locs ls hl hP hD hS
  exact lv_iload hx hb hd (hl.at hl') (k H locs ls hl hP hD hS)

theorem G_lload_n {k4 : Fin 4} (i : Nat) {x : Int64} (X : Cx θ strs cc nL own fr lo) (hd : decode cc pc = .ok (.lload_n k4, 1)) (hi : (k4 : Nat) = i) (hl' : L[i]? = some (some (.long x))) (k : G θ cs w σ (pc + 1) L (.long x :: S)) : G θ cs w σ pc L S := by
  obtain ⟨p, l, e, R, s, m, args, below, meth, c, A, D, cA, Q⟩ := θ
  obtain ⟨hx, hb, hml, hown, hts, hlk, hA, hK, hfr, hlo⟩ := X
  intro H locs ls hl hP hD hS
  exact lv_lload_n hx hb hd hi (hl.at hl') (k H locs ls hl hP hD hS)
theorem G_lload {i : Nat} {x : Int64} (X : Cx θ strs cc nL own fr lo) (hd : decode cc pc = .ok (.lload i, 2)) (hl' : L[i]? = some (some (.long x))) (k : G θ cs w σ (pc + 2) L (.long x :: S)) : G θ cs w σ pc L S := by
  obtain ⟨p, l, e, R, s, m, args, below, meth, c, A, D, cA, Q⟩ := θ
  obtain ⟨hx, hb, hml, hown, hts, hlk, hA, hK, hfr, hlo⟩ := X
  intro H locs ls hl hP hD hS
  exact lv_lload hx hb hd (hl.at hl') (k H locs ls hl hP hD hS)

theorem G_aload_n {k4 : Fin 4} (i : Nat) {x : Nat} (X : Cx θ strs cc nL own fr lo) (hd : decode cc pc = .ok (.aload_n k4, 1)) (hi : (k4 : Nat) = i) (hl' : L[i]? = some (some (.ref x))) (k : G θ cs w σ (pc + 1) L (.ref x :: S)) : G θ cs w σ pc L S := by
  obtain ⟨p, l, e, R, s, m, args, below, meth, c, A, D, cA, Q⟩ := θ
  obtain ⟨hx, hb, hml, hown, hts, hlk, hA, hK, hfr, hlo⟩ := X
  intro H locs ls hl hP hD hS
  exact lv_aload_n hx hb hd hi (hl.at hl') (k H locs ls hl hP hD hS)
theorem G_aload {i : Nat} {x : Nat} (X : Cx θ strs cc nL own fr lo) (hd : decode cc pc = .ok (.aload i, 2)) (hl' : L[i]? = some (some (.ref x))) (k : G θ cs w σ (pc + 2) L (.ref x :: S)) : G θ cs w σ pc L S := by
  obtain ⟨p, l, e, R, s, m, args, below, meth, c, A, D, cA, Q⟩ := θ
  obtain ⟨hx, hb, hml, hown, hts, hlk, hA, hK, hfr, hlo⟩ := X
  intro H locs ls hl hP hD hS
  exact lv_aload hx hb hd (hl.at hl') (k H locs ls hl hP hD hS)

theorem G_istore_n {k4 : Fin 4} (i : Nat) {x : Int32} (X : Cx θ strs cc nL own fr lo) (hd : decode cc pc = .ok (.istore_n k4, 1)) (hi : (k4 : Nat) = i) (hn : i < nL) (ok : okSt L i = true) (k : G θ cs w σ (pc + 1) (L.set i (some (.int x))) S) : G θ cs w σ pc L (.int x :: S) := by
  obtain ⟨p, l, e, R, s, m, args, below, meth, c, A, D, cA, Q⟩ := θ
  obtain ⟨hx, hb, hml, hown, hts, hlk, hA, hK, hfr, hlo⟩ := X
  intro H locs ls hl hP hD hS
  exact lv_istore_n hx hb hd hi hl.lv (by rw [hml]; exact hn) rfl (fun ls' h' => k H locs ls' (LH.set1 ok h') hP hD hS)
theorem G_istore {i : Nat} {x : Int32} (X : Cx θ strs cc nL own fr lo) (hd : decode cc pc = .ok (.istore i, 2)) (hn : i < nL) (ok : okSt L i = true) (k : G θ cs w σ (pc + 2) (L.set i (some (.int x))) S) : G θ cs w σ pc L (.int x :: S) := by
  obtain ⟨p, l, e, R, s, m, args, below, meth, c, A, D, cA, Q⟩ := θ
  obtain ⟨hx, hb, hml, hown, hts, hlk, hA, hK, hfr, hlo⟩ := X
  intro H locs ls hl hP hD hS
  exact lv_istore hx hb hd hl.lv (by rw [hml]; exact hn) rfl (fun ls' h' => k H locs ls' (LH.set1 ok h') hP hD hS)

theorem G_astore_n {k4 : Fin 4} (i : Nat) {x : Nat} (X : Cx θ strs cc nL own fr lo) (hd : decode cc pc = .ok (.astore_n k4, 1)) (hi : (k4 : Nat) = i) (hn : i < nL) (ok : okSt L i = true) (k : G θ cs w σ (pc + 1) (L.set i (some (.ref x))) S) : G θ cs w σ pc L (.ref x :: S) := by
  obtain ⟨p, l, e, R, s, m, args, below, meth, c, A, D, cA, Q⟩ := θ
  obtain ⟨hx, hb, hml, hown, hts, hlk, hA, hK, hfr, hlo⟩ := X
  intro H locs ls hl hP hD hS
  exact lv_astore_n hx hb hd hi hl.lv (by rw [hml]; exact hn) rfl (fun ls' h' => k H locs ls' (LH.set1 ok h') hP hD hS)
theorem G_astore {i : Nat} {x : Nat} (X : Cx θ strs cc nL own fr lo) (hd : decode cc pc = .ok (.astore i, 2)) (hn : i < nL) (ok : okSt L i = true) (k : G θ cs w σ (pc + 2) (L.set i (some (.ref x))) S) : G θ cs w σ pc L (.ref x :: S) := by
  obtain ⟨p, l, e, R, s, m, args, below, meth, c, A, D, cA, Q⟩ := θ
  obtain ⟨hx, hb, hml, hown, hts, hlk, hA, hK, hfr, hlo⟩ := X
  intro H locs ls hl hP hD hS
  exact lv_astore hx hb hd hl.lv (by rw [hml]; exact hn) rfl (fun ls' h' => k H locs ls' (LH.set1 ok h') hP hD hS)

theorem G_lstore_n {k4 : Fin 4} (i : Nat) {x : Int64} (X : Cx θ strs cc nL own fr lo) (hd : decode cc pc = .ok (.lstore_n k4, 1)) (hi : (k4 : Nat) = i) (hn : i + 1 < nL) (ok : okSt L i = true) (k : G θ cs w σ (pc + 1) ((L.set i (some (.long x))).set (i + 1) none) S) : G θ cs w σ pc L (.long x :: S) := by
  obtain ⟨p, l, e, R, s, m, args, below, meth, c, A, D, cA, Q⟩ := θ
  obtain ⟨hx, hb, hml, hown, hts, hlk, hA, hK, hfr, hlo⟩ := X
  intro H locs ls hl hP hD hS
  exact lv_lstore_n hx hb hd hi hl.lv (by rw [hml]; exact hn) rfl (fun ls' h' => k H locs ls' (LH.set2 ok h') hP hD hS)
theorem G_lstore {i : Nat} {x : Int64} (X : Cx θ strs cc nL own fr lo) (hd : decode cc pc = .ok (.lstore i, 2)) (hn : i + 1 < nL) (ok : okSt L i = true) (k : G θ cs w σ (pc + 2) ((L.set i (some (.long x))).set (i + 1) none) S) : G θ cs w σ pc L (.long x :: S) := by
  obtain ⟨p, l, e, R, s, m, args, below, meth, c, A, D, cA, Q⟩ := θ
  obtain ⟨hx, hb, hml, hown, hts, hlk, hA, hK, hfr, hlo⟩ := X
  intro H locs ls hl hP hD hS
  exact lv_lstore hx hb hd hl.lv (by rw [hml]; exact hn) rfl (fun ls' h' => k H locs ls' (LH.set2 ok h') hP hD hS)
theorem G_iinc {i : Nat} {n : Int} (v : Int32) {x : Int32} (X : Cx θ strs cc nL own fr lo) (hd : decode cc pc = .ok (.iinc i n, 3)) (hl' : L[i]? = some (some (.int x))) (hn : i < nL) (ok : okSt L i = true) (hv : x + Int32.ofInt n = v) (k : G θ cs w σ (pc + 3) (L.set i (some (.int v))) S) : G θ cs w σ pc L S := by
  obtain ⟨p, l, e, R, s, m, args, below, meth, c, A, D, cA, Q⟩ := θ
  obtain ⟨hx, hb, hml, hown, hts, hlk, hA, hK, hfr, hlo⟩ := X
  intro H locs ls hl hP hD hS
  obtain ⟨j, hj⟩ := List.getElem?_of_mem (g_pairs_mem.mpr hl')
  exact lv_iinc hx hb hd hl.lv hj hv (by rw [hml]; exact hn) rfl (fun ls' h' => k H locs ls' (LH.set1 ok h') hP hD hS)

theorem G_iadd {x y : Int32} (X : Cx θ strs cc nL own fr lo) (hd : decode cc pc = .ok (.iadd, 1)) (k : G θ cs w σ (pc + 1) L (.int (x + y) :: S)) : G θ cs w σ pc L (.int y :: .int x :: S) := by
  obtain ⟨p, l, e, R, s, m, args, below, meth, c, A, D, cA, Q⟩ := θ
  obtain ⟨hx, hb, hml, hown, hts, hlk, hA, hK, hfr, hlo⟩ := X
  intro H locs ls hl hP hD hS
  exact lv_iadd hx hb hd (k H locs ls hl hP hD hS)

theorem G_isub {x y : Int32} (X : Cx θ strs cc nL own fr lo) (hd : decode cc pc = .ok (.isub, 1)) (k : G θ cs w σ (pc + 1) L (.int (x - y) :: S)) : G θ cs w σ pc L (.int y :: .int x :: S) := by
  obtain ⟨p, l, e, R, s, m, args, below, meth, c, A, D, cA, Q⟩ := θ
  obtain ⟨hx, hb, hml, hown, hts, hlk, hA, hK, hfr, hlo⟩ := X
  intro H locs ls hl hP hD hS
  exact lv_isub hx hb hd (k H locs ls hl hP hD hS)

theorem G_imul {x y : Int32} (X : Cx θ strs cc nL own fr lo) (hd : decode cc pc = .ok (.imul, 1)) (k : G θ cs w σ (pc + 1) L (.int (x * y) :: S)) : G θ cs w σ pc L (.int y :: .int x :: S) := by
  obtain ⟨p, l, e, R, s, m, args, below, meth, c, A, D, cA, Q⟩ := θ
  obtain ⟨hx, hb, hml, hown, hts, hlk, hA, hK, hfr, hlo⟩ := X
  intro H locs ls hl hP hD hS
  exact lv_imul hx hb hd (k H locs ls hl hP hD hS)

theorem G_iand {x y : Int32} (X : Cx θ strs cc nL own fr lo) (hd : decode cc pc = .ok (.iand, 1)) (k : G θ cs w σ (pc + 1) L (.int (x &&& y) :: S)) : G θ cs w σ pc L (.int y :: .int x :: S) := by
  obtain ⟨p, l, e, R, s, m, args, below, meth, c, A, D, cA, Q⟩ := θ
  obtain ⟨hx, hb, hml, hown, hts, hlk, hA, hK, hfr, hlo⟩ := X
  intro H locs ls hl hP hD hS
  exact lv_iand hx hb hd (k H locs ls hl hP hD hS)

theorem G_ior {x y : Int32} (X : Cx θ strs cc nL own fr lo) (hd : decode cc pc = .ok (.ior, 1)) (k : G θ cs w σ (pc + 1) L (.int (x ||| y) :: S)) : G θ cs w σ pc L (.int y :: .int x :: S) := by
  obtain ⟨p, l, e, R, s, m, args, below, meth, c, A, D, cA, Q⟩ := θ
  obtain ⟨hx, hb, hml, hown, hts, hlk, hA, hK, hfr, hlo⟩ := X
  intro H locs ls hl hP hD hS
  exact lv_ior hx hb hd (k H locs ls hl hP hD hS)

theorem G_ixor {x y : Int32} (X : Cx θ strs cc nL own fr lo) (hd : decode cc pc = .ok (.ixor, 1)) (k : G θ cs w σ (pc + 1) L (.int (x ^^^ y) :: S)) : G θ cs w σ pc L (.int y :: .int x :: S) := by
  obtain ⟨p, l, e, R, s, m, args, below, meth, c, A, D, cA, Q⟩ := θ
  obtain ⟨hx, hb, hml, hown, hts, hlk, hA, hK, hfr, hlo⟩ := X
  intro H locs ls hl hP hD hS
  exact lv_ixor hx hb hd (k H locs ls hl hP hD hS)

theorem G_ishl {x y : Int32} (X : Cx θ strs cc nL own fr lo) (hd : decode cc pc = .ok (.ishl, 1)) (k : G θ cs w σ (pc + 1) L (.int (x <<< (y &&& 31)) :: S)) : G θ cs w σ pc L (.int y :: .int x :: S) := by
  obtain ⟨p, l, e, R, s, m, args, below, meth, c, A, D, cA, Q⟩ := θ
  obtain ⟨hx, hb, hml, hown, hts, hlk, hA, hK, hfr, hlo⟩ := X
  intro H locs ls hl hP hD hS
  exact lv_ishl hx hb hd (k H locs ls hl hP hD hS)

theorem G_ishr {x y : Int32} (X : Cx θ strs cc nL own fr lo) (hd : decode cc pc = .ok (.ishr, 1)) (k : G θ cs w σ (pc + 1) L (.int (x >>> (y &&& 31)) :: S)) : G θ cs w σ pc L (.int y :: .int x :: S) := by
  obtain ⟨p, l, e, R, s, m, args, below, meth, c, A, D, cA, Q⟩ := θ
  obtain ⟨hx, hb, hml, hown, hts, hlk, hA, hK, hfr, hlo⟩ := X
  intro H locs ls hl hP hD hS
  exact lv_ishr hx hb hd (k H locs ls hl hP hD hS)

theorem G_ladd {x y : Int64} (X : Cx θ strs cc nL own fr lo) (hd : decode cc pc = .ok (.ladd, 1)) (k : G θ cs w σ (pc + 1) L (.long (x + y) :: S)) : G θ cs w σ pc L (.long y :: .long x :: S) := by
  obtain ⟨p, l, e, R, s, m, args, below, meth, c, A, D, cA, Q⟩ := θ
  obtain ⟨hx, hb, hml, hown, hts, hlk, hA, hK, hfr, hlo⟩ := X
  intro H locs ls hl hP hD hS
  exact lv_ladd hx hb hd (k H locs ls hl hP hD hS)

theorem G_lmul {x y : Int64} (X : Cx θ strs cc nL own fr lo) (hd : decode cc pc = .ok (.lmul, 1)) (k : G θ cs w σ (pc + 1) L (.long (x * y) :: S)) : G θ cs w σ pc L (.long y :: .long x :: S) := by
  obtain ⟨p, l, e, R, s, m, args, below, meth, c, A, D, cA, Q⟩ := θ
  obtain ⟨hx, hb, hml, hown, hts, hlk, hA, hK, hfr, hlo⟩ := X
  intro H locs ls hl hP hD hS
  exact lv_lmul hx hb hd (k H locs ls hl hP hD hS)

theorem G_land {x y : Int64} (X : Cx θ strs cc nL own fr lo) (hd : decode cc pc = .ok (.land, 1)) (k : G θ cs w σ (pc + 1) L (.long (x &&& y) :: S)) : G θ cs w σ pc L (.long y :: .long x :: S) := by
  obtain ⟨p, l, e, R, s, m, args, below, meth, c, A, D, cA, Q⟩ := θ
  obtain ⟨hx, hb, hml, hown, hts, hlk, hA, hK, hfr, hlo⟩ := X
  intro H locs ls hl hP hD hS
  exact lv_land hx hb hd (k H locs ls hl hP hD hS)

theorem G_lor {x y : Int64} (X : Cx θ strs cc nL own fr lo) (hd : decode cc pc = .ok (.lor, 1)) (k : G θ cs w σ (pc + 1) L (.long (x ||| y) :: S)) : G θ cs w σ pc L (.long y :: .long x :: S) := by
  obtain ⟨p, l, e, R, s, m, args, below, meth, c, A, D, cA, Q⟩ := θ
  obtain ⟨hx, hb, hml, hown, hts, hlk, hA, hK, hfr, hlo⟩ := X
  intro H locs ls hl hP hD hS
  exact lv_lor hx hb hd (k H locs ls hl hP hD hS)

theorem G_idiv {β : Type} {x y : Int32} {f : Int32 → Option β} {r : β} (X : Cx θ strs cc nL own fr lo) (hd : decode cc pc = .ok (.idiv, 1)) (h : dvi x y f = some r) (k : ∀ v, f v = some r → G θ cs w σ (pc + 1) L (.int v :: S)) : G θ cs w σ pc L (.int y :: .int x :: S) := by
  obtain ⟨p, l, e, R, s, m, args, below, meth, c, A, D, cA, Q⟩ := θ
  obtain ⟨hx, hb, hml, hown, hts, hlk, hA, hK, hfr, hlo⟩ := X
  intro H locs ls hl hP hD hS
  unfold dvi at h
  by_cases hy : y = 0
  · rw [if_pos hy] at h; cases h
  · rw [if_neg hy] at h
    exact lv_idiv hx hb hd hy (k _ h H locs ls hl hP hD hS)

theorem G_irem {β : Type} {x y : Int32} {f : Int32 → Option β} {r : β} (X : Cx θ strs cc nL own fr lo) (hd : decode cc pc = .ok (.irem, 1)) (h : rmi x y f = some r) (k : ∀ v, f v = some r → G θ cs w σ (pc + 1) L (.int v :: S)) : G θ cs w σ pc L (.int y :: .int x :: S) := by
  obtain ⟨p, l, e, R, s, m, args, below, meth, c, A, D, cA, Q⟩ := θ
  obtain ⟨hx, hb, hml, hown, hts, hlk, hA, hK, hfr, hlo⟩ := X
  intro H locs ls hl hP hD hS
  unfold rmi at h
  by_cases hy : y = 0
  · rw [if_pos hy] at h; cases h
  · rw [if_neg hy] at h
    exact lv_irem hx hb hd hy (k _ h H locs ls hl hP hD hS)

theorem G_ldiv {β : Type} {x y : Int64} {f : Int64 → Option β} {r : β} (X : Cx θ strs cc nL own fr lo) (hd : decode cc pc = .ok (.ldiv, 1)) (h : dvl x y f = some r) (k : ∀ v, f v = some r → G θ cs w σ (pc + 1) L (.long v :: S)) : G θ cs w σ pc L (.long y :: .long x :: S) := by
  obtain ⟨p, l, e, R, s, m, args, below, meth, c, A, D, cA, Q⟩ := θ
  obtain ⟨hx, hb, hml, hown, hts, hlk, hA, hK, hfr, hlo⟩ := X
  intro H locs ls hl hP hD hS
  unfold dvl at h
  by_cases hy : y = 0
  · rw [if_pos hy] at h; cases h
  · rw [if_neg hy] at h
    exact lv_ldiv hx hb hd hy (k _ h H locs ls hl hP hD hS)

theorem G_lrem {β : Type} {x y : Int64} {f : Int64 → Option β} {r : β} (X : Cx θ strs cc nL own fr lo) (hd : decode cc pc = .ok (.lrem, 1)) (h : rml x y f = some r) (k : ∀ v, f v = some r → G θ cs w σ (pc + 1) L (.long v :: S)) : G θ cs w σ pc L (.long y :: .long x :: S) := by
  obtain ⟨p, l, e, R, s, m, args, below, meth, c, A, D, cA, Q⟩ := θ
  obtain ⟨hx, hb, hml, hown, hts, hlk, hA, hK, hfr, hlo⟩ := X
  intro H locs ls hl hP hD hS
  unfold rml at h
  by_cases hy : y = 0
  · rw [if_pos hy] at h; cases h
  · rw [if_neg hy] at h
    exact lv_lrem hx hb hd hy (k _ h H locs ls hl hP hD hS)

theorem G_lshl {x : Int64} {y : Int32} (X : Cx θ strs cc nL own fr lo) (hd : decode cc pc = .ok (.lshl, 1)) (k : G θ cs w σ (pc + 1) L (.long (x <<< (y.toInt64 &&& 63)) :: S)) : G θ cs w σ pc L (.int y :: .long x :: S) := by
  obtain ⟨p, l, e, R, s, m, args, below, meth, c, A, D, cA, Q⟩ := θ
  obtain ⟨hx, hb, hml, hown, hts, hlk, hA, hK, hfr, hlo⟩ := X
  intro H locs ls hl hP hD hS
  exact lv_lshl hx hb hd rfl (k H locs ls hl hP hD hS)

theorem G_lshr {x : Int64} {y : Int32} (X : Cx θ strs cc nL own fr lo) (hd : decode cc pc = .ok (.lshr, 1)) (k : G θ cs w σ (pc + 1) L (.long (x >>> (y.toInt64 &&& 63)) :: S)) : G θ cs w σ pc L (.int y :: .long x :: S) := by
  obtain ⟨p, l, e, R, s, m, args, below, meth, c, A, D, cA, Q⟩ := θ
  obtain ⟨hx, hb, hml, hown, hts, hlk, hA, hK, hfr, hlo⟩ := X
  intro H locs ls hl hP hD hS
  exact lv_lshr hx hb hd rfl (k H locs ls hl hP hD hS)

theorem G_lushr {x : Int64} {y : Int32} (X : Cx θ strs cc nL own fr lo) (hd : decode cc pc = .ok (.lushr, 1)) (k : G θ cs w σ (pc + 1) L (.long ((x.toUInt64 >>> (y.toInt64.toUInt64 &&& Int64.toUInt64 63)).toInt64) :: S)) : G θ cs w σ pc L (.int y :: .long x :: S) := by
  obtain ⟨p, l, e, R, s, m, args, below, meth, c, A, D, cA, Q⟩ := θ
  obtain ⟨hx, hb, hml, hown, hts, hlk, hA, hK, hfr, hlo⟩ := X
  intro H locs ls hl hP hD hS
  exact lv_lushr hx hb hd rfl (k H locs ls hl hP hD hS)

theorem G_iushr {x y : Int32} (X : Cx θ strs cc nL own fr lo) (hd : decode cc pc = .ok (.iushr, 1)) (k : G θ cs w σ (pc + 1) L (.int (x.toUInt32 >>> (y.toUInt32 &&& Int32.toUInt32 31)).toInt32 :: S)) : G θ cs w σ pc L (.int y :: .int x :: S) := by
  obtain ⟨p, l, e, R, s, m, args, below, meth, c, A, D, cA, Q⟩ := θ
  obtain ⟨hx, hb, hml, hown, hts, hlk, hA, hK, hfr, hlo⟩ := X
  intro H locs ls hl hP hD hS
  exact lv_iushr hx hb hd rfl (k H locs ls hl hP hD hS)
theorem G_i2l {x : Int32} (X : Cx θ strs cc nL own fr lo) (hd : decode cc pc = .ok (.i2l, 1)) (k : G θ cs w σ (pc + 1) L (.long x.toInt64 :: S)) : G θ cs w σ pc L (.int x :: S) := by
  obtain ⟨p, l, e, R, s, m, args, below, meth, c, A, D, cA, Q⟩ := θ
  obtain ⟨hx, hb, hml, hown, hts, hlk, hA, hK, hfr, hlo⟩ := X
  intro H locs ls hl hP hD hS
  exact lv_i2l hx hb hd rfl (k H locs ls hl hP hD hS)
theorem G_l2i {x : Int64} (X : Cx θ strs cc nL own fr lo) (hd : decode cc pc = .ok (.l2i, 1)) (k : G θ cs w σ (pc + 1) L (.int x.toInt32 :: S)) : G θ cs w σ pc L (.long x :: S) := by
  obtain ⟨p, l, e, R, s, m, args, below, meth, c, A, D, cA, Q⟩ := θ
  obtain ⟨hx, hb, hml, hown, hts, hlk, hA, hK, hfr, hlo⟩ := X
  intro H locs ls hl hP hD hS
  exact lv_l2i hx hb hd rfl (k H locs ls hl hP hD hS)
theorem G_dup {v : Value} (X : Cx θ strs cc nL own fr lo) (hd : decode cc pc = .ok (.dup, 1)) (hv : v.category = 1) (k : G θ cs w σ (pc + 1) L (v :: v :: S)) : G θ cs w σ pc L (v :: S) := by
  obtain ⟨p, l, e, R, s, m, args, below, meth, c, A, D, cA, Q⟩ := θ
  obtain ⟨hx, hb, hml, hown, hts, hlk, hA, hK, hfr, hlo⟩ := X
  intro H locs ls hl hP hD hS
  exact lv_dup hx hb hd hv (k H locs ls hl hP hD hS)
theorem G_pop {v : Value} (X : Cx θ strs cc nL own fr lo) (hd : decode cc pc = .ok (.pop, 1)) (hv : v.category = 1) (k : G θ cs w σ (pc + 1) L S) : G θ cs w σ pc L (v :: S) := by
  obtain ⟨p, l, e, R, s, m, args, below, meth, c, A, D, cA, Q⟩ := θ
  obtain ⟨hx, hb, hml, hown, hts, hlk, hA, hK, hfr, hlo⟩ := X
  intro H locs ls hl hP hD hS
  exact lv_pop hx hb hd hv (k H locs ls hl hP hD hS)
theorem G_dup2 {u v : Value} (X : Cx θ strs cc nL own fr lo) (hd : decode cc pc = .ok (.dup2, 1)) (hu : u.category = 1) (hv : v.category = 1) (k : G θ cs w σ (pc + 1) L (u :: v :: u :: v :: S)) : G θ cs w σ pc L (u :: v :: S) := by
  obtain ⟨p, l, e, R, s, m, args, below, meth, c, A, D, cA, Q⟩ := θ
  obtain ⟨hx, hb, hml, hown, hts, hlk, hA, hK, hfr, hlo⟩ := X
  intro H locs ls hl hP hD hS
  exact lv_dup2_11 hx hb hd hu hv (k H locs ls hl hP hD hS)
theorem G_goto {off : Int} (tgt : Nat) (X : Cx θ strs cc nL own fr lo) (hd : decode cc pc = .ok (.goto off, 3)) (ht : (pc : Int) + off = (tgt : Int)) (k : G θ cs w σ tgt L S) : G θ cs w σ pc L S := by
  obtain ⟨p, l, e, R, s, m, args, below, meth, c, A, D, cA, Q⟩ := θ
  obtain ⟨hx, hb, hml, hown, hts, hlk, hA, hK, hfr, hlo⟩ := X
  intro H locs ls hl hP hD hS
  exact lv_goto hx hb hd ht (k H locs ls hl hP hD hS)
theorem G_ifnonnull {x : Nat} {off : Int} (tgt : Nat) (X : Cx θ strs cc nL own fr lo) (hd : decode cc pc = .ok (.ifnonnull off, 3)) (ht : (pc : Int) + off = (tgt : Int)) (k : G θ cs w σ tgt L S) : G θ cs w σ pc L (.ref x :: S) := by
  obtain ⟨p, l, e, R, s, m, args, below, meth, c, A, D, cA, Q⟩ := θ
  obtain ⟨hx, hb, hml, hown, hts, hlk, hA, hK, hfr, hlo⟩ := X
  intro H locs ls hl hP hD hS
  exact lv_ifnonnull hx hb hd ht (k H locs ls hl hP hD hS)

theorem G_if_eq {α : Type} {a b r : α} {x : Int32} {off : Int} (tgt : Nat) (X : Cx θ strs cc nL own fr lo) (hd : decode cc pc = .ok (.ifCond .eq off, 3)) (ht : (pc : Int) + off = (tgt : Int)) (h : (if x = 0 then a else b) = r) (kt : a = r → G θ cs w σ tgt L S) (kf : b = r → G θ cs w σ (pc + 3) L S) : G θ cs w σ pc L (.int x :: S) := by
  obtain ⟨p, l, e, R, s, m, args, below, meth, c, A, D, cA, Q⟩ := θ
  obtain ⟨hx, hb, hml, hown, hts, hlk, hA, hK, hfr, hlo⟩ := X
  intro H locs ls hl hP hD hS
  exact lv_if_eq hx hb hd ht (fun q => kt (by rw [if_pos q] at h; exact h) H locs ls hl hP hD hS) (fun q => kf (by rw [if_neg q] at h; exact h) H locs ls hl hP hD hS)
theorem G_icmp_eq {α : Type} {a b r : α} {x y : Int32} {off : Int} (tgt : Nat) (X : Cx θ strs cc nL own fr lo) (hd : decode cc pc = .ok (.if_icmp .eq off, 3)) (ht : (pc : Int) + off = (tgt : Int)) (h : (if x = y then a else b) = r) (kt : a = r → G θ cs w σ tgt L S) (kf : b = r → G θ cs w σ (pc + 3) L S) : G θ cs w σ pc L (.int y :: .int x :: S) := by
  obtain ⟨p, l, e, R, s, m, args, below, meth, c, A, D, cA, Q⟩ := θ
  obtain ⟨hx, hb, hml, hown, hts, hlk, hA, hK, hfr, hlo⟩ := X
  intro H locs ls hl hP hD hS
  exact lv_icmp_eq hx hb hd ht (fun q => kt (by rw [if_pos q] at h; exact h) H locs ls hl hP hD hS) (fun q => kf (by rw [if_neg q] at h; exact h) H locs ls hl hP hD hS)

theorem G_if_ne {α : Type} {a b r : α} {x : Int32} {off : Int} (tgt : Nat) (X : Cx θ strs cc nL own fr lo) (hd : decode cc pc = .ok (.ifCond .ne off, 3)) (ht : (pc : Int) + off = (tgt : Int)) (h : (if x = 0 then b else a) = r) (kt : a = r → G θ cs w σ tgt L S) (kf : b = r → G θ cs w σ (pc + 3) L S) : G θ cs w σ pc L (.int x :: S) := by
  obtain ⟨p, l, e, R, s, m, args, below, meth, c, A, D, cA, Q⟩ := θ
  obtain ⟨hx, hb, hml, hown, hts, hlk, hA, hK, hfr, hlo⟩ := X
  intro H locs ls hl hP hD hS
  exact lv_if_ne hx hb hd ht (fun q => kt (by rw [if_neg q] at h; exact h) H locs ls hl hP hD hS) (fun q => kf (by rw [if_pos q] at h; exact h) H locs ls hl hP hD hS)
theorem G_icmp_ne {α : Type} {a b r : α} {x y : Int32} {off : Int} (tgt : Nat) (X : Cx θ strs cc nL own fr lo) (hd : decode cc pc = .ok (.if_icmp .ne off, 3)) (ht : (pc : Int) + off = (tgt : Int)) (h : (if x = y then b else a) = r) (kt : a = r → G θ cs w σ tgt L S) (kf : b = r → G θ cs w σ (pc + 3) L S) : G θ cs w σ pc L (.int y :: .int x :: S) := by
  obtain ⟨p, l, e, R, s, m, args, below, meth, c, A, D, cA, Q⟩ := θ
  obtain ⟨hx, hb, hml, hown, hts, hlk, hA, hK, hfr, hlo⟩ := X
  intro H locs ls hl hP hD hS
  exact lv_icmp_ne hx hb hd ht (fun q => kt (by rw [if_neg q] at h; exact h) H locs ls hl hP hD hS) (fun q => kf (by rw [if_pos q] at h; exact h) H locs ls hl hP hD hS)

theorem G_if_lt {α : Type} {a b r : α} {x : Int32} {off : Int} (tgt : Nat) (X : Cx θ strs cc nL own fr lo) (hd : decode cc pc = .ok (.ifCond .lt off, 3)) (ht : (pc : Int) + off = (tgt : Int)) (h : (if x < 0 then a else b) = r) (kt : a = r → G θ cs w σ tgt L S) (kf : b = r → G θ cs w σ (pc + 3) L S) : G θ cs w σ pc L (.int x :: S) := by
  obtain ⟨p, l, e, R, s, m, args, below, meth, c, A, D, cA, Q⟩ := θ
  obtain ⟨hx, hb, hml, hown, hts, hlk, hA, hK, hfr, hlo⟩ := X
  intro H locs ls hl hP hD hS
  exact lv_if_lt hx hb hd ht (fun q => kt (by rw [if_pos q] at h; exact h) H locs ls hl hP hD hS) (fun q => kf (by rw [if_neg q] at h; exact h) H locs ls hl hP hD hS)
theorem G_icmp_lt {α : Type} {a b r : α} {x y : Int32} {off : Int} (tgt : Nat) (X : Cx θ strs cc nL own fr lo) (hd : decode cc pc = .ok (.if_icmp .lt off, 3)) (ht : (pc : Int) + off = (tgt : Int)) (h : (if x < y then a else b) = r) (kt : a = r → G θ cs w σ tgt L S) (kf : b = r → G θ cs w σ (pc + 3) L S) : G θ cs w σ pc L (.int y :: .int x :: S) := by
  obtain ⟨p, l, e, R, s, m, args, below, meth, c, A, D, cA, Q⟩ := θ
  obtain ⟨hx, hb, hml, hown, hts, hlk, hA, hK, hfr, hlo⟩ := X
  intro H locs ls hl hP hD hS
  exact lv_icmp_lt hx hb hd ht (fun q => kt (by rw [if_pos q] at h; exact h) H locs ls hl hP hD hS) (fun q => kf (by rw [if_neg q] at h; exact h) H locs ls hl hP hD hS)

theorem G_if_ge {α : Type} {a b r : α} {x : Int32} {off : Int} (tgt : Nat) (X : Cx θ strs cc nL own fr lo) (hd : decode cc pc = .ok (.ifCond .ge off, 3)) (ht : (pc : Int) + off = (tgt : Int)) (h : (if x < 0 then b else a) = r) (kt : a = r → G θ cs w σ tgt L S) (kf : b = r → G θ cs w σ (pc + 3) L S) : G θ cs w σ pc L (.int x :: S) := by
  obtain ⟨p, l, e, R, s, m, args, below, meth, c, A, D, cA, Q⟩ := θ
  obtain ⟨hx, hb, hml, hown, hts, hlk, hA, hK, hfr, hlo⟩ := X
  intro H locs ls hl hP hD hS
  exact lv_if_ge hx hb hd ht (fun q => kt (by rw [if_neg (Int32.not_lt.mpr q)] at h; exact h) H locs ls hl hP hD hS) (fun q => kf (by rw [if_pos (Int32.not_le.mp q)] at h; exact h) H locs ls hl hP hD hS)
theorem G_icmp_ge {α : Type} {a b r : α} {x y : Int32} {off : Int} (tgt : Nat) (X : Cx θ strs cc nL own fr lo) (hd : decode cc pc = .ok (.if_icmp .ge off, 3)) (ht : (pc : Int) + off = (tgt : Int)) (h : (if x < y then b else a) = r) (kt : a = r → G θ cs w σ tgt L S) (kf : b = r → G θ cs w σ (pc + 3) L S) : G θ cs w σ pc L (.int y :: .int x :: S) := by
  obtain ⟨p, l, e, R, s, m, args, below, meth, c, A, D, cA, Q⟩ := θ
  obtain ⟨hx, hb, hml, hown, hts, hlk, hA, hK, hfr, hlo⟩ := X
  intro H locs ls hl hP hD hS
  exact lv_icmp_ge hx hb hd ht (fun q => kt (by rw [if_neg (Int32.not_lt.mpr q)] at h; exact h) H locs ls hl hP hD hS) (fun q => kf (by rw [if_pos (Int32.not_le.mp q)] at h; exact h) H locs ls hl hP hD hS)

theorem G_if_gt {α : Type} {a b r : α} {x : Int32} {off : Int} (tgt : Nat) (X : Cx θ strs cc nL own fr lo) (hd : decode cc pc = .ok (.ifCond .gt off, 3)) (ht : (pc : Int) + off = (tgt : Int)) (h : (if x ≤ 0 then b else a) = r) (kt : a = r → G θ cs w σ tgt L S) (kf : b = r → G θ cs w σ (pc + 3) L S) : G θ cs w σ pc L (.int x :: S) := by
  obtain ⟨p, l, e, R, s, m, args, below, meth, c, A, D, cA, Q⟩ := θ
  obtain ⟨hx, hb, hml, hown, hts, hlk, hA, hK, hfr, hlo⟩ := X
  intro H locs ls hl hP hD hS
  exact lv_if_gt hx hb hd ht (fun q => kt (by rw [if_neg (Int32.not_le.mpr q)] at h; exact h) H locs ls hl hP hD hS) (fun q => kf (by rw [if_pos (Int32.not_lt.mp q)] at h; exact h) H locs ls hl hP hD hS)
theorem G_icmp_gt {α : Type} {a b r : α} {x y : Int32} {off : Int} (tgt : Nat) (X : Cx θ strs cc nL own fr lo) (hd : decode cc pc = .ok (.if_icmp .gt off, 3)) (ht : (pc : Int) + off = (tgt : Int)) (h : (if x ≤ y then b else a) = r) (kt : a = r → G θ cs w σ tgt L S) (kf : b = r → G θ cs w σ (pc + 3) L S) : G θ cs w σ pc L (.int y :: .int x :: S) := by
  obtain ⟨p, l, e, R, s, m, args, below, meth, c, A, D, cA, Q⟩ := θ
  obtain ⟨hx, hb, hml, hown, hts, hlk, hA, hK, hfr, hlo⟩ := X
  intro H locs ls hl hP hD hS
  exact lv_icmp_gt hx hb hd ht (fun q => kt (by rw [if_neg (Int32.not_le.mpr q)] at h; exact h) H locs ls hl hP hD hS) (fun q => kf (by rw [if_pos (Int32.not_lt.mp q)] at h; exact h) H locs ls hl hP hD hS)

theorem G_if_le {α : Type} {a b r : α} {x : Int32} {off : Int} (tgt : Nat) (X : Cx θ strs cc nL own fr lo) (hd : decode cc pc = .ok (.ifCond .le off, 3)) (ht : (pc : Int) + off = (tgt : Int)) (h : (if x ≤ 0 then a else b) = r) (kt : a = r → G θ cs w σ tgt L S) (kf : b = r → G θ cs w σ (pc + 3) L S) : G θ cs w σ pc L (.int x :: S) := by
  obtain ⟨p, l, e, R, s, m, args, below, meth, c, A, D, cA, Q⟩ := θ
  obtain ⟨hx, hb, hml, hown, hts, hlk, hA, hK, hfr, hlo⟩ := X
  intro H locs ls hl hP hD hS
  exact lv_if_le hx hb hd ht (fun q => kt (by rw [if_pos q] at h; exact h) H locs ls hl hP hD hS) (fun q => kf (by rw [if_neg q] at h; exact h) H locs ls hl hP hD hS)
theorem G_icmp_le {α : Type} {a b r : α} {x y : Int32} {off : Int} (tgt : Nat) (X : Cx θ strs cc nL own fr lo) (hd : decode cc pc = .ok (.if_icmp .le off, 3)) (ht : (pc : Int) + off = (tgt : Int)) (h : (if x ≤ y then a else b) = r) (kt : a = r → G θ cs w σ tgt L S) (kf : b = r → G θ cs w σ (pc + 3) L S) : G θ cs w σ pc L (.int y :: .int x :: S) := by
  obtain ⟨p, l, e, R, s, m, args, below, meth, c, A, D, cA, Q⟩ := θ
  obtain ⟨hx, hb, hml, hown, hts, hlk, hA, hK, hfr, hlo⟩ := X
  intro H locs ls hl hP hD hS
  exact lv_icmp_le hx hb hd ht (fun q => kt (by rw [if_pos q] at h; exact h) H locs ls hl hP hD hS) (fun q => kf (by rw [if_neg q] at h; exact h) H locs ls hl hP hD hS)

end GR
