/-! the law's own rules -/
def Sx (θ : Th) (b n : Nat) (xs : Nat → Int32) : Prop := match θ with
  | (p, l, e, R, s, m, args, below, meth, c, A, D, cA, Q) => va_X b n xs s s.heap ∧ b < s.heap.size ∧ ¬ A b ∧ Nx s
section GL
variable {θ : Th} {cs : Nat × Nat} {w : Wd} {σ σ1 : St} {pc : Nat} {L : LV} {S : List Value} {strs strs' : List (String × Nat × String)} {cc : ByteArray} {nL : Nat} {own : String} {fr lo : Nat} {b n : Nat} {xs : Nat → Int32}
theorem Sx.nx (h : Sx θ b n xs) : match θ with | (p, l, e, R, s, m, args, below, meth, c, A, D, cA, Q) => Nx s := by
  obtain ⟨p, l, e, R, s, m, args, below, meth, c, A, D, cA, Q⟩ := θ
  exact h.2.2.2
theorem G_sld {i : Int32} (X : Cx θ strs cc nL own fr lo) (hS9 : Sx θ b n xs) (hd : decode cc pc = .ok (.iaload, 1)) (hin : inb i n = true) (kk : G θ cs w σ (pc + 1) L (.int (xs (ix i)) :: S)) : G θ cs w σ pc L (.int i :: .ref b :: S) := by
  obtain ⟨p, l, e, R, s, m, args, below, meth, c, A, D, cA, Q⟩ := θ
  obtain ⟨hx, hb, hml, hown, hts, hlk, hA, hK, hfr, hlo⟩ := X
  intro H locs ls hl' hP hD hS
  exact va_sld hx hb hS9.1 hS9.2.1 hS9.2.2.1 hS (inb_vp hin) hd (kk H locs ls hl' hP hD hS)
theorem G_slen (X : Cx θ strs cc nL own fr lo) (hS9 : Sx θ b n xs) (hd : decode cc pc = .ok (.arraylength, 1)) (kk : G θ cs w σ (pc + 1) L (.int (Int32.ofNat n) :: S)) : G θ cs w σ pc L (.ref b :: S) := by
  obtain ⟨p, l, e, R, s, m, args, below, meth, c, A, D, cA, Q⟩ := θ
  obtain ⟨hx, hb, hml, hown, hts, hlk, hA, hK, hfr, hlo⟩ := X
  intro H locs ls hl' hP hD hS
  exact va_slen hx hb hS9.1 hS9.2.1 hS9.2.2.1 hS hd (kk H locs ls hl' hP hD hS)
theorem G_lcmp {x y : Int64} (X : Cx θ strs cc nL own fr lo) (hd : decode cc pc = .ok (.lcmp, 1)) (k : G θ cs w σ (pc + 1) L (.int (lg_cmp x y) :: S)) : G θ cs w σ pc L (.long y :: .long x :: S) := by
  obtain ⟨p, l, e, R, s, m, args, below, meth, c, A, D, cA, Q⟩ := θ
  obtain ⟨hx, hb, hml, hown, hts, hlk, hA, hK, hfr, hlo⟩ := X
  intro H locs ls hl' hP hD hS
  exact W.lcmp hx hb hd (k H locs ls hl' hP hD hS)
theorem lg_same {x y : Int64} (h : x = y) : lg_cmp x y = 0 := by
  subst h
  simp [lg_cmp]
end GL
