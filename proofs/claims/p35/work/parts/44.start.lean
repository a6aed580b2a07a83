/-! what the law begins with -/
theorem w_15 : Cond.initialized "java/lang/Throwable" ∈ g_GW := g_mem (i := 15) (by decide +kernel) rfl
theorem w_25 : Cond.instantiable "Quasigrove" 9 ∈ g_GW := g_mem (i := 25) (by decide +kernel) rfl

theorem law_K {args : Array Value} {s : State} (hts : ∀ w ∈ lw_tbl, w.before args s = true) : ∃ (D : va_G) (cA : Nat → ClassId), va_K D vwCl (g_tys cA) s := by
  have hg : ∀ w ∈ g_GW, w.before args s = true := fun w hw => hts w (List.mem_filter.mp hw).1
  obtain ⟨c0, i0, k0⟩ := u_known (C := RX2) (T := TX2) (N := 5) (n := 5) hg fi_0 (hg _ w_34)
  obtain ⟨c1, i1, k1⟩ := u_known (C := RX4) (T := TX4) (N := 3) (n := 3) hg fi_1 (hg _ w_60)
  obtain ⟨c2, i2, k2⟩ := u_known (C := RX5) (T := TX5) (N := 7) (n := 7) hg fi_2 (hg _ w_157)
  obtain ⟨c3, i3, k3⟩ := u_known (C := RX7) (T := TX7) (N := 2) (n := 2) hg fi_3 (hg _ w_99)
  obtain ⟨c4, i4, k4⟩ := u_known (C := RX8) (T := TX8) (N := 7) (n := 7) hg fi_4 (hg _ w_128)
  obtain ⟨c5, i5, k5⟩ := u_known (C := RX9) (T := TX9) (N := 4) (n := 4) hg fi_5 (hg _ w_80)
  obtain ⟨c6, i6, k6⟩ := u_known (C := RX10) (T := TX10) (N := 3) (n := 3) hg fi_6 (hg _ w_112)
  obtain ⟨c7, i7, k7⟩ := u_known (C := RX11) (T := TX11) (N := 9) (n := 9) hg fi_7 (hg _ w_25)
  obtain ⟨a0, ka0, ca0, e0, f0, g0⟩ := Cond.arrayClass_spec (hg _ w_58)
  obtain ⟨a1, ka1, ca1, e1, f1, g1⟩ := Cond.arrayClass_spec (hg _ w_155)
  have hao : (Cond.arrayOver (.object "Quasigrove$Grid")).before args s = true := hts _ (List.mem_of_getElem? (i := 33) (by decide +kernel))
  obtain ⟨comp, a3, ka3, e3, -, f3, g3, h3⟩ := Cond.arrayOver_spec hao
  refine ⟨(fun k => match k with | 0 => c0 | 1 => c1 | 2 => c2 | 3 => c3 | 4 => c4 | 5 => c5 | 6 => c6 | _ => c7, fun k => match k with | 0 => i0 | 1 => i1 | 2 => i2 | 3 => i3 | 4 => i4 | 5 => i5 | 6 => i6 | _ => i7), fun k => match k with | 0 => a0 | 1 => a1 | 2 => a0 | _ => a3, ?_, ?_⟩
  · intro k q hq
    match k, hq with
    | 0, hq => cases hq; exact k0
    | 1, hq => cases hq; exact k1
    | 2, hq => cases hq; exact k2
    | 3, hq => cases hq; exact k3
    | 4, hq => cases hq; exact k4
    | 5, hq => cases hq; exact k5
    | 6, hq => cases hq; exact k6
    | 7, hq => cases hq; exact k7
    | k + 8, hq => simp [vwCl] at hq
  · intro k q hq
    match k, hq with
    | 0, hq => cases hq; exact ⟨fun n z => ⟨fun k h => (by cases h), ka0, f0, ca0, g0⟩, e0⟩
    | 1, hq => cases hq; exact ⟨fun n z => ⟨fun k h => (by cases h), ka1, f1, ca1, g1⟩, e1⟩
    | 2, hq => cases hq; exact ⟨fun n z => ⟨fun k h => (by cases h), ka0, f0, ca0, g0⟩, e0⟩
    | 3, hq => cases hq; exact ⟨fun n z => ⟨fun k h => (by cases h), ka3, f3, comp, g3⟩, ka3, comp, f3, g3, e3, h3⟩
    | k + 4, hq => simp [g_tys] at hq

set_option maxRecDepth 100000 in
set_option maxHeartbeats 4000000 in
theorem law_Zx {args : Array Value} {s : State} (hts : ∀ w ∈ lw_tbl, w.before args s = true) (hgv : (Jvm.Cond.and given_1 narrow_1).before args s = true) : Zx (fun q => s.heap.size ≤ q) s s.heap := by
  have hg : ∀ w ∈ g_GW, w.before args s = true := fun w hw => hts w (List.mem_filter.mp hw).1
  have hs := flat_of_before _ hgv
  have hA : ∀ a : Nat, a < s.heap.size → ¬ s.heap.size ≤ a := fun a h => Nat.not_le.mpr h
  refine ⟨?_, ?_⟩
  · exact vx_Zqof (hts _ (List.mem_of_getElem? (i := 251) (by decide +kernel))) (hg _ w_15) (hs _ (by decide +kernel)) hA
  · exact vx_Zqof (hts _ (List.mem_of_getElem? (i := 253) (by decide +kernel))) (hg _ w_15) (hs _ (by decide +kernel)) hA

set_option maxRecDepth 100000 in
set_option maxHeartbeats 4000000 in
theorem law_SR {args : Array Value} {s : State} {cQ : ClassId} (hts : ∀ w ∈ lw_tbl, w.before args s = true) (hc : s.vm.findClass "Quasigrove" = some cQ) : ∀ q ∈ g_strs, g_SR q s := by
  have key : ∀ (k : Nat) (tx : String), (Cond.stringRef "Quasigrove" k tx).before args s = true → g_SR ("Quasigrove", k, tx) s := by
    intro k tx h
    obtain ⟨kk, cf, i, a, -, -, -, -, -, ev⟩ := Cond.stringRef_spec hc h
    exact ⟨a, vk_R.of h ev⟩
  have h0 := key 256 "there is no such grid" (hts _ (List.mem_of_getElem? (i := 361) (by decide +kernel)))
  have h1 := key 263 "there are 12 grids" (hts _ (List.mem_of_getElem? (i := 305) (by decide +kernel)))
  have h2 := key 272 "there is no such row or column" (hts _ (List.mem_of_getElem? (i := 383) (by decide +kernel)))
  have h3 := key 276 "an argument does not fit" (hts _ (List.mem_of_getElem? (i := 265) (by decide +kernel)))
  have h4 := key 279 "the grove does not allow it" (hts _ (List.mem_of_getElem? (i := 487) (by decide +kernel)))
  intro q hq
  simp only [g_strs, List.mem_cons, List.not_mem_nil, or_false] at hq
  rcases hq with rfl | rfl | rfl | rfl | rfl
  · exact h0
  · exact h1
  · exact h2
  · exact h3
  · exact h4
theorem law_Nx {args : Array Value} {s : State} (hgv : (Jvm.Cond.and given_1 narrow_1).before args s = true) : Nx s := by
  have hs := flat_of_before _ hgv
  exact va_Nc.of (hs (.not (.castable "java/lang/IllegalStateException" "java/lang/IllegalArgumentException")) (by decide +kernel))
theorem law_Kx {args : Array Value} {s : State} (hts : ∀ w ∈ lw_tbl, w.before args s = true) (hgv : (Jvm.Cond.and given_1 narrow_1).before args s = true) : ∃ (D : va_G) (cA : Nat → ClassId), Kx D cA g_strs (fun q => s.heap.size ≤ q) s s.heap := by
  obtain ⟨D, cA, hK⟩ := law_K hts
  refine ⟨D, cA, hK, fun w hw => ?_, law_Zx hts hgv, law_SR hts (hK.1 7 _ rfl).2.1⟩
  have h1 := hts w (List.mem_filter.mp hw).1
  rcases g_nw_cases hw with ⟨a, i, b, n, d, h', rfl⟩ | ⟨a, i, x, h', rfl⟩ | ⟨a, b, rfl⟩ | ⟨x, rfl⟩ <;> exact va_Nw.of rfl h1
theorem law_AO {args : Array Value} {s : State} (hts : ∀ w ∈ lw_tbl, w.before args s = true) : va_AO "Quasigrove$Grid" s :=
  va_AO.of (hts _ (List.mem_of_getElem? (i := 33) (by decide +kernel)))

