/-! stir: numbers of 64 bits -/
def nL (n : Nat) : Int64 := Int64.ofNat n
theorem nL_bv (n : Nat) : (nL n).toBitVec = BitVec.ofNat 64 n := rfl
theorem nI_bv (n : Nat) : (nI n).toBitVec = BitVec.ofNat 32 n := rfl
theorem nL_mul (a b : Nat) : nL a * nL b = nL (a * b) := by
  simp [nL, Int64.ofNat_mul]
theorem nL_add (a b : Nat) : nL a + nL b = nL (a + b) := by
  simp [nL, Int64.ofNat_add]
theorem nL_sub {a b : Nat} (h : b ≤ a) : nL a - nL b = nL (a - b) := by
  obtain ⟨c, rfl⟩ : ∃ c, a = c + b := ⟨a - b, by omega⟩
  rw [← nL_add, Nat.add_sub_cancel]
  exact Int64.add_sub_cancel _ _
theorem nL_toInt {n : Nat} (h : n < 2 ^ 63) : (nL n).toInt = n := by
  show (BitVec.ofNat 64 n).toInt = n
  rw [BitVec.toInt_eq_toNat_cond, BitVec.toNat_ofNat, Nat.mod_eq_of_lt (by omega), if_pos (by omega)]
theorem nL_div {a b : Nat} (ha : a < 2 ^ 63) (hb : b < 2 ^ 63) : nL a / nL b = nL (a / b) := by
  apply Int64.toInt_inj.mp
  rw [Int64.toInt_div, nL_toInt ha, nL_toInt hb, nL_toInt (Nat.lt_of_le_of_lt (Nat.div_le_self _ _) ha)]
  rw [← Int.ofNat_tdiv]
  have : a / b ≤ a := Nat.div_le_self _ _
  generalize a / b = q at *
  apply Int.bmod_eq_of_le <;> omega
theorem nL_ne0 {a : Nat} (h : 0 < a) (ha : a < 2 ^ 63) : ¬ nL a = 0 := by
  intro e
  have h1 := nL_toInt ha
  rw [e] at h1
  have : (0 : Int64).toInt = 0 := by decide
  omega
theorem dvl_nL {β : Type} {a b : Nat} {f : Int64 → Option β} (hb0 : 0 < b) (ha : a < 2 ^ 63) (hb : b < 2 ^ 63) : dvl (nL a) (nL b) f = f (nL (a / b)) := by
  unfold dvl
  rw [if_neg (nL_ne0 hb0 hb), nL_div ha hb]
theorem rml_nL {β : Type} {a b : Nat} {f : Int64 → Option β} (hb0 : 0 < b) (ha : a < 2 ^ 63) (hb : b < 2 ^ 63) : rml (nL a) (nL b) f = f (nL (a % b)) := by
  unfold rml
  rw [if_neg (nL_ne0 hb0 hb), nL_div ha hb, nL_mul, nL_sub (Nat.div_mul_le_self a b)]
  congr 2
  have := Nat.div_add_mod a b
  rw [Nat.mul_comm] at this
  omega
theorem nI_long {x : Nat} (h : x < 2 ^ 31) : (nI x).toInt64 = nL x := by
  apply Int64.toInt_inj.mp
  rw [nL_toInt (by omega), Int32.toInt_toInt64, nI_toInt h]
theorem nL_int {x : Nat} : (nL x).toInt32 = nI x := by
  apply Int32.toBitVec_inj.mp
  show (BitVec.ofNat 64 x).signExtend 32 = BitVec.ofNat 32 x
  apply BitVec.eq_of_toNat_eq
  rw [BitVec.signExtend_eq_setWidth_of_le _ (by decide), BitVec.toNat_setWidth, BitVec.toNat_ofNat, BitVec.toNat_ofNat]
  omega
theorem nL_mask {a : Nat} (h : a < 2 ^ 63) : nL a &&& (2147483647 : Int64) = nL (a % 2 ^ 31) := by
  apply Int64.toBitVec_inj.mp
  rw [Int64.toBitVec_and]
  show BitVec.ofNat 64 a &&& BitVec.ofNat 64 (2 ^ 31 - 1) = BitVec.ofNat 64 (a % 2 ^ 31)
  rw [← BitVec.ofNat_and, Nat.and_two_pow_sub_one_eq_mod]
theorem nI_shr {y : Nat} (h : y < 2 ^ 31) : nI y >>> ((16 : Int32) &&& 31) = nI (y / 65536) := by
  apply Int32.toBitVec_inj.mp
  rw [Int32.toBitVec_shiftRight]
  show (BitVec.ofNat 32 y).sshiftRight 16 = BitVec.ofNat 32 (y / 65536)
  have hm : (BitVec.ofNat 32 y).msb = false := by
    rw [BitVec.msb_eq_decide, BitVec.toNat_ofNat]
    apply decide_eq_false
    omega
  rw [BitVec.sshiftRight_eq_of_msb_false hm]
  apply BitVec.eq_of_toNat_eq
  rw [BitVec.toNat_ushiftRight, BitVec.toNat_ofNat, BitVec.toNat_ofNat, Nat.shiftRight_eq_div_pow]
  omega
def lcg (x : Nat) : Nat := (1103515245 * x + 12345) % 2 ^ 31
theorem lcg_lt (x : Nat) : lcg x < 2 ^ 31 := Nat.mod_lt _ (by decide)
theorem lcg_cls {x : Nat} (h : x < 2 ^ 31) : (((((1103515245 : Int64) * (nI x).toInt64) + (12345 : Int64)) &&& (2147483647 : Int64)).toInt32) = nI (lcg x) := by
  rw [nI_long h, show (1103515245 : Int64) = nL 1103515245 from rfl, show (12345 : Int64) = nL 12345 from rfl, nL_mul, nL_add, nL_mask (by omega), nL_int]
  rfl
