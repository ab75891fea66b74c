/-! numbers out of bytes; the sum -/
theorem n_or (a b : Nat) : nI a ||| nI b = nI (a ||| b) := by
  apply Int32.toBitVec_inj.mp
  show BitVec.ofNat 32 a ||| BitVec.ofNat 32 b = BitVec.ofNat 32 (a ||| b)
  exact (BitVec.ofNat_or).symm
theorem n_inj {a b : Nat} (ha : a < 2 ^ 32) (hb : b < 2 ^ 32) : nI a = nI b ↔ a = b := by
  constructor
  · intro h
    have := congrArg (fun x : Int32 => x.toBitVec.toNat) h
    simp only [pk_tn ha, pk_tn hb] at this
    exact this
  · intro h; rw [h]
theorem or_add {a b : Nat} (k : Nat) (h : b < 2 ^ k) : a * 2 ^ k ||| b = a * 2 ^ k + b := by
  rw [← Nat.shiftLeft_eq, Nat.shiftLeft_add_eq_or_of_lt h]
theorem or_sh (x c i k : Nat) (h : c < 2 ^ i) : (x * 2 ^ i) * 2 ^ k ||| c * 2 ^ k = (x * 2 ^ i + c) * 2 ^ k := by
  rw [← or_add i h, ← Nat.shiftLeft_eq (x * 2 ^ i ||| c), Nat.shiftLeft_or_distrib, Nat.shiftLeft_eq, Nat.shiftLeft_eq]
/-- four bytes as a number -/
theorem four {a b c d : Nat} (ha : a < 256) (hb : b < 256) (hc : c < 256) (hd : d < 256) :
    (((nI a <<< ((24 : Int32) &&& 31)) ||| (nI b <<< ((16 : Int32) &&& 31))) ||| (nI c <<< ((8 : Int32) &&& 31))) ||| nI d = nI (a * 16777216 + b * 65536 + c * 256 + d) := by
  rw [pk_shlN ((24 : Int32) &&& 31) 24 (by decide) (by omega), pk_shlN ((16 : Int32) &&& 31) 16 (by decide) (by omega), pk_shlN ((8 : Int32) &&& 31) 8 (by decide) (by omega), n_or, n_or, n_or]
  congr 1
  have e1 : a * 2 ^ 24 ||| b * 2 ^ 16 = (a * 2 ^ 8 + b) * 2 ^ 16 := by
    rw [show a * 2 ^ 24 = (a * 2 ^ 8) * 2 ^ 16 by omega]; exact or_sh a b 8 16 (by omega)
  have e2 : (a * 2 ^ 8 + b) * 2 ^ 16 ||| c * 2 ^ 8 = ((a * 2 ^ 8 + b) * 2 ^ 8 + c) * 2 ^ 8 := by
    rw [show (a * 2 ^ 8 + b) * 2 ^ 16 = ((a * 2 ^ 8 + b) * 2 ^ 8) * 2 ^ 8 by omega]; exact or_sh _ c 8 8 (by omega)
  rw [e1, e2, or_add 8 (by omega)]
  omega
theorem byte_up : ∀ b, b < 256 → (nI b).toInt8.toInt32 &&& (255 : Int32) = nI b := by decide +kernel
def uL (x : Int64) : Nat := x.toBitVec.toNat
theorem uL_lt (x : Int64) : uL x < 18446744073709551616 := x.toBitVec.isLt
theorem lo32 (x : Int64) : x.toInt32 = nI (uL x % 4294967296) := by
  apply Int32.toBitVec_inj.mp
  apply BitVec.eq_of_toNat_eq
  rw [pk_tn (by omega)]
  rw [Int64.toBitVec_toInt32, BitVec.signExtend_eq_setWidth_of_le _ (by omega), BitVec.toNat_setWidth]; rfl
theorem sh64 (x : Int64) {y : UInt64} {k : Nat} (hy : y.toNat % 64 = k) : uL (x.toUInt64 >>> y).toInt64 = uL x / 2 ^ k := by
  show (x.toBitVec >>> (y.toBitVec % 64)).toNat = x.toBitVec.toNat / 2 ^ k
  rw [BitVec.ushiftRight_eq', BitVec.toNat_ushiftRight, Nat.shiftRight_eq_div_pow]
  have : (y.toBitVec % 64).toNat = k := by rw [BitVec.toNat_umod, ← hy]; rfl
  rw [this]
theorem and255 (x : Int64) : (x &&& (255 : Int64)).toInt32 = nI (uL x % 256) := by
  rw [lo32]
  have : uL (x &&& (255 : Int64)) = uL x % 256 := by
    show (x.toBitVec &&& (255 : BitVec 64)).toNat = _
    rw [BitVec.toNat_and]
    exact Nat.and_two_pow_sub_one_eq_mod (n := 8) _
  rw [this]
  congr 1
  omega
