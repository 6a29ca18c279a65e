section T21
theorem i32bv (a : Nat) : (Int32.ofInt (a : Int)).toBitVec = BitVec.ofNat 32 a := by
  rw [Int32.toBitVec_ofInt, BitVec.ofInt_natCast]
theorem i32bn {a : Nat} (h : a < 2147483648) : (Int32.ofInt (a : Int)).toBitVec.toNat = a := by
  rw [i32bv, BitVec.toNat_ofNat, Nat.mod_eq_of_lt (by omega)]
theorem i32tn {x : Int32} {m : Nat} (h : x.toBitVec.toNat = m) (hm : m < 2147483648) : x.toInt = m := by
  show x.toBitVec.toInt = m
  rw [BitVec.toInt_eq_toNat_of_lt (by omega), h]
theorem zand_nat {a b : Nat} (ha : a < 2147483648) (hb : b < 2147483648) : zand a b = ((a &&& b : Nat) : Int) := by
  unfold zand
  refine i32tn ?_ (Nat.lt_of_le_of_lt Nat.and_le_left ha)
  rw [Int32.toBitVec_and, BitVec.toNat_and, i32bn ha, i32bn hb]
theorem zor_nat {a b : Nat} (ha : a < 2147483648) (hb : b < 2147483648) : zor a b = ((a ||| b : Nat) : Int) := by
  unfold zor
  refine i32tn ?_ (Nat.or_lt_two_pow (n := 31) (by omega) (by omega))
  rw [Int32.toBitVec_or, BitVec.toNat_or, i32bn ha, i32bn hb]
theorem zxor_nat {a b : Nat} (ha : a < 2147483648) (hb : b < 2147483648) : zxor a b = ((a ^^^ b : Nat) : Int) := by
  unfold zxor
  refine i32tn ?_ (Nat.xor_lt_two_pow (n := 31) (by omega) (by omega))
  rw [Int32.toBitVec_xor, BitVec.toNat_xor, i32bn ha, i32bn hb]
theorem sh_n : ∀ k : Fin 32, ((Int32.ofInt (k.val : Int) &&& 31).toBitVec.smod 32).toNat = k.val := by decide +kernel
theorem zshl_nat {a k : Nat} (ha : a < 2147483648) (hk : k < 32) (h : a * 2 ^ k < 2147483648) : zshl a k = ((a * 2 ^ k : Nat) : Int) := by
  unfold zshl
  refine i32tn ?_ h
  rw [Int32.toBitVec_shiftLeft, BitVec.shiftLeft_eq', BitVec.toNat_shiftLeft, sh_n ⟨k, hk⟩, i32bn ha, Nat.shiftLeft_eq, Nat.mod_eq_of_lt (Nat.lt_trans h (by decide))]
theorem zshr_nat {a k : Nat} (ha : a < 2147483648) (hk : k < 32) : zshr a k = ((a / 2 ^ k : Nat) : Int) := by
  unfold zshr
  show BitVec.toInt (Int32.toBitVec _) = _
  rw [Int32.toBitVec_shiftRight, BitVec.sshiftRight_eq', BitVec.toInt_sshiftRight, sh_n ⟨k, hk⟩, BitVec.toInt_eq_toNat_of_lt (by rw [i32bn ha]; omega), i32bn ha, Int.shiftRight_eq_div_pow]
  rfl
end T21
