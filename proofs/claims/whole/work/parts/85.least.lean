section T45
variable {G : zG} {n : Nat} {μ ν : zM}
theorem or32 {a b k : Int} {m : Nat} (hk : k = m) (hm : m < 31) (a0 : 0 ≤ a) (a1 : a < 2 ^ m) (b0 : 0 ≤ b) (b1 : b * 2 ^ m + 2 ^ m < 2147483648) : zor a (zshl b k) = a + b * 2 ^ m := by
  obtain ⟨a, rfl⟩ := Int.eq_ofNat_of_zero_le a0
  obtain ⟨b, rfl⟩ := Int.eq_ofNat_of_zero_le b0
  have b1' : b * 2 ^ m + 2 ^ m < 2147483648 := by
    have : ((b * 2 ^ m + 2 ^ m : Nat) : Int) < 2147483648 := by simpa using b1
    omega
  have a1' : a < 2 ^ m := by
    have : ((a : Nat) : Int) < ((2 ^ m : Nat) : Int) := by simpa using a1
    omega
  have hb : b < 2147483648 := Nat.lt_of_le_of_lt (Nat.le_mul_of_pos_right b (Nat.two_pow_pos m)) (by omega)
  rw [hk, zshl_nat hb (by omega) (by omega), zor_nat (by omega) (by omega), Nat.or_comm, Nat.mul_comm, ← Nat.two_pow_add_eq_or_of_lt a1', Nat.mul_comm]
  simp [Int.add_comm]
theorem zlor_nat {a b : Nat} (ha : a < 9223372036854775808) (hb : b < 9223372036854775808) : zlor a b = ((a ||| b : Nat) : Int) := by
  unfold zlor
  show BitVec.toInt (Int64.toBitVec _) = _
  have e : (Int64.ofInt (a : Int) ||| Int64.ofInt (b : Int)).toBitVec.toNat = a ||| b := by
    rw [Int64.toBitVec_or, BitVec.toNat_or, Int64.toBitVec_ofInt, Int64.toBitVec_ofInt, BitVec.ofInt_natCast, BitVec.ofInt_natCast, BitVec.toNat_ofNat, BitVec.toNat_ofNat, Nat.mod_eq_of_lt (by omega), Nat.mod_eq_of_lt (by omega)]
  have l : a ||| b < 2 ^ 63 := Nat.or_lt_two_pow (by omega) (by omega)
  rw [BitVec.toInt_eq_toNat_of_lt (by rw [e]; omega), e]
theorem shl_n : ∀ k : Fin 64, (((Int32.ofInt (k.val : Int)).toInt64 &&& 63).toBitVec.smod 64).toNat = k.val := by decide +kernel
theorem zlshl_nat {a k : Nat} (ha : a < 9223372036854775808) (hk : k < 64) (h : a * 2 ^ k < 9223372036854775808) : zlshl a k = ((a * 2 ^ k : Nat) : Int) := by
  unfold zlshl
  show BitVec.toInt (Int64.toBitVec _) = _
  have e : (Int64.ofInt (a : Int) <<< ((Int32.ofInt (k : Int)).toInt64 &&& 63)).toBitVec.toNat = a * 2 ^ k := by
    rw [Int64.toBitVec_shiftLeft, BitVec.shiftLeft_eq', BitVec.toNat_shiftLeft, shl_n ⟨k, hk⟩, Int64.toBitVec_ofInt, BitVec.ofInt_natCast, BitVec.toNat_ofNat, Nat.mod_eq_of_lt (show a < 2 ^ 64 by omega), Nat.shiftLeft_eq, Nat.mod_eq_of_lt (Nat.lt_trans h (by decide))]
  rw [BitVec.toInt_eq_toNat_of_lt (by rw [e]; omega), e]
theorem or64 {a b k : Int} {m : Nat} (hk : k = m) (hm : m < 62) (a0 : 0 ≤ a) (a1 : a < 2 ^ m) (b0 : 0 ≤ b) (b1 : b * 2 ^ m + 2 ^ m < 4611686018427387904) : zlor a (zlshl b k) = a + b * 2 ^ m := by
  obtain ⟨a, rfl⟩ := Int.eq_ofNat_of_zero_le a0
  obtain ⟨b, rfl⟩ := Int.eq_ofNat_of_zero_le b0
  have b1' : b * 2 ^ m + 2 ^ m < 4611686018427387904 := by
    have : ((b * 2 ^ m + 2 ^ m : Nat) : Int) < 4611686018427387904 := by simpa using b1
    omega
  have a1' : a < 2 ^ m := by
    have : ((a : Nat) : Int) < ((2 ^ m : Nat) : Int) := by simpa using a1
    omega
  have hb : b < 9223372036854775808 := Nat.lt_of_le_of_lt (Nat.le_mul_of_pos_right b (Nat.two_pow_pos m)) (by omega)
  rw [hk, zlshl_nat hb (by omega) (by omega), zlor_nat (by omega) (by omega), Nat.or_comm, Nat.mul_comm, ← Nat.two_pow_add_eq_or_of_lt a1', Nat.mul_comm]
  simp [Int.add_comm]
/-- how many settings carry an order of four -/
noncomputable def W2 (f : Int → Int) : Nat → Int
  | 0 => 0
  | m + 1 => W2 f m + @ite Int (Hok m f 4) (Classical.propDecidable _) 1 0
noncomputable def W3 (f : Int → Int) : Nat → Int
  | 0 => 0
  | m + 1 => W3 f m + @ite Int (Hok m f 8) (Classical.propDecidable _) (W2 (ing m f 0) 4 * W2 (ing m f 1) 4) 0
def bst (old new : Int) : Int := if old < 0 ∨ new < old then new else old
def num4 (m : Int) (f : Int → Int) : Int := m + 4 * lr m f 4 + 16 * ing m f 0 0 + 32 * ing m f 1 0
noncomputable def L2 (f : Int → Int) : Nat → Int
  | 0 => -1
  | m + 1 => @ite Int (Hok m f 4) (Classical.propDecidable _) (bst (L2 f m) (num4 m f)) (L2 f m)
noncomputable def num8 (m : Int) (f : Int → Int) : Int := m + 16 * lr m f 8 + 256 * L2 (ing m f 0) 4 + 16384 * L2 (ing m f 1) 4
noncomputable def L3 (f : Int → Int) : Nat → Int
  | 0 => -1
  | m + 1 => @ite Int (Hok m f 8) (Classical.propDecidable _) (bst (L3 f m) (num8 m f)) (L3 f m)
theorem ing4_r {m : Int} {f : Int → Int} (hf : ∀ x, 0 ≤ x → x < 4 → 0 ≤ f x ∧ f x < 4) {v : Int} (hv : v = 0 ∨ v = 1) : 0 ≤ ing m f v 0 ∧ ing m f v 0 ≤ 1 := by
  have xb : zxor v (zand (zshr m 0) 1) = 0 ∨ zxor v (zand (zshr m 0) 1) = 1 := by
    rw [zxor_b hv (zand_1 _)]; split <;> simp
  have := hf (2 * 0 + zxor v (zand (zshr m 0) 1)) (by omega) (by omega)
  unfold ing
  omega
theorem num4_r {m : Nat} (hm : m < 4) {f : Int → Int} (hf : ∀ x, 0 ≤ x → x < 4 → 0 ≤ f x ∧ f x < 4) : 0 ≤ num4 m f ∧ num4 m f < 64 := by
  have l := lr_R4 (fr := m) (f := f) 4 (by decide) (fun y hy => hf y (by omega) (by omega))
  have a := ing4_r (m := m) hf (v := 0) (Or.inl rfl)
  have b := ing4_r (m := m) hf (v := 1) (Or.inr rfl)
  unfold num4
  omega
theorem L2_r {f : Int → Int} (hf : ∀ x, 0 ≤ x → x < 4 → 0 ≤ f x ∧ f x < 4) : ∀ m : Nat, m ≤ 4 → -1 ≤ L2 f m ∧ L2 f m < 64
  | 0, _ => ⟨Int.le_refl _, (by decide : (-1 : Int) < 64)⟩
  | m + 1, h => by
    have ih := L2_r hf m (by omega)
    have n := num4_r (m := m) (by omega) hf
    simp only [L2]
    split
    · unfold bst; split <;> omega
    · exact ih
theorem L2_ex {f : Int → Int} (hf : ∀ x, 0 ≤ x → x < 4 → 0 ≤ f x ∧ f x < 4) {b : Nat} (hb : Hok b f 4) : ∀ m : Nat, m ≤ 4 → b < m → 0 ≤ L2 f m
  | 0, _, h => absurd h (by omega)
  | m + 1, h, hm => by
    have n := num4_r (m := m) (by omega) hf
    simp only [L2]
    by_cases c : b = m
    · subst c
      rw [if_pos hb]
      unfold bst
      split <;> omega
    · have ih := L2_ex hf hb m (by omega) (by omega)
      split
      · unfold bst; split <;> omega
      · exact ih
theorem L2_0 {f : Int → Int} (hf : Ij 4 f) : 0 ≤ L2 f 4 ∧ L2 f 4 < 64 := by
  obtain ⟨b, b1, b2⟩ := ex4 hf
  exact ⟨L2_ex hf.1 b2 4 (by decide) b1, (L2_r hf.1 4 (by decide)).2⟩
theorem num8_r {m : Nat} (hm : m < 16) {f : Int → Int} (hf : ∀ x, 0 ≤ x → x < 8 → 0 ≤ f x ∧ f x < 8) (hh : Hok m f 8) : 0 ≤ num8 m f ∧ num8 m f < 1048576 := by
  have l := lr_R (fr := m) (f := f) 8 (by decide) (fun y hy => hf y (by omega) (by omega))
  have a := L2_0 (ing_Ij (Or.inr rfl) hf hh (v := 0) (Or.inl rfl))
  have b := L2_0 (ing_Ij (Or.inr rfl) hf hh (v := 1) (Or.inr rfl))
  unfold num8
  omega
theorem L3_r {f : Int → Int} (hf : ∀ x, 0 ≤ x → x < 8 → 0 ≤ f x ∧ f x < 8) : ∀ m : Nat, m ≤ 16 → -1 ≤ L3 f m ∧ L3 f m < 1048576
  | 0, _ => ⟨Int.le_refl _, (by decide : (-1 : Int) < 1048576)⟩
  | m + 1, h => by
    have ih := L3_r hf m (by omega)
    simp only [L3]
    split
    · rename_i c
      have n := num8_r (m := m) (by omega) hf c
      unfold bst; split <;> omega
    · exact ih
theorem L3_ex {f : Int → Int} (hf : ∀ x, 0 ≤ x → x < 8 → 0 ≤ f x ∧ f x < 8) {b : Nat} (hb : Hok b f 8) : ∀ m : Nat, m ≤ 16 → b < m → 0 ≤ L3 f m
  | 0, _, h => absurd h (by omega)
  | m + 1, h, hm => by
    simp only [L3]
    by_cases c : b = m
    · subst c
      have n := num8_r (m := b) (by omega) hf hb
      rw [if_pos hb]
      unfold bst
      split <;> omega
    · have ih := L3_ex hf hb m (by omega) (by omega)
      split
      · rename_i d
        have n := num8_r (m := m) (by omega) hf d
        unfold bst; split <;> omega
      · exact ih
theorem L3_0 {f : Int → Int} (hf : Ij 8 f) : 0 ≤ L3 f 16 := by
  obtain ⟨b, b1, b2⟩ := ex8 hf
  exact L3_ex hf.1 b2 16 (by decide) b1
end T45
