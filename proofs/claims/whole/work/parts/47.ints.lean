section T7
theorem bm32 {a : Int} (h1 : -2147483648 ≤ a) (h2 : a < 2147483648) : a.bmod (2 ^ 32) = a := by
  have := Int.bmod_def a (2 ^ 32)
  rw [this]; split <;> omega
theorem bm32n {m : Nat} (h : m < 2147483648) : ((m : Nat) : Int).bmod (2 ^ 32) = m := bm32 (by omega) (by omega)
theorem i32 {a : Int} (h1 : -2147483648 ≤ a) (h2 : a < 2147483648) : (Int32.ofInt a).toInt = a := wr_of h1 h2
theorem zdiv_nat {a b : Nat} (ha : a < 2147483648) (hb : b < 2147483648) : zdiv a b = ((a / b : Nat) : Int) := by
  unfold zdiv
  have q := Nat.div_le_self a b
  rw [Int32.toInt_div, i32 (by omega) (by omega), i32 (by omega) (by omega), ← Int.ofNat_tdiv, bm32n (Nat.lt_of_le_of_lt q ha)]
theorem zdiv_of {a b : Int} (ha : 0 ≤ a) (ha2 : a < 2147483648) (hb : 0 ≤ b) (hb2 : b < 2147483648) : zdiv a b = a / b := by
  obtain ⟨x, rfl⟩ := Int.eq_ofNat_of_zero_le ha
  obtain ⟨y, rfl⟩ := Int.eq_ofNat_of_zero_le hb
  rw [zdiv_nat (by omega) (by omega)]; rfl
theorem zrem_nat {a b : Nat} (ha : a < 2147483648) (hb : b < 2147483648) : zrem a b = ((a % b : Nat) : Int) := by
  unfold zrem
  have q := Nat.div_le_self a b
  have q2 := Nat.div_mul_le_self a b
  have q3 := Nat.div_add_mod a b
  rw [Nat.mul_comm] at q3
  rw [Int32.toInt_sub, Int32.toInt_mul, Int32.toInt_div, i32 (by omega) (by omega), i32 (by omega) (by omega), ← Int.ofNat_tdiv, bm32n (Nat.lt_of_le_of_lt q ha), ← Int.natCast_mul, bm32n (Nat.lt_of_le_of_lt q2 ha)]
  generalize a / b * b = w at *
  generalize a % b = y at *
  rw [bm32 (by omega) (by omega)]; omega
theorem zrem_of {a b : Int} (ha : 0 ≤ a) (ha2 : a < 2147483648) (hb : 0 ≤ b) (hb2 : b < 2147483648) : zrem a b = a % b := by
  obtain ⟨x, rfl⟩ := Int.eq_ofNat_of_zero_le ha
  obtain ⟨y, rfl⟩ := Int.eq_ofNat_of_zero_le hb
  rw [zrem_nat (by omega) (by omega)]; rfl
theorem zor_zero {a : Int} : zor a 0 = wr a := by
  unfold zor wr
  rw [show Int32.ofInt 0 = 0 from rfl, Int32.or_zero]
theorem zor_R {a b : Int} : R32 (zor a b) := ⟨Int32.le_toInt _, Int32.toInt_lt _⟩
/-- place i of N = r * e: its switch -/
theorem sw_lt {i e r : Int} (h0 : 0 ≤ i) (h1 : i < r * e) (he : 0 < e) : 0 ≤ i / e ∧ i / e < r :=
  ⟨Int.ediv_nonneg h0 (by omega), Int.ediv_lt_of_lt_mul he h1⟩
end T7
