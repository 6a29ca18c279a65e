section T36
variable {G : zG} {n : Nat} {μ ν : zM}
def Nl (a : Int) : Nat := (BitVec.ofInt 64 a).toNat
theorem Nl_lt (a : Int) : Nl a < 2 ^ 64 := BitVec.isLt _
theorem lb_N (x : Int) (r : Nat) : lb x r = (Nl x).testBit r := rfl
theorem Nl_and (a b : Int) : Nl (zland a b) = Nl a &&& Nl b := by
  unfold Nl zland
  rw [ofI64, Int64.toBitVec_and, BitVec.toNat_and, Int64.toBitVec_ofInt, Int64.toBitVec_ofInt]
theorem Nl_shr (a : Int) {p : Nat} (hp : p = 1 ∨ p = 2 ∨ p = 4 ∨ p = 8 ∨ p = 16 ∨ p = 32) : Nl (zlushr a (p : Int)) = Nl a / 2 ^ p := by
  have e : zlushr a (p : Int) = (BitVec.ofInt 64 a >>> p).toInt := by
    unfold zlushr
    show BitVec.toInt (UInt64.toBitVec (_ >>> _)) = _
    rw [UInt64.toBitVec_shiftRight, BitVec.ushiftRight_eq']
    rcases hp with rfl | rfl | rfl | rfl | rfl | rfl <;> rfl
  unfold Nl
  rw [e, BitVec.ofInt_toInt, BitVec.toNat_ushiftRight, Nat.shiftRight_eq_div_pow]
theorem Nl_add (a b : Int) : Nl (a + b) = (Nl a + Nl b) % 2 ^ 64 := by
  unfold Nl
  rw [BitVec.ofInt_add, BitVec.toNat_add]
theorem Nl_sub {a b : Int} (h : Nl b ≤ Nl a) : Nl (a - b) = Nl a - Nl b := by
  have e : BitVec.ofInt 64 (a - b) = BitVec.ofInt 64 a - BitVec.ofInt 64 b := by
    rw [Int.sub_eq_add_neg, BitVec.ofInt_add, BitVec.ofInt_neg, BitVec.sub_eq_add_neg]
  unfold Nl at h ⊢
  rw [e, BitVec.toNat_sub_of_le h]
theorem fld4_b : ∀ (n X : Nat), 15 * fld 4 n X + 4 ≤ 4 * 16 ^ n := by
  intro n
  induction n with
  | zero => intro X; simp [fld]
  | succ n ih =>
    intro X
    have p := pcn_le X 4
    have i := ih (X / 2 ^ 4)
    show 15 * (pcn X 4 + 2 ^ 4 * fld 4 n (X / 2 ^ 4)) + 4 ≤ 4 * 16 ^ (n + 1)
    rw [show (16 : Nat) ^ (n + 1) = 16 ^ n * 16 from Nat.pow_succ 16 n]
    omega
theorem z127 (v : Int) : zand (zl2i v) 127 = ((Nl v % 128 : Nat) : Int) := by
  have e : (Int32.ofInt (zl2i v) &&& Int32.ofInt 127).toBitVec.toNat = Nl v % 128 := by
    have e1 : Int32.ofInt (zl2i v) = (Int64.ofInt v).toInt32 := by unfold zl2i; exact Int32.ofInt_toInt _
    rw [e1, Int32.toBitVec_and, BitVec.toNat_and, Int64.toBitVec_toInt32, BitVec.signExtend_eq_setWidth_of_le _ (by decide), BitVec.toNat_setWidth, Int64.toBitVec_ofInt, show (Int32.ofInt 127).toBitVec.toNat = 2 ^ 7 - 1 by decide, Nat.and_two_pow_sub_one_eq_mod]
    show Nl v % 2 ^ 32 % 2 ^ 7 = _
    omega
  unfold zand
  exact i32tn e (by omega)
theorem c_bitCount {x : Int} {K : Int → zM → Prop} (hK : K (pcn (Nl x) 64 : Nat) μ) : mJ13_bitCount_95d88 G n x μ K := by
  refine eJ13_bitCount_95d88 (Nat.zero_le n) (fun v1 e1 v2 e2 v3 e3 v4 e4 v5 e5 v6 e6 => ?_)
  have X := Nl_lt x
  have n1 : Nl v1 = fld 2 32 (Nl x) := by
    have s := st1 32 (Nl x) X
    have a : Nl (zland (zlushr x 1) 6148914691236517205) = Nl x / 2 &&& mk5 32 := by
      rw [Nl_and, show (1 : Int) = ((1 : Nat) : Int) from rfl, Nl_shr x (Or.inl rfl), show Nl 6148914691236517205 = mk5 32 by decide +kernel]
    rw [e1, Nl_sub (by rw [a]; exact s.2), a]
    exact s.1
  have b4 := fld4_b 16 (Nl x)
  rw [show 4 * 16 ^ 16 = 73786976294838206464 by decide] at b4
  have n2 : Nl v2 = fld 4 16 (Nl x) := by
    have s := st2 16 (Nl x)
    rw [show 2 * 16 = 32 from rfl] at s
    rw [e2, Nl_add, Nl_and, Nl_and, show (2 : Int) = ((2 : Nat) : Int) from rfl, Nl_shr v1 (by simp), n1, show Nl 3689348814741910323 = mk3 16 by decide +kernel, show 2 ^ 2 = 4 from rfl, s]
    omega
  have n3 : Nl v3 = fld 8 8 (Nl x) := by
    have s := st3 8 (Nl x)
    rw [show 2 * 8 = 16 from rfl] at s
    rw [e3, Nl_and, Nl_add, show (4 : Int) = ((4 : Nat) : Int) from rfl, Nl_shr v2 (by simp), n2, show Nl 1085102592571150095 = mkf 8 by decide +kernel, show 2 ^ 4 = 16 from rfl, Nat.mod_eq_of_lt (by omega), s]
  obtain ⟨s1, s2, s3⟩ := st4 (Nl x)
  have n4 : Nl v4 = fld 8 8 (Nl x) + fld 8 8 (Nl x) / 256 := by
    rw [e4, Nl_add, show (8 : Int) = ((8 : Nat) : Int) from rfl, Nl_shr v3 (by simp), n3, show 2 ^ 8 = 256 from rfl]
    omega
  have n5 : Nl v5 = fld 8 8 (Nl x) + fld 8 8 (Nl x) / 256 + (fld 8 8 (Nl x) + fld 8 8 (Nl x) / 256) / 65536 := by
    rw [e5, Nl_add, show (16 : Int) = ((16 : Nat) : Int) from rfl, Nl_shr v4 (by simp), n4, show 2 ^ 16 = 65536 from rfl]
    omega
  have n6 : Nl v6 = fld 8 8 (Nl x) + fld 8 8 (Nl x) / 256 + (fld 8 8 (Nl x) + fld 8 8 (Nl x) / 256) / 65536 + (fld 8 8 (Nl x) + fld 8 8 (Nl x) / 256 + (fld 8 8 (Nl x) + fld 8 8 (Nl x) / 256) / 65536) / 4294967296 := by
    rw [e6, Nl_add, show (32 : Int) = ((32 : Nat) : Int) from rfl, Nl_shr v5 (by simp), n5, show 2 ^ 32 = 4294967296 from rfl]
    omega
  rw [z127, n6, s2]
  exact hK
/-- how many of the first numbers have a property -/
def cq (p : Nat → Bool) : Nat → Nat
  | 0 => 0
  | n + 1 => cq p n + if p n then 1 else 0
theorem pcn_cq (X : Nat) : ∀ n, pcn X n = cq X.testBit n
  | 0 => rfl
  | n + 1 => by
    rw [pcn_add X 1 n, pcn_cq X n]
    simp only [cq, pcn, Nat.add_zero]
    rw [Nat.testBit_eq_decide_div_mod_eq]
    by_cases c : X / 2 ^ n % 2 = 1
    · rw [c]; simp
    · rw [if_neg (by simpa using c)]; omega
theorem cq_ext {p q : Nat → Bool} : ∀ n, (∀ k, k < n → p k = q k) → cq p n = cq q n
  | 0, _ => rfl
  | n + 1, h => by simp only [cq]; rw [cq_ext n (fun k hk => h k (by omega)), h n (by omega)]
theorem cq_add (p : Nat → Bool) (m : Nat) : ∀ n, cq p (m + n) = cq p m + cq (fun k => p (m + k)) n
  | 0 => rfl
  | n + 1 => by
    show cq p (m + n) + (if p (m + n) then 1 else 0) = cq p m + (cq (fun k => p (m + k)) n + (if p (m + n) then 1 else 0))
    rw [cq_add p m n]
    omega
theorem cq_le (p : Nat → Bool) : ∀ n, cq p n ≤ n
  | 0 => Nat.le_refl 0
  | n + 1 => by
    have := cq_le p n
    simp only [cq]
    split <;> omega
theorem cq_not (p : Nat → Bool) : ∀ n, cq (fun k => !p k) n + cq p n = n
  | 0 => rfl
  | n + 1 => by
    have := cq_not p n
    simp only [cq]
    by_cases c : p n = true
    · rw [if_pos c, if_neg (by rw [c]; decide)]; omega
    · rw [if_neg c, if_pos (by simpa using c)]; omega
theorem cq_0 {p : Nat → Bool} : ∀ n, (∀ k, k < n → p k = false) → cq p n = 0
  | 0, _ => rfl
  | n + 1, h => by simp only [cq]; rw [cq_0 n (fun k hk => h k (by omega)), h n (by omega)]; rfl
/-- the lowest 1 alone, less one: as many ones as there are places below it -/
theorem low_and (a w : Nat) (h : a < 2 ^ w) : a &&& (2 ^ w - (a + 1)) = 0 := by
  apply Nat.eq_of_testBit_eq
  intro i
  rw [Nat.testBit_and, Nat.testBit_two_pow_sub_succ h, Nat.zero_testBit]
  cases a.testBit i <;> simp
theorem low_bit (X k : Nat) (hX : X < 2 ^ 64) (h1 : X.testBit k = true) (h0 : ∀ j, j < k → X.testBit j = false) : X &&& (2 ^ 64 - X) = 2 ^ k := by
  have hk : k < 64 := by
    apply Classical.byContradiction
    intro q
    have := Nat.testBit_lt_two_pow (Nat.lt_of_lt_of_le hX (Nat.pow_le_pow_right (by decide) (show 64 ≤ k by omega)))
    rw [h1] at this; cases this
  have hm : X % 2 ^ k = 0 := by
    apply Nat.eq_of_testBit_eq
    intro i
    rw [Nat.testBit_mod_two_pow, Nat.zero_testBit]
    by_cases c : i < k
    · rw [h0 i c]; simp
    · simp [c]
  have hd : X = 2 ^ k * (X / 2 ^ k) := by have := Nat.mod_add_div X (2 ^ k); omega
  have ho : X / 2 ^ k % 2 = 1 := by
    rw [Nat.testBit_eq_decide_div_mod_eq] at h1
    exact of_decide_eq_true h1
  have hp : (2 : Nat) ^ 64 = 2 ^ k * 2 ^ (64 - k) := by rw [← Nat.pow_add]; congr 1; omega
  have hlt : X / 2 ^ k < 2 ^ (64 - k) := by
    rw [hp] at hX
    exact Nat.div_lt_of_lt_mul hX
  generalize X / 2 ^ k = U at *
  obtain ⟨a, ha⟩ : ∃ a, U = 2 * a + 1 := ⟨U / 2, by omega⟩
  have hpw : (2 : Nat) ^ (64 - k) = 2 * 2 ^ (63 - k) := by rw [show 64 - k = (63 - k) + 1 by omega, Nat.pow_succ]; omega
  have e : U &&& (2 ^ (64 - k) - U) = 1 := by
    have s := and_split 1 1 1 a (2 ^ (63 - k) - (a + 1)) (by decide) (by decide)
    rw [low_and a (63 - k) (by omega)] at s
    rw [hpw, ha, show 2 * a + 1 = 1 + 2 ^ 1 * a by omega, show 2 * 2 ^ (63 - k) - (1 + 2 ^ 1 * a) = 1 + 2 ^ 1 * (2 ^ (63 - k) - (a + 1)) by omega, s]
    rfl
  have s := and_split k 0 0 U (2 ^ (64 - k) - U) (Nat.two_pow_pos k) (Nat.two_pow_pos k)
  rw [Nat.zero_add, Nat.zero_add, e, Nat.and_self, Nat.zero_add, Nat.mul_one] at s
  rw [hd, hp, ← Nat.mul_sub, s]
end T36
