section T5
variable {G : zG} {n : Nat} {μ : zM}
theorem bm64 {a : Int} (h1 : -9223372036854775808 ≤ a) (h2 : a < 9223372036854775808) : a.bmod (2 ^ 64) = a := by
  have := Int.bmod_def a (2 ^ 64)
  rw [this]; split <;> omega
theorem bm64n {m : Nat} (h : m < 9223372036854775808) : ((m : Nat) : Int).bmod (2 ^ 64) = m := bm64 (by omega) (by omega)
theorem l64 {a : Int} (h1 : 0 ≤ a) (h2 : a < 9223372036854775808) : (Int64.ofInt a).toInt = a := wl_of (by omega) h2
theorem zldiv_nat {a b : Nat} (ha : a < 9223372036854775808) (hb : b < 9223372036854775808) : zldiv a b = ((a / b : Nat) : Int) := by
  unfold zldiv
  have q := Nat.div_le_self a b
  rw [Int64.toInt_div, l64 (by omega) (by omega), l64 (by omega) (by omega), ← Int.ofNat_tdiv, bm64n (Nat.lt_of_le_of_lt q ha)]
theorem zlrem_nat {a b : Nat} (ha : a < 9223372036854775808) (hb : b < 9223372036854775808) : zlrem a b = ((a % b : Nat) : Int) := by
  unfold zlrem
  have q := Nat.div_le_self a b
  have q2 := Nat.div_mul_le_self a b
  have q3 := Nat.div_add_mod a b
  rw [Nat.mul_comm] at q3
  rw [Int64.toInt_sub, Int64.toInt_mul, Int64.toInt_div, l64 (by omega) (by omega), l64 (by omega) (by omega), ← Int.ofNat_tdiv, bm64n (Nat.lt_of_le_of_lt q ha), ← Int.natCast_mul, bm64n (Nat.lt_of_le_of_lt q2 ha)]
  generalize a / b * b = w at *
  generalize a % b = y at *
  rw [bm64 (by omega) (by omega)]; omega
theorem zlcmp_nat {a b : Nat} (ha : a < 9223372036854775808) (hb : b < 9223372036854775808) : wr (zlcmp a b) = if b < a then 1 else if a = b then 0 else -1 := by
  have e : zlcmp a b = if b < a then 1 else if a = b then 0 else -1 := by
    unfold zlcmp lg_cmp
    simp only [gt_iff_lt, Int64.lt_iff_toInt_lt, ← Int64.toInt_inj]
    rw [l64 (by omega) (by omega), l64 (by omega) (by omega)]
    by_cases c : b < a
    · rw [if_pos c, if_pos (by omega)]; rfl
    · rw [if_neg c, if_neg (by omega)]
      by_cases d : a = b
      · rw [if_pos d, if_pos (by omega)]; rfl
      · rw [if_neg d, if_neg (by omega)]; rfl
  rw [e]
  repeat' split
  all_goals rfl
theorem zlcmp_nat0 {a : Nat} (ha : a < 9223372036854775808) : wr (zlcmp a 0) = 0 ↔ a = 0 := by
  have := zlcmp_nat (b := 0) ha (by decide)
  rw [show ((0 : Nat) : Int) = 0 from rfl] at this
  rw [this]
  by_cases c : a = 0
  · simp [c]
  · rw [if_pos (by omega)]; simp [c]
theorem zlcmp_nat1 {a : Nat} (ha : a < 9223372036854775808) : wr (zlcmp a 1) ≤ 0 ↔ a ≤ 1 := by
  have := zlcmp_nat (b := 1) ha (by decide)
  rw [show ((1 : Nat) : Int) = 1 from rfl] at this
  rw [this]
  by_cases c : 1 < a
  · rw [if_pos c]; omega
  · rw [if_neg c]; split <;> omega
/-- Euclid's loop with a count -/
theorem gcd_step (a b : Nat) (h : b ≠ 0) : Nat.gcd b (a % b) = Nat.gcd a b := by
  rw [Nat.gcd_comm b, ← Nat.gcd_rec b a, Nat.gcd_comm]
/-- how many steps Euclid takes -/
def eucs : Nat → Nat → Nat → Bool
  | 0, _, b => b == 0
  | f + 1, a, b => b == 0 || eucs f b (a % b)
theorem eucs_all : ∀ q, q < 21 → ∀ p, p < 21 → p ≤ q → eucs 20 (q * q - (q - p) * (q - p)) (q * q) = true := by decide +kernel
theorem c6_common {K : Int → zM → Prop} (hn : 19 ≤ n) : ∀ (f : Nat) (a b : Nat) (x8 : Int), 0 ≤ x8 → x8 + f < 100 → a < 9223372036854775808 → b < 9223372036854775808 → eucs f a b = true → K (Nat.gcd a b : Nat) μ →
    pX6_commonDivisor G n K 9 [none, none, none, none, some (Lv a), none, some (Lv b), none, some (Iv x8), none, none] [] μ := by
  intro f
  induction f with
  | zero =>
    intro a b x8 h0 h1 ha hb he hK
    have : b = 0 := by simpa [eucs] using he
    subst this
    refine bX6_commonDivisor_9 hn ⟨fun z => ?_, fun _ => ⟨fun _ => ?_, fun z => absurd ((zlcmp_nat0 hb).2 rfl) z⟩⟩
    · rw [wr_of (by omega) (by omega), wr_of (by omega) (by omega)] at z; omega
    · simpa using hK
  | succ f ih =>
    intro a b x8 h0 h1 ha hb he hK
    refine bX6_commonDivisor_9 hn ⟨fun z => ?_, fun _ => ⟨fun z => ?_, fun z => ⟨?_, fun v4 e4 => ?_⟩⟩⟩
    · rw [wr_of (by omega) (by omega), wr_of (by omega) (by omega)] at z; omega
    · have := (zlcmp_nat0 hb).1 z
      subst this
      simpa using hK
    · rw [wl_of (by omega) (by omega)]
      intro q
      exact z ((zlcmp_nat0 hb).2 (by omega))
    · have hb0 : b ≠ 0 := fun q => z ((zlcmp_nat0 hb).2 q)
      rw [e4, zlrem_nat ha hb]
      refine ih b (a % b) (x8 + 1) (by omega) (by omega) hb (by have := Nat.mod_lt a (by omega : b > 0); omega) ?_ ?_
      · simp only [eucs, Bool.or_eq_true, beq_iff_eq] at he
        exact he.resolve_left hb0
      · rw [gcd_step a b hb0]; exact hK
theorem c8_euclid {K : Int → zM → Prop} (hn : 154 ≤ n) {x3 x4 x6 : Int} : ∀ (b a : Nat), a < 9223372036854775808 → b < 9223372036854775808 → 0 < Nat.gcd a b → ((wr x3 ≠ 0 → K (zldiv x6 (Nat.gcd a b : Nat)) μ) ∧ (wr x3 = 0 → K (zldiv x4 (Nat.gcd a b : Nat)) μ)) →
    pX8_lost G n K 93 [none, none, none, some (Iv x3), some (Lv x4), none, some (Lv x6), none, some (Lv a), none, some (Lv b), none, none, none] [] μ := by
  intro b
  induction b using Nat.strongRecOn with
  | ind b ih =>
    intro a ha hb hg hK
    refine bX8_lost_93 hn ⟨fun z => ?_, fun z => ?_⟩
    · have := (zlcmp_nat0 hb).1 z
      subst this
      rw [Nat.gcd_zero_right] at hg hK
      exact ⟨fun q => ⟨by rw [wl_of (by omega) (by omega)]; omega, hK.1 q⟩, fun q => ⟨by rw [wl_of (by omega) (by omega)]; omega, hK.2 q⟩⟩
    · have hb0 : b ≠ 0 := fun q => z ((zlcmp_nat0 hb).2 q)
      refine ⟨by rw [wl_of (by omega) (by omega)]; omega, fun v6 e6 => ?_⟩
      rw [e6, zlrem_nat ha hb]
      have hl := Nat.mod_lt a (by omega : b > 0)
      refine ih (a % b) hl b hb (by omega) ?_ ?_
      · rw [gcd_step a b hb0]; exact hg
      · rw [gcd_step a b hb0]; exact hK
theorem c6_prod {K : Int → zM → Prop} (hn : 19 ≤ n) {x : Int} (hm : 0 ≤ μ 1 2 ∧ μ 1 2 < 1000) : ∀ (f : Nat) (i : Nat), μ 1 2 = i + f → K (x ^ (i + f)) μ →
    pX6_shareLost G n K 70 [some (Rv G 1), none, none, none, none, none, none, none, none, none, some (Lv x), none, some (Lv (x ^ i)), none, some (Iv i)] [] μ := by
  intro f
  induction f with
  | zero =>
    intro i e hK
    refine bX6_shareLost_70 hn ⟨fun _ => hK, fun z => ?_⟩
    rw [wr_of (by omega) (by omega), wr_of (by omega) (by omega)] at z; omega
  | succ f ih =>
    intro i e hK
    refine bX6_shareLost_70 hn ⟨fun z => ?_, fun _ v2 e2 => ?_⟩
    · rw [wr_of (by omega) (by omega), wr_of (by omega) (by omega)] at z; omega
    · have := ih (i + 1) (by omega) (by rw [show i + 1 + f = i + (f + 1) by omega]; exact hK)
      rw [e2, ← Int.pow_succ]
      exact this
theorem c8_prod {K : Int → zM → Prop} (hn : 154 ≤ n) {x1 x2 x3 : Int} {u v : Int} (hu : u = (wr x2) * (wr x2) - wr ((x2 - x1) * (x2 - x1))) (hv : v = (wr x2) * (wr x2)) (hm : 0 ≤ μ 127 4 ∧ μ 127 4 < 1000) : ∀ (f : Nat) (i : Nat), μ 127 4 = i + f →
    pX8_lost G n K 93 [none, none, none, some (Iv x3), some (Lv (u ^ (i + f))), none, some (Lv (v ^ (i + f))), none, some (Lv (u ^ (i + f))), none, some (Lv (v ^ (i + f))), none, none, none] [] μ →
    pX8_lost G n K 41 [some (Rv G 127), some (Iv x1), some (Iv x2), some (Iv x3), some (Lv (u ^ i)), none, some (Lv (v ^ i)), none, some (Iv i), none, none, none, none, none] [] μ := by
  intro f
  induction f with
  | zero =>
    intro i e hK
    refine bX8_lost_41 hn ⟨fun _ => hK, fun z => ?_⟩
    rw [wr_of (by omega) (by omega), wr_of (by omega) (by omega)] at z; omega
  | succ f ih =>
    intro i e hK
    refine bX8_lost_41 hn ⟨fun z => ?_, fun _ v2 e2 v3 e3 => ?_⟩
    · rw [wr_of (by omega) (by omega), wr_of (by omega) (by omega)] at z; omega
    · have := ih (i + 1) (by omega) (by rw [show i + 1 + f = i + (f + 1) by omega]; exact hK)
      rw [e2, e3, ← hu, ← hv, ← Int.pow_succ, ← Int.pow_succ]
      exact this
end T5
