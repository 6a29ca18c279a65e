section T6
variable {G : zG} {n : Nat} {μ : zM}
theorem sq_le {P Q : Nat} (h : P ≤ Q) : (Q - P) * (Q - P) ≤ Q * Q := Nat.mul_le_mul (by omega) (by omega)
theorem pow_small {x m : Nat} (hx : x ≤ 400) (hm : m ≤ 7) : x ^ m < 9223372036854775808 := by
  have h1 : x ^ m ≤ 400 ^ m := Nat.pow_le_pow_left hx m
  have h2 : 400 ^ m ≤ 400 ^ 7 := Nat.pow_le_pow_right (by decide) hm
  have h3 : (400 : Nat) ^ 7 < 9223372036854775808 := by decide
  omega
theorem c6_lost (hn : 154 ≤ n) {P Q m : Nat} {w : Int} (hP : P ≤ Q) (hQ : 1 ≤ Q ∧ Q ≤ 20) (hw : w = 0 ∨ w = 1) (hm : μ 1 2 = m) (hm7 : m ≤ 7) {K : Int → zM → Prop}
    (hK : K (((if w = 0 then (Q * Q - (Q - P) * (Q - P)) / Nat.gcd (Q * Q - (Q - P) * (Q - P)) (Q * Q) else Q * Q / Nat.gcd (Q * Q - (Q - P) * (Q - P)) (Q * Q) : Nat) : Int) ^ m) μ) : mX6_shareLost G n P Q w μ K := by
  have h1 := sq_le hP
  have h2 : Q * Q ≤ 20 * 20 := Nat.mul_le_mul hQ.2 hQ.2
  have h3 : 1 * 1 ≤ Q * Q := Nat.mul_le_mul hQ.1 hQ.1
  have eb : wr (Q : Int) * wr (Q : Int) = ((Q * Q : Nat) : Int) := by
    rw [wr_of (by omega) (by omega)]; rfl
  have ec : wr ((Q : Int) - P) * wr ((Q : Int) - P) = (((Q - P) * (Q - P) : Nat) : Int) := by
    rw [wr_of (by omega) (by omega), Int.natCast_mul, Int.ofNat_sub hP]
  have hg : 0 < Nat.gcd (Q * Q - (Q - P) * (Q - P)) (Q * Q) := Nat.gcd_pos_of_pos_right _ (by omega)
  have hg2 : Nat.gcd (Q * Q - (Q - P) * (Q - P)) (Q * Q) ≤ Q * Q := Nat.gcd_le_right _ (by omega)
  refine eX6_shareLost (by omega) (fun v1 e1 v2 e2 => ?_)
  have f1 : v1 = ((Q * Q : Nat) : Int) := by rw [e1, eb]
  have f2 : v2 = ((Q * Q - (Q - P) * (Q - P) : Nat) : Int) := by rw [e2, f1, ec, Int.ofNat_sub h1]
  have hs := eucs_all Q (by omega) P (by omega) hP
  rw [f1, f2]
  generalize Q * Q - (Q - P) * (Q - P) = U at *
  have hU : U ≤ 400 := by omega
  generalize Q * Q = V at *
  refine eX6_commonDivisor (by omega) (c6_common (by omega) 20 U V 0 (by decide) (by decide) (by omega) (by omega) hs ?_)
  generalize Nat.gcd U V = g at *
  have pr : ∀ x : Nat, K ((x : Int) ^ m) μ → pX6_shareLost G n K 70 [some (Rv G 1), none, none, none, none, none, none, none, none, none, some (Lv (x : Int)), none, some (Lv 1), none, some (Iv 0)] [] μ := fun x hx =>
    c6_prod (x := (x : Int)) (by omega) (by omega) m 0 (by omega) (by rw [Nat.zero_add]; exact hx)
  have hwr : wr w = w := wr_of (by omega) (by omega)
  rw [hwr]
  refine ⟨fun z => ?_, fun z => ⟨by rw [wl_of (by omega) (by omega)]; omega, fun v8 e8 => ⟨by rw [wl_of (by omega) (by omega)]; omega, fun v10 e10 => ?_⟩⟩⟩
  · have : g = 1 := by have := (zlcmp_nat1 (a := g) (by omega)).1 z; omega
    subst this
    rw [Nat.div_one, Nat.div_one] at hK
    exact ⟨fun q => pr V (by rwa [if_neg q] at hK), fun q => pr U (by rwa [if_pos q] at hK)⟩
  · rw [e8, e10, zldiv_nat (by omega) (by omega), zldiv_nat (by omega) (by omega)]
    exact ⟨fun q => pr _ (by rwa [if_neg q] at hK), fun q => pr _ (by rwa [if_pos q] at hK)⟩
theorem gcd_div_pow {U V m : Nat} : V ^ m / Nat.gcd (U ^ m) (V ^ m) = (V / Nat.gcd U V) ^ m := by
  rw [Nat.div_pow (Nat.gcd_dvd_right _ _), Nat.pow_gcd_pow]
theorem gcd_div_pow' {U V m : Nat} : U ^ m / Nat.gcd (U ^ m) (V ^ m) = (U / Nat.gcd U V) ^ m := by
  rw [Nat.div_pow (Nat.gcd_dvd_left _ _), Nat.pow_gcd_pow]
theorem c8_lost (hn : 154 ≤ n) {P Q m : Nat} {w : Int} (hP : P ≤ Q) (hQ : 1 ≤ Q ∧ Q ≤ 20) (hw : w = 0 ∨ w = 1) (hm : μ 127 4 = m) (hm7 : m ≤ 7) {K : Int → zM → Prop}
    (hK : K (((if w = 0 then (Q * Q - (Q - P) * (Q - P)) / Nat.gcd (Q * Q - (Q - P) * (Q - P)) (Q * Q) else Q * Q / Nat.gcd (Q * Q - (Q - P) * (Q - P)) (Q * Q) : Nat) : Int) ^ m) μ) :
    pX8_lost G n K 41 [some (Rv G 127), some (Iv P), some (Iv Q), some (Iv w), some (Lv 1), none, some (Lv 1), none, some (Iv 0), none, none, none, none, none] [] μ := by
  have h1 := sq_le hP
  have h2 : Q * Q ≤ 20 * 20 := Nat.mul_le_mul hQ.2 hQ.2
  have h3 : 1 * 1 ≤ Q * Q := Nat.mul_le_mul hQ.1 hQ.1
  have eb : ((Q * Q : Nat) : Int) = wr (Q : Int) * wr (Q : Int) := by
    rw [wr_of (by omega) (by omega)]; rfl
  have ed : ((Q : Int) - P) * ((Q : Int) - P) = (((Q - P) * (Q - P) : Nat) : Int) := by rw [Int.natCast_mul, Int.ofNat_sub hP]
  have ec : ((Q * Q - (Q - P) * (Q - P) : Nat) : Int) = wr (Q : Int) * wr (Q : Int) - wr (((Q : Int) - P) * ((Q : Int) - P)) := by
    rw [← eb, ed, wr_of (by omega) (by omega), Int.ofNat_sub h1]
  refine c8_prod (u := ((Q * Q - (Q - P) * (Q - P) : Nat) : Int)) (v := ((Q * Q : Nat) : Int)) hn ec eb (by omega) m 0 (by omega) ?_
  clear eb ec ed
  have hU : Q * Q - (Q - P) * (Q - P) ≤ 400 := by omega
  generalize Q * Q - (Q - P) * (Q - P) = U at *
  clear h1
  generalize Q * Q = V at *
  rw [Nat.zero_add, ← Int.natCast_pow, ← Int.natCast_pow]
  have bU := pow_small hU hm7
  have bV := pow_small (x := V) (m := m) (by omega) hm7
  have pV : 0 < V ^ m := Nat.pow_pos (by omega)
  have hg : 0 < Nat.gcd (U ^ m) (V ^ m) := Nat.gcd_pos_of_pos_right _ pV
  have hg2 : Nat.gcd (U ^ m) (V ^ m) ≤ V ^ m := Nat.gcd_le_right _ pV
  have hwr : wr w = w := wr_of (by omega) (by omega)
  refine c8_euclid hn _ _ bU bV hg ?_
  rw [hwr, zldiv_nat bV (Nat.lt_of_le_of_lt hg2 bV), zldiv_nat bU (Nat.lt_of_le_of_lt hg2 bV), gcd_div_pow, gcd_div_pow', Int.natCast_pow, Int.natCast_pow]
  exact ⟨fun q => by rwa [if_neg q] at hK, fun q => by rwa [if_pos q] at hK⟩
theorem t_lost (hn : 154 ≤ n) (hM : μ 1 2 = μ 127 4 ∧ 0 ≤ μ 1 2 ∧ μ 1 2 ≤ 7) {p q w : Int} (hp : R32 p) (hq : R32 q) (hw : R32 w) : mX7_lost G n p q w μ (fun a μ1 => mX8_lost G n p q w μ1 (fun b μ2 => a = b ∧ μ2 = μ)) := by
  have m8 : ∀ {a : Int}, (1 ≤ q ∧ q ≤ 20 → 0 ≤ p ∧ p ≤ q → 0 ≤ w ∧ w ≤ 1 → pX8_lost G n (fun b μ2 => a = b ∧ μ2 = μ) 41 [some (Rv G 127), some (Iv p), some (Iv q), some (Iv w), some (Lv 1), none, some (Lv 1), none, some (Iv 0), none, none, none, none, none] [] μ) → (¬ (1 ≤ q ∧ q ≤ 20) ∨ ¬ (0 ≤ p ∧ p ≤ q) ∨ ¬ (0 ≤ w ∧ w ≤ 1) → a = -9223372036854775808) → mX8_lost G n p q w μ (fun b μ2 => a = b ∧ μ2 = μ) := by
    intro a k1 k2
    obtain ⟨p1, p2⟩ := hp
    obtain ⟨q1, q2⟩ := hq
    obtain ⟨w1, w2⟩ := hw
    refine eX8_lost hn (c8_within hn ?_)
    simp (disch := omega) only [wr_of, ite_b0, Classical.not_not]
    refine ⟨fun z => ⟨k2 (Or.inl z), trivial⟩, fun z1 => c8_within hn ?_⟩
    simp (disch := omega) only [wr_of, ite_b0, Classical.not_not]
    refine ⟨fun z => ⟨k2 (Or.inr (Or.inl z)), trivial⟩, fun z2 => c8_within hn ?_⟩
    simp (disch := omega) only [wr_of, ite_b0, Classical.not_not]
    exact ⟨fun z3 => k1 z1 z2 z3, fun z => ⟨k2 (Or.inr (Or.inr z)), trivial⟩⟩
  have p1 := hp.1
  have p2 := hp.2
  have q1 := hq.1
  have q2 := hq.2
  have w1 := hw.1
  have w2 := hw.2
  refine eX7_lost hn (c_within hn ?_)
  simp (disch := omega) only [wr_of, ite_b0, Classical.not_not]
  refine ⟨fun z => m8 (fun a => absurd a z) (fun _ => rfl), fun z1 => c_within hn ?_⟩
  simp (disch := omega) only [wr_of, ite_b0, Classical.not_not]
  refine ⟨fun z => m8 (fun _ a => absurd a z) (fun _ => rfl), fun z2 => c_within hn ?_⟩
  simp (disch := omega) only [wr_of, ite_b0, Classical.not_not]
  refine ⟨fun z3 => ?_, fun z => m8 (fun _ _ a => absurd a z) (fun _ => rfl)⟩
  obtain ⟨P, rfl⟩ := Int.eq_ofNat_of_zero_le z2.1
  obtain ⟨Q, rfl⟩ := Int.eq_ofNat_of_zero_le (by omega : 0 ≤ q)
  obtain ⟨m, hm⟩ := Int.eq_ofNat_of_zero_le hM.2.1
  refine c6_lost (m := m) hn (by omega) (by omega) (by omega) hm (by omega) (m8 (fun _ _ _ => ?_) (fun z => by omega))
  exact c8_lost (m := m) hn (by omega) (by omega) (by omega) (by omega) (by omega) ⟨rfl, rfl⟩
end T6
