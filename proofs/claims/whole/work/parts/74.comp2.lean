section T34
variable {G : zG} {n : Nat} {μ ν : zM}
theorem B3.ab (b : B3 μ) {j : Int} (j0 : 0 ≤ j) (j1 : j < μ 30 1) : μ 141 j = μ 31 j ∧ μ 142 j = μ 32 j ∧ 0 ≤ μ 31 j ∧ μ 31 j < μ 30 0 ∧ 0 ≤ μ 32 j ∧ μ 32 j < μ 30 0 ∧ μ 31 j ≠ μ 32 j := by
  have := b.2.2.2 j j0 j1
  exact ⟨this.1.symm, this.2.1.symm, this.2.2⟩
theorem I3.f143 (h : I3 μ) (e : ∀ a j, a ≠ 143 → ν a j = μ a j) : I3 ν ∧ Fz 3 μ ν :=
  ⟨h.eq (fun a j _ q _ => e a j q), fun a j hz => e a j (fun q => hz (by rw [q]; exact z3_141 (by decide)))⟩
theorem c8_stepI (hn : 154 ≤ n) (b : B3 μ) {c : Int} (c0 : 0 ≤ c) (c1 : c ≤ μ 30 1) {K : Int → zM → Prop} (hK : ∀ ν' : zM, (∀ a j, a ≠ 143 → ν' a j = μ a j) → K (if c < μ 30 1 then atS (μ 31) (μ 32) c.toNat else dp (μ 31) (μ 32) (μ 30 1).toNat) ν') : mX8_step G n c μ K := by
  have bb := b.2.1
  have b0 := b.1
  have := c8_step (G := G) (n := n) (ν := μ) (A := μ 31) (B := μ 32) (C := (μ 30 1).toNat) (c := c.toNat) (K := K) hn (by omega) (by omega) (fun j j0 j1 => by have := b.ab j0 (by omega); omega) (by omega) (fun ν' h => by
    have := hK ν' h
    by_cases d : c < μ 30 1
    · rw [if_pos d] at this; rw [if_pos (by omega)]; exact this
    · rw [if_neg d] at this; rw [if_neg (by omega)]; exact this)
  rwa [Int.toNat_of_nonneg c0] at this
theorem c8_idleI (hn : 154 ≤ n) (h : I3 μ) {c : Int} (c0 : 0 ≤ c) (c1 : c < μ 30 1) {K : Int → zM → Prop} (hK : K (μ 34 c) μ) : mX8_isIdle G n c μ K := by
  obtain ⟨b, l⟩ := h
  have bb := b.2.1
  have b0 := b.1
  have lc := l.1 c.toNat (by omega)
  rw [Int.toNat_of_nonneg c0, Idl_m b0.2.1 b0.2.2 (fun j x y => by have := b.ab x (by omega); omega)] at lc
  have := c8_isIdle (G := G) (n := n) (ν := μ) (A := μ 31) (B := μ 32) (W := μ 30 0) (c := c.toNat) (K := K) hn b0.1.symm b0.2.1 b0.2.2 (by omega) (fun j x y => b.ab x (by omega)) (fun r r01 rI => by
    have : r = μ 34 c := by
      rcases r01 with q | q
      · rcases lc.2.1 with w | w
        · omega
        · have := rI.2 (lc.2.2.1 w); omega
      · have := lc.2.2.2 (rI.1 q); omega
    rw [this]; exact hK)
  rwa [Int.toNat_of_nonneg c0] at this
theorem t_comparer (hn : 154 ≤ n) (h : I3 μ) {c w : Int} (hc : R32 c) (hw : R32 w) : mX7_comparer G n c w μ (fun a μ1 => mX8_comparer G n c w μ1 (fun b μ2 => a = b ∧ I3 μ2 ∧ Fz 3 μ μ2)) := by
  obtain ⟨c1, c2⟩ := id hc
  obtain ⟨w1, w2⟩ := id hw
  obtain ⟨b, l⟩ := id h
  have bb := b.2.1
  have b0 := b.1
  have m8 : ∀ a : Int, (¬ (0 ≤ c ∧ c < μ 30 1) → a = -1) → ((0 ≤ c ∧ c < μ 30 1) → (w < 0 ∨ 4 < w → a = -2) ∧ (w = 0 → a = μ 31 c) ∧ (w = 1 → a = μ 32 c) ∧ (w = 2 → a = μ 33 c) ∧ (w = 3 → a = μ 34 c) ∧ (w = 4 → a = knd (μ 31 c) (μ 32 c))) → mX8_comparer G n c w μ (fun b μ2 => a = b ∧ I3 μ2 ∧ Fz 3 μ μ2) := by
    intro a k1 k2
    refine eX8_comparer hn (c8_isComparer hn hc (by rw [← bb.1]; exact bb.2) ?_)
    rw [← bb.1]
    simp (disch := omega) only [wr_of, ite_b0, Classical.not_not]
    refine ⟨fun z => ?_, fun z => ⟨k1 z, h, Fz.rf⟩⟩
    obtain ⟨q0, q1, q2, q3, q4, q5⟩ := k2 z
    have ab := b.ab z.1 z.2
    have lc := l.1 c.toNat (by omega)
    rw [Int.toNat_of_nonneg z.1] at lc
    refine ⟨fun y => ⟨q0 y, h, Fz.rf⟩, fun y => ⟨by omega, by rw [q1 y, ab.1], h, Fz.rf⟩, fun y => ⟨by omega, by rw [q2 y, ab.2.1], h, Fz.rf⟩, fun y => c8_stepI hn b z.1 (by omega) (fun ν' e => ?_), fun y => c8_idleI hn h z.1 z.2 ?_, fun y => c8_kindOf hn (by omega) (by omega) (by omega) ?_⟩
    · rw [if_pos z.2]
      exact ⟨by rw [q3 y, lc.1], h.f143 e⟩
    · rcases lc.2.1 with x | x
      · rw [x]
        exact ⟨fun _ => ⟨by rw [q4 y, x], h, Fz.rf⟩, fun z => absurd rfl z⟩
      · rw [x]
        exact ⟨fun z => absurd z (by decide), fun _ => ⟨by rw [q4 y, x], h, Fz.rf⟩⟩
    · rw [ab.1, ab.2.1]
      exact ⟨q5 y, h, Fz.rf⟩
  refine eX7_comparer hn (c_within hn ?_)
  simp (disch := omega) only [wr_of, ite_b0, Classical.not_not]
  refine ⟨fun z => ?_, fun z => m8 _ (fun _ => rfl) (fun q => by omega)⟩
  have z' : 0 ≤ c ∧ c < μ 30 1 := by omega
  have ab := b.ab z'.1 z'.2
  have lc := l.1 c.toNat (by omega)
  rw [Int.toNat_of_nonneg z'.1] at lc
  refine ⟨fun y => m8 _ (fun q => absurd z' q) (fun _ => ⟨fun _ => rfl, fun q => by omega, fun q => by omega, fun q => by omega, fun q => by omega, fun q => by omega⟩), fun y => ⟨by omega, m8 _ (fun q => absurd z' q) (fun _ => ⟨fun q => by omega, fun _ => rfl, fun q => by omega, fun q => by omega, fun q => by omega, fun q => by omega⟩)⟩, fun y => ⟨by omega, m8 _ (fun q => absurd z' q) (fun _ => ⟨fun q => by omega, fun q => by omega, fun _ => rfl, fun q => by omega, fun q => by omega, fun q => by omega⟩)⟩, fun y => ⟨by omega, m8 _ (fun q => absurd z' q) (fun _ => ⟨fun q => by omega, fun q => by omega, fun q => by omega, fun _ => rfl, fun q => by omega, fun q => by omega⟩)⟩, fun y => ⟨by omega, ?_⟩, fun y => c0_kindOf hn (by omega) (by omega) (by omega) (m8 _ (fun q => absurd z' q) (fun _ => ⟨fun q => by omega, fun q => by omega, fun q => by omega, fun q => by omega, fun q => by omega, fun _ => rfl⟩))⟩
  rcases lc.2.1 with x | x
  · rw [x]
    exact ⟨fun _ => m8 _ (fun q => absurd z' q) (fun _ => ⟨fun q => by omega, fun q => by omega, fun q => by omega, fun q => by omega, fun _ => x.symm, fun q => by omega⟩), fun q => absurd rfl q⟩
  · rw [x]
    exact ⟨fun q => absurd q (by decide), fun _ => m8 _ (fun q => absurd z' q) (fun _ => ⟨fun q => by omega, fun q => by omega, fun q => by omega, fun q => by omega, fun _ => x.symm, fun q => by omega⟩)⟩
end T34
