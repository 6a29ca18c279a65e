section T9
variable {G : zG} {n : Nat} {μ : zM}
def nbl (μ : zM) : Int := if 2 * μ 1 1 - 1 ≤ μ 1 2 then 1 else if μ 1 0 = 1 then (if μ 1 2 < μ 1 1 then 0 else 1) else 0
theorem t_netOf (hn : 154 ≤ n) (h : I1 μ) {x : Int} (hx : R32 x) : mX7_netOf G n x μ (fun a μ1 => mX8_netOf G n x μ1 (fun b μ2 => a = b ∧ μ2 = μ)) := by
  obtain ⟨⟨a1, a2, a3⟩, ⟨b1, b2, b3⟩, ⟨c1, c2, c3⟩⟩ := h.gd
  obtain ⟨x1, x2⟩ := hx
  have m8 : ∀ a : Int, (x < 0 ∨ 5 < x → a = -2) → (x = 0 → a = μ 1 0) → (x = 1 → a = μ 1 1) → (x = 2 → a = μ 1 2) → (x = 3 → a = μ 1 3) → (x = 4 → a = nbl μ) → (x = 5 → a = if μ 1 2 < μ 1 1 then 0 else 1) → mX8_netOf G n x μ (fun b μ2 => a = b ∧ μ2 = μ) := by
    intro a k0 k1 k2 k3 k4 k5 k6
    refine eX8_netOf hn ?_
    rw [← a1, ← b1, ← c1]
    simp (disch := omega) only [wr_of]
    refine ⟨fun z => ⟨k0 z, trivial⟩, fun z => ⟨k1 z, trivial⟩, fun z => ⟨k2 z, trivial⟩, fun z => ⟨k3 z, trivial⟩, fun z => c8_calls hn h ⟨k4 z, rfl⟩, fun z => ?_, fun z => ?_⟩
    · have k5 := k5 z
      unfold nbl at k5
      refine ⟨fun q => ⟨by rw [k5, if_pos q], trivial⟩, fun q => ⟨fun q2 => ⟨by rw [k5, if_neg q, if_neg q2], trivial⟩, fun q2 => ⟨fun q3 => ⟨by rw [k5, if_neg q, if_pos q2, if_pos q3], trivial⟩, fun q3 => ⟨by rw [k5, if_neg q, if_pos q2, if_neg q3], trivial⟩⟩⟩⟩
    · have k6 := k6 z
      exact ⟨fun q => ⟨by rw [k6, if_pos q], trivial⟩, fun q => ⟨by rw [k6, if_neg q], trivial⟩⟩
  refine eX7_netOf hn ?_
  simp (disch := omega) only [wr_of]
  refine ⟨fun z => ?_, fun z => ?_, fun z => ?_, fun z => ?_, fun z => ?_, fun z => eX6_neverBlocks (by omega) ?_, fun z => ⟨fun q => ?_, fun q => ?_⟩⟩
  · exact m8 _ (fun _ => rfl) (fun _ => by omega) (fun _ => by omega) (fun _ => by omega) (fun _ => by omega) (fun _ => by omega) (fun _ => by omega)
  · exact m8 _ (fun _ => by omega) (fun _ => rfl) (fun _ => by omega) (fun _ => by omega) (fun _ => by omega) (fun _ => by omega) (fun _ => by omega)
  · exact m8 _ (fun _ => by omega) (fun _ => by omega) (fun _ => rfl) (fun _ => by omega) (fun _ => by omega) (fun _ => by omega) (fun _ => by omega)
  · exact m8 _ (fun _ => by omega) (fun _ => by omega) (fun _ => by omega) (fun _ => rfl) (fun _ => by omega) (fun _ => by omega) (fun _ => by omega)
  · exact m8 _ (fun _ => by omega) (fun _ => by omega) (fun _ => by omega) (fun _ => by omega) (fun _ => rfl) (fun _ => by omega) (fun _ => by omega)
  · have m9 : ∀ a : Int, a = nbl μ → mX8_netOf G n x μ (fun b μ2 => a = b ∧ μ2 = μ) := fun a e => m8 a (fun _ => by omega) (fun _ => by omega) (fun _ => by omega) (fun _ => by omega) (fun _ => by omega) (fun _ => e) (fun _ => by omega)
    have w0 : wr 0 = 0 := rfl
    have w1 : wr 1 = 1 := rfl
    unfold nbl at m9
    simp (disch := omega) only [wr_of]
    refine ⟨fun q => ⟨fun z => absurd z (by decide), fun _ => m9 _ (by rw [if_pos q])⟩, fun q => ⟨fun q2 => ⟨fun _ => m9 _ (by rw [if_neg q, if_neg q2]), fun z => absurd trivial z⟩, fun q2 => ⟨fun q3 => ⟨fun _ => m9 _ (by rw [if_neg q, if_pos q2, if_pos q3]), fun z => absurd trivial z⟩, fun q3 => ⟨fun z => absurd z (by decide), fun _ => m9 _ (by rw [if_neg q, if_pos q2, if_neg q3])⟩⟩⟩⟩
  · exact m8 _ (fun _ => by omega) (fun _ => by omega) (fun _ => by omega) (fun _ => by omega) (fun _ => by omega) (fun _ => by omega) (fun _ => by rw [if_pos q])
  · exact m8 _ (fun _ => by omega) (fun _ => by omega) (fun _ => by omega) (fun _ => by omega) (fun _ => by omega) (fun _ => by omega) (fun _ => by rw [if_neg q])
theorem t_many (hn : 154 ≤ n) (h : I1 μ) (e1 : μ 30 1 = μ 127 25) (e2 : μ 30 0 = μ 127 24) (e3 : μ 99 0 = μ 127 30) (e4 : μ 19 0 = μ 127 12) {x : Int} (hx : R32 x) : mX7_many G n x μ (fun a μ1 => mX8_many G n x μ1 (fun b μ2 => a = b ∧ μ2 = μ)) := by
  obtain ⟨x1, x2⟩ := hx
  have m8 : ∀ a : Int, (x < 0 ∨ 4 < x → a = -2) → (x = 0 → a = μ 1 3) → (x = 1 → a = μ 30 1) → (x = 2 → a = μ 30 0) → (x = 3 → a = μ 99 0) → (x = 4 → a = μ 19 0) → mX8_many G n x μ (fun b μ2 => a = b ∧ μ2 = μ) := by
    intro a k0 k1 k2 k3 k4 k5
    refine eX8_many hn ?_
    rw [← e1, ← e2, ← e3, ← e4]
    simp (disch := omega) only [wr_of]
    exact ⟨fun z => ⟨k0 z, trivial⟩, fun z => c8_calls hn h ⟨k1 z, rfl⟩, fun z => ⟨k2 z, trivial⟩, fun z => ⟨k3 z, trivial⟩, fun z => ⟨k4 z, trivial⟩, fun z => ⟨k5 z, trivial⟩⟩
  refine eX7_many hn ?_
  simp (disch := omega) only [wr_of]
  refine ⟨fun z => ?_, fun z => ?_, fun z => ?_, fun z => ?_, fun z => ?_, fun z => ?_⟩
  · exact m8 _ (fun _ => rfl) (fun _ => by omega) (fun _ => by omega) (fun _ => by omega) (fun _ => by omega) (fun _ => by omega)
  · exact m8 _ (fun _ => by omega) (fun _ => rfl) (fun _ => by omega) (fun _ => by omega) (fun _ => by omega) (fun _ => by omega)
  · exact m8 _ (fun _ => by omega) (fun _ => by omega) (fun _ => rfl) (fun _ => by omega) (fun _ => by omega) (fun _ => by omega)
  · exact m8 _ (fun _ => by omega) (fun _ => by omega) (fun _ => by omega) (fun _ => rfl) (fun _ => by omega) (fun _ => by omega)
  · exact m8 _ (fun _ => by omega) (fun _ => by omega) (fun _ => by omega) (fun _ => by omega) (fun _ => rfl) (fun _ => by omega)
  · exact m8 _ (fun _ => by omega) (fun _ => by omega) (fun _ => by omega) (fun _ => by omega) (fun _ => by omega) (fun _ => rfl)
end T9
