section T8
variable {G : zG} {n : Nat} {μ : zM}
/-- how many of the first k places have a positive entry -/
def cntC (f : Int → Int) : Nat → Int
  | 0 => 0
  | k + 1 => cntC f k + (if 0 < f k then 1 else 0)
theorem cntC_b (f : Int → Int) (k : Nat) : 0 ≤ cntC f k ∧ cntC f k ≤ k := by
  induction k with
  | zero => exact ⟨Int.le_refl _, Int.le_refl _⟩
  | succ k ih => simp only [cntC]; split <;> omega
def Gd (μ : zM) : Prop := (μ 1 0 = μ 127 2 ∧ 1 ≤ μ 1 0 ∧ μ 1 0 ≤ 5) ∧ (μ 1 1 = μ 127 3 ∧ 1 ≤ μ 1 1 ∧ μ 1 1 ≤ 4) ∧ (μ 1 2 = μ 127 4 ∧ 1 ≤ μ 1 2 ∧ μ 1 2 ≤ 7)
def Up (μ : zM) (i : Int) : Prop := i < μ 1 0 * μ 1 1 ∧ (0 ≤ μ 2 i ∧ μ 2 i < μ 1 0 * μ 1 1 ∧ μ 128 i = μ 2 i + 1) ∧ (0 ≤ μ 4 i ∧ μ 4 i < μ 1 2 ∧ μ 129 i = μ 4 i) ∧ μ 3 (μ 2 i) = i ∧ μ (7 + i / μ 1 1) (μ 4 i) = i ∧ μ (13 + μ 2 i / μ 1 1) (μ 4 i) = i
def Down (μ : zM) (i : Int) : Prop := μ 2 i = -9 ∧ μ 128 i = 0 ∧ μ 4 i = -9
def I1 (μ : zM) : Prop := (Gd μ) ∧ (∀ i, 0 ≤ i → i < 20 → Down μ i ∨ Up μ i) ∧ (∀ j, 0 ≤ j → j < 20 → μ 3 j = -9 ∨ (0 ≤ μ 3 j ∧ μ 3 j < 20 ∧ μ 2 (μ 3 j) = j)) ∧ (∀ s a, 0 ≤ s → s < 5 → 0 ≤ a → a < 7 → μ (7 + s) a = -9 ∨ (0 ≤ μ (7 + s) a ∧ μ (7 + s) a < 20 ∧ Up μ (μ (7 + s) a) ∧ μ (7 + s) a / μ 1 1 = s ∧ μ 4 (μ (7 + s) a) = a)) ∧ (∀ s a, 0 ≤ s → s < 5 → 0 ≤ a → a < 7 → μ (13 + s) a = -9 ∨ (0 ≤ μ (13 + s) a ∧ μ (13 + s) a < 20 ∧ Up μ (μ (13 + s) a) ∧ μ 2 (μ (13 + s) a) / μ 1 1 = s ∧ μ 4 (μ (13 + s) a) = a)) ∧ (μ 1 3 = cntC (μ 128) 20)
theorem I1.gd (h : I1 μ) : Gd μ := h.1
theorem I1.row (h : I1 μ) : ∀ i, 0 ≤ i → i < 20 → Down μ i ∨ Up μ i := h.2.1
theorem I1.col (h : I1 μ) : ∀ j, 0 ≤ j → j < 20 → μ 3 j = -9 ∨ (0 ≤ μ 3 j ∧ μ 3 j < 20 ∧ μ 2 (μ 3 j) = j) := h.2.2.1
theorem I1.left (h : I1 μ) : ∀ s a, 0 ≤ s → s < 5 → 0 ≤ a → a < 7 → μ (7 + s) a = -9 ∨ (0 ≤ μ (7 + s) a ∧ μ (7 + s) a < 20 ∧ Up μ (μ (7 + s) a) ∧ μ (7 + s) a / μ 1 1 = s ∧ μ 4 (μ (7 + s) a) = a) := h.2.2.2.1
theorem I1.right (h : I1 μ) : ∀ s a, 0 ≤ s → s < 5 → 0 ≤ a → a < 7 → μ (13 + s) a = -9 ∨ (0 ≤ μ (13 + s) a ∧ μ (13 + s) a < 20 ∧ Up μ (μ (13 + s) a) ∧ μ 2 (μ (13 + s) a) / μ 1 1 = s ∧ μ 4 (μ (13 + s) a) = a) := h.2.2.2.2.1
theorem I1.held (h : I1 μ) : μ 1 3 = cntC (μ 128) 20 := h.2.2.2.2.2
theorem Gd.nn (h : Gd μ) : 1 ≤ μ 1 0 * μ 1 1 ∧ μ 1 0 * μ 1 1 ≤ 20 ∧ μ 127 2 * μ 127 3 = μ 1 0 * μ 1 1 := by
  obtain ⟨⟨a1, a2, a3⟩, ⟨b1, b2, b3⟩, _⟩ := h
  refine ⟨?_, ?_, by rw [a1, b1]⟩
  · have := Int.mul_le_mul a2 b2 (by decide) (by omega); omega
  · have := Int.mul_le_mul a3 b3 (by omega) (by decide); omega
theorem I1.r128 (h : I1 μ) {i : Int} (h0 : 0 ≤ i) (h1 : i < 20) : 0 ≤ μ 128 i ∧ μ 128 i ≤ 20 := by
  have := h.gd.nn
  rcases h.row i h0 h1 with ⟨_, q, _⟩ | ⟨_, q, _⟩ <;> omega
theorem c6_isPlace (hn : 154 ≤ n) (h : Gd μ) {x : Int} (hx : R32 x) {K : Int → zM → Prop} (hK : K (if 0 ≤ x ∧ x < μ 1 0 * μ 1 1 then 1 else 0) μ) : mX6_isPlace G n x μ K := by
  have := h.nn
  obtain ⟨x1, x2⟩ := hx
  refine eX6_isPlace (by omega) (eX6_inlets (by omega) (c_within hn ?_))
  simp (disch := omega) only [wr_of]
  refine ⟨?_, ?_⟩
  · split <;> simp
  · by_cases c : 0 ≤ x ∧ x < μ 1 0 * μ 1 1
    · rw [if_pos c] at hK; rw [if_pos (by omega)]; exact hK
    · rw [if_neg c] at hK; rw [if_neg (by omega)]; exact hK
theorem c8_isLine (hn : 154 ≤ n) (h : Gd μ) {x : Int} (hx : R32 x) {K : Int → zM → Prop} (hK : K (if 0 ≤ x ∧ x < μ 1 0 * μ 1 1 then 1 else 0) μ) : mX8_isLine G n x μ K := by
  have := h.nn
  obtain ⟨x1, x2⟩ := hx
  refine eX8_isLine hn ⟨fun z => ?_, fun z => eX8_lines hn ?_⟩
  · rw [wr_of x1 x2] at z; rwa [if_neg (by omega)] at hK
  · rw [wr_of x1 x2] at z
    rw [this.2.2]
    simp (disch := omega) only [wr_of]
    exact ⟨fun q => by rwa [if_neg (by omega)] at hK, fun q => by rwa [if_pos (by omega)] at hK⟩
theorem c8_calls (hn : 154 ≤ n) (h : I1 μ) {K : Int → zM → Prop} (hK : K (μ 1 3) μ) : mX8_calls G n μ K := by
  have key : ∀ (f k : Nat), k + f = 20 → pX8_calls G n K 4 [some (Rv G 127), some (Iv (cntC (μ 128) k)), some (Iv k)] [] μ := by
    intro f
    induction f with
    | zero =>
      intro k e
      have : k = 20 := by omega
      subst this
      refine bX8_calls_4 hn ⟨fun _ => by rw [← h.held]; exact hK, fun z => absurd (by decide) z⟩
    | succ f ih =>
      intro k e
      have hr := h.r128 (i := k) (by omega) (by omega)
      have := ih (k + 1) (by omega)
      simp only [cntC] at this
      refine bX8_calls_4 hn ?_
      simp (disch := omega) only [wr_of]
      refine ⟨fun z => by omega, fun _ => ⟨by omega, fun z => ?_, fun z => ?_⟩⟩
      · rwa [if_neg (by omega)] at this
      · rwa [if_pos (by omega)] at this
  exact eX8_calls hn (key 20 0 rfl)
theorem t_callOf (hn : 154 ≤ n) (h : I1 μ) {i w : Int} (hi : R32 i) (hw : R32 w) : mX7_callOf G n i w μ (fun a μ1 => mX8_callOf G n i w μ1 (fun b μ2 => a = b ∧ μ2 = μ)) := by
  have hN := h.gd.nn
  have i1 := hi.1
  have i2 := hi.2
  have w1 := hw.1
  have w2 := hw.2
  refine eX7_callOf hn (c6_isPlace hn h.gd hi ?_)
  simp (disch := omega) only [wr_of, ite_b0, Classical.not_not]
  refine ⟨fun z => c_within hn ?_, fun z => eX8_callOf hn (c8_isLine hn h.gd hi ?_)⟩
  · simp (disch := omega) only [wr_of, ite_b0, Classical.not_not]
    have hr := h.r128 (i := i) (by omega) (by omega)
    refine ⟨fun z2 => ⟨fun z3 => ⟨by omega, eX8_callOf hn (c8_isLine hn h.gd hi ?_)⟩, fun z3 => ⟨by omega, eX8_callOf hn (c8_isLine hn h.gd hi ?_)⟩⟩, fun z2 => eX8_callOf hn (c8_isLine hn h.gd hi ?_)⟩
    all_goals simp (disch := omega) only [wr_of, ite_b0, Classical.not_not]
    all_goals refine ⟨fun _ => c8_within hn ?_, fun q => absurd z q⟩
    all_goals simp (disch := omega) only [wr_of, ite_b0, Classical.not_not]
    · refine ⟨fun _ => ⟨by omega, fun q => ⟨fun q2 => ⟨by omega, ?_, trivial⟩, fun q2 => absurd q2 z3⟩, fun q => ⟨?_, trivial⟩⟩, fun q => absurd z2 q⟩
      · rcases h.row i (by omega) (by omega) with ⟨_, e, _⟩ | ⟨_, _, e, _⟩
        · exact absurd e q
        · exact e.2.2.symm
      · rcases h.row i (by omega) (by omega) with ⟨_, _, e⟩ | ⟨_, e, _⟩
        · exact e
        · omega
    · refine ⟨fun _ => ⟨by omega, fun q => ⟨fun q2 => absurd z3 q2, fun q2 => ⟨by omega, ?_, trivial⟩⟩, fun q => ⟨?_, trivial⟩⟩, fun q => absurd z2 q⟩
      · rcases h.row i (by omega) (by omega) with ⟨_, e, _⟩ | ⟨_, e, _⟩
        · exact absurd e q
        · omega
      · rcases h.row i (by omega) (by omega) with ⟨e, _⟩ | ⟨_, e, _⟩
        · exact e
        · omega
    · exact ⟨fun q => absurd q z2, fun _ => ⟨trivial, trivial⟩⟩
  · simp (disch := omega) only [wr_of, ite_b0, Classical.not_not]
    exact ⟨fun q => absurd q z, fun _ => ⟨trivial, trivial⟩⟩
end T8
