/-! COMPARERS: what is told of them -/
def B3 (μ : zM) : Prop := (μ 30 0 = μ 127 24 ∧ 2 ≤ μ 30 0 ∧ μ 30 0 ≤ 8) ∧ (μ 30 1 = μ 127 25 ∧ 0 ≤ μ 30 1 ∧ μ 30 1 ≤ 30) ∧ μ 30 3 = μ 127 1 ∧
  ∀ c, 0 ≤ c → c < μ 30 1 → μ 31 c = μ 141 c ∧ μ 32 c = μ 142 c ∧ 0 ≤ μ 31 c ∧ μ 31 c < μ 30 0 ∧ 0 ≤ μ 32 c ∧ μ 32 c < μ 30 0 ∧ μ 31 c ≠ μ 32 c
def knd (a b : Int) : Int := if b < a then 2 else if 1 < b - a then 1 else 0
section T3
variable {G : zG} {n : Nat} {μ : zM}
theorem c0_kindOf (hn : 154 ≤ n) {c : Int} {K : Int → zM → Prop} (hc : 0 ≤ c ∧ c < 30) (h1 : 0 ≤ μ 31 c ∧ μ 31 c < 8) (h2 : 0 ≤ μ 32 c ∧ μ 32 c < 8) (h : K (knd (μ 31 c) (μ 32 c)) μ) : mX0_kindOf G n c μ K := by
  refine eX0_kindOf (by omega) ?_
  unfold knd at h
  simp (disch := omega) only [wr_of]
  refine ⟨hc, hc, fun q => ⟨hc, hc, fun q2 => ?_, fun q2 => ?_⟩, fun q => ?_⟩
  · rwa [if_neg (by omega), if_neg (by omega)] at h
  · rwa [if_neg (by omega), if_pos (by omega)] at h
  · rwa [if_pos (by omega)] at h
theorem c8_kindOf (hn : 154 ≤ n) {c : Int} {K : Int → zM → Prop} (hc : 0 ≤ c ∧ c < 30) (h1 : 0 ≤ μ 141 c ∧ μ 141 c < 8) (h2 : 0 ≤ μ 142 c ∧ μ 142 c < 8) (h : K (knd (μ 141 c) (μ 142 c)) μ) : mX8_kindOf G n c μ K := by
  refine eX8_kindOf (by omega) ?_
  unfold knd at h
  simp (disch := omega) only [wr_of]
  refine ⟨hc, hc, fun q => ⟨hc, hc, fun q2 => ?_, fun q2 => ?_⟩, fun q => ?_⟩
  · rwa [if_neg (by omega), if_neg (by omega)] at h
  · rwa [if_neg (by omega), if_pos (by omega)] at h
  · rwa [if_pos (by omega)] at h
theorem c8_isComparer (hn : 154 ≤ n) {c : Int} {K : Int → zM → Prop} (hc : R32 c) (hm : 0 ≤ μ 127 25 ∧ μ 127 25 ≤ 30) (h : K (if 0 ≤ c ∧ c < μ 127 25 then 1 else 0) μ) : mX8_isComparer G n c μ K := by
  refine eX8_isComparer hn ?_
  simp (disch := omega) only [wr_of]
  refine ⟨fun q => ?_, fun q => ⟨fun q2 => ?_, fun q2 => ?_⟩⟩
  · rwa [if_neg (by omega)] at h
  · rwa [if_neg (by omega)] at h
  · rwa [if_pos (by omega)] at h
theorem c0_leave (hn : 154 ≤ n) {b : Int} {K : zM → Prop} (h : K (zu μ 30 3 (31 * μ 30 3 + b))) : mX0_leaveTrace G n b μ K := eX0_leaveTrace (by omega) (fun μ1 e => by rw [e]; exact h)
theorem c8_begins (hn : 154 ≤ n) {b : Int} {K : zM → Prop} (h : K (zu μ 127 1 (31 * μ 127 1 + b))) : mX8_begins G n b μ K := eX8_begins hn (fun μ1 e => by rw [e]; exact h)
theorem knd_r (a b : Int) : knd a b = 0 ∨ knd a b = 1 ∨ knd a b = 2 := by
  unfold knd
  split
  · exact Or.inr (Or.inr rfl)
  · split
    · exact Or.inr (Or.inl rfl)
    · exact Or.inl rfl
def Tr (μ μ2 : zM) : Prop := ∃ t, μ2 = zu (zu μ 30 3 t) 127 1 t
theorem t_trace (hn : 154 ≤ n) (h : B3 μ) : mX7_trace G n μ (fun a μ1 => mX8_trace G n μ1 (fun b μ2 => a = b ∧ μ2 = μ)) := eX7_trace hn (eX8_trace hn ⟨h.2.2.1, rfl⟩)
theorem t_show (hn : 154 ≤ n) (h : B3 μ) {c : Int} (hc : R32 c) : mX7_show G n c μ (fun a μ1 => mX8_show G n c μ1 (fun b μ2 => a = b ∧ (μ2 = μ ∨ Tr μ μ2))) := by
  obtain ⟨⟨w1, w2, w3⟩, ⟨m1, m2, m3⟩, tr, hC⟩ := id h
  refine eX7_show hn (c_within hn ?_)
  simp (disch := omega) only [wr_of, ite_b0, Classical.not_not]
  refine ⟨fun q => eX8_show hn (c8_isComparer hn hc (by omega) ?_), fun q => ?_⟩
  · simp (disch := omega) only [wr_of, ite_b0, Classical.not_not]
    exact ⟨fun q2 => absurd (by omega) q, fun _ => ⟨trivial, Or.inl trivial⟩⟩
  · obtain ⟨e1, e2, r1, r2, r3, r4, r5⟩ := hC c q.1 (by omega)
    refine eX0_shown (by omega) (c0_kindOf hn (by omega) (by omega) (by omega) ?_)
    have hk := knd_r (μ 31 c) (μ 32 c)
    have key : ∀ b : Int, ∀ a : Int, (b = if knd (μ 31 c) (μ 32 c) = 2 then 5 else 4) → (a = if knd (μ 31 c) (μ 32 c) = 2 then 30 else c) → mX8_show G n c (zu μ 30 3 (31 * μ 30 3 + b)) (fun b' μ2 => a = b' ∧ (μ2 = μ ∨ Tr μ μ2)) := by
      intro b a hb ha
      refine eX8_show hn (c8_isComparer hn hc (by simp [zu]; omega) ?_)
      have f1 : ∀ i, zu μ 30 3 (31 * μ 30 3 + b) 127 i = μ 127 i := fun i => by simp [zu]
      have f2 : ∀ i, zu μ 30 3 (31 * μ 30 3 + b) 141 i = μ 141 i := fun i => by simp [zu]
      have f3 : ∀ i, zu μ 30 3 (31 * μ 30 3 + b) 142 i = μ 142 i := fun i => by simp [zu]
      rw [f1]
      simp (disch := omega) only [wr_of, ite_b0, Classical.not_not]
      refine ⟨fun _ => c8_kindOf hn (by omega) (by rw [f2]; omega) (by rw [f3]; omega) ?_, fun q2 => absurd (by omega) q2⟩
      rw [f2, f3, ← e1, ← e2]
      simp (disch := omega) only [wr_of]
      have g : ∀ d : Int, mX8_begins G n d (zu μ 30 3 (31 * μ 30 3 + b)) (fun μ8 => mX8_kindOf G n c μ8 (fun r9 μ10 => (¬ wr r9 = 2 → (a = c ∧ (μ10 = μ ∨ Tr μ μ10))) ∧ (wr r9 = 2 → (a = 30 ∧ (μ10 = μ ∨ Tr μ μ10))))) ∨ d ≠ b := by
        intro d
        by_cases hd : d = b
        · left
          subst hd
          refine c8_begins hn (c8_kindOf hn (by omega) (by simp [zu]; omega) (by simp [zu]; omega) ?_)
          have f4 : ∀ x i, x = 141 ∨ x = 142 → zu (zu μ 30 3 (31 * μ 30 3 + d)) 127 1 (31 * zu μ 30 3 (31 * μ 30 3 + d) 127 1 + d) x i = μ x i := fun x i hx => by rcases hx with rfl | rfl <;> simp [zu]
          rw [f4 141 c (Or.inl rfl), f4 142 c (Or.inr rfl), ← e1, ← e2]
          simp (disch := omega) only [wr_of]
          have ht : Tr μ (zu (zu μ 30 3 (31 * μ 30 3 + d)) 127 1 (31 * zu μ 30 3 (31 * μ 30 3 + d) 127 1 + d)) := ⟨31 * μ 30 3 + d, by rw [f1, ← tr]⟩
          exact ⟨fun q3 => ⟨by rw [ha, if_neg q3], Or.inr ht⟩, fun q3 => ⟨by rw [ha, if_pos q3], Or.inr ht⟩⟩
        · right; exact hd
      refine ⟨fun q3 => ?_, fun q3 => ?_⟩
      · rcases g 4 with g | g
        · exact g
        · rw [if_neg q3] at hb; exact absurd hb.symm g
      · rcases g 5 with g | g
        · exact g
        · rw [if_pos q3] at hb; exact absurd hb.symm g
    simp (disch := omega) only [wr_of]
    refine ⟨fun q2 => ⟨fun _ => c0_leave hn ⟨fun _ => key 4 c (by rw [if_neg q2]) (by rw [if_neg q2]), fun q3 => absurd trivial q3⟩, fun q3 => absurd trivial q3⟩, fun q2 => ⟨fun q3 => absurd q3 (by decide), fun _ => c0_leave hn ⟨fun q3 => absurd q3 (by decide), fun _ => key 5 30 (by rw [if_pos q2]) (by rw [if_pos q2])⟩⟩⟩
end T3
