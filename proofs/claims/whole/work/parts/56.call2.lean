section T16
variable {G : zG} {n : Nat} {μ : zM}
/-- ν is μ with the call of inlet i to outlet o set up by middle switch a -/
def On (μ ν : zM) (i o a : Int) : Prop :=
  (∀ j, ν 127 j = μ 127 j) ∧ (∀ j, j ≠ 3 → ν 1 j = μ 1 j) ∧ ν 1 3 = μ 1 3 + 1 ∧ (∀ j, ν 129 j = if j = i then a else μ 129 j) ∧
  (∀ j, ν 2 j = if j = i then o else μ 2 j) ∧ (∀ j, ν 128 j = if j = i then o + 1 else μ 128 j) ∧ (∀ j, ν 4 j = if j = i then a else μ 4 j) ∧
  (∀ j, ν 3 j = if j = o then i else μ 3 j) ∧
  (∀ s b, 0 ≤ s → s < 5 → ν (7 + s) b = if s = i / μ 1 1 ∧ b = a then i else μ (7 + s) b) ∧
  (∀ s b, 0 ≤ s → s < 5 → ν (13 + s) b = if s = o / μ 1 1 ∧ b = a then i else μ (13 + s) b)
/-- what a call to be set up needs -/
def Fr (μ : zM) (i o a : Int) : Prop := (0 ≤ i ∧ i < μ 1 0 * μ 1 1) ∧ (0 ≤ o ∧ o < μ 1 0 * μ 1 1) ∧ (0 ≤ a ∧ a < μ 1 2) ∧ μ 2 i = -9 ∧ μ 3 o = -9 ∧ μ (7 + i / μ 1 1) a = -9 ∧ μ (13 + o / μ 1 1) a = -9
theorem On.up {ν : zM} {i o a j : Int} (h : I1 μ) (p : On μ ν i o a) (f : Fr μ i o a) (hj0 : 0 ≤ j) (u : Up μ j) : Up ν j := by
  obtain ⟨o1, o2, o3, o4, o5, o6, o7, o8, o9, o10⟩ := p
  obtain ⟨u1, ⟨u2, u3, u4⟩, ⟨u5, u6, u7⟩, u8, u9, u10⟩ := u
  obtain ⟨f1, f2, f3, f4, f5, f6, f7⟩ := f
  obtain ⟨⟨a1, a2, a3⟩, ⟨b1, b2, b3⟩, _⟩ := h.gd
  have s1 := sw_lt hj0 u1 (by omega)
  have s2 := sw_lt u2 u3 (by omega)
  have hj : j ≠ i := fun q => by rw [q] at u2; omega
  have e2 : ν 2 j = μ 2 j := by rw [o5, if_neg hj]
  have e4 : ν 4 j = μ 4 j := by rw [o7, if_neg hj]
  unfold Up
  rw [o2 0 (by decide), o2 1 (by decide), o2 2 (by decide), e2, e4, o6, if_neg hj, o4, if_neg hj]
  refine ⟨u1, ⟨u2, u3, u4⟩, ⟨u5, u6, u7⟩, ?_, ?_, ?_⟩
  · rw [o8, if_neg (fun q => ?_)]
    · exact u8
    · rw [q] at u8; omega
  · rw [o9 _ _ s1.1 (by omega), if_neg (fun q => ?_)]
    · exact u9
    · rw [q.1, q.2] at u9; omega
  · rw [o10 _ _ s2.1 (by omega), if_neg (fun q => ?_)]
    · exact u10
    · rw [q.1, q.2] at u10; omega
theorem On.new {ν : zM} {i o a : Int} (h : I1 μ) (p : On μ ν i o a) (f : Fr μ i o a) : Up ν i := by
  obtain ⟨o1, o2, o3, o4, o5, o6, o7, o8, o9, o10⟩ := p
  obtain ⟨f1, f2, f3, f4, f5, f6, f7⟩ := f
  obtain ⟨⟨a1, a2, a3⟩, ⟨b1, b2, b3⟩, _⟩ := h.gd
  have s1 := sw_lt f1.1 f1.2 (show 0 < μ 1 1 by omega)
  have s2 := sw_lt f2.1 f2.2 (show 0 < μ 1 1 by omega)
  have e2 : ν 2 i = o := by rw [o5, if_pos rfl]
  have e4 : ν 4 i = a := by rw [o7, if_pos rfl]
  unfold Up
  rw [o2 0 (by decide), o2 1 (by decide), o2 2 (by decide), e2, e4, o6, if_pos rfl, o4, if_pos rfl]
  refine ⟨f1.2, ⟨f2.1, f2.2, rfl⟩, ⟨f3.1, f3.2, rfl⟩, ?_, ?_, ?_⟩
  · rw [o8, if_pos rfl]
  · rw [o9 _ _ s1.1 (by omega), if_pos ⟨rfl, rfl⟩]
  · rw [o10 _ _ s2.1 (by omega), if_pos ⟨rfl, rfl⟩]
theorem On.I1 {ν : zM} {i o a : Int} (h : I1 μ) (p : On μ ν i o a) (f : Fr μ i o a) : I1 ν := by
  have nw := p.new h f
  have hN := h.gd.nn
  have p' := p
  have f' := f
  obtain ⟨o1, o2, o3, o4, o5, o6, o7, o8, o9, o10⟩ := p
  obtain ⟨f1, f2, f3, f4, f5, f6, f7⟩ := f
  refine ⟨?_, ?_, ?_, ?_, ?_, ?_⟩
  · have := h.gd
    unfold Gd at this ⊢
    rw [o2 0 (by decide), o2 1 (by decide), o2 2 (by decide), o1, o1, o1]; exact this
  · intro j j0 j1
    by_cases c : j = i
    · subst c
      exact Or.inr nw
    · rcases h.row j j0 j1 with ⟨d1, d2, d3⟩ | u
      · left
        exact ⟨by rw [o5, if_neg c, d1], by rw [o6, if_neg c, d2], by rw [o7, if_neg c, d3]⟩
      · exact Or.inr (p'.up h f' j0 u)
  · intro j j0 j1
    rw [o8]
    split
    · rename_i c
      right
      exact ⟨f1.1, by omega, by rw [o5, if_pos rfl, c]⟩
    · rename_i c
      rcases h.col j j0 j1 with q | ⟨q1, q2, q3⟩
      · exact Or.inl q
      · right
        refine ⟨q1, q2, ?_⟩
        rw [o5, if_neg (fun q => ?_)]
        · exact q3
        · rw [q, f4] at q3; omega
  · intro s b s0 s1 b0 b1
    rw [o9 s b s0 s1]
    split
    · rename_i c
      right
      exact ⟨f1.1, by omega, nw, by rw [o2 1 (by decide)]; exact c.1.symm, by rw [o7, if_pos rfl, c.2]⟩
    · rename_i c
      rcases h.left s b s0 s1 b0 b1 with q | ⟨q1, q2, q3, q4, q5⟩
      · exact Or.inl q
      · right
        have ne : μ (7 + s) b ≠ i := fun q => by rw [q] at q3; have := q3.2.1; omega
        exact ⟨q1, q2, p'.up h f' q1 q3, by rw [o2 1 (by decide)]; exact q4, by rw [o7, if_neg ne]; exact q5⟩
  · intro s b s0 s1 b0 b1
    rw [o10 s b s0 s1]
    split
    · rename_i c
      right
      exact ⟨f1.1, by omega, nw, by rw [o2 1 (by decide), o5, if_pos rfl]; exact c.1.symm, by rw [o7, if_pos rfl, c.2]⟩
    · rename_i c
      rcases h.right s b s0 s1 b0 b1 with q | ⟨q1, q2, q3, q4, q5⟩
      · exact Or.inl q
      · right
        have ne : μ (13 + s) b ≠ i := fun q => by rw [q] at q3; have := q3.2.1; omega
        exact ⟨q1, q2, p'.up h f' q1 q3, by rw [o2 1 (by decide), o5, if_neg ne]; exact q4, by rw [o7, if_neg ne]; exact q5⟩
  · have hd : μ 128 i = 0 := by
      rcases h.row i f1.1 (by omega) with d | u
      · exact d.2.1
      · have := u.2.1; omega
    have := cntC_set (f := ν 128) (g := μ 128) f1.1 (by rw [o6, if_pos rfl]; omega) (by rw [hd]; decide) (fun j c => by rw [o6, if_neg c]) 20 (by omega)
    rw [o3, h.held, this]
end T16
