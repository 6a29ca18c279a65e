section T12
variable {G : zG} {n : Nat} {μ : zM}
theorem cntC_ext {f g : Int → Int} (k : Nat) (h : ∀ j : Int, 0 ≤ j → j < k → f j = g j) : cntC f k = cntC g k := by
  induction k with
  | zero => rfl
  | succ k ih => simp only [cntC]; rw [ih (fun j a b => h j a (by omega)), h k (by omega) (by omega)]
theorem cntC_set {f g : Int → Int} {i : Int} (hi : 0 ≤ i) (hf : 0 < f i) (hg : ¬ 0 < g i) (h : ∀ j : Int, j ≠ i → f j = g j) (k : Nat) (hk : i < k) : cntC f k = cntC g k + 1 := by
  induction k with
  | zero => omega
  | succ k ih =>
    simp only [cntC]
    by_cases c : i = k
    · subst c
      rw [if_pos hf, if_neg hg, cntC_ext k (fun j _ b => h j (by omega))]; omega
    · rw [ih (by omega), h k (fun q => c q.symm)]; omega
/-- ν is μ with the call of inlet i taken off -/
def Off (μ ν : zM) (i : Int) : Prop :=
  (∀ j, ν 127 j = μ 127 j) ∧ (∀ j, j ≠ 3 → ν 1 j = μ 1 j) ∧ ν 1 3 = μ 1 3 - 1 ∧ (∀ j, ν 129 j = μ 129 j) ∧
  (∀ j, ν 2 j = if j = i then -9 else μ 2 j) ∧ (∀ j, ν 128 j = if j = i then 0 else μ 128 j) ∧ (∀ j, ν 4 j = if j = i then -9 else μ 4 j) ∧
  (∀ j, ν 3 j = if j = μ 2 i then -9 else μ 3 j) ∧
  (∀ s a, 0 ≤ s → s < 5 → ν (7 + s) a = if s = i / μ 1 1 ∧ a = μ 4 i then -9 else μ (7 + s) a) ∧
  (∀ s a, 0 ≤ s → s < 5 → ν (13 + s) a = if s = μ 2 i / μ 1 1 ∧ a = μ 4 i then -9 else μ (13 + s) a)
theorem Off.up {ν : zM} {i j : Int} (h : I1 μ) (o : Off μ ν i) (hi0 : 0 ≤ i) (hi : i < 20) (ui : Up μ i) (hj : j ≠ i) (hj0 : 0 ≤ j) (u : Up μ j) : Up ν j := by
  obtain ⟨o1, o2, o3, o4, o5, o6, o7, o8, o9, o10⟩ := o
  obtain ⟨u1, ⟨u2, u3, u4⟩, ⟨u5, u6, u7⟩, u8, u9, u10⟩ := u
  obtain ⟨_, ⟨b1, b2, b3⟩, _⟩ := h.gd
  have s1 := sw_lt hj0 u1 (by omega)
  have s2 := sw_lt u2 u3 (by omega)
  have a3 := h.gd.1.2.2
  have e2 : ν 2 j = μ 2 j := by rw [o5, if_neg hj]
  have e4 : ν 4 j = μ 4 j := by rw [o7, if_neg hj]
  unfold Up
  rw [o2 0 (by decide), o2 1 (by decide), o2 2 (by decide), e2, e4, o6, if_neg hj, o4]
  refine ⟨u1, ⟨u2, u3, u4⟩, ⟨u5, u6, u7⟩, ?_, ?_, ?_⟩
  · rw [o8, if_neg (fun q => hj ?_)]
    · exact u8
    · have := ui.2.2.2.1
      rw [← q, u8] at this; exact this
  · rw [o9 _ _ s1.1 (by omega), if_neg (fun q => hj ?_)]
    · exact u9
    · have := ui.2.2.2.2.1
      rw [← q.1, ← q.2, u9] at this; exact this
  · rw [o10 _ _ s2.1 (by omega), if_neg (fun q => hj ?_)]
    · exact u10
    · have := ui.2.2.2.2.2
      rw [← q.1, ← q.2, u10] at this; exact this
theorem Off.I1 {ν : zM} {i : Int} (h : I1 μ) (o : Off μ ν i) (hi0 : 0 ≤ i) (hi : i < 20) (ui : Up μ i) : I1 ν := by
  have o' := o
  obtain ⟨o1, o2, o3, o4, o5, o6, o7, o8, o9, o10⟩ := o
  refine ⟨?_, ?_, ?_, ?_, ?_, ?_⟩
  · have := h.gd
    unfold Gd at this ⊢
    rw [o2 0 (by decide), o2 1 (by decide), o2 2 (by decide), o1, o1, o1]; exact this
  · intro j j0 j1
    by_cases c : j = i
    · subst c
      left
      exact ⟨by rw [o5, if_pos rfl], by rw [o6, if_pos rfl], by rw [o7, if_pos rfl]⟩
    · rcases h.row j j0 j1 with ⟨d1, d2, d3⟩ | u
      · left
        exact ⟨by rw [o5, if_neg c, d1], by rw [o6, if_neg c, d2], by rw [o7, if_neg c, d3]⟩
      · exact Or.inr (o'.up h hi0 hi ui c j0 u)
  · intro j j0 j1
    rw [o8]
    split
    · exact Or.inl rfl
    · rename_i c
      rcases h.col j j0 j1 with q | ⟨q1, q2, q3⟩
      · exact Or.inl q
      · right
        refine ⟨q1, q2, ?_⟩
        rw [o5, if_neg (fun q => c ?_)]
        · exact q3
        · rw [← q, q3]
  · intro s a s0 s1 a0 a1
    rw [o9 s a s0 s1]
    split
    · exact Or.inl rfl
    · rename_i c
      rcases h.left s a s0 s1 a0 a1 with q | ⟨q1, q2, q3, q4, q5⟩
      · exact Or.inl q
      · right
        have ne : μ (7 + s) a ≠ i := fun q => c ⟨by rw [← q, q4], by rw [← q, q5]⟩
        exact ⟨q1, q2, o'.up h hi0 hi ui ne q1 q3, by rw [o2 1 (by decide)]; exact q4, by rw [o7, if_neg ne]; exact q5⟩
  · intro s a s0 s1 a0 a1
    rw [o10 s a s0 s1]
    split
    · exact Or.inl rfl
    · rename_i c
      rcases h.right s a s0 s1 a0 a1 with q | ⟨q1, q2, q3, q4, q5⟩
      · exact Or.inl q
      · right
        have ne : μ (13 + s) a ≠ i := fun q => c ⟨by rw [← q, q4], by rw [← q, q5]⟩
        exact ⟨q1, q2, o'.up h hi0 hi ui ne q1 q3, by rw [o2 1 (by decide), o5, if_neg ne]; exact q4, by rw [o7, if_neg ne]; exact q5⟩
  · have := cntC_set (f := μ 128) (g := ν 128) hi0 (by have := ui.2.1; omega) (by rw [o6, if_pos rfl]; decide) (fun j c => by rw [o6, if_neg c]) 20 (by omega)
    rw [o3, h.held, this]; omega
end T12
