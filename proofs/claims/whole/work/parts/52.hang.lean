section T12
variable {G : zG} {n : Nat} {μ : zM}
theorem cntC_ext {f g : Int → Int} (k : Nat) (h : ∀ j : Int, 0 ≤ j → j < k → f j = g j) : cntC f k = cntC g k := by
  induction k with
  | zero => rfl
  | succ k ih => simp only [cntC]; rw [ih (fun j a b => h j a (by omega)), h k (by omega) (by omega)]
theorem cntC_set {f g : Int → Int} {i : Int} (hi : 0 ≤ i) (hf : 0 < f i) (hg : ¬ 0 < g i) (h : ∀ j : Int, j ≠ i → f j = g j) (k : Nat) (hk : i < k) : cntC f k = cntC g k + 1 := by
  induction k with
  | zero => omega
  | succ k ih =>
    simp only [cntC]
    by_cases c : i = k
    · subst c
      rw [if_pos hf, if_neg hg, cntC_ext k (fun j _ b => h j (by omega))]; omega
    · rw [ih (by omega), h k (fun q => c q.symm)]; omega
/-- ν is μ with the call of inlet i taken off -/
def Off (μ ν : zM) (i : Int) : Prop :=
  (∀ j, ν 127 j = μ 127 j) ∧ (∀ j, j ≠ 3 → ν 1 j = μ 1 j) ∧ ν 1 3 = μ 1 3 - 1 ∧ (∀ j, ν 129 j = μ 129 j) ∧
  (∀ j, ν 2 j = if j = i then -9 else μ 2 j) ∧ (∀ j, ν 128 j = if j = i then 0 else μ 128 j) ∧ (∀ j, ν 4 j = if j = i then -9 else μ 4 j) ∧
  (∀ j, ν 3 j = if j = μ 2 i then -9 else μ 3 j) ∧
  (∀ s a, 0 ≤ s → s < 5 → ν (7 + s) a = if s = i / μ 1 1 ∧ a = μ 4 i then -9 else μ (7 + s) a) ∧
  (∀ s a, 0 ≤ s → s < 5 → ν (13 + s) a = if s = μ 2 i / μ 1 1 ∧ a = μ 4 i then -9 else μ (13 + s) a)
end T12
