section T50
variable {G : zG} {n : Nat} {μ ν : zM}
theorem ln_eq (e1 : ν 19 0 = μ 19 0) (e2 : ∀ x, ν 20 x = μ 20 x) (x : Int) : ∀ j, ln ν x j = ln μ x j
  | 0 => rfl
  | j + 1 => by
    have e5 : wd ν = wd μ := by unfold wd; rw [e1]
    simp only [ln]
    rw [ln_eq e1 e2 x j, e1, e2, e5]
theorem cl_eq (e1 : ν 19 0 = μ 19 0) (e2 : ∀ x, ν 20 x = μ 20 x) (x y : Int) : ∀ f j, cl ν x y f j = cl μ x y f j
  | 0, _ => rfl
  | f + 1, j => by
    simp only [cl]
    rw [ln_eq e1 e2, ln_eq e1 e2, cl_eq e1 e2 x y f (j + 1)]
/-- two inlets clash -/
def CL (μ : zM) (x y : Int) : Prop := cl μ x y (μ 19 0).toNat 0 ≠ -9
theorem cl_r (x y : Int) : ∀ f j : Nat, cl μ x y f j = -9 ∨ (0 ≤ cl μ x y f j ∧ cl μ x y f j < j + f)
  | 0, _ => Or.inl rfl
  | f + 1, j => by
    simp only [cl]
    split
    · exact Or.inr ⟨by omega, by omega⟩
    · rcases cl_r x y f (j + 1) with q | q
      · exact Or.inl q
      · exact Or.inr ⟨by omega, by omega⟩
/-- what is kept while the parting goes on -/
def Kp (μ ν : zM) : Prop := ν 19 0 = μ 19 0 ∧ ν 127 12 = μ 127 12 ∧ (∀ x, ν 20 x = μ 20 x) ∧ (∀ x, ν 133 x = μ 133 x)
theorem Kp.i2 (h : I2 μ) (k : Kp μ ν) : I2 ν := h.eq2 k.1 k.2.1 k.2.2.1 k.2.2.2
theorem Kp_wd (k : Kp μ ν) : wd ν = wd μ := by unfold wd; rw [k.1]
end T50
