section T43
variable {G : zG} {n : Nat} {μ ν : zM}
def alln (p : Nat → Bool) : Nat → Bool
  | 0 => true
  | k + 1 => p k && alln p k
def anyn (p : Nat → Bool) : Nat → Bool
  | 0 => false
  | k + 1 => p k || anyn p k
theorem alln_i {p : Nat → Bool} : ∀ k : Nat, alln p k = true → ∀ j, j < k → p j = true
  | 0, _, j, hj => absurd hj (by omega)
  | k + 1, h, j, hj => by
    simp only [alln, Bool.and_eq_true] at h
    by_cases c : j = k
    · rw [c]; exact h.1
    · exact alln_i k h.2 j (by omega)
theorem anyn_i {p : Nat → Bool} : ∀ k : Nat, anyn p k = true → ∃ j, j < k ∧ p j = true
  | 0, h => by simp [anyn] at h
  | k + 1, h => by
    simp only [anyn, Bool.or_eq_true] at h
    rcases h with h | h
    · exact ⟨k, by omega, h⟩
    · obtain ⟨j, a, b⟩ := anyn_i k h
      exact ⟨j, by omega, b⟩
/-- the number that net v's inlet i has, of a pair's two -/
def pk (b i v x y : Nat) : Nat := if (b / 2 ^ i + v) % 2 = 0 then x else y
def ok8 (a0 a1 a2 a3 a4 a5 a6 a7 b : Nat) : Bool := ((2 ^ pk b 0 0 a0 a1 ||| 2 ^ pk b 1 0 a2 a3 ||| 2 ^ pk b 2 0 a4 a5 ||| 2 ^ pk b 3 0 a6 a7) == 15) && ((2 ^ pk b 0 1 a0 a1 ||| 2 ^ pk b 1 1 a2 a3 ||| 2 ^ pk b 2 1 a4 a5 ||| 2 ^ pk b 3 1 a6 a7) == 15)
def ok4 (a0 a1 a2 a3 b : Nat) : Bool := ((2 ^ pk b 0 0 a0 a1 ||| 2 ^ pk b 1 0 a2 a3) == 3) && ((2 ^ pk b 0 1 a0 a1 ||| 2 ^ pk b 1 1 a2 a3) == 3)
theorem ex8_all : alln (fun a0 => alln (fun a1 => alln (fun a2 => ((a0 == a1 && a1 == a2)) || alln (fun a3 => ((a0 == a1 && a1 == a3) || (a0 == a2 && a2 == a3) || (a1 == a2 && a2 == a3)) || alln (fun a4 => ((a0 == a1 && a1 == a4) || (a0 == a2 && a2 == a4) || (a1 == a2 && a2 == a4) || (a0 == a3 && a3 == a4) || (a1 == a3 && a3 == a4) || (a2 == a3 && a3 == a4)) || alln (fun a5 => ((a0 == a1 && a1 == a5) || (a0 == a2 && a2 == a5) || (a1 == a2 && a2 == a5) || (a0 == a3 && a3 == a5) || (a1 == a3 && a3 == a5) || (a2 == a3 && a3 == a5) || (a0 == a4 && a4 == a5) || (a1 == a4 && a4 == a5) || (a2 == a4 && a4 == a5) || (a3 == a4 && a4 == a5)) || alln (fun a6 => ((a0 == a1 && a1 == a6) || (a0 == a2 && a2 == a6) || (a1 == a2 && a2 == a6) || (a0 == a3 && a3 == a6) || (a1 == a3 && a3 == a6) || (a2 == a3 && a3 == a6) || (a0 == a4 && a4 == a6) || (a1 == a4 && a4 == a6) || (a2 == a4 && a4 == a6) || (a3 == a4 && a4 == a6) || (a0 == a5 && a5 == a6) || (a1 == a5 && a5 == a6) || (a2 == a5 && a5 == a6) || (a3 == a5 && a5 == a6) || (a4 == a5 && a5 == a6)) || alln (fun a7 => ((a0 == a1 && a1 == a7) || (a0 == a2 && a2 == a7) || (a1 == a2 && a2 == a7) || (a0 == a3 && a3 == a7) || (a1 == a3 && a3 == a7) || (a2 == a3 && a3 == a7) || (a0 == a4 && a4 == a7) || (a1 == a4 && a4 == a7) || (a2 == a4 && a4 == a7) || (a3 == a4 && a4 == a7) || (a0 == a5 && a5 == a7) || (a1 == a5 && a5 == a7) || (a2 == a5 && a5 == a7) || (a3 == a5 && a5 == a7) || (a4 == a5 && a5 == a7) || (a0 == a6 && a6 == a7) || (a1 == a6 && a6 == a7) || (a2 == a6 && a6 == a7) || (a3 == a6 && a6 == a7) || (a4 == a6 && a6 == a7) || (a5 == a6 && a6 == a7)) || anyn (ok8 a0 a1 a2 a3 a4 a5 a6 a7) 16) 4) 4) 4) 4) 4) 4) 4) 4 = true := by decide +kernel
theorem ex4_all : alln (fun a0 => alln (fun a1 => alln (fun a2 => ((a0 == a1 && a1 == a2)) || alln (fun a3 => ((a0 == a1 && a1 == a3) || (a0 == a2 && a2 == a3) || (a1 == a2 && a2 == a3)) || anyn (ok4 a0 a1 a2 a3) 4) 2) 2) 2) 2 = true := by decide +kernel
theorem orR {x y : Bool} (h : (x || y) = true) (hx : x = false) : y = true := by rw [hx] at h; simpa using h
theorem tri {p : Nat → Nat} {i j k : Nat} (h : ¬ (p i = p j ∧ p j = p k)) : (p i == p j && p j == p k) = false := by
  cases c : (p i == p j && p j == p k) with
  | false => rfl
  | true =>
    rw [Bool.and_eq_true, beq_iff_eq, beq_iff_eq] at c
    exact absurd c h
theorem orF {x y : Bool} (hx : x = false) (hy : y = false) : (x || y) = false := by rw [hx, hy]; rfl
theorem ex8_use (p : Nat → Nat) (h : ∀ x, x < 8 → p x < 4) (h3 : ∀ x y z, x < y → y < z → z < 8 → ¬ (p x = p y ∧ p y = p z)) : ∃ b, b < 16 ∧ ok8 (p 0) (p 1) (p 2) (p 3) (p 4) (p 5) (p 6) (p 7) b = true := by
  have E := ex8_all
  have E := alln_i 4 E (p 0) (h 0 (by decide))
  have E := alln_i 4 E (p 1) (h 1 (by decide))
  have E := alln_i 4 E (p 2) (h 2 (by decide))
  have E := orR E (tri (h3 0 1 2 (by decide) (by decide) (by decide)))
  have E := alln_i 4 E (p 3) (h 3 (by decide))
  have E := orR E (orF (orF (tri (h3 0 1 3 (by decide) (by decide) (by decide))) (tri (h3 0 2 3 (by decide) (by decide) (by decide)))) (tri (h3 1 2 3 (by decide) (by decide) (by decide))))
  have E := alln_i 4 E (p 4) (h 4 (by decide))
  have E := orR E (orF (orF (orF (orF (orF (tri (h3 0 1 4 (by decide) (by decide) (by decide))) (tri (h3 0 2 4 (by decide) (by decide) (by decide)))) (tri (h3 1 2 4 (by decide) (by decide) (by decide)))) (tri (h3 0 3 4 (by decide) (by decide) (by decide)))) (tri (h3 1 3 4 (by decide) (by decide) (by decide)))) (tri (h3 2 3 4 (by decide) (by decide) (by decide))))
  have E := alln_i 4 E (p 5) (h 5 (by decide))
  have E := orR E (orF (orF (orF (orF (orF (orF (orF (orF (orF (tri (h3 0 1 5 (by decide) (by decide) (by decide))) (tri (h3 0 2 5 (by decide) (by decide) (by decide)))) (tri (h3 1 2 5 (by decide) (by decide) (by decide)))) (tri (h3 0 3 5 (by decide) (by decide) (by decide)))) (tri (h3 1 3 5 (by decide) (by decide) (by decide)))) (tri (h3 2 3 5 (by decide) (by decide) (by decide)))) (tri (h3 0 4 5 (by decide) (by decide) (by decide)))) (tri (h3 1 4 5 (by decide) (by decide) (by decide)))) (tri (h3 2 4 5 (by decide) (by decide) (by decide)))) (tri (h3 3 4 5 (by decide) (by decide) (by decide))))
  have E := alln_i 4 E (p 6) (h 6 (by decide))
  have E := orR E (orF (orF (orF (orF (orF (orF (orF (orF (orF (orF (orF (orF (orF (orF (tri (h3 0 1 6 (by decide) (by decide) (by decide))) (tri (h3 0 2 6 (by decide) (by decide) (by decide)))) (tri (h3 1 2 6 (by decide) (by decide) (by decide)))) (tri (h3 0 3 6 (by decide) (by decide) (by decide)))) (tri (h3 1 3 6 (by decide) (by decide) (by decide)))) (tri (h3 2 3 6 (by decide) (by decide) (by decide)))) (tri (h3 0 4 6 (by decide) (by decide) (by decide)))) (tri (h3 1 4 6 (by decide) (by decide) (by decide)))) (tri (h3 2 4 6 (by decide) (by decide) (by decide)))) (tri (h3 3 4 6 (by decide) (by decide) (by decide)))) (tri (h3 0 5 6 (by decide) (by decide) (by decide)))) (tri (h3 1 5 6 (by decide) (by decide) (by decide)))) (tri (h3 2 5 6 (by decide) (by decide) (by decide)))) (tri (h3 3 5 6 (by decide) (by decide) (by decide)))) (tri (h3 4 5 6 (by decide) (by decide) (by decide))))
  have E := alln_i 4 E (p 7) (h 7 (by decide))
  have E := orR E (orF (orF (orF (orF (orF (orF (orF (orF (orF (orF (orF (orF (orF (orF (orF (orF (orF (orF (orF (orF (tri (h3 0 1 7 (by decide) (by decide) (by decide))) (tri (h3 0 2 7 (by decide) (by decide) (by decide)))) (tri (h3 1 2 7 (by decide) (by decide) (by decide)))) (tri (h3 0 3 7 (by decide) (by decide) (by decide)))) (tri (h3 1 3 7 (by decide) (by decide) (by decide)))) (tri (h3 2 3 7 (by decide) (by decide) (by decide)))) (tri (h3 0 4 7 (by decide) (by decide) (by decide)))) (tri (h3 1 4 7 (by decide) (by decide) (by decide)))) (tri (h3 2 4 7 (by decide) (by decide) (by decide)))) (tri (h3 3 4 7 (by decide) (by decide) (by decide)))) (tri (h3 0 5 7 (by decide) (by decide) (by decide)))) (tri (h3 1 5 7 (by decide) (by decide) (by decide)))) (tri (h3 2 5 7 (by decide) (by decide) (by decide)))) (tri (h3 3 5 7 (by decide) (by decide) (by decide)))) (tri (h3 4 5 7 (by decide) (by decide) (by decide)))) (tri (h3 0 6 7 (by decide) (by decide) (by decide)))) (tri (h3 1 6 7 (by decide) (by decide) (by decide)))) (tri (h3 2 6 7 (by decide) (by decide) (by decide)))) (tri (h3 3 6 7 (by decide) (by decide) (by decide)))) (tri (h3 4 6 7 (by decide) (by decide) (by decide)))) (tri (h3 5 6 7 (by decide) (by decide) (by decide))))
  exact anyn_i 16 E
theorem ex4_use (p : Nat → Nat) (h : ∀ x, x < 4 → p x < 2) (h3 : ∀ x y z, x < y → y < z → z < 4 → ¬ (p x = p y ∧ p y = p z)) : ∃ b, b < 4 ∧ ok4 (p 0) (p 1) (p 2) (p 3) b = true := by
  have E := ex4_all
  have E := alln_i 2 E (p 0) (h 0 (by decide))
  have E := alln_i 2 E (p 1) (h 1 (by decide))
  have E := alln_i 2 E (p 2) (h 2 (by decide))
  have E := orR E (tri (h3 0 1 2 (by decide) (by decide) (by decide)))
  have E := alln_i 2 E (p 3) (h 3 (by decide))
  have E := orR E (orF (orF (tri (h3 0 1 3 (by decide) (by decide) (by decide))) (tri (h3 0 2 3 (by decide) (by decide) (by decide)))) (tri (h3 1 2 3 (by decide) (by decide) (by decide))))
  exact anyn_i 4 E
end T43
