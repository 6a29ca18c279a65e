section T82
/-- with a tight row off, the span falls by one -/
theorem spn_less {T : Int → Int → Int} {c : Int → Int} {P : Nat} (hs : 0 < spn T P) (h0 : ∀ x : Int, 0 ≤ x → x < P → 0 ≤ c x) (j : ∀ x y : Int, 0 ≤ x → x < P → 0 ≤ y → y < P → c y < P → c x = c y → x = y) (tg : Tg P T (spn T P) c) : spn (lessR T c) P = spn T P - 1 := by
  have line : ∀ x : Int, 0 ≤ x → x < P → rs (lessR T c) P x ≤ spn T P - 1 ∧ cs (lessR T c) P x ≤ spn T P - 1 := fun x x0 x1 => by
    have l := spn_le (T := T) x0 x1
    rw [rs_less (h0 x x0 x1), cs_less x1 j]
    constructor
    · by_cases q : c x < P
      · rw [if_pos q]; omega
      · have := tg.1 x x0 x1 q
        rw [if_neg q]; omega
    · cases hu : us c x P with
      | true => rw [if_pos rfl]; omega
      | false => have := tg.2 x x0 x1 hu; rw [if_neg (by decide)]; omega
  have up := (mx_b (f := fun k => max (rs (lessR T c) P k) (cs (lessR T c) P k)) (c := spn T P - 1) (by omega) P (fun x a b => by have := line x a b; show max _ _ ≤ _; omega)).2
  have up2 : spn (lessR T c) P ≤ spn T P - 1 := up
  rcases mx_at (f := fun k => max (rs T P k) (cs T P k)) P with w | ⟨x, x0, x1, e⟩
  · have : spn T P = 0 := w
    omega
  · have e2 : max (rs T P x) (cs T P x) = spn T P := e
    have l := spn_le (T := lessR T c) x0 x1
    rw [rs_less (h0 x x0 x1), cs_less x1 j] at l
    have a1 : (if c x < P then (1 : Int) else 0) ≤ 1 := by split <;> decide
    have a2 : (if us c x P = true then (1 : Int) else 0) ≤ 1 := by split <;> decide
    generalize (if c x < P then (1 : Int) else 0) = z1 at *
    generalize (if us c x P = true then (1 : Int) else 0) = z2 at *
    omega
end T82
