section T81
theorem rs_less {T : Int → Int → Int} {c : Int → Int} {P : Nat} {x : Int} (h0 : 0 ≤ c x) : rs (lessR T c) P x = rs T P x - (if c x < P then 1 else 0) := by
  unfold rs
  rw [sm_Sg, sm_Sg]
  have b := Sg_bump (f := lessR T c x) (y := c x) P h0
  have e : Sg (fun o => if o = c x then lessR T c x o + 1 else lessR T c x o) P = Sg (T x) P := Sg_c _ (fun o _ _ => by
    unfold lessR
    by_cases q : o = c x
    · rw [if_pos q, if_pos q.symm]; omega
    · rw [if_neg q, if_neg (fun w => q w.symm)])
  rw [e] at b
  omega
theorem cs_less {T : Int → Int → Int} {c : Int → Int} {P : Nat} {o : Int} (o1 : o < P) (j : ∀ x y : Int, 0 ≤ x → x < P → 0 ≤ y → y < P → c y < P → c x = c y → x = y) : cs (lessR T c) P o = cs T P o - (if us c o P = true then 1 else 0) := by
  unfold cs
  rw [sm_Sg, sm_Sg]
  cases hu : us c o P with
  | false =>
    rw [if_neg (by decide), Int.sub_zero]
    exact Sg_c _ (fun x x0 x1 => if_neg (us_f hu x x0 x1))
  | true =>
    rw [if_pos rfl]
    have ex : ∃ y : Int, 0 ≤ y ∧ y < P ∧ c y = o := Classical.byContradiction (fun w => by
      have : us c o P = false := us_mk (fun y y0 y1 e => w ⟨y, y0, y1, e⟩)
      rw [hu] at this; exact absurd this (by decide))
    obtain ⟨y, y0, y1, hy⟩ := ex
    have b := Sg_bump (f := fun x => lessR T c x o) (y := y) P y0
    rw [if_pos y1] at b
    have e : Sg (fun x => if x = y then lessR T c x o + 1 else lessR T c x o) P = Sg (fun x => T x o) P := Sg_c _ (fun x x0 x1 => by
      unfold lessR
      by_cases q : x = y
      · rw [if_pos q, q, if_pos hy]; omega
      · rw [if_neg q, if_neg (fun w => q (j x y x0 x1 y0 y1 (by omega) (by rw [w, hy])))])
    have b2 : Sg (fun x => if x = y then lessR T c x o + 1 else lessR T c x o) P = Sg (fun x => lessR T c x o) P + 1 := b
    omega
theorem mx_at {f : Int → Int} : ∀ k : Nat, mx f k = 0 ∨ ∃ j : Int, 0 ≤ j ∧ j < k ∧ f j = mx f k
  | 0 => Or.inl rfl
  | k + 1 => by
    simp only [mx]
    rcases Int.le_total (mx f k) (f k) with w | w
    · rw [Int.max_eq_right w]
      exact Or.inr ⟨k, by omega, by omega, rfl⟩
    · rw [Int.max_eq_left w]
      rcases mx_at (f := f) k with q | ⟨j, a, b, e⟩
      · exact Or.inl q
      · exact Or.inr ⟨j, a, by omega, e⟩
end T81
