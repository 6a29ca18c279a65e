section T80
/-- in a row of the search the outlets differ -/
theorem rws_j {P : Int} {T : Int → Int → Int} (hp : 1 ≤ P) : ∀ (g : Nat) (d : Int) (c0 c : Int → Int), 0 ≤ d → d + g = P → (∀ x y, 0 ≤ x → x < y → y < d → c0 y < P → c0 x ≠ c0 y) → c ∈ rws P T g d c0 → ∀ x y, 0 ≤ x → x < y → y < P → c y < P → c x ≠ c y
  | 0, d, c0, c, d0, e, h, hm => by
    simp only [rws, List.mem_singleton] at hm
    subst hm
    exact fun x y a b w => h x y a b (by omega)
  | g + 1, d, c0, c, d0, e, h, hm => by
    simp only [rws] at hm
    obtain ⟨u, a, b, hm⟩ := rvs_m _ _ hm
    by_cases ok : okr P T d u c0 = true
    · simp only [if_pos ok] at hm
      refine rws_j hp g (d + 1) (up c0 d u) c (by omega) (by omega) (fun x y x0 xy yd hy => ?_) hm
      unfold up at hy ⊢
      by_cases ey : y = d
      · rw [if_pos ey] at hy
        rw [if_neg (by omega), if_pos ey]
        rcases of_decide_eq_true ok with w | w
        · omega
        · exact us_f w.2 x x0 (by omega)
      · rw [if_neg ey] at hy
        rw [if_neg (by omega), if_neg ey]
        exact h x y x0 xy (by omega) hy
    · simp only [if_neg ok] at hm
      simp at hm
theorem Rw_j {P : Int} {T : Int → Int → Int} (hp : 1 ≤ P) {c : Int → Int} (h : c ∈ Rw P T) : ∀ x y, 0 ≤ x → x < P → 0 ≤ y → y < P → c y < P → c x = c y → x = y := by
  intro x y x0 x1 y0 y1 hy e
  have j := rws_j hp P.toNat 0 (fun _ => 0) c (by decide) (by omega) (fun x y a b w => by omega) h
  by_cases w : x < y
  · exact absurd e (j x y x0 w y1 hy)
  · by_cases w2 : y < x
    · exact absurd e.symm (j y x y0 w2 x1 (by omega))
    · omega
end T80
