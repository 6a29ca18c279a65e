section T76
theorem rvs_in {f : Int → List (Int → Int)} {c : Int → Int} : ∀ (w : Nat) (v u : Int), v ≤ u → u < v + w → c ∈ f u → c ∈ rvs f w v
  | 0, _, _, a, b, _ => by omega
  | w + 1, v, u, a, b, h => by
    simp only [rvs, List.mem_append]
    by_cases e : u = v
    · rw [e] at h; exact Or.inl h
    · exact Or.inr (rvs_in w (v + 1) u (by omega) (by omega) h)
/-- a valid row stands among the rows -/
theorem rws_in {P : Int} {T : Int → Int → Int} (hp : 1 ≤ P) {c : Int → Int} (hc : ∀ x, 0 ≤ x → x < P → 0 ≤ c x ∧ c x ≤ P ∧ (c x < P → 0 < T x (c x) ∧ ∀ y, 0 ≤ y → y < P → c y = c x → y = x)) : ∀ (g : Nat) (d : Int) (c0 : Int → Int), 0 ≤ d → d + g = P → (∀ x, 0 ≤ x → x < d → c0 x = c x) → ∃ c', c' ∈ rws P T g d c0 ∧ ∀ x, 0 ≤ x → x < P → c' x = c x
  | 0, d, c0, d0, e, h => ⟨c0, by simp only [rws, List.mem_singleton], fun x x0 x1 => h x x0 (by omega)⟩
  | g + 1, d, c0, d0, e, h => by
    have hd := hc d d0 (by omega)
    obtain ⟨c', m, q⟩ := rws_in hp hc g (d + 1) (up c0 d (c d)) (by omega) (by omega) (fun x x0 x1 => by
      unfold up
      by_cases w : x = d
      · rw [if_pos w, w]
      · rw [if_neg w]; exact h x x0 (by omega))
    refine ⟨c', ?_, q⟩
    simp only [rws]
    refine rvs_in _ _ (c d) (by omega) (by omega) ?_
    have ok : okr P T d (c d) c0 = true := by
      refine decide_eq_true ?_
      by_cases w : c d = P
      · exact Or.inl w
      · have := hd.2.2 (by omega)
        refine Or.inr ⟨this.1, us_mk (fun x x0 x1 => ?_)⟩
        rw [h x x0 (by omega)]
        exact fun z => by have := this.2 x x0 (by omega) z; omega
    show c' ∈ (if okr P T d (c d) c0 = true then rws P T g (d + 1) (up c0 d (c d)) else [])
    rw [if_pos ok]
    exact m
end T76
