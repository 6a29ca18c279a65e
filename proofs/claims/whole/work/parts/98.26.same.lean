section T83
theorem rvs_cg {f f' : Int → List (Int → Int)} : ∀ (w : Nat) (v : Int), (∀ u, v ≤ u → u < v + w → f u = f' u) → rvs f w v = rvs f' w v
  | 0, _, _ => rfl
  | w + 1, v, h => by simp only [rvs]; rw [h v (by omega) (by omega), rvs_cg w (v + 1) (fun u a b => h u (by omega) (by omega))]
/-- the rows hang on the support alone -/
theorem rws_cg {P : Int} {T T' : Int → Int → Int} (hp : 1 ≤ P) (h : ∀ i o, 0 ≤ i → i < P → 0 ≤ o → o < P → (0 < T i o ↔ 0 < T' i o)) : ∀ (g : Nat) (d : Int) (c : Int → Int), 0 ≤ d → d + g = P → rws P T g d c = rws P T' g d c
  | 0, _, _, _, _ => rfl
  | g + 1, d, c, d0, e => by
    simp only [rws]
    refine rvs_cg _ _ (fun u a b => ?_)
    have o : okr P T d u c = okr P T' d u c := by
      unfold okr
      by_cases q : u = P
      · rw [decide_eq_true (Or.inl q), decide_eq_true (Or.inl q)]
      · have := h d u d0 (by omega) a (by omega)
        by_cases w : 0 < T d u
        · have w2 := this.mp w
          simp only [w, w2]
        · have w2 : ¬ 0 < T' d u := fun z => w (this.mpr z)
          simp only [w, w2]
    rw [o, rws_cg hp h g (d + 1) (up c d u) (by omega) (by omega)]
end T83
