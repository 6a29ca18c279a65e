section T15
variable {G : zG} {n : Nat} {μ : zM}
theorem I1.up2 (h : I1 μ) {i : Int} (h0 : 0 ≤ i) (h1 : i < 20) (q : μ 2 i ≠ -9) : Up μ i := by
  rcases h.row i h0 h1 with d | u
  · exact absurd d.1 q
  · exact u
theorem c8_isTaken (hn : 154 ≤ n) (h : I1 μ) {i o : Int} (hi0 : 0 ≤ i) (hi : i < μ 1 0 * μ 1 1) (ho0 : 0 ≤ o) (ho : o < μ 1 0 * μ 1 1) {K : Int → zM → Prop} (hK : K (if μ 2 i = -9 ∧ μ 3 o = -9 then 0 else 1) μ) : mX8_isTaken G n i o μ K := by
  have hN := h.gd.nn
  have key : ∀ (f : Nat) (k : Int), 0 ≤ k → k + f = μ 1 0 * μ 1 1 → (∀ j, 0 ≤ j → j < k → μ 128 j ≠ o + 1) → pX8_isTaken G n K 2 [some (Rv G 127), some (Iv i), some (Iv o), some (Iv k)] [] μ := by
    intro f
    induction f with
    | zero =>
      intro k e1 e2 e3
      have hr := h.r128 (i := i) (by omega) (by omega)
      refine bX8_isTaken_2 hn (eX8_lines hn ?_)
      rw [hN.2.2]
      simp (disch := omega) only [wr_of]
      have e4 : μ 3 o = -9 := by
        rcases h.col o ho0 (by omega) with q | ⟨q1, q2, q3⟩
        · exact q
        · have u := h.up2 q1 q2 (by omega)
          exact absurd (by rw [u.2.1.2.2, q3]) (e3 _ q1 (by have := u.1; omega))
      refine ⟨fun _ => ⟨by omega, fun z => ?_, fun z => ?_⟩, fun z => by omega⟩
      · rcases h.row i hi0 (by omega) with d | u
        · rwa [if_pos ⟨d.1, e4⟩] at hK
        · have := u.2.1; omega
      · rcases h.row i hi0 (by omega) with d | u
        · have := d.2.1; omega
        · rwa [if_neg (fun q => by have := u.2.1; omega)] at hK
    | succ f ih =>
      intro k e1 e2 e3
      have hr := h.r128 (i := k) (by omega) (by omega)
      have hr2 := h.r128 (i := i) (by omega) (by omega)
      refine bX8_isTaken_2 hn (eX8_lines hn ?_)
      rw [hN.2.2]
      simp (disch := omega) only [wr_of]
      refine ⟨fun z => by omega, fun _ => ⟨by omega, fun z => ?_, fun z => ?_⟩⟩
      · refine ih (k + 1) (by omega) (by omega) (fun j j1 j2 => ?_)
        by_cases c : j = k
        · subst c; exact z
        · exact e3 j j1 (by omega)
      · rcases h.row k e1 (by omega) with d | u
        · have := d.2.1; omega
        · have u2 := u.2.1
          have u3 := u.2.2.2.1
          rw [show μ 2 k = o by omega] at u3
          rwa [if_neg (fun q => by omega)] at hK
  obtain ⟨f, hf⟩ := Int.eq_ofNat_of_zero_le (show 0 ≤ μ 1 0 * μ 1 1 by omega)
  exact eX8_isTaken hn (key f 0 (by omega) (by omega) (fun j j1 j2 => by omega))
end T15
