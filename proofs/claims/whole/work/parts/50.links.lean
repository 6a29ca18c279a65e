section T10
variable {G : zG} {n : Nat} {μ : zM}
theorem sw_iff {i e s : Int} (h1 : 1 ≤ e) (h2 : e ≤ 4) : i / e = s ↔ e * s ≤ i ∧ i < e * s + e := by
  have : e = 1 ∨ e = 2 ∨ e = 3 ∨ e = 4 := by omega
  rcases this with rfl | rfl | rfl | rfl <;> omega
theorem sw_top {s r e : Int} (h1 : 1 ≤ e) (h0 : 0 ≤ s) (h : s < r) : 0 ≤ e * s ∧ e * s + e ≤ r * e := by
  have := Int.mul_le_mul_of_nonneg_right (show s + 1 ≤ r by omega) (show 0 ≤ e by omega)
  rw [Int.add_mul, Int.one_mul, Int.mul_comm s e] at this
  exact ⟨Int.mul_nonneg (by omega) h0, this⟩
theorem c6_switchOf (hn : 154 ≤ n) (h : Gd μ) {x : Int} (h0 : 0 ≤ x) (h1 : x < 1000) {K : Int → zM → Prop} (hK : K (x / μ 1 1) μ) : mX6_switchOf G n x μ K := by
  obtain ⟨_, ⟨b1, b2, b3⟩, _⟩ := h
  refine eX6_switchOf (by omega) ?_
  simp (disch := omega) only [wr_of]
  exact ⟨fun z => by omega, fun _ => ⟨by omega, by rw [zdiv_of h0 (by omega) (by omega) (by omega)]; exact hK⟩⟩
/-- the model's search for the call on a link finds what the class' table says -/
theorem c8_atLeft (hn : 154 ≤ n) (h : I1 μ) {s a : Int} (hs0 : 0 ≤ s) (hs : s < μ 1 0) (ha0 : 0 ≤ a) (ha : a < 7) {K : Int → zM → Prop} (hK : K (μ (7 + s) a) μ) : mX8_atLeft G n s a μ K := by
  have hN := h.gd.nn
  obtain ⟨⟨a1, a2, a3⟩, ⟨b1, b2, b3⟩, c1, c2, c3⟩ := h.gd
  have ht := sw_top b2 hs0 hs
  have hl := h.left s a hs0 (by omega) ha0 ha
  have key : ∀ (f : Nat) (i : Int), μ 1 1 * s ≤ i → i + f = μ 1 1 * s + μ 1 1 → (∀ j, μ 1 1 * s ≤ j → j < i → ¬ (0 < μ 128 j ∧ μ 129 j = a)) → pX8_atLeft G n K 7 [some (Rv G 127), some (Iv s), some (Iv a), some (Iv i)] [] μ := by
    intro f
    induction f with
    | zero =>
      intro i e1 e2 e3
      refine bX8_atLeft_7 hn ?_
      rw [← b1]
      simp (disch := omega) only [wr_of]
      refine ⟨fun _ => ?_, fun z => by omega⟩
      rcases hl with hl | ⟨l1, l2, l3, l4, l5⟩
      · rwa [hl] at hK
      · have := (sw_iff b2 b3).1 l4
        refine absurd ⟨?_, ?_⟩ (e3 _ this.1 (by omega))
        · have := l3.2.1; omega
        · rw [l3.2.2.1.2.2, l5]
    | succ f ih =>
      intro i e1 e2 e3
      have hr := h.r128 (i := i) (by omega) (by omega)
      refine bX8_atLeft_7 hn ?_
      rw [← b1]
      simp (disch := omega) only [wr_of]
      refine ⟨fun z => by omega, fun _ => ⟨by omega, fun z => ?_, fun z => ⟨by omega, ?_⟩⟩⟩
      · refine ih (i + 1) (by omega) (by omega) (fun j j1 j2 => ?_)
        by_cases c : j = i
        · subst c; omega
        · exact e3 j j1 (by omega)
      · rcases h.row i (by omega) (by omega) with ⟨_, d, _⟩ | hu
        · omega
        · have h4 := hu.2.2.1
          simp (disch := omega) only [wr_of]
          refine ⟨fun z2 => ?_, fun z2 => ?_⟩
          · refine ih (i + 1) (by omega) (by omega) (fun j j1 j2 => ?_)
            by_cases c : j = i
            · subst c; exact fun q => z2 q.2
            · exact e3 j j1 (by omega)
          · have hq := hu.2.2.2.2.1
            rw [(sw_iff (i := i) (s := s) b2 b3).2 ⟨e1, by omega⟩, ← h4.2.2, z2] at hq
            rwa [hq] at hK
  refine eX8_atLeft hn (fun v e => ?_)
  rw [e, ← b1]
  obtain ⟨f, hf⟩ := Int.eq_ofNat_of_zero_le (show 0 ≤ μ 1 1 by omega)
  exact key f _ (by omega) (by omega) (fun j j1 j2 => by omega)
theorem c8_atRight (hn : 154 ≤ n) (h : I1 μ) {s a : Int} (hs0 : 0 ≤ s) (hs : s < μ 1 0) (ha0 : 0 ≤ a) (ha : a < 7) {K : Int → zM → Prop} (hK : K (μ (13 + s) a) μ) : mX8_atRight G n s a μ K := by
  have hN := h.gd.nn
  obtain ⟨⟨a1, a2, a3⟩, ⟨b1, b2, b3⟩, c1, c2, c3⟩ := h.gd
  have hl := h.right s a hs0 (by omega) ha0 ha
  have key : ∀ (f : Nat) (i : Int), 0 ≤ i → i + f = μ 1 0 * μ 1 1 → (∀ j, 0 ≤ j → j < i → ¬ (0 < μ 128 j ∧ (μ 128 j - 1) / μ 1 1 = s ∧ μ 129 j = a)) → pX8_atRight G n K 2 [some (Rv G 127), some (Iv s), some (Iv a), some (Iv i)] [] μ := by
    intro f
    induction f with
    | zero =>
      intro i e1 e2 e3
      refine bX8_atRight_2 hn (eX8_lines hn ?_)
      rw [hN.2.2]
      simp (disch := omega) only [wr_of]
      refine ⟨fun _ => ?_, fun z => by omega⟩
      rcases hl with hl | ⟨l1, l2, l3, l4, l5⟩
      · rwa [hl] at hK
      · have hu := l3.2.1
        refine absurd ⟨?_, ?_, ?_⟩ (e3 _ l1 (by have := l3.1; omega))
        · omega
        · rw [hu.2.2, Int.add_sub_cancel]; exact l4
        · rw [l3.2.2.1.2.2, l5]
    | succ f ih =>
      intro i e1 e2 e3
      have hr := h.r128 (i := i) (by omega) (by omega)
      have next : ¬ (0 < μ 128 i ∧ (μ 128 i - 1) / μ 1 1 = s ∧ μ 129 i = a) → pX8_atRight G n K 2 [some (Rv G 127), some (Iv s), some (Iv a), some (Iv (i + 1))] [] μ := fun hz => by
        refine ih (i + 1) (by omega) (by omega) (fun j j1 j2 => ?_)
        by_cases c : j = i
        · subst c; exact hz
        · exact e3 j j1 (by omega)
      refine bX8_atRight_2 hn (eX8_lines hn ?_)
      rw [hN.2.2, ← b1]
      simp (disch := omega) only [wr_of]
      refine ⟨fun z => by omega, fun _ => ⟨by omega, fun z => next (by omega), fun z => ⟨by omega, by omega, ?_⟩⟩⟩
      rcases h.row i (by omega) (by omega) with ⟨_, d, _⟩ | hu
      · omega
      · have h4 := hu.2.2.1
        have h2 := hu.2.1
        rw [zdiv_of (by omega) (by omega) (by omega) (by omega)]
        have hd := sw_lt (i := μ 128 i - 1) (e := μ 1 1) (r := μ 1 0) (by omega) (by omega) (by omega)
        simp (disch := omega) only [wr_of]
        refine ⟨fun z2 => next (fun q => z2 q.2.1), fun z2 => ⟨by omega, fun z3 => next (fun q => z3 q.2.2), fun z3 => ?_⟩⟩
        have hq := hu.2.2.2.2.2
        rw [h2.2.2, Int.add_sub_cancel] at z2
        rw [z2, ← h4.2.2, z3] at hq
        rwa [hq] at hK
  obtain ⟨f, hf⟩ := Int.eq_ofNat_of_zero_le (show 0 ≤ μ 1 0 * μ 1 1 by omega)
  exact eX8_atRight hn (key f 0 (by omega) (by omega) (fun j j1 j2 => by omega))
end T10
