section T18
variable {G : zG} {n : Nat} {μ ν : zM}
/-- the model's three-stage part is the same in both -/
def Sm (μ ν : zM) : Prop := (∀ j, ν 127 j = μ 127 j) ∧ (∀ j, ν 128 j = μ 128 j) ∧ (∀ j, ν 129 j = μ 129 j)
theorem c8_atLeft' (hn : 154 ≤ n) (hS : Sm μ ν) (h : I1 μ) {s a : Int} (hs0 : 0 ≤ s) (hs : s < μ 1 0) (ha0 : 0 ≤ a) (ha : a < 7) {K : Int → zM → Prop} (hK : K (μ (7 + s) a) ν) : mX8_atLeft G n s a ν K := by
  have hN := h.gd.nn
  obtain ⟨⟨a1, a2, a3⟩, ⟨b1, b2, b3⟩, c1, c2, c3⟩ := h.gd
  have ht := sw_top b2 hs0 hs
  have hl := h.left s a hs0 (by omega) ha0 ha
  have key : ∀ (f : Nat) (i : Int), μ 1 1 * s ≤ i → i + f = μ 1 1 * s + μ 1 1 → (∀ j, μ 1 1 * s ≤ j → j < i → ¬ (0 < μ 128 j ∧ μ 129 j = a)) → pX8_atLeft G n K 7 [some (Rv G 127), some (Iv s), some (Iv a), some (Iv i)] [] ν := by
    intro f
    induction f with
    | zero =>
      intro i e1 e2 e3
      refine bX8_atLeft_7 hn ?_
      simp only [hS.1, hS.2.1, hS.2.2]
      rw [← b1]
      simp (disch := omega) only [wr_of]
      refine ⟨fun _ => ?_, fun z => by omega⟩
      rcases hl with hl | ⟨l1, l2, l3, l4, l5⟩
      · rwa [hl] at hK
      · have := (sw_iff b2 b3).1 l4
        refine absurd ⟨?_, ?_⟩ (e3 _ this.1 (by omega))
        · have := l3.2.1; omega
        · rw [l3.2.2.1.2.2, l5]
    | succ f ih =>
      intro i e1 e2 e3
      have hr := h.r128 (i := i) (by omega) (by omega)
      refine bX8_atLeft_7 hn ?_
      simp only [hS.1, hS.2.1, hS.2.2]
      rw [← b1]
      simp (disch := omega) only [wr_of]
      refine ⟨fun z => by omega, fun _ => ⟨by omega, fun z => ?_, fun z => ⟨by omega, ?_⟩⟩⟩
      · refine ih (i + 1) (by omega) (by omega) (fun j j1 j2 => ?_)
        by_cases c : j = i
        · subst c; omega
        · exact e3 j j1 (by omega)
      · rcases h.row i (by omega) (by omega) with ⟨_, d, _⟩ | hu
        · omega
        · have h4 := hu.2.2.1
          simp (disch := omega) only [wr_of]
          refine ⟨fun z2 => ?_, fun z2 => ?_⟩
          · refine ih (i + 1) (by omega) (by omega) (fun j j1 j2 => ?_)
            by_cases c : j = i
            · subst c; exact fun q => z2 q.2
            · exact e3 j j1 (by omega)
          · have hq := hu.2.2.2.2.1
            rw [(sw_iff (i := i) (s := s) b2 b3).2 ⟨e1, by omega⟩, ← h4.2.2, z2] at hq
            rwa [hq] at hK
  refine eX8_atLeft hn (fun v e => ?_)
  rw [e, hS.1, ← b1]
  obtain ⟨f, hf⟩ := Int.eq_ofNat_of_zero_le (show 0 ≤ μ 1 1 by omega)
  exact key f _ (by omega) (by omega) (fun j j1 j2 => by omega)
theorem c8_atRight' (hn : 154 ≤ n) (hS : Sm μ ν) (h : I1 μ) {s a : Int} (hs0 : 0 ≤ s) (hs : s < μ 1 0) (ha0 : 0 ≤ a) (ha : a < 7) {K : Int → zM → Prop} (hK : K (μ (13 + s) a) ν) : mX8_atRight G n s a ν K := by
  have hN := h.gd.nn
  obtain ⟨⟨a1, a2, a3⟩, ⟨b1, b2, b3⟩, c1, c2, c3⟩ := h.gd
  have hl := h.right s a hs0 (by omega) ha0 ha
  have key : ∀ (f : Nat) (i : Int), 0 ≤ i → i + f = μ 1 0 * μ 1 1 → (∀ j, 0 ≤ j → j < i → ¬ (0 < μ 128 j ∧ (μ 128 j - 1) / μ 1 1 = s ∧ μ 129 j = a)) → pX8_atRight G n K 2 [some (Rv G 127), some (Iv s), some (Iv a), some (Iv i)] [] ν := by
    intro f
    induction f with
    | zero =>
      intro i e1 e2 e3
      refine bX8_atRight_2 hn (eX8_lines hn ?_)
      simp only [hS.1, hS.2.1, hS.2.2]
      rw [hN.2.2]
      simp (disch := omega) only [wr_of]
      refine ⟨fun _ => ?_, fun z => by omega⟩
      rcases hl with hl | ⟨l1, l2, l3, l4, l5⟩
      · rwa [hl] at hK
      · have hu := l3.2.1
        refine absurd ⟨?_, ?_, ?_⟩ (e3 _ l1 (by have := l3.1; omega))
        · omega
        · rw [hu.2.2, Int.add_sub_cancel]; exact l4
        · rw [l3.2.2.1.2.2, l5]
    | succ f ih =>
      intro i e1 e2 e3
      have hr := h.r128 (i := i) (by omega) (by omega)
      have next : ¬ (0 < μ 128 i ∧ (μ 128 i - 1) / μ 1 1 = s ∧ μ 129 i = a) → pX8_atRight G n K 2 [some (Rv G 127), some (Iv s), some (Iv a), some (Iv (i + 1))] [] ν := fun hz => by
        refine ih (i + 1) (by omega) (by omega) (fun j j1 j2 => ?_)
        by_cases c : j = i
        · subst c; exact hz
        · exact e3 j j1 (by omega)
      refine bX8_atRight_2 hn (eX8_lines hn ?_)
      simp only [hS.1, hS.2.1, hS.2.2]
      rw [hN.2.2, ← b1]
      simp (disch := omega) only [wr_of]
      refine ⟨fun z => by omega, fun _ => ⟨by omega, fun z => next (by omega), fun z => ⟨by omega, by omega, ?_⟩⟩⟩
      rcases h.row i (by omega) (by omega) with ⟨_, d, _⟩ | hu
      · omega
      · have h4 := hu.2.2.1
        have h2 := hu.2.1
        rw [zdiv_of (by omega) (by omega) (by omega) (by omega)]
        have hd := sw_lt (i := μ 128 i - 1) (e := μ 1 1) (r := μ 1 0) (by omega) (by omega) (by omega)
        simp (disch := omega) only [wr_of]
        refine ⟨fun z2 => next (fun q => z2 q.2.1), fun z2 => ⟨by omega, fun z3 => next (fun q => z3 q.2.2), fun z3 => ?_⟩⟩
        have hq := hu.2.2.2.2.2
        rw [h2.2.2, Int.add_sub_cancel] at z2
        rw [z2, ← h4.2.2, z3] at hq
        rwa [hq] at hK
  obtain ⟨f, hf⟩ := Int.eq_ofNat_of_zero_le (show 0 ≤ μ 1 0 * μ 1 1 by omega)
  exact eX8_atRight hn (key f 0 (by omega) (by omega) (fun j j1 j2 => by omega))
theorem c8_isTaken' (hn : 154 ≤ n) (hS : Sm μ ν) (h : I1 μ) {i o : Int} (hi0 : 0 ≤ i) (hi : i < μ 1 0 * μ 1 1) (ho0 : 0 ≤ o) (ho : o < μ 1 0 * μ 1 1) {K : Int → zM → Prop} (hK : K (if μ 2 i = -9 ∧ μ 3 o = -9 then 0 else 1) ν) : mX8_isTaken G n i o ν K := by
  have hN := h.gd.nn
  have key : ∀ (f : Nat) (k : Int), 0 ≤ k → k + f = μ 1 0 * μ 1 1 → (∀ j, 0 ≤ j → j < k → μ 128 j ≠ o + 1) → pX8_isTaken G n K 2 [some (Rv G 127), some (Iv i), some (Iv o), some (Iv k)] [] ν := by
    intro f
    induction f with
    | zero =>
      intro k e1 e2 e3
      have hr := h.r128 (i := i) (by omega) (by omega)
      refine bX8_isTaken_2 hn (eX8_lines hn ?_)
      simp only [hS.1, hS.2.1, hS.2.2]
      rw [hN.2.2]
      simp (disch := omega) only [wr_of]
      have e4 : μ 3 o = -9 := by
        rcases h.col o ho0 (by omega) with q | ⟨q1, q2, q3⟩
        · exact q
        · have u := h.up2 q1 q2 (by omega)
          exact absurd (by rw [u.2.1.2.2, q3]) (e3 _ q1 (by have := u.1; omega))
      refine ⟨fun _ => ⟨by omega, fun z => ?_, fun z => ?_⟩, fun z => by omega⟩
      · rcases h.row i hi0 (by omega) with d | u
        · rwa [if_pos ⟨d.1, e4⟩] at hK
        · have := u.2.1; omega
      · rcases h.row i hi0 (by omega) with d | u
        · have := d.2.1; omega
        · rwa [if_neg (fun q => by have := u.2.1; omega)] at hK
    | succ f ih =>
      intro k e1 e2 e3
      have hr := h.r128 (i := k) (by omega) (by omega)
      have hr2 := h.r128 (i := i) (by omega) (by omega)
      refine bX8_isTaken_2 hn (eX8_lines hn ?_)
      simp only [hS.1, hS.2.1, hS.2.2]
      rw [hN.2.2]
      simp (disch := omega) only [wr_of]
      refine ⟨fun z => by omega, fun _ => ⟨by omega, fun z => ?_, fun z => ?_⟩⟩
      · refine ih (k + 1) (by omega) (by omega) (fun j j1 j2 => ?_)
        by_cases c : j = k
        · subst c; exact z
        · exact e3 j j1 (by omega)
      · rcases h.row k e1 (by omega) with d | u
        · have := d.2.1; omega
        · have u2 := u.2.1
          have u3 := u.2.2.2.1
          rw [show μ 2 k = o by omega] at u3
          rwa [if_neg (fun q => by omega)] at hK
  obtain ⟨f, hf⟩ := Int.eq_ofNat_of_zero_le (show 0 ≤ μ 1 0 * μ 1 1 by omega)
  exact eX8_isTaken hn (key f 0 (by omega) (by omega) (fun j j1 j2 => by omega))
theorem c8_isLine' (hn : 154 ≤ n) (hS : Sm μ ν) (h : Gd μ) {x : Int} (hx : R32 x) {K : Int → zM → Prop} (hK : K (if 0 ≤ x ∧ x < μ 1 0 * μ 1 1 then 1 else 0) ν) : mX8_isLine G n x ν K := by
  have := h.nn
  obtain ⟨x1, x2⟩ := hx
  refine eX8_isLine hn ⟨fun z => ?_, fun z => eX8_lines hn ?_⟩
  · rw [wr_of x1 x2] at z; rwa [if_neg (by omega)] at hK
  · rw [wr_of x1 x2] at z
    rw [hS.1, hS.1, this.2.2]
    simp (disch := omega) only [wr_of]
    exact ⟨fun q => by rwa [if_neg (by omega)] at hK, fun q => by rwa [if_pos (by omega)] at hK⟩
end T18
