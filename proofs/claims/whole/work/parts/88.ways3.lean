section T48
variable {G : zG} {n : Nat} {μ ν : zM}
noncomputable def Wk (k : Int) (f : Int → Int) : Int := if k = 1 then 1 else if k = 2 then W2 f 4 else W3 f 16
noncomputable def Lk (k : Int) (f : Int → Int) : Int := if k = 1 then f 0 else if k = 2 then L2 f 4 else L3 f 16
theorem Wk1 (f : Int → Int) : Wk 1 f = 1 := by unfold Wk; rw [if_pos rfl]
theorem Wk2 (f : Int → Int) : Wk 2 f = W2 f 4 := by unfold Wk; rw [if_neg (by decide), if_pos rfl]
theorem Wk3 (f : Int → Int) : Wk 3 f = W3 f 16 := by unfold Wk; rw [if_neg (by decide), if_neg (by decide)]
theorem Lk1 (f : Int → Int) : Lk 1 f = f 0 := by unfold Lk; rw [if_pos rfl]
theorem Lk2 (f : Int → Int) : Lk 2 f = L2 f 4 := by unfold Lk; rw [if_neg (by decide), if_pos rfl]
theorem Lk3 (f : Int → Int) : Lk 3 f = L3 f 16 := by unfold Lk; rw [if_neg (by decide), if_neg (by decide)]
theorem I2.ij (h : I2 μ) : Ij (wd μ) (μ 20) := ⟨fun x a b => (h.2.1 x a b).2, h.2.2⟩
theorem I2.eq2 (h : I2 μ) (e1 : ν 19 0 = μ 19 0) (e2 : ν 127 12 = μ 127 12) (e3 : ∀ x, ν 20 x = μ 20 x) (e4 : ∀ x, ν 133 x = μ 133 x) : I2 ν := by
  have e5 : wd ν = wd μ := by unfold wd; rw [e1]
  unfold I2 at h ⊢
  rw [e1, e2, e5]
  simp only [e3, e4]
  exact h
theorem c1_copied (h : I2 μ) {k w : Int} (hk : μ 19 0 = k) (hw : wd μ = w) {μ7 : zM} (e : μ7 = zcp μ 20 0 (21 + 1 + k) 0 w) : (∀ a j, a ≠ 22 + k → μ7 a j = μ a j) ∧ (∀ x, 0 ≤ x → x < w → μ7 (22 + k) (0 + x) = μ 20 x ∧ 0 ≤ μ 20 x ∧ μ 20 x < w) := by
  refine ⟨fun a j q => ?_, fun x x0 x1 => ⟨?_, ?_⟩⟩
  · rw [e]; unfold zcp; rw [if_neg (by omega)]
  · rw [e]; unfold zcp
    rw [if_pos ⟨by omega, by omega, by omega⟩]
    congr 1; omega
  · rw [← hw] at x1 ⊢
    exact (h.e x0 x1).2
theorem c1_count (hn : 154 ≤ n) (h : I2 μ) {K : Int → zM → Prop} (hK : ∀ ν : zM, (∀ a j, ¬ (22 ≤ a ∧ a ≤ 25) → ν a j = μ a j) → K (Wk (μ 19 0) (μ 20)) ν) : mX1_countSettings G n μ K := by
  have hh := h.1
  obtain ⟨w1, w2, w3⟩ := h.w
  refine eX1_countSettings (by omega) ?_
  simp (disch := omega) only [wr_of]
  refine ⟨by omega, c1_width (by omega) ?_⟩
  simp (disch := omega) only [wr_of]
  refine ⟨by omega, by omega, by omega, fun μ7 e7 => ?_⟩
  have k7 : μ7 19 0 = μ 19 0 := by rw [e7]; unfold zcp; rw [if_neg (by omega)]
  rw [k7]
  rcases h.k with ⟨k, w⟩ | ⟨k, w⟩ | ⟨k, w⟩
  · obtain ⟨c1, c2⟩ := c1_copied (μ7 := μ7) h k w (by rw [e7, k, w])
    rw [k] at hK ⊢
    rw [Wk1] at hK
    refine c1_set1 (d := 9) hn (hK μ7 (fun a j q => c1 a j (by omega)))
  · obtain ⟨c1, c2⟩ := c1_copied (μ7 := μ7) h k w (by rw [e7, k, w])
    rw [k] at hK ⊢
    rw [Wk2] at hK
    refine c1_set2 (d := 8) (f := μ 20) hn (Or.inl rfl) c2 (fun ν f => hK ν (fun a j q => by rw [f a j (by omega), c1 a j (by omega)]))
  · obtain ⟨c1, c2⟩ := c1_copied (μ7 := μ7) h k w (by rw [e7, k, w])
    rw [k] at hK ⊢
    rw [Wk3] at hK
    refine c1_set3 (d := 7) (f := μ 20) hn c2 (fun ν f => hK ν (fun a j q => by rw [f a j (by omega) (by omega), c1 a j (by omega)]))
theorem c1_least (hn : 154 ≤ n) (h : I2 μ) {K : Int → zM → Prop} (hK : ∀ ν : zM, (∀ a j, ¬ (22 ≤ a ∧ a ≤ 25) → ν a j = μ a j) → K (Lk (μ 19 0) (μ 20)) ν) : mX1_leastSettings G n μ K := by
  have hh := h.1
  obtain ⟨w1, w2, w3⟩ := h.w
  refine eX1_leastSettings (by omega) ?_
  simp (disch := omega) only [wr_of]
  refine ⟨by omega, c1_width (by omega) ?_⟩
  simp (disch := omega) only [wr_of]
  refine ⟨by omega, by omega, by omega, fun μ7 e7 => ?_⟩
  have k7 : μ7 19 0 = μ 19 0 := by rw [e7]; unfold zcp; rw [if_neg (by omega)]
  rw [k7]
  have ij := h.ij
  rcases h.k with ⟨k, w⟩ | ⟨k, w⟩ | ⟨k, w⟩
  · obtain ⟨c1, c2⟩ := c1_copied (μ7 := μ7) h k w (by rw [e7, k, w])
    rw [k] at hK ⊢
    rw [Lk1] at hK
    have c0 := c2 0 (by decide) (by decide)
    refine c1_lst1 (d := 9) (v := μ 20 0) hn (by decide) (by decide) c0.1 (by omega) (hK μ7 (fun a j q => c1 a j (by omega)))
  · obtain ⟨c1, c2⟩ := c1_copied (μ7 := μ7) h k w (by rw [e7, k, w])
    rw [k] at hK ⊢
    rw [Lk2] at hK
    rw [w] at ij
    refine c1_lst2 (d := 8) (f := μ 20) hn (Or.inl rfl) c2 ij (fun ν f => hK ν (fun a j q => by rw [f a j (by omega), c1 a j (by omega)]))
  · obtain ⟨c1, c2⟩ := c1_copied (μ7 := μ7) h k w (by rw [e7, k, w])
    rw [k] at hK ⊢
    rw [Lk3] at hK
    rw [w] at ij
    refine c1_lst3 (d := 7) (f := μ 20) hn c2 ij (fun ν f => hK ν (fun a j q => by rw [f a j (by omega) (by omega), c1 a j (by omega)]))
theorem c8_find (hn : 154 ≤ n) (h : I2 μ) (hS : ν 127 12 = μ 127 12 ∧ ∀ x, ν 133 x = μ 133 x) {K : zM → Prop} (hK : ∀ ν' : zM, ν' 127 18 = Wk (μ 19 0) (μ 20) → ν' 127 19 = Lk (μ 19 0) (μ 20) → (∀ a j, a ≠ 135 → a ≠ 136 → ¬ (a = 127 ∧ 17 ≤ j ∧ j ≤ 19) → ν' a j = ν a j) → K ν') : mX8_find G n ν K := by
  have hh := h.1
  have e : ∀ x, 0 ≤ x → x < wd μ → ν 133 (0 + x) = μ 20 x ∧ 0 ≤ μ 20 x ∧ μ 20 x < wd μ := fun x a b => by
    have := h.e a b
    rw [Int.zero_add, hS.2, this.1]
    exact ⟨rfl, by omega, by omega⟩
  refine eX8_find hn ?_
  rw [hS.1, ← hh.1]
  simp (disch := omega) only [wr_of]
  rcases h.k with ⟨k, w⟩ | ⟨k, w⟩ | ⟨k, w⟩ <;> rw [k] at hK ⊢ <;> rw [w] at e
  · rw [Wk1, Lk1] at hK
    refine ⟨fun z => absurd rfl z, fun _ μ7 e7 => ?_⟩
    have c0 := e 0 (by decide) (by decide)
    refine c8_firstOfTwo (v := μ 20 0) hn (Or.inl rfl) (by decide) (by decide) (by rw [e7, zu_na (by decide)]; exact c0.1) (by omega) (fun μ10 e10 => hK μ10 ?_ ?_ (fun a j q1 q2 q3 => ?_))
    · rw [e10, zu_ne (by decide), e7, zu_same]
    · rw [e10, zu_same]
    · rw [e10, zu_ne (by omega), e7, zu_ne (by omega)]
  · rw [Wk2, Lk2] at hK
    refine ⟨fun _ => ⟨fun z => absurd rfl z, fun _ => c8_findFour hn (Or.inl ⟨rfl, rfl⟩) e (fun ν' a b c => hK ν' a b (fun x j q1 q2 q3 => c x j q2 q3))⟩, fun z => absurd z (by decide)⟩
  · rw [Wk3, Lk3] at hK
    refine ⟨fun _ => ⟨fun _ => c8_findEight hn e (fun ν' a b c => hK ν' a b c), fun z => absurd z (by decide)⟩, fun z => absurd z (by decide)⟩
theorem z2_22 {a j : Int} (h : 19 ≤ a ∧ a ≤ 29 ∨ 133 ≤ a ∧ a ≤ 136) : zone a j = 2 := by
  unfold zone
  rcases h with h | h
  · rw [if_neg (by omega), if_neg (by omega), if_pos (by omega)]
  · rw [if_neg (by omega), if_neg (by omega), if_neg (by omega), if_neg (by omega), if_neg (by omega), if_neg (by omega), if_neg (by omega), if_neg (by omega), if_pos (by omega)]
theorem z2_127 {j : Int} (h : 12 ≤ j ∧ j ≤ 19) : zone 127 j = 2 := by
  unfold zone
  rw [if_neg (by decide), if_neg (by decide), if_neg (by decide), if_neg (by decide), if_neg (by decide), if_neg (by decide), if_pos rfl, if_neg (by omega), if_neg (by omega), if_neg (by omega), if_pos (by omega)]
theorem ways_fin (h : I2 μ) {ν1 ν2 : zM} (h1 : ∀ a j, ¬ (22 ≤ a ∧ a ≤ 25) → ν1 a j = μ a j) (h2 : ∀ a j, a ≠ 135 → a ≠ 136 → ¬ (a = 127 ∧ 17 ≤ j ∧ j ≤ 19) → ν2 a j = ν1 a j) : I2 ν2 ∧ Fz 2 μ ν2 := by
  have all : ∀ a j, ¬ (22 ≤ a ∧ a ≤ 25) → a ≠ 135 → a ≠ 136 → ¬ (a = 127 ∧ 17 ≤ j ∧ j ≤ 19) → ν2 a j = μ a j := fun a j q1 q2 q3 q4 => by rw [h2 a j q2 q3 q4, h1 a j q1]
  refine ⟨h.eq2 (all _ _ (by omega) (by omega) (by omega) (by omega)) (all _ _ (by omega) (by omega) (by omega) (by omega)) (fun x => all _ _ (by omega) (by omega) (by omega) (by omega)) (fun x => all _ _ (by omega) (by omega) (by omega) (by omega)), fun a j hz => all a j (fun q => hz (z2_22 (by omega))) (fun q => hz (z2_22 (by omega))) (fun q => hz (z2_22 (by omega))) (fun q => hz (by rw [q.1]; exact z2_127 (by omega)))⟩
theorem t_ways (hn : 154 ≤ n) (h : I2 μ) : mX7_ways G n μ (fun a μ1 => mX8_ways G n μ1 (fun b μ2 => a = b ∧ I2 μ2 ∧ Fz 2 μ μ2)) := by
  refine eX7_ways hn (c1_count hn h (fun ν1 h1 => eX8_ways hn (c8_find hn h ⟨h1 _ _ (by omega), fun x => h1 _ _ (by omega)⟩ (fun ν2 a b h2 => ⟨a.symm, ways_fin h h1 h2⟩))))
theorem t_first (hn : 154 ≤ n) (h : I2 μ) : mX7_first G n μ (fun a μ1 => mX8_first G n μ1 (fun b μ2 => a = b ∧ I2 μ2 ∧ Fz 2 μ μ2)) := by
  refine eX7_first hn (c1_least hn h (fun ν1 h1 => eX8_first hn (c8_find hn h ⟨h1 _ _ (by omega), fun x => h1 _ _ (by omega)⟩ (fun ν2 a b h2 => ⟨b.symm, ways_fin h h1 h2⟩))))
end T48
