section T4
variable {G : zG} {n : Nat} {μ : zM}
theorem c0_leave2 (hn : 154 ≤ n) {t b : Int} {K : zM → Prop} (h : K (zu μ 30 3 (31 * t + b))) : mX0_leaveTrace G n b (zu μ 30 3 t) K := by
  refine c0_leave hn ?_
  rw [zu_same, zu_zu]; exact h
theorem c8_begins2 (hn : 154 ≤ n) {t b : Int} {K : zM → Prop} (h : K (zu μ 127 1 (31 * t + b))) : mX8_begins G n b (zu μ 127 1 t) K := by
  refine c8_begins hn ?_
  rw [zu_same, zu_zu]; exact h
theorem zu_self {a i : Int} : zu μ a i (μ a i) = μ := by
  funext x y; unfold zu
  split
  · rename_i q; rw [q.1, q.2]
  · rfl
theorem c0_plain (hn : 154 ≤ n) {c t : Int} {K : Int → zM → Prop} (hc : 0 ≤ c ∧ c < 30) (h : K (μ 31 c) (zu μ 30 3 (31 * t + 1))) : mX0_toldPlain G n c (zu μ 30 3 t) K := by
  refine eX0_toldPlain (by omega) (c0_leave2 hn ?_)
  rw [wr_of (by omega) (by omega)]
  refine ⟨hc, ?_⟩
  have : zu μ 30 3 (31 * t + 1) 31 c = μ 31 c := by simp [zu]
  rw [this]; exact h
theorem c0_long (hn : 154 ≤ n) {c t : Int} {K : Int → zM → Prop} (hc : 0 ≤ c ∧ c < 30) (h : K (μ 31 c + μ 32 c) (zu μ 30 3 (31 * (31 * t + 2) + 1))) : mX0_toldLong G n c (zu μ 30 3 t) K := by
  refine eX0_toldLong (by omega) (c0_leave2 hn (c0_plain hn hc ?_))
  rw [wr_of (by omega) (by omega)]
  refine ⟨hc, ?_⟩
  have : zu μ 30 3 (31 * (31 * t + 2) + 1) 32 c = μ 32 c := by simp [zu]
  rw [this]; exact h
theorem c0_turned (hn : 154 ≤ n) {c t : Int} {K : Int → zM → Prop} (hc : 0 ≤ c ∧ c < 30) (h : K (μ 31 c + μ 32 c + μ 31 c) (zu μ 30 3 (31 * (31 * (31 * (31 * t + 3) + 2) + 1) + 1))) : mX0_toldTurned G n c (zu μ 30 3 t) K :=
  eX0_toldTurned (by omega) (c0_leave2 hn (c0_long hn hc (c0_plain hn hc h)))
theorem t_tell (hn : 154 ≤ n) (h : B3 μ) {c : Int} (hc : R32 c) : mX7_tell G n c μ (fun a μ1 => mX8_tell G n c μ1 (fun b μ2 => a = b ∧ (μ2 = μ ∨ Tr μ μ2))) := by
  obtain ⟨⟨w1, w2, w3⟩, ⟨m1, m2, m3⟩, tr, hC⟩ := id h
  refine eX7_tell hn (c_within hn ?_)
  simp (disch := omega) only [wr_of, ite_b0, Classical.not_not]
  refine ⟨fun q => eX8_tell hn (c8_isComparer hn hc (by omega) ?_), fun q => ?_⟩
  · simp (disch := omega) only [wr_of, ite_b0, Classical.not_not]
    exact ⟨fun q2 => absurd (by omega) q, fun _ => ⟨trivial, Or.inl trivial⟩⟩
  · obtain ⟨e1, e2, r1, r2, r3, r4, r5⟩ := hC c q.1 (by omega)
    have hc30 : 0 ≤ c ∧ c < 30 := by omega
    refine eX0_told (by omega) (c0_kindOf hn hc30 (by omega) (by omega) ?_)
    have hk := knd_r (μ 31 c) (μ 32 c)
    have key : ∀ (t a : Int), (knd (μ 31 c) (μ 32 c) = 0 → a = μ 31 c ∧ t = 31 * μ 30 3 + 1) → (knd (μ 31 c) (μ 32 c) = 1 → a = μ 31 c + μ 32 c ∧ t = 31 * (31 * μ 30 3 + 2) + 1) → (knd (μ 31 c) (μ 32 c) = 2 → a = μ 31 c + μ 32 c + μ 31 c ∧ t = 31 * (31 * (31 * (31 * μ 30 3 + 3) + 2) + 1) + 1) → mX8_tell G n c (zu μ 30 3 t) (fun b' μ2 => a = b' ∧ (μ2 = μ ∨ Tr μ μ2)) := by
      intro t a k0 k1 k2
      refine eX8_tell hn (c8_isComparer hn hc (by simp [zu]; omega) ?_)
      have f1 : ∀ i, zu μ 30 3 t 127 i = μ 127 i := fun i => by simp [zu]
      have f2 : ∀ i, zu μ 30 3 t 141 i = μ 141 i := fun i => by simp [zu]
      have f3 : ∀ i, zu μ 30 3 t 142 i = μ 142 i := fun i => by simp [zu]
      have g2 : ∀ v, zu (zu μ 30 3 t) 127 1 v 141 c = μ 31 c := fun v => by rw [e1]; simp [zu]
      have g3 : ∀ v, zu (zu μ 30 3 t) 127 1 v 142 c = μ 32 c := fun v => by rw [e2]; simp [zu]
      rw [f1]
      simp (disch := omega) only [wr_of, ite_b0, Classical.not_not]
      refine ⟨fun _ => c8_kindOf hn (by omega) (by rw [f2]; omega) (by rw [f3]; omega) ?_, fun q2 => absurd (by omega) q2⟩
      rw [f2, f3, ← e1, ← e2]
      simp (disch := omega) only [wr_of]
      refine ⟨fun q3 => c8_begins hn (c8_begins2 hn ⟨hc30, hc30, ?_⟩), fun q3 => c8_begins hn (c8_begins2 hn (c8_begins2 hn (c8_begins2 hn ⟨hc30, hc30, ?_⟩))), fun q3 => c8_begins hn ⟨hc30, ?_⟩⟩
      · obtain ⟨ha, ht⟩ := k1 q3
        rw [g2, g3, f1, ← tr]
        exact ⟨ha, Or.inr ⟨t, by rw [ht]⟩⟩
      · obtain ⟨ha, ht⟩ := k2 q3
        rw [g2, g3, f1, ← tr]
        exact ⟨by rw [ha]; omega, Or.inr ⟨t, by rw [ht]⟩⟩
      · obtain ⟨ha, ht⟩ := k0 (by omega)
        rw [g2, f1, ← tr]
        exact ⟨ha, Or.inr ⟨t, by rw [ht]⟩⟩
    simp (disch := omega) only [wr_of]
    have hs : zu μ 30 3 (μ 30 3) = μ := zu_self
    refine ⟨fun q2 => ?_, fun q2 => ?_, fun q2 => ?_⟩
    · have := c0_long (G := G) (μ := μ) (t := μ 30 3) (K := fun a μ1 => mX8_tell G n c μ1 (fun b μ2 => a = b ∧ (μ2 = μ ∨ Tr μ μ2))) hn hc30 (key _ _ (fun z => by omega) (fun _ => ⟨rfl, rfl⟩) (fun z => by omega))
      rwa [hs] at this
    · have := c0_turned (G := G) (μ := μ) (t := μ 30 3) (K := fun a μ1 => mX8_tell G n c μ1 (fun b μ2 => a = b ∧ (μ2 = μ ∨ Tr μ μ2))) hn hc30 (key _ _ (fun z => by omega) (fun z => by omega) (fun _ => ⟨rfl, rfl⟩))
      rwa [hs] at this
    · have := c0_plain (G := G) (μ := μ) (t := μ 30 3) (K := fun a μ1 => mX8_tell G n c μ1 (fun b μ2 => a = b ∧ (μ2 = μ ∨ Tr μ μ2))) hn hc30 (key _ _ (fun _ => ⟨rfl, rfl⟩) (fun z => by omega) (fun z => by omega))
      rwa [hs] at this
theorem t_as (hn : 154 ≤ n) (h : B3 μ) {c k : Int} (hc : R32 c) (hk : R32 k) : mX7_as G n c k μ (fun a μ1 => mX8_as G n c k μ1 (fun b μ2 => a = b ∧ ∃ v, (v = 0 ∨ v = 2) ∧ μ2 = zu (zu μ 0 8 v) 127 0 v)) := by
  obtain ⟨⟨w1, w2, w3⟩, ⟨m1, m2, m3⟩, tr, hC⟩ := id h
  refine eX7_as hn (fun μ1 e1 => ?_)
  have l1 : ∀ x i, x ≠ 0 → μ1 x i = μ x i := fun x i hx => by rw [e1]; simp [zu, hx]
  rw [l1 30 1 (by decide)]
  have ma : ∀ i x, (x = 127 ∧ i ≠ 0 ∨ x = 141 ∨ x = 142) → zu μ1 127 0 0 x i = μ x i := fun i x hx => by
    rw [e1]
    rcases hx with ⟨rfl, h⟩ | rfl | rfl <;> simp [zu]
    exact fun q => absurd q h
  refine c_within hn ?_
  simp (disch := omega) only [wr_of, ite_b0, Classical.not_not]
  refine ⟨fun q => c_within hn ?_, fun q => eX8_as hn (fun μ2 e2 => c8_isComparer hn hc ?_ ?_)⟩
  · obtain ⟨d1, d2, r1, r2, r3, r4, r5⟩ := hC c q.1 (by omega)
    have hc30 : 0 ≤ c ∧ c < 30 := by omega
    have g1 : ∀ μ2, μ2 = zu μ1 127 0 0 → μ2 127 25 = μ 127 25 := fun μ2 e => by rw [e]; exact ma 25 127 (Or.inl ⟨rfl, by decide⟩)
    have g2 : ∀ μ2, μ2 = zu μ1 127 0 0 → μ2 141 c = μ 31 c := fun μ2 e => by rw [e, ma c 141 (Or.inr (Or.inl rfl)), d1]
    have g3 : ∀ μ2, μ2 = zu μ1 127 0 0 → μ2 142 c = μ 32 c := fun μ2 e => by rw [e, ma c 142 (Or.inr (Or.inr rfl)), d2]
    have hkr := knd_r (μ 31 c) (μ 32 c)
    simp (disch := omega) only [wr_of, ite_b0, Classical.not_not]
    refine ⟨fun q2 => c0_kindOf hn hc30 (by rw [l1 31 c (by decide)]; omega) (by rw [l1 32 c (by decide)]; omega) ?_, fun q2 => eX8_as hn (fun μ2 e2 => c8_isComparer hn hc (by rw [g1 μ2 e2]; omega) ?_)⟩
    · rw [l1 31 c (by decide), l1 32 c (by decide)]
      simp (disch := omega) only [wr_of]
      refine ⟨fun q3 => eX8_as hn (fun μ2 e2 => c8_isComparer hn hc (by rw [g1 μ2 e2]; omega) ?_), fun q3 => eX7_faulted hn (fun μ3 e3 => eX8_as hn (fun μ2 e2 => ?_))⟩
      · rw [g1 μ2 e2]
        simp (disch := omega) only [wr_of, ite_b0, Classical.not_not]
        refine ⟨fun _ => c8_within hn ?_, fun z => absurd (by omega) z⟩
        simp (disch := omega) only [wr_of, ite_b0, Classical.not_not]
        refine ⟨fun _ => c8_kindOf hn hc30 (by rw [g2 μ2 e2]; omega) (by rw [g3 μ2 e2]; omega) ?_, fun z => absurd q2 z⟩
        rw [g2 μ2 e2, g3 μ2 e2]
        simp (disch := omega) only [wr_of]
        exact ⟨fun z => by omega, fun _ => ⟨trivial, 0, Or.inl rfl, by rw [e2, e1]⟩⟩
      · have b1 : μ2 127 25 = μ 127 25 := by rw [e2, e3, e1]; simp [zu]
        have b2 : μ2 141 c = μ 31 c := by rw [e2, e3, e1, d1]; simp [zu]
        have b3 : μ2 142 c = μ 32 c := by rw [e2, e3, e1, d2]; simp [zu]
        refine c8_isComparer hn hc (by rw [b1]; omega) ?_
        rw [b1]
        simp (disch := omega) only [wr_of, ite_b0, Classical.not_not]
        refine ⟨fun _ => c8_within hn ?_, fun z => absurd (by omega) z⟩
        simp (disch := omega) only [wr_of, ite_b0, Classical.not_not]
        refine ⟨fun _ => c8_kindOf hn hc30 (by rw [b2]; omega) (by rw [b3]; omega) ?_, fun z => absurd q2 z⟩
        rw [b2, b3]
        simp (disch := omega) only [wr_of]
        refine ⟨fun _ => eX8_fails hn (fun μ4 e4 => ⟨rfl, 2, Or.inr rfl, by rw [e4, e2, e3, e1, zu_zu, zu_zu]⟩), fun z => by omega⟩
    · rw [g1 μ2 e2]
      simp (disch := omega) only [wr_of, ite_b0, Classical.not_not]
      refine ⟨fun _ => c8_within hn ?_, fun z => absurd (by omega) z⟩
      simp (disch := omega) only [wr_of, ite_b0, Classical.not_not]
      exact ⟨fun z => absurd z q2, fun _ => ⟨trivial, 0, Or.inl rfl, by rw [e2, e1]⟩⟩
  · rw [e2, ma 25 127 (Or.inl ⟨rfl, by decide⟩)]; omega
  · rw [e2, ma 25 127 (Or.inl ⟨rfl, by decide⟩)]
    simp (disch := omega) only [wr_of, ite_b0, Classical.not_not]
    exact ⟨fun z => absurd (by omega) q, fun _ => ⟨trivial, 0, Or.inl rfl, by rw [e1]⟩⟩
end T4
