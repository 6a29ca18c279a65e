section T17
variable {G : zG} {n : Nat} {μ : zM}
def onm (μ : zM) (i o a : Int) : zM := zu (zu (zu (zu (zu (zu μ 2 i o) 3 o i) 1 3 (μ 1 3 + 1)) 4 i a) (7 + i / μ 1 1) a i) (13 + o / μ 1 1) a i
theorem c6_setUp (hn : 154 ≤ n) (h : Gd μ) {i o a : Int} (f1 : 0 ≤ i ∧ i < μ 1 0 * μ 1 1) (f2 : 0 ≤ o ∧ o < μ 1 0 * μ 1 1) (f3 : 0 ≤ a ∧ a < μ 1 2) {K : zM → Prop} (hK : K (onm μ i o a)) : mX6_join G n i o μ (fun μ9 => mX6_goBy G n i a μ9 (fun μ11 => K μ11)) := by
  have hN := h.nn
  obtain ⟨⟨a1, a2, a3⟩, ⟨b1, b2, b3⟩, c1, c2, c3⟩ := id h
  have s1 := sw_lt f1.1 f1.2 (show 0 < μ 1 1 by omega)
  have s2 := sw_lt f2.1 f2.2 (show 0 < μ 1 1 by omega)
  refine eX6_join (by omega) ?_
  simp (disch := omega) only [wr_of]
  refine ⟨by omega, fun μ2 e2 => ⟨by omega, fun μ4 e4 μ5 e5 => eX6_goBy (by omega) ?_⟩⟩
  simp (disch := omega) only [wr_of]
  refine ⟨by omega, fun μ6 e6 => ?_⟩
  have q4 : μ4 1 3 = μ 1 3 := by rw [e4, zu_na (by decide), e2, zu_na (by decide)]
  have g6 : ∀ b j, 4 < b ∨ (b = 1 ∧ j ≠ 3) → μ6 b j = μ b j := fun b j hb => by
    rw [e6, zu_na (by omega), e5]
    have : zu μ4 1 3 (μ4 1 3 + 1) b j = μ4 b j := by unfold zu; rw [if_neg (by omega)]
    rw [this, e4, zu_na (by omega), e2, zu_na (by omega)]
  have gd : ∀ ν : zM, (∀ b j, 126 < b ∨ (b = 1 ∧ j ≠ 3) → ν b j = μ b j) → Gd ν := fun ν g => by
    have := h
    unfold Gd at this ⊢
    rw [g 1 0 (by decide), g 1 1 (by decide), g 1 2 (by decide), g 127 2 (by decide), g 127 3 (by decide), g 127 4 (by decide)]; exact this
  refine c6_switchOf hn (gd μ6 (fun b j q => g6 b j (by omega))) f1.1 (by omega) ?_
  rw [g6 1 1 (by decide)]
  simp (disch := omega) only [wr_of]
  rw [show (6 : Int) + 1 = 7 from rfl]
  refine ⟨by omega, by omega, fun μ7 e7 => ⟨by omega, ?_⟩⟩
  have q2 : μ7 2 i = o := by
    rw [e7, zu_na (by omega), e6, zu_na (by decide), e5, zu_na (by decide), e4, zu_na (by decide), e2]
    unfold zu; rw [if_pos ⟨rfl, rfl⟩]
  rw [q2]
  have g7 : ∀ b j, 126 < b ∨ (b = 1 ∧ j ≠ 3) → μ7 b j = μ b j := fun b j hb => by rw [e7, zu_na (by omega), g6 b j (by omega)]
  refine c6_switchOf hn (gd μ7 g7) f2.1 (by omega) ?_
  rw [g7 1 1 (by decide)]
  simp (disch := omega) only [wr_of]
  rw [show (12 : Int) + 1 = 13 from rfl]
  refine ⟨by omega, by omega, fun μ8 e8 => ?_⟩
  rw [e8, e7, e6, e5, q4, e4, e2]
  exact hK
theorem on_on (h : I1 μ) {i o a : Int} (f : Fr μ i o a) : On μ (zu (zu (onm μ i o a) 128 i (o + 1)) 129 i a) i o a ∧ Fz 1 μ (zu (zu (onm μ i o a) 128 i (o + 1)) 129 i a) := by
  obtain ⟨f1, f2, f3, _⟩ := f
  obtain ⟨⟨a1, a2, a3⟩, ⟨b1, b2, b3⟩, _⟩ := h.gd
  have s1 := sw_lt f1.1 f1.2 (show 0 < μ 1 1 by omega)
  have s2 := sw_lt f2.1 f2.2 (show 0 < μ 1 1 by omega)
  have z1 := fun j => z_7 (i := j) s1.1 (by omega)
  have z2 := fun j => z_7 (i := j) s2.1 (by omega)
  refine ⟨?_, ?_⟩
  · unfold onm On
    generalize i / μ 1 1 = s at *
    generalize o / μ 1 1 = t at *
    refine ⟨fun j => ?_, fun j hj => ?_, ?_, fun j => ?_, fun j => ?_, fun j => ?_, fun j => ?_, fun j => ?_, fun s' b h0 h1 => ?_, fun s' b h0 h1 => ?_⟩
    all_goals unfold zu
    · repeat rw [if_neg (by omega)]
    · repeat rw [if_neg (by omega)]
    · rw [if_neg (by omega), if_neg (by omega), if_neg (by omega), if_neg (by omega), if_neg (by omega), if_pos ⟨rfl, rfl⟩]
    · by_cases c : j = i
      · rw [if_pos ⟨rfl, c⟩, if_pos c]
      · rw [if_neg (fun q => c q.2), if_neg c]; repeat rw [if_neg (by omega)]
    · rw [if_neg (by omega), if_neg (by omega), if_neg (by omega), if_neg (by omega), if_neg (by omega), if_neg (by omega), if_neg (by omega)]
      by_cases c : j = i
      · rw [if_pos ⟨rfl, c⟩, if_pos c]
      · rw [if_neg (fun q => c q.2), if_neg c]
    · rw [if_neg (by omega)]
      by_cases c : j = i
      · rw [if_pos ⟨rfl, c⟩, if_pos c]
      · rw [if_neg (fun q => c q.2), if_neg c]; repeat rw [if_neg (by omega)]
    · rw [if_neg (by omega), if_neg (by omega), if_neg (by omega), if_neg (by omega)]
      by_cases c : j = i
      · rw [if_pos ⟨rfl, c⟩, if_pos c]
      · rw [if_neg (fun q => c q.2), if_neg c]; repeat rw [if_neg (by omega)]
    · rw [if_neg (by omega), if_neg (by omega), if_neg (by omega), if_neg (by omega), if_neg (by omega), if_neg (by omega)]
      by_cases c : j = o
      · rw [if_pos ⟨rfl, c⟩, if_pos c]
      · rw [if_neg (fun q => c q.2), if_neg c]; repeat rw [if_neg (by omega)]
    · rw [if_neg (by omega), if_neg (by omega), if_neg (by omega)]
      by_cases c : s' = s ∧ b = a
      · rw [if_pos c, if_pos ⟨by omega, c.2⟩]
      · rw [if_neg c, if_neg (by omega)]; repeat rw [if_neg (by omega)]
    · rw [if_neg (by omega), if_neg (by omega)]
      by_cases c : s' = t ∧ b = a
      · rw [if_pos c, if_pos ⟨by omega, c.2⟩]
      · rw [if_neg c, if_neg (by omega)]; repeat rw [if_neg (by omega)]
  · unfold onm
    refine Fz.zu (Fz.zu (Fz.zu (Fz.zu (Fz.zu (Fz.zu (Fz.zu (Fz.zu Fz.rf ?_) ?_) ?_) ?_) (z1 _).1) (z2 _).2) ?_) ?_ <;> rfl
end T17
