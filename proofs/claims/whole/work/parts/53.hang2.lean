section T13
variable {G : zG} {n : Nat} {μ : zM}
theorem z_7 {s i : Int} (h0 : 0 ≤ s) (h1 : s < 5) : zone (7 + s) i = 1 ∧ zone (13 + s) i = 1 := by
  unfold zone
  rw [if_neg (by omega), if_pos (by omega), if_neg (by omega), if_pos (by omega)]; exact ⟨rfl, rfl⟩
def offm (μ : zM) (i : Int) : zM := zu (zu (zu (zu (zu (zu μ (7 + i / μ 1 1) (μ 4 i) (-9)) (13 + μ 2 i / μ 1 1) (μ 4 i) (-9)) 4 i (-9)) 3 (μ 2 i) (-9)) 2 i (-9)) 1 3 (μ 1 3 - 1)
theorem zu_na {a i v b j : Int} (h : b ≠ a) : zu μ a i v b j = μ b j := by unfold zu; rw [if_neg (fun q => h q.1)]
theorem c6_takeOff (hn : 154 ≤ n) (h : I1 μ) {i : Int} (hi0 : 0 ≤ i) (hi : i < 20) (ui : Up μ i) {K : Int → zM → Prop} (hK : K (μ 4 i) (offm μ i)) : mX6_takeOff G n i μ K := by
  obtain ⟨u1, ⟨u2, u3, u4⟩, ⟨u5, u6, u7⟩, u8, u9, u10⟩ := ui
  have hN := h.gd.nn
  obtain ⟨⟨a1, a2, a3⟩, ⟨b1, b2, b3⟩, c1, c2, c3⟩ := h.gd
  have s1 := sw_lt hi0 u1 (by omega)
  have s2 := sw_lt u2 u3 (by omega)
  refine eX6_takeOff (by omega) ?_
  simp (disch := omega) only [wr_of]
  refine ⟨by omega, fun v2 e2 => eX6_freeLinks (by omega) ?_⟩
  simp (disch := omega) only [wr_of]
  refine ⟨by omega, fun v3 e3 => c6_switchOf hn h.gd hi0 (by omega) ?_⟩
  simp (disch := omega) only [wr_of]
  rw [show (6 : Int) + 1 = 7 from rfl]
  refine ⟨by omega, by omega, fun μ7 e7 => ⟨by omega, ?_⟩⟩
  have g : ∀ b j, b < 7 ∨ 12 < b → μ7 b j = μ b j := fun b j hb => by rw [e7, zu_na (by omega)]
  have gd7 : Gd μ7 := by
    have := h.gd
    unfold Gd at this ⊢
    rw [g 1 0 (by decide), g 1 1 (by decide), g 1 2 (by decide), g 127 2 (by decide), g 127 3 (by decide), g 127 4 (by decide)]; exact this
  rw [g 2 i (by decide)]
  refine c6_switchOf hn gd7 u2 (by omega) ?_
  rw [g 1 1 (by decide)]
  simp (disch := omega) only [wr_of]
  rw [show (12 : Int) + 1 = 13 from rfl]
  refine ⟨by omega, by omega, fun μ13 e13 => ⟨by omega, fun μ15 e15 => ⟨by omega, ?_⟩⟩⟩
  have q2 : μ15 2 i = μ 2 i := by rw [e15, zu_na (by decide), e13, zu_na (by omega), g 2 i (by decide)]
  have q1 : μ15 1 3 = μ 1 3 := by rw [e15, zu_na (by decide), e13, zu_na (by omega), g 1 3 (by decide)]
  rw [q2]
  simp (disch := omega) only [wr_of]
  refine ⟨by omega, fun μ16 e16 => ⟨by omega, fun μ17 e17 μ18 e18 => ?_⟩⟩
  have : μ17 1 3 = μ 1 3 := by rw [e17, zu_na (by decide), e16, zu_na (by decide), q1]
  rw [e18, this, e17, e16, e15, e13, e7, e2, e3]
  exact hK
end T13
