section T14
variable {G : zG} {n : Nat} {μ : zM}
theorem off_off (h : I1 μ) {i : Int} (hi0 : 0 ≤ i) (ui : Up μ i) : Off μ (zu (offm μ i) 128 i 0) i ∧ Fz 1 μ (zu (offm μ i) 128 i 0) := by
  obtain ⟨u1, ⟨u2, u3, u4⟩, _⟩ := ui
  obtain ⟨⟨a1, a2, a3⟩, ⟨b1, b2, b3⟩, _⟩ := h.gd
  have s1 := sw_lt hi0 u1 (by omega)
  have s2 := sw_lt u2 u3 (by omega)
  have z1 := fun j => z_7 (i := j) s1.1 (by omega)
  have z2 := fun j => z_7 (i := j) s2.1 (by omega)
  refine ⟨?_, ?_⟩
  · unfold offm Off
    generalize i / μ 1 1 = s at *
    generalize μ 2 i / μ 1 1 = t at *
    refine ⟨fun j => ?_, fun j hj => ?_, ?_, fun j => ?_, fun j => ?_, fun j => ?_, fun j => ?_, fun j => ?_, fun s' a h0 h1 => ?_, fun s' a h0 h1 => ?_⟩
    all_goals unfold zu
    · repeat rw [if_neg (by omega)]
    · repeat rw [if_neg (by omega)]
    · rw [if_neg (by omega), if_pos ⟨rfl, rfl⟩]
    · repeat rw [if_neg (by omega)]
    · rw [if_neg (by omega), if_neg (by omega)]
      by_cases c : j = i
      · rw [if_pos ⟨rfl, c⟩, if_pos c]
      · rw [if_neg (fun q => c q.2), if_neg c]; repeat rw [if_neg (by omega)]
    · by_cases c : j = i
      · rw [if_pos ⟨rfl, c⟩, if_pos c]
      · rw [if_neg (fun q => c q.2), if_neg c]; repeat rw [if_neg (by omega)]
    · rw [if_neg (by omega), if_neg (by omega), if_neg (by omega), if_neg (by omega)]
      by_cases c : j = i
      · rw [if_pos ⟨rfl, c⟩, if_pos c]
      · rw [if_neg (fun q => c q.2), if_neg c]; repeat rw [if_neg (by omega)]
    · rw [if_neg (by omega), if_neg (by omega), if_neg (by omega)]
      by_cases c : j = μ 2 i
      · rw [if_pos ⟨rfl, c⟩, if_pos c]
      · rw [if_neg (fun q => c q.2), if_neg c]; repeat rw [if_neg (by omega)]
    · rw [if_neg (by omega), if_neg (by omega), if_neg (by omega), if_neg (by omega), if_neg (by omega), if_neg (by omega)]
      by_cases c : s' = s ∧ a = μ 4 i
      · rw [if_pos c, if_pos ⟨by omega, c.2⟩]
      · rw [if_neg c, if_neg (by omega)]
    · rw [if_neg (by omega), if_neg (by omega), if_neg (by omega), if_neg (by omega), if_neg (by omega)]
      by_cases c : s' = t ∧ a = μ 4 i
      · rw [if_pos c, if_pos ⟨by omega, c.2⟩]
      · rw [if_neg c, if_neg (by omega), if_neg (by omega)]
  · unfold offm
    exact ((((((Fz.rf.zu (z1 _).1).zu (z2 _).2).zu rfl).zu rfl).zu rfl).zu rfl).zu rfl
theorem t_hang (hn : 154 ≤ n) (h : I1 μ) {i : Int} (hi : R32 i) : mX7_hang G n i μ (fun a μ1 => mX8_hang G n i μ1 (fun b μ2 => a = b ∧ I1 μ2 ∧ Fz 1 μ μ2)) := by
  have hN := h.gd.nn
  have i1 := hi.1
  have i2 := hi.2
  refine eX7_hang hn (c6_isPlace hn h.gd hi ?_)
  simp (disch := omega) only [wr_of, ite_b0, Classical.not_not]
  refine ⟨fun z => ⟨by omega, ?_⟩, fun z => eX8_hang hn (c8_isLine hn h.gd hi ?_)⟩
  · rcases h.row i (by omega) (by omega) with ⟨d1, d2, d3⟩ | u
    · rw [d1]
      refine ⟨fun q => absurd rfl q, fun _ => eX8_hang hn (c8_isLine hn h.gd hi ?_)⟩
      simp (disch := omega) only [wr_of, ite_b0, Classical.not_not]
      exact ⟨fun _ => ⟨by omega, fun q => absurd d2 q, fun _ => ⟨trivial, h, Fz.rf⟩⟩, fun q => absurd z q⟩
    · have u2 := u.2.1
      obtain ⟨o, f⟩ := off_off h (by omega) u
      have g : Gd (offm μ i) := by
        have := (o.I1 h (by omega) (by omega) u).gd
        exact this
      have e1 : offm μ i 1 0 * offm μ i 1 1 = μ 1 0 * μ 1 1 := by
        have q1 := o.2.1 0 (by decide)
        have q2 := o.2.1 1 (by decide)
        exact (show offm μ i 1 0 = μ 1 0 from q1) ▸ (show offm μ i 1 1 = μ 1 1 from q2) ▸ rfl
      have g1 := h.gd.1
      have g2 := h.gd.2.1
      have g3 := h.gd.2.2
      have s1 := sw_lt z.1 z.2 (show 0 < μ 1 1 by omega)
      have s2 := sw_lt u2.1 u2.2.1 (show 0 < μ 1 1 by omega)
      have e2 : offm μ i 128 i = μ 128 i := by
        unfold offm zu
        generalize i / μ 1 1 = s at *
        generalize μ 2 i / μ 1 1 = t at *
        repeat rw [if_neg (by omega)]
      have u4 := u.2.2.1
      have e3 : zu (offm μ i) 128 i 0 129 i = μ 4 i := by rw [o.2.2.2.1]; exact u4.2.2
      simp (disch := omega) only [wr_of]
      refine ⟨fun q => c6_takeOff hn h z.1 (by omega) u (eX8_hang hn (c8_isLine hn g hi ?_)), fun q => by omega⟩
      rw [e1]
      simp (disch := omega) only [wr_of, ite_b0, Classical.not_not]
      refine ⟨fun _ => ⟨by omega, fun _ => ⟨by omega, fun μ7 e7 => ⟨by omega, ?_, ?_, ?_⟩⟩, fun q => by omega⟩, fun q => absurd z q⟩
      · rw [e7, e3]
      · rw [e7]; exact o.I1 h z.1 (by omega) u
      · rw [e7]; exact f
  · simp (disch := omega) only [wr_of, ite_b0, Classical.not_not]
    exact ⟨fun q => absurd q z, fun _ => ⟨trivial, h, Fz.rf⟩⟩
end T14
