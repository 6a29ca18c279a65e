section T28
variable {G : zG} {n : Nat} {μ ν : zM}
theorem zk5 {a : Int} (h : (47 ≤ a ∧ a < 52) ∨ (53 ≤ a ∧ a < 58) ∨ (101 ≤ a ∧ a < 106)) : zk a = 0 ∧ (zn a : Int) = 5 := by
  have : ∀ x : Fin 154, ((47 ≤ x.val ∧ x.val < 52) ∨ (53 ≤ x.val ∧ x.val < 58) ∨ (101 ≤ x.val ∧ x.val < 106)) → zk (x.val : Int) = 0 ∧ (zn (x.val : Int) : Int) = 5 := by decide +kernel
  have := this ⟨a.toNat, by omega⟩ (by simp only; omega)
  rwa [fv (by omega) (by omega)] at this
theorem c3_begin (hn : 154 ≤ n) {p : Int} {K : zM → Prop} (hK : ∀ ν : zM, (∀ a j, ν a j = if a = 45 ∧ j = 2 then 1 else if 47 ≤ a ∧ a < 52 ∧ 0 ≤ j ∧ j < 5 then 0 else if a = 45 ∧ j = 0 then p else μ a j) → K ν) : mX3_begin G n p μ K := by
  refine eX3_begin (by omega) (fun μ1 e1 => ?_)
  have key : ∀ (g : Nat) (k : Int) (ν : zM), 0 ≤ k → k + g = 5 → (∀ a j, ν a j = if 47 ≤ a ∧ a < 47 + k ∧ 0 ≤ j ∧ j < 5 then 0 else μ1 a j) → pX3_begin G n K 7 [some (Rv G 45), none, some (Iv k)] [] ν := by
    intro g
    induction g with
    | zero =>
      intro k ν k0 k1 hν
      have : k = 5 := by omega
      subst this
      refine bX3_begin_7 (by omega) ⟨fun _ μ2 e2 => hK μ2 (fun a j => ?_), fun z => absurd (by decide) z⟩
      rw [e2]; unfold zu; rw [hν, e1]; unfold zu
      repeat' split
      all_goals first | rfl | omega
    | succ g ih =>
      intro k ν k0 k1 hν
      have hz := zk5 (a := 47 + k) (by omega)
      refine bX3_begin_7 (by omega) ?_
      rw [show (46 : Int) + 1 = 47 from rfl]
      simp (disch := omega) only [wr_of]
      refine ⟨fun z => by omega, fun _ => ⟨by omega, c_fill ⟨by omega, by omega, hz.1⟩ (ih (k + 1) _ (by omega) (by omega) (fun a j => ?_))⟩⟩
      rw [hz.2]; unfold zfill; rw [hν]
      repeat' split
      all_goals first | rfl | omega
  exact key 5 0 μ1 (by decide) (by decide) (fun a j => by rw [if_neg (by omega)])
theorem c4_begin (hn : 154 ≤ n) {p : Int} {K : zM → Prop} (hK : ∀ ν : zM, (∀ a j, ν a j = if (106 ≤ a ∧ a < 108) ∧ 0 ≤ j ∧ j < 5 then -9 else if (108 ≤ a ∧ a < 110) ∧ 0 ≤ j ∧ j < 5 then 0 else if 101 ≤ a ∧ a < 106 ∧ 0 ≤ j ∧ j < 5 then 0 else if a = 99 ∧ j = 0 then p else μ a j) → K ν) : mX4_begin G n p μ K := by
  refine eX4_begin (by omega) (fun μ1 e1 => ?_)
  have key : ∀ (g : Nat) (k : Int) (ν : zM), 0 ≤ k → k + g = 5 → (∀ a j, ν a j = if 101 ≤ a ∧ a < 101 + k ∧ 0 ≤ j ∧ j < 5 then 0 else μ1 a j) → pX4_begin G n K 7 [some (Rv G 99), none, some (Iv k)] [] ν := by
    intro g
    induction g with
    | zero =>
      intro k ν k0 k1 hν
      have : k = 5 := by omega
      subst this
      refine bX4_begin_7 (by omega) ⟨fun _ => c_fill ⟨by decide, by omega, by decide⟩ (c_fill ⟨by decide, by omega, by decide⟩ (eX4_matchNone (by omega) (c_fill ⟨by decide, by omega, by decide⟩ (c_fill ⟨by decide, by omega, by decide⟩ (hK _ (fun a j => ?_)))))), fun z => absurd (by decide) z⟩
      have z1 : (zn 106 : Int) = 5 ∧ (zn 107 : Int) = 5 ∧ (zn 108 : Int) = 5 ∧ (zn 109 : Int) = 5 := by decide
      rw [z1.1, z1.2.1, z1.2.2.1, z1.2.2.2]
      unfold zfill
      rw [hν, e1]; unfold zu
      repeat' split
      all_goals first | rfl | omega
    | succ g ih =>
      intro k ν k0 k1 hν
      have hz := zk5 (a := 101 + k) (by omega)
      refine bX4_begin_7 (by omega) ?_
      rw [show (100 : Int) + 1 = 101 from rfl]
      simp (disch := omega) only [wr_of]
      refine ⟨fun z => by omega, fun _ => ⟨by omega, c_fill ⟨by omega, by omega, hz.1⟩ (ih (k + 1) _ (by omega) (by omega) (fun a j => ?_))⟩⟩
      rw [hz.2]; unfold zfill; rw [hν]
      repeat' split
      all_goals first | rfl | omega
  exact key 5 0 μ1 (by decide) (by decide) (fun a j => by rw [if_neg (by omega)])
theorem c8_barL (hn : 154 ≤ n) {v : Int} {K : Int → zM → Prop} (hK : ∀ ν : zM, (∀ a j, ν a j = if (a = 145 ∨ a = 147) ∧ 0 ≤ j ∧ j < 25 then 0 else if (a = 148 ∨ a = 149) ∧ 0 ≤ j ∧ j < 5 then 0 else if a = 151 ∧ 0 ≤ j ∧ j < 5 then -9 else μ a j) → K v ν) : pX8_bar G n K 24 [some (Rv G 127), none, some (Iv v), some (Iv 0)] [] μ := by
  have key2 : ∀ (g : Nat) (k : Int) (ν : zM), 0 ≤ k → k + g = 5 → (∀ a j, ν a j = if (a = 145 ∨ a = 147) ∧ 0 ≤ j ∧ j < 25 then 0 else if (a = 148 ∨ a = 149) ∧ 0 ≤ j ∧ j < k then 0 else if a = 151 ∧ 0 ≤ j ∧ j < k then -9 else μ a j) → pX8_bar G n K 52 [some (Rv G 127), none, some (Iv v), some (Iv k)] [] ν := by
    intro g
    induction g with
    | zero =>
      intro k ν k0 k1 hν
      have : k = 5 := by omega
      subst this
      exact bX8_bar_52 hn ⟨fun _ => hK ν hν, fun z => absurd (by decide) z⟩
    | succ g ih =>
      intro k ν k0 k1 hν
      refine bX8_bar_52 hn ?_
      simp (disch := omega) only [wr_of]
      refine ⟨fun z => by omega, fun _ => ⟨by omega, fun μ3 e3 => ⟨by omega, fun μ5 e5 => ⟨by omega, fun μ7 e7 => ih (k + 1) μ7 (by omega) (by omega) (fun a j => ?_)⟩⟩⟩⟩
      rw [e7]; unfold zu; rw [e5]; unfold zu; rw [e3]; unfold zu; rw [hν]
      repeat' split
      all_goals first | rfl | omega
  have key : ∀ (g : Nat) (k : Int) (ν : zM), 0 ≤ k → k + g = 25 → (∀ a j, ν a j = if (a = 145 ∨ a = 147) ∧ 0 ≤ j ∧ j < k then 0 else μ a j) → pX8_bar G n K 24 [some (Rv G 127), none, some (Iv v), some (Iv k)] [] ν := by
    intro g
    induction g with
    | zero =>
      intro k ν k0 k1 hν
      have : k = 25 := by omega
      subst this
      refine bX8_bar_24 hn ⟨fun _ => key2 5 0 ν (by decide) (by decide) (fun a j => ?_), fun z => absurd (by decide) z⟩
      rw [hν]
      repeat' split
      all_goals first | rfl | omega
    | succ g ih =>
      intro k ν k0 k1 hν
      refine bX8_bar_24 hn ?_
      simp (disch := omega) only [wr_of]
      refine ⟨fun z => by omega, fun _ => ⟨by omega, fun μ3 e3 => ⟨by omega, fun μ5 e5 => ih (k + 1) μ5 (by omega) (by omega) (fun a j => ?_)⟩⟩⟩
      rw [e5]; unfold zu; rw [e3]; unfold zu; rw [hν]
      repeat' split
      all_goals first | rfl | omega
  exact key 25 0 μ (by decide) (by decide) (fun a j => by rw [if_neg (by omega)])
theorem z4_45 {a i : Int} (h : 45 ≤ a ∧ a ≤ 117) : zone a i = 4 := by
  unfold zone
  rw [if_neg (by omega), if_neg (by omega), if_neg (by omega), if_neg (by omega), if_pos (by omega)]
theorem z4_145 {a i : Int} (h : 145 ≤ a) : zone a i = 4 := by
  unfold zone
  rw [if_neg (by omega), if_neg (by omega), if_neg (by omega), if_neg (by omega), if_neg (by omega), if_neg (by omega), if_neg (by omega), if_neg (by omega), if_neg (by omega), if_neg (by omega), if_neg (by omega), if_neg (by omega)]
theorem t_bar (hn : 154 ≤ n) (h : B4 μ) {p : Int} (hp : R32 p) : mX7_bar G n p μ (fun a μ1 => mX8_bar G n p μ1 (fun b μ2 => a = b ∧ B4 μ2 ∧ Fz 4 μ μ2 ∧ (μ2 = μ ∨ μ2 45 2 = 1))) := by
  obtain ⟨p1, p2⟩ := id hp
  have q := h.1
  refine eX7_bar hn (c_within hn ?_)
  simp (disch := omega) only [wr_of, ite_b0, Classical.not_not]
  refine ⟨fun z v4 e4 => c3_begin hn (fun ν1 h1 => c4_begin hn (fun ν2 h2 => eX8_bar hn (c8_within hn ?_))), fun z => eX8_bar hn (c8_within hn ?_)⟩
  · simp (disch := omega) only [wr_of, ite_b0, Classical.not_not]
    refine ⟨fun _ v5 e5 μ5 e6 => c8_barL hn (fun ν h3 => ?_), fun w => absurd z w⟩
    have f127 : ∀ j, ν2 127 j = μ 127 j := fun j => by rw [h2, h1]; repeat' split; all_goals first | rfl | omega
    refine ⟨by rw [e4, e5, f127, q.2.2.2], ⟨?_, ?_, ?_⟩, ?_, Or.inr ?_⟩
    · refine ⟨?_, ?_, ?_, ?_⟩
      all_goals simp [h3, e6, h2, h1, zu]
      all_goals omega
    · intro i o i0 i1 o0 o1
      have e99 : ν 99 0 = p := by simp [h3, e6, h2, h1, zu]
      have g1 : ν (47 + i) o = 0 := by
        rw [h3, e6]; unfold zu; rw [h2, h1]
        repeat' split
        all_goals first | rfl | omega
      have g2 : ν (101 + i) o = 0 := by
        rw [h3, e6]; unfold zu; rw [h2]
        repeat' split
        all_goals first | rfl | omega
      have g3 : ν 145 (5 * i + o) = 0 := by rw [h3, if_pos ⟨Or.inl rfl, by omega, by omega⟩]
      have g4 : ν 147 (5 * i + o) = 0 := by rw [h3, if_pos ⟨Or.inr rfl, by omega, by omega⟩]
      rw [g1, g2, g3, g4]
      simp
    · intro i i0 i1
      have e99 : ν 99 0 = p := by simp [h3, e6, h2, h1, zu]
      have g1 : ν 106 i = -9 ∧ ν 108 i = 0 ∧ ν 109 i = 0 := by
        refine ⟨?_, ?_, ?_⟩
        all_goals
          rw [h3, e6]; unfold zu; rw [h2]
          repeat' split
          all_goals first | rfl | omega
      have g2 : ν 151 i = -9 ∧ ν 148 i = 0 ∧ ν 149 i = 0 := by
        refine ⟨?_, ?_, ?_⟩
        all_goals
          rw [h3]
          repeat' split
          all_goals first | rfl | omega
      rw [g1.1, g1.2.1, g1.2.2, g2.1, g2.2.1, g2.2.2, e99]
      omega
    · intro a j hz
      have n1 : ¬ (45 ≤ a ∧ a ≤ 117) := fun w => hz (z4_45 w)
      have n2 : ¬ 145 ≤ a := fun w => hz (z4_145 w)
      have n3 : ¬ (a = 127 ∧ j = 30) := fun w => hz (by rw [w.1, w.2]; decide)
      rw [h3, e6]; unfold zu; rw [h2, h1]
      repeat' split
      all_goals first | rfl | omega
    · simp [h3, e6, h2, h1, zu]
  · simp (disch := omega) only [wr_of, ite_b0, Classical.not_not]
    exact ⟨fun w => absurd w z, fun _ => ⟨trivial, h, Fz.rf, Or.inl trivial⟩⟩
theorem t_traffic (hn : 154 ≤ n) (h : B4 μ) {i o v : Int} (hi : R32 i) (ho : R32 o) (hv : R32 v) : mX7_traffic G n i o v μ (fun a μ1 => mX8_traffic G n i o v μ1 (fun b μ2 => a = b ∧ B4 μ2 ∧ Fz 4 μ μ2 ∧ (μ2 = μ ∨ μ2 45 2 = 1))) := by
  obtain ⟨i1, i2⟩ := id hi
  obtain ⟨o1, o2⟩ := id ho
  obtain ⟨v1, v2⟩ := id hv
  have p := h.1
  have m8 : ∀ (a : Int) (μ1 : zM), (¬ ((0 ≤ i ∧ i < μ 99 0) ∧ (0 ≤ o ∧ o < μ 99 0)) → a = -1 ∧ μ1 = μ) → ((0 ≤ i ∧ i < μ 99 0) → (0 ≤ o ∧ o < μ 99 0) → ¬ (0 ≤ v ∧ v ≤ 50) → a = -2 ∧ μ1 = μ) → ((0 ≤ i ∧ i < μ 99 0) → (0 ≤ o ∧ o < μ 99 0) → (0 ≤ v ∧ v ≤ 50) → a = μ (47 + i) o ∧ μ1 = zu (zu μ (47 + i) o v) 45 2 1) → mX8_traffic G n i o v μ1 (fun b μ2 => a = b ∧ B4 μ2 ∧ Fz 4 μ μ2 ∧ (μ2 = μ ∨ μ2 45 2 = 1)) := by
    intro a μ1 k1 k2 k3
    have e30 : μ1 127 30 = μ 99 0 := by
      by_cases c1 : (0 ≤ i ∧ i < μ 99 0) ∧ (0 ≤ o ∧ o < μ 99 0)
      · by_cases c2 : 0 ≤ v ∧ v ≤ 50
        · rw [(k3 c1.1 c1.2 c2).2, zu_na (by decide), zu_na (by omega)]; exact p.2.2.2
        · rw [(k2 c1.1 c1.2 c2).2]; exact p.2.2.2
      · rw [(k1 c1).2]; exact p.2.2.2
    have bad : ∀ c : Int, a = c ∧ μ1 = μ → (a = c ∧ B4 μ1 ∧ Fz 4 μ μ1 ∧ (μ1 = μ ∨ μ1 45 2 = 1)) := fun c q => ⟨q.1, q.2 ▸ h, q.2 ▸ Fz.rf, Or.inl q.2⟩
    refine eX8_traffic hn (c8_isPort hn e30 ⟨p.1, p.2.1⟩ hi ?_)
    simp (disch := omega) only [wr_of, ite_b0, Classical.not_not]
    refine ⟨fun z => bad _ (k1 (fun q => z q.1)), fun z => c8_isPort hn e30 ⟨p.1, p.2.1⟩ ho ?_⟩
    simp (disch := omega) only [wr_of, ite_b0, Classical.not_not]
    refine ⟨fun z2 => c8_within hn ?_, fun z2 => bad _ (k1 (fun q => z2 q.2))⟩
    simp (disch := omega) only [wr_of, ite_b0, Classical.not_not]
    refine ⟨fun z3 => ⟨by omega, fun v11 e11 => ⟨by omega, fun μ13 e13 => ?_⟩⟩, fun z3 => bad _ (k2 z z2 z3)⟩
    obtain ⟨q1, q2⟩ := k3 z z2 z3
    have V : ∀ b j, μ13 b j = if b = 145 ∧ j = 5 * i + o then v else if b = 45 ∧ j = 2 then 1 else if b = 47 + i ∧ j = o then v else μ b j := fun b j => by rw [e13, q2]; rfl
    refine ⟨?_, ⟨?_, ?_, ?_⟩, ?_, Or.inr ?_⟩
    · rw [q1, e11, q2, zu_na (by decide), zu_na (by omega)]
      exact (h.2.1 i o z.1 (by omega) z2.1 (by omega)).1.1
    · have w : ∀ b j, b = 99 ∨ b = 127 ∨ (b = 45 ∧ j = 0) → μ13 b j = μ b j := fun b j hb => by
        rw [V]
        repeat' split
        all_goals first | rfl | omega
      rw [w 99 0 (by simp), w 45 0 (by simp), w 127 30 (by simp)]
      exact p
    · intro i' o' i0 i1 o0 o1
      have hh := h.2.1 i' o' i0 i1 o0 o1
      have w99 : μ13 99 0 = μ 99 0 := by
        rw [V]
        repeat' split
        all_goals first | rfl | omega
      have w1 : μ13 (101 + i') o' = μ (101 + i') o' := by
        rw [V]
        repeat' split
        all_goals first | rfl | omega
      have w2 : μ13 147 (5 * i' + o') = μ 147 (5 * i' + o') := by
        rw [V]
        repeat' split
        all_goals first | rfl | omega
      rw [w99, w1, w2]
      refine ⟨?_, hh.2⟩
      by_cases c : i' = i ∧ o' = o
      · rw [V, if_neg (by omega), if_neg (by omega), if_pos (by omega), V, if_pos (by omega)]
        exact ⟨rfl, z3⟩
      · rw [V, if_neg (by omega), if_neg (by omega), if_neg (by omega), V, if_neg (by omega), if_neg (by omega), if_neg (by omega)]
        exact hh.1
    · intro i' i0 i1
      have w : ∀ b j, 99 ≤ b ∧ b ≤ 109 ∨ 147 ≤ b → μ13 b j = μ b j := fun b j hb => by
        rw [V]
        repeat' split
        all_goals first | rfl | omega
      rw [w 106 i' (by simp), w 151 i' (by simp), w 108 i' (by simp), w 148 i' (by simp), w 109 i' (by simp), w 149 i' (by simp), w 99 0 (by simp)]
      exact h.2.2 i' i0 i1
    · intro b j hz
      have n1 : ¬ (45 ≤ b ∧ b ≤ 117) := fun w => hz (z4_45 w)
      have n2 : ¬ 145 ≤ b := fun w => hz (z4_145 w)
      rw [V]
      repeat' split
      all_goals first | rfl | omega
    · rw [V, if_neg (by omega), if_pos ⟨rfl, rfl⟩]
  refine eX7_traffic hn (c7_isPort hn h hi ?_)
  simp (disch := omega) only [wr_of, ite_b0, Classical.not_not]
  refine ⟨fun z => m8 _ _ (fun _ => ⟨rfl, rfl⟩) (fun q => absurd q z) (fun q => absurd q z), fun z => c7_isPort hn h ho ?_⟩
  simp (disch := omega) only [wr_of, ite_b0, Classical.not_not]
  refine ⟨fun z2 => c_within hn ?_, fun z2 => m8 _ _ (fun _ => ⟨rfl, rfl⟩) (fun _ q => absurd q z2) (fun _ q => absurd q z2)⟩
  simp (disch := omega) only [wr_of, ite_b0, Classical.not_not]
  refine ⟨fun z3 => m8 _ _ (fun q => absurd ⟨z, z2⟩ q) (fun _ _ _ => ⟨rfl, rfl⟩) (fun _ _ q => absurd q z3), fun z3 => eX3_change (by omega) ?_⟩
  rw [show (46 : Int) + 1 = 47 from rfl]
  simp (disch := omega) only [wr_of]
  refine ⟨by omega, by omega, fun v3 e3 => ⟨by omega, by omega, fun μ6 e6 μ7 e7 => m8 _ _ (fun q => absurd ⟨z, z2⟩ q) (fun _ _ q => absurd z3 q) (fun _ _ _ => ⟨e3, by rw [e7, e6]⟩)⟩⟩
end T28
