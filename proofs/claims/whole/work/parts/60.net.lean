section T20
variable {G : zG} {n : Nat} {μ ν : zM}
def frm (μ : zM) (k : Int) : zM := fun b j => if ((7 ≤ b ∧ b < 7 + k) ∨ (13 ≤ b ∧ b < 13 + k)) ∧ 0 ≤ j ∧ j < 7 then -9 else μ b j
theorem c6_freeAll (hn : 19 ≤ n) {K : zM → Prop} (hK : K (frm μ 5)) : mX6_freeAllLinks G n μ K := by
  have key : ∀ (f : Nat) (k : Int), 0 ≤ k → k + f = 5 → pX6_freeAllLinks G n K 2 [some (Rv G 1), some (Iv k)] [] (frm μ k) := by
    intro f
    induction f with
    | zero =>
      intro k e0 e1
      have : k = 5 := by omega
      subst this
      exact bX6_freeAllLinks_2 hn ⟨fun _ => hK, fun z => absurd (by decide) z⟩
    | succ f ih =>
      intro k e0 e1
      have hz : zk (7 + k) = 0 ∧ zk (13 + k) = 0 ∧ (zn (7 + k) : Int) = 7 ∧ (zn (13 + k) : Int) = 7 := by
        have : k = 0 ∨ k = 1 ∨ k = 2 ∨ k = 3 ∨ k = 4 := by omega
        rcases this with rfl | rfl | rfl | rfl | rfl <;> decide
      refine bX6_freeAllLinks_2 hn ?_
      rw [show (6 : Int) + 1 = 7 from rfl, show (12 : Int) + 1 = 13 from rfl]
      simp (disch := omega) only [wr_of]
      refine ⟨fun z => by omega, fun _ => ⟨by omega, c_fill ⟨by omega, by omega, hz.1⟩ ⟨by omega, c_fill ⟨by omega, by omega, hz.2.1⟩ ?_⟩⟩⟩
      rw [hz.2.2.1, hz.2.2.2]
      have : zfill (zfill (frm μ k) (7 + k) 7 (-9)) (13 + k) 7 (-9) = frm μ (k + 1) := by
        funext b j
        unfold zfill frm
        by_cases c0 : 0 ≤ j ∧ j < 7
        · by_cases c1 : b = 13 + k
          · rw [if_pos ⟨c1, c0⟩, if_pos ⟨by omega, c0⟩]
          · rw [if_neg (fun q => c1 q.1)]
            by_cases c2 : b = 7 + k
            · rw [if_pos ⟨c2, c0⟩, if_pos ⟨by omega, c0⟩]
            · rw [if_neg (fun q => c2 q.1)]
              by_cases c3 : 7 ≤ b ∧ b < 7 + k ∨ 13 ≤ b ∧ b < 13 + k
              · rw [if_pos ⟨c3, c0⟩, if_pos ⟨by omega, c0⟩]
              · rw [if_neg (fun q => c3 q.1), if_neg (by omega)]
        · rw [if_neg (fun q => c0 q.2), if_neg (fun q => c0 q.2), if_neg (fun q => c0 q.2), if_neg (fun q => c0 q.2)]
      rw [this]
      exact ih (k + 1) (by omega) (by omega)
  have h0 : frm μ 0 = μ := by
    funext b j
    unfold frm
    rw [if_neg (by omega)]
  have := key 5 0 (by omega) (by omega)
  rw [h0] at this
  exact eX6_freeAllLinks hn this
def fgm (μ : zM) : zM := frm (zfill (zfill (zfill (zu μ 1 3 0) 2 20 (-9)) 3 20 (-9)) 4 20 (-9)) 5
theorem c6_forget (hn : 19 ≤ n) {K : zM → Prop} (hK : K (fgm μ)) : mX6_forgetCalls G n μ K := by
  refine eX6_forgetCalls hn (fun μ1 e1 => c_fill ⟨by decide, by omega, by decide⟩ (c_fill ⟨by decide, by omega, by decide⟩ (c_fill ⟨by decide, by omega, by decide⟩ (c6_freeAll hn ?_))))
  rw [e1]
  exact hK
theorem fgm_pts : (∀ j, j ≠ 3 → fgm μ 1 j = μ 1 j) ∧ fgm μ 1 3 = 0 ∧ (∀ i, 0 ≤ i → i < 20 → fgm μ 2 i = -9 ∧ fgm μ 3 i = -9 ∧ fgm μ 4 i = -9) ∧ (∀ s a, 0 ≤ s → s < 5 → 0 ≤ a → a < 7 → fgm μ (7 + s) a = -9 ∧ fgm μ (13 + s) a = -9) ∧ (∀ b j, b < 1 ∨ 17 < b → fgm μ b j = μ b j) := by
  refine ⟨fun j hj => ?_, ?_, fun i h0 h1 => ⟨?_, ?_, ?_⟩, fun s a s0 s1 a0 a1 => ⟨?_, ?_⟩, fun b j hb => ?_⟩
  all_goals unfold fgm frm
  · rw [if_neg (by omega)]; unfold zfill zu; repeat rw [if_neg (by omega)]
  · rfl
  · rw [if_neg (by omega)]; unfold zfill
    rw [if_neg (by omega), if_neg (by omega), if_pos ⟨rfl, h0, h1⟩]
  · rw [if_neg (by omega)]; unfold zfill
    rw [if_neg (by omega), if_pos ⟨rfl, h0, h1⟩]
  · rw [if_neg (by omega)]; unfold zfill
    rw [if_pos ⟨rfl, h0, h1⟩]
  · rw [if_pos (by omega)]
  · rw [if_pos (by omega)]
  · rw [if_neg (by omega)]; unfold zfill zu; repeat rw [if_neg (by omega)]
theorem cntC_0 {f : Int → Int} (k : Nat) (h : ∀ j : Int, 0 ≤ j → j < k → f j = 0) : cntC f k = 0 := by
  induction k with
  | zero => rfl
  | succ k ih => simp only [cntC]; rw [ih (fun j a b => h j a (by omega)), h k (by omega) (by omega)]; rfl
theorem I1_new (hg : Gd μ) (h1 : μ 1 3 = 0) (h2 : ∀ i, 0 ≤ i → i < 20 → μ 2 i = -9 ∧ μ 3 i = -9 ∧ μ 4 i = -9) (h3 : ∀ i, 0 ≤ i → i < 20 → μ 128 i = 0) (h4 : ∀ s a, 0 ≤ s → s < 5 → 0 ≤ a → a < 7 → μ (7 + s) a = -9 ∧ μ (13 + s) a = -9) : I1 μ :=
  ⟨hg, fun i a b => Or.inl ⟨(h2 i a b).1, h3 i a b, (h2 i a b).2.2⟩, fun i a b => Or.inl (h2 i a b).2.1, fun s a q1 q2 q3 q4 => Or.inl (h4 s a q1 q2 q3 q4).1, fun s a q1 q2 q3 q4 => Or.inl (h4 s a q1 q2 q3 q4).2, by rw [h1, cntC_0 20 h3]⟩
theorem c8_net (hn : 154 ≤ n) {K : Int → zM → Prop} (hK : K (μ 127 2 * μ 127 3) (zfill μ 128 20 0)) : pX8_net G n K 49 [some (Rv G 127), none, none, none, some (Iv 0)] [] μ := by
  have key : ∀ (f : Nat) (k : Int), 0 ≤ k → k + f = 20 → pX8_net G n K 49 [some (Rv G 127), none, none, none, some (Iv k)] [] (zfill μ 128 k 0) := by
    intro f
    induction f with
    | zero =>
      intro k e0 e1
      have : k = 20 := by omega
      subst this
      exact bX8_net_49 hn ⟨fun _ => eX8_lines hn hK, fun z => absurd (by decide) z⟩
    | succ f ih =>
      intro k e0 e1
      refine bX8_net_49 hn ?_
      simp (disch := omega) only [wr_of]
      refine ⟨fun z => by omega, fun _ => ⟨by omega, fun μ5 e5 => ?_⟩⟩
      have := ih (k + 1) (by omega) (by omega)
      rw [e5]
      have q : zu (zfill μ 128 k 0) 128 k 0 = zfill μ 128 (k + 1) 0 := by
        funext b j
        unfold zu zfill
        by_cases c : b = 128
        · by_cases c1 : j = k
          · rw [if_pos ⟨c, c1⟩, if_pos (by omega)]
          · rw [if_neg (fun q => c1 q.2)]
            by_cases c2 : 0 ≤ j ∧ j < k
            · rw [if_pos ⟨c, c2⟩, if_pos (by omega)]
            · rw [if_neg (fun q => c2 q.2), if_neg (by omega)]
        · rw [if_neg (fun q => c q.1), if_neg (fun q => c q.1), if_neg (fun q => c q.1)]
      rw [q]; exact this
  have h0 : zfill μ 128 0 0 = μ := by
    funext b j
    unfold zfill
    rw [if_neg (by omega)]
  have := key 20 0 (by omega) (by omega)
  rw [h0] at this
  exact this
theorem t_net (hn : 154 ≤ n) (h : I1 μ) {r e m : Int} (hr : R32 r) (he : R32 e) (hm : R32 m) : mX7_net G n r e m μ (fun a μ1 => mX8_net G n r e m μ1 (fun b μ2 => a = b ∧ I1 μ2 ∧ Fz 1 μ μ2)) := by
  obtain ⟨r1, r2⟩ := hr
  obtain ⟨e1, e2⟩ := he
  obtain ⟨m1, m2⟩ := hm
  have m8 : ∀ (a : Int) (μ1 : zM), (¬ ((1 ≤ r ∧ r ≤ 5) ∧ (1 ≤ e ∧ e ≤ 4) ∧ (1 ≤ m ∧ m ≤ 7)) → a = -2 ∧ μ1 = μ) → ((1 ≤ r ∧ r ≤ 5) ∧ (1 ≤ e ∧ e ≤ 4) ∧ (1 ≤ m ∧ m ≤ 7) → a = r * e ∧ μ1 = fgm (zu (zu (zu μ 1 0 r) 1 1 e) 1 2 m)) → mX8_net G n r e m μ1 (fun b μ2 => a = b ∧ I1 μ2 ∧ Fz 1 μ μ2) := by
    intro a μ1 h1 h2
    refine eX8_net hn (c8_within hn ?_)
    simp (disch := omega) only [wr_of, ite_b0, Classical.not_not]
    refine ⟨fun z => ?_, fun z => c8_within hn ?_⟩
    · obtain ⟨q1, q2⟩ := h1 (fun q => z q.1)
      exact ⟨q1, q2 ▸ h, q2 ▸ Fz.rf⟩
    · simp (disch := omega) only [wr_of, ite_b0, Classical.not_not]
      refine ⟨fun z2 => ?_, fun z2 => c8_within hn ?_⟩
      · obtain ⟨q1, q2⟩ := h1 (fun q => z2 q.2.1)
        exact ⟨q1, q2 ▸ h, q2 ▸ Fz.rf⟩
      · simp (disch := omega) only [wr_of, ite_b0, Classical.not_not]
        refine ⟨fun z3 μ10 e10 μ11 e11 μ12 e12 => c8_net hn ?_, fun z3 => ?_⟩
        · obtain ⟨q1, q2⟩ := h2 ⟨z, z2, z3⟩
          have p := fgm_pts (μ := zu (zu (zu μ 1 0 r) 1 1 e) 1 2 m)
          have w : ∀ b j, b ≠ 127 → μ12 b j = μ1 b j := fun b j hb => by rw [e12, zu_na hb, e11, zu_na hb, e10, zu_na hb]
          have w2 : μ12 127 2 = r := by rw [e12, e11, e10]; rfl
          have w3 : μ12 127 3 = e := by rw [e12, e11, e10]; rfl
          have w4 : μ12 127 4 = m := by rw [e12, e11, e10]; rfl
          have v : ∀ b j, b ≠ 128 → zfill μ12 128 20 0 b j = μ12 b j := fun b j hb => by unfold zfill; rw [if_neg (fun q => hb q.1)]
          have u0 : μ1 1 0 = r := by rw [q2, p.1 0 (by decide)]; rfl
          have u1 : μ1 1 1 = e := by rw [q2, p.1 1 (by decide)]; rfl
          have u2 : μ1 1 2 = m := by rw [q2, p.1 2 (by decide)]; rfl
          refine ⟨by rw [w2, w3, q1], I1_new ?_ ?_ ?_ ?_ ?_, ?_⟩
          · unfold Gd
            rw [v 1 0 (by decide), v 1 1 (by decide), v 1 2 (by decide), v 127 2 (by decide), v 127 3 (by decide), v 127 4 (by decide), w 1 0 (by decide), w 1 1 (by decide), w 1 2 (by decide), w2, w3, w4, u0, u1, u2]
            exact ⟨⟨rfl, z⟩, ⟨rfl, z2⟩, rfl, z3⟩
          · rw [v 1 3 (by decide), w 1 3 (by decide), q2]; exact p.2.1
          · intro i a b
            rw [v 2 i (by decide), v 3 i (by decide), v 4 i (by decide), w 2 i (by decide), w 3 i (by decide), w 4 i (by decide), q2]
            exact p.2.2.1 i a b
          · intro i a b
            unfold zfill
            rw [if_pos ⟨rfl, a, b⟩]
          · intro s a s0 s1 a0 a1
            rw [v _ a (by omega), v _ a (by omega), w _ a (by omega), w _ a (by omega), q2]
            exact p.2.2.2.1 s a s0 s1 a0 a1
          · intro b j hz
            have hb1 : b < 1 ∨ 18 < b := by
              by_cases q : b < 1
              · exact Or.inl q
              · by_cases q2 : 18 < b
                · exact Or.inr q2
                · refine absurd ?_ hz
                  unfold zone
                  rw [if_neg (by omega), if_pos (by omega)]
            have hb2 : b ≠ 128 := fun q => hz (by rw [q]; rfl)
            have g1 : μ1 b j = μ b j := by
              rw [q2, p.2.2.2.2 b j (by omega), zu_na (by omega), zu_na (by omega), zu_na (by omega)]
            rw [v b j hb2, e12, e11, e10]
            by_cases hb3 : b = 127
            · subst hb3
              have : ¬ (j = 2) ∧ ¬ (j = 3) ∧ ¬ (j = 4) := ⟨fun q => hz (by rw [q]; rfl), fun q => hz (by rw [q]; rfl), fun q => hz (by rw [q]; rfl)⟩
              unfold zu
              rw [if_neg (fun q => this.2.2 q.2), if_neg (fun q => this.2.1 q.2), if_neg (fun q => this.1 q.2), g1]
            · rw [zu_na hb3, zu_na hb3, zu_na hb3, g1]
        · obtain ⟨q1, q2⟩ := h1 (fun q => z3 q.2.2)
          exact ⟨q1, q2 ▸ h, q2 ▸ Fz.rf⟩
  refine eX7_net hn (c_within hn ?_)
  simp (disch := omega) only [wr_of, ite_b0, Classical.not_not]
  refine ⟨fun z => m8 _ _ (fun _ => ⟨rfl, rfl⟩) (fun q => absurd q.1 z), fun z => c_within hn ?_⟩
  simp (disch := omega) only [wr_of, ite_b0, Classical.not_not]
  refine ⟨fun z2 => m8 _ _ (fun _ => ⟨rfl, rfl⟩) (fun q => absurd q.2.1 z2), fun z2 => c_within hn ?_⟩
  simp (disch := omega) only [wr_of, ite_b0, Classical.not_not]
  refine ⟨fun z3 => eX6_build (by omega) (fun μ1 e1 μ2 e2 μ3 e3 => c6_forget (by omega) (eX6_inlets (by omega) (m8 _ _ (fun q => absurd ⟨z, z2, z3⟩ q) (fun _ => ⟨?_, ?_⟩)))), fun z3 => m8 _ _ (fun _ => ⟨rfl, rfl⟩) (fun q => absurd q.2.2 z3)⟩
  · rw [fgm_pts.1 0 (by decide), fgm_pts.1 1 (by decide), e3, e2, e1]; rfl
  · rw [e3, e2, e1]
end T20
