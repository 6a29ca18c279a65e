/-! SHEETS: class and model side by side -/
section SP
variable {G : zG} {n : Nat} {μ : zM}
theorem I5.fz {μ' : zM} (h : I5 μ) (hz : ∀ a i, zone a i = 5 → μ' a i = μ a i) : I5 μ' := by
  have e1 : ∀ i, μ' 0 i = μ 0 i := fun i => hz 0 i (by simp [zone])
  have e2 : μ' 127 0 = μ 127 0 := hz _ _ (by simp [zone])
  have e3 : ∀ i, μ' 119 i = μ 119 i := fun i => hz _ i (by simp [zone])
  have e4 : ∀ i, μ' 120 i = μ 120 i := fun i => hz _ i (by simp [zone])
  have e5 : ∀ i, μ' 137 i = μ 137 i := fun i => hz _ i (by simp [zone])
  have e6 : ∀ i, μ' 138 i = μ 138 i := fun i => hz _ i (by simp [zone])
  have e7 : ∀ i, μ' 139 i = μ 139 i := fun i => hz _ i (by simp [zone])
  have e8 : ∀ k i, 0 ≤ k → k < 4 → μ' (122 + k) i = μ (122 + k) i := fun k i h0 h1 => hz _ i (by unfold zone; rw [if_neg (by omega), if_neg (by omega), if_neg (by omega), if_neg (by omega), if_neg (by omega), if_pos (by omega)])
  refine ⟨by rw [e1, e2]; exact h.1, fun k h0 h1 => ⟨?_, fun i g0 g1 => ?_⟩⟩
  · have := (h.2 k h0 h1).1
    unfold Lane at *
    rw [e3, e4, e5, e6]; exact this
  · have := (h.2 k h0 h1).2 i g0 g1
    unfold Cells at *
    rw [e8 k i h0 h1, e7, e3]; exact this
/-- faults set alike -/
theorem I5.fault (h : I5 μ) {v : Int} (hv : R32 v) : I5 (zu (zu μ 0 8 v) 127 0 v) := by
  refine ⟨by simp [zu]; exact hv, fun k h0 h1 => ?_⟩
  have h2 := h.2 k h0 h1
  refine ⟨?_, fun i g0 g1 => ?_⟩
  · have := h2.1
    unfold Lane at *
    simpa [zu] using this
  · have := h2.2 i g0 g1
    unfold Cells at *
    have a1 : ¬ ((122 : Int) + k = 127) := by omega
    have a2 : ¬ ((122 : Int) + k = 0) := by omega
    simpa [zu, a1, a2] using this
theorem t_fault (hn : 154 ≤ n) (h : I5 μ) : mX7_fault G n μ (fun a μ1 => mX8_fault G n μ1 (fun b μ2 => a = b ∧ I5 μ2 ∧ Fz 5 μ μ2)) :=
  eX7_fault hn (eX8_fault hn ⟨h.1.1, h, Fz.rf⟩)
theorem t_lose (hn : 154 ≤ n) (h : I5 μ) {k : Int} (hk : R32 k) : mX7_lose G n k μ (fun a μ1 => mX8_lose G n k μ1 (fun b μ2 => a = b ∧ I5 μ2 ∧ Fz 5 μ μ2)) := by
  refine eX7_lose hn (c_within hn ?_)
  by_cases h0 : 0 ≤ k ∧ k ≤ 3
  · have hL := h.2 k h0.1 (by omega)
    have hr := hL.1.r
    have hLn := hL.1
    unfold Lane at hLn
    have key : ∀ b : Int, b = (if μ 119 k = -1 then 0 else 1) → mX8_lose G n k (zu (zu μ 119 k (-1)) 120 k 0) (fun b' μ2 => b = b' ∧ I5 μ2 ∧ Fz 5 μ μ2) := by
      intro b hb
      have hI : I5 (zu (zu (zu μ 119 k (-1)) 120 k 0) 137 k (-9)) := by
        refine ⟨by simpa [zu] using h.1, fun k' g0 g1 => ⟨?_, fun i q0 q1 => ?_⟩⟩
        · have := (h.2 k' g0 g1).1
          unfold Lane at *
          by_cases e : k' = k
          · left; simp [zu, e]
          · simpa [zu, e] using this
        · have := (h.2 k' g0 g1).2 i q0 q1
          unfold Cells at *
          have a1 : ¬ ((122 : Int) + k' = 119) := by omega
          have a2 : ¬ ((122 : Int) + k' = 120) := by omega
          have a3 : ¬ ((122 : Int) + k' = 137) := by omega
          by_cases e : k' = k
          · subst e
            simp only [zu, a1, a2, a3, false_and, if_false]
            refine ⟨by simpa using this.1, ?_⟩
            have := this.2.2.2
            simp [fitsL]; exact this
          · simpa [zu, a1, a2, a3, e] using this
      have hF : Fz 5 μ (zu (zu (zu μ 119 k (-1)) 120 k 0) 137 k (-9)) := ((Fz.rf.zu (by simp [zone])).zu (by simp [zone])).zu (by simp [zone])
      refine eX8_lose hn (c8_isSheet hn ?_)
      simp (disch := omega) only [wr_of, ite_b0, Classical.not_not]
      have e1 : zu (zu μ 119 k (-1)) 120 k 0 137 k = μ 137 k := by simp [zu]
      rw [e1]
      simp (disch := omega) only [wr_of]
      refine ⟨fun _ => ⟨by omega, fun c => ⟨by omega, fun μ' e => ?_⟩, fun c => ⟨by omega, fun μ' e => ?_⟩⟩, fun c => absurd (by omega) c⟩
      · rw [e]; exact ⟨by rw [hb, if_neg (by omega)], hI, hF⟩
      · rw [e]; exact ⟨by rw [hb, if_pos (by omega)], hI, hF⟩
    simp (disch := omega) only [wr_of, ite_b0, Classical.not_not]
    refine ⟨fun _ => eX5_clear (by omega) ?_, fun c => absurd (by omega) c⟩
    simp (disch := omega) only [wr_of]
    refine ⟨by omega, fun c => ⟨by omega, fun μ4 e4 => ⟨by omega, fun μ6 e6 => ?_⟩⟩, fun c => ⟨by omega, fun μ4 e4 => ⟨by omega, fun μ6 e6 => ?_⟩⟩⟩
    · subst e4; subst e6
      exact ⟨fun _ => key 0 (by rw [if_pos c]), fun q => absurd trivial (by simpa using q)⟩
    · subst e4; subst e6
      exact ⟨fun q => absurd q (by decide), fun _ => key 1 (by rw [if_neg c])⟩
  · simp (disch := omega) only [wr_of, ite_b0, Classical.not_not]
    refine ⟨fun c => absurd c h0, fun _ => eX8_lose hn (c8_isSheet hn ?_)⟩
    simp (disch := omega) only [wr_of, ite_b0, Classical.not_not]
    exact ⟨fun c => absurd (by omega) h0, fun _ => ⟨trivial, h, Fz.rf⟩⟩
/-- the cells of sheet k become v at i, in both -/
theorem I5.put (h : I5 μ) {k i v : Int} (hk : 0 ≤ k ∧ k < 4) (hi : 0 ≤ i ∧ i < 60) (hv : fitsL (μ 119 k) v) : I5 (zu (zu μ (122 + k) i v) 139 (60 * k + i) v) := by
  have b1 : ¬ ((0 : Int) = 122 + k) := by omega
  have b2 : ¬ ((127 : Int) = 122 + k) := by omega
  have b3 : ¬ ((119 : Int) = 122 + k) := by omega
  have b4 : ¬ ((120 : Int) = 122 + k) := by omega
  have b5 : ¬ ((137 : Int) = 122 + k) := by omega
  have b6 : ¬ ((138 : Int) = 122 + k) := by omega
  have b7 : ¬ ((139 : Int) = 122 + k) := by omega
  refine ⟨by simpa [zu, b1, b2] using h.1, fun k' g0 g1 => ⟨?_, fun j q0 q1 => ?_⟩⟩
  · have := (h.2 k' g0 g1).1
    unfold Lane at *
    simpa [zu, b3, b4, b5, b6] using this
  · have := (h.2 k' g0 g1).2 j q0 q1
    unfold Cells at *
    have a1 : ¬ ((122 : Int) + k' = 139) := by omega
    by_cases e : k' = k ∧ j = i
    · obtain ⟨rfl, rfl⟩ := e
      simp [zu, a1, b3]
      exact hv
    · have c1 : ¬ ((122 : Int) + k' = 122 + k ∧ j = i) := by omega
      have c2 : ¬ (60 * k' + j = 60 * k + i) := by omega
      simp only [zu, a1, b3, b7, c1, c2, false_and, and_false, if_false]
      simpa using this
theorem zone_cell {k i : Int} (hk : 0 ≤ k ∧ k < 4) : zone (122 + k) i = 5 := by unfold zone; rw [if_neg (by omega), if_neg (by omega), if_neg (by omega), if_neg (by omega), if_neg (by omega), if_pos (by omega)]
theorem zu_comm {a i v a' i' v' : Int} (h : ¬ (a = a' ∧ i = i')) : zu (zu μ a i v) a' i' v' = zu (zu μ a' i' v') a i v := by
  funext x y
  unfold zu
  by_cases h1 : x = a ∧ y = i
  · by_cases h2 : x = a' ∧ y = i'
    · exact absurd ⟨h1.1.symm.trans h2.1, h1.2.symm.trans h2.2⟩ h
    · simp [h1, h2]; intro q1 q2; exact absurd ⟨q1, q2⟩ h
  · simp [h1]
def pcode (la no len i : Int) : Int := if la = no then 1 else if 0 ≤ i ∧ i ≤ len - 1 then 0 else 3
theorem c7_put (hn : 154 ≤ n) {k i v : Int} {K : Int → zM → Prop} (hk : 0 ≤ k ∧ k ≤ 3) (hi : R32 i) (h1 : R32 (μ 119 k)) (h2 : μ 119 k ≠ -1 → 0 ≤ μ 120 k ∧ μ 120 k ≤ 60) {r : Int} (hr : r = pcode (μ 119 k) (-1) (μ 120 k) i)
    (h : K (if r = 0 then 1 else -10 - r) (if r = 0 then zu (zu μ 0 8 0) (122 + k) i (zcut (μ 119 k) v) else zu (zu μ 0 8 0) 0 8 r)) : mX7_put G n k i v μ K := by
  refine eX7_put hn (fun μ1 e1 => c_within hn ?_)
  have l1 : μ1 119 k = μ 119 k := by rw [e1]; simp [zu]
  have l2 : μ1 120 k = μ 120 k := by rw [e1]; simp [zu]
  rw [← e1] at h
  simp (disch := omega) only [wr_of, ite_b0, Classical.not_not]
  refine ⟨fun _ => ⟨by omega, ?_⟩, fun c => absurd hk c⟩
  rw [l1]
  refine c5_foc hn (by omega) (by rw [l1]; exact h1) h1 hi (fun q => ?_) ?_
  · rw [l1] at q
    have := h2 q
    rw [l2]; constructor <;> omega
  · have e2 : fcd (μ1 119 k) (-1) (μ 119 k) (μ1 120 k) i 1 = r := by
      rw [l1, l2, hr]; simp [fcd, pcode]
    rw [e2]
    have hr3 : r = 0 ∨ r = 1 ∨ r = 3 := by
      rw [hr]; unfold pcode
      split
      · exact Or.inr (Or.inl rfl)
      · split
        · exact Or.inl rfl
        · exact Or.inr (Or.inr rfl)
    rw [wr_of (by omega) (by omega)]
    refine ⟨fun c => ?_, fun c => eX7_faulted hn (fun μ2 q => ?_)⟩
    · rw [if_pos c, if_pos c] at h
      have hi2 : 0 ≤ i ∧ i < 60 := by
        rw [c] at hr
        unfold pcode at hr
        split at hr
        · omega
        · rename_i q1
          have := h2 q1
          split at hr <;> omega
      refine c5_change hn (by omega) hi2 (by rw [l1]; exact h1) ?_
      rw [l1]; exact h
    · rw [if_neg c, if_neg c] at h
      rw [q]; exact h
theorem c8_put (hn : 154 ≤ n) {k i v : Int} {K : Int → zM → Prop} (hk : 0 ≤ k ∧ k ≤ 3) (hi : R32 i) (h1 : R32 (μ 137 k)) (h2 : μ 137 k ≠ -9 → 0 ≤ μ 138 k ∧ μ 138 k ≤ 60) {r : Int} (hr : r = pcode (μ 137 k) (-9) (μ 138 k) i)
    (h : K (if r = 0 then 1 else -10 - r) (if r = 0 then zu (zu μ 127 0 0) 139 (60 * k + i) (zcut (μ 137 k) v) else zu (zu μ 127 0 0) 127 0 r)) : mX8_put G n k i v μ K := by
  refine eX8_put hn (fun μ1 e1 => c8_isSheet hn ?_)
  have l1 : μ1 137 k = μ 137 k := by rw [e1]; simp [zu]
  have l2 : μ1 138 k = μ 138 k := by rw [e1]; simp [zu]
  rw [← e1] at h
  simp (disch := omega) only [wr_of, ite_b0, Classical.not_not]
  refine ⟨fun _ => ⟨by omega, ?_⟩, fun c => absurd hk c⟩
  rw [l1, l2]
  unfold pcode at hr
  refine ⟨fun c => ⟨by omega, c8_within hn ?_⟩, fun c => eX8_fails hn (fun μ2 q => ?_)⟩
  · have := h2 c
    rw [l1]
    simp (disch := omega) only [wr_of, ite_b0, Classical.not_not]
    rw [if_neg c] at hr
    refine ⟨fun c2 => ⟨by omega, fun c3 => ⟨by omega, fun c4 => ?_, fun c4 => ?_⟩, fun c3 => ?_⟩, fun c2 => eX8_fails hn (fun μ2 q => ?_)⟩
    · rw [if_pos (by omega)] at hr
      subst hr
      simp (disch := omega) only [wr_of]
      refine ⟨by omega, fun μ2 q => ?_⟩
      rw [q]; simpa [zcut, c3, c4] using h
    · rw [if_pos (by omega)] at hr
      subst hr
      simp (disch := omega) only [wr_of]
      refine ⟨by omega, fun μ2 q => ?_⟩
      rw [q]; simpa [zcut, c3, c4] using h
    · rw [if_pos (by omega)] at hr
      subst hr
      simp (disch := omega) only [wr_of]
      refine ⟨by omega, fun μ2 q => ?_⟩
      rw [q]; simpa [zcut, c3] using h
    · rw [if_neg (by omega)] at hr
      subst hr
      rw [q]; exact h
  · rw [if_pos c] at hr
    subst hr
    rw [q]; exact h
theorem Lane.pc {k i : Int} (h : Lane μ k) : pcode (μ 119 k) (-1) (μ 120 k) i = pcode (μ 137 k) (-9) (μ 138 k) i := by
  unfold Lane at h
  unfold pcode
  rcases h with ⟨h1, h2⟩ | ⟨h1, h2, h3, h4, h5⟩
  · rw [if_pos h1, if_pos h2]
  · have q1 : ¬ μ 119 k = -1 := by omega
    have q2 : ¬ μ 119 k = -9 := by omega
    rw [h3, h4, if_neg q1, if_neg q2]
theorem t_put (hn : 154 ≤ n) (h : I5 μ) {k i v : Int} (hk : R32 k) (hi : R32 i) (hv : R32 v) : mX7_put G n k i v μ (fun a μ1 => mX8_put G n k i v μ1 (fun b μ2 => a = b ∧ I5 μ2 ∧ Fz 5 μ μ2)) := by
  by_cases h0 : 0 ≤ k ∧ k ≤ 3
  · have hL := h.2 k h0.1 (by omega)
    have hr := hL.1.r
    refine c7_put hn h0 hi hr.1 hr.2.2.2 rfl ?_
    obtain ⟨r, e⟩ : ∃ r, r = pcode (μ 119 k) (-1) (μ 120 k) i := ⟨_, rfl⟩
    rw [← e]
    have hr3 : r = 0 ∨ r = 1 ∨ r = 3 := by
      rw [e]; unfold pcode
      split
      · exact Or.inr (Or.inl rfl)
      · split
        · exact Or.inl rfl
        · exact Or.inr (Or.inr rfl)
    by_cases c : r = 0
    · rw [if_pos c, if_pos c]
      have hLn := hL.1
      unfold Lane at hLn
      have hi2 : 0 ≤ i ∧ i < 60 ∧ μ 119 k ≠ -1 := by
        rw [c] at e
        unfold pcode at e
        split at e
        · omega
        · split at e <;> omega
      have n1 : ¬ ((137 : Int) = 122 + k) := by omega
      have n2 : ¬ ((138 : Int) = 122 + k) := by omega
      have n3 : ¬ ((127 : Int) = 122 + k) := by omega
      have a1 : zu (zu μ 0 8 0) (122 + k) i (zcut (μ 119 k) v) 137 k = μ 137 k := by simp [zu, n1]
      have a2 : zu (zu μ 0 8 0) (122 + k) i (zcut (μ 119 k) v) 138 k = μ 138 k := by simp [zu, n2]
      refine c8_put hn h0 hi (by rw [a1]; exact hr.2.1) (by rw [a1, a2]; exact hr.2.2.1) (r := r) (by rw [a1, a2, e]; exact hL.1.pc) ?_
      rw [if_pos c, if_pos c, a1, show μ 137 k = μ 119 k by omega]
      refine ⟨rfl, ?_, ?_⟩
      · rw [zu_comm (a := 122 + k) (a' := 127) (by omega)]
        refine I5.put (h.fault (by decide)) (by omega) ⟨hi2.1, hi2.2.1⟩ ?_
        have : zu (zu μ 0 8 0) 127 0 0 119 k = μ 119 k := by simp [zu]
        rw [this]; exact zcut_fits hv
      · exact (((Fz.rf.zu (by simp [zone])).zu (zone_cell (by omega))).zu (by simp [zone])).zu (by simp [zone])
    · rw [if_neg c, if_neg c]
      have a1 : zu (zu μ 0 8 0) 0 8 r 137 k = μ 137 k := by simp [zu]
      have a2 : zu (zu μ 0 8 0) 0 8 r 138 k = μ 138 k := by simp [zu]
      refine c8_put hn h0 hi (by rw [a1]; exact hr.2.1) (by rw [a1, a2]; exact hr.2.2.1) (r := r) (by rw [a1, a2, e]; exact hL.1.pc) ?_
      rw [if_neg c, if_neg c]
      refine ⟨rfl, ?_, ?_⟩
      · have e9 : zu (zu (zu (zu μ 0 8 0) 0 8 r) 127 0 0) 127 0 r = zu (zu μ 0 8 r) 127 0 r := by
          funext x y; unfold zu
          by_cases q1 : x = 127 ∧ y = 0
          · simp [q1]
          · by_cases q2 : x = 0 ∧ y = 8
            · simp [q1, q2]
            · simp [q1, q2]
        rw [e9]
        exact h.fault (by constructor <;> omega)
      · exact (((Fz.rf.zu (by simp [zone])).zu (by simp [zone])).zu (by simp [zone])).zu (by simp [zone])
  · refine eX7_put hn (fun μ1 e1 => c_within hn ?_)
    simp (disch := omega) only [wr_of, ite_b0, Classical.not_not]
    refine ⟨fun c => absurd c h0, fun _ => eX8_put hn (fun μ2 e2 => c8_isSheet hn ?_)⟩
    simp (disch := omega) only [wr_of, ite_b0, Classical.not_not]
    refine ⟨fun c => absurd (by omega) h0, fun _ => ⟨trivial, ?_, ?_⟩⟩
    · rw [e2, e1]; exact h.fault (by decide)
    · rw [e2, e1]; exact (Fz.rf.zu (by simp [zone])).zu (by simp [zone])
end SP
