section SQ
variable {G : zG} {n : Nat} {μ : zM}
theorem zu_zu {a i v w : Int} : zu (zu μ a i v) a i w = zu μ a i w := by
  funext x y; unfold zu
  split <;> simp_all
theorem fcd_r {la no l len i m : Int} : fcd la no l len i m = 0 ∨ fcd la no l len i m = 1 ∨ fcd la no l len i m = 2 ∨ fcd la no l len i m = 3 := by
  unfold fcd
  split
  · exact Or.inr (Or.inl rfl)
  · split
    · exact Or.inr (Or.inr (Or.inl rfl))
    · split
      · exact Or.inl rfl
      · exact Or.inr (Or.inr (Or.inr rfl))
theorem fcd_0 {la no l len i m : Int} (h : fcd la no l len i m = 0) : la ≠ no ∧ la = l ∧ 0 ≤ i ∧ i ≤ len - m := by
  unfold fcd at h
  split at h
  · omega
  · split at h
    · omega
    · split at h
      · rename_i a b c; exact ⟨a, by omega, c.1, c.2⟩
      · omega
theorem c7_cell (hn : 154 ≤ n) {k i l : Int} {K : Int → zM → Prop} (hk : 0 ≤ k ∧ k ≤ 3) (hl : 0 ≤ l ∧ l ≤ 2) (hi : R32 i) (h1 : R32 (μ 119 k)) (h2 : μ 119 k ≠ -1 → 0 ≤ μ 120 k ∧ μ 120 k ≤ 60) {r : Int} (hr : r = fcd (μ 119 k) (-1) l (μ 120 k) i 1) (hc : r = 0 → R32 (μ (122 + k) i))
    (h : K (if r = 0 then μ (122 + k) i else -9223372036854775808) (zu μ 0 8 r)) : mX7_cell G n k i l μ K := by
  refine eX7_cell hn (fun μ1 e1 => c_within hn ?_)
  have l1 : μ1 119 k = μ 119 k := by rw [e1]; simp [zu]
  have l2 : μ1 120 k = μ 120 k := by rw [e1]; simp [zu]
  simp (disch := omega) only [wr_of, ite_b0, Classical.not_not]
  refine ⟨fun c => absurd hk c, fun _ => c_within hn ?_⟩
  simp (disch := omega) only [wr_of, ite_b0, Classical.not_not]
  refine ⟨fun _ => c5_foc hn (by omega) (by rw [l1]; exact h1) (by constructor <;> omega) hi (fun q => ?_) ?_, fun c => absurd hl c⟩
  · rw [l1] at q
    have := h2 q
    rw [l2]; constructor <;> omega
  · rw [l1, l2, ← hr]
    intro μ2 e2
    rw [e1, zu_zu] at e2
    have e3 : μ2 0 8 = r := by rw [e2]; simp [zu]
    have hr4 : r = 0 ∨ r = 1 ∨ r = 2 ∨ r = 3 := by rw [hr]; exact fcd_r
    rw [e3, wr_of (by omega) (by omega)]
    refine ⟨fun c => ?_, fun c => ?_⟩
    · rw [if_neg c] at h; rw [e2]; exact h
    · rw [if_pos c] at h
      have h0 := fcd_0 (by rw [← hr]; exact c)
      have := h2 h0.1
      refine ⟨by omega, by omega, ?_⟩
      have a1 : ¬ ((122 : Int) + k = 0) := by omega
      have e5 : μ2 (121 + 1 + k) i = μ (122 + k) i := by
        rw [e2]; simp only [Int.reduceAdd]; simp [zu, a1]
      have := hc c
      rw [e5, wr_of (by omega) (by omega), e2]
      exact h
theorem c8_cell (hn : 154 ≤ n) {k i l : Int} {K : Int → zM → Prop} (hk : 0 ≤ k ∧ k ≤ 3) (hl : 0 ≤ l ∧ l ≤ 2) (hi : R32 i) (h1 : R32 (μ 137 k)) (h2 : μ 137 k ≠ -9 → 0 ≤ μ 138 k ∧ μ 138 k ≤ 60) {r : Int} (hr : r = fcd (μ 137 k) (-9) l (μ 138 k) i 1) (hc : r = 0 → R32 (μ 139 (60 * k + i)))
    (h : K (if r = 0 then μ 139 (60 * k + i) else -9223372036854775808) (zu μ 127 0 r)) : mX8_cell G n k i l μ K := by
  refine eX8_cell hn (fun μ1 e1 => c8_isSheet hn ?_)
  have l1 : μ1 137 k = μ 137 k := by rw [e1]; simp [zu]
  have l2 : μ1 138 k = μ 138 k := by rw [e1]; simp [zu]
  have l3 : ∀ j, μ1 139 j = μ 139 j := fun j => by rw [e1]; simp [zu]
  have e9 : ∀ v, zu μ1 127 0 v = zu μ 127 0 v := fun v => by rw [e1, zu_zu]
  simp (disch := omega) only [wr_of, ite_b0, Classical.not_not]
  refine ⟨fun c => absurd hk c, fun _ => c8_isLane hn ?_⟩
  simp (disch := omega) only [wr_of, ite_b0, Classical.not_not]
  refine ⟨fun _ => ⟨by omega, ?_⟩, fun c => absurd hl c⟩
  rw [l1, l2]
  unfold fcd at hr
  refine ⟨fun c => ⟨by omega, fun q => absurd c q, fun _ => eX8_fallsOut hn (fun μ2 q => ?_)⟩, fun c => ⟨by omega, fun c2 => ⟨by omega, fun _ => ⟨by omega, c8_within hn ?_⟩, fun q => absurd q c⟩, fun c2 => eX8_fallsOut hn (fun μ2 q => ?_)⟩⟩
  · rw [if_pos c] at hr
    subst hr
    rw [q, e9]; exact h
  · have := h2 c
    simp (disch := omega) only [wr_of, ite_b0, Classical.not_not]
    rw [if_neg c, if_neg (by omega)] at hr
    refine ⟨fun c3 => ?_, fun c3 => eX8_fallsOut hn (fun μ2 q => ?_)⟩
    · rw [if_pos (by omega)] at hr
      subst hr
      simp (disch := omega) only [wr_of]
      have := hc rfl
      rw [l3]
      refine ⟨by omega, ?_⟩
      rw [wr_of (by omega) (by omega), e1]
      exact h
    · rw [if_neg (by omega)] at hr
      subst hr
      rw [q, e9]; exact h
  · rw [if_neg c, if_pos c2] at hr
    subst hr
    rw [q, e9]; exact h
theorem t_cell (hn : 154 ≤ n) (h : I5 μ) {k i l : Int} (hk : R32 k) (hi : R32 i) (hl : R32 l) : mX7_cell G n k i l μ (fun a μ1 => mX8_cell G n k i l μ1 (fun b μ2 => a = b ∧ I5 μ2 ∧ Fz 5 μ μ2)) := by
  by_cases h0 : 0 ≤ k ∧ k ≤ 3
  · by_cases h1 : 0 ≤ l ∧ l ≤ 2
    · have hL := h.2 k h0.1 (by omega)
      have hr := hL.1.r
      have hr4 := fcd_r (la := μ 119 k) (no := -1) (l := l) (len := μ 120 k) (i := i) (m := 1)
      have hok : fcd (μ 119 k) (-1) l (μ 120 k) i 1 = 0 → 0 ≤ i ∧ i < 60 := fun q => by
        have q2 := fcd_0 q
        have := hr.2.2.2 q2.1
        omega
      refine c7_cell hn h0 h1 hi hr.1 hr.2.2.2 rfl (fun q => (hL.2 i (hok q).1 (hok q).2).2.2.2) ?_
      have hfc := hL.1.fc (i := i) (m := 1) h1
      generalize fcd (μ 119 k) (-1) l (μ 120 k) i 1 = r at hr4 hok hfc
      have a1 : zu μ 0 8 r 137 k = μ 137 k := by simp [zu]
      have a2 : zu μ 0 8 r 138 k = μ 138 k := by simp [zu]
      have a3 : ∀ j, zu μ 0 8 r 139 j = μ 139 j := fun j => by simp [zu]
      refine c8_cell hn h0 h1 hi (by rw [a1]; exact hr.2.1) (by rw [a1, a2]; exact hr.2.2.1) (r := r) (by rw [a1, a2]; exact hfc) (fun q => ?_) ?_
      · rw [a3, ← (hL.2 i (hok q).1 (hok q).2).1]
        exact (hL.2 i (hok q).1 (hok q).2).2.2.2
      · refine ⟨?_, h.fault (by constructor <;> omega), (Fz.rf.zu (by simp [zone])).zu (by simp [zone])⟩
        by_cases c : r = 0
        · rw [if_pos c, if_pos c, a3]; exact (hL.2 i (hok c).1 (hok c).2).1
        · rw [if_neg c, if_neg c]
    · refine eX7_cell hn (fun μ1 e1 => c_within hn ?_)
      simp (disch := omega) only [wr_of, ite_b0, Classical.not_not]
      refine ⟨fun c => absurd h0 c, fun _ => c_within hn ?_⟩
      simp (disch := omega) only [wr_of, ite_b0, Classical.not_not]
      refine ⟨fun c => absurd c h1, fun _ => eX8_cell hn (fun μ2 e2 => c8_isSheet hn ?_)⟩
      simp (disch := omega) only [wr_of, ite_b0, Classical.not_not]
      refine ⟨fun c => absurd h0 c, fun _ => c8_isLane hn ?_⟩
      simp (disch := omega) only [wr_of, ite_b0, Classical.not_not]
      refine ⟨fun c => absurd c h1, fun _ => ⟨trivial, ?_, ?_⟩⟩
      · rw [e2, e1]; exact h.fault (by decide)
      · rw [e2, e1]; exact (Fz.rf.zu (by simp [zone])).zu (by simp [zone])
  · refine eX7_cell hn (fun μ1 e1 => c_within hn ?_)
    simp (disch := omega) only [wr_of, ite_b0, Classical.not_not]
    refine ⟨fun _ => eX8_cell hn (fun μ2 e2 => c8_isSheet hn ?_), fun c => absurd c h0⟩
    simp (disch := omega) only [wr_of, ite_b0, Classical.not_not]
    refine ⟨fun _ => ⟨trivial, ?_, ?_⟩, fun c => absurd c h0⟩
    · rw [e2, e1]; exact h.fault (by decide)
    · rw [e2, e1]; exact (Fz.rf.zu (by simp [zone])).zu (by simp [zone])
end SQ
