section SR
variable {G : zG} {n : Nat} {μ : zM}
def zfillR (μ : zM) (a lo hi v : Int) : zM := fun a' j => if a' = a ∧ lo ≤ j ∧ j < hi then v else μ a' j
theorem c8_sheet_loop (hn : 154 ≤ n) {k : Int} (hk : 0 ≤ k ∧ k ≤ 3) {K : Int → zM → Prop} (h : K 1 (zfillR μ 139 (60 * k) (60 * k + 60) 0)) :
    ∀ (f : Nat) (j : Int) (μ' : zM), 0 ≤ j → j + f = 60 → μ' = zfillR μ 139 (60 * k) (60 * k + j) 0 → pX8_sheet G n K 57 [some (Rv G 127), some (Iv k), none, none, some (Iv j)] [] μ' := by
  intro f
  induction f with
  | zero =>
    intro j μ' h0 h1 e
    refine bX8_sheet_57 hn ⟨fun _ => ?_, fun c => absurd ?_ c⟩
    · rw [e, show j = 60 by omega]; exact h
    · rw [wr_of (by omega) (by omega), wr_of (by omega) (by omega)]; omega
  | succ f ih =>
    intro j μ' h0 h1 e
    refine bX8_sheet_57 hn ⟨fun c => ?_, fun c => ⟨?_, fun μ2 e2 => ih (j + 1) μ2 (by omega) (by omega) ?_⟩⟩
    · rw [wr_of (by omega) (by omega), wr_of (by omega) (by omega)] at c
      omega
    · rw [wr_of (by omega) (by omega)]; omega
    · rw [e2, e, wr_of (by omega) (by omega)]
      funext a i
      unfold zu zfillR
      by_cases q1 : a = 139
      · subst q1
        by_cases q2 : i = 60 * k + j
        · subst q2
          rw [if_pos ⟨rfl, rfl⟩, if_pos ⟨rfl, by omega, by omega⟩]
        · rw [if_neg (by omega)]
          by_cases q3 : 60 * k ≤ i ∧ i < 60 * k + j
          · rw [if_pos ⟨rfl, q3⟩, if_pos ⟨rfl, by omega, by omega⟩]
          · rw [if_neg (by omega), if_neg (by omega)]
      · simp [q1]
theorem I5.lay (h : I5 μ) {k l m : Int} (hk : 0 ≤ k ∧ k ≤ 3) (hl : 0 ≤ l ∧ l ≤ 2) (hm : 0 ≤ m ∧ m ≤ 60) : I5 (zfillR (zu (zu (zu (zfill (zu (zu (zu μ 0 8 0) 119 k l) 120 k m) (122 + k) 60 0) 127 0 0) 137 k l) 138 k m) 139 (60 * k) (60 * k + 60) 0) := by
  generalize hM : zfillR (zu (zu (zu (zfill (zu (zu (zu μ 0 8 0) 119 k l) 120 k m) (122 + k) 60 0) 127 0 0) 137 k l) 138 k m) 139 (60 * k) (60 * k + 60) 0 = M
  have n1 : ∀ x : Int, (x < 122 ∨ 126 ≤ x) → ¬ (x = 122 + k) := fun x hx => by omega
  have q1 : M 0 8 = 0 := by rw [← hM]; simp [zfillR, zu, zfill, n1 0 (by decide)]
  have q2 : M 127 0 = 0 := by rw [← hM]; simp [zfillR, zu, zfill]
  have q3 : ∀ j, M 119 j = if j = k then l else μ 119 j := fun j => by rw [← hM]; simp [zfillR, zu, zfill, n1 119 (by decide)]
  have q4 : ∀ j, M 120 j = if j = k then m else μ 120 j := fun j => by rw [← hM]; simp [zfillR, zu, zfill, n1 120 (by decide)]
  have q5 : ∀ j, M 137 j = if j = k then l else μ 137 j := fun j => by rw [← hM]; simp [zfillR, zu, zfill, n1 137 (by decide)]
  have q6 : ∀ j, M 138 j = if j = k then m else μ 138 j := fun j => by rw [← hM]; simp [zfillR, zu, zfill, n1 138 (by decide)]
  have q7 : ∀ k' j, 0 ≤ k' → k' < 4 → 0 ≤ j → j < 60 → M (122 + k') j = if k' = k then 0 else μ (122 + k') j := fun k' j a b c d => by
    have z1 : ¬ ((122 : Int) + k' = 139) := by omega
    have z2 : ¬ ((122 : Int) + k' = 138) := by omega
    have z3 : ¬ ((122 : Int) + k' = 137) := by omega
    have z4 : ¬ ((122 : Int) + k' = 127) := by omega
    have z5 : ¬ ((122 : Int) + k' = 120) := by omega
    have z6 : ¬ ((122 : Int) + k' = 119) := by omega
    have z7 : ¬ ((122 : Int) + k' = 0) := by omega
    rw [← hM]
    by_cases e : k' = k
    · subst e; simp [zfillR, zu, zfill, z1, z2, z3, z4, c, d]
    · have z8 : ¬ ((122 : Int) + k' = 122 + k) := by omega
      simp [zfillR, zu, zfill, z1, z2, z3, z4, z5, z6, z7, e]
  have q8 : ∀ k' j, 0 ≤ k' → k' < 4 → 0 ≤ j → j < 60 → M 139 (60 * k' + j) = if k' = k then 0 else μ 139 (60 * k' + j) := fun k' j a b c d => by
    rw [← hM]
    by_cases e : k' = k
    · subst e; simp [zfillR]; omega
    · have z8 : ¬ (60 * k ≤ 60 * k' + j ∧ 60 * k' + j < 60 * k + 60) := by omega
      simp [zfillR, zu, zfill, e, z8, n1 139 (by decide)]
  refine ⟨⟨by rw [q1, q2], by rw [q1]; decide⟩, fun k' g0 g1 => ⟨?_, fun j c d => ?_⟩⟩
  · have := (h.2 k' g0 g1).1
    unfold Lane at *
    rw [q3, q4, q5, q6]
    by_cases e : k' = k
    · simp only [e, if_true]
      exact Or.inr ⟨hl.1, hl.2, trivial, trivial, hm.1, hm.2⟩
    · simp only [e, if_false]; exact this
  · have := (h.2 k' g0 g1).2 j c d
    unfold Cells at *
    rw [q7 k' j g0 g1 c d, q8 k' j g0 g1 c d, q3]
    by_cases e : k' = k
    · simp only [e, if_true]
      exact ⟨trivial, by unfold fitsL; refine ⟨fun _ => by decide, fun _ => by decide, by decide⟩⟩
    · simp only [e, if_false]; exact this
theorem Fz.fill {z : Nat} {μ μ' : zM} {a N v : Int} (h : Fz z μ μ') (hz : ∀ i, zone a i = z) : Fz z μ (zfill μ' a N v) := fun a' i' q => by
  unfold zfill
  rw [if_neg, h a' i' q]
  rintro ⟨rfl, -⟩
  exact q (hz i')
theorem Fz.fillR {z : Nat} {μ μ' : zM} {a lo hi v : Int} (h : Fz z μ μ') (hz : ∀ i, zone a i = z) : Fz z μ (zfillR μ' a lo hi v) := fun a' i' q => by
  unfold zfillR
  rw [if_neg, h a' i' q]
  rintro ⟨rfl, -⟩
  exact q (hz i')
theorem t_sheet (hn : 154 ≤ n) (h : I5 μ) {k l m : Int} (hk : R32 k) (hl : R32 l) (hm : R32 m) : mX7_sheet G n k l m μ (fun a μ1 => mX8_sheet G n k l m μ1 (fun b μ2 => a = b ∧ I5 μ2 ∧ Fz 5 μ μ2)) := by
  have fin : ∀ r, R32 r → I5 (zu (zu μ 0 8 r) 127 0 r) ∧ Fz 5 μ (zu (zu μ 0 8 r) 127 0 r) := fun r hr => ⟨h.fault hr, (Fz.rf.zu (by simp [zone])).zu (by simp [zone])⟩
  refine eX7_sheet hn (fun μ1 e1 => c_within hn ?_)
  simp (disch := omega) only [wr_of, ite_b0, Classical.not_not]
  refine ⟨fun h0 => c_within hn ?_, fun h0 => eX8_sheet hn (fun μ2 e2 => c8_isSheet hn ?_)⟩
  · simp (disch := omega) only [wr_of, ite_b0, Classical.not_not]
    refine ⟨fun h1 => eX8_sheet hn (fun μ2 e2 => c8_isSheet hn ?_), fun h1 => ⟨fun h2 => ⟨fun h3 => ?_, fun h3 => eX7_faulted hn (fun μ3 e3 => eX8_sheet hn (fun μ2 e2 => c8_isSheet hn ?_))⟩, fun h2 => eX8_sheet hn (fun μ2 e2 => c8_isSheet hn ?_)⟩⟩
    · simp (disch := omega) only [wr_of, ite_b0, Classical.not_not]
      refine ⟨fun _ => c8_isLane hn ?_, fun c => absurd h0 c⟩
      simp (disch := omega) only [wr_of, ite_b0, Classical.not_not]
      refine ⟨fun _ => ⟨trivial, ?_⟩, fun c => absurd c h1⟩
      rw [e2, e1]; exact fin 0 (by decide)
    · have b0 : 0 ≤ wr k ∧ wr k < 4 := by rw [wr_of (by omega) (by omega)]; omega
      have ek : wr k = k := wr_of (by omega) (by omega)
      refine eX5_layRow (by omega) ⟨b0, fun μ4 e4 => ⟨b0, fun μ5 e5 => ⟨b0, c_fill ?_ ?_⟩⟩⟩
      · rw [ek]
        exact ⟨by omega, by omega, (zr_121 (x := k) (by omega)).2.1⟩
      · rw [ek] at e4 e5 ⊢
        rw [(zr_121 (x := k) (by omega)).2.2, show (121 : Int) + 1 + k = 122 + k by omega, e5, e4, e1]
        refine eX8_sheet hn (fun μ2 e2 => c8_isSheet hn ?_)
        simp (disch := omega) only [wr_of, ite_b0, Classical.not_not]
        refine ⟨fun _ => c8_isLane hn ?_, fun c => absurd h0 c⟩
        simp (disch := omega) only [wr_of, ite_b0, Classical.not_not]
        refine ⟨fun c => absurd h1 c, fun _ => ⟨fun _ => ⟨fun _ => ⟨by omega, fun μ6 e6 => ⟨by omega, fun μ7 e7 => ?_⟩⟩, fun c => absurd h3 c⟩, fun c => absurd h2 c⟩⟩
        refine c8_sheet_loop (μ := μ7) hn h0 ?_ 60 0 μ7 (by decide) (by decide) ?_
        · refine ⟨rfl, ?_, ?_⟩
          · rw [e7, e6, e2]; exact h.lay h0 h1 ⟨h3, h2⟩
          · rw [e7, e6, e2]
            exact ((((((((Fz.rf.zu (by simp [zone])).zu (by simp [zone])).zu (by simp [zone])).fill (fun i => zone_cell (by omega))).zu (by simp [zone])).zu (by simp [zone])).zu (by simp [zone])).fillR (fun i => by simp [zone]))
        · funext a i; unfold zfillR; rw [if_neg (by omega)]
    · simp (disch := omega) only [wr_of, ite_b0, Classical.not_not]
      refine ⟨fun _ => c8_isLane hn ?_, fun c => absurd h0 c⟩
      simp (disch := omega) only [wr_of, ite_b0, Classical.not_not]
      refine ⟨fun c => absurd h1 c, fun _ => ⟨fun _ => ⟨fun c => absurd c h3, fun _ => eX8_fails hn (fun μ4 e4 => ⟨rfl, ?_⟩)⟩, fun c => absurd h2 c⟩⟩
      rw [e4, e2, zu_zu, e3, e1, zu_zu]; exact fin 4 (by decide)
    · simp (disch := omega) only [wr_of, ite_b0, Classical.not_not]
      refine ⟨fun _ => c8_isLane hn ?_, fun c => absurd h0 c⟩
      simp (disch := omega) only [wr_of, ite_b0, Classical.not_not]
      refine ⟨fun c => absurd h1 c, fun _ => ⟨fun c => absurd c h2, fun _ => ⟨trivial, ?_⟩⟩⟩
      rw [e2, e1]; exact fin 0 (by decide)
  · simp (disch := omega) only [wr_of, ite_b0, Classical.not_not]
    refine ⟨fun c => absurd c h0, fun _ => ⟨trivial, ?_⟩⟩
    rw [e2, e1]; exact fin 0 (by decide)
end SR
