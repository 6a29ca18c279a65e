section T40
variable {G : zG} {n : Nat} {μ ν : zM}
theorem I5.row (h : I5 μ) {s i : Int} {W : Nat} (s0 : 0 ≤ s) (s1 : s < 4) (i0 : 0 ≤ i) (i1 : i + W ≤ 60) {g : Int → Int} (hg : ∀ k : Int, 0 ≤ k → k < W → fitsL (μ 119 s) (g k))
    (e : ∀ a j, zone a j = 5 → a ≠ 126 → ν a j = if a = 122 + s ∧ i ≤ j ∧ j < i + W then g (j - i) else if a = 139 ∧ 60 * s + i ≤ j ∧ j < 60 * s + i + W then g (j - (60 * s + i)) else μ a j) : I5 ν := by
  have z5 : ∀ a j, (a = 0 ∨ a = 119 ∨ a = 120 ∨ a = 137 ∨ a = 138) → ν a j = μ a j := fun a j q => by
    have hz : zone a j = 5 := by rcases q with rfl | rfl | rfl | rfl | rfl <;> rfl
    rw [e a j hz (by omega), if_neg (by omega), if_neg (by omega)]
  have z0 : ν 127 0 = μ 127 0 := by rw [e 127 0 rfl (by decide), if_neg (by omega), if_neg (by omega)]
  refine ⟨by rw [z5 0 8 (by simp), z0]; exact h.1, fun k k0 k1 => ⟨?_, fun j j0 j1 => ?_⟩⟩
  · have := (h.2 k k0 k1).1
    unfold Lane at this ⊢
    rw [z5 119 k (by simp), z5 120 k (by simp), z5 137 k (by simp), z5 138 k (by simp)]; exact this
  · have c := (h.2 k k0 k1).2 j j0 j1
    unfold Cells at c ⊢
    rw [z5 119 k (by simp), e (122 + k) j (zone_cell ⟨k0, k1⟩) (by omega), e 139 (60 * k + j) rfl (by decide)]
    by_cases d : k = s ∧ i ≤ j ∧ j < i + W
    · rw [if_pos (by omega), if_neg (by omega), if_pos (by omega), show 60 * k + j - (60 * s + i) = j - i by omega, d.1]
      exact ⟨rfl, hg (j - i) (by omega) (by omega)⟩
    · rw [if_neg (by omega), if_neg (by omega), if_neg (by omega), if_neg (by omega)]
      exact c
theorem c7_sort (hn : 154 ≤ n) (h3 : I3 μ) (h : I5 μ) {s l i : Int} (hs : R32 s) (hl : R32 l) (hi : R32 i) {K : Int → zM → Prop}
    (k1 : ¬ (0 ≤ s ∧ s ≤ 3) → K (-1) (zu μ 0 8 0)) (k2 : (0 ≤ s ∧ s ≤ 3) → ¬ (0 ≤ l ∧ l ≤ 2) → K (-2) (zu μ 0 8 0))
    (k3 : (0 ≤ s ∧ s ≤ 3) → (0 ≤ l ∧ l ≤ 2) → fcd (μ 119 s) (-1) l (μ 120 s) i (μ 30 0) ≠ 0 → K (-10 - fcd (μ 119 s) (-1) l (μ 120 s) i (μ 30 0)) (zu μ 0 8 (fcd (μ 119 s) (-1) l (μ 120 s) i (μ 30 0))))
    (k4 : (0 ≤ s ∧ s ≤ 3) → (0 ≤ l ∧ l ≤ 2) → fcd (μ 119 s) (-1) l (μ 120 s) i (μ 30 0) = 0 → ∀ ν : zM, (∀ a j, a ≠ 126 → ν a j = if a = 122 + s ∧ i ≤ j ∧ j < i + μ 30 0 then srt (μ 31) (μ 32) (μ 30 1).toNat (fun x => μ (122 + s) (i + x)) (j - i) else zu μ 0 8 0 a j) → K (cd (fun x => μ (122 + s) (i + x)) (srt (μ 31) (μ 32) (μ 30 1).toNat (fun x => μ (122 + s) (i + x))) (μ 30 0).toNat) ν) : mX7_sort G n s l i μ K := by
  obtain ⟨b1, b2⟩ := id hs
  obtain ⟨c1, c2⟩ := id hl
  obtain ⟨d1, d2⟩ := id hi
  obtain ⟨b, le⟩ := id h3
  have b0 := b.1
  have bb := b.2.1
  refine eX7_sort hn (fun μ1 e1 => c_within hn ?_)
  simp (disch := omega) only [wr_of, ite_b0, Classical.not_not]
  refine ⟨fun z => c_within hn ?_, fun z => by rw [e1]; exact k1 z⟩
  simp (disch := omega) only [wr_of, ite_b0, Classical.not_not]
  refine ⟨fun z2 => ?_, fun z2 => by rw [e1]; exact k2 z z2⟩
  have k3 := k3 z z2
  have k4 := k4 z z2
  have la := (h.2 s z.1 (by omega)).1.r
  have g1 : ∀ a j, a ≠ 0 → μ1 a j = μ a j := fun a j q => by rw [e1, zu_na q]
  rw [g1 30 0 (by decide)]
  refine c5_foc hn (by omega) (by rw [g1 _ _ (by decide)]; exact la.1) hl hi ?_ ?_
  · rw [g1 _ _ (by decide), g1 _ _ (by decide)]
    intro q
    have := la.2.2.2 q
    exact ⟨by omega, by omega⟩
  · rw [g1 119 s (by decide), g1 120 s (by decide)]
    have fr := fcd_r (la := μ 119 s) (no := -1) (l := l) (len := μ 120 s) (i := i) (m := μ 30 0)
    by_cases c : fcd (μ 119 s) (-1) l (μ 120 s) i (μ 30 0) = 0
    · rw [c]
      refine ⟨fun _ => ?_, fun q => absurd rfl q⟩
      have f0 := fcd_0 c
      have l2 := la.2.2.2 f0.1
      have zz : zk 126 = 0 ∧ zn 126 = 8 := by decide
      rw [g1 30 0 (by decide)]
      refine eX5_read (by omega) ?_
      simp (disch := omega) only [wr_of]
      refine ⟨by omega, by omega, ⟨⟨by decide, by omega, zz.1⟩, by decide, by rw [zz.2]; omega⟩, by omega, fun μ5 e5 => ?_⟩
      rw [show (121 : Int) + 1 + s = 122 + s by omega] at e5
      have g5 : ∀ a j, a ≠ 126 → a ≠ 0 → μ5 a j = μ a j := fun a j q1 q2 => by rw [e5]; unfold zcp; rw [if_neg (fun w => q1 w.1), g1 a j q2]
      have rd : ∀ x : Int, 0 ≤ x → x < μ 30 0 → μ5 126 x = μ (122 + s) (i + x) := fun x x0 x1 => by
        rw [e5]; unfold zcp
        rw [if_pos ⟨rfl, x0, by omega⟩, g1 _ _ (by omega), Int.sub_zero]
      have cell : ∀ x : Int, 0 ≤ x → x < μ 30 0 → fitsL (μ 119 s) (μ (122 + s) (i + x)) := fun x x0 x1 => ((h.2 s z.1 (by omega)).2 (i + x) (by omega) (by omega)).2
      have f31 : μ5 31 = μ 31 := funext (fun j => g5 31 j (by decide) (by decide))
      have f32 : μ5 32 = μ 32 := funext (fun j => g5 32 j (by decide) (by decide))
      refine c0_lead (W := μ 30 0) (C := (μ 30 1).toNat) hn b0.2.2 (by rw [g5 _ _ (by decide) (by decide)]; omega) (by omega) (fun j j0 j1 => ?_) (fun k q0 q1 => ?_) (fun ν6 h6 hf6 => ?_)
      · rw [f31, f32]
        have := b.ab j0 (by omega)
        exact this.2.2
      · rw [rd k q0 q1]
        exact (cell k q0 q1).2.2
      · have W' : ((μ 30 0).toNat : Int) = μ 30 0 := Int.toNat_of_nonneg (by omega)
        have ext : ∀ (c : Nat), c ≤ (μ 30 1).toNat → ∀ k, 0 ≤ k → k < μ 30 0 → srt (μ 31) (μ 32) c (μ5 126) k = srt (μ 31) (μ 32) c (fun x => μ (122 + s) (i + x)) k := by
          intro c
          induction c with
          | zero => intro _ k q0 q1; exact rd k q0 q1
          | succ c ic =>
            intro hc k q0 q1
            have a := b.ab (j := c) (by omega) (by omega)
            have ic := ic (by omega)
            simp only [srt]
            rw [ic _ a.2.2.1 a.2.2.2.1, ic _ a.2.2.2.2.1 a.2.2.2.2.2.1, ic k q0 q1]
        rw [hf6 30 0 (by decide), g5 30 0 (by decide) (by decide), ← W']
        refine c5_write (L := μ 119 s) (f := fun x => μ (122 + s) (i + x)) (g := srt (μ 31) (μ 32) (μ 30 1).toNat (fun x => μ (122 + s) (i + x))) hn (by omega) z.1 (by omega) f0.2.2.1 (by omega) (by rw [hf6 _ _ (by decide), g5 _ _ (by decide) (by decide)]) la.1 (fun k q0 q1 => ?_) (fun k q0 q1 => ?_) (fun ν h7 => ?_)
        · rw [hf6 _ _ (by omega), g5 _ _ (by omega) (by omega)]
          exact ⟨rfl, (cell k q0 (by omega)).2.2⟩
        · refine ⟨?_, ?_⟩
          · rw [h6 k q0 (by omega), f31, f32]
            exact ext _ (Nat.le_refl _) k q0 (by omega)
          · exact srt_P (P := fitsL (μ 119 s)) (W := μ 30 0) cell _ (fun j x y => by have := b.ab x (show j < μ 30 1 by omega); omega) k q0 (by omega)
        · refine k4 c ν (fun a j q => ?_)
          rw [h7 a j, W', hf6 a j q]
          split
          · rfl
          · by_cases d : a = 0
            · rw [d, e5]; unfold zcp
              rw [if_neg (by omega), e1]
            · rw [g5 a j q d, zu_na d]
    · refine ⟨fun q => ?_, fun _ => eX7_faulted hn (fun μ6 e6 => ?_)⟩
      · rw [wr_of (by omega) (by omega)] at q; exact absurd q c
      · rw [e6, e1, zu_zu]; exact k3 c
theorem c8_sort (hn : 154 ≤ n) (h3 : I3 μ) (h : I5 μ) (hS : ∀ a j, a = 127 ∧ j ≠ 0 ∨ (137 ≤ a ∧ a ≤ 142 ∧ a ≠ 140) → ν a j = μ a j) {s l i : Int} (hs : R32 s) (hl : R32 l) (hi : R32 i) {K : Int → zM → Prop}
    (k1 : ¬ (0 ≤ s ∧ s ≤ 3) → K (-1) (zu ν 127 0 0)) (k2 : (0 ≤ s ∧ s ≤ 3) → ¬ (0 ≤ l ∧ l ≤ 2) → K (-2) (zu ν 127 0 0))
    (k3 : (0 ≤ s ∧ s ≤ 3) → (0 ≤ l ∧ l ≤ 2) → fcd (μ 119 s) (-1) l (μ 120 s) i (μ 30 0) ≠ 0 → K (-10 - fcd (μ 119 s) (-1) l (μ 120 s) i (μ 30 0)) (zu ν 127 0 (fcd (μ 119 s) (-1) l (μ 120 s) i (μ 30 0))))
    (k4 : (0 ≤ s ∧ s ≤ 3) → (0 ≤ l ∧ l ≤ 2) → fcd (μ 119 s) (-1) l (μ 120 s) i (μ 30 0) = 0 → ∀ ν' : zM, (∀ a j, a ≠ 144 → ν' a j = if a = 139 ∧ 60 * s + i ≤ j ∧ j < 60 * s + i + μ 30 0 then srt (μ 31) (μ 32) (μ 30 1).toNat (fun x => μ (122 + s) (i + x)) (j - (60 * s + i)) else zu ν 127 0 0 a j) → K (cd (fun x => μ (122 + s) (i + x)) (srt (μ 31) (μ 32) (μ 30 1).toNat (fun x => μ (122 + s) (i + x))) (μ 30 0).toNat) ν') : mX8_sort G n s l i ν K := by
  obtain ⟨b1, b2⟩ := id hs
  obtain ⟨c1, c2⟩ := id hl
  obtain ⟨d1, d2⟩ := id hi
  obtain ⟨b, le⟩ := id h3
  have b0 := b.1
  have bb := b.2.1
  refine eX8_sort hn (fun μ1 e1 => c8_isSheet hn ?_)
  simp (disch := omega) only [wr_of, ite_b0, Classical.not_not]
  refine ⟨fun z => c8_isLane hn ?_, fun z => by rw [e1]; exact k1 z⟩
  simp (disch := omega) only [wr_of, ite_b0, Classical.not_not]
  refine ⟨fun z2 => ?_, fun z2 => by rw [e1]; exact k2 z z2⟩
  have k3 := k3 z z2
  have k4 := k4 z z2
  have la := (h.2 s z.1 (by omega)).1.r
  have lf := (h.2 s z.1 (by omega)).1.fc (l := l) (i := i) (m := μ 30 0) z2
  have g1 : ∀ a j, a = 127 ∧ j ≠ 0 ∨ (137 ≤ a ∧ a ≤ 142 ∧ a ≠ 140) → μ1 a j = μ a j := fun a j q => by rw [e1, zu_ne (by omega)]; exact hS a j q
  rw [g1 127 24 (by omega), ← b0.1]
  refine c8_against hn (by omega) (by rw [g1 _ _ (by omega)]; exact la.2.1) hl hi (by rw [g1 _ _ (by omega), g1 _ _ (by omega)]; exact la.2.2.1) (by omega) rfl ?_
  rw [g1 137 s (by omega), g1 138 s (by omega), ← lf]
  have fr := fcd_r (la := μ 119 s) (no := -1) (l := l) (len := μ 120 s) (i := i) (m := μ 30 0)
  by_cases c : fcd (μ 119 s) (-1) l (μ 120 s) i (μ 30 0) = 0
  · rw [if_pos c, if_pos c]
    have f0 := fcd_0 c
    have l2 := la.2.2.2 f0.1
    refine ⟨fun _ v11 e11 => ?_, fun q => absurd rfl q⟩
    rw [e11]
    have W' : ((μ 30 0).toNat : Int) = μ 30 0 := Int.toNat_of_nonneg (by omega)
    refine c8_sortL (A := μ 31) (B := μ 32) (C := (μ 30 1).toNat) (W := (μ 30 0).toNat) (f := fun x => μ (122 + s) (i + x)) hn (by omega) (by rw [g1 _ _ (by omega), W']; exact b0.1.symm) (by rw [g1 _ _ (by omega)]; omega) (by omega) (fun j j0 j1 => ?_) (by omega) (by omega) (fun k q0 q1 => ?_) (fun ν' hν => ?_)
    · rw [g1 _ _ (by omega), g1 _ _ (by omega), W']
      exact b.ab j0 (by omega)
    · have ce := (h.2 s z.1 (by omega)).2 (i + k) (by omega) (by omega)
      rw [g1 _ _ (by omega), show 60 * s + i + k = 60 * s + (i + k) by omega]
      exact ⟨ce.1.symm, ce.2.2.2⟩
    · refine k4 c ν' (fun a j q => ?_)
      rw [hν a j q, W', e1]
  · rw [if_neg c, if_neg c]
    refine ⟨fun q => ?_, fun _ => ?_⟩
    · rw [wr_of (by omega) (by omega)] at q; omega
    · rw [e1, zu_zu]; exact k3 c
theorem t_sort (hn : 154 ≤ n) (h3 : I3 μ) (h : I5 μ) {s l i : Int} (hs : R32 s) (hl : R32 l) (hi : R32 i) : mX7_sort G n s l i μ (fun a μ1 => mX8_sort G n s l i μ1 (fun b μ2 => a = b ∧ I3 μ2 ∧ I5 μ2 ∧ Fzz 3 5 μ μ2)) := by
  have z0 : ∀ (r : Int) (a i : Int), zone a i ≠ 5 → zu (zu μ 0 8 r) 127 0 r a i = μ a i := fun r a i q => by
    rw [zu_ne, zu_ne]
    · rintro ⟨rfl, rfl⟩; exact q rfl
    · rintro ⟨rfl, rfl⟩; exact q rfl
  have fin : ∀ r, R32 r → I3 (zu (zu μ 0 8 r) 127 0 r) ∧ I5 (zu (zu μ 0 8 r) 127 0 r) ∧ Fzz 3 5 μ (zu (zu μ 0 8 r) 127 0 r) := fun r hr =>
    ⟨h3.eq (fun a i q _ _ => z0 r a i (by rw [q]; decide)), h.fault hr, fun a i _ q => z0 r a i q⟩
  have fr := fun m => fcd_r (la := μ 119 s) (no := -1) (l := l) (len := μ 120 s) (i := i) (m := m)
  have b0 := h3.1.1
  have bb := h3.1.2.1
  have S0 : ∀ r a j, a = 127 ∧ j ≠ 0 ∨ (137 ≤ a ∧ a ≤ 142 ∧ a ≠ 140) → zu μ 0 8 r a j = μ a j := fun r a j q => zu_na (by omega)
  refine c7_sort hn h3 h hs hl hi (fun z => ?_) (fun z z2 => ?_) (fun z z2 c => ?_) (fun z z2 c ν1 h1 => ?_)
  · exact c8_sort hn h3 h (S0 0) hs hl hi (fun _ => ⟨rfl, fin 0 (by decide)⟩) (fun q => absurd q z) (fun q => absurd q z) (fun q => absurd q z)
  · exact c8_sort hn h3 h (S0 0) hs hl hi (fun q => absurd z q) (fun _ _ => ⟨rfl, fin 0 (by decide)⟩) (fun _ q => absurd q z2) (fun _ q => absurd q z2)
  · refine c8_sort hn h3 h (S0 _) hs hl hi (fun q => absurd z q) (fun _ q => absurd z2 q) (fun _ _ _ => ⟨rfl, fin _ ?_⟩) (fun _ _ q => absurd q c)
    have := fr (μ 30 0)
    exact ⟨by omega, by omega⟩
  · refine c8_sort hn h3 h (fun a j q => ?_) hs hl hi (fun q => absurd z q) (fun _ q => absurd z2 q) (fun _ _ q => absurd c q) (fun _ _ _ ν2 h2 => ⟨rfl, ?_, ?_, ?_⟩)
    · rw [h1 a j (by omega), if_neg (by omega), zu_na (by omega)]
    · refine h3.eq (fun a j hz q1 q2 => ?_)
      have n1 : a ≠ 139 := fun w => absurd hz (by rw [w]; unfold zone; simp)
      have n2 : ¬ (a = 127 ∧ j = 0) := fun w => absurd hz (by rw [w.1, w.2]; decide)
      have n3 : a ≠ 126 := fun w => absurd hz (by rw [w]; unfold zone; simp)
      have n4 : a ≠ 122 + s := fun w => absurd hz (by rw [w, zone_cell (by omega)]; decide)
      have n5 : a ≠ 0 := fun w => absurd hz (by rw [w]; unfold zone; simp)
      rw [h2 a j q2, if_neg (fun w => n1 w.1), zu_ne n2, h1 a j n3, if_neg (fun w => n4 w.1), zu_na n5]
    · have f0 := fcd_0 c
      have l2 := (h.2 s z.1 (by omega)).1.r.2.2.2 f0.1
      have W' : ((μ 30 0).toNat : Int) = μ 30 0 := Int.toNat_of_nonneg (by omega)
      refine (h.fault (v := 0) (by decide)).row (s := s) (i := i) (W := (μ 30 0).toNat) (g := srt (μ 31) (μ 32) (μ 30 1).toNat (fun x => μ (122 + s) (i + x))) z.1 (by omega) f0.2.2.1 (by omega) (fun k q0 q1 => ?_) (fun a j hz h6 => ?_)
      · rw [show zu (zu μ 0 8 0) 127 0 0 119 s = μ 119 s by rw [zu_na (by decide), zu_na (by decide)]]
        exact srt_P (P := fitsL (μ 119 s)) (W := μ 30 0) (fun x x0 x1 => ((h.2 s z.1 (by omega)).2 (i + x) (by omega) (by omega)).2) _ (fun j x y => by have := h3.1.ab x (show j < μ 30 1 by omega); omega) k q0 (by omega)
      · have n1 : a ≠ 144 := fun w => absurd hz (by rw [w]; unfold zone; simp)
        rw [W', h2 a j n1]
        by_cases d1 : a = 139 ∧ 60 * s + i ≤ j ∧ j < 60 * s + i + μ 30 0
        · rw [if_pos d1, if_neg (by omega), if_pos d1]
        · rw [if_neg d1, if_neg d1]
          by_cases d2 : a = 127 ∧ j = 0
          · rw [d2.1, d2.2, zu_same, zu_same, if_neg (by omega)]
          · rw [zu_ne d2, zu_ne d2, h1 a j h6]
    · intro a j y1 y2
      have n1 : a ≠ 139 := fun w => y2 (by rw [w]; unfold zone; simp)
      have n2 : ¬ (a = 127 ∧ j = 0) := fun w => y2 (by rw [w.1, w.2]; decide)
      have n3 : a ≠ 126 := fun w => y2 (by rw [w]; unfold zone; simp)
      have n4 : a ≠ 122 + s := fun w => y2 (by rw [w, zone_cell (by omega)])
      have n5 : a ≠ 0 := fun w => y2 (by rw [w]; unfold zone; simp)
      have n6 : a ≠ 144 := fun w => y1 (by rw [w]; exact z3_141 (by decide))
      rw [h2 a j n6, if_neg (fun w => n1 w.1), zu_ne n2, h1 a j n3, if_neg (fun w => n4 w.1), zu_na n5]
end T40
