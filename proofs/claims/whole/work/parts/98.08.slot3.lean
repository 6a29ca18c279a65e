section T65
variable {G : zG} {n : Nat} {μ ν κ : zM}
theorem B4.qk (h : B4 μ) : Qk (μ 99 0) (fun i o => μ (101 + i) o) := ⟨⟨h.1.1, h.1.2.1⟩, fun i o i0 i1 o0 o1 => (h.2.1 i o i0 i1 o0 o1).2.2⟩
theorem B4.fz (h : B4 μ) (e : ∀ a j, zone a j = 4 → ν a j = μ a j) : B4 ν := by
  have e2 : ν 99 0 = μ 99 0 := e 99 0 rfl
  have e0 : ν 45 0 = μ 45 0 := e 45 0 rfl
  have e1 : ν 127 30 = μ 127 30 := e 127 30 rfl
  refine ⟨by rw [e0, e1, e2]; exact h.1, fun i o i0 i1 o0 o1 => ?_, fun i i0 i1 => ?_⟩
  · rw [e2, e (47 + i) o (z4_45 (by omega)), e (101 + i) o (z4_45 (by omega)), e 145 _ rfl, e 147 _ rfl]
    exact h.2.1 i o i0 i1 o0 o1
  · rw [e2, e 106 i rfl, e 108 i rfl, e 109 i rfl, e 148 i rfl, e 149 i rfl, e 151 i rfl]
    exact h.2.2 i i0 i1
/-- what a slot says of the memory behind it -/
def SlE (μ ν : zM) : Prop := B4 ν ∧ I5 ν ∧ Fzz 4 5 μ ν ∧ (∀ a j, (45 ≤ a ∧ a ≤ 98) ∨ a = 145 → ν a j = μ a j)
theorem SlE_f (h4 : B4 μ) (h : I5 μ) {r : Int} (hr : R32 r) : SlE μ (zu (zu μ 0 8 r) 127 0 r) := by
  have z : ∀ a j, zone a j ≠ 5 → zu (zu μ 0 8 r) 127 0 r a j = μ a j := fun a j q => by
    rw [zu_ne, zu_ne]
    · rintro ⟨rfl, rfl⟩; exact q rfl
    · rintro ⟨rfl, rfl⟩; exact q rfl
  exact ⟨h4.fz (fun a j q => z a j (by rw [q]; decide)), h.fault hr, fun a j _ q => z a j q, fun a j w => by rw [zu_na (by omega), zu_na (by omega)]⟩
theorem c7_slot (hn : 154 ≤ n) (h4 : B4 μ) (h : I5 μ) {r s l i : Int} (hr : R32 r) (hs : R32 s) (hl : R32 l) (hi : R32 i) {K : Int → zM → Prop}
    (k1 : ¬ (0 ≤ s ∧ s ≤ 3) → K (-1) (zu μ 0 8 0)) (k2 : (0 ≤ s ∧ s ≤ 3) → ¬ ((0 ≤ l ∧ l ≤ 2) ∧ (0 ≤ r ∧ r ≤ 2)) → K (-2) (zu μ 0 8 0))
    (k3 : (0 ≤ s ∧ s ≤ 3) → (0 ≤ l ∧ l ≤ 2) → (0 ≤ r ∧ r ≤ 2) → fcd (μ 119 s) (-1) l (μ 120 s) i (μ 99 0) ≠ 0 → K (-10 - fcd (μ 119 s) (-1) l (μ 120 s) i (μ 99 0)) (zu μ 0 8 (fcd (μ 119 s) (-1) l (μ 120 s) i (μ 99 0))))
    (k4 : (0 ≤ s ∧ s ≤ 3) → (0 ≤ l ∧ l ≤ 2) → (0 ≤ r ∧ r ≤ 2) → fcd (μ 119 s) (-1) l (μ 120 s) i (μ 99 0) = 0 → ∀ μ5 : zM, (∀ x, 0 ≤ x → x < μ 99 0 → μ5 126 x = μ (122 + s) (i + x)) → (∀ a j, a ≠ 126 → μ5 a j = zu μ 0 8 0 a j) → mX4_refusalOf G n 126 μ5 (fun r16 μ17 => ((wr r16 = 0 → (mX4_serve G n r 126 μ17 (fun r19 μ20 => K r19 μ20))) ∧ (¬ (wr r16 = 0) → (K r16 μ17))))) : mX7_slot G n r s l i μ K := by
  obtain ⟨a1, a2⟩ := id hr
  obtain ⟨b1, b2⟩ := id hs
  obtain ⟨c1, c2⟩ := id hl
  obtain ⟨d1, d2⟩ := id hi
  have p := h4.1
  refine eX7_slot hn (fun μ1 e1 => c_within hn ?_)
  simp (disch := omega) only [wr_of, ite_b0, Classical.not_not]
  refine ⟨fun z => c_within hn ?_, fun z => by rw [e1]; exact k1 z⟩
  simp (disch := omega) only [wr_of, ite_b0, Classical.not_not]
  refine ⟨fun z2 => by rw [e1]; exact k2 z (fun q => z2 q.1), fun z2 => c_within hn ?_⟩
  simp (disch := omega) only [wr_of, ite_b0, Classical.not_not]
  refine ⟨fun z3 => ?_, fun z3 => by rw [e1]; exact k2 z (fun q => z3 q.2)⟩
  have k3 := k3 z z2 z3
  have k4 := k4 z z2 z3
  have la := (h.2 s z.1 (by omega)).1.r
  have g1 : ∀ a j, a ≠ 0 → μ1 a j = μ a j := fun a j q => by rw [e1, zu_na q]
  rw [g1 99 0 (by decide)]
  refine c5_foc hn (by omega) (by rw [g1 _ _ (by decide)]; exact la.1) hl hi ?_ ?_
  · rw [g1 _ _ (by decide), g1 _ _ (by decide)]
    intro q
    have := la.2.2.2 q
    exact ⟨by omega, by omega⟩
  · rw [g1 119 s (by decide), g1 120 s (by decide)]
    have fr := fcd_r (la := μ 119 s) (no := -1) (l := l) (len := μ 120 s) (i := i) (m := μ 99 0)
    by_cases c : fcd (μ 119 s) (-1) l (μ 120 s) i (μ 99 0) = 0
    · rw [c]
      refine ⟨fun _ => ?_, fun q => absurd rfl q⟩
      have f0 := fcd_0 c
      have l2 := la.2.2.2 f0.1
      have zz : zk 126 = 0 ∧ zn 126 = 8 := by decide
      rw [g1 99 0 (by decide)]
      refine eX5_read (by omega) ?_
      simp (disch := omega) only [wr_of]
      refine ⟨by omega, by omega, ⟨⟨by decide, by omega, zz.1⟩, by decide, by rw [zz.2]; omega⟩, by omega, fun μ5 e5 => ?_⟩
      rw [show (121 : Int) + 1 + s = 122 + s by omega] at e5
      refine k4 c μ5 (fun x x0 x1 => ?_) (fun a j q => ?_)
      · rw [e5]; unfold zcp
        rw [if_pos ⟨rfl, x0, by omega⟩, g1 _ _ (by omega), Int.sub_zero]
      · rw [e5]; unfold zcp
        rw [if_neg (fun w => q w.1), e1]
    · refine ⟨fun q => ?_, fun _ => eX7_faulted hn (fun μ6 e6 => ?_)⟩
      · rw [wr_of (by omega) (by omega)] at q; exact absurd q c
      · rw [e6, e1, zu_zu]; exact k3 c
theorem c8_slot (hn : 154 ≤ n) (h4 : B4 μ) (h : I5 μ) (hS : ∀ a j, a = 127 ∧ j ≠ 0 ∨ (137 ≤ a ∧ a ≤ 139) → ν a j = μ a j) {r s l i : Int} (hr : R32 r) (hs : R32 s) (hl : R32 l) (hi : R32 i) {K : Int → zM → Prop}
    (k1 : ¬ (0 ≤ s ∧ s ≤ 3) → K (-1) (zu ν 127 0 0)) (k2 : (0 ≤ s ∧ s ≤ 3) → ¬ ((0 ≤ l ∧ l ≤ 2) ∧ (0 ≤ r ∧ r ≤ 2)) → K (-2) (zu ν 127 0 0))
    (k3 : (0 ≤ s ∧ s ≤ 3) → (0 ≤ l ∧ l ≤ 2) → (0 ≤ r ∧ r ≤ 2) → fcd (μ 119 s) (-1) l (μ 120 s) i (μ 99 0) ≠ 0 → K (-10 - fcd (μ 119 s) (-1) l (μ 120 s) i (μ 99 0)) (zu ν 127 0 (fcd (μ 119 s) (-1) l (μ 120 s) i (μ 99 0))))
    (k4 : (0 ≤ s ∧ s ≤ 3) → (0 ≤ l ∧ l ≤ 2) → (0 ≤ r ∧ r ≤ 2) → fcd (μ 119 s) (-1) l (μ 120 s) i (μ 99 0) = 0 → pX8_slot G n K 67 [some (Rv G 127), some (Iv r), none, none, none, none, some (Iv (60 * s + i)), some (Iv 0), none] [] (zu ν 127 0 0)) : mX8_slot G n r s l i ν K := by
  obtain ⟨a1, a2⟩ := id hr
  obtain ⟨b1, b2⟩ := id hs
  obtain ⟨c1, c2⟩ := id hl
  obtain ⟨d1, d2⟩ := id hi
  have p := h4.1
  refine eX8_slot hn (fun μ1 e1 => c8_isSheet hn ?_)
  simp (disch := omega) only [wr_of, ite_b0, Classical.not_not]
  refine ⟨fun z => c8_isLane hn ?_, fun z => by rw [e1]; exact k1 z⟩
  simp (disch := omega) only [wr_of, ite_b0, Classical.not_not]
  refine ⟨fun z2 => by rw [e1]; exact k2 z (fun q => z2 q.1), fun z2 => c8_within hn ?_⟩
  simp (disch := omega) only [wr_of, ite_b0, Classical.not_not]
  refine ⟨fun z3 => ?_, fun z3 => by rw [e1]; exact k2 z (fun q => z3 q.2)⟩
  have k3 := k3 z z2 z3
  have k4 := k4 z z2 z3
  have la := (h.2 s z.1 (by omega)).1.r
  have lf := (h.2 s z.1 (by omega)).1.fc (l := l) (i := i) (m := μ 99 0) z2
  have g1 : ∀ a j, a = 127 ∧ j ≠ 0 ∨ (137 ≤ a ∧ a ≤ 139) → μ1 a j = μ a j := fun a j q => by rw [e1, zu_ne (by omega)]; exact hS a j q
  rw [g1 127 30 (by omega), p.2.2.2]
  refine c8_against hn (by omega) (by rw [g1 _ _ (by omega)]; exact la.2.1) hl hi (by rw [g1 _ _ (by omega), g1 _ _ (by omega)]; exact la.2.2.1) (by omega) rfl ?_
  rw [g1 137 s (by omega), g1 138 s (by omega), ← lf]
  have fr := fcd_r (la := μ 119 s) (no := -1) (l := l) (len := μ 120 s) (i := i) (m := μ 99 0)
  by_cases c : fcd (μ 119 s) (-1) l (μ 120 s) i (μ 99 0) = 0
  · rw [if_pos c, if_pos c]
    refine ⟨fun _ v14 e14 => ?_, fun q => absurd rfl q⟩
    rw [e14, e1]
    exact k4 c
  · rw [if_neg c, if_neg c]
    refine ⟨fun q => ?_, fun _ => ?_⟩
    · rw [wr_of (by omega) (by omega)] at q; omega
    · rw [e1, zu_zu]; exact k3 c
theorem t_slot (hn : 154 ≤ n) (hR : ∀ rule, 0 ≤ rule → rule ≤ 2 → Rule G n rule) (h4 : B4 μ) (h : I5 μ) {r s l i : Int} (hr : R32 r) (hs : R32 s) (hl : R32 l) (hi : R32 i) : mX7_slot G n r s l i μ (fun a μ1 => mX8_slot G n r s l i μ1 (fun b μ2 => a = b ∧ SlE μ μ2)) := by
  have p := h4.1
  have qk := h4.qk
  have fr := fcd_r (la := μ 119 s) (no := -1) (l := l) (len := μ 120 s) (i := i) (m := μ 99 0)
  have S0 : ∀ x a j, a = 127 ∧ j ≠ 0 ∨ (137 ≤ a ∧ a ≤ 139) → zu μ 0 8 x a j = μ a j := fun x a j q => zu_na (by omega)
  refine c7_slot hn h4 h hr hs hl hi (fun z => ?_) (fun z z2 => ?_) (fun z z2 z3 c => ?_) (fun z z2 z3 c μ5 h126 f5 => ?_)
  · exact c8_slot hn h4 h (S0 0) hr hs hl hi (fun _ => ⟨rfl, SlE_f h4 h (by decide)⟩) (fun q => absurd q z) (fun q => absurd q z) (fun q => absurd q z)
  · exact c8_slot hn h4 h (S0 0) hr hs hl hi (fun q => absurd z q) (fun _ _ => ⟨rfl, SlE_f h4 h (by decide)⟩) (fun _ q1 q2 => absurd ⟨q1, q2⟩ z2) (fun _ q1 q2 => absurd ⟨q1, q2⟩ z2)
  · exact c8_slot hn h4 h (S0 _) hr hs hl hi (fun q => absurd z q) (fun _ q => absurd ⟨z2, z3⟩ q) (fun _ _ _ _ => ⟨rfl, SlE_f h4 h ⟨by omega, by omega⟩⟩) (fun _ _ _ q => absurd q c)
  · have f0 := fcd_0 c
    have l2 := (h.2 s z.1 (by omega)).1.r.2.2.2 f0.1
    have g5 : ∀ a j, a ≠ 126 → a ≠ 0 → μ5 a j = μ a j := fun a j q1 q2 => by rw [f5 a j q1, zu_na q2]
    have cell : ∀ x, 0 ≤ x → x < μ 99 0 → R32 (μ (122 + s) (i + x)) ∧ μ 139 (60 * s + i + x) = μ (122 + s) (i + x) := fun x x0 x1 => by
      have ce := (h.2 s z.1 (by omega)).2 (i + x) (by omega) (by omega)
      rw [show 60 * s + i + x = 60 * s + (i + x) by omega]
      exact ⟨ce.2.2.2, ce.1.symm⟩
    have hP5 : μ5 99 0 = μ 99 0 := g5 _ _ (by decide) (by decide)
    have hQ5 : ∀ i o, 0 ≤ i → i < 5 → 0 ≤ o → o < 5 → μ5 (101 + i) o = μ (101 + i) o := fun i o i0 i1 _ _ => g5 _ _ (by omega) (by omega)
    -- refused: the memory is the first one but for the cells read and the fault
    have bad : ∀ y : Int, (∀ a, y = a → True) → SlE μ (zu μ5 127 0 0) := fun _ _ => by
      have e : ∀ a j, a ≠ 126 → zu μ5 127 0 0 a j = zu (zu μ 0 8 0) 127 0 0 a j := fun a j q => by
        by_cases d : a = 127 ∧ j = 0
        · rw [d.1, d.2, zu_same, zu_same]
        · rw [zu_ne d, zu_ne d, f5 a j q]
      obtain ⟨s1, s2, s3, s4⟩ := SlE_f h4 h (r := 0) (by decide)
      refine ⟨s1.fz (fun a j q => e a j (fun w => absurd q (by rw [w]; unfold zone; simp))), s2.fx (fun a j _ q => e a j q), fun a j q1 q2 => by rw [e a j (fun w => q2 (by rw [w]; unfold zone; simp))]; exact s3 a j q1 q2, fun a j w => by rw [e a j (by omega)]; exact s4 a j w⟩
    have m8 : ∀ (X : Int) (μ1 : zM), (∀ a j, a = 127 ∧ j ≠ 0 ∨ (137 ≤ a ∧ a ≤ 139) → μ1 a j = μ a j) → (¬ In4 (μ 99 0) (fun x => μ (122 + s) (i + x)) → X = -2 ∧ SlE μ (zu μ1 127 0 0)) → (In4 (μ 99 0) (fun x => μ (122 + s) (i + x)) → ¬ Nf4 (μ 99 0) (fun i o => μ (101 + i) o) (fun x => μ (122 + s) (i + x)) → X = -4 ∧ SlE μ (zu μ1 127 0 0)) → (∀ i o, 0 ≤ i → i < 5 → 0 ≤ o → o < 5 → μ1 147 (5 * i + o) = μ (101 + i) o) → (In4 (μ 99 0) (fun x => μ (122 + s) (i + x)) → Nf4 (μ 99 0) (fun i o => μ (101 + i) o) (fun x => μ (122 + s) (i + x)) → pX8_slot G n (fun b μ2 => X = b ∧ SlE μ μ2) 171 [some (Rv G 127), some (Iv r), none, none, none, none, some (Iv (60 * s + i)), some (Iv 0), none] [] (zu μ1 127 0 0)) → mX8_slot G n r s l i μ1 (fun b μ2 => X = b ∧ SlE μ μ2) := by
      intro X μ1 hS x2 x4 hq x0
      refine c8_slot hn h4 h hS hr hs hl hi (fun q => absurd z q) (fun _ q => absurd ⟨z2, z3⟩ q) (fun _ _ _ q => absurd c q) (fun _ _ _ _ => c8_slotR (f := fun x => μ (122 + s) (i + x)) hn qk (by rw [zu_ne (by omega), hS _ _ (by omega)]; exact p.2.2.2) (fun i o i0 i1 o0 o1 => by rw [zu_na (by decide)]; exact hq i o i0 i1 o0 o1) (by omega) (by omega) (fun x x0 x1 => ?_) x2 x4 x0)
      rw [zu_na (by decide), hS _ _ (by omega), (cell x x0 x1).2]
      exact ⟨rfl, (cell x x0 x1).1⟩
    have S5 : ∀ a j, a = 127 ∧ j ≠ 0 ∨ (137 ≤ a ∧ a ≤ 139) → μ5 a j = μ a j := fun a j q => g5 a j (by omega) (by omega)
    have Q5 : ∀ i o, 0 ≤ i → i < 5 → 0 ≤ o → o < 5 → μ5 147 (5 * i + o) = μ (101 + i) o := fun i o i0 i1 o0 o1 => by
      rw [g5 _ _ (by decide) (by decide)]; exact (h4.2.1 i o i0 i1 o0 o1).2.1.symm
    refine c4_refusal (f := fun x => μ (122 + s) (i + x)) hn qk hP5 hQ5 (fun x x0 x1 => ⟨h126 x x0 x1, (cell x x0 x1).1⟩) (fun ni => ?_) (fun yi nf => ?_) (fun yi yf => ?_)
    · refine ⟨fun q => absurd q (by decide), fun _ => m8 _ μ5 S5 (fun _ => ⟨rfl, bad 0 (fun _ _ => trivial)⟩) (fun q => absurd q ni) Q5 (fun q => absurd q ni)⟩
    · refine ⟨fun q => absurd q (by decide), fun _ => m8 _ μ5 S5 (fun q => absurd yi q) (fun _ _ => ⟨rfl, bad 0 (fun _ _ => trivial)⟩) Q5 (fun _ q => absurd q nf)⟩
    · refine ⟨fun _ => ?_, fun q => absurd rfl q⟩
      obtain ⟨m, pi', po', vd, hc, hm⟩ := hR r z3.1 z3.2 (μ 99 0) (Q1 (μ 99 0) (fun i o => μ (101 + i) o) (fun x => μ (122 + s) (i + x))) (fun i => μ 108 i) (fun i => μ 109 i) (Q1_k qk yi yf) (fun i i0 i1 => ⟨(h4.2.2 i i0 i1).2.1.2, (h4.2.2 i i0 i1).2.2.2⟩)
      refine c4_serve (f := fun x => μ (122 + s) (i + x)) hn z3 qk yi yf vd hc hP5 hQ5 (fun i i0 i1 => ⟨g5 _ _ (by decide) (by decide), g5 _ _ (by decide) (by decide)⟩) h126 (fun ν1 hq1 hm1 f1 => ?_)
      have S1 : ∀ a j, a = 127 ∧ j ≠ 0 ∨ (137 ≤ a ∧ a ≤ 139) → ν1 a j = μ a j := fun a j q => by rw [f1 a j (by omega)]; exact S5 a j q
      refine m8 _ ν1 S1 (fun q => absurd yi q) (fun _ q => absurd yf q) (fun i o i0 i1 o0 o1 => by rw [f1 _ _ (by omega)]; exact Q5 i o i0 i1 o0 o1) (fun _ _ => ?_)
      have g1 : ∀ a j, a ≠ 127 → ¬ (101 ≤ a ∧ a ≤ 117) → a ≠ 126 → a ≠ 0 → zu ν1 127 0 0 a j = μ a j := fun a j q1 q2 q3 q4 => by rw [zu_na q1, f1 a j q2, g5 a j q3 q4]
      refine c8_serve (f := fun x => μ (122 + s) (i + x)) (b := 60 * s + i) hn z3 qk yi yf vd hm (by rw [zu_ne (by omega), S1 _ _ (by omega)]; exact p.2.2.2) (fun i o i0 i1 o0 o1 => ?_) (fun i i0 i1 => ⟨?_, ?_, fun w => ?_⟩) (by omega) (by omega) (fun x x0 x1 => ?_) (fun ν2 hq2 hm2 f2 => ⟨rfl, ?_⟩)
      · rw [g1 _ _ (by decide) (by omega) (by decide) (by decide)]; exact (h4.2.1 i o i0 i1 o0 o1).2.1.symm
      · rw [g1 _ _ (by decide) (by omega) (by decide) (by decide)]; exact (h4.2.2 i i0 i1).2.1.1.symm
      · rw [g1 _ _ (by decide) (by omega) (by decide) (by decide)]; exact (h4.2.2 i i0 i1).2.2.1.symm
      · rw [g1 _ _ (by decide) (by omega) (by decide) (by decide)]
        have := (h4.2.2 i i0 i1).1
        rcases this.2 with q | q
        · rw [← this.1]; exact q
        · omega
      · rw [g1 _ _ (by decide) (by omega) (by decide) (by decide)]; exact (cell x x0 x1).2
      · have c2 : ∀ a j, a ≠ 147 → ¬ Sl8 a j → ¬ (101 ≤ a ∧ a ≤ 117) → a ≠ 126 → a ≠ 0 → ¬ (a = 127 ∧ j = 0) → ν2 a j = μ a j := fun a j q1 q2 q3 q4 q5 q6 => by
          rw [f2 a j q1 q2, zu_ne q6, f1 a j q3, g5 a j q4 q5]
        have cl : ∀ a j, 101 ≤ a → a ≤ 117 → ν2 a j = ν1 a j := fun a j w1 w2 => by rw [f2 a j (by omega) (by unfold Sl8; omega), zu_na (by omega)]
        have e99 : ν2 99 0 = μ 99 0 := c2 _ _ (by decide) (by unfold Sl8; omega) (by omega) (by decide) (by decide) (by omega)
        refine ⟨⟨?_, fun i o i0 i1 o0 o1 => ⟨?_, ?_⟩, fun i i0 i1 => ?_⟩, ?_, fun a j q1 q2 => ?_, fun a j w => ?_⟩
        · rw [e99, c2 45 0 (by decide) (by unfold Sl8; omega) (by omega) (by decide) (by decide) (by omega), c2 127 30 (by decide) (by unfold Sl8; omega) (by omega) (by decide) (by decide) (by omega)]
          exact p
        · rw [c2 (47 + i) o (by omega) (by unfold Sl8; omega) (by omega) (by omega) (by omega) (by omega), c2 145 _ (by decide) (by unfold Sl8; omega) (by omega) (by decide) (by decide) (by omega)]
          exact (h4.2.1 i o i0 i1 o0 o1).1
        · rw [e99, cl _ _ (by omega) (by omega), hq1 i o i0 i1 o0 o1, hq2 i o i0 i1 o0 o1]
          have kk := (Q1_k qk yi yf).2 i o i0 i1 o0 o1
          have vi := (vd i i0 i1).1
          unfold Q2
          split
          · rename_i w
            rcases vi with q | ⟨q1, q2, q3, q4⟩
            · omega
            · rw [w.2] at q4 q2
              exact ⟨rfl, by omega, by omega, fun w2 => by omega⟩
          · exact ⟨rfl, kk⟩
        · rw [e99, cl 106 i (by decide) (by decide), cl 108 i (by decide) (by decide), cl 109 i (by decide) (by decide), (hm1 i i0 i1).1, (hm1 i i0 i1).2.1, (hm1 i i0 i1).2.2, (hm2 i i0 i1).1, (hm2 i i0 i1).2.1, (hm2 i i0 i1).2.2]
          obtain ⟨v1, v2, v3⟩ := vd i i0 i1
          refine ⟨⟨rfl, ?_⟩, ⟨rfl, v2⟩, rfl, v3⟩
          rcases v1 with q | ⟨q1, q2, q3, _⟩
          · exact Or.inl q
          · exact Or.inr ⟨q1, q2, q3⟩
        · refine (h.fault (v := 0) (by decide)).fx (fun a j hz q6 => ?_)
          have n1 : a ≠ 147 := fun w => absurd hz (by rw [w]; unfold zone; simp)
          have n2 : ¬ Sl8 a j := fun w => by
            unfold Sl8 at w
            rcases w with ⟨w1, w2⟩ | w | w | w | w | w
            · rw [w1, w2] at hz; exact absurd hz (by decide)
            all_goals (rw [w, z4_145 (by decide)] at hz; exact absurd hz (by decide))
          have n3 : ¬ (101 ≤ a ∧ a ≤ 117) := fun w => by rw [z4_45 (by omega)] at hz; exact absurd hz (by decide)
          rw [f2 a j n1 n2]
          by_cases d : a = 127 ∧ j = 0
          · rw [d.1, d.2, zu_same, zu_same]
          · rw [zu_ne d, zu_ne d, f1 a j n3, f5 a j q6]
        · have n1 : a ≠ 147 := fun w => q1 (by rw [w]; exact z4_145 (by decide))
          have n2 : ¬ Sl8 a j := fun w => by
            unfold Sl8 at w
            rcases w with ⟨w1, w2⟩ | w | w | w | w | w
            · exact q1 (by rw [w1, w2]; decide)
            all_goals exact q1 (by rw [w]; exact z4_145 (by decide))
          have n3 : ¬ (101 ≤ a ∧ a ≤ 117) := fun w => q1 (z4_45 (by omega))
          have n4 : a ≠ 126 := fun w => q2 (by rw [w]; unfold zone; simp)
          have n5 : a ≠ 0 := fun w => q2 (by rw [w]; unfold zone; simp)
          have n6 : ¬ (a = 127 ∧ j = 0) := fun w => q2 (by rw [w.1, w.2]; decide)
          exact c2 a j n1 n2 n3 n4 n5 n6
        · exact c2 a j (by omega) (by unfold Sl8; omega) (by omega) (by omega) (by omega) (by omega)
end T65
