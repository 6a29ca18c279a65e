section T32
variable {G : zG} {n : Nat} {μ ν : zM}
def I3 (μ : zM) : Prop := B3 μ ∧ Led (μ 31) (μ 32) (μ 30 0) (μ 30 1).toNat μ
theorem z3_30 {a i : Int} (h : 30 ≤ a ∧ a ≤ 44) : zone a i = 3 := by
  unfold zone
  rw [if_neg (by omega), if_neg (by omega), if_neg (by omega), if_pos (by omega)]
theorem z3_141 {a i : Int} (h : 141 ≤ a ∧ a ≤ 144) : zone a i = 3 := by
  unfold zone
  rw [if_neg (by omega), if_neg (by omega), if_neg (by omega), if_neg (by omega), if_neg (by omega), if_neg (by omega), if_neg (by omega), if_neg (by omega), if_neg (by omega), if_neg (by omega), if_neg (by omega), if_pos (by omega)]
theorem Led.eq {A B : Int → Int} {W : Int} {C : Nat} (h8 : W ≤ 8) (h : Led A B W C μ) (e : ∀ a j, Ldp a j → ν a j = μ a j) : Led A B W C ν := by
  refine ⟨fun c hc => ?_, ?_, fun k w k0 k1 w0 w1 r hr => ?_⟩
  · rw [e 33 c (by unfold Ldp; omega), e 34 c (by unfold Ldp; omega)]; exact h.1 c hc
  · rw [e 30 2 (by unfold Ldp; omega)]; exact h.2.1
  · rw [e (37 + k) w (by unfold Ldp; omega)]; exact h.2.2 k w k0 k1 w0 w1 r hr
theorem I3.eq (h : I3 μ) (e : ∀ a j, zone a j = 3 → a ≠ 143 → a ≠ 144 → ν a j = μ a j) : I3 ν := by
  have e30 : ∀ a j, 30 ≤ a → a ≤ 44 → ν a j = μ a j := fun a j x y => e a j (z3_30 ⟨x, y⟩) (by omega) (by omega)
  have f31 : ν 31 = μ 31 := funext (fun j => e30 31 j (by decide) (by decide))
  have f32 : ν 32 = μ 32 := funext (fun j => e30 32 j (by decide) (by decide))
  have f30 : ν 30 = μ 30 := funext (fun j => e30 30 j (by decide) (by decide))
  have f1 : ν 127 1 = μ 127 1 := e 127 1 rfl (by decide) (by decide)
  have f24 : ν 127 24 = μ 127 24 := e 127 24 rfl (by decide) (by decide)
  have f25 : ν 127 25 = μ 127 25 := e 127 25 rfl (by decide) (by decide)
  have f141 : ν 141 = μ 141 := funext (fun j => e 141 j rfl (by decide) (by decide))
  have f142 : ν 142 = μ 142 := funext (fun j => e 142 j rfl (by decide) (by decide))
  obtain ⟨b, l⟩ := h
  have w8 := b.1.2.2
  refine ⟨?_, ?_⟩
  · unfold B3 at b ⊢
    rw [f30, f31, f32, f1, f24, f25, f141, f142]; exact b
  · have := l.eq (ν := ν) w8 (fun a j q => by unfold Ldp at q; exact e30 a j (by omega) (by omega))
    rw [f31, f32, f30]; exact this
theorem t_wires (hn : 154 ≤ n) (h : I3 μ) {w : Int} (hw : R32 w) : mX7_wires G n w μ (fun a μ1 => mX8_wires G n w μ1 (fun b μ2 => a = b ∧ I3 μ2 ∧ Fz 3 μ μ2)) := by
  obtain ⟨w1, w2⟩ := id hw
  obtain ⟨b, l⟩ := id h
  refine eX7_wires hn (c_within hn ?_)
  simp (disch := omega) only [wr_of, ite_b0, Classical.not_not]
  refine ⟨fun z v4 e4 => eX0_begin (by omega) (fun μ1 e1 μ2 e2 => c0_leadAll (W := w) (C := 0) (by omega) ?_ z.1 z.2 ?_ (by decide) (fun c c0 c1 => by omega) (fun ν hL hf => eX8_wires hn (c8_within hn ?_))), fun z => eX8_wires hn (c8_within hn ?_)⟩
  · rw [e2, zu_ne (by decide), e1, zu_same]
  · rw [e2, zu_same]; rfl
  · simp (disch := omega) only [wr_of, ite_b0, Classical.not_not]
    refine ⟨fun _ v5 e5 μ5 e6 μ6 e7 => ?_, fun q => absurd z q⟩
    have V2 : ∀ a j, μ2 a j = if a = 30 ∧ j = 1 then 0 else if a = 30 ∧ j = 0 then w else μ a j := fun a j => by rw [e2, e1]; rfl
    have V : ∀ a j, μ6 a j = if a = 127 ∧ j = 25 then 0 else if a = 127 ∧ j = 24 then w else ν a j := fun a j => by rw [e7, e6]; rfl
    have g : ∀ j, ν 127 j = μ 127 j := fun j => by rw [hf _ _ (by unfold Ldp; omega), V2, if_neg (by omega), if_neg (by omega)]
    have w30 : μ6 30 0 = w := by rw [V, if_neg (by omega), if_neg (by omega), hf _ _ (by unfold Ldp; omega), V2, if_neg (by omega), if_pos ⟨rfl, rfl⟩]
    have w31 : μ6 30 1 = 0 := by rw [V, if_neg (by omega), if_neg (by omega), hf _ _ (by unfold Ldp; omega), V2, if_pos ⟨rfl, rfl⟩]
    refine ⟨by rw [e4, e5, g, b.2.1.1], ⟨⟨?_, ?_, ?_, ?_⟩, ?_⟩, ?_⟩
    · rw [w30, V, if_neg (by omega), if_pos ⟨rfl, rfl⟩]; exact ⟨rfl, z⟩
    · rw [w31, V, if_pos ⟨rfl, rfl⟩]; exact ⟨rfl, by decide, by decide⟩
    · rw [V, if_neg (by omega), if_neg (by omega), V, if_neg (by omega), if_neg (by omega), g, hf _ _ (by unfold Ldp; omega), V2, if_neg (by omega), if_neg (by omega)]
      exact b.2.2.1
    · intro c c0 c1
      rw [w31] at c1; omega
    · rw [w30, w31]
      have f31 : μ6 31 = μ2 31 := funext (fun j => by rw [V, if_neg (by omega), if_neg (by omega), hf _ _ (by unfold Ldp; omega)])
      have f32 : μ6 32 = μ2 32 := funext (fun j => by rw [V, if_neg (by omega), if_neg (by omega), hf _ _ (by unfold Ldp; omega)])
      rw [f31, f32]
      exact hL.eq z.2 (fun a j q => by unfold Ldp at q; rw [V, if_neg (by omega), if_neg (by omega)])
    · intro a j hz
      have n1 : ¬ (30 ≤ a ∧ a ≤ 44) := fun q => hz (z3_30 q)
      have n2 : ¬ (a = 127 ∧ j = 25) := fun q => hz (by rw [q.1, q.2]; decide)
      have n3 : ¬ (a = 127 ∧ j = 24) := fun q => hz (by rw [q.1, q.2]; decide)
      rw [V, if_neg n2, if_neg n3, hf _ _ (by unfold Ldp; omega), V2, if_neg (by omega), if_neg (by omega)]
  · simp (disch := omega) only [wr_of, ite_b0, Classical.not_not]
    exact ⟨fun q => absurd q z, fun _ => ⟨trivial, h, Fz.rf⟩⟩
theorem t_back (hn : 154 ≤ n) (h : I3 μ) : mX7_back G n μ (fun a μ1 => mX8_back G n μ1 (fun b μ2 => a = b ∧ I3 μ2 ∧ Fz 3 μ μ2)) := by
  obtain ⟨b, l⟩ := id h
  have bb := b.2.1
  refine eX7_back hn ?_
  simp (disch := omega) only [wr_of]
  refine ⟨fun z => eX0_dropLatest (by omega) (fun μ1 e1 => c0_leadAll (W := μ 30 0) (C := (μ 30 1 - 1).toNat) (by omega) ?_ b.1.2.1 b.1.2.2 ?_ (by omega) (fun c c0 c1 => ?_) (fun ν hL hf => eX8_back hn ?_)), fun z => eX8_back hn ?_⟩
  · rw [e1, zu_ne (by decide)]
  · rw [e1, zu_same]; omega
  · rw [e1, zu_na (by decide), zu_na (by decide)]
    have := b.2.2.2 c c0 (by omega)
    exact ⟨this.2.2.1, this.2.2.2.1, this.2.2.2.2.1, this.2.2.2.2.2.1, this.2.2.2.2.2.2⟩
  · have g : ∀ j, ν 127 j = μ 127 j := fun j => by rw [hf _ _ (by unfold Ldp; omega), e1, zu_na (by decide)]
    rw [g, ← bb.1]
    simp (disch := omega) only [wr_of]
    refine ⟨fun _ μ2 e2 => ?_, fun q => absurd q z⟩
    have V : ∀ a j, μ2 a j = if a = 127 ∧ j = 25 then μ 30 1 - 1 else ν a j := fun a j => by rw [e2]; rfl
    have w30 : μ2 30 0 = μ 30 0 := by rw [V, if_neg (by omega), hf _ _ (by unfold Ldp; omega), e1, zu_ne (by decide)]
    have w31 : μ2 30 1 = μ 30 1 - 1 := by rw [V, if_neg (by omega), hf _ _ (by unfold Ldp; omega), e1, zu_same]
    have U : ∀ a j, a ≠ 30 → ¬ Ldp a j → ¬ (a = 127 ∧ j = 25) → μ2 a j = μ a j := fun a j q1 q2 q3 => by rw [V, if_neg q3, hf _ _ q2, e1, zu_na q1]
    have f31 : μ2 31 = μ 31 := funext (fun j => U 31 j (by decide) (by unfold Ldp; omega) (by omega))
    have f32 : μ2 32 = μ 32 := funext (fun j => U 32 j (by decide) (by unfold Ldp; omega) (by omega))
    refine ⟨?_, ⟨⟨?_, ?_, ?_, ?_⟩, ?_⟩, ?_⟩
    · rw [V, if_pos ⟨rfl, rfl⟩, hf _ _ (by unfold Ldp; omega), e1, zu_same]
    · rw [w30, U 127 24 (by decide) (by unfold Ldp; omega) (by omega)]; exact b.1
    · rw [w31, V, if_pos ⟨rfl, rfl⟩]; omega
    · rw [V, if_neg (by omega), hf _ _ (by unfold Ldp; omega), e1, zu_ne (by decide), U 127 1 (by decide) (by unfold Ldp; omega) (by omega)]
      exact b.2.2.1
    · intro c c0 c1
      rw [w31] at c1
      rw [w30, f31, f32, U 141 c (by decide) (by unfold Ldp; omega) (by omega), U 142 c (by decide) (by unfold Ldp; omega) (by omega)]
      exact b.2.2.2 c c0 (by omega)
    · rw [w30, w31, f31, f32]
      have e31 : μ1 31 = μ 31 := funext (fun j => by rw [e1, zu_na (by decide)])
      have e32 : μ1 32 = μ 32 := funext (fun j => by rw [e1, zu_na (by decide)])
      rw [e31, e32] at hL
      exact hL.eq b.1.2.2 (fun a j q => by unfold Ldp at q; rw [V, if_neg (by omega)])
    · intro a j hz
      have n1 : ¬ (30 ≤ a ∧ a ≤ 44) := fun q => hz (z3_30 q)
      have n2 : ¬ (a = 127 ∧ j = 25) := fun q => hz (by rw [q.1, q.2]; decide)
      exact U a j (by omega) (by unfold Ldp; omega) n2
  · rw [← bb.1]
    simp (disch := omega) only [wr_of]
    exact ⟨fun q => absurd z q, fun _ => ⟨trivial, h, Fz.rf⟩⟩
theorem c8_isWire (hn : 154 ≤ n) {W : Int} (hw : ν 127 24 = W) (hW : 2 ≤ W ∧ W ≤ 8) {x : Int} (hx : R32 x) {K : Int → zM → Prop} (hK : K (if 0 ≤ x ∧ x < W then 1 else 0) ν) : mX8_isWire G n x ν K := by
  obtain ⟨x1, x2⟩ := hx
  refine eX8_isWire hn ?_
  rw [hw]
  simp (disch := omega) only [wr_of]
  exact ⟨fun z => by rwa [if_neg (by omega)] at hK, fun z => ⟨fun z2 => by rwa [if_neg (by omega)] at hK, fun z2 => by rwa [if_pos (by omega)] at hK⟩⟩
theorem t_compare (hn : 154 ≤ n) (h : I3 μ) {p q : Int} (hp : R32 p) (hq : R32 q) : mX7_compare G n p q μ (fun a μ1 => mX8_compare G n p q μ1 (fun b μ2 => a = b ∧ I3 μ2 ∧ Fz 3 μ μ2)) := by
  obtain ⟨p1, p2⟩ := id hp
  obtain ⟨q1, q2⟩ := id hq
  obtain ⟨b, l⟩ := id h
  have bb := b.2.1
  have b0 := b.1
  have m8 : ∀ c : Int, (¬ ((0 ≤ p ∧ p < μ 30 0) ∧ (0 ≤ q ∧ q < μ 30 0)) → c = -1) → ((0 ≤ p ∧ p < μ 30 0) → (0 ≤ q ∧ q < μ 30 0) → p = q → c = -2) → ((0 ≤ p ∧ p < μ 30 0) → (0 ≤ q ∧ q < μ 30 0) → p ≠ q → μ 30 1 = 30 ∧ c = -4) → mX8_compare G n p q μ (fun b μ2 => c = b ∧ I3 μ2 ∧ Fz 3 μ μ2) := by
    intro c k1 k2 k3
    refine eX8_compare hn (c8_isWire hn b0.1.symm b0.2 hp ?_)
    simp (disch := omega) only [wr_of, ite_b0, Classical.not_not]
    refine ⟨fun z => ⟨k1 (fun w => z w.1), h, Fz.rf⟩, fun z => c8_isWire hn b0.1.symm b0.2 hq ?_⟩
    simp (disch := omega) only [wr_of, ite_b0, Classical.not_not]
    rw [← bb.1]
    refine ⟨fun z2 => ⟨fun z3 => ⟨fun z4 => ?_, fun z4 => ⟨(k3 z z2 z3).2, h, Fz.rf⟩⟩, fun z3 => ⟨k2 z z2 z3, h, Fz.rf⟩⟩, fun z2 => ⟨k1 (fun w => z2 w.2), h, Fz.rf⟩⟩
    rw [(k3 z z2 z3).1] at z4
    exact absurd rfl z4
  refine eX7_compare hn (c_within hn ?_)
  simp (disch := omega) only [wr_of, ite_b0, Classical.not_not]
  refine ⟨fun z => m8 _ (fun _ => rfl) (fun w => by omega) (fun w => by omega), fun z => c_within hn ?_⟩
  simp (disch := omega) only [wr_of, ite_b0, Classical.not_not]
  refine ⟨fun z2 => ⟨fun z3 => ⟨fun z4 => eX0_append (by omega) ?_, fun z4 => m8 _ (fun w => by omega) (fun _ _ w => absurd w z3) (fun _ _ _ => ⟨by omega, rfl⟩)⟩, fun z3 => m8 _ (fun w => by omega) (fun _ _ _ => rfl) (fun _ _ w => absurd z3 w)⟩, fun z2 => m8 _ (fun _ => rfl) (fun _ w => by omega) (fun _ w => by omega)⟩
  simp (disch := omega) only [wr_of]
  refine ⟨by omega, fun μ2 e2 => ?_⟩
  have g2 : μ2 30 1 = μ 30 1 := by rw [e2, zu_na (by decide)]
  rw [g2]
  simp (disch := omega) only [wr_of]
  refine ⟨by omega, fun μ4 e4 μ5 e5 => ?_⟩
  have g4 : μ4 30 1 = μ 30 1 := by rw [e4, zu_na (by decide), g2]
  rw [g4] at e5
  have V5 : ∀ a j, μ5 a j = if a = 30 ∧ j = 1 then μ 30 1 + 1 else if a = 32 ∧ j = μ 30 1 then q else if a = 31 ∧ j = μ 30 1 then p else μ a j := fun a j => by rw [e5, e4, e2]; rfl
  refine c0_leadAll (W := μ 30 0) (C := (μ 30 1 + 1).toNat) (by omega) ?_ b0.2.1 b0.2.2 ?_ (by omega) (fun c c0 c1 => ?_) (fun ν hL hf => eX8_compare hn (c8_isWire (W := μ 30 0) hn ?_ b0.2 hp ?_))
  · rw [V5, if_neg (by omega), if_neg (by omega), if_neg (by omega)]
  · rw [V5, if_pos ⟨rfl, rfl⟩]; omega
  · by_cases d : c = μ 30 1
    · rw [V5, if_neg (by omega), if_neg (by omega), if_pos ⟨rfl, d⟩, V5, if_neg (by omega), if_pos ⟨rfl, d⟩]; omega
    · have := b.2.2.2 c c0 (by omega)
      rw [V5, if_neg (by omega), if_neg (by omega), if_neg (by omega), V5, if_neg (by omega), if_neg (by omega), if_neg (by omega)]
      exact ⟨this.2.2.1, this.2.2.2.1, this.2.2.2.2.1, this.2.2.2.2.2.1, this.2.2.2.2.2.2⟩
  · rw [hf _ _ (by unfold Ldp; omega), V5, if_neg (by omega), if_neg (by omega), if_neg (by omega)]; exact b0.1.symm
  · simp (disch := omega) only [wr_of, ite_b0, Classical.not_not]
    have g127 : ∀ j, ν 127 j = μ 127 j := fun j => by rw [hf _ _ (by unfold Ldp; omega), V5, if_neg (by omega), if_neg (by omega), if_neg (by omega)]
    refine ⟨fun w => by omega, fun _ => c8_isWire (W := μ 30 0) hn (by rw [g127]; exact b0.1.symm) b0.2 hq ?_⟩
    simp (disch := omega) only [wr_of, ite_b0, Classical.not_not]
    rw [g127, ← bb.1]
    simp (disch := omega) only [wr_of]
    refine ⟨fun _ => ⟨fun _ => ⟨fun _ => ⟨by omega, fun μ10 e10 => ?_⟩, fun w => by omega⟩, fun w => absurd w z3⟩, fun w => by omega⟩
    have g10 : μ10 127 25 = μ 30 1 := by rw [e10, zu_na (by decide), g127, bb.1]
    rw [g10]
    simp (disch := omega) only [wr_of]
    refine ⟨by omega, fun μ12 e12 μ13 e13 => ?_⟩
    have g12 : μ12 127 25 = μ 30 1 := by rw [e12, zu_na (by decide), g10]
    rw [g12] at e13
    have V : ∀ a j, μ13 a j = if a = 127 ∧ j = 25 then μ 30 1 + 1 else if a = 142 ∧ j = μ 30 1 then q else if a = 141 ∧ j = μ 30 1 then p else ν a j := fun a j => by rw [e13, e12, e10]; rfl
    have U : ∀ a j, a < 127 → μ13 a j = ν a j := fun a j w => by rw [V, if_neg (by omega), if_neg (by omega), if_neg (by omega)]
    have N : ∀ a j, ¬ Ldp a j → ν a j = if a = 30 ∧ j = 1 then μ 30 1 + 1 else if a = 32 ∧ j = μ 30 1 then q else if a = 31 ∧ j = μ 30 1 then p else μ a j := fun a j w => by rw [hf _ _ w, V5]
    have w30 : μ13 30 0 = μ 30 0 := by rw [U _ _ (by decide), N _ _ (by unfold Ldp; omega), if_neg (by omega), if_neg (by omega), if_neg (by omega)]
    have w31 : μ13 30 1 = μ 30 1 + 1 := by rw [U _ _ (by decide), N _ _ (by unfold Ldp; omega), if_pos ⟨rfl, rfl⟩]
    refine ⟨?_, ⟨⟨?_, ?_, ?_, ?_⟩, ?_⟩, ?_⟩
    · rw [V, if_pos ⟨rfl, rfl⟩, N _ _ (by unfold Ldp; omega), if_pos ⟨rfl, rfl⟩]
    · rw [w30, V, if_neg (by omega), if_neg (by omega), if_neg (by omega), g127]; exact b0
    · rw [w31, V, if_pos ⟨rfl, rfl⟩]; omega
    · rw [U _ _ (by decide), N _ _ (by unfold Ldp; omega), if_neg (by omega), if_neg (by omega), if_neg (by omega), V, if_neg (by omega), if_neg (by omega), if_neg (by omega), g127]
      exact b.2.2.1
    · intro c c0 c1
      rw [w31] at c1
      rw [w30, U 31 c (by decide), U 32 c (by decide), N 31 c (by unfold Ldp; omega), N 32 c (by unfold Ldp; omega)]
      by_cases d : c = μ 30 1
      · rw [if_neg (by omega), if_neg (by omega), if_pos ⟨rfl, d⟩, if_neg (by omega), if_pos ⟨rfl, d⟩, V, if_neg (by omega), if_neg (by omega), if_pos ⟨rfl, d⟩, V, if_neg (by omega), if_pos ⟨rfl, d⟩]
        omega
      · have := b.2.2.2 c c0 (by omega)
        rw [if_neg (by omega), if_neg (by omega), if_neg (by omega), if_neg (by omega), if_neg (by omega), if_neg (by omega), V, if_neg (by omega), if_neg (by omega), if_neg (by omega), V, if_neg (by omega), if_neg (by omega), if_neg (by omega), N _ _ (by unfold Ldp; omega), N _ _ (by unfold Ldp; omega), if_neg (by omega), if_neg (by omega), if_neg (by omega), if_neg (by omega), if_neg (by omega), if_neg (by omega)]
        exact this
    · rw [w30, w31]
      have f31 : μ13 31 = μ5 31 := funext (fun j => by rw [U _ _ (by decide), hf _ _ (by unfold Ldp; omega)])
      have f32 : μ13 32 = μ5 32 := funext (fun j => by rw [U _ _ (by decide), hf _ _ (by unfold Ldp; omega)])
      rw [f31, f32]
      exact hL.eq b0.2.2 (fun a j w => by unfold Ldp at w; exact U a j (by omega))
    · intro a j hz
      have n1 : ¬ (30 ≤ a ∧ a ≤ 44) := fun w => hz (z3_30 w)
      have n2 : ¬ (a = 127 ∧ j = 25) := fun w => hz (by rw [w.1, w.2]; decide)
      have n3 : ¬ (141 ≤ a ∧ a ≤ 144) := fun w => hz (z3_141 w)
      rw [V, if_neg n2, if_neg (by omega), if_neg (by omega), N _ _ (by unfold Ldp; omega), if_neg (by omega), if_neg (by omega), if_neg (by omega)]
end T32
