section T55
variable {G : zG} {n : Nat} {μ ν κ V : zM}
theorem I1.r7 (h : I1 V) {s a : Int} (s0 : 0 ≤ s) (s1 : s < 5) (a0 : 0 ≤ a) (a1 : a < 7) : (-9 ≤ V (7 + s) a ∧ V (7 + s) a < 20) ∧ (-9 ≤ V (13 + s) a ∧ V (13 + s) a < 20) := ⟨h.lr (Or.inl rfl) s0 s1 a0 a1, h.lr (Or.inr rfl) s0 s1 a0 a1⟩
theorem c6_few (hn : 154 ≤ n) (h : I1 V) (r : Rc V κ) {i o : Int} (hi : 0 ≤ i ∧ i < V 1 0 * V 1 1) (ho : 0 ≤ o ∧ o < V 1 0 * V 1 1) {K : Int → zM → Prop}
    (hK : ∀ z, z = few V (i / V 1 1) (o / V 1 1) (κ 1 11) (κ 1 12) → ∀ ν : zM, ν 1 11 = z.2.1 → ν 1 12 = z.2.2 → (∀ a j, a ≠ 18 → ¬ (a = 1 ∧ (j = 11 ∨ j = 12)) → ν a j = κ a j) → K z.1 ν) : mX6_fewestMoves G n i o κ K := by
  have g := h.gd
  have gN := g.nn
  have g1 := g.1
  have g2 := g.2.1
  have g3 := g.2.2
  have s1 := sw_lt hi.1 hi.2 (show 0 < V 1 1 by omega)
  have s2 := sw_lt ho.1 ho.2 (show 0 < V 1 1 by omega)
  refine eX6_fewestMoves (by omega) (c6_sw (e := V 1 1) hn r.1.2.1 g2.2.1 g2.2.2 hi.1 (by omega) (c6_sw (e := V 1 1) hn r.1.2.1 g2.2.1 g2.2.2 ho.1 (by omega) (fun v5 e5 => ?_)))
  rw [e5]
  have rc : ∀ {ν : zM}, (∀ a j, a ≠ 18 → ¬ (a = 1 ∧ (j = 11 ∨ j = 12)) → ν a j = κ a j) → Rc V ν := fun hf => ⟨by rw [hf _ _ (by decide) (by decide), hf _ _ (by decide) (by decide), hf _ _ (by decide) (by decide)]; exact r.1, fun s a s0 s1 a0 a1 => by rw [hf _ _ (by omega) (by omega), hf _ _ (by omega) (by omega)]; exact r.2.1 s a s0 s1 a0 a1, fun i i0 i1 q => by rw [hf _ _ (by decide) (by omega), hf _ _ (by decide) (by omega)]; exact r.2.2 i i0 i1 q⟩
  have inner : ∀ (a : Int), 0 ≤ a → a < V 1 2 → ∀ (f : Nat) (b : Int) (z : Int × Int × Int) (ν : zM), 0 ≤ b → b + f = V 1 2 → Pz V (i / V 1 1) (o / V 1 1) z → ν 1 11 = z.2.1 → ν 1 12 = z.2.2 → (∀ a j, a ≠ 18 → ¬ (a = 1 ∧ (j = 11 ∨ j = 12)) → ν a j = κ a j) →
      (∀ z', z' = fB V (i / V 1 1) (o / V 1 1) a f b z → ∀ ν : zM, ν 1 11 = z'.2.1 → ν 1 12 = z'.2.2 → (∀ a j, a ≠ 18 → ¬ (a = 1 ∧ (j = 11 ∨ j = 12)) → ν a j = κ a j) → pX6_fewestMoves G n K 20 [some (Rv G 1), none, none, some (Iv (i / V 1 1)), some (Iv (o / V 1 1)), some (Iv z'.1), some (Iv (a + 1)), none, none] [] ν) →
      pX6_fewestMoves G n K 32 [some (Rv G 1), none, none, some (Iv (i / V 1 1)), some (Iv (o / V 1 1)), some (Iv z.1), some (Iv a), some (Iv b), none] [] ν := by
    intro a a0 a1 f
    induction f with
    | zero =>
      intro b z ν b0 eb hz hA hB hf nx
      refine bX6_fewestMoves_32 (by omega) ?_
      rw [(rc hf).1.2.2]
      simp (disch := omega) only [wr_of]
      exact ⟨fun _ => nx z rfl ν hA hB hf, fun q => by omega⟩
    | succ f ih =>
      intro b z ν b0 eb hz hA hB hf nx
      have R := rc hf
      have l7 := h.r7 s1.1 (by omega) a0 (by omega)
      have l13 := h.r7 s2.1 (by omega) b0 (by omega)
      have zr := hz.r
      have nz := stp_P (s := i / V 1 1) h s2 ⟨a0, a1⟩ ⟨b0, by omega⟩ hz
      refine bX6_fewestMoves_32 (by omega) ?_
      rw [R.1.2.2, show (6 : Int) + 1 = 7 from rfl, show (12 : Int) + 1 = 13 from rfl]
      simp (disch := omega) only [wr_of]
      rw [(R.2.1 _ _ s1.1 (by omega) a0 (by omega)).1, (R.2.1 _ _ s2.1 (by omega) b0 (by omega)).2]
      simp (disch := omega) only [wr_of]
      have skip : ¬ (V (7 + i / V 1 1) a = -9 ∧ V (13 + o / V 1 1) b = -9) → pX6_fewestMoves G n K 32 [some (Rv G 1), none, none, some (Iv (i / V 1 1)), some (Iv (o / V 1 1)), some (Iv z.1), some (Iv a), some (Iv (b + 1)), none] [] ν := fun q => by
        have e : stp V (i / V 1 1) (o / V 1 1) a b z = z := by unfold stp; rw [if_neg q]
        refine ih (b + 1) z ν (by omega) (by omega) hz hA hB hf (fun z' ez => nx z' ?_)
        rw [ez]
        show _ = fB V _ _ a f (b + 1) (stp V _ _ a b z)
        rw [e]
      refine ⟨fun q => by omega, fun _ => ⟨by omega, by omega, fun q => skip (fun w => q w.1), fun q => ⟨by omega, by omega, fun q2 => ?_, fun q2 => skip (fun w => q2 w.2)⟩⟩⟩
      have cx : Cx V a b (o / V 1 1) := ⟨h, s2, ⟨a0, a1⟩, ⟨b0, by omega⟩, q2⟩
      have cl := (clen_s cx).1
      refine c6_follow hn cx R (fun ν9 h9 f9 => ?_)
      have hf9 : ∀ a j, a ≠ 18 → ¬ (a = 1 ∧ (j = 11 ∨ j = 12)) → ν9 a j = κ a j := fun a j q1 q2 => by rw [f9 a j q1, hf a j q1 q2]
      simp (disch := omega) only [wr_of]
      have upd : ∀ μ12 : zM, (z.1 = -9 ∨ (clen V a b (o / V 1 1) : Int) < z.1) → (∀ x j, μ12 x j = if x = 1 ∧ j = 12 then b else if x = 1 ∧ j = 11 then a else ν9 x j) → pX6_fewestMoves G n K 32 [some (Rv G 1), none, none, some (Iv (i / V 1 1)), some (Iv (o / V 1 1)), some (Iv (clen V a b (o / V 1 1))), some (Iv a), some (Iv (b + 1)), none] [] μ12 := fun μ12 w U => by
        have e : stp V (i / V 1 1) (o / V 1 1) a b z = ((clen V a b (o / V 1 1) : Int), a, b) := by unfold stp; rw [if_pos ⟨q, q2⟩, if_pos w]
        rw [e] at nz
        refine ih (b + 1) ((clen V a b (o / V 1 1) : Int), a, b) μ12 (by omega) (by omega) nz ?_ ?_ (fun x j y1 y2 => ?_) (fun z' ez => nx z' ?_)
        · rw [U, if_neg (by decide), if_pos ⟨rfl, rfl⟩]
        · rw [U, if_pos ⟨rfl, rfl⟩]
        · rw [U, if_neg (by omega), if_neg (by omega)]; exact hf9 x j y1 y2
        · rw [ez]
          show _ = fB V _ _ a f (b + 1) (stp V _ _ a b z)
          rw [e]
      refine ⟨fun w μ11 e11 μ12 e12 => upd μ12 (Or.inl w) (fun x j => by rw [e12, e11]; rfl), fun w => ⟨fun w2 => ?_, fun w2 μ11 e11 μ12 e12 => upd μ12 (Or.inr (by omega)) (fun x j => by rw [e12, e11]; rfl)⟩⟩
      have e : stp V (i / V 1 1) (o / V 1 1) a b z = z := by unfold stp; rw [if_pos ⟨q, q2⟩, if_neg (by omega)]
      refine ih (b + 1) z ν9 (by omega) (by omega) hz (by rw [f9 _ _ (by decide)]; exact hA) (by rw [f9 _ _ (by decide)]; exact hB) hf9 (fun z' ez => nx z' ?_)
      rw [ez]
      show _ = fB V _ _ a f (b + 1) (stp V _ _ a b z)
      rw [e]
  have outer : ∀ (f : Nat) (a : Int) (z : Int × Int × Int) (ν : zM), 0 ≤ a → a + f = V 1 2 → Pz V (i / V 1 1) (o / V 1 1) z → ν 1 11 = z.2.1 → ν 1 12 = z.2.2 → (∀ a j, a ≠ 18 → ¬ (a = 1 ∧ (j = 11 ∨ j = 12)) → ν a j = κ a j) → few V (i / V 1 1) (o / V 1 1) (κ 1 11) (κ 1 12) = fA V (i / V 1 1) (o / V 1 1) (V 1 2).toNat f a z → pX6_fewestMoves G n K 20 [some (Rv G 1), none, none, some (Iv (i / V 1 1)), some (Iv (o / V 1 1)), some (Iv z.1), some (Iv a), none, none] [] ν := by
    intro f
    induction f with
    | zero =>
      intro a z ν a0 ea hz hA hB hf ef
      refine bX6_fewestMoves_20 (by omega) ?_
      rw [(rc hf).1.2.2]
      simp (disch := omega) only [wr_of]
      exact ⟨fun _ => hK z ef.symm ν hA hB hf, fun q => by omega⟩
    | succ f ih =>
      intro a z ν a0 ea hz hA hB hf ef
      refine bX6_fewestMoves_20 (by omega) ?_
      rw [(rc hf).1.2.2]
      simp (disch := omega) only [wr_of]
      refine ⟨fun q => by omega, fun _ => inner a a0 (by omega) (V 1 2).toNat 0 z ν (by decide) (by omega) hz hA hB hf (fun z' ez ν' hA' hB' hf' => ?_)⟩
      refine ih (a + 1) z' ν' (by omega) (by omega) ?_ hA' hB' hf' ?_
      · rw [ez]; exact fB_P h s2 ⟨a0, by omega⟩ _ 0 z (by decide) (by omega) hz
      · rw [ef, ez]; rfl
  exact outer (V 1 2).toNat 0 (-9, κ 1 11, κ 1 12) κ (by decide) (by omega) (Or.inl rfl) rfl rfl (fun _ _ _ _ => rfl) rfl
theorem c8_few (hn : 154 ≤ n) (h : I1 V) (m : Sm3 V κ) {i o : Int} (hi : 0 ≤ i ∧ i < V 1 0 * V 1 1) (ho : 0 ≤ o ∧ o < V 1 0 * V 1 1) {K : Int → zM → Prop}
    (hK : ∀ z, z = few V (i / V 1 1) (o / V 1 1) (κ 127 8) (κ 127 9) → ∀ ν : zM, ν 127 8 = z.2.1 → ν 127 9 = z.2.2 → (∀ a j, a ≠ 130 → ¬ (a = 127 ∧ (j = 8 ∨ j = 9)) → ν a j = κ a j) → K z.1 ν) : mX8_fewest G n i o κ K := by
  have g := h.gd
  have gN := g.nn
  have g1 := g.1
  have g2 := g.2.1
  have g3 := g.2.2
  have s1 := sw_lt hi.1 hi.2 (show 0 < V 1 1 by omega)
  have s2 := sw_lt ho.1 ho.2 (show 0 < V 1 1 by omega)
  refine eX8_fewest hn (fun v5 e5 => ?_)
  rw [e5]
  have rc : ∀ {ν : zM}, (∀ a j, a ≠ 130 → ¬ (a = 127 ∧ (j = 8 ∨ j = 9)) → ν a j = κ a j) → Sm3 V ν := fun hf => ⟨by rw [hf _ _ (by decide) (by decide), hf _ _ (by decide) (by decide), hf _ _ (by decide) (by decide)]; exact m.1, fun j => by rw [hf _ _ (by decide) (by omega)]; exact m.2.1 j, fun j => by rw [hf _ _ (by decide) (by omega)]; exact m.2.2 j⟩
  have inner : ∀ (a : Int), 0 ≤ a → a < V 1 2 → V (7 + i / V 1 1) a = -9 → ∀ (f : Nat) (b : Int) (z : Int × Int × Int) (ν : zM), 0 ≤ b → b + f = V 1 2 → Pz V (i / V 1 1) (o / V 1 1) z → ν 127 8 = z.2.1 → ν 127 9 = z.2.2 → (∀ a j, a ≠ 130 → ¬ (a = 127 ∧ (j = 8 ∨ j = 9)) → ν a j = κ a j) →
      (∀ z', z' = fB V (i / V 1 1) (o / V 1 1) a f b z → ∀ ν : zM, ν 127 8 = z'.2.1 → ν 127 9 = z'.2.2 → (∀ a j, a ≠ 130 → ¬ (a = 127 ∧ (j = 8 ∨ j = 9)) → ν a j = κ a j) → pX8_fewest G n K 6 [some (Rv G 127), some (Iv i), some (Iv o), some (Iv z'.1), some (Iv (a + 1)), none, none] [] ν) →
      pX8_fewest G n K 38 [some (Rv G 127), some (Iv i), some (Iv o), some (Iv z.1), some (Iv a), some (Iv b), none] [] ν := by
    intro a a0 a1 q f
    induction f with
    | zero =>
      intro b z ν b0 eb hz hA hB hf nx
      refine bX8_fewest_38 hn ?_
      rw [(rc hf).1.2.2, ← g3.1]
      simp (disch := omega) only [wr_of]
      exact ⟨fun _ => nx z rfl ν hA hB hf, fun q => by omega⟩
    | succ f ih =>
      intro b z ν b0 eb hz hA hB hf nx
      have R := rc hf
      have l13 := h.r7 s2.1 (by omega) b0 (by omega)
      have zr := hz.r
      have nz := stp_P (s := i / V 1 1) h s2 ⟨a0, a1⟩ ⟨b0, by omega⟩ hz
      refine bX8_fewest_38 hn ?_
      rw [R.1.2.2, R.1.2.1, ← g3.1, ← g2.1, zdiv_of ho.1 (by omega) (by omega) (by omega)]
      simp (disch := omega) only [wr_of]
      refine ⟨fun q => by omega, fun _ => ⟨by omega, c8_right3 hn R h s2.1 s2.2 b0 (by omega) ?_⟩⟩
      simp (disch := omega) only [wr_of]
      refine ⟨fun q2 => ?_, fun q2 => ?_⟩
      · have cx : Cx V a b (o / V 1 1) := ⟨h, s2, ⟨a0, a1⟩, ⟨b0, by omega⟩, q2⟩
        have cl := (clen_s cx).1
        rw [R.1.2.1, ← g2.1, zdiv_of ho.1 (by omega) (by omega) (by omega)]
        refine ⟨by rw [wr_of (by omega) (by omega)]; omega, c8_chain hn cx R (fun ν9 h9 f9 => ?_)⟩
        have hf9 : ∀ a j, a ≠ 130 → ¬ (a = 127 ∧ (j = 8 ∨ j = 9)) → ν9 a j = κ a j := fun a j q1 q2 => by rw [f9 a j q1, hf a j q1 q2]
        simp (disch := omega) only [wr_of]
        have upd : ∀ μ12 : zM, (z.1 = -9 ∨ (clen V a b (o / V 1 1) : Int) < z.1) → (∀ x j, μ12 x j = if x = 127 ∧ j = 9 then b else if x = 127 ∧ j = 8 then a else ν9 x j) → pX8_fewest G n K 38 [some (Rv G 127), some (Iv i), some (Iv o), some (Iv (clen V a b (o / V 1 1))), some (Iv a), some (Iv (b + 1)), none] [] μ12 := fun μ12 w U => by
          have e : stp V (i / V 1 1) (o / V 1 1) a b z = ((clen V a b (o / V 1 1) : Int), a, b) := by unfold stp; rw [if_pos ⟨q, q2⟩, if_pos w]
          rw [e] at nz
          refine ih (b + 1) ((clen V a b (o / V 1 1) : Int), a, b) μ12 (by omega) (by omega) nz ?_ ?_ (fun x j y1 y2 => ?_) (fun z' ez => nx z' ?_)
          · rw [U, if_neg (by decide), if_pos ⟨rfl, rfl⟩]
          · rw [U, if_pos ⟨rfl, rfl⟩]
          · rw [U, if_neg (by omega), if_neg (by omega)]; exact hf9 x j y1 y2
          · rw [ez]
            show _ = fB V _ _ a f (b + 1) (stp V _ _ a b z)
            rw [e]
        refine ⟨fun w μ11 e11 μ12 e12 => upd μ12 (Or.inl w) (fun x j => by rw [e12, e11]; rfl), fun w => ⟨fun w2 => ?_, fun w2 μ11 e11 μ12 e12 => upd μ12 (Or.inr (by omega)) (fun x j => by rw [e12, e11]; rfl)⟩⟩
        have e : stp V (i / V 1 1) (o / V 1 1) a b z = z := by unfold stp; rw [if_pos ⟨q, q2⟩, if_neg (by omega)]
        refine ih (b + 1) z ν9 (by omega) (by omega) hz (by rw [f9 _ _ (by decide)]; exact hA) (by rw [f9 _ _ (by decide)]; exact hB) hf9 (fun z' ez => nx z' ?_)
        rw [ez]
        show _ = fB V _ _ a f (b + 1) (stp V _ _ a b z)
        rw [e]
      · have e : stp V (i / V 1 1) (o / V 1 1) a b z = z := by unfold stp; rw [if_neg (fun w => q2 w.2)]
        refine ih (b + 1) z ν (by omega) (by omega) hz hA hB hf (fun z' ez => nx z' ?_)
        rw [ez]
        show _ = fB V _ _ a f (b + 1) (stp V _ _ a b z)
        rw [e]
  have outer : ∀ (f : Nat) (a : Int) (z : Int × Int × Int) (ν : zM), 0 ≤ a → a + f = V 1 2 → Pz V (i / V 1 1) (o / V 1 1) z → ν 127 8 = z.2.1 → ν 127 9 = z.2.2 → (∀ a j, a ≠ 130 → ¬ (a = 127 ∧ (j = 8 ∨ j = 9)) → ν a j = κ a j) → few V (i / V 1 1) (o / V 1 1) (κ 127 8) (κ 127 9) = fA V (i / V 1 1) (o / V 1 1) (V 1 2).toNat f a z → pX8_fewest G n K 6 [some (Rv G 127), some (Iv i), some (Iv o), some (Iv z.1), some (Iv a), none, none] [] ν := by
    intro f
    induction f with
    | zero =>
      intro a z ν a0 ea hz hA hB hf ef
      refine bX8_fewest_6 hn ?_
      rw [(rc hf).1.2.2, ← g3.1]
      simp (disch := omega) only [wr_of]
      exact ⟨fun _ => hK z ef.symm ν hA hB hf, fun q => by omega⟩
    | succ f ih =>
      intro a z ν a0 ea hz hA hB hf ef
      have R := rc hf
      have l7 := h.r7 s1.1 (by omega) a0 (by omega)
      refine bX8_fewest_6 hn ?_
      rw [R.1.2.2, R.1.2.1, ← g3.1, ← g2.1, zdiv_of hi.1 (by omega) (by omega) (by omega)]
      simp (disch := omega) only [wr_of]
      refine ⟨fun q => by omega, fun _ => ⟨by omega, c8_left3 hn R h s1.1 s1.2 a0 (by omega) ?_⟩⟩
      simp (disch := omega) only [wr_of]
      refine ⟨fun q => inner a a0 (by omega) q (V 1 2).toNat 0 z ν (by decide) (by omega) hz hA hB hf (fun z' ez ν' hA' hB' hf' => ?_), fun q => ?_⟩
      · refine ih (a + 1) z' ν' (by omega) (by omega) ?_ hA' hB' hf' ?_
        · rw [ez]; exact fB_P h s2 ⟨a0, by omega⟩ _ 0 z (by decide) (by omega) hz
        · rw [ef, ez]; rfl
      · refine ih (a + 1) z ν (by omega) (by omega) hz hA hB hf ?_
        rw [ef]
        show fA V _ _ _ f (a + 1) (fB V _ _ a _ 0 z) = _
        rw [fB_skip q]
  exact outer (V 1 2).toNat 0 (-9, κ 127 8, κ 127 9) κ (by decide) (by omega) (Or.inl rfl) rfl rfl (fun _ _ _ _ => rfl) rfl
theorem Rc_self (h : I1 μ) : Rc μ μ := ⟨⟨rfl, rfl, rfl⟩, fun _ _ _ _ _ _ => ⟨rfl, rfl⟩, fun _ _ _ _ => ⟨rfl, rfl⟩⟩
theorem z1_1 {a j : Int} (h : 1 ≤ a ∧ a ≤ 18 ∨ 128 ≤ a ∧ a ≤ 132) : zone a j = 1 := by
  unfold zone
  rcases h with h | h
  · rw [if_neg (by omega), if_pos (by omega)]
  · rw [if_neg (by omega), if_neg (by omega), if_neg (by omega), if_neg (by omega), if_neg (by omega), if_neg (by omega), if_neg (by omega), if_pos (by omega)]
theorem z1_127 {j : Int} (h : 2 ≤ j ∧ j ≤ 11) : zone 127 j = 1 := by
  unfold zone
  rw [if_neg (by decide), if_neg (by decide), if_neg (by decide), if_neg (by decide), if_neg (by decide), if_neg (by decide), if_pos rfl, if_neg (by omega), if_neg (by omega), if_pos (by omega)]
theorem E1_of {ν : zM} (hf : ∀ a j, a ≠ 18 → a ≠ 130 → ¬ (a = 1 ∧ (j = 11 ∨ j = 12)) → ¬ (a = 127 ∧ (j = 8 ∨ j = 9)) → ν a j = μ a j) : E1 μ ν ∧ Fz 1 μ ν := by
  refine ⟨⟨⟨hf _ _ (by decide) (by decide) (by decide) (by decide), hf _ _ (by decide) (by decide) (by decide) (by decide), hf _ _ (by decide) (by decide) (by decide) (by decide), hf _ _ (by decide) (by decide) (by decide) (by decide)⟩, ⟨hf _ _ (by decide) (by decide) (by decide) (by decide), hf _ _ (by decide) (by decide) (by decide) (by decide), hf _ _ (by decide) (by decide) (by decide) (by decide)⟩, fun i _ _ => ⟨hf _ _ (by decide) (by decide) (by omega) (by omega), hf _ _ (by decide) (by decide) (by omega) (by omega), hf _ _ (by decide) (by decide) (by omega) (by omega), hf _ _ (by decide) (by decide) (by omega) (by omega), fun _ => hf _ _ (by decide) (by decide) (by omega) (by omega)⟩, fun s a s0 s1 _ _ => ⟨hf _ _ (by omega) (by omega) (by omega) (by omega), hf _ _ (by omega) (by omega) (by omega) (by omega)⟩⟩, fun a j hz => hf a j (fun q => hz (z1_1 (by omega))) (fun q => hz (z1_1 (by omega))) (fun q => hz (z1_1 (by omega))) (fun q => hz (by rw [q.1]; exact z1_127 (by omega)))⟩
/-- the model's three tests ahead of a call -/
theorem c8_refuse (hn : 154 ≤ n) (hS : Sm3 V ν) (h : I1 V) {i o : Int} (hi : R32 i) (ho : R32 o) {K : Int → zM → Prop} {Q : zM → Prop} (k1 : rfz V i o = -1 → K (-1) ν) (k3 : rfz V i o = -3 → K (-3) ν) (k0 : rfz V i o = 0 → Q ν) : mX8_isLine G n i ν (fun r1 μ2 => ((wr r1 = 0 → (K ((-1)) μ2)) ∧ (¬ (wr r1 = 0) → (mX8_isLine G n o μ2 (fun r4 μ5 => ((¬ wr r4 = 0 → (mX8_isTaken G n i o μ5 (fun r7 μ8 => ((wr r7 = 0 → Q μ8) ∧ (¬ (wr r7 = 0) → (K ((-3)) μ8)))))) ∧ (wr r4 = 0 → (K ((-1)) μ5)))))))) := by
  obtain ⟨i1, i2⟩ := id hi
  obtain ⟨o1, o2⟩ := id ho
  obtain ⟨I, M⟩ := over_I1 h hS
  have hN := h.gd.nn
  have e10 : over V ν 1 0 = V 1 0 := over_ne (by decide)
  have e11 : over V ν 1 1 = V 1 1 := over_ne (by decide)
  refine c8_isLine' hn M I.gd hi ?_
  rw [e10, e11]
  simp (disch := omega) only [wr_of, ite_b0, Classical.not_not]
  refine ⟨fun z => k1 (by unfold rfz; rw [if_neg (fun q => z q.1)]), fun z => c8_isLine' hn M I.gd ho ?_⟩
  rw [e10, e11]
  simp (disch := omega) only [wr_of, ite_b0, Classical.not_not]
  refine ⟨fun z2 => c8_isTaken' hn M I z.1 (by rw [e10, e11]; exact z.2) z2.1 (by rw [e10, e11]; exact z2.2) ?_, fun z2 => k1 (by unfold rfz; rw [if_neg (fun q => z2 q.2)])⟩
  rw [over_ne (by decide), over_ne (by decide)]
  by_cases fr : V 2 i = -9 ∧ V 3 o = -9
  · rw [if_pos fr]
    exact ⟨fun _ => k0 (by unfold rfz; rw [if_pos ⟨z, z2⟩, if_pos fr]), fun q => absurd rfl q⟩
  · rw [if_neg fr]
    exact ⟨fun q => absurd q (by decide), fun _ => k3 (by unfold rfz; rw [if_pos ⟨z, z2⟩, if_neg fr])⟩
theorem rfz_r (μ : zM) (i o : Int) : rfz μ i o = -1 ∨ rfz μ i o = -3 ∨ (rfz μ i o = 0 ∧ (0 ≤ i ∧ i < μ 1 0 * μ 1 1) ∧ (0 ≤ o ∧ o < μ 1 0 * μ 1 1) ∧ μ 2 i = -9 ∧ μ 3 o = -9) := by
  unfold rfz
  split
  · rename_i c
    split
    · rename_i d; exact Or.inr (Or.inr ⟨rfl, c.1, c.2, d⟩)
    · exact Or.inr (Or.inl rfl)
  · exact Or.inl rfl
theorem t_moves (hn : 154 ≤ n) (h : I1 μ) {i o : Int} (hi : R32 i) (ho : R32 o) : mX7_moves G n i o μ (fun a μ1 => mX8_moves G n i o μ1 (fun b μ2 => a = b ∧ I1 μ2 ∧ Fz 1 μ μ2)) := by
  have S0 : Sm3 μ μ := ⟨⟨rfl, rfl, rfl⟩, fun _ => rfl, fun _ => rfl⟩
  refine eX7_moves hn (c6_refusalOf hn h hi ho ?_)
  rcases rfz_r μ i o with q | q | ⟨q, fi, fo, f2, f3⟩
  · rw [q]
    exact ⟨fun z => absurd z (by decide), fun _ => eX8_moves hn (c8_refuse (K := fun b μ2 => -1 = b ∧ I1 μ2 ∧ Fz 1 μ μ2) (Q := fun μ8 => mX8_fewest G n i o μ8 (fun r10 μ11 => -1 = r10 ∧ I1 μ11 ∧ Fz 1 μ μ11)) hn S0 h hi ho (fun _ => ⟨rfl, h, Fz.rf⟩) (fun z => by omega) (fun z => by omega))⟩
  · rw [q]
    exact ⟨fun z => absurd z (by decide), fun _ => eX8_moves hn (c8_refuse (K := fun b μ2 => -3 = b ∧ I1 μ2 ∧ Fz 1 μ μ2) (Q := fun μ8 => mX8_fewest G n i o μ8 (fun r10 μ11 => -3 = r10 ∧ I1 μ11 ∧ Fz 1 μ μ11)) hn S0 h hi ho (fun z => by omega) (fun _ => ⟨rfl, h, Fz.rf⟩) (fun z => by omega))⟩
  · rw [q]
    refine ⟨fun _ => c6_few hn h (Rc_self h) fi fo (fun z ez ν1 hA hB f1 => ?_), fun z => absurd rfl z⟩
    have m1 : Sm3 μ ν1 := ⟨⟨f1 _ _ (by decide) (by decide), f1 _ _ (by decide) (by decide), f1 _ _ (by decide) (by decide)⟩, fun j => f1 _ _ (by decide) (by omega), fun j => f1 _ _ (by decide) (by omega)⟩
    refine eX8_moves hn (c8_refuse (K := fun b μ2 => z.1 = b ∧ I1 μ2 ∧ Fz 1 μ μ2) (Q := fun μ8 => mX8_fewest G n i o μ8 (fun r10 μ11 => z.1 = r10 ∧ I1 μ11 ∧ Fz 1 μ μ11)) hn m1 h hi ho (fun z => by omega) (fun z => by omega) (fun _ => c8_few hn h m1 fi fo (fun z' ez' ν2 _ _ f2 => ⟨?_, ?_⟩)))
    · rw [ez, ez']; exact few_R.1
    · obtain ⟨e, f⟩ := E1_of (μ := μ) (ν := ν2) (fun a j q1 q2 q3 q4 => by rw [f2 a j q2 q4, f1 a j q1 q3])
      exact ⟨h.eq1 e, f⟩
end T55
