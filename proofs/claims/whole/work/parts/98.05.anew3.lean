section T62
variable {G : zG} {n : Nat} {μ ν κ V W : zM} {a b t : Int}
/-- what the model has saved -/
def Sv (μ ν : zM) : Prop := ∀ j, 0 ≤ j → j < 20 → ν 131 j = μ 128 j ∧ ν 132 j = μ 129 j
/-- places of the model that laying anew changes -/
def M8 (x j : Int) : Prop := (128 ≤ x ∧ x ≤ 132) ∨ (x = 127 ∧ (j = 8 ∨ j = 9))
theorem c8_anew (hn : 154 ≤ n) (h : I1 μ) (m : Sm3 μ κ) {K : Int → zM → Prop}
    (h1 : (∀ x, x < 20 → ¬ Afl μ x) → ∀ ν : zM, Sm3 (AV μ 20) ν → (∀ x j, ¬ M8 x j → ν x j = κ x j) → K (cA μ 20) ν)
    (h0 : ∀ x, x < 20 → (∀ y, y < x → ¬ Afl μ y) → Afl μ x → ∀ ν : zM, (∀ j, 0 ≤ j → j < 20 → ν 128 j = μ 128 j ∧ ν 129 j = μ 129 j) → (∀ x j, ¬ M8 x j → ν x j = κ x j) → K (-3) ν) : mX8_anew G n κ K := by
  have g := h.gd
  have gN := g.nn
  have g1 := g.1
  have g2 := g.2.1
  have g3 := g.2.2
  have ln : ∀ {ν : zM}, (∀ x j, ¬ M8 x j → ν x j = κ x j) → ν 127 2 * ν 127 3 = μ 1 0 * μ 1 1 := fun hf => by
    rw [hf _ _ (by unfold M8; omega), hf _ _ (by unfold M8; omega), m.1.1, m.1.2.1]; exact gN.2.2
  have rr : ∀ j, 0 ≤ j → j < 20 → (0 ≤ μ 128 j ∧ μ 128 j ≤ 20) := fun j j0 j1 => h.r128 j0 j1
  -- the last loop, all laid
  have last1 : (∀ x, x < 20 → ¬ Afl μ x) → ∀ ν : zM, Sm3 (AV μ 20) ν → Sv μ ν → (∀ x j, ¬ M8 x j → ν x j = κ x j) → ∀ f k : Nat, k + f = 20 → pX8_anew G n K 104 [some (Rv G 127), some (Iv 1), some (Iv (cA μ k)), some (Iv k)] [] ν := by
    intro nf ν S sv hf f
    have p := AV_s h 20 (Nat.le_refl _) nf
    have pa := Pa_all h p
    induction f with
    | zero =>
      intro k ek
      have : k = 20 := by omega
      subst this
      exact bX8_anew_104 hn ⟨fun _ => ⟨fun q => absurd q (by decide), fun _ => h1 nf ν S hf⟩, fun q => absurd (by decide) q⟩
    | succ f ih =>
      intro k ek
      have r := rr k (by omega) (by omega)
      have e8 : ν 128 k = μ 128 k := by rw [S.2.1]; exact (pa.1 k (by omega) (by omega)).2.2
      have nx := ih (k + 1) (by omega)
      have E : cA μ (k + 1) = cA μ k + (if (if μ 2 k = -9 then -9 else AV μ 20 4 k) = μ 4 k then 0 else 1) := rfl
      rw [E] at nx
      refine bX8_anew_104 hn ?_
      simp (disch := omega) only [wr_of]
      rw [e8]
      try simp (disch := omega) only [wr_of]
      refine ⟨fun z => by omega, fun _ => ⟨fun _ => ⟨by omega, fun z => ?_, fun z => ⟨by omega, by omega, ?_⟩⟩, fun z => absurd z (by decide)⟩⟩
      · rcases h.row k (by omega) (by omega) with d | d
        · rw [if_pos d.1, if_pos d.2.2.symm] at nx; exact nx
        · have := d.2.1; omega
      · rcases h.row k (by omega) (by omega) with d | d
        · have := d.2.1; omega
        · have m2 : μ 2 k ≠ -9 := by have := d.2.1; omega
          have u := p.1.up2 (i := k) (by omega) (by omega) (by rw [(pa.1 k (by omega) (by omega)).1]; exact m2)
          have u4 := u.2.2.1
          have d4 := d.2.2.1
          have w2 : AV μ 20 1 2 = μ 1 2 := p.2.2.1 2 (by decide)
          have e9 : ν 129 k = AV μ 20 4 k := by rw [S.2.2]; exact u4.2.2
          have e32 : ν 132 k = μ 4 k := by rw [(sv k (by omega) (by omega)).2]; exact d4.2.2
          rw [if_neg m2] at nx
          rw [e9, e32]
          simp (disch := omega) only [wr_of]
          refine ⟨fun z => ?_, fun z => ?_⟩
          · rw [if_pos z] at nx; exact nx
          · rw [if_neg z] at nx; exact nx
  -- the last loop, going back
  have last0 : ∀ x, x < 20 → (∀ y, y < x → ¬ Afl μ y) → Afl μ x → ∀ (f k : Nat) (w : Int) (ν : zM), k + f = 20 → Sv μ ν → (∀ j : Int, 0 ≤ j → j < k → ν 128 j = μ 128 j ∧ ν 129 j = μ 129 j) → (∀ x j, ¬ M8 x j → ν x j = κ x j) → pX8_anew G n K 104 [some (Rv G 127), some (Iv 0), some (Iv w), some (Iv k)] [] ν := by
    intro x hx nf fl f
    induction f with
    | zero =>
      intro k w ν ek sv hb hf
      have : k = 20 := by omega
      subst this
      exact bX8_anew_104 hn ⟨fun _ => ⟨fun _ => h0 x hx nf fl ν hb hf, fun q => absurd rfl q⟩, fun q => absurd (by decide) q⟩
    | succ f ih =>
      intro k w ν ek sv hb hf
      have r := rr k (by omega) (by omega)
      refine bX8_anew_104 hn ?_
      simp (disch := omega) only [wr_of]
      refine ⟨fun z => by omega, fun _ => ⟨fun z => absurd trivial z, fun _ => ⟨by omega, by omega, fun μ11 e11 => ⟨by omega, by omega, fun μ14 e14 => ?_⟩⟩⟩⟩
      have U : ∀ y j, μ14 y j = if y = 129 ∧ j = k then ν 132 k else if y = 128 ∧ j = k then ν 131 k else ν y j := fun y j => by
        rw [e14, show μ11 132 k = ν 132 k by rw [e11, zu_na (by decide)], e11]; rfl
      have nx : ∀ w', pX8_anew G n K 104 [some (Rv G 127), some (Iv 0), some (Iv w'), some (Iv ((k : Int) + 1))] [] μ14 := fun w' => by
        refine ih (k + 1) w' μ14 (by omega) (fun j j0 j1 => ?_) (fun j j0 j1 => ?_) (fun y j q => ?_)
        · rw [U, if_neg (by omega), if_neg (by omega), U, if_neg (by omega), if_neg (by omega)]; exact sv j j0 j1
        · by_cases e : j = k
          · rw [U, if_neg (by omega), if_pos ⟨rfl, e⟩, U, if_pos ⟨rfl, e⟩, e]; exact sv k (by omega) (by omega)
          · rw [U, if_neg (by omega), if_neg (by omega), U, if_neg (by omega), if_neg (by omega)]; exact hb j j0 (by omega)
        · unfold M8 at q
          rw [U, if_neg (by omega), if_neg (by omega)]; exact hf y j (by unfold M8; omega)
      refine ⟨by omega, fun z => nx _, fun z => ⟨by omega, by omega, fun z2 => nx _, fun z2 => nx _⟩⟩
  -- the loop over the inlets
  have main : ∀ (f x : Nat) (ν : zM), (x : Int) + f = μ 1 0 * μ 1 1 → (∀ y, y < x → ¬ Afl μ y) → Sm3 (AV μ x) ν → Sv μ ν → (∀ x j, ¬ M8 x j → ν x j = κ x j) → pX8_anew G n K 49 [some (Rv G 127), some (Iv 1), some (Iv x), none] [] ν := by
    intro f
    induction f with
    | zero =>
      intro x ν ex nf S sv hf
      refine bX8_anew_49 hn (eX8_lines hn ?_)
      rw [ln hf]
      simp (disch := omega) only [wr_of]
      refine ⟨fun _ => ?_, fun z => by omega⟩
      have e20 := AV_up h (x := x) (by omega) (20 - x) (by omega)
      rw [show x + (20 - x) = 20 by omega] at e20
      rw [← e20] at S
      refine last1 (fun y hy q => ?_) ν S sv hf 20 0 (by omega)
      by_cases lt : y < x
      · exact nf y lt q
      · apply q.1
        rcases h.row y (by omega) (by omega) with d | d
        · exact d.1
        · have := d.1; omega
    | succ f ih =>
      intro x ν ex nf S sv hf
      have pA := AV_s h x (by omega) nf
      have r := rr x (by omega) (by omega)
      have e31 := (sv x (by omega) (by omega)).1
      refine bX8_anew_49 hn (eX8_lines hn ?_)
      rw [ln hf]
      simp (disch := omega) only [wr_of]
      rw [e31]
      try simp (disch := omega) only [wr_of]
      refine ⟨fun z => by omega, fun _ => ⟨fun z => absurd z (by decide), fun _ => ⟨by omega, fun z => ih (x + 1) ν (by omega) (fun y hy q => ?_) ?_ sv hf, fun z => ⟨by omega, ?_⟩⟩⟩⟩
      · by_cases e : y = x
        · subst e
          apply q.1
          rcases h.row y (by omega) (by omega) with d | d
          · exact d.1
          · have := d.2.1; omega
        · exact nf y (by omega) q
      · have m2 : μ 2 x = -9 := by
          rcases h.row x (by omega) (by omega) with d | d
          · exact d.1
          · have := d.2.1; omega
        show Sm3 (if _ then _ else _) ν
        rw [if_pos m2]; exact S
      · rcases h.row x (by omega) (by omega) with d | d
        · exact absurd d.2.1 z
        · have m2 : μ 2 x ≠ -9 := by have := d.2.1; omega
          have fr := Pa_free h (by omega) pA m2
          have w1 : AV μ x 1 1 = μ 1 1 := pA.2.2.1 1 (by decide)
          rw [show μ 128 x - 1 = μ 2 x by have := d.2.1; omega]
          refine c8_mendOne hn pA.1 S fr.1 fr.2.1 fr.2.2.1 fr.2.2.2 (fun zz ez hz ν1 f1 => ?_) (fun zz ez hz ν1 S1 f1 => ?_)
          · have rz := few_R (V := AV μ x) (s := (x : Int) / μ 1 1) (t := μ 2 x / μ 1 1) (A := ν 127 8) (B := ν 127 9) (A' := 0) (B' := 0)
            rw [w1] at ez
            rw [← ez] at rz
            have fl : Afl μ x := ⟨m2, by rw [← rz.1]; exact hz⟩
            have hf1 : ∀ x j, ¬ M8 x j → ν1 x j = κ x j := fun y j q => by unfold M8 at q; rw [f1 y j (by omega) (by omega)]; exact hf y j (by unfold M8; omega)
            have sv1 : Sv μ ν1 := fun j j0 j1 => by rw [f1 _ _ (by decide) (by omega), f1 _ _ (by decide) (by omega)]; exact sv j j0 j1
            have fin := last0 x (by omega) nf fl 20 0 0 ν1 (by omega) sv1 (fun j j0 j1 => by omega) hf1
            refine ⟨fun _ => bX8_anew_49 hn (eX8_lines hn ⟨fun _ => fin, fun _ => ⟨fun _ => fin, fun q => absurd rfl q⟩⟩), fun q => absurd rfl q⟩
          · have rz := few_R (V := AV μ x) (s := (x : Int) / μ 1 1) (t := μ 2 x / μ 1 1) (A := ν 127 8) (B := ν 127 9) (A' := 0) (B' := 0)
            have zr := (ez ▸ few_P (s := (x : Int) / AV μ x 1 1) (A := ν 127 8) (B := ν 127 9) pA.1 (sw_lt fr.2.1.1 fr.2.1.2 (show 0 < AV μ x 1 1 by rw [w1]; omega)) : Pz (AV μ x) (x / AV μ x 1 1) (μ 2 x / AV μ x 1 1) zz).r
            rw [w1] at ez
            rw [← ez] at rz
            have hf1 : ∀ x j, ¬ M8 x j → ν1 x j = κ x j := fun y j q => by unfold M8 at q; rw [f1 y j (by omega) (by omega) (by omega) (by omega)]; exact hf y j (by unfold M8; omega)
            have sv1 : Sv μ ν1 := fun j j0 j1 => by rw [f1 _ _ (by decide) (by decide) (by decide) (by omega), f1 _ _ (by decide) (by decide) (by decide) (by omega)]; exact sv j j0 j1
            simp (disch := omega) only [wr_of]
            refine ⟨fun q => absurd q hz, fun _ => ih (x + 1) ν1 (by omega) (fun y hy q => ?_) ?_ sv1 hf1⟩
            · by_cases e : y = x
              · subst e; exact hz (rz.1.trans q.2)
              · exact nf y (by omega) q
            · show Sm3 (if _ then _ else _) ν1
              rw [if_neg m2, ← rz.2 hz, ← w1]
              exact S1
  -- the first loop
  have save : ∀ (f k : Nat) (ν : zM), k + f = 20 → (∀ j : Int, 0 ≤ j → j < k → ν 131 j = μ 128 j ∧ ν 132 j = μ 129 j) → (∀ j : Int, ν 128 j = if 0 ≤ j ∧ j < k then 0 else μ 128 j) → (∀ j, ν 129 j = μ 129 j) → (∀ x j, ¬ M8 x j → ν x j = κ x j) → pX8_anew G n K 2 [some (Rv G 127), some (Iv k), none, none] [] ν := by
    intro f
    induction f with
    | zero =>
      intro k ν ek hs h8 h9 hf
      have : k = 20 := by omega
      subst this
      refine bX8_anew_2 hn ⟨fun _ => main (μ 1 0 * μ 1 1).toNat 0 ν (by omega) (fun y hy => by omega) ⟨?_, fun j => ?_, fun j => ?_⟩ (fun j j0 j1 => hs j j0 (by omega)) hf, fun q => absurd (by decide) q⟩
      · obtain ⟨_, b2, _⟩ := V0_s h
        show _ ∧ _ ∧ _
        rw [show AV μ 0 = V0 μ from rfl, b2, b2, b2, hf _ _ (by unfold M8; omega), hf _ _ (by unfold M8; omega), hf _ _ (by unfold M8; omega)]
        exact m.1
      · rw [h8]
        show _ = V0 μ 128 j
        unfold V0
        by_cases c : 0 ≤ j ∧ j < 20
        · rw [if_pos (by omega), if_neg (by omega), if_pos ⟨rfl, c⟩]
        · rw [if_neg (by omega), if_neg (by omega), if_neg (by omega), if_neg (by omega), if_neg (by omega)]
      · obtain ⟨_, _, _, _, b5⟩ := V0_s h
        show _ = V0 μ 129 j
        rw [h9, b5]
    | succ f ih =>
      intro k ν ek hs h8 h9 hf
      refine bX8_anew_2 hn ?_
      simp (disch := omega) only [wr_of]
      refine ⟨fun z => by omega, fun _ => ⟨by omega, by omega, fun μ4 e4 => ⟨by omega, by omega, fun μ7 e7 => ⟨by omega, fun μ9 e9 => ?_⟩⟩⟩⟩
      have U : ∀ y j, μ9 y j = if y = 128 ∧ j = k then 0 else if y = 132 ∧ j = k then ν 129 k else if y = 131 ∧ j = k then ν 128 k else ν y j := fun y j => by
        rw [e9, e7, show μ4 129 k = ν 129 k by rw [e4, zu_na (by decide)], e4]; rfl
      refine ih (k + 1) μ9 (by omega) (fun j j0 j1 => ?_) (fun j => ?_) (fun j => ?_) (fun y j q => ?_)
      · by_cases e : j = k
        · rw [U, if_neg (by omega), if_neg (by omega), if_pos ⟨rfl, e⟩, U, if_neg (by omega), if_pos ⟨rfl, e⟩, h8, if_neg (by omega), h9, e]; exact ⟨rfl, rfl⟩
        · rw [U, if_neg (by omega), if_neg (by omega), if_neg (by omega), U, if_neg (by omega), if_neg (by omega), if_neg (by omega)]; exact hs j j0 (by omega)
      · rw [U]
        by_cases e : j = k
        · rw [if_pos ⟨rfl, e⟩, if_pos (by omega)]
        · rw [if_neg (by omega), if_neg (by omega), if_neg (by omega), h8]
          by_cases c : 0 ≤ j ∧ j < k
          · rw [if_pos c, if_pos (by omega)]
          · rw [if_neg c, if_neg (by omega)]
      · rw [U, if_neg (by omega), if_neg (by omega), if_neg (by omega)]; exact h9 j
      · unfold M8 at q
        rw [U, if_neg (by omega), if_neg (by omega), if_neg (by omega)]; exact hf y j (by unfold M8; omega)
  exact eX8_anew hn (save 20 0 κ (by omega) (fun j j0 j1 => by omega) (fun j => by rw [if_neg (by omega)]; exact m.2.1 j) m.2.2 (fun _ _ _ => rfl))
theorem t_anew (hn : 154 ≤ n) (h : I1 μ) : mX7_anew G n μ (fun a μ1 => mX8_anew G n μ1 (fun b μ2 => a = b ∧ I1 μ2 ∧ Fz 1 μ μ2)) := by
  have S : ∀ {ν : zM}, Ka μ ν → Sm3 μ ν := fun k => ⟨⟨k.2.2.2 _ _ (by unfold Mv; omega) (by decide) (by decide) (by decide), k.2.2.2 _ _ (by unfold Mv; omega) (by decide) (by decide) (by decide), k.2.2.2 _ _ (by unfold Mv; omega) (by decide) (by decide) (by decide)⟩, fun j => k.2.2.2 _ _ (by unfold Mv; omega) (by decide) (by decide) (by omega), fun j => k.2.2.2 _ _ (by unfold Mv; omega) (by decide) (by decide) (by omega)⟩
  have fz : ∀ {ν1 ν2 : zM}, Ka μ ν1 → (∀ x j, ¬ M8 x j → ν2 x j = ν1 x j) → Fz 1 μ ν2 := fun k f x j hz => by
    have n1 : ¬ (1 ≤ x ∧ x ≤ 18 ∨ 128 ≤ x ∧ x ≤ 132) := fun w => hz (z1_1 w)
    have n2 : ¬ (x = 127 ∧ (j = 8 ∨ j = 9)) := fun w => hz (by rw [w.1]; exact z1_127 (by omega))
    rw [f x j (by unfold M8; omega)]
    exact k.2.2.2 x j (by unfold Mv; omega) (by omega) (by omega) (by omega)
  refine eX7_anew hn (c6_anew hn h (fun nf ν1 k R => ?_) (fun x hx nf fl ν1 k h4 hl => ?_))
  · refine c8_anew hn h (S k) (fun _ ν2 S2 f2 => ?_) (fun x hx nf' fl => absurd fl (nf x hx))
    have p := AV_s h 20 (Nat.le_refl _) nf
    have pa := Pa_all h p
    have c3 : ∀ x j, x < 127 → ν2 x j = ν1 x j := fun x j w => f2 x j (by unfold M8; omega)
    refine ⟨rfl, p.1.eq1 ⟨⟨?_, ?_, ?_, ?_⟩, S2.1, fun j j0 j1 => ⟨?_, ?_, ?_, S2.2.1 j, fun _ => S2.2.2 j⟩, fun s x s0 s1 x0 x1 => ⟨?_, ?_⟩⟩, fz k f2⟩
    · rw [c3 _ _ (by decide)]; exact R.1.1
    · rw [c3 _ _ (by decide)]; exact R.1.2.1
    · rw [c3 _ _ (by decide)]; exact R.1.2.2
    · rw [c3 _ _ (by decide), k.2.2.2 _ _ (by unfold Mv; omega) (by decide) (by decide) (by decide)]; exact pa.2.symm
    · rw [c3 _ _ (by decide), k.1 j]; exact (pa.1 j j0 j1).1.symm
    · rw [c3 _ _ (by decide), k.2.2.2 _ _ (by unfold Mv; omega) (by decide) (by decide) (by omega)]; exact (pa.1 j j0 j1).2.1.symm
    · rw [c3 _ _ (by decide)]
      by_cases q : μ 2 j = -9
      · rw [k.2.2.1 j j0 j1 q]
        rcases p.1.row j j0 j1 with d | d
        · exact d.2.2.symm
        · have := d.2.1; have := (pa.1 j j0 j1).1; omega
      · exact (R.2.2 j j0 j1 (by rw [(pa.1 j j0 j1).1]; exact q)).2
    · rw [c3 _ _ (by omega)]; exact (R.2.1 s x s0 s1 x0 x1).1
    · rw [c3 _ _ (by omega)]; exact (R.2.1 s x s0 s1 x0 x1).2
  · refine c8_anew hn h (S k) (fun nf' => absurd fl (nf' x hx)) (fun x' hx' nf' fl' ν2 b2 f2 => ?_)
    have c3 : ∀ x j, x < 127 → ν2 x j = ν1 x j := fun x j w => f2 x j (by unfold M8; omega)
    have k1 : ∀ j, j ≠ 11 → j ≠ 12 → ν1 1 j = μ 1 j := fun j q1 q2 => k.2.2.2 1 j (by unfold Mv; omega) (by decide) (by decide) (by omega)
    refine ⟨rfl, h.eq1 ⟨⟨by rw [c3 _ _ (by decide)]; exact k1 0 (by decide) (by decide), by rw [c3 _ _ (by decide)]; exact k1 1 (by decide) (by decide), by rw [c3 _ _ (by decide)]; exact k1 2 (by decide) (by decide), by rw [c3 _ _ (by decide)]; exact k1 3 (by decide) (by decide)⟩, ?_, fun j j0 j1 => ⟨by rw [c3 _ _ (by decide)]; exact k.1 j, by rw [c3 _ _ (by decide)]; exact k.2.2.2 _ _ (by unfold Mv; omega) (by decide) (by decide) (by omega), by rw [c3 _ _ (by decide)]; exact h4 j j0 j1, (b2 j j0 j1).1, fun _ => (b2 j j0 j1).2⟩, fun s x s0 s1 x0 x1 => ⟨by rw [c3 _ _ (by omega)]; exact (hl s x s0 s1 x0 x1).1, by rw [c3 _ _ (by omega)]; exact (hl s x s0 s1 x0 x1).2⟩⟩, fz k f2⟩
    rw [f2 _ _ (by unfold M8; omega), f2 _ _ (by unfold M8; omega), f2 _ _ (by unfold M8; omega)]
    exact (S k).1
end T62
