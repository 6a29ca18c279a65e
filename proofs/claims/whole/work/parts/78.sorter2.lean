section T38
variable {G : zG} {n : Nat} {μ ν : zM}
theorem c8_isInOrder (hn : 154 ≤ n) {W : Int} (hW : ν 127 24 = W) (h2 : 2 ≤ W) (h8 : W ≤ 8) {r : Nat} (hr : r < 256) {σ : Int → Bool} (hs : ∀ k : Int, 0 ≤ k → rwq r k = σ k) {K : Int → zM → Prop} (hK : K (if uw σ (W - 1).toNat = true then 0 else 1) ν) : mX8_isInOrder G n r ν K := by
  have key : ∀ (g k : Nat), (k : Int) + g = W - 1 → uw σ k = false → pX8_isInOrder G n K 2 [some (Rv G 127), some (Iv r), some (Iv k)] [] ν := by
    intro g
    induction g with
    | zero =>
      intro k ek hu
      refine bX8_isInOrder_2 hn ?_
      rw [hW]
      simp (disch := omega) only [wr_of]
      refine ⟨fun _ => ?_, fun z => by omega⟩
      rw [show (W - 1).toNat = k by omega, hu] at hK
      exact hK
    | succ g ih =>
      intro k ek hu
      refine bX8_isInOrder_2 hn ?_
      rw [hW, btn hr (by omega) (by omega), btn hr (by omega) (by omega), wr_if, wr_if, hs k (by omega), hs (k + 1) (by omega)]
      simp (disch := omega) only [wr_of]
      refine ⟨fun z => by omega, fun _ => ⟨fun z => ih (k + 1) (by omega) ?_, fun z => ?_⟩⟩
      · show (uw σ k || (σ k && !σ ((k : Int) + 1))) = false
        rw [hu]
        cases x : σ k <;> cases y : σ ((k : Int) + 1) <;> simp [x, y] at z ⊢
      · have t : uw σ (k + 1) = true := by
          show (uw σ k || (σ k && !σ ((k : Int) + 1))) = true
          rw [hu]
          cases x : σ k <;> cases y : σ ((k : Int) + 1) <;> simp [x, y] at z ⊢
        have up : ∀ m : Nat, uw σ (k + 1 + m) = true := by
          intro m
          induction m with
          | zero => exact t
          | succ m im => show (uw σ (k + 1 + m) || _) = true; rw [im]; rfl
        have := up ((W - 1).toNat - (k + 1))
        rw [show k + 1 + ((W - 1).toNat - (k + 1)) = (W - 1).toNat by omega] at this
        rw [this] at hK
        exact hK
  exact eX8_isInOrder hn (key (W - 1).toNat 0 (by omega) rfl)
theorem pq_lt {A B : Int → Int} {W : Int} {C q : Nat} (h : q < 2 ^ W.toNat) : pq A B W C q = uw (thr A B C (rwq q)) (W - 1).toNat := by
  unfold pq; rw [decide_eq_true h, Bool.true_and]
theorem pq_ge {A B : Int → Int} {W : Int} {C q : Nat} (h : 2 ^ W.toNat ≤ q) : pq A B W C q = false := by
  unfold pq; rw [decide_eq_false (by omega), Bool.false_and]
theorem Lst_R {p : Nat → Bool} {R S : Nat} (hRS : R ≤ S) (hp : ∀ q, R ≤ q → p q = false) {v : Int} (h : Lst p S v) : Lst p R v := by
  rcases h with ⟨a, b⟩ | ⟨q, a, b, c, d⟩
  · exact Or.inl ⟨a, fun q hq => b q (by omega)⟩
  · refine Or.inr ⟨q, ?_, b, c, d⟩
    apply Classical.byContradiction
    intro x
    rw [hp q (by omega)] at c; cases c
theorem cq_R {p : Nat → Bool} {R S : Nat} (hRS : R ≤ S) (hp : ∀ q, R ≤ q → p q = false) : cq p S = cq p R := by
  have := cq_add p R (S - R)
  rw [show R + (S - R) = S by omega] at this
  rw [this, cq_0 (S - R) (fun k _ => hp _ (by omega))]
  rfl
theorem c8_sorterL (hn : 154 ≤ n) (h : I3 μ) {x : Int} (hx : x = 2 ∨ x = 3 ∨ x = 4) {K : Int → zM → Prop}
    (hK : ∀ v : Int, Lst (pq (μ 31) (μ 32) (μ 30 0) (μ 30 1).toNat) (2 ^ (μ 30 0).toNat) v → K (if x = 2 then (if v = -9 then 1 else 0) else if x = 3 then v else (((2 ^ (μ 30 0).toNat : Nat) : Int) - (cq (pq (μ 31) (μ 32) (μ 30 0) (μ 30 1).toNat) (2 ^ (μ 30 0).toNat) : Nat))) μ) :
    pX8_sorter G n K 91 [some (Rv G 127), some (Iv x), some (Iv 0), some (Iv (-9)), some (Iv (((2 ^ (μ 30 0).toNat : Nat) : Int) - 1))] [] μ := by
  obtain ⟨b, l⟩ := id h
  have b0 := b.1
  have bb := b.2.1
  have rn := rows_n b0.2.1 b0.2.2
  have key : ∀ (m : Nat) (c v : Int), m ≤ 2 ^ (μ 30 0).toNat → c = ((2 ^ (μ 30 0).toNat : Nat) : Int) - m - ((cq (pq (μ 31) (μ 32) (μ 30 0) (μ 30 1).toNat) (2 ^ (μ 30 0).toNat) : Nat) - (cq (pq (μ 31) (μ 32) (μ 30 0) (μ 30 1).toNat) m : Nat)) →
      ((v = -9 ∧ ∀ q, m ≤ q → q < 2 ^ (μ 30 0).toNat → pq (μ 31) (μ 32) (μ 30 0) (μ 30 1).toNat q = false) ∨ ∃ q : Nat, m ≤ q ∧ q < 2 ^ (μ 30 0).toNat ∧ v = q ∧ pq (μ 31) (μ 32) (μ 30 0) (μ 30 1).toNat q = true ∧ ∀ j, m ≤ j → j < q → pq (μ 31) (μ 32) (μ 30 0) (μ 30 1).toNat j = false) →
      pX8_sorter G n K 91 [some (Rv G 127), some (Iv x), some (Iv c), some (Iv v), some (Iv ((m : Int) - 1))] [] μ := by
    intro m
    induction m with
    | zero =>
      intro c v _ hc hv
      have vr : -9 ≤ v ∧ v < 256 := by
        rcases hv with ⟨q, _⟩ | ⟨q, _, q2, q3, _⟩ <;> omega
      have hL : Lst (pq (μ 31) (μ 32) (μ 30 0) (μ 30 1).toNat) (2 ^ (μ 30 0).toNat) v := by
        rcases hv with ⟨q, q2⟩ | ⟨q, _, q2, q3, q4, q5⟩
        · exact Or.inl ⟨q, fun j hj => q2 j (by omega) hj⟩
        · exact Or.inr ⟨q, q2, q3, q4, fun j hj => q5 j (by omega) hj⟩
      have hK := hK v hL
      refine bX8_sorter_91 hn ?_
      simp (disch := omega) only [wr_of]
      refine ⟨fun _ => ⟨fun z => ⟨fun z2 => ?_, fun z2 => ?_⟩, fun z => ⟨fun z2 => ?_, fun z2 => ?_⟩⟩, fun z => by omega⟩
      · rw [if_neg z, if_neg z2] at hK
        simp only [cq] at hc
        rw [hc]
        simpa using hK
      · rw [if_neg z, if_pos z2] at hK; exact hK
      · rw [if_pos z, if_neg z2] at hK; exact hK
      · rw [if_pos z, if_pos z2] at hK; exact hK
    | succ m ih =>
      intro c v hm hc hv
      refine bX8_sorter_91 hn ?_
      rw [← bb.1]
      simp (disch := omega) only [wr_of]
      refine ⟨fun z => by omega, fun _ => ?_⟩
      have th := c8_through (G := G) (n := n) (ν := μ) (A := μ 31) (B := μ 32) (c := (μ 30 1).toNat) (q := m) (K := fun r5 μ6 => mX8_isInOrder G n r5 μ6 (fun r7 μ8 => ((wr r7 = 0 → (pX8_sorter G n K 91 [some (Rv G 127), some (Iv x), some (Iv c), some (Iv m), some (Iv ((m : Int) + (-1)))] [] μ8)) ∧ (¬ (wr r7 = 0) → (pX8_sorter G n K 91 [some (Rv G 127), some (Iv x), some (Iv (c + 1)), some (Iv v), some (Iv ((m : Int) + (-1)))] [] μ8))))) hn (by omega) (fun j j0 j1 => by have := b.ab j0 (by omega); omega) (by omega) (fun r hr hs => ?_)
      · rw [show ((m + 1 : Nat) : Int) - 1 = m by omega, ]
        rw [Int.toNat_of_nonneg bb.2.1] at th
        exact th
      · refine c8_isInOrder hn b0.1.symm b0.2.1 b0.2.2 hr hs ?_
        have e := pq_lt (A := μ 31) (B := μ 32) (W := μ 30 0) (C := (μ 30 1).toNat) (q := m) (by omega)
        rw [← e]
        have cs : cq (pq (μ 31) (μ 32) (μ 30 0) (μ 30 1).toNat) (m + 1) = cq (pq (μ 31) (μ 32) (μ 30 0) (μ 30 1).toNat) m + if pq (μ 31) (μ 32) (μ 30 0) (μ 30 1).toNat m then 1 else 0 := rfl
        cases d : pq (μ 31) (μ 32) (μ 30 0) (μ 30 1).toNat m with
        | true =>
          rw [d, if_pos rfl] at cs
          refine ⟨fun _ => ih c m (by omega) (by omega) (Or.inr ⟨m, by omega, by omega, rfl, d, fun j a b => by omega⟩), fun z => absurd (by decide) z⟩
        | false =>
          rw [d, if_neg (by decide)] at cs
          refine ⟨fun z => absurd z (by decide), fun _ => ih (c + 1) v (by omega) (by omega) ?_⟩
          have cover : ∀ j, m ≤ j → j = m ∨ m + 1 ≤ j := fun j a => by omega
          rcases hv with ⟨q, q2⟩ | ⟨q, q1, q2, q3, q4, q5⟩
          · refine Or.inl ⟨q, fun j a b => ?_⟩
            rcases cover j a with w | w
            · rw [w]; exact d
            · exact q2 j w b
          · refine Or.inr ⟨q, by omega, q2, q3, q4, fun j a b => ?_⟩
            rcases cover j a with w | w
            · rw [w]; exact d
            · exact q5 j w b
  exact key (2 ^ (μ 30 0).toNat) 0 (-9) (Nat.le_refl _) (by omega) (Or.inl ⟨rfl, fun q a b => by omega⟩)
def ic (f : Int → Int) : Nat → Int
  | 0 => 0
  | c + 1 => ic f c + (if f c = 0 then 0 else 1)
theorem ic_r (f : Int → Int) : ∀ c : Nat, 0 ≤ ic f c ∧ ic f c ≤ c
  | 0 => ⟨Int.le_refl 0, Int.le_refl 0⟩
  | c + 1 => by have := ic_r f c; simp only [ic]; split <;> omega
theorem c0_idleOnes (hn : 154 ≤ n) (h : I3 μ) {K : Int → zM → Prop} (hK : K (ic (μ 34) (μ 30 1).toNat) μ) : mX0_idleOnes G n μ K := by
  obtain ⟨b, l⟩ := id h
  have bb := b.2.1
  have key : ∀ (g c : Nat), (c : Int) + g = μ 30 1 → pX0_idleOnes G n K 4 [some (Rv G 30), some (Iv (ic (μ 34) c)), some (Iv c)] [] μ := by
    intro g
    induction g with
    | zero =>
      intro c ec
      rw [show (μ 30 1).toNat = c by omega] at hK
      refine bX0_idleOnes_4 (by omega) ?_
      simp (disch := omega) only [wr_of]
      exact ⟨fun _ => hK, fun z => by omega⟩
    | succ g ih =>
      intro c ec
      have lc := (l.1 c (by omega)).2.1
      have nx := ih (c + 1) (by omega)
      simp only [ic] at nx
      refine bX0_idleOnes_4 (by omega) ?_
      simp (disch := omega) only [wr_of]
      refine ⟨fun z => by omega, fun _ => ⟨by omega, fun z => ?_, fun z => ?_⟩⟩
      · rw [if_pos z, Int.add_zero] at nx; exact nx
      · rw [if_neg z] at nx; exact nx
  exact eX0_idleOnes (by omega) (key (μ 30 1).toNat 0 (by omega))
theorem c8_idleOnes (hn : 154 ≤ n) (h : I3 μ) {K : Int → zM → Prop} (hK : K (ic (μ 34) (μ 30 1).toNat) μ) : pX8_sorter G n K 46 [some (Rv G 127), none, some (Iv 0), some (Iv 0), none] [] μ := by
  obtain ⟨b, l⟩ := id h
  have bb := b.2.1
  have key : ∀ (g c : Nat), (c : Int) + g = μ 30 1 → pX8_sorter G n K 46 [some (Rv G 127), none, some (Iv (ic (μ 34) c)), some (Iv c), none] [] μ := by
    intro g
    induction g with
    | zero =>
      intro c ec
      rw [show (μ 30 1).toNat = c by omega] at hK
      refine bX8_sorter_46 hn ?_
      rw [← bb.1]
      simp (disch := omega) only [wr_of]
      exact ⟨fun _ => hK, fun z => by omega⟩
    | succ g ih =>
      intro c ec
      have lc := (l.1 c (by omega)).2.1
      have nx := ih (c + 1) (by omega)
      simp only [ic] at nx
      refine bX8_sorter_46 hn ?_
      rw [← bb.1]
      simp (disch := omega) only [wr_of]
      refine ⟨fun z => by omega, fun _ => c8_idleI hn h (by omega) (by omega) ?_⟩
      simp (disch := omega) only [wr_of]
      refine ⟨fun z => ?_, fun z => ?_⟩
      · rw [if_pos z] at nx; exact nx
      · rw [if_neg z] at nx; exact nx
  exact key (μ 30 1).toNat 0 (by omega)
theorem t_sorter (hn : 154 ≤ n) (h : I3 μ) {w : Int} (hw : R32 w) : mX7_sorter G n w μ (fun a μ1 => mX8_sorter G n w μ1 (fun b μ2 => a = b ∧ I3 μ2 ∧ Fz 3 μ μ2)) := by
  obtain ⟨w1, w2⟩ := id hw
  obtain ⟨b, l⟩ := id h
  have b0 := b.1
  have bb := b.2.1
  have rn := rows_n b0.2.1 b0.2.2
  have m8 : ∀ a : Int, (w < 0 ∨ 5 < w → a = -2) → (w = 0 → a = μ 30 1) → (w = 1 → a = dp (μ 31) (μ 32) (μ 30 1).toNat) → ((w = 2 ∨ w = 3 ∨ w = 4) → ∀ v, Lst (pq (μ 31) (μ 32) (μ 30 0) (μ 30 1).toNat) (2 ^ (μ 30 0).toNat) v → a = (if w = 2 then (if v = -9 then 1 else 0) else if w = 3 then v else (((2 ^ (μ 30 0).toNat : Nat) : Int) - (cq (pq (μ 31) (μ 32) (μ 30 0) (μ 30 1).toNat) (2 ^ (μ 30 0).toNat) : Nat)))) → (w = 5 → a = ic (μ 34) (μ 30 1).toNat) → mX8_sorter G n w μ (fun b μ2 => a = b ∧ I3 μ2 ∧ Fz 3 μ μ2) := by
    intro a k0 k1 k2 k3 k4
    refine eX8_sorter hn (c8_within hn ?_)
    simp (disch := omega) only [wr_of, ite_b0, Classical.not_not]
    refine ⟨fun z => ⟨fun z2 => ⟨fun z3 v6 e6 v7 e7 => ?_, fun z3 => c8_idleOnes hn h ⟨k4 z3, h, Fz.rf⟩⟩, fun z2 => ⟨fun z3 => ?_, fun z3 => ⟨by rw [k1 z3, bb.1], h, Fz.rf⟩⟩⟩, fun z => ⟨k0 (by omega), h, Fz.rf⟩⟩
    · rw [e6, e7, ← b0.1, rn.2.1]
      exact c8_sorterL hn h (by omega) (fun v hv => ⟨k3 (by omega) v hv, h, Fz.rf⟩)
    · rw [← bb.1]
      refine c8_stepI hn b bb.2.1 (Int.le_refl _) (fun ν' e => ?_)
      rw [if_neg (by omega)]
      exact ⟨k2 (by omega), h.f143 e⟩
  have w4 := wds_r (W := μ 30 0)
  refine eX7_sorter hn ?_
  simp (disch := omega) only [wr_of]
  refine ⟨fun z => m8 _ (fun _ => rfl) (fun q => by omega) (fun q => by omega) (fun q => by omega) (fun q => by omega), fun z => m8 _ (fun q => by omega) (fun _ => rfl) (fun q => by omega) (fun q => by omega) (fun q => by omega), fun z => m8 _ (fun q => by omega) (fun q => by omega) (fun _ => l.2.1) (fun q => by omega) (fun q => by omega), fun z => c0_first hn h (fun v hv => ?_), fun z => c0_first hn h (fun v hv => m8 _ (fun q => by omega) (fun q => by omega) (fun q => by omega) (fun _ v' hv' => ?_) (fun q => by omega)), fun z => c0_sorted hn h (m8 _ (fun q => by omega) (fun q => by omega) (fun q => by omega) (fun _ v' hv' => ?_) (fun q => by omega)), fun z => c0_idleOnes hn h (m8 _ (fun q => by omega) (fun q => by omega) (fun q => by omega) (fun q => by omega) (fun _ => rfl))⟩
  · have hv' := Lst_R rn.1 (fun q hq => pq_ge hq) hv
    have vr : -9 ≤ v ∧ v < 256 := by
      rcases hv' with ⟨q, _⟩ | ⟨q, q2, q3, _⟩ <;> omega
    simp (disch := omega) only [wr_of]
    refine ⟨fun z2 => m8 _ (fun q => by omega) (fun q => by omega) (fun q => by omega) (fun _ v2 hv2 => ?_) (fun q => by omega), fun z2 => m8 _ (fun q => by omega) (fun q => by omega) (fun q => by omega) (fun _ v2 hv2 => ?_) (fun q => by omega)⟩
    · rw [if_pos z, ← hv'.one hv2, if_neg z2]
    · rw [if_pos z, ← hv'.one hv2, if_pos z2]
  · rw [if_neg (by omega), if_pos z]
    exact (Lst_R rn.1 (fun q hq => pq_ge hq) hv).one hv'
  · rw [if_neg (by omega), if_neg (by omega), cq_R rn.1 (fun q hq => pq_ge hq)]
end T38
