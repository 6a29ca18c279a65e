section T47
variable {G : zG} {n : Nat} {μ ν : zM}
theorem c1_lst3 (hn : 154 ≤ n) {d : Nat} {f : Int → Int} (hf : ∀ x : Int, 0 ≤ x → x < 8 → μ 25 (0 + x) = f x ∧ 0 ≤ f x ∧ f x < 8) (hI : Ij 8 f) {K : Int → zM → Prop} (hK : ∀ ν : zM, (∀ a j, a ≠ 23 → a ≠ 24 → ν a j = μ a j) → K (L3 f 16) ν) : mX1_leastOf G n (d + 3) 3 0 μ K := by
  refine eX1_leastOf (by omega) ⟨fun _ v2 e2 v3 e3 v4 e4 => ?_, fun q => absurd (by decide) q⟩
  have E2 : v2 = 8 := by rw [e2]; decide +kernel
  have E3 : v3 = 4 := by rw [e3, E2]; decide +kernel
  rw [E3, E2, e4]
  have key : ∀ (g m : Nat) (ν : zM), m + g = 16 → (∀ a j, a ≠ 23 → a ≠ 24 → ν a j = μ a j) → pX1_leastOf G n (d + 2) K 32 [some (Rv G 19), some (Iv 3), some (Iv 0), some (Iv 8), some (Iv 4), some (Lv (cls (L3 f m))), none, some (Iv m), none, none, none, none, none] [] ν := by
    intro g
    induction g with
    | zero =>
      intro m ν em hfr
      have : m = 16 := by omega
      subst this
      refine bX1_leastOf_32 (by omega) ?_
      rw [show zshl 1 4 = 16 by decide +kernel]
      refine ⟨fun _ => ?_, fun z => absurd (by decide) z⟩
      rw [show cls (L3 f 16) = L3 f 16 by unfold cls; rw [if_neg (by have := L3_0 hI; omega)]]
      exact hK ν hfr
    | succ g ih =>
      intro m ν em hfr
      have hff : ∀ x, 0 ≤ x → x < 8 → 0 ≤ f x ∧ f x < 8 := fun x a b => (hf x a b).2
      have lm := L3_r hff m (by omega)
      refine bX1_leastOf_32 (by omega) ?_
      rw [show zshl 1 4 = 16 by decide +kernel]
      simp (disch := omega) only [wr_of]
      refine ⟨fun z => by omega, fun _ => c1_splitBy (w := 8) (f := f) hn (Or.inr ⟨rfl, rfl, rfl⟩) (fun x x0 x1 => ?_) (fun hh ν' h1 h2 => ?_) (fun hh ν' h2 => ?_)⟩
      · rw [hfr _ _ (by decide) (by decide)]; exact hf x x0 x1
      · have nm := num8_r (m := m) (by omega) hff hh
        have l := lr_R (fr := m) (f := f) 8 (by decide) (fun y hy => hff y (by omega) (by omega))
        have I0 := ing_Ij (w := 8) (Or.inr rfl) hff hh (v := 0) (Or.inl rfl)
        have I1 := ing_Ij (w := 8) (Or.inr rfl) hff hh (v := 1) (Or.inr rfl)
        have a := L2_0 I0
        have b := L2_0 I1
        simp (disch := omega) only [wr_of]
        refine ⟨fun _ => c1_lst2 (f := ing m f 0) hn (Or.inl rfl) (fun x x0 x1 => ?_) I0 (fun ν2 f2 => c1_lst2 (f := ing m f 1) hn (Or.inr rfl) (fun x x0 x1 => ?_) I1 (fun ν3 f3 => ⟨by decide, fun v10 e10 v11 e11 => ?_⟩)), fun z => by omega⟩
        · refine ⟨?_, I0.1 x x0 x1⟩
          have := h1 0 x (Or.inl rfl) x0 (by omega)
          rw [← this, show (0 : Int) * ((8 : Nat) / 2) + x = 0 + x by omega]; rfl
        · refine ⟨?_, I1.1 x x0 x1⟩
          have := h1 1 x (Or.inr rfl) x0 (by omega)
          rw [← this, f2 _ _ (by decide), show (1 : Int) * ((8 : Nat) / 2) + x = 4 + x by omega]; rfl
        · have nx := ih (m + 1) ν3 (by omega) (fun a j q1 q2 => by rw [f3 a j q1, f2 a j q1, h2 a j (by omega), hfr a j q1 q2])
          simp only [L3] at nx
          rw [if_pos (show Hok m f 8 from hh), cls_bst lm.1 nm.1] at nx
          have cr : R64 (cls (L3 f m)) := by unfold cls; split <;> exact ⟨by omega, by omega⟩
          have nr : R64 (num8 m f) := ⟨by omega, by omega⟩
          have E10 : v10 = L2 (ing m f 0) 4 + L2 (ing m f 1) 4 * 64 := by
            rw [e10, show zpairs (3 - 1 : Int).toNat = ((6 : Nat) : Int) by decide +kernel]
            exact or64 rfl (by decide) (by omega) (by omega) (by omega) (by omega)
          have E11 : v11 = num8 m f := by
            rw [e11, or32 (a := (m : Int)) (b := lr m f 8) (k := 4) (m := 4) rfl (by decide) (by omega) (by omega) (by omega) (by omega)]
            rw [wr_of (by omega) (by omega), or64 (a := (m : Int) + lr m f 8 * 2 ^ 4) (b := v10) (k := 8) (m := 8) rfl (by decide) (by omega) (by omega) (by omega) (by omega), E10]
            unfold num8
            omega
          rw [E11, zlcmp_i cr (b := -9) ⟨by decide, by decide⟩, zlcmp_i nr cr]
          have c9 : -9 ≤ cls (L3 f m) := by unfold cls; split <;> omega
          refine ⟨fun z => ?_, fun z => ⟨fun z2 => ?_, fun z2 => ?_⟩⟩
          · rw [if_pos (by repeat' split at z; all_goals omega)] at nx
            exact nx
          · rw [if_neg (by repeat' split at z; all_goals omega), if_neg (by repeat' split at z2; all_goals omega)] at nx
            exact nx
          · rw [if_neg (by repeat' split at z; all_goals omega), if_pos (by repeat' split at z2; all_goals omega)] at nx
            exact nx
      · refine ⟨fun z => absurd rfl z, fun _ => ?_⟩
        have nx := ih (m + 1) ν' (by omega) (fun a j q1 q2 => by rw [h2 a j (by omega), hfr a j q1 q2])
        simp only [L3] at nx
        rw [if_neg (show ¬ Hok m f 8 from hh)] at nx
        exact nx
  exact key 16 0 μ (by decide) (fun _ _ _ _ => rfl)
theorem c8_firstOfTwo (hn : 154 ≤ n) {i v : Int} {b : Int} (hb : b = 133 ∨ b = 136) (i0 : 0 ≤ i) (i1 : i < 8) (hv : μ b i = v) (hr : v = 0 ∨ v = 1) {K : Int → zM → Prop} (hK : K v μ) : mX8_firstOfTwo G n b i μ K := by
  have zb : zk b = 0 ∧ (zn b : Int) = 8 := by rcases hb with rfl | rfl <;> decide
  refine eX8_firstOfTwo hn ?_
  unfold zin
  rw [zb.2]
  simp (disch := omega) only [wr_of]
  rw [hv]
  refine ⟨⟨⟨by omega, by omega, zb.1⟩, by omega⟩, fun z => ?_, fun z => ?_⟩
  · rcases hr with q | q
    · rw [q] at z; exact absurd rfl z
    · rw [q] at hK; exact hK
  · rcases hr with q | q
    · rw [q] at hK; exact hK
    · rw [q] at z; exact absurd z (by decide)
theorem c8_findFour (hn : 154 ≤ n) {of' fm : Int} (hof : (of' = 133 ∧ fm = 0) ∨ (of' = 135 ∧ (fm = 0 ∨ fm = 4))) {f : Int → Int} (hf : ∀ x : Int, 0 ≤ x → x < 4 → μ of' (fm + x) = f x ∧ 0 ≤ f x ∧ f x < 4) {K : zM → Prop}
    (hK : ∀ ν : zM, ν 127 18 = W2 f 4 → ν 127 19 = L2 f 4 → (∀ a j, a ≠ 136 → ¬ (a = 127 ∧ 17 ≤ j ∧ j ≤ 19) → ν a j = μ a j) → K ν) : mX8_findFour G n of' fm μ K := by
  refine eX8_findFour hn (fun μ1 e1 μ2 e2 => ?_)
  have hff : ∀ x, 0 ≤ x → x < 4 → 0 ≤ f x ∧ f x < 4 := fun x a b => (hf x a b).2
  have key : ∀ (g m : Nat) (ν : zM), m + g = 4 → ν 127 18 = W2 f m → ν 127 19 = L2 f m → (∀ a j, a ≠ 136 → ¬ (a = 127 ∧ 17 ≤ j ∧ j ≤ 19) → ν a j = μ a j) → pX8_findFour G n K 14 [some (Rv G 127), some (Rv G of'), some (Iv fm), some (Iv m), none, none] [] ν := by
    intro g
    induction g with
    | zero =>
      intro m ν em h8 h9 hfr
      have : m = 4 := by omega
      subst this
      exact bX8_findFour_14 hn ⟨fun _ => hK ν h8 h9 hfr, fun z => absurd (by decide) z⟩
    | succ g ih =>
      intro m ν em h8 h9 hfr
      have lm := L2_r hff m (by omega)
      have nm := num4_r (m := m) (by omega) hff
      refine bX8_findFour_14 hn ?_
      simp (disch := omega) only [wr_of]
      refine ⟨fun z => by omega, fun _ => c8_halve (w := 4) (f := f) hn (Or.inl rfl) ⟨by omega, Or.inr rfl, by omega⟩ ⟨by omega, by omega⟩ (fun x x0 x1 => ?_) (fun hh ν' h1 h7 h2 => ?_) (fun hh ν' h2 => ?_)⟩
      · rw [hfr _ _ (by omega) (by omega)]; exact hf x x0 x1
      · have l := lr_R4 (fr := m) (f := f) 4 (by decide) (fun y hy => hff y (by omega) (by omega))
        have a := ing4_r (m := m) hff (v := 0) (Or.inl rfl)
        have b := ing4_r (m := m) hff (v := 1) (Or.inr rfl)
        have i0 : ν' 136 0 = ing m f 0 0 := h1 0 0 (Or.inl rfl) (by decide) (by decide)
        have i1 : ν' 136 2 = ing m f 1 0 := h1 1 0 (Or.inr rfl) (by decide) (by decide)
        have h7 : ν' 127 17 = lr m f 4 := h7
        have g8 : ν' 127 18 = W2 f m := by rw [h2 _ _ (by decide) (by decide)]; exact h8
        have g9 : ν' 127 19 = L2 f m := by rw [h2 _ _ (by decide) (by decide)]; exact h9
        refine ⟨fun _ => c8_firstOfTwo hn (Or.inr rfl) (by decide) (by decide) i0 (by omega) (c8_firstOfTwo hn (Or.inr rfl) (by decide) (by decide) i1 (by omega) (fun v9 e9 μ10 e10 => ?_)), fun z => absurd z (by decide)⟩
        have E9 : v9 = num4 m f := by
          rw [e9, h7, wr_of (by omega) (by omega)]
          rw [or64 (a := (m : Int)) (b := lr m f 4) (k := 2) (m := 2) rfl (by decide) (by omega) (by omega) (by omega) (by omega)]
          rw [or64 (a := (m : Int) + lr m f 4 * 2 ^ 2) (b := ing m f 0 0) (k := 4) (m := 4) rfl (by decide) (by omega) (by omega) (by omega) (by omega)]
          rw [or64 (a := (m : Int) + lr m f 4 * 2 ^ 2 + ing m f 0 0 * 2 ^ 4) (b := ing m f 1 0) (k := 5) (m := 5) rfl (by decide) (by omega) (by omega) (by omega) (by omega)]
          unfold num4
          omega
        have q9 : μ10 127 19 = L2 f m := by rw [e10, zu_ne (by decide), g9]
        have fin : ∀ μ12 : zM, (∀ a j, μ12 a j = if a = 127 ∧ j = 19 then bst (L2 f m) (num4 m f) else μ10 a j) → pX8_findFour G n K 14 [some (Rv G 127), some (Rv G of'), some (Iv fm), some (Iv ((m : Int) + 1)), none, none] [] μ12 := by
          intro μ12 V
          refine ih (m + 1) μ12 (by omega) ?_ ?_ (fun a j q1 q2 => ?_)
          · rw [V, if_neg (by decide), e10, zu_same, g8]
            simp only [W2]
            rw [if_pos (show Hok m f 4 from hh)]
          · rw [V, if_pos ⟨rfl, rfl⟩]
            simp only [L2]
            rw [if_pos (show Hok m f 4 from hh)]
          · rw [V, if_neg (by omega), e10, zu_ne (by omega), h2 a j q1 (by omega), hfr a j q1 q2]
        have nr : R64 (num4 m f) := ⟨by omega, by omega⟩
        have lr' : R64 (L2 f m) := ⟨by omega, by omega⟩
        rw [q9, E9, zlcmp_i lr' (b := 0) ⟨by decide, by decide⟩, zlcmp_i nr lr']
        refine ⟨fun z μ12 e12 => fin μ12 (fun a j => ?_), fun z => ⟨fun z2 μ14 e14 => fin μ14 (fun a j => ?_), fun z2 μ15 e15 => fin μ15 (fun a j => ?_)⟩⟩
        · rw [e12]; unfold zu
          rw [show bst (L2 f m) (num4 m f) = num4 m f by unfold bst; rw [if_pos (by repeat' split at z; all_goals omega)]]
        · rw [e14]; unfold zu
          rw [show bst (L2 f m) (num4 m f) = L2 f m by unfold bst; rw [if_neg (by repeat' split at z; all_goals (repeat' split at z2); all_goals omega)]]
        · rw [e15]; unfold zu
          rw [show bst (L2 f m) (num4 m f) = num4 m f by unfold bst; rw [if_pos (by repeat' split at z2; all_goals omega)]]
      · refine ⟨fun z => absurd rfl z, fun _ => ?_⟩
        refine ih (m + 1) ν' (by omega) ?_ ?_ (fun a j q1 q2 => by rw [h2 a j q1 (by omega), hfr a j q1 q2])
        · rw [h2 _ _ (by decide) (by decide), h8]
          simp only [W2]
          rw [if_neg (show ¬ Hok m f 4 from hh), Int.add_zero]
        · rw [h2 _ _ (by decide) (by decide), h9]
          simp only [L2]
          rw [if_neg (show ¬ Hok m f 4 from hh)]
  refine key 4 0 μ2 (by decide) ?_ ?_ (fun a j q1 q2 => ?_)
  · rw [e2, zu_ne (by decide), e1, zu_same]; rfl
  · rw [e2, zu_same]; rfl
  · rw [e2, zu_ne (by omega), e1, zu_ne (by omega)]
theorem c8_findEight (hn : 154 ≤ n) {f : Int → Int} (hf : ∀ x : Int, 0 ≤ x → x < 8 → μ 133 (0 + x) = f x ∧ 0 ≤ f x ∧ f x < 8) {K : zM → Prop}
    (hK : ∀ ν : zM, ν 127 18 = W3 f 16 → ν 127 19 = L3 f 16 → (∀ a j, a ≠ 135 → a ≠ 136 → ¬ (a = 127 ∧ 17 ≤ j ∧ j ≤ 19) → ν a j = μ a j) → K ν) : mX8_findEight G n μ K := by
  refine eX8_findEight hn (fun v1 e1 => ?_)
  rw [e1]
  have hff : ∀ x, 0 ≤ x → x < 8 → 0 ≤ f x ∧ f x < 8 := fun x a b => (hf x a b).2
  have key : ∀ (g m : Nat) (ν : zM), m + g = 16 → (∀ a j, a ≠ 135 → a ≠ 136 → ¬ (a = 127 ∧ 17 ≤ j ∧ j ≤ 19) → ν a j = μ a j) → pX8_findEight G n K 9 [some (Rv G 127), some (Lv (W3 f m)), none, some (Lv (L3 f m)), none, some (Iv m), none, none, none, none] [] ν := by
    intro g
    induction g with
    | zero =>
      intro m ν em hfr
      have : m = 16 := by omega
      subst this
      refine bX8_findEight_9 hn ⟨fun _ μ2 e2 μ3 e3 => hK μ3 ?_ ?_ (fun a j q1 q2 q3 => ?_), fun z => absurd (by decide) z⟩
      · rw [e3, zu_ne (by decide), e2, zu_same]
      · rw [e3, zu_same]
      · rw [e3, zu_ne (by omega), e2, zu_ne (by omega)]; exact hfr a j q1 q2 q3
    | succ g ih =>
      intro m ν em hfr
      have lm := L3_r hff m (by omega)
      refine bX8_findEight_9 hn ?_
      simp (disch := omega) only [wr_of]
      refine ⟨fun z => by omega, fun _ => c8_halve (w := 8) (f := f) hn (Or.inr rfl) ⟨Or.inl rfl, Or.inl rfl, by decide⟩ ⟨by decide, by decide⟩ (fun x x0 x1 => ?_) (fun hh ν' h1 h7 h2 => ?_) (fun hh ν' h2 => ?_)⟩
      · rw [hfr _ _ (by decide) (by decide) (by omega)]; exact hf x x0 x1
      · have nm := num8_r (m := m) (by omega) hff hh
        have l := lr_R (fr := m) (f := f) 8 (by decide) (fun y hy => hff y (by omega) (by omega))
        have I0 := ing_Ij (w := 8) (Or.inr rfl) hff hh (v := 0) (Or.inl rfl)
        have I1 := ing_Ij (w := 8) (Or.inr rfl) hff hh (v := 1) (Or.inr rfl)
        have a := L2_0 I0
        have b := L2_0 I1
        have h7 : ν' 127 17 = lr m f 8 := h7
        refine ⟨fun _ v7 e7 => c8_findFour (f := ing m f 0) hn (Or.inr ⟨rfl, Or.inl rfl⟩) (fun x x0 x1 => ?_) (fun ν2 w8 w9 f2 v10 e10 v11 e11 => c8_findFour (f := ing m f 1) hn (Or.inr ⟨rfl, Or.inr rfl⟩) (fun x x0 x1 => ?_) (fun ν3 u8 u9 f3 v14 e14 v15 e15 => ?_)), fun z => absurd z (by decide)⟩
        · refine ⟨?_, I0.1 x x0 x1⟩
          have := h1 0 x (Or.inl rfl) x0 (by omega)
          rw [← this, show (0 : Int) * ((8 : Nat) / 2) + x = 0 + x by omega]
        · refine ⟨?_, I1.1 x x0 x1⟩
          have := h1 1 x (Or.inr rfl) x0 (by omega)
          rw [← this, f2 _ _ (by decide) (by omega), show (1 : Int) * ((8 : Nat) / 2) + x = 4 + x by omega]
        · have nx := ih (m + 1) ν3 (by omega) (fun a j q1 q2 q3 => by rw [f3 a j q2 q3, f2 a j q2 q3, h2 a j q1 (by omega), hfr a j q1 q2 q3])
          simp only [L3, W3] at nx
          rw [if_pos (show Hok m f 8 from hh), if_pos (show Hok m f 8 from hh)] at nx
          have E14 : v14 = W3 f m + W2 (ing m f 0) 4 * W2 (ing m f 1) 4 := by rw [e14, e10, w8, u8]
          have E15 : v15 = num8 m f := by
            rw [e15, e11, e7, h7, w9, u9, wr_of (by omega) (by omega)]
            rw [or64 (a := (m : Int)) (b := lr m f 8) (k := 4) (m := 4) rfl (by decide) (by omega) (by omega) (by omega) (by omega)]
            rw [or64 (a := (m : Int) + lr m f 8 * 2 ^ 4) (b := L2 (ing m f 0) 4) (k := 8) (m := 8) rfl (by decide) (by omega) (by omega) (by omega) (by omega)]
            rw [or64 (a := (m : Int) + lr m f 8 * 2 ^ 4 + L2 (ing m f 0) 4 * 2 ^ 8) (b := L2 (ing m f 1) 4) (k := 14) (m := 14) rfl (by decide) (by omega) (by omega) (by omega) (by omega)]
            unfold num8
            omega
          have nr : R64 (num8 m f) := ⟨by omega, by omega⟩
          have lr' : R64 (L3 f m) := ⟨by omega, by omega⟩
          rw [E14, E15, zlcmp_i lr' (b := 0) ⟨by decide, by decide⟩, zlcmp_i nr lr']
          refine ⟨fun z => ?_, fun z => ⟨fun z2 => ?_, fun z2 => ?_⟩⟩
          · rw [show bst (L3 f m) (num8 m f) = num8 m f by unfold bst; rw [if_pos (by repeat' split at z; all_goals omega)]] at nx
            exact nx
          · rw [show bst (L3 f m) (num8 m f) = L3 f m by unfold bst; rw [if_neg (by repeat' split at z; all_goals (repeat' split at z2); all_goals omega)]] at nx
            exact nx
          · rw [show bst (L3 f m) (num8 m f) = num8 m f by unfold bst; rw [if_pos (by repeat' split at z2; all_goals omega)]] at nx
            exact nx
      · refine ⟨fun z => absurd rfl z, fun _ => ?_⟩
        have nx := ih (m + 1) ν' (by omega) (fun a j q1 q2 q3 => by rw [h2 a j q1 (by omega), hfr a j q1 q2 q3])
        simp only [L3, W3] at nx
        rw [if_neg (show ¬ Hok m f 8 from hh), if_neg (show ¬ Hok m f 8 from hh), Int.add_zero] at nx
        exact nx
  exact key 16 0 μ (by decide) (fun _ _ _ _ _ => rfl)
end T47
