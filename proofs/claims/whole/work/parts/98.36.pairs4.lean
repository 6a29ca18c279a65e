section T93
variable {G : zG} {n : Nat} {μ ν κ : zM}
theorem B4.ep (h : B4 μ) (e : ∀ a j, (a = 45 → j = 0) → (a = 127 → j = 30) → ¬ (53 ≤ a ∧ a ≤ 98) → a ≠ 146 → a ≠ 150 → a ≠ 152 → ν a j = μ a j) : B4 ν := by
  have w : ∀ a j, a ≠ 45 → a ≠ 127 → ¬ (53 ≤ a ∧ a ≤ 98) → a ≠ 146 → a ≠ 150 → a ≠ 152 → ν a j = μ a j := fun a j q1 q4 q5 => e a j (fun q => absurd q q1) (fun q => absurd q q4) q5
  have e0 : ν 45 0 = μ 45 0 := e 45 0 (fun _ => rfl) (fun q => absurd q (by decide)) (by decide) (by decide) (by decide) (by decide)
  have e1 : ν 127 30 = μ 127 30 := e 127 30 (fun q => absurd q (by decide)) (fun _ => rfl) (by decide) (by decide) (by decide) (by decide)
  have e2 : ν 99 0 = μ 99 0 := w 99 0 (by decide) (by decide) (by decide) (by decide) (by decide) (by decide)
  refine ⟨by rw [e0, e1, e2]; exact h.1, fun i o i0 i1 o0 o1 => ?_, fun i i0 i1 => ?_⟩
  · rw [e2, w (47 + i) o (by omega) (by omega) (by omega) (by omega) (by omega) (by omega), w (101 + i) o (by omega) (by omega) (by omega) (by omega) (by omega) (by omega), w 145 _ (by decide) (by decide) (by decide) (by decide) (by decide) (by decide), w 147 _ (by decide) (by decide) (by decide) (by decide) (by decide) (by decide)]
    exact h.2.1 i o i0 i1 o0 o1
  · rw [e2, w 106 i (by decide) (by decide) (by decide) (by decide) (by decide) (by decide), w 108 i (by decide) (by decide) (by decide) (by decide) (by decide) (by decide), w 109 i (by decide) (by decide) (by decide) (by decide) (by decide) (by decide), w 148 i (by decide) (by decide) (by decide) (by decide) (by decide) (by decide), w 149 i (by decide) (by decide) (by decide) (by decide) (by decide) (by decide), w 151 i (by decide) (by decide) (by decide) (by decide) (by decide) (by decide)]
    exact h.2.2 i i0 i1
/-- what parting in the class may write -/
def Ex (μ ν : zM) : Prop := ∀ a j, (a = 45 → j = 0) → ¬ (53 ≤ a ∧ a ≤ 59) → ¬ (61 ≤ a ∧ a ≤ 98) → ν a j = μ a j
/-- what the model may write -/
def Mx (μ ν : zM) : Prop := ∀ a j, a ≠ 146 → a ≠ 150 → a ≠ 152 → ¬ (a = 127 ∧ j = 38) → ν a j = μ a j
theorem I4.mx (h : I4 μ) (e : Mx μ ν) : I4 ν := h.e (h.1.ep (fun a j q1 q2 q3 q4 q5 q6 => e a j q4 q5 q6 (fun w => by have := q2 w.1; omega))) (e _ _ (by decide) (by decide) (by decide) (by decide)) (e _ _ (by decide) (by decide) (by decide) (by decide)) (e _ _ (by decide) (by decide) (by decide) (by decide)) (fun a j q1 q2 => e a j (by omega) (by omega) (by omega) (by omega)) (fun a j q1 q2 => e a j (by omega) (by omega) (by omega) (by omega))
theorem exmx (e : Ex μ ν) (m : Mx ν κ) : Fz 4 μ κ := fun a j hz => by
  have n1 : ¬ (45 ≤ a ∧ a ≤ 117) := fun w => hz (z4_45 w)
  have n2 : ¬ 145 ≤ a := fun w => hz (z4_145 w)
  rw [m a j (by omega) (by omega) (by omega) (fun w => hz (by rw [w.1, w.2]; decide)), e a j (fun w => by omega) (by omega) (by omega)]
theorem t_parted (hn : 154 ≤ n) (h : I4 μ) {k i : Int} (hk : R32 k) (hi : R32 i) : mX7_parted G n k i μ (fun a μ1 => mX8_parted G n k i μ1 (fun b μ2 => a = b ∧ I4 μ2 ∧ Fz 4 μ μ2)) := by
  obtain ⟨k1, k2⟩ := id hk
  obtain ⟨i1, i2⟩ := id hi
  have p := h.1.1
  obtain ⟨P, hP⟩ := Int.eq_ofNat_of_zero_le (show 0 ≤ μ 99 0 by omega)
  have hP1 : 1 ≤ P := by omega
  have hP5 : P ≤ 5 := by omega
  have ss : 0 ≤ spn (tT μ) P ∧ spn (tT μ) P ≤ 250 := h.1.tb.s (m := P) (P := P) hP5 hP5
  have m8 : ∀ (μ1 : zM) (a : Int), I4 μ1 → Ex μ μ1 → (¬ ((0 ≤ k ∧ k < spn (tT μ) P) ∧ (0 ≤ i ∧ i < P)) → a = -1) → ((0 ≤ k ∧ k < spn (tT μ) P) → (0 ≤ i ∧ i < P) → a = mr P (fr P (tq P (tT μ) k.toNat)) i) → mX8_parted G n k i μ1 (fun b μ2 => a = b ∧ I4 μ2 ∧ Fz 4 μ μ2) := by
    intro μ1 a h1 ex a1 a2
    have fin : ∀ κ, Mx μ1 κ → I4 κ ∧ Fz 4 μ κ := fun κ m => ⟨h1.mx m, exmx ex m⟩
    have mz : Mx μ1 (zmap μ1 146 25 (μ 145)) := fun a j q1 _ _ _ => by rw [zmap_na q1]
    refine eX8_parted hn (c8_span hn h.1 hP ⟨ex 127 30 (by decide) (by decide) (by decide), fun j => ex 145 j (fun w => absurd w (by decide)) (by decide) (by decide)⟩ (c8_within hn ?_))
    simp (disch := omega) only [wr_of, ite_b0, Classical.not_not]
    have h30 : zmap μ1 146 25 (μ 145) 127 30 = P := by rw [zmap_na (by decide), ex 127 30 (by decide) (by decide) (by decide), p.2.2.2]; exact hP
    refine ⟨fun z => ⟨a1 (fun w => z (by omega)), fin _ mz⟩, fun z => c8_isPort hn h30 ⟨by omega, by omega⟩ hi ?_⟩
    simp (disch := omega) only [wr_of, ite_b0, Classical.not_not]
    refine ⟨fun z2 => ?_, fun z2 => ⟨a1 (fun w => z2 w.2), fin _ mz⟩⟩
    have loop : ∀ (g t : Nat) (κ : zM), (t : Int) + g = k + 1 → κ 127 30 = P → (∀ i o : Int, 0 ≤ i → i < P → 0 ≤ o → o < P → κ 146 (5 * i + o) = tq P (tT μ) t i o) → (0 < t → ∀ x : Int, 0 ≤ x → x < P → κ 150 x = fr P (tq P (tT μ) (t - 1)) x) → Mx μ1 κ → pX8_parted G n (fun b μ2 => a = b ∧ I4 μ2 ∧ Fz 4 μ μ2) 29 [some (Rv G 127), some (Iv k), some (Iv i), none, some (Iv t)] [] κ := by
      intro g
      induction g with
      | zero =>
        intro t κ et q30 q146 q150 mx
        have c := q150 (by omega) i z2.1 z2.2
        have et2 : t - 1 = k.toNat := by omega
        rw [et2] at c
        have f := tq_fr hP1 hP5 h.1.tb (t := k.toNat) (by omega)
        have r := (FR_r hP1 f).1 i z2.1 z2.2
        have aa := a2 (by omega) z2
        unfold mr at aa
        refine bX8_parted_29 hn ?_
        rw [q30]
        simp (disch := omega) only [wr_of]
        rw [c]
        try simp (disch := omega) only [wr_of]
        refine ⟨fun _ => ⟨by omega, fun w => ⟨by omega, ?_, fin κ mx⟩, fun w => ⟨?_, fin κ mx⟩⟩, fun z => by omega⟩
        · rw [aa, if_pos (by omega)]
        · rw [aa, if_neg (by omega)]
      | succ g ih =>
        intro t κ et q30 q146 q150 mx
        refine bX8_parted_29 hn ?_
        simp (disch := omega) only [wr_of]
        refine ⟨fun z => by omega, fun _ => m8_take hn hP1 hP5 h.1.tb (t := t) (by omega) q30 q146 (fun κ' r1 r2 r3 => ?_)⟩
        exact ih (t + 1) κ' (by omega) (by rw [r3 127 30 (by decide) (by decide) (by decide)]; exact q30) r1 (fun _ => r2) (fun a j w1 w2 w3 w4 => by rw [r3 a j w1 w2 w4]; exact mx a j w1 w2 w3 w4)
    refine loop (k + 1).toNat 0 _ (by omega) h30 (fun i o i0 i1 o0 o1 => ?_) (fun w => by omega) mz
    rw [zmap_in (by omega) (by omega)]
    show _ = cut P (tT μ) i o
    rw [cut_in i0 i1 o0 o1]
    exact (h.1.2.1 i o i0 (by omega) o0 (by omega)).1.1.symm
  refine eX7_parted hn (c3_wholeSpan hn h.1 hP (fun ν q => ?_))
  have nE : ∀ a j, a ≠ 58 → a ≠ 59 → ¬ (a = 45 ∧ j = 3) → ν a j = μ a j := q.2.2
  have n4 : I4 ν := h.e (h.1.ep (fun a j q1 q2 q3 q4 q5 q6 => nE a j (by omega) (by omega) (fun w => by have := q1 w.1; omega))) (nE _ _ (by decide) (by decide) (by decide)) (nE _ _ (by decide) (by decide) (by decide)) (nE _ _ (by decide) (by decide) (by decide)) (fun a j q1 q2 => nE a j (by omega) (by omega) (by omega)) (fun a j q1 q2 => nE a j (by omega) (by omega) (by omega))
  have nX : Ex μ ν := fun a j q1 q2 q3 => nE a j (by omega) (by omega) (fun w => by have := q1 w.1; omega)
  have e99 : ν 99 0 = P := by rw [nE 99 0 (by decide) (by decide) (by decide)]; exact hP
  have tt : ∀ i o : Int, 0 ≤ i → i < P → 0 ≤ o → o < P → tT ν i o = tT μ i o := fun i o i0 i1 o0 o1 => nE (47 + i) o (by omega) (by omega) (by omega)
  refine c_within hn ?_
  simp (disch := omega) only [wr_of, ite_b0, Classical.not_not]
  refine ⟨fun z => m8 ν _ n4 nX (fun _ => rfl) (fun w => by omega), fun z => c7_isPort hn n4.1 hi ?_⟩
  rw [e99]
  simp (disch := omega) only [wr_of, ite_b0, Classical.not_not]
  refine ⟨fun z2 => c3_outlet hn n4 e99 (by omega) (by rw [spn_e tt]; omega) z2.1 z2.2 (fun κ ph k2 hf => ?_), fun z2 => m8 ν _ n4 nX (fun _ => rfl) (fun _ w => absurd w z2)⟩
  rw [tq_c tt]
  exact m8 κ _ ⟨n4.1.ep (fun a j q1 q2 q3 q4 q5 q6 => hf a j q1 (by omega) (by omega)), Or.inl ⟨k2, ph⟩⟩ (fun a j q1 q2 q3 => by rw [hf a j q1 q2 q3]; exact nX a j q1 q2 q3) (fun w => absurd ⟨by omega, z2⟩ w) (fun _ _ => rfl)
/-- phases begin one behind the other -/
theorem pst_m {P : Nat} {T : Int → Int → Int} {k : Int} (h : PHk P T k μ) : ∀ (g : Nat) (j : Int), 0 ≤ j → j + g = k → pst μ j ≤ pst μ k
  | 0, j, _, e => by rw [show j = k by omega]; exact Int.le_refl _
  | g + 1, j, j0, e => by
    have a := pst_m h g (j + 1) (by omega) (by omega)
    have b := (h.1 j j0 (by omega)).1
    have c : pst μ (j + 1) = μ 97 j := by unfold pst; rw [if_neg (by omega), show j + 1 - 1 = j by omega]
    omega
def Dn (κ : zM) (x : Int) : Prop := ∃ y : Int, (0 ≤ y ∧ y < x) ∧ κ 150 y ≠ κ 152 y
theorem t_changes (hn : 154 ≤ n) (h : I4 μ) : mX7_changes G n μ (fun a μ1 => mX8_changes G n μ1 (fun b μ2 => a = b ∧ I4 μ2 ∧ Fz 4 μ μ2)) := by
  have p := h.1.1
  obtain ⟨P, hP⟩ := Int.eq_ofNat_of_zero_le (show 0 ≤ μ 99 0 by omega)
  have hP1 : 1 ≤ P := by omega
  have hP5 : P ≤ 5 := by omega
  have hT := h.1.tb
  have ss : 0 ≤ spn (tT μ) P ∧ spn (tT μ) P ≤ 250 := hT.s (m := P) (P := P) hP5 hP5
  refine eX7_changes hn (eX3_phasesInAll (by omega) (c3_part hn h.1 h.2 (fun ν ph n2 hf => ?_)))
  have n4 : I4 ν := ⟨h.1.ep (fun a j q1 q2 q3 q4 q5 q6 => hf a j q1 (by omega) (by omega)), Or.inl ⟨n2, ph⟩⟩
  have e0 : ν 45 0 = P := by rw [hf 45 0 (fun _ => rfl) (by decide) (by decide), p.2.2.1]; exact hP
  obtain ⟨P', hP', hkk, hh, he⟩ := id ph
  have : P' = P := by omega
  subst this
  have tt : ∀ i o : Int, 0 ≤ i → i < P' → 0 ≤ o → o < P' → tT ν i o = tT μ i o := fun i o i0 i1 o0 o1 => hf (47 + i) o (by omega) (by omega) (by omega)
  rw [spn_e tt] at he
  have h1 : ∀ j : Int, 0 ≤ j → j < ν 45 1 → ∀ t : Nat, pst ν j ≤ t → (t : Int) < ν 97 j → ∀ i : Int, 0 ≤ i → i < P' → ν (61 + j) i = mr P' (fr P' (tq P' (tT μ) t)) i := fun j j0 j1 t t0 t1 i i0 i1 => by
    have := (hh.1 j j0 j1).2 t t0 t1 i i0 i1
    rw [tq_c tt] at this
    exact this
  have mono := pst_m hh
  have pn : ∀ j : Int, 0 < j → pst ν j = ν 97 (j - 1) := fun j w => by unfold pst; rw [if_neg (by omega)]
  have p0 : pst ν 0 = 0 := by unfold pst; rw [if_pos rfl]
  have fin : ∀ κ, Mx ν κ → I4 κ ∧ Fz 4 μ κ := fun κ m => ⟨n4.mx m, exmx hf m⟩
  have mz : Mx ν (zmap ν 146 25 (μ 145)) := fun a j q1 _ _ _ => by rw [zmap_na q1]
  have rok : ∀ t : Nat, (t : Int) < spn (tT μ) P' → ∀ x : Int, 0 ≤ x → x < P' → 0 ≤ fr P' (tq P' (tT μ) t) x ∧ fr P' (tq P' (tT μ) t) x ≤ P' := fun t ht x x0 x1 => by
    have := (FR_r hP1 (tq_fr hP1 hP5 hT ht)).1 x x0 x1
    exact ⟨this.1, this.2.1⟩
  generalize hS : spn (tT μ) P' = S at *
  refine eX8_changes hn (c8_span hn h.1 hP ⟨hf 127 30 (by decide) (by decide) (by decide), fun j => hf 145 j (fun w => absurd w (by decide)) (by decide) (by decide)⟩ ?_)
  rw [hS]
  have loop : ∀ (g t : Nat) (c : Int) (κ : zM), (t : Int) + g = S → ((t = 0 ∧ c = 0) ∨ (0 < t ∧ (1 ≤ c ∧ c ≤ ν 45 1) ∧ pst ν (c - 1) < t ∧ (t : Int) ≤ ν 97 (c - 1))) → (0 < t → ∀ x : Int, 0 ≤ x → x < P' → κ 152 x = fr P' (tq P' (tT μ) (t - 1)) x) → κ 127 30 = P' → (∀ i o : Int, 0 ≤ i → i < P' → 0 ≤ o → o < P' → κ 146 (5 * i + o) = tq P' (tT μ) t i o) → Mx ν κ → pX8_changes G n (fun b μ2 => ν 45 1 = b ∧ I4 μ2 ∧ Fz 4 μ μ2) 9 [some (Rv G 127), some (Iv S), some (Iv c), some (Iv t), none, none] [] κ := by
    intro g
    induction g with
    | zero =>
      intro t c κ et hc q152 q30 q146 mx
      refine bX8_changes_9 hn ?_
      simp (disch := omega) only [wr_of]
      refine ⟨fun _ => ⟨?_, fin κ mx⟩, fun z => by omega⟩
      by_cases w : ν 45 1 = 0
      · rcases hc with q | q <;> omega
      · have a := (hh.1 (ν 45 1 - 1) (by omega) (by omega)).1
        have b := pn (ν 45 1) (by omega)
        rcases hc with q | q
        · omega
        · by_cases w2 : c = ν 45 1
          · exact w2.symm
          · have a2 := (hh.1 c (by omega) (by omega)).1
            have b2 := pn c (by omega)
            have b3 := pn (c + 1) (by omega)
            rw [show c + 1 - 1 = c by omega] at b3
            have m := mono (ν 45 1 - (c + 1)).toNat (c + 1) (by omega) (by omega)
            omega
    | succ g ih =>
      intro t c κ et hc q152 q30 q146 mx
      have cr : 0 ≤ c ∧ c ≤ 36 := by rcases hc with q | q <;> omega
      refine bX8_changes_9 hn ?_
      simp (disch := omega) only [wr_of]
      refine ⟨fun z => by omega, fun _ => m8_take hn hP1 hP5 hT (t := t) (by omega) q30 q146 (fun κ1 r1 r2 r3 => ?_)⟩
      have s152 : ∀ x, κ1 152 x = κ 152 x := fun x => r3 152 x (by decide) (by decide) (fun w => absurd w.1 (by decide))
      have s30 : κ1 127 30 = P' := by rw [r3 127 30 (by decide) (by decide) (by decide)]; exact q30
      have rt := rok t (by omega)
      have mx1 : Mx ν κ1 := fun a j w1 w2 w3 w4 => by rw [r3 a j w1 w2 w4]; exact mx a j w1 w2 w3 w4
      -- the row is compared and kept
      have inner : ∀ u0 : Int, (u0 = 0 → ∀ y : Int, 0 ≤ y → y < P' → 0 ≤ κ1 152 y ∧ κ1 152 y ≤ 5) → (∀ κ' : zM, (u0 = 0 → (∀ y : Int, 0 ≤ y → y < P' → κ1 150 y = κ1 152 y) → (∀ y : Int, 0 ≤ y → y < P' → κ' 152 y = κ1 150 y) → (∀ a j, a ≠ 152 → κ' a j = κ1 a j) → pX8_changes G n (fun b μ2 => ν 45 1 = b ∧ I4 μ2 ∧ Fz 4 μ μ2) 9 [some (Rv G 127), some (Iv S), some (Iv (c + 0)), some (Iv ((t : Int) + 1)), none, none] [] κ')) → (∀ κ' : zM, (u0 = 1 ∨ Dn κ1 P') → (∀ y : Int, 0 ≤ y → y < P' → κ' 152 y = κ1 150 y) → (∀ a j, a ≠ 152 → κ' a j = κ1 a j) → pX8_changes G n (fun b μ2 => ν 45 1 = b ∧ I4 μ2 ∧ Fz 4 μ μ2) 9 [some (Rv G 127), some (Iv S), some (Iv (c + 1)), some (Iv ((t : Int) + 1)), none, none] [] κ') → ∀ (g2 : Nat) (x u : Int) (κ2 : zM), 0 ≤ x → x + g2 = P' → ((u = 0 ∧ u0 = 0 ∧ ∀ y : Int, 0 ≤ y → y < x → κ1 150 y = κ1 152 y) ∨ (u = 1 ∧ (u0 = 1 ∨ Dn κ1 x))) → (∀ y : Int, 0 ≤ y → y < P' → κ2 152 y = if y < x then κ1 150 y else κ1 152 y) → (∀ a j, a ≠ 152 → κ2 a j = κ1 a j) → pX8_changes G n (fun b μ2 => ν 45 1 = b ∧ I4 μ2 ∧ Fz 4 μ μ2) 32 [some (Rv G 127), some (Iv S), some (Iv c), some (Iv t), some (Iv u), some (Iv x)] [] κ2 := by
        intro u0 hb k0 k1 g2
        induction g2 with
        | zero =>
          intro x u κ2 x0 ex hu hv hf2
          have : x = P' := by omega
          subst this
          have hv2 : ∀ y : Int, 0 ≤ y → y < P' → κ2 152 y = κ1 150 y := fun y y0 y1 => by rw [hv y y0 y1, if_pos y1]
          refine bX8_changes_32 hn ?_
          rw [hf2 127 30 (by decide), s30]
          simp (disch := omega) only [wr_of]
          refine ⟨fun _ => ?_, fun z => by omega⟩
          rcases hu with ⟨w1, w2, w3⟩ | ⟨w1, w2⟩
          · rw [w1]
            exact ⟨fun _ => k0 κ2 w2 w3 hv2 hf2, fun z => by first | exact absurd rfl z | exact absurd trivial z⟩
          · rw [w1]
            exact ⟨fun z => absurd z (by decide), fun _ => k1 κ2 w2 hv2 hf2⟩
        | succ g2 ih2 =>
          intro x u κ2 x0 ex hu hv hf2
          have rx := rt x x0 (by omega)
          have e150 : κ2 150 x = fr P' (tq P' (tT μ) t) x := by rw [hf2 150 x (by decide)]; exact r2 x x0 (by omega)
          have e152 : κ2 152 x = κ1 152 x := by rw [hv x x0 (by omega), if_neg (by omega)]
          have zo : zor 0 0 = 0 ∧ zor 1 0 = 1 ∧ zor 0 1 = 1 ∧ zor 1 1 = 1 := by decide
          have upd : ∀ μ9 : zM, μ9 = zu κ2 152 x (κ2 150 x) → (∀ y : Int, 0 ≤ y → y < P' → μ9 152 y = if y < x + 1 then κ1 150 y else κ1 152 y) ∧ (∀ a j, a ≠ 152 → μ9 a j = κ1 a j) := fun μ9 e9 => by
            refine ⟨fun y y0 y1 => ?_, fun a j w => by rw [e9, zu_na w]; exact hf2 a j w⟩
            rw [e9]; unfold zu
            by_cases q : y = x
            · rw [if_pos ⟨rfl, q⟩, if_pos (by omega), hf2 150 x (by decide), q]
            · rw [if_neg (fun w => q w.2), hv y y0 y1]
              by_cases q2 : y < x
              · rw [if_pos q2, if_pos (by omega)]
              · rw [if_neg q2, if_neg (by omega)]
          refine bX8_changes_32 hn ?_
          rw [hf2 127 30 (by decide), s30]
          simp (disch := omega) only [wr_of]
          refine ⟨fun z => by omega, fun _ => ⟨by omega, by omega, fun z v6 e6 => ⟨by omega, by omega, fun μ9 e9 => ?_⟩, fun z v10 e10 => ⟨by omega, by omega, fun μ13 e13 => ?_⟩⟩⟩
          · have u9 := upd μ9 e9
            rcases hu with ⟨w1, w2, w3⟩ | ⟨w1, w2⟩
            · have b := hb w2 x x0 (by omega)
              rw [e150, e152] at z
              simp (disch := omega) only [wr_of] at z
              rw [e6, w1, zo.1]
              refine ih2 (x + 1) 0 μ9 (by omega) (by omega) (Or.inl ⟨rfl, w2, fun y y0 y1 => ?_⟩) u9.1 u9.2
              by_cases q : y = x
              · rw [q, r2 x x0 (by omega)]; exact z
              · exact w3 y y0 (by omega)
            · rw [e6, w1, zo.2.1]
              refine ih2 (x + 1) 1 μ9 (by omega) (by omega) (Or.inr ⟨rfl, ?_⟩) u9.1 u9.2
              rcases w2 with w | ⟨y, hy, q⟩
              · exact Or.inl w
              · exact Or.inr ⟨y, ⟨hy.1, by omega⟩, q⟩
          · have u9 := upd μ13 e13
            have v1 : v10 = 1 := by
              rw [e10]
              rcases hu with ⟨w1, _⟩ | ⟨w1, _⟩
              · rw [w1]; exact zo.2.2.1
              · rw [w1]; exact zo.2.2.2
            rw [v1]
            exact ih2 (x + 1) 1 μ13 (by omega) (by omega) (Or.inr ⟨rfl, Or.inr ⟨x, ⟨x0, by omega⟩, fun w => z (by
              have b : κ2 150 x = κ1 152 x := by rw [hf2 150 x (by decide), w]
              rw [e152, wr_of (by omega) (by omega)]; exact b)⟩⟩) u9.1 u9.2
      have nxt : ∀ (c' : Int) (κ' : zM), ((1 ≤ c' ∧ c' ≤ ν 45 1) ∧ pst ν (c' - 1) < (t : Int) + 1 ∧ (t : Int) + 1 ≤ ν 97 (c' - 1)) → (∀ y : Int, 0 ≤ y → y < P' → κ' 152 y = κ1 150 y) → (∀ a j, a ≠ 152 → κ' a j = κ1 a j) → pX8_changes G n (fun b μ2 => ν 45 1 = b ∧ I4 μ2 ∧ Fz 4 μ μ2) 9 [some (Rv G 127), some (Iv S), some (Iv c'), some (Iv ((t : Int) + 1)), none, none] [] κ' := fun c' κ' hc' v f =>
        ih (t + 1) c' κ' (by omega) (Or.inr ⟨by omega, hc'.1, by omega, by omega⟩) (fun _ x x0 x1 => by rw [v x x0 x1]; exact r2 x x0 x1) (by rw [f 127 30 (by decide)]; exact s30) (fun i o i0 i1 o0 o1 => by rw [f 146 _ (by decide)]; exact r1 i o i0 i1 o0 o1) (fun a j w1 w2 w3 w4 => by rw [f a j w3]; exact mx1 a j w1 w2 w3 w4)
      refine ⟨fun z => ?_, fun z => ?_⟩
      · obtain ⟨t0, c1, c2, c3⟩ : 0 < t ∧ (1 ≤ c ∧ c ≤ ν 45 1) ∧ pst ν (c - 1) < t ∧ (t : Int) ≤ ν 97 (c - 1) := by
          rcases hc with q | q
          · omega
          · exact q
        have q152 := q152 t0
        have rp := rok (t - 1) (by omega)
        have et1 : ((t - 1 : Nat) : Int) = (t : Int) - 1 := by omega
        have nc : ¬ (t : Int) < ν 97 (c - 1) → c < ν 45 1 ∧ pst ν c = t ∧ (t : Int) < ν 97 c := fun w => by
          have b2 := pn c (by omega)
          have c4 : c < ν 45 1 := Classical.byContradiction (fun w2 => by
            have : c = ν 45 1 := by omega
            rw [this] at b2 w c3
            omega)
          have a2 := (hh.1 c (by omega) c4).1
          exact ⟨c4, by omega, by omega⟩
        have old : ∀ i : Int, 0 ≤ i → i < P' → ν (60 + c) i = mr P' (fr P' (tq P' (tT μ) (t - 1))) i := fun i i0 i1 => by
          have := h1 (c - 1) (by omega) (by omega) (t - 1) (by omega) (by omega) i i0 i1
          rw [show (61 : Int) + (c - 1) = 60 + c by omega] at this
          exact this
        refine inner 0 (fun _ y y0 y1 => ?_) (fun κ' _ all v f => ?_) (fun κ' dif v f => ?_) P' 0 0 κ1 (by decide) (by omega) (Or.inl ⟨rfl, rfl, fun y a b => by omega⟩) (fun y y0 y1 => by rw [if_neg (by omega)]) (fun _ _ _ => rfl)
        · rw [s152, q152 y y0 y1]
          have := rp y y0 y1
          omega
        · rw [Int.add_zero]
          by_cases w : (t : Int) < ν 97 (c - 1)
          · exact nxt c κ' ⟨c1, by omega, by omega⟩ v f
          · exfalso
            obtain ⟨n1, n2, n3⟩ := nc w
            obtain ⟨i, hi, q⟩ := hh.2 c (by omega) n1
            have e1 := h1 c (by omega) n1 t (by omega) n3 i hi.1 hi.2
            have e2 := old i hi.1 hi.2
            have e3 := all i hi.1 hi.2
            rw [r2 i hi.1 hi.2, s152, q152 i hi.1 hi.2] at e3
            apply q
            rw [e1, e2]
            unfold mr
            rw [e3]
        · rcases dif with w | ⟨y, hy, q⟩
          · exact absurd w (by decide)
          · rw [r2 y hy.1 hy.2, s152, q152 y hy.1 hy.2] at q
            have w : ¬ (t : Int) < ν 97 (c - 1) := fun w => by
              have e1 := h1 (c - 1) (by omega) (by omega) t (by omega) w y hy.1 hy.2
              rw [show (61 : Int) + (c - 1) = 60 + c by omega] at e1
              have e2 := old y hy.1 hy.2
              exact mr_ne hy.2 (rp y hy.1 hy.2) (rt y hy.1 hy.2) q (by rw [← e1, ← e2])
            obtain ⟨n1, n2, n3⟩ := nc w
            refine nxt (c + 1) κ' ?_ v f
            rw [show c + 1 - 1 = c by omega]
            exact ⟨⟨by omega, by omega⟩, by omega, by omega⟩
      · have c0 : c = 0 := by
          rcases hc with q | q
          · exact q.2
          · omega
        have k1 : 0 < ν 45 1 := Classical.byContradiction (fun w => by
          rw [show ν 45 1 = 0 by omega, p0] at he
          omega)
        have a2 := (hh.1 0 (by decide) k1).1
        refine inner 1 (fun w => absurd w (by decide)) (fun κ' w => absurd w (by decide)) (fun κ' _ v f => ?_) P' 0 1 κ1 (by decide) (by omega) (Or.inr ⟨rfl, Or.inl rfl⟩) (fun y y0 y1 => by rw [if_neg (by omega)]) (fun _ _ _ => rfl)
        rw [c0]
        refine nxt (0 + 1) κ' ?_ v f
        rw [show (0 : Int) + 1 - 1 = 0 by omega]
        exact ⟨⟨by omega, by omega⟩, by omega, by omega⟩
  refine loop S.toNat 0 0 _ (by omega) (Or.inl ⟨rfl, rfl⟩) (fun w => by omega) ?_ (fun i o i0 i1 o0 o1 => ?_) mz
  · rw [zmap_na (by decide), hf 127 30 (by decide) (by decide) (by decide), p.2.2.2]; exact hP
  · rw [zmap_in (by omega) (by omega)]
    show _ = cut P' (tT μ) i o
    rw [cut_in i0 i1 o0 o1]
    exact (h.1.2.1 i o i0 (by omega) o0 (by omega)).1.1.symm
end T93
