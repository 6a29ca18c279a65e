section T59
variable {G : zG} {n : Nat} {μ ν κ V W : zM} {a b t : Int}
theorem t_mend (hn : 154 ≤ n) (h : I1 μ) {i o : Int} (hi : R32 i) (ho : R32 o) : mX7_mend G n i o μ (fun a μ1 => mX8_mend G n i o μ1 (fun b μ2 => a = b ∧ I1 μ2 ∧ Fz 1 μ μ2)) := by
  have S0 : Sm3 μ μ := ⟨⟨rfl, rfl, rfl⟩, fun _ => rfl, fun _ => rfl⟩
  have gN := h.gd.nn
  refine eX7_mend hn (c6_refusalOf hn h hi ho ?_)
  rcases rfz_r μ i o with q | q | ⟨q, fi, fo, f2, f3⟩
  · rw [q]
    exact ⟨fun z => absurd z (by decide), fun _ => eX8_mend hn (c8_refuse (K := fun b μ2 => -1 = b ∧ I1 μ2 ∧ Fz 1 μ μ2) (Q := fun μ8 => mX8_mendOne G n i o μ8 (fun r10 μ11 => -1 = r10 ∧ I1 μ11 ∧ Fz 1 μ μ11)) hn S0 h hi ho (fun _ => ⟨rfl, h, Fz.rf⟩) (fun z => by omega) (fun z => by omega))⟩
  · rw [q]
    exact ⟨fun z => absurd z (by decide), fun _ => eX8_mend hn (c8_refuse (K := fun b μ2 => -3 = b ∧ I1 μ2 ∧ Fz 1 μ μ2) (Q := fun μ8 => mX8_mendOne G n i o μ8 (fun r10 μ11 => -3 = r10 ∧ I1 μ11 ∧ Fz 1 μ μ11)) hn S0 h hi ho (fun z => by omega) (fun _ => ⟨rfl, h, Fz.rf⟩) (fun z => by omega))⟩
  · rw [q]
    refine ⟨fun _ => eX6_setUpMended (by omega) (c6_few hn h (Rc_self h) fi fo (fun z ez ν1 hA hB hf => ?_)), fun z => absurd rfl z⟩
    have zr := (ez ▸ few_P (s := i / μ 1 1) (A := μ 1 11) (B := μ 1 12) h (sw_lt fo.1 fo.2 (show 0 < μ 1 1 by have := h.gd.2.1; omega)) : Pz μ (i / μ 1 1) (o / μ 1 1) z).r
    simp (disch := omega) only [wr_of]
    refine ⟨fun zn => eX6_join (by omega) ?_, fun zn => ?_⟩
    · obtain ⟨N, zl⟩ := few_N h fi fo f2 f3 ez zn
      obtain ⟨v1, v2, v3, v4, v5, v6, v7, v8, v9, v10⟩ := Vst_s N
      simp (disch := omega) only [wr_of]
      refine ⟨by omega, fun μ2 e2 => ⟨by omega, fun μ4 e4 μ5 e5 => ?_⟩⟩
      have q13 : μ4 1 3 = μ 1 3 := by rw [e4, zu_na (by decide), e2, zu_na (by decide)]; exact hf _ _ (by decide) (by decide)
      rw [q13] at e5
      have U : ∀ x j, μ5 x j = if x = 1 ∧ j = 3 then μ 1 3 + 1 else if x = 3 ∧ j = o then i else if x = 2 ∧ j = i then o else ν1 x j := fun x j => by rw [e5, e4, e2]; rfl
      have r5 : Rc μ μ5 := by
        refine ⟨?_, fun s a s0 s1 a0 a1 => ?_, fun j j0 j1 hj => ?_⟩
        · rw [U, if_neg (by omega), if_neg (by omega), if_neg (by omega), U, if_neg (by omega), if_neg (by omega), if_neg (by omega), U, if_neg (by omega), if_neg (by omega), if_neg (by omega)]
          exact ⟨hf _ _ (by decide) (by decide), hf _ _ (by decide) (by decide), hf _ _ (by decide) (by decide)⟩
        · rw [U, if_neg (by omega), if_neg (by omega), if_neg (by omega), U, if_neg (by omega), if_neg (by omega), if_neg (by omega)]
          exact ⟨hf _ _ (by omega) (by omega), hf _ _ (by omega) (by omega)⟩
        · have : j ≠ i := fun e => hj (by rw [e]; exact f2)
          rw [U, if_neg (by omega), if_neg (by omega), if_neg (by omega), U, if_neg (by omega), if_neg (by omega), if_neg (by omega)]
          exact ⟨hf _ _ (by decide) (by omega), hf _ _ (by decide) (by omega)⟩
      refine c6_best hn N r5 (by rw [U, if_neg (by omega), if_neg (by omega), if_neg (by omega)]; exact hA) (by rw [U, if_neg (by omega), if_neg (by omega), if_neg (by omega)]; exact hB) (by rw [U, if_neg (by omega), if_neg (by omega), if_pos ⟨rfl, rfl⟩]) (fun ν2 R2 h4 f2' => ?_)
      have g2 : ∀ x j, ¬ Mv x → x ≠ 18 → x ≠ 1 → x ≠ 2 → x ≠ 3 → ν2 x j = μ x j := fun x j q1 q2 q3 q4 q5 => by
        rw [f2' x j q1 q2, U, if_neg (by omega), if_neg (by omega), if_neg (by omega)]
        exact hf x j q2 (by omega)
      have m2 : Sm3 μ ν2 := ⟨⟨g2 _ _ (by unfold Mv; omega) (by decide) (by decide) (by decide) (by decide), g2 _ _ (by unfold Mv; omega) (by decide) (by decide) (by decide) (by decide), g2 _ _ (by unfold Mv; omega) (by decide) (by decide) (by decide) (by decide)⟩, fun j => g2 _ _ (by unfold Mv; omega) (by decide) (by decide) (by decide) (by decide), fun j => g2 _ _ (by unfold Mv; omega) (by decide) (by decide) (by decide) (by decide)⟩
      refine eX8_mend hn (c8_refuse (K := fun b μ2 => z.1 = b ∧ I1 μ2 ∧ Fz 1 μ μ2) (Q := fun μ8 => mX8_mendOne G n i o μ8 (fun r10 μ11 => z.1 = r10 ∧ I1 μ11 ∧ Fz 1 μ μ11)) hn m2 h hi ho (fun z => by omega) (fun z => by omega) (fun _ => c8_mendOne hn h m2 fi fo f2 f3 (fun z' ez' hz' => ?_) (fun z' ez' hz' ν3 S3 f3' => ?_)))
      · exfalso
        have := (few_R (V := μ) (s := i / μ 1 1) (t := o / μ 1 1) (A := μ 1 11) (B := μ 1 12) (A' := ν2 127 8) (B' := ν2 127 9)).1
        rw [← ez, ← ez', hz'] at this
        exact zn this
      · have ze : z = z' := by
          have := (few_R (V := μ) (s := i / μ 1 1) (t := o / μ 1 1) (A := μ 1 11) (B := μ 1 12) (A' := ν2 127 8) (B' := ν2 127 9)).2
          rw [← ez, ← ez'] at this
          exact this zn
        subst ze
        have c3 : ∀ x j, x < 127 → ν3 x j = ν2 x j := fun x j w => f3' x j (by omega) (by omega) (by omega) (by omega)
        refine ⟨rfl, v1.eq1 ⟨⟨?_, ?_, ?_, ?_⟩, ?_, fun j j0 j1 => ⟨?_, ?_, ?_, ?_, fun _ => ?_⟩, fun s x s0 s1 x0 x1 => ⟨?_, ?_⟩⟩, fun x j hz => ?_⟩
        · rw [c3 _ _ (by decide)]; exact R2.1.1
        · rw [c3 _ _ (by decide)]; exact R2.1.2.1
        · rw [c3 _ _ (by decide)]; exact R2.1.2.2
        · rw [c3 _ _ (by decide), f2' _ _ (by unfold Mv; omega) (by decide), U, if_pos ⟨rfl, rfl⟩, v4]
        · rw [v2, v2, v2, f3' _ _ (by decide) (by decide) (by decide) (by decide), f3' _ _ (by decide) (by decide) (by decide) (by decide), f3' _ _ (by decide) (by decide) (by decide) (by decide)]
          exact m2.1
        · rw [c3 _ _ (by decide), f2' _ _ (by unfold Mv; omega) (by decide), v5, U, if_neg (by omega), if_neg (by omega)]
          by_cases e : j = i
          · rw [if_pos ⟨rfl, e⟩, if_pos e]
          · rw [if_neg (fun w => e w.2), if_neg e]; exact hf _ _ (by decide) (by omega)
        · rw [c3 _ _ (by decide), f2' _ _ (by unfold Mv; omega) (by decide), v6, U, if_neg (by omega)]
          by_cases e : j = o
          · rw [if_pos ⟨rfl, e⟩, if_pos e]
          · rw [if_neg (fun w => e w.2), if_neg (by omega), if_neg e]; exact hf _ _ (by decide) (by omega)
        · rw [c3 _ _ (by decide)]
          by_cases e : Vst μ z.2.1 z.2.2 (o / μ 1 1) i o 2 j = -9
          · have ji : j ≠ i := fun w => by rw [v5, if_pos w] at e; omega
            have mj : μ 2 j = -9 := by rw [v5, if_neg ji] at e; exact e
            have nin : ¬ In μ z.2.1 z.2.2 (o / μ 1 1) 0 (clen μ z.2.1 z.2.2 (o / μ 1 1)) j := fun w => by
              have := (In_up N.1 (Nat.le_refl _) w).2.2.1; omega
            rw [h4 j ji nin, U, if_neg (by omega), if_neg (by omega), if_neg (by omega), hf _ _ (by decide) (by omega)]
            have d1 : μ 4 j = -9 := by
              rcases h.row j j0 j1 with d | d
              · exact d.2.2
              · have := d.2.1; omega
            have d2 : Vst μ z.2.1 z.2.2 (o / μ 1 1) i o 4 j = -9 := by
              rcases v1.row j j0 j1 with d | d
              · exact d.2.2
              · have := d.2.1; omega
            rw [d1, d2]
          · exact (R2.2.2 j j0 j1 e).2
        · exact S3.2.1 j
        · exact S3.2.2 j
        · rw [c3 _ _ (by omega)]; exact (R2.2.1 s x s0 s1 x0 x1).1
        · rw [c3 _ _ (by omega)]; exact (R2.2.1 s x s0 s1 x0 x1).2
        · have n1 : ¬ (1 ≤ x ∧ x ≤ 18 ∨ 128 ≤ x ∧ x ≤ 132) := fun w => hz (z1_1 w)
          have n2 : ¬ (x = 127 ∧ (j = 8 ∨ j = 9)) := fun w => hz (by rw [w.1]; exact z1_127 (by omega))
          rw [f3' x j (by omega) (by omega) (by omega) n2]
          exact g2 x j (by unfold Mv; omega) (by omega) (by omega) (by omega) (by omega)
    · have m1 : Sm3 μ ν1 := ⟨⟨hf _ _ (by decide) (by decide), hf _ _ (by decide) (by decide), hf _ _ (by decide) (by decide)⟩, fun j => hf _ _ (by decide) (by omega), fun j => hf _ _ (by decide) (by omega)⟩
      refine eX8_mend hn (c8_refuse (K := fun b μ2 => -9 = b ∧ I1 μ2 ∧ Fz 1 μ μ2) (Q := fun μ8 => mX8_mendOne G n i o μ8 (fun r10 μ11 => -9 = r10 ∧ I1 μ11 ∧ Fz 1 μ μ11)) hn m1 h hi ho (fun z => by omega) (fun z => by omega) (fun _ => c8_mendOne hn h m1 fi fo f2 f3 (fun z' ez' hz' ν3 f3' => ⟨rfl, ?_⟩) (fun z' ez' hz' => ?_)))
      · obtain ⟨e, f⟩ := E1_of (μ := μ) (ν := ν3) (fun a j q1 q2 q3 q4 => by rw [f3' a j q2 q4, hf a j q1 q3])
        exact ⟨h.eq1 e, f⟩
      · exfalso
        have := (few_R (V := μ) (s := i / μ 1 1) (t := o / μ 1 1) (A := μ 1 11) (B := μ 1 12) (A' := ν1 127 8) (B' := ν1 127 9)).1
        rw [← ez, ← ez', zn] at this
        exact hz' this.symm
end T59
