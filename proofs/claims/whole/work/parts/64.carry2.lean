section T24
variable {G : zG} {n : Nat} {μ ν : zM}
theorem I2_of {k : Int} (hk : k = 1 ∨ k = 2 ∨ k = 3) (h1 : ν 19 0 = k) (h2 : ν 127 12 = k) {f : Int → Int} (hf : Ij (zshl 1 k) f) (h3 : ∀ x, 0 ≤ x → x < zshl 1 k → ν 20 x = f x ∧ ν 133 x = f x) : I2 ν := by
  have w : wd ν = zshl 1 k := by unfold wd; rw [h1]
  refine ⟨⟨by omega, by omega, by omega⟩, fun x x0 x1 => ?_, fun x y x0 x1 y0 y1 q => ?_⟩
  · rw [w] at x1 ⊢
    have := h3 x x0 x1
    have b := hf.1 x x0 x1
    rw [this.1, this.2]
    exact ⟨rfl, b⟩
  · rw [w] at x1 y1
    rw [(h3 x x0 x1).1, (h3 y y0 y1).1] at q
    exact hf.2 x y x0 x1 y0 y1 q
theorem t_carry (hn : 154 ≤ n) (h : I2 μ) {k st : Int} (hk : R32 k) (hs : R64 st) : mX7_carry G n k st μ (fun a μ1 => mX8_carry G n k st μ1 (fun b μ2 => a = b ∧ I2 μ2 ∧ Fz 2 μ μ2)) := by
  obtain ⟨k1, k2⟩ := id hk
  obtain ⟨s1, s2⟩ := id hs
  have m8 : ∀ (a : Int) (μ1 : zM), (¬ (1 ≤ k ∧ k ≤ 3) → a = -2 ∧ μ1 = μ) → (∀ p : Nat, (k = 1 → p = 1) → (k = 2 → p = 6) → (k = 3 → p = 20) → (p = 1 ∨ p = 6 ∨ p = 20) → (1 ≤ k ∧ k ≤ 3) → (¬ (0 ≤ st ∧ st < 2 ^ p) → a = -2 ∧ μ1 = μ) ∧ ((0 ≤ st ∧ st < 2 ^ p) → a = zshl 1 k ∧ μ1 = zmap (zu μ 19 0 k) 20 (zshl 1 k) (crk k (zl2i st)))) → mX8_carry G n k st μ1 (fun b μ2 => a = b ∧ I2 μ2 ∧ Fz 2 μ μ2) := by
    intro a μ1 h1 h2
    refine eX8_carry hn (c8_within hn ?_)
    simp (disch := omega) only [wr_of, ite_b0, Classical.not_not]
    refine ⟨fun z => ?_, fun z => ?_⟩
    · obtain ⟨q1, q2⟩ := h1 z
      exact ⟨q1, q2 ▸ h, q2 ▸ Fz.rf⟩
    · have bad : a = -2 ∧ μ1 = μ → (a = -2 ∧ I2 μ1 ∧ Fz 2 μ μ1) := fun q => ⟨q.1, q.2 ▸ h, q.2 ▸ Fz.rf⟩
      have hkk : k = 1 ∨ k = 2 ∨ k = 3 := by omega
      have good : a = zshl 1 k ∧ μ1 = zmap (zu μ 19 0 k) 20 (zshl 1 k) (crk k (zl2i st)) → ∀ μ8 : zM, μ8 = zu μ1 127 12 k → ∀ v9 : Int, v9 = zl2i st → pX8_carry G n (fun b μ2 => a = b ∧ I2 μ2 ∧ Fz 2 μ μ2) 58 [some (Rv G 127), some (Iv k), none, none, some (Iv v9), some (Iv 0)] [] μ8 := by
        rintro ⟨q1, q2⟩ μ8 e8 v9 e9
        subst e9
        refine c8_carryL hn hkk (by rw [e8, zu_same]) ⟨q1, I2_of hkk ?_ ?_ (crk_Ij hkk (zl2i st)) ?_, ?_⟩
        · rw [zmap_na (by decide), e8, zu_na (by decide), q2, zmap_na (by decide), zu_same]
        · rw [zmap_na (by decide), e8, zu_same]
        · intro x x0 x1
          rw [zmap_na (by decide), e8, zu_na (by decide), q2, zmap_in x0 x1, zmap_in x0 x1]
          exact ⟨rfl, rfl⟩
        · intro b j hz
          have hb1 : b ≠ 133 := fun q => hz (by rw [q]; rfl)
          have hb2 : b ≠ 20 := fun q => hz (by rw [q]; rfl)
          have hb3 : b ≠ 19 := fun q => hz (by rw [q]; rfl)
          have hb4 : ¬ (b = 127 ∧ j = 12) := fun q => hz (by rw [q.1, q.2]; rfl)
          rw [zmap_na hb1, e8, zu_ne hb4, q2, zmap_na hb2, zu_na hb3]
      have r0 : R64 0 := ⟨by decide, by decide⟩
      have w1 : zlshl 1 1 = 2 := by decide +kernel
      have w6 : zlshl 1 6 = 64 := by decide +kernel
      have w20 : zlshl 1 20 = 1048576 := by decide +kernel
      rw [w1, w6, w20, zlcmp_i hs r0, zlcmp_i hs (b := 2) ⟨by decide, by decide⟩, zlcmp_i hs (b := 64) ⟨by decide, by decide⟩, zlcmp_i hs (b := 1048576) ⟨by decide, by decide⟩]
      refine ⟨fun z2 => ?_, fun z2 => ⟨fun z3 => ⟨fun z4 => ⟨fun z5 => ?_, fun z5 => ?_⟩, fun z4 => ⟨fun z5 => ?_, fun z5 => ?_⟩⟩, fun z3 => ⟨fun z5 => ?_, fun z5 => ?_⟩⟩⟩
      · have st0 : st < 0 := by split at z2 <;> first | omega | (split at z2 <;> omega)
        rcases hkk with q | q | q
        · exact bad ((h2 1 (by omega) (by omega) (by omega) (by decide) z).1 (by omega))
        · exact bad ((h2 6 (by omega) (by omega) (by omega) (by decide) z).1 (by omega))
        · exact bad ((h2 20 (by omega) (by omega) (by omega) (by decide) z).1 (by omega))
      all_goals have st0 : 0 ≤ st := by split at z2 <;> first | omega | (split at z2 <;> omega)
      · have st1 : st < 1048576 := by split at z5 <;> first | omega | (split at z5 <;> omega)
        exact good ((h2 20 (by omega) (by omega) (by omega) (by decide) z).2 (by omega))
      · have st1 : ¬ st < 1048576 := by split at z5 <;> first | omega | (split at z5 <;> omega)
        exact bad ((h2 20 (by omega) (by omega) (by omega) (by decide) z).1 (by omega))
      · have st1 : st < 64 := by split at z5 <;> first | omega | (split at z5 <;> omega)
        exact good ((h2 6 (by omega) (by omega) (by omega) (by decide) z).2 (by omega))
      · have st1 : ¬ st < 64 := by split at z5 <;> first | omega | (split at z5 <;> omega)
        exact bad ((h2 6 (by omega) (by omega) (by omega) (by decide) z).1 (by omega))
      · have st1 : st < 2 := by split at z5 <;> first | omega | (split at z5 <;> omega)
        exact good ((h2 1 (by omega) (by omega) (by omega) (by decide) z).2 (by omega))
      · have st1 : ¬ st < 2 := by split at z5 <;> first | omega | (split at z5 <;> omega)
        exact bad ((h2 1 (by omega) (by omega) (by omega) (by decide) z).1 (by omega))
  refine eX7_carry hn (c_within hn ?_)
  simp (disch := omega) only [wr_of, ite_b0, Classical.not_not]
  refine ⟨fun z => m8 _ _ (fun _ => ⟨rfl, rfl⟩) (fun _ _ _ _ _ q => absurd q z), fun z => ⟨by omega, ?_⟩⟩
  have main : ∀ p : Nat, (p = 1 ∨ p = 6 ∨ p = 20) → zpairs k.toNat = (p : Int) → (∀ p' : Nat, (k = 1 → p' = 1) → (k = 2 → p' = 6) → (k = 3 → p' = 20) → p' = p) → ((wr (zlcmp (zlushr st (zpairs k.toNat)) 0) = 0 → (mX1_carryBy G n k (zl2i st) μ (fun μ7 => mX1_width G n μ7 (fun r8 μ9 => mX8_carry G n k st μ9 (fun b μ2 => r8 = b ∧ I2 μ2 ∧ Fz 2 μ μ2))))) ∧ (¬ (wr (zlcmp (zlushr st (zpairs k.toNat)) 0) = 0) → mX8_carry G n k st μ (fun b μ2 => -2 = b ∧ I2 μ2 ∧ Fz 2 μ μ2))) := by
    intro p hp hz hu
    rw [hz]
    rw [zlushr_0 hs hp]
    refine ⟨fun q => c1_carryBy hn (by omega) (c1_width (by omega) (m8 _ _ (fun q => absurd z q) ?_)), fun q => m8 _ _ (fun q => absurd z q) ?_⟩
    · intro p' u1 u2 u3 u4 u5
      rw [hu p' u1 u2 u3]
      refine ⟨fun w => absurd q w, fun _ => ⟨?_, rfl⟩⟩
      unfold wd
      rw [zmap_na (by decide), zu_same]
    · intro p' u1 u2 u3 u4 u5
      rw [hu p' u1 u2 u3]
      exact ⟨fun _ => ⟨rfl, rfl⟩, fun w => absurd w q⟩
  have hkk : k = 1 ∨ k = 2 ∨ k = 3 := by omega
  rcases hkk with q | q | q
  · exact main 1 (by decide) (by rw [q]; rfl) (fun p' u _ _ => u q)
  · exact main 6 (by decide) (by rw [q]; rfl) (fun p' _ u _ => u q)
  · exact main 20 (by decide) (by rw [q]; rfl) (fun p' _ _ u => u q)
end T24
