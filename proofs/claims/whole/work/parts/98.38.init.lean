section T95
variable {G : zG} {n : Nat} {μ ν κ : zM}
theorem zm_lo {m : Nat} {F : Nat → Int → Int} {k i : Int} (h : k < m) : zmem m F μ k i = μ k i := by unfold zmem; rw [if_pos h]
theorem zm_hi {m : Nat} {F : Nat → Int → Int} {k i : Int} (h : ¬ k < m) : zmem m F μ k i = F (k - m).toNat i := by unfold zmem; rw [if_neg h]
theorem fX5_z : ∀ {m : Nat}, 2 ≤ m → fX5_init m = fun _ => 0
  | 0, h => by omega
  | 1, h => by omega
  | m + 2, _ => rfl
theorem fX3_z : ∀ {m : Nat}, 1 ≤ m → fX3_init m = fun _ => 0
  | 0, h => by omega
  | m + 1, _ => rfl
theorem fX4_z : ∀ {m : Nat}, 1 ≤ m → fX4_init m = fun _ => 0
  | 0, h => by omega
  | m + 1, _ => rfl
theorem all_init (G : zG) : zInit G Inv := by
  unfold zInit
  refine c6_forget (Nat.le_refl _) ?_
  have p := fgm_pts (μ := zmem 1 fX6_init (fun _ _ => 0))
  generalize hμ0 : fgm (zmem 1 fX6_init (fun _ _ => 0)) = μ0 at *
  have m6 : ∀ j, zmem 1 fX6_init (fun _ _ => 0) 1 j = fX6_init 0 j := fun j => zm_hi (m := 1) (k := 1) (by decide)
  generalize hM2 : zmem 30 fX0_init (zmem 26 fX2_init (zmem 19 fX1_init μ0)) = M2
  have b30 : ∀ k i : Int, 30 ≤ k → M2 k i = fX0_init (k - 30).toNat i := fun k i h => by rw [← hM2, zm_hi (by omega)]; rfl
  have b19 : ∀ k i : Int, 19 ≤ k → k < 26 → M2 k i = fX1_init (k - 19).toNat i := fun k i h h2 => by rw [← hM2, zm_lo (by omega), zm_lo (by omega), zm_hi (by omega)]; rfl
  have b0 : ∀ k i : Int, k < 19 → M2 k i = μ0 k i := fun k i h => by rw [← hM2, zm_lo (by omega), zm_lo (by omega), zm_lo (by omega)]
  refine c0_leadAll (W := 4) (C := 0) (Nat.le_refl _) (b30 30 0 (by decide)) (by decide) (by decide) (b30 30 1 (by decide)) (by decide) (fun c c0 c1 => by omega) (fun μ3 led fr3 => ?_)
  generalize hM4 : zmem 99 fX4_init (zmem 45 fX3_init μ3) = M4
  have d99 : ∀ k i : Int, 99 ≤ k → M4 k i = fX4_init (k - 99).toNat i := fun k i h => by rw [← hM4, zm_hi (by omega)]; rfl
  have d45 : ∀ k i : Int, 45 ≤ k → k < 99 → M4 k i = fX3_init (k - 45).toNat i := fun k i h h2 => by rw [← hM4, zm_lo (by omega), zm_hi (by omega)]; rfl
  have d0 : ∀ k i : Int, k < 45 → M4 k i = μ3 k i := fun k i h => by rw [← hM4, zm_lo (by omega), zm_lo (by omega)]
  refine eX4_matchNone (Nat.le_refl _) (c_fill ⟨by decide, by decide, by decide⟩ (c_fill ⟨by decide, by decide, by decide⟩ ?_))
  have zz : (zn 106 : Int) = 5 ∧ (zn 107 : Int) = 5 := by decide
  rw [zz.1, zz.2]
  generalize hμ5 : zfill (zfill M4 106 5 (-9)) 107 5 (-9) = μ5
  have f5 : ∀ k i : Int, k ≠ 106 → k ≠ 107 → μ5 k i = M4 k i := fun k i h1 h2 => by rw [← hμ5]; unfold zfill; rw [if_neg (fun w => h2 w.1), if_neg (fun w => h1 w.1)]
  have f106 : ∀ i : Int, 0 ≤ i → i < 5 → μ5 106 i = -9 := fun i i0 i1 => by rw [← hμ5]; unfold zfill; rw [if_neg (fun w => absurd w.1 (by decide)), if_pos ⟨rfl, i0, i1⟩]
  generalize hF : zmem 127 fX8_init (zu (zmem 126 (fun _ _ => 0) (zmem 118 fX5_init μ5)) 0 8 0) = F
  have g127 : ∀ k i : Int, 127 ≤ k → F k i = fX8_init (k - 127).toNat i := fun k i h => by rw [← hF, zm_hi (by omega)]; rfl
  have g118 : ∀ k i : Int, 118 ≤ k → k < 126 → F k i = fX5_init (k - 118).toNat i := fun k i h h2 => by rw [← hF, zm_lo (by omega), zu_na (by omega), zm_lo (by omega), zm_hi (by omega)]; rfl
  have g1 : ∀ k i : Int, 1 ≤ k → k < 118 → F k i = μ5 k i := fun k i h h2 => by rw [← hF, zm_lo (by omega), zu_na (by omega), zm_lo (by omega), zm_lo (by omega)]
  have f1 : ∀ i : Int, 0 ≤ i → i < 5 → F 106 i = -9 := fun i i0 i1 => by rw [g1 106 i (by decide) (by decide)]; exact f106 i i0 i1
  have g0 : F 0 8 = 0 := by rw [← hF, zm_lo (by decide), zu_same]
  -- the layers together
  have h99 : ∀ k i : Int, 99 ≤ k → k < 118 → k ≠ 106 → k ≠ 107 → F k i = fX4_init (k - 99).toNat i := fun k i a b c d => by rw [g1 k i (by omega) b, f5 k i c d]; exact d99 k i a
  have h45 : ∀ k i : Int, 45 ≤ k → k < 99 → F k i = fX3_init (k - 45).toNat i := fun k i a b => by rw [g1 k i (by omega) (by omega), f5 k i (by omega) (by omega)]; exact d45 k i a b
  have h3 : ∀ k i : Int, 1 ≤ k → k < 45 → F k i = μ3 k i := fun k i a b => by rw [g1 k i a (by omega), f5 k i (by omega) (by omega)]; exact d0 k i b
  have hM : ∀ k i : Int, 1 ≤ k → k < 45 → ¬ Ldp k i → F k i = M2 k i := fun k i a b c => by rw [h3 k i a b]; exact fr3 k i c
  have nl : ∀ k i : Int, k < 33 → (k = 30 → i ≠ 2) → ¬ Ldp k i := fun k i a b w => by unfold Ldp at w; omega
  have h19 : ∀ k i : Int, 19 ≤ k → k < 26 → F k i = fX1_init (k - 19).toNat i := fun k i a b => by rw [hM k i (by omega) (by omega) (nl k i (by omega) (by omega))]; exact b19 k i a b
  have h0 : ∀ k i : Int, 1 ≤ k → k < 19 → F k i = μ0 k i := fun k i a b => by rw [hM k i a (by omega) (nl k i (by omega) (by omega))]; exact b0 k i b
  have h30 : ∀ i : Int, i ≠ 2 → F 30 i = fX0_init 0 i := fun i a => by rw [hM 30 i (by decide) (by decide) (nl 30 i (by decide) (fun _ => a))]; exact b30 30 i (by decide)
  have e127 : ∀ j, F 127 j = fX8_init 0 j := fun j => g127 127 j (by decide)
  have e10 : F 1 0 = 3 := by rw [h0 1 0 (by decide) (by decide), p.1 0 (by decide), m6]; rfl
  have e11 : F 1 1 = 2 := by rw [h0 1 1 (by decide) (by decide), p.1 1 (by decide), m6]; rfl
  have e12 : F 1 2 = 2 := by rw [h0 1 2 (by decide) (by decide), p.1 2 (by decide), m6]; rfl
  have e13 : F 1 3 = 0 := by rw [h0 1 3 (by decide) (by decide), p.2.1]
  have a2 : F 127 2 = 3 := e127 2
  have a3 : F 127 3 = 2 := e127 3
  have a4 : F 127 4 = 2 := e127 4
  have i1 : I1 F := by
    refine I1_new ⟨⟨by omega, by omega, by omega⟩, ⟨by omega, by omega, by omega⟩, by omega, by omega, by omega⟩ e13 (fun i i0 i1 => ?_) (fun i i0 i1 => g127 128 i (by decide)) (fun s a s0 s1 a0 a1 => ?_)
    · rw [h0 2 i (by decide) (by decide), h0 3 i (by decide) (by decide), h0 4 i (by decide) (by decide)]
      exact p.2.2.1 i i0 i1
    · rw [h0 (7 + s) a (by omega) (by omega), h0 (13 + s) a (by omega) (by omega)]
      exact p.2.2.2.1 s a s0 s1 a0 a1
  have e19 : F 19 0 = 1 := h19 19 0 (by decide) (by decide)
  have a12 : F 127 12 = 1 := e127 12
  have w2 : wd F = 2 := by unfold wd; rw [e19]; decide +kernel
  have r20 : ∀ x : Int, F 20 x = fX1_init 1 x := fun x => h19 20 x (by decide) (by decide)
  have r133 : ∀ x : Int, F 133 x = fX8_init 6 x := fun x => g127 133 x (by decide)
  have c0 : F 20 0 = 0 ∧ F 133 0 = 0 := ⟨r20 0, r133 0⟩
  have c1 : F 20 1 = 1 ∧ F 133 1 = 1 := ⟨r20 1, r133 1⟩
  have x01 : ∀ x : Int, 0 ≤ x → x < 2 → F 20 x = x ∧ F 133 x = x := fun x x0 x1 => by
    have : x = 0 ∨ x = 1 := by omega
    rcases this with q | q
    · rw [q]; exact c0
    · rw [q]; exact c1
  have i2 : I2 F := by
    refine ⟨⟨by omega, by omega, by omega⟩, fun x x0 x1 => ?_, fun x y x0 x1 y0 y1 e => ?_⟩
    · rw [w2] at x1 ⊢
      have := x01 x x0 x1
      omega
    · rw [w2] at x1 y1
      have := x01 x x0 x1
      have := x01 y y0 y1
      omega
  have e300 : F 30 0 = 4 := h30 0 (by decide)
  have e301 : F 30 1 = 0 := h30 1 (by decide)
  have e303 : F 30 3 = 0 := h30 3 (by decide)
  have a24 : F 127 24 = 4 := e127 24
  have a25 : F 127 25 = 0 := e127 25
  have a1 : F 127 1 = 0 := e127 1
  have i3 : I3 F := by
    refine ⟨⟨⟨by omega, by omega, by omega⟩, ⟨by omega, by omega, by omega⟩, by omega, fun c c0 c1 => by omega⟩, ?_⟩
    have q1 : F 31 = M2 31 := by funext j; exact hM 31 j (by decide) (by decide) (nl 31 j (by decide) (fun w => absurd w (by decide)))
    have q2 : F 32 = M2 32 := by funext j; exact hM 32 j (by decide) (by decide) (nl 32 j (by decide) (fun w => absurd w (by decide)))
    rw [e300, e301, q1, q2]
    refine led.eq (by decide) (fun a j w => h3 a j ?_ ?_)
    · unfold Ldp at w; omega
    · unfold Ldp at w; omega
  have e99 : F 99 0 = 3 := h99 99 0 (by decide) (by decide) (by decide) (by decide)
  have e450 : F 45 0 = 3 := h45 45 0 (by decide) (by decide)
  have e451 : F 45 1 = 0 := h45 45 1 (by decide) (by decide)
  have e452 : F 45 2 = 0 := h45 45 2 (by decide) (by decide)
  have a30 : F 127 30 = 3 := e127 30
  have t0 : ∀ k i : Int, 46 ≤ k → k < 99 → F k i = 0 := fun k i a b => by rw [h45 k i (by omega) b, fX3_z (by omega)]
  have q0 : ∀ k i : Int, 100 ≤ k → k < 118 → k ≠ 106 → k ≠ 107 → F k i = 0 := fun k i a b c d => by rw [h99 k i (by omega) b c d, fX4_z (by omega)]
  have k24 : ∀ i : Fin 5, fX8_init 24 (i.1 : Int) = -9 := by decide
  have i4 : I4 F := by
    refine ⟨⟨⟨by omega, by omega, by omega, by omega⟩, fun i o i0 i1 o0 o1 => ?_, fun i i0 i1 => ?_⟩, Or.inl ⟨e452, 3, e450, ⟨by omega, by omega⟩, ?_, ?_⟩⟩
    · have u1 : F 145 (5 * i + o) = 0 := g127 145 _ (by decide)
      have u2 : F 147 (5 * i + o) = 0 := g127 147 _ (by decide)
      rw [t0 (47 + i) o (by omega) (by omega), q0 (101 + i) o (by omega) (by omega) (by omega) (by omega), u1, u2]
      exact ⟨⟨rfl, by decide, by decide⟩, rfl, by decide, by decide, fun _ => rfl⟩
    · have u1 : F 148 i = 0 := g127 148 _ (by decide)
      have u2 : F 149 i = 0 := g127 149 _ (by decide)
      have u3 : F 151 i = fX8_init 24 i := g127 151 _ (by decide)
      have u4 := k24 ⟨i.toNat, by omega⟩
      simp only [Int.toNat_of_nonneg i0] at u4
      rw [f1 i i0 i1, q0 108 i (by decide) (by decide) (by decide) (by decide), q0 109 i (by decide) (by decide) (by decide) (by decide), u1, u2, u3, u4, e99]
      exact ⟨⟨rfl, Or.inl rfl⟩, ⟨rfl, by decide, by decide⟩, rfl, by decide, by decide⟩
    · rw [e451]; exact ⟨fun j j0 j1 => by omega, fun j j0 j1 => by omega⟩
    · rw [e451, spn_e (P := 3) (T := tT F) (T' := fun _ _ => 0) (fun i o i0 i1 o0 o1 => t0 (47 + i) o (by omega) (by omega))]
      unfold pst
      rw [if_pos rfl]
      decide
  have a0 : F 127 0 = 0 := e127 0
  have k119 : ∀ k : Fin 4, fX5_init 1 (k.1 : Int) = -1 ∧ fX8_init 10 (k.1 : Int) = -9 := by decide
  have i5 : I5 F := by
    refine ⟨⟨by omega, by rw [g0]; exact ⟨by decide, by decide⟩⟩, fun k k0 k1 => ?_⟩
    have u := k119 ⟨k.toNat, by omega⟩
    simp only [Int.toNat_of_nonneg k0] at u
    have u1 : F 119 k = -1 := by rw [g118 119 k (by decide) (by decide)]; exact u.1
    have u2 : F 137 k = -9 := by rw [g127 137 k (by decide)]; exact u.2
    refine ⟨Or.inl ⟨u1, u2⟩, fun i i0 i1 => ?_⟩
    have u3 : F 139 (60 * k + i) = 0 := g127 139 _ (by decide)
    unfold Cells
    rw [u1, u3, g118 (122 + k) i (by omega) (by omega), fX5_z (by omega)]
    exact ⟨rfl, fun w => absurd w (by decide), fun w => absurd w (by decide), show (-2147483648 : Int) ≤ 0 by decide, show (0 : Int) < 2147483648 by decide⟩
  exact ⟨i1, i2, i3, i4, i5⟩
end T95
