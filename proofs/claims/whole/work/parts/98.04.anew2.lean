section T61
variable {G : zG} {n : Nat} {μ ν κ V W : zM} {a b t : Int}
/-- what laying anew keeps of the class's part -/
def Ka (μ κ : zM) : Prop := (∀ j, κ 2 j = μ 2 j) ∧ (∀ j, 0 ≤ j → j < 20 → κ 5 j = μ 4 j) ∧ (∀ j, 0 ≤ j → j < 20 → μ 2 j = -9 → κ 4 j = -9) ∧ (∀ x j, ¬ Mv x → x ≠ 5 → x ≠ 18 → ¬ (x = 1 ∧ (j = 11 ∨ j = 12)) → κ x j = μ x j)
theorem Rc_V0 (h : I1 μ) (hl : ∀ s x, 0 ≤ s → s < 5 → 0 ≤ x → x < 7 → κ (7 + s) x = -9 ∧ κ (13 + s) x = -9) (k : ∀ j, j ≠ 11 → j ≠ 12 → κ 1 j = μ 1 j) : Rc (V0 μ) κ := by
  obtain ⟨a1, a2, a3, a4, _⟩ := V0_s h
  refine ⟨by rw [k 0 (by decide) (by decide), k 1 (by decide) (by decide), k 2 (by decide) (by decide), a3 0 (by decide), a3 1 (by decide), a3 2 (by decide)]; exact ⟨rfl, rfl, rfl⟩, fun s x s0 s1 x0 x1 => ?_, fun i i0 i1 q => absurd (a4 i i0 i1) q⟩
  have := hl s x s0 s1 x0 x1
  rw [this.1, this.2]
  unfold V0
  rw [if_neg (by omega), if_neg (by omega), if_pos (by omega), if_neg (by omega), if_neg (by omega), if_pos (by omega)]
  exact ⟨rfl, rfl⟩
theorem frm_pts : (∀ s x, 0 ≤ s → s < 5 → 0 ≤ x → x < 7 → frm κ 5 (7 + s) x = -9 ∧ frm κ 5 (13 + s) x = -9) ∧ (∀ x j, ¬ ((7 ≤ x ∧ x < 12) ∨ (13 ≤ x ∧ x < 18)) → frm κ 5 x j = κ x j) := by
  refine ⟨fun s x s0 s1 x0 x1 => ⟨?_, ?_⟩, fun x j q => ?_⟩
  · unfold frm; rw [if_pos (by omega)]
  · unfold frm; rw [if_pos (by omega)]
  · unfold frm; rw [if_neg (by omega)]
/-- the class goes back to how the calls went -/
theorem c6_goBack (hn : 154 ≤ n) (h : I1 μ) (k : Ka μ κ) {K : zM → Prop} (hK : ∀ ν : zM, Ka μ ν → (∀ j, 0 ≤ j → j < 20 → ν 4 j = μ 4 j) → (∀ s x, 0 ≤ s → s < 5 → 0 ≤ x → x < 7 → ν (7 + s) x = μ (7 + s) x ∧ ν (13 + s) x = μ (13 + s) x) → K ν) : mX6_goBackToEarlier G n κ K := by
  have g := h.gd
  have gN := g.nn
  have k1 : ∀ {ν : zM}, Ka μ ν → ∀ j, j ≠ 11 → j ≠ 12 → ν 1 j = μ 1 j := fun kk j q1 q2 => kk.2.2.2 1 j (by unfold Mv; omega) (by decide) (by decide) (by omega)
  have key : ∀ (f x : Nat) (ν : zM), (x : Int) + f = μ 1 0 * μ 1 1 → Ka μ ν → Rc (BV μ x) ν → pX6_goBackToEarlier G n K 6 [some (Rv G 1), some (Iv x)] [] ν := by
    intro f
    induction f with
    | zero =>
      intro x ν ex kk R
      refine bX6_goBackToEarlier_6 (by omega) (eX6_inlets (by omega) ?_)
      rw [k1 kk 0 (by decide) (by decide), k1 kk 1 (by decide) (by decide)]
      simp (disch := omega) only [wr_of]
      refine ⟨fun _ => ?_, fun z => by omega⟩
      -- the inlets beyond have no calls
      have up : ∀ m : Nat, x + m ≤ 20 → BV μ (x + m) = BV μ x := by
        intro m
        induction m with
        | zero => intro _; rfl
        | succ m im =>
          intro hm
          have : μ 2 ((x + m : Nat) : Int) = -9 := by
            rcases h.row ((x + m : Nat) : Int) (by omega) (by omega) with d | d
            · exact d.1
            · have := d.1; omega
          show (if μ 2 ((x + m : Nat) : Int) = -9 then BV μ (x + m) else _) = _
          rw [if_pos this]; exact im (by omega)
      have e20 := up (20 - x) (by omega)
      rw [show x + (20 - x) = 20 by omega] at e20
      rw [← e20] at R
      obtain ⟨⟨I, p1, p2, p3⟩, i4, _⟩ := BV_s h 20 (Nat.le_refl _)
      refine hK ν kk (fun j j0 j1 => ?_) (fun s y s0 s1 y0 y1 => ?_)
      · by_cases q : μ 2 j = -9
        · rw [kk.2.2.1 j j0 j1 q]
          rcases h.row j j0 j1 with d | d
          · exact d.2.2.symm
          · have := d.2.1; omega
        · have := (R.2.2 j j0 j1 (by rw [p3 j j0 j1, if_pos (by omega)]; exact q)).2
          rw [this, i4 j j0 (by omega) q]
      · have l := BV_links h s y s0 s1 y0 y1
        rw [(R.2.1 s y s0 s1 y0 y1).1, (R.2.1 s y s0 s1 y0 y1).2, l.1, l.2]
        exact ⟨rfl, rfl⟩
    | succ f ih =>
      intro x ν ex kk R
      have r2 := h.r2 (i := x) (by omega) (by omega)
      refine bX6_goBackToEarlier_6 (by omega) (eX6_inlets (by omega) ?_)
      rw [k1 kk 0 (by decide) (by decide), k1 kk 1 (by decide) (by decide)]
      simp (disch := omega) only [wr_of]
      rw [kk.1 x]
      simp (disch := omega) only [wr_of]
      refine ⟨fun z => by omega, fun _ => ⟨by omega, fun z => ih (x + 1) ν (by omega) kk ?_, fun z => ⟨by omega, ?_⟩⟩⟩
      · show Rc (if _ then _ else _) ν
        rw [if_pos z]; exact R
      · obtain ⟨pB, _, _⟩ := BV_s h x (by omega)
        have fr := (BV_s h (x + 1) (by omega)).2.2 x rfl z
        rw [kk.2.1 x (by omega) (by omega)]
        refine c6_go hn pB.1 R fr (kk.1 x) (fun ν' R' h4 hf => ih (x + 1) ν' (by omega) ⟨fun j => by rw [hf _ _ (by unfold Mv; omega)]; exact kk.1 j, fun j j0 j1 => by rw [hf _ _ (by unfold Mv; omega)]; exact kk.2.1 j j0 j1, fun j j0 j1 q => ?_, fun y j q1 q2 q3 q4 => by rw [hf y j q1]; exact kk.2.2.2 y j q1 q2 q3 q4⟩ ?_)
        · rw [h4 j (fun e => z (by rw [← e]; exact q))]; exact kk.2.2.1 j j0 j1 q
        · show Rc (if _ then _ else _) ν'
          rw [if_neg z]; exact R'
  refine eX6_goBackToEarlier (by omega) (c6_freeAll (by omega) ?_)
  obtain ⟨l1, l2⟩ := frm_pts (κ := κ)
  have kf : Ka μ (frm κ 5) := ⟨fun j => by rw [l2 _ _ (by omega)]; exact k.1 j, fun j j0 j1 => by rw [l2 _ _ (by omega)]; exact k.2.1 j j0 j1, fun j j0 j1 q => by rw [l2 _ _ (by omega)]; exact k.2.2.1 j j0 j1 q, fun x j q1 q2 q3 q4 => by rw [l2 _ _ (by unfold Mv at q1; omega)]; exact k.2.2.2 x j q1 q2 q3 q4⟩
  exact key (μ 1 0 * μ 1 1).toNat 0 _ (by omega) kf (Rc_V0 h l1 (k1 kf))
/-- how many calls go by another middle switch -/
def cA (μ : zM) (m : Nat) : Int := cd (fun j => if μ 2 j = -9 then -9 else AV μ 20 4 j) (μ 4) m
theorem AV_up (h : I1 μ) {x : Nat} (hx : μ 1 0 * μ 1 1 ≤ x) : ∀ m : Nat, x + m ≤ 20 → AV μ (x + m) = AV μ x := by
  intro m
  induction m with
  | zero => intro _; rfl
  | succ m im =>
    intro hm
    have : μ 2 ((x + m : Nat) : Int) = -9 := by
      rcases h.row ((x + m : Nat) : Int) (by omega) (by omega) with d | d
      · exact d.1
      · have := d.1; omega
    show (if μ 2 ((x + m : Nat) : Int) = -9 then AV μ (x + m) else _) = _
    rw [if_pos this]; exact im (by omega)
theorem c6_anew (hn : 154 ≤ n) (h : I1 μ) {K : Int → zM → Prop}
    (h1 : (∀ x, x < 20 → ¬ Afl μ x) → ∀ ν : zM, Ka μ ν → Rc (AV μ 20) ν → K (cA μ 20) ν)
    (h0 : ∀ x, x < 20 → (∀ y, y < x → ¬ Afl μ y) → Afl μ x → ∀ ν : zM, Ka μ ν → (∀ j, 0 ≤ j → j < 20 → ν 4 j = μ 4 j) → (∀ s x, 0 ≤ s → s < 5 → 0 ≤ x → x < 7 → ν (7 + s) x = μ (7 + s) x ∧ ν (13 + s) x = μ (13 + s) x) → K (-3) ν) : mX6_layAllAnew G n μ K := by
  have g := h.gd
  have gN := g.nn
  have g2 := g.2.1
  have k1 : ∀ {ν : zM}, Ka μ ν → ∀ j, j ≠ 11 → j ≠ 12 → ν 1 j = μ 1 j := fun kk j q1 q2 => kk.2.2.2 1 j (by unfold Mv; omega) (by decide) (by decide) (by omega)
  have cnt : (∀ x, x < 20 → ¬ Afl μ x) → ∀ ν : zM, Ka μ ν → Rc (AV μ 20) ν → ∀ (f x : Nat), (x : Int) + f = μ 1 0 * μ 1 1 → pX6_layAllAnew G n K 65 [some (Rv G 1), some (Iv (cA μ x)), some (Iv x)] [] ν := by
    intro nf ν kk R f
    have p := AV_s h 20 (Nat.le_refl _) nf
    induction f with
    | zero =>
      intro x ex
      refine bX6_layAllAnew_65 (by omega) (eX6_inlets (by omega) ?_)
      rw [k1 kk 0 (by decide) (by decide), k1 kk 1 (by decide) (by decide)]
      simp (disch := omega) only [wr_of]
      refine ⟨fun _ => ?_, fun z => by omega⟩
      have up : ∀ m : Nat, x + m ≤ 20 → cA μ (x + m) = cA μ x := by
        intro m
        induction m with
        | zero => intro _; rfl
        | succ m im =>
          intro hm
          have e : μ 2 ((x + m : Nat) : Int) = -9 ∧ μ 4 ((x + m : Nat) : Int) = -9 := by
            rcases h.row ((x + m : Nat) : Int) (by omega) (by omega) with d | d
            · exact ⟨d.1, d.2.2⟩
            · have := d.1; omega
          show cd _ _ (x + m) + (if (if μ 2 ((x + m : Nat) : Int) = -9 then -9 else AV μ 20 4 ((x + m : Nat) : Int)) = μ 4 ((x + m : Nat) : Int) then 0 else 1) = _
          rw [if_pos e.1, if_pos e.2.symm, Int.add_zero]
          exact im (by omega)
      have e20 := up (20 - x) (by omega)
      rw [show x + (20 - x) = 20 by omega] at e20
      rw [← e20]
      exact h1 nf ν kk R
    | succ f ih =>
      intro x ex
      have e4 : ν 4 x = if μ 2 x = -9 then -9 else AV μ 20 4 x := by
        by_cases q : μ 2 x = -9
        · rw [if_pos q]; exact kk.2.2.1 x (by omega) (by omega) q
        · rw [if_neg q]; exact (R.2.2 x (by omega) (by omega) (by rw [p.2.2.2 x (by omega) (by omega), if_pos (by omega)]; exact q)).2
      have e5 := kk.2.1 x (by omega) (by omega)
      have rr : -9 ≤ μ 4 x ∧ μ 4 x < 7 := by
        rcases h.row x (by omega) (by omega) with d | d
        · have := d.2.2; omega
        · have := d.2.2.1; have := g.2.2; omega
      have r4 : -9 ≤ ν 4 x ∧ ν 4 x < 7 := by
        rw [e4]
        split
        · omega
        · rename_i q
          have u := p.1.up2 (i := x) (by omega) (by omega) (by rw [p.2.2.2 x (by omega) (by omega), if_pos (by omega)]; exact q)
          have := u.2.2.1
          have := p.1.gd.2.2
          omega
      have nx := ih (x + 1) (by omega)
      have E : cA μ (x + 1) = cA μ x + (if ν 4 x = μ 4 x then 0 else 1) := by rw [e4]; rfl
      rw [E] at nx
      refine bX6_layAllAnew_65 (by omega) (eX6_inlets (by omega) ?_)
      rw [k1 kk 0 (by decide) (by decide), k1 kk 1 (by decide) (by decide)]
      simp (disch := omega) only [wr_of]
      rw [e5]
      try simp (disch := omega) only [wr_of]
      refine ⟨fun z => by omega, fun _ => ⟨by omega, by omega, fun z => ?_, fun z => ?_⟩⟩
      · rw [if_pos z, Int.add_zero] at nx; exact nx
      · rw [if_neg z] at nx; exact nx
  have key : ∀ (f x : Nat) (ν : zM), (x : Int) + f = μ 1 0 * μ 1 1 → (∀ y, y < x → ¬ Afl μ y) → Ka μ ν → Rc (AV μ x) ν → pX6_layAllAnew G n K 21 [some (Rv G 1), some (Iv x), none] [] ν := by
    intro f
    induction f with
    | zero =>
      intro x ν ex nf kk R
      refine bX6_layAllAnew_21 (by omega) (eX6_inlets (by omega) ?_)
      rw [k1 kk 0 (by decide) (by decide), k1 kk 1 (by decide) (by decide)]
      simp (disch := omega) only [wr_of]
      refine ⟨fun _ => ?_, fun z => by omega⟩
      have e20 := AV_up h (x := x) (by omega) (20 - x) (by omega)
      rw [show x + (20 - x) = 20 by omega] at e20
      rw [← e20] at R
      refine cnt (fun y hy q => ?_) ν kk R (μ 1 0 * μ 1 1).toNat 0 (by omega)
      by_cases lt : y < x
      · exact nf y lt q
      · apply q.1
        rcases h.row y (by omega) (by omega) with d | d
        · exact d.1
        · have := d.1; omega
    | succ f ih =>
      intro x ν ex nf kk R
      have pA := AV_s h x (by omega) nf
      have r2 := h.r2 (i := x) (by omega) (by omega)
      refine bX6_layAllAnew_21 (by omega) (eX6_inlets (by omega) ?_)
      rw [k1 kk 0 (by decide) (by decide), k1 kk 1 (by decide) (by decide)]
      simp (disch := omega) only [wr_of]
      rw [kk.1 x]
      simp (disch := omega) only [wr_of]
      refine ⟨fun z => by omega, fun _ => ⟨by omega, fun z => ih (x + 1) ν (by omega) (fun y hy q => ?_) kk ?_, fun z => eX6_mendAgain (by omega) ?_⟩⟩
      · by_cases e : y = x
        · subst e; exact q.1 z
        · exact nf y (by omega) q
      · show Rc (if _ then _ else _) ν
        rw [if_pos z]; exact R
      · have f := Pa_free h (by omega) pA z
        have w1 : AV μ x 1 1 = μ 1 1 := pA.2.2.1 1 (by decide)
        simp (disch := omega) only [wr_of]
        rw [kk.1 x]
        refine ⟨by omega, c6_few hn pA.1 R f.1 f.2.1 (fun zz ez ν1 hA hB hf => ?_)⟩
        have s2 := sw_lt f.2.1.1 f.2.1.2 (show 0 < AV μ x 1 1 by rw [w1]; omega)
        have zr := (ez ▸ few_P (s := (x : Int) / AV μ x 1 1) (A := ν 1 11) (B := ν 1 12) pA.1 s2 : Pz (AV μ x) (x / AV μ x 1 1) (μ 2 x / AV μ x 1 1) zz).r
        have rz := few_R (V := AV μ x) (s := (x : Int) / μ 1 1) (t := μ 2 x / μ 1 1) (A := ν 1 11) (B := ν 1 12) (A' := 0) (B' := 0)
        rw [w1] at ez
        rw [← ez] at rz
        have kk1 : Ka μ ν1 := ⟨fun j => by rw [hf _ _ (by decide) (by omega)]; exact kk.1 j, fun j j0 j1 => by rw [hf _ _ (by decide) (by omega)]; exact kk.2.1 j j0 j1, fun j j0 j1 q => by rw [hf _ _ (by decide) (by omega)]; exact kk.2.2.1 j j0 j1 q, fun y j q1 q2 q3 q4 => by rw [hf y j q3 q4]; exact kk.2.2.2 y j q1 q2 q3 q4⟩
        simp (disch := omega) only [wr_of]
        refine ⟨fun zn => ?_, fun zn => ?_⟩
        · have N := Pa_Nw h (by omega) pA z ez zn
          have R1 : Rc (AV μ x) ν1 := ⟨by rw [hf _ _ (by decide) (by decide), hf _ _ (by decide) (by decide), hf _ _ (by decide) (by decide)]; exact R.1, fun s y s0 s1 y0 y1 => by rw [hf _ _ (by omega) (by omega), hf _ _ (by omega) (by omega)]; exact R.2.1 s y s0 s1 y0 y1, fun i i0 i1 q => by rw [hf _ _ (by decide) (by omega), hf _ _ (by decide) (by omega)]; exact R.2.2 i i0 i1 q⟩
          refine c6_best hn N R1 hA hB (kk1.1 x) (fun ν2 R2 h4 hf2 => ⟨fun _ => ih (x + 1) ν2 (by omega) (fun y hy q => ?_) ⟨fun j => by rw [hf2 _ _ (by unfold Mv; omega) (by decide)]; exact kk1.1 j, fun j j0 j1 => by rw [hf2 _ _ (by unfold Mv; omega) (by decide)]; exact kk1.2.1 j j0 j1, fun j j0 j1 q => ?_, fun y j q1 q2 q3 q4 => by rw [hf2 y j q1 q3]; exact kk1.2.2.2 y j q1 q2 q3 q4⟩ ?_, fun w => absurd w (by decide)⟩)
          · by_cases e : y = x
            · subst e; exact zn (rz.1.trans q.2)
            · exact nf y (by omega) q
          · have jx : j ≠ x := fun e => z (by rw [← e]; exact q)
            have nin : ¬ In (AV μ x) zz.2.1 zz.2.2 (μ 2 x / AV μ x 1 1) 0 (clen (AV μ x) zz.2.1 zz.2.2 (μ 2 x / AV μ x 1 1)) j := fun w => by
              have u := (In_up N.1 (Nat.le_refl _) w).2
              have e := pA.2.2.2 j j0 j1
              have := u.2.1
              split at e <;> omega
            rw [h4 j jx nin]; exact kk1.2.2.1 j j0 j1 q
          · show Rc (if _ then _ else _) ν2
            rw [if_neg z, ← rz.2 zn, ← w1]
            exact R2
        · refine ⟨fun w => absurd trivial w, fun _ => c6_goBack hn h kk1 (fun ν2 kk2 h4 hl => h0 x (by omega) nf ⟨z, ?_⟩ ν2 kk2 h4 hl)⟩
          rw [← rz.1]; exact zn
  refine eX6_layAllAnew (by omega) ?_
  simp (disch := omega) only [wr_of]
  refine ⟨by decide, by decide, by decide, fun μ4 e4 => c6_freeAll (by omega) ?_⟩
  obtain ⟨l1, l2⟩ := frm_pts (κ := μ4)
  have kf : Ka μ (frm μ4 5) := by
    have c : ∀ x j, x ≠ 5 → μ4 x j = μ x j := fun x j q => by rw [e4]; unfold zcp; rw [if_neg (fun w => q w.1)]
    refine ⟨fun j => by rw [l2 _ _ (by omega), c _ _ (by decide)], fun j j0 j1 => ?_, fun j j0 j1 q => ?_, fun x j q1 q2 q3 q4 => by rw [l2 _ _ (by unfold Mv at q1; omega), c _ _ q2]⟩
    · rw [l2 _ _ (by omega), e4]; unfold zcp
      rw [if_pos ⟨rfl, by omega, by omega⟩]
      congr 1; omega
    · rw [l2 _ _ (by omega), c _ _ (by decide)]
      rcases h.row j j0 j1 with d | d
      · exact d.2.2
      · have := d.2.1; omega
  exact key (μ 1 0 * μ 1 1).toNat 0 _ (by omega) (fun y hy => by omega) kf (Rc_V0 h l1 (k1 kf))
end T61
