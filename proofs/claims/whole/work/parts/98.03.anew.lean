section T60
variable {G : zG} {n : Nat} {μ ν κ V W : zM} {a b t : Int}
/-- all calls taken off -/
def V0 (μ : zM) : zM := fun x j => if (x = 2 ∨ x = 3 ∨ x = 4) ∧ 0 ≤ j ∧ j < 20 then -9 else if x = 128 ∧ 0 ≤ j ∧ j < 20 then 0 else if ((7 ≤ x ∧ x < 12) ∨ (13 ≤ x ∧ x < 18)) ∧ 0 ≤ j ∧ j < 7 then -9 else if x = 1 ∧ j = 3 then 0 else μ x j
theorem V0_s (h : I1 μ) : I1 (V0 μ) ∧ (∀ j, V0 μ 127 j = μ 127 j) ∧ (∀ j, j ≠ 3 → V0 μ 1 j = μ 1 j) ∧ (∀ j, 0 ≤ j → j < 20 → V0 μ 2 j = -9) ∧ (∀ j, V0 μ 129 j = μ 129 j) := by
  have e127 : ∀ j, V0 μ 127 j = μ 127 j := fun j => by unfold V0; rw [if_neg (by omega), if_neg (by omega), if_neg (by omega), if_neg (by omega)]
  have e1 : ∀ j, j ≠ 3 → V0 μ 1 j = μ 1 j := fun j hj => by unfold V0; rw [if_neg (by omega), if_neg (by omega), if_neg (by omega), if_neg (by omega)]
  refine ⟨I1_new ?_ ?_ (fun i i0 i1 => ⟨?_, ?_, ?_⟩) (fun i i0 i1 => ?_) (fun s x s0 s1 x0 x1 => ⟨?_, ?_⟩), e127, e1, fun j j0 j1 => ?_, fun j => ?_⟩
  · have := h.gd
    unfold Gd at this ⊢
    rw [e127, e127, e127, e1 0 (by decide), e1 1 (by decide), e1 2 (by decide)]; exact this
  · unfold V0; rw [if_neg (by omega), if_neg (by omega), if_neg (by omega), if_pos ⟨rfl, rfl⟩]
  · unfold V0; rw [if_pos ⟨by omega, i0, i1⟩]
  · unfold V0; rw [if_pos ⟨by omega, i0, i1⟩]
  · unfold V0; rw [if_pos ⟨by omega, i0, i1⟩]
  · unfold V0; rw [if_neg (by omega), if_pos ⟨rfl, i0, i1⟩]
  · unfold V0; rw [if_neg (by omega), if_neg (by omega), if_pos (by omega)]
  · unfold V0; rw [if_neg (by omega), if_neg (by omega), if_pos (by omega)]
  · unfold V0; rw [if_pos ⟨by omega, j0, j1⟩]
  · unfold V0; rw [if_neg (by omega), if_neg (by omega), if_neg (by omega), if_neg (by omega)]
/-- the calls of the first inlets laid again -/
def Pa (μ : zM) (x : Nat) (W : zM) : Prop := I1 W ∧ (∀ j, W 127 j = μ 127 j) ∧ (∀ j, j ≠ 3 → W 1 j = μ 1 j) ∧ (∀ j, 0 ≤ j → j < 20 → W 2 j = if j < x then μ 2 j else -9)
def AV (μ : zM) : Nat → zM
  | 0 => V0 μ
  | x + 1 => if μ 2 x = -9 then AV μ x else Vst (AV μ x) (few (AV μ x) (x / μ 1 1) (μ 2 x / μ 1 1) 0 0).2.1 (few (AV μ x) (x / μ 1 1) (μ 2 x / μ 1 1) 0 0).2.2 (μ 2 x / μ 1 1) x (μ 2 x)
/-- the call of inlet x can't be laid -/
def Afl (μ : zM) (x : Nat) : Prop := μ 2 x ≠ -9 ∧ (few (AV μ x) (x / μ 1 1) (μ 2 x / μ 1 1) 0 0).1 = -9
theorem Pa_free (h : I1 μ) {x : Nat} (hx : x < 20) (p : Pa μ x W) (hc : μ 2 x ≠ -9) : (0 ≤ (x : Int) ∧ (x : Int) < W 1 0 * W 1 1) ∧ (0 ≤ μ 2 x ∧ μ 2 x < W 1 0 * W 1 1) ∧ W 2 x = -9 ∧ W 3 (μ 2 x) = -9 := by
  obtain ⟨I, p1, p2, p3⟩ := p
  have u := h.up2 (i := x) (by omega) (by omega) hc
  have gN := h.gd.nn
  rw [p2 0 (by decide), p2 1 (by decide)]
  refine ⟨⟨by omega, u.1⟩, ⟨u.2.1.1, u.2.1.2.1⟩, by rw [p3 x (by omega) (by omega), if_neg (by omega)], ?_⟩
  rcases I.col (μ 2 x) u.2.1.1 (by have := u.2.1; omega) with q | ⟨q1, q2, q3⟩
  · exact q
  · exfalso
    have e := p3 _ q1 q2
    rw [q3] at e
    split at e
    · rename_i lt
      have u2 := h.up2 q1 q2 (by rw [← e]; have := u.2.1; omega)
      have := V2_inj h u u2 e
      omega
    · have := u.2.1; omega
theorem Pa_Nw (h : I1 μ) {x : Nat} (hx : x < 20) (p : Pa μ x W) (hc : μ 2 x ≠ -9) {A B : Int} {z : Int × Int × Int} (ez : z = few W (x / μ 1 1) (μ 2 x / μ 1 1) A B) (hz : z.1 ≠ -9) : Nw W z.2.1 z.2.2 x (μ 2 x) := by
  have f := Pa_free h hx p hc
  have e1 : W 1 1 = μ 1 1 := p.2.2.1 1 (by decide)
  rw [← e1] at ez
  exact (few_N p.1 f.1 f.2.1 f.2.2.1 f.2.2.2 ez hz).1
theorem AV_s (h : I1 μ) : ∀ x : Nat, x ≤ 20 → (∀ y, y < x → ¬ Afl μ y) → Pa μ x (AV μ x)
  | 0, _, _ => by
    obtain ⟨a1, a2, a3, a4, _⟩ := V0_s h
    exact ⟨a1, a2, a3, fun j j0 j1 => by rw [if_neg (by omega)]; exact a4 j j0 j1⟩
  | x + 1, hx, hn => by
    have ih := AV_s h x (by omega) (fun y hy => hn y (by omega))
    show Pa μ (x + 1) (if μ 2 x = -9 then _ else _)
    by_cases c : μ 2 x = -9
    · rw [if_pos c]
      obtain ⟨I, p1, p2, p3⟩ := ih
      refine ⟨I, p1, p2, fun j j0 j1 => ?_⟩
      rw [p3 j j0 j1]
      by_cases e : j = x
      · rw [if_neg (by omega), if_pos (by omega), e, c]
      · by_cases d : j < x
        · rw [if_pos d, if_pos (by omega)]
        · rw [if_neg d, if_neg (by omega)]
    · rw [if_neg c]
      have nf : (few (AV μ x) (x / μ 1 1) (μ 2 x / μ 1 1) 0 0).1 ≠ -9 := fun q => hn x (by omega) ⟨c, q⟩
      have N := Pa_Nw h (by omega) ih c rfl nf
      have e1 : AV μ x 1 1 = μ 1 1 := ih.2.2.1 1 (by decide)
      obtain ⟨v1, v2, v3, v4, v5, v6, v7, _⟩ := Vst_s N
      rw [e1] at v1 v2 v3 v5
      obtain ⟨I, p1, p2, p3⟩ := ih
      refine ⟨v1, fun j => by rw [v2]; exact p1 j, fun j hj => by rw [v3 j hj]; exact p2 j hj, fun j j0 j1 => ?_⟩
      rw [v5]
      by_cases e : j = x
      · rw [if_pos e, if_pos (by omega), e]
      · rw [if_neg e, p3 j j0 j1]
        by_cases d : j < x
        · rw [if_pos d, if_pos (by omega)]
        · rw [if_neg d, if_neg (by omega)]
/-- all laid: what 2, 3, 128 and the count are -/
theorem Pa_all (h : I1 μ) (p : Pa μ 20 W) : (∀ j, 0 ≤ j → j < 20 → W 2 j = μ 2 j ∧ W 3 j = μ 3 j ∧ W 128 j = μ 128 j) ∧ W 1 3 = μ 1 3 := by
  obtain ⟨I, p1, p2, p3⟩ := p
  have e2 : ∀ j, 0 ≤ j → j < 20 → W 2 j = μ 2 j := fun j j0 j1 => by rw [p3 j j0 j1, if_pos (by omega)]
  have e8 : ∀ j, 0 ≤ j → j < 20 → W 128 j = μ 128 j := fun j j0 j1 => by
    have e := e2 j j0 j1
    rcases I.row j j0 j1 with d | d <;> rcases h.row j j0 j1 with d' | d'
    · rw [d.2.1, d'.2.1]
    · have := d.1; have := d'.2.1; omega
    · have := d'.1; have := d.2.1; omega
    · have := d.2.1; have := d'.2.1; omega
  refine ⟨fun j j0 j1 => ⟨e2 j j0 j1, ?_, e8 j j0 j1⟩, ?_⟩
  · rcases h.col j j0 j1 with q | ⟨q1, q2, q3⟩
    · rw [q]
      rcases I.col j j0 j1 with w | ⟨w1, w2, w3⟩
      · exact w
      · exfalso
        rw [e2 _ w1 w2] at w3
        have u := h.up2 w1 w2 (by omega)
        have := u.2.2.2.1
        rw [w3, q] at this; omega
    · have u := I.up2 q1 q2 (by rw [e2 _ q1 q2, q3]; omega)
      have := u.2.2.2.1
      rw [e2 _ q1 q2, q3] at this
      exact this
  · rw [I.held, h.held]
    exact cntC_ext 20 (fun j j0 j1 => e8 j j0 (by omega))
/-- the calls of the first inlets laid as they were -/
def BV (μ : zM) : Nat → zM
  | 0 => V0 μ
  | x + 1 => if μ 2 x = -9 then BV μ x else onV (BV μ x) x (μ 2 x) (μ 4 x)
theorem BV_s (h : I1 μ) : ∀ x : Nat, x ≤ 20 → Pa μ x (BV μ x) ∧ (∀ j : Int, 0 ≤ j → j < x → μ 2 j ≠ -9 → BV μ x 4 j = μ 4 j) ∧ (∀ y : Nat, x = y + 1 → μ 2 y ≠ -9 → Fr (BV μ y) y (μ 2 y) (μ 4 y))
  | 0, _ => by
    obtain ⟨a1, a2, a3, a4, _⟩ := V0_s h
    exact ⟨⟨a1, a2, a3, fun j j0 j1 => by rw [if_neg (by omega)]; exact a4 j j0 j1⟩, fun j j0 j1 => by omega, fun y e => by omega⟩
  | x + 1, hx => by
    obtain ⟨ih, i4, _⟩ := BV_s h x (by omega)
    by_cases c : μ 2 x = -9
    · have E : BV μ (x + 1) = BV μ x := by show (if _ then _ else _) = _; rw [if_pos c]
      rw [E]
      obtain ⟨I, p1, p2, p3⟩ := ih
      refine ⟨⟨I, p1, p2, fun j j0 j1 => ?_⟩, fun j j0 j1 hj => i4 j j0 (by
        have : j ≠ x := fun e => hj (by rw [e]; exact c)
        omega) hj, fun y e hy => absurd c (by rw [show x = y by omega]; exact hy)⟩
      rw [p3 j j0 j1]
      by_cases e : j = x
      · rw [if_neg (by omega), if_pos (by omega), e, c]
      · by_cases d : j < x
        · rw [if_pos d, if_pos (by omega)]
        · rw [if_neg d, if_neg (by omega)]
    · have E : BV μ (x + 1) = onV (BV μ x) x (μ 2 x) (μ 4 x) := by show (if _ then _ else _) = _; rw [if_neg c]
      have f := Pa_free h (by omega) ih c
      obtain ⟨I, p1, p2, p3⟩ := ih
      have u := h.up2 (i := x) (by omega) (by omega) c
      have g := h.gd
      have gN := g.nn
      have g1 := g.1
      have g2 := g.2.1
      have g3 := g.2.2
      have w1 : BV μ x 1 1 = μ 1 1 := p2 1 (by decide)
      have w2 : BV μ x 1 2 = μ 1 2 := p2 2 (by decide)
      have s1 := sw_lt (i := (x : Int)) (by omega) u.1 (show 0 < μ 1 1 by omega)
      have s2 := sw_lt u.2.1.1 u.2.1.2.1 (show 0 < μ 1 1 by omega)
      have u4 := u.2.2.1
      have old : ∀ c', 0 ≤ c' → c' < 20 → Up (BV μ x) c' → (c' < x ∧ Up μ c' ∧ BV μ x 2 c' = μ 2 c' ∧ BV μ x 4 c' = μ 4 c') := fun c' c0 c1 uc => by
        have e := p3 c' c0 c1
        have hu := uc.2.1
        split at e
        · rename_i lt
          have m2 : μ 2 c' ≠ -9 := by omega
          exact ⟨lt, h.up2 c0 c1 m2, e, i4 c' c0 lt m2⟩
        · omega
      have fr : Fr (BV μ x) x (μ 2 x) (μ 4 x) := by
        refine ⟨f.1, f.2.1, by rw [w2]; exact ⟨u4.1, u4.2.1⟩, f.2.2.1, f.2.2.2, ?_, ?_⟩
        · rw [w1]
          apply Classical.byContradiction
          intro hc
          obtain ⟨c', ⟨c0, c1⟩, uc, cs, c4⟩ := lk_left I s1.1 (by omega) u4.1 (by omega) hc
          obtain ⟨o1, o2, o3, o4⟩ := old c' c0 c1 uc
          rw [w1] at cs
          rw [o4] at c4
          have a1 := o2.2.2.2.2.1
          rw [cs, c4, u.2.2.2.2.1] at a1
          omega
        · rw [w1]
          apply Classical.byContradiction
          intro hc
          obtain ⟨c', ⟨c0, c1⟩, uc, cs, c4⟩ := lk_right I s2.1 (by omega) u4.1 (by omega) hc
          obtain ⟨o1, o2, o3, o4⟩ := old c' c0 c1 uc
          rw [w1, o3] at cs
          rw [o4] at c4
          have a1 := o2.2.2.2.2.2
          rw [cs, c4, u.2.2.2.2.2] at a1
          omega
      obtain ⟨p, _⟩ := on_on I fr
      have I' := p.I1 I fr
      obtain ⟨o1, o2, o3, o4, o5, o6, o7, o8, _, _⟩ := p
      have EE : ∀ y j, BV μ (x + 1) y j = zu (zu (onm (BV μ x) x (μ 2 x) (μ 4 x)) 128 x (μ 2 x + 1)) 129 x (μ 4 x) y j := fun y j => by rw [E]; rfl
      refine ⟨⟨by rw [E]; exact I', fun j => by rw [EE, o1]; exact p1 j, fun j hj => by rw [EE, o2 j hj]; exact p2 j hj, fun j j0 j1 => ?_⟩, fun j j0 j1 hj => ?_, fun y e hy => by rw [show y = x by omega]; exact fr⟩
      · rw [EE, o5]
        by_cases e : j = x
        · rw [if_pos e, if_pos (by omega), e]
        · rw [if_neg e, p3 j j0 j1]
          by_cases d : j < x
          · rw [if_pos d, if_pos (by omega)]
          · rw [if_neg d, if_neg (by omega)]
      · rw [EE, o7]
        by_cases e : j = x
        · rw [if_pos e, e]
        · rw [if_neg e]; exact i4 j j0 (by omega) hj
/-- the links of all calls laid as they were are the first ones -/
theorem BV_links (h : I1 μ) : ∀ s x, 0 ≤ s → s < 5 → 0 ≤ x → x < 7 → BV μ 20 (7 + s) x = μ (7 + s) x ∧ BV μ 20 (13 + s) x = μ (13 + s) x := by
  obtain ⟨⟨I, p1, p2, p3⟩, i4, _⟩ := BV_s h 20 (Nat.le_refl _)
  have w1 : BV μ 20 1 1 = μ 1 1 := p2 1 (by decide)
  have e2 : ∀ j, 0 ≤ j → j < 20 → BV μ 20 2 j = μ 2 j := fun j j0 j1 => by rw [p3 j j0 j1, if_pos (by omega)]
  intro s x s0 s1 x0 x1
  refine ⟨?_, ?_⟩
  · rcases h.left s x s0 s1 x0 x1 with q | ⟨q1, q2, q3, q4, q5⟩
    · rw [q]
      apply Classical.byContradiction
      intro hc
      obtain ⟨c', ⟨c0, c1⟩, uc, cs, c4⟩ := lk_left I s0 s1 x0 x1 hc
      have m2 : μ 2 c' ≠ -9 := by rw [← e2 c' c0 c1]; have := uc.2.1; omega
      have um := h.up2 c0 c1 m2
      have a1 := um.2.2.2.2.1
      rw [i4 c' c0 (by omega) m2] at c4
      rw [w1] at cs
      rw [cs, c4, q] at a1; omega
    · have ub := I.up2 q1 q2 (by rw [e2 _ q1 q2]; have := q3.2.1; omega)
      have a1 := ub.2.2.2.2.1
      rw [w1, q4, i4 _ q1 (by omega) (by have := q3.2.1; omega), q5] at a1
      exact a1
  · rcases h.right s x s0 s1 x0 x1 with q | ⟨q1, q2, q3, q4, q5⟩
    · rw [q]
      apply Classical.byContradiction
      intro hc
      obtain ⟨c', ⟨c0, c1⟩, uc, cs, c4⟩ := lk_right I s0 s1 x0 x1 hc
      have m2 : μ 2 c' ≠ -9 := by rw [← e2 c' c0 c1]; have := uc.2.1; omega
      have um := h.up2 c0 c1 m2
      have a1 := um.2.2.2.2.2
      rw [i4 c' c0 (by omega) m2] at c4
      rw [w1, e2 c' c0 c1] at cs
      rw [cs, c4, q] at a1; omega
    · have ub := I.up2 q1 q2 (by rw [e2 _ q1 q2]; have := q3.2.1; omega)
      have a1 := ub.2.2.2.2.2
      rw [w1, e2 _ q1 q2, q4, i4 _ q1 (by omega) (by have := q3.2.1; omega), q5] at a1
      exact a1
end T60
