section T56
variable {G : zG} {n : Nat} {μ ν κ V W : zM} {a b t : Int}
def offV (V : zM) (i : Int) : zM := zu (offm V i) 128 i 0
def onV (V : zM) (i o a : Int) : zM := zu (zu (onm V i o a) 128 i (o + 1)) 129 i a
/-- a call is in a stretch of the chain -/
def In (V : zM) (a b t : Int) (lo hi : Nat) (x : Int) : Prop := ∃ j : Nat, lo ≤ j ∧ j < hi ∧ ch V a b t j = x
def nd (a b : Int) (k : Nat) : Int := if k % 2 = 0 then b else a
def VO (V : zM) (a b t : Int) : Nat → zM
  | 0 => V
  | k + 1 => offV (VO V a b t k) (ch V a b t k)
def VN (V : zM) (a b t : Int) : Nat → zM
  | 0 => VO V a b t (clen V a b t)
  | m + 1 => onV (VN V a b t m) (ch V a b t m) (V 2 (ch V a b t m)) (nd a b m)
/-- a virtual memory with a stretch of the chain taken off -/
def PO (V : zM) (a b t : Int) (lo hi : Nat) (W : zM) : Prop :=
  I1 W ∧ (∀ j, W 127 j = V 127 j) ∧ (∀ j, j ≠ 3 → W 1 j = V 1 j) ∧ W 1 3 = V 1 3 - ((hi : Int) - lo) ∧
  (∀ i, In V a b t lo hi i → W 2 i = -9 ∧ W 128 i = 0 ∧ W 4 i = -9) ∧ (∀ i, ¬ In V a b t lo hi i → W 2 i = V 2 i ∧ W 128 i = V 128 i) ∧
  (∀ j, (∃ i, In V a b t lo hi i ∧ V 2 i = j) → W 3 j = -9) ∧ (∀ j, ¬ (∃ i, In V a b t lo hi i ∧ V 2 i = j) → W 3 j = V 3 j)
theorem In_r {lo hi : Nat} {x : Int} : In V a b t lo (hi + 1) x ↔ In V a b t lo hi x ∨ (lo ≤ hi ∧ ch V a b t hi = x) := by
  constructor
  · rintro ⟨j, p, q, r⟩
    by_cases c : j = hi
    · subst c; exact Or.inr ⟨p, r⟩
    · exact Or.inl ⟨j, p, by omega, r⟩
  · rintro (⟨j, p, q, r⟩ | ⟨p, r⟩)
    · exact ⟨j, p, by omega, r⟩
    · exact ⟨hi, p, by omega, r⟩
theorem In_l (c : Cx V a b t) {lo hi : Nat} (hl : lo < hi) (hh : hi ≤ clen V a b t) {x : Int} : In V a b t (lo + 1) hi x ↔ In V a b t lo hi x ∧ x ≠ ch V a b t lo := by
  obtain ⟨_, _, l3⟩ := clen_s c
  constructor
  · rintro ⟨j, p, q, r⟩
    exact ⟨⟨j, by omega, q, r⟩, fun e => ch_ne c lo j (by omega) (l3 j (by omega)) (by rw [r, e])⟩
  · rintro ⟨⟨j, p, q, r⟩, e⟩
    have : j ≠ lo := fun w => e (by rw [← r, w])
    exact ⟨j, by omega, q, r⟩
theorem In_up (c : Cx V a b t) {lo hi : Nat} (hh : hi ≤ clen V a b t) {x : Int} (h : In V a b t lo hi x) : (0 ≤ x ∧ x < 20) ∧ Up V x := by
  obtain ⟨_, _, l3⟩ := clen_s c
  obtain ⟨j, p, q, r⟩ := h
  have := ch_up c j (l3 j (by omega))
  rw [r] at this
  exact ⟨this.1, this.2.1⟩
theorem V2_inj (h : I1 V) {i j : Int} (ui : Up V i) (uj : Up V j) (e : V 2 i = V 2 j) : i = j := by
  have a := ui.2.2.2.1
  have b := uj.2.2.2.1
  rw [e, b] at a; exact a.symm
theorem VO_s (c : Cx V a b t) : ∀ k : Nat, k ≤ clen V a b t → PO V a b t 0 k (VO V a b t k) ∧ (∀ i, ¬ In V a b t 0 k i → VO V a b t k 4 i = V 4 i) ∧ (∀ j, VO V a b t k 129 j = V 129 j)
  | 0, _ => by
    have no : ∀ i, ¬ In V a b t 0 0 i := fun i ⟨j, p, q, _⟩ => by omega
    refine ⟨⟨c.1, fun _ => rfl, fun _ _ => rfl, by show V 1 3 = _; omega, fun i h => absurd h (no i), fun i _ => ⟨rfl, rfl⟩, fun j ⟨i, h, _⟩ => absurd h (no i), fun j _ => rfl⟩, fun i _ => rfl, fun j => rfl⟩
  | k + 1, hk => by
    obtain ⟨⟨p1, p2, p3, p4, p5, p6, p7, p8⟩, p9, p10⟩ := VO_s c k (by omega)
    obtain ⟨_, _, l3⟩ := clen_s c
    have hc := l3 k (by omega)
    obtain ⟨⟨i0, i1⟩, u, d, _⟩ := ch_up c k hc
    have nin : ¬ In V a b t 0 k (ch V a b t k) := fun ⟨j, p, q, r⟩ => ch_ne c j k q hc r
    have w2 : VO V a b t k 2 (ch V a b t k) = V 2 (ch V a b t k) := (p6 _ nin).1
    have uW : Up (VO V a b t k) (ch V a b t k) := p1.up2 i0 i1 (by rw [w2]; have := u.2.1; omega)
    obtain ⟨o, _⟩ := off_off p1 i0 uW
    have I := o.I1 p1 i0 i1 uW
    obtain ⟨o1, o2, o3, o4, o5, o6, o7, o8, _, _⟩ := o
    rw [w2] at o8
    show PO V a b t 0 (k + 1) (offV (VO V a b t k) (ch V a b t k)) ∧ _
    refine ⟨⟨I, fun j => ?_, fun j hj => ?_, ?_, fun i hi => ?_, fun i hi => ?_, fun j hj => ?_, fun j hj => ?_⟩, fun i hi => ?_, fun j => ?_⟩
    · exact (o1 j).trans (p2 j)
    · exact (o2 j hj).trans (p3 j hj)
    · have : offV (VO V a b t k) (ch V a b t k) 1 3 = _ := o3
      rw [this, p4]; omega
    · have E2 : offV (VO V a b t k) (ch V a b t k) 2 i = _ := o5 i
      have E8 : offV (VO V a b t k) (ch V a b t k) 128 i = _ := o6 i
      have E4 : offV (VO V a b t k) (ch V a b t k) 4 i = _ := o7 i
      rw [E2, E8, E4]
      by_cases e : i = ch V a b t k
      · rw [if_pos e, if_pos e, if_pos e]; exact ⟨rfl, rfl, rfl⟩
      · rw [if_neg e, if_neg e, if_neg e]
        rcases In_r.1 hi with q | q
        · exact p5 i q
        · exact absurd q.2.symm e
    · have E2 : offV (VO V a b t k) (ch V a b t k) 2 i = _ := o5 i
      have E8 : offV (VO V a b t k) (ch V a b t k) 128 i = _ := o6 i
      have e : i ≠ ch V a b t k := fun e => hi (In_r.2 (Or.inr ⟨by omega, e.symm⟩))
      rw [E2, E8, if_neg e, if_neg e]
      exact p6 i (fun q => hi (In_r.2 (Or.inl q)))
    · have E3 : offV (VO V a b t k) (ch V a b t k) 3 j = _ := o8 j
      rw [E3]
      split
      · rfl
      · rename_i ne
        obtain ⟨i, q, r⟩ := hj
        rcases In_r.1 q with q | q
        · exact p7 j ⟨i, q, r⟩
        · exact absurd (by rw [q.2, r]) ne
    · have E3 : offV (VO V a b t k) (ch V a b t k) 3 j = _ := o8 j
      rw [E3, if_neg (fun e => hj ⟨_, In_r.2 (Or.inr ⟨by omega, rfl⟩), e.symm⟩)]
      exact p8 j (fun ⟨i, q, r⟩ => hj ⟨i, In_r.2 (Or.inl q), r⟩)
    · have E4 : offV (VO V a b t k) (ch V a b t k) 4 i = _ := o7 i
      have e : i ≠ ch V a b t k := fun e => hi (In_r.2 (Or.inr ⟨by omega, e.symm⟩))
      show offV (VO V a b t k) (ch V a b t k) 4 i = _
      rw [E4, if_neg e]
      exact p9 i (fun q => hi (In_r.2 (Or.inl q)))
    · have E9 : offV (VO V a b t k) (ch V a b t k) 129 j = _ := o4 j
      show offV (VO V a b t k) (ch V a b t k) 129 j = _
      rw [E9]; exact p10 j
/-- a link of the virtual memory, read off the first one -/
theorem lk_left (h : I1 W) {s x : Int} (s0 : 0 ≤ s) (s1 : s < 5) (x0 : 0 ≤ x) (x1 : x < 7) (hc : W (7 + s) x ≠ -9) : ∃ i, (0 ≤ i ∧ i < 20) ∧ Up W i ∧ i / W 1 1 = s ∧ W 4 i = x := by
  rcases h.left s x s0 s1 x0 x1 with q | ⟨q1, q2, q3, q4, q5⟩
  · exact absurd q hc
  · exact ⟨_, ⟨q1, q2⟩, q3, q4, q5⟩
theorem lk_right (h : I1 W) {s x : Int} (s0 : 0 ≤ s) (s1 : s < 5) (x0 : 0 ≤ x) (x1 : x < 7) (hc : W (13 + s) x ≠ -9) : ∃ i, (0 ≤ i ∧ i < 20) ∧ Up W i ∧ W 2 i / W 1 1 = s ∧ W 4 i = x := by
  rcases h.right s x s0 s1 x0 x1 with q | ⟨q1, q2, q3, q4, q5⟩
  · exact absurd q hc
  · exact ⟨_, ⟨q1, q2⟩, q3, q4, q5⟩
/-- what holds while the chain is laid again -/
def PN (V : zM) (a b t : Int) (m : Nat) (W : zM) : Prop := PO V a b t m (clen V a b t) W ∧ (∀ j : Nat, j < m → W 4 (ch V a b t j) = nd a b j ∧ W 129 (ch V a b t j) = nd a b j) ∧ (∀ i, ¬ In V a b t 0 (clen V a b t) i → W 4 i = V 4 i ∧ W 129 i = V 129 i)
theorem nd_od (j k : Nat) (hab : a ≠ b) : nd a b j = nd a b k ↔ od a b j = od a b k := by
  unfold nd od
  by_cases c : j % 2 = 0 <;> by_cases d : k % 2 = 0
  · rw [if_pos c, if_pos d, if_pos c, if_pos d]; simp
  · rw [if_pos c, if_neg d, if_pos c, if_neg d]; exact ⟨fun q => absurd q.symm hab, fun q => absurd q hab⟩
  · rw [if_neg c, if_pos d, if_neg c, if_pos d]; exact ⟨fun q => absurd q hab, fun q => absurd q.symm hab⟩
  · rw [if_neg c, if_neg d, if_neg c, if_neg d]; simp
/-- the links that a call of the chain is to take are free -/
theorem PN_free (c : Cx V a b t) {m : Nat} (hm : m < clen V a b t) (p : PN V a b t m W) : W (7 + ch V a b t m / V 1 1) (nd a b m) = -9 ∧ W (13 + V 2 (ch V a b t m) / V 1 1) (nd a b m) = -9 := by
  obtain ⟨⟨I, _, p3, _, p5, p6, _, _⟩, q1, q2⟩ := p
  obtain ⟨l1, l2, l3⟩ := clen_s c
  have hc := l3 m hm
  have ab := ch_ab c hc
  obtain ⟨⟨i0, i1⟩, u, d, t0⟩ := ch_up c m hc
  have g := c.1.gd
  have g1 := g.1
  have g2 := g.2.1
  have g3 := g.2.2
  have ca := c.2.2.1
  have cb := c.2.2.2.1
  have s1 := sw_lt i0 u.1 (show 0 < V 1 1 by omega)
  have s2 := sw_lt u.2.1.1 u.2.1.2.1 (show 0 < V 1 1 by omega)
  have ndr : 0 ≤ nd a b m ∧ nd a b m < 7 := by unfold nd; split <;> omega
  have w11 : W 1 1 = V 1 1 := p3 1 (by decide)
  -- a call there is laid again, or never was in the chain
  have cases : ∀ x, (0 ≤ x ∧ x < 20) → Up W x → (∃ j : Nat, j < m ∧ ch V a b t j = x ∧ W 4 x = nd a b j) ∨ (¬ In V a b t 0 (clen V a b t) x ∧ Up V x ∧ W 4 x = V 4 x) := fun x hx ux => by
    by_cases e : In V a b t 0 (clen V a b t) x
    · obtain ⟨j, _, j2, j3⟩ := e
      by_cases f : j < m
      · left; exact ⟨j, f, j3, by rw [← j3]; exact (q1 j f).1⟩
      · exfalso
        have := (p5 x ⟨j, by omega, j2, j3⟩).1
        have := ux.2.1
        omega
    · right
      have w2 := (p6 x (fun ⟨j, y1, y2, y3⟩ => e ⟨j, by omega, y2, y3⟩)).1
      refine ⟨e, c.1.up2 hx.1 hx.2 ?_, (q2 x e).1⟩
      rw [← w2]; have := ux.2.1; omega
  have u2 : ∀ x, Up W x → W 2 x = V 2 x := fun x ux => (p6 x (fun q => by have := (p5 x q).1; have := ux.2.1; omega)).1
  refine ⟨?_, ?_⟩
  · apply Classical.byContradiction
    intro hx
    obtain ⟨x, xr, ux, xs, x4⟩ := lk_left I s1.1 (by omega) ndr.1 ndr.2 hx
    rw [w11] at xs
    rcases cases x xr ux with ⟨j, j1, j2, j3⟩ | ⟨j1, j2, j3⟩
    · rw [x4] at j3
      have e := (nd_od m j ab).1 j3
      have uj := ch_up c j (l3 j (by omega))
      have a1 := uj.2.1.2.2.2.2.1
      rw [uj.2.2.1, ← e, ← d, j2, xs] at a1
      have a2 := u.2.2.2.2.1
      rw [a1] at a2
      exact ch_ne c j m j1 hc (by rw [j2]; exact a2)
    · have x4' : V 4 x = nd a b m := by rw [← j3]; exact x4
      have a1 := j2.2.2.2.2.1
      rw [xs, x4'] at a1
      unfold nd at a1
      by_cases e : m % 2 = 0
      · rw [if_pos e, ← ch_e hc e] at a1
        have n9 : ch V a b t (m + 1) ≠ -9 := by rw [a1]; omega
        have : m + 1 < clen V a b t := by
          apply Classical.byContradiction
          intro q
          have : m + 1 = clen V a b t := by omega
          rw [this] at n9; exact n9 l2
        exact j1 ⟨m + 1, by omega, this, a1⟩
      · rw [if_neg e] at a1
        obtain ⟨k, rfl⟩ : ∃ k, m = k + 1 := ⟨m - 1, by omega⟩
        have pr := (ch_pr c hc).1 (by omega)
        rw [a1] at pr
        exact j1 ⟨k, by omega, by omega, pr.symm⟩
  · apply Classical.byContradiction
    intro hx
    obtain ⟨x, xr, ux, xs, x4⟩ := lk_right I s2.1 (by omega) ndr.1 ndr.2 hx
    rw [w11, u2 x ux] at xs
    rcases cases x xr ux with ⟨j, j1, j2, j3⟩ | ⟨j1, j2, j3⟩
    · rw [x4] at j3
      have e := (nd_od m j ab).1 j3
      have uj := ch_up c j (l3 j (by omega))
      have a1 := uj.2.1.2.2.2.2.2
      rw [uj.2.2.1, ← e, ← d, j2, xs] at a1
      have a2 := u.2.2.2.2.2
      rw [a1] at a2
      exact ch_ne c j m j1 hc (by rw [j2]; exact a2)
    · have x4' : V 4 x = nd a b m := by rw [← j3]; exact x4
      have a1 := j2.2.2.2.2.2
      rw [xs, x4'] at a1
      unfold nd at a1
      by_cases e : m % 2 = 0
      · rw [if_pos e] at a1
        by_cases m0 : m = 0
        · rw [t0 m0, c.2.2.2.2] at a1; omega
        · obtain ⟨k, rfl⟩ : ∃ k, m = k + 1 := ⟨m - 1, by omega⟩
          have pr := (ch_pr c hc).2 (by omega)
          rw [a1] at pr
          exact j1 ⟨k, by omega, by omega, pr.symm⟩
      · rw [if_neg e, ← ch_o hc (by omega)] at a1
        have n9 : ch V a b t (m + 1) ≠ -9 := by rw [a1]; omega
        have : m + 1 < clen V a b t := by
          apply Classical.byContradiction
          intro q
          have : m + 1 = clen V a b t := by omega
          rw [this] at n9; exact n9 l2
        exact j1 ⟨m + 1, by omega, this, a1⟩
end T56
