section T57
variable {G : zG} {n : Nat} {μ ν κ V W : zM} {a b t : Int}
theorem PN_Fr (c : Cx V a b t) {m : Nat} (hm : m < clen V a b t) (p : PN V a b t m W) : Fr W (ch V a b t m) (V 2 (ch V a b t m)) (nd a b m) := by
  have f := PN_free c hm p
  obtain ⟨⟨I, _, p3, _, p5, p6, p7, _⟩, q1, q2⟩ := p
  obtain ⟨l1, l2, l3⟩ := clen_s c
  obtain ⟨⟨i0, i1⟩, u, d, t0⟩ := ch_up c m (l3 m hm)
  have w0 : W 1 0 = V 1 0 := p3 0 (by decide)
  have w1 : W 1 1 = V 1 1 := p3 1 (by decide)
  have w2 : W 1 2 = V 1 2 := p3 2 (by decide)
  have inm : In V a b t m (clen V a b t) (ch V a b t m) := ⟨m, Nat.le_refl m, hm, rfl⟩
  refine ⟨by rw [w0, w1]; exact ⟨i0, u.1⟩, by rw [w0, w1]; exact ⟨u.2.1.1, u.2.1.2.1⟩, ?_, (p5 _ inm).1, p7 _ ⟨_, inm, rfl⟩, by rw [w1]; exact f.1, by rw [w1]; exact f.2⟩
  rw [w2]
  have ca := c.2.2.1
  have cb := c.2.2.2.1
  unfold nd
  split <;> omega
theorem VN_s (c : Cx V a b t) : ∀ m : Nat, m ≤ clen V a b t → PN V a b t m (VN V a b t m)
  | 0, _ => by
    obtain ⟨p, p9, p10⟩ := VO_s c (clen V a b t) (Nat.le_refl _)
    exact ⟨p, fun j hj => by omega, fun i hi => ⟨p9 i hi, p10 i⟩⟩
  | m + 1, hm => by
    have ih := VN_s c m (by omega)
    have fr := PN_Fr c (by omega) ih
    obtain ⟨⟨I, p2, p3, p4, p5, p6, p7, p8⟩, q1, q2⟩ := ih
    obtain ⟨l1, l2, l3⟩ := clen_s c
    obtain ⟨⟨i0, i1⟩, u, d, t0⟩ := ch_up c m (l3 m (by omega))
    obtain ⟨o, _⟩ := on_on I fr
    have I' := o.I1 I fr
    obtain ⟨o1, o2, o3, o4, o5, o6, o7, o8, _, _⟩ := o
    have inm : In V a b t m (clen V a b t) (ch V a b t m) := ⟨m, Nat.le_refl m, by omega, rfl⟩
    have E : ∀ x j, VN V a b t (m + 1) x j = zu (zu (onm (VN V a b t m) (ch V a b t m) (V 2 (ch V a b t m)) (nd a b m)) 128 (ch V a b t m) (V 2 (ch V a b t m) + 1)) 129 (ch V a b t m) (nd a b m) x j := fun _ _ => rfl
    refine ⟨⟨I', fun j => ?_, fun j hj => ?_, ?_, fun i hi => ?_, fun i hi => ?_, fun j hj => ?_, fun j hj => ?_⟩, fun j hj => ?_, fun i hi => ?_⟩
    · rw [E, o1]; exact p2 j
    · rw [E, o2 j hj]; exact p3 j hj
    · rw [E, o3, p4]; omega
    · obtain ⟨h1, h2⟩ := (In_l c (by omega) (Nat.le_refl _)).1 hi
      rw [E, E, E, o5, o6, o7, if_neg h2, if_neg h2, if_neg h2]
      exact p5 i h1
    · rw [E, E, o5, o6]
      by_cases e : i = ch V a b t m
      · rw [if_pos e, if_pos e, e]
        exact ⟨rfl, u.2.1.2.2.symm⟩
      · rw [if_neg e, if_neg e]
        exact p6 i (fun q => hi ((In_l c (by omega) (Nat.le_refl _)).2 ⟨q, e⟩))
    · obtain ⟨i, h1, h2⟩ := hj
      obtain ⟨h3, h4⟩ := (In_l c (by omega) (Nat.le_refl _)).1 h1
      rw [E, o8]
      have : j ≠ V 2 (ch V a b t m) := fun q => h4 (V2_inj c.1 (In_up c (Nat.le_refl _) h1).2 u (by rw [h2, q]))
      rw [if_neg this]
      exact p7 j ⟨i, h3, h2⟩
    · rw [E, o8]
      by_cases e : j = V 2 (ch V a b t m)
      · rw [if_pos e, e]; exact u.2.2.2.1.symm
      · rw [if_neg e]
        refine p8 j (fun ⟨i, h1, h2⟩ => hj ⟨i, (In_l c (by omega) (Nat.le_refl _)).2 ⟨h1, fun q => e (by rw [← h2, q])⟩, h2⟩)
    · rw [E, E, o7, o4]
      by_cases e : j = m
      · subst e; rw [if_pos rfl, if_pos rfl]; exact ⟨rfl, rfl⟩
      · have ne : ch V a b t j ≠ ch V a b t m := ch_ne c j m (by omega) (l3 m (by omega))
        rw [if_neg ne, if_neg ne]; exact q1 j (by omega)
    · have e : i ≠ ch V a b t m := fun e => hi ⟨m, by omega, by omega, e.symm⟩
      rw [E, E, o7, o4, if_neg e, if_neg e]
      exact q2 i hi
/-- the new call's own links are free behind the chain -/
theorem VN_last (c : Cx V a b t) {i o : Int} (hi : 0 ≤ i ∧ i < V 1 0 * V 1 1) (ho : 0 ≤ o ∧ o < V 1 0 * V 1 1) (ht : o / V 1 1 = t) (f2 : V 2 i = -9) (f3 : V 3 o = -9) (fl : V (7 + i / V 1 1) a = -9) : Fr (VN V a b t (clen V a b t)) i o a := by
  have hv := VN_s c _ (Nat.le_refl (clen V a b t))
  generalize VN V a b t (clen V a b t) = W at hv ⊢
  obtain ⟨⟨I, p2, p3, p4, p5, p6, p7, p8⟩, q1, q2⟩ := hv
  obtain ⟨l1, l2, l3⟩ := clen_s c
  have g := c.1.gd
  have g1 := g.1
  have g2 := g.2.1
  have g3 := g.2.2
  have ca := c.2.2.1
  have cb := c.2.2.2.1
  have ct := c.2.1
  have no : ∀ x, ¬ In V a b t (clen V a b t) (clen V a b t) x := fun x ⟨j, y1, y2, _⟩ => by omega
  have w0 : W 1 0 = V 1 0 := p3 0 (by decide)
  have w1 : W 1 1 = V 1 1 := p3 1 (by decide)
  have w2 : W 1 2 = V 1 2 := p3 2 (by decide)
  have s1 := sw_lt hi.1 hi.2 (show 0 < V 1 1 by omega)
  have all2 : ∀ x, W 2 x = V 2 x := fun x => (p6 x (no x)).1
  have ca' : ∀ x, (0 ≤ x ∧ x < 20) → Up W x → (∃ j : Nat, j < clen V a b t ∧ ch V a b t j = x ∧ W 4 x = nd a b j) ∨ (¬ In V a b t 0 (clen V a b t) x ∧ Up V x ∧ W 4 x = V 4 x) := fun x hx ux => by
    by_cases e : In V a b t 0 (clen V a b t) x
    · obtain ⟨j, _, j2, j3⟩ := e
      left; exact ⟨j, j2, j3, by rw [← j3]; exact (q1 j j2).1⟩
    · right
      exact ⟨e, c.1.up2 hx.1 hx.2 (by rw [← all2]; have := ux.2.1; omega), (q2 x e).1⟩
  refine ⟨by rw [w0, w1]; exact hi, by rw [w0, w1]; exact ho, by rw [w2]; exact ca, by rw [all2]; exact f2, by rw [p8 o (fun ⟨x, h1, _⟩ => no x h1)]; exact f3, ?_, ?_⟩
  · rw [w1]
    apply Classical.byContradiction
    intro hx
    obtain ⟨x, xr, ux, xs, x4⟩ := lk_left I s1.1 (by omega) ca.1 (by omega) hx
    rw [w1] at xs
    rcases ca' x xr ux with ⟨j, j1, j2, j3⟩ | ⟨j1, j2, j3⟩
    · have ab := ch_ab c (l3 j j1)
      rw [x4] at j3
      unfold nd at j3
      by_cases e : j % 2 = 0
      · rw [if_pos e] at j3; exact ab j3
      · obtain ⟨k, rfl⟩ : ∃ k, j = k + 1 := ⟨j - 1, by omega⟩
        have pr := (ch_pr c (l3 _ j1)).1 (by omega)
        rw [j2, xs, fl] at pr
        exact l3 k (by omega) pr.symm
    · have a1 := j2.2.2.2.2.1
      rw [xs, ← j3, x4, fl] at a1; omega
  · rw [w1, ht]
    apply Classical.byContradiction
    intro hx
    obtain ⟨x, xr, ux, xs, x4⟩ := lk_right I ct.1 (by omega) ca.1 (by omega) hx
    rw [w1, all2] at xs
    rcases ca' x xr ux with ⟨j, j1, j2, j3⟩ | ⟨j1, j2, j3⟩
    · have ab := ch_ab c (l3 j j1)
      rw [x4] at j3
      unfold nd at j3
      by_cases e : j % 2 = 0
      · rw [if_pos e] at j3; exact ab j3
      · have uj := ch_up c j (l3 j j1)
        have a1 := uj.2.1.2.2.2.2.2
        have d := uj.2.2.1
        unfold od at d
        rw [if_neg e] at d
        rw [d, j2, xs, c.2.2.2.2] at a1
        omega
    · have a1 := j2.2.2.2.2.2
      rw [xs, ← j3, x4] at a1
      have c0 : ch V a b t 0 = x := a1
      have : 0 < clen V a b t := by
        apply Classical.byContradiction
        intro q
        have : clen V a b t = 0 := by omega
        rw [this, c0] at l2
        omega
      exact j1 ⟨0, by omega, this, c0⟩
/-- places that moving a chain changes -/
def Mv (x : Int) : Prop := x = 4 ∨ (7 ≤ x ∧ x < 12) ∨ (13 ≤ x ∧ x < 18)
theorem c6_free (hn : 154 ≤ n) (h : I1 W) (r : Rc W ν) {i : Int} (i0 : 0 ≤ i) (i1 : i < 20) (u : Up W i) {K : zM → Prop} (hK : ∀ ν' : zM, Rc (offV W i) ν' → (∀ j, j ≠ i → ν' 4 j = ν 4 j) → (∀ x j, ¬ Mv x → ν' x j = ν x j) → K ν') : mX6_freeLinks G n i ν K := by
  have g := h.gd
  have gN := g.nn
  have g1 := g.1
  have g2 := g.2.1
  have g3 := g.2.2
  have u2 := u.2.1
  have u4 := u.2.2.1
  have s1 := sw_lt i0 u.1 (show 0 < W 1 1 by omega)
  have s2 := sw_lt u2.1 u2.2.1 (show 0 < W 1 1 by omega)
  obtain ⟨r2, r4⟩ := r.2.2 i i0 i1 (by omega)
  obtain ⟨o, _⟩ := off_off h i0 u
  obtain ⟨o1, o2, o3, o4, o5, o6, o7, o8, o9, o10⟩ := o
  refine eX6_freeLinks (by omega) ?_
  rw [show (6 : Int) + 1 = 7 from rfl, show (12 : Int) + 1 = 13 from rfl]
  simp (disch := omega) only [wr_of]
  refine ⟨by omega, fun v2 e2 => c6_sw (e := W 1 1) hn r.1.2.1 g2.2.1 g2.2.2 i0 (by omega) ?_⟩
  rw [r4] at e2
  subst e2
  simp (disch := omega) only [wr_of]
  refine ⟨by omega, by omega, fun μ7 e7 => ⟨by omega, ?_⟩⟩
  rw [show μ7 2 i = W 2 i by rw [e7, zu_na (by omega)]; exact r2]
  refine c6_sw (e := W 1 1) hn (by rw [e7, zu_na (by omega)]; exact r.1.2.1) g2.2.1 g2.2.2 u2.1 (by omega) ?_
  simp (disch := omega) only [wr_of]
  refine ⟨by omega, by omega, fun μ13 e13 => ⟨by omega, fun μ15 e15 => ?_⟩⟩
  have U : ∀ x j, μ15 x j = if x = 4 ∧ j = i then -9 else if x = 13 + W 2 i / W 1 1 ∧ j = W 4 i then -9 else if x = 7 + i / W 1 1 ∧ j = W 4 i then -9 else ν x j := fun x j => by rw [e15, e13, e7]; rfl
  generalize i / W 1 1 = s at *
  generalize W 2 i / W 1 1 = s' at *
  refine hK μ15 ⟨?_, fun q y q0 q1 y0 y1 => ⟨?_, ?_⟩, fun j j0 j1 hj => ?_⟩ (fun j hj => ?_) (fun x j hx => ?_)
  · have e0 : offV W i 1 0 = W 1 0 := o2 0 (by decide)
    have e1 : offV W i 1 1 = W 1 1 := o2 1 (by decide)
    have e2 : offV W i 1 2 = W 1 2 := o2 2 (by decide)
    rw [e0, e1, e2, U, if_neg (by omega), if_neg (by omega), if_neg (by omega), U, if_neg (by omega), if_neg (by omega), if_neg (by omega), U, if_neg (by omega), if_neg (by omega), if_neg (by omega)]
    exact r.1
  · have e : offV W i (7 + q) y = _ := o9 q y q0 q1
    rw [e, U, if_neg (by omega), if_neg (by omega)]
    by_cases c : q = s ∧ y = W 4 i
    · rw [if_pos (by omega), if_pos c]
    · rw [if_neg (by omega), if_neg c]; exact (r.2.1 q y q0 q1 y0 y1).1
  · have e : offV W i (13 + q) y = _ := o10 q y q0 q1
    rw [e, U, if_neg (by omega)]
    by_cases c : q = s' ∧ y = W 4 i
    · rw [if_pos (by omega), if_pos c]
    · rw [if_neg (by omega), if_neg (by omega), if_neg c]; exact (r.2.1 q y q0 q1 y0 y1).2
  · have e2 : offV W i 2 j = _ := o5 j
    have e4 : offV W i 4 j = _ := o7 j
    rw [e2] at hj
    by_cases c : j = i
    · rw [if_pos c] at hj; exact absurd rfl hj
    · rw [if_neg c] at hj
      rw [e2, e4, if_neg c, if_neg c, U, if_neg (by omega), if_neg (by omega), if_neg (by omega), U, if_neg (by omega), if_neg (by omega), if_neg (by omega)]
      exact r.2.2 j j0 j1 hj
  · rw [U, if_neg (by omega), if_neg (by omega), if_neg (by omega)]
  · unfold Mv at hx
    rw [U, if_neg (by omega), if_neg (by omega), if_neg (by omega)]
theorem c6_go (hn : 154 ≤ n) (h : I1 W) (r : Rc W ν) {i o x : Int} (f : Fr W i o x) (hi : ν 2 i = o) {K : zM → Prop} (hK : ∀ ν' : zM, Rc (onV W i o x) ν' → (∀ j, j ≠ i → ν' 4 j = ν 4 j) → (∀ x j, ¬ Mv x → ν' x j = ν x j) → K ν') : mX6_goBy G n i x ν K := by
  have g := h.gd
  have gN := g.nn
  have g1 := g.1
  have g2 := g.2.1
  have g3 := g.2.2
  obtain ⟨p, _⟩ := on_on h f
  obtain ⟨f1, f2, f3, _⟩ := f
  have s1 := sw_lt f1.1 f1.2 (show 0 < W 1 1 by omega)
  have s2 := sw_lt f2.1 f2.2 (show 0 < W 1 1 by omega)
  obtain ⟨o1, o2, o3, o4, o5, o6, o7, o8, o9, o10⟩ := p
  refine eX6_goBy (by omega) ?_
  rw [show (6 : Int) + 1 = 7 from rfl, show (12 : Int) + 1 = 13 from rfl]
  simp (disch := omega) only [wr_of]
  refine ⟨by omega, fun μ2 e2 => c6_sw (e := W 1 1) hn (by rw [e2, zu_na (by decide)]; exact r.1.2.1) g2.2.1 g2.2.2 f1.1 (by omega) ?_⟩
  simp (disch := omega) only [wr_of]
  refine ⟨by omega, by omega, fun μ7 e7 => ⟨by omega, ?_⟩⟩
  rw [show μ7 2 i = o by rw [e7, zu_na (by omega), e2, zu_na (by decide)]; exact hi]
  refine c6_sw (e := W 1 1) hn (by rw [e7, zu_na (by omega), e2, zu_na (by decide)]; exact r.1.2.1) g2.2.1 g2.2.2 f2.1 (by omega) ?_
  simp (disch := omega) only [wr_of]
  refine ⟨by omega, by omega, fun μ13 e13 => ?_⟩
  have U : ∀ y j, μ13 y j = if y = 13 + o / W 1 1 ∧ j = x then i else if y = 7 + i / W 1 1 ∧ j = x then i else if y = 4 ∧ j = i then x else ν y j := fun y j => by rw [e13, e7, e2]; rfl
  generalize i / W 1 1 = s at *
  generalize o / W 1 1 = s' at *
  refine hK μ13 ⟨?_, fun q y q0 q1 y0 y1 => ⟨?_, ?_⟩, fun j j0 j1 hj => ?_⟩ (fun j hj => ?_) (fun y j hy => ?_)
  · have e0 : onV W i o x 1 0 = W 1 0 := o2 0 (by decide)
    have e1 : onV W i o x 1 1 = W 1 1 := o2 1 (by decide)
    have e2 : onV W i o x 1 2 = W 1 2 := o2 2 (by decide)
    rw [e0, e1, e2, U, if_neg (by omega), if_neg (by omega), if_neg (by omega), U, if_neg (by omega), if_neg (by omega), if_neg (by omega), U, if_neg (by omega), if_neg (by omega), if_neg (by omega)]
    exact r.1
  · have e : onV W i o x (7 + q) y = _ := o9 q y q0 q1
    rw [e, U, if_neg (by omega)]
    by_cases c : q = s ∧ y = x
    · rw [if_pos (by omega), if_pos c]
    · rw [if_neg (by omega), if_neg (by omega), if_neg c]; exact (r.2.1 q y q0 q1 y0 y1).1
  · have e : onV W i o x (13 + q) y = _ := o10 q y q0 q1
    rw [e, U]
    by_cases c : q = s' ∧ y = x
    · rw [if_pos (by omega), if_pos c]
    · rw [if_neg (by omega), if_neg (by omega), if_neg (by omega), if_neg c]; exact (r.2.1 q y q0 q1 y0 y1).2
  · have e2' : onV W i o x 2 j = _ := o5 j
    have e4' : onV W i o x 4 j = _ := o7 j
    rw [e2'] at hj
    have m2 : μ13 2 j = ν 2 j := by rw [U, if_neg (by omega), if_neg (by omega), if_neg (by omega)]
    by_cases c : j = i
    · have m4 : μ13 4 j = x := by rw [U, if_neg (by omega), if_neg (by omega), if_pos ⟨rfl, c⟩]
      rw [e2', e4', m2, m4, if_pos c, if_pos c, c]; exact ⟨hi, rfl⟩
    · have m4 : μ13 4 j = ν 4 j := by rw [U, if_neg (by omega), if_neg (by omega), if_neg (by omega)]
      rw [if_neg c] at hj
      rw [e2', e4', m2, m4, if_neg c, if_neg c]
      exact r.2.2 j j0 j1 hj
  · rw [U, if_neg (by omega), if_neg (by omega), if_neg (by omega)]
  · unfold Mv at hy
    rw [U, if_neg (by omega), if_neg (by omega), if_neg (by omega)]
end T57
