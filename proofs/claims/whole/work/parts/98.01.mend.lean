section T58
variable {G : zG} {n : Nat} {μ ν κ V W : zM} {a b t : Int}
theorem c6_moveChain (hn : 154 ≤ n) (c : Cx V a b t) (r : Rc V κ) {K : zM → Prop} (hK : ∀ ν : zM, Rc (VN V a b t (clen V a b t)) ν → (∀ j, ¬ In V a b t 0 (clen V a b t) j → ν 4 j = κ 4 j) → (∀ x j, ¬ Mv x → x ≠ 18 → ν x j = κ x j) → K ν) : mX6_moveChain G n t a b κ K := by
  obtain ⟨l1, l2, l3⟩ := clen_s c
  have go : ∀ (f m : Nat) (ν : zM), m + f = clen V a b t → (∀ j : Nat, j < clen V a b t → ν 18 j = ch V a b t j) → Rc (VN V a b t m) ν → (∀ j, ¬ In V a b t 0 (clen V a b t) j → ν 4 j = κ 4 j) → (∀ x j, ¬ Mv x → x ≠ 18 → ν x j = κ x j) → pX6_moveChain G n K 39 [some (Rv G 1), none, some (Iv a), some (Iv b), some (Iv (clen V a b t)), some (Iv m)] [] ν := by
    intro f
    induction f with
    | zero =>
      intro m ν em h18 hr h4 hf
      have : m = clen V a b t := by omega
      subst this
      refine bX6_moveChain_39 (by omega) ?_
      simp (disch := omega) only [wr_of]
      exact ⟨fun _ => hK ν hr h4 hf, fun z => by omega⟩
    | succ f ih =>
      intro m ν em h18 hr h4 hf
      have pn := VN_s c m (by omega)
      have fr := PN_Fr c (by omega) pn
      obtain ⟨⟨i0, i1⟩, u, d, t0⟩ := ch_up c m (l3 m (by omega))
      have v2 : ν 2 (ch V a b t m) = V 2 (ch V a b t m) := by
        rw [hf _ _ (by unfold Mv; omega) (by decide)]
        exact (r.2.2 _ i0 i1 (by have := u.2.1; omega)).1
      have nx : ∀ ν' : zM, Rc (VN V a b t (m + 1)) ν' → (∀ j, j ≠ ch V a b t m → ν' 4 j = ν 4 j) → (∀ x j, ¬ Mv x → ν' x j = ν x j) → pX6_moveChain G n K 39 [some (Rv G 1), none, some (Iv a), some (Iv b), some (Iv (clen V a b t)), some (Iv ((m : Int) + 1))] [] ν' := fun ν' R' h4' hf' => by
        refine ih (m + 1) ν' (by omega) (fun j hj => by rw [hf' _ _ (by unfold Mv; omega)]; exact h18 j hj) R' (fun j hj => ?_) (fun x j q1 q2 => by rw [hf' x j q1]; exact hf x j q1 q2)
        rw [h4' j (fun e => hj ⟨m, by omega, by omega, e.symm⟩)]
        exact h4 j hj
      refine bX6_moveChain_39 (by omega) ?_
      rw [zrem_of (by omega) (by omega) (by omega) (by omega)]
      simp (disch := omega) only [wr_of]
      rw [h18 m (by omega)]
      refine ⟨fun z => by omega, fun _ => ⟨by omega, fun z => c6_go (W := VN V a b t m) (o := V 2 (ch V a b t m)) hn pn.1.1 hr ?_ v2 (fun ν' R' h4' hf' => nx ν' ?_ h4' hf'), fun z => c6_go (W := VN V a b t m) (o := V 2 (ch V a b t m)) hn pn.1.1 hr ?_ v2 (fun ν' R' h4' hf' => nx ν' ?_ h4' hf')⟩⟩
      · have e : nd a b m = a := by unfold nd; rw [if_neg (by omega)]
        rw [e] at fr; exact fr
      · have e : nd a b m = a := by unfold nd; rw [if_neg (by omega)]
        show Rc (onV _ _ _ (nd a b m)) ν'
        rw [e]; exact R'
      · have e : nd a b m = b := by unfold nd; rw [if_pos (by omega)]
        rw [e] at fr; exact fr
      · have e : nd a b m = b := by unfold nd; rw [if_pos (by omega)]
        show Rc (onV _ _ _ (nd a b m)) ν'
        rw [e]; exact R'
  have free : ∀ (f k : Nat) (ν : zM), k + f = clen V a b t → (∀ j : Nat, j < clen V a b t → ν 18 j = ch V a b t j) → Rc (VO V a b t k) ν → (∀ j, ¬ In V a b t 0 (clen V a b t) j → ν 4 j = κ 4 j) → (∀ x j, ¬ Mv x → x ≠ 18 → ν x j = κ x j) → pX6_moveChain G n K 12 [some (Rv G 1), none, some (Iv a), some (Iv b), some (Iv (clen V a b t)), some (Iv k)] [] ν := by
    intro f
    induction f with
    | zero =>
      intro k ν ek h18 hr h4 hf
      have : k = clen V a b t := by omega
      subst this
      refine bX6_moveChain_12 (by omega) ?_
      simp (disch := omega) only [wr_of]
      exact ⟨fun _ => go (clen V a b t) 0 ν (by omega) h18 hr h4 hf, fun z => by omega⟩
    | succ f ih =>
      intro k ν ek h18 hr h4 hf
      obtain ⟨po, p9, _⟩ := VO_s c k (by omega)
      obtain ⟨⟨i0, i1⟩, u, d, t0⟩ := ch_up c k (l3 k (by omega))
      have nin : ¬ In V a b t 0 k (ch V a b t k) := fun ⟨j, p, q, w⟩ => ch_ne c j k q (l3 k (by omega)) w
      have uW : Up (VO V a b t k) (ch V a b t k) := po.1.up2 i0 i1 (by rw [(po.2.2.2.2.2.1 _ nin).1]; have := u.2.1; omega)
      refine bX6_moveChain_12 (by omega) ?_
      simp (disch := omega) only [wr_of]
      rw [h18 k (by omega)]
      refine ⟨fun z => by omega, fun _ => ⟨by omega, c6_free hn po.1 hr i0 i1 uW (fun ν' R' h4' hf' => ih (k + 1) ν' (by omega) (fun j hj => by rw [hf' _ _ (by unfold Mv; omega)]; exact h18 j hj) R' (fun j hj => ?_) (fun x j q1 q2 => by rw [hf' x j q1]; exact hf x j q1 q2))⟩⟩
      rw [h4' j (fun e => hj ⟨k, by omega, by omega, e.symm⟩)]
      exact h4 j hj
  refine eX6_moveChain (by omega) (c6_follow hn c r (fun ν h18 f18 => free (clen V a b t) 0 ν (by omega) h18 ?_ (fun j _ => f18 _ _ (by decide)) (fun x j _ q => f18 x j q)))
  exact ⟨by rw [f18 _ _ (by decide), f18 _ _ (by decide), f18 _ _ (by decide)]; exact r.1, fun s a s0 s1 a0 a1 => by rw [f18 _ _ (by omega), f18 _ _ (by omega)]; exact r.2.1 s a s0 s1 a0 a1, fun i i0 i1 q => by rw [f18 _ _ (by decide), f18 _ _ (by decide)]; exact r.2.2 i i0 i1 q⟩
/-- the virtual memory with the chain moved and the new call laid -/
def Vst (V : zM) (a b t i o : Int) : zM := onV (VN V a b t (clen V a b t)) i o a
/-- a new call that may be laid by a chain -/
def Nw (V : zM) (a b i o : Int) : Prop := Cx V a b (o / V 1 1) ∧ (0 ≤ i ∧ i < V 1 0 * V 1 1) ∧ (0 ≤ o ∧ o < V 1 0 * V 1 1) ∧ V 2 i = -9 ∧ V 3 o = -9 ∧ V (7 + i / V 1 1) a = -9
theorem Nw.fr {i o : Int} (h : Nw V a b i o) : Fr (VN V a b (o / V 1 1) (clen V a b (o / V 1 1))) i o a := VN_last h.1 h.2.1 h.2.2.1 rfl h.2.2.2.1 h.2.2.2.2.1 h.2.2.2.2.2
theorem Vst_s {i o : Int} (h : Nw V a b i o) : I1 (Vst V a b (o / V 1 1) i o) ∧ (∀ j, Vst V a b (o / V 1 1) i o 127 j = V 127 j) ∧ (∀ j, j ≠ 3 → Vst V a b (o / V 1 1) i o 1 j = V 1 j) ∧ Vst V a b (o / V 1 1) i o 1 3 = V 1 3 + 1 ∧
    (∀ j, Vst V a b (o / V 1 1) i o 2 j = if j = i then o else V 2 j) ∧ (∀ j, Vst V a b (o / V 1 1) i o 3 j = if j = o then i else V 3 j) ∧ (∀ j, Vst V a b (o / V 1 1) i o 128 j = if j = i then o + 1 else V 128 j) ∧
    (Vst V a b (o / V 1 1) i o 129 i = a ∧ (∀ k : Nat, k < clen V a b (o / V 1 1) → Vst V a b (o / V 1 1) i o 129 (ch V a b (o / V 1 1) k) = nd a b k) ∧ (∀ j, j ≠ i → ¬ In V a b (o / V 1 1) 0 (clen V a b (o / V 1 1)) j → Vst V a b (o / V 1 1) i o 129 j = V 129 j)) := by
  have c := h.1
  have pn := VN_s c _ (Nat.le_refl (clen V a b (o / V 1 1)))
  have fr := h.fr
  obtain ⟨p, _⟩ := on_on pn.1.1 fr
  have I := p.I1 pn.1.1 fr
  obtain ⟨o1, o2, o3, o4, o5, o6, o7, o8, _, _⟩ := p
  obtain ⟨⟨_, p2, p3, p4, p5, p6, p7, p8⟩, q1, q2⟩ := pn
  have no : ∀ x, ¬ In V a b (o / V 1 1) (clen V a b (o / V 1 1)) (clen V a b (o / V 1 1)) x := fun x ⟨j, y1, y2, _⟩ => by omega
  have ni : ¬ In V a b (o / V 1 1) 0 (clen V a b (o / V 1 1)) i := fun q => by
    have u := (In_up c (Nat.le_refl _) q).2
    have := u.2.1
    have := h.2.2.2.1
    omega
  have E : ∀ x j, Vst V a b (o / V 1 1) i o x j = zu (zu (onm (VN V a b (o / V 1 1) (clen V a b (o / V 1 1))) i o a) 128 i (o + 1)) 129 i a x j := fun _ _ => rfl
  refine ⟨I, fun j => ?_, fun j hj => ?_, ?_, fun j => ?_, fun j => ?_, fun j => ?_, ?_, fun k hk => ?_, fun j hj hn => ?_⟩
  · rw [E, o1]; exact p2 j
  · rw [E, o2 j hj]; exact p3 j hj
  · rw [E, o3, p4]; omega
  · rw [E, o5, (p6 j (no j)).1]
  · rw [E, o8, p8 j (fun ⟨x, y, _⟩ => no x y)]
  · rw [E, o6, (p6 j (no j)).2]
  · rw [E, o4, if_pos rfl]
  · rw [E, o4, if_neg (fun e => ni ⟨k, by omega, hk, e⟩)]; exact (q1 k hk).2
  · rw [E, o4, if_neg hj]; exact (q2 j hn).2
theorem c6_best (hn : 154 ≤ n) {i o : Int} (h : Nw V a b i o) (r : Rc V κ) (hA : κ 1 11 = a) (hB : κ 1 12 = b) (hi : κ 2 i = o) {K : zM → Prop} (hK : ∀ ν : zM, Rc (Vst V a b (o / V 1 1) i o) ν → (∀ j, j ≠ i → ¬ In V a b (o / V 1 1) 0 (clen V a b (o / V 1 1)) j → ν 4 j = κ 4 j) → (∀ x j, ¬ Mv x → x ≠ 18 → ν x j = κ x j) → K ν) : mX6_goByBest G n i κ K := by
  have c := h.1
  have g := c.1.gd
  have gN := g.nn
  have g2 := g.2.1
  have hir := h.2.1
  have hor := h.2.2.1
  refine eX6_goByBest (by omega) ?_
  simp (disch := omega) only [wr_of]
  rw [hi]
  refine ⟨by omega, c6_sw (e := V 1 1) hn r.1.2.1 g2.2.1 g2.2.2 hor.1 (by omega) ?_⟩
  rw [hA, hB]
  refine c6_moveChain hn c r (fun ν5 R5 h4 hf => ?_)
  rw [hf 1 11 (by unfold Mv; omega) (by decide), hA]
  have pn := VN_s c _ (Nat.le_refl (clen V a b (o / V 1 1)))
  refine c6_go (W := VN V a b (o / V 1 1) (clen V a b (o / V 1 1))) hn pn.1.1 R5 h.fr (by rw [hf _ _ (by unfold Mv; omega) (by decide)]; exact hi) (fun ν7 R7 h4' hf' => hK ν7 R7 (fun j q1 q2 => by rw [h4' j q1]; exact h4 j q2) (fun x j q1 q2 => by rw [hf' x j q1]; exact hf x j q1 q2))
theorem few_N (h : I1 V) {i o A B : Int} (hi : 0 ≤ i ∧ i < V 1 0 * V 1 1) (ho : 0 ≤ o ∧ o < V 1 0 * V 1 1) (f2 : V 2 i = -9) (f3 : V 3 o = -9) {z : Int × Int × Int} (ez : z = few V (i / V 1 1) (o / V 1 1) A B) (hz : z.1 ≠ -9) : Nw V z.2.1 z.2.2 i o ∧ z.1 = clen V z.2.1 z.2.2 (o / V 1 1) := by
  have g2 := h.gd.2.1
  have s2 := sw_lt ho.1 ho.2 (show 0 < V 1 1 by omega)
  rcases ez ▸ few_P (s := i / V 1 1) (A := A) (B := B) h s2 with q | ⟨q1, q2, q3⟩
  · exact absurd q hz
  · exact ⟨⟨q1, hi, ho, f2, f3, q2⟩, q3⟩
theorem c8_mendOne (hn : 154 ≤ n) (h : I1 V) (m : Sm3 V κ) {i o : Int} (hi : 0 ≤ i ∧ i < V 1 0 * V 1 1) (ho : 0 ≤ o ∧ o < V 1 0 * V 1 1) (f2 : V 2 i = -9) (f3 : V 3 o = -9) {K : Int → zM → Prop}
    (h0 : ∀ z, z = few V (i / V 1 1) (o / V 1 1) (κ 127 8) (κ 127 9) → z.1 = -9 → ∀ ν : zM, (∀ a j, a ≠ 130 → ¬ (a = 127 ∧ (j = 8 ∨ j = 9)) → ν a j = κ a j) → K (-9) ν)
    (h1 : ∀ z, z = few V (i / V 1 1) (o / V 1 1) (κ 127 8) (κ 127 9) → z.1 ≠ -9 → ∀ ν : zM, Sm3 (Vst V z.2.1 z.2.2 (o / V 1 1) i o) ν → (∀ a j, a ≠ 128 → a ≠ 129 → a ≠ 130 → ¬ (a = 127 ∧ (j = 8 ∨ j = 9)) → ν a j = κ a j) → K z.1 ν) : mX8_mendOne G n i o κ K := by
  have g := h.gd
  have gN := g.nn
  have g1 := g.1
  have g2 := g.2.1
  have g3 := g.2.2
  refine eX8_mendOne hn (c8_few hn h m hi ho (fun z ez ν1 e8 e9 hf => ?_))
  have zr := (ez ▸ few_P (s := i / V 1 1) (A := κ 127 8) (B := κ 127 9) h (sw_lt ho.1 ho.2 (show 0 < V 1 1 by omega)) : Pz V (i / V 1 1) (o / V 1 1) z).r
  simp (disch := omega) only [wr_of]
  refine ⟨fun q => ?_, fun q => h0 z ez q ν1 hf⟩
  obtain ⟨N, zl⟩ := few_N h hi ho f2 f3 ez q
  have c := N.1
  obtain ⟨l1, l2, l3⟩ := clen_s c
  have m1 : Sm3 V ν1 := ⟨by rw [hf _ _ (by decide) (by decide), hf _ _ (by decide) (by decide), hf _ _ (by decide) (by decide)]; exact m.1, fun j => by rw [hf _ _ (by decide) (by omega)]; exact m.2.1 j, fun j => by rw [hf _ _ (by decide) (by omega)]; exact m.2.2 j⟩
  have w3 : ν1 127 3 = V 1 1 := by rw [m1.1.2.1]; exact g2.1.symm
  rw [w3, zdiv_of ho.1 (by omega) (by omega) (by omega), e8, e9]
  refine ⟨by rw [wr_of (by omega) (by omega)]; omega, c8_chain hn c m1 (fun ν2 h130 f2' => ?_)⟩
  obtain ⟨v1, v2, v3, v4, v5, v6, v7, v8, v9, v10⟩ := Vst_s N
  have ca := c.2.2.1
  have cb := c.2.2.2.1
  have key : ∀ (f k : Nat) (ν : zM), k + f = clen V z.2.1 z.2.2 (o / V 1 1) → (∀ j : Nat, j < k → ν 129 (ch V z.2.1 z.2.2 (o / V 1 1) j) = nd z.2.1 z.2.2 j) → (∀ j, ¬ In V z.2.1 z.2.2 (o / V 1 1) 0 (clen V z.2.1 z.2.2 (o / V 1 1)) j → ν 129 j = V 129 j) → (∀ a j, a ≠ 129 → ν a j = ν2 a j) → pX8_mendOne G n K 38 [some (Rv G 127), some (Iv i), some (Iv o), some (Iv (clen V z.2.1 z.2.2 (o / V 1 1))), some (Iv k)] [] ν := by
    intro f
    induction f with
    | zero =>
      intro k ν ek hc ho' hff
      have : k = clen V z.2.1 z.2.2 (o / V 1 1) := by omega
      subst this
      refine bX8_mendOne_38 hn ?_
      simp (disch := omega) only [wr_of]
      refine ⟨fun _ => eX8_setUp hn ?_, fun w => by omega⟩
      simp (disch := omega) only [wr_of]
      refine ⟨by omega, fun μ2 e2 => ⟨by omega, fun μ4 e4 => ?_⟩⟩
      rw [hff 127 8 (by decide), f2' 127 8 (by decide), e8] at e4
      have U : ∀ x j, μ4 x j = if x = 129 ∧ j = i then z.2.1 else if x = 128 ∧ j = i then o + 1 else ν x j := fun x j => by rw [e4, e2]; rfl
      have fr : ∀ a j, a ≠ 128 → a ≠ 129 → a ≠ 130 → ¬ (a = 127 ∧ (j = 8 ∨ j = 9)) → μ4 a j = κ a j := fun a j q1 q2 q3 q4 => by
        rw [U, if_neg (fun w => q2 w.1), if_neg (fun w => q1 w.1), hff a j q2, f2' a j q3, hf a j q3 q4]
      rw [← zl]
      refine h1 z ez q μ4 ⟨?_, fun j => ?_, fun j => ?_⟩ fr
      · rw [fr _ _ (by decide) (by decide) (by decide) (by decide), fr _ _ (by decide) (by decide) (by decide) (by decide), fr _ _ (by decide) (by decide) (by decide) (by decide), v2, v2, v2]
        exact m.1
      · rw [U, if_neg (by omega), v7]
        by_cases e : j = i
        · rw [if_pos ⟨rfl, e⟩, if_pos e]
        · rw [if_neg (fun w => e w.2), if_neg e, hff _ _ (by decide), f2' _ _ (by decide)]; exact m1.2.1 j
      · rw [U]
        by_cases e : j = i
        · rw [if_pos ⟨rfl, e⟩, e, v8]
        · rw [if_neg (fun w => e w.2), if_neg (by omega)]
          by_cases d : In V z.2.1 z.2.2 (o / V 1 1) 0 (clen V z.2.1 z.2.2 (o / V 1 1)) j
          · obtain ⟨k, _, y2, y3⟩ := d
            rw [← y3, hc k y2, v9 k y2]
          · rw [ho' j d, v10 j e d]
    | succ f ih =>
      intro k ν ek hc ho' hff
      obtain ⟨⟨i0, i1⟩, u, d, t0⟩ := ch_up c k (l3 k (by omega))
      have e130 : ν 130 k = ch V z.2.1 z.2.2 (o / V 1 1) k := by rw [hff _ _ (by decide)]; exact h130 k (by omega)
      have nx : ∀ μ7 : zM, μ7 = zu ν 129 (ch V z.2.1 z.2.2 (o / V 1 1) k) (nd z.2.1 z.2.2 k) → pX8_mendOne G n K 38 [some (Rv G 127), some (Iv i), some (Iv o), some (Iv (clen V z.2.1 z.2.2 (o / V 1 1))), some (Iv ((k : Int) + 1))] [] μ7 := fun μ7 e7 => by
        refine ih (k + 1) μ7 (by omega) (fun j hj => ?_) (fun j hj => ?_) (fun x j w => by rw [e7, zu_na w]; exact hff x j w)
        · rw [e7]; unfold zu
          by_cases e : j = k
          · subst e; rw [if_pos ⟨rfl, rfl⟩]
          · rw [if_neg (fun w => ch_ne c j k (by omega) (l3 k (by omega)) w.2)]; exact hc j (by omega)
        · rw [e7]; unfold zu
          rw [if_neg (fun w => hj ⟨k, by omega, by omega, w.2.symm⟩)]; exact ho' j hj
      refine bX8_mendOne_38 hn ?_
      rw [zrem_of (by omega) (by omega) (by omega) (by omega)]
      simp (disch := omega) only [wr_of]
      rw [e130]
      try simp (disch := omega) only [wr_of]
      rw [hff 127 8 (by decide), f2' 127 8 (by decide), e8, hff 127 9 (by decide), f2' 127 9 (by decide), e9]
      refine ⟨fun w => by omega, fun _ => ⟨by omega, fun w => ⟨by omega, fun μ7 e7 => nx μ7 ?_⟩, fun w => ⟨by omega, fun μ7 e7 => nx μ7 ?_⟩⟩⟩
      · rw [e7]; unfold nd; rw [if_neg (by omega)]
      · rw [e7]; unfold nd; rw [if_pos (by omega)]
  exact key (clen V z.2.1 z.2.2 (o / V 1 1)) 0 ν2 (by omega) (fun j hj => by omega) (fun j _ => by rw [f2' _ _ (by decide)]; exact m1.2.2 j) (fun _ _ _ => rfl)
end T58
