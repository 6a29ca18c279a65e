section T66
variable {G : zG} {n : Nat} {μ ν κ : zM}
/-- outlet o has an inlet before k -/
def us (m : Int → Int) (o : Int) : Nat → Bool
  | 0 => false
  | k + 1 => us m o k || decide (m k = o)
theorem us_f {m : Int → Int} {o : Int} : ∀ {k : Nat}, us m o k = false → ∀ x : Int, 0 ≤ x → x < k → m x ≠ o
  | 0, _, x, a, b => by omega
  | k + 1, h, x, a, b => by
    simp only [us, Bool.or_eq_false_iff, decide_eq_false_iff_not] at h
    by_cases c : x = k
    · rw [c]; exact h.2
    · exact us_f h.1 x a (by omega)
theorem us_mk {m : Int → Int} {o : Int} : ∀ {k : Nat}, (∀ x : Int, 0 ≤ x → x < k → m x ≠ o) → us m o k = false
  | 0, _ => rfl
  | k + 1, h => by
    simp only [us, Bool.or_eq_false_iff, decide_eq_false_iff_not]
    exact ⟨us_mk (fun x a b => h x a (by omega)), h k (by omega) (by omega)⟩
/-- inlet i takes outlet o, if it can -/
def tk (P : Int) (Q : Int → Int → Int) (m : Int → Int) (i o : Int) : Int → Int := if m i = -9 ∧ us m o P.toNat = false ∧ 0 < Q i o then fun x => if x = i then o else m x else m
def Vm (P : Int) (Q : Int → Int → Int) (m : Int → Int) : Prop := ∀ i, 0 ≤ i → i < 5 → m i = -9 ∨ (0 ≤ m i ∧ m i < P ∧ i < P ∧ 0 < Q i (m i))
theorem tk_v {P : Int} {Q : Int → Int → Int} {m : Int → Int} {i o : Int} (h : Vm P Q m) (hi : i < P) (o0 : 0 ≤ o) (o1 : o < P) : Vm P Q (tk P Q m i o) := by
  intro x x0 x1
  unfold tk
  split
  · rename_i c
    by_cases e : x = i
    · subst e; simp only [if_true]; exact Or.inr ⟨o0, o1, hi, c.2.2⟩
    · simp only [if_neg e]; exact h x x0 x1
  · exact h x x0 x1
/-- the class' memory holds a match -/
def MC (P : Int) (m : Int → Int) (ν ν' : zM) : Prop := (∀ i, 0 ≤ i → i < 5 → ν' 106 i = m i) ∧ (∀ o, 0 ≤ o → o < P → (ν' 107 o = -9 ∧ us m o P.toNat = false) ∨ (0 ≤ ν' 107 o ∧ ν' 107 o < 5 ∧ us m o P.toNat = true)) ∧ ∀ a j, a ≠ 106 → a ≠ 107 → ν' a j = ν a j
theorem c4_canMatch (hn : 154 ≤ n) {P : Int} {Q : Int → Int → Int} {m : Int → Int} (q : Qk P Q) (v : Vm P Q m) (hQ : ∀ i o, 0 ≤ i → i < 5 → 0 ≤ o → o < 5 → ν (101 + i) o = Q i o) {i o : Int} (hi : 0 ≤ i ∧ i < P) (ho : 0 ≤ o ∧ o < P) (mc : MC P m ν κ) {K : Int → zM → Prop}
    (k0 : ¬ (m i = -9 ∧ us m o P.toNat = false ∧ 0 < Q i o) → K 0 κ) (k1 : (m i = -9 ∧ us m o P.toNat = false ∧ 0 < Q i o) → K 1 κ) : mX4_canMatch G n i o κ K := by
  have hp := q.1
  have qq := q.2 i o (by omega) (by omega) (by omega) (by omega)
  have vi := v i (by omega) (by omega)
  have ei := mc.1 i (by omega) (by omega)
  have eo := mc.2.1 o ho.1 ho.2
  have vr : -9 ≤ m i ∧ m i < 5 := by omega
  refine eX4_canMatch (by omega) ?_
  rw [show (100 : Int) + 1 = 101 from rfl]
  simp (disch := omega) only [wr_of]
  rw [ei, mc.2.2 (101 + i) o (by omega) (by omega), hQ i o (by omega) (by omega) (by omega) (by omega)]
  simp (disch := omega) only [wr_of]
  refine ⟨by omega, fun z => k0 (fun w => z w.1), fun z => ⟨by omega, ?_⟩⟩
  rcases eo with ⟨e1, e2⟩ | ⟨e1, e2, e3⟩
  · rw [e1]
    refine ⟨fun z2 => absurd rfl z2, fun _ => ⟨by omega, by omega, fun z3 => k0 (fun w => by have := w.2.2; omega), fun z3 => k1 ⟨z, e2, by omega⟩⟩⟩
  · try simp (disch := omega) only [wr_of]
    refine ⟨fun z2 => k0 (fun w => by rw [e3] at w; exact absurd w.2.1 (by decide)), fun z2 => by omega⟩
theorem c4_match (hn : 154 ≤ n) {P : Int} {Q : Int → Int → Int} {m : Int → Int} (q : Qk P Q) {i o : Int} (hi : 0 ≤ i ∧ i < P) (ho : 0 ≤ o ∧ o < P) (mc : MC P m ν κ) (can : m i = -9 ∧ us m o P.toNat = false ∧ 0 < Q i o) {K : zM → Prop}
    (hK : ∀ κ', MC P (tk P Q m i o) ν κ' → K κ') : mX4_match G n i o κ K := by
  have hp := q.1
  refine eX4_match (by omega) ?_
  simp (disch := omega) only [wr_of]
  refine ⟨by omega, fun μ2 e2 => ⟨by omega, fun μ4 e4 => hK μ4 ⟨fun x x0 x1 => ?_, fun x x0 x1 => ?_, fun a j w1 w2 => ?_⟩⟩⟩
  · rw [e4, zu_na (by decide), e2]
    unfold tk zu
    rw [if_pos can]
    by_cases c : x = i
    · rw [if_pos ⟨rfl, c⟩, if_pos c]
    · rw [if_neg (fun w => c w.2), if_neg c]; exact mc.1 x x0 x1
  · have hx := mc.2.1 x x0 x1
    have em : μ4 107 x = if x = o then i else κ 107 x := by
      rw [e4]; unfold zu
      by_cases c : x = o
      · rw [if_pos ⟨rfl, c⟩, if_pos c]
      · rw [if_neg (fun w => c w.2), if_neg c, e2, zu_na (by decide)]
    have et : us (tk P Q m i o) x P.toNat = if x = o then true else us m x P.toNat := by
      by_cases c : x = o
      · rw [if_pos c]
        cases hu : us (tk P Q m i o) x P.toNat with
        | true => rfl
        | false =>
          have := us_f hu i hi.1 (by omega)
          unfold tk at this
          rw [if_pos can] at this
          simp only [if_true] at this
          exact absurd c.symm this
      · rw [if_neg c]
        cases hu : us m x P.toNat with
        | false =>
          refine us_mk (fun y y0 y1 => ?_)
          unfold tk
          rw [if_pos can]
          by_cases d : y = i
          · simp only [if_pos d]; exact fun w => c w.symm
          · simp only [if_neg d]; exact us_f hu y y0 y1
        | true =>
          cases hu2 : us (tk P Q m i o) x P.toNat with
          | true => rfl
          | false =>
            have : us m x P.toNat = false := us_mk (fun y y0 y1 => by
              have t := us_f hu2 y y0 y1
              unfold tk at t
              rw [if_pos can] at t
              by_cases d : y = i
              · rw [d, can.1]; omega
              · simp only [if_neg d] at t; exact t)
            rw [hu] at this; exact absurd this (by decide)
    rw [em, et]
    by_cases c : x = o
    · rw [if_pos c, if_pos c]; exact Or.inr ⟨by omega, by omega, rfl⟩
    · rw [if_neg c, if_neg c]; exact hx
  · rw [e4, zu_na w2, e2, zu_na w1]; exact mc.2.2 a j w1 w2
theorem c8_isMatched (hn : 154 ≤ n) {P : Int} (hp : 1 ≤ P ∧ P ≤ 5) (h30 : ν 127 30 = P) {m : Int → Int} (hm : ∀ i, 0 ≤ i → i < 5 → ν 151 i = m i ∧ -9 ≤ m i ∧ m i < 5) {o : Int} (ho : -9 ≤ o ∧ o < 9) {K : Int → zM → Prop}
    (k0 : us m o P.toNat = false → K 0 ν) (k1 : us m o P.toNat = true → K 1 ν) : mX8_isMatched G n o ν K := by
  have : ∀ (g : Nat) (x : Int), 0 ≤ x → x + g = P → (∀ y, 0 ≤ y → y < x → m y ≠ o) → pX8_isMatched G n K 2 [some (Rv G 127), some (Iv o), some (Iv x)] [] ν := by
    intro g
    induction g with
    | zero =>
      intro x x0 ex hy
      refine bX8_isMatched_2 (by omega) ?_
      rw [h30]
      simp (disch := omega) only [wr_of]
      exact ⟨fun _ => k0 (us_mk (fun y a b => hy y a (by omega))), fun z => by omega⟩
    | succ g ih =>
      intro x x0 ex hy
      have hx := hm x x0 (by omega)
      refine bX8_isMatched_2 (by omega) ?_
      rw [h30]
      simp (disch := omega) only [wr_of]
      rw [hx.1]
      try simp (disch := omega) only [wr_of]
      refine ⟨fun z => by omega, fun _ => ⟨by omega, fun z => ih (x + 1) (by omega) (by omega) (fun y a b => ?_), fun z => k1 ?_⟩⟩
      · by_cases e : y = x
        · rw [e]; exact z
        · exact hy y a (by omega)
      · cases hu : us m o P.toNat with
        | true => rfl
        | false => exact absurd z (us_f hu x x0 (by omega))
  exact eX8_isMatched (by omega) (this P.toNat 0 (by decide) (by omega) (fun y a b => by omega))
/-- crosswise, in the order of both -/
def cwi (P : Int) (Q : Int → Int → Int) (d : Int) : Nat → Int → (Int → Int) → Int → Int
  | 0, _, m => m
  | g + 1, i, m => cwi P Q d g (i + 1) (tk P Q m i ((i + d) % P))
def cwo (P : Int) (Q : Int → Int → Int) : Nat → Int → (Int → Int) → Int → Int
  | 0, _, m => m
  | g + 1, d, m => cwo P Q g (d + 1) (cwi P Q d P.toNat 0 m)
theorem md_r {a P : Int} (hp : 1 ≤ P) : 0 ≤ a % P ∧ a % P < P := ⟨Int.emod_nonneg _ (by omega), Int.emod_lt_of_pos _ (by omega)⟩
theorem cwi_v {P : Int} {Q : Int → Int → Int} (hp : 1 ≤ P) {d : Int} : ∀ (g : Nat) (i : Int) (m : Int → Int), i + g = P → Vm P Q m → Vm P Q (cwi P Q d g i m)
  | 0, _, _, _, h => h
  | g + 1, i, m, e, h => cwi_v hp g (i + 1) _ (by omega) (tk_v h (by omega) (md_r hp).1 (md_r hp).2)
theorem cwo_v {P : Int} {Q : Int → Int → Int} (hp : 1 ≤ P) : ∀ (g : Nat) (d : Int) (m : Int → Int), Vm P Q m → Vm P Q (cwo P Q g d m)
  | 0, _, _, h => h
  | g + 1, d, m, h => cwo_v hp g (d + 1) _ (cwi_v hp _ _ _ (by omega) h)
theorem MC.st {P : Int} {Q : Int → Int → Int} {pi po : Int → Int} (st : StC P Q pi po ν) (hp : 1 ≤ P ∧ P ≤ 5) : MC P (fun _ => -9) ν ν :=
  ⟨fun i i0 i1 => (st.2.2 i i0 i1).1, fun o o0 o1 => Or.inl ⟨(st.2.2 o o0 (by omega)).2.1, us_mk (fun x _ _ => by omega)⟩, fun _ _ _ _ => rfl⟩
theorem c4_cross (hn : 154 ≤ n) {P : Int} {Q : Int → Int → Int} {pi po : Int → Int} (q : Qk P Q) (st : StC P Q pi po ν) {K : zM → Prop} (hK : ∀ ν', MC P (cwo P Q P.toNat 0 (fun _ => -9)) ν ν' → K ν') : mX4_matchCrosswise G n ν K := by
  have hp := q.1
  have inner : ∀ (d : Int) (_ : 0 ≤ d ∧ d < P) (mE : Int → Int) (_ : ∀ κ', MC P mE ν κ' → pX4_matchCrosswise G n K 2 [some (Rv G 99), some (Iv (d + 1)), none, none] [] κ') (g : Nat) (i : Int) (m : Int → Int) (κ : zM), 0 ≤ i → i + g = P → Vm P Q m → MC P m ν κ → mE = cwi P Q d g i m → pX4_matchCrosswise G n K 12 [some (Rv G 99), some (Iv d), some (Iv i), none] [] κ := by
    intro d hd mE hE g
    induction g with
    | zero =>
      intro i m κ i0 ei v mc e
      refine bX4_matchCrosswise_12 (by omega) ?_
      rw [mc.2.2 _ _ (by decide) (by decide), st.1]
      simp (disch := omega) only [wr_of]
      exact ⟨fun _ => hE κ (by rw [e]; exact mc), fun z => by omega⟩
    | succ g ih =>
      intro i m κ i0 ei v mc e
      refine bX4_matchCrosswise_12 (by omega) ?_
      rw [mc.2.2 _ _ (by decide) (by decide), st.1]
      simp (disch := omega) only [wr_of]
      have o2 := md_r (a := i + d) (P := P) (by omega)
      refine ⟨fun z => by omega, fun _ => eX4_aroundPorts (by omega) ?_⟩
      rw [mc.2.2 _ _ (by decide) (by decide), st.1]
      simp (disch := omega) only [wr_of]
      have key : ∀ o, o = (i + d) % P → mX4_canMatch G n i o κ (fun r4 μ5 => ((wr r4 = 0 → (pX4_matchCrosswise G n K 12 [some (Rv G 99), some (Iv d), some (Iv (i + 1)), none] [] μ5)) ∧ (¬ (wr r4 = 0) → (mX4_match G n i o μ5 (fun μ8 => pX4_matchCrosswise G n K 12 [some (Rv G 99), some (Iv d), some (Iv (i + 1)), none] [] μ8))))) := by
        intro o eo
        rw [← eo] at o2
        have vt := tk_v (i := i) (o := o) v (by omega) o2.1 o2.2
        refine c4_canMatch hn q v st.2.1 ⟨i0, by omega⟩ o2 mc (fun c => ⟨fun _ => ?_, fun z => absurd rfl z⟩) (fun c => ⟨fun z => absurd z (by decide), fun _ => ?_⟩)
        · refine ih (i + 1) m κ (by omega) (by omega) v mc ?_
          rw [e]
          simp only [cwi]
          rw [← eo]
          congr 1
          unfold tk; rw [if_neg c]
        · refine c4_match hn q ⟨i0, by omega⟩ o2 mc c (fun κ' mc' => ih (i + 1) _ κ' (by omega) (by omega) vt mc' ?_)
          rw [e]
          simp only [cwi]
          rw [← eo]
      refine ⟨fun z => key _ ?_, fun z => key _ ?_⟩
      · rw [← Int.sub_emod_right, Int.emod_eq_of_lt (by omega) (by omega)]
      · rw [Int.emod_eq_of_lt (by omega) (by omega)]
  have outer : ∀ (g : Nat) (d : Int) (m : Int → Int) (κ : zM), 0 ≤ d → d + g = P → Vm P Q m → MC P m ν κ → cwo P Q P.toNat 0 (fun _ => -9) = cwo P Q g d m → pX4_matchCrosswise G n K 2 [some (Rv G 99), some (Iv d), none, none] [] κ := by
    intro g
    induction g with
    | zero =>
      intro d m κ d0 ed v mc e
      refine bX4_matchCrosswise_2 (by omega) ?_
      rw [mc.2.2 _ _ (by decide) (by decide), st.1]
      simp (disch := omega) only [wr_of]
      exact ⟨fun _ => hK κ (by rw [e]; exact mc), fun z => by omega⟩
    | succ g ih =>
      intro d m κ d0 ed v mc e
      refine bX4_matchCrosswise_2 (by omega) ?_
      rw [mc.2.2 _ _ (by decide) (by decide), st.1]
      simp (disch := omega) only [wr_of]
      refine ⟨fun z => by omega, fun _ => inner d ⟨d0, by omega⟩ _ (fun κ' mc' => ih (d + 1) _ κ' (by omega) (by omega) (cwi_v (by omega) _ _ _ (by omega) v) mc' ?_) P.toNat 0 m κ (by decide) (by omega) v mc rfl⟩
      rw [e]; rfl
  exact eX4_matchCrosswise (by omega) (outer P.toNat 0 _ ν (by decide) (by omega) (fun _ _ _ => Or.inl rfl) (MC.st st hp) rfl)
/-- the model's memory holds a match -/
def MM (m : Int → Int) (ν ν' : zM) : Prop := (∀ i, 0 ≤ i → i < 5 → ν' 151 i = m i) ∧ ∀ a j, a ≠ 151 → ν' a j = ν a j
theorem c8_cross (hn : 154 ≤ n) {P : Int} {Q : Int → Int → Int} {pi po : Int → Int} (q : Qk P Q) (st : StM P Q pi po ν) {K : zM → Prop} (hK : ∀ ν', MM (cwo P Q P.toNat 0 (fun _ => -9)) ν ν' → K ν') : mX8_matchCrosswise G n ν K := by
  have hp := q.1
  have inner : ∀ (d : Int) (_ : 0 ≤ d ∧ d < P) (mE : Int → Int) (_ : ∀ κ', MM mE ν κ' → pX8_matchCrosswise G n K 2 [some (Rv G 127), some (Iv (d + 1)), none, none] [] κ') (g : Nat) (i : Int) (m : Int → Int) (κ : zM), 0 ≤ i → i + g = P → Vm P Q m → MM m ν κ → mE = cwi P Q d g i m → pX8_matchCrosswise G n K 12 [some (Rv G 127), some (Iv d), some (Iv i), none] [] κ := by
    intro d hd mE hE g
    induction g with
    | zero =>
      intro i m κ i0 ei v mc e
      refine bX8_matchCrosswise_12 (by omega) ?_
      rw [mc.2 127 30 (by decide), st.1]
      simp (disch := omega) only [wr_of]
      exact ⟨fun _ => hE κ (by rw [e]; exact mc), fun z => by omega⟩
    | succ g ih =>
      intro i m κ i0 ei v mc e
      have o2 := md_r (a := i + d) (P := P) (by omega)
      have vi := v i i0 (by omega)
      have qq := q.2 i ((i + d) % P) i0 (by omega) o2.1 (by omega)
      refine bX8_matchCrosswise_12 (by omega) ?_
      rw [mc.2 127 30 (by decide), st.1]
      simp (disch := omega) only [wr_of]
      refine ⟨fun z => by omega, fun _ => ⟨by omega, fun v3 e3 => ?_⟩⟩
      rw [zrem_of (by omega) (by omega) (by omega) (by omega)] at e3
      rw [mc.1 i i0 (by omega)]
      rw [← e3] at o2 qq
      have vt := tk_v (i := i) (o := v3) v (by omega) o2.1 o2.2
      have vr : -9 ≤ m i ∧ m i < 5 := by omega
      simp (disch := omega) only [wr_of]
      have no : ¬ (m i = -9 ∧ us m v3 P.toNat = false ∧ 0 < Q i v3) → pX8_matchCrosswise G n K 12 [some (Rv G 127), some (Iv d), some (Iv (i + 1)), none] [] κ := fun c => by
        refine ih (i + 1) m κ (by omega) (by omega) v mc ?_
        rw [e]
        simp only [cwi]
        rw [← e3]
        congr 1
        unfold tk; rw [if_neg c]
      refine ⟨by omega, fun z => no (fun w => z w.1), fun z => c8_isMatched hn hp (by rw [mc.2 127 30 (by decide)]; exact st.1) (fun x x0 x1 => ⟨mc.1 x x0 x1, by have := v x x0 x1; omega⟩) ⟨by omega, by omega⟩ (fun u => ⟨fun z2 => absurd rfl z2, fun _ => ⟨by omega, ?_⟩⟩) (fun u => ⟨fun _ => no (fun w => by rw [u] at w; exact absurd w.2.1 (by decide)), fun z2 => absurd z2 (by decide)⟩)⟩
      rw [mc.2 147 _ (by decide), st.2.1 i v3 i0 (by omega) o2.1 (by omega)]
      simp (disch := omega) only [wr_of]
      refine ⟨fun z2 => no (fun w => by have := w.2.2; omega), fun z2 => ⟨by omega, fun μ12 e12 => ih (i + 1) _ μ12 (by omega) (by omega) vt ⟨fun x x0 x1 => ?_, fun a j w => ?_⟩ ?_⟩⟩
      · rw [e12]; unfold tk zu
        have can : m i = -9 ∧ us m v3 P.toNat = false ∧ 0 < Q i v3 := ⟨z, u, by omega⟩
        rw [if_pos can]
        by_cases c : x = i
        · rw [if_pos ⟨rfl, c⟩, if_pos c]
        · rw [if_neg (fun w => c w.2), if_neg c]; exact mc.1 x x0 x1
      · rw [e12, zu_na w]; exact mc.2 a j w
      · rw [e]; simp only [cwi]; rw [← e3]
  have outer : ∀ (g : Nat) (d : Int) (m : Int → Int) (κ : zM), 0 ≤ d → d + g = P → Vm P Q m → MM m ν κ → cwo P Q P.toNat 0 (fun _ => -9) = cwo P Q g d m → pX8_matchCrosswise G n K 2 [some (Rv G 127), some (Iv d), none, none] [] κ := by
    intro g
    induction g with
    | zero =>
      intro d m κ d0 ed v mc e
      refine bX8_matchCrosswise_2 (by omega) ?_
      rw [mc.2 127 30 (by decide), st.1]
      simp (disch := omega) only [wr_of]
      exact ⟨fun _ => hK κ (by rw [e]; exact mc), fun z => by omega⟩
    | succ g ih =>
      intro d m κ d0 ed v mc e
      refine bX8_matchCrosswise_2 (by omega) ?_
      rw [mc.2 127 30 (by decide), st.1]
      simp (disch := omega) only [wr_of]
      refine ⟨fun z => by omega, fun _ => inner d ⟨d0, by omega⟩ _ (fun κ' mc' => ih (d + 1) _ κ' (by omega) (by omega) (cwi_v (by omega) _ _ _ (by omega) v) mc' ?_) P.toNat 0 m κ (by decide) (by omega) v mc rfl⟩
      rw [e]; rfl
  exact eX8_matchCrosswise (by omega) (outer P.toNat 0 _ ν (by decide) (by omega) (fun _ _ _ => Or.inl rfl) ⟨fun i i0 i1 => (st.2.2 i i0 i1).1, fun _ _ _ => rfl⟩ rfl)
theorem rule2 (hn : 154 ≤ n) : Rule G n 2 := by
  intro P Q pi po q hpp
  have v : Vm P Q (cwo P Q P.toNat 0 (fun _ => -9)) := cwo_v q.1.1 _ _ _ (fun _ _ _ => Or.inl rfl)
  refine ⟨cwo P Q P.toNat 0 (fun _ => -9), pi, po, fun i i0 i1 => ⟨v i i0 i1, hpp i i0 i1⟩, fun ν K st hK => ⟨fun z => absurd z (by decide), fun z => absurd z (by decide), fun _ => c4_cross hn q st (fun ν' mc => hK ν' ⟨fun i i0 i1 => ⟨mc.1 i i0 i1, ?_, ?_⟩, fun a j w => mc.2.2 a j (by omega) (by omega)⟩)⟩, fun ν K st hK => ⟨fun z => absurd z (by decide), fun z => absurd z (by decide), fun _ => c8_cross hn q st (fun ν' mc => hK ν' ⟨fun i i0 i1 => ⟨mc.1 i i0 i1, ?_, ?_⟩, fun a j w => mc.2 a j (fun e => w (by unfold Sl8; omega))⟩)⟩⟩
  · rw [mc.2.2 _ _ (by decide) (by decide)]; exact (st.2.2 i i0 i1).2.2.1
  · rw [mc.2.2 _ _ (by decide) (by decide)]; exact (st.2.2 i i0 i1).2.2.2
  · rw [mc.2 _ _ (by decide)]; exact (st.2.2 i i0 i1).2.1
  · rw [mc.2 _ _ (by decide)]; exact (st.2.2 i i0 i1).2.2
end T66
