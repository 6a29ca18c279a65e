section T29
variable {G : zG} {n : Nat} {μ ν : zM}
def rs (T : Int → Int → Int) (P : Nat) (i : Int) : Int := sm (T i) P
def cs (T : Int → Int → Int) (P : Nat) (o : Int) : Int := sm (fun i => T i o) P
def mx (f : Int → Int) : Nat → Int
  | 0 => 0
  | k + 1 => max (mx f k) (f k)
def spn (T : Int → Int → Int) (P : Nat) : Int := mx (fun k => max (rs T P k) (cs T P k)) P
theorem mx_b {f : Int → Int} {c : Int} (hc : 0 ≤ c) : ∀ k : Nat, (∀ j : Int, 0 ≤ j → j < k → f j ≤ c) → 0 ≤ mx f k ∧ mx f k ≤ c
  | 0, _ => ⟨Int.le_refl 0, hc⟩
  | k + 1, h => by
    have ih := mx_b hc k (fun j a b => h j a (by omega))
    have := h k (by omega) (by omega)
    simp only [mx]; omega
/-- a table of numbers 0 .. 50 -/
def Tb (T : Int → Int → Int) : Prop := ∀ i o, 0 ≤ i → i < 5 → 0 ≤ o → o < 5 → 0 ≤ T i o ∧ T i o ≤ 50
theorem Tb.r {T : Int → Int → Int} (h : Tb T) {m : Nat} (hm : m ≤ 5) {i : Int} (i0 : 0 ≤ i) (i1 : i < 5) : (0 ≤ rs T m i ∧ rs T m i ≤ 250) ∧ (0 ≤ cs T m i ∧ cs T m i ≤ 250) := by
  have a := sm_b (f := T i) (c := 50) m (fun j a b => h i j i0 i1 a (by omega))
  have b := sm_b (f := fun k => T k i) (c := 50) m (fun j a b => h j i a (by omega) i0 i1)
  unfold rs cs
  omega
theorem Tb.s {T : Int → Int → Int} (h : Tb T) {m P : Nat} (hm : m ≤ 5) (hP : P ≤ 5) : 0 ≤ mx (fun k => max (rs T P k) (cs T P k)) m ∧ mx (fun k => max (rs T P k) (cs T P k)) m ≤ 250 :=
  mx_b (by decide) m (fun j a b => by have := h.r hP a (show j < 5 by omega); omega)
/-- what adding up leaves -/
def Added (T : Int → Int → Int) (P : Nat) (μ ν : zM) : Prop := (∀ i : Int, 0 ≤ i → i < P → ν 58 i = rs T P i ∧ ν 59 i = cs T P i) ∧ ν 45 3 = spn T P ∧ (∀ a j, a ≠ 58 → a ≠ 59 → ¬ (a = 45 ∧ j = 3) → ν a j = μ a j)
theorem c3_addUp (hn : 154 ≤ n) {b : Int} (hb : b = 46 ∨ b = 52) {P : Nat} (hP : μ 45 0 = P) (hP5 : P ≤ 5) {T : Int → Int → Int} (hT : Tb T) (hm : ∀ i o : Int, 0 ≤ i → i < P → 0 ≤ o → o < P → μ (b + 1 + i) o = T i o) {K : zM → Prop} (hK : ∀ ν, Added T P μ ν → K ν) : mX3_addUp G n b μ K := by
  have hz : ∀ i : Int, 0 ≤ i → i < 5 → zk (b + 1 + i) = 0 ∧ (zn (b + 1 + i) : Int) = 5 := fun i i0 i1 => zk5 (by omega)
  have hz3 : zk b = 3 ∧ (zn b : Int) = 5 := by rcases hb with rfl | rfl <;> decide
  refine eX3_addUp (by omega) (c_fill ⟨by decide, by omega, by decide⟩ (c_fill ⟨by decide, by omega, by decide⟩ ?_))
  have z1 : (zn 58 : Int) = 5 ∧ (zn 59 : Int) = 5 := by decide
  rw [z1.1, z1.2]
  have last : ∀ (g k : Nat) (ν : zM), k + g = P → (∀ i : Int, 0 ≤ i → i < P → ν 58 i = rs T P i ∧ ν 59 i = cs T P i) → ν 45 3 = mx (fun k => max (rs T P k) (cs T P k)) k → (∀ a j, a ≠ 58 → a ≠ 59 → ¬ (a = 45 ∧ j = 3) → ν a j = μ a j) → pX3_addUp G n K 83 [some (Rv G 45), none, some (Iv k), none] [] ν := by
    intro g
    induction g with
    | zero =>
      intro k ν hk h1 h2 h3
      have : k = P := by omega
      subst this
      refine bX3_addUp_83 (by omega) ?_
      rw [h3 45 0 (by decide) (by decide) (by decide), hP]
      simp (disch := omega) only [wr_of]
      exact ⟨fun _ => hK ν ⟨h1, h2, h3⟩, fun z => by omega⟩
    | succ g ih =>
      intro k ν hk h1 h2 h3
      have r := hT.r (m := P) hP5 (i := k) (by omega) (by omega)
      have s := hT.s (m := k) (P := P) (by omega) hP5
      refine bX3_addUp_83 (by omega) ?_
      rw [h3 45 0 (by decide) (by decide) (by decide), hP]
      simp (disch := omega) only [wr_of]
      rw [(h1 k (by omega) (by omega)).1, (h1 k (by omega) (by omega)).2, h2]
      simp (disch := omega) only [wr_of]
      refine ⟨fun z => by omega, fun _ => ⟨by omega, by omega, fun μ4 e4 => ih (k + 1) μ4 (by omega) (fun i i0 i1 => ?_) ?_ (fun a j q1 q2 q3 => ?_)⟩⟩
      · rw [e4, zu_na (by decide), zu_na (by decide)]; exact h1 i i0 i1
      · rw [e4, zu_same]; rfl
      · rw [e4, zu_ne q3]; exact h3 a j q1 q2 q3
  have inner : ∀ (i g o : Nat) (ν : zM), i < P → o + g = P → (∀ j : Int, 0 ≤ j → j < P → ν 58 j = if j < i then sm (T j) P else if j = i then sm (T j) o else 0) → (∀ j : Int, 0 ≤ j → j < P → ν 59 j = sm (fun k => T k j) i + if j < o then T i j else 0) → (∀ a j, a ≠ 58 → a ≠ 59 → ν a j = μ a j) → (∀ ν : zM, (∀ j : Int, 0 ≤ j → j < P → ν 58 j = if j < (i + 1 : Nat) then sm (T j) P else 0) → (∀ j : Int, 0 ≤ j → j < P → ν 59 j = sm (fun k => T k j) (i + 1)) → (∀ a j, a ≠ 58 → a ≠ 59 → ν a j = μ a j) → pX3_addUp G n K 18 [some (Rv G 45), some (Rv G b), some (Iv ((i : Int) + 1)), none] [] ν) → pX3_addUp G n K 28 [some (Rv G 45), some (Rv G b), some (Iv i), some (Iv o)] [] ν := by
    intro i g
    induction g with
    | zero =>
      intro o ν hi ho h1 h2 h3 nx
      have : o = P := by omega
      subst this
      refine bX3_addUp_28 (by omega) ?_
      rw [h3 45 0 (by decide) (by decide), hP]
      simp (disch := omega) only [wr_of]
      refine ⟨fun _ => nx ν (fun j j0 j1 => ?_) (fun j j0 j1 => ?_) h3, fun z => by omega⟩
      · rw [h1 j j0 j1]
        repeat' split
        all_goals first | rfl | omega
      · rw [h2 j j0 (by omega), if_pos j1]; rfl
    | succ g ih =>
      intro o ν hi ho h1 h2 h3 nx
      have hzi := hz i (by omega) (by omega)
      have t : ν (b + 1 + i) o = T i o := by rw [h3 _ _ (by omega) (by omega)]; exact hm i o (by omega) (by omega) (by omega) (by omega)
      refine bX3_addUp_28 (by omega) ?_
      unfold zin
      rw [h3 45 0 (by decide) (by decide), hP, hz3.2]
      simp (disch := omega) only [wr_of]
      rw [hzi.2, t]
      refine ⟨fun z => by omega, fun _ => ⟨by omega, ⟨⟨by omega, by omega, hz3.1⟩, by omega⟩, ⟨⟨by omega, by omega, hzi.1⟩, by omega⟩, by omega, fun μ6 e6 => ⟨by omega, ⟨⟨by omega, by omega, hz3.1⟩, by omega⟩, ⟨⟨by omega, by omega, hzi.1⟩, by omega⟩, by omega, fun μ11 e11 => ?_⟩⟩⟩
      have t6 : μ6 (b + 1 + i) o = T i o := by rw [e6, zu_na (by omega)]; exact t
      rw [t6] at e11
      refine ih (o + 1) μ11 hi (by omega) (fun j j0 j1 => ?_) (fun j j0 j1 => ?_) (fun a j q1 q2 => ?_) nx
      · rw [e11, zu_na (by decide), e6]; unfold zu
        by_cases c : j = i
        · rw [if_pos ⟨rfl, c⟩, if_neg (by omega), if_pos c, h1 i (by omega) (by omega), if_neg (by omega), if_pos rfl, c]; rfl
        · rw [if_neg (fun q => c q.2), h1 j j0 j1]
          repeat' split
          all_goals first | rfl | omega
      · rw [e11]; unfold zu
        have g6 : ∀ j, μ6 59 j = ν 59 j := fun j => by rw [e6, zu_na (by decide)]
        by_cases c : j = o
        · rw [if_pos ⟨rfl, c⟩, g6, h2 o (by omega) (by omega), if_neg (by omega), if_pos (by omega), c]; omega
        · rw [if_neg (fun q => c q.2), g6, h2 j j0 j1]
          repeat' split
          all_goals first | rfl | omega
      · rw [e11, zu_na q2, e6, zu_na q1]; exact h3 a j q1 q2
  have outer : ∀ (g i : Nat) (ν : zM), i + g = P → (∀ j : Int, 0 ≤ j → j < P → ν 58 j = if j < i then sm (T j) P else 0) → (∀ j : Int, 0 ≤ j → j < P → ν 59 j = sm (fun k => T k j) i) → (∀ a j, a ≠ 58 → a ≠ 59 → ν a j = μ a j) → pX3_addUp G n K 18 [some (Rv G 45), some (Rv G b), some (Iv i), none] [] ν := by
    intro g
    induction g with
    | zero =>
      intro i ν hi h1 h2 h3
      have : i = P := by omega
      subst this
      refine bX3_addUp_18 (by omega) ?_
      rw [h3 45 0 (by decide) (by decide), hP]
      simp (disch := omega) only [wr_of]
      refine ⟨fun _ μ2 e2 => last i 0 μ2 (by omega) (fun j j0 j1 => ?_) ?_ (fun a j q1 q2 q3 => ?_), fun z => by omega⟩
      · rw [e2, zu_na (by decide), zu_na (by decide), h1 j j0 j1, h2 j j0 j1, if_pos j1]; exact ⟨rfl, rfl⟩
      · rw [e2, zu_same]; rfl
      · rw [e2, zu_ne q3]; exact h3 a j q1 q2
    | succ g ih =>
      intro i ν hi h1 h2 h3
      refine bX3_addUp_18 (by omega) ?_
      rw [h3 45 0 (by decide) (by decide), hP]
      simp (disch := omega) only [wr_of]
      refine ⟨fun z => by omega, fun _ => inner i P 0 ν (by omega) (by omega) (fun j j0 j1 => ?_) (fun j j0 j1 => ?_) h3 (fun ν' q1 q2 q3 => ih (i + 1) ν' (by omega) q1 q2 q3)⟩
      · rw [h1 j j0 j1]
        repeat' split
        all_goals first | rfl | omega
      · rw [h2 j j0 j1, if_neg (by omega)]; omega
  refine outer P 0 _ (by omega) (fun j j0 j1 => ?_) (fun j j0 j1 => ?_) (fun a j q1 q2 => ?_)
  · unfold zfill
    rw [if_neg (by omega), if_pos (by omega), if_neg (by omega)]
  · unfold zfill
    rw [if_pos (by omega)]; rfl
  · unfold zfill
    rw [if_neg (fun q => q2 q.1), if_neg (fun q => q1 q.1)]
/-- the model's sums -/
theorem c8_sumOf (hn : 154 ≤ n) {P : Nat} (hP : μ 127 30 = P) (hP5 : P ≤ 5) {T : Int → Int → Int} (hT : Tb T) (hm : ∀ i o : Int, 0 ≤ i → i < P → 0 ≤ o → o < P → μ 146 (5 * i + o) = T i o) {k : Int} (k0 : 0 ≤ k) (k1 : k < P) {w : Int} (hw : w = 0 ∨ w = 1) {K : Int → zM → Prop} (hK : K (if w = 1 then rs T P k else cs T P k) μ) : mX8_sumOf G n w k μ K := by
  have key : ∀ (g q : Nat), q + g = P → pX8_sumOf G n K 5 [some (Rv G 127), some (Iv w), some (Iv k), some (Iv (if w = 1 then sm (T k) q else sm (fun i => T i k) q)), some (Iv q)] [] μ := by
    intro g
    induction g with
    | zero =>
      intro q hq
      have : q = P := by omega
      subst this
      refine bX8_sumOf_5 hn ?_
      rw [hP]
      simp (disch := omega) only [wr_of]
      exact ⟨fun _ => hK, fun z => by omega⟩
    | succ g ih =>
      intro q hq
      have := ih (q + 1) (by omega)
      simp only [sm] at this
      refine bX8_sumOf_5 hn ?_
      rw [hP]
      simp (disch := omega) only [wr_of]
      refine ⟨fun z => by omega, fun _ => ⟨fun z => ⟨by omega, fun v4 e4 => ?_⟩, fun z => ⟨by omega, fun v4 e4 => ?_⟩⟩⟩
      · rw [if_neg (by omega)] at this
        rw [e4, hm q k (by omega) (by omega) k0 k1, if_neg (by omega)]
        exact this
      · rw [if_pos (by omega)] at this
        rw [e4, hm k q k0 k1 (by omega) (by omega), if_pos (by omega)]
        exact this
  have := key P 0 (by omega)
  rw [show (if w = 1 then sm (T k) 0 else sm (fun i => T i k) 0) = 0 by split <;> rfl] at this
  exact eX8_sumOf hn this
theorem c8_spanLeft (hn : 154 ≤ n) {P : Nat} (hP : μ 127 30 = P) (hP5 : P ≤ 5) {T : Int → Int → Int} (hT : Tb T) (hm : ∀ i o : Int, 0 ≤ i → i < P → 0 ≤ o → o < P → μ 146 (5 * i + o) = T i o) {K : Int → zM → Prop} (hK : K (spn T P) μ) : mX8_spanLeft G n μ K := by
  have key : ∀ (g k : Nat), k + g = P → pX8_spanLeft G n K 4 [some (Rv G 127), some (Iv (mx (fun k => max (rs T P k) (cs T P k)) k)), some (Iv k)] [] μ := by
    intro g
    induction g with
    | zero =>
      intro k hk
      have : k = P := by omega
      subst this
      refine bX8_spanLeft_4 hn ?_
      rw [hP]
      simp (disch := omega) only [wr_of]
      exact ⟨fun _ => hK, fun z => by omega⟩
    | succ g ih =>
      intro k hk
      have := ih (k + 1) (by omega)
      simp only [mx] at this
      have r := hT.r (m := P) hP5 (i := k) (by omega) (by omega)
      have s := hT.s (m := k) (P := P) (by omega) hP5
      have S := fun (w : Int) (hw : w = 0 ∨ w = 1) {K : Int → zM → Prop} (hK : K (if w = 1 then rs T P k else cs T P k) μ) => c8_sumOf (G := G) (K := K) hn hP hP5 hT hm (k := k) (by omega) (by omega) hw hK
      refine bX8_spanLeft_4 hn ?_
      rw [hP]
      simp (disch := omega) only [wr_of]
      refine ⟨fun z => by omega, fun _ => S 1 (by simp) ?_⟩
      rw [if_pos rfl]
      simp (disch := omega) only [wr_of]
      refine ⟨fun z => S 0 (by simp) ?_, fun z => S 1 (by simp) (S 0 (by simp) ?_)⟩
      · rw [if_neg (by decide)]
        simp (disch := omega) only [wr_of]
        refine ⟨fun z2 => ?_, fun z2 => S 0 (by simp) ?_⟩
        · rwa [show max (mx (fun k => max (rs T P k) (cs T P k)) k) (max (rs T P k) (cs T P k)) = mx (fun k => max (rs T P k) (cs T P k)) k by omega] at this
        · rw [if_neg (by decide)]
          rwa [show max (mx (fun k => max (rs T P k) (cs T P k)) k) (max (rs T P k) (cs T P k)) = cs T P k by omega] at this
      · rw [if_neg (by decide), if_pos rfl]
        simp (disch := omega) only [wr_of]
        refine ⟨fun z2 => ?_, fun z2 => S 0 (by simp) ?_⟩
        · rwa [show max (mx (fun k => max (rs T P k) (cs T P k)) k) (max (rs T P k) (cs T P k)) = rs T P k by omega] at this
        · rw [if_neg (by decide)]
          rwa [show max (mx (fun k => max (rs T P k) (cs T P k)) k) (max (rs T P k) (cs T P k)) = cs T P k by omega] at this
  exact eX8_spanLeft hn (key P 0 (by omega))
theorem c8_layLeft (hn : 154 ≤ n) {K : zM → Prop} (hK : K (zmap μ 146 25 (μ 145))) : mX8_layLeft G n μ K := by
  have key : ∀ (g : Nat) (k : Int), 0 ≤ k → k + g = 25 → pX8_layLeft G n K 2 [some (Rv G 127), some (Iv k)] [] (zmap μ 146 k (μ 145)) := by
    intro g
    induction g with
    | zero =>
      intro k k0 hk
      have : k = 25 := by omega
      subst this
      exact bX8_layLeft_2 hn ⟨fun _ => hK, fun z => absurd (by decide) z⟩
    | succ g ih =>
      intro k k0 hk
      have := ih (k + 1) (by omega) (by omega)
      rw [← zmap_s k0] at this
      refine bX8_layLeft_2 hn ?_
      simp (disch := omega) only [wr_of]
      refine ⟨fun z => by omega, fun _ => ⟨by omega, by omega, fun μ4 e4 => ?_⟩⟩
      rw [e4, zmap_na (by decide)]
      exact this
  have := key 25 0 (by decide) (by decide)
  rw [zmap_0] at this
  exact eX8_layLeft hn this
/-- the table of traffic -/
def tT (μ : zM) : Int → Int → Int := fun i o => μ (47 + i) o
theorem B4.tb (h : B4 μ) : Tb (tT μ) := fun i o i0 i1 o0 o1 => (h.2.1 i o i0 i1 o0 o1).1.2
/-- what sums and the model's laid table change is none of what B4 reads -/
theorem B4.eq (h : B4 μ) (e : ∀ a j, (a = 45 → j = 0) → a ≠ 58 → a ≠ 59 → (a = 127 → j = 30) → a ≠ 146 → ν a j = μ a j) : B4 ν := by
  have w : ∀ a j, a ≠ 45 → a ≠ 58 → a ≠ 59 → a ≠ 127 → a ≠ 146 → ν a j = μ a j := fun a j q1 q2 q3 q4 q5 => e a j (fun q => absurd q q1) q2 q3 (fun q => absurd q q4) q5
  have e0 : ν 45 0 = μ 45 0 := e 45 0 (fun _ => rfl) (by decide) (by decide) (fun q => absurd q (by decide)) (by decide)
  have e1 : ν 127 30 = μ 127 30 := e 127 30 (fun q => absurd q (by decide)) (by decide) (by decide) (fun _ => rfl) (by decide)
  have e2 : ν 99 0 = μ 99 0 := w 99 0 (by decide) (by decide) (by decide) (by decide) (by decide)
  refine ⟨by rw [e0, e1, e2]; exact h.1, fun i o i0 i1 o0 o1 => ?_, fun i i0 i1 => ?_⟩
  · rw [e2, w (47 + i) o (by omega) (by omega) (by omega) (by omega) (by omega), w (101 + i) o (by omega) (by omega) (by omega) (by omega) (by omega), w 145 _ (by decide) (by decide) (by decide) (by decide) (by decide), w 147 _ (by decide) (by decide) (by decide) (by decide) (by decide)]
    exact h.2.1 i o i0 i1 o0 o1
  · rw [e2, w 106 i (by decide) (by decide) (by decide) (by decide) (by decide), w 108 i (by decide) (by decide) (by decide) (by decide) (by decide), w 109 i (by decide) (by decide) (by decide) (by decide) (by decide), w 148 i (by decide) (by decide) (by decide) (by decide) (by decide), w 149 i (by decide) (by decide) (by decide) (by decide) (by decide), w 151 i (by decide) (by decide) (by decide) (by decide) (by decide)]
    exact h.2.2 i i0 i1
theorem c3_wholeSpan (hn : 154 ≤ n) (h : B4 μ) {P : Nat} (hP : μ 99 0 = P) {K : Int → zM → Prop} (hK : ∀ ν, Added (tT μ) P μ ν → K (spn (tT μ) P) ν) : mX3_wholeSpan G n μ K := by
  have p := h.1
  refine eX3_wholeSpan (by omega) (c3_addUp hn (Or.inl rfl) (by rw [p.2.2.1, hP]) (by omega) h.tb (fun i o i0 i1 o0 o1 => ?_) (fun ν q => ?_))
  · rw [show (46 : Int) + 1 + i = 47 + i by omega]; rfl
  · rw [q.2.1]; exact hK ν q
theorem c8_span (hn : 154 ≤ n) (h : B4 μ) {P : Nat} (hP : μ 99 0 = P) (hS : ν 127 30 = μ 127 30 ∧ ∀ j, ν 145 j = μ 145 j) {K : Int → zM → Prop} (hK : K (spn (tT μ) P) (zmap ν 146 25 (μ 145))) : mX8_span G n ν K := by
  have p := h.1
  have e : ν 145 = μ 145 := by funext j; exact hS.2 j
  refine eX8_span hn (c8_layLeft hn ?_)
  rw [e]
  refine c8_spanLeft (P := P) hn (by rw [zmap_na (by decide), hS.1, p.2.2.2, hP]) (by omega) h.tb (fun i o i0 i1 o0 o1 => ?_) hK
  rw [zmap_in (by omega) (by omega)]
  exact (h.2.1 i o i0 (by omega) o0 (by omega)).1.1.symm
theorem t_span (hn : 154 ≤ n) (h : B4 μ) : mX7_span G n μ (fun a μ1 => mX8_span G n μ1 (fun b μ2 => a = b ∧ B4 μ2 ∧ Fz 4 μ μ2 ∧ (∀ a j, ¬ (a = 45 ∧ j = 3) → a ≠ 58 → a ≠ 59 → a ≠ 146 → μ2 a j = μ a j))) := by
  have p := h.1
  obtain ⟨P, hP⟩ := Int.eq_ofNat_of_zero_le (show 0 ≤ μ 99 0 by omega)
  refine eX7_span hn (c3_wholeSpan hn h hP (fun ν q => ?_))
  have all : ∀ a j, ¬ (a = 45 ∧ j = 3) → a ≠ 58 → a ≠ 59 → a ≠ 146 → zmap ν 146 25 (μ 145) a j = μ a j := fun a j q1 q2 q3 q4 => by
    rw [zmap_na q4, q.2.2 a j q2 q3 q1]
  refine c8_span hn h hP ⟨q.2.2 _ _ (by decide) (by decide) (by decide), fun j => q.2.2 _ _ (by decide) (by decide) (by omega)⟩ ⟨rfl, h.eq (fun a j q1 q2 q3 q4 q5 => all a j (fun w => by have := q1 w.1; omega) q2 q3 q5), fun a j hz => ?_, all⟩
  exact all a j (fun w => hz (by rw [w.1, w.2]; decide)) (fun w => hz (by rw [w]; exact z4_45 (by omega))) (fun w => hz (by rw [w]; exact z4_45 (by omega))) (fun w => hz (by rw [w]; exact z4_145 (by omega)))
end T29
