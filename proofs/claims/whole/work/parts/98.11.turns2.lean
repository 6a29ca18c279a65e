section T68
variable {G : zG} {n : Nat} {μ ν κ : zM}
/-- the model's memory holds it -/
def MN (s : Tn) (ν ν' : zM) : Prop := (∀ i, 0 ≤ i → i < 5 → ν' 151 i = s.1 i ∧ ν' 148 i = s.2.1 i ∧ ν' 149 i = s.2.2 i) ∧ ∀ a j, a ≠ 148 → a ≠ 149 → a ≠ 151 → a ≠ 153 → ν' a j = ν a j
theorem c8_takenBy (hn : 154 ≤ n) {P : Int} {Q : Int → Int → Int} (q : Qk P Q) {s : Tn} (v : Tv P Q s) (h30 : κ 127 30 = P) (hQ : ∀ i o, 0 ≤ i → i < 5 → 0 ≤ o → o < 5 → κ 147 (5 * i + o) = Q i o) (mt : MN s ν κ) {o : Int} (o0 : 0 ≤ o) (o1 : o < P) (u : us s.1 o P.toNat = false) {K : Int → zM → Prop} (hK : K (tks P Q s.1 s.2.2 o) κ) : mX8_takenBy G n o κ K := by
  have hp := q.1
  have po := (v.2 o o0 (by omega)).2
  have : ∀ (g : Nat) (d : Int), 0 ≤ d → d + g = P → tks P Q s.1 s.2.2 o = fa (asks P Q s.1 o) P (s.2.2 o) g d → pX8_takenBy G n K 2 [some (Rv G 127), some (Iv o), some (Iv d), none] [] κ := by
    intro g
    induction g with
    | zero =>
      intro d d0 ed e
      refine bX8_takenBy_2 (by omega) ?_
      rw [h30]
      simp (disch := omega) only [wr_of]
      refine ⟨fun _ => ?_, fun z => by omega⟩
      rw [e] at hK; exact hK
    | succ g ih =>
      intro d d0 ed e
      have o2 := md_r (a := s.2.2 o + d) (P := P) hp.1
      refine bX8_takenBy_2 (by omega) ?_
      rw [h30]
      simp (disch := omega) only [wr_of]
      rw [(mt.1 o o0 (by omega)).2.2]
      refine ⟨fun z => by omega, fun _ => ⟨by omega, by omega, fun v4 e4 => ?_⟩⟩
      rw [zrem_of (by omega) (by omega) (by omega) (by omega)] at e4
      rw [← e4] at o2
      have vi := v.1 v4 o2.1 (by omega)
      have vr : -9 ≤ s.1 v4 ∧ s.1 v4 < 5 := by omega
      have qq := q.2 v4 o o2.1 (by omega) o0 (by omega)
      simp (disch := omega) only [wr_of]
      rw [(mt.1 v4 o2.1 (by omega)).1, hQ v4 o o2.1 (by omega) o0 (by omega)]
      simp (disch := omega) only [wr_of]
      have no : ¬ (s.1 v4 = -9 ∧ us s.1 o P.toNat = false ∧ 0 < Q v4 o) → pX8_takenBy G n K 2 [some (Rv G 127), some (Iv o), some (Iv (d + 1)), none] [] κ := fun c => by
        refine ih (d + 1) (by omega) (by omega) ?_
        rw [e]; simp only [fa]
        rw [← e4, if_neg (show ¬ asks P Q s.1 o v4 = true from fun w => c (of_decide_eq_true w))]
      refine ⟨by omega, fun z => no (fun w => z w.1), fun z => ⟨by omega, fun z2 => no (fun w => by have := w.2.2; omega), fun z2 => ?_⟩⟩
      rw [e] at hK; simp only [fa] at hK
      rw [← e4, if_pos (show asks P Q s.1 o v4 = true from decide_eq_true ⟨z, u, by omega⟩)] at hK
      exact hK
  exact eX8_takenBy (by omega) (this P.toNat 0 (by decide) (by omega) rfl)
theorem tks_u {P : Int} {Q : Int → Int → Int} {m po : Int → Int} {o : Int} (u : us m o P.toNat = true) : tks P Q m po o = -9 := by
  refine fa_n (fun x => ?_) _ _
  unfold asks
  rw [u]
  exact decide_eq_false (fun w => absurd w.2.1 (by decide))
theorem c8_turns (hn : 154 ≤ n) {P : Int} {Q : Int → Int → Int} {pi po : Int → Int} (q : Qk P Q) (hpp : ∀ i, 0 ≤ i → i < 5 → (0 ≤ pi i ∧ pi i < P) ∧ (0 ≤ po i ∧ po i < P)) (st : StM P Q pi po ν) {K : zM → Prop} (hK : ∀ ν', MN (t4 P Q 3 0 ⟨fun _ => -9, pi, po⟩) ν ν' → K ν') : mX8_matchByTurns G n ν K := by
  have hp := q.1
  have fr : ∀ {s : Tn} {κ : zM}, MN s ν κ → κ 127 30 = P ∧ ∀ i o, 0 ≤ i → i < 5 → 0 ≤ o → o < 5 → κ 147 (5 * i + o) = Q i o := fun mt => ⟨by rw [mt.2 _ _ (by decide) (by decide) (by decide) (by decide)]; exact st.1, fun i o i0 i1 o0 o1 => by rw [mt.2 _ _ (by decide) (by decide) (by decide) (by decide)]; exact st.2.1 i o i0 i1 o0 o1⟩
  have second : ∀ (t : Int) (_ : 0 ≤ t ∧ t < 3) (m0 tt : Int → Int) (_ : t = 0 → ∀ x, m0 x = -9) (_ : TK P Q m0 tt) (sE : Tn) (_ : ∀ κ', MN sE ν κ' → pX8_matchByTurns G n K 2 [some (Rv G 127), some (Iv (t + 1)), none, none, none] [] κ') (g : Nat) (i : Int) (s : Tn) (κ : zM), 0 ≤ i → i + g = P → TJ P m0 tt i s → Tv P Q s → MN s ν κ → (∀ o, 0 ≤ o → o < P → κ 153 o = tt o) → sE = t2 P tt t g i s → pX8_matchByTurns G n K 49 [some (Rv G 127), some (Iv t), some (Iv i), none, none] [] κ := by
    intro t ht m0 tt h0 hk sE hE g
    induction g with
    | zero =>
      intro i s κ i0 ei hj v mt h153 e
      refine bX8_matchByTurns_49 (by omega) ?_
      rw [(fr mt).1]
      simp (disch := omega) only [wr_of]
      exact ⟨fun _ => hE κ (by rw [e]; exact mt), fun z => by omega⟩
    | succ g ih =>
      intro i s κ i0 ei hj v mt h153 e
      obtain ⟨f1, f2⟩ := fr mt
      have nj := t1_j (t := t) hp.1 hk hj v i0 (by omega)
      have tr : ∀ o, 0 ≤ o → o < P → -9 ≤ tt o ∧ tt o < 5 := fun o o0 o1 => by have := hk o o0 o1; omega
      have pii := (v.2 i i0 (by omega)).1
      have vi := v.1 i i0 (by omega)
      have vr : -9 ≤ s.1 i ∧ s.1 i < 5 := by omega
      have e2 : sE = t2 P tt t g (i + 1) (t1 P tt t i s) := e
      -- nothing taken
      have no : took P tt s.2.1 i = -9 → pX8_matchByTurns G n K 49 [some (Rv G 127), some (Iv t), some (Iv (i + 1)), none, none] [] κ := fun z => by
        unfold t1 at nj e2
        rw [if_pos z] at nj e2
        exact ih (i + 1) s κ (by omega) (by omega) nj.1 v mt h153 e2
      have walk : ∀ (g2 : Nat) (d : Int), 0 ≤ d → d + g2 = P → s.1 i = -9 → took P tt s.2.1 i = fa (fun o => decide (tt o = i)) P (s.2.1 i) g2 d → pX8_matchByTurns G n K 59 [some (Rv G 127), some (Iv t), some (Iv i), some (Iv d), none] [] κ := by
        intro g2
        induction g2 with
        | zero =>
          intro d d0 ed m9 ef
          refine bX8_matchByTurns_59 (by omega) ?_
          rw [f1]
          simp (disch := omega) only [wr_of]
          rw [(mt.1 i i0 (by omega)).1, m9]
          refine ⟨fun _ => ⟨fun _ => no ef, fun _ => ⟨by omega, fun _ => no ef, fun w => absurd rfl w⟩⟩, fun z => by omega⟩
        | succ g2 ih2 =>
          intro d d0 ed m9 ef
          have o2 := md_r (a := s.2.1 i + d) (P := P) hp.1
          refine bX8_matchByTurns_59 (by omega) ?_
          rw [f1]
          simp (disch := omega) only [wr_of]
          rw [(mt.1 i i0 (by omega)).1, (mt.1 i i0 (by omega)).2.1, m9]
          refine ⟨fun z => by omega, fun _ => ⟨by omega, fun w => absurd rfl w, fun _ => ⟨by omega, by omega, fun v28 e28 => ?_⟩⟩⟩
          rw [zrem_of (by omega) (by omega) (by omega) (by omega)] at e28
          rw [← e28] at o2
          have tv := tr v28 o2.1 o2.2
          simp (disch := omega) only [wr_of]
          rw [h153 v28 o2.1 o2.2]
          simp (disch := omega) only [wr_of]
          refine ⟨by omega, fun z => ih2 (d + 1) (by omega) (by omega) m9 ?_, fun z => ⟨by omega, fun μ32 e32 => ?_⟩⟩
          · rw [ef]; simp only [fa]; rw [← e28, if_neg (fun w => z (of_decide_eq_true w))]
          · simp only [fa] at ef
            rw [← e28, if_pos (decide_eq_true z)] at ef
            have e1 : t1 P tt t i s = ⟨fun x => if x = i then v28 else s.1 x, fun x => if t = 0 ∧ x = i then (v28 + 1) % P else s.2.1 x, fun x => if t = 0 ∧ x = v28 then (i + 1) % P else s.2.2 x⟩ := by unfold t1; rw [ef, if_neg (by omega)]
            rw [e1] at nj e2
            have w1 : μ32 127 30 = P := by rw [e32, zu_na (by decide)]; exact f1
            have w2 : μ32 151 i = v28 := by rw [e32]; unfold zu; rw [if_pos ⟨rfl, rfl⟩]
            have fin : ∀ κ3 : zM, (∀ a j, κ3 a j = if t = 0 ∧ a = 148 ∧ j = i then (v28 + 1) % P else if t = 0 ∧ a = 149 ∧ j = v28 then (i + 1) % P else μ32 a j) → pX8_matchByTurns G n K 49 [some (Rv G 127), some (Iv t), some (Iv (i + 1)), none, none] [] κ3 := fun κ3 V => by
              refine ih (i + 1) _ κ3 (by omega) (by omega) nj.1 nj.2 ⟨fun x x0 x1 => ⟨?_, ?_, ?_⟩, fun a j a1 a2 a3 a4 => ?_⟩ (fun x x0 x1 => ?_) e2
              · rw [V, if_neg (by omega), if_neg (by omega), e32]; unfold zu
                by_cases w : x = i
                · rw [if_pos ⟨rfl, w⟩]; simp only [if_pos w]
                · rw [if_neg (fun u => w u.2)]; simp only [if_neg w]; exact (mt.1 x x0 x1).1
              · rw [V, e32, zu_na (by decide), (mt.1 x x0 x1).2.1]
                by_cases w : t = 0 ∧ x = i
                · rw [if_pos ⟨w.1, rfl, w.2⟩]; simp only [if_pos w]
                · rw [if_neg (fun u => w ⟨u.1, u.2.2⟩), if_neg (by omega)]; simp only [if_neg w]
              · rw [V, e32, zu_na (by decide), (mt.1 x x0 x1).2.2]
                by_cases w : t = 0 ∧ x = v28
                · rw [if_neg (by omega), if_pos ⟨w.1, rfl, w.2⟩]; simp only [if_pos w]
                · rw [if_neg (by omega), if_neg (fun u => w ⟨u.1, u.2.2⟩)]; simp only [if_neg w]
              · rw [V, if_neg (by omega), if_neg (by omega), e32, zu_na a3]; exact mt.2 a j a1 a2 a3 a4
              · rw [V, if_neg (by omega), if_neg (by omega), e32, zu_na (by decide)]; exact h153 x x0 x1
            -- one step more of the loop: it is matched now
            have cls : (¬ t = 0 → pX8_matchByTurns G n K 49 [some (Rv G 127), some (Iv t), some (Iv (i + 1)), none, none] [] μ32) ∧ (t = 0 → ∀ μ8 : zM, μ8 = zu μ32 148 i (zrem (v28 + 1) P) → ∀ μ12 : zM, μ12 = zu μ8 149 v28 (zrem (i + 1) P) → pX8_matchByTurns G n K 49 [some (Rv G 127), some (Iv t), some (Iv (i + 1)), none, none] [] μ12) := by
              refine ⟨fun w => fin μ32 (fun a j => by rw [if_neg (fun u => w u.1), if_neg (fun u => w u.1)]), fun w μ8 e8 μ12 e12 => fin μ12 (fun a j => ?_)⟩
              rw [zrem_of (by omega) (by omega) (by omega) (by omega)] at e8 e12
              rw [e12]; unfold zu
              by_cases u : a = 149 ∧ j = v28
              · rw [if_pos u, if_neg (by omega), if_pos ⟨w, u⟩]
              · rw [if_neg u, e8]; unfold zu
                by_cases u2 : a = 148 ∧ j = i
                · rw [if_pos u2, if_pos ⟨w, u2⟩]
                · rw [if_neg u2, if_neg (fun y => u2 y.2), if_neg (fun y => u y.2)]
            refine bX8_matchByTurns_59 (by omega) ?_
            rw [w1]
            simp (disch := omega) only [wr_of]
            rw [w2]
            try simp (disch := omega) only [wr_of]
            have z9 : ¬ v28 = -9 := by omega
            have cl2 : t = 0 → (0 ≤ i ∧ i < 5) ∧ ((v28 = -9 → pX8_matchByTurns G n K 49 [some (Rv G 127), some (Iv t), some (Iv (i + 1)), none, none] [] μ32) ∧ (¬ v28 = -9 → (0 ≤ i ∧ i < 5) ∧ P ≠ 0 ∧ (0 ≤ i ∧ i < 5) ∧ ∀ μ8 : zM, μ8 = zu μ32 148 i (zrem (v28 + 1) P) → (0 ≤ i ∧ i < 5) ∧ wr (μ8 127 30) ≠ 0 ∧ (0 ≤ wr (μ8 151 i) ∧ wr (μ8 151 i) < 5) ∧ ∀ μ12 : zM, μ12 = zu μ8 149 (wr (μ8 151 i)) (zrem (i + 1) (μ8 127 30)) → pX8_matchByTurns G n K 49 [some (Rv G 127), some (Iv t), some (Iv (i + 1)), none, none] [] μ12)) := fun t0 => by
              refine ⟨by omega, fun w => absurd w z9, fun _ => ⟨by omega, by omega, by omega, fun μ8 e8 => ?_⟩⟩
              have x1 : μ8 127 30 = P := by rw [e8, zu_na (by decide)]; exact w1
              have x2 : μ8 151 i = v28 := by rw [e8, zu_na (by decide)]; exact w2
              rw [x1, x2]
              simp (disch := omega) only [wr_of]
              exact ⟨by omega, by omega, by omega, fun μ12 e12 => cls.2 t0 μ8 e8 μ12 e12⟩
            exact ⟨fun _ => ⟨cls.1, cl2⟩, fun _ => ⟨by omega, fun _ => ⟨cls.1, cl2⟩, fun w => absurd w z9⟩⟩
      refine bX8_matchByTurns_49 (by omega) ?_
      rw [f1]
      simp (disch := omega) only [wr_of]
      refine ⟨fun z => by omega, fun _ => ?_⟩
      by_cases m9 : s.1 i = -9
      · exact walk P.toNat 0 (by decide) (by omega) m9 rfl
      · have tn : took P tt s.2.1 i = -9 := Classical.byContradiction (fun w => m9 (t_can hp.1 hk hj i0 (by omega) w).2.1.1)
        have t9 : ¬ t = 0 := fun w => by
          rcases hj i i0 (by omega) with y | ⟨y, _⟩
          · rw [h0 w i] at y; exact m9 y
          · omega
        refine bX8_matchByTurns_59 (by omega) ?_
        rw [f1]
        simp (disch := omega) only [wr_of]
        rw [(mt.1 i i0 (by omega)).1]
        simp (disch := omega) only [wr_of]
        exact ⟨fun z => by omega, fun _ => ⟨by omega, fun _ => ⟨fun _ => no tn, fun w => absurd w t9⟩, fun w => absurd w m9⟩⟩
  have outer : ∀ (g : Nat) (t : Int) (s : Tn) (κ : zM), 0 ≤ t → t + g = 3 → (t = 0 → ∀ x, s.1 x = -9) → Tv P Q s → MN s ν κ → t4 P Q 3 0 ⟨fun _ => -9, pi, po⟩ = t4 P Q g t s → pX8_matchByTurns G n K 2 [some (Rv G 127), some (Iv t), none, none, none] [] κ := by
    intro g
    induction g with
    | zero =>
      intro t s κ t0 et h0 v mt e
      refine bX8_matchByTurns_2 (by omega) ?_
      simp (disch := omega) only [wr_of]
      exact ⟨fun _ => hK κ (by rw [e]; exact mt), fun z => by omega⟩
    | succ g ih =>
      intro t s κ t0 et h0 v mt e
      have first : ∀ (g2 : Nat) (o : Int) (κ : zM), 0 ≤ o → o + g2 = P → MN s ν κ → (∀ x, 0 ≤ x → x < o → κ 153 x = tks P Q s.1 s.2.2 x) → pX8_matchByTurns G n K 9 [some (Rv G 127), some (Iv t), some (Iv o), none, none] [] κ := by
        intro g2
        induction g2 with
        | zero =>
          intro o κ o0 eo mt h153
          refine bX8_matchByTurns_9 (by omega) ?_
          rw [(fr mt).1]
          simp (disch := omega) only [wr_of]
          refine ⟨fun _ => second t ⟨t0, by omega⟩ s.1 _ h0 (tks_k hp.1) (t3 P Q t s) (fun κ' mt' => ih (t + 1) _ κ' (by omega) (by omega) (fun w => by omega) (t3_v hp.1 v) mt' (by rw [e]; rfl)) P.toNat 0 s κ (by decide) (by omega) (fun _ _ _ => Or.inl rfl) v mt (fun x x0 x1 => h153 x x0 (by omega)) rfl, fun z => by omega⟩
        | succ g2 ih2 =>
          intro o κ o0 eo mt h153
          obtain ⟨f1, f2⟩ := fr mt
          have fin : ∀ μ5 : zM, μ5 = zu κ 153 o (tks P Q s.1 s.2.2 o) → pX8_matchByTurns G n K 9 [some (Rv G 127), some (Iv t), some (Iv (o + 1)), none, none] [] μ5 := fun μ5 e5 => by
            refine ih2 (o + 1) μ5 (by omega) (by omega) ⟨fun x x0 x1 => ?_, fun a j a1 a2 a3 a4 => ?_⟩ (fun x x0 x1 => ?_)
            · rw [e5, zu_na (by decide), zu_na (by decide), zu_na (by decide)]; exact mt.1 x x0 x1
            · rw [e5, zu_na a4]; exact mt.2 a j a1 a2 a3 a4
            · rw [e5]; unfold zu
              by_cases w : x = o
              · rw [if_pos ⟨rfl, w⟩, w]
              · rw [if_neg (fun u => w u.2)]; exact h153 x x0 (by omega)
          refine bX8_matchByTurns_9 (by omega) ?_
          rw [f1]
          simp (disch := omega) only [wr_of]
          refine ⟨fun z => by omega, fun _ => c8_isMatched hn hp f1 (fun x x0 x1 => ⟨(mt.1 x x0 x1).1, by have := v.1 x x0 x1; omega⟩) ⟨by omega, by omega⟩ (fun u => ⟨fun _ => c8_takenBy hn q v f1 f2 mt o0 (by omega) u ⟨by omega, fun μ8 e8 => fin μ8 e8⟩, fun w => absurd rfl w⟩) (fun u => ⟨fun w => absurd w (by decide), fun _ => ⟨by omega, fun μ10 e10 => fin μ10 (by rw [tks_u u]; exact e10)⟩⟩)⟩
      refine bX8_matchByTurns_2 (by omega) ?_
      simp (disch := omega) only [wr_of]
      exact ⟨fun z => by omega, fun _ => first P.toNat 0 κ (by decide) (by omega) mt (fun x _ _ => by omega)⟩
  exact eX8_matchByTurns (by omega) (outer 3 0 _ ν (by decide) (by decide) (fun _ _ => rfl) ⟨fun _ _ _ => Or.inl rfl, hpp⟩ ⟨fun i i0 i1 => st.2.2 i i0 i1, fun _ _ _ _ _ _ => rfl⟩ rfl)
theorem rule1 (hn : 154 ≤ n) : Rule G n 1 := by
  intro P Q pi po q hpp
  have v : Tv P Q (t4 P Q 3 0 ⟨fun _ => -9, pi, po⟩) := t4_v q.1.1 _ _ _ ⟨fun _ _ _ => Or.inl rfl, hpp⟩
  refine ⟨_, _, _, fun i i0 i1 => ⟨v.1 i i0 i1, v.2 i i0 i1⟩, fun ν K st hK => ⟨fun z => absurd z (by decide), fun _ => c4_turns hn q hpp st (fun ν' mt => hK ν' ⟨fun i i0 i1 => mt.1 i i0 i1, fun a j w => mt.2.2 a j (by omega)⟩), fun z => absurd z (by decide)⟩, fun ν K st hK => ⟨fun z => absurd z (by decide), fun _ => c8_turns hn q hpp st (fun ν' mt => hK ν' ⟨fun i i0 i1 => mt.1 i i0 i1, fun a j w => mt.2 a j (fun e => w (by unfold Sl8; omega)) (fun e => w (by unfold Sl8; omega)) (fun e => w (by unfold Sl8; omega)) (fun e => w (by unfold Sl8; omega))⟩), fun z => absurd z (by decide)⟩⟩
end T68
