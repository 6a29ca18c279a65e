section T64
variable {G : zG} {n : Nat} {μ ν κ : zM}
theorem c8_slotR (hn : 154 ≤ n) {rule P b : Int} {Q : Int → Int → Int} (q : Qk P Q) (hP : ν 127 30 = P) (hQ : ∀ i o, 0 ≤ i → i < 5 → 0 ≤ o → o < 5 → ν 147 (5 * i + o) = Q i o) {f : Int → Int} (b0 : 0 ≤ b) (b1 : b + P ≤ 240) (hf : ∀ x, 0 ≤ x → x < P → ν 139 (b + x) = f x ∧ R32 (f x)) {K : Int → zM → Prop}
    (k2 : ¬ In4 P f → K (-2) ν) (k4 : In4 P f → ¬ Nf4 P Q f → K (-4) ν) (k0 : In4 P f → Nf4 P Q f → pX8_slot G n K 171 [some (Rv G 127), some (Iv rule), none, none, none, none, some (Iv b), some (Iv 0), none] [] ν) : pX8_slot G n K 67 [some (Rv G 127), some (Iv rule), none, none, none, none, some (Iv b), some (Iv 0), none] [] ν := by
  have hp := q.1
  have l2 : In4 P f → ∀ (g : Nat) (x : Int), 0 ≤ x → x + g = P → (∀ y, 0 ≤ y → y < x → 0 ≤ f y → Q y (f y) < 1000) → pX8_slot G n K 111 [some (Rv G 127), some (Iv rule), none, none, none, none, some (Iv b), some (Iv x), none] [] ν := by
    intro hin g
    induction g with
    | zero =>
      intro x x0 ex hy
      refine bX8_slot_111 hn ?_
      rw [hP]
      simp (disch := omega) only [wr_of]
      exact ⟨fun _ => k0 hin (fun y a b => hy y a (by omega)), fun z => by omega⟩
    | succ g ih =>
      intro x x0 ex hy
      have fx := hf x x0 (by omega)
      have ix := hin x x0 (by omega)
      refine bX8_slot_111 hn ?_
      rw [hP]
      simp (disch := omega) only [wr_of]
      rw [fx.1]
      try simp (disch := omega) only [wr_of]
      refine ⟨fun z => by omega, fun _ => ⟨by omega, fun z => ih (x + 1) (by omega) (by omega) (fun y a b c => ?_), fun z => ⟨by omega, by omega, ?_⟩⟩⟩
      · by_cases e : y = x
        · subst e; omega
        · exact hy y a (by omega) c
      · have qq := q.2 x (f x) x0 (by omega) (by omega) (by omega)
        rw [hQ x (f x) x0 (by omega) (by omega) (by omega)]
        simp (disch := omega) only [wr_of]
        refine ⟨fun z2 => ih (x + 1) (by omega) (by omega) (fun y a b c => ?_), fun z2 => k4 hin (fun w => by have := w x x0 (by omega) (by omega); omega)⟩
        by_cases e : y = x
        · subst e; omega
        · exact hy y a (by omega) c
  have l1 : ∀ (g : Nat) (x : Int), 0 ≤ x → x + g = P → (∀ y, 0 ≤ y → y < x → -1 ≤ f y ∧ f y ≤ P - 1) → pX8_slot G n K 67 [some (Rv G 127), some (Iv rule), none, none, none, none, some (Iv b), some (Iv x), none] [] ν := by
    intro g
    induction g with
    | zero =>
      intro x x0 ex hy
      refine bX8_slot_67 hn ?_
      rw [hP]
      simp (disch := omega) only [wr_of]
      exact ⟨fun _ => l2 (fun y a b => hy y a (by omega)) P.toNat 0 (by decide) (by omega) (fun y a b => by omega), fun z => by omega⟩
    | succ g ih =>
      intro x x0 ex hy
      have fx := hf x x0 (by omega)
      have fx2 := fx.2
      obtain ⟨fa, fb⟩ := fx2
      refine bX8_slot_67 hn ?_
      rw [hP]
      simp (disch := omega) only [wr_of]
      rw [fx.1]
      refine ⟨fun z => by omega, fun _ => ⟨by omega, c8_within hn ?_⟩⟩
      simp (disch := omega) only [wr_of, ite_b0, Classical.not_not]
      refine ⟨fun z => ih (x + 1) (by omega) (by omega) (fun y a b => ?_), fun z => k2 (fun w => z (w x x0 (by omega)))⟩
      by_cases e : y = x
      · subst e; exact z
      · exact hy y a (by omega)
  exact l1 P.toNat 0 (by decide) (by omega) (fun y a b => by omega)
theorem c8_serve (hn : 154 ≤ n) {rule P b : Int} {Q : Int → Int → Int} {pi po m pi' po' : Int → Int} (hr : 0 ≤ rule ∧ rule ≤ 2) (q : Qk P Q) {f : Int → Int} (hi : In4 P f) (hnf : Nf4 P Q f) (v : Vd P (Q1 P Q f) m pi' po')
    (hc : ∀ (ν : zM) (K : zM → Prop), StM P (Q1 P Q f) pi po ν → (∀ ν', EnM m pi' po' ν ν' → K ν') → (rule = 0 → mX8_matchGreatest G n ν K) ∧ (rule = 1 → mX8_matchByTurns G n ν K) ∧ (rule = 2 → mX8_matchCrosswise G n ν K))
    (hP : ν 127 30 = P) (hQ : ∀ i o, 0 ≤ i → i < 5 → 0 ≤ o → o < 5 → ν 147 (5 * i + o) = Q i o) (hp : ∀ i, 0 ≤ i → i < 5 → ν 148 i = pi i ∧ ν 149 i = po i ∧ (P ≤ i → ν 151 i = -9)) (b0 : 0 ≤ b) (b1 : b + P ≤ 240) (hf : ∀ x, 0 ≤ x → x < P → ν 139 (b + x) = f x) {K : Int → zM → Prop}
    (hK : ∀ ν' : zM, (∀ i o, 0 ≤ i → i < 5 → 0 ≤ o → o < 5 → ν' 147 (5 * i + o) = Q2 (Q1 P Q f) m 5 i o) → (∀ i, 0 ≤ i → i < 5 → ν' 151 i = m i ∧ ν' 148 i = pi' i ∧ ν' 149 i = po' i) → (∀ a j, a ≠ 147 → ¬ Sl8 a j → ν' a j = ν a j) → K (mc m P.toNat) ν') : pX8_slot G n K 171 [some (Rv G 127), some (Iv rule), none, none, none, none, some (Iv b), some (Iv 0), none] [] ν := by
  have hPr := q.1
  have q1 := Q1_k q hi hnf
  have last : ∀ (ν0 : zM), ν0 127 30 = P → (∀ i, 0 ≤ i → i < 5 → ν0 151 i = m i ∧ ν0 148 i = pi' i ∧ ν0 149 i = po' i) → (∀ a j, a ≠ 147 → ¬ Sl8 a j → ν0 a j = ν a j) → ∀ (g k : Nat) (ν' : zM), (k : Int) + g = P → (∀ i o, 0 ≤ i → i < 5 → 0 ≤ o → o < 5 → ν' 147 (5 * i + o) = Q2 (Q1 P Q f) m k i o) → (∀ a j, a ≠ 147 → ν' a j = ν0 a j) → pX8_slot G n K 265 [some (Rv G 127), none, none, none, none, none, none, some (Iv (mc m k)), some (Iv k)] [] ν' := by
    intro ν0 h99 hm hfr g
    induction g with
    | zero =>
      intro k ν' ek hq hf'
      have : P.toNat = k := by omega
      refine bX8_slot_265 hn ?_
      rw [hf' _ _ (by omega), h99]
      simp (disch := omega) only [wr_of]
      refine ⟨fun _ => ?_, fun z => by omega⟩
      rw [← this]
      refine hK ν' (fun i o i0 i1 o0 o1 => ?_) (fun i i0 i1 => by rw [hf' _ _ (by omega), hf' _ _ (by omega), hf' _ _ (by omega)]; exact hm i i0 i1) (fun a j w w2 => by rw [hf' _ _ w]; exact hfr a j w w2)
      rw [hq i o i0 i1 o0 o1]
      unfold Q2
      have vi := (v i i0 i1).1
      by_cases c : m i = o
      · by_cases d : i < P
        · rw [if_pos (by omega), if_pos (by omega)]
        · exfalso; omega
      · rw [if_neg (by omega), if_neg (by omega)]
    | succ g ih =>
      intro k ν' ek hq hf'
      have mk := (hm k (by omega) (by omega)).1
      have vk := (v k (by omega) (by omega)).1
      have nx := ih (k + 1)
      have c3 := mc_r m k
      refine bX8_slot_265 hn ?_
      rw [hf' _ _ (by omega), h99]
      simp (disch := omega) only [wr_of]
      rw [hf' 151 k (by omega), mk]
      have vr : -9 ≤ m k ∧ m k < 5 := by omega
      simp (disch := omega) only [wr_of]
      refine ⟨fun z => by omega, fun _ => ⟨by omega, fun z => ?_, fun z => ?_⟩⟩
      · have := nx ν' (by omega) (fun i o i0 i1 o0 o1 => ?_) hf'
        · simp only [mc] at this
          rw [if_pos z, Int.add_zero] at this
          exact this
        · rw [hq i o i0 i1 o0 o1]
          unfold Q2
          by_cases d : i < (k : Int) ∧ m i = o
          · rw [if_pos d, if_pos (by omega)]
          · by_cases d2 : i = k
            · have : m i ≠ o := fun e => by rw [d2, z] at e; omega
              rw [if_neg d, if_neg (fun w => this w.2)]
            · rw [if_neg d, if_neg (by omega)]
      · have wi : wr (5 * (k : Int) + m k) = 5 * k + m k := wr_of (by omega) (by omega)
        try rw [wi]
        refine ⟨by omega, by omega, by omega, fun μ8 e8 => ?_⟩
        have := nx μ8 (by omega) (fun i o i0 i1 o0 o1 => ?_) (fun a j w => by rw [e8, zu_na (by omega)]; exact hf' a j w)
        · simp only [mc] at this
          rw [if_neg z] at this
          exact this
        · rw [e8]; unfold zu
          by_cases c : i = k ∧ o = m k
          · rw [if_pos ⟨rfl, by omega⟩, hq k (m k) (by omega) (by omega) (by omega) (by omega)]
            unfold Q2
            rw [if_neg (by omega), if_pos ⟨by omega, by rw [c.1, c.2]⟩, c.1, c.2]
          · rw [if_neg (by omega), hq i o i0 i1 o0 o1]
            unfold Q2
            by_cases d : i < (k : Int) ∧ m i = o
            · rw [if_pos d, if_pos (by omega)]
            · by_cases d2 : i = k
              · have : m i ≠ o := fun e => c ⟨d2, by rw [← e, d2]⟩
                rw [if_neg d, if_neg (fun w => this w.2)]
              · rw [if_neg d, if_neg (by omega)]
  have first : ∀ (g k : Nat) (ν' : zM), (k : Int) + g = P → (∀ i o, 0 ≤ i → i < 5 → 0 ≤ o → o < 5 → ν' 147 (5 * i + o) = if i < k ∧ f i = o then Q i o + 1 else Q i o) → (∀ i : Int, 0 ≤ i → i < 5 → (i < k ∨ P ≤ i) → ν' 151 i = -9) → (∀ a j, a ≠ 147 → a ≠ 151 → ν' a j = ν a j) → pX8_slot G n K 171 [some (Rv G 127), some (Iv rule), none, none, none, none, some (Iv b), some (Iv k), none] [] ν' := by
    intro g
    induction g with
    | zero =>
      intro k ν' ek hq hm hf'
      refine bX8_slot_171 hn ?_
      rw [hf' _ _ (by omega) (by omega), hP]
      simp (disch := omega) only [wr_of]
      have st : StM P (Q1 P Q f) pi po ν' := by
        refine ⟨by rw [hf' _ _ (by omega) (by omega)]; exact hP, fun i o i0 i1 o0 o1 => ?_, fun i i0 i1 => ⟨hm i i0 i1 (by omega), ?_, ?_⟩⟩
        · rw [hq i o i0 i1 o0 o1]
          unfold Q1
          by_cases c : i < P ∧ f i = o
          · rw [if_pos (by omega), if_pos c]
          · rw [if_neg (by omega), if_neg c]
        · rw [hf' _ _ (by omega) (by omega)]; exact (hp i i0 i1).1
        · rw [hf' _ _ (by omega) (by omega)]; exact (hp i i0 i1).2.1
      have go : ∀ ν'', EnM m pi' po' ν' ν'' → pX8_slot G n K 265 [some (Rv G 127), none, none, none, none, none, none, some (Iv 0), some (Iv 0)] [] ν'' := fun ν'' en => by
        refine last ν'' (by rw [en.2 _ _ (by unfold Sl8; omega), hf' _ _ (by omega) (by omega)]; exact hP) en.1 (fun a j w w2 => by rw [en.2 _ _ w2, hf' _ _ w (fun e => w2 (by unfold Sl8; omega))]) P.toNat 0 ν'' (by omega) (fun i o i0 i1 o0 o1 => ?_) (fun _ _ _ => rfl)
        rw [en.2 _ _ (by unfold Sl8; omega), st.2.1 i o i0 i1 o0 o1]
        unfold Q2
        rw [if_neg (by omega)]
      obtain ⟨c0, c1, c2⟩ := hc _ _ st go
      exact ⟨fun _ => ⟨fun z => ⟨fun z2 => c2 (by omega), fun z2 => c1 z2⟩, fun z => c0 z⟩, fun z => by omega⟩
    | succ g ih =>
      intro k ν' ek hq hm hf'
      have ix := hi k (by omega) (by omega)
      refine bX8_slot_171 hn ?_
      rw [hf' _ _ (by omega) (by omega), hP]
      simp (disch := omega) only [wr_of]
      rw [hf' 139 _ (by omega) (by omega), hf k (by omega) (by omega)]
      simp (disch := omega) only [wr_of]
      refine ⟨fun z => by omega, fun _ => ⟨by omega, fun z => ⟨by omega, fun μ13 e13 => ih (k + 1) μ13 (by omega) (fun i o i0 i1 o0 o1 => ?_) (fun i i0 i1 h => ?_) (fun a j w1 w2 => by rw [e13, zu_na w2]; exact hf' a j w1 w2)⟩, fun z => ⟨by omega, by omega, by omega, fun μ17 e17 => ⟨by omega, fun μ19 e19 => ih (k + 1) μ19 (by omega) (fun i o i0 i1 o0 o1 => ?_) (fun i i0 i1 h => ?_) (fun a j w1 w2 => by rw [e19, zu_na w2, e17, zu_na w1]; exact hf' a j w1 w2)⟩⟩⟩⟩
      · rw [e13, zu_na (by decide), hq i o i0 i1 o0 o1]
        by_cases d : i < (k : Int) ∧ f i = o
        · rw [if_pos d, if_pos (by omega)]
        · by_cases d2 : i = k
          · have : f i ≠ o := fun e => by rw [d2] at e; omega
            rw [if_neg d, if_neg (fun w => this w.2)]
          · rw [if_neg d, if_neg (by omega)]
      · rw [e13]; unfold zu
        by_cases e : i = k
        · rw [if_pos ⟨rfl, e⟩]
        · rw [if_neg (fun w => e w.2)]; exact hm i i0 i1 (by omega)
      · rw [e19, zu_na (by decide), e17]; unfold zu
        by_cases c : i = k ∧ o = f k
        · rw [if_pos ⟨rfl, by omega⟩, hq k (f k) (by omega) (by omega) (by omega) (by omega), if_neg (by omega), if_pos ⟨by omega, by rw [c.1, c.2]⟩, c.1, c.2]
        · rw [if_neg (by omega), hq i o i0 i1 o0 o1]
          by_cases d : i < (k : Int) ∧ f i = o
          · rw [if_pos d, if_pos (by omega)]
          · by_cases d2 : i = k
            · have : f i ≠ o := fun e => c ⟨d2, by rw [← e, d2]⟩
              rw [if_neg d, if_neg (fun w => this w.2)]
            · rw [if_neg d, if_neg (by omega)]
      · rw [e19]; unfold zu
        by_cases e : i = k
        · rw [if_pos ⟨rfl, e⟩]
        · rw [if_neg (fun w => e w.2), e17, zu_na (by decide)]; exact hm i i0 i1 (by omega)
  exact first P.toNat 0 ν (by omega) (fun i o i0 i1 o0 o1 => by rw [if_neg (by omega)]; exact hQ i o i0 i1 o0 o1) (fun i i0 i1 h => (hp i i0 i1).2.2 (by omega)) (fun _ _ _ _ => rfl)
end T64
