section T63
variable {G : zG} {n : Nat} {μ ν κ : zM}
/-- queues as a slot finds them -/
def Qk (P : Int) (Q : Int → Int → Int) : Prop := (1 ≤ P ∧ P ≤ 5) ∧ ∀ i o, 0 ≤ i → i < 5 → 0 ≤ o → o < 5 → 0 ≤ Q i o ∧ Q i o ≤ 1000 ∧ (¬ (i < P ∧ o < P) → Q i o = 0)
def StC (P : Int) (Q : Int → Int → Int) (pi po : Int → Int) (ν : zM) : Prop := ν 99 0 = P ∧ (∀ i o, 0 ≤ i → i < 5 → 0 ≤ o → o < 5 → ν (101 + i) o = Q i o) ∧ (∀ i, 0 ≤ i → i < 5 → ν 106 i = -9 ∧ ν 107 i = -9 ∧ ν 108 i = pi i ∧ ν 109 i = po i)
def EnC (m pi po : Int → Int) (ν ν' : zM) : Prop := (∀ i, 0 ≤ i → i < 5 → ν' 106 i = m i ∧ ν' 108 i = pi i ∧ ν' 109 i = po i) ∧ (∀ a j, ¬ (106 ≤ a ∧ a ≤ 117) → ν' a j = ν a j)
def StM (P : Int) (Q : Int → Int → Int) (pi po : Int → Int) (ν : zM) : Prop := ν 127 30 = P ∧ (∀ i o, 0 ≤ i → i < 5 → 0 ≤ o → o < 5 → ν 147 (5 * i + o) = Q i o) ∧ (∀ i, 0 ≤ i → i < 5 → ν 151 i = -9 ∧ ν 148 i = pi i ∧ ν 149 i = po i)
def Sl8 (a j : Int) : Prop := (a = 127 ∧ j = 38) ∨ a = 148 ∨ a = 149 ∨ a = 150 ∨ a = 151 ∨ a = 153
def EnM (m pi po : Int → Int) (ν ν' : zM) : Prop := (∀ i, 0 ≤ i → i < 5 → ν' 151 i = m i ∧ ν' 148 i = pi i ∧ ν' 149 i = po i) ∧ (∀ a j, ¬ Sl8 a j → ν' a j = ν a j)
def Vd (P : Int) (Q : Int → Int → Int) (m pi po : Int → Int) : Prop := ∀ i, 0 ≤ i → i < 5 → (m i = -9 ∨ (0 ≤ m i ∧ m i < P ∧ i < P ∧ 0 < Q i (m i))) ∧ (0 ≤ pi i ∧ pi i < P) ∧ (0 ≤ po i ∧ po i < P)
/-- class and model match alike by a rule -/
def Rule (G : zG) (n : Nat) (rule : Int) : Prop := ∀ (P : Int) (Q : Int → Int → Int) (pi po : Int → Int), Qk P Q → (∀ i, 0 ≤ i → i < 5 → (0 ≤ pi i ∧ pi i < P) ∧ (0 ≤ po i ∧ po i < P)) → ∃ m pi' po', Vd P Q m pi' po' ∧
  (∀ (ν : zM) (K : zM → Prop), StC P Q pi po ν → (∀ ν', EnC m pi' po' ν ν' → K ν') → (rule = 0 → mX4_matchBySum G n ν K) ∧ (rule = 1 → mX4_matchByTurns G n ν K) ∧ (rule = 2 → mX4_matchCrosswise G n ν K)) ∧
  (∀ (ν : zM) (K : zM → Prop), StM P Q pi po ν → (∀ ν', EnM m pi' po' ν ν' → K ν') → (rule = 0 → mX8_matchGreatest G n ν K) ∧ (rule = 1 → mX8_matchByTurns G n ν K) ∧ (rule = 2 → mX8_matchCrosswise G n ν K))
/-- what comes is as it should be; no queue is full -/
def In4 (P : Int) (f : Int → Int) : Prop := ∀ x, 0 ≤ x → x < P → -1 ≤ f x ∧ f x ≤ P - 1
def Nf4 (P : Int) (Q : Int → Int → Int) (f : Int → Int) : Prop := ∀ x, 0 ≤ x → x < P → 0 ≤ f x → Q x (f x) < 1000
theorem c4_refusal (hn : 154 ≤ n) {P : Int} {Q : Int → Int → Int} (q : Qk P Q) (hP : ν 99 0 = P) (hQ : ∀ i o, 0 ≤ i → i < 5 → 0 ≤ o → o < 5 → ν (101 + i) o = Q i o) {f : Int → Int} (hf : ∀ x, 0 ≤ x → x < P → ν 126 x = f x ∧ R32 (f x)) {K : Int → zM → Prop}
    (k2 : ¬ In4 P f → K (-2) ν) (k4 : In4 P f → ¬ Nf4 P Q f → K (-4) ν) (k0 : In4 P f → Nf4 P Q f → K 0 ν) : mX4_refusalOf G n 126 ν K := by
  have zz : zk 126 = 0 ∧ (zn 126 : Int) = 8 := by decide
  have hp := q.1
  have ib : ∀ x : Int, 0 ≤ x → x < 8 → (0 ≤ (126 : Int) ∧ (126 : Int) < n ∧ zk 126 = 0) ∧ 0 ≤ x ∧ x < 8 := fun x a b => ⟨⟨by decide, by omega, zz.1⟩, a, b⟩
  have l2 : In4 P f → ∀ (g : Nat) (x : Int), 0 ≤ x → x + g = P → (∀ y, 0 ≤ y → y < x → 0 ≤ f y → Q y (f y) < 1000) → pX4_refusalOf G n K 37 [some (Rv G 99), some (Rv G 126), some (Iv x)] [] ν := by
    intro hin g
    induction g with
    | zero =>
      intro x x0 ex hy
      refine bX4_refusalOf_37 (by omega) ?_
      rw [hP]
      simp (disch := omega) only [wr_of]
      exact ⟨fun _ => k0 hin (fun y a b => hy y a (by omega)), fun z => by omega⟩
    | succ g ih =>
      intro x x0 ex hy
      have fx := hf x x0 (by omega)
      have ix := hin x x0 (by omega)
      refine bX4_refusalOf_37 (by omega) ?_
      unfold zin
      rw [hP, zz.2, show (100 : Int) + 1 = 101 from rfl]
      simp (disch := omega) only [wr_of]
      rw [fx.1]
      try simp (disch := omega) only [wr_of]
      refine ⟨fun z => by omega, fun _ => ⟨ib x x0 (by omega), fun z => ih (x + 1) (by omega) (by omega) (fun y a b c => ?_), fun z => ⟨by omega, ib x x0 (by omega), by omega, ?_⟩⟩⟩
      · by_cases e : y = x
        · subst e; omega
        · exact hy y a (by omega) c
      · have qq := q.2 x (f x) x0 (by omega) (by omega) (by omega)
        rw [hQ x (f x) x0 (by omega) (by omega) (by omega)]
        simp (disch := omega) only [wr_of]
        refine ⟨fun z2 => ih (x + 1) (by omega) (by omega) (fun y a b c => ?_), fun z2 => k4 hin (fun w => z2 (w x x0 (by omega) (by omega)))⟩
        by_cases e : y = x
        · subst e; exact z2
        · exact hy y a (by omega) c
  have l1 : ∀ (g : Nat) (x : Int), 0 ≤ x → x + g = P → (∀ y, 0 ≤ y → y < x → -1 ≤ f y ∧ f y ≤ P - 1) → pX4_refusalOf G n K 2 [some (Rv G 99), some (Rv G 126), some (Iv x)] [] ν := by
    intro g
    induction g with
    | zero =>
      intro x x0 ex hy
      refine bX4_refusalOf_2 (by omega) ?_
      rw [hP]
      simp (disch := omega) only [wr_of]
      exact ⟨fun _ => l2 (fun y a b => hy y a (by omega)) P.toNat 0 (by decide) (by omega) (fun y a b => by omega), fun z => by omega⟩
    | succ g ih =>
      intro x x0 ex hy
      have fx := hf x x0 (by omega)
      have fx2 := fx.2
      obtain ⟨fa, fb⟩ := fx2
      refine bX4_refusalOf_2 (by omega) ?_
      unfold zin
      rw [hP, zz.2]
      simp (disch := omega) only [wr_of]
      rw [fx.1]
      refine ⟨fun z => by omega, fun _ => ⟨ib x x0 (by omega), c_within hn ?_⟩⟩
      simp (disch := omega) only [wr_of, ite_b0, Classical.not_not]
      refine ⟨fun z => ih (x + 1) (by omega) (by omega) (fun y a b => ?_), fun z => k2 (fun w => z (w x x0 (by omega)))⟩
      by_cases e : y = x
      · subst e; exact z
      · exact hy y a (by omega)
  exact eX4_refusalOf (by omega) (l1 P.toNat 0 (by decide) (by omega) (fun y a b => by omega))
/-- the queues with what comes -/
def Q1 (P : Int) (Q : Int → Int → Int) (f : Int → Int) : Int → Int → Int := fun i o => if i < P ∧ f i = o then Q i o + 1 else Q i o
theorem Q1_k {P : Int} {Q : Int → Int → Int} {f : Int → Int} (q : Qk P Q) (hi : In4 P f) (hn : Nf4 P Q f) : Qk P (Q1 P Q f) := by
  refine ⟨q.1, fun i o i0 i1 o0 o1 => ?_⟩
  have qq := q.2 i o i0 i1 o0 o1
  unfold Q1
  split
  · rename_i c
    have a := hi i i0 c.1
    have b := hn i i0 c.1 (by omega)
    rw [c.2] at b
    refine ⟨by omega, by omega, fun w => ?_⟩
    omega
  · exact qq
/-- how many are matched -/
def mc (m : Int → Int) : Nat → Int
  | 0 => 0
  | k + 1 => mc m k + (if m k = -9 then 0 else 1)
theorem mc_r (m : Int → Int) : ∀ k : Nat, 0 ≤ mc m k ∧ mc m k ≤ k
  | 0 => ⟨Int.le_refl 0, Int.le_refl 0⟩
  | k + 1 => by have := mc_r m k; simp only [mc]; split <;> omega
/-- the queues behind a slot -/
def Q2 (Q : Int → Int → Int) (m : Int → Int) (k : Int) : Int → Int → Int := fun i o => if i < k ∧ m i = o then Q i o - 1 else Q i o
theorem c4_serve (hn : 154 ≤ n) {rule P : Int} {Q : Int → Int → Int} {pi po m pi' po' : Int → Int} (hr : 0 ≤ rule ∧ rule ≤ 2) (q : Qk P Q) {f : Int → Int} (hi : In4 P f) (hnf : Nf4 P Q f) (v : Vd P (Q1 P Q f) m pi' po')
    (hc : ∀ (ν : zM) (K : zM → Prop), StC P (Q1 P Q f) pi po ν → (∀ ν', EnC m pi' po' ν ν' → K ν') → (rule = 0 → mX4_matchBySum G n ν K) ∧ (rule = 1 → mX4_matchByTurns G n ν K) ∧ (rule = 2 → mX4_matchCrosswise G n ν K))
    (hP : ν 99 0 = P) (hQ : ∀ i o, 0 ≤ i → i < 5 → 0 ≤ o → o < 5 → ν (101 + i) o = Q i o) (hp : ∀ i, 0 ≤ i → i < 5 → ν 108 i = pi i ∧ ν 109 i = po i) (hf : ∀ x, 0 ≤ x → x < P → ν 126 x = f x) {K : Int → zM → Prop}
    (hK : ∀ ν' : zM, (∀ i o, 0 ≤ i → i < 5 → 0 ≤ o → o < 5 → ν' (101 + i) o = Q2 (Q1 P Q f) m 5 i o) → (∀ i, 0 ≤ i → i < 5 → ν' 106 i = m i ∧ ν' 108 i = pi' i ∧ ν' 109 i = po' i) → (∀ a j, ¬ (101 ≤ a ∧ a ≤ 117) → ν' a j = ν a j) → K (mc m P.toNat) ν') : mX4_serve G n rule 126 ν K := by
  have zz : zk 126 = 0 ∧ (zn 126 : Int) = 8 := by decide
  have hPr := q.1
  have q1 := Q1_k q hi hnf
  have ib : ∀ x : Int, 0 ≤ x → x < 8 → (0 ≤ (126 : Int) ∧ (126 : Int) < n ∧ zk 126 = 0) ∧ 0 ≤ x ∧ x < 8 := fun x a b => ⟨⟨by decide, by omega, zz.1⟩, a, b⟩
  -- the last loop: one of each that is matched goes
  have last : ∀ (ν0 : zM), ν0 99 0 = P → (∀ i, 0 ≤ i → i < 5 → ν0 106 i = m i ∧ ν0 108 i = pi' i ∧ ν0 109 i = po' i) → (∀ a j, ¬ (101 ≤ a ∧ a ≤ 117) → ν0 a j = ν a j) → ∀ (g k : Nat) (ν' : zM), (k : Int) + g = P → (∀ i o, 0 ≤ i → i < 5 → 0 ≤ o → o < 5 → ν' (101 + i) o = Q2 (Q1 P Q f) m k i o) → (∀ a j, ¬ (101 ≤ a ∧ a ≤ 105) → ν' a j = ν0 a j) → pX4_serve G n K 91 [some (Rv G 99), none, none, some (Iv (mc m k)), some (Iv k)] [] ν' := by
    intro ν0 h99 hm hfr g
    induction g with
    | zero =>
      intro k ν' ek hq hf'
      have : P.toNat = k := by omega
      refine bX4_serve_91 (by omega) ?_
      rw [hf' _ _ (by omega), h99]
      simp (disch := omega) only [wr_of]
      refine ⟨fun _ => ?_, fun z => by omega⟩
      rw [← this]
      refine hK ν' (fun i o i0 i1 o0 o1 => ?_) (fun i i0 i1 => by rw [hf' _ _ (by omega), hf' _ _ (by omega), hf' _ _ (by omega)]; exact hm i i0 i1) (fun a j w => by rw [hf' _ _ (by omega)]; exact hfr a j w)
      rw [hq i o i0 i1 o0 o1]
      unfold Q2
      have vi := (v i i0 i1).1
      by_cases c : m i = o
      · by_cases d : i < P
        · rw [if_pos (by omega), if_pos (by omega)]
        · exfalso; omega
      · rw [if_neg (by omega), if_neg (by omega)]
    | succ g ih =>
      intro k ν' ek hq hf'
      have mk := (hm k (by omega) (by omega)).1
      have vk := (v k (by omega) (by omega)).1
      have nx := ih (k + 1)
      have c3 := mc_r m k
      refine bX4_serve_91 (by omega) ?_
      rw [hf' _ _ (by omega), h99, show (100 : Int) + 1 = 101 from rfl]
      simp (disch := omega) only [wr_of]
      rw [hf' 106 k (by omega), mk]
      have vr : -9 ≤ m k ∧ m k < 5 := by omega
      simp (disch := omega) only [wr_of]
      refine ⟨fun z => by omega, fun _ => ⟨by omega, fun z => ⟨by omega, by omega, by omega, by omega, fun μ8 e8 => ?_⟩, fun z => ?_⟩⟩
      · have := nx μ8 (by omega) (fun i o i0 i1 o0 o1 => ?_) (fun a j w => by rw [e8, zu_na (by omega)]; exact hf' a j w)
        · simp only [mc] at this
          rw [if_neg z] at this
          exact this
        · rw [e8]; unfold zu
          by_cases c : i = k ∧ o = m k
          · rw [if_pos ⟨by omega, c.2⟩, hq k (m k) (by omega) (by omega) (by omega) (by omega)]
            unfold Q2
            rw [if_neg (by omega), if_pos ⟨by omega, by rw [c.1, c.2]⟩, c.1, c.2]
          · rw [if_neg (by omega), hq i o i0 i1 o0 o1]
            unfold Q2
            by_cases d : i < (k : Int) ∧ m i = o
            · rw [if_pos d, if_pos (by omega)]
            · by_cases d2 : i = k
              · have : m i ≠ o := fun e => c ⟨d2, by rw [← e, d2]⟩
                rw [if_neg d, if_neg (fun w => this w.2)]
              · rw [if_neg d, if_neg (by omega)]
      · have := nx ν' (by omega) (fun i o i0 i1 o0 o1 => ?_) hf'
        · simp only [mc] at this
          rw [if_pos z, Int.add_zero] at this
          exact this
        · rw [hq i o i0 i1 o0 o1]
          unfold Q2
          by_cases d : i < (k : Int) ∧ m i = o
          · rw [if_pos d, if_pos (by omega)]
          · by_cases d2 : i = k
            · have : m i ≠ o := fun e => by rw [d2, z] at e; omega
              rw [if_neg d, if_neg (fun w => this w.2)]
            · rw [if_neg d, if_neg (by omega)]
  -- the first loop: what comes is put behind
  have first : ∀ (g k : Nat) (ν' : zM), (k : Int) + g = P → (∀ i o, 0 ≤ i → i < 5 → 0 ≤ o → o < 5 → ν' (101 + i) o = if i < k ∧ f i = o then Q i o + 1 else Q i o) → (∀ a j, ¬ (101 ≤ a ∧ a ≤ 105) → ν' a j = ν a j) → pX4_serve G n K 2 [some (Rv G 99), some (Iv rule), some (Rv G 126), some (Iv k), none] [] ν' := by
    intro g
    induction g with
    | zero =>
      intro k ν' ek hq hf'
      refine bX4_serve_2 (by omega) ?_
      rw [hf' _ _ (by omega), hP]
      simp (disch := omega) only [wr_of]
      refine ⟨fun _ => eX4_matchNone (by omega) (c_fill ⟨by decide, by omega, by decide⟩ (c_fill ⟨by decide, by omega, by decide⟩ ?_)), fun z => by omega⟩
      have z1 : (zn 106 : Int) = 5 ∧ (zn 107 : Int) = 5 := by decide
      rw [z1.1, z1.2]
      have ff : ∀ a j, a ≠ 106 → a ≠ 107 → zfill (zfill ν' 106 5 (-9)) 107 5 (-9) a j = ν' a j := fun a j w1 w2 => by unfold zfill; rw [if_neg (fun w => w2 w.1), if_neg (fun w => w1 w.1)]
      have st : StC P (Q1 P Q f) pi po (zfill (zfill ν' 106 5 (-9)) 107 5 (-9)) := by
        refine ⟨by rw [ff _ _ (by decide) (by decide), hf' _ _ (by omega)]; exact hP, fun i o i0 i1 o0 o1 => ?_, fun i i0 i1 => ⟨?_, ?_, ?_, ?_⟩⟩
        · rw [ff _ _ (by omega) (by omega), hq i o i0 i1 o0 o1]
          unfold Q1
          by_cases c : i < P ∧ f i = o
          · rw [if_pos (by omega), if_pos c]
          · rw [if_neg (by omega), if_neg c]
        · unfold zfill; rw [if_neg (by omega), if_pos ⟨rfl, i0, i1⟩]
        · unfold zfill; rw [if_pos ⟨rfl, i0, i1⟩]
        · rw [ff _ _ (by decide) (by decide), hf' _ _ (by omega)]; exact (hp i i0 i1).1
        · rw [ff _ _ (by decide) (by decide), hf' _ _ (by omega)]; exact (hp i i0 i1).2
      have go : ∀ ν'', EnC m pi' po' (zfill (zfill ν' 106 5 (-9)) 107 5 (-9)) ν'' → pX4_serve G n K 91 [some (Rv G 99), none, none, some (Iv 0), some (Iv 0)] [] ν'' := fun ν'' en => by
        refine last ν'' (by rw [en.2 _ _ (by omega), ff _ _ (by decide) (by decide), hf' _ _ (by omega)]; exact hP) en.1 (fun a j w => by rw [en.2 _ _ (by omega), ff _ _ (by omega) (by omega), hf' _ _ (by omega)]) P.toNat 0 ν'' (by omega) (fun i o i0 i1 o0 o1 => ?_) (fun _ _ _ => rfl)
        rw [en.2 _ _ (by omega), st.2.1 i o i0 i1 o0 o1]
        unfold Q2
        rw [if_neg (by omega)]
      obtain ⟨c0, c1, c2⟩ := hc _ _ st go
      exact ⟨fun z => c0 z, fun z => c1 z, fun z => c2 (by omega)⟩
    | succ g ih =>
      intro k ν' ek hq hf'
      have ix := hi k (by omega) (by omega)
      refine bX4_serve_2 (by omega) ?_
      unfold zin
      rw [hf' _ _ (by omega), hP, zz.2, show (100 : Int) + 1 = 101 from rfl]
      simp (disch := omega) only [wr_of]
      rw [hf' 126 k (by omega), hf k (by omega) (by omega)]
      simp (disch := omega) only [wr_of]
      refine ⟨fun z => by omega, fun _ => ⟨ib k (by omega) (by omega), fun z => ih (k + 1) ν' (by omega) (fun i o i0 i1 o0 o1 => ?_) hf', fun z => ⟨by omega, ib k (by omega) (by omega), by omega, by omega, fun μ17 e17 => ih (k + 1) μ17 (by omega) (fun i o i0 i1 o0 o1 => ?_) (fun a j w => by rw [e17, zu_na (by omega)]; exact hf' a j w)⟩⟩⟩
      · rw [hq i o i0 i1 o0 o1]
        by_cases d : i < (k : Int) ∧ f i = o
        · rw [if_pos d, if_pos (by omega)]
        · by_cases d2 : i = k
          · have : f i ≠ o := fun e => by rw [d2] at e; omega
            rw [if_neg d, if_neg (fun w => this w.2)]
          · rw [if_neg d, if_neg (by omega)]
      · rw [e17]; unfold zu
        by_cases c : i = k ∧ o = f k
        · rw [if_pos ⟨by omega, c.2⟩, hq k (f k) (by omega) (by omega) (by omega) (by omega), if_neg (by omega), if_pos ⟨by omega, by rw [c.1, c.2]⟩, c.1, c.2]
        · rw [if_neg (by omega), hq i o i0 i1 o0 o1]
          by_cases d : i < (k : Int) ∧ f i = o
          · rw [if_pos d, if_pos (by omega)]
          · by_cases d2 : i = k
            · have : f i ≠ o := fun e => c ⟨d2, by rw [← e, d2]⟩
              rw [if_neg d, if_neg (fun w => this w.2)]
            · rw [if_neg d, if_neg (by omega)]
  exact eX4_serve (by omega) (first P.toNat 0 ν (by omega) (fun i o i0 i1 o0 o1 => by rw [if_neg (by omega)]; exact hQ i o i0 i1 o0 o1) (fun _ _ _ => rfl))
end T63
