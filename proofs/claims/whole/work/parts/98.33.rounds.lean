section T90
variable {G : zG} {n : Nat} {μ ν κ : zM}
/-- a length is reached by one of the lines seen -/
def Lat (P : Nat) (T : Int → Int → Int) (c : Int → Int) (i o L : Int) : Prop := L = spn T P ∨ (∃ x : Int, 0 ≤ x ∧ x < i ∧ c x < P ∧ L = T x (c x)) ∨ (∃ x : Int, 0 ≤ x ∧ x < i ∧ ¬ c x < P ∧ L = spn T P - rs T P x) ∨ (∃ x : Int, 0 ≤ x ∧ x < o ∧ us c x P = false ∧ L = spn T P - cs T P x)
theorem Lat_m {P : Nat} {T : Int → Int → Int} {c : Int → Int} {i o L i' o' : Int} (h : Lat P T c i o L) (hi : i ≤ i') (ho : o ≤ o') : Lat P T c i' o' L := by
  rcases h with h | ⟨x, a, b, q⟩ | ⟨x, a, b, q⟩ | ⟨x, a, b, q⟩
  · exact Or.inl h
  · exact Or.inr (Or.inl ⟨x, a, by omega, q⟩)
  · exact Or.inr (Or.inr (Or.inl ⟨x, a, by omega, q⟩))
  · exact Or.inr (Or.inr (Or.inr ⟨x, a, by omega, q⟩))
theorem min_c {a b v : Int} (e : v = min a b) : (v = a ∧ a ≤ b) ∨ (v = b ∧ b ≤ a) := by
  rw [e, Int.min_def]; split <;> omega
theorem c3_rounds (hn : 154 ≤ n) {P : Nat} {T : Int → Int → Int} (hP1 : 1 ≤ P) (hP5 : P ≤ 5) (hP : κ 45 0 = P) (hT : Tb T) (hm : ∀ i o : Int, 0 ≤ i → i < P → 0 ≤ o → o < P → κ (53 + i) o = T i o) (h58 : ∀ i : Int, 0 ≤ i → i < P → κ 58 i = rs T P i ∧ κ 59 i = cs T P i) (h3 : κ 45 3 = spn T P) {x : Int} (hx : 61 ≤ x ∧ x ≤ 96) {c : Int → Int} (rc : Rok P T c) (hr : ∀ i : Int, 0 ≤ i → i < P → κ x i = mr P c i) {K : Int → zM → Prop} (hK : ∀ L : Int, Ln P T c L → K L κ) : mX3_roundsOf G n x κ K := by
  have zx := zk61 hx
  have ss : 0 ≤ spn T P ∧ spn T P ≤ 250 := hT.s (m := P) (P := P) hP5 hP5
  have z5 : zshl 1 5 = 32 := by decide +kernel
  have second : ∀ m : Int, 0 ≤ m → m < 32 → (∀ o : Int, 0 ≤ o → o < P → Um m o = us c o P) → ∀ (g : Nat) (o L : Int), 0 ≤ o → o + g = P → 0 ≤ L → L ≤ spn T P → (∀ y : Int, 0 ≤ y → y < P → (c y < P → L ≤ T y (c y)) ∧ (¬ c y < P → L ≤ spn T P - rs T P y)) → (∀ y : Int, 0 ≤ y → y < o → us c y P = false → L ≤ spn T P - cs T P y) → Lat P T c P o L → pX3_roundsOf G n K 95 [some (Rv G 45), none, some (Iv L), some (Iv m), some (Iv o), none] [] κ := by
    intro m m0 m1 hu g
    induction g with
    | zero =>
      intro o L o0 eo L0 L1 h1 h2 hl
      have : o = P := by omega
      subst this
      refine bX3_roundsOf_95 (by omega) ?_
      rw [hP]
      simp (disch := omega) only [wr_of]
      exact ⟨fun _ => hK L ⟨⟨L1, h1, h2⟩, hl⟩, fun z => by omega⟩
    | succ g ih =>
      intro o L o0 eo L0 L1 h1 h2 hl
      have cr := (hT.r (m := P) hP5 (i := o) o0 (by omega)).2
      have cl := (spn_le (T := T) (P := P) (j := o) o0 (by omega)).2
      refine bX3_roundsOf_95 (by omega) ?_
      rw [hP, h3]
      simp (disch := omega) only [wr_of]
      rw [(h58 o o0 (by omega)).2]
      simp (disch := omega) only [wr_of]
      refine ⟨fun z => by omega, fun _ => ⟨fun z => ih (o + 1) L (by omega) (by omega) L0 L1 h1 (fun y y0 y1 q => ?_) (Lat_m hl (Int.le_refl _) (by omega)), fun z => ⟨by omega, fun v4 e4 => ?_⟩⟩⟩
      · by_cases e : y = o
        · have : Um m o = true := decide_eq_true z
          rw [hu o o0 (by omega), ← e, q] at this
          exact absurd this (by decide)
        · exact h2 y y0 (by omega) q
      · have uo : us c o P = false := by rw [← hu o o0 (by omega)]; exact decide_eq_false (fun w => w z)
        have mc := min_c e4
        clear e4
        refine ih (o + 1) v4 (by omega) (by omega) (by omega) (by omega) (fun y y0 y1 => ⟨fun q => ?_, fun q => ?_⟩) (fun y y0 y1 q => ?_) ?_
        · have := (h1 y y0 y1).1 q; omega
        · have := (h1 y y0 y1).2 q; omega
        · by_cases e : y = o
          · rw [e]; omega
          · have := h2 y y0 (by omega) q; omega
        · rcases mc with w | w
          · rw [w.1]; exact Lat_m hl (Int.le_refl _) (by omega)
          · exact Or.inr (Or.inr (Or.inr ⟨o, o0, by omega, uo, w.1⟩))
  have first : ∀ (g k : Nat) (m L : Int), k + g = P → 0 ≤ m → m < 32 → (∀ o : Int, 0 ≤ o → o < P → Um m o = us c o k) → 0 ≤ L → L ≤ spn T P → (∀ y : Int, 0 ≤ y → y < k → (c y < P → L ≤ T y (c y)) ∧ (¬ c y < P → L ≤ spn T P - rs T P y)) → Lat P T c k 0 L → pX3_roundsOf G n K 10 [some (Rv G 45), some (Rv G x), some (Iv L), some (Iv m), some (Iv k), none] [] κ := by
    intro g
    induction g with
    | zero =>
      intro k m L ek m0 m1 hu L0 L1 h1 hl
      have : k = P := by omega
      subst this
      refine bX3_roundsOf_10 (by omega) ?_
      rw [hP]
      simp (disch := omega) only [wr_of]
      exact ⟨fun _ => second m m0 m1 hu k 0 L (by decide) (by omega) L0 L1 h1 (fun y a b => by omega) hl, fun z => by omega⟩
    | succ g ih =>
      intro k m L ek m0 m1 hu L0 L1 h1 hl
      have ck := rc k (by omega) (by omega)
      have rk := (hT.r (m := P) hP5 (i := k) (by omega) (by omega)).1
      have rl := (spn_le (T := T) (P := P) (j := k) (by omega) (by omega)).1
      have hrk := hr k (by omega) (by omega)
      refine bX3_roundsOf_10 (by omega) ?_
      unfold zin
      rw [hP, h3, zx.2]
      simp (disch := omega) only [wr_of]
      rw [(h58 k (by omega) (by omega)).1, show (52 : Int) + 1 = 53 from rfl]
      have nx : ∀ (m' v : Int), (v = L ∧ L ≤ (if c k < P then T k (c k) else spn T P - rs T P k)) ∨ (v = (if c k < P then T k (c k) else spn T P - rs T P k) ∧ (if c k < P then T k (c k) else spn T P - rs T P k) ≤ L) → 0 ≤ m' → m' < 32 → (∀ o : Int, 0 ≤ o → o < P → Um m' o = us c o (k + 1)) → pX3_roundsOf G n K 10 [some (Rv G 45), some (Rv G x), some (Iv v), some (Iv m'), some (Iv ((k : Int) + 1)), none] [] κ := by
        intro m' v mc m0' m1' hu'
        by_cases q : c k < P
        · rw [if_pos q] at mc
          have tk := ck.2.2 q
          refine ih (k + 1) m' v (by omega) m0' m1' hu' (by omega) (by omega) (fun y y0 y1 => ?_) ?_
          · by_cases e : y = k
            · rw [e]; exact ⟨fun _ => by omega, fun w => absurd q w⟩
            · have := h1 y y0 (by omega)
              exact ⟨fun w => by have := this.1 w; omega, fun w => by have := this.2 w; omega⟩
          · rcases mc with w | w
            · rw [w.1]; exact Lat_m hl (by omega) (Int.le_refl _)
            · exact Or.inr (Or.inl ⟨k, by omega, by omega, q, w.1⟩)
        · rw [if_neg q] at mc
          refine ih (k + 1) m' v (by omega) m0' m1' hu' (by omega) (by omega) (fun y y0 y1 => ?_) ?_
          · by_cases e : y = k
            · rw [e]; exact ⟨fun w => absurd w q, fun _ => by omega⟩
            · have := h1 y y0 (by omega)
              exact ⟨fun w => by have := this.1 w; omega, fun w => by have := this.2 w; omega⟩
          · rcases mc with w | w
            · rw [w.1]; exact Lat_m hl (by omega) (Int.le_refl _)
            · exact Or.inr (Or.inr (Or.inl ⟨k, by omega, by omega, q, w.1⟩))
      by_cases q : c k < P
      · have tb := hT k (c k) (by omega) (by omega) ck.1 (by omega)
        have e9 : κ x k = c k := by rw [hrk]; unfold mr; rw [if_pos ⟨by omega, q⟩]
        rw [if_pos q] at nx
        rw [e9]
        simp (disch := omega) only [wr_of]
        rw [hm k (c k) (by omega) (by omega) ck.1 q]
        simp (disch := omega) only [wr_of]
        refine ⟨fun z => by omega, fun _ => ⟨⟨⟨by omega, by omega, zx.1⟩, by omega⟩, fun z => by omega, fun _ => ⟨fun z => absurd z (by decide), fun _ => ⟨by omega, ⟨⟨by omega, by omega, zx.1⟩, by omega⟩, by omega, fun v26 e26 => ⟨fun z => absurd z (by decide), fun _ => ⟨⟨⟨by omega, by omega, zx.1⟩, by omega⟩, fun v29 e29 => ?_⟩⟩⟩⟩⟩⟩
        have orr := or_r (P := 5) (m := m) (o := c k) (by decide) (by decide) m0 (by omega) ck.1 (by omega)
        rw [← e29, z5] at orr
        refine nx v29 v26 (min_c e26) orr.1 orr.2 (fun o o0 o1 => ?_)
        rw [e29, um_or m0 m1 ck.1 (by omega) o0 (by omega)]
        unfold upU
        simp only [us]
        rw [hu o o0 o1]
        by_cases w : o = c k
        · rw [if_pos w, decide_eq_true w.symm, Bool.or_true]
        · rw [if_neg w, decide_eq_false (fun u => w u.symm), Bool.or_false]
      · have e9 : κ x k = -9 := by rw [hrk]; unfold mr; rw [if_neg (by omega)]
        rw [if_neg q] at nx
        rw [e9]
        simp (disch := omega) only [wr_of]
        refine ⟨fun z => by omega, fun _ => ⟨⟨⟨by omega, by omega, zx.1⟩, by omega⟩, fun _ => ⟨fun _ => ⟨by omega, fun v6 e6 => ⟨fun _ => ?_, fun z => by first | exact absurd rfl z | exact absurd trivial z⟩⟩, fun z => by first | exact absurd rfl z | exact absurd trivial z⟩, fun z => by first | exact absurd rfl z | exact absurd trivial z⟩⟩
        refine nx m v6 (min_c e6) m0 m1 (fun o o0 o1 => ?_)
        rw [hu o o0 o1]
        simp only [us]
        rw [decide_eq_false (by omega), Bool.or_false]
  refine eX3_roundsOf (by omega) (fun v1 e1 => ?_)
  rw [e1, h3]
  exact first P 0 0 (spn T P) (by omega) (by decide) (by decide) (fun o o0 o1 => um_0 o0 (by omega)) ss.1 (Int.le_refl _) (fun y a b => by omega) (Or.inl rfl)
theorem c3_takeOff (hn : 154 ≤ n) {P : Nat} {T : Int → Int → Int} (hP5 : P ≤ 5) (hP : κ 45 0 = P) (hm : ∀ i o : Int, 0 ≤ i → i < P → 0 ≤ o → o < P → κ (53 + i) o = T i o) {x : Int} (hx : 61 ≤ x ∧ x ≤ 96) {c : Int → Int} (rc : Rok P T c) (hr : ∀ i : Int, 0 ≤ i → i < P → κ x i = mr P c i) {L : Int} {K : zM → Prop} (hK : ∀ κ' : zM, (∀ i o : Int, 0 ≤ i → i < P → 0 ≤ o → o < P → κ' (53 + i) o = lsm P T c L i o) → (∀ a j, ¬ (53 ≤ a ∧ a ≤ 57) → κ' a j = κ a j) → K κ') : mX3_takeOff G n x L κ K := by
  have zx := zk61 hx
  have loop : ∀ (g : Nat) (k : Int) (κ1 : zM), 0 ≤ k → k + g = P → (∀ i o : Int, 0 ≤ i → i < P → 0 ≤ o → o < P → κ1 (53 + i) o = if i < k then lsm P T c L i o else T i o) → (∀ a j, ¬ (53 ≤ a ∧ a ≤ 57) → κ1 a j = κ a j) → pX3_takeOff G n K 2 [some (Rv G 45), some (Rv G x), some (Iv L), some (Iv k)] [] κ1 := by
    intro g
    induction g with
    | zero =>
      intro k κ1 k0 ek h1 hf
      refine bX3_takeOff_2 (by omega) ?_
      rw [hf 45 0 (by omega), hP]
      simp (disch := omega) only [wr_of]
      exact ⟨fun _ => hK κ1 (fun i o i0 i1 o0 o1 => by rw [h1 i o i0 i1 o0 o1, if_pos (by omega)]) hf, fun z => by omega⟩
    | succ g ih =>
      intro k κ1 k0 ek h1 hf
      have ck := rc k k0 (by omega)
      have hrk := hr k k0 (by omega)
      refine bX3_takeOff_2 (by omega) ?_
      unfold zin
      rw [hf 45 0 (by omega), hP, zx.2, show (52 : Int) + 1 = 53 from rfl]
      simp (disch := omega) only [wr_of]
      rw [hf x k (by omega)]
      by_cases q : c k < P
      · have e9 : κ x k = c k := by rw [hrk]; unfold mr; rw [if_pos ⟨by omega, q⟩]
        rw [e9]
        simp (disch := omega) only [wr_of]
        refine ⟨fun z => by omega, fun _ => ⟨⟨⟨by omega, by omega, zx.1⟩, by omega⟩, fun z => by omega, fun _ => ⟨by omega, ⟨⟨by omega, by omega, zx.1⟩, by omega⟩, by omega, by omega, fun μ8 e8 => ih (k + 1) μ8 (by omega) (by omega) (fun i o i0 i1 o0 o1 => ?_) (fun a j w => by rw [e8, zu_na (by omega)]; exact hf a j w)⟩⟩⟩
        rw [e8]; unfold zu
        by_cases w : i = k ∧ o = c k
        · rw [if_pos ⟨by omega, w.2⟩, h1 k (c k) k0 (by omega) ck.1 q, if_neg (by omega), if_pos (by omega), lsm_in i0 i1 o0 o1, w.1, if_pos w.2.symm, w.2]
        · rw [if_neg (by omega), h1 i o i0 i1 o0 o1]
          by_cases w1 : i = k
          · rw [if_neg (by omega), if_pos (by omega), lsm_in i0 i1 o0 o1, if_neg (fun u => w ⟨w1, by rw [← u, w1]⟩)]
          · by_cases w2 : i < k
            · rw [if_pos w2, if_pos (by omega)]
            · rw [if_neg w2, if_neg (by omega)]
      · have e9 : κ x k = -9 := by rw [hrk]; unfold mr; rw [if_neg (by omega)]
        rw [e9]
        simp (disch := omega) only [wr_of]
        refine ⟨fun z => by omega, fun _ => ⟨⟨⟨by omega, by omega, zx.1⟩, by omega⟩, fun _ => ih (k + 1) κ1 (by omega) (by omega) (fun i o i0 i1 o0 o1 => ?_) hf, fun z => by first | exact absurd rfl z | exact absurd trivial z⟩⟩
        rw [h1 i o i0 i1 o0 o1]
        by_cases w1 : i = k
        · rw [if_neg (by omega), if_pos (by omega), lsm_in i0 i1 o0 o1, w1, if_neg (by omega)]
        · by_cases w2 : i < k
          · rw [if_pos w2, if_pos (by omega)]
          · rw [if_neg w2, if_neg (by omega)]
  exact eX3_takeOff (by omega) (loop P 0 κ (by decide) (by omega) (fun i o i0 i1 o0 o1 => by rw [if_neg (by omega)]; exact hm i o i0 i1 o0 o1) (fun _ _ _ => rfl))
end T90
