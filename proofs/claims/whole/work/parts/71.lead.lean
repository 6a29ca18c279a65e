section T31
variable {G : zG} {n : Nat} {μ ν : zM}
def cmpB (a b : Int) (σ : Int → Bool) : Int → Bool := fun k => if k = a then σ a && σ b else if k = b then σ a || σ b else σ k
/-- a row of 0 and 1 behind the first comparers -/
def thr (A B : Int → Int) : Nat → (Int → Bool) → Int → Bool
  | 0, σ => σ
  | c + 1, σ => cmpB (A c) (B c) (thr A B c σ)
def rwq (q : Nat) : Int → Bool := fun k => q.testBit k.toNat
def sv (A B : Int → Int) : Nat → Int → Int
  | 0, _ => 0
  | c + 1, k => if k = A c ∨ k = B c then max (sv A B c (A c)) (sv A B c (B c)) + 1 else sv A B c k
def atS (A B : Int → Int) (c : Nat) : Int := max (sv A B c (A c)) (sv A B c (B c))
def dp (A B : Int → Int) : Nat → Int
  | 0 => 0
  | c + 1 => max (dp A B c) (atS A B c + 1)
theorem sv_r (A B : Int → Int) : ∀ (c : Nat) (k : Int), 0 ≤ sv A B c k ∧ sv A B c k ≤ c
  | 0, _ => ⟨Int.le_refl 0, Int.le_refl 0⟩
  | c + 1, k => by
    have a := sv_r A B c (A c)
    have b := sv_r A B c (B c)
    have d := sv_r A B c k
    simp only [sv]
    split <;> omega
theorem dp_r (A B : Int → Int) : ∀ c : Nat, 0 ≤ dp A B c ∧ dp A B c ≤ c
  | 0 => ⟨Int.le_refl 0, Int.le_refl 0⟩
  | c + 1 => by
    have a := sv_r A B c (A c)
    have b := sv_r A B c (B c)
    have d := dp_r A B c
    simp only [dp, atS]
    omega
def Idl (A B : Int → Int) (W : Int) (c : Nat) : Prop := ∀ w : Int, 0 ≤ w → w < wds W → ∀ r : Nat, r < 64 → (thr A B c (rwq (64 * w.toNat + r)) (A c) && !thr A B c (rwq (64 * w.toNat + r)) (B c)) = false
def Led (A B : Int → Int) (W : Int) (C : Nat) (ν : zM) : Prop :=
  (∀ c : Nat, c < C → ν 33 c = atS A B c ∧ (ν 34 c = 0 ∨ ν 34 c = 1) ∧ (ν 34 c = 1 ↔ Idl A B W c)) ∧ ν 30 2 = dp A B C ∧
  (∀ k w : Int, 0 ≤ k → k < W → 0 ≤ w → w < wds W → ∀ r : Nat, r < 64 → lb (ν (37 + k) w) r = thr A B C (rwq (64 * w.toNat + r)) k)
theorem bool_not_and (x y : Bool) : ((x && !y) = true) ↔ x = true ∧ y = false := by cases x <;> cases y <;> simp
theorem c0_changes (hn : 45 ≤ n) {W a b : Int} (hW : μ 30 0 = W) (h2 : 2 ≤ W) (h8 : W ≤ 8) (a0 : 0 ≤ a) (a1 : a < W) (b0 : 0 ≤ b) (b1 : b < W) (ab : a ≠ b) {K : Int → zM → Prop}
    (hK : ∀ (r : Int) (ν : zM), (r = 0 ∨ r = 1) → (r = 0 ↔ ∀ w : Int, 0 ≤ w → w < wds W → ∀ q : Nat, q < 64 → (lb (μ (37 + a) w) q && !lb (μ (37 + b) w) q) = false) → (∀ w : Int, 0 ≤ w → w < wds W → ∀ q : Nat, q < 64 → lb (ν (37 + a) w) q = (lb (μ (37 + a) w) q && lb (μ (37 + b) w) q) ∧ lb (ν (37 + b) w) q = (lb (μ (37 + a) w) q || lb (μ (37 + b) w) q)) → (∀ a' j, a' ≠ 37 + a → a' ≠ 37 + b → ν a' j = μ a' j) → K r ν) : mX0_changesRows G n (37 + a) (37 + b) μ K := by
  have wr4 := wds_r (W := W)
  have za := zk37 a0 (by omega)
  have zb := zk37 b0 (by omega)
  have key : ∀ (g : Nat) (w acc : Int) (ν : zM), 0 ≤ w → w + g = wds W →
      (∀ q : Nat, q < 64 → (lb acc q = true ↔ ∃ w' : Int, 0 ≤ w' ∧ w' < w ∧ (lb (μ (37 + a) w') q && !lb (μ (37 + b) w') q) = true)) →
      (∀ w' : Int, 0 ≤ w' → w' < w → ∀ q : Nat, q < 64 → lb (ν (37 + a) w') q = (lb (μ (37 + a) w') q && lb (μ (37 + b) w') q) ∧ lb (ν (37 + b) w') q = (lb (μ (37 + a) w') q || lb (μ (37 + b) w') q)) →
      (∀ a' j, ¬ ((a' = 37 + a ∨ a' = 37 + b) ∧ 0 ≤ j ∧ j < w) → ν a' j = μ a' j) →
      pX0_changesRows G n K 5 [some (Rv G 30), some (Rv G (37 + a)), some (Rv G (37 + b)), some (Lv acc), none, some (Iv w), none, none] [] ν := by
    intro g
    induction g with
    | zero =>
      intro w acc ν w0 w1 h1 h3 h4
      refine bX0_changesRows_5 hn (c0_words hn (by rw [h4 _ _ (by omega)]; exact hW) h2 h8 ?_)
      simp (disch := omega) only [wr_of]
      refine ⟨fun _ => ?_, fun z => by omega⟩
      rw [lc_0]
      have e : (∀ r, r < 64 → lb acc r = false) ↔ ∀ w : Int, 0 ≤ w → w < wds W → ∀ q : Nat, q < 64 → (lb (μ (37 + a) w) q && !lb (μ (37 + b) w) q) = false := by
        constructor
        · intro q w' a b r hr
          have := q r hr
          cases hc : (lb (μ (37 + _) w') r && !lb (μ (37 + _) w') r) with
          | false => rfl
          | true =>
            have := (h1 r hr).2 ⟨w', a, by omega, hc⟩
            rw [q r hr] at this; cases this
        · intro q r hr
          cases hc : lb acc r with
          | false => rfl
          | true =>
            obtain ⟨w', a, b, c⟩ := (h1 r hr).1 hc
            rw [q w' a (by omega) r hr] at c; cases c
      refine ⟨fun z => hK 0 ν (Or.inl rfl) ⟨fun _ => e.1 z, fun _ => rfl⟩ (fun w' a b => h3 w' a (by omega)) (fun a' j q1 q2 => h4 a' j (by omega)), fun z => hK 1 ν (Or.inr rfl) ⟨fun q => absurd q (by decide), fun q => absurd (e.2 q) z⟩ (fun w' a b => h3 w' a (by omega)) (fun a' j q1 q2 => h4 a' j (by omega))⟩
    | succ g ih =>
      intro w acc ν w0 w1 h1 h3 h4
      refine bX0_changesRows_5 hn (c0_words hn (by rw [h4 _ _ (by omega)]; exact hW) h2 h8 ?_)
      unfold zin
      simp (disch := omega) only [wr_of]
      rw [za.2, zb.2]
      have la : ν (37 + a) w = μ (37 + a) w := h4 _ _ (by omega)
      have lb' : ν (37 + b) w = μ (37 + b) w := h4 _ _ (by omega)
      have ia : (0 ≤ 37 + a ∧ 37 + a < (n : Int) ∧ zk (37 + a) = 1) ∧ 0 ≤ w ∧ w < 4 := ⟨⟨by omega, by omega, za.1⟩, by omega⟩
      have ib : (0 ≤ 37 + b ∧ 37 + b < (n : Int) ∧ zk (37 + b) = 1) ∧ 0 ≤ w ∧ w < 4 := ⟨⟨by omega, by omega, zb.1⟩, by omega⟩
      refine ⟨fun z => by omega, fun _ => ⟨ia, ib, fun v7 e7 => ⟨ia, ia, fun μ10 e10 => ⟨ib, ib, fun μ13 e13 v14 e14 => ?_⟩⟩⟩⟩
      rw [la, lb'] at e7
      rw [la] at e10
      have l13 : μ10 (37 + b) w = μ (37 + b) w := by rw [e10, zu_na (by omega)]; exact lb'
      rw [l13] at e13
      have b7 : ∀ q : Nat, q < 64 → lb v7 q = (lb (μ (37 + a) w) q && !lb (μ (37 + b) w) q) := fun q hq => by
        rw [e7, lb_and, lb_xor, lb_m1 hq, Bool.xor_true]
      have V : ∀ a' j, μ13 a' j = if a' = 37 + b ∧ j = w then zlxor (μ (37 + b) w) v7 else if a' = 37 + a ∧ j = w then zlxor (μ (37 + a) w) v7 else ν a' j := fun a' j => by rw [e13, e10]; rfl
      refine ih (w + 1) v14 μ13 (by omega) (by omega) (fun q hq => ?_) (fun w' c d q hq => ?_) (fun a' j q => ?_)
      · rw [e14, lb_or, b7 q hq, Bool.or_eq_true, h1 q hq]
        constructor
        · rintro (⟨w', x, y, z⟩ | z)
          · exact ⟨w', x, by omega, z⟩
          · exact ⟨w, w0, by omega, z⟩
        · rintro ⟨w', x, y, z⟩
          by_cases c : w' = w
          · subst c; exact Or.inr z
          · exact Or.inl ⟨w', x, by omega, z⟩
      · by_cases e : w' = w
        · subst e
          rw [V, if_neg (by omega), if_pos ⟨rfl, rfl⟩, V, if_pos ⟨rfl, rfl⟩, lb_xor, lb_xor, b7 q hq]
          cases lb (μ (37 + a) w') q <;> cases lb (μ (37 + b) w') q <;> simp
        · rw [V, if_neg (by omega), if_neg (by omega), V, if_neg (by omega), if_neg (by omega)]
          exact h3 w' c (by omega) q hq
      · rw [V, if_neg (by omega), if_neg (by omega)]
        exact h4 a' j (by omega)
  exact eX0_changesRows hn (key (wds W).toNat 0 0 μ (by decide) (by omega) (fun q hq => ⟨fun x => (by rw [lb_0] at x; cases x), fun ⟨w', x, y, _⟩ => by omega⟩) (fun w' c d => by omega) (fun _ _ _ => rfl))
/-- which places leading changes -/
def Ldp (a j : Int) : Prop := a = 33 ∨ a = 34 ∨ a = 35 ∨ (37 ≤ a ∧ a ≤ 44) ∨ (a = 30 ∧ j = 2)
theorem c0_leadAll (hn : 45 ≤ n) {W : Int} {C : Nat} (hW : μ 30 0 = W) (h2 : 2 ≤ W) (h8 : W ≤ 8) (hC : μ 30 1 = C) (h30 : C ≤ 30) (hc : ∀ c : Int, 0 ≤ c → c < C → 0 ≤ μ 31 c ∧ μ 31 c < W ∧ 0 ≤ μ 32 c ∧ μ 32 c < W ∧ μ 31 c ≠ μ 32 c) {K : zM → Prop}
    (hK : ∀ ν : zM, Led (μ 31) (μ 32) W C ν → (∀ a j, ¬ Ldp a j → ν a j = μ a j) → K ν) : mX0_leadAllRows G n μ K := by
  have wr4 := wds_r (W := W)
  have key : ∀ (g c : Nat) (ν : zM), c + g = C → (∀ k : Int, 0 ≤ k → k < 8 → ν 35 k = sv (μ 31) (μ 32) c k) → Led (μ 31) (μ 32) W c ν → (∀ a j, ¬ Ldp a j → ν a j = μ a j) → pX0_leadAllRows G n K 19 [some (Rv G 30), some (Iv c)] [] ν := by
    intro g
    induction g with
    | zero =>
      intro c ν ec h35 hL hf
      have : c = C := by omega
      subst this
      refine bX0_leadAllRows_19 hn ?_
      rw [hf 30 1 (by unfold Ldp; omega), hC]
      simp (disch := omega) only [wr_of]
      exact ⟨fun _ => hK ν hL hf, fun z => by omega⟩
    | succ g ih =>
      intro c ν ec h35 hL hf
      have hc' := hc c (by omega) (by omega)
      have fA : ν 31 c = μ 31 c := hf _ _ (by unfold Ldp; omega)
      have fB : ν 32 c = μ 32 c := hf _ _ (by unfold Ldp; omega)
      have sA := sv_r (μ 31) (μ 32) c (μ 31 c)
      have sB := sv_r (μ 31) (μ 32) c (μ 32 c)
      have dC := dp_r (μ 31) (μ 32) c
      refine bX0_leadAllRows_19 hn ?_
      rw [hf 30 1 (by unfold Ldp; omega), hC]
      simp (disch := omega) only [wr_of]
      rw [fA, fB]
      try simp (disch := omega) only [wr_of]
      rw [h35 _ hc'.1 (by omega), h35 _ hc'.2.2.1 (by omega)]
      simp (disch := omega) only [wr_of]
      refine ⟨fun z => by omega, fun _ => ⟨by omega, by omega, by omega, by omega, by omega, fun μ7 e7 => ⟨by omega, by omega, ?_⟩⟩⟩
      have g7 : μ7 31 c = μ 31 c := by rw [e7, zu_na (by decide), fA]
      have g7s : μ7 33 c = atS (μ 31) (μ 32) c := by rw [e7, zu_same]; rfl
      have hat : 0 ≤ atS (μ 31) (μ 32) c ∧ atS (μ 31) (μ 32) c ≤ c := by unfold atS; omega
      rw [g7, g7s]
      simp (disch := omega) only [wr_of]
      refine ⟨by omega, fun μ11 e11 => ⟨by omega, by omega, ?_⟩⟩
      have g11 : μ11 32 c = μ 32 c := by rw [e11, zu_na (by decide), e7, zu_na (by decide), fB]
      have g11s : μ11 33 c = atS (μ 31) (μ 32) c := by rw [e11, zu_na (by decide), g7s]
      rw [g11, g11s]
      simp (disch := omega) only [wr_of]
      refine ⟨by omega, fun μ15 e15 => ⟨by omega, ?_⟩⟩
      have g15s : μ15 33 c = atS (μ 31) (μ 32) c := by rw [e15, zu_na (by decide), g11s]
      have g15d : μ15 30 2 = dp (μ 31) (μ 32) c := by rw [e15, zu_na (by decide), e11, zu_na (by decide), e7, zu_na (by decide)]; exact hL.2.1
      rw [g15s, g15d]
      simp (disch := omega) only [wr_of]
      intro μ17 e17
      have V : ∀ a j, μ17 a j = if a = 30 ∧ j = 2 then dp (μ 31) (μ 32) (c + 1) else if a = 35 ∧ (j = μ 31 c ∨ j = μ 32 c) then atS (μ 31) (μ 32) c + 1 else if a = 33 ∧ j = c then atS (μ 31) (μ 32) c else ν a j := fun a j => by
        rw [e17, e15, e11, e7]; unfold zu
        by_cases c1 : a = 30 ∧ j = 2
        · rw [if_pos c1, if_pos c1]; rfl
        · rw [if_neg c1, if_neg c1]
          by_cases c2 : a = 35 ∧ j = μ 32 c
          · rw [if_pos c2, if_pos ⟨c2.1, Or.inr c2.2⟩]
          · rw [if_neg c2]
            by_cases c3 : a = 35 ∧ j = μ 31 c
            · rw [if_pos c3, if_pos ⟨c3.1, Or.inl c3.2⟩]
            · rw [if_neg c3, if_neg (show ¬ (a = 35 ∧ (j = μ 31 c ∨ j = μ 32 c)) by omega)]
              by_cases c4 : a = 33 ∧ j = c
              · rw [if_pos c4, if_pos c4]; rfl
              · rw [if_neg c4, if_neg c4]
      have w31 : μ17 31 c = μ 31 c := by rw [V, if_neg (by omega), if_neg (by omega), if_neg (by omega), fA]
      have w32 : μ17 32 c = μ 32 c := by rw [V, if_neg (by omega), if_neg (by omega), if_neg (by omega), fB]
      have wW : μ17 30 0 = W := by rw [V, if_neg (by omega), if_neg (by omega), if_neg (by omega), hf _ _ (by unfold Ldp; omega), hW]
      have wR : ∀ k w, 0 ≤ k → μ17 (37 + k) w = ν (37 + k) w := fun k w k0 => by rw [V, if_neg (by omega), if_neg (by omega), if_neg (by omega)]
      rw [w31, w32, show (36 : Int) + 1 = 37 from rfl]
      simp (disch := omega) only [wr_of]
      refine ⟨by omega, by omega, by omega, by omega, c0_changes hn wW h2 h8 hc'.1 hc'.2.1 hc'.2.2.1 hc'.2.2.2.1 hc'.2.2.2.2 (fun r ν' r01 rI rB rF => ?_)⟩
      have I' : r = 0 ↔ Idl (μ 31) (μ 32) W c := by
        rw [rI]
        unfold Idl
        constructor
        · intro q w w0 w1 p hp
          have := q w w0 w1 p hp
          rwa [wR _ _ hc'.1, wR _ _ hc'.2.2.1, hL.2.2 _ w hc'.1 hc'.2.1 w0 w1 p hp, hL.2.2 _ w hc'.2.2.1 hc'.2.2.2.1 w0 w1 p hp] at this
        · intro q w w0 w1 p hp
          rw [wR _ _ hc'.1, wR _ _ hc'.2.2.1, hL.2.2 _ w hc'.1 hc'.2.1 w0 w1 p hp, hL.2.2 _ w hc'.2.2.1 hc'.2.2.2.1 w0 w1 p hp]
          exact q w w0 w1 p hp
      have fin : ∀ v : Int, (v = 0 ∨ v = 1) → (v = 1 ↔ Idl (μ 31) (μ 32) W c) → pX0_leadAllRows G n K 19 [some (Rv G 30), some (Iv ((c : Int) + 1))] [] (zu ν' 34 c v) := by
        intro v v01 vI
        refine ih (c + 1) _ (by omega) (fun k k0 k1 => ?_) ⟨fun c' hc2 => ?_, ?_, fun k w k0 k1 w0 w1 q hq => ?_⟩ (fun a j q => ?_)
        · rw [zu_na (by decide), rF _ _ (by omega) (by omega), V, if_neg (by omega)]
          show _ = (if k = μ 31 c ∨ k = μ 32 c then _ else _)
          by_cases q : k = μ 31 c ∨ k = μ 32 c
          · rw [if_pos ⟨rfl, q⟩, if_pos q]; rfl
          · rw [if_neg (fun w => q w.2), if_neg (by omega), if_neg q]; exact h35 k k0 k1
        · by_cases q : c' = c
          · subst q
            refine ⟨?_, ?_, ?_⟩
            · rw [zu_na (by decide), rF _ _ (by omega) (by omega), V, if_neg (by omega), if_neg (by omega), if_pos ⟨rfl, rfl⟩]
            · rw [zu_same]; exact v01
            · rw [zu_same]; exact vI
          · have := hL.1 c' (by omega)
            rw [zu_na (by decide), zu_ne (by omega), rF _ _ (by omega) (by omega), rF _ _ (by omega) (by omega), V, if_neg (by omega), if_neg (by omega), if_neg (by omega), V, if_neg (by omega), if_neg (by omega), if_neg (by omega)]
            exact this
        · rw [zu_na (by decide), rF _ _ (by omega) (by omega), V, if_pos ⟨rfl, rfl⟩]
        · rw [zu_na (by omega)]
          simp only [thr, cmpB]
          by_cases q1 : k = μ 31 c
          · rw [if_pos q1, q1, (rB w w0 w1 q hq).1, wR _ _ hc'.1, wR _ _ hc'.2.2.1, hL.2.2 _ w hc'.1 hc'.2.1 w0 w1 q hq, hL.2.2 _ w hc'.2.2.1 hc'.2.2.2.1 w0 w1 q hq]
          · rw [if_neg q1]
            by_cases q2 : k = μ 32 c
            · rw [if_pos q2, q2, (rB w w0 w1 q hq).2, wR _ _ hc'.1, wR _ _ hc'.2.2.1, hL.2.2 _ w hc'.1 hc'.2.1 w0 w1 q hq, hL.2.2 _ w hc'.2.2.1 hc'.2.2.2.1 w0 w1 q hq]
            · rw [if_neg q2, rF _ _ (by omega) (by omega), wR _ _ k0]
              exact hL.2.2 k w k0 k1 w0 w1 q hq
        · unfold Ldp at q
          rw [zu_na (by omega), rF _ _ (by omega) (by omega), V, if_neg (by omega), if_neg (by omega), if_neg (by omega)]
          exact hf a j (by unfold Ldp; omega)
      refine ⟨fun z => ⟨by omega, fun μ26 e26 => ?_⟩, fun z => ⟨by omega, fun μ28 e28 => ?_⟩⟩
      · rw [e26]
        refine fin 0 (Or.inl rfl) ⟨fun q => absurd q (by decide), fun q => ?_⟩
        rw [I'.2 q] at z
        exact absurd rfl z
      · rw [e28]
        refine fin 1 (Or.inr rfl) ⟨fun _ => I'.1 ?_, fun _ => rfl⟩
        rcases r01 with q | q
        · exact q
        · rw [q] at z; exact absurd z (by decide)
  refine eX0_leadAllRows hn (fun μ1 e1 => c_fill ⟨by decide, by omega, by decide⟩ (c0_layAll (W := W) hn ?_ h2 h8 (fun ν hl hf => ?_)))
  · unfold zfill
    rw [if_neg (by omega), e1, zu_ne (by omega), hW]
  · have fr : ∀ a j, ¬ Ldp a j → ν a j = μ a j := fun a j q => by
      unfold Ldp at q
      rw [hf a j (by omega)]; unfold zfill
      rw [if_neg (by omega), e1, zu_ne (by omega)]
    refine key C 0 ν (by omega) (fun k k0 k1 => ?_) ⟨fun c hc => by omega, ?_, fun k w k0 k1 w0 w1 r hr => ?_⟩ fr
    · rw [hf _ _ (by omega)]; unfold zfill
      rw [if_pos ⟨rfl, k0, by rw [show (zn 35 : Int) = 8 by decide]; exact k1⟩]; rfl
    · rw [hf _ _ (by omega)]; unfold zfill
      rw [if_neg (by omega), e1, zu_same]; rfl
    · exact hl k w k0 k1 w0 w1 r hr
end T31
