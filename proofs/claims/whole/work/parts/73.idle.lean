section T33
variable {G : zG} {n : Nat} {μ ν : zM}
theorem btn256 : ∀ r : Fin 256, ∀ a : Fin 8, zand (zshr (r.val : Int) (a.val : Int)) 1 = if (r.val).testBit a.val then 1 else 0 := by decide +kernel
theorem btn {r : Nat} (hr : r < 256) {a : Int} (a0 : 0 ≤ a) (a1 : a < 8) : zand (zshr (r : Int) a) 1 = if rwq r a then 1 else 0 := by
  have := btn256 ⟨r, hr⟩ ⟨a.toNat, by omega⟩
  rw [fv a0 a1] at this
  exact this
theorem wr_if {b : Bool} : wr (if b = true then 1 else 0) = if b = true then 1 else 0 := by cases b <;> rfl
theorem flip2 {r : Nat} (hr : r < 256) {a b : Int} (a0 : 0 ≤ a) (a1 : a < 8) (b0 : 0 ≤ b) (b1 : b < 8) (ab : a ≠ b) : ∃ r' : Nat, r' < 256 ∧ zxor (r : Int) (zor (zshl 1 a) (zshl 1 b)) = r' ∧ ∀ k : Int, 0 ≤ k → rwq r' k = (rwq r k ^^ (decide (k = a) || decide (k = b))) := by
  have pa : (1 : Nat) * 2 ^ a.toNat < 256 := by rw [Nat.one_mul]; exact Nat.pow_lt_pow_right (by decide) (show a.toNat < 8 by omega)
  have pb : (1 : Nat) * 2 ^ b.toNat < 256 := by rw [Nat.one_mul]; exact Nat.pow_lt_pow_right (by decide) (show b.toNat < 8 by omega)
  have e1 : zshl 1 a = ((1 * 2 ^ a.toNat : Nat) : Int) := by
    have := zshl_nat (a := 1) (k := a.toNat) (by decide) (by omega) (by omega)
    rwa [Int.toNat_of_nonneg a0] at this
  have e2 : zshl 1 b = ((1 * 2 ^ b.toNat : Nat) : Int) := by
    have := zshl_nat (a := 1) (k := b.toNat) (by decide) (by omega) (by omega)
    rwa [Int.toNat_of_nonneg b0] at this
  have po : (1 * 2 ^ a.toNat ||| 1 * 2 ^ b.toNat) < 2 ^ 8 := Nat.or_lt_two_pow pa pb
  refine ⟨r ^^^ (1 * 2 ^ a.toNat ||| 1 * 2 ^ b.toNat), Nat.xor_lt_two_pow (n := 8) hr po, ?_, fun k k0 => ?_⟩
  · rw [e1, e2, zor_nat (by omega) (by omega), zxor_nat (by omega) (Nat.lt_trans po (by decide))]
  · unfold rwq
    rw [Nat.testBit_xor, Nat.testBit_or, Nat.one_mul, Nat.one_mul, Nat.testBit_two_pow, Nat.testBit_two_pow]
    congr 2
    · rw [decide_eq_decide]; omega
    · rw [decide_eq_decide]; omega
theorem c8_through (hn : 154 ≤ n) {A B : Int → Int} {c : Nat} (hc : c ≤ 30) (hA : ∀ j : Int, 0 ≤ j → j < c → ν 141 j = A j ∧ ν 142 j = B j ∧ 0 ≤ A j ∧ A j < 8 ∧ 0 ≤ B j ∧ B j < 8 ∧ A j ≠ B j) {q : Nat} (hq : q < 256) {K : Int → zM → Prop} (hK : ∀ r : Nat, r < 256 → (∀ k : Int, 0 ≤ k → rwq r k = thr A B c (rwq q) k) → K r ν) : mX8_through G n q c ν K := by
  have key : ∀ (g j r : Nat), j + g = c → r < 256 → (∀ k : Int, 0 ≤ k → rwq r k = thr A B j (rwq q) k) → pX8_through G n K 5 [some (Rv G 127), none, some (Iv c), some (Iv r), some (Iv j), none, none] [] ν := by
    intro g
    induction g with
    | zero =>
      intro j r ej hr h
      have : j = c := by omega
      subst this
      refine bX8_through_5 hn ?_
      simp (disch := omega) only [wr_of]
      exact ⟨fun _ => hK r hr h, fun z => by omega⟩
    | succ g ih =>
      intro j r ej hr h
      have a := hA j (by omega) (by omega)
      refine bX8_through_5 hn ?_
      simp (disch := omega) only [wr_of]
      refine ⟨fun z => by omega, fun _ => ⟨by omega, fun v3 e3 => ⟨by omega, fun v5 e5 => ?_⟩⟩⟩
      rw [e3, e5, a.1, a.2.1, btn hr a.2.2.1 a.2.2.2.1, btn hr a.2.2.2.2.1 a.2.2.2.2.2.1, wr_if, wr_if]
      have same : ¬ (rwq r (A j) = true ∧ rwq r (B j) = false) → ∀ k : Int, 0 ≤ k → rwq r k = thr A B (j + 1) (rwq q) k := fun hs k k0 => by
        show rwq r k = cmpB (A j) (B j) (thr A B j (rwq q)) k
        unfold cmpB
        rw [← h (A j) a.2.2.1, ← h (B j) a.2.2.2.2.1, ← h k k0]
        by_cases c1 : k = A j
        · rw [if_pos c1, c1]
          cases x : rwq r (A j) <;> cases y : rwq r (B j) <;> simp [x, y] at hs ⊢
        · rw [if_neg c1]
          by_cases c2 : k = B j
          · rw [if_pos c2, c2]
            cases x : rwq r (A j) <;> cases y : rwq r (B j) <;> simp [x, y] at hs ⊢
          · rw [if_neg c2]
      refine ⟨fun z => ih (j + 1) r (by omega) hr (same (fun w => z (by rw [w.1]; rfl))), fun z => ⟨fun z2 => ih (j + 1) r (by omega) hr (same (fun w => z2 (by rw [w.2]; rfl))), fun z2 v8 e8 => ?_⟩⟩
      have x : rwq r (A j) = true := by
        cases x : rwq r (A j) with
        | true => rfl
        | false => rw [x] at z; exact absurd z (by decide)
      have y : rwq r (B j) = false := by
        cases y : rwq r (B j) with
        | false => rfl
        | true => rw [y] at z2; exact absurd z2 (by decide)
      obtain ⟨r', h1, h2, h3⟩ := flip2 hr a.2.2.1 a.2.2.2.1 a.2.2.2.2.1 a.2.2.2.2.2.1 a.2.2.2.2.2.2
      rw [e8, h2]
      refine ih (j + 1) r' (by omega) h1 (fun k k0 => ?_)
      show rwq r' k = cmpB (A j) (B j) (thr A B j (rwq q)) k
      unfold cmpB
      rw [← h (A j) a.2.2.1, ← h (B j) a.2.2.2.2.1, ← h k k0, h3 k k0, x, y]
      by_cases c1 : k = A j
      · rw [if_pos c1, c1, x]
        have : ¬ A j = B j := a.2.2.2.2.2.2
        simp [this]
      · rw [if_neg c1]
        by_cases c2 : k = B j
        · rw [if_pos c2, c2, y]
          simp
        · rw [if_neg c2]
          simp [c1, c2]
  exact eX8_through hn (key c 0 q (by omega) hq (fun _ _ => rfl))
theorem thr_cong {A B : Int → Int} {W : Int} : ∀ (c : Nat) (σ τ : Int → Bool), (∀ j : Int, 0 ≤ j → j < c → 0 ≤ A j ∧ A j < W ∧ 0 ≤ B j ∧ B j < W) → (∀ k, 0 ≤ k → k < W → σ k = τ k) → ∀ k, 0 ≤ k → k < W → thr A B c σ k = thr A B c τ k
  | 0, σ, τ, _, h, k, k0, k1 => h k k0 k1
  | c + 1, σ, τ, hA, h, k, k0, k1 => by
    have a := hA c (by omega) (by omega)
    have ih := thr_cong (A := A) (B := B) (W := W) c σ τ (fun j x y => hA j x (by omega)) h
    show cmpB _ _ _ k = cmpB _ _ _ k
    unfold cmpB
    rw [ih _ a.1 a.2.1, ih _ a.2.2.1 a.2.2.2, ih k k0 k1]
theorem thr_ext {A B A' B' : Int → Int} : ∀ (c : Nat) (σ : Int → Bool), (∀ j : Int, 0 ≤ j → j < c → A j = A' j ∧ B j = B' j) → thr A B c σ = thr A' B' c σ
  | 0, _, _ => rfl
  | c + 1, σ, h => by
    show cmpB _ _ _ = cmpB _ _ _
    rw [thr_ext c σ (fun j x y => h j x (by omega)), (h c (by omega) (by omega)).1, (h c (by omega) (by omega)).2]
/-- a comparer changes no row of 0 and 1 -/
def Idm (A B : Int → Int) (W : Int) (c : Nat) : Prop := ∀ q : Nat, q < 2 ^ W.toNat → (thr A B c (rwq q) (A c) && !thr A B c (rwq q) (B c)) = false
theorem rows_n {W : Int} (h2 : 2 ≤ W) (h8 : W ≤ 8) : (2 ^ W.toNat : Nat) ≤ 64 * (wds W).toNat ∧ zshl 1 W = ((2 ^ W.toNat : Nat) : Int) ∧ (2 ^ W.toNat : Nat) ≤ 256 ∧ 4 ≤ (2 ^ W.toNat : Nat) := by
  have : W = 2 ∨ W = 3 ∨ W = 4 ∨ W = 5 ∨ W = 6 ∨ W = 7 ∨ W = 8 := by omega
  rcases this with rfl | rfl | rfl | rfl | rfl | rfl | rfl <;> decide +kernel
theorem rwq_mod {W : Int} (h0 : 0 ≤ W) {q : Nat} {k : Int} (k0 : 0 ≤ k) (k1 : k < W) : rwq (q % 2 ^ W.toNat) k = rwq q k := by
  unfold rwq
  rw [Nat.testBit_mod_two_pow, decide_eq_true (by omega), Bool.true_and]
theorem Idl_m {A B : Int → Int} {W : Int} (h2 : 2 ≤ W) (h8 : W ≤ 8) {c : Nat} (hA : ∀ j : Int, 0 ≤ j → j < (c + 1 : Nat) → 0 ≤ A j ∧ A j < W ∧ 0 ≤ B j ∧ B j < W) : Idl A B W c ↔ Idm A B W c := by
  have rn := rows_n h2 h8
  have w4 := wds_r (W := W)
  have a := hA c (by omega) (by omega)
  constructor
  · intro h q hq
    have := h (q / 64 : Nat) (by omega) (by omega) (q % 64) (Nat.mod_lt _ (by decide))
    rwa [show 64 * ((q / 64 : Nat) : Int).toNat + q % 64 = q by omega] at this
  · intro h w w0 w1 r hr
    have := h ((64 * w.toNat + r) % 2 ^ W.toNat) (Nat.mod_lt _ (by omega))
    have e := thr_cong (A := A) (B := B) (W := W) c (rwq ((64 * w.toNat + r) % 2 ^ W.toNat)) (rwq (64 * w.toNat + r)) (fun j x y => hA j x (by omega)) (fun k k0 k1 => rwq_mod (by omega) k0 k1)
    rwa [e _ a.1 a.2.1, e _ a.2.2.1 a.2.2.2] at this
theorem c8_isIdle (hn : 154 ≤ n) {A B : Int → Int} {W : Int} (hW : ν 127 24 = W) (h2 : 2 ≤ W) (h8 : W ≤ 8) {c : Nat} (hc : c < 30) (hA : ∀ j : Int, 0 ≤ j → j < (c + 1 : Nat) → ν 141 j = A j ∧ ν 142 j = B j ∧ 0 ≤ A j ∧ A j < W ∧ 0 ≤ B j ∧ B j < W ∧ A j ≠ B j) {K : Int → zM → Prop} (hK : ∀ r : Int, (r = 0 ∨ r = 1) → (r = 1 ↔ Idm A B W c) → K r ν) : mX8_isIdle G n c ν K := by
  have rn := rows_n h2 h8
  have a := hA c (by omega) (by omega)
  have key : ∀ (g q : Nat), q + g = 2 ^ W.toNat → (∀ p : Nat, p < q → (thr A B c (rwq p) (A c) && !thr A B c (rwq p) (B c)) = false) → pX8_isIdle G n K 2 [some (Rv G 127), some (Iv c), some (Iv q), none] [] ν := by
    intro g
    induction g with
    | zero =>
      intro q eq h
      refine bX8_isIdle_2 hn ?_
      rw [hW, rn.2.1]
      simp (disch := omega) only [wr_of]
      exact ⟨fun _ => hK 1 (Or.inr rfl) ⟨fun _ p hp => h p (by omega), fun _ => rfl⟩, fun z => by omega⟩
    | succ g ih =>
      intro q eq h
      refine bX8_isIdle_2 hn ?_
      rw [hW, rn.2.1]
      simp (disch := omega) only [wr_of]
      refine ⟨fun z => by omega, fun _ => c8_through (A := A) (B := B) hn (by omega) (fun j x y => ?_) (by omega) (fun r hr hs => ?_)⟩
      · have := hA j x (by omega)
        omega
      · rw [a.1, a.2.1, btn hr a.2.2.1 (by omega), btn hr a.2.2.2.2.1 (by omega), wr_if, wr_if, hs _ a.2.2.1, hs _ a.2.2.2.2.1]
        try simp (disch := omega) only [wr_of]
        have next : (thr A B c (rwq q) (A c) && !thr A B c (rwq q) (B c)) = false → pX8_isIdle G n K 2 [some (Rv G 127), some (Iv c), some (Iv ((q : Int) + 1)), none] [] ν := fun hz => by
          refine ih (q + 1) (by omega) (fun p hp => ?_)
          by_cases d : p = q
          · rw [d]; exact hz
          · exact h p (by omega)
        cases x : thr A B c (rwq q) (A c) with
        | false => exact ⟨by omega, fun _ => next (by rw [x]; rfl), fun z => absurd z (by decide)⟩
        | true =>
          refine ⟨by omega, fun z => absurd (by decide) z, fun _ => ⟨by omega, ?_⟩⟩
          cases y : thr A B c (rwq q) (B c) with
          | true => exact ⟨fun _ => next (by rw [x, y]; rfl), fun z => absurd z (by decide)⟩
          | false =>
            refine ⟨fun z => absurd (by decide) z, fun _ => hK 0 (Or.inl rfl) ⟨fun z => absurd z (by decide), fun z => ?_⟩⟩
            have := z q (by omega)
            rw [x, y] at this
            exact absurd this (by decide)
  exact eX8_isIdle hn (key (2 ^ W.toNat) 0 (by omega) (fun p hp => by omega))
theorem c8_step (hn : 154 ≤ n) {A B : Int → Int} {C : Nat} (hC : ν 127 25 = C) (h30 : C ≤ 30) (hA : ∀ j : Int, 0 ≤ j → j < C → ν 141 j = A j ∧ ν 142 j = B j ∧ 0 ≤ A j ∧ A j < 8 ∧ 0 ≤ B j ∧ B j < 8 ∧ A j ≠ B j) {c : Nat} (hc : c ≤ C) {K : Int → zM → Prop} (hK : ∀ ν' : zM, (∀ a j, a ≠ 143 → ν' a j = ν a j) → K (if c < C then atS A B c else dp A B C) ν') : mX8_step G n c ν K := by
  have main : ∀ (g q : Nat) (ν' : zM), q + g = C → q ≤ c → (∀ a j, a ≠ 143 → ν' a j = ν a j) → (∀ k : Int, 0 ≤ k → k < 8 → ν' 143 k = sv A B q k) → pX8_step G n K 25 [some (Rv G 127), some (Iv c), some (Iv (dp A B q)), some (Iv q), none] [] ν' := by
    intro g
    induction g with
    | zero =>
      intro q ν' eq hq hf h1
      refine bX8_step_25 hn ?_
      rw [hf _ _ (by decide), hC]
      simp (disch := omega) only [wr_of]
      refine ⟨fun _ => ?_, fun z => by omega⟩
      have := hK ν' hf
      rw [if_neg (by omega)] at this
      rw [show q = C by omega]; exact this
    | succ g ih =>
      intro q ν' eq hq hf h1
      have a := hA q (by omega) (by omega)
      have fA : ν' 141 q = A q := by rw [hf _ _ (by decide)]; exact a.1
      have fB : ν' 142 q = B q := by rw [hf _ _ (by decide)]; exact a.2.1
      have sA := sv_r A B q (A q)
      have sB := sv_r A B q (B q)
      have dq := dp_r A B q
      have hat : atS A B q = max (sv A B q (A q)) (sv A B q (B q)) := rfl
      refine bX8_step_25 hn ?_
      rw [hf 127 25 (by decide), hC]
      simp (disch := omega) only [wr_of]
      rw [fA, fB]
      try simp (disch := omega) only [wr_of]
      rw [h1 _ a.2.2.1 a.2.2.2.1, h1 _ a.2.2.2.2.1 a.2.2.2.2.2.1]
      simp (disch := omega) only [wr_of]
      have fin : ∀ v : Int, v = atS A B q → ((¬ (q : Int) = c → ((0 ≤ (q : Int) ∧ (q : Int) < 30) ∧ (0 ≤ A q ∧ A q < 8) ∧ ∀ μ13 : zM, μ13 = zu ν' 143 (A q) (v + 1) → (0 ≤ (q : Int) ∧ (q : Int) < 30) ∧ (0 ≤ wr (μ13 142 q) ∧ wr (μ13 142 q) < 8) ∧ ∀ μ16 : zM, μ16 = zu μ13 143 (wr (μ13 142 q)) (v + 1) → ((wr (v + 1) ≤ dp A B q → (pX8_step G n K 25 [some (Rv G 127), some (Iv c), some (Iv (dp A B q)), some (Iv ((q : Int) + 1)), none] [] μ16)) ∧ (¬ (wr (v + 1) ≤ dp A B q) → (pX8_step G n K 25 [some (Rv G 127), some (Iv c), some (Iv (v + 1)), some (Iv ((q : Int) + 1)), none] [] μ16))))) ∧ ((q : Int) = c → (K v ν'))) := by
        intro v ev
        refine ⟨fun z => ⟨by omega, by omega, fun μ13 e13 => ⟨by omega, ?_⟩⟩, fun z => ?_⟩
        · have f13 : μ13 142 q = B q := by rw [e13, zu_na (by decide), fB]
          rw [f13]
          simp (disch := omega) only [wr_of]
          refine ⟨by omega, fun μ16 e16 => ?_⟩
          have nx := ih (q + 1) μ16 (by omega) (by omega) (fun x j w => by rw [e16, zu_na w, e13, zu_na w]; exact hf x j w) (fun k k0 k1 => by
            show μ16 143 k = if k = A q ∨ k = B q then max (sv A B q (A q)) (sv A B q (B q)) + 1 else sv A B q k
            rw [e16, e13]; unfold zu
            by_cases c1 : k = B q
            · rw [if_pos ⟨rfl, c1⟩, if_pos (Or.inr c1), ev, hat]
            · rw [if_neg (fun w => c1 w.2)]
              by_cases c2 : k = A q
              · rw [if_pos ⟨rfl, c2⟩, if_pos (Or.inl c2), ev, hat]
              · rw [if_neg (fun w => c2 w.2), if_neg (by omega)]; exact h1 k k0 k1)
          have ed : dp A B (q + 1) = max (dp A B q) (v + 1) := by rw [ev]; rfl
          rw [ed] at nx
          refine ⟨fun z2 => ?_, fun z2 => ?_⟩
          · rwa [show max (dp A B q) (v + 1) = dp A B q by omega] at nx
          · rwa [show max (dp A B q) (v + 1) = v + 1 by omega] at nx
        · have := hK ν' hf
          rw [if_pos (by omega), show c = q by omega] at this
          rw [ev]; exact this
      refine ⟨fun z => by omega, fun _ => ⟨by omega, by omega, by omega, by omega, fun z => ⟨by omega, by omega, fun v9 e9 => fin v9 (by omega)⟩, fun z => ⟨by omega, by omega, fun v9 e9 => fin v9 (by omega)⟩⟩⟩
  have clear : ∀ (g : Nat) (k : Int) (ν' : zM), 0 ≤ k → k + g = 8 → (∀ a j, a ≠ 143 → ν' a j = ν a j) → (∀ j : Int, 0 ≤ j → j < k → ν' 143 j = 0) → pX8_step G n K 4 [some (Rv G 127), some (Iv c), some (Iv 0), some (Iv k), none] [] ν' := by
    intro g
    induction g with
    | zero =>
      intro k ν' k0 ek hf h1
      have : k = 8 := by omega
      subst this
      exact bX8_step_4 hn ⟨fun _ => main C 0 ν' (by omega) (by omega) hf h1, fun z => absurd (by decide) z⟩
    | succ g ih =>
      intro k ν' k0 ek hf h1
      refine bX8_step_4 hn ?_
      simp (disch := omega) only [wr_of]
      refine ⟨fun z => by omega, fun _ => ⟨by omega, fun μ3 e3 => ih (k + 1) μ3 (by omega) (by omega) (fun a j w => by rw [e3, zu_na w]; exact hf a j w) (fun j j0 j1 => ?_)⟩⟩
      rw [e3]; unfold zu
      by_cases d : j = k
      · rw [if_pos ⟨rfl, d⟩]
      · rw [if_neg (fun w => d w.2)]; exact h1 j j0 (by omega)
  exact eX8_step hn (clear 8 0 ν (by decide) (by decide) (fun _ _ _ => rfl) (fun j j0 j1 => by omega))
end T33
