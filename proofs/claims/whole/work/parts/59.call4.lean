section T19
variable {G : zG} {n : Nat} {μ ν : zM}
def rfz (μ : zM) (i o : Int) : Int := if (0 ≤ i ∧ i < μ 1 0 * μ 1 1) ∧ (0 ≤ o ∧ o < μ 1 0 * μ 1 1) then (if μ 2 i = -9 ∧ μ 3 o = -9 then 0 else -3) else -1
theorem I1.r2 (h : I1 μ) {i : Int} (h0 : 0 ≤ i) (h1 : i < 20) : -9 ≤ μ 2 i ∧ μ 2 i < 20 := by
  have := h.gd.nn
  rcases h.row i h0 h1 with ⟨q, _⟩ | ⟨_, q, _⟩ <;> omega
theorem I1.r3 (h : I1 μ) {i : Int} (h0 : 0 ≤ i) (h1 : i < 20) : -9 ≤ μ 3 i ∧ μ 3 i < 20 := by
  rcases h.col i h0 h1 with q | ⟨q, q2, _⟩ <;> omega
theorem c6_refusalOf (hn : 154 ≤ n) (h : I1 μ) {i o : Int} (hi : R32 i) (ho : R32 o) {K : Int → zM → Prop} (hK : K (rfz μ i o) μ) : mX6_refusalOf G n i o μ K := by
  have hN := h.gd.nn
  have i1 := hi.1
  have i2 := hi.2
  have o1 := ho.1
  have o2 := ho.2
  unfold rfz at hK
  refine eX6_refusalOf (by omega) (c6_isPlace hn h.gd hi ?_)
  simp (disch := omega) only [wr_of, ite_b0, Classical.not_not]
  refine ⟨fun z => ?_, fun z => c6_isPlace hn h.gd ho ?_⟩
  · rwa [if_neg (fun q => z q.1)] at hK
  · simp (disch := omega) only [wr_of, ite_b0, Classical.not_not]
    refine ⟨fun z2 => ⟨by omega, ?_⟩, fun z2 => ?_⟩
    · rw [if_pos ⟨z, z2⟩] at hK
      have r2 := h.r2 (i := i) (by omega) (by omega)
      have r3 := h.r3 (i := o) (by omega) (by omega)
      simp (disch := omega) only [wr_of]
      refine ⟨fun q => ?_, fun q => ⟨by omega, fun q2 => ?_, fun q2 => ?_⟩⟩
      · rwa [if_neg (fun w => q w.1)] at hK
      · rwa [if_pos ⟨q, q2⟩] at hK
      · rwa [if_neg (fun w => q2 w.2)] at hK
    · rwa [if_neg (fun q => z2 q.2)] at hK
/-- the first middle switch from a on with both links free -/
def ff (μ : zM) (s t : Int) : Nat → Int → Int
  | 0, _ => -9
  | f + 1, a => if μ (7 + s) a = -9 ∧ μ (13 + t) a = -9 then a else ff μ s t f (a + 1)
theorem ff_spec (s t : Int) : ∀ (f : Nat) (a : Int), ff μ s t f a = -9 ∨ (a ≤ ff μ s t f a ∧ ff μ s t f a < a + f ∧ μ (7 + s) (ff μ s t f a) = -9 ∧ μ (13 + t) (ff μ s t f a) = -9)
  | 0, a => Or.inl rfl
  | f + 1, a => by
    unfold ff
    split
    · rename_i c; exact Or.inr ⟨by omega, by omega, c⟩
    · rcases ff_spec s t f (a + 1) with q | q
      · exact Or.inl q
      · exact Or.inr ⟨by omega, by omega, q.2.2⟩
theorem c6_setUpFirst (hn : 154 ≤ n) (h : I1 μ) {i o : Int} (hi : 0 ≤ i ∧ i < μ 1 0 * μ 1 1) (ho : 0 ≤ o ∧ o < μ 1 0 * μ 1 1) {K : Int → zM → Prop} (hK : K (ff μ (i / μ 1 1) (o / μ 1 1) (μ 1 2).toNat 0) (if ff μ (i / μ 1 1) (o / μ 1 1) (μ 1 2).toNat 0 = -9 then μ else onm μ i o (ff μ (i / μ 1 1) (o / μ 1 1) (μ 1 2).toNat 0))) : mX6_setUpFirst G n i o μ K := by
  have hN := h.gd.nn
  obtain ⟨⟨a1, a2, a3⟩, ⟨b1, b2, b3⟩, c1, c2, c3⟩ := h.gd
  have s1 := sw_lt hi.1 hi.2 (show 0 < μ 1 1 by omega)
  have s2 := sw_lt ho.1 ho.2 (show 0 < μ 1 1 by omega)
  refine eX6_setUpFirst (by omega) (c6_switchOf hn h.gd hi.1 (by omega) (c6_switchOf hn h.gd ho.1 (by omega) ?_))
  have key : ∀ (f : Nat) (a : Int), 0 ≤ a → a + f = μ 1 2 → K (ff μ (i / μ 1 1) (o / μ 1 1) f a) (if ff μ (i / μ 1 1) (o / μ 1 1) f a = -9 then μ else onm μ i o (ff μ (i / μ 1 1) (o / μ 1 1) f a)) → pX6_setUpFirst G n K 16 [some (Rv G 1), some (Iv i), some (Iv o), some (Iv (i / μ 1 1)), some (Iv (o / μ 1 1)), some (Iv a)] [] μ := by
    intro f
    induction f with
    | zero =>
      intro a e0 e1 hk
      refine bX6_setUpFirst_16 (by omega) ?_
      simp (disch := omega) only [wr_of]
      exact ⟨fun _ => hk, fun z => by omega⟩
    | succ f ih =>
      intro a e0 e1 hk
      unfold ff at hk
      have l1 := h.lr (b := 7) (s := i / μ 1 1) (a := a) (by omega) s1.1 (by omega) e0 (by omega)
      have l2 := h.lr (b := 13) (s := o / μ 1 1) (a := a) (by omega) s2.1 (by omega) e0 (by omega)
      refine bX6_setUpFirst_16 (by omega) ?_
      rw [show (6 : Int) + 1 = 7 from rfl, show (12 : Int) + 1 = 13 from rfl]
      simp (disch := omega) only [wr_of]
      refine ⟨fun z => by omega, fun _ => ⟨by omega, by omega, fun z => ?_, fun z => ⟨by omega, by omega, fun z2 => ?_, fun z2 => ?_⟩⟩⟩
      · rw [if_neg (fun q => z q.1)] at hk
        exact ih (a + 1) (by omega) (by omega) hk
      · rw [if_neg (fun q => z2 q.2)] at hk
        exact ih (a + 1) (by omega) (by omega) hk
      · rw [if_pos ⟨z, z2⟩, if_neg (by omega)] at hk
        exact c6_setUp (K := fun m => K a m) hn h.gd hi ho ⟨e0, by omega⟩ hk
  exact key _ 0 (by omega) (by omega) hK
theorem c8_call (hn : 154 ≤ n) (hS : Sm μ ν) (h : I1 μ) {i o : Int} (hi : R32 i) (ho : R32 o) {K : Int → zM → Prop} (hK : K (if rfz μ i o = 0 then ff μ (i / μ 1 1) (o / μ 1 1) (μ 1 2).toNat 0 else rfz μ i o) (if rfz μ i o = 0 ∧ ff μ (i / μ 1 1) (o / μ 1 1) (μ 1 2).toNat 0 ≠ -9 then zu (zu ν 128 i (o + 1)) 129 i (ff μ (i / μ 1 1) (o / μ 1 1) (μ 1 2).toNat 0) else ν)) : mX8_call G n i o ν K := by
  have hN := h.gd.nn
  obtain ⟨⟨a1, a2, a3⟩, ⟨b1, b2, b3⟩, c1, c2, c3⟩ := h.gd
  have i1 := hi.1
  have i2 := hi.2
  have o1 := ho.1
  have o2 := ho.2
  refine eX8_call hn (c8_isLine' hn hS h.gd hi ?_)
  simp (disch := omega) only [wr_of, ite_b0, Classical.not_not]
  refine ⟨fun z => ?_, fun z => c8_isLine' hn hS h.gd ho ?_⟩
  · rw [show rfz μ i o = -1 by unfold rfz; rw [if_neg (fun q => z q.1)]] at hK
    exact hK
  · simp (disch := omega) only [wr_of, ite_b0, Classical.not_not]
    refine ⟨fun z2 => c8_isTaken' hn hS h z.1 z.2 z2.1 z2.2 ?_, fun z2 => ?_⟩
    · by_cases fr : μ 2 i = -9 ∧ μ 3 o = -9
      · rw [if_pos fr]
        rw [show rfz μ i o = 0 by unfold rfz; rw [if_pos ⟨z, z2⟩, if_pos fr]] at hK
        refine ⟨fun _ => ?_, fun q => absurd rfl q⟩
        have s1 := sw_lt z.1 z.2 (show 0 < μ 1 1 by omega)
        have s2 := sw_lt z2.1 z2.2 (show 0 < μ 1 1 by omega)
        rw [if_pos rfl] at hK
        have key : ∀ (f : Nat) (a : Int), 0 ≤ a → a + f = μ 1 2 → K (ff μ (i / μ 1 1) (o / μ 1 1) f a) (if (0 : Int) = 0 ∧ ff μ (i / μ 1 1) (o / μ 1 1) f a ≠ -9 then zu (zu ν 128 i (o + 1)) 129 i (ff μ (i / μ 1 1) (o / μ 1 1) f a) else ν) → pX8_call G n K 32 [some (Rv G 127), some (Iv i), some (Iv o), some (Iv a)] [] ν := by
          intro f
          induction f with
          | zero =>
            intro a e0 e1 hk
            refine bX8_call_32 hn ?_
            rw [hS.1, ← c1]
            simp (disch := omega) only [wr_of]
            exact ⟨fun _ => hk, fun z => by omega⟩
          | succ f ih =>
            intro a e0 e1 hk
            unfold ff at hk
            have l1 := h.lr (b := 7) (s := i / μ 1 1) (a := a) (by omega) s1.1 (by omega) e0 (by omega)
            have l2 := h.lr (b := 13) (s := o / μ 1 1) (a := a) (by omega) s2.1 (by omega) e0 (by omega)
            refine bX8_call_32 hn ?_
            rw [hS.1, hS.1, ← c1, ← b1, zdiv_of z.1 (by omega) (by omega) (by omega)]
            simp (disch := omega) only [wr_of]
            refine ⟨fun z => by omega, fun _ => ⟨by omega, c8_atLeft' hn hS h s1.1 s1.2 e0 (by omega) ?_⟩⟩
            simp (disch := omega) only [wr_of]
            refine ⟨fun z => ?_, fun z => ?_⟩
            · rw [if_neg (fun q => z q.1)] at hk
              exact ih (a + 1) (by omega) (by omega) hk
            · rw [hS.1, ← b1, zdiv_of z2.1 (by omega) (by omega) (by omega)]
              simp (disch := omega) only [wr_of]
              refine ⟨by omega, c8_atRight' hn hS h s2.1 s2.2 e0 (by omega) ?_⟩
              simp (disch := omega) only [wr_of]
              refine ⟨fun z2 => ?_, fun z2 => eX8_setUp hn ?_⟩
              · rw [if_neg (fun q => z2 q.2)] at hk
                exact ih (a + 1) (by omega) (by omega) hk
              · rw [if_pos ⟨z, z2⟩, if_pos ⟨rfl, by omega⟩] at hk
                simp (disch := omega) only [wr_of]
                exact ⟨by omega, fun μ2 e2 => ⟨by omega, fun μ4 e4 => by rw [e4, e2]; exact hk⟩⟩
        exact key _ 0 (by omega) (by omega) hK
      · rw [if_neg fr]
        rw [show rfz μ i o = -3 by unfold rfz; rw [if_pos ⟨z, z2⟩, if_neg fr]] at hK
        exact ⟨fun q => absurd q (by decide), fun _ => hK⟩
    · rw [show rfz μ i o = -1 by unfold rfz; rw [if_neg (fun q => z2 q.2)]] at hK
      exact hK
theorem onm_Sm (h : Gd μ) {i o a : Int} (f1 : 0 ≤ i ∧ i < μ 1 0 * μ 1 1) (f2 : 0 ≤ o ∧ o < μ 1 0 * μ 1 1) : Sm μ (onm μ i o a) := by
  have hN := h.nn
  obtain ⟨⟨a1, a2, a3⟩, ⟨b1, b2, b3⟩, c1, c2, c3⟩ := id h
  have s1 := sw_lt f1.1 f1.2 (show 0 < μ 1 1 by omega)
  have s2 := sw_lt f2.1 f2.2 (show 0 < μ 1 1 by omega)
  unfold onm
  refine ⟨fun j => ?_, fun j => ?_, fun j => ?_⟩ <;> unfold zu <;> repeat rw [if_neg (by omega)]
theorem t_call (hn : 154 ≤ n) (h : I1 μ) {i o : Int} (hi : R32 i) (ho : R32 o) : mX7_call G n i o μ (fun a μ1 => mX8_call G n i o μ1 (fun b μ2 => a = b ∧ I1 μ2 ∧ Fz 1 μ μ2)) := by
  have hN := h.gd.nn
  have S0 : Sm μ μ := ⟨fun _ => rfl, fun _ => rfl, fun _ => rfl⟩
  refine eX7_call hn (c6_refusalOf hn h hi ho ?_)
  by_cases c : rfz μ i o = 0
  · have c' := c
    unfold rfz at c
    split at c
    · rename_i z
      split at c
      · rename_i fr
        rw [c']
        refine ⟨fun _ => c6_setUpFirst hn h z.1 z.2 ?_, fun q => absurd rfl q⟩
        rcases ff_spec (μ := μ) (i / μ 1 1) (o / μ 1 1) (μ 1 2).toNat 0 with q | q
        · rw [if_pos q]
          refine c8_call hn S0 h hi ho ?_
          rw [c', if_pos rfl, if_neg (fun w => w.2 q)]
          exact ⟨rfl, h, Fz.rf⟩
        · have c3 := h.gd.2.2
          have fr2 : Fr μ i o (ff μ (i / μ 1 1) (o / μ 1 1) (μ 1 2).toNat 0) := ⟨z.1, z.2, ⟨q.1, by omega⟩, fr.1, fr.2, q.2.2⟩
          rw [if_neg (by omega)]
          refine c8_call hn (onm_Sm h.gd z.1 z.2) h hi ho ?_
          rw [c', if_pos rfl, if_pos ⟨rfl, by omega⟩]
          obtain ⟨p, f⟩ := on_on h fr2
          exact ⟨rfl, p.I1 h fr2, f⟩
      · omega
    · omega
  · have r : rfz μ i o = -3 ∨ rfz μ i o = -1 := by
      unfold rfz at c ⊢
      split at c
      · rename_i z
        rw [if_pos z]
        split at c
        · exact absurd rfl c
        · rename_i z2; rw [if_neg z2]; exact Or.inl rfl
      · rename_i z; rw [if_neg z]; exact Or.inr rfl
    refine ⟨fun q => ?_, fun _ => c8_call hn S0 h hi ho ?_⟩
    · rcases r with r | r <;> rw [r] at q <;> exact absurd q (by decide)
    · rw [if_neg c, if_neg (fun q => c q.1)]
      exact ⟨rfl, h, Fz.rf⟩
end T19
