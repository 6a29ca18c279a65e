section T92
variable {G : zG} {n : Nat} {μ ν κ : zM}
theorem c3_part (hn : 154 ≤ n) (h : B4 μ) (h2 : (μ 45 2 = 0 ∧ PH μ) ∨ μ 45 2 = 1) {K : zM → Prop} (hK : ∀ ν : zM, PH ν → ν 45 2 = 0 → (∀ a j, (a = 45 → j = 0) → ¬ (53 ≤ a ∧ a ≤ 59) → ¬ (61 ≤ a ∧ a ≤ 98) → ν a j = μ a j) → K ν) : mX3_partIfStale G n μ K := by
  have p := h.1
  obtain ⟨P, hP⟩ := Int.eq_ofNat_of_zero_le (show 0 ≤ μ 99 0 by omega)
  have hP0 : μ 45 0 = P := by rw [p.2.2.1, hP]
  have hP1 : 1 ≤ P := by omega
  have hP5 : P ≤ 5 := by omega
  have t0 := tq_all hP1 hP5 h.tb 0 (h.tb.s (m := P) (P := P) hP5 hP5).1
  refine eX3_partIfStale (by omega) ⟨fun z μ2 e2 => ?_, fun z => ?_⟩
  · have f2 : ∀ a j, ¬ (a = 45 ∧ j = 2) → μ2 a j = μ a j := fun a j q => by rw [e2, zu_ne q]
    have copy : ∀ (g : Nat) (x : Int) (κ : zM), 0 ≤ x → x + g = P → (∀ i o : Int, 0 ≤ i → i < x → 0 ≤ o → o < P → κ (53 + i) o = tT μ i o) → (∀ a j, ¬ (53 ≤ a ∧ a ≤ 57) → κ a j = μ2 a j) → pX3_partIfStale G n K 15 [some (Rv G 45), some (Iv x), none, none] [] κ := by
      intro g
      induction g with
      | zero =>
        intro x κ x0 ex hc hf
        have hPk : κ 45 0 = P := by rw [hf 45 0 (by decide), f2 45 0 (by decide)]; exact hP0
        refine bX3_partIfStale_15 (by omega) ?_
        rw [hPk]
        simp (disch := omega) only [wr_of]
        refine ⟨fun _ => c3_addUp hn (Or.inr rfl) (P := P) (T := tq P (tT μ) 0) hPk hP5 t0.1 (fun i o i0 i1 o0 o1 => ?_) (fun μ3 ad μ4 e4 => ?_), fun z => by omega⟩
        · rw [show (52 : Int) + 1 + i = 53 + i by omega, hc i o i0 (by omega) o0 o1]
          exact (cut_in i0 i1 o0 o1).symm
        · obtain ⟨ad1, ad2, ad3⟩ := ad
          have ff : Fp μ2 μ4 := fun a j q1 q2 q3 => by
            rw [e4, zu_ne (by omega), ad3 a j (by omega) (by omega) (by omega), hf a j (by omega)]
          refine c3_phases hn hP1 hP5 h.tb (μ := μ2) (by rw [f2 45 0 (by decide)]; exact hP0) (fun k ν k0 k1 hk hph hps hfp => ?_) 36 0 0 μ4 (by omega) (h.tb.s (m := P) (P := P) hP5 hP5).1 (Or.inl ?_) ?_ ⟨fun j j0 j1 => by omega, fun j j0 j1 => by omega⟩ rfl (fun w => by omega) (fun i o i0 i1 o0 o1 => ?_) (fun i i0 i1 => ?_) ?_ ff
          · have tt : ∀ i o : Int, 0 ≤ i → i < P → 0 ≤ o → o < P → tT μ i o = tT ν i o := fun i o i0 i1 o0 o1 => by
              show μ (47 + i) o = ν (47 + i) o
              rw [hfp _ _ (by omega) (by omega) (by omega), f2 _ _ (by omega)]
            refine hK ν ⟨P, ?_, by rw [hk]; exact ⟨k0, k1⟩, ?_, ?_⟩ ?_ (fun a j q1 q2 q3 => ?_)
            · rw [hfp 45 0 (fun _ => ⟨by decide, by decide⟩) (by decide) (by decide), f2 45 0 (by decide)]; exact hP0
            · rw [hk]; exact PHk_e hP5 hph (fun _ => rfl) (fun _ _ _ _ => rfl) tt
            · rw [hk, hps]; exact spn_e tt
            · rw [hfp 45 2 (fun _ => ⟨by decide, by decide⟩) (by decide) (by decide), e2, zu_same]
            · rw [hfp a j (fun w => by have := q1 w; omega) q2 q3, f2 a j (fun w => by have := q1 w.1; omega)]
          · have := (phi_r (P := P) (T := tq P (tT μ) 0) hP5).2; omega
          · rw [e4, zu_same]; rfl
          · rw [e4, zu_na (by omega), ad3 _ _ (by omega) (by omega) (by omega), hc i o i0 (by omega) o0 o1]
            exact (cut_in i0 i1 o0 o1).symm
          · rw [e4, zu_na (by decide), zu_na (by decide)]; exact ad1 i i0 i1
          · rw [e4, zu_ne (by decide)]; exact ad2
      | succ g ih =>
        intro x κ x0 ex hc hf
        have hPk : κ 45 0 = P := by rw [hf 45 0 (by decide), f2 45 0 (by decide)]; exact hP0
        refine bX3_partIfStale_15 (by omega) ?_
        rw [hPk, show (52 : Int) + 1 = 53 from rfl, show (46 : Int) + 1 = 47 from rfl]
        simp (disch := omega) only [wr_of]
        refine ⟨fun z => by omega, fun _ => ⟨by omega, by omega, by omega, by omega, by omega, fun μ10 e10 => ih (x + 1) μ10 (by omega) (by omega) (fun i o i0 i1 o0 o1 => ?_) (fun a j w => ?_)⟩⟩
        · rw [e10]; unfold zcp
          by_cases q : i = x
          · rw [if_pos ⟨by omega, by omega, by omega⟩, hf _ _ (by omega), f2 _ _ (by omega), q]
            show μ (47 + x) (0 + (o - 0)) = μ (47 + x) o
            congr 1; omega
          · rw [if_neg (by omega)]; exact hc i o i0 (by omega) o0 o1
        · rw [e10]; unfold zcp; rw [if_neg (by omega)]; exact hf a j w
    exact copy P 0 μ2 (by decide) (by omega) (fun i o i0 i1 => by omega) (fun _ _ _ => rfl)
  · rcases h2 with w | w
    · exact hK μ w.2 w.1 (fun _ _ _ _ _ => rfl)
    · rw [w] at z; exact absurd z (by decide)
/-- the crossbar's invariant -/
def I4 (μ : zM) : Prop := B4 μ ∧ ((μ 45 2 = 0 ∧ PH μ) ∨ μ 45 2 = 1)
theorem I4.e (h : I4 μ) (hb : B4 ν) (e0 : ν 45 0 = μ 45 0) (e1 : ν 45 1 = μ 45 1) (e2 : ν 45 2 = μ 45 2) (eT : ∀ a j, 47 ≤ a → a ≤ 51 → ν a j = μ a j) (e61 : ∀ a j, 61 ≤ a → a ≤ 97 → ν a j = μ a j) : I4 ν := by
  refine ⟨hb, ?_⟩
  rw [e2]
  rcases h.2 with w | w
  · have := h.1.1
    exact Or.inl ⟨w.1, PH_e (by omega) w.2 e0 e1 eT e61⟩
  · exact Or.inr w
theorem c3_outlet (hn : 154 ≤ n) (h : I4 μ) {P : Nat} (hP : μ 99 0 = P) {k i : Int} (k0 : 0 ≤ k) (k1 : k < spn (tT μ) P) (i0 : 0 ≤ i) (i1 : i < P) {K : Int → zM → Prop} (hK : ∀ ν : zM, PH ν → ν 45 2 = 0 → (∀ a j, (a = 45 → j = 0) → ¬ (53 ≤ a ∧ a ≤ 59) → ¬ (61 ≤ a ∧ a ≤ 98) → ν a j = μ a j) → K (mr P (fr P (tq P (tT μ) k.toNat)) i) ν) : mX3_outletIn G n k i μ K := by
  have p := h.1.1
  have hP1 : 1 ≤ P := by omega
  have hP5 : P ≤ 5 := by omega
  have s250 : spn (tT μ) P ≤ 250 := (h.1.tb.s (m := P) (P := P) hP5 hP5).2
  refine eX3_outletIn (by omega) (c3_part hn h.1 h.2 (fun ν ph n2 hf => ?_))
  have e0 : ν 45 0 = P := by rw [hf 45 0 (fun _ => rfl) (by decide) (by decide), p.2.2.1]; exact hP
  obtain ⟨P', hP', hk, hh, he⟩ := id ph
  have : P' = P := by omega
  subst this
  have tt : ∀ i o : Int, 0 ≤ i → i < P' → 0 ≤ o → o < P' → tT ν i o = tT μ i o := fun i o i0 i1 o0 o1 => hf (47 + i) o (by omega) (by omega) (by omega)
  rw [spn_e tt] at he
  have loop : ∀ (g : Nat) (j : Int), 0 ≤ j → j + g = ν 45 1 → pst ν j ≤ k → pX3_outletIn G n K 6 [some (Rv G 45), some (Iv k), some (Iv i), some (Iv j)] [] ν := by
    intro g
    induction g with
    | zero =>
      intro j j0 ej hp
      rw [show j = ν 45 1 by omega, he] at hp
      omega
    | succ g ih =>
      intro j j0 ej hp
      have hj := hh.1 j j0 (by omega)
      refine bX3_outletIn_6 (by omega) ?_
      rw [show (60 : Int) + 1 = 61 from rfl]
      simp (disch := omega) only [wr_of]
      refine ⟨fun z => by omega, fun _ => ⟨by omega, fun z => ih (j + 1) (by omega) (by omega) ?_, fun z => ⟨by omega, by omega, ?_⟩⟩⟩
      · unfold pst; rw [if_neg (by omega), show j + 1 - 1 = j by omega]; exact z
      · have := hj.2 k.toNat (by omega) (by omega) i i0 i1
        rw [tq_c tt] at this
        rw [this]
        exact hK ν ph n2 hf
  exact loop (ν 45 1).toNat 0 (by decide) (by omega) (by unfold pst; rw [if_pos rfl]; exact k0)
/-- a round of the model -/
theorem m8_take (hn : 154 ≤ n) {P : Nat} {T : Int → Int → Int} (hP1 : 1 ≤ P) (hP5 : P ≤ 5) (hT : Tb T) {t : Nat} (ht : (t : Int) < spn T P) (hP : ν 127 30 = P) (hm : ∀ i o : Int, 0 ≤ i → i < P → 0 ≤ o → o < P → ν 146 (5 * i + o) = tq P T t i o) {K : zM → Prop} (hK : ∀ κ : zM, (∀ i o : Int, 0 ≤ i → i < P → 0 ≤ o → o < P → κ 146 (5 * i + o) = tq P T (t + 1) i o) → (∀ x : Int, 0 ≤ x → x < P → κ 150 x = fr P (tq P T t) x) → (∀ a j, a ≠ 146 → a ≠ 150 → ¬ (a = 127 ∧ j = 38) → κ a j = ν a j) → K κ) : mX8_takeRound G n ν K := by
  have a := tq_all hP1 hP5 hT t (by omega)
  have s250 : spn (tq P T t) P ≤ 250 := (a.1.s (m := P) (P := P) hP5 hP5).2
  refine c8_takeRound hn hP hP1 hP5 a.1 hm ⟨s250, by omega⟩ (tight_in hP1 hP5 a.1 (by omega)) (fun c s r κ e no tg hx hl hf => ?_)
  have f := fr_e (FR_s e no tg)
  refine hK κ (fun i o i0 i1 o0 o1 => ?_) (fun x x0 x1 => by rw [f]; exact hx x x0 x1) hf
  rw [hl i o i0 i1 o0 o1]
  show _ = lsm P (tq P T t) (fr P (tq P T t)) 1 i o
  rw [f, lsm_in i0 i1 o0 o1]; rfl
end T92
