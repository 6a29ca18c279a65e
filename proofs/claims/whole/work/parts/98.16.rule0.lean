section T73
variable {G : zG} {n : Nat} {μ ν κ : zM}
theorem us_tk {P : Int} {Q : Int → Int → Int} {m : Int → Int} {i o x : Int} (hi : 0 ≤ i ∧ i < P) (can : m i = -9 ∧ us m o P.toNat = false ∧ 0 < Q i o) (x0 : 0 ≤ x) : us (tk P Q m i o) x P.toNat = if x = o then true else us m x P.toNat := by
  by_cases c : x = o
  · rw [if_pos c]
    cases hu : us (tk P Q m i o) x P.toNat with
    | true => rfl
    | false =>
      have := us_f hu i hi.1 (by omega)
      unfold tk at this
      rw [if_pos can] at this
      simp only [if_true] at this
      exact absurd c.symm this
  · rw [if_neg c]
    cases hu : us m x P.toNat with
    | false =>
      refine us_mk (fun y y0 y1 => ?_)
      unfold tk
      rw [if_pos can]
      by_cases d : y = i
      · simp only [if_pos d]; exact fun w => c w.symm
      · simp only [if_neg d]; exact us_f hu y y0 y1
    | true =>
      cases hu2 : us (tk P Q m i o) x P.toNat with
      | true => rfl
      | false =>
        have : us m x P.toNat = false := us_mk (fun y y0 y1 => by
          have t := us_f hu2 y y0 y1
          unfold tk at t
          rw [if_pos can] at t
          by_cases d : y = i
          · rw [d, can.1]; omega
          · simp only [if_neg d] at t; exact t)
        rw [hu] at this; exact absurd this (by decide)
theorem gr_c {P : Int} {T : Int → Int → Int} (hp : 1 ≤ P) : ∀ (g : Nat) (d : Int) (U U' : Int → Bool) (c : Int → Int), (∀ o, 0 ≤ o → o < P → U o = U' o) → gr P T g d U c = gr P T g d U' c
  | 0, _, _, _, _, _ => rfl
  | g + 1, d, U, U', c, h => by
    have e : bw (okU P T d U) (xv P T g d U) (P + 1).toNat 0 = bw (okU P T d U') (xv P T g d U') (P + 1).toNat 0 := bw_c (P + 1).toNat 0 (fun u a b => ⟨by
      unfold okU
      by_cases e : u = P
      · rw [decide_eq_true (Or.inl e), decide_eq_true (Or.inl e)]
      · rw [h u a (by omega)], by
      show rvl P T d u + bv P T g (d + 1) (upU U u) = rvl P T d u + bv P T g (d + 1) (upU U' u)
      rw [bv_c hp g (d + 1) (upU U u) (upU U' u) (fun o o0 o1 => by unfold upU; rw [h o o0 o1])]⟩)
    simp only [gr]
    rw [e]
    exact gr_c hp g (d + 1) _ _ _ (fun o o0 o1 => by unfold upU; rw [h o o0 o1])
def mmi (P i : Int) (c : Int → Int) : Int → Int := fun x => if x < i then mr P c x else -9
theorem c4_bySum (hn : 154 ≤ n) {P : Int} {Q : Int → Int → Int} {pi po : Int → Int} (q : Qk P Q) (st : StC P Q pi po ν) {K : zM → Prop}
    (hK : ∀ ν' : zM, (∀ i, 0 ≤ i → i < 5 → ν' 106 i = mr P (gr P Q P.toNat 0 (fun _ => false) (fun _ => 0)) i) → (∀ a j, a ≠ 106 → a ≠ 107 → ¬ (112 ≤ a ∧ a ≤ 117) → ν' a j = ν a j) → K ν') : mX4_matchBySum G n ν K := by
  have hp := q.1
  have zz := zs_r (P := P) (by omega) hp.2
  have hT : ∀ i o, 0 ≤ i → i < P → 0 ≤ o → o < P → 0 ≤ Q i o ∧ Q i o ≤ 1000 := fun i o i0 i1 o0 o1 => ⟨(q.2 i o i0 (by omega) o0 (by omega)).1, (q.2 i o i0 (by omega) o0 (by omega)).2.1⟩
  refine eX4_matchBySum (by omega) (c4_sums hn q st.1 st.2.1 (fun ν1 bs hf => ?_))
  have h99 : ν1 99 0 = P := by rw [hf _ _ (by omega)]; exact st.1
  have hQ : ∀ i o, 0 ≤ i → i < 5 → 0 ≤ o → o < 5 → ν1 (101 + i) o = Q i o := fun i o i0 i1 o0 o1 => by rw [hf _ _ (by omega)]; exact st.2.1 i o i0 i1 o0 o1
  have outer : ∀ (g : Nat) (i m : Int) (c : Int → Int) (κ : zM), 0 ≤ i → i + g = P → 0 ≤ m → m < zshl 1 P → MC P (mmi P i c) ν1 κ → Vm P Q (mmi P i c) → (∀ o, 0 ≤ o → o < P → us (mmi P i c) o P.toNat = Um m o) → gr P Q P.toNat 0 (fun _ => false) (fun _ => 0) = gr P Q g i (Um m) c → pX4_matchBySum G n K 8 [some (Rv G 99), some (Iv m), some (Iv i), none] [] κ := by
    intro g
    induction g with
    | zero =>
      intro i m c κ i0 ei m0 m1 mc v hu e
      refine bX4_matchBySum_8 (by omega) ?_
      rw [mc.2.2 99 0 (by decide) (by decide), h99]
      simp (disch := omega) only [wr_of]
      refine ⟨fun _ => hK κ (fun x x0 x1 => ?_) (fun a j a1 a2 a3 => by rw [mc.2.2 a j a1 a2]; exact hf a j a3), fun z => by omega⟩
      rw [mc.1 x x0 x1, e]
      show mmi P i c x = mr P c x
      unfold mmi
      by_cases w : x < i
      · rw [if_pos w]
      · rw [if_neg w]; unfold mr; rw [if_neg (by omega)]
    | succ g ih =>
      intro i m c κ i0 ei m0 m1 mc v hu e
      have eg : (P - (i + 1)).toNat = g := by omega
      have eg2 : (P - i).toNat = g + 1 := by omega
      have mi : mmi P i c i = -9 := by unfold mmi; rw [if_neg (by omega)]
      have eB : bv P Q (g + 1) i (Um m) = (bw (okU P Q i (Um m)) (xv P Q g i (Um m)) (P + 1).toNat 0).1 := rfl
      have rB := bv_0 hp.1 hT (g + 1) i (Um m) i0 (by omega)
      have fB := bw_f (ok := okU P Q i (Um m)) (x := xv P Q g i (Um m)) (P + 1).toNat 0
      have lB := bw_lt (ok := okU P Q i (Um m)) (x := xv P Q g i (Um m)) (P + 1).toNat 0
      have e2 : gr P Q P.toNat 0 (fun _ => false) (fun _ => 0) = gr P Q g (i + 1) (upU (Um m) (bw (okU P Q i (Um m)) (xv P Q g i (Um m)) (P + 1).toNat 0).2) (up c i (bw (okU P Q i (Um m)) (xv P Q g i (Um m)) (P + 1).toNat 0).2) := e
      have bsi : BS P Q 0 κ := fun i y a b y0 y1 => by rw [mc.2.2 _ _ (by omega) (by omega)]; exact bs i y a b y0 y1
      have b1 := bsi i m i0 (by omega) m0 m1
      rw [eg2] at b1
      rw [← eB] at fB lB
      generalize hBB : bv P Q (g + 1) i (Um m) = B at *
      generalize (bw (okU P Q i (Um m)) (xv P Q g i (Um m)) (P + 1).toNat 0).2 = u at *
      rcases fB with fB | ⟨f1, f2, f3, f4⟩
      · omega
      have lB2 := lB (by omega)
      clear lB
      have h99k : κ 99 0 = P := by rw [mc.2.2 99 0 (by decide) (by decide)]; exact h99
      have hQk : ∀ i o, 0 ≤ i → i < 5 → 0 ≤ o → o < 5 → κ (101 + i) o = Q i o := fun i o i0 i1 o0 o1 => by rw [mc.2.2 _ _ (by omega) (by omega)]; exact hQ i o i0 i1 o0 o1
      have k106 : κ 106 i = -9 := by rw [mc.1 i i0 (by omega)]; exact mi
      -- it gets none
      have none' : u = P → pX4_matchBySum G n K 8 [some (Rv G 99), some (Iv m), some (Iv (i + 1)), none] [] κ := fun uP => by
        have em : mmi P (i + 1) (up c i P) = mmi P i c := by
          funext x
          unfold mmi mr up
          by_cases w : x = i
          · rw [if_pos (by omega), if_pos w, if_neg (by omega), if_neg (by omega)]
          · by_cases w2 : x < i
            · rw [if_pos (by omega), if_neg w, if_pos w2]
            · rw [if_neg (by omega), if_neg w2]
        rw [uP] at e2
        refine ih (i + 1) m (up c i P) κ (by omega) (by omega) m0 m1 (by rw [em]; exact mc) (by rw [em]; exact v) (by rw [em]; exact hu) ?_
        rw [e2]
        exact gr_c hp.1 _ _ _ _ _ (fun o o0 o1 => by unfold upU; rw [if_neg (by omega)])
      -- it gets u
      have some' : u < P → (mmi P i c i = -9 ∧ us (mmi P i c) u P.toNat = false ∧ 0 < Q i u) → ∀ κ', MC P (tk P Q (mmi P i c) i u) ν1 κ' → pX4_matchBySum G n K 8 [some (Rv G 99), some (Iv (zor m (zshl 1 u))), some (Iv (i + 1)), none] [] κ' := fun uP can κ' mc' => by
        have orr := or_r (P := P) (by omega) hp.2 m0 m1 f1 uP
        have em : mmi P (i + 1) (up c i u) = tk P Q (mmi P i c) i u := by
          unfold tk
          rw [if_pos can]
          funext x
          unfold mmi mr up
          by_cases w : x = i
          · rw [if_pos (by omega), if_pos w, if_pos (by omega), if_pos w]
          · rw [if_neg w]
            by_cases w2 : x < i
            · rw [if_pos (by omega), if_neg w, if_pos w2]
            · rw [if_neg (by omega), if_neg w, if_neg w2]
        refine ih (i + 1) (zor m (zshl 1 u)) (up c i u) κ' (by omega) (by omega) orr.1 orr.2 (by rw [em]; exact mc') (by rw [em]; exact tk_v v (by omega) f1 uP) (fun o o0 o1 => ?_) ?_
        · rw [em, us_tk ⟨i0, by omega⟩ can o0, um_or m0 (by omega) f1 (by omega) o0 (by omega), hu o o0 o1]; rfl
        · rw [e2]
          exact gr_c hp.1 _ _ _ _ _ (fun o o0 o1 => (um_or m0 (by omega) f1 (by omega) o0 (by omega)).symm)
      have inner : ∀ (g2 : Nat) (o : Int), 0 ≤ o → o + g2 = P → o ≤ u → pX4_matchBySum G n K 18 [some (Rv G 99), some (Iv m), some (Iv i), some (Iv o)] [] κ := by
        intro g2
        induction g2 with
        | zero =>
          intro o o0 eo ou
          refine bX4_matchBySum_18 (by omega) ?_
          rw [h99k]
          simp (disch := omega) only [wr_of]
          rw [k106]
          exact ⟨fun _ => ⟨by omega, fun _ => none' (by omega), fun w => absurd rfl w⟩, fun z => by omega⟩
        | succ g2 ih2 =>
          intro o o0 eo ou
          have uo : us (mmi P i c) o P.toNat = Um m o := hu o o0 (by omega)
          refine bX4_matchBySum_18 (by omega) ?_
          rw [h99k, show (111 : Int) + 1 = 112 from rfl]
          simp (disch := omega) only [wr_of]
          rw [k106]
          refine ⟨fun z => by omega, fun _ => ⟨by omega, fun w => absurd rfl w, fun _ => c4_canMatch hn q v hQ ⟨i0, by omega⟩ ⟨o0, by omega⟩ mc (fun no => ⟨fun _ => ih2 (o + 1) (by omega) (by omega) ?_, fun w => absurd rfl w⟩) (fun can => ⟨fun w => absurd w (by decide), fun _ => c4_sumWith hn q hQk i0 (by omega) o0 (by omega) m0 m1 (fun i y a b y0 y1 => bsi i y (by omega) b y0 y1) ?_⟩)⟩⟩
          · refine Classical.byContradiction (fun w => no ?_)
            have : o = u := by omega
            rw [← this] at f3
            rcases of_decide_eq_true f3 with y | y
            · omega
            · exact ⟨mi, by rw [uo]; exact y.2, y.1⟩
          · have okk : okU P Q i (Um m) o = true := decide_eq_true (Or.inr ⟨can.2.2, by rw [← uo]; exact can.2.1⟩)
            have xr : -1 ≤ xv P Q g i (Um m) o ∧ xv P Q g i (Um m) o ≤ B := by
              have t := bv_0 hp.1 hT g (i + 1) (upU (Um m) o) (by omega) (by omega)
              have q1 := hT i o i0 (by omega) o0 (by omega)
              refine ⟨by unfold xv rvl; rw [if_pos (by omega)]; omega, ?_⟩
              by_cases w : o = u
              · rw [w, f4]; omega
              · have := lB2 o (by omega) (by omega) okk; omega
            rw [eg]
            rw [b1]
            simp (disch := omega) only [wr_of]
            refine ⟨by omega, by omega, fun z => ih2 (o + 1) (by omega) (by omega) ?_, fun z => ?_⟩
            · have : o ≠ u := fun w => z (by rw [w]; exact f4)
              omega
            · have ou2 : o = u := Classical.byContradiction (fun w => by have := lB2 o (by omega) (by omega) okk; omega)
              subst ou2
              refine c4_match hn q ⟨i0, by omega⟩ ⟨o0, by omega⟩ mc can (fun κ' mc' => ?_)
              have nx := some' (by omega) can κ' mc'
              have k6 : κ' 106 i = o := by rw [mc'.1 i i0 (by omega)]; unfold tk; rw [if_pos can]; simp only [if_true]
              have k9 : κ' 99 0 = P := by rw [mc'.2.2 99 0 (by decide) (by decide)]; exact h99
              refine bX4_matchBySum_18 (by omega) ?_
              rw [k9]
              simp (disch := omega) only [wr_of]
              rw [k6]
              try simp (disch := omega) only [wr_of]
              have o9 : ¬ o = -9 := by omega
              exact ⟨fun _ => ⟨by omega, fun w => absurd w o9, fun _ => ⟨by omega, fun v5 e5 => by rw [e5]; exact nx⟩⟩, fun _ => ⟨by omega, fun _ => ⟨by omega, fun w => absurd w o9, fun _ => ⟨by omega, fun v11 e11 => by rw [e11]; exact nx⟩⟩, fun w => absurd w o9⟩⟩
      refine bX4_matchBySum_8 (by omega) ?_
      rw [h99k]
      simp (disch := omega) only [wr_of]
      exact ⟨fun z => by omega, fun _ => inner P.toNat 0 (by decide) (by omega) f1⟩
  have um0 : ∀ o : Fin 5, Um 0 (o.1 : Int) = false := by decide +kernel
  have um1 : ∀ o, 0 ≤ o → o < P → Um 0 o = false := fun o o0 o1 => by
    have := um0 ⟨o.toNat, by omega⟩
    simp only [Int.toNat_of_nonneg o0] at this
    exact this
  have e9 : ∀ x, 0 ≤ x → mmi P 0 (fun _ => 0) x = -9 := fun x x0 => by unfold mmi; rw [if_neg (by omega)]
  have us0 : ∀ o, 0 ≤ o → us (mmi P 0 (fun _ => 0)) o P.toNat = false := fun o o0 => us_mk (fun x x0 x1 => by rw [e9 x x0]; omega)
  refine outer P.toNat 0 0 (fun _ => 0) ν1 (by decide) (by omega) (by decide) (by omega) ⟨fun x x0 x1 => ?_, fun o o0 o1 => Or.inl ⟨?_, us0 o o0⟩, fun _ _ _ _ => rfl⟩ (fun x x0 x1 => Or.inl (e9 x x0)) (fun o o0 o1 => by rw [us0 o o0, um1 o o0 o1]) (gr_c hp.1 _ _ _ _ _ (fun o o0 o1 => (um1 o o0 o1).symm))
  · rw [hf _ _ (by omega), e9 x x0]; exact (st.2.2 x x0 x1).1
  · rw [hf _ _ (by omega)]; exact (st.2.2 o o0 (by omega)).2.1
theorem rule0 (hn : 154 ≤ n) : Rule G n 0 := by
  intro P Q pi po q hpp
  have hp := q.1
  have hT : ∀ i o, 0 ≤ i → i < P → 0 ≤ o → o < P → 0 ≤ Q i o ∧ Q i o ≤ 1000 := fun i o i0 i1 o0 o1 => ⟨(q.2 i o i0 (by omega) o0 (by omega)).1, (q.2 i o i0 (by omega) o0 (by omega)).2.1⟩
  have hR : ∀ c, c ∈ Rw P Q → Rok P Q c := fun c hc => rws_r hp.1 P.toNat 0 _ c (by decide) (by omega) (fun x x0 x1 => by omega) hc
  have v := (rbst_r hp hT (Rw P Q) hR).2
  have ee := rbst_gr hp hT
  refine ⟨(rbst P Q (Rw P Q)).2, pi, po, fun i i0 i1 => ⟨v i i0 i1, hpp i i0 i1⟩, fun ν K st hK => ⟨fun _ => c4_bySum hn q st (fun ν' h1 h2 => hK ν' ⟨fun i i0 i1 => ⟨by rw [ee]; exact h1 i i0 i1, ?_, ?_⟩, fun a j w => h2 a j (by omega) (by omega) (by omega)⟩), fun z => absurd z (by decide), fun z => absurd z (by decide)⟩, fun ν K st hK => ⟨fun _ => c8_greatest hn q st (fun ν' h1 h2 => hK ν' ⟨fun i i0 i1 => ⟨h1 i i0 i1, ?_, ?_⟩, fun a j w => h2 a j (fun e => w (by unfold Sl8; omega)) (fun e => w (by unfold Sl8; omega)) (fun e => w (by unfold Sl8; omega))⟩), fun z => absurd z (by decide), fun z => absurd z (by decide)⟩⟩
  · rw [h2 _ _ (by decide) (by decide) (by decide)]; exact (st.2.2 i i0 i1).2.2.1
  · rw [h2 _ _ (by decide) (by decide) (by decide)]; exact (st.2.2 i i0 i1).2.2.2
  · rw [h2 _ _ (by decide) (by decide) (fun w => absurd w.1 (by decide))]; exact (st.2.2 i i0 i1).2.1
  · rw [h2 _ _ (by decide) (by decide) (fun w => absurd w.1 (by decide))]; exact (st.2.2 i i0 i1).2.2
theorem all_rules (hn : 154 ≤ n) : ∀ rule : Int, 0 ≤ rule → rule ≤ 2 → Rule G n rule := fun r r0 r1 => by
  have : r = 0 ∨ r = 1 ∨ r = 2 := by omega
  rcases this with e | e | e
  · rw [e]; exact rule0 hn
  · rw [e]; exact rule1 hn
  · rw [e]; exact rule2 hn
end T73
