section T88
variable {G : zG} {n : Nat} {μ ν κ : zM}
theorem c3_find (hn : 154 ≤ n) {P : Nat} {T : Int → Int → Int} (hP1 : 1 ≤ P) (hP5 : P ≤ 5) (hP : κ 45 0 = P) (hT : Tb T) (hm : ∀ i o : Int, 0 ≤ i → i < P → 0 ≤ o → o < P → κ (53 + i) o = T i o) (h58 : ∀ i : Int, 0 ≤ i → i < P → κ 58 i = rs T P i ∧ κ 59 i = cs T P i) (h3 : κ 45 3 = spn T P) {K : zM → Prop} (hK : ∀ κ' : zM, GB P T (spn T P) 0 κ' → (∀ a j, a ≠ 98 → κ' a j = κ a j) → K κ') : mX3_findWhatGoesOn G n κ K := by
  have zz := zs_r (P := P) (by omega) (by omega)
  have ss : 0 ≤ spn T P ∧ spn T P ≤ 250 := hT.s (m := P) (P := P) hP5 hP5
  generalize hsp : spn T P = s at *
  have rows : ∀ (k : Nat) (κ1 : zM), (k : Int) ≤ P → GB P T s k κ1 → (∀ a j, a ≠ 98 → κ1 a j = κ a j) → pX3_findWhatGoesOn G n K 95 [some (Rv G 45), none, some (Iv ((k : Int) - 1)), none] [] κ1 := by
    intro k
    induction k with
    | zero =>
      intro κ1 kP gb hf
      refine bX3_findWhatGoesOn_95 (by omega) ?_
      simp (disch := omega) only [wr_of]
      exact ⟨fun _ => hK κ1 gb hf, fun z => by omega⟩
    | succ k ih =>
      intro κ1 kP gb hf
      have ek : ((k + 1 : Nat) : Int) - 1 = k := by omega
      rw [ek]
      have eg : ((P : Int) - (k : Int)).toNat = ((P : Int) - ((k : Int) + 1)).toNat + 1 := by omega
      have masks : ∀ (g : Nat) (m : Int) (κ2 : zM), 0 ≤ m → m + g = zshl 1 P → GB P T s (k + 1 : Nat) κ2 → (∀ y, 0 ≤ y → y < m → (ib (κ2 98 k) y.toNat = true ↔ gon P T s ((P : Int) - k).toNat k (Um y))) → (∀ y, m ≤ y → y < zshl 1 P → (ib (κ2 98 k) y.toNat = true ↔ (rs T P k ≠ s ∧ gon P T s ((P : Int) - ((k : Int) + 1)).toNat ((k : Int) + 1) (Um y)))) → (∀ a j, a ≠ 98 → κ2 a j = κ a j) → pX3_findWhatGoesOn G n K 132 [some (Rv G 45), none, some (Iv (k : Int)), some (Iv m)] [] κ2 := by
        intro g
        induction g with
        | zero =>
          intro m κ2 m0 em gb2 hd hr hf2
          refine bX3_findWhatGoesOn_132 (by omega) ?_
          rw [hf2 45 0 (by decide), hP]
          simp (disch := omega) only [wr_of]
          refine ⟨fun _ => ?_, fun z => by omega⟩
          have := ih κ2 (by omega) (fun i y a b y0 y1 => ?_) hf2
          · rw [show (k : Int) + -1 = (k : Int) - 1 by omega]; exact this
          · by_cases e : i = k
            · rw [e]; exact hd y y0 (by omega)
            · exact gb2 i y (by omega) b y0 y1
        | succ g ihg =>
          intro m κ2 m0 em gb2 hd hr hf2
          have m1 : m < zshl 1 P := by omega
          have hrm := hr m (Int.le_refl m) m1
          refine bX3_findWhatGoesOn_132 (by omega) ?_
          rw [hf2 45 0 (by decide), hP]
          simp (disch := omega) only [wr_of]
          refine ⟨fun z => by omega, fun _ => c3_canGiveAny (s := s) hn hP5 (by rw [hf2 45 0 (by decide)]; exact hP) hT (fun i o i0 i1 o0 o1 => by rw [hf2 _ _ (by omega)]; exact hm i o i0 i1 o0 o1) (by omega) (by omega) m0 m1 (fun i y a b y0 y1 => gb2 i y (by omega) b y0 y1) (fun o o0 o1 cg => ⟨fun z => absurd z (by decide), fun _ => ⟨by omega, by omega, fun μ7 e7 => ?_⟩⟩) (fun no => ⟨fun _ => ?_, fun z => absurd rfl z⟩)⟩
          · have w98 : ∀ j, j ≠ (k : Int) → μ7 98 j = κ2 98 j := fun j q => by rw [e7]; unfold zu; rw [if_neg (fun u => q u.2)]
            have wk : μ7 98 k = zor (κ2 98 k) (zshl 1 m) := by rw [e7]; unfold zu; rw [if_pos ⟨rfl, rfl⟩]
            refine ihg (m + 1) μ7 (by omega) (by omega) (fun i y a b y0 y1 => ?_) (fun y y0 y1 => ?_) (fun y y0 y1 => ?_) (fun a j w => by rw [e7, zu_na w]; exact hf2 a j w)
            · rw [w98 i (by omega)]; exact gb2 i y a b y0 y1
            · rw [wk, ib_up m0 (by omega) y0 (by omega)]
              by_cases e : y = m
              · rw [if_pos e, e]
                refine ⟨fun _ => ?_, fun _ => rfl⟩
                rw [eg]
                exact Or.inr ⟨o, ⟨o0, o1⟩, cg.1, cg.2.1, cg.2.2⟩
              · rw [if_neg e]; exact hd y y0 (by omega)
            · rw [wk, ib_up m0 (by omega) (by omega) (by omega), if_neg (by omega)]
              exact hr y (by omega) y1
          · refine ihg (m + 1) κ2 (by omega) (by omega) gb2 (fun y y0 y1 => ?_) (fun y y0 y1 => hr y (by omega) y1) hf2
            by_cases e : y = m
            · rw [e, hrm, eg]
              refine ⟨fun w => Or.inl w, fun w => ?_⟩
              rcases w with w | ⟨o, w0, w1, w2, w3⟩
              · exact w
              · exact absurd ⟨w1, w2, w3⟩ (no o w0.1 w0.2)
            · exact hd y y0 (by omega)
      have rk := (hT.r (m := P) hP5 (i := k) (by omega) (by omega)).1
      have rl := (spn_le (T := T) (P := P) (j := k) (by omega) (by omega)).1
      rw [hsp] at rl
      refine bX3_findWhatGoesOn_95 (by omega) ?_
      rw [hf 45 3 (by decide), h3]
      simp (disch := omega) only [wr_of]
      rw [hf 58 k (by decide), (h58 k (by omega) (by omega)).1]
      simp (disch := omega) only [wr_of]
      refine ⟨fun z => by omega, fun _ => ⟨by omega, fun z => ⟨by omega, fun μ5 e5 => ?_⟩, fun z => ⟨by omega, by omega, fun μ8 e8 => ?_⟩⟩⟩
      · refine masks (zshl 1 P).toNat 0 μ5 (by decide) (by omega) (fun i y a b y0 y1 => ?_) (fun y y0 y1 => by omega) (fun y y0 y1 => ?_) (fun a j w => by rw [e5, zu_na w]; exact hf a j w)
        · rw [e5]; unfold zu; rw [if_neg (by omega)]; exact gb i y a b y0 y1
        · rw [e5]; unfold zu; rw [if_pos ⟨rfl, rfl⟩, ib_0]
          refine ⟨fun w => absurd w (by decide), fun w => absurd ?_ w.1⟩
          omega
      · refine masks (zshl 1 P).toNat 0 μ8 (by decide) (by omega) (fun i y a b y0 y1 => ?_) (fun y y0 y1 => by omega) (fun y y0 y1 => ?_) (fun a j w => by rw [e8, zu_na w]; exact hf a j w)
        · rw [e8]; unfold zu; rw [if_neg (by omega)]; exact gb i y a b y0 y1
        · rw [e8]; unfold zu; rw [if_pos ⟨rfl, rfl⟩]
          have := gb ((k : Int) + 1) y (by omega) (by omega) y0 y1
          rw [this]
          exact ⟨fun w => ⟨by omega, w⟩, fun w => w.2⟩
  have last : ∀ nm : Int, 0 ≤ nm → nm < 32 → (∀ o : Int, 0 ≤ o → o < 5 → (Um nm o = true ↔ (o < P ∧ cs T P o = s))) → ∀ (g : Nat) (m : Int) (κ2 : zM), 0 ≤ m → m + g = zshl 1 P → (∀ y, 0 ≤ y → y < m → (ib (κ2 98 P) y.toNat = true ↔ gon P T s 0 P (Um y))) → (∀ y, m ≤ y → y < 32 → ib (κ2 98 P) y.toNat = false) → (∀ a j, a ≠ 98 → κ2 a j = κ a j) → pX3_findWhatGoesOn G n K 49 [some (Rv G 45), some (Iv nm), some (Iv m), none] [] κ2 := by
    intro nm n0 n1 hnm g
    induction g with
    | zero =>
      intro m κ2 m0 em hd hr hf2
      refine bX3_findWhatGoesOn_49 (by omega) ?_
      rw [hf2 45 0 (by decide), hP]
      simp (disch := omega) only [wr_of]
      refine ⟨fun _ v2 e2 => ?_, fun z => by omega⟩
      rw [e2]
      refine rows P κ2 (Int.le_refl _) (fun i y a b y0 y1 => ?_) hf2
      have : i = P := by omega
      rw [this, show ((P : Int) - P).toNat = 0 by omega]
      exact hd y y0 (by omega)
    | succ g ih =>
      intro m κ2 m0 em hd hr hf2
      have m1 : m < zshl 1 P := by omega
      have nt := need_t n0 n1 m0 (show m < 32 by omega)
      have nt2 : wr (zand nm (zxor m (-1))) = 0 ↔ gon P T s 0 P (Um m) := by
        rw [nt]
        constructor
        · intro h o o0 o1 q
          exact h o o0 (by omega) ((hnm o o0 (by omega)).mpr ⟨o1, q⟩)
        · intro h o o0 o1 q
          have := (hnm o o0 o1).mp q
          exact h o o0 this.1 this.2
      refine bX3_findWhatGoesOn_49 (by omega) ?_
      rw [hf2 45 0 (by decide), hP]
      simp (disch := omega) only [wr_of]
      refine ⟨fun z => by omega, fun _ => ⟨fun z => ih (m + 1) κ2 (by omega) (by omega) (fun y y0 y1 => ?_) (fun y y0 y1 => hr y (by omega) y1) hf2, fun z => ⟨by omega, by omega, fun μ6 e6 => ih (m + 1) μ6 (by omega) (by omega) (fun y y0 y1 => ?_) (fun y y0 y1 => ?_) (fun a j w => by rw [e6, zu_na w]; exact hf2 a j w)⟩⟩⟩
      · by_cases e : y = m
        · rw [e, hr m (Int.le_refl m) (by omega)]
          exact ⟨fun w => absurd w (by decide), fun w => absurd (nt2.mpr w) z⟩
        · exact hd y y0 (by omega)
      · rw [e6]; unfold zu; rw [if_pos ⟨rfl, rfl⟩, ib_up m0 (by omega) y0 (by omega)]
        by_cases e : y = m
        · rw [if_pos e, e]
          exact ⟨fun _ => nt2.mp z, fun _ => rfl⟩
        · rw [if_neg e]; exact hd y y0 (by omega)
      · rw [e6]; unfold zu; rw [if_pos ⟨rfl, rfl⟩, ib_up m0 (by omega) (by omega) y1, if_neg (by omega)]
        exact hr y (by omega) y1
  have first : ∀ (g : Nat) (o nm : Int), 0 ≤ o → o + g = P → 0 ≤ nm → nm < 32 → (∀ y : Int, 0 ≤ y → y < 5 → (Um nm y = true ↔ (y < o ∧ cs T P y = s))) → pX3_findWhatGoesOn G n K 4 [some (Rv G 45), some (Iv nm), some (Iv o), none] [] κ := by
    intro g
    induction g with
    | zero =>
      intro o nm o0 eo n0 n1 hnm
      have : o = P := by omega
      subst this
      refine bX3_findWhatGoesOn_4 (by omega) ?_
      rw [hP]
      simp (disch := omega) only [wr_of]
      refine ⟨fun _ => ⟨by omega, fun μ3 e3 => last nm n0 n1 hnm (zshl 1 P).toNat 0 μ3 (by decide) (by omega) (fun y y0 y1 => by omega) (fun y y0 y1 => ?_) (fun a j w => by rw [e3, zu_na w])⟩, fun z => by omega⟩
      rw [e3]; unfold zu; rw [if_pos ⟨rfl, rfl⟩, ib_0]
    | succ g ih =>
      intro o nm o0 eo n0 n1 hnm
      have cr := (hT.r (m := P) hP5 (i := o) o0 (by omega)).2
      refine bX3_findWhatGoesOn_4 (by omega) ?_
      rw [hP, h3]
      simp (disch := omega) only [wr_of]
      rw [(h58 o o0 (by omega)).2]
      simp (disch := omega) only [wr_of]
      refine ⟨fun z => by omega, fun _ => ⟨by omega, fun z => ih (o + 1) nm (by omega) (by omega) n0 n1 (fun y y0 y1 => ?_), fun z v6 e6 => ?_⟩⟩
      · rw [hnm y y0 y1]
        constructor
        · exact fun w => ⟨by omega, w.2⟩
        · intro w
          by_cases e : y = o
          · rw [e] at w; exact absurd w.2 z
          · exact ⟨by omega, w.2⟩
      · have z5 : zshl 1 5 = 32 := by decide +kernel
        have orr := or_r (P := 5) (m := nm) (o := o) (by decide) (by decide) n0 (by omega) o0 (by omega)
        rw [← e6, z5] at orr
        refine ih (o + 1) v6 (by omega) (by omega) orr.1 orr.2 (fun y y0 y1 => ?_)
        rw [e6, um_or n0 n1 o0 (by omega) y0 y1]
        unfold upU
        by_cases e : y = o
        · rw [if_pos e, e]
          exact ⟨fun _ => ⟨by omega, z⟩, fun _ => rfl⟩
        · rw [if_neg e, hnm y y0 y1]
          exact ⟨fun w => ⟨by omega, w.2⟩, fun w => ⟨by omega, w.2⟩⟩
  refine eX3_findWhatGoesOn (by omega) (first P 0 0 (by decide) (by omega) (by decide) (by decide) (fun y y0 y1 => ?_))
  rw [um_0 y0 y1]
  exact ⟨fun w => absurd w (by decide), fun w => by omega⟩
end T88
