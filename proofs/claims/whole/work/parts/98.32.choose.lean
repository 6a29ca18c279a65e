section T89
variable {G : zG} {n : Nat} {μ ν κ : zM}
theorem zk61 {x : Int} (h : 61 ≤ x ∧ x ≤ 96) : zk x = 0 ∧ (zn x : Int) = 5 := by
  have q : ∀ k : Fin 36, zk (61 + (k.1 : Int)) = 0 ∧ (zn (61 + (k.1 : Int)) : Int) = 5 := by decide
  have := q ⟨(x - 61).toNat, by omega⟩
  rw [show (61 : Int) + (((x - 61).toNat : Nat) : Int) = x by omega] at this
  exact this
theorem c3_choose (hn : 154 ≤ n) {P : Nat} {T : Int → Int → Int} (hP1 : 1 ≤ P) (hP5 : P ≤ 5) (hP : κ 45 0 = P) (hT : Tb T) (hm : ∀ i o : Int, 0 ≤ i → i < P → 0 ≤ o → o < P → κ (53 + i) o = T i o) (h58 : ∀ i : Int, 0 ≤ i → i < P → κ 58 i = rs T P i ∧ κ 59 i = cs T P i) (h3 : κ 45 3 = spn T P) (hs : 0 < spn T P) {x : Int} (hx : 61 ≤ x ∧ x ≤ 96) {K : zM → Prop} (hK : ∀ (c : Int → Int) (κ' : zM), FR P T c → (∀ i : Int, 0 ≤ i → i < P → κ' x i = mr P c i) → (∀ a j, a ≠ 98 → a ≠ x → κ' a j = κ a j) → K κ') : mX3_chooseRow G n x κ K := by
  have zz := zs_r (P := P) (by omega) (by omega)
  have zx := zk61 hx
  refine eX3_chooseRow (by omega) (c3_find hn hP1 hP5 hP hT hm h58 h3 (fun κ1 gb hf => ?_))
  obtain ⟨ct, cm, ctg⟩ := tight_in hP1 hP5 hT hs
  have go0 := gon_of (s := spn T P) hP1 (P : Int).toNat 0 (fun _ => 0) ct (by decide) (by omega) cm ctg
  have outer : ∀ (g : Nat) (d m : Int) (c0 : Int → Int) (κ2 : zM), 0 ≤ d → d + g = P → 0 ≤ m → m < zshl 1 P → (∀ o : Int, 0 ≤ o → o < P → Um m o = us c0 o d.toNat) → gon P T (spn T P) g d (fun o => us c0 o d.toNat) → (∀ y : Int, 0 ≤ y → y < d → (0 ≤ c0 y ∧ c0 y ≤ P) ∧ (¬ c0 y < P → rs T P y ≠ spn T P)) → (∀ y : Int, 0 ≤ y → y < d → κ2 x y = mr P c0 y) → (∀ a j, a ≠ x → κ2 a j = κ1 a j) → (∀ c, Fs (Tg P T (spn T P)) c (rws P T g d c0) → FR P T c) → pX3_chooseRow G n K 8 [some (Rv G 45), some (Rv G x), some (Iv m), some (Iv d), none] [] κ2 := by
    intro g
    induction g with
    | zero =>
      intro d m c0 κ2 d0 ed m0 m1 hu go pre hr hf2 hc
      have hP2 : κ2 45 0 = P := by rw [hf2 45 0 (by omega), hf 45 0 (by decide)]; exact hP
      refine bX3_chooseRow_8 (by omega) ?_
      rw [hP2]
      simp (disch := omega) only [wr_of]
      refine ⟨fun _ => hK c0 κ2 (hc c0 (Or.inl ⟨⟨fun y y0 y1 => (pre y y0 (by omega)).2, fun o o0 o1 q w => ?_⟩, rfl⟩)) (fun i i0 i1 => hr i i0 (by omega)) (fun a j a1 a2 => by rw [hf2 a j a2]; exact hf a j a1), fun z => by omega⟩
      have t : us c0 o d.toNat = true := go o o0 o1 w
      rw [show d.toNat = P by omega, q] at t
      exact absurd t (by decide)
    | succ g ih =>
      intro d m c0 κ2 d0 ed m0 m1 hu go pre hr hf2 hc
      have hP2 : κ2 45 0 = P := by rw [hf2 45 0 (by omega), hf 45 0 (by decide)]; exact hP
      have eg : ((P : Int) - (d + 1)).toNat = g := by omega
      have cg : ∀ y : Int, 0 ≤ y → y < P → (cang P T (spn T P) d (Um m) y ↔ (0 < T d y ∧ us c0 y d.toNat = false ∧ gon P T (spn T P) g (d + 1) (upU (fun o => us c0 o d.toNat) y))) := fun y y0 y1 => by
        unfold cang
        rw [eg, hu y y0 y1]
        have e1 := gon_c (P := P) (T := T) (s := spn T P) g (d + 1) (upU (Um m) y) (upU (fun o => us c0 o d.toNat) y) (fun o o0 o1 => by unfold upU; rw [hu o o0 o1])
        have e2 := gon_c (P := P) (T := T) (s := spn T P) g (d + 1) (upU (fun o => us c0 o d.toNat) y) (upU (Um m) y) (fun o o0 o1 => by unfold upU; rw [hu o o0 o1])
        exact ⟨fun w => ⟨w.1, w.2.1, e1 w.2.2⟩, fun w => ⟨w.1, w.2.1, e2 w.2.2⟩⟩
      -- an outlet is given
      have given : ∀ (v : Int) (κ4 : zM), 0 ≤ v → v < P → (∀ y : Int, 0 ≤ y → y < v → ¬ cang P T (spn T P) d (Um m) y) → cang P T (spn T P) d (Um m) v → κ4 x d = v → (∀ y : Int, 0 ≤ y → y < d → κ4 x y = mr P c0 y) → (∀ a j, a ≠ x → κ4 a j = κ1 a j) → pX3_chooseRow G n K 8 [some (Rv G 45), some (Rv G x), some (Iv (zor m (zshl 1 v))), some (Iv (d + 1)), none] [] κ4 := by
        intro v κ4 v0 v1 hno hyes hv hr4 hf4
        have orr := or_r (P := P) (by omega) (by omega) m0 m1 v0 v1
        have y := (cg v v0 v1).mp hyes
        have ok : okr P T d v c0 = true := decide_eq_true (Or.inr ⟨y.1, y.2.1⟩)
        refine ih (d + 1) _ (up c0 d v) κ4 (by omega) (by omega) orr.1 orr.2 (fun o o0 o1 => ?_) (gon_c g (d + 1) _ _ (fun o o0 o1 => (us_up d0 o).symm) y.2.2) (fun z z0 z1 => ?_) (fun z z0 z1 => ?_) hf4 (fun c f => hc c (Fs_step hP1 d0 ed v0 (by omega) ok (fun z z0 z1 w => hno z z0 z1 ((cg z z0 (by omega)).mpr w)) f))
        · rw [um_or m0 (by omega) v0 (by omega) o0 (by omega), us_up d0]
          unfold upU; rw [hu o o0 o1]
        · unfold up
          by_cases e : z = d
          · rw [if_pos e]; exact ⟨by omega, fun w => absurd v1 w⟩
          · rw [if_neg e]; exact pre z z0 (by omega)
        · by_cases e : z = d
          · rw [e, hv]; unfold mr up; rw [if_pos rfl, if_pos ⟨by omega, v1⟩]
          · rw [hr4 z z0 (by omega)]; unfold mr up; rw [if_neg e]
      have inner : ∀ (g2 : Nat) (o : Int) (κ3 : zM), 0 ≤ o → o + g2 = P → (∀ y : Int, 0 ≤ y → y < o → ¬ cang P T (spn T P) d (Um m) y) → κ3 x d = -9 → (∀ y : Int, 0 ≤ y → y < d → κ3 x y = mr P c0 y) → (∀ a j, a ≠ x → κ3 a j = κ1 a j) → pX3_chooseRow G n K 24 [some (Rv G 45), some (Rv G x), some (Iv m), some (Iv d), some (Iv o)] [] κ3 := by
        intro g2
        induction g2 with
        | zero =>
          intro o κ3 o0 eo hno h9 hr3 hf3
          have hP3 : κ3 45 0 = P := by rw [hf3 45 0 (by omega), hf 45 0 (by decide)]; exact hP
          refine bX3_chooseRow_24 (by omega) ?_
          unfold zin
          rw [hP3, zx.2]
          simp (disch := omega) only [wr_of]
          rw [h9]
          try simp (disch := omega) only [wr_of]
          refine ⟨fun _ => ⟨⟨⟨by omega, by omega, zx.1⟩, by omega⟩, fun _ => ?_, fun z => absurd trivial z⟩, fun z => by omega⟩
          have go2 : rs T P d ≠ spn T P ∧ gon P T (spn T P) g (d + 1) (fun o => us c0 o d.toNat) := by
            rcases go with w | ⟨y, w0, w1, w2, w3⟩
            · exact w
            · exact absurd ((cg y w0.1 w0.2).mpr ⟨w1, w2, w3⟩) (hno y w0.1 (by omega))
          have uP : ∀ o : Int, o < P → us (up c0 d P) o (d + 1).toNat = us c0 o d.toNat := fun o o1 => by
            rw [us_up d0]; unfold upU; rw [if_neg (by omega)]
          refine ih (d + 1) m (up c0 d P) κ3 (by omega) (by omega) m0 m1 (fun o o0 o1 => ?_) (gon_c g (d + 1) _ _ (fun o o0 o1 => (uP o o1).symm) go2.2) (fun z z0 z1 => ?_) (fun z z0 z1 => ?_) hf3 (fun c f => hc c (Fs_step hP1 d0 ed (by omega) (Int.le_refl _) (decide_eq_true (Or.inl rfl)) (fun z z0 z1 w => hno z z0 (by omega) ((cg z z0 z1).mpr w)) f))
          · rw [uP o o1]; exact hu o o0 o1
          · unfold up
            by_cases e : z = d
            · rw [if_pos e, e]; exact ⟨by omega, fun _ => go2.1⟩
            · rw [if_neg e]; exact pre z z0 (by omega)
          · by_cases e : z = d
            · rw [e, h9]; unfold mr up; rw [if_pos rfl, if_neg (by omega)]
            · rw [hr3 z z0 (by omega)]; unfold mr up; rw [if_neg e]
        | succ g2 ih2 =>
          intro o κ3 o0 eo hno h9 hr3 hf3
          have hP3 : κ3 45 0 = P := by rw [hf3 45 0 (by omega), hf 45 0 (by decide)]; exact hP
          refine bX3_chooseRow_24 (by omega) ?_
          unfold zin
          rw [hP3, zx.2]
          simp (disch := omega) only [wr_of]
          rw [h9]
          try simp (disch := omega) only [wr_of]
          refine ⟨fun z => by omega, fun _ => ⟨⟨⟨by omega, by omega, zx.1⟩, by omega⟩, fun z => absurd trivial z, fun _ => c3_canGive (s := spn T P) hn hP5 hT (fun i o i0 i1 o0 o1 => by rw [hf3 _ _ (by omega), hf _ _ (by omega)]; exact hm i o i0 i1 o0 o1) d0 (by omega) o0 (by omega) m0 m1 (fun i y a b y0 y1 => by rw [hf3 98 i (by omega)]; exact gb i y (by omega) b y0 y1) (fun q => ⟨fun z => absurd z (by decide), fun _ => ⟨⟨⟨by omega, by omega, zx.1⟩, by omega⟩, fun μ16 e16 => ?_⟩⟩) (fun q => ⟨fun _ => ih2 (o + 1) κ3 (by omega) (by omega) (fun y a b => ?_) h9 hr3 hf3, fun z => absurd rfl z⟩)⟩⟩
          · have w9 : μ16 x d = o := by rw [e16]; unfold zu; rw [if_pos ⟨rfl, rfl⟩]
            have wr6 : ∀ y : Int, 0 ≤ y → y < d → μ16 x y = mr P c0 y := fun y y0 y1 => by rw [e16]; unfold zu; rw [if_neg (by omega)]; exact hr3 y y0 y1
            have wf : ∀ a j, a ≠ x → μ16 a j = κ1 a j := fun a j w => by rw [e16, zu_na w]; exact hf3 a j w
            have nx := given o μ16 o0 (by omega) hno q w9 wr6 wf
            have hP6 : μ16 45 0 = P := by rw [wf 45 0 (by omega), hf 45 0 (by decide)]; exact hP
            refine bX3_chooseRow_24 (by omega) ?_
            unfold zin
            rw [hP6, zx.2]
            simp (disch := omega) only [wr_of]
            rw [w9]
            try simp (disch := omega) only [wr_of]
            exact ⟨fun _ => ⟨⟨⟨by omega, by omega, zx.1⟩, by omega⟩, fun z => by omega, fun _ => ⟨⟨⟨by omega, by omega, zx.1⟩, by omega⟩, fun v5 e5 => by rw [e5]; exact nx⟩⟩, fun _ => ⟨⟨⟨by omega, by omega, zx.1⟩, by omega⟩, fun _ => ⟨⟨⟨by omega, by omega, zx.1⟩, by omega⟩, fun z => by omega, fun _ => ⟨⟨⟨by omega, by omega, zx.1⟩, by omega⟩, fun v11 e11 => by rw [e11]; exact nx⟩⟩, fun z => by omega⟩⟩
          · by_cases e : y = o
            · rw [e]; exact q
            · exact hno y a (by omega)
      refine bX3_chooseRow_8 (by omega) ?_
      unfold zin
      rw [hP2, zx.2]
      simp (disch := omega) only [wr_of]
      refine ⟨fun z => by omega, fun _ => ⟨⟨⟨by omega, by omega, zx.1⟩, by omega⟩, fun μ3 e3 => inner P 0 μ3 (by decide) (by omega) (fun y a b => by omega) ?_ (fun y y0 y1 => ?_) (fun a j w => by rw [e3, zu_na w]; exact hf2 a j w)⟩⟩
      · rw [e3]; unfold zu; rw [if_pos ⟨rfl, rfl⟩]
      · rw [e3]; unfold zu; rw [if_neg (by omega)]; exact hr y y0 y1
  refine outer P 0 0 (fun _ => 0) κ1 (by decide) (by omega) (by decide) (by omega) (fun o o0 o1 => um_0 o0 (by omega)) ?_ (fun y y0 y1 => by omega) (fun y y0 y1 => by omega) (fun _ _ _ => rfl) (fun c f => f)
  rw [show (P : Int).toNat = P by omega] at go0
  exact go0
end T89
