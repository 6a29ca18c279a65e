section T52
variable {G : zG} {n : Nat} {μ ν : zM}
def p0 : Int → Int := fun _ => 0
/-- s sets are the fewest, q the first parting -/
def Fst (CL : Int → Int → Prop) (w : Nat) (s : Int) (q : Int → Int) : Prop := (1 ≤ s ∧ s ≤ w) ∧ fs CL s w 0 p0 = some q ∧ ∀ s', 1 ≤ s' → s' < s → fs CL s' w 0 p0 = none
theorem Fst.one {CL : Int → Int → Prop} {w : Nat} {s s' : Int} {q q' : Int → Int} (h : Fst CL w s q) (h' : Fst CL w s' q') : s = s' ∧ q = q' := by
  have e : s = s' := by
    by_cases c : s < s'
    · have := h'.2.2 s h.1.1 c
      rw [h.2.1] at this; cases this
    · by_cases d : s' < s
      · have := h.2.2 s' h'.1.1 d
        rw [h'.2.1] at this; cases this
      · omega
  subst e
  have := h.2.1
  rw [h'.2.1] at this
  exact ⟨rfl, (Option.some.inj this).symm⟩
theorem c2_partInlets (hn : 154 ≤ n) (h : I2 μ) {w : Nat} (hw : wd μ = w) {K : Int → zM → Prop} (hK : ∀ s q, Fst (CL μ) w s q → ∀ ν' : zM, (∀ y : Int, 0 ≤ y → y < w → ν' 27 y = q y) → (∀ a j, a ≠ 27 → a ≠ 28 → a ≠ 29 → ν' a j = μ a j) → K s ν') : mX2_partInlets G n μ K := by
  obtain ⟨w1, w2, w3⟩ := h.w
  have kp : ∀ {ν : zM}, (∀ a j, a ≠ 27 → a ≠ 28 → a ≠ 29 → ν a j = μ a j) → Kp μ ν := fun hf => ⟨hf _ _ (by decide) (by decide) (by decide), hf _ _ (by decide) (by decide) (by decide), fun x => hf _ _ (by decide) (by decide) (by decide), fun x => hf _ _ (by decide) (by decide) (by decide)⟩
  have key : ∀ (g : Nat) (s : Int) (ν : zM), 1 ≤ s → s + g = w → (∀ s', 1 ≤ s' → s' < s → fs (CL μ) s' w 0 p0 = none) → (∀ x, 0 ≤ x → x < wd μ → Cb μ (ν 28 x) x (wd μ)) → (∀ a j, a ≠ 27 → a ≠ 28 → a ≠ 29 → ν a j = μ a j) → pX2_partInlets G n K 6 [some (Rv G 26), some (Iv s)] [] ν := by
    intro g
    induction g with
    | zero =>
      intro s ν s1 es hp c28 hf
      have ew : s = w := by omega
      refine bX2_partInlets_6 (by omega) (c1_width (by omega) ?_)
      rw [Kp_wd (kp hf), hw]
      simp (disch := omega) only [wr_of]
      refine ⟨fun z => by omega, fun _ => c_fill ⟨by decide, by omega, by decide⟩ ?_⟩
      rw [show (zn 29 : Int) = 8 by decide]
      have fz : ∀ a j, a ≠ 29 → zfill ν 29 8 0 a j = ν a j := fun a j q => by unfold zfill; rw [if_neg (fun w => q w.1)]
      refine c2_canPart hn h hw s1 (by omega) w 0 10 p0 _ _ (by omega) (by omega) (fun y hy => by omega) (kp (fun a j q1 q2 q3 => by rw [fz a j q3, hf a j q1 q2 q3])) (fun x a b => by rw [fz _ _ (by decide)]; exact c28 x a b) (fun s' a b => ?_) (fun y a b => by omega) (fun q eq ν' g27 gf => ?_) (fun eq => ?_)
      · have : zfill ν 29 8 0 29 s' = 0 := by unfold zfill; rw [if_pos ⟨rfl, a, b⟩]
        rw [this]
        exact ⟨⟨by decide, by decide⟩, fun y y0 y1 => by rw [bt_0 y0 y1]; exact ⟨fun q => absurd q (by decide), fun q => by omega⟩⟩
      · refine ⟨fun z => absurd z (by decide), fun _ => hK s q ⟨⟨s1, by omega⟩, eq, hp⟩ ν' g27 (fun a j q1 q2 q3 => by rw [gf a j q1 q3, fz a j q3, hf a j q1 q2 q3])⟩
      · rw [ew] at eq
        exact absurd eq (fs_ex (CL μ) w w 0 p0 (by omega) (fun y hy => by omega))
    | succ g ih =>
      intro s ν s1 es hp c28 hf
      refine bX2_partInlets_6 (by omega) (c1_width (by omega) ?_)
      rw [Kp_wd (kp hf), hw]
      simp (disch := omega) only [wr_of]
      refine ⟨fun z => by omega, fun _ => c_fill ⟨by decide, by omega, by decide⟩ ?_⟩
      rw [show (zn 29 : Int) = 8 by decide]
      have fz : ∀ a j, a ≠ 29 → zfill ν 29 8 0 a j = ν a j := fun a j q => by unfold zfill; rw [if_neg (fun w => q w.1)]
      refine c2_canPart hn h hw s1 (by omega) w 0 10 p0 _ _ (by omega) (by omega) (fun y hy => by omega) (kp (fun a j q1 q2 q3 => by rw [fz a j q3, hf a j q1 q2 q3])) (fun x a b => by rw [fz _ _ (by decide)]; exact c28 x a b) (fun s' a b => ?_) (fun y a b => by omega) (fun q eq ν' g27 gf => ?_) (fun eq ν' gm g27 gf => ?_)
      · have : zfill ν 29 8 0 29 s' = 0 := by unfold zfill; rw [if_pos ⟨rfl, a, b⟩]
        rw [this]
        exact ⟨⟨by decide, by decide⟩, fun y y0 y1 => by rw [bt_0 y0 y1]; exact ⟨fun q => absurd q (by decide), fun q => by omega⟩⟩
      · refine ⟨fun z => absurd z (by decide), fun _ => hK s q ⟨⟨s1, by omega⟩, eq, hp⟩ ν' g27 (fun a j q1 q2 q3 => by rw [gf a j q1 q3, fz a j q3, hf a j q1 q2 q3])⟩
      · refine ⟨fun _ => ih (s + 1) ν' (by omega) (by omega) (fun s' a b => ?_) (fun x a b => by rw [gf _ _ (by decide) (by decide), fz _ _ (by decide)]; exact c28 x a b) (fun a j q1 q2 q3 => by rw [gf a j q1 q3, fz a j q3, hf a j q1 q2 q3]), fun z => absurd rfl z⟩
        by_cases c : s' = s
        · rw [c]; exact eq
        · exact hp s' a (by omega)
  exact eX2_partInlets (by omega) (c2_findClashes hn h (fun ν c28 hf => key (w - 1) 1 ν (by decide) (by omega) (fun s' a b => by omega) c28 (fun a j q1 q2 q3 => hf a j q2)))
/-! the model's search -/
theorem c8_setsAhead (hn : 154 ≤ n) {p : Int → Int} {x : Nat} (hx : x ≤ 8) (hr : Rg p x) (h : ∀ y : Int, 0 ≤ y → y < x → ν 140 y = p y) {K : Int → zM → Prop} (hK : K (sa p x) ν) : mX8_setsAhead G n x ν K := by
  have key : ∀ (g y : Nat), y + g = x → pX8_setsAhead G n K 4 [some (Rv G 127), some (Iv x), some (Iv (sa p y)), some (Iv y)] [] ν := by
    intro g
    induction g with
    | zero =>
      intro y ey
      have : y = x := by omega
      subst this
      refine bX8_setsAhead_4 hn ?_
      simp (disch := omega) only [wr_of]
      exact ⟨fun _ => hK, fun z => by omega⟩
    | succ g ih =>
      intro y ey
      have sr := sa_r (p := p) y (fun z hz => hr z (by omega))
      have py := hr y (by omega)
      have nx := ih (y + 1) (by omega)
      simp only [sa] at nx
      refine bX8_setsAhead_4 hn ?_
      simp (disch := omega) only [wr_of]
      rw [h y (by omega) (by omega)]
      simp (disch := omega) only [wr_of]
      refine ⟨fun z => by omega, fun _ => ⟨by omega, fun z => ?_, fun z => ⟨by omega, fun v5 e5 => ?_⟩⟩⟩
      · rw [Int.max_eq_left z] at nx; exact nx
      · rw [Int.max_eq_right (by omega)] at nx
        rw [e5]; exact nx
  exact eX8_setsAhead hn (key x 0 (by omega))
theorem c8_mayBe (hn : 154 ≤ n) (h : I2 μ) (k : Kp μ ν) {p : Int → Int} {x : Nat} {s : Int} (hx : x < wd μ) (s0 : 0 ≤ s) (s1 : s ≤ 8) (hr : Rg p x) (hy : ∀ y : Int, 0 ≤ y → y < x → ν 140 y = p y) (hs : ν 140 x = s) {K : Int → zM → Prop} (h1 : okp (CL μ) x s p → K 1 ν) (h0 : ¬ okp (CL μ) x s p → K 0 ν) : mX8_mayBe G n x ν K := by
  obtain ⟨w1, w2, w3⟩ := h.w
  have key : ∀ (g y : Nat), y + g = x → (∀ z : Int, 0 ≤ z → z < y → p z = s → ¬ CL μ x z) → pX8_mayBe G n K 2 [some (Rv G 127), some (Iv x), some (Iv y)] [] ν := by
    intro g
    induction g with
    | zero =>
      intro y ey hz
      have : y = x := by omega
      subst this
      refine bX8_mayBe_2 hn ?_
      simp (disch := omega) only [wr_of]
      exact ⟨fun _ => h1 hz, fun z => by omega⟩
    | succ g ih =>
      intro y ey hz
      have py := hr y (by omega)
      have step : ¬ (p y = s ∧ CL μ x y) → pX8_mayBe G n K 2 [some (Rv G 127), some (Iv x), some (Iv ((y : Int) + 1))] [] ν := fun q => by
        refine ih (y + 1) (by omega) (fun z a b c => ?_)
        by_cases d : z = y
        · subst d; exact fun w => q ⟨c, w⟩
        · exact hz z a (by omega) c
      refine bX8_mayBe_2 hn ?_
      simp (disch := omega) only [wr_of]
      rw [hy y (by omega) (by omega), hs]
      simp (disch := omega) only [wr_of]
      refine ⟨fun z => by omega, fun _ => ⟨by omega, by omega, fun z => step (fun q => z q.1), fun z => c8_clashOf hn (k.i2 h) (by omega) (by rw [Kp_wd k]; exact hx) (by omega) (by rw [Kp_wd k]; omega) ?_⟩⟩
      rw [k.1, cl_eq k.1 k.2.2.1]
      have r := cl_r (μ := μ) x y (μ 19 0).toNat 0
      have hh := h.1
      simp (disch := omega) only [wr_of]
      refine ⟨fun z2 => step (fun q => q.2 z2), fun z2 => h0 (fun q => q y (by omega) (by omega) z z2)⟩
  exact eX8_mayBe hn (key x 0 (by omega) (fun z a b => by omega))
theorem c8_enough (hn : 154 ≤ n) (h : I2 μ) {w : Nat} (hw : wd μ = w) {sets : Int} (hs0 : 1 ≤ sets) (hs1 : sets ≤ w) {K : Int → zM → Prop} : ∀ (g x m : Nat) (p : Int → Int) (s : Int) (ν : zM), x + (g + 1) = w → Rg p x → 0 ≤ s → s + m = max s (min (sa p x + 1) sets) → s ≤ x + 1 → Kp μ ν → (∀ y : Int, 0 ≤ y → y < x → ν 140 y = p y) → ν 140 x = s - 1 →
    (∀ q, tryS (fF (CL μ) sets g x p) m s = some q → ∀ ν' : zM, (∀ y : Int, 0 ≤ y → y < w → ν' 140 y = q y) → (∀ a j, a ≠ 140 → ν' a j = ν a j) → K 1 ν') →
    (tryS (fF (CL μ) sets g x p) m s = none → ∀ ν' : zM, (∀ y : Int, 0 ≤ y → y < x → ν' 140 y = p y) → (∀ a j, a ≠ 140 → ν' a j = ν a j) → pX8_areEnough G n K 9 [some (Rv G 127), some (Iv sets), some (Iv ((x : Int) + (-1)))] [] ν') →
    pX8_areEnough G n K 9 [some (Rv G 127), some (Iv sets), some (Iv x)] [] ν := by
  obtain ⟨w1, w2, w3⟩ := h.w
  intro g
  induction g with
  | zero =>
    intro x m
    induction m with
    | zero =>
      intro p s ν ex hr s0 em sx k hy hs h1 h0
      have sr := sa_r x hr
      refine bX8_areEnough_9 hn ?_
      simp (disch := omega) only [wr_of]
      refine ⟨fun z => by omega, fun _ => ⟨by omega, by omega, fun μ4 e4 => ⟨by omega, c8_setsAhead (p := p) hn (by omega) hr (fun y a b => by rw [e4, zu_ne (by omega)]; exact hy y a b) ?_⟩⟩⟩
      have v4 : μ4 140 x = s := by rw [e4, zu_same, hs]; omega
      have bk := h0 rfl μ4 (fun y a b => by rw [e4, zu_ne (by omega)]; exact hy y a b) (fun a j q => by rw [e4, zu_na q])
      rw [v4]
      simp (disch := omega) only [wr_of]
      exact ⟨fun _ => bk, fun z => ⟨by omega, fun z2 => by omega, fun _ => bk⟩⟩
    | succ m im =>
      intro p s ν ex hr s0 em sx k hy hs h1 h0
      have sr := sa_r x hr
      rw [tryS_s] at h1 h0
      refine bX8_areEnough_9 hn ?_
      simp (disch := omega) only [wr_of]
      refine ⟨fun z => by omega, fun _ => ⟨by omega, by omega, fun μ4 e4 => ⟨by omega, c8_setsAhead (p := p) hn (by omega) hr (fun y a b => by rw [e4, zu_ne (by omega)]; exact hy y a b) ?_⟩⟩⟩
      have v4 : μ4 140 x = s := by rw [e4, zu_same, hs]; omega
      have y4 : ∀ y : Int, 0 ≤ y → y < x → μ4 140 y = p y := fun y a b => by rw [e4, zu_ne (by omega)]; exact hy y a b
      have f4 : ∀ a j, a ≠ 140 → μ4 a j = ν a j := fun a j q => by rw [e4, zu_na q]
      have k4 : Kp μ μ4 := ⟨by rw [f4 _ _ (by decide)]; exact k.1, by rw [f4 _ _ (by decide)]; exact k.2.1, fun y => by rw [f4 _ _ (by decide)]; exact k.2.2.1 y, fun y => by rw [f4 _ _ (by decide)]; exact k.2.2.2 y⟩
      rw [v4]
      simp (disch := omega) only [wr_of]
      refine ⟨fun z => by omega, fun z => ⟨by omega, fun z2 => c8_mayBe hn h k4 (p := p) (s := s) (by omega) s0 (by omega) hr y4 v4 (fun ok => ?_) (fun nok => ?_), fun z2 => by omega⟩⟩
      · refine ⟨fun _ => eX8_wide hn ?_, fun z => absurd z (by decide)⟩
        have : zshl 1 (μ4 127 12) = w := by rw [k4.2.1, w3, hw]
        rw [this]
        simp (disch := omega) only [wr_of]
        have eF : fF (CL μ) sets 0 x p s = some (upd1 p x s) := by unfold fF; rw [if_pos ok]; rfl
        rw [eF] at h1
        refine ⟨fun z => by omega, fun _ => h1 _ rfl μ4 (fun y a b => ?_) f4⟩
        unfold upd1
        by_cases d : y = x
        · rw [if_pos d, d, v4]
        · rw [if_neg d]; exact y4 y a (by omega)
      · refine ⟨fun z => absurd rfl z, fun _ => ?_⟩
        have eF : fF (CL μ) sets 0 x p s = none := by unfold fF; rw [if_neg nok]
        rw [eF] at h1 h0
        exact im p (s + 1) μ4 ex hr (by omega) (by omega) (by omega) k4 y4 (by rw [v4]; omega) (fun q eq ν' u1 u2 => h1 q eq ν' u1 (fun a j q => by rw [u2 a j q, f4 a j q])) (fun eq ν' u1 u2 => h0 eq ν' u1 (fun a j q => by rw [u2 a j q, f4 a j q]))
  | succ g ig =>
    intro x m
    induction m with
    | zero =>
      intro p s ν ex hr s0 em sx k hy hs h1 h0
      have sr := sa_r x hr
      refine bX8_areEnough_9 hn ?_
      simp (disch := omega) only [wr_of]
      refine ⟨fun z => by omega, fun _ => ⟨by omega, by omega, fun μ4 e4 => ⟨by omega, c8_setsAhead (p := p) hn (by omega) hr (fun y a b => by rw [e4, zu_ne (by omega)]; exact hy y a b) ?_⟩⟩⟩
      have v4 : μ4 140 x = s := by rw [e4, zu_same, hs]; omega
      have bk := h0 rfl μ4 (fun y a b => by rw [e4, zu_ne (by omega)]; exact hy y a b) (fun a j q => by rw [e4, zu_na q])
      rw [v4]
      simp (disch := omega) only [wr_of]
      exact ⟨fun _ => bk, fun z => ⟨by omega, fun z2 => by omega, fun _ => bk⟩⟩
    | succ m im =>
      intro p s ν ex hr s0 em sx k hy hs h1 h0
      have sr := sa_r x hr
      rw [tryS_s] at h1 h0
      refine bX8_areEnough_9 hn ?_
      simp (disch := omega) only [wr_of]
      refine ⟨fun z => by omega, fun _ => ⟨by omega, by omega, fun μ4 e4 => ⟨by omega, c8_setsAhead (p := p) hn (by omega) hr (fun y a b => by rw [e4, zu_ne (by omega)]; exact hy y a b) ?_⟩⟩⟩
      have v4 : μ4 140 x = s := by rw [e4, zu_same, hs]; omega
      have y4 : ∀ y : Int, 0 ≤ y → y < x → μ4 140 y = p y := fun y a b => by rw [e4, zu_ne (by omega)]; exact hy y a b
      have f4 : ∀ a j, a ≠ 140 → μ4 a j = ν a j := fun a j q => by rw [e4, zu_na q]
      have k4 : Kp μ μ4 := ⟨by rw [f4 _ _ (by decide)]; exact k.1, by rw [f4 _ _ (by decide)]; exact k.2.1, fun y => by rw [f4 _ _ (by decide)]; exact k.2.2.1 y, fun y => by rw [f4 _ _ (by decide)]; exact k.2.2.2 y⟩
      rw [v4]
      simp (disch := omega) only [wr_of]
      refine ⟨fun z => by omega, fun z => ⟨by omega, fun z2 => c8_mayBe hn h k4 (p := p) (s := s) (by omega) s0 (by omega) hr y4 v4 (fun ok => ?_) (fun nok => ?_), fun z2 => by omega⟩⟩
      · refine ⟨fun _ => eX8_wide hn ?_, fun z => absurd z (by decide)⟩
        have : zshl 1 (μ4 127 12) = w := by rw [k4.2.1, w3, hw]
        rw [this]
        simp (disch := omega) only [wr_of]
        have eF : fF (CL μ) sets (g + 1) x p s = fs (CL μ) sets (g + 1) (x + 1) (upd1 p x s) := by unfold fF; rw [if_pos ok]
        rw [eF, fs_s] at h1 h0
        refine ⟨fun _ => ⟨by omega, fun μ18 e18 => ?_⟩, fun z => by omega⟩
        have f18 : ∀ a j, a ≠ 140 → μ18 a j = ν a j := fun a j q => by rw [e18, zu_na q, f4 a j q]
        have k18 : Kp μ μ18 := ⟨by rw [f18 _ _ (by decide)]; exact k.1, by rw [f18 _ _ (by decide)]; exact k.2.1, fun y => by rw [f18 _ _ (by decide)]; exact k.2.2.1 y, fun y => by rw [f18 _ _ (by decide)]; exact k.2.2.2 y⟩
        have ru : Rg (upd1 p x s) (x + 1) := upd_Rg hr s0 (by omega)
        have sru := sa_r (x + 1) ru
        refine ig (x + 1) (min (sa (upd1 p x s) (x + 1) + 1) sets).toNat (upd1 p x s) 0 μ18 (by omega) ru (by decide) (by omega) (by omega) k18 (fun y a b => ?_) (by rw [e18]; exact zu_same _ _ _ _) (fun q eq ν' u1 u2 => ?_) (fun eq ν' u1 u2 => ?_)
        · rw [e18, zu_ne (by omega)]
          unfold upd1
          by_cases d : y = x
          · rw [if_pos d, d, v4]
          · rw [if_neg d]; exact y4 y a (by omega)
        · rw [eq] at h1
          exact h1 q rfl ν' u1 (fun a j q => by rw [u2 a j q, f18 a j q])
        · rw [eq] at h1 h0
          have fN : ∀ a j, a ≠ 140 → ν' a j = ν a j := fun a j q => by rw [u2 a j q, f18 a j q]
          have vx : ν' 140 x = s := by
            rw [u1 x (by omega) (by omega)]
            unfold upd1; rw [if_pos rfl]
          rw [show ((x + 1 : Nat) : Int) + (-1) = x by omega]
          refine im p (s + 1) ν' ex hr (by omega) (by omega) (by omega) ⟨by rw [fN _ _ (by decide)]; exact k.1, by rw [fN _ _ (by decide)]; exact k.2.1, fun y => by rw [fN _ _ (by decide)]; exact k.2.2.1 y, fun y => by rw [fN _ _ (by decide)]; exact k.2.2.2 y⟩ (fun y a b => ?_) (by rw [vx]; omega) (fun q eq ν'' u1 u2 => h1 q eq ν'' u1 (fun a j q => by rw [u2 a j q, fN a j q])) (fun eq ν'' u1 u2 => h0 eq ν'' u1 (fun a j q => by rw [u2 a j q, fN a j q]))
          rw [u1 y a (by omega)]
          unfold upd1; rw [if_neg (by omega)]
      · refine ⟨fun z => absurd rfl z, fun _ => ?_⟩
        have eF : fF (CL μ) sets (g + 1) x p s = none := by unfold fF; rw [if_neg nok]
        rw [eF] at h1 h0
        exact im p (s + 1) μ4 ex hr (by omega) (by omega) (by omega) k4 y4 (by rw [v4]; omega) (fun q eq ν' u1 u2 => h1 q eq ν' u1 (fun a j q => by rw [u2 a j q, f4 a j q])) (fun eq ν' u1 u2 => h0 eq ν' u1 (fun a j q => by rw [u2 a j q, f4 a j q]))
theorem c8_findRounds (hn : 154 ≤ n) (h : I2 μ) (k : Kp μ ν) {w : Nat} (hw : wd μ = w) {K : Int → zM → Prop} (hK : ∀ s q, Fst (CL μ) w s q → ∀ ν' : zM, (∀ y : Int, 0 ≤ y → y < w → ν' 140 y = q y) → (∀ a j, a ≠ 140 → ν' a j = ν a j) → K s ν') : mX8_findRounds G n ν K := by
  obtain ⟨w1, w2, w3⟩ := h.w
  have key : ∀ (g : Nat) (s : Int) (ν' : zM), 1 ≤ s → s + g = w → (∀ s', 1 ≤ s' → s' < s → fs (CL μ) s' w 0 p0 = none) → (∀ a j, a ≠ 140 → ν' a j = ν a j) → pX8_findRounds G n K 2 [some (Rv G 127), some (Iv s)] [] ν' := by
    intro g
    induction g with
    | zero =>
      intro s ν' s1 es hp hf
      have ew : s = w := by omega
      refine bX8_findRounds_2 hn (eX8_areEnough hn ⟨by decide, fun μ2 e2 => ?_⟩)
      have f2 : ∀ a j, a ≠ 140 → μ2 a j = ν a j := fun a j q => by rw [e2, zu_na q, hf a j q]
      have k2 : Kp μ μ2 := ⟨by rw [f2 _ _ (by decide)]; exact k.1, by rw [f2 _ _ (by decide)]; exact k.2.1, fun y => by rw [f2 _ _ (by decide)]; exact k.2.2.1 y, fun y => by rw [f2 _ _ (by decide)]; exact k.2.2.2 y⟩
      have e0 : fs (CL μ) s w 0 p0 = tryS (fF (CL μ) s (w - 1) 0 p0) (min (sa p0 0 + 1) s).toNat 0 := by
        rw [← fs_s, show w - 1 + 1 = w by omega]
      have z0 : sa p0 0 = 0 := rfl
      refine c8_enough hn h hw s1 (by omega) (w - 1) 0 (min (sa p0 0 + 1) s).toNat p0 0 μ2 (by omega) (fun y hy => by omega) (by decide) (by omega) (by decide) k2 (fun y a b => by omega) (by rw [e2]; exact zu_same _ _ _ _) (fun q eq ν'' u1 u2 => ?_) (fun eq => ?_)
      · rw [← e0] at eq
        exact ⟨fun _ => hK s q ⟨⟨s1, by omega⟩, eq, hp⟩ ν'' u1 (fun a j q => by rw [u2 a j q, f2 a j q]), fun z => absurd z (by decide)⟩
      · rw [← e0, ew] at eq
        exact absurd eq (fs_ex (CL μ) w w 0 p0 (by omega) (fun y hy => by omega))
    | succ g ih =>
      intro s ν' s1 es hp hf
      refine bX8_findRounds_2 hn (eX8_areEnough hn ⟨by decide, fun μ2 e2 => ?_⟩)
      have f2 : ∀ a j, a ≠ 140 → μ2 a j = ν a j := fun a j q => by rw [e2, zu_na q, hf a j q]
      have k2 : Kp μ μ2 := ⟨by rw [f2 _ _ (by decide)]; exact k.1, by rw [f2 _ _ (by decide)]; exact k.2.1, fun y => by rw [f2 _ _ (by decide)]; exact k.2.2.1 y, fun y => by rw [f2 _ _ (by decide)]; exact k.2.2.2 y⟩
      have e0 : fs (CL μ) s w 0 p0 = tryS (fF (CL μ) s (w - 1) 0 p0) (min (sa p0 0 + 1) s).toNat 0 := by
        rw [← fs_s, show w - 1 + 1 = w by omega]
      have z0 : sa p0 0 = 0 := rfl
      refine c8_enough hn h hw s1 (by omega) (w - 1) 0 (min (sa p0 0 + 1) s).toNat p0 0 μ2 (by omega) (fun y hy => by omega) (by decide) (by omega) (by decide) k2 (fun y a b => by omega) (by rw [e2]; exact zu_same _ _ _ _) (fun q eq ν'' u1 u2 => ?_) (fun eq ν'' u1 u2 => ?_)
      · rw [← e0] at eq
        exact ⟨fun _ => hK s q ⟨⟨s1, by omega⟩, eq, hp⟩ ν'' u1 (fun a j q => by rw [u2 a j q, f2 a j q]), fun z => absurd z (by decide)⟩
      · rw [← e0] at eq
        refine bX8_areEnough_9 hn ⟨fun _ => ⟨fun z => absurd rfl z, fun _ => ih (s + 1) ν'' (by omega) (by omega) (fun s' a b => ?_) (fun a j q => by rw [u2 a j q, f2 a j q])⟩, fun z => absurd (by decide) z⟩
        by_cases c : s' = s
        · rw [c]; exact eq
        · exact hp s' a (by omega)
  exact eX8_findRounds hn (key (w - 1) 1 ν (by decide) (by omega) (fun s' a b => by omega) (fun _ _ _ => rfl))
theorem part_fin (h : I2 μ) {ν1 ν2 : zM} (h1 : ∀ a j, a ≠ 27 → a ≠ 28 → a ≠ 29 → ν1 a j = μ a j) (h2 : ∀ a j, a ≠ 140 → ν2 a j = ν1 a j) : I2 ν2 ∧ Fz 2 μ ν2 := by
  have all : ∀ a j, a ≠ 27 → a ≠ 28 → a ≠ 29 → a ≠ 140 → ν2 a j = μ a j := fun a j q1 q2 q3 q4 => by rw [h2 a j q4, h1 a j q1 q2 q3]
  refine ⟨h.eq2 (all _ _ (by decide) (by decide) (by decide) (by decide)) (all _ _ (by decide) (by decide) (by decide) (by decide)) (fun x => all _ _ (by decide) (by decide) (by decide) (by decide)) (fun x => all _ _ (by decide) (by decide) (by decide) (by decide)), fun a j hz => all a j (fun q => hz (z2_22 (by omega))) (fun q => hz (z2_22 (by omega))) (fun q => hz (z2_22 (by omega))) (fun q => hz ?_)⟩
  rw [q]; rfl
theorem t_rounds (hn : 154 ≤ n) (h : I2 μ) : mX7_rounds G n μ (fun a μ1 => mX8_rounds G n μ1 (fun b μ2 => a = b ∧ I2 μ2 ∧ Fz 2 μ μ2)) := by
  obtain ⟨w1, w2, w3⟩ := h.w
  obtain ⟨w, hw⟩ := Int.eq_ofNat_of_zero_le (show 0 ≤ wd μ by omega)
  refine eX7_rounds hn (c2_partInlets hn h hw (fun s q F ν1 g27 f1 => eX8_rounds hn (c8_findRounds hn h ⟨f1 _ _ (by decide) (by decide) (by decide), f1 _ _ (by decide) (by decide) (by decide), fun x => f1 _ _ (by decide) (by decide) (by decide), fun x => f1 _ _ (by decide) (by decide) (by decide)⟩ hw (fun s' q' F' ν2 g140 f2 => ⟨(F.one F').1, part_fin h f1 f2⟩))))
theorem t_round (hn : 154 ≤ n) (h : I2 μ) {x : Int} (hx : R32 x) : mX7_round G n x μ (fun a μ1 => mX8_round G n x μ1 (fun b μ2 => a = b ∧ I2 μ2 ∧ Fz 2 μ μ2)) := by
  obtain ⟨w1, w2, w3⟩ := h.w
  obtain ⟨x1, x2⟩ := id hx
  obtain ⟨w, hw⟩ := Int.eq_ofNat_of_zero_le (show 0 ≤ wd μ by omega)
  refine eX7_round hn (c1_width (by omega) (c_within hn ?_))
  simp (disch := omega) only [wr_of, ite_b0, Classical.not_not]
  refine ⟨fun z => c2_partInlets hn h hw (fun s q F ν1 g27 f1 => ⟨by omega, ?_⟩), fun z => eX8_round hn (c8_isEnd hn h hx ?_)⟩
  · have k1 : Kp μ ν1 := ⟨f1 _ _ (by decide) (by decide) (by decide), f1 _ _ (by decide) (by decide) (by decide), fun x => f1 _ _ (by decide) (by decide) (by decide), fun x => f1 _ _ (by decide) (by decide) (by decide)⟩
    refine eX8_round hn (c8_isEnd hn (k1.i2 h) hx ?_)
    rw [Kp_wd k1, if_pos (by omega)]
    refine ⟨fun _ => c8_findRounds hn h k1 hw (fun s' q' F' ν2 g140 f2 => ?_), fun z => absurd z (by decide)⟩
    simp (disch := omega) only [wr_of]
    refine ⟨by omega, ?_, part_fin h f1 f2⟩
    rw [g27 x (by omega) (by omega), g140 x (by omega) (by omega), (F.one F').2]
  · rw [if_neg (by omega)]
    exact ⟨fun z => absurd rfl z, fun _ => ⟨rfl, h, Fz.rf⟩⟩
end T52
