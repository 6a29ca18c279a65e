section T51
variable {G : zG} {n : Nat} {μ ν : zM}
/-- the clashes of an inlet with those below y, as bits -/
def Cb (μ : zM) (m x y : Int) : Prop := (0 ≤ m ∧ m < 256) ∧ ∀ v, 0 ≤ v → v < 8 → (bt m v = 1 ↔ v < y ∧ v ≠ x ∧ CL μ x v)
theorem bt_0 {v : Int} (h0 : 0 ≤ v) (h1 : v < 8) : bt 0 v = 0 := by
  have : ∀ v : Fin 8, bt 0 (v.val : Int) = 0 := by decide +kernel
  have := this ⟨v.toNat, by omega⟩
  rwa [fv h0 h1] at this
theorem Cb_0 {x : Int} : Cb μ 0 x 0 := ⟨⟨by decide, by decide⟩, fun v v0 v1 => by rw [bt_0 v0 v1]; exact ⟨fun q => absurd q (by decide), fun q => by omega⟩⟩
theorem c2_findClashes (hn : 154 ≤ n) (h : I2 μ) {K : zM → Prop} (hK : ∀ ν : zM, (∀ x, 0 ≤ x → x < wd μ → Cb μ (ν 28 x) x (wd μ)) → (∀ a j, a ≠ 28 → ν a j = μ a j) → K ν) : mX2_findClashes G n μ K := by
  have hh := h.1
  obtain ⟨w1, w2, w3⟩ := h.w
  have kp : ∀ {ν : zM}, (∀ a j, a ≠ 28 → ν a j = μ a j) → Kp μ ν := fun hf => ⟨hf _ _ (by decide), hf _ _ (by decide), fun x => hf _ _ (by decide), fun x => hf _ _ (by decide)⟩
  have inner : ∀ (x : Int), 0 ≤ x → x < wd μ → ∀ (g : Nat) (y : Int) (ν : zM), 0 ≤ y → y + g = wd μ → (∀ x', 0 ≤ x' → x' < x → Cb μ (ν 28 x') x' (wd μ)) → Cb μ (ν 28 x) x y → (∀ x', x < x' → x' < 8 → ν 28 x' = 0) → (∀ a j, a ≠ 28 → ν a j = μ a j) → (∀ ν : zM, (∀ x', 0 ≤ x' → x' < x + 1 → Cb μ (ν 28 x') x' (wd μ)) → (∀ x', x < x' → x' < 8 → ν 28 x' = 0) → (∀ a j, a ≠ 28 → ν a j = μ a j) → pX2_findClashes G n K 10 [some (Rv G 26), some (Iv (x + 1)), none] [] ν) → pX2_findClashes G n K 23 [some (Rv G 26), some (Iv x), some (Iv y)] [] ν := by
    intro x x0 x1 g
    induction g with
    | zero =>
      intro y ν y0 ey c1 c2 c3 hf nx
      have k := kp hf
      refine bX2_findClashes_23 (by omega) (c1_width (by omega) ?_)
      rw [Kp_wd k]
      simp (disch := omega) only [wr_of]
      refine ⟨fun _ => nx ν (fun x' a b => ?_) c3 hf, fun z => by omega⟩
      by_cases d : x' = x
      · rw [d, show wd μ = y by omega]; exact c2
      · exact c1 x' a (by omega)
    | succ g ih =>
      intro y ν y0 ey c1 c2 c3 hf nx
      have k := kp hf
      refine bX2_findClashes_23 (by omega) (c1_width (by omega) ?_)
      rw [Kp_wd k]
      simp (disch := omega) only [wr_of]
      have skip : (y = x ∨ ¬ CL μ x y) → pX2_findClashes G n K 23 [some (Rv G 26), some (Iv x), some (Iv (y + 1))] [] ν := fun hs => by
        refine ih (y + 1) ν (by omega) (by omega) c1 ⟨c2.1, fun v v0 v1 => ?_⟩ c3 hf nx
        rw [c2.2 v v0 v1]
        constructor
        · rintro ⟨a, b, c⟩; exact ⟨by omega, b, c⟩
        · rintro ⟨a, b, c⟩
          by_cases d : v = y
          · subst d
            rcases hs with q | q
            · exact absurd q b
            · exact absurd c q
          · exact ⟨by omega, b, c⟩
      refine ⟨fun z => by omega, fun _ => ⟨fun z => skip (Or.inl z.symm), fun z => c2_rowOfClash hn (k.i2 h) x0 (by rw [Kp_wd k]; exact x1) y0 (by rw [Kp_wd k]; omega) ?_⟩⟩
      rw [k.1, cl_eq k.1 k.2.2.1]
      have r := cl_r (μ := μ) x y (μ 19 0).toNat 0
      simp (disch := omega) only [wr_of]
      refine ⟨fun z2 => skip (Or.inr (fun q => q z2)), fun z2 => ⟨by omega, by omega, fun μ10 e10 => ?_⟩⟩
      have V : ∀ a j, μ10 a j = if a = 28 ∧ j = x then zor (ν 28 x) (zshl 1 y) else ν a j := fun a j => by rw [e10]; rfl
      have os := or_step c2.1.1 c2.1.2 (y := y) y0 (by omega)
      refine ih (y + 1) μ10 (by omega) (by omega) (fun x' a b => ?_) ⟨?_, fun v v0 v1 => ?_⟩ (fun x' a b => ?_) (fun a j q => ?_) nx
      · rw [V, if_neg (by omega)]; exact c1 x' a b
      · rw [V, if_pos ⟨rfl, rfl⟩]; exact ⟨os.1, os.2.1⟩
      · rw [V, if_pos ⟨rfl, rfl⟩, or_bit c2.1.1 c2.1.2 y0 (by omega) v0 v1]
        by_cases d : v = y
        · rw [if_pos d]
          refine ⟨fun _ => ⟨by omega, by omega, by rw [d]; exact z2⟩, fun _ => rfl⟩
        · rw [if_neg d, c2.2 v v0 v1]
          constructor
          · rintro ⟨a, b, c⟩; exact ⟨by omega, b, c⟩
          · rintro ⟨a, b, c⟩; exact ⟨by omega, b, c⟩
      · rw [V, if_neg (by omega)]; exact c3 x' a b
      · rw [V, if_neg (by omega)]; exact hf a j q
  have outer : ∀ (g : Nat) (x : Int) (ν : zM), 0 ≤ x → x + g = wd μ → (∀ x', 0 ≤ x' → x' < x → Cb μ (ν 28 x') x' (wd μ)) → (∀ x', x ≤ x' → x' < 8 → ν 28 x' = 0) → (∀ a j, a ≠ 28 → ν a j = μ a j) → pX2_findClashes G n K 10 [some (Rv G 26), some (Iv x), none] [] ν := by
    intro g
    induction g with
    | zero =>
      intro x ν x0 ex c1 c3 hf
      refine bX2_findClashes_10 (by omega) (c1_width (by omega) ?_)
      rw [Kp_wd (kp hf)]
      simp (disch := omega) only [wr_of]
      exact ⟨fun _ => hK ν (fun x' a b => c1 x' a (by omega)) hf, fun z => by omega⟩
    | succ g ih =>
      intro x ν x0 ex c1 c3 hf
      refine bX2_findClashes_10 (by omega) (c1_width (by omega) ?_)
      rw [Kp_wd (kp hf)]
      simp (disch := omega) only [wr_of]
      refine ⟨fun z => by omega, fun _ => inner x x0 (by omega) (wd μ).toNat 0 ν (by decide) (by omega) c1 (by rw [c3 x (Int.le_refl x) (by omega)]; exact Cb_0) (fun x' a b => c3 x' (by omega) b) hf (fun ν' d1 d2 d3 => ih (x + 1) ν' (by omega) (by omega) d1 (fun x' a b => d2 x' (by omega) b) d3)⟩
  refine eX2_findClashes (by omega) (c_fill ⟨by decide, by omega, by decide⟩ (outer (wd μ).toNat 0 _ (by decide) (by omega) (fun x' a b => by omega) (fun x' a b => ?_) (fun a j q => ?_)))
  · unfold zfill
    rw [if_pos ⟨rfl, a, by rw [show (zn 28 : Int) = 8 by decide]; exact b⟩]
  · unfold zfill
    rw [if_neg (fun w => q w.1)]
/-- the sets as bits of their members -/
def Mb (ν : zM) (p : Int → Int) (x : Int) : Prop := ∀ s, 0 ≤ s → s < 8 → (0 ≤ ν 29 s ∧ ν 29 s < 256) ∧ ∀ y, 0 ≤ y → y < 8 → (bt (ν 29 s) y = 1 ↔ y < x ∧ p y = s)
theorem c2_canPart (hn : 154 ≤ n) (h : I2 μ) {w : Nat} (hw : wd μ = w) {sets : Int} (hs0 : 1 ≤ sets) (hs1 : sets ≤ w) : ∀ (g x d : Nat) (p : Int → Int) (ν : zM) (K : Int → zM → Prop), x + g = w → g < d → Rg p x → Kp μ ν → (∀ x, 0 ≤ x → x < wd μ → Cb μ (ν 28 x) x (wd μ)) → Mb ν p x → (∀ y : Int, 0 ≤ y → y < x → ν 27 y = p y) →
    (∀ q, fs (CL μ) sets g x p = some q → ∀ ν' : zM, (∀ y : Int, 0 ≤ y → y < w → ν' 27 y = q y) → (∀ a j, a ≠ 27 → a ≠ 29 → ν' a j = ν a j) → K 1 ν') →
    (fs (CL μ) sets g x p = none → ∀ ν' : zM, Mb ν' p x → (∀ y : Int, 0 ≤ y → y < x → ν' 27 y = p y) → (∀ a j, a ≠ 27 → a ≠ 29 → ν' a j = ν a j) → K 0 ν') → mX2_canPart G n d x (sa p x) sets ν K := by
  obtain ⟨w1, w2, w3⟩ := h.w
  intro g
  induction g with
  | zero =>
    intro x d p ν K ex hd hr k c28 m27 h27 h1 h0
    obtain ⟨d, rfl⟩ : ∃ e, d = e + 1 := ⟨d - 1, by omega⟩
    refine eX2_canPart (by omega) (c1_width (by omega) ?_)
    rw [Kp_wd k, hw]
    simp (disch := omega) only [wr_of]
    exact ⟨fun z => by omega, fun _ => h1 p rfl ν (fun y a b => h27 y a (by omega)) (fun _ _ _ _ => rfl)⟩
  | succ g ih =>
    intro x d p ν K ex hd hr k c28 m27 h27 h1 h0
    obtain ⟨d, rfl⟩ : ∃ e, d = e + 1 := ⟨d - 1, by omega⟩
    have sr := sa_r x hr
    refine eX2_canPart (by omega) (c1_width (by omega) ?_)
    rw [Kp_wd k, hw]
    simp (disch := omega) only [wr_of]
    refine ⟨fun _ => ?_, fun z => by omega⟩
    rw [fs_s] at h1 h0
    have loop : ∀ (m : Nat) (s : Int) (ν : zM), 0 ≤ s → s + m = min (sa p x + 1) sets → Kp μ ν → (∀ x, 0 ≤ x → x < wd μ → Cb μ (ν 28 x) x (wd μ)) → Mb ν p x → (∀ y : Int, 0 ≤ y → y < x → ν 27 y = p y) →
        (∀ q, tryS (fF (CL μ) sets g x p) m s = some q → ∀ ν' : zM, (∀ y : Int, 0 ≤ y → y < w → ν' 27 y = q y) → (∀ a j, a ≠ 27 → a ≠ 29 → ν' a j = ν a j) → K 1 ν') →
        (tryS (fF (CL μ) sets g x p) m s = none → ∀ ν' : zM, Mb ν' p x → (∀ y : Int, 0 ≤ y → y < x → ν' 27 y = p y) → (∀ a j, a ≠ 27 → a ≠ 29 → ν' a j = ν a j) → K 0 ν') →
        pX2_canPart G n d K 16 [some (Rv G 26), some (Iv x), some (Iv (sa p x)), some (Iv sets), some (Iv s)] [] ν := by
      intro m
      induction m with
      | zero =>
        intro s ν s0 es k c28 m27 h27 h1 h0
        refine bX2_canPart_16 (by omega) ?_
        simp (disch := omega) only [wr_of]
        exact ⟨fun _ => h0 rfl ν m27 h27 (fun _ _ _ _ => rfl), fun _ => ⟨fun _ => h0 rfl ν m27 h27 (fun _ _ _ _ => rfl), fun z => by omega⟩⟩
      | succ m im =>
        intro s ν s0 es k c28 m27 h27 h1 h0
        have c := c28 x (by omega) (by omega)
        have mb := m27 s s0 (by omega)
        have an := and_0 mb.1.1 mb.1.2 c.1.1 c.1.2
        have okk : zand (ν 29 s) (ν 28 x) = 0 ↔ okp (CL μ) x s p := by
          rw [an.1]
          constructor
          · intro q y a b e cl
            exact q y a (by omega) ⟨(mb.2 y a (by omega)).2 ⟨b, e⟩, (c.2 y a (by omega)).2 ⟨by omega, by omega, cl⟩⟩
          · rintro q y a b ⟨u, v⟩
            obtain ⟨u1, u2⟩ := (mb.2 y a b).1 u
            exact q y a u1 u2 ((c.2 y a b).1 v).2.2
        rw [tryS_s] at h1 h0
        refine bX2_canPart_16 (by omega) ?_
        simp (disch := omega) only [wr_of]
        refine ⟨fun z => by omega, fun _ => ⟨fun z => by omega, fun _ => ⟨by omega, by omega, fun z => ?_, fun z => ?_⟩⟩⟩
        · have ok := okk.1 z
          have eF : fF (CL μ) sets g x p s = fs (CL μ) sets g (x + 1) (upd1 p x s) := by unfold fF; rw [if_pos ok]
          rw [eF] at h1 h0
          refine ⟨by omega, by omega, fun μ8 e8 => ⟨by omega, fun μ10 e10 => ?_⟩⟩
          have V : ∀ a j, μ10 a j = if a = 27 ∧ j = x then s else if a = 29 ∧ j = s then zor (ν 29 s) (zshl 1 x) else ν a j := fun a j => by rw [e10, e8]; rfl
          have os := or_step mb.1.1 mb.1.2 (y := (x : Int)) (by omega) (by omega)
          have fr10 : ∀ a j, a ≠ 27 → a ≠ 29 → μ10 a j = ν a j := fun a j q1 q2 => by rw [V, if_neg (fun w => q1 w.1), if_neg (fun w => q2 w.1)]
          have k10 : Kp μ μ10 := by
            refine ⟨?_, ?_, fun y => ?_, fun y => ?_⟩
            · rw [fr10 _ _ (by decide) (by decide)]; exact k.1
            · rw [fr10 _ _ (by decide) (by decide)]; exact k.2.1
            · rw [fr10 _ _ (by decide) (by decide)]; exact k.2.2.1 y
            · rw [fr10 _ _ (by decide) (by decide)]; exact k.2.2.2 y
          have ru : Rg (upd1 p x s) (x + 1) := upd_Rg hr s0 (by omega)
          have em : max (sa p x) (s + 1) = sa (upd1 p x s) (x + 1) := sa_upd.symm
          rw [em]
          have mb10 : Mb μ10 (upd1 p x s) ((x + 1 : Nat) : Int) := by
            intro s' a b
            by_cases d' : s' = s
            · subst d'
              rw [V, if_neg (by omega), if_pos ⟨rfl, rfl⟩]
              refine ⟨⟨os.1, os.2.1⟩, fun y y0 y1 => ?_⟩
              rw [or_bit mb.1.1 mb.1.2 (by omega) (by omega) y0 y1]
              unfold upd1
              by_cases e : y = x
              · rw [if_pos e, if_pos e]; exact ⟨fun _ => ⟨by omega, rfl⟩, fun _ => rfl⟩
              · rw [if_neg e, if_neg e, mb.2 y y0 y1]
                constructor
                · rintro ⟨q1, q2⟩; exact ⟨by omega, q2⟩
                · rintro ⟨q1, q2⟩; exact ⟨by omega, q2⟩
            · have mo := m27 s' a b
              rw [V, if_neg (by omega), if_neg (by omega)]
              refine ⟨mo.1, fun y y0 y1 => ?_⟩
              rw [mo.2 y y0 y1]
              unfold upd1
              by_cases e : y = x
              · rw [if_pos e]; exact ⟨fun q => by omega, fun q => absurd q.2.symm d'⟩
              · rw [if_neg e]
                constructor
                · rintro ⟨q1, q2⟩; exact ⟨by omega, q2⟩
                · rintro ⟨q1, q2⟩; exact ⟨by omega, q2⟩
          refine ih (x + 1) d (upd1 p x s) μ10 _ (by omega) (by omega) ru k10 (fun x' a b => by rw [fr10 _ _ (by decide) (by decide)]; exact c28 x' a b) mb10 (fun y a b => ?_) (fun q eq ν' g27 gf => ?_) (fun eq ν' gm g27 gf => ?_)
          · rw [V]
            unfold upd1
            by_cases e : y = x
            · rw [if_pos ⟨rfl, e⟩, if_pos e]
            · rw [if_neg (fun w => e w.2), if_neg (by omega), if_neg e]; exact h27 y a (by omega)
          · rw [eq] at h1
            refine ⟨fun z => absurd z (by decide), fun _ => h1 q rfl ν' g27 (fun a j q1 q2 => by rw [gf a j q1 q2, fr10 a j q1 q2])⟩
          · rw [eq] at h1 h0
            refine ⟨fun _ => ⟨by omega, by omega, fun μ16 e16 => ?_⟩, fun z => absurd rfl z⟩
            have ms := gm s s0 (by omega)
            have cb := clr_bit ms.1.1 ms.1.2 (y := (x : Int)) (by omega) (by omega)
            have V2 : ∀ a j, μ16 a j = if a = 29 ∧ j = s then zand (ν' 29 s) (zxor (zshl 1 x) (-1)) else ν' a j := fun a j => by rw [e16]; rfl
            have fr16 : ∀ a j, a ≠ 27 → a ≠ 29 → μ16 a j = ν a j := fun a j q1 q2 => by rw [V2, if_neg (fun w => q2 w.1), gf a j q1 q2, fr10 a j q1 q2]
            refine im (s + 1) μ16 (by omega) (by omega) ⟨?_, ?_, fun y => ?_, fun y => ?_⟩ (fun x' a b => ?_) (fun s' a b => ?_) (fun y a b => ?_) (fun q eq ν'' u1 u2 => h1 q eq ν'' u1 (fun a j q1 q2 => by rw [u2 a j q1 q2, fr16 a j q1 q2])) (fun eq ν'' u1 u2 u3 => h0 eq ν'' u1 u2 (fun a j q1 q2 => by rw [u3 a j q1 q2, fr16 a j q1 q2]))
            · rw [fr16 _ _ (by decide) (by decide)]; exact k.1
            · rw [fr16 _ _ (by decide) (by decide)]; exact k.2.1
            · rw [fr16 _ _ (by decide) (by decide)]; exact k.2.2.1 y
            · rw [fr16 _ _ (by decide) (by decide)]; exact k.2.2.2 y
            · rw [fr16 _ _ (by decide) (by decide)]; exact c28 x' a b
            · have mo := gm s' a b
              by_cases d' : s' = s
              · subst d'
                rw [V2, if_pos ⟨rfl, rfl⟩]
                refine ⟨cb.1, fun y y0 y1 => ?_⟩
                rw [cb.2 y y0 y1]
                by_cases e : y = x
                · rw [if_pos e]; exact ⟨fun q => absurd q (by decide), fun q => by omega⟩
                · rw [if_neg e, mo.2 y y0 y1]
                  unfold upd1
                  rw [if_neg e]
                  constructor
                  · rintro ⟨q1, q2⟩; exact ⟨by omega, q2⟩
                  · rintro ⟨q1, q2⟩; exact ⟨by omega, q2⟩
              · rw [V2, if_neg (by omega)]
                refine ⟨mo.1, fun y y0 y1 => ?_⟩
                rw [mo.2 y y0 y1]
                unfold upd1
                by_cases e : y = x
                · rw [if_pos e]; exact ⟨fun q => absurd q.2.symm d', fun q => by omega⟩
                · rw [if_neg e]
                  constructor
                  · rintro ⟨q1, q2⟩; exact ⟨by omega, q2⟩
                  · rintro ⟨q1, q2⟩; exact ⟨by omega, q2⟩
            · rw [V2, if_neg (by omega), g27 y a (by omega)]
              unfold upd1
              rw [if_neg (by omega)]
        · have nok : ¬ okp (CL μ) x s p := fun q => z (okk.2 q)
          have eF : fF (CL μ) sets g x p s = none := by unfold fF; rw [if_neg nok]
          rw [eF] at h1 h0
          exact im (s + 1) ν (by omega) (by omega) k c28 m27 h27 h1 h0
    exact loop _ 0 ν (by decide) (by omega) k c28 m27 h27 h1 h0
end T51
