section T26
variable {G : zG} {n : Nat} {μ ν : zM}
/-- nothing outside two zones has changed -/
def Fzz (z w : Nat) (μ μ' : zM) : Prop := ∀ a i, zone a i ≠ z → zone a i ≠ w → μ' a i = μ a i
theorem c1_takeOrder (hn : 154 ≤ n) {k : Int} {w : Nat} (hk : k = 1 ∧ w = 2 ∨ k = 2 ∧ w = 4 ∨ k = 3 ∧ w = 8) (hf : ∀ x : Int, 0 ≤ x → x < w → R32 (μ 126 x)) {K : Int → zM → Prop} (h1 : Ij w (μ 126) → K 1 (zcp (zu μ 19 0 k) 126 0 20 0 w)) (h0 : ¬ Ij w (μ 126) → K 0 μ) : mX1_takeOrder G n k 126 μ K := by
  have ew : zshl 1 k = w := by rcases hk with ⟨rfl, rfl⟩ | ⟨rfl, rfl⟩ | ⟨rfl, rfl⟩ <;> decide +kernel
  have hw : w = 2 ∨ w = 4 ∨ w = 8 := by omega
  have wf : zshl 1 (w : Int) - 1 < 256 ∧ 0 ≤ zshl 1 (w : Int) - 1 := by rcases hw with rfl | rfl | rfl <;> decide +kernel
  have zz : zk 126 = 0 ∧ zn 126 = 8 := by decide
  refine eX1_takeOrder (by omega) (fun v1 e1 => ?_)
  rw [e1, ew]
  have key : ∀ (g x : Nat), x + g = w → (∀ y : Nat, y < x → 0 ≤ μ 126 y ∧ μ 126 y < w) → pX1_takeOrder G n K 10 [some (Rv G 19), some (Iv k), some (Rv G 126), some (Iv w), some (Iv (sn (μ 126) x)), some (Iv x)] [] μ := by
    intro g
    induction g with
    | zero =>
      intro x ex hx
      have : x = w := by omega
      subst this
      have r := sn_R (f := μ 126) (w := x) (by omega) x hx
      refine bX1_takeOrder_10 (by omega) ?_
      simp (disch := omega) only [wr_of]
      refine ⟨fun _ => ⟨fun z μ3 e3 => ⟨⟨⟨by decide, by omega, zz.1⟩, by decide, ?_⟩, ⟨by decide, by omega⟩, by omega, fun μ7 e7 => ?_⟩, fun z => h0 (fun q => z ?_)⟩, fun z => by omega⟩
      · rw [zz.2]; omega
      · rw [e7, e3]
        exact h1 (Ij_nat.2 ⟨hx, (sn_full hw hx).1 z⟩)
      · exact (sn_full hw hx).2 (Ij_nat.1 q).2
    | succ g ih =>
      intro x ex hx
      have hfx := hf x (by omega) (by omega)
      have r := sn_R (f := μ 126) (w := w) (by omega) x hx
      refine bX1_takeOrder_10 (by omega) ?_
      unfold zin
      simp (disch := omega) only [wr_of]
      have b : (0 ≤ (126 : Int) ∧ (126 : Int) < n ∧ zk 126 = 0) ∧ 0 ≤ (x : Int) ∧ (x : Int) < zn 126 := ⟨⟨by decide, by omega, zz.1⟩, by omega, by rw [zz.2]; omega⟩
      refine ⟨fun z => by omega, fun _ => ⟨b, c_within hn ?_⟩⟩
      simp (disch := omega) only [wr_of, ite_b0, Classical.not_not]
      refine ⟨fun z => ⟨b, fun v13 e13 => ?_⟩, fun z => h0 (fun q => z ?_)⟩
      · rw [e13]
        refine ih (x + 1) (by omega) (fun y hy => ?_)
        by_cases c : y = x
        · subst c; omega
        · exact hx y (by omega)
      · have := (Ij_nat.1 q).1 x (by omega)
        omega
  exact key w 0 (by omega) (fun y hy => by omega)
theorem c8_orderL (hn : 154 ≤ n) {k at' : Int} {w : Nat} (hk : k = 1 ∧ w = 2 ∨ k = 2 ∧ w = 4 ∨ k = 3 ∧ w = 8) {f : Int → Int} (ha : 0 ≤ at') (ha2 : at' + w ≤ 240) (hf : ∀ x : Int, 0 ≤ x → x < w → μ 139 (at' + x) = f x ∧ R32 (f x)) {K : Int → zM → Prop} (h1 : Ij w f → K w (zmap (zu μ 127 12 k) 133 w f)) (h0 : ¬ Ij w f → K (-2) μ) : pX8_order G n K 73 [some (Rv G 127), some (Iv k), none, none, none, some (Iv w), none, some (Iv at'), some (Iv 0), some (Iv 0), none] [] μ := by
  have key : ∀ (g x : Nat), x + g = w → (∀ y : Nat, y < x → 0 ≤ f y ∧ f y < w) → (∀ y z : Nat, y < z → z < x → f y ≠ f z) → pX8_order G n K 73 [some (Rv G 127), some (Iv k), none, none, none, some (Iv w), none, some (Iv at'), some (Iv (sn f x)), some (Iv x), none] [] μ := by
    intro g
    induction g with
    | zero =>
      intro x ex hx hd
      have : x = w := by omega
      subst this
      refine bX8_order_73 hn ?_
      simp (disch := omega) only [wr_of]
      refine ⟨fun _ μ2 e2 => ?_, fun z => by omega⟩
      have cp : ∀ (g : Nat) (y : Int), 0 ≤ y → y + g = x → pX8_order G n K 142 [some (Rv G 127), none, none, none, none, some (Iv x), none, some (Iv at'), none, some (Iv y), none] [] (zmap μ2 133 y f) := by
        intro g
        induction g with
        | zero =>
          intro y y0 ey
          refine bX8_order_142 hn ?_
          simp (disch := omega) only [wr_of]
          refine ⟨fun _ => ?_, fun z => by omega⟩
          rw [show y = x by omega, e2]
          exact h1 (Ij_nat.2 ⟨hx, hd⟩)
        | succ g ih =>
          intro y y0 ey
          have := ih (y + 1) (by omega) (by omega)
          rw [← zmap_s y0] at this
          refine bX8_order_142 hn ?_
          simp (disch := omega) only [wr_of]
          refine ⟨fun z => by omega, fun _ => ⟨by omega, by omega, fun μ4 e4 => ?_⟩⟩
          rw [e4, zmap_na (by decide), e2, zu_na (by decide), (hf y y0 (by omega)).1, ← e2]
          exact this
      have := cp x 0 (by omega) (by omega)
      rwa [zmap_0] at this
    | succ g ih =>
      intro x ex hx hd
      have hfx := hf x (by omega) (by omega)
      have r := sn_R (f := f) (w := w) (by omega) x hx
      refine bX8_order_73 hn ?_
      simp (disch := omega) only [wr_of]
      refine ⟨fun z => by omega, fun _ => ⟨by omega, fun v4 e4 => ?_⟩⟩
      rw [e4, hfx.1]
      refine c8_within hn ?_
      simp (disch := omega) only [wr_of, ite_b0, Classical.not_not]
      refine ⟨fun z => h0 (fun q => z ?_), fun z => ?_⟩
      · have := (Ij_nat.1 q).1 x (by omega)
        omega
      · have b := sn_bit (f := f) (w := w) (v := f x) (by omega) z.1 (by omega) x hx
        have b2 := bt_01 (sn f x) (f x)
        have hw : wr (zand (zshr (sn f x) (f x)) 1) = bt (sn f x) (f x) := by
          show wr (bt (sn f x) (f x)) = _
          rw [wr_of (by omega) (by omega)]
        rw [hw]
        refine ⟨fun z2 v9 e9 => ?_, fun z2 => h0 (fun q => ?_)⟩
        · rw [e9]
          refine ih (x + 1) (by omega) (fun y hy => ?_) (fun y z' yz zx => ?_)
          · by_cases c : y = x
            · subst c; omega
            · exact hx y (by omega)
          · by_cases c : z' = x
            · subst c
              exact fun q => z2 (b.2 ⟨y, yz, q⟩)
            · exact hd y z' yz (by omega)
        · obtain ⟨y, y1, y2⟩ := b.1 z2
          exact (Ij_nat.1 q).2 y x y1 (by omega) y2
  exact key w 0 (by omega) (fun y hy => by omega) (fun y z _ hz => by omega)
theorem zshl_k {k : Int} (h0 : 1 ≤ k) (h1 : k ≤ 3) : ∃ w : Nat, zshl 1 k = w ∧ (k = 1 ∧ w = 2 ∨ k = 2 ∧ w = 4 ∨ k = 3 ∧ w = 8) := by
  have : k = 1 ∨ k = 2 ∨ k = 3 := by omega
  rcases this with rfl | rfl | rfl
  · exact ⟨2, by decide +kernel, by omega⟩
  · exact ⟨4, by decide +kernel, by omega⟩
  · exact ⟨8, by decide +kernel, by omega⟩
theorem Ij_ext {w : Int} {f g : Int → Int} (h : ∀ x, 0 ≤ x → x < w → f x = g x) (hf : Ij w f) : Ij w g := by
  refine ⟨fun x a b => ?_, fun x y a b c d q => ?_⟩
  · rw [← h x a b]; exact hf.1 x a b
  · rw [← h x a b, ← h y c d] at q; exact hf.2 x y a b c d q
theorem c7_order (hn : 154 ≤ n) (h : I5 μ) {k s l i : Int} (hk : R32 k) (hs : R32 s) (hl : R32 l) (hi : R32 i) {K : Int → zM → Prop}
    (k1 : ¬ (0 ≤ s ∧ s ≤ 3) → K (-1) (zu μ 0 8 0)) (k2 : (0 ≤ s ∧ s ≤ 3) → ¬ ((0 ≤ l ∧ l ≤ 2) ∧ (1 ≤ k ∧ k ≤ 3)) → K (-2) (zu μ 0 8 0))
    (k3 : (0 ≤ s ∧ s ≤ 3) → (0 ≤ l ∧ l ≤ 2) → (1 ≤ k ∧ k ≤ 3) → fcd (μ 119 s) (-1) l (μ 120 s) i (zshl 1 k) ≠ 0 → K (-10 - fcd (μ 119 s) (-1) l (μ 120 s) i (zshl 1 k)) (zu μ 0 8 (fcd (μ 119 s) (-1) l (μ 120 s) i (zshl 1 k))))
    (k4 : (0 ≤ s ∧ s ≤ 3) → (0 ≤ l ∧ l ≤ 2) → (1 ≤ k ∧ k ≤ 3) → fcd (μ 119 s) (-1) l (μ 120 s) i (zshl 1 k) = 0 → Ij (zshl 1 k) (fun x => μ (122 + s) (i + x)) → K (zshl 1 k) (zcp (zu (zcp (zu μ 0 8 0) (122 + s) i 126 0 (zshl 1 k)) 19 0 k) 126 0 20 0 (zshl 1 k)))
    (k5 : (0 ≤ s ∧ s ≤ 3) → (0 ≤ l ∧ l ≤ 2) → (1 ≤ k ∧ k ≤ 3) → fcd (μ 119 s) (-1) l (μ 120 s) i (zshl 1 k) = 0 → ¬ Ij (zshl 1 k) (fun x => μ (122 + s) (i + x)) → K (-2) (zcp (zu μ 0 8 0) (122 + s) i 126 0 (zshl 1 k))) : mX7_order G n k s l i μ K := by
  obtain ⟨a1, a2⟩ := id hk
  obtain ⟨b1, b2⟩ := id hs
  obtain ⟨c1, c2⟩ := id hl
  obtain ⟨d1, d2⟩ := id hi
  refine eX7_order hn (fun μ1 e1 => c_within hn ?_)
  simp (disch := omega) only [wr_of, ite_b0, Classical.not_not]
  refine ⟨fun z => c_within hn ?_, fun z => by rw [e1]; exact k1 z⟩
  simp (disch := omega) only [wr_of, ite_b0, Classical.not_not]
  refine ⟨fun z2 => by rw [e1]; exact k2 z (fun q => z2 q.1), fun z2 => c_within hn ?_⟩
  simp (disch := omega) only [wr_of, ite_b0, Classical.not_not]
  refine ⟨fun z3 v11 e11 => ?_, fun z3 => by rw [e1]; exact k2 z (fun q => z3 q.2)⟩
  have k3 := k3 z z2 z3
  have k4 := k4 z z2 z3
  have k5 := k5 z z2 z3
  obtain ⟨w, ew, hw⟩ := zshl_k z3.1 z3.2
  rw [ew] at k3 k4 k5 e11
  subst e11
  have la := (h.2 s z.1 (by omega)).1.r
  have g1 : μ1 119 s = μ 119 s := by rw [e1, zu_na (by decide)]
  have g2 : μ1 120 s = μ 120 s := by rw [e1, zu_na (by decide)]
  refine c5_foc hn (by omega) (by rw [g1]; exact la.1) hl hi ?_ ?_
  · rw [g1, g2]
    intro q
    have := la.2.2.2 q
    exact ⟨by omega, by omega⟩
  · rw [g1, g2]
    have fr := fcd_r (la := μ 119 s) (no := -1) (l := l) (len := μ 120 s) (i := i) (m := w)
    by_cases c : fcd (μ 119 s) (-1) l (μ 120 s) i w = 0
    · rw [c]
      refine ⟨fun _ => ?_, fun q => absurd rfl q⟩
      have f0 := fcd_0 c
      have l2 := la.2.2.2 f0.1
      have zz : zk 126 = 0 ∧ zn 126 = 8 := by decide
      refine eX5_read (by omega) ?_
      simp (disch := omega) only [wr_of]
      refine ⟨by omega, by omega, ⟨⟨by decide, by omega, zz.1⟩, by decide, by rw [zz.2]; omega⟩, by omega, fun μ5 e5 => ?_⟩
      rw [show (121 : Int) + 1 + s = 122 + s by omega, e1] at e5
      have rd : ∀ x : Int, 0 ≤ x → x < w → μ5 126 x = μ (122 + s) (i + x) := fun x x0 x1 => by
        rw [e5]; unfold zcp
        rw [if_pos ⟨rfl, x0, by omega⟩, zu_na (by omega), Int.sub_zero]
      refine c1_takeOrder hn hw (fun x x0 x1 => ?_) (fun q => ?_) (fun q => ?_)
      · rw [rd x x0 x1]
        exact ((h.2 s z.1 (by omega)).2 (i + x) (by omega) (by omega)).2.2.2
      · refine ⟨fun q => absurd q (by decide), fun _ => ?_⟩
        rw [e5] at q ⊢
        exact k4 c (Ij_ext (fun x x0 x1 => by rw [← e5]; exact rd x x0 x1) q)
      · refine ⟨fun _ => ?_, fun q => absurd rfl q⟩
        rw [e5] at q ⊢
        exact k5 c (fun q2 => q (Ij_ext (fun x x0 x1 => by rw [← e5]; exact (rd x x0 x1).symm) q2))
    · refine ⟨fun q => ?_, fun _ => eX7_faulted hn (fun μ6 e6 => ?_)⟩
      · rw [wr_of (by omega) (by omega)] at q; exact absurd q c
      · rw [e6, e1, zu_zu]; exact k3 c
theorem c8_order (hn : 154 ≤ n) (h : I5 μ) (hS : (∀ j, ν 137 j = μ 137 j) ∧ (∀ j, ν 138 j = μ 138 j) ∧ (∀ j, ν 139 j = μ 139 j)) {k s l i : Int} (hk : R32 k) (hs : R32 s) (hl : R32 l) (hi : R32 i) {K : Int → zM → Prop}
    (k1 : ¬ (0 ≤ s ∧ s ≤ 3) → K (-1) (zu ν 127 0 0)) (k2 : (0 ≤ s ∧ s ≤ 3) → ¬ ((0 ≤ l ∧ l ≤ 2) ∧ (1 ≤ k ∧ k ≤ 3)) → K (-2) (zu ν 127 0 0))
    (k3 : (0 ≤ s ∧ s ≤ 3) → (0 ≤ l ∧ l ≤ 2) → (1 ≤ k ∧ k ≤ 3) → fcd (μ 119 s) (-1) l (μ 120 s) i (zshl 1 k) ≠ 0 → K (-10 - fcd (μ 119 s) (-1) l (μ 120 s) i (zshl 1 k)) (zu ν 127 0 (fcd (μ 119 s) (-1) l (μ 120 s) i (zshl 1 k))))
    (k4 : (0 ≤ s ∧ s ≤ 3) → (0 ≤ l ∧ l ≤ 2) → (1 ≤ k ∧ k ≤ 3) → fcd (μ 119 s) (-1) l (μ 120 s) i (zshl 1 k) = 0 → Ij (zshl 1 k) (fun x => μ (122 + s) (i + x)) → K (zshl 1 k) (zmap (zu (zu ν 127 0 0) 127 12 k) 133 (zshl 1 k) (fun x => μ (122 + s) (i + x))))
    (k5 : (0 ≤ s ∧ s ≤ 3) → (0 ≤ l ∧ l ≤ 2) → (1 ≤ k ∧ k ≤ 3) → fcd (μ 119 s) (-1) l (μ 120 s) i (zshl 1 k) = 0 → ¬ Ij (zshl 1 k) (fun x => μ (122 + s) (i + x)) → K (-2) (zu ν 127 0 0)) : mX8_order G n k s l i ν K := by
  obtain ⟨a1, a2⟩ := id hk
  obtain ⟨b1, b2⟩ := id hs
  obtain ⟨c1, c2⟩ := id hl
  obtain ⟨d1, d2⟩ := id hi
  refine eX8_order hn (fun μ1 e1 => c8_isSheet hn ?_)
  simp (disch := omega) only [wr_of, ite_b0, Classical.not_not]
  refine ⟨fun z => c8_isLane hn ?_, fun z => by rw [e1]; exact k1 z⟩
  simp (disch := omega) only [wr_of, ite_b0, Classical.not_not]
  refine ⟨fun z2 => by rw [e1]; exact k2 z (fun q => z2 q.1), fun z2 => c8_within hn ?_⟩
  simp (disch := omega) only [wr_of, ite_b0, Classical.not_not]
  refine ⟨fun z3 v11 e11 => ?_, fun z3 => by rw [e1]; exact k2 z (fun q => z3 q.2)⟩
  have k3 := k3 z z2 z3
  have k4 := k4 z z2 z3
  have k5 := k5 z z2 z3
  obtain ⟨w, ew, hw⟩ := zshl_k z3.1 z3.2
  rw [ew] at k3 k4 k5 e11
  subst e11
  have la := (h.2 s z.1 (by omega)).1.r
  have lf := (h.2 s z.1 (by omega)).1.fc (l := l) (i := i) (m := w) z2
  have g1 : μ1 137 s = μ 137 s := by rw [e1, zu_na (by decide), hS.1]
  have g2 : μ1 138 s = μ 138 s := by rw [e1, zu_na (by decide), hS.2.1]
  refine c8_against hn (by omega) (by rw [g1]; exact la.2.1) hl hi (by rw [g1, g2]; exact la.2.2.1) (by omega) rfl ?_
  rw [g1, g2, ← lf]
  have fr := fcd_r (la := μ 119 s) (no := -1) (l := l) (len := μ 120 s) (i := i) (m := w)
  by_cases c : fcd (μ 119 s) (-1) l (μ 120 s) i w = 0
  · rw [if_pos c, if_pos c]
    have f0 := fcd_0 c
    have l2 := la.2.2.2 f0.1
    refine ⟨fun _ v15 e15 => ?_, fun q => absurd rfl q⟩
    rw [e15, e1]
    refine c8_orderL (f := fun x => μ (122 + s) (i + x)) hn hw (by omega) (by omega) (fun x x0 x1 => ?_) (fun q => k4 c q) (fun q => k5 c q)
    have ce := (h.2 s z.1 (by omega)).2 (i + x) (by omega) (by omega)
    rw [zu_na (by decide), hS.2.2, show 60 * s + i + x = 60 * s + (i + x) by omega]
    exact ⟨ce.1.symm, ce.2.2.2⟩
  · rw [if_neg c, if_neg c]
    refine ⟨fun q => ?_, fun _ => ?_⟩
    · rw [wr_of (by omega) (by omega)] at q; omega
    · rw [e1, zu_zu]; exact k3 c
theorem I5.fx (h : I5 μ) (hz : ∀ a i, zone a i = 5 → a ≠ 126 → ν a i = μ a i) : I5 ν := by
  have : I5 (fun a i => if a = 126 then μ a i else ν a i) := h.fz (fun a i q => by
    by_cases c : a = 126
    · rw [if_pos c]
    · rw [if_neg c]; exact hz a i q c)
  refine ⟨this.1, fun k h0 h1 => ⟨(this.2 k h0 h1).1, fun i g0 g1 => ?_⟩⟩
  have e := (this.2 k h0 h1).2 i g0 g1
  unfold Cells at e ⊢
  simp only at e
  rw [if_neg (by omega)] at e
  exact e
theorem I2.eq (h : I2 μ) (e : ∀ a i, zone a i = 2 → ν a i = μ a i) : I2 ν := by
  have e1 : ν 19 0 = μ 19 0 := e 19 0 rfl
  have e2 : ν 127 12 = μ 127 12 := e 127 12 rfl
  have e3 : ∀ x, ν 20 x = μ 20 x := fun x => e 20 x rfl
  have e4 : ∀ x, ν 133 x = μ 133 x := fun x => e 133 x rfl
  have e5 : wd ν = wd μ := by unfold wd; rw [e1]
  unfold I2 at h ⊢
  rw [e1, e2, e5]
  simp only [e3, e4]
  exact h
theorem t_order (hn : 154 ≤ n) (h2 : I2 μ) (h : I5 μ) {k s l i : Int} (hk : R32 k) (hs : R32 s) (hl : R32 l) (hi : R32 i) : mX7_order G n k s l i μ (fun a μ1 => mX8_order G n k s l i μ1 (fun b μ2 => a = b ∧ I2 μ2 ∧ I5 μ2 ∧ Fzz 2 5 μ μ2)) := by
  have z0 : ∀ (r : Int) (a i : Int), zone a i ≠ 5 → zu (zu μ 0 8 r) 127 0 r a i = μ a i := fun r a i q => by
    rw [zu_ne, zu_ne]
    · rintro ⟨rfl, rfl⟩; exact q rfl
    · rintro ⟨rfl, rfl⟩; exact q rfl
  have fin : ∀ r, R32 r → I2 (zu (zu μ 0 8 r) 127 0 r) ∧ I5 (zu (zu μ 0 8 r) 127 0 r) ∧ Fzz 2 5 μ (zu (zu μ 0 8 r) 127 0 r) := fun r hr =>
    ⟨h2.eq (fun a i q => z0 r a i (by rw [q]; decide)), h.fault hr, fun a i _ q => z0 r a i q⟩
  have fr := fun m => fcd_r (la := μ 119 s) (no := -1) (l := l) (len := μ 120 s) (i := i) (m := m)
  refine c7_order hn h hk hs hl hi (fun z => ?_) (fun z z2 => ?_) (fun z z2 z3 c => ?_) (fun z z2 z3 c q => ?_) (fun z z2 z3 c q => ?_)
  · refine c8_order hn h ⟨fun j => zu_na (by decide), fun j => zu_na (by decide), fun j => zu_na (by decide)⟩ hk hs hl hi (fun _ => ⟨rfl, fin 0 (by decide)⟩) (fun q => absurd q z) (fun q => absurd q z) (fun q => absurd q z) (fun q => absurd q z)
  · refine c8_order hn h ⟨fun j => zu_na (by decide), fun j => zu_na (by decide), fun j => zu_na (by decide)⟩ hk hs hl hi (fun q => absurd z q) (fun _ _ => ⟨rfl, fin 0 (by decide)⟩) (fun _ q1 q2 => absurd ⟨q1, q2⟩ z2) (fun _ q1 q2 => absurd ⟨q1, q2⟩ z2) (fun _ q1 q2 => absurd ⟨q1, q2⟩ z2)
  · refine c8_order hn h ⟨fun j => zu_na (by decide), fun j => zu_na (by decide), fun j => zu_na (by decide)⟩ hk hs hl hi (fun q => absurd z q) (fun _ q => absurd ⟨z2, z3⟩ q) (fun _ _ _ _ => ⟨rfl, fin _ ?_⟩) (fun _ _ _ q => absurd q c) (fun _ _ _ q => absurd q c)
    have := fr (zshl 1 k)
    exact ⟨by omega, by omega⟩
  · obtain ⟨w, ew, hw⟩ := zshl_k z3.1 z3.2
    have hj : ∀ b j, b ≠ 20 → b ≠ 19 → b ≠ 126 → b ≠ 0 → zcp (zu (zcp (zu μ 0 8 0) (122 + s) i 126 0 (zshl 1 k)) 19 0 k) 126 0 20 0 (zshl 1 k) b j = μ b j := fun b j q1 q2 q3 q4 => by
      unfold zcp
      rw [if_neg (fun q => q1 q.1), zu_na q2, if_neg (fun q => q3 q.1), zu_na q4]
    refine c8_order hn h ⟨fun j => hj _ _ (by decide) (by decide) (by decide) (by decide), fun j => hj _ _ (by decide) (by decide) (by decide) (by decide), fun j => hj _ _ (by decide) (by decide) (by decide) (by decide)⟩ hk hs hl hi (fun q => absurd z q) (fun _ q => absurd ⟨z2, z3⟩ q) (fun _ _ _ q => absurd c q) (fun _ _ _ _ _ => ⟨rfl, ?_, ?_, ?_⟩) (fun _ _ _ _ w => absurd q w)
    · have hk3 : k = 1 ∨ k = 2 ∨ k = 3 := by omega
      refine I2_of hk3 ?_ ?_ q (fun x x0 x1 => ⟨?_, ?_⟩)
      · rw [zmap_na (by decide), zu_na (by decide), zu_na (by decide)]
        unfold zcp
        rw [if_neg (fun q => absurd q.1 (by decide)), zu_same]
      · rw [zmap_na (by decide), zu_same]
      · rw [zmap_na (by decide), zu_na (by decide), zu_na (by decide)]
        unfold zcp
        rw [if_pos ⟨rfl, x0, by omega⟩, zu_na (by decide), if_pos ⟨rfl, by omega, by omega⟩, zu_na (by omega)]
        congr 1; omega
      · rw [zmap_in x0 x1]
    · refine (h.fault (v := 0) (by decide)).fx (fun b j hz h6 => ?_)
      have q1 : b ≠ 133 := fun q => absurd hz (by rw [q]; unfold zone; simp)
      have q2 : b ≠ 20 := fun q => absurd hz (by rw [q]; unfold zone; simp)
      have q3 : b ≠ 19 := fun q => absurd hz (by rw [q]; unfold zone; simp)
      have q4 : ¬ (b = 127 ∧ j = 12) := fun q => absurd hz (by rw [q.1, q.2]; decide)
      rw [zmap_na q1, zu_ne q4]
      by_cases c : b = 127 ∧ j = 0
      · rw [c.1, c.2, zu_same, zu_same]
      · rw [zu_ne c, zu_ne c]
        unfold zcp
        rw [if_neg (fun q => q2 q.1), zu_na q3, if_neg (fun q => h6 q.1)]
    · intro b j y1 y2
      have q1 : b ≠ 133 := fun q => y1 (by rw [q]; unfold zone; simp)
      have q2 : b ≠ 20 := fun q => y1 (by rw [q]; unfold zone; simp)
      have q3 : b ≠ 19 := fun q => y1 (by rw [q]; unfold zone; simp)
      have q4 : ¬ (b = 127 ∧ j = 12) := fun q => y1 (by rw [q.1, q.2]; decide)
      have q5 : ¬ (b = 127 ∧ j = 0) := fun q => y2 (by rw [q.1, q.2]; decide)
      have q6 : b ≠ 126 := fun q => y2 (by rw [q]; unfold zone; simp)
      have q7 : b ≠ 0 := fun q => y2 (by rw [q]; unfold zone; simp)
      rw [zmap_na q1, zu_ne q4, zu_ne q5, hj b j q2 q3 q6 q7]
  · have hj : ∀ b j, b ≠ 126 → b ≠ 0 → zcp (zu μ 0 8 0) (122 + s) i 126 0 (zshl 1 k) b j = μ b j := fun b j q3 q4 => by
      unfold zcp
      rw [if_neg (fun q => q3 q.1), zu_na q4]
    refine c8_order hn h ⟨fun j => hj _ _ (by decide) (by decide), fun j => hj _ _ (by decide) (by decide), fun j => hj _ _ (by decide) (by decide)⟩ hk hs hl hi (fun q => absurd z q) (fun _ q => absurd ⟨z2, z3⟩ q) (fun _ _ _ q => absurd c q) (fun _ _ _ _ w => absurd w q) (fun _ _ _ _ _ => ⟨rfl, ?_, ?_, ?_⟩)
    · refine h2.eq (fun b j hz => ?_)
      have q5 : ¬ (b = 127 ∧ j = 0) := fun q => absurd hz (by rw [q.1, q.2]; decide)
      have q6 : b ≠ 126 := fun q => absurd hz (by rw [q]; unfold zone; simp)
      have q7 : b ≠ 0 := fun q => absurd hz (by rw [q]; unfold zone; simp)
      rw [zu_ne q5, hj b j q6 q7]
    · refine (h.fault (v := 0) (by decide)).fx (fun b j hz h6 => ?_)
      by_cases c : b = 127 ∧ j = 0
      · rw [c.1, c.2, zu_same, zu_same]
      · rw [zu_ne c, zu_ne c]
        unfold zcp
        rw [if_neg (fun q => h6 q.1)]
    · intro b j y1 y2
      have q5 : ¬ (b = 127 ∧ j = 0) := fun q => y2 (by rw [q.1, q.2]; decide)
      have q6 : b ≠ 126 := fun q => y2 (by rw [q]; unfold zone; simp)
      have q7 : b ≠ 0 := fun q => y2 (by rw [q]; unfold zone; simp)
      rw [zu_ne q5, hj b j q6 q7]
end T26
