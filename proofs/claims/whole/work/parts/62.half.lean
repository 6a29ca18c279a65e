section T22
variable {G : zG} {n : Nat} {μ ν : zM}
def wd (μ : zM) : Int := zshl 1 (μ 19 0)
def I2 (μ : zM) : Prop := (μ 19 0 = μ 127 12 ∧ 1 ≤ μ 19 0 ∧ μ 19 0 ≤ 3) ∧ (∀ x, 0 ≤ x → x < wd μ → μ 20 x = μ 133 x ∧ 0 ≤ μ 20 x ∧ μ 20 x < wd μ) ∧ (∀ x y, 0 ≤ x → x < wd μ → 0 ≤ y → y < wd μ → μ 20 x = μ 20 y → x = y)
theorem I2.k (h : I2 μ) : (μ 19 0 = 1 ∧ wd μ = 2) ∨ (μ 19 0 = 2 ∧ wd μ = 4) ∨ (μ 19 0 = 3 ∧ wd μ = 8) := by
  obtain ⟨⟨_, a, b⟩, _⟩ := h
  unfold wd
  have : μ 19 0 = 1 ∨ μ 19 0 = 2 ∨ μ 19 0 = 3 := by omega
  rcases this with q | q | q <;> rw [q] <;> decide +kernel
theorem I2.w (h : I2 μ) : 2 ≤ wd μ ∧ wd μ ≤ 8 ∧ zshl 1 (μ 127 12) = wd μ := by
  refine ⟨?_, ?_, ?_⟩
  · rcases h.k with q | q | q <;> omega
  · rcases h.k with q | q | q <;> omega
  · rw [← h.1.1]; rfl
theorem I2.e (h : I2 μ) {x : Int} (h0 : 0 ≤ x) (h1 : x < wd μ) : μ 20 x = μ 133 x ∧ 0 ≤ μ 20 x ∧ μ 20 x < wd μ := h.2.1 x h0 h1
theorem c1_width (hn : 26 ≤ n) {K : Int → zM → Prop} (hK : K (wd μ) μ) : mX1_width G n μ K := eX1_width hn hK
theorem c8_isEnd (hn : 154 ≤ n) (h : I2 μ) {x : Int} (hx : R32 x) {K : Int → zM → Prop} (hK : K (if 0 ≤ x ∧ x < wd μ then 1 else 0) μ) : mX8_isEnd G n x μ K := by
  obtain ⟨w1, w2, w3⟩ := h.w
  obtain ⟨x1, x2⟩ := hx
  refine eX8_isEnd hn ?_
  simp (disch := omega) only [wr_of]
  refine ⟨fun z => by rwa [if_neg (by omega)] at hK, fun z => eX8_wide hn ?_⟩
  rw [w3]
  simp (disch := omega) only [wr_of]
  exact ⟨fun z => by rwa [if_neg (by omega)] at hK, fun z => by rwa [if_pos (by omega)] at hK⟩
theorem t_outlet (hn : 154 ≤ n) (h : I2 μ) {x : Int} (hx : R32 x) : mX7_outlet G n x μ (fun a μ1 => mX8_outlet G n x μ1 (fun b μ2 => a = b ∧ μ2 = μ)) := by
  obtain ⟨w1, w2, w3⟩ := h.w
  obtain ⟨x1, x2⟩ := id hx
  refine eX7_outlet hn (c1_width (by omega) (c_within hn ?_))
  simp (disch := omega) only [wr_of, ite_b0, Classical.not_not]
  refine ⟨fun z => eX8_outlet hn (c8_isEnd hn h hx ?_), fun z => ⟨by omega, eX8_outlet hn (c8_isEnd hn h hx ?_)⟩⟩
  · rw [if_neg (by omega)]
    exact ⟨fun _ => ⟨rfl, rfl⟩, fun q => absurd rfl q⟩
  · rw [if_pos (by omega)]
    simp (disch := omega) only [wr_of]
    exact ⟨fun q => absurd q (by decide), fun _ => ⟨by omega, (h.e (by omega) (by omega)).1, trivial⟩⟩
/-- bit j of a number below 8 -/
theorem bt8 : ∀ y : Fin 8, ∀ k : Fin 3, zand (zshr (y.val : Int) (k.val : Int)) 1 = ((y.val / 2 ^ k.val % 2 : Nat) : Int) := by decide +kernel
theorem lb16 : ∀ r : Fin 16, ∀ v : Fin 2, zor (zand (r.val : Int) (-2)) (v.val : Int) = 2 * ((r.val : Int) / 2) + (v.val : Int) := by decide +kernel
theorem bt_R {y k : Int} (h0 : 0 ≤ y) (h1 : y < 8) (k0 : 0 ≤ k) (k1 : k < 3) : 0 ≤ zand (zshr y k) 1 ∧ zand (zshr y k) 1 ≤ 1 := by
  have := bt8 ⟨y.toNat, by omega⟩ ⟨k.toNat, by omega⟩
  rw [show (((⟨y.toNat, by omega⟩ : Fin 8).val : Nat) : Int) = y from Int.toNat_of_nonneg h0, show (((⟨k.toNat, by omega⟩ : Fin 3).val : Nat) : Int) = k from Int.toNat_of_nonneg k0] at this
  rw [this]
  omega
theorem lb_of {r v : Int} (h0 : 0 ≤ r) (h1 : r < 16) (k0 : 0 ≤ v) (k1 : v ≤ 1) : zor (zand r (-2)) v = 2 * (r / 2) + v := by
  have := lb16 ⟨r.toNat, by omega⟩ ⟨v.toNat, by omega⟩
  rw [show (((⟨r.toNat, by omega⟩ : Fin 16).val : Nat) : Int) = r from Int.toNat_of_nonneg h0, show (((⟨v.toNat, by omega⟩ : Fin 2).val : Nat) : Int) = v from Int.toNat_of_nonneg k0] at this
  exact this
/-- the line of what comes in at x, behind j rows -/
def shf (w l : Int) : Int := if 2 * l < w then 2 * l else 2 * l - (w - 1)
def ln (μ : zM) (x : Int) : Nat → Int
  | 0 => x
  | j + 1 => 2 * (shf (wd μ) (ln μ x j) / 2) + zand (zshr (μ 20 x) (μ 19 0 - 1 - j)) 1
theorem shf_R {w l : Int} (hw : w = 2 ∨ w = 4 ∨ w = 8) (h0 : 0 ≤ l) (h1 : l < w) : 0 ≤ shf w l ∧ shf w l < w := by
  unfold shf
  split <;> omega
theorem ln_R (h : I2 μ) {x : Int} (h0 : 0 ≤ x) (h1 : x < wd μ) : ∀ j : Nat, (j : Int) ≤ μ 19 0 → 0 ≤ ln μ x j ∧ ln μ x j < wd μ
  | 0, _ => ⟨h0, h1⟩
  | j + 1, hj => by
    obtain ⟨w1, w2, w3⟩ := h.w
    have e := h.e h0 h1
    have ih := ln_R h h0 h1 j (by omega)
    have hk : wd μ = 2 ∨ wd μ = 4 ∨ wd μ = 8 := by rcases h.k with q | q | q <;> omega
    have := shf_R hk ih.1 ih.2
    have := h.1
    have b := bt_R (y := μ 20 x) (k := μ 19 0 - 1 - j) e.2.1 (by omega) (by omega) (by omega)
    simp only [ln]
    omega
theorem c2_lineBehind (hn : 154 ≤ n) (h : I2 μ) {x : Int} (h0 : 0 ≤ x) (h1 : x < wd μ) {j : Int} (j0 : 0 ≤ j) (j1 : j < μ 19 0) {K : Int → zM → Prop} (hK : K (ln μ x (j + 1).toNat) μ) : mX2_lineBehind G n x j μ K := by
  obtain ⟨w1, w2, w3⟩ := h.w
  have e := h.e h0 h1
  have hh := h.1
  have hk : wd μ = 2 ∨ wd μ = 4 ∨ wd μ = 8 := by rcases h.k with q | q | q <;> omega
  have key : ∀ (f m : Nat), (m : Int) + f = j + 1 → pX2_lineBehind G n K 5 [some (Rv G 26), some (Iv x), some (Iv j), some (Iv (ln μ x m)), some (Iv m), none] [] μ := by
    intro f
    induction f with
    | zero =>
      intro m em
      refine bX2_lineBehind_5 (by omega) ?_
      simp (disch := omega) only [wr_of]
      refine ⟨fun _ => ?_, fun z => by omega⟩
      rwa [show (j + 1).toNat = m by omega] at hK
    | succ f ih =>
      intro m em
      have r := ln_R h h0 h1 m (by omega)
      have sr := shf_R hk r.1 r.2
      have b := bt_R (y := μ 20 x) (k := μ 19 0 - 1 - m) e.2.1 (by omega) (by omega) (by omega)
      have := ih (m + 1) (by omega)
      simp only [ln] at this
      refine bX2_lineBehind_5 (by omega) ?_
      simp (disch := omega) only [wr_of]
      refine ⟨fun z => by omega, fun _ => ⟨by omega, fun v3 e3 => eX2_shuffled (by omega) (c1_width (by omega) ?_)⟩⟩
      rw [zdiv_of (by omega) (by omega) (by omega) (by omega)]
      simp (disch := omega) only [wr_of]
      refine ⟨fun z v6 e6 => ?_, fun z v6 e6 => ?_⟩
      · have q : shf (wd μ) (ln μ x m) = 2 * ln μ x m - (wd μ - 1) := by unfold shf; rw [if_neg (by rcases hk with q | q | q <;> rw [q] at z ⊢ <;> omega)]
        rw [q] at sr this
        rw [e6, e3, lb_of (by omega) (by omega) b.1 b.2]
        exact this
      · have q : shf (wd μ) (ln μ x m) = 2 * ln μ x m := by unfold shf; rw [if_pos (by rcases hk with q | q | q <;> rw [q] at z ⊢ <;> omega)]
        rw [q] at sr this
        rw [e6, e3, lb_of (by omega) (by omega) b.1 b.2]
        exact this
  exact eX2_lineBehind (by omega) (key (j + 1).toNat 0 (by omega))
theorem c8_lineOf (hn : 154 ≤ n) (h : I2 μ) {x : Int} (h0 : 0 ≤ x) (h1 : x < wd μ) {j : Int} (j0 : 0 ≤ j) (j1 : j < μ 19 0) {K : Int → zM → Prop} (hK : K (ln μ x (j + 1).toNat) μ) : mX8_lineOf G n x j μ K := by
  obtain ⟨w1, w2, w3⟩ := h.w
  have e := h.e h0 h1
  have hh := h.1
  have hk : wd μ = 2 ∨ wd μ = 4 ∨ wd μ = 8 := by rcases h.k with q | q | q <;> omega
  have key : ∀ (f m : Nat), (m : Int) + f = j + 1 → pX8_lineOf G n K 5 [some (Rv G 127), some (Iv x), some (Iv j), some (Iv (ln μ x m)), some (Iv m)] [] μ := by
    intro f
    induction f with
    | zero =>
      intro m em
      refine bX8_lineOf_5 (by omega) ?_
      simp (disch := omega) only [wr_of]
      refine ⟨fun _ => ?_, fun z => by omega⟩
      rwa [show (j + 1).toNat = m by omega] at hK
    | succ f ih =>
      intro m em
      have r := ln_R h h0 h1 m (by omega)
      have sr := shf_R hk r.1 r.2
      have := ih (m + 1) (by omega)
      simp only [ln] at this
      refine bX8_lineOf_5 (by omega) ?_
      simp (disch := omega) only [wr_of]
      refine ⟨fun z => by omega, fun _ => eX8_wide hn ?_⟩
      rw [w3]
      simp (disch := omega) only [wr_of]
      refine ⟨fun z v5 e5 => ⟨by omega, fun v7 e7 => ?_⟩, fun z => eX8_wide hn (fun v10 e10 => ⟨by omega, fun v12 e12 => ?_⟩)⟩
      · have q : shf (wd μ) (ln μ x m) = 2 * ln μ x m := by unfold shf; rw [if_pos z]
        rw [q] at sr this
        rw [e7, e5, zdiv_of (by omega) (by omega) (by omega) (by omega), ← hh.1, ← e.1]
        exact this
      · have q : shf (wd μ) (ln μ x m) = 2 * ln μ x m - (wd μ - 1) := by unfold shf; rw [if_neg z]
        rw [q] at sr this
        rw [e12, e10, w3, show 2 * ln μ x m - wd μ + 1 = 2 * ln μ x m - (wd μ - 1) by omega, zdiv_of (by omega) (by omega) (by omega) (by omega), ← hh.1, ← e.1]
        exact this
  exact eX8_lineOf (by omega) (key (j + 1).toNat 0 (by omega))
theorem t_line (hn : 154 ≤ n) (h : I2 μ) {x j : Int} (hx : R32 x) (hj : R32 j) : mX7_line G n x j μ (fun a μ1 => mX8_line G n x j μ1 (fun b μ2 => a = b ∧ μ2 = μ)) := by
  obtain ⟨w1, w2, w3⟩ := h.w
  obtain ⟨x1, x2⟩ := id hx
  obtain ⟨j1, j2⟩ := id hj
  have hh := h.1
  refine eX7_line hn (c1_width (by omega) (c_within hn ?_))
  simp (disch := omega) only [wr_of, ite_b0, Classical.not_not]
  refine ⟨fun z => eX8_line hn (c8_isEnd hn h hx ?_), fun z => c_within hn ?_⟩
  · rw [if_neg (by omega)]
    exact ⟨fun _ => ⟨rfl, rfl⟩, fun q => absurd rfl q⟩
  · simp (disch := omega) only [wr_of, ite_b0, Classical.not_not]
    refine ⟨fun z2 => c2_lineBehind hn h z.1 (by omega) z2.1 (by omega) (eX8_line hn (c8_isEnd hn h hx ?_)), fun z2 => eX8_line hn (c8_isEnd hn h hx ?_)⟩
    · rw [if_pos (by omega)]
      refine ⟨fun q => absurd q (by decide), fun _ => c8_within hn ?_⟩
      rw [← hh.1]
      simp (disch := omega) only [wr_of, ite_b0, Classical.not_not]
      exact ⟨fun q => by omega, fun _ => c8_lineOf hn h z.1 (by omega) z2.1 (by omega) ⟨rfl, rfl⟩⟩
    · rw [if_pos (by omega)]
      refine ⟨fun q => absurd q (by decide), fun _ => c8_within hn ?_⟩
      rw [← hh.1]
      simp (disch := omega) only [wr_of, ite_b0, Classical.not_not]
      exact ⟨fun q => ⟨trivial, trivial⟩, fun q => by omega⟩
/-- the first row from j on behind which x and y clash -/
def cl (μ : zM) (x y : Int) : Nat → Nat → Int
  | 0, _ => -9
  | f + 1, j => if ln μ x (j + 1) = ln μ y (j + 1) then (j : Int) else cl μ x y f (j + 1)
theorem c2_rowOfClash (hn : 154 ≤ n) (h : I2 μ) {x y : Int} (h0 : 0 ≤ x) (h1 : x < wd μ) (h2 : 0 ≤ y) (h3 : y < wd μ) {K : Int → zM → Prop} (hK : K (cl μ x y (μ 19 0).toNat 0) μ) : mX2_rowOfClash G n x y μ K := by
  obtain ⟨w1, w2, w3⟩ := h.w
  have hh := h.1
  have key : ∀ (f j : Nat), (j : Int) + f = μ 19 0 → K (cl μ x y f j) μ → pX2_rowOfClash G n K 2 [some (Rv G 26), some (Iv x), some (Iv y), some (Iv j)] [] μ := by
    intro f
    induction f with
    | zero =>
      intro j ej hk
      refine bX2_rowOfClash_2 (by omega) ?_
      simp (disch := omega) only [wr_of]
      exact ⟨fun _ => hk, fun z => by omega⟩
    | succ f ih =>
      intro j ej hk
      have r1 := ln_R h h0 h1 (j + 1) (by omega)
      have r2 := ln_R h h2 h3 (j + 1) (by omega)
      unfold cl at hk
      refine bX2_rowOfClash_2 (by omega) ?_
      simp (disch := omega) only [wr_of]
      refine ⟨fun z => by omega, fun _ => c2_lineBehind hn h h0 h1 (by omega) (by omega) (c2_lineBehind hn h h2 h3 (by omega) (by omega) ?_)⟩
      rw [show ((j : Int) + 1).toNat = j + 1 by omega]
      simp (disch := omega) only [wr_of]
      refine ⟨fun z => ?_, fun z => ?_⟩
      · rw [if_neg z] at hk; exact ih (j + 1) (by omega) hk
      · rwa [if_pos z] at hk
  exact eX2_rowOfClash (by omega) (key _ 0 (by omega) hK)
theorem c8_clashOf (hn : 154 ≤ n) (h : I2 μ) {x y : Int} (h0 : 0 ≤ x) (h1 : x < wd μ) (h2 : 0 ≤ y) (h3 : y < wd μ) {K : Int → zM → Prop} (hK : K (cl μ x y (μ 19 0).toNat 0) μ) : mX8_clashOf G n x y μ K := by
  obtain ⟨w1, w2, w3⟩ := h.w
  have hh := h.1
  have key : ∀ (f j : Nat), (j : Int) + f = μ 19 0 → K (cl μ x y f j) μ → pX8_clashOf G n K 2 [some (Rv G 127), some (Iv x), some (Iv y), some (Iv j)] [] μ := by
    intro f
    induction f with
    | zero =>
      intro j ej hk
      refine bX8_clashOf_2 (by omega) ?_
      rw [← hh.1]
      simp (disch := omega) only [wr_of]
      exact ⟨fun _ => hk, fun z => by omega⟩
    | succ f ih =>
      intro j ej hk
      have r1 := ln_R h h0 h1 (j + 1) (by omega)
      have r2 := ln_R h h2 h3 (j + 1) (by omega)
      unfold cl at hk
      refine bX8_clashOf_2 (by omega) ?_
      rw [← hh.1]
      simp (disch := omega) only [wr_of]
      refine ⟨fun z => by omega, fun _ => c8_lineOf hn h h0 h1 (by omega) (by omega) (c8_lineOf hn h h2 h3 (by omega) (by omega) ?_)⟩
      rw [show ((j : Int) + 1).toNat = j + 1 by omega]
      simp (disch := omega) only [wr_of]
      refine ⟨fun z => ?_, fun z => ?_⟩
      · rw [if_neg z] at hk; exact ih (j + 1) (by omega) hk
      · rwa [if_pos z] at hk
  exact eX8_clashOf (by omega) (key _ 0 (by omega) hK)
theorem t_clash (hn : 154 ≤ n) (h : I2 μ) {x y : Int} (hx : R32 x) (hy : R32 y) : mX7_clash G n x y μ (fun a μ1 => mX8_clash G n x y μ1 (fun b μ2 => a = b ∧ μ2 = μ)) := by
  obtain ⟨w1, w2, w3⟩ := h.w
  obtain ⟨x1, x2⟩ := id hx
  obtain ⟨y1, y2⟩ := id hy
  have m8 : ∀ a : Int, (¬ ((0 ≤ x ∧ x < wd μ) ∧ (0 ≤ y ∧ y < wd μ)) → a = -1) → ((0 ≤ x ∧ x < wd μ) → (0 ≤ y ∧ y < wd μ) → x = y → a = -3) → ((0 ≤ x ∧ x < wd μ) → (0 ≤ y ∧ y < wd μ) → x ≠ y → a = cl μ x y (μ 19 0).toNat 0) → mX8_clash G n x y μ (fun b μ2 => a = b ∧ μ2 = μ) := by
    intro a k1 k2 k3
    refine eX8_clash hn (c8_isEnd hn h hx ?_)
    simp (disch := omega) only [wr_of, ite_b0, Classical.not_not]
    refine ⟨fun z => ⟨k1 (fun q => z q.1), trivial⟩, fun z => c8_isEnd hn h hy ?_⟩
    simp (disch := omega) only [wr_of, ite_b0, Classical.not_not]
    refine ⟨fun z2 => ⟨fun z3 => c8_clashOf hn h z.1 z.2 z2.1 z2.2 ⟨k3 z z2 z3, rfl⟩, fun z3 => ⟨k2 z z2 z3, trivial⟩⟩, fun z2 => ⟨k1 (fun q => z2 q.2), trivial⟩⟩
  refine eX7_clash hn (c1_width (by omega) (c_within hn ?_))
  simp (disch := omega) only [wr_of, ite_b0, Classical.not_not]
  refine ⟨fun z => m8 _ (fun _ => rfl) (fun q => by omega) (fun q => by omega), fun z => c1_width (by omega) (c_within hn ?_)⟩
  simp (disch := omega) only [wr_of, ite_b0, Classical.not_not]
  refine ⟨fun z2 => ⟨fun z3 => c2_rowOfClash hn h (by omega) (by omega) (by omega) (by omega) (m8 _ (fun q => by omega) (fun _ _ q => absurd q z3) (fun _ _ _ => rfl)), fun z3 => m8 _ (fun q => by omega) (fun _ _ _ => rfl) (fun _ _ q => absurd z3 q)⟩, fun z2 => m8 _ (fun _ => rfl) (fun _ q => by omega) (fun _ q => by omega)⟩
end T22
